/-! the reference's rules are those of a run over the least costs -/
theorem rl_rl2 {G : GD} {pr D B : Nat → Option Nat} {S : Nat → Bool} {g : Nat} {o : Option Nat} (hB : q_lst (q_isB G pr D g) 0 G.R (B g)) : rl G pr D S g o ↔ rl2 G D B S g o := by
  have hH : ∀ i, isH G pr D S g i ↔ (Att G D g i ∧ S (G.g1 i) = true) := by
    intro i
    constructor
    · rintro ⟨h1, h2, h3⟩
      exact ⟨(byR_att h2).mp h1, h3⟩
    · rintro ⟨h1, h2⟩
      exact ⟨(byR_att h1.2.1).mpr h1, h1.2.1, h2⟩
  constructor
  · rintro ⟨ob, oc, h1, h2, h3⟩
    have e := lst_one h1 hB
    subst e
    exact ⟨oc, lst_iff hH h2, h3⟩
  · rintro ⟨oc, h2, h3⟩
    exact ⟨B g, oc, hB, lst_iff (fun i => (hH i).symm) h2, h3⟩
theorem bst_mx {G : GD} {pr D B : Nat → Option Nat} {S : Nat → Bool} {q : Option (Nat × Nat)} (hB : ∀ g, q_lst (q_isB G pr D g) 0 G.R (B g)) (h : q_bst G pr D S 8 q) : mx G D B S q := by
  cases q with
  | none => exact fun g r h1 h2 h3 h4 => h g r h1 h2 h3 ((rl_rl2 (hB g)).mpr h4)
  | some p =>
    obtain ⟨b, r⟩ := p
    obtain ⟨a1, a2, a3, x, a4, a5⟩ := h
    exact ⟨a1, a2, (rl_rl2 (hB b)).mp a3, x, a4, fun g y r' h1 h2 h3 h4 => a5 g y r' h1 h2 h3 ((rl_rl2 (hB g)).mpr h4)⟩
/-- the reference's row of rules -/
def nP (G : GD) (D B : Nat → Option Nat) (N : Nat) (f : ctF) : Prop := ∃ P, (∀ g, g < 8 → f 29 (8 * N + g) = en (P g)) ∧ MF G D B P
theorem wm_nodeLoopR {post : Int32 → ctN → ctF → Prop} {n : ctN} {f f0 : ctF} {G : GD} {T : TD} {o a b : Nat} {D B : Nat → Option Nat} (hB : ∀ g, q_lst (q_isB G (prG G T o a b) D g) 0 G.R (B g)) (hG : G.ok) (hT : T.ok G) (hM : gM G n f0) (hA : aM G T o a b f0) (hN : n 6 = nI T.N) (hN' : T.N < 120) (ho : o < G.O) (ha : 1 ≤ G.k o → a < T.N) (hb : 2 ≤ G.k o → b < T.N)
    (hsz : ∀ v g, v < T.N → g < 8 → szOK (f0 30 (8 * v + g)))
    (hs : sameM T.N f0 f) (hr : rowM T.N f D) (hbd : bndC D) (hnon : ∀ g, g < 8 → f 29 (8 * T.N + g) = -1 ∧ f 30 (8 * T.N + g) = -1) (hS : flagM f (fun _ => false))
    (h : ∀ f', nE G T o a b f0 f' D → nP G D B T.N f' → post (nI T.N) (va_up n 6 (nI (T.N + 1))) f') : ∃ j, wp_M_node_L236 post j 1 n f := by
  have loop : ∀ (d : Nat) (f : ctF) (S : Nat → Bool) (rk : Nat → Nat) (P : Nat → Option Nat) (c : Nat), MR G D B c S P → (∀ g, g < 8 → f 29 (8 * T.N + g) = en (P g)) → q_cS S + d = 8 → sameM T.N f0 f → rowM T.N f D → flagM f S → (∀ g, g < 8 → rowOK G f T.N o a rk S (q_cS S) g) → wp_M_node_L236 post (d + 2) 1 n f := by
    intro d
    induction d with
    | zero =>
      intro f S rk P c hR hP hd hs hr hS hk
      rw [wp_M_node_L236, hN]
      refine ⟨fun z => absurd z (by decide), fun _ => ?_⟩
      refine wm_settle hG hT (hM.same hs) (hA.same hs) hN' ho ha hb hr hbd hS (fun hb0 => ?_) (fun m r hb2 => ?_)
      · rw [wp_M_node_L236, hN]
        refine ⟨fun _ => ?_, fun z => absurd rfl z⟩
        rintro _ rfl
        rw [va_up_self, nI_1, nI_s1]
        exact h f ⟨hs, hr, rk, S, fun g hg => by have := hk g hg; rwa [show q_cS S = 8 by omega] at this⟩ ⟨P, hP, c, S, hR, bst_mx hB hb0⟩
      · exfalso
        obtain ⟨hm, hsm, -⟩ := hb2
        have := cS_up hm hsm
        have := cS_le (va_up S m true)
        omega
    | succ d ih =>
      intro f S rk P c hR hP hd hs hr hS hk
      rw [wp_M_node_L236, hN]
      refine ⟨fun z => absurd z (by decide), fun _ => ?_⟩
      refine wm_settle hG hT (hM.same hs) (hA.same hs) hN' ho ha hb hr hbd hS (fun hb0 => ?_) (fun m r hb2 => ?_)
      · rw [wp_M_node_L236, hN]
        refine ⟨fun _ => ?_, fun z => absurd rfl z⟩
        rintro _ rfl
        rw [va_up_self, nI_1, nI_s1]
        refine h f ⟨hs, hr, rk, S, fun g hg => ⟨(hk g hg).1, fun z => ?_⟩⟩ ⟨P, hP, c, S, hR, bst_mx hB hb0⟩
        obtain ⟨w1, w2⟩ := (hk g hg).2 z
        exact ⟨by have := cS_le S; omega, w2⟩
      · have hmx := bst_mx hB hb2
        obtain ⟨hm, hsm, hrl, -⟩ := hb2
        obtain ⟨hrR, hcase⟩ := rl_ok hrl
        obtain ⟨q1, q2, q3, q4, q5⟩ := hG.ru r hrR
        have hcu := cS_up hm hsm
        have a29 : setS G f T.N a b m r 29 = upd (f 29) (8 * T.N + m) (nI r) := by unfold setS; rw [va_up_ne _ _ (by decide), va_up_self]
        have a30 : setS G f T.N a b m r 30 = upd (f 30) (8 * T.N + m) (capS (rawS G (f 30) T.N a b r)) := by unfold setS; rw [va_up_self]
        have a31 : setS G f T.N a b m r 31 = upd (f 31) m 1 := by unfold setS; rw [va_up_ne _ _ (by decide), va_up_ne _ _ (by decide), va_up_self]
        have ao : ∀ k, k ≠ 29 → k ≠ 30 → k ≠ 31 → setS G f T.N a b m r k = f k := fun k z1 z2 z3 => by unfold setS; rw [va_up_ne _ _ z2, va_up_ne _ _ z1, va_up_ne _ _ z3]
        have szlow : ∀ v g, v < T.N → g < 8 → szOK (f 30 (8 * v + g)) := fun v g hv hg => by
          rw [(hs.2 (8 * v + g) (by omega)).2.2]; exact hsz v g hv hg
        have hop : ∀ o', G.op r = some o' → o' = o := by
          intro o' e
          have hok : okR G (prG G T o a b) D m r := by
            rcases hcase with z2 | z2
            · exact z2.1
            · exact z2.1
          obtain ⟨-, y, hy, -⟩ := hok
          have hch : chG G r = false := by unfold chG; rw [e]
          unfold byR at hy
          rw [if_neg (by rw [hch]; decide)] at hy
          unfold prG at hy
          by_cases c : G.op r = some o
          · rw [e] at c; exact Option.some.inj c
          · rw [if_neg c] at hy; cases hy
        have hraw : -1 ≤ (rawS G (f 30) T.N a b r).toInt := by
          unfold rawS
          cases e : G.op r with
          | none =>
            have hsz2 : szOK (f 30 (8 * T.N + G.g1 r)) := by
              cases w : S (G.g1 r) with
              | false => rw [((hk _ q3).1 w).2]; exact sz_m1
              | true => exact ((hk _ q3).2 w).2.1
            have := (sz_1 hsz2).1
            show -1 ≤ (1 + f 30 (8 * T.N + G.g1 r)).toInt
            omega
          | some o' =>
            have e2 := hop o' e
            subst e2
            show -1 ≤ (if G.k o' ≤ 0 then (1 : Int32) else if G.k o' ≤ 1 then 1 + f 30 (8 * a + G.g1 r) else 1 + f 30 (8 * a + G.g1 r) + f 30 (8 * b + G.g2 r)).toInt
            by_cases c0 : G.k o' ≤ 0
            · rw [if_pos c0, ia_1]; omega
            · have s1 := sz_1 (szlow a (G.g1 r) (ha (by omega)) q3)
              by_cases c1 : G.k o' ≤ 1
              · rw [if_neg c0, if_pos c1]; omega
              · rw [if_neg c0, if_neg c1]
                exact sz_2 s1.1 s1.2 (szlow b (G.g2 r) (hb (by omega)) q4)
        refine ih (setS G f T.N a b m r) (va_up S m true) (va_up rk m (q_cS S)) (va_up P m (some r)) (c + 1) (MR.cons hR hmx) (fun g hg => ?_) (by omega) (hs.tr ⟨fun k z1 z2 z3 z4 => ao k z2 z3 z4, fun j hj => ⟨by rw [ao 28 (by decide) (by decide) (by decide)], by rw [a29, upd_ne _ _ (by omega)], by rw [a30, upd_ne _ _ (by omega)]⟩⟩) (fun g hg => by rw [ao 28 (by decide) (by decide) (by decide)]; exact hr g hg) (fun g hg => ?_) (fun g hg => ?_)
        · rw [a29]
          by_cases e : g = m
          · subst e; rw [upd_self, va_up_self]; rfl
          · rw [upd_ne _ _ (by omega), va_up_ne _ _ e]; exact hP g hg
        · rw [a31]
          by_cases e : g = m
          · subst e; rw [upd_self, va_up_self]; rfl
          · rw [upd_ne _ _ e, va_up_ne _ _ e]; exact hS g hg
        · unfold rowOK
          rw [a29, a30, hcu]
          by_cases e : g = m
          · subst e
            rw [va_up_self, va_up_self, upd_self, upd_self]
            refine ⟨(fun z => nomatch z), fun _ => ⟨by omega, cap_ok hraw, r, hrR, rfl, fun z => ?_, fun o' z => ⟨hop o' z, fun z0 => ?_, fun z1 => ?_⟩⟩⟩
            · have hH : S (G.g1 r) = true := by
                rcases hcase with w | w
                · have := w.2; unfold chG at this; rw [z] at this; cases this
                · exact w.2.2
              have hne : G.g1 r ≠ g := fun q => by rw [q, hsm] at hH; cases hH
              rw [va_up_ne _ _ hne, va_up_ne _ _ hne]
              exact ⟨hH, ((hk _ q3).2 hH).1⟩
            · have e2 := hop o' z
              subst e2
              have : rawS G (f 30) T.N a b r = 1 := by
                unfold rawS; rw [z]
                show (if G.k o' ≤ 0 then (1 : Int32) else _) = 1
                exact if_pos (by omega)
              rw [this]; decide
            · have e2 := hop o' z
              subst e2
              have haN := ha (by omega)
              have er : rawS G (f 30) T.N a b r = 1 + f 30 (8 * a + G.g1 r) := by
                unfold rawS; rw [z]
                show (if G.k o' ≤ 0 then (1 : Int32) else if G.k o' ≤ 1 then 1 + f 30 (8 * a + G.g1 r) else 1 + f 30 (8 * a + G.g1 r) + f 30 (8 * b + G.g2 r)) = _
                rw [if_neg (by omega), if_pos (by omega)]
              have hs1 := szlow a (G.g1 r) haN q3
              have := cap_le (x := 1 + f 30 (8 * a + G.g1 r))
              rw [upd_ne _ _ (by omega), er]
              rw [ia_add (by rw [ia_1]; omega) (by rw [ia_1]; omega) (by have := hs1.1; omega) (by have := hs1.2; omega), ia_1] at this
              exact this
          · rw [va_up_ne _ _ e, va_up_ne _ _ e, upd_ne _ _ (by omega), upd_ne _ _ (by omega)]
            refine ⟨(hk g hg).1, fun z => ?_⟩
            obtain ⟨w1, w2, r2, w3, w4, w5, w6⟩ := (hk g hg).2 z
            refine ⟨by omega, w2, r2, w3, w4, fun z2 => ?_, fun o' z2 => ⟨(w6 o' z2).1, (w6 o' z2).2.1, fun z3 => ?_⟩⟩
            · obtain ⟨v1, v2⟩ := w5 z2
              have hne : G.g1 r2 ≠ m := fun q => by rw [q, hsm] at v1; cases v1
              rw [va_up_ne _ _ hne, va_up_ne _ _ hne]
              exact ⟨v1, v2⟩
            · have haN := ha (by omega)
              have := (hG.ru r2 w3).2.2.1
              rw [upd_ne _ _ (by omega)]
              exact (w6 o' z2).2.2 z3
  refine ⟨8 + 2, loop 8 f (fun _ => false) (fun _ => 0) (fun _ => none) 0 MR.nil (fun g hg => (hnon g hg).1) rfl hs hr hS (fun g hg => ⟨fun _ => hnon g hg, (fun z => nomatch z)⟩)⟩
theorem wm_nodeGreatR {post : Int32 → ctN → ctF → Prop} {n : ctN} {f f0 : ctF} {G : GD} {T : TD} {o a b : Nat} {D B : Nat → Option Nat} (hB : ∀ g, q_lst (q_isB G (prG G T o a b) D g) 0 G.R (B g)) (hG : G.ok) (hT : T.ok G) (hM : gM G n f0) (hA : aM G T o a b f0) (hN : n 6 = nI T.N) (hN' : T.N < 120) (ho : o < G.O) (ha : 1 ≤ G.k o → a < T.N) (hb : 2 ≤ G.k o → b < T.N)
    (hsz : ∀ v g, v < T.N → g < 8 → szOK (f0 30 (8 * v + g)))
    (hE : mE G (prG G T o a b) T.N f0 f D)
    (h1 : dearTo D 8 → ∀ f', sameM T.N f0 f' → post 0 (va_up n 3 2) f')
    (h0 : ¬ dearTo D 8 → ∀ f', nE G T o a b f0 f' D → nP G D B T.N f' → post (nI T.N) (va_up (va_up n 3 0) 6 (nI (T.N + 1))) f') : ∃ j, wp_M_node_L167 post j 0 0 n f := by
  have e8 : (8 : Int32) = nI 8 := ix_8
  have em : (1000000 : Int32) = nI 1000000 := by decide
  have loop : ∀ (d m : Nat) (f1 : ctF) (x7 : Int32), 8 = m + d → sameM T.N f0 f1 → f1 28 = f 28 → f1 29 = f 29 → f1 30 = f 30 → (∀ g, g < m → f1 31 g = 0) → ((x7 = 0 ∧ ¬ dearTo D m) ∨ (x7 = 1 ∧ dearTo D m)) → wp_M_node_L167 post (d + 1) x7 (nI m) n f1 := by
    intro d
    induction d with
    | zero =>
      intro m f1 x7 hd hs s28 s29 s30 hfl hx
      have e : m = 8 := by omega
      subst e
      rw [wp_M_node_L167]
      refine ⟨fun _ => ?_, fun z => absurd (by rw [e8]; exact nI_le (Nat.le_refl 8) (by decide)) z⟩
      rcases hx with ⟨rfl, hx⟩ | ⟨rfl, hx⟩
      · refine wm_refuse (fun z => absurd rfl z) (fun _ z => absurd rfl z) (fun _ _ z => absurd rfl z) (fun _ _ _ => ⟨fun _ => ?_, fun z => absurd rfl z⟩)
        have n4 : va_up n 3 0 4 = n 4 := va_up_ne _ _ (by decide)
        have n5 : va_up n 3 0 5 = n 5 := va_up_ne _ _ (by decide)
        exact wm_nodeLoopR hB hG hT (hM.up n4 n5 (fun _ _ _ => rfl)) hA (by rw [va_up_ne _ _ (by decide)]; exact hN) hN' ho ha hb hsz hs (fun g hg => by rw [s28]; exact hE.row g hg) hE.bnd (fun g hg => by rw [s29, s30]; exact hE.non g hg) (fun g hg => hfl g hg) (fun f' hf' hp' => h0 hx f' hf' hp')
      · refine wm_refuse (fun z => absurd rfl z) (fun _ _ => ⟨fun z => absurd z (by decide), fun _ => h1 hx f1 hs⟩) (fun _ z => absurd z (by decide)) (fun _ z => absurd z (by decide))
    | succ d ih =>
      intro m f1 x7 hd hs s28 s29 s30 hfl hx
      have hm : m < 8 := by omega
      have hmc : (nI m).toNatClampNeg = m := nI_clamp (by omega)
      have hmi : vp_in (nI m) 8 := vp_in_nI hm (by decide)
      have nx : ∀ (f2 : ctF) (x : Int32), f2 = va_up f1 31 (upd (f1 31) m 0) → ((x = 0 ∧ ¬ dearTo D (m + 1)) ∨ (x = 1 ∧ dearTo D (m + 1))) → wp_M_node_L167 post (d + 1) x (nI (m + 1)) n f2 := by
        intro f2 x hf2 hx2
        have a31 : f2 31 = upd (f1 31) m 0 := by rw [hf2, va_up_self]
        have ao : ∀ k, k ≠ 31 → f2 k = f1 k := fun k hk => by rw [hf2, va_up_ne _ _ hk]
        refine ih (m + 1) f2 x (by omega) (hs.tr ⟨fun k _ _ _ z => ao k z, fun j _ => ⟨by rw [ao 28 (by decide)], by rw [ao 29 (by decide)], by rw [ao 30 (by decide)]⟩⟩) (by rw [ao 28 (by decide), s28]) (by rw [ao 29 (by decide), s29]) (by rw [ao 30 (by decide), s30]) (fun g hg => ?_) hx2
        rw [a31]
        by_cases e : g = m
        · subst e; rw [upd_self]
        · rw [upd_ne _ _ e]; exact hfl g (by omega)
      rw [wp_M_node_L167, hmc, nar0, nI_1]
      refine ⟨fun z => absurd z (by rw [e8]; exact nI_ge hm (by decide)), fun _ => ⟨fun z => ⟨hmi, ?_⟩, fun z => ?_⟩⟩
      · rintro f2 hf2 _ rfl
        rcases hx with ⟨rfl, -⟩ | ⟨-, g, x, hg, hgx⟩
        · exact absurd rfl z
        · exact nx f2 1 hf2 (Or.inr ⟨rfl, g, x, by omega, hgx⟩)
      · rcases hx with ⟨-, hx⟩ | ⟨rfl, -⟩
        · rw [hN, ix_m, ix_cl hN' hm, s28, hE.row m hm, em]
          have hlt : ∀ x, D m = some x → x < 2 ^ 31 := fun x hx => by have := bnd_lt hE.bnd hx; omega
          refine ⟨ix_in hN' hm, fun w => ⟨hmi, ?_⟩, fun w => ⟨hmi, ?_⟩⟩
          · rintro f2 hf2 _ rfl
            refine nx f2 0 hf2 (Or.inl ⟨rfl, fun ⟨g, x, hg, hc, hgt⟩ => ?_⟩)
            by_cases e : g = m
            · subst e
              rw [hc] at w
              have := (nI_leI (hlt x hc) (by decide)).mp w
              omega
            · exact hx ⟨g, x, by omega, hc, hgt⟩
          · rintro f2 hf2 _ rfl
            refine nx f2 1 hf2 (Or.inr ⟨rfl, ?_⟩)
            cases hc : D m with
            | none => rw [hc, en_n] at w; exact absurd (by decide) w
            | some x =>
              rw [hc, en_s] at w
              refine ⟨m, x, by omega, hc, ?_⟩
              rcases Nat.lt_or_ge 1000000 x with v | v
              · exact v
              · exact absurd ((nI_leI (hlt x hc) (by decide)).mpr v) w
        · exact absurd z (by decide)
  have q := loop 8 0 f 0 (by omega) hE.same rfl rfl rfl (fun g hg => absurd hg (Nat.not_lt_zero _)) (Or.inl ⟨rfl, fun ⟨g, x, hg, _⟩ => absurd hg (Nat.not_lt_zero _)⟩)
  rw [nI_0] at q
  exact ⟨9, q⟩
