/-! the reference's find, like, states: they end -/
def tM (G : GD) (T : TD) (n : ctN) (f : ctF) : Prop := (n 6 = nI T.N) ∧ (∀ v, v < T.N → f 25 v = nI (T.kd v) ∧ f 26 v = nI (T.u1 v) ∧ f 27 v = nI (T.u2 v)) ∧ (∀ v g, v < T.N → g < 8 → f 28 (8 * v + g) = en (T.C v g)) ∧ (∃ (rk : Nat → Nat → Nat) (S : Nat → Nat → Bool), ∀ v g, v < T.N → g < 8 → rowOK G f v (T.kd v) (T.u1 v) (rk v) (S v) 8 g)
theorem tM.nN {G : GD} {T : TD} {n : ctN} {f : ctF} (h : tM G T n f) : n 6 = nI T.N := h.1
theorem tM.nd {G : GD} {T : TD} {n : ctN} {f : ctF} (h : tM G T n f) : ∀ v, v < T.N → f 25 v = nI (T.kd v) ∧ f 26 v = nI (T.u1 v) ∧ f 27 v = nI (T.u2 v) := h.2.1
theorem tM.co {G : GD} {T : TD} {n : ctN} {f : ctF} (h : tM G T n f) : ∀ v g, v < T.N → g < 8 → f 28 (8 * v + g) = en (T.C v g) := h.2.2.1
theorem tM.ch {G : GD} {T : TD} {n : ctN} {f : ctF} (h : tM G T n f) : ∃ (rk : Nat → Nat → Nat) (S : Nat → Nat → Bool), ∀ v g, v < T.N → g < 8 → rowOK G f v (T.kd v) (T.u1 v) (rk v) (S v) 8 g := h.2.2.2
theorem rowOK.sz {G : GD} {f : ctF} {v o a : Nat} {rk : Nat → Nat} {S : Nat → Bool} {m g : Nat} (h : rowOK G f v o a rk S m g) : szOK (f 30 (8 * v + g)) := by
  cases w : S g with
  | false => rw [(h.1 w).2]; exact sz_m1
  | true => exact (h.2 w).2.1
theorem tM.sz {G : GD} {T : TD} {n : ctN} {f : ctF} (h : tM G T n f) {v g : Nat} (hv : v < T.N) (hg : g < 8) : szOK (f 30 (8 * v + g)) := by
  obtain ⟨rk, S, hk⟩ := h.ch
  exact (hk v g hv hg).sz
theorem wm_find {post : ctN → ctF → Prop} {n : ctN} {f : ctF} {G : GD} {T : TD} (hG : G.ok) (hT : T.ok G) (hM : gM G n f) (hD : tM G T n f) {v g q : Nat} (hv : v < T.N) (hg : g < 8) (hq : q ≤ 2001) (h : ∀ n', (∀ k, k ≠ 7 → k ≠ 8 → n' k = n k) → post n' f) : wp_M_find post (nI v) (nI g) (nI q) n f := by
  have hN120 := hT.N120
  have hR40 := hG.R40
  have hO10 := hG.O10
  obtain ⟨rk, S, hk⟩ := hD.ch
  have loop : ∀ (B v g q : Nat) (n' : ctN), v < T.N → g < 8 → n' 7 = nI v → 8 * v + (if S v g = true then rk v g else 0) < B → q + (8 * v + (if S v g = true then rk v g else 0)) ≤ 2961 → (∀ k, k ≠ 7 → k ≠ 8 → n' k = n k) → wp_M_find_L26 post B (nI g) (nI q) n' f := by
    intro B
    induction B with
    | zero => intro v g q n' _ _ _ z; exact absurd z (Nat.not_lt_zero _)
    | succ B ih =>
      intro v g q n' hv hg hn7 hB hq hn
      have hvc : (nI v).toNatClampNeg = v := nI_clamp (by omega)
      have hvi : vp_in (nI v) 120 := vp_in_nI (by omega) (by decide)
      have hx := ix_in (v := v) (g := g) (by omega) hg
      have hcl := ix_cl (v := v) (g := g) (by omega) hg
      have hq31 : q < 2 ^ 31 := by omega
      rw [wp_M_find_L26, hn7, ix_m, hcl]
      refine ⟨hx, fun _ => h n' hn, fun c => ⟨hx, ?_⟩⟩
      rintro _ rfl
      obtain ⟨k1, k2⟩ := hk v g hv hg
      obtain ⟨nd1, nd2, nd3⟩ := hD.nd v hv
      obtain ⟨m1, m2, m3, m4⟩ := hT.nd v hv
      have J : ∀ (v2 g2 q2 : Nat) (n2 : ctN), v2 < T.N → g2 < 8 → n2 7 = nI v2 → 8 * v2 + (if S v2 g2 = true then rk v2 g2 else 0) < B → q2 + (8 * v2 + (if S v2 g2 = true then rk v2 g2 else 0)) ≤ 2961 → (∀ k, k ≠ 7 → k ≠ 8 → n2 k = n k) → wp_M_find_J175 post (wp_M_find_L26 post B) (nI g2) (nI q2) n2 f := by
        intro v2 g2 q2 n2 a1 a2 a3 a4 a5 a6
        unfold wp_M_find_J175
        rw [a3, ix_m]
        refine ⟨ix_in (by omega) a2, ?_⟩
        rintro _ rfl
        exact ih v2 g2 q2 _ a1 a2 (by rw [va_up_ne _ _ (by decide)]; exact a3) a4 a5 (fun k z1 z2 => by rw [va_up_ne _ _ z2]; exact a6 k z1 z2)
      cases hs : S v g with
      | false =>
        exfalso
        apply c
        rw [(k1 hs).2, w_le, nI_toInt hq31]
        have : ((-1 : Int32) - 1).toInt = -2 := by decide
        omega
      | true =>
        rw [if_pos hs] at hB hq
        obtain ⟨w1, w2, r, hr, h29, w5, w6⟩ := k2 hs
        have hrc : (nI r).toNatClampNeg = r := nI_clamp (by omega)
        have hri : vp_in (nI r) 40 := vp_in_nI (by omega) (by decide)
        obtain ⟨q1, q2, q3, q4, q5⟩ := hG.ru r hr
        obtain ⟨r20, r21, r22, r23, rb⟩ := hM.ru r hr
        have c' : (q : Int) + 1 < (f 30 (8 * v + g)).toInt := by
          rw [w_le, nI_toInt hq31, ia_sub (by have := w2.1; omega) (by have := w2.2; omega) (by rw [ia_1]; omega) (by rw [ia_1]; omega), ia_1] at c
          omega
        rw [h29, hrc, r22, hvc]
        have lt8 : ∀ v2 g2, v2 < T.N → g2 < 8 → (if S v2 g2 = true then rk v2 g2 else 0) < 8 := by
          intro v2 g2 a1 a2
          by_cases z : S v2 g2 = true
          · rw [if_pos z]; exact ((hk v2 g2 a1 a2).2 z).1
          · rw [if_neg z]; decide
        refine ⟨hri, fun z => ⟨hvi, hri, ?_⟩, fun z => ⟨hri, ?_⟩⟩
        · obtain ⟨o', e⟩ : ∃ o', G.op r = some o' := by
            cases e : G.op r with
            | none => rw [e] at z; exact absurd z (by decide)
            | some o' => exact ⟨o', rfl⟩
          obtain ⟨e1, e2, e3⟩ := w6 o' e
          subst e1
          have hk0 : 1 ≤ G.k (T.kd v) := by
            rcases Nat.eq_zero_or_pos (G.k (T.kd v)) with z0 | z0
            · rw [e2 z0, ia_1] at c'; omega
            · exact z0
          obtain ⟨m5, m6⟩ := m4 hk0
          have hsz := (hk (T.u1 v) (G.g1 r) (by omega) q3).sz
          have hsz1 := hsz.1
          have hsz2 := hsz.2
          have l1 := lt8 (T.u1 v) (G.g1 r) (by omega) q3
          rw [nd2, (rb _ e).1 hk0, ix_m, ix_cl (by omega) q3]
          refine ⟨ix_in (by omega) q3, ?_⟩
          rintro _ rfl
          refine ⟨fun y => ?_, fun y => ⟨hvi, ?_⟩⟩
          · rw [w_le, nI_toInt hq31] at y
            have hk2 : 2 ≤ G.k (T.kd v) := by
              rcases Nat.lt_or_ge (G.k (T.kd v)) 2 with z1 | z1
              · have := e3 (by omega); omega
              · exact z1
            have l2 := lt8 (T.u2 v) (G.g2 r) (by omega) q4
            rintro _ rfl
            refine ⟨hvi, ?_⟩
            rw [nd3]
            rintro _ rfl
            refine ⟨hri, ?_⟩
            rw [(rb _ e).2 hk2]
            rintro _ rfl
            have hsub : nI q - f 30 (8 * T.u1 v + G.g1 r) = nI ((q : Int) - (f 30 (8 * T.u1 v + G.g1 r)).toInt).toNat := by
              apply Int32.toInt_inj.mp
              rw [ia_sub (by rw [nI_toInt hq31]; omega) (by rw [nI_toInt hq31]; omega) (by omega) (by omega), nI_toInt hq31, nI_toInt (by omega)]
              omega
            rw [hsub]
            exact J (T.u2 v) (G.g2 r) _ _ (by omega) q4 (va_up_self _ _ _) (by omega) (by omega) (fun k z1 z2 => by rw [va_up_ne _ _ z1]; exact hn k z1 z2)
          · rintro _ rfl
            refine ⟨hri, ?_⟩
            rintro _ rfl
            exact J (T.u1 v) (G.g1 r) q _ (by omega) q3 (va_up_self _ _ _) (by omega) (by omega) (fun k z1 z2 => by rw [va_up_ne _ _ z1]; exact hn k z1 z2)
        · have e : G.op r = none := by
            cases e : G.op r with
            | none => rfl
            | some o' => rw [e] at z; exact absurd (nI_pos' (by have := q5 o' e; omega)) z
          obtain ⟨v1, v2⟩ := w5 e
          rw [r23 e]
          rintro _ rfl
          exact J v (G.g1 r) q n' hv q3 hn7 (by rw [if_pos v1]; omega) (by rw [if_pos v1]; omega) hn
  unfold wp_M_find
  rintro _ rfl
  rw [ix_m]
  refine ⟨ix_in (by omega) hg, ?_⟩
  rintro _ rfl
  have l1 : (if S v g = true then rk v g else 0) < 8 := by
    by_cases z : S v g = true
    · rw [if_pos z]; exact ((hk v g hv hg).2 z).1
    · rw [if_neg z]; decide
  exact ⟨961, loop 961 v g q _ hv hg (by rw [va_up_ne _ _ (by decide), va_up_self]) (by omega) (by omega) (fun k z1 z2 => by rw [va_up_ne _ _ z2, va_up_ne _ _ z1])⟩
theorem wm_leastCost (f : ctF) {v : Nat} (hv : v < 120) : ∃ L, ∀ (post : Int32 → ctN → ctF → Prop) (n : ctN), post L n f → wp_M_leastCost post (nI v) n f := by
  have e8 : (8 : Int32) = nI 8 := ix_8
  have loop : ∀ (d m : Nat) (x2 : Int32), 8 = m + d → ∃ L, ∀ (post : Int32 → ctN → ctF → Prop) (n : ctN), post L n f → wp_M_leastCost_L4 post (d + 1) (nI v) x2 (nI m) n f := by
    intro d
    induction d with
    | zero =>
      intro m x2 hd
      have e : m = 8 := by omega
      subst e
      refine ⟨x2, fun post n h => ?_⟩
      rw [wp_M_leastCost_L4]
      exact ⟨fun _ => h, fun z => absurd (by rw [e8]; exact nI_le (Nat.le_refl 8) (by decide)) z⟩
    | succ d ih =>
      intro m x2 hd
      have hm : m < 8 := by omega
      obtain ⟨L, hL⟩ := ih (m + 1) (if f 28 (8 * v + m) < 0 then x2 else if x2 < 0 then f 28 (8 * v + m) else if x2 ≤ f 28 (8 * v + m) then x2 else f 28 (8 * v + m)) (by omega)
      refine ⟨L, fun post n h => ?_⟩
      have h2 := hL post n h
      rw [wp_M_leastCost_L4, ix_m, ix_cl hv hm, nI_1]
      refine ⟨fun z => absurd z (by rw [e8]; exact nI_ge hm (by decide)), fun _ => ⟨ix_in hv hm, ?_⟩⟩
      rintro _ rfl
      refine ⟨fun a => ?_, fun a => ⟨fun b => ?_, fun b => ⟨fun c => ?_, fun c => ?_⟩⟩⟩
      · rintro _ rfl; rw [if_pos a] at h2; exact h2
      · rintro _ rfl; rw [if_neg a, if_pos b] at h2; exact h2
      · rintro _ rfl; rw [if_neg a, if_neg b, if_pos c] at h2; exact h2
      · rintro _ rfl; rw [if_neg a, if_neg b, if_neg c] at h2; exact h2
  obtain ⟨L, hL⟩ := loop 8 0 (-1) (by omega)
  refine ⟨L, fun post n h => ?_⟩
  unfold wp_M_leastCost
  refine ⟨9, ?_⟩
  have q := hL post n h
  rw [nI_0] at q
  exact q
theorem wm_isAlike (f : ctF) {v w : Nat} (hv : v < 120) (hw : w < 120) : ∃ r : Int32, (r = 0 ∨ r = 1) ∧ (v = w → r = 1) ∧ ∀ (post : Int32 → ctN → ctF → Prop) (n : ctN), post r n f → wp_M_isAlike post (nI v) (nI w) n f := by
  have e8 : (8 : Int32) = nI 8 := ix_8
  obtain ⟨L1, hL1⟩ := wm_leastCost f hv
  obtain ⟨L2, hL2⟩ : ∃ L, (v = w → L = L1) ∧ ∀ (post : Int32 → ctN → ctF → Prop) (n : ctN), post L n f → wp_M_leastCost post (nI w) n f := by
    by_cases e : v = w
    · subst e; exact ⟨L1, fun _ => rfl, hL1⟩
    · obtain ⟨L, hL⟩ := wm_leastCost f hw
      exact ⟨L, fun z => absurd z e, hL⟩
  have loop : ∀ (d m : Nat) (x3 : Int32), 8 = m + d → (x3 = 0 ∨ x3 = 1) → ∃ r : Int32, (r = 0 ∨ r = 1) ∧ (v = w → x3 = 1 → r = 1) ∧ ∀ (post : Int32 → ctN → ctF → Prop) (n : ctN), post r n f → wp_M_isAlike_L19 post (d + 1) (nI v) (nI w) x3 L1 L2 (nI m) n f := by
    intro d
    induction d with
    | zero =>
      intro m x3 hd hx
      have e : m = 8 := by omega
      subst e
      refine ⟨x3, hx, fun _ z => z, fun post n h => ?_⟩
      rw [wp_M_isAlike_L19]
      refine ⟨fun _ => ⟨?_, h⟩, fun z => absurd (by rw [e8]; exact nI_le (Nat.le_refl 8) (by decide)) z⟩
      rcases hx with rfl | rfl
      · rfl
      · rfl
    | succ d ih =>
      intro m x3 hd hx
      have hm : m < 8 := by omega
      have key : ∀ y : Int32, (y = 0 ∨ y = 1) → (v = w → x3 = 1 → y = 1) → (∀ (post : Int32 → ctN → ctF → Prop) (n : ctN), wp_M_isAlike_L19 post (d + 1) (nI v) (nI w) y L1 L2 (nI (m + 1)) n f → wp_M_isAlike_L19 post (d + 1 + 1) (nI v) (nI w) x3 L1 L2 (nI m) n f) → ∃ r : Int32, (r = 0 ∨ r = 1) ∧ (v = w → x3 = 1 → r = 1) ∧ ∀ (post : Int32 → ctN → ctF → Prop) (n : ctN), post r n f → wp_M_isAlike_L19 post (d + 1 + 1) (nI v) (nI w) x3 L1 L2 (nI m) n f := by
        intro y hy hyw hstep
        obtain ⟨r, h1, h2, h3⟩ := ih (m + 1) y (by omega) hy
        exact ⟨r, h1, fun a b => h2 a (hyw a b), fun post n h => hstep post n (h3 post n h)⟩
      have un : ∀ (post : Int32 → ctN → ctF → Prop) (n : ctN), ((x3 = 0 → (∀ x6_13 : Int32, x6_13 = nI (m + 1) → (wp_M_isAlike_L19 post (d + 1) (nI v) (nI w) 0 L1 L2 x6_13 n f))) ∧ (¬ x3 = 0 → ((f 28 (8 * v + m) < 0 → (wp_M_isAlike_J68 post (wp_M_isAlike_L19 post (d + 1)) (nI v) (nI w) L1 L2 (nI m) (f 28 (8 * v + m)) (f 28 (8 * w + m)) 0 n f)) ∧ (¬ f 28 (8 * v + m) < 0 → (wp_M_isAlike_J68 post (wp_M_isAlike_L19 post (d + 1)) (nI v) (nI w) L1 L2 (nI m) (f 28 (8 * v + m)) (f 28 (8 * w + m)) 1 n f))))) → wp_M_isAlike_L19 post (d + 1 + 1) (nI v) (nI w) x3 L1 L2 (nI m) n f := by
        intro post n h
        rw [wp_M_isAlike_L19, ix_m, ix_m, ix_cl hv hm, ix_cl hw hm, nI_1]
        refine ⟨fun z => absurd z (by rw [e8]; exact nI_ge hm (by decide)), fun _ => ⟨ix_in hv hm, ?_⟩⟩
        rintro _ rfl
        refine ⟨ix_in hw hm, ?_⟩
        rintro _ rfl
        exact h
      by_cases hx0 : x3 = 0
      · refine key 0 (Or.inl rfl) (fun _ z => by rw [hx0] at z; exact absurd z (by decide)) (fun post n h => un post n ⟨fun _ => ?_, fun z => absurd hx0 z⟩)
        rintro _ rfl
        exact h
      · have tail : ∀ (s0 s1 : Int32) (post : Int32 → ctN → ctF → Prop) (n : ctN) , wp_M_isAlike_L19 post (d + 1) (nI v) (nI w) (if s1 = s0 ∧ (f 28 (8 * v + m) < 0 ∨ (f 28 (8 * v + m) - L1 = f 28 (8 * w + m) - L2 ∧ f 29 (8 * v + m) = f 29 (8 * w + m))) then 1 else 0) L1 L2 (nI (m + 1)) n f → wp_M_isAlike_J78 post (wp_M_isAlike_L19 post (d + 1)) (nI v) (nI w) L1 L2 (nI m) (f 28 (8 * v + m)) (f 28 (8 * w + m)) s0 s1 n f := by
          intro s0 s1 post n h
          unfold wp_M_isAlike_J78
          rw [ix_m, ix_m, ix_cl hv hm, ix_cl hw hm, nI_1]
          refine ⟨fun a => ?_, fun a => ⟨fun b => ?_, fun b => ⟨fun c => ?_, fun c => ⟨ix_in hv hm, ix_in hw hm, fun e => ?_, fun e => ?_⟩⟩⟩⟩
          · rintro _ rfl; rw [if_neg (fun z => a z.1)] at h; exact h
          · rintro _ rfl; rw [if_pos ⟨a, Or.inl b⟩] at h; exact h
          · rintro _ rfl; rw [if_neg (fun z => z.2.elim b (fun y => c y.1))] at h; exact h
          · rintro _ rfl; rw [if_neg (fun z => z.2.elim b (fun y => e y.2))] at h; exact h
          · rintro _ rfl; rw [if_pos ⟨a, Or.inr ⟨c, e⟩⟩] at h; exact h
        have s : ∀ x : Int32, ∃ t : Int32, t = if x < 0 then 0 else 1 := fun x => ⟨_, rfl⟩
        obtain ⟨s1, hs1⟩ := s (f 28 (8 * v + m))
        obtain ⟨s0, hs0⟩ := s (f 28 (8 * w + m))
        refine key (if s1 = s0 ∧ (f 28 (8 * v + m) < 0 ∨ (f 28 (8 * v + m) - L1 = f 28 (8 * w + m) - L2 ∧ f 29 (8 * v + m) = f 29 (8 * w + m))) then 1 else 0) ?_ (fun e _ => ?_) (fun post n h => un post n ⟨fun z => absurd z hx0, fun _ => ⟨fun a => ?_, fun a => ?_⟩⟩)
        · by_cases z : s1 = s0 ∧ (f 28 (8 * v + m) < 0 ∨ (f 28 (8 * v + m) - L1 = f 28 (8 * w + m) - L2 ∧ f 29 (8 * v + m) = f 29 (8 * w + m)))
          · rw [if_pos z]; exact Or.inr rfl
          · rw [if_neg z]; exact Or.inl rfl
        · have hL := hL2.1 e
          subst e
          rw [hL]
          exact if_pos ⟨hs1.trans hs0.symm, Or.inr ⟨rfl, rfl⟩⟩
        · unfold wp_M_isAlike_J68
          rw [if_pos a] at hs1
          subst hs1
          refine ⟨fun b => ?_, fun b => ?_⟩
          · rw [if_pos b] at hs0; subst hs0; exact tail _ _ post n h
          · rw [if_neg b] at hs0; subst hs0; exact tail _ _ post n h
        · unfold wp_M_isAlike_J68
          rw [if_neg a] at hs1
          subst hs1
          refine ⟨fun b => ?_, fun b => ?_⟩
          · rw [if_pos b] at hs0; subst hs0; exact tail _ _ post n h
          · rw [if_neg b] at hs0; subst hs0; exact tail _ _ post n h
  obtain ⟨r, h1, h2, h3⟩ := loop 8 0 1 (by omega) (Or.inr rfl)
  refine ⟨r, h1, fun e => h2 e rfl, fun post n h => ?_⟩
  unfold wp_M_isAlike
  refine hL1 _ n (hL2.2 _ n ⟨9, ?_⟩)
  have q := h3 post n h
  rw [nI_0] at q
  exact q
theorem wm_likeOf (f : ctF) {v : Nat} (hv : v < 120) : ∃ r, r ≤ v ∧ ∀ (post : Int32 → ctN → ctF → Prop) (n : ctN), post (nI r) n f → wp_M_likeOf post (nI v) n f := by
  have loop : ∀ (d m : Nat), v = m + d → ∃ r, r ≤ v ∧ ∀ (post : Int32 → ctN → ctF → Prop) (n : ctN), post (nI r) n f → wp_M_likeOf_L2 post (d + 1) (nI v) (nI m) n f := by
    intro d
    induction d with
    | zero =>
      intro m hd
      have e : m = v := by omega
      subst e
      refine ⟨m, Nat.le_refl _, fun post n h => ?_⟩
      rw [wp_M_likeOf_L2]
      obtain ⟨r, h1, h2, h3⟩ := wm_isAlike f hv hv
      refine h3 _ n ⟨fun _ => h, fun z => absurd (h2 rfl) (by rw [z]; decide)⟩
    | succ d ih =>
      intro m hd
      obtain ⟨r, h1, h2, h3⟩ := wm_isAlike f hv (w := m) (by omega)
      by_cases z : r = 0
      · obtain ⟨q, hq, h4⟩ := ih (m + 1) (by omega)
        refine ⟨q, hq, fun post n h => ?_⟩
        rw [wp_M_likeOf_L2]
        refine h3 _ n ⟨fun y => absurd z y, fun _ => ?_⟩
        rintro _ rfl
        rw [nI_1]
        exact h4 post n h
      · refine ⟨m, by omega, fun post n h => ?_⟩
        rw [wp_M_likeOf_L2]
        exact h3 _ n ⟨fun _ => h, fun y => absurd y z⟩
  obtain ⟨r, h1, h2⟩ := loop v 0 (by omega)
  refine ⟨r, h1, fun post n h => ?_⟩
  unfold wp_M_likeOf
  refine ⟨v + 1, ?_⟩
  have q := h2 post n h
  rw [nI_0] at q
  exact q
theorem wm_states {n : ctN} {f : ctF} {N : Nat} (hN : n 6 = nI N) (hN' : N ≤ 120) : ∃ c, ∀ (post : Int32 → ctN → ctF → Prop), post c (va_up n 3 0) f → wp_M_states post n f := by
  have hN2 : va_up n 3 0 6 = nI N := by rw [va_up_ne _ _ (by decide)]; exact hN
  have loop : ∀ (d m : Nat) (x : Int32), N = m + d → ∃ c, ∀ (post : Int32 → ctN → ctF → Prop), post c (va_up n 3 0) f → wp_M_states_L9 post (d + 1) x (nI m) (va_up n 3 0) f := by
    intro d
    induction d with
    | zero =>
      intro m x hd
      have e : m = N := by omega
      subst e
      refine ⟨x, fun post h => ?_⟩
      rw [wp_M_states_L9, hN2]
      exact ⟨fun _ => h, fun z => absurd (nI_le (Nat.le_refl m) (by omega)) z⟩
    | succ d ih =>
      intro m x hd
      obtain ⟨r, h1, h2⟩ := wm_likeOf f (v := m) (by omega)
      by_cases e : nI r = nI m
      · obtain ⟨c, hc⟩ := ih (m + 1) (x + 1) (by omega)
        refine ⟨c, fun post h => ?_⟩
        rw [wp_M_states_L9, hN2]
        refine ⟨fun z => absurd z (nI_ge (by omega) (by omega)), fun _ => h2 _ _ ⟨fun z => absurd e z, fun _ => ?_⟩⟩
        rintro _ rfl _ rfl
        rw [nI_1]
        exact hc post h
      · obtain ⟨c, hc⟩ := ih (m + 1) x (by omega)
        refine ⟨c, fun post h => ?_⟩
        rw [wp_M_states_L9, hN2]
        refine ⟨fun z => absurd z (nI_ge (by omega) (by omega)), fun _ => h2 _ _ ⟨fun _ => ?_, fun z => absurd z e⟩⟩
        rintro _ rfl
        rw [nI_1]
        exact hc post h
  obtain ⟨c, hc⟩ := loop N 0 0 (by omega)
  refine ⟨c, fun post h => ?_⟩
  unfold wp_M_states
  rintro _ rfl
  refine ⟨N + 1, ?_⟩
  have q := hc post h
  rw [nI_0] at q
  exact q
