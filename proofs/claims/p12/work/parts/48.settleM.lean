/-! the reference's settle -/
theorem bst_keep {G : GD} {pr D : Nat → Option Nat} {S : Nat → Bool} {m : Nat} {q : Option (Nat × Nat)} (h : q_bst G pr D S m q) (hm : S m = true ∨ D m = none ∨ rl G pr D S m none) : q_bst G pr D S (m + 1) q := by
  have no : ∀ r, S m = false → ¬ D m = none → ¬ rl G pr D S m (some r) := fun r h1 h2 h3 => by
    rcases hm with z | z | z
    · rw [h1] at z; cases z
    · exact h2 z
    · exact nomatch rl_one h3 z
  cases q with
  | none =>
    intro g r hg hs hd
    by_cases e : g = m
    · subst e; exact no r hs hd
    · exact h g r (by omega) hs hd
  | some p =>
    obtain ⟨b, r⟩ := p
    obtain ⟨h1, h2, h3, x, h4, h5⟩ := h
    refine ⟨by omega, h2, h3, x, h4, fun g y r' hg hs hd hr => ?_⟩
    by_cases e : g = m
    · subst e; exact absurd hr (no r' hs (by rw [hd]; exact fun z => nomatch z))
    · exact h5 g y r' (by omega) hs hd hr
theorem bst_first {G : GD} {pr D : Nat → Option Nat} {S : Nat → Bool} {m x r : Nat} (h : q_bst G pr D S m none) (hs : S m = false) (hd : D m = some x) (hr : rl G pr D S m (some r)) : q_bst G pr D S (m + 1) (some (m, r)) := by
  refine ⟨by omega, hs, hr, x, hd, fun g y r' hg hsg hdg hrg => ?_⟩
  by_cases e : g = m
  · subst e; rw [hd] at hdg; cases hdg; exact ⟨Nat.le_refl _, fun _ => Nat.le_refl _⟩
  · exact absurd hrg (h g r' (by omega) hsg (by rw [hdg]; exact fun z => nomatch z))
theorem bst_new {G : GD} {pr D : Nat → Option Nat} {S : Nat → Bool} {m x r b rb z : Nat} (h : q_bst G pr D S m (some (b, rb))) (hb : D b = some z) (hs : S m = false) (hd : D m = some x) (hr : rl G pr D S m (some r)) (hlt : x < z) : q_bst G pr D S (m + 1) (some (m, r)) := by
  obtain ⟨h1, h2, h3, z2, h4, h5⟩ := h
  rw [hb] at h4; cases h4
  refine ⟨by omega, hs, hr, x, hd, fun g y r' hg hsg hdg hrg => ?_⟩
  by_cases e : g = m
  · subst e; rw [hd] at hdg; cases hdg; exact ⟨Nat.le_refl _, fun _ => Nat.le_refl _⟩
  · have := h5 g y r' (by omega) hsg hdg hrg
    exact ⟨by omega, fun _ => by omega⟩
theorem bst_old {G : GD} {pr D : Nat → Option Nat} {S : Nat → Bool} {m x b rb z : Nat} (h : q_bst G pr D S m (some (b, rb))) (hb : D b = some z) (hd : D m = some x) (hle : z ≤ x) : q_bst G pr D S (m + 1) (some (b, rb)) := by
  obtain ⟨h1, h2, h3, z2, h4, h5⟩ := h
  rw [hb] at h4; cases h4
  refine ⟨by omega, h2, h3, z, hb, fun g y r' hg hsg hdg hrg => ?_⟩
  by_cases e : g = m
  · subst e; rw [hd] at hdg; cases hdg; exact ⟨hle, fun _ => by omega⟩
  · exact h5 g y r' (by omega) hsg hdg hrg
theorem wm_settle {post : Int32 → ctN → ctF → Prop} {n : ctN} {f : ctF} {G : GD} {T : TD} {o a b : Nat} {D : Nat → Option Nat} {S : Nat → Bool} (hG : G.ok) (hT : T.ok G) (hM : gM G n f) (hA : aM G T o a b f) (hN' : T.N < 120) (ho : o < G.O) (ha : 1 ≤ G.k o → a < T.N) (hb : 2 ≤ G.k o → b < T.N) (hr : rowM T.N f D) (hbd : bndC D) (hS : flagM f S)
    (h0 : q_bst G (prG G T o a b) D S 8 none → post 0 n f) (h1 : ∀ m r, q_bst G (prG G T o a b) D S 8 (some (m, r)) → post 1 n (setS G f T.N a b m r)) : wp_M_settle post (nI T.N) n f := by
  have e8 : (8 : Int32) = nI 8 := ix_8
  have hR40 := hG.R40
  have hO10 := hG.O10
  have hNc : (nI T.N).toNatClampNeg = T.N := nI_clamp (by omega)
  have hNi : vp_in (nI T.N) 120 := vp_in_nI hN' (by decide)
  have fin : ∀ q, q_bst G (prG G T o a b) D S 8 q → (0 ≤ en (q.map Prod.fst) → (vp_in (en (q.map Prod.fst)) 8 ∧ (∀ f_4 : ctF, f_4 = va_up f 31 (upd (f 31) (en (q.map Prod.fst)).toNatClampNeg (vp_nar .boolean 1)) → (vp_in ((8 * nI T.N) + en (q.map Prod.fst)) 960 ∧ (∀ f_6 : ctF, f_6 = va_up f_4 29 (upd (f_4 29) ((8 * nI T.N) + en (q.map Prod.fst)).toNatClampNeg (en (q.map Prod.snd))) → (vp_in (en (q.map Prod.snd)) 40 ∧ ((0 ≤ (f_6 22 (en (q.map Prod.snd)).toNatClampNeg) → (vp_in (en (q.map Prod.snd)) 40 ∧ (vp_in (f_6 22 (en (q.map Prod.snd)).toNatClampNeg) 10 ∧ (((f_6 19 (f_6 22 (en (q.map Prod.snd)).toNatClampNeg).toNatClampNeg) ≤ 0 → (wp_M_settle_J246 post (nI T.N) (en (q.map Prod.fst)) 1 n f_6)) ∧ (¬ (f_6 19 (f_6 22 (en (q.map Prod.snd)).toNatClampNeg).toNatClampNeg) ≤ 0 → (vp_in (nI T.N) 120 ∧ (vp_in (en (q.map Prod.snd)) 40 ∧ (vp_in ((8 * (f_6 26 (nI T.N).toNatClampNeg)) + (f_6 23 (en (q.map Prod.snd)).toNatClampNeg)) 960 ∧ (∀ x4_20 : Int32, x4_20 = (1 + (f_6 30 ((8 * (f_6 26 (nI T.N).toNatClampNeg)) + (f_6 23 (en (q.map Prod.snd)).toNatClampNeg)).toNatClampNeg)) → (vp_in (en (q.map Prod.snd)) 40 ∧ (vp_in (f_6 22 (en (q.map Prod.snd)).toNatClampNeg) 10 ∧ (((f_6 19 (f_6 22 (en (q.map Prod.snd)).toNatClampNeg).toNatClampNeg) ≤ 1 → (wp_M_settle_J244 post (nI T.N) (en (q.map Prod.fst)) x4_20 n f_6)) ∧ (¬ (f_6 19 (f_6 22 (en (q.map Prod.snd)).toNatClampNeg).toNatClampNeg) ≤ 1 → (vp_in (nI T.N) 120 ∧ (vp_in (en (q.map Prod.snd)) 40 ∧ (vp_in ((8 * (f_6 27 (nI T.N).toNatClampNeg)) + (f_6 24 (en (q.map Prod.snd)).toNatClampNeg)) 960 ∧ (wp_M_settle_J244 post (nI T.N) (en (q.map Prod.fst)) (x4_20 + (f_6 30 ((8 * (f_6 27 (nI T.N).toNatClampNeg)) + (f_6 24 (en (q.map Prod.snd)).toNatClampNeg)).toNatClampNeg)) n f_6))))))))))))))))) ∧ (¬ 0 ≤ (f_6 22 (en (q.map Prod.snd)).toNatClampNeg) → (vp_in (en (q.map Prod.snd)) 40 ∧ (vp_in ((8 * nI T.N) + (f_6 23 (en (q.map Prod.snd)).toNatClampNeg)) 960 ∧ (∀ x4_29 : Int32, x4_29 = (1 + (f_6 30 ((8 * nI T.N) + (f_6 23 (en (q.map Prod.snd)).toNatClampNeg)).toNatClampNeg)) → (wp_M_settle_J246 post (nI T.N) (en (q.map Prod.fst)) x4_29 n f_6)))))))))))) ∧ (¬ 0 ≤ en (q.map Prod.fst) → (post 0 n f)) := by
    intro q hq
    cases q with
    | none => exact ⟨fun z => absurd z (by decide), fun _ => h0 hq⟩
    | some p =>
      obtain ⟨m, r⟩ := p
      have hq' := h1 m r hq
      obtain ⟨hm, -, hrl, -⟩ := hq
      obtain ⟨hrR, hk⟩ := rl_ok hrl
      have hmc : (nI m).toNatClampNeg = m := nI_clamp (by omega)
      have hrc : (nI r).toNatClampNeg = r := nI_clamp (by omega)
      have hri : vp_in (nI r) 40 := vp_in_nI (by omega) (by decide)
      obtain ⟨q1, q2, q3, q4, q5⟩ := hG.ru r hrR
      obtain ⟨r20, r21, r22, r23, rb⟩ := hM.ru r hrR
      have ef : en (Option.map Prod.fst (some (m, r))) = nI m := rfl
      have es : en (Option.map Prod.snd (some (m, r))) = nI r := rfl
      rw [ef, es]
      refine ⟨fun _ => ⟨vp_in_nI hm (by decide), ?_⟩, fun z => absurd (nI_pos' (by omega)) z⟩
      rintro _ rfl
      rw [ix_m, ix_cl hN' hm]
      refine ⟨ix_in hN' hm, ?_⟩
      rintro f6 hf6
      have a29 : f6 29 = upd (f 29) (8 * T.N + m) (nI r) := by rw [hf6, va_up_self, va_up_ne _ _ (by decide)]
      have a31 : f6 31 = upd (f 31) m 1 := by rw [hf6, va_up_ne _ _ (by decide), va_up_self, hmc, nar1]
      have ao : ∀ k, k ≠ 29 → k ≠ 31 → f6 k = f k := fun k z1 z2 => by rw [hf6, va_up_ne _ _ z1, va_up_ne _ _ z2]
      have fe : ∀ v, va_up f6 30 (upd (f6 30) (8 * T.N + m) v) = va_up (va_up (va_up f 31 (upd (f 31) m 1)) 29 (upd (f 29) (8 * T.N + m) (nI r))) 30 (upd (f 30) (8 * T.N + m) v) := by
        intro v
        rw [ao 30 (by decide) (by decide), hf6, hmc, nar1, va_up_ne (k := 31) (j := 29) _ _ (by decide)]
      have J : ∀ x, x = rawS G (f 30) T.N a b r → wp_M_settle_J246 post (nI T.N) (nI m) x n f6 := by
        intro x hx
        unfold setS capS at hq'
        rw [← hx] at hq'
        unfold wp_M_settle_J246
        rw [ix_m, ix_cl hN' hm]
        refine ⟨fun z => ⟨ix_in hN' hm, ?_⟩, fun z => ⟨ix_in hN' hm, ?_⟩⟩
        · rintro _ rfl
          rw [fe]
          rw [if_pos z] at hq'
          exact hq'
        · rintro _ rfl
          rw [fe]
          rw [if_neg z] at hq'
          exact hq'
      have eo22 := ao 22 (by decide) (by decide)
      have eo19 := ao 19 (by decide) (by decide)
      have eo23 := ao 23 (by decide) (by decide)
      have eo24 := ao 24 (by decide) (by decide)
      have eo26 := ao 26 (by decide) (by decide)
      have eo27 := ao 27 (by decide) (by decide)
      have eo30 := ao 30 (by decide) (by decide)
      rw [eo22, hrc, r22]
      refine ⟨hri, fun z => ?_, fun z => ?_⟩
      · obtain ⟨o2, e⟩ : ∃ o2, G.op r = some o2 := by
          cases e : G.op r with
          | none => rw [e] at z; exact absurd z (by decide)
          | some o2 => exact ⟨o2, rfl⟩
        have hch : chG G r = false := by unfold chG; rw [e]
        have hok : okR G (prG G T o a b) D m r := by
          rcases hk with z2 | z2
          · exact z2.1
          · exact z2.1
        have hoo : o2 = o := by
          obtain ⟨-, y, hy, -⟩ := hok
          unfold byR at hy
          rw [if_neg (by rw [hch]; decide)] at hy
          unfold prG at hy
          by_cases c : G.op r = some o
          · rw [e] at c; exact Option.some.inj c
          · rw [if_neg c] at hy; cases hy
        subst hoo
        have hoc : (nI o2).toNatClampNeg = o2 := nI_clamp (by omega)
        have hoi : vp_in (nI o2) 10 := vp_in_nI (by omega) (by decide)
        have k0 : nI (G.k o2) ≤ 0 ↔ G.k o2 ≤ 0 := by rw [show (0 : Int32) = nI 0 by decide]; exact nI_leI (by have := hG.k2 o2 ho; omega) (by decide)
        have k1 : nI (G.k o2) ≤ 1 ↔ G.k o2 ≤ 1 := by rw [show (1 : Int32) = nI 1 by decide]; exact nI_leI (by have := hG.k2 o2 ho; omega) (by decide)
        have hraw : rawS G (f 30) T.N a b r = if G.k o2 ≤ 0 then 1 else if G.k o2 ≤ 1 then 1 + f 30 (8 * a + G.g1 r) else 1 + f 30 (8 * a + G.g1 r) + f 30 (8 * b + G.g2 r) := by
          unfold rawS; rw [e]
        rw [e, en_s, hoc, eo19, hM.pa o2 ho]
        refine ⟨hri, hoi, fun c => J 1 ?_, fun c => ⟨hNi, hri, ?_⟩⟩
        · rw [hraw, if_pos (k0.mp c)]
        · have c0 : ¬ G.k o2 ≤ 0 := fun w => c (k0.mpr w)
          have hka : 1 ≤ G.k o2 := by omega
          have haN := ha hka
          rw [hNc, eo26, hA.p1, eo23]
          rw [(rb o2 e).1 hka, ix_m, ix_cl (by omega) q3]
          refine ⟨ix_in (by omega) q3, ?_⟩
          rintro _ rfl
          refine ⟨hri, hoi, fun c2 => ?_, fun c2 => ⟨hNi, hri, ?_⟩⟩
          · unfold wp_M_settle_J244
            refine J _ ?_
            rw [hraw, if_neg c0, if_pos (k1.mp c2), eo30]
          · have c1 : ¬ G.k o2 ≤ 1 := fun w => c2 (k1.mpr w)
            have hkb : 2 ≤ G.k o2 := by omega
            have hbN := hb hkb
            rw [eo27, hA.p2, eo24]
            rw [(rb o2 e).2 hkb, ix_m, ix_cl (by omega) q4]
            refine ⟨ix_in (by omega) q4, ?_⟩
            unfold wp_M_settle_J244
            refine J _ ?_
            rw [hraw, if_neg c0, if_neg c1, eo30]
      · have e : G.op r = none := by
          cases e : G.op r with
          | none => rfl
          | some o2 => rw [e] at z; exact absurd (nI_pos' (by have := q5 o2 e; omega)) z
        rw [eo23]
        rw [r23 e, ix_m, ix_cl hN' q3, eo30]
        refine ⟨hri, ix_in hN' q3, ?_⟩
        rintro _ rfl
        refine J _ ?_
        unfold rawS
        rw [e]
  have loop : ∀ (d m : Nat) (q : Option (Nat × Nat)), 8 = m + d → q_bst G (prG G T o a b) D S m q → wp_M_settle_L7 post (d + 1) (nI T.N) (en (q.map Prod.fst)) (en (q.map Prod.snd)) (nI m) n f := by
    intro d
    induction d with
    | zero =>
      intro m q hd hq
      have e : m = 8 := by omega
      subst e
      rw [wp_M_settle_L7]
      exact ⟨fun _ => fin q hq, fun z => absurd (by rw [e8]; exact nI_le (Nat.le_refl 8) (by decide)) z⟩
    | succ d ih =>
      intro m q hd hq
      have hm : m < 8 := by omega
      have hmc : (nI m).toNatClampNeg = m := nI_clamp (by omega)
      have J39 : (S m = true ∨ D m = none ∨ rl G (prG G T o a b) D S m none) → wp_M_settle_J50 post (wp_M_settle_L7 post (d + 1)) (nI T.N) (en (q.map Prod.fst)) (en (q.map Prod.snd)) (nI m) (-1) n f := by
        intro hno
        unfold wp_M_settle_J50
        refine ⟨fun _ => ?_, fun z => absurd (by decide) z⟩
        rintro _ rfl
        rw [nI_1]
        exact ih (m + 1) q (by omega) (bst_keep hq hno)
      rw [wp_M_settle_L7, ix_m, ix_cl hN' hm, hmc, hr m hm, hS m hm]
      refine ⟨fun z => absurd z (by rw [e8]; exact nI_ge hm (by decide)), fun _ => ⟨ix_in hN' hm, fun z => ?_, fun z => ⟨vp_in_nI hm (by decide), fun w => ?_, fun w => ?_⟩⟩⟩
      · unfold wp_M_settle_J39
        refine J39 (Or.inr (Or.inl ?_))
        cases hc : D m with
        | none => rfl
        | some x => rw [hc] at z; exact absurd z (nI_pos (by have := bnd_lt hbd hc; omega))
      · obtain ⟨x, hc⟩ : ∃ x, D m = some x := by
          cases hc : D m with
          | none => rw [hc] at z; exact absurd (by decide) z
          | some x => exact ⟨x, rfl⟩
        have hx := bnd_lt hbd hc
        have hsm : S m = false := by
          cases v : S m with
          | false => rfl
          | true => rw [v, if_pos rfl] at w; exact absurd w (by decide)
        refine wm_ruleOf hG hT hM hA hN' ho ha hb hr hbd hm hS (fun t ht => ?_)
        cases t with
        | none => exact J39 (Or.inr (Or.inr ht))
        | some r =>
          obtain ⟨hrR, -⟩ := rl_ok ht
          unfold wp_M_settle_J50
          rw [nI_1]
          refine ⟨fun v => absurd v (nI_pos (by omega)), fun _ => ⟨fun v => ?_, fun v => ?_⟩⟩
          · rintro _ rfl
            cases q with
            | none => exact ih (m + 1) (some (m, r)) (by omega) (bst_first hq hsm hc ht)
            | some p => exact absurd v (nI_pos (by have := hq.1; omega))
          · cases q with
            | none => exact absurd (by decide) v
            | some p =>
              obtain ⟨bb, rb⟩ := p
              have hbb : bb < 8 := by have := hq.1; omega
              obtain ⟨-, -, -, z2, hz2, -⟩ := id hq
              have hz3 := bnd_lt hbd hz2
              show vp_in (8 * nI T.N + nI m) 960 ∧ vp_in (8 * nI T.N + nI bb) 960 ∧ (f 28 (8 * nI T.N + nI bb).toNatClampNeg ≤ f 28 (8 * nI T.N + nI m).toNatClampNeg → _) ∧ (¬ f 28 (8 * nI T.N + nI bb).toNatClampNeg ≤ f 28 (8 * nI T.N + nI m).toNatClampNeg → _)
              rw [ix_m, ix_m, ix_cl hN' hm, ix_cl hN' hbb, hr m hm, hr bb hbb, hc, hz2]
              refine ⟨ix_in hN' hm, ix_in hN' hbb, fun u => ?_, fun u => ?_⟩
              · rintro _ rfl
                exact ih (m + 1) (some (bb, rb)) (by omega) (bst_old hq hz2 hc ((nI_leI (by omega) (by omega)).mp u))
              · rintro _ rfl
                refine ih (m + 1) (some (m, r)) (by omega) (bst_new hq hz2 hsm hc ht ?_)
                rcases Nat.lt_or_ge x z2 with y | y
                · exact y
                · exact absurd ((nI_leI (by omega) (by omega)).mpr y) u
      · unfold wp_M_settle_J39
        refine J39 (Or.inl ?_)
        cases v : S m with
        | true => rfl
        | false => rw [v, if_neg (by decide)] at w; exact absurd rfl w
  unfold wp_M_settle
  refine ⟨9, ?_⟩
  have q := loop 8 0 none (by omega) (fun g _ hg => absurd hg (Nat.not_lt_zero _))
  rw [nI_0] at q
  exact q
