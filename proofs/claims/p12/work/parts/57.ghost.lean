/-! the class's draft with its history: the loops as relations -/
def CL (G : GD) (m z : Nat) (C Q : Nat → Option Nat) : Nat → (Nat → Option Nat) → (Nat → Option Nat) → Prop
  | 0, C', Q' => C' = C ∧ Q' = Q
  | i + 1, C', Q' => (CL G m z C Q i C' Q' ∧ ¬ (chG G i = true ∧ G.g1 i = m)) ∨ (CL G m z C Q i C' Q' ∧ ¬ takes C' (G.go i) (some (z + G.co i))) ∨ ∃ C1 Q1, CL G m z C Q i C1 Q1 ∧ chG G i = true ∧ G.g1 i = m ∧ takes C1 (G.go i) (some (z + G.co i)) ∧ C' = va_up C1 (G.go i) (some (z + G.co i)) ∧ Q' = va_up Q1 (G.go i) (some i)
theorem CL.nil {G : GD} {m z : Nat} {C Q : Nat → Option Nat} : CL G m z C Q 0 C Q := ⟨rfl, rfl⟩
theorem CL.skip {G : GD} {m z : Nat} {C Q : Nat → Option Nat} {i : Nat} {C' Q' : Nat → Option Nat} (t : CL G m z C Q i C' Q') (h : ¬ (chG G i = true ∧ G.g1 i = m)) : CL G m z C Q (i + 1) C' Q' := Or.inl ⟨t, h⟩
theorem CL.dear {G : GD} {m z : Nat} {C Q : Nat → Option Nat} {i : Nat} {C' Q' : Nat → Option Nat} (t : CL G m z C Q i C' Q') (h : ¬ takes C' (G.go i) (some (z + G.co i))) : CL G m z C Q (i + 1) C' Q' := Or.inr (Or.inl ⟨t, h⟩)
theorem CL.take {G : GD} {m z : Nat} {C Q : Nat → Option Nat} {i : Nat} {C' Q' : Nat → Option Nat} (t : CL G m z C Q i C' Q') (h1 : chG G i = true) (h2 : G.g1 i = m) (h3 : takes C' (G.go i) (some (z + G.co i))) : CL G m z C Q (i + 1) (va_up C' (G.go i) (some (z + G.co i))) (va_up Q' (G.go i) (some i)) := Or.inr (Or.inr ⟨C', Q', t, h1, h2, h3, rfl, rfl⟩)
/-- after the base rules below m: each goal's rule is the least of those of least cost -/
def BD (G : GD) (pr : Nat → Option Nat) (m : Nat) (C Q : Nat → Option Nat) : Prop := ∀ g x, C g = some x → ∃ i, Q g = some i ∧ i < m ∧ G.go i = g ∧ pr i = some x ∧ ∀ j y, j < i → G.go j = g → pr j = some y → x < y
theorem BD.up {G : GD} {pr : Nat → Option Nat} {m : Nat} {C Q : Nat → Option Nat} (h : BD G pr m C Q) : BD G pr (m + 1) C Q := fun g x hx => by
  obtain ⟨i, h1, h2, h3⟩ := h g x hx
  exact ⟨i, h1, by omega, h3⟩
theorem BD.take {G : GD} {pr : Nat → Option Nat} {m y : Nat} {C Q : Nat → Option Nat} (h : BD G pr m C Q) (hy : pr m = some y) (ht : takes C (G.go m) (some y)) (hb : ∀ j y, j < m → pr j = some y → ∃ x, C (G.go j) = some x ∧ x ≤ y) : BD G pr (m + 1) (va_up C (G.go m) (some y)) (va_up Q (G.go m) (some m)) := fun g x hx => by
  by_cases e : g = G.go m
  · subst e
    rw [va_up_self] at hx ⊢
    cases hx
    refine ⟨m, rfl, by omega, rfl, hy, fun j y2 hj hg hy2 => ?_⟩
    obtain ⟨w, hw, hle⟩ := hb j y2 hj hy2
    rw [hg] at hw
    obtain ⟨y3, ey, h2⟩ := ht
    cases ey
    rcases h2 with h2 | ⟨x3, hx3, hlt⟩
    · rw [h2] at hw; cases hw
    · rw [hw] at hx3; cases hx3; omega
  · rw [va_up_ne _ _ e] at hx ⊢
    obtain ⟨i, h1, h2, h3⟩ := h g x hx
    exact ⟨i, h1, by omega, h3⟩
theorem w_settleGoalsG {post : ctN → ctF → Prop} {n : ctN} {f f0 : ctF} {N o a b : Nat} {G : GD} {pr : Nat → Option Nat} {C0 Q0 : Nat → Option Nat} (hG : G.ok) (hC : gC G n f0) (hN : n 2 = nI N) (hN' : N < 120) (ho : o < G.O) (h9 : f0 9 N = nI o) (h10 : f0 10 N = nI a) (h11 : f0 11 N = nI b)
    (ha : 1 ≤ G.k o → a < N ∧ ∀ g, g < 8 → szOK (f0 16 (8 * a + g))) (hb : 2 ≤ G.k o → b < N ∧ ∀ g, g < 8 → szOK (f0 16 (8 * b + g)))
    (h0 : q_stJ G pr N f0 f (fun _ => false) C0 Q0) (Γ : (Nat → Bool) → (Nat → Option Nat) → (Nat → Option Nat) → Prop) (hΓ0 : Γ (fun _ => false) C0 Q0) (hΓ : ∀ f1 S C Q m z C' Q', q_stJ G pr N f0 f1 S C Q → Γ S C Q → isBest C S 8 (some m) → C m = some z → CL G m z C Q G.R C' Q' → Γ (va_up S m true) C' Q') (hend : ∀ f' S C Q, stE G pr N f0 f' C Q → Γ S C Q → (∀ g, g < 8 → S g = false → C g = none) → post n f') : wp_F_settleGoals post n f := by
  have e8 : (8 : Int32) = nI 8 := ix_8
  have hNc : (nI N).toNatClampNeg = N := nI_clamp (by omega)
  have loop : ∀ (d step : Nat) (f : ctF) (S : Nat → Bool) (C Q : Nat → Option Nat), 8 = step + d → q_stJ G pr N f0 f S C Q → q_sm (fun g => if S g = true then 1 else 0) 8 = step → Γ S C Q → wp_F_settleGoals_L2 post (d + 1) (nI step) n f := by
    intro d
    induction d with
    | zero =>
      intro step f S C Q hd hj hs hγ
      have e : step = 8 := by omega
      subst e
      rw [wp_F_settleGoals_L2]
      have X : ∀ g, g < 8 → S g = false → C g = none := by
        intro g hg hsg
        have := sm_full (φ := fun g => if S g = true then 1 else 0) 8 (fun g _ => by split <;> omega) (by omega) g hg
        simp [hsg] at this
      exact ⟨fun _ => hend f S C Q (hj.fin hG X) hγ X, fun q => absurd (by rw [e8]; exact nI_le (Nat.le_refl 8) (by decide)) q⟩
    | succ d ih =>
      intro step f S C Q hd hj hs hγ
      rw [wp_F_settleGoals_L2]
      refine ⟨fun q => absurd q (by rw [e8]; exact nI_ge (by omega) (by decide)), fun _ => ?_⟩
      refine w_cheapest hN hN' hj.row hj.flag (fun best hbest => ?_)
      cases best with
      | none => exact ⟨fun q => absurd rfl q, fun _ => hend f S C Q (hj.fin hG hbest) hγ hbest⟩
      | some m =>
        obtain ⟨hm8, hSm, z, hz, hmin⟩ := id hbest
        have hmc : (nI m).toNatClampNeg = m := nI_clamp (by omega)
        have hz20 := bnd_lt hj.bnd hz
        have Jm : ∀ f8 : ctF, (∀ k, k ≠ 12 → k ≠ 17 → f8 k = f k) → (∀ j, j ≠ N → f8 12 j = f 12 j) → f8 17 = upd (f 17) m 1 → (∃ x, f8 12 N = nI x ∧ (∃ g, g < 8 ∧ (S g = true ∨ g = m) ∧ C g = some x) ∧ ∀ g y, g < 8 → C g = some y → x ≤ y) → wp_F_settleGoals_J52 post (wp_F_settleGoals_L2 post (d + 1)) (nI step) (nI m) n f8 := by
          intro f8 e8o e812 e817 hle
          have sm8 : sameBut N f0 f8 := hj.same.tr ⟨fun k h1 _ _ _ h5 => e8o k h1 h5, e812, fun j _ => by rw [e8o 14 (by decide) (by decide), e8o 15 (by decide) (by decide), e8o 16 (by decide) (by decide)]; exact ⟨rfl, rfl, rfl⟩⟩
          obtain ⟨qi, hqi⟩ : ∃ qi, Q m = some qi := by
            cases q : Q m with
            | none => rw [(hj.non m).mpr q] at hz; cases hz
            | some qi => exact ⟨qi, rfl⟩
          have hqR := hj.rul m qi hqi
          have hR40 := hG.R40
          have gC8 := hC.same sm8
          obtain ⟨r4, r5, r6, r7, r8⟩ := gC8.ru qi hqR
          obtain ⟨q1, q2, q3, q4, q5⟩ := hG.ru qi hqR
          unfold wp_F_settleGoals_J52
          rw [hN]
          refine w_place ?_
          refine w_sizeByRule hN hN' hm8 (i := qi) (by rw [e8o 15 (by decide) (by decide), (hj.row.1 m hm8).2, hqi]; rfl) (by omega) ?_ (fun s hs2 => ?_)
          · by_cases c : chG G qi = true
            · exact Or.inl ⟨r5.trans ((GD.op_m1 hG hqR).mpr c), G.g1 qi, q3, r6, by rw [e8o 16 (by decide) (by decide)]; exact (hj.siz _ q3).1⟩
            · refine Or.inr ⟨fun q => c ((GD.op_m1 hG hqR).mp (r5.symm.trans q)), o, G.k o, by have := hG.O10; omega, ?_, gC8.pa o ho, hG.k2 o ho, fun hk => ?_, fun hk => ?_⟩
              · rw [sm8.1 9 (by decide) (by decide) (by decide) (by decide) (by decide)]; exact h9
              · obtain ⟨haN, hsz⟩ := ha hk
                refine ⟨a, G.g1 qi, by omega, q3, ?_, r6, ?_⟩
                · rw [sm8.1 10 (by decide) (by decide) (by decide) (by decide) (by decide)]; exact h10
                · rw [(sm8.2.2 (8 * a + G.g1 qi) (by omega)).2.2]; exact hsz _ q3
              · obtain ⟨hbN, hsz⟩ := hb hk
                refine ⟨b, G.g2 qi, by omega, q4, ?_, r7, ?_⟩
                · rw [sm8.1 11 (by decide) (by decide) (by decide) (by decide) (by decide)]; exact h11
                · rw [(sm8.2.2 (8 * b + G.g2 qi) (by omega)).2.2]; exact hsz _ q4
          · refine ⟨ix_in hN' hm8, ?_⟩
            rw [ix_cl hN' hm8]
            rintro f16 hf16
            have e16 : f16 16 = upd (f8 16) (8 * N + m) s := by rw [hf16, va_up_self]
            have eo : ∀ k, k ≠ 16 → f16 k = f8 k := fun k hk => by rw [hf16, va_up_ne _ _ hk]
            have sm16 : sameBut N f0 f16 := sm8.tr ⟨fun k _ _ _ h4 _ => eo k h4, fun j _ => by rw [eo 12 (by decide)], fun j hj2 => by rw [eo 14 (by decide), eo 15 (by decide), e16, upd_ne _ _ (by omega)]; exact ⟨rfl, rfl, rfl⟩⟩
            have row16 : rowC N f16 C Q := ⟨fun h hh => by rw [eo 14 (by decide), eo 15 (by decide), e8o 14 (by decide) (by decide), e8o 15 (by decide) (by decide)]; exact hj.row.1 h hh, hj.row.2⟩
            have gC16 := hC.same sm16
            have settled_le : ∀ s x, S s = true ∨ s = m → C s = some x → x ≤ z := by
              intro s x hs3 hx
              rcases hs3 with hs3 | rfl
              · obtain ⟨x2, hx2, h2, -⟩ := hj.st1 s hs3
                rw [hx] at hx2; cases hx2
                exact h2 m z hm8 hSm hz
              · rw [hx] at hz; cases hz; exact Nat.le_refl _
            refine w_applyChain (N := N) (R := G.R) (h := m) (z := z) hN hN' gC16.nR hR40 hm8 G.go G.co (fun i hi => ⟨(hG.ru i hi).1, (gC16.ru i hi).1⟩) (fun i hi => ⟨(hG.ru i hi).2.1, (gC16.ru i hi).2.2.2.2⟩) (by omega)
              (fun i C' Q' => bndC C' ∧ aboveC G.R G.go (chG G) G.g1 G.co pr C' ∧ (∀ i y, i < G.R → chG G i = false → pr i = some y → ∃ x, C' (G.go i) = some x ∧ x ≤ y) ∧ (∀ g i, Q' g = some i → i < G.R) ∧ (∀ g, C' g = none ↔ Q' g = none) ∧ (∀ s, S s = true ∨ s = m → C' s = C s) ∧ (∀ g y, g < 8 → C' g = some y → (∃ y0, C g = some y0 ∧ y ≤ y0) ∨ C g = none) ∧ (∀ g y, g < 8 → S g = false → C' g = some y → z ≤ y) ∧ (∀ g x, C g = some x → ∃ x', C' g = some x' ∧ x' ≤ x) ∧ CL G m z C Q i C' Q' ∧ ∀ j, j < i → chG G j = true → G.g1 j = m → ∃ w, C' (G.go j) = some w ∧ w ≤ z + G.co j)
              ?_ ?_ ?_ (C0 := C) (Q0 := Q) ⟨hj.bnd, hj.abv, hj.bas, hj.rul, hj.non, fun _ _ => rfl, fun g y _ e => Or.inl ⟨y, e, Nat.le_refl _⟩, fun g y hg hs3 e => (hmin g y hg hs3 e).1, fun g x e => ⟨x, e, Nat.le_refl _⟩, CL.nil, fun j hj2 => absurd hj2 (Nat.not_lt_zero _)⟩ row16 hz ?_
            · rintro i C' Q' hi ⟨i1, i2, i3, i4, i5, i6, i7, i8, i9, iL, i10⟩ hno
              refine ⟨i1, i2, i3, i4, i5, i6, i7, i8, i9, CL.skip iL (fun w => hno ⟨(gC16.ru i hi).2.1.trans ((GD.op_m1 hG hi).mpr w.1), by rw [(gC16.ru i hi).2.2.1, w.2]⟩), fun j hj2 hc2 hg2 => ?_⟩
              by_cases e : j = i
              · subst e
                obtain ⟨-, t5, t6, -, -⟩ := gC16.ru j hi
                exact absurd ⟨t5.trans ((GD.op_m1 hG hi).mpr hc2), by rw [t6, hg2]⟩ hno
              · exact i10 j (by omega) hc2 hg2
            · rintro i C' Q' hi ⟨i1, i2, i3, i4, i5, i6, i7, i8, i9, iL, i10⟩ h5 h6 hnt
              refine ⟨i1, i2, i3, i4, i5, i6, i7, i8, i9, CL.dear iL hnt, fun j hj2 hc2 hg2 => ?_⟩
              by_cases e : j = i
              · subst e
                cases hc : C' (G.go j) with
                | none => exact absurd ⟨_, rfl, Or.inl hc⟩ hnt
                | some w =>
                  refine ⟨w, rfl, ?_⟩
                  rcases Nat.lt_or_ge (z + G.co j) w with q | q
                  · exact absurd ⟨_, rfl, Or.inr ⟨w, hc, q⟩⟩ hnt
                  · exact q
              · exact i10 j (by omega) hc2 hg2
            · rintro i C' Q' hi ⟨i1, i2, i3, i4, i5, i6, i7, i8, i9, iL, i10⟩ h5 h6 ht
              obtain ⟨t4, t5, t6, t7, t8⟩ := gC16.ru i hi
              obtain ⟨p1, p2, p3, p4, p5⟩ := hG.ru i hi
              have hch : chG G i = true := (GD.op_m1 hG hi).mp (t5.symm.trans h5)
              have hg1 : G.g1 i = m := by
                have := t6.symm.trans h6
                exact (nI_eq (by omega) (by omega)).mp this
              have hCm : C' m = some z := (i6 m (Or.inr rfl)).trans hz
              have hby : byR (chG G) G.g1 G.co pr C' i = some (z + G.co i) := by
                unfold byR
                rw [if_pos hch, hg1, hCm]
                rfl
              have hnS : ¬ (S (G.go i) = true ∨ G.go i = m) := by
                intro hs3
                obtain ⟨y2, ey, h2⟩ := id ht
                cases ey
                have e6 := i6 _ hs3
                rcases h2 with h2 | ⟨x, hx, hlt⟩
                · rw [h2] at e6
                  rcases hs3 with hs3 | hs3
                  · obtain ⟨x2, hx2, -, -⟩ := hj.st1 _ hs3
                    rw [hx2] at e6; cases e6
                  · rw [hs3, hz] at e6; cases e6
                · have := settled_le _ x hs3 (e6.symm.trans hx)
                  omega
              refine ⟨bnd_take i1 p1 ht (Or.inr ⟨m, z, hCm, by omega⟩), above_take i2 hi hby, fun j y hj2 hc2 hy => ?_, fun g j hq => ?_, fun g => ?_, fun s hs3 => ?_, fun g y hg hy => ?_, fun g y hg hs3 hy => ?_, fun g x hx => ?_, CL.take iL hch hg1 ht, fun j hj2 hc2 hg2 => ?_⟩
              · obtain ⟨x, hx, hle2⟩ := i3 j y hj2 hc2 hy
                by_cases e : G.go j = G.go i
                · rw [e] at hx ⊢
                  rw [va_up_self]
                  obtain ⟨y2, ey, h2⟩ := id ht
                  cases ey
                  rcases h2 with h2 | ⟨x3, hx3, hlt⟩
                  · rw [h2] at hx; cases hx
                  · rw [hx] at hx3; cases hx3
                    exact ⟨_, rfl, by omega⟩
                · rw [va_up_ne _ _ e]; exact ⟨x, hx, hle2⟩
              · by_cases e : g = G.go i
                · subst e; rw [va_up_self] at hq; cases hq; exact hi
                · rw [va_up_ne _ _ e] at hq; exact i4 g j hq
              · by_cases e : g = G.go i
                · subst e; rw [va_up_self, va_up_self]; exact ⟨(fun q => nomatch q), (fun q => nomatch q)⟩
                · rw [va_up_ne _ _ e, va_up_ne _ _ e]; exact i5 g
              · rw [va_up_ne _ _ (fun q => hnS (by rw [← q]; exact hs3))]; exact i6 s hs3
              · by_cases e : g = G.go i
                · subst e
                  rw [va_up_self] at hy; cases hy
                  cases hc : C (G.go i) with
                  | none => exact Or.inr rfl
                  | some y0 =>
                    obtain ⟨x', hx', hle3⟩ := i9 _ _ hc
                    obtain ⟨y2, ey, h2⟩ := id ht
                    cases ey
                    rcases h2 with h2 | ⟨x3, hx3, hlt⟩
                    · rw [h2] at hx'; cases hx'
                    · rw [hx'] at hx3; cases hx3
                      exact Or.inl ⟨y0, rfl, by omega⟩
                · rw [va_up_ne _ _ e] at hy; exact i7 g y hg hy
              · by_cases e : g = G.go i
                · subst e
                  rw [va_up_self] at hy; cases hy; omega
                · rw [va_up_ne _ _ e] at hy; exact i8 g y hg hs3 hy
              · obtain ⟨x', hx', hle3⟩ := i9 g x hx
                by_cases e : g = G.go i
                · subst e
                  rw [va_up_self]
                  obtain ⟨y2, ey, h2⟩ := id ht
                  cases ey
                  rcases h2 with h2 | ⟨x3, hx3, hlt⟩
                  · rw [h2] at hx'; cases hx'
                  · rw [hx'] at hx3; cases hx3
                    exact ⟨_, rfl, by omega⟩
                · rw [va_up_ne _ _ e]; exact ⟨x', hx', hle3⟩
              · by_cases e : G.go j = G.go i
                · rw [e, va_up_self]
                  refine ⟨_, rfl, ?_⟩
                  by_cases e2 : j = i
                  · subst e2; exact Nat.le_refl _
                  · obtain ⟨w, hw, hle3⟩ := i10 j (by omega) hc2 hg2
                    rw [e] at hw
                    obtain ⟨y2, ey, h2⟩ := id ht
                    cases ey
                    rcases h2 with h2 | ⟨x3, hx3, hlt⟩
                    · rw [h2] at hw; cases hw
                    · rw [hw] at hx3; cases hx3; omega
                · rw [va_up_ne _ _ e]
                  exact i10 j (by
                    rcases Nat.lt_or_ge j i with q | q
                    · exact q
                    · exact absurd (by rw [show j = i by omega]) e) hc2 hg2
            · rintro f' C' Q' ⟨i1, i2, i3, i4, i5, i6, i7, i8, i9, iL, i10⟩ hrow' hk'
              rintro _ rfl
              rw [nI_1]
              refine ih (step + 1) f' (va_up S m true) C' Q' (by omega) ?_ ?_ (hΓ f S C Q m z C' Q' hj hγ hbest hz iL)
              · have s17 : f' 17 = upd (f 17) m 1 := by rw [hk'.2.2.2, eo 17 (by decide), e817]
                have s16 : f' 16 = upd (f8 16) (8 * N + m) s := by rw [hk'.2.2.1, e16]
                have s12 : f' 12 = f8 12 := by rw [hk'.2.1, eo 12 (by decide)]
                refine ⟨sm16.tr hk'.1, hrow', fun g hg => ?_, i1, i2, i3, i4, i5, fun s2 hs2 => ?_, fun g hg => ?_, ?_⟩
                · rw [s17]
                  by_cases e : g = m
                  · subst e; rw [upd_self, va_up_self]; rfl
                  · rw [upd_ne _ _ e, va_up_ne _ _ e]; exact hj.flag g hg
                · have hs2' : S s2 = true ∨ s2 = m := by
                    by_cases e : s2 = m
                    · exact Or.inr e
                    · rw [va_up_ne _ _ e] at hs2; exact Or.inl hs2
                  have nS : ∀ g, va_up S m true g = false → S g = false := fun g hg => by
                    by_cases e : g = m
                    · subst e; rw [va_up_self] at hg; cases hg
                    · rw [va_up_ne _ _ e] at hg; exact hg
                  obtain ⟨x, hx⟩ : ∃ x, C s2 = some x := by
                    rcases hs2' with q | rfl
                    · obtain ⟨x, hx, -, -⟩ := hj.st1 s2 q; exact ⟨x, hx⟩
                    · exact ⟨z, hz⟩
                  have hxz := settled_le s2 x hs2' hx
                  refine ⟨x, (i6 s2 hs2').trans hx, fun g y hg hsg hy => ?_, fun i hi hc2 hg2 => ?_⟩
                  · have := i8 g y hg (nS g hsg) hy
                    omega
                  · by_cases e : s2 = m
                    · subst e
                      rw [hx] at hz; cases hz
                      exact i10 i hi hc2 hg2
                    · rcases hs2' with q | q
                      · obtain ⟨x2, hx2, -, h3⟩ := hj.st1 s2 q
                        rw [hx] at hx2; cases hx2
                        obtain ⟨w, hw, hle3⟩ := h3 i hi hc2 hg2
                        obtain ⟨w', hw', hle4⟩ := i9 _ _ hw
                        exact ⟨w', hw', by omega⟩
                      · exact absurd q e
                · rw [s16]
                  by_cases e : g = m
                  · subst e; rw [upd_self]; exact ⟨hs2, fun q => by rw [va_up_self] at q; cases q⟩
                  · rw [upd_ne _ _ (by omega), va_up_ne _ _ e, e8o 16 (by decide) (by decide)]; exact hj.siz g hg
                · right
                  obtain ⟨x, hx1, ⟨g, hg, hgs, hgc⟩, hx3⟩ := hle
                  have hgS : S g = true ∨ g = m := hgs
                  refine ⟨x, by rw [s12]; exact hx1, ⟨g, hg, ?_, (i6 g hgS).trans hgc⟩, fun g2 y hg2 hy => ?_⟩
                  · by_cases e : g = m
                    · subst e; exact va_up_self _ _ _
                    · rw [va_up_ne _ _ e]; exact hgS.resolve_right e
                  · by_cases q : S g2 = true
                    · rw [i6 g2 (Or.inl q)] at hy; exact hx3 g2 y hg2 hy
                    · have h1 := i8 g2 y hg2 (by cases w : S g2; rfl; exact absurd w q) hy
                      have h2 := hx3 m z hm8 hz
                      omega
              · have e1 : ∀ j, j ≠ m → (fun g => if va_up S m true g = true then 1 else 0) j = (fun g => if S g = true then 1 else 0) j := fun j hj2 => by
                  dsimp only; rw [va_up_ne _ _ hj2]
                have e2 := sm_up (φ := fun g => if S g = true then 1 else 0) (ψ := fun g => if va_up S m true g = true then 1 else 0) e1 8 hm8
                rw [va_up_self, hSm, if_pos rfl, if_neg (by decide)] at e2
                omega
        refine ⟨fun _ => ⟨vp_in_nI hm8 (by decide), ?_⟩, fun q => absurd q (nI_m1 (by omega))⟩
        rw [en_s, hmc, nar1]
        rintro f7 hf7
        have e17 : f7 17 = upd (f 17) m 1 := by rw [hf7, va_up_self]
        have eo : ∀ k, k ≠ 17 → f7 k = f k := fun k hk => by rw [hf7, va_up_ne _ _ hk]
        refine ⟨fun c => ?_, fun c => ?_⟩
        · refine Jm f7 (fun k _ h2 => eo k h2) (fun j _ => by rw [eo 12 (by decide)]) e17 ?_
          rcases hj.lea with ⟨h1, -⟩ | ⟨x, h1, ⟨g, hg, hgs, hgc⟩, h3⟩
          · exfalso
            apply c
            have : q_sm (fun g => if S g = true then 1 else 0) 8 ≤ 8 * 0 := sm_le 8 (fun g _ => by rw [h1 g]; exact Nat.le_refl _)
            have : step = 0 := by omega
            rw [this]; exact nI_0
          · exact ⟨x, by rw [eo 12 (by decide)]; exact h1, ⟨g, hg, Or.inl hgs, hgc⟩, h3⟩
        · have hs0 : step = 0 := by
            rw [← nI_0] at c
            exact (nI_eq (by omega) (by decide)).mp c
          have hall : ∀ g, g < 8 → S g = false := fun g hg => by
            cases q : S g with
            | false => rfl
            | true =>
              have e2 := sm_up (φ := fun g => if S g = true then 1 else 0) (ψ := fun g' => if va_up S g false g' = true then 1 else 0) (g := g) (fun j hj2 => by rw [va_up_ne _ _ hj2]) 8 hg
              rw [va_up_self, q, if_pos rfl, if_neg (by decide)] at e2
              omega
          rw [hN]
          refine w_place ⟨ix_in hN' hm8, vp_in_nI hN' (by decide), ?_⟩
          rw [hNc, ix_cl hN' hm8]
          rintro f9 hf9
          have e12 : f9 12 = upd (f 12) N (f 14 (8 * N + m)) := by rw [hf9, va_up_self, eo 12 (by decide), eo 14 (by decide)]
          have eo9 : ∀ k, k ≠ 12 → f9 k = f7 k := fun k hk => by rw [hf9, va_up_ne _ _ hk]
          refine Jm f9 (fun k h1 h2 => (eo9 k h1).trans (eo k h2)) (fun j hj2 => by rw [e12, upd_ne _ _ hj2]) (by rw [eo9 17 (by decide), e17]) ⟨z, by rw [e12, upd_self, (hj.row.1 m hm8).1, hz]; rfl, ⟨m, hm8, Or.inr rfl, hz⟩, fun g y hg hy => (hmin g y hg (hall g hg) hy).1⟩
  unfold wp_F_settleGoals
  refine ⟨9, ?_⟩
  have q := loop 8 0 f (fun _ => false) C0 Q0 (by omega) h0 rfl hΓ0
  rw [nI_0] at q
  exact q
theorem w_draftG {post : ctN → ctF → Prop} {n : ctN} {f : ctF} {G : GD} {T : TD} {o a b : Nat} (hG : G.ok) (hT : T.ok G) (hC : gC G n f) (hD : tC G T n f) (hN' : T.N < 120) (ho : o < G.O) (ha : 1 ≤ G.k o → a < T.N) (hb : 2 ≤ G.k o → b < T.N)
    (Γ : (Nat → Bool) → (Nat → Option Nat) → (Nat → Option Nat) → Prop) (hΓ0 : ∀ C Q, BD G (prG G T o a b) G.R C Q → (∀ g, C g = none ↔ Q g = none) → (∀ j y, j < G.R → prG G T o a b j = some y → ∃ x, C (G.go j) = some x ∧ x ≤ y) → aboveC G.R G.go (chG G) G.g1 G.co (prG G T o a b) C → Γ (fun _ => false) C Q) (hΓ : ∀ f0 f1 S C Q m z C' Q', q_stJ G (prG G T o a b) T.N f0 f1 S C Q → Γ S C Q → isBest C S 8 (some m) → C m = some z → CL G m z C Q G.R C' Q' → Γ (va_up S m true) C' Q')
    (hend : ∀ f' S C Q, stE G (prG G T o a b) T.N (q_setN f T.N (nI o) (nI a) (nI b)) f' C Q → Γ S C Q → (∀ g, g < 8 → S g = false → C g = none) → post n f') : wp_F_draft post (nI o) (nI a) (nI b) n f := by
  have hN := hD.nN
  have hNc : (nI T.N).toNatClampNeg = T.N := nI_clamp (by omega)
  have hNi : vp_in (nI T.N) 120 := vp_in_nI hN' (by decide)
  have hO := hG.O10
  unfold wp_F_draft
  rw [hN, hNc]
  refine ⟨hNi, ?_⟩
  rintro _ rfl
  refine ⟨hNi, ?_⟩
  rintro _ rfl
  refine ⟨hNi, ?_⟩
  rintro f1 hf1
  have hf1 : f1 = q_setN f T.N (nI o) (nI a) (nI b) := by
    rw [hf1]; unfold q_setN
    rw [va_up_ne (k := 10) (j := 11) _ _ (by decide), va_up_ne (k := 9) (j := 11) _ _ (by decide), va_up_ne (k := 9) (j := 10) _ _ (by decide)]
  have C1 : gC G n f1 := hC.up rfl rfl (fun k h1 h2 => by rw [hf1, setN_o _ _ _ _ _ (by omega) (by omega) (by omega)])
  rw [← hf1] at hend
  have e9 : f1 9 T.N = nI o := by rw [hf1, setN_9, upd_self]
  have e10 : f1 10 T.N = nI a := by rw [hf1, setN_10, upd_self]
  have e11 : f1 11 T.N = nI b := by rw [hf1, setN_11, upd_self]
  refine w_blank hN hN' (fun f2 s2 b2 => ?_)
  have C2 := C1.same s2
  obtain ⟨row2, flag2⟩ := blank_row b2
  have c9 : f2 9 = f1 9 := s2.1 9 (by decide) (by decide) (by decide) (by decide) (by decide)
  have op9 : ∀ i, i < G.R → (f2 5 i = f2 9 T.N ↔ G.op i = some o) := by
    intro i hi
    rw [(C2.ru i hi).2.1, c9, e9]
    cases q : G.op i with
    | none => exact ⟨fun z => absurd z.symm (nI_m1 (by omega)), (fun z => nomatch z)⟩
    | some o2 =>
      have := (hG.ru i hi).2.2.2.2 o2 q
      rw [en_s, nI_eq (by omega) (by omega)]
      exact ⟨fun z => by rw [z], fun z => Option.some.inj z⟩
  refine w_applyBase (N := T.N) (R := G.R) hN hN' C2.nR hG.R40 G.go (fun i hi => ⟨(hG.ru i hi).1, (C2.ru i hi).1⟩) (prG G T o a b) (fun i y hi hy => by have := prG_le hG hT ho ha hb hi hy; omega) ?_
    (fun i C Q => bndC C ∧ aboveC G.R G.go (chG G) G.g1 G.co (prG G T o a b) C ∧ (∀ j y, j < i → prG G T o a b j = some y → ∃ x, C (G.go j) = some x ∧ x ≤ y) ∧ (∀ g i, Q g = some i → i < G.R) ∧ (∀ g, C g = none ↔ Q g = none) ∧ BD G (prG G T o a b) i C Q)
    ?_ ?_ ?_ (C0 := fun _ => none) (Q0 := fun _ => none) ⟨bnd_none, above_none, fun j _ hj => absurd hj (Nat.not_lt_zero _), (fun _ _ e => nomatch e), fun _ => Iff.rfl, (fun _ _ e => nomatch e)⟩ row2 ?_
  · intro i hi h5 f' hk post' hp
    have hop := (op9 i hi).mp h5
    obtain ⟨q1, q2, q3, q4, q5⟩ := hG.ru i hi
    obtain ⟨r4, r5, r6, r7, r8⟩ := C2.ru i hi
    have at' : ∀ k, k ≠ 14 → k ≠ 15 → f' k = f2 k := fun k h1 h2 => hk.at h1 h2
    have a12 : ∀ k, k ≠ 12 → k ≠ 14 → k ≠ 15 → k ≠ 16 → k ≠ 17 → f' k = f1 k := fun k h0 h1 h2 h3 h4 => (at' k h1 h2).trans (s2.1 k h0 h1 h2 h3 h4)
    have hlow : ∀ v g, v < T.N → g < 8 → f' 14 (8 * v + g) = en (T.C v g) := by
      intro v g hv hg
      rw [(hk.1.2.2 (8 * v + g) (by omega)).1, (s2.2.2 (8 * v + g) (by omega)).1, hf1, setN_o _ _ _ _ _ (by decide) (by decide) (by decide)]
      exact hD.co v g hv hg
    refine w_baseCost2 (o := o) (k := G.k o) (s := G.co i) (u1 := a) (u2 := b) (g1 := G.g1 i) (g2 := G.g2 i) (a1 := T.C a (G.g1 i)) (a2 := T.C b (G.g2 i)) hN hN' (by have := hG.R40; omega) ?_ (by omega) ?_ (hG.k2 o ho) ?_ (fun hk1 => ?_) (fun hk2 => ?_) ?_
    · rw [a12 9 (by decide) (by decide) (by decide) (by decide) (by decide)]; exact e9
    · rw [at' 3 (by decide) (by decide)]; exact C2.pa o ho
    · rw [at' 8 (by decide) (by decide)]; exact r8
    · refine ⟨by rw [a12 10 (by decide) (by decide) (by decide) (by decide) (by decide)]; exact e10, by have := ha hk1; omega, by rw [at' 6 (by decide) (by decide)]; exact r6, q3, hlow a _ (ha hk1) q3, fun x hx => by have := hT.mo a _ x (ha hk1) hx; omega⟩
    · refine ⟨by rw [a12 11 (by decide) (by decide) (by decide) (by decide) (by decide)]; exact e11, by have := hb hk2; omega, by rw [at' 7 (by decide) (by decide)]; exact r7, q4, hlow b _ (hb hk2) q4, fun x hx => by have := hT.mo b _ x (hb hk2) hx; omega⟩
    · have e : prG G T o a b i = bcost (G.k o) (G.co i) (T.C a (G.g1 i)) (T.C b (G.g2 i)) := if_pos hop
      rw [e] at hp
      exact hp
  · rintro i C Q hi ⟨i1, i2, i3, i4, i5, iB⟩ hne
    refine ⟨i1, i2, fun j y hj hy => ?_, i4, i5, iB.up⟩
    by_cases e : j = i
    · subst e
      rw [show prG G T o a b j = none from if_neg (fun z => hne ((op9 j hi).mpr z))] at hy
      cases hy
    · exact i3 j y (by omega) hy
  · rintro i C Q hi ⟨i1, i2, i3, i4, i5, iB⟩ h5 hnt
    refine ⟨i1, i2, fun j y hj hy => ?_, i4, i5, iB.up⟩
    by_cases e : j = i
    · subst e
      cases hc : C (G.go j) with
      | none => exact absurd ⟨y, hy, Or.inl hc⟩ hnt
      | some w =>
        refine ⟨w, rfl, ?_⟩
        rcases Nat.lt_or_ge y w with q | q
        · exact absurd ⟨y, hy, Or.inr ⟨w, hc, q⟩⟩ hnt
        · exact q
    · exact i3 j y (by omega) hy
  · rintro i C Q y hi ⟨i1, i2, i3, i4, i5, iB⟩ h5 hy ht
    have hby : byR (chG G) G.g1 G.co (prG G T o a b) C i = some y := by
      unfold byR
      rw [if_neg (by rw [prG_ch hy]; decide)]
      exact hy
    rw [hy] at ht
    refine ⟨bnd_take i1 (hG.ru i hi).1 ht (Or.inl (prG_le hG hT ho ha hb hi hy)), above_take i2 hi hby, fun j y2 hj hy2 => ?_, fun g j hq => ?_, fun g => ?_, iB.take hy ht i3⟩
    · by_cases e : G.go j = G.go i
      · rw [e, va_up_self]
        refine ⟨y, rfl, ?_⟩
        by_cases e2 : j = i
        · subst e2; rw [hy] at hy2; cases hy2; exact Nat.le_refl _
        · obtain ⟨w, hw, hle⟩ := i3 j y2 (by omega) hy2
          rw [e] at hw
          obtain ⟨y3, ey, h2⟩ := ht
          cases ey
          rcases h2 with h2 | ⟨x3, hx3, hlt⟩
          · rw [h2] at hw; cases hw
          · rw [hw] at hx3; cases hx3; omega
      · rw [va_up_ne _ _ e]
        refine i3 j y2 ?_ hy2
        rcases Nat.lt_or_ge j i with q | q
        · exact q
        · exact absurd (by rw [show j = i by omega]) e
    · by_cases e : g = G.go i
      · subst e; rw [va_up_self] at hq; cases hq; exact hi
      · rw [va_up_ne _ _ e] at hq; exact i4 g j hq
    · by_cases e : g = G.go i
      · subst e; rw [va_up_self, va_up_self]; exact ⟨(fun q => nomatch q), (fun q => nomatch q)⟩
      · rw [va_up_ne _ _ e, va_up_ne _ _ e]; exact i5 g
  · rintro f3 C Q ⟨i1, i2, i3, i4, i5, iB⟩ row3 k3
    have s3 : sameBut T.N f1 f3 := s2.tr k3.1
    have s1 : ∀ v g, v < T.N → g < 8 → szOK (f1 16 (8 * v + g)) := fun v g hv hg => by
      rw [hf1, setN_o _ _ _ _ _ (by decide) (by decide) (by decide)]
      exact (hD.ru v g hv hg).1
    refine w_settleGoalsG hG C1 hN hN' ho e9 e10 e11 (fun q => ⟨ha q, fun g hg => s1 a g (ha q) hg⟩) (fun q => ⟨hb q, fun g hg => s1 b g (hb q) hg⟩) (C0 := C) (Q0 := Q) ⟨s3, row3, ?_, i1, i2, fun i y hi _ hy => i3 i y hi hy, i4, i5, (fun _ e => nomatch e), fun g hg => ?_, Or.inl ⟨fun _ => rfl, ?_⟩⟩ Γ (hΓ0 C Q iB i5 i3 i2) (fun f1' => hΓ f1 f1') hend
    · intro g hg; rw [k3.2.2.2]; exact flag2 g hg
    · rw [k3.2.2.1]
      have := (b2.2 g hg).2.2.1
      rw [this]
      exact ⟨sz_m1, fun _ => rfl⟩
    · rw [k3.2.1]; exact b2.1
