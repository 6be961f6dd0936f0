/-! the loop over the base rules, by an invariant I of the draft's costs and rules -/
/-- what stays all through the draft's making but the row itself -/
def keepsRow (N : Nat) (f f' : ctF) : Prop := sameBut N f f' ∧ f' 12 = f 12 ∧ f' 16 = f 16 ∧ f' 17 = f 17
theorem keepsRow.rf (N : Nat) (f : ctF) : keepsRow N f f := ⟨sameBut.rf N f, rfl, rfl, rfl⟩
theorem keepsRow.tr {N : Nat} {f g h : ctF} (a : keepsRow N f g) (b : keepsRow N g h) : keepsRow N f h := ⟨a.1.tr b.1, b.2.1.trans a.2.1, b.2.2.1.trans a.2.2.1, b.2.2.2.trans a.2.2.2⟩
theorem keepsRow.at {N : Nat} {f f' : ctF} (a : keepsRow N f f') {k : Nat} (h14 : k ≠ 14) (h15 : k ≠ 15) : f' k = f k := by
  by_cases h12 : k = 12
  · subst h12; exact a.2.1
  by_cases h16 : k = 16
  · subst h16; exact a.2.2.1
  by_cases h17 : k = 17
  · subst h17; exact a.2.2.2
  exact a.1.1 k h12 h14 h15 h16 h17
theorem w_applyBase {post : ctN → ctF → Prop} {n : ctN} {f : ctF} {N R : Nat} (hN : n 2 = nI N) (hN' : N < 120) (hR : n 1 = nI R) (hR' : R ≤ 40) (go : Nat → Nat) (hgo : ∀ i, i < R → go i < 8 ∧ f 4 i = nI (go i)) (pr : Nat → Option Nat) (hpr : ∀ i y, i < R → pr i = some y → y < 2 ^ 30)
    (hbc : ∀ i, i < R → f 5 i = f 9 N → ∀ f', keepsRow N f f' → ∀ post' : Int32 → ctN → ctF → Prop, post' (en (pr i)) n f' → wp_F_baseCost post' (nI i) n f')
    (I : Nat → (Nat → Option Nat) → (Nat → Option Nat) → Prop)
    (hskip : ∀ i C Q, i < R → I i C Q → ¬ f 5 i = f 9 N → I (i + 1) C Q) (hdear : ∀ i C Q, i < R → I i C Q → f 5 i = f 9 N → ¬ takes C (go i) (pr i) → I (i + 1) C Q)
    (htake : ∀ i C Q y, i < R → I i C Q → f 5 i = f 9 N → pr i = some y → takes C (go i) (pr i) → I (i + 1) (va_up C (go i) (some y)) (va_up Q (go i) (some i)))
    {C0 Q0 : Nat → Option Nat} (h0 : I 0 C0 Q0) (hrow : rowC N f C0 Q0) (hend : ∀ f' C Q, I R C Q → rowC N f' C Q → keepsRow N f f' → post n f') : wp_F_applyBaseRules post n f := by
  have loop : ∀ (d i : Nat) (f' : ctF) (C Q : Nat → Option Nat), R = i + d → I i C Q → rowC N f' C Q → keepsRow N f f' → wp_F_applyBaseRules_L2 post (d + 1) (nI i) n f' := by
    intro d
    induction d with
    | zero =>
      intro i f' C Q hd hi hr hk
      rw [wp_F_applyBaseRules_L2, hR]
      have e : R = i := hd
      subst e
      exact ⟨fun _ => hend f' C Q hi hr hk, fun h => absurd (nI_le (Nat.le_refl R) (by omega)) h⟩
    | succ d ih =>
      intro i f' C Q hd hi hr hk
      have hlt : i < R := by omega
      have hic : (nI i).toNatClampNeg = i := nI_clamp (by omega)
      have hNc : (nI N).toNatClampNeg = N := nI_clamp (by omega)
      have hi1 : nI i + 1 = nI (i + 1) := nI_1 i
      rw [wp_F_applyBaseRules_L2, hR, hN, hic, hNc, hk.at (by decide) (by decide), hk.at (k := 9) (by decide) (by decide), hi1]
      refine ⟨fun h => absurd h (nI_ge hlt (by omega)), fun _ => ⟨vp_in_nI (by omega) (by decide), vp_in_nI hN' (by decide), fun h5 => ?_, fun h5 => ?_⟩⟩
      · rintro _ rfl
        exact ih (i + 1) f' C Q (by omega) (hskip i C Q hlt hi h5) hr hk
      · refine hbc i hlt h5 f' hk _ ?_
        obtain ⟨hg8, hg4⟩ := hgo i hlt
        refine w_offer hN hN' (by omega) hg8 (by rw [hk.at (by decide) (by decide)]; exact hg4) (pr i) (fun y hy => Nat.lt_trans (hpr i y hlt hy) (by decide)) ?_
        rintro _ rfl
        obtain ⟨hc, hs, h12, h16, h17⟩ := offF_row (i := i) hr hg8 (price := pr i) (fun y hy => hpr i y hlt hy)
        have hk2 : keepsRow N f (offF f' N i (go i) (pr i)) := hk.tr ⟨hs, h12, h16, h17⟩
        rcases hc with ⟨ht, y, hy, hrow2⟩ | ⟨ht, he⟩
        · exact ih (i + 1) _ _ _ (by omega) (htake i C Q y hlt hi h5 hy ht) hrow2 hk2
        · exact ih (i + 1) _ C Q (by omega) (hdear i C Q hlt hi h5 ht) (by rw [he]; exact hr) hk2
  unfold wp_F_applyBaseRules
  refine ⟨R + 1, ?_⟩
  have h := loop R 0 f C0 Q0 (by omega) h0 hrow (keepsRow.rf N f)
  rw [nI_0] at h
  exact h
