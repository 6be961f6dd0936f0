/-! the loop over the chain rules from a goal that costs z, by an invariant I of the draft's costs and rules -/
theorem w_isChainFrom {post : Int32 → ctN → ctF → Prop} {n : ctN} {f : ctF} {i : Nat} {p : Int32} (hi : i < 40) (h1 : f 5 i = -1 → f 6 i = p → post 1 n f) (h0 : ¬ (f 5 i = -1 ∧ f 6 i = p) → post 0 n f) : wp_G_isChainFrom post (nI i) p n f := by
  have hic : (nI i).toNatClampNeg = i := nI_clamp (by omega)
  have hin : vp_in (nI i) 40 := vp_in_nI hi (by decide)
  unfold wp_G_isChainFrom
  rw [hic]
  exact ⟨hin, fun a => h0 (fun q => a q.1), fun a => ⟨hin, fun b => h0 (fun q => b q.2), fun b => h1 a b⟩⟩
theorem w_applyChain {post : ctN → ctF → Prop} {n : ctN} {f : ctF} {N R h z : Nat} (hN : n 2 = nI N) (hN' : N < 120) (hR : n 1 = nI R) (hR' : R ≤ 40) (hh : h < 8) (go co : Nat → Nat) (hgo : ∀ i, i < R → go i < 8 ∧ f 4 i = nI (go i)) (hco : ∀ i, i < R → co i ≤ 20 ∧ f 8 i = nI (co i)) (hz : z < 2 ^ 29)
    (I : Nat → (Nat → Option Nat) → (Nat → Option Nat) → Prop)
    (hskip : ∀ i C Q, i < R → I i C Q → ¬ (f 5 i = -1 ∧ f 6 i = nI h) → I (i + 1) C Q) (hdear : ∀ i C Q, i < R → I i C Q → f 5 i = -1 → f 6 i = nI h → ¬ takes C (go i) (some (z + co i)) → I (i + 1) C Q)
    (htake : ∀ i C Q, i < R → I i C Q → f 5 i = -1 → f 6 i = nI h → takes C (go i) (some (z + co i)) → I (i + 1) (va_up C (go i) (some (z + co i))) (va_up Q (go i) (some i)))
    {C0 Q0 : Nat → Option Nat} (h0 : I 0 C0 Q0) (hrow : rowC N f C0 Q0) (hc : C0 h = some z) (hend : ∀ f' C Q, I R C Q → rowC N f' C Q → keepsRow N f f' → post n f') : wp_F_applyChainRulesFrom post (nI h) n f := by
  have loop : ∀ (d i : Nat) (f' : ctF) (C Q : Nat → Option Nat), R = i + d → I i C Q → rowC N f' C Q → keepsRow N f f' → wp_F_applyChainRulesFrom_L16 post (d + 1) (nI h) (nI z) (nI i) n f' := by
    intro d
    induction d with
    | zero =>
      intro i f' C Q hd hi hr hk
      rw [wp_F_applyChainRulesFrom_L16, hR]
      have e : R = i := hd
      subst e
      exact ⟨fun _ => hend f' C Q hi hr hk, fun q => absurd (nI_le (Nat.le_refl R) (by omega)) q⟩
    | succ d ih =>
      intro i f' C Q hd hi hr hk
      have hlt : i < R := by omega
      have hic : (nI i).toNatClampNeg = i := nI_clamp (by omega)
      have hi1 : nI i + 1 = nI (i + 1) := nI_1 i
      rw [wp_F_applyChainRulesFrom_L16, hR, hic, hi1]
      refine ⟨fun q => absurd q (nI_ge hlt (by omega)), fun _ => ?_⟩
      refine w_isChainFrom (by omega) (fun a b => ?_) (fun a => ?_)
      · rw [hk.at (by decide) (by decide)] at a b
        refine ⟨fun q => absurd q (by decide), fun _ => ⟨vp_in_nI (by omega) (by decide), ?_⟩⟩
        obtain ⟨hg8, hg4⟩ := hgo i hlt
        obtain ⟨hc20, hc8⟩ := hco i hlt
        rw [hk.at (by decide) (by decide), hc8, nI_add]
        refine w_offer (price := some (z + co i)) hN hN' (by omega) hg8 (by rw [hk.at (by decide) (by decide)]; exact hg4) (fun y hy => by cases hy; omega) ?_
        rintro _ rfl
        obtain ⟨hcase, hs, h12, h16, h17⟩ := offF_row (i := i) hr hg8 (price := some (z + co i)) (fun y hy => by cases hy; omega)
        have hk2 : keepsRow N f (offF f' N i (go i) (some (z + co i))) := hk.tr ⟨hs, h12, h16, h17⟩
        rcases hcase with ⟨ht, y, hy, hrow2⟩ | ⟨ht, he⟩
        · cases hy
          exact ih (i + 1) _ _ _ (by omega) (htake i C Q hlt hi a b ht) hrow2 hk2
        · exact ih (i + 1) _ C Q (by omega) (hdear i C Q hlt hi a b ht) (by rw [he]; exact hr) hk2
      · rw [hk.at (by decide) (by decide), hk.at (k := 6) (by decide) (by decide)] at a
        refine ⟨fun _ => ?_, fun q => absurd rfl q⟩
        rintro _ rfl
        exact ih (i + 1) f' C Q (by omega) (hskip i C Q hlt hi a) hr hk
  unfold wp_F_applyChainRulesFrom
  rw [hN]
  refine w_place ⟨ix_in hN' hh, ?_⟩
  rw [ix_cl hN' hh, (hrow.1 h hh).1, hc]
  rintro _ rfl
  refine ⟨R + 1, ?_⟩
  have q := loop R 0 f C0 Q0 (by omega) h0 hrow (keepsRow.rf N f)
  rw [nI_0] at q
  exact q
