/-! the draft's row made blank -/
def blankTo (N m : Nat) (f : ctF) : Prop := f 12 N = -1 ∧ ∀ g, g < m → f 14 (8 * N + g) = -1 ∧ f 15 (8 * N + g) = -1 ∧ f 16 (8 * N + g) = -1 ∧ f 17 g = 0
theorem nar0 : vp_nar .boolean 0 = 0 := rfl
theorem w_blank {post : ctN → ctF → Prop} {n : ctN} {f : ctF} {N : Nat} (hN : n 2 = nI N) (hN' : N < 120) (h : ∀ f', sameBut N f f' → blankTo N 8 f' → post n f') : wp_F_blankDraft post n f := by
  have e8 : (8 : Int32) = nI 8 := ix_8
  have hNc : (nI N).toNatClampNeg = N := nI_clamp (by omega)
  have loop : ∀ (d m : Nat) (f' : ctF), 8 = m + d → sameBut N f f' → blankTo N m f' → wp_F_blankDraft_L12 post (d + 1) (nI m) n f' := by
    intro d
    induction d with
    | zero =>
      intro m f' hd hs hb
      have e : m = 8 := by omega
      subst e
      rw [wp_F_blankDraft_L12]
      exact ⟨fun _ => h f' hs hb, fun q => absurd (by rw [e8]; exact nI_le (Nat.le_refl 8) (by decide)) q⟩
    | succ d ih =>
      intro m f' hd hs hb
      have hm : m < 8 := by omega
      have hmc : (nI m).toNatClampNeg = m := nI_clamp (by omega)
      have hm1 : nI m + 1 = nI (m + 1) := nI_1 m
      have hx := ix_in hN' hm
      rw [wp_F_blankDraft_L12]
      refine ⟨fun q => absurd q (by rw [e8]; exact nI_ge hm (by decide)), fun _ => ?_⟩
      rw [hN]
      refine w_place ?_
      simp only [ix_cl hN' hm, hmc, hm1, nar0]
      refine ⟨hx, ?_⟩
      rintro _ rfl
      refine ⟨hx, ?_⟩
      rintro _ rfl
      refine ⟨hx, ?_⟩
      rintro _ rfl
      refine ⟨vp_in_nI hm (by decide), ?_⟩
      rintro f2 hf2 _ rfl
      have a14 : f2 14 = upd (f' 14) (8 * N + m) (-1) := by rw [hf2, va_up_ne _ _ (by decide), va_up_ne _ _ (by decide), va_up_ne _ _ (by decide), va_up_self]
      have a15 : f2 15 = upd (f' 15) (8 * N + m) (-1) := by rw [hf2, va_up_ne _ _ (by decide), va_up_ne _ _ (by decide), va_up_self, va_up_ne _ _ (by decide)]
      have a16 : f2 16 = upd (f' 16) (8 * N + m) (-1) := by rw [hf2, va_up_ne _ _ (by decide), va_up_self, va_up_ne _ _ (by decide), va_up_ne _ _ (by decide)]
      have a17 : f2 17 = upd (f' 17) m 0 := by rw [hf2, va_up_self, va_up_ne _ _ (by decide), va_up_ne _ _ (by decide), va_up_ne _ _ (by decide)]
      have ao : ∀ k, k ≠ 14 → k ≠ 15 → k ≠ 16 → k ≠ 17 → f2 k = f' k := fun k h1 h2 h3 h4 => by rw [hf2, va_up_ne _ _ h4, va_up_ne _ _ h3, va_up_ne _ _ h2, va_up_ne _ _ h1]
      refine ih (m + 1) f2 (by omega) (hs.tr ⟨fun k _ h2 h3 h4 h5 => ao k h2 h3 h4 h5, fun j _ => by rw [ao 12 (by decide) (by decide) (by decide) (by decide)], fun j hj => ⟨by rw [a14, upd_ne _ _ (by omega)], by rw [a15, upd_ne _ _ (by omega)], by rw [a16, upd_ne _ _ (by omega)]⟩⟩) ⟨by rw [ao 12 (by decide) (by decide) (by decide) (by decide)]; exact hb.1, fun g hg => ?_⟩
      by_cases e : g = m
      · subst e
        exact ⟨by rw [a14, upd_self], by rw [a15, upd_self], by rw [a16, upd_self], by rw [a17, upd_self]⟩
      · obtain ⟨b1, b2, b3, b4⟩ := hb.2 g (by omega)
        exact ⟨by rw [a14, upd_ne _ _ (by omega)]; exact b1, by rw [a15, upd_ne _ _ (by omega)]; exact b2, by rw [a16, upd_ne _ _ (by omega)]; exact b3, by rw [a17, upd_ne _ _ e]; exact b4⟩
  unfold wp_F_blankDraft
  rw [hN, hNc]
  refine ⟨vp_in_nI hN' (by decide), ?_⟩
  rintro f2 hf2
  refine ⟨9, ?_⟩
  have a12 : f2 12 = upd (f 12) N (-1) := by rw [hf2, va_up_self]
  have ao : ∀ k, k ≠ 12 → f2 k = f k := fun k h1 => by rw [hf2, va_up_ne _ _ h1]
  have q := loop 8 0 f2 (by omega) ⟨fun k h1 _ _ _ _ => ao k h1, fun j hj => by rw [a12, upd_ne _ _ hj], fun j _ => ⟨by rw [ao 14 (by decide)], by rw [ao 15 (by decide)], by rw [ao 16 (by decide)]⟩⟩ ⟨by rw [a12, upd_self], fun g hg => absurd hg (Nat.not_lt_zero _)⟩
  rw [nI_0] at q
  exact q
theorem blank_row {N : Nat} {f : ctF} (h : blankTo N 8 f) : rowC N f (fun _ => none) (fun _ => none) ∧ flagS f (fun _ => false) :=
  ⟨⟨fun g hg => ⟨(h.2 g hg).1, (h.2 g hg).2.1⟩, fun _ _ e => nomatch e⟩, fun g hg => (h.2 g hg).2.2.2⟩
