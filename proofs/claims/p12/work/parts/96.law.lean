/-! the law of p12: call by call -/
theorem law_in {L c j : Nat} (hL : L ≤ 3072) (h : 6 * c + 6 ≤ L) (hj : j < 6) {x y : Int32} (hx : x = nI (6 * c)) (hy : y = nI j) : vp_in (x + y) L := by
  rw [hx, hy, nI_add]
  exact vp_in_nI (by omega) (by omega)
set_option maxHeartbeats 4000000 in
set_option maxRecDepth 100000 in
theorem law_all {xs : Nat → Int32} {L : Nat} (hL : L ≤ 3072) : ∀ (k c : Nat) (n : ctN) (f : ctF), 6 * c ≤ L → L < 6 * (c + k) → PInv2 n f → wp_law xs L k (nI (6 * c)) n f := by
  intro k
  induction k with
  | zero => intro c n f h1 h2; exfalso; omega
  | succ k ih =>
    intro c n f h1 h2 I
    rw [wp_law]
    refine ⟨fun _ => trivial, fun hlt => ?_⟩
    have h6 : 6 * c + 6 ≤ L := by
      have e6 : (6 : Int32).toInt = 6 := by decide
      rw [w_lt, show Int32.ofNat L = nI L from rfl, ia_sub (by rw [nI_toInt (by omega)]; omega) (by rw [nI_toInt (by omega)]; omega) (by rw [e6]; omega) (by rw [e6]; omega), nI_toInt (by omega), nI_toInt (by omega), e6] at hlt
      omega
    have i0 : vp_in (nI (6 * c)) L := vp_in_nI (by omega) (by omega)
    have i1 : vp_in (nI (6 * c) + 1) L := law_in (j := 1) hL h6 (by decide) rfl (by decide)
    have i2 : vp_in (nI (6 * c) + 2) L := law_in (j := 2) hL h6 (by decide) rfl (by decide)
    have i3 : vp_in (nI (6 * c) + 3) L := law_in (j := 3) hL h6 (by decide) rfl (by decide)
    have i4 : vp_in (nI (6 * c) + 4) L := law_in (j := 4) hL h6 (by decide) rfl (by decide)
    have i5 : vp_in (nI (6 * c) + 5) L := law_in (j := 5) hL h6 (by decide) rfl (by decide)
    have nx : ∀ (n' : ctN) (f' : ctF), PInv2 n' f' → ∀ x : Int32, x = nI (6 * c) + 6 → wp_law xs L k x n' f' := by
      intro n' f' I' x hx
      have e : x = nI (6 * (c + 1)) := by rw [hx, show (6 : Int32) = nI 6 by decide, nI_add]; rfl
      rw [e]
      exact ih (c + 1) n' f' (by omega) (by omega) I'
    refine ⟨i0, ?_⟩
    refine ⟨fun _ => ?_, fun _ => ?_, fun _ => ?_, fun _ => ?_, fun _ => ?_, fun _ => ?_, fun _ => ?_, fun _ => ?_, fun _ => ?_, fun _ => ?_, fun _ => ?_, fun _ => ?_, fun _ => nx n f I⟩
    · exact k2_clear I (fun _ _ h => h) (fun n' f' I' => nx n' f' I')
    · exact k2_fell I (fun _ _ h => h) (fun n' f' I' => nx n' f' I')
    · exact ⟨i1, k2_operator I (fun _ _ _ h => ⟨i1, h⟩) (fun _ _ n' f' I' => nx n' f' I')⟩
    · exact ⟨i1, i2, i3, i4, i5, k2_base I (fun _ _ _ h => ⟨i1, i2, i3, i4, i5, h⟩) (fun _ _ n' f' I' => nx n' f' I')⟩
    · exact ⟨i1, i2, i3, k2_chain I (fun _ _ _ h => ⟨i1, i2, i3, h⟩) (fun _ _ n' f' I' => nx n' f' I')⟩
    · exact ⟨i1, i2, i3, k2_node I (fun _ _ _ h => ⟨i1, i2, i3, h⟩) (fun _ _ n' f' I' => nx n' f' I')⟩
    · exact ⟨i1, i2, k2_cost I (fun _ _ _ h => ⟨i1, i2, h⟩) (fun _ _ n' f' I' => nx n' f' I')⟩
    · exact ⟨i1, i2, k2_rule I (fun _ _ _ h => ⟨i1, i2, h⟩) (fun _ _ n' f' I' => nx n' f' I')⟩
    · exact ⟨i1, i2, k2_size I (fun _ _ _ h => ⟨i1, i2, h⟩) (fun _ _ n' f' I' => nx n' f' I')⟩
    · exact ⟨i1, i2, i3, i4, k2_cover I (fun _ _ _ h => ⟨i1, i2, i3, i4, h⟩) (fun _ _ n' f' I' => nx n' f' I')⟩
    · exact k2_states I (fun _ _ _ h => h) (fun _ _ n' f' I' e => ⟨fun _ => nx n' f' I', fun z => absurd e z⟩)
    · exact ⟨i1, k2_like I (fun _ _ _ h => ⟨i1, h⟩) (fun _ _ n' f' I' _ _ => nx n' f' I')⟩
theorem law_pure : ∀ (xs : Nat → Int32) (L : Nat), L ≤ 3072 → ∃ k, k ≤ lwK ∧ wp_law xs L k 0 (fun _ => 0) (fun _ _ => 0) := by
  intro xs L hL
  refine ⟨L / 6 + 1, by show _ ≤ 1041; omega, ?_⟩
  have h := law_all (xs := xs) hL (L / 6 + 1) 0 (fun _ => 0) (fun _ _ => 0) (by omega) (by omega) inv2_start
  rw [show nI (6 * 0) = 0 from nI_0] at h
  exact h
