/-! numbers and places; the class's offer as a function -/
theorem ix_8 : (8 : Int32) = nI 8 := by decide
theorem ix_c (v g : Nat) : nI v * 8 + nI g = nI (8 * v + g) := by
  rw [ix_8, pk_mul, nI_add, Nat.mul_comm]
theorem ix_m (v g : Nat) : 8 * nI v + nI g = nI (8 * v + g) := by
  rw [ix_8, pk_mul, nI_add]
theorem ix_lt {v g : Nat} (hv : v < 120) (hg : g < 8) : 8 * v + g < 960 := by omega
theorem ix_in {v g : Nat} (hv : v < 120) (hg : g < 8) : vp_in (nI (8 * v + g)) 960 := vp_in_nI (ix_lt hv hg) (by decide)
theorem ix_cl {v g : Nat} (hv : v < 120) (hg : g < 8) : (nI (8 * v + g)).toNatClampNeg = 8 * v + g := nI_clamp (Nat.lt_trans (ix_lt hv hg) (by decide))
/-- a cost that may be wanting -/
def en (o : Option Nat) : Int32 := match o with
  | none => -1
  | some k => nI k
theorem en_n : en none = -1 := rfl
theorem en_s (k : Nat) : en (some k) = nI k := rfl
theorem nI_m1 {k : Nat} (h : k < 2 ^ 31) : ¬ nI k = -1 := by
  intro e
  have a := nI_toInt h
  rw [e] at a
  have b : (-1 : Int32).toInt = -1 := by decide
  rw [b] at a
  omega
theorem en_m1 {o : Option Nat} (h : ∀ k, o = some k → k < 2 ^ 31) : en o = -1 ↔ o = none := by
  cases o with
  | none => exact ⟨fun _ => rfl, fun _ => rfl⟩
  | some k => exact ⟨fun e => absurd e (nI_m1 (h k rfl)), fun e => by cases e⟩
theorem w_place {post : Int32 → ctN → ctF → Prop} {n : ctN} {f : ctF} {v g : Nat} (h : post (nI (8 * v + g)) n f) : wp_C_place post (nI v) (nI g) n f := by
  unfold wp_C_place
  rw [ix_c]
  exact h
/-- what offer leaves: the arrays of costs and rules with a cheaper way written down -/
def offF (f : ctF) (N i g : Nat) (price : Option Nat) : ctF := match price with
  | none => f
  | some y => if f 14 (8 * N + g) = -1 ∨ nI y < f 14 (8 * N + g) then va_up (va_up f 14 (upd (f 14) (8 * N + g) (nI y))) 15 (upd (f 15) (8 * N + g) (nI i)) else f
theorem w_nle {x y : Int32} : ¬ y ≤ x ↔ x < y := by
  rw [w_le, w_lt]; omega
theorem w_offer {post : ctN → ctF → Prop} {n : ctN} {f : ctF} {N i g : Nat} (hN : n 2 = nI N) (hN' : N < 120) (hi : i < 40) (hg : g < 8) (hgo : f 4 i = nI g) (price : Option Nat) (hp : ∀ y, price = some y → y < 2 ^ 31) (h : post n (offF f N i g price)) : wp_F_offer post (nI i) (en price) n f := by
  have hic : (nI i).toNatClampNeg = i := nI_clamp (by omega)
  have hin : vp_in (nI i) 40 := vp_in_nI hi (by decide)
  have hx := ix_in hN' hg
  have hxc := ix_cl hN' hg
  unfold wp_F_offer
  rw [hic, hgo, hN]
  refine ⟨hin, w_place ?_⟩
  cases price with
  | none => exact ⟨fun _ => h, fun e => absurd rfl e⟩
  | some y =>
    refine ⟨fun e => absurd e (nI_m1 (hp y rfl)), fun _ => ⟨hx, ?_⟩⟩
    unfold wp_F_offer_J42
    simp only [hxc, en_s]
    have h : post n (if f 14 (8 * N + g) = -1 ∨ nI y < f 14 (8 * N + g) then va_up (va_up f 14 (upd (f 14) (8 * N + g) (nI y))) 15 (upd (f 15) (8 * N + g) (nI i)) else f) := h
    have key : ∀ (c : f 14 (8 * N + g) = -1 ∨ nI y < f 14 (8 * N + g)) (f9 : ctF), f9 = va_up f 14 (upd (f 14) (8 * N + g) (nI y)) → vp_in (nI (8 * N + g)) 960 ∧ ∀ f11 : ctF, f11 = va_up f9 15 (upd (f9 15) (8 * N + g) (nI i)) → post n f11 := by
      rintro c _ rfl
      refine ⟨hx, ?_⟩
      rintro _ rfl
      rw [if_pos c] at h
      rw [va_up_ne _ _ (show (15 : Nat) ≠ 14 by decide)]
      exact h
    refine ⟨fun c => ⟨hx, key (Or.inl c)⟩, fun c => ⟨hx, fun d => ?_, fun d => ⟨hx, key (Or.inr (w_nle.mp d))⟩⟩⟩
    rw [if_neg (fun q => q.elim c (fun q => (w_nle.mpr q) d))] at h
    exact h
