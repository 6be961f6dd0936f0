/-! sums over the goals, sizes as ints, bounds of costs -/
def q_sm (φ : Nat → Nat) : Nat → Nat
  | 0 => 0
  | m + 1 => q_sm φ m + φ m
theorem sm_eq {φ ψ : Nat → Nat} : ∀ m, (∀ g, g < m → φ g = ψ g) → q_sm φ m = q_sm ψ m
  | 0, _ => rfl
  | m + 1, h => by
    rw [q_sm, q_sm, sm_eq m (fun g hg => h g (by omega)), h m (by omega)]
theorem sm_up {φ ψ : Nat → Nat} {g : Nat} (h : ∀ j, j ≠ g → ψ j = φ j) : ∀ m, g < m → q_sm ψ m + φ g = q_sm φ m + ψ g
  | 0, hg => absurd hg (Nat.not_lt_zero _)
  | m + 1, hg => by
    rw [q_sm, q_sm]
    by_cases e : g = m
    · subst e
      rw [sm_eq (φ := ψ) (ψ := φ) g (fun j hj => h j (by omega))]
      omega
    · have := sm_up h m (by omega)
      rw [h m (fun q => e q.symm)]
      omega
theorem sm_le {φ : Nat → Nat} {B : Nat} : ∀ m, (∀ g, g < m → φ g ≤ B) → q_sm φ m ≤ m * B
  | 0, _ => Nat.zero_le _
  | m + 1, h => by
    have := sm_le m (fun g hg => h g (by omega))
    have := h m (by omega)
    rw [q_sm, Nat.succ_mul]
    omega
theorem sm_full {φ : Nat → Nat} : ∀ m, (∀ g, g < m → φ g ≤ 1) → m ≤ q_sm φ m → ∀ g, g < m → φ g = 1
  | 0, _, _, g, hg => absurd hg (Nat.not_lt_zero _)
  | m + 1, h, hs, g, hg => by
    rw [q_sm] at hs
    have h1 := sm_le (B := 1) m (fun g hg => h g (by omega))
    have h2 := h m (by omega)
    by_cases e : g = m
    · subst e; omega
    · exact sm_full m (fun g hg => h g (by omega)) (by omega) g (by omega)
/-- how many goals have a cost -/
def q_cN (C : Nat → Option Nat) : Nat := q_sm (fun g => if C g = none then 0 else 1) 8
def bndC (C : Nat → Option Nat) : Prop := ∀ g x, C g = some x → x ≤ 2000020 + 20 * q_cN C
theorem cN_le (C : Nat → Option Nat) : q_cN C ≤ 8 := by
  have := sm_le (φ := fun g => if C g = none then 0 else 1) (B := 1) 8 (fun g _ => by split <;> omega)
  unfold q_cN; omega
theorem bnd_lt {C : Nat → Option Nat} (h : bndC C) {g x : Nat} (e : C g = some x) : x ≤ 2000180 := by
  have := h g x e
  have := cN_le C
  omega
theorem bnd_none : bndC (fun _ => none) := fun _ _ e => nomatch e
theorem bnd_take {C : Nat → Option Nat} (h : bndC C) {g y : Nat} (hg : g < 8) (ht : takes C g (some y)) (hy : y ≤ 2000020 ∨ ∃ j x, C j = some x ∧ y ≤ x + 20) : bndC (va_up C g (some y)) := by
  have e1 : ∀ j, j ≠ g → (fun g' => if va_up C g (some y) g' = none then 0 else 1) j = (fun g' => if C g' = none then 0 else 1) j := fun j hj => by
    dsimp only; rw [va_up_ne _ _ hj]
  have e2 := sm_up (φ := fun g' => if C g' = none then 0 else 1) (ψ := fun g' => if va_up C g (some y) g' = none then 0 else 1) e1 8 hg
  rw [va_up_self, if_neg (show ¬ some y = none from fun q => nomatch q)] at e2
  obtain ⟨y2, ey, ht⟩ := ht
  cases ey
  have hc : q_cN C ≤ q_cN (va_up C g (some y)) ∧ (C g = none → q_cN (va_up C g (some y)) = q_cN C + 1) := by
    unfold q_cN
    by_cases q : C g = none
    · rw [if_pos q] at e2
      exact ⟨by omega, fun _ => by omega⟩
    · rw [if_neg q] at e2
      exact ⟨by omega, fun z => absurd z q⟩
  intro j x hx
  by_cases e : j = g
  · subst e
    rw [va_up_self] at hx
    cases hx
    rcases ht with ht | ⟨x0, hx0, hlt⟩
    · have := hc.2 ht
      rcases hy with hy | ⟨j2, x2, hj2, hy⟩
      · omega
      · have := h j2 x2 hj2
        omega
    · have := h j x0 hx0
      omega
  · rw [va_up_ne _ _ e] at hx
    have := h j x hx
    omega
/-- a cover's size as it is kept, or -1 -/
def szOK (x : Int32) : Prop := -1 ≤ x.toInt ∧ x.toInt ≤ 2001
theorem sz_m1 : szOK (-1) := by unfold szOK; decide
theorem ia_add {a b : Int32} (h1 : -1000000000 ≤ a.toInt) (h2 : a.toInt ≤ 1000000000) (h3 : -1000000000 ≤ b.toInt) (h4 : b.toInt ≤ 1000000000) : (a + b).toInt = a.toInt + b.toInt := by
  rw [Int32.toInt_add]
  exact Int.bmod_eq_of_le (by omega) (by omega)
theorem ia_sub {a b : Int32} (h1 : -1000000000 ≤ a.toInt) (h2 : a.toInt ≤ 1000000000) (h3 : -1000000000 ≤ b.toInt) (h4 : b.toInt ≤ 1000000000) : (a - b).toInt = a.toInt - b.toInt := by
  rw [Int32.toInt_sub]
  exact Int.bmod_eq_of_le (by omega) (by omega)
theorem sz_min {x : Int32} (h : -1 ≤ x.toInt) : szOK (if (2001 : Int32) < x then (2001 : Int32) else x) := by
  have e : (2001 : Int32).toInt = 2001 := by decide
  by_cases q : (2001 : Int32) < x
  · rw [if_pos q]; exact ⟨by rw [e]; omega, by rw [e]; omega⟩
  · rw [if_neg q]
    rw [w_lt, e] at q
    exact ⟨h, by omega⟩
theorem ia_1 : (1 : Int32).toInt = 1 := by decide
theorem ia_0 : (0 : Int32).toInt = 0 := by decide
theorem sz_1 {x : Int32} (h : szOK x) : 0 ≤ (1 + x).toInt ∧ (1 + x).toInt ≤ 2002 := by
  rw [ia_add (by rw [ia_1]; omega) (by rw [ia_1]; omega) (by have := h.1; omega) (by have := h.2; omega), ia_1]
  have := h.1; have := h.2
  omega
theorem sz_2 {x y : Int32} (h1 : 0 ≤ x.toInt) (h2 : x.toInt ≤ 2002) (h : szOK y) : -1 ≤ (x + y).toInt := by
  have := h.1; have := h.2
  rw [ia_add (by omega) (by omega) (by omega) (by omega)]
  omega
theorem w_sizeByRule {post : Int32 → ctN → ctF → Prop} {n : ctN} {f : ctF} {N b i : Nat} (hN : n 2 = nI N) (hN' : N < 120) (hb : b < 8) (hq : f 15 (8 * N + b) = nI i) (hi : i < 40)
    (hcase : (f 5 i = -1 ∧ ∃ h, h < 8 ∧ f 6 i = nI h ∧ szOK (f 16 (8 * N + h))) ∨ (¬ f 5 i = -1 ∧ ∃ o k, o < 10 ∧ f 9 N = nI o ∧ f 3 o = nI k ∧ k ≤ 2 ∧ (1 ≤ k → ∃ u g, u < 120 ∧ g < 8 ∧ f 10 N = nI u ∧ f 6 i = nI g ∧ szOK (f 16 (8 * u + g))) ∧ (2 ≤ k → ∃ u g, u < 120 ∧ g < 8 ∧ f 11 N = nI u ∧ f 7 i = nI g ∧ szOK (f 16 (8 * u + g)))))
    (h : ∀ s, szOK s → post s n f) : wp_F_sizeByRule post (nI b) n f := by
  have hic : (nI i).toNatClampNeg = i := nI_clamp (by omega)
  have hin : vp_in (nI i) 40 := vp_in_nI hi (by decide)
  have hNc : (nI N).toNatClampNeg = N := nI_clamp (by omega)
  have hNi : vp_in (nI N) 120 := vp_in_nI hN' (by decide)
  unfold wp_F_sizeByRule
  rw [hN]
  refine w_place ⟨ix_in hN' hb, ?_⟩
  simp only [ix_cl hN' hb, hq, hN, hNc]
  rintro _ rfl
  simp only [hic]
  refine ⟨hin, fun c => ?_, fun c => ?_⟩
  · rcases hcase with ⟨c2, -⟩ | ⟨-, o, k, ho, h9, h3, hk, hp1, hp2⟩
    · exact absurd c2 c
    have k1 : nI k < 1 ↔ k < 1 := by rw [show (1 : Int32) = nI 1 by decide]; exact nI_ltI (by omega) (by decide)
    have k2 : nI k < 2 ↔ k < 2 := by rw [show (2 : Int32) = nI 2 by decide]; exact nI_ltI (by omega) (by decide)
    have hoc : (nI o).toNatClampNeg = o := nI_clamp (by omega)
    have J : ∀ x : Int32, 0 ≤ x.toInt → x.toInt ≤ 2002 → wp_F_sizeByRule_J110 post (nI i) x (nI k) n f := by
      intro x hx1 hx2
      unfold wp_F_sizeByRule_J110
      rw [hN, hNc, hic]
      refine ⟨fun _ => h _ (sz_min (by omega)), fun q => ⟨hNi, hin, ?_⟩⟩
      obtain ⟨u, g, hu, hg, h11, h7, hs⟩ := hp2 (by have : ¬ k < 2 := fun z => q (k2.mpr z); omega)
      rw [h11, h7]
      refine w_place ⟨ix_in hu hg, ?_⟩
      rw [ix_cl hu hg]
      rintro _ rfl
      exact h _ (sz_min (sz_2 hx1 hx2 hs))
    rw [h9, hoc, h3]
    refine ⟨hNi, vp_in_nI ho (by decide), ?_⟩
    rintro _ rfl
    refine ⟨fun _ => J 1 (by rw [ia_1]; omega) (by rw [ia_1]; omega), fun q => ⟨hNi, hin, ?_⟩⟩
    obtain ⟨u, g, hu, hg, h10, h6, hs⟩ := hp1 (by have : ¬ k < 1 := fun z => q (k1.mpr z); omega)
    rw [h10, h6]
    refine w_place ⟨ix_in hu hg, ?_⟩
    rw [ix_cl hu hg]
    rintro _ rfl
    exact J _ (sz_1 hs).1 (sz_1 hs).2
  · rcases hcase with ⟨-, hh, hh8, h6, hs⟩ | ⟨c2, -⟩
    · rw [h6]
      refine ⟨hin, w_place ⟨ix_in hN' hh8, ?_⟩⟩
      rw [ix_cl hN' hh8]
      rintro _ rfl
      exact h _ (sz_min (by have := (sz_1 hs).1; omega))
    · exact absurd c c2
