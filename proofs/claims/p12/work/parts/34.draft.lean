/-! the draft's row: costs and rules by goal -/
/-- nothing of the nodes below N, of the rules and operators has changed -/
def sameBut (N : Nat) (f f' : ctF) : Prop := (∀ k, k ≠ 12 → k ≠ 14 → k ≠ 15 → k ≠ 16 → k ≠ 17 → f' k = f k) ∧ (∀ j, j ≠ N → f' 12 j = f 12 j) ∧ (∀ j, j < 8 * N → f' 14 j = f 14 j ∧ f' 15 j = f 15 j ∧ f' 16 j = f 16 j)
theorem sameBut.rf (N : Nat) (f : ctF) : sameBut N f f := ⟨fun _ _ _ _ _ _ => rfl, fun _ _ => rfl, fun _ _ => ⟨rfl, rfl, rfl⟩⟩
theorem sameBut.tr {N : Nat} {f g h : ctF} (a : sameBut N f g) (b : sameBut N g h) : sameBut N f h :=
  ⟨fun k h1 h2 h3 h4 h5 => (b.1 k h1 h2 h3 h4 h5).trans (a.1 k h1 h2 h3 h4 h5), fun j hj => (b.2.1 j hj).trans (a.2.1 j hj), fun j hj => ⟨((b.2.2 j hj).1).trans (a.2.2 j hj).1, ((b.2.2 j hj).2.1).trans (a.2.2 j hj).2.1, ((b.2.2 j hj).2.2).trans (a.2.2 j hj).2.2⟩⟩
/-- a rule's offer is taken: there was no way yet, or a dearer one -/
def takes (C : Nat → Option Nat) (g : Nat) (price : Option Nat) : Prop := ∃ y, price = some y ∧ (C g = none ∨ ∃ x, C g = some x ∧ y < x)
/-- the row of node N in the arrays 14 and 15 -/
def rowC (N : Nat) (f : ctF) (C R : Nat → Option Nat) : Prop := (∀ h, h < 8 → f 14 (8 * N + h) = en (C h) ∧ f 15 (8 * N + h) = en (R h)) ∧ ∀ h x, C h = some x → x < 2 ^ 30
theorem upd_self (f : Nat → Int32) (k : Nat) (x : Int32) : upd f k x k = x := by simp [upd]
theorem upd_ne (f : Nat → Int32) {k j : Nat} (x : Int32) (h : j ≠ k) : upd f k x j = f j := by simp [upd, h]
theorem en_lt {y x : Nat} (hy : y < 2 ^ 31) (hx : x < 2 ^ 31) : nI y < en (some x) ↔ y < x := nI_ltI hy hx
theorem offF_row {N i g : Nat} {f : ctF} {C R : Nat → Option Nat} (hr : rowC N f C R) (hg : g < 8) {price : Option Nat} (hp : ∀ y, price = some y → y < 2 ^ 30) :
    (takes C g price ∧ (∃ y, price = some y ∧ rowC N (offF f N i g price) (va_up C g (some y)) (va_up R g (some i))) ∨ ¬ takes C g price ∧ offF f N i g price = f) ∧ sameBut N f (offF f N i g price) ∧ (offF f N i g price) 12 = f 12 ∧ (offF f N i g price) 16 = f 16 ∧ (offF f N i g price) 17 = f 17 := by
  cases price with
  | none => exact ⟨Or.inr ⟨(fun ⟨y, e, _⟩ => nomatch e), rfl⟩, sameBut.rf N f, rfl, rfl, rfl⟩
  | some y =>
    have hy := hp y rfl
    have hC := (hr.1 g hg).1
    have hcond : (f 14 (8 * N + g) = -1 ∨ nI y < f 14 (8 * N + g)) ↔ takes C g (some y) := by
      rw [hC]
      constructor
      · rintro (e | e)
        · exact ⟨y, rfl, Or.inl ((en_m1 (fun k hk => Nat.lt_trans (hr.2 g k hk) (by decide))).mp e)⟩
        · cases hc : C g with
          | none => exact ⟨y, rfl, Or.inl hc⟩
          | some x =>
            rw [hc] at e
            exact ⟨y, rfl, Or.inr ⟨x, hc, (en_lt (by omega) (by have := hr.2 g x hc; omega)).mp e⟩⟩
      · rintro ⟨y2, e, h⟩
        cases e
        rcases h with h | ⟨x, hc, hlt⟩
        · exact Or.inl (by rw [h]; rfl)
        · exact Or.inr (by rw [hc]; exact (en_lt (by omega) (by have := hr.2 g x hc; omega)).mpr hlt)
    by_cases ht : takes C g (some y)
    · have e : offF f N i g (some y) = va_up (va_up f 14 (upd (f 14) (8 * N + g) (nI y))) 15 (upd (f 15) (8 * N + g) (nI i)) := if_pos (hcond.mpr ht)
      have e14 : offF f N i g (some y) 14 = upd (f 14) (8 * N + g) (nI y) := by rw [e, va_up_ne _ _ (by decide), va_up_self]
      have e15 : offF f N i g (some y) 15 = upd (f 15) (8 * N + g) (nI i) := by rw [e, va_up_self]
      have eo : ∀ k, k ≠ 14 → k ≠ 15 → offF f N i g (some y) k = f k := fun k h1 h2 => by rw [e, va_up_ne _ _ h2, va_up_ne _ _ h1]
      refine ⟨Or.inl ⟨ht, y, rfl, ⟨fun h hh => ?_, fun h x hx => ?_⟩⟩, ⟨fun k _ h2 h3 _ _ => eo k h2 h3, fun j _ => by rw [eo 12 (by decide) (by decide)], fun j hj => ⟨?_, ?_, by rw [eo 16 (by decide) (by decide)]⟩⟩, eo 12 (by decide) (by decide), eo 16 (by decide) (by decide), eo 17 (by decide) (by decide)⟩
      · rw [e14, e15]
        by_cases q : h = g
        · subst q
          exact ⟨by rw [upd_self, va_up_self]; rfl, by rw [upd_self, va_up_self]; rfl⟩
        · exact ⟨by rw [upd_ne _ _ (by omega), va_up_ne _ _ q]; exact (hr.1 h hh).1, by rw [upd_ne _ _ (by omega), va_up_ne _ _ q]; exact (hr.1 h hh).2⟩
      · by_cases q : h = g
        · subst q
          rw [va_up_self] at hx
          cases hx
          exact hy
        · rw [va_up_ne _ _ q] at hx
          exact hr.2 h x hx
      · rw [e14, upd_ne _ _ (by omega)]
      · rw [e15, upd_ne _ _ (by omega)]
    · have e : offF f N i g (some y) = f := if_neg (fun q => ht (hcond.mp q))
      rw [e]
      exact ⟨Or.inr ⟨ht, rfl⟩, sameBut.rf N f, rfl, rfl, rfl⟩
