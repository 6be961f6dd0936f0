/-! least costs: what a rule asks of the costs, costs that no rule can better, costs below all such -/
/-- rule i over the costs C: a chain rule (ch i) asks what the node costs as ot i, and co i more; a base rule asks pr i -/
def byR (ch : Nat → Bool) (ot co : Nat → Nat) (pr : Nat → Option Nat) (C : Nat → Option Nat) (i : Nat) : Option Nat := if ch i = true then (C (ot i)).map (fun x => x + co i) else pr i
def closedC (R : Nat) (go : Nat → Nat) (ch : Nat → Bool) (ot co : Nat → Nat) (pr : Nat → Option Nat) (C : Nat → Option Nat) : Prop := ∀ i y, i < R → byR ch ot co pr C i = some y → ∃ x, C (go i) = some x ∧ x ≤ y
def aboveC (R : Nat) (go : Nat → Nat) (ch : Nat → Bool) (ot co : Nat → Nat) (pr : Nat → Option Nat) (C : Nat → Option Nat) : Prop := ∀ D, closedC R go ch ot co pr D → ∀ g x, C g = some x → ∃ z, D g = some z ∧ z ≤ x
theorem above_none {R : Nat} {go : Nat → Nat} {ch : Nat → Bool} {ot co : Nat → Nat} {pr : Nat → Option Nat} : aboveC R go ch ot co pr (fun _ => none) := fun _ _ _ _ e => nomatch e
theorem above_take {R : Nat} {go : Nat → Nat} {ch : Nat → Bool} {ot co : Nat → Nat} {pr C : Nat → Option Nat} {i y : Nat} (h : aboveC R go ch ot co pr C) (hi : i < R) (hy : byR ch ot co pr C i = some y) : aboveC R go ch ot co pr (va_up C (go i) (some y)) := by
  intro D hD g x hx
  by_cases e : g = go i
  · subst e
    rw [va_up_self] at hx
    cases hx
    by_cases c : ch i = true
    · unfold byR at hy
      rw [if_pos c] at hy
      cases hc : C (ot i) with
      | none => rw [hc] at hy; cases hy
      | some a =>
        rw [hc] at hy
        have hy : a + co i = y := Option.some.inj hy
        obtain ⟨z, hz, hza⟩ := h D hD (ot i) a hc
        have hb : byR ch ot co pr D i = some (z + co i) := by
          unfold byR
          rw [if_pos c, hz]
          rfl
        obtain ⟨w, hw, hwz⟩ := hD i _ hi hb
        exact ⟨w, hw, by omega⟩
    · unfold byR at hy
      rw [if_neg c] at hy
      have hb : byR ch ot co pr D i = some y := by
        unfold byR
        rw [if_neg c]
        exact hy
      exact hD i y hi hb
  · rw [va_up_ne _ _ e] at hx
    exact h D hD g x hx
/-- the least costs are one -/
theorem least_one {R : Nat} {go : Nat → Nat} {ch : Nat → Bool} {ot co : Nat → Nat} {pr C D : Nat → Option Nat} (c1 : closedC R go ch ot co pr C) (c2 : aboveC R go ch ot co pr C) (d1 : closedC R go ch ot co pr D) (d2 : aboveC R go ch ot co pr D) (g : Nat) : C g = D g := by
  cases hc : C g with
  | none =>
    cases hd : D g with
    | none => rfl
    | some x =>
      obtain ⟨z, hz, -⟩ := d2 C c1 g x hd
      rw [hc] at hz; cases hz
  | some x =>
    obtain ⟨z, hz, hzx⟩ := c2 D d1 g x hc
    obtain ⟨w, hw, hwz⟩ := d2 C c1 g z hz
    rw [hc] at hw
    cases hw
    rw [hz, show z = x by omega]
