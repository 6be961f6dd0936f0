/-! the cheapest goal that isn't settled -/
def flagS (f : ctF) (S : Nat → Bool) : Prop := ∀ g, g < 8 → f 17 g = if S g = true then 1 else 0
/-- of the goals below m, b is the one of least cost (of those alike the least) that isn't settled -/
def isBest (C : Nat → Option Nat) (S : Nat → Bool) (m : Nat) (b : Option Nat) : Prop := match b with
  | none => ∀ g, g < m → S g = false → C g = none
  | some b => b < m ∧ S b = false ∧ ∃ x, C b = some x ∧ ∀ g y, g < m → S g = false → C g = some y → x ≤ y ∧ (y = x → b ≤ g)
theorem isBest_skip {C : Nat → Option Nat} {S : Nat → Bool} {m : Nat} {b : Option Nat} (h : isBest C S m b) (hm : S m = true ∨ C m = none) : isBest C S (m + 1) b := by
  cases b with
  | none =>
    intro g hg hs
    by_cases e : g = m
    · subst e
      rcases hm with q | q
      · rw [hs] at q; cases q
      · exact q
    · exact h g (by omega) hs
  | some b =>
    obtain ⟨h1, h2, x, h3, h4⟩ := h
    refine ⟨by omega, h2, x, h3, fun g y hg hs hc => ?_⟩
    by_cases e : g = m
    · subst e
      rcases hm with q | q
      · rw [hs] at q; cases q
      · rw [hc] at q; cases q
    · exact h4 g y (by omega) hs hc
theorem isBest_first {C : Nat → Option Nat} {S : Nat → Bool} {m x : Nat} (h : isBest C S m none) (hs : S m = false) (hc : C m = some x) : isBest C S (m + 1) (some m) := by
  refine ⟨by omega, hs, x, hc, fun g y hg hsg hcg => ?_⟩
  by_cases e : g = m
  · subst e
    rw [hc] at hcg; cases hcg
    exact ⟨Nat.le_refl _, fun _ => Nat.le_refl _⟩
  · have := h g (by omega) hsg
    rw [hcg] at this; cases this
theorem isBest_new {C : Nat → Option Nat} {S : Nat → Bool} {m b x z : Nat} (h : isBest C S m (some b)) (hb : C b = some z) (hs : S m = false) (hc : C m = some x) (hlt : x < z) : isBest C S (m + 1) (some m) := by
  obtain ⟨h1, h2, z2, h3, h4⟩ := h
  rw [hb] at h3; cases h3
  refine ⟨by omega, hs, x, hc, fun g y hg hsg hcg => ?_⟩
  by_cases e : g = m
  · subst e
    rw [hc] at hcg; cases hcg
    exact ⟨Nat.le_refl _, fun _ => Nat.le_refl _⟩
  · have q := h4 g y (by omega) hsg hcg
    exact ⟨by omega, fun e2 => by omega⟩
theorem isBest_old {C : Nat → Option Nat} {S : Nat → Bool} {m b x z : Nat} (h : isBest C S m (some b)) (hb : C b = some z) (hc : C m = some x) (hle : z ≤ x) : isBest C S (m + 1) (some b) := by
  obtain ⟨h1, h2, z2, h3, h4⟩ := h
  rw [hb] at h3; cases h3
  refine ⟨by omega, h2, z, hb, fun g y hg hsg hcg => ?_⟩
  by_cases e : g = m
  · subst e
    rw [hc] at hcg; cases hcg
    exact ⟨hle, fun _ => by omega⟩
  · exact h4 g y (by omega) hsg hcg
theorem w_cheapest {post : Int32 → ctN → ctF → Prop} {n : ctN} {f : ctF} {N : Nat} {C Q : Nat → Option Nat} {S : Nat → Bool} (hN : n 2 = nI N) (hN' : N < 120) (hrow : rowC N f C Q) (hS : flagS f S) (h : ∀ b, isBest C S 8 b → post (en b) n f) : wp_F_cheapestUnsettled post n f := by
  have e8 : (8 : Int32) = nI 8 := ix_8
  have loop : ∀ (d m : Nat) (b : Option Nat), 8 = m + d → isBest C S m b → wp_F_cheapestUnsettled_L4 post (d + 1) (en b) (nI m) n f := by
    intro d
    induction d with
    | zero =>
      intro m b hd hb
      have e : m = 8 := by omega
      subst e
      rw [wp_F_cheapestUnsettled_L4]
      exact ⟨fun _ => h b hb, fun q => absurd (by rw [e8]; exact nI_le (Nat.le_refl 8) (by decide)) q⟩
    | succ d ih =>
      intro m b hd hb
      have hm : m < 8 := by omega
      have hmc : (nI m).toNatClampNeg = m := nI_clamp (by omega)
      have hm1 : nI m + 1 = nI (m + 1) := nI_1 m
      have hlt31 : ∀ g x, C g = some x → x < 2 ^ 31 := fun g x hx => Nat.lt_trans (hrow.2 g x hx) (by decide)
      rw [wp_F_cheapestUnsettled_L4]
      refine ⟨fun q => absurd q (by rw [e8]; exact nI_ge hm (by decide)), fun _ => ?_⟩
      rw [hN]
      refine w_place ⟨ix_in hN' hm, ?_⟩
      simp only [ix_cl hN' hm, hmc, hm1]
      rintro _ rfl
      refine ⟨vp_in_nI hm (by decide), fun q => ?_, fun q => ?_⟩
      · rintro _ rfl
        refine ih (m + 1) b (by omega) (isBest_skip hb (Or.inl ?_))
        rw [hS m hm] at q
        by_cases z : S m = true
        · exact z
        · rw [if_neg z] at q; exact absurd rfl q
      · have hsm : S m = false := by
          rw [hS m hm] at q
          by_cases z : S m = true
          · rw [if_pos z] at q; exact absurd q (by decide)
          · cases hz : S m
            · rfl
            · exact absurd hz z
        rw [(hrow.1 m hm).1]
        refine ⟨fun c => ?_, fun c => ?_⟩
        · rintro _ rfl
          exact ih (m + 1) b (by omega) (isBest_skip hb (Or.inr ((en_m1 (hlt31 m)).mp c)))
        · cases hc : C m with
          | none => rw [hc] at c; exact absurd rfl c
          | some x =>
            cases b with
            | none =>
              refine ⟨fun _ => ?_, fun q => absurd rfl q⟩
              rintro _ rfl
              exact ih (m + 1) (some m) (by omega) (isBest_first hb hsm hc)
            | some b =>
              obtain ⟨hb1, hb2, z, hb3, hb4⟩ := id hb
              refine ⟨fun q => absurd q (nI_m1 (by omega)), fun _ => ?_⟩
              rw [hN, en_s]
              refine w_place ⟨ix_in hN' (by omega), ?_⟩
              simp only [ix_cl hN' (show b < 8 by omega), (hrow.1 b (by omega)).1, hb3, en_s]
              refine ⟨fun q => ?_, fun q => ?_⟩
              · rintro _ rfl
                exact ih (m + 1) (some b) (by omega) (isBest_old hb hb3 hc ((nI_leI (hlt31 b z hb3) (hlt31 m x hc)).mp q))
              · rintro _ rfl
                exact ih (m + 1) (some m) (by omega) (isBest_new hb hb3 hsm hc (by rcases Nat.lt_or_ge x z with w | w; exact w; exact absurd ((nI_leI (hlt31 b z hb3) (hlt31 m x hc)).mpr w) q))
  unfold wp_F_cheapestUnsettled
  refine ⟨9, ?_⟩
  have q := loop 8 0 none (by omega) (fun g hg => absurd hg (Nat.not_lt_zero _))
  rw [nI_0] at q
  exact q
