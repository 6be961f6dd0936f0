/-! pure rows: the leaf methods' predicates, by two roads each -/
theorem w_isGoal {post : Int32 → ctN → ctF → Prop} {p : Int32} {n : ctN} {f : ctF} (h1 : ¬ p < 0 → ¬ 8 ≤ p → post 1 n f) (h0 : (p < 0 ∨ 8 ≤ p) → post 0 n f) : wp_C_isGoal post p n f := by
  unfold wp_C_isGoal
  exact ⟨fun a => h0 (Or.inl a), fun a => ⟨fun b => h0 (Or.inr b), fun b => h1 a b⟩⟩
theorem w_hasOperator {post : Int32 → ctN → ctF → Prop} {p : Int32} {n : ctN} {f : ctF} (h1 : ¬ p < 0 → ¬ n 0 ≤ p → post 1 n f) (h0 : (p < 0 ∨ n 0 ≤ p) → post 0 n f) : wp_G_hasOperator post p n f := by
  unfold wp_G_hasOperator
  exact ⟨fun a => h0 (Or.inl a), fun a => ⟨fun b => h0 (Or.inr b), fun b => h1 a b⟩⟩
theorem w_has {post : Int32 → ctN → ctF → Prop} {p : Int32} {n : ctN} {f : ctF} (h1 : ¬ p < 0 → ¬ n 2 ≤ p → post 1 n f) (h0 : (p < 0 ∨ n 2 ≤ p) → post 0 n f) : wp_F_has post p n f := by
  unfold wp_F_has
  exact ⟨fun a => h0 (Or.inl a), fun a => ⟨fun b => h0 (Or.inr b), fun b => h1 a b⟩⟩
theorem wm_in {post : Int32 → ctN → ctF → Prop} {p a b : Int32} {n : ctN} {f : ctF} (h1 : ¬ p < a → ¬ b < p → post 1 n f) (h0 : (p < a ∨ b < p) → post 0 n f) : wp_M_in post p a b n f := by
  unfold wp_M_in
  exact ⟨fun x => h0 (Or.inl x), fun x => ⟨fun y => h0 (Or.inr y), fun y => h1 x y⟩⟩
theorem wm_isGoal {post : Int32 → ctN → ctF → Prop} {p : Int32} {n : ctN} {f : ctF} (h1 : ¬ p < 0 → ¬ 7 < p → post 1 n f) (h0 : (p < 0 ∨ 7 < p) → post 0 n f) : wp_M_isGoal post p n f := by
  unfold wp_M_isGoal
  exact wm_in (fun a b => ⟨rfl, h1 a b⟩) (fun a => ⟨rfl, h0 a⟩)
theorem wm_isNode {post : Int32 → ctN → ctF → Prop} {p : Int32} {n : ctN} {f : ctF} (h1 : ¬ p < 0 → ¬ n 6 - 1 < p → post 1 n f) (h0 : (p < 0 ∨ n 6 - 1 < p) → post 0 n f) : wp_M_isNode post p n f := by
  unfold wp_M_isNode
  exact wm_in (fun a b => ⟨rfl, h1 a b⟩) (fun a => ⟨rfl, h0 a⟩)
theorem wm_refuse {post : Int32 → ctN → ctF → Prop} {a b c : Int32} {n : ctN} {f : ctF} (h1 : ¬ a = 0 → post 1 (va_up n 3 1) f) (h2 : a = 0 → ¬ b = 0 → post 1 (va_up n 3 2) f) (h3 : a = 0 → b = 0 → ¬ c = 0 → post 1 (va_up n 3 3) f) (h0 : a = 0 → b = 0 → c = 0 → post 0 (va_up n 3 0) f) : wp_M_refuse post a b c n f := by
  have e : ∀ x : Int32, va_up n 3 x 3 = x := fun x => va_up_self n 3 x
  unfold wp_M_refuse
  refine ⟨fun ha => ⟨fun hb => ⟨fun hc => ?_, fun hc => ?_⟩, fun hb => ?_⟩, fun ha => ?_⟩
  · rintro _ rfl
    exact ⟨fun _ => h0 ha hb hc, fun h => absurd (by rw [e]; decide) h⟩
  · rintro _ rfl
    exact ⟨fun h => absurd h (by rw [e]; decide), fun _ => h3 ha hb hc⟩
  · rintro _ rfl
    exact ⟨fun h => absurd h (by rw [e]; decide), fun _ => h2 ha hb⟩
  · rintro _ rfl
    exact ⟨fun h => absurd h (by rw [e]; decide), fun _ => h1 ha⟩
theorem wm_isAsked {post : Int32 → ctN → ctF → Prop} {p q : Int32} {n : ctN} {f : ctF} (h1 : ¬ p < 0 → ¬ n 6 - 1 < p → ¬ q < 0 → ¬ 7 < q → post 1 n f) (h0 : (p < 0 ∨ n 6 - 1 < p ∨ q < 0 ∨ 7 < q) → post 0 n f) : wp_M_isAsked post p q n f := by
  unfold wp_M_isAsked
  refine wm_isNode (fun a b => ⟨fun h => absurd h (by decide), fun _ => ?_⟩) (fun a => ⟨fun _ => h0 (by rcases a with a | a; exact Or.inl a; exact Or.inr (Or.inl a)), fun h => absurd rfl h⟩)
  exact wm_isGoal (fun c d => ⟨fun h => absurd h (by decide), fun _ => h1 a b c d⟩) (fun c => ⟨fun _ => h0 (Or.inr (Or.inr c)), fun h => absurd rfl h⟩)
/-- the class's checks -/
theorem w_checkPlace0 {post : ctN → ctF → Prop} {xp : String → ctN → ctF → Prop} {p q : Int32} {n : ctN} {f : ctF} (h1 : ¬ p < 0 → ¬ n 2 ≤ p → ¬ q < 0 → ¬ 8 ≤ q → post n f) (h0 : (p < 0 ∨ n 2 ≤ p ∨ q < 0 ∨ 8 ≤ q) → xp "java/lang/IllegalArgumentException" n f) : wp_C_checkPlace post xp p q n f := by
  unfold wp_C_checkPlace
  refine w_has (fun a b => ⟨fun h => absurd h (by decide), fun _ => ?_⟩) (fun a => ⟨fun _ => h0 (by rcases a with a | a; exact Or.inl a; exact Or.inr (Or.inl a)), fun h => absurd rfl h⟩)
  exact w_isGoal (fun c d => ⟨fun _ => h1 a b c d, fun h => absurd h (by decide)⟩) (fun c => ⟨fun h => absurd rfl h, fun _ => h0 (Or.inr (Or.inr c))⟩)
theorem w_checkRuleCost {post : ctN → ctF → Prop} {xp : String → ctN → ctF → Prop} {p : Int32} {n : ctN} {f : ctF} (h1 : ¬ p < 0 → p ≤ 20 → post n f) (h0 : (p < 0 ∨ ¬ p ≤ 20) → xp "java/lang/IllegalArgumentException" n f) : wp_C_checkRuleCost post xp p n f := by
  unfold wp_C_checkRuleCost
  exact ⟨fun a => h0 (Or.inl a), fun a => ⟨fun b => h1 a b, fun b => h0 (Or.inr b)⟩⟩
theorem w_checkRoom {post : ctN → ctF → Prop} {xp : String → ctN → ctF → Prop} {n : ctN} {f : ctF} (h1 : n 1 < 40 → post n f) (h0 : ¬ n 1 < 40 → xp "java/lang/UnsupportedOperationException" n f) : wp_C_checkRoomForRule post xp n f := by
  unfold wp_C_checkRoomForRule
  exact ⟨h1, h0⟩
/-- the end of a comparison in the law -/
theorem w_tail {r t b : Int32} {v : Int32} {A : Prop} (ht : t = r) (hA : A) (hb : r = 0 → v = b) : (t = r → ((¬ r = 0 → A) ∧ (r = 0 → ∀ y : Int64, y = v.toInt64 → ((lg_cmp y b.toInt64 = 0 → A) ∧ (¬ lg_cmp y b.toInt64 = 0 → False))))) ∧ (¬ t = r → False) :=
  ⟨fun _ => ⟨fun _ => hA, fun h0 y hy => ⟨fun _ => hA, fun hn => hn (by rw [hy, hb h0]; unfold lg_cmp; simp)⟩⟩, fun h => h ht⟩
/-- comparisons with 0 and small numbers, by toInt -/
theorem w_lt {x y : Int32} : x < y ↔ x.toInt < y.toInt := Int32.lt_iff_toInt_lt
theorem w_le {x y : Int32} : x ≤ y ↔ x.toInt ≤ y.toInt := Int32.le_iff_toInt_le
