/-! a script of at most six ints: one call on a fresh object -/
theorem o_in {i : Int32} (h : i = 0 ∨ i = 0 + 1 ∨ i = 0 + 2 ∨ i = 0 + 3 ∨ i = 0 + 4 ∨ i = 0 + 5) : vp_in i 6 := by
  unfold vp_in
  rcases h with rfl | rfl | rfl | rfl | rfl | rfl <;> decide
theorem o_end (xs : Nat → Int32) (n : ctN) (f : ctF) : ∀ x : Int32, x = 0 + 6 → wp_law xs 6 1 x n f := by
  rintro _ rfl
  rw [wp_law]
  exact ⟨fun _ => trivial, fun h => absurd (by decide) h⟩
/-- the tail where both sides have refused with 1 -/
theorem o_ref {xs : Nat → Int32} {n : ctN} {f : ctF} {b : Int32} : wp_M_thrown (fun (r71 : Int32) (n_72 : ctN) (f_73 : ctF) => (r71 = 1 → ((¬ (1 : Int32) = 0 → (∀ x4_76 : Int32, x4_76 = 0 + 6 → (wp_law xs 6 1 x4_76 n_72 f_73))) ∧ ((1 : Int32) = 0 → (∀ y77 : Int64, y77 = (f_73 32 (0 : Int32).toNatClampNeg).toInt64 → (((lg_cmp y77 (b.toInt64)) = 0 → (∀ x4_79 : Int32, x4_79 = 0 + 6 → (wp_law xs 6 1 x4_79 n_72 f_73))) ∧ (¬ (lg_cmp y77 (b.toInt64)) = 0 → (False))))))) ∧ (¬ r71 = 1 → (False))) (va_up n 3 1) f := by
  unfold wp_M_thrown
  exact w_tail (va_up_self n 3 1) (o_end xs _ _) (fun h => absurd h (by decide))
/-- the tail where both sides have answered the same -/
theorem o_ans {xs : Nat → Int32} {n : ctN} {f : ctF} {b : Int32} (h3 : n 3 = 0) (hb : f 32 0 = b) : wp_M_thrown (fun (r71 : Int32) (n_72 : ctN) (f_73 : ctF) => (r71 = 0 → ((¬ (0 : Int32) = 0 → (∀ x4_76 : Int32, x4_76 = 0 + 6 → (wp_law xs 6 1 x4_76 n_72 f_73))) ∧ ((0 : Int32) = 0 → (∀ y77 : Int64, y77 = (f_73 32 (0 : Int32).toNatClampNeg).toInt64 → (((lg_cmp y77 (b.toInt64)) = 0 → (∀ x4_79 : Int32, x4_79 = 0 + 6 → (wp_law xs 6 1 x4_79 n_72 f_73))) ∧ (¬ (lg_cmp y77 (b.toInt64)) = 0 → (False))))))) ∧ (¬ r71 = 0 → (False))) n f := by
  unfold wp_M_thrown
  exact w_tail h3 (o_end xs _ _) (fun _ => by rw [sb_cl0]; exact hb)
theorem o_p2 {p : Int32} (h : p ≤ 2) : ¬ 2 < p := by rw [w_le] at h; rw [w_lt]; omega
theorem o_n2 {p : Int32} (h : ¬ p ≤ 2) (g : ¬ 2 < p) : False := by rw [w_le] at h; rw [w_lt] at g; omega
theorem o_g {p : Int32} (h : ¬ 8 ≤ p) : ¬ 7 < p := by
  rw [w_le] at h; rw [w_lt]
  have a : (8 : Int32).toInt = 8 := by decide
  have b : (7 : Int32).toInt = 7 := by decide
  omega
theorem o_ng {p : Int32} (h : 8 ≤ p) : 7 < p := by
  rw [w_le] at h; rw [w_lt]
  have a : (8 : Int32).toInt = 8 := by decide
  have b : (7 : Int32).toInt = 7 := by decide
  omega
theorem o_c {p : Int32} (h : p ≤ 20) : ¬ 20 < p := by rw [w_le] at h; rw [w_lt]; omega
theorem o_nc {p : Int32} (h : ¬ p ≤ 20) : 20 < p := by rw [w_le] at h; rw [w_lt]; omega
theorem o_operator {xs : Nat → Int32} (p : Int32) : wp_L_operator (fun (r18 : Int32) (n_19 : ctN) (f_20 : ctF) => vp_in (0 + 1) 6 ∧ (wp_M_operator (fun (r22 : Int32) (n_23 : ctN) (f_24 : ctF) => wp_M_thrown (fun (r25 : Int32) (n_26 : ctN) (f_27 : ctF) => (r25 = r18 → ((¬ r18 = 0 → (∀ x4_30 : Int32, x4_30 = 0 + 6 → (wp_law xs 6 1 x4_30 n_26 f_27))) ∧ (r18 = 0 → (∀ y31 : Int64, y31 = (f_27 32 (0 : Int32).toNatClampNeg).toInt64 → (((lg_cmp y31 (r22.toInt64)) = 0 → (∀ x4_33 : Int32, x4_33 = 0 + 6 → (wp_law xs 6 1 x4_33 n_26 f_27))) ∧ (¬ (lg_cmp y31 (r22.toInt64)) = 0 → (False))))))) ∧ (¬ r25 = r18 → (False))) n_23 f_24) p n_19 f_20)) p (fun _ => 0) (fun _ _ => 0) := by
  have i1 : vp_in (0 + 1) 6 := o_in (Or.inr (Or.inl rfl))
  have i0 : vp_in 0 10 := by unfold vp_in; decide
  unfold wp_L_operator
  by_cases hp : p < 0 ∨ ¬ p ≤ 2
  · right
    have bad : ∀ (E : String → ctN → ctF → Prop), E "java/lang/IllegalArgumentException" (fun _ => 0) (fun _ _ => 0) → wp_C_operator pFi E p (fun _ => 0) (fun _ _ => 0) := fun E h => by
      unfold wp_C_operator
      exact ⟨fun _ => h, fun a => ⟨fun b => (hp.elim a (fun q => q b)).elim, fun _ => h⟩⟩
    refine bad _ (Or.inl ⟨rfl, i1, ?_⟩)
    unfold wp_M_operator
    refine wm_in (fun a b => (hp.elim a (fun q => o_n2 q b)).elim) (fun _ => ⟨fun h => absurd rfl h, fun _ => ?_⟩)
    unfold wp_M_operator_J15
    refine ⟨fun _ => ?_, fun h => absurd h (by decide)⟩
    unfold wp_M_operator_J29
    exact g_ref1 ⟨fun h => absurd h (by decide), fun _ => o_ref⟩
  · left
    have h1 : ¬ p < 0 := fun h => hp (Or.inl h)
    have h2 : p ≤ 2 := by
      by_cases q : p ≤ 2
      · exact q
      · exact absurd (Or.inr q) hp
    unfold wp_C_operator
    refine ⟨fun a => absurd a h1, fun _ => ⟨fun _ => ⟨fun _ => ?_, fun h => absurd (by decide) h⟩, fun b => absurd h2 b⟩⟩
    unfold wp_G_addOperator
    rintro _ rfl
    refine ⟨i0, ?_⟩
    rintro _ rfl _ rfl _ rfl
    refine ⟨i1, ?_⟩
    unfold wp_M_operator
    refine wm_in (fun _ _ => ⟨fun _ => ?_, fun h => absurd h (by decide)⟩) (fun a => (a.elim h1 (o_p2 h2)).elim)
    unfold wp_M_operator_J15
    refine ⟨fun _ => ?_, fun h => absurd h (by decide)⟩
    unfold wp_M_operator_J29
    refine wm_refuse (fun h => absurd rfl h) (fun _ h => absurd rfl h) (fun _ _ h => absurd rfl h) (fun _ _ _ => ⟨fun _ => ⟨i0, ?_⟩, fun h => absurd rfl h⟩)
    rintro _ rfl _ rfl
    exact o_ans rfl rfl
theorem o_add {post : Int32 → ctN → ctF → Prop} {p1 p2 p3 p4 p5 : Int32} {n : ctN} {f : ctF} (h1 : n 1 = 0) (h : ∀ (f2 : ctF), (∀ k, k ≠ 4 → k ≠ 5 → k ≠ 6 → k ≠ 7 → k ≠ 8 → f2 k = f k) → post 0 (va_up n 1 1) f2) : wp_G_addRule post p1 p2 p3 p4 p5 n f := by
  have i0 : vp_in 0 40 := by unfold vp_in; decide
  unfold wp_G_addRule
  rintro _ rfl
  rw [h1]
  refine ⟨i0, ?_⟩
  rintro _ rfl
  refine ⟨i0, ?_⟩
  rintro _ rfl
  refine ⟨i0, ?_⟩
  rintro _ rfl
  refine ⟨i0, ?_⟩
  rintro _ rfl
  refine ⟨i0, ?_⟩
  rintro _ rfl _ rfl
  refine h _ (fun k a b c d e => ?_)
  rw [va_up_ne _ _ e, va_up_ne _ _ d, va_up_ne _ _ c, va_up_ne _ _ b, va_up_ne _ _ a]
theorem o_madd {post : Int32 → ctN → ctF → Prop} {p1 p2 p3 p4 p5 : Int32} {n : ctN} {f : ctF} (h5 : n 5 = 0) (h : ∀ (n2 : ctN) (f2 : ctF), n2 3 = n 3 → (∀ k, k ≤ 18 ∨ 31 < k → f2 k = f k) → post 0 n2 f2) : wp_M_add post p1 p2 p3 p4 p5 n f := by
  have i0 : vp_in 0 40 := by unfold vp_in; decide
  unfold wp_M_add
  rw [h5]
  refine ⟨i0, ?_⟩
  rintro _ rfl
  refine ⟨i0, ?_⟩
  rintro _ rfl
  refine ⟨i0, ?_⟩
  rintro _ rfl
  refine ⟨i0, ?_⟩
  rintro _ rfl
  refine ⟨i0, ?_⟩
  rintro _ rfl _ rfl _ rfl
  have e : (va_up (va_up n 5 (0 + 1)) 6 0 5 - 1 : Int32) = 0 := by
    rw [va_up_ne _ _ (by decide), va_up_self]; decide
  rw [e]
  refine h _ _ (by rw [va_up_ne _ _ (by decide), va_up_ne _ _ (by decide)]) (fun k hk => ?_)
  rw [va_up_ne _ _ (by omega), va_up_ne _ _ (by omega), va_up_ne _ _ (by omega), va_up_ne _ _ (by omega), va_up_ne _ _ (by omega)]
theorem o_chain {xs : Nat → Int32} (p q r : Int32) : wp_L_chain (fun (r62 : Int32) (n_63 : ctN) (f_64 : ctF) => vp_in (0 + 1) 6 ∧ (vp_in (0 + 2) 6 ∧ (vp_in (0 + 3) 6 ∧ (wp_M_chain (fun (r68 : Int32) (n_69 : ctN) (f_70 : ctF) => wp_M_thrown (fun (r71 : Int32) (n_72 : ctN) (f_73 : ctF) => (r71 = r62 → ((¬ r62 = 0 → (∀ x4_76 : Int32, x4_76 = 0 + 6 → (wp_law xs 6 1 x4_76 n_72 f_73))) ∧ (r62 = 0 → (∀ y77 : Int64, y77 = (f_73 32 (0 : Int32).toNatClampNeg).toInt64 → (((lg_cmp y77 (r68.toInt64)) = 0 → (∀ x4_79 : Int32, x4_79 = 0 + 6 → (wp_law xs 6 1 x4_79 n_72 f_73))) ∧ (¬ (lg_cmp y77 (r68.toInt64)) = 0 → (False))))))) ∧ (¬ r71 = r62 → (False))) n_69 f_70) p q r n_63 f_64)))) p q r (fun _ => 0) (fun _ _ => 0) := by
  have i1 : vp_in (0 + 1) 6 := o_in (Or.inr (Or.inl rfl))
  have i2 : vp_in (0 + 2) 6 := o_in (Or.inr (Or.inr (Or.inl rfl)))
  have i3 : vp_in (0 + 3) 6 := o_in (Or.inr (Or.inr (Or.inr (Or.inl rfl))))
  unfold wp_L_chain
  by_cases hp : (p < 0 ∨ 8 ≤ p) ∨ (q < 0 ∨ 8 ≤ q) ∨ p = q ∨ (r < 0 ∨ ¬ r ≤ 20)
  · right
    have bad : ∀ (E : String → ctN → ctF → Prop), E "java/lang/IllegalArgumentException" (fun _ => 0) (fun _ _ => 0) → wp_C_chain pFi E p q r (fun _ => 0) (fun _ _ => 0) := fun E h => by
      unfold wp_C_chain
      refine w_isGoal (fun a1 a2 => ⟨fun h => absurd h (by decide), fun _ => ?_⟩) (fun _ => ⟨fun _ => h, fun h => absurd rfl h⟩)
      refine w_isGoal (fun b1 b2 => ⟨fun _ => ⟨fun c => Or.inr ?_, fun _ => h⟩, fun h => absurd h (by decide)⟩) (fun _ => ⟨fun h => absurd rfl h, fun _ => h⟩)
      exact w_checkRuleCost (fun d1 d2 => by rcases hp with (x | x) | (x | x) | x | x | x; exact a1 x; exact a2 x; exact b1 x; exact b2 x; exact c x; exact d1 x; exact x d2) (fun _ => h)
    refine bad _ (Or.inl ⟨rfl, i1, i2, i3, ?_⟩)
    have J33 : ∀ {post : Int32 → ctN → ctF → Prop}, post 0 (va_up (fun _ => 0) 3 1) (fun _ _ => 0) → wp_M_chain_J33 post p q r (fun _ => 0) (fun _ _ => 0) := fun h => by
      unfold wp_M_chain_J33 wp_M_chain_J34
      refine ⟨fun h => absurd rfl h, fun _ => ?_⟩
      unfold wp_M_chain_J47
      refine ⟨fun _ => ?_, fun h => absurd h (by decide)⟩
      unfold wp_M_chain_J61
      exact g_ref1 ⟨fun h => absurd h (by decide), fun _ => h⟩
    unfold wp_M_chain
    refine wm_isGoal (fun a1 a2 => ⟨fun h => absurd h (by decide), fun _ => ?_⟩) (fun _ => ⟨fun _ => J33 o_ref, fun h => absurd rfl h⟩)
    refine wm_isGoal (fun b1 b2 => ⟨fun h => absurd h (by decide), fun _ => ⟨fun _ => J33 o_ref, fun c => ?_⟩⟩) (fun _ => ⟨fun _ => J33 o_ref, fun h => absurd rfl h⟩)
    exact wm_in (fun d1 d2 => by rcases hp with (x | x) | (x | x) | x | x | x; exact absurd x a1; exact absurd (o_ng x) a2; exact absurd x b1; exact absurd (o_ng x) b2; exact absurd x c; exact absurd x d1; exact absurd (o_nc x) d2) (fun _ => ⟨fun _ => J33 o_ref, fun h => absurd rfl h⟩)
  · left
    have a1 : ¬ p < 0 := fun h => hp (Or.inl (Or.inl h))
    have a2 : ¬ 8 ≤ p := fun h => hp (Or.inl (Or.inr h))
    have b1 : ¬ q < 0 := fun h => hp (Or.inr (Or.inl (Or.inl h)))
    have b2 : ¬ 8 ≤ q := fun h => hp (Or.inr (Or.inl (Or.inr h)))
    have c : ¬ p = q := fun h => hp (Or.inr (Or.inr (Or.inl h)))
    have d1 : ¬ r < 0 := fun h => hp (Or.inr (Or.inr (Or.inr (Or.inl h))))
    have d2 : r ≤ 20 := by
      by_cases z : r ≤ 20
      · exact z
      · exact absurd (Or.inr (Or.inr (Or.inr (Or.inr z)))) hp
    unfold wp_C_chain
    refine w_isGoal (fun _ _ => ⟨fun h => absurd h (by decide), fun _ => ?_⟩) (fun h => (h.elim a1 a2).elim)
    refine w_isGoal (fun _ _ => ⟨fun _ => ⟨fun _ => Or.inl ?_, fun h => absurd h c⟩, fun h => absurd h (by decide)⟩) (fun h => (h.elim b1 b2).elim)
    refine w_checkRuleCost (fun _ _ => Or.inl ?_) (fun h => (h.elim d1 (fun z => z d2)).elim)
    refine w_checkRoom (fun _ => ?_) (fun h => absurd (by decide) h)
    rintro _ rfl
    refine o_add rfl (fun f2 hf2 => ?_)
    rintro _ rfl
    refine ⟨i1, i2, i3, ?_⟩
    unfold wp_M_chain
    refine wm_isGoal (fun _ _ => ⟨fun h => absurd h (by decide), fun _ => ?_⟩) (fun h => (h.elim a1 (o_g a2)).elim)
    refine wm_isGoal (fun _ _ => ⟨fun h => absurd h (by decide), fun _ => ⟨fun h => absurd h c, fun _ => ?_⟩⟩) (fun h => (h.elim b1 (o_g b2)).elim)
    refine wm_in (fun _ _ => ⟨fun h => absurd h (by decide), fun _ => ?_⟩) (fun h => (h.elim d1 (o_c d2)).elim)
    unfold wp_M_chain_J34
    refine ⟨fun _ => ?_, fun h => absurd h (by decide)⟩
    unfold wp_M_chain_J47
    refine ⟨fun _ => ?_, fun h => absurd h (by decide)⟩
    unfold wp_M_chain_J61
    refine wm_refuse (fun h => absurd rfl h) (fun _ h => absurd rfl h) (fun _ _ h => absurd rfl h) (fun _ _ _ => ⟨fun _ => ?_, fun h => absurd rfl h⟩)
    refine o_madd rfl (fun n3 f3 h3 hf3 => ?_)
    exact o_ans h3 (by rw [hf3 32 (Or.inr (by decide))]; rfl)
set_option maxRecDepth 100000 in
theorem one_pure (xs : Nat → Int32) (L : Nat) (hL : L ≤ 6) : ∃ k, k ≤ lwK ∧ wp_law xs L k 0 (fun _ => 0) (fun _ _ => 0) := by
  refine ⟨2, by decide, ?_⟩
  rw [wp_law]
  rcases Nat.lt_or_ge L 6 with h | h
  · refine ⟨fun _ => trivial, fun hn => absurd ?_ hn⟩
    rcases (show L = 0 ∨ L = 1 ∨ L = 2 ∨ L = 3 ∨ L = 4 ∨ L = 5 by omega) with rfl | rfl | rfl | rfl | rfl | rfl <;> decide
  · have hL6 : L = 6 := by omega
    subst hL6
    have i0 : vp_in 0 6 := o_in (Or.inl rfl)
    have i1 : vp_in (0 + 1) 6 := o_in (Or.inr (Or.inl rfl))
    have i2 : vp_in (0 + 2) 6 := o_in (Or.inr (Or.inr (Or.inl rfl)))
    have i3 : vp_in (0 + 3) 6 := o_in (Or.inr (Or.inr (Or.inr (Or.inl rfl))))
    have i4 : vp_in (0 + 4) 6 := o_in (Or.inr (Or.inr (Or.inr (Or.inr (Or.inl rfl)))))
    have i5 : vp_in (0 + 5) 6 := o_in (Or.inr (Or.inr (Or.inr (Or.inr (Or.inr rfl)))))
    refine ⟨fun _ => trivial, fun _ => ⟨i0, ?_, ?_, ?_, ?_, ?_, ?_, ?_, ?_, ?_, ?_, ?_, ?_, ?_⟩⟩
    · intro _
      unfold wp_C_clear
      rintro _ rfl _ rfl _ rfl
      unfold wp_M_clear
      rintro _ rfl _ rfl _ rfl _ rfl
      exact o_end xs _ _
    · intro _
      unfold wp_C_fell
      rintro _ rfl
      unfold wp_M_fell
      rintro _ rfl _ rfl
      exact o_end xs _ _
    · intro _
      exact ⟨i1, o_operator _⟩
    · intro _
      refine ⟨i1, i2, i3, i4, i5, ?_⟩
      unfold wp_L_base
      exact Or.inr (f_base rfl (Or.inl ⟨rfl, i1, i2, i3, i4, i5, g_base rfl rfl o_ref⟩))
    · intro _
      exact ⟨i1, i2, i3, o_chain _ _ _⟩
    · intro _
      refine ⟨i1, i2, i3, ?_⟩
      unfold wp_L_node
      exact Or.inr (f_node rfl (Or.inl ⟨rfl, i1, i2, i3, g_node rfl rfl o_ref⟩))
    · intro _
      refine ⟨i1, i2, ?_⟩
      unfold wp_L_cost wp_C_cost
      exact Or.inr (Or.inr (f_place rfl ⟨rfl, i1, i2, g_cost rfl o_ref⟩))
    · intro _
      refine ⟨i1, i2, ?_⟩
      unfold wp_L_rule wp_C_rule
      exact Or.inr (Or.inr (f_place rfl ⟨rfl, i1, i2, g_rule rfl o_ref⟩))
    · intro _
      refine ⟨i1, i2, ?_⟩
      unfold wp_L_size wp_C_size
      exact Or.inr (Or.inr (f_place rfl (Or.inl ⟨rfl, i1, i2, g_size rfl o_ref⟩)))
    · intro _
      refine ⟨i1, i2, i3, i4, ?_⟩
      unfold wp_L_cover wp_C_cover
      exact Or.inr (Or.inr (f_place rfl (Or.inl ⟨rfl, i1, i2, i3, i4, g_cover rfl o_ref⟩)))
    · intro _
      unfold wp_C_states wp_F_countStates
      refine ⟨1, ?_⟩
      rw [wp_F_countStates_L4]
      refine ⟨fun _ => ?_, fun h => absurd (by decide) h⟩
      unfold wp_M_states
      rintro _ rfl
      refine ⟨1, ?_⟩
      rw [wp_M_states_L9]
      exact ⟨fun _ => ⟨fun _ => o_end xs _ _, fun h => absurd rfl h⟩, fun h => absurd (by decide) h⟩
    · intro _
      refine ⟨i1, ?_⟩
      unfold wp_L_like
      exact Or.inr (f_like rfl ⟨rfl, i1, g_like rfl o_ref⟩)
    · intro _
      exact o_end xs _ _
