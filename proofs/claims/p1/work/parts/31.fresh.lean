/-! one call on a fresh object: nothing is there yet -/
theorem w_nlt0 {p : Int32} (a : ¬ p < 0) (b : ¬ (0 : Int32) ≤ p) : False := by
  rw [w_lt] at a; rw [w_le] at b
  have : (0 : Int32).toInt = 0 := by decide
  omega
theorem w_hi0 {p : Int32} (a : ¬ p < 0) (b : ¬ (0 : Int32) - 1 < p) : False := by
  rw [w_lt] at a b
  have h0 : (0 : Int32).toInt = 0 := by decide
  have h1 : ((0 : Int32) - 1).toInt = -1 := by decide
  omega
theorem f_base {xp : String → ctN → ctF → Prop} {p1 p2 p3 p4 p5 : Int32} {n : ctN} {f : ctF} (h0 : n 0 = 0) (h : xp "java/lang/IllegalArgumentException" n f) : wp_C_base pFi xp p1 p2 p3 p4 p5 n f := by
  unfold wp_C_base
  refine w_isGoal (fun _ _ => ⟨fun h => absurd h (by decide), fun _ => ?_⟩) (fun _ => ⟨fun _ => h, fun h => absurd rfl h⟩)
  exact w_hasOperator (fun a b => (w_nlt0 a (by rw [h0] at b; exact b)).elim) (fun _ => ⟨fun h => absurd rfl h, fun _ => h⟩)
theorem f_node {xp : String → ctN → ctF → Prop} {p1 p2 p3 : Int32} {n : ctN} {f : ctF} (h0 : n 0 = 0) (h : xp "java/lang/IllegalArgumentException" n f) : wp_C_node pFi xp p1 p2 p3 n f := by
  unfold wp_C_node
  exact w_hasOperator (fun a b => (w_nlt0 a (by rw [h0] at b; exact b)).elim) (fun _ => ⟨fun h => absurd rfl h, fun _ => h⟩)
theorem f_place {xp : String → ctN → ctF → Prop} {p1 p2 : Int32} {n : ctN} {f : ctF} (h0 : n 2 = 0) (h : xp "java/lang/IllegalArgumentException" n f) : wp_C_checkPlace pFv xp p1 p2 n f :=
  w_checkPlace0 (fun a b _ _ => (w_nlt0 a (by rw [h0] at b; exact b)).elim) (fun _ => h)
theorem f_like {xp : String → ctN → ctF → Prop} {p1 : Int32} {n : ctN} {f : ctF} (h0 : n 2 = 0) (h : xp "java/lang/IllegalArgumentException" n f) : wp_C_like pFi xp p1 n f := by
  unfold wp_C_like
  exact w_has (fun a b => (w_nlt0 a (by rw [h0] at b; exact b)).elim) (fun _ => ⟨fun h => absurd rfl h, fun _ => h⟩)
theorem g_ref1 {post : Int32 → ctN → ctF → Prop} {b c : Int32} {n : ctN} {f : ctF} (h : post 1 (va_up n 3 1) f) : wp_M_refuse post 1 b c n f :=
  wm_refuse (fun _ => h) (fun x => absurd x (by decide)) (fun x => absurd x (by decide)) (fun x => absurd x (by decide))
theorem g_base {post : Int32 → ctN → ctF → Prop} {p1 p2 p3 p4 p5 : Int32} {n : ctN} {f : ctF} (h0 : n 4 = 0) (h5 : n 5 = 0) (h : post 0 (va_up n 3 1) f) : wp_M_base post p1 p2 p3 p4 p5 n f := by
  have J36 : wp_M_base_J36 post p1 p2 p3 p4 p5 n f := by
    unfold wp_M_base_J36 wp_M_base_J37
    refine ⟨fun _ => ?_, fun h => absurd rfl h⟩
    unfold wp_M_base_J54
    refine ⟨fun _ => ?_, fun h => absurd rfl h⟩
    unfold wp_M_base_J92 wp_M_base_J93
    refine ⟨fun h => absurd rfl h, fun _ => ?_⟩
    unfold wp_M_base_J106
    refine ⟨fun _ => ?_, fun h => absurd (h5.symm.trans h) (by decide)⟩
    unfold wp_M_base_J120
    exact g_ref1 ⟨fun h => absurd h (by decide), fun _ => h⟩
  unfold wp_M_base
  refine wm_isGoal (fun _ _ => ⟨fun h => absurd h (by decide), fun _ => ?_⟩) (fun _ => ⟨fun _ => J36, fun h => absurd rfl h⟩)
  exact wm_in (fun a b => (w_hi0 a (by rw [h0] at b; exact b)).elim) (fun _ => ⟨fun _ => J36, fun h => absurd rfl h⟩)
theorem g_node {post : Int32 → ctN → ctF → Prop} {p1 p2 p3 : Int32} {n : ctN} {f : ctF} (h0 : n 4 = 0) (h6 : n 6 = 0) (h : post 0 (va_up n 3 1) f) : wp_M_node post p1 p2 p3 n f := by
  unfold wp_M_node
  refine wm_in (fun a b => (w_hi0 a (by rw [h0] at b; exact b)).elim) (fun _ => ⟨fun _ => ?_, fun h => absurd rfl h⟩)
  unfold wp_M_node_J28
  refine ⟨fun _ => ?_, fun h => absurd rfl h⟩
  unfold wp_M_node_J67 wp_M_node_J68
  refine ⟨fun h => absurd rfl h, fun _ => ?_⟩
  unfold wp_M_node_J81
  refine ⟨fun _ => ?_, fun h => absurd (h6.symm.trans h) (by decide)⟩
  unfold wp_M_node_J95
  exact g_ref1 ⟨fun h => absurd h (by decide), fun _ => h⟩
theorem g_asked {post : Int32 → ctN → ctF → Prop} {p1 p2 : Int32} {n : ctN} {f : ctF} (h6 : n 6 = 0) (h : post 0 n f) : wp_M_isAsked post p1 p2 n f :=
  wm_isAsked (fun a b _ _ => (w_hi0 a (by rw [h6] at b; exact b)).elim) (fun _ => h)
theorem g_cost {post : Int32 → ctN → ctF → Prop} {p1 p2 : Int32} {n : ctN} {f : ctF} (h6 : n 6 = 0) (h : post 0 (va_up n 3 1) f) : wp_M_cost post p1 p2 n f := by
  unfold wp_M_cost
  refine g_asked h6 ⟨fun h => absurd rfl h, fun _ => ?_⟩
  unfold wp_M_cost_J15
  exact g_ref1 ⟨fun h => absurd h (by decide), fun _ => h⟩
theorem g_rule {post : Int32 → ctN → ctF → Prop} {p1 p2 : Int32} {n : ctN} {f : ctF} (h6 : n 6 = 0) (h : post 0 (va_up n 3 1) f) : wp_M_rule post p1 p2 n f := by
  unfold wp_M_rule
  refine g_asked h6 ⟨fun h => absurd rfl h, fun _ => ?_⟩
  unfold wp_M_rule_J15
  exact g_ref1 ⟨fun h => absurd h (by decide), fun _ => h⟩
theorem g_size {post : Int32 → ctN → ctF → Prop} {p1 p2 : Int32} {n : ctN} {f : ctF} (h6 : n 6 = 0) (h : post 0 (va_up n 3 1) f) : wp_M_size post p1 p2 n f := by
  unfold wp_M_size
  refine g_asked h6 ⟨fun h => absurd rfl h, fun _ => ?_⟩
  unfold wp_M_size_J17
  refine ⟨fun _ => ?_, fun h => absurd rfl h⟩
  unfold wp_M_size_J50 wp_M_size_J51
  exact g_ref1 ⟨fun h => absurd h (by decide), fun _ => h⟩
theorem g_cover {post : Int32 → ctN → ctF → Prop} {p1 p2 p3 p4 : Int32} {n : ctN} {f : ctF} (h6 : n 6 = 0) (h : post 0 (va_up n 3 1) f) : wp_M_cover post p1 p2 p3 p4 n f := by
  unfold wp_M_cover
  refine g_asked h6 ⟨fun _ => ?_, fun h => absurd rfl h⟩
  unfold wp_M_cover_J23 wp_M_cover_J24
  refine ⟨fun _ => ?_, fun h => absurd rfl h⟩
  unfold wp_M_cover_J46
  refine ⟨fun h => absurd rfl h, fun _ => ?_⟩
  unfold wp_M_cover_J59
  refine ⟨fun _ => ?_, fun h => absurd rfl h⟩
  unfold wp_M_cover_J76 wp_M_cover_J77
  refine ⟨fun _ => ?_, fun h => absurd rfl h⟩
  unfold wp_M_cover_J98 wp_M_cover_J99
  exact g_ref1 ⟨fun h => absurd h (by decide), fun _ => h⟩
theorem g_like {post : Int32 → ctN → ctF → Prop} {p1 : Int32} {n : ctN} {f : ctF} (h6 : n 6 = 0) (h : post 0 (va_up n 3 1) f) : wp_M_like post p1 n f := by
  unfold wp_M_like
  exact wm_isNode (fun a b => (w_hi0 a (by rw [h6] at b; exact b)).elim) (fun _ => ⟨fun h => absurd rfl h, fun _ => g_ref1 ⟨fun h => absurd h (by decide), fun _ => h⟩⟩)
/-- both sides refuse with 1 -/
theorem h_tail {n : ctN} {f : ctF} {A : Prop} {v b : Int32} (hA : A) : wp_M_thrown (fun (t : Int32) (_ : ctN) (_ : ctF) => (t = 1 → ((¬ (1 : Int32) = 0 → A) ∧ ((1 : Int32) = 0 → ∀ y : Int64, y = v.toInt64 → ((lg_cmp y b.toInt64 = 0 → A) ∧ (¬ lg_cmp y b.toInt64 = 0 → False))))) ∧ (¬ t = 1 → False)) (va_up n 3 1) f := by
  unfold wp_M_thrown
  exact w_tail (va_up_self n 3 1) hA (fun h => absurd h (by decide))
