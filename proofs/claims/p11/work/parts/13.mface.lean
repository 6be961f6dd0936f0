def wp_M_isAsked (post : Int32 → ctN → ctF → Prop) (p1 : Int32) (p2 : Int32) (n : ctN) (f : ctF) : Prop := wp_M_isNode (fun (r1 : Int32) (n_2 : ctN) (f_3 : ctF) => (r1 = 0 → (post 0 n_2 f_3)) ∧ (¬ r1 = 0 → (wp_M_isGoal (fun (r5 : Int32) (n_6 : ctN) (f_7 : ctF) => (r5 = 0 → (post 0 n_6 f_7)) ∧ (¬ r5 = 0 → (post 1 n_6 f_7))) p2 n_2 f_3))) p1 n f
set_option maxHeartbeats 4000000 in
set_option maxRecDepth 100000 in
theorem met_M_isAsked (l : Launch) (dC : Nat → ClassId) (dI : Nat → Nat → Nat) (a : Nat → Nat) (cA : Nat → ClassId) (sa : Nat → Nat) (p1 : Int32) (p2 : Int32) (n : ctN) (f : ctF) (sz : Nat) {post : Int32 → ctN → ctF → Prop} (hw : wp_M_isAsked post p1 p2 n f) : Met l yM_isAsked wsM_isAsked ({ frames := 2, cells := 0, slots := 0, locals := 43 } : Room) (ct_Pc dC dI a cA sa [.ref (a 18), .int p1, .int p2] n f sz) (va_Qi (fun (r : Int32) (u : ctN × ctF) => post r u.1 u.2) (ct_B dC dI a cA) (va_A (ctW a cA n f) sz)) 0 0 (va_A (ctW a cA n f) sz) := by
  refine Met.ofW (cc := cM_isAsked) (maxL := 3) (ret := (some .boolean)) (by decide) rfl ?_
  intro p e s m args below meth c s₁ B hml hv
  obtain ⟨rfl, hsz, hP, hK, hD0, hZ⟩ := hv
  have hx := B.exec
  have hb := B.bytes
  have hr := B.returns
  have hts := atoms_spec (ws := wsM_isAsked) B.pre
  have hown : s.vm.findClass RM = some m.cls := findClass_of_methodNamed B.named
  have hlocks := B.notSynchronized
  subst hsz
  have hD := hD0.self (sz := s.heap.size)
  generalize hAe : va_A (ctW a cA n f) s.heap.size = A at hD hZ ⊢
  have hDa : ∀ (n : ctN) (f : ctF), va_D A (ctW a cA n f) := fun _ _ => ct_D hD
  have hA : ∀ q : Nat, s.heap.size ≤ q → A q := fun q h => by rw [← hAe]; exact Or.inr h
  have hS : va_S A s.heap s.heap [] := va_S.rf
  have hl := lv_entry ([.ref (a 18), .int p1, .int p2]) (n := 3) (Nat.le_of_ble_eq_true rfl)
  rw [lg_entry_eq]
  generalize (lg_sl ([.ref (a 18), .int p1, .int p2]) ++ List.replicate (3 - (lg_sl ([.ref (a 18), .int p1, .int p2])).length) Slot.unset).toArray = ls at hl ⊢
  have hl : lv_has ls 3 [(0, .ref (a 18)), (1, .int p1), (2, .int p2)] := hl
  unfold wp_M_isAsked at hw
  refine lv_aload_n hx hb dM_isAsked_0 rfl (lv_at hl 0 rfl) ?_
  refine lv_iload_n hx hb dM_isAsked_1 rfl (lv_at hl 1 rfl) ?_
  refine ct_i (va_runV (As := [.int p1]) (rest := []) ⟨hx, hb, hml, hown, hts⟩ (met_M_isNode l dC dI a cA sa p1 n f _ hw) (cwV 1 hts (wb_V wt_544 wt_546 wt_16 wt_30 wt_547) rfl rfl rfl (by decide +kernel) ⟨Nat.le_of_ble_eq_true rfl, Nat.le_of_ble_eq_true rfl⟩) (ct_preV hK hP (hDa _ _) hZ hS hA (va_recv hK hP (ci := 3) (q0 := 18) rfl rfl)) rfl rfl hl.1 rfl (lv_room (Nat.le_of_ble_eq_true rfl)) dM_isAsked_2 ⟨Nat.le_of_ble_eq_true rfl, Nat.le_of_ble_eq_true rfl⟩) (hDa _ _) hS hA (fun r1 n_2 f_3 H locs hw hP hS => ?_)
  refine lv_if_eq (tgt := 19) hx hb dM_isAsked_5 (by decide) (fun c4 => ?_) (fun c4 => ?_)
  · have hw := hw.1 c4
    refine lv_iconst (v := 0) hx hb dM_isAsked_19 (by decide) ?_
    exact W.zret (v := 0) hx hb hr rfl (fun t ht hW => ⟨⟨0, (n_2, f_3), rfl, hw, ct_mkB ht hP⟩, hS.F ht⟩) hS.2.2 dM_isAsked_20
  · have hw := hw.2 c4
    refine lv_iload_n hx hb dM_isAsked_8 rfl (lv_at hl 2 rfl) ?_
    refine ct_i (va_runS (As := [.int p2]) (rest := []) ⟨hx, hb, hml, hown, hts⟩ (met_M_isGoal l dC dI a cA sa p2 n_2 f_3 _ hw) (cwS 1 hts (wb_S wt_529 wt_530 wt_30 wt_531) rfl rfl rfl (by decide +kernel) ⟨Nat.le_of_ble_eq_true rfl, Nat.le_of_ble_eq_true rfl⟩) (ct_pre hK hP (hDa _ _) hZ hS hA) rfl rfl hl.1 rfl (lv_room (Nat.le_of_ble_eq_true rfl)) dM_isAsked_9 ⟨Nat.le_of_ble_eq_true rfl, Nat.le_of_ble_eq_true rfl⟩) (hDa _ _) hS hA (fun r5 n_6 f_7 H locs hw hP hS => ?_)
    refine lv_if_eq (tgt := 19) hx hb dM_isAsked_12 (by decide) (fun c8 => ?_) (fun c8 => ?_)
    · have hw := hw.1 c8
      refine lv_iconst (v := 0) hx hb dM_isAsked_19 (by decide) ?_
      exact W.zret (v := 0) hx hb hr rfl (fun t ht hW => ⟨⟨0, (n_6, f_7), rfl, hw, ct_mkB ht hP⟩, hS.F ht⟩) hS.2.2 dM_isAsked_20
    · have hw := hw.2 c8
      refine lv_iconst (v := 1) hx hb dM_isAsked_15 (by decide) ?_
      refine lv_goto (tgt := 20) hx hb dM_isAsked_16 (by decide) ?_
      exact W.zret (v := 1) hx hb hr rfl (fun t ht hW => ⟨⟨1, (n_6, f_7), rfl, hw, ct_mkB ht hP⟩, hS.F ht⟩) hS.2.2 dM_isAsked_20
def wp_M_cost_J15 (post : Int32 → ctN → ctF → Prop) (x1 : Int32) (x2 : Int32) (s0 : Int32) (n : ctN) (f : ctF) : Prop := wp_M_refuse (fun (r5 : Int32) (n_6 : ctN) (f_7 : ctF) => (r5 = 0 → (vp_in ((8 * x1) + x2) 960 ∧ (post (f_7 28 ((8 * x1) + x2).toNatClampNeg) n_6 f_7))) ∧ (¬ r5 = 0 → (post 0 n_6 f_7))) s0 0 0 n f
def wp_M_cost (post : Int32 → ctN → ctF → Prop) (p1 : Int32) (p2 : Int32) (n : ctN) (f : ctF) : Prop := wp_M_isAsked (fun (r1 : Int32) (n_2 : ctN) (f_3 : ctF) => (¬ r1 = 0 → (wp_M_cost_J15 post p1 p2 0 n_2 f_3)) ∧ (r1 = 0 → (wp_M_cost_J15 post p1 p2 1 n_2 f_3))) p1 p2 n f
set_option maxHeartbeats 4000000 in
set_option maxRecDepth 100000 in
theorem met_M_cost (l : Launch) (dC : Nat → ClassId) (dI : Nat → Nat → Nat) (a : Nat → Nat) (cA : Nat → ClassId) (sa : Nat → Nat) (p1 : Int32) (p2 : Int32) (n : ctN) (f : ctF) (sz : Nat) {post : Int32 → ctN → ctF → Prop} (hw : wp_M_cost post p1 p2 n f) : Met l yM_cost wsM_cost ({ frames := 3, cells := 0, slots := 0, locals := 65 } : Room) (ct_Pc dC dI a cA sa [.ref (a 18), .int p1, .int p2] n f sz) (va_Qi (fun (r : Int32) (u : ctN × ctF) => post r u.1 u.2) (ct_B dC dI a cA) (va_A (ctW a cA n f) sz)) 0 0 (va_A (ctW a cA n f) sz) := by
  refine Met.ofW (cc := cM_cost) (maxL := 3) (ret := (some .int)) (by decide) rfl ?_
  intro p e s m args below meth c s₁ B hml hv
  obtain ⟨rfl, hsz, hP, hK, hD0, hZ⟩ := hv
  have hx := B.exec
  have hb := B.bytes
  have hr := B.returns
  have hts := atoms_spec (ws := wsM_cost) B.pre
  have hown : s.vm.findClass RM = some m.cls := findClass_of_methodNamed B.named
  have hlocks := B.notSynchronized
  subst hsz
  have hD := hD0.self (sz := s.heap.size)
  generalize hAe : va_A (ctW a cA n f) s.heap.size = A at hD hZ ⊢
  have hDa : ∀ (n : ctN) (f : ctF), va_D A (ctW a cA n f) := fun _ _ => ct_D hD
  have hA : ∀ q : Nat, s.heap.size ≤ q → A q := fun q h => by rw [← hAe]; exact Or.inr h
  have hS : va_S A s.heap s.heap [] := va_S.rf
  have hl := lv_entry ([.ref (a 18), .int p1, .int p2]) (n := 3) (Nat.le_of_ble_eq_true rfl)
  rw [lg_entry_eq]
  generalize (lg_sl ([.ref (a 18), .int p1, .int p2]) ++ List.replicate (3 - (lg_sl ([.ref (a 18), .int p1, .int p2])).length) Slot.unset).toArray = ls at hl ⊢
  have hl : lv_has ls 3 [(0, .ref (a 18)), (1, .int p1), (2, .int p2)] := hl
  unfold wp_M_cost at hw
  have join_15 : ∀ (x1 x2 s0 : Int32) (n : ctN) (f : ctF) (H : Heap) (locs : List Loc) (ls : Array Slot), wp_M_cost_J15 post x1 x2 s0 n f → va_P (dC, dI) vcl (ctW a cA n f) H → va_S A s.heap H locs → lv_has ls 3 [(0, .ref (a 18)), (1, .int x1), (2, .int x2)] → W p l e (headSpec wsM_cost ({ frames := 3, cells := 0, slots := 0, locals := 65 } : Room)).room s m (([.ref (a 18), .int p1, .int p2] : List Value).toArray) below meth c H locs 0 0 (MQ below (va_Qi (fun (r : Int32) (u : ctN × ctF) => post r u.1 u.2) (ct_B dC dI a cA) A) (([.ref (a 18), .int p1, .int p2] : List Value).toArray) s 0 0 A) (F0 m 15 ls [.int s0, .ref (a 18)]) := by
    intro x1 x2 s0 n f H locs ls hw hP hS hl
    unfold wp_M_cost_J15 at hw
    refine lv_iconst (v := 0) hx hb dM_cost_15 (by decide) ?_
    refine lv_iconst (v := 0) hx hb dM_cost_16 (by decide) ?_
    refine ct_i (va_runV (As := [.int s0, .int 0, .int 0]) (rest := []) ⟨hx, hb, hml, hown, hts⟩ (met_M_refuse l dC dI a cA sa s0 0 0 n f _ hw) (cwV 3 hts (wb_V wt_521 wt_523 wt_14 wt_30 wt_524) rfl rfl rfl (by decide +kernel) ⟨Nat.le_of_ble_eq_true rfl, Nat.le_of_ble_eq_true rfl⟩) (ct_preV hK hP (hDa _ _) hZ hS hA (va_recv hK hP (ci := 3) (q0 := 18) rfl rfl)) rfl rfl hl.1 rfl (lv_room (Nat.le_of_ble_eq_true rfl)) dM_cost_17 ⟨Nat.le_of_ble_eq_true rfl, Nat.le_of_ble_eq_true rfl⟩) (hDa _ _) hS hA (fun r5 n_6 f_7 H locs hw hP hS => ?_)
    refine lv_if_eq (tgt := 27) hx hb dM_cost_20 (by decide) (fun c8 => ?_) (fun c8 => ?_)
    · have hw := hw.1 c8
      refine lv_aload_n hx hb dM_cost_27 rfl (lv_at hl 0 rfl) ?_
      refine va_get (D := (dC, dI)) (ci := 3) (v := .ref (a 28)) (C := RM) (T := TM) (N := 19) hx hb hts (fun w h => List.mem_cons_of_mem _ (inM w h)) hown hK hP 18 rfl rfl 13 (by decide) (hts (.fieldLink RM 37 "CoverTreesModel" "costs" "[I") (List.mem_cons_of_mem _ wt_457)) (fun _ h9 => h9) rfl dM_cost_28 ?_
      refine lv_bipush (v := 8) hx hb dM_cost_31 (by decide) ?_
      refine lv_iload_n hx hb dM_cost_33 rfl (lv_at hl 1 rfl) ?_
      refine lv_imul hx hb dM_cost_34 ?_
      refine lv_iload_n hx hb dM_cost_35 rfl (lv_at hl 2 rfl) ?_
      refine lv_iadd hx hb dM_cost_36 ?_
      obtain ⟨hi9, hw⟩ := hw
      refine va_iald hx hb hK hP 28 24 rfl rfl hi9 dM_cost_37 ?_
      exact W.iret (v := (f_7 28 ((8 * x1) + x2).toNatClampNeg)) hx hb hr (fun t ht hW => ⟨⟨(f_7 28 ((8 * x1) + x2).toNatClampNeg), (n_6, f_7), rfl, hw, ct_mkB ht hP⟩, hS.F ht⟩) hS.2.2 dM_cost_38
    · have hw := hw.2 c8
      refine lv_iconst (v := 0) hx hb dM_cost_23 (by decide) ?_
      refine lv_goto (tgt := 38) hx hb dM_cost_24 (by decide) ?_
      exact W.iret (v := 0) hx hb hr (fun t ht hW => ⟨⟨0, (n_6, f_7), rfl, hw, ct_mkB ht hP⟩, hS.F ht⟩) hS.2.2 dM_cost_38
  refine lv_aload_n hx hb dM_cost_0 rfl (lv_at hl 0 rfl) ?_
  refine lv_aload_n hx hb dM_cost_1 rfl (lv_at hl 0 rfl) ?_
  refine lv_iload_n hx hb dM_cost_2 rfl (lv_at hl 1 rfl) ?_
  refine lv_iload_n hx hb dM_cost_3 rfl (lv_at hl 2 rfl) ?_
  refine ct_i (va_runV (As := [.int p1, .int p2]) (rest := [.ref (a 18)]) ⟨hx, hb, hml, hown, hts⟩ (met_M_isAsked l dC dI a cA sa p1 p2 n f _ hw) (cwV 2 hts (wb_V wt_569 wt_571 wt_21 wt_30 wt_572) rfl rfl rfl (by decide +kernel) ⟨Nat.le_of_ble_eq_true rfl, Nat.le_of_ble_eq_true rfl⟩) (ct_preV hK hP (hDa _ _) hZ hS hA (va_recv hK hP (ci := 3) (q0 := 18) rfl rfl)) rfl rfl hl.1 rfl (lv_room (Nat.le_of_ble_eq_true rfl)) dM_cost_4 ⟨Nat.le_of_ble_eq_true rfl, Nat.le_of_ble_eq_true rfl⟩) (hDa _ _) hS hA (fun r1 n_2 f_3 H locs hw hP hS => ?_)
  refine lv_if_ne (tgt := 14) hx hb dM_cost_7 (by decide) (fun c4 => ?_) (fun c4 => ?_)
  · have hw := hw.1 c4
    refine lv_iconst (v := 0) hx hb dM_cost_14 (by decide) ?_
    exact join_15 p1 p2 0 n_2 f_3 _ _ ls hw hP hS (lv_sub hl [0, 1, 2] rfl)
  · have hw := hw.2 c4
    refine lv_iconst (v := 1) hx hb dM_cost_10 (by decide) ?_
    refine lv_goto (tgt := 15) hx hb dM_cost_11 (by decide) ?_
    exact join_15 p1 p2 1 n_2 f_3 _ _ ls hw hP hS (lv_sub hl [0, 1, 2] rfl)
def wp_M_rule_J15 (post : Int32 → ctN → ctF → Prop) (x1 : Int32) (x2 : Int32) (s0 : Int32) (n : ctN) (f : ctF) : Prop := wp_M_refuse (fun (r5 : Int32) (n_6 : ctN) (f_7 : ctF) => (r5 = 0 → (vp_in ((8 * x1) + x2) 960 ∧ (post (f_7 29 ((8 * x1) + x2).toNatClampNeg) n_6 f_7))) ∧ (¬ r5 = 0 → (post 0 n_6 f_7))) s0 0 0 n f
def wp_M_rule (post : Int32 → ctN → ctF → Prop) (p1 : Int32) (p2 : Int32) (n : ctN) (f : ctF) : Prop := wp_M_isAsked (fun (r1 : Int32) (n_2 : ctN) (f_3 : ctF) => (¬ r1 = 0 → (wp_M_rule_J15 post p1 p2 0 n_2 f_3)) ∧ (r1 = 0 → (wp_M_rule_J15 post p1 p2 1 n_2 f_3))) p1 p2 n f
set_option maxHeartbeats 4000000 in
set_option maxRecDepth 100000 in
theorem met_M_rule (l : Launch) (dC : Nat → ClassId) (dI : Nat → Nat → Nat) (a : Nat → Nat) (cA : Nat → ClassId) (sa : Nat → Nat) (p1 : Int32) (p2 : Int32) (n : ctN) (f : ctF) (sz : Nat) {post : Int32 → ctN → ctF → Prop} (hw : wp_M_rule post p1 p2 n f) : Met l yM_rule wsM_rule ({ frames := 3, cells := 0, slots := 0, locals := 65 } : Room) (ct_Pc dC dI a cA sa [.ref (a 18), .int p1, .int p2] n f sz) (va_Qi (fun (r : Int32) (u : ctN × ctF) => post r u.1 u.2) (ct_B dC dI a cA) (va_A (ctW a cA n f) sz)) 0 0 (va_A (ctW a cA n f) sz) := by
  refine Met.ofW (cc := cM_rule) (maxL := 3) (ret := (some .int)) (by decide) rfl ?_
  intro p e s m args below meth c s₁ B hml hv
  obtain ⟨rfl, hsz, hP, hK, hD0, hZ⟩ := hv
  have hx := B.exec
  have hb := B.bytes
  have hr := B.returns
  have hts := atoms_spec (ws := wsM_rule) B.pre
  have hown : s.vm.findClass RM = some m.cls := findClass_of_methodNamed B.named
  have hlocks := B.notSynchronized
  subst hsz
  have hD := hD0.self (sz := s.heap.size)
  generalize hAe : va_A (ctW a cA n f) s.heap.size = A at hD hZ ⊢
  have hDa : ∀ (n : ctN) (f : ctF), va_D A (ctW a cA n f) := fun _ _ => ct_D hD
  have hA : ∀ q : Nat, s.heap.size ≤ q → A q := fun q h => by rw [← hAe]; exact Or.inr h
  have hS : va_S A s.heap s.heap [] := va_S.rf
  have hl := lv_entry ([.ref (a 18), .int p1, .int p2]) (n := 3) (Nat.le_of_ble_eq_true rfl)
  rw [lg_entry_eq]
  generalize (lg_sl ([.ref (a 18), .int p1, .int p2]) ++ List.replicate (3 - (lg_sl ([.ref (a 18), .int p1, .int p2])).length) Slot.unset).toArray = ls at hl ⊢
  have hl : lv_has ls 3 [(0, .ref (a 18)), (1, .int p1), (2, .int p2)] := hl
  unfold wp_M_rule at hw
  have join_15 : ∀ (x1 x2 s0 : Int32) (n : ctN) (f : ctF) (H : Heap) (locs : List Loc) (ls : Array Slot), wp_M_rule_J15 post x1 x2 s0 n f → va_P (dC, dI) vcl (ctW a cA n f) H → va_S A s.heap H locs → lv_has ls 3 [(0, .ref (a 18)), (1, .int x1), (2, .int x2)] → W p l e (headSpec wsM_rule ({ frames := 3, cells := 0, slots := 0, locals := 65 } : Room)).room s m (([.ref (a 18), .int p1, .int p2] : List Value).toArray) below meth c H locs 0 0 (MQ below (va_Qi (fun (r : Int32) (u : ctN × ctF) => post r u.1 u.2) (ct_B dC dI a cA) A) (([.ref (a 18), .int p1, .int p2] : List Value).toArray) s 0 0 A) (F0 m 15 ls [.int s0, .ref (a 18)]) := by
    intro x1 x2 s0 n f H locs ls hw hP hS hl
    unfold wp_M_rule_J15 at hw
    refine lv_iconst (v := 0) hx hb dM_rule_15 (by decide) ?_
    refine lv_iconst (v := 0) hx hb dM_rule_16 (by decide) ?_
    refine ct_i (va_runV (As := [.int s0, .int 0, .int 0]) (rest := []) ⟨hx, hb, hml, hown, hts⟩ (met_M_refuse l dC dI a cA sa s0 0 0 n f _ hw) (cwV 3 hts (wb_V wt_521 wt_523 wt_14 wt_30 wt_524) rfl rfl rfl (by decide +kernel) ⟨Nat.le_of_ble_eq_true rfl, Nat.le_of_ble_eq_true rfl⟩) (ct_preV hK hP (hDa _ _) hZ hS hA (va_recv hK hP (ci := 3) (q0 := 18) rfl rfl)) rfl rfl hl.1 rfl (lv_room (Nat.le_of_ble_eq_true rfl)) dM_rule_17 ⟨Nat.le_of_ble_eq_true rfl, Nat.le_of_ble_eq_true rfl⟩) (hDa _ _) hS hA (fun r5 n_6 f_7 H locs hw hP hS => ?_)
    refine lv_if_eq (tgt := 27) hx hb dM_rule_20 (by decide) (fun c8 => ?_) (fun c8 => ?_)
    · have hw := hw.1 c8
      refine lv_aload_n hx hb dM_rule_27 rfl (lv_at hl 0 rfl) ?_
      refine va_get (D := (dC, dI)) (ci := 3) (v := .ref (a 29)) (C := RM) (T := TM) (N := 19) hx hb hts (fun w h => List.mem_cons_of_mem _ (inM w h)) hown hK hP 18 rfl rfl 14 (by decide) (hts (.fieldLink RM 40 "CoverTreesModel" "chosen" "[I") (List.mem_cons_of_mem _ wt_458)) (fun _ h9 => h9) rfl dM_rule_28 ?_
      refine lv_bipush (v := 8) hx hb dM_rule_31 (by decide) ?_
      refine lv_iload_n hx hb dM_rule_33 rfl (lv_at hl 1 rfl) ?_
      refine lv_imul hx hb dM_rule_34 ?_
      refine lv_iload_n hx hb dM_rule_35 rfl (lv_at hl 2 rfl) ?_
      refine lv_iadd hx hb dM_rule_36 ?_
      obtain ⟨hi9, hw⟩ := hw
      refine va_iald hx hb hK hP 29 25 rfl rfl hi9 dM_rule_37 ?_
      exact W.iret (v := (f_7 29 ((8 * x1) + x2).toNatClampNeg)) hx hb hr (fun t ht hW => ⟨⟨(f_7 29 ((8 * x1) + x2).toNatClampNeg), (n_6, f_7), rfl, hw, ct_mkB ht hP⟩, hS.F ht⟩) hS.2.2 dM_rule_38
    · have hw := hw.2 c8
      refine lv_iconst (v := 0) hx hb dM_rule_23 (by decide) ?_
      refine lv_goto (tgt := 38) hx hb dM_rule_24 (by decide) ?_
      exact W.iret (v := 0) hx hb hr (fun t ht hW => ⟨⟨0, (n_6, f_7), rfl, hw, ct_mkB ht hP⟩, hS.F ht⟩) hS.2.2 dM_rule_38
  refine lv_aload_n hx hb dM_rule_0 rfl (lv_at hl 0 rfl) ?_
  refine lv_aload_n hx hb dM_rule_1 rfl (lv_at hl 0 rfl) ?_
  refine lv_iload_n hx hb dM_rule_2 rfl (lv_at hl 1 rfl) ?_
  refine lv_iload_n hx hb dM_rule_3 rfl (lv_at hl 2 rfl) ?_
  refine ct_i (va_runV (As := [.int p1, .int p2]) (rest := [.ref (a 18)]) ⟨hx, hb, hml, hown, hts⟩ (met_M_isAsked l dC dI a cA sa p1 p2 n f _ hw) (cwV 2 hts (wb_V wt_569 wt_571 wt_21 wt_30 wt_572) rfl rfl rfl (by decide +kernel) ⟨Nat.le_of_ble_eq_true rfl, Nat.le_of_ble_eq_true rfl⟩) (ct_preV hK hP (hDa _ _) hZ hS hA (va_recv hK hP (ci := 3) (q0 := 18) rfl rfl)) rfl rfl hl.1 rfl (lv_room (Nat.le_of_ble_eq_true rfl)) dM_rule_4 ⟨Nat.le_of_ble_eq_true rfl, Nat.le_of_ble_eq_true rfl⟩) (hDa _ _) hS hA (fun r1 n_2 f_3 H locs hw hP hS => ?_)
  refine lv_if_ne (tgt := 14) hx hb dM_rule_7 (by decide) (fun c4 => ?_) (fun c4 => ?_)
  · have hw := hw.1 c4
    refine lv_iconst (v := 0) hx hb dM_rule_14 (by decide) ?_
    exact join_15 p1 p2 0 n_2 f_3 _ _ ls hw hP hS (lv_sub hl [0, 1, 2] rfl)
  · have hw := hw.2 c4
    refine lv_iconst (v := 1) hx hb dM_rule_10 (by decide) ?_
    refine lv_goto (tgt := 15) hx hb dM_rule_11 (by decide) ?_
    exact join_15 p1 p2 1 n_2 f_3 _ _ ls hw hP hS (lv_sub hl [0, 1, 2] rfl)
def wp_M_size_J51 (post : Int32 → ctN → ctF → Prop) (x1 : Int32) (x2 : Int32) (s0 : Int32) (s1 : Int32) (n : ctN) (f : ctF) : Prop := wp_M_refuse (fun (r6 : Int32) (n_7 : ctN) (f_8 : ctF) => (r6 = 0 → (vp_in ((8 * x1) + x2) 960 ∧ (post (f_8 30 ((8 * x1) + x2).toNatClampNeg) n_7 f_8))) ∧ (¬ r6 = 0 → (post 0 n_7 f_8))) s1 s0 0 n f
def wp_M_size_J50 (post : Int32 → ctN → ctF → Prop) (x1 : Int32) (x2 : Int32) (s0 : Int32) (n : ctN) (f : ctF) : Prop := wp_M_size_J51 post x1 x2 0 s0 n f
def wp_M_size_J39 (post : Int32 → ctN → ctF → Prop) (x1 : Int32) (x2 : Int32) (s0 : Int32) (s2 : Int32) (n : ctN) (f : ctF) : Prop := vp_in s0 960 ∧ (((f 30 s0.toNatClampNeg) ≤ 2000 → (wp_M_size_J50 post x1 x2 s2 n f)) ∧ (¬ (f 30 s0.toNatClampNeg) ≤ 2000 → (wp_M_size_J51 post x1 x2 1 s2 n f)))
def wp_M_size_J17 (post : Int32 → ctN → ctF → Prop) (x1 : Int32) (x2 : Int32) (x3 : Int32) (s0 : Int32) (n : ctN) (f : ctF) : Prop := (x3 = 0 → (wp_M_size_J50 post x1 x2 s0 n f)) ∧ (¬ x3 = 0 → ((x3 = 0 → (wp_M_size_J39 post x1 x2 0 s0 n f)) ∧ (¬ x3 = 0 → (wp_M_size_J39 post x1 x2 ((8 * x1) + x2) s0 n f))))
def wp_M_size (post : Int32 → ctN → ctF → Prop) (p1 : Int32) (p2 : Int32) (n : ctN) (f : ctF) : Prop := wp_M_isAsked (fun (r1 : Int32) (n_2 : ctN) (f_3 : ctF) => (¬ r1 = 0 → (wp_M_size_J17 post p1 p2 r1 0 n_2 f_3)) ∧ (r1 = 0 → (wp_M_size_J17 post p1 p2 r1 1 n_2 f_3))) p1 p2 n f
set_option maxHeartbeats 4000000 in
set_option maxRecDepth 100000 in
theorem met_M_size (l : Launch) (dC : Nat → ClassId) (dI : Nat → Nat → Nat) (a : Nat → Nat) (cA : Nat → ClassId) (sa : Nat → Nat) (p1 : Int32) (p2 : Int32) (n : ctN) (f : ctF) (sz : Nat) {post : Int32 → ctN → ctF → Prop} (hw : wp_M_size post p1 p2 n f) : Met l yM_size wsM_size ({ frames := 3, cells := 0, slots := 0, locals := 65 } : Room) (ct_Pc dC dI a cA sa [.ref (a 18), .int p1, .int p2] n f sz) (va_Qi (fun (r : Int32) (u : ctN × ctF) => post r u.1 u.2) (ct_B dC dI a cA) (va_A (ctW a cA n f) sz)) 0 0 (va_A (ctW a cA n f) sz) := by
  refine Met.ofW (cc := cM_size) (maxL := 4) (ret := (some .int)) (by decide) rfl ?_
  intro p e s m args below meth c s₁ B hml hv
  obtain ⟨rfl, hsz, hP, hK, hD0, hZ⟩ := hv
  have hx := B.exec
  have hb := B.bytes
  have hr := B.returns
  have hts := atoms_spec (ws := wsM_size) B.pre
  have hown : s.vm.findClass RM = some m.cls := findClass_of_methodNamed B.named
  have hlocks := B.notSynchronized
  subst hsz
  have hD := hD0.self (sz := s.heap.size)
  generalize hAe : va_A (ctW a cA n f) s.heap.size = A at hD hZ ⊢
  have hDa : ∀ (n : ctN) (f : ctF), va_D A (ctW a cA n f) := fun _ _ => ct_D hD
  have hA : ∀ q : Nat, s.heap.size ≤ q → A q := fun q h => by rw [← hAe]; exact Or.inr h
  have hS : va_S A s.heap s.heap [] := va_S.rf
  have hl := lv_entry ([.ref (a 18), .int p1, .int p2]) (n := 4) (Nat.le_of_ble_eq_true rfl)
  rw [lg_entry_eq]
  generalize (lg_sl ([.ref (a 18), .int p1, .int p2]) ++ List.replicate (4 - (lg_sl ([.ref (a 18), .int p1, .int p2])).length) Slot.unset).toArray = ls at hl ⊢
  have hl : lv_has ls 4 [(0, .ref (a 18)), (1, .int p1), (2, .int p2)] := hl
  unfold wp_M_size at hw
  have join_51 : ∀ (x1 x2 s0 s1 : Int32) (n : ctN) (f : ctF) (H : Heap) (locs : List Loc) (ls : Array Slot), wp_M_size_J51 post x1 x2 s0 s1 n f → va_P (dC, dI) vcl (ctW a cA n f) H → va_S A s.heap H locs → lv_has ls 4 [(0, .ref (a 18)), (1, .int x1), (2, .int x2)] → W p l e (headSpec wsM_size ({ frames := 3, cells := 0, slots := 0, locals := 65 } : Room)).room s m (([.ref (a 18), .int p1, .int p2] : List Value).toArray) below meth c H locs 0 0 (MQ below (va_Qi (fun (r : Int32) (u : ctN × ctF) => post r u.1 u.2) (ct_B dC dI a cA) A) (([.ref (a 18), .int p1, .int p2] : List Value).toArray) s 0 0 A) (F0 m 51 ls [.int s0, .int s1, .ref (a 18)]) := by
    intro x1 x2 s0 s1 n f H locs ls hw hP hS hl
    unfold wp_M_size_J51 at hw
    refine lv_iconst (v := 0) hx hb dM_size_51 (by decide) ?_
    refine ct_i (va_runV (As := [.int s1, .int s0, .int 0]) (rest := []) ⟨hx, hb, hml, hown, hts⟩ (met_M_refuse l dC dI a cA sa s1 s0 0 n f _ hw) (cwV 3 hts (wb_V wt_521 wt_523 wt_14 wt_30 wt_524) rfl rfl rfl (by decide +kernel) ⟨Nat.le_of_ble_eq_true rfl, Nat.le_of_ble_eq_true rfl⟩) (ct_preV hK hP (hDa _ _) hZ hS hA (va_recv hK hP (ci := 3) (q0 := 18) rfl rfl)) rfl rfl hl.1 rfl (lv_room (Nat.le_of_ble_eq_true rfl)) dM_size_52 ⟨Nat.le_of_ble_eq_true rfl, Nat.le_of_ble_eq_true rfl⟩) (hDa _ _) hS hA (fun r6 n_7 f_8 H locs hw hP hS => ?_)
    refine lv_if_eq (tgt := 62) hx hb dM_size_55 (by decide) (fun c9 => ?_) (fun c9 => ?_)
    · have hw := hw.1 c9
      refine lv_aload_n hx hb dM_size_62 rfl (lv_at hl 0 rfl) ?_
      refine va_get (D := (dC, dI)) (ci := 3) (v := .ref (a 30)) (C := RM) (T := TM) (N := 19) hx hb hts (fun w h => List.mem_cons_of_mem _ (inM w h)) hown hK hP 18 rfl rfl 15 (by decide) (hts (.fieldLink RM 43 "CoverTreesModel" "sizes" "[I") (List.mem_cons_of_mem _ wt_459)) (fun _ h9 => h9) rfl dM_size_63 ?_
      refine lv_bipush (v := 8) hx hb dM_size_66 (by decide) ?_
      refine lv_iload_n hx hb dM_size_68 rfl (lv_at hl 1 rfl) ?_
      refine lv_imul hx hb dM_size_69 ?_
      refine lv_iload_n hx hb dM_size_70 rfl (lv_at hl 2 rfl) ?_
      refine lv_iadd hx hb dM_size_71 ?_
      obtain ⟨hi10, hw⟩ := hw
      refine va_iald hx hb hK hP 30 26 rfl rfl hi10 dM_size_72 ?_
      exact W.iret (v := (f_8 30 ((8 * x1) + x2).toNatClampNeg)) hx hb hr (fun t ht hW => ⟨⟨(f_8 30 ((8 * x1) + x2).toNatClampNeg), (n_7, f_8), rfl, hw, ct_mkB ht hP⟩, hS.F ht⟩) hS.2.2 dM_size_73
    · have hw := hw.2 c9
      refine lv_iconst (v := 0) hx hb dM_size_58 (by decide) ?_
      refine lv_goto (tgt := 73) hx hb dM_size_59 (by decide) ?_
      exact W.iret (v := 0) hx hb hr (fun t ht hW => ⟨⟨0, (n_7, f_8), rfl, hw, ct_mkB ht hP⟩, hS.F ht⟩) hS.2.2 dM_size_73
  have join_50 : ∀ (x1 x2 s0 : Int32) (n : ctN) (f : ctF) (H : Heap) (locs : List Loc) (ls : Array Slot), wp_M_size_J50 post x1 x2 s0 n f → va_P (dC, dI) vcl (ctW a cA n f) H → va_S A s.heap H locs → lv_has ls 4 [(0, .ref (a 18)), (1, .int x1), (2, .int x2)] → W p l e (headSpec wsM_size ({ frames := 3, cells := 0, slots := 0, locals := 65 } : Room)).room s m (([.ref (a 18), .int p1, .int p2] : List Value).toArray) below meth c H locs 0 0 (MQ below (va_Qi (fun (r : Int32) (u : ctN × ctF) => post r u.1 u.2) (ct_B dC dI a cA) A) (([.ref (a 18), .int p1, .int p2] : List Value).toArray) s 0 0 A) (F0 m 50 ls [.int s0, .ref (a 18)]) := by
    intro x1 x2 s0 n f H locs ls hw hP hS hl
    unfold wp_M_size_J50 at hw
    refine lv_iconst (v := 0) hx hb dM_size_50 (by decide) ?_
    exact join_51 x1 x2 0 s0 n f _ _ ls hw hP hS (lv_sub hl [0, 1, 2] rfl)
  have join_39 : ∀ (x1 x2 s0 s2 : Int32) (n : ctN) (f : ctF) (H : Heap) (locs : List Loc) (ls : Array Slot), wp_M_size_J39 post x1 x2 s0 s2 n f → va_P (dC, dI) vcl (ctW a cA n f) H → va_S A s.heap H locs → lv_has ls 4 [(0, .ref (a 18)), (1, .int x1), (2, .int x2)] → W p l e (headSpec wsM_size ({ frames := 3, cells := 0, slots := 0, locals := 65 } : Room)).room s m (([.ref (a 18), .int p1, .int p2] : List Value).toArray) below meth c H locs 0 0 (MQ below (va_Qi (fun (r : Int32) (u : ctN × ctF) => post r u.1 u.2) (ct_B dC dI a cA) A) (([.ref (a 18), .int p1, .int p2] : List Value).toArray) s 0 0 A) (F0 m 39 ls [.int s0, .ref (a 30), .int s2, .ref (a 18)]) := by
    intro x1 x2 s0 s2 n f H locs ls hw hP hS hl
    unfold wp_M_size_J39 at hw
    obtain ⟨hi12, hw⟩ := hw
    refine va_iald hx hb hK hP 30 26 rfl rfl hi12 dM_size_39 ?_
    refine lv_sipush (v := 2000) hx hb dM_size_40 (by decide) ?_
    refine lv_icmp_le (tgt := 50) hx hb dM_size_43 (by decide) (fun c13 => ?_) (fun c13 => ?_)
    · have hw := hw.1 c13
      exact join_50 x1 x2 s2 n f _ _ ls hw hP hS (lv_sub hl [0, 1, 2] rfl)
    · have hw := hw.2 c13
      refine lv_iconst (v := 1) hx hb dM_size_46 (by decide) ?_
      refine lv_goto (tgt := 51) hx hb dM_size_47 (by decide) ?_
      exact join_51 x1 x2 1 s2 n f _ _ ls hw hP hS (lv_sub hl [0, 1, 2] rfl)
  have join_17 : ∀ (x1 x2 x3 s0 : Int32) (n : ctN) (f : ctF) (H : Heap) (locs : List Loc) (ls : Array Slot), wp_M_size_J17 post x1 x2 x3 s0 n f → va_P (dC, dI) vcl (ctW a cA n f) H → va_S A s.heap H locs → lv_has ls 4 [(0, .ref (a 18)), (1, .int x1), (2, .int x2), (3, .int x3)] → W p l e (headSpec wsM_size ({ frames := 3, cells := 0, slots := 0, locals := 65 } : Room)).room s m (([.ref (a 18), .int p1, .int p2] : List Value).toArray) below meth c H locs 0 0 (MQ below (va_Qi (fun (r : Int32) (u : ctN × ctF) => post r u.1 u.2) (ct_B dC dI a cA) A) (([.ref (a 18), .int p1, .int p2] : List Value).toArray) s 0 0 A) (F0 m 17 ls [.int s0, .ref (a 18)]) := by
    intro x1 x2 x3 s0 n f H locs ls hw hP hS hl
    unfold wp_M_size_J17 at hw
    refine lv_iload_n hx hb dM_size_17 rfl (lv_at hl 3 rfl) ?_
    refine lv_if_eq (tgt := 50) hx hb dM_size_18 (by decide) (fun c5 => ?_) (fun c5 => ?_)
    · have hw := hw.1 c5
      exact join_50 x1 x2 s0 n f _ _ ls hw hP hS (lv_sub hl [0, 1, 2] rfl)
    · have hw := hw.2 c5
      refine lv_aload_n hx hb dM_size_21 rfl (lv_at hl 0 rfl) ?_
      refine va_get (D := (dC, dI)) (ci := 3) (v := .ref (a 30)) (C := RM) (T := TM) (N := 19) hx hb hts (fun w h => List.mem_cons_of_mem _ (inM w h)) hown hK hP 18 rfl rfl 15 (by decide) (hts (.fieldLink RM 43 "CoverTreesModel" "sizes" "[I") (List.mem_cons_of_mem _ wt_459)) (fun _ h9 => h9) rfl dM_size_22 ?_
      refine lv_iload_n hx hb dM_size_25 rfl (lv_at hl 3 rfl) ?_
      refine lv_if_eq (tgt := 38) hx hb dM_size_26 (by decide) (fun c11 => ?_) (fun c11 => ?_)
      · have hw := hw.1 c11
        refine lv_iconst (v := 0) hx hb dM_size_38 (by decide) ?_
        exact join_39 x1 x2 0 s0 n f _ _ ls hw hP hS (lv_sub hl [0, 1, 2] rfl)
      · have hw := hw.2 c11
        refine lv_bipush (v := 8) hx hb dM_size_29 (by decide) ?_
        refine lv_iload_n hx hb dM_size_31 rfl (lv_at hl 1 rfl) ?_
        refine lv_imul hx hb dM_size_32 ?_
        refine lv_iload_n hx hb dM_size_33 rfl (lv_at hl 2 rfl) ?_
        refine lv_iadd hx hb dM_size_34 ?_
        refine lv_goto (tgt := 39) hx hb dM_size_35 (by decide) ?_
        exact join_39 x1 x2 ((8 * x1) + x2) s0 n f _ _ ls hw hP hS (lv_sub hl [0, 1, 2] rfl)
  refine lv_aload_n hx hb dM_size_0 rfl (lv_at hl 0 rfl) ?_
  refine lv_iload_n hx hb dM_size_1 rfl (lv_at hl 1 rfl) ?_
  refine lv_iload_n hx hb dM_size_2 rfl (lv_at hl 2 rfl) ?_
  refine ct_i (va_runV (As := [.int p1, .int p2]) (rest := []) ⟨hx, hb, hml, hown, hts⟩ (met_M_isAsked l dC dI a cA sa p1 p2 n f _ hw) (cwV 2 hts (wb_V wt_569 wt_571 wt_21 wt_30 wt_572) rfl rfl rfl (by decide +kernel) ⟨Nat.le_of_ble_eq_true rfl, Nat.le_of_ble_eq_true rfl⟩) (ct_preV hK hP (hDa _ _) hZ hS hA (va_recv hK hP (ci := 3) (q0 := 18) rfl rfl)) rfl rfl hl.1 rfl (lv_room (Nat.le_of_ble_eq_true rfl)) dM_size_3 ⟨Nat.le_of_ble_eq_true rfl, Nat.le_of_ble_eq_true rfl⟩) (hDa _ _) hS hA (fun r1 n_2 f_3 H locs hw hP hS => ?_)
  refine lv_istore_n (lv' := [(3, .int r1), (0, .ref (a 18)), (1, .int p1), (2, .int p2)]) hx hb dM_size_6 rfl hl (by decide) rfl (fun ls hl => ?_)
  refine lv_aload_n hx hb dM_size_7 rfl (lv_at hl 1 rfl) ?_
  refine lv_iload_n hx hb dM_size_8 rfl (lv_at hl 0 rfl) ?_
  refine lv_if_ne (tgt := 16) hx hb dM_size_9 (by decide) (fun c4 => ?_) (fun c4 => ?_)
  · have hw := hw.1 c4
    refine lv_iconst (v := 0) hx hb dM_size_16 (by decide) ?_
    exact join_17 p1 p2 r1 0 n_2 f_3 _ _ ls hw hP hS (lv_sub hl [1, 2, 3, 0] rfl)
  · have hw := hw.2 c4
    refine lv_iconst (v := 1) hx hb dM_size_12 (by decide) ?_
    refine lv_goto (tgt := 17) hx hb dM_size_13 (by decide) ?_
    exact join_17 p1 p2 r1 1 n_2 f_3 _ _ ls hw hP hS (lv_sub hl [1, 2, 3, 0] rfl)
def wp_M_find_J175 (post : ctN → ctF → Prop) (K26 : Int32 → Int32 → ctN → ctF → Prop) (x4 : Int32) (x5 : Int32) (n : ctN) (f : ctF) : Prop := vp_in ((8 * (n 7)) + x4) 960 ∧ (∀ n_21 : ctN, n_21 = va_up n 8 (f 29 ((8 * (n 7)) + x4).toNatClampNeg) → (K26 x4 x5 n_21 f))
def wp_M_find_L26 (post : ctN → ctF → Prop) : Nat → Int32 → Int32 → ctN → ctF → Prop
  | 0, _, _, _, _ => False
  | k + 1, x4, x5, n, f => vp_in ((8 * (n 7)) + x4) 960 ∧ ((((f 30 ((8 * (n 7)) + x4).toNatClampNeg) - 1) ≤ x5 → (post n f)) ∧ (¬ ((f 30 ((8 * (n 7)) + x4).toNatClampNeg) - 1) ≤ x5 → (vp_in ((8 * (n 7)) + x4) 960 ∧ (∀ x6_7 : Int32, x6_7 = (f 29 ((8 * (n 7)) + x4).toNatClampNeg) → (vp_in x6_7 40 ∧ ((0 ≤ (f 22 x6_7.toNatClampNeg) → (vp_in (n 7) 120 ∧ (vp_in x6_7 40 ∧ (vp_in ((8 * (f 26 (n 7).toNatClampNeg)) + (f 23 x6_7.toNatClampNeg)) 960 ∧ (∀ x7_13 : Int32, x7_13 = (f 30 ((8 * (f 26 (n 7).toNatClampNeg)) + (f 23 x6_7.toNatClampNeg)).toNatClampNeg) → ((x7_13 ≤ x5 → (∀ x5_15 : Int32, x5_15 = (x5 - x7_13) → (vp_in (n 7) 120 ∧ (∀ n_17 : ctN, n_17 = va_up n 7 (f 27 (n 7).toNatClampNeg) → (vp_in x6_7 40 ∧ (∀ x4_19 : Int32, x4_19 = (f 24 x6_7.toNatClampNeg) → (wp_M_find_J175 post (wp_M_find_L26 post k) x4_19 x5_15 n_17 f))))))) ∧ (¬ x7_13 ≤ x5 → (vp_in (n 7) 120 ∧ (∀ n_23 : ctN, n_23 = va_up n 7 (f 26 (n 7).toNatClampNeg) → (vp_in x6_7 40 ∧ (∀ x4_25 : Int32, x4_25 = (f 23 x6_7.toNatClampNeg) → (wp_M_find_J175 post (wp_M_find_L26 post k) x4_25 x5 n_23 f)))))))))))) ∧ (¬ 0 ≤ (f 22 x6_7.toNatClampNeg) → (vp_in x6_7 40 ∧ (∀ x4_27 : Int32, x4_27 = (f 23 x6_7.toNatClampNeg) → (wp_M_find_J175 post (wp_M_find_L26 post k) x4_27 x5 n f))))))))))
def wp_M_find (post : ctN → ctF → Prop) (p1 : Int32) (p2 : Int32) (p3 : Int32) (n : ctN) (f : ctF) : Prop := ∀ n_1 : ctN, n_1 = va_up n 7 p1 → (vp_in ((8 * p1) + p2) 960 ∧ (∀ n_3 : ctN, n_3 = va_up n_1 8 (f 29 ((8 * p1) + p2).toNatClampNeg) → (∃ j, wp_M_find_L26 post j p2 p3 n_3 f)))
set_option maxHeartbeats 4000000 in
set_option maxRecDepth 100000 in
theorem met_M_find (l : Launch) (dC : Nat → ClassId) (dI : Nat → Nat → Nat) (a : Nat → Nat) (cA : Nat → ClassId) (sa : Nat → Nat) (p1 : Int32) (p2 : Int32) (p3 : Int32) (n : ctN) (f : ctF) (sz : Nat) {post : ctN → ctF → Prop} (hw : wp_M_find post p1 p2 p3 n f) : Met l yM_find wsM_find ({ frames := 0, cells := 0, slots := 0, locals := 0 } : Room) (ct_Pc dC dI a cA sa [.ref (a 18), .int p1, .int p2, .int p3] n f sz) (va_Qv (fun (u : ctN × ctF) => post u.1 u.2) (ct_B dC dI a cA) (va_A (ctW a cA n f) sz)) 0 0 (va_A (ctW a cA n f) sz) := by
  refine Met.ofW (cc := cM_find) (maxL := 8) (ret := none) (by decide) rfl ?_
  intro p e s m args below meth c s₁ B hml hv
  obtain ⟨rfl, hsz, hP, hK, hD0, hZ⟩ := hv
  have hx := B.exec
  have hb := B.bytes
  have hr := B.returns
  have hts := atoms_spec (ws := wsM_find) B.pre
  have hown : s.vm.findClass RM = some m.cls := findClass_of_methodNamed B.named
  have hlocks := B.notSynchronized
  subst hsz
  have hD := hD0.self (sz := s.heap.size)
  generalize hAe : va_A (ctW a cA n f) s.heap.size = A at hD hZ ⊢
  have hDa : ∀ (n : ctN) (f : ctF), va_D A (ctW a cA n f) := fun _ _ => ct_D hD
  have hA : ∀ q : Nat, s.heap.size ≤ q → A q := fun q h => by rw [← hAe]; exact Or.inr h
  have hS : va_S A s.heap s.heap [] := va_S.rf
  have hl := lv_entry ([.ref (a 18), .int p1, .int p2, .int p3]) (n := 8) (Nat.le_of_ble_eq_true rfl)
  rw [lg_entry_eq]
  generalize (lg_sl ([.ref (a 18), .int p1, .int p2, .int p3]) ++ List.replicate (8 - (lg_sl ([.ref (a 18), .int p1, .int p2, .int p3])).length) Slot.unset).toArray = ls at hl ⊢
  have hl : lv_has ls 8 [(0, .ref (a 18)), (1, .int p1), (2, .int p2), (3, .int p3)] := hl
  unfold wp_M_find at hw
  have loop_26 : ∀ (k : Nat) (x4 x5 : Int32) (n : ctN) (f : ctF) (H : Heap) (locs : List Loc) (ls : Array Slot), wp_M_find_L26 post k x4 x5 n f → va_P (dC, dI) vcl (ctW a cA n f) H → va_S A s.heap H locs → lv_has ls 8 [(0, .ref (a 18)), (4, .int x4), (5, .int x5)] → W p l e (headSpec wsM_find ({ frames := 0, cells := 0, slots := 0, locals := 0 } : Room)).room s m (([.ref (a 18), .int p1, .int p2, .int p3] : List Value).toArray) below meth c H locs 0 0 (MQ below (va_Qv (fun (u : ctN × ctF) => post u.1 u.2) (ct_B dC dI a cA) A) (([.ref (a 18), .int p1, .int p2, .int p3] : List Value).toArray) s 0 0 A) (F0 m 26 ls []) := by
    intro k
    induction k with
    | zero => intro x4 x5 n f H locs ls hw; exact hw.elim
    | succ k ih =>
      have join_175 : ∀ (x4 x5 : Int32) (n : ctN) (f : ctF) (H : Heap) (locs : List Loc) (ls : Array Slot), wp_M_find_J175 post (wp_M_find_L26 post k) x4 x5 n f → va_P (dC, dI) vcl (ctW a cA n f) H → va_S A s.heap H locs → lv_has ls 8 [(0, .ref (a 18)), (4, .int x4), (5, .int x5)] → W p l e (headSpec wsM_find ({ frames := 0, cells := 0, slots := 0, locals := 0 } : Room)).room s m (([.ref (a 18), .int p1, .int p2, .int p3] : List Value).toArray) below meth c H locs 0 0 (MQ below (va_Qv (fun (u : ctN × ctF) => post u.1 u.2) (ct_B dC dI a cA) A) (([.ref (a 18), .int p1, .int p2, .int p3] : List Value).toArray) s 0 0 A) (F0 m 175 ls []) := by
        intro x4 x5 n f H locs ls hw hP hS hl
        unfold wp_M_find_J175 at hw
        refine lv_aload_n hx hb dM_find_175 rfl (lv_at hl 0 rfl) ?_
        refine lv_aload_n hx hb dM_find_176 rfl (lv_at hl 0 rfl) ?_
        refine va_get (D := (dC, dI)) (ci := 3) (v := .ref (a 29)) (C := RM) (T := TM) (N := 19) hx hb hts (fun w h => List.mem_cons_of_mem _ (inM w h)) hown hK hP 18 rfl rfl 14 (by decide) (hts (.fieldLink RM 40 "CoverTreesModel" "chosen" "[I") (List.mem_cons_of_mem _ wt_458)) (fun _ h9 => h9) rfl dM_find_177 ?_
        refine lv_bipush (v := 8) hx hb dM_find_180 (by decide) ?_
        refine lv_aload_n hx hb dM_find_182 rfl (lv_at hl 0 rfl) ?_
        refine va_get (D := (dC, dI)) (ci := 3) (v := .int (n 7)) (C := RM) (T := TM) (N := 19) hx hb hts (fun w h => List.mem_cons_of_mem _ (inM w h)) hown hK hP 18 rfl rfl 17 (by decide) (hts (.fieldLink RM 101 "CoverTreesModel" "atNode" "I") (List.mem_cons_of_mem _ wt_461)) (fun _ h9 => h9) rfl dM_find_183 ?_
        refine lv_imul hx hb dM_find_186 ?_
        refine lv_iload hx hb dM_find_187 (lv_at hl 1 rfl) ?_
        refine lv_iadd hx hb dM_find_189 ?_
        obtain ⟨hi20, hw⟩ := hw
        refine va_iald hx hb hK hP 29 25 rfl rfl hi20 dM_find_190 ?_
        refine va_put (D := (dC, dI)) (ci := 3) (v := .int (f 29 ((8 * (n 7)) + x4).toNatClampNeg)) (ty := .int) (C := RM) (T := TM) (N := 19) hx hb hts (fun w h => List.mem_cons_of_mem _ (inM w h)) tyM tyM_ok nmM hown hK hP (hDa _ _) hS 18 rfl rfl 18 (by decide) (hts (.fieldLink RM 104 "CoverTreesModel" "atRule" "I") (List.mem_cons_of_mem _ wt_462)) (fun _ h9 => h9) rfl (by decide +kernel) rfl rfl (Nat.le_of_ble_eq_true rfl) dM_find_191 (fun H locs hP _ hS => ?_)
        obtain ⟨n_21, en_21⟩ : ∃ z : ctN, z = va_up n 8 (f 29 ((8 * (n 7)) + x4).toNatClampNeg) := ⟨_, rfl⟩
        have hw := hw n_21 en_21
        have hP : va_P (dC, dI) vcl (ctW a cA n_21 f) H := by rw [en_21]; exact hP
        refine lv_goto (tgt := 26) hx hb dM_find_194 (by decide) ?_
        exact ih x4 x5 n_21 f _ _ ls hw hP hS (lv_sub hl [0, 1, 2] rfl)
      intro x4 x5 n f H locs ls hw hP hS hl
      rw [wp_M_find_L26] at hw
      refine lv_iload hx hb dM_find_26 (lv_at hl 2 rfl) ?_
      refine lv_aload_n hx hb dM_find_28 rfl (lv_at hl 0 rfl) ?_
      refine va_get (D := (dC, dI)) (ci := 3) (v := .ref (a 30)) (C := RM) (T := TM) (N := 19) hx hb hts (fun w h => List.mem_cons_of_mem _ (inM w h)) hown hK hP 18 rfl rfl 15 (by decide) (hts (.fieldLink RM 43 "CoverTreesModel" "sizes" "[I") (List.mem_cons_of_mem _ wt_459)) (fun _ h9 => h9) rfl dM_find_29 ?_
      refine lv_bipush (v := 8) hx hb dM_find_32 (by decide) ?_
      refine lv_aload_n hx hb dM_find_34 rfl (lv_at hl 0 rfl) ?_
      refine va_get (D := (dC, dI)) (ci := 3) (v := .int (n 7)) (C := RM) (T := TM) (N := 19) hx hb hts (fun w h => List.mem_cons_of_mem _ (inM w h)) hown hK hP 18 rfl rfl 17 (by decide) (hts (.fieldLink RM 101 "CoverTreesModel" "atNode" "I") (List.mem_cons_of_mem _ wt_461)) (fun _ h9 => h9) rfl dM_find_35 ?_
      refine lv_imul hx hb dM_find_38 ?_
      refine lv_iload hx hb dM_find_39 (lv_at hl 1 rfl) ?_
      refine lv_iadd hx hb dM_find_41 ?_
      obtain ⟨hi4, hw⟩ := hw
      refine va_iald hx hb hK hP 30 26 rfl rfl hi4 dM_find_42 ?_
      refine lv_iconst (v := 1) hx hb dM_find_43 (by decide) ?_
      refine lv_isub hx hb dM_find_44 ?_
      refine lv_icmp_ge (tgt := 197) hx hb dM_find_45 (by decide) (fun c5 => ?_) (fun c5 => ?_)
      · have hw := hw.1 c5
        exact W.vret hx hb hr (fun t ht hW => ⟨⟨(n, f), rfl, hw, ct_mkB ht hP⟩, hS.F ht⟩) hS.2.2 dM_find_197
      · have hw := hw.2 c5
        refine lv_aload_n hx hb dM_find_48 rfl (lv_at hl 0 rfl) ?_
        refine va_get (D := (dC, dI)) (ci := 3) (v := .ref (a 29)) (C := RM) (T := TM) (N := 19) hx hb hts (fun w h => List.mem_cons_of_mem _ (inM w h)) hown hK hP 18 rfl rfl 14 (by decide) (hts (.fieldLink RM 40 "CoverTreesModel" "chosen" "[I") (List.mem_cons_of_mem _ wt_458)) (fun _ h9 => h9) rfl dM_find_49 ?_
        refine lv_bipush (v := 8) hx hb dM_find_52 (by decide) ?_
        refine lv_aload_n hx hb dM_find_54 rfl (lv_at hl 0 rfl) ?_
        refine va_get (D := (dC, dI)) (ci := 3) (v := .int (n 7)) (C := RM) (T := TM) (N := 19) hx hb hts (fun w h => List.mem_cons_of_mem _ (inM w h)) hown hK hP 18 rfl rfl 17 (by decide) (hts (.fieldLink RM 101 "CoverTreesModel" "atNode" "I") (List.mem_cons_of_mem _ wt_461)) (fun _ h9 => h9) rfl dM_find_55 ?_
        refine lv_imul hx hb dM_find_58 ?_
        refine lv_iload hx hb dM_find_59 (lv_at hl 1 rfl) ?_
        refine lv_iadd hx hb dM_find_61 ?_
        obtain ⟨hi6, hw⟩ := hw
        refine va_iald hx hb hK hP 29 25 rfl rfl hi6 dM_find_62 ?_
        refine lv_topi (fun x6_7 ex6_7 => ?_)
        have hw := hw x6_7 ex6_7
        refine lv_istore (lv' := [(6, .int x6_7), (0, .ref (a 18)), (4, .int x4), (5, .int x5)]) hx hb dM_find_63 hl (by decide) rfl (fun ls hl => ?_)
        refine lv_aload_n hx hb dM_find_65 rfl (lv_at hl 1 rfl) ?_
        refine va_get (D := (dC, dI)) (ci := 3) (v := .ref (a 22)) (C := RM) (T := TM) (N := 19) hx hb hts (fun w h => List.mem_cons_of_mem _ (inM w h)) hown hK hP 18 rfl rfl 6 (by decide) (hts (.fieldLink RM 19 "CoverTreesModel" "of" "[I") (List.mem_cons_of_mem _ wt_450)) (fun _ h9 => h9) rfl dM_find_66 ?_
        refine lv_iload hx hb dM_find_69 (lv_at hl 0 rfl) ?_
        obtain ⟨hi8, hw⟩ := hw
        refine va_iald hx hb hK hP 22 18 rfl rfl hi8 dM_find_71 ?_
        refine lv_if_ge (tgt := 87) hx hb dM_find_72 (by decide) (fun c9 => ?_) (fun c9 => ?_)
        · have hw := hw.1 c9
          refine lv_aload_n hx hb dM_find_87 rfl (lv_at hl 1 rfl) ?_
          refine va_get (D := (dC, dI)) (ci := 3) (v := .ref (a 30)) (C := RM) (T := TM) (N := 19) hx hb hts (fun w h => List.mem_cons_of_mem _ (inM w h)) hown hK hP 18 rfl rfl 15 (by decide) (hts (.fieldLink RM 43 "CoverTreesModel" "sizes" "[I") (List.mem_cons_of_mem _ wt_459)) (fun _ h9 => h9) rfl dM_find_88 ?_
          refine lv_bipush (v := 8) hx hb dM_find_91 (by decide) ?_
          refine lv_aload_n hx hb dM_find_93 rfl (lv_at hl 1 rfl) ?_
          refine va_get (D := (dC, dI)) (ci := 3) (v := .ref (a 26)) (C := RM) (T := TM) (N := 19) hx hb hts (fun w h => List.mem_cons_of_mem _ (inM w h)) hown hK hP 18 rfl rfl 11 (by decide) (hts (.fieldLink RM 31 "CoverTreesModel" "one" "[I") (List.mem_cons_of_mem _ wt_455)) (fun _ h9 => h9) rfl dM_find_94 ?_
          refine lv_aload_n hx hb dM_find_97 rfl (lv_at hl 1 rfl) ?_
          refine va_get (D := (dC, dI)) (ci := 3) (v := .int (n 7)) (C := RM) (T := TM) (N := 19) hx hb hts (fun w h => List.mem_cons_of_mem _ (inM w h)) hown hK hP 18 rfl rfl 17 (by decide) (hts (.fieldLink RM 101 "CoverTreesModel" "atNode" "I") (List.mem_cons_of_mem _ wt_461)) (fun _ h9 => h9) rfl dM_find_98 ?_
          obtain ⟨hi10, hw⟩ := hw
          refine va_iald hx hb hK hP 26 22 rfl rfl hi10 dM_find_101 ?_
          refine lv_imul hx hb dM_find_102 ?_
          refine lv_aload_n hx hb dM_find_103 rfl (lv_at hl 1 rfl) ?_
          refine va_get (D := (dC, dI)) (ci := 3) (v := .ref (a 23)) (C := RM) (T := TM) (N := 19) hx hb hts (fun w h => List.mem_cons_of_mem _ (inM w h)) hown hK hP 18 rfl rfl 7 (by decide) (hts (.fieldLink RM 22 "CoverTreesModel" "first" "[I") (List.mem_cons_of_mem _ wt_451)) (fun _ h9 => h9) rfl dM_find_104 ?_
          refine lv_iload hx hb dM_find_107 (lv_at hl 0 rfl) ?_
          obtain ⟨hi11, hw⟩ := hw
          refine va_iald hx hb hK hP 23 19 rfl rfl hi11 dM_find_109 ?_
          refine lv_iadd hx hb dM_find_110 ?_
          obtain ⟨hi12, hw⟩ := hw
          refine va_iald hx hb hK hP 30 26 rfl rfl hi12 dM_find_111 ?_
          refine lv_topi (fun x7_13 ex7_13 => ?_)
          have hw := hw x7_13 ex7_13
          refine lv_istore (lv' := [(7, .int x7_13), (6, .int x6_7), (0, .ref (a 18)), (4, .int x4), (5, .int x5)]) hx hb dM_find_112 hl (by decide) rfl (fun ls hl => ?_)
          refine lv_iload hx hb dM_find_114 (lv_at hl 4 rfl) ?_
          refine lv_iload hx hb dM_find_116 (lv_at hl 0 rfl) ?_
          refine lv_icmp_ge (tgt := 146) hx hb dM_find_118 (by decide) (fun c14 => ?_) (fun c14 => ?_)
          · have hw := hw.1 c14
            refine lv_iload hx hb dM_find_146 (lv_at hl 4 rfl) ?_
            refine lv_iload hx hb dM_find_148 (lv_at hl 0 rfl) ?_
            refine lv_isub hx hb dM_find_150 ?_
            refine lv_topi (fun x5_15 ex5_15 => ?_)
            have hw := hw x5_15 ex5_15
            refine lv_istore (lv' := [(5, .int x5_15), (7, .int x7_13), (6, .int x6_7), (0, .ref (a 18)), (4, .int x4)]) hx hb dM_find_151 hl (by decide) rfl (fun ls hl => ?_)
            refine lv_aload_n hx hb dM_find_153 rfl (lv_at hl 3 rfl) ?_
            refine lv_aload_n hx hb dM_find_154 rfl (lv_at hl 3 rfl) ?_
            refine va_get (D := (dC, dI)) (ci := 3) (v := .ref (a 27)) (C := RM) (T := TM) (N := 19) hx hb hts (fun w h => List.mem_cons_of_mem _ (inM w h)) hown hK hP 18 rfl rfl 12 (by decide) (hts (.fieldLink RM 34 "CoverTreesModel" "two" "[I") (List.mem_cons_of_mem _ wt_456)) (fun _ h9 => h9) rfl dM_find_155 ?_
            refine lv_aload_n hx hb dM_find_158 rfl (lv_at hl 3 rfl) ?_
            refine va_get (D := (dC, dI)) (ci := 3) (v := .int (n 7)) (C := RM) (T := TM) (N := 19) hx hb hts (fun w h => List.mem_cons_of_mem _ (inM w h)) hown hK hP 18 rfl rfl 17 (by decide) (hts (.fieldLink RM 101 "CoverTreesModel" "atNode" "I") (List.mem_cons_of_mem _ wt_461)) (fun _ h9 => h9) rfl dM_find_159 ?_
            obtain ⟨hi16, hw⟩ := hw
            refine va_iald hx hb hK hP 27 23 rfl rfl hi16 dM_find_162 ?_
            refine va_put (D := (dC, dI)) (ci := 3) (v := .int (f 27 (n 7).toNatClampNeg)) (ty := .int) (C := RM) (T := TM) (N := 19) hx hb hts (fun w h => List.mem_cons_of_mem _ (inM w h)) tyM tyM_ok nmM hown hK hP (hDa _ _) hS 18 rfl rfl 17 (by decide) (hts (.fieldLink RM 101 "CoverTreesModel" "atNode" "I") (List.mem_cons_of_mem _ wt_461)) (fun _ h9 => h9) rfl (by decide +kernel) rfl rfl (Nat.le_of_ble_eq_true rfl) dM_find_163 (fun H locs hP _ hS => ?_)
            obtain ⟨n_17, en_17⟩ : ∃ z : ctN, z = va_up n 7 (f 27 (n 7).toNatClampNeg) := ⟨_, rfl⟩
            have hw := hw n_17 en_17
            have hP : va_P (dC, dI) vcl (ctW a cA n_17 f) H := by rw [en_17]; exact hP
            refine lv_aload_n hx hb dM_find_166 rfl (lv_at hl 3 rfl) ?_
            refine va_get (D := (dC, dI)) (ci := 3) (v := .ref (a 24)) (C := RM) (T := TM) (N := 19) hx hb hts (fun w h => List.mem_cons_of_mem _ (inM w h)) hown hK hP 18 rfl rfl 8 (by decide) (hts (.fieldLink RM 25 "CoverTreesModel" "second" "[I") (List.mem_cons_of_mem _ wt_452)) (fun _ h9 => h9) rfl dM_find_167 ?_
            refine lv_iload hx hb dM_find_170 (lv_at hl 2 rfl) ?_
            obtain ⟨hi18, hw⟩ := hw
            refine va_iald hx hb hK hP 24 20 rfl rfl hi18 dM_find_172 ?_
            refine lv_topi (fun x4_19 ex4_19 => ?_)
            have hw := hw x4_19 ex4_19
            refine lv_istore (lv' := [(4, .int x4_19), (5, .int x5_15), (7, .int x7_13), (6, .int x6_7), (0, .ref (a 18))]) hx hb dM_find_173 hl (by decide) rfl (fun ls hl => ?_)
            exact join_175 x4_19 x5_15 n_17 f _ _ ls hw hP hS (lv_sub hl [4, 0, 1] rfl)
          · have hw := hw.2 c14
            refine lv_aload_n hx hb dM_find_121 rfl (lv_at hl 2 rfl) ?_
            refine lv_aload_n hx hb dM_find_122 rfl (lv_at hl 2 rfl) ?_
            refine va_get (D := (dC, dI)) (ci := 3) (v := .ref (a 26)) (C := RM) (T := TM) (N := 19) hx hb hts (fun w h => List.mem_cons_of_mem _ (inM w h)) hown hK hP 18 rfl rfl 11 (by decide) (hts (.fieldLink RM 31 "CoverTreesModel" "one" "[I") (List.mem_cons_of_mem _ wt_455)) (fun _ h9 => h9) rfl dM_find_123 ?_
            refine lv_aload_n hx hb dM_find_126 rfl (lv_at hl 2 rfl) ?_
            refine va_get (D := (dC, dI)) (ci := 3) (v := .int (n 7)) (C := RM) (T := TM) (N := 19) hx hb hts (fun w h => List.mem_cons_of_mem _ (inM w h)) hown hK hP 18 rfl rfl 17 (by decide) (hts (.fieldLink RM 101 "CoverTreesModel" "atNode" "I") (List.mem_cons_of_mem _ wt_461)) (fun _ h9 => h9) rfl dM_find_127 ?_
            obtain ⟨hi22, hw⟩ := hw
            refine va_iald hx hb hK hP 26 22 rfl rfl hi22 dM_find_130 ?_
            refine va_put (D := (dC, dI)) (ci := 3) (v := .int (f 26 (n 7).toNatClampNeg)) (ty := .int) (C := RM) (T := TM) (N := 19) hx hb hts (fun w h => List.mem_cons_of_mem _ (inM w h)) tyM tyM_ok nmM hown hK hP (hDa _ _) hS 18 rfl rfl 17 (by decide) (hts (.fieldLink RM 101 "CoverTreesModel" "atNode" "I") (List.mem_cons_of_mem _ wt_461)) (fun _ h9 => h9) rfl (by decide +kernel) rfl rfl (Nat.le_of_ble_eq_true rfl) dM_find_131 (fun H locs hP _ hS => ?_)
            obtain ⟨n_23, en_23⟩ : ∃ z : ctN, z = va_up n 7 (f 26 (n 7).toNatClampNeg) := ⟨_, rfl⟩
            have hw := hw n_23 en_23
            have hP : va_P (dC, dI) vcl (ctW a cA n_23 f) H := by rw [en_23]; exact hP
            refine lv_aload_n hx hb dM_find_134 rfl (lv_at hl 2 rfl) ?_
            refine va_get (D := (dC, dI)) (ci := 3) (v := .ref (a 23)) (C := RM) (T := TM) (N := 19) hx hb hts (fun w h => List.mem_cons_of_mem _ (inM w h)) hown hK hP 18 rfl rfl 7 (by decide) (hts (.fieldLink RM 22 "CoverTreesModel" "first" "[I") (List.mem_cons_of_mem _ wt_451)) (fun _ h9 => h9) rfl dM_find_135 ?_
            refine lv_iload hx hb dM_find_138 (lv_at hl 1 rfl) ?_
            obtain ⟨hi24, hw⟩ := hw
            refine va_iald hx hb hK hP 23 19 rfl rfl hi24 dM_find_140 ?_
            refine lv_topi (fun x4_25 ex4_25 => ?_)
            have hw := hw x4_25 ex4_25
            refine lv_istore (lv' := [(4, .int x4_25), (7, .int x7_13), (6, .int x6_7), (0, .ref (a 18)), (5, .int x5)]) hx hb dM_find_141 hl (by decide) rfl (fun ls hl => ?_)
            refine lv_goto (tgt := 175) hx hb dM_find_143 (by decide) ?_
            exact join_175 x4_25 x5 n_23 f _ _ ls hw hP hS (lv_sub hl [3, 0, 4] rfl)
        · have hw := hw.2 c9
          refine lv_aload_n hx hb dM_find_75 rfl (lv_at hl 1 rfl) ?_
          refine va_get (D := (dC, dI)) (ci := 3) (v := .ref (a 23)) (C := RM) (T := TM) (N := 19) hx hb hts (fun w h => List.mem_cons_of_mem _ (inM w h)) hown hK hP 18 rfl rfl 7 (by decide) (hts (.fieldLink RM 22 "CoverTreesModel" "first" "[I") (List.mem_cons_of_mem _ wt_451)) (fun _ h9 => h9) rfl dM_find_76 ?_
          refine lv_iload hx hb dM_find_79 (lv_at hl 0 rfl) ?_
          obtain ⟨hi26, hw⟩ := hw
          refine va_iald hx hb hK hP 23 19 rfl rfl hi26 dM_find_81 ?_
          refine lv_topi (fun x4_27 ex4_27 => ?_)
          have hw := hw x4_27 ex4_27
          refine lv_istore (lv' := [(4, .int x4_27), (6, .int x6_7), (0, .ref (a 18)), (5, .int x5)]) hx hb dM_find_82 hl (by decide) rfl (fun ls hl => ?_)
          refine lv_goto (tgt := 175) hx hb dM_find_84 (by decide) ?_
          exact join_175 x4_27 x5 n f _ _ ls hw hP hS (lv_sub hl [2, 0, 3] rfl)
  refine lv_aload_n hx hb dM_find_0 rfl (lv_at hl 0 rfl) ?_
  refine lv_iload_n hx hb dM_find_1 rfl (lv_at hl 1 rfl) ?_
  refine va_put (D := (dC, dI)) (ci := 3) (v := .int p1) (ty := .int) (C := RM) (T := TM) (N := 19) hx hb hts (fun w h => List.mem_cons_of_mem _ (inM w h)) tyM tyM_ok nmM hown hK hP (hDa _ _) hS 18 rfl rfl 17 (by decide) (hts (.fieldLink RM 101 "CoverTreesModel" "atNode" "I") (List.mem_cons_of_mem _ wt_461)) (fun _ h9 => h9) rfl (by decide +kernel) rfl rfl (Nat.le_of_ble_eq_true rfl) dM_find_2 (fun H locs hP _ hS => ?_)
  obtain ⟨n_1, en_1⟩ : ∃ z : ctN, z = va_up n 7 p1 := ⟨_, rfl⟩
  have hw := hw n_1 en_1
  have hP : va_P (dC, dI) vcl (ctW a cA n_1 f) H := by rw [en_1]; exact hP
  refine lv_iload_n hx hb dM_find_5 rfl (lv_at hl 2 rfl) ?_
  refine lv_istore (lv' := [(4, .int p2), (0, .ref (a 18)), (1, .int p1), (2, .int p2), (3, .int p3)]) hx hb dM_find_6 hl (by decide) rfl (fun ls hl => ?_)
  refine lv_iload_n hx hb dM_find_8 rfl (lv_at hl 4 rfl) ?_
  refine lv_istore (lv' := [(5, .int p3), (4, .int p2), (0, .ref (a 18)), (1, .int p1), (2, .int p2), (3, .int p3)]) hx hb dM_find_9 hl (by decide) rfl (fun ls hl => ?_)
  refine lv_aload_n hx hb dM_find_11 rfl (lv_at hl 2 rfl) ?_
  refine lv_aload_n hx hb dM_find_12 rfl (lv_at hl 2 rfl) ?_
  refine va_get (D := (dC, dI)) (ci := 3) (v := .ref (a 29)) (C := RM) (T := TM) (N := 19) hx hb hts (fun w h => List.mem_cons_of_mem _ (inM w h)) hown hK hP 18 rfl rfl 14 (by decide) (hts (.fieldLink RM 40 "CoverTreesModel" "chosen" "[I") (List.mem_cons_of_mem _ wt_458)) (fun _ h9 => h9) rfl dM_find_13 ?_
  refine lv_bipush (v := 8) hx hb dM_find_16 (by decide) ?_
  refine lv_iload_n hx hb dM_find_18 rfl (lv_at hl 3 rfl) ?_
  refine lv_imul hx hb dM_find_19 ?_
  refine lv_iload_n hx hb dM_find_20 rfl (lv_at hl 4 rfl) ?_
  refine lv_iadd hx hb dM_find_21 ?_
  obtain ⟨hi2, hw⟩ := hw
  refine va_iald hx hb hK hP 29 25 rfl rfl hi2 dM_find_22 ?_
  refine va_put (D := (dC, dI)) (ci := 3) (v := .int (f 29 ((8 * p1) + p2).toNatClampNeg)) (ty := .int) (C := RM) (T := TM) (N := 19) hx hb hts (fun w h => List.mem_cons_of_mem _ (inM w h)) tyM tyM_ok nmM hown hK hP (hDa _ _) hS 18 rfl rfl 18 (by decide) (hts (.fieldLink RM 104 "CoverTreesModel" "atRule" "I") (List.mem_cons_of_mem _ wt_462)) (fun _ h9 => h9) rfl (by decide +kernel) rfl rfl (Nat.le_of_ble_eq_true rfl) dM_find_23 (fun H locs hP _ hS => ?_)
  obtain ⟨n_3, en_3⟩ : ∃ z : ctN, z = va_up n_1 8 (f 29 ((8 * p1) + p2).toNatClampNeg) := ⟨_, rfl⟩
  have hw := hw n_3 en_3
  have hP : va_P (dC, dI) vcl (ctW a cA n_3 f) H := by rw [en_3]; exact hP
  obtain ⟨j, hw⟩ := hw
  exact loop_26 j p2 p3 n_3 f _ _ ls hw hP hS (lv_sub hl [2, 1, 0] rfl)
def wp_M_cover_J99 (post : Int32 → ctN → ctF → Prop) (x1 : Int32) (x2 : Int32) (x3 : Int32) (x4 : Int32) (s0 : Int32) (s1 : Int32) (s2 : Int32) (n : ctN) (f : ctF) : Prop := wp_M_refuse (fun (r9 : Int32) (n_10 : ctN) (f_11 : ctF) => (r9 = 0 → (wp_M_find (fun (n_14 : ctN) (f_15 : ctF) => (¬ x4 = 0 → (post (n_14 7) n_14 f_15)) ∧ (x4 = 0 → (post (n_14 8) n_14 f_15))) x1 x2 x3 n_10 f_11)) ∧ (¬ r9 = 0 → (post 0 n_10 f_11))) s2 s1 s0 n f
def wp_M_cover_J98 (post : Int32 → ctN → ctF → Prop) (x1 : Int32) (x2 : Int32) (x3 : Int32) (x4 : Int32) (s0 : Int32) (s1 : Int32) (n : ctN) (f : ctF) : Prop := wp_M_cover_J99 post x1 x2 x3 x4 0 s0 s1 n f
def wp_M_cover_J77 (post : Int32 → ctN → ctF → Prop) (x1 : Int32) (x2 : Int32) (x3 : Int32) (x4 : Int32) (x5 : Int32) (x6 : Int32) (s0 : Int32) (s1 : Int32) (n : ctN) (f : ctF) : Prop := (x5 = 0 → (wp_M_cover_J98 post x1 x2 x3 x4 s0 s1 n f)) ∧ (¬ x5 = 0 → (wp_M_in (fun (r17 : Int32) (n_18 : ctN) (f_19 : ctF) => (¬ r17 = 0 → (wp_M_cover_J98 post x1 x2 x3 x4 s0 s1 n_18 f_19)) ∧ (r17 = 0 → (wp_M_cover_J99 post x1 x2 x3 x4 1 s0 s1 n_18 f_19))) x3 0 (x6 - 1) n f))
def wp_M_cover_J76 (post : Int32 → ctN → ctF → Prop) (x1 : Int32) (x2 : Int32) (x3 : Int32) (x4 : Int32) (x5 : Int32) (x6 : Int32) (s0 : Int32) (n : ctN) (f : ctF) : Prop := wp_M_cover_J77 post x1 x2 x3 x4 x5 x6 0 s0 n f
def wp_M_cover_J59 (post : Int32 → ctN → ctF → Prop) (x1 : Int32) (x2 : Int32) (x3 : Int32) (x4 : Int32) (x5 : Int32) (x6 : Int32) (s0 : Int32) (n : ctN) (f : ctF) : Prop := (x5 = 0 → (wp_M_cover_J76 post x1 x2 x3 x4 x5 x6 s0 n f)) ∧ (¬ x5 = 0 → ((x6 ≤ 2000 → (wp_M_cover_J76 post x1 x2 x3 x4 x5 x6 s0 n f)) ∧ (¬ x6 ≤ 2000 → (wp_M_cover_J77 post x1 x2 x3 x4 x5 x6 1 s0 n f))))
def wp_M_cover_J46 (post : Int32 → ctN → ctF → Prop) (x1 : Int32) (x2 : Int32) (x3 : Int32) (x4 : Int32) (x5 : Int32) (s0 : Int32) (n : ctN) (f : ctF) : Prop := (¬ x5 = 0 → (wp_M_cover_J59 post x1 x2 x3 x4 x5 s0 0 n f)) ∧ (x5 = 0 → (wp_M_cover_J59 post x1 x2 x3 x4 x5 s0 1 n f))
def wp_M_cover_J24 (post : Int32 → ctN → ctF → Prop) (x1 : Int32) (x2 : Int32) (x3 : Int32) (x4 : Int32) (s0 : Int32) (n : ctN) (f : ctF) : Prop := (s0 = 0 → (wp_M_cover_J46 post x1 x2 x3 x4 s0 0 n f)) ∧ (¬ s0 = 0 → (vp_in ((8 * x1) + x2) 960 ∧ (wp_M_cover_J46 post x1 x2 x3 x4 s0 (f 30 ((8 * x1) + x2).toNatClampNeg) n f)))
def wp_M_cover_J23 (post : Int32 → ctN → ctF → Prop) (x1 : Int32) (x2 : Int32) (x3 : Int32) (x4 : Int32) (n : ctN) (f : ctF) : Prop := wp_M_cover_J24 post x1 x2 x3 x4 0 n f
def wp_M_cover (post : Int32 → ctN → ctF → Prop) (p1 : Int32) (p2 : Int32) (p3 : Int32) (p4 : Int32) (n : ctN) (f : ctF) : Prop := wp_M_isAsked (fun (r1 : Int32) (n_2 : ctN) (f_3 : ctF) => (r1 = 0 → (wp_M_cover_J23 post p1 p2 p3 p4 n_2 f_3)) ∧ (¬ r1 = 0 → (wp_M_in (fun (r23 : Int32) (n_24 : ctN) (f_25 : ctF) => (r23 = 0 → (wp_M_cover_J23 post p1 p2 p3 p4 n_24 f_25)) ∧ (¬ r23 = 0 → (wp_M_cover_J24 post p1 p2 p3 p4 1 n_24 f_25))) p4 0 1 n_2 f_3))) p1 p2 n f
set_option maxHeartbeats 4000000 in
set_option maxRecDepth 100000 in
theorem met_M_cover (l : Launch) (dC : Nat → ClassId) (dI : Nat → Nat → Nat) (a : Nat → Nat) (cA : Nat → ClassId) (sa : Nat → Nat) (p1 : Int32) (p2 : Int32) (p3 : Int32) (p4 : Int32) (n : ctN) (f : ctF) (sz : Nat) {post : Int32 → ctN → ctF → Prop} (hw : wp_M_cover post p1 p2 p3 p4 n f) : Met l yM_cover wsM_cover ({ frames := 3, cells := 0, slots := 0, locals := 65 } : Room) (ct_Pc dC dI a cA sa [.ref (a 18), .int p1, .int p2, .int p3, .int p4] n f sz) (va_Qi (fun (r : Int32) (u : ctN × ctF) => post r u.1 u.2) (ct_B dC dI a cA) (va_A (ctW a cA n f) sz)) 0 0 (va_A (ctW a cA n f) sz) := by
  refine Met.ofW (cc := cM_cover) (maxL := 7) (ret := (some .int)) (by decide) rfl ?_
  intro p e s m args below meth c s₁ B hml hv
  obtain ⟨rfl, hsz, hP, hK, hD0, hZ⟩ := hv
  have hx := B.exec
  have hb := B.bytes
  have hr := B.returns
  have hts := atoms_spec (ws := wsM_cover) B.pre
  have hown : s.vm.findClass RM = some m.cls := findClass_of_methodNamed B.named
  have hlocks := B.notSynchronized
  subst hsz
  have hD := hD0.self (sz := s.heap.size)
  generalize hAe : va_A (ctW a cA n f) s.heap.size = A at hD hZ ⊢
  have hDa : ∀ (n : ctN) (f : ctF), va_D A (ctW a cA n f) := fun _ _ => ct_D hD
  have hA : ∀ q : Nat, s.heap.size ≤ q → A q := fun q h => by rw [← hAe]; exact Or.inr h
  have hS : va_S A s.heap s.heap [] := va_S.rf
  have hl := lv_entry ([.ref (a 18), .int p1, .int p2, .int p3, .int p4]) (n := 7) (Nat.le_of_ble_eq_true rfl)
  rw [lg_entry_eq]
  generalize (lg_sl ([.ref (a 18), .int p1, .int p2, .int p3, .int p4]) ++ List.replicate (7 - (lg_sl ([.ref (a 18), .int p1, .int p2, .int p3, .int p4])).length) Slot.unset).toArray = ls at hl ⊢
  have hl : lv_has ls 7 [(0, .ref (a 18)), (1, .int p1), (2, .int p2), (3, .int p3), (4, .int p4)] := hl
  unfold wp_M_cover at hw
  have join_99 : ∀ (x1 x2 x3 x4 s0 s1 s2 : Int32) (n : ctN) (f : ctF) (H : Heap) (locs : List Loc) (ls : Array Slot), wp_M_cover_J99 post x1 x2 x3 x4 s0 s1 s2 n f → va_P (dC, dI) vcl (ctW a cA n f) H → va_S A s.heap H locs → lv_has ls 7 [(0, .ref (a 18)), (1, .int x1), (2, .int x2), (3, .int x3), (4, .int x4)] → W p l e (headSpec wsM_cover ({ frames := 3, cells := 0, slots := 0, locals := 65 } : Room)).room s m (([.ref (a 18), .int p1, .int p2, .int p3, .int p4] : List Value).toArray) below meth c H locs 0 0 (MQ below (va_Qi (fun (r : Int32) (u : ctN × ctF) => post r u.1 u.2) (ct_B dC dI a cA) A) (([.ref (a 18), .int p1, .int p2, .int p3, .int p4] : List Value).toArray) s 0 0 A) (F0 m 99 ls [.int s0, .int s1, .int s2, .ref (a 18)]) := by
    intro x1 x2 x3 x4 s0 s1 s2 n f H locs ls hw hP hS hl
    unfold wp_M_cover_J99 at hw
    refine ct_i (va_runV (As := [.int s2, .int s1, .int s0]) (rest := []) ⟨hx, hb, hml, hown, hts⟩ (met_M_refuse l dC dI a cA sa s2 s1 s0 n f _ hw) (cwV 3 hts (wb_V wt_521 wt_523 wt_14 wt_30 wt_524) rfl rfl rfl (by decide +kernel) ⟨Nat.le_of_ble_eq_true rfl, Nat.le_of_ble_eq_true rfl⟩) (ct_preV hK hP (hDa _ _) hZ hS hA (va_recv hK hP (ci := 3) (q0 := 18) rfl rfl)) rfl rfl hl.1 rfl (lv_room (Nat.le_of_ble_eq_true rfl)) dM_cover_99 ⟨Nat.le_of_ble_eq_true rfl, Nat.le_of_ble_eq_true rfl⟩) (hDa _ _) hS hA (fun r9 n_10 f_11 H locs hw hP hS => ?_)
    refine lv_if_eq (tgt := 107) hx hb dM_cover_102 (by decide) (fun c12 => ?_) (fun c12 => ?_)
    · have hw := hw.1 c12
      refine lv_aload_n hx hb dM_cover_107 rfl (lv_at hl 0 rfl) ?_
      refine lv_iload_n hx hb dM_cover_108 rfl (lv_at hl 1 rfl) ?_
      refine lv_iload_n hx hb dM_cover_109 rfl (lv_at hl 2 rfl) ?_
      refine lv_iload_n hx hb dM_cover_110 rfl (lv_at hl 3 rfl) ?_
      refine ct_v (va_runV (As := [.int x1, .int x2, .int x3]) (rest := []) ⟨hx, hb, hml, hown, hts⟩ (met_M_find l dC dI a cA sa x1 x2 x3 n_10 f_11 _ hw) (cwV 3 hts (wb_V wt_585 wt_587 wt_22 wt_30 wt_588) rfl rfl rfl (by decide +kernel) ⟨Nat.le_of_ble_eq_true rfl, Nat.le_of_ble_eq_true rfl⟩) (ct_preV hK hP (hDa _ _) hZ hS hA (va_recv hK hP (ci := 3) (q0 := 18) rfl rfl)) rfl rfl hl.1 rfl (lv_room (Nat.le_of_ble_eq_true rfl)) dM_cover_111 ⟨Nat.le_of_ble_eq_true rfl, Nat.le_of_ble_eq_true rfl⟩) (hDa _ _) hS hA (fun n_14 f_15 H locs hw hP hS => ?_)
      refine lv_iload hx hb dM_cover_114 (lv_at hl 4 rfl) ?_
      refine lv_if_ne (tgt := 126) hx hb dM_cover_116 (by decide) (fun c16 => ?_) (fun c16 => ?_)
      · have hw := hw.1 c16
        refine lv_aload_n hx hb dM_cover_126 rfl (lv_at hl 0 rfl) ?_
        refine va_get (D := (dC, dI)) (ci := 3) (v := .int (n_14 7)) (C := RM) (T := TM) (N := 19) hx hb hts (fun w h => List.mem_cons_of_mem _ (inM w h)) hown hK hP 18 rfl rfl 17 (by decide) (hts (.fieldLink RM 101 "CoverTreesModel" "atNode" "I") (List.mem_cons_of_mem _ wt_461)) (fun _ h9 => h9) rfl dM_cover_127 ?_
        exact W.iret (v := (n_14 7)) hx hb hr (fun t ht hW => ⟨⟨(n_14 7), (n_14, f_15), rfl, hw, ct_mkB ht hP⟩, hS.F ht⟩) hS.2.2 dM_cover_130
      · have hw := hw.2 c16
        refine lv_aload_n hx hb dM_cover_119 rfl (lv_at hl 0 rfl) ?_
        refine va_get (D := (dC, dI)) (ci := 3) (v := .int (n_14 8)) (C := RM) (T := TM) (N := 19) hx hb hts (fun w h => List.mem_cons_of_mem _ (inM w h)) hown hK hP 18 rfl rfl 18 (by decide) (hts (.fieldLink RM 104 "CoverTreesModel" "atRule" "I") (List.mem_cons_of_mem _ wt_462)) (fun _ h9 => h9) rfl dM_cover_120 ?_
        refine lv_goto (tgt := 130) hx hb dM_cover_123 (by decide) ?_
        exact W.iret (v := (n_14 8)) hx hb hr (fun t ht hW => ⟨⟨(n_14 8), (n_14, f_15), rfl, hw, ct_mkB ht hP⟩, hS.F ht⟩) hS.2.2 dM_cover_130
    · have hw := hw.2 c12
      refine lv_iconst (v := 0) hx hb dM_cover_105 (by decide) ?_
      exact W.iret (v := 0) hx hb hr (fun t ht hW => ⟨⟨0, (n_10, f_11), rfl, hw, ct_mkB ht hP⟩, hS.F ht⟩) hS.2.2 dM_cover_106
  have join_98 : ∀ (x1 x2 x3 x4 s0 s1 : Int32) (n : ctN) (f : ctF) (H : Heap) (locs : List Loc) (ls : Array Slot), wp_M_cover_J98 post x1 x2 x3 x4 s0 s1 n f → va_P (dC, dI) vcl (ctW a cA n f) H → va_S A s.heap H locs → lv_has ls 7 [(0, .ref (a 18)), (1, .int x1), (2, .int x2), (3, .int x3), (4, .int x4)] → W p l e (headSpec wsM_cover ({ frames := 3, cells := 0, slots := 0, locals := 65 } : Room)).room s m (([.ref (a 18), .int p1, .int p2, .int p3, .int p4] : List Value).toArray) below meth c H locs 0 0 (MQ below (va_Qi (fun (r : Int32) (u : ctN × ctF) => post r u.1 u.2) (ct_B dC dI a cA) A) (([.ref (a 18), .int p1, .int p2, .int p3, .int p4] : List Value).toArray) s 0 0 A) (F0 m 98 ls [.int s0, .int s1, .ref (a 18)]) := by
    intro x1 x2 x3 x4 s0 s1 n f H locs ls hw hP hS hl
    unfold wp_M_cover_J98 at hw
    refine lv_iconst (v := 0) hx hb dM_cover_98 (by decide) ?_
    exact join_99 x1 x2 x3 x4 0 s0 s1 n f _ _ ls hw hP hS (lv_sub hl [0, 1, 2, 3, 4] rfl)
  have join_77 : ∀ (x1 x2 x3 x4 x5 x6 s0 s1 : Int32) (n : ctN) (f : ctF) (H : Heap) (locs : List Loc) (ls : Array Slot), wp_M_cover_J77 post x1 x2 x3 x4 x5 x6 s0 s1 n f → va_P (dC, dI) vcl (ctW a cA n f) H → va_S A s.heap H locs → lv_has ls 7 [(0, .ref (a 18)), (1, .int x1), (2, .int x2), (3, .int x3), (4, .int x4), (5, .int x5), (6, .int x6)] → W p l e (headSpec wsM_cover ({ frames := 3, cells := 0, slots := 0, locals := 65 } : Room)).room s m (([.ref (a 18), .int p1, .int p2, .int p3, .int p4] : List Value).toArray) below meth c H locs 0 0 (MQ below (va_Qi (fun (r : Int32) (u : ctN × ctF) => post r u.1 u.2) (ct_B dC dI a cA) A) (([.ref (a 18), .int p1, .int p2, .int p3, .int p4] : List Value).toArray) s 0 0 A) (F0 m 77 ls [.int s0, .int s1, .ref (a 18)]) := by
    intro x1 x2 x3 x4 x5 x6 s0 s1 n f H locs ls hw hP hS hl
    unfold wp_M_cover_J77 at hw
    refine lv_iload hx hb dM_cover_77 (lv_at hl 5 rfl) ?_
    refine lv_if_eq (tgt := 98) hx hb dM_cover_79 (by decide) (fun c8 => ?_) (fun c8 => ?_)
    · have hw := hw.1 c8
      exact join_98 x1 x2 x3 x4 s0 s1 n f _ _ ls hw hP hS (lv_sub hl [0, 1, 2, 3, 4] rfl)
    · have hw := hw.2 c8
      refine lv_iload_n hx hb dM_cover_82 rfl (lv_at hl 3 rfl) ?_
      refine lv_iconst (v := 0) hx hb dM_cover_83 (by decide) ?_
      refine lv_iload hx hb dM_cover_84 (lv_at hl 6 rfl) ?_
      refine lv_iconst (v := 1) hx hb dM_cover_86 (by decide) ?_
      refine lv_isub hx hb dM_cover_87 ?_
      refine ct_i (va_runS (As := [.int x3, .int 0, .int (x6 - 1)]) (rest := [.int s0, .int s1, .ref (a 18)]) ⟨hx, hb, hml, hown, hts⟩ (met_M_in l dC dI a cA sa x3 0 (x6 - 1) n f _ hw) (cwS 3 hts (wb_S wt_518 wt_519 wt_30 wt_520) rfl rfl rfl (by decide +kernel) ⟨Nat.le_of_ble_eq_true rfl, Nat.le_of_ble_eq_true rfl⟩) (ct_pre hK hP (hDa _ _) hZ hS hA) rfl rfl hl.1 rfl (lv_room (Nat.le_of_ble_eq_true rfl)) dM_cover_88 ⟨Nat.le_of_ble_eq_true rfl, Nat.le_of_ble_eq_true rfl⟩) (hDa _ _) hS hA (fun r17 n_18 f_19 H locs hw hP hS => ?_)
      refine lv_if_ne (tgt := 98) hx hb dM_cover_91 (by decide) (fun c20 => ?_) (fun c20 => ?_)
      · have hw := hw.1 c20
        exact join_98 x1 x2 x3 x4 s0 s1 n_18 f_19 _ _ ls hw hP hS (lv_sub hl [0, 1, 2, 3, 4] rfl)
      · have hw := hw.2 c20
        refine lv_iconst (v := 1) hx hb dM_cover_94 (by decide) ?_
        refine lv_goto (tgt := 99) hx hb dM_cover_95 (by decide) ?_
        exact join_99 x1 x2 x3 x4 1 s0 s1 n_18 f_19 _ _ ls hw hP hS (lv_sub hl [0, 1, 2, 3, 4] rfl)
  have join_76 : ∀ (x1 x2 x3 x4 x5 x6 s0 : Int32) (n : ctN) (f : ctF) (H : Heap) (locs : List Loc) (ls : Array Slot), wp_M_cover_J76 post x1 x2 x3 x4 x5 x6 s0 n f → va_P (dC, dI) vcl (ctW a cA n f) H → va_S A s.heap H locs → lv_has ls 7 [(0, .ref (a 18)), (1, .int x1), (2, .int x2), (3, .int x3), (4, .int x4), (5, .int x5), (6, .int x6)] → W p l e (headSpec wsM_cover ({ frames := 3, cells := 0, slots := 0, locals := 65 } : Room)).room s m (([.ref (a 18), .int p1, .int p2, .int p3, .int p4] : List Value).toArray) below meth c H locs 0 0 (MQ below (va_Qi (fun (r : Int32) (u : ctN × ctF) => post r u.1 u.2) (ct_B dC dI a cA) A) (([.ref (a 18), .int p1, .int p2, .int p3, .int p4] : List Value).toArray) s 0 0 A) (F0 m 76 ls [.int s0, .ref (a 18)]) := by
    intro x1 x2 x3 x4 x5 x6 s0 n f H locs ls hw hP hS hl
    unfold wp_M_cover_J76 at hw
    refine lv_iconst (v := 0) hx hb dM_cover_76 (by decide) ?_
    exact join_77 x1 x2 x3 x4 x5 x6 0 s0 n f _ _ ls hw hP hS (lv_sub hl [0, 1, 2, 3, 4, 5, 6] rfl)
  have join_59 : ∀ (x1 x2 x3 x4 x5 x6 s0 : Int32) (n : ctN) (f : ctF) (H : Heap) (locs : List Loc) (ls : Array Slot), wp_M_cover_J59 post x1 x2 x3 x4 x5 x6 s0 n f → va_P (dC, dI) vcl (ctW a cA n f) H → va_S A s.heap H locs → lv_has ls 7 [(0, .ref (a 18)), (1, .int x1), (2, .int x2), (3, .int x3), (4, .int x4), (5, .int x5), (6, .int x6)] → W p l e (headSpec wsM_cover ({ frames := 3, cells := 0, slots := 0, locals := 65 } : Room)).room s m (([.ref (a 18), .int p1, .int p2, .int p3, .int p4] : List Value).toArray) below meth c H locs 0 0 (MQ below (va_Qi (fun (r : Int32) (u : ctN × ctF) => post r u.1 u.2) (ct_B dC dI a cA) A) (([.ref (a 18), .int p1, .int p2, .int p3, .int p4] : List Value).toArray) s 0 0 A) (F0 m 59 ls [.int s0, .ref (a 18)]) := by
    intro x1 x2 x3 x4 x5 x6 s0 n f H locs ls hw hP hS hl
    unfold wp_M_cover_J59 at hw
    refine lv_iload hx hb dM_cover_59 (lv_at hl 5 rfl) ?_
    refine lv_if_eq (tgt := 76) hx hb dM_cover_61 (by decide) (fun c7 => ?_) (fun c7 => ?_)
    · have hw := hw.1 c7
      exact join_76 x1 x2 x3 x4 x5 x6 s0 n f _ _ ls hw hP hS (lv_sub hl [0, 1, 2, 3, 4, 5, 6] rfl)
    · have hw := hw.2 c7
      refine lv_iload hx hb dM_cover_64 (lv_at hl 6 rfl) ?_
      refine lv_sipush (v := 2000) hx hb dM_cover_66 (by decide) ?_
      refine lv_icmp_le (tgt := 76) hx hb dM_cover_69 (by decide) (fun c21 => ?_) (fun c21 => ?_)
      · have hw := hw.1 c21
        exact join_76 x1 x2 x3 x4 x5 x6 s0 n f _ _ ls hw hP hS (lv_sub hl [0, 1, 2, 3, 4, 5, 6] rfl)
      · have hw := hw.2 c21
        refine lv_iconst (v := 1) hx hb dM_cover_72 (by decide) ?_
        refine lv_goto (tgt := 77) hx hb dM_cover_73 (by decide) ?_
        exact join_77 x1 x2 x3 x4 x5 x6 1 s0 n f _ _ ls hw hP hS (lv_sub hl [0, 1, 2, 3, 4, 5, 6] rfl)
  have join_46 : ∀ (x1 x2 x3 x4 x5 s0 : Int32) (n : ctN) (f : ctF) (H : Heap) (locs : List Loc) (ls : Array Slot), wp_M_cover_J46 post x1 x2 x3 x4 x5 s0 n f → va_P (dC, dI) vcl (ctW a cA n f) H → va_S A s.heap H locs → lv_has ls 7 [(0, .ref (a 18)), (1, .int x1), (2, .int x2), (3, .int x3), (4, .int x4), (5, .int x5)] → W p l e (headSpec wsM_cover ({ frames := 3, cells := 0, slots := 0, locals := 65 } : Room)).room s m (([.ref (a 18), .int p1, .int p2, .int p3, .int p4] : List Value).toArray) below meth c H locs 0 0 (MQ below (va_Qi (fun (r : Int32) (u : ctN × ctF) => post r u.1 u.2) (ct_B dC dI a cA) A) (([.ref (a 18), .int p1, .int p2, .int p3, .int p4] : List Value).toArray) s 0 0 A) (F0 m 46 ls [.int s0]) := by
    intro x1 x2 x3 x4 x5 s0 n f H locs ls hw hP hS hl
    unfold wp_M_cover_J46 at hw
    refine lv_istore (lv' := [(6, .int s0), (0, .ref (a 18)), (1, .int x1), (2, .int x2), (3, .int x3), (4, .int x4), (5, .int x5)]) hx hb dM_cover_46 hl (by decide) rfl (fun ls hl => ?_)
    refine lv_aload_n hx hb dM_cover_48 rfl (lv_at hl 1 rfl) ?_
    refine lv_iload hx hb dM_cover_49 (lv_at hl 6 rfl) ?_
    refine lv_if_ne (tgt := 58) hx hb dM_cover_51 (by decide) (fun c6 => ?_) (fun c6 => ?_)
    · have hw := hw.1 c6
      refine lv_iconst (v := 0) hx hb dM_cover_58 (by decide) ?_
      exact join_59 x1 x2 x3 x4 x5 s0 0 n f _ _ ls hw hP hS (lv_sub hl [1, 2, 3, 4, 5, 6, 0] rfl)
    · have hw := hw.2 c6
      refine lv_iconst (v := 1) hx hb dM_cover_54 (by decide) ?_
      refine lv_goto (tgt := 59) hx hb dM_cover_55 (by decide) ?_
      exact join_59 x1 x2 x3 x4 x5 s0 1 n f _ _ ls hw hP hS (lv_sub hl [1, 2, 3, 4, 5, 6, 0] rfl)
  have join_24 : ∀ (x1 x2 x3 x4 s0 : Int32) (n : ctN) (f : ctF) (H : Heap) (locs : List Loc) (ls : Array Slot), wp_M_cover_J24 post x1 x2 x3 x4 s0 n f → va_P (dC, dI) vcl (ctW a cA n f) H → va_S A s.heap H locs → lv_has ls 7 [(0, .ref (a 18)), (1, .int x1), (2, .int x2), (3, .int x3), (4, .int x4)] → W p l e (headSpec wsM_cover ({ frames := 3, cells := 0, slots := 0, locals := 65 } : Room)).room s m (([.ref (a 18), .int p1, .int p2, .int p3, .int p4] : List Value).toArray) below meth c H locs 0 0 (MQ below (va_Qi (fun (r : Int32) (u : ctN × ctF) => post r u.1 u.2) (ct_B dC dI a cA) A) (([.ref (a 18), .int p1, .int p2, .int p3, .int p4] : List Value).toArray) s 0 0 A) (F0 m 24 ls [.int s0]) := by
    intro x1 x2 x3 x4 s0 n f H locs ls hw hP hS hl
    unfold wp_M_cover_J24 at hw
    refine lv_istore (lv' := [(5, .int s0), (0, .ref (a 18)), (1, .int x1), (2, .int x2), (3, .int x3), (4, .int x4)]) hx hb dM_cover_24 hl (by decide) rfl (fun ls hl => ?_)
    refine lv_iload hx hb dM_cover_26 (lv_at hl 0 rfl) ?_
    refine lv_if_eq (tgt := 45) hx hb dM_cover_28 (by decide) (fun c5 => ?_) (fun c5 => ?_)
    · have hw := hw.1 c5
      refine lv_iconst (v := 0) hx hb dM_cover_45 (by decide) ?_
      exact join_46 x1 x2 x3 x4 s0 0 n f _ _ ls hw hP hS (lv_sub hl [1, 2, 3, 4, 5, 0] rfl)
    · have hw := hw.2 c5
      refine lv_aload_n hx hb dM_cover_31 rfl (lv_at hl 1 rfl) ?_
      refine va_get (D := (dC, dI)) (ci := 3) (v := .ref (a 30)) (C := RM) (T := TM) (N := 19) hx hb hts (fun w h => List.mem_cons_of_mem _ (inM w h)) hown hK hP 18 rfl rfl 15 (by decide) (hts (.fieldLink RM 43 "CoverTreesModel" "sizes" "[I") (List.mem_cons_of_mem _ wt_459)) (fun _ h9 => h9) rfl dM_cover_32 ?_
      refine lv_bipush (v := 8) hx hb dM_cover_35 (by decide) ?_
      refine lv_iload_n hx hb dM_cover_37 rfl (lv_at hl 2 rfl) ?_
      refine lv_imul hx hb dM_cover_38 ?_
      refine lv_iload_n hx hb dM_cover_39 rfl (lv_at hl 3 rfl) ?_
      refine lv_iadd hx hb dM_cover_40 ?_
      obtain ⟨hi22, hw⟩ := hw
      refine va_iald hx hb hK hP 30 26 rfl rfl hi22 dM_cover_41 ?_
      refine lv_goto (tgt := 46) hx hb dM_cover_42 (by decide) ?_
      exact join_46 x1 x2 x3 x4 s0 (f 30 ((8 * x1) + x2).toNatClampNeg) n f _ _ ls hw hP hS (lv_sub hl [1, 2, 3, 4, 5, 0] rfl)
  have join_23 : ∀ (x1 x2 x3 x4 : Int32) (n : ctN) (f : ctF) (H : Heap) (locs : List Loc) (ls : Array Slot), wp_M_cover_J23 post x1 x2 x3 x4 n f → va_P (dC, dI) vcl (ctW a cA n f) H → va_S A s.heap H locs → lv_has ls 7 [(0, .ref (a 18)), (1, .int x1), (2, .int x2), (3, .int x3), (4, .int x4)] → W p l e (headSpec wsM_cover ({ frames := 3, cells := 0, slots := 0, locals := 65 } : Room)).room s m (([.ref (a 18), .int p1, .int p2, .int p3, .int p4] : List Value).toArray) below meth c H locs 0 0 (MQ below (va_Qi (fun (r : Int32) (u : ctN × ctF) => post r u.1 u.2) (ct_B dC dI a cA) A) (([.ref (a 18), .int p1, .int p2, .int p3, .int p4] : List Value).toArray) s 0 0 A) (F0 m 23 ls []) := by
    intro x1 x2 x3 x4 n f H locs ls hw hP hS hl
    unfold wp_M_cover_J23 at hw
    refine lv_iconst (v := 0) hx hb dM_cover_23 (by decide) ?_
    exact join_24 x1 x2 x3 x4 0 n f _ _ ls hw hP hS (lv_sub hl [0, 1, 2, 3, 4] rfl)
  refine lv_aload_n hx hb dM_cover_0 rfl (lv_at hl 0 rfl) ?_
  refine lv_iload_n hx hb dM_cover_1 rfl (lv_at hl 1 rfl) ?_
  refine lv_iload_n hx hb dM_cover_2 rfl (lv_at hl 2 rfl) ?_
  refine ct_i (va_runV (As := [.int p1, .int p2]) (rest := []) ⟨hx, hb, hml, hown, hts⟩ (met_M_isAsked l dC dI a cA sa p1 p2 n f _ hw) (cwV 2 hts (wb_V wt_569 wt_571 wt_21 wt_30 wt_572) rfl rfl rfl (by decide +kernel) ⟨Nat.le_of_ble_eq_true rfl, Nat.le_of_ble_eq_true rfl⟩) (ct_preV hK hP (hDa _ _) hZ hS hA (va_recv hK hP (ci := 3) (q0 := 18) rfl rfl)) rfl rfl hl.1 rfl (lv_room (Nat.le_of_ble_eq_true rfl)) dM_cover_3 ⟨Nat.le_of_ble_eq_true rfl, Nat.le_of_ble_eq_true rfl⟩) (hDa _ _) hS hA (fun r1 n_2 f_3 H locs hw hP hS => ?_)
  refine lv_if_eq (tgt := 23) hx hb dM_cover_6 (by decide) (fun c4 => ?_) (fun c4 => ?_)
  · have hw := hw.1 c4
    exact join_23 p1 p2 p3 p4 n_2 f_3 _ _ ls hw hP hS (lv_sub hl [0, 1, 2, 3, 4] rfl)
  · have hw := hw.2 c4
    refine lv_iload hx hb dM_cover_9 (lv_at hl 4 rfl) ?_
    refine lv_iconst (v := 0) hx hb dM_cover_11 (by decide) ?_
    refine lv_iconst (v := 1) hx hb dM_cover_12 (by decide) ?_
    refine ct_i (va_runS (As := [.int p4, .int 0, .int 1]) (rest := []) ⟨hx, hb, hml, hown, hts⟩ (met_M_in l dC dI a cA sa p4 0 1 n_2 f_3 _ hw) (cwS 3 hts (wb_S wt_518 wt_519 wt_30 wt_520) rfl rfl rfl (by decide +kernel) ⟨Nat.le_of_ble_eq_true rfl, Nat.le_of_ble_eq_true rfl⟩) (ct_pre hK hP (hDa _ _) hZ hS hA) rfl rfl hl.1 rfl (lv_room (Nat.le_of_ble_eq_true rfl)) dM_cover_13 ⟨Nat.le_of_ble_eq_true rfl, Nat.le_of_ble_eq_true rfl⟩) (hDa _ _) hS hA (fun r23 n_24 f_25 H locs hw hP hS => ?_)
    refine lv_if_eq (tgt := 23) hx hb dM_cover_16 (by decide) (fun c26 => ?_) (fun c26 => ?_)
    · have hw := hw.1 c26
      exact join_23 p1 p2 p3 p4 n_24 f_25 _ _ ls hw hP hS (lv_sub hl [0, 1, 2, 3, 4] rfl)
    · have hw := hw.2 c26
      refine lv_iconst (v := 1) hx hb dM_cover_19 (by decide) ?_
      refine lv_goto (tgt := 24) hx hb dM_cover_20 (by decide) ?_
      exact join_24 p1 p2 p3 p4 1 n_24 f_25 _ _ ls hw hP hS (lv_sub hl [0, 1, 2, 3, 4] rfl)
def wp_M_leastCost_L4 (post : Int32 → ctN → ctF → Prop) : Nat → Int32 → Int32 → Int32 → ctN → ctF → Prop
  | 0, _, _, _, _, _ => False
  | k + 1, x1, x2, x3, n, f => (8 ≤ x3 → (post x2 n f)) ∧ (¬ 8 ≤ x3 → (vp_in ((8 * x1) + x3) 960 ∧ (∀ x4_3 : Int32, x4_3 = (f 28 ((8 * x1) + x3).toNatClampNeg) → ((x4_3 < 0 → (∀ x3_5 : Int32, x3_5 = x3 + 1 → (wp_M_leastCost_L4 post k x1 x2 x3_5 n f))) ∧ (¬ x4_3 < 0 → ((x2 < 0 → (∀ x3_7 : Int32, x3_7 = x3 + 1 → (wp_M_leastCost_L4 post k x1 x4_3 x3_7 n f))) ∧ (¬ x2 < 0 → ((x2 ≤ x4_3 → (∀ x3_9 : Int32, x3_9 = x3 + 1 → (wp_M_leastCost_L4 post k x1 x2 x3_9 n f))) ∧ (¬ x2 ≤ x4_3 → (∀ x3_10 : Int32, x3_10 = x3 + 1 → (wp_M_leastCost_L4 post k x1 x4_3 x3_10 n f)))))))))))
def wp_M_leastCost (post : Int32 → ctN → ctF → Prop) (p1 : Int32) (n : ctN) (f : ctF) : Prop := ∃ j, wp_M_leastCost_L4 post j p1 (-1) 0 n f
set_option maxHeartbeats 4000000 in
set_option maxRecDepth 100000 in
theorem met_M_leastCost (l : Launch) (dC : Nat → ClassId) (dI : Nat → Nat → Nat) (a : Nat → Nat) (cA : Nat → ClassId) (sa : Nat → Nat) (p1 : Int32) (n : ctN) (f : ctF) (sz : Nat) {post : Int32 → ctN → ctF → Prop} (hw : wp_M_leastCost post p1 n f) : Met l yM_leastCost wsM_leastCost ({ frames := 0, cells := 0, slots := 0, locals := 0 } : Room) (ct_Pc dC dI a cA sa [.ref (a 18), .int p1] n f sz) (va_Qi (fun (r : Int32) (u : ctN × ctF) => post r u.1 u.2) (ct_B dC dI a cA) (va_A (ctW a cA n f) sz)) 0 0 (va_A (ctW a cA n f) sz) := by
  refine Met.ofW (cc := cM_leastCost) (maxL := 5) (ret := (some .int)) (by decide) rfl ?_
  intro p e s m args below meth c s₁ B hml hv
  obtain ⟨rfl, hsz, hP, hK, hD0, hZ⟩ := hv
  have hx := B.exec
  have hb := B.bytes
  have hr := B.returns
  have hts := atoms_spec (ws := wsM_leastCost) B.pre
  have hown : s.vm.findClass RM = some m.cls := findClass_of_methodNamed B.named
  have hlocks := B.notSynchronized
  subst hsz
  have hD := hD0.self (sz := s.heap.size)
  generalize hAe : va_A (ctW a cA n f) s.heap.size = A at hD hZ ⊢
  have hDa : ∀ (n : ctN) (f : ctF), va_D A (ctW a cA n f) := fun _ _ => ct_D hD
  have hA : ∀ q : Nat, s.heap.size ≤ q → A q := fun q h => by rw [← hAe]; exact Or.inr h
  have hS : va_S A s.heap s.heap [] := va_S.rf
  have hl := lv_entry ([.ref (a 18), .int p1]) (n := 5) (Nat.le_of_ble_eq_true rfl)
  rw [lg_entry_eq]
  generalize (lg_sl ([.ref (a 18), .int p1]) ++ List.replicate (5 - (lg_sl ([.ref (a 18), .int p1])).length) Slot.unset).toArray = ls at hl ⊢
  have hl : lv_has ls 5 [(0, .ref (a 18)), (1, .int p1)] := hl
  unfold wp_M_leastCost at hw
  have loop_4 : ∀ (k : Nat) (x1 x2 x3 : Int32) (n : ctN) (f : ctF) (H : Heap) (locs : List Loc) (ls : Array Slot), wp_M_leastCost_L4 post k x1 x2 x3 n f → va_P (dC, dI) vcl (ctW a cA n f) H → va_S A s.heap H locs → lv_has ls 5 [(0, .ref (a 18)), (1, .int x1), (2, .int x2), (3, .int x3)] → W p l e (headSpec wsM_leastCost ({ frames := 0, cells := 0, slots := 0, locals := 0 } : Room)).room s m (([.ref (a 18), .int p1] : List Value).toArray) below meth c H locs 0 0 (MQ below (va_Qi (fun (r : Int32) (u : ctN × ctF) => post r u.1 u.2) (ct_B dC dI a cA) A) (([.ref (a 18), .int p1] : List Value).toArray) s 0 0 A) (F0 m 4 ls []) := by
    intro k
    induction k with
    | zero => intro x1 x2 x3 n f H locs ls hw; exact hw.elim
    | succ k ih =>
      intro x1 x2 x3 n f H locs ls hw hP hS hl
      rw [wp_M_leastCost_L4] at hw
      refine lv_iload_n hx hb dM_leastCost_4 rfl (lv_at hl 3 rfl) ?_
      refine lv_bipush (v := 8) hx hb dM_leastCost_5 (by decide) ?_
      refine lv_icmp_ge (tgt := 51) hx hb dM_leastCost_7 (by decide) (fun c1 => ?_) (fun c1 => ?_)
      · have hw := hw.1 c1
        refine lv_iload_n hx hb dM_leastCost_51 rfl (lv_at hl 2 rfl) ?_
        exact W.iret (v := x2) hx hb hr (fun t ht hW => ⟨⟨x2, (n, f), rfl, hw, ct_mkB ht hP⟩, hS.F ht⟩) hS.2.2 dM_leastCost_52
      · have hw := hw.2 c1
        refine lv_aload_n hx hb dM_leastCost_10 rfl (lv_at hl 0 rfl) ?_
        refine va_get (D := (dC, dI)) (ci := 3) (v := .ref (a 28)) (C := RM) (T := TM) (N := 19) hx hb hts (fun w h => List.mem_cons_of_mem _ (inM w h)) hown hK hP 18 rfl rfl 13 (by decide) (hts (.fieldLink RM 37 "CoverTreesModel" "costs" "[I") (List.mem_cons_of_mem _ wt_457)) (fun _ h9 => h9) rfl dM_leastCost_11 ?_
        refine lv_bipush (v := 8) hx hb dM_leastCost_14 (by decide) ?_
        refine lv_iload_n hx hb dM_leastCost_16 rfl (lv_at hl 1 rfl) ?_
        refine lv_imul hx hb dM_leastCost_17 ?_
        refine lv_iload_n hx hb dM_leastCost_18 rfl (lv_at hl 3 rfl) ?_
        refine lv_iadd hx hb dM_leastCost_19 ?_
        obtain ⟨hi2, hw⟩ := hw
        refine va_iald hx hb hK hP 28 24 rfl rfl hi2 dM_leastCost_20 ?_
        refine lv_topi (fun x4_3 ex4_3 => ?_)
        have hw := hw x4_3 ex4_3
        refine lv_istore (lv' := [(4, .int x4_3), (0, .ref (a 18)), (1, .int x1), (2, .int x2), (3, .int x3)]) hx hb dM_leastCost_21 hl (by decide) rfl (fun ls hl => ?_)
        refine lv_iload hx hb dM_leastCost_23 (lv_at hl 0 rfl) ?_
        refine lv_if_lt (tgt := 43) hx hb dM_leastCost_25 (by decide) (fun c4 => ?_) (fun c4 => ?_)
        · have hw := hw.1 c4
          refine lv_iload_n hx hb dM_leastCost_43 rfl (lv_at hl 3 rfl) ?_
          refine lv_istore_n (lv' := [(2, .int x2), (4, .int x4_3), (0, .ref (a 18)), (1, .int x1), (3, .int x3)]) hx hb dM_leastCost_44 rfl hl (by decide) rfl (fun ls hl => ?_)
          obtain ⟨x3_5, ex3_5⟩ : ∃ y : Int32, y = x3 + 1 := ⟨_, rfl⟩
          have hw := hw x3_5 ex3_5
          refine lv_iinc (v := x3_5) (lv' := [(3, .int x3_5), (2, .int x2), (4, .int x4_3), (0, .ref (a 18)), (1, .int x1)]) hx hb dM_leastCost_45 hl (k := 4) rfl (by rw [ex3_5]; rfl) (by decide) rfl (fun ls hl => ?_)
          refine lv_goto (tgt := 4) hx hb dM_leastCost_48 (by decide) ?_
          exact ih x1 x2 x3_5 n f _ _ ls hw hP hS (lv_sub hl [3, 4, 1, 0] rfl)
        · have hw := hw.2 c4
          refine lv_iload_n hx hb dM_leastCost_28 rfl (lv_at hl 3 rfl) ?_
          refine lv_if_lt (tgt := 38) hx hb dM_leastCost_29 (by decide) (fun c6 => ?_) (fun c6 => ?_)
          · have hw := hw.1 c6
            refine lv_iload hx hb dM_leastCost_38 (lv_at hl 0 rfl) ?_
            refine lv_goto (tgt := 44) hx hb dM_leastCost_40 (by decide) ?_
            refine lv_istore_n (lv' := [(2, .int x4_3), (4, .int x4_3), (0, .ref (a 18)), (1, .int x1), (3, .int x3)]) hx hb dM_leastCost_44 rfl hl (by decide) rfl (fun ls hl => ?_)
            obtain ⟨x3_7, ex3_7⟩ : ∃ y : Int32, y = x3 + 1 := ⟨_, rfl⟩
            have hw := hw x3_7 ex3_7
            refine lv_iinc (v := x3_7) (lv' := [(3, .int x3_7), (2, .int x4_3), (4, .int x4_3), (0, .ref (a 18)), (1, .int x1)]) hx hb dM_leastCost_45 hl (k := 4) rfl (by rw [ex3_7]; rfl) (by decide) rfl (fun ls hl => ?_)
            refine lv_goto (tgt := 4) hx hb dM_leastCost_48 (by decide) ?_
            exact ih x1 x4_3 x3_7 n f _ _ ls hw hP hS (lv_sub hl [3, 4, 1, 0] rfl)
          · have hw := hw.2 c6
            refine lv_iload hx hb dM_leastCost_32 (lv_at hl 0 rfl) ?_
            refine lv_iload_n hx hb dM_leastCost_34 rfl (lv_at hl 3 rfl) ?_
            refine lv_icmp_ge (tgt := 43) hx hb dM_leastCost_35 (by decide) (fun c8 => ?_) (fun c8 => ?_)
            · have hw := hw.1 c8
              refine lv_iload_n hx hb dM_leastCost_43 rfl (lv_at hl 3 rfl) ?_
              refine lv_istore_n (lv' := [(2, .int x2), (4, .int x4_3), (0, .ref (a 18)), (1, .int x1), (3, .int x3)]) hx hb dM_leastCost_44 rfl hl (by decide) rfl (fun ls hl => ?_)
              obtain ⟨x3_9, ex3_9⟩ : ∃ y : Int32, y = x3 + 1 := ⟨_, rfl⟩
              have hw := hw x3_9 ex3_9
              refine lv_iinc (v := x3_9) (lv' := [(3, .int x3_9), (2, .int x2), (4, .int x4_3), (0, .ref (a 18)), (1, .int x1)]) hx hb dM_leastCost_45 hl (k := 4) rfl (by rw [ex3_9]; rfl) (by decide) rfl (fun ls hl => ?_)
              refine lv_goto (tgt := 4) hx hb dM_leastCost_48 (by decide) ?_
              exact ih x1 x2 x3_9 n f _ _ ls hw hP hS (lv_sub hl [3, 4, 1, 0] rfl)
            · have hw := hw.2 c8
              refine lv_iload hx hb dM_leastCost_38 (lv_at hl 0 rfl) ?_
              refine lv_goto (tgt := 44) hx hb dM_leastCost_40 (by decide) ?_
              refine lv_istore_n (lv' := [(2, .int x4_3), (4, .int x4_3), (0, .ref (a 18)), (1, .int x1), (3, .int x3)]) hx hb dM_leastCost_44 rfl hl (by decide) rfl (fun ls hl => ?_)
              obtain ⟨x3_10, ex3_10⟩ : ∃ y : Int32, y = x3 + 1 := ⟨_, rfl⟩
              have hw := hw x3_10 ex3_10
              refine lv_iinc (v := x3_10) (lv' := [(3, .int x3_10), (2, .int x4_3), (4, .int x4_3), (0, .ref (a 18)), (1, .int x1)]) hx hb dM_leastCost_45 hl (k := 4) rfl (by rw [ex3_10]; rfl) (by decide) rfl (fun ls hl => ?_)
              refine lv_goto (tgt := 4) hx hb dM_leastCost_48 (by decide) ?_
              exact ih x1 x4_3 x3_10 n f _ _ ls hw hP hS (lv_sub hl [3, 4, 1, 0] rfl)
  refine lv_iconst (v := (-1)) hx hb dM_leastCost_0 (by decide) ?_
  refine lv_istore_n (lv' := [(2, .int (-1)), (0, .ref (a 18)), (1, .int p1)]) hx hb dM_leastCost_1 rfl hl (by decide) rfl (fun ls hl => ?_)
  refine lv_iconst (v := 0) hx hb dM_leastCost_2 (by decide) ?_
  refine lv_istore_n (lv' := [(3, .int 0), (2, .int (-1)), (0, .ref (a 18)), (1, .int p1)]) hx hb dM_leastCost_3 rfl hl (by decide) rfl (fun ls hl => ?_)
  obtain ⟨j, hw⟩ := hw
  exact loop_4 j p1 (-1) 0 n f _ _ ls hw hP hS (lv_sub hl [2, 3, 1, 0] rfl)
def wp_M_isAlike_J78 (post : Int32 → ctN → ctF → Prop) (K19 : Int32 → Int32 → Int32 → Int32 → Int32 → Int32 → ctN → ctF → Prop) (x1 : Int32) (x2 : Int32) (x4 : Int32) (x5 : Int32) (x6 : Int32) (x7 : Int32) (x8 : Int32) (s0 : Int32) (s1 : Int32) (n : ctN) (f : ctF) : Prop := (¬ s1 = s0 → (∀ x6_17 : Int32, x6_17 = x6 + 1 → (K19 x1 x2 0 x4 x5 x6_17 n f))) ∧ (s1 = s0 → ((x7 < 0 → (∀ x6_19 : Int32, x6_19 = x6 + 1 → (K19 x1 x2 1 x4 x5 x6_19 n f))) ∧ (¬ x7 < 0 → ((¬ (x7 - x4) = (x8 - x5) → (∀ x6_21 : Int32, x6_21 = x6 + 1 → (K19 x1 x2 0 x4 x5 x6_21 n f))) ∧ ((x7 - x4) = (x8 - x5) → (vp_in ((8 * x1) + x6) 960 ∧ (vp_in ((8 * x2) + x6) 960 ∧ ((¬ (f 29 ((8 * x1) + x6).toNatClampNeg) = (f 29 ((8 * x2) + x6).toNatClampNeg) → (∀ x6_25 : Int32, x6_25 = x6 + 1 → (K19 x1 x2 0 x4 x5 x6_25 n f))) ∧ ((f 29 ((8 * x1) + x6).toNatClampNeg) = (f 29 ((8 * x2) + x6).toNatClampNeg) → (∀ x6_26 : Int32, x6_26 = x6 + 1 → (K19 x1 x2 1 x4 x5 x6_26 n f)))))))))))
def wp_M_isAlike_J68 (post : Int32 → ctN → ctF → Prop) (K19 : Int32 → Int32 → Int32 → Int32 → Int32 → Int32 → ctN → ctF → Prop) (x1 : Int32) (x2 : Int32) (x4 : Int32) (x5 : Int32) (x6 : Int32) (x7 : Int32) (x8 : Int32) (s0 : Int32) (n : ctN) (f : ctF) : Prop := (x8 < 0 → (wp_M_isAlike_J78 post K19 x1 x2 x4 x5 x6 x7 x8 0 s0 n f)) ∧ (¬ x8 < 0 → (wp_M_isAlike_J78 post K19 x1 x2 x4 x5 x6 x7 x8 1 s0 n f))
def wp_M_isAlike_L19 (post : Int32 → ctN → ctF → Prop) : Nat → Int32 → Int32 → Int32 → Int32 → Int32 → Int32 → ctN → ctF → Prop
  | 0, _, _, _, _, _, _, _, _ => False
  | k + 1, x1, x2, x3, x4, x5, x6, n, f => (8 ≤ x6 → (narrow .boolean (.int x3) = .int x3 ∧ (post x3 n f))) ∧ (¬ 8 ≤ x6 → (vp_in ((8 * x1) + x6) 960 ∧ (∀ x7_9 : Int32, x7_9 = (f 28 ((8 * x1) + x6).toNatClampNeg) → (vp_in ((8 * x2) + x6) 960 ∧ (∀ x8_11 : Int32, x8_11 = (f 28 ((8 * x2) + x6).toNatClampNeg) → ((x3 = 0 → (∀ x6_13 : Int32, x6_13 = x6 + 1 → (wp_M_isAlike_L19 post k x1 x2 0 x4 x5 x6_13 n f))) ∧ (¬ x3 = 0 → ((x7_9 < 0 → (wp_M_isAlike_J68 post (wp_M_isAlike_L19 post k) x1 x2 x4 x5 x6 x7_9 x8_11 0 n f)) ∧ (¬ x7_9 < 0 → (wp_M_isAlike_J68 post (wp_M_isAlike_L19 post k) x1 x2 x4 x5 x6 x7_9 x8_11 1 n f))))))))))
def wp_M_isAlike (post : Int32 → ctN → ctF → Prop) (p1 : Int32) (p2 : Int32) (n : ctN) (f : ctF) : Prop := wp_M_leastCost (fun (r1 : Int32) (n_2 : ctN) (f_3 : ctF) => wp_M_leastCost (fun (r4 : Int32) (n_5 : ctN) (f_6 : ctF) => ∃ j, wp_M_isAlike_L19 post j p1 p2 1 r1 r4 0 n_5 f_6) p2 n_2 f_3) p1 n f
set_option maxHeartbeats 4000000 in
set_option maxRecDepth 100000 in
theorem met_M_isAlike (l : Launch) (dC : Nat → ClassId) (dI : Nat → Nat → Nat) (a : Nat → Nat) (cA : Nat → ClassId) (sa : Nat → Nat) (p1 : Int32) (p2 : Int32) (n : ctN) (f : ctF) (sz : Nat) {post : Int32 → ctN → ctF → Prop} (hw : wp_M_isAlike post p1 p2 n f) : Met l yM_isAlike wsM_isAlike ({ frames := 1, cells := 0, slots := 0, locals := 24 } : Room) (ct_Pc dC dI a cA sa [.ref (a 18), .int p1, .int p2] n f sz) (va_Qi (fun (r : Int32) (u : ctN × ctF) => post r u.1 u.2) (ct_B dC dI a cA) (va_A (ctW a cA n f) sz)) 0 0 (va_A (ctW a cA n f) sz) := by
  refine Met.ofW (cc := cM_isAlike) (maxL := 9) (ret := (some .boolean)) (by decide) rfl ?_
  intro p e s m args below meth c s₁ B hml hv
  obtain ⟨rfl, hsz, hP, hK, hD0, hZ⟩ := hv
  have hx := B.exec
  have hb := B.bytes
  have hr := B.returns
  have hts := atoms_spec (ws := wsM_isAlike) B.pre
  have hown : s.vm.findClass RM = some m.cls := findClass_of_methodNamed B.named
  have hlocks := B.notSynchronized
  subst hsz
  have hD := hD0.self (sz := s.heap.size)
  generalize hAe : va_A (ctW a cA n f) s.heap.size = A at hD hZ ⊢
  have hDa : ∀ (n : ctN) (f : ctF), va_D A (ctW a cA n f) := fun _ _ => ct_D hD
  have hA : ∀ q : Nat, s.heap.size ≤ q → A q := fun q h => by rw [← hAe]; exact Or.inr h
  have hS : va_S A s.heap s.heap [] := va_S.rf
  have hl := lv_entry ([.ref (a 18), .int p1, .int p2]) (n := 9) (Nat.le_of_ble_eq_true rfl)
  rw [lg_entry_eq]
  generalize (lg_sl ([.ref (a 18), .int p1, .int p2]) ++ List.replicate (9 - (lg_sl ([.ref (a 18), .int p1, .int p2])).length) Slot.unset).toArray = ls at hl ⊢
  have hl : lv_has ls 9 [(0, .ref (a 18)), (1, .int p1), (2, .int p2)] := hl
  unfold wp_M_isAlike at hw
  have loop_19 : ∀ (k : Nat) (x1 x2 x3 x4 x5 x6 : Int32) (n : ctN) (f : ctF) (H : Heap) (locs : List Loc) (ls : Array Slot), wp_M_isAlike_L19 post k x1 x2 x3 x4 x5 x6 n f → va_P (dC, dI) vcl (ctW a cA n f) H → va_S A s.heap H locs → lv_has ls 9 [(0, .ref (a 18)), (1, .int x1), (2, .int x2), (3, .int x3), (4, .int x4), (5, .int x5), (6, .int x6)] → W p l e (headSpec wsM_isAlike ({ frames := 1, cells := 0, slots := 0, locals := 24 } : Room)).room s m (([.ref (a 18), .int p1, .int p2] : List Value).toArray) below meth c H locs 0 0 (MQ below (va_Qi (fun (r : Int32) (u : ctN × ctF) => post r u.1 u.2) (ct_B dC dI a cA) A) (([.ref (a 18), .int p1, .int p2] : List Value).toArray) s 0 0 A) (F0 m 19 ls []) := by
    intro k
    induction k with
    | zero => intro x1 x2 x3 x4 x5 x6 n f H locs ls hw; exact hw.elim
    | succ k ih =>
      have join_78 : ∀ (x1 x2 x4 x5 x6 x7 x8 s0 s1 : Int32) (n : ctN) (f : ctF) (H : Heap) (locs : List Loc) (ls : Array Slot), wp_M_isAlike_J78 post (wp_M_isAlike_L19 post k) x1 x2 x4 x5 x6 x7 x8 s0 s1 n f → va_P (dC, dI) vcl (ctW a cA n f) H → va_S A s.heap H locs → lv_has ls 9 [(0, .ref (a 18)), (1, .int x1), (2, .int x2), (4, .int x4), (5, .int x5), (6, .int x6), (7, .int x7), (8, .int x8)] → W p l e (headSpec wsM_isAlike ({ frames := 1, cells := 0, slots := 0, locals := 24 } : Room)).room s m (([.ref (a 18), .int p1, .int p2] : List Value).toArray) below meth c H locs 0 0 (MQ below (va_Qi (fun (r : Int32) (u : ctN × ctF) => post r u.1 u.2) (ct_B dC dI a cA) A) (([.ref (a 18), .int p1, .int p2] : List Value).toArray) s 0 0 A) (F0 m 78 ls [.int s0, .int s1]) := by
        intro x1 x2 x4 x5 x6 x7 x8 s0 s1 n f H locs ls hw hP hS hl
        unfold wp_M_isAlike_J78 at hw
        refine lv_icmp_ne (tgt := 130) hx hb dM_isAlike_78 (by decide) (fun c16 => ?_) (fun c16 => ?_)
        · have hw := hw.1 c16
          refine lv_iconst (v := 0) hx hb dM_isAlike_130 (by decide) ?_
          refine lv_istore_n (lv' := [(3, .int 0), (0, .ref (a 18)), (1, .int x1), (2, .int x2), (4, .int x4), (5, .int x5), (6, .int x6), (7, .int x7), (8, .int x8)]) hx hb dM_isAlike_131 rfl hl (by decide) rfl (fun ls hl => ?_)
          obtain ⟨x6_17, ex6_17⟩ : ∃ y : Int32, y = x6 + 1 := ⟨_, rfl⟩
          have hw := hw x6_17 ex6_17
          refine lv_iinc (v := x6_17) (lv' := [(6, .int x6_17), (3, .int 0), (0, .ref (a 18)), (1, .int x1), (2, .int x2), (4, .int x4), (5, .int x5), (7, .int x7), (8, .int x8)]) hx hb dM_isAlike_132 hl (k := 6) rfl (by rw [ex6_17]; rfl) (by decide) rfl (fun ls hl => ?_)
          refine lv_goto (tgt := 19) hx hb dM_isAlike_135 (by decide) ?_
          exact ih x1 x2 0 x4 x5 x6_17 n f _ _ ls hw hP hS (lv_sub hl [2, 3, 4, 1, 5, 6, 0] rfl)
        · have hw := hw.2 c16
          refine lv_iload hx hb dM_isAlike_81 (lv_at hl 6 rfl) ?_
          refine lv_if_lt (tgt := 126) hx hb dM_isAlike_83 (by decide) (fun c18 => ?_) (fun c18 => ?_)
          · have hw := hw.1 c18
            refine lv_iconst (v := 1) hx hb dM_isAlike_126 (by decide) ?_
            refine lv_goto (tgt := 131) hx hb dM_isAlike_127 (by decide) ?_
            refine lv_istore_n (lv' := [(3, .int 1), (0, .ref (a 18)), (1, .int x1), (2, .int x2), (4, .int x4), (5, .int x5), (6, .int x6), (7, .int x7), (8, .int x8)]) hx hb dM_isAlike_131 rfl hl (by decide) rfl (fun ls hl => ?_)
            obtain ⟨x6_19, ex6_19⟩ : ∃ y : Int32, y = x6 + 1 := ⟨_, rfl⟩
            have hw := hw x6_19 ex6_19
            refine lv_iinc (v := x6_19) (lv' := [(6, .int x6_19), (3, .int 1), (0, .ref (a 18)), (1, .int x1), (2, .int x2), (4, .int x4), (5, .int x5), (7, .int x7), (8, .int x8)]) hx hb dM_isAlike_132 hl (k := 6) rfl (by rw [ex6_19]; rfl) (by decide) rfl (fun ls hl => ?_)
            refine lv_goto (tgt := 19) hx hb dM_isAlike_135 (by decide) ?_
            exact ih x1 x2 1 x4 x5 x6_19 n f _ _ ls hw hP hS (lv_sub hl [2, 3, 4, 1, 5, 6, 0] rfl)
          · have hw := hw.2 c18
            refine lv_iload hx hb dM_isAlike_86 (lv_at hl 6 rfl) ?_
            refine lv_iload hx hb dM_isAlike_88 (lv_at hl 3 rfl) ?_
            refine lv_isub hx hb dM_isAlike_90 ?_
            refine lv_iload hx hb dM_isAlike_91 (lv_at hl 7 rfl) ?_
            refine lv_iload hx hb dM_isAlike_93 (lv_at hl 4 rfl) ?_
            refine lv_isub hx hb dM_isAlike_95 ?_
            refine lv_icmp_ne (tgt := 130) hx hb dM_isAlike_96 (by decide) (fun c20 => ?_) (fun c20 => ?_)
            · have hw := hw.1 c20
              refine lv_iconst (v := 0) hx hb dM_isAlike_130 (by decide) ?_
              refine lv_istore_n (lv' := [(3, .int 0), (0, .ref (a 18)), (1, .int x1), (2, .int x2), (4, .int x4), (5, .int x5), (6, .int x6), (7, .int x7), (8, .int x8)]) hx hb dM_isAlike_131 rfl hl (by decide) rfl (fun ls hl => ?_)
              obtain ⟨x6_21, ex6_21⟩ : ∃ y : Int32, y = x6 + 1 := ⟨_, rfl⟩
              have hw := hw x6_21 ex6_21
              refine lv_iinc (v := x6_21) (lv' := [(6, .int x6_21), (3, .int 0), (0, .ref (a 18)), (1, .int x1), (2, .int x2), (4, .int x4), (5, .int x5), (7, .int x7), (8, .int x8)]) hx hb dM_isAlike_132 hl (k := 6) rfl (by rw [ex6_21]; rfl) (by decide) rfl (fun ls hl => ?_)
              refine lv_goto (tgt := 19) hx hb dM_isAlike_135 (by decide) ?_
              exact ih x1 x2 0 x4 x5 x6_21 n f _ _ ls hw hP hS (lv_sub hl [2, 3, 4, 1, 5, 6, 0] rfl)
            · have hw := hw.2 c20
              refine lv_aload_n hx hb dM_isAlike_99 rfl (lv_at hl 0 rfl) ?_
              refine va_get (D := (dC, dI)) (ci := 3) (v := .ref (a 29)) (C := RM) (T := TM) (N := 19) hx hb hts (fun w h => List.mem_cons_of_mem _ (inM w h)) hown hK hP 18 rfl rfl 14 (by decide) (hts (.fieldLink RM 40 "CoverTreesModel" "chosen" "[I") (List.mem_cons_of_mem _ wt_458)) (fun _ h9 => h9) rfl dM_isAlike_100 ?_
              refine lv_bipush (v := 8) hx hb dM_isAlike_103 (by decide) ?_
              refine lv_iload_n hx hb dM_isAlike_105 rfl (lv_at hl 1 rfl) ?_
              refine lv_imul hx hb dM_isAlike_106 ?_
              refine lv_iload hx hb dM_isAlike_107 (lv_at hl 5 rfl) ?_
              refine lv_iadd hx hb dM_isAlike_109 ?_
              obtain ⟨hi22, hw⟩ := hw
              refine va_iald hx hb hK hP 29 25 rfl rfl hi22 dM_isAlike_110 ?_
              refine lv_aload_n hx hb dM_isAlike_111 rfl (lv_at hl 0 rfl) ?_
              refine va_get (D := (dC, dI)) (ci := 3) (v := .ref (a 29)) (C := RM) (T := TM) (N := 19) hx hb hts (fun w h => List.mem_cons_of_mem _ (inM w h)) hown hK hP 18 rfl rfl 14 (by decide) (hts (.fieldLink RM 40 "CoverTreesModel" "chosen" "[I") (List.mem_cons_of_mem _ wt_458)) (fun _ h9 => h9) rfl dM_isAlike_112 ?_
              refine lv_bipush (v := 8) hx hb dM_isAlike_115 (by decide) ?_
              refine lv_iload_n hx hb dM_isAlike_117 rfl (lv_at hl 2 rfl) ?_
              refine lv_imul hx hb dM_isAlike_118 ?_
              refine lv_iload hx hb dM_isAlike_119 (lv_at hl 5 rfl) ?_
              refine lv_iadd hx hb dM_isAlike_121 ?_
              obtain ⟨hi23, hw⟩ := hw
              refine va_iald hx hb hK hP 29 25 rfl rfl hi23 dM_isAlike_122 ?_
              refine lv_icmp_ne (tgt := 130) hx hb dM_isAlike_123 (by decide) (fun c24 => ?_) (fun c24 => ?_)
              · have hw := hw.1 c24
                refine lv_iconst (v := 0) hx hb dM_isAlike_130 (by decide) ?_
                refine lv_istore_n (lv' := [(3, .int 0), (0, .ref (a 18)), (1, .int x1), (2, .int x2), (4, .int x4), (5, .int x5), (6, .int x6), (7, .int x7), (8, .int x8)]) hx hb dM_isAlike_131 rfl hl (by decide) rfl (fun ls hl => ?_)
                obtain ⟨x6_25, ex6_25⟩ : ∃ y : Int32, y = x6 + 1 := ⟨_, rfl⟩
                have hw := hw x6_25 ex6_25
                refine lv_iinc (v := x6_25) (lv' := [(6, .int x6_25), (3, .int 0), (0, .ref (a 18)), (1, .int x1), (2, .int x2), (4, .int x4), (5, .int x5), (7, .int x7), (8, .int x8)]) hx hb dM_isAlike_132 hl (k := 6) rfl (by rw [ex6_25]; rfl) (by decide) rfl (fun ls hl => ?_)
                refine lv_goto (tgt := 19) hx hb dM_isAlike_135 (by decide) ?_
                exact ih x1 x2 0 x4 x5 x6_25 n f _ _ ls hw hP hS (lv_sub hl [2, 3, 4, 1, 5, 6, 0] rfl)
              · have hw := hw.2 c24
                refine lv_iconst (v := 1) hx hb dM_isAlike_126 (by decide) ?_
                refine lv_goto (tgt := 131) hx hb dM_isAlike_127 (by decide) ?_
                refine lv_istore_n (lv' := [(3, .int 1), (0, .ref (a 18)), (1, .int x1), (2, .int x2), (4, .int x4), (5, .int x5), (6, .int x6), (7, .int x7), (8, .int x8)]) hx hb dM_isAlike_131 rfl hl (by decide) rfl (fun ls hl => ?_)
                obtain ⟨x6_26, ex6_26⟩ : ∃ y : Int32, y = x6 + 1 := ⟨_, rfl⟩
                have hw := hw x6_26 ex6_26
                refine lv_iinc (v := x6_26) (lv' := [(6, .int x6_26), (3, .int 1), (0, .ref (a 18)), (1, .int x1), (2, .int x2), (4, .int x4), (5, .int x5), (7, .int x7), (8, .int x8)]) hx hb dM_isAlike_132 hl (k := 6) rfl (by rw [ex6_26]; rfl) (by decide) rfl (fun ls hl => ?_)
                refine lv_goto (tgt := 19) hx hb dM_isAlike_135 (by decide) ?_
                exact ih x1 x2 1 x4 x5 x6_26 n f _ _ ls hw hP hS (lv_sub hl [2, 3, 4, 1, 5, 6, 0] rfl)
      have join_68 : ∀ (x1 x2 x4 x5 x6 x7 x8 s0 : Int32) (n : ctN) (f : ctF) (H : Heap) (locs : List Loc) (ls : Array Slot), wp_M_isAlike_J68 post (wp_M_isAlike_L19 post k) x1 x2 x4 x5 x6 x7 x8 s0 n f → va_P (dC, dI) vcl (ctW a cA n f) H → va_S A s.heap H locs → lv_has ls 9 [(0, .ref (a 18)), (1, .int x1), (2, .int x2), (4, .int x4), (5, .int x5), (6, .int x6), (7, .int x7), (8, .int x8)] → W p l e (headSpec wsM_isAlike ({ frames := 1, cells := 0, slots := 0, locals := 24 } : Room)).room s m (([.ref (a 18), .int p1, .int p2] : List Value).toArray) below meth c H locs 0 0 (MQ below (va_Qi (fun (r : Int32) (u : ctN × ctF) => post r u.1 u.2) (ct_B dC dI a cA) A) (([.ref (a 18), .int p1, .int p2] : List Value).toArray) s 0 0 A) (F0 m 68 ls [.int s0]) := by
        intro x1 x2 x4 x5 x6 x7 x8 s0 n f H locs ls hw hP hS hl
        unfold wp_M_isAlike_J68 at hw
        refine lv_iload hx hb dM_isAlike_68 (lv_at hl 7 rfl) ?_
        refine lv_if_lt (tgt := 77) hx hb dM_isAlike_70 (by decide) (fun c15 => ?_) (fun c15 => ?_)
        · have hw := hw.1 c15
          refine lv_iconst (v := 0) hx hb dM_isAlike_77 (by decide) ?_
          exact join_78 x1 x2 x4 x5 x6 x7 x8 0 s0 n f _ _ ls hw hP hS (lv_sub hl [0, 1, 2, 3, 4, 5, 6, 7] rfl)
        · have hw := hw.2 c15
          refine lv_iconst (v := 1) hx hb dM_isAlike_73 (by decide) ?_
          refine lv_goto (tgt := 78) hx hb dM_isAlike_74 (by decide) ?_
          exact join_78 x1 x2 x4 x5 x6 x7 x8 1 s0 n f _ _ ls hw hP hS (lv_sub hl [0, 1, 2, 3, 4, 5, 6, 7] rfl)
      intro x1 x2 x3 x4 x5 x6 n f H locs ls hw hP hS hl
      rw [wp_M_isAlike_L19] at hw
      refine lv_iload hx hb dM_isAlike_19 (lv_at hl 6 rfl) ?_
      refine lv_bipush (v := 8) hx hb dM_isAlike_21 (by decide) ?_
      refine lv_icmp_ge (tgt := 138) hx hb dM_isAlike_23 (by decide) (fun c7 => ?_) (fun c7 => ?_)
      · have hw := hw.1 c7
        refine lv_iload_n hx hb dM_isAlike_138 rfl (lv_at hl 3 rfl) ?_
        obtain ⟨hz, hw⟩ := hw
        exact W.zret (v := x3) hx hb hr hz (fun t ht hW => ⟨⟨x3, (n, f), rfl, hw, ct_mkB ht hP⟩, hS.F ht⟩) hS.2.2 dM_isAlike_139
      · have hw := hw.2 c7
        refine lv_aload_n hx hb dM_isAlike_26 rfl (lv_at hl 0 rfl) ?_
        refine va_get (D := (dC, dI)) (ci := 3) (v := .ref (a 28)) (C := RM) (T := TM) (N := 19) hx hb hts (fun w h => List.mem_cons_of_mem _ (inM w h)) hown hK hP 18 rfl rfl 13 (by decide) (hts (.fieldLink RM 37 "CoverTreesModel" "costs" "[I") (List.mem_cons_of_mem _ wt_457)) (fun _ h9 => h9) rfl dM_isAlike_27 ?_
        refine lv_bipush (v := 8) hx hb dM_isAlike_30 (by decide) ?_
        refine lv_iload_n hx hb dM_isAlike_32 rfl (lv_at hl 1 rfl) ?_
        refine lv_imul hx hb dM_isAlike_33 ?_
        refine lv_iload hx hb dM_isAlike_34 (lv_at hl 6 rfl) ?_
        refine lv_iadd hx hb dM_isAlike_36 ?_
        obtain ⟨hi8, hw⟩ := hw
        refine va_iald hx hb hK hP 28 24 rfl rfl hi8 dM_isAlike_37 ?_
        refine lv_topi (fun x7_9 ex7_9 => ?_)
        have hw := hw x7_9 ex7_9
        refine lv_istore (lv' := [(7, .int x7_9), (0, .ref (a 18)), (1, .int x1), (2, .int x2), (3, .int x3), (4, .int x4), (5, .int x5), (6, .int x6)]) hx hb dM_isAlike_38 hl (by decide) rfl (fun ls hl => ?_)
        refine lv_aload_n hx hb dM_isAlike_40 rfl (lv_at hl 1 rfl) ?_
        refine va_get (D := (dC, dI)) (ci := 3) (v := .ref (a 28)) (C := RM) (T := TM) (N := 19) hx hb hts (fun w h => List.mem_cons_of_mem _ (inM w h)) hown hK hP 18 rfl rfl 13 (by decide) (hts (.fieldLink RM 37 "CoverTreesModel" "costs" "[I") (List.mem_cons_of_mem _ wt_457)) (fun _ h9 => h9) rfl dM_isAlike_41 ?_
        refine lv_bipush (v := 8) hx hb dM_isAlike_44 (by decide) ?_
        refine lv_iload_n hx hb dM_isAlike_46 rfl (lv_at hl 3 rfl) ?_
        refine lv_imul hx hb dM_isAlike_47 ?_
        refine lv_iload hx hb dM_isAlike_48 (lv_at hl 7 rfl) ?_
        refine lv_iadd hx hb dM_isAlike_50 ?_
        obtain ⟨hi10, hw⟩ := hw
        refine va_iald hx hb hK hP 28 24 rfl rfl hi10 dM_isAlike_51 ?_
        refine lv_topi (fun x8_11 ex8_11 => ?_)
        have hw := hw x8_11 ex8_11
        refine lv_istore (lv' := [(8, .int x8_11), (7, .int x7_9), (0, .ref (a 18)), (1, .int x1), (2, .int x2), (3, .int x3), (4, .int x4), (5, .int x5), (6, .int x6)]) hx hb dM_isAlike_52 hl (by decide) rfl (fun ls hl => ?_)
        refine lv_iload_n hx hb dM_isAlike_54 rfl (lv_at hl 5 rfl) ?_
        refine lv_if_eq (tgt := 130) hx hb dM_isAlike_55 (by decide) (fun c12 => ?_) (fun c12 => ?_)
        · have hw := hw.1 c12
          refine lv_iconst (v := 0) hx hb dM_isAlike_130 (by decide) ?_
          refine lv_istore_n (lv' := [(3, .int 0), (8, .int x8_11), (7, .int x7_9), (0, .ref (a 18)), (1, .int x1), (2, .int x2), (4, .int x4), (5, .int x5), (6, .int x6)]) hx hb dM_isAlike_131 rfl hl (by decide) rfl (fun ls hl => ?_)
          obtain ⟨x6_13, ex6_13⟩ : ∃ y : Int32, y = x6 + 1 := ⟨_, rfl⟩
          have hw := hw x6_13 ex6_13
          refine lv_iinc (v := x6_13) (lv' := [(6, .int x6_13), (3, .int 0), (8, .int x8_11), (7, .int x7_9), (0, .ref (a 18)), (1, .int x1), (2, .int x2), (4, .int x4), (5, .int x5)]) hx hb dM_isAlike_132 hl (k := 8) rfl (by rw [ex6_13]; rfl) (by decide) rfl (fun ls hl => ?_)
          refine lv_goto (tgt := 19) hx hb dM_isAlike_135 (by decide) ?_
          exact ih x1 x2 0 x4 x5 x6_13 n f _ _ ls hw hP hS (lv_sub hl [4, 5, 6, 1, 7, 8, 0] rfl)
        · have hw := hw.2 c12
          refine lv_iload hx hb dM_isAlike_58 (lv_at hl 1 rfl) ?_
          refine lv_if_lt (tgt := 67) hx hb dM_isAlike_60 (by decide) (fun c14 => ?_) (fun c14 => ?_)
          · have hw := hw.1 c14
            refine lv_iconst (v := 0) hx hb dM_isAlike_67 (by decide) ?_
            exact join_68 x1 x2 x4 x5 x6 x7_9 x8_11 0 n f _ _ ls hw hP hS (lv_sub hl [2, 3, 4, 6, 7, 8, 1, 0] rfl)
          · have hw := hw.2 c14
            refine lv_iconst (v := 1) hx hb dM_isAlike_63 (by decide) ?_
            refine lv_goto (tgt := 68) hx hb dM_isAlike_64 (by decide) ?_
            exact join_68 x1 x2 x4 x5 x6 x7_9 x8_11 1 n f _ _ ls hw hP hS (lv_sub hl [2, 3, 4, 6, 7, 8, 1, 0] rfl)
  refine lv_iconst (v := 1) hx hb dM_isAlike_0 (by decide) ?_
  refine lv_istore_n (lv' := [(3, .int 1), (0, .ref (a 18)), (1, .int p1), (2, .int p2)]) hx hb dM_isAlike_1 rfl hl (by decide) rfl (fun ls hl => ?_)
  refine lv_aload_n hx hb dM_isAlike_2 rfl (lv_at hl 1 rfl) ?_
  refine lv_iload_n hx hb dM_isAlike_3 rfl (lv_at hl 2 rfl) ?_
  refine ct_i (va_runV (As := [.int p1]) (rest := []) ⟨hx, hb, hml, hown, hts⟩ (met_M_leastCost l dC dI a cA sa p1 n f _ hw) (cwV 1 hts (wb_V wt_601 wt_603 wt_25 wt_30 wt_604) rfl rfl rfl (by decide +kernel) ⟨Nat.le_of_ble_eq_true rfl, Nat.le_of_ble_eq_true rfl⟩) (ct_preV hK hP (hDa _ _) hZ hS hA (va_recv hK hP (ci := 3) (q0 := 18) rfl rfl)) rfl rfl hl.1 rfl (lv_room (Nat.le_of_ble_eq_true rfl)) dM_isAlike_4 ⟨Nat.le_of_ble_eq_true rfl, Nat.le_of_ble_eq_true rfl⟩) (hDa _ _) hS hA (fun r1 n_2 f_3 H locs hw hP hS => ?_)
  refine lv_istore (lv' := [(4, .int r1), (3, .int 1), (0, .ref (a 18)), (1, .int p1), (2, .int p2)]) hx hb dM_isAlike_7 hl (by decide) rfl (fun ls hl => ?_)
  refine lv_aload_n hx hb dM_isAlike_9 rfl (lv_at hl 2 rfl) ?_
  refine lv_iload_n hx hb dM_isAlike_10 rfl (lv_at hl 4 rfl) ?_
  refine ct_i (va_runV (As := [.int p2]) (rest := []) ⟨hx, hb, hml, hown, hts⟩ (met_M_leastCost l dC dI a cA sa p2 n_2 f_3 _ hw) (cwV 1 hts (wb_V wt_601 wt_603 wt_25 wt_30 wt_604) rfl rfl rfl (by decide +kernel) ⟨Nat.le_of_ble_eq_true rfl, Nat.le_of_ble_eq_true rfl⟩) (ct_preV hK hP (hDa _ _) hZ hS hA (va_recv hK hP (ci := 3) (q0 := 18) rfl rfl)) rfl rfl hl.1 rfl (lv_room (Nat.le_of_ble_eq_true rfl)) dM_isAlike_11 ⟨Nat.le_of_ble_eq_true rfl, Nat.le_of_ble_eq_true rfl⟩) (hDa _ _) hS hA (fun r4 n_5 f_6 H locs hw hP hS => ?_)
  refine lv_istore (lv' := [(5, .int r4), (4, .int r1), (3, .int 1), (0, .ref (a 18)), (1, .int p1), (2, .int p2)]) hx hb dM_isAlike_14 hl (by decide) rfl (fun ls hl => ?_)
  refine lv_iconst (v := 0) hx hb dM_isAlike_16 (by decide) ?_
  refine lv_istore (lv' := [(6, .int 0), (5, .int r4), (4, .int r1), (3, .int 1), (0, .ref (a 18)), (1, .int p1), (2, .int p2)]) hx hb dM_isAlike_17 hl (by decide) rfl (fun ls hl => ?_)
  obtain ⟨j, hw⟩ := hw
  exact loop_19 j p1 p2 1 r1 r4 0 n_5 f_6 _ _ ls hw hP hS (lv_sub hl [4, 5, 6, 3, 2, 1, 0] rfl)
def wp_M_likeOf_L2 (post : Int32 → ctN → ctF → Prop) : Nat → Int32 → Int32 → ctN → ctF → Prop
  | 0, _, _, _, _ => False
  | k + 1, x1, x2, n, f => wp_M_isAlike (fun (r1 : Int32) (n_2 : ctN) (f_3 : ctF) => (¬ r1 = 0 → (post x2 n_2 f_3)) ∧ (r1 = 0 → (∀ x2_5 : Int32, x2_5 = x2 + 1 → (wp_M_likeOf_L2 post k x1 x2_5 n_2 f_3)))) x1 x2 n f
def wp_M_likeOf (post : Int32 → ctN → ctF → Prop) (p1 : Int32) (n : ctN) (f : ctF) : Prop := ∃ j, wp_M_likeOf_L2 post j p1 0 n f
set_option maxHeartbeats 4000000 in
set_option maxRecDepth 100000 in
theorem met_M_likeOf (l : Launch) (dC : Nat → ClassId) (dI : Nat → Nat → Nat) (a : Nat → Nat) (cA : Nat → ClassId) (sa : Nat → Nat) (p1 : Int32) (n : ctN) (f : ctF) (sz : Nat) {post : Int32 → ctN → ctF → Prop} (hw : wp_M_likeOf post p1 n f) : Met l yM_likeOf wsM_likeOf ({ frames := 2, cells := 0, slots := 0, locals := 52 } : Room) (ct_Pc dC dI a cA sa [.ref (a 18), .int p1] n f sz) (va_Qi (fun (r : Int32) (u : ctN × ctF) => post r u.1 u.2) (ct_B dC dI a cA) (va_A (ctW a cA n f) sz)) 0 0 (va_A (ctW a cA n f) sz) := by
  refine Met.ofW (cc := cM_likeOf) (maxL := 3) (ret := (some .int)) (by decide) rfl ?_
  intro p e s m args below meth c s₁ B hml hv
  obtain ⟨rfl, hsz, hP, hK, hD0, hZ⟩ := hv
  have hx := B.exec
  have hb := B.bytes
  have hr := B.returns
  have hts := atoms_spec (ws := wsM_likeOf) B.pre
  have hown : s.vm.findClass RM = some m.cls := findClass_of_methodNamed B.named
  have hlocks := B.notSynchronized
  subst hsz
  have hD := hD0.self (sz := s.heap.size)
  generalize hAe : va_A (ctW a cA n f) s.heap.size = A at hD hZ ⊢
  have hDa : ∀ (n : ctN) (f : ctF), va_D A (ctW a cA n f) := fun _ _ => ct_D hD
  have hA : ∀ q : Nat, s.heap.size ≤ q → A q := fun q h => by rw [← hAe]; exact Or.inr h
  have hS : va_S A s.heap s.heap [] := va_S.rf
  have hl := lv_entry ([.ref (a 18), .int p1]) (n := 3) (Nat.le_of_ble_eq_true rfl)
  rw [lg_entry_eq]
  generalize (lg_sl ([.ref (a 18), .int p1]) ++ List.replicate (3 - (lg_sl ([.ref (a 18), .int p1])).length) Slot.unset).toArray = ls at hl ⊢
  have hl : lv_has ls 3 [(0, .ref (a 18)), (1, .int p1)] := hl
  unfold wp_M_likeOf at hw
  have loop_2 : ∀ (k : Nat) (x1 x2 : Int32) (n : ctN) (f : ctF) (H : Heap) (locs : List Loc) (ls : Array Slot), wp_M_likeOf_L2 post k x1 x2 n f → va_P (dC, dI) vcl (ctW a cA n f) H → va_S A s.heap H locs → lv_has ls 3 [(0, .ref (a 18)), (1, .int x1), (2, .int x2)] → W p l e (headSpec wsM_likeOf ({ frames := 2, cells := 0, slots := 0, locals := 52 } : Room)).room s m (([.ref (a 18), .int p1] : List Value).toArray) below meth c H locs 0 0 (MQ below (va_Qi (fun (r : Int32) (u : ctN × ctF) => post r u.1 u.2) (ct_B dC dI a cA) A) (([.ref (a 18), .int p1] : List Value).toArray) s 0 0 A) (F0 m 2 ls []) := by
    intro k
    induction k with
    | zero => intro x1 x2 n f H locs ls hw; exact hw.elim
    | succ k ih =>
      intro x1 x2 n f H locs ls hw hP hS hl
      rw [wp_M_likeOf_L2] at hw
      refine lv_aload_n hx hb dM_likeOf_2 rfl (lv_at hl 0 rfl) ?_
      refine lv_iload_n hx hb dM_likeOf_3 rfl (lv_at hl 1 rfl) ?_
      refine lv_iload_n hx hb dM_likeOf_4 rfl (lv_at hl 2 rfl) ?_
      refine ct_i (va_runV (As := [.int x1, .int x2]) (rest := []) ⟨hx, hb, hml, hown, hts⟩ (met_M_isAlike l dC dI a cA sa x1 x2 n f _ hw) (cwV 2 hts (wb_V wt_597 wt_599 wt_24 wt_30 wt_600) rfl rfl rfl (by decide +kernel) ⟨Nat.le_of_ble_eq_true rfl, Nat.le_of_ble_eq_true rfl⟩) (ct_preV hK hP (hDa _ _) hZ hS hA (va_recv hK hP (ci := 3) (q0 := 18) rfl rfl)) rfl rfl hl.1 rfl (lv_room (Nat.le_of_ble_eq_true rfl)) dM_likeOf_5 ⟨Nat.le_of_ble_eq_true rfl, Nat.le_of_ble_eq_true rfl⟩) (hDa _ _) hS hA (fun r1 n_2 f_3 H locs hw hP hS => ?_)
      refine lv_if_ne (tgt := 17) hx hb dM_likeOf_8 (by decide) (fun c4 => ?_) (fun c4 => ?_)
      · have hw := hw.1 c4
        refine lv_iload_n hx hb dM_likeOf_17 rfl (lv_at hl 2 rfl) ?_
        exact W.iret (v := x2) hx hb hr (fun t ht hW => ⟨⟨x2, (n_2, f_3), rfl, hw, ct_mkB ht hP⟩, hS.F ht⟩) hS.2.2 dM_likeOf_18
      · have hw := hw.2 c4
        obtain ⟨x2_5, ex2_5⟩ : ∃ y : Int32, y = x2 + 1 := ⟨_, rfl⟩
        have hw := hw x2_5 ex2_5
        refine lv_iinc (v := x2_5) (lv' := [(2, .int x2_5), (0, .ref (a 18)), (1, .int x1)]) hx hb dM_likeOf_11 hl (k := 2) rfl (by rw [ex2_5]; rfl) (by decide) rfl (fun ls hl => ?_)
        refine lv_goto (tgt := 2) hx hb dM_likeOf_14 (by decide) ?_
        exact ih x1 x2_5 n_2 f_3 _ _ ls hw hP hS (lv_sub hl [1, 2, 0] rfl)
  refine lv_iconst (v := 0) hx hb dM_likeOf_0 (by decide) ?_
  refine lv_istore_n (lv' := [(2, .int 0), (0, .ref (a 18)), (1, .int p1)]) hx hb dM_likeOf_1 rfl hl (by decide) rfl (fun ls hl => ?_)
  obtain ⟨j, hw⟩ := hw
  exact loop_2 j p1 0 n f _ _ ls hw hP hS (lv_sub hl [1, 2, 0] rfl)
def wp_M_like (post : Int32 → ctN → ctF → Prop) (p1 : Int32) (n : ctN) (f : ctF) : Prop := wp_M_isNode (fun (r1 : Int32) (n_2 : ctN) (f_3 : ctF) => (¬ r1 = 0 → (wp_M_refuse (fun (r5 : Int32) (n_6 : ctN) (f_7 : ctF) => (r5 = 0 → (wp_M_likeOf (fun (r9 : Int32) (n_10 : ctN) (f_11 : ctF) => post r9 n_10 f_11) p1 n_6 f_7)) ∧ (¬ r5 = 0 → (post 0 n_6 f_7))) 0 0 0 n_2 f_3)) ∧ (r1 = 0 → (wp_M_refuse (fun (r12 : Int32) (n_13 : ctN) (f_14 : ctF) => (r12 = 0 → (wp_M_likeOf (fun (r16 : Int32) (n_17 : ctN) (f_18 : ctF) => post r16 n_17 f_18) p1 n_13 f_14)) ∧ (¬ r12 = 0 → (post 0 n_13 f_14))) 1 0 0 n_2 f_3))) p1 n f
set_option maxHeartbeats 4000000 in
set_option maxRecDepth 100000 in
theorem met_M_like (l : Launch) (dC : Nat → ClassId) (dI : Nat → Nat → Nat) (a : Nat → Nat) (cA : Nat → ClassId) (sa : Nat → Nat) (p1 : Int32) (n : ctN) (f : ctF) (sz : Nat) {post : Int32 → ctN → ctF → Prop} (hw : wp_M_like post p1 n f) : Met l yM_like wsM_like ({ frames := 3, cells := 0, slots := 0, locals := 74 } : Room) (ct_Pc dC dI a cA sa [.ref (a 18), .int p1] n f sz) (va_Qi (fun (r : Int32) (u : ctN × ctF) => post r u.1 u.2) (ct_B dC dI a cA) (va_A (ctW a cA n f) sz)) 0 0 (va_A (ctW a cA n f) sz) := by
  refine Met.ofW (cc := cM_like) (maxL := 2) (ret := (some .int)) (by decide) rfl ?_
  intro p e s m args below meth c s₁ B hml hv
  obtain ⟨rfl, hsz, hP, hK, hD0, hZ⟩ := hv
  have hx := B.exec
  have hb := B.bytes
  have hr := B.returns
  have hts := atoms_spec (ws := wsM_like) B.pre
  have hown : s.vm.findClass RM = some m.cls := findClass_of_methodNamed B.named
  have hlocks := B.notSynchronized
  subst hsz
  have hD := hD0.self (sz := s.heap.size)
  generalize hAe : va_A (ctW a cA n f) s.heap.size = A at hD hZ ⊢
  have hDa : ∀ (n : ctN) (f : ctF), va_D A (ctW a cA n f) := fun _ _ => ct_D hD
  have hA : ∀ q : Nat, s.heap.size ≤ q → A q := fun q h => by rw [← hAe]; exact Or.inr h
  have hS : va_S A s.heap s.heap [] := va_S.rf
  have hl := lv_entry ([.ref (a 18), .int p1]) (n := 2) (Nat.le_of_ble_eq_true rfl)
  rw [lg_entry_eq]
  generalize (lg_sl ([.ref (a 18), .int p1]) ++ List.replicate (2 - (lg_sl ([.ref (a 18), .int p1])).length) Slot.unset).toArray = ls at hl ⊢
  have hl : lv_has ls 2 [(0, .ref (a 18)), (1, .int p1)] := hl
  unfold wp_M_like at hw
  refine lv_aload_n hx hb dM_like_0 rfl (lv_at hl 0 rfl) ?_
  refine lv_aload_n hx hb dM_like_1 rfl (lv_at hl 0 rfl) ?_
  refine lv_iload_n hx hb dM_like_2 rfl (lv_at hl 1 rfl) ?_
  refine ct_i (va_runV (As := [.int p1]) (rest := [.ref (a 18)]) ⟨hx, hb, hml, hown, hts⟩ (met_M_isNode l dC dI a cA sa p1 n f _ hw) (cwV 1 hts (wb_V wt_544 wt_546 wt_16 wt_30 wt_547) rfl rfl rfl (by decide +kernel) ⟨Nat.le_of_ble_eq_true rfl, Nat.le_of_ble_eq_true rfl⟩) (ct_preV hK hP (hDa _ _) hZ hS hA (va_recv hK hP (ci := 3) (q0 := 18) rfl rfl)) rfl rfl hl.1 rfl (lv_room (Nat.le_of_ble_eq_true rfl)) dM_like_3 ⟨Nat.le_of_ble_eq_true rfl, Nat.le_of_ble_eq_true rfl⟩) (hDa _ _) hS hA (fun r1 n_2 f_3 H locs hw hP hS => ?_)
  refine lv_if_ne (tgt := 13) hx hb dM_like_6 (by decide) (fun c4 => ?_) (fun c4 => ?_)
  · have hw := hw.1 c4
    refine lv_iconst (v := 0) hx hb dM_like_13 (by decide) ?_
    refine lv_iconst (v := 0) hx hb dM_like_14 (by decide) ?_
    refine lv_iconst (v := 0) hx hb dM_like_15 (by decide) ?_
    refine ct_i (va_runV (As := [.int 0, .int 0, .int 0]) (rest := []) ⟨hx, hb, hml, hown, hts⟩ (met_M_refuse l dC dI a cA sa 0 0 0 n_2 f_3 _ hw) (cwV 3 hts (wb_V wt_521 wt_523 wt_14 wt_30 wt_524) rfl rfl rfl (by decide +kernel) ⟨Nat.le_of_ble_eq_true rfl, Nat.le_of_ble_eq_true rfl⟩) (ct_preV hK hP (hDa _ _) hZ hS hA (va_recv hK hP (ci := 3) (q0 := 18) rfl rfl)) rfl rfl hl.1 rfl (lv_room (Nat.le_of_ble_eq_true rfl)) dM_like_16 ⟨Nat.le_of_ble_eq_true rfl, Nat.le_of_ble_eq_true rfl⟩) (hDa _ _) hS hA (fun r5 n_6 f_7 H locs hw hP hS => ?_)
    refine lv_if_eq (tgt := 26) hx hb dM_like_19 (by decide) (fun c8 => ?_) (fun c8 => ?_)
    · have hw := hw.1 c8
      refine lv_aload_n hx hb dM_like_26 rfl (lv_at hl 0 rfl) ?_
      refine lv_iload_n hx hb dM_like_27 rfl (lv_at hl 1 rfl) ?_
      refine ct_i (va_runV (As := [.int p1]) (rest := []) ⟨hx, hb, hml, hown, hts⟩ (met_M_likeOf l dC dI a cA sa p1 n_6 f_7 _ hw) (cwV 1 hts (wb_V wt_593 wt_595 wt_23 wt_30 wt_596) rfl rfl rfl (by decide +kernel) ⟨Nat.le_of_ble_eq_true rfl, Nat.le_of_ble_eq_true rfl⟩) (ct_preV hK hP (hDa _ _) hZ hS hA (va_recv hK hP (ci := 3) (q0 := 18) rfl rfl)) rfl rfl hl.1 rfl (lv_room (Nat.le_of_ble_eq_true rfl)) dM_like_28 ⟨Nat.le_of_ble_eq_true rfl, Nat.le_of_ble_eq_true rfl⟩) (hDa _ _) hS hA (fun r9 n_10 f_11 H locs hw hP hS => ?_)
      exact W.iret (v := r9) hx hb hr (fun t ht hW => ⟨⟨r9, (n_10, f_11), rfl, hw, ct_mkB ht hP⟩, hS.F ht⟩) hS.2.2 dM_like_31
    · have hw := hw.2 c8
      refine lv_iconst (v := 0) hx hb dM_like_22 (by decide) ?_
      refine lv_goto (tgt := 31) hx hb dM_like_23 (by decide) ?_
      exact W.iret (v := 0) hx hb hr (fun t ht hW => ⟨⟨0, (n_6, f_7), rfl, hw, ct_mkB ht hP⟩, hS.F ht⟩) hS.2.2 dM_like_31
  · have hw := hw.2 c4
    refine lv_iconst (v := 1) hx hb dM_like_9 (by decide) ?_
    refine lv_goto (tgt := 14) hx hb dM_like_10 (by decide) ?_
    refine lv_iconst (v := 0) hx hb dM_like_14 (by decide) ?_
    refine lv_iconst (v := 0) hx hb dM_like_15 (by decide) ?_
    refine ct_i (va_runV (As := [.int 1, .int 0, .int 0]) (rest := []) ⟨hx, hb, hml, hown, hts⟩ (met_M_refuse l dC dI a cA sa 1 0 0 n_2 f_3 _ hw) (cwV 3 hts (wb_V wt_521 wt_523 wt_14 wt_30 wt_524) rfl rfl rfl (by decide +kernel) ⟨Nat.le_of_ble_eq_true rfl, Nat.le_of_ble_eq_true rfl⟩) (ct_preV hK hP (hDa _ _) hZ hS hA (va_recv hK hP (ci := 3) (q0 := 18) rfl rfl)) rfl rfl hl.1 rfl (lv_room (Nat.le_of_ble_eq_true rfl)) dM_like_16 ⟨Nat.le_of_ble_eq_true rfl, Nat.le_of_ble_eq_true rfl⟩) (hDa _ _) hS hA (fun r12 n_13 f_14 H locs hw hP hS => ?_)
    refine lv_if_eq (tgt := 26) hx hb dM_like_19 (by decide) (fun c15 => ?_) (fun c15 => ?_)
    · have hw := hw.1 c15
      refine lv_aload_n hx hb dM_like_26 rfl (lv_at hl 0 rfl) ?_
      refine lv_iload_n hx hb dM_like_27 rfl (lv_at hl 1 rfl) ?_
      refine ct_i (va_runV (As := [.int p1]) (rest := []) ⟨hx, hb, hml, hown, hts⟩ (met_M_likeOf l dC dI a cA sa p1 n_13 f_14 _ hw) (cwV 1 hts (wb_V wt_593 wt_595 wt_23 wt_30 wt_596) rfl rfl rfl (by decide +kernel) ⟨Nat.le_of_ble_eq_true rfl, Nat.le_of_ble_eq_true rfl⟩) (ct_preV hK hP (hDa _ _) hZ hS hA (va_recv hK hP (ci := 3) (q0 := 18) rfl rfl)) rfl rfl hl.1 rfl (lv_room (Nat.le_of_ble_eq_true rfl)) dM_like_28 ⟨Nat.le_of_ble_eq_true rfl, Nat.le_of_ble_eq_true rfl⟩) (hDa _ _) hS hA (fun r16 n_17 f_18 H locs hw hP hS => ?_)
      exact W.iret (v := r16) hx hb hr (fun t ht hW => ⟨⟨r16, (n_17, f_18), rfl, hw, ct_mkB ht hP⟩, hS.F ht⟩) hS.2.2 dM_like_31
    · have hw := hw.2 c15
      refine lv_iconst (v := 0) hx hb dM_like_22 (by decide) ?_
      refine lv_goto (tgt := 31) hx hb dM_like_23 (by decide) ?_
      exact W.iret (v := 0) hx hb hr (fun t ht hW => ⟨⟨0, (n_13, f_14), rfl, hw, ct_mkB ht hP⟩, hS.F ht⟩) hS.2.2 dM_like_31
def wp_M_states_L9 (post : Int32 → ctN → ctF → Prop) : Nat → Int32 → Int32 → ctN → ctF → Prop
  | 0, _, _, _, _ => False
  | k + 1, x1, x2, n, f => ((n 6) ≤ x2 → (post x1 n f)) ∧ (¬ (n 6) ≤ x2 → (wp_M_likeOf (fun (r3 : Int32) (n_4 : ctN) (f_5 : ctF) => (¬ r3 = x2 → (∀ x2_7 : Int32, x2_7 = x2 + 1 → (wp_M_states_L9 post k x1 x2_7 n_4 f_5))) ∧ (r3 = x2 → (∀ x1_8 : Int32, x1_8 = (x1 + 1) → (∀ x2_9 : Int32, x2_9 = x2 + 1 → (wp_M_states_L9 post k x1_8 x2_9 n_4 f_5))))) x2 n f))
def wp_M_states (post : Int32 → ctN → ctF → Prop) (n : ctN) (f : ctF) : Prop := ∀ n_1 : ctN, n_1 = va_up n 3 0 → (∃ j, wp_M_states_L9 post j 0 0 n_1 f)
set_option maxHeartbeats 4000000 in
set_option maxRecDepth 100000 in
theorem met_M_states (l : Launch) (dC : Nat → ClassId) (dI : Nat → Nat → Nat) (a : Nat → Nat) (cA : Nat → ClassId) (sa : Nat → Nat) (n : ctN) (f : ctF) (sz : Nat) {post : Int32 → ctN → ctF → Prop} (hw : wp_M_states post n f) : Met l yM_states wsM_states ({ frames := 3, cells := 0, slots := 0, locals := 74 } : Room) (ct_Pc dC dI a cA sa [.ref (a 18)] n f sz) (va_Qi (fun (r : Int32) (u : ctN × ctF) => post r u.1 u.2) (ct_B dC dI a cA) (va_A (ctW a cA n f) sz)) 0 0 (va_A (ctW a cA n f) sz) := by
  refine Met.ofW (cc := cM_states) (maxL := 3) (ret := (some .int)) (by decide) rfl ?_
  intro p e s m args below meth c s₁ B hml hv
  obtain ⟨rfl, hsz, hP, hK, hD0, hZ⟩ := hv
  have hx := B.exec
  have hb := B.bytes
  have hr := B.returns
  have hts := atoms_spec (ws := wsM_states) B.pre
  have hown : s.vm.findClass RM = some m.cls := findClass_of_methodNamed B.named
  have hlocks := B.notSynchronized
  subst hsz
  have hD := hD0.self (sz := s.heap.size)
  generalize hAe : va_A (ctW a cA n f) s.heap.size = A at hD hZ ⊢
  have hDa : ∀ (n : ctN) (f : ctF), va_D A (ctW a cA n f) := fun _ _ => ct_D hD
  have hA : ∀ q : Nat, s.heap.size ≤ q → A q := fun q h => by rw [← hAe]; exact Or.inr h
  have hS : va_S A s.heap s.heap [] := va_S.rf
  have hl := lv_entry ([.ref (a 18)]) (n := 3) (Nat.le_of_ble_eq_true rfl)
  rw [lg_entry_eq]
  generalize (lg_sl ([.ref (a 18)]) ++ List.replicate (3 - (lg_sl ([.ref (a 18)])).length) Slot.unset).toArray = ls at hl ⊢
  have hl : lv_has ls 3 [(0, .ref (a 18))] := hl
  unfold wp_M_states at hw
  have loop_9 : ∀ (k : Nat) (x1 x2 : Int32) (n : ctN) (f : ctF) (H : Heap) (locs : List Loc) (ls : Array Slot), wp_M_states_L9 post k x1 x2 n f → va_P (dC, dI) vcl (ctW a cA n f) H → va_S A s.heap H locs → lv_has ls 3 [(0, .ref (a 18)), (1, .int x1), (2, .int x2)] → W p l e (headSpec wsM_states ({ frames := 3, cells := 0, slots := 0, locals := 74 } : Room)).room s m (([.ref (a 18)] : List Value).toArray) below meth c H locs 0 0 (MQ below (va_Qi (fun (r : Int32) (u : ctN × ctF) => post r u.1 u.2) (ct_B dC dI a cA) A) (([.ref (a 18)] : List Value).toArray) s 0 0 A) (F0 m 9 ls []) := by
    intro k
    induction k with
    | zero => intro x1 x2 n f H locs ls hw; exact hw.elim
    | succ k ih =>
      intro x1 x2 n f H locs ls hw hP hS hl
      rw [wp_M_states_L9] at hw
      refine lv_iload_n hx hb dM_states_9 rfl (lv_at hl 2 rfl) ?_
      refine lv_aload_n hx hb dM_states_10 rfl (lv_at hl 0 rfl) ?_
      refine va_get (D := (dC, dI)) (ci := 3) (v := .int (n 6)) (C := RM) (T := TM) (N := 19) hx hb hts (fun w h => List.mem_cons_of_mem _ (inM w h)) hown hK hP 18 rfl rfl 9 (by decide) (hts (.fieldLink RM 60 "CoverTreesModel" "nodes" "I") (List.mem_cons_of_mem _ wt_453)) (fun _ h9 => h9) rfl dM_states_11 ?_
      refine lv_icmp_ge (tgt := 40) hx hb dM_states_14 (by decide) (fun c2 => ?_) (fun c2 => ?_)
      · have hw := hw.1 c2
        refine lv_iload_n hx hb dM_states_40 rfl (lv_at hl 1 rfl) ?_
        exact W.iret (v := x1) hx hb hr (fun t ht hW => ⟨⟨x1, (n, f), rfl, hw, ct_mkB ht hP⟩, hS.F ht⟩) hS.2.2 dM_states_41
      · have hw := hw.2 c2
        refine lv_aload_n hx hb dM_states_17 rfl (lv_at hl 0 rfl) ?_
        refine lv_iload_n hx hb dM_states_18 rfl (lv_at hl 2 rfl) ?_
        refine ct_i (va_runV (As := [.int x2]) (rest := []) ⟨hx, hb, hml, hown, hts⟩ (met_M_likeOf l dC dI a cA sa x2 n f _ hw) (cwV 1 hts (wb_V wt_593 wt_595 wt_23 wt_30 wt_596) rfl rfl rfl (by decide +kernel) ⟨Nat.le_of_ble_eq_true rfl, Nat.le_of_ble_eq_true rfl⟩) (ct_preV hK hP (hDa _ _) hZ hS hA (va_recv hK hP (ci := 3) (q0 := 18) rfl rfl)) rfl rfl hl.1 rfl (lv_room (Nat.le_of_ble_eq_true rfl)) dM_states_19 ⟨Nat.le_of_ble_eq_true rfl, Nat.le_of_ble_eq_true rfl⟩) (hDa _ _) hS hA (fun r3 n_4 f_5 H locs hw hP hS => ?_)
        refine lv_iload_n hx hb dM_states_22 rfl (lv_at hl 2 rfl) ?_
        refine lv_icmp_ne (tgt := 32) hx hb dM_states_23 (by decide) (fun c6 => ?_) (fun c6 => ?_)
        · have hw := hw.1 c6
          refine lv_iload_n hx hb dM_states_32 rfl (lv_at hl 1 rfl) ?_
          refine lv_istore_n (lv' := [(1, .int x1), (0, .ref (a 18)), (2, .int x2)]) hx hb dM_states_33 rfl hl (by decide) rfl (fun ls hl => ?_)
          obtain ⟨x2_7, ex2_7⟩ : ∃ y : Int32, y = x2 + 1 := ⟨_, rfl⟩
          have hw := hw x2_7 ex2_7
          refine lv_iinc (v := x2_7) (lv' := [(2, .int x2_7), (1, .int x1), (0, .ref (a 18))]) hx hb dM_states_34 hl (k := 2) rfl (by rw [ex2_7]; rfl) (by decide) rfl (fun ls hl => ?_)
          refine lv_goto (tgt := 9) hx hb dM_states_37 (by decide) ?_
          exact ih x1 x2_7 n_4 f_5 _ _ ls hw hP hS (lv_sub hl [2, 1, 0] rfl)
        · have hw := hw.2 c6
          refine lv_iload_n hx hb dM_states_26 rfl (lv_at hl 1 rfl) ?_
          refine lv_iconst (v := 1) hx hb dM_states_27 (by decide) ?_
          refine lv_iadd hx hb dM_states_28 ?_
          refine lv_goto (tgt := 33) hx hb dM_states_29 (by decide) ?_
          refine lv_topi (fun x1_8 ex1_8 => ?_)
          have hw := hw x1_8 ex1_8
          refine lv_istore_n (lv' := [(1, .int x1_8), (0, .ref (a 18)), (2, .int x2)]) hx hb dM_states_33 rfl hl (by decide) rfl (fun ls hl => ?_)
          obtain ⟨x2_9, ex2_9⟩ : ∃ y : Int32, y = x2 + 1 := ⟨_, rfl⟩
          have hw := hw x2_9 ex2_9
          refine lv_iinc (v := x2_9) (lv' := [(2, .int x2_9), (1, .int x1_8), (0, .ref (a 18))]) hx hb dM_states_34 hl (k := 2) rfl (by rw [ex2_9]; rfl) (by decide) rfl (fun ls hl => ?_)
          refine lv_goto (tgt := 9) hx hb dM_states_37 (by decide) ?_
          exact ih x1_8 x2_9 n_4 f_5 _ _ ls hw hP hS (lv_sub hl [2, 1, 0] rfl)
  refine lv_aload_n hx hb dM_states_0 rfl (lv_at hl 0 rfl) ?_
  refine lv_iconst (v := 0) hx hb dM_states_1 (by decide) ?_
  refine va_put (D := (dC, dI)) (ci := 3) (v := .int 0) (ty := .int) (C := RM) (T := TM) (N := 19) hx hb hts (fun w h => List.mem_cons_of_mem _ (inM w h)) tyM tyM_ok nmM hown hK hP (hDa _ _) hS 18 rfl rfl 0 (by decide) (hts (.fieldLink RM 50 "CoverTreesModel" "thrown" "I") (List.mem_cons_of_mem _ wt_444)) (fun _ h9 => h9) rfl (by decide +kernel) rfl rfl (Nat.le_of_ble_eq_true rfl) dM_states_2 (fun H locs hP _ hS => ?_)
  obtain ⟨n_1, en_1⟩ : ∃ z : ctN, z = va_up n 3 0 := ⟨_, rfl⟩
  have hw := hw n_1 en_1
  have hP : va_P (dC, dI) vcl (ctW a cA n_1 f) H := by rw [en_1]; exact hP
  refine lv_iconst (v := 0) hx hb dM_states_5 (by decide) ?_
  refine lv_istore_n (lv' := [(1, .int 0), (0, .ref (a 18))]) hx hb dM_states_6 rfl hl (by decide) rfl (fun ls hl => ?_)
  refine lv_iconst (v := 0) hx hb dM_states_7 (by decide) ?_
  refine lv_istore_n (lv' := [(2, .int 0), (1, .int 0), (0, .ref (a 18))]) hx hb dM_states_8 rfl hl (by decide) rfl (fun ls hl => ?_)
  obtain ⟨j, hw⟩ := hw
  exact loop_9 j 0 0 n_1 f _ _ ls hw hP hS (lv_sub hl [2, 1, 0] rfl)
