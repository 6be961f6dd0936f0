def wp_C_isGoal (post : Int32 → ctN → ctF → Prop) (p0 : Int32) (n : ctN) (f : ctF) : Prop := (p0 < 0 → (post 0 n f)) ∧ (¬ p0 < 0 → ((8 ≤ p0 → (post 0 n f)) ∧ (¬ 8 ≤ p0 → (post 1 n f))))
set_option maxHeartbeats 4000000 in
set_option maxRecDepth 100000 in
theorem met_C_isGoal (l : Launch) (dC : Nat → ClassId) (dI : Nat → Nat → Nat) (a : Nat → Nat) (cA : Nat → ClassId) (sa : Nat → Nat) (p0 : Int32) (n : ctN) (f : ctF) (sz : Nat) {post : Int32 → ctN → ctF → Prop} (hw : wp_C_isGoal post p0 n f) : Met l yC_isGoal wsC_isGoal ({ frames := 0, cells := 0, slots := 0, locals := 0 } : Room) (ct_Pc dC dI a cA sa [.int p0] n f sz) (va_Qi (fun (r : Int32) (u : ctN × ctF) => post r u.1 u.2) (ct_B dC dI a cA) (va_A (ctW a cA n f) sz)) 0 0 (va_A (ctW a cA n f) sz) := by
  refine Met.ofW (cc := cC_isGoal) (maxL := 1) (ret := (some .boolean)) (by decide) rfl ?_
  intro p e s m args below meth c s₁ B hml hv
  obtain ⟨rfl, hsz, hP, hK, hD0, hZ⟩ := hv
  have hx := B.exec
  have hb := B.bytes
  have hr := B.returns
  have hts := atoms_spec (ws := wsC_isGoal) B.pre
  have hown : s.vm.findClass RC = some m.cls := findClass_of_methodNamed B.named
  have hlocks := B.notSynchronized
  subst hsz
  have hD := hD0.self (sz := s.heap.size)
  generalize hAe : va_A (ctW a cA n f) s.heap.size = A at hD hZ ⊢
  have hDa : ∀ (n : ctN) (f : ctF), va_D A (ctW a cA n f) := fun _ _ => ct_D hD
  have hA : ∀ q : Nat, s.heap.size ≤ q → A q := fun q h => by rw [← hAe]; exact Or.inr h
  have hS : va_S A s.heap s.heap [] := va_S.rf
  have hl := lv_entry ([.int p0]) (n := 1) (Nat.le_of_ble_eq_true rfl)
  rw [lg_entry_eq]
  generalize (lg_sl ([.int p0]) ++ List.replicate (1 - (lg_sl ([.int p0])).length) Slot.unset).toArray = ls at hl ⊢
  have hl : lv_has ls 1 [(0, .int p0)] := hl
  unfold wp_C_isGoal at hw
  refine lv_iload_n hx hb dC_isGoal_0 rfl (lv_at hl 0 rfl) ?_
  refine lv_if_lt (tgt := 14) hx hb dC_isGoal_1 (by decide) (fun c1 => ?_) (fun c1 => ?_)
  · have hw := hw.1 c1
    refine lv_iconst (v := 0) hx hb dC_isGoal_14 (by decide) ?_
    exact W.zret (v := 0) hx hb hr rfl (fun t ht hW => ⟨⟨0, (n, f), rfl, hw, ct_mkB ht hP⟩, hS.F ht⟩) hS.2.2 dC_isGoal_15
  · have hw := hw.2 c1
    refine lv_iload_n hx hb dC_isGoal_4 rfl (lv_at hl 0 rfl) ?_
    refine lv_bipush (v := 8) hx hb dC_isGoal_5 (by decide) ?_
    refine lv_icmp_ge (tgt := 14) hx hb dC_isGoal_7 (by decide) (fun c2 => ?_) (fun c2 => ?_)
    · have hw := hw.1 c2
      refine lv_iconst (v := 0) hx hb dC_isGoal_14 (by decide) ?_
      exact W.zret (v := 0) hx hb hr rfl (fun t ht hW => ⟨⟨0, (n, f), rfl, hw, ct_mkB ht hP⟩, hS.F ht⟩) hS.2.2 dC_isGoal_15
    · have hw := hw.2 c2
      refine lv_iconst (v := 1) hx hb dC_isGoal_10 (by decide) ?_
      refine lv_goto (tgt := 15) hx hb dC_isGoal_11 (by decide) ?_
      exact W.zret (v := 1) hx hb hr rfl (fun t ht hW => ⟨⟨1, (n, f), rfl, hw, ct_mkB ht hP⟩, hS.F ht⟩) hS.2.2 dC_isGoal_15
def wp_C_place (post : Int32 → ctN → ctF → Prop) (p0 : Int32) (p1 : Int32) (n : ctN) (f : ctF) : Prop := post ((p0 * 8) + p1) n f
set_option maxHeartbeats 4000000 in
set_option maxRecDepth 100000 in
theorem met_C_place (l : Launch) (dC : Nat → ClassId) (dI : Nat → Nat → Nat) (a : Nat → Nat) (cA : Nat → ClassId) (sa : Nat → Nat) (p0 : Int32) (p1 : Int32) (n : ctN) (f : ctF) (sz : Nat) {post : Int32 → ctN → ctF → Prop} (hw : wp_C_place post p0 p1 n f) : Met l yC_place wsC_place ({ frames := 0, cells := 0, slots := 0, locals := 0 } : Room) (ct_Pc dC dI a cA sa [.int p0, .int p1] n f sz) (va_Qi (fun (r : Int32) (u : ctN × ctF) => post r u.1 u.2) (ct_B dC dI a cA) (va_A (ctW a cA n f) sz)) 0 0 (va_A (ctW a cA n f) sz) := by
  refine Met.ofW (cc := cC_place) (maxL := 2) (ret := (some .int)) (by decide) rfl ?_
  intro p e s m args below meth c s₁ B hml hv
  obtain ⟨rfl, hsz, hP, hK, hD0, hZ⟩ := hv
  have hx := B.exec
  have hb := B.bytes
  have hr := B.returns
  have hts := atoms_spec (ws := wsC_place) B.pre
  have hown : s.vm.findClass RC = some m.cls := findClass_of_methodNamed B.named
  have hlocks := B.notSynchronized
  subst hsz
  have hD := hD0.self (sz := s.heap.size)
  generalize hAe : va_A (ctW a cA n f) s.heap.size = A at hD hZ ⊢
  have hDa : ∀ (n : ctN) (f : ctF), va_D A (ctW a cA n f) := fun _ _ => ct_D hD
  have hA : ∀ q : Nat, s.heap.size ≤ q → A q := fun q h => by rw [← hAe]; exact Or.inr h
  have hS : va_S A s.heap s.heap [] := va_S.rf
  have hl := lv_entry ([.int p0, .int p1]) (n := 2) (Nat.le_of_ble_eq_true rfl)
  rw [lg_entry_eq]
  generalize (lg_sl ([.int p0, .int p1]) ++ List.replicate (2 - (lg_sl ([.int p0, .int p1])).length) Slot.unset).toArray = ls at hl ⊢
  have hl : lv_has ls 2 [(0, .int p0), (1, .int p1)] := hl
  unfold wp_C_place at hw
  refine lv_iload_n hx hb dC_place_0 rfl (lv_at hl 0 rfl) ?_
  refine lv_bipush (v := 8) hx hb dC_place_1 (by decide) ?_
  refine lv_imul hx hb dC_place_3 ?_
  refine lv_iload_n hx hb dC_place_4 rfl (lv_at hl 1 rfl) ?_
  refine lv_iadd hx hb dC_place_5 ?_
  exact W.iret (v := ((p0 * 8) + p1)) hx hb hr (fun t ht hW => ⟨⟨((p0 * 8) + p1), (n, f), rfl, hw, ct_mkB ht hP⟩, hS.F ht⟩) hS.2.2 dC_place_6
def wp_C_checkRuleCost (post : ctN → ctF → Prop) (xp : String → ctN → ctF → Prop) (p0 : Int32) (n : ctN) (f : ctF) : Prop := (p0 < 0 → (xp "java/lang/IllegalArgumentException" n f)) ∧ (¬ p0 < 0 → ((p0 ≤ 20 → (post n f)) ∧ (¬ p0 ≤ 20 → (xp "java/lang/IllegalArgumentException" n f))))
set_option maxHeartbeats 4000000 in
set_option maxRecDepth 100000 in
theorem met0_C_checkRuleCost (l : Launch) (dC : Nat → ClassId) (dI : Nat → Nat → Nat) (a : Nat → Nat) (cA : Nat → ClassId) (sa : Nat → Nat) (p0 : Int32) (n : ctN) (f : ctF) (sz : Nat) {post : ctN → ctF → Prop} (hw : wp_C_checkRuleCost post xF p0 n f) : Met l yC_checkRuleCost wsC_checkRuleCost ({ frames := 6, cells := 0, slots := 0, locals := 90 } : Room) (ct_Pc dC dI a cA sa [.int p0] n f sz) (va_Qv (fun (u : ctN × ctF) => post u.1 u.2) (ct_B dC dI a cA) (va_A (ctW a cA n f) sz)) 0 0 (va_A (ctW a cA n f) sz) := by
  refine Met.ofW (cc := cC_checkRuleCost) (maxL := 1) (ret := none) (by decide) rfl ?_
  intro p e s m args below meth c s₁ B hml hv
  obtain ⟨rfl, hsz, hP, hK, hD0, hZ⟩ := hv
  have hx := B.exec
  have hb := B.bytes
  have hr := B.returns
  have hts := atoms_spec (ws := wsC_checkRuleCost) B.pre
  have hown : s.vm.findClass RC = some m.cls := findClass_of_methodNamed B.named
  have hlocks := B.notSynchronized
  subst hsz
  have hD := hD0.self (sz := s.heap.size)
  generalize hAe : va_A (ctW a cA n f) s.heap.size = A at hD hZ ⊢
  have hDa : ∀ (n : ctN) (f : ctF), va_D A (ctW a cA n f) := fun _ _ => ct_D hD
  have hA : ∀ q : Nat, s.heap.size ≤ q → A q := fun q h => by rw [← hAe]; exact Or.inr h
  have hS : va_S A s.heap s.heap [] := va_S.rf
  have hl := lv_entry ([.int p0]) (n := 1) (Nat.le_of_ble_eq_true rfl)
  rw [lg_entry_eq]
  generalize (lg_sl ([.int p0]) ++ List.replicate (1 - (lg_sl ([.int p0])).length) Slot.unset).toArray = ls at hl ⊢
  have hl : lv_has ls 1 [(0, .int p0)] := hl
  unfold wp_C_checkRuleCost at hw
  refine lv_iload_n hx hb dC_checkRuleCost_0 rfl (lv_at hl 0 rfl) ?_
  refine lv_if_lt (tgt := 10) hx hb dC_checkRuleCost_1 (by decide) (fun c1 => ?_) (fun c1 => ?_)
  · have hw := hw.1 c1
    exact False.elim hw
  · have hw := hw.2 c1
    refine lv_iload_n hx hb dC_checkRuleCost_4 rfl (lv_at hl 0 rfl) ?_
    refine lv_bipush (v := 20) hx hb dC_checkRuleCost_5 (by decide) ?_
    refine lv_icmp_le (tgt := 20) hx hb dC_checkRuleCost_7 (by decide) (fun c2 => ?_) (fun c2 => ?_)
    · have hw := hw.1 c2
      exact W.vret hx hb hr (fun t ht hW => ⟨⟨(n, f), rfl, hw, ct_mkB ht hP⟩, hS.F ht⟩) hS.2.2 dC_checkRuleCost_20
    · have hw := hw.2 c2
      exact False.elim hw
set_option maxHeartbeats 4000000 in
set_option maxRecDepth 100000 in
theorem metx_C_checkRuleCost (l : Launch) (hl9 : l.stackTraces = false) (dC : Nat → ClassId) (dI : Nat → Nat → Nat) (a : Nat → Nat) (cA : Nat → ClassId) (sa : Nat → Nat) (p0 : Int32) (n : ctN) (f : ctF) (sz : Nat) {xp : String → ctN → ctF → Prop} (hw : wp_C_checkRuleCost pFv xp p0 n f) : vx_Met l yC_checkRuleCost wsC_checkRuleCost ({ frames := 6, cells := 1, slots := 6, locals := 90 } : Room) (ct_Pc dC dI a cA sa [.int p0] n f sz) (va_Qv (fun (u : ctN × ctF) => pFv u.1 u.2) (ct_B dC dI a cA) (va_A (ctW a cA n f) sz)) (vx_X (fun (_ : ctN × ctF) => True) (fun E u t => xp E u.1 u.2 ∧ ct_B dC dI a cA u t) (va_A (ctW a cA n f) sz)) 1 6 (va_A (ctW a cA n f) sz) := by
  refine vx_ofW (cc := cC_checkRuleCost) (maxL := 1) (ret := none) (by decide) rfl ?_
  intro p e s m args below meth c s₁ B hml htb hv
  obtain ⟨rfl, hsz, hP, hK, hD0, hZ⟩ := hv
  have hx := B.exec
  have hb := B.bytes
  have hr := B.returns
  have hts := atoms_spec (ws := wsC_checkRuleCost) B.pre
  have hown : s.vm.findClass RC = some m.cls := findClass_of_methodNamed B.named
  have hlocks := B.notSynchronized
  subst hsz
  have hD := hD0.self (sz := s.heap.size)
  generalize hAe : va_A (ctW a cA n f) s.heap.size = A at hD hZ ⊢
  have hDa : ∀ (n : ctN) (f : ctF), va_D A (ctW a cA n f) := fun _ _ => ct_D hD
  have hA : ∀ q : Nat, s.heap.size ≤ q → A q := fun q h => by rw [← hAe]; exact Or.inr h
  have hS : va_S A s.heap s.heap [] := va_S.rf
  have hl := lv_entry ([.int p0]) (n := 1) (Nat.le_of_ble_eq_true rfl)
  rw [lg_entry_eq]
  generalize (lg_sl ([.int p0]) ++ List.replicate (1 - (lg_sl ([.int p0])).length) Slot.unset).toArray = ls at hl ⊢
  have hl : lv_has ls 1 [(0, .int p0)] := hl
  unfold wp_C_checkRuleCost at hw
  refine lv_iload_n hx hb dC_checkRuleCost_0 rfl (lv_at hl 0 rfl) ?_
  refine lv_if_lt (tgt := 10) hx hb dC_checkRuleCost_1 (by decide) (fun c1 => ?_) (fun c1 => ?_)
  · have hw := hw.1 c1
    exact vx_throwS (own := RC) (cls := "java/lang/IllegalArgumentException") (text := "a rule costs 0 to 20") (names := ["java/lang/RuntimeException", "java/lang/Exception"]) (ik := 35) (is := 137) (ic := 39) (sa := sa 4) hx hb hl9 hown (by decide +kernel) (by decide +kernel) (hts (.classLink RC 35 "java/lang/IllegalArgumentException") (List.mem_cons_of_mem _ wt_166)) (hts (.initialized "java/lang/IllegalArgumentException") (List.mem_cons_of_mem _ wt_34)) hZ.2.2.2.2.2.2.2.2.2.2.2.2.2.2.1 (vx_hat (L := vx_atS RC 39 "java/lang/IllegalArgumentException" ["java/lang/RuntimeException", "java/lang/Exception"]) (B := [.castable "java/lang/IllegalArgumentException" "java/lang/IllegalArgumentException", .declares ⟨"java/lang/RuntimeException", "<init>", "(Ljava/lang/String;)V"⟩, .declares ⟨"java/lang/Exception", "<init>", "(Ljava/lang/String;)V"⟩, .declares ⟨"java/lang/Throwable", "<init>", "(Ljava/lang/String;)V"⟩]) (fun w hw => hts w (List.mem_cons_of_mem _ (at_C_39 w hw))) bd_C_39 (vx_c (va_Nw.use rfl hZ.2.1) (vx_c (va_Nw.use rfl hZ.2.2.2.2.1) (vx_c (va_Nw.use rfl hZ.2.2.2.2.2.1) (vx_c (va_Nw.use rfl hZ.2.2.2.2.2.2.1) (vx_n)))))) gd_C_39 hZ.2.2.2.2.2.2.2.2.2.2.2.2.2.2.2.2.2.2.2.2.2.2.2.2.2.2.1 hZ.2.2.2.2.2.2.2.2.2.2.2.2.2.2.2.2.2.2.2.2.2.2.2.2.2.2.2 hS (hl.1.trans hml.symm) dC_checkRuleCost_10 dC_checkRuleCost_13 dC_checkRuleCost_14 dC_checkRuleCost_16 dC_checkRuleCost_19 (fun x h => (htb x h).elim) (Nat.le_of_ble_eq_true rfl) (Nat.le_of_ble_eq_true rfl) (Nat.le_of_ble_eq_true rfl) (Nat.le_of_ble_eq_true rfl) hlocks (fun t _ h1 h2 => ⟨(n, f), trivial, ⟨hw, (ct_thr hP hS h1 h2).1⟩, (ct_thr hP hS h1 h2).2⟩) hS.2.2 (Nat.le_of_ble_eq_true rfl) (Nat.le_of_ble_eq_true rfl)
  · have hw := hw.2 c1
    refine lv_iload_n hx hb dC_checkRuleCost_4 rfl (lv_at hl 0 rfl) ?_
    refine lv_bipush (v := 20) hx hb dC_checkRuleCost_5 (by decide) ?_
    refine lv_icmp_le (tgt := 20) hx hb dC_checkRuleCost_7 (by decide) (fun c2 => ?_) (fun c2 => ?_)
    · have hw := hw.1 c2
      exact False.elim hw
    · have hw := hw.2 c2
      exact vx_throwS (own := RC) (cls := "java/lang/IllegalArgumentException") (text := "a rule costs 0 to 20") (names := ["java/lang/RuntimeException", "java/lang/Exception"]) (ik := 35) (is := 137) (ic := 39) (sa := sa 4) hx hb hl9 hown (by decide +kernel) (by decide +kernel) (hts (.classLink RC 35 "java/lang/IllegalArgumentException") (List.mem_cons_of_mem _ wt_166)) (hts (.initialized "java/lang/IllegalArgumentException") (List.mem_cons_of_mem _ wt_34)) hZ.2.2.2.2.2.2.2.2.2.2.2.2.2.2.1 (vx_hat (L := vx_atS RC 39 "java/lang/IllegalArgumentException" ["java/lang/RuntimeException", "java/lang/Exception"]) (B := [.castable "java/lang/IllegalArgumentException" "java/lang/IllegalArgumentException", .declares ⟨"java/lang/RuntimeException", "<init>", "(Ljava/lang/String;)V"⟩, .declares ⟨"java/lang/Exception", "<init>", "(Ljava/lang/String;)V"⟩, .declares ⟨"java/lang/Throwable", "<init>", "(Ljava/lang/String;)V"⟩]) (fun w hw => hts w (List.mem_cons_of_mem _ (at_C_39 w hw))) bd_C_39 (vx_c (va_Nw.use rfl hZ.2.1) (vx_c (va_Nw.use rfl hZ.2.2.2.2.1) (vx_c (va_Nw.use rfl hZ.2.2.2.2.2.1) (vx_c (va_Nw.use rfl hZ.2.2.2.2.2.2.1) (vx_n)))))) gd_C_39 hZ.2.2.2.2.2.2.2.2.2.2.2.2.2.2.2.2.2.2.2.2.2.2.2.2.2.2.1 hZ.2.2.2.2.2.2.2.2.2.2.2.2.2.2.2.2.2.2.2.2.2.2.2.2.2.2.2 hS (hl.1.trans hml.symm) dC_checkRuleCost_10 dC_checkRuleCost_13 dC_checkRuleCost_14 dC_checkRuleCost_16 dC_checkRuleCost_19 (fun x h => (htb x h).elim) (Nat.le_of_ble_eq_true rfl) (Nat.le_of_ble_eq_true rfl) (Nat.le_of_ble_eq_true rfl) (Nat.le_of_ble_eq_true rfl) hlocks (fun t _ h1 h2 => ⟨(n, f), trivial, ⟨hw, (ct_thr hP hS h1 h2).1⟩, (ct_thr hP hS h1 h2).2⟩) hS.2.2 (Nat.le_of_ble_eq_true rfl) (Nat.le_of_ble_eq_true rfl)
def wp_C_checkRoomForRule (post : ctN → ctF → Prop) (xp : String → ctN → ctF → Prop) (n : ctN) (f : ctF) : Prop := ((n 1) < 40 → (post n f)) ∧ (¬ (n 1) < 40 → (xp "java/lang/UnsupportedOperationException" n f))
set_option maxHeartbeats 4000000 in
set_option maxRecDepth 100000 in
theorem met0_C_checkRoomForRule (l : Launch) (dC : Nat → ClassId) (dI : Nat → Nat → Nat) (a : Nat → Nat) (cA : Nat → ClassId) (sa : Nat → Nat) (n : ctN) (f : ctF) (sz : Nat) {post : ctN → ctF → Prop} (hw : wp_C_checkRoomForRule post xF n f) : Met l yC_checkRoomForRule wsC_checkRoomForRule ({ frames := 6, cells := 0, slots := 0, locals := 90 } : Room) (ct_Pc dC dI a cA sa [.ref (a 0)] n f sz) (va_Qv (fun (u : ctN × ctF) => post u.1 u.2) (ct_B dC dI a cA) (va_A (ctW a cA n f) sz)) 0 0 (va_A (ctW a cA n f) sz) := by
  refine Met.ofW (cc := cC_checkRoomForRule) (maxL := 1) (ret := none) (by decide) rfl ?_
  intro p e s m args below meth c s₁ B hml hv
  obtain ⟨rfl, hsz, hP, hK, hD0, hZ⟩ := hv
  have hx := B.exec
  have hb := B.bytes
  have hr := B.returns
  have hts := atoms_spec (ws := wsC_checkRoomForRule) B.pre
  have hown : s.vm.findClass RC = some m.cls := findClass_of_methodNamed B.named
  have hlocks := B.notSynchronized
  subst hsz
  have hD := hD0.self (sz := s.heap.size)
  generalize hAe : va_A (ctW a cA n f) s.heap.size = A at hD hZ ⊢
  have hDa : ∀ (n : ctN) (f : ctF), va_D A (ctW a cA n f) := fun _ _ => ct_D hD
  have hA : ∀ q : Nat, s.heap.size ≤ q → A q := fun q h => by rw [← hAe]; exact Or.inr h
  have hS : va_S A s.heap s.heap [] := va_S.rf
  have hl := lv_entry ([.ref (a 0)]) (n := 1) (Nat.le_of_ble_eq_true rfl)
  rw [lg_entry_eq]
  generalize (lg_sl ([.ref (a 0)]) ++ List.replicate (1 - (lg_sl ([.ref (a 0)])).length) Slot.unset).toArray = ls at hl ⊢
  have hl : lv_has ls 1 [(0, .ref (a 0))] := hl
  unfold wp_C_checkRoomForRule at hw
  refine lv_aload_n hx hb dC_checkRoomForRule_0 rfl (lv_at hl 0 rfl) ?_
  refine va_get (D := (dC, dI)) (ci := 0) (v := .ref (a 1)) (C := RC) (T := TC) (N := 2) hx hb hts (fun w h => List.mem_cons_of_mem _ (inC w h)) hown hK hP 0 rfl rfl 0 (by decide) (hts (.fieldLink RC 12 "CoverTrees" "grammar" "LCoverTrees$Grammar;") (List.mem_cons_of_mem _ wt_134)) (fun _ h9 => h9) rfl dC_checkRoomForRule_1 ?_
  refine va_get (D := (dC, dI)) (ci := 1) (v := .int (n 1)) (C := RG) (T := TG) (N := 8) hx hb hts (fun w h => List.mem_cons_of_mem _ (inG w h)) hown hK hP 1 rfl rfl 2 (by decide) (hts (.fieldLink RC 29 "CoverTrees$Grammar" "ruleCount" "I") (List.mem_cons_of_mem _ wt_57)) (fun _ h9 => h9) rfl dC_checkRoomForRule_4 ?_
  refine lv_bipush (v := 40) hx hb dC_checkRoomForRule_7 (by decide) ?_
  refine lv_icmp_lt (tgt := 22) hx hb dC_checkRoomForRule_9 (by decide) (fun c1 => ?_) (fun c1 => ?_)
  · have hw := hw.1 c1
    exact W.vret hx hb hr (fun t ht hW => ⟨⟨(n, f), rfl, hw, ct_mkB ht hP⟩, hS.F ht⟩) hS.2.2 dC_checkRoomForRule_22
  · have hw := hw.2 c1
    exact False.elim hw
set_option maxHeartbeats 4000000 in
set_option maxRecDepth 100000 in
theorem metx_C_checkRoomForRule (l : Launch) (hl9 : l.stackTraces = false) (dC : Nat → ClassId) (dI : Nat → Nat → Nat) (a : Nat → Nat) (cA : Nat → ClassId) (sa : Nat → Nat) (n : ctN) (f : ctF) (sz : Nat) {xp : String → ctN → ctF → Prop} (hw : wp_C_checkRoomForRule pFv xp n f) : vx_Met l yC_checkRoomForRule wsC_checkRoomForRule ({ frames := 6, cells := 1, slots := 6, locals := 90 } : Room) (ct_Pc dC dI a cA sa [.ref (a 0)] n f sz) (va_Qv (fun (u : ctN × ctF) => pFv u.1 u.2) (ct_B dC dI a cA) (va_A (ctW a cA n f) sz)) (vx_X (fun (_ : ctN × ctF) => True) (fun E u t => xp E u.1 u.2 ∧ ct_B dC dI a cA u t) (va_A (ctW a cA n f) sz)) 1 6 (va_A (ctW a cA n f) sz) := by
  refine vx_ofW (cc := cC_checkRoomForRule) (maxL := 1) (ret := none) (by decide) rfl ?_
  intro p e s m args below meth c s₁ B hml htb hv
  obtain ⟨rfl, hsz, hP, hK, hD0, hZ⟩ := hv
  have hx := B.exec
  have hb := B.bytes
  have hr := B.returns
  have hts := atoms_spec (ws := wsC_checkRoomForRule) B.pre
  have hown : s.vm.findClass RC = some m.cls := findClass_of_methodNamed B.named
  have hlocks := B.notSynchronized
  subst hsz
  have hD := hD0.self (sz := s.heap.size)
  generalize hAe : va_A (ctW a cA n f) s.heap.size = A at hD hZ ⊢
  have hDa : ∀ (n : ctN) (f : ctF), va_D A (ctW a cA n f) := fun _ _ => ct_D hD
  have hA : ∀ q : Nat, s.heap.size ≤ q → A q := fun q h => by rw [← hAe]; exact Or.inr h
  have hS : va_S A s.heap s.heap [] := va_S.rf
  have hl := lv_entry ([.ref (a 0)]) (n := 1) (Nat.le_of_ble_eq_true rfl)
  rw [lg_entry_eq]
  generalize (lg_sl ([.ref (a 0)]) ++ List.replicate (1 - (lg_sl ([.ref (a 0)])).length) Slot.unset).toArray = ls at hl ⊢
  have hl : lv_has ls 1 [(0, .ref (a 0))] := hl
  unfold wp_C_checkRoomForRule at hw
  refine lv_aload_n hx hb dC_checkRoomForRule_0 rfl (lv_at hl 0 rfl) ?_
  refine va_get (D := (dC, dI)) (ci := 0) (v := .ref (a 1)) (C := RC) (T := TC) (N := 2) hx hb hts (fun w h => List.mem_cons_of_mem _ (inC w h)) hown hK hP 0 rfl rfl 0 (by decide) (hts (.fieldLink RC 12 "CoverTrees" "grammar" "LCoverTrees$Grammar;") (List.mem_cons_of_mem _ wt_134)) (fun _ h9 => h9) rfl dC_checkRoomForRule_1 ?_
  refine va_get (D := (dC, dI)) (ci := 1) (v := .int (n 1)) (C := RG) (T := TG) (N := 8) hx hb hts (fun w h => List.mem_cons_of_mem _ (inG w h)) hown hK hP 1 rfl rfl 2 (by decide) (hts (.fieldLink RC 29 "CoverTrees$Grammar" "ruleCount" "I") (List.mem_cons_of_mem _ wt_57)) (fun _ h9 => h9) rfl dC_checkRoomForRule_4 ?_
  refine lv_bipush (v := 40) hx hb dC_checkRoomForRule_7 (by decide) ?_
  refine lv_icmp_lt (tgt := 22) hx hb dC_checkRoomForRule_9 (by decide) (fun c1 => ?_) (fun c1 => ?_)
  · have hw := hw.1 c1
    exact False.elim hw
  · have hw := hw.2 c1
    exact vx_throwS (own := RC) (cls := "java/lang/UnsupportedOperationException") (text := "there are 40 rules") (names := ["java/lang/RuntimeException", "java/lang/Exception"]) (ik := 42) (is := 139) (ic := 46) (sa := sa 5) hx hb hl9 hown (by decide +kernel) (by decide +kernel) (hts (.classLink RC 42 "java/lang/UnsupportedOperationException") (List.mem_cons_of_mem _ wt_234)) (hts (.initialized "java/lang/UnsupportedOperationException") (List.mem_cons_of_mem _ wt_35)) hZ.2.2.2.2.2.2.2.2.2.2.2.2.2.2.2.1 (vx_hat (L := vx_atS RC 46 "java/lang/UnsupportedOperationException" ["java/lang/RuntimeException", "java/lang/Exception"]) (B := [.castable "java/lang/UnsupportedOperationException" "java/lang/UnsupportedOperationException", .declares ⟨"java/lang/RuntimeException", "<init>", "(Ljava/lang/String;)V"⟩, .declares ⟨"java/lang/Exception", "<init>", "(Ljava/lang/String;)V"⟩, .declares ⟨"java/lang/Throwable", "<init>", "(Ljava/lang/String;)V"⟩]) (fun w hw => hts w (List.mem_cons_of_mem _ (at_C_46 w hw))) bd_C_46 (vx_c (va_Nw.use rfl hZ.2.2.1) (vx_c (va_Nw.use rfl hZ.2.2.2.2.1) (vx_c (va_Nw.use rfl hZ.2.2.2.2.2.1) (vx_c (va_Nw.use rfl hZ.2.2.2.2.2.2.1) (vx_n)))))) gd_C_46 hZ.2.2.2.2.2.2.2.2.2.2.2.2.2.2.2.2.2.2.2.2.2.2.2.2.2.2.1 hZ.2.2.2.2.2.2.2.2.2.2.2.2.2.2.2.2.2.2.2.2.2.2.2.2.2.2.2 hS (hl.1.trans hml.symm) dC_checkRoomForRule_12 dC_checkRoomForRule_15 dC_checkRoomForRule_16 dC_checkRoomForRule_18 dC_checkRoomForRule_21 (fun x h => (htb x h).elim) (Nat.le_of_ble_eq_true rfl) (Nat.le_of_ble_eq_true rfl) (Nat.le_of_ble_eq_true rfl) (Nat.le_of_ble_eq_true rfl) hlocks (fun t _ h1 h2 => ⟨(n, f), trivial, ⟨hw, (ct_thr hP hS h1 h2).1⟩, (ct_thr hP hS h1 h2).2⟩) hS.2.2 (Nat.le_of_ble_eq_true rfl) (Nat.le_of_ble_eq_true rfl)
def wp_G_hasOperator (post : Int32 → ctN → ctF → Prop) (p1 : Int32) (n : ctN) (f : ctF) : Prop := (p1 < 0 → (post 0 n f)) ∧ (¬ p1 < 0 → (((n 0) ≤ p1 → (post 0 n f)) ∧ (¬ (n 0) ≤ p1 → (post 1 n f))))
set_option maxHeartbeats 4000000 in
set_option maxRecDepth 100000 in
theorem met_G_hasOperator (l : Launch) (dC : Nat → ClassId) (dI : Nat → Nat → Nat) (a : Nat → Nat) (cA : Nat → ClassId) (sa : Nat → Nat) (p1 : Int32) (n : ctN) (f : ctF) (sz : Nat) {post : Int32 → ctN → ctF → Prop} (hw : wp_G_hasOperator post p1 n f) : Met l yG_hasOperator wsG_hasOperator ({ frames := 0, cells := 0, slots := 0, locals := 0 } : Room) (ct_Pc dC dI a cA sa [.ref (a 1), .int p1] n f sz) (va_Qi (fun (r : Int32) (u : ctN × ctF) => post r u.1 u.2) (ct_B dC dI a cA) (va_A (ctW a cA n f) sz)) 0 0 (va_A (ctW a cA n f) sz) := by
  refine Met.ofW (cc := cG_hasOperator) (maxL := 2) (ret := (some .boolean)) (by decide) rfl ?_
  intro p e s m args below meth c s₁ B hml hv
  obtain ⟨rfl, hsz, hP, hK, hD0, hZ⟩ := hv
  have hx := B.exec
  have hb := B.bytes
  have hr := B.returns
  have hts := atoms_spec (ws := wsG_hasOperator) B.pre
  have hown : s.vm.findClass RG = some m.cls := findClass_of_methodNamed B.named
  have hlocks := B.notSynchronized
  subst hsz
  have hD := hD0.self (sz := s.heap.size)
  generalize hAe : va_A (ctW a cA n f) s.heap.size = A at hD hZ ⊢
  have hDa : ∀ (n : ctN) (f : ctF), va_D A (ctW a cA n f) := fun _ _ => ct_D hD
  have hA : ∀ q : Nat, s.heap.size ≤ q → A q := fun q h => by rw [← hAe]; exact Or.inr h
  have hS : va_S A s.heap s.heap [] := va_S.rf
  have hl := lv_entry ([.ref (a 1), .int p1]) (n := 2) (Nat.le_of_ble_eq_true rfl)
  rw [lg_entry_eq]
  generalize (lg_sl ([.ref (a 1), .int p1]) ++ List.replicate (2 - (lg_sl ([.ref (a 1), .int p1])).length) Slot.unset).toArray = ls at hl ⊢
  have hl : lv_has ls 2 [(0, .ref (a 1)), (1, .int p1)] := hl
  unfold wp_G_hasOperator at hw
  refine lv_iload_n hx hb dG_hasOperator_0 rfl (lv_at hl 1 rfl) ?_
  refine lv_if_lt (tgt := 16) hx hb dG_hasOperator_1 (by decide) (fun c1 => ?_) (fun c1 => ?_)
  · have hw := hw.1 c1
    refine lv_iconst (v := 0) hx hb dG_hasOperator_16 (by decide) ?_
    exact W.zret (v := 0) hx hb hr rfl (fun t ht hW => ⟨⟨0, (n, f), rfl, hw, ct_mkB ht hP⟩, hS.F ht⟩) hS.2.2 dG_hasOperator_17
  · have hw := hw.2 c1
    refine lv_iload_n hx hb dG_hasOperator_4 rfl (lv_at hl 1 rfl) ?_
    refine lv_aload_n hx hb dG_hasOperator_5 rfl (lv_at hl 0 rfl) ?_
    refine va_get (D := (dC, dI)) (ci := 1) (v := .int (n 0)) (C := RG) (T := TG) (N := 8) hx hb hts (fun w h => List.mem_cons_of_mem _ (inG w h)) hown hK hP 1 rfl rfl 0 (by decide) (hts (.fieldLink RG 30 "CoverTrees$Grammar" "operatorCount" "I") (List.mem_cons_of_mem _ wt_52)) (fun _ h9 => h9) rfl dG_hasOperator_6 ?_
    refine lv_icmp_ge (tgt := 16) hx hb dG_hasOperator_9 (by decide) (fun c2 => ?_) (fun c2 => ?_)
    · have hw := hw.1 c2
      refine lv_iconst (v := 0) hx hb dG_hasOperator_16 (by decide) ?_
      exact W.zret (v := 0) hx hb hr rfl (fun t ht hW => ⟨⟨0, (n, f), rfl, hw, ct_mkB ht hP⟩, hS.F ht⟩) hS.2.2 dG_hasOperator_17
    · have hw := hw.2 c2
      refine lv_iconst (v := 1) hx hb dG_hasOperator_12 (by decide) ?_
      refine lv_goto (tgt := 17) hx hb dG_hasOperator_13 (by decide) ?_
      exact W.zret (v := 1) hx hb hr rfl (fun t ht hW => ⟨⟨1, (n, f), rfl, hw, ct_mkB ht hP⟩, hS.F ht⟩) hS.2.2 dG_hasOperator_17
def wp_G_addOperator (post : Int32 → ctN → ctF → Prop) (p1 : Int32) (n : ctN) (f : ctF) : Prop := ∀ x2_1 : Int32, x2_1 = (n 0) → (vp_in x2_1 10 ∧ (∀ f_3 : ctF, f_3 = va_up f 3 (upd (f 3) x2_1.toNatClampNeg p1) → (∀ n_4 : ctN, n_4 = va_up n 0 (x2_1 + 1) → (post x2_1 n_4 f_3))))
set_option maxHeartbeats 4000000 in
set_option maxRecDepth 100000 in
theorem met_G_addOperator (l : Launch) (dC : Nat → ClassId) (dI : Nat → Nat → Nat) (a : Nat → Nat) (cA : Nat → ClassId) (sa : Nat → Nat) (p1 : Int32) (n : ctN) (f : ctF) (sz : Nat) {post : Int32 → ctN → ctF → Prop} (hw : wp_G_addOperator post p1 n f) : Met l yG_addOperator wsG_addOperator ({ frames := 0, cells := 0, slots := 0, locals := 0 } : Room) (ct_Pc dC dI a cA sa [.ref (a 1), .int p1] n f sz) (va_Qi (fun (r : Int32) (u : ctN × ctF) => post r u.1 u.2) (ct_B dC dI a cA) (va_A (ctW a cA n f) sz)) 0 0 (va_A (ctW a cA n f) sz) := by
  refine Met.ofW (cc := cG_addOperator) (maxL := 3) (ret := (some .int)) (by decide) rfl ?_
  intro p e s m args below meth c s₁ B hml hv
  obtain ⟨rfl, hsz, hP, hK, hD0, hZ⟩ := hv
  have hx := B.exec
  have hb := B.bytes
  have hr := B.returns
  have hts := atoms_spec (ws := wsG_addOperator) B.pre
  have hown : s.vm.findClass RG = some m.cls := findClass_of_methodNamed B.named
  have hlocks := B.notSynchronized
  subst hsz
  have hD := hD0.self (sz := s.heap.size)
  generalize hAe : va_A (ctW a cA n f) s.heap.size = A at hD hZ ⊢
  have hDa : ∀ (n : ctN) (f : ctF), va_D A (ctW a cA n f) := fun _ _ => ct_D hD
  have hA : ∀ q : Nat, s.heap.size ≤ q → A q := fun q h => by rw [← hAe]; exact Or.inr h
  have hS : va_S A s.heap s.heap [] := va_S.rf
  have hl := lv_entry ([.ref (a 1), .int p1]) (n := 3) (Nat.le_of_ble_eq_true rfl)
  rw [lg_entry_eq]
  generalize (lg_sl ([.ref (a 1), .int p1]) ++ List.replicate (3 - (lg_sl ([.ref (a 1), .int p1])).length) Slot.unset).toArray = ls at hl ⊢
  have hl : lv_has ls 3 [(0, .ref (a 1)), (1, .int p1)] := hl
  unfold wp_G_addOperator at hw
  refine lv_aload_n hx hb dG_addOperator_0 rfl (lv_at hl 0 rfl) ?_
  refine va_get (D := (dC, dI)) (ci := 1) (v := .int (n 0)) (C := RG) (T := TG) (N := 8) hx hb hts (fun w h => List.mem_cons_of_mem _ (inG w h)) hown hK hP 1 rfl rfl 0 (by decide) (hts (.fieldLink RG 30 "CoverTrees$Grammar" "operatorCount" "I") (List.mem_cons_of_mem _ wt_52)) (fun _ h9 => h9) rfl dG_addOperator_1 ?_
  refine lv_topi (fun x2_1 ex2_1 => ?_)
  have hw := hw x2_1 ex2_1
  refine lv_istore_n (lv' := [(2, .int x2_1), (0, .ref (a 1)), (1, .int p1)]) hx hb dG_addOperator_4 rfl hl (by decide) rfl (fun ls hl => ?_)
  refine lv_aload_n hx hb dG_addOperator_5 rfl (lv_at hl 1 rfl) ?_
  refine va_get (D := (dC, dI)) (ci := 1) (v := .ref (a 3)) (C := RG) (T := TG) (N := 8) hx hb hts (fun w h => List.mem_cons_of_mem _ (inG w h)) hown hK hP 1 rfl rfl 1 (by decide) (hts (.fieldLink RG 9 "CoverTrees$Grammar" "parts" "[I") (List.mem_cons_of_mem _ wt_54)) (fun _ h9 => h9) rfl dG_addOperator_6 ?_
  refine lv_iload_n hx hb dG_addOperator_9 rfl (lv_at hl 0 rfl) ?_
  refine lv_iload_n hx hb dG_addOperator_10 rfl (lv_at hl 2 rfl) ?_
  obtain ⟨hi2, hw⟩ := hw
  refine va_iast hx hb hK hP (hDa _ _) hS 3 0 rfl rfl hi2 dG_addOperator_11 (fun H locs hP _ hS => ?_)
  obtain ⟨f_3, ef_3⟩ : ∃ z : ctF, z = va_up f 3 (upd (f 3) x2_1.toNatClampNeg p1) := ⟨_, rfl⟩
  have hw := hw f_3 ef_3
  have hP : va_P (dC, dI) vcl (ctW a cA n f_3) H := by rw [ef_3]; exact hP
  refine lv_aload_n hx hb dG_addOperator_12 rfl (lv_at hl 1 rfl) ?_
  refine lv_iload_n hx hb dG_addOperator_13 rfl (lv_at hl 0 rfl) ?_
  refine lv_iconst (v := 1) hx hb dG_addOperator_14 (by decide) ?_
  refine lv_iadd hx hb dG_addOperator_15 ?_
  refine va_put (D := (dC, dI)) (ci := 1) (v := .int (x2_1 + 1)) (ty := .int) (C := RG) (T := TG) (N := 8) hx hb hts (fun w h => List.mem_cons_of_mem _ (inG w h)) tyG tyG_ok nmG hown hK hP (hDa _ _) hS 1 rfl rfl 0 (by decide) (hts (.fieldLink RG 30 "CoverTrees$Grammar" "operatorCount" "I") (List.mem_cons_of_mem _ wt_52)) (fun _ h9 => h9) rfl (by decide +kernel) rfl rfl (Nat.le_of_ble_eq_true rfl) dG_addOperator_16 (fun H locs hP _ hS => ?_)
  obtain ⟨n_4, en_4⟩ : ∃ z : ctN, z = va_up n 0 (x2_1 + 1) := ⟨_, rfl⟩
  have hw := hw n_4 en_4
  have hP : va_P (dC, dI) vcl (ctW a cA n_4 f_3) H := by rw [en_4]; exact hP
  refine lv_iload_n hx hb dG_addOperator_19 rfl (lv_at hl 0 rfl) ?_
  exact W.iret (v := x2_1) hx hb hr (fun t ht hW => ⟨⟨x2_1, (n_4, f_3), rfl, hw, ct_mkB ht hP⟩, hS.F ht⟩) hS.2.2 dG_addOperator_20
def wp_G_addRule (post : Int32 → ctN → ctF → Prop) (p1 : Int32) (p2 : Int32) (p3 : Int32) (p4 : Int32) (p5 : Int32) (n : ctN) (f : ctF) : Prop := ∀ x6_1 : Int32, x6_1 = (n 1) → (vp_in x6_1 40 ∧ (∀ f_3 : ctF, f_3 = va_up f 4 (upd (f 4) x6_1.toNatClampNeg p1) → (vp_in x6_1 40 ∧ (∀ f_5 : ctF, f_5 = va_up f_3 5 (upd (f_3 5) x6_1.toNatClampNeg p2) → (vp_in x6_1 40 ∧ (∀ f_7 : ctF, f_7 = va_up f_5 6 (upd (f_5 6) x6_1.toNatClampNeg p3) → (vp_in x6_1 40 ∧ (∀ f_9 : ctF, f_9 = va_up f_7 7 (upd (f_7 7) x6_1.toNatClampNeg p4) → (vp_in x6_1 40 ∧ (∀ f_11 : ctF, f_11 = va_up f_9 8 (upd (f_9 8) x6_1.toNatClampNeg p5) → (∀ n_12 : ctN, n_12 = va_up n 1 (x6_1 + 1) → (post x6_1 n_12 f_11))))))))))))
set_option maxHeartbeats 4000000 in
set_option maxRecDepth 100000 in
theorem met_G_addRule (l : Launch) (dC : Nat → ClassId) (dI : Nat → Nat → Nat) (a : Nat → Nat) (cA : Nat → ClassId) (sa : Nat → Nat) (p1 : Int32) (p2 : Int32) (p3 : Int32) (p4 : Int32) (p5 : Int32) (n : ctN) (f : ctF) (sz : Nat) {post : Int32 → ctN → ctF → Prop} (hw : wp_G_addRule post p1 p2 p3 p4 p5 n f) : Met l yG_addRule wsG_addRule ({ frames := 0, cells := 0, slots := 0, locals := 0 } : Room) (ct_Pc dC dI a cA sa [.ref (a 1), .int p1, .int p2, .int p3, .int p4, .int p5] n f sz) (va_Qi (fun (r : Int32) (u : ctN × ctF) => post r u.1 u.2) (ct_B dC dI a cA) (va_A (ctW a cA n f) sz)) 0 0 (va_A (ctW a cA n f) sz) := by
  refine Met.ofW (cc := cG_addRule) (maxL := 7) (ret := (some .int)) (by decide) rfl ?_
  intro p e s m args below meth c s₁ B hml hv
  obtain ⟨rfl, hsz, hP, hK, hD0, hZ⟩ := hv
  have hx := B.exec
  have hb := B.bytes
  have hr := B.returns
  have hts := atoms_spec (ws := wsG_addRule) B.pre
  have hown : s.vm.findClass RG = some m.cls := findClass_of_methodNamed B.named
  have hlocks := B.notSynchronized
  subst hsz
  have hD := hD0.self (sz := s.heap.size)
  generalize hAe : va_A (ctW a cA n f) s.heap.size = A at hD hZ ⊢
  have hDa : ∀ (n : ctN) (f : ctF), va_D A (ctW a cA n f) := fun _ _ => ct_D hD
  have hA : ∀ q : Nat, s.heap.size ≤ q → A q := fun q h => by rw [← hAe]; exact Or.inr h
  have hS : va_S A s.heap s.heap [] := va_S.rf
  have hl := lv_entry ([.ref (a 1), .int p1, .int p2, .int p3, .int p4, .int p5]) (n := 7) (Nat.le_of_ble_eq_true rfl)
  rw [lg_entry_eq]
  generalize (lg_sl ([.ref (a 1), .int p1, .int p2, .int p3, .int p4, .int p5]) ++ List.replicate (7 - (lg_sl ([.ref (a 1), .int p1, .int p2, .int p3, .int p4, .int p5])).length) Slot.unset).toArray = ls at hl ⊢
  have hl : lv_has ls 7 [(0, .ref (a 1)), (1, .int p1), (2, .int p2), (3, .int p3), (4, .int p4), (5, .int p5)] := hl
  unfold wp_G_addRule at hw
  refine lv_aload_n hx hb dG_addRule_0 rfl (lv_at hl 0 rfl) ?_
  refine va_get (D := (dC, dI)) (ci := 1) (v := .int (n 1)) (C := RG) (T := TG) (N := 8) hx hb hts (fun w h => List.mem_cons_of_mem _ (inG w h)) hown hK hP 1 rfl rfl 2 (by decide) (hts (.fieldLink RG 34 "CoverTrees$Grammar" "ruleCount" "I") (List.mem_cons_of_mem _ wt_58)) (fun _ h9 => h9) rfl dG_addRule_1 ?_
  refine lv_topi (fun x6_1 ex6_1 => ?_)
  have hw := hw x6_1 ex6_1
  refine lv_istore (lv' := [(6, .int x6_1), (0, .ref (a 1)), (1, .int p1), (2, .int p2), (3, .int p3), (4, .int p4), (5, .int p5)]) hx hb dG_addRule_4 hl (by decide) rfl (fun ls hl => ?_)
  refine lv_aload_n hx hb dG_addRule_6 rfl (lv_at hl 1 rfl) ?_
  refine va_get (D := (dC, dI)) (ci := 1) (v := .ref (a 4)) (C := RG) (T := TG) (N := 8) hx hb hts (fun w h => List.mem_cons_of_mem _ (inG w h)) hown hK hP 1 rfl rfl 3 (by decide) (hts (.fieldLink RG 15 "CoverTrees$Grammar" "goal" "[I") (List.mem_cons_of_mem _ wt_60)) (fun _ h9 => h9) rfl dG_addRule_7 ?_
  refine lv_iload hx hb dG_addRule_10 (lv_at hl 0 rfl) ?_
  refine lv_iload_n hx hb dG_addRule_12 rfl (lv_at hl 2 rfl) ?_
  obtain ⟨hi2, hw⟩ := hw
  refine va_iast hx hb hK hP (hDa _ _) hS 4 1 rfl rfl hi2 dG_addRule_13 (fun H locs hP _ hS => ?_)
  obtain ⟨f_3, ef_3⟩ : ∃ z : ctF, z = va_up f 4 (upd (f 4) x6_1.toNatClampNeg p1) := ⟨_, rfl⟩
  have hw := hw f_3 ef_3
  have hP : va_P (dC, dI) vcl (ctW a cA n f_3) H := by rw [ef_3]; exact hP
  refine lv_aload_n hx hb dG_addRule_14 rfl (lv_at hl 1 rfl) ?_
  refine va_get (D := (dC, dI)) (ci := 1) (v := .ref (a 5)) (C := RG) (T := TG) (N := 8) hx hb hts (fun w h => List.mem_cons_of_mem _ (inG w h)) hown hK hP 1 rfl rfl 4 (by decide) (hts (.fieldLink RG 18 "CoverTrees$Grammar" "operator" "[I") (List.mem_cons_of_mem _ wt_62)) (fun _ h9 => h9) rfl dG_addRule_15 ?_
  refine lv_iload hx hb dG_addRule_18 (lv_at hl 0 rfl) ?_
  refine lv_iload_n hx hb dG_addRule_20 rfl (lv_at hl 3 rfl) ?_
  obtain ⟨hi4, hw⟩ := hw
  refine va_iast hx hb hK hP (hDa _ _) hS 5 2 rfl rfl hi4 dG_addRule_21 (fun H locs hP _ hS => ?_)
  obtain ⟨f_5, ef_5⟩ : ∃ z : ctF, z = va_up f_3 5 (upd (f_3 5) x6_1.toNatClampNeg p2) := ⟨_, rfl⟩
  have hw := hw f_5 ef_5
  have hP : va_P (dC, dI) vcl (ctW a cA n f_5) H := by rw [ef_5]; exact hP
  refine lv_aload_n hx hb dG_addRule_22 rfl (lv_at hl 1 rfl) ?_
  refine va_get (D := (dC, dI)) (ci := 1) (v := .ref (a 6)) (C := RG) (T := TG) (N := 8) hx hb hts (fun w h => List.mem_cons_of_mem _ (inG w h)) hown hK hP 1 rfl rfl 5 (by decide) (hts (.fieldLink RG 21 "CoverTrees$Grammar" "one" "[I") (List.mem_cons_of_mem _ wt_64)) (fun _ h9 => h9) rfl dG_addRule_23 ?_
  refine lv_iload hx hb dG_addRule_26 (lv_at hl 0 rfl) ?_
  refine lv_iload_n hx hb dG_addRule_28 rfl (lv_at hl 4 rfl) ?_
  obtain ⟨hi6, hw⟩ := hw
  refine va_iast hx hb hK hP (hDa _ _) hS 6 3 rfl rfl hi6 dG_addRule_29 (fun H locs hP _ hS => ?_)
  obtain ⟨f_7, ef_7⟩ : ∃ z : ctF, z = va_up f_5 6 (upd (f_5 6) x6_1.toNatClampNeg p3) := ⟨_, rfl⟩
  have hw := hw f_7 ef_7
  have hP : va_P (dC, dI) vcl (ctW a cA n f_7) H := by rw [ef_7]; exact hP
  refine lv_aload_n hx hb dG_addRule_30 rfl (lv_at hl 1 rfl) ?_
  refine va_get (D := (dC, dI)) (ci := 1) (v := .ref (a 7)) (C := RG) (T := TG) (N := 8) hx hb hts (fun w h => List.mem_cons_of_mem _ (inG w h)) hown hK hP 1 rfl rfl 6 (by decide) (hts (.fieldLink RG 24 "CoverTrees$Grammar" "two" "[I") (List.mem_cons_of_mem _ wt_66)) (fun _ h9 => h9) rfl dG_addRule_31 ?_
  refine lv_iload hx hb dG_addRule_34 (lv_at hl 0 rfl) ?_
  refine lv_iload hx hb dG_addRule_36 (lv_at hl 5 rfl) ?_
  obtain ⟨hi8, hw⟩ := hw
  refine va_iast hx hb hK hP (hDa _ _) hS 7 4 rfl rfl hi8 dG_addRule_38 (fun H locs hP _ hS => ?_)
  obtain ⟨f_9, ef_9⟩ : ∃ z : ctF, z = va_up f_7 7 (upd (f_7 7) x6_1.toNatClampNeg p4) := ⟨_, rfl⟩
  have hw := hw f_9 ef_9
  have hP : va_P (dC, dI) vcl (ctW a cA n f_9) H := by rw [ef_9]; exact hP
  refine lv_aload_n hx hb dG_addRule_39 rfl (lv_at hl 1 rfl) ?_
  refine va_get (D := (dC, dI)) (ci := 1) (v := .ref (a 8)) (C := RG) (T := TG) (N := 8) hx hb hts (fun w h => List.mem_cons_of_mem _ (inG w h)) hown hK hP 1 rfl rfl 7 (by decide) (hts (.fieldLink RG 27 "CoverTrees$Grammar" "cost" "[I") (List.mem_cons_of_mem _ wt_68)) (fun _ h9 => h9) rfl dG_addRule_40 ?_
  refine lv_iload hx hb dG_addRule_43 (lv_at hl 0 rfl) ?_
  refine lv_iload hx hb dG_addRule_45 (lv_at hl 6 rfl) ?_
  obtain ⟨hi10, hw⟩ := hw
  refine va_iast hx hb hK hP (hDa _ _) hS 8 5 rfl rfl hi10 dG_addRule_47 (fun H locs hP _ hS => ?_)
  obtain ⟨f_11, ef_11⟩ : ∃ z : ctF, z = va_up f_9 8 (upd (f_9 8) x6_1.toNatClampNeg p5) := ⟨_, rfl⟩
  have hw := hw f_11 ef_11
  have hP : va_P (dC, dI) vcl (ctW a cA n f_11) H := by rw [ef_11]; exact hP
  refine lv_aload_n hx hb dG_addRule_48 rfl (lv_at hl 1 rfl) ?_
  refine lv_iload hx hb dG_addRule_49 (lv_at hl 0 rfl) ?_
  refine lv_iconst (v := 1) hx hb dG_addRule_51 (by decide) ?_
  refine lv_iadd hx hb dG_addRule_52 ?_
  refine va_put (D := (dC, dI)) (ci := 1) (v := .int (x6_1 + 1)) (ty := .int) (C := RG) (T := TG) (N := 8) hx hb hts (fun w h => List.mem_cons_of_mem _ (inG w h)) tyG tyG_ok nmG hown hK hP (hDa _ _) hS 1 rfl rfl 2 (by decide) (hts (.fieldLink RG 34 "CoverTrees$Grammar" "ruleCount" "I") (List.mem_cons_of_mem _ wt_58)) (fun _ h9 => h9) rfl (by decide +kernel) rfl rfl (Nat.le_of_ble_eq_true rfl) dG_addRule_53 (fun H locs hP _ hS => ?_)
  obtain ⟨n_12, en_12⟩ : ∃ z : ctN, z = va_up n 1 (x6_1 + 1) := ⟨_, rfl⟩
  have hw := hw n_12 en_12
  have hP : va_P (dC, dI) vcl (ctW a cA n_12 f_11) H := by rw [en_12]; exact hP
  refine lv_iload hx hb dG_addRule_56 (lv_at hl 0 rfl) ?_
  exact W.iret (v := x6_1) hx hb hr (fun t ht hW => ⟨⟨x6_1, (n_12, f_11), rfl, hw, ct_mkB ht hP⟩, hS.F ht⟩) hS.2.2 dG_addRule_58
def wp_G_isChainFrom (post : Int32 → ctN → ctF → Prop) (p1 : Int32) (p2 : Int32) (n : ctN) (f : ctF) : Prop := vp_in p1 40 ∧ ((¬ (f 5 p1.toNatClampNeg) = (-1) → (post 0 n f)) ∧ ((f 5 p1.toNatClampNeg) = (-1) → (vp_in p1 40 ∧ ((¬ (f 6 p1.toNatClampNeg) = p2 → (post 0 n f)) ∧ ((f 6 p1.toNatClampNeg) = p2 → (post 1 n f))))))
set_option maxHeartbeats 4000000 in
set_option maxRecDepth 100000 in
theorem met_G_isChainFrom (l : Launch) (dC : Nat → ClassId) (dI : Nat → Nat → Nat) (a : Nat → Nat) (cA : Nat → ClassId) (sa : Nat → Nat) (p1 : Int32) (p2 : Int32) (n : ctN) (f : ctF) (sz : Nat) {post : Int32 → ctN → ctF → Prop} (hw : wp_G_isChainFrom post p1 p2 n f) : Met l yG_isChainFrom wsG_isChainFrom ({ frames := 0, cells := 0, slots := 0, locals := 0 } : Room) (ct_Pc dC dI a cA sa [.ref (a 1), .int p1, .int p2] n f sz) (va_Qi (fun (r : Int32) (u : ctN × ctF) => post r u.1 u.2) (ct_B dC dI a cA) (va_A (ctW a cA n f) sz)) 0 0 (va_A (ctW a cA n f) sz) := by
  refine Met.ofW (cc := cG_isChainFrom) (maxL := 3) (ret := (some .boolean)) (by decide) rfl ?_
  intro p e s m args below meth c s₁ B hml hv
  obtain ⟨rfl, hsz, hP, hK, hD0, hZ⟩ := hv
  have hx := B.exec
  have hb := B.bytes
  have hr := B.returns
  have hts := atoms_spec (ws := wsG_isChainFrom) B.pre
  have hown : s.vm.findClass RG = some m.cls := findClass_of_methodNamed B.named
  have hlocks := B.notSynchronized
  subst hsz
  have hD := hD0.self (sz := s.heap.size)
  generalize hAe : va_A (ctW a cA n f) s.heap.size = A at hD hZ ⊢
  have hDa : ∀ (n : ctN) (f : ctF), va_D A (ctW a cA n f) := fun _ _ => ct_D hD
  have hA : ∀ q : Nat, s.heap.size ≤ q → A q := fun q h => by rw [← hAe]; exact Or.inr h
  have hS : va_S A s.heap s.heap [] := va_S.rf
  have hl := lv_entry ([.ref (a 1), .int p1, .int p2]) (n := 3) (Nat.le_of_ble_eq_true rfl)
  rw [lg_entry_eq]
  generalize (lg_sl ([.ref (a 1), .int p1, .int p2]) ++ List.replicate (3 - (lg_sl ([.ref (a 1), .int p1, .int p2])).length) Slot.unset).toArray = ls at hl ⊢
  have hl : lv_has ls 3 [(0, .ref (a 1)), (1, .int p1), (2, .int p2)] := hl
  unfold wp_G_isChainFrom at hw
  refine lv_aload_n hx hb dG_isChainFrom_0 rfl (lv_at hl 0 rfl) ?_
  refine va_get (D := (dC, dI)) (ci := 1) (v := .ref (a 5)) (C := RG) (T := TG) (N := 8) hx hb hts (fun w h => List.mem_cons_of_mem _ (inG w h)) hown hK hP 1 rfl rfl 4 (by decide) (hts (.fieldLink RG 18 "CoverTrees$Grammar" "operator" "[I") (List.mem_cons_of_mem _ wt_62)) (fun _ h9 => h9) rfl dG_isChainFrom_1 ?_
  refine lv_iload_n hx hb dG_isChainFrom_4 rfl (lv_at hl 1 rfl) ?_
  obtain ⟨hi1, hw⟩ := hw
  refine va_iald hx hb hK hP 5 2 rfl rfl hi1 dG_isChainFrom_5 ?_
  refine lv_iconst (v := (-1)) hx hb dG_isChainFrom_6 (by decide) ?_
  refine lv_icmp_ne (tgt := 24) hx hb dG_isChainFrom_7 (by decide) (fun c2 => ?_) (fun c2 => ?_)
  · have hw := hw.1 c2
    refine lv_iconst (v := 0) hx hb dG_isChainFrom_24 (by decide) ?_
    exact W.zret (v := 0) hx hb hr rfl (fun t ht hW => ⟨⟨0, (n, f), rfl, hw, ct_mkB ht hP⟩, hS.F ht⟩) hS.2.2 dG_isChainFrom_25
  · have hw := hw.2 c2
    refine lv_aload_n hx hb dG_isChainFrom_10 rfl (lv_at hl 0 rfl) ?_
    refine va_get (D := (dC, dI)) (ci := 1) (v := .ref (a 6)) (C := RG) (T := TG) (N := 8) hx hb hts (fun w h => List.mem_cons_of_mem _ (inG w h)) hown hK hP 1 rfl rfl 5 (by decide) (hts (.fieldLink RG 21 "CoverTrees$Grammar" "one" "[I") (List.mem_cons_of_mem _ wt_64)) (fun _ h9 => h9) rfl dG_isChainFrom_11 ?_
    refine lv_iload_n hx hb dG_isChainFrom_14 rfl (lv_at hl 1 rfl) ?_
    obtain ⟨hi3, hw⟩ := hw
    refine va_iald hx hb hK hP 6 3 rfl rfl hi3 dG_isChainFrom_15 ?_
    refine lv_iload_n hx hb dG_isChainFrom_16 rfl (lv_at hl 2 rfl) ?_
    refine lv_icmp_ne (tgt := 24) hx hb dG_isChainFrom_17 (by decide) (fun c4 => ?_) (fun c4 => ?_)
    · have hw := hw.1 c4
      refine lv_iconst (v := 0) hx hb dG_isChainFrom_24 (by decide) ?_
      exact W.zret (v := 0) hx hb hr rfl (fun t ht hW => ⟨⟨0, (n, f), rfl, hw, ct_mkB ht hP⟩, hS.F ht⟩) hS.2.2 dG_isChainFrom_25
    · have hw := hw.2 c4
      refine lv_iconst (v := 1) hx hb dG_isChainFrom_20 (by decide) ?_
      refine lv_goto (tgt := 25) hx hb dG_isChainFrom_21 (by decide) ?_
      exact W.zret (v := 1) hx hb hr rfl (fun t ht hW => ⟨⟨1, (n, f), rfl, hw, ct_mkB ht hP⟩, hS.F ht⟩) hS.2.2 dG_isChainFrom_25
def wp_F_has (post : Int32 → ctN → ctF → Prop) (p1 : Int32) (n : ctN) (f : ctF) : Prop := (p1 < 0 → (post 0 n f)) ∧ (¬ p1 < 0 → (((n 2) ≤ p1 → (post 0 n f)) ∧ (¬ (n 2) ≤ p1 → (post 1 n f))))
set_option maxHeartbeats 4000000 in
set_option maxRecDepth 100000 in
theorem met_F_has (l : Launch) (dC : Nat → ClassId) (dI : Nat → Nat → Nat) (a : Nat → Nat) (cA : Nat → ClassId) (sa : Nat → Nat) (p1 : Int32) (n : ctN) (f : ctF) (sz : Nat) {post : Int32 → ctN → ctF → Prop} (hw : wp_F_has post p1 n f) : Met l yF_has wsF_has ({ frames := 0, cells := 0, slots := 0, locals := 0 } : Room) (ct_Pc dC dI a cA sa [.ref (a 2), .int p1] n f sz) (va_Qi (fun (r : Int32) (u : ctN × ctF) => post r u.1 u.2) (ct_B dC dI a cA) (va_A (ctW a cA n f) sz)) 0 0 (va_A (ctW a cA n f) sz) := by
  refine Met.ofW (cc := cF_has) (maxL := 2) (ret := (some .boolean)) (by decide) rfl ?_
  intro p e s m args below meth c s₁ B hml hv
  obtain ⟨rfl, hsz, hP, hK, hD0, hZ⟩ := hv
  have hx := B.exec
  have hb := B.bytes
  have hr := B.returns
  have hts := atoms_spec (ws := wsF_has) B.pre
  have hown : s.vm.findClass RF = some m.cls := findClass_of_methodNamed B.named
  have hlocks := B.notSynchronized
  subst hsz
  have hD := hD0.self (sz := s.heap.size)
  generalize hAe : va_A (ctW a cA n f) s.heap.size = A at hD hZ ⊢
  have hDa : ∀ (n : ctN) (f : ctF), va_D A (ctW a cA n f) := fun _ _ => ct_D hD
  have hA : ∀ q : Nat, s.heap.size ≤ q → A q := fun q h => by rw [← hAe]; exact Or.inr h
  have hS : va_S A s.heap s.heap [] := va_S.rf
  have hl := lv_entry ([.ref (a 2), .int p1]) (n := 2) (Nat.le_of_ble_eq_true rfl)
  rw [lg_entry_eq]
  generalize (lg_sl ([.ref (a 2), .int p1]) ++ List.replicate (2 - (lg_sl ([.ref (a 2), .int p1])).length) Slot.unset).toArray = ls at hl ⊢
  have hl : lv_has ls 2 [(0, .ref (a 2)), (1, .int p1)] := hl
  unfold wp_F_has at hw
  refine lv_iload_n hx hb dF_has_0 rfl (lv_at hl 1 rfl) ?_
  refine lv_if_lt (tgt := 16) hx hb dF_has_1 (by decide) (fun c1 => ?_) (fun c1 => ?_)
  · have hw := hw.1 c1
    refine lv_iconst (v := 0) hx hb dF_has_16 (by decide) ?_
    exact W.zret (v := 0) hx hb hr rfl (fun t ht hW => ⟨⟨0, (n, f), rfl, hw, ct_mkB ht hP⟩, hS.F ht⟩) hS.2.2 dF_has_17
  · have hw := hw.2 c1
    refine lv_iload_n hx hb dF_has_4 rfl (lv_at hl 1 rfl) ?_
    refine lv_aload_n hx hb dF_has_5 rfl (lv_at hl 0 rfl) ?_
    refine va_get (D := (dC, dI)) (ci := 2) (v := .int (n 2)) (C := RF) (T := TF) (N := 11) hx hb hts (fun w h => List.mem_cons_of_mem _ (inF w h)) hown hK hP 2 rfl rfl 1 (by decide) (hts (.fieldLink RF 44 "CoverTrees$Forest" "count" "I") (List.mem_cons_of_mem _ wt_96)) (fun _ h9 => h9) rfl dF_has_6 ?_
    refine lv_icmp_ge (tgt := 16) hx hb dF_has_9 (by decide) (fun c2 => ?_) (fun c2 => ?_)
    · have hw := hw.1 c2
      refine lv_iconst (v := 0) hx hb dF_has_16 (by decide) ?_
      exact W.zret (v := 0) hx hb hr rfl (fun t ht hW => ⟨⟨0, (n, f), rfl, hw, ct_mkB ht hP⟩, hS.F ht⟩) hS.2.2 dF_has_17
    · have hw := hw.2 c2
      refine lv_iconst (v := 1) hx hb dF_has_12 (by decide) ?_
      refine lv_goto (tgt := 17) hx hb dF_has_13 (by decide) ?_
      exact W.zret (v := 1) hx hb hr rfl (fun t ht hW => ⟨⟨1, (n, f), rfl, hw, ct_mkB ht hP⟩, hS.F ht⟩) hS.2.2 dF_has_17
def wp_C_checkPlace (post : ctN → ctF → Prop) (xp : String → ctN → ctF → Prop) (p1 : Int32) (p2 : Int32) (n : ctN) (f : ctF) : Prop := wp_F_has (fun (r1 : Int32) (n_2 : ctN) (f_3 : ctF) => (r1 = 0 → (xp "java/lang/IllegalArgumentException" n_2 f_3)) ∧ (¬ r1 = 0 → (wp_C_isGoal (fun (r5 : Int32) (n_6 : ctN) (f_7 : ctF) => (¬ r5 = 0 → (post n_6 f_7)) ∧ (r5 = 0 → (xp "java/lang/IllegalArgumentException" n_6 f_7))) p2 n_2 f_3))) p1 n f
set_option maxHeartbeats 4000000 in
set_option maxRecDepth 100000 in
theorem met0_C_checkPlace (l : Launch) (dC : Nat → ClassId) (dI : Nat → Nat → Nat) (a : Nat → Nat) (cA : Nat → ClassId) (sa : Nat → Nat) (p1 : Int32) (p2 : Int32) (n : ctN) (f : ctF) (sz : Nat) {post : ctN → ctF → Prop} (hw : wp_C_checkPlace post xF p1 p2 n f) : Met l yC_checkPlace wsC_checkPlace ({ frames := 6, cells := 0, slots := 0, locals := 90 } : Room) (ct_Pc dC dI a cA sa [.ref (a 0), .int p1, .int p2] n f sz) (va_Qv (fun (u : ctN × ctF) => post u.1 u.2) (ct_B dC dI a cA) (va_A (ctW a cA n f) sz)) 0 0 (va_A (ctW a cA n f) sz) := by
  refine Met.ofW (cc := cC_checkPlace) (maxL := 3) (ret := none) (by decide) rfl ?_
  intro p e s m args below meth c s₁ B hml hv
  obtain ⟨rfl, hsz, hP, hK, hD0, hZ⟩ := hv
  have hx := B.exec
  have hb := B.bytes
  have hr := B.returns
  have hts := atoms_spec (ws := wsC_checkPlace) B.pre
  have hown : s.vm.findClass RC = some m.cls := findClass_of_methodNamed B.named
  have hlocks := B.notSynchronized
  subst hsz
  have hD := hD0.self (sz := s.heap.size)
  generalize hAe : va_A (ctW a cA n f) s.heap.size = A at hD hZ ⊢
  have hDa : ∀ (n : ctN) (f : ctF), va_D A (ctW a cA n f) := fun _ _ => ct_D hD
  have hA : ∀ q : Nat, s.heap.size ≤ q → A q := fun q h => by rw [← hAe]; exact Or.inr h
  have hS : va_S A s.heap s.heap [] := va_S.rf
  have hl := lv_entry ([.ref (a 0), .int p1, .int p2]) (n := 3) (Nat.le_of_ble_eq_true rfl)
  rw [lg_entry_eq]
  generalize (lg_sl ([.ref (a 0), .int p1, .int p2]) ++ List.replicate (3 - (lg_sl ([.ref (a 0), .int p1, .int p2])).length) Slot.unset).toArray = ls at hl ⊢
  have hl : lv_has ls 3 [(0, .ref (a 0)), (1, .int p1), (2, .int p2)] := hl
  unfold wp_C_checkPlace at hw
  refine lv_aload_n hx hb dC_checkPlace_0 rfl (lv_at hl 0 rfl) ?_
  refine va_get (D := (dC, dI)) (ci := 0) (v := .ref (a 2)) (C := RC) (T := TC) (N := 2) hx hb hts (fun w h => List.mem_cons_of_mem _ (inC w h)) hown hK hP 0 rfl rfl 1 (by decide) (hts (.fieldLink RC 21 "CoverTrees" "forest" "LCoverTrees$Forest;") (List.mem_cons_of_mem _ wt_135)) (fun _ h9 => h9) rfl dC_checkPlace_1 ?_
  refine lv_iload_n hx hb dC_checkPlace_4 rfl (lv_at hl 1 rfl) ?_
  refine ct_i (va_runV (As := [.int p1]) (rest := []) ⟨hx, hb, hml, hown, hts⟩ (met_F_has l dC dI a cA sa p1 n f _ hw) (cwV 1 hts (wb_V wt_300 wt_301 wt_302 wt_29 wt_303) rfl rfl rfl (by decide +kernel) ⟨Nat.le_of_ble_eq_true rfl, Nat.le_of_ble_eq_true rfl⟩) (ct_preV hK hP (hDa _ _) hZ hS hA (va_recv hK hP (ci := 2) (q0 := 2) rfl rfl)) rfl rfl hl.1 rfl (lv_room (Nat.le_of_ble_eq_true rfl)) dC_checkPlace_5 ⟨Nat.le_of_ble_eq_true rfl, Nat.le_of_ble_eq_true rfl⟩) (hDa _ _) hS hA (fun r1 n_2 f_3 H locs hw hP hS => ?_)
  refine lv_if_eq (tgt := 18) hx hb dC_checkPlace_8 (by decide) (fun c4 => ?_) (fun c4 => ?_)
  · have hw := hw.1 c4
    exact False.elim hw
  · have hw := hw.2 c4
    refine lv_iload_n hx hb dC_checkPlace_11 rfl (lv_at hl 2 rfl) ?_
    refine ct_i (va_runS (As := [.int p2]) (rest := []) ⟨hx, hb, hml, hown, hts⟩ (met_C_isGoal l dC dI a cA sa p2 n_2 f_3 _ hw) (cwS 1 hts (wb_S wt_261 wt_262 wt_27 wt_263) rfl rfl rfl (by decide +kernel) ⟨Nat.le_of_ble_eq_true rfl, Nat.le_of_ble_eq_true rfl⟩) (ct_pre hK hP (hDa _ _) hZ hS hA) rfl rfl hl.1 rfl (lv_room (Nat.le_of_ble_eq_true rfl)) dC_checkPlace_12 ⟨Nat.le_of_ble_eq_true rfl, Nat.le_of_ble_eq_true rfl⟩) (hDa _ _) hS hA (fun r5 n_6 f_7 H locs hw hP hS => ?_)
    refine lv_if_ne (tgt := 28) hx hb dC_checkPlace_15 (by decide) (fun c8 => ?_) (fun c8 => ?_)
    · have hw := hw.1 c8
      exact W.vret hx hb hr (fun t ht hW => ⟨⟨(n_6, f_7), rfl, hw, ct_mkB ht hP⟩, hS.F ht⟩) hS.2.2 dC_checkPlace_28
    · have hw := hw.2 c8
      exact False.elim hw
set_option maxHeartbeats 4000000 in
set_option maxRecDepth 100000 in
theorem metx_C_checkPlace (l : Launch) (hl9 : l.stackTraces = false) (dC : Nat → ClassId) (dI : Nat → Nat → Nat) (a : Nat → Nat) (cA : Nat → ClassId) (sa : Nat → Nat) (p1 : Int32) (p2 : Int32) (n : ctN) (f : ctF) (sz : Nat) {xp : String → ctN → ctF → Prop} (hw : wp_C_checkPlace pFv xp p1 p2 n f) : vx_Met l yC_checkPlace wsC_checkPlace ({ frames := 6, cells := 1, slots := 6, locals := 90 } : Room) (ct_Pc dC dI a cA sa [.ref (a 0), .int p1, .int p2] n f sz) (va_Qv (fun (u : ctN × ctF) => pFv u.1 u.2) (ct_B dC dI a cA) (va_A (ctW a cA n f) sz)) (vx_X (fun (_ : ctN × ctF) => True) (fun E u t => xp E u.1 u.2 ∧ ct_B dC dI a cA u t) (va_A (ctW a cA n f) sz)) 1 6 (va_A (ctW a cA n f) sz) := by
  refine vx_ofW (cc := cC_checkPlace) (maxL := 3) (ret := none) (by decide) rfl ?_
  intro p e s m args below meth c s₁ B hml htb hv
  obtain ⟨rfl, hsz, hP, hK, hD0, hZ⟩ := hv
  have hx := B.exec
  have hb := B.bytes
  have hr := B.returns
  have hts := atoms_spec (ws := wsC_checkPlace) B.pre
  have hown : s.vm.findClass RC = some m.cls := findClass_of_methodNamed B.named
  have hlocks := B.notSynchronized
  subst hsz
  have hD := hD0.self (sz := s.heap.size)
  generalize hAe : va_A (ctW a cA n f) s.heap.size = A at hD hZ ⊢
  have hDa : ∀ (n : ctN) (f : ctF), va_D A (ctW a cA n f) := fun _ _ => ct_D hD
  have hA : ∀ q : Nat, s.heap.size ≤ q → A q := fun q h => by rw [← hAe]; exact Or.inr h
  have hS : va_S A s.heap s.heap [] := va_S.rf
  have hl := lv_entry ([.ref (a 0), .int p1, .int p2]) (n := 3) (Nat.le_of_ble_eq_true rfl)
  rw [lg_entry_eq]
  generalize (lg_sl ([.ref (a 0), .int p1, .int p2]) ++ List.replicate (3 - (lg_sl ([.ref (a 0), .int p1, .int p2])).length) Slot.unset).toArray = ls at hl ⊢
  have hl : lv_has ls 3 [(0, .ref (a 0)), (1, .int p1), (2, .int p2)] := hl
  unfold wp_C_checkPlace at hw
  refine lv_aload_n hx hb dC_checkPlace_0 rfl (lv_at hl 0 rfl) ?_
  refine va_get (D := (dC, dI)) (ci := 0) (v := .ref (a 2)) (C := RC) (T := TC) (N := 2) hx hb hts (fun w h => List.mem_cons_of_mem _ (inC w h)) hown hK hP 0 rfl rfl 1 (by decide) (hts (.fieldLink RC 21 "CoverTrees" "forest" "LCoverTrees$Forest;") (List.mem_cons_of_mem _ wt_135)) (fun _ h9 => h9) rfl dC_checkPlace_1 ?_
  refine lv_iload_n hx hb dC_checkPlace_4 rfl (lv_at hl 1 rfl) ?_
  refine ct_i (va_runV (As := [.int p1]) (rest := []) ⟨hx, hb, hml, hown, hts⟩ (met_F_has l dC dI a cA sa p1 n f _ hw) (cwV 1 hts (wb_V wt_300 wt_301 wt_302 wt_29 wt_303) rfl rfl rfl (by decide +kernel) ⟨Nat.le_of_ble_eq_true rfl, Nat.le_of_ble_eq_true rfl⟩) (ct_preV hK hP (hDa _ _) hZ hS hA (va_recv hK hP (ci := 2) (q0 := 2) rfl rfl)) rfl rfl hl.1 rfl (lv_room (Nat.le_of_ble_eq_true rfl)) dC_checkPlace_5 ⟨Nat.le_of_ble_eq_true rfl, Nat.le_of_ble_eq_true rfl⟩) (hDa _ _) hS hA (fun r1 n_2 f_3 H locs hw hP hS => ?_)
  refine lv_if_eq (tgt := 18) hx hb dC_checkPlace_8 (by decide) (fun c4 => ?_) (fun c4 => ?_)
  · have hw := hw.1 c4
    exact vx_throwS (own := RC) (cls := "java/lang/IllegalArgumentException") (text := "no such node or goal") (names := ["java/lang/RuntimeException", "java/lang/Exception"]) (ik := 35) (is := 141) (ic := 39) (sa := sa 12) hx hb hl9 hown (by decide +kernel) (by decide +kernel) (hts (.classLink RC 35 "java/lang/IllegalArgumentException") (List.mem_cons_of_mem _ wt_166)) (hts (.initialized "java/lang/IllegalArgumentException") (List.mem_cons_of_mem _ wt_34)) hZ.2.2.2.2.2.2.2.2.2.2.2.2.2.2.2.2.2.2.2.2.2.2.1 (vx_hat (L := vx_atS RC 39 "java/lang/IllegalArgumentException" ["java/lang/RuntimeException", "java/lang/Exception"]) (B := [.castable "java/lang/IllegalArgumentException" "java/lang/IllegalArgumentException", .declares ⟨"java/lang/RuntimeException", "<init>", "(Ljava/lang/String;)V"⟩, .declares ⟨"java/lang/Exception", "<init>", "(Ljava/lang/String;)V"⟩, .declares ⟨"java/lang/Throwable", "<init>", "(Ljava/lang/String;)V"⟩]) (fun w hw => hts w (List.mem_cons_of_mem _ (at_C_39 w hw))) bd_C_39 (vx_c (va_Nw.use rfl hZ.2.1) (vx_c (va_Nw.use rfl hZ.2.2.2.2.1) (vx_c (va_Nw.use rfl hZ.2.2.2.2.2.1) (vx_c (va_Nw.use rfl hZ.2.2.2.2.2.2.1) (vx_n)))))) gd_C_39 hZ.2.2.2.2.2.2.2.2.2.2.2.2.2.2.2.2.2.2.2.2.2.2.2.2.2.2.1 hZ.2.2.2.2.2.2.2.2.2.2.2.2.2.2.2.2.2.2.2.2.2.2.2.2.2.2.2 hS (hl.1.trans hml.symm) dC_checkPlace_18 dC_checkPlace_21 dC_checkPlace_22 dC_checkPlace_24 dC_checkPlace_27 (fun x h => (htb x h).elim) (Nat.le_of_ble_eq_true rfl) (Nat.le_of_ble_eq_true rfl) (Nat.le_of_ble_eq_true rfl) (Nat.le_of_ble_eq_true rfl) hlocks (fun t _ h1 h2 => ⟨(n_2, f_3), trivial, ⟨hw, (ct_thr hP hS h1 h2).1⟩, (ct_thr hP hS h1 h2).2⟩) hS.2.2 (Nat.le_of_ble_eq_true rfl) (Nat.le_of_ble_eq_true rfl)
  · have hw := hw.2 c4
    refine lv_iload_n hx hb dC_checkPlace_11 rfl (lv_at hl 2 rfl) ?_
    refine ct_i (va_runS (As := [.int p2]) (rest := []) ⟨hx, hb, hml, hown, hts⟩ (met_C_isGoal l dC dI a cA sa p2 n_2 f_3 _ hw) (cwS 1 hts (wb_S wt_261 wt_262 wt_27 wt_263) rfl rfl rfl (by decide +kernel) ⟨Nat.le_of_ble_eq_true rfl, Nat.le_of_ble_eq_true rfl⟩) (ct_pre hK hP (hDa _ _) hZ hS hA) rfl rfl hl.1 rfl (lv_room (Nat.le_of_ble_eq_true rfl)) dC_checkPlace_12 ⟨Nat.le_of_ble_eq_true rfl, Nat.le_of_ble_eq_true rfl⟩) (hDa _ _) hS hA (fun r5 n_6 f_7 H locs hw hP hS => ?_)
    refine lv_if_ne (tgt := 28) hx hb dC_checkPlace_15 (by decide) (fun c8 => ?_) (fun c8 => ?_)
    · have hw := hw.1 c8
      exact False.elim hw
    · have hw := hw.2 c8
      exact vx_throwS (own := RC) (cls := "java/lang/IllegalArgumentException") (text := "no such node or goal") (names := ["java/lang/RuntimeException", "java/lang/Exception"]) (ik := 35) (is := 141) (ic := 39) (sa := sa 12) hx hb hl9 hown (by decide +kernel) (by decide +kernel) (hts (.classLink RC 35 "java/lang/IllegalArgumentException") (List.mem_cons_of_mem _ wt_166)) (hts (.initialized "java/lang/IllegalArgumentException") (List.mem_cons_of_mem _ wt_34)) hZ.2.2.2.2.2.2.2.2.2.2.2.2.2.2.2.2.2.2.2.2.2.2.1 (vx_hat (L := vx_atS RC 39 "java/lang/IllegalArgumentException" ["java/lang/RuntimeException", "java/lang/Exception"]) (B := [.castable "java/lang/IllegalArgumentException" "java/lang/IllegalArgumentException", .declares ⟨"java/lang/RuntimeException", "<init>", "(Ljava/lang/String;)V"⟩, .declares ⟨"java/lang/Exception", "<init>", "(Ljava/lang/String;)V"⟩, .declares ⟨"java/lang/Throwable", "<init>", "(Ljava/lang/String;)V"⟩]) (fun w hw => hts w (List.mem_cons_of_mem _ (at_C_39 w hw))) bd_C_39 (vx_c (va_Nw.use rfl hZ.2.1) (vx_c (va_Nw.use rfl hZ.2.2.2.2.1) (vx_c (va_Nw.use rfl hZ.2.2.2.2.2.1) (vx_c (va_Nw.use rfl hZ.2.2.2.2.2.2.1) (vx_n)))))) gd_C_39 hZ.2.2.2.2.2.2.2.2.2.2.2.2.2.2.2.2.2.2.2.2.2.2.2.2.2.2.1 hZ.2.2.2.2.2.2.2.2.2.2.2.2.2.2.2.2.2.2.2.2.2.2.2.2.2.2.2 hS (hl.1.trans hml.symm) dC_checkPlace_18 dC_checkPlace_21 dC_checkPlace_22 dC_checkPlace_24 dC_checkPlace_27 (fun x h => (htb x h).elim) (Nat.le_of_ble_eq_true rfl) (Nat.le_of_ble_eq_true rfl) (Nat.le_of_ble_eq_true rfl) (Nat.le_of_ble_eq_true rfl) hlocks (fun t _ h1 h2 => ⟨(n_6, f_7), trivial, ⟨hw, (ct_thr hP hS h1 h2).1⟩, (ct_thr hP hS h1 h2).2⟩) hS.2.2 (Nat.le_of_ble_eq_true rfl) (Nat.le_of_ble_eq_true rfl)
def wp_C_coverSize (post : Int32 → ctN → ctF → Prop) (xp : String → ctN → ctF → Prop) (p1 : Int32) (p2 : Int32) (n : ctN) (f : ctF) : Prop := wp_C_place (fun (r1 : Int32) (n_2 : ctN) (f_3 : ctF) => vp_in r1 960 ∧ (∀ x3_5 : Int32, x3_5 = (f_3 16 r1.toNatClampNeg) → ((x3_5 ≤ 2000 → (post x3_5 n_2 f_3)) ∧ (¬ x3_5 ≤ 2000 → (xp "java/lang/UnsupportedOperationException" n_2 f_3))))) p1 p2 n f
set_option maxHeartbeats 4000000 in
set_option maxRecDepth 100000 in
theorem met0_C_coverSize (l : Launch) (dC : Nat → ClassId) (dI : Nat → Nat → Nat) (a : Nat → Nat) (cA : Nat → ClassId) (sa : Nat → Nat) (p1 : Int32) (p2 : Int32) (n : ctN) (f : ctF) (sz : Nat) {post : Int32 → ctN → ctF → Prop} (hw : wp_C_coverSize post xF p1 p2 n f) : Met l yC_coverSize wsC_coverSize ({ frames := 6, cells := 0, slots := 0, locals := 90 } : Room) (ct_Pc dC dI a cA sa [.ref (a 0), .int p1, .int p2] n f sz) (va_Qi (fun (r : Int32) (u : ctN × ctF) => post r u.1 u.2) (ct_B dC dI a cA) (va_A (ctW a cA n f) sz)) 0 0 (va_A (ctW a cA n f) sz) := by
  refine Met.ofW (cc := cC_coverSize) (maxL := 4) (ret := (some .int)) (by decide) rfl ?_
  intro p e s m args below meth c s₁ B hml hv
  obtain ⟨rfl, hsz, hP, hK, hD0, hZ⟩ := hv
  have hx := B.exec
  have hb := B.bytes
  have hr := B.returns
  have hts := atoms_spec (ws := wsC_coverSize) B.pre
  have hown : s.vm.findClass RC = some m.cls := findClass_of_methodNamed B.named
  have hlocks := B.notSynchronized
  subst hsz
  have hD := hD0.self (sz := s.heap.size)
  generalize hAe : va_A (ctW a cA n f) s.heap.size = A at hD hZ ⊢
  have hDa : ∀ (n : ctN) (f : ctF), va_D A (ctW a cA n f) := fun _ _ => ct_D hD
  have hA : ∀ q : Nat, s.heap.size ≤ q → A q := fun q h => by rw [← hAe]; exact Or.inr h
  have hS : va_S A s.heap s.heap [] := va_S.rf
  have hl := lv_entry ([.ref (a 0), .int p1, .int p2]) (n := 4) (Nat.le_of_ble_eq_true rfl)
  rw [lg_entry_eq]
  generalize (lg_sl ([.ref (a 0), .int p1, .int p2]) ++ List.replicate (4 - (lg_sl ([.ref (a 0), .int p1, .int p2])).length) Slot.unset).toArray = ls at hl ⊢
  have hl : lv_has ls 4 [(0, .ref (a 0)), (1, .int p1), (2, .int p2)] := hl
  unfold wp_C_coverSize at hw
  refine lv_aload_n hx hb dC_coverSize_0 rfl (lv_at hl 0 rfl) ?_
  refine va_get (D := (dC, dI)) (ci := 0) (v := .ref (a 2)) (C := RC) (T := TC) (N := 2) hx hb hts (fun w h => List.mem_cons_of_mem _ (inC w h)) hown hK hP 0 rfl rfl 1 (by decide) (hts (.fieldLink RC 21 "CoverTrees" "forest" "LCoverTrees$Forest;") (List.mem_cons_of_mem _ wt_135)) (fun _ h9 => h9) rfl dC_coverSize_1 ?_
  refine va_get (D := (dC, dI)) (ci := 2) (v := .ref (a 16)) (C := RF) (T := TF) (N := 11) hx hb hts (fun w h => List.mem_cons_of_mem _ (inF w h)) hown hK hP 2 rfl rfl 9 (by decide) (hts (.fieldLink RC 143 "CoverTrees$Forest" "size" "[I") (List.mem_cons_of_mem _ wt_108)) (fun _ h9 => h9) rfl dC_coverSize_4 ?_
  refine lv_iload_n hx hb dC_coverSize_7 rfl (lv_at hl 1 rfl) ?_
  refine lv_iload_n hx hb dC_coverSize_8 rfl (lv_at hl 2 rfl) ?_
  refine ct_i (va_runS (As := [.int p1, .int p2]) (rest := [.ref (a 16)]) ⟨hx, hb, hml, hown, hts⟩ (met_C_place l dC dI a cA sa p1 p2 n f _ hw) (cwS 2 hts (wb_S wt_382 wt_315 wt_27 wt_316) rfl rfl rfl (by decide +kernel) ⟨Nat.le_of_ble_eq_true rfl, Nat.le_of_ble_eq_true rfl⟩) (ct_pre hK hP (hDa _ _) hZ hS hA) rfl rfl hl.1 rfl (lv_room (Nat.le_of_ble_eq_true rfl)) dC_coverSize_9 ⟨Nat.le_of_ble_eq_true rfl, Nat.le_of_ble_eq_true rfl⟩) (hDa _ _) hS hA (fun r1 n_2 f_3 H locs hw hP hS => ?_)
  obtain ⟨hi4, hw⟩ := hw
  refine va_iald hx hb hK hP 16 13 rfl rfl hi4 dC_coverSize_12 ?_
  refine lv_topi (fun x3_5 ex3_5 => ?_)
  have hw := hw x3_5 ex3_5
  refine lv_istore_n (lv' := [(3, .int x3_5), (0, .ref (a 0)), (1, .int p1), (2, .int p2)]) hx hb dC_coverSize_13 rfl hl (by decide) rfl (fun ls hl => ?_)
  refine lv_iload_n hx hb dC_coverSize_14 rfl (lv_at hl 0 rfl) ?_
  refine lv_sipush (v := 2000) hx hb dC_coverSize_15 (by decide) ?_
  refine lv_icmp_le (tgt := 31) hx hb dC_coverSize_18 (by decide) (fun c6 => ?_) (fun c6 => ?_)
  · have hw := hw.1 c6
    refine lv_iload_n hx hb dC_coverSize_31 rfl (lv_at hl 0 rfl) ?_
    exact W.iret (v := x3_5) hx hb hr (fun t ht hW => ⟨⟨x3_5, (n_2, f_3), rfl, hw, ct_mkB ht hP⟩, hS.F ht⟩) hS.2.2 dC_coverSize_32
  · have hw := hw.2 c6
    exact False.elim hw
set_option maxHeartbeats 4000000 in
set_option maxRecDepth 100000 in
theorem metx_C_coverSize (l : Launch) (hl9 : l.stackTraces = false) (dC : Nat → ClassId) (dI : Nat → Nat → Nat) (a : Nat → Nat) (cA : Nat → ClassId) (sa : Nat → Nat) (p1 : Int32) (p2 : Int32) (n : ctN) (f : ctF) (sz : Nat) {xp : String → ctN → ctF → Prop} (hw : wp_C_coverSize pFi xp p1 p2 n f) : vx_Met l yC_coverSize wsC_coverSize ({ frames := 6, cells := 1, slots := 6, locals := 90 } : Room) (ct_Pc dC dI a cA sa [.ref (a 0), .int p1, .int p2] n f sz) (va_Qi (fun (r : Int32) (u : ctN × ctF) => pFi r u.1 u.2) (ct_B dC dI a cA) (va_A (ctW a cA n f) sz)) (vx_X (fun (_ : ctN × ctF) => True) (fun E u t => xp E u.1 u.2 ∧ ct_B dC dI a cA u t) (va_A (ctW a cA n f) sz)) 1 6 (va_A (ctW a cA n f) sz) := by
  refine vx_ofW (cc := cC_coverSize) (maxL := 4) (ret := (some .int)) (by decide) rfl ?_
  intro p e s m args below meth c s₁ B hml htb hv
  obtain ⟨rfl, hsz, hP, hK, hD0, hZ⟩ := hv
  have hx := B.exec
  have hb := B.bytes
  have hr := B.returns
  have hts := atoms_spec (ws := wsC_coverSize) B.pre
  have hown : s.vm.findClass RC = some m.cls := findClass_of_methodNamed B.named
  have hlocks := B.notSynchronized
  subst hsz
  have hD := hD0.self (sz := s.heap.size)
  generalize hAe : va_A (ctW a cA n f) s.heap.size = A at hD hZ ⊢
  have hDa : ∀ (n : ctN) (f : ctF), va_D A (ctW a cA n f) := fun _ _ => ct_D hD
  have hA : ∀ q : Nat, s.heap.size ≤ q → A q := fun q h => by rw [← hAe]; exact Or.inr h
  have hS : va_S A s.heap s.heap [] := va_S.rf
  have hl := lv_entry ([.ref (a 0), .int p1, .int p2]) (n := 4) (Nat.le_of_ble_eq_true rfl)
  rw [lg_entry_eq]
  generalize (lg_sl ([.ref (a 0), .int p1, .int p2]) ++ List.replicate (4 - (lg_sl ([.ref (a 0), .int p1, .int p2])).length) Slot.unset).toArray = ls at hl ⊢
  have hl : lv_has ls 4 [(0, .ref (a 0)), (1, .int p1), (2, .int p2)] := hl
  unfold wp_C_coverSize at hw
  refine lv_aload_n hx hb dC_coverSize_0 rfl (lv_at hl 0 rfl) ?_
  refine va_get (D := (dC, dI)) (ci := 0) (v := .ref (a 2)) (C := RC) (T := TC) (N := 2) hx hb hts (fun w h => List.mem_cons_of_mem _ (inC w h)) hown hK hP 0 rfl rfl 1 (by decide) (hts (.fieldLink RC 21 "CoverTrees" "forest" "LCoverTrees$Forest;") (List.mem_cons_of_mem _ wt_135)) (fun _ h9 => h9) rfl dC_coverSize_1 ?_
  refine va_get (D := (dC, dI)) (ci := 2) (v := .ref (a 16)) (C := RF) (T := TF) (N := 11) hx hb hts (fun w h => List.mem_cons_of_mem _ (inF w h)) hown hK hP 2 rfl rfl 9 (by decide) (hts (.fieldLink RC 143 "CoverTrees$Forest" "size" "[I") (List.mem_cons_of_mem _ wt_108)) (fun _ h9 => h9) rfl dC_coverSize_4 ?_
  refine lv_iload_n hx hb dC_coverSize_7 rfl (lv_at hl 1 rfl) ?_
  refine lv_iload_n hx hb dC_coverSize_8 rfl (lv_at hl 2 rfl) ?_
  refine ct_i (va_runS (As := [.int p1, .int p2]) (rest := [.ref (a 16)]) ⟨hx, hb, hml, hown, hts⟩ (met_C_place l dC dI a cA sa p1 p2 n f _ hw) (cwS 2 hts (wb_S wt_382 wt_315 wt_27 wt_316) rfl rfl rfl (by decide +kernel) ⟨Nat.le_of_ble_eq_true rfl, Nat.le_of_ble_eq_true rfl⟩) (ct_pre hK hP (hDa _ _) hZ hS hA) rfl rfl hl.1 rfl (lv_room (Nat.le_of_ble_eq_true rfl)) dC_coverSize_9 ⟨Nat.le_of_ble_eq_true rfl, Nat.le_of_ble_eq_true rfl⟩) (hDa _ _) hS hA (fun r1 n_2 f_3 H locs hw hP hS => ?_)
  obtain ⟨hi4, hw⟩ := hw
  refine va_iald hx hb hK hP 16 13 rfl rfl hi4 dC_coverSize_12 ?_
  refine lv_topi (fun x3_5 ex3_5 => ?_)
  have hw := hw x3_5 ex3_5
  refine lv_istore_n (lv' := [(3, .int x3_5), (0, .ref (a 0)), (1, .int p1), (2, .int p2)]) hx hb dC_coverSize_13 rfl hl (by decide) rfl (fun ls hl => ?_)
  refine lv_iload_n hx hb dC_coverSize_14 rfl (lv_at hl 0 rfl) ?_
  refine lv_sipush (v := 2000) hx hb dC_coverSize_15 (by decide) ?_
  refine lv_icmp_le (tgt := 31) hx hb dC_coverSize_18 (by decide) (fun c6 => ?_) (fun c6 => ?_)
  · have hw := hw.1 c6
    refine lv_iload_n hx hb dC_coverSize_31 rfl (lv_at hl 0 rfl) ?_
    exact False.elim hw
  · have hw := hw.2 c6
    exact vx_throwS (own := RC) (cls := "java/lang/UnsupportedOperationException") (text := "the cover has more than 2000 rules") (names := ["java/lang/RuntimeException", "java/lang/Exception"]) (ik := 42) (is := 146) (ic := 46) (sa := sa 13) hx hb hl9 hown (by decide +kernel) (by decide +kernel) (hts (.classLink RC 42 "java/lang/UnsupportedOperationException") (List.mem_cons_of_mem _ wt_234)) (hts (.initialized "java/lang/UnsupportedOperationException") (List.mem_cons_of_mem _ wt_35)) hZ.2.2.2.2.2.2.2.2.2.2.2.2.2.2.2.2.2.2.2.2.2.2.2.1 (vx_hat (L := vx_atS RC 46 "java/lang/UnsupportedOperationException" ["java/lang/RuntimeException", "java/lang/Exception"]) (B := [.castable "java/lang/UnsupportedOperationException" "java/lang/UnsupportedOperationException", .declares ⟨"java/lang/RuntimeException", "<init>", "(Ljava/lang/String;)V"⟩, .declares ⟨"java/lang/Exception", "<init>", "(Ljava/lang/String;)V"⟩, .declares ⟨"java/lang/Throwable", "<init>", "(Ljava/lang/String;)V"⟩]) (fun w hw => hts w (List.mem_cons_of_mem _ (at_C_46 w hw))) bd_C_46 (vx_c (va_Nw.use rfl hZ.2.2.1) (vx_c (va_Nw.use rfl hZ.2.2.2.2.1) (vx_c (va_Nw.use rfl hZ.2.2.2.2.2.1) (vx_c (va_Nw.use rfl hZ.2.2.2.2.2.2.1) (vx_n)))))) gd_C_46 hZ.2.2.2.2.2.2.2.2.2.2.2.2.2.2.2.2.2.2.2.2.2.2.2.2.2.2.1 hZ.2.2.2.2.2.2.2.2.2.2.2.2.2.2.2.2.2.2.2.2.2.2.2.2.2.2.2 hS (hl.1.trans hml.symm) dC_coverSize_21 dC_coverSize_24 dC_coverSize_25 dC_coverSize_27 dC_coverSize_30 (fun x h => (htb x h).elim) (Nat.le_of_ble_eq_true rfl) (Nat.le_of_ble_eq_true rfl) (Nat.le_of_ble_eq_true rfl) (Nat.le_of_ble_eq_true rfl) hlocks (fun t _ h1 h2 => ⟨(n_2, f_3), trivial, ⟨hw, (ct_thr hP hS h1 h2).1⟩, (ct_thr hP hS h1 h2).2⟩) hS.2.2 (Nat.le_of_ble_eq_true rfl) (Nat.le_of_ble_eq_true rfl)
