def wp_C_clear (post : ctN → ctF → Prop) (n : ctN) (f : ctF) : Prop := ∀ n_1 : ctN, n_1 = va_up n 2 0 → (∀ n_2 : ctN, n_2 = va_up n_1 1 0 → (∀ n_3 : ctN, n_3 = va_up n_2 0 0 → (post n_3 f)))
set_option maxHeartbeats 4000000 in
set_option maxRecDepth 100000 in
theorem met_C_clear (l : Launch) (dC : Nat → ClassId) (dI : Nat → Nat → Nat) (a : Nat → Nat) (cA : Nat → ClassId) (sa : Nat → Nat) (n : ctN) (f : ctF) (sz : Nat) {post : ctN → ctF → Prop} (hw : wp_C_clear post n f) : Met l yC_clear wsC_clear ({ frames := 0, cells := 0, slots := 0, locals := 0 } : Room) (ct_Pc dC dI a cA sa [.ref (a 0)] n f sz) (va_Qv (fun (u : ctN × ctF) => post u.1 u.2) (ct_B dC dI a cA) (va_A (ctW a cA n f) sz)) 0 0 (va_A (ctW a cA n f) sz) := by
  refine Met.ofW (cc := cC_clear) (maxL := 1) (ret := none) (by decide) rfl ?_
  intro p e s m args below meth c s₁ B hml hv
  obtain ⟨rfl, hsz, hP, hK, hD0, hZ⟩ := hv
  have hx := B.exec
  have hb := B.bytes
  have hr := B.returns
  have hts := atoms_spec (ws := wsC_clear) B.pre
  have hown : s.vm.findClass RC = some m.cls := findClass_of_methodNamed B.named
  have hlocks := B.notSynchronized
  subst hsz
  have hD := hD0.self (sz := s.heap.size)
  generalize hAe : va_A (ctW a cA n f) s.heap.size = A at hD hZ ⊢
  have hDa : ∀ (n : ctN) (f : ctF), va_D A (ctW a cA n f) := fun _ _ => ct_D hD
  have hA : ∀ q : Nat, s.heap.size ≤ q → A q := fun q h => by rw [← hAe]; exact Or.inr h
  have hS : va_S A s.heap s.heap [] := va_S.rf
  have hl := lv_entry ([.ref (a 0)]) (n := 1) (Nat.le_of_ble_eq_true rfl)
  rw [lg_entry_eq]
  generalize (lg_sl ([.ref (a 0)]) ++ List.replicate (1 - (lg_sl ([.ref (a 0)])).length) Slot.unset).toArray = ls at hl ⊢
  have hl : lv_has ls 1 [(0, .ref (a 0))] := hl
  unfold wp_C_clear at hw
  refine lv_aload_n hx hb dC_clear_0 rfl (lv_at hl 0 rfl) ?_
  refine va_get (D := (dC, dI)) (ci := 0) (v := .ref (a 2)) (C := RC) (T := TC) (N := 2) hx hb hts (fun w h => List.mem_cons_of_mem _ (inC w h)) hown hK hP 0 rfl rfl 1 (by decide) (hts (.fieldLink RC 21 "CoverTrees" "forest" "LCoverTrees$Forest;") (List.mem_cons_of_mem _ wt_135)) (fun _ h9 => h9) rfl dC_clear_1 ?_
  refine lv_iconst (v := 0) hx hb dC_clear_4 (by decide) ?_
  refine va_put (D := (dC, dI)) (ci := 2) (v := .int 0) (ty := .int) (C := RF) (T := TF) (N := 11) hx hb hts (fun w h => List.mem_cons_of_mem _ (inF w h)) tyF tyF_ok nmF hown hK hP (hDa _ _) hS 2 rfl rfl 1 (by decide) (hts (.fieldLink RC 25 "CoverTrees$Forest" "count" "I") (List.mem_cons_of_mem _ wt_95)) (fun _ h9 => h9) rfl (by decide +kernel) rfl rfl (Nat.le_of_ble_eq_true rfl) dC_clear_5 (fun H locs hP _ hS => ?_)
  obtain ⟨n_1, en_1⟩ : ∃ z : ctN, z = va_up n 2 0 := ⟨_, rfl⟩
  have hw := hw n_1 en_1
  have hP : va_P (dC, dI) vcl (ctW a cA n_1 f) H := by rw [en_1]; exact hP
  refine lv_aload_n hx hb dC_clear_8 rfl (lv_at hl 0 rfl) ?_
  refine va_get (D := (dC, dI)) (ci := 0) (v := .ref (a 1)) (C := RC) (T := TC) (N := 2) hx hb hts (fun w h => List.mem_cons_of_mem _ (inC w h)) hown hK hP 0 rfl rfl 0 (by decide) (hts (.fieldLink RC 12 "CoverTrees" "grammar" "LCoverTrees$Grammar;") (List.mem_cons_of_mem _ wt_134)) (fun _ h9 => h9) rfl dC_clear_9 ?_
  refine lv_iconst (v := 0) hx hb dC_clear_12 (by decide) ?_
  refine va_put (D := (dC, dI)) (ci := 1) (v := .int 0) (ty := .int) (C := RG) (T := TG) (N := 8) hx hb hts (fun w h => List.mem_cons_of_mem _ (inG w h)) tyG tyG_ok nmG hown hK hP (hDa _ _) hS 1 rfl rfl 2 (by decide) (hts (.fieldLink RC 29 "CoverTrees$Grammar" "ruleCount" "I") (List.mem_cons_of_mem _ wt_57)) (fun _ h9 => h9) rfl (by decide +kernel) rfl rfl (Nat.le_of_ble_eq_true rfl) dC_clear_13 (fun H locs hP _ hS => ?_)
  obtain ⟨n_2, en_2⟩ : ∃ z : ctN, z = va_up n_1 1 0 := ⟨_, rfl⟩
  have hw := hw n_2 en_2
  have hP : va_P (dC, dI) vcl (ctW a cA n_2 f) H := by rw [en_2]; exact hP
  refine lv_aload_n hx hb dC_clear_16 rfl (lv_at hl 0 rfl) ?_
  refine va_get (D := (dC, dI)) (ci := 0) (v := .ref (a 1)) (C := RC) (T := TC) (N := 2) hx hb hts (fun w h => List.mem_cons_of_mem _ (inC w h)) hown hK hP 0 rfl rfl 0 (by decide) (hts (.fieldLink RC 12 "CoverTrees" "grammar" "LCoverTrees$Grammar;") (List.mem_cons_of_mem _ wt_134)) (fun _ h9 => h9) rfl dC_clear_17 ?_
  refine lv_iconst (v := 0) hx hb dC_clear_20 (by decide) ?_
  refine va_put (D := (dC, dI)) (ci := 1) (v := .int 0) (ty := .int) (C := RG) (T := TG) (N := 8) hx hb hts (fun w h => List.mem_cons_of_mem _ (inG w h)) tyG tyG_ok nmG hown hK hP (hDa _ _) hS 1 rfl rfl 0 (by decide) (hts (.fieldLink RC 32 "CoverTrees$Grammar" "operatorCount" "I") (List.mem_cons_of_mem _ wt_53)) (fun _ h9 => h9) rfl (by decide +kernel) rfl rfl (Nat.le_of_ble_eq_true rfl) dC_clear_21 (fun H locs hP _ hS => ?_)
  obtain ⟨n_3, en_3⟩ : ∃ z : ctN, z = va_up n_2 0 0 := ⟨_, rfl⟩
  have hw := hw n_3 en_3
  have hP : va_P (dC, dI) vcl (ctW a cA n_3 f) H := by rw [en_3]; exact hP
  exact W.vret hx hb hr (fun t ht hW => ⟨⟨(n_3, f), rfl, hw, ct_mkB ht hP⟩, hS.F ht⟩) hS.2.2 dC_clear_24
def wp_C_fell (post : ctN → ctF → Prop) (n : ctN) (f : ctF) : Prop := ∀ n_1 : ctN, n_1 = va_up n 2 0 → (post n_1 f)
set_option maxHeartbeats 4000000 in
set_option maxRecDepth 100000 in
theorem met_C_fell (l : Launch) (dC : Nat → ClassId) (dI : Nat → Nat → Nat) (a : Nat → Nat) (cA : Nat → ClassId) (sa : Nat → Nat) (n : ctN) (f : ctF) (sz : Nat) {post : ctN → ctF → Prop} (hw : wp_C_fell post n f) : Met l yC_fell wsC_fell ({ frames := 0, cells := 0, slots := 0, locals := 0 } : Room) (ct_Pc dC dI a cA sa [.ref (a 0)] n f sz) (va_Qv (fun (u : ctN × ctF) => post u.1 u.2) (ct_B dC dI a cA) (va_A (ctW a cA n f) sz)) 0 0 (va_A (ctW a cA n f) sz) := by
  refine Met.ofW (cc := cC_fell) (maxL := 1) (ret := none) (by decide) rfl ?_
  intro p e s m args below meth c s₁ B hml hv
  obtain ⟨rfl, hsz, hP, hK, hD0, hZ⟩ := hv
  have hx := B.exec
  have hb := B.bytes
  have hr := B.returns
  have hts := atoms_spec (ws := wsC_fell) B.pre
  have hown : s.vm.findClass RC = some m.cls := findClass_of_methodNamed B.named
  have hlocks := B.notSynchronized
  subst hsz
  have hD := hD0.self (sz := s.heap.size)
  generalize hAe : va_A (ctW a cA n f) s.heap.size = A at hD hZ ⊢
  have hDa : ∀ (n : ctN) (f : ctF), va_D A (ctW a cA n f) := fun _ _ => ct_D hD
  have hA : ∀ q : Nat, s.heap.size ≤ q → A q := fun q h => by rw [← hAe]; exact Or.inr h
  have hS : va_S A s.heap s.heap [] := va_S.rf
  have hl := lv_entry ([.ref (a 0)]) (n := 1) (Nat.le_of_ble_eq_true rfl)
  rw [lg_entry_eq]
  generalize (lg_sl ([.ref (a 0)]) ++ List.replicate (1 - (lg_sl ([.ref (a 0)])).length) Slot.unset).toArray = ls at hl ⊢
  have hl : lv_has ls 1 [(0, .ref (a 0))] := hl
  unfold wp_C_fell at hw
  refine lv_aload_n hx hb dC_fell_0 rfl (lv_at hl 0 rfl) ?_
  refine va_get (D := (dC, dI)) (ci := 0) (v := .ref (a 2)) (C := RC) (T := TC) (N := 2) hx hb hts (fun w h => List.mem_cons_of_mem _ (inC w h)) hown hK hP 0 rfl rfl 1 (by decide) (hts (.fieldLink RC 21 "CoverTrees" "forest" "LCoverTrees$Forest;") (List.mem_cons_of_mem _ wt_135)) (fun _ h9 => h9) rfl dC_fell_1 ?_
  refine lv_iconst (v := 0) hx hb dC_fell_4 (by decide) ?_
  refine va_put (D := (dC, dI)) (ci := 2) (v := .int 0) (ty := .int) (C := RF) (T := TF) (N := 11) hx hb hts (fun w h => List.mem_cons_of_mem _ (inF w h)) tyF tyF_ok nmF hown hK hP (hDa _ _) hS 2 rfl rfl 1 (by decide) (hts (.fieldLink RC 25 "CoverTrees$Forest" "count" "I") (List.mem_cons_of_mem _ wt_95)) (fun _ h9 => h9) rfl (by decide +kernel) rfl rfl (Nat.le_of_ble_eq_true rfl) dC_fell_5 (fun H locs hP _ hS => ?_)
  obtain ⟨n_1, en_1⟩ : ∃ z : ctN, z = va_up n 2 0 := ⟨_, rfl⟩
  have hw := hw n_1 en_1
  have hP : va_P (dC, dI) vcl (ctW a cA n_1 f) H := by rw [en_1]; exact hP
  exact W.vret hx hb hr (fun t ht hW => ⟨⟨(n_1, f), rfl, hw, ct_mkB ht hP⟩, hS.F ht⟩) hS.2.2 dC_fell_8
def wp_C_operator (post : Int32 → ctN → ctF → Prop) (xp : String → ctN → ctF → Prop) (p1 : Int32) (n : ctN) (f : ctF) : Prop := (p1 < 0 → (xp "java/lang/IllegalArgumentException" n f)) ∧ (¬ p1 < 0 → ((p1 ≤ 2 → (((n 0) < 10 → (wp_G_addOperator (fun (r4 : Int32) (n_5 : ctN) (f_6 : ctF) => post r4 n_5 f_6) p1 n f)) ∧ (¬ (n 0) < 10 → (xp "java/lang/UnsupportedOperationException" n f)))) ∧ (¬ p1 ≤ 2 → (xp "java/lang/IllegalArgumentException" n f))))
set_option maxHeartbeats 4000000 in
set_option maxRecDepth 100000 in
theorem met0_C_operator (l : Launch) (dC : Nat → ClassId) (dI : Nat → Nat → Nat) (a : Nat → Nat) (cA : Nat → ClassId) (sa : Nat → Nat) (p1 : Int32) (n : ctN) (f : ctF) (sz : Nat) {post : Int32 → ctN → ctF → Prop} (hw : wp_C_operator post xF p1 n f) : Met l yC_operator wsC_operator ({ frames := 6, cells := 0, slots := 0, locals := 90 } : Room) (ct_Pc dC dI a cA sa [.ref (a 0), .int p1] n f sz) (va_Qi (fun (r : Int32) (u : ctN × ctF) => post r u.1 u.2) (ct_B dC dI a cA) (va_A (ctW a cA n f) sz)) 0 0 (va_A (ctW a cA n f) sz) := by
  refine Met.ofW (cc := cC_operator) (maxL := 2) (ret := (some .int)) (by decide) rfl ?_
  intro p e s m args below meth c s₁ B hml hv
  obtain ⟨rfl, hsz, hP, hK, hD0, hZ⟩ := hv
  have hx := B.exec
  have hb := B.bytes
  have hr := B.returns
  have hts := atoms_spec (ws := wsC_operator) B.pre
  have hown : s.vm.findClass RC = some m.cls := findClass_of_methodNamed B.named
  have hlocks := B.notSynchronized
  subst hsz
  have hD := hD0.self (sz := s.heap.size)
  generalize hAe : va_A (ctW a cA n f) s.heap.size = A at hD hZ ⊢
  have hDa : ∀ (n : ctN) (f : ctF), va_D A (ctW a cA n f) := fun _ _ => ct_D hD
  have hA : ∀ q : Nat, s.heap.size ≤ q → A q := fun q h => by rw [← hAe]; exact Or.inr h
  have hS : va_S A s.heap s.heap [] := va_S.rf
  have hl := lv_entry ([.ref (a 0), .int p1]) (n := 2) (Nat.le_of_ble_eq_true rfl)
  rw [lg_entry_eq]
  generalize (lg_sl ([.ref (a 0), .int p1]) ++ List.replicate (2 - (lg_sl ([.ref (a 0), .int p1])).length) Slot.unset).toArray = ls at hl ⊢
  have hl : lv_has ls 2 [(0, .ref (a 0)), (1, .int p1)] := hl
  unfold wp_C_operator at hw
  refine lv_iload_n hx hb dC_operator_0 rfl (lv_at hl 1 rfl) ?_
  refine lv_if_lt (tgt := 9) hx hb dC_operator_1 (by decide) (fun c1 => ?_) (fun c1 => ?_)
  · have hw := hw.1 c1
    exact False.elim hw
  · have hw := hw.2 c1
    refine lv_iload_n hx hb dC_operator_4 rfl (lv_at hl 1 rfl) ?_
    refine lv_iconst (v := 2) hx hb dC_operator_5 (by decide) ?_
    refine lv_icmp_le (tgt := 19) hx hb dC_operator_6 (by decide) (fun c2 => ?_) (fun c2 => ?_)
    · have hw := hw.1 c2
      refine lv_aload_n hx hb dC_operator_19 rfl (lv_at hl 0 rfl) ?_
      refine va_get (D := (dC, dI)) (ci := 0) (v := .ref (a 1)) (C := RC) (T := TC) (N := 2) hx hb hts (fun w h => List.mem_cons_of_mem _ (inC w h)) hown hK hP 0 rfl rfl 0 (by decide) (hts (.fieldLink RC 12 "CoverTrees" "grammar" "LCoverTrees$Grammar;") (List.mem_cons_of_mem _ wt_134)) (fun _ h9 => h9) rfl dC_operator_20 ?_
      refine va_get (D := (dC, dI)) (ci := 1) (v := .int (n 0)) (C := RG) (T := TG) (N := 8) hx hb hts (fun w h => List.mem_cons_of_mem _ (inG w h)) hown hK hP 1 rfl rfl 0 (by decide) (hts (.fieldLink RC 32 "CoverTrees$Grammar" "operatorCount" "I") (List.mem_cons_of_mem _ wt_53)) (fun _ h9 => h9) rfl dC_operator_23 ?_
      refine lv_bipush (v := 10) hx hb dC_operator_26 (by decide) ?_
      refine lv_icmp_lt (tgt := 41) hx hb dC_operator_28 (by decide) (fun c3 => ?_) (fun c3 => ?_)
      · have hw := hw.1 c3
        refine lv_aload_n hx hb dC_operator_41 rfl (lv_at hl 0 rfl) ?_
        refine va_get (D := (dC, dI)) (ci := 0) (v := .ref (a 1)) (C := RC) (T := TC) (N := 2) hx hb hts (fun w h => List.mem_cons_of_mem _ (inC w h)) hown hK hP 0 rfl rfl 0 (by decide) (hts (.fieldLink RC 12 "CoverTrees" "grammar" "LCoverTrees$Grammar;") (List.mem_cons_of_mem _ wt_134)) (fun _ h9 => h9) rfl dC_operator_42 ?_
        refine lv_iload_n hx hb dC_operator_45 rfl (lv_at hl 1 rfl) ?_
        refine ct_i (va_runV (As := [.int p1]) (rest := []) ⟨hx, hb, hml, hown, hts⟩ (met_G_addOperator l dC dI a cA sa p1 n f _ hw) (cwV 1 hts (wb_V wt_250 wt_251 wt_252 wt_28 wt_253) rfl rfl rfl (by decide +kernel) ⟨Nat.le_of_ble_eq_true rfl, Nat.le_of_ble_eq_true rfl⟩) (ct_preV hK hP (hDa _ _) hZ hS hA (va_recv hK hP (ci := 1) (q0 := 1) rfl rfl)) rfl rfl hl.1 rfl (lv_room (Nat.le_of_ble_eq_true rfl)) dC_operator_46 ⟨Nat.le_of_ble_eq_true rfl, Nat.le_of_ble_eq_true rfl⟩) (hDa _ _) hS hA (fun r4 n_5 f_6 H locs hw hP hS => ?_)
        exact W.iret (v := r4) hx hb hr (fun t ht hW => ⟨⟨r4, (n_5, f_6), rfl, hw, ct_mkB ht hP⟩, hS.F ht⟩) hS.2.2 dC_operator_49
      · have hw := hw.2 c3
        exact False.elim hw
    · have hw := hw.2 c2
      exact False.elim hw
set_option maxHeartbeats 4000000 in
set_option maxRecDepth 100000 in
theorem metx_C_operator (l : Launch) (hl9 : l.stackTraces = false) (dC : Nat → ClassId) (dI : Nat → Nat → Nat) (a : Nat → Nat) (cA : Nat → ClassId) (sa : Nat → Nat) (p1 : Int32) (n : ctN) (f : ctF) (sz : Nat) {xp : String → ctN → ctF → Prop} (hw : wp_C_operator pFi xp p1 n f) : vx_Met l yC_operator wsC_operator ({ frames := 6, cells := 1, slots := 6, locals := 90 } : Room) (ct_Pc dC dI a cA sa [.ref (a 0), .int p1] n f sz) (va_Qi (fun (r : Int32) (u : ctN × ctF) => pFi r u.1 u.2) (ct_B dC dI a cA) (va_A (ctW a cA n f) sz)) (vx_X (fun (_ : ctN × ctF) => True) (fun E u t => xp E u.1 u.2 ∧ ct_B dC dI a cA u t) (va_A (ctW a cA n f) sz)) 1 6 (va_A (ctW a cA n f) sz) := by
  refine vx_ofW (cc := cC_operator) (maxL := 2) (ret := (some .int)) (by decide) rfl ?_
  intro p e s m args below meth c s₁ B hml htb hv
  obtain ⟨rfl, hsz, hP, hK, hD0, hZ⟩ := hv
  have hx := B.exec
  have hb := B.bytes
  have hr := B.returns
  have hts := atoms_spec (ws := wsC_operator) B.pre
  have hown : s.vm.findClass RC = some m.cls := findClass_of_methodNamed B.named
  have hlocks := B.notSynchronized
  subst hsz
  have hD := hD0.self (sz := s.heap.size)
  generalize hAe : va_A (ctW a cA n f) s.heap.size = A at hD hZ ⊢
  have hDa : ∀ (n : ctN) (f : ctF), va_D A (ctW a cA n f) := fun _ _ => ct_D hD
  have hA : ∀ q : Nat, s.heap.size ≤ q → A q := fun q h => by rw [← hAe]; exact Or.inr h
  have hS : va_S A s.heap s.heap [] := va_S.rf
  have hl := lv_entry ([.ref (a 0), .int p1]) (n := 2) (Nat.le_of_ble_eq_true rfl)
  rw [lg_entry_eq]
  generalize (lg_sl ([.ref (a 0), .int p1]) ++ List.replicate (2 - (lg_sl ([.ref (a 0), .int p1])).length) Slot.unset).toArray = ls at hl ⊢
  have hl : lv_has ls 2 [(0, .ref (a 0)), (1, .int p1)] := hl
  unfold wp_C_operator at hw
  refine lv_iload_n hx hb dC_operator_0 rfl (lv_at hl 1 rfl) ?_
  refine lv_if_lt (tgt := 9) hx hb dC_operator_1 (by decide) (fun c1 => ?_) (fun c1 => ?_)
  · have hw := hw.1 c1
    exact vx_throwS (own := RC) (cls := "java/lang/IllegalArgumentException") (text := "an operator has 0 to 2 parts") (names := ["java/lang/RuntimeException", "java/lang/Exception"]) (ik := 35) (is := 37) (ic := 39) (sa := sa 0) hx hb hl9 hown (by decide +kernel) (by decide +kernel) (hts (.classLink RC 35 "java/lang/IllegalArgumentException") (List.mem_cons_of_mem _ wt_166)) (hts (.initialized "java/lang/IllegalArgumentException") (List.mem_cons_of_mem _ wt_34)) hZ.2.2.2.2.2.2.2.2.2.2.1 (vx_hat (L := vx_atS RC 39 "java/lang/IllegalArgumentException" ["java/lang/RuntimeException", "java/lang/Exception"]) (B := [.castable "java/lang/IllegalArgumentException" "java/lang/IllegalArgumentException", .declares ⟨"java/lang/RuntimeException", "<init>", "(Ljava/lang/String;)V"⟩, .declares ⟨"java/lang/Exception", "<init>", "(Ljava/lang/String;)V"⟩, .declares ⟨"java/lang/Throwable", "<init>", "(Ljava/lang/String;)V"⟩]) (fun w hw => hts w (List.mem_cons_of_mem _ (at_C_39 w hw))) bd_C_39 (vx_c (va_Nw.use rfl hZ.2.1) (vx_c (va_Nw.use rfl hZ.2.2.2.2.1) (vx_c (va_Nw.use rfl hZ.2.2.2.2.2.1) (vx_c (va_Nw.use rfl hZ.2.2.2.2.2.2.1) (vx_n)))))) gd_C_39 hZ.2.2.2.2.2.2.2.2.2.2.2.2.2.2.2.2.2.2.2.2.2.2.2.2.2.2.1 hZ.2.2.2.2.2.2.2.2.2.2.2.2.2.2.2.2.2.2.2.2.2.2.2.2.2.2.2 hS (hl.1.trans hml.symm) dC_operator_9 dC_operator_12 dC_operator_13 dC_operator_15 dC_operator_18 (fun x h => (htb x h).elim) (Nat.le_of_ble_eq_true rfl) (Nat.le_of_ble_eq_true rfl) (Nat.le_of_ble_eq_true rfl) (Nat.le_of_ble_eq_true rfl) hlocks (fun t _ h1 h2 => ⟨(n, f), trivial, ⟨hw, (ct_thr hP hS h1 h2).1⟩, (ct_thr hP hS h1 h2).2⟩) hS.2.2 (Nat.le_of_ble_eq_true rfl) (Nat.le_of_ble_eq_true rfl)
  · have hw := hw.2 c1
    refine lv_iload_n hx hb dC_operator_4 rfl (lv_at hl 1 rfl) ?_
    refine lv_iconst (v := 2) hx hb dC_operator_5 (by decide) ?_
    refine lv_icmp_le (tgt := 19) hx hb dC_operator_6 (by decide) (fun c2 => ?_) (fun c2 => ?_)
    · have hw := hw.1 c2
      refine lv_aload_n hx hb dC_operator_19 rfl (lv_at hl 0 rfl) ?_
      refine va_get (D := (dC, dI)) (ci := 0) (v := .ref (a 1)) (C := RC) (T := TC) (N := 2) hx hb hts (fun w h => List.mem_cons_of_mem _ (inC w h)) hown hK hP 0 rfl rfl 0 (by decide) (hts (.fieldLink RC 12 "CoverTrees" "grammar" "LCoverTrees$Grammar;") (List.mem_cons_of_mem _ wt_134)) (fun _ h9 => h9) rfl dC_operator_20 ?_
      refine va_get (D := (dC, dI)) (ci := 1) (v := .int (n 0)) (C := RG) (T := TG) (N := 8) hx hb hts (fun w h => List.mem_cons_of_mem _ (inG w h)) hown hK hP 1 rfl rfl 0 (by decide) (hts (.fieldLink RC 32 "CoverTrees$Grammar" "operatorCount" "I") (List.mem_cons_of_mem _ wt_53)) (fun _ h9 => h9) rfl dC_operator_23 ?_
      refine lv_bipush (v := 10) hx hb dC_operator_26 (by decide) ?_
      refine lv_icmp_lt (tgt := 41) hx hb dC_operator_28 (by decide) (fun c3 => ?_) (fun c3 => ?_)
      · have hw := hw.1 c3
        refine lv_aload_n hx hb dC_operator_41 rfl (lv_at hl 0 rfl) ?_
        refine va_get (D := (dC, dI)) (ci := 0) (v := .ref (a 1)) (C := RC) (T := TC) (N := 2) hx hb hts (fun w h => List.mem_cons_of_mem _ (inC w h)) hown hK hP 0 rfl rfl 0 (by decide) (hts (.fieldLink RC 12 "CoverTrees" "grammar" "LCoverTrees$Grammar;") (List.mem_cons_of_mem _ wt_134)) (fun _ h9 => h9) rfl dC_operator_42 ?_
        refine lv_iload_n hx hb dC_operator_45 rfl (lv_at hl 1 rfl) ?_
        refine ct_i (va_runV (As := [.int p1]) (rest := []) ⟨hx, hb, hml, hown, hts⟩ (met_G_addOperator l dC dI a cA sa p1 n f _ hw) (cwV 1 hts (wb_V wt_250 wt_251 wt_252 wt_28 wt_253) rfl rfl rfl (by decide +kernel) ⟨Nat.le_of_ble_eq_true rfl, Nat.le_of_ble_eq_true rfl⟩) (ct_preV hK hP (hDa _ _) hZ hS hA (va_recv hK hP (ci := 1) (q0 := 1) rfl rfl)) rfl rfl hl.1 rfl (lv_room (Nat.le_of_ble_eq_true rfl)) dC_operator_46 ⟨Nat.le_of_ble_eq_true rfl, Nat.le_of_ble_eq_true rfl⟩) (hDa _ _) hS hA (fun r4 n_5 f_6 H locs hw hP hS => ?_)
        exact False.elim hw
      · have hw := hw.2 c3
        exact vx_throwS (own := RC) (cls := "java/lang/UnsupportedOperationException") (text := "there are ten operators") (names := ["java/lang/RuntimeException", "java/lang/Exception"]) (ik := 42) (is := 44) (ic := 46) (sa := sa 1) hx hb hl9 hown (by decide +kernel) (by decide +kernel) (hts (.classLink RC 42 "java/lang/UnsupportedOperationException") (List.mem_cons_of_mem _ wt_234)) (hts (.initialized "java/lang/UnsupportedOperationException") (List.mem_cons_of_mem _ wt_35)) hZ.2.2.2.2.2.2.2.2.2.2.2.1 (vx_hat (L := vx_atS RC 46 "java/lang/UnsupportedOperationException" ["java/lang/RuntimeException", "java/lang/Exception"]) (B := [.castable "java/lang/UnsupportedOperationException" "java/lang/UnsupportedOperationException", .declares ⟨"java/lang/RuntimeException", "<init>", "(Ljava/lang/String;)V"⟩, .declares ⟨"java/lang/Exception", "<init>", "(Ljava/lang/String;)V"⟩, .declares ⟨"java/lang/Throwable", "<init>", "(Ljava/lang/String;)V"⟩]) (fun w hw => hts w (List.mem_cons_of_mem _ (at_C_46 w hw))) bd_C_46 (vx_c (va_Nw.use rfl hZ.2.2.1) (vx_c (va_Nw.use rfl hZ.2.2.2.2.1) (vx_c (va_Nw.use rfl hZ.2.2.2.2.2.1) (vx_c (va_Nw.use rfl hZ.2.2.2.2.2.2.1) (vx_n)))))) gd_C_46 hZ.2.2.2.2.2.2.2.2.2.2.2.2.2.2.2.2.2.2.2.2.2.2.2.2.2.2.1 hZ.2.2.2.2.2.2.2.2.2.2.2.2.2.2.2.2.2.2.2.2.2.2.2.2.2.2.2 hS (hl.1.trans hml.symm) dC_operator_31 dC_operator_34 dC_operator_35 dC_operator_37 dC_operator_40 (fun x h => (htb x h).elim) (Nat.le_of_ble_eq_true rfl) (Nat.le_of_ble_eq_true rfl) (Nat.le_of_ble_eq_true rfl) (Nat.le_of_ble_eq_true rfl) hlocks (fun t _ h1 h2 => ⟨(n, f), trivial, ⟨hw, (ct_thr hP hS h1 h2).1⟩, (ct_thr hP hS h1 h2).2⟩) hS.2.2 (Nat.le_of_ble_eq_true rfl) (Nat.le_of_ble_eq_true rfl)
    · have hw := hw.2 c2
      exact vx_throwS (own := RC) (cls := "java/lang/IllegalArgumentException") (text := "an operator has 0 to 2 parts") (names := ["java/lang/RuntimeException", "java/lang/Exception"]) (ik := 35) (is := 37) (ic := 39) (sa := sa 0) hx hb hl9 hown (by decide +kernel) (by decide +kernel) (hts (.classLink RC 35 "java/lang/IllegalArgumentException") (List.mem_cons_of_mem _ wt_166)) (hts (.initialized "java/lang/IllegalArgumentException") (List.mem_cons_of_mem _ wt_34)) hZ.2.2.2.2.2.2.2.2.2.2.1 (vx_hat (L := vx_atS RC 39 "java/lang/IllegalArgumentException" ["java/lang/RuntimeException", "java/lang/Exception"]) (B := [.castable "java/lang/IllegalArgumentException" "java/lang/IllegalArgumentException", .declares ⟨"java/lang/RuntimeException", "<init>", "(Ljava/lang/String;)V"⟩, .declares ⟨"java/lang/Exception", "<init>", "(Ljava/lang/String;)V"⟩, .declares ⟨"java/lang/Throwable", "<init>", "(Ljava/lang/String;)V"⟩]) (fun w hw => hts w (List.mem_cons_of_mem _ (at_C_39 w hw))) bd_C_39 (vx_c (va_Nw.use rfl hZ.2.1) (vx_c (va_Nw.use rfl hZ.2.2.2.2.1) (vx_c (va_Nw.use rfl hZ.2.2.2.2.2.1) (vx_c (va_Nw.use rfl hZ.2.2.2.2.2.2.1) (vx_n)))))) gd_C_39 hZ.2.2.2.2.2.2.2.2.2.2.2.2.2.2.2.2.2.2.2.2.2.2.2.2.2.2.1 hZ.2.2.2.2.2.2.2.2.2.2.2.2.2.2.2.2.2.2.2.2.2.2.2.2.2.2.2 hS (hl.1.trans hml.symm) dC_operator_9 dC_operator_12 dC_operator_13 dC_operator_15 dC_operator_18 (fun x h => (htb x h).elim) (Nat.le_of_ble_eq_true rfl) (Nat.le_of_ble_eq_true rfl) (Nat.le_of_ble_eq_true rfl) (Nat.le_of_ble_eq_true rfl) hlocks (fun t _ h1 h2 => ⟨(n, f), trivial, ⟨hw, (ct_thr hP hS h1 h2).1⟩, (ct_thr hP hS h1 h2).2⟩) hS.2.2 (Nat.le_of_ble_eq_true rfl) (Nat.le_of_ble_eq_true rfl)
def wp_C_base_J76 (post : Int32 → ctN → ctF → Prop) (xp : String → ctN → ctF → Prop) (x1 : Int32) (x2 : Int32) (x3 : Int32) (x4 : Int32) (x5 : Int32) (x6 : Int32) (n : ctN) (f : ctF) : Prop := (wp_C_checkRuleCost (fun (n_14 : ctN) (f_15 : ctF) => (wp_C_checkRoomForRule (fun (n_17 : ctN) (f_18 : ctF) => ∀ n_19 : ctN, n_19 = va_up n_17 2 0 → ((x6 < 1 → ((x6 < 2 → (wp_G_addRule (fun (r22 : Int32) (n_23 : ctN) (f_24 : ctF) => post r22 n_23 f_24) x1 x2 0 0 x5 n_19 f_18)) ∧ (¬ x6 < 2 → (wp_G_addRule (fun (r25 : Int32) (n_26 : ctN) (f_27 : ctF) => post r25 n_26 f_27) x1 x2 0 x4 x5 n_19 f_18)))) ∧ (¬ x6 < 1 → ((x6 < 2 → (wp_G_addRule (fun (r29 : Int32) (n_30 : ctN) (f_31 : ctF) => post r29 n_30 f_31) x1 x2 x3 0 x5 n_19 f_18)) ∧ (¬ x6 < 2 → (wp_G_addRule (fun (r32 : Int32) (n_33 : ctN) (f_34 : ctF) => post r32 n_33 f_34) x1 x2 x3 x4 x5 n_19 f_18)))))) xF n_14 f_15) ∨ (wp_C_checkRoomForRule pFv xp n_14 f_15)) xF x5 n f) ∨ (wp_C_checkRuleCost pFv xp x5 n f)
def wp_C_base_J52 (post : Int32 → ctN → ctF → Prop) (xp : String → ctN → ctF → Prop) (x1 : Int32) (x2 : Int32) (x3 : Int32) (x4 : Int32) (x5 : Int32) (x6 : Int32) (n : ctN) (f : ctF) : Prop := (x6 < 2 → (wp_C_base_J76 post xp x1 x2 x3 x4 x5 x6 n f)) ∧ (¬ x6 < 2 → (wp_C_isGoal (fun (r35 : Int32) (n_36 : ctN) (f_37 : ctF) => (¬ r35 = 0 → (wp_C_base_J76 post xp x1 x2 x3 x4 x5 x6 n_36 f_37)) ∧ (r35 = 0 → (xp "java/lang/IllegalArgumentException" n_36 f_37))) x4 n f))
def wp_C_base (post : Int32 → ctN → ctF → Prop) (xp : String → ctN → ctF → Prop) (p1 : Int32) (p2 : Int32) (p3 : Int32) (p4 : Int32) (p5 : Int32) (n : ctN) (f : ctF) : Prop := wp_C_isGoal (fun (r1 : Int32) (n_2 : ctN) (f_3 : ctF) => (r1 = 0 → (xp "java/lang/IllegalArgumentException" n_2 f_3)) ∧ (¬ r1 = 0 → (wp_G_hasOperator (fun (r5 : Int32) (n_6 : ctN) (f_7 : ctF) => (¬ r5 = 0 → (vp_in p2 10 ∧ (∀ x6_10 : Int32, x6_10 = (f_7 3 p2.toNatClampNeg) → ((x6_10 < 1 → (wp_C_base_J52 post xp p1 p2 p3 p4 p5 x6_10 n_6 f_7)) ∧ (¬ x6_10 < 1 → (wp_C_isGoal (fun (r39 : Int32) (n_40 : ctN) (f_41 : ctF) => (r39 = 0 → (xp "java/lang/IllegalArgumentException" n_40 f_41)) ∧ (¬ r39 = 0 → (wp_C_base_J52 post xp p1 p2 p3 p4 p5 x6_10 n_40 f_41))) p3 n_6 f_7)))))) ∧ (r5 = 0 → (xp "java/lang/IllegalArgumentException" n_6 f_7))) p2 n_2 f_3))) p1 n f
set_option maxHeartbeats 4000000 in
set_option maxRecDepth 100000 in
theorem met0_C_base (l : Launch) (dC : Nat → ClassId) (dI : Nat → Nat → Nat) (a : Nat → Nat) (cA : Nat → ClassId) (sa : Nat → Nat) (p1 : Int32) (p2 : Int32) (p3 : Int32) (p4 : Int32) (p5 : Int32) (n : ctN) (f : ctF) (sz : Nat) {post : Int32 → ctN → ctF → Prop} (hw : wp_C_base post xF p1 p2 p3 p4 p5 n f) : Met l yC_base wsC_base ({ frames := 7, cells := 0, slots := 0, locals := 110 } : Room) (ct_Pc dC dI a cA sa [.ref (a 0), .int p1, .int p2, .int p3, .int p4, .int p5] n f sz) (va_Qi (fun (r : Int32) (u : ctN × ctF) => post r u.1 u.2) (ct_B dC dI a cA) (va_A (ctW a cA n f) sz)) 0 0 (va_A (ctW a cA n f) sz) := by
  refine Met.ofW (cc := cC_base) (maxL := 7) (ret := (some .int)) (by decide) rfl ?_
  intro p e s m args below meth c s₁ B hml hv
  obtain ⟨rfl, hsz, hP, hK, hD0, hZ⟩ := hv
  have hx := B.exec
  have hb := B.bytes
  have hr := B.returns
  have hts := atoms_spec (ws := wsC_base) B.pre
  have hown : s.vm.findClass RC = some m.cls := findClass_of_methodNamed B.named
  have hlocks := B.notSynchronized
  subst hsz
  have hD := hD0.self (sz := s.heap.size)
  generalize hAe : va_A (ctW a cA n f) s.heap.size = A at hD hZ ⊢
  have hDa : ∀ (n : ctN) (f : ctF), va_D A (ctW a cA n f) := fun _ _ => ct_D hD
  have hA : ∀ q : Nat, s.heap.size ≤ q → A q := fun q h => by rw [← hAe]; exact Or.inr h
  have hS : va_S A s.heap s.heap [] := va_S.rf
  have hl := lv_entry ([.ref (a 0), .int p1, .int p2, .int p3, .int p4, .int p5]) (n := 7) (Nat.le_of_ble_eq_true rfl)
  rw [lg_entry_eq]
  generalize (lg_sl ([.ref (a 0), .int p1, .int p2, .int p3, .int p4, .int p5]) ++ List.replicate (7 - (lg_sl ([.ref (a 0), .int p1, .int p2, .int p3, .int p4, .int p5])).length) Slot.unset).toArray = ls at hl ⊢
  have hl : lv_has ls 7 [(0, .ref (a 0)), (1, .int p1), (2, .int p2), (3, .int p3), (4, .int p4), (5, .int p5)] := hl
  unfold wp_C_base at hw
  have join_76 : ∀ (x1 x2 x3 x4 x5 x6 : Int32) (n : ctN) (f : ctF) (H : Heap) (locs : List Loc) (ls : Array Slot), wp_C_base_J76 post xF x1 x2 x3 x4 x5 x6 n f → va_P (dC, dI) vcl (ctW a cA n f) H → va_S A s.heap H locs → lv_has ls 7 [(0, .ref (a 0)), (1, .int x1), (2, .int x2), (3, .int x3), (4, .int x4), (5, .int x5), (6, .int x6)] → W p l e (headSpec wsC_base ({ frames := 7, cells := 0, slots := 0, locals := 110 } : Room)).room s m (([.ref (a 0), .int p1, .int p2, .int p3, .int p4, .int p5] : List Value).toArray) below meth c H locs 0 0 (MQ below (va_Qi (fun (r : Int32) (u : ctN × ctF) => post r u.1 u.2) (ct_B dC dI a cA) A) (([.ref (a 0), .int p1, .int p2, .int p3, .int p4, .int p5] : List Value).toArray) s 0 0 A) (F0 m 76 ls []) := by
    intro x1 x2 x3 x4 x5 x6 n f H locs ls hw hP hS hl
    unfold wp_C_base_J76 at hw
    refine lv_iload hx hb dC_base_76 (lv_at hl 5 rfl) ?_
    rcases hw with hw | hw
    rotate_left
    · exact ct_v (va_runS (As := [.int x5]) (rest := []) ⟨hx, hb, hml, hown, hts⟩ (met0_C_checkRuleCost l dC dI a cA sa x5 n f _ hw) (cwS 1 hts (wb_S wt_270 wt_271 wt_27 wt_272) rfl rfl rfl (by decide +kernel) ⟨Nat.le_of_ble_eq_true rfl, Nat.le_of_ble_eq_true rfl⟩) (ct_pre hK hP (hDa _ _) hZ hS hA) rfl rfl hl.1 rfl (lv_room (Nat.le_of_ble_eq_true rfl)) dC_base_78 ⟨Nat.le_of_ble_eq_true rfl, Nat.le_of_ble_eq_true rfl⟩) (hDa _ _) hS hA (fun _ _ _ _ hw _ _ => False.elim hw)
    refine ct_v (va_runS (As := [.int x5]) (rest := []) ⟨hx, hb, hml, hown, hts⟩ (met0_C_checkRuleCost l dC dI a cA sa x5 n f _ hw) (cwS 1 hts (wb_S wt_270 wt_271 wt_27 wt_272) rfl rfl rfl (by decide +kernel) ⟨Nat.le_of_ble_eq_true rfl, Nat.le_of_ble_eq_true rfl⟩) (ct_pre hK hP (hDa _ _) hZ hS hA) rfl rfl hl.1 rfl (lv_room (Nat.le_of_ble_eq_true rfl)) dC_base_78 ⟨Nat.le_of_ble_eq_true rfl, Nat.le_of_ble_eq_true rfl⟩) (hDa _ _) hS hA (fun n_14 f_15 H locs hw hP hS => ?_)
    refine lv_aload_n hx hb dC_base_81 rfl (lv_at hl 0 rfl) ?_
    rcases hw with hw | hw
    rotate_left
    · exact ct_v (va_runV (As := []) (rest := []) ⟨hx, hb, hml, hown, hts⟩ (met0_C_checkRoomForRule l dC dI a cA sa n_14 f_15 _ hw) (cwV 0 hts (wb_V wt_274 wt_276 wt_1 wt_27 wt_277) rfl rfl rfl (by decide +kernel) ⟨Nat.le_of_ble_eq_true rfl, Nat.le_of_ble_eq_true rfl⟩) (ct_preV hK hP (hDa _ _) hZ hS hA (va_recv hK hP (ci := 0) (q0 := 0) rfl rfl)) rfl rfl hl.1 rfl (lv_room (Nat.le_of_ble_eq_true rfl)) dC_base_82 ⟨Nat.le_of_ble_eq_true rfl, Nat.le_of_ble_eq_true rfl⟩) (hDa _ _) hS hA (fun _ _ _ _ hw _ _ => False.elim hw)
    refine ct_v (va_runV (As := []) (rest := []) ⟨hx, hb, hml, hown, hts⟩ (met0_C_checkRoomForRule l dC dI a cA sa n_14 f_15 _ hw) (cwV 0 hts (wb_V wt_274 wt_276 wt_1 wt_27 wt_277) rfl rfl rfl (by decide +kernel) ⟨Nat.le_of_ble_eq_true rfl, Nat.le_of_ble_eq_true rfl⟩) (ct_preV hK hP (hDa _ _) hZ hS hA (va_recv hK hP (ci := 0) (q0 := 0) rfl rfl)) rfl rfl hl.1 rfl (lv_room (Nat.le_of_ble_eq_true rfl)) dC_base_82 ⟨Nat.le_of_ble_eq_true rfl, Nat.le_of_ble_eq_true rfl⟩) (hDa _ _) hS hA (fun n_17 f_18 H locs hw hP hS => ?_)
    refine lv_aload_n hx hb dC_base_85 rfl (lv_at hl 0 rfl) ?_
    refine va_get (D := (dC, dI)) (ci := 0) (v := .ref (a 2)) (C := RC) (T := TC) (N := 2) hx hb hts (fun w h => List.mem_cons_of_mem _ (inC w h)) hown hK hP 0 rfl rfl 1 (by decide) (hts (.fieldLink RC 21 "CoverTrees" "forest" "LCoverTrees$Forest;") (List.mem_cons_of_mem _ wt_135)) (fun _ h9 => h9) rfl dC_base_86 ?_
    refine lv_iconst (v := 0) hx hb dC_base_89 (by decide) ?_
    refine va_put (D := (dC, dI)) (ci := 2) (v := .int 0) (ty := .int) (C := RF) (T := TF) (N := 11) hx hb hts (fun w h => List.mem_cons_of_mem _ (inF w h)) tyF tyF_ok nmF hown hK hP (hDa _ _) hS 2 rfl rfl 1 (by decide) (hts (.fieldLink RC 25 "CoverTrees$Forest" "count" "I") (List.mem_cons_of_mem _ wt_95)) (fun _ h9 => h9) rfl (by decide +kernel) rfl rfl (Nat.le_of_ble_eq_true rfl) dC_base_90 (fun H locs hP _ hS => ?_)
    obtain ⟨n_19, en_19⟩ : ∃ z : ctN, z = va_up n_17 2 0 := ⟨_, rfl⟩
    have hw := hw n_19 en_19
    have hP : va_P (dC, dI) vcl (ctW a cA n_19 f_18) H := by rw [en_19]; exact hP
    refine lv_aload_n hx hb dC_base_93 rfl (lv_at hl 0 rfl) ?_
    refine va_get (D := (dC, dI)) (ci := 0) (v := .ref (a 1)) (C := RC) (T := TC) (N := 2) hx hb hts (fun w h => List.mem_cons_of_mem _ (inC w h)) hown hK hP 0 rfl rfl 0 (by decide) (hts (.fieldLink RC 12 "CoverTrees" "grammar" "LCoverTrees$Grammar;") (List.mem_cons_of_mem _ wt_134)) (fun _ h9 => h9) rfl dC_base_94 ?_
    refine lv_iload_n hx hb dC_base_97 rfl (lv_at hl 1 rfl) ?_
    refine lv_iload_n hx hb dC_base_98 rfl (lv_at hl 2 rfl) ?_
    refine lv_iload hx hb dC_base_99 (lv_at hl 6 rfl) ?_
    refine lv_iconst (v := 1) hx hb dC_base_101 (by decide) ?_
    refine lv_icmp_lt (tgt := 109) hx hb dC_base_102 (by decide) (fun c20 => ?_) (fun c20 => ?_)
    · have hw := hw.1 c20
      refine lv_iconst (v := 0) hx hb dC_base_109 (by decide) ?_
      refine lv_iload hx hb dC_base_110 (lv_at hl 6 rfl) ?_
      refine lv_iconst (v := 2) hx hb dC_base_112 (by decide) ?_
      refine lv_icmp_lt (tgt := 121) hx hb dC_base_113 (by decide) (fun c21 => ?_) (fun c21 => ?_)
      · have hw := hw.1 c21
        refine lv_iconst (v := 0) hx hb dC_base_121 (by decide) ?_
        refine lv_iload hx hb dC_base_122 (lv_at hl 5 rfl) ?_
        refine ct_i (va_runV (As := [.int x1, .int x2, .int 0, .int 0, .int x5]) (rest := []) ⟨hx, hb, hml, hown, hts⟩ (met_G_addRule l dC dI a cA sa x1 x2 0 0 x5 n_19 f_18 _ hw) (cwV 5 hts (wb_V wt_279 wt_280 wt_281 wt_28 wt_282) rfl rfl rfl (by decide +kernel) ⟨Nat.le_of_ble_eq_true rfl, Nat.le_of_ble_eq_true rfl⟩) (ct_preV hK hP (hDa _ _) hZ hS hA (va_recv hK hP (ci := 1) (q0 := 1) rfl rfl)) rfl rfl hl.1 rfl (lv_room (Nat.le_of_ble_eq_true rfl)) dC_base_124 ⟨Nat.le_of_ble_eq_true rfl, Nat.le_of_ble_eq_true rfl⟩) (hDa _ _) hS hA (fun r22 n_23 f_24 H locs hw hP hS => ?_)
        exact W.iret (v := r22) hx hb hr (fun t ht hW => ⟨⟨r22, (n_23, f_24), rfl, hw, ct_mkB ht hP⟩, hS.F ht⟩) hS.2.2 dC_base_127
      · have hw := hw.2 c21
        refine lv_iload hx hb dC_base_116 (lv_at hl 4 rfl) ?_
        refine lv_goto (tgt := 122) hx hb dC_base_118 (by decide) ?_
        refine lv_iload hx hb dC_base_122 (lv_at hl 5 rfl) ?_
        refine ct_i (va_runV (As := [.int x1, .int x2, .int 0, .int x4, .int x5]) (rest := []) ⟨hx, hb, hml, hown, hts⟩ (met_G_addRule l dC dI a cA sa x1 x2 0 x4 x5 n_19 f_18 _ hw) (cwV 5 hts (wb_V wt_279 wt_280 wt_281 wt_28 wt_282) rfl rfl rfl (by decide +kernel) ⟨Nat.le_of_ble_eq_true rfl, Nat.le_of_ble_eq_true rfl⟩) (ct_preV hK hP (hDa _ _) hZ hS hA (va_recv hK hP (ci := 1) (q0 := 1) rfl rfl)) rfl rfl hl.1 rfl (lv_room (Nat.le_of_ble_eq_true rfl)) dC_base_124 ⟨Nat.le_of_ble_eq_true rfl, Nat.le_of_ble_eq_true rfl⟩) (hDa _ _) hS hA (fun r25 n_26 f_27 H locs hw hP hS => ?_)
        exact W.iret (v := r25) hx hb hr (fun t ht hW => ⟨⟨r25, (n_26, f_27), rfl, hw, ct_mkB ht hP⟩, hS.F ht⟩) hS.2.2 dC_base_127
    · have hw := hw.2 c20
      refine lv_iload_n hx hb dC_base_105 rfl (lv_at hl 3 rfl) ?_
      refine lv_goto (tgt := 110) hx hb dC_base_106 (by decide) ?_
      refine lv_iload hx hb dC_base_110 (lv_at hl 6 rfl) ?_
      refine lv_iconst (v := 2) hx hb dC_base_112 (by decide) ?_
      refine lv_icmp_lt (tgt := 121) hx hb dC_base_113 (by decide) (fun c28 => ?_) (fun c28 => ?_)
      · have hw := hw.1 c28
        refine lv_iconst (v := 0) hx hb dC_base_121 (by decide) ?_
        refine lv_iload hx hb dC_base_122 (lv_at hl 5 rfl) ?_
        refine ct_i (va_runV (As := [.int x1, .int x2, .int x3, .int 0, .int x5]) (rest := []) ⟨hx, hb, hml, hown, hts⟩ (met_G_addRule l dC dI a cA sa x1 x2 x3 0 x5 n_19 f_18 _ hw) (cwV 5 hts (wb_V wt_279 wt_280 wt_281 wt_28 wt_282) rfl rfl rfl (by decide +kernel) ⟨Nat.le_of_ble_eq_true rfl, Nat.le_of_ble_eq_true rfl⟩) (ct_preV hK hP (hDa _ _) hZ hS hA (va_recv hK hP (ci := 1) (q0 := 1) rfl rfl)) rfl rfl hl.1 rfl (lv_room (Nat.le_of_ble_eq_true rfl)) dC_base_124 ⟨Nat.le_of_ble_eq_true rfl, Nat.le_of_ble_eq_true rfl⟩) (hDa _ _) hS hA (fun r29 n_30 f_31 H locs hw hP hS => ?_)
        exact W.iret (v := r29) hx hb hr (fun t ht hW => ⟨⟨r29, (n_30, f_31), rfl, hw, ct_mkB ht hP⟩, hS.F ht⟩) hS.2.2 dC_base_127
      · have hw := hw.2 c28
        refine lv_iload hx hb dC_base_116 (lv_at hl 4 rfl) ?_
        refine lv_goto (tgt := 122) hx hb dC_base_118 (by decide) ?_
        refine lv_iload hx hb dC_base_122 (lv_at hl 5 rfl) ?_
        refine ct_i (va_runV (As := [.int x1, .int x2, .int x3, .int x4, .int x5]) (rest := []) ⟨hx, hb, hml, hown, hts⟩ (met_G_addRule l dC dI a cA sa x1 x2 x3 x4 x5 n_19 f_18 _ hw) (cwV 5 hts (wb_V wt_279 wt_280 wt_281 wt_28 wt_282) rfl rfl rfl (by decide +kernel) ⟨Nat.le_of_ble_eq_true rfl, Nat.le_of_ble_eq_true rfl⟩) (ct_preV hK hP (hDa _ _) hZ hS hA (va_recv hK hP (ci := 1) (q0 := 1) rfl rfl)) rfl rfl hl.1 rfl (lv_room (Nat.le_of_ble_eq_true rfl)) dC_base_124 ⟨Nat.le_of_ble_eq_true rfl, Nat.le_of_ble_eq_true rfl⟩) (hDa _ _) hS hA (fun r32 n_33 f_34 H locs hw hP hS => ?_)
        exact W.iret (v := r32) hx hb hr (fun t ht hW => ⟨⟨r32, (n_33, f_34), rfl, hw, ct_mkB ht hP⟩, hS.F ht⟩) hS.2.2 dC_base_127
  have join_52 : ∀ (x1 x2 x3 x4 x5 x6 : Int32) (n : ctN) (f : ctF) (H : Heap) (locs : List Loc) (ls : Array Slot), wp_C_base_J52 post xF x1 x2 x3 x4 x5 x6 n f → va_P (dC, dI) vcl (ctW a cA n f) H → va_S A s.heap H locs → lv_has ls 7 [(0, .ref (a 0)), (1, .int x1), (2, .int x2), (3, .int x3), (4, .int x4), (5, .int x5), (6, .int x6)] → W p l e (headSpec wsC_base ({ frames := 7, cells := 0, slots := 0, locals := 110 } : Room)).room s m (([.ref (a 0), .int p1, .int p2, .int p3, .int p4, .int p5] : List Value).toArray) below meth c H locs 0 0 (MQ below (va_Qi (fun (r : Int32) (u : ctN × ctF) => post r u.1 u.2) (ct_B dC dI a cA) A) (([.ref (a 0), .int p1, .int p2, .int p3, .int p4, .int p5] : List Value).toArray) s 0 0 A) (F0 m 52 ls []) := by
    intro x1 x2 x3 x4 x5 x6 n f H locs ls hw hP hS hl
    unfold wp_C_base_J52 at hw
    refine lv_iload hx hb dC_base_52 (lv_at hl 6 rfl) ?_
    refine lv_iconst (v := 2) hx hb dC_base_54 (by decide) ?_
    refine lv_icmp_lt (tgt := 76) hx hb dC_base_55 (by decide) (fun c12 => ?_) (fun c12 => ?_)
    · have hw := hw.1 c12
      exact join_76 x1 x2 x3 x4 x5 x6 n f _ _ ls hw hP hS (lv_sub hl [0, 1, 2, 3, 4, 5, 6] rfl)
    · have hw := hw.2 c12
      refine lv_iload hx hb dC_base_58 (lv_at hl 4 rfl) ?_
      refine ct_i (va_runS (As := [.int x4]) (rest := []) ⟨hx, hb, hml, hown, hts⟩ (met_C_isGoal l dC dI a cA sa x4 n f _ hw) (cwS 1 hts (wb_S wt_261 wt_262 wt_27 wt_263) rfl rfl rfl (by decide +kernel) ⟨Nat.le_of_ble_eq_true rfl, Nat.le_of_ble_eq_true rfl⟩) (ct_pre hK hP (hDa _ _) hZ hS hA) rfl rfl hl.1 rfl (lv_room (Nat.le_of_ble_eq_true rfl)) dC_base_60 ⟨Nat.le_of_ble_eq_true rfl, Nat.le_of_ble_eq_true rfl⟩) (hDa _ _) hS hA (fun r35 n_36 f_37 H locs hw hP hS => ?_)
      refine lv_if_ne (tgt := 76) hx hb dC_base_63 (by decide) (fun c38 => ?_) (fun c38 => ?_)
      · have hw := hw.1 c38
        exact join_76 x1 x2 x3 x4 x5 x6 n_36 f_37 _ _ ls hw hP hS (lv_sub hl [0, 1, 2, 3, 4, 5, 6] rfl)
      · have hw := hw.2 c38
        exact False.elim hw
  refine lv_iload_n hx hb dC_base_0 rfl (lv_at hl 1 rfl) ?_
  refine ct_i (va_runS (As := [.int p1]) (rest := []) ⟨hx, hb, hml, hown, hts⟩ (met_C_isGoal l dC dI a cA sa p1 n f _ hw) (cwS 1 hts (wb_S wt_261 wt_262 wt_27 wt_263) rfl rfl rfl (by decide +kernel) ⟨Nat.le_of_ble_eq_true rfl, Nat.le_of_ble_eq_true rfl⟩) (ct_pre hK hP (hDa _ _) hZ hS hA) rfl rfl hl.1 rfl (lv_room (Nat.le_of_ble_eq_true rfl)) dC_base_1 ⟨Nat.le_of_ble_eq_true rfl, Nat.le_of_ble_eq_true rfl⟩) (hDa _ _) hS hA (fun r1 n_2 f_3 H locs hw hP hS => ?_)
  refine lv_if_eq (tgt := 18) hx hb dC_base_4 (by decide) (fun c4 => ?_) (fun c4 => ?_)
  · have hw := hw.1 c4
    exact False.elim hw
  · have hw := hw.2 c4
    refine lv_aload_n hx hb dC_base_7 rfl (lv_at hl 0 rfl) ?_
    refine va_get (D := (dC, dI)) (ci := 0) (v := .ref (a 1)) (C := RC) (T := TC) (N := 2) hx hb hts (fun w h => List.mem_cons_of_mem _ (inC w h)) hown hK hP 0 rfl rfl 0 (by decide) (hts (.fieldLink RC 12 "CoverTrees" "grammar" "LCoverTrees$Grammar;") (List.mem_cons_of_mem _ wt_134)) (fun _ h9 => h9) rfl dC_base_8 ?_
    refine lv_iload_n hx hb dC_base_11 rfl (lv_at hl 2 rfl) ?_
    refine ct_i (va_runV (As := [.int p2]) (rest := []) ⟨hx, hb, hml, hown, hts⟩ (met_G_hasOperator l dC dI a cA sa p2 n_2 f_3 _ hw) (cwV 1 hts (wb_V wt_264 wt_265 wt_266 wt_28 wt_267) rfl rfl rfl (by decide +kernel) ⟨Nat.le_of_ble_eq_true rfl, Nat.le_of_ble_eq_true rfl⟩) (ct_preV hK hP (hDa _ _) hZ hS hA (va_recv hK hP (ci := 1) (q0 := 1) rfl rfl)) rfl rfl hl.1 rfl (lv_room (Nat.le_of_ble_eq_true rfl)) dC_base_12 ⟨Nat.le_of_ble_eq_true rfl, Nat.le_of_ble_eq_true rfl⟩) (hDa _ _) hS hA (fun r5 n_6 f_7 H locs hw hP hS => ?_)
    refine lv_if_ne (tgt := 28) hx hb dC_base_15 (by decide) (fun c8 => ?_) (fun c8 => ?_)
    · have hw := hw.1 c8
      refine lv_aload_n hx hb dC_base_28 rfl (lv_at hl 0 rfl) ?_
      refine va_get (D := (dC, dI)) (ci := 0) (v := .ref (a 1)) (C := RC) (T := TC) (N := 2) hx hb hts (fun w h => List.mem_cons_of_mem _ (inC w h)) hown hK hP 0 rfl rfl 0 (by decide) (hts (.fieldLink RC 12 "CoverTrees" "grammar" "LCoverTrees$Grammar;") (List.mem_cons_of_mem _ wt_134)) (fun _ h9 => h9) rfl dC_base_29 ?_
      refine va_get (D := (dC, dI)) (ci := 1) (v := .ref (a 3)) (C := RG) (T := TG) (N := 8) hx hb hts (fun w h => List.mem_cons_of_mem _ (inG w h)) hown hK hP 1 rfl rfl 1 (by decide) (hts (.fieldLink RC 60 "CoverTrees$Grammar" "parts" "[I") (List.mem_cons_of_mem _ wt_55)) (fun _ h9 => h9) rfl dC_base_32 ?_
      refine lv_iload_n hx hb dC_base_35 rfl (lv_at hl 2 rfl) ?_
      obtain ⟨hi9, hw⟩ := hw
      refine va_iald hx hb hK hP 3 0 rfl rfl hi9 dC_base_36 ?_
      refine lv_topi (fun x6_10 ex6_10 => ?_)
      have hw := hw x6_10 ex6_10
      refine lv_istore (lv' := [(6, .int x6_10), (0, .ref (a 0)), (1, .int p1), (2, .int p2), (3, .int p3), (4, .int p4), (5, .int p5)]) hx hb dC_base_37 hl (by decide) rfl (fun ls hl => ?_)
      refine lv_iload hx hb dC_base_39 (lv_at hl 0 rfl) ?_
      refine lv_iconst (v := 1) hx hb dC_base_41 (by decide) ?_
      refine lv_icmp_lt (tgt := 52) hx hb dC_base_42 (by decide) (fun c11 => ?_) (fun c11 => ?_)
      · have hw := hw.1 c11
        exact join_52 p1 p2 p3 p4 p5 x6_10 n_6 f_7 _ _ ls hw hP hS (lv_sub hl [1, 2, 3, 4, 5, 6, 0] rfl)
      · have hw := hw.2 c11
        refine lv_iload_n hx hb dC_base_45 rfl (lv_at hl 4 rfl) ?_
        refine ct_i (va_runS (As := [.int p3]) (rest := []) ⟨hx, hb, hml, hown, hts⟩ (met_C_isGoal l dC dI a cA sa p3 n_6 f_7 _ hw) (cwS 1 hts (wb_S wt_261 wt_262 wt_27 wt_263) rfl rfl rfl (by decide +kernel) ⟨Nat.le_of_ble_eq_true rfl, Nat.le_of_ble_eq_true rfl⟩) (ct_pre hK hP (hDa _ _) hZ hS hA) rfl rfl hl.1 rfl (lv_room (Nat.le_of_ble_eq_true rfl)) dC_base_46 ⟨Nat.le_of_ble_eq_true rfl, Nat.le_of_ble_eq_true rfl⟩) (hDa _ _) hS hA (fun r39 n_40 f_41 H locs hw hP hS => ?_)
        refine lv_if_eq (tgt := 66) hx hb dC_base_49 (by decide) (fun c42 => ?_) (fun c42 => ?_)
        · have hw := hw.1 c42
          exact False.elim hw
        · have hw := hw.2 c42
          exact join_52 p1 p2 p3 p4 p5 x6_10 n_40 f_41 _ _ ls hw hP hS (lv_sub hl [1, 2, 3, 4, 5, 6, 0] rfl)
    · have hw := hw.2 c8
      exact False.elim hw
set_option maxHeartbeats 4000000 in
set_option maxRecDepth 100000 in
theorem metx_C_base (l : Launch) (hl9 : l.stackTraces = false) (dC : Nat → ClassId) (dI : Nat → Nat → Nat) (a : Nat → Nat) (cA : Nat → ClassId) (sa : Nat → Nat) (p1 : Int32) (p2 : Int32) (p3 : Int32) (p4 : Int32) (p5 : Int32) (n : ctN) (f : ctF) (sz : Nat) {xp : String → ctN → ctF → Prop} (hw : wp_C_base pFi xp p1 p2 p3 p4 p5 n f) : vx_Met l yC_base wsC_base ({ frames := 7, cells := 1, slots := 6, locals := 110 } : Room) (ct_Pc dC dI a cA sa [.ref (a 0), .int p1, .int p2, .int p3, .int p4, .int p5] n f sz) (va_Qi (fun (r : Int32) (u : ctN × ctF) => pFi r u.1 u.2) (ct_B dC dI a cA) (va_A (ctW a cA n f) sz)) (vx_X (fun (_ : ctN × ctF) => True) (fun E u t => xp E u.1 u.2 ∧ ct_B dC dI a cA u t) (va_A (ctW a cA n f) sz)) 1 6 (va_A (ctW a cA n f) sz) := by
  refine vx_ofW (cc := cC_base) (maxL := 7) (ret := (some .int)) (by decide) rfl ?_
  intro p e s m args below meth c s₁ B hml htb hv
  obtain ⟨rfl, hsz, hP, hK, hD0, hZ⟩ := hv
  have hx := B.exec
  have hb := B.bytes
  have hr := B.returns
  have hts := atoms_spec (ws := wsC_base) B.pre
  have hown : s.vm.findClass RC = some m.cls := findClass_of_methodNamed B.named
  have hlocks := B.notSynchronized
  subst hsz
  have hD := hD0.self (sz := s.heap.size)
  generalize hAe : va_A (ctW a cA n f) s.heap.size = A at hD hZ ⊢
  have hDa : ∀ (n : ctN) (f : ctF), va_D A (ctW a cA n f) := fun _ _ => ct_D hD
  have hA : ∀ q : Nat, s.heap.size ≤ q → A q := fun q h => by rw [← hAe]; exact Or.inr h
  have hS : va_S A s.heap s.heap [] := va_S.rf
  have hl := lv_entry ([.ref (a 0), .int p1, .int p2, .int p3, .int p4, .int p5]) (n := 7) (Nat.le_of_ble_eq_true rfl)
  rw [lg_entry_eq]
  generalize (lg_sl ([.ref (a 0), .int p1, .int p2, .int p3, .int p4, .int p5]) ++ List.replicate (7 - (lg_sl ([.ref (a 0), .int p1, .int p2, .int p3, .int p4, .int p5])).length) Slot.unset).toArray = ls at hl ⊢
  have hl : lv_has ls 7 [(0, .ref (a 0)), (1, .int p1), (2, .int p2), (3, .int p3), (4, .int p4), (5, .int p5)] := hl
  unfold wp_C_base at hw
  have join_76 : ∀ (x1 x2 x3 x4 x5 x6 : Int32) (n : ctN) (f : ctF) (H : Heap) (locs : List Loc) (ls : Array Slot), wp_C_base_J76 pFi xp x1 x2 x3 x4 x5 x6 n f → va_P (dC, dI) vcl (ctW a cA n f) H → va_S A s.heap H locs → lv_has ls 7 [(0, .ref (a 0)), (1, .int x1), (2, .int x2), (3, .int x3), (4, .int x4), (5, .int x5), (6, .int x6)] → W p l e (headSpec wsC_base ({ frames := 7, cells := 1, slots := 6, locals := 110 } : Room)).room s m (([.ref (a 0), .int p1, .int p2, .int p3, .int p4, .int p5] : List Value).toArray) below meth c H locs 0 0 (vx_MQ below (va_Qi (fun (r : Int32) (u : ctN × ctF) => pFi r u.1 u.2) (ct_B dC dI a cA) A) (vx_X (fun (_ : ctN × ctF) => True) (fun E u t => xp E u.1 u.2 ∧ ct_B dC dI a cA u t) A) (([.ref (a 0), .int p1, .int p2, .int p3, .int p4, .int p5] : List Value).toArray) s 1 6 A) (F0 m 76 ls []) := by
    intro x1 x2 x3 x4 x5 x6 n f H locs ls hw hP hS hl
    unfold wp_C_base_J76 at hw
    refine lv_iload hx hb dC_base_76 (lv_at hl 5 rfl) ?_
    rcases hw with hw | hw
    rotate_left
    · exact ct_xv (vx_runS (As := [.int x5]) (rest := []) ⟨hx, hb, hml, hown, hts⟩ (metx_C_checkRuleCost l hl9 dC dI a cA sa x5 n f _ hw) (cwS 1 hts (wb_S wt_270 wt_271 wt_27 wt_272) rfl rfl rfl (by decide +kernel) ⟨Nat.le_of_ble_eq_true rfl, Nat.le_of_ble_eq_true rfl⟩) (ct_pre hK hP (hDa _ _) hZ hS hA) rfl rfl hl.1 rfl (lv_room (Nat.le_of_ble_eq_true rfl)) dC_base_78 ⟨Nat.le_of_ble_eq_true rfl, Nat.le_of_ble_eq_true rfl⟩) (hDa _ _) hS hA (fun E ce q9 n' f' H locs hw hP hS h1 h2 h3 => by exact vx_out (fun x h => (htb x h).elim) hlocks h1 h2 h3 (fun t ht hvm => ⟨(n', f'), trivial, ⟨hw, ct_mkB ht hP⟩, hS.F ht⟩) hS.2.2 (Nat.le_of_ble_eq_true rfl) (Nat.le_of_ble_eq_true rfl)) (fun _ _ _ _ hw _ _ => False.elim hw)
    refine ct_v (va_runS (As := [.int x5]) (rest := []) ⟨hx, hb, hml, hown, hts⟩ (met0_C_checkRuleCost l dC dI a cA sa x5 n f _ hw) (cwS 1 hts (wb_S wt_270 wt_271 wt_27 wt_272) rfl rfl rfl (by decide +kernel) ⟨Nat.le_of_ble_eq_true rfl, Nat.le_of_ble_eq_true rfl⟩) (ct_pre hK hP (hDa _ _) hZ hS hA) rfl rfl hl.1 rfl (lv_room (Nat.le_of_ble_eq_true rfl)) dC_base_78 ⟨Nat.le_of_ble_eq_true rfl, Nat.le_of_ble_eq_true rfl⟩) (hDa _ _) hS hA (fun n_14 f_15 H locs hw hP hS => ?_)
    refine lv_aload_n hx hb dC_base_81 rfl (lv_at hl 0 rfl) ?_
    rcases hw with hw | hw
    rotate_left
    · exact ct_xv (vx_runV (As := []) (rest := []) ⟨hx, hb, hml, hown, hts⟩ (metx_C_checkRoomForRule l hl9 dC dI a cA sa n_14 f_15 _ hw) (cwV 0 hts (wb_V wt_274 wt_276 wt_1 wt_27 wt_277) rfl rfl rfl (by decide +kernel) ⟨Nat.le_of_ble_eq_true rfl, Nat.le_of_ble_eq_true rfl⟩) (ct_preV hK hP (hDa _ _) hZ hS hA (va_recv hK hP (ci := 0) (q0 := 0) rfl rfl)) rfl rfl hl.1 rfl (lv_room (Nat.le_of_ble_eq_true rfl)) dC_base_82 ⟨Nat.le_of_ble_eq_true rfl, Nat.le_of_ble_eq_true rfl⟩) (hDa _ _) hS hA (fun E ce q9 n' f' H locs hw hP hS h1 h2 h3 => by exact vx_out (fun x h => (htb x h).elim) hlocks h1 h2 h3 (fun t ht hvm => ⟨(n', f'), trivial, ⟨hw, ct_mkB ht hP⟩, hS.F ht⟩) hS.2.2 (Nat.le_of_ble_eq_true rfl) (Nat.le_of_ble_eq_true rfl)) (fun _ _ _ _ hw _ _ => False.elim hw)
    refine ct_v (va_runV (As := []) (rest := []) ⟨hx, hb, hml, hown, hts⟩ (met0_C_checkRoomForRule l dC dI a cA sa n_14 f_15 _ hw) (cwV 0 hts (wb_V wt_274 wt_276 wt_1 wt_27 wt_277) rfl rfl rfl (by decide +kernel) ⟨Nat.le_of_ble_eq_true rfl, Nat.le_of_ble_eq_true rfl⟩) (ct_preV hK hP (hDa _ _) hZ hS hA (va_recv hK hP (ci := 0) (q0 := 0) rfl rfl)) rfl rfl hl.1 rfl (lv_room (Nat.le_of_ble_eq_true rfl)) dC_base_82 ⟨Nat.le_of_ble_eq_true rfl, Nat.le_of_ble_eq_true rfl⟩) (hDa _ _) hS hA (fun n_17 f_18 H locs hw hP hS => ?_)
    refine lv_aload_n hx hb dC_base_85 rfl (lv_at hl 0 rfl) ?_
    refine va_get (D := (dC, dI)) (ci := 0) (v := .ref (a 2)) (C := RC) (T := TC) (N := 2) hx hb hts (fun w h => List.mem_cons_of_mem _ (inC w h)) hown hK hP 0 rfl rfl 1 (by decide) (hts (.fieldLink RC 21 "CoverTrees" "forest" "LCoverTrees$Forest;") (List.mem_cons_of_mem _ wt_135)) (fun _ h9 => h9) rfl dC_base_86 ?_
    refine lv_iconst (v := 0) hx hb dC_base_89 (by decide) ?_
    refine va_put (D := (dC, dI)) (ci := 2) (v := .int 0) (ty := .int) (C := RF) (T := TF) (N := 11) hx hb hts (fun w h => List.mem_cons_of_mem _ (inF w h)) tyF tyF_ok nmF hown hK hP (hDa _ _) hS 2 rfl rfl 1 (by decide) (hts (.fieldLink RC 25 "CoverTrees$Forest" "count" "I") (List.mem_cons_of_mem _ wt_95)) (fun _ h9 => h9) rfl (by decide +kernel) rfl rfl (Nat.le_of_ble_eq_true rfl) dC_base_90 (fun H locs hP _ hS => ?_)
    obtain ⟨n_19, en_19⟩ : ∃ z : ctN, z = va_up n_17 2 0 := ⟨_, rfl⟩
    have hw := hw n_19 en_19
    have hP : va_P (dC, dI) vcl (ctW a cA n_19 f_18) H := by rw [en_19]; exact hP
    refine lv_aload_n hx hb dC_base_93 rfl (lv_at hl 0 rfl) ?_
    refine va_get (D := (dC, dI)) (ci := 0) (v := .ref (a 1)) (C := RC) (T := TC) (N := 2) hx hb hts (fun w h => List.mem_cons_of_mem _ (inC w h)) hown hK hP 0 rfl rfl 0 (by decide) (hts (.fieldLink RC 12 "CoverTrees" "grammar" "LCoverTrees$Grammar;") (List.mem_cons_of_mem _ wt_134)) (fun _ h9 => h9) rfl dC_base_94 ?_
    refine lv_iload_n hx hb dC_base_97 rfl (lv_at hl 1 rfl) ?_
    refine lv_iload_n hx hb dC_base_98 rfl (lv_at hl 2 rfl) ?_
    refine lv_iload hx hb dC_base_99 (lv_at hl 6 rfl) ?_
    refine lv_iconst (v := 1) hx hb dC_base_101 (by decide) ?_
    refine lv_icmp_lt (tgt := 109) hx hb dC_base_102 (by decide) (fun c20 => ?_) (fun c20 => ?_)
    · have hw := hw.1 c20
      refine lv_iconst (v := 0) hx hb dC_base_109 (by decide) ?_
      refine lv_iload hx hb dC_base_110 (lv_at hl 6 rfl) ?_
      refine lv_iconst (v := 2) hx hb dC_base_112 (by decide) ?_
      refine lv_icmp_lt (tgt := 121) hx hb dC_base_113 (by decide) (fun c21 => ?_) (fun c21 => ?_)
      · have hw := hw.1 c21
        refine lv_iconst (v := 0) hx hb dC_base_121 (by decide) ?_
        refine lv_iload hx hb dC_base_122 (lv_at hl 5 rfl) ?_
        refine ct_i (va_runV (As := [.int x1, .int x2, .int 0, .int 0, .int x5]) (rest := []) ⟨hx, hb, hml, hown, hts⟩ (met_G_addRule l dC dI a cA sa x1 x2 0 0 x5 n_19 f_18 _ hw) (cwV 5 hts (wb_V wt_279 wt_280 wt_281 wt_28 wt_282) rfl rfl rfl (by decide +kernel) ⟨Nat.le_of_ble_eq_true rfl, Nat.le_of_ble_eq_true rfl⟩) (ct_preV hK hP (hDa _ _) hZ hS hA (va_recv hK hP (ci := 1) (q0 := 1) rfl rfl)) rfl rfl hl.1 rfl (lv_room (Nat.le_of_ble_eq_true rfl)) dC_base_124 ⟨Nat.le_of_ble_eq_true rfl, Nat.le_of_ble_eq_true rfl⟩) (hDa _ _) hS hA (fun r22 n_23 f_24 H locs hw hP hS => ?_)
        exact False.elim hw
      · have hw := hw.2 c21
        refine lv_iload hx hb dC_base_116 (lv_at hl 4 rfl) ?_
        refine lv_goto (tgt := 122) hx hb dC_base_118 (by decide) ?_
        refine lv_iload hx hb dC_base_122 (lv_at hl 5 rfl) ?_
        refine ct_i (va_runV (As := [.int x1, .int x2, .int 0, .int x4, .int x5]) (rest := []) ⟨hx, hb, hml, hown, hts⟩ (met_G_addRule l dC dI a cA sa x1 x2 0 x4 x5 n_19 f_18 _ hw) (cwV 5 hts (wb_V wt_279 wt_280 wt_281 wt_28 wt_282) rfl rfl rfl (by decide +kernel) ⟨Nat.le_of_ble_eq_true rfl, Nat.le_of_ble_eq_true rfl⟩) (ct_preV hK hP (hDa _ _) hZ hS hA (va_recv hK hP (ci := 1) (q0 := 1) rfl rfl)) rfl rfl hl.1 rfl (lv_room (Nat.le_of_ble_eq_true rfl)) dC_base_124 ⟨Nat.le_of_ble_eq_true rfl, Nat.le_of_ble_eq_true rfl⟩) (hDa _ _) hS hA (fun r25 n_26 f_27 H locs hw hP hS => ?_)
        exact False.elim hw
    · have hw := hw.2 c20
      refine lv_iload_n hx hb dC_base_105 rfl (lv_at hl 3 rfl) ?_
      refine lv_goto (tgt := 110) hx hb dC_base_106 (by decide) ?_
      refine lv_iload hx hb dC_base_110 (lv_at hl 6 rfl) ?_
      refine lv_iconst (v := 2) hx hb dC_base_112 (by decide) ?_
      refine lv_icmp_lt (tgt := 121) hx hb dC_base_113 (by decide) (fun c28 => ?_) (fun c28 => ?_)
      · have hw := hw.1 c28
        refine lv_iconst (v := 0) hx hb dC_base_121 (by decide) ?_
        refine lv_iload hx hb dC_base_122 (lv_at hl 5 rfl) ?_
        refine ct_i (va_runV (As := [.int x1, .int x2, .int x3, .int 0, .int x5]) (rest := []) ⟨hx, hb, hml, hown, hts⟩ (met_G_addRule l dC dI a cA sa x1 x2 x3 0 x5 n_19 f_18 _ hw) (cwV 5 hts (wb_V wt_279 wt_280 wt_281 wt_28 wt_282) rfl rfl rfl (by decide +kernel) ⟨Nat.le_of_ble_eq_true rfl, Nat.le_of_ble_eq_true rfl⟩) (ct_preV hK hP (hDa _ _) hZ hS hA (va_recv hK hP (ci := 1) (q0 := 1) rfl rfl)) rfl rfl hl.1 rfl (lv_room (Nat.le_of_ble_eq_true rfl)) dC_base_124 ⟨Nat.le_of_ble_eq_true rfl, Nat.le_of_ble_eq_true rfl⟩) (hDa _ _) hS hA (fun r29 n_30 f_31 H locs hw hP hS => ?_)
        exact False.elim hw
      · have hw := hw.2 c28
        refine lv_iload hx hb dC_base_116 (lv_at hl 4 rfl) ?_
        refine lv_goto (tgt := 122) hx hb dC_base_118 (by decide) ?_
        refine lv_iload hx hb dC_base_122 (lv_at hl 5 rfl) ?_
        refine ct_i (va_runV (As := [.int x1, .int x2, .int x3, .int x4, .int x5]) (rest := []) ⟨hx, hb, hml, hown, hts⟩ (met_G_addRule l dC dI a cA sa x1 x2 x3 x4 x5 n_19 f_18 _ hw) (cwV 5 hts (wb_V wt_279 wt_280 wt_281 wt_28 wt_282) rfl rfl rfl (by decide +kernel) ⟨Nat.le_of_ble_eq_true rfl, Nat.le_of_ble_eq_true rfl⟩) (ct_preV hK hP (hDa _ _) hZ hS hA (va_recv hK hP (ci := 1) (q0 := 1) rfl rfl)) rfl rfl hl.1 rfl (lv_room (Nat.le_of_ble_eq_true rfl)) dC_base_124 ⟨Nat.le_of_ble_eq_true rfl, Nat.le_of_ble_eq_true rfl⟩) (hDa _ _) hS hA (fun r32 n_33 f_34 H locs hw hP hS => ?_)
        exact False.elim hw
  have join_52 : ∀ (x1 x2 x3 x4 x5 x6 : Int32) (n : ctN) (f : ctF) (H : Heap) (locs : List Loc) (ls : Array Slot), wp_C_base_J52 pFi xp x1 x2 x3 x4 x5 x6 n f → va_P (dC, dI) vcl (ctW a cA n f) H → va_S A s.heap H locs → lv_has ls 7 [(0, .ref (a 0)), (1, .int x1), (2, .int x2), (3, .int x3), (4, .int x4), (5, .int x5), (6, .int x6)] → W p l e (headSpec wsC_base ({ frames := 7, cells := 1, slots := 6, locals := 110 } : Room)).room s m (([.ref (a 0), .int p1, .int p2, .int p3, .int p4, .int p5] : List Value).toArray) below meth c H locs 0 0 (vx_MQ below (va_Qi (fun (r : Int32) (u : ctN × ctF) => pFi r u.1 u.2) (ct_B dC dI a cA) A) (vx_X (fun (_ : ctN × ctF) => True) (fun E u t => xp E u.1 u.2 ∧ ct_B dC dI a cA u t) A) (([.ref (a 0), .int p1, .int p2, .int p3, .int p4, .int p5] : List Value).toArray) s 1 6 A) (F0 m 52 ls []) := by
    intro x1 x2 x3 x4 x5 x6 n f H locs ls hw hP hS hl
    unfold wp_C_base_J52 at hw
    refine lv_iload hx hb dC_base_52 (lv_at hl 6 rfl) ?_
    refine lv_iconst (v := 2) hx hb dC_base_54 (by decide) ?_
    refine lv_icmp_lt (tgt := 76) hx hb dC_base_55 (by decide) (fun c12 => ?_) (fun c12 => ?_)
    · have hw := hw.1 c12
      exact join_76 x1 x2 x3 x4 x5 x6 n f _ _ ls hw hP hS (lv_sub hl [0, 1, 2, 3, 4, 5, 6] rfl)
    · have hw := hw.2 c12
      refine lv_iload hx hb dC_base_58 (lv_at hl 4 rfl) ?_
      refine ct_i (va_runS (As := [.int x4]) (rest := []) ⟨hx, hb, hml, hown, hts⟩ (met_C_isGoal l dC dI a cA sa x4 n f _ hw) (cwS 1 hts (wb_S wt_261 wt_262 wt_27 wt_263) rfl rfl rfl (by decide +kernel) ⟨Nat.le_of_ble_eq_true rfl, Nat.le_of_ble_eq_true rfl⟩) (ct_pre hK hP (hDa _ _) hZ hS hA) rfl rfl hl.1 rfl (lv_room (Nat.le_of_ble_eq_true rfl)) dC_base_60 ⟨Nat.le_of_ble_eq_true rfl, Nat.le_of_ble_eq_true rfl⟩) (hDa _ _) hS hA (fun r35 n_36 f_37 H locs hw hP hS => ?_)
      refine lv_if_ne (tgt := 76) hx hb dC_base_63 (by decide) (fun c38 => ?_) (fun c38 => ?_)
      · have hw := hw.1 c38
        exact join_76 x1 x2 x3 x4 x5 x6 n_36 f_37 _ _ ls hw hP hS (lv_sub hl [0, 1, 2, 3, 4, 5, 6] rfl)
      · have hw := hw.2 c38
        exact vx_throwS (own := RC) (cls := "java/lang/IllegalArgumentException") (text := "no such goal of a part") (names := ["java/lang/RuntimeException", "java/lang/Exception"]) (ik := 35) (is := 64) (ic := 39) (sa := sa 3) hx hb hl9 hown (by decide +kernel) (by decide +kernel) (hts (.classLink RC 35 "java/lang/IllegalArgumentException") (List.mem_cons_of_mem _ wt_166)) (hts (.initialized "java/lang/IllegalArgumentException") (List.mem_cons_of_mem _ wt_34)) hZ.2.2.2.2.2.2.2.2.2.2.2.2.2.1 (vx_hat (L := vx_atS RC 39 "java/lang/IllegalArgumentException" ["java/lang/RuntimeException", "java/lang/Exception"]) (B := [.castable "java/lang/IllegalArgumentException" "java/lang/IllegalArgumentException", .declares ⟨"java/lang/RuntimeException", "<init>", "(Ljava/lang/String;)V"⟩, .declares ⟨"java/lang/Exception", "<init>", "(Ljava/lang/String;)V"⟩, .declares ⟨"java/lang/Throwable", "<init>", "(Ljava/lang/String;)V"⟩]) (fun w hw => hts w (List.mem_cons_of_mem _ (at_C_39 w hw))) bd_C_39 (vx_c (va_Nw.use rfl hZ.2.1) (vx_c (va_Nw.use rfl hZ.2.2.2.2.1) (vx_c (va_Nw.use rfl hZ.2.2.2.2.2.1) (vx_c (va_Nw.use rfl hZ.2.2.2.2.2.2.1) (vx_n)))))) gd_C_39 hZ.2.2.2.2.2.2.2.2.2.2.2.2.2.2.2.2.2.2.2.2.2.2.2.2.2.2.1 hZ.2.2.2.2.2.2.2.2.2.2.2.2.2.2.2.2.2.2.2.2.2.2.2.2.2.2.2 hS (hl.1.trans hml.symm) dC_base_66 dC_base_69 dC_base_70 dC_base_72 dC_base_75 (fun x h => (htb x h).elim) (Nat.le_of_ble_eq_true rfl) (Nat.le_of_ble_eq_true rfl) (Nat.le_of_ble_eq_true rfl) (Nat.le_of_ble_eq_true rfl) hlocks (fun t _ h1 h2 => ⟨(n_36, f_37), trivial, ⟨hw, (ct_thr hP hS h1 h2).1⟩, (ct_thr hP hS h1 h2).2⟩) hS.2.2 (Nat.le_of_ble_eq_true rfl) (Nat.le_of_ble_eq_true rfl)
  refine lv_iload_n hx hb dC_base_0 rfl (lv_at hl 1 rfl) ?_
  refine ct_i (va_runS (As := [.int p1]) (rest := []) ⟨hx, hb, hml, hown, hts⟩ (met_C_isGoal l dC dI a cA sa p1 n f _ hw) (cwS 1 hts (wb_S wt_261 wt_262 wt_27 wt_263) rfl rfl rfl (by decide +kernel) ⟨Nat.le_of_ble_eq_true rfl, Nat.le_of_ble_eq_true rfl⟩) (ct_pre hK hP (hDa _ _) hZ hS hA) rfl rfl hl.1 rfl (lv_room (Nat.le_of_ble_eq_true rfl)) dC_base_1 ⟨Nat.le_of_ble_eq_true rfl, Nat.le_of_ble_eq_true rfl⟩) (hDa _ _) hS hA (fun r1 n_2 f_3 H locs hw hP hS => ?_)
  refine lv_if_eq (tgt := 18) hx hb dC_base_4 (by decide) (fun c4 => ?_) (fun c4 => ?_)
  · have hw := hw.1 c4
    exact vx_throwS (own := RC) (cls := "java/lang/IllegalArgumentException") (text := "no such goal or operator") (names := ["java/lang/RuntimeException", "java/lang/Exception"]) (ik := 35) (is := 58) (ic := 39) (sa := sa 2) hx hb hl9 hown (by decide +kernel) (by decide +kernel) (hts (.classLink RC 35 "java/lang/IllegalArgumentException") (List.mem_cons_of_mem _ wt_166)) (hts (.initialized "java/lang/IllegalArgumentException") (List.mem_cons_of_mem _ wt_34)) hZ.2.2.2.2.2.2.2.2.2.2.2.2.1 (vx_hat (L := vx_atS RC 39 "java/lang/IllegalArgumentException" ["java/lang/RuntimeException", "java/lang/Exception"]) (B := [.castable "java/lang/IllegalArgumentException" "java/lang/IllegalArgumentException", .declares ⟨"java/lang/RuntimeException", "<init>", "(Ljava/lang/String;)V"⟩, .declares ⟨"java/lang/Exception", "<init>", "(Ljava/lang/String;)V"⟩, .declares ⟨"java/lang/Throwable", "<init>", "(Ljava/lang/String;)V"⟩]) (fun w hw => hts w (List.mem_cons_of_mem _ (at_C_39 w hw))) bd_C_39 (vx_c (va_Nw.use rfl hZ.2.1) (vx_c (va_Nw.use rfl hZ.2.2.2.2.1) (vx_c (va_Nw.use rfl hZ.2.2.2.2.2.1) (vx_c (va_Nw.use rfl hZ.2.2.2.2.2.2.1) (vx_n)))))) gd_C_39 hZ.2.2.2.2.2.2.2.2.2.2.2.2.2.2.2.2.2.2.2.2.2.2.2.2.2.2.1 hZ.2.2.2.2.2.2.2.2.2.2.2.2.2.2.2.2.2.2.2.2.2.2.2.2.2.2.2 hS (hl.1.trans hml.symm) dC_base_18 dC_base_21 dC_base_22 dC_base_24 dC_base_27 (fun x h => (htb x h).elim) (Nat.le_of_ble_eq_true rfl) (Nat.le_of_ble_eq_true rfl) (Nat.le_of_ble_eq_true rfl) (Nat.le_of_ble_eq_true rfl) hlocks (fun t _ h1 h2 => ⟨(n_2, f_3), trivial, ⟨hw, (ct_thr hP hS h1 h2).1⟩, (ct_thr hP hS h1 h2).2⟩) hS.2.2 (Nat.le_of_ble_eq_true rfl) (Nat.le_of_ble_eq_true rfl)
  · have hw := hw.2 c4
    refine lv_aload_n hx hb dC_base_7 rfl (lv_at hl 0 rfl) ?_
    refine va_get (D := (dC, dI)) (ci := 0) (v := .ref (a 1)) (C := RC) (T := TC) (N := 2) hx hb hts (fun w h => List.mem_cons_of_mem _ (inC w h)) hown hK hP 0 rfl rfl 0 (by decide) (hts (.fieldLink RC 12 "CoverTrees" "grammar" "LCoverTrees$Grammar;") (List.mem_cons_of_mem _ wt_134)) (fun _ h9 => h9) rfl dC_base_8 ?_
    refine lv_iload_n hx hb dC_base_11 rfl (lv_at hl 2 rfl) ?_
    refine ct_i (va_runV (As := [.int p2]) (rest := []) ⟨hx, hb, hml, hown, hts⟩ (met_G_hasOperator l dC dI a cA sa p2 n_2 f_3 _ hw) (cwV 1 hts (wb_V wt_264 wt_265 wt_266 wt_28 wt_267) rfl rfl rfl (by decide +kernel) ⟨Nat.le_of_ble_eq_true rfl, Nat.le_of_ble_eq_true rfl⟩) (ct_preV hK hP (hDa _ _) hZ hS hA (va_recv hK hP (ci := 1) (q0 := 1) rfl rfl)) rfl rfl hl.1 rfl (lv_room (Nat.le_of_ble_eq_true rfl)) dC_base_12 ⟨Nat.le_of_ble_eq_true rfl, Nat.le_of_ble_eq_true rfl⟩) (hDa _ _) hS hA (fun r5 n_6 f_7 H locs hw hP hS => ?_)
    refine lv_if_ne (tgt := 28) hx hb dC_base_15 (by decide) (fun c8 => ?_) (fun c8 => ?_)
    · have hw := hw.1 c8
      refine lv_aload_n hx hb dC_base_28 rfl (lv_at hl 0 rfl) ?_
      refine va_get (D := (dC, dI)) (ci := 0) (v := .ref (a 1)) (C := RC) (T := TC) (N := 2) hx hb hts (fun w h => List.mem_cons_of_mem _ (inC w h)) hown hK hP 0 rfl rfl 0 (by decide) (hts (.fieldLink RC 12 "CoverTrees" "grammar" "LCoverTrees$Grammar;") (List.mem_cons_of_mem _ wt_134)) (fun _ h9 => h9) rfl dC_base_29 ?_
      refine va_get (D := (dC, dI)) (ci := 1) (v := .ref (a 3)) (C := RG) (T := TG) (N := 8) hx hb hts (fun w h => List.mem_cons_of_mem _ (inG w h)) hown hK hP 1 rfl rfl 1 (by decide) (hts (.fieldLink RC 60 "CoverTrees$Grammar" "parts" "[I") (List.mem_cons_of_mem _ wt_55)) (fun _ h9 => h9) rfl dC_base_32 ?_
      refine lv_iload_n hx hb dC_base_35 rfl (lv_at hl 2 rfl) ?_
      obtain ⟨hi9, hw⟩ := hw
      refine va_iald hx hb hK hP 3 0 rfl rfl hi9 dC_base_36 ?_
      refine lv_topi (fun x6_10 ex6_10 => ?_)
      have hw := hw x6_10 ex6_10
      refine lv_istore (lv' := [(6, .int x6_10), (0, .ref (a 0)), (1, .int p1), (2, .int p2), (3, .int p3), (4, .int p4), (5, .int p5)]) hx hb dC_base_37 hl (by decide) rfl (fun ls hl => ?_)
      refine lv_iload hx hb dC_base_39 (lv_at hl 0 rfl) ?_
      refine lv_iconst (v := 1) hx hb dC_base_41 (by decide) ?_
      refine lv_icmp_lt (tgt := 52) hx hb dC_base_42 (by decide) (fun c11 => ?_) (fun c11 => ?_)
      · have hw := hw.1 c11
        exact join_52 p1 p2 p3 p4 p5 x6_10 n_6 f_7 _ _ ls hw hP hS (lv_sub hl [1, 2, 3, 4, 5, 6, 0] rfl)
      · have hw := hw.2 c11
        refine lv_iload_n hx hb dC_base_45 rfl (lv_at hl 4 rfl) ?_
        refine ct_i (va_runS (As := [.int p3]) (rest := []) ⟨hx, hb, hml, hown, hts⟩ (met_C_isGoal l dC dI a cA sa p3 n_6 f_7 _ hw) (cwS 1 hts (wb_S wt_261 wt_262 wt_27 wt_263) rfl rfl rfl (by decide +kernel) ⟨Nat.le_of_ble_eq_true rfl, Nat.le_of_ble_eq_true rfl⟩) (ct_pre hK hP (hDa _ _) hZ hS hA) rfl rfl hl.1 rfl (lv_room (Nat.le_of_ble_eq_true rfl)) dC_base_46 ⟨Nat.le_of_ble_eq_true rfl, Nat.le_of_ble_eq_true rfl⟩) (hDa _ _) hS hA (fun r39 n_40 f_41 H locs hw hP hS => ?_)
        refine lv_if_eq (tgt := 66) hx hb dC_base_49 (by decide) (fun c42 => ?_) (fun c42 => ?_)
        · have hw := hw.1 c42
          exact vx_throwS (own := RC) (cls := "java/lang/IllegalArgumentException") (text := "no such goal of a part") (names := ["java/lang/RuntimeException", "java/lang/Exception"]) (ik := 35) (is := 64) (ic := 39) (sa := sa 3) hx hb hl9 hown (by decide +kernel) (by decide +kernel) (hts (.classLink RC 35 "java/lang/IllegalArgumentException") (List.mem_cons_of_mem _ wt_166)) (hts (.initialized "java/lang/IllegalArgumentException") (List.mem_cons_of_mem _ wt_34)) hZ.2.2.2.2.2.2.2.2.2.2.2.2.2.1 (vx_hat (L := vx_atS RC 39 "java/lang/IllegalArgumentException" ["java/lang/RuntimeException", "java/lang/Exception"]) (B := [.castable "java/lang/IllegalArgumentException" "java/lang/IllegalArgumentException", .declares ⟨"java/lang/RuntimeException", "<init>", "(Ljava/lang/String;)V"⟩, .declares ⟨"java/lang/Exception", "<init>", "(Ljava/lang/String;)V"⟩, .declares ⟨"java/lang/Throwable", "<init>", "(Ljava/lang/String;)V"⟩]) (fun w hw => hts w (List.mem_cons_of_mem _ (at_C_39 w hw))) bd_C_39 (vx_c (va_Nw.use rfl hZ.2.1) (vx_c (va_Nw.use rfl hZ.2.2.2.2.1) (vx_c (va_Nw.use rfl hZ.2.2.2.2.2.1) (vx_c (va_Nw.use rfl hZ.2.2.2.2.2.2.1) (vx_n)))))) gd_C_39 hZ.2.2.2.2.2.2.2.2.2.2.2.2.2.2.2.2.2.2.2.2.2.2.2.2.2.2.1 hZ.2.2.2.2.2.2.2.2.2.2.2.2.2.2.2.2.2.2.2.2.2.2.2.2.2.2.2 hS (hl.1.trans hml.symm) dC_base_66 dC_base_69 dC_base_70 dC_base_72 dC_base_75 (fun x h => (htb x h).elim) (Nat.le_of_ble_eq_true rfl) (Nat.le_of_ble_eq_true rfl) (Nat.le_of_ble_eq_true rfl) (Nat.le_of_ble_eq_true rfl) hlocks (fun t _ h1 h2 => ⟨(n_40, f_41), trivial, ⟨hw, (ct_thr hP hS h1 h2).1⟩, (ct_thr hP hS h1 h2).2⟩) hS.2.2 (Nat.le_of_ble_eq_true rfl) (Nat.le_of_ble_eq_true rfl)
        · have hw := hw.2 c42
          exact join_52 p1 p2 p3 p4 p5 x6_10 n_40 f_41 _ _ ls hw hP hS (lv_sub hl [1, 2, 3, 4, 5, 6, 0] rfl)
    · have hw := hw.2 c8
      exact vx_throwS (own := RC) (cls := "java/lang/IllegalArgumentException") (text := "no such goal or operator") (names := ["java/lang/RuntimeException", "java/lang/Exception"]) (ik := 35) (is := 58) (ic := 39) (sa := sa 2) hx hb hl9 hown (by decide +kernel) (by decide +kernel) (hts (.classLink RC 35 "java/lang/IllegalArgumentException") (List.mem_cons_of_mem _ wt_166)) (hts (.initialized "java/lang/IllegalArgumentException") (List.mem_cons_of_mem _ wt_34)) hZ.2.2.2.2.2.2.2.2.2.2.2.2.1 (vx_hat (L := vx_atS RC 39 "java/lang/IllegalArgumentException" ["java/lang/RuntimeException", "java/lang/Exception"]) (B := [.castable "java/lang/IllegalArgumentException" "java/lang/IllegalArgumentException", .declares ⟨"java/lang/RuntimeException", "<init>", "(Ljava/lang/String;)V"⟩, .declares ⟨"java/lang/Exception", "<init>", "(Ljava/lang/String;)V"⟩, .declares ⟨"java/lang/Throwable", "<init>", "(Ljava/lang/String;)V"⟩]) (fun w hw => hts w (List.mem_cons_of_mem _ (at_C_39 w hw))) bd_C_39 (vx_c (va_Nw.use rfl hZ.2.1) (vx_c (va_Nw.use rfl hZ.2.2.2.2.1) (vx_c (va_Nw.use rfl hZ.2.2.2.2.2.1) (vx_c (va_Nw.use rfl hZ.2.2.2.2.2.2.1) (vx_n)))))) gd_C_39 hZ.2.2.2.2.2.2.2.2.2.2.2.2.2.2.2.2.2.2.2.2.2.2.2.2.2.2.1 hZ.2.2.2.2.2.2.2.2.2.2.2.2.2.2.2.2.2.2.2.2.2.2.2.2.2.2.2 hS (hl.1.trans hml.symm) dC_base_18 dC_base_21 dC_base_22 dC_base_24 dC_base_27 (fun x h => (htb x h).elim) (Nat.le_of_ble_eq_true rfl) (Nat.le_of_ble_eq_true rfl) (Nat.le_of_ble_eq_true rfl) (Nat.le_of_ble_eq_true rfl) hlocks (fun t _ h1 h2 => ⟨(n_6, f_7), trivial, ⟨hw, (ct_thr hP hS h1 h2).1⟩, (ct_thr hP hS h1 h2).2⟩) hS.2.2 (Nat.le_of_ble_eq_true rfl) (Nat.le_of_ble_eq_true rfl)
def wp_C_chain (post : Int32 → ctN → ctF → Prop) (xp : String → ctN → ctF → Prop) (p1 : Int32) (p2 : Int32) (p3 : Int32) (n : ctN) (f : ctF) : Prop := wp_C_isGoal (fun (r1 : Int32) (n_2 : ctN) (f_3 : ctF) => (r1 = 0 → (xp "java/lang/IllegalArgumentException" n_2 f_3)) ∧ (¬ r1 = 0 → (wp_C_isGoal (fun (r5 : Int32) (n_6 : ctN) (f_7 : ctF) => (¬ r5 = 0 → ((¬ p1 = p2 → ((wp_C_checkRuleCost (fun (n_11 : ctN) (f_12 : ctF) => (wp_C_checkRoomForRule (fun (n_14 : ctN) (f_15 : ctF) => ∀ n_16 : ctN, n_16 = va_up n_14 2 0 → (wp_G_addRule (fun (r17 : Int32) (n_18 : ctN) (f_19 : ctF) => post r17 n_18 f_19) p1 (-1) p2 0 p3 n_16 f_15)) xF n_11 f_12) ∨ (wp_C_checkRoomForRule pFv xp n_11 f_12)) xF p3 n_6 f_7) ∨ (wp_C_checkRuleCost pFv xp p3 n_6 f_7))) ∧ (p1 = p2 → (xp "java/lang/IllegalArgumentException" n_6 f_7)))) ∧ (r5 = 0 → (xp "java/lang/IllegalArgumentException" n_6 f_7))) p2 n_2 f_3))) p1 n f
set_option maxHeartbeats 4000000 in
set_option maxRecDepth 100000 in
theorem met0_C_chain (l : Launch) (dC : Nat → ClassId) (dI : Nat → Nat → Nat) (a : Nat → Nat) (cA : Nat → ClassId) (sa : Nat → Nat) (p1 : Int32) (p2 : Int32) (p3 : Int32) (n : ctN) (f : ctF) (sz : Nat) {post : Int32 → ctN → ctF → Prop} (hw : wp_C_chain post xF p1 p2 p3 n f) : Met l yC_chain wsC_chain ({ frames := 7, cells := 0, slots := 0, locals := 110 } : Room) (ct_Pc dC dI a cA sa [.ref (a 0), .int p1, .int p2, .int p3] n f sz) (va_Qi (fun (r : Int32) (u : ctN × ctF) => post r u.1 u.2) (ct_B dC dI a cA) (va_A (ctW a cA n f) sz)) 0 0 (va_A (ctW a cA n f) sz) := by
  refine Met.ofW (cc := cC_chain) (maxL := 4) (ret := (some .int)) (by decide) rfl ?_
  intro p e s m args below meth c s₁ B hml hv
  obtain ⟨rfl, hsz, hP, hK, hD0, hZ⟩ := hv
  have hx := B.exec
  have hb := B.bytes
  have hr := B.returns
  have hts := atoms_spec (ws := wsC_chain) B.pre
  have hown : s.vm.findClass RC = some m.cls := findClass_of_methodNamed B.named
  have hlocks := B.notSynchronized
  subst hsz
  have hD := hD0.self (sz := s.heap.size)
  generalize hAe : va_A (ctW a cA n f) s.heap.size = A at hD hZ ⊢
  have hDa : ∀ (n : ctN) (f : ctF), va_D A (ctW a cA n f) := fun _ _ => ct_D hD
  have hA : ∀ q : Nat, s.heap.size ≤ q → A q := fun q h => by rw [← hAe]; exact Or.inr h
  have hS : va_S A s.heap s.heap [] := va_S.rf
  have hl := lv_entry ([.ref (a 0), .int p1, .int p2, .int p3]) (n := 4) (Nat.le_of_ble_eq_true rfl)
  rw [lg_entry_eq]
  generalize (lg_sl ([.ref (a 0), .int p1, .int p2, .int p3]) ++ List.replicate (4 - (lg_sl ([.ref (a 0), .int p1, .int p2, .int p3])).length) Slot.unset).toArray = ls at hl ⊢
  have hl : lv_has ls 4 [(0, .ref (a 0)), (1, .int p1), (2, .int p2), (3, .int p3)] := hl
  unfold wp_C_chain at hw
  refine lv_iload_n hx hb dC_chain_0 rfl (lv_at hl 1 rfl) ?_
  refine ct_i (va_runS (As := [.int p1]) (rest := []) ⟨hx, hb, hml, hown, hts⟩ (met_C_isGoal l dC dI a cA sa p1 n f _ hw) (cwS 1 hts (wb_S wt_261 wt_262 wt_27 wt_263) rfl rfl rfl (by decide +kernel) ⟨Nat.le_of_ble_eq_true rfl, Nat.le_of_ble_eq_true rfl⟩) (ct_pre hK hP (hDa _ _) hZ hS hA) rfl rfl hl.1 rfl (lv_room (Nat.le_of_ble_eq_true rfl)) dC_chain_1 ⟨Nat.le_of_ble_eq_true rfl, Nat.le_of_ble_eq_true rfl⟩) (hDa _ _) hS hA (fun r1 n_2 f_3 H locs hw hP hS => ?_)
  refine lv_if_eq (tgt := 14) hx hb dC_chain_4 (by decide) (fun c4 => ?_) (fun c4 => ?_)
  · have hw := hw.1 c4
    exact False.elim hw
  · have hw := hw.2 c4
    refine lv_iload_n hx hb dC_chain_7 rfl (lv_at hl 2 rfl) ?_
    refine ct_i (va_runS (As := [.int p2]) (rest := []) ⟨hx, hb, hml, hown, hts⟩ (met_C_isGoal l dC dI a cA sa p2 n_2 f_3 _ hw) (cwS 1 hts (wb_S wt_261 wt_262 wt_27 wt_263) rfl rfl rfl (by decide +kernel) ⟨Nat.le_of_ble_eq_true rfl, Nat.le_of_ble_eq_true rfl⟩) (ct_pre hK hP (hDa _ _) hZ hS hA) rfl rfl hl.1 rfl (lv_room (Nat.le_of_ble_eq_true rfl)) dC_chain_8 ⟨Nat.le_of_ble_eq_true rfl, Nat.le_of_ble_eq_true rfl⟩) (hDa _ _) hS hA (fun r5 n_6 f_7 H locs hw hP hS => ?_)
    refine lv_if_ne (tgt := 24) hx hb dC_chain_11 (by decide) (fun c8 => ?_) (fun c8 => ?_)
    · have hw := hw.1 c8
      refine lv_iload_n hx hb dC_chain_24 rfl (lv_at hl 1 rfl) ?_
      refine lv_iload_n hx hb dC_chain_25 rfl (lv_at hl 2 rfl) ?_
      refine lv_icmp_ne (tgt := 39) hx hb dC_chain_26 (by decide) (fun c9 => ?_) (fun c9 => ?_)
      · have hw := hw.1 c9
        refine lv_iload_n hx hb dC_chain_39 rfl (lv_at hl 3 rfl) ?_
        rcases hw with hw | hw
        rotate_left
        · exact ct_v (va_runS (As := [.int p3]) (rest := []) ⟨hx, hb, hml, hown, hts⟩ (met0_C_checkRuleCost l dC dI a cA sa p3 n_6 f_7 _ hw) (cwS 1 hts (wb_S wt_270 wt_271 wt_27 wt_272) rfl rfl rfl (by decide +kernel) ⟨Nat.le_of_ble_eq_true rfl, Nat.le_of_ble_eq_true rfl⟩) (ct_pre hK hP (hDa _ _) hZ hS hA) rfl rfl hl.1 rfl (lv_room (Nat.le_of_ble_eq_true rfl)) dC_chain_40 ⟨Nat.le_of_ble_eq_true rfl, Nat.le_of_ble_eq_true rfl⟩) (hDa _ _) hS hA (fun _ _ _ _ hw _ _ => False.elim hw)
        refine ct_v (va_runS (As := [.int p3]) (rest := []) ⟨hx, hb, hml, hown, hts⟩ (met0_C_checkRuleCost l dC dI a cA sa p3 n_6 f_7 _ hw) (cwS 1 hts (wb_S wt_270 wt_271 wt_27 wt_272) rfl rfl rfl (by decide +kernel) ⟨Nat.le_of_ble_eq_true rfl, Nat.le_of_ble_eq_true rfl⟩) (ct_pre hK hP (hDa _ _) hZ hS hA) rfl rfl hl.1 rfl (lv_room (Nat.le_of_ble_eq_true rfl)) dC_chain_40 ⟨Nat.le_of_ble_eq_true rfl, Nat.le_of_ble_eq_true rfl⟩) (hDa _ _) hS hA (fun n_11 f_12 H locs hw hP hS => ?_)
        refine lv_aload_n hx hb dC_chain_43 rfl (lv_at hl 0 rfl) ?_
        rcases hw with hw | hw
        rotate_left
        · exact ct_v (va_runV (As := []) (rest := []) ⟨hx, hb, hml, hown, hts⟩ (met0_C_checkRoomForRule l dC dI a cA sa n_11 f_12 _ hw) (cwV 0 hts (wb_V wt_274 wt_276 wt_1 wt_27 wt_277) rfl rfl rfl (by decide +kernel) ⟨Nat.le_of_ble_eq_true rfl, Nat.le_of_ble_eq_true rfl⟩) (ct_preV hK hP (hDa _ _) hZ hS hA (va_recv hK hP (ci := 0) (q0 := 0) rfl rfl)) rfl rfl hl.1 rfl (lv_room (Nat.le_of_ble_eq_true rfl)) dC_chain_44 ⟨Nat.le_of_ble_eq_true rfl, Nat.le_of_ble_eq_true rfl⟩) (hDa _ _) hS hA (fun _ _ _ _ hw _ _ => False.elim hw)
        refine ct_v (va_runV (As := []) (rest := []) ⟨hx, hb, hml, hown, hts⟩ (met0_C_checkRoomForRule l dC dI a cA sa n_11 f_12 _ hw) (cwV 0 hts (wb_V wt_274 wt_276 wt_1 wt_27 wt_277) rfl rfl rfl (by decide +kernel) ⟨Nat.le_of_ble_eq_true rfl, Nat.le_of_ble_eq_true rfl⟩) (ct_preV hK hP (hDa _ _) hZ hS hA (va_recv hK hP (ci := 0) (q0 := 0) rfl rfl)) rfl rfl hl.1 rfl (lv_room (Nat.le_of_ble_eq_true rfl)) dC_chain_44 ⟨Nat.le_of_ble_eq_true rfl, Nat.le_of_ble_eq_true rfl⟩) (hDa _ _) hS hA (fun n_14 f_15 H locs hw hP hS => ?_)
        refine lv_aload_n hx hb dC_chain_47 rfl (lv_at hl 0 rfl) ?_
        refine va_get (D := (dC, dI)) (ci := 0) (v := .ref (a 2)) (C := RC) (T := TC) (N := 2) hx hb hts (fun w h => List.mem_cons_of_mem _ (inC w h)) hown hK hP 0 rfl rfl 1 (by decide) (hts (.fieldLink RC 21 "CoverTrees" "forest" "LCoverTrees$Forest;") (List.mem_cons_of_mem _ wt_135)) (fun _ h9 => h9) rfl dC_chain_48 ?_
        refine lv_iconst (v := 0) hx hb dC_chain_51 (by decide) ?_
        refine va_put (D := (dC, dI)) (ci := 2) (v := .int 0) (ty := .int) (C := RF) (T := TF) (N := 11) hx hb hts (fun w h => List.mem_cons_of_mem _ (inF w h)) tyF tyF_ok nmF hown hK hP (hDa _ _) hS 2 rfl rfl 1 (by decide) (hts (.fieldLink RC 25 "CoverTrees$Forest" "count" "I") (List.mem_cons_of_mem _ wt_95)) (fun _ h9 => h9) rfl (by decide +kernel) rfl rfl (Nat.le_of_ble_eq_true rfl) dC_chain_52 (fun H locs hP _ hS => ?_)
        obtain ⟨n_16, en_16⟩ : ∃ z : ctN, z = va_up n_14 2 0 := ⟨_, rfl⟩
        have hw := hw n_16 en_16
        have hP : va_P (dC, dI) vcl (ctW a cA n_16 f_15) H := by rw [en_16]; exact hP
        refine lv_aload_n hx hb dC_chain_55 rfl (lv_at hl 0 rfl) ?_
        refine va_get (D := (dC, dI)) (ci := 0) (v := .ref (a 1)) (C := RC) (T := TC) (N := 2) hx hb hts (fun w h => List.mem_cons_of_mem _ (inC w h)) hown hK hP 0 rfl rfl 0 (by decide) (hts (.fieldLink RC 12 "CoverTrees" "grammar" "LCoverTrees$Grammar;") (List.mem_cons_of_mem _ wt_134)) (fun _ h9 => h9) rfl dC_chain_56 ?_
        refine lv_iload_n hx hb dC_chain_59 rfl (lv_at hl 1 rfl) ?_
        refine lv_iconst (v := (-1)) hx hb dC_chain_60 (by decide) ?_
        refine lv_iload_n hx hb dC_chain_61 rfl (lv_at hl 2 rfl) ?_
        refine lv_iconst (v := 0) hx hb dC_chain_62 (by decide) ?_
        refine lv_iload_n hx hb dC_chain_63 rfl (lv_at hl 3 rfl) ?_
        refine ct_i (va_runV (As := [.int p1, .int (-1), .int p2, .int 0, .int p3]) (rest := []) ⟨hx, hb, hml, hown, hts⟩ (met_G_addRule l dC dI a cA sa p1 (-1) p2 0 p3 n_16 f_15 _ hw) (cwV 5 hts (wb_V wt_279 wt_280 wt_281 wt_28 wt_282) rfl rfl rfl (by decide +kernel) ⟨Nat.le_of_ble_eq_true rfl, Nat.le_of_ble_eq_true rfl⟩) (ct_preV hK hP (hDa _ _) hZ hS hA (va_recv hK hP (ci := 1) (q0 := 1) rfl rfl)) rfl rfl hl.1 rfl (lv_room (Nat.le_of_ble_eq_true rfl)) dC_chain_64 ⟨Nat.le_of_ble_eq_true rfl, Nat.le_of_ble_eq_true rfl⟩) (hDa _ _) hS hA (fun r17 n_18 f_19 H locs hw hP hS => ?_)
        exact W.iret (v := r17) hx hb hr (fun t ht hW => ⟨⟨r17, (n_18, f_19), rfl, hw, ct_mkB ht hP⟩, hS.F ht⟩) hS.2.2 dC_chain_67
      · have hw := hw.2 c9
        exact False.elim hw
    · have hw := hw.2 c8
      exact False.elim hw
set_option maxHeartbeats 4000000 in
set_option maxRecDepth 100000 in
theorem metx_C_chain (l : Launch) (hl9 : l.stackTraces = false) (dC : Nat → ClassId) (dI : Nat → Nat → Nat) (a : Nat → Nat) (cA : Nat → ClassId) (sa : Nat → Nat) (p1 : Int32) (p2 : Int32) (p3 : Int32) (n : ctN) (f : ctF) (sz : Nat) {xp : String → ctN → ctF → Prop} (hw : wp_C_chain pFi xp p1 p2 p3 n f) : vx_Met l yC_chain wsC_chain ({ frames := 7, cells := 1, slots := 6, locals := 110 } : Room) (ct_Pc dC dI a cA sa [.ref (a 0), .int p1, .int p2, .int p3] n f sz) (va_Qi (fun (r : Int32) (u : ctN × ctF) => pFi r u.1 u.2) (ct_B dC dI a cA) (va_A (ctW a cA n f) sz)) (vx_X (fun (_ : ctN × ctF) => True) (fun E u t => xp E u.1 u.2 ∧ ct_B dC dI a cA u t) (va_A (ctW a cA n f) sz)) 1 6 (va_A (ctW a cA n f) sz) := by
  refine vx_ofW (cc := cC_chain) (maxL := 4) (ret := (some .int)) (by decide) rfl ?_
  intro p e s m args below meth c s₁ B hml htb hv
  obtain ⟨rfl, hsz, hP, hK, hD0, hZ⟩ := hv
  have hx := B.exec
  have hb := B.bytes
  have hr := B.returns
  have hts := atoms_spec (ws := wsC_chain) B.pre
  have hown : s.vm.findClass RC = some m.cls := findClass_of_methodNamed B.named
  have hlocks := B.notSynchronized
  subst hsz
  have hD := hD0.self (sz := s.heap.size)
  generalize hAe : va_A (ctW a cA n f) s.heap.size = A at hD hZ ⊢
  have hDa : ∀ (n : ctN) (f : ctF), va_D A (ctW a cA n f) := fun _ _ => ct_D hD
  have hA : ∀ q : Nat, s.heap.size ≤ q → A q := fun q h => by rw [← hAe]; exact Or.inr h
  have hS : va_S A s.heap s.heap [] := va_S.rf
  have hl := lv_entry ([.ref (a 0), .int p1, .int p2, .int p3]) (n := 4) (Nat.le_of_ble_eq_true rfl)
  rw [lg_entry_eq]
  generalize (lg_sl ([.ref (a 0), .int p1, .int p2, .int p3]) ++ List.replicate (4 - (lg_sl ([.ref (a 0), .int p1, .int p2, .int p3])).length) Slot.unset).toArray = ls at hl ⊢
  have hl : lv_has ls 4 [(0, .ref (a 0)), (1, .int p1), (2, .int p2), (3, .int p3)] := hl
  unfold wp_C_chain at hw
  refine lv_iload_n hx hb dC_chain_0 rfl (lv_at hl 1 rfl) ?_
  refine ct_i (va_runS (As := [.int p1]) (rest := []) ⟨hx, hb, hml, hown, hts⟩ (met_C_isGoal l dC dI a cA sa p1 n f _ hw) (cwS 1 hts (wb_S wt_261 wt_262 wt_27 wt_263) rfl rfl rfl (by decide +kernel) ⟨Nat.le_of_ble_eq_true rfl, Nat.le_of_ble_eq_true rfl⟩) (ct_pre hK hP (hDa _ _) hZ hS hA) rfl rfl hl.1 rfl (lv_room (Nat.le_of_ble_eq_true rfl)) dC_chain_1 ⟨Nat.le_of_ble_eq_true rfl, Nat.le_of_ble_eq_true rfl⟩) (hDa _ _) hS hA (fun r1 n_2 f_3 H locs hw hP hS => ?_)
  refine lv_if_eq (tgt := 14) hx hb dC_chain_4 (by decide) (fun c4 => ?_) (fun c4 => ?_)
  · have hw := hw.1 c4
    exact vx_throwS (own := RC) (cls := "java/lang/IllegalArgumentException") (text := "no such goal") (names := ["java/lang/RuntimeException", "java/lang/Exception"]) (ik := 35) (is := 77) (ic := 39) (sa := sa 6) hx hb hl9 hown (by decide +kernel) (by decide +kernel) (hts (.classLink RC 35 "java/lang/IllegalArgumentException") (List.mem_cons_of_mem _ wt_166)) (hts (.initialized "java/lang/IllegalArgumentException") (List.mem_cons_of_mem _ wt_34)) hZ.2.2.2.2.2.2.2.2.2.2.2.2.2.2.2.2.1 (vx_hat (L := vx_atS RC 39 "java/lang/IllegalArgumentException" ["java/lang/RuntimeException", "java/lang/Exception"]) (B := [.castable "java/lang/IllegalArgumentException" "java/lang/IllegalArgumentException", .declares ⟨"java/lang/RuntimeException", "<init>", "(Ljava/lang/String;)V"⟩, .declares ⟨"java/lang/Exception", "<init>", "(Ljava/lang/String;)V"⟩, .declares ⟨"java/lang/Throwable", "<init>", "(Ljava/lang/String;)V"⟩]) (fun w hw => hts w (List.mem_cons_of_mem _ (at_C_39 w hw))) bd_C_39 (vx_c (va_Nw.use rfl hZ.2.1) (vx_c (va_Nw.use rfl hZ.2.2.2.2.1) (vx_c (va_Nw.use rfl hZ.2.2.2.2.2.1) (vx_c (va_Nw.use rfl hZ.2.2.2.2.2.2.1) (vx_n)))))) gd_C_39 hZ.2.2.2.2.2.2.2.2.2.2.2.2.2.2.2.2.2.2.2.2.2.2.2.2.2.2.1 hZ.2.2.2.2.2.2.2.2.2.2.2.2.2.2.2.2.2.2.2.2.2.2.2.2.2.2.2 hS (hl.1.trans hml.symm) dC_chain_14 dC_chain_17 dC_chain_18 dC_chain_20 dC_chain_23 (fun x h => (htb x h).elim) (Nat.le_of_ble_eq_true rfl) (Nat.le_of_ble_eq_true rfl) (Nat.le_of_ble_eq_true rfl) (Nat.le_of_ble_eq_true rfl) hlocks (fun t _ h1 h2 => ⟨(n_2, f_3), trivial, ⟨hw, (ct_thr hP hS h1 h2).1⟩, (ct_thr hP hS h1 h2).2⟩) hS.2.2 (Nat.le_of_ble_eq_true rfl) (Nat.le_of_ble_eq_true rfl)
  · have hw := hw.2 c4
    refine lv_iload_n hx hb dC_chain_7 rfl (lv_at hl 2 rfl) ?_
    refine ct_i (va_runS (As := [.int p2]) (rest := []) ⟨hx, hb, hml, hown, hts⟩ (met_C_isGoal l dC dI a cA sa p2 n_2 f_3 _ hw) (cwS 1 hts (wb_S wt_261 wt_262 wt_27 wt_263) rfl rfl rfl (by decide +kernel) ⟨Nat.le_of_ble_eq_true rfl, Nat.le_of_ble_eq_true rfl⟩) (ct_pre hK hP (hDa _ _) hZ hS hA) rfl rfl hl.1 rfl (lv_room (Nat.le_of_ble_eq_true rfl)) dC_chain_8 ⟨Nat.le_of_ble_eq_true rfl, Nat.le_of_ble_eq_true rfl⟩) (hDa _ _) hS hA (fun r5 n_6 f_7 H locs hw hP hS => ?_)
    refine lv_if_ne (tgt := 24) hx hb dC_chain_11 (by decide) (fun c8 => ?_) (fun c8 => ?_)
    · have hw := hw.1 c8
      refine lv_iload_n hx hb dC_chain_24 rfl (lv_at hl 1 rfl) ?_
      refine lv_iload_n hx hb dC_chain_25 rfl (lv_at hl 2 rfl) ?_
      refine lv_icmp_ne (tgt := 39) hx hb dC_chain_26 (by decide) (fun c9 => ?_) (fun c9 => ?_)
      · have hw := hw.1 c9
        refine lv_iload_n hx hb dC_chain_39 rfl (lv_at hl 3 rfl) ?_
        rcases hw with hw | hw
        rotate_left
        · exact ct_xv (vx_runS (As := [.int p3]) (rest := []) ⟨hx, hb, hml, hown, hts⟩ (metx_C_checkRuleCost l hl9 dC dI a cA sa p3 n_6 f_7 _ hw) (cwS 1 hts (wb_S wt_270 wt_271 wt_27 wt_272) rfl rfl rfl (by decide +kernel) ⟨Nat.le_of_ble_eq_true rfl, Nat.le_of_ble_eq_true rfl⟩) (ct_pre hK hP (hDa _ _) hZ hS hA) rfl rfl hl.1 rfl (lv_room (Nat.le_of_ble_eq_true rfl)) dC_chain_40 ⟨Nat.le_of_ble_eq_true rfl, Nat.le_of_ble_eq_true rfl⟩) (hDa _ _) hS hA (fun E ce q9 n' f' H locs hw hP hS h1 h2 h3 => by exact vx_out (fun x h => (htb x h).elim) hlocks h1 h2 h3 (fun t ht hvm => ⟨(n', f'), trivial, ⟨hw, ct_mkB ht hP⟩, hS.F ht⟩) hS.2.2 (Nat.le_of_ble_eq_true rfl) (Nat.le_of_ble_eq_true rfl)) (fun _ _ _ _ hw _ _ => False.elim hw)
        refine ct_v (va_runS (As := [.int p3]) (rest := []) ⟨hx, hb, hml, hown, hts⟩ (met0_C_checkRuleCost l dC dI a cA sa p3 n_6 f_7 _ hw) (cwS 1 hts (wb_S wt_270 wt_271 wt_27 wt_272) rfl rfl rfl (by decide +kernel) ⟨Nat.le_of_ble_eq_true rfl, Nat.le_of_ble_eq_true rfl⟩) (ct_pre hK hP (hDa _ _) hZ hS hA) rfl rfl hl.1 rfl (lv_room (Nat.le_of_ble_eq_true rfl)) dC_chain_40 ⟨Nat.le_of_ble_eq_true rfl, Nat.le_of_ble_eq_true rfl⟩) (hDa _ _) hS hA (fun n_11 f_12 H locs hw hP hS => ?_)
        refine lv_aload_n hx hb dC_chain_43 rfl (lv_at hl 0 rfl) ?_
        rcases hw with hw | hw
        rotate_left
        · exact ct_xv (vx_runV (As := []) (rest := []) ⟨hx, hb, hml, hown, hts⟩ (metx_C_checkRoomForRule l hl9 dC dI a cA sa n_11 f_12 _ hw) (cwV 0 hts (wb_V wt_274 wt_276 wt_1 wt_27 wt_277) rfl rfl rfl (by decide +kernel) ⟨Nat.le_of_ble_eq_true rfl, Nat.le_of_ble_eq_true rfl⟩) (ct_preV hK hP (hDa _ _) hZ hS hA (va_recv hK hP (ci := 0) (q0 := 0) rfl rfl)) rfl rfl hl.1 rfl (lv_room (Nat.le_of_ble_eq_true rfl)) dC_chain_44 ⟨Nat.le_of_ble_eq_true rfl, Nat.le_of_ble_eq_true rfl⟩) (hDa _ _) hS hA (fun E ce q9 n' f' H locs hw hP hS h1 h2 h3 => by exact vx_out (fun x h => (htb x h).elim) hlocks h1 h2 h3 (fun t ht hvm => ⟨(n', f'), trivial, ⟨hw, ct_mkB ht hP⟩, hS.F ht⟩) hS.2.2 (Nat.le_of_ble_eq_true rfl) (Nat.le_of_ble_eq_true rfl)) (fun _ _ _ _ hw _ _ => False.elim hw)
        refine ct_v (va_runV (As := []) (rest := []) ⟨hx, hb, hml, hown, hts⟩ (met0_C_checkRoomForRule l dC dI a cA sa n_11 f_12 _ hw) (cwV 0 hts (wb_V wt_274 wt_276 wt_1 wt_27 wt_277) rfl rfl rfl (by decide +kernel) ⟨Nat.le_of_ble_eq_true rfl, Nat.le_of_ble_eq_true rfl⟩) (ct_preV hK hP (hDa _ _) hZ hS hA (va_recv hK hP (ci := 0) (q0 := 0) rfl rfl)) rfl rfl hl.1 rfl (lv_room (Nat.le_of_ble_eq_true rfl)) dC_chain_44 ⟨Nat.le_of_ble_eq_true rfl, Nat.le_of_ble_eq_true rfl⟩) (hDa _ _) hS hA (fun n_14 f_15 H locs hw hP hS => ?_)
        refine lv_aload_n hx hb dC_chain_47 rfl (lv_at hl 0 rfl) ?_
        refine va_get (D := (dC, dI)) (ci := 0) (v := .ref (a 2)) (C := RC) (T := TC) (N := 2) hx hb hts (fun w h => List.mem_cons_of_mem _ (inC w h)) hown hK hP 0 rfl rfl 1 (by decide) (hts (.fieldLink RC 21 "CoverTrees" "forest" "LCoverTrees$Forest;") (List.mem_cons_of_mem _ wt_135)) (fun _ h9 => h9) rfl dC_chain_48 ?_
        refine lv_iconst (v := 0) hx hb dC_chain_51 (by decide) ?_
        refine va_put (D := (dC, dI)) (ci := 2) (v := .int 0) (ty := .int) (C := RF) (T := TF) (N := 11) hx hb hts (fun w h => List.mem_cons_of_mem _ (inF w h)) tyF tyF_ok nmF hown hK hP (hDa _ _) hS 2 rfl rfl 1 (by decide) (hts (.fieldLink RC 25 "CoverTrees$Forest" "count" "I") (List.mem_cons_of_mem _ wt_95)) (fun _ h9 => h9) rfl (by decide +kernel) rfl rfl (Nat.le_of_ble_eq_true rfl) dC_chain_52 (fun H locs hP _ hS => ?_)
        obtain ⟨n_16, en_16⟩ : ∃ z : ctN, z = va_up n_14 2 0 := ⟨_, rfl⟩
        have hw := hw n_16 en_16
        have hP : va_P (dC, dI) vcl (ctW a cA n_16 f_15) H := by rw [en_16]; exact hP
        refine lv_aload_n hx hb dC_chain_55 rfl (lv_at hl 0 rfl) ?_
        refine va_get (D := (dC, dI)) (ci := 0) (v := .ref (a 1)) (C := RC) (T := TC) (N := 2) hx hb hts (fun w h => List.mem_cons_of_mem _ (inC w h)) hown hK hP 0 rfl rfl 0 (by decide) (hts (.fieldLink RC 12 "CoverTrees" "grammar" "LCoverTrees$Grammar;") (List.mem_cons_of_mem _ wt_134)) (fun _ h9 => h9) rfl dC_chain_56 ?_
        refine lv_iload_n hx hb dC_chain_59 rfl (lv_at hl 1 rfl) ?_
        refine lv_iconst (v := (-1)) hx hb dC_chain_60 (by decide) ?_
        refine lv_iload_n hx hb dC_chain_61 rfl (lv_at hl 2 rfl) ?_
        refine lv_iconst (v := 0) hx hb dC_chain_62 (by decide) ?_
        refine lv_iload_n hx hb dC_chain_63 rfl (lv_at hl 3 rfl) ?_
        refine ct_i (va_runV (As := [.int p1, .int (-1), .int p2, .int 0, .int p3]) (rest := []) ⟨hx, hb, hml, hown, hts⟩ (met_G_addRule l dC dI a cA sa p1 (-1) p2 0 p3 n_16 f_15 _ hw) (cwV 5 hts (wb_V wt_279 wt_280 wt_281 wt_28 wt_282) rfl rfl rfl (by decide +kernel) ⟨Nat.le_of_ble_eq_true rfl, Nat.le_of_ble_eq_true rfl⟩) (ct_preV hK hP (hDa _ _) hZ hS hA (va_recv hK hP (ci := 1) (q0 := 1) rfl rfl)) rfl rfl hl.1 rfl (lv_room (Nat.le_of_ble_eq_true rfl)) dC_chain_64 ⟨Nat.le_of_ble_eq_true rfl, Nat.le_of_ble_eq_true rfl⟩) (hDa _ _) hS hA (fun r17 n_18 f_19 H locs hw hP hS => ?_)
        exact False.elim hw
      · have hw := hw.2 c9
        exact vx_throwS (own := RC) (cls := "java/lang/IllegalArgumentException") (text := "both goals are one") (names := ["java/lang/RuntimeException", "java/lang/Exception"]) (ik := 35) (is := 79) (ic := 39) (sa := sa 7) hx hb hl9 hown (by decide +kernel) (by decide +kernel) (hts (.classLink RC 35 "java/lang/IllegalArgumentException") (List.mem_cons_of_mem _ wt_166)) (hts (.initialized "java/lang/IllegalArgumentException") (List.mem_cons_of_mem _ wt_34)) hZ.2.2.2.2.2.2.2.2.2.2.2.2.2.2.2.2.2.1 (vx_hat (L := vx_atS RC 39 "java/lang/IllegalArgumentException" ["java/lang/RuntimeException", "java/lang/Exception"]) (B := [.castable "java/lang/IllegalArgumentException" "java/lang/IllegalArgumentException", .declares ⟨"java/lang/RuntimeException", "<init>", "(Ljava/lang/String;)V"⟩, .declares ⟨"java/lang/Exception", "<init>", "(Ljava/lang/String;)V"⟩, .declares ⟨"java/lang/Throwable", "<init>", "(Ljava/lang/String;)V"⟩]) (fun w hw => hts w (List.mem_cons_of_mem _ (at_C_39 w hw))) bd_C_39 (vx_c (va_Nw.use rfl hZ.2.1) (vx_c (va_Nw.use rfl hZ.2.2.2.2.1) (vx_c (va_Nw.use rfl hZ.2.2.2.2.2.1) (vx_c (va_Nw.use rfl hZ.2.2.2.2.2.2.1) (vx_n)))))) gd_C_39 hZ.2.2.2.2.2.2.2.2.2.2.2.2.2.2.2.2.2.2.2.2.2.2.2.2.2.2.1 hZ.2.2.2.2.2.2.2.2.2.2.2.2.2.2.2.2.2.2.2.2.2.2.2.2.2.2.2 hS (hl.1.trans hml.symm) dC_chain_29 dC_chain_32 dC_chain_33 dC_chain_35 dC_chain_38 (fun x h => (htb x h).elim) (Nat.le_of_ble_eq_true rfl) (Nat.le_of_ble_eq_true rfl) (Nat.le_of_ble_eq_true rfl) (Nat.le_of_ble_eq_true rfl) hlocks (fun t _ h1 h2 => ⟨(n_6, f_7), trivial, ⟨hw, (ct_thr hP hS h1 h2).1⟩, (ct_thr hP hS h1 h2).2⟩) hS.2.2 (Nat.le_of_ble_eq_true rfl) (Nat.le_of_ble_eq_true rfl)
    · have hw := hw.2 c8
      exact vx_throwS (own := RC) (cls := "java/lang/IllegalArgumentException") (text := "no such goal") (names := ["java/lang/RuntimeException", "java/lang/Exception"]) (ik := 35) (is := 77) (ic := 39) (sa := sa 6) hx hb hl9 hown (by decide +kernel) (by decide +kernel) (hts (.classLink RC 35 "java/lang/IllegalArgumentException") (List.mem_cons_of_mem _ wt_166)) (hts (.initialized "java/lang/IllegalArgumentException") (List.mem_cons_of_mem _ wt_34)) hZ.2.2.2.2.2.2.2.2.2.2.2.2.2.2.2.2.1 (vx_hat (L := vx_atS RC 39 "java/lang/IllegalArgumentException" ["java/lang/RuntimeException", "java/lang/Exception"]) (B := [.castable "java/lang/IllegalArgumentException" "java/lang/IllegalArgumentException", .declares ⟨"java/lang/RuntimeException", "<init>", "(Ljava/lang/String;)V"⟩, .declares ⟨"java/lang/Exception", "<init>", "(Ljava/lang/String;)V"⟩, .declares ⟨"java/lang/Throwable", "<init>", "(Ljava/lang/String;)V"⟩]) (fun w hw => hts w (List.mem_cons_of_mem _ (at_C_39 w hw))) bd_C_39 (vx_c (va_Nw.use rfl hZ.2.1) (vx_c (va_Nw.use rfl hZ.2.2.2.2.1) (vx_c (va_Nw.use rfl hZ.2.2.2.2.2.1) (vx_c (va_Nw.use rfl hZ.2.2.2.2.2.2.1) (vx_n)))))) gd_C_39 hZ.2.2.2.2.2.2.2.2.2.2.2.2.2.2.2.2.2.2.2.2.2.2.2.2.2.2.1 hZ.2.2.2.2.2.2.2.2.2.2.2.2.2.2.2.2.2.2.2.2.2.2.2.2.2.2.2 hS (hl.1.trans hml.symm) dC_chain_14 dC_chain_17 dC_chain_18 dC_chain_20 dC_chain_23 (fun x h => (htb x h).elim) (Nat.le_of_ble_eq_true rfl) (Nat.le_of_ble_eq_true rfl) (Nat.le_of_ble_eq_true rfl) (Nat.le_of_ble_eq_true rfl) hlocks (fun t _ h1 h2 => ⟨(n_6, f_7), trivial, ⟨hw, (ct_thr hP hS h1 h2).1⟩, (ct_thr hP hS h1 h2).2⟩) hS.2.2 (Nat.le_of_ble_eq_true rfl) (Nat.le_of_ble_eq_true rfl)
def wp_C_node_J125 (post : Int32 → ctN → ctF → Prop) (xp : String → ctN → ctF → Prop) (s0 : Int32) (s1 : Int32) (s2 : Int32) (n : ctN) (f : ctF) : Prop := wp_F_draft (fun (n_13 : ctN) (f_14 : ctF) => wp_F_draftIsTooDear (fun (r15 : Int32) (n_16 : ctN) (f_17 : ctF) => (r15 = 0 → (wp_F_keepDraft (fun (r19 : Int32) (n_20 : ctN) (f_21 : ctF) => post r19 n_20 f_21) n_16 f_17)) ∧ (¬ r15 = 0 → (xp "java/lang/UnsupportedOperationException" n_16 f_17))) n_13 f_14) s2 s1 s0 n f
def wp_C_node_J114 (post : Int32 → ctN → ctF → Prop) (xp : String → ctN → ctF → Prop) (x3 : Int32) (x4 : Int32) (s0 : Int32) (s1 : Int32) (n : ctN) (f : ctF) : Prop := (x4 < 2 → (wp_C_node_J125 post xp 0 s0 s1 n f)) ∧ (¬ x4 < 2 → (wp_C_node_J125 post xp x3 s0 s1 n f))
def wp_C_node_J76 (post : Int32 → ctN → ctF → Prop) (xp : String → ctN → ctF → Prop) (x1 : Int32) (x2 : Int32) (x3 : Int32) (x4 : Int32) (n : ctN) (f : ctF) : Prop := ((n 2) < 120 → ((x4 < 1 → (wp_C_node_J114 post xp x3 x4 0 x1 n f)) ∧ (¬ x4 < 1 → (wp_C_node_J114 post xp x3 x4 x2 x1 n f)))) ∧ (¬ (n 2) < 120 → (xp "java/lang/UnsupportedOperationException" n f))
def wp_C_node_J49 (post : Int32 → ctN → ctF → Prop) (xp : String → ctN → ctF → Prop) (x1 : Int32) (x2 : Int32) (x3 : Int32) (x4 : Int32) (n : ctN) (f : ctF) : Prop := (x4 < 2 → (wp_C_node_J76 post xp x1 x2 x3 x4 n f)) ∧ (¬ x4 < 2 → (wp_F_has (fun (r22 : Int32) (n_23 : ctN) (f_24 : ctF) => (¬ r22 = 0 → (wp_C_node_J76 post xp x1 x2 x3 x4 n_23 f_24)) ∧ (r22 = 0 → (xp "java/lang/IllegalArgumentException" n_23 f_24))) x3 n f))
def wp_C_node (post : Int32 → ctN → ctF → Prop) (xp : String → ctN → ctF → Prop) (p1 : Int32) (p2 : Int32) (p3 : Int32) (n : ctN) (f : ctF) : Prop := wp_G_hasOperator (fun (r1 : Int32) (n_2 : ctN) (f_3 : ctF) => (¬ r1 = 0 → (vp_in p1 10 ∧ (∀ x4_6 : Int32, x4_6 = (f_3 3 p1.toNatClampNeg) → ((x4_6 < 1 → (wp_C_node_J49 post xp p1 p2 p3 x4_6 n_2 f_3)) ∧ (¬ x4_6 < 1 → (wp_F_has (fun (r26 : Int32) (n_27 : ctN) (f_28 : ctF) => (r26 = 0 → (xp "java/lang/IllegalArgumentException" n_27 f_28)) ∧ (¬ r26 = 0 → (wp_C_node_J49 post xp p1 p2 p3 x4_6 n_27 f_28))) p2 n_2 f_3)))))) ∧ (r1 = 0 → (xp "java/lang/IllegalArgumentException" n_2 f_3))) p1 n f
set_option maxHeartbeats 4000000 in
set_option maxRecDepth 100000 in
theorem met0_C_node (l : Launch) (dC : Nat → ClassId) (dI : Nat → Nat → Nat) (a : Nat → Nat) (cA : Nat → ClassId) (sa : Nat → Nat) (p1 : Int32) (p2 : Int32) (p3 : Int32) (n : ctN) (f : ctF) (sz : Nat) {post : Int32 → ctN → ctF → Prop} (hw : wp_C_node post xF p1 p2 p3 n f) : Met l yC_node wsC_node ({ frames := 6, cells := 0, slots := 0, locals := 112 } : Room) (ct_Pc dC dI a cA sa [.ref (a 0), .int p1, .int p2, .int p3] n f sz) (va_Qi (fun (r : Int32) (u : ctN × ctF) => post r u.1 u.2) (ct_B dC dI a cA) (va_A (ctW a cA n f) sz)) 0 0 (va_A (ctW a cA n f) sz) := by
  refine Met.ofW (cc := cC_node) (maxL := 5) (ret := (some .int)) (by decide) rfl ?_
  intro p e s m args below meth c s₁ B hml hv
  obtain ⟨rfl, hsz, hP, hK, hD0, hZ⟩ := hv
  have hx := B.exec
  have hb := B.bytes
  have hr := B.returns
  have hts := atoms_spec (ws := wsC_node) B.pre
  have hown : s.vm.findClass RC = some m.cls := findClass_of_methodNamed B.named
  have hlocks := B.notSynchronized
  subst hsz
  have hD := hD0.self (sz := s.heap.size)
  generalize hAe : va_A (ctW a cA n f) s.heap.size = A at hD hZ ⊢
  have hDa : ∀ (n : ctN) (f : ctF), va_D A (ctW a cA n f) := fun _ _ => ct_D hD
  have hA : ∀ q : Nat, s.heap.size ≤ q → A q := fun q h => by rw [← hAe]; exact Or.inr h
  have hS : va_S A s.heap s.heap [] := va_S.rf
  have hl := lv_entry ([.ref (a 0), .int p1, .int p2, .int p3]) (n := 5) (Nat.le_of_ble_eq_true rfl)
  rw [lg_entry_eq]
  generalize (lg_sl ([.ref (a 0), .int p1, .int p2, .int p3]) ++ List.replicate (5 - (lg_sl ([.ref (a 0), .int p1, .int p2, .int p3])).length) Slot.unset).toArray = ls at hl ⊢
  have hl : lv_has ls 5 [(0, .ref (a 0)), (1, .int p1), (2, .int p2), (3, .int p3)] := hl
  unfold wp_C_node at hw
  have join_125 : ∀ (s0 s1 s2 : Int32) (n : ctN) (f : ctF) (H : Heap) (locs : List Loc) (ls : Array Slot), wp_C_node_J125 post xF s0 s1 s2 n f → va_P (dC, dI) vcl (ctW a cA n f) H → va_S A s.heap H locs → lv_has ls 5 [(0, .ref (a 0))] → W p l e (headSpec wsC_node ({ frames := 6, cells := 0, slots := 0, locals := 112 } : Room)).room s m (([.ref (a 0), .int p1, .int p2, .int p3] : List Value).toArray) below meth c H locs 0 0 (MQ below (va_Qi (fun (r : Int32) (u : ctN × ctF) => post r u.1 u.2) (ct_B dC dI a cA) A) (([.ref (a 0), .int p1, .int p2, .int p3] : List Value).toArray) s 0 0 A) (F0 m 125 ls [.int s0, .int s1, .int s2, .ref (a 2)]) := by
    intro s0 s1 s2 n f H locs ls hw hP hS hl
    unfold wp_C_node_J125 at hw
    refine ct_v (va_runV (As := [.int s2, .int s1, .int s0]) (rest := []) ⟨hx, hb, hml, hown, hts⟩ (met_F_draft l dC dI a cA sa s2 s1 s0 n f _ hw) (cwV 3 hts (wb_V wt_306 wt_307 wt_308 wt_29 wt_309) rfl rfl rfl (by decide +kernel) ⟨Nat.le_of_ble_eq_true rfl, Nat.le_of_ble_eq_true rfl⟩) (ct_preV hK hP (hDa _ _) hZ hS hA (va_recv hK hP (ci := 2) (q0 := 2) rfl rfl)) rfl rfl hl.1 rfl (lv_room (Nat.le_of_ble_eq_true rfl)) dC_node_125 ⟨Nat.le_of_ble_eq_true rfl, Nat.le_of_ble_eq_true rfl⟩) (hDa _ _) hS hA (fun n_13 f_14 H locs hw hP hS => ?_)
    refine lv_aload_n hx hb dC_node_128 rfl (lv_at hl 0 rfl) ?_
    refine va_get (D := (dC, dI)) (ci := 0) (v := .ref (a 2)) (C := RC) (T := TC) (N := 2) hx hb hts (fun w h => List.mem_cons_of_mem _ (inC w h)) hown hK hP 0 rfl rfl 1 (by decide) (hts (.fieldLink RC 21 "CoverTrees" "forest" "LCoverTrees$Forest;") (List.mem_cons_of_mem _ wt_135)) (fun _ h9 => h9) rfl dC_node_129 ?_
    refine ct_i (va_runV (As := []) (rest := []) ⟨hx, hb, hml, hown, hts⟩ (met_F_draftIsTooDear l dC dI a cA sa n_13 f_14 _ hw) (cwV 0 hts (wb_V wt_352 wt_353 wt_354 wt_29 wt_355) rfl rfl rfl (by decide +kernel) ⟨Nat.le_of_ble_eq_true rfl, Nat.le_of_ble_eq_true rfl⟩) (ct_preV hK hP (hDa _ _) hZ hS hA (va_recv hK hP (ci := 2) (q0 := 2) rfl rfl)) rfl rfl hl.1 rfl (lv_room (Nat.le_of_ble_eq_true rfl)) dC_node_132 ⟨Nat.le_of_ble_eq_true rfl, Nat.le_of_ble_eq_true rfl⟩) (hDa _ _) hS hA (fun r15 n_16 f_17 H locs hw hP hS => ?_)
    refine lv_if_eq (tgt := 148) hx hb dC_node_135 (by decide) (fun c18 => ?_) (fun c18 => ?_)
    · have hw := hw.1 c18
      refine lv_aload_n hx hb dC_node_148 rfl (lv_at hl 0 rfl) ?_
      refine va_get (D := (dC, dI)) (ci := 0) (v := .ref (a 2)) (C := RC) (T := TC) (N := 2) hx hb hts (fun w h => List.mem_cons_of_mem _ (inC w h)) hown hK hP 0 rfl rfl 1 (by decide) (hts (.fieldLink RC 21 "CoverTrees" "forest" "LCoverTrees$Forest;") (List.mem_cons_of_mem _ wt_135)) (fun _ h9 => h9) rfl dC_node_149 ?_
      refine ct_i (va_runV (As := []) (rest := []) ⟨hx, hb, hml, hown, hts⟩ (met_F_keepDraft l dC dI a cA sa n_16 f_17 _ hw) (cwV 0 hts (wb_V wt_358 wt_359 wt_360 wt_29 wt_361) rfl rfl rfl (by decide +kernel) ⟨Nat.le_of_ble_eq_true rfl, Nat.le_of_ble_eq_true rfl⟩) (ct_preV hK hP (hDa _ _) hZ hS hA (va_recv hK hP (ci := 2) (q0 := 2) rfl rfl)) rfl rfl hl.1 rfl (lv_room (Nat.le_of_ble_eq_true rfl)) dC_node_152 ⟨Nat.le_of_ble_eq_true rfl, Nat.le_of_ble_eq_true rfl⟩) (hDa _ _) hS hA (fun r19 n_20 f_21 H locs hw hP hS => ?_)
      exact W.iret (v := r19) hx hb hr (fun t ht hW => ⟨⟨r19, (n_20, f_21), rfl, hw, ct_mkB ht hP⟩, hS.F ht⟩) hS.2.2 dC_node_155
    · have hw := hw.2 c18
      exact False.elim hw
  have join_114 : ∀ (x3 x4 s0 s1 : Int32) (n : ctN) (f : ctF) (H : Heap) (locs : List Loc) (ls : Array Slot), wp_C_node_J114 post xF x3 x4 s0 s1 n f → va_P (dC, dI) vcl (ctW a cA n f) H → va_S A s.heap H locs → lv_has ls 5 [(0, .ref (a 0)), (3, .int x3), (4, .int x4)] → W p l e (headSpec wsC_node ({ frames := 6, cells := 0, slots := 0, locals := 112 } : Room)).room s m (([.ref (a 0), .int p1, .int p2, .int p3] : List Value).toArray) below meth c H locs 0 0 (MQ below (va_Qi (fun (r : Int32) (u : ctN × ctF) => post r u.1 u.2) (ct_B dC dI a cA) A) (([.ref (a 0), .int p1, .int p2, .int p3] : List Value).toArray) s 0 0 A) (F0 m 114 ls [.int s0, .int s1, .ref (a 2)]) := by
    intro x3 x4 s0 s1 n f H locs ls hw hP hS hl
    unfold wp_C_node_J114 at hw
    refine lv_iload hx hb dC_node_114 (lv_at hl 2 rfl) ?_
    refine lv_iconst (v := 2) hx hb dC_node_116 (by decide) ?_
    refine lv_icmp_lt (tgt := 124) hx hb dC_node_117 (by decide) (fun c11 => ?_) (fun c11 => ?_)
    · have hw := hw.1 c11
      refine lv_iconst (v := 0) hx hb dC_node_124 (by decide) ?_
      exact join_125 0 s0 s1 n f _ _ ls hw hP hS (lv_sub hl [0] rfl)
    · have hw := hw.2 c11
      refine lv_iload_n hx hb dC_node_120 rfl (lv_at hl 1 rfl) ?_
      refine lv_goto (tgt := 125) hx hb dC_node_121 (by decide) ?_
      exact join_125 x3 s0 s1 n f _ _ ls hw hP hS (lv_sub hl [0] rfl)
  have join_76 : ∀ (x1 x2 x3 x4 : Int32) (n : ctN) (f : ctF) (H : Heap) (locs : List Loc) (ls : Array Slot), wp_C_node_J76 post xF x1 x2 x3 x4 n f → va_P (dC, dI) vcl (ctW a cA n f) H → va_S A s.heap H locs → lv_has ls 5 [(0, .ref (a 0)), (1, .int x1), (2, .int x2), (3, .int x3), (4, .int x4)] → W p l e (headSpec wsC_node ({ frames := 6, cells := 0, slots := 0, locals := 112 } : Room)).room s m (([.ref (a 0), .int p1, .int p2, .int p3] : List Value).toArray) below meth c H locs 0 0 (MQ below (va_Qi (fun (r : Int32) (u : ctN × ctF) => post r u.1 u.2) (ct_B dC dI a cA) A) (([.ref (a 0), .int p1, .int p2, .int p3] : List Value).toArray) s 0 0 A) (F0 m 76 ls []) := by
    intro x1 x2 x3 x4 n f H locs ls hw hP hS hl
    unfold wp_C_node_J76 at hw
    refine lv_aload_n hx hb dC_node_76 rfl (lv_at hl 0 rfl) ?_
    refine va_get (D := (dC, dI)) (ci := 0) (v := .ref (a 2)) (C := RC) (T := TC) (N := 2) hx hb hts (fun w h => List.mem_cons_of_mem _ (inC w h)) hown hK hP 0 rfl rfl 1 (by decide) (hts (.fieldLink RC 21 "CoverTrees" "forest" "LCoverTrees$Forest;") (List.mem_cons_of_mem _ wt_135)) (fun _ h9 => h9) rfl dC_node_77 ?_
    refine va_get (D := (dC, dI)) (ci := 2) (v := .int (n 2)) (C := RF) (T := TF) (N := 11) hx hb hts (fun w h => List.mem_cons_of_mem _ (inF w h)) hown hK hP 2 rfl rfl 1 (by decide) (hts (.fieldLink RC 25 "CoverTrees$Forest" "count" "I") (List.mem_cons_of_mem _ wt_95)) (fun _ h9 => h9) rfl dC_node_80 ?_
    refine lv_bipush (v := 120) hx hb dC_node_83 (by decide) ?_
    refine lv_icmp_lt (tgt := 98) hx hb dC_node_85 (by decide) (fun c9 => ?_) (fun c9 => ?_)
    · have hw := hw.1 c9
      refine lv_aload_n hx hb dC_node_98 rfl (lv_at hl 0 rfl) ?_
      refine va_get (D := (dC, dI)) (ci := 0) (v := .ref (a 2)) (C := RC) (T := TC) (N := 2) hx hb hts (fun w h => List.mem_cons_of_mem _ (inC w h)) hown hK hP 0 rfl rfl 1 (by decide) (hts (.fieldLink RC 21 "CoverTrees" "forest" "LCoverTrees$Forest;") (List.mem_cons_of_mem _ wt_135)) (fun _ h9 => h9) rfl dC_node_99 ?_
      refine lv_iload_n hx hb dC_node_102 rfl (lv_at hl 1 rfl) ?_
      refine lv_iload hx hb dC_node_103 (lv_at hl 4 rfl) ?_
      refine lv_iconst (v := 1) hx hb dC_node_105 (by decide) ?_
      refine lv_icmp_lt (tgt := 113) hx hb dC_node_106 (by decide) (fun c10 => ?_) (fun c10 => ?_)
      · have hw := hw.1 c10
        refine lv_iconst (v := 0) hx hb dC_node_113 (by decide) ?_
        exact join_114 x3 x4 0 x1 n f _ _ ls hw hP hS (lv_sub hl [0, 3, 4] rfl)
      · have hw := hw.2 c10
        refine lv_iload_n hx hb dC_node_109 rfl (lv_at hl 2 rfl) ?_
        refine lv_goto (tgt := 114) hx hb dC_node_110 (by decide) ?_
        exact join_114 x3 x4 x2 x1 n f _ _ ls hw hP hS (lv_sub hl [0, 3, 4] rfl)
    · have hw := hw.2 c9
      exact False.elim hw
  have join_49 : ∀ (x1 x2 x3 x4 : Int32) (n : ctN) (f : ctF) (H : Heap) (locs : List Loc) (ls : Array Slot), wp_C_node_J49 post xF x1 x2 x3 x4 n f → va_P (dC, dI) vcl (ctW a cA n f) H → va_S A s.heap H locs → lv_has ls 5 [(0, .ref (a 0)), (1, .int x1), (2, .int x2), (3, .int x3), (4, .int x4)] → W p l e (headSpec wsC_node ({ frames := 6, cells := 0, slots := 0, locals := 112 } : Room)).room s m (([.ref (a 0), .int p1, .int p2, .int p3] : List Value).toArray) below meth c H locs 0 0 (MQ below (va_Qi (fun (r : Int32) (u : ctN × ctF) => post r u.1 u.2) (ct_B dC dI a cA) A) (([.ref (a 0), .int p1, .int p2, .int p3] : List Value).toArray) s 0 0 A) (F0 m 49 ls []) := by
    intro x1 x2 x3 x4 n f H locs ls hw hP hS hl
    unfold wp_C_node_J49 at hw
    refine lv_iload hx hb dC_node_49 (lv_at hl 4 rfl) ?_
    refine lv_iconst (v := 2) hx hb dC_node_51 (by decide) ?_
    refine lv_icmp_lt (tgt := 76) hx hb dC_node_52 (by decide) (fun c8 => ?_) (fun c8 => ?_)
    · have hw := hw.1 c8
      exact join_76 x1 x2 x3 x4 n f _ _ ls hw hP hS (lv_sub hl [0, 1, 2, 3, 4] rfl)
    · have hw := hw.2 c8
      refine lv_aload_n hx hb dC_node_55 rfl (lv_at hl 0 rfl) ?_
      refine va_get (D := (dC, dI)) (ci := 0) (v := .ref (a 2)) (C := RC) (T := TC) (N := 2) hx hb hts (fun w h => List.mem_cons_of_mem _ (inC w h)) hown hK hP 0 rfl rfl 1 (by decide) (hts (.fieldLink RC 21 "CoverTrees" "forest" "LCoverTrees$Forest;") (List.mem_cons_of_mem _ wt_135)) (fun _ h9 => h9) rfl dC_node_56 ?_
      refine lv_iload_n hx hb dC_node_59 rfl (lv_at hl 3 rfl) ?_
      refine ct_i (va_runV (As := [.int x3]) (rest := []) ⟨hx, hb, hml, hown, hts⟩ (met_F_has l dC dI a cA sa x3 n f _ hw) (cwV 1 hts (wb_V wt_300 wt_301 wt_302 wt_29 wt_303) rfl rfl rfl (by decide +kernel) ⟨Nat.le_of_ble_eq_true rfl, Nat.le_of_ble_eq_true rfl⟩) (ct_preV hK hP (hDa _ _) hZ hS hA (va_recv hK hP (ci := 2) (q0 := 2) rfl rfl)) rfl rfl hl.1 rfl (lv_room (Nat.le_of_ble_eq_true rfl)) dC_node_60 ⟨Nat.le_of_ble_eq_true rfl, Nat.le_of_ble_eq_true rfl⟩) (hDa _ _) hS hA (fun r22 n_23 f_24 H locs hw hP hS => ?_)
      refine lv_if_ne (tgt := 76) hx hb dC_node_63 (by decide) (fun c25 => ?_) (fun c25 => ?_)
      · have hw := hw.1 c25
        exact join_76 x1 x2 x3 x4 n_23 f_24 _ _ ls hw hP hS (lv_sub hl [0, 1, 2, 3, 4] rfl)
      · have hw := hw.2 c25
        exact False.elim hw
  refine lv_aload_n hx hb dC_node_0 rfl (lv_at hl 0 rfl) ?_
  refine va_get (D := (dC, dI)) (ci := 0) (v := .ref (a 1)) (C := RC) (T := TC) (N := 2) hx hb hts (fun w h => List.mem_cons_of_mem _ (inC w h)) hown hK hP 0 rfl rfl 0 (by decide) (hts (.fieldLink RC 12 "CoverTrees" "grammar" "LCoverTrees$Grammar;") (List.mem_cons_of_mem _ wt_134)) (fun _ h9 => h9) rfl dC_node_1 ?_
  refine lv_iload_n hx hb dC_node_4 rfl (lv_at hl 1 rfl) ?_
  refine ct_i (va_runV (As := [.int p1]) (rest := []) ⟨hx, hb, hml, hown, hts⟩ (met_G_hasOperator l dC dI a cA sa p1 n f _ hw) (cwV 1 hts (wb_V wt_264 wt_265 wt_266 wt_28 wt_267) rfl rfl rfl (by decide +kernel) ⟨Nat.le_of_ble_eq_true rfl, Nat.le_of_ble_eq_true rfl⟩) (ct_preV hK hP (hDa _ _) hZ hS hA (va_recv hK hP (ci := 1) (q0 := 1) rfl rfl)) rfl rfl hl.1 rfl (lv_room (Nat.le_of_ble_eq_true rfl)) dC_node_5 ⟨Nat.le_of_ble_eq_true rfl, Nat.le_of_ble_eq_true rfl⟩) (hDa _ _) hS hA (fun r1 n_2 f_3 H locs hw hP hS => ?_)
  refine lv_if_ne (tgt := 21) hx hb dC_node_8 (by decide) (fun c4 => ?_) (fun c4 => ?_)
  · have hw := hw.1 c4
    refine lv_aload_n hx hb dC_node_21 rfl (lv_at hl 0 rfl) ?_
    refine va_get (D := (dC, dI)) (ci := 0) (v := .ref (a 1)) (C := RC) (T := TC) (N := 2) hx hb hts (fun w h => List.mem_cons_of_mem _ (inC w h)) hown hK hP 0 rfl rfl 0 (by decide) (hts (.fieldLink RC 12 "CoverTrees" "grammar" "LCoverTrees$Grammar;") (List.mem_cons_of_mem _ wt_134)) (fun _ h9 => h9) rfl dC_node_22 ?_
    refine va_get (D := (dC, dI)) (ci := 1) (v := .ref (a 3)) (C := RG) (T := TG) (N := 8) hx hb hts (fun w h => List.mem_cons_of_mem _ (inG w h)) hown hK hP 1 rfl rfl 1 (by decide) (hts (.fieldLink RC 60 "CoverTrees$Grammar" "parts" "[I") (List.mem_cons_of_mem _ wt_55)) (fun _ h9 => h9) rfl dC_node_25 ?_
    refine lv_iload_n hx hb dC_node_28 rfl (lv_at hl 1 rfl) ?_
    obtain ⟨hi5, hw⟩ := hw
    refine va_iald hx hb hK hP 3 0 rfl rfl hi5 dC_node_29 ?_
    refine lv_topi (fun x4_6 ex4_6 => ?_)
    have hw := hw x4_6 ex4_6
    refine lv_istore (lv' := [(4, .int x4_6), (0, .ref (a 0)), (1, .int p1), (2, .int p2), (3, .int p3)]) hx hb dC_node_30 hl (by decide) rfl (fun ls hl => ?_)
    refine lv_iload hx hb dC_node_32 (lv_at hl 0 rfl) ?_
    refine lv_iconst (v := 1) hx hb dC_node_34 (by decide) ?_
    refine lv_icmp_lt (tgt := 49) hx hb dC_node_35 (by decide) (fun c7 => ?_) (fun c7 => ?_)
    · have hw := hw.1 c7
      exact join_49 p1 p2 p3 x4_6 n_2 f_3 _ _ ls hw hP hS (lv_sub hl [1, 2, 3, 4, 0] rfl)
    · have hw := hw.2 c7
      refine lv_aload_n hx hb dC_node_38 rfl (lv_at hl 1 rfl) ?_
      refine va_get (D := (dC, dI)) (ci := 0) (v := .ref (a 2)) (C := RC) (T := TC) (N := 2) hx hb hts (fun w h => List.mem_cons_of_mem _ (inC w h)) hown hK hP 0 rfl rfl 1 (by decide) (hts (.fieldLink RC 21 "CoverTrees" "forest" "LCoverTrees$Forest;") (List.mem_cons_of_mem _ wt_135)) (fun _ h9 => h9) rfl dC_node_39 ?_
      refine lv_iload_n hx hb dC_node_42 rfl (lv_at hl 3 rfl) ?_
      refine ct_i (va_runV (As := [.int p2]) (rest := []) ⟨hx, hb, hml, hown, hts⟩ (met_F_has l dC dI a cA sa p2 n_2 f_3 _ hw) (cwV 1 hts (wb_V wt_300 wt_301 wt_302 wt_29 wt_303) rfl rfl rfl (by decide +kernel) ⟨Nat.le_of_ble_eq_true rfl, Nat.le_of_ble_eq_true rfl⟩) (ct_preV hK hP (hDa _ _) hZ hS hA (va_recv hK hP (ci := 2) (q0 := 2) rfl rfl)) rfl rfl hl.1 rfl (lv_room (Nat.le_of_ble_eq_true rfl)) dC_node_43 ⟨Nat.le_of_ble_eq_true rfl, Nat.le_of_ble_eq_true rfl⟩) (hDa _ _) hS hA (fun r26 n_27 f_28 H locs hw hP hS => ?_)
      refine lv_if_eq (tgt := 66) hx hb dC_node_46 (by decide) (fun c29 => ?_) (fun c29 => ?_)
      · have hw := hw.1 c29
        exact False.elim hw
      · have hw := hw.2 c29
        exact join_49 p1 p2 p3 x4_6 n_27 f_28 _ _ ls hw hP hS (lv_sub hl [1, 2, 3, 4, 0] rfl)
  · have hw := hw.2 c4
    exact False.elim hw
set_option maxHeartbeats 4000000 in
set_option maxRecDepth 100000 in
theorem metx_C_node (l : Launch) (hl9 : l.stackTraces = false) (dC : Nat → ClassId) (dI : Nat → Nat → Nat) (a : Nat → Nat) (cA : Nat → ClassId) (sa : Nat → Nat) (p1 : Int32) (p2 : Int32) (p3 : Int32) (n : ctN) (f : ctF) (sz : Nat) {xp : String → ctN → ctF → Prop} (hw : wp_C_node pFi xp p1 p2 p3 n f) : vx_Met l yC_node wsC_node ({ frames := 6, cells := 1, slots := 6, locals := 112 } : Room) (ct_Pc dC dI a cA sa [.ref (a 0), .int p1, .int p2, .int p3] n f sz) (va_Qi (fun (r : Int32) (u : ctN × ctF) => pFi r u.1 u.2) (ct_B dC dI a cA) (va_A (ctW a cA n f) sz)) (vx_X (fun (_ : ctN × ctF) => True) (fun E u t => xp E u.1 u.2 ∧ ct_B dC dI a cA u t) (va_A (ctW a cA n f) sz)) 1 6 (va_A (ctW a cA n f) sz) := by
  refine vx_ofW (cc := cC_node) (maxL := 5) (ret := (some .int)) (by decide) rfl ?_
  intro p e s m args below meth c s₁ B hml htb hv
  obtain ⟨rfl, hsz, hP, hK, hD0, hZ⟩ := hv
  have hx := B.exec
  have hb := B.bytes
  have hr := B.returns
  have hts := atoms_spec (ws := wsC_node) B.pre
  have hown : s.vm.findClass RC = some m.cls := findClass_of_methodNamed B.named
  have hlocks := B.notSynchronized
  subst hsz
  have hD := hD0.self (sz := s.heap.size)
  generalize hAe : va_A (ctW a cA n f) s.heap.size = A at hD hZ ⊢
  have hDa : ∀ (n : ctN) (f : ctF), va_D A (ctW a cA n f) := fun _ _ => ct_D hD
  have hA : ∀ q : Nat, s.heap.size ≤ q → A q := fun q h => by rw [← hAe]; exact Or.inr h
  have hS : va_S A s.heap s.heap [] := va_S.rf
  have hl := lv_entry ([.ref (a 0), .int p1, .int p2, .int p3]) (n := 5) (Nat.le_of_ble_eq_true rfl)
  rw [lg_entry_eq]
  generalize (lg_sl ([.ref (a 0), .int p1, .int p2, .int p3]) ++ List.replicate (5 - (lg_sl ([.ref (a 0), .int p1, .int p2, .int p3])).length) Slot.unset).toArray = ls at hl ⊢
  have hl : lv_has ls 5 [(0, .ref (a 0)), (1, .int p1), (2, .int p2), (3, .int p3)] := hl
  unfold wp_C_node at hw
  have join_125 : ∀ (s0 s1 s2 : Int32) (n : ctN) (f : ctF) (H : Heap) (locs : List Loc) (ls : Array Slot), wp_C_node_J125 pFi xp s0 s1 s2 n f → va_P (dC, dI) vcl (ctW a cA n f) H → va_S A s.heap H locs → lv_has ls 5 [(0, .ref (a 0))] → W p l e (headSpec wsC_node ({ frames := 6, cells := 1, slots := 6, locals := 112 } : Room)).room s m (([.ref (a 0), .int p1, .int p2, .int p3] : List Value).toArray) below meth c H locs 0 0 (vx_MQ below (va_Qi (fun (r : Int32) (u : ctN × ctF) => pFi r u.1 u.2) (ct_B dC dI a cA) A) (vx_X (fun (_ : ctN × ctF) => True) (fun E u t => xp E u.1 u.2 ∧ ct_B dC dI a cA u t) A) (([.ref (a 0), .int p1, .int p2, .int p3] : List Value).toArray) s 1 6 A) (F0 m 125 ls [.int s0, .int s1, .int s2, .ref (a 2)]) := by
    intro s0 s1 s2 n f H locs ls hw hP hS hl
    unfold wp_C_node_J125 at hw
    refine ct_v (va_runV (As := [.int s2, .int s1, .int s0]) (rest := []) ⟨hx, hb, hml, hown, hts⟩ (met_F_draft l dC dI a cA sa s2 s1 s0 n f _ hw) (cwV 3 hts (wb_V wt_306 wt_307 wt_308 wt_29 wt_309) rfl rfl rfl (by decide +kernel) ⟨Nat.le_of_ble_eq_true rfl, Nat.le_of_ble_eq_true rfl⟩) (ct_preV hK hP (hDa _ _) hZ hS hA (va_recv hK hP (ci := 2) (q0 := 2) rfl rfl)) rfl rfl hl.1 rfl (lv_room (Nat.le_of_ble_eq_true rfl)) dC_node_125 ⟨Nat.le_of_ble_eq_true rfl, Nat.le_of_ble_eq_true rfl⟩) (hDa _ _) hS hA (fun n_13 f_14 H locs hw hP hS => ?_)
    refine lv_aload_n hx hb dC_node_128 rfl (lv_at hl 0 rfl) ?_
    refine va_get (D := (dC, dI)) (ci := 0) (v := .ref (a 2)) (C := RC) (T := TC) (N := 2) hx hb hts (fun w h => List.mem_cons_of_mem _ (inC w h)) hown hK hP 0 rfl rfl 1 (by decide) (hts (.fieldLink RC 21 "CoverTrees" "forest" "LCoverTrees$Forest;") (List.mem_cons_of_mem _ wt_135)) (fun _ h9 => h9) rfl dC_node_129 ?_
    refine ct_i (va_runV (As := []) (rest := []) ⟨hx, hb, hml, hown, hts⟩ (met_F_draftIsTooDear l dC dI a cA sa n_13 f_14 _ hw) (cwV 0 hts (wb_V wt_352 wt_353 wt_354 wt_29 wt_355) rfl rfl rfl (by decide +kernel) ⟨Nat.le_of_ble_eq_true rfl, Nat.le_of_ble_eq_true rfl⟩) (ct_preV hK hP (hDa _ _) hZ hS hA (va_recv hK hP (ci := 2) (q0 := 2) rfl rfl)) rfl rfl hl.1 rfl (lv_room (Nat.le_of_ble_eq_true rfl)) dC_node_132 ⟨Nat.le_of_ble_eq_true rfl, Nat.le_of_ble_eq_true rfl⟩) (hDa _ _) hS hA (fun r15 n_16 f_17 H locs hw hP hS => ?_)
    refine lv_if_eq (tgt := 148) hx hb dC_node_135 (by decide) (fun c18 => ?_) (fun c18 => ?_)
    · have hw := hw.1 c18
      refine lv_aload_n hx hb dC_node_148 rfl (lv_at hl 0 rfl) ?_
      refine va_get (D := (dC, dI)) (ci := 0) (v := .ref (a 2)) (C := RC) (T := TC) (N := 2) hx hb hts (fun w h => List.mem_cons_of_mem _ (inC w h)) hown hK hP 0 rfl rfl 1 (by decide) (hts (.fieldLink RC 21 "CoverTrees" "forest" "LCoverTrees$Forest;") (List.mem_cons_of_mem _ wt_135)) (fun _ h9 => h9) rfl dC_node_149 ?_
      refine ct_i (va_runV (As := []) (rest := []) ⟨hx, hb, hml, hown, hts⟩ (met_F_keepDraft l dC dI a cA sa n_16 f_17 _ hw) (cwV 0 hts (wb_V wt_358 wt_359 wt_360 wt_29 wt_361) rfl rfl rfl (by decide +kernel) ⟨Nat.le_of_ble_eq_true rfl, Nat.le_of_ble_eq_true rfl⟩) (ct_preV hK hP (hDa _ _) hZ hS hA (va_recv hK hP (ci := 2) (q0 := 2) rfl rfl)) rfl rfl hl.1 rfl (lv_room (Nat.le_of_ble_eq_true rfl)) dC_node_152 ⟨Nat.le_of_ble_eq_true rfl, Nat.le_of_ble_eq_true rfl⟩) (hDa _ _) hS hA (fun r19 n_20 f_21 H locs hw hP hS => ?_)
      exact False.elim hw
    · have hw := hw.2 c18
      exact vx_throwS (own := RC) (cls := "java/lang/UnsupportedOperationException") (text := "the node would cost more than 1000000") (names := ["java/lang/RuntimeException", "java/lang/Exception"]) (ik := 42) (is := 98) (ic := 46) (sa := sa 11) hx hb hl9 hown (by decide +kernel) (by decide +kernel) (hts (.classLink RC 42 "java/lang/UnsupportedOperationException") (List.mem_cons_of_mem _ wt_234)) (hts (.initialized "java/lang/UnsupportedOperationException") (List.mem_cons_of_mem _ wt_35)) hZ.2.2.2.2.2.2.2.2.2.2.2.2.2.2.2.2.2.2.2.2.2.1 (vx_hat (L := vx_atS RC 46 "java/lang/UnsupportedOperationException" ["java/lang/RuntimeException", "java/lang/Exception"]) (B := [.castable "java/lang/UnsupportedOperationException" "java/lang/UnsupportedOperationException", .declares ⟨"java/lang/RuntimeException", "<init>", "(Ljava/lang/String;)V"⟩, .declares ⟨"java/lang/Exception", "<init>", "(Ljava/lang/String;)V"⟩, .declares ⟨"java/lang/Throwable", "<init>", "(Ljava/lang/String;)V"⟩]) (fun w hw => hts w (List.mem_cons_of_mem _ (at_C_46 w hw))) bd_C_46 (vx_c (va_Nw.use rfl hZ.2.2.1) (vx_c (va_Nw.use rfl hZ.2.2.2.2.1) (vx_c (va_Nw.use rfl hZ.2.2.2.2.2.1) (vx_c (va_Nw.use rfl hZ.2.2.2.2.2.2.1) (vx_n)))))) gd_C_46 hZ.2.2.2.2.2.2.2.2.2.2.2.2.2.2.2.2.2.2.2.2.2.2.2.2.2.2.1 hZ.2.2.2.2.2.2.2.2.2.2.2.2.2.2.2.2.2.2.2.2.2.2.2.2.2.2.2 hS (hl.1.trans hml.symm) dC_node_138 dC_node_141 dC_node_142 dC_node_144 dC_node_147 (fun x h => (htb x h).elim) (Nat.le_of_ble_eq_true rfl) (Nat.le_of_ble_eq_true rfl) (Nat.le_of_ble_eq_true rfl) (Nat.le_of_ble_eq_true rfl) hlocks (fun t _ h1 h2 => ⟨(n_16, f_17), trivial, ⟨hw, (ct_thr hP hS h1 h2).1⟩, (ct_thr hP hS h1 h2).2⟩) hS.2.2 (Nat.le_of_ble_eq_true rfl) (Nat.le_of_ble_eq_true rfl)
  have join_114 : ∀ (x3 x4 s0 s1 : Int32) (n : ctN) (f : ctF) (H : Heap) (locs : List Loc) (ls : Array Slot), wp_C_node_J114 pFi xp x3 x4 s0 s1 n f → va_P (dC, dI) vcl (ctW a cA n f) H → va_S A s.heap H locs → lv_has ls 5 [(0, .ref (a 0)), (3, .int x3), (4, .int x4)] → W p l e (headSpec wsC_node ({ frames := 6, cells := 1, slots := 6, locals := 112 } : Room)).room s m (([.ref (a 0), .int p1, .int p2, .int p3] : List Value).toArray) below meth c H locs 0 0 (vx_MQ below (va_Qi (fun (r : Int32) (u : ctN × ctF) => pFi r u.1 u.2) (ct_B dC dI a cA) A) (vx_X (fun (_ : ctN × ctF) => True) (fun E u t => xp E u.1 u.2 ∧ ct_B dC dI a cA u t) A) (([.ref (a 0), .int p1, .int p2, .int p3] : List Value).toArray) s 1 6 A) (F0 m 114 ls [.int s0, .int s1, .ref (a 2)]) := by
    intro x3 x4 s0 s1 n f H locs ls hw hP hS hl
    unfold wp_C_node_J114 at hw
    refine lv_iload hx hb dC_node_114 (lv_at hl 2 rfl) ?_
    refine lv_iconst (v := 2) hx hb dC_node_116 (by decide) ?_
    refine lv_icmp_lt (tgt := 124) hx hb dC_node_117 (by decide) (fun c11 => ?_) (fun c11 => ?_)
    · have hw := hw.1 c11
      refine lv_iconst (v := 0) hx hb dC_node_124 (by decide) ?_
      exact join_125 0 s0 s1 n f _ _ ls hw hP hS (lv_sub hl [0] rfl)
    · have hw := hw.2 c11
      refine lv_iload_n hx hb dC_node_120 rfl (lv_at hl 1 rfl) ?_
      refine lv_goto (tgt := 125) hx hb dC_node_121 (by decide) ?_
      exact join_125 x3 s0 s1 n f _ _ ls hw hP hS (lv_sub hl [0] rfl)
  have join_76 : ∀ (x1 x2 x3 x4 : Int32) (n : ctN) (f : ctF) (H : Heap) (locs : List Loc) (ls : Array Slot), wp_C_node_J76 pFi xp x1 x2 x3 x4 n f → va_P (dC, dI) vcl (ctW a cA n f) H → va_S A s.heap H locs → lv_has ls 5 [(0, .ref (a 0)), (1, .int x1), (2, .int x2), (3, .int x3), (4, .int x4)] → W p l e (headSpec wsC_node ({ frames := 6, cells := 1, slots := 6, locals := 112 } : Room)).room s m (([.ref (a 0), .int p1, .int p2, .int p3] : List Value).toArray) below meth c H locs 0 0 (vx_MQ below (va_Qi (fun (r : Int32) (u : ctN × ctF) => pFi r u.1 u.2) (ct_B dC dI a cA) A) (vx_X (fun (_ : ctN × ctF) => True) (fun E u t => xp E u.1 u.2 ∧ ct_B dC dI a cA u t) A) (([.ref (a 0), .int p1, .int p2, .int p3] : List Value).toArray) s 1 6 A) (F0 m 76 ls []) := by
    intro x1 x2 x3 x4 n f H locs ls hw hP hS hl
    unfold wp_C_node_J76 at hw
    refine lv_aload_n hx hb dC_node_76 rfl (lv_at hl 0 rfl) ?_
    refine va_get (D := (dC, dI)) (ci := 0) (v := .ref (a 2)) (C := RC) (T := TC) (N := 2) hx hb hts (fun w h => List.mem_cons_of_mem _ (inC w h)) hown hK hP 0 rfl rfl 1 (by decide) (hts (.fieldLink RC 21 "CoverTrees" "forest" "LCoverTrees$Forest;") (List.mem_cons_of_mem _ wt_135)) (fun _ h9 => h9) rfl dC_node_77 ?_
    refine va_get (D := (dC, dI)) (ci := 2) (v := .int (n 2)) (C := RF) (T := TF) (N := 11) hx hb hts (fun w h => List.mem_cons_of_mem _ (inF w h)) hown hK hP 2 rfl rfl 1 (by decide) (hts (.fieldLink RC 25 "CoverTrees$Forest" "count" "I") (List.mem_cons_of_mem _ wt_95)) (fun _ h9 => h9) rfl dC_node_80 ?_
    refine lv_bipush (v := 120) hx hb dC_node_83 (by decide) ?_
    refine lv_icmp_lt (tgt := 98) hx hb dC_node_85 (by decide) (fun c9 => ?_) (fun c9 => ?_)
    · have hw := hw.1 c9
      refine lv_aload_n hx hb dC_node_98 rfl (lv_at hl 0 rfl) ?_
      refine va_get (D := (dC, dI)) (ci := 0) (v := .ref (a 2)) (C := RC) (T := TC) (N := 2) hx hb hts (fun w h => List.mem_cons_of_mem _ (inC w h)) hown hK hP 0 rfl rfl 1 (by decide) (hts (.fieldLink RC 21 "CoverTrees" "forest" "LCoverTrees$Forest;") (List.mem_cons_of_mem _ wt_135)) (fun _ h9 => h9) rfl dC_node_99 ?_
      refine lv_iload_n hx hb dC_node_102 rfl (lv_at hl 1 rfl) ?_
      refine lv_iload hx hb dC_node_103 (lv_at hl 4 rfl) ?_
      refine lv_iconst (v := 1) hx hb dC_node_105 (by decide) ?_
      refine lv_icmp_lt (tgt := 113) hx hb dC_node_106 (by decide) (fun c10 => ?_) (fun c10 => ?_)
      · have hw := hw.1 c10
        refine lv_iconst (v := 0) hx hb dC_node_113 (by decide) ?_
        exact join_114 x3 x4 0 x1 n f _ _ ls hw hP hS (lv_sub hl [0, 3, 4] rfl)
      · have hw := hw.2 c10
        refine lv_iload_n hx hb dC_node_109 rfl (lv_at hl 2 rfl) ?_
        refine lv_goto (tgt := 114) hx hb dC_node_110 (by decide) ?_
        exact join_114 x3 x4 x2 x1 n f _ _ ls hw hP hS (lv_sub hl [0, 3, 4] rfl)
    · have hw := hw.2 c9
      exact vx_throwS (own := RC) (cls := "java/lang/UnsupportedOperationException") (text := "there are 120 nodes") (names := ["java/lang/RuntimeException", "java/lang/Exception"]) (ik := 42) (is := 88) (ic := 46) (sa := sa 10) hx hb hl9 hown (by decide +kernel) (by decide +kernel) (hts (.classLink RC 42 "java/lang/UnsupportedOperationException") (List.mem_cons_of_mem _ wt_234)) (hts (.initialized "java/lang/UnsupportedOperationException") (List.mem_cons_of_mem _ wt_35)) hZ.2.2.2.2.2.2.2.2.2.2.2.2.2.2.2.2.2.2.2.2.1 (vx_hat (L := vx_atS RC 46 "java/lang/UnsupportedOperationException" ["java/lang/RuntimeException", "java/lang/Exception"]) (B := [.castable "java/lang/UnsupportedOperationException" "java/lang/UnsupportedOperationException", .declares ⟨"java/lang/RuntimeException", "<init>", "(Ljava/lang/String;)V"⟩, .declares ⟨"java/lang/Exception", "<init>", "(Ljava/lang/String;)V"⟩, .declares ⟨"java/lang/Throwable", "<init>", "(Ljava/lang/String;)V"⟩]) (fun w hw => hts w (List.mem_cons_of_mem _ (at_C_46 w hw))) bd_C_46 (vx_c (va_Nw.use rfl hZ.2.2.1) (vx_c (va_Nw.use rfl hZ.2.2.2.2.1) (vx_c (va_Nw.use rfl hZ.2.2.2.2.2.1) (vx_c (va_Nw.use rfl hZ.2.2.2.2.2.2.1) (vx_n)))))) gd_C_46 hZ.2.2.2.2.2.2.2.2.2.2.2.2.2.2.2.2.2.2.2.2.2.2.2.2.2.2.1 hZ.2.2.2.2.2.2.2.2.2.2.2.2.2.2.2.2.2.2.2.2.2.2.2.2.2.2.2 hS (hl.1.trans hml.symm) dC_node_88 dC_node_91 dC_node_92 dC_node_94 dC_node_97 (fun x h => (htb x h).elim) (Nat.le_of_ble_eq_true rfl) (Nat.le_of_ble_eq_true rfl) (Nat.le_of_ble_eq_true rfl) (Nat.le_of_ble_eq_true rfl) hlocks (fun t _ h1 h2 => ⟨(n, f), trivial, ⟨hw, (ct_thr hP hS h1 h2).1⟩, (ct_thr hP hS h1 h2).2⟩) hS.2.2 (Nat.le_of_ble_eq_true rfl) (Nat.le_of_ble_eq_true rfl)
  have join_49 : ∀ (x1 x2 x3 x4 : Int32) (n : ctN) (f : ctF) (H : Heap) (locs : List Loc) (ls : Array Slot), wp_C_node_J49 pFi xp x1 x2 x3 x4 n f → va_P (dC, dI) vcl (ctW a cA n f) H → va_S A s.heap H locs → lv_has ls 5 [(0, .ref (a 0)), (1, .int x1), (2, .int x2), (3, .int x3), (4, .int x4)] → W p l e (headSpec wsC_node ({ frames := 6, cells := 1, slots := 6, locals := 112 } : Room)).room s m (([.ref (a 0), .int p1, .int p2, .int p3] : List Value).toArray) below meth c H locs 0 0 (vx_MQ below (va_Qi (fun (r : Int32) (u : ctN × ctF) => pFi r u.1 u.2) (ct_B dC dI a cA) A) (vx_X (fun (_ : ctN × ctF) => True) (fun E u t => xp E u.1 u.2 ∧ ct_B dC dI a cA u t) A) (([.ref (a 0), .int p1, .int p2, .int p3] : List Value).toArray) s 1 6 A) (F0 m 49 ls []) := by
    intro x1 x2 x3 x4 n f H locs ls hw hP hS hl
    unfold wp_C_node_J49 at hw
    refine lv_iload hx hb dC_node_49 (lv_at hl 4 rfl) ?_
    refine lv_iconst (v := 2) hx hb dC_node_51 (by decide) ?_
    refine lv_icmp_lt (tgt := 76) hx hb dC_node_52 (by decide) (fun c8 => ?_) (fun c8 => ?_)
    · have hw := hw.1 c8
      exact join_76 x1 x2 x3 x4 n f _ _ ls hw hP hS (lv_sub hl [0, 1, 2, 3, 4] rfl)
    · have hw := hw.2 c8
      refine lv_aload_n hx hb dC_node_55 rfl (lv_at hl 0 rfl) ?_
      refine va_get (D := (dC, dI)) (ci := 0) (v := .ref (a 2)) (C := RC) (T := TC) (N := 2) hx hb hts (fun w h => List.mem_cons_of_mem _ (inC w h)) hown hK hP 0 rfl rfl 1 (by decide) (hts (.fieldLink RC 21 "CoverTrees" "forest" "LCoverTrees$Forest;") (List.mem_cons_of_mem _ wt_135)) (fun _ h9 => h9) rfl dC_node_56 ?_
      refine lv_iload_n hx hb dC_node_59 rfl (lv_at hl 3 rfl) ?_
      refine ct_i (va_runV (As := [.int x3]) (rest := []) ⟨hx, hb, hml, hown, hts⟩ (met_F_has l dC dI a cA sa x3 n f _ hw) (cwV 1 hts (wb_V wt_300 wt_301 wt_302 wt_29 wt_303) rfl rfl rfl (by decide +kernel) ⟨Nat.le_of_ble_eq_true rfl, Nat.le_of_ble_eq_true rfl⟩) (ct_preV hK hP (hDa _ _) hZ hS hA (va_recv hK hP (ci := 2) (q0 := 2) rfl rfl)) rfl rfl hl.1 rfl (lv_room (Nat.le_of_ble_eq_true rfl)) dC_node_60 ⟨Nat.le_of_ble_eq_true rfl, Nat.le_of_ble_eq_true rfl⟩) (hDa _ _) hS hA (fun r22 n_23 f_24 H locs hw hP hS => ?_)
      refine lv_if_ne (tgt := 76) hx hb dC_node_63 (by decide) (fun c25 => ?_) (fun c25 => ?_)
      · have hw := hw.1 c25
        exact join_76 x1 x2 x3 x4 n_23 f_24 _ _ ls hw hP hS (lv_sub hl [0, 1, 2, 3, 4] rfl)
      · have hw := hw.2 c25
        exact vx_throwS (own := RC) (cls := "java/lang/IllegalArgumentException") (text := "no such node") (names := ["java/lang/RuntimeException", "java/lang/Exception"]) (ik := 35) (is := 86) (ic := 39) (sa := sa 9) hx hb hl9 hown (by decide +kernel) (by decide +kernel) (hts (.classLink RC 35 "java/lang/IllegalArgumentException") (List.mem_cons_of_mem _ wt_166)) (hts (.initialized "java/lang/IllegalArgumentException") (List.mem_cons_of_mem _ wt_34)) hZ.2.2.2.2.2.2.2.2.2.2.2.2.2.2.2.2.2.2.2.1 (vx_hat (L := vx_atS RC 39 "java/lang/IllegalArgumentException" ["java/lang/RuntimeException", "java/lang/Exception"]) (B := [.castable "java/lang/IllegalArgumentException" "java/lang/IllegalArgumentException", .declares ⟨"java/lang/RuntimeException", "<init>", "(Ljava/lang/String;)V"⟩, .declares ⟨"java/lang/Exception", "<init>", "(Ljava/lang/String;)V"⟩, .declares ⟨"java/lang/Throwable", "<init>", "(Ljava/lang/String;)V"⟩]) (fun w hw => hts w (List.mem_cons_of_mem _ (at_C_39 w hw))) bd_C_39 (vx_c (va_Nw.use rfl hZ.2.1) (vx_c (va_Nw.use rfl hZ.2.2.2.2.1) (vx_c (va_Nw.use rfl hZ.2.2.2.2.2.1) (vx_c (va_Nw.use rfl hZ.2.2.2.2.2.2.1) (vx_n)))))) gd_C_39 hZ.2.2.2.2.2.2.2.2.2.2.2.2.2.2.2.2.2.2.2.2.2.2.2.2.2.2.1 hZ.2.2.2.2.2.2.2.2.2.2.2.2.2.2.2.2.2.2.2.2.2.2.2.2.2.2.2 hS (hl.1.trans hml.symm) dC_node_66 dC_node_69 dC_node_70 dC_node_72 dC_node_75 (fun x h => (htb x h).elim) (Nat.le_of_ble_eq_true rfl) (Nat.le_of_ble_eq_true rfl) (Nat.le_of_ble_eq_true rfl) (Nat.le_of_ble_eq_true rfl) hlocks (fun t _ h1 h2 => ⟨(n_23, f_24), trivial, ⟨hw, (ct_thr hP hS h1 h2).1⟩, (ct_thr hP hS h1 h2).2⟩) hS.2.2 (Nat.le_of_ble_eq_true rfl) (Nat.le_of_ble_eq_true rfl)
  refine lv_aload_n hx hb dC_node_0 rfl (lv_at hl 0 rfl) ?_
  refine va_get (D := (dC, dI)) (ci := 0) (v := .ref (a 1)) (C := RC) (T := TC) (N := 2) hx hb hts (fun w h => List.mem_cons_of_mem _ (inC w h)) hown hK hP 0 rfl rfl 0 (by decide) (hts (.fieldLink RC 12 "CoverTrees" "grammar" "LCoverTrees$Grammar;") (List.mem_cons_of_mem _ wt_134)) (fun _ h9 => h9) rfl dC_node_1 ?_
  refine lv_iload_n hx hb dC_node_4 rfl (lv_at hl 1 rfl) ?_
  refine ct_i (va_runV (As := [.int p1]) (rest := []) ⟨hx, hb, hml, hown, hts⟩ (met_G_hasOperator l dC dI a cA sa p1 n f _ hw) (cwV 1 hts (wb_V wt_264 wt_265 wt_266 wt_28 wt_267) rfl rfl rfl (by decide +kernel) ⟨Nat.le_of_ble_eq_true rfl, Nat.le_of_ble_eq_true rfl⟩) (ct_preV hK hP (hDa _ _) hZ hS hA (va_recv hK hP (ci := 1) (q0 := 1) rfl rfl)) rfl rfl hl.1 rfl (lv_room (Nat.le_of_ble_eq_true rfl)) dC_node_5 ⟨Nat.le_of_ble_eq_true rfl, Nat.le_of_ble_eq_true rfl⟩) (hDa _ _) hS hA (fun r1 n_2 f_3 H locs hw hP hS => ?_)
  refine lv_if_ne (tgt := 21) hx hb dC_node_8 (by decide) (fun c4 => ?_) (fun c4 => ?_)
  · have hw := hw.1 c4
    refine lv_aload_n hx hb dC_node_21 rfl (lv_at hl 0 rfl) ?_
    refine va_get (D := (dC, dI)) (ci := 0) (v := .ref (a 1)) (C := RC) (T := TC) (N := 2) hx hb hts (fun w h => List.mem_cons_of_mem _ (inC w h)) hown hK hP 0 rfl rfl 0 (by decide) (hts (.fieldLink RC 12 "CoverTrees" "grammar" "LCoverTrees$Grammar;") (List.mem_cons_of_mem _ wt_134)) (fun _ h9 => h9) rfl dC_node_22 ?_
    refine va_get (D := (dC, dI)) (ci := 1) (v := .ref (a 3)) (C := RG) (T := TG) (N := 8) hx hb hts (fun w h => List.mem_cons_of_mem _ (inG w h)) hown hK hP 1 rfl rfl 1 (by decide) (hts (.fieldLink RC 60 "CoverTrees$Grammar" "parts" "[I") (List.mem_cons_of_mem _ wt_55)) (fun _ h9 => h9) rfl dC_node_25 ?_
    refine lv_iload_n hx hb dC_node_28 rfl (lv_at hl 1 rfl) ?_
    obtain ⟨hi5, hw⟩ := hw
    refine va_iald hx hb hK hP 3 0 rfl rfl hi5 dC_node_29 ?_
    refine lv_topi (fun x4_6 ex4_6 => ?_)
    have hw := hw x4_6 ex4_6
    refine lv_istore (lv' := [(4, .int x4_6), (0, .ref (a 0)), (1, .int p1), (2, .int p2), (3, .int p3)]) hx hb dC_node_30 hl (by decide) rfl (fun ls hl => ?_)
    refine lv_iload hx hb dC_node_32 (lv_at hl 0 rfl) ?_
    refine lv_iconst (v := 1) hx hb dC_node_34 (by decide) ?_
    refine lv_icmp_lt (tgt := 49) hx hb dC_node_35 (by decide) (fun c7 => ?_) (fun c7 => ?_)
    · have hw := hw.1 c7
      exact join_49 p1 p2 p3 x4_6 n_2 f_3 _ _ ls hw hP hS (lv_sub hl [1, 2, 3, 4, 0] rfl)
    · have hw := hw.2 c7
      refine lv_aload_n hx hb dC_node_38 rfl (lv_at hl 1 rfl) ?_
      refine va_get (D := (dC, dI)) (ci := 0) (v := .ref (a 2)) (C := RC) (T := TC) (N := 2) hx hb hts (fun w h => List.mem_cons_of_mem _ (inC w h)) hown hK hP 0 rfl rfl 1 (by decide) (hts (.fieldLink RC 21 "CoverTrees" "forest" "LCoverTrees$Forest;") (List.mem_cons_of_mem _ wt_135)) (fun _ h9 => h9) rfl dC_node_39 ?_
      refine lv_iload_n hx hb dC_node_42 rfl (lv_at hl 3 rfl) ?_
      refine ct_i (va_runV (As := [.int p2]) (rest := []) ⟨hx, hb, hml, hown, hts⟩ (met_F_has l dC dI a cA sa p2 n_2 f_3 _ hw) (cwV 1 hts (wb_V wt_300 wt_301 wt_302 wt_29 wt_303) rfl rfl rfl (by decide +kernel) ⟨Nat.le_of_ble_eq_true rfl, Nat.le_of_ble_eq_true rfl⟩) (ct_preV hK hP (hDa _ _) hZ hS hA (va_recv hK hP (ci := 2) (q0 := 2) rfl rfl)) rfl rfl hl.1 rfl (lv_room (Nat.le_of_ble_eq_true rfl)) dC_node_43 ⟨Nat.le_of_ble_eq_true rfl, Nat.le_of_ble_eq_true rfl⟩) (hDa _ _) hS hA (fun r26 n_27 f_28 H locs hw hP hS => ?_)
      refine lv_if_eq (tgt := 66) hx hb dC_node_46 (by decide) (fun c29 => ?_) (fun c29 => ?_)
      · have hw := hw.1 c29
        exact vx_throwS (own := RC) (cls := "java/lang/IllegalArgumentException") (text := "no such node") (names := ["java/lang/RuntimeException", "java/lang/Exception"]) (ik := 35) (is := 86) (ic := 39) (sa := sa 9) hx hb hl9 hown (by decide +kernel) (by decide +kernel) (hts (.classLink RC 35 "java/lang/IllegalArgumentException") (List.mem_cons_of_mem _ wt_166)) (hts (.initialized "java/lang/IllegalArgumentException") (List.mem_cons_of_mem _ wt_34)) hZ.2.2.2.2.2.2.2.2.2.2.2.2.2.2.2.2.2.2.2.1 (vx_hat (L := vx_atS RC 39 "java/lang/IllegalArgumentException" ["java/lang/RuntimeException", "java/lang/Exception"]) (B := [.castable "java/lang/IllegalArgumentException" "java/lang/IllegalArgumentException", .declares ⟨"java/lang/RuntimeException", "<init>", "(Ljava/lang/String;)V"⟩, .declares ⟨"java/lang/Exception", "<init>", "(Ljava/lang/String;)V"⟩, .declares ⟨"java/lang/Throwable", "<init>", "(Ljava/lang/String;)V"⟩]) (fun w hw => hts w (List.mem_cons_of_mem _ (at_C_39 w hw))) bd_C_39 (vx_c (va_Nw.use rfl hZ.2.1) (vx_c (va_Nw.use rfl hZ.2.2.2.2.1) (vx_c (va_Nw.use rfl hZ.2.2.2.2.2.1) (vx_c (va_Nw.use rfl hZ.2.2.2.2.2.2.1) (vx_n)))))) gd_C_39 hZ.2.2.2.2.2.2.2.2.2.2.2.2.2.2.2.2.2.2.2.2.2.2.2.2.2.2.1 hZ.2.2.2.2.2.2.2.2.2.2.2.2.2.2.2.2.2.2.2.2.2.2.2.2.2.2.2 hS (hl.1.trans hml.symm) dC_node_66 dC_node_69 dC_node_70 dC_node_72 dC_node_75 (fun x h => (htb x h).elim) (Nat.le_of_ble_eq_true rfl) (Nat.le_of_ble_eq_true rfl) (Nat.le_of_ble_eq_true rfl) (Nat.le_of_ble_eq_true rfl) hlocks (fun t _ h1 h2 => ⟨(n_27, f_28), trivial, ⟨hw, (ct_thr hP hS h1 h2).1⟩, (ct_thr hP hS h1 h2).2⟩) hS.2.2 (Nat.le_of_ble_eq_true rfl) (Nat.le_of_ble_eq_true rfl)
      · have hw := hw.2 c29
        exact join_49 p1 p2 p3 x4_6 n_27 f_28 _ _ ls hw hP hS (lv_sub hl [1, 2, 3, 4, 0] rfl)
  · have hw := hw.2 c4
    exact vx_throwS (own := RC) (cls := "java/lang/IllegalArgumentException") (text := "no such operator") (names := ["java/lang/RuntimeException", "java/lang/Exception"]) (ik := 35) (is := 81) (ic := 39) (sa := sa 8) hx hb hl9 hown (by decide +kernel) (by decide +kernel) (hts (.classLink RC 35 "java/lang/IllegalArgumentException") (List.mem_cons_of_mem _ wt_166)) (hts (.initialized "java/lang/IllegalArgumentException") (List.mem_cons_of_mem _ wt_34)) hZ.2.2.2.2.2.2.2.2.2.2.2.2.2.2.2.2.2.2.1 (vx_hat (L := vx_atS RC 39 "java/lang/IllegalArgumentException" ["java/lang/RuntimeException", "java/lang/Exception"]) (B := [.castable "java/lang/IllegalArgumentException" "java/lang/IllegalArgumentException", .declares ⟨"java/lang/RuntimeException", "<init>", "(Ljava/lang/String;)V"⟩, .declares ⟨"java/lang/Exception", "<init>", "(Ljava/lang/String;)V"⟩, .declares ⟨"java/lang/Throwable", "<init>", "(Ljava/lang/String;)V"⟩]) (fun w hw => hts w (List.mem_cons_of_mem _ (at_C_39 w hw))) bd_C_39 (vx_c (va_Nw.use rfl hZ.2.1) (vx_c (va_Nw.use rfl hZ.2.2.2.2.1) (vx_c (va_Nw.use rfl hZ.2.2.2.2.2.1) (vx_c (va_Nw.use rfl hZ.2.2.2.2.2.2.1) (vx_n)))))) gd_C_39 hZ.2.2.2.2.2.2.2.2.2.2.2.2.2.2.2.2.2.2.2.2.2.2.2.2.2.2.1 hZ.2.2.2.2.2.2.2.2.2.2.2.2.2.2.2.2.2.2.2.2.2.2.2.2.2.2.2 hS (hl.1.trans hml.symm) dC_node_11 dC_node_14 dC_node_15 dC_node_17 dC_node_20 (fun x h => (htb x h).elim) (Nat.le_of_ble_eq_true rfl) (Nat.le_of_ble_eq_true rfl) (Nat.le_of_ble_eq_true rfl) (Nat.le_of_ble_eq_true rfl) hlocks (fun t _ h1 h2 => ⟨(n_2, f_3), trivial, ⟨hw, (ct_thr hP hS h1 h2).1⟩, (ct_thr hP hS h1 h2).2⟩) hS.2.2 (Nat.le_of_ble_eq_true rfl) (Nat.le_of_ble_eq_true rfl)
def wp_C_cost (post : Int32 → ctN → ctF → Prop) (xp : String → ctN → ctF → Prop) (p1 : Int32) (p2 : Int32) (n : ctN) (f : ctF) : Prop := (wp_C_checkPlace (fun (n_2 : ctN) (f_3 : ctF) => wp_C_place (fun (r4 : Int32) (n_5 : ctN) (f_6 : ctF) => vp_in r4 960 ∧ (post (f_6 14 r4.toNatClampNeg) n_5 f_6)) p1 p2 n_2 f_3) xF p1 p2 n f) ∨ (wp_C_checkPlace pFv xp p1 p2 n f)
set_option maxHeartbeats 4000000 in
set_option maxRecDepth 100000 in
theorem met0_C_cost (l : Launch) (dC : Nat → ClassId) (dI : Nat → Nat → Nat) (a : Nat → Nat) (cA : Nat → ClassId) (sa : Nat → Nat) (p1 : Int32) (p2 : Int32) (n : ctN) (f : ctF) (sz : Nat) {post : Int32 → ctN → ctF → Prop} (hw : wp_C_cost post xF p1 p2 n f) : Met l yC_cost wsC_cost ({ frames := 7, cells := 0, slots := 0, locals := 112 } : Room) (ct_Pc dC dI a cA sa [.ref (a 0), .int p1, .int p2] n f sz) (va_Qi (fun (r : Int32) (u : ctN × ctF) => post r u.1 u.2) (ct_B dC dI a cA) (va_A (ctW a cA n f) sz)) 0 0 (va_A (ctW a cA n f) sz) := by
  refine Met.ofW (cc := cC_cost) (maxL := 3) (ret := (some .int)) (by decide) rfl ?_
  intro p e s m args below meth c s₁ B hml hv
  obtain ⟨rfl, hsz, hP, hK, hD0, hZ⟩ := hv
  have hx := B.exec
  have hb := B.bytes
  have hr := B.returns
  have hts := atoms_spec (ws := wsC_cost) B.pre
  have hown : s.vm.findClass RC = some m.cls := findClass_of_methodNamed B.named
  have hlocks := B.notSynchronized
  subst hsz
  have hD := hD0.self (sz := s.heap.size)
  generalize hAe : va_A (ctW a cA n f) s.heap.size = A at hD hZ ⊢
  have hDa : ∀ (n : ctN) (f : ctF), va_D A (ctW a cA n f) := fun _ _ => ct_D hD
  have hA : ∀ q : Nat, s.heap.size ≤ q → A q := fun q h => by rw [← hAe]; exact Or.inr h
  have hS : va_S A s.heap s.heap [] := va_S.rf
  have hl := lv_entry ([.ref (a 0), .int p1, .int p2]) (n := 3) (Nat.le_of_ble_eq_true rfl)
  rw [lg_entry_eq]
  generalize (lg_sl ([.ref (a 0), .int p1, .int p2]) ++ List.replicate (3 - (lg_sl ([.ref (a 0), .int p1, .int p2])).length) Slot.unset).toArray = ls at hl ⊢
  have hl : lv_has ls 3 [(0, .ref (a 0)), (1, .int p1), (2, .int p2)] := hl
  unfold wp_C_cost at hw
  refine lv_aload_n hx hb dC_cost_0 rfl (lv_at hl 0 rfl) ?_
  refine lv_iload_n hx hb dC_cost_1 rfl (lv_at hl 1 rfl) ?_
  refine lv_iload_n hx hb dC_cost_2 rfl (lv_at hl 2 rfl) ?_
  rcases hw with hw | hw
  rotate_left
  · exact ct_v (va_runV (As := [.int p1, .int p2]) (rest := []) ⟨hx, hb, hml, hown, hts⟩ (met0_C_checkPlace l dC dI a cA sa p1 p2 n f _ hw) (cwV 2 hts (wb_V wt_377 wt_379 wt_12 wt_27 wt_380) rfl rfl rfl (by decide +kernel) ⟨Nat.le_of_ble_eq_true rfl, Nat.le_of_ble_eq_true rfl⟩) (ct_preV hK hP (hDa _ _) hZ hS hA (va_recv hK hP (ci := 0) (q0 := 0) rfl rfl)) rfl rfl hl.1 rfl (lv_room (Nat.le_of_ble_eq_true rfl)) dC_cost_3 ⟨Nat.le_of_ble_eq_true rfl, Nat.le_of_ble_eq_true rfl⟩) (hDa _ _) hS hA (fun _ _ _ _ hw _ _ => False.elim hw)
  refine ct_v (va_runV (As := [.int p1, .int p2]) (rest := []) ⟨hx, hb, hml, hown, hts⟩ (met0_C_checkPlace l dC dI a cA sa p1 p2 n f _ hw) (cwV 2 hts (wb_V wt_377 wt_379 wt_12 wt_27 wt_380) rfl rfl rfl (by decide +kernel) ⟨Nat.le_of_ble_eq_true rfl, Nat.le_of_ble_eq_true rfl⟩) (ct_preV hK hP (hDa _ _) hZ hS hA (va_recv hK hP (ci := 0) (q0 := 0) rfl rfl)) rfl rfl hl.1 rfl (lv_room (Nat.le_of_ble_eq_true rfl)) dC_cost_3 ⟨Nat.le_of_ble_eq_true rfl, Nat.le_of_ble_eq_true rfl⟩) (hDa _ _) hS hA (fun n_2 f_3 H locs hw hP hS => ?_)
  refine lv_aload_n hx hb dC_cost_6 rfl (lv_at hl 0 rfl) ?_
  refine va_get (D := (dC, dI)) (ci := 0) (v := .ref (a 2)) (C := RC) (T := TC) (N := 2) hx hb hts (fun w h => List.mem_cons_of_mem _ (inC w h)) hown hK hP 0 rfl rfl 1 (by decide) (hts (.fieldLink RC 21 "CoverTrees" "forest" "LCoverTrees$Forest;") (List.mem_cons_of_mem _ wt_135)) (fun _ h9 => h9) rfl dC_cost_7 ?_
  refine va_get (D := (dC, dI)) (ci := 2) (v := .ref (a 14)) (C := RF) (T := TF) (N := 11) hx hb hts (fun w h => List.mem_cons_of_mem _ (inF w h)) hown hK hP 2 rfl rfl 7 (by decide) (hts (.fieldLink RC 108 "CoverTrees$Forest" "cost" "[I") (List.mem_cons_of_mem _ wt_104)) (fun _ h9 => h9) rfl dC_cost_10 ?_
  refine lv_iload_n hx hb dC_cost_13 rfl (lv_at hl 1 rfl) ?_
  refine lv_iload_n hx hb dC_cost_14 rfl (lv_at hl 2 rfl) ?_
  refine ct_i (va_runS (As := [.int p1, .int p2]) (rest := [.ref (a 14)]) ⟨hx, hb, hml, hown, hts⟩ (met_C_place l dC dI a cA sa p1 p2 n_2 f_3 _ hw) (cwS 2 hts (wb_S wt_382 wt_315 wt_27 wt_316) rfl rfl rfl (by decide +kernel) ⟨Nat.le_of_ble_eq_true rfl, Nat.le_of_ble_eq_true rfl⟩) (ct_pre hK hP (hDa _ _) hZ hS hA) rfl rfl hl.1 rfl (lv_room (Nat.le_of_ble_eq_true rfl)) dC_cost_15 ⟨Nat.le_of_ble_eq_true rfl, Nat.le_of_ble_eq_true rfl⟩) (hDa _ _) hS hA (fun r4 n_5 f_6 H locs hw hP hS => ?_)
  obtain ⟨hi7, hw⟩ := hw
  refine va_iald hx hb hK hP 14 11 rfl rfl hi7 dC_cost_18 ?_
  exact W.iret (v := (f_6 14 r4.toNatClampNeg)) hx hb hr (fun t ht hW => ⟨⟨(f_6 14 r4.toNatClampNeg), (n_5, f_6), rfl, hw, ct_mkB ht hP⟩, hS.F ht⟩) hS.2.2 dC_cost_19
set_option maxHeartbeats 4000000 in
set_option maxRecDepth 100000 in
theorem metx_C_cost (l : Launch) (hl9 : l.stackTraces = false) (dC : Nat → ClassId) (dI : Nat → Nat → Nat) (a : Nat → Nat) (cA : Nat → ClassId) (sa : Nat → Nat) (p1 : Int32) (p2 : Int32) (n : ctN) (f : ctF) (sz : Nat) {xp : String → ctN → ctF → Prop} (hw : wp_C_cost pFi xp p1 p2 n f) : vx_Met l yC_cost wsC_cost ({ frames := 7, cells := 1, slots := 6, locals := 112 } : Room) (ct_Pc dC dI a cA sa [.ref (a 0), .int p1, .int p2] n f sz) (va_Qi (fun (r : Int32) (u : ctN × ctF) => pFi r u.1 u.2) (ct_B dC dI a cA) (va_A (ctW a cA n f) sz)) (vx_X (fun (_ : ctN × ctF) => True) (fun E u t => xp E u.1 u.2 ∧ ct_B dC dI a cA u t) (va_A (ctW a cA n f) sz)) 1 6 (va_A (ctW a cA n f) sz) := by
  refine vx_ofW (cc := cC_cost) (maxL := 3) (ret := (some .int)) (by decide) rfl ?_
  intro p e s m args below meth c s₁ B hml htb hv
  obtain ⟨rfl, hsz, hP, hK, hD0, hZ⟩ := hv
  have hx := B.exec
  have hb := B.bytes
  have hr := B.returns
  have hts := atoms_spec (ws := wsC_cost) B.pre
  have hown : s.vm.findClass RC = some m.cls := findClass_of_methodNamed B.named
  have hlocks := B.notSynchronized
  subst hsz
  have hD := hD0.self (sz := s.heap.size)
  generalize hAe : va_A (ctW a cA n f) s.heap.size = A at hD hZ ⊢
  have hDa : ∀ (n : ctN) (f : ctF), va_D A (ctW a cA n f) := fun _ _ => ct_D hD
  have hA : ∀ q : Nat, s.heap.size ≤ q → A q := fun q h => by rw [← hAe]; exact Or.inr h
  have hS : va_S A s.heap s.heap [] := va_S.rf
  have hl := lv_entry ([.ref (a 0), .int p1, .int p2]) (n := 3) (Nat.le_of_ble_eq_true rfl)
  rw [lg_entry_eq]
  generalize (lg_sl ([.ref (a 0), .int p1, .int p2]) ++ List.replicate (3 - (lg_sl ([.ref (a 0), .int p1, .int p2])).length) Slot.unset).toArray = ls at hl ⊢
  have hl : lv_has ls 3 [(0, .ref (a 0)), (1, .int p1), (2, .int p2)] := hl
  unfold wp_C_cost at hw
  refine lv_aload_n hx hb dC_cost_0 rfl (lv_at hl 0 rfl) ?_
  refine lv_iload_n hx hb dC_cost_1 rfl (lv_at hl 1 rfl) ?_
  refine lv_iload_n hx hb dC_cost_2 rfl (lv_at hl 2 rfl) ?_
  rcases hw with hw | hw
  rotate_left
  · exact ct_xv (vx_runV (As := [.int p1, .int p2]) (rest := []) ⟨hx, hb, hml, hown, hts⟩ (metx_C_checkPlace l hl9 dC dI a cA sa p1 p2 n f _ hw) (cwV 2 hts (wb_V wt_377 wt_379 wt_12 wt_27 wt_380) rfl rfl rfl (by decide +kernel) ⟨Nat.le_of_ble_eq_true rfl, Nat.le_of_ble_eq_true rfl⟩) (ct_preV hK hP (hDa _ _) hZ hS hA (va_recv hK hP (ci := 0) (q0 := 0) rfl rfl)) rfl rfl hl.1 rfl (lv_room (Nat.le_of_ble_eq_true rfl)) dC_cost_3 ⟨Nat.le_of_ble_eq_true rfl, Nat.le_of_ble_eq_true rfl⟩) (hDa _ _) hS hA (fun E ce q9 n' f' H locs hw hP hS h1 h2 h3 => by exact vx_out (fun x h => (htb x h).elim) hlocks h1 h2 h3 (fun t ht hvm => ⟨(n', f'), trivial, ⟨hw, ct_mkB ht hP⟩, hS.F ht⟩) hS.2.2 (Nat.le_of_ble_eq_true rfl) (Nat.le_of_ble_eq_true rfl)) (fun _ _ _ _ hw _ _ => False.elim hw)
  refine ct_v (va_runV (As := [.int p1, .int p2]) (rest := []) ⟨hx, hb, hml, hown, hts⟩ (met0_C_checkPlace l dC dI a cA sa p1 p2 n f _ hw) (cwV 2 hts (wb_V wt_377 wt_379 wt_12 wt_27 wt_380) rfl rfl rfl (by decide +kernel) ⟨Nat.le_of_ble_eq_true rfl, Nat.le_of_ble_eq_true rfl⟩) (ct_preV hK hP (hDa _ _) hZ hS hA (va_recv hK hP (ci := 0) (q0 := 0) rfl rfl)) rfl rfl hl.1 rfl (lv_room (Nat.le_of_ble_eq_true rfl)) dC_cost_3 ⟨Nat.le_of_ble_eq_true rfl, Nat.le_of_ble_eq_true rfl⟩) (hDa _ _) hS hA (fun n_2 f_3 H locs hw hP hS => ?_)
  refine lv_aload_n hx hb dC_cost_6 rfl (lv_at hl 0 rfl) ?_
  refine va_get (D := (dC, dI)) (ci := 0) (v := .ref (a 2)) (C := RC) (T := TC) (N := 2) hx hb hts (fun w h => List.mem_cons_of_mem _ (inC w h)) hown hK hP 0 rfl rfl 1 (by decide) (hts (.fieldLink RC 21 "CoverTrees" "forest" "LCoverTrees$Forest;") (List.mem_cons_of_mem _ wt_135)) (fun _ h9 => h9) rfl dC_cost_7 ?_
  refine va_get (D := (dC, dI)) (ci := 2) (v := .ref (a 14)) (C := RF) (T := TF) (N := 11) hx hb hts (fun w h => List.mem_cons_of_mem _ (inF w h)) hown hK hP 2 rfl rfl 7 (by decide) (hts (.fieldLink RC 108 "CoverTrees$Forest" "cost" "[I") (List.mem_cons_of_mem _ wt_104)) (fun _ h9 => h9) rfl dC_cost_10 ?_
  refine lv_iload_n hx hb dC_cost_13 rfl (lv_at hl 1 rfl) ?_
  refine lv_iload_n hx hb dC_cost_14 rfl (lv_at hl 2 rfl) ?_
  refine ct_i (va_runS (As := [.int p1, .int p2]) (rest := [.ref (a 14)]) ⟨hx, hb, hml, hown, hts⟩ (met_C_place l dC dI a cA sa p1 p2 n_2 f_3 _ hw) (cwS 2 hts (wb_S wt_382 wt_315 wt_27 wt_316) rfl rfl rfl (by decide +kernel) ⟨Nat.le_of_ble_eq_true rfl, Nat.le_of_ble_eq_true rfl⟩) (ct_pre hK hP (hDa _ _) hZ hS hA) rfl rfl hl.1 rfl (lv_room (Nat.le_of_ble_eq_true rfl)) dC_cost_15 ⟨Nat.le_of_ble_eq_true rfl, Nat.le_of_ble_eq_true rfl⟩) (hDa _ _) hS hA (fun r4 n_5 f_6 H locs hw hP hS => ?_)
  obtain ⟨hi7, hw⟩ := hw
  refine va_iald hx hb hK hP 14 11 rfl rfl hi7 dC_cost_18 ?_
  exact False.elim hw
def wp_C_rule (post : Int32 → ctN → ctF → Prop) (xp : String → ctN → ctF → Prop) (p1 : Int32) (p2 : Int32) (n : ctN) (f : ctF) : Prop := (wp_C_checkPlace (fun (n_2 : ctN) (f_3 : ctF) => wp_C_place (fun (r4 : Int32) (n_5 : ctN) (f_6 : ctF) => vp_in r4 960 ∧ (post (f_6 15 r4.toNatClampNeg) n_5 f_6)) p1 p2 n_2 f_3) xF p1 p2 n f) ∨ (wp_C_checkPlace pFv xp p1 p2 n f)
set_option maxHeartbeats 4000000 in
set_option maxRecDepth 100000 in
theorem met0_C_rule (l : Launch) (dC : Nat → ClassId) (dI : Nat → Nat → Nat) (a : Nat → Nat) (cA : Nat → ClassId) (sa : Nat → Nat) (p1 : Int32) (p2 : Int32) (n : ctN) (f : ctF) (sz : Nat) {post : Int32 → ctN → ctF → Prop} (hw : wp_C_rule post xF p1 p2 n f) : Met l yC_rule wsC_rule ({ frames := 7, cells := 0, slots := 0, locals := 112 } : Room) (ct_Pc dC dI a cA sa [.ref (a 0), .int p1, .int p2] n f sz) (va_Qi (fun (r : Int32) (u : ctN × ctF) => post r u.1 u.2) (ct_B dC dI a cA) (va_A (ctW a cA n f) sz)) 0 0 (va_A (ctW a cA n f) sz) := by
  refine Met.ofW (cc := cC_rule) (maxL := 3) (ret := (some .int)) (by decide) rfl ?_
  intro p e s m args below meth c s₁ B hml hv
  obtain ⟨rfl, hsz, hP, hK, hD0, hZ⟩ := hv
  have hx := B.exec
  have hb := B.bytes
  have hr := B.returns
  have hts := atoms_spec (ws := wsC_rule) B.pre
  have hown : s.vm.findClass RC = some m.cls := findClass_of_methodNamed B.named
  have hlocks := B.notSynchronized
  subst hsz
  have hD := hD0.self (sz := s.heap.size)
  generalize hAe : va_A (ctW a cA n f) s.heap.size = A at hD hZ ⊢
  have hDa : ∀ (n : ctN) (f : ctF), va_D A (ctW a cA n f) := fun _ _ => ct_D hD
  have hA : ∀ q : Nat, s.heap.size ≤ q → A q := fun q h => by rw [← hAe]; exact Or.inr h
  have hS : va_S A s.heap s.heap [] := va_S.rf
  have hl := lv_entry ([.ref (a 0), .int p1, .int p2]) (n := 3) (Nat.le_of_ble_eq_true rfl)
  rw [lg_entry_eq]
  generalize (lg_sl ([.ref (a 0), .int p1, .int p2]) ++ List.replicate (3 - (lg_sl ([.ref (a 0), .int p1, .int p2])).length) Slot.unset).toArray = ls at hl ⊢
  have hl : lv_has ls 3 [(0, .ref (a 0)), (1, .int p1), (2, .int p2)] := hl
  unfold wp_C_rule at hw
  refine lv_aload_n hx hb dC_rule_0 rfl (lv_at hl 0 rfl) ?_
  refine lv_iload_n hx hb dC_rule_1 rfl (lv_at hl 1 rfl) ?_
  refine lv_iload_n hx hb dC_rule_2 rfl (lv_at hl 2 rfl) ?_
  rcases hw with hw | hw
  rotate_left
  · exact ct_v (va_runV (As := [.int p1, .int p2]) (rest := []) ⟨hx, hb, hml, hown, hts⟩ (met0_C_checkPlace l dC dI a cA sa p1 p2 n f _ hw) (cwV 2 hts (wb_V wt_377 wt_379 wt_12 wt_27 wt_380) rfl rfl rfl (by decide +kernel) ⟨Nat.le_of_ble_eq_true rfl, Nat.le_of_ble_eq_true rfl⟩) (ct_preV hK hP (hDa _ _) hZ hS hA (va_recv hK hP (ci := 0) (q0 := 0) rfl rfl)) rfl rfl hl.1 rfl (lv_room (Nat.le_of_ble_eq_true rfl)) dC_rule_3 ⟨Nat.le_of_ble_eq_true rfl, Nat.le_of_ble_eq_true rfl⟩) (hDa _ _) hS hA (fun _ _ _ _ hw _ _ => False.elim hw)
  refine ct_v (va_runV (As := [.int p1, .int p2]) (rest := []) ⟨hx, hb, hml, hown, hts⟩ (met0_C_checkPlace l dC dI a cA sa p1 p2 n f _ hw) (cwV 2 hts (wb_V wt_377 wt_379 wt_12 wt_27 wt_380) rfl rfl rfl (by decide +kernel) ⟨Nat.le_of_ble_eq_true rfl, Nat.le_of_ble_eq_true rfl⟩) (ct_preV hK hP (hDa _ _) hZ hS hA (va_recv hK hP (ci := 0) (q0 := 0) rfl rfl)) rfl rfl hl.1 rfl (lv_room (Nat.le_of_ble_eq_true rfl)) dC_rule_3 ⟨Nat.le_of_ble_eq_true rfl, Nat.le_of_ble_eq_true rfl⟩) (hDa _ _) hS hA (fun n_2 f_3 H locs hw hP hS => ?_)
  refine lv_aload_n hx hb dC_rule_6 rfl (lv_at hl 0 rfl) ?_
  refine va_get (D := (dC, dI)) (ci := 0) (v := .ref (a 2)) (C := RC) (T := TC) (N := 2) hx hb hts (fun w h => List.mem_cons_of_mem _ (inC w h)) hown hK hP 0 rfl rfl 1 (by decide) (hts (.fieldLink RC 21 "CoverTrees" "forest" "LCoverTrees$Forest;") (List.mem_cons_of_mem _ wt_135)) (fun _ h9 => h9) rfl dC_rule_7 ?_
  refine va_get (D := (dC, dI)) (ci := 2) (v := .ref (a 15)) (C := RF) (T := TF) (N := 11) hx hb hts (fun w h => List.mem_cons_of_mem _ (inF w h)) hown hK hP 2 rfl rfl 8 (by decide) (hts (.fieldLink RC 115 "CoverTrees$Forest" "rule" "[I") (List.mem_cons_of_mem _ wt_106)) (fun _ h9 => h9) rfl dC_rule_10 ?_
  refine lv_iload_n hx hb dC_rule_13 rfl (lv_at hl 1 rfl) ?_
  refine lv_iload_n hx hb dC_rule_14 rfl (lv_at hl 2 rfl) ?_
  refine ct_i (va_runS (As := [.int p1, .int p2]) (rest := [.ref (a 15)]) ⟨hx, hb, hml, hown, hts⟩ (met_C_place l dC dI a cA sa p1 p2 n_2 f_3 _ hw) (cwS 2 hts (wb_S wt_382 wt_315 wt_27 wt_316) rfl rfl rfl (by decide +kernel) ⟨Nat.le_of_ble_eq_true rfl, Nat.le_of_ble_eq_true rfl⟩) (ct_pre hK hP (hDa _ _) hZ hS hA) rfl rfl hl.1 rfl (lv_room (Nat.le_of_ble_eq_true rfl)) dC_rule_15 ⟨Nat.le_of_ble_eq_true rfl, Nat.le_of_ble_eq_true rfl⟩) (hDa _ _) hS hA (fun r4 n_5 f_6 H locs hw hP hS => ?_)
  obtain ⟨hi7, hw⟩ := hw
  refine va_iald hx hb hK hP 15 12 rfl rfl hi7 dC_rule_18 ?_
  exact W.iret (v := (f_6 15 r4.toNatClampNeg)) hx hb hr (fun t ht hW => ⟨⟨(f_6 15 r4.toNatClampNeg), (n_5, f_6), rfl, hw, ct_mkB ht hP⟩, hS.F ht⟩) hS.2.2 dC_rule_19
set_option maxHeartbeats 4000000 in
set_option maxRecDepth 100000 in
theorem metx_C_rule (l : Launch) (hl9 : l.stackTraces = false) (dC : Nat → ClassId) (dI : Nat → Nat → Nat) (a : Nat → Nat) (cA : Nat → ClassId) (sa : Nat → Nat) (p1 : Int32) (p2 : Int32) (n : ctN) (f : ctF) (sz : Nat) {xp : String → ctN → ctF → Prop} (hw : wp_C_rule pFi xp p1 p2 n f) : vx_Met l yC_rule wsC_rule ({ frames := 7, cells := 1, slots := 6, locals := 112 } : Room) (ct_Pc dC dI a cA sa [.ref (a 0), .int p1, .int p2] n f sz) (va_Qi (fun (r : Int32) (u : ctN × ctF) => pFi r u.1 u.2) (ct_B dC dI a cA) (va_A (ctW a cA n f) sz)) (vx_X (fun (_ : ctN × ctF) => True) (fun E u t => xp E u.1 u.2 ∧ ct_B dC dI a cA u t) (va_A (ctW a cA n f) sz)) 1 6 (va_A (ctW a cA n f) sz) := by
  refine vx_ofW (cc := cC_rule) (maxL := 3) (ret := (some .int)) (by decide) rfl ?_
  intro p e s m args below meth c s₁ B hml htb hv
  obtain ⟨rfl, hsz, hP, hK, hD0, hZ⟩ := hv
  have hx := B.exec
  have hb := B.bytes
  have hr := B.returns
  have hts := atoms_spec (ws := wsC_rule) B.pre
  have hown : s.vm.findClass RC = some m.cls := findClass_of_methodNamed B.named
  have hlocks := B.notSynchronized
  subst hsz
  have hD := hD0.self (sz := s.heap.size)
  generalize hAe : va_A (ctW a cA n f) s.heap.size = A at hD hZ ⊢
  have hDa : ∀ (n : ctN) (f : ctF), va_D A (ctW a cA n f) := fun _ _ => ct_D hD
  have hA : ∀ q : Nat, s.heap.size ≤ q → A q := fun q h => by rw [← hAe]; exact Or.inr h
  have hS : va_S A s.heap s.heap [] := va_S.rf
  have hl := lv_entry ([.ref (a 0), .int p1, .int p2]) (n := 3) (Nat.le_of_ble_eq_true rfl)
  rw [lg_entry_eq]
  generalize (lg_sl ([.ref (a 0), .int p1, .int p2]) ++ List.replicate (3 - (lg_sl ([.ref (a 0), .int p1, .int p2])).length) Slot.unset).toArray = ls at hl ⊢
  have hl : lv_has ls 3 [(0, .ref (a 0)), (1, .int p1), (2, .int p2)] := hl
  unfold wp_C_rule at hw
  refine lv_aload_n hx hb dC_rule_0 rfl (lv_at hl 0 rfl) ?_
  refine lv_iload_n hx hb dC_rule_1 rfl (lv_at hl 1 rfl) ?_
  refine lv_iload_n hx hb dC_rule_2 rfl (lv_at hl 2 rfl) ?_
  rcases hw with hw | hw
  rotate_left
  · exact ct_xv (vx_runV (As := [.int p1, .int p2]) (rest := []) ⟨hx, hb, hml, hown, hts⟩ (metx_C_checkPlace l hl9 dC dI a cA sa p1 p2 n f _ hw) (cwV 2 hts (wb_V wt_377 wt_379 wt_12 wt_27 wt_380) rfl rfl rfl (by decide +kernel) ⟨Nat.le_of_ble_eq_true rfl, Nat.le_of_ble_eq_true rfl⟩) (ct_preV hK hP (hDa _ _) hZ hS hA (va_recv hK hP (ci := 0) (q0 := 0) rfl rfl)) rfl rfl hl.1 rfl (lv_room (Nat.le_of_ble_eq_true rfl)) dC_rule_3 ⟨Nat.le_of_ble_eq_true rfl, Nat.le_of_ble_eq_true rfl⟩) (hDa _ _) hS hA (fun E ce q9 n' f' H locs hw hP hS h1 h2 h3 => by exact vx_out (fun x h => (htb x h).elim) hlocks h1 h2 h3 (fun t ht hvm => ⟨(n', f'), trivial, ⟨hw, ct_mkB ht hP⟩, hS.F ht⟩) hS.2.2 (Nat.le_of_ble_eq_true rfl) (Nat.le_of_ble_eq_true rfl)) (fun _ _ _ _ hw _ _ => False.elim hw)
  refine ct_v (va_runV (As := [.int p1, .int p2]) (rest := []) ⟨hx, hb, hml, hown, hts⟩ (met0_C_checkPlace l dC dI a cA sa p1 p2 n f _ hw) (cwV 2 hts (wb_V wt_377 wt_379 wt_12 wt_27 wt_380) rfl rfl rfl (by decide +kernel) ⟨Nat.le_of_ble_eq_true rfl, Nat.le_of_ble_eq_true rfl⟩) (ct_preV hK hP (hDa _ _) hZ hS hA (va_recv hK hP (ci := 0) (q0 := 0) rfl rfl)) rfl rfl hl.1 rfl (lv_room (Nat.le_of_ble_eq_true rfl)) dC_rule_3 ⟨Nat.le_of_ble_eq_true rfl, Nat.le_of_ble_eq_true rfl⟩) (hDa _ _) hS hA (fun n_2 f_3 H locs hw hP hS => ?_)
  refine lv_aload_n hx hb dC_rule_6 rfl (lv_at hl 0 rfl) ?_
  refine va_get (D := (dC, dI)) (ci := 0) (v := .ref (a 2)) (C := RC) (T := TC) (N := 2) hx hb hts (fun w h => List.mem_cons_of_mem _ (inC w h)) hown hK hP 0 rfl rfl 1 (by decide) (hts (.fieldLink RC 21 "CoverTrees" "forest" "LCoverTrees$Forest;") (List.mem_cons_of_mem _ wt_135)) (fun _ h9 => h9) rfl dC_rule_7 ?_
  refine va_get (D := (dC, dI)) (ci := 2) (v := .ref (a 15)) (C := RF) (T := TF) (N := 11) hx hb hts (fun w h => List.mem_cons_of_mem _ (inF w h)) hown hK hP 2 rfl rfl 8 (by decide) (hts (.fieldLink RC 115 "CoverTrees$Forest" "rule" "[I") (List.mem_cons_of_mem _ wt_106)) (fun _ h9 => h9) rfl dC_rule_10 ?_
  refine lv_iload_n hx hb dC_rule_13 rfl (lv_at hl 1 rfl) ?_
  refine lv_iload_n hx hb dC_rule_14 rfl (lv_at hl 2 rfl) ?_
  refine ct_i (va_runS (As := [.int p1, .int p2]) (rest := [.ref (a 15)]) ⟨hx, hb, hml, hown, hts⟩ (met_C_place l dC dI a cA sa p1 p2 n_2 f_3 _ hw) (cwS 2 hts (wb_S wt_382 wt_315 wt_27 wt_316) rfl rfl rfl (by decide +kernel) ⟨Nat.le_of_ble_eq_true rfl, Nat.le_of_ble_eq_true rfl⟩) (ct_pre hK hP (hDa _ _) hZ hS hA) rfl rfl hl.1 rfl (lv_room (Nat.le_of_ble_eq_true rfl)) dC_rule_15 ⟨Nat.le_of_ble_eq_true rfl, Nat.le_of_ble_eq_true rfl⟩) (hDa _ _) hS hA (fun r4 n_5 f_6 H locs hw hP hS => ?_)
  obtain ⟨hi7, hw⟩ := hw
  refine va_iald hx hb hK hP 15 12 rfl rfl hi7 dC_rule_18 ?_
  exact False.elim hw
def wp_C_size (post : Int32 → ctN → ctF → Prop) (xp : String → ctN → ctF → Prop) (p1 : Int32) (p2 : Int32) (n : ctN) (f : ctF) : Prop := (wp_C_checkPlace (fun (n_2 : ctN) (f_3 : ctF) => (wp_C_coverSize (fun (r4 : Int32) (n_5 : ctN) (f_6 : ctF) => post r4 n_5 f_6) xF p1 p2 n_2 f_3) ∨ (wp_C_coverSize pFi xp p1 p2 n_2 f_3)) xF p1 p2 n f) ∨ (wp_C_checkPlace pFv xp p1 p2 n f)
set_option maxHeartbeats 4000000 in
set_option maxRecDepth 100000 in
theorem met0_C_size (l : Launch) (dC : Nat → ClassId) (dI : Nat → Nat → Nat) (a : Nat → Nat) (cA : Nat → ClassId) (sa : Nat → Nat) (p1 : Int32) (p2 : Int32) (n : ctN) (f : ctF) (sz : Nat) {post : Int32 → ctN → ctF → Prop} (hw : wp_C_size post xF p1 p2 n f) : Met l yC_size wsC_size ({ frames := 7, cells := 0, slots := 0, locals := 113 } : Room) (ct_Pc dC dI a cA sa [.ref (a 0), .int p1, .int p2] n f sz) (va_Qi (fun (r : Int32) (u : ctN × ctF) => post r u.1 u.2) (ct_B dC dI a cA) (va_A (ctW a cA n f) sz)) 0 0 (va_A (ctW a cA n f) sz) := by
  refine Met.ofW (cc := cC_size) (maxL := 3) (ret := (some .int)) (by decide) rfl ?_
  intro p e s m args below meth c s₁ B hml hv
  obtain ⟨rfl, hsz, hP, hK, hD0, hZ⟩ := hv
  have hx := B.exec
  have hb := B.bytes
  have hr := B.returns
  have hts := atoms_spec (ws := wsC_size) B.pre
  have hown : s.vm.findClass RC = some m.cls := findClass_of_methodNamed B.named
  have hlocks := B.notSynchronized
  subst hsz
  have hD := hD0.self (sz := s.heap.size)
  generalize hAe : va_A (ctW a cA n f) s.heap.size = A at hD hZ ⊢
  have hDa : ∀ (n : ctN) (f : ctF), va_D A (ctW a cA n f) := fun _ _ => ct_D hD
  have hA : ∀ q : Nat, s.heap.size ≤ q → A q := fun q h => by rw [← hAe]; exact Or.inr h
  have hS : va_S A s.heap s.heap [] := va_S.rf
  have hl := lv_entry ([.ref (a 0), .int p1, .int p2]) (n := 3) (Nat.le_of_ble_eq_true rfl)
  rw [lg_entry_eq]
  generalize (lg_sl ([.ref (a 0), .int p1, .int p2]) ++ List.replicate (3 - (lg_sl ([.ref (a 0), .int p1, .int p2])).length) Slot.unset).toArray = ls at hl ⊢
  have hl : lv_has ls 3 [(0, .ref (a 0)), (1, .int p1), (2, .int p2)] := hl
  unfold wp_C_size at hw
  refine lv_aload_n hx hb dC_size_0 rfl (lv_at hl 0 rfl) ?_
  refine lv_iload_n hx hb dC_size_1 rfl (lv_at hl 1 rfl) ?_
  refine lv_iload_n hx hb dC_size_2 rfl (lv_at hl 2 rfl) ?_
  rcases hw with hw | hw
  rotate_left
  · exact ct_v (va_runV (As := [.int p1, .int p2]) (rest := []) ⟨hx, hb, hml, hown, hts⟩ (met0_C_checkPlace l dC dI a cA sa p1 p2 n f _ hw) (cwV 2 hts (wb_V wt_377 wt_379 wt_12 wt_27 wt_380) rfl rfl rfl (by decide +kernel) ⟨Nat.le_of_ble_eq_true rfl, Nat.le_of_ble_eq_true rfl⟩) (ct_preV hK hP (hDa _ _) hZ hS hA (va_recv hK hP (ci := 0) (q0 := 0) rfl rfl)) rfl rfl hl.1 rfl (lv_room (Nat.le_of_ble_eq_true rfl)) dC_size_3 ⟨Nat.le_of_ble_eq_true rfl, Nat.le_of_ble_eq_true rfl⟩) (hDa _ _) hS hA (fun _ _ _ _ hw _ _ => False.elim hw)
  refine ct_v (va_runV (As := [.int p1, .int p2]) (rest := []) ⟨hx, hb, hml, hown, hts⟩ (met0_C_checkPlace l dC dI a cA sa p1 p2 n f _ hw) (cwV 2 hts (wb_V wt_377 wt_379 wt_12 wt_27 wt_380) rfl rfl rfl (by decide +kernel) ⟨Nat.le_of_ble_eq_true rfl, Nat.le_of_ble_eq_true rfl⟩) (ct_preV hK hP (hDa _ _) hZ hS hA (va_recv hK hP (ci := 0) (q0 := 0) rfl rfl)) rfl rfl hl.1 rfl (lv_room (Nat.le_of_ble_eq_true rfl)) dC_size_3 ⟨Nat.le_of_ble_eq_true rfl, Nat.le_of_ble_eq_true rfl⟩) (hDa _ _) hS hA (fun n_2 f_3 H locs hw hP hS => ?_)
  refine lv_aload_n hx hb dC_size_6 rfl (lv_at hl 0 rfl) ?_
  refine lv_iload_n hx hb dC_size_7 rfl (lv_at hl 1 rfl) ?_
  refine lv_iload_n hx hb dC_size_8 rfl (lv_at hl 2 rfl) ?_
  rcases hw with hw | hw
  rotate_left
  · exact ct_i (va_runV (As := [.int p1, .int p2]) (rest := []) ⟨hx, hb, hml, hown, hts⟩ (met0_C_coverSize l dC dI a cA sa p1 p2 n_2 f_3 _ hw) (cwV 2 hts (wb_V wt_397 wt_399 wt_13 wt_27 wt_400) rfl rfl rfl (by decide +kernel) ⟨Nat.le_of_ble_eq_true rfl, Nat.le_of_ble_eq_true rfl⟩) (ct_preV hK hP (hDa _ _) hZ hS hA (va_recv hK hP (ci := 0) (q0 := 0) rfl rfl)) rfl rfl hl.1 rfl (lv_room (Nat.le_of_ble_eq_true rfl)) dC_size_9 ⟨Nat.le_of_ble_eq_true rfl, Nat.le_of_ble_eq_true rfl⟩) (hDa _ _) hS hA (fun _ _ _ _ _ hw _ _ => False.elim hw)
  refine ct_i (va_runV (As := [.int p1, .int p2]) (rest := []) ⟨hx, hb, hml, hown, hts⟩ (met0_C_coverSize l dC dI a cA sa p1 p2 n_2 f_3 _ hw) (cwV 2 hts (wb_V wt_397 wt_399 wt_13 wt_27 wt_400) rfl rfl rfl (by decide +kernel) ⟨Nat.le_of_ble_eq_true rfl, Nat.le_of_ble_eq_true rfl⟩) (ct_preV hK hP (hDa _ _) hZ hS hA (va_recv hK hP (ci := 0) (q0 := 0) rfl rfl)) rfl rfl hl.1 rfl (lv_room (Nat.le_of_ble_eq_true rfl)) dC_size_9 ⟨Nat.le_of_ble_eq_true rfl, Nat.le_of_ble_eq_true rfl⟩) (hDa _ _) hS hA (fun r4 n_5 f_6 H locs hw hP hS => ?_)
  exact W.iret (v := r4) hx hb hr (fun t ht hW => ⟨⟨r4, (n_5, f_6), rfl, hw, ct_mkB ht hP⟩, hS.F ht⟩) hS.2.2 dC_size_12
set_option maxHeartbeats 4000000 in
set_option maxRecDepth 100000 in
theorem metx_C_size (l : Launch) (hl9 : l.stackTraces = false) (dC : Nat → ClassId) (dI : Nat → Nat → Nat) (a : Nat → Nat) (cA : Nat → ClassId) (sa : Nat → Nat) (p1 : Int32) (p2 : Int32) (n : ctN) (f : ctF) (sz : Nat) {xp : String → ctN → ctF → Prop} (hw : wp_C_size pFi xp p1 p2 n f) : vx_Met l yC_size wsC_size ({ frames := 7, cells := 1, slots := 6, locals := 113 } : Room) (ct_Pc dC dI a cA sa [.ref (a 0), .int p1, .int p2] n f sz) (va_Qi (fun (r : Int32) (u : ctN × ctF) => pFi r u.1 u.2) (ct_B dC dI a cA) (va_A (ctW a cA n f) sz)) (vx_X (fun (_ : ctN × ctF) => True) (fun E u t => xp E u.1 u.2 ∧ ct_B dC dI a cA u t) (va_A (ctW a cA n f) sz)) 1 6 (va_A (ctW a cA n f) sz) := by
  refine vx_ofW (cc := cC_size) (maxL := 3) (ret := (some .int)) (by decide) rfl ?_
  intro p e s m args below meth c s₁ B hml htb hv
  obtain ⟨rfl, hsz, hP, hK, hD0, hZ⟩ := hv
  have hx := B.exec
  have hb := B.bytes
  have hr := B.returns
  have hts := atoms_spec (ws := wsC_size) B.pre
  have hown : s.vm.findClass RC = some m.cls := findClass_of_methodNamed B.named
  have hlocks := B.notSynchronized
  subst hsz
  have hD := hD0.self (sz := s.heap.size)
  generalize hAe : va_A (ctW a cA n f) s.heap.size = A at hD hZ ⊢
  have hDa : ∀ (n : ctN) (f : ctF), va_D A (ctW a cA n f) := fun _ _ => ct_D hD
  have hA : ∀ q : Nat, s.heap.size ≤ q → A q := fun q h => by rw [← hAe]; exact Or.inr h
  have hS : va_S A s.heap s.heap [] := va_S.rf
  have hl := lv_entry ([.ref (a 0), .int p1, .int p2]) (n := 3) (Nat.le_of_ble_eq_true rfl)
  rw [lg_entry_eq]
  generalize (lg_sl ([.ref (a 0), .int p1, .int p2]) ++ List.replicate (3 - (lg_sl ([.ref (a 0), .int p1, .int p2])).length) Slot.unset).toArray = ls at hl ⊢
  have hl : lv_has ls 3 [(0, .ref (a 0)), (1, .int p1), (2, .int p2)] := hl
  unfold wp_C_size at hw
  refine lv_aload_n hx hb dC_size_0 rfl (lv_at hl 0 rfl) ?_
  refine lv_iload_n hx hb dC_size_1 rfl (lv_at hl 1 rfl) ?_
  refine lv_iload_n hx hb dC_size_2 rfl (lv_at hl 2 rfl) ?_
  rcases hw with hw | hw
  rotate_left
  · exact ct_xv (vx_runV (As := [.int p1, .int p2]) (rest := []) ⟨hx, hb, hml, hown, hts⟩ (metx_C_checkPlace l hl9 dC dI a cA sa p1 p2 n f _ hw) (cwV 2 hts (wb_V wt_377 wt_379 wt_12 wt_27 wt_380) rfl rfl rfl (by decide +kernel) ⟨Nat.le_of_ble_eq_true rfl, Nat.le_of_ble_eq_true rfl⟩) (ct_preV hK hP (hDa _ _) hZ hS hA (va_recv hK hP (ci := 0) (q0 := 0) rfl rfl)) rfl rfl hl.1 rfl (lv_room (Nat.le_of_ble_eq_true rfl)) dC_size_3 ⟨Nat.le_of_ble_eq_true rfl, Nat.le_of_ble_eq_true rfl⟩) (hDa _ _) hS hA (fun E ce q9 n' f' H locs hw hP hS h1 h2 h3 => by exact vx_out (fun x h => (htb x h).elim) hlocks h1 h2 h3 (fun t ht hvm => ⟨(n', f'), trivial, ⟨hw, ct_mkB ht hP⟩, hS.F ht⟩) hS.2.2 (Nat.le_of_ble_eq_true rfl) (Nat.le_of_ble_eq_true rfl)) (fun _ _ _ _ hw _ _ => False.elim hw)
  refine ct_v (va_runV (As := [.int p1, .int p2]) (rest := []) ⟨hx, hb, hml, hown, hts⟩ (met0_C_checkPlace l dC dI a cA sa p1 p2 n f _ hw) (cwV 2 hts (wb_V wt_377 wt_379 wt_12 wt_27 wt_380) rfl rfl rfl (by decide +kernel) ⟨Nat.le_of_ble_eq_true rfl, Nat.le_of_ble_eq_true rfl⟩) (ct_preV hK hP (hDa _ _) hZ hS hA (va_recv hK hP (ci := 0) (q0 := 0) rfl rfl)) rfl rfl hl.1 rfl (lv_room (Nat.le_of_ble_eq_true rfl)) dC_size_3 ⟨Nat.le_of_ble_eq_true rfl, Nat.le_of_ble_eq_true rfl⟩) (hDa _ _) hS hA (fun n_2 f_3 H locs hw hP hS => ?_)
  refine lv_aload_n hx hb dC_size_6 rfl (lv_at hl 0 rfl) ?_
  refine lv_iload_n hx hb dC_size_7 rfl (lv_at hl 1 rfl) ?_
  refine lv_iload_n hx hb dC_size_8 rfl (lv_at hl 2 rfl) ?_
  rcases hw with hw | hw
  rotate_left
  · exact ct_xi (vx_runV (As := [.int p1, .int p2]) (rest := []) ⟨hx, hb, hml, hown, hts⟩ (metx_C_coverSize l hl9 dC dI a cA sa p1 p2 n_2 f_3 _ hw) (cwV 2 hts (wb_V wt_397 wt_399 wt_13 wt_27 wt_400) rfl rfl rfl (by decide +kernel) ⟨Nat.le_of_ble_eq_true rfl, Nat.le_of_ble_eq_true rfl⟩) (ct_preV hK hP (hDa _ _) hZ hS hA (va_recv hK hP (ci := 0) (q0 := 0) rfl rfl)) rfl rfl hl.1 rfl (lv_room (Nat.le_of_ble_eq_true rfl)) dC_size_9 ⟨Nat.le_of_ble_eq_true rfl, Nat.le_of_ble_eq_true rfl⟩) (hDa _ _) hS hA (fun E ce q9 n' f' H locs hw hP hS h1 h2 h3 => by exact vx_out (fun x h => (htb x h).elim) hlocks h1 h2 h3 (fun t ht hvm => ⟨(n', f'), trivial, ⟨hw, ct_mkB ht hP⟩, hS.F ht⟩) hS.2.2 (Nat.le_of_ble_eq_true rfl) (Nat.le_of_ble_eq_true rfl)) (fun _ _ _ _ _ hw _ _ => False.elim hw)
  refine ct_i (va_runV (As := [.int p1, .int p2]) (rest := []) ⟨hx, hb, hml, hown, hts⟩ (met0_C_coverSize l dC dI a cA sa p1 p2 n_2 f_3 _ hw) (cwV 2 hts (wb_V wt_397 wt_399 wt_13 wt_27 wt_400) rfl rfl rfl (by decide +kernel) ⟨Nat.le_of_ble_eq_true rfl, Nat.le_of_ble_eq_true rfl⟩) (ct_preV hK hP (hDa _ _) hZ hS hA (va_recv hK hP (ci := 0) (q0 := 0) rfl rfl)) rfl rfl hl.1 rfl (lv_room (Nat.le_of_ble_eq_true rfl)) dC_size_9 ⟨Nat.le_of_ble_eq_true rfl, Nat.le_of_ble_eq_true rfl⟩) (hDa _ _) hS hA (fun r4 n_5 f_6 H locs hw hP hS => ?_)
  exact False.elim hw
def wp_C_cover_J35 (post : Int32 → ctN → ctF → Prop) (xp : String → ctN → ctF → Prop) (x1 : Int32) (x2 : Int32) (x3 : Int32) (x4 : Int32) (x5 : Int32) (n : ctN) (f : ctF) : Prop := (x3 < 0 → (xp "java/lang/IndexOutOfBoundsException" n f)) ∧ (¬ x3 < 0 → ((x3 < x5 → (wp_C_place (fun (r10 : Int32) (n_11 : ctN) (f_12 : ctF) => wp_F_findInCover (fun (r13 : Int32) (n_14 : ctN) (f_15 : ctF) => (¬ x4 = 0 → (post (r13 / 8) n_14 f_15)) ∧ (x4 = 0 → (vp_in r13 960 ∧ (post (f_15 15 r13.toNatClampNeg) n_14 f_15)))) r10 x3 n_11 f_12) x1 x2 n f)) ∧ (¬ x3 < x5 → (xp "java/lang/IndexOutOfBoundsException" n f))))
def wp_C_cover (post : Int32 → ctN → ctF → Prop) (xp : String → ctN → ctF → Prop) (p1 : Int32) (p2 : Int32) (p3 : Int32) (p4 : Int32) (n : ctN) (f : ctF) : Prop := (wp_C_checkPlace (fun (n_2 : ctN) (f_3 : ctF) => (wp_C_coverSize (fun (r4 : Int32) (n_5 : ctN) (f_6 : ctF) => (p4 = 0 → (wp_C_cover_J35 post xp p1 p2 p3 p4 r4 n_5 f_6)) ∧ (¬ p4 = 0 → ((p4 = 1 → (wp_C_cover_J35 post xp p1 p2 p3 p4 r4 n_5 f_6)) ∧ (¬ p4 = 1 → (xp "java/lang/IllegalArgumentException" n_5 f_6))))) xF p1 p2 n_2 f_3) ∨ (wp_C_coverSize pFi xp p1 p2 n_2 f_3)) xF p1 p2 n f) ∨ (wp_C_checkPlace pFv xp p1 p2 n f)
set_option maxHeartbeats 4000000 in
set_option maxRecDepth 100000 in
theorem met0_C_cover (l : Launch) (dC : Nat → ClassId) (dI : Nat → Nat → Nat) (a : Nat → Nat) (cA : Nat → ClassId) (sa : Nat → Nat) (p1 : Int32) (p2 : Int32) (p3 : Int32) (p4 : Int32) (n : ctN) (f : ctF) (sz : Nat) {post : Int32 → ctN → ctF → Prop} (hw : wp_C_cover post xF p1 p2 p3 p4 n f) : Met l yC_cover wsC_cover ({ frames := 7, cells := 0, slots := 0, locals := 113 } : Room) (ct_Pc dC dI a cA sa [.ref (a 0), .int p1, .int p2, .int p3, .int p4] n f sz) (va_Qi (fun (r : Int32) (u : ctN × ctF) => post r u.1 u.2) (ct_B dC dI a cA) (va_A (ctW a cA n f) sz)) 0 0 (va_A (ctW a cA n f) sz) := by
  refine Met.ofW (cc := cC_cover) (maxL := 7) (ret := (some .int)) (by decide) rfl ?_
  intro p e s m args below meth c s₁ B hml hv
  obtain ⟨rfl, hsz, hP, hK, hD0, hZ⟩ := hv
  have hx := B.exec
  have hb := B.bytes
  have hr := B.returns
  have hts := atoms_spec (ws := wsC_cover) B.pre
  have hown : s.vm.findClass RC = some m.cls := findClass_of_methodNamed B.named
  have hlocks := B.notSynchronized
  subst hsz
  have hD := hD0.self (sz := s.heap.size)
  generalize hAe : va_A (ctW a cA n f) s.heap.size = A at hD hZ ⊢
  have hDa : ∀ (n : ctN) (f : ctF), va_D A (ctW a cA n f) := fun _ _ => ct_D hD
  have hA : ∀ q : Nat, s.heap.size ≤ q → A q := fun q h => by rw [← hAe]; exact Or.inr h
  have hS : va_S A s.heap s.heap [] := va_S.rf
  have hl := lv_entry ([.ref (a 0), .int p1, .int p2, .int p3, .int p4]) (n := 7) (Nat.le_of_ble_eq_true rfl)
  rw [lg_entry_eq]
  generalize (lg_sl ([.ref (a 0), .int p1, .int p2, .int p3, .int p4]) ++ List.replicate (7 - (lg_sl ([.ref (a 0), .int p1, .int p2, .int p3, .int p4])).length) Slot.unset).toArray = ls at hl ⊢
  have hl : lv_has ls 7 [(0, .ref (a 0)), (1, .int p1), (2, .int p2), (3, .int p3), (4, .int p4)] := hl
  unfold wp_C_cover at hw
  have join_35 : ∀ (x1 x2 x3 x4 x5 : Int32) (n : ctN) (f : ctF) (H : Heap) (locs : List Loc) (ls : Array Slot), wp_C_cover_J35 post xF x1 x2 x3 x4 x5 n f → va_P (dC, dI) vcl (ctW a cA n f) H → va_S A s.heap H locs → lv_has ls 7 [(0, .ref (a 0)), (1, .int x1), (2, .int x2), (3, .int x3), (4, .int x4), (5, .int x5)] → W p l e (headSpec wsC_cover ({ frames := 7, cells := 0, slots := 0, locals := 113 } : Room)).room s m (([.ref (a 0), .int p1, .int p2, .int p3, .int p4] : List Value).toArray) below meth c H locs 0 0 (MQ below (va_Qi (fun (r : Int32) (u : ctN × ctF) => post r u.1 u.2) (ct_B dC dI a cA) A) (([.ref (a 0), .int p1, .int p2, .int p3, .int p4] : List Value).toArray) s 0 0 A) (F0 m 35 ls []) := by
    intro x1 x2 x3 x4 x5 n f H locs ls hw hP hS hl
    unfold wp_C_cover_J35 at hw
    refine lv_iload_n hx hb dC_cover_35 rfl (lv_at hl 3 rfl) ?_
    refine lv_if_lt (tgt := 45) hx hb dC_cover_36 (by decide) (fun c8 => ?_) (fun c8 => ?_)
    · have hw := hw.1 c8
      exact False.elim hw
    · have hw := hw.2 c8
      refine lv_iload_n hx hb dC_cover_39 rfl (lv_at hl 3 rfl) ?_
      refine lv_iload hx hb dC_cover_40 (lv_at hl 5 rfl) ?_
      refine lv_icmp_lt (tgt := 55) hx hb dC_cover_42 (by decide) (fun c9 => ?_) (fun c9 => ?_)
      · have hw := hw.1 c9
        refine lv_aload_n hx hb dC_cover_55 rfl (lv_at hl 0 rfl) ?_
        refine va_get (D := (dC, dI)) (ci := 0) (v := .ref (a 2)) (C := RC) (T := TC) (N := 2) hx hb hts (fun w h => List.mem_cons_of_mem _ (inC w h)) hown hK hP 0 rfl rfl 1 (by decide) (hts (.fieldLink RC 21 "CoverTrees" "forest" "LCoverTrees$Forest;") (List.mem_cons_of_mem _ wt_135)) (fun _ h9 => h9) rfl dC_cover_56 ?_
        refine lv_iload_n hx hb dC_cover_59 rfl (lv_at hl 1 rfl) ?_
        refine lv_iload_n hx hb dC_cover_60 rfl (lv_at hl 2 rfl) ?_
        refine ct_i (va_runS (As := [.int x1, .int x2]) (rest := [.ref (a 2)]) ⟨hx, hb, hml, hown, hts⟩ (met_C_place l dC dI a cA sa x1 x2 n f _ hw) (cwS 2 hts (wb_S wt_382 wt_315 wt_27 wt_316) rfl rfl rfl (by decide +kernel) ⟨Nat.le_of_ble_eq_true rfl, Nat.le_of_ble_eq_true rfl⟩) (ct_pre hK hP (hDa _ _) hZ hS hA) rfl rfl hl.1 rfl (lv_room (Nat.le_of_ble_eq_true rfl)) dC_cover_61 ⟨Nat.le_of_ble_eq_true rfl, Nat.le_of_ble_eq_true rfl⟩) (hDa _ _) hS hA (fun r10 n_11 f_12 H locs hw hP hS => ?_)
        refine lv_iload_n hx hb dC_cover_64 rfl (lv_at hl 3 rfl) ?_
        refine ct_i (va_runV (As := [.int r10, .int x3]) (rest := []) ⟨hx, hb, hml, hown, hts⟩ (met_F_findInCover l dC dI a cA sa r10 x3 n_11 f_12 _ hw) (cwV 2 hts (wb_V wt_427 wt_428 wt_429 wt_29 wt_430) rfl rfl rfl (by decide +kernel) ⟨Nat.le_of_ble_eq_true rfl, Nat.le_of_ble_eq_true rfl⟩) (ct_preV hK hP (hDa _ _) hZ hS hA (va_recv hK hP (ci := 2) (q0 := 2) rfl rfl)) rfl rfl hl.1 rfl (lv_room (Nat.le_of_ble_eq_true rfl)) dC_cover_65 ⟨Nat.le_of_ble_eq_true rfl, Nat.le_of_ble_eq_true rfl⟩) (hDa _ _) hS hA (fun r13 n_14 f_15 H locs hw hP hS => ?_)
        refine lv_istore (lv' := [(6, .int r13), (0, .ref (a 0)), (1, .int x1), (2, .int x2), (3, .int x3), (4, .int x4), (5, .int x5)]) hx hb dC_cover_68 hl (by decide) rfl (fun ls hl => ?_)
        refine lv_iload hx hb dC_cover_70 (lv_at hl 5 rfl) ?_
        refine lv_if_ne (tgt := 88) hx hb dC_cover_72 (by decide) (fun c16 => ?_) (fun c16 => ?_)
        · have hw := hw.1 c16
          refine lv_iload hx hb dC_cover_88 (lv_at hl 0 rfl) ?_
          refine lv_bipush (v := 8) hx hb dC_cover_90 (by decide) ?_
          refine lv_idiv hx hb dC_cover_92 (by decide) ?_
          exact W.iret (v := (r13 / 8)) hx hb hr (fun t ht hW => ⟨⟨(r13 / 8), (n_14, f_15), rfl, hw, ct_mkB ht hP⟩, hS.F ht⟩) hS.2.2 dC_cover_93
        · have hw := hw.2 c16
          refine lv_aload_n hx hb dC_cover_75 rfl (lv_at hl 1 rfl) ?_
          refine va_get (D := (dC, dI)) (ci := 0) (v := .ref (a 2)) (C := RC) (T := TC) (N := 2) hx hb hts (fun w h => List.mem_cons_of_mem _ (inC w h)) hown hK hP 0 rfl rfl 1 (by decide) (hts (.fieldLink RC 21 "CoverTrees" "forest" "LCoverTrees$Forest;") (List.mem_cons_of_mem _ wt_135)) (fun _ h9 => h9) rfl dC_cover_76 ?_
          refine va_get (D := (dC, dI)) (ci := 2) (v := .ref (a 15)) (C := RF) (T := TF) (N := 11) hx hb hts (fun w h => List.mem_cons_of_mem _ (inF w h)) hown hK hP 2 rfl rfl 8 (by decide) (hts (.fieldLink RC 115 "CoverTrees$Forest" "rule" "[I") (List.mem_cons_of_mem _ wt_106)) (fun _ h9 => h9) rfl dC_cover_79 ?_
          refine lv_iload hx hb dC_cover_82 (lv_at hl 0 rfl) ?_
          obtain ⟨hi17, hw⟩ := hw
          refine va_iald hx hb hK hP 15 12 rfl rfl hi17 dC_cover_84 ?_
          refine lv_goto (tgt := 93) hx hb dC_cover_85 (by decide) ?_
          exact W.iret (v := (f_15 15 r13.toNatClampNeg)) hx hb hr (fun t ht hW => ⟨⟨(f_15 15 r13.toNatClampNeg), (n_14, f_15), rfl, hw, ct_mkB ht hP⟩, hS.F ht⟩) hS.2.2 dC_cover_93
      · have hw := hw.2 c9
        exact False.elim hw
  refine lv_aload_n hx hb dC_cover_0 rfl (lv_at hl 0 rfl) ?_
  refine lv_iload_n hx hb dC_cover_1 rfl (lv_at hl 1 rfl) ?_
  refine lv_iload_n hx hb dC_cover_2 rfl (lv_at hl 2 rfl) ?_
  rcases hw with hw | hw
  rotate_left
  · exact ct_v (va_runV (As := [.int p1, .int p2]) (rest := []) ⟨hx, hb, hml, hown, hts⟩ (met0_C_checkPlace l dC dI a cA sa p1 p2 n f _ hw) (cwV 2 hts (wb_V wt_377 wt_379 wt_12 wt_27 wt_380) rfl rfl rfl (by decide +kernel) ⟨Nat.le_of_ble_eq_true rfl, Nat.le_of_ble_eq_true rfl⟩) (ct_preV hK hP (hDa _ _) hZ hS hA (va_recv hK hP (ci := 0) (q0 := 0) rfl rfl)) rfl rfl hl.1 rfl (lv_room (Nat.le_of_ble_eq_true rfl)) dC_cover_3 ⟨Nat.le_of_ble_eq_true rfl, Nat.le_of_ble_eq_true rfl⟩) (hDa _ _) hS hA (fun _ _ _ _ hw _ _ => False.elim hw)
  refine ct_v (va_runV (As := [.int p1, .int p2]) (rest := []) ⟨hx, hb, hml, hown, hts⟩ (met0_C_checkPlace l dC dI a cA sa p1 p2 n f _ hw) (cwV 2 hts (wb_V wt_377 wt_379 wt_12 wt_27 wt_380) rfl rfl rfl (by decide +kernel) ⟨Nat.le_of_ble_eq_true rfl, Nat.le_of_ble_eq_true rfl⟩) (ct_preV hK hP (hDa _ _) hZ hS hA (va_recv hK hP (ci := 0) (q0 := 0) rfl rfl)) rfl rfl hl.1 rfl (lv_room (Nat.le_of_ble_eq_true rfl)) dC_cover_3 ⟨Nat.le_of_ble_eq_true rfl, Nat.le_of_ble_eq_true rfl⟩) (hDa _ _) hS hA (fun n_2 f_3 H locs hw hP hS => ?_)
  refine lv_aload_n hx hb dC_cover_6 rfl (lv_at hl 0 rfl) ?_
  refine lv_iload_n hx hb dC_cover_7 rfl (lv_at hl 1 rfl) ?_
  refine lv_iload_n hx hb dC_cover_8 rfl (lv_at hl 2 rfl) ?_
  rcases hw with hw | hw
  rotate_left
  · exact ct_i (va_runV (As := [.int p1, .int p2]) (rest := []) ⟨hx, hb, hml, hown, hts⟩ (met0_C_coverSize l dC dI a cA sa p1 p2 n_2 f_3 _ hw) (cwV 2 hts (wb_V wt_397 wt_399 wt_13 wt_27 wt_400) rfl rfl rfl (by decide +kernel) ⟨Nat.le_of_ble_eq_true rfl, Nat.le_of_ble_eq_true rfl⟩) (ct_preV hK hP (hDa _ _) hZ hS hA (va_recv hK hP (ci := 0) (q0 := 0) rfl rfl)) rfl rfl hl.1 rfl (lv_room (Nat.le_of_ble_eq_true rfl)) dC_cover_9 ⟨Nat.le_of_ble_eq_true rfl, Nat.le_of_ble_eq_true rfl⟩) (hDa _ _) hS hA (fun _ _ _ _ _ hw _ _ => False.elim hw)
  refine ct_i (va_runV (As := [.int p1, .int p2]) (rest := []) ⟨hx, hb, hml, hown, hts⟩ (met0_C_coverSize l dC dI a cA sa p1 p2 n_2 f_3 _ hw) (cwV 2 hts (wb_V wt_397 wt_399 wt_13 wt_27 wt_400) rfl rfl rfl (by decide +kernel) ⟨Nat.le_of_ble_eq_true rfl, Nat.le_of_ble_eq_true rfl⟩) (ct_preV hK hP (hDa _ _) hZ hS hA (va_recv hK hP (ci := 0) (q0 := 0) rfl rfl)) rfl rfl hl.1 rfl (lv_room (Nat.le_of_ble_eq_true rfl)) dC_cover_9 ⟨Nat.le_of_ble_eq_true rfl, Nat.le_of_ble_eq_true rfl⟩) (hDa _ _) hS hA (fun r4 n_5 f_6 H locs hw hP hS => ?_)
  refine lv_istore (lv' := [(5, .int r4), (0, .ref (a 0)), (1, .int p1), (2, .int p2), (3, .int p3), (4, .int p4)]) hx hb dC_cover_12 hl (by decide) rfl (fun ls hl => ?_)
  refine lv_iload hx hb dC_cover_14 (lv_at hl 5 rfl) ?_
  refine lv_if_eq (tgt := 35) hx hb dC_cover_16 (by decide) (fun c7 => ?_) (fun c7 => ?_)
  · have hw := hw.1 c7
    exact join_35 p1 p2 p3 p4 r4 n_5 f_6 _ _ ls hw hP hS (lv_sub hl [1, 2, 3, 4, 5, 0] rfl)
  · have hw := hw.2 c7
    refine lv_iload hx hb dC_cover_19 (lv_at hl 5 rfl) ?_
    refine lv_iconst (v := 1) hx hb dC_cover_21 (by decide) ?_
    refine lv_icmp_eq (tgt := 35) hx hb dC_cover_22 (by decide) (fun c18 => ?_) (fun c18 => ?_)
    · have hw := hw.1 c18
      exact join_35 p1 p2 p3 p4 r4 n_5 f_6 _ _ ls hw hP hS (lv_sub hl [1, 2, 3, 4, 5, 0] rfl)
    · have hw := hw.2 c18
      exact False.elim hw
set_option maxHeartbeats 4000000 in
set_option maxRecDepth 100000 in
theorem metx_C_cover (l : Launch) (hl9 : l.stackTraces = false) (dC : Nat → ClassId) (dI : Nat → Nat → Nat) (a : Nat → Nat) (cA : Nat → ClassId) (sa : Nat → Nat) (p1 : Int32) (p2 : Int32) (p3 : Int32) (p4 : Int32) (n : ctN) (f : ctF) (sz : Nat) {xp : String → ctN → ctF → Prop} (hw : wp_C_cover pFi xp p1 p2 p3 p4 n f) : vx_Met l yC_cover wsC_cover ({ frames := 7, cells := 1, slots := 6, locals := 113 } : Room) (ct_Pc dC dI a cA sa [.ref (a 0), .int p1, .int p2, .int p3, .int p4] n f sz) (va_Qi (fun (r : Int32) (u : ctN × ctF) => pFi r u.1 u.2) (ct_B dC dI a cA) (va_A (ctW a cA n f) sz)) (vx_X (fun (_ : ctN × ctF) => True) (fun E u t => xp E u.1 u.2 ∧ ct_B dC dI a cA u t) (va_A (ctW a cA n f) sz)) 1 6 (va_A (ctW a cA n f) sz) := by
  refine vx_ofW (cc := cC_cover) (maxL := 7) (ret := (some .int)) (by decide) rfl ?_
  intro p e s m args below meth c s₁ B hml htb hv
  obtain ⟨rfl, hsz, hP, hK, hD0, hZ⟩ := hv
  have hx := B.exec
  have hb := B.bytes
  have hr := B.returns
  have hts := atoms_spec (ws := wsC_cover) B.pre
  have hown : s.vm.findClass RC = some m.cls := findClass_of_methodNamed B.named
  have hlocks := B.notSynchronized
  subst hsz
  have hD := hD0.self (sz := s.heap.size)
  generalize hAe : va_A (ctW a cA n f) s.heap.size = A at hD hZ ⊢
  have hDa : ∀ (n : ctN) (f : ctF), va_D A (ctW a cA n f) := fun _ _ => ct_D hD
  have hA : ∀ q : Nat, s.heap.size ≤ q → A q := fun q h => by rw [← hAe]; exact Or.inr h
  have hS : va_S A s.heap s.heap [] := va_S.rf
  have hl := lv_entry ([.ref (a 0), .int p1, .int p2, .int p3, .int p4]) (n := 7) (Nat.le_of_ble_eq_true rfl)
  rw [lg_entry_eq]
  generalize (lg_sl ([.ref (a 0), .int p1, .int p2, .int p3, .int p4]) ++ List.replicate (7 - (lg_sl ([.ref (a 0), .int p1, .int p2, .int p3, .int p4])).length) Slot.unset).toArray = ls at hl ⊢
  have hl : lv_has ls 7 [(0, .ref (a 0)), (1, .int p1), (2, .int p2), (3, .int p3), (4, .int p4)] := hl
  unfold wp_C_cover at hw
  have join_35 : ∀ (x1 x2 x3 x4 x5 : Int32) (n : ctN) (f : ctF) (H : Heap) (locs : List Loc) (ls : Array Slot), wp_C_cover_J35 pFi xp x1 x2 x3 x4 x5 n f → va_P (dC, dI) vcl (ctW a cA n f) H → va_S A s.heap H locs → lv_has ls 7 [(0, .ref (a 0)), (1, .int x1), (2, .int x2), (3, .int x3), (4, .int x4), (5, .int x5)] → W p l e (headSpec wsC_cover ({ frames := 7, cells := 1, slots := 6, locals := 113 } : Room)).room s m (([.ref (a 0), .int p1, .int p2, .int p3, .int p4] : List Value).toArray) below meth c H locs 0 0 (vx_MQ below (va_Qi (fun (r : Int32) (u : ctN × ctF) => pFi r u.1 u.2) (ct_B dC dI a cA) A) (vx_X (fun (_ : ctN × ctF) => True) (fun E u t => xp E u.1 u.2 ∧ ct_B dC dI a cA u t) A) (([.ref (a 0), .int p1, .int p2, .int p3, .int p4] : List Value).toArray) s 1 6 A) (F0 m 35 ls []) := by
    intro x1 x2 x3 x4 x5 n f H locs ls hw hP hS hl
    unfold wp_C_cover_J35 at hw
    refine lv_iload_n hx hb dC_cover_35 rfl (lv_at hl 3 rfl) ?_
    refine lv_if_lt (tgt := 45) hx hb dC_cover_36 (by decide) (fun c8 => ?_) (fun c8 => ?_)
    · have hw := hw.1 c8
      exact vx_throwS (own := RC) (cls := "java/lang/IndexOutOfBoundsException") (text := "the cover has no such rule") (names := ["java/lang/RuntimeException", "java/lang/Exception"]) (ik := 123) (is := 125) (ic := 127) (sa := sa 15) hx hb hl9 hown (by decide +kernel) (by decide +kernel) (hts (.classLink RC 123 "java/lang/IndexOutOfBoundsException") (List.mem_cons_of_mem _ wt_411)) (hts (.initialized "java/lang/IndexOutOfBoundsException") (List.mem_cons_of_mem _ wt_37)) hZ.2.2.2.2.2.2.2.2.2.2.2.2.2.2.2.2.2.2.2.2.2.2.2.2.2.1 (vx_hat (L := vx_atS RC 127 "java/lang/IndexOutOfBoundsException" ["java/lang/RuntimeException", "java/lang/Exception"]) (B := [.castable "java/lang/IndexOutOfBoundsException" "java/lang/IndexOutOfBoundsException", .declares ⟨"java/lang/RuntimeException", "<init>", "(Ljava/lang/String;)V"⟩, .declares ⟨"java/lang/Exception", "<init>", "(Ljava/lang/String;)V"⟩, .declares ⟨"java/lang/Throwable", "<init>", "(Ljava/lang/String;)V"⟩]) (fun w hw => hts w (List.mem_cons_of_mem _ (at_C_127 w hw))) bd_C_127 (vx_c (va_Nw.use rfl hZ.2.2.2.1) (vx_c (va_Nw.use rfl hZ.2.2.2.2.1) (vx_c (va_Nw.use rfl hZ.2.2.2.2.2.1) (vx_c (va_Nw.use rfl hZ.2.2.2.2.2.2.1) (vx_n)))))) gd_C_127 hZ.2.2.2.2.2.2.2.2.2.2.2.2.2.2.2.2.2.2.2.2.2.2.2.2.2.2.1 hZ.2.2.2.2.2.2.2.2.2.2.2.2.2.2.2.2.2.2.2.2.2.2.2.2.2.2.2 hS (hl.1.trans hml.symm) dC_cover_45 dC_cover_48 dC_cover_49 dC_cover_51 dC_cover_54 (fun x h => (htb x h).elim) (Nat.le_of_ble_eq_true rfl) (Nat.le_of_ble_eq_true rfl) (Nat.le_of_ble_eq_true rfl) (Nat.le_of_ble_eq_true rfl) hlocks (fun t _ h1 h2 => ⟨(n, f), trivial, ⟨hw, (ct_thr hP hS h1 h2).1⟩, (ct_thr hP hS h1 h2).2⟩) hS.2.2 (Nat.le_of_ble_eq_true rfl) (Nat.le_of_ble_eq_true rfl)
    · have hw := hw.2 c8
      refine lv_iload_n hx hb dC_cover_39 rfl (lv_at hl 3 rfl) ?_
      refine lv_iload hx hb dC_cover_40 (lv_at hl 5 rfl) ?_
      refine lv_icmp_lt (tgt := 55) hx hb dC_cover_42 (by decide) (fun c9 => ?_) (fun c9 => ?_)
      · have hw := hw.1 c9
        refine lv_aload_n hx hb dC_cover_55 rfl (lv_at hl 0 rfl) ?_
        refine va_get (D := (dC, dI)) (ci := 0) (v := .ref (a 2)) (C := RC) (T := TC) (N := 2) hx hb hts (fun w h => List.mem_cons_of_mem _ (inC w h)) hown hK hP 0 rfl rfl 1 (by decide) (hts (.fieldLink RC 21 "CoverTrees" "forest" "LCoverTrees$Forest;") (List.mem_cons_of_mem _ wt_135)) (fun _ h9 => h9) rfl dC_cover_56 ?_
        refine lv_iload_n hx hb dC_cover_59 rfl (lv_at hl 1 rfl) ?_
        refine lv_iload_n hx hb dC_cover_60 rfl (lv_at hl 2 rfl) ?_
        refine ct_i (va_runS (As := [.int x1, .int x2]) (rest := [.ref (a 2)]) ⟨hx, hb, hml, hown, hts⟩ (met_C_place l dC dI a cA sa x1 x2 n f _ hw) (cwS 2 hts (wb_S wt_382 wt_315 wt_27 wt_316) rfl rfl rfl (by decide +kernel) ⟨Nat.le_of_ble_eq_true rfl, Nat.le_of_ble_eq_true rfl⟩) (ct_pre hK hP (hDa _ _) hZ hS hA) rfl rfl hl.1 rfl (lv_room (Nat.le_of_ble_eq_true rfl)) dC_cover_61 ⟨Nat.le_of_ble_eq_true rfl, Nat.le_of_ble_eq_true rfl⟩) (hDa _ _) hS hA (fun r10 n_11 f_12 H locs hw hP hS => ?_)
        refine lv_iload_n hx hb dC_cover_64 rfl (lv_at hl 3 rfl) ?_
        refine ct_i (va_runV (As := [.int r10, .int x3]) (rest := []) ⟨hx, hb, hml, hown, hts⟩ (met_F_findInCover l dC dI a cA sa r10 x3 n_11 f_12 _ hw) (cwV 2 hts (wb_V wt_427 wt_428 wt_429 wt_29 wt_430) rfl rfl rfl (by decide +kernel) ⟨Nat.le_of_ble_eq_true rfl, Nat.le_of_ble_eq_true rfl⟩) (ct_preV hK hP (hDa _ _) hZ hS hA (va_recv hK hP (ci := 2) (q0 := 2) rfl rfl)) rfl rfl hl.1 rfl (lv_room (Nat.le_of_ble_eq_true rfl)) dC_cover_65 ⟨Nat.le_of_ble_eq_true rfl, Nat.le_of_ble_eq_true rfl⟩) (hDa _ _) hS hA (fun r13 n_14 f_15 H locs hw hP hS => ?_)
        refine lv_istore (lv' := [(6, .int r13), (0, .ref (a 0)), (1, .int x1), (2, .int x2), (3, .int x3), (4, .int x4), (5, .int x5)]) hx hb dC_cover_68 hl (by decide) rfl (fun ls hl => ?_)
        refine lv_iload hx hb dC_cover_70 (lv_at hl 5 rfl) ?_
        refine lv_if_ne (tgt := 88) hx hb dC_cover_72 (by decide) (fun c16 => ?_) (fun c16 => ?_)
        · have hw := hw.1 c16
          refine lv_iload hx hb dC_cover_88 (lv_at hl 0 rfl) ?_
          refine lv_bipush (v := 8) hx hb dC_cover_90 (by decide) ?_
          refine lv_idiv hx hb dC_cover_92 (by decide) ?_
          exact False.elim hw
        · have hw := hw.2 c16
          refine lv_aload_n hx hb dC_cover_75 rfl (lv_at hl 1 rfl) ?_
          refine va_get (D := (dC, dI)) (ci := 0) (v := .ref (a 2)) (C := RC) (T := TC) (N := 2) hx hb hts (fun w h => List.mem_cons_of_mem _ (inC w h)) hown hK hP 0 rfl rfl 1 (by decide) (hts (.fieldLink RC 21 "CoverTrees" "forest" "LCoverTrees$Forest;") (List.mem_cons_of_mem _ wt_135)) (fun _ h9 => h9) rfl dC_cover_76 ?_
          refine va_get (D := (dC, dI)) (ci := 2) (v := .ref (a 15)) (C := RF) (T := TF) (N := 11) hx hb hts (fun w h => List.mem_cons_of_mem _ (inF w h)) hown hK hP 2 rfl rfl 8 (by decide) (hts (.fieldLink RC 115 "CoverTrees$Forest" "rule" "[I") (List.mem_cons_of_mem _ wt_106)) (fun _ h9 => h9) rfl dC_cover_79 ?_
          refine lv_iload hx hb dC_cover_82 (lv_at hl 0 rfl) ?_
          obtain ⟨hi17, hw⟩ := hw
          refine va_iald hx hb hK hP 15 12 rfl rfl hi17 dC_cover_84 ?_
          refine lv_goto (tgt := 93) hx hb dC_cover_85 (by decide) ?_
          exact False.elim hw
      · have hw := hw.2 c9
        exact vx_throwS (own := RC) (cls := "java/lang/IndexOutOfBoundsException") (text := "the cover has no such rule") (names := ["java/lang/RuntimeException", "java/lang/Exception"]) (ik := 123) (is := 125) (ic := 127) (sa := sa 15) hx hb hl9 hown (by decide +kernel) (by decide +kernel) (hts (.classLink RC 123 "java/lang/IndexOutOfBoundsException") (List.mem_cons_of_mem _ wt_411)) (hts (.initialized "java/lang/IndexOutOfBoundsException") (List.mem_cons_of_mem _ wt_37)) hZ.2.2.2.2.2.2.2.2.2.2.2.2.2.2.2.2.2.2.2.2.2.2.2.2.2.1 (vx_hat (L := vx_atS RC 127 "java/lang/IndexOutOfBoundsException" ["java/lang/RuntimeException", "java/lang/Exception"]) (B := [.castable "java/lang/IndexOutOfBoundsException" "java/lang/IndexOutOfBoundsException", .declares ⟨"java/lang/RuntimeException", "<init>", "(Ljava/lang/String;)V"⟩, .declares ⟨"java/lang/Exception", "<init>", "(Ljava/lang/String;)V"⟩, .declares ⟨"java/lang/Throwable", "<init>", "(Ljava/lang/String;)V"⟩]) (fun w hw => hts w (List.mem_cons_of_mem _ (at_C_127 w hw))) bd_C_127 (vx_c (va_Nw.use rfl hZ.2.2.2.1) (vx_c (va_Nw.use rfl hZ.2.2.2.2.1) (vx_c (va_Nw.use rfl hZ.2.2.2.2.2.1) (vx_c (va_Nw.use rfl hZ.2.2.2.2.2.2.1) (vx_n)))))) gd_C_127 hZ.2.2.2.2.2.2.2.2.2.2.2.2.2.2.2.2.2.2.2.2.2.2.2.2.2.2.1 hZ.2.2.2.2.2.2.2.2.2.2.2.2.2.2.2.2.2.2.2.2.2.2.2.2.2.2.2 hS (hl.1.trans hml.symm) dC_cover_45 dC_cover_48 dC_cover_49 dC_cover_51 dC_cover_54 (fun x h => (htb x h).elim) (Nat.le_of_ble_eq_true rfl) (Nat.le_of_ble_eq_true rfl) (Nat.le_of_ble_eq_true rfl) (Nat.le_of_ble_eq_true rfl) hlocks (fun t _ h1 h2 => ⟨(n, f), trivial, ⟨hw, (ct_thr hP hS h1 h2).1⟩, (ct_thr hP hS h1 h2).2⟩) hS.2.2 (Nat.le_of_ble_eq_true rfl) (Nat.le_of_ble_eq_true rfl)
  refine lv_aload_n hx hb dC_cover_0 rfl (lv_at hl 0 rfl) ?_
  refine lv_iload_n hx hb dC_cover_1 rfl (lv_at hl 1 rfl) ?_
  refine lv_iload_n hx hb dC_cover_2 rfl (lv_at hl 2 rfl) ?_
  rcases hw with hw | hw
  rotate_left
  · exact ct_xv (vx_runV (As := [.int p1, .int p2]) (rest := []) ⟨hx, hb, hml, hown, hts⟩ (metx_C_checkPlace l hl9 dC dI a cA sa p1 p2 n f _ hw) (cwV 2 hts (wb_V wt_377 wt_379 wt_12 wt_27 wt_380) rfl rfl rfl (by decide +kernel) ⟨Nat.le_of_ble_eq_true rfl, Nat.le_of_ble_eq_true rfl⟩) (ct_preV hK hP (hDa _ _) hZ hS hA (va_recv hK hP (ci := 0) (q0 := 0) rfl rfl)) rfl rfl hl.1 rfl (lv_room (Nat.le_of_ble_eq_true rfl)) dC_cover_3 ⟨Nat.le_of_ble_eq_true rfl, Nat.le_of_ble_eq_true rfl⟩) (hDa _ _) hS hA (fun E ce q9 n' f' H locs hw hP hS h1 h2 h3 => by exact vx_out (fun x h => (htb x h).elim) hlocks h1 h2 h3 (fun t ht hvm => ⟨(n', f'), trivial, ⟨hw, ct_mkB ht hP⟩, hS.F ht⟩) hS.2.2 (Nat.le_of_ble_eq_true rfl) (Nat.le_of_ble_eq_true rfl)) (fun _ _ _ _ hw _ _ => False.elim hw)
  refine ct_v (va_runV (As := [.int p1, .int p2]) (rest := []) ⟨hx, hb, hml, hown, hts⟩ (met0_C_checkPlace l dC dI a cA sa p1 p2 n f _ hw) (cwV 2 hts (wb_V wt_377 wt_379 wt_12 wt_27 wt_380) rfl rfl rfl (by decide +kernel) ⟨Nat.le_of_ble_eq_true rfl, Nat.le_of_ble_eq_true rfl⟩) (ct_preV hK hP (hDa _ _) hZ hS hA (va_recv hK hP (ci := 0) (q0 := 0) rfl rfl)) rfl rfl hl.1 rfl (lv_room (Nat.le_of_ble_eq_true rfl)) dC_cover_3 ⟨Nat.le_of_ble_eq_true rfl, Nat.le_of_ble_eq_true rfl⟩) (hDa _ _) hS hA (fun n_2 f_3 H locs hw hP hS => ?_)
  refine lv_aload_n hx hb dC_cover_6 rfl (lv_at hl 0 rfl) ?_
  refine lv_iload_n hx hb dC_cover_7 rfl (lv_at hl 1 rfl) ?_
  refine lv_iload_n hx hb dC_cover_8 rfl (lv_at hl 2 rfl) ?_
  rcases hw with hw | hw
  rotate_left
  · exact ct_xi (vx_runV (As := [.int p1, .int p2]) (rest := []) ⟨hx, hb, hml, hown, hts⟩ (metx_C_coverSize l hl9 dC dI a cA sa p1 p2 n_2 f_3 _ hw) (cwV 2 hts (wb_V wt_397 wt_399 wt_13 wt_27 wt_400) rfl rfl rfl (by decide +kernel) ⟨Nat.le_of_ble_eq_true rfl, Nat.le_of_ble_eq_true rfl⟩) (ct_preV hK hP (hDa _ _) hZ hS hA (va_recv hK hP (ci := 0) (q0 := 0) rfl rfl)) rfl rfl hl.1 rfl (lv_room (Nat.le_of_ble_eq_true rfl)) dC_cover_9 ⟨Nat.le_of_ble_eq_true rfl, Nat.le_of_ble_eq_true rfl⟩) (hDa _ _) hS hA (fun E ce q9 n' f' H locs hw hP hS h1 h2 h3 => by exact vx_out (fun x h => (htb x h).elim) hlocks h1 h2 h3 (fun t ht hvm => ⟨(n', f'), trivial, ⟨hw, ct_mkB ht hP⟩, hS.F ht⟩) hS.2.2 (Nat.le_of_ble_eq_true rfl) (Nat.le_of_ble_eq_true rfl)) (fun _ _ _ _ _ hw _ _ => False.elim hw)
  refine ct_i (va_runV (As := [.int p1, .int p2]) (rest := []) ⟨hx, hb, hml, hown, hts⟩ (met0_C_coverSize l dC dI a cA sa p1 p2 n_2 f_3 _ hw) (cwV 2 hts (wb_V wt_397 wt_399 wt_13 wt_27 wt_400) rfl rfl rfl (by decide +kernel) ⟨Nat.le_of_ble_eq_true rfl, Nat.le_of_ble_eq_true rfl⟩) (ct_preV hK hP (hDa _ _) hZ hS hA (va_recv hK hP (ci := 0) (q0 := 0) rfl rfl)) rfl rfl hl.1 rfl (lv_room (Nat.le_of_ble_eq_true rfl)) dC_cover_9 ⟨Nat.le_of_ble_eq_true rfl, Nat.le_of_ble_eq_true rfl⟩) (hDa _ _) hS hA (fun r4 n_5 f_6 H locs hw hP hS => ?_)
  refine lv_istore (lv' := [(5, .int r4), (0, .ref (a 0)), (1, .int p1), (2, .int p2), (3, .int p3), (4, .int p4)]) hx hb dC_cover_12 hl (by decide) rfl (fun ls hl => ?_)
  refine lv_iload hx hb dC_cover_14 (lv_at hl 5 rfl) ?_
  refine lv_if_eq (tgt := 35) hx hb dC_cover_16 (by decide) (fun c7 => ?_) (fun c7 => ?_)
  · have hw := hw.1 c7
    exact join_35 p1 p2 p3 p4 r4 n_5 f_6 _ _ ls hw hP hS (lv_sub hl [1, 2, 3, 4, 5, 0] rfl)
  · have hw := hw.2 c7
    refine lv_iload hx hb dC_cover_19 (lv_at hl 5 rfl) ?_
    refine lv_iconst (v := 1) hx hb dC_cover_21 (by decide) ?_
    refine lv_icmp_eq (tgt := 35) hx hb dC_cover_22 (by decide) (fun c18 => ?_) (fun c18 => ?_)
    · have hw := hw.1 c18
      exact join_35 p1 p2 p3 p4 r4 n_5 f_6 _ _ ls hw hP hS (lv_sub hl [1, 2, 3, 4, 5, 0] rfl)
    · have hw := hw.2 c18
      exact vx_throwS (own := RC) (cls := "java/lang/IllegalArgumentException") (text := "what is 0 or 1") (names := ["java/lang/RuntimeException", "java/lang/Exception"]) (ik := 35) (is := 121) (ic := 39) (sa := sa 14) hx hb hl9 hown (by decide +kernel) (by decide +kernel) (hts (.classLink RC 35 "java/lang/IllegalArgumentException") (List.mem_cons_of_mem _ wt_166)) (hts (.initialized "java/lang/IllegalArgumentException") (List.mem_cons_of_mem _ wt_34)) hZ.2.2.2.2.2.2.2.2.2.2.2.2.2.2.2.2.2.2.2.2.2.2.2.2.1 (vx_hat (L := vx_atS RC 39 "java/lang/IllegalArgumentException" ["java/lang/RuntimeException", "java/lang/Exception"]) (B := [.castable "java/lang/IllegalArgumentException" "java/lang/IllegalArgumentException", .declares ⟨"java/lang/RuntimeException", "<init>", "(Ljava/lang/String;)V"⟩, .declares ⟨"java/lang/Exception", "<init>", "(Ljava/lang/String;)V"⟩, .declares ⟨"java/lang/Throwable", "<init>", "(Ljava/lang/String;)V"⟩]) (fun w hw => hts w (List.mem_cons_of_mem _ (at_C_39 w hw))) bd_C_39 (vx_c (va_Nw.use rfl hZ.2.1) (vx_c (va_Nw.use rfl hZ.2.2.2.2.1) (vx_c (va_Nw.use rfl hZ.2.2.2.2.2.1) (vx_c (va_Nw.use rfl hZ.2.2.2.2.2.2.1) (vx_n)))))) gd_C_39 hZ.2.2.2.2.2.2.2.2.2.2.2.2.2.2.2.2.2.2.2.2.2.2.2.2.2.2.1 hZ.2.2.2.2.2.2.2.2.2.2.2.2.2.2.2.2.2.2.2.2.2.2.2.2.2.2.2 hS (hl.1.trans hml.symm) dC_cover_25 dC_cover_28 dC_cover_29 dC_cover_31 dC_cover_34 (fun x h => (htb x h).elim) (Nat.le_of_ble_eq_true rfl) (Nat.le_of_ble_eq_true rfl) (Nat.le_of_ble_eq_true rfl) (Nat.le_of_ble_eq_true rfl) hlocks (fun t _ h1 h2 => ⟨(n_5, f_6), trivial, ⟨hw, (ct_thr hP hS h1 h2).1⟩, (ct_thr hP hS h1 h2).2⟩) hS.2.2 (Nat.le_of_ble_eq_true rfl) (Nat.le_of_ble_eq_true rfl)
def wp_C_states (post : Int32 → ctN → ctF → Prop) (n : ctN) (f : ctF) : Prop := wp_F_countStates (fun (r1 : Int32) (n_2 : ctN) (f_3 : ctF) => post r1 n_2 f_3) n f
set_option maxHeartbeats 4000000 in
set_option maxRecDepth 100000 in
theorem met_C_states (l : Launch) (dC : Nat → ClassId) (dI : Nat → Nat → Nat) (a : Nat → Nat) (cA : Nat → ClassId) (sa : Nat → Nat) (n : ctN) (f : ctF) (sz : Nat) {post : Int32 → ctN → ctF → Prop} (hw : wp_C_states post n f) : Met l yC_states wsC_states ({ frames := 1, cells := 0, slots := 0, locals := 22 } : Room) (ct_Pc dC dI a cA sa [.ref (a 0)] n f sz) (va_Qi (fun (r : Int32) (u : ctN × ctF) => post r u.1 u.2) (ct_B dC dI a cA) (va_A (ctW a cA n f) sz)) 0 0 (va_A (ctW a cA n f) sz) := by
  refine Met.ofW (cc := cC_states) (maxL := 1) (ret := (some .int)) (by decide) rfl ?_
  intro p e s m args below meth c s₁ B hml hv
  obtain ⟨rfl, hsz, hP, hK, hD0, hZ⟩ := hv
  have hx := B.exec
  have hb := B.bytes
  have hr := B.returns
  have hts := atoms_spec (ws := wsC_states) B.pre
  have hown : s.vm.findClass RC = some m.cls := findClass_of_methodNamed B.named
  have hlocks := B.notSynchronized
  subst hsz
  have hD := hD0.self (sz := s.heap.size)
  generalize hAe : va_A (ctW a cA n f) s.heap.size = A at hD hZ ⊢
  have hDa : ∀ (n : ctN) (f : ctF), va_D A (ctW a cA n f) := fun _ _ => ct_D hD
  have hA : ∀ q : Nat, s.heap.size ≤ q → A q := fun q h => by rw [← hAe]; exact Or.inr h
  have hS : va_S A s.heap s.heap [] := va_S.rf
  have hl := lv_entry ([.ref (a 0)]) (n := 1) (Nat.le_of_ble_eq_true rfl)
  rw [lg_entry_eq]
  generalize (lg_sl ([.ref (a 0)]) ++ List.replicate (1 - (lg_sl ([.ref (a 0)])).length) Slot.unset).toArray = ls at hl ⊢
  have hl : lv_has ls 1 [(0, .ref (a 0))] := hl
  unfold wp_C_states at hw
  refine lv_aload_n hx hb dC_states_0 rfl (lv_at hl 0 rfl) ?_
  refine va_get (D := (dC, dI)) (ci := 0) (v := .ref (a 2)) (C := RC) (T := TC) (N := 2) hx hb hts (fun w h => List.mem_cons_of_mem _ (inC w h)) hown hK hP 0 rfl rfl 1 (by decide) (hts (.fieldLink RC 21 "CoverTrees" "forest" "LCoverTrees$Forest;") (List.mem_cons_of_mem _ wt_135)) (fun _ h9 => h9) rfl dC_states_1 ?_
  refine ct_i (va_runV (As := []) (rest := []) ⟨hx, hb, hml, hown, hts⟩ (met_F_countStates l dC dI a cA sa n f _ hw) (cwV 0 hts (wb_V wt_153 wt_154 wt_155 wt_29 wt_156) rfl rfl rfl (by decide +kernel) ⟨Nat.le_of_ble_eq_true rfl, Nat.le_of_ble_eq_true rfl⟩) (ct_preV hK hP (hDa _ _) hZ hS hA (va_recv hK hP (ci := 2) (q0 := 2) rfl rfl)) rfl rfl hl.1 rfl (lv_room (Nat.le_of_ble_eq_true rfl)) dC_states_4 ⟨Nat.le_of_ble_eq_true rfl, Nat.le_of_ble_eq_true rfl⟩) (hDa _ _) hS hA (fun r1 n_2 f_3 H locs hw hP hS => ?_)
  exact W.iret (v := r1) hx hb hr (fun t ht hW => ⟨⟨r1, (n_2, f_3), rfl, hw, ct_mkB ht hP⟩, hS.F ht⟩) hS.2.2 dC_states_7
def wp_C_like (post : Int32 → ctN → ctF → Prop) (xp : String → ctN → ctF → Prop) (p1 : Int32) (n : ctN) (f : ctF) : Prop := wp_F_has (fun (r1 : Int32) (n_2 : ctN) (f_3 : ctF) => (¬ r1 = 0 → (vp_in p1 120 ∧ (post (f_3 13 p1.toNatClampNeg) n_2 f_3))) ∧ (r1 = 0 → (xp "java/lang/IllegalArgumentException" n_2 f_3))) p1 n f
set_option maxHeartbeats 4000000 in
set_option maxRecDepth 100000 in
theorem met0_C_like (l : Launch) (dC : Nat → ClassId) (dI : Nat → Nat → Nat) (a : Nat → Nat) (cA : Nat → ClassId) (sa : Nat → Nat) (p1 : Int32) (n : ctN) (f : ctF) (sz : Nat) {post : Int32 → ctN → ctF → Prop} (hw : wp_C_like post xF p1 n f) : Met l yC_like wsC_like ({ frames := 6, cells := 0, slots := 0, locals := 90 } : Room) (ct_Pc dC dI a cA sa [.ref (a 0), .int p1] n f sz) (va_Qi (fun (r : Int32) (u : ctN × ctF) => post r u.1 u.2) (ct_B dC dI a cA) (va_A (ctW a cA n f) sz)) 0 0 (va_A (ctW a cA n f) sz) := by
  refine Met.ofW (cc := cC_like) (maxL := 2) (ret := (some .int)) (by decide) rfl ?_
  intro p e s m args below meth c s₁ B hml hv
  obtain ⟨rfl, hsz, hP, hK, hD0, hZ⟩ := hv
  have hx := B.exec
  have hb := B.bytes
  have hr := B.returns
  have hts := atoms_spec (ws := wsC_like) B.pre
  have hown : s.vm.findClass RC = some m.cls := findClass_of_methodNamed B.named
  have hlocks := B.notSynchronized
  subst hsz
  have hD := hD0.self (sz := s.heap.size)
  generalize hAe : va_A (ctW a cA n f) s.heap.size = A at hD hZ ⊢
  have hDa : ∀ (n : ctN) (f : ctF), va_D A (ctW a cA n f) := fun _ _ => ct_D hD
  have hA : ∀ q : Nat, s.heap.size ≤ q → A q := fun q h => by rw [← hAe]; exact Or.inr h
  have hS : va_S A s.heap s.heap [] := va_S.rf
  have hl := lv_entry ([.ref (a 0), .int p1]) (n := 2) (Nat.le_of_ble_eq_true rfl)
  rw [lg_entry_eq]
  generalize (lg_sl ([.ref (a 0), .int p1]) ++ List.replicate (2 - (lg_sl ([.ref (a 0), .int p1])).length) Slot.unset).toArray = ls at hl ⊢
  have hl : lv_has ls 2 [(0, .ref (a 0)), (1, .int p1)] := hl
  unfold wp_C_like at hw
  refine lv_aload_n hx hb dC_like_0 rfl (lv_at hl 0 rfl) ?_
  refine va_get (D := (dC, dI)) (ci := 0) (v := .ref (a 2)) (C := RC) (T := TC) (N := 2) hx hb hts (fun w h => List.mem_cons_of_mem _ (inC w h)) hown hK hP 0 rfl rfl 1 (by decide) (hts (.fieldLink RC 21 "CoverTrees" "forest" "LCoverTrees$Forest;") (List.mem_cons_of_mem _ wt_135)) (fun _ h9 => h9) rfl dC_like_1 ?_
  refine lv_iload_n hx hb dC_like_4 rfl (lv_at hl 1 rfl) ?_
  refine ct_i (va_runV (As := [.int p1]) (rest := []) ⟨hx, hb, hml, hown, hts⟩ (met_F_has l dC dI a cA sa p1 n f _ hw) (cwV 1 hts (wb_V wt_300 wt_301 wt_302 wt_29 wt_303) rfl rfl rfl (by decide +kernel) ⟨Nat.le_of_ble_eq_true rfl, Nat.le_of_ble_eq_true rfl⟩) (ct_preV hK hP (hDa _ _) hZ hS hA (va_recv hK hP (ci := 2) (q0 := 2) rfl rfl)) rfl rfl hl.1 rfl (lv_room (Nat.le_of_ble_eq_true rfl)) dC_like_5 ⟨Nat.le_of_ble_eq_true rfl, Nat.le_of_ble_eq_true rfl⟩) (hDa _ _) hS hA (fun r1 n_2 f_3 H locs hw hP hS => ?_)
  refine lv_if_ne (tgt := 21) hx hb dC_like_8 (by decide) (fun c4 => ?_) (fun c4 => ?_)
  · have hw := hw.1 c4
    refine lv_aload_n hx hb dC_like_21 rfl (lv_at hl 0 rfl) ?_
    refine va_get (D := (dC, dI)) (ci := 0) (v := .ref (a 2)) (C := RC) (T := TC) (N := 2) hx hb hts (fun w h => List.mem_cons_of_mem _ (inC w h)) hown hK hP 0 rfl rfl 1 (by decide) (hts (.fieldLink RC 21 "CoverTrees" "forest" "LCoverTrees$Forest;") (List.mem_cons_of_mem _ wt_135)) (fun _ h9 => h9) rfl dC_like_22 ?_
    refine va_get (D := (dC, dI)) (ci := 2) (v := .ref (a 13)) (C := RF) (T := TF) (N := 11) hx hb hts (fun w h => List.mem_cons_of_mem _ (inF w h)) hown hK hP 2 rfl rfl 6 (by decide) (hts (.fieldLink RC 134 "CoverTrees$Forest" "like" "[I") (List.mem_cons_of_mem _ wt_102)) (fun _ h9 => h9) rfl dC_like_25 ?_
    refine lv_iload_n hx hb dC_like_28 rfl (lv_at hl 1 rfl) ?_
    obtain ⟨hi5, hw⟩ := hw
    refine va_iald hx hb hK hP 13 10 rfl rfl hi5 dC_like_29 ?_
    exact W.iret (v := (f_3 13 p1.toNatClampNeg)) hx hb hr (fun t ht hW => ⟨⟨(f_3 13 p1.toNatClampNeg), (n_2, f_3), rfl, hw, ct_mkB ht hP⟩, hS.F ht⟩) hS.2.2 dC_like_30
  · have hw := hw.2 c4
    exact False.elim hw
set_option maxHeartbeats 4000000 in
set_option maxRecDepth 100000 in
theorem metx_C_like (l : Launch) (hl9 : l.stackTraces = false) (dC : Nat → ClassId) (dI : Nat → Nat → Nat) (a : Nat → Nat) (cA : Nat → ClassId) (sa : Nat → Nat) (p1 : Int32) (n : ctN) (f : ctF) (sz : Nat) {xp : String → ctN → ctF → Prop} (hw : wp_C_like pFi xp p1 n f) : vx_Met l yC_like wsC_like ({ frames := 6, cells := 1, slots := 6, locals := 90 } : Room) (ct_Pc dC dI a cA sa [.ref (a 0), .int p1] n f sz) (va_Qi (fun (r : Int32) (u : ctN × ctF) => pFi r u.1 u.2) (ct_B dC dI a cA) (va_A (ctW a cA n f) sz)) (vx_X (fun (_ : ctN × ctF) => True) (fun E u t => xp E u.1 u.2 ∧ ct_B dC dI a cA u t) (va_A (ctW a cA n f) sz)) 1 6 (va_A (ctW a cA n f) sz) := by
  refine vx_ofW (cc := cC_like) (maxL := 2) (ret := (some .int)) (by decide) rfl ?_
  intro p e s m args below meth c s₁ B hml htb hv
  obtain ⟨rfl, hsz, hP, hK, hD0, hZ⟩ := hv
  have hx := B.exec
  have hb := B.bytes
  have hr := B.returns
  have hts := atoms_spec (ws := wsC_like) B.pre
  have hown : s.vm.findClass RC = some m.cls := findClass_of_methodNamed B.named
  have hlocks := B.notSynchronized
  subst hsz
  have hD := hD0.self (sz := s.heap.size)
  generalize hAe : va_A (ctW a cA n f) s.heap.size = A at hD hZ ⊢
  have hDa : ∀ (n : ctN) (f : ctF), va_D A (ctW a cA n f) := fun _ _ => ct_D hD
  have hA : ∀ q : Nat, s.heap.size ≤ q → A q := fun q h => by rw [← hAe]; exact Or.inr h
  have hS : va_S A s.heap s.heap [] := va_S.rf
  have hl := lv_entry ([.ref (a 0), .int p1]) (n := 2) (Nat.le_of_ble_eq_true rfl)
  rw [lg_entry_eq]
  generalize (lg_sl ([.ref (a 0), .int p1]) ++ List.replicate (2 - (lg_sl ([.ref (a 0), .int p1])).length) Slot.unset).toArray = ls at hl ⊢
  have hl : lv_has ls 2 [(0, .ref (a 0)), (1, .int p1)] := hl
  unfold wp_C_like at hw
  refine lv_aload_n hx hb dC_like_0 rfl (lv_at hl 0 rfl) ?_
  refine va_get (D := (dC, dI)) (ci := 0) (v := .ref (a 2)) (C := RC) (T := TC) (N := 2) hx hb hts (fun w h => List.mem_cons_of_mem _ (inC w h)) hown hK hP 0 rfl rfl 1 (by decide) (hts (.fieldLink RC 21 "CoverTrees" "forest" "LCoverTrees$Forest;") (List.mem_cons_of_mem _ wt_135)) (fun _ h9 => h9) rfl dC_like_1 ?_
  refine lv_iload_n hx hb dC_like_4 rfl (lv_at hl 1 rfl) ?_
  refine ct_i (va_runV (As := [.int p1]) (rest := []) ⟨hx, hb, hml, hown, hts⟩ (met_F_has l dC dI a cA sa p1 n f _ hw) (cwV 1 hts (wb_V wt_300 wt_301 wt_302 wt_29 wt_303) rfl rfl rfl (by decide +kernel) ⟨Nat.le_of_ble_eq_true rfl, Nat.le_of_ble_eq_true rfl⟩) (ct_preV hK hP (hDa _ _) hZ hS hA (va_recv hK hP (ci := 2) (q0 := 2) rfl rfl)) rfl rfl hl.1 rfl (lv_room (Nat.le_of_ble_eq_true rfl)) dC_like_5 ⟨Nat.le_of_ble_eq_true rfl, Nat.le_of_ble_eq_true rfl⟩) (hDa _ _) hS hA (fun r1 n_2 f_3 H locs hw hP hS => ?_)
  refine lv_if_ne (tgt := 21) hx hb dC_like_8 (by decide) (fun c4 => ?_) (fun c4 => ?_)
  · have hw := hw.1 c4
    refine lv_aload_n hx hb dC_like_21 rfl (lv_at hl 0 rfl) ?_
    refine va_get (D := (dC, dI)) (ci := 0) (v := .ref (a 2)) (C := RC) (T := TC) (N := 2) hx hb hts (fun w h => List.mem_cons_of_mem _ (inC w h)) hown hK hP 0 rfl rfl 1 (by decide) (hts (.fieldLink RC 21 "CoverTrees" "forest" "LCoverTrees$Forest;") (List.mem_cons_of_mem _ wt_135)) (fun _ h9 => h9) rfl dC_like_22 ?_
    refine va_get (D := (dC, dI)) (ci := 2) (v := .ref (a 13)) (C := RF) (T := TF) (N := 11) hx hb hts (fun w h => List.mem_cons_of_mem _ (inF w h)) hown hK hP 2 rfl rfl 6 (by decide) (hts (.fieldLink RC 134 "CoverTrees$Forest" "like" "[I") (List.mem_cons_of_mem _ wt_102)) (fun _ h9 => h9) rfl dC_like_25 ?_
    refine lv_iload_n hx hb dC_like_28 rfl (lv_at hl 1 rfl) ?_
    obtain ⟨hi5, hw⟩ := hw
    refine va_iald hx hb hK hP 13 10 rfl rfl hi5 dC_like_29 ?_
    exact False.elim hw
  · have hw := hw.2 c4
    exact vx_throwS (own := RC) (cls := "java/lang/IllegalArgumentException") (text := "no such node") (names := ["java/lang/RuntimeException", "java/lang/Exception"]) (ik := 35) (is := 86) (ic := 39) (sa := sa 9) hx hb hl9 hown (by decide +kernel) (by decide +kernel) (hts (.classLink RC 35 "java/lang/IllegalArgumentException") (List.mem_cons_of_mem _ wt_166)) (hts (.initialized "java/lang/IllegalArgumentException") (List.mem_cons_of_mem _ wt_34)) hZ.2.2.2.2.2.2.2.2.2.2.2.2.2.2.2.2.2.2.2.1 (vx_hat (L := vx_atS RC 39 "java/lang/IllegalArgumentException" ["java/lang/RuntimeException", "java/lang/Exception"]) (B := [.castable "java/lang/IllegalArgumentException" "java/lang/IllegalArgumentException", .declares ⟨"java/lang/RuntimeException", "<init>", "(Ljava/lang/String;)V"⟩, .declares ⟨"java/lang/Exception", "<init>", "(Ljava/lang/String;)V"⟩, .declares ⟨"java/lang/Throwable", "<init>", "(Ljava/lang/String;)V"⟩]) (fun w hw => hts w (List.mem_cons_of_mem _ (at_C_39 w hw))) bd_C_39 (vx_c (va_Nw.use rfl hZ.2.1) (vx_c (va_Nw.use rfl hZ.2.2.2.2.1) (vx_c (va_Nw.use rfl hZ.2.2.2.2.2.1) (vx_c (va_Nw.use rfl hZ.2.2.2.2.2.2.1) (vx_n)))))) gd_C_39 hZ.2.2.2.2.2.2.2.2.2.2.2.2.2.2.2.2.2.2.2.2.2.2.2.2.2.2.1 hZ.2.2.2.2.2.2.2.2.2.2.2.2.2.2.2.2.2.2.2.2.2.2.2.2.2.2.2 hS (hl.1.trans hml.symm) dC_like_11 dC_like_14 dC_like_15 dC_like_17 dC_like_20 (fun x h => (htb x h).elim) (Nat.le_of_ble_eq_true rfl) (Nat.le_of_ble_eq_true rfl) (Nat.le_of_ble_eq_true rfl) (Nat.le_of_ble_eq_true rfl) hlocks (fun t _ h1 h2 => ⟨(n_2, f_3), trivial, ⟨hw, (ct_thr hP hS h1 h2).1⟩, (ct_thr hP hS h1 h2).2⟩) hS.2.2 (Nat.le_of_ble_eq_true rfl) (Nat.le_of_ble_eq_true rfl)
