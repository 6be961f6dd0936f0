theorem ct_in01 : vp_in 0 1 := by
  have h := vp_in_nI (n := 0) (N := 1) (by decide) (by decide)
  rwa [nI_0] at h
def wp_L_operator (post : Int32 → ctN → ctF → Prop) (p1 : Int32) (n : ctN) (f : ctF) : Prop := (wp_C_operator (fun (r : Int32) (n : ctN) (f : ctF) => ∀ f2 : ctF, f2 = va_up f 32 (upd (f 32) 0 r) → post 0 n f2) xF p1 n f) ∨ (wp_C_operator pFi (fun E n f => (E = "java/lang/IllegalArgumentException" ∧ post 1 n f) ∨ (E = "java/lang/UnsupportedOperationException" ∧ post 2 n f)) p1 n f)
set_option maxHeartbeats 4000000 in
set_option maxRecDepth 100000 in
theorem met_L_operator (l : Launch) (hl9 : l.stackTraces = false) (dC : Nat → ClassId) (dI : Nat → Nat → Nat) (a : Nat → Nat) (cA : Nat → ClassId) (sa : Nat → Nat) (p1 : Int32) (n : ctN) (f : ctF) (sz : Nat) {post : Int32 → ctN → ctF → Prop} (hw : wp_L_operator post p1 n f) : Met l yL_operator wsL_operator ({ frames := 7, cells := 1, slots := 6, locals := 111 } : Room) (ct_Pc dC dI a cA sa [.ref (a 0), .int p1, .ref (a 32)] n f sz) (va_Qi (fun (r : Int32) (u : ctN × ctF) => post r u.1 u.2) (ct_B dC dI a cA) (va_A (ctW a cA n f) sz)) 1 6 (va_A (ctW a cA n f) sz) := by
  refine va_MetW (cc := cL_operator) (maxL := 4) (ret := (some .int)) (hh := [(0, 9, 12, 13), (0, 9, 15, 15)]) (by decide) rfl ?_
  intro p e s m args below meth c s₁ B hml hv
  obtain ⟨rfl, hsz, hP, hK, hD0, hZ⟩ := hv
  have hx := B.exec
  have hb := B.bytes
  have hr := B.returns
  have hts := atoms_spec (ws := wsL_operator) B.pre
  have hown : s.vm.findClass RL = some m.cls := findClass_of_methodNamed B.named
  have hlocks := B.notSynchronized
  have htab : c.exceptionTable.toList = tableOf [(0, 9, 12, 13), (0, 9, 15, 15)] := vx_table (x := yL_operator) B (hts kL_operator List.mem_cons_self)
  subst hsz
  have hD := hD0.self (sz := s.heap.size)
  generalize hAe : va_A (ctW a cA n f) s.heap.size = A at hD hZ ⊢
  have hDa : ∀ (n : ctN) (f : ctF), va_D A (ctW a cA n f) := fun _ _ => ct_D hD
  have hA : ∀ q : Nat, s.heap.size ≤ q → A q := fun q h => by rw [← hAe]; exact Or.inr h
  have hS : va_S A s.heap s.heap [] := va_S.rf
  have hl := lv_entry ([.ref (a 0), .int p1, .ref (a 32)]) (n := 4) (Nat.le_of_ble_eq_true rfl)
  rw [lg_entry_eq]
  generalize (lg_sl ([.ref (a 0), .int p1, .ref (a 32)]) ++ List.replicate (4 - (lg_sl ([.ref (a 0), .int p1, .ref (a 32)])).length) Slot.unset).toArray = ls at hl ⊢
  have hl : lv_has ls 4 [(0, .ref (a 0)), (1, .int p1), (2, .ref (a 32))] := hl
  unfold wp_L_operator at hw
  refine lv_aload_n hx hb dL_operator_0 rfl (lv_at hl 2 rfl) ?_
  refine lv_iconst (v := 0) hx hb dL_operator_1 (by decide) ?_
  refine lv_aload_n hx hb dL_operator_2 rfl (lv_at hl 0 rfl) ?_
  refine lv_iload_n hx hb dL_operator_3 rfl (lv_at hl 1 rfl) ?_
  rcases hw with hw | hw
  · refine ct_i (va_runV (As := [.int p1]) (rest := [.int 0, .ref (a 32)]) ⟨hx, hb, hml, hown, hts⟩ (met0_C_operator l dC dI a cA sa p1 n f _ hw) (cwV 1 hts (wb_V wt_162 wt_163 wt_164 wt_27 wt_165) rfl rfl rfl (by decide +kernel) ⟨Nat.le_of_ble_eq_true rfl, Nat.le_of_ble_eq_true rfl⟩) (ct_preV hK hP (hDa _ _) hZ hS hA (va_recv hK hP (ci := 0) (q0 := 0) rfl rfl)) rfl rfl hl.1 rfl (lv_room (Nat.le_of_ble_eq_true rfl)) dL_operator_4 ⟨Nat.le_of_ble_eq_true rfl, Nat.le_of_ble_eq_true rfl⟩) (hDa _ _) hS hA (fun r1 n1 f1 H locs hw hP hS => ?_)
    refine lv_i2l (v := r1.toInt64) hx hb dL_operator_7 rfl ?_
    refine va_last hx hb hK hP (hDa _ _) hS 32 28 rfl rfl ct_in01 dL_operator_8 (fun H locs hP _ hS => ?_)
    obtain ⟨f2, ef2⟩ : ∃ z : ctF, z = va_up f1 32 (upd (f1 32) 0 r1) := ⟨_, rfl⟩
    have hw := hw f2 ef2
    have hP : va_P (dC, dI) vcl (ctW a cA n1 f2) H := by rw [ef2]; exact ct_out hP
    refine lv_goto (tgt := 18) hx hb dL_operator_9 (by decide) ?_
    refine lv_iconst (v := 0) hx hb dL_operator_18 (by decide) ?_
    refine W.widen (k := 1) (n := 6) (Nat.le_of_ble_eq_true rfl) (Nat.le_of_ble_eq_true rfl) ?_
    exact W.iret (v := 0) hx hb hr (fun t ht hW => ⟨⟨0, (n1, f2), rfl, hw, ct_mkB ht hP⟩, hS.F ht⟩) hS.2.2 dL_operator_19
  · refine ct_xi (vx_runV (As := [.int p1]) (rest := [.int 0, .ref (a 32)]) ⟨hx, hb, hml, hown, hts⟩ (metx_C_operator l hl9 dC dI a cA sa p1 n f _ hw) (cwV 1 hts (wb_V wt_162 wt_163 wt_164 wt_27 wt_165) rfl rfl rfl (by decide +kernel) ⟨Nat.le_of_ble_eq_true rfl, Nat.le_of_ble_eq_true rfl⟩) (ct_preV hK hP (hDa _ _) hZ hS hA (va_recv hK hP (ci := 0) (q0 := 0) rfl rfl)) rfl rfl hl.1 rfl (lv_room (Nat.le_of_ble_eq_true rfl)) dL_operator_4 ⟨Nat.le_of_ble_eq_true rfl, Nat.le_of_ble_eq_true rfl⟩) (hDa _ _) hS hA (fun E ce q9 n' f' H locs hw hP hS h1 h2 h3 => ?_) (fun _ _ _ _ _ hw _ _ => False.elim hw)
    rcases hw with ⟨rfl, hw⟩ | ⟨rfl, hw⟩
    · refine vx_catch (own := RL) (name := "java/lang/IllegalArgumentException") (E := "java/lang/IllegalArgumentException") hown [] ⟨0, 9, 12, 13⟩ [⟨0, 9, 15, 15⟩] (htab.trans rfl) (fun z h => by cases h) (by decide) (by decide) (hts (.classLink RL 13 "java/lang/IllegalArgumentException") (List.mem_cons_of_mem _ wt_160)) (va_Nw.use rfl hZ.2.1) h1 h2 h3 ?_
      refine lv_astore_n (lv' := [(3, .ref q9), (0, .ref (a 0)), (1, .int p1), (2, .ref (a 32))]) hx hb dL_operator_12 rfl hl (by decide) rfl (fun ls hl => ?_)
      refine lv_iconst (v := 1) hx hb dL_operator_13 (by decide) ?_
      exact W.iret (v := 1) hx hb hr (fun t ht hW => ⟨⟨1, (n', f'), rfl, hw, ct_mkB ht hP⟩, hS.F ht⟩) hS.2.2 dL_operator_14
    · refine vx_catch (own := RL) (name := "java/lang/UnsupportedOperationException") (E := "java/lang/UnsupportedOperationException") hown [⟨0, 9, 12, 13⟩] ⟨0, 9, 15, 15⟩ [] (htab.trans rfl) (fun z h => by
        simp only [List.mem_cons, List.not_mem_nil, or_false] at h
        subst h
        exact Or.inr ⟨by decide, "java/lang/IllegalArgumentException", (hts (.classLink RL 13 "java/lang/IllegalArgumentException") (List.mem_cons_of_mem _ wt_160)), hZ.2.2.2.2.2.2.2.1⟩) (by decide) (by decide) (hts (.classLink RL 15 "java/lang/UnsupportedOperationException") (List.mem_cons_of_mem _ wt_161)) (va_Nw.use rfl hZ.2.2.1) h1 h2 h3 ?_
      refine lv_astore_n (lv' := [(3, .ref q9), (0, .ref (a 0)), (1, .int p1), (2, .ref (a 32))]) hx hb dL_operator_15 rfl hl (by decide) rfl (fun ls hl => ?_)
      refine lv_iconst (v := 2) hx hb dL_operator_16 (by decide) ?_
      exact W.iret (v := 2) hx hb hr (fun t ht hW => ⟨⟨2, (n', f'), rfl, hw, ct_mkB ht hP⟩, hS.F ht⟩) hS.2.2 dL_operator_17
def wp_L_base (post : Int32 → ctN → ctF → Prop) (p1 : Int32) (p2 : Int32) (p3 : Int32) (p4 : Int32) (p5 : Int32) (n : ctN) (f : ctF) : Prop := (wp_C_base (fun (r : Int32) (n : ctN) (f : ctF) => ∀ f2 : ctF, f2 = va_up f 32 (upd (f 32) 0 r) → post 0 n f2) xF p1 p2 p3 p4 p5 n f) ∨ (wp_C_base pFi (fun E n f => (E = "java/lang/IllegalArgumentException" ∧ post 1 n f) ∨ (E = "java/lang/UnsupportedOperationException" ∧ post 2 n f)) p1 p2 p3 p4 p5 n f)
set_option maxHeartbeats 4000000 in
set_option maxRecDepth 100000 in
theorem met_L_base (l : Launch) (hl9 : l.stackTraces = false) (dC : Nat → ClassId) (dI : Nat → Nat → Nat) (a : Nat → Nat) (cA : Nat → ClassId) (sa : Nat → Nat) (p1 : Int32) (p2 : Int32) (p3 : Int32) (p4 : Int32) (p5 : Int32) (n : ctN) (f : ctF) (sz : Nat) {post : Int32 → ctN → ctF → Prop} (hw : wp_L_base post p1 p2 p3 p4 p5 n f) : Met l yL_base wsL_base ({ frames := 8, cells := 1, slots := 6, locals := 136 } : Room) (ct_Pc dC dI a cA sa [.ref (a 0), .int p1, .int p2, .int p3, .int p4, .int p5, .ref (a 32)] n f sz) (va_Qi (fun (r : Int32) (u : ctN × ctF) => post r u.1 u.2) (ct_B dC dI a cA) (va_A (ctW a cA n f) sz)) 1 6 (va_A (ctW a cA n f) sz) := by
  refine va_MetW (cc := cL_base) (maxL := 8) (ret := (some .int)) (hh := [(0, 16, 19, 13), (0, 16, 23, 15)]) (by decide) rfl ?_
  intro p e s m args below meth c s₁ B hml hv
  obtain ⟨rfl, hsz, hP, hK, hD0, hZ⟩ := hv
  have hx := B.exec
  have hb := B.bytes
  have hr := B.returns
  have hts := atoms_spec (ws := wsL_base) B.pre
  have hown : s.vm.findClass RL = some m.cls := findClass_of_methodNamed B.named
  have hlocks := B.notSynchronized
  have htab : c.exceptionTable.toList = tableOf [(0, 16, 19, 13), (0, 16, 23, 15)] := vx_table (x := yL_base) B (hts kL_base List.mem_cons_self)
  subst hsz
  have hD := hD0.self (sz := s.heap.size)
  generalize hAe : va_A (ctW a cA n f) s.heap.size = A at hD hZ ⊢
  have hDa : ∀ (n : ctN) (f : ctF), va_D A (ctW a cA n f) := fun _ _ => ct_D hD
  have hA : ∀ q : Nat, s.heap.size ≤ q → A q := fun q h => by rw [← hAe]; exact Or.inr h
  have hS : va_S A s.heap s.heap [] := va_S.rf
  have hl := lv_entry ([.ref (a 0), .int p1, .int p2, .int p3, .int p4, .int p5, .ref (a 32)]) (n := 8) (Nat.le_of_ble_eq_true rfl)
  rw [lg_entry_eq]
  generalize (lg_sl ([.ref (a 0), .int p1, .int p2, .int p3, .int p4, .int p5, .ref (a 32)]) ++ List.replicate (8 - (lg_sl ([.ref (a 0), .int p1, .int p2, .int p3, .int p4, .int p5, .ref (a 32)])).length) Slot.unset).toArray = ls at hl ⊢
  have hl : lv_has ls 8 [(0, .ref (a 0)), (1, .int p1), (2, .int p2), (3, .int p3), (4, .int p4), (5, .int p5), (6, .ref (a 32))] := hl
  unfold wp_L_base at hw
  refine lv_aload hx hb dL_base_0 (lv_at hl 6 rfl) ?_
  refine lv_iconst (v := 0) hx hb dL_base_2 (by decide) ?_
  refine lv_aload_n hx hb dL_base_3 rfl (lv_at hl 0 rfl) ?_
  refine lv_iload_n hx hb dL_base_4 rfl (lv_at hl 1 rfl) ?_
  refine lv_iload_n hx hb dL_base_5 rfl (lv_at hl 2 rfl) ?_
  refine lv_iload_n hx hb dL_base_6 rfl (lv_at hl 3 rfl) ?_
  refine lv_iload hx hb dL_base_7 (lv_at hl 4 rfl) ?_
  refine lv_iload hx hb dL_base_9 (lv_at hl 5 rfl) ?_
  rcases hw with hw | hw
  · refine ct_i (va_runV (As := [.int p1, .int p2, .int p3, .int p4, .int p5]) (rest := [.int 0, .ref (a 32)]) ⟨hx, hb, hml, hown, hts⟩ (met0_C_base l dC dI a cA sa p1 p2 p3 p4 p5 n f _ hw) (cwV 5 hts (wb_V wt_257 wt_258 wt_259 wt_27 wt_260) rfl rfl rfl (by decide +kernel) ⟨Nat.le_of_ble_eq_true rfl, Nat.le_of_ble_eq_true rfl⟩) (ct_preV hK hP (hDa _ _) hZ hS hA (va_recv hK hP (ci := 0) (q0 := 0) rfl rfl)) rfl rfl hl.1 rfl (lv_room (Nat.le_of_ble_eq_true rfl)) dL_base_11 ⟨Nat.le_of_ble_eq_true rfl, Nat.le_of_ble_eq_true rfl⟩) (hDa _ _) hS hA (fun r1 n1 f1 H locs hw hP hS => ?_)
    refine lv_i2l (v := r1.toInt64) hx hb dL_base_14 rfl ?_
    refine va_last hx hb hK hP (hDa _ _) hS 32 28 rfl rfl ct_in01 dL_base_15 (fun H locs hP _ hS => ?_)
    obtain ⟨f2, ef2⟩ : ∃ z : ctF, z = va_up f1 32 (upd (f1 32) 0 r1) := ⟨_, rfl⟩
    have hw := hw f2 ef2
    have hP : va_P (dC, dI) vcl (ctW a cA n1 f2) H := by rw [ef2]; exact ct_out hP
    refine lv_goto (tgt := 27) hx hb dL_base_16 (by decide) ?_
    refine lv_iconst (v := 0) hx hb dL_base_27 (by decide) ?_
    refine W.widen (k := 1) (n := 6) (Nat.le_of_ble_eq_true rfl) (Nat.le_of_ble_eq_true rfl) ?_
    exact W.iret (v := 0) hx hb hr (fun t ht hW => ⟨⟨0, (n1, f2), rfl, hw, ct_mkB ht hP⟩, hS.F ht⟩) hS.2.2 dL_base_28
  · refine ct_xi (vx_runV (As := [.int p1, .int p2, .int p3, .int p4, .int p5]) (rest := [.int 0, .ref (a 32)]) ⟨hx, hb, hml, hown, hts⟩ (metx_C_base l hl9 dC dI a cA sa p1 p2 p3 p4 p5 n f _ hw) (cwV 5 hts (wb_V wt_257 wt_258 wt_259 wt_27 wt_260) rfl rfl rfl (by decide +kernel) ⟨Nat.le_of_ble_eq_true rfl, Nat.le_of_ble_eq_true rfl⟩) (ct_preV hK hP (hDa _ _) hZ hS hA (va_recv hK hP (ci := 0) (q0 := 0) rfl rfl)) rfl rfl hl.1 rfl (lv_room (Nat.le_of_ble_eq_true rfl)) dL_base_11 ⟨Nat.le_of_ble_eq_true rfl, Nat.le_of_ble_eq_true rfl⟩) (hDa _ _) hS hA (fun E ce q9 n' f' H locs hw hP hS h1 h2 h3 => ?_) (fun _ _ _ _ _ hw _ _ => False.elim hw)
    rcases hw with ⟨rfl, hw⟩ | ⟨rfl, hw⟩
    · refine vx_catch (own := RL) (name := "java/lang/IllegalArgumentException") (E := "java/lang/IllegalArgumentException") hown [] ⟨0, 16, 19, 13⟩ [⟨0, 16, 23, 15⟩] (htab.trans rfl) (fun z h => by cases h) (by decide) (by decide) (hts (.classLink RL 13 "java/lang/IllegalArgumentException") (List.mem_cons_of_mem _ wt_160)) (va_Nw.use rfl hZ.2.1) h1 h2 h3 ?_
      refine lv_astore (lv' := [(7, .ref q9), (0, .ref (a 0)), (1, .int p1), (2, .int p2), (3, .int p3), (4, .int p4), (5, .int p5), (6, .ref (a 32))]) hx hb dL_base_19 hl (by decide) rfl (fun ls hl => ?_)
      refine lv_iconst (v := 1) hx hb dL_base_21 (by decide) ?_
      exact W.iret (v := 1) hx hb hr (fun t ht hW => ⟨⟨1, (n', f'), rfl, hw, ct_mkB ht hP⟩, hS.F ht⟩) hS.2.2 dL_base_22
    · refine vx_catch (own := RL) (name := "java/lang/UnsupportedOperationException") (E := "java/lang/UnsupportedOperationException") hown [⟨0, 16, 19, 13⟩] ⟨0, 16, 23, 15⟩ [] (htab.trans rfl) (fun z h => by
        simp only [List.mem_cons, List.not_mem_nil, or_false] at h
        subst h
        exact Or.inr ⟨by decide, "java/lang/IllegalArgumentException", (hts (.classLink RL 13 "java/lang/IllegalArgumentException") (List.mem_cons_of_mem _ wt_160)), hZ.2.2.2.2.2.2.2.1⟩) (by decide) (by decide) (hts (.classLink RL 15 "java/lang/UnsupportedOperationException") (List.mem_cons_of_mem _ wt_161)) (va_Nw.use rfl hZ.2.2.1) h1 h2 h3 ?_
      refine lv_astore (lv' := [(7, .ref q9), (0, .ref (a 0)), (1, .int p1), (2, .int p2), (3, .int p3), (4, .int p4), (5, .int p5), (6, .ref (a 32))]) hx hb dL_base_23 hl (by decide) rfl (fun ls hl => ?_)
      refine lv_iconst (v := 2) hx hb dL_base_25 (by decide) ?_
      exact W.iret (v := 2) hx hb hr (fun t ht hW => ⟨⟨2, (n', f'), rfl, hw, ct_mkB ht hP⟩, hS.F ht⟩) hS.2.2 dL_base_26
def wp_L_chain (post : Int32 → ctN → ctF → Prop) (p1 : Int32) (p2 : Int32) (p3 : Int32) (n : ctN) (f : ctF) : Prop := (wp_C_chain (fun (r : Int32) (n : ctN) (f : ctF) => ∀ f2 : ctF, f2 = va_up f 32 (upd (f 32) 0 r) → post 0 n f2) xF p1 p2 p3 n f) ∨ (wp_C_chain pFi (fun E n f => (E = "java/lang/IllegalArgumentException" ∧ post 1 n f) ∨ (E = "java/lang/UnsupportedOperationException" ∧ post 2 n f)) p1 p2 p3 n f)
set_option maxHeartbeats 4000000 in
set_option maxRecDepth 100000 in
theorem met_L_chain (l : Launch) (hl9 : l.stackTraces = false) (dC : Nat → ClassId) (dI : Nat → Nat → Nat) (a : Nat → Nat) (cA : Nat → ClassId) (sa : Nat → Nat) (p1 : Int32) (p2 : Int32) (p3 : Int32) (n : ctN) (f : ctF) (sz : Nat) {post : Int32 → ctN → ctF → Prop} (hw : wp_L_chain post p1 p2 p3 n f) : Met l yL_chain wsL_chain ({ frames := 8, cells := 1, slots := 6, locals := 133 } : Room) (ct_Pc dC dI a cA sa [.ref (a 0), .int p1, .int p2, .int p3, .ref (a 32)] n f sz) (va_Qi (fun (r : Int32) (u : ctN × ctF) => post r u.1 u.2) (ct_B dC dI a cA) (va_A (ctW a cA n f) sz)) 1 6 (va_A (ctW a cA n f) sz) := by
  refine va_MetW (cc := cL_chain) (maxL := 6) (ret := (some .int)) (hh := [(0, 12, 15, 13), (0, 12, 19, 15)]) (by decide) rfl ?_
  intro p e s m args below meth c s₁ B hml hv
  obtain ⟨rfl, hsz, hP, hK, hD0, hZ⟩ := hv
  have hx := B.exec
  have hb := B.bytes
  have hr := B.returns
  have hts := atoms_spec (ws := wsL_chain) B.pre
  have hown : s.vm.findClass RL = some m.cls := findClass_of_methodNamed B.named
  have hlocks := B.notSynchronized
  have htab : c.exceptionTable.toList = tableOf [(0, 12, 15, 13), (0, 12, 19, 15)] := vx_table (x := yL_chain) B (hts kL_chain List.mem_cons_self)
  subst hsz
  have hD := hD0.self (sz := s.heap.size)
  generalize hAe : va_A (ctW a cA n f) s.heap.size = A at hD hZ ⊢
  have hDa : ∀ (n : ctN) (f : ctF), va_D A (ctW a cA n f) := fun _ _ => ct_D hD
  have hA : ∀ q : Nat, s.heap.size ≤ q → A q := fun q h => by rw [← hAe]; exact Or.inr h
  have hS : va_S A s.heap s.heap [] := va_S.rf
  have hl := lv_entry ([.ref (a 0), .int p1, .int p2, .int p3, .ref (a 32)]) (n := 6) (Nat.le_of_ble_eq_true rfl)
  rw [lg_entry_eq]
  generalize (lg_sl ([.ref (a 0), .int p1, .int p2, .int p3, .ref (a 32)]) ++ List.replicate (6 - (lg_sl ([.ref (a 0), .int p1, .int p2, .int p3, .ref (a 32)])).length) Slot.unset).toArray = ls at hl ⊢
  have hl : lv_has ls 6 [(0, .ref (a 0)), (1, .int p1), (2, .int p2), (3, .int p3), (4, .ref (a 32))] := hl
  unfold wp_L_chain at hw
  refine lv_aload hx hb dL_chain_0 (lv_at hl 4 rfl) ?_
  refine lv_iconst (v := 0) hx hb dL_chain_2 (by decide) ?_
  refine lv_aload_n hx hb dL_chain_3 rfl (lv_at hl 0 rfl) ?_
  refine lv_iload_n hx hb dL_chain_4 rfl (lv_at hl 1 rfl) ?_
  refine lv_iload_n hx hb dL_chain_5 rfl (lv_at hl 2 rfl) ?_
  refine lv_iload_n hx hb dL_chain_6 rfl (lv_at hl 3 rfl) ?_
  rcases hw with hw | hw
  · refine ct_i (va_runV (As := [.int p1, .int p2, .int p3]) (rest := [.int 0, .ref (a 32)]) ⟨hx, hb, hml, hown, hts⟩ (met0_C_chain l dC dI a cA sa p1 p2 p3 n f _ hw) (cwV 3 hts (wb_V wt_286 wt_287 wt_288 wt_27 wt_289) rfl rfl rfl (by decide +kernel) ⟨Nat.le_of_ble_eq_true rfl, Nat.le_of_ble_eq_true rfl⟩) (ct_preV hK hP (hDa _ _) hZ hS hA (va_recv hK hP (ci := 0) (q0 := 0) rfl rfl)) rfl rfl hl.1 rfl (lv_room (Nat.le_of_ble_eq_true rfl)) dL_chain_7 ⟨Nat.le_of_ble_eq_true rfl, Nat.le_of_ble_eq_true rfl⟩) (hDa _ _) hS hA (fun r1 n1 f1 H locs hw hP hS => ?_)
    refine lv_i2l (v := r1.toInt64) hx hb dL_chain_10 rfl ?_
    refine va_last hx hb hK hP (hDa _ _) hS 32 28 rfl rfl ct_in01 dL_chain_11 (fun H locs hP _ hS => ?_)
    obtain ⟨f2, ef2⟩ : ∃ z : ctF, z = va_up f1 32 (upd (f1 32) 0 r1) := ⟨_, rfl⟩
    have hw := hw f2 ef2
    have hP : va_P (dC, dI) vcl (ctW a cA n1 f2) H := by rw [ef2]; exact ct_out hP
    refine lv_goto (tgt := 23) hx hb dL_chain_12 (by decide) ?_
    refine lv_iconst (v := 0) hx hb dL_chain_23 (by decide) ?_
    refine W.widen (k := 1) (n := 6) (Nat.le_of_ble_eq_true rfl) (Nat.le_of_ble_eq_true rfl) ?_
    exact W.iret (v := 0) hx hb hr (fun t ht hW => ⟨⟨0, (n1, f2), rfl, hw, ct_mkB ht hP⟩, hS.F ht⟩) hS.2.2 dL_chain_24
  · refine ct_xi (vx_runV (As := [.int p1, .int p2, .int p3]) (rest := [.int 0, .ref (a 32)]) ⟨hx, hb, hml, hown, hts⟩ (metx_C_chain l hl9 dC dI a cA sa p1 p2 p3 n f _ hw) (cwV 3 hts (wb_V wt_286 wt_287 wt_288 wt_27 wt_289) rfl rfl rfl (by decide +kernel) ⟨Nat.le_of_ble_eq_true rfl, Nat.le_of_ble_eq_true rfl⟩) (ct_preV hK hP (hDa _ _) hZ hS hA (va_recv hK hP (ci := 0) (q0 := 0) rfl rfl)) rfl rfl hl.1 rfl (lv_room (Nat.le_of_ble_eq_true rfl)) dL_chain_7 ⟨Nat.le_of_ble_eq_true rfl, Nat.le_of_ble_eq_true rfl⟩) (hDa _ _) hS hA (fun E ce q9 n' f' H locs hw hP hS h1 h2 h3 => ?_) (fun _ _ _ _ _ hw _ _ => False.elim hw)
    rcases hw with ⟨rfl, hw⟩ | ⟨rfl, hw⟩
    · refine vx_catch (own := RL) (name := "java/lang/IllegalArgumentException") (E := "java/lang/IllegalArgumentException") hown [] ⟨0, 12, 15, 13⟩ [⟨0, 12, 19, 15⟩] (htab.trans rfl) (fun z h => by cases h) (by decide) (by decide) (hts (.classLink RL 13 "java/lang/IllegalArgumentException") (List.mem_cons_of_mem _ wt_160)) (va_Nw.use rfl hZ.2.1) h1 h2 h3 ?_
      refine lv_astore (lv' := [(5, .ref q9), (0, .ref (a 0)), (1, .int p1), (2, .int p2), (3, .int p3), (4, .ref (a 32))]) hx hb dL_chain_15 hl (by decide) rfl (fun ls hl => ?_)
      refine lv_iconst (v := 1) hx hb dL_chain_17 (by decide) ?_
      exact W.iret (v := 1) hx hb hr (fun t ht hW => ⟨⟨1, (n', f'), rfl, hw, ct_mkB ht hP⟩, hS.F ht⟩) hS.2.2 dL_chain_18
    · refine vx_catch (own := RL) (name := "java/lang/UnsupportedOperationException") (E := "java/lang/UnsupportedOperationException") hown [⟨0, 12, 15, 13⟩] ⟨0, 12, 19, 15⟩ [] (htab.trans rfl) (fun z h => by
        simp only [List.mem_cons, List.not_mem_nil, or_false] at h
        subst h
        exact Or.inr ⟨by decide, "java/lang/IllegalArgumentException", (hts (.classLink RL 13 "java/lang/IllegalArgumentException") (List.mem_cons_of_mem _ wt_160)), hZ.2.2.2.2.2.2.2.1⟩) (by decide) (by decide) (hts (.classLink RL 15 "java/lang/UnsupportedOperationException") (List.mem_cons_of_mem _ wt_161)) (va_Nw.use rfl hZ.2.2.1) h1 h2 h3 ?_
      refine lv_astore (lv' := [(5, .ref q9), (0, .ref (a 0)), (1, .int p1), (2, .int p2), (3, .int p3), (4, .ref (a 32))]) hx hb dL_chain_19 hl (by decide) rfl (fun ls hl => ?_)
      refine lv_iconst (v := 2) hx hb dL_chain_21 (by decide) ?_
      exact W.iret (v := 2) hx hb hr (fun t ht hW => ⟨⟨2, (n', f'), rfl, hw, ct_mkB ht hP⟩, hS.F ht⟩) hS.2.2 dL_chain_22
def wp_L_node (post : Int32 → ctN → ctF → Prop) (p1 : Int32) (p2 : Int32) (p3 : Int32) (n : ctN) (f : ctF) : Prop := (wp_C_node (fun (r : Int32) (n : ctN) (f : ctF) => ∀ f2 : ctF, f2 = va_up f 32 (upd (f 32) 0 r) → post 0 n f2) xF p1 p2 p3 n f) ∨ (wp_C_node pFi (fun E n f => (E = "java/lang/IllegalArgumentException" ∧ post 1 n f) ∨ (E = "java/lang/UnsupportedOperationException" ∧ post 2 n f)) p1 p2 p3 n f)
set_option maxHeartbeats 4000000 in
set_option maxRecDepth 100000 in
theorem met_L_node (l : Launch) (hl9 : l.stackTraces = false) (dC : Nat → ClassId) (dI : Nat → Nat → Nat) (a : Nat → Nat) (cA : Nat → ClassId) (sa : Nat → Nat) (p1 : Int32) (p2 : Int32) (p3 : Int32) (n : ctN) (f : ctF) (sz : Nat) {post : Int32 → ctN → ctF → Prop} (hw : wp_L_node post p1 p2 p3 n f) : Met l yL_node wsL_node ({ frames := 7, cells := 1, slots := 6, locals := 136 } : Room) (ct_Pc dC dI a cA sa [.ref (a 0), .int p1, .int p2, .int p3, .ref (a 32)] n f sz) (va_Qi (fun (r : Int32) (u : ctN × ctF) => post r u.1 u.2) (ct_B dC dI a cA) (va_A (ctW a cA n f) sz)) 1 6 (va_A (ctW a cA n f) sz) := by
  refine va_MetW (cc := cL_node) (maxL := 6) (ret := (some .int)) (hh := [(0, 12, 15, 13), (0, 12, 19, 15)]) (by decide) rfl ?_
  intro p e s m args below meth c s₁ B hml hv
  obtain ⟨rfl, hsz, hP, hK, hD0, hZ⟩ := hv
  have hx := B.exec
  have hb := B.bytes
  have hr := B.returns
  have hts := atoms_spec (ws := wsL_node) B.pre
  have hown : s.vm.findClass RL = some m.cls := findClass_of_methodNamed B.named
  have hlocks := B.notSynchronized
  have htab : c.exceptionTable.toList = tableOf [(0, 12, 15, 13), (0, 12, 19, 15)] := vx_table (x := yL_node) B (hts kL_node List.mem_cons_self)
  subst hsz
  have hD := hD0.self (sz := s.heap.size)
  generalize hAe : va_A (ctW a cA n f) s.heap.size = A at hD hZ ⊢
  have hDa : ∀ (n : ctN) (f : ctF), va_D A (ctW a cA n f) := fun _ _ => ct_D hD
  have hA : ∀ q : Nat, s.heap.size ≤ q → A q := fun q h => by rw [← hAe]; exact Or.inr h
  have hS : va_S A s.heap s.heap [] := va_S.rf
  have hl := lv_entry ([.ref (a 0), .int p1, .int p2, .int p3, .ref (a 32)]) (n := 6) (Nat.le_of_ble_eq_true rfl)
  rw [lg_entry_eq]
  generalize (lg_sl ([.ref (a 0), .int p1, .int p2, .int p3, .ref (a 32)]) ++ List.replicate (6 - (lg_sl ([.ref (a 0), .int p1, .int p2, .int p3, .ref (a 32)])).length) Slot.unset).toArray = ls at hl ⊢
  have hl : lv_has ls 6 [(0, .ref (a 0)), (1, .int p1), (2, .int p2), (3, .int p3), (4, .ref (a 32))] := hl
  unfold wp_L_node at hw
  refine lv_aload hx hb dL_node_0 (lv_at hl 4 rfl) ?_
  refine lv_iconst (v := 0) hx hb dL_node_2 (by decide) ?_
  refine lv_aload_n hx hb dL_node_3 rfl (lv_at hl 0 rfl) ?_
  refine lv_iload_n hx hb dL_node_4 rfl (lv_at hl 1 rfl) ?_
  refine lv_iload_n hx hb dL_node_5 rfl (lv_at hl 2 rfl) ?_
  refine lv_iload_n hx hb dL_node_6 rfl (lv_at hl 3 rfl) ?_
  rcases hw with hw | hw
  · refine ct_i (va_runV (As := [.int p1, .int p2, .int p3]) (rest := [.int 0, .ref (a 32)]) ⟨hx, hb, hml, hown, hts⟩ (met0_C_node l dC dI a cA sa p1 p2 p3 n f _ hw) (cwV 3 hts (wb_V wt_295 wt_296 wt_297 wt_27 wt_298) rfl rfl rfl (by decide +kernel) ⟨Nat.le_of_ble_eq_true rfl, Nat.le_of_ble_eq_true rfl⟩) (ct_preV hK hP (hDa _ _) hZ hS hA (va_recv hK hP (ci := 0) (q0 := 0) rfl rfl)) rfl rfl hl.1 rfl (lv_room (Nat.le_of_ble_eq_true rfl)) dL_node_7 ⟨Nat.le_of_ble_eq_true rfl, Nat.le_of_ble_eq_true rfl⟩) (hDa _ _) hS hA (fun r1 n1 f1 H locs hw hP hS => ?_)
    refine lv_i2l (v := r1.toInt64) hx hb dL_node_10 rfl ?_
    refine va_last hx hb hK hP (hDa _ _) hS 32 28 rfl rfl ct_in01 dL_node_11 (fun H locs hP _ hS => ?_)
    obtain ⟨f2, ef2⟩ : ∃ z : ctF, z = va_up f1 32 (upd (f1 32) 0 r1) := ⟨_, rfl⟩
    have hw := hw f2 ef2
    have hP : va_P (dC, dI) vcl (ctW a cA n1 f2) H := by rw [ef2]; exact ct_out hP
    refine lv_goto (tgt := 23) hx hb dL_node_12 (by decide) ?_
    refine lv_iconst (v := 0) hx hb dL_node_23 (by decide) ?_
    refine W.widen (k := 1) (n := 6) (Nat.le_of_ble_eq_true rfl) (Nat.le_of_ble_eq_true rfl) ?_
    exact W.iret (v := 0) hx hb hr (fun t ht hW => ⟨⟨0, (n1, f2), rfl, hw, ct_mkB ht hP⟩, hS.F ht⟩) hS.2.2 dL_node_24
  · refine ct_xi (vx_runV (As := [.int p1, .int p2, .int p3]) (rest := [.int 0, .ref (a 32)]) ⟨hx, hb, hml, hown, hts⟩ (metx_C_node l hl9 dC dI a cA sa p1 p2 p3 n f _ hw) (cwV 3 hts (wb_V wt_295 wt_296 wt_297 wt_27 wt_298) rfl rfl rfl (by decide +kernel) ⟨Nat.le_of_ble_eq_true rfl, Nat.le_of_ble_eq_true rfl⟩) (ct_preV hK hP (hDa _ _) hZ hS hA (va_recv hK hP (ci := 0) (q0 := 0) rfl rfl)) rfl rfl hl.1 rfl (lv_room (Nat.le_of_ble_eq_true rfl)) dL_node_7 ⟨Nat.le_of_ble_eq_true rfl, Nat.le_of_ble_eq_true rfl⟩) (hDa _ _) hS hA (fun E ce q9 n' f' H locs hw hP hS h1 h2 h3 => ?_) (fun _ _ _ _ _ hw _ _ => False.elim hw)
    rcases hw with ⟨rfl, hw⟩ | ⟨rfl, hw⟩
    · refine vx_catch (own := RL) (name := "java/lang/IllegalArgumentException") (E := "java/lang/IllegalArgumentException") hown [] ⟨0, 12, 15, 13⟩ [⟨0, 12, 19, 15⟩] (htab.trans rfl) (fun z h => by cases h) (by decide) (by decide) (hts (.classLink RL 13 "java/lang/IllegalArgumentException") (List.mem_cons_of_mem _ wt_160)) (va_Nw.use rfl hZ.2.1) h1 h2 h3 ?_
      refine lv_astore (lv' := [(5, .ref q9), (0, .ref (a 0)), (1, .int p1), (2, .int p2), (3, .int p3), (4, .ref (a 32))]) hx hb dL_node_15 hl (by decide) rfl (fun ls hl => ?_)
      refine lv_iconst (v := 1) hx hb dL_node_17 (by decide) ?_
      exact W.iret (v := 1) hx hb hr (fun t ht hW => ⟨⟨1, (n', f'), rfl, hw, ct_mkB ht hP⟩, hS.F ht⟩) hS.2.2 dL_node_18
    · refine vx_catch (own := RL) (name := "java/lang/UnsupportedOperationException") (E := "java/lang/UnsupportedOperationException") hown [⟨0, 12, 15, 13⟩] ⟨0, 12, 19, 15⟩ [] (htab.trans rfl) (fun z h => by
        simp only [List.mem_cons, List.not_mem_nil, or_false] at h
        subst h
        exact Or.inr ⟨by decide, "java/lang/IllegalArgumentException", (hts (.classLink RL 13 "java/lang/IllegalArgumentException") (List.mem_cons_of_mem _ wt_160)), hZ.2.2.2.2.2.2.2.1⟩) (by decide) (by decide) (hts (.classLink RL 15 "java/lang/UnsupportedOperationException") (List.mem_cons_of_mem _ wt_161)) (va_Nw.use rfl hZ.2.2.1) h1 h2 h3 ?_
      refine lv_astore (lv' := [(5, .ref q9), (0, .ref (a 0)), (1, .int p1), (2, .int p2), (3, .int p3), (4, .ref (a 32))]) hx hb dL_node_19 hl (by decide) rfl (fun ls hl => ?_)
      refine lv_iconst (v := 2) hx hb dL_node_21 (by decide) ?_
      exact W.iret (v := 2) hx hb hr (fun t ht hW => ⟨⟨2, (n', f'), rfl, hw, ct_mkB ht hP⟩, hS.F ht⟩) hS.2.2 dL_node_22
def wp_L_cost (post : Int32 → ctN → ctF → Prop) (p1 : Int32) (p2 : Int32) (n : ctN) (f : ctF) : Prop := (wp_C_cost (fun (r : Int32) (n : ctN) (f : ctF) => ∀ f2 : ctF, f2 = va_up f 32 (upd (f 32) 0 r) → post 0 n f2) xF p1 p2 n f) ∨ (wp_C_cost pFi (fun E n f => (E = "java/lang/IllegalArgumentException" ∧ post 1 n f)) p1 p2 n f)
set_option maxHeartbeats 4000000 in
set_option maxRecDepth 100000 in
theorem met_L_cost (l : Launch) (hl9 : l.stackTraces = false) (dC : Nat → ClassId) (dI : Nat → Nat → Nat) (a : Nat → Nat) (cA : Nat → ClassId) (sa : Nat → Nat) (p1 : Int32) (p2 : Int32) (n : ctN) (f : ctF) (sz : Nat) {post : Int32 → ctN → ctF → Prop} (hw : wp_L_cost post p1 p2 n f) : Met l yL_cost wsL_cost ({ frames := 8, cells := 1, slots := 6, locals := 134 } : Room) (ct_Pc dC dI a cA sa [.ref (a 0), .int p1, .int p2, .ref (a 32)] n f sz) (va_Qi (fun (r : Int32) (u : ctN × ctF) => post r u.1 u.2) (ct_B dC dI a cA) (va_A (ctW a cA n f) sz)) 1 6 (va_A (ctW a cA n f) sz) := by
  refine va_MetW (cc := cL_cost) (maxL := 5) (ret := (some .int)) (hh := [(0, 10, 13, 13)]) (by decide) rfl ?_
  intro p e s m args below meth c s₁ B hml hv
  obtain ⟨rfl, hsz, hP, hK, hD0, hZ⟩ := hv
  have hx := B.exec
  have hb := B.bytes
  have hr := B.returns
  have hts := atoms_spec (ws := wsL_cost) B.pre
  have hown : s.vm.findClass RL = some m.cls := findClass_of_methodNamed B.named
  have hlocks := B.notSynchronized
  have htab : c.exceptionTable.toList = tableOf [(0, 10, 13, 13)] := vx_table (x := yL_cost) B (hts kL_cost List.mem_cons_self)
  subst hsz
  have hD := hD0.self (sz := s.heap.size)
  generalize hAe : va_A (ctW a cA n f) s.heap.size = A at hD hZ ⊢
  have hDa : ∀ (n : ctN) (f : ctF), va_D A (ctW a cA n f) := fun _ _ => ct_D hD
  have hA : ∀ q : Nat, s.heap.size ≤ q → A q := fun q h => by rw [← hAe]; exact Or.inr h
  have hS : va_S A s.heap s.heap [] := va_S.rf
  have hl := lv_entry ([.ref (a 0), .int p1, .int p2, .ref (a 32)]) (n := 5) (Nat.le_of_ble_eq_true rfl)
  rw [lg_entry_eq]
  generalize (lg_sl ([.ref (a 0), .int p1, .int p2, .ref (a 32)]) ++ List.replicate (5 - (lg_sl ([.ref (a 0), .int p1, .int p2, .ref (a 32)])).length) Slot.unset).toArray = ls at hl ⊢
  have hl : lv_has ls 5 [(0, .ref (a 0)), (1, .int p1), (2, .int p2), (3, .ref (a 32))] := hl
  unfold wp_L_cost at hw
  refine lv_aload_n hx hb dL_cost_0 rfl (lv_at hl 3 rfl) ?_
  refine lv_iconst (v := 0) hx hb dL_cost_1 (by decide) ?_
  refine lv_aload_n hx hb dL_cost_2 rfl (lv_at hl 0 rfl) ?_
  refine lv_iload_n hx hb dL_cost_3 rfl (lv_at hl 1 rfl) ?_
  refine lv_iload_n hx hb dL_cost_4 rfl (lv_at hl 2 rfl) ?_
  rcases hw with hw | hw
  · refine ct_i (va_runV (As := [.int p1, .int p2]) (rest := [.int 0, .ref (a 32)]) ⟨hx, hb, hml, hown, hts⟩ (met0_C_cost l dC dI a cA sa p1 p2 n f _ hw) (cwV 2 hts (wb_V wt_373 wt_374 wt_375 wt_27 wt_376) rfl rfl rfl (by decide +kernel) ⟨Nat.le_of_ble_eq_true rfl, Nat.le_of_ble_eq_true rfl⟩) (ct_preV hK hP (hDa _ _) hZ hS hA (va_recv hK hP (ci := 0) (q0 := 0) rfl rfl)) rfl rfl hl.1 rfl (lv_room (Nat.le_of_ble_eq_true rfl)) dL_cost_5 ⟨Nat.le_of_ble_eq_true rfl, Nat.le_of_ble_eq_true rfl⟩) (hDa _ _) hS hA (fun r1 n1 f1 H locs hw hP hS => ?_)
    refine lv_i2l (v := r1.toInt64) hx hb dL_cost_8 rfl ?_
    refine va_last hx hb hK hP (hDa _ _) hS 32 28 rfl rfl ct_in01 dL_cost_9 (fun H locs hP _ hS => ?_)
    obtain ⟨f2, ef2⟩ : ∃ z : ctF, z = va_up f1 32 (upd (f1 32) 0 r1) := ⟨_, rfl⟩
    have hw := hw f2 ef2
    have hP : va_P (dC, dI) vcl (ctW a cA n1 f2) H := by rw [ef2]; exact ct_out hP
    refine lv_goto (tgt := 17) hx hb dL_cost_10 (by decide) ?_
    refine lv_iconst (v := 0) hx hb dL_cost_17 (by decide) ?_
    refine W.widen (k := 1) (n := 6) (Nat.le_of_ble_eq_true rfl) (Nat.le_of_ble_eq_true rfl) ?_
    exact W.iret (v := 0) hx hb hr (fun t ht hW => ⟨⟨0, (n1, f2), rfl, hw, ct_mkB ht hP⟩, hS.F ht⟩) hS.2.2 dL_cost_18
  · refine ct_xi (vx_runV (As := [.int p1, .int p2]) (rest := [.int 0, .ref (a 32)]) ⟨hx, hb, hml, hown, hts⟩ (metx_C_cost l hl9 dC dI a cA sa p1 p2 n f _ hw) (cwV 2 hts (wb_V wt_373 wt_374 wt_375 wt_27 wt_376) rfl rfl rfl (by decide +kernel) ⟨Nat.le_of_ble_eq_true rfl, Nat.le_of_ble_eq_true rfl⟩) (ct_preV hK hP (hDa _ _) hZ hS hA (va_recv hK hP (ci := 0) (q0 := 0) rfl rfl)) rfl rfl hl.1 rfl (lv_room (Nat.le_of_ble_eq_true rfl)) dL_cost_5 ⟨Nat.le_of_ble_eq_true rfl, Nat.le_of_ble_eq_true rfl⟩) (hDa _ _) hS hA (fun E ce q9 n' f' H locs hw hP hS h1 h2 h3 => ?_) (fun _ _ _ _ _ hw _ _ => False.elim hw)
    obtain ⟨rfl, hw⟩ := hw
    refine vx_catch (own := RL) (name := "java/lang/IllegalArgumentException") (E := "java/lang/IllegalArgumentException") hown [] ⟨0, 10, 13, 13⟩ [] (htab.trans rfl) (fun z h => by cases h) (by decide) (by decide) (hts (.classLink RL 13 "java/lang/IllegalArgumentException") (List.mem_cons_of_mem _ wt_160)) (va_Nw.use rfl hZ.2.1) h1 h2 h3 ?_
    refine lv_astore (lv' := [(4, .ref q9), (0, .ref (a 0)), (1, .int p1), (2, .int p2), (3, .ref (a 32))]) hx hb dL_cost_13 hl (by decide) rfl (fun ls hl => ?_)
    refine lv_iconst (v := 1) hx hb dL_cost_15 (by decide) ?_
    exact W.iret (v := 1) hx hb hr (fun t ht hW => ⟨⟨1, (n', f'), rfl, hw, ct_mkB ht hP⟩, hS.F ht⟩) hS.2.2 dL_cost_16
def wp_L_rule (post : Int32 → ctN → ctF → Prop) (p1 : Int32) (p2 : Int32) (n : ctN) (f : ctF) : Prop := (wp_C_rule (fun (r : Int32) (n : ctN) (f : ctF) => ∀ f2 : ctF, f2 = va_up f 32 (upd (f 32) 0 r) → post 0 n f2) xF p1 p2 n f) ∨ (wp_C_rule pFi (fun E n f => (E = "java/lang/IllegalArgumentException" ∧ post 1 n f)) p1 p2 n f)
set_option maxHeartbeats 4000000 in
set_option maxRecDepth 100000 in
theorem met_L_rule (l : Launch) (hl9 : l.stackTraces = false) (dC : Nat → ClassId) (dI : Nat → Nat → Nat) (a : Nat → Nat) (cA : Nat → ClassId) (sa : Nat → Nat) (p1 : Int32) (p2 : Int32) (n : ctN) (f : ctF) (sz : Nat) {post : Int32 → ctN → ctF → Prop} (hw : wp_L_rule post p1 p2 n f) : Met l yL_rule wsL_rule ({ frames := 8, cells := 1, slots := 6, locals := 134 } : Room) (ct_Pc dC dI a cA sa [.ref (a 0), .int p1, .int p2, .ref (a 32)] n f sz) (va_Qi (fun (r : Int32) (u : ctN × ctF) => post r u.1 u.2) (ct_B dC dI a cA) (va_A (ctW a cA n f) sz)) 1 6 (va_A (ctW a cA n f) sz) := by
  refine va_MetW (cc := cL_rule) (maxL := 5) (ret := (some .int)) (hh := [(0, 10, 13, 13)]) (by decide) rfl ?_
  intro p e s m args below meth c s₁ B hml hv
  obtain ⟨rfl, hsz, hP, hK, hD0, hZ⟩ := hv
  have hx := B.exec
  have hb := B.bytes
  have hr := B.returns
  have hts := atoms_spec (ws := wsL_rule) B.pre
  have hown : s.vm.findClass RL = some m.cls := findClass_of_methodNamed B.named
  have hlocks := B.notSynchronized
  have htab : c.exceptionTable.toList = tableOf [(0, 10, 13, 13)] := vx_table (x := yL_rule) B (hts kL_rule List.mem_cons_self)
  subst hsz
  have hD := hD0.self (sz := s.heap.size)
  generalize hAe : va_A (ctW a cA n f) s.heap.size = A at hD hZ ⊢
  have hDa : ∀ (n : ctN) (f : ctF), va_D A (ctW a cA n f) := fun _ _ => ct_D hD
  have hA : ∀ q : Nat, s.heap.size ≤ q → A q := fun q h => by rw [← hAe]; exact Or.inr h
  have hS : va_S A s.heap s.heap [] := va_S.rf
  have hl := lv_entry ([.ref (a 0), .int p1, .int p2, .ref (a 32)]) (n := 5) (Nat.le_of_ble_eq_true rfl)
  rw [lg_entry_eq]
  generalize (lg_sl ([.ref (a 0), .int p1, .int p2, .ref (a 32)]) ++ List.replicate (5 - (lg_sl ([.ref (a 0), .int p1, .int p2, .ref (a 32)])).length) Slot.unset).toArray = ls at hl ⊢
  have hl : lv_has ls 5 [(0, .ref (a 0)), (1, .int p1), (2, .int p2), (3, .ref (a 32))] := hl
  unfold wp_L_rule at hw
  refine lv_aload_n hx hb dL_rule_0 rfl (lv_at hl 3 rfl) ?_
  refine lv_iconst (v := 0) hx hb dL_rule_1 (by decide) ?_
  refine lv_aload_n hx hb dL_rule_2 rfl (lv_at hl 0 rfl) ?_
  refine lv_iload_n hx hb dL_rule_3 rfl (lv_at hl 1 rfl) ?_
  refine lv_iload_n hx hb dL_rule_4 rfl (lv_at hl 2 rfl) ?_
  rcases hw with hw | hw
  · refine ct_i (va_runV (As := [.int p1, .int p2]) (rest := [.int 0, .ref (a 32)]) ⟨hx, hb, hml, hown, hts⟩ (met0_C_rule l dC dI a cA sa p1 p2 n f _ hw) (cwV 2 hts (wb_V wt_386 wt_387 wt_388 wt_27 wt_389) rfl rfl rfl (by decide +kernel) ⟨Nat.le_of_ble_eq_true rfl, Nat.le_of_ble_eq_true rfl⟩) (ct_preV hK hP (hDa _ _) hZ hS hA (va_recv hK hP (ci := 0) (q0 := 0) rfl rfl)) rfl rfl hl.1 rfl (lv_room (Nat.le_of_ble_eq_true rfl)) dL_rule_5 ⟨Nat.le_of_ble_eq_true rfl, Nat.le_of_ble_eq_true rfl⟩) (hDa _ _) hS hA (fun r1 n1 f1 H locs hw hP hS => ?_)
    refine lv_i2l (v := r1.toInt64) hx hb dL_rule_8 rfl ?_
    refine va_last hx hb hK hP (hDa _ _) hS 32 28 rfl rfl ct_in01 dL_rule_9 (fun H locs hP _ hS => ?_)
    obtain ⟨f2, ef2⟩ : ∃ z : ctF, z = va_up f1 32 (upd (f1 32) 0 r1) := ⟨_, rfl⟩
    have hw := hw f2 ef2
    have hP : va_P (dC, dI) vcl (ctW a cA n1 f2) H := by rw [ef2]; exact ct_out hP
    refine lv_goto (tgt := 17) hx hb dL_rule_10 (by decide) ?_
    refine lv_iconst (v := 0) hx hb dL_rule_17 (by decide) ?_
    refine W.widen (k := 1) (n := 6) (Nat.le_of_ble_eq_true rfl) (Nat.le_of_ble_eq_true rfl) ?_
    exact W.iret (v := 0) hx hb hr (fun t ht hW => ⟨⟨0, (n1, f2), rfl, hw, ct_mkB ht hP⟩, hS.F ht⟩) hS.2.2 dL_rule_18
  · refine ct_xi (vx_runV (As := [.int p1, .int p2]) (rest := [.int 0, .ref (a 32)]) ⟨hx, hb, hml, hown, hts⟩ (metx_C_rule l hl9 dC dI a cA sa p1 p2 n f _ hw) (cwV 2 hts (wb_V wt_386 wt_387 wt_388 wt_27 wt_389) rfl rfl rfl (by decide +kernel) ⟨Nat.le_of_ble_eq_true rfl, Nat.le_of_ble_eq_true rfl⟩) (ct_preV hK hP (hDa _ _) hZ hS hA (va_recv hK hP (ci := 0) (q0 := 0) rfl rfl)) rfl rfl hl.1 rfl (lv_room (Nat.le_of_ble_eq_true rfl)) dL_rule_5 ⟨Nat.le_of_ble_eq_true rfl, Nat.le_of_ble_eq_true rfl⟩) (hDa _ _) hS hA (fun E ce q9 n' f' H locs hw hP hS h1 h2 h3 => ?_) (fun _ _ _ _ _ hw _ _ => False.elim hw)
    obtain ⟨rfl, hw⟩ := hw
    refine vx_catch (own := RL) (name := "java/lang/IllegalArgumentException") (E := "java/lang/IllegalArgumentException") hown [] ⟨0, 10, 13, 13⟩ [] (htab.trans rfl) (fun z h => by cases h) (by decide) (by decide) (hts (.classLink RL 13 "java/lang/IllegalArgumentException") (List.mem_cons_of_mem _ wt_160)) (va_Nw.use rfl hZ.2.1) h1 h2 h3 ?_
    refine lv_astore (lv' := [(4, .ref q9), (0, .ref (a 0)), (1, .int p1), (2, .int p2), (3, .ref (a 32))]) hx hb dL_rule_13 hl (by decide) rfl (fun ls hl => ?_)
    refine lv_iconst (v := 1) hx hb dL_rule_15 (by decide) ?_
    exact W.iret (v := 1) hx hb hr (fun t ht hW => ⟨⟨1, (n', f'), rfl, hw, ct_mkB ht hP⟩, hS.F ht⟩) hS.2.2 dL_rule_16
def wp_L_size (post : Int32 → ctN → ctF → Prop) (p1 : Int32) (p2 : Int32) (n : ctN) (f : ctF) : Prop := (wp_C_size (fun (r : Int32) (n : ctN) (f : ctF) => ∀ f2 : ctF, f2 = va_up f 32 (upd (f 32) 0 r) → post 0 n f2) xF p1 p2 n f) ∨ (wp_C_size pFi (fun E n f => (E = "java/lang/IllegalArgumentException" ∧ post 1 n f) ∨ (E = "java/lang/UnsupportedOperationException" ∧ post 2 n f)) p1 p2 n f)
set_option maxHeartbeats 4000000 in
set_option maxRecDepth 100000 in
theorem met_L_size (l : Launch) (hl9 : l.stackTraces = false) (dC : Nat → ClassId) (dI : Nat → Nat → Nat) (a : Nat → Nat) (cA : Nat → ClassId) (sa : Nat → Nat) (p1 : Int32) (p2 : Int32) (n : ctN) (f : ctF) (sz : Nat) {post : Int32 → ctN → ctF → Prop} (hw : wp_L_size post p1 p2 n f) : Met l yL_size wsL_size ({ frames := 8, cells := 1, slots := 6, locals := 135 } : Room) (ct_Pc dC dI a cA sa [.ref (a 0), .int p1, .int p2, .ref (a 32)] n f sz) (va_Qi (fun (r : Int32) (u : ctN × ctF) => post r u.1 u.2) (ct_B dC dI a cA) (va_A (ctW a cA n f) sz)) 1 6 (va_A (ctW a cA n f) sz) := by
  refine va_MetW (cc := cL_size) (maxL := 5) (ret := (some .int)) (hh := [(0, 10, 13, 13), (0, 10, 17, 15)]) (by decide) rfl ?_
  intro p e s m args below meth c s₁ B hml hv
  obtain ⟨rfl, hsz, hP, hK, hD0, hZ⟩ := hv
  have hx := B.exec
  have hb := B.bytes
  have hr := B.returns
  have hts := atoms_spec (ws := wsL_size) B.pre
  have hown : s.vm.findClass RL = some m.cls := findClass_of_methodNamed B.named
  have hlocks := B.notSynchronized
  have htab : c.exceptionTable.toList = tableOf [(0, 10, 13, 13), (0, 10, 17, 15)] := vx_table (x := yL_size) B (hts kL_size List.mem_cons_self)
  subst hsz
  have hD := hD0.self (sz := s.heap.size)
  generalize hAe : va_A (ctW a cA n f) s.heap.size = A at hD hZ ⊢
  have hDa : ∀ (n : ctN) (f : ctF), va_D A (ctW a cA n f) := fun _ _ => ct_D hD
  have hA : ∀ q : Nat, s.heap.size ≤ q → A q := fun q h => by rw [← hAe]; exact Or.inr h
  have hS : va_S A s.heap s.heap [] := va_S.rf
  have hl := lv_entry ([.ref (a 0), .int p1, .int p2, .ref (a 32)]) (n := 5) (Nat.le_of_ble_eq_true rfl)
  rw [lg_entry_eq]
  generalize (lg_sl ([.ref (a 0), .int p1, .int p2, .ref (a 32)]) ++ List.replicate (5 - (lg_sl ([.ref (a 0), .int p1, .int p2, .ref (a 32)])).length) Slot.unset).toArray = ls at hl ⊢
  have hl : lv_has ls 5 [(0, .ref (a 0)), (1, .int p1), (2, .int p2), (3, .ref (a 32))] := hl
  unfold wp_L_size at hw
  refine lv_aload_n hx hb dL_size_0 rfl (lv_at hl 3 rfl) ?_
  refine lv_iconst (v := 0) hx hb dL_size_1 (by decide) ?_
  refine lv_aload_n hx hb dL_size_2 rfl (lv_at hl 0 rfl) ?_
  refine lv_iload_n hx hb dL_size_3 rfl (lv_at hl 1 rfl) ?_
  refine lv_iload_n hx hb dL_size_4 rfl (lv_at hl 2 rfl) ?_
  rcases hw with hw | hw
  · refine ct_i (va_runV (As := [.int p1, .int p2]) (rest := [.int 0, .ref (a 32)]) ⟨hx, hb, hml, hown, hts⟩ (met0_C_size l dC dI a cA sa p1 p2 n f _ hw) (cwV 2 hts (wb_V wt_393 wt_394 wt_395 wt_27 wt_396) rfl rfl rfl (by decide +kernel) ⟨Nat.le_of_ble_eq_true rfl, Nat.le_of_ble_eq_true rfl⟩) (ct_preV hK hP (hDa _ _) hZ hS hA (va_recv hK hP (ci := 0) (q0 := 0) rfl rfl)) rfl rfl hl.1 rfl (lv_room (Nat.le_of_ble_eq_true rfl)) dL_size_5 ⟨Nat.le_of_ble_eq_true rfl, Nat.le_of_ble_eq_true rfl⟩) (hDa _ _) hS hA (fun r1 n1 f1 H locs hw hP hS => ?_)
    refine lv_i2l (v := r1.toInt64) hx hb dL_size_8 rfl ?_
    refine va_last hx hb hK hP (hDa _ _) hS 32 28 rfl rfl ct_in01 dL_size_9 (fun H locs hP _ hS => ?_)
    obtain ⟨f2, ef2⟩ : ∃ z : ctF, z = va_up f1 32 (upd (f1 32) 0 r1) := ⟨_, rfl⟩
    have hw := hw f2 ef2
    have hP : va_P (dC, dI) vcl (ctW a cA n1 f2) H := by rw [ef2]; exact ct_out hP
    refine lv_goto (tgt := 21) hx hb dL_size_10 (by decide) ?_
    refine lv_iconst (v := 0) hx hb dL_size_21 (by decide) ?_
    refine W.widen (k := 1) (n := 6) (Nat.le_of_ble_eq_true rfl) (Nat.le_of_ble_eq_true rfl) ?_
    exact W.iret (v := 0) hx hb hr (fun t ht hW => ⟨⟨0, (n1, f2), rfl, hw, ct_mkB ht hP⟩, hS.F ht⟩) hS.2.2 dL_size_22
  · refine ct_xi (vx_runV (As := [.int p1, .int p2]) (rest := [.int 0, .ref (a 32)]) ⟨hx, hb, hml, hown, hts⟩ (metx_C_size l hl9 dC dI a cA sa p1 p2 n f _ hw) (cwV 2 hts (wb_V wt_393 wt_394 wt_395 wt_27 wt_396) rfl rfl rfl (by decide +kernel) ⟨Nat.le_of_ble_eq_true rfl, Nat.le_of_ble_eq_true rfl⟩) (ct_preV hK hP (hDa _ _) hZ hS hA (va_recv hK hP (ci := 0) (q0 := 0) rfl rfl)) rfl rfl hl.1 rfl (lv_room (Nat.le_of_ble_eq_true rfl)) dL_size_5 ⟨Nat.le_of_ble_eq_true rfl, Nat.le_of_ble_eq_true rfl⟩) (hDa _ _) hS hA (fun E ce q9 n' f' H locs hw hP hS h1 h2 h3 => ?_) (fun _ _ _ _ _ hw _ _ => False.elim hw)
    rcases hw with ⟨rfl, hw⟩ | ⟨rfl, hw⟩
    · refine vx_catch (own := RL) (name := "java/lang/IllegalArgumentException") (E := "java/lang/IllegalArgumentException") hown [] ⟨0, 10, 13, 13⟩ [⟨0, 10, 17, 15⟩] (htab.trans rfl) (fun z h => by cases h) (by decide) (by decide) (hts (.classLink RL 13 "java/lang/IllegalArgumentException") (List.mem_cons_of_mem _ wt_160)) (va_Nw.use rfl hZ.2.1) h1 h2 h3 ?_
      refine lv_astore (lv' := [(4, .ref q9), (0, .ref (a 0)), (1, .int p1), (2, .int p2), (3, .ref (a 32))]) hx hb dL_size_13 hl (by decide) rfl (fun ls hl => ?_)
      refine lv_iconst (v := 1) hx hb dL_size_15 (by decide) ?_
      exact W.iret (v := 1) hx hb hr (fun t ht hW => ⟨⟨1, (n', f'), rfl, hw, ct_mkB ht hP⟩, hS.F ht⟩) hS.2.2 dL_size_16
    · refine vx_catch (own := RL) (name := "java/lang/UnsupportedOperationException") (E := "java/lang/UnsupportedOperationException") hown [⟨0, 10, 13, 13⟩] ⟨0, 10, 17, 15⟩ [] (htab.trans rfl) (fun z h => by
        simp only [List.mem_cons, List.not_mem_nil, or_false] at h
        subst h
        exact Or.inr ⟨by decide, "java/lang/IllegalArgumentException", (hts (.classLink RL 13 "java/lang/IllegalArgumentException") (List.mem_cons_of_mem _ wt_160)), hZ.2.2.2.2.2.2.2.1⟩) (by decide) (by decide) (hts (.classLink RL 15 "java/lang/UnsupportedOperationException") (List.mem_cons_of_mem _ wt_161)) (va_Nw.use rfl hZ.2.2.1) h1 h2 h3 ?_
      refine lv_astore (lv' := [(4, .ref q9), (0, .ref (a 0)), (1, .int p1), (2, .int p2), (3, .ref (a 32))]) hx hb dL_size_17 hl (by decide) rfl (fun ls hl => ?_)
      refine lv_iconst (v := 2) hx hb dL_size_19 (by decide) ?_
      exact W.iret (v := 2) hx hb hr (fun t ht hW => ⟨⟨2, (n', f'), rfl, hw, ct_mkB ht hP⟩, hS.F ht⟩) hS.2.2 dL_size_20
def wp_L_cover (post : Int32 → ctN → ctF → Prop) (p1 : Int32) (p2 : Int32) (p3 : Int32) (p4 : Int32) (n : ctN) (f : ctF) : Prop := (wp_C_cover (fun (r : Int32) (n : ctN) (f : ctF) => ∀ f2 : ctF, f2 = va_up f 32 (upd (f 32) 0 r) → post 0 n f2) xF p1 p2 p3 p4 n f) ∨ (wp_C_cover pFi (fun E n f => (E = "java/lang/IllegalArgumentException" ∧ post 1 n f) ∨ (E = "java/lang/UnsupportedOperationException" ∧ post 2 n f) ∨ (E = "java/lang/IndexOutOfBoundsException" ∧ post 3 n f)) p1 p2 p3 p4 n f)
set_option maxHeartbeats 4000000 in
set_option maxRecDepth 100000 in
theorem met_L_cover (l : Launch) (hl9 : l.stackTraces = false) (dC : Nat → ClassId) (dI : Nat → Nat → Nat) (a : Nat → Nat) (cA : Nat → ClassId) (sa : Nat → Nat) (p1 : Int32) (p2 : Int32) (p3 : Int32) (p4 : Int32) (n : ctN) (f : ctF) (sz : Nat) {post : Int32 → ctN → ctF → Prop} (hw : wp_L_cover post p1 p2 p3 p4 n f) : Met l yL_cover wsL_cover ({ frames := 8, cells := 1, slots := 6, locals := 139 } : Room) (ct_Pc dC dI a cA sa [.ref (a 0), .int p1, .int p2, .int p3, .int p4, .ref (a 32)] n f sz) (va_Qi (fun (r : Int32) (u : ctN × ctF) => post r u.1 u.2) (ct_B dC dI a cA) (va_A (ctW a cA n f) sz)) 1 6 (va_A (ctW a cA n f) sz) := by
  refine va_MetW (cc := cL_cover) (maxL := 7) (ret := (some .int)) (hh := [(0, 14, 17, 13), (0, 14, 21, 15), (0, 14, 25, 42)]) (by decide) rfl ?_
  intro p e s m args below meth c s₁ B hml hv
  obtain ⟨rfl, hsz, hP, hK, hD0, hZ⟩ := hv
  have hx := B.exec
  have hb := B.bytes
  have hr := B.returns
  have hts := atoms_spec (ws := wsL_cover) B.pre
  have hown : s.vm.findClass RL = some m.cls := findClass_of_methodNamed B.named
  have hlocks := B.notSynchronized
  have htab : c.exceptionTable.toList = tableOf [(0, 14, 17, 13), (0, 14, 21, 15), (0, 14, 25, 42)] := vx_table (x := yL_cover) B (hts kL_cover List.mem_cons_self)
  subst hsz
  have hD := hD0.self (sz := s.heap.size)
  generalize hAe : va_A (ctW a cA n f) s.heap.size = A at hD hZ ⊢
  have hDa : ∀ (n : ctN) (f : ctF), va_D A (ctW a cA n f) := fun _ _ => ct_D hD
  have hA : ∀ q : Nat, s.heap.size ≤ q → A q := fun q h => by rw [← hAe]; exact Or.inr h
  have hS : va_S A s.heap s.heap [] := va_S.rf
  have hl := lv_entry ([.ref (a 0), .int p1, .int p2, .int p3, .int p4, .ref (a 32)]) (n := 7) (Nat.le_of_ble_eq_true rfl)
  rw [lg_entry_eq]
  generalize (lg_sl ([.ref (a 0), .int p1, .int p2, .int p3, .int p4, .ref (a 32)]) ++ List.replicate (7 - (lg_sl ([.ref (a 0), .int p1, .int p2, .int p3, .int p4, .ref (a 32)])).length) Slot.unset).toArray = ls at hl ⊢
  have hl : lv_has ls 7 [(0, .ref (a 0)), (1, .int p1), (2, .int p2), (3, .int p3), (4, .int p4), (5, .ref (a 32))] := hl
  unfold wp_L_cover at hw
  refine lv_aload hx hb dL_cover_0 (lv_at hl 5 rfl) ?_
  refine lv_iconst (v := 0) hx hb dL_cover_2 (by decide) ?_
  refine lv_aload_n hx hb dL_cover_3 rfl (lv_at hl 0 rfl) ?_
  refine lv_iload_n hx hb dL_cover_4 rfl (lv_at hl 1 rfl) ?_
  refine lv_iload_n hx hb dL_cover_5 rfl (lv_at hl 2 rfl) ?_
  refine lv_iload_n hx hb dL_cover_6 rfl (lv_at hl 3 rfl) ?_
  refine lv_iload hx hb dL_cover_7 (lv_at hl 4 rfl) ?_
  rcases hw with hw | hw
  · refine ct_i (va_runV (As := [.int p1, .int p2, .int p3, .int p4]) (rest := [.int 0, .ref (a 32)]) ⟨hx, hb, hml, hown, hts⟩ (met0_C_cover l dC dI a cA sa p1 p2 p3 p4 n f _ hw) (cwV 4 hts (wb_V wt_406 wt_407 wt_408 wt_27 wt_409) rfl rfl rfl (by decide +kernel) ⟨Nat.le_of_ble_eq_true rfl, Nat.le_of_ble_eq_true rfl⟩) (ct_preV hK hP (hDa _ _) hZ hS hA (va_recv hK hP (ci := 0) (q0 := 0) rfl rfl)) rfl rfl hl.1 rfl (lv_room (Nat.le_of_ble_eq_true rfl)) dL_cover_9 ⟨Nat.le_of_ble_eq_true rfl, Nat.le_of_ble_eq_true rfl⟩) (hDa _ _) hS hA (fun r1 n1 f1 H locs hw hP hS => ?_)
    refine lv_i2l (v := r1.toInt64) hx hb dL_cover_12 rfl ?_
    refine va_last hx hb hK hP (hDa _ _) hS 32 28 rfl rfl ct_in01 dL_cover_13 (fun H locs hP _ hS => ?_)
    obtain ⟨f2, ef2⟩ : ∃ z : ctF, z = va_up f1 32 (upd (f1 32) 0 r1) := ⟨_, rfl⟩
    have hw := hw f2 ef2
    have hP : va_P (dC, dI) vcl (ctW a cA n1 f2) H := by rw [ef2]; exact ct_out hP
    refine lv_goto (tgt := 29) hx hb dL_cover_14 (by decide) ?_
    refine lv_iconst (v := 0) hx hb dL_cover_29 (by decide) ?_
    refine W.widen (k := 1) (n := 6) (Nat.le_of_ble_eq_true rfl) (Nat.le_of_ble_eq_true rfl) ?_
    exact W.iret (v := 0) hx hb hr (fun t ht hW => ⟨⟨0, (n1, f2), rfl, hw, ct_mkB ht hP⟩, hS.F ht⟩) hS.2.2 dL_cover_30
  · refine ct_xi (vx_runV (As := [.int p1, .int p2, .int p3, .int p4]) (rest := [.int 0, .ref (a 32)]) ⟨hx, hb, hml, hown, hts⟩ (metx_C_cover l hl9 dC dI a cA sa p1 p2 p3 p4 n f _ hw) (cwV 4 hts (wb_V wt_406 wt_407 wt_408 wt_27 wt_409) rfl rfl rfl (by decide +kernel) ⟨Nat.le_of_ble_eq_true rfl, Nat.le_of_ble_eq_true rfl⟩) (ct_preV hK hP (hDa _ _) hZ hS hA (va_recv hK hP (ci := 0) (q0 := 0) rfl rfl)) rfl rfl hl.1 rfl (lv_room (Nat.le_of_ble_eq_true rfl)) dL_cover_9 ⟨Nat.le_of_ble_eq_true rfl, Nat.le_of_ble_eq_true rfl⟩) (hDa _ _) hS hA (fun E ce q9 n' f' H locs hw hP hS h1 h2 h3 => ?_) (fun _ _ _ _ _ hw _ _ => False.elim hw)
    rcases hw with ⟨rfl, hw⟩ | ⟨rfl, hw⟩ | ⟨rfl, hw⟩
    · refine vx_catch (own := RL) (name := "java/lang/IllegalArgumentException") (E := "java/lang/IllegalArgumentException") hown [] ⟨0, 14, 17, 13⟩ [⟨0, 14, 21, 15⟩, ⟨0, 14, 25, 42⟩] (htab.trans rfl) (fun z h => by cases h) (by decide) (by decide) (hts (.classLink RL 13 "java/lang/IllegalArgumentException") (List.mem_cons_of_mem _ wt_160)) (va_Nw.use rfl hZ.2.1) h1 h2 h3 ?_
      refine lv_astore (lv' := [(6, .ref q9), (0, .ref (a 0)), (1, .int p1), (2, .int p2), (3, .int p3), (4, .int p4), (5, .ref (a 32))]) hx hb dL_cover_17 hl (by decide) rfl (fun ls hl => ?_)
      refine lv_iconst (v := 1) hx hb dL_cover_19 (by decide) ?_
      exact W.iret (v := 1) hx hb hr (fun t ht hW => ⟨⟨1, (n', f'), rfl, hw, ct_mkB ht hP⟩, hS.F ht⟩) hS.2.2 dL_cover_20
    · refine vx_catch (own := RL) (name := "java/lang/UnsupportedOperationException") (E := "java/lang/UnsupportedOperationException") hown [⟨0, 14, 17, 13⟩] ⟨0, 14, 21, 15⟩ [⟨0, 14, 25, 42⟩] (htab.trans rfl) (fun z h => by
        simp only [List.mem_cons, List.not_mem_nil, or_false] at h
        subst h
        exact Or.inr ⟨by decide, "java/lang/IllegalArgumentException", (hts (.classLink RL 13 "java/lang/IllegalArgumentException") (List.mem_cons_of_mem _ wt_160)), hZ.2.2.2.2.2.2.2.1⟩) (by decide) (by decide) (hts (.classLink RL 15 "java/lang/UnsupportedOperationException") (List.mem_cons_of_mem _ wt_161)) (va_Nw.use rfl hZ.2.2.1) h1 h2 h3 ?_
      refine lv_astore (lv' := [(6, .ref q9), (0, .ref (a 0)), (1, .int p1), (2, .int p2), (3, .int p3), (4, .int p4), (5, .ref (a 32))]) hx hb dL_cover_21 hl (by decide) rfl (fun ls hl => ?_)
      refine lv_iconst (v := 2) hx hb dL_cover_23 (by decide) ?_
      exact W.iret (v := 2) hx hb hr (fun t ht hW => ⟨⟨2, (n', f'), rfl, hw, ct_mkB ht hP⟩, hS.F ht⟩) hS.2.2 dL_cover_24
    · refine vx_catch (own := RL) (name := "java/lang/IndexOutOfBoundsException") (E := "java/lang/IndexOutOfBoundsException") hown [⟨0, 14, 17, 13⟩, ⟨0, 14, 21, 15⟩] ⟨0, 14, 25, 42⟩ [] (htab.trans rfl) (fun z h => by
        simp only [List.mem_cons, List.not_mem_nil, or_false] at h
        rcases h with rfl | rfl
        · exact Or.inr ⟨by decide, "java/lang/IllegalArgumentException", (hts (.classLink RL 13 "java/lang/IllegalArgumentException") (List.mem_cons_of_mem _ wt_160)), hZ.2.2.2.2.2.2.2.2.1⟩
        · exact Or.inr ⟨by decide, "java/lang/UnsupportedOperationException", (hts (.classLink RL 15 "java/lang/UnsupportedOperationException") (List.mem_cons_of_mem _ wt_161)), hZ.2.2.2.2.2.2.2.2.2.1⟩) (by decide) (by decide) (hts (.classLink RL 42 "java/lang/IndexOutOfBoundsException") (List.mem_cons_of_mem _ wt_405)) (va_Nw.use rfl hZ.2.2.2.1) h1 h2 h3 ?_
      refine lv_astore (lv' := [(6, .ref q9), (0, .ref (a 0)), (1, .int p1), (2, .int p2), (3, .int p3), (4, .int p4), (5, .ref (a 32))]) hx hb dL_cover_25 hl (by decide) rfl (fun ls hl => ?_)
      refine lv_iconst (v := 3) hx hb dL_cover_27 (by decide) ?_
      exact W.iret (v := 3) hx hb hr (fun t ht hW => ⟨⟨3, (n', f'), rfl, hw, ct_mkB ht hP⟩, hS.F ht⟩) hS.2.2 dL_cover_28
def wp_L_like (post : Int32 → ctN → ctF → Prop) (p1 : Int32) (n : ctN) (f : ctF) : Prop := (wp_C_like (fun (r : Int32) (n : ctN) (f : ctF) => ∀ f2 : ctF, f2 = va_up f 32 (upd (f 32) 0 r) → post 0 n f2) xF p1 n f) ∨ (wp_C_like pFi (fun E n f => (E = "java/lang/IllegalArgumentException" ∧ post 1 n f)) p1 n f)
set_option maxHeartbeats 4000000 in
set_option maxRecDepth 100000 in
theorem met_L_like (l : Launch) (hl9 : l.stackTraces = false) (dC : Nat → ClassId) (dI : Nat → Nat → Nat) (a : Nat → Nat) (cA : Nat → ClassId) (sa : Nat → Nat) (p1 : Int32) (n : ctN) (f : ctF) (sz : Nat) {post : Int32 → ctN → ctF → Prop} (hw : wp_L_like post p1 n f) : Met l yL_like wsL_like ({ frames := 7, cells := 1, slots := 6, locals := 111 } : Room) (ct_Pc dC dI a cA sa [.ref (a 0), .int p1, .ref (a 32)] n f sz) (va_Qi (fun (r : Int32) (u : ctN × ctF) => post r u.1 u.2) (ct_B dC dI a cA) (va_A (ctW a cA n f) sz)) 1 6 (va_A (ctW a cA n f) sz) := by
  refine va_MetW (cc := cL_like) (maxL := 4) (ret := (some .int)) (hh := [(0, 9, 12, 13)]) (by decide) rfl ?_
  intro p e s m args below meth c s₁ B hml hv
  obtain ⟨rfl, hsz, hP, hK, hD0, hZ⟩ := hv
  have hx := B.exec
  have hb := B.bytes
  have hr := B.returns
  have hts := atoms_spec (ws := wsL_like) B.pre
  have hown : s.vm.findClass RL = some m.cls := findClass_of_methodNamed B.named
  have hlocks := B.notSynchronized
  have htab : c.exceptionTable.toList = tableOf [(0, 9, 12, 13)] := vx_table (x := yL_like) B (hts kL_like List.mem_cons_self)
  subst hsz
  have hD := hD0.self (sz := s.heap.size)
  generalize hAe : va_A (ctW a cA n f) s.heap.size = A at hD hZ ⊢
  have hDa : ∀ (n : ctN) (f : ctF), va_D A (ctW a cA n f) := fun _ _ => ct_D hD
  have hA : ∀ q : Nat, s.heap.size ≤ q → A q := fun q h => by rw [← hAe]; exact Or.inr h
  have hS : va_S A s.heap s.heap [] := va_S.rf
  have hl := lv_entry ([.ref (a 0), .int p1, .ref (a 32)]) (n := 4) (Nat.le_of_ble_eq_true rfl)
  rw [lg_entry_eq]
  generalize (lg_sl ([.ref (a 0), .int p1, .ref (a 32)]) ++ List.replicate (4 - (lg_sl ([.ref (a 0), .int p1, .ref (a 32)])).length) Slot.unset).toArray = ls at hl ⊢
  have hl : lv_has ls 4 [(0, .ref (a 0)), (1, .int p1), (2, .ref (a 32))] := hl
  unfold wp_L_like at hw
  refine lv_aload_n hx hb dL_like_0 rfl (lv_at hl 2 rfl) ?_
  refine lv_iconst (v := 0) hx hb dL_like_1 (by decide) ?_
  refine lv_aload_n hx hb dL_like_2 rfl (lv_at hl 0 rfl) ?_
  refine lv_iload_n hx hb dL_like_3 rfl (lv_at hl 1 rfl) ?_
  rcases hw with hw | hw
  · refine ct_i (va_runV (As := [.int p1]) (rest := [.int 0, .ref (a 32)]) ⟨hx, hb, hml, hown, hts⟩ (met0_C_like l dC dI a cA sa p1 n f _ hw) (cwV 1 hts (wb_V wt_434 wt_435 wt_436 wt_27 wt_437) rfl rfl rfl (by decide +kernel) ⟨Nat.le_of_ble_eq_true rfl, Nat.le_of_ble_eq_true rfl⟩) (ct_preV hK hP (hDa _ _) hZ hS hA (va_recv hK hP (ci := 0) (q0 := 0) rfl rfl)) rfl rfl hl.1 rfl (lv_room (Nat.le_of_ble_eq_true rfl)) dL_like_4 ⟨Nat.le_of_ble_eq_true rfl, Nat.le_of_ble_eq_true rfl⟩) (hDa _ _) hS hA (fun r1 n1 f1 H locs hw hP hS => ?_)
    refine lv_i2l (v := r1.toInt64) hx hb dL_like_7 rfl ?_
    refine va_last hx hb hK hP (hDa _ _) hS 32 28 rfl rfl ct_in01 dL_like_8 (fun H locs hP _ hS => ?_)
    obtain ⟨f2, ef2⟩ : ∃ z : ctF, z = va_up f1 32 (upd (f1 32) 0 r1) := ⟨_, rfl⟩
    have hw := hw f2 ef2
    have hP : va_P (dC, dI) vcl (ctW a cA n1 f2) H := by rw [ef2]; exact ct_out hP
    refine lv_goto (tgt := 15) hx hb dL_like_9 (by decide) ?_
    refine lv_iconst (v := 0) hx hb dL_like_15 (by decide) ?_
    refine W.widen (k := 1) (n := 6) (Nat.le_of_ble_eq_true rfl) (Nat.le_of_ble_eq_true rfl) ?_
    exact W.iret (v := 0) hx hb hr (fun t ht hW => ⟨⟨0, (n1, f2), rfl, hw, ct_mkB ht hP⟩, hS.F ht⟩) hS.2.2 dL_like_16
  · refine ct_xi (vx_runV (As := [.int p1]) (rest := [.int 0, .ref (a 32)]) ⟨hx, hb, hml, hown, hts⟩ (metx_C_like l hl9 dC dI a cA sa p1 n f _ hw) (cwV 1 hts (wb_V wt_434 wt_435 wt_436 wt_27 wt_437) rfl rfl rfl (by decide +kernel) ⟨Nat.le_of_ble_eq_true rfl, Nat.le_of_ble_eq_true rfl⟩) (ct_preV hK hP (hDa _ _) hZ hS hA (va_recv hK hP (ci := 0) (q0 := 0) rfl rfl)) rfl rfl hl.1 rfl (lv_room (Nat.le_of_ble_eq_true rfl)) dL_like_4 ⟨Nat.le_of_ble_eq_true rfl, Nat.le_of_ble_eq_true rfl⟩) (hDa _ _) hS hA (fun E ce q9 n' f' H locs hw hP hS h1 h2 h3 => ?_) (fun _ _ _ _ _ hw _ _ => False.elim hw)
    obtain ⟨rfl, hw⟩ := hw
    refine vx_catch (own := RL) (name := "java/lang/IllegalArgumentException") (E := "java/lang/IllegalArgumentException") hown [] ⟨0, 9, 12, 13⟩ [] (htab.trans rfl) (fun z h => by cases h) (by decide) (by decide) (hts (.classLink RL 13 "java/lang/IllegalArgumentException") (List.mem_cons_of_mem _ wt_160)) (va_Nw.use rfl hZ.2.1) h1 h2 h3 ?_
    refine lv_astore_n (lv' := [(3, .ref q9), (0, .ref (a 0)), (1, .int p1), (2, .ref (a 32))]) hx hb dL_like_12 rfl hl (by decide) rfl (fun ls hl => ?_)
    refine lv_iconst (v := 1) hx hb dL_like_13 (by decide) ?_
    exact W.iret (v := 1) hx hb hr (fun t ht hW => ⟨⟨1, (n', f'), rfl, hw, ct_mkB ht hP⟩, hS.F ht⟩) hS.2.2 dL_like_14
