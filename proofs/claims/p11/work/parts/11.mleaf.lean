def wp_M_in (post : Int32 → ctN → ctF → Prop) (p0 : Int32) (p1 : Int32) (p2 : Int32) (n : ctN) (f : ctF) : Prop := (p0 < p1 → (post 0 n f)) ∧ (¬ p0 < p1 → ((p2 < p0 → (post 0 n f)) ∧ (¬ p2 < p0 → (post 1 n f))))
set_option maxHeartbeats 4000000 in
set_option maxRecDepth 100000 in
theorem met_M_in (l : Launch) (dC : Nat → ClassId) (dI : Nat → Nat → Nat) (a : Nat → Nat) (cA : Nat → ClassId) (sa : Nat → Nat) (p0 : Int32) (p1 : Int32) (p2 : Int32) (n : ctN) (f : ctF) (sz : Nat) {post : Int32 → ctN → ctF → Prop} (hw : wp_M_in post p0 p1 p2 n f) : Met l yM_in wsM_in ({ frames := 0, cells := 0, slots := 0, locals := 0 } : Room) (ct_Pc dC dI a cA sa [.int p0, .int p1, .int p2] n f sz) (va_Qi (fun (r : Int32) (u : ctN × ctF) => post r u.1 u.2) (ct_B dC dI a cA) (va_A (ctW a cA n f) sz)) 0 0 (va_A (ctW a cA n f) sz) := by
  refine Met.ofW (cc := cM_in) (maxL := 3) (ret := (some .boolean)) (by decide) rfl ?_
  intro p e s m args below meth c s₁ B hml hv
  obtain ⟨rfl, hsz, hP, hK, hD0, hZ⟩ := hv
  have hx := B.exec
  have hb := B.bytes
  have hr := B.returns
  have hts := atoms_spec (ws := wsM_in) B.pre
  have hown : s.vm.findClass RM = some m.cls := findClass_of_methodNamed B.named
  have hlocks := B.notSynchronized
  subst hsz
  have hD := hD0.self (sz := s.heap.size)
  generalize hAe : va_A (ctW a cA n f) s.heap.size = A at hD hZ ⊢
  have hDa : ∀ (n : ctN) (f : ctF), va_D A (ctW a cA n f) := fun _ _ => ct_D hD
  have hA : ∀ q : Nat, s.heap.size ≤ q → A q := fun q h => by rw [← hAe]; exact Or.inr h
  have hS : va_S A s.heap s.heap [] := va_S.rf
  have hl := lv_entry ([.int p0, .int p1, .int p2]) (n := 3) (Nat.le_of_ble_eq_true rfl)
  rw [lg_entry_eq]
  generalize (lg_sl ([.int p0, .int p1, .int p2]) ++ List.replicate (3 - (lg_sl ([.int p0, .int p1, .int p2])).length) Slot.unset).toArray = ls at hl ⊢
  have hl : lv_has ls 3 [(0, .int p0), (1, .int p1), (2, .int p2)] := hl
  unfold wp_M_in at hw
  refine lv_iload_n hx hb dM_in_0 rfl (lv_at hl 0 rfl) ?_
  refine lv_iload_n hx hb dM_in_1 rfl (lv_at hl 1 rfl) ?_
  refine lv_icmp_lt (tgt := 14) hx hb dM_in_2 (by decide) (fun c1 => ?_) (fun c1 => ?_)
  · have hw := hw.1 c1
    refine lv_iconst (v := 0) hx hb dM_in_14 (by decide) ?_
    exact W.zret (v := 0) hx hb hr rfl (fun t ht hW => ⟨⟨0, (n, f), rfl, hw, ct_mkB ht hP⟩, hS.F ht⟩) hS.2.2 dM_in_15
  · have hw := hw.2 c1
    refine lv_iload_n hx hb dM_in_5 rfl (lv_at hl 0 rfl) ?_
    refine lv_iload_n hx hb dM_in_6 rfl (lv_at hl 2 rfl) ?_
    refine lv_icmp_gt (tgt := 14) hx hb dM_in_7 (by decide) (fun c2 => ?_) (fun c2 => ?_)
    · have hw := hw.1 c2
      refine lv_iconst (v := 0) hx hb dM_in_14 (by decide) ?_
      exact W.zret (v := 0) hx hb hr rfl (fun t ht hW => ⟨⟨0, (n, f), rfl, hw, ct_mkB ht hP⟩, hS.F ht⟩) hS.2.2 dM_in_15
    · have hw := hw.2 c2
      refine lv_iconst (v := 1) hx hb dM_in_10 (by decide) ?_
      refine lv_goto (tgt := 15) hx hb dM_in_11 (by decide) ?_
      exact W.zret (v := 1) hx hb hr rfl (fun t ht hW => ⟨⟨1, (n, f), rfl, hw, ct_mkB ht hP⟩, hS.F ht⟩) hS.2.2 dM_in_15
def wp_M_isGoal (post : Int32 → ctN → ctF → Prop) (p0 : Int32) (n : ctN) (f : ctF) : Prop := wp_M_in (fun (r1 : Int32) (n_2 : ctN) (f_3 : ctF) => narrow .boolean (.int r1) = .int r1 ∧ (post r1 n_2 f_3)) p0 0 7 n f
set_option maxHeartbeats 4000000 in
set_option maxRecDepth 100000 in
theorem met_M_isGoal (l : Launch) (dC : Nat → ClassId) (dI : Nat → Nat → Nat) (a : Nat → Nat) (cA : Nat → ClassId) (sa : Nat → Nat) (p0 : Int32) (n : ctN) (f : ctF) (sz : Nat) {post : Int32 → ctN → ctF → Prop} (hw : wp_M_isGoal post p0 n f) : Met l yM_isGoal wsM_isGoal ({ frames := 1, cells := 0, slots := 0, locals := 22 } : Room) (ct_Pc dC dI a cA sa [.int p0] n f sz) (va_Qi (fun (r : Int32) (u : ctN × ctF) => post r u.1 u.2) (ct_B dC dI a cA) (va_A (ctW a cA n f) sz)) 0 0 (va_A (ctW a cA n f) sz) := by
  refine Met.ofW (cc := cM_isGoal) (maxL := 1) (ret := (some .boolean)) (by decide) rfl ?_
  intro p e s m args below meth c s₁ B hml hv
  obtain ⟨rfl, hsz, hP, hK, hD0, hZ⟩ := hv
  have hx := B.exec
  have hb := B.bytes
  have hr := B.returns
  have hts := atoms_spec (ws := wsM_isGoal) B.pre
  have hown : s.vm.findClass RM = some m.cls := findClass_of_methodNamed B.named
  have hlocks := B.notSynchronized
  subst hsz
  have hD := hD0.self (sz := s.heap.size)
  generalize hAe : va_A (ctW a cA n f) s.heap.size = A at hD hZ ⊢
  have hDa : ∀ (n : ctN) (f : ctF), va_D A (ctW a cA n f) := fun _ _ => ct_D hD
  have hA : ∀ q : Nat, s.heap.size ≤ q → A q := fun q h => by rw [← hAe]; exact Or.inr h
  have hS : va_S A s.heap s.heap [] := va_S.rf
  have hl := lv_entry ([.int p0]) (n := 1) (Nat.le_of_ble_eq_true rfl)
  rw [lg_entry_eq]
  generalize (lg_sl ([.int p0]) ++ List.replicate (1 - (lg_sl ([.int p0])).length) Slot.unset).toArray = ls at hl ⊢
  have hl : lv_has ls 1 [(0, .int p0)] := hl
  unfold wp_M_isGoal at hw
  refine lv_iload_n hx hb dM_isGoal_0 rfl (lv_at hl 0 rfl) ?_
  refine lv_iconst (v := 0) hx hb dM_isGoal_1 (by decide) ?_
  refine lv_bipush (v := 7) hx hb dM_isGoal_2 (by decide) ?_
  refine ct_i (va_runS (As := [.int p0, .int 0, .int 7]) (rest := []) ⟨hx, hb, hml, hown, hts⟩ (met_M_in l dC dI a cA sa p0 0 7 n f _ hw) (cwS 3 hts (wb_S wt_518 wt_519 wt_30 wt_520) rfl rfl rfl (by decide +kernel) ⟨Nat.le_of_ble_eq_true rfl, Nat.le_of_ble_eq_true rfl⟩) (ct_pre hK hP (hDa _ _) hZ hS hA) rfl rfl hl.1 rfl (lv_room (Nat.le_of_ble_eq_true rfl)) dM_isGoal_4 ⟨Nat.le_of_ble_eq_true rfl, Nat.le_of_ble_eq_true rfl⟩) (hDa _ _) hS hA (fun r1 n_2 f_3 H locs hw hP hS => ?_)
  obtain ⟨hz, hw⟩ := hw
  exact W.zret (v := r1) hx hb hr hz (fun t ht hW => ⟨⟨r1, (n_2, f_3), rfl, hw, ct_mkB ht hP⟩, hS.F ht⟩) hS.2.2 dM_isGoal_7
def wp_M_refuse (post : Int32 → ctN → ctF → Prop) (p1 : Int32) (p2 : Int32) (p3 : Int32) (n : ctN) (f : ctF) : Prop := (p1 = 0 → ((p2 = 0 → ((p3 = 0 → (∀ n_4 : ctN, n_4 = va_up n 3 0 → (((n_4 3) ≤ 0 → (post 0 n_4 f)) ∧ (¬ (n_4 3) ≤ 0 → (post 1 n_4 f))))) ∧ (¬ p3 = 0 → (∀ n_6 : ctN, n_6 = va_up n 3 3 → (((n_6 3) ≤ 0 → (post 0 n_6 f)) ∧ (¬ (n_6 3) ≤ 0 → (post 1 n_6 f))))))) ∧ (¬ p2 = 0 → (∀ n_8 : ctN, n_8 = va_up n 3 2 → (((n_8 3) ≤ 0 → (post 0 n_8 f)) ∧ (¬ (n_8 3) ≤ 0 → (post 1 n_8 f))))))) ∧ (¬ p1 = 0 → (∀ n_10 : ctN, n_10 = va_up n 3 1 → (((n_10 3) ≤ 0 → (post 0 n_10 f)) ∧ (¬ (n_10 3) ≤ 0 → (post 1 n_10 f)))))
set_option maxHeartbeats 4000000 in
set_option maxRecDepth 100000 in
theorem met_M_refuse (l : Launch) (dC : Nat → ClassId) (dI : Nat → Nat → Nat) (a : Nat → Nat) (cA : Nat → ClassId) (sa : Nat → Nat) (p1 : Int32) (p2 : Int32) (p3 : Int32) (n : ctN) (f : ctF) (sz : Nat) {post : Int32 → ctN → ctF → Prop} (hw : wp_M_refuse post p1 p2 p3 n f) : Met l yM_refuse wsM_refuse ({ frames := 0, cells := 0, slots := 0, locals := 0 } : Room) (ct_Pc dC dI a cA sa [.ref (a 18), .int p1, .int p2, .int p3] n f sz) (va_Qi (fun (r : Int32) (u : ctN × ctF) => post r u.1 u.2) (ct_B dC dI a cA) (va_A (ctW a cA n f) sz)) 0 0 (va_A (ctW a cA n f) sz) := by
  refine Met.ofW (cc := cM_refuse) (maxL := 4) (ret := (some .boolean)) (by decide) rfl ?_
  intro p e s m args below meth c s₁ B hml hv
  obtain ⟨rfl, hsz, hP, hK, hD0, hZ⟩ := hv
  have hx := B.exec
  have hb := B.bytes
  have hr := B.returns
  have hts := atoms_spec (ws := wsM_refuse) B.pre
  have hown : s.vm.findClass RM = some m.cls := findClass_of_methodNamed B.named
  have hlocks := B.notSynchronized
  subst hsz
  have hD := hD0.self (sz := s.heap.size)
  generalize hAe : va_A (ctW a cA n f) s.heap.size = A at hD hZ ⊢
  have hDa : ∀ (n : ctN) (f : ctF), va_D A (ctW a cA n f) := fun _ _ => ct_D hD
  have hA : ∀ q : Nat, s.heap.size ≤ q → A q := fun q h => by rw [← hAe]; exact Or.inr h
  have hS : va_S A s.heap s.heap [] := va_S.rf
  have hl := lv_entry ([.ref (a 18), .int p1, .int p2, .int p3]) (n := 4) (Nat.le_of_ble_eq_true rfl)
  rw [lg_entry_eq]
  generalize (lg_sl ([.ref (a 18), .int p1, .int p2, .int p3]) ++ List.replicate (4 - (lg_sl ([.ref (a 18), .int p1, .int p2, .int p3])).length) Slot.unset).toArray = ls at hl ⊢
  have hl : lv_has ls 4 [(0, .ref (a 18)), (1, .int p1), (2, .int p2), (3, .int p3)] := hl
  unfold wp_M_refuse at hw
  refine lv_aload_n hx hb dM_refuse_0 rfl (lv_at hl 0 rfl) ?_
  refine lv_iload_n hx hb dM_refuse_1 rfl (lv_at hl 1 rfl) ?_
  refine lv_if_eq (tgt := 9) hx hb dM_refuse_2 (by decide) (fun c1 => ?_) (fun c1 => ?_)
  · have hw := hw.1 c1
    refine lv_iload_n hx hb dM_refuse_9 rfl (lv_at hl 2 rfl) ?_
    refine lv_if_eq (tgt := 17) hx hb dM_refuse_10 (by decide) (fun c2 => ?_) (fun c2 => ?_)
    · have hw := hw.1 c2
      refine lv_iload_n hx hb dM_refuse_17 rfl (lv_at hl 3 rfl) ?_
      refine lv_if_eq (tgt := 25) hx hb dM_refuse_18 (by decide) (fun c3 => ?_) (fun c3 => ?_)
      · have hw := hw.1 c3
        refine lv_iconst (v := 0) hx hb dM_refuse_25 (by decide) ?_
        refine va_put (D := (dC, dI)) (ci := 3) (v := .int 0) (ty := .int) (C := RM) (T := TM) (N := 19) hx hb hts (fun w h => List.mem_cons_of_mem _ (inM w h)) tyM tyM_ok nmM hown hK hP (hDa _ _) hS 18 rfl rfl 0 (by decide) (hts (.fieldLink RM 50 "CoverTreesModel" "thrown" "I") (List.mem_cons_of_mem _ wt_444)) (fun _ h9 => h9) rfl (by decide +kernel) rfl rfl (Nat.le_of_ble_eq_true rfl) dM_refuse_26 (fun H locs hP _ hS => ?_)
        obtain ⟨n_4, en_4⟩ : ∃ z : ctN, z = va_up n 3 0 := ⟨_, rfl⟩
        have hw := hw n_4 en_4
        have hP : va_P (dC, dI) vcl (ctW a cA n_4 f) H := by rw [en_4]; exact hP
        refine lv_aload_n hx hb dM_refuse_29 rfl (lv_at hl 0 rfl) ?_
        refine va_get (D := (dC, dI)) (ci := 3) (v := .int (n_4 3)) (C := RM) (T := TM) (N := 19) hx hb hts (fun w h => List.mem_cons_of_mem _ (inM w h)) hown hK hP 18 rfl rfl 0 (by decide) (hts (.fieldLink RM 50 "CoverTreesModel" "thrown" "I") (List.mem_cons_of_mem _ wt_444)) (fun _ h9 => h9) rfl dM_refuse_30 ?_
        refine lv_if_le (tgt := 40) hx hb dM_refuse_33 (by decide) (fun c5 => ?_) (fun c5 => ?_)
        · have hw := hw.1 c5
          refine lv_iconst (v := 0) hx hb dM_refuse_40 (by decide) ?_
          exact W.zret (v := 0) hx hb hr rfl (fun t ht hW => ⟨⟨0, (n_4, f), rfl, hw, ct_mkB ht hP⟩, hS.F ht⟩) hS.2.2 dM_refuse_41
        · have hw := hw.2 c5
          refine lv_iconst (v := 1) hx hb dM_refuse_36 (by decide) ?_
          refine lv_goto (tgt := 41) hx hb dM_refuse_37 (by decide) ?_
          exact W.zret (v := 1) hx hb hr rfl (fun t ht hW => ⟨⟨1, (n_4, f), rfl, hw, ct_mkB ht hP⟩, hS.F ht⟩) hS.2.2 dM_refuse_41
      · have hw := hw.2 c3
        refine lv_iconst (v := 3) hx hb dM_refuse_21 (by decide) ?_
        refine lv_goto (tgt := 26) hx hb dM_refuse_22 (by decide) ?_
        refine va_put (D := (dC, dI)) (ci := 3) (v := .int 3) (ty := .int) (C := RM) (T := TM) (N := 19) hx hb hts (fun w h => List.mem_cons_of_mem _ (inM w h)) tyM tyM_ok nmM hown hK hP (hDa _ _) hS 18 rfl rfl 0 (by decide) (hts (.fieldLink RM 50 "CoverTreesModel" "thrown" "I") (List.mem_cons_of_mem _ wt_444)) (fun _ h9 => h9) rfl (by decide +kernel) rfl rfl (Nat.le_of_ble_eq_true rfl) dM_refuse_26 (fun H locs hP _ hS => ?_)
        obtain ⟨n_6, en_6⟩ : ∃ z : ctN, z = va_up n 3 3 := ⟨_, rfl⟩
        have hw := hw n_6 en_6
        have hP : va_P (dC, dI) vcl (ctW a cA n_6 f) H := by rw [en_6]; exact hP
        refine lv_aload_n hx hb dM_refuse_29 rfl (lv_at hl 0 rfl) ?_
        refine va_get (D := (dC, dI)) (ci := 3) (v := .int (n_6 3)) (C := RM) (T := TM) (N := 19) hx hb hts (fun w h => List.mem_cons_of_mem _ (inM w h)) hown hK hP 18 rfl rfl 0 (by decide) (hts (.fieldLink RM 50 "CoverTreesModel" "thrown" "I") (List.mem_cons_of_mem _ wt_444)) (fun _ h9 => h9) rfl dM_refuse_30 ?_
        refine lv_if_le (tgt := 40) hx hb dM_refuse_33 (by decide) (fun c7 => ?_) (fun c7 => ?_)
        · have hw := hw.1 c7
          refine lv_iconst (v := 0) hx hb dM_refuse_40 (by decide) ?_
          exact W.zret (v := 0) hx hb hr rfl (fun t ht hW => ⟨⟨0, (n_6, f), rfl, hw, ct_mkB ht hP⟩, hS.F ht⟩) hS.2.2 dM_refuse_41
        · have hw := hw.2 c7
          refine lv_iconst (v := 1) hx hb dM_refuse_36 (by decide) ?_
          refine lv_goto (tgt := 41) hx hb dM_refuse_37 (by decide) ?_
          exact W.zret (v := 1) hx hb hr rfl (fun t ht hW => ⟨⟨1, (n_6, f), rfl, hw, ct_mkB ht hP⟩, hS.F ht⟩) hS.2.2 dM_refuse_41
    · have hw := hw.2 c2
      refine lv_iconst (v := 2) hx hb dM_refuse_13 (by decide) ?_
      refine lv_goto (tgt := 26) hx hb dM_refuse_14 (by decide) ?_
      refine va_put (D := (dC, dI)) (ci := 3) (v := .int 2) (ty := .int) (C := RM) (T := TM) (N := 19) hx hb hts (fun w h => List.mem_cons_of_mem _ (inM w h)) tyM tyM_ok nmM hown hK hP (hDa _ _) hS 18 rfl rfl 0 (by decide) (hts (.fieldLink RM 50 "CoverTreesModel" "thrown" "I") (List.mem_cons_of_mem _ wt_444)) (fun _ h9 => h9) rfl (by decide +kernel) rfl rfl (Nat.le_of_ble_eq_true rfl) dM_refuse_26 (fun H locs hP _ hS => ?_)
      obtain ⟨n_8, en_8⟩ : ∃ z : ctN, z = va_up n 3 2 := ⟨_, rfl⟩
      have hw := hw n_8 en_8
      have hP : va_P (dC, dI) vcl (ctW a cA n_8 f) H := by rw [en_8]; exact hP
      refine lv_aload_n hx hb dM_refuse_29 rfl (lv_at hl 0 rfl) ?_
      refine va_get (D := (dC, dI)) (ci := 3) (v := .int (n_8 3)) (C := RM) (T := TM) (N := 19) hx hb hts (fun w h => List.mem_cons_of_mem _ (inM w h)) hown hK hP 18 rfl rfl 0 (by decide) (hts (.fieldLink RM 50 "CoverTreesModel" "thrown" "I") (List.mem_cons_of_mem _ wt_444)) (fun _ h9 => h9) rfl dM_refuse_30 ?_
      refine lv_if_le (tgt := 40) hx hb dM_refuse_33 (by decide) (fun c9 => ?_) (fun c9 => ?_)
      · have hw := hw.1 c9
        refine lv_iconst (v := 0) hx hb dM_refuse_40 (by decide) ?_
        exact W.zret (v := 0) hx hb hr rfl (fun t ht hW => ⟨⟨0, (n_8, f), rfl, hw, ct_mkB ht hP⟩, hS.F ht⟩) hS.2.2 dM_refuse_41
      · have hw := hw.2 c9
        refine lv_iconst (v := 1) hx hb dM_refuse_36 (by decide) ?_
        refine lv_goto (tgt := 41) hx hb dM_refuse_37 (by decide) ?_
        exact W.zret (v := 1) hx hb hr rfl (fun t ht hW => ⟨⟨1, (n_8, f), rfl, hw, ct_mkB ht hP⟩, hS.F ht⟩) hS.2.2 dM_refuse_41
  · have hw := hw.2 c1
    refine lv_iconst (v := 1) hx hb dM_refuse_5 (by decide) ?_
    refine lv_goto (tgt := 26) hx hb dM_refuse_6 (by decide) ?_
    refine va_put (D := (dC, dI)) (ci := 3) (v := .int 1) (ty := .int) (C := RM) (T := TM) (N := 19) hx hb hts (fun w h => List.mem_cons_of_mem _ (inM w h)) tyM tyM_ok nmM hown hK hP (hDa _ _) hS 18 rfl rfl 0 (by decide) (hts (.fieldLink RM 50 "CoverTreesModel" "thrown" "I") (List.mem_cons_of_mem _ wt_444)) (fun _ h9 => h9) rfl (by decide +kernel) rfl rfl (Nat.le_of_ble_eq_true rfl) dM_refuse_26 (fun H locs hP _ hS => ?_)
    obtain ⟨n_10, en_10⟩ : ∃ z : ctN, z = va_up n 3 1 := ⟨_, rfl⟩
    have hw := hw n_10 en_10
    have hP : va_P (dC, dI) vcl (ctW a cA n_10 f) H := by rw [en_10]; exact hP
    refine lv_aload_n hx hb dM_refuse_29 rfl (lv_at hl 0 rfl) ?_
    refine va_get (D := (dC, dI)) (ci := 3) (v := .int (n_10 3)) (C := RM) (T := TM) (N := 19) hx hb hts (fun w h => List.mem_cons_of_mem _ (inM w h)) hown hK hP 18 rfl rfl 0 (by decide) (hts (.fieldLink RM 50 "CoverTreesModel" "thrown" "I") (List.mem_cons_of_mem _ wt_444)) (fun _ h9 => h9) rfl dM_refuse_30 ?_
    refine lv_if_le (tgt := 40) hx hb dM_refuse_33 (by decide) (fun c11 => ?_) (fun c11 => ?_)
    · have hw := hw.1 c11
      refine lv_iconst (v := 0) hx hb dM_refuse_40 (by decide) ?_
      exact W.zret (v := 0) hx hb hr rfl (fun t ht hW => ⟨⟨0, (n_10, f), rfl, hw, ct_mkB ht hP⟩, hS.F ht⟩) hS.2.2 dM_refuse_41
    · have hw := hw.2 c11
      refine lv_iconst (v := 1) hx hb dM_refuse_36 (by decide) ?_
      refine lv_goto (tgt := 41) hx hb dM_refuse_37 (by decide) ?_
      exact W.zret (v := 1) hx hb hr rfl (fun t ht hW => ⟨⟨1, (n_10, f), rfl, hw, ct_mkB ht hP⟩, hS.F ht⟩) hS.2.2 dM_refuse_41
def wp_M_thrown (post : Int32 → ctN → ctF → Prop) (n : ctN) (f : ctF) : Prop := post (n 3) n f
set_option maxHeartbeats 4000000 in
set_option maxRecDepth 100000 in
theorem met_M_thrown (l : Launch) (dC : Nat → ClassId) (dI : Nat → Nat → Nat) (a : Nat → Nat) (cA : Nat → ClassId) (sa : Nat → Nat) (n : ctN) (f : ctF) (sz : Nat) {post : Int32 → ctN → ctF → Prop} (hw : wp_M_thrown post n f) : Met l yM_thrown wsM_thrown ({ frames := 0, cells := 0, slots := 0, locals := 0 } : Room) (ct_Pc dC dI a cA sa [.ref (a 18)] n f sz) (va_Qi (fun (r : Int32) (u : ctN × ctF) => post r u.1 u.2) (ct_B dC dI a cA) (va_A (ctW a cA n f) sz)) 0 0 (va_A (ctW a cA n f) sz) := by
  refine Met.ofW (cc := cM_thrown) (maxL := 1) (ret := (some .int)) (by decide) rfl ?_
  intro p e s m args below meth c s₁ B hml hv
  obtain ⟨rfl, hsz, hP, hK, hD0, hZ⟩ := hv
  have hx := B.exec
  have hb := B.bytes
  have hr := B.returns
  have hts := atoms_spec (ws := wsM_thrown) B.pre
  have hown : s.vm.findClass RM = some m.cls := findClass_of_methodNamed B.named
  have hlocks := B.notSynchronized
  subst hsz
  have hD := hD0.self (sz := s.heap.size)
  generalize hAe : va_A (ctW a cA n f) s.heap.size = A at hD hZ ⊢
  have hDa : ∀ (n : ctN) (f : ctF), va_D A (ctW a cA n f) := fun _ _ => ct_D hD
  have hA : ∀ q : Nat, s.heap.size ≤ q → A q := fun q h => by rw [← hAe]; exact Or.inr h
  have hS : va_S A s.heap s.heap [] := va_S.rf
  have hl := lv_entry ([.ref (a 18)]) (n := 1) (Nat.le_of_ble_eq_true rfl)
  rw [lg_entry_eq]
  generalize (lg_sl ([.ref (a 18)]) ++ List.replicate (1 - (lg_sl ([.ref (a 18)])).length) Slot.unset).toArray = ls at hl ⊢
  have hl : lv_has ls 1 [(0, .ref (a 18))] := hl
  unfold wp_M_thrown at hw
  refine lv_aload_n hx hb dM_thrown_0 rfl (lv_at hl 0 rfl) ?_
  refine va_get (D := (dC, dI)) (ci := 3) (v := .int (n 3)) (C := RM) (T := TM) (N := 19) hx hb hts (fun w h => List.mem_cons_of_mem _ (inM w h)) hown hK hP 18 rfl rfl 0 (by decide) (hts (.fieldLink RM 50 "CoverTreesModel" "thrown" "I") (List.mem_cons_of_mem _ wt_444)) (fun _ h9 => h9) rfl dM_thrown_1 ?_
  exact W.iret (v := (n 3)) hx hb hr (fun t ht hW => ⟨⟨(n 3), (n, f), rfl, hw, ct_mkB ht hP⟩, hS.F ht⟩) hS.2.2 dM_thrown_4
def wp_M_clear (post : ctN → ctF → Prop) (n : ctN) (f : ctF) : Prop := ∀ n_1 : ctN, n_1 = va_up n 3 0 → (∀ n_2 : ctN, n_2 = va_up n_1 4 0 → (∀ n_3 : ctN, n_3 = va_up n_2 5 0 → (∀ n_4 : ctN, n_4 = va_up n_3 6 0 → (post n_4 f))))
set_option maxHeartbeats 4000000 in
set_option maxRecDepth 100000 in
theorem met_M_clear (l : Launch) (dC : Nat → ClassId) (dI : Nat → Nat → Nat) (a : Nat → Nat) (cA : Nat → ClassId) (sa : Nat → Nat) (n : ctN) (f : ctF) (sz : Nat) {post : ctN → ctF → Prop} (hw : wp_M_clear post n f) : Met l yM_clear wsM_clear ({ frames := 0, cells := 0, slots := 0, locals := 0 } : Room) (ct_Pc dC dI a cA sa [.ref (a 18)] n f sz) (va_Qv (fun (u : ctN × ctF) => post u.1 u.2) (ct_B dC dI a cA) (va_A (ctW a cA n f) sz)) 0 0 (va_A (ctW a cA n f) sz) := by
  refine Met.ofW (cc := cM_clear) (maxL := 1) (ret := none) (by decide) rfl ?_
  intro p e s m args below meth c s₁ B hml hv
  obtain ⟨rfl, hsz, hP, hK, hD0, hZ⟩ := hv
  have hx := B.exec
  have hb := B.bytes
  have hr := B.returns
  have hts := atoms_spec (ws := wsM_clear) B.pre
  have hown : s.vm.findClass RM = some m.cls := findClass_of_methodNamed B.named
  have hlocks := B.notSynchronized
  subst hsz
  have hD := hD0.self (sz := s.heap.size)
  generalize hAe : va_A (ctW a cA n f) s.heap.size = A at hD hZ ⊢
  have hDa : ∀ (n : ctN) (f : ctF), va_D A (ctW a cA n f) := fun _ _ => ct_D hD
  have hA : ∀ q : Nat, s.heap.size ≤ q → A q := fun q h => by rw [← hAe]; exact Or.inr h
  have hS : va_S A s.heap s.heap [] := va_S.rf
  have hl := lv_entry ([.ref (a 18)]) (n := 1) (Nat.le_of_ble_eq_true rfl)
  rw [lg_entry_eq]
  generalize (lg_sl ([.ref (a 18)]) ++ List.replicate (1 - (lg_sl ([.ref (a 18)])).length) Slot.unset).toArray = ls at hl ⊢
  have hl : lv_has ls 1 [(0, .ref (a 18))] := hl
  unfold wp_M_clear at hw
  refine lv_aload_n hx hb dM_clear_0 rfl (lv_at hl 0 rfl) ?_
  refine lv_iconst (v := 0) hx hb dM_clear_1 (by decide) ?_
  refine va_put (D := (dC, dI)) (ci := 3) (v := .int 0) (ty := .int) (C := RM) (T := TM) (N := 19) hx hb hts (fun w h => List.mem_cons_of_mem _ (inM w h)) tyM tyM_ok nmM hown hK hP (hDa _ _) hS 18 rfl rfl 0 (by decide) (hts (.fieldLink RM 50 "CoverTreesModel" "thrown" "I") (List.mem_cons_of_mem _ wt_444)) (fun _ h9 => h9) rfl (by decide +kernel) rfl rfl (Nat.le_of_ble_eq_true rfl) dM_clear_2 (fun H locs hP _ hS => ?_)
  obtain ⟨n_1, en_1⟩ : ∃ z : ctN, z = va_up n 3 0 := ⟨_, rfl⟩
  have hw := hw n_1 en_1
  have hP : va_P (dC, dI) vcl (ctW a cA n_1 f) H := by rw [en_1]; exact hP
  refine lv_aload_n hx hb dM_clear_5 rfl (lv_at hl 0 rfl) ?_
  refine lv_iconst (v := 0) hx hb dM_clear_6 (by decide) ?_
  refine va_put (D := (dC, dI)) (ci := 3) (v := .int 0) (ty := .int) (C := RM) (T := TM) (N := 19) hx hb hts (fun w h => List.mem_cons_of_mem _ (inM w h)) tyM tyM_ok nmM hown hK hP (hDa _ _) hS 18 rfl rfl 1 (by decide) (hts (.fieldLink RM 54 "CoverTreesModel" "operators" "I") (List.mem_cons_of_mem _ wt_445)) (fun _ h9 => h9) rfl (by decide +kernel) rfl rfl (Nat.le_of_ble_eq_true rfl) dM_clear_7 (fun H locs hP _ hS => ?_)
  obtain ⟨n_2, en_2⟩ : ∃ z : ctN, z = va_up n_1 4 0 := ⟨_, rfl⟩
  have hw := hw n_2 en_2
  have hP : va_P (dC, dI) vcl (ctW a cA n_2 f) H := by rw [en_2]; exact hP
  refine lv_aload_n hx hb dM_clear_10 rfl (lv_at hl 0 rfl) ?_
  refine lv_iconst (v := 0) hx hb dM_clear_11 (by decide) ?_
  refine va_put (D := (dC, dI)) (ci := 3) (v := .int 0) (ty := .int) (C := RM) (T := TM) (N := 19) hx hb hts (fun w h => List.mem_cons_of_mem _ (inM w h)) tyM tyM_ok nmM hown hK hP (hDa _ _) hS 18 rfl rfl 3 (by decide) (hts (.fieldLink RM 57 "CoverTreesModel" "rules" "I") (List.mem_cons_of_mem _ wt_447)) (fun _ h9 => h9) rfl (by decide +kernel) rfl rfl (Nat.le_of_ble_eq_true rfl) dM_clear_12 (fun H locs hP _ hS => ?_)
  obtain ⟨n_3, en_3⟩ : ∃ z : ctN, z = va_up n_2 5 0 := ⟨_, rfl⟩
  have hw := hw n_3 en_3
  have hP : va_P (dC, dI) vcl (ctW a cA n_3 f) H := by rw [en_3]; exact hP
  refine lv_aload_n hx hb dM_clear_15 rfl (lv_at hl 0 rfl) ?_
  refine lv_iconst (v := 0) hx hb dM_clear_16 (by decide) ?_
  refine va_put (D := (dC, dI)) (ci := 3) (v := .int 0) (ty := .int) (C := RM) (T := TM) (N := 19) hx hb hts (fun w h => List.mem_cons_of_mem _ (inM w h)) tyM tyM_ok nmM hown hK hP (hDa _ _) hS 18 rfl rfl 9 (by decide) (hts (.fieldLink RM 60 "CoverTreesModel" "nodes" "I") (List.mem_cons_of_mem _ wt_453)) (fun _ h9 => h9) rfl (by decide +kernel) rfl rfl (Nat.le_of_ble_eq_true rfl) dM_clear_17 (fun H locs hP _ hS => ?_)
  obtain ⟨n_4, en_4⟩ : ∃ z : ctN, z = va_up n_3 6 0 := ⟨_, rfl⟩
  have hw := hw n_4 en_4
  have hP : va_P (dC, dI) vcl (ctW a cA n_4 f) H := by rw [en_4]; exact hP
  exact W.vret hx hb hr (fun t ht hW => ⟨⟨(n_4, f), rfl, hw, ct_mkB ht hP⟩, hS.F ht⟩) hS.2.2 dM_clear_20
def wp_M_fell (post : ctN → ctF → Prop) (n : ctN) (f : ctF) : Prop := ∀ n_1 : ctN, n_1 = va_up n 3 0 → (∀ n_2 : ctN, n_2 = va_up n_1 6 0 → (post n_2 f))
set_option maxHeartbeats 4000000 in
set_option maxRecDepth 100000 in
theorem met_M_fell (l : Launch) (dC : Nat → ClassId) (dI : Nat → Nat → Nat) (a : Nat → Nat) (cA : Nat → ClassId) (sa : Nat → Nat) (n : ctN) (f : ctF) (sz : Nat) {post : ctN → ctF → Prop} (hw : wp_M_fell post n f) : Met l yM_fell wsM_fell ({ frames := 0, cells := 0, slots := 0, locals := 0 } : Room) (ct_Pc dC dI a cA sa [.ref (a 18)] n f sz) (va_Qv (fun (u : ctN × ctF) => post u.1 u.2) (ct_B dC dI a cA) (va_A (ctW a cA n f) sz)) 0 0 (va_A (ctW a cA n f) sz) := by
  refine Met.ofW (cc := cM_fell) (maxL := 1) (ret := none) (by decide) rfl ?_
  intro p e s m args below meth c s₁ B hml hv
  obtain ⟨rfl, hsz, hP, hK, hD0, hZ⟩ := hv
  have hx := B.exec
  have hb := B.bytes
  have hr := B.returns
  have hts := atoms_spec (ws := wsM_fell) B.pre
  have hown : s.vm.findClass RM = some m.cls := findClass_of_methodNamed B.named
  have hlocks := B.notSynchronized
  subst hsz
  have hD := hD0.self (sz := s.heap.size)
  generalize hAe : va_A (ctW a cA n f) s.heap.size = A at hD hZ ⊢
  have hDa : ∀ (n : ctN) (f : ctF), va_D A (ctW a cA n f) := fun _ _ => ct_D hD
  have hA : ∀ q : Nat, s.heap.size ≤ q → A q := fun q h => by rw [← hAe]; exact Or.inr h
  have hS : va_S A s.heap s.heap [] := va_S.rf
  have hl := lv_entry ([.ref (a 18)]) (n := 1) (Nat.le_of_ble_eq_true rfl)
  rw [lg_entry_eq]
  generalize (lg_sl ([.ref (a 18)]) ++ List.replicate (1 - (lg_sl ([.ref (a 18)])).length) Slot.unset).toArray = ls at hl ⊢
  have hl : lv_has ls 1 [(0, .ref (a 18))] := hl
  unfold wp_M_fell at hw
  refine lv_aload_n hx hb dM_fell_0 rfl (lv_at hl 0 rfl) ?_
  refine lv_iconst (v := 0) hx hb dM_fell_1 (by decide) ?_
  refine va_put (D := (dC, dI)) (ci := 3) (v := .int 0) (ty := .int) (C := RM) (T := TM) (N := 19) hx hb hts (fun w h => List.mem_cons_of_mem _ (inM w h)) tyM tyM_ok nmM hown hK hP (hDa _ _) hS 18 rfl rfl 0 (by decide) (hts (.fieldLink RM 50 "CoverTreesModel" "thrown" "I") (List.mem_cons_of_mem _ wt_444)) (fun _ h9 => h9) rfl (by decide +kernel) rfl rfl (Nat.le_of_ble_eq_true rfl) dM_fell_2 (fun H locs hP _ hS => ?_)
  obtain ⟨n_1, en_1⟩ : ∃ z : ctN, z = va_up n 3 0 := ⟨_, rfl⟩
  have hw := hw n_1 en_1
  have hP : va_P (dC, dI) vcl (ctW a cA n_1 f) H := by rw [en_1]; exact hP
  refine lv_aload_n hx hb dM_fell_5 rfl (lv_at hl 0 rfl) ?_
  refine lv_iconst (v := 0) hx hb dM_fell_6 (by decide) ?_
  refine va_put (D := (dC, dI)) (ci := 3) (v := .int 0) (ty := .int) (C := RM) (T := TM) (N := 19) hx hb hts (fun w h => List.mem_cons_of_mem _ (inM w h)) tyM tyM_ok nmM hown hK hP (hDa _ _) hS 18 rfl rfl 9 (by decide) (hts (.fieldLink RM 60 "CoverTreesModel" "nodes" "I") (List.mem_cons_of_mem _ wt_453)) (fun _ h9 => h9) rfl (by decide +kernel) rfl rfl (Nat.le_of_ble_eq_true rfl) dM_fell_7 (fun H locs hP _ hS => ?_)
  obtain ⟨n_2, en_2⟩ : ∃ z : ctN, z = va_up n_1 6 0 := ⟨_, rfl⟩
  have hw := hw n_2 en_2
  have hP : va_P (dC, dI) vcl (ctW a cA n_2 f) H := by rw [en_2]; exact hP
  exact W.vret hx hb hr (fun t ht hW => ⟨⟨(n_2, f), rfl, hw, ct_mkB ht hP⟩, hS.F ht⟩) hS.2.2 dM_fell_10
def wp_M_operator_J29 (post : Int32 → ctN → ctF → Prop) (x1 : Int32) (s0 : Int32) (s1 : Int32) (n : ctN) (f : ctF) : Prop := wp_M_refuse (fun (r6 : Int32) (n_7 : ctN) (f_8 : ctF) => (r6 = 0 → (vp_in (n_7 4) 10 ∧ (∀ f_11 : ctF, f_11 = va_up f_8 19 (upd (f_8 19) (n_7 4).toNatClampNeg x1) → (∀ n_12 : ctN, n_12 = va_up n_7 4 ((n_7 4) + 1) → (post ((n_12 4) - 1) n_12 f_11))))) ∧ (¬ r6 = 0 → (post 0 n_7 f_8))) s1 s0 0 n f
def wp_M_operator_J15 (post : Int32 → ctN → ctF → Prop) (x1 : Int32) (s0 : Int32) (n : ctN) (f : ctF) : Prop := (¬ (n 4) = 10 → (wp_M_operator_J29 post x1 0 s0 n f)) ∧ ((n 4) = 10 → (wp_M_operator_J29 post x1 1 s0 n f))
def wp_M_operator (post : Int32 → ctN → ctF → Prop) (p1 : Int32) (n : ctN) (f : ctF) : Prop := wp_M_in (fun (r1 : Int32) (n_2 : ctN) (f_3 : ctF) => (¬ r1 = 0 → (wp_M_operator_J15 post p1 0 n_2 f_3)) ∧ (r1 = 0 → (wp_M_operator_J15 post p1 1 n_2 f_3))) p1 0 2 n f
set_option maxHeartbeats 4000000 in
set_option maxRecDepth 100000 in
theorem met_M_operator (l : Launch) (dC : Nat → ClassId) (dI : Nat → Nat → Nat) (a : Nat → Nat) (cA : Nat → ClassId) (sa : Nat → Nat) (p1 : Int32) (n : ctN) (f : ctF) (sz : Nat) {post : Int32 → ctN → ctF → Prop} (hw : wp_M_operator post p1 n f) : Met l yM_operator wsM_operator ({ frames := 1, cells := 0, slots := 0, locals := 23 } : Room) (ct_Pc dC dI a cA sa [.ref (a 18), .int p1] n f sz) (va_Qi (fun (r : Int32) (u : ctN × ctF) => post r u.1 u.2) (ct_B dC dI a cA) (va_A (ctW a cA n f) sz)) 0 0 (va_A (ctW a cA n f) sz) := by
  refine Met.ofW (cc := cM_operator) (maxL := 2) (ret := (some .int)) (by decide) rfl ?_
  intro p e s m args below meth c s₁ B hml hv
  obtain ⟨rfl, hsz, hP, hK, hD0, hZ⟩ := hv
  have hx := B.exec
  have hb := B.bytes
  have hr := B.returns
  have hts := atoms_spec (ws := wsM_operator) B.pre
  have hown : s.vm.findClass RM = some m.cls := findClass_of_methodNamed B.named
  have hlocks := B.notSynchronized
  subst hsz
  have hD := hD0.self (sz := s.heap.size)
  generalize hAe : va_A (ctW a cA n f) s.heap.size = A at hD hZ ⊢
  have hDa : ∀ (n : ctN) (f : ctF), va_D A (ctW a cA n f) := fun _ _ => ct_D hD
  have hA : ∀ q : Nat, s.heap.size ≤ q → A q := fun q h => by rw [← hAe]; exact Or.inr h
  have hS : va_S A s.heap s.heap [] := va_S.rf
  have hl := lv_entry ([.ref (a 18), .int p1]) (n := 2) (Nat.le_of_ble_eq_true rfl)
  rw [lg_entry_eq]
  generalize (lg_sl ([.ref (a 18), .int p1]) ++ List.replicate (2 - (lg_sl ([.ref (a 18), .int p1])).length) Slot.unset).toArray = ls at hl ⊢
  have hl : lv_has ls 2 [(0, .ref (a 18)), (1, .int p1)] := hl
  unfold wp_M_operator at hw
  have join_29 : ∀ (x1 s0 s1 : Int32) (n : ctN) (f : ctF) (H : Heap) (locs : List Loc) (ls : Array Slot), wp_M_operator_J29 post x1 s0 s1 n f → va_P (dC, dI) vcl (ctW a cA n f) H → va_S A s.heap H locs → lv_has ls 2 [(0, .ref (a 18)), (1, .int x1)] → W p l e (headSpec wsM_operator ({ frames := 1, cells := 0, slots := 0, locals := 23 } : Room)).room s m (([.ref (a 18), .int p1] : List Value).toArray) below meth c H locs 0 0 (MQ below (va_Qi (fun (r : Int32) (u : ctN × ctF) => post r u.1 u.2) (ct_B dC dI a cA) A) (([.ref (a 18), .int p1] : List Value).toArray) s 0 0 A) (F0 m 29 ls [.int s0, .int s1, .ref (a 18)]) := by
    intro x1 s0 s1 n f H locs ls hw hP hS hl
    unfold wp_M_operator_J29 at hw
    refine lv_iconst (v := 0) hx hb dM_operator_29 (by decide) ?_
    refine ct_i (va_runV (As := [.int s1, .int s0, .int 0]) (rest := []) ⟨hx, hb, hml, hown, hts⟩ (met_M_refuse l dC dI a cA sa s1 s0 0 n f _ hw) (cwV 3 hts (wb_V wt_521 wt_523 wt_14 wt_30 wt_524) rfl rfl rfl (by decide +kernel) ⟨Nat.le_of_ble_eq_true rfl, Nat.le_of_ble_eq_true rfl⟩) (ct_preV hK hP (hDa _ _) hZ hS hA (va_recv hK hP (ci := 3) (q0 := 18) rfl rfl)) rfl rfl hl.1 rfl (lv_room (Nat.le_of_ble_eq_true rfl)) dM_operator_30 ⟨Nat.le_of_ble_eq_true rfl, Nat.le_of_ble_eq_true rfl⟩) (hDa _ _) hS hA (fun r6 n_7 f_8 H locs hw hP hS => ?_)
    refine lv_if_eq (tgt := 38) hx hb dM_operator_33 (by decide) (fun c9 => ?_) (fun c9 => ?_)
    · have hw := hw.1 c9
      refine lv_aload_n hx hb dM_operator_38 rfl (lv_at hl 0 rfl) ?_
      refine va_get (D := (dC, dI)) (ci := 3) (v := .ref (a 19)) (C := RM) (T := TM) (N := 19) hx hb hts (fun w h => List.mem_cons_of_mem _ (inM w h)) hown hK hP 18 rfl rfl 2 (by decide) (hts (.fieldLink RM 7 "CoverTreesModel" "parts" "[I") (List.mem_cons_of_mem _ wt_446)) (fun _ h9 => h9) rfl dM_operator_39 ?_
      refine lv_aload_n hx hb dM_operator_42 rfl (lv_at hl 0 rfl) ?_
      refine va_get (D := (dC, dI)) (ci := 3) (v := .int (n_7 4)) (C := RM) (T := TM) (N := 19) hx hb hts (fun w h => List.mem_cons_of_mem _ (inM w h)) hown hK hP 18 rfl rfl 1 (by decide) (hts (.fieldLink RM 54 "CoverTreesModel" "operators" "I") (List.mem_cons_of_mem _ wt_445)) (fun _ h9 => h9) rfl dM_operator_43 ?_
      refine lv_iload_n hx hb dM_operator_46 rfl (lv_at hl 1 rfl) ?_
      obtain ⟨hi10, hw⟩ := hw
      refine va_iast hx hb hK hP (hDa _ _) hS 19 15 rfl rfl hi10 dM_operator_47 (fun H locs hP _ hS => ?_)
      obtain ⟨f_11, ef_11⟩ : ∃ z : ctF, z = va_up f_8 19 (upd (f_8 19) (n_7 4).toNatClampNeg x1) := ⟨_, rfl⟩
      have hw := hw f_11 ef_11
      have hP : va_P (dC, dI) vcl (ctW a cA n_7 f_11) H := by rw [ef_11]; exact hP
      refine lv_aload_n hx hb dM_operator_48 rfl (lv_at hl 0 rfl) ?_
      refine lv_dup hx hb dM_operator_49 rfl ?_
      refine va_get (D := (dC, dI)) (ci := 3) (v := .int (n_7 4)) (C := RM) (T := TM) (N := 19) hx hb hts (fun w h => List.mem_cons_of_mem _ (inM w h)) hown hK hP 18 rfl rfl 1 (by decide) (hts (.fieldLink RM 54 "CoverTreesModel" "operators" "I") (List.mem_cons_of_mem _ wt_445)) (fun _ h9 => h9) rfl dM_operator_50 ?_
      refine lv_iconst (v := 1) hx hb dM_operator_53 (by decide) ?_
      refine lv_iadd hx hb dM_operator_54 ?_
      refine va_put (D := (dC, dI)) (ci := 3) (v := .int ((n_7 4) + 1)) (ty := .int) (C := RM) (T := TM) (N := 19) hx hb hts (fun w h => List.mem_cons_of_mem _ (inM w h)) tyM tyM_ok nmM hown hK hP (hDa _ _) hS 18 rfl rfl 1 (by decide) (hts (.fieldLink RM 54 "CoverTreesModel" "operators" "I") (List.mem_cons_of_mem _ wt_445)) (fun _ h9 => h9) rfl (by decide +kernel) rfl rfl (Nat.le_of_ble_eq_true rfl) dM_operator_55 (fun H locs hP _ hS => ?_)
      obtain ⟨n_12, en_12⟩ : ∃ z : ctN, z = va_up n_7 4 ((n_7 4) + 1) := ⟨_, rfl⟩
      have hw := hw n_12 en_12
      have hP : va_P (dC, dI) vcl (ctW a cA n_12 f_11) H := by rw [en_12]; exact hP
      refine lv_aload_n hx hb dM_operator_58 rfl (lv_at hl 0 rfl) ?_
      refine va_get (D := (dC, dI)) (ci := 3) (v := .int (n_12 4)) (C := RM) (T := TM) (N := 19) hx hb hts (fun w h => List.mem_cons_of_mem _ (inM w h)) hown hK hP 18 rfl rfl 1 (by decide) (hts (.fieldLink RM 54 "CoverTreesModel" "operators" "I") (List.mem_cons_of_mem _ wt_445)) (fun _ h9 => h9) rfl dM_operator_59 ?_
      refine lv_iconst (v := 1) hx hb dM_operator_62 (by decide) ?_
      refine lv_isub hx hb dM_operator_63 ?_
      exact W.iret (v := ((n_12 4) - 1)) hx hb hr (fun t ht hW => ⟨⟨((n_12 4) - 1), (n_12, f_11), rfl, hw, ct_mkB ht hP⟩, hS.F ht⟩) hS.2.2 dM_operator_64
    · have hw := hw.2 c9
      refine lv_iconst (v := 0) hx hb dM_operator_36 (by decide) ?_
      exact W.iret (v := 0) hx hb hr (fun t ht hW => ⟨⟨0, (n_7, f_8), rfl, hw, ct_mkB ht hP⟩, hS.F ht⟩) hS.2.2 dM_operator_37
  have join_15 : ∀ (x1 s0 : Int32) (n : ctN) (f : ctF) (H : Heap) (locs : List Loc) (ls : Array Slot), wp_M_operator_J15 post x1 s0 n f → va_P (dC, dI) vcl (ctW a cA n f) H → va_S A s.heap H locs → lv_has ls 2 [(0, .ref (a 18)), (1, .int x1)] → W p l e (headSpec wsM_operator ({ frames := 1, cells := 0, slots := 0, locals := 23 } : Room)).room s m (([.ref (a 18), .int p1] : List Value).toArray) below meth c H locs 0 0 (MQ below (va_Qi (fun (r : Int32) (u : ctN × ctF) => post r u.1 u.2) (ct_B dC dI a cA) A) (([.ref (a 18), .int p1] : List Value).toArray) s 0 0 A) (F0 m 15 ls [.int s0, .ref (a 18)]) := by
    intro x1 s0 n f H locs ls hw hP hS hl
    unfold wp_M_operator_J15 at hw
    refine lv_aload_n hx hb dM_operator_15 rfl (lv_at hl 0 rfl) ?_
    refine va_get (D := (dC, dI)) (ci := 3) (v := .int (n 4)) (C := RM) (T := TM) (N := 19) hx hb hts (fun w h => List.mem_cons_of_mem _ (inM w h)) hown hK hP 18 rfl rfl 1 (by decide) (hts (.fieldLink RM 54 "CoverTreesModel" "operators" "I") (List.mem_cons_of_mem _ wt_445)) (fun _ h9 => h9) rfl dM_operator_16 ?_
    refine lv_bipush (v := 10) hx hb dM_operator_19 (by decide) ?_
    refine lv_icmp_ne (tgt := 28) hx hb dM_operator_21 (by decide) (fun c5 => ?_) (fun c5 => ?_)
    · have hw := hw.1 c5
      refine lv_iconst (v := 0) hx hb dM_operator_28 (by decide) ?_
      exact join_29 x1 0 s0 n f _ _ ls hw hP hS (lv_sub hl [0, 1] rfl)
    · have hw := hw.2 c5
      refine lv_iconst (v := 1) hx hb dM_operator_24 (by decide) ?_
      refine lv_goto (tgt := 29) hx hb dM_operator_25 (by decide) ?_
      exact join_29 x1 1 s0 n f _ _ ls hw hP hS (lv_sub hl [0, 1] rfl)
  refine lv_aload_n hx hb dM_operator_0 rfl (lv_at hl 0 rfl) ?_
  refine lv_iload_n hx hb dM_operator_1 rfl (lv_at hl 1 rfl) ?_
  refine lv_iconst (v := 0) hx hb dM_operator_2 (by decide) ?_
  refine lv_iconst (v := 2) hx hb dM_operator_3 (by decide) ?_
  refine ct_i (va_runS (As := [.int p1, .int 0, .int 2]) (rest := [.ref (a 18)]) ⟨hx, hb, hml, hown, hts⟩ (met_M_in l dC dI a cA sa p1 0 2 n f _ hw) (cwS 3 hts (wb_S wt_518 wt_519 wt_30 wt_520) rfl rfl rfl (by decide +kernel) ⟨Nat.le_of_ble_eq_true rfl, Nat.le_of_ble_eq_true rfl⟩) (ct_pre hK hP (hDa _ _) hZ hS hA) rfl rfl hl.1 rfl (lv_room (Nat.le_of_ble_eq_true rfl)) dM_operator_4 ⟨Nat.le_of_ble_eq_true rfl, Nat.le_of_ble_eq_true rfl⟩) (hDa _ _) hS hA (fun r1 n_2 f_3 H locs hw hP hS => ?_)
  refine lv_if_ne (tgt := 14) hx hb dM_operator_7 (by decide) (fun c4 => ?_) (fun c4 => ?_)
  · have hw := hw.1 c4
    refine lv_iconst (v := 0) hx hb dM_operator_14 (by decide) ?_
    exact join_15 p1 0 n_2 f_3 _ _ ls hw hP hS (lv_sub hl [0, 1] rfl)
  · have hw := hw.2 c4
    refine lv_iconst (v := 1) hx hb dM_operator_10 (by decide) ?_
    refine lv_goto (tgt := 15) hx hb dM_operator_11 (by decide) ?_
    exact join_15 p1 1 n_2 f_3 _ _ ls hw hP hS (lv_sub hl [0, 1] rfl)
def wp_M_add (post : Int32 → ctN → ctF → Prop) (p1 : Int32) (p2 : Int32) (p3 : Int32) (p4 : Int32) (p5 : Int32) (n : ctN) (f : ctF) : Prop := vp_in (n 5) 40 ∧ (∀ f_2 : ctF, f_2 = va_up f 20 (upd (f 20) (n 5).toNatClampNeg p1) → (vp_in (n 5) 40 ∧ (∀ f_4 : ctF, f_4 = va_up f_2 22 (upd (f_2 22) (n 5).toNatClampNeg p2) → (vp_in (n 5) 40 ∧ (∀ f_6 : ctF, f_6 = va_up f_4 23 (upd (f_4 23) (n 5).toNatClampNeg p3) → (vp_in (n 5) 40 ∧ (∀ f_8 : ctF, f_8 = va_up f_6 24 (upd (f_6 24) (n 5).toNatClampNeg p4) → (vp_in (n 5) 40 ∧ (∀ f_10 : ctF, f_10 = va_up f_8 21 (upd (f_8 21) (n 5).toNatClampNeg p5) → (∀ n_11 : ctN, n_11 = va_up n 5 ((n 5) + 1) → (∀ n_12 : ctN, n_12 = va_up n_11 6 0 → (post ((n_12 5) - 1) n_12 f_10))))))))))))
set_option maxHeartbeats 4000000 in
set_option maxRecDepth 100000 in
theorem met_M_add (l : Launch) (dC : Nat → ClassId) (dI : Nat → Nat → Nat) (a : Nat → Nat) (cA : Nat → ClassId) (sa : Nat → Nat) (p1 : Int32) (p2 : Int32) (p3 : Int32) (p4 : Int32) (p5 : Int32) (n : ctN) (f : ctF) (sz : Nat) {post : Int32 → ctN → ctF → Prop} (hw : wp_M_add post p1 p2 p3 p4 p5 n f) : Met l yM_add wsM_add ({ frames := 0, cells := 0, slots := 0, locals := 0 } : Room) (ct_Pc dC dI a cA sa [.ref (a 18), .int p1, .int p2, .int p3, .int p4, .int p5] n f sz) (va_Qi (fun (r : Int32) (u : ctN × ctF) => post r u.1 u.2) (ct_B dC dI a cA) (va_A (ctW a cA n f) sz)) 0 0 (va_A (ctW a cA n f) sz) := by
  refine Met.ofW (cc := cM_add) (maxL := 6) (ret := (some .int)) (by decide) rfl ?_
  intro p e s m args below meth c s₁ B hml hv
  obtain ⟨rfl, hsz, hP, hK, hD0, hZ⟩ := hv
  have hx := B.exec
  have hb := B.bytes
  have hr := B.returns
  have hts := atoms_spec (ws := wsM_add) B.pre
  have hown : s.vm.findClass RM = some m.cls := findClass_of_methodNamed B.named
  have hlocks := B.notSynchronized
  subst hsz
  have hD := hD0.self (sz := s.heap.size)
  generalize hAe : va_A (ctW a cA n f) s.heap.size = A at hD hZ ⊢
  have hDa : ∀ (n : ctN) (f : ctF), va_D A (ctW a cA n f) := fun _ _ => ct_D hD
  have hA : ∀ q : Nat, s.heap.size ≤ q → A q := fun q h => by rw [← hAe]; exact Or.inr h
  have hS : va_S A s.heap s.heap [] := va_S.rf
  have hl := lv_entry ([.ref (a 18), .int p1, .int p2, .int p3, .int p4, .int p5]) (n := 6) (Nat.le_of_ble_eq_true rfl)
  rw [lg_entry_eq]
  generalize (lg_sl ([.ref (a 18), .int p1, .int p2, .int p3, .int p4, .int p5]) ++ List.replicate (6 - (lg_sl ([.ref (a 18), .int p1, .int p2, .int p3, .int p4, .int p5])).length) Slot.unset).toArray = ls at hl ⊢
  have hl : lv_has ls 6 [(0, .ref (a 18)), (1, .int p1), (2, .int p2), (3, .int p3), (4, .int p4), (5, .int p5)] := hl
  unfold wp_M_add at hw
  refine lv_aload_n hx hb dM_add_0 rfl (lv_at hl 0 rfl) ?_
  refine va_get (D := (dC, dI)) (ci := 3) (v := .ref (a 20)) (C := RM) (T := TM) (N := 19) hx hb hts (fun w h => List.mem_cons_of_mem _ (inM w h)) hown hK hP 18 rfl rfl 4 (by decide) (hts (.fieldLink RM 13 "CoverTreesModel" "goals" "[I") (List.mem_cons_of_mem _ wt_448)) (fun _ h9 => h9) rfl dM_add_1 ?_
  refine lv_aload_n hx hb dM_add_4 rfl (lv_at hl 0 rfl) ?_
  refine va_get (D := (dC, dI)) (ci := 3) (v := .int (n 5)) (C := RM) (T := TM) (N := 19) hx hb hts (fun w h => List.mem_cons_of_mem _ (inM w h)) hown hK hP 18 rfl rfl 3 (by decide) (hts (.fieldLink RM 57 "CoverTreesModel" "rules" "I") (List.mem_cons_of_mem _ wt_447)) (fun _ h9 => h9) rfl dM_add_5 ?_
  refine lv_iload_n hx hb dM_add_8 rfl (lv_at hl 1 rfl) ?_
  obtain ⟨hi1, hw⟩ := hw
  refine va_iast hx hb hK hP (hDa _ _) hS 20 16 rfl rfl hi1 dM_add_9 (fun H locs hP _ hS => ?_)
  obtain ⟨f_2, ef_2⟩ : ∃ z : ctF, z = va_up f 20 (upd (f 20) (n 5).toNatClampNeg p1) := ⟨_, rfl⟩
  have hw := hw f_2 ef_2
  have hP : va_P (dC, dI) vcl (ctW a cA n f_2) H := by rw [ef_2]; exact hP
  refine lv_aload_n hx hb dM_add_10 rfl (lv_at hl 0 rfl) ?_
  refine va_get (D := (dC, dI)) (ci := 3) (v := .ref (a 22)) (C := RM) (T := TM) (N := 19) hx hb hts (fun w h => List.mem_cons_of_mem _ (inM w h)) hown hK hP 18 rfl rfl 6 (by decide) (hts (.fieldLink RM 19 "CoverTreesModel" "of" "[I") (List.mem_cons_of_mem _ wt_450)) (fun _ h9 => h9) rfl dM_add_11 ?_
  refine lv_aload_n hx hb dM_add_14 rfl (lv_at hl 0 rfl) ?_
  refine va_get (D := (dC, dI)) (ci := 3) (v := .int (n 5)) (C := RM) (T := TM) (N := 19) hx hb hts (fun w h => List.mem_cons_of_mem _ (inM w h)) hown hK hP 18 rfl rfl 3 (by decide) (hts (.fieldLink RM 57 "CoverTreesModel" "rules" "I") (List.mem_cons_of_mem _ wt_447)) (fun _ h9 => h9) rfl dM_add_15 ?_
  refine lv_iload_n hx hb dM_add_18 rfl (lv_at hl 2 rfl) ?_
  obtain ⟨hi3, hw⟩ := hw
  refine va_iast hx hb hK hP (hDa _ _) hS 22 18 rfl rfl hi3 dM_add_19 (fun H locs hP _ hS => ?_)
  obtain ⟨f_4, ef_4⟩ : ∃ z : ctF, z = va_up f_2 22 (upd (f_2 22) (n 5).toNatClampNeg p2) := ⟨_, rfl⟩
  have hw := hw f_4 ef_4
  have hP : va_P (dC, dI) vcl (ctW a cA n f_4) H := by rw [ef_4]; exact hP
  refine lv_aload_n hx hb dM_add_20 rfl (lv_at hl 0 rfl) ?_
  refine va_get (D := (dC, dI)) (ci := 3) (v := .ref (a 23)) (C := RM) (T := TM) (N := 19) hx hb hts (fun w h => List.mem_cons_of_mem _ (inM w h)) hown hK hP 18 rfl rfl 7 (by decide) (hts (.fieldLink RM 22 "CoverTreesModel" "first" "[I") (List.mem_cons_of_mem _ wt_451)) (fun _ h9 => h9) rfl dM_add_21 ?_
  refine lv_aload_n hx hb dM_add_24 rfl (lv_at hl 0 rfl) ?_
  refine va_get (D := (dC, dI)) (ci := 3) (v := .int (n 5)) (C := RM) (T := TM) (N := 19) hx hb hts (fun w h => List.mem_cons_of_mem _ (inM w h)) hown hK hP 18 rfl rfl 3 (by decide) (hts (.fieldLink RM 57 "CoverTreesModel" "rules" "I") (List.mem_cons_of_mem _ wt_447)) (fun _ h9 => h9) rfl dM_add_25 ?_
  refine lv_iload_n hx hb dM_add_28 rfl (lv_at hl 3 rfl) ?_
  obtain ⟨hi5, hw⟩ := hw
  refine va_iast hx hb hK hP (hDa _ _) hS 23 19 rfl rfl hi5 dM_add_29 (fun H locs hP _ hS => ?_)
  obtain ⟨f_6, ef_6⟩ : ∃ z : ctF, z = va_up f_4 23 (upd (f_4 23) (n 5).toNatClampNeg p3) := ⟨_, rfl⟩
  have hw := hw f_6 ef_6
  have hP : va_P (dC, dI) vcl (ctW a cA n f_6) H := by rw [ef_6]; exact hP
  refine lv_aload_n hx hb dM_add_30 rfl (lv_at hl 0 rfl) ?_
  refine va_get (D := (dC, dI)) (ci := 3) (v := .ref (a 24)) (C := RM) (T := TM) (N := 19) hx hb hts (fun w h => List.mem_cons_of_mem _ (inM w h)) hown hK hP 18 rfl rfl 8 (by decide) (hts (.fieldLink RM 25 "CoverTreesModel" "second" "[I") (List.mem_cons_of_mem _ wt_452)) (fun _ h9 => h9) rfl dM_add_31 ?_
  refine lv_aload_n hx hb dM_add_34 rfl (lv_at hl 0 rfl) ?_
  refine va_get (D := (dC, dI)) (ci := 3) (v := .int (n 5)) (C := RM) (T := TM) (N := 19) hx hb hts (fun w h => List.mem_cons_of_mem _ (inM w h)) hown hK hP 18 rfl rfl 3 (by decide) (hts (.fieldLink RM 57 "CoverTreesModel" "rules" "I") (List.mem_cons_of_mem _ wt_447)) (fun _ h9 => h9) rfl dM_add_35 ?_
  refine lv_iload hx hb dM_add_38 (lv_at hl 4 rfl) ?_
  obtain ⟨hi7, hw⟩ := hw
  refine va_iast hx hb hK hP (hDa _ _) hS 24 20 rfl rfl hi7 dM_add_40 (fun H locs hP _ hS => ?_)
  obtain ⟨f_8, ef_8⟩ : ∃ z : ctF, z = va_up f_6 24 (upd (f_6 24) (n 5).toNatClampNeg p4) := ⟨_, rfl⟩
  have hw := hw f_8 ef_8
  have hP : va_P (dC, dI) vcl (ctW a cA n f_8) H := by rw [ef_8]; exact hP
  refine lv_aload_n hx hb dM_add_41 rfl (lv_at hl 0 rfl) ?_
  refine va_get (D := (dC, dI)) (ci := 3) (v := .ref (a 21)) (C := RM) (T := TM) (N := 19) hx hb hts (fun w h => List.mem_cons_of_mem _ (inM w h)) hown hK hP 18 rfl rfl 5 (by decide) (hts (.fieldLink RM 16 "CoverTreesModel" "prices" "[I") (List.mem_cons_of_mem _ wt_449)) (fun _ h9 => h9) rfl dM_add_42 ?_
  refine lv_aload_n hx hb dM_add_45 rfl (lv_at hl 0 rfl) ?_
  refine va_get (D := (dC, dI)) (ci := 3) (v := .int (n 5)) (C := RM) (T := TM) (N := 19) hx hb hts (fun w h => List.mem_cons_of_mem _ (inM w h)) hown hK hP 18 rfl rfl 3 (by decide) (hts (.fieldLink RM 57 "CoverTreesModel" "rules" "I") (List.mem_cons_of_mem _ wt_447)) (fun _ h9 => h9) rfl dM_add_46 ?_
  refine lv_iload hx hb dM_add_49 (lv_at hl 5 rfl) ?_
  obtain ⟨hi9, hw⟩ := hw
  refine va_iast hx hb hK hP (hDa _ _) hS 21 17 rfl rfl hi9 dM_add_51 (fun H locs hP _ hS => ?_)
  obtain ⟨f_10, ef_10⟩ : ∃ z : ctF, z = va_up f_8 21 (upd (f_8 21) (n 5).toNatClampNeg p5) := ⟨_, rfl⟩
  have hw := hw f_10 ef_10
  have hP : va_P (dC, dI) vcl (ctW a cA n f_10) H := by rw [ef_10]; exact hP
  refine lv_aload_n hx hb dM_add_52 rfl (lv_at hl 0 rfl) ?_
  refine lv_dup hx hb dM_add_53 rfl ?_
  refine va_get (D := (dC, dI)) (ci := 3) (v := .int (n 5)) (C := RM) (T := TM) (N := 19) hx hb hts (fun w h => List.mem_cons_of_mem _ (inM w h)) hown hK hP 18 rfl rfl 3 (by decide) (hts (.fieldLink RM 57 "CoverTreesModel" "rules" "I") (List.mem_cons_of_mem _ wt_447)) (fun _ h9 => h9) rfl dM_add_54 ?_
  refine lv_iconst (v := 1) hx hb dM_add_57 (by decide) ?_
  refine lv_iadd hx hb dM_add_58 ?_
  refine va_put (D := (dC, dI)) (ci := 3) (v := .int ((n 5) + 1)) (ty := .int) (C := RM) (T := TM) (N := 19) hx hb hts (fun w h => List.mem_cons_of_mem _ (inM w h)) tyM tyM_ok nmM hown hK hP (hDa _ _) hS 18 rfl rfl 3 (by decide) (hts (.fieldLink RM 57 "CoverTreesModel" "rules" "I") (List.mem_cons_of_mem _ wt_447)) (fun _ h9 => h9) rfl (by decide +kernel) rfl rfl (Nat.le_of_ble_eq_true rfl) dM_add_59 (fun H locs hP _ hS => ?_)
  obtain ⟨n_11, en_11⟩ : ∃ z : ctN, z = va_up n 5 ((n 5) + 1) := ⟨_, rfl⟩
  have hw := hw n_11 en_11
  have hP : va_P (dC, dI) vcl (ctW a cA n_11 f_10) H := by rw [en_11]; exact hP
  refine lv_aload_n hx hb dM_add_62 rfl (lv_at hl 0 rfl) ?_
  refine lv_iconst (v := 0) hx hb dM_add_63 (by decide) ?_
  refine va_put (D := (dC, dI)) (ci := 3) (v := .int 0) (ty := .int) (C := RM) (T := TM) (N := 19) hx hb hts (fun w h => List.mem_cons_of_mem _ (inM w h)) tyM tyM_ok nmM hown hK hP (hDa _ _) hS 18 rfl rfl 9 (by decide) (hts (.fieldLink RM 60 "CoverTreesModel" "nodes" "I") (List.mem_cons_of_mem _ wt_453)) (fun _ h9 => h9) rfl (by decide +kernel) rfl rfl (Nat.le_of_ble_eq_true rfl) dM_add_64 (fun H locs hP _ hS => ?_)
  obtain ⟨n_12, en_12⟩ : ∃ z : ctN, z = va_up n_11 6 0 := ⟨_, rfl⟩
  have hw := hw n_12 en_12
  have hP : va_P (dC, dI) vcl (ctW a cA n_12 f_10) H := by rw [en_12]; exact hP
  refine lv_aload_n hx hb dM_add_67 rfl (lv_at hl 0 rfl) ?_
  refine va_get (D := (dC, dI)) (ci := 3) (v := .int (n_12 5)) (C := RM) (T := TM) (N := 19) hx hb hts (fun w h => List.mem_cons_of_mem _ (inM w h)) hown hK hP 18 rfl rfl 3 (by decide) (hts (.fieldLink RM 57 "CoverTreesModel" "rules" "I") (List.mem_cons_of_mem _ wt_447)) (fun _ h9 => h9) rfl dM_add_68 ?_
  refine lv_iconst (v := 1) hx hb dM_add_71 (by decide) ?_
  refine lv_isub hx hb dM_add_72 ?_
  exact W.iret (v := ((n_12 5) - 1)) hx hb hr (fun t ht hW => ⟨⟨((n_12 5) - 1), (n_12, f_10), rfl, hw, ct_mkB ht hP⟩, hS.F ht⟩) hS.2.2 dM_add_73
def wp_M_base_J120 (post : Int32 → ctN → ctF → Prop) (x1 : Int32) (x2 : Int32) (x3 : Int32) (x4 : Int32) (x5 : Int32) (s0 : Int32) (s1 : Int32) (n : ctN) (f : ctF) : Prop := wp_M_refuse (fun (r9 : Int32) (n_10 : ctN) (f_11 : ctF) => (r9 = 0 → (wp_M_add (fun (r13 : Int32) (n_14 : ctN) (f_15 : ctF) => post r13 n_14 f_15) x1 x2 x3 x4 x5 n_10 f_11)) ∧ (¬ r9 = 0 → (post 0 n_10 f_11))) s1 s0 0 n f
def wp_M_base_J106 (post : Int32 → ctN → ctF → Prop) (x1 : Int32) (x2 : Int32) (x3 : Int32) (x4 : Int32) (x5 : Int32) (s0 : Int32) (n : ctN) (f : ctF) : Prop := (¬ (n 5) = 40 → (wp_M_base_J120 post x1 x2 x3 x4 x5 0 s0 n f)) ∧ ((n 5) = 40 → (wp_M_base_J120 post x1 x2 x3 x4 x5 1 s0 n f))
def wp_M_base_J93 (post : Int32 → ctN → ctF → Prop) (x1 : Int32) (x2 : Int32) (x3 : Int32) (x4 : Int32) (x5 : Int32) (s0 : Int32) (n : ctN) (f : ctF) : Prop := (¬ s0 = 0 → (wp_M_base_J106 post x1 x2 x3 x4 x5 0 n f)) ∧ (s0 = 0 → (wp_M_base_J106 post x1 x2 x3 x4 x5 1 n f))
def wp_M_base_J92 (post : Int32 → ctN → ctF → Prop) (x1 : Int32) (x2 : Int32) (x3 : Int32) (x4 : Int32) (x5 : Int32) (n : ctN) (f : ctF) : Prop := wp_M_base_J93 post x1 x2 x3 x4 x5 0 n f
def wp_M_base_J88 (post : Int32 → ctN → ctF → Prop) (x1 : Int32) (x2 : Int32) (x3 : Int32) (x4 : Int32) (x5 : Int32) (n : ctN) (f : ctF) : Prop := wp_M_base_J93 post x1 x2 x3 x4 x5 1 n f
def wp_M_base_J74 (post : Int32 → ctN → ctF → Prop) (x1 : Int32) (x2 : Int32) (x3 : Int32) (x4 : Int32) (x5 : Int32) (x7 : Int32) (n : ctN) (f : ctF) : Prop := (x7 < 2 → (wp_M_base_J88 post x1 x2 x3 x4 x5 n f)) ∧ (¬ x7 < 2 → (wp_M_isGoal (fun (r18 : Int32) (n_19 : ctN) (f_20 : ctF) => (r18 = 0 → (wp_M_base_J92 post x1 x2 x3 x4 x5 n_19 f_20)) ∧ (¬ r18 = 0 → (wp_M_base_J88 post x1 x2 x3 x4 x5 n_19 f_20))) x4 n f))
def wp_M_base_J54 (post : Int32 → ctN → ctF → Prop) (x1 : Int32) (x2 : Int32) (x3 : Int32) (x4 : Int32) (x5 : Int32) (x6 : Int32) (s0 : Int32) (n : ctN) (f : ctF) : Prop := (x6 = 0 → (wp_M_base_J92 post x1 x2 x3 x4 x5 n f)) ∧ (¬ x6 = 0 → ((s0 < 1 → (wp_M_base_J74 post x1 x2 x3 x4 x5 s0 n f)) ∧ (¬ s0 < 1 → (wp_M_isGoal (fun (r22 : Int32) (n_23 : ctN) (f_24 : ctF) => (r22 = 0 → (wp_M_base_J92 post x1 x2 x3 x4 x5 n_23 f_24)) ∧ (¬ r22 = 0 → (wp_M_base_J74 post x1 x2 x3 x4 x5 s0 n_23 f_24))) x3 n f))))
def wp_M_base_J37 (post : Int32 → ctN → ctF → Prop) (x1 : Int32) (x2 : Int32) (x3 : Int32) (x4 : Int32) (x5 : Int32) (s0 : Int32) (n : ctN) (f : ctF) : Prop := (s0 = 0 → (wp_M_base_J54 post x1 x2 x3 x4 x5 s0 0 n f)) ∧ (¬ s0 = 0 → (vp_in x2 10 ∧ (wp_M_base_J54 post x1 x2 x3 x4 x5 s0 (f 19 x2.toNatClampNeg) n f)))
def wp_M_base_J36 (post : Int32 → ctN → ctF → Prop) (x1 : Int32) (x2 : Int32) (x3 : Int32) (x4 : Int32) (x5 : Int32) (n : ctN) (f : ctF) : Prop := wp_M_base_J37 post x1 x2 x3 x4 x5 0 n f
def wp_M_base (post : Int32 → ctN → ctF → Prop) (p1 : Int32) (p2 : Int32) (p3 : Int32) (p4 : Int32) (p5 : Int32) (n : ctN) (f : ctF) : Prop := wp_M_isGoal (fun (r1 : Int32) (n_2 : ctN) (f_3 : ctF) => (r1 = 0 → (wp_M_base_J36 post p1 p2 p3 p4 p5 n_2 f_3)) ∧ (¬ r1 = 0 → (wp_M_in (fun (r27 : Int32) (n_28 : ctN) (f_29 : ctF) => (r27 = 0 → (wp_M_base_J36 post p1 p2 p3 p4 p5 n_28 f_29)) ∧ (¬ r27 = 0 → (wp_M_in (fun (r31 : Int32) (n_32 : ctN) (f_33 : ctF) => (r31 = 0 → (wp_M_base_J36 post p1 p2 p3 p4 p5 n_32 f_33)) ∧ (¬ r31 = 0 → (wp_M_base_J37 post p1 p2 p3 p4 p5 1 n_32 f_33))) p5 0 20 n_28 f_29))) p2 0 ((n_2 4) - 1) n_2 f_3))) p1 n f
set_option maxHeartbeats 4000000 in
set_option maxRecDepth 100000 in
theorem met_M_base (l : Launch) (dC : Nat → ClassId) (dI : Nat → Nat → Nat) (a : Nat → Nat) (cA : Nat → ClassId) (sa : Nat → Nat) (p1 : Int32) (p2 : Int32) (p3 : Int32) (p4 : Int32) (p5 : Int32) (n : ctN) (f : ctF) (sz : Nat) {post : Int32 → ctN → ctF → Prop} (hw : wp_M_base post p1 p2 p3 p4 p5 n f) : Met l yM_base wsM_base ({ frames := 2, cells := 0, slots := 0, locals := 42 } : Room) (ct_Pc dC dI a cA sa [.ref (a 18), .int p1, .int p2, .int p3, .int p4, .int p5] n f sz) (va_Qi (fun (r : Int32) (u : ctN × ctF) => post r u.1 u.2) (ct_B dC dI a cA) (va_A (ctW a cA n f) sz)) 0 0 (va_A (ctW a cA n f) sz) := by
  refine Met.ofW (cc := cM_base) (maxL := 9) (ret := (some .int)) (by decide) rfl ?_
  intro p e s m args below meth c s₁ B hml hv
  obtain ⟨rfl, hsz, hP, hK, hD0, hZ⟩ := hv
  have hx := B.exec
  have hb := B.bytes
  have hr := B.returns
  have hts := atoms_spec (ws := wsM_base) B.pre
  have hown : s.vm.findClass RM = some m.cls := findClass_of_methodNamed B.named
  have hlocks := B.notSynchronized
  subst hsz
  have hD := hD0.self (sz := s.heap.size)
  generalize hAe : va_A (ctW a cA n f) s.heap.size = A at hD hZ ⊢
  have hDa : ∀ (n : ctN) (f : ctF), va_D A (ctW a cA n f) := fun _ _ => ct_D hD
  have hA : ∀ q : Nat, s.heap.size ≤ q → A q := fun q h => by rw [← hAe]; exact Or.inr h
  have hS : va_S A s.heap s.heap [] := va_S.rf
  have hl := lv_entry ([.ref (a 18), .int p1, .int p2, .int p3, .int p4, .int p5]) (n := 9) (Nat.le_of_ble_eq_true rfl)
  rw [lg_entry_eq]
  generalize (lg_sl ([.ref (a 18), .int p1, .int p2, .int p3, .int p4, .int p5]) ++ List.replicate (9 - (lg_sl ([.ref (a 18), .int p1, .int p2, .int p3, .int p4, .int p5])).length) Slot.unset).toArray = ls at hl ⊢
  have hl : lv_has ls 9 [(0, .ref (a 18)), (1, .int p1), (2, .int p2), (3, .int p3), (4, .int p4), (5, .int p5)] := hl
  unfold wp_M_base at hw
  have join_120 : ∀ (x1 x2 x3 x4 x5 s0 s1 : Int32) (n : ctN) (f : ctF) (H : Heap) (locs : List Loc) (ls : Array Slot), wp_M_base_J120 post x1 x2 x3 x4 x5 s0 s1 n f → va_P (dC, dI) vcl (ctW a cA n f) H → va_S A s.heap H locs → lv_has ls 9 [(0, .ref (a 18)), (1, .int x1), (2, .int x2), (3, .int x3), (4, .int x4), (5, .int x5)] → W p l e (headSpec wsM_base ({ frames := 2, cells := 0, slots := 0, locals := 42 } : Room)).room s m (([.ref (a 18), .int p1, .int p2, .int p3, .int p4, .int p5] : List Value).toArray) below meth c H locs 0 0 (MQ below (va_Qi (fun (r : Int32) (u : ctN × ctF) => post r u.1 u.2) (ct_B dC dI a cA) A) (([.ref (a 18), .int p1, .int p2, .int p3, .int p4, .int p5] : List Value).toArray) s 0 0 A) (F0 m 120 ls [.int s0, .int s1, .ref (a 18)]) := by
    intro x1 x2 x3 x4 x5 s0 s1 n f H locs ls hw hP hS hl
    unfold wp_M_base_J120 at hw
    refine lv_iconst (v := 0) hx hb dM_base_120 (by decide) ?_
    refine ct_i (va_runV (As := [.int s1, .int s0, .int 0]) (rest := []) ⟨hx, hb, hml, hown, hts⟩ (met_M_refuse l dC dI a cA sa s1 s0 0 n f _ hw) (cwV 3 hts (wb_V wt_521 wt_523 wt_14 wt_30 wt_524) rfl rfl rfl (by decide +kernel) ⟨Nat.le_of_ble_eq_true rfl, Nat.le_of_ble_eq_true rfl⟩) (ct_preV hK hP (hDa _ _) hZ hS hA (va_recv hK hP (ci := 3) (q0 := 18) rfl rfl)) rfl rfl hl.1 rfl (lv_room (Nat.le_of_ble_eq_true rfl)) dM_base_121 ⟨Nat.le_of_ble_eq_true rfl, Nat.le_of_ble_eq_true rfl⟩) (hDa _ _) hS hA (fun r9 n_10 f_11 H locs hw hP hS => ?_)
    refine lv_if_eq (tgt := 129) hx hb dM_base_124 (by decide) (fun c12 => ?_) (fun c12 => ?_)
    · have hw := hw.1 c12
      refine lv_aload_n hx hb dM_base_129 rfl (lv_at hl 0 rfl) ?_
      refine lv_iload_n hx hb dM_base_130 rfl (lv_at hl 1 rfl) ?_
      refine lv_iload_n hx hb dM_base_131 rfl (lv_at hl 2 rfl) ?_
      refine lv_iload_n hx hb dM_base_132 rfl (lv_at hl 3 rfl) ?_
      refine lv_iload hx hb dM_base_133 (lv_at hl 4 rfl) ?_
      refine lv_iload hx hb dM_base_135 (lv_at hl 5 rfl) ?_
      refine ct_i (va_runV (As := [.int x1, .int x2, .int x3, .int x4, .int x5]) (rest := []) ⟨hx, hb, hml, hown, hts⟩ (met_M_add l dC dI a cA sa x1 x2 x3 x4 x5 n_10 f_11 _ hw) (cwV 5 hts (wb_V wt_532 wt_534 wt_15 wt_30 wt_535) rfl rfl rfl (by decide +kernel) ⟨Nat.le_of_ble_eq_true rfl, Nat.le_of_ble_eq_true rfl⟩) (ct_preV hK hP (hDa _ _) hZ hS hA (va_recv hK hP (ci := 3) (q0 := 18) rfl rfl)) rfl rfl hl.1 rfl (lv_room (Nat.le_of_ble_eq_true rfl)) dM_base_137 ⟨Nat.le_of_ble_eq_true rfl, Nat.le_of_ble_eq_true rfl⟩) (hDa _ _) hS hA (fun r13 n_14 f_15 H locs hw hP hS => ?_)
      exact W.iret (v := r13) hx hb hr (fun t ht hW => ⟨⟨r13, (n_14, f_15), rfl, hw, ct_mkB ht hP⟩, hS.F ht⟩) hS.2.2 dM_base_140
    · have hw := hw.2 c12
      refine lv_iconst (v := 0) hx hb dM_base_127 (by decide) ?_
      exact W.iret (v := 0) hx hb hr (fun t ht hW => ⟨⟨0, (n_10, f_11), rfl, hw, ct_mkB ht hP⟩, hS.F ht⟩) hS.2.2 dM_base_128
  have join_106 : ∀ (x1 x2 x3 x4 x5 s0 : Int32) (n : ctN) (f : ctF) (H : Heap) (locs : List Loc) (ls : Array Slot), wp_M_base_J106 post x1 x2 x3 x4 x5 s0 n f → va_P (dC, dI) vcl (ctW a cA n f) H → va_S A s.heap H locs → lv_has ls 9 [(0, .ref (a 18)), (1, .int x1), (2, .int x2), (3, .int x3), (4, .int x4), (5, .int x5)] → W p l e (headSpec wsM_base ({ frames := 2, cells := 0, slots := 0, locals := 42 } : Room)).room s m (([.ref (a 18), .int p1, .int p2, .int p3, .int p4, .int p5] : List Value).toArray) below meth c H locs 0 0 (MQ below (va_Qi (fun (r : Int32) (u : ctN × ctF) => post r u.1 u.2) (ct_B dC dI a cA) A) (([.ref (a 18), .int p1, .int p2, .int p3, .int p4, .int p5] : List Value).toArray) s 0 0 A) (F0 m 106 ls [.int s0, .ref (a 18)]) := by
    intro x1 x2 x3 x4 x5 s0 n f H locs ls hw hP hS hl
    unfold wp_M_base_J106 at hw
    refine lv_aload_n hx hb dM_base_106 rfl (lv_at hl 0 rfl) ?_
    refine va_get (D := (dC, dI)) (ci := 3) (v := .int (n 5)) (C := RM) (T := TM) (N := 19) hx hb hts (fun w h => List.mem_cons_of_mem _ (inM w h)) hown hK hP 18 rfl rfl 3 (by decide) (hts (.fieldLink RM 57 "CoverTreesModel" "rules" "I") (List.mem_cons_of_mem _ wt_447)) (fun _ h9 => h9) rfl dM_base_107 ?_
    refine lv_bipush (v := 40) hx hb dM_base_110 (by decide) ?_
    refine lv_icmp_ne (tgt := 119) hx hb dM_base_112 (by decide) (fun c8 => ?_) (fun c8 => ?_)
    · have hw := hw.1 c8
      refine lv_iconst (v := 0) hx hb dM_base_119 (by decide) ?_
      exact join_120 x1 x2 x3 x4 x5 0 s0 n f _ _ ls hw hP hS (lv_sub hl [0, 1, 2, 3, 4, 5] rfl)
    · have hw := hw.2 c8
      refine lv_iconst (v := 1) hx hb dM_base_115 (by decide) ?_
      refine lv_goto (tgt := 120) hx hb dM_base_116 (by decide) ?_
      exact join_120 x1 x2 x3 x4 x5 1 s0 n f _ _ ls hw hP hS (lv_sub hl [0, 1, 2, 3, 4, 5] rfl)
  have join_93 : ∀ (x1 x2 x3 x4 x5 s0 : Int32) (n : ctN) (f : ctF) (H : Heap) (locs : List Loc) (ls : Array Slot), wp_M_base_J93 post x1 x2 x3 x4 x5 s0 n f → va_P (dC, dI) vcl (ctW a cA n f) H → va_S A s.heap H locs → lv_has ls 9 [(0, .ref (a 18)), (1, .int x1), (2, .int x2), (3, .int x3), (4, .int x4), (5, .int x5)] → W p l e (headSpec wsM_base ({ frames := 2, cells := 0, slots := 0, locals := 42 } : Room)).room s m (([.ref (a 18), .int p1, .int p2, .int p3, .int p4, .int p5] : List Value).toArray) below meth c H locs 0 0 (MQ below (va_Qi (fun (r : Int32) (u : ctN × ctF) => post r u.1 u.2) (ct_B dC dI a cA) A) (([.ref (a 18), .int p1, .int p2, .int p3, .int p4, .int p5] : List Value).toArray) s 0 0 A) (F0 m 93 ls [.int s0]) := by
    intro x1 x2 x3 x4 x5 s0 n f H locs ls hw hP hS hl
    unfold wp_M_base_J93 at hw
    refine lv_istore (lv' := [(8, .int s0), (0, .ref (a 18)), (1, .int x1), (2, .int x2), (3, .int x3), (4, .int x4), (5, .int x5)]) hx hb dM_base_93 hl (by decide) rfl (fun ls hl => ?_)
    refine lv_aload_n hx hb dM_base_95 rfl (lv_at hl 1 rfl) ?_
    refine lv_iload hx hb dM_base_96 (lv_at hl 0 rfl) ?_
    refine lv_if_ne (tgt := 105) hx hb dM_base_98 (by decide) (fun c7 => ?_) (fun c7 => ?_)
    · have hw := hw.1 c7
      refine lv_iconst (v := 0) hx hb dM_base_105 (by decide) ?_
      exact join_106 x1 x2 x3 x4 x5 0 n f _ _ ls hw hP hS (lv_sub hl [1, 2, 3, 4, 5, 6] rfl)
    · have hw := hw.2 c7
      refine lv_iconst (v := 1) hx hb dM_base_101 (by decide) ?_
      refine lv_goto (tgt := 106) hx hb dM_base_102 (by decide) ?_
      exact join_106 x1 x2 x3 x4 x5 1 n f _ _ ls hw hP hS (lv_sub hl [1, 2, 3, 4, 5, 6] rfl)
  have join_92 : ∀ (x1 x2 x3 x4 x5 : Int32) (n : ctN) (f : ctF) (H : Heap) (locs : List Loc) (ls : Array Slot), wp_M_base_J92 post x1 x2 x3 x4 x5 n f → va_P (dC, dI) vcl (ctW a cA n f) H → va_S A s.heap H locs → lv_has ls 9 [(0, .ref (a 18)), (1, .int x1), (2, .int x2), (3, .int x3), (4, .int x4), (5, .int x5)] → W p l e (headSpec wsM_base ({ frames := 2, cells := 0, slots := 0, locals := 42 } : Room)).room s m (([.ref (a 18), .int p1, .int p2, .int p3, .int p4, .int p5] : List Value).toArray) below meth c H locs 0 0 (MQ below (va_Qi (fun (r : Int32) (u : ctN × ctF) => post r u.1 u.2) (ct_B dC dI a cA) A) (([.ref (a 18), .int p1, .int p2, .int p3, .int p4, .int p5] : List Value).toArray) s 0 0 A) (F0 m 92 ls []) := by
    intro x1 x2 x3 x4 x5 n f H locs ls hw hP hS hl
    unfold wp_M_base_J92 at hw
    refine lv_iconst (v := 0) hx hb dM_base_92 (by decide) ?_
    exact join_93 x1 x2 x3 x4 x5 0 n f _ _ ls hw hP hS (lv_sub hl [0, 1, 2, 3, 4, 5] rfl)
  have join_88 : ∀ (x1 x2 x3 x4 x5 : Int32) (n : ctN) (f : ctF) (H : Heap) (locs : List Loc) (ls : Array Slot), wp_M_base_J88 post x1 x2 x3 x4 x5 n f → va_P (dC, dI) vcl (ctW a cA n f) H → va_S A s.heap H locs → lv_has ls 9 [(0, .ref (a 18)), (1, .int x1), (2, .int x2), (3, .int x3), (4, .int x4), (5, .int x5)] → W p l e (headSpec wsM_base ({ frames := 2, cells := 0, slots := 0, locals := 42 } : Room)).room s m (([.ref (a 18), .int p1, .int p2, .int p3, .int p4, .int p5] : List Value).toArray) below meth c H locs 0 0 (MQ below (va_Qi (fun (r : Int32) (u : ctN × ctF) => post r u.1 u.2) (ct_B dC dI a cA) A) (([.ref (a 18), .int p1, .int p2, .int p3, .int p4, .int p5] : List Value).toArray) s 0 0 A) (F0 m 88 ls []) := by
    intro x1 x2 x3 x4 x5 n f H locs ls hw hP hS hl
    unfold wp_M_base_J88 at hw
    refine lv_iconst (v := 1) hx hb dM_base_88 (by decide) ?_
    refine lv_goto (tgt := 93) hx hb dM_base_89 (by decide) ?_
    exact join_93 x1 x2 x3 x4 x5 1 n f _ _ ls hw hP hS (lv_sub hl [0, 1, 2, 3, 4, 5] rfl)
  have join_74 : ∀ (x1 x2 x3 x4 x5 x7 : Int32) (n : ctN) (f : ctF) (H : Heap) (locs : List Loc) (ls : Array Slot), wp_M_base_J74 post x1 x2 x3 x4 x5 x7 n f → va_P (dC, dI) vcl (ctW a cA n f) H → va_S A s.heap H locs → lv_has ls 9 [(0, .ref (a 18)), (1, .int x1), (2, .int x2), (3, .int x3), (4, .int x4), (5, .int x5), (7, .int x7)] → W p l e (headSpec wsM_base ({ frames := 2, cells := 0, slots := 0, locals := 42 } : Room)).room s m (([.ref (a 18), .int p1, .int p2, .int p3, .int p4, .int p5] : List Value).toArray) below meth c H locs 0 0 (MQ below (va_Qi (fun (r : Int32) (u : ctN × ctF) => post r u.1 u.2) (ct_B dC dI a cA) A) (([.ref (a 18), .int p1, .int p2, .int p3, .int p4, .int p5] : List Value).toArray) s 0 0 A) (F0 m 74 ls []) := by
    intro x1 x2 x3 x4 x5 x7 n f H locs ls hw hP hS hl
    unfold wp_M_base_J74 at hw
    refine lv_iload hx hb dM_base_74 (lv_at hl 6 rfl) ?_
    refine lv_iconst (v := 2) hx hb dM_base_76 (by decide) ?_
    refine lv_icmp_lt (tgt := 88) hx hb dM_base_77 (by decide) (fun c17 => ?_) (fun c17 => ?_)
    · have hw := hw.1 c17
      exact join_88 x1 x2 x3 x4 x5 n f _ _ ls hw hP hS (lv_sub hl [0, 1, 2, 3, 4, 5] rfl)
    · have hw := hw.2 c17
      refine lv_iload hx hb dM_base_80 (lv_at hl 4 rfl) ?_
      refine ct_i (va_runS (As := [.int x4]) (rest := []) ⟨hx, hb, hml, hown, hts⟩ (met_M_isGoal l dC dI a cA sa x4 n f _ hw) (cwS 1 hts (wb_S wt_529 wt_530 wt_30 wt_531) rfl rfl rfl (by decide +kernel) ⟨Nat.le_of_ble_eq_true rfl, Nat.le_of_ble_eq_true rfl⟩) (ct_pre hK hP (hDa _ _) hZ hS hA) rfl rfl hl.1 rfl (lv_room (Nat.le_of_ble_eq_true rfl)) dM_base_82 ⟨Nat.le_of_ble_eq_true rfl, Nat.le_of_ble_eq_true rfl⟩) (hDa _ _) hS hA (fun r18 n_19 f_20 H locs hw hP hS => ?_)
      refine lv_if_eq (tgt := 92) hx hb dM_base_85 (by decide) (fun c21 => ?_) (fun c21 => ?_)
      · have hw := hw.1 c21
        exact join_92 x1 x2 x3 x4 x5 n_19 f_20 _ _ ls hw hP hS (lv_sub hl [0, 1, 2, 3, 4, 5] rfl)
      · have hw := hw.2 c21
        exact join_88 x1 x2 x3 x4 x5 n_19 f_20 _ _ ls hw hP hS (lv_sub hl [0, 1, 2, 3, 4, 5] rfl)
  have join_54 : ∀ (x1 x2 x3 x4 x5 x6 s0 : Int32) (n : ctN) (f : ctF) (H : Heap) (locs : List Loc) (ls : Array Slot), wp_M_base_J54 post x1 x2 x3 x4 x5 x6 s0 n f → va_P (dC, dI) vcl (ctW a cA n f) H → va_S A s.heap H locs → lv_has ls 9 [(0, .ref (a 18)), (1, .int x1), (2, .int x2), (3, .int x3), (4, .int x4), (5, .int x5), (6, .int x6)] → W p l e (headSpec wsM_base ({ frames := 2, cells := 0, slots := 0, locals := 42 } : Room)).room s m (([.ref (a 18), .int p1, .int p2, .int p3, .int p4, .int p5] : List Value).toArray) below meth c H locs 0 0 (MQ below (va_Qi (fun (r : Int32) (u : ctN × ctF) => post r u.1 u.2) (ct_B dC dI a cA) A) (([.ref (a 18), .int p1, .int p2, .int p3, .int p4, .int p5] : List Value).toArray) s 0 0 A) (F0 m 54 ls [.int s0]) := by
    intro x1 x2 x3 x4 x5 x6 s0 n f H locs ls hw hP hS hl
    unfold wp_M_base_J54 at hw
    refine lv_istore (lv' := [(7, .int s0), (0, .ref (a 18)), (1, .int x1), (2, .int x2), (3, .int x3), (4, .int x4), (5, .int x5), (6, .int x6)]) hx hb dM_base_54 hl (by decide) rfl (fun ls hl => ?_)
    refine lv_iload hx hb dM_base_56 (lv_at hl 7 rfl) ?_
    refine lv_if_eq (tgt := 92) hx hb dM_base_58 (by decide) (fun c6 => ?_) (fun c6 => ?_)
    · have hw := hw.1 c6
      exact join_92 x1 x2 x3 x4 x5 n f _ _ ls hw hP hS (lv_sub hl [1, 2, 3, 4, 5, 6] rfl)
    · have hw := hw.2 c6
      refine lv_iload hx hb dM_base_61 (lv_at hl 0 rfl) ?_
      refine lv_iconst (v := 1) hx hb dM_base_63 (by decide) ?_
      refine lv_icmp_lt (tgt := 74) hx hb dM_base_64 (by decide) (fun c16 => ?_) (fun c16 => ?_)
      · have hw := hw.1 c16
        exact join_74 x1 x2 x3 x4 x5 s0 n f _ _ ls hw hP hS (lv_sub hl [1, 2, 3, 4, 5, 6, 0] rfl)
      · have hw := hw.2 c16
        refine lv_iload_n hx hb dM_base_67 rfl (lv_at hl 4 rfl) ?_
        refine ct_i (va_runS (As := [.int x3]) (rest := []) ⟨hx, hb, hml, hown, hts⟩ (met_M_isGoal l dC dI a cA sa x3 n f _ hw) (cwS 1 hts (wb_S wt_529 wt_530 wt_30 wt_531) rfl rfl rfl (by decide +kernel) ⟨Nat.le_of_ble_eq_true rfl, Nat.le_of_ble_eq_true rfl⟩) (ct_pre hK hP (hDa _ _) hZ hS hA) rfl rfl hl.1 rfl (lv_room (Nat.le_of_ble_eq_true rfl)) dM_base_68 ⟨Nat.le_of_ble_eq_true rfl, Nat.le_of_ble_eq_true rfl⟩) (hDa _ _) hS hA (fun r22 n_23 f_24 H locs hw hP hS => ?_)
        refine lv_if_eq (tgt := 92) hx hb dM_base_71 (by decide) (fun c25 => ?_) (fun c25 => ?_)
        · have hw := hw.1 c25
          exact join_92 x1 x2 x3 x4 x5 n_23 f_24 _ _ ls hw hP hS (lv_sub hl [1, 2, 3, 4, 5, 6] rfl)
        · have hw := hw.2 c25
          exact join_74 x1 x2 x3 x4 x5 s0 n_23 f_24 _ _ ls hw hP hS (lv_sub hl [1, 2, 3, 4, 5, 6, 0] rfl)
  have join_37 : ∀ (x1 x2 x3 x4 x5 s0 : Int32) (n : ctN) (f : ctF) (H : Heap) (locs : List Loc) (ls : Array Slot), wp_M_base_J37 post x1 x2 x3 x4 x5 s0 n f → va_P (dC, dI) vcl (ctW a cA n f) H → va_S A s.heap H locs → lv_has ls 9 [(0, .ref (a 18)), (1, .int x1), (2, .int x2), (3, .int x3), (4, .int x4), (5, .int x5)] → W p l e (headSpec wsM_base ({ frames := 2, cells := 0, slots := 0, locals := 42 } : Room)).room s m (([.ref (a 18), .int p1, .int p2, .int p3, .int p4, .int p5] : List Value).toArray) below meth c H locs 0 0 (MQ below (va_Qi (fun (r : Int32) (u : ctN × ctF) => post r u.1 u.2) (ct_B dC dI a cA) A) (([.ref (a 18), .int p1, .int p2, .int p3, .int p4, .int p5] : List Value).toArray) s 0 0 A) (F0 m 37 ls [.int s0]) := by
    intro x1 x2 x3 x4 x5 s0 n f H locs ls hw hP hS hl
    unfold wp_M_base_J37 at hw
    refine lv_istore (lv' := [(6, .int s0), (0, .ref (a 18)), (1, .int x1), (2, .int x2), (3, .int x3), (4, .int x4), (5, .int x5)]) hx hb dM_base_37 hl (by decide) rfl (fun ls hl => ?_)
    refine lv_iload hx hb dM_base_39 (lv_at hl 0 rfl) ?_
    refine lv_if_eq (tgt := 53) hx hb dM_base_41 (by decide) (fun c5 => ?_) (fun c5 => ?_)
    · have hw := hw.1 c5
      refine lv_iconst (v := 0) hx hb dM_base_53 (by decide) ?_
      exact join_54 x1 x2 x3 x4 x5 s0 0 n f _ _ ls hw hP hS (lv_sub hl [1, 2, 3, 4, 5, 6, 0] rfl)
    · have hw := hw.2 c5
      refine lv_aload_n hx hb dM_base_44 rfl (lv_at hl 1 rfl) ?_
      refine va_get (D := (dC, dI)) (ci := 3) (v := .ref (a 19)) (C := RM) (T := TM) (N := 19) hx hb hts (fun w h => List.mem_cons_of_mem _ (inM w h)) hown hK hP 18 rfl rfl 2 (by decide) (hts (.fieldLink RM 7 "CoverTreesModel" "parts" "[I") (List.mem_cons_of_mem _ wt_446)) (fun _ h9 => h9) rfl dM_base_45 ?_
      refine lv_iload_n hx hb dM_base_48 rfl (lv_at hl 3 rfl) ?_
      obtain ⟨hi26, hw⟩ := hw
      refine va_iald hx hb hK hP 19 15 rfl rfl hi26 dM_base_49 ?_
      refine lv_goto (tgt := 54) hx hb dM_base_50 (by decide) ?_
      exact join_54 x1 x2 x3 x4 x5 s0 (f 19 x2.toNatClampNeg) n f _ _ ls hw hP hS (lv_sub hl [1, 2, 3, 4, 5, 6, 0] rfl)
  have join_36 : ∀ (x1 x2 x3 x4 x5 : Int32) (n : ctN) (f : ctF) (H : Heap) (locs : List Loc) (ls : Array Slot), wp_M_base_J36 post x1 x2 x3 x4 x5 n f → va_P (dC, dI) vcl (ctW a cA n f) H → va_S A s.heap H locs → lv_has ls 9 [(0, .ref (a 18)), (1, .int x1), (2, .int x2), (3, .int x3), (4, .int x4), (5, .int x5)] → W p l e (headSpec wsM_base ({ frames := 2, cells := 0, slots := 0, locals := 42 } : Room)).room s m (([.ref (a 18), .int p1, .int p2, .int p3, .int p4, .int p5] : List Value).toArray) below meth c H locs 0 0 (MQ below (va_Qi (fun (r : Int32) (u : ctN × ctF) => post r u.1 u.2) (ct_B dC dI a cA) A) (([.ref (a 18), .int p1, .int p2, .int p3, .int p4, .int p5] : List Value).toArray) s 0 0 A) (F0 m 36 ls []) := by
    intro x1 x2 x3 x4 x5 n f H locs ls hw hP hS hl
    unfold wp_M_base_J36 at hw
    refine lv_iconst (v := 0) hx hb dM_base_36 (by decide) ?_
    exact join_37 x1 x2 x3 x4 x5 0 n f _ _ ls hw hP hS (lv_sub hl [0, 1, 2, 3, 4, 5] rfl)
  refine lv_iload_n hx hb dM_base_0 rfl (lv_at hl 1 rfl) ?_
  refine ct_i (va_runS (As := [.int p1]) (rest := []) ⟨hx, hb, hml, hown, hts⟩ (met_M_isGoal l dC dI a cA sa p1 n f _ hw) (cwS 1 hts (wb_S wt_529 wt_530 wt_30 wt_531) rfl rfl rfl (by decide +kernel) ⟨Nat.le_of_ble_eq_true rfl, Nat.le_of_ble_eq_true rfl⟩) (ct_pre hK hP (hDa _ _) hZ hS hA) rfl rfl hl.1 rfl (lv_room (Nat.le_of_ble_eq_true rfl)) dM_base_1 ⟨Nat.le_of_ble_eq_true rfl, Nat.le_of_ble_eq_true rfl⟩) (hDa _ _) hS hA (fun r1 n_2 f_3 H locs hw hP hS => ?_)
  refine lv_if_eq (tgt := 36) hx hb dM_base_4 (by decide) (fun c4 => ?_) (fun c4 => ?_)
  · have hw := hw.1 c4
    exact join_36 p1 p2 p3 p4 p5 n_2 f_3 _ _ ls hw hP hS (lv_sub hl [0, 1, 2, 3, 4, 5] rfl)
  · have hw := hw.2 c4
    refine lv_iload_n hx hb dM_base_7 rfl (lv_at hl 2 rfl) ?_
    refine lv_iconst (v := 0) hx hb dM_base_8 (by decide) ?_
    refine lv_aload_n hx hb dM_base_9 rfl (lv_at hl 0 rfl) ?_
    refine va_get (D := (dC, dI)) (ci := 3) (v := .int (n_2 4)) (C := RM) (T := TM) (N := 19) hx hb hts (fun w h => List.mem_cons_of_mem _ (inM w h)) hown hK hP 18 rfl rfl 1 (by decide) (hts (.fieldLink RM 54 "CoverTreesModel" "operators" "I") (List.mem_cons_of_mem _ wt_445)) (fun _ h9 => h9) rfl dM_base_10 ?_
    refine lv_iconst (v := 1) hx hb dM_base_13 (by decide) ?_
    refine lv_isub hx hb dM_base_14 ?_
    refine ct_i (va_runS (As := [.int p2, .int 0, .int ((n_2 4) - 1)]) (rest := []) ⟨hx, hb, hml, hown, hts⟩ (met_M_in l dC dI a cA sa p2 0 ((n_2 4) - 1) n_2 f_3 _ hw) (cwS 3 hts (wb_S wt_518 wt_519 wt_30 wt_520) rfl rfl rfl (by decide +kernel) ⟨Nat.le_of_ble_eq_true rfl, Nat.le_of_ble_eq_true rfl⟩) (ct_pre hK hP (hDa _ _) hZ hS hA) rfl rfl hl.1 rfl (lv_room (Nat.le_of_ble_eq_true rfl)) dM_base_15 ⟨Nat.le_of_ble_eq_true rfl, Nat.le_of_ble_eq_true rfl⟩) (hDa _ _) hS hA (fun r27 n_28 f_29 H locs hw hP hS => ?_)
    refine lv_if_eq (tgt := 36) hx hb dM_base_18 (by decide) (fun c30 => ?_) (fun c30 => ?_)
    · have hw := hw.1 c30
      exact join_36 p1 p2 p3 p4 p5 n_28 f_29 _ _ ls hw hP hS (lv_sub hl [0, 1, 2, 3, 4, 5] rfl)
    · have hw := hw.2 c30
      refine lv_iload hx hb dM_base_21 (lv_at hl 5 rfl) ?_
      refine lv_iconst (v := 0) hx hb dM_base_23 (by decide) ?_
      refine lv_bipush (v := 20) hx hb dM_base_24 (by decide) ?_
      refine ct_i (va_runS (As := [.int p5, .int 0, .int 20]) (rest := []) ⟨hx, hb, hml, hown, hts⟩ (met_M_in l dC dI a cA sa p5 0 20 n_28 f_29 _ hw) (cwS 3 hts (wb_S wt_518 wt_519 wt_30 wt_520) rfl rfl rfl (by decide +kernel) ⟨Nat.le_of_ble_eq_true rfl, Nat.le_of_ble_eq_true rfl⟩) (ct_pre hK hP (hDa _ _) hZ hS hA) rfl rfl hl.1 rfl (lv_room (Nat.le_of_ble_eq_true rfl)) dM_base_26 ⟨Nat.le_of_ble_eq_true rfl, Nat.le_of_ble_eq_true rfl⟩) (hDa _ _) hS hA (fun r31 n_32 f_33 H locs hw hP hS => ?_)
      refine lv_if_eq (tgt := 36) hx hb dM_base_29 (by decide) (fun c34 => ?_) (fun c34 => ?_)
      · have hw := hw.1 c34
        exact join_36 p1 p2 p3 p4 p5 n_32 f_33 _ _ ls hw hP hS (lv_sub hl [0, 1, 2, 3, 4, 5] rfl)
      · have hw := hw.2 c34
        refine lv_iconst (v := 1) hx hb dM_base_32 (by decide) ?_
        refine lv_goto (tgt := 37) hx hb dM_base_33 (by decide) ?_
        exact join_37 p1 p2 p3 p4 p5 1 n_32 f_33 _ _ ls hw hP hS (lv_sub hl [0, 1, 2, 3, 4, 5] rfl)
def wp_M_chain_J61 (post : Int32 → ctN → ctF → Prop) (x1 : Int32) (x2 : Int32) (x3 : Int32) (s0 : Int32) (s1 : Int32) (n : ctN) (f : ctF) : Prop := wp_M_refuse (fun (r7 : Int32) (n_8 : ctN) (f_9 : ctF) => (r7 = 0 → (wp_M_add (fun (r11 : Int32) (n_12 : ctN) (f_13 : ctF) => post r11 n_12 f_13) x1 (-1) x2 0 x3 n_8 f_9)) ∧ (¬ r7 = 0 → (post 0 n_8 f_9))) s1 s0 0 n f
def wp_M_chain_J47 (post : Int32 → ctN → ctF → Prop) (x1 : Int32) (x2 : Int32) (x3 : Int32) (s0 : Int32) (n : ctN) (f : ctF) : Prop := (¬ (n 5) = 40 → (wp_M_chain_J61 post x1 x2 x3 0 s0 n f)) ∧ ((n 5) = 40 → (wp_M_chain_J61 post x1 x2 x3 1 s0 n f))
def wp_M_chain_J34 (post : Int32 → ctN → ctF → Prop) (x1 : Int32) (x2 : Int32) (x3 : Int32) (s0 : Int32) (n : ctN) (f : ctF) : Prop := (¬ s0 = 0 → (wp_M_chain_J47 post x1 x2 x3 0 n f)) ∧ (s0 = 0 → (wp_M_chain_J47 post x1 x2 x3 1 n f))
def wp_M_chain_J33 (post : Int32 → ctN → ctF → Prop) (x1 : Int32) (x2 : Int32) (x3 : Int32) (n : ctN) (f : ctF) : Prop := wp_M_chain_J34 post x1 x2 x3 0 n f
def wp_M_chain (post : Int32 → ctN → ctF → Prop) (p1 : Int32) (p2 : Int32) (p3 : Int32) (n : ctN) (f : ctF) : Prop := wp_M_isGoal (fun (r1 : Int32) (n_2 : ctN) (f_3 : ctF) => (r1 = 0 → (wp_M_chain_J33 post p1 p2 p3 n_2 f_3)) ∧ (¬ r1 = 0 → (wp_M_isGoal (fun (r14 : Int32) (n_15 : ctN) (f_16 : ctF) => (r14 = 0 → (wp_M_chain_J33 post p1 p2 p3 n_15 f_16)) ∧ (¬ r14 = 0 → ((p1 = p2 → (wp_M_chain_J33 post p1 p2 p3 n_15 f_16)) ∧ (¬ p1 = p2 → (wp_M_in (fun (r19 : Int32) (n_20 : ctN) (f_21 : ctF) => (r19 = 0 → (wp_M_chain_J33 post p1 p2 p3 n_20 f_21)) ∧ (¬ r19 = 0 → (wp_M_chain_J34 post p1 p2 p3 1 n_20 f_21))) p3 0 20 n_15 f_16))))) p2 n_2 f_3))) p1 n f
set_option maxHeartbeats 4000000 in
set_option maxRecDepth 100000 in
theorem met_M_chain (l : Launch) (dC : Nat → ClassId) (dI : Nat → Nat → Nat) (a : Nat → Nat) (cA : Nat → ClassId) (sa : Nat → Nat) (p1 : Int32) (p2 : Int32) (p3 : Int32) (n : ctN) (f : ctF) (sz : Nat) {post : Int32 → ctN → ctF → Prop} (hw : wp_M_chain post p1 p2 p3 n f) : Met l yM_chain wsM_chain ({ frames := 2, cells := 0, slots := 0, locals := 42 } : Room) (ct_Pc dC dI a cA sa [.ref (a 18), .int p1, .int p2, .int p3] n f sz) (va_Qi (fun (r : Int32) (u : ctN × ctF) => post r u.1 u.2) (ct_B dC dI a cA) (va_A (ctW a cA n f) sz)) 0 0 (va_A (ctW a cA n f) sz) := by
  refine Met.ofW (cc := cM_chain) (maxL := 5) (ret := (some .int)) (by decide) rfl ?_
  intro p e s m args below meth c s₁ B hml hv
  obtain ⟨rfl, hsz, hP, hK, hD0, hZ⟩ := hv
  have hx := B.exec
  have hb := B.bytes
  have hr := B.returns
  have hts := atoms_spec (ws := wsM_chain) B.pre
  have hown : s.vm.findClass RM = some m.cls := findClass_of_methodNamed B.named
  have hlocks := B.notSynchronized
  subst hsz
  have hD := hD0.self (sz := s.heap.size)
  generalize hAe : va_A (ctW a cA n f) s.heap.size = A at hD hZ ⊢
  have hDa : ∀ (n : ctN) (f : ctF), va_D A (ctW a cA n f) := fun _ _ => ct_D hD
  have hA : ∀ q : Nat, s.heap.size ≤ q → A q := fun q h => by rw [← hAe]; exact Or.inr h
  have hS : va_S A s.heap s.heap [] := va_S.rf
  have hl := lv_entry ([.ref (a 18), .int p1, .int p2, .int p3]) (n := 5) (Nat.le_of_ble_eq_true rfl)
  rw [lg_entry_eq]
  generalize (lg_sl ([.ref (a 18), .int p1, .int p2, .int p3]) ++ List.replicate (5 - (lg_sl ([.ref (a 18), .int p1, .int p2, .int p3])).length) Slot.unset).toArray = ls at hl ⊢
  have hl : lv_has ls 5 [(0, .ref (a 18)), (1, .int p1), (2, .int p2), (3, .int p3)] := hl
  unfold wp_M_chain at hw
  have join_61 : ∀ (x1 x2 x3 s0 s1 : Int32) (n : ctN) (f : ctF) (H : Heap) (locs : List Loc) (ls : Array Slot), wp_M_chain_J61 post x1 x2 x3 s0 s1 n f → va_P (dC, dI) vcl (ctW a cA n f) H → va_S A s.heap H locs → lv_has ls 5 [(0, .ref (a 18)), (1, .int x1), (2, .int x2), (3, .int x3)] → W p l e (headSpec wsM_chain ({ frames := 2, cells := 0, slots := 0, locals := 42 } : Room)).room s m (([.ref (a 18), .int p1, .int p2, .int p3] : List Value).toArray) below meth c H locs 0 0 (MQ below (va_Qi (fun (r : Int32) (u : ctN × ctF) => post r u.1 u.2) (ct_B dC dI a cA) A) (([.ref (a 18), .int p1, .int p2, .int p3] : List Value).toArray) s 0 0 A) (F0 m 61 ls [.int s0, .int s1, .ref (a 18)]) := by
    intro x1 x2 x3 s0 s1 n f H locs ls hw hP hS hl
    unfold wp_M_chain_J61 at hw
    refine lv_iconst (v := 0) hx hb dM_chain_61 (by decide) ?_
    refine ct_i (va_runV (As := [.int s1, .int s0, .int 0]) (rest := []) ⟨hx, hb, hml, hown, hts⟩ (met_M_refuse l dC dI a cA sa s1 s0 0 n f _ hw) (cwV 3 hts (wb_V wt_521 wt_523 wt_14 wt_30 wt_524) rfl rfl rfl (by decide +kernel) ⟨Nat.le_of_ble_eq_true rfl, Nat.le_of_ble_eq_true rfl⟩) (ct_preV hK hP (hDa _ _) hZ hS hA (va_recv hK hP (ci := 3) (q0 := 18) rfl rfl)) rfl rfl hl.1 rfl (lv_room (Nat.le_of_ble_eq_true rfl)) dM_chain_62 ⟨Nat.le_of_ble_eq_true rfl, Nat.le_of_ble_eq_true rfl⟩) (hDa _ _) hS hA (fun r7 n_8 f_9 H locs hw hP hS => ?_)
    refine lv_if_eq (tgt := 70) hx hb dM_chain_65 (by decide) (fun c10 => ?_) (fun c10 => ?_)
    · have hw := hw.1 c10
      refine lv_aload_n hx hb dM_chain_70 rfl (lv_at hl 0 rfl) ?_
      refine lv_iload_n hx hb dM_chain_71 rfl (lv_at hl 1 rfl) ?_
      refine lv_iconst (v := (-1)) hx hb dM_chain_72 (by decide) ?_
      refine lv_iload_n hx hb dM_chain_73 rfl (lv_at hl 2 rfl) ?_
      refine lv_iconst (v := 0) hx hb dM_chain_74 (by decide) ?_
      refine lv_iload_n hx hb dM_chain_75 rfl (lv_at hl 3 rfl) ?_
      refine ct_i (va_runV (As := [.int x1, .int (-1), .int x2, .int 0, .int x3]) (rest := []) ⟨hx, hb, hml, hown, hts⟩ (met_M_add l dC dI a cA sa x1 (-1) x2 0 x3 n_8 f_9 _ hw) (cwV 5 hts (wb_V wt_532 wt_534 wt_15 wt_30 wt_535) rfl rfl rfl (by decide +kernel) ⟨Nat.le_of_ble_eq_true rfl, Nat.le_of_ble_eq_true rfl⟩) (ct_preV hK hP (hDa _ _) hZ hS hA (va_recv hK hP (ci := 3) (q0 := 18) rfl rfl)) rfl rfl hl.1 rfl (lv_room (Nat.le_of_ble_eq_true rfl)) dM_chain_76 ⟨Nat.le_of_ble_eq_true rfl, Nat.le_of_ble_eq_true rfl⟩) (hDa _ _) hS hA (fun r11 n_12 f_13 H locs hw hP hS => ?_)
      exact W.iret (v := r11) hx hb hr (fun t ht hW => ⟨⟨r11, (n_12, f_13), rfl, hw, ct_mkB ht hP⟩, hS.F ht⟩) hS.2.2 dM_chain_79
    · have hw := hw.2 c10
      refine lv_iconst (v := 0) hx hb dM_chain_68 (by decide) ?_
      exact W.iret (v := 0) hx hb hr (fun t ht hW => ⟨⟨0, (n_8, f_9), rfl, hw, ct_mkB ht hP⟩, hS.F ht⟩) hS.2.2 dM_chain_69
  have join_47 : ∀ (x1 x2 x3 s0 : Int32) (n : ctN) (f : ctF) (H : Heap) (locs : List Loc) (ls : Array Slot), wp_M_chain_J47 post x1 x2 x3 s0 n f → va_P (dC, dI) vcl (ctW a cA n f) H → va_S A s.heap H locs → lv_has ls 5 [(0, .ref (a 18)), (1, .int x1), (2, .int x2), (3, .int x3)] → W p l e (headSpec wsM_chain ({ frames := 2, cells := 0, slots := 0, locals := 42 } : Room)).room s m (([.ref (a 18), .int p1, .int p2, .int p3] : List Value).toArray) below meth c H locs 0 0 (MQ below (va_Qi (fun (r : Int32) (u : ctN × ctF) => post r u.1 u.2) (ct_B dC dI a cA) A) (([.ref (a 18), .int p1, .int p2, .int p3] : List Value).toArray) s 0 0 A) (F0 m 47 ls [.int s0, .ref (a 18)]) := by
    intro x1 x2 x3 s0 n f H locs ls hw hP hS hl
    unfold wp_M_chain_J47 at hw
    refine lv_aload_n hx hb dM_chain_47 rfl (lv_at hl 0 rfl) ?_
    refine va_get (D := (dC, dI)) (ci := 3) (v := .int (n 5)) (C := RM) (T := TM) (N := 19) hx hb hts (fun w h => List.mem_cons_of_mem _ (inM w h)) hown hK hP 18 rfl rfl 3 (by decide) (hts (.fieldLink RM 57 "CoverTreesModel" "rules" "I") (List.mem_cons_of_mem _ wt_447)) (fun _ h9 => h9) rfl dM_chain_48 ?_
    refine lv_bipush (v := 40) hx hb dM_chain_51 (by decide) ?_
    refine lv_icmp_ne (tgt := 60) hx hb dM_chain_53 (by decide) (fun c6 => ?_) (fun c6 => ?_)
    · have hw := hw.1 c6
      refine lv_iconst (v := 0) hx hb dM_chain_60 (by decide) ?_
      exact join_61 x1 x2 x3 0 s0 n f _ _ ls hw hP hS (lv_sub hl [0, 1, 2, 3] rfl)
    · have hw := hw.2 c6
      refine lv_iconst (v := 1) hx hb dM_chain_56 (by decide) ?_
      refine lv_goto (tgt := 61) hx hb dM_chain_57 (by decide) ?_
      exact join_61 x1 x2 x3 1 s0 n f _ _ ls hw hP hS (lv_sub hl [0, 1, 2, 3] rfl)
  have join_34 : ∀ (x1 x2 x3 s0 : Int32) (n : ctN) (f : ctF) (H : Heap) (locs : List Loc) (ls : Array Slot), wp_M_chain_J34 post x1 x2 x3 s0 n f → va_P (dC, dI) vcl (ctW a cA n f) H → va_S A s.heap H locs → lv_has ls 5 [(0, .ref (a 18)), (1, .int x1), (2, .int x2), (3, .int x3)] → W p l e (headSpec wsM_chain ({ frames := 2, cells := 0, slots := 0, locals := 42 } : Room)).room s m (([.ref (a 18), .int p1, .int p2, .int p3] : List Value).toArray) below meth c H locs 0 0 (MQ below (va_Qi (fun (r : Int32) (u : ctN × ctF) => post r u.1 u.2) (ct_B dC dI a cA) A) (([.ref (a 18), .int p1, .int p2, .int p3] : List Value).toArray) s 0 0 A) (F0 m 34 ls [.int s0]) := by
    intro x1 x2 x3 s0 n f H locs ls hw hP hS hl
    unfold wp_M_chain_J34 at hw
    refine lv_istore (lv' := [(4, .int s0), (0, .ref (a 18)), (1, .int x1), (2, .int x2), (3, .int x3)]) hx hb dM_chain_34 hl (by decide) rfl (fun ls hl => ?_)
    refine lv_aload_n hx hb dM_chain_36 rfl (lv_at hl 1 rfl) ?_
    refine lv_iload hx hb dM_chain_37 (lv_at hl 0 rfl) ?_
    refine lv_if_ne (tgt := 46) hx hb dM_chain_39 (by decide) (fun c5 => ?_) (fun c5 => ?_)
    · have hw := hw.1 c5
      refine lv_iconst (v := 0) hx hb dM_chain_46 (by decide) ?_
      exact join_47 x1 x2 x3 0 n f _ _ ls hw hP hS (lv_sub hl [1, 2, 3, 4] rfl)
    · have hw := hw.2 c5
      refine lv_iconst (v := 1) hx hb dM_chain_42 (by decide) ?_
      refine lv_goto (tgt := 47) hx hb dM_chain_43 (by decide) ?_
      exact join_47 x1 x2 x3 1 n f _ _ ls hw hP hS (lv_sub hl [1, 2, 3, 4] rfl)
  have join_33 : ∀ (x1 x2 x3 : Int32) (n : ctN) (f : ctF) (H : Heap) (locs : List Loc) (ls : Array Slot), wp_M_chain_J33 post x1 x2 x3 n f → va_P (dC, dI) vcl (ctW a cA n f) H → va_S A s.heap H locs → lv_has ls 5 [(0, .ref (a 18)), (1, .int x1), (2, .int x2), (3, .int x3)] → W p l e (headSpec wsM_chain ({ frames := 2, cells := 0, slots := 0, locals := 42 } : Room)).room s m (([.ref (a 18), .int p1, .int p2, .int p3] : List Value).toArray) below meth c H locs 0 0 (MQ below (va_Qi (fun (r : Int32) (u : ctN × ctF) => post r u.1 u.2) (ct_B dC dI a cA) A) (([.ref (a 18), .int p1, .int p2, .int p3] : List Value).toArray) s 0 0 A) (F0 m 33 ls []) := by
    intro x1 x2 x3 n f H locs ls hw hP hS hl
    unfold wp_M_chain_J33 at hw
    refine lv_iconst (v := 0) hx hb dM_chain_33 (by decide) ?_
    exact join_34 x1 x2 x3 0 n f _ _ ls hw hP hS (lv_sub hl [0, 1, 2, 3] rfl)
  refine lv_iload_n hx hb dM_chain_0 rfl (lv_at hl 1 rfl) ?_
  refine ct_i (va_runS (As := [.int p1]) (rest := []) ⟨hx, hb, hml, hown, hts⟩ (met_M_isGoal l dC dI a cA sa p1 n f _ hw) (cwS 1 hts (wb_S wt_529 wt_530 wt_30 wt_531) rfl rfl rfl (by decide +kernel) ⟨Nat.le_of_ble_eq_true rfl, Nat.le_of_ble_eq_true rfl⟩) (ct_pre hK hP (hDa _ _) hZ hS hA) rfl rfl hl.1 rfl (lv_room (Nat.le_of_ble_eq_true rfl)) dM_chain_1 ⟨Nat.le_of_ble_eq_true rfl, Nat.le_of_ble_eq_true rfl⟩) (hDa _ _) hS hA (fun r1 n_2 f_3 H locs hw hP hS => ?_)
  refine lv_if_eq (tgt := 33) hx hb dM_chain_4 (by decide) (fun c4 => ?_) (fun c4 => ?_)
  · have hw := hw.1 c4
    exact join_33 p1 p2 p3 n_2 f_3 _ _ ls hw hP hS (lv_sub hl [0, 1, 2, 3] rfl)
  · have hw := hw.2 c4
    refine lv_iload_n hx hb dM_chain_7 rfl (lv_at hl 2 rfl) ?_
    refine ct_i (va_runS (As := [.int p2]) (rest := []) ⟨hx, hb, hml, hown, hts⟩ (met_M_isGoal l dC dI a cA sa p2 n_2 f_3 _ hw) (cwS 1 hts (wb_S wt_529 wt_530 wt_30 wt_531) rfl rfl rfl (by decide +kernel) ⟨Nat.le_of_ble_eq_true rfl, Nat.le_of_ble_eq_true rfl⟩) (ct_pre hK hP (hDa _ _) hZ hS hA) rfl rfl hl.1 rfl (lv_room (Nat.le_of_ble_eq_true rfl)) dM_chain_8 ⟨Nat.le_of_ble_eq_true rfl, Nat.le_of_ble_eq_true rfl⟩) (hDa _ _) hS hA (fun r14 n_15 f_16 H locs hw hP hS => ?_)
    refine lv_if_eq (tgt := 33) hx hb dM_chain_11 (by decide) (fun c17 => ?_) (fun c17 => ?_)
    · have hw := hw.1 c17
      exact join_33 p1 p2 p3 n_15 f_16 _ _ ls hw hP hS (lv_sub hl [0, 1, 2, 3] rfl)
    · have hw := hw.2 c17
      refine lv_iload_n hx hb dM_chain_14 rfl (lv_at hl 1 rfl) ?_
      refine lv_iload_n hx hb dM_chain_15 rfl (lv_at hl 2 rfl) ?_
      refine lv_icmp_eq (tgt := 33) hx hb dM_chain_16 (by decide) (fun c18 => ?_) (fun c18 => ?_)
      · have hw := hw.1 c18
        exact join_33 p1 p2 p3 n_15 f_16 _ _ ls hw hP hS (lv_sub hl [0, 1, 2, 3] rfl)
      · have hw := hw.2 c18
        refine lv_iload_n hx hb dM_chain_19 rfl (lv_at hl 3 rfl) ?_
        refine lv_iconst (v := 0) hx hb dM_chain_20 (by decide) ?_
        refine lv_bipush (v := 20) hx hb dM_chain_21 (by decide) ?_
        refine ct_i (va_runS (As := [.int p3, .int 0, .int 20]) (rest := []) ⟨hx, hb, hml, hown, hts⟩ (met_M_in l dC dI a cA sa p3 0 20 n_15 f_16 _ hw) (cwS 3 hts (wb_S wt_518 wt_519 wt_30 wt_520) rfl rfl rfl (by decide +kernel) ⟨Nat.le_of_ble_eq_true rfl, Nat.le_of_ble_eq_true rfl⟩) (ct_pre hK hP (hDa _ _) hZ hS hA) rfl rfl hl.1 rfl (lv_room (Nat.le_of_ble_eq_true rfl)) dM_chain_23 ⟨Nat.le_of_ble_eq_true rfl, Nat.le_of_ble_eq_true rfl⟩) (hDa _ _) hS hA (fun r19 n_20 f_21 H locs hw hP hS => ?_)
        refine lv_if_eq (tgt := 33) hx hb dM_chain_26 (by decide) (fun c22 => ?_) (fun c22 => ?_)
        · have hw := hw.1 c22
          exact join_33 p1 p2 p3 n_20 f_21 _ _ ls hw hP hS (lv_sub hl [0, 1, 2, 3] rfl)
        · have hw := hw.2 c22
          refine lv_iconst (v := 1) hx hb dM_chain_29 (by decide) ?_
          refine lv_goto (tgt := 34) hx hb dM_chain_30 (by decide) ?_
          exact join_34 p1 p2 p3 1 n_20 f_21 _ _ ls hw hP hS (lv_sub hl [0, 1, 2, 3] rfl)
def wp_M_isNode (post : Int32 → ctN → ctF → Prop) (p1 : Int32) (n : ctN) (f : ctF) : Prop := wp_M_in (fun (r1 : Int32) (n_2 : ctN) (f_3 : ctF) => narrow .boolean (.int r1) = .int r1 ∧ (post r1 n_2 f_3)) p1 0 ((n 6) - 1) n f
set_option maxHeartbeats 4000000 in
set_option maxRecDepth 100000 in
theorem met_M_isNode (l : Launch) (dC : Nat → ClassId) (dI : Nat → Nat → Nat) (a : Nat → Nat) (cA : Nat → ClassId) (sa : Nat → Nat) (p1 : Int32) (n : ctN) (f : ctF) (sz : Nat) {post : Int32 → ctN → ctF → Prop} (hw : wp_M_isNode post p1 n f) : Met l yM_isNode wsM_isNode ({ frames := 1, cells := 0, slots := 0, locals := 22 } : Room) (ct_Pc dC dI a cA sa [.ref (a 18), .int p1] n f sz) (va_Qi (fun (r : Int32) (u : ctN × ctF) => post r u.1 u.2) (ct_B dC dI a cA) (va_A (ctW a cA n f) sz)) 0 0 (va_A (ctW a cA n f) sz) := by
  refine Met.ofW (cc := cM_isNode) (maxL := 2) (ret := (some .boolean)) (by decide) rfl ?_
  intro p e s m args below meth c s₁ B hml hv
  obtain ⟨rfl, hsz, hP, hK, hD0, hZ⟩ := hv
  have hx := B.exec
  have hb := B.bytes
  have hr := B.returns
  have hts := atoms_spec (ws := wsM_isNode) B.pre
  have hown : s.vm.findClass RM = some m.cls := findClass_of_methodNamed B.named
  have hlocks := B.notSynchronized
  subst hsz
  have hD := hD0.self (sz := s.heap.size)
  generalize hAe : va_A (ctW a cA n f) s.heap.size = A at hD hZ ⊢
  have hDa : ∀ (n : ctN) (f : ctF), va_D A (ctW a cA n f) := fun _ _ => ct_D hD
  have hA : ∀ q : Nat, s.heap.size ≤ q → A q := fun q h => by rw [← hAe]; exact Or.inr h
  have hS : va_S A s.heap s.heap [] := va_S.rf
  have hl := lv_entry ([.ref (a 18), .int p1]) (n := 2) (Nat.le_of_ble_eq_true rfl)
  rw [lg_entry_eq]
  generalize (lg_sl ([.ref (a 18), .int p1]) ++ List.replicate (2 - (lg_sl ([.ref (a 18), .int p1])).length) Slot.unset).toArray = ls at hl ⊢
  have hl : lv_has ls 2 [(0, .ref (a 18)), (1, .int p1)] := hl
  unfold wp_M_isNode at hw
  refine lv_iload_n hx hb dM_isNode_0 rfl (lv_at hl 1 rfl) ?_
  refine lv_iconst (v := 0) hx hb dM_isNode_1 (by decide) ?_
  refine lv_aload_n hx hb dM_isNode_2 rfl (lv_at hl 0 rfl) ?_
  refine va_get (D := (dC, dI)) (ci := 3) (v := .int (n 6)) (C := RM) (T := TM) (N := 19) hx hb hts (fun w h => List.mem_cons_of_mem _ (inM w h)) hown hK hP 18 rfl rfl 9 (by decide) (hts (.fieldLink RM 60 "CoverTreesModel" "nodes" "I") (List.mem_cons_of_mem _ wt_453)) (fun _ h9 => h9) rfl dM_isNode_3 ?_
  refine lv_iconst (v := 1) hx hb dM_isNode_6 (by decide) ?_
  refine lv_isub hx hb dM_isNode_7 ?_
  refine ct_i (va_runS (As := [.int p1, .int 0, .int ((n 6) - 1)]) (rest := []) ⟨hx, hb, hml, hown, hts⟩ (met_M_in l dC dI a cA sa p1 0 ((n 6) - 1) n f _ hw) (cwS 3 hts (wb_S wt_518 wt_519 wt_30 wt_520) rfl rfl rfl (by decide +kernel) ⟨Nat.le_of_ble_eq_true rfl, Nat.le_of_ble_eq_true rfl⟩) (ct_pre hK hP (hDa _ _) hZ hS hA) rfl rfl hl.1 rfl (lv_room (Nat.le_of_ble_eq_true rfl)) dM_isNode_8 ⟨Nat.le_of_ble_eq_true rfl, Nat.le_of_ble_eq_true rfl⟩) (hDa _ _) hS hA (fun r1 n_2 f_3 H locs hw hP hS => ?_)
  obtain ⟨hz, hw⟩ := hw
  exact W.zret (v := r1) hx hb hr hz (fun t ht hW => ⟨⟨r1, (n_2, f_3), rfl, hw, ct_mkB ht hP⟩, hS.F ht⟩) hS.2.2 dM_isNode_11
def wp_M_costBy_J118 (post : Int32 → ctN → ctF → Prop) (x1 : Int32) (x2 : Int32) (x3 : Int32) (n : ctN) (f : ctF) : Prop := vp_in x2 40 ∧ (vp_in (f 22 x2.toNatClampNeg) 10 ∧ (((f 19 (f 22 x2.toNatClampNeg).toNatClampNeg) ≤ 1 → (post x3 n f)) ∧ (¬ (f 19 (f 22 x2.toNatClampNeg).toNatClampNeg) ≤ 1 → ((x3 < 0 → (post x3 n f)) ∧ (¬ x3 < 0 → (vp_in x1 120 ∧ (vp_in x2 40 ∧ (vp_in ((8 * (f 27 x1.toNatClampNeg)) + (f 24 x2.toNatClampNeg)) 960 ∧ (∀ x4_18 : Int32, x4_18 = (f 28 ((8 * (f 27 x1.toNatClampNeg)) + (f 24 x2.toNatClampNeg)).toNatClampNeg) → ((0 ≤ x4_18 → (∀ x3_20 : Int32, x3_20 = (x3 + x4_18) → (post x3_20 n f))) ∧ (¬ 0 ≤ x4_18 → (post (-1) n f))))))))))))
def wp_M_costBy_J117 (post : Int32 → ctN → ctF → Prop) (x1 : Int32) (x2 : Int32) (s0 : Int32) (n : ctN) (f : ctF) : Prop := wp_M_costBy_J118 post x1 x2 s0 n f
def wp_M_costBy (post : Int32 → ctN → ctF → Prop) (p1 : Int32) (p2 : Int32) (n : ctN) (f : ctF) : Prop := vp_in p2 40 ∧ ((0 ≤ (f 22 p2.toNatClampNeg) → (vp_in p2 40 ∧ (vp_in p1 120 ∧ (((f 22 p2.toNatClampNeg) = (f 25 p1.toNatClampNeg) → (vp_in p2 40 ∧ (∀ x3_7 : Int32, x3_7 = (f 21 p2.toNatClampNeg) → (vp_in p2 40 ∧ (vp_in (f 22 p2.toNatClampNeg) 10 ∧ (((f 19 (f 22 p2.toNatClampNeg).toNatClampNeg) ≤ 0 → (wp_M_costBy_J118 post p1 p2 x3_7 n f)) ∧ (¬ (f 19 (f 22 p2.toNatClampNeg).toNatClampNeg) ≤ 0 → (vp_in p1 120 ∧ (vp_in p2 40 ∧ (vp_in ((8 * (f 26 p1.toNatClampNeg)) + (f 23 p2.toNatClampNeg)) 960 ∧ (∀ x4_24 : Int32, x4_24 = (f 28 ((8 * (f 26 p1.toNatClampNeg)) + (f 23 p2.toNatClampNeg)).toNatClampNeg) → ((0 ≤ x4_24 → (wp_M_costBy_J117 post p1 p2 (x3_7 + x4_24) n f)) ∧ (¬ 0 ≤ x4_24 → (wp_M_costBy_J117 post p1 p2 (-1) n f)))))))))))))) ∧ (¬ (f 22 p2.toNatClampNeg) = (f 25 p1.toNatClampNeg) → (post (-1) n f)))))) ∧ (¬ 0 ≤ (f 22 p2.toNatClampNeg) → (vp_in p2 40 ∧ (vp_in ((8 * p1) + (f 23 p2.toNatClampNeg)) 960 ∧ (∀ x3_28 : Int32, x3_28 = (f 28 ((8 * p1) + (f 23 p2.toNatClampNeg)).toNatClampNeg) → ((0 ≤ x3_28 → (vp_in p2 40 ∧ (post (x3_28 + (f 21 p2.toNatClampNeg)) n f))) ∧ (¬ 0 ≤ x3_28 → (post (-1) n f))))))))
set_option maxHeartbeats 4000000 in
set_option maxRecDepth 100000 in
theorem met_M_costBy (l : Launch) (dC : Nat → ClassId) (dI : Nat → Nat → Nat) (a : Nat → Nat) (cA : Nat → ClassId) (sa : Nat → Nat) (p1 : Int32) (p2 : Int32) (n : ctN) (f : ctF) (sz : Nat) {post : Int32 → ctN → ctF → Prop} (hw : wp_M_costBy post p1 p2 n f) : Met l yM_costBy wsM_costBy ({ frames := 0, cells := 0, slots := 0, locals := 0 } : Room) (ct_Pc dC dI a cA sa [.ref (a 18), .int p1, .int p2] n f sz) (va_Qi (fun (r : Int32) (u : ctN × ctF) => post r u.1 u.2) (ct_B dC dI a cA) (va_A (ctW a cA n f) sz)) 0 0 (va_A (ctW a cA n f) sz) := by
  refine Met.ofW (cc := cM_costBy) (maxL := 5) (ret := (some .int)) (by decide) rfl ?_
  intro p e s m args below meth c s₁ B hml hv
  obtain ⟨rfl, hsz, hP, hK, hD0, hZ⟩ := hv
  have hx := B.exec
  have hb := B.bytes
  have hr := B.returns
  have hts := atoms_spec (ws := wsM_costBy) B.pre
  have hown : s.vm.findClass RM = some m.cls := findClass_of_methodNamed B.named
  have hlocks := B.notSynchronized
  subst hsz
  have hD := hD0.self (sz := s.heap.size)
  generalize hAe : va_A (ctW a cA n f) s.heap.size = A at hD hZ ⊢
  have hDa : ∀ (n : ctN) (f : ctF), va_D A (ctW a cA n f) := fun _ _ => ct_D hD
  have hA : ∀ q : Nat, s.heap.size ≤ q → A q := fun q h => by rw [← hAe]; exact Or.inr h
  have hS : va_S A s.heap s.heap [] := va_S.rf
  have hl := lv_entry ([.ref (a 18), .int p1, .int p2]) (n := 5) (Nat.le_of_ble_eq_true rfl)
  rw [lg_entry_eq]
  generalize (lg_sl ([.ref (a 18), .int p1, .int p2]) ++ List.replicate (5 - (lg_sl ([.ref (a 18), .int p1, .int p2])).length) Slot.unset).toArray = ls at hl ⊢
  have hl : lv_has ls 5 [(0, .ref (a 18)), (1, .int p1), (2, .int p2)] := hl
  unfold wp_M_costBy at hw
  have join_118 : ∀ (x1 x2 x3 : Int32) (n : ctN) (f : ctF) (H : Heap) (locs : List Loc) (ls : Array Slot), wp_M_costBy_J118 post x1 x2 x3 n f → va_P (dC, dI) vcl (ctW a cA n f) H → va_S A s.heap H locs → lv_has ls 5 [(0, .ref (a 18)), (1, .int x1), (2, .int x2), (3, .int x3)] → W p l e (headSpec wsM_costBy ({ frames := 0, cells := 0, slots := 0, locals := 0 } : Room)).room s m (([.ref (a 18), .int p1, .int p2] : List Value).toArray) below meth c H locs 0 0 (MQ below (va_Qi (fun (r : Int32) (u : ctN × ctF) => post r u.1 u.2) (ct_B dC dI a cA) A) (([.ref (a 18), .int p1, .int p2] : List Value).toArray) s 0 0 A) (F0 m 118 ls []) := by
    intro x1 x2 x3 n f H locs ls hw hP hS hl
    unfold wp_M_costBy_J118 at hw
    refine lv_aload_n hx hb dM_costBy_118 rfl (lv_at hl 0 rfl) ?_
    refine va_get (D := (dC, dI)) (ci := 3) (v := .ref (a 19)) (C := RM) (T := TM) (N := 19) hx hb hts (fun w h => List.mem_cons_of_mem _ (inM w h)) hown hK hP 18 rfl rfl 2 (by decide) (hts (.fieldLink RM 7 "CoverTreesModel" "parts" "[I") (List.mem_cons_of_mem _ wt_446)) (fun _ h9 => h9) rfl dM_costBy_119 ?_
    refine lv_aload_n hx hb dM_costBy_122 rfl (lv_at hl 0 rfl) ?_
    refine va_get (D := (dC, dI)) (ci := 3) (v := .ref (a 22)) (C := RM) (T := TM) (N := 19) hx hb hts (fun w h => List.mem_cons_of_mem _ (inM w h)) hown hK hP 18 rfl rfl 6 (by decide) (hts (.fieldLink RM 19 "CoverTreesModel" "of" "[I") (List.mem_cons_of_mem _ wt_450)) (fun _ h9 => h9) rfl dM_costBy_123 ?_
    refine lv_iload_n hx hb dM_costBy_126 rfl (lv_at hl 2 rfl) ?_
    obtain ⟨hi11, hw⟩ := hw
    refine va_iald hx hb hK hP 22 18 rfl rfl hi11 dM_costBy_127 ?_
    obtain ⟨hi12, hw⟩ := hw
    refine va_iald hx hb hK hP 19 15 rfl rfl hi12 dM_costBy_128 ?_
    refine lv_iconst (v := 1) hx hb dM_costBy_129 (by decide) ?_
    refine lv_icmp_le (tgt := 174) hx hb dM_costBy_130 (by decide) (fun c13 => ?_) (fun c13 => ?_)
    · have hw := hw.1 c13
      refine lv_iload_n hx hb dM_costBy_174 rfl (lv_at hl 3 rfl) ?_
      exact W.iret (v := x3) hx hb hr (fun t ht hW => ⟨⟨x3, (n, f), rfl, hw, ct_mkB ht hP⟩, hS.F ht⟩) hS.2.2 dM_costBy_175
    · have hw := hw.2 c13
      refine lv_iload_n hx hb dM_costBy_133 rfl (lv_at hl 3 rfl) ?_
      refine lv_if_lt (tgt := 174) hx hb dM_costBy_134 (by decide) (fun c14 => ?_) (fun c14 => ?_)
      · have hw := hw.1 c14
        refine lv_iload_n hx hb dM_costBy_174 rfl (lv_at hl 3 rfl) ?_
        exact W.iret (v := x3) hx hb hr (fun t ht hW => ⟨⟨x3, (n, f), rfl, hw, ct_mkB ht hP⟩, hS.F ht⟩) hS.2.2 dM_costBy_175
      · have hw := hw.2 c14
        refine lv_aload_n hx hb dM_costBy_137 rfl (lv_at hl 0 rfl) ?_
        refine va_get (D := (dC, dI)) (ci := 3) (v := .ref (a 28)) (C := RM) (T := TM) (N := 19) hx hb hts (fun w h => List.mem_cons_of_mem _ (inM w h)) hown hK hP 18 rfl rfl 13 (by decide) (hts (.fieldLink RM 37 "CoverTreesModel" "costs" "[I") (List.mem_cons_of_mem _ wt_457)) (fun _ h9 => h9) rfl dM_costBy_138 ?_
        refine lv_bipush (v := 8) hx hb dM_costBy_141 (by decide) ?_
        refine lv_aload_n hx hb dM_costBy_143 rfl (lv_at hl 0 rfl) ?_
        refine va_get (D := (dC, dI)) (ci := 3) (v := .ref (a 27)) (C := RM) (T := TM) (N := 19) hx hb hts (fun w h => List.mem_cons_of_mem _ (inM w h)) hown hK hP 18 rfl rfl 12 (by decide) (hts (.fieldLink RM 34 "CoverTreesModel" "two" "[I") (List.mem_cons_of_mem _ wt_456)) (fun _ h9 => h9) rfl dM_costBy_144 ?_
        refine lv_iload_n hx hb dM_costBy_147 rfl (lv_at hl 1 rfl) ?_
        obtain ⟨hi15, hw⟩ := hw
        refine va_iald hx hb hK hP 27 23 rfl rfl hi15 dM_costBy_148 ?_
        refine lv_imul hx hb dM_costBy_149 ?_
        refine lv_aload_n hx hb dM_costBy_150 rfl (lv_at hl 0 rfl) ?_
        refine va_get (D := (dC, dI)) (ci := 3) (v := .ref (a 24)) (C := RM) (T := TM) (N := 19) hx hb hts (fun w h => List.mem_cons_of_mem _ (inM w h)) hown hK hP 18 rfl rfl 8 (by decide) (hts (.fieldLink RM 25 "CoverTreesModel" "second" "[I") (List.mem_cons_of_mem _ wt_452)) (fun _ h9 => h9) rfl dM_costBy_151 ?_
        refine lv_iload_n hx hb dM_costBy_154 rfl (lv_at hl 2 rfl) ?_
        obtain ⟨hi16, hw⟩ := hw
        refine va_iald hx hb hK hP 24 20 rfl rfl hi16 dM_costBy_155 ?_
        refine lv_iadd hx hb dM_costBy_156 ?_
        obtain ⟨hi17, hw⟩ := hw
        refine va_iald hx hb hK hP 28 24 rfl rfl hi17 dM_costBy_157 ?_
        refine lv_topi (fun x4_18 ex4_18 => ?_)
        have hw := hw x4_18 ex4_18
        refine lv_istore (lv' := [(4, .int x4_18), (0, .ref (a 18)), (1, .int x1), (2, .int x2), (3, .int x3)]) hx hb dM_costBy_158 hl (by decide) rfl (fun ls hl => ?_)
        refine lv_iload hx hb dM_costBy_160 (lv_at hl 0 rfl) ?_
        refine lv_if_ge (tgt := 169) hx hb dM_costBy_162 (by decide) (fun c19 => ?_) (fun c19 => ?_)
        · have hw := hw.1 c19
          refine lv_iload_n hx hb dM_costBy_169 rfl (lv_at hl 4 rfl) ?_
          refine lv_iload hx hb dM_costBy_170 (lv_at hl 0 rfl) ?_
          refine lv_iadd hx hb dM_costBy_172 ?_
          refine lv_topi (fun x3_20 ex3_20 => ?_)
          have hw := hw x3_20 ex3_20
          refine lv_istore_n (lv' := [(3, .int x3_20), (4, .int x4_18), (0, .ref (a 18)), (1, .int x1), (2, .int x2)]) hx hb dM_costBy_173 rfl hl (by decide) rfl (fun ls hl => ?_)
          refine lv_iload_n hx hb dM_costBy_174 rfl (lv_at hl 0 rfl) ?_
          exact W.iret (v := x3_20) hx hb hr (fun t ht hW => ⟨⟨x3_20, (n, f), rfl, hw, ct_mkB ht hP⟩, hS.F ht⟩) hS.2.2 dM_costBy_175
        · have hw := hw.2 c19
          refine lv_iconst (v := (-1)) hx hb dM_costBy_165 (by decide) ?_
          refine lv_goto (tgt := 173) hx hb dM_costBy_166 (by decide) ?_
          refine lv_istore_n (lv' := [(3, .int (-1)), (4, .int x4_18), (0, .ref (a 18)), (1, .int x1), (2, .int x2)]) hx hb dM_costBy_173 rfl hl (by decide) rfl (fun ls hl => ?_)
          refine lv_iload_n hx hb dM_costBy_174 rfl (lv_at hl 0 rfl) ?_
          exact W.iret (v := (-1)) hx hb hr (fun t ht hW => ⟨⟨(-1), (n, f), rfl, hw, ct_mkB ht hP⟩, hS.F ht⟩) hS.2.2 dM_costBy_175
  have join_117 : ∀ (x1 x2 s0 : Int32) (n : ctN) (f : ctF) (H : Heap) (locs : List Loc) (ls : Array Slot), wp_M_costBy_J117 post x1 x2 s0 n f → va_P (dC, dI) vcl (ctW a cA n f) H → va_S A s.heap H locs → lv_has ls 5 [(0, .ref (a 18)), (1, .int x1), (2, .int x2)] → W p l e (headSpec wsM_costBy ({ frames := 0, cells := 0, slots := 0, locals := 0 } : Room)).room s m (([.ref (a 18), .int p1, .int p2] : List Value).toArray) below meth c H locs 0 0 (MQ below (va_Qi (fun (r : Int32) (u : ctN × ctF) => post r u.1 u.2) (ct_B dC dI a cA) A) (([.ref (a 18), .int p1, .int p2] : List Value).toArray) s 0 0 A) (F0 m 117 ls [.int s0]) := by
    intro x1 x2 s0 n f H locs ls hw hP hS hl
    unfold wp_M_costBy_J117 at hw
    refine lv_istore_n (lv' := [(3, .int s0), (0, .ref (a 18)), (1, .int x1), (2, .int x2)]) hx hb dM_costBy_117 rfl hl (by decide) rfl (fun ls hl => ?_)
    exact join_118 x1 x2 s0 n f _ _ ls hw hP hS (lv_sub hl [1, 2, 3, 0] rfl)
  refine lv_aload_n hx hb dM_costBy_0 rfl (lv_at hl 0 rfl) ?_
  refine va_get (D := (dC, dI)) (ci := 3) (v := .ref (a 22)) (C := RM) (T := TM) (N := 19) hx hb hts (fun w h => List.mem_cons_of_mem _ (inM w h)) hown hK hP 18 rfl rfl 6 (by decide) (hts (.fieldLink RM 19 "CoverTreesModel" "of" "[I") (List.mem_cons_of_mem _ wt_450)) (fun _ h9 => h9) rfl dM_costBy_1 ?_
  refine lv_iload_n hx hb dM_costBy_4 rfl (lv_at hl 2 rfl) ?_
  obtain ⟨hi1, hw⟩ := hw
  refine va_iald hx hb hK hP 22 18 rfl rfl hi1 dM_costBy_5 ?_
  refine lv_if_ge (tgt := 43) hx hb dM_costBy_6 (by decide) (fun c2 => ?_) (fun c2 => ?_)
  · have hw := hw.1 c2
    refine lv_aload_n hx hb dM_costBy_43 rfl (lv_at hl 0 rfl) ?_
    refine va_get (D := (dC, dI)) (ci := 3) (v := .ref (a 22)) (C := RM) (T := TM) (N := 19) hx hb hts (fun w h => List.mem_cons_of_mem _ (inM w h)) hown hK hP 18 rfl rfl 6 (by decide) (hts (.fieldLink RM 19 "CoverTreesModel" "of" "[I") (List.mem_cons_of_mem _ wt_450)) (fun _ h9 => h9) rfl dM_costBy_44 ?_
    refine lv_iload_n hx hb dM_costBy_47 rfl (lv_at hl 2 rfl) ?_
    obtain ⟨hi3, hw⟩ := hw
    refine va_iald hx hb hK hP 22 18 rfl rfl hi3 dM_costBy_48 ?_
    refine lv_aload_n hx hb dM_costBy_49 rfl (lv_at hl 0 rfl) ?_
    refine va_get (D := (dC, dI)) (ci := 3) (v := .ref (a 25)) (C := RM) (T := TM) (N := 19) hx hb hts (fun w h => List.mem_cons_of_mem _ (inM w h)) hown hK hP 18 rfl rfl 10 (by decide) (hts (.fieldLink RM 28 "CoverTreesModel" "kinds" "[I") (List.mem_cons_of_mem _ wt_454)) (fun _ h9 => h9) rfl dM_costBy_50 ?_
    refine lv_iload_n hx hb dM_costBy_53 rfl (lv_at hl 1 rfl) ?_
    obtain ⟨hi4, hw⟩ := hw
    refine va_iald hx hb hK hP 25 21 rfl rfl hi4 dM_costBy_54 ?_
    refine lv_icmp_eq (tgt := 60) hx hb dM_costBy_55 (by decide) (fun c5 => ?_) (fun c5 => ?_)
    · have hw := hw.1 c5
      refine lv_aload_n hx hb dM_costBy_60 rfl (lv_at hl 0 rfl) ?_
      refine va_get (D := (dC, dI)) (ci := 3) (v := .ref (a 21)) (C := RM) (T := TM) (N := 19) hx hb hts (fun w h => List.mem_cons_of_mem _ (inM w h)) hown hK hP 18 rfl rfl 5 (by decide) (hts (.fieldLink RM 16 "CoverTreesModel" "prices" "[I") (List.mem_cons_of_mem _ wt_449)) (fun _ h9 => h9) rfl dM_costBy_61 ?_
      refine lv_iload_n hx hb dM_costBy_64 rfl (lv_at hl 2 rfl) ?_
      obtain ⟨hi6, hw⟩ := hw
      refine va_iald hx hb hK hP 21 17 rfl rfl hi6 dM_costBy_65 ?_
      refine lv_topi (fun x3_7 ex3_7 => ?_)
      have hw := hw x3_7 ex3_7
      refine lv_istore_n (lv' := [(3, .int x3_7), (0, .ref (a 18)), (1, .int p1), (2, .int p2)]) hx hb dM_costBy_66 rfl hl (by decide) rfl (fun ls hl => ?_)
      refine lv_aload_n hx hb dM_costBy_67 rfl (lv_at hl 1 rfl) ?_
      refine va_get (D := (dC, dI)) (ci := 3) (v := .ref (a 19)) (C := RM) (T := TM) (N := 19) hx hb hts (fun w h => List.mem_cons_of_mem _ (inM w h)) hown hK hP 18 rfl rfl 2 (by decide) (hts (.fieldLink RM 7 "CoverTreesModel" "parts" "[I") (List.mem_cons_of_mem _ wt_446)) (fun _ h9 => h9) rfl dM_costBy_68 ?_
      refine lv_aload_n hx hb dM_costBy_71 rfl (lv_at hl 1 rfl) ?_
      refine va_get (D := (dC, dI)) (ci := 3) (v := .ref (a 22)) (C := RM) (T := TM) (N := 19) hx hb hts (fun w h => List.mem_cons_of_mem _ (inM w h)) hown hK hP 18 rfl rfl 6 (by decide) (hts (.fieldLink RM 19 "CoverTreesModel" "of" "[I") (List.mem_cons_of_mem _ wt_450)) (fun _ h9 => h9) rfl dM_costBy_72 ?_
      refine lv_iload_n hx hb dM_costBy_75 rfl (lv_at hl 3 rfl) ?_
      obtain ⟨hi8, hw⟩ := hw
      refine va_iald hx hb hK hP 22 18 rfl rfl hi8 dM_costBy_76 ?_
      obtain ⟨hi9, hw⟩ := hw
      refine va_iald hx hb hK hP 19 15 rfl rfl hi9 dM_costBy_77 ?_
      refine lv_if_le (tgt := 118) hx hb dM_costBy_78 (by decide) (fun c10 => ?_) (fun c10 => ?_)
      · have hw := hw.1 c10
        exact join_118 p1 p2 x3_7 n f _ _ ls hw hP hS (lv_sub hl [1, 2, 3, 0] rfl)
      · have hw := hw.2 c10
        refine lv_aload_n hx hb dM_costBy_81 rfl (lv_at hl 1 rfl) ?_
        refine va_get (D := (dC, dI)) (ci := 3) (v := .ref (a 28)) (C := RM) (T := TM) (N := 19) hx hb hts (fun w h => List.mem_cons_of_mem _ (inM w h)) hown hK hP 18 rfl rfl 13 (by decide) (hts (.fieldLink RM 37 "CoverTreesModel" "costs" "[I") (List.mem_cons_of_mem _ wt_457)) (fun _ h9 => h9) rfl dM_costBy_82 ?_
        refine lv_bipush (v := 8) hx hb dM_costBy_85 (by decide) ?_
        refine lv_aload_n hx hb dM_costBy_87 rfl (lv_at hl 1 rfl) ?_
        refine va_get (D := (dC, dI)) (ci := 3) (v := .ref (a 26)) (C := RM) (T := TM) (N := 19) hx hb hts (fun w h => List.mem_cons_of_mem _ (inM w h)) hown hK hP 18 rfl rfl 11 (by decide) (hts (.fieldLink RM 31 "CoverTreesModel" "one" "[I") (List.mem_cons_of_mem _ wt_455)) (fun _ h9 => h9) rfl dM_costBy_88 ?_
        refine lv_iload_n hx hb dM_costBy_91 rfl (lv_at hl 2 rfl) ?_
        obtain ⟨hi21, hw⟩ := hw
        refine va_iald hx hb hK hP 26 22 rfl rfl hi21 dM_costBy_92 ?_
        refine lv_imul hx hb dM_costBy_93 ?_
        refine lv_aload_n hx hb dM_costBy_94 rfl (lv_at hl 1 rfl) ?_
        refine va_get (D := (dC, dI)) (ci := 3) (v := .ref (a 23)) (C := RM) (T := TM) (N := 19) hx hb hts (fun w h => List.mem_cons_of_mem _ (inM w h)) hown hK hP 18 rfl rfl 7 (by decide) (hts (.fieldLink RM 22 "CoverTreesModel" "first" "[I") (List.mem_cons_of_mem _ wt_451)) (fun _ h9 => h9) rfl dM_costBy_95 ?_
        refine lv_iload_n hx hb dM_costBy_98 rfl (lv_at hl 3 rfl) ?_
        obtain ⟨hi22, hw⟩ := hw
        refine va_iald hx hb hK hP 23 19 rfl rfl hi22 dM_costBy_99 ?_
        refine lv_iadd hx hb dM_costBy_100 ?_
        obtain ⟨hi23, hw⟩ := hw
        refine va_iald hx hb hK hP 28 24 rfl rfl hi23 dM_costBy_101 ?_
        refine lv_topi (fun x4_24 ex4_24 => ?_)
        have hw := hw x4_24 ex4_24
        refine lv_istore (lv' := [(4, .int x4_24), (3, .int x3_7), (0, .ref (a 18)), (1, .int p1), (2, .int p2)]) hx hb dM_costBy_102 hl (by decide) rfl (fun ls hl => ?_)
        refine lv_iload hx hb dM_costBy_104 (lv_at hl 0 rfl) ?_
        refine lv_if_ge (tgt := 113) hx hb dM_costBy_106 (by decide) (fun c25 => ?_) (fun c25 => ?_)
        · have hw := hw.1 c25
          refine lv_iload_n hx hb dM_costBy_113 rfl (lv_at hl 1 rfl) ?_
          refine lv_iload hx hb dM_costBy_114 (lv_at hl 0 rfl) ?_
          refine lv_iadd hx hb dM_costBy_116 ?_
          exact join_117 p1 p2 (x3_7 + x4_24) n f _ _ ls hw hP hS (lv_sub hl [2, 3, 4] rfl)
        · have hw := hw.2 c25
          refine lv_iconst (v := (-1)) hx hb dM_costBy_109 (by decide) ?_
          refine lv_goto (tgt := 117) hx hb dM_costBy_110 (by decide) ?_
          exact join_117 p1 p2 (-1) n f _ _ ls hw hP hS (lv_sub hl [2, 3, 4] rfl)
    · have hw := hw.2 c5
      refine lv_iconst (v := (-1)) hx hb dM_costBy_58 (by decide) ?_
      exact W.iret (v := (-1)) hx hb hr (fun t ht hW => ⟨⟨(-1), (n, f), rfl, hw, ct_mkB ht hP⟩, hS.F ht⟩) hS.2.2 dM_costBy_59
  · have hw := hw.2 c2
    refine lv_aload_n hx hb dM_costBy_9 rfl (lv_at hl 0 rfl) ?_
    refine va_get (D := (dC, dI)) (ci := 3) (v := .ref (a 28)) (C := RM) (T := TM) (N := 19) hx hb hts (fun w h => List.mem_cons_of_mem _ (inM w h)) hown hK hP 18 rfl rfl 13 (by decide) (hts (.fieldLink RM 37 "CoverTreesModel" "costs" "[I") (List.mem_cons_of_mem _ wt_457)) (fun _ h9 => h9) rfl dM_costBy_10 ?_
    refine lv_bipush (v := 8) hx hb dM_costBy_13 (by decide) ?_
    refine lv_iload_n hx hb dM_costBy_15 rfl (lv_at hl 1 rfl) ?_
    refine lv_imul hx hb dM_costBy_16 ?_
    refine lv_aload_n hx hb dM_costBy_17 rfl (lv_at hl 0 rfl) ?_
    refine va_get (D := (dC, dI)) (ci := 3) (v := .ref (a 23)) (C := RM) (T := TM) (N := 19) hx hb hts (fun w h => List.mem_cons_of_mem _ (inM w h)) hown hK hP 18 rfl rfl 7 (by decide) (hts (.fieldLink RM 22 "CoverTreesModel" "first" "[I") (List.mem_cons_of_mem _ wt_451)) (fun _ h9 => h9) rfl dM_costBy_18 ?_
    refine lv_iload_n hx hb dM_costBy_21 rfl (lv_at hl 2 rfl) ?_
    obtain ⟨hi26, hw⟩ := hw
    refine va_iald hx hb hK hP 23 19 rfl rfl hi26 dM_costBy_22 ?_
    refine lv_iadd hx hb dM_costBy_23 ?_
    obtain ⟨hi27, hw⟩ := hw
    refine va_iald hx hb hK hP 28 24 rfl rfl hi27 dM_costBy_24 ?_
    refine lv_topi (fun x3_28 ex3_28 => ?_)
    have hw := hw x3_28 ex3_28
    refine lv_istore_n (lv' := [(3, .int x3_28), (0, .ref (a 18)), (1, .int p1), (2, .int p2)]) hx hb dM_costBy_25 rfl hl (by decide) rfl (fun ls hl => ?_)
    refine lv_iload_n hx hb dM_costBy_26 rfl (lv_at hl 0 rfl) ?_
    refine lv_if_ge (tgt := 34) hx hb dM_costBy_27 (by decide) (fun c29 => ?_) (fun c29 => ?_)
    · have hw := hw.1 c29
      refine lv_iload_n hx hb dM_costBy_34 rfl (lv_at hl 0 rfl) ?_
      refine lv_aload_n hx hb dM_costBy_35 rfl (lv_at hl 1 rfl) ?_
      refine va_get (D := (dC, dI)) (ci := 3) (v := .ref (a 21)) (C := RM) (T := TM) (N := 19) hx hb hts (fun w h => List.mem_cons_of_mem _ (inM w h)) hown hK hP 18 rfl rfl 5 (by decide) (hts (.fieldLink RM 16 "CoverTreesModel" "prices" "[I") (List.mem_cons_of_mem _ wt_449)) (fun _ h9 => h9) rfl dM_costBy_36 ?_
      refine lv_iload_n hx hb dM_costBy_39 rfl (lv_at hl 3 rfl) ?_
      obtain ⟨hi30, hw⟩ := hw
      refine va_iald hx hb hK hP 21 17 rfl rfl hi30 dM_costBy_40 ?_
      refine lv_iadd hx hb dM_costBy_41 ?_
      exact W.iret (v := (x3_28 + (f 21 p2.toNatClampNeg))) hx hb hr (fun t ht hW => ⟨⟨(x3_28 + (f 21 p2.toNatClampNeg)), (n, f), rfl, hw, ct_mkB ht hP⟩, hS.F ht⟩) hS.2.2 dM_costBy_42
    · have hw := hw.2 c29
      refine lv_iconst (v := (-1)) hx hb dM_costBy_30 (by decide) ?_
      refine lv_goto (tgt := 42) hx hb dM_costBy_31 (by decide) ?_
      exact W.iret (v := (-1)) hx hb hr (fun t ht hW => ⟨⟨(-1), (n, f), rfl, hw, ct_mkB ht hP⟩, hS.F ht⟩) hS.2.2 dM_costBy_42
