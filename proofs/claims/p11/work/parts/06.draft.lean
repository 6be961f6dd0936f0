def wp_F_draftIsTooDear_L2 (post : Int32 → ctN → ctF → Prop) : Nat → Int32 → ctN → ctF → Prop
  | 0, _, _, _ => False
  | k + 1, x1, n, f => (8 ≤ x1 → (post 0 n f)) ∧ (¬ 8 ≤ x1 → (wp_C_place (fun (r2 : Int32) (n_3 : ctN) (f_4 : ctF) => vp_in r2 960 ∧ (((f_4 14 r2.toNatClampNeg) ≤ 1000000 → (∀ x1_7 : Int32, x1_7 = x1 + 1 → (wp_F_draftIsTooDear_L2 post k x1_7 n_3 f_4))) ∧ (¬ (f_4 14 r2.toNatClampNeg) ≤ 1000000 → (post 1 n_3 f_4)))) (n 2) x1 n f))
def wp_F_draftIsTooDear (post : Int32 → ctN → ctF → Prop) (n : ctN) (f : ctF) : Prop := ∃ j, wp_F_draftIsTooDear_L2 post j 0 n f
set_option maxHeartbeats 4000000 in
set_option maxRecDepth 100000 in
theorem met_F_draftIsTooDear (l : Launch) (dC : Nat → ClassId) (dI : Nat → Nat → Nat) (a : Nat → Nat) (cA : Nat → ClassId) (sa : Nat → Nat) (n : ctN) (f : ctF) (sz : Nat) {post : Int32 → ctN → ctF → Prop} (hw : wp_F_draftIsTooDear post n f) : Met l yF_draftIsTooDear wsF_draftIsTooDear ({ frames := 1, cells := 0, slots := 0, locals := 21 } : Room) (ct_Pc dC dI a cA sa [.ref (a 2)] n f sz) (va_Qi (fun (r : Int32) (u : ctN × ctF) => post r u.1 u.2) (ct_B dC dI a cA) (va_A (ctW a cA n f) sz)) 0 0 (va_A (ctW a cA n f) sz) := by
  refine Met.ofW (cc := cF_draftIsTooDear) (maxL := 2) (ret := (some .boolean)) (by decide) rfl ?_
  intro p e s m args below meth c s₁ B hml hv
  obtain ⟨rfl, hsz, hP, hK, hD0, hZ⟩ := hv
  have hx := B.exec
  have hb := B.bytes
  have hr := B.returns
  have hts := atoms_spec (ws := wsF_draftIsTooDear) B.pre
  have hown : s.vm.findClass RF = some m.cls := findClass_of_methodNamed B.named
  have hlocks := B.notSynchronized
  subst hsz
  have hD := hD0.self (sz := s.heap.size)
  generalize hAe : va_A (ctW a cA n f) s.heap.size = A at hD hZ ⊢
  have hDa : ∀ (n : ctN) (f : ctF), va_D A (ctW a cA n f) := fun _ _ => ct_D hD
  have hA : ∀ q : Nat, s.heap.size ≤ q → A q := fun q h => by rw [← hAe]; exact Or.inr h
  have hS : va_S A s.heap s.heap [] := va_S.rf
  have hl := lv_entry ([.ref (a 2)]) (n := 2) (Nat.le_of_ble_eq_true rfl)
  rw [lg_entry_eq]
  generalize (lg_sl ([.ref (a 2)]) ++ List.replicate (2 - (lg_sl ([.ref (a 2)])).length) Slot.unset).toArray = ls at hl ⊢
  have hl : lv_has ls 2 [(0, .ref (a 2))] := hl
  unfold wp_F_draftIsTooDear at hw
  have loop_2 : ∀ (k : Nat) (x1 : Int32) (n : ctN) (f : ctF) (H : Heap) (locs : List Loc) (ls : Array Slot), wp_F_draftIsTooDear_L2 post k x1 n f → va_P (dC, dI) vcl (ctW a cA n f) H → va_S A s.heap H locs → lv_has ls 2 [(0, .ref (a 2)), (1, .int x1)] → W p l e (headSpec wsF_draftIsTooDear ({ frames := 1, cells := 0, slots := 0, locals := 21 } : Room)).room s m (([.ref (a 2)] : List Value).toArray) below meth c H locs 0 0 (MQ below (va_Qi (fun (r : Int32) (u : ctN × ctF) => post r u.1 u.2) (ct_B dC dI a cA) A) (([.ref (a 2)] : List Value).toArray) s 0 0 A) (F0 m 2 ls []) := by
    intro k
    induction k with
    | zero => intro x1 n f H locs ls hw; exact hw.elim
    | succ k ih =>
      intro x1 n f H locs ls hw hP hS hl
      rw [wp_F_draftIsTooDear_L2] at hw
      refine lv_iload_n hx hb dF_draftIsTooDear_2 rfl (lv_at hl 1 rfl) ?_
      refine lv_bipush (v := 8) hx hb dF_draftIsTooDear_3 (by decide) ?_
      refine lv_icmp_ge (tgt := 34) hx hb dF_draftIsTooDear_5 (by decide) (fun c1 => ?_) (fun c1 => ?_)
      · have hw := hw.1 c1
        refine lv_iconst (v := 0) hx hb dF_draftIsTooDear_34 (by decide) ?_
        exact W.zret (v := 0) hx hb hr rfl (fun t ht hW => ⟨⟨0, (n, f), rfl, hw, ct_mkB ht hP⟩, hS.F ht⟩) hS.2.2 dF_draftIsTooDear_35
      · have hw := hw.2 c1
        refine lv_aload_n hx hb dF_draftIsTooDear_8 rfl (lv_at hl 0 rfl) ?_
        refine va_get (D := (dC, dI)) (ci := 2) (v := .ref (a 14)) (C := RF) (T := TF) (N := 11) hx hb hts (fun w h => List.mem_cons_of_mem _ (inF w h)) hown hK hP 2 rfl rfl 7 (by decide) (hts (.fieldLink RF 27 "CoverTrees$Forest" "cost" "[I") (List.mem_cons_of_mem _ wt_103)) (fun _ h9 => h9) rfl dF_draftIsTooDear_9 ?_
        refine lv_aload_n hx hb dF_draftIsTooDear_12 rfl (lv_at hl 0 rfl) ?_
        refine va_get (D := (dC, dI)) (ci := 2) (v := .int (n 2)) (C := RF) (T := TF) (N := 11) hx hb hts (fun w h => List.mem_cons_of_mem _ (inF w h)) hown hK hP 2 rfl rfl 1 (by decide) (hts (.fieldLink RF 44 "CoverTrees$Forest" "count" "I") (List.mem_cons_of_mem _ wt_96)) (fun _ h9 => h9) rfl dF_draftIsTooDear_13 ?_
        refine lv_iload_n hx hb dF_draftIsTooDear_16 rfl (lv_at hl 1 rfl) ?_
        refine ct_i (va_runSN (As := [.int (n 2), .int x1]) (rest := [.ref (a 14)]) ⟨hx, hb, hml, hown, hts⟩ (met_C_place l dC dI a cA sa (n 2) x1 n f _ hw) ⟨va_cnB 2 hts (wb_N wt_316) rfl rfl rfl hZ.1 (hts (.initialized "CoverTrees") (List.mem_cons_of_mem _ wt_27)) (by decide +kernel) ⟨Nat.le_of_ble_eq_true rfl, Nat.le_of_ble_eq_true rfl⟩, (hts (.static yC_place) (List.mem_cons_of_mem _ wt_315)), trivial⟩ (ct_pre hK hP (hDa _ _) hZ hS hA) rfl rfl hl.1 rfl (lv_room (Nat.le_of_ble_eq_true rfl)) dF_draftIsTooDear_17 ⟨Nat.le_of_ble_eq_true rfl, Nat.le_of_ble_eq_true rfl⟩) (hDa _ _) hS hA (fun r2 n_3 f_4 H locs hw hP hS => ?_)
        obtain ⟨hi5, hw⟩ := hw
        refine va_iald hx hb hK hP 14 11 rfl rfl hi5 dF_draftIsTooDear_20 ?_
        refine lv_ldc hx hb hown (hts (.constant RF 61 1000000) (by decide +kernel)) dF_draftIsTooDear_21 ?_
        refine lv_icmp_le (tgt := 28) hx hb dF_draftIsTooDear_23 (by decide) (fun c6 => ?_) (fun c6 => ?_)
        · have hw := hw.1 c6
          obtain ⟨x1_7, ex1_7⟩ : ∃ y : Int32, y = x1 + 1 := ⟨_, rfl⟩
          have hw := hw x1_7 ex1_7
          refine lv_iinc (v := x1_7) (lv' := [(1, .int x1_7), (0, .ref (a 2))]) hx hb dF_draftIsTooDear_28 hl (k := 1) rfl (by rw [ex1_7]; rfl) (by decide) rfl (fun ls hl => ?_)
          refine lv_goto (tgt := 2) hx hb dF_draftIsTooDear_31 (by decide) ?_
          exact ih x1_7 n_3 f_4 _ _ ls hw hP hS (lv_sub hl [1, 0] rfl)
        · have hw := hw.2 c6
          refine lv_iconst (v := 1) hx hb dF_draftIsTooDear_26 (by decide) ?_
          exact W.zret (v := 1) hx hb hr rfl (fun t ht hW => ⟨⟨1, (n_3, f_4), rfl, hw, ct_mkB ht hP⟩, hS.F ht⟩) hS.2.2 dF_draftIsTooDear_27
  refine lv_iconst (v := 0) hx hb dF_draftIsTooDear_0 (by decide) ?_
  refine lv_istore_n (lv' := [(1, .int 0), (0, .ref (a 2))]) hx hb dF_draftIsTooDear_1 rfl hl (by decide) rfl (fun ls hl => ?_)
  obtain ⟨j, hw⟩ := hw
  exact loop_2 j 0 n f _ _ ls hw hP hS (lv_sub hl [1, 0] rfl)
def wp_F_blankDraft_L12 (post : ctN → ctF → Prop) : Nat → Int32 → ctN → ctF → Prop
  | 0, _, _, _ => False
  | k + 1, x1, n, f => (8 ≤ x1 → (post n f)) ∧ (¬ 8 ≤ x1 → (wp_C_place (fun (r4 : Int32) (n_5 : ctN) (f_6 : ctF) => vp_in r4 960 ∧ (∀ f_8 : ctF, f_8 = va_up f_6 14 (upd (f_6 14) r4.toNatClampNeg (-1)) → (vp_in r4 960 ∧ (∀ f_10 : ctF, f_10 = va_up f_8 15 (upd (f_8 15) r4.toNatClampNeg (-1)) → (vp_in r4 960 ∧ (∀ f_12 : ctF, f_12 = va_up f_10 16 (upd (f_10 16) r4.toNatClampNeg (-1)) → (vp_in x1 8 ∧ (∀ f_14 : ctF, f_14 = va_up f_12 17 (upd (f_12 17) x1.toNatClampNeg (vp_nar .boolean 0)) → (∀ x1_15 : Int32, x1_15 = x1 + 1 → (wp_F_blankDraft_L12 post k x1_15 n_5 f_14)))))))))) (n 2) x1 n f))
def wp_F_blankDraft (post : ctN → ctF → Prop) (n : ctN) (f : ctF) : Prop := vp_in (n 2) 120 ∧ (∀ f_2 : ctF, f_2 = va_up f 12 (upd (f 12) (n 2).toNatClampNeg (-1)) → (∃ j, wp_F_blankDraft_L12 post j 0 n f_2))
set_option maxHeartbeats 4000000 in
set_option maxRecDepth 100000 in
theorem met_F_blankDraft (l : Launch) (dC : Nat → ClassId) (dI : Nat → Nat → Nat) (a : Nat → Nat) (cA : Nat → ClassId) (sa : Nat → Nat) (n : ctN) (f : ctF) (sz : Nat) {post : ctN → ctF → Prop} (hw : wp_F_blankDraft post n f) : Met l yF_blankDraft wsF_blankDraft ({ frames := 1, cells := 0, slots := 0, locals := 21 } : Room) (ct_Pc dC dI a cA sa [.ref (a 2)] n f sz) (va_Qv (fun (u : ctN × ctF) => post u.1 u.2) (ct_B dC dI a cA) (va_A (ctW a cA n f) sz)) 0 0 (va_A (ctW a cA n f) sz) := by
  refine Met.ofW (cc := cF_blankDraft) (maxL := 3) (ret := none) (by decide) rfl ?_
  intro p e s m args below meth c s₁ B hml hv
  obtain ⟨rfl, hsz, hP, hK, hD0, hZ⟩ := hv
  have hx := B.exec
  have hb := B.bytes
  have hr := B.returns
  have hts := atoms_spec (ws := wsF_blankDraft) B.pre
  have hown : s.vm.findClass RF = some m.cls := findClass_of_methodNamed B.named
  have hlocks := B.notSynchronized
  subst hsz
  have hD := hD0.self (sz := s.heap.size)
  generalize hAe : va_A (ctW a cA n f) s.heap.size = A at hD hZ ⊢
  have hDa : ∀ (n : ctN) (f : ctF), va_D A (ctW a cA n f) := fun _ _ => ct_D hD
  have hA : ∀ q : Nat, s.heap.size ≤ q → A q := fun q h => by rw [← hAe]; exact Or.inr h
  have hS : va_S A s.heap s.heap [] := va_S.rf
  have hl := lv_entry ([.ref (a 2)]) (n := 3) (Nat.le_of_ble_eq_true rfl)
  rw [lg_entry_eq]
  generalize (lg_sl ([.ref (a 2)]) ++ List.replicate (3 - (lg_sl ([.ref (a 2)])).length) Slot.unset).toArray = ls at hl ⊢
  have hl : lv_has ls 3 [(0, .ref (a 2))] := hl
  unfold wp_F_blankDraft at hw
  have loop_12 : ∀ (k : Nat) (x1 : Int32) (n : ctN) (f : ctF) (H : Heap) (locs : List Loc) (ls : Array Slot), wp_F_blankDraft_L12 post k x1 n f → va_P (dC, dI) vcl (ctW a cA n f) H → va_S A s.heap H locs → lv_has ls 3 [(0, .ref (a 2)), (1, .int x1)] → W p l e (headSpec wsF_blankDraft ({ frames := 1, cells := 0, slots := 0, locals := 21 } : Room)).room s m (([.ref (a 2)] : List Value).toArray) below meth c H locs 0 0 (MQ below (va_Qv (fun (u : ctN × ctF) => post u.1 u.2) (ct_B dC dI a cA) A) (([.ref (a 2)] : List Value).toArray) s 0 0 A) (F0 m 12 ls []) := by
    intro k
    induction k with
    | zero => intro x1 n f H locs ls hw; exact hw.elim
    | succ k ih =>
      intro x1 n f H locs ls hw hP hS hl
      rw [wp_F_blankDraft_L12] at hw
      refine lv_iload_n hx hb dF_blankDraft_12 rfl (lv_at hl 1 rfl) ?_
      refine lv_bipush (v := 8) hx hb dF_blankDraft_13 (by decide) ?_
      refine lv_icmp_ge (tgt := 61) hx hb dF_blankDraft_15 (by decide) (fun c3 => ?_) (fun c3 => ?_)
      · have hw := hw.1 c3
        exact W.vret hx hb hr (fun t ht hW => ⟨⟨(n, f), rfl, hw, ct_mkB ht hP⟩, hS.F ht⟩) hS.2.2 dF_blankDraft_61
      · have hw := hw.2 c3
        refine lv_aload_n hx hb dF_blankDraft_18 rfl (lv_at hl 0 rfl) ?_
        refine va_get (D := (dC, dI)) (ci := 2) (v := .int (n 2)) (C := RF) (T := TF) (N := 11) hx hb hts (fun w h => List.mem_cons_of_mem _ (inF w h)) hown hK hP 2 rfl rfl 1 (by decide) (hts (.fieldLink RF 44 "CoverTrees$Forest" "count" "I") (List.mem_cons_of_mem _ wt_96)) (fun _ h9 => h9) rfl dF_blankDraft_19 ?_
        refine lv_iload_n hx hb dF_blankDraft_22 rfl (lv_at hl 1 rfl) ?_
        refine ct_i (va_runSN (As := [.int (n 2), .int x1]) (rest := []) ⟨hx, hb, hml, hown, hts⟩ (met_C_place l dC dI a cA sa (n 2) x1 n f _ hw) ⟨va_cnB 2 hts (wb_N wt_316) rfl rfl rfl hZ.1 (hts (.initialized "CoverTrees") (List.mem_cons_of_mem _ wt_27)) (by decide +kernel) ⟨Nat.le_of_ble_eq_true rfl, Nat.le_of_ble_eq_true rfl⟩, (hts (.static yC_place) (List.mem_cons_of_mem _ wt_315)), trivial⟩ (ct_pre hK hP (hDa _ _) hZ hS hA) rfl rfl hl.1 rfl (lv_room (Nat.le_of_ble_eq_true rfl)) dF_blankDraft_23 ⟨Nat.le_of_ble_eq_true rfl, Nat.le_of_ble_eq_true rfl⟩) (hDa _ _) hS hA (fun r4 n_5 f_6 H locs hw hP hS => ?_)
        refine lv_istore_n (lv' := [(2, .int r4), (0, .ref (a 2)), (1, .int x1)]) hx hb dF_blankDraft_26 rfl hl (by decide) rfl (fun ls hl => ?_)
        refine lv_aload_n hx hb dF_blankDraft_27 rfl (lv_at hl 1 rfl) ?_
        refine va_get (D := (dC, dI)) (ci := 2) (v := .ref (a 14)) (C := RF) (T := TF) (N := 11) hx hb hts (fun w h => List.mem_cons_of_mem _ (inF w h)) hown hK hP 2 rfl rfl 7 (by decide) (hts (.fieldLink RF 27 "CoverTrees$Forest" "cost" "[I") (List.mem_cons_of_mem _ wt_103)) (fun _ h9 => h9) rfl dF_blankDraft_28 ?_
        refine lv_iload_n hx hb dF_blankDraft_31 rfl (lv_at hl 0 rfl) ?_
        refine lv_iconst (v := (-1)) hx hb dF_blankDraft_32 (by decide) ?_
        obtain ⟨hi7, hw⟩ := hw
        refine va_iast hx hb hK hP (hDa _ _) hS 14 11 rfl rfl hi7 dF_blankDraft_33 (fun H locs hP _ hS => ?_)
        obtain ⟨f_8, ef_8⟩ : ∃ z : ctF, z = va_up f_6 14 (upd (f_6 14) r4.toNatClampNeg (-1)) := ⟨_, rfl⟩
        have hw := hw f_8 ef_8
        have hP : va_P (dC, dI) vcl (ctW a cA n_5 f_8) H := by rw [ef_8]; exact hP
        refine lv_aload_n hx hb dF_blankDraft_34 rfl (lv_at hl 1 rfl) ?_
        refine va_get (D := (dC, dI)) (ci := 2) (v := .ref (a 15)) (C := RF) (T := TF) (N := 11) hx hb hts (fun w h => List.mem_cons_of_mem _ (inF w h)) hown hK hP 2 rfl rfl 8 (by decide) (hts (.fieldLink RF 30 "CoverTrees$Forest" "rule" "[I") (List.mem_cons_of_mem _ wt_105)) (fun _ h9 => h9) rfl dF_blankDraft_35 ?_
        refine lv_iload_n hx hb dF_blankDraft_38 rfl (lv_at hl 0 rfl) ?_
        refine lv_iconst (v := (-1)) hx hb dF_blankDraft_39 (by decide) ?_
        obtain ⟨hi9, hw⟩ := hw
        refine va_iast hx hb hK hP (hDa _ _) hS 15 12 rfl rfl hi9 dF_blankDraft_40 (fun H locs hP _ hS => ?_)
        obtain ⟨f_10, ef_10⟩ : ∃ z : ctF, z = va_up f_8 15 (upd (f_8 15) r4.toNatClampNeg (-1)) := ⟨_, rfl⟩
        have hw := hw f_10 ef_10
        have hP : va_P (dC, dI) vcl (ctW a cA n_5 f_10) H := by rw [ef_10]; exact hP
        refine lv_aload_n hx hb dF_blankDraft_41 rfl (lv_at hl 1 rfl) ?_
        refine va_get (D := (dC, dI)) (ci := 2) (v := .ref (a 16)) (C := RF) (T := TF) (N := 11) hx hb hts (fun w h => List.mem_cons_of_mem _ (inF w h)) hown hK hP 2 rfl rfl 9 (by decide) (hts (.fieldLink RF 33 "CoverTrees$Forest" "size" "[I") (List.mem_cons_of_mem _ wt_107)) (fun _ h9 => h9) rfl dF_blankDraft_42 ?_
        refine lv_iload_n hx hb dF_blankDraft_45 rfl (lv_at hl 0 rfl) ?_
        refine lv_iconst (v := (-1)) hx hb dF_blankDraft_46 (by decide) ?_
        obtain ⟨hi11, hw⟩ := hw
        refine va_iast hx hb hK hP (hDa _ _) hS 16 13 rfl rfl hi11 dF_blankDraft_47 (fun H locs hP _ hS => ?_)
        obtain ⟨f_12, ef_12⟩ : ∃ z : ctF, z = va_up f_10 16 (upd (f_10 16) r4.toNatClampNeg (-1)) := ⟨_, rfl⟩
        have hw := hw f_12 ef_12
        have hP : va_P (dC, dI) vcl (ctW a cA n_5 f_12) H := by rw [ef_12]; exact hP
        refine lv_aload_n hx hb dF_blankDraft_48 rfl (lv_at hl 1 rfl) ?_
        refine va_get (D := (dC, dI)) (ci := 2) (v := .ref (a 17)) (C := RF) (T := TF) (N := 11) hx hb hts (fun w h => List.mem_cons_of_mem _ (inF w h)) hown hK hP 2 rfl rfl 10 (by decide) (hts (.fieldLink RF 36 "CoverTrees$Forest" "settled" "[Z") (List.mem_cons_of_mem _ wt_109)) (fun _ h9 => h9) rfl dF_blankDraft_49 ?_
        refine lv_iload_n hx hb dF_blankDraft_52 rfl (lv_at hl 2 rfl) ?_
        refine lv_iconst (v := 0) hx hb dF_blankDraft_53 (by decide) ?_
        obtain ⟨hi13, hw⟩ := hw
        refine va_zast hx hb hK hP (hDa _ _) hS 17 14 rfl rfl hi13 dF_blankDraft_54 (fun H locs hP _ hS => ?_)
        obtain ⟨f_14, ef_14⟩ : ∃ z : ctF, z = va_up f_12 17 (upd (f_12 17) x1.toNatClampNeg (vp_nar .boolean 0)) := ⟨_, rfl⟩
        have hw := hw f_14 ef_14
        have hP : va_P (dC, dI) vcl (ctW a cA n_5 f_14) H := by rw [ef_14]; exact hP
        obtain ⟨x1_15, ex1_15⟩ : ∃ y : Int32, y = x1 + 1 := ⟨_, rfl⟩
        have hw := hw x1_15 ex1_15
        refine lv_iinc (v := x1_15) (lv' := [(1, .int x1_15), (2, .int r4), (0, .ref (a 2))]) hx hb dF_blankDraft_55 hl (k := 2) rfl (by rw [ex1_15]; rfl) (by decide) rfl (fun ls hl => ?_)
        refine lv_goto (tgt := 12) hx hb dF_blankDraft_58 (by decide) ?_
        exact ih x1_15 n_5 f_14 _ _ ls hw hP hS (lv_sub hl [2, 0] rfl)
  refine lv_aload_n hx hb dF_blankDraft_0 rfl (lv_at hl 0 rfl) ?_
  refine va_get (D := (dC, dI)) (ci := 2) (v := .ref (a 12)) (C := RF) (T := TF) (N := 11) hx hb hts (fun w h => List.mem_cons_of_mem _ (inF w h)) hown hK hP 2 rfl rfl 5 (by decide) (hts (.fieldLink RF 21 "CoverTrees$Forest" "leastCost" "[I") (List.mem_cons_of_mem _ wt_100)) (fun _ h9 => h9) rfl dF_blankDraft_1 ?_
  refine lv_aload_n hx hb dF_blankDraft_4 rfl (lv_at hl 0 rfl) ?_
  refine va_get (D := (dC, dI)) (ci := 2) (v := .int (n 2)) (C := RF) (T := TF) (N := 11) hx hb hts (fun w h => List.mem_cons_of_mem _ (inF w h)) hown hK hP 2 rfl rfl 1 (by decide) (hts (.fieldLink RF 44 "CoverTrees$Forest" "count" "I") (List.mem_cons_of_mem _ wt_96)) (fun _ h9 => h9) rfl dF_blankDraft_5 ?_
  refine lv_iconst (v := (-1)) hx hb dF_blankDraft_8 (by decide) ?_
  obtain ⟨hi1, hw⟩ := hw
  refine va_iast hx hb hK hP (hDa _ _) hS 12 9 rfl rfl hi1 dF_blankDraft_9 (fun H locs hP _ hS => ?_)
  obtain ⟨f_2, ef_2⟩ : ∃ z : ctF, z = va_up f 12 (upd (f 12) (n 2).toNatClampNeg (-1)) := ⟨_, rfl⟩
  have hw := hw f_2 ef_2
  have hP : va_P (dC, dI) vcl (ctW a cA n f_2) H := by rw [ef_2]; exact hP
  refine lv_iconst (v := 0) hx hb dF_blankDraft_10 (by decide) ?_
  refine lv_istore_n (lv' := [(1, .int 0), (0, .ref (a 2))]) hx hb dF_blankDraft_11 rfl hl (by decide) rfl (fun ls hl => ?_)
  obtain ⟨j, hw⟩ := hw
  exact loop_12 j 0 n f_2 _ _ ls hw hP hS (lv_sub hl [1, 0] rfl)
def wp_F_baseCost_J74 (post : Int32 → ctN → ctF → Prop) (x1 : Int32) (x2 : Int32) (x3 : Int32) (n : ctN) (f : ctF) : Prop := (x2 < 2 → (post x3 n f)) ∧ (¬ x2 < 2 → (vp_in (n 2) 120 ∧ (vp_in x1 40 ∧ (wp_C_place (fun (r10 : Int32) (n_11 : ctN) (f_12 : ctF) => vp_in r10 960 ∧ (∀ x4_14 : Int32, x4_14 = (f_12 14 r10.toNatClampNeg) → ((¬ x4_14 = (-1) → (∀ x3_16 : Int32, x3_16 = (x3 + x4_14) → (post x3_16 n_11 f_12))) ∧ (x4_14 = (-1) → (post (-1) n_11 f_12))))) (f 11 (n 2).toNatClampNeg) (f 7 x1.toNatClampNeg) n f))))
def wp_F_baseCost (post : Int32 → ctN → ctF → Prop) (p1 : Int32) (n : ctN) (f : ctF) : Prop := vp_in (n 2) 120 ∧ (vp_in (f 9 (n 2).toNatClampNeg) 10 ∧ (∀ x2_3 : Int32, x2_3 = (f 3 (f 9 (n 2).toNatClampNeg).toNatClampNeg) → (vp_in p1 40 ∧ (∀ x3_5 : Int32, x3_5 = (f 8 p1.toNatClampNeg) → ((x2_3 < 1 → (wp_F_baseCost_J74 post p1 x2_3 x3_5 n f)) ∧ (¬ x2_3 < 1 → (vp_in (n 2) 120 ∧ (vp_in p1 40 ∧ (wp_C_place (fun (r19 : Int32) (n_20 : ctN) (f_21 : ctF) => vp_in r19 960 ∧ (∀ x4_23 : Int32, x4_23 = (f_21 14 r19.toNatClampNeg) → ((¬ x4_23 = (-1) → (∀ x3_25 : Int32, x3_25 = (x3_5 + x4_23) → (wp_F_baseCost_J74 post p1 x2_3 x3_25 n_20 f_21))) ∧ (x4_23 = (-1) → (post (-1) n_20 f_21))))) (f 10 (n 2).toNatClampNeg) (f 6 p1.toNatClampNeg) n f)))))))))
set_option maxHeartbeats 4000000 in
set_option maxRecDepth 100000 in
theorem met_F_baseCost (l : Launch) (dC : Nat → ClassId) (dI : Nat → Nat → Nat) (a : Nat → Nat) (cA : Nat → ClassId) (sa : Nat → Nat) (p1 : Int32) (n : ctN) (f : ctF) (sz : Nat) {post : Int32 → ctN → ctF → Prop} (hw : wp_F_baseCost post p1 n f) : Met l yF_baseCost wsF_baseCost ({ frames := 1, cells := 0, slots := 0, locals := 21 } : Room) (ct_Pc dC dI a cA sa [.ref (a 2), .int p1] n f sz) (va_Qi (fun (r : Int32) (u : ctN × ctF) => post r u.1 u.2) (ct_B dC dI a cA) (va_A (ctW a cA n f) sz)) 0 0 (va_A (ctW a cA n f) sz) := by
  refine Met.ofW (cc := cF_baseCost) (maxL := 5) (ret := (some .int)) (by decide) rfl ?_
  intro p e s m args below meth c s₁ B hml hv
  obtain ⟨rfl, hsz, hP, hK, hD0, hZ⟩ := hv
  have hx := B.exec
  have hb := B.bytes
  have hr := B.returns
  have hts := atoms_spec (ws := wsF_baseCost) B.pre
  have hown : s.vm.findClass RF = some m.cls := findClass_of_methodNamed B.named
  have hlocks := B.notSynchronized
  subst hsz
  have hD := hD0.self (sz := s.heap.size)
  generalize hAe : va_A (ctW a cA n f) s.heap.size = A at hD hZ ⊢
  have hDa : ∀ (n : ctN) (f : ctF), va_D A (ctW a cA n f) := fun _ _ => ct_D hD
  have hA : ∀ q : Nat, s.heap.size ≤ q → A q := fun q h => by rw [← hAe]; exact Or.inr h
  have hS : va_S A s.heap s.heap [] := va_S.rf
  have hl := lv_entry ([.ref (a 2), .int p1]) (n := 5) (Nat.le_of_ble_eq_true rfl)
  rw [lg_entry_eq]
  generalize (lg_sl ([.ref (a 2), .int p1]) ++ List.replicate (5 - (lg_sl ([.ref (a 2), .int p1])).length) Slot.unset).toArray = ls at hl ⊢
  have hl : lv_has ls 5 [(0, .ref (a 2)), (1, .int p1)] := hl
  unfold wp_F_baseCost at hw
  have join_74 : ∀ (x1 x2 x3 : Int32) (n : ctN) (f : ctF) (H : Heap) (locs : List Loc) (ls : Array Slot), wp_F_baseCost_J74 post x1 x2 x3 n f → va_P (dC, dI) vcl (ctW a cA n f) H → va_S A s.heap H locs → lv_has ls 5 [(0, .ref (a 2)), (1, .int x1), (2, .int x2), (3, .int x3)] → W p l e (headSpec wsF_baseCost ({ frames := 1, cells := 0, slots := 0, locals := 21 } : Room)).room s m (([.ref (a 2), .int p1] : List Value).toArray) below meth c H locs 0 0 (MQ below (va_Qi (fun (r : Int32) (u : ctN × ctF) => post r u.1 u.2) (ct_B dC dI a cA) A) (([.ref (a 2), .int p1] : List Value).toArray) s 0 0 A) (F0 m 74 ls []) := by
    intro x1 x2 x3 n f H locs ls hw hP hS hl
    unfold wp_F_baseCost_J74 at hw
    refine lv_iload_n hx hb dF_baseCost_74 rfl (lv_at hl 2 rfl) ?_
    refine lv_iconst (v := 2) hx hb dF_baseCost_75 (by decide) ?_
    refine lv_icmp_lt (tgt := 120) hx hb dF_baseCost_76 (by decide) (fun c7 => ?_) (fun c7 => ?_)
    · have hw := hw.1 c7
      refine lv_iload_n hx hb dF_baseCost_120 rfl (lv_at hl 3 rfl) ?_
      exact W.iret (v := x3) hx hb hr (fun t ht hW => ⟨⟨x3, (n, f), rfl, hw, ct_mkB ht hP⟩, hS.F ht⟩) hS.2.2 dF_baseCost_121
    · have hw := hw.2 c7
      refine lv_aload_n hx hb dF_baseCost_79 rfl (lv_at hl 0 rfl) ?_
      refine va_get (D := (dC, dI)) (ci := 2) (v := .ref (a 14)) (C := RF) (T := TF) (N := 11) hx hb hts (fun w h => List.mem_cons_of_mem _ (inF w h)) hown hK hP 2 rfl rfl 7 (by decide) (hts (.fieldLink RF 27 "CoverTrees$Forest" "cost" "[I") (List.mem_cons_of_mem _ wt_103)) (fun _ h9 => h9) rfl dF_baseCost_80 ?_
      refine lv_aload_n hx hb dF_baseCost_83 rfl (lv_at hl 0 rfl) ?_
      refine va_get (D := (dC, dI)) (ci := 2) (v := .ref (a 11)) (C := RF) (T := TF) (N := 11) hx hb hts (fun w h => List.mem_cons_of_mem _ (inF w h)) hown hK hP 2 rfl rfl 4 (by decide) (hts (.fieldLink RF 18 "CoverTrees$Forest" "two" "[I") (List.mem_cons_of_mem _ wt_99)) (fun _ h9 => h9) rfl dF_baseCost_84 ?_
      refine lv_aload_n hx hb dF_baseCost_87 rfl (lv_at hl 0 rfl) ?_
      refine va_get (D := (dC, dI)) (ci := 2) (v := .int (n 2)) (C := RF) (T := TF) (N := 11) hx hb hts (fun w h => List.mem_cons_of_mem _ (inF w h)) hown hK hP 2 rfl rfl 1 (by decide) (hts (.fieldLink RF 44 "CoverTrees$Forest" "count" "I") (List.mem_cons_of_mem _ wt_96)) (fun _ h9 => h9) rfl dF_baseCost_88 ?_
      obtain ⟨hi8, hw⟩ := hw
      refine va_iald hx hb hK hP 11 8 rfl rfl hi8 dF_baseCost_91 ?_
      refine lv_aload_n hx hb dF_baseCost_92 rfl (lv_at hl 0 rfl) ?_
      refine va_get (D := (dC, dI)) (ci := 2) (v := .ref (a 1)) (C := RF) (T := TF) (N := 11) hx hb hts (fun w h => List.mem_cons_of_mem _ (inF w h)) hown hK hP 2 rfl rfl 0 (by decide) (hts (.fieldLink RF 40 "CoverTrees$Forest" "grammar" "LCoverTrees$Grammar;") (List.mem_cons_of_mem _ wt_94)) (fun _ h9 => h9) rfl dF_baseCost_93 ?_
      refine va_get (D := (dC, dI)) (ci := 1) (v := .ref (a 7)) (C := RG) (T := TG) (N := 8) hx hb hts (fun w h => List.mem_cons_of_mem _ (inG w h)) hown hK hP 1 rfl rfl 6 (by decide) (hts (.fieldLink RF 84 "CoverTrees$Grammar" "two" "[I") (List.mem_cons_of_mem _ wt_67)) (fun _ h9 => h9) rfl dF_baseCost_96 ?_
      refine lv_iload_n hx hb dF_baseCost_99 rfl (lv_at hl 1 rfl) ?_
      obtain ⟨hi9, hw⟩ := hw
      refine va_iald hx hb hK hP 7 4 rfl rfl hi9 dF_baseCost_100 ?_
      refine ct_i (va_runSN (As := [.int (f 11 (n 2).toNatClampNeg), .int (f 7 x1.toNatClampNeg)]) (rest := [.ref (a 14)]) ⟨hx, hb, hml, hown, hts⟩ (met_C_place l dC dI a cA sa (f 11 (n 2).toNatClampNeg) (f 7 x1.toNatClampNeg) n f _ hw) ⟨va_cnB 2 hts (wb_N wt_316) rfl rfl rfl hZ.1 (hts (.initialized "CoverTrees") (List.mem_cons_of_mem _ wt_27)) (by decide +kernel) ⟨Nat.le_of_ble_eq_true rfl, Nat.le_of_ble_eq_true rfl⟩, (hts (.static yC_place) (List.mem_cons_of_mem _ wt_315)), trivial⟩ (ct_pre hK hP (hDa _ _) hZ hS hA) rfl rfl hl.1 rfl (lv_room (Nat.le_of_ble_eq_true rfl)) dF_baseCost_101 ⟨Nat.le_of_ble_eq_true rfl, Nat.le_of_ble_eq_true rfl⟩) (hDa _ _) hS hA (fun r10 n_11 f_12 H locs hw hP hS => ?_)
      obtain ⟨hi13, hw⟩ := hw
      refine va_iald hx hb hK hP 14 11 rfl rfl hi13 dF_baseCost_104 ?_
      refine lv_topi (fun x4_14 ex4_14 => ?_)
      have hw := hw x4_14 ex4_14
      refine lv_istore (lv' := [(4, .int x4_14), (0, .ref (a 2)), (1, .int x1), (2, .int x2), (3, .int x3)]) hx hb dF_baseCost_105 hl (by decide) rfl (fun ls hl => ?_)
      refine lv_iload hx hb dF_baseCost_107 (lv_at hl 0 rfl) ?_
      refine lv_iconst (v := (-1)) hx hb dF_baseCost_109 (by decide) ?_
      refine lv_icmp_ne (tgt := 115) hx hb dF_baseCost_110 (by decide) (fun c15 => ?_) (fun c15 => ?_)
      · have hw := hw.1 c15
        refine lv_iload_n hx hb dF_baseCost_115 rfl (lv_at hl 4 rfl) ?_
        refine lv_iload hx hb dF_baseCost_116 (lv_at hl 0 rfl) ?_
        refine lv_iadd hx hb dF_baseCost_118 ?_
        refine lv_topi (fun x3_16 ex3_16 => ?_)
        have hw := hw x3_16 ex3_16
        refine lv_istore_n (lv' := [(3, .int x3_16), (4, .int x4_14), (0, .ref (a 2)), (1, .int x1), (2, .int x2)]) hx hb dF_baseCost_119 rfl hl (by decide) rfl (fun ls hl => ?_)
        refine lv_iload_n hx hb dF_baseCost_120 rfl (lv_at hl 0 rfl) ?_
        exact W.iret (v := x3_16) hx hb hr (fun t ht hW => ⟨⟨x3_16, (n_11, f_12), rfl, hw, ct_mkB ht hP⟩, hS.F ht⟩) hS.2.2 dF_baseCost_121
      · have hw := hw.2 c15
        refine lv_iconst (v := (-1)) hx hb dF_baseCost_113 (by decide) ?_
        exact W.iret (v := (-1)) hx hb hr (fun t ht hW => ⟨⟨(-1), (n_11, f_12), rfl, hw, ct_mkB ht hP⟩, hS.F ht⟩) hS.2.2 dF_baseCost_114
  refine lv_aload_n hx hb dF_baseCost_0 rfl (lv_at hl 0 rfl) ?_
  refine va_get (D := (dC, dI)) (ci := 2) (v := .ref (a 1)) (C := RF) (T := TF) (N := 11) hx hb hts (fun w h => List.mem_cons_of_mem _ (inF w h)) hown hK hP 2 rfl rfl 0 (by decide) (hts (.fieldLink RF 40 "CoverTrees$Forest" "grammar" "LCoverTrees$Grammar;") (List.mem_cons_of_mem _ wt_94)) (fun _ h9 => h9) rfl dF_baseCost_1 ?_
  refine va_get (D := (dC, dI)) (ci := 1) (v := .ref (a 3)) (C := RG) (T := TG) (N := 8) hx hb hts (fun w h => List.mem_cons_of_mem _ (inG w h)) hown hK hP 1 rfl rfl 1 (by decide) (hts (.fieldLink RF 79 "CoverTrees$Grammar" "parts" "[I") (List.mem_cons_of_mem _ wt_56)) (fun _ h9 => h9) rfl dF_baseCost_4 ?_
  refine lv_aload_n hx hb dF_baseCost_7 rfl (lv_at hl 0 rfl) ?_
  refine va_get (D := (dC, dI)) (ci := 2) (v := .ref (a 9)) (C := RF) (T := TF) (N := 11) hx hb hts (fun w h => List.mem_cons_of_mem _ (inF w h)) hown hK hP 2 rfl rfl 2 (by decide) (hts (.fieldLink RF 9 "CoverTrees$Forest" "operator" "[I") (List.mem_cons_of_mem _ wt_97)) (fun _ h9 => h9) rfl dF_baseCost_8 ?_
  refine lv_aload_n hx hb dF_baseCost_11 rfl (lv_at hl 0 rfl) ?_
  refine va_get (D := (dC, dI)) (ci := 2) (v := .int (n 2)) (C := RF) (T := TF) (N := 11) hx hb hts (fun w h => List.mem_cons_of_mem _ (inF w h)) hown hK hP 2 rfl rfl 1 (by decide) (hts (.fieldLink RF 44 "CoverTrees$Forest" "count" "I") (List.mem_cons_of_mem _ wt_96)) (fun _ h9 => h9) rfl dF_baseCost_12 ?_
  obtain ⟨hi1, hw⟩ := hw
  refine va_iald hx hb hK hP 9 6 rfl rfl hi1 dF_baseCost_15 ?_
  obtain ⟨hi2, hw⟩ := hw
  refine va_iald hx hb hK hP 3 0 rfl rfl hi2 dF_baseCost_16 ?_
  refine lv_topi (fun x2_3 ex2_3 => ?_)
  have hw := hw x2_3 ex2_3
  refine lv_istore_n (lv' := [(2, .int x2_3), (0, .ref (a 2)), (1, .int p1)]) hx hb dF_baseCost_17 rfl hl (by decide) rfl (fun ls hl => ?_)
  refine lv_aload_n hx hb dF_baseCost_18 rfl (lv_at hl 1 rfl) ?_
  refine va_get (D := (dC, dI)) (ci := 2) (v := .ref (a 1)) (C := RF) (T := TF) (N := 11) hx hb hts (fun w h => List.mem_cons_of_mem _ (inF w h)) hown hK hP 2 rfl rfl 0 (by decide) (hts (.fieldLink RF 40 "CoverTrees$Forest" "grammar" "LCoverTrees$Grammar;") (List.mem_cons_of_mem _ wt_94)) (fun _ h9 => h9) rfl dF_baseCost_19 ?_
  refine va_get (D := (dC, dI)) (ci := 1) (v := .ref (a 8)) (C := RG) (T := TG) (N := 8) hx hb hts (fun w h => List.mem_cons_of_mem _ (inG w h)) hown hK hP 1 rfl rfl 7 (by decide) (hts (.fieldLink RF 82 "CoverTrees$Grammar" "cost" "[I") (List.mem_cons_of_mem _ wt_69)) (fun _ h9 => h9) rfl dF_baseCost_22 ?_
  refine lv_iload_n hx hb dF_baseCost_25 rfl (lv_at hl 2 rfl) ?_
  obtain ⟨hi4, hw⟩ := hw
  refine va_iald hx hb hK hP 8 5 rfl rfl hi4 dF_baseCost_26 ?_
  refine lv_topi (fun x3_5 ex3_5 => ?_)
  have hw := hw x3_5 ex3_5
  refine lv_istore_n (lv' := [(3, .int x3_5), (2, .int x2_3), (0, .ref (a 2)), (1, .int p1)]) hx hb dF_baseCost_27 rfl hl (by decide) rfl (fun ls hl => ?_)
  refine lv_iload_n hx hb dF_baseCost_28 rfl (lv_at hl 1 rfl) ?_
  refine lv_iconst (v := 1) hx hb dF_baseCost_29 (by decide) ?_
  refine lv_icmp_lt (tgt := 74) hx hb dF_baseCost_30 (by decide) (fun c6 => ?_) (fun c6 => ?_)
  · have hw := hw.1 c6
    exact join_74 p1 x2_3 x3_5 n f _ _ ls hw hP hS (lv_sub hl [2, 3, 1, 0] rfl)
  · have hw := hw.2 c6
    refine lv_aload_n hx hb dF_baseCost_33 rfl (lv_at hl 2 rfl) ?_
    refine va_get (D := (dC, dI)) (ci := 2) (v := .ref (a 14)) (C := RF) (T := TF) (N := 11) hx hb hts (fun w h => List.mem_cons_of_mem _ (inF w h)) hown hK hP 2 rfl rfl 7 (by decide) (hts (.fieldLink RF 27 "CoverTrees$Forest" "cost" "[I") (List.mem_cons_of_mem _ wt_103)) (fun _ h9 => h9) rfl dF_baseCost_34 ?_
    refine lv_aload_n hx hb dF_baseCost_37 rfl (lv_at hl 2 rfl) ?_
    refine va_get (D := (dC, dI)) (ci := 2) (v := .ref (a 10)) (C := RF) (T := TF) (N := 11) hx hb hts (fun w h => List.mem_cons_of_mem _ (inF w h)) hown hK hP 2 rfl rfl 3 (by decide) (hts (.fieldLink RF 15 "CoverTrees$Forest" "one" "[I") (List.mem_cons_of_mem _ wt_98)) (fun _ h9 => h9) rfl dF_baseCost_38 ?_
    refine lv_aload_n hx hb dF_baseCost_41 rfl (lv_at hl 2 rfl) ?_
    refine va_get (D := (dC, dI)) (ci := 2) (v := .int (n 2)) (C := RF) (T := TF) (N := 11) hx hb hts (fun w h => List.mem_cons_of_mem _ (inF w h)) hown hK hP 2 rfl rfl 1 (by decide) (hts (.fieldLink RF 44 "CoverTrees$Forest" "count" "I") (List.mem_cons_of_mem _ wt_96)) (fun _ h9 => h9) rfl dF_baseCost_42 ?_
    obtain ⟨hi17, hw⟩ := hw
    refine va_iald hx hb hK hP 10 7 rfl rfl hi17 dF_baseCost_45 ?_
    refine lv_aload_n hx hb dF_baseCost_46 rfl (lv_at hl 2 rfl) ?_
    refine va_get (D := (dC, dI)) (ci := 2) (v := .ref (a 1)) (C := RF) (T := TF) (N := 11) hx hb hts (fun w h => List.mem_cons_of_mem _ (inF w h)) hown hK hP 2 rfl rfl 0 (by decide) (hts (.fieldLink RF 40 "CoverTrees$Forest" "grammar" "LCoverTrees$Grammar;") (List.mem_cons_of_mem _ wt_94)) (fun _ h9 => h9) rfl dF_baseCost_47 ?_
    refine va_get (D := (dC, dI)) (ci := 1) (v := .ref (a 6)) (C := RG) (T := TG) (N := 8) hx hb hts (fun w h => List.mem_cons_of_mem _ (inG w h)) hown hK hP 1 rfl rfl 5 (by decide) (hts (.fieldLink RF 83 "CoverTrees$Grammar" "one" "[I") (List.mem_cons_of_mem _ wt_65)) (fun _ h9 => h9) rfl dF_baseCost_50 ?_
    refine lv_iload_n hx hb dF_baseCost_53 rfl (lv_at hl 3 rfl) ?_
    obtain ⟨hi18, hw⟩ := hw
    refine va_iald hx hb hK hP 6 3 rfl rfl hi18 dF_baseCost_54 ?_
    refine ct_i (va_runSN (As := [.int (f 10 (n 2).toNatClampNeg), .int (f 6 p1.toNatClampNeg)]) (rest := [.ref (a 14)]) ⟨hx, hb, hml, hown, hts⟩ (met_C_place l dC dI a cA sa (f 10 (n 2).toNatClampNeg) (f 6 p1.toNatClampNeg) n f _ hw) ⟨va_cnB 2 hts (wb_N wt_316) rfl rfl rfl hZ.1 (hts (.initialized "CoverTrees") (List.mem_cons_of_mem _ wt_27)) (by decide +kernel) ⟨Nat.le_of_ble_eq_true rfl, Nat.le_of_ble_eq_true rfl⟩, (hts (.static yC_place) (List.mem_cons_of_mem _ wt_315)), trivial⟩ (ct_pre hK hP (hDa _ _) hZ hS hA) rfl rfl hl.1 rfl (lv_room (Nat.le_of_ble_eq_true rfl)) dF_baseCost_55 ⟨Nat.le_of_ble_eq_true rfl, Nat.le_of_ble_eq_true rfl⟩) (hDa _ _) hS hA (fun r19 n_20 f_21 H locs hw hP hS => ?_)
    obtain ⟨hi22, hw⟩ := hw
    refine va_iald hx hb hK hP 14 11 rfl rfl hi22 dF_baseCost_58 ?_
    refine lv_topi (fun x4_23 ex4_23 => ?_)
    have hw := hw x4_23 ex4_23
    refine lv_istore (lv' := [(4, .int x4_23), (3, .int x3_5), (2, .int x2_3), (0, .ref (a 2)), (1, .int p1)]) hx hb dF_baseCost_59 hl (by decide) rfl (fun ls hl => ?_)
    refine lv_iload hx hb dF_baseCost_61 (lv_at hl 0 rfl) ?_
    refine lv_iconst (v := (-1)) hx hb dF_baseCost_63 (by decide) ?_
    refine lv_icmp_ne (tgt := 69) hx hb dF_baseCost_64 (by decide) (fun c24 => ?_) (fun c24 => ?_)
    · have hw := hw.1 c24
      refine lv_iload_n hx hb dF_baseCost_69 rfl (lv_at hl 1 rfl) ?_
      refine lv_iload hx hb dF_baseCost_70 (lv_at hl 0 rfl) ?_
      refine lv_iadd hx hb dF_baseCost_72 ?_
      refine lv_topi (fun x3_25 ex3_25 => ?_)
      have hw := hw x3_25 ex3_25
      refine lv_istore_n (lv' := [(3, .int x3_25), (4, .int x4_23), (2, .int x2_3), (0, .ref (a 2)), (1, .int p1)]) hx hb dF_baseCost_73 rfl hl (by decide) rfl (fun ls hl => ?_)
      exact join_74 p1 x2_3 x3_25 n_20 f_21 _ _ ls hw hP hS (lv_sub hl [3, 4, 2, 0] rfl)
    · have hw := hw.2 c24
      refine lv_iconst (v := (-1)) hx hb dF_baseCost_67 (by decide) ?_
      exact W.iret (v := (-1)) hx hb hr (fun t ht hW => ⟨⟨(-1), (n_20, f_21), rfl, hw, ct_mkB ht hP⟩, hS.F ht⟩) hS.2.2 dF_baseCost_68
def wp_F_offer_J42 (post : ctN → ctF → Prop) (x1 : Int32) (x2 : Int32) (x3 : Int32) (n : ctN) (f : ctF) : Prop := vp_in x3 960 ∧ (∀ f_9 : ctF, f_9 = va_up f 14 (upd (f 14) x3.toNatClampNeg x2) → (vp_in x3 960 ∧ (∀ f_11 : ctF, f_11 = va_up f_9 15 (upd (f_9 15) x3.toNatClampNeg x1) → (post n f_11))))
def wp_F_offer (post : ctN → ctF → Prop) (p1 : Int32) (p2 : Int32) (n : ctN) (f : ctF) : Prop := vp_in p1 40 ∧ (wp_C_place (fun (r2 : Int32) (n_3 : ctN) (f_4 : ctF) => (p2 = (-1) → (post n_3 f_4)) ∧ (¬ p2 = (-1) → (vp_in r2 960 ∧ (((f_4 14 r2.toNatClampNeg) = (-1) → (wp_F_offer_J42 post p1 p2 r2 n_3 f_4)) ∧ (¬ (f_4 14 r2.toNatClampNeg) = (-1) → (vp_in r2 960 ∧ (((f_4 14 r2.toNatClampNeg) ≤ p2 → (post n_3 f_4)) ∧ (¬ (f_4 14 r2.toNatClampNeg) ≤ p2 → (wp_F_offer_J42 post p1 p2 r2 n_3 f_4))))))))) (n 2) (f 4 p1.toNatClampNeg) n f)
set_option maxHeartbeats 4000000 in
set_option maxRecDepth 100000 in
theorem met_F_offer (l : Launch) (dC : Nat → ClassId) (dI : Nat → Nat → Nat) (a : Nat → Nat) (cA : Nat → ClassId) (sa : Nat → Nat) (p1 : Int32) (p2 : Int32) (n : ctN) (f : ctF) (sz : Nat) {post : ctN → ctF → Prop} (hw : wp_F_offer post p1 p2 n f) : Met l yF_offer wsF_offer ({ frames := 1, cells := 0, slots := 0, locals := 21 } : Room) (ct_Pc dC dI a cA sa [.ref (a 2), .int p1, .int p2] n f sz) (va_Qv (fun (u : ctN × ctF) => post u.1 u.2) (ct_B dC dI a cA) (va_A (ctW a cA n f) sz)) 0 0 (va_A (ctW a cA n f) sz) := by
  refine Met.ofW (cc := cF_offer) (maxL := 4) (ret := none) (by decide) rfl ?_
  intro p e s m args below meth c s₁ B hml hv
  obtain ⟨rfl, hsz, hP, hK, hD0, hZ⟩ := hv
  have hx := B.exec
  have hb := B.bytes
  have hr := B.returns
  have hts := atoms_spec (ws := wsF_offer) B.pre
  have hown : s.vm.findClass RF = some m.cls := findClass_of_methodNamed B.named
  have hlocks := B.notSynchronized
  subst hsz
  have hD := hD0.self (sz := s.heap.size)
  generalize hAe : va_A (ctW a cA n f) s.heap.size = A at hD hZ ⊢
  have hDa : ∀ (n : ctN) (f : ctF), va_D A (ctW a cA n f) := fun _ _ => ct_D hD
  have hA : ∀ q : Nat, s.heap.size ≤ q → A q := fun q h => by rw [← hAe]; exact Or.inr h
  have hS : va_S A s.heap s.heap [] := va_S.rf
  have hl := lv_entry ([.ref (a 2), .int p1, .int p2]) (n := 4) (Nat.le_of_ble_eq_true rfl)
  rw [lg_entry_eq]
  generalize (lg_sl ([.ref (a 2), .int p1, .int p2]) ++ List.replicate (4 - (lg_sl ([.ref (a 2), .int p1, .int p2])).length) Slot.unset).toArray = ls at hl ⊢
  have hl : lv_has ls 4 [(0, .ref (a 2)), (1, .int p1), (2, .int p2)] := hl
  unfold wp_F_offer at hw
  have join_42 : ∀ (x1 x2 x3 : Int32) (n : ctN) (f : ctF) (H : Heap) (locs : List Loc) (ls : Array Slot), wp_F_offer_J42 post x1 x2 x3 n f → va_P (dC, dI) vcl (ctW a cA n f) H → va_S A s.heap H locs → lv_has ls 4 [(0, .ref (a 2)), (1, .int x1), (2, .int x2), (3, .int x3)] → W p l e (headSpec wsF_offer ({ frames := 1, cells := 0, slots := 0, locals := 21 } : Room)).room s m (([.ref (a 2), .int p1, .int p2] : List Value).toArray) below meth c H locs 0 0 (MQ below (va_Qv (fun (u : ctN × ctF) => post u.1 u.2) (ct_B dC dI a cA) A) (([.ref (a 2), .int p1, .int p2] : List Value).toArray) s 0 0 A) (F0 m 42 ls []) := by
    intro x1 x2 x3 n f H locs ls hw hP hS hl
    unfold wp_F_offer_J42 at hw
    refine lv_aload_n hx hb dF_offer_42 rfl (lv_at hl 0 rfl) ?_
    refine va_get (D := (dC, dI)) (ci := 2) (v := .ref (a 14)) (C := RF) (T := TF) (N := 11) hx hb hts (fun w h => List.mem_cons_of_mem _ (inF w h)) hown hK hP 2 rfl rfl 7 (by decide) (hts (.fieldLink RF 27 "CoverTrees$Forest" "cost" "[I") (List.mem_cons_of_mem _ wt_103)) (fun _ h9 => h9) rfl dF_offer_43 ?_
    refine lv_iload_n hx hb dF_offer_46 rfl (lv_at hl 3 rfl) ?_
    refine lv_iload_n hx hb dF_offer_47 rfl (lv_at hl 2 rfl) ?_
    obtain ⟨hi8, hw⟩ := hw
    refine va_iast hx hb hK hP (hDa _ _) hS 14 11 rfl rfl hi8 dF_offer_48 (fun H locs hP _ hS => ?_)
    obtain ⟨f_9, ef_9⟩ : ∃ z : ctF, z = va_up f 14 (upd (f 14) x3.toNatClampNeg x2) := ⟨_, rfl⟩
    have hw := hw f_9 ef_9
    have hP : va_P (dC, dI) vcl (ctW a cA n f_9) H := by rw [ef_9]; exact hP
    refine lv_aload_n hx hb dF_offer_49 rfl (lv_at hl 0 rfl) ?_
    refine va_get (D := (dC, dI)) (ci := 2) (v := .ref (a 15)) (C := RF) (T := TF) (N := 11) hx hb hts (fun w h => List.mem_cons_of_mem _ (inF w h)) hown hK hP 2 rfl rfl 8 (by decide) (hts (.fieldLink RF 30 "CoverTrees$Forest" "rule" "[I") (List.mem_cons_of_mem _ wt_105)) (fun _ h9 => h9) rfl dF_offer_50 ?_
    refine lv_iload_n hx hb dF_offer_53 rfl (lv_at hl 3 rfl) ?_
    refine lv_iload_n hx hb dF_offer_54 rfl (lv_at hl 1 rfl) ?_
    obtain ⟨hi10, hw⟩ := hw
    refine va_iast hx hb hK hP (hDa _ _) hS 15 12 rfl rfl hi10 dF_offer_55 (fun H locs hP _ hS => ?_)
    obtain ⟨f_11, ef_11⟩ : ∃ z : ctF, z = va_up f_9 15 (upd (f_9 15) x3.toNatClampNeg x1) := ⟨_, rfl⟩
    have hw := hw f_11 ef_11
    have hP : va_P (dC, dI) vcl (ctW a cA n f_11) H := by rw [ef_11]; exact hP
    exact W.vret hx hb hr (fun t ht hW => ⟨⟨(n, f_11), rfl, hw, ct_mkB ht hP⟩, hS.F ht⟩) hS.2.2 dF_offer_56
  refine lv_aload_n hx hb dF_offer_0 rfl (lv_at hl 0 rfl) ?_
  refine va_get (D := (dC, dI)) (ci := 2) (v := .int (n 2)) (C := RF) (T := TF) (N := 11) hx hb hts (fun w h => List.mem_cons_of_mem _ (inF w h)) hown hK hP 2 rfl rfl 1 (by decide) (hts (.fieldLink RF 44 "CoverTrees$Forest" "count" "I") (List.mem_cons_of_mem _ wt_96)) (fun _ h9 => h9) rfl dF_offer_1 ?_
  refine lv_aload_n hx hb dF_offer_4 rfl (lv_at hl 0 rfl) ?_
  refine va_get (D := (dC, dI)) (ci := 2) (v := .ref (a 1)) (C := RF) (T := TF) (N := 11) hx hb hts (fun w h => List.mem_cons_of_mem _ (inF w h)) hown hK hP 2 rfl rfl 0 (by decide) (hts (.fieldLink RF 40 "CoverTrees$Forest" "grammar" "LCoverTrees$Grammar;") (List.mem_cons_of_mem _ wt_94)) (fun _ h9 => h9) rfl dF_offer_5 ?_
  refine va_get (D := (dC, dI)) (ci := 1) (v := .ref (a 4)) (C := RG) (T := TG) (N := 8) hx hb hts (fun w h => List.mem_cons_of_mem _ (inG w h)) hown hK hP 1 rfl rfl 3 (by decide) (hts (.fieldLink RF 85 "CoverTrees$Grammar" "goal" "[I") (List.mem_cons_of_mem _ wt_61)) (fun _ h9 => h9) rfl dF_offer_8 ?_
  refine lv_iload_n hx hb dF_offer_11 rfl (lv_at hl 1 rfl) ?_
  obtain ⟨hi1, hw⟩ := hw
  refine va_iald hx hb hK hP 4 1 rfl rfl hi1 dF_offer_12 ?_
  refine ct_i (va_runSN (As := [.int (n 2), .int (f 4 p1.toNatClampNeg)]) (rest := []) ⟨hx, hb, hml, hown, hts⟩ (met_C_place l dC dI a cA sa (n 2) (f 4 p1.toNatClampNeg) n f _ hw) ⟨va_cnB 2 hts (wb_N wt_316) rfl rfl rfl hZ.1 (hts (.initialized "CoverTrees") (List.mem_cons_of_mem _ wt_27)) (by decide +kernel) ⟨Nat.le_of_ble_eq_true rfl, Nat.le_of_ble_eq_true rfl⟩, (hts (.static yC_place) (List.mem_cons_of_mem _ wt_315)), trivial⟩ (ct_pre hK hP (hDa _ _) hZ hS hA) rfl rfl hl.1 rfl (lv_room (Nat.le_of_ble_eq_true rfl)) dF_offer_13 ⟨Nat.le_of_ble_eq_true rfl, Nat.le_of_ble_eq_true rfl⟩) (hDa _ _) hS hA (fun r2 n_3 f_4 H locs hw hP hS => ?_)
  refine lv_istore_n (lv' := [(3, .int r2), (0, .ref (a 2)), (1, .int p1), (2, .int p2)]) hx hb dF_offer_16 rfl hl (by decide) rfl (fun ls hl => ?_)
  refine lv_iload_n hx hb dF_offer_17 rfl (lv_at hl 3 rfl) ?_
  refine lv_iconst (v := (-1)) hx hb dF_offer_18 (by decide) ?_
  refine lv_icmp_eq (tgt := 56) hx hb dF_offer_19 (by decide) (fun c5 => ?_) (fun c5 => ?_)
  · have hw := hw.1 c5
    exact W.vret hx hb hr (fun t ht hW => ⟨⟨(n_3, f_4), rfl, hw, ct_mkB ht hP⟩, hS.F ht⟩) hS.2.2 dF_offer_56
  · have hw := hw.2 c5
    refine lv_aload_n hx hb dF_offer_22 rfl (lv_at hl 1 rfl) ?_
    refine va_get (D := (dC, dI)) (ci := 2) (v := .ref (a 14)) (C := RF) (T := TF) (N := 11) hx hb hts (fun w h => List.mem_cons_of_mem _ (inF w h)) hown hK hP 2 rfl rfl 7 (by decide) (hts (.fieldLink RF 27 "CoverTrees$Forest" "cost" "[I") (List.mem_cons_of_mem _ wt_103)) (fun _ h9 => h9) rfl dF_offer_23 ?_
    refine lv_iload_n hx hb dF_offer_26 rfl (lv_at hl 0 rfl) ?_
    obtain ⟨hi6, hw⟩ := hw
    refine va_iald hx hb hK hP 14 11 rfl rfl hi6 dF_offer_27 ?_
    refine lv_iconst (v := (-1)) hx hb dF_offer_28 (by decide) ?_
    refine lv_icmp_eq (tgt := 42) hx hb dF_offer_29 (by decide) (fun c7 => ?_) (fun c7 => ?_)
    · have hw := hw.1 c7
      exact join_42 p1 p2 r2 n_3 f_4 _ _ ls hw hP hS (lv_sub hl [1, 2, 3, 0] rfl)
    · have hw := hw.2 c7
      refine lv_iload_n hx hb dF_offer_32 rfl (lv_at hl 3 rfl) ?_
      refine lv_aload_n hx hb dF_offer_33 rfl (lv_at hl 1 rfl) ?_
      refine va_get (D := (dC, dI)) (ci := 2) (v := .ref (a 14)) (C := RF) (T := TF) (N := 11) hx hb hts (fun w h => List.mem_cons_of_mem _ (inF w h)) hown hK hP 2 rfl rfl 7 (by decide) (hts (.fieldLink RF 27 "CoverTrees$Forest" "cost" "[I") (List.mem_cons_of_mem _ wt_103)) (fun _ h9 => h9) rfl dF_offer_34 ?_
      refine lv_iload_n hx hb dF_offer_37 rfl (lv_at hl 0 rfl) ?_
      obtain ⟨hi12, hw⟩ := hw
      refine va_iald hx hb hK hP 14 11 rfl rfl hi12 dF_offer_38 ?_
      refine lv_icmp_ge (tgt := 56) hx hb dF_offer_39 (by decide) (fun c13 => ?_) (fun c13 => ?_)
      · have hw := hw.1 c13
        exact W.vret hx hb hr (fun t ht hW => ⟨⟨(n_3, f_4), rfl, hw, ct_mkB ht hP⟩, hS.F ht⟩) hS.2.2 dF_offer_56
      · have hw := hw.2 c13
        exact join_42 p1 p2 r2 n_3 f_4 _ _ ls hw hP hS (lv_sub hl [1, 2, 3, 0] rfl)
def wp_F_applyBaseRules_L2 (post : ctN → ctF → Prop) : Nat → Int32 → ctN → ctF → Prop
  | 0, _, _, _ => False
  | k + 1, x1, n, f => ((n 1) ≤ x1 → (post n f)) ∧ (¬ (n 1) ≤ x1 → (vp_in x1 40 ∧ (vp_in (n 2) 120 ∧ ((¬ (f 5 x1.toNatClampNeg) = (f 9 (n 2).toNatClampNeg) → (∀ x1_5 : Int32, x1_5 = x1 + 1 → (wp_F_applyBaseRules_L2 post k x1_5 n f))) ∧ ((f 5 x1.toNatClampNeg) = (f 9 (n 2).toNatClampNeg) → (wp_F_baseCost (fun (r6 : Int32) (n_7 : ctN) (f_8 : ctF) => wp_F_offer (fun (n_10 : ctN) (f_11 : ctF) => ∀ x1_12 : Int32, x1_12 = x1 + 1 → (wp_F_applyBaseRules_L2 post k x1_12 n_10 f_11)) x1 r6 n_7 f_8) x1 n f))))))
def wp_F_applyBaseRules (post : ctN → ctF → Prop) (n : ctN) (f : ctF) : Prop := ∃ j, wp_F_applyBaseRules_L2 post j 0 n f
set_option maxHeartbeats 4000000 in
set_option maxRecDepth 100000 in
theorem met_F_applyBaseRules (l : Launch) (dC : Nat → ClassId) (dI : Nat → Nat → Nat) (a : Nat → Nat) (cA : Nat → ClassId) (sa : Nat → Nat) (n : ctN) (f : ctF) (sz : Nat) {post : ctN → ctF → Prop} (hw : wp_F_applyBaseRules post n f) : Met l yF_applyBaseRules wsF_applyBaseRules ({ frames := 2, cells := 0, slots := 0, locals := 45 } : Room) (ct_Pc dC dI a cA sa [.ref (a 2)] n f sz) (va_Qv (fun (u : ctN × ctF) => post u.1 u.2) (ct_B dC dI a cA) (va_A (ctW a cA n f) sz)) 0 0 (va_A (ctW a cA n f) sz) := by
  refine Met.ofW (cc := cF_applyBaseRules) (maxL := 2) (ret := none) (by decide) rfl ?_
  intro p e s m args below meth c s₁ B hml hv
  obtain ⟨rfl, hsz, hP, hK, hD0, hZ⟩ := hv
  have hx := B.exec
  have hb := B.bytes
  have hr := B.returns
  have hts := atoms_spec (ws := wsF_applyBaseRules) B.pre
  have hown : s.vm.findClass RF = some m.cls := findClass_of_methodNamed B.named
  have hlocks := B.notSynchronized
  subst hsz
  have hD := hD0.self (sz := s.heap.size)
  generalize hAe : va_A (ctW a cA n f) s.heap.size = A at hD hZ ⊢
  have hDa : ∀ (n : ctN) (f : ctF), va_D A (ctW a cA n f) := fun _ _ => ct_D hD
  have hA : ∀ q : Nat, s.heap.size ≤ q → A q := fun q h => by rw [← hAe]; exact Or.inr h
  have hS : va_S A s.heap s.heap [] := va_S.rf
  have hl := lv_entry ([.ref (a 2)]) (n := 2) (Nat.le_of_ble_eq_true rfl)
  rw [lg_entry_eq]
  generalize (lg_sl ([.ref (a 2)]) ++ List.replicate (2 - (lg_sl ([.ref (a 2)])).length) Slot.unset).toArray = ls at hl ⊢
  have hl : lv_has ls 2 [(0, .ref (a 2))] := hl
  unfold wp_F_applyBaseRules at hw
  have loop_2 : ∀ (k : Nat) (x1 : Int32) (n : ctN) (f : ctF) (H : Heap) (locs : List Loc) (ls : Array Slot), wp_F_applyBaseRules_L2 post k x1 n f → va_P (dC, dI) vcl (ctW a cA n f) H → va_S A s.heap H locs → lv_has ls 2 [(0, .ref (a 2)), (1, .int x1)] → W p l e (headSpec wsF_applyBaseRules ({ frames := 2, cells := 0, slots := 0, locals := 45 } : Room)).room s m (([.ref (a 2)] : List Value).toArray) below meth c H locs 0 0 (MQ below (va_Qv (fun (u : ctN × ctF) => post u.1 u.2) (ct_B dC dI a cA) A) (([.ref (a 2)] : List Value).toArray) s 0 0 A) (F0 m 2 ls []) := by
    intro k
    induction k with
    | zero => intro x1 n f H locs ls hw; exact hw.elim
    | succ k ih =>
      intro x1 n f H locs ls hw hP hS hl
      rw [wp_F_applyBaseRules_L2] at hw
      refine lv_iload_n hx hb dF_applyBaseRules_2 rfl (lv_at hl 1 rfl) ?_
      refine lv_aload_n hx hb dF_applyBaseRules_3 rfl (lv_at hl 0 rfl) ?_
      refine va_get (D := (dC, dI)) (ci := 2) (v := .ref (a 1)) (C := RF) (T := TF) (N := 11) hx hb hts (fun w h => List.mem_cons_of_mem _ (inF w h)) hown hK hP 2 rfl rfl 0 (by decide) (hts (.fieldLink RF 40 "CoverTrees$Forest" "grammar" "LCoverTrees$Grammar;") (List.mem_cons_of_mem _ wt_94)) (fun _ h9 => h9) rfl dF_applyBaseRules_4 ?_
      refine va_get (D := (dC, dI)) (ci := 1) (v := .int (n 1)) (C := RG) (T := TG) (N := 8) hx hb hts (fun w h => List.mem_cons_of_mem _ (inG w h)) hown hK hP 1 rfl rfl 2 (by decide) (hts (.fieldLink RF 66 "CoverTrees$Grammar" "ruleCount" "I") (List.mem_cons_of_mem _ wt_59)) (fun _ h9 => h9) rfl dF_applyBaseRules_7 ?_
      refine lv_icmp_ge (tgt := 50) hx hb dF_applyBaseRules_10 (by decide) (fun c1 => ?_) (fun c1 => ?_)
      · have hw := hw.1 c1
        exact W.vret hx hb hr (fun t ht hW => ⟨⟨(n, f), rfl, hw, ct_mkB ht hP⟩, hS.F ht⟩) hS.2.2 dF_applyBaseRules_50
      · have hw := hw.2 c1
        refine lv_aload_n hx hb dF_applyBaseRules_13 rfl (lv_at hl 0 rfl) ?_
        refine va_get (D := (dC, dI)) (ci := 2) (v := .ref (a 1)) (C := RF) (T := TF) (N := 11) hx hb hts (fun w h => List.mem_cons_of_mem _ (inF w h)) hown hK hP 2 rfl rfl 0 (by decide) (hts (.fieldLink RF 40 "CoverTrees$Forest" "grammar" "LCoverTrees$Grammar;") (List.mem_cons_of_mem _ wt_94)) (fun _ h9 => h9) rfl dF_applyBaseRules_14 ?_
        refine va_get (D := (dC, dI)) (ci := 1) (v := .ref (a 5)) (C := RG) (T := TG) (N := 8) hx hb hts (fun w h => List.mem_cons_of_mem _ (inG w h)) hown hK hP 1 rfl rfl 4 (by decide) (hts (.fieldLink RF 71 "CoverTrees$Grammar" "operator" "[I") (List.mem_cons_of_mem _ wt_63)) (fun _ h9 => h9) rfl dF_applyBaseRules_17 ?_
        refine lv_iload_n hx hb dF_applyBaseRules_20 rfl (lv_at hl 1 rfl) ?_
        obtain ⟨hi2, hw⟩ := hw
        refine va_iald hx hb hK hP 5 2 rfl rfl hi2 dF_applyBaseRules_21 ?_
        refine lv_aload_n hx hb dF_applyBaseRules_22 rfl (lv_at hl 0 rfl) ?_
        refine va_get (D := (dC, dI)) (ci := 2) (v := .ref (a 9)) (C := RF) (T := TF) (N := 11) hx hb hts (fun w h => List.mem_cons_of_mem _ (inF w h)) hown hK hP 2 rfl rfl 2 (by decide) (hts (.fieldLink RF 9 "CoverTrees$Forest" "operator" "[I") (List.mem_cons_of_mem _ wt_97)) (fun _ h9 => h9) rfl dF_applyBaseRules_23 ?_
        refine lv_aload_n hx hb dF_applyBaseRules_26 rfl (lv_at hl 0 rfl) ?_
        refine va_get (D := (dC, dI)) (ci := 2) (v := .int (n 2)) (C := RF) (T := TF) (N := 11) hx hb hts (fun w h => List.mem_cons_of_mem _ (inF w h)) hown hK hP 2 rfl rfl 1 (by decide) (hts (.fieldLink RF 44 "CoverTrees$Forest" "count" "I") (List.mem_cons_of_mem _ wt_96)) (fun _ h9 => h9) rfl dF_applyBaseRules_27 ?_
        obtain ⟨hi3, hw⟩ := hw
        refine va_iald hx hb hK hP 9 6 rfl rfl hi3 dF_applyBaseRules_30 ?_
        refine lv_icmp_ne (tgt := 44) hx hb dF_applyBaseRules_31 (by decide) (fun c4 => ?_) (fun c4 => ?_)
        · have hw := hw.1 c4
          obtain ⟨x1_5, ex1_5⟩ : ∃ y : Int32, y = x1 + 1 := ⟨_, rfl⟩
          have hw := hw x1_5 ex1_5
          refine lv_iinc (v := x1_5) (lv' := [(1, .int x1_5), (0, .ref (a 2))]) hx hb dF_applyBaseRules_44 hl (k := 1) rfl (by rw [ex1_5]; rfl) (by decide) rfl (fun ls hl => ?_)
          refine lv_goto (tgt := 2) hx hb dF_applyBaseRules_47 (by decide) ?_
          exact ih x1_5 n f _ _ ls hw hP hS (lv_sub hl [1, 0] rfl)
        · have hw := hw.2 c4
          refine lv_aload_n hx hb dF_applyBaseRules_34 rfl (lv_at hl 0 rfl) ?_
          refine lv_iload_n hx hb dF_applyBaseRules_35 rfl (lv_at hl 1 rfl) ?_
          refine lv_aload_n hx hb dF_applyBaseRules_36 rfl (lv_at hl 0 rfl) ?_
          refine lv_iload_n hx hb dF_applyBaseRules_37 rfl (lv_at hl 1 rfl) ?_
          refine ct_i (va_runV (As := [.int x1]) (rest := [.int x1, .ref (a 2)]) ⟨hx, hb, hml, hown, hts⟩ (met_F_baseCost l dC dI a cA sa x1 n f _ hw) (cwV 1 hts (wb_V wt_321 wt_323 wt_4 wt_29 wt_324) rfl rfl rfl (by decide +kernel) ⟨Nat.le_of_ble_eq_true rfl, Nat.le_of_ble_eq_true rfl⟩) (ct_preV hK hP (hDa _ _) hZ hS hA (va_recv hK hP (ci := 2) (q0 := 2) rfl rfl)) rfl rfl hl.1 rfl (lv_room (Nat.le_of_ble_eq_true rfl)) dF_applyBaseRules_38 ⟨Nat.le_of_ble_eq_true rfl, Nat.le_of_ble_eq_true rfl⟩) (hDa _ _) hS hA (fun r6 n_7 f_8 H locs hw hP hS => ?_)
          refine ct_v (va_runV (As := [.int x1, .int r6]) (rest := []) ⟨hx, hb, hml, hown, hts⟩ (met_F_offer l dC dI a cA sa x1 r6 n_7 f_8 _ hw) (cwV 2 hts (wb_V wt_325 wt_327 wt_5 wt_29 wt_328) rfl rfl rfl (by decide +kernel) ⟨Nat.le_of_ble_eq_true rfl, Nat.le_of_ble_eq_true rfl⟩) (ct_preV hK hP (hDa _ _) hZ hS hA (va_recv hK hP (ci := 2) (q0 := 2) rfl rfl)) rfl rfl hl.1 rfl (lv_room (Nat.le_of_ble_eq_true rfl)) dF_applyBaseRules_41 ⟨Nat.le_of_ble_eq_true rfl, Nat.le_of_ble_eq_true rfl⟩) (hDa _ _) hS hA (fun n_10 f_11 H locs hw hP hS => ?_)
          obtain ⟨x1_12, ex1_12⟩ : ∃ y : Int32, y = x1 + 1 := ⟨_, rfl⟩
          have hw := hw x1_12 ex1_12
          refine lv_iinc (v := x1_12) (lv' := [(1, .int x1_12), (0, .ref (a 2))]) hx hb dF_applyBaseRules_44 hl (k := 1) rfl (by rw [ex1_12]; rfl) (by decide) rfl (fun ls hl => ?_)
          refine lv_goto (tgt := 2) hx hb dF_applyBaseRules_47 (by decide) ?_
          exact ih x1_12 n_10 f_11 _ _ ls hw hP hS (lv_sub hl [1, 0] rfl)
  refine lv_iconst (v := 0) hx hb dF_applyBaseRules_0 (by decide) ?_
  refine lv_istore_n (lv' := [(1, .int 0), (0, .ref (a 2))]) hx hb dF_applyBaseRules_1 rfl hl (by decide) rfl (fun ls hl => ?_)
  obtain ⟨j, hw⟩ := hw
  exact loop_2 j 0 n f _ _ ls hw hP hS (lv_sub hl [1, 0] rfl)
def wp_F_cheapestUnsettled_L4 (post : Int32 → ctN → ctF → Prop) : Nat → Int32 → Int32 → ctN → ctF → Prop
  | 0, _, _, _, _ => False
  | k + 1, x1, x2, n, f => (8 ≤ x2 → (post x1 n f)) ∧ (¬ 8 ≤ x2 → (wp_C_place (fun (r2 : Int32) (n_3 : ctN) (f_4 : ctF) => vp_in r2 960 ∧ (∀ x3_6 : Int32, x3_6 = (f_4 14 r2.toNatClampNeg) → (vp_in x2 8 ∧ ((¬ (f_4 17 x2.toNatClampNeg) = 0 → (∀ x2_9 : Int32, x2_9 = x2 + 1 → (wp_F_cheapestUnsettled_L4 post k x1 x2_9 n_3 f_4))) ∧ ((f_4 17 x2.toNatClampNeg) = 0 → ((x3_6 = (-1) → (∀ x2_11 : Int32, x2_11 = x2 + 1 → (wp_F_cheapestUnsettled_L4 post k x1 x2_11 n_3 f_4))) ∧ (¬ x3_6 = (-1) → ((x1 = (-1) → (∀ x2_13 : Int32, x2_13 = x2 + 1 → (wp_F_cheapestUnsettled_L4 post k x2 x2_13 n_3 f_4))) ∧ (¬ x1 = (-1) → (wp_C_place (fun (r14 : Int32) (n_15 : ctN) (f_16 : ctF) => vp_in r14 960 ∧ (((f_16 14 r14.toNatClampNeg) ≤ x3_6 → (∀ x2_19 : Int32, x2_19 = x2 + 1 → (wp_F_cheapestUnsettled_L4 post k x1 x2_19 n_15 f_16))) ∧ (¬ (f_16 14 r14.toNatClampNeg) ≤ x3_6 → (∀ x2_20 : Int32, x2_20 = x2 + 1 → (wp_F_cheapestUnsettled_L4 post k x2 x2_20 n_15 f_16))))) (n_3 2) x1 n_3 f_4)))))))))) (n 2) x2 n f))
def wp_F_cheapestUnsettled (post : Int32 → ctN → ctF → Prop) (n : ctN) (f : ctF) : Prop := ∃ j, wp_F_cheapestUnsettled_L4 post j (-1) 0 n f
set_option maxHeartbeats 4000000 in
set_option maxRecDepth 100000 in
theorem met_F_cheapestUnsettled (l : Launch) (dC : Nat → ClassId) (dI : Nat → Nat → Nat) (a : Nat → Nat) (cA : Nat → ClassId) (sa : Nat → Nat) (n : ctN) (f : ctF) (sz : Nat) {post : Int32 → ctN → ctF → Prop} (hw : wp_F_cheapestUnsettled post n f) : Met l yF_cheapestUnsettled wsF_cheapestUnsettled ({ frames := 1, cells := 0, slots := 0, locals := 21 } : Room) (ct_Pc dC dI a cA sa [.ref (a 2)] n f sz) (va_Qi (fun (r : Int32) (u : ctN × ctF) => post r u.1 u.2) (ct_B dC dI a cA) (va_A (ctW a cA n f) sz)) 0 0 (va_A (ctW a cA n f) sz) := by
  refine Met.ofW (cc := cF_cheapestUnsettled) (maxL := 4) (ret := (some .int)) (by decide) rfl ?_
  intro p e s m args below meth c s₁ B hml hv
  obtain ⟨rfl, hsz, hP, hK, hD0, hZ⟩ := hv
  have hx := B.exec
  have hb := B.bytes
  have hr := B.returns
  have hts := atoms_spec (ws := wsF_cheapestUnsettled) B.pre
  have hown : s.vm.findClass RF = some m.cls := findClass_of_methodNamed B.named
  have hlocks := B.notSynchronized
  subst hsz
  have hD := hD0.self (sz := s.heap.size)
  generalize hAe : va_A (ctW a cA n f) s.heap.size = A at hD hZ ⊢
  have hDa : ∀ (n : ctN) (f : ctF), va_D A (ctW a cA n f) := fun _ _ => ct_D hD
  have hA : ∀ q : Nat, s.heap.size ≤ q → A q := fun q h => by rw [← hAe]; exact Or.inr h
  have hS : va_S A s.heap s.heap [] := va_S.rf
  have hl := lv_entry ([.ref (a 2)]) (n := 4) (Nat.le_of_ble_eq_true rfl)
  rw [lg_entry_eq]
  generalize (lg_sl ([.ref (a 2)]) ++ List.replicate (4 - (lg_sl ([.ref (a 2)])).length) Slot.unset).toArray = ls at hl ⊢
  have hl : lv_has ls 4 [(0, .ref (a 2))] := hl
  unfold wp_F_cheapestUnsettled at hw
  have loop_4 : ∀ (k : Nat) (x1 x2 : Int32) (n : ctN) (f : ctF) (H : Heap) (locs : List Loc) (ls : Array Slot), wp_F_cheapestUnsettled_L4 post k x1 x2 n f → va_P (dC, dI) vcl (ctW a cA n f) H → va_S A s.heap H locs → lv_has ls 4 [(0, .ref (a 2)), (1, .int x1), (2, .int x2)] → W p l e (headSpec wsF_cheapestUnsettled ({ frames := 1, cells := 0, slots := 0, locals := 21 } : Room)).room s m (([.ref (a 2)] : List Value).toArray) below meth c H locs 0 0 (MQ below (va_Qi (fun (r : Int32) (u : ctN × ctF) => post r u.1 u.2) (ct_B dC dI a cA) A) (([.ref (a 2)] : List Value).toArray) s 0 0 A) (F0 m 4 ls []) := by
    intro k
    induction k with
    | zero => intro x1 x2 n f H locs ls hw; exact hw.elim
    | succ k ih =>
      intro x1 x2 n f H locs ls hw hP hS hl
      rw [wp_F_cheapestUnsettled_L4] at hw
      refine lv_iload_n hx hb dF_cheapestUnsettled_4 rfl (lv_at hl 2 rfl) ?_
      refine lv_bipush (v := 8) hx hb dF_cheapestUnsettled_5 (by decide) ?_
      refine lv_icmp_ge (tgt := 68) hx hb dF_cheapestUnsettled_7 (by decide) (fun c1 => ?_) (fun c1 => ?_)
      · have hw := hw.1 c1
        refine lv_iload_n hx hb dF_cheapestUnsettled_68 rfl (lv_at hl 1 rfl) ?_
        exact W.iret (v := x1) hx hb hr (fun t ht hW => ⟨⟨x1, (n, f), rfl, hw, ct_mkB ht hP⟩, hS.F ht⟩) hS.2.2 dF_cheapestUnsettled_69
      · have hw := hw.2 c1
        refine lv_aload_n hx hb dF_cheapestUnsettled_10 rfl (lv_at hl 0 rfl) ?_
        refine va_get (D := (dC, dI)) (ci := 2) (v := .ref (a 14)) (C := RF) (T := TF) (N := 11) hx hb hts (fun w h => List.mem_cons_of_mem _ (inF w h)) hown hK hP 2 rfl rfl 7 (by decide) (hts (.fieldLink RF 27 "CoverTrees$Forest" "cost" "[I") (List.mem_cons_of_mem _ wt_103)) (fun _ h9 => h9) rfl dF_cheapestUnsettled_11 ?_
        refine lv_aload_n hx hb dF_cheapestUnsettled_14 rfl (lv_at hl 0 rfl) ?_
        refine va_get (D := (dC, dI)) (ci := 2) (v := .int (n 2)) (C := RF) (T := TF) (N := 11) hx hb hts (fun w h => List.mem_cons_of_mem _ (inF w h)) hown hK hP 2 rfl rfl 1 (by decide) (hts (.fieldLink RF 44 "CoverTrees$Forest" "count" "I") (List.mem_cons_of_mem _ wt_96)) (fun _ h9 => h9) rfl dF_cheapestUnsettled_15 ?_
        refine lv_iload_n hx hb dF_cheapestUnsettled_18 rfl (lv_at hl 2 rfl) ?_
        refine ct_i (va_runSN (As := [.int (n 2), .int x2]) (rest := [.ref (a 14)]) ⟨hx, hb, hml, hown, hts⟩ (met_C_place l dC dI a cA sa (n 2) x2 n f _ hw) ⟨va_cnB 2 hts (wb_N wt_316) rfl rfl rfl hZ.1 (hts (.initialized "CoverTrees") (List.mem_cons_of_mem _ wt_27)) (by decide +kernel) ⟨Nat.le_of_ble_eq_true rfl, Nat.le_of_ble_eq_true rfl⟩, (hts (.static yC_place) (List.mem_cons_of_mem _ wt_315)), trivial⟩ (ct_pre hK hP (hDa _ _) hZ hS hA) rfl rfl hl.1 rfl (lv_room (Nat.le_of_ble_eq_true rfl)) dF_cheapestUnsettled_19 ⟨Nat.le_of_ble_eq_true rfl, Nat.le_of_ble_eq_true rfl⟩) (hDa _ _) hS hA (fun r2 n_3 f_4 H locs hw hP hS => ?_)
        obtain ⟨hi5, hw⟩ := hw
        refine va_iald hx hb hK hP 14 11 rfl rfl hi5 dF_cheapestUnsettled_22 ?_
        refine lv_topi (fun x3_6 ex3_6 => ?_)
        have hw := hw x3_6 ex3_6
        refine lv_istore_n (lv' := [(3, .int x3_6), (0, .ref (a 2)), (1, .int x1), (2, .int x2)]) hx hb dF_cheapestUnsettled_23 rfl hl (by decide) rfl (fun ls hl => ?_)
        refine lv_aload_n hx hb dF_cheapestUnsettled_24 rfl (lv_at hl 1 rfl) ?_
        refine va_get (D := (dC, dI)) (ci := 2) (v := .ref (a 17)) (C := RF) (T := TF) (N := 11) hx hb hts (fun w h => List.mem_cons_of_mem _ (inF w h)) hown hK hP 2 rfl rfl 10 (by decide) (hts (.fieldLink RF 36 "CoverTrees$Forest" "settled" "[Z") (List.mem_cons_of_mem _ wt_109)) (fun _ h9 => h9) rfl dF_cheapestUnsettled_25 ?_
        refine lv_iload_n hx hb dF_cheapestUnsettled_28 rfl (lv_at hl 3 rfl) ?_
        obtain ⟨hi7, hw⟩ := hw
        refine va_zald hx hb hK hP 17 14 rfl rfl hi7 dF_cheapestUnsettled_29 ?_
        refine lv_if_ne (tgt := 62) hx hb dF_cheapestUnsettled_30 (by decide) (fun c8 => ?_) (fun c8 => ?_)
        · have hw := hw.1 c8
          obtain ⟨x2_9, ex2_9⟩ : ∃ y : Int32, y = x2 + 1 := ⟨_, rfl⟩
          have hw := hw x2_9 ex2_9
          refine lv_iinc (v := x2_9) (lv' := [(2, .int x2_9), (3, .int x3_6), (0, .ref (a 2)), (1, .int x1)]) hx hb dF_cheapestUnsettled_62 hl (k := 3) rfl (by rw [ex2_9]; rfl) (by decide) rfl (fun ls hl => ?_)
          refine lv_goto (tgt := 4) hx hb dF_cheapestUnsettled_65 (by decide) ?_
          exact ih x1 x2_9 n_3 f_4 _ _ ls hw hP hS (lv_sub hl [2, 3, 0] rfl)
        · have hw := hw.2 c8
          refine lv_iload_n hx hb dF_cheapestUnsettled_33 rfl (lv_at hl 0 rfl) ?_
          refine lv_iconst (v := (-1)) hx hb dF_cheapestUnsettled_34 (by decide) ?_
          refine lv_icmp_eq (tgt := 62) hx hb dF_cheapestUnsettled_35 (by decide) (fun c10 => ?_) (fun c10 => ?_)
          · have hw := hw.1 c10
            obtain ⟨x2_11, ex2_11⟩ : ∃ y : Int32, y = x2 + 1 := ⟨_, rfl⟩
            have hw := hw x2_11 ex2_11
            refine lv_iinc (v := x2_11) (lv' := [(2, .int x2_11), (3, .int x3_6), (0, .ref (a 2)), (1, .int x1)]) hx hb dF_cheapestUnsettled_62 hl (k := 3) rfl (by rw [ex2_11]; rfl) (by decide) rfl (fun ls hl => ?_)
            refine lv_goto (tgt := 4) hx hb dF_cheapestUnsettled_65 (by decide) ?_
            exact ih x1 x2_11 n_3 f_4 _ _ ls hw hP hS (lv_sub hl [2, 3, 0] rfl)
          · have hw := hw.2 c10
            refine lv_iload_n hx hb dF_cheapestUnsettled_38 rfl (lv_at hl 2 rfl) ?_
            refine lv_iconst (v := (-1)) hx hb dF_cheapestUnsettled_39 (by decide) ?_
            refine lv_icmp_eq (tgt := 60) hx hb dF_cheapestUnsettled_40 (by decide) (fun c12 => ?_) (fun c12 => ?_)
            · have hw := hw.1 c12
              refine lv_iload_n hx hb dF_cheapestUnsettled_60 rfl (lv_at hl 3 rfl) ?_
              refine lv_istore_n (lv' := [(1, .int x2), (3, .int x3_6), (0, .ref (a 2)), (2, .int x2)]) hx hb dF_cheapestUnsettled_61 rfl hl (by decide) rfl (fun ls hl => ?_)
              obtain ⟨x2_13, ex2_13⟩ : ∃ y : Int32, y = x2 + 1 := ⟨_, rfl⟩
              have hw := hw x2_13 ex2_13
              refine lv_iinc (v := x2_13) (lv' := [(2, .int x2_13), (1, .int x2), (3, .int x3_6), (0, .ref (a 2))]) hx hb dF_cheapestUnsettled_62 hl (k := 3) rfl (by rw [ex2_13]; rfl) (by decide) rfl (fun ls hl => ?_)
              refine lv_goto (tgt := 4) hx hb dF_cheapestUnsettled_65 (by decide) ?_
              exact ih x2 x2_13 n_3 f_4 _ _ ls hw hP hS (lv_sub hl [3, 1, 0] rfl)
            · have hw := hw.2 c12
              refine lv_iload_n hx hb dF_cheapestUnsettled_43 rfl (lv_at hl 0 rfl) ?_
              refine lv_aload_n hx hb dF_cheapestUnsettled_44 rfl (lv_at hl 1 rfl) ?_
              refine va_get (D := (dC, dI)) (ci := 2) (v := .ref (a 14)) (C := RF) (T := TF) (N := 11) hx hb hts (fun w h => List.mem_cons_of_mem _ (inF w h)) hown hK hP 2 rfl rfl 7 (by decide) (hts (.fieldLink RF 27 "CoverTrees$Forest" "cost" "[I") (List.mem_cons_of_mem _ wt_103)) (fun _ h9 => h9) rfl dF_cheapestUnsettled_45 ?_
              refine lv_aload_n hx hb dF_cheapestUnsettled_48 rfl (lv_at hl 1 rfl) ?_
              refine va_get (D := (dC, dI)) (ci := 2) (v := .int (n_3 2)) (C := RF) (T := TF) (N := 11) hx hb hts (fun w h => List.mem_cons_of_mem _ (inF w h)) hown hK hP 2 rfl rfl 1 (by decide) (hts (.fieldLink RF 44 "CoverTrees$Forest" "count" "I") (List.mem_cons_of_mem _ wt_96)) (fun _ h9 => h9) rfl dF_cheapestUnsettled_49 ?_
              refine lv_iload_n hx hb dF_cheapestUnsettled_52 rfl (lv_at hl 2 rfl) ?_
              refine ct_i (va_runSN (As := [.int (n_3 2), .int x1]) (rest := [.ref (a 14), .int x3_6]) ⟨hx, hb, hml, hown, hts⟩ (met_C_place l dC dI a cA sa (n_3 2) x1 n_3 f_4 _ hw) ⟨va_cnB 2 hts (wb_N wt_316) rfl rfl rfl hZ.1 (hts (.initialized "CoverTrees") (List.mem_cons_of_mem _ wt_27)) (by decide +kernel) ⟨Nat.le_of_ble_eq_true rfl, Nat.le_of_ble_eq_true rfl⟩, (hts (.static yC_place) (List.mem_cons_of_mem _ wt_315)), trivial⟩ (ct_pre hK hP (hDa _ _) hZ hS hA) rfl rfl hl.1 rfl (lv_room (Nat.le_of_ble_eq_true rfl)) dF_cheapestUnsettled_53 ⟨Nat.le_of_ble_eq_true rfl, Nat.le_of_ble_eq_true rfl⟩) (hDa _ _) hS hA (fun r14 n_15 f_16 H locs hw hP hS => ?_)
              obtain ⟨hi17, hw⟩ := hw
              refine va_iald hx hb hK hP 14 11 rfl rfl hi17 dF_cheapestUnsettled_56 ?_
              refine lv_icmp_ge (tgt := 62) hx hb dF_cheapestUnsettled_57 (by decide) (fun c18 => ?_) (fun c18 => ?_)
              · have hw := hw.1 c18
                obtain ⟨x2_19, ex2_19⟩ : ∃ y : Int32, y = x2 + 1 := ⟨_, rfl⟩
                have hw := hw x2_19 ex2_19
                refine lv_iinc (v := x2_19) (lv' := [(2, .int x2_19), (3, .int x3_6), (0, .ref (a 2)), (1, .int x1)]) hx hb dF_cheapestUnsettled_62 hl (k := 3) rfl (by rw [ex2_19]; rfl) (by decide) rfl (fun ls hl => ?_)
                refine lv_goto (tgt := 4) hx hb dF_cheapestUnsettled_65 (by decide) ?_
                exact ih x1 x2_19 n_15 f_16 _ _ ls hw hP hS (lv_sub hl [2, 3, 0] rfl)
              · have hw := hw.2 c18
                refine lv_iload_n hx hb dF_cheapestUnsettled_60 rfl (lv_at hl 3 rfl) ?_
                refine lv_istore_n (lv' := [(1, .int x2), (3, .int x3_6), (0, .ref (a 2)), (2, .int x2)]) hx hb dF_cheapestUnsettled_61 rfl hl (by decide) rfl (fun ls hl => ?_)
                obtain ⟨x2_20, ex2_20⟩ : ∃ y : Int32, y = x2 + 1 := ⟨_, rfl⟩
                have hw := hw x2_20 ex2_20
                refine lv_iinc (v := x2_20) (lv' := [(2, .int x2_20), (1, .int x2), (3, .int x3_6), (0, .ref (a 2))]) hx hb dF_cheapestUnsettled_62 hl (k := 3) rfl (by rw [ex2_20]; rfl) (by decide) rfl (fun ls hl => ?_)
                refine lv_goto (tgt := 4) hx hb dF_cheapestUnsettled_65 (by decide) ?_
                exact ih x2 x2_20 n_15 f_16 _ _ ls hw hP hS (lv_sub hl [3, 1, 0] rfl)
  refine lv_iconst (v := (-1)) hx hb dF_cheapestUnsettled_0 (by decide) ?_
  refine lv_istore_n (lv' := [(1, .int (-1)), (0, .ref (a 2))]) hx hb dF_cheapestUnsettled_1 rfl hl (by decide) rfl (fun ls hl => ?_)
  refine lv_iconst (v := 0) hx hb dF_cheapestUnsettled_2 (by decide) ?_
  refine lv_istore_n (lv' := [(2, .int 0), (1, .int (-1)), (0, .ref (a 2))]) hx hb dF_cheapestUnsettled_3 rfl hl (by decide) rfl (fun ls hl => ?_)
  obtain ⟨j, hw⟩ := hw
  exact loop_4 j (-1) 0 n f _ _ ls hw hP hS (lv_sub hl [2, 1, 0] rfl)
def wp_F_applyChainRulesFrom_L16 (post : ctN → ctF → Prop) : Nat → Int32 → Int32 → Int32 → ctN → ctF → Prop
  | 0, _, _, _, _, _ => False
  | k + 1, x1, x2, x3, n, f => ((n 1) ≤ x3 → (post n f)) ∧ (¬ (n 1) ≤ x3 → (wp_G_isChainFrom (fun (r7 : Int32) (n_8 : ctN) (f_9 : ctF) => (r7 = 0 → (∀ x3_11 : Int32, x3_11 = x3 + 1 → (wp_F_applyChainRulesFrom_L16 post k x1 x2 x3_11 n_8 f_9))) ∧ (¬ r7 = 0 → (vp_in x3 40 ∧ (wp_F_offer (fun (n_14 : ctN) (f_15 : ctF) => ∀ x3_16 : Int32, x3_16 = x3 + 1 → (wp_F_applyChainRulesFrom_L16 post k x1 x2 x3_16 n_14 f_15)) x3 (x2 + (f_9 8 x3.toNatClampNeg)) n_8 f_9)))) x3 x1 n f))
def wp_F_applyChainRulesFrom (post : ctN → ctF → Prop) (p1 : Int32) (n : ctN) (f : ctF) : Prop := wp_C_place (fun (r1 : Int32) (n_2 : ctN) (f_3 : ctF) => vp_in r1 960 ∧ (∀ x2_5 : Int32, x2_5 = (f_3 14 r1.toNatClampNeg) → (∃ j, wp_F_applyChainRulesFrom_L16 post j p1 x2_5 0 n_2 f_3))) (n 2) p1 n f
set_option maxHeartbeats 4000000 in
set_option maxRecDepth 100000 in
theorem met_F_applyChainRulesFrom (l : Launch) (dC : Nat → ClassId) (dI : Nat → Nat → Nat) (a : Nat → Nat) (cA : Nat → ClassId) (sa : Nat → Nat) (p1 : Int32) (n : ctN) (f : ctF) (sz : Nat) {post : ctN → ctF → Prop} (hw : wp_F_applyChainRulesFrom post p1 n f) : Met l yF_applyChainRulesFrom wsF_applyChainRulesFrom ({ frames := 2, cells := 0, slots := 0, locals := 44 } : Room) (ct_Pc dC dI a cA sa [.ref (a 2), .int p1] n f sz) (va_Qv (fun (u : ctN × ctF) => post u.1 u.2) (ct_B dC dI a cA) (va_A (ctW a cA n f) sz)) 0 0 (va_A (ctW a cA n f) sz) := by
  refine Met.ofW (cc := cF_applyChainRulesFrom) (maxL := 4) (ret := none) (by decide) rfl ?_
  intro p e s m args below meth c s₁ B hml hv
  obtain ⟨rfl, hsz, hP, hK, hD0, hZ⟩ := hv
  have hx := B.exec
  have hb := B.bytes
  have hr := B.returns
  have hts := atoms_spec (ws := wsF_applyChainRulesFrom) B.pre
  have hown : s.vm.findClass RF = some m.cls := findClass_of_methodNamed B.named
  have hlocks := B.notSynchronized
  subst hsz
  have hD := hD0.self (sz := s.heap.size)
  generalize hAe : va_A (ctW a cA n f) s.heap.size = A at hD hZ ⊢
  have hDa : ∀ (n : ctN) (f : ctF), va_D A (ctW a cA n f) := fun _ _ => ct_D hD
  have hA : ∀ q : Nat, s.heap.size ≤ q → A q := fun q h => by rw [← hAe]; exact Or.inr h
  have hS : va_S A s.heap s.heap [] := va_S.rf
  have hl := lv_entry ([.ref (a 2), .int p1]) (n := 4) (Nat.le_of_ble_eq_true rfl)
  rw [lg_entry_eq]
  generalize (lg_sl ([.ref (a 2), .int p1]) ++ List.replicate (4 - (lg_sl ([.ref (a 2), .int p1])).length) Slot.unset).toArray = ls at hl ⊢
  have hl : lv_has ls 4 [(0, .ref (a 2)), (1, .int p1)] := hl
  unfold wp_F_applyChainRulesFrom at hw
  have loop_16 : ∀ (k : Nat) (x1 x2 x3 : Int32) (n : ctN) (f : ctF) (H : Heap) (locs : List Loc) (ls : Array Slot), wp_F_applyChainRulesFrom_L16 post k x1 x2 x3 n f → va_P (dC, dI) vcl (ctW a cA n f) H → va_S A s.heap H locs → lv_has ls 4 [(0, .ref (a 2)), (1, .int x1), (2, .int x2), (3, .int x3)] → W p l e (headSpec wsF_applyChainRulesFrom ({ frames := 2, cells := 0, slots := 0, locals := 44 } : Room)).room s m (([.ref (a 2), .int p1] : List Value).toArray) below meth c H locs 0 0 (MQ below (va_Qv (fun (u : ctN × ctF) => post u.1 u.2) (ct_B dC dI a cA) A) (([.ref (a 2), .int p1] : List Value).toArray) s 0 0 A) (F0 m 16 ls []) := by
    intro k
    induction k with
    | zero => intro x1 x2 x3 n f H locs ls hw; exact hw.elim
    | succ k ih =>
      intro x1 x2 x3 n f H locs ls hw hP hS hl
      rw [wp_F_applyChainRulesFrom_L16] at hw
      refine lv_iload_n hx hb dF_applyChainRulesFrom_16 rfl (lv_at hl 3 rfl) ?_
      refine lv_aload_n hx hb dF_applyChainRulesFrom_17 rfl (lv_at hl 0 rfl) ?_
      refine va_get (D := (dC, dI)) (ci := 2) (v := .ref (a 1)) (C := RF) (T := TF) (N := 11) hx hb hts (fun w h => List.mem_cons_of_mem _ (inF w h)) hown hK hP 2 rfl rfl 0 (by decide) (hts (.fieldLink RF 40 "CoverTrees$Forest" "grammar" "LCoverTrees$Grammar;") (List.mem_cons_of_mem _ wt_94)) (fun _ h9 => h9) rfl dF_applyChainRulesFrom_18 ?_
      refine va_get (D := (dC, dI)) (ci := 1) (v := .int (n 1)) (C := RG) (T := TG) (N := 8) hx hb hts (fun w h => List.mem_cons_of_mem _ (inG w h)) hown hK hP 1 rfl rfl 2 (by decide) (hts (.fieldLink RF 66 "CoverTrees$Grammar" "ruleCount" "I") (List.mem_cons_of_mem _ wt_59)) (fun _ h9 => h9) rfl dF_applyChainRulesFrom_21 ?_
      refine lv_icmp_ge (tgt := 61) hx hb dF_applyChainRulesFrom_24 (by decide) (fun c6 => ?_) (fun c6 => ?_)
      · have hw := hw.1 c6
        exact W.vret hx hb hr (fun t ht hW => ⟨⟨(n, f), rfl, hw, ct_mkB ht hP⟩, hS.F ht⟩) hS.2.2 dF_applyChainRulesFrom_61
      · have hw := hw.2 c6
        refine lv_aload_n hx hb dF_applyChainRulesFrom_27 rfl (lv_at hl 0 rfl) ?_
        refine va_get (D := (dC, dI)) (ci := 2) (v := .ref (a 1)) (C := RF) (T := TF) (N := 11) hx hb hts (fun w h => List.mem_cons_of_mem _ (inF w h)) hown hK hP 2 rfl rfl 0 (by decide) (hts (.fieldLink RF 40 "CoverTrees$Forest" "grammar" "LCoverTrees$Grammar;") (List.mem_cons_of_mem _ wt_94)) (fun _ h9 => h9) rfl dF_applyChainRulesFrom_28 ?_
        refine lv_iload_n hx hb dF_applyChainRulesFrom_31 rfl (lv_at hl 3 rfl) ?_
        refine lv_iload_n hx hb dF_applyChainRulesFrom_32 rfl (lv_at hl 1 rfl) ?_
        refine ct_i (va_runV (As := [.int x3, .int x1]) (rest := []) ⟨hx, hb, hml, hown, hts⟩ (met_G_isChainFrom l dC dI a cA sa x3 x1 n f _ hw) (cwV 2 hts (wb_V wt_348 wt_349 wt_350 wt_28 wt_351) rfl rfl rfl (by decide +kernel) ⟨Nat.le_of_ble_eq_true rfl, Nat.le_of_ble_eq_true rfl⟩) (ct_preV hK hP (hDa _ _) hZ hS hA (va_recv hK hP (ci := 1) (q0 := 1) rfl rfl)) rfl rfl hl.1 rfl (lv_room (Nat.le_of_ble_eq_true rfl)) dF_applyChainRulesFrom_33 ⟨Nat.le_of_ble_eq_true rfl, Nat.le_of_ble_eq_true rfl⟩) (hDa _ _) hS hA (fun r7 n_8 f_9 H locs hw hP hS => ?_)
        refine lv_if_eq (tgt := 55) hx hb dF_applyChainRulesFrom_36 (by decide) (fun c10 => ?_) (fun c10 => ?_)
        · have hw := hw.1 c10
          obtain ⟨x3_11, ex3_11⟩ : ∃ y : Int32, y = x3 + 1 := ⟨_, rfl⟩
          have hw := hw x3_11 ex3_11
          refine lv_iinc (v := x3_11) (lv' := [(3, .int x3_11), (0, .ref (a 2)), (1, .int x1), (2, .int x2)]) hx hb dF_applyChainRulesFrom_55 hl (k := 3) rfl (by rw [ex3_11]; rfl) (by decide) rfl (fun ls hl => ?_)
          refine lv_goto (tgt := 16) hx hb dF_applyChainRulesFrom_58 (by decide) ?_
          exact ih x1 x2 x3_11 n_8 f_9 _ _ ls hw hP hS (lv_sub hl [1, 2, 3, 0] rfl)
        · have hw := hw.2 c10
          refine lv_aload_n hx hb dF_applyChainRulesFrom_39 rfl (lv_at hl 0 rfl) ?_
          refine lv_iload_n hx hb dF_applyChainRulesFrom_40 rfl (lv_at hl 3 rfl) ?_
          refine lv_iload_n hx hb dF_applyChainRulesFrom_41 rfl (lv_at hl 2 rfl) ?_
          refine lv_aload_n hx hb dF_applyChainRulesFrom_42 rfl (lv_at hl 0 rfl) ?_
          refine va_get (D := (dC, dI)) (ci := 2) (v := .ref (a 1)) (C := RF) (T := TF) (N := 11) hx hb hts (fun w h => List.mem_cons_of_mem _ (inF w h)) hown hK hP 2 rfl rfl 0 (by decide) (hts (.fieldLink RF 40 "CoverTrees$Forest" "grammar" "LCoverTrees$Grammar;") (List.mem_cons_of_mem _ wt_94)) (fun _ h9 => h9) rfl dF_applyChainRulesFrom_43 ?_
          refine va_get (D := (dC, dI)) (ci := 1) (v := .ref (a 8)) (C := RG) (T := TG) (N := 8) hx hb hts (fun w h => List.mem_cons_of_mem _ (inG w h)) hown hK hP 1 rfl rfl 7 (by decide) (hts (.fieldLink RF 82 "CoverTrees$Grammar" "cost" "[I") (List.mem_cons_of_mem _ wt_69)) (fun _ h9 => h9) rfl dF_applyChainRulesFrom_46 ?_
          refine lv_iload_n hx hb dF_applyChainRulesFrom_49 rfl (lv_at hl 3 rfl) ?_
          obtain ⟨hi12, hw⟩ := hw
          refine va_iald hx hb hK hP 8 5 rfl rfl hi12 dF_applyChainRulesFrom_50 ?_
          refine lv_iadd hx hb dF_applyChainRulesFrom_51 ?_
          refine ct_v (va_runV (As := [.int x3, .int (x2 + (f_9 8 x3.toNatClampNeg))]) (rest := []) ⟨hx, hb, hml, hown, hts⟩ (met_F_offer l dC dI a cA sa x3 (x2 + (f_9 8 x3.toNatClampNeg)) n_8 f_9 _ hw) (cwV 2 hts (wb_V wt_325 wt_327 wt_5 wt_29 wt_328) rfl rfl rfl (by decide +kernel) ⟨Nat.le_of_ble_eq_true rfl, Nat.le_of_ble_eq_true rfl⟩) (ct_preV hK hP (hDa _ _) hZ hS hA (va_recv hK hP (ci := 2) (q0 := 2) rfl rfl)) rfl rfl hl.1 rfl (lv_room (Nat.le_of_ble_eq_true rfl)) dF_applyChainRulesFrom_52 ⟨Nat.le_of_ble_eq_true rfl, Nat.le_of_ble_eq_true rfl⟩) (hDa _ _) hS hA (fun n_14 f_15 H locs hw hP hS => ?_)
          obtain ⟨x3_16, ex3_16⟩ : ∃ y : Int32, y = x3 + 1 := ⟨_, rfl⟩
          have hw := hw x3_16 ex3_16
          refine lv_iinc (v := x3_16) (lv' := [(3, .int x3_16), (0, .ref (a 2)), (1, .int x1), (2, .int x2)]) hx hb dF_applyChainRulesFrom_55 hl (k := 3) rfl (by rw [ex3_16]; rfl) (by decide) rfl (fun ls hl => ?_)
          refine lv_goto (tgt := 16) hx hb dF_applyChainRulesFrom_58 (by decide) ?_
          exact ih x1 x2 x3_16 n_14 f_15 _ _ ls hw hP hS (lv_sub hl [1, 2, 3, 0] rfl)
  refine lv_aload_n hx hb dF_applyChainRulesFrom_0 rfl (lv_at hl 0 rfl) ?_
  refine va_get (D := (dC, dI)) (ci := 2) (v := .ref (a 14)) (C := RF) (T := TF) (N := 11) hx hb hts (fun w h => List.mem_cons_of_mem _ (inF w h)) hown hK hP 2 rfl rfl 7 (by decide) (hts (.fieldLink RF 27 "CoverTrees$Forest" "cost" "[I") (List.mem_cons_of_mem _ wt_103)) (fun _ h9 => h9) rfl dF_applyChainRulesFrom_1 ?_
  refine lv_aload_n hx hb dF_applyChainRulesFrom_4 rfl (lv_at hl 0 rfl) ?_
  refine va_get (D := (dC, dI)) (ci := 2) (v := .int (n 2)) (C := RF) (T := TF) (N := 11) hx hb hts (fun w h => List.mem_cons_of_mem _ (inF w h)) hown hK hP 2 rfl rfl 1 (by decide) (hts (.fieldLink RF 44 "CoverTrees$Forest" "count" "I") (List.mem_cons_of_mem _ wt_96)) (fun _ h9 => h9) rfl dF_applyChainRulesFrom_5 ?_
  refine lv_iload_n hx hb dF_applyChainRulesFrom_8 rfl (lv_at hl 1 rfl) ?_
  refine ct_i (va_runSN (As := [.int (n 2), .int p1]) (rest := [.ref (a 14)]) ⟨hx, hb, hml, hown, hts⟩ (met_C_place l dC dI a cA sa (n 2) p1 n f _ hw) ⟨va_cnB 2 hts (wb_N wt_316) rfl rfl rfl hZ.1 (hts (.initialized "CoverTrees") (List.mem_cons_of_mem _ wt_27)) (by decide +kernel) ⟨Nat.le_of_ble_eq_true rfl, Nat.le_of_ble_eq_true rfl⟩, (hts (.static yC_place) (List.mem_cons_of_mem _ wt_315)), trivial⟩ (ct_pre hK hP (hDa _ _) hZ hS hA) rfl rfl hl.1 rfl (lv_room (Nat.le_of_ble_eq_true rfl)) dF_applyChainRulesFrom_9 ⟨Nat.le_of_ble_eq_true rfl, Nat.le_of_ble_eq_true rfl⟩) (hDa _ _) hS hA (fun r1 n_2 f_3 H locs hw hP hS => ?_)
  obtain ⟨hi4, hw⟩ := hw
  refine va_iald hx hb hK hP 14 11 rfl rfl hi4 dF_applyChainRulesFrom_12 ?_
  refine lv_topi (fun x2_5 ex2_5 => ?_)
  have hw := hw x2_5 ex2_5
  refine lv_istore_n (lv' := [(2, .int x2_5), (0, .ref (a 2)), (1, .int p1)]) hx hb dF_applyChainRulesFrom_13 rfl hl (by decide) rfl (fun ls hl => ?_)
  refine lv_iconst (v := 0) hx hb dF_applyChainRulesFrom_14 (by decide) ?_
  refine lv_istore_n (lv' := [(3, .int 0), (2, .int x2_5), (0, .ref (a 2)), (1, .int p1)]) hx hb dF_applyChainRulesFrom_15 rfl hl (by decide) rfl (fun ls hl => ?_)
  obtain ⟨j, hw⟩ := hw
  exact loop_16 j p1 x2_5 0 n_2 f_3 _ _ ls hw hP hS (lv_sub hl [2, 3, 1, 0] rfl)
def wp_F_sizeByRule_J110 (post : Int32 → ctN → ctF → Prop) (x2 : Int32) (x3 : Int32) (x4 : Int32) (n : ctN) (f : ctF) : Prop := (x4 < 2 → (post (if (2001 : Int32) < x3 then (2001 : Int32) else x3) n f)) ∧ (¬ x4 < 2 → (vp_in (n 2) 120 ∧ (vp_in x2 40 ∧ (wp_C_place (fun (r15 : Int32) (n_16 : ctN) (f_17 : ctF) => vp_in r15 960 ∧ (∀ x3_19 : Int32, x3_19 = (x3 + (f_17 16 r15.toNatClampNeg)) → (post (if (2001 : Int32) < x3_19 then (2001 : Int32) else x3_19) n_16 f_17))) (f 11 (n 2).toNatClampNeg) (f 7 x2.toNatClampNeg) n f))))
def wp_F_sizeByRule (post : Int32 → ctN → ctF → Prop) (p1 : Int32) (n : ctN) (f : ctF) : Prop := wp_C_place (fun (r1 : Int32) (n_2 : ctN) (f_3 : ctF) => vp_in r1 960 ∧ (∀ x2_5 : Int32, x2_5 = (f_3 15 r1.toNatClampNeg) → (vp_in x2_5 40 ∧ ((¬ (f_3 5 x2_5.toNatClampNeg) = (-1) → (vp_in (n_2 2) 120 ∧ (vp_in (f_3 9 (n_2 2).toNatClampNeg) 10 ∧ (∀ x4_10 : Int32, x4_10 = (f_3 3 (f_3 9 (n_2 2).toNatClampNeg).toNatClampNeg) → ((x4_10 < 1 → (wp_F_sizeByRule_J110 post x2_5 1 x4_10 n_2 f_3)) ∧ (¬ x4_10 < 1 → (vp_in (n_2 2) 120 ∧ (vp_in x2_5 40 ∧ (wp_C_place (fun (r22 : Int32) (n_23 : ctN) (f_24 : ctF) => vp_in r22 960 ∧ (∀ x3_26 : Int32, x3_26 = (1 + (f_24 16 r22.toNatClampNeg)) → (wp_F_sizeByRule_J110 post x2_5 x3_26 x4_10 n_23 f_24))) (f_3 10 (n_2 2).toNatClampNeg) (f_3 6 x2_5.toNatClampNeg) n_2 f_3))))))))) ∧ ((f_3 5 x2_5.toNatClampNeg) = (-1) → (vp_in x2_5 40 ∧ (wp_C_place (fun (r28 : Int32) (n_29 : ctN) (f_30 : ctF) => vp_in r28 960 ∧ (∀ x3_32 : Int32, x3_32 = (1 + (f_30 16 r28.toNatClampNeg)) → (post (if (2001 : Int32) < x3_32 then (2001 : Int32) else x3_32) n_29 f_30))) (n_2 2) (f_3 6 x2_5.toNatClampNeg) n_2 f_3))))))) (n 2) p1 n f
set_option maxHeartbeats 4000000 in
set_option maxRecDepth 100000 in
theorem met_F_sizeByRule (l : Launch) (dC : Nat → ClassId) (dI : Nat → Nat → Nat) (a : Nat → Nat) (cA : Nat → ClassId) (sa : Nat → Nat) (p1 : Int32) (n : ctN) (f : ctF) (sz : Nat) {post : Int32 → ctN → ctF → Prop} (hw : wp_F_sizeByRule post p1 n f) : Met l yF_sizeByRule wsF_sizeByRule ({ frames := 1, cells := 0, slots := 0, locals := 21 } : Room) (ct_Pc dC dI a cA sa [.ref (a 2), .int p1] n f sz) (va_Qi (fun (r : Int32) (u : ctN × ctF) => post r u.1 u.2) (ct_B dC dI a cA) (va_A (ctW a cA n f) sz)) 0 0 (va_A (ctW a cA n f) sz) := by
  refine Met.ofW (cc := cF_sizeByRule) (maxL := 5) (ret := (some .int)) (by decide) rfl ?_
  intro p e s m args below meth c s₁ B hml hv
  obtain ⟨rfl, hsz, hP, hK, hD0, hZ⟩ := hv
  have hx := B.exec
  have hb := B.bytes
  have hr := B.returns
  have hts := atoms_spec (ws := wsF_sizeByRule) B.pre
  have hown : s.vm.findClass RF = some m.cls := findClass_of_methodNamed B.named
  have hlocks := B.notSynchronized
  subst hsz
  have hD := hD0.self (sz := s.heap.size)
  generalize hAe : va_A (ctW a cA n f) s.heap.size = A at hD hZ ⊢
  have hDa : ∀ (n : ctN) (f : ctF), va_D A (ctW a cA n f) := fun _ _ => ct_D hD
  have hA : ∀ q : Nat, s.heap.size ≤ q → A q := fun q h => by rw [← hAe]; exact Or.inr h
  have hS : va_S A s.heap s.heap [] := va_S.rf
  have hl := lv_entry ([.ref (a 2), .int p1]) (n := 5) (Nat.le_of_ble_eq_true rfl)
  rw [lg_entry_eq]
  generalize (lg_sl ([.ref (a 2), .int p1]) ++ List.replicate (5 - (lg_sl ([.ref (a 2), .int p1])).length) Slot.unset).toArray = ls at hl ⊢
  have hl : lv_has ls 5 [(0, .ref (a 2)), (1, .int p1)] := hl
  unfold wp_F_sizeByRule at hw
  have join_110 : ∀ (x2 x3 x4 : Int32) (n : ctN) (f : ctF) (H : Heap) (locs : List Loc) (ls : Array Slot), wp_F_sizeByRule_J110 post x2 x3 x4 n f → va_P (dC, dI) vcl (ctW a cA n f) H → va_S A s.heap H locs → lv_has ls 5 [(0, .ref (a 2)), (2, .int x2), (3, .int x3), (4, .int x4)] → W p l e (headSpec wsF_sizeByRule ({ frames := 1, cells := 0, slots := 0, locals := 21 } : Room)).room s m (([.ref (a 2), .int p1] : List Value).toArray) below meth c H locs 0 0 (MQ below (va_Qi (fun (r : Int32) (u : ctN × ctF) => post r u.1 u.2) (ct_B dC dI a cA) A) (([.ref (a 2), .int p1] : List Value).toArray) s 0 0 A) (F0 m 110 ls []) := by
    intro x2 x3 x4 n f H locs ls hw hP hS hl
    unfold wp_F_sizeByRule_J110 at hw
    refine lv_iload hx hb dF_sizeByRule_110 (lv_at hl 3 rfl) ?_
    refine lv_iconst (v := 2) hx hb dF_sizeByRule_112 (by decide) ?_
    refine lv_icmp_lt (tgt := 145) hx hb dF_sizeByRule_113 (by decide) (fun c12 => ?_) (fun c12 => ?_)
    · have hw := hw.1 c12
      refine lv_iload_n hx hb dF_sizeByRule_145 rfl (lv_at hl 2 rfl) ?_
      refine lv_sipush (v := 2001) hx hb dF_sizeByRule_146 (by decide) ?_
      refine va_mmin hx hb (hml.trans hl.1.symm) hown (hts (.methodLink RF 103 Lib.Math.min.name) (List.mem_cons_of_mem _ wt_341)) (hts (.static Lib.Math.min.name) (List.mem_cons_of_mem _ wt_342)) (hts (.initialized "java/lang/Math") (List.mem_cons_of_mem _ wt_36)) (hts (.code Lib.Math.min.name Lib.Math.min.code 2 (some .int)) (List.mem_cons_of_mem _ wt_343)) (Nat.le_of_ble_eq_true rfl) (Nat.le_of_ble_eq_true rfl) (Nat.zero_le _) (Nat.zero_le _) dF_sizeByRule_149 ?_
      exact W.iret (v := (if (2001 : Int32) < x3 then (2001 : Int32) else x3)) hx hb hr (fun t ht hW => ⟨⟨(if (2001 : Int32) < x3 then (2001 : Int32) else x3), (n, f), rfl, hw, ct_mkB ht hP⟩, hS.F ht⟩) hS.2.2 dF_sizeByRule_152
    · have hw := hw.2 c12
      refine lv_iload_n hx hb dF_sizeByRule_116 rfl (lv_at hl 2 rfl) ?_
      refine lv_aload_n hx hb dF_sizeByRule_117 rfl (lv_at hl 0 rfl) ?_
      refine va_get (D := (dC, dI)) (ci := 2) (v := .ref (a 16)) (C := RF) (T := TF) (N := 11) hx hb hts (fun w h => List.mem_cons_of_mem _ (inF w h)) hown hK hP 2 rfl rfl 9 (by decide) (hts (.fieldLink RF 33 "CoverTrees$Forest" "size" "[I") (List.mem_cons_of_mem _ wt_107)) (fun _ h9 => h9) rfl dF_sizeByRule_118 ?_
      refine lv_aload_n hx hb dF_sizeByRule_121 rfl (lv_at hl 0 rfl) ?_
      refine va_get (D := (dC, dI)) (ci := 2) (v := .ref (a 11)) (C := RF) (T := TF) (N := 11) hx hb hts (fun w h => List.mem_cons_of_mem _ (inF w h)) hown hK hP 2 rfl rfl 4 (by decide) (hts (.fieldLink RF 18 "CoverTrees$Forest" "two" "[I") (List.mem_cons_of_mem _ wt_99)) (fun _ h9 => h9) rfl dF_sizeByRule_122 ?_
      refine lv_aload_n hx hb dF_sizeByRule_125 rfl (lv_at hl 0 rfl) ?_
      refine va_get (D := (dC, dI)) (ci := 2) (v := .int (n 2)) (C := RF) (T := TF) (N := 11) hx hb hts (fun w h => List.mem_cons_of_mem _ (inF w h)) hown hK hP 2 rfl rfl 1 (by decide) (hts (.fieldLink RF 44 "CoverTrees$Forest" "count" "I") (List.mem_cons_of_mem _ wt_96)) (fun _ h9 => h9) rfl dF_sizeByRule_126 ?_
      obtain ⟨hi13, hw⟩ := hw
      refine va_iald hx hb hK hP 11 8 rfl rfl hi13 dF_sizeByRule_129 ?_
      refine lv_aload_n hx hb dF_sizeByRule_130 rfl (lv_at hl 0 rfl) ?_
      refine va_get (D := (dC, dI)) (ci := 2) (v := .ref (a 1)) (C := RF) (T := TF) (N := 11) hx hb hts (fun w h => List.mem_cons_of_mem _ (inF w h)) hown hK hP 2 rfl rfl 0 (by decide) (hts (.fieldLink RF 40 "CoverTrees$Forest" "grammar" "LCoverTrees$Grammar;") (List.mem_cons_of_mem _ wt_94)) (fun _ h9 => h9) rfl dF_sizeByRule_131 ?_
      refine va_get (D := (dC, dI)) (ci := 1) (v := .ref (a 7)) (C := RG) (T := TG) (N := 8) hx hb hts (fun w h => List.mem_cons_of_mem _ (inG w h)) hown hK hP 1 rfl rfl 6 (by decide) (hts (.fieldLink RF 84 "CoverTrees$Grammar" "two" "[I") (List.mem_cons_of_mem _ wt_67)) (fun _ h9 => h9) rfl dF_sizeByRule_134 ?_
      refine lv_iload_n hx hb dF_sizeByRule_137 rfl (lv_at hl 1 rfl) ?_
      obtain ⟨hi14, hw⟩ := hw
      refine va_iald hx hb hK hP 7 4 rfl rfl hi14 dF_sizeByRule_138 ?_
      refine ct_i (va_runSN (As := [.int (f 11 (n 2).toNatClampNeg), .int (f 7 x2.toNatClampNeg)]) (rest := [.ref (a 16), .int x3]) ⟨hx, hb, hml, hown, hts⟩ (met_C_place l dC dI a cA sa (f 11 (n 2).toNatClampNeg) (f 7 x2.toNatClampNeg) n f _ hw) ⟨va_cnB 2 hts (wb_N wt_316) rfl rfl rfl hZ.1 (hts (.initialized "CoverTrees") (List.mem_cons_of_mem _ wt_27)) (by decide +kernel) ⟨Nat.le_of_ble_eq_true rfl, Nat.le_of_ble_eq_true rfl⟩, (hts (.static yC_place) (List.mem_cons_of_mem _ wt_315)), trivial⟩ (ct_pre hK hP (hDa _ _) hZ hS hA) rfl rfl hl.1 rfl (lv_room (Nat.le_of_ble_eq_true rfl)) dF_sizeByRule_139 ⟨Nat.le_of_ble_eq_true rfl, Nat.le_of_ble_eq_true rfl⟩) (hDa _ _) hS hA (fun r15 n_16 f_17 H locs hw hP hS => ?_)
      obtain ⟨hi18, hw⟩ := hw
      refine va_iald hx hb hK hP 16 13 rfl rfl hi18 dF_sizeByRule_142 ?_
      refine lv_iadd hx hb dF_sizeByRule_143 ?_
      refine lv_topi (fun x3_19 ex3_19 => ?_)
      have hw := hw x3_19 ex3_19
      refine lv_istore_n (lv' := [(3, .int x3_19), (0, .ref (a 2)), (2, .int x2), (4, .int x4)]) hx hb dF_sizeByRule_144 rfl hl (by decide) rfl (fun ls hl => ?_)
      refine lv_iload_n hx hb dF_sizeByRule_145 rfl (lv_at hl 0 rfl) ?_
      refine lv_sipush (v := 2001) hx hb dF_sizeByRule_146 (by decide) ?_
      refine va_mmin hx hb (hml.trans hl.1.symm) hown (hts (.methodLink RF 103 Lib.Math.min.name) (List.mem_cons_of_mem _ wt_341)) (hts (.static Lib.Math.min.name) (List.mem_cons_of_mem _ wt_342)) (hts (.initialized "java/lang/Math") (List.mem_cons_of_mem _ wt_36)) (hts (.code Lib.Math.min.name Lib.Math.min.code 2 (some .int)) (List.mem_cons_of_mem _ wt_343)) (Nat.le_of_ble_eq_true rfl) (Nat.le_of_ble_eq_true rfl) (Nat.zero_le _) (Nat.zero_le _) dF_sizeByRule_149 ?_
      exact W.iret (v := (if (2001 : Int32) < x3_19 then (2001 : Int32) else x3_19)) hx hb hr (fun t ht hW => ⟨⟨(if (2001 : Int32) < x3_19 then (2001 : Int32) else x3_19), (n_16, f_17), rfl, hw, ct_mkB ht hP⟩, hS.F ht⟩) hS.2.2 dF_sizeByRule_152
  refine lv_aload_n hx hb dF_sizeByRule_0 rfl (lv_at hl 0 rfl) ?_
  refine va_get (D := (dC, dI)) (ci := 2) (v := .ref (a 15)) (C := RF) (T := TF) (N := 11) hx hb hts (fun w h => List.mem_cons_of_mem _ (inF w h)) hown hK hP 2 rfl rfl 8 (by decide) (hts (.fieldLink RF 30 "CoverTrees$Forest" "rule" "[I") (List.mem_cons_of_mem _ wt_105)) (fun _ h9 => h9) rfl dF_sizeByRule_1 ?_
  refine lv_aload_n hx hb dF_sizeByRule_4 rfl (lv_at hl 0 rfl) ?_
  refine va_get (D := (dC, dI)) (ci := 2) (v := .int (n 2)) (C := RF) (T := TF) (N := 11) hx hb hts (fun w h => List.mem_cons_of_mem _ (inF w h)) hown hK hP 2 rfl rfl 1 (by decide) (hts (.fieldLink RF 44 "CoverTrees$Forest" "count" "I") (List.mem_cons_of_mem _ wt_96)) (fun _ h9 => h9) rfl dF_sizeByRule_5 ?_
  refine lv_iload_n hx hb dF_sizeByRule_8 rfl (lv_at hl 1 rfl) ?_
  refine ct_i (va_runSN (As := [.int (n 2), .int p1]) (rest := [.ref (a 15)]) ⟨hx, hb, hml, hown, hts⟩ (met_C_place l dC dI a cA sa (n 2) p1 n f _ hw) ⟨va_cnB 2 hts (wb_N wt_316) rfl rfl rfl hZ.1 (hts (.initialized "CoverTrees") (List.mem_cons_of_mem _ wt_27)) (by decide +kernel) ⟨Nat.le_of_ble_eq_true rfl, Nat.le_of_ble_eq_true rfl⟩, (hts (.static yC_place) (List.mem_cons_of_mem _ wt_315)), trivial⟩ (ct_pre hK hP (hDa _ _) hZ hS hA) rfl rfl hl.1 rfl (lv_room (Nat.le_of_ble_eq_true rfl)) dF_sizeByRule_9 ⟨Nat.le_of_ble_eq_true rfl, Nat.le_of_ble_eq_true rfl⟩) (hDa _ _) hS hA (fun r1 n_2 f_3 H locs hw hP hS => ?_)
  obtain ⟨hi4, hw⟩ := hw
  refine va_iald hx hb hK hP 15 12 rfl rfl hi4 dF_sizeByRule_12 ?_
  refine lv_topi (fun x2_5 ex2_5 => ?_)
  have hw := hw x2_5 ex2_5
  refine lv_istore_n (lv' := [(2, .int x2_5), (0, .ref (a 2)), (1, .int p1)]) hx hb dF_sizeByRule_13 rfl hl (by decide) rfl (fun ls hl => ?_)
  refine lv_iconst (v := 1) hx hb dF_sizeByRule_14 (by decide) ?_
  refine lv_istore_n (lv' := [(3, .int 1), (2, .int x2_5), (0, .ref (a 2)), (1, .int p1)]) hx hb dF_sizeByRule_15 rfl hl (by decide) rfl (fun ls hl => ?_)
  refine lv_aload_n hx hb dF_sizeByRule_16 rfl (lv_at hl 2 rfl) ?_
  refine va_get (D := (dC, dI)) (ci := 2) (v := .ref (a 1)) (C := RF) (T := TF) (N := 11) hx hb hts (fun w h => List.mem_cons_of_mem _ (inF w h)) hown hK hP 2 rfl rfl 0 (by decide) (hts (.fieldLink RF 40 "CoverTrees$Forest" "grammar" "LCoverTrees$Grammar;") (List.mem_cons_of_mem _ wt_94)) (fun _ h9 => h9) rfl dF_sizeByRule_17 ?_
  refine va_get (D := (dC, dI)) (ci := 1) (v := .ref (a 5)) (C := RG) (T := TG) (N := 8) hx hb hts (fun w h => List.mem_cons_of_mem _ (inG w h)) hown hK hP 1 rfl rfl 4 (by decide) (hts (.fieldLink RF 71 "CoverTrees$Grammar" "operator" "[I") (List.mem_cons_of_mem _ wt_63)) (fun _ h9 => h9) rfl dF_sizeByRule_20 ?_
  refine lv_iload_n hx hb dF_sizeByRule_23 rfl (lv_at hl 1 rfl) ?_
  obtain ⟨hi6, hw⟩ := hw
  refine va_iald hx hb hK hP 5 2 rfl rfl hi6 dF_sizeByRule_24 ?_
  refine lv_iconst (v := (-1)) hx hb dF_sizeByRule_25 (by decide) ?_
  refine lv_icmp_ne (tgt := 56) hx hb dF_sizeByRule_26 (by decide) (fun c7 => ?_) (fun c7 => ?_)
  · have hw := hw.1 c7
    refine lv_aload_n hx hb dF_sizeByRule_56 rfl (lv_at hl 2 rfl) ?_
    refine va_get (D := (dC, dI)) (ci := 2) (v := .ref (a 1)) (C := RF) (T := TF) (N := 11) hx hb hts (fun w h => List.mem_cons_of_mem _ (inF w h)) hown hK hP 2 rfl rfl 0 (by decide) (hts (.fieldLink RF 40 "CoverTrees$Forest" "grammar" "LCoverTrees$Grammar;") (List.mem_cons_of_mem _ wt_94)) (fun _ h9 => h9) rfl dF_sizeByRule_57 ?_
    refine va_get (D := (dC, dI)) (ci := 1) (v := .ref (a 3)) (C := RG) (T := TG) (N := 8) hx hb hts (fun w h => List.mem_cons_of_mem _ (inG w h)) hown hK hP 1 rfl rfl 1 (by decide) (hts (.fieldLink RF 79 "CoverTrees$Grammar" "parts" "[I") (List.mem_cons_of_mem _ wt_56)) (fun _ h9 => h9) rfl dF_sizeByRule_60 ?_
    refine lv_aload_n hx hb dF_sizeByRule_63 rfl (lv_at hl 2 rfl) ?_
    refine va_get (D := (dC, dI)) (ci := 2) (v := .ref (a 9)) (C := RF) (T := TF) (N := 11) hx hb hts (fun w h => List.mem_cons_of_mem _ (inF w h)) hown hK hP 2 rfl rfl 2 (by decide) (hts (.fieldLink RF 9 "CoverTrees$Forest" "operator" "[I") (List.mem_cons_of_mem _ wt_97)) (fun _ h9 => h9) rfl dF_sizeByRule_64 ?_
    refine lv_aload_n hx hb dF_sizeByRule_67 rfl (lv_at hl 2 rfl) ?_
    refine va_get (D := (dC, dI)) (ci := 2) (v := .int (n_2 2)) (C := RF) (T := TF) (N := 11) hx hb hts (fun w h => List.mem_cons_of_mem _ (inF w h)) hown hK hP 2 rfl rfl 1 (by decide) (hts (.fieldLink RF 44 "CoverTrees$Forest" "count" "I") (List.mem_cons_of_mem _ wt_96)) (fun _ h9 => h9) rfl dF_sizeByRule_68 ?_
    obtain ⟨hi8, hw⟩ := hw
    refine va_iald hx hb hK hP 9 6 rfl rfl hi8 dF_sizeByRule_71 ?_
    obtain ⟨hi9, hw⟩ := hw
    refine va_iald hx hb hK hP 3 0 rfl rfl hi9 dF_sizeByRule_72 ?_
    refine lv_topi (fun x4_10 ex4_10 => ?_)
    have hw := hw x4_10 ex4_10
    refine lv_istore (lv' := [(4, .int x4_10), (3, .int 1), (2, .int x2_5), (0, .ref (a 2)), (1, .int p1)]) hx hb dF_sizeByRule_73 hl (by decide) rfl (fun ls hl => ?_)
    refine lv_iload hx hb dF_sizeByRule_75 (lv_at hl 0 rfl) ?_
    refine lv_iconst (v := 1) hx hb dF_sizeByRule_77 (by decide) ?_
    refine lv_icmp_lt (tgt := 110) hx hb dF_sizeByRule_78 (by decide) (fun c11 => ?_) (fun c11 => ?_)
    · have hw := hw.1 c11
      exact join_110 x2_5 1 x4_10 n_2 f_3 _ _ ls hw hP hS (lv_sub hl [3, 2, 1, 0] rfl)
    · have hw := hw.2 c11
      refine lv_iload_n hx hb dF_sizeByRule_81 rfl (lv_at hl 1 rfl) ?_
      refine lv_aload_n hx hb dF_sizeByRule_82 rfl (lv_at hl 3 rfl) ?_
      refine va_get (D := (dC, dI)) (ci := 2) (v := .ref (a 16)) (C := RF) (T := TF) (N := 11) hx hb hts (fun w h => List.mem_cons_of_mem _ (inF w h)) hown hK hP 2 rfl rfl 9 (by decide) (hts (.fieldLink RF 33 "CoverTrees$Forest" "size" "[I") (List.mem_cons_of_mem _ wt_107)) (fun _ h9 => h9) rfl dF_sizeByRule_83 ?_
      refine lv_aload_n hx hb dF_sizeByRule_86 rfl (lv_at hl 3 rfl) ?_
      refine va_get (D := (dC, dI)) (ci := 2) (v := .ref (a 10)) (C := RF) (T := TF) (N := 11) hx hb hts (fun w h => List.mem_cons_of_mem _ (inF w h)) hown hK hP 2 rfl rfl 3 (by decide) (hts (.fieldLink RF 15 "CoverTrees$Forest" "one" "[I") (List.mem_cons_of_mem _ wt_98)) (fun _ h9 => h9) rfl dF_sizeByRule_87 ?_
      refine lv_aload_n hx hb dF_sizeByRule_90 rfl (lv_at hl 3 rfl) ?_
      refine va_get (D := (dC, dI)) (ci := 2) (v := .int (n_2 2)) (C := RF) (T := TF) (N := 11) hx hb hts (fun w h => List.mem_cons_of_mem _ (inF w h)) hown hK hP 2 rfl rfl 1 (by decide) (hts (.fieldLink RF 44 "CoverTrees$Forest" "count" "I") (List.mem_cons_of_mem _ wt_96)) (fun _ h9 => h9) rfl dF_sizeByRule_91 ?_
      obtain ⟨hi20, hw⟩ := hw
      refine va_iald hx hb hK hP 10 7 rfl rfl hi20 dF_sizeByRule_94 ?_
      refine lv_aload_n hx hb dF_sizeByRule_95 rfl (lv_at hl 3 rfl) ?_
      refine va_get (D := (dC, dI)) (ci := 2) (v := .ref (a 1)) (C := RF) (T := TF) (N := 11) hx hb hts (fun w h => List.mem_cons_of_mem _ (inF w h)) hown hK hP 2 rfl rfl 0 (by decide) (hts (.fieldLink RF 40 "CoverTrees$Forest" "grammar" "LCoverTrees$Grammar;") (List.mem_cons_of_mem _ wt_94)) (fun _ h9 => h9) rfl dF_sizeByRule_96 ?_
      refine va_get (D := (dC, dI)) (ci := 1) (v := .ref (a 6)) (C := RG) (T := TG) (N := 8) hx hb hts (fun w h => List.mem_cons_of_mem _ (inG w h)) hown hK hP 1 rfl rfl 5 (by decide) (hts (.fieldLink RF 83 "CoverTrees$Grammar" "one" "[I") (List.mem_cons_of_mem _ wt_65)) (fun _ h9 => h9) rfl dF_sizeByRule_99 ?_
      refine lv_iload_n hx hb dF_sizeByRule_102 rfl (lv_at hl 2 rfl) ?_
      obtain ⟨hi21, hw⟩ := hw
      refine va_iald hx hb hK hP 6 3 rfl rfl hi21 dF_sizeByRule_103 ?_
      refine ct_i (va_runSN (As := [.int (f_3 10 (n_2 2).toNatClampNeg), .int (f_3 6 x2_5.toNatClampNeg)]) (rest := [.ref (a 16), .int 1]) ⟨hx, hb, hml, hown, hts⟩ (met_C_place l dC dI a cA sa (f_3 10 (n_2 2).toNatClampNeg) (f_3 6 x2_5.toNatClampNeg) n_2 f_3 _ hw) ⟨va_cnB 2 hts (wb_N wt_316) rfl rfl rfl hZ.1 (hts (.initialized "CoverTrees") (List.mem_cons_of_mem _ wt_27)) (by decide +kernel) ⟨Nat.le_of_ble_eq_true rfl, Nat.le_of_ble_eq_true rfl⟩, (hts (.static yC_place) (List.mem_cons_of_mem _ wt_315)), trivial⟩ (ct_pre hK hP (hDa _ _) hZ hS hA) rfl rfl hl.1 rfl (lv_room (Nat.le_of_ble_eq_true rfl)) dF_sizeByRule_104 ⟨Nat.le_of_ble_eq_true rfl, Nat.le_of_ble_eq_true rfl⟩) (hDa _ _) hS hA (fun r22 n_23 f_24 H locs hw hP hS => ?_)
      obtain ⟨hi25, hw⟩ := hw
      refine va_iald hx hb hK hP 16 13 rfl rfl hi25 dF_sizeByRule_107 ?_
      refine lv_iadd hx hb dF_sizeByRule_108 ?_
      refine lv_topi (fun x3_26 ex3_26 => ?_)
      have hw := hw x3_26 ex3_26
      refine lv_istore_n (lv' := [(3, .int x3_26), (4, .int x4_10), (2, .int x2_5), (0, .ref (a 2)), (1, .int p1)]) hx hb dF_sizeByRule_109 rfl hl (by decide) rfl (fun ls hl => ?_)
      exact join_110 x2_5 x3_26 x4_10 n_23 f_24 _ _ ls hw hP hS (lv_sub hl [3, 2, 0, 1] rfl)
  · have hw := hw.2 c7
    refine lv_iload_n hx hb dF_sizeByRule_29 rfl (lv_at hl 0 rfl) ?_
    refine lv_aload_n hx hb dF_sizeByRule_30 rfl (lv_at hl 2 rfl) ?_
    refine va_get (D := (dC, dI)) (ci := 2) (v := .ref (a 16)) (C := RF) (T := TF) (N := 11) hx hb hts (fun w h => List.mem_cons_of_mem _ (inF w h)) hown hK hP 2 rfl rfl 9 (by decide) (hts (.fieldLink RF 33 "CoverTrees$Forest" "size" "[I") (List.mem_cons_of_mem _ wt_107)) (fun _ h9 => h9) rfl dF_sizeByRule_31 ?_
    refine lv_aload_n hx hb dF_sizeByRule_34 rfl (lv_at hl 2 rfl) ?_
    refine va_get (D := (dC, dI)) (ci := 2) (v := .int (n_2 2)) (C := RF) (T := TF) (N := 11) hx hb hts (fun w h => List.mem_cons_of_mem _ (inF w h)) hown hK hP 2 rfl rfl 1 (by decide) (hts (.fieldLink RF 44 "CoverTrees$Forest" "count" "I") (List.mem_cons_of_mem _ wt_96)) (fun _ h9 => h9) rfl dF_sizeByRule_35 ?_
    refine lv_aload_n hx hb dF_sizeByRule_38 rfl (lv_at hl 2 rfl) ?_
    refine va_get (D := (dC, dI)) (ci := 2) (v := .ref (a 1)) (C := RF) (T := TF) (N := 11) hx hb hts (fun w h => List.mem_cons_of_mem _ (inF w h)) hown hK hP 2 rfl rfl 0 (by decide) (hts (.fieldLink RF 40 "CoverTrees$Forest" "grammar" "LCoverTrees$Grammar;") (List.mem_cons_of_mem _ wt_94)) (fun _ h9 => h9) rfl dF_sizeByRule_39 ?_
    refine va_get (D := (dC, dI)) (ci := 1) (v := .ref (a 6)) (C := RG) (T := TG) (N := 8) hx hb hts (fun w h => List.mem_cons_of_mem _ (inG w h)) hown hK hP 1 rfl rfl 5 (by decide) (hts (.fieldLink RF 83 "CoverTrees$Grammar" "one" "[I") (List.mem_cons_of_mem _ wt_65)) (fun _ h9 => h9) rfl dF_sizeByRule_42 ?_
    refine lv_iload_n hx hb dF_sizeByRule_45 rfl (lv_at hl 1 rfl) ?_
    obtain ⟨hi27, hw⟩ := hw
    refine va_iald hx hb hK hP 6 3 rfl rfl hi27 dF_sizeByRule_46 ?_
    refine ct_i (va_runSN (As := [.int (n_2 2), .int (f_3 6 x2_5.toNatClampNeg)]) (rest := [.ref (a 16), .int 1]) ⟨hx, hb, hml, hown, hts⟩ (met_C_place l dC dI a cA sa (n_2 2) (f_3 6 x2_5.toNatClampNeg) n_2 f_3 _ hw) ⟨va_cnB 2 hts (wb_N wt_316) rfl rfl rfl hZ.1 (hts (.initialized "CoverTrees") (List.mem_cons_of_mem _ wt_27)) (by decide +kernel) ⟨Nat.le_of_ble_eq_true rfl, Nat.le_of_ble_eq_true rfl⟩, (hts (.static yC_place) (List.mem_cons_of_mem _ wt_315)), trivial⟩ (ct_pre hK hP (hDa _ _) hZ hS hA) rfl rfl hl.1 rfl (lv_room (Nat.le_of_ble_eq_true rfl)) dF_sizeByRule_47 ⟨Nat.le_of_ble_eq_true rfl, Nat.le_of_ble_eq_true rfl⟩) (hDa _ _) hS hA (fun r28 n_29 f_30 H locs hw hP hS => ?_)
    obtain ⟨hi31, hw⟩ := hw
    refine va_iald hx hb hK hP 16 13 rfl rfl hi31 dF_sizeByRule_50 ?_
    refine lv_iadd hx hb dF_sizeByRule_51 ?_
    refine lv_topi (fun x3_32 ex3_32 => ?_)
    have hw := hw x3_32 ex3_32
    refine lv_istore_n (lv' := [(3, .int x3_32), (2, .int x2_5), (0, .ref (a 2)), (1, .int p1)]) hx hb dF_sizeByRule_52 rfl hl (by decide) rfl (fun ls hl => ?_)
    refine lv_goto (tgt := 145) hx hb dF_sizeByRule_53 (by decide) ?_
    refine lv_iload_n hx hb dF_sizeByRule_145 rfl (lv_at hl 0 rfl) ?_
    refine lv_sipush (v := 2001) hx hb dF_sizeByRule_146 (by decide) ?_
    refine va_mmin hx hb (hml.trans hl.1.symm) hown (hts (.methodLink RF 103 Lib.Math.min.name) (List.mem_cons_of_mem _ wt_341)) (hts (.static Lib.Math.min.name) (List.mem_cons_of_mem _ wt_342)) (hts (.initialized "java/lang/Math") (List.mem_cons_of_mem _ wt_36)) (hts (.code Lib.Math.min.name Lib.Math.min.code 2 (some .int)) (List.mem_cons_of_mem _ wt_343)) (Nat.le_of_ble_eq_true rfl) (Nat.le_of_ble_eq_true rfl) (Nat.zero_le _) (Nat.zero_le _) dF_sizeByRule_149 ?_
    exact W.iret (v := (if (2001 : Int32) < x3_32 then (2001 : Int32) else x3_32)) hx hb hr (fun t ht hW => ⟨⟨(if (2001 : Int32) < x3_32 then (2001 : Int32) else x3_32), (n_29, f_30), rfl, hw, ct_mkB ht hP⟩, hS.F ht⟩) hS.2.2 dF_sizeByRule_152
def wp_F_settleGoals_J52 (post : ctN → ctF → Prop) (K2 : Int32 → ctN → ctF → Prop) (x1 : Int32) (x2 : Int32) (n : ctN) (f : ctF) : Prop := wp_C_place (fun (r9 : Int32) (n_10 : ctN) (f_11 : ctF) => wp_F_sizeByRule (fun (r12 : Int32) (n_13 : ctN) (f_14 : ctF) => vp_in r9 960 ∧ (∀ f_16 : ctF, f_16 = va_up f_14 16 (upd (f_14 16) r9.toNatClampNeg r12) → (wp_F_applyChainRulesFrom (fun (n_18 : ctN) (f_19 : ctF) => ∀ x1_20 : Int32, x1_20 = x1 + 1 → (K2 x1_20 n_18 f_19)) x2 n_13 f_16))) x2 n_10 f_11) (n 2) x2 n f
def wp_F_settleGoals_L2 (post : ctN → ctF → Prop) : Nat → Int32 → ctN → ctF → Prop
  | 0, _, _, _ => False
  | k + 1, x1, n, f => (8 ≤ x1 → (post n f)) ∧ (¬ 8 ≤ x1 → (wp_F_cheapestUnsettled (fun (r2 : Int32) (n_3 : ctN) (f_4 : ctF) => (¬ r2 = (-1) → (vp_in r2 8 ∧ (∀ f_7 : ctF, f_7 = va_up f_4 17 (upd (f_4 17) r2.toNatClampNeg (vp_nar .boolean 1)) → ((¬ x1 = 0 → (wp_F_settleGoals_J52 post (wp_F_settleGoals_L2 post k) x1 r2 n_3 f_7)) ∧ (x1 = 0 → (wp_C_place (fun (r21 : Int32) (n_22 : ctN) (f_23 : ctF) => vp_in r21 960 ∧ (vp_in (n_3 2) 120 ∧ (∀ f_26 : ctF, f_26 = va_up f_23 12 (upd (f_23 12) (n_3 2).toNatClampNeg (f_23 14 r21.toNatClampNeg)) → (wp_F_settleGoals_J52 post (wp_F_settleGoals_L2 post k) x1 r2 n_22 f_26)))) (n_3 2) r2 n_3 f_7)))))) ∧ (r2 = (-1) → (post n_3 f_4))) n f))
def wp_F_settleGoals (post : ctN → ctF → Prop) (n : ctN) (f : ctF) : Prop := ∃ j, wp_F_settleGoals_L2 post j 0 n f
set_option maxHeartbeats 4000000 in
set_option maxRecDepth 100000 in
theorem met_F_settleGoals (l : Launch) (dC : Nat → ClassId) (dI : Nat → Nat → Nat) (a : Nat → Nat) (cA : Nat → ClassId) (sa : Nat → Nat) (n : ctN) (f : ctF) (sz : Nat) {post : ctN → ctF → Prop} (hw : wp_F_settleGoals post n f) : Met l yF_settleGoals wsF_settleGoals ({ frames := 3, cells := 0, slots := 0, locals := 67 } : Room) (ct_Pc dC dI a cA sa [.ref (a 2)] n f sz) (va_Qv (fun (u : ctN × ctF) => post u.1 u.2) (ct_B dC dI a cA) (va_A (ctW a cA n f) sz)) 0 0 (va_A (ctW a cA n f) sz) := by
  refine Met.ofW (cc := cF_settleGoals) (maxL := 3) (ret := none) (by decide) rfl ?_
  intro p e s m args below meth c s₁ B hml hv
  obtain ⟨rfl, hsz, hP, hK, hD0, hZ⟩ := hv
  have hx := B.exec
  have hb := B.bytes
  have hr := B.returns
  have hts := atoms_spec (ws := wsF_settleGoals) B.pre
  have hown : s.vm.findClass RF = some m.cls := findClass_of_methodNamed B.named
  have hlocks := B.notSynchronized
  subst hsz
  have hD := hD0.self (sz := s.heap.size)
  generalize hAe : va_A (ctW a cA n f) s.heap.size = A at hD hZ ⊢
  have hDa : ∀ (n : ctN) (f : ctF), va_D A (ctW a cA n f) := fun _ _ => ct_D hD
  have hA : ∀ q : Nat, s.heap.size ≤ q → A q := fun q h => by rw [← hAe]; exact Or.inr h
  have hS : va_S A s.heap s.heap [] := va_S.rf
  have hl := lv_entry ([.ref (a 2)]) (n := 3) (Nat.le_of_ble_eq_true rfl)
  rw [lg_entry_eq]
  generalize (lg_sl ([.ref (a 2)]) ++ List.replicate (3 - (lg_sl ([.ref (a 2)])).length) Slot.unset).toArray = ls at hl ⊢
  have hl : lv_has ls 3 [(0, .ref (a 2))] := hl
  unfold wp_F_settleGoals at hw
  have loop_2 : ∀ (k : Nat) (x1 : Int32) (n : ctN) (f : ctF) (H : Heap) (locs : List Loc) (ls : Array Slot), wp_F_settleGoals_L2 post k x1 n f → va_P (dC, dI) vcl (ctW a cA n f) H → va_S A s.heap H locs → lv_has ls 3 [(0, .ref (a 2)), (1, .int x1)] → W p l e (headSpec wsF_settleGoals ({ frames := 3, cells := 0, slots := 0, locals := 67 } : Room)).room s m (([.ref (a 2)] : List Value).toArray) below meth c H locs 0 0 (MQ below (va_Qv (fun (u : ctN × ctF) => post u.1 u.2) (ct_B dC dI a cA) A) (([.ref (a 2)] : List Value).toArray) s 0 0 A) (F0 m 2 ls []) := by
    intro k
    induction k with
    | zero => intro x1 n f H locs ls hw; exact hw.elim
    | succ k ih =>
      have join_52 : ∀ (x1 x2 : Int32) (n : ctN) (f : ctF) (H : Heap) (locs : List Loc) (ls : Array Slot), wp_F_settleGoals_J52 post (wp_F_settleGoals_L2 post k) x1 x2 n f → va_P (dC, dI) vcl (ctW a cA n f) H → va_S A s.heap H locs → lv_has ls 3 [(0, .ref (a 2)), (1, .int x1), (2, .int x2)] → W p l e (headSpec wsF_settleGoals ({ frames := 3, cells := 0, slots := 0, locals := 67 } : Room)).room s m (([.ref (a 2)] : List Value).toArray) below meth c H locs 0 0 (MQ below (va_Qv (fun (u : ctN × ctF) => post u.1 u.2) (ct_B dC dI a cA) A) (([.ref (a 2)] : List Value).toArray) s 0 0 A) (F0 m 52 ls []) := by
        intro x1 x2 n f H locs ls hw hP hS hl
        unfold wp_F_settleGoals_J52 at hw
        refine lv_aload_n hx hb dF_settleGoals_52 rfl (lv_at hl 0 rfl) ?_
        refine va_get (D := (dC, dI)) (ci := 2) (v := .ref (a 16)) (C := RF) (T := TF) (N := 11) hx hb hts (fun w h => List.mem_cons_of_mem _ (inF w h)) hown hK hP 2 rfl rfl 9 (by decide) (hts (.fieldLink RF 33 "CoverTrees$Forest" "size" "[I") (List.mem_cons_of_mem _ wt_107)) (fun _ h9 => h9) rfl dF_settleGoals_53 ?_
        refine lv_aload_n hx hb dF_settleGoals_56 rfl (lv_at hl 0 rfl) ?_
        refine va_get (D := (dC, dI)) (ci := 2) (v := .int (n 2)) (C := RF) (T := TF) (N := 11) hx hb hts (fun w h => List.mem_cons_of_mem _ (inF w h)) hown hK hP 2 rfl rfl 1 (by decide) (hts (.fieldLink RF 44 "CoverTrees$Forest" "count" "I") (List.mem_cons_of_mem _ wt_96)) (fun _ h9 => h9) rfl dF_settleGoals_57 ?_
        refine lv_iload_n hx hb dF_settleGoals_60 rfl (lv_at hl 2 rfl) ?_
        refine ct_i (va_runSN (As := [.int (n 2), .int x2]) (rest := [.ref (a 16)]) ⟨hx, hb, hml, hown, hts⟩ (met_C_place l dC dI a cA sa (n 2) x2 n f _ hw) ⟨va_cnB 2 hts (wb_N wt_316) rfl rfl rfl hZ.1 (hts (.initialized "CoverTrees") (List.mem_cons_of_mem _ wt_27)) (by decide +kernel) ⟨Nat.le_of_ble_eq_true rfl, Nat.le_of_ble_eq_true rfl⟩, (hts (.static yC_place) (List.mem_cons_of_mem _ wt_315)), trivial⟩ (ct_pre hK hP (hDa _ _) hZ hS hA) rfl rfl hl.1 rfl (lv_room (Nat.le_of_ble_eq_true rfl)) dF_settleGoals_61 ⟨Nat.le_of_ble_eq_true rfl, Nat.le_of_ble_eq_true rfl⟩) (hDa _ _) hS hA (fun r9 n_10 f_11 H locs hw hP hS => ?_)
        refine lv_aload_n hx hb dF_settleGoals_64 rfl (lv_at hl 0 rfl) ?_
        refine lv_iload_n hx hb dF_settleGoals_65 rfl (lv_at hl 2 rfl) ?_
        refine ct_i (va_runV (As := [.int x2]) (rest := [.int r9, .ref (a 16)]) ⟨hx, hb, hml, hown, hts⟩ (met_F_sizeByRule l dC dI a cA sa x2 n_10 f_11 _ hw) (cwV 1 hts (wb_V wt_337 wt_339 wt_8 wt_29 wt_340) rfl rfl rfl (by decide +kernel) ⟨Nat.le_of_ble_eq_true rfl, Nat.le_of_ble_eq_true rfl⟩) (ct_preV hK hP (hDa _ _) hZ hS hA (va_recv hK hP (ci := 2) (q0 := 2) rfl rfl)) rfl rfl hl.1 rfl (lv_room (Nat.le_of_ble_eq_true rfl)) dF_settleGoals_66 ⟨Nat.le_of_ble_eq_true rfl, Nat.le_of_ble_eq_true rfl⟩) (hDa _ _) hS hA (fun r12 n_13 f_14 H locs hw hP hS => ?_)
        obtain ⟨hi15, hw⟩ := hw
        refine va_iast hx hb hK hP (hDa _ _) hS 16 13 rfl rfl hi15 dF_settleGoals_69 (fun H locs hP _ hS => ?_)
        obtain ⟨f_16, ef_16⟩ : ∃ z : ctF, z = va_up f_14 16 (upd (f_14 16) r9.toNatClampNeg r12) := ⟨_, rfl⟩
        have hw := hw f_16 ef_16
        have hP : va_P (dC, dI) vcl (ctW a cA n_13 f_16) H := by rw [ef_16]; exact hP
        refine lv_aload_n hx hb dF_settleGoals_70 rfl (lv_at hl 0 rfl) ?_
        refine lv_iload_n hx hb dF_settleGoals_71 rfl (lv_at hl 2 rfl) ?_
        refine ct_v (va_runV (As := [.int x2]) (rest := []) ⟨hx, hb, hml, hown, hts⟩ (met_F_applyChainRulesFrom l dC dI a cA sa x2 n_13 f_16 _ hw) (cwV 1 hts (wb_V wt_344 wt_346 wt_9 wt_29 wt_347) rfl rfl rfl (by decide +kernel) ⟨Nat.le_of_ble_eq_true rfl, Nat.le_of_ble_eq_true rfl⟩) (ct_preV hK hP (hDa _ _) hZ hS hA (va_recv hK hP (ci := 2) (q0 := 2) rfl rfl)) rfl rfl hl.1 rfl (lv_room (Nat.le_of_ble_eq_true rfl)) dF_settleGoals_72 ⟨Nat.le_of_ble_eq_true rfl, Nat.le_of_ble_eq_true rfl⟩) (hDa _ _) hS hA (fun n_18 f_19 H locs hw hP hS => ?_)
        obtain ⟨x1_20, ex1_20⟩ : ∃ y : Int32, y = x1 + 1 := ⟨_, rfl⟩
        have hw := hw x1_20 ex1_20
        refine lv_iinc (v := x1_20) (lv' := [(1, .int x1_20), (0, .ref (a 2)), (2, .int x2)]) hx hb dF_settleGoals_75 hl (k := 1) rfl (by rw [ex1_20]; rfl) (by decide) rfl (fun ls hl => ?_)
        refine lv_goto (tgt := 2) hx hb dF_settleGoals_78 (by decide) ?_
        exact ih x1_20 n_18 f_19 _ _ ls hw hP hS (lv_sub hl [1, 0] rfl)
      intro x1 n f H locs ls hw hP hS hl
      rw [wp_F_settleGoals_L2] at hw
      refine lv_iload_n hx hb dF_settleGoals_2 rfl (lv_at hl 1 rfl) ?_
      refine lv_bipush (v := 8) hx hb dF_settleGoals_3 (by decide) ?_
      refine lv_icmp_ge (tgt := 81) hx hb dF_settleGoals_5 (by decide) (fun c1 => ?_) (fun c1 => ?_)
      · have hw := hw.1 c1
        exact W.vret hx hb hr (fun t ht hW => ⟨⟨(n, f), rfl, hw, ct_mkB ht hP⟩, hS.F ht⟩) hS.2.2 dF_settleGoals_81
      · have hw := hw.2 c1
        refine lv_aload_n hx hb dF_settleGoals_8 rfl (lv_at hl 0 rfl) ?_
        refine ct_i (va_runV (As := []) (rest := []) ⟨hx, hb, hml, hown, hts⟩ (met_F_cheapestUnsettled l dC dI a cA sa n f _ hw) (cwV 0 hts (wb_V wt_333 wt_335 wt_7 wt_29 wt_336) rfl rfl rfl (by decide +kernel) ⟨Nat.le_of_ble_eq_true rfl, Nat.le_of_ble_eq_true rfl⟩) (ct_preV hK hP (hDa _ _) hZ hS hA (va_recv hK hP (ci := 2) (q0 := 2) rfl rfl)) rfl rfl hl.1 rfl (lv_room (Nat.le_of_ble_eq_true rfl)) dF_settleGoals_9 ⟨Nat.le_of_ble_eq_true rfl, Nat.le_of_ble_eq_true rfl⟩) (hDa _ _) hS hA (fun r2 n_3 f_4 H locs hw hP hS => ?_)
        refine lv_istore_n (lv' := [(2, .int r2), (0, .ref (a 2)), (1, .int x1)]) hx hb dF_settleGoals_12 rfl hl (by decide) rfl (fun ls hl => ?_)
        refine lv_iload_n hx hb dF_settleGoals_13 rfl (lv_at hl 0 rfl) ?_
        refine lv_iconst (v := (-1)) hx hb dF_settleGoals_14 (by decide) ?_
        refine lv_icmp_ne (tgt := 19) hx hb dF_settleGoals_15 (by decide) (fun c5 => ?_) (fun c5 => ?_)
        · have hw := hw.1 c5
          refine lv_aload_n hx hb dF_settleGoals_19 rfl (lv_at hl 1 rfl) ?_
          refine va_get (D := (dC, dI)) (ci := 2) (v := .ref (a 17)) (C := RF) (T := TF) (N := 11) hx hb hts (fun w h => List.mem_cons_of_mem _ (inF w h)) hown hK hP 2 rfl rfl 10 (by decide) (hts (.fieldLink RF 36 "CoverTrees$Forest" "settled" "[Z") (List.mem_cons_of_mem _ wt_109)) (fun _ h9 => h9) rfl dF_settleGoals_20 ?_
          refine lv_iload_n hx hb dF_settleGoals_23 rfl (lv_at hl 0 rfl) ?_
          refine lv_iconst (v := 1) hx hb dF_settleGoals_24 (by decide) ?_
          obtain ⟨hi6, hw⟩ := hw
          refine va_zast hx hb hK hP (hDa _ _) hS 17 14 rfl rfl hi6 dF_settleGoals_25 (fun H locs hP _ hS => ?_)
          obtain ⟨f_7, ef_7⟩ : ∃ z : ctF, z = va_up f_4 17 (upd (f_4 17) r2.toNatClampNeg (vp_nar .boolean 1)) := ⟨_, rfl⟩
          have hw := hw f_7 ef_7
          have hP : va_P (dC, dI) vcl (ctW a cA n_3 f_7) H := by rw [ef_7]; exact hP
          refine lv_iload_n hx hb dF_settleGoals_26 rfl (lv_at hl 2 rfl) ?_
          refine lv_if_ne (tgt := 52) hx hb dF_settleGoals_27 (by decide) (fun c8 => ?_) (fun c8 => ?_)
          · have hw := hw.1 c8
            exact join_52 x1 r2 n_3 f_7 _ _ ls hw hP hS (lv_sub hl [1, 2, 0] rfl)
          · have hw := hw.2 c8
            refine lv_aload_n hx hb dF_settleGoals_30 rfl (lv_at hl 1 rfl) ?_
            refine va_get (D := (dC, dI)) (ci := 2) (v := .ref (a 12)) (C := RF) (T := TF) (N := 11) hx hb hts (fun w h => List.mem_cons_of_mem _ (inF w h)) hown hK hP 2 rfl rfl 5 (by decide) (hts (.fieldLink RF 21 "CoverTrees$Forest" "leastCost" "[I") (List.mem_cons_of_mem _ wt_100)) (fun _ h9 => h9) rfl dF_settleGoals_31 ?_
            refine lv_aload_n hx hb dF_settleGoals_34 rfl (lv_at hl 1 rfl) ?_
            refine va_get (D := (dC, dI)) (ci := 2) (v := .int (n_3 2)) (C := RF) (T := TF) (N := 11) hx hb hts (fun w h => List.mem_cons_of_mem _ (inF w h)) hown hK hP 2 rfl rfl 1 (by decide) (hts (.fieldLink RF 44 "CoverTrees$Forest" "count" "I") (List.mem_cons_of_mem _ wt_96)) (fun _ h9 => h9) rfl dF_settleGoals_35 ?_
            refine lv_aload_n hx hb dF_settleGoals_38 rfl (lv_at hl 1 rfl) ?_
            refine va_get (D := (dC, dI)) (ci := 2) (v := .ref (a 14)) (C := RF) (T := TF) (N := 11) hx hb hts (fun w h => List.mem_cons_of_mem _ (inF w h)) hown hK hP 2 rfl rfl 7 (by decide) (hts (.fieldLink RF 27 "CoverTrees$Forest" "cost" "[I") (List.mem_cons_of_mem _ wt_103)) (fun _ h9 => h9) rfl dF_settleGoals_39 ?_
            refine lv_aload_n hx hb dF_settleGoals_42 rfl (lv_at hl 1 rfl) ?_
            refine va_get (D := (dC, dI)) (ci := 2) (v := .int (n_3 2)) (C := RF) (T := TF) (N := 11) hx hb hts (fun w h => List.mem_cons_of_mem _ (inF w h)) hown hK hP 2 rfl rfl 1 (by decide) (hts (.fieldLink RF 44 "CoverTrees$Forest" "count" "I") (List.mem_cons_of_mem _ wt_96)) (fun _ h9 => h9) rfl dF_settleGoals_43 ?_
            refine lv_iload_n hx hb dF_settleGoals_46 rfl (lv_at hl 0 rfl) ?_
            refine ct_i (va_runSN (As := [.int (n_3 2), .int r2]) (rest := [.ref (a 14), .int (n_3 2), .ref (a 12)]) ⟨hx, hb, hml, hown, hts⟩ (met_C_place l dC dI a cA sa (n_3 2) r2 n_3 f_7 _ hw) ⟨va_cnB 2 hts (wb_N wt_316) rfl rfl rfl hZ.1 (hts (.initialized "CoverTrees") (List.mem_cons_of_mem _ wt_27)) (by decide +kernel) ⟨Nat.le_of_ble_eq_true rfl, Nat.le_of_ble_eq_true rfl⟩, (hts (.static yC_place) (List.mem_cons_of_mem _ wt_315)), trivial⟩ (ct_pre hK hP (hDa _ _) hZ hS hA) rfl rfl hl.1 rfl (lv_room (Nat.le_of_ble_eq_true rfl)) dF_settleGoals_47 ⟨Nat.le_of_ble_eq_true rfl, Nat.le_of_ble_eq_true rfl⟩) (hDa _ _) hS hA (fun r21 n_22 f_23 H locs hw hP hS => ?_)
            obtain ⟨hi24, hw⟩ := hw
            refine va_iald hx hb hK hP 14 11 rfl rfl hi24 dF_settleGoals_50 ?_
            obtain ⟨hi25, hw⟩ := hw
            refine va_iast hx hb hK hP (hDa _ _) hS 12 9 rfl rfl hi25 dF_settleGoals_51 (fun H locs hP _ hS => ?_)
            obtain ⟨f_26, ef_26⟩ : ∃ z : ctF, z = va_up f_23 12 (upd (f_23 12) (n_3 2).toNatClampNeg (f_23 14 r21.toNatClampNeg)) := ⟨_, rfl⟩
            have hw := hw f_26 ef_26
            have hP : va_P (dC, dI) vcl (ctW a cA n_22 f_26) H := by rw [ef_26]; exact hP
            exact join_52 x1 r2 n_22 f_26 _ _ ls hw hP hS (lv_sub hl [1, 2, 0] rfl)
        · have hw := hw.2 c5
          exact W.vret hx hb hr (fun t ht hW => ⟨⟨(n_3, f_4), rfl, hw, ct_mkB ht hP⟩, hS.F ht⟩) hS.2.2 dF_settleGoals_18
  refine lv_iconst (v := 0) hx hb dF_settleGoals_0 (by decide) ?_
  refine lv_istore_n (lv' := [(1, .int 0), (0, .ref (a 2))]) hx hb dF_settleGoals_1 rfl hl (by decide) rfl (fun ls hl => ?_)
  obtain ⟨j, hw⟩ := hw
  exact loop_2 j 0 n f _ _ ls hw hP hS (lv_sub hl [1, 0] rfl)
def wp_F_draft (post : ctN → ctF → Prop) (p1 : Int32) (p2 : Int32) (p3 : Int32) (n : ctN) (f : ctF) : Prop := vp_in (n 2) 120 ∧ (∀ f_2 : ctF, f_2 = va_up f 9 (upd (f 9) (n 2).toNatClampNeg p1) → (vp_in (n 2) 120 ∧ (∀ f_4 : ctF, f_4 = va_up f_2 10 (upd (f_2 10) (n 2).toNatClampNeg p2) → (vp_in (n 2) 120 ∧ (∀ f_6 : ctF, f_6 = va_up f_4 11 (upd (f_4 11) (n 2).toNatClampNeg p3) → (wp_F_blankDraft (fun (n_8 : ctN) (f_9 : ctF) => wp_F_applyBaseRules (fun (n_11 : ctN) (f_12 : ctF) => wp_F_settleGoals (fun (n_14 : ctN) (f_15 : ctF) => post n_14 f_15) n_11 f_12) n_8 f_9) n f_6))))))
set_option maxHeartbeats 4000000 in
set_option maxRecDepth 100000 in
theorem met_F_draft (l : Launch) (dC : Nat → ClassId) (dI : Nat → Nat → Nat) (a : Nat → Nat) (cA : Nat → ClassId) (sa : Nat → Nat) (p1 : Int32) (p2 : Int32) (p3 : Int32) (n : ctN) (f : ctF) (sz : Nat) {post : ctN → ctF → Prop} (hw : wp_F_draft post p1 p2 p3 n f) : Met l yF_draft wsF_draft ({ frames := 4, cells := 0, slots := 0, locals := 89 } : Room) (ct_Pc dC dI a cA sa [.ref (a 2), .int p1, .int p2, .int p3] n f sz) (va_Qv (fun (u : ctN × ctF) => post u.1 u.2) (ct_B dC dI a cA) (va_A (ctW a cA n f) sz)) 0 0 (va_A (ctW a cA n f) sz) := by
  refine Met.ofW (cc := cF_draft) (maxL := 4) (ret := none) (by decide) rfl ?_
  intro p e s m args below meth c s₁ B hml hv
  obtain ⟨rfl, hsz, hP, hK, hD0, hZ⟩ := hv
  have hx := B.exec
  have hb := B.bytes
  have hr := B.returns
  have hts := atoms_spec (ws := wsF_draft) B.pre
  have hown : s.vm.findClass RF = some m.cls := findClass_of_methodNamed B.named
  have hlocks := B.notSynchronized
  subst hsz
  have hD := hD0.self (sz := s.heap.size)
  generalize hAe : va_A (ctW a cA n f) s.heap.size = A at hD hZ ⊢
  have hDa : ∀ (n : ctN) (f : ctF), va_D A (ctW a cA n f) := fun _ _ => ct_D hD
  have hA : ∀ q : Nat, s.heap.size ≤ q → A q := fun q h => by rw [← hAe]; exact Or.inr h
  have hS : va_S A s.heap s.heap [] := va_S.rf
  have hl := lv_entry ([.ref (a 2), .int p1, .int p2, .int p3]) (n := 4) (Nat.le_of_ble_eq_true rfl)
  rw [lg_entry_eq]
  generalize (lg_sl ([.ref (a 2), .int p1, .int p2, .int p3]) ++ List.replicate (4 - (lg_sl ([.ref (a 2), .int p1, .int p2, .int p3])).length) Slot.unset).toArray = ls at hl ⊢
  have hl : lv_has ls 4 [(0, .ref (a 2)), (1, .int p1), (2, .int p2), (3, .int p3)] := hl
  unfold wp_F_draft at hw
  refine lv_aload_n hx hb dF_draft_0 rfl (lv_at hl 0 rfl) ?_
  refine va_get (D := (dC, dI)) (ci := 2) (v := .ref (a 9)) (C := RF) (T := TF) (N := 11) hx hb hts (fun w h => List.mem_cons_of_mem _ (inF w h)) hown hK hP 2 rfl rfl 2 (by decide) (hts (.fieldLink RF 9 "CoverTrees$Forest" "operator" "[I") (List.mem_cons_of_mem _ wt_97)) (fun _ h9 => h9) rfl dF_draft_1 ?_
  refine lv_aload_n hx hb dF_draft_4 rfl (lv_at hl 0 rfl) ?_
  refine va_get (D := (dC, dI)) (ci := 2) (v := .int (n 2)) (C := RF) (T := TF) (N := 11) hx hb hts (fun w h => List.mem_cons_of_mem _ (inF w h)) hown hK hP 2 rfl rfl 1 (by decide) (hts (.fieldLink RF 44 "CoverTrees$Forest" "count" "I") (List.mem_cons_of_mem _ wt_96)) (fun _ h9 => h9) rfl dF_draft_5 ?_
  refine lv_iload_n hx hb dF_draft_8 rfl (lv_at hl 1 rfl) ?_
  obtain ⟨hi1, hw⟩ := hw
  refine va_iast hx hb hK hP (hDa _ _) hS 9 6 rfl rfl hi1 dF_draft_9 (fun H locs hP _ hS => ?_)
  obtain ⟨f_2, ef_2⟩ : ∃ z : ctF, z = va_up f 9 (upd (f 9) (n 2).toNatClampNeg p1) := ⟨_, rfl⟩
  have hw := hw f_2 ef_2
  have hP : va_P (dC, dI) vcl (ctW a cA n f_2) H := by rw [ef_2]; exact hP
  refine lv_aload_n hx hb dF_draft_10 rfl (lv_at hl 0 rfl) ?_
  refine va_get (D := (dC, dI)) (ci := 2) (v := .ref (a 10)) (C := RF) (T := TF) (N := 11) hx hb hts (fun w h => List.mem_cons_of_mem _ (inF w h)) hown hK hP 2 rfl rfl 3 (by decide) (hts (.fieldLink RF 15 "CoverTrees$Forest" "one" "[I") (List.mem_cons_of_mem _ wt_98)) (fun _ h9 => h9) rfl dF_draft_11 ?_
  refine lv_aload_n hx hb dF_draft_14 rfl (lv_at hl 0 rfl) ?_
  refine va_get (D := (dC, dI)) (ci := 2) (v := .int (n 2)) (C := RF) (T := TF) (N := 11) hx hb hts (fun w h => List.mem_cons_of_mem _ (inF w h)) hown hK hP 2 rfl rfl 1 (by decide) (hts (.fieldLink RF 44 "CoverTrees$Forest" "count" "I") (List.mem_cons_of_mem _ wt_96)) (fun _ h9 => h9) rfl dF_draft_15 ?_
  refine lv_iload_n hx hb dF_draft_18 rfl (lv_at hl 2 rfl) ?_
  obtain ⟨hi3, hw⟩ := hw
  refine va_iast hx hb hK hP (hDa _ _) hS 10 7 rfl rfl hi3 dF_draft_19 (fun H locs hP _ hS => ?_)
  obtain ⟨f_4, ef_4⟩ : ∃ z : ctF, z = va_up f_2 10 (upd (f_2 10) (n 2).toNatClampNeg p2) := ⟨_, rfl⟩
  have hw := hw f_4 ef_4
  have hP : va_P (dC, dI) vcl (ctW a cA n f_4) H := by rw [ef_4]; exact hP
  refine lv_aload_n hx hb dF_draft_20 rfl (lv_at hl 0 rfl) ?_
  refine va_get (D := (dC, dI)) (ci := 2) (v := .ref (a 11)) (C := RF) (T := TF) (N := 11) hx hb hts (fun w h => List.mem_cons_of_mem _ (inF w h)) hown hK hP 2 rfl rfl 4 (by decide) (hts (.fieldLink RF 18 "CoverTrees$Forest" "two" "[I") (List.mem_cons_of_mem _ wt_99)) (fun _ h9 => h9) rfl dF_draft_21 ?_
  refine lv_aload_n hx hb dF_draft_24 rfl (lv_at hl 0 rfl) ?_
  refine va_get (D := (dC, dI)) (ci := 2) (v := .int (n 2)) (C := RF) (T := TF) (N := 11) hx hb hts (fun w h => List.mem_cons_of_mem _ (inF w h)) hown hK hP 2 rfl rfl 1 (by decide) (hts (.fieldLink RF 44 "CoverTrees$Forest" "count" "I") (List.mem_cons_of_mem _ wt_96)) (fun _ h9 => h9) rfl dF_draft_25 ?_
  refine lv_iload_n hx hb dF_draft_28 rfl (lv_at hl 3 rfl) ?_
  obtain ⟨hi5, hw⟩ := hw
  refine va_iast hx hb hK hP (hDa _ _) hS 11 8 rfl rfl hi5 dF_draft_29 (fun H locs hP _ hS => ?_)
  obtain ⟨f_6, ef_6⟩ : ∃ z : ctF, z = va_up f_4 11 (upd (f_4 11) (n 2).toNatClampNeg p3) := ⟨_, rfl⟩
  have hw := hw f_6 ef_6
  have hP : va_P (dC, dI) vcl (ctW a cA n f_6) H := by rw [ef_6]; exact hP
  refine lv_aload_n hx hb dF_draft_30 rfl (lv_at hl 0 rfl) ?_
  refine ct_v (va_runV (As := []) (rest := []) ⟨hx, hb, hml, hown, hts⟩ (met_F_blankDraft l dC dI a cA sa n f_6 _ hw) (cwV 0 hts (wb_V wt_310 wt_312 wt_2 wt_29 wt_313) rfl rfl rfl (by decide +kernel) ⟨Nat.le_of_ble_eq_true rfl, Nat.le_of_ble_eq_true rfl⟩) (ct_preV hK hP (hDa _ _) hZ hS hA (va_recv hK hP (ci := 2) (q0 := 2) rfl rfl)) rfl rfl hl.1 rfl (lv_room (Nat.le_of_ble_eq_true rfl)) dF_draft_31 ⟨Nat.le_of_ble_eq_true rfl, Nat.le_of_ble_eq_true rfl⟩) (hDa _ _) hS hA (fun n_8 f_9 H locs hw hP hS => ?_)
  refine lv_aload_n hx hb dF_draft_34 rfl (lv_at hl 0 rfl) ?_
  refine ct_v (va_runV (As := []) (rest := []) ⟨hx, hb, hml, hown, hts⟩ (met_F_applyBaseRules l dC dI a cA sa n_8 f_9 _ hw) (cwV 0 hts (wb_V wt_317 wt_319 wt_3 wt_29 wt_320) rfl rfl rfl (by decide +kernel) ⟨Nat.le_of_ble_eq_true rfl, Nat.le_of_ble_eq_true rfl⟩) (ct_preV hK hP (hDa _ _) hZ hS hA (va_recv hK hP (ci := 2) (q0 := 2) rfl rfl)) rfl rfl hl.1 rfl (lv_room (Nat.le_of_ble_eq_true rfl)) dF_draft_35 ⟨Nat.le_of_ble_eq_true rfl, Nat.le_of_ble_eq_true rfl⟩) (hDa _ _) hS hA (fun n_11 f_12 H locs hw hP hS => ?_)
  refine lv_aload_n hx hb dF_draft_38 rfl (lv_at hl 0 rfl) ?_
  refine ct_v (va_runV (As := []) (rest := []) ⟨hx, hb, hml, hown, hts⟩ (met_F_settleGoals l dC dI a cA sa n_11 f_12 _ hw) (cwV 0 hts (wb_V wt_329 wt_331 wt_6 wt_29 wt_332) rfl rfl rfl (by decide +kernel) ⟨Nat.le_of_ble_eq_true rfl, Nat.le_of_ble_eq_true rfl⟩) (ct_preV hK hP (hDa _ _) hZ hS hA (va_recv hK hP (ci := 2) (q0 := 2) rfl rfl)) rfl rfl hl.1 rfl (lv_room (Nat.le_of_ble_eq_true rfl)) dF_draft_39 ⟨Nat.le_of_ble_eq_true rfl, Nat.le_of_ble_eq_true rfl⟩) (hDa _ _) hS hA (fun n_14 f_15 H locs hw hP hS => ?_)
  exact W.vret hx hb hr (fun t ht hW => ⟨⟨(n_14, f_15), rfl, hw, ct_mkB ht hP⟩, hS.F ht⟩) hS.2.2 dF_draft_42
