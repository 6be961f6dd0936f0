def wp_F_alike_L2 (post : Int32 → ctN → ctF → Prop) : Nat → Int32 → Int32 → Int32 → ctN → ctF → Prop
  | 0, _, _, _, _, _ => False
  | k + 1, x1, x2, x3, n, f => (8 ≤ x3 → (post 1 n f)) ∧ (¬ 8 ≤ x3 → (wp_C_place (fun (r2 : Int32) (n_3 : ctN) (f_4 : ctF) => wp_C_place (fun (r5 : Int32) (n_6 : ctN) (f_7 : ctF) => vp_in r2 960 ∧ (vp_in r5 960 ∧ (((f_7 15 r2.toNatClampNeg) = (f_7 15 r5.toNatClampNeg) → (vp_in r2 960 ∧ (((f_7 15 r2.toNatClampNeg) = (-1) → (∀ x3_13 : Int32, x3_13 = x3 + 1 → (wp_F_alike_L2 post k x1 x2 x3_13 n_6 f_7))) ∧ (¬ (f_7 15 r2.toNatClampNeg) = (-1) → (vp_in r2 960 ∧ (vp_in x1 120 ∧ (vp_in r5 960 ∧ (vp_in x2 120 ∧ ((((f_7 14 r2.toNatClampNeg) - (f_7 12 x1.toNatClampNeg)) = ((f_7 14 r5.toNatClampNeg) - (f_7 12 x2.toNatClampNeg)) → (∀ x3_19 : Int32, x3_19 = x3 + 1 → (wp_F_alike_L2 post k x1 x2 x3_19 n_6 f_7))) ∧ (¬ ((f_7 14 r2.toNatClampNeg) - (f_7 12 x1.toNatClampNeg)) = ((f_7 14 r5.toNatClampNeg) - (f_7 12 x2.toNatClampNeg)) → (post 0 n_6 f_7))))))))))) ∧ (¬ (f_7 15 r2.toNatClampNeg) = (f_7 15 r5.toNatClampNeg) → (post 0 n_6 f_7))))) x2 x3 n_3 f_4) x1 x3 n f))
def wp_F_alike (post : Int32 → ctN → ctF → Prop) (p1 : Int32) (p2 : Int32) (n : ctN) (f : ctF) : Prop := ∃ j, wp_F_alike_L2 post j p1 p2 0 n f
set_option maxHeartbeats 4000000 in
set_option maxRecDepth 100000 in
theorem met_F_alike (l : Launch) (dC : Nat → ClassId) (dI : Nat → Nat → Nat) (a : Nat → Nat) (cA : Nat → ClassId) (sa : Nat → Nat) (p1 : Int32) (p2 : Int32) (n : ctN) (f : ctF) (sz : Nat) {post : Int32 → ctN → ctF → Prop} (hw : wp_F_alike post p1 p2 n f) : Met l yF_alike wsF_alike ({ frames := 1, cells := 0, slots := 0, locals := 21 } : Room) (ct_Pc dC dI a cA sa [.ref (a 2), .int p1, .int p2] n f sz) (va_Qi (fun (r : Int32) (u : ctN × ctF) => post r u.1 u.2) (ct_B dC dI a cA) (va_A (ctW a cA n f) sz)) 0 0 (va_A (ctW a cA n f) sz) := by
  refine Met.ofW (cc := cF_alike) (maxL := 6) (ret := (some .boolean)) (by decide) rfl ?_
  intro p e s m args below meth c s₁ B hml hv
  obtain ⟨rfl, hsz, hP, hK, hD0, hZ⟩ := hv
  have hx := B.exec
  have hb := B.bytes
  have hr := B.returns
  have hts := atoms_spec (ws := wsF_alike) B.pre
  have hown : s.vm.findClass RF = some m.cls := findClass_of_methodNamed B.named
  have hlocks := B.notSynchronized
  subst hsz
  have hD := hD0.self (sz := s.heap.size)
  generalize hAe : va_A (ctW a cA n f) s.heap.size = A at hD hZ ⊢
  have hDa : ∀ (n : ctN) (f : ctF), va_D A (ctW a cA n f) := fun _ _ => ct_D hD
  have hA : ∀ q : Nat, s.heap.size ≤ q → A q := fun q h => by rw [← hAe]; exact Or.inr h
  have hS : va_S A s.heap s.heap [] := va_S.rf
  have hl := lv_entry ([.ref (a 2), .int p1, .int p2]) (n := 6) (Nat.le_of_ble_eq_true rfl)
  rw [lg_entry_eq]
  generalize (lg_sl ([.ref (a 2), .int p1, .int p2]) ++ List.replicate (6 - (lg_sl ([.ref (a 2), .int p1, .int p2])).length) Slot.unset).toArray = ls at hl ⊢
  have hl : lv_has ls 6 [(0, .ref (a 2)), (1, .int p1), (2, .int p2)] := hl
  unfold wp_F_alike at hw
  have loop_2 : ∀ (k : Nat) (x1 x2 x3 : Int32) (n : ctN) (f : ctF) (H : Heap) (locs : List Loc) (ls : Array Slot), wp_F_alike_L2 post k x1 x2 x3 n f → va_P (dC, dI) vcl (ctW a cA n f) H → va_S A s.heap H locs → lv_has ls 6 [(0, .ref (a 2)), (1, .int x1), (2, .int x2), (3, .int x3)] → W p l e (headSpec wsF_alike ({ frames := 1, cells := 0, slots := 0, locals := 21 } : Room)).room s m (([.ref (a 2), .int p1, .int p2] : List Value).toArray) below meth c H locs 0 0 (MQ below (va_Qi (fun (r : Int32) (u : ctN × ctF) => post r u.1 u.2) (ct_B dC dI a cA) A) (([.ref (a 2), .int p1, .int p2] : List Value).toArray) s 0 0 A) (F0 m 2 ls []) := by
    intro k
    induction k with
    | zero => intro x1 x2 x3 n f H locs ls hw; exact hw.elim
    | succ k ih =>
      intro x1 x2 x3 n f H locs ls hw hP hS hl
      rw [wp_F_alike_L2] at hw
      refine lv_iload_n hx hb dF_alike_2 rfl (lv_at hl 3 rfl) ?_
      refine lv_bipush (v := 8) hx hb dF_alike_3 (by decide) ?_
      refine lv_icmp_ge (tgt := 91) hx hb dF_alike_5 (by decide) (fun c1 => ?_) (fun c1 => ?_)
      · have hw := hw.1 c1
        refine lv_iconst (v := 1) hx hb dF_alike_91 (by decide) ?_
        exact W.zret (v := 1) hx hb hr rfl (fun t ht hW => ⟨⟨1, (n, f), rfl, hw, ct_mkB ht hP⟩, hS.F ht⟩) hS.2.2 dF_alike_92
      · have hw := hw.2 c1
        refine lv_iload_n hx hb dF_alike_8 rfl (lv_at hl 1 rfl) ?_
        refine lv_iload_n hx hb dF_alike_9 rfl (lv_at hl 3 rfl) ?_
        refine ct_i (va_runSN (As := [.int x1, .int x3]) (rest := []) ⟨hx, hb, hml, hown, hts⟩ (met_C_place l dC dI a cA sa x1 x3 n f _ hw) ⟨va_cnB 2 hts (wb_N wt_316) rfl rfl rfl hZ.1 (hts (.initialized "CoverTrees") (List.mem_cons_of_mem _ wt_27)) (by decide +kernel) ⟨Nat.le_of_ble_eq_true rfl, Nat.le_of_ble_eq_true rfl⟩, (hts (.static yC_place) (List.mem_cons_of_mem _ wt_315)), trivial⟩ (ct_pre hK hP (hDa _ _) hZ hS hA) rfl rfl hl.1 rfl (lv_room (Nat.le_of_ble_eq_true rfl)) dF_alike_10 ⟨Nat.le_of_ble_eq_true rfl, Nat.le_of_ble_eq_true rfl⟩) (hDa _ _) hS hA (fun r2 n_3 f_4 H locs hw hP hS => ?_)
        refine lv_istore (lv' := [(4, .int r2), (0, .ref (a 2)), (1, .int x1), (2, .int x2), (3, .int x3)]) hx hb dF_alike_13 hl (by decide) rfl (fun ls hl => ?_)
        refine lv_iload_n hx hb dF_alike_15 rfl (lv_at hl 3 rfl) ?_
        refine lv_iload_n hx hb dF_alike_16 rfl (lv_at hl 4 rfl) ?_
        refine ct_i (va_runSN (As := [.int x2, .int x3]) (rest := []) ⟨hx, hb, hml, hown, hts⟩ (met_C_place l dC dI a cA sa x2 x3 n_3 f_4 _ hw) ⟨va_cnB 2 hts (wb_N wt_316) rfl rfl rfl hZ.1 (hts (.initialized "CoverTrees") (List.mem_cons_of_mem _ wt_27)) (by decide +kernel) ⟨Nat.le_of_ble_eq_true rfl, Nat.le_of_ble_eq_true rfl⟩, (hts (.static yC_place) (List.mem_cons_of_mem _ wt_315)), trivial⟩ (ct_pre hK hP (hDa _ _) hZ hS hA) rfl rfl hl.1 rfl (lv_room (Nat.le_of_ble_eq_true rfl)) dF_alike_17 ⟨Nat.le_of_ble_eq_true rfl, Nat.le_of_ble_eq_true rfl⟩) (hDa _ _) hS hA (fun r5 n_6 f_7 H locs hw hP hS => ?_)
        refine lv_istore (lv' := [(5, .int r5), (4, .int r2), (0, .ref (a 2)), (1, .int x1), (2, .int x2), (3, .int x3)]) hx hb dF_alike_20 hl (by decide) rfl (fun ls hl => ?_)
        refine lv_aload_n hx hb dF_alike_22 rfl (lv_at hl 2 rfl) ?_
        refine va_get (D := (dC, dI)) (ci := 2) (v := .ref (a 15)) (C := RF) (T := TF) (N := 11) hx hb hts (fun w h => List.mem_cons_of_mem _ (inF w h)) hown hK hP 2 rfl rfl 8 (by decide) (hts (.fieldLink RF 30 "CoverTrees$Forest" "rule" "[I") (List.mem_cons_of_mem _ wt_105)) (fun _ h9 => h9) rfl dF_alike_23 ?_
        refine lv_iload hx hb dF_alike_26 (lv_at hl 1 rfl) ?_
        obtain ⟨hi8, hw⟩ := hw
        refine va_iald hx hb hK hP 15 12 rfl rfl hi8 dF_alike_28 ?_
        refine lv_aload_n hx hb dF_alike_29 rfl (lv_at hl 2 rfl) ?_
        refine va_get (D := (dC, dI)) (ci := 2) (v := .ref (a 15)) (C := RF) (T := TF) (N := 11) hx hb hts (fun w h => List.mem_cons_of_mem _ (inF w h)) hown hK hP 2 rfl rfl 8 (by decide) (hts (.fieldLink RF 30 "CoverTrees$Forest" "rule" "[I") (List.mem_cons_of_mem _ wt_105)) (fun _ h9 => h9) rfl dF_alike_30 ?_
        refine lv_iload hx hb dF_alike_33 (lv_at hl 0 rfl) ?_
        obtain ⟨hi9, hw⟩ := hw
        refine va_iald hx hb hK hP 15 12 rfl rfl hi9 dF_alike_35 ?_
        refine lv_icmp_eq (tgt := 41) hx hb dF_alike_36 (by decide) (fun c10 => ?_) (fun c10 => ?_)
        · have hw := hw.1 c10
          refine lv_aload_n hx hb dF_alike_41 rfl (lv_at hl 2 rfl) ?_
          refine va_get (D := (dC, dI)) (ci := 2) (v := .ref (a 15)) (C := RF) (T := TF) (N := 11) hx hb hts (fun w h => List.mem_cons_of_mem _ (inF w h)) hown hK hP 2 rfl rfl 8 (by decide) (hts (.fieldLink RF 30 "CoverTrees$Forest" "rule" "[I") (List.mem_cons_of_mem _ wt_105)) (fun _ h9 => h9) rfl dF_alike_42 ?_
          refine lv_iload hx hb dF_alike_45 (lv_at hl 1 rfl) ?_
          obtain ⟨hi11, hw⟩ := hw
          refine va_iald hx hb hK hP 15 12 rfl rfl hi11 dF_alike_47 ?_
          refine lv_iconst (v := (-1)) hx hb dF_alike_48 (by decide) ?_
          refine lv_icmp_eq (tgt := 85) hx hb dF_alike_49 (by decide) (fun c12 => ?_) (fun c12 => ?_)
          · have hw := hw.1 c12
            obtain ⟨x3_13, ex3_13⟩ : ∃ y : Int32, y = x3 + 1 := ⟨_, rfl⟩
            have hw := hw x3_13 ex3_13
            refine lv_iinc (v := x3_13) (lv' := [(3, .int x3_13), (5, .int r5), (4, .int r2), (0, .ref (a 2)), (1, .int x1), (2, .int x2)]) hx hb dF_alike_85 hl (k := 5) rfl (by rw [ex3_13]; rfl) (by decide) rfl (fun ls hl => ?_)
            refine lv_goto (tgt := 2) hx hb dF_alike_88 (by decide) ?_
            exact ih x1 x2 x3_13 n_6 f_7 _ _ ls hw hP hS (lv_sub hl [3, 4, 5, 0] rfl)
          · have hw := hw.2 c12
            refine lv_aload_n hx hb dF_alike_52 rfl (lv_at hl 2 rfl) ?_
            refine va_get (D := (dC, dI)) (ci := 2) (v := .ref (a 14)) (C := RF) (T := TF) (N := 11) hx hb hts (fun w h => List.mem_cons_of_mem _ (inF w h)) hown hK hP 2 rfl rfl 7 (by decide) (hts (.fieldLink RF 27 "CoverTrees$Forest" "cost" "[I") (List.mem_cons_of_mem _ wt_103)) (fun _ h9 => h9) rfl dF_alike_53 ?_
            refine lv_iload hx hb dF_alike_56 (lv_at hl 1 rfl) ?_
            obtain ⟨hi14, hw⟩ := hw
            refine va_iald hx hb hK hP 14 11 rfl rfl hi14 dF_alike_58 ?_
            refine lv_aload_n hx hb dF_alike_59 rfl (lv_at hl 2 rfl) ?_
            refine va_get (D := (dC, dI)) (ci := 2) (v := .ref (a 12)) (C := RF) (T := TF) (N := 11) hx hb hts (fun w h => List.mem_cons_of_mem _ (inF w h)) hown hK hP 2 rfl rfl 5 (by decide) (hts (.fieldLink RF 21 "CoverTrees$Forest" "leastCost" "[I") (List.mem_cons_of_mem _ wt_100)) (fun _ h9 => h9) rfl dF_alike_60 ?_
            refine lv_iload_n hx hb dF_alike_63 rfl (lv_at hl 3 rfl) ?_
            obtain ⟨hi15, hw⟩ := hw
            refine va_iald hx hb hK hP 12 9 rfl rfl hi15 dF_alike_64 ?_
            refine lv_isub hx hb dF_alike_65 ?_
            refine lv_aload_n hx hb dF_alike_66 rfl (lv_at hl 2 rfl) ?_
            refine va_get (D := (dC, dI)) (ci := 2) (v := .ref (a 14)) (C := RF) (T := TF) (N := 11) hx hb hts (fun w h => List.mem_cons_of_mem _ (inF w h)) hown hK hP 2 rfl rfl 7 (by decide) (hts (.fieldLink RF 27 "CoverTrees$Forest" "cost" "[I") (List.mem_cons_of_mem _ wt_103)) (fun _ h9 => h9) rfl dF_alike_67 ?_
            refine lv_iload hx hb dF_alike_70 (lv_at hl 0 rfl) ?_
            obtain ⟨hi16, hw⟩ := hw
            refine va_iald hx hb hK hP 14 11 rfl rfl hi16 dF_alike_72 ?_
            refine lv_aload_n hx hb dF_alike_73 rfl (lv_at hl 2 rfl) ?_
            refine va_get (D := (dC, dI)) (ci := 2) (v := .ref (a 12)) (C := RF) (T := TF) (N := 11) hx hb hts (fun w h => List.mem_cons_of_mem _ (inF w h)) hown hK hP 2 rfl rfl 5 (by decide) (hts (.fieldLink RF 21 "CoverTrees$Forest" "leastCost" "[I") (List.mem_cons_of_mem _ wt_100)) (fun _ h9 => h9) rfl dF_alike_74 ?_
            refine lv_iload_n hx hb dF_alike_77 rfl (lv_at hl 4 rfl) ?_
            obtain ⟨hi17, hw⟩ := hw
            refine va_iald hx hb hK hP 12 9 rfl rfl hi17 dF_alike_78 ?_
            refine lv_isub hx hb dF_alike_79 ?_
            refine lv_icmp_eq (tgt := 85) hx hb dF_alike_80 (by decide) (fun c18 => ?_) (fun c18 => ?_)
            · have hw := hw.1 c18
              obtain ⟨x3_19, ex3_19⟩ : ∃ y : Int32, y = x3 + 1 := ⟨_, rfl⟩
              have hw := hw x3_19 ex3_19
              refine lv_iinc (v := x3_19) (lv' := [(3, .int x3_19), (5, .int r5), (4, .int r2), (0, .ref (a 2)), (1, .int x1), (2, .int x2)]) hx hb dF_alike_85 hl (k := 5) rfl (by rw [ex3_19]; rfl) (by decide) rfl (fun ls hl => ?_)
              refine lv_goto (tgt := 2) hx hb dF_alike_88 (by decide) ?_
              exact ih x1 x2 x3_19 n_6 f_7 _ _ ls hw hP hS (lv_sub hl [3, 4, 5, 0] rfl)
            · have hw := hw.2 c18
              refine lv_iconst (v := 0) hx hb dF_alike_83 (by decide) ?_
              exact W.zret (v := 0) hx hb hr rfl (fun t ht hW => ⟨⟨0, (n_6, f_7), rfl, hw, ct_mkB ht hP⟩, hS.F ht⟩) hS.2.2 dF_alike_84
        · have hw := hw.2 c10
          refine lv_iconst (v := 0) hx hb dF_alike_39 (by decide) ?_
          exact W.zret (v := 0) hx hb hr rfl (fun t ht hW => ⟨⟨0, (n_6, f_7), rfl, hw, ct_mkB ht hP⟩, hS.F ht⟩) hS.2.2 dF_alike_40
  refine lv_iconst (v := 0) hx hb dF_alike_0 (by decide) ?_
  refine lv_istore_n (lv' := [(3, .int 0), (0, .ref (a 2)), (1, .int p1), (2, .int p2)]) hx hb dF_alike_1 rfl hl (by decide) rfl (fun ls hl => ?_)
  obtain ⟨j, hw⟩ := hw
  exact loop_2 j p1 p2 0 n f _ _ ls hw hP hS (lv_sub hl [1, 2, 3, 0] rfl)
def wp_F_firstAlike_L2 (post : Int32 → ctN → ctF → Prop) : Nat → Int32 → Int32 → ctN → ctF → Prop
  | 0, _, _, _, _ => False
  | k + 1, x1, x2, n, f => (x1 ≤ x2 → (post x1 n f)) ∧ (¬ x1 ≤ x2 → (vp_in x2 120 ∧ ((¬ (f 13 x2.toNatClampNeg) = x2 → (∀ x2_4 : Int32, x2_4 = x2 + 1 → (wp_F_firstAlike_L2 post k x1 x2_4 n f))) ∧ ((f 13 x2.toNatClampNeg) = x2 → (wp_F_alike (fun (r5 : Int32) (n_6 : ctN) (f_7 : ctF) => (r5 = 0 → (∀ x2_9 : Int32, x2_9 = x2 + 1 → (wp_F_firstAlike_L2 post k x1 x2_9 n_6 f_7))) ∧ (¬ r5 = 0 → (post x2 n_6 f_7))) x2 x1 n f)))))
def wp_F_firstAlike (post : Int32 → ctN → ctF → Prop) (p1 : Int32) (n : ctN) (f : ctF) : Prop := ∃ j, wp_F_firstAlike_L2 post j p1 0 n f
set_option maxHeartbeats 4000000 in
set_option maxRecDepth 100000 in
theorem met_F_firstAlike (l : Launch) (dC : Nat → ClassId) (dI : Nat → Nat → Nat) (a : Nat → Nat) (cA : Nat → ClassId) (sa : Nat → Nat) (p1 : Int32) (n : ctN) (f : ctF) (sz : Nat) {post : Int32 → ctN → ctF → Prop} (hw : wp_F_firstAlike post p1 n f) : Met l yF_firstAlike wsF_firstAlike ({ frames := 2, cells := 0, slots := 0, locals := 46 } : Room) (ct_Pc dC dI a cA sa [.ref (a 2), .int p1] n f sz) (va_Qi (fun (r : Int32) (u : ctN × ctF) => post r u.1 u.2) (ct_B dC dI a cA) (va_A (ctW a cA n f) sz)) 0 0 (va_A (ctW a cA n f) sz) := by
  refine Met.ofW (cc := cF_firstAlike) (maxL := 3) (ret := (some .int)) (by decide) rfl ?_
  intro p e s m args below meth c s₁ B hml hv
  obtain ⟨rfl, hsz, hP, hK, hD0, hZ⟩ := hv
  have hx := B.exec
  have hb := B.bytes
  have hr := B.returns
  have hts := atoms_spec (ws := wsF_firstAlike) B.pre
  have hown : s.vm.findClass RF = some m.cls := findClass_of_methodNamed B.named
  have hlocks := B.notSynchronized
  subst hsz
  have hD := hD0.self (sz := s.heap.size)
  generalize hAe : va_A (ctW a cA n f) s.heap.size = A at hD hZ ⊢
  have hDa : ∀ (n : ctN) (f : ctF), va_D A (ctW a cA n f) := fun _ _ => ct_D hD
  have hA : ∀ q : Nat, s.heap.size ≤ q → A q := fun q h => by rw [← hAe]; exact Or.inr h
  have hS : va_S A s.heap s.heap [] := va_S.rf
  have hl := lv_entry ([.ref (a 2), .int p1]) (n := 3) (Nat.le_of_ble_eq_true rfl)
  rw [lg_entry_eq]
  generalize (lg_sl ([.ref (a 2), .int p1]) ++ List.replicate (3 - (lg_sl ([.ref (a 2), .int p1])).length) Slot.unset).toArray = ls at hl ⊢
  have hl : lv_has ls 3 [(0, .ref (a 2)), (1, .int p1)] := hl
  unfold wp_F_firstAlike at hw
  have loop_2 : ∀ (k : Nat) (x1 x2 : Int32) (n : ctN) (f : ctF) (H : Heap) (locs : List Loc) (ls : Array Slot), wp_F_firstAlike_L2 post k x1 x2 n f → va_P (dC, dI) vcl (ctW a cA n f) H → va_S A s.heap H locs → lv_has ls 3 [(0, .ref (a 2)), (1, .int x1), (2, .int x2)] → W p l e (headSpec wsF_firstAlike ({ frames := 2, cells := 0, slots := 0, locals := 46 } : Room)).room s m (([.ref (a 2), .int p1] : List Value).toArray) below meth c H locs 0 0 (MQ below (va_Qi (fun (r : Int32) (u : ctN × ctF) => post r u.1 u.2) (ct_B dC dI a cA) A) (([.ref (a 2), .int p1] : List Value).toArray) s 0 0 A) (F0 m 2 ls []) := by
    intro k
    induction k with
    | zero => intro x1 x2 n f H locs ls hw; exact hw.elim
    | succ k ih =>
      intro x1 x2 n f H locs ls hw hP hS hl
      rw [wp_F_firstAlike_L2] at hw
      refine lv_iload_n hx hb dF_firstAlike_2 rfl (lv_at hl 2 rfl) ?_
      refine lv_iload_n hx hb dF_firstAlike_3 rfl (lv_at hl 1 rfl) ?_
      refine lv_icmp_ge (tgt := 34) hx hb dF_firstAlike_4 (by decide) (fun c1 => ?_) (fun c1 => ?_)
      · have hw := hw.1 c1
        refine lv_iload_n hx hb dF_firstAlike_34 rfl (lv_at hl 1 rfl) ?_
        exact W.iret (v := x1) hx hb hr (fun t ht hW => ⟨⟨x1, (n, f), rfl, hw, ct_mkB ht hP⟩, hS.F ht⟩) hS.2.2 dF_firstAlike_35
      · have hw := hw.2 c1
        refine lv_aload_n hx hb dF_firstAlike_7 rfl (lv_at hl 0 rfl) ?_
        refine va_get (D := (dC, dI)) (ci := 2) (v := .ref (a 13)) (C := RF) (T := TF) (N := 11) hx hb hts (fun w h => List.mem_cons_of_mem _ (inF w h)) hown hK hP 2 rfl rfl 6 (by decide) (hts (.fieldLink RF 24 "CoverTrees$Forest" "like" "[I") (List.mem_cons_of_mem _ wt_101)) (fun _ h9 => h9) rfl dF_firstAlike_8 ?_
        refine lv_iload_n hx hb dF_firstAlike_11 rfl (lv_at hl 2 rfl) ?_
        obtain ⟨hi2, hw⟩ := hw
        refine va_iald hx hb hK hP 13 10 rfl rfl hi2 dF_firstAlike_12 ?_
        refine lv_iload_n hx hb dF_firstAlike_13 rfl (lv_at hl 2 rfl) ?_
        refine lv_icmp_ne (tgt := 28) hx hb dF_firstAlike_14 (by decide) (fun c3 => ?_) (fun c3 => ?_)
        · have hw := hw.1 c3
          obtain ⟨x2_4, ex2_4⟩ : ∃ y : Int32, y = x2 + 1 := ⟨_, rfl⟩
          have hw := hw x2_4 ex2_4
          refine lv_iinc (v := x2_4) (lv' := [(2, .int x2_4), (0, .ref (a 2)), (1, .int x1)]) hx hb dF_firstAlike_28 hl (k := 2) rfl (by rw [ex2_4]; rfl) (by decide) rfl (fun ls hl => ?_)
          refine lv_goto (tgt := 2) hx hb dF_firstAlike_31 (by decide) ?_
          exact ih x1 x2_4 n f _ _ ls hw hP hS (lv_sub hl [1, 2, 0] rfl)
        · have hw := hw.2 c3
          refine lv_aload_n hx hb dF_firstAlike_17 rfl (lv_at hl 0 rfl) ?_
          refine lv_iload_n hx hb dF_firstAlike_18 rfl (lv_at hl 2 rfl) ?_
          refine lv_iload_n hx hb dF_firstAlike_19 rfl (lv_at hl 1 rfl) ?_
          refine ct_i (va_runV (As := [.int x2, .int x1]) (rest := []) ⟨hx, hb, hml, hown, hts⟩ (met_F_alike l dC dI a cA sa x2 x1 n f _ hw) (cwV 2 hts (wb_V wt_366 wt_368 wt_11 wt_29 wt_369) rfl rfl rfl (by decide +kernel) ⟨Nat.le_of_ble_eq_true rfl, Nat.le_of_ble_eq_true rfl⟩) (ct_preV hK hP (hDa _ _) hZ hS hA (va_recv hK hP (ci := 2) (q0 := 2) rfl rfl)) rfl rfl hl.1 rfl (lv_room (Nat.le_of_ble_eq_true rfl)) dF_firstAlike_20 ⟨Nat.le_of_ble_eq_true rfl, Nat.le_of_ble_eq_true rfl⟩) (hDa _ _) hS hA (fun r5 n_6 f_7 H locs hw hP hS => ?_)
          refine lv_if_eq (tgt := 28) hx hb dF_firstAlike_23 (by decide) (fun c8 => ?_) (fun c8 => ?_)
          · have hw := hw.1 c8
            obtain ⟨x2_9, ex2_9⟩ : ∃ y : Int32, y = x2 + 1 := ⟨_, rfl⟩
            have hw := hw x2_9 ex2_9
            refine lv_iinc (v := x2_9) (lv' := [(2, .int x2_9), (0, .ref (a 2)), (1, .int x1)]) hx hb dF_firstAlike_28 hl (k := 2) rfl (by rw [ex2_9]; rfl) (by decide) rfl (fun ls hl => ?_)
            refine lv_goto (tgt := 2) hx hb dF_firstAlike_31 (by decide) ?_
            exact ih x1 x2_9 n_6 f_7 _ _ ls hw hP hS (lv_sub hl [1, 2, 0] rfl)
          · have hw := hw.2 c8
            refine lv_iload_n hx hb dF_firstAlike_26 rfl (lv_at hl 2 rfl) ?_
            exact W.iret (v := x2) hx hb hr (fun t ht hW => ⟨⟨x2, (n_6, f_7), rfl, hw, ct_mkB ht hP⟩, hS.F ht⟩) hS.2.2 dF_firstAlike_27
  refine lv_iconst (v := 0) hx hb dF_firstAlike_0 (by decide) ?_
  refine lv_istore_n (lv' := [(2, .int 0), (0, .ref (a 2)), (1, .int p1)]) hx hb dF_firstAlike_1 rfl hl (by decide) rfl (fun ls hl => ?_)
  obtain ⟨j, hw⟩ := hw
  exact loop_2 j p1 0 n f _ _ ls hw hP hS (lv_sub hl [1, 2, 0] rfl)
def wp_F_keepDraft (post : Int32 → ctN → ctF → Prop) (n : ctN) (f : ctF) : Prop := ∀ x1_1 : Int32, x1_1 = (n 2) → (wp_F_firstAlike (fun (r2 : Int32) (n_3 : ctN) (f_4 : ctF) => vp_in x1_1 120 ∧ (∀ f_6 : ctF, f_6 = va_up f_4 13 (upd (f_4 13) x1_1.toNatClampNeg r2) → (∀ n_7 : ctN, n_7 = va_up n_3 2 (x1_1 + 1) → (post x1_1 n_7 f_6)))) x1_1 n f)
set_option maxHeartbeats 4000000 in
set_option maxRecDepth 100000 in
theorem met_F_keepDraft (l : Launch) (dC : Nat → ClassId) (dI : Nat → Nat → Nat) (a : Nat → Nat) (cA : Nat → ClassId) (sa : Nat → Nat) (n : ctN) (f : ctF) (sz : Nat) {post : Int32 → ctN → ctF → Prop} (hw : wp_F_keepDraft post n f) : Met l yF_keepDraft wsF_keepDraft ({ frames := 3, cells := 0, slots := 0, locals := 68 } : Room) (ct_Pc dC dI a cA sa [.ref (a 2)] n f sz) (va_Qi (fun (r : Int32) (u : ctN × ctF) => post r u.1 u.2) (ct_B dC dI a cA) (va_A (ctW a cA n f) sz)) 0 0 (va_A (ctW a cA n f) sz) := by
  refine Met.ofW (cc := cF_keepDraft) (maxL := 2) (ret := (some .int)) (by decide) rfl ?_
  intro p e s m args below meth c s₁ B hml hv
  obtain ⟨rfl, hsz, hP, hK, hD0, hZ⟩ := hv
  have hx := B.exec
  have hb := B.bytes
  have hr := B.returns
  have hts := atoms_spec (ws := wsF_keepDraft) B.pre
  have hown : s.vm.findClass RF = some m.cls := findClass_of_methodNamed B.named
  have hlocks := B.notSynchronized
  subst hsz
  have hD := hD0.self (sz := s.heap.size)
  generalize hAe : va_A (ctW a cA n f) s.heap.size = A at hD hZ ⊢
  have hDa : ∀ (n : ctN) (f : ctF), va_D A (ctW a cA n f) := fun _ _ => ct_D hD
  have hA : ∀ q : Nat, s.heap.size ≤ q → A q := fun q h => by rw [← hAe]; exact Or.inr h
  have hS : va_S A s.heap s.heap [] := va_S.rf
  have hl := lv_entry ([.ref (a 2)]) (n := 2) (Nat.le_of_ble_eq_true rfl)
  rw [lg_entry_eq]
  generalize (lg_sl ([.ref (a 2)]) ++ List.replicate (2 - (lg_sl ([.ref (a 2)])).length) Slot.unset).toArray = ls at hl ⊢
  have hl : lv_has ls 2 [(0, .ref (a 2))] := hl
  unfold wp_F_keepDraft at hw
  refine lv_aload_n hx hb dF_keepDraft_0 rfl (lv_at hl 0 rfl) ?_
  refine va_get (D := (dC, dI)) (ci := 2) (v := .int (n 2)) (C := RF) (T := TF) (N := 11) hx hb hts (fun w h => List.mem_cons_of_mem _ (inF w h)) hown hK hP 2 rfl rfl 1 (by decide) (hts (.fieldLink RF 44 "CoverTrees$Forest" "count" "I") (List.mem_cons_of_mem _ wt_96)) (fun _ h9 => h9) rfl dF_keepDraft_1 ?_
  refine lv_topi (fun x1_1 ex1_1 => ?_)
  have hw := hw x1_1 ex1_1
  refine lv_istore_n (lv' := [(1, .int x1_1), (0, .ref (a 2))]) hx hb dF_keepDraft_4 rfl hl (by decide) rfl (fun ls hl => ?_)
  refine lv_aload_n hx hb dF_keepDraft_5 rfl (lv_at hl 1 rfl) ?_
  refine va_get (D := (dC, dI)) (ci := 2) (v := .ref (a 13)) (C := RF) (T := TF) (N := 11) hx hb hts (fun w h => List.mem_cons_of_mem _ (inF w h)) hown hK hP 2 rfl rfl 6 (by decide) (hts (.fieldLink RF 24 "CoverTrees$Forest" "like" "[I") (List.mem_cons_of_mem _ wt_101)) (fun _ h9 => h9) rfl dF_keepDraft_6 ?_
  refine lv_iload_n hx hb dF_keepDraft_9 rfl (lv_at hl 0 rfl) ?_
  refine lv_aload_n hx hb dF_keepDraft_10 rfl (lv_at hl 1 rfl) ?_
  refine lv_iload_n hx hb dF_keepDraft_11 rfl (lv_at hl 0 rfl) ?_
  refine ct_i (va_runV (As := [.int x1_1]) (rest := [.int x1_1, .ref (a 13)]) ⟨hx, hb, hml, hown, hts⟩ (met_F_firstAlike l dC dI a cA sa x1_1 n f _ hw) (cwV 1 hts (wb_V wt_362 wt_364 wt_10 wt_29 wt_365) rfl rfl rfl (by decide +kernel) ⟨Nat.le_of_ble_eq_true rfl, Nat.le_of_ble_eq_true rfl⟩) (ct_preV hK hP (hDa _ _) hZ hS hA (va_recv hK hP (ci := 2) (q0 := 2) rfl rfl)) rfl rfl hl.1 rfl (lv_room (Nat.le_of_ble_eq_true rfl)) dF_keepDraft_12 ⟨Nat.le_of_ble_eq_true rfl, Nat.le_of_ble_eq_true rfl⟩) (hDa _ _) hS hA (fun r2 n_3 f_4 H locs hw hP hS => ?_)
  obtain ⟨hi5, hw⟩ := hw
  refine va_iast hx hb hK hP (hDa _ _) hS 13 10 rfl rfl hi5 dF_keepDraft_15 (fun H locs hP _ hS => ?_)
  obtain ⟨f_6, ef_6⟩ : ∃ z : ctF, z = va_up f_4 13 (upd (f_4 13) x1_1.toNatClampNeg r2) := ⟨_, rfl⟩
  have hw := hw f_6 ef_6
  have hP : va_P (dC, dI) vcl (ctW a cA n_3 f_6) H := by rw [ef_6]; exact hP
  refine lv_aload_n hx hb dF_keepDraft_16 rfl (lv_at hl 1 rfl) ?_
  refine lv_iload_n hx hb dF_keepDraft_17 rfl (lv_at hl 0 rfl) ?_
  refine lv_iconst (v := 1) hx hb dF_keepDraft_18 (by decide) ?_
  refine lv_iadd hx hb dF_keepDraft_19 ?_
  refine va_put (D := (dC, dI)) (ci := 2) (v := .int (x1_1 + 1)) (ty := .int) (C := RF) (T := TF) (N := 11) hx hb hts (fun w h => List.mem_cons_of_mem _ (inF w h)) tyF tyF_ok nmF hown hK hP (hDa _ _) hS 2 rfl rfl 1 (by decide) (hts (.fieldLink RF 44 "CoverTrees$Forest" "count" "I") (List.mem_cons_of_mem _ wt_96)) (fun _ h9 => h9) rfl (by decide +kernel) rfl rfl (Nat.le_of_ble_eq_true rfl) dF_keepDraft_20 (fun H locs hP _ hS => ?_)
  obtain ⟨n_7, en_7⟩ : ∃ z : ctN, z = va_up n_3 2 (x1_1 + 1) := ⟨_, rfl⟩
  have hw := hw n_7 en_7
  have hP : va_P (dC, dI) vcl (ctW a cA n_7 f_6) H := by rw [en_7]; exact hP
  refine lv_iload_n hx hb dF_keepDraft_23 rfl (lv_at hl 0 rfl) ?_
  exact W.iret (v := x1_1) hx hb hr (fun t ht hW => ⟨⟨x1_1, (n_7, f_6), rfl, hw, ct_mkB ht hP⟩, hS.F ht⟩) hS.2.2 dF_keepDraft_24
def wp_F_findInCover_L8 (post : Int32 → ctN → ctF → Prop) : Nat → Int32 → Int32 → Int32 → ctN → ctF → Prop
  | 0, _, _, _, _, _ => False
  | k + 1, x3, x4, x5, n, f => (960 ≤ x5 → (post x3 n f)) ∧ (¬ 960 ≤ x5 → (vp_in x3 960 ∧ ((((f 16 x3.toNatClampNeg) - 1) ≤ x4 → (post x3 n f)) ∧ (¬ ((f 16 x3.toNatClampNeg) - 1) ≤ x4 → (vp_in x3 960 ∧ (∀ x6_5 : Int32, x6_5 = (f 15 x3.toNatClampNeg) → (∀ x7_6 : Int32, x7_6 = (x3 / 8) → (vp_in x6_5 40 ∧ ((¬ (f 5 x6_5.toNatClampNeg) = (-1) → (vp_in x7_6 120 ∧ (vp_in x6_5 40 ∧ (wp_C_place (fun (r11 : Int32) (n_12 : ctN) (f_13 : ctF) => vp_in r11 960 ∧ (((f_13 16 r11.toNatClampNeg) ≤ x4 → (vp_in r11 960 ∧ (∀ x4_17 : Int32, x4_17 = (x4 - (f_13 16 r11.toNatClampNeg)) → (vp_in x7_6 120 ∧ (vp_in x6_5 40 ∧ (wp_C_place (fun (r20 : Int32) (n_21 : ctN) (f_22 : ctF) => ∀ x5_23 : Int32, x5_23 = x5 + 1 → (wp_F_findInCover_L8 post k r20 x4_17 x5_23 n_21 f_22)) (f_13 11 x7_6.toNatClampNeg) (f_13 7 x6_5.toNatClampNeg) n_12 f_13)))))) ∧ (¬ (f_13 16 r11.toNatClampNeg) ≤ x4 → (∀ x5_24 : Int32, x5_24 = x5 + 1 → (wp_F_findInCover_L8 post k r11 x4 x5_24 n_12 f_13))))) (f 10 x7_6.toNatClampNeg) (f 6 x6_5.toNatClampNeg) n f)))) ∧ ((f 5 x6_5.toNatClampNeg) = (-1) → (vp_in x6_5 40 ∧ (wp_C_place (fun (r26 : Int32) (n_27 : ctN) (f_28 : ctF) => ∀ x5_29 : Int32, x5_29 = x5 + 1 → (wp_F_findInCover_L8 post k r26 x4 x5_29 n_27 f_28)) x7_6 (f 6 x6_5.toNatClampNeg) n f))))))))))))
def wp_F_findInCover (post : Int32 → ctN → ctF → Prop) (p1 : Int32) (p2 : Int32) (n : ctN) (f : ctF) : Prop := ∃ j, wp_F_findInCover_L8 post j p1 p2 0 n f
set_option maxHeartbeats 4000000 in
set_option maxRecDepth 100000 in
theorem met_F_findInCover (l : Launch) (dC : Nat → ClassId) (dI : Nat → Nat → Nat) (a : Nat → Nat) (cA : Nat → ClassId) (sa : Nat → Nat) (p1 : Int32) (p2 : Int32) (n : ctN) (f : ctF) (sz : Nat) {post : Int32 → ctN → ctF → Prop} (hw : wp_F_findInCover post p1 p2 n f) : Met l yF_findInCover wsF_findInCover ({ frames := 1, cells := 0, slots := 0, locals := 21 } : Room) (ct_Pc dC dI a cA sa [.ref (a 2), .int p1, .int p2] n f sz) (va_Qi (fun (r : Int32) (u : ctN × ctF) => post r u.1 u.2) (ct_B dC dI a cA) (va_A (ctW a cA n f) sz)) 0 0 (va_A (ctW a cA n f) sz) := by
  refine Met.ofW (cc := cF_findInCover) (maxL := 9) (ret := (some .int)) (by decide) rfl ?_
  intro p e s m args below meth c s₁ B hml hv
  obtain ⟨rfl, hsz, hP, hK, hD0, hZ⟩ := hv
  have hx := B.exec
  have hb := B.bytes
  have hr := B.returns
  have hts := atoms_spec (ws := wsF_findInCover) B.pre
  have hown : s.vm.findClass RF = some m.cls := findClass_of_methodNamed B.named
  have hlocks := B.notSynchronized
  subst hsz
  have hD := hD0.self (sz := s.heap.size)
  generalize hAe : va_A (ctW a cA n f) s.heap.size = A at hD hZ ⊢
  have hDa : ∀ (n : ctN) (f : ctF), va_D A (ctW a cA n f) := fun _ _ => ct_D hD
  have hA : ∀ q : Nat, s.heap.size ≤ q → A q := fun q h => by rw [← hAe]; exact Or.inr h
  have hS : va_S A s.heap s.heap [] := va_S.rf
  have hl := lv_entry ([.ref (a 2), .int p1, .int p2]) (n := 9) (Nat.le_of_ble_eq_true rfl)
  rw [lg_entry_eq]
  generalize (lg_sl ([.ref (a 2), .int p1, .int p2]) ++ List.replicate (9 - (lg_sl ([.ref (a 2), .int p1, .int p2])).length) Slot.unset).toArray = ls at hl ⊢
  have hl : lv_has ls 9 [(0, .ref (a 2)), (1, .int p1), (2, .int p2)] := hl
  unfold wp_F_findInCover at hw
  have loop_8 : ∀ (k : Nat) (x3 x4 x5 : Int32) (n : ctN) (f : ctF) (H : Heap) (locs : List Loc) (ls : Array Slot), wp_F_findInCover_L8 post k x3 x4 x5 n f → va_P (dC, dI) vcl (ctW a cA n f) H → va_S A s.heap H locs → lv_has ls 9 [(0, .ref (a 2)), (3, .int x3), (4, .int x4), (5, .int x5)] → W p l e (headSpec wsF_findInCover ({ frames := 1, cells := 0, slots := 0, locals := 21 } : Room)).room s m (([.ref (a 2), .int p1, .int p2] : List Value).toArray) below meth c H locs 0 0 (MQ below (va_Qi (fun (r : Int32) (u : ctN × ctF) => post r u.1 u.2) (ct_B dC dI a cA) A) (([.ref (a 2), .int p1, .int p2] : List Value).toArray) s 0 0 A) (F0 m 8 ls []) := by
    intro k
    induction k with
    | zero => intro x3 x4 x5 n f H locs ls hw; exact hw.elim
    | succ k ih =>
      intro x3 x4 x5 n f H locs ls hw hP hS hl
      rw [wp_F_findInCover_L8] at hw
      refine lv_iload hx hb dF_findInCover_8 (lv_at hl 3 rfl) ?_
      refine lv_sipush (v := 960) hx hb dF_findInCover_10 (by decide) ?_
      refine lv_icmp_ge (tgt := 155) hx hb dF_findInCover_13 (by decide) (fun c1 => ?_) (fun c1 => ?_)
      · have hw := hw.1 c1
        refine lv_iload_n hx hb dF_findInCover_155 rfl (lv_at hl 1 rfl) ?_
        exact W.iret (v := x3) hx hb hr (fun t ht hW => ⟨⟨x3, (n, f), rfl, hw, ct_mkB ht hP⟩, hS.F ht⟩) hS.2.2 dF_findInCover_156
      · have hw := hw.2 c1
        refine lv_iload hx hb dF_findInCover_16 (lv_at hl 2 rfl) ?_
        refine lv_aload_n hx hb dF_findInCover_18 rfl (lv_at hl 0 rfl) ?_
        refine va_get (D := (dC, dI)) (ci := 2) (v := .ref (a 16)) (C := RF) (T := TF) (N := 11) hx hb hts (fun w h => List.mem_cons_of_mem _ (inF w h)) hown hK hP 2 rfl rfl 9 (by decide) (hts (.fieldLink RF 33 "CoverTrees$Forest" "size" "[I") (List.mem_cons_of_mem _ wt_107)) (fun _ h9 => h9) rfl dF_findInCover_19 ?_
        refine lv_iload_n hx hb dF_findInCover_22 rfl (lv_at hl 1 rfl) ?_
        obtain ⟨hi2, hw⟩ := hw
        refine va_iald hx hb hK hP 16 13 rfl rfl hi2 dF_findInCover_23 ?_
        refine lv_iconst (v := 1) hx hb dF_findInCover_24 (by decide) ?_
        refine lv_isub hx hb dF_findInCover_25 ?_
        refine lv_icmp_ge (tgt := 155) hx hb dF_findInCover_26 (by decide) (fun c3 => ?_) (fun c3 => ?_)
        · have hw := hw.1 c3
          refine lv_iload_n hx hb dF_findInCover_155 rfl (lv_at hl 1 rfl) ?_
          exact W.iret (v := x3) hx hb hr (fun t ht hW => ⟨⟨x3, (n, f), rfl, hw, ct_mkB ht hP⟩, hS.F ht⟩) hS.2.2 dF_findInCover_156
        · have hw := hw.2 c3
          refine lv_aload_n hx hb dF_findInCover_29 rfl (lv_at hl 0 rfl) ?_
          refine va_get (D := (dC, dI)) (ci := 2) (v := .ref (a 15)) (C := RF) (T := TF) (N := 11) hx hb hts (fun w h => List.mem_cons_of_mem _ (inF w h)) hown hK hP 2 rfl rfl 8 (by decide) (hts (.fieldLink RF 30 "CoverTrees$Forest" "rule" "[I") (List.mem_cons_of_mem _ wt_105)) (fun _ h9 => h9) rfl dF_findInCover_30 ?_
          refine lv_iload_n hx hb dF_findInCover_33 rfl (lv_at hl 1 rfl) ?_
          obtain ⟨hi4, hw⟩ := hw
          refine va_iald hx hb hK hP 15 12 rfl rfl hi4 dF_findInCover_34 ?_
          refine lv_topi (fun x6_5 ex6_5 => ?_)
          have hw := hw x6_5 ex6_5
          refine lv_istore (lv' := [(6, .int x6_5), (0, .ref (a 2)), (3, .int x3), (4, .int x4), (5, .int x5)]) hx hb dF_findInCover_35 hl (by decide) rfl (fun ls hl => ?_)
          refine lv_iload_n hx hb dF_findInCover_37 rfl (lv_at hl 2 rfl) ?_
          refine lv_bipush (v := 8) hx hb dF_findInCover_38 (by decide) ?_
          refine lv_idiv hx hb dF_findInCover_40 (by decide) ?_
          refine lv_topi (fun x7_6 ex7_6 => ?_)
          have hw := hw x7_6 ex7_6
          refine lv_istore (lv' := [(7, .int x7_6), (6, .int x6_5), (0, .ref (a 2)), (3, .int x3), (4, .int x4), (5, .int x5)]) hx hb dF_findInCover_41 hl (by decide) rfl (fun ls hl => ?_)
          refine lv_aload_n hx hb dF_findInCover_43 rfl (lv_at hl 2 rfl) ?_
          refine va_get (D := (dC, dI)) (ci := 2) (v := .ref (a 1)) (C := RF) (T := TF) (N := 11) hx hb hts (fun w h => List.mem_cons_of_mem _ (inF w h)) hown hK hP 2 rfl rfl 0 (by decide) (hts (.fieldLink RF 40 "CoverTrees$Forest" "grammar" "LCoverTrees$Grammar;") (List.mem_cons_of_mem _ wt_94)) (fun _ h9 => h9) rfl dF_findInCover_44 ?_
          refine va_get (D := (dC, dI)) (ci := 1) (v := .ref (a 5)) (C := RG) (T := TG) (N := 8) hx hb hts (fun w h => List.mem_cons_of_mem _ (inG w h)) hown hK hP 1 rfl rfl 4 (by decide) (hts (.fieldLink RF 71 "CoverTrees$Grammar" "operator" "[I") (List.mem_cons_of_mem _ wt_63)) (fun _ h9 => h9) rfl dF_findInCover_47 ?_
          refine lv_iload hx hb dF_findInCover_50 (lv_at hl 1 rfl) ?_
          obtain ⟨hi7, hw⟩ := hw
          refine va_iald hx hb hK hP 5 2 rfl rfl hi7 dF_findInCover_52 ?_
          refine lv_iconst (v := (-1)) hx hb dF_findInCover_53 (by decide) ?_
          refine lv_icmp_ne (tgt := 76) hx hb dF_findInCover_54 (by decide) (fun c8 => ?_) (fun c8 => ?_)
          · have hw := hw.1 c8
            refine lv_aload_n hx hb dF_findInCover_76 rfl (lv_at hl 2 rfl) ?_
            refine va_get (D := (dC, dI)) (ci := 2) (v := .ref (a 10)) (C := RF) (T := TF) (N := 11) hx hb hts (fun w h => List.mem_cons_of_mem _ (inF w h)) hown hK hP 2 rfl rfl 3 (by decide) (hts (.fieldLink RF 15 "CoverTrees$Forest" "one" "[I") (List.mem_cons_of_mem _ wt_98)) (fun _ h9 => h9) rfl dF_findInCover_77 ?_
            refine lv_iload hx hb dF_findInCover_80 (lv_at hl 0 rfl) ?_
            obtain ⟨hi9, hw⟩ := hw
            refine va_iald hx hb hK hP 10 7 rfl rfl hi9 dF_findInCover_82 ?_
            refine lv_aload_n hx hb dF_findInCover_83 rfl (lv_at hl 2 rfl) ?_
            refine va_get (D := (dC, dI)) (ci := 2) (v := .ref (a 1)) (C := RF) (T := TF) (N := 11) hx hb hts (fun w h => List.mem_cons_of_mem _ (inF w h)) hown hK hP 2 rfl rfl 0 (by decide) (hts (.fieldLink RF 40 "CoverTrees$Forest" "grammar" "LCoverTrees$Grammar;") (List.mem_cons_of_mem _ wt_94)) (fun _ h9 => h9) rfl dF_findInCover_84 ?_
            refine va_get (D := (dC, dI)) (ci := 1) (v := .ref (a 6)) (C := RG) (T := TG) (N := 8) hx hb hts (fun w h => List.mem_cons_of_mem _ (inG w h)) hown hK hP 1 rfl rfl 5 (by decide) (hts (.fieldLink RF 83 "CoverTrees$Grammar" "one" "[I") (List.mem_cons_of_mem _ wt_65)) (fun _ h9 => h9) rfl dF_findInCover_87 ?_
            refine lv_iload hx hb dF_findInCover_90 (lv_at hl 1 rfl) ?_
            obtain ⟨hi10, hw⟩ := hw
            refine va_iald hx hb hK hP 6 3 rfl rfl hi10 dF_findInCover_92 ?_
            refine ct_i (va_runSN (As := [.int (f 10 x7_6.toNatClampNeg), .int (f 6 x6_5.toNatClampNeg)]) (rest := []) ⟨hx, hb, hml, hown, hts⟩ (met_C_place l dC dI a cA sa (f 10 x7_6.toNatClampNeg) (f 6 x6_5.toNatClampNeg) n f _ hw) ⟨va_cnB 2 hts (wb_N wt_316) rfl rfl rfl hZ.1 (hts (.initialized "CoverTrees") (List.mem_cons_of_mem _ wt_27)) (by decide +kernel) ⟨Nat.le_of_ble_eq_true rfl, Nat.le_of_ble_eq_true rfl⟩, (hts (.static yC_place) (List.mem_cons_of_mem _ wt_315)), trivial⟩ (ct_pre hK hP (hDa _ _) hZ hS hA) rfl rfl hl.1 rfl (lv_room (Nat.le_of_ble_eq_true rfl)) dF_findInCover_93 ⟨Nat.le_of_ble_eq_true rfl, Nat.le_of_ble_eq_true rfl⟩) (hDa _ _) hS hA (fun r11 n_12 f_13 H locs hw hP hS => ?_)
            refine lv_istore (lv' := [(8, .int r11), (7, .int x7_6), (6, .int x6_5), (0, .ref (a 2)), (3, .int x3), (4, .int x4), (5, .int x5)]) hx hb dF_findInCover_96 hl (by decide) rfl (fun ls hl => ?_)
            refine lv_iload hx hb dF_findInCover_98 (lv_at hl 5 rfl) ?_
            refine lv_aload_n hx hb dF_findInCover_100 rfl (lv_at hl 3 rfl) ?_
            refine va_get (D := (dC, dI)) (ci := 2) (v := .ref (a 16)) (C := RF) (T := TF) (N := 11) hx hb hts (fun w h => List.mem_cons_of_mem _ (inF w h)) hown hK hP 2 rfl rfl 9 (by decide) (hts (.fieldLink RF 33 "CoverTrees$Forest" "size" "[I") (List.mem_cons_of_mem _ wt_107)) (fun _ h9 => h9) rfl dF_findInCover_101 ?_
            refine lv_iload hx hb dF_findInCover_104 (lv_at hl 0 rfl) ?_
            obtain ⟨hi14, hw⟩ := hw
            refine va_iald hx hb hK hP 16 13 rfl rfl hi14 dF_findInCover_106 ?_
            refine lv_icmp_ge (tgt := 116) hx hb dF_findInCover_107 (by decide) (fun c15 => ?_) (fun c15 => ?_)
            · have hw := hw.1 c15
              refine lv_iload hx hb dF_findInCover_116 (lv_at hl 5 rfl) ?_
              refine lv_aload_n hx hb dF_findInCover_118 rfl (lv_at hl 3 rfl) ?_
              refine va_get (D := (dC, dI)) (ci := 2) (v := .ref (a 16)) (C := RF) (T := TF) (N := 11) hx hb hts (fun w h => List.mem_cons_of_mem _ (inF w h)) hown hK hP 2 rfl rfl 9 (by decide) (hts (.fieldLink RF 33 "CoverTrees$Forest" "size" "[I") (List.mem_cons_of_mem _ wt_107)) (fun _ h9 => h9) rfl dF_findInCover_119 ?_
              refine lv_iload hx hb dF_findInCover_122 (lv_at hl 0 rfl) ?_
              obtain ⟨hi16, hw⟩ := hw
              refine va_iald hx hb hK hP 16 13 rfl rfl hi16 dF_findInCover_124 ?_
              refine lv_isub hx hb dF_findInCover_125 ?_
              refine lv_topi (fun x4_17 ex4_17 => ?_)
              have hw := hw x4_17 ex4_17
              refine lv_istore (lv' := [(4, .int x4_17), (8, .int r11), (7, .int x7_6), (6, .int x6_5), (0, .ref (a 2)), (3, .int x3), (5, .int x5)]) hx hb dF_findInCover_126 hl (by decide) rfl (fun ls hl => ?_)
              refine lv_aload_n hx hb dF_findInCover_128 rfl (lv_at hl 4 rfl) ?_
              refine va_get (D := (dC, dI)) (ci := 2) (v := .ref (a 11)) (C := RF) (T := TF) (N := 11) hx hb hts (fun w h => List.mem_cons_of_mem _ (inF w h)) hown hK hP 2 rfl rfl 4 (by decide) (hts (.fieldLink RF 18 "CoverTrees$Forest" "two" "[I") (List.mem_cons_of_mem _ wt_99)) (fun _ h9 => h9) rfl dF_findInCover_129 ?_
              refine lv_iload hx hb dF_findInCover_132 (lv_at hl 2 rfl) ?_
              obtain ⟨hi18, hw⟩ := hw
              refine va_iald hx hb hK hP 11 8 rfl rfl hi18 dF_findInCover_134 ?_
              refine lv_aload_n hx hb dF_findInCover_135 rfl (lv_at hl 4 rfl) ?_
              refine va_get (D := (dC, dI)) (ci := 2) (v := .ref (a 1)) (C := RF) (T := TF) (N := 11) hx hb hts (fun w h => List.mem_cons_of_mem _ (inF w h)) hown hK hP 2 rfl rfl 0 (by decide) (hts (.fieldLink RF 40 "CoverTrees$Forest" "grammar" "LCoverTrees$Grammar;") (List.mem_cons_of_mem _ wt_94)) (fun _ h9 => h9) rfl dF_findInCover_136 ?_
              refine va_get (D := (dC, dI)) (ci := 1) (v := .ref (a 7)) (C := RG) (T := TG) (N := 8) hx hb hts (fun w h => List.mem_cons_of_mem _ (inG w h)) hown hK hP 1 rfl rfl 6 (by decide) (hts (.fieldLink RF 84 "CoverTrees$Grammar" "two" "[I") (List.mem_cons_of_mem _ wt_67)) (fun _ h9 => h9) rfl dF_findInCover_139 ?_
              refine lv_iload hx hb dF_findInCover_142 (lv_at hl 3 rfl) ?_
              obtain ⟨hi19, hw⟩ := hw
              refine va_iald hx hb hK hP 7 4 rfl rfl hi19 dF_findInCover_144 ?_
              refine ct_i (va_runSN (As := [.int (f_13 11 x7_6.toNatClampNeg), .int (f_13 7 x6_5.toNatClampNeg)]) (rest := []) ⟨hx, hb, hml, hown, hts⟩ (met_C_place l dC dI a cA sa (f_13 11 x7_6.toNatClampNeg) (f_13 7 x6_5.toNatClampNeg) n_12 f_13 _ hw) ⟨va_cnB 2 hts (wb_N wt_316) rfl rfl rfl hZ.1 (hts (.initialized "CoverTrees") (List.mem_cons_of_mem _ wt_27)) (by decide +kernel) ⟨Nat.le_of_ble_eq_true rfl, Nat.le_of_ble_eq_true rfl⟩, (hts (.static yC_place) (List.mem_cons_of_mem _ wt_315)), trivial⟩ (ct_pre hK hP (hDa _ _) hZ hS hA) rfl rfl hl.1 rfl (lv_room (Nat.le_of_ble_eq_true rfl)) dF_findInCover_145 ⟨Nat.le_of_ble_eq_true rfl, Nat.le_of_ble_eq_true rfl⟩) (hDa _ _) hS hA (fun r20 n_21 f_22 H locs hw hP hS => ?_)
              refine lv_istore_n (lv' := [(3, .int r20), (4, .int x4_17), (8, .int r11), (7, .int x7_6), (6, .int x6_5), (0, .ref (a 2)), (5, .int x5)]) hx hb dF_findInCover_148 rfl hl (by decide) rfl (fun ls hl => ?_)
              obtain ⟨x5_23, ex5_23⟩ : ∃ y : Int32, y = x5 + 1 := ⟨_, rfl⟩
              have hw := hw x5_23 ex5_23
              refine lv_iinc (v := x5_23) (lv' := [(5, .int x5_23), (3, .int r20), (4, .int x4_17), (8, .int r11), (7, .int x7_6), (6, .int x6_5), (0, .ref (a 2))]) hx hb dF_findInCover_149 hl (k := 6) rfl (by rw [ex5_23]; rfl) (by decide) rfl (fun ls hl => ?_)
              refine lv_goto (tgt := 8) hx hb dF_findInCover_152 (by decide) ?_
              exact ih r20 x4_17 x5_23 n_21 f_22 _ _ ls hw hP hS (lv_sub hl [6, 1, 2, 0] rfl)
            · have hw := hw.2 c15
              refine lv_iload hx hb dF_findInCover_110 (lv_at hl 0 rfl) ?_
              refine lv_istore_n (lv' := [(3, .int r11), (8, .int r11), (7, .int x7_6), (6, .int x6_5), (0, .ref (a 2)), (4, .int x4), (5, .int x5)]) hx hb dF_findInCover_112 rfl hl (by decide) rfl (fun ls hl => ?_)
              refine lv_goto (tgt := 149) hx hb dF_findInCover_113 (by decide) ?_
              obtain ⟨x5_24, ex5_24⟩ : ∃ y : Int32, y = x5 + 1 := ⟨_, rfl⟩
              have hw := hw x5_24 ex5_24
              refine lv_iinc (v := x5_24) (lv' := [(5, .int x5_24), (3, .int r11), (8, .int r11), (7, .int x7_6), (6, .int x6_5), (0, .ref (a 2)), (4, .int x4)]) hx hb dF_findInCover_149 hl (k := 6) rfl (by rw [ex5_24]; rfl) (by decide) rfl (fun ls hl => ?_)
              refine lv_goto (tgt := 8) hx hb dF_findInCover_152 (by decide) ?_
              exact ih r11 x4 x5_24 n_12 f_13 _ _ ls hw hP hS (lv_sub hl [5, 1, 6, 0] rfl)
          · have hw := hw.2 c8
            refine lv_iload hx hb dF_findInCover_57 (lv_at hl 0 rfl) ?_
            refine lv_aload_n hx hb dF_findInCover_59 rfl (lv_at hl 2 rfl) ?_
            refine va_get (D := (dC, dI)) (ci := 2) (v := .ref (a 1)) (C := RF) (T := TF) (N := 11) hx hb hts (fun w h => List.mem_cons_of_mem _ (inF w h)) hown hK hP 2 rfl rfl 0 (by decide) (hts (.fieldLink RF 40 "CoverTrees$Forest" "grammar" "LCoverTrees$Grammar;") (List.mem_cons_of_mem _ wt_94)) (fun _ h9 => h9) rfl dF_findInCover_60 ?_
            refine va_get (D := (dC, dI)) (ci := 1) (v := .ref (a 6)) (C := RG) (T := TG) (N := 8) hx hb hts (fun w h => List.mem_cons_of_mem _ (inG w h)) hown hK hP 1 rfl rfl 5 (by decide) (hts (.fieldLink RF 83 "CoverTrees$Grammar" "one" "[I") (List.mem_cons_of_mem _ wt_65)) (fun _ h9 => h9) rfl dF_findInCover_63 ?_
            refine lv_iload hx hb dF_findInCover_66 (lv_at hl 1 rfl) ?_
            obtain ⟨hi25, hw⟩ := hw
            refine va_iald hx hb hK hP 6 3 rfl rfl hi25 dF_findInCover_68 ?_
            refine ct_i (va_runSN (As := [.int x7_6, .int (f 6 x6_5.toNatClampNeg)]) (rest := []) ⟨hx, hb, hml, hown, hts⟩ (met_C_place l dC dI a cA sa x7_6 (f 6 x6_5.toNatClampNeg) n f _ hw) ⟨va_cnB 2 hts (wb_N wt_316) rfl rfl rfl hZ.1 (hts (.initialized "CoverTrees") (List.mem_cons_of_mem _ wt_27)) (by decide +kernel) ⟨Nat.le_of_ble_eq_true rfl, Nat.le_of_ble_eq_true rfl⟩, (hts (.static yC_place) (List.mem_cons_of_mem _ wt_315)), trivial⟩ (ct_pre hK hP (hDa _ _) hZ hS hA) rfl rfl hl.1 rfl (lv_room (Nat.le_of_ble_eq_true rfl)) dF_findInCover_69 ⟨Nat.le_of_ble_eq_true rfl, Nat.le_of_ble_eq_true rfl⟩) (hDa _ _) hS hA (fun r26 n_27 f_28 H locs hw hP hS => ?_)
            refine lv_istore_n (lv' := [(3, .int r26), (7, .int x7_6), (6, .int x6_5), (0, .ref (a 2)), (4, .int x4), (5, .int x5)]) hx hb dF_findInCover_72 rfl hl (by decide) rfl (fun ls hl => ?_)
            refine lv_goto (tgt := 149) hx hb dF_findInCover_73 (by decide) ?_
            obtain ⟨x5_29, ex5_29⟩ : ∃ y : Int32, y = x5 + 1 := ⟨_, rfl⟩
            have hw := hw x5_29 ex5_29
            refine lv_iinc (v := x5_29) (lv' := [(5, .int x5_29), (3, .int r26), (7, .int x7_6), (6, .int x6_5), (0, .ref (a 2)), (4, .int x4)]) hx hb dF_findInCover_149 hl (k := 5) rfl (by rw [ex5_29]; rfl) (by decide) rfl (fun ls hl => ?_)
            refine lv_goto (tgt := 8) hx hb dF_findInCover_152 (by decide) ?_
            exact ih r26 x4 x5_29 n_27 f_28 _ _ ls hw hP hS (lv_sub hl [4, 1, 5, 0] rfl)
  refine lv_iload_n hx hb dF_findInCover_0 rfl (lv_at hl 1 rfl) ?_
  refine lv_istore_n (lv' := [(3, .int p1), (0, .ref (a 2)), (1, .int p1), (2, .int p2)]) hx hb dF_findInCover_1 rfl hl (by decide) rfl (fun ls hl => ?_)
  refine lv_iload_n hx hb dF_findInCover_2 rfl (lv_at hl 3 rfl) ?_
  refine lv_istore (lv' := [(4, .int p2), (3, .int p1), (0, .ref (a 2)), (1, .int p1), (2, .int p2)]) hx hb dF_findInCover_3 hl (by decide) rfl (fun ls hl => ?_)
  refine lv_iconst (v := 0) hx hb dF_findInCover_5 (by decide) ?_
  refine lv_istore (lv' := [(5, .int 0), (4, .int p2), (3, .int p1), (0, .ref (a 2)), (1, .int p1), (2, .int p2)]) hx hb dF_findInCover_6 hl (by decide) rfl (fun ls hl => ?_)
  obtain ⟨j, hw⟩ := hw
  exact loop_8 j p1 p2 0 n f _ _ ls hw hP hS (lv_sub hl [3, 2, 1, 0] rfl)
def wp_F_countStates_L4 (post : Int32 → ctN → ctF → Prop) : Nat → Int32 → Int32 → ctN → ctF → Prop
  | 0, _, _, _, _ => False
  | k + 1, x1, x2, n, f => ((n 2) ≤ x2 → (post x1 n f)) ∧ (¬ (n 2) ≤ x2 → (vp_in x2 120 ∧ ((¬ (f 13 x2.toNatClampNeg) = x2 → (∀ x2_4 : Int32, x2_4 = x2 + 1 → (wp_F_countStates_L4 post k x1 x2_4 n f))) ∧ ((f 13 x2.toNatClampNeg) = x2 → (∀ x1_5 : Int32, x1_5 = x1 + 1 → (∀ x2_6 : Int32, x2_6 = x2 + 1 → (wp_F_countStates_L4 post k x1_5 x2_6 n f)))))))
def wp_F_countStates (post : Int32 → ctN → ctF → Prop) (n : ctN) (f : ctF) : Prop := ∃ j, wp_F_countStates_L4 post j 0 0 n f
set_option maxHeartbeats 4000000 in
set_option maxRecDepth 100000 in
theorem met_F_countStates (l : Launch) (dC : Nat → ClassId) (dI : Nat → Nat → Nat) (a : Nat → Nat) (cA : Nat → ClassId) (sa : Nat → Nat) (n : ctN) (f : ctF) (sz : Nat) {post : Int32 → ctN → ctF → Prop} (hw : wp_F_countStates post n f) : Met l yF_countStates wsF_countStates ({ frames := 0, cells := 0, slots := 0, locals := 0 } : Room) (ct_Pc dC dI a cA sa [.ref (a 2)] n f sz) (va_Qi (fun (r : Int32) (u : ctN × ctF) => post r u.1 u.2) (ct_B dC dI a cA) (va_A (ctW a cA n f) sz)) 0 0 (va_A (ctW a cA n f) sz) := by
  refine Met.ofW (cc := cF_countStates) (maxL := 3) (ret := (some .int)) (by decide) rfl ?_
  intro p e s m args below meth c s₁ B hml hv
  obtain ⟨rfl, hsz, hP, hK, hD0, hZ⟩ := hv
  have hx := B.exec
  have hb := B.bytes
  have hr := B.returns
  have hts := atoms_spec (ws := wsF_countStates) B.pre
  have hown : s.vm.findClass RF = some m.cls := findClass_of_methodNamed B.named
  have hlocks := B.notSynchronized
  subst hsz
  have hD := hD0.self (sz := s.heap.size)
  generalize hAe : va_A (ctW a cA n f) s.heap.size = A at hD hZ ⊢
  have hDa : ∀ (n : ctN) (f : ctF), va_D A (ctW a cA n f) := fun _ _ => ct_D hD
  have hA : ∀ q : Nat, s.heap.size ≤ q → A q := fun q h => by rw [← hAe]; exact Or.inr h
  have hS : va_S A s.heap s.heap [] := va_S.rf
  have hl := lv_entry ([.ref (a 2)]) (n := 3) (Nat.le_of_ble_eq_true rfl)
  rw [lg_entry_eq]
  generalize (lg_sl ([.ref (a 2)]) ++ List.replicate (3 - (lg_sl ([.ref (a 2)])).length) Slot.unset).toArray = ls at hl ⊢
  have hl : lv_has ls 3 [(0, .ref (a 2))] := hl
  unfold wp_F_countStates at hw
  have loop_4 : ∀ (k : Nat) (x1 x2 : Int32) (n : ctN) (f : ctF) (H : Heap) (locs : List Loc) (ls : Array Slot), wp_F_countStates_L4 post k x1 x2 n f → va_P (dC, dI) vcl (ctW a cA n f) H → va_S A s.heap H locs → lv_has ls 3 [(0, .ref (a 2)), (1, .int x1), (2, .int x2)] → W p l e (headSpec wsF_countStates ({ frames := 0, cells := 0, slots := 0, locals := 0 } : Room)).room s m (([.ref (a 2)] : List Value).toArray) below meth c H locs 0 0 (MQ below (va_Qi (fun (r : Int32) (u : ctN × ctF) => post r u.1 u.2) (ct_B dC dI a cA) A) (([.ref (a 2)] : List Value).toArray) s 0 0 A) (F0 m 4 ls []) := by
    intro k
    induction k with
    | zero => intro x1 x2 n f H locs ls hw; exact hw.elim
    | succ k ih =>
      intro x1 x2 n f H locs ls hw hP hS hl
      rw [wp_F_countStates_L4] at hw
      refine lv_iload_n hx hb dF_countStates_4 rfl (lv_at hl 2 rfl) ?_
      refine lv_aload_n hx hb dF_countStates_5 rfl (lv_at hl 0 rfl) ?_
      refine va_get (D := (dC, dI)) (ci := 2) (v := .int (n 2)) (C := RF) (T := TF) (N := 11) hx hb hts (fun w h => List.mem_cons_of_mem _ (inF w h)) hown hK hP 2 rfl rfl 1 (by decide) (hts (.fieldLink RF 44 "CoverTrees$Forest" "count" "I") (List.mem_cons_of_mem _ wt_96)) (fun _ h9 => h9) rfl dF_countStates_6 ?_
      refine lv_icmp_ge (tgt := 31) hx hb dF_countStates_9 (by decide) (fun c1 => ?_) (fun c1 => ?_)
      · have hw := hw.1 c1
        refine lv_iload_n hx hb dF_countStates_31 rfl (lv_at hl 1 rfl) ?_
        exact W.iret (v := x1) hx hb hr (fun t ht hW => ⟨⟨x1, (n, f), rfl, hw, ct_mkB ht hP⟩, hS.F ht⟩) hS.2.2 dF_countStates_32
      · have hw := hw.2 c1
        refine lv_aload_n hx hb dF_countStates_12 rfl (lv_at hl 0 rfl) ?_
        refine va_get (D := (dC, dI)) (ci := 2) (v := .ref (a 13)) (C := RF) (T := TF) (N := 11) hx hb hts (fun w h => List.mem_cons_of_mem _ (inF w h)) hown hK hP 2 rfl rfl 6 (by decide) (hts (.fieldLink RF 24 "CoverTrees$Forest" "like" "[I") (List.mem_cons_of_mem _ wt_101)) (fun _ h9 => h9) rfl dF_countStates_13 ?_
        refine lv_iload_n hx hb dF_countStates_16 rfl (lv_at hl 2 rfl) ?_
        obtain ⟨hi2, hw⟩ := hw
        refine va_iald hx hb hK hP 13 10 rfl rfl hi2 dF_countStates_17 ?_
        refine lv_iload_n hx hb dF_countStates_18 rfl (lv_at hl 2 rfl) ?_
        refine lv_icmp_ne (tgt := 25) hx hb dF_countStates_19 (by decide) (fun c3 => ?_) (fun c3 => ?_)
        · have hw := hw.1 c3
          obtain ⟨x2_4, ex2_4⟩ : ∃ y : Int32, y = x2 + 1 := ⟨_, rfl⟩
          have hw := hw x2_4 ex2_4
          refine lv_iinc (v := x2_4) (lv' := [(2, .int x2_4), (0, .ref (a 2)), (1, .int x1)]) hx hb dF_countStates_25 hl (k := 2) rfl (by rw [ex2_4]; rfl) (by decide) rfl (fun ls hl => ?_)
          refine lv_goto (tgt := 4) hx hb dF_countStates_28 (by decide) ?_
          exact ih x1 x2_4 n f _ _ ls hw hP hS (lv_sub hl [1, 2, 0] rfl)
        · have hw := hw.2 c3
          obtain ⟨x1_5, ex1_5⟩ : ∃ y : Int32, y = x1 + 1 := ⟨_, rfl⟩
          have hw := hw x1_5 ex1_5
          refine lv_iinc (v := x1_5) (lv' := [(1, .int x1_5), (0, .ref (a 2)), (2, .int x2)]) hx hb dF_countStates_22 hl (k := 1) rfl (by rw [ex1_5]; rfl) (by decide) rfl (fun ls hl => ?_)
          obtain ⟨x2_6, ex2_6⟩ : ∃ y : Int32, y = x2 + 1 := ⟨_, rfl⟩
          have hw := hw x2_6 ex2_6
          refine lv_iinc (v := x2_6) (lv' := [(2, .int x2_6), (1, .int x1_5), (0, .ref (a 2))]) hx hb dF_countStates_25 hl (k := 2) rfl (by rw [ex2_6]; rfl) (by decide) rfl (fun ls hl => ?_)
          refine lv_goto (tgt := 4) hx hb dF_countStates_28 (by decide) ?_
          exact ih x1_5 x2_6 n f _ _ ls hw hP hS (lv_sub hl [2, 1, 0] rfl)
  refine lv_iconst (v := 0) hx hb dF_countStates_0 (by decide) ?_
  refine lv_istore_n (lv' := [(1, .int 0), (0, .ref (a 2))]) hx hb dF_countStates_1 rfl hl (by decide) rfl (fun ls hl => ?_)
  refine lv_iconst (v := 0) hx hb dF_countStates_2 (by decide) ?_
  refine lv_istore_n (lv' := [(2, .int 0), (1, .int 0), (0, .ref (a 2))]) hx hb dF_countStates_3 rfl hl (by decide) rfl (fun ls hl => ?_)
  obtain ⟨j, hw⟩ := hw
  exact loop_4 j 0 0 n f _ _ ls hw hP hS (lv_sub hl [2, 1, 0] rfl)
