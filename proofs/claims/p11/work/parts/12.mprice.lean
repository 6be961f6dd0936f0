def wp_M_price_L60 (post : ctN → ctF → Prop) (K52 : Int32 → Int32 → ctN → ctF → Prop) : Nat → Int32 → Int32 → Int32 → ctN → ctF → Prop
  | 0, _, _, _, _, _ => False
  | k + 1, x1, x2, x3, n, f => ((n 5) ≤ x3 → (K52 x1 x2 n f)) ∧ (¬ (n 5) ≤ x3 → (vp_in x3 40 ∧ (∀ x4_5 : Int32, x4_5 = ((8 * x1) + (f 20 x3.toNatClampNeg)) → (wp_M_costBy (fun (r6 : Int32) (n_7 : ctN) (f_8 : ctF) => (r6 < 0 → (∀ x3_10 : Int32, x3_10 = x3 + 1 → (wp_M_price_L60 post K52 k x1 x2 x3_10 n_7 f_8))) ∧ (¬ r6 < 0 → (vp_in x4_5 960 ∧ (((f_8 28 x4_5.toNatClampNeg) < 0 → (vp_in x4_5 960 ∧ (∀ f_14 : ctF, f_14 = va_up f_8 28 (upd (f_8 28) x4_5.toNatClampNeg r6) → (∀ x3_15 : Int32, x3_15 = x3 + 1 → (wp_M_price_L60 post K52 k x1 1 x3_15 n_7 f_14))))) ∧ (¬ (f_8 28 x4_5.toNatClampNeg) < 0 → (vp_in x4_5 960 ∧ (((f_8 28 x4_5.toNatClampNeg) ≤ r6 → (∀ x3_18 : Int32, x3_18 = x3 + 1 → (wp_M_price_L60 post K52 k x1 x2 x3_18 n_7 f_8))) ∧ (¬ (f_8 28 x4_5.toNatClampNeg) ≤ r6 → (vp_in x4_5 960 ∧ (∀ f_20 : ctF, f_20 = va_up f_8 28 (upd (f_8 28) x4_5.toNatClampNeg r6) → (∀ x3_21 : Int32, x3_21 = x3 + 1 → (wp_M_price_L60 post K52 k x1 1 x3_21 n_7 f_20)))))))))))) x1 x3 n f))))
def wp_M_price_L52 (post : ctN → ctF → Prop) : Nat → Int32 → Int32 → ctN → ctF → Prop
  | 0, _, _, _, _ => False
  | k + 1, x1, x2, n, f => (x2 = 0 → (post n f)) ∧ (¬ x2 = 0 → (∃ j, wp_M_price_L60 post (wp_M_price_L52 post k) j x1 0 0 n f))
def wp_M_price_L2 (post : ctN → ctF → Prop) : Nat → Int32 → Int32 → ctN → ctF → Prop
  | 0, _, _, _, _ => False
  | k + 1, x1, x2, n, f => (8 ≤ x2 → (∃ j, wp_M_price_L52 post j x1 1 n f)) ∧ (¬ 8 ≤ x2 → (vp_in ((8 * x1) + x2) 960 ∧ (∀ f_23 : ctF, f_23 = va_up f 28 (upd (f 28) ((8 * x1) + x2).toNatClampNeg (-1)) → (vp_in ((8 * x1) + x2) 960 ∧ (∀ f_25 : ctF, f_25 = va_up f_23 29 (upd (f_23 29) ((8 * x1) + x2).toNatClampNeg (-1)) → (vp_in ((8 * x1) + x2) 960 ∧ (∀ f_27 : ctF, f_27 = va_up f_25 30 (upd (f_25 30) ((8 * x1) + x2).toNatClampNeg (-1)) → (∀ x2_28 : Int32, x2_28 = x2 + 1 → (wp_M_price_L2 post k x1 x2_28 n f_27)))))))))
def wp_M_price (post : ctN → ctF → Prop) (p1 : Int32) (n : ctN) (f : ctF) : Prop := ∃ j, wp_M_price_L2 post j p1 0 n f
set_option maxHeartbeats 4000000 in
set_option maxRecDepth 100000 in
theorem met_M_price (l : Launch) (dC : Nat → ClassId) (dI : Nat → Nat → Nat) (a : Nat → Nat) (cA : Nat → ClassId) (sa : Nat → Nat) (p1 : Int32) (n : ctN) (f : ctF) (sz : Nat) {post : ctN → ctF → Prop} (hw : wp_M_price post p1 n f) : Met l yM_price wsM_price ({ frames := 1, cells := 0, slots := 0, locals := 24 } : Room) (ct_Pc dC dI a cA sa [.ref (a 18), .int p1] n f sz) (va_Qv (fun (u : ctN × ctF) => post u.1 u.2) (ct_B dC dI a cA) (va_A (ctW a cA n f) sz)) 0 0 (va_A (ctW a cA n f) sz) := by
  refine Met.ofW (cc := cM_price) (maxL := 6) (ret := none) (by decide) rfl ?_
  intro p e s m args below meth c s₁ B hml hv
  obtain ⟨rfl, hsz, hP, hK, hD0, hZ⟩ := hv
  have hx := B.exec
  have hb := B.bytes
  have hr := B.returns
  have hts := atoms_spec (ws := wsM_price) B.pre
  have hown : s.vm.findClass RM = some m.cls := findClass_of_methodNamed B.named
  have hlocks := B.notSynchronized
  subst hsz
  have hD := hD0.self (sz := s.heap.size)
  generalize hAe : va_A (ctW a cA n f) s.heap.size = A at hD hZ ⊢
  have hDa : ∀ (n : ctN) (f : ctF), va_D A (ctW a cA n f) := fun _ _ => ct_D hD
  have hA : ∀ q : Nat, s.heap.size ≤ q → A q := fun q h => by rw [← hAe]; exact Or.inr h
  have hS : va_S A s.heap s.heap [] := va_S.rf
  have hl := lv_entry ([.ref (a 18), .int p1]) (n := 6) (Nat.le_of_ble_eq_true rfl)
  rw [lg_entry_eq]
  generalize (lg_sl ([.ref (a 18), .int p1]) ++ List.replicate (6 - (lg_sl ([.ref (a 18), .int p1])).length) Slot.unset).toArray = ls at hl ⊢
  have hl : lv_has ls 6 [(0, .ref (a 18)), (1, .int p1)] := hl
  unfold wp_M_price at hw
  have loop_60 : ∀ (K52 : Int32 → Int32 → ctN → ctF → Prop) (hK52 : ∀ (x1 x2 : Int32) (n : ctN) (f : ctF) (H : Heap) (locs : List Loc) (ls : Array Slot), K52 x1 x2 n f → va_P (dC, dI) vcl (ctW a cA n f) H → va_S A s.heap H locs → lv_has ls 6 [(0, .ref (a 18)), (1, .int x1), (2, .int x2)] → W p l e (headSpec wsM_price ({ frames := 1, cells := 0, slots := 0, locals := 24 } : Room)).room s m (([.ref (a 18), .int p1] : List Value).toArray) below meth c H locs 0 0 (MQ below (va_Qv (fun (u : ctN × ctF) => post u.1 u.2) (ct_B dC dI a cA) A) (([.ref (a 18), .int p1] : List Value).toArray) s 0 0 A) (F0 m 52 ls [])), ∀ (k : Nat) (x1 x2 x3 : Int32) (n : ctN) (f : ctF) (H : Heap) (locs : List Loc) (ls : Array Slot), wp_M_price_L60 post K52 k x1 x2 x3 n f → va_P (dC, dI) vcl (ctW a cA n f) H → va_S A s.heap H locs → lv_has ls 6 [(0, .ref (a 18)), (1, .int x1), (2, .int x2), (3, .int x3)] → W p l e (headSpec wsM_price ({ frames := 1, cells := 0, slots := 0, locals := 24 } : Room)).room s m (([.ref (a 18), .int p1] : List Value).toArray) below meth c H locs 0 0 (MQ below (va_Qv (fun (u : ctN × ctF) => post u.1 u.2) (ct_B dC dI a cA) A) (([.ref (a 18), .int p1] : List Value).toArray) s 0 0 A) (F0 m 60 ls []) := by
    intro K52 hK52
    intro k
    induction k with
    | zero => intro x1 x2 x3 n f H locs ls hw; exact hw.elim
    | succ k ih =>
      intro x1 x2 x3 n f H locs ls hw hP hS hl
      rw [wp_M_price_L60] at hw
      refine lv_iload_n hx hb dM_price_60 rfl (lv_at hl 3 rfl) ?_
      refine lv_aload_n hx hb dM_price_61 rfl (lv_at hl 0 rfl) ?_
      refine va_get (D := (dC, dI)) (ci := 3) (v := .int (n 5)) (C := RM) (T := TM) (N := 19) hx hb hts (fun w h => List.mem_cons_of_mem _ (inM w h)) hown hK hP 18 rfl rfl 3 (by decide) (hts (.fieldLink RM 57 "CoverTreesModel" "rules" "I") (List.mem_cons_of_mem _ wt_447)) (fun _ h9 => h9) rfl dM_price_62 ?_
      refine lv_icmp_ge (tgt := 133) hx hb dM_price_65 (by decide) (fun c3 => ?_) (fun c3 => ?_)
      · have hw := hw.1 c3
        refine lv_goto (tgt := 52) hx hb dM_price_133 (by decide) ?_
        exact hK52 x1 x2 n f _ _ ls hw hP hS (lv_sub hl [0, 1, 2] rfl)
      · have hw := hw.2 c3
        refine lv_bipush (v := 8) hx hb dM_price_68 (by decide) ?_
        refine lv_iload_n hx hb dM_price_70 rfl (lv_at hl 1 rfl) ?_
        refine lv_imul hx hb dM_price_71 ?_
        refine lv_aload_n hx hb dM_price_72 rfl (lv_at hl 0 rfl) ?_
        refine va_get (D := (dC, dI)) (ci := 3) (v := .ref (a 20)) (C := RM) (T := TM) (N := 19) hx hb hts (fun w h => List.mem_cons_of_mem _ (inM w h)) hown hK hP 18 rfl rfl 4 (by decide) (hts (.fieldLink RM 13 "CoverTreesModel" "goals" "[I") (List.mem_cons_of_mem _ wt_448)) (fun _ h9 => h9) rfl dM_price_73 ?_
        refine lv_iload_n hx hb dM_price_76 rfl (lv_at hl 3 rfl) ?_
        obtain ⟨hi4, hw⟩ := hw
        refine va_iald hx hb hK hP 20 16 rfl rfl hi4 dM_price_77 ?_
        refine lv_iadd hx hb dM_price_78 ?_
        refine lv_topi (fun x4_5 ex4_5 => ?_)
        have hw := hw x4_5 ex4_5
        refine lv_istore (lv' := [(4, .int x4_5), (0, .ref (a 18)), (1, .int x1), (2, .int x2), (3, .int x3)]) hx hb dM_price_79 hl (by decide) rfl (fun ls hl => ?_)
        refine lv_aload_n hx hb dM_price_81 rfl (lv_at hl 1 rfl) ?_
        refine lv_iload_n hx hb dM_price_82 rfl (lv_at hl 2 rfl) ?_
        refine lv_iload_n hx hb dM_price_83 rfl (lv_at hl 4 rfl) ?_
        refine ct_i (va_runV (As := [.int x1, .int x3]) (rest := []) ⟨hx, hb, hml, hown, hts⟩ (met_M_costBy l dC dI a cA sa x1 x3 n f _ hw) (cwV 2 hts (wb_V wt_552 wt_554 wt_18 wt_30 wt_555) rfl rfl rfl (by decide +kernel) ⟨Nat.le_of_ble_eq_true rfl, Nat.le_of_ble_eq_true rfl⟩) (ct_preV hK hP (hDa _ _) hZ hS hA (va_recv hK hP (ci := 3) (q0 := 18) rfl rfl)) rfl rfl hl.1 rfl (lv_room (Nat.le_of_ble_eq_true rfl)) dM_price_84 ⟨Nat.le_of_ble_eq_true rfl, Nat.le_of_ble_eq_true rfl⟩) (hDa _ _) hS hA (fun r6 n_7 f_8 H locs hw hP hS => ?_)
        refine lv_istore (lv' := [(5, .int r6), (4, .int x4_5), (0, .ref (a 18)), (1, .int x1), (2, .int x2), (3, .int x3)]) hx hb dM_price_87 hl (by decide) rfl (fun ls hl => ?_)
        refine lv_iload hx hb dM_price_89 (lv_at hl 0 rfl) ?_
        refine lv_if_lt (tgt := 127) hx hb dM_price_91 (by decide) (fun c9 => ?_) (fun c9 => ?_)
        · have hw := hw.1 c9
          obtain ⟨x3_10, ex3_10⟩ : ∃ y : Int32, y = x3 + 1 := ⟨_, rfl⟩
          have hw := hw x3_10 ex3_10
          refine lv_iinc (v := x3_10) (lv' := [(3, .int x3_10), (5, .int r6), (4, .int x4_5), (0, .ref (a 18)), (1, .int x1), (2, .int x2)]) hx hb dM_price_127 hl (k := 5) rfl (by rw [ex3_10]; rfl) (by decide) rfl (fun ls hl => ?_)
          refine lv_goto (tgt := 60) hx hb dM_price_130 (by decide) ?_
          exact ih x1 x2 x3_10 n_7 f_8 _ _ ls hw hP hS (lv_sub hl [3, 4, 5, 0] rfl)
        · have hw := hw.2 c9
          refine lv_aload_n hx hb dM_price_94 rfl (lv_at hl 2 rfl) ?_
          refine va_get (D := (dC, dI)) (ci := 3) (v := .ref (a 28)) (C := RM) (T := TM) (N := 19) hx hb hts (fun w h => List.mem_cons_of_mem _ (inM w h)) hown hK hP 18 rfl rfl 13 (by decide) (hts (.fieldLink RM 37 "CoverTreesModel" "costs" "[I") (List.mem_cons_of_mem _ wt_457)) (fun _ h9 => h9) rfl dM_price_95 ?_
          refine lv_iload hx hb dM_price_98 (lv_at hl 1 rfl) ?_
          obtain ⟨hi11, hw⟩ := hw
          refine va_iald hx hb hK hP 28 24 rfl rfl hi11 dM_price_100 ?_
          refine lv_if_lt (tgt := 116) hx hb dM_price_101 (by decide) (fun c12 => ?_) (fun c12 => ?_)
          · have hw := hw.1 c12
            refine lv_aload_n hx hb dM_price_116 rfl (lv_at hl 2 rfl) ?_
            refine va_get (D := (dC, dI)) (ci := 3) (v := .ref (a 28)) (C := RM) (T := TM) (N := 19) hx hb hts (fun w h => List.mem_cons_of_mem _ (inM w h)) hown hK hP 18 rfl rfl 13 (by decide) (hts (.fieldLink RM 37 "CoverTreesModel" "costs" "[I") (List.mem_cons_of_mem _ wt_457)) (fun _ h9 => h9) rfl dM_price_117 ?_
            refine lv_iload hx hb dM_price_120 (lv_at hl 1 rfl) ?_
            refine lv_iload hx hb dM_price_122 (lv_at hl 0 rfl) ?_
            obtain ⟨hi13, hw⟩ := hw
            refine va_iast hx hb hK hP (hDa _ _) hS 28 24 rfl rfl hi13 dM_price_124 (fun H locs hP _ hS => ?_)
            obtain ⟨f_14, ef_14⟩ : ∃ z : ctF, z = va_up f_8 28 (upd (f_8 28) x4_5.toNatClampNeg r6) := ⟨_, rfl⟩
            have hw := hw f_14 ef_14
            have hP : va_P (dC, dI) vcl (ctW a cA n_7 f_14) H := by rw [ef_14]; exact hP
            refine lv_iconst (v := 1) hx hb dM_price_125 (by decide) ?_
            refine lv_istore_n (lv' := [(2, .int 1), (5, .int r6), (4, .int x4_5), (0, .ref (a 18)), (1, .int x1), (3, .int x3)]) hx hb dM_price_126 rfl hl (by decide) rfl (fun ls hl => ?_)
            obtain ⟨x3_15, ex3_15⟩ : ∃ y : Int32, y = x3 + 1 := ⟨_, rfl⟩
            have hw := hw x3_15 ex3_15
            refine lv_iinc (v := x3_15) (lv' := [(3, .int x3_15), (2, .int 1), (5, .int r6), (4, .int x4_5), (0, .ref (a 18)), (1, .int x1)]) hx hb dM_price_127 hl (k := 5) rfl (by rw [ex3_15]; rfl) (by decide) rfl (fun ls hl => ?_)
            refine lv_goto (tgt := 60) hx hb dM_price_130 (by decide) ?_
            exact ih x1 1 x3_15 n_7 f_14 _ _ ls hw hP hS (lv_sub hl [4, 5, 1, 0] rfl)
          · have hw := hw.2 c12
            refine lv_iload hx hb dM_price_104 (lv_at hl 0 rfl) ?_
            refine lv_aload_n hx hb dM_price_106 rfl (lv_at hl 2 rfl) ?_
            refine va_get (D := (dC, dI)) (ci := 3) (v := .ref (a 28)) (C := RM) (T := TM) (N := 19) hx hb hts (fun w h => List.mem_cons_of_mem _ (inM w h)) hown hK hP 18 rfl rfl 13 (by decide) (hts (.fieldLink RM 37 "CoverTreesModel" "costs" "[I") (List.mem_cons_of_mem _ wt_457)) (fun _ h9 => h9) rfl dM_price_107 ?_
            refine lv_iload hx hb dM_price_110 (lv_at hl 1 rfl) ?_
            obtain ⟨hi16, hw⟩ := hw
            refine va_iald hx hb hK hP 28 24 rfl rfl hi16 dM_price_112 ?_
            refine lv_icmp_ge (tgt := 127) hx hb dM_price_113 (by decide) (fun c17 => ?_) (fun c17 => ?_)
            · have hw := hw.1 c17
              obtain ⟨x3_18, ex3_18⟩ : ∃ y : Int32, y = x3 + 1 := ⟨_, rfl⟩
              have hw := hw x3_18 ex3_18
              refine lv_iinc (v := x3_18) (lv' := [(3, .int x3_18), (5, .int r6), (4, .int x4_5), (0, .ref (a 18)), (1, .int x1), (2, .int x2)]) hx hb dM_price_127 hl (k := 5) rfl (by rw [ex3_18]; rfl) (by decide) rfl (fun ls hl => ?_)
              refine lv_goto (tgt := 60) hx hb dM_price_130 (by decide) ?_
              exact ih x1 x2 x3_18 n_7 f_8 _ _ ls hw hP hS (lv_sub hl [3, 4, 5, 0] rfl)
            · have hw := hw.2 c17
              refine lv_aload_n hx hb dM_price_116 rfl (lv_at hl 2 rfl) ?_
              refine va_get (D := (dC, dI)) (ci := 3) (v := .ref (a 28)) (C := RM) (T := TM) (N := 19) hx hb hts (fun w h => List.mem_cons_of_mem _ (inM w h)) hown hK hP 18 rfl rfl 13 (by decide) (hts (.fieldLink RM 37 "CoverTreesModel" "costs" "[I") (List.mem_cons_of_mem _ wt_457)) (fun _ h9 => h9) rfl dM_price_117 ?_
              refine lv_iload hx hb dM_price_120 (lv_at hl 1 rfl) ?_
              refine lv_iload hx hb dM_price_122 (lv_at hl 0 rfl) ?_
              obtain ⟨hi19, hw⟩ := hw
              refine va_iast hx hb hK hP (hDa _ _) hS 28 24 rfl rfl hi19 dM_price_124 (fun H locs hP _ hS => ?_)
              obtain ⟨f_20, ef_20⟩ : ∃ z : ctF, z = va_up f_8 28 (upd (f_8 28) x4_5.toNatClampNeg r6) := ⟨_, rfl⟩
              have hw := hw f_20 ef_20
              have hP : va_P (dC, dI) vcl (ctW a cA n_7 f_20) H := by rw [ef_20]; exact hP
              refine lv_iconst (v := 1) hx hb dM_price_125 (by decide) ?_
              refine lv_istore_n (lv' := [(2, .int 1), (5, .int r6), (4, .int x4_5), (0, .ref (a 18)), (1, .int x1), (3, .int x3)]) hx hb dM_price_126 rfl hl (by decide) rfl (fun ls hl => ?_)
              obtain ⟨x3_21, ex3_21⟩ : ∃ y : Int32, y = x3 + 1 := ⟨_, rfl⟩
              have hw := hw x3_21 ex3_21
              refine lv_iinc (v := x3_21) (lv' := [(3, .int x3_21), (2, .int 1), (5, .int r6), (4, .int x4_5), (0, .ref (a 18)), (1, .int x1)]) hx hb dM_price_127 hl (k := 5) rfl (by rw [ex3_21]; rfl) (by decide) rfl (fun ls hl => ?_)
              refine lv_goto (tgt := 60) hx hb dM_price_130 (by decide) ?_
              exact ih x1 1 x3_21 n_7 f_20 _ _ ls hw hP hS (lv_sub hl [4, 5, 1, 0] rfl)
  have loop_52 : ∀ (k : Nat) (x1 x2 : Int32) (n : ctN) (f : ctF) (H : Heap) (locs : List Loc) (ls : Array Slot), wp_M_price_L52 post k x1 x2 n f → va_P (dC, dI) vcl (ctW a cA n f) H → va_S A s.heap H locs → lv_has ls 6 [(0, .ref (a 18)), (1, .int x1), (2, .int x2)] → W p l e (headSpec wsM_price ({ frames := 1, cells := 0, slots := 0, locals := 24 } : Room)).room s m (([.ref (a 18), .int p1] : List Value).toArray) below meth c H locs 0 0 (MQ below (va_Qv (fun (u : ctN × ctF) => post u.1 u.2) (ct_B dC dI a cA) A) (([.ref (a 18), .int p1] : List Value).toArray) s 0 0 A) (F0 m 52 ls []) := by
    intro k
    induction k with
    | zero => intro x1 x2 n f H locs ls hw; exact hw.elim
    | succ k ih =>
      intro x1 x2 n f H locs ls hw hP hS hl
      rw [wp_M_price_L52] at hw
      refine lv_iload_n hx hb dM_price_52 rfl (lv_at hl 2 rfl) ?_
      refine lv_if_eq (tgt := 136) hx hb dM_price_53 (by decide) (fun c2 => ?_) (fun c2 => ?_)
      · have hw := hw.1 c2
        exact W.vret hx hb hr (fun t ht hW => ⟨⟨(n, f), rfl, hw, ct_mkB ht hP⟩, hS.F ht⟩) hS.2.2 dM_price_136
      · have hw := hw.2 c2
        refine lv_iconst (v := 0) hx hb dM_price_56 (by decide) ?_
        refine lv_istore_n (lv' := [(2, .int 0), (0, .ref (a 18)), (1, .int x1)]) hx hb dM_price_57 rfl hl (by decide) rfl (fun ls hl => ?_)
        refine lv_iconst (v := 0) hx hb dM_price_58 (by decide) ?_
        refine lv_istore_n (lv' := [(3, .int 0), (2, .int 0), (0, .ref (a 18)), (1, .int x1)]) hx hb dM_price_59 rfl hl (by decide) rfl (fun ls hl => ?_)
        obtain ⟨j, hw⟩ := hw
        exact loop_60 _ ih j x1 0 0 n f _ _ ls hw hP hS (lv_sub hl [2, 3, 1, 0] rfl)
  have loop_2 : ∀ (k : Nat) (x1 x2 : Int32) (n : ctN) (f : ctF) (H : Heap) (locs : List Loc) (ls : Array Slot), wp_M_price_L2 post k x1 x2 n f → va_P (dC, dI) vcl (ctW a cA n f) H → va_S A s.heap H locs → lv_has ls 6 [(0, .ref (a 18)), (1, .int x1), (2, .int x2)] → W p l e (headSpec wsM_price ({ frames := 1, cells := 0, slots := 0, locals := 24 } : Room)).room s m (([.ref (a 18), .int p1] : List Value).toArray) below meth c H locs 0 0 (MQ below (va_Qv (fun (u : ctN × ctF) => post u.1 u.2) (ct_B dC dI a cA) A) (([.ref (a 18), .int p1] : List Value).toArray) s 0 0 A) (F0 m 2 ls []) := by
    intro k
    induction k with
    | zero => intro x1 x2 n f H locs ls hw; exact hw.elim
    | succ k ih =>
      intro x1 x2 n f H locs ls hw hP hS hl
      rw [wp_M_price_L2] at hw
      refine lv_iload_n hx hb dM_price_2 rfl (lv_at hl 2 rfl) ?_
      refine lv_bipush (v := 8) hx hb dM_price_3 (by decide) ?_
      refine lv_icmp_ge (tgt := 50) hx hb dM_price_5 (by decide) (fun c1 => ?_) (fun c1 => ?_)
      · have hw := hw.1 c1
        refine lv_iconst (v := 1) hx hb dM_price_50 (by decide) ?_
        refine lv_istore_n (lv' := [(2, .int 1), (0, .ref (a 18)), (1, .int x1)]) hx hb dM_price_51 rfl hl (by decide) rfl (fun ls hl => ?_)
        obtain ⟨j, hw⟩ := hw
        exact loop_52 j x1 1 n f _ _ ls hw hP hS (lv_sub hl [1, 2, 0] rfl)
      · have hw := hw.2 c1
        refine lv_aload_n hx hb dM_price_8 rfl (lv_at hl 0 rfl) ?_
        refine va_get (D := (dC, dI)) (ci := 3) (v := .ref (a 28)) (C := RM) (T := TM) (N := 19) hx hb hts (fun w h => List.mem_cons_of_mem _ (inM w h)) hown hK hP 18 rfl rfl 13 (by decide) (hts (.fieldLink RM 37 "CoverTreesModel" "costs" "[I") (List.mem_cons_of_mem _ wt_457)) (fun _ h9 => h9) rfl dM_price_9 ?_
        refine lv_bipush (v := 8) hx hb dM_price_12 (by decide) ?_
        refine lv_iload_n hx hb dM_price_14 rfl (lv_at hl 1 rfl) ?_
        refine lv_imul hx hb dM_price_15 ?_
        refine lv_iload_n hx hb dM_price_16 rfl (lv_at hl 2 rfl) ?_
        refine lv_iadd hx hb dM_price_17 ?_
        refine lv_iconst (v := (-1)) hx hb dM_price_18 (by decide) ?_
        obtain ⟨hi22, hw⟩ := hw
        refine va_iast hx hb hK hP (hDa _ _) hS 28 24 rfl rfl hi22 dM_price_19 (fun H locs hP _ hS => ?_)
        obtain ⟨f_23, ef_23⟩ : ∃ z : ctF, z = va_up f 28 (upd (f 28) ((8 * x1) + x2).toNatClampNeg (-1)) := ⟨_, rfl⟩
        have hw := hw f_23 ef_23
        have hP : va_P (dC, dI) vcl (ctW a cA n f_23) H := by rw [ef_23]; exact hP
        refine lv_aload_n hx hb dM_price_20 rfl (lv_at hl 0 rfl) ?_
        refine va_get (D := (dC, dI)) (ci := 3) (v := .ref (a 29)) (C := RM) (T := TM) (N := 19) hx hb hts (fun w h => List.mem_cons_of_mem _ (inM w h)) hown hK hP 18 rfl rfl 14 (by decide) (hts (.fieldLink RM 40 "CoverTreesModel" "chosen" "[I") (List.mem_cons_of_mem _ wt_458)) (fun _ h9 => h9) rfl dM_price_21 ?_
        refine lv_bipush (v := 8) hx hb dM_price_24 (by decide) ?_
        refine lv_iload_n hx hb dM_price_26 rfl (lv_at hl 1 rfl) ?_
        refine lv_imul hx hb dM_price_27 ?_
        refine lv_iload_n hx hb dM_price_28 rfl (lv_at hl 2 rfl) ?_
        refine lv_iadd hx hb dM_price_29 ?_
        refine lv_iconst (v := (-1)) hx hb dM_price_30 (by decide) ?_
        obtain ⟨hi24, hw⟩ := hw
        refine va_iast hx hb hK hP (hDa _ _) hS 29 25 rfl rfl hi24 dM_price_31 (fun H locs hP _ hS => ?_)
        obtain ⟨f_25, ef_25⟩ : ∃ z : ctF, z = va_up f_23 29 (upd (f_23 29) ((8 * x1) + x2).toNatClampNeg (-1)) := ⟨_, rfl⟩
        have hw := hw f_25 ef_25
        have hP : va_P (dC, dI) vcl (ctW a cA n f_25) H := by rw [ef_25]; exact hP
        refine lv_aload_n hx hb dM_price_32 rfl (lv_at hl 0 rfl) ?_
        refine va_get (D := (dC, dI)) (ci := 3) (v := .ref (a 30)) (C := RM) (T := TM) (N := 19) hx hb hts (fun w h => List.mem_cons_of_mem _ (inM w h)) hown hK hP 18 rfl rfl 15 (by decide) (hts (.fieldLink RM 43 "CoverTreesModel" "sizes" "[I") (List.mem_cons_of_mem _ wt_459)) (fun _ h9 => h9) rfl dM_price_33 ?_
        refine lv_bipush (v := 8) hx hb dM_price_36 (by decide) ?_
        refine lv_iload_n hx hb dM_price_38 rfl (lv_at hl 1 rfl) ?_
        refine lv_imul hx hb dM_price_39 ?_
        refine lv_iload_n hx hb dM_price_40 rfl (lv_at hl 2 rfl) ?_
        refine lv_iadd hx hb dM_price_41 ?_
        refine lv_iconst (v := (-1)) hx hb dM_price_42 (by decide) ?_
        obtain ⟨hi26, hw⟩ := hw
        refine va_iast hx hb hK hP (hDa _ _) hS 30 26 rfl rfl hi26 dM_price_43 (fun H locs hP _ hS => ?_)
        obtain ⟨f_27, ef_27⟩ : ∃ z : ctF, z = va_up f_25 30 (upd (f_25 30) ((8 * x1) + x2).toNatClampNeg (-1)) := ⟨_, rfl⟩
        have hw := hw f_27 ef_27
        have hP : va_P (dC, dI) vcl (ctW a cA n f_27) H := by rw [ef_27]; exact hP
        obtain ⟨x2_28, ex2_28⟩ : ∃ y : Int32, y = x2 + 1 := ⟨_, rfl⟩
        have hw := hw x2_28 ex2_28
        refine lv_iinc (v := x2_28) (lv' := [(2, .int x2_28), (0, .ref (a 18)), (1, .int x1)]) hx hb dM_price_44 hl (k := 2) rfl (by rw [ex2_28]; rfl) (by decide) rfl (fun ls hl => ?_)
        refine lv_goto (tgt := 2) hx hb dM_price_47 (by decide) ?_
        exact ih x1 x2_28 n f_27 _ _ ls hw hP hS (lv_sub hl [1, 2, 0] rfl)
  refine lv_iconst (v := 0) hx hb dM_price_0 (by decide) ?_
  refine lv_istore_n (lv' := [(2, .int 0), (0, .ref (a 18)), (1, .int p1)]) hx hb dM_price_1 rfl hl (by decide) rfl (fun ls hl => ?_)
  obtain ⟨j, hw⟩ := hw
  exact loop_2 j p1 0 n f _ _ ls hw hP hS (lv_sub hl [1, 2, 0] rfl)
def wp_M_ruleOf_J88 (post : Int32 → ctN → ctF → Prop) (K13 : Int32 → Int32 → Int32 → Int32 → Int32 → ctN → ctF → Prop) (x1 : Int32) (x2 : Int32) (x4 : Int32) (x5 : Int32) (x6 : Int32) (s0 : Int32) (n : ctN) (f : ctF) : Prop := (x6 = 0 → (∀ x5_8 : Int32, x5_8 = x5 + (-1) → (K13 x1 x2 s0 x4 x5_8 n f))) ∧ (¬ x6 = 0 → (vp_in x5 40 ∧ ((0 ≤ (f 22 x5.toNatClampNeg) → (∀ x5_11 : Int32, x5_11 = x5 + (-1) → (K13 x1 x2 s0 x4 x5_11 n f))) ∧ (¬ 0 ≤ (f 22 x5.toNatClampNeg) → (vp_in x5 40 ∧ (vp_in (f 23 x5.toNatClampNeg) 8 ∧ (((f 31 (f 23 x5.toNatClampNeg).toNatClampNeg) = 0 → (∀ x5_15 : Int32, x5_15 = x5 + (-1) → (K13 x1 x2 s0 x4 x5_15 n f))) ∧ (¬ (f 31 (f 23 x5.toNatClampNeg).toNatClampNeg) = 0 → (∀ x5_16 : Int32, x5_16 = x5 + (-1) → (K13 x1 x2 s0 x5 x5_16 n f))))))))))
def wp_M_ruleOf_J87 (post : Int32 → ctN → ctF → Prop) (K13 : Int32 → Int32 → Int32 → Int32 → Int32 → ctN → ctF → Prop) (x1 : Int32) (x2 : Int32) (x3 : Int32) (x4 : Int32) (x5 : Int32) (x6 : Int32) (n : ctN) (f : ctF) : Prop := wp_M_ruleOf_J88 post K13 x1 x2 x4 x5 x6 x3 n f
def wp_M_ruleOf_J65 (post : Int32 → ctN → ctF → Prop) (K13 : Int32 → Int32 → Int32 → Int32 → Int32 → ctN → ctF → Prop) (x1 : Int32) (x2 : Int32) (x3 : Int32) (x4 : Int32) (x5 : Int32) (s0 : Int32) (n : ctN) (f : ctF) : Prop := (s0 = 0 → (wp_M_ruleOf_J87 post K13 x1 x2 x3 x4 x5 s0 n f)) ∧ (¬ s0 = 0 → (vp_in x5 40 ∧ (((f 22 x5.toNatClampNeg) < 0 → (wp_M_ruleOf_J87 post K13 x1 x2 x3 x4 x5 s0 n f)) ∧ (¬ (f 22 x5.toNatClampNeg) < 0 → (wp_M_ruleOf_J88 post K13 x1 x2 x4 x5 s0 x5 n f)))))
def wp_M_ruleOf_J64 (post : Int32 → ctN → ctF → Prop) (K13 : Int32 → Int32 → Int32 → Int32 → Int32 → ctN → ctF → Prop) (x1 : Int32) (x2 : Int32) (x3 : Int32) (x4 : Int32) (x5 : Int32) (n : ctN) (f : ctF) : Prop := wp_M_ruleOf_J65 post K13 x1 x2 x3 x4 x5 0 n f
def wp_M_ruleOf_L13 (post : Int32 → ctN → ctF → Prop) : Nat → Int32 → Int32 → Int32 → Int32 → Int32 → ctN → ctF → Prop
  | 0, _, _, _, _, _, _, _ => False
  | k + 1, x1, x2, x3, x4, x5, n, f => (x5 < 0 → ((x3 < 0 → (post x4 n f)) ∧ (¬ x3 < 0 → (post x3 n f)))) ∧ (¬ x5 < 0 → (vp_in x5 40 ∧ ((¬ (f 20 x5.toNatClampNeg) = x2 → (wp_M_ruleOf_J64 post (wp_M_ruleOf_L13 post k) x1 x2 x3 x4 x5 n f)) ∧ ((f 20 x5.toNatClampNeg) = x2 → (wp_M_costBy (fun (r19 : Int32) (n_20 : ctN) (f_21 : ctF) => (r19 < 0 → (wp_M_ruleOf_J64 post (wp_M_ruleOf_L13 post k) x1 x2 x3 x4 x5 n_20 f_21)) ∧ (¬ r19 < 0 → (wp_M_costBy (fun (r23 : Int32) (n_24 : ctN) (f_25 : ctF) => vp_in ((8 * x1) + x2) 960 ∧ ((¬ r23 = (f_25 28 ((8 * x1) + x2).toNatClampNeg) → (wp_M_ruleOf_J64 post (wp_M_ruleOf_L13 post k) x1 x2 x3 x4 x5 n_24 f_25)) ∧ (r23 = (f_25 28 ((8 * x1) + x2).toNatClampNeg) → (wp_M_ruleOf_J65 post (wp_M_ruleOf_L13 post k) x1 x2 x3 x4 x5 1 n_24 f_25)))) x1 x5 n_20 f_21))) x1 x5 n f)))))
def wp_M_ruleOf (post : Int32 → ctN → ctF → Prop) (p1 : Int32) (p2 : Int32) (n : ctN) (f : ctF) : Prop := ∀ x5_1 : Int32, x5_1 = ((n 5) - 1) → (∃ j, wp_M_ruleOf_L13 post j p1 p2 (-1) (-1) x5_1 n f)
set_option maxHeartbeats 4000000 in
set_option maxRecDepth 100000 in
theorem met_M_ruleOf (l : Launch) (dC : Nat → ClassId) (dI : Nat → Nat → Nat) (a : Nat → Nat) (cA : Nat → ClassId) (sa : Nat → Nat) (p1 : Int32) (p2 : Int32) (n : ctN) (f : ctF) (sz : Nat) {post : Int32 → ctN → ctF → Prop} (hw : wp_M_ruleOf post p1 p2 n f) : Met l yM_ruleOf wsM_ruleOf ({ frames := 1, cells := 0, slots := 0, locals := 24 } : Room) (ct_Pc dC dI a cA sa [.ref (a 18), .int p1, .int p2] n f sz) (va_Qi (fun (r : Int32) (u : ctN × ctF) => post r u.1 u.2) (ct_B dC dI a cA) (va_A (ctW a cA n f) sz)) 0 0 (va_A (ctW a cA n f) sz) := by
  refine Met.ofW (cc := cM_ruleOf) (maxL := 7) (ret := (some .int)) (by decide) rfl ?_
  intro p e s m args below meth c s₁ B hml hv
  obtain ⟨rfl, hsz, hP, hK, hD0, hZ⟩ := hv
  have hx := B.exec
  have hb := B.bytes
  have hr := B.returns
  have hts := atoms_spec (ws := wsM_ruleOf) B.pre
  have hown : s.vm.findClass RM = some m.cls := findClass_of_methodNamed B.named
  have hlocks := B.notSynchronized
  subst hsz
  have hD := hD0.self (sz := s.heap.size)
  generalize hAe : va_A (ctW a cA n f) s.heap.size = A at hD hZ ⊢
  have hDa : ∀ (n : ctN) (f : ctF), va_D A (ctW a cA n f) := fun _ _ => ct_D hD
  have hA : ∀ q : Nat, s.heap.size ≤ q → A q := fun q h => by rw [← hAe]; exact Or.inr h
  have hS : va_S A s.heap s.heap [] := va_S.rf
  have hl := lv_entry ([.ref (a 18), .int p1, .int p2]) (n := 7) (Nat.le_of_ble_eq_true rfl)
  rw [lg_entry_eq]
  generalize (lg_sl ([.ref (a 18), .int p1, .int p2]) ++ List.replicate (7 - (lg_sl ([.ref (a 18), .int p1, .int p2])).length) Slot.unset).toArray = ls at hl ⊢
  have hl : lv_has ls 7 [(0, .ref (a 18)), (1, .int p1), (2, .int p2)] := hl
  unfold wp_M_ruleOf at hw
  have loop_13 : ∀ (k : Nat) (x1 x2 x3 x4 x5 : Int32) (n : ctN) (f : ctF) (H : Heap) (locs : List Loc) (ls : Array Slot), wp_M_ruleOf_L13 post k x1 x2 x3 x4 x5 n f → va_P (dC, dI) vcl (ctW a cA n f) H → va_S A s.heap H locs → lv_has ls 7 [(0, .ref (a 18)), (1, .int x1), (2, .int x2), (3, .int x3), (4, .int x4), (5, .int x5)] → W p l e (headSpec wsM_ruleOf ({ frames := 1, cells := 0, slots := 0, locals := 24 } : Room)).room s m (([.ref (a 18), .int p1, .int p2] : List Value).toArray) below meth c H locs 0 0 (MQ below (va_Qi (fun (r : Int32) (u : ctN × ctF) => post r u.1 u.2) (ct_B dC dI a cA) A) (([.ref (a 18), .int p1, .int p2] : List Value).toArray) s 0 0 A) (F0 m 13 ls []) := by
    intro k
    induction k with
    | zero => intro x1 x2 x3 x4 x5 n f H locs ls hw; exact hw.elim
    | succ k ih =>
      have join_88 : ∀ (x1 x2 x4 x5 x6 s0 : Int32) (n : ctN) (f : ctF) (H : Heap) (locs : List Loc) (ls : Array Slot), wp_M_ruleOf_J88 post (wp_M_ruleOf_L13 post k) x1 x2 x4 x5 x6 s0 n f → va_P (dC, dI) vcl (ctW a cA n f) H → va_S A s.heap H locs → lv_has ls 7 [(0, .ref (a 18)), (1, .int x1), (2, .int x2), (4, .int x4), (5, .int x5), (6, .int x6)] → W p l e (headSpec wsM_ruleOf ({ frames := 1, cells := 0, slots := 0, locals := 24 } : Room)).room s m (([.ref (a 18), .int p1, .int p2] : List Value).toArray) below meth c H locs 0 0 (MQ below (va_Qi (fun (r : Int32) (u : ctN × ctF) => post r u.1 u.2) (ct_B dC dI a cA) A) (([.ref (a 18), .int p1, .int p2] : List Value).toArray) s 0 0 A) (F0 m 88 ls [.int s0]) := by
        intro x1 x2 x4 x5 x6 s0 n f H locs ls hw hP hS hl
        unfold wp_M_ruleOf_J88 at hw
        refine lv_istore_n (lv' := [(3, .int s0), (0, .ref (a 18)), (1, .int x1), (2, .int x2), (4, .int x4), (5, .int x5), (6, .int x6)]) hx hb dM_ruleOf_88 rfl hl (by decide) rfl (fun ls hl => ?_)
        refine lv_iload hx hb dM_ruleOf_89 (lv_at hl 6 rfl) ?_
        refine lv_if_eq (tgt := 124) hx hb dM_ruleOf_91 (by decide) (fun c7 => ?_) (fun c7 => ?_)
        · have hw := hw.1 c7
          refine lv_iload hx hb dM_ruleOf_124 (lv_at hl 4 rfl) ?_
          refine lv_istore (lv' := [(4, .int x4), (3, .int s0), (0, .ref (a 18)), (1, .int x1), (2, .int x2), (5, .int x5), (6, .int x6)]) hx hb dM_ruleOf_126 hl (by decide) rfl (fun ls hl => ?_)
          obtain ⟨x5_8, ex5_8⟩ : ∃ y : Int32, y = x5 + (-1) := ⟨_, rfl⟩
          have hw := hw x5_8 ex5_8
          refine lv_iinc (v := x5_8) (lv' := [(5, .int x5_8), (4, .int x4), (3, .int s0), (0, .ref (a 18)), (1, .int x1), (2, .int x2), (6, .int x6)]) hx hb dM_ruleOf_128 hl (k := 5) rfl (by rw [ex5_8]; rfl) (by decide) rfl (fun ls hl => ?_)
          refine lv_goto (tgt := 13) hx hb dM_ruleOf_131 (by decide) ?_
          exact ih x1 x2 s0 x4 x5_8 n f _ _ ls hw hP hS (lv_sub hl [3, 4, 5, 2, 1, 0] rfl)
        · have hw := hw.2 c7
          refine lv_aload_n hx hb dM_ruleOf_94 rfl (lv_at hl 1 rfl) ?_
          refine va_get (D := (dC, dI)) (ci := 3) (v := .ref (a 22)) (C := RM) (T := TM) (N := 19) hx hb hts (fun w h => List.mem_cons_of_mem _ (inM w h)) hown hK hP 18 rfl rfl 6 (by decide) (hts (.fieldLink RM 19 "CoverTreesModel" "of" "[I") (List.mem_cons_of_mem _ wt_450)) (fun _ h9 => h9) rfl dM_ruleOf_95 ?_
          refine lv_iload hx hb dM_ruleOf_98 (lv_at hl 5 rfl) ?_
          obtain ⟨hi9, hw⟩ := hw
          refine va_iald hx hb hK hP 22 18 rfl rfl hi9 dM_ruleOf_100 ?_
          refine lv_if_ge (tgt := 124) hx hb dM_ruleOf_101 (by decide) (fun c10 => ?_) (fun c10 => ?_)
          · have hw := hw.1 c10
            refine lv_iload hx hb dM_ruleOf_124 (lv_at hl 4 rfl) ?_
            refine lv_istore (lv' := [(4, .int x4), (3, .int s0), (0, .ref (a 18)), (1, .int x1), (2, .int x2), (5, .int x5), (6, .int x6)]) hx hb dM_ruleOf_126 hl (by decide) rfl (fun ls hl => ?_)
            obtain ⟨x5_11, ex5_11⟩ : ∃ y : Int32, y = x5 + (-1) := ⟨_, rfl⟩
            have hw := hw x5_11 ex5_11
            refine lv_iinc (v := x5_11) (lv' := [(5, .int x5_11), (4, .int x4), (3, .int s0), (0, .ref (a 18)), (1, .int x1), (2, .int x2), (6, .int x6)]) hx hb dM_ruleOf_128 hl (k := 5) rfl (by rw [ex5_11]; rfl) (by decide) rfl (fun ls hl => ?_)
            refine lv_goto (tgt := 13) hx hb dM_ruleOf_131 (by decide) ?_
            exact ih x1 x2 s0 x4 x5_11 n f _ _ ls hw hP hS (lv_sub hl [3, 4, 5, 2, 1, 0] rfl)
          · have hw := hw.2 c10
            refine lv_aload_n hx hb dM_ruleOf_104 rfl (lv_at hl 1 rfl) ?_
            refine va_get (D := (dC, dI)) (ci := 3) (v := .ref (a 31)) (C := RM) (T := TM) (N := 19) hx hb hts (fun w h => List.mem_cons_of_mem _ (inM w h)) hown hK hP 18 rfl rfl 16 (by decide) (hts (.fieldLink RM 46 "CoverTreesModel" "settled" "[Z") (List.mem_cons_of_mem _ wt_460)) (fun _ h9 => h9) rfl dM_ruleOf_105 ?_
            refine lv_aload_n hx hb dM_ruleOf_108 rfl (lv_at hl 1 rfl) ?_
            refine va_get (D := (dC, dI)) (ci := 3) (v := .ref (a 23)) (C := RM) (T := TM) (N := 19) hx hb hts (fun w h => List.mem_cons_of_mem _ (inM w h)) hown hK hP 18 rfl rfl 7 (by decide) (hts (.fieldLink RM 22 "CoverTreesModel" "first" "[I") (List.mem_cons_of_mem _ wt_451)) (fun _ h9 => h9) rfl dM_ruleOf_109 ?_
            refine lv_iload hx hb dM_ruleOf_112 (lv_at hl 5 rfl) ?_
            obtain ⟨hi12, hw⟩ := hw
            refine va_iald hx hb hK hP 23 19 rfl rfl hi12 dM_ruleOf_114 ?_
            obtain ⟨hi13, hw⟩ := hw
            refine va_zald hx hb hK hP 31 27 rfl rfl hi13 dM_ruleOf_115 ?_
            refine lv_if_eq (tgt := 124) hx hb dM_ruleOf_116 (by decide) (fun c14 => ?_) (fun c14 => ?_)
            · have hw := hw.1 c14
              refine lv_iload hx hb dM_ruleOf_124 (lv_at hl 4 rfl) ?_
              refine lv_istore (lv' := [(4, .int x4), (3, .int s0), (0, .ref (a 18)), (1, .int x1), (2, .int x2), (5, .int x5), (6, .int x6)]) hx hb dM_ruleOf_126 hl (by decide) rfl (fun ls hl => ?_)
              obtain ⟨x5_15, ex5_15⟩ : ∃ y : Int32, y = x5 + (-1) := ⟨_, rfl⟩
              have hw := hw x5_15 ex5_15
              refine lv_iinc (v := x5_15) (lv' := [(5, .int x5_15), (4, .int x4), (3, .int s0), (0, .ref (a 18)), (1, .int x1), (2, .int x2), (6, .int x6)]) hx hb dM_ruleOf_128 hl (k := 5) rfl (by rw [ex5_15]; rfl) (by decide) rfl (fun ls hl => ?_)
              refine lv_goto (tgt := 13) hx hb dM_ruleOf_131 (by decide) ?_
              exact ih x1 x2 s0 x4 x5_15 n f _ _ ls hw hP hS (lv_sub hl [3, 4, 5, 2, 1, 0] rfl)
            · have hw := hw.2 c14
              refine lv_iload hx hb dM_ruleOf_119 (lv_at hl 5 rfl) ?_
              refine lv_goto (tgt := 126) hx hb dM_ruleOf_121 (by decide) ?_
              refine lv_istore (lv' := [(4, .int x5), (3, .int s0), (0, .ref (a 18)), (1, .int x1), (2, .int x2), (5, .int x5), (6, .int x6)]) hx hb dM_ruleOf_126 hl (by decide) rfl (fun ls hl => ?_)
              obtain ⟨x5_16, ex5_16⟩ : ∃ y : Int32, y = x5 + (-1) := ⟨_, rfl⟩
              have hw := hw x5_16 ex5_16
              refine lv_iinc (v := x5_16) (lv' := [(5, .int x5_16), (4, .int x5), (3, .int s0), (0, .ref (a 18)), (1, .int x1), (2, .int x2), (6, .int x6)]) hx hb dM_ruleOf_128 hl (k := 5) rfl (by rw [ex5_16]; rfl) (by decide) rfl (fun ls hl => ?_)
              refine lv_goto (tgt := 13) hx hb dM_ruleOf_131 (by decide) ?_
              exact ih x1 x2 s0 x5 x5_16 n f _ _ ls hw hP hS (lv_sub hl [3, 4, 5, 2, 1, 0] rfl)
      have join_87 : ∀ (x1 x2 x3 x4 x5 x6 : Int32) (n : ctN) (f : ctF) (H : Heap) (locs : List Loc) (ls : Array Slot), wp_M_ruleOf_J87 post (wp_M_ruleOf_L13 post k) x1 x2 x3 x4 x5 x6 n f → va_P (dC, dI) vcl (ctW a cA n f) H → va_S A s.heap H locs → lv_has ls 7 [(0, .ref (a 18)), (1, .int x1), (2, .int x2), (3, .int x3), (4, .int x4), (5, .int x5), (6, .int x6)] → W p l e (headSpec wsM_ruleOf ({ frames := 1, cells := 0, slots := 0, locals := 24 } : Room)).room s m (([.ref (a 18), .int p1, .int p2] : List Value).toArray) below meth c H locs 0 0 (MQ below (va_Qi (fun (r : Int32) (u : ctN × ctF) => post r u.1 u.2) (ct_B dC dI a cA) A) (([.ref (a 18), .int p1, .int p2] : List Value).toArray) s 0 0 A) (F0 m 87 ls []) := by
        intro x1 x2 x3 x4 x5 x6 n f H locs ls hw hP hS hl
        unfold wp_M_ruleOf_J87 at hw
        refine lv_iload_n hx hb dM_ruleOf_87 rfl (lv_at hl 3 rfl) ?_
        exact join_88 x1 x2 x4 x5 x6 x3 n f _ _ ls hw hP hS (lv_sub hl [0, 1, 2, 4, 5, 6] rfl)
      have join_65 : ∀ (x1 x2 x3 x4 x5 s0 : Int32) (n : ctN) (f : ctF) (H : Heap) (locs : List Loc) (ls : Array Slot), wp_M_ruleOf_J65 post (wp_M_ruleOf_L13 post k) x1 x2 x3 x4 x5 s0 n f → va_P (dC, dI) vcl (ctW a cA n f) H → va_S A s.heap H locs → lv_has ls 7 [(0, .ref (a 18)), (1, .int x1), (2, .int x2), (3, .int x3), (4, .int x4), (5, .int x5)] → W p l e (headSpec wsM_ruleOf ({ frames := 1, cells := 0, slots := 0, locals := 24 } : Room)).room s m (([.ref (a 18), .int p1, .int p2] : List Value).toArray) below meth c H locs 0 0 (MQ below (va_Qi (fun (r : Int32) (u : ctN × ctF) => post r u.1 u.2) (ct_B dC dI a cA) A) (([.ref (a 18), .int p1, .int p2] : List Value).toArray) s 0 0 A) (F0 m 65 ls [.int s0]) := by
        intro x1 x2 x3 x4 x5 s0 n f H locs ls hw hP hS hl
        unfold wp_M_ruleOf_J65 at hw
        refine lv_istore (lv' := [(6, .int s0), (0, .ref (a 18)), (1, .int x1), (2, .int x2), (3, .int x3), (4, .int x4), (5, .int x5)]) hx hb dM_ruleOf_65 hl (by decide) rfl (fun ls hl => ?_)
        refine lv_iload hx hb dM_ruleOf_67 (lv_at hl 0 rfl) ?_
        refine lv_if_eq (tgt := 87) hx hb dM_ruleOf_69 (by decide) (fun c6 => ?_) (fun c6 => ?_)
        · have hw := hw.1 c6
          exact join_87 x1 x2 x3 x4 x5 s0 n f _ _ ls hw hP hS (lv_sub hl [1, 2, 3, 4, 5, 6, 0] rfl)
        · have hw := hw.2 c6
          refine lv_aload_n hx hb dM_ruleOf_72 rfl (lv_at hl 1 rfl) ?_
          refine va_get (D := (dC, dI)) (ci := 3) (v := .ref (a 22)) (C := RM) (T := TM) (N := 19) hx hb hts (fun w h => List.mem_cons_of_mem _ (inM w h)) hown hK hP 18 rfl rfl 6 (by decide) (hts (.fieldLink RM 19 "CoverTreesModel" "of" "[I") (List.mem_cons_of_mem _ wt_450)) (fun _ h9 => h9) rfl dM_ruleOf_73 ?_
          refine lv_iload hx hb dM_ruleOf_76 (lv_at hl 6 rfl) ?_
          obtain ⟨hi17, hw⟩ := hw
          refine va_iald hx hb hK hP 22 18 rfl rfl hi17 dM_ruleOf_78 ?_
          refine lv_if_lt (tgt := 87) hx hb dM_ruleOf_79 (by decide) (fun c18 => ?_) (fun c18 => ?_)
          · have hw := hw.1 c18
            exact join_87 x1 x2 x3 x4 x5 s0 n f _ _ ls hw hP hS (lv_sub hl [1, 2, 3, 4, 5, 6, 0] rfl)
          · have hw := hw.2 c18
            refine lv_iload hx hb dM_ruleOf_82 (lv_at hl 6 rfl) ?_
            refine lv_goto (tgt := 88) hx hb dM_ruleOf_84 (by decide) ?_
            exact join_88 x1 x2 x4 x5 s0 x5 n f _ _ ls hw hP hS (lv_sub hl [1, 2, 3, 5, 6, 0] rfl)
      have join_64 : ∀ (x1 x2 x3 x4 x5 : Int32) (n : ctN) (f : ctF) (H : Heap) (locs : List Loc) (ls : Array Slot), wp_M_ruleOf_J64 post (wp_M_ruleOf_L13 post k) x1 x2 x3 x4 x5 n f → va_P (dC, dI) vcl (ctW a cA n f) H → va_S A s.heap H locs → lv_has ls 7 [(0, .ref (a 18)), (1, .int x1), (2, .int x2), (3, .int x3), (4, .int x4), (5, .int x5)] → W p l e (headSpec wsM_ruleOf ({ frames := 1, cells := 0, slots := 0, locals := 24 } : Room)).room s m (([.ref (a 18), .int p1, .int p2] : List Value).toArray) below meth c H locs 0 0 (MQ below (va_Qi (fun (r : Int32) (u : ctN × ctF) => post r u.1 u.2) (ct_B dC dI a cA) A) (([.ref (a 18), .int p1, .int p2] : List Value).toArray) s 0 0 A) (F0 m 64 ls []) := by
        intro x1 x2 x3 x4 x5 n f H locs ls hw hP hS hl
        unfold wp_M_ruleOf_J64 at hw
        refine lv_iconst (v := 0) hx hb dM_ruleOf_64 (by decide) ?_
        exact join_65 x1 x2 x3 x4 x5 0 n f _ _ ls hw hP hS (lv_sub hl [0, 1, 2, 3, 4, 5] rfl)
      intro x1 x2 x3 x4 x5 n f H locs ls hw hP hS hl
      rw [wp_M_ruleOf_L13] at hw
      refine lv_iload hx hb dM_ruleOf_13 (lv_at hl 5 rfl) ?_
      refine lv_if_lt (tgt := 134) hx hb dM_ruleOf_15 (by decide) (fun c2 => ?_) (fun c2 => ?_)
      · have hw := hw.1 c2
        refine lv_iload_n hx hb dM_ruleOf_134 rfl (lv_at hl 3 rfl) ?_
        refine lv_if_lt (tgt := 142) hx hb dM_ruleOf_135 (by decide) (fun c3 => ?_) (fun c3 => ?_)
        · have hw := hw.1 c3
          refine lv_iload hx hb dM_ruleOf_142 (lv_at hl 4 rfl) ?_
          exact W.iret (v := x4) hx hb hr (fun t ht hW => ⟨⟨x4, (n, f), rfl, hw, ct_mkB ht hP⟩, hS.F ht⟩) hS.2.2 dM_ruleOf_144
        · have hw := hw.2 c3
          refine lv_iload_n hx hb dM_ruleOf_138 rfl (lv_at hl 3 rfl) ?_
          refine lv_goto (tgt := 144) hx hb dM_ruleOf_139 (by decide) ?_
          exact W.iret (v := x3) hx hb hr (fun t ht hW => ⟨⟨x3, (n, f), rfl, hw, ct_mkB ht hP⟩, hS.F ht⟩) hS.2.2 dM_ruleOf_144
      · have hw := hw.2 c2
        refine lv_aload_n hx hb dM_ruleOf_18 rfl (lv_at hl 0 rfl) ?_
        refine va_get (D := (dC, dI)) (ci := 3) (v := .ref (a 20)) (C := RM) (T := TM) (N := 19) hx hb hts (fun w h => List.mem_cons_of_mem _ (inM w h)) hown hK hP 18 rfl rfl 4 (by decide) (hts (.fieldLink RM 13 "CoverTreesModel" "goals" "[I") (List.mem_cons_of_mem _ wt_448)) (fun _ h9 => h9) rfl dM_ruleOf_19 ?_
        refine lv_iload hx hb dM_ruleOf_22 (lv_at hl 5 rfl) ?_
        obtain ⟨hi4, hw⟩ := hw
        refine va_iald hx hb hK hP 20 16 rfl rfl hi4 dM_ruleOf_24 ?_
        refine lv_iload_n hx hb dM_ruleOf_25 rfl (lv_at hl 2 rfl) ?_
        refine lv_icmp_ne (tgt := 64) hx hb dM_ruleOf_26 (by decide) (fun c5 => ?_) (fun c5 => ?_)
        · have hw := hw.1 c5
          exact join_64 x1 x2 x3 x4 x5 n f _ _ ls hw hP hS (lv_sub hl [0, 1, 2, 3, 4, 5] rfl)
        · have hw := hw.2 c5
          refine lv_aload_n hx hb dM_ruleOf_29 rfl (lv_at hl 0 rfl) ?_
          refine lv_iload_n hx hb dM_ruleOf_30 rfl (lv_at hl 1 rfl) ?_
          refine lv_iload hx hb dM_ruleOf_31 (lv_at hl 5 rfl) ?_
          refine ct_i (va_runV (As := [.int x1, .int x5]) (rest := []) ⟨hx, hb, hml, hown, hts⟩ (met_M_costBy l dC dI a cA sa x1 x5 n f _ hw) (cwV 2 hts (wb_V wt_552 wt_554 wt_18 wt_30 wt_555) rfl rfl rfl (by decide +kernel) ⟨Nat.le_of_ble_eq_true rfl, Nat.le_of_ble_eq_true rfl⟩) (ct_preV hK hP (hDa _ _) hZ hS hA (va_recv hK hP (ci := 3) (q0 := 18) rfl rfl)) rfl rfl hl.1 rfl (lv_room (Nat.le_of_ble_eq_true rfl)) dM_ruleOf_33 ⟨Nat.le_of_ble_eq_true rfl, Nat.le_of_ble_eq_true rfl⟩) (hDa _ _) hS hA (fun r19 n_20 f_21 H locs hw hP hS => ?_)
          refine lv_if_lt (tgt := 64) hx hb dM_ruleOf_36 (by decide) (fun c22 => ?_) (fun c22 => ?_)
          · have hw := hw.1 c22
            exact join_64 x1 x2 x3 x4 x5 n_20 f_21 _ _ ls hw hP hS (lv_sub hl [0, 1, 2, 3, 4, 5] rfl)
          · have hw := hw.2 c22
            refine lv_aload_n hx hb dM_ruleOf_39 rfl (lv_at hl 0 rfl) ?_
            refine lv_iload_n hx hb dM_ruleOf_40 rfl (lv_at hl 1 rfl) ?_
            refine lv_iload hx hb dM_ruleOf_41 (lv_at hl 5 rfl) ?_
            refine ct_i (va_runV (As := [.int x1, .int x5]) (rest := []) ⟨hx, hb, hml, hown, hts⟩ (met_M_costBy l dC dI a cA sa x1 x5 n_20 f_21 _ hw) (cwV 2 hts (wb_V wt_552 wt_554 wt_18 wt_30 wt_555) rfl rfl rfl (by decide +kernel) ⟨Nat.le_of_ble_eq_true rfl, Nat.le_of_ble_eq_true rfl⟩) (ct_preV hK hP (hDa _ _) hZ hS hA (va_recv hK hP (ci := 3) (q0 := 18) rfl rfl)) rfl rfl hl.1 rfl (lv_room (Nat.le_of_ble_eq_true rfl)) dM_ruleOf_43 ⟨Nat.le_of_ble_eq_true rfl, Nat.le_of_ble_eq_true rfl⟩) (hDa _ _) hS hA (fun r23 n_24 f_25 H locs hw hP hS => ?_)
            refine lv_aload_n hx hb dM_ruleOf_46 rfl (lv_at hl 0 rfl) ?_
            refine va_get (D := (dC, dI)) (ci := 3) (v := .ref (a 28)) (C := RM) (T := TM) (N := 19) hx hb hts (fun w h => List.mem_cons_of_mem _ (inM w h)) hown hK hP 18 rfl rfl 13 (by decide) (hts (.fieldLink RM 37 "CoverTreesModel" "costs" "[I") (List.mem_cons_of_mem _ wt_457)) (fun _ h9 => h9) rfl dM_ruleOf_47 ?_
            refine lv_bipush (v := 8) hx hb dM_ruleOf_50 (by decide) ?_
            refine lv_iload_n hx hb dM_ruleOf_52 rfl (lv_at hl 1 rfl) ?_
            refine lv_imul hx hb dM_ruleOf_53 ?_
            refine lv_iload_n hx hb dM_ruleOf_54 rfl (lv_at hl 2 rfl) ?_
            refine lv_iadd hx hb dM_ruleOf_55 ?_
            obtain ⟨hi26, hw⟩ := hw
            refine va_iald hx hb hK hP 28 24 rfl rfl hi26 dM_ruleOf_56 ?_
            refine lv_icmp_ne (tgt := 64) hx hb dM_ruleOf_57 (by decide) (fun c27 => ?_) (fun c27 => ?_)
            · have hw := hw.1 c27
              exact join_64 x1 x2 x3 x4 x5 n_24 f_25 _ _ ls hw hP hS (lv_sub hl [0, 1, 2, 3, 4, 5] rfl)
            · have hw := hw.2 c27
              refine lv_iconst (v := 1) hx hb dM_ruleOf_60 (by decide) ?_
              refine lv_goto (tgt := 65) hx hb dM_ruleOf_61 (by decide) ?_
              exact join_65 x1 x2 x3 x4 x5 1 n_24 f_25 _ _ ls hw hP hS (lv_sub hl [0, 1, 2, 3, 4, 5] rfl)
  refine lv_iconst (v := (-1)) hx hb dM_ruleOf_0 (by decide) ?_
  refine lv_istore_n (lv' := [(3, .int (-1)), (0, .ref (a 18)), (1, .int p1), (2, .int p2)]) hx hb dM_ruleOf_1 rfl hl (by decide) rfl (fun ls hl => ?_)
  refine lv_iconst (v := (-1)) hx hb dM_ruleOf_2 (by decide) ?_
  refine lv_istore (lv' := [(4, .int (-1)), (3, .int (-1)), (0, .ref (a 18)), (1, .int p1), (2, .int p2)]) hx hb dM_ruleOf_3 hl (by decide) rfl (fun ls hl => ?_)
  refine lv_aload_n hx hb dM_ruleOf_5 rfl (lv_at hl 2 rfl) ?_
  refine va_get (D := (dC, dI)) (ci := 3) (v := .int (n 5)) (C := RM) (T := TM) (N := 19) hx hb hts (fun w h => List.mem_cons_of_mem _ (inM w h)) hown hK hP 18 rfl rfl 3 (by decide) (hts (.fieldLink RM 57 "CoverTreesModel" "rules" "I") (List.mem_cons_of_mem _ wt_447)) (fun _ h9 => h9) rfl dM_ruleOf_6 ?_
  refine lv_iconst (v := 1) hx hb dM_ruleOf_9 (by decide) ?_
  refine lv_isub hx hb dM_ruleOf_10 ?_
  refine lv_topi (fun x5_1 ex5_1 => ?_)
  have hw := hw x5_1 ex5_1
  refine lv_istore (lv' := [(5, .int x5_1), (4, .int (-1)), (3, .int (-1)), (0, .ref (a 18)), (1, .int p1), (2, .int p2)]) hx hb dM_ruleOf_11 hl (by decide) rfl (fun ls hl => ?_)
  obtain ⟨j, hw⟩ := hw
  exact loop_13 j p1 p2 (-1) (-1) x5_1 n f _ _ ls hw hP hS (lv_sub hl [3, 4, 5, 2, 1, 0] rfl)
def wp_M_settle_J50 (post : Int32 → ctN → ctF → Prop) (K7 : Int32 → Int32 → Int32 → Int32 → ctN → ctF → Prop) (x1 : Int32) (x2 : Int32) (x3 : Int32) (x4 : Int32) (s0 : Int32) (n : ctN) (f : ctF) : Prop := (s0 < 0 → (∀ x4_33 : Int32, x4_33 = x4 + 1 → (K7 x1 x2 x3 x4_33 n f))) ∧ (¬ s0 < 0 → ((x2 < 0 → (∀ x4_35 : Int32, x4_35 = x4 + 1 → (K7 x1 x4 s0 x4_35 n f))) ∧ (¬ x2 < 0 → (vp_in ((8 * x1) + x4) 960 ∧ (vp_in ((8 * x1) + x2) 960 ∧ (((f 28 ((8 * x1) + x2).toNatClampNeg) ≤ (f 28 ((8 * x1) + x4).toNatClampNeg) → (∀ x4_39 : Int32, x4_39 = x4 + 1 → (K7 x1 x2 x3 x4_39 n f))) ∧ (¬ (f 28 ((8 * x1) + x2).toNatClampNeg) ≤ (f 28 ((8 * x1) + x4).toNatClampNeg) → (∀ x4_40 : Int32, x4_40 = x4 + 1 → (K7 x1 x4 s0 x4_40 n f)))))))))
def wp_M_settle_J39 (post : Int32 → ctN → ctF → Prop) (K7 : Int32 → Int32 → Int32 → Int32 → ctN → ctF → Prop) (x1 : Int32) (x2 : Int32) (x3 : Int32) (x4 : Int32) (n : ctN) (f : ctF) : Prop := wp_M_settle_J50 post K7 x1 x2 x3 x4 (-1) n f
def wp_M_settle_J246 (post : Int32 → ctN → ctF → Prop) (x1 : Int32) (x2 : Int32) (x4 : Int32) (n : ctN) (f : ctF) : Prop := (x4 ≤ 2000 → (vp_in ((8 * x1) + x2) 960 ∧ (∀ f_14 : ctF, f_14 = va_up f 30 (upd (f 30) ((8 * x1) + x2).toNatClampNeg x4) → (post 1 n f_14)))) ∧ (¬ x4 ≤ 2000 → (vp_in ((8 * x1) + x2) 960 ∧ (∀ f_16 : ctF, f_16 = va_up f 30 (upd (f 30) ((8 * x1) + x2).toNatClampNeg 2001) → (post 1 n f_16))))
def wp_M_settle_J244 (post : Int32 → ctN → ctF → Prop) (x1 : Int32) (x2 : Int32) (s0 : Int32) (n : ctN) (f : ctF) : Prop := wp_M_settle_J246 post x1 x2 s0 n f
def wp_M_settle_L7 (post : Int32 → ctN → ctF → Prop) : Nat → Int32 → Int32 → Int32 → Int32 → ctN → ctF → Prop
  | 0, _, _, _, _, _, _ => False
  | k + 1, x1, x2, x3, x4, n, f => (8 ≤ x4 → ((0 ≤ x2 → (vp_in x2 8 ∧ (∀ f_4 : ctF, f_4 = va_up f 31 (upd (f 31) x2.toNatClampNeg (vp_nar .boolean 1)) → (vp_in ((8 * x1) + x2) 960 ∧ (∀ f_6 : ctF, f_6 = va_up f_4 29 (upd (f_4 29) ((8 * x1) + x2).toNatClampNeg x3) → (vp_in x3 40 ∧ ((0 ≤ (f_6 22 x3.toNatClampNeg) → (vp_in x3 40 ∧ (vp_in (f_6 22 x3.toNatClampNeg) 10 ∧ (((f_6 19 (f_6 22 x3.toNatClampNeg).toNatClampNeg) ≤ 0 → (wp_M_settle_J246 post x1 x2 1 n f_6)) ∧ (¬ (f_6 19 (f_6 22 x3.toNatClampNeg).toNatClampNeg) ≤ 0 → (vp_in x1 120 ∧ (vp_in x3 40 ∧ (vp_in ((8 * (f_6 26 x1.toNatClampNeg)) + (f_6 23 x3.toNatClampNeg)) 960 ∧ (∀ x4_20 : Int32, x4_20 = (1 + (f_6 30 ((8 * (f_6 26 x1.toNatClampNeg)) + (f_6 23 x3.toNatClampNeg)).toNatClampNeg)) → (vp_in x3 40 ∧ (vp_in (f_6 22 x3.toNatClampNeg) 10 ∧ (((f_6 19 (f_6 22 x3.toNatClampNeg).toNatClampNeg) ≤ 1 → (wp_M_settle_J244 post x1 x2 x4_20 n f_6)) ∧ (¬ (f_6 19 (f_6 22 x3.toNatClampNeg).toNatClampNeg) ≤ 1 → (vp_in x1 120 ∧ (vp_in x3 40 ∧ (vp_in ((8 * (f_6 27 x1.toNatClampNeg)) + (f_6 24 x3.toNatClampNeg)) 960 ∧ (wp_M_settle_J244 post x1 x2 (x4_20 + (f_6 30 ((8 * (f_6 27 x1.toNatClampNeg)) + (f_6 24 x3.toNatClampNeg)).toNatClampNeg)) n f_6))))))))))))))))) ∧ (¬ 0 ≤ (f_6 22 x3.toNatClampNeg) → (vp_in x3 40 ∧ (vp_in ((8 * x1) + (f_6 23 x3.toNatClampNeg)) 960 ∧ (∀ x4_29 : Int32, x4_29 = (1 + (f_6 30 ((8 * x1) + (f_6 23 x3.toNatClampNeg)).toNatClampNeg)) → (wp_M_settle_J246 post x1 x2 x4_29 n f_6)))))))))))) ∧ (¬ 0 ≤ x2 → (post 0 n f)))) ∧ (¬ 8 ≤ x4 → (vp_in ((8 * x1) + x4) 960 ∧ (((f 28 ((8 * x1) + x4).toNatClampNeg) < 0 → (wp_M_settle_J39 post (wp_M_settle_L7 post k) x1 x2 x3 x4 n f)) ∧ (¬ (f 28 ((8 * x1) + x4).toNatClampNeg) < 0 → (vp_in x4 8 ∧ (((f 31 x4.toNatClampNeg) = 0 → (wp_M_ruleOf (fun (r43 : Int32) (n_44 : ctN) (f_45 : ctF) => wp_M_settle_J50 post (wp_M_settle_L7 post k) x1 x2 x3 x4 r43 n_44 f_45) x1 x4 n f)) ∧ (¬ (f 31 x4.toNatClampNeg) = 0 → (wp_M_settle_J39 post (wp_M_settle_L7 post k) x1 x2 x3 x4 n f))))))))
def wp_M_settle (post : Int32 → ctN → ctF → Prop) (p1 : Int32) (n : ctN) (f : ctF) : Prop := ∃ j, wp_M_settle_L7 post j p1 (-1) (-1) 0 n f
set_option maxHeartbeats 4000000 in
set_option maxRecDepth 100000 in
theorem met_M_settle (l : Launch) (dC : Nat → ClassId) (dI : Nat → Nat → Nat) (a : Nat → Nat) (cA : Nat → ClassId) (sa : Nat → Nat) (p1 : Int32) (n : ctN) (f : ctF) (sz : Nat) {post : Int32 → ctN → ctF → Prop} (hw : wp_M_settle post p1 n f) : Met l yM_settle wsM_settle ({ frames := 2, cells := 0, slots := 0, locals := 50 } : Room) (ct_Pc dC dI a cA sa [.ref (a 18), .int p1] n f sz) (va_Qi (fun (r : Int32) (u : ctN × ctF) => post r u.1 u.2) (ct_B dC dI a cA) (va_A (ctW a cA n f) sz)) 0 0 (va_A (ctW a cA n f) sz) := by
  refine Met.ofW (cc := cM_settle) (maxL := 6) (ret := (some .boolean)) (by decide) rfl ?_
  intro p e s m args below meth c s₁ B hml hv
  obtain ⟨rfl, hsz, hP, hK, hD0, hZ⟩ := hv
  have hx := B.exec
  have hb := B.bytes
  have hr := B.returns
  have hts := atoms_spec (ws := wsM_settle) B.pre
  have hown : s.vm.findClass RM = some m.cls := findClass_of_methodNamed B.named
  have hlocks := B.notSynchronized
  subst hsz
  have hD := hD0.self (sz := s.heap.size)
  generalize hAe : va_A (ctW a cA n f) s.heap.size = A at hD hZ ⊢
  have hDa : ∀ (n : ctN) (f : ctF), va_D A (ctW a cA n f) := fun _ _ => ct_D hD
  have hA : ∀ q : Nat, s.heap.size ≤ q → A q := fun q h => by rw [← hAe]; exact Or.inr h
  have hS : va_S A s.heap s.heap [] := va_S.rf
  have hl := lv_entry ([.ref (a 18), .int p1]) (n := 6) (Nat.le_of_ble_eq_true rfl)
  rw [lg_entry_eq]
  generalize (lg_sl ([.ref (a 18), .int p1]) ++ List.replicate (6 - (lg_sl ([.ref (a 18), .int p1])).length) Slot.unset).toArray = ls at hl ⊢
  have hl : lv_has ls 6 [(0, .ref (a 18)), (1, .int p1)] := hl
  unfold wp_M_settle at hw
  have loop_7 : ∀ (k : Nat) (x1 x2 x3 x4 : Int32) (n : ctN) (f : ctF) (H : Heap) (locs : List Loc) (ls : Array Slot), wp_M_settle_L7 post k x1 x2 x3 x4 n f → va_P (dC, dI) vcl (ctW a cA n f) H → va_S A s.heap H locs → lv_has ls 6 [(0, .ref (a 18)), (1, .int x1), (2, .int x2), (3, .int x3), (4, .int x4)] → W p l e (headSpec wsM_settle ({ frames := 2, cells := 0, slots := 0, locals := 50 } : Room)).room s m (([.ref (a 18), .int p1] : List Value).toArray) below meth c H locs 0 0 (MQ below (va_Qi (fun (r : Int32) (u : ctN × ctF) => post r u.1 u.2) (ct_B dC dI a cA) A) (([.ref (a 18), .int p1] : List Value).toArray) s 0 0 A) (F0 m 7 ls []) := by
    intro k
    induction k with
    | zero => intro x1 x2 x3 x4 n f H locs ls hw; exact hw.elim
    | succ k ih =>
      have join_50 : ∀ (x1 x2 x3 x4 s0 : Int32) (n : ctN) (f : ctF) (H : Heap) (locs : List Loc) (ls : Array Slot), wp_M_settle_J50 post (wp_M_settle_L7 post k) x1 x2 x3 x4 s0 n f → va_P (dC, dI) vcl (ctW a cA n f) H → va_S A s.heap H locs → lv_has ls 6 [(0, .ref (a 18)), (1, .int x1), (2, .int x2), (3, .int x3), (4, .int x4)] → W p l e (headSpec wsM_settle ({ frames := 2, cells := 0, slots := 0, locals := 50 } : Room)).room s m (([.ref (a 18), .int p1] : List Value).toArray) below meth c H locs 0 0 (MQ below (va_Qi (fun (r : Int32) (u : ctN × ctF) => post r u.1 u.2) (ct_B dC dI a cA) A) (([.ref (a 18), .int p1] : List Value).toArray) s 0 0 A) (F0 m 50 ls [.int s0]) := by
        intro x1 x2 x3 x4 s0 n f H locs ls hw hP hS hl
        unfold wp_M_settle_J50 at hw
        refine lv_istore (lv' := [(5, .int s0), (0, .ref (a 18)), (1, .int x1), (2, .int x2), (3, .int x3), (4, .int x4)]) hx hb dM_settle_50 hl (by decide) rfl (fun ls hl => ?_)
        refine lv_iload hx hb dM_settle_52 (lv_at hl 0 rfl) ?_
        refine lv_if_lt (tgt := 93) hx hb dM_settle_54 (by decide) (fun c32 => ?_) (fun c32 => ?_)
        · have hw := hw.1 c32
          obtain ⟨x4_33, ex4_33⟩ : ∃ y : Int32, y = x4 + 1 := ⟨_, rfl⟩
          have hw := hw x4_33 ex4_33
          refine lv_iinc (v := x4_33) (lv' := [(4, .int x4_33), (5, .int s0), (0, .ref (a 18)), (1, .int x1), (2, .int x2), (3, .int x3)]) hx hb dM_settle_93 hl (k := 5) rfl (by rw [ex4_33]; rfl) (by decide) rfl (fun ls hl => ?_)
          refine lv_goto (tgt := 7) hx hb dM_settle_96 (by decide) ?_
          exact ih x1 x2 x3 x4_33 n f _ _ ls hw hP hS (lv_sub hl [2, 3, 4, 5, 0] rfl)
        · have hw := hw.2 c32
          refine lv_iload_n hx hb dM_settle_57 rfl (lv_at hl 3 rfl) ?_
          refine lv_if_lt (tgt := 87) hx hb dM_settle_58 (by decide) (fun c34 => ?_) (fun c34 => ?_)
          · have hw := hw.1 c34
            refine lv_iload hx hb dM_settle_87 (lv_at hl 5 rfl) ?_
            refine lv_istore_n (lv' := [(2, .int x4), (5, .int s0), (0, .ref (a 18)), (1, .int x1), (3, .int x3), (4, .int x4)]) hx hb dM_settle_89 rfl hl (by decide) rfl (fun ls hl => ?_)
            refine lv_iload hx hb dM_settle_90 (lv_at hl 1 rfl) ?_
            refine lv_istore_n (lv' := [(3, .int s0), (2, .int x4), (5, .int s0), (0, .ref (a 18)), (1, .int x1), (4, .int x4)]) hx hb dM_settle_92 rfl hl (by decide) rfl (fun ls hl => ?_)
            obtain ⟨x4_35, ex4_35⟩ : ∃ y : Int32, y = x4 + 1 := ⟨_, rfl⟩
            have hw := hw x4_35 ex4_35
            refine lv_iinc (v := x4_35) (lv' := [(4, .int x4_35), (3, .int s0), (2, .int x4), (5, .int s0), (0, .ref (a 18)), (1, .int x1)]) hx hb dM_settle_93 hl (k := 5) rfl (by rw [ex4_35]; rfl) (by decide) rfl (fun ls hl => ?_)
            refine lv_goto (tgt := 7) hx hb dM_settle_96 (by decide) ?_
            exact ih x1 x4 s0 x4_35 n f _ _ ls hw hP hS (lv_sub hl [4, 5, 2, 1, 0] rfl)
          · have hw := hw.2 c34
            refine lv_aload_n hx hb dM_settle_61 rfl (lv_at hl 1 rfl) ?_
            refine va_get (D := (dC, dI)) (ci := 3) (v := .ref (a 28)) (C := RM) (T := TM) (N := 19) hx hb hts (fun w h => List.mem_cons_of_mem _ (inM w h)) hown hK hP 18 rfl rfl 13 (by decide) (hts (.fieldLink RM 37 "CoverTreesModel" "costs" "[I") (List.mem_cons_of_mem _ wt_457)) (fun _ h9 => h9) rfl dM_settle_62 ?_
            refine lv_bipush (v := 8) hx hb dM_settle_65 (by decide) ?_
            refine lv_iload_n hx hb dM_settle_67 rfl (lv_at hl 2 rfl) ?_
            refine lv_imul hx hb dM_settle_68 ?_
            refine lv_iload hx hb dM_settle_69 (lv_at hl 5 rfl) ?_
            refine lv_iadd hx hb dM_settle_71 ?_
            obtain ⟨hi36, hw⟩ := hw
            refine va_iald hx hb hK hP 28 24 rfl rfl hi36 dM_settle_72 ?_
            refine lv_aload_n hx hb dM_settle_73 rfl (lv_at hl 1 rfl) ?_
            refine va_get (D := (dC, dI)) (ci := 3) (v := .ref (a 28)) (C := RM) (T := TM) (N := 19) hx hb hts (fun w h => List.mem_cons_of_mem _ (inM w h)) hown hK hP 18 rfl rfl 13 (by decide) (hts (.fieldLink RM 37 "CoverTreesModel" "costs" "[I") (List.mem_cons_of_mem _ wt_457)) (fun _ h9 => h9) rfl dM_settle_74 ?_
            refine lv_bipush (v := 8) hx hb dM_settle_77 (by decide) ?_
            refine lv_iload_n hx hb dM_settle_79 rfl (lv_at hl 2 rfl) ?_
            refine lv_imul hx hb dM_settle_80 ?_
            refine lv_iload_n hx hb dM_settle_81 rfl (lv_at hl 3 rfl) ?_
            refine lv_iadd hx hb dM_settle_82 ?_
            obtain ⟨hi37, hw⟩ := hw
            refine va_iald hx hb hK hP 28 24 rfl rfl hi37 dM_settle_83 ?_
            refine lv_icmp_ge (tgt := 93) hx hb dM_settle_84 (by decide) (fun c38 => ?_) (fun c38 => ?_)
            · have hw := hw.1 c38
              obtain ⟨x4_39, ex4_39⟩ : ∃ y : Int32, y = x4 + 1 := ⟨_, rfl⟩
              have hw := hw x4_39 ex4_39
              refine lv_iinc (v := x4_39) (lv' := [(4, .int x4_39), (5, .int s0), (0, .ref (a 18)), (1, .int x1), (2, .int x2), (3, .int x3)]) hx hb dM_settle_93 hl (k := 5) rfl (by rw [ex4_39]; rfl) (by decide) rfl (fun ls hl => ?_)
              refine lv_goto (tgt := 7) hx hb dM_settle_96 (by decide) ?_
              exact ih x1 x2 x3 x4_39 n f _ _ ls hw hP hS (lv_sub hl [2, 3, 4, 5, 0] rfl)
            · have hw := hw.2 c38
              refine lv_iload hx hb dM_settle_87 (lv_at hl 5 rfl) ?_
              refine lv_istore_n (lv' := [(2, .int x4), (5, .int s0), (0, .ref (a 18)), (1, .int x1), (3, .int x3), (4, .int x4)]) hx hb dM_settle_89 rfl hl (by decide) rfl (fun ls hl => ?_)
              refine lv_iload hx hb dM_settle_90 (lv_at hl 1 rfl) ?_
              refine lv_istore_n (lv' := [(3, .int s0), (2, .int x4), (5, .int s0), (0, .ref (a 18)), (1, .int x1), (4, .int x4)]) hx hb dM_settle_92 rfl hl (by decide) rfl (fun ls hl => ?_)
              obtain ⟨x4_40, ex4_40⟩ : ∃ y : Int32, y = x4 + 1 := ⟨_, rfl⟩
              have hw := hw x4_40 ex4_40
              refine lv_iinc (v := x4_40) (lv' := [(4, .int x4_40), (3, .int s0), (2, .int x4), (5, .int s0), (0, .ref (a 18)), (1, .int x1)]) hx hb dM_settle_93 hl (k := 5) rfl (by rw [ex4_40]; rfl) (by decide) rfl (fun ls hl => ?_)
              refine lv_goto (tgt := 7) hx hb dM_settle_96 (by decide) ?_
              exact ih x1 x4 s0 x4_40 n f _ _ ls hw hP hS (lv_sub hl [4, 5, 2, 1, 0] rfl)
      have join_39 : ∀ (x1 x2 x3 x4 : Int32) (n : ctN) (f : ctF) (H : Heap) (locs : List Loc) (ls : Array Slot), wp_M_settle_J39 post (wp_M_settle_L7 post k) x1 x2 x3 x4 n f → va_P (dC, dI) vcl (ctW a cA n f) H → va_S A s.heap H locs → lv_has ls 6 [(0, .ref (a 18)), (1, .int x1), (2, .int x2), (3, .int x3), (4, .int x4)] → W p l e (headSpec wsM_settle ({ frames := 2, cells := 0, slots := 0, locals := 50 } : Room)).room s m (([.ref (a 18), .int p1] : List Value).toArray) below meth c H locs 0 0 (MQ below (va_Qi (fun (r : Int32) (u : ctN × ctF) => post r u.1 u.2) (ct_B dC dI a cA) A) (([.ref (a 18), .int p1] : List Value).toArray) s 0 0 A) (F0 m 39 ls []) := by
        intro x1 x2 x3 x4 n f H locs ls hw hP hS hl
        unfold wp_M_settle_J39 at hw
        refine lv_iconst (v := (-1)) hx hb dM_settle_39 (by decide) ?_
        refine lv_goto (tgt := 50) hx hb dM_settle_40 (by decide) ?_
        exact join_50 x1 x2 x3 x4 (-1) n f _ _ ls hw hP hS (lv_sub hl [0, 1, 2, 3, 4] rfl)
      have join_246 : ∀ (x1 x2 x4 : Int32) (n : ctN) (f : ctF) (H : Heap) (locs : List Loc) (ls : Array Slot), wp_M_settle_J246 post x1 x2 x4 n f → va_P (dC, dI) vcl (ctW a cA n f) H → va_S A s.heap H locs → lv_has ls 6 [(0, .ref (a 18)), (1, .int x1), (2, .int x2), (4, .int x4)] → W p l e (headSpec wsM_settle ({ frames := 2, cells := 0, slots := 0, locals := 50 } : Room)).room s m (([.ref (a 18), .int p1] : List Value).toArray) below meth c H locs 0 0 (MQ below (va_Qi (fun (r : Int32) (u : ctN × ctF) => post r u.1 u.2) (ct_B dC dI a cA) A) (([.ref (a 18), .int p1] : List Value).toArray) s 0 0 A) (F0 m 246 ls []) := by
        intro x1 x2 x4 n f H locs ls hw hP hS hl
        unfold wp_M_settle_J246 at hw
        refine lv_aload_n hx hb dM_settle_246 rfl (lv_at hl 0 rfl) ?_
        refine va_get (D := (dC, dI)) (ci := 3) (v := .ref (a 30)) (C := RM) (T := TM) (N := 19) hx hb hts (fun w h => List.mem_cons_of_mem _ (inM w h)) hown hK hP 18 rfl rfl 15 (by decide) (hts (.fieldLink RM 43 "CoverTreesModel" "sizes" "[I") (List.mem_cons_of_mem _ wt_459)) (fun _ h9 => h9) rfl dM_settle_247 ?_
        refine lv_bipush (v := 8) hx hb dM_settle_250 (by decide) ?_
        refine lv_iload_n hx hb dM_settle_252 rfl (lv_at hl 1 rfl) ?_
        refine lv_imul hx hb dM_settle_253 ?_
        refine lv_iload_n hx hb dM_settle_254 rfl (lv_at hl 2 rfl) ?_
        refine lv_iadd hx hb dM_settle_255 ?_
        refine lv_iload hx hb dM_settle_256 (lv_at hl 3 rfl) ?_
        refine lv_sipush (v := 2000) hx hb dM_settle_258 (by decide) ?_
        refine lv_icmp_le (tgt := 270) hx hb dM_settle_261 (by decide) (fun c12 => ?_) (fun c12 => ?_)
        · have hw := hw.1 c12
          refine lv_iload hx hb dM_settle_270 (lv_at hl 3 rfl) ?_
          obtain ⟨hi13, hw⟩ := hw
          refine va_iast hx hb hK hP (hDa _ _) hS 30 26 rfl rfl hi13 dM_settle_272 (fun H locs hP _ hS => ?_)
          obtain ⟨f_14, ef_14⟩ : ∃ z : ctF, z = va_up f 30 (upd (f 30) ((8 * x1) + x2).toNatClampNeg x4) := ⟨_, rfl⟩
          have hw := hw f_14 ef_14
          have hP : va_P (dC, dI) vcl (ctW a cA n f_14) H := by rw [ef_14]; exact hP
          refine lv_iconst (v := 1) hx hb dM_settle_273 (by decide) ?_
          exact W.zret (v := 1) hx hb hr rfl (fun t ht hW => ⟨⟨1, (n, f_14), rfl, hw, ct_mkB ht hP⟩, hS.F ht⟩) hS.2.2 dM_settle_274
        · have hw := hw.2 c12
          refine lv_sipush (v := 2001) hx hb dM_settle_264 (by decide) ?_
          refine lv_goto (tgt := 272) hx hb dM_settle_267 (by decide) ?_
          obtain ⟨hi15, hw⟩ := hw
          refine va_iast hx hb hK hP (hDa _ _) hS 30 26 rfl rfl hi15 dM_settle_272 (fun H locs hP _ hS => ?_)
          obtain ⟨f_16, ef_16⟩ : ∃ z : ctF, z = va_up f 30 (upd (f 30) ((8 * x1) + x2).toNatClampNeg 2001) := ⟨_, rfl⟩
          have hw := hw f_16 ef_16
          have hP : va_P (dC, dI) vcl (ctW a cA n f_16) H := by rw [ef_16]; exact hP
          refine lv_iconst (v := 1) hx hb dM_settle_273 (by decide) ?_
          exact W.zret (v := 1) hx hb hr rfl (fun t ht hW => ⟨⟨1, (n, f_16), rfl, hw, ct_mkB ht hP⟩, hS.F ht⟩) hS.2.2 dM_settle_274
      have join_244 : ∀ (x1 x2 s0 : Int32) (n : ctN) (f : ctF) (H : Heap) (locs : List Loc) (ls : Array Slot), wp_M_settle_J244 post x1 x2 s0 n f → va_P (dC, dI) vcl (ctW a cA n f) H → va_S A s.heap H locs → lv_has ls 6 [(0, .ref (a 18)), (1, .int x1), (2, .int x2)] → W p l e (headSpec wsM_settle ({ frames := 2, cells := 0, slots := 0, locals := 50 } : Room)).room s m (([.ref (a 18), .int p1] : List Value).toArray) below meth c H locs 0 0 (MQ below (va_Qi (fun (r : Int32) (u : ctN × ctF) => post r u.1 u.2) (ct_B dC dI a cA) A) (([.ref (a 18), .int p1] : List Value).toArray) s 0 0 A) (F0 m 244 ls [.int s0]) := by
        intro x1 x2 s0 n f H locs ls hw hP hS hl
        unfold wp_M_settle_J244 at hw
        refine lv_istore (lv' := [(4, .int s0), (0, .ref (a 18)), (1, .int x1), (2, .int x2)]) hx hb dM_settle_244 hl (by decide) rfl (fun ls hl => ?_)
        exact join_246 x1 x2 s0 n f _ _ ls hw hP hS (lv_sub hl [1, 2, 3, 0] rfl)
      intro x1 x2 x3 x4 n f H locs ls hw hP hS hl
      rw [wp_M_settle_L7] at hw
      refine lv_iload hx hb dM_settle_7 (lv_at hl 4 rfl) ?_
      refine lv_bipush (v := 8) hx hb dM_settle_9 (by decide) ?_
      refine lv_icmp_ge (tgt := 99) hx hb dM_settle_11 (by decide) (fun c1 => ?_) (fun c1 => ?_)
      · have hw := hw.1 c1
        refine lv_iload_n hx hb dM_settle_99 rfl (lv_at hl 2 rfl) ?_
        refine lv_if_ge (tgt := 105) hx hb dM_settle_100 (by decide) (fun c2 => ?_) (fun c2 => ?_)
        · have hw := hw.1 c2
          refine lv_aload_n hx hb dM_settle_105 rfl (lv_at hl 0 rfl) ?_
          refine va_get (D := (dC, dI)) (ci := 3) (v := .ref (a 31)) (C := RM) (T := TM) (N := 19) hx hb hts (fun w h => List.mem_cons_of_mem _ (inM w h)) hown hK hP 18 rfl rfl 16 (by decide) (hts (.fieldLink RM 46 "CoverTreesModel" "settled" "[Z") (List.mem_cons_of_mem _ wt_460)) (fun _ h9 => h9) rfl dM_settle_106 ?_
          refine lv_iload_n hx hb dM_settle_109 rfl (lv_at hl 2 rfl) ?_
          refine lv_iconst (v := 1) hx hb dM_settle_110 (by decide) ?_
          obtain ⟨hi3, hw⟩ := hw
          refine va_zast hx hb hK hP (hDa _ _) hS 31 27 rfl rfl hi3 dM_settle_111 (fun H locs hP _ hS => ?_)
          obtain ⟨f_4, ef_4⟩ : ∃ z : ctF, z = va_up f 31 (upd (f 31) x2.toNatClampNeg (vp_nar .boolean 1)) := ⟨_, rfl⟩
          have hw := hw f_4 ef_4
          have hP : va_P (dC, dI) vcl (ctW a cA n f_4) H := by rw [ef_4]; exact hP
          refine lv_aload_n hx hb dM_settle_112 rfl (lv_at hl 0 rfl) ?_
          refine va_get (D := (dC, dI)) (ci := 3) (v := .ref (a 29)) (C := RM) (T := TM) (N := 19) hx hb hts (fun w h => List.mem_cons_of_mem _ (inM w h)) hown hK hP 18 rfl rfl 14 (by decide) (hts (.fieldLink RM 40 "CoverTreesModel" "chosen" "[I") (List.mem_cons_of_mem _ wt_458)) (fun _ h9 => h9) rfl dM_settle_113 ?_
          refine lv_bipush (v := 8) hx hb dM_settle_116 (by decide) ?_
          refine lv_iload_n hx hb dM_settle_118 rfl (lv_at hl 1 rfl) ?_
          refine lv_imul hx hb dM_settle_119 ?_
          refine lv_iload_n hx hb dM_settle_120 rfl (lv_at hl 2 rfl) ?_
          refine lv_iadd hx hb dM_settle_121 ?_
          refine lv_iload_n hx hb dM_settle_122 rfl (lv_at hl 3 rfl) ?_
          obtain ⟨hi5, hw⟩ := hw
          refine va_iast hx hb hK hP (hDa _ _) hS 29 25 rfl rfl hi5 dM_settle_123 (fun H locs hP _ hS => ?_)
          obtain ⟨f_6, ef_6⟩ : ∃ z : ctF, z = va_up f_4 29 (upd (f_4 29) ((8 * x1) + x2).toNatClampNeg x3) := ⟨_, rfl⟩
          have hw := hw f_6 ef_6
          have hP : va_P (dC, dI) vcl (ctW a cA n f_6) H := by rw [ef_6]; exact hP
          refine lv_iconst (v := 1) hx hb dM_settle_124 (by decide) ?_
          refine lv_istore (lv' := [(4, .int 1), (0, .ref (a 18)), (1, .int x1), (2, .int x2), (3, .int x3)]) hx hb dM_settle_125 hl (by decide) rfl (fun ls hl => ?_)
          refine lv_aload_n hx hb dM_settle_127 rfl (lv_at hl 1 rfl) ?_
          refine va_get (D := (dC, dI)) (ci := 3) (v := .ref (a 22)) (C := RM) (T := TM) (N := 19) hx hb hts (fun w h => List.mem_cons_of_mem _ (inM w h)) hown hK hP 18 rfl rfl 6 (by decide) (hts (.fieldLink RM 19 "CoverTreesModel" "of" "[I") (List.mem_cons_of_mem _ wt_450)) (fun _ h9 => h9) rfl dM_settle_128 ?_
          refine lv_iload_n hx hb dM_settle_131 rfl (lv_at hl 4 rfl) ?_
          obtain ⟨hi7, hw⟩ := hw
          refine va_iald hx hb hK hP 22 18 rfl rfl hi7 dM_settle_132 ?_
          refine lv_if_ge (tgt := 160) hx hb dM_settle_133 (by decide) (fun c8 => ?_) (fun c8 => ?_)
          · have hw := hw.1 c8
            refine lv_aload_n hx hb dM_settle_160 rfl (lv_at hl 1 rfl) ?_
            refine va_get (D := (dC, dI)) (ci := 3) (v := .ref (a 19)) (C := RM) (T := TM) (N := 19) hx hb hts (fun w h => List.mem_cons_of_mem _ (inM w h)) hown hK hP 18 rfl rfl 2 (by decide) (hts (.fieldLink RM 7 "CoverTreesModel" "parts" "[I") (List.mem_cons_of_mem _ wt_446)) (fun _ h9 => h9) rfl dM_settle_161 ?_
            refine lv_aload_n hx hb dM_settle_164 rfl (lv_at hl 1 rfl) ?_
            refine va_get (D := (dC, dI)) (ci := 3) (v := .ref (a 22)) (C := RM) (T := TM) (N := 19) hx hb hts (fun w h => List.mem_cons_of_mem _ (inM w h)) hown hK hP 18 rfl rfl 6 (by decide) (hts (.fieldLink RM 19 "CoverTreesModel" "of" "[I") (List.mem_cons_of_mem _ wt_450)) (fun _ h9 => h9) rfl dM_settle_165 ?_
            refine lv_iload_n hx hb dM_settle_168 rfl (lv_at hl 4 rfl) ?_
            obtain ⟨hi9, hw⟩ := hw
            refine va_iald hx hb hK hP 22 18 rfl rfl hi9 dM_settle_169 ?_
            obtain ⟨hi10, hw⟩ := hw
            refine va_iald hx hb hK hP 19 15 rfl rfl hi10 dM_settle_170 ?_
            refine lv_if_le (tgt := 246) hx hb dM_settle_171 (by decide) (fun c11 => ?_) (fun c11 => ?_)
            · have hw := hw.1 c11
              exact join_246 x1 x2 1 n f_6 _ _ ls hw hP hS (lv_sub hl [1, 2, 3, 0] rfl)
            · have hw := hw.2 c11
              refine lv_iload hx hb dM_settle_174 (lv_at hl 0 rfl) ?_
              refine lv_aload_n hx hb dM_settle_176 rfl (lv_at hl 1 rfl) ?_
              refine va_get (D := (dC, dI)) (ci := 3) (v := .ref (a 30)) (C := RM) (T := TM) (N := 19) hx hb hts (fun w h => List.mem_cons_of_mem _ (inM w h)) hown hK hP 18 rfl rfl 15 (by decide) (hts (.fieldLink RM 43 "CoverTreesModel" "sizes" "[I") (List.mem_cons_of_mem _ wt_459)) (fun _ h9 => h9) rfl dM_settle_177 ?_
              refine lv_bipush (v := 8) hx hb dM_settle_180 (by decide) ?_
              refine lv_aload_n hx hb dM_settle_182 rfl (lv_at hl 1 rfl) ?_
              refine va_get (D := (dC, dI)) (ci := 3) (v := .ref (a 26)) (C := RM) (T := TM) (N := 19) hx hb hts (fun w h => List.mem_cons_of_mem _ (inM w h)) hown hK hP 18 rfl rfl 11 (by decide) (hts (.fieldLink RM 31 "CoverTreesModel" "one" "[I") (List.mem_cons_of_mem _ wt_455)) (fun _ h9 => h9) rfl dM_settle_183 ?_
              refine lv_iload_n hx hb dM_settle_186 rfl (lv_at hl 2 rfl) ?_
              obtain ⟨hi17, hw⟩ := hw
              refine va_iald hx hb hK hP 26 22 rfl rfl hi17 dM_settle_187 ?_
              refine lv_imul hx hb dM_settle_188 ?_
              refine lv_aload_n hx hb dM_settle_189 rfl (lv_at hl 1 rfl) ?_
              refine va_get (D := (dC, dI)) (ci := 3) (v := .ref (a 23)) (C := RM) (T := TM) (N := 19) hx hb hts (fun w h => List.mem_cons_of_mem _ (inM w h)) hown hK hP 18 rfl rfl 7 (by decide) (hts (.fieldLink RM 22 "CoverTreesModel" "first" "[I") (List.mem_cons_of_mem _ wt_451)) (fun _ h9 => h9) rfl dM_settle_190 ?_
              refine lv_iload_n hx hb dM_settle_193 rfl (lv_at hl 4 rfl) ?_
              obtain ⟨hi18, hw⟩ := hw
              refine va_iald hx hb hK hP 23 19 rfl rfl hi18 dM_settle_194 ?_
              refine lv_iadd hx hb dM_settle_195 ?_
              obtain ⟨hi19, hw⟩ := hw
              refine va_iald hx hb hK hP 30 26 rfl rfl hi19 dM_settle_196 ?_
              refine lv_iadd hx hb dM_settle_197 ?_
              refine lv_topi (fun x4_20 ex4_20 => ?_)
              have hw := hw x4_20 ex4_20
              refine lv_istore (lv' := [(4, .int x4_20), (0, .ref (a 18)), (1, .int x1), (2, .int x2), (3, .int x3)]) hx hb dM_settle_198 hl (by decide) rfl (fun ls hl => ?_)
              refine lv_aload_n hx hb dM_settle_200 rfl (lv_at hl 1 rfl) ?_
              refine va_get (D := (dC, dI)) (ci := 3) (v := .ref (a 19)) (C := RM) (T := TM) (N := 19) hx hb hts (fun w h => List.mem_cons_of_mem _ (inM w h)) hown hK hP 18 rfl rfl 2 (by decide) (hts (.fieldLink RM 7 "CoverTreesModel" "parts" "[I") (List.mem_cons_of_mem _ wt_446)) (fun _ h9 => h9) rfl dM_settle_201 ?_
              refine lv_aload_n hx hb dM_settle_204 rfl (lv_at hl 1 rfl) ?_
              refine va_get (D := (dC, dI)) (ci := 3) (v := .ref (a 22)) (C := RM) (T := TM) (N := 19) hx hb hts (fun w h => List.mem_cons_of_mem _ (inM w h)) hown hK hP 18 rfl rfl 6 (by decide) (hts (.fieldLink RM 19 "CoverTreesModel" "of" "[I") (List.mem_cons_of_mem _ wt_450)) (fun _ h9 => h9) rfl dM_settle_205 ?_
              refine lv_iload_n hx hb dM_settle_208 rfl (lv_at hl 4 rfl) ?_
              obtain ⟨hi21, hw⟩ := hw
              refine va_iald hx hb hK hP 22 18 rfl rfl hi21 dM_settle_209 ?_
              obtain ⟨hi22, hw⟩ := hw
              refine va_iald hx hb hK hP 19 15 rfl rfl hi22 dM_settle_210 ?_
              refine lv_iconst (v := 1) hx hb dM_settle_211 (by decide) ?_
              refine lv_icmp_le (tgt := 242) hx hb dM_settle_212 (by decide) (fun c23 => ?_) (fun c23 => ?_)
              · have hw := hw.1 c23
                refine lv_iload hx hb dM_settle_242 (lv_at hl 0 rfl) ?_
                exact join_244 x1 x2 x4_20 n f_6 _ _ ls hw hP hS (lv_sub hl [1, 2, 3] rfl)
              · have hw := hw.2 c23
                refine lv_iload hx hb dM_settle_215 (lv_at hl 0 rfl) ?_
                refine lv_aload_n hx hb dM_settle_217 rfl (lv_at hl 1 rfl) ?_
                refine va_get (D := (dC, dI)) (ci := 3) (v := .ref (a 30)) (C := RM) (T := TM) (N := 19) hx hb hts (fun w h => List.mem_cons_of_mem _ (inM w h)) hown hK hP 18 rfl rfl 15 (by decide) (hts (.fieldLink RM 43 "CoverTreesModel" "sizes" "[I") (List.mem_cons_of_mem _ wt_459)) (fun _ h9 => h9) rfl dM_settle_218 ?_
                refine lv_bipush (v := 8) hx hb dM_settle_221 (by decide) ?_
                refine lv_aload_n hx hb dM_settle_223 rfl (lv_at hl 1 rfl) ?_
                refine va_get (D := (dC, dI)) (ci := 3) (v := .ref (a 27)) (C := RM) (T := TM) (N := 19) hx hb hts (fun w h => List.mem_cons_of_mem _ (inM w h)) hown hK hP 18 rfl rfl 12 (by decide) (hts (.fieldLink RM 34 "CoverTreesModel" "two" "[I") (List.mem_cons_of_mem _ wt_456)) (fun _ h9 => h9) rfl dM_settle_224 ?_
                refine lv_iload_n hx hb dM_settle_227 rfl (lv_at hl 2 rfl) ?_
                obtain ⟨hi24, hw⟩ := hw
                refine va_iald hx hb hK hP 27 23 rfl rfl hi24 dM_settle_228 ?_
                refine lv_imul hx hb dM_settle_229 ?_
                refine lv_aload_n hx hb dM_settle_230 rfl (lv_at hl 1 rfl) ?_
                refine va_get (D := (dC, dI)) (ci := 3) (v := .ref (a 24)) (C := RM) (T := TM) (N := 19) hx hb hts (fun w h => List.mem_cons_of_mem _ (inM w h)) hown hK hP 18 rfl rfl 8 (by decide) (hts (.fieldLink RM 25 "CoverTreesModel" "second" "[I") (List.mem_cons_of_mem _ wt_452)) (fun _ h9 => h9) rfl dM_settle_231 ?_
                refine lv_iload_n hx hb dM_settle_234 rfl (lv_at hl 4 rfl) ?_
                obtain ⟨hi25, hw⟩ := hw
                refine va_iald hx hb hK hP 24 20 rfl rfl hi25 dM_settle_235 ?_
                refine lv_iadd hx hb dM_settle_236 ?_
                obtain ⟨hi26, hw⟩ := hw
                refine va_iald hx hb hK hP 30 26 rfl rfl hi26 dM_settle_237 ?_
                refine lv_iadd hx hb dM_settle_238 ?_
                refine lv_goto (tgt := 244) hx hb dM_settle_239 (by decide) ?_
                exact join_244 x1 x2 (x4_20 + (f_6 30 ((8 * (f_6 27 x1.toNatClampNeg)) + (f_6 24 x3.toNatClampNeg)).toNatClampNeg)) n f_6 _ _ ls hw hP hS (lv_sub hl [1, 2, 3] rfl)
          · have hw := hw.2 c8
            refine lv_iload hx hb dM_settle_136 (lv_at hl 0 rfl) ?_
            refine lv_aload_n hx hb dM_settle_138 rfl (lv_at hl 1 rfl) ?_
            refine va_get (D := (dC, dI)) (ci := 3) (v := .ref (a 30)) (C := RM) (T := TM) (N := 19) hx hb hts (fun w h => List.mem_cons_of_mem _ (inM w h)) hown hK hP 18 rfl rfl 15 (by decide) (hts (.fieldLink RM 43 "CoverTreesModel" "sizes" "[I") (List.mem_cons_of_mem _ wt_459)) (fun _ h9 => h9) rfl dM_settle_139 ?_
            refine lv_bipush (v := 8) hx hb dM_settle_142 (by decide) ?_
            refine lv_iload_n hx hb dM_settle_144 rfl (lv_at hl 2 rfl) ?_
            refine lv_imul hx hb dM_settle_145 ?_
            refine lv_aload_n hx hb dM_settle_146 rfl (lv_at hl 1 rfl) ?_
            refine va_get (D := (dC, dI)) (ci := 3) (v := .ref (a 23)) (C := RM) (T := TM) (N := 19) hx hb hts (fun w h => List.mem_cons_of_mem _ (inM w h)) hown hK hP 18 rfl rfl 7 (by decide) (hts (.fieldLink RM 22 "CoverTreesModel" "first" "[I") (List.mem_cons_of_mem _ wt_451)) (fun _ h9 => h9) rfl dM_settle_147 ?_
            refine lv_iload_n hx hb dM_settle_150 rfl (lv_at hl 4 rfl) ?_
            obtain ⟨hi27, hw⟩ := hw
            refine va_iald hx hb hK hP 23 19 rfl rfl hi27 dM_settle_151 ?_
            refine lv_iadd hx hb dM_settle_152 ?_
            obtain ⟨hi28, hw⟩ := hw
            refine va_iald hx hb hK hP 30 26 rfl rfl hi28 dM_settle_153 ?_
            refine lv_iadd hx hb dM_settle_154 ?_
            refine lv_topi (fun x4_29 ex4_29 => ?_)
            have hw := hw x4_29 ex4_29
            refine lv_istore (lv' := [(4, .int x4_29), (0, .ref (a 18)), (1, .int x1), (2, .int x2), (3, .int x3)]) hx hb dM_settle_155 hl (by decide) rfl (fun ls hl => ?_)
            refine lv_goto (tgt := 246) hx hb dM_settle_157 (by decide) ?_
            exact join_246 x1 x2 x4_29 n f_6 _ _ ls hw hP hS (lv_sub hl [1, 2, 3, 0] rfl)
        · have hw := hw.2 c2
          refine lv_iconst (v := 0) hx hb dM_settle_103 (by decide) ?_
          exact W.zret (v := 0) hx hb hr rfl (fun t ht hW => ⟨⟨0, (n, f), rfl, hw, ct_mkB ht hP⟩, hS.F ht⟩) hS.2.2 dM_settle_104
      · have hw := hw.2 c1
        refine lv_aload_n hx hb dM_settle_14 rfl (lv_at hl 0 rfl) ?_
        refine va_get (D := (dC, dI)) (ci := 3) (v := .ref (a 28)) (C := RM) (T := TM) (N := 19) hx hb hts (fun w h => List.mem_cons_of_mem _ (inM w h)) hown hK hP 18 rfl rfl 13 (by decide) (hts (.fieldLink RM 37 "CoverTreesModel" "costs" "[I") (List.mem_cons_of_mem _ wt_457)) (fun _ h9 => h9) rfl dM_settle_15 ?_
        refine lv_bipush (v := 8) hx hb dM_settle_18 (by decide) ?_
        refine lv_iload_n hx hb dM_settle_20 rfl (lv_at hl 1 rfl) ?_
        refine lv_imul hx hb dM_settle_21 ?_
        refine lv_iload hx hb dM_settle_22 (lv_at hl 4 rfl) ?_
        refine lv_iadd hx hb dM_settle_24 ?_
        obtain ⟨hi30, hw⟩ := hw
        refine va_iald hx hb hK hP 28 24 rfl rfl hi30 dM_settle_25 ?_
        refine lv_if_lt (tgt := 39) hx hb dM_settle_26 (by decide) (fun c31 => ?_) (fun c31 => ?_)
        · have hw := hw.1 c31
          exact join_39 x1 x2 x3 x4 n f _ _ ls hw hP hS (lv_sub hl [0, 1, 2, 3, 4] rfl)
        · have hw := hw.2 c31
          refine lv_aload_n hx hb dM_settle_29 rfl (lv_at hl 0 rfl) ?_
          refine va_get (D := (dC, dI)) (ci := 3) (v := .ref (a 31)) (C := RM) (T := TM) (N := 19) hx hb hts (fun w h => List.mem_cons_of_mem _ (inM w h)) hown hK hP 18 rfl rfl 16 (by decide) (hts (.fieldLink RM 46 "CoverTreesModel" "settled" "[Z") (List.mem_cons_of_mem _ wt_460)) (fun _ h9 => h9) rfl dM_settle_30 ?_
          refine lv_iload hx hb dM_settle_33 (lv_at hl 4 rfl) ?_
          obtain ⟨hi41, hw⟩ := hw
          refine va_zald hx hb hK hP 31 27 rfl rfl hi41 dM_settle_35 ?_
          refine lv_if_eq (tgt := 43) hx hb dM_settle_36 (by decide) (fun c42 => ?_) (fun c42 => ?_)
          · have hw := hw.1 c42
            refine lv_aload_n hx hb dM_settle_43 rfl (lv_at hl 0 rfl) ?_
            refine lv_iload_n hx hb dM_settle_44 rfl (lv_at hl 1 rfl) ?_
            refine lv_iload hx hb dM_settle_45 (lv_at hl 4 rfl) ?_
            refine ct_i (va_runV (As := [.int x1, .int x4]) (rest := []) ⟨hx, hb, hml, hown, hts⟩ (met_M_ruleOf l dC dI a cA sa x1 x4 n f _ hw) (cwV 2 hts (wb_V wt_561 wt_563 wt_20 wt_30 wt_564) rfl rfl rfl (by decide +kernel) ⟨Nat.le_of_ble_eq_true rfl, Nat.le_of_ble_eq_true rfl⟩) (ct_preV hK hP (hDa _ _) hZ hS hA (va_recv hK hP (ci := 3) (q0 := 18) rfl rfl)) rfl rfl hl.1 rfl (lv_room (Nat.le_of_ble_eq_true rfl)) dM_settle_47 ⟨Nat.le_of_ble_eq_true rfl, Nat.le_of_ble_eq_true rfl⟩) (hDa _ _) hS hA (fun r43 n_44 f_45 H locs hw hP hS => ?_)
            exact join_50 x1 x2 x3 x4 r43 n_44 f_45 _ _ ls hw hP hS (lv_sub hl [0, 1, 2, 3, 4] rfl)
          · have hw := hw.2 c42
            exact join_39 x1 x2 x3 x4 n f _ _ ls hw hP hS (lv_sub hl [0, 1, 2, 3, 4] rfl)
  refine lv_iconst (v := (-1)) hx hb dM_settle_0 (by decide) ?_
  refine lv_istore_n (lv' := [(2, .int (-1)), (0, .ref (a 18)), (1, .int p1)]) hx hb dM_settle_1 rfl hl (by decide) rfl (fun ls hl => ?_)
  refine lv_iconst (v := (-1)) hx hb dM_settle_2 (by decide) ?_
  refine lv_istore_n (lv' := [(3, .int (-1)), (2, .int (-1)), (0, .ref (a 18)), (1, .int p1)]) hx hb dM_settle_3 rfl hl (by decide) rfl (fun ls hl => ?_)
  refine lv_iconst (v := 0) hx hb dM_settle_4 (by decide) ?_
  refine lv_istore (lv' := [(4, .int 0), (3, .int (-1)), (2, .int (-1)), (0, .ref (a 18)), (1, .int p1)]) hx hb dM_settle_5 hl (by decide) rfl (fun ls hl => ?_)
  obtain ⟨j, hw⟩ := hw
  exact loop_7 j p1 (-1) (-1) 0 n f _ _ ls hw hP hS (lv_sub hl [3, 4, 2, 1, 0] rfl)
def wp_M_node_L236 (post : Int32 → ctN → ctF → Prop) : Nat → Int32 → ctN → ctF → Prop
  | 0, _, _, _ => False
  | k + 1, x8, n, f => (x8 = 0 → (∀ n_29 : ctN, n_29 = va_up n 6 ((n 6) + 1) → (post ((n_29 6) - 1) n_29 f))) ∧ (¬ x8 = 0 → (wp_M_settle (fun (r30 : Int32) (n_31 : ctN) (f_32 : ctF) => wp_M_node_L236 post k r30 n_31 f_32) (n 6) n f))
def wp_M_node_L167 (post : Int32 → ctN → ctF → Prop) : Nat → Int32 → Int32 → ctN → ctF → Prop
  | 0, _, _, _, _ => False
  | k + 1, x7, x8, n, f => (8 ≤ x8 → (wp_M_refuse (fun (r24 : Int32) (n_25 : ctN) (f_26 : ctF) => (r24 = 0 → (∃ j, wp_M_node_L236 post j 1 n_25 f_26)) ∧ (¬ r24 = 0 → (post 0 n_25 f_26))) 0 x7 0 n f)) ∧ (¬ 8 ≤ x8 → ((¬ x7 = 0 → (vp_in x8 8 ∧ (∀ f_35 : ctF, f_35 = va_up f 31 (upd (f 31) x8.toNatClampNeg (vp_nar .boolean 0)) → (∀ x8_36 : Int32, x8_36 = x8 + 1 → (wp_M_node_L167 post k 1 x8_36 n f_35))))) ∧ (x7 = 0 → (vp_in ((8 * (n 6)) + x8) 960 ∧ (((f 28 ((8 * (n 6)) + x8).toNatClampNeg) ≤ 1000000 → (vp_in x8 8 ∧ (∀ f_40 : ctF, f_40 = va_up f 31 (upd (f 31) x8.toNatClampNeg (vp_nar .boolean 0)) → (∀ x8_41 : Int32, x8_41 = x8 + 1 → (wp_M_node_L167 post k 0 x8_41 n f_40))))) ∧ (¬ (f 28 ((8 * (n 6)) + x8).toNatClampNeg) ≤ 1000000 → (vp_in x8 8 ∧ (∀ f_43 : ctF, f_43 = va_up f 31 (upd (f 31) x8.toNatClampNeg (vp_nar .boolean 0)) → (∀ x8_44 : Int32, x8_44 = x8 + 1 → (wp_M_node_L167 post k 1 x8_44 n f_43))))))))))
def wp_M_node_J152 (post : Int32 → ctN → ctF → Prop) (s0 : Int32) (s1 : Int32) (n : ctN) (f : ctF) : Prop := vp_in s1 120 ∧ (∀ f_19 : ctF, f_19 = va_up f 27 (upd (f 27) s1.toNatClampNeg s0) → (wp_M_price (fun (n_21 : ctN) (f_22 : ctF) => ∃ j, wp_M_node_L167 post j 0 0 n_21 f_22) (n 6) n f_19))
def wp_M_node_J132 (post : Int32 → ctN → ctF → Prop) (x3 : Int32) (x5 : Int32) (s0 : Int32) (s1 : Int32) (n : ctN) (f : ctF) : Prop := vp_in s1 120 ∧ (∀ f_16 : ctF, f_16 = va_up f 26 (upd (f 26) s1.toNatClampNeg s0) → ((x5 ≤ 1 → (wp_M_node_J152 post 0 (n 6) n f_16)) ∧ (¬ x5 ≤ 1 → (wp_M_node_J152 post x3 (n 6) n f_16))))
def wp_M_node_J95 (post : Int32 → ctN → ctF → Prop) (x1 : Int32) (x2 : Int32) (x3 : Int32) (x5 : Int32) (s0 : Int32) (s1 : Int32) (n : ctN) (f : ctF) : Prop := wp_M_refuse (fun (r8 : Int32) (n_9 : ctN) (f_10 : ctF) => (r8 = 0 → (vp_in (n_9 6) 120 ∧ (∀ f_13 : ctF, f_13 = va_up f_10 25 (upd (f_10 25) (n_9 6).toNatClampNeg x1) → ((x5 ≤ 0 → (wp_M_node_J132 post x3 x5 0 (n_9 6) n_9 f_13)) ∧ (¬ x5 ≤ 0 → (wp_M_node_J132 post x3 x5 x2 (n_9 6) n_9 f_13)))))) ∧ (¬ r8 = 0 → (post 0 n_9 f_10))) s1 s0 0 n f
def wp_M_node_J81 (post : Int32 → ctN → ctF → Prop) (x1 : Int32) (x2 : Int32) (x3 : Int32) (x5 : Int32) (s0 : Int32) (n : ctN) (f : ctF) : Prop := (¬ (n 6) = 120 → (wp_M_node_J95 post x1 x2 x3 x5 0 s0 n f)) ∧ ((n 6) = 120 → (wp_M_node_J95 post x1 x2 x3 x5 1 s0 n f))
def wp_M_node_J68 (post : Int32 → ctN → ctF → Prop) (x1 : Int32) (x2 : Int32) (x3 : Int32) (x5 : Int32) (s0 : Int32) (n : ctN) (f : ctF) : Prop := (¬ s0 = 0 → (wp_M_node_J81 post x1 x2 x3 x5 0 n f)) ∧ (s0 = 0 → (wp_M_node_J81 post x1 x2 x3 x5 1 n f))
def wp_M_node_J67 (post : Int32 → ctN → ctF → Prop) (x1 : Int32) (x2 : Int32) (x3 : Int32) (x5 : Int32) (n : ctN) (f : ctF) : Prop := wp_M_node_J68 post x1 x2 x3 x5 0 n f
def wp_M_node_J63 (post : Int32 → ctN → ctF → Prop) (x1 : Int32) (x2 : Int32) (x3 : Int32) (x5 : Int32) (n : ctN) (f : ctF) : Prop := wp_M_node_J68 post x1 x2 x3 x5 1 n f
def wp_M_node_J49 (post : Int32 → ctN → ctF → Prop) (x1 : Int32) (x2 : Int32) (x3 : Int32) (x5 : Int32) (n : ctN) (f : ctF) : Prop := (x5 < 2 → (wp_M_node_J63 post x1 x2 x3 x5 n f)) ∧ (¬ x5 < 2 → (wp_M_isNode (fun (r47 : Int32) (n_48 : ctN) (f_49 : ctF) => (r47 = 0 → (wp_M_node_J67 post x1 x2 x3 x5 n_48 f_49)) ∧ (¬ r47 = 0 → (wp_M_node_J63 post x1 x2 x3 x5 n_48 f_49))) x3 n f))
def wp_M_node_J28 (post : Int32 → ctN → ctF → Prop) (x1 : Int32) (x2 : Int32) (x3 : Int32) (x4 : Int32) (s0 : Int32) (n : ctN) (f : ctF) : Prop := (x4 = 0 → (wp_M_node_J67 post x1 x2 x3 s0 n f)) ∧ (¬ x4 = 0 → ((s0 < 1 → (wp_M_node_J49 post x1 x2 x3 s0 n f)) ∧ (¬ s0 < 1 → (wp_M_isNode (fun (r51 : Int32) (n_52 : ctN) (f_53 : ctF) => (r51 = 0 → (wp_M_node_J67 post x1 x2 x3 s0 n_52 f_53)) ∧ (¬ r51 = 0 → (wp_M_node_J49 post x1 x2 x3 s0 n_52 f_53))) x2 n f))))
def wp_M_node (post : Int32 → ctN → ctF → Prop) (p1 : Int32) (p2 : Int32) (p3 : Int32) (n : ctN) (f : ctF) : Prop := wp_M_in (fun (r1 : Int32) (n_2 : ctN) (f_3 : ctF) => (r1 = 0 → (wp_M_node_J28 post p1 p2 p3 r1 0 n_2 f_3)) ∧ (¬ r1 = 0 → (vp_in p1 10 ∧ (wp_M_node_J28 post p1 p2 p3 r1 (f_3 19 p1.toNatClampNeg) n_2 f_3)))) p1 0 ((n 4) - 1) n f
set_option maxHeartbeats 4000000 in
set_option maxRecDepth 100000 in
theorem met_M_node (l : Launch) (dC : Nat → ClassId) (dI : Nat → Nat → Nat) (a : Nat → Nat) (cA : Nat → ClassId) (sa : Nat → Nat) (p1 : Int32) (p2 : Int32) (p3 : Int32) (n : ctN) (f : ctF) (sz : Nat) {post : Int32 → ctN → ctF → Prop} (hw : wp_M_node post p1 p2 p3 n f) : Met l yM_node wsM_node ({ frames := 3, cells := 0, slots := 0, locals := 75 } : Room) (ct_Pc dC dI a cA sa [.ref (a 18), .int p1, .int p2, .int p3] n f sz) (va_Qi (fun (r : Int32) (u : ctN × ctF) => post r u.1 u.2) (ct_B dC dI a cA) (va_A (ctW a cA n f) sz)) 0 0 (va_A (ctW a cA n f) sz) := by
  refine Met.ofW (cc := cM_node) (maxL := 9) (ret := (some .int)) (by decide) rfl ?_
  intro p e s m args below meth c s₁ B hml hv
  obtain ⟨rfl, hsz, hP, hK, hD0, hZ⟩ := hv
  have hx := B.exec
  have hb := B.bytes
  have hr := B.returns
  have hts := atoms_spec (ws := wsM_node) B.pre
  have hown : s.vm.findClass RM = some m.cls := findClass_of_methodNamed B.named
  have hlocks := B.notSynchronized
  subst hsz
  have hD := hD0.self (sz := s.heap.size)
  generalize hAe : va_A (ctW a cA n f) s.heap.size = A at hD hZ ⊢
  have hDa : ∀ (n : ctN) (f : ctF), va_D A (ctW a cA n f) := fun _ _ => ct_D hD
  have hA : ∀ q : Nat, s.heap.size ≤ q → A q := fun q h => by rw [← hAe]; exact Or.inr h
  have hS : va_S A s.heap s.heap [] := va_S.rf
  have hl := lv_entry ([.ref (a 18), .int p1, .int p2, .int p3]) (n := 9) (Nat.le_of_ble_eq_true rfl)
  rw [lg_entry_eq]
  generalize (lg_sl ([.ref (a 18), .int p1, .int p2, .int p3]) ++ List.replicate (9 - (lg_sl ([.ref (a 18), .int p1, .int p2, .int p3])).length) Slot.unset).toArray = ls at hl ⊢
  have hl : lv_has ls 9 [(0, .ref (a 18)), (1, .int p1), (2, .int p2), (3, .int p3)] := hl
  unfold wp_M_node at hw
  have loop_236 : ∀ (k : Nat) (x8 : Int32) (n : ctN) (f : ctF) (H : Heap) (locs : List Loc) (ls : Array Slot), wp_M_node_L236 post k x8 n f → va_P (dC, dI) vcl (ctW a cA n f) H → va_S A s.heap H locs → lv_has ls 9 [(0, .ref (a 18)), (8, .int x8)] → W p l e (headSpec wsM_node ({ frames := 3, cells := 0, slots := 0, locals := 75 } : Room)).room s m (([.ref (a 18), .int p1, .int p2, .int p3] : List Value).toArray) below meth c H locs 0 0 (MQ below (va_Qi (fun (r : Int32) (u : ctN × ctF) => post r u.1 u.2) (ct_B dC dI a cA) A) (([.ref (a 18), .int p1, .int p2, .int p3] : List Value).toArray) s 0 0 A) (F0 m 236 ls []) := by
    intro k
    induction k with
    | zero => intro x8 n f H locs ls hw; exact hw.elim
    | succ k ih =>
      intro x8 n f H locs ls hw hP hS hl
      rw [wp_M_node_L236] at hw
      refine lv_iload hx hb dM_node_236 (lv_at hl 1 rfl) ?_
      refine lv_if_eq (tgt := 254) hx hb dM_node_238 (by decide) (fun c28 => ?_) (fun c28 => ?_)
      · have hw := hw.1 c28
        refine lv_aload_n hx hb dM_node_254 rfl (lv_at hl 0 rfl) ?_
        refine lv_dup hx hb dM_node_255 rfl ?_
        refine va_get (D := (dC, dI)) (ci := 3) (v := .int (n 6)) (C := RM) (T := TM) (N := 19) hx hb hts (fun w h => List.mem_cons_of_mem _ (inM w h)) hown hK hP 18 rfl rfl 9 (by decide) (hts (.fieldLink RM 60 "CoverTreesModel" "nodes" "I") (List.mem_cons_of_mem _ wt_453)) (fun _ h9 => h9) rfl dM_node_256 ?_
        refine lv_iconst (v := 1) hx hb dM_node_259 (by decide) ?_
        refine lv_iadd hx hb dM_node_260 ?_
        refine va_put (D := (dC, dI)) (ci := 3) (v := .int ((n 6) + 1)) (ty := .int) (C := RM) (T := TM) (N := 19) hx hb hts (fun w h => List.mem_cons_of_mem _ (inM w h)) tyM tyM_ok nmM hown hK hP (hDa _ _) hS 18 rfl rfl 9 (by decide) (hts (.fieldLink RM 60 "CoverTreesModel" "nodes" "I") (List.mem_cons_of_mem _ wt_453)) (fun _ h9 => h9) rfl (by decide +kernel) rfl rfl (Nat.le_of_ble_eq_true rfl) dM_node_261 (fun H locs hP _ hS => ?_)
        obtain ⟨n_29, en_29⟩ : ∃ z : ctN, z = va_up n 6 ((n 6) + 1) := ⟨_, rfl⟩
        have hw := hw n_29 en_29
        have hP : va_P (dC, dI) vcl (ctW a cA n_29 f) H := by rw [en_29]; exact hP
        refine lv_aload_n hx hb dM_node_264 rfl (lv_at hl 0 rfl) ?_
        refine va_get (D := (dC, dI)) (ci := 3) (v := .int (n_29 6)) (C := RM) (T := TM) (N := 19) hx hb hts (fun w h => List.mem_cons_of_mem _ (inM w h)) hown hK hP 18 rfl rfl 9 (by decide) (hts (.fieldLink RM 60 "CoverTreesModel" "nodes" "I") (List.mem_cons_of_mem _ wt_453)) (fun _ h9 => h9) rfl dM_node_265 ?_
        refine lv_iconst (v := 1) hx hb dM_node_268 (by decide) ?_
        refine lv_isub hx hb dM_node_269 ?_
        exact W.iret (v := ((n_29 6) - 1)) hx hb hr (fun t ht hW => ⟨⟨((n_29 6) - 1), (n_29, f), rfl, hw, ct_mkB ht hP⟩, hS.F ht⟩) hS.2.2 dM_node_270
      · have hw := hw.2 c28
        refine lv_aload_n hx hb dM_node_241 rfl (lv_at hl 0 rfl) ?_
        refine lv_aload_n hx hb dM_node_242 rfl (lv_at hl 0 rfl) ?_
        refine va_get (D := (dC, dI)) (ci := 3) (v := .int (n 6)) (C := RM) (T := TM) (N := 19) hx hb hts (fun w h => List.mem_cons_of_mem _ (inM w h)) hown hK hP 18 rfl rfl 9 (by decide) (hts (.fieldLink RM 60 "CoverTreesModel" "nodes" "I") (List.mem_cons_of_mem _ wt_453)) (fun _ h9 => h9) rfl dM_node_243 ?_
        refine ct_i (va_runV (As := [.int (n 6)]) (rest := []) ⟨hx, hb, hml, hown, hts⟩ (met_M_settle l dC dI a cA sa (n 6) n f _ hw) (cwV 1 hts (wb_V wt_557 wt_559 wt_19 wt_30 wt_560) rfl rfl rfl (by decide +kernel) ⟨Nat.le_of_ble_eq_true rfl, Nat.le_of_ble_eq_true rfl⟩) (ct_preV hK hP (hDa _ _) hZ hS hA (va_recv hK hP (ci := 3) (q0 := 18) rfl rfl)) rfl rfl hl.1 rfl (lv_room (Nat.le_of_ble_eq_true rfl)) dM_node_246 ⟨Nat.le_of_ble_eq_true rfl, Nat.le_of_ble_eq_true rfl⟩) (hDa _ _) hS hA (fun r30 n_31 f_32 H locs hw hP hS => ?_)
        refine lv_istore (lv' := [(8, .int r30), (0, .ref (a 18))]) hx hb dM_node_249 hl (by decide) rfl (fun ls hl => ?_)
        refine lv_goto (tgt := 236) hx hb dM_node_251 (by decide) ?_
        exact ih r30 n_31 f_32 _ _ ls hw hP hS (lv_sub hl [1, 0] rfl)
  have loop_167 : ∀ (k : Nat) (x7 x8 : Int32) (n : ctN) (f : ctF) (H : Heap) (locs : List Loc) (ls : Array Slot), wp_M_node_L167 post k x7 x8 n f → va_P (dC, dI) vcl (ctW a cA n f) H → va_S A s.heap H locs → lv_has ls 9 [(0, .ref (a 18)), (7, .int x7), (8, .int x8)] → W p l e (headSpec wsM_node ({ frames := 3, cells := 0, slots := 0, locals := 75 } : Room)).room s m (([.ref (a 18), .int p1, .int p2, .int p3] : List Value).toArray) below meth c H locs 0 0 (MQ below (va_Qi (fun (r : Int32) (u : ctN × ctF) => post r u.1 u.2) (ct_B dC dI a cA) A) (([.ref (a 18), .int p1, .int p2, .int p3] : List Value).toArray) s 0 0 A) (F0 m 167 ls []) := by
    intro k
    induction k with
    | zero => intro x7 x8 n f H locs ls hw; exact hw.elim
    | succ k ih =>
      intro x7 x8 n f H locs ls hw hP hS hl
      rw [wp_M_node_L167] at hw
      refine lv_iload hx hb dM_node_167 (lv_at hl 2 rfl) ?_
      refine lv_bipush (v := 8) hx hb dM_node_169 (by decide) ?_
      refine lv_icmp_ge (tgt := 220) hx hb dM_node_171 (by decide) (fun c23 => ?_) (fun c23 => ?_)
      · have hw := hw.1 c23
        refine lv_aload_n hx hb dM_node_220 rfl (lv_at hl 0 rfl) ?_
        refine lv_iconst (v := 0) hx hb dM_node_221 (by decide) ?_
        refine lv_iload hx hb dM_node_222 (lv_at hl 1 rfl) ?_
        refine lv_iconst (v := 0) hx hb dM_node_224 (by decide) ?_
        refine ct_i (va_runV (As := [.int 0, .int x7, .int 0]) (rest := []) ⟨hx, hb, hml, hown, hts⟩ (met_M_refuse l dC dI a cA sa 0 x7 0 n f _ hw) (cwV 3 hts (wb_V wt_521 wt_523 wt_14 wt_30 wt_524) rfl rfl rfl (by decide +kernel) ⟨Nat.le_of_ble_eq_true rfl, Nat.le_of_ble_eq_true rfl⟩) (ct_preV hK hP (hDa _ _) hZ hS hA (va_recv hK hP (ci := 3) (q0 := 18) rfl rfl)) rfl rfl hl.1 rfl (lv_room (Nat.le_of_ble_eq_true rfl)) dM_node_225 ⟨Nat.le_of_ble_eq_true rfl, Nat.le_of_ble_eq_true rfl⟩) (hDa _ _) hS hA (fun r24 n_25 f_26 H locs hw hP hS => ?_)
        refine lv_if_eq (tgt := 233) hx hb dM_node_228 (by decide) (fun c27 => ?_) (fun c27 => ?_)
        · have hw := hw.1 c27
          refine lv_iconst (v := 1) hx hb dM_node_233 (by decide) ?_
          refine lv_istore (lv' := [(8, .int 1), (0, .ref (a 18)), (7, .int x7)]) hx hb dM_node_234 hl (by decide) rfl (fun ls hl => ?_)
          obtain ⟨j, hw⟩ := hw
          exact loop_236 j 1 n_25 f_26 _ _ ls hw hP hS (lv_sub hl [1, 0] rfl)
        · have hw := hw.2 c27
          refine lv_iconst (v := 0) hx hb dM_node_231 (by decide) ?_
          exact W.iret (v := 0) hx hb hr (fun t ht hW => ⟨⟨0, (n_25, f_26), rfl, hw, ct_mkB ht hP⟩, hS.F ht⟩) hS.2.2 dM_node_232
      · have hw := hw.2 c23
        refine lv_iload hx hb dM_node_174 (lv_at hl 1 rfl) ?_
        refine lv_if_ne (tgt := 199) hx hb dM_node_176 (by decide) (fun c33 => ?_) (fun c33 => ?_)
        · have hw := hw.1 c33
          refine lv_iconst (v := 1) hx hb dM_node_199 (by decide) ?_
          refine lv_goto (tgt := 204) hx hb dM_node_200 (by decide) ?_
          refine lv_istore (lv' := [(7, .int 1), (0, .ref (a 18)), (8, .int x8)]) hx hb dM_node_204 hl (by decide) rfl (fun ls hl => ?_)
          refine lv_aload_n hx hb dM_node_206 rfl (lv_at hl 1 rfl) ?_
          refine va_get (D := (dC, dI)) (ci := 3) (v := .ref (a 31)) (C := RM) (T := TM) (N := 19) hx hb hts (fun w h => List.mem_cons_of_mem _ (inM w h)) hown hK hP 18 rfl rfl 16 (by decide) (hts (.fieldLink RM 46 "CoverTreesModel" "settled" "[Z") (List.mem_cons_of_mem _ wt_460)) (fun _ h9 => h9) rfl dM_node_207 ?_
          refine lv_iload hx hb dM_node_210 (lv_at hl 2 rfl) ?_
          refine lv_iconst (v := 0) hx hb dM_node_212 (by decide) ?_
          obtain ⟨hi34, hw⟩ := hw
          refine va_zast hx hb hK hP (hDa _ _) hS 31 27 rfl rfl hi34 dM_node_213 (fun H locs hP _ hS => ?_)
          obtain ⟨f_35, ef_35⟩ : ∃ z : ctF, z = va_up f 31 (upd (f 31) x8.toNatClampNeg (vp_nar .boolean 0)) := ⟨_, rfl⟩
          have hw := hw f_35 ef_35
          have hP : va_P (dC, dI) vcl (ctW a cA n f_35) H := by rw [ef_35]; exact hP
          obtain ⟨x8_36, ex8_36⟩ : ∃ y : Int32, y = x8 + 1 := ⟨_, rfl⟩
          have hw := hw x8_36 ex8_36
          refine lv_iinc (v := x8_36) (lv' := [(8, .int x8_36), (7, .int 1), (0, .ref (a 18))]) hx hb dM_node_214 hl (k := 2) rfl (by rw [ex8_36]; rfl) (by decide) rfl (fun ls hl => ?_)
          refine lv_goto (tgt := 167) hx hb dM_node_217 (by decide) ?_
          exact ih 1 x8_36 n f_35 _ _ ls hw hP hS (lv_sub hl [2, 1, 0] rfl)
        · have hw := hw.2 c33
          refine lv_aload_n hx hb dM_node_179 rfl (lv_at hl 0 rfl) ?_
          refine va_get (D := (dC, dI)) (ci := 3) (v := .ref (a 28)) (C := RM) (T := TM) (N := 19) hx hb hts (fun w h => List.mem_cons_of_mem _ (inM w h)) hown hK hP 18 rfl rfl 13 (by decide) (hts (.fieldLink RM 37 "CoverTreesModel" "costs" "[I") (List.mem_cons_of_mem _ wt_457)) (fun _ h9 => h9) rfl dM_node_180 ?_
          refine lv_bipush (v := 8) hx hb dM_node_183 (by decide) ?_
          refine lv_aload_n hx hb dM_node_185 rfl (lv_at hl 0 rfl) ?_
          refine va_get (D := (dC, dI)) (ci := 3) (v := .int (n 6)) (C := RM) (T := TM) (N := 19) hx hb hts (fun w h => List.mem_cons_of_mem _ (inM w h)) hown hK hP 18 rfl rfl 9 (by decide) (hts (.fieldLink RM 60 "CoverTreesModel" "nodes" "I") (List.mem_cons_of_mem _ wt_453)) (fun _ h9 => h9) rfl dM_node_186 ?_
          refine lv_imul hx hb dM_node_189 ?_
          refine lv_iload hx hb dM_node_190 (lv_at hl 2 rfl) ?_
          refine lv_iadd hx hb dM_node_192 ?_
          obtain ⟨hi37, hw⟩ := hw
          refine va_iald hx hb hK hP 28 24 rfl rfl hi37 dM_node_193 ?_
          refine lv_ldc hx hb hown (hts (.constant RM 93 1000000) (by decide +kernel)) dM_node_194 ?_
          refine lv_icmp_le (tgt := 203) hx hb dM_node_196 (by decide) (fun c38 => ?_) (fun c38 => ?_)
          · have hw := hw.1 c38
            refine lv_iconst (v := 0) hx hb dM_node_203 (by decide) ?_
            refine lv_istore (lv' := [(7, .int 0), (0, .ref (a 18)), (8, .int x8)]) hx hb dM_node_204 hl (by decide) rfl (fun ls hl => ?_)
            refine lv_aload_n hx hb dM_node_206 rfl (lv_at hl 1 rfl) ?_
            refine va_get (D := (dC, dI)) (ci := 3) (v := .ref (a 31)) (C := RM) (T := TM) (N := 19) hx hb hts (fun w h => List.mem_cons_of_mem _ (inM w h)) hown hK hP 18 rfl rfl 16 (by decide) (hts (.fieldLink RM 46 "CoverTreesModel" "settled" "[Z") (List.mem_cons_of_mem _ wt_460)) (fun _ h9 => h9) rfl dM_node_207 ?_
            refine lv_iload hx hb dM_node_210 (lv_at hl 2 rfl) ?_
            refine lv_iconst (v := 0) hx hb dM_node_212 (by decide) ?_
            obtain ⟨hi39, hw⟩ := hw
            refine va_zast hx hb hK hP (hDa _ _) hS 31 27 rfl rfl hi39 dM_node_213 (fun H locs hP _ hS => ?_)
            obtain ⟨f_40, ef_40⟩ : ∃ z : ctF, z = va_up f 31 (upd (f 31) x8.toNatClampNeg (vp_nar .boolean 0)) := ⟨_, rfl⟩
            have hw := hw f_40 ef_40
            have hP : va_P (dC, dI) vcl (ctW a cA n f_40) H := by rw [ef_40]; exact hP
            obtain ⟨x8_41, ex8_41⟩ : ∃ y : Int32, y = x8 + 1 := ⟨_, rfl⟩
            have hw := hw x8_41 ex8_41
            refine lv_iinc (v := x8_41) (lv' := [(8, .int x8_41), (7, .int 0), (0, .ref (a 18))]) hx hb dM_node_214 hl (k := 2) rfl (by rw [ex8_41]; rfl) (by decide) rfl (fun ls hl => ?_)
            refine lv_goto (tgt := 167) hx hb dM_node_217 (by decide) ?_
            exact ih 0 x8_41 n f_40 _ _ ls hw hP hS (lv_sub hl [2, 1, 0] rfl)
          · have hw := hw.2 c38
            refine lv_iconst (v := 1) hx hb dM_node_199 (by decide) ?_
            refine lv_goto (tgt := 204) hx hb dM_node_200 (by decide) ?_
            refine lv_istore (lv' := [(7, .int 1), (0, .ref (a 18)), (8, .int x8)]) hx hb dM_node_204 hl (by decide) rfl (fun ls hl => ?_)
            refine lv_aload_n hx hb dM_node_206 rfl (lv_at hl 1 rfl) ?_
            refine va_get (D := (dC, dI)) (ci := 3) (v := .ref (a 31)) (C := RM) (T := TM) (N := 19) hx hb hts (fun w h => List.mem_cons_of_mem _ (inM w h)) hown hK hP 18 rfl rfl 16 (by decide) (hts (.fieldLink RM 46 "CoverTreesModel" "settled" "[Z") (List.mem_cons_of_mem _ wt_460)) (fun _ h9 => h9) rfl dM_node_207 ?_
            refine lv_iload hx hb dM_node_210 (lv_at hl 2 rfl) ?_
            refine lv_iconst (v := 0) hx hb dM_node_212 (by decide) ?_
            obtain ⟨hi42, hw⟩ := hw
            refine va_zast hx hb hK hP (hDa _ _) hS 31 27 rfl rfl hi42 dM_node_213 (fun H locs hP _ hS => ?_)
            obtain ⟨f_43, ef_43⟩ : ∃ z : ctF, z = va_up f 31 (upd (f 31) x8.toNatClampNeg (vp_nar .boolean 0)) := ⟨_, rfl⟩
            have hw := hw f_43 ef_43
            have hP : va_P (dC, dI) vcl (ctW a cA n f_43) H := by rw [ef_43]; exact hP
            obtain ⟨x8_44, ex8_44⟩ : ∃ y : Int32, y = x8 + 1 := ⟨_, rfl⟩
            have hw := hw x8_44 ex8_44
            refine lv_iinc (v := x8_44) (lv' := [(8, .int x8_44), (7, .int 1), (0, .ref (a 18))]) hx hb dM_node_214 hl (k := 2) rfl (by rw [ex8_44]; rfl) (by decide) rfl (fun ls hl => ?_)
            refine lv_goto (tgt := 167) hx hb dM_node_217 (by decide) ?_
            exact ih 1 x8_44 n f_43 _ _ ls hw hP hS (lv_sub hl [2, 1, 0] rfl)
  have join_152 : ∀ (s0 s1 : Int32) (n : ctN) (f : ctF) (H : Heap) (locs : List Loc) (ls : Array Slot), wp_M_node_J152 post s0 s1 n f → va_P (dC, dI) vcl (ctW a cA n f) H → va_S A s.heap H locs → lv_has ls 9 [(0, .ref (a 18))] → W p l e (headSpec wsM_node ({ frames := 3, cells := 0, slots := 0, locals := 75 } : Room)).room s m (([.ref (a 18), .int p1, .int p2, .int p3] : List Value).toArray) below meth c H locs 0 0 (MQ below (va_Qi (fun (r : Int32) (u : ctN × ctF) => post r u.1 u.2) (ct_B dC dI a cA) A) (([.ref (a 18), .int p1, .int p2, .int p3] : List Value).toArray) s 0 0 A) (F0 m 152 ls [.int s0, .int s1, .ref (a 27)]) := by
    intro s0 s1 n f H locs ls hw hP hS hl
    unfold wp_M_node_J152 at hw
    obtain ⟨hi18, hw⟩ := hw
    refine va_iast hx hb hK hP (hDa _ _) hS 27 23 rfl rfl hi18 dM_node_152 (fun H locs hP _ hS => ?_)
    obtain ⟨f_19, ef_19⟩ : ∃ z : ctF, z = va_up f 27 (upd (f 27) s1.toNatClampNeg s0) := ⟨_, rfl⟩
    have hw := hw f_19 ef_19
    have hP : va_P (dC, dI) vcl (ctW a cA n f_19) H := by rw [ef_19]; exact hP
    refine lv_aload_n hx hb dM_node_153 rfl (lv_at hl 0 rfl) ?_
    refine lv_aload_n hx hb dM_node_154 rfl (lv_at hl 0 rfl) ?_
    refine va_get (D := (dC, dI)) (ci := 3) (v := .int (n 6)) (C := RM) (T := TM) (N := 19) hx hb hts (fun w h => List.mem_cons_of_mem _ (inM w h)) hown hK hP 18 rfl rfl 9 (by decide) (hts (.fieldLink RM 60 "CoverTreesModel" "nodes" "I") (List.mem_cons_of_mem _ wt_453)) (fun _ h9 => h9) rfl dM_node_155 ?_
    refine ct_v (va_runV (As := [.int (n 6)]) (rest := []) ⟨hx, hb, hml, hown, hts⟩ (met_M_price l dC dI a cA sa (n 6) n f_19 _ hw) (cwV 1 hts (wb_V wt_548 wt_550 wt_17 wt_30 wt_551) rfl rfl rfl (by decide +kernel) ⟨Nat.le_of_ble_eq_true rfl, Nat.le_of_ble_eq_true rfl⟩) (ct_preV hK hP (hDa _ _) hZ hS hA (va_recv hK hP (ci := 3) (q0 := 18) rfl rfl)) rfl rfl hl.1 rfl (lv_room (Nat.le_of_ble_eq_true rfl)) dM_node_158 ⟨Nat.le_of_ble_eq_true rfl, Nat.le_of_ble_eq_true rfl⟩) (hDa _ _) hS hA (fun n_21 f_22 H locs hw hP hS => ?_)
    refine lv_iconst (v := 0) hx hb dM_node_161 (by decide) ?_
    refine lv_istore (lv' := [(7, .int 0), (0, .ref (a 18))]) hx hb dM_node_162 hl (by decide) rfl (fun ls hl => ?_)
    refine lv_iconst (v := 0) hx hb dM_node_164 (by decide) ?_
    refine lv_istore (lv' := [(8, .int 0), (7, .int 0), (0, .ref (a 18))]) hx hb dM_node_165 hl (by decide) rfl (fun ls hl => ?_)
    obtain ⟨j, hw⟩ := hw
    exact loop_167 j 0 0 n_21 f_22 _ _ ls hw hP hS (lv_sub hl [2, 1, 0] rfl)
  have join_132 : ∀ (x3 x5 s0 s1 : Int32) (n : ctN) (f : ctF) (H : Heap) (locs : List Loc) (ls : Array Slot), wp_M_node_J132 post x3 x5 s0 s1 n f → va_P (dC, dI) vcl (ctW a cA n f) H → va_S A s.heap H locs → lv_has ls 9 [(0, .ref (a 18)), (3, .int x3), (5, .int x5)] → W p l e (headSpec wsM_node ({ frames := 3, cells := 0, slots := 0, locals := 75 } : Room)).room s m (([.ref (a 18), .int p1, .int p2, .int p3] : List Value).toArray) below meth c H locs 0 0 (MQ below (va_Qi (fun (r : Int32) (u : ctN × ctF) => post r u.1 u.2) (ct_B dC dI a cA) A) (([.ref (a 18), .int p1, .int p2, .int p3] : List Value).toArray) s 0 0 A) (F0 m 132 ls [.int s0, .int s1, .ref (a 26)]) := by
    intro x3 x5 s0 s1 n f H locs ls hw hP hS hl
    unfold wp_M_node_J132 at hw
    obtain ⟨hi15, hw⟩ := hw
    refine va_iast hx hb hK hP (hDa _ _) hS 26 22 rfl rfl hi15 dM_node_132 (fun H locs hP _ hS => ?_)
    obtain ⟨f_16, ef_16⟩ : ∃ z : ctF, z = va_up f 26 (upd (f 26) s1.toNatClampNeg s0) := ⟨_, rfl⟩
    have hw := hw f_16 ef_16
    have hP : va_P (dC, dI) vcl (ctW a cA n f_16) H := by rw [ef_16]; exact hP
    refine lv_aload_n hx hb dM_node_133 rfl (lv_at hl 0 rfl) ?_
    refine va_get (D := (dC, dI)) (ci := 3) (v := .ref (a 27)) (C := RM) (T := TM) (N := 19) hx hb hts (fun w h => List.mem_cons_of_mem _ (inM w h)) hown hK hP 18 rfl rfl 12 (by decide) (hts (.fieldLink RM 34 "CoverTreesModel" "two" "[I") (List.mem_cons_of_mem _ wt_456)) (fun _ h9 => h9) rfl dM_node_134 ?_
    refine lv_aload_n hx hb dM_node_137 rfl (lv_at hl 0 rfl) ?_
    refine va_get (D := (dC, dI)) (ci := 3) (v := .int (n 6)) (C := RM) (T := TM) (N := 19) hx hb hts (fun w h => List.mem_cons_of_mem _ (inM w h)) hown hK hP 18 rfl rfl 9 (by decide) (hts (.fieldLink RM 60 "CoverTreesModel" "nodes" "I") (List.mem_cons_of_mem _ wt_453)) (fun _ h9 => h9) rfl dM_node_138 ?_
    refine lv_iload hx hb dM_node_141 (lv_at hl 2 rfl) ?_
    refine lv_iconst (v := 1) hx hb dM_node_143 (by decide) ?_
    refine lv_icmp_le (tgt := 151) hx hb dM_node_144 (by decide) (fun c17 => ?_) (fun c17 => ?_)
    · have hw := hw.1 c17
      refine lv_iconst (v := 0) hx hb dM_node_151 (by decide) ?_
      exact join_152 0 (n 6) n f_16 _ _ ls hw hP hS (lv_sub hl [0] rfl)
    · have hw := hw.2 c17
      refine lv_iload_n hx hb dM_node_147 rfl (lv_at hl 1 rfl) ?_
      refine lv_goto (tgt := 152) hx hb dM_node_148 (by decide) ?_
      exact join_152 x3 (n 6) n f_16 _ _ ls hw hP hS (lv_sub hl [0] rfl)
  have join_95 : ∀ (x1 x2 x3 x5 s0 s1 : Int32) (n : ctN) (f : ctF) (H : Heap) (locs : List Loc) (ls : Array Slot), wp_M_node_J95 post x1 x2 x3 x5 s0 s1 n f → va_P (dC, dI) vcl (ctW a cA n f) H → va_S A s.heap H locs → lv_has ls 9 [(0, .ref (a 18)), (1, .int x1), (2, .int x2), (3, .int x3), (5, .int x5)] → W p l e (headSpec wsM_node ({ frames := 3, cells := 0, slots := 0, locals := 75 } : Room)).room s m (([.ref (a 18), .int p1, .int p2, .int p3] : List Value).toArray) below meth c H locs 0 0 (MQ below (va_Qi (fun (r : Int32) (u : ctN × ctF) => post r u.1 u.2) (ct_B dC dI a cA) A) (([.ref (a 18), .int p1, .int p2, .int p3] : List Value).toArray) s 0 0 A) (F0 m 95 ls [.int s0, .int s1, .ref (a 18)]) := by
    intro x1 x2 x3 x5 s0 s1 n f H locs ls hw hP hS hl
    unfold wp_M_node_J95 at hw
    refine lv_iconst (v := 0) hx hb dM_node_95 (by decide) ?_
    refine ct_i (va_runV (As := [.int s1, .int s0, .int 0]) (rest := []) ⟨hx, hb, hml, hown, hts⟩ (met_M_refuse l dC dI a cA sa s1 s0 0 n f _ hw) (cwV 3 hts (wb_V wt_521 wt_523 wt_14 wt_30 wt_524) rfl rfl rfl (by decide +kernel) ⟨Nat.le_of_ble_eq_true rfl, Nat.le_of_ble_eq_true rfl⟩) (ct_preV hK hP (hDa _ _) hZ hS hA (va_recv hK hP (ci := 3) (q0 := 18) rfl rfl)) rfl rfl hl.1 rfl (lv_room (Nat.le_of_ble_eq_true rfl)) dM_node_96 ⟨Nat.le_of_ble_eq_true rfl, Nat.le_of_ble_eq_true rfl⟩) (hDa _ _) hS hA (fun r8 n_9 f_10 H locs hw hP hS => ?_)
    refine lv_if_eq (tgt := 104) hx hb dM_node_99 (by decide) (fun c11 => ?_) (fun c11 => ?_)
    · have hw := hw.1 c11
      refine lv_aload_n hx hb dM_node_104 rfl (lv_at hl 0 rfl) ?_
      refine va_get (D := (dC, dI)) (ci := 3) (v := .ref (a 25)) (C := RM) (T := TM) (N := 19) hx hb hts (fun w h => List.mem_cons_of_mem _ (inM w h)) hown hK hP 18 rfl rfl 10 (by decide) (hts (.fieldLink RM 28 "CoverTreesModel" "kinds" "[I") (List.mem_cons_of_mem _ wt_454)) (fun _ h9 => h9) rfl dM_node_105 ?_
      refine lv_aload_n hx hb dM_node_108 rfl (lv_at hl 0 rfl) ?_
      refine va_get (D := (dC, dI)) (ci := 3) (v := .int (n_9 6)) (C := RM) (T := TM) (N := 19) hx hb hts (fun w h => List.mem_cons_of_mem _ (inM w h)) hown hK hP 18 rfl rfl 9 (by decide) (hts (.fieldLink RM 60 "CoverTreesModel" "nodes" "I") (List.mem_cons_of_mem _ wt_453)) (fun _ h9 => h9) rfl dM_node_109 ?_
      refine lv_iload_n hx hb dM_node_112 rfl (lv_at hl 1 rfl) ?_
      obtain ⟨hi12, hw⟩ := hw
      refine va_iast hx hb hK hP (hDa _ _) hS 25 21 rfl rfl hi12 dM_node_113 (fun H locs hP _ hS => ?_)
      obtain ⟨f_13, ef_13⟩ : ∃ z : ctF, z = va_up f_10 25 (upd (f_10 25) (n_9 6).toNatClampNeg x1) := ⟨_, rfl⟩
      have hw := hw f_13 ef_13
      have hP : va_P (dC, dI) vcl (ctW a cA n_9 f_13) H := by rw [ef_13]; exact hP
      refine lv_aload_n hx hb dM_node_114 rfl (lv_at hl 0 rfl) ?_
      refine va_get (D := (dC, dI)) (ci := 3) (v := .ref (a 26)) (C := RM) (T := TM) (N := 19) hx hb hts (fun w h => List.mem_cons_of_mem _ (inM w h)) hown hK hP 18 rfl rfl 11 (by decide) (hts (.fieldLink RM 31 "CoverTreesModel" "one" "[I") (List.mem_cons_of_mem _ wt_455)) (fun _ h9 => h9) rfl dM_node_115 ?_
      refine lv_aload_n hx hb dM_node_118 rfl (lv_at hl 0 rfl) ?_
      refine va_get (D := (dC, dI)) (ci := 3) (v := .int (n_9 6)) (C := RM) (T := TM) (N := 19) hx hb hts (fun w h => List.mem_cons_of_mem _ (inM w h)) hown hK hP 18 rfl rfl 9 (by decide) (hts (.fieldLink RM 60 "CoverTreesModel" "nodes" "I") (List.mem_cons_of_mem _ wt_453)) (fun _ h9 => h9) rfl dM_node_119 ?_
      refine lv_iload hx hb dM_node_122 (lv_at hl 4 rfl) ?_
      refine lv_if_le (tgt := 131) hx hb dM_node_124 (by decide) (fun c14 => ?_) (fun c14 => ?_)
      · have hw := hw.1 c14
        refine lv_iconst (v := 0) hx hb dM_node_131 (by decide) ?_
        exact join_132 x3 x5 0 (n_9 6) n_9 f_13 _ _ ls hw hP hS (lv_sub hl [0, 3, 4] rfl)
      · have hw := hw.2 c14
        refine lv_iload_n hx hb dM_node_127 rfl (lv_at hl 2 rfl) ?_
        refine lv_goto (tgt := 132) hx hb dM_node_128 (by decide) ?_
        exact join_132 x3 x5 x2 (n_9 6) n_9 f_13 _ _ ls hw hP hS (lv_sub hl [0, 3, 4] rfl)
    · have hw := hw.2 c11
      refine lv_iconst (v := 0) hx hb dM_node_102 (by decide) ?_
      exact W.iret (v := 0) hx hb hr (fun t ht hW => ⟨⟨0, (n_9, f_10), rfl, hw, ct_mkB ht hP⟩, hS.F ht⟩) hS.2.2 dM_node_103
  have join_81 : ∀ (x1 x2 x3 x5 s0 : Int32) (n : ctN) (f : ctF) (H : Heap) (locs : List Loc) (ls : Array Slot), wp_M_node_J81 post x1 x2 x3 x5 s0 n f → va_P (dC, dI) vcl (ctW a cA n f) H → va_S A s.heap H locs → lv_has ls 9 [(0, .ref (a 18)), (1, .int x1), (2, .int x2), (3, .int x3), (5, .int x5)] → W p l e (headSpec wsM_node ({ frames := 3, cells := 0, slots := 0, locals := 75 } : Room)).room s m (([.ref (a 18), .int p1, .int p2, .int p3] : List Value).toArray) below meth c H locs 0 0 (MQ below (va_Qi (fun (r : Int32) (u : ctN × ctF) => post r u.1 u.2) (ct_B dC dI a cA) A) (([.ref (a 18), .int p1, .int p2, .int p3] : List Value).toArray) s 0 0 A) (F0 m 81 ls [.int s0, .ref (a 18)]) := by
    intro x1 x2 x3 x5 s0 n f H locs ls hw hP hS hl
    unfold wp_M_node_J81 at hw
    refine lv_aload_n hx hb dM_node_81 rfl (lv_at hl 0 rfl) ?_
    refine va_get (D := (dC, dI)) (ci := 3) (v := .int (n 6)) (C := RM) (T := TM) (N := 19) hx hb hts (fun w h => List.mem_cons_of_mem _ (inM w h)) hown hK hP 18 rfl rfl 9 (by decide) (hts (.fieldLink RM 60 "CoverTreesModel" "nodes" "I") (List.mem_cons_of_mem _ wt_453)) (fun _ h9 => h9) rfl dM_node_82 ?_
    refine lv_bipush (v := 120) hx hb dM_node_85 (by decide) ?_
    refine lv_icmp_ne (tgt := 94) hx hb dM_node_87 (by decide) (fun c7 => ?_) (fun c7 => ?_)
    · have hw := hw.1 c7
      refine lv_iconst (v := 0) hx hb dM_node_94 (by decide) ?_
      exact join_95 x1 x2 x3 x5 0 s0 n f _ _ ls hw hP hS (lv_sub hl [0, 1, 2, 3, 4] rfl)
    · have hw := hw.2 c7
      refine lv_iconst (v := 1) hx hb dM_node_90 (by decide) ?_
      refine lv_goto (tgt := 95) hx hb dM_node_91 (by decide) ?_
      exact join_95 x1 x2 x3 x5 1 s0 n f _ _ ls hw hP hS (lv_sub hl [0, 1, 2, 3, 4] rfl)
  have join_68 : ∀ (x1 x2 x3 x5 s0 : Int32) (n : ctN) (f : ctF) (H : Heap) (locs : List Loc) (ls : Array Slot), wp_M_node_J68 post x1 x2 x3 x5 s0 n f → va_P (dC, dI) vcl (ctW a cA n f) H → va_S A s.heap H locs → lv_has ls 9 [(0, .ref (a 18)), (1, .int x1), (2, .int x2), (3, .int x3), (5, .int x5)] → W p l e (headSpec wsM_node ({ frames := 3, cells := 0, slots := 0, locals := 75 } : Room)).room s m (([.ref (a 18), .int p1, .int p2, .int p3] : List Value).toArray) below meth c H locs 0 0 (MQ below (va_Qi (fun (r : Int32) (u : ctN × ctF) => post r u.1 u.2) (ct_B dC dI a cA) A) (([.ref (a 18), .int p1, .int p2, .int p3] : List Value).toArray) s 0 0 A) (F0 m 68 ls [.int s0]) := by
    intro x1 x2 x3 x5 s0 n f H locs ls hw hP hS hl
    unfold wp_M_node_J68 at hw
    refine lv_istore (lv' := [(6, .int s0), (0, .ref (a 18)), (1, .int x1), (2, .int x2), (3, .int x3), (5, .int x5)]) hx hb dM_node_68 hl (by decide) rfl (fun ls hl => ?_)
    refine lv_aload_n hx hb dM_node_70 rfl (lv_at hl 1 rfl) ?_
    refine lv_iload hx hb dM_node_71 (lv_at hl 0 rfl) ?_
    refine lv_if_ne (tgt := 80) hx hb dM_node_73 (by decide) (fun c6 => ?_) (fun c6 => ?_)
    · have hw := hw.1 c6
      refine lv_iconst (v := 0) hx hb dM_node_80 (by decide) ?_
      exact join_81 x1 x2 x3 x5 0 n f _ _ ls hw hP hS (lv_sub hl [1, 2, 3, 4, 5] rfl)
    · have hw := hw.2 c6
      refine lv_iconst (v := 1) hx hb dM_node_76 (by decide) ?_
      refine lv_goto (tgt := 81) hx hb dM_node_77 (by decide) ?_
      exact join_81 x1 x2 x3 x5 1 n f _ _ ls hw hP hS (lv_sub hl [1, 2, 3, 4, 5] rfl)
  have join_67 : ∀ (x1 x2 x3 x5 : Int32) (n : ctN) (f : ctF) (H : Heap) (locs : List Loc) (ls : Array Slot), wp_M_node_J67 post x1 x2 x3 x5 n f → va_P (dC, dI) vcl (ctW a cA n f) H → va_S A s.heap H locs → lv_has ls 9 [(0, .ref (a 18)), (1, .int x1), (2, .int x2), (3, .int x3), (5, .int x5)] → W p l e (headSpec wsM_node ({ frames := 3, cells := 0, slots := 0, locals := 75 } : Room)).room s m (([.ref (a 18), .int p1, .int p2, .int p3] : List Value).toArray) below meth c H locs 0 0 (MQ below (va_Qi (fun (r : Int32) (u : ctN × ctF) => post r u.1 u.2) (ct_B dC dI a cA) A) (([.ref (a 18), .int p1, .int p2, .int p3] : List Value).toArray) s 0 0 A) (F0 m 67 ls []) := by
    intro x1 x2 x3 x5 n f H locs ls hw hP hS hl
    unfold wp_M_node_J67 at hw
    refine lv_iconst (v := 0) hx hb dM_node_67 (by decide) ?_
    exact join_68 x1 x2 x3 x5 0 n f _ _ ls hw hP hS (lv_sub hl [0, 1, 2, 3, 4] rfl)
  have join_63 : ∀ (x1 x2 x3 x5 : Int32) (n : ctN) (f : ctF) (H : Heap) (locs : List Loc) (ls : Array Slot), wp_M_node_J63 post x1 x2 x3 x5 n f → va_P (dC, dI) vcl (ctW a cA n f) H → va_S A s.heap H locs → lv_has ls 9 [(0, .ref (a 18)), (1, .int x1), (2, .int x2), (3, .int x3), (5, .int x5)] → W p l e (headSpec wsM_node ({ frames := 3, cells := 0, slots := 0, locals := 75 } : Room)).room s m (([.ref (a 18), .int p1, .int p2, .int p3] : List Value).toArray) below meth c H locs 0 0 (MQ below (va_Qi (fun (r : Int32) (u : ctN × ctF) => post r u.1 u.2) (ct_B dC dI a cA) A) (([.ref (a 18), .int p1, .int p2, .int p3] : List Value).toArray) s 0 0 A) (F0 m 63 ls []) := by
    intro x1 x2 x3 x5 n f H locs ls hw hP hS hl
    unfold wp_M_node_J63 at hw
    refine lv_iconst (v := 1) hx hb dM_node_63 (by decide) ?_
    refine lv_goto (tgt := 68) hx hb dM_node_64 (by decide) ?_
    exact join_68 x1 x2 x3 x5 1 n f _ _ ls hw hP hS (lv_sub hl [0, 1, 2, 3, 4] rfl)
  have join_49 : ∀ (x1 x2 x3 x5 : Int32) (n : ctN) (f : ctF) (H : Heap) (locs : List Loc) (ls : Array Slot), wp_M_node_J49 post x1 x2 x3 x5 n f → va_P (dC, dI) vcl (ctW a cA n f) H → va_S A s.heap H locs → lv_has ls 9 [(0, .ref (a 18)), (1, .int x1), (2, .int x2), (3, .int x3), (5, .int x5)] → W p l e (headSpec wsM_node ({ frames := 3, cells := 0, slots := 0, locals := 75 } : Room)).room s m (([.ref (a 18), .int p1, .int p2, .int p3] : List Value).toArray) below meth c H locs 0 0 (MQ below (va_Qi (fun (r : Int32) (u : ctN × ctF) => post r u.1 u.2) (ct_B dC dI a cA) A) (([.ref (a 18), .int p1, .int p2, .int p3] : List Value).toArray) s 0 0 A) (F0 m 49 ls []) := by
    intro x1 x2 x3 x5 n f H locs ls hw hP hS hl
    unfold wp_M_node_J49 at hw
    refine lv_iload hx hb dM_node_49 (lv_at hl 4 rfl) ?_
    refine lv_iconst (v := 2) hx hb dM_node_51 (by decide) ?_
    refine lv_icmp_lt (tgt := 63) hx hb dM_node_52 (by decide) (fun c46 => ?_) (fun c46 => ?_)
    · have hw := hw.1 c46
      exact join_63 x1 x2 x3 x5 n f _ _ ls hw hP hS (lv_sub hl [0, 1, 2, 3, 4] rfl)
    · have hw := hw.2 c46
      refine lv_aload_n hx hb dM_node_55 rfl (lv_at hl 0 rfl) ?_
      refine lv_iload_n hx hb dM_node_56 rfl (lv_at hl 3 rfl) ?_
      refine ct_i (va_runV (As := [.int x3]) (rest := []) ⟨hx, hb, hml, hown, hts⟩ (met_M_isNode l dC dI a cA sa x3 n f _ hw) (cwV 1 hts (wb_V wt_544 wt_546 wt_16 wt_30 wt_547) rfl rfl rfl (by decide +kernel) ⟨Nat.le_of_ble_eq_true rfl, Nat.le_of_ble_eq_true rfl⟩) (ct_preV hK hP (hDa _ _) hZ hS hA (va_recv hK hP (ci := 3) (q0 := 18) rfl rfl)) rfl rfl hl.1 rfl (lv_room (Nat.le_of_ble_eq_true rfl)) dM_node_57 ⟨Nat.le_of_ble_eq_true rfl, Nat.le_of_ble_eq_true rfl⟩) (hDa _ _) hS hA (fun r47 n_48 f_49 H locs hw hP hS => ?_)
      refine lv_if_eq (tgt := 67) hx hb dM_node_60 (by decide) (fun c50 => ?_) (fun c50 => ?_)
      · have hw := hw.1 c50
        exact join_67 x1 x2 x3 x5 n_48 f_49 _ _ ls hw hP hS (lv_sub hl [0, 1, 2, 3, 4] rfl)
      · have hw := hw.2 c50
        exact join_63 x1 x2 x3 x5 n_48 f_49 _ _ ls hw hP hS (lv_sub hl [0, 1, 2, 3, 4] rfl)
  have join_28 : ∀ (x1 x2 x3 x4 s0 : Int32) (n : ctN) (f : ctF) (H : Heap) (locs : List Loc) (ls : Array Slot), wp_M_node_J28 post x1 x2 x3 x4 s0 n f → va_P (dC, dI) vcl (ctW a cA n f) H → va_S A s.heap H locs → lv_has ls 9 [(0, .ref (a 18)), (1, .int x1), (2, .int x2), (3, .int x3), (4, .int x4)] → W p l e (headSpec wsM_node ({ frames := 3, cells := 0, slots := 0, locals := 75 } : Room)).room s m (([.ref (a 18), .int p1, .int p2, .int p3] : List Value).toArray) below meth c H locs 0 0 (MQ below (va_Qi (fun (r : Int32) (u : ctN × ctF) => post r u.1 u.2) (ct_B dC dI a cA) A) (([.ref (a 18), .int p1, .int p2, .int p3] : List Value).toArray) s 0 0 A) (F0 m 28 ls [.int s0]) := by
    intro x1 x2 x3 x4 s0 n f H locs ls hw hP hS hl
    unfold wp_M_node_J28 at hw
    refine lv_istore (lv' := [(5, .int s0), (0, .ref (a 18)), (1, .int x1), (2, .int x2), (3, .int x3), (4, .int x4)]) hx hb dM_node_28 hl (by decide) rfl (fun ls hl => ?_)
    refine lv_iload hx hb dM_node_30 (lv_at hl 5 rfl) ?_
    refine lv_if_eq (tgt := 67) hx hb dM_node_32 (by decide) (fun c5 => ?_) (fun c5 => ?_)
    · have hw := hw.1 c5
      exact join_67 x1 x2 x3 s0 n f _ _ ls hw hP hS (lv_sub hl [1, 2, 3, 4, 0] rfl)
    · have hw := hw.2 c5
      refine lv_iload hx hb dM_node_35 (lv_at hl 0 rfl) ?_
      refine lv_iconst (v := 1) hx hb dM_node_37 (by decide) ?_
      refine lv_icmp_lt (tgt := 49) hx hb dM_node_38 (by decide) (fun c45 => ?_) (fun c45 => ?_)
      · have hw := hw.1 c45
        exact join_49 x1 x2 x3 s0 n f _ _ ls hw hP hS (lv_sub hl [1, 2, 3, 4, 0] rfl)
      · have hw := hw.2 c45
        refine lv_aload_n hx hb dM_node_41 rfl (lv_at hl 1 rfl) ?_
        refine lv_iload_n hx hb dM_node_42 rfl (lv_at hl 3 rfl) ?_
        refine ct_i (va_runV (As := [.int x2]) (rest := []) ⟨hx, hb, hml, hown, hts⟩ (met_M_isNode l dC dI a cA sa x2 n f _ hw) (cwV 1 hts (wb_V wt_544 wt_546 wt_16 wt_30 wt_547) rfl rfl rfl (by decide +kernel) ⟨Nat.le_of_ble_eq_true rfl, Nat.le_of_ble_eq_true rfl⟩) (ct_preV hK hP (hDa _ _) hZ hS hA (va_recv hK hP (ci := 3) (q0 := 18) rfl rfl)) rfl rfl hl.1 rfl (lv_room (Nat.le_of_ble_eq_true rfl)) dM_node_43 ⟨Nat.le_of_ble_eq_true rfl, Nat.le_of_ble_eq_true rfl⟩) (hDa _ _) hS hA (fun r51 n_52 f_53 H locs hw hP hS => ?_)
        refine lv_if_eq (tgt := 67) hx hb dM_node_46 (by decide) (fun c54 => ?_) (fun c54 => ?_)
        · have hw := hw.1 c54
          exact join_67 x1 x2 x3 s0 n_52 f_53 _ _ ls hw hP hS (lv_sub hl [1, 2, 3, 4, 0] rfl)
        · have hw := hw.2 c54
          exact join_49 x1 x2 x3 s0 n_52 f_53 _ _ ls hw hP hS (lv_sub hl [1, 2, 3, 4, 0] rfl)
  refine lv_iload_n hx hb dM_node_0 rfl (lv_at hl 1 rfl) ?_
  refine lv_iconst (v := 0) hx hb dM_node_1 (by decide) ?_
  refine lv_aload_n hx hb dM_node_2 rfl (lv_at hl 0 rfl) ?_
  refine va_get (D := (dC, dI)) (ci := 3) (v := .int (n 4)) (C := RM) (T := TM) (N := 19) hx hb hts (fun w h => List.mem_cons_of_mem _ (inM w h)) hown hK hP 18 rfl rfl 1 (by decide) (hts (.fieldLink RM 54 "CoverTreesModel" "operators" "I") (List.mem_cons_of_mem _ wt_445)) (fun _ h9 => h9) rfl dM_node_3 ?_
  refine lv_iconst (v := 1) hx hb dM_node_6 (by decide) ?_
  refine lv_isub hx hb dM_node_7 ?_
  refine ct_i (va_runS (As := [.int p1, .int 0, .int ((n 4) - 1)]) (rest := []) ⟨hx, hb, hml, hown, hts⟩ (met_M_in l dC dI a cA sa p1 0 ((n 4) - 1) n f _ hw) (cwS 3 hts (wb_S wt_518 wt_519 wt_30 wt_520) rfl rfl rfl (by decide +kernel) ⟨Nat.le_of_ble_eq_true rfl, Nat.le_of_ble_eq_true rfl⟩) (ct_pre hK hP (hDa _ _) hZ hS hA) rfl rfl hl.1 rfl (lv_room (Nat.le_of_ble_eq_true rfl)) dM_node_8 ⟨Nat.le_of_ble_eq_true rfl, Nat.le_of_ble_eq_true rfl⟩) (hDa _ _) hS hA (fun r1 n_2 f_3 H locs hw hP hS => ?_)
  refine lv_istore (lv' := [(4, .int r1), (0, .ref (a 18)), (1, .int p1), (2, .int p2), (3, .int p3)]) hx hb dM_node_11 hl (by decide) rfl (fun ls hl => ?_)
  refine lv_iload hx hb dM_node_13 (lv_at hl 0 rfl) ?_
  refine lv_if_eq (tgt := 27) hx hb dM_node_15 (by decide) (fun c4 => ?_) (fun c4 => ?_)
  · have hw := hw.1 c4
    refine lv_iconst (v := 0) hx hb dM_node_27 (by decide) ?_
    exact join_28 p1 p2 p3 r1 0 n_2 f_3 _ _ ls hw hP hS (lv_sub hl [1, 2, 3, 4, 0] rfl)
  · have hw := hw.2 c4
    refine lv_aload_n hx hb dM_node_18 rfl (lv_at hl 1 rfl) ?_
    refine va_get (D := (dC, dI)) (ci := 3) (v := .ref (a 19)) (C := RM) (T := TM) (N := 19) hx hb hts (fun w h => List.mem_cons_of_mem _ (inM w h)) hown hK hP 18 rfl rfl 2 (by decide) (hts (.fieldLink RM 7 "CoverTreesModel" "parts" "[I") (List.mem_cons_of_mem _ wt_446)) (fun _ h9 => h9) rfl dM_node_19 ?_
    refine lv_iload_n hx hb dM_node_22 rfl (lv_at hl 2 rfl) ?_
    obtain ⟨hi55, hw⟩ := hw
    refine va_iald hx hb hK hP 19 15 rfl rfl hi55 dM_node_23 ?_
    refine lv_goto (tgt := 28) hx hb dM_node_24 (by decide) ?_
    exact join_28 p1 p2 p3 r1 (f_3 19 p1.toNatClampNeg) n_2 f_3 _ _ ls hw hP hS (lv_sub hl [1, 2, 3, 4, 0] rfl)
