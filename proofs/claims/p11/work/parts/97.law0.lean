/-! the law, walked to the end that answers 0 -/
def lw_Q0 (_ : Array Value) (s : State) (o : Outcome) (t : State) : Prop := o = .returned (some (.int 0)) ∧ Framed s o t [] 1074 15491
def lw_Z0 (below : List Frame) (a : Array Value) (s : State) : State → Prop := fun t => ∃ o, t.status = .running ∧ Ended t below o ∧ lw_Q0 a s o t
theorem lw_ret0 {p : Program} {l : Launch} {e : Env} {s : State} {m : MethodId} {below : List Frame} {meth : Method} {c : Code} {b : Nat} (hx : p.tables.exec = Jvm.exec) (hb : c.code = code) (hr : meth.sig.returnType = ret) (hlocks : meth.locks = false) {pc : Nat} {H : Heap} {ls : Array Slot} (hdg : decode code pc = .ok (.ireturn, 1)) : W p l e room_1 s m #[Value.ref b] below meth c H [] 1074 15491 (lw_Z0 below #[Value.ref b] s) (F0 m pc ls [.int 0]) := by
  intro T hT X
  obtain ⟨fs, hret, hrun, hended, hW, hframe⟩ := X.leave (v := some (.int 0)) (hlocks := hlocks) (fun h => by rw [hr] at h; cases h)
  have hmeth' : T.vm.method? m = some meth := X.method'
  refine ⟨T.setFrames fs, ?_, .returned (some (.int 0)), hrun, hended, rfl, ⟨_, rfl⟩, hW, hframe⟩
  jvm_step X.here [X.here.top, hx, hb, hdg, hmeth', hr, ret, narrow_b0]
  (try refine ⟨rfl, ?_⟩); (try refine ⟨rfl, ?_⟩)
  first | (intro acts; rw [hret _ acts rfl rfl rfl]) | rw [hret _ _ rfl rfl rfl]
  exact Steps.refl _
def wp_law0 (xs : Nat → Int32) (L : Nat) : Nat → Int32 → ctN → ctF → Prop
  | 0, _, _, _ => False
  | k + 1, x4, n, f => (((Int32.ofNat L) - 6) < x4 → (False)) ∧ (¬ ((Int32.ofNat L) - 6) < x4 → (vp_in x4 L ∧ ((((xs x4.toNatClampNeg) &&& 15).toInt = 0 → (wp_C_clear (fun (n_4 : ctN) (f_5 : ctF) => wp_M_clear (fun (n_7 : ctN) (f_8 : ctF) => ∀ x4_9 : Int32, x4_9 = x4 + 6 → (wp_law0 xs L k x4_9 n_7 f_8)) n_4 f_5) n f)) ∧ (((xs x4.toNatClampNeg) &&& 15).toInt = 1 → (wp_C_fell (fun (n_11 : ctN) (f_12 : ctF) => wp_M_fell (fun (n_14 : ctN) (f_15 : ctF) => ∀ x4_16 : Int32, x4_16 = x4 + 6 → (wp_law0 xs L k x4_16 n_14 f_15)) n_11 f_12) n f)) ∧ (((xs x4.toNatClampNeg) &&& 15).toInt = 2 → (vp_in (x4 + 1) L ∧ (wp_L_operator (fun (r18 : Int32) (n_19 : ctN) (f_20 : ctF) => vp_in (x4 + 1) L ∧ (wp_M_operator (fun (r22 : Int32) (n_23 : ctN) (f_24 : ctF) => ∀ x4_25 : Int32, x4_25 = x4 + 6 → (wp_law0 xs L k x4_25 n_23 f_24)) (xs (x4 + 1).toNatClampNeg) n_19 f_20)) (xs (x4 + 1).toNatClampNeg) n f))) ∧ (((xs x4.toNatClampNeg) &&& 15).toInt = 3 → (vp_in (x4 + 1) L ∧ (vp_in (x4 + 2) L ∧ (vp_in (x4 + 3) L ∧ (vp_in (x4 + 4) L ∧ (vp_in (x4 + 5) L ∧ (wp_L_base (fun (r31 : Int32) (n_32 : ctN) (f_33 : ctF) => vp_in (x4 + 1) L ∧ (vp_in (x4 + 2) L ∧ (vp_in (x4 + 3) L ∧ (vp_in (x4 + 4) L ∧ (vp_in (x4 + 5) L ∧ (wp_M_base (fun (r39 : Int32) (n_40 : ctN) (f_41 : ctF) => ∀ x4_42 : Int32, x4_42 = x4 + 6 → (wp_law0 xs L k x4_42 n_40 f_41)) (xs (x4 + 1).toNatClampNeg) (xs (x4 + 2).toNatClampNeg) (xs (x4 + 3).toNatClampNeg) (xs (x4 + 4).toNatClampNeg) (xs (x4 + 5).toNatClampNeg) n_32 f_33)))))) (xs (x4 + 1).toNatClampNeg) (xs (x4 + 2).toNatClampNeg) (xs (x4 + 3).toNatClampNeg) (xs (x4 + 4).toNatClampNeg) (xs (x4 + 5).toNatClampNeg) n f))))))) ∧ (((xs x4.toNatClampNeg) &&& 15).toInt = 4 → (vp_in (x4 + 1) L ∧ (vp_in (x4 + 2) L ∧ (vp_in (x4 + 3) L ∧ (wp_L_chain (fun (r46 : Int32) (n_47 : ctN) (f_48 : ctF) => vp_in (x4 + 1) L ∧ (vp_in (x4 + 2) L ∧ (vp_in (x4 + 3) L ∧ (wp_M_chain (fun (r52 : Int32) (n_53 : ctN) (f_54 : ctF) => ∀ x4_55 : Int32, x4_55 = x4 + 6 → (wp_law0 xs L k x4_55 n_53 f_54)) (xs (x4 + 1).toNatClampNeg) (xs (x4 + 2).toNatClampNeg) (xs (x4 + 3).toNatClampNeg) n_47 f_48)))) (xs (x4 + 1).toNatClampNeg) (xs (x4 + 2).toNatClampNeg) (xs (x4 + 3).toNatClampNeg) n f))))) ∧ (((xs x4.toNatClampNeg) &&& 15).toInt = 5 → (vp_in (x4 + 1) L ∧ (vp_in (x4 + 2) L ∧ (vp_in (x4 + 3) L ∧ (wp_L_node (fun (r59 : Int32) (n_60 : ctN) (f_61 : ctF) => vp_in (x4 + 1) L ∧ (vp_in (x4 + 2) L ∧ (vp_in (x4 + 3) L ∧ (wp_M_node (fun (r65 : Int32) (n_66 : ctN) (f_67 : ctF) => ∀ x4_68 : Int32, x4_68 = x4 + 6 → (wp_law0 xs L k x4_68 n_66 f_67)) (xs (x4 + 1).toNatClampNeg) (xs (x4 + 2).toNatClampNeg) (xs (x4 + 3).toNatClampNeg) n_60 f_61)))) (xs (x4 + 1).toNatClampNeg) (xs (x4 + 2).toNatClampNeg) (xs (x4 + 3).toNatClampNeg) n f))))) ∧ (((xs x4.toNatClampNeg) &&& 15).toInt = 6 → (vp_in (x4 + 1) L ∧ (vp_in (x4 + 2) L ∧ (wp_L_cost (fun (r71 : Int32) (n_72 : ctN) (f_73 : ctF) => vp_in (x4 + 1) L ∧ (vp_in (x4 + 2) L ∧ (wp_M_cost (fun (r76 : Int32) (n_77 : ctN) (f_78 : ctF) => ∀ x4_79 : Int32, x4_79 = x4 + 6 → (wp_law0 xs L k x4_79 n_77 f_78)) (xs (x4 + 1).toNatClampNeg) (xs (x4 + 2).toNatClampNeg) n_72 f_73))) (xs (x4 + 1).toNatClampNeg) (xs (x4 + 2).toNatClampNeg) n f)))) ∧ (((xs x4.toNatClampNeg) &&& 15).toInt = 7 → (vp_in (x4 + 1) L ∧ (vp_in (x4 + 2) L ∧ (wp_L_rule (fun (r82 : Int32) (n_83 : ctN) (f_84 : ctF) => vp_in (x4 + 1) L ∧ (vp_in (x4 + 2) L ∧ (wp_M_rule (fun (r87 : Int32) (n_88 : ctN) (f_89 : ctF) => ∀ x4_90 : Int32, x4_90 = x4 + 6 → (wp_law0 xs L k x4_90 n_88 f_89)) (xs (x4 + 1).toNatClampNeg) (xs (x4 + 2).toNatClampNeg) n_83 f_84))) (xs (x4 + 1).toNatClampNeg) (xs (x4 + 2).toNatClampNeg) n f)))) ∧ (((xs x4.toNatClampNeg) &&& 15).toInt = 8 → (vp_in (x4 + 1) L ∧ (vp_in (x4 + 2) L ∧ (wp_L_size (fun (r93 : Int32) (n_94 : ctN) (f_95 : ctF) => vp_in (x4 + 1) L ∧ (vp_in (x4 + 2) L ∧ (wp_M_size (fun (r98 : Int32) (n_99 : ctN) (f_100 : ctF) => ∀ x4_101 : Int32, x4_101 = x4 + 6 → (wp_law0 xs L k x4_101 n_99 f_100)) (xs (x4 + 1).toNatClampNeg) (xs (x4 + 2).toNatClampNeg) n_94 f_95))) (xs (x4 + 1).toNatClampNeg) (xs (x4 + 2).toNatClampNeg) n f)))) ∧ (((xs x4.toNatClampNeg) &&& 15).toInt = 9 → (vp_in (x4 + 1) L ∧ (vp_in (x4 + 2) L ∧ (vp_in (x4 + 3) L ∧ (vp_in (x4 + 4) L ∧ (wp_L_cover (fun (r106 : Int32) (n_107 : ctN) (f_108 : ctF) => vp_in (x4 + 1) L ∧ (vp_in (x4 + 2) L ∧ (vp_in (x4 + 3) L ∧ (vp_in (x4 + 4) L ∧ (wp_M_cover (fun (r113 : Int32) (n_114 : ctN) (f_115 : ctF) => wp_M_thrown (fun (r116 : Int32) (n_117 : ctN) (f_118 : ctF) => (r116 = r106 → ((¬ r106 = 0 → (∀ x4_121 : Int32, x4_121 = x4 + 6 → (wp_law0 xs L k x4_121 n_117 f_118))) ∧ (r106 = 0 → (∀ y122 : Int64, y122 = (f_118 32 (0 : Int32).toNatClampNeg).toInt64 → (((lg_cmp y122 (r113.toInt64)) = 0 → (∀ x4_124 : Int32, x4_124 = x4 + 6 → (wp_law0 xs L k x4_124 n_117 f_118))) ∧ (¬ (lg_cmp y122 (r113.toInt64)) = 0 → (True))))))) ∧ (¬ r116 = r106 → (True))) n_114 f_115) (xs (x4 + 1).toNatClampNeg) (xs (x4 + 2).toNatClampNeg) (xs (x4 + 3).toNatClampNeg) (xs (x4 + 4).toNatClampNeg) n_107 f_108))))) (xs (x4 + 1).toNatClampNeg) (xs (x4 + 2).toNatClampNeg) (xs (x4 + 3).toNatClampNeg) (xs (x4 + 4).toNatClampNeg) n f)))))) ∧ (((xs x4.toNatClampNeg) &&& 15).toInt = 10 → (wp_C_states (fun (r125 : Int32) (n_126 : ctN) (f_127 : ctF) => wp_M_states (fun (r128 : Int32) (n_129 : ctN) (f_130 : ctF) => ∀ x4_131 : Int32, x4_131 = x4 + 6 → (wp_law0 xs L k x4_131 n_129 f_130)) n_126 f_127) n f)) ∧ (((xs x4.toNatClampNeg) &&& 15).toInt = 11 → (vp_in (x4 + 1) L ∧ (wp_L_like (fun (r133 : Int32) (n_134 : ctN) (f_135 : ctF) => vp_in (x4 + 1) L ∧ (wp_M_like (fun (r137 : Int32) (n_138 : ctN) (f_139 : ctF) => ∀ x4_140 : Int32, x4_140 = x4 + 6 → (wp_law0 xs L k x4_140 n_138 f_139)) (xs (x4 + 1).toNatClampNeg) n_134 f_135)) (xs (x4 + 1).toNatClampNeg) n f))) ∧ ((((xs x4.toNatClampNeg) &&& 15).toInt < 0 ∨ 11 < ((xs x4.toNatClampNeg) &&& 15).toInt) → (∀ x4_141 : Int32, x4_141 = x4 + 6 → (wp_law0 xs L k x4_141 n f))))))
set_option maxHeartbeats 8000000 in
set_option maxRecDepth 100000 in
theorem law_loop0 {p : Program} {l : Launch} (hl9 : l.stackTraces = false) {e : Env} {s : State} {m : MethodId} {below : List Frame} {meth : Method} {c : Code} {dC : Nat → ClassId} {dI : Nat → Nat → Nat} {a : Nat → Nat} {cA : Nat → ClassId} {sa : Nat → Nat} {b L : Nat} {xs : Nat → Int32} (hts : ∀ w ∈ wsLaw, w.before #[Value.ref b] s = true) (C0 : lw_At p s m meth c b L xs) (hK : va_K (dC, dI) vcl (ctT cA) s) (hZ : ctZ sa (fun q : Nat => s.heap.size ≤ q) s s.heap) (hDa : ∀ (n : ctN) (f : ctF), va_D (fun q : Nat => s.heap.size ≤ q) (ctW a cA n f)) :
    ∀ (k : Nat) (x4 : Int32) (n : ctN) (f : ctF) (H : Heap) (locs : List Loc) (ls : Array Slot) (cells slots : Nat), cells + k ≤ 1074 → slots + 6 * k ≤ 15491 → wp_law0 xs L k x4 n f → va_P (dC, dI) vcl (ctW a cA n f) H → va_S (fun q : Nat => s.heap.size ≤ q) s.heap H locs → lv_has ls 7 [(0, .ref b), (1, .ref (a 0)), (2, .ref (a 18)), (3, .ref (a 32)), (4, .int x4)] → W p l e room_1 s m #[Value.ref b] below meth c H locs cells slots (lw_Z0 below #[Value.ref b] s) (F0 m 23 ls []) := by
  obtain ⟨hx, hb, hr, hml, hown, -, hX, hbl, hlocks, hgv⟩ := C0
  have hA : ∀ q : Nat, s.heap.size ≤ q → (fun q : Nat => s.heap.size ≤ q) q := fun _ h => h
  have hbA : ¬ (fun q : Nat => s.heap.size ≤ q) b := Nat.not_le.mpr hbl
  intro k
  induction k with
  | zero => intro x4 n f H locs ls cells slots _ _ hw; exact hw.elim
  | succ k ih =>
    intro x4 n f H locs ls cells slots hc1 hc2 hw hP hS hl
    rw [wp_law0] at hw
    refine lv_iload hx hb dL_law_23 (lv_at hl 4 rfl) ?_
    refine lv_aload_n hx hb dL_law_25 rfl (lv_at hl 0 rfl) ?_
    refine va_slen hx hb hX hbl hbA hS dL_law_26 ?_
    refine lv_bipush (v := 6) hx hb dL_law_27 (by decide) ?_
    refine lv_isub hx hb dL_law_29 ?_
    refine lv_icmp_gt (tgt := 593) hx hb dL_law_30 (by decide) (fun c1 => ?_) (fun c1 => ?_)
    · have hw := hw.1 c1
      refine lv_iconst (v := 1) hx hb dL_law_593 (by decide) ?_
      exact False.elim hw
    · have hw := hw.2 c1
      refine lv_aload_n hx hb dL_law_33 rfl (lv_at hl 0 rfl) ?_
      refine lv_iload hx hb dL_law_34 (lv_at hl 4 rfl) ?_
      obtain ⟨hi2, hw⟩ := hw
      refine va_sld hx hb hX hbl hbA hS hi2 dL_law_36 ?_
      refine lv_bipush (v := 15) hx hb dL_law_37 (by decide) ?_
      refine lv_iand hx hb dL_law_39 ?_
      rcases (show ((xs x4.toNatClampNeg) &&& 15).toInt = 0 ∨ ((xs x4.toNatClampNeg) &&& 15).toInt = 1 ∨ ((xs x4.toNatClampNeg) &&& 15).toInt = 2 ∨ ((xs x4.toNatClampNeg) &&& 15).toInt = 3 ∨ ((xs x4.toNatClampNeg) &&& 15).toInt = 4 ∨ ((xs x4.toNatClampNeg) &&& 15).toInt = 5 ∨ ((xs x4.toNatClampNeg) &&& 15).toInt = 6 ∨ ((xs x4.toNatClampNeg) &&& 15).toInt = 7 ∨ ((xs x4.toNatClampNeg) &&& 15).toInt = 8 ∨ ((xs x4.toNatClampNeg) &&& 15).toInt = 9 ∨ ((xs x4.toNatClampNeg) &&& 15).toInt = 10 ∨ ((xs x4.toNatClampNeg) &&& 15).toInt = 11 ∨ (((xs x4.toNatClampNeg) &&& 15).toInt < 0 ∨ 11 < ((xs x4.toNatClampNeg) &&& 15).toInt) by omega) with cs | cs | cs | cs | cs | cs | cs | cs | cs | cs | cs | cs | cs
      · have hw := hw.1 cs
        refine lv_tableIn (tgt := 104) hx hb dL_law_40 (by omega) (by omega) (by rw [cs]; rfl) (by decide) ?_
        refine lv_aload_n hx hb dL_law_104 rfl (lv_at hl 1 rfl) ?_
        refine ct_v (va_runV (As := []) (rest := []) ⟨hx, hb, hml, hown, hts⟩ (met_C_clear l dC dI a cA sa n f _ hw) (cwV 0 hts (wb_V wt_141 wt_142 wt_143 wt_27 wt_144) rfl rfl rfl (by decide +kernel) ⟨Nat.le_of_ble_eq_true rfl, Nat.le_of_ble_eq_true rfl⟩) (ct_preV hK hP (hDa _ _) hZ hS hA (va_recv hK hP (ci := 0) (q0 := 0) rfl rfl)) rfl rfl hl.1 rfl (lv_room (Nat.le_of_ble_eq_true rfl)) dL_law_105 ⟨by show _ ≤ 1074; omega, by show _ ≤ 15491; omega⟩) (hDa _ _) hS hA (fun n_4 f_5 H locs hw hP hS => ?_)
        refine lv_aload_n hx hb dL_law_108 rfl (lv_at hl 2 rfl) ?_
        refine ct_v (va_runV (As := []) (rest := []) ⟨hx, hb, hml, hown, hts⟩ (met_M_clear l dC dI a cA sa n_4 f_5 _ hw) (cwV 0 hts (wb_V wt_506 wt_507 wt_508 wt_30 wt_509) rfl rfl rfl (by decide +kernel) ⟨Nat.le_of_ble_eq_true rfl, Nat.le_of_ble_eq_true rfl⟩) (ct_preV hK hP (hDa _ _) hZ hS hA (va_recv hK hP (ci := 3) (q0 := 18) rfl rfl)) rfl rfl hl.1 rfl (lv_room (Nat.le_of_ble_eq_true rfl)) dL_law_109 ⟨by show _ ≤ 1074; omega, by show _ ≤ 15491; omega⟩) (hDa _ _) hS hA (fun n_7 f_8 H locs hw hP hS => ?_)
        refine lv_goto (tgt := 587) hx hb dL_law_112 (by decide) ?_
        obtain ⟨x4_9, ex4_9⟩ : ∃ y : Int32, y = x4 + 6 := ⟨_, rfl⟩
        have hw := hw x4_9 ex4_9
        refine lv_iinc (v := x4_9) (lv' := [(4, .int x4_9), (0, .ref b), (1, .ref (a 0)), (2, .ref (a 18)), (3, .ref (a 32))]) hx hb dL_law_587 hl (k := 4) rfl (by rw [ex4_9]; rfl) (by decide) rfl (fun ls hl => ?_)
        refine lv_goto (tgt := 23) hx hb dL_law_590 (by decide) ?_
        exact ih x4_9 n_7 f_8 _ _ ls _ _ (by omega) (by omega) hw hP hS (lv_sub hl [1, 2, 3, 4, 0] rfl)
      · have hw := hw.2.1 cs
        refine lv_tableIn (tgt := 115) hx hb dL_law_40 (by omega) (by omega) (by rw [cs]; rfl) (by decide) ?_
        refine lv_aload_n hx hb dL_law_115 rfl (lv_at hl 1 rfl) ?_
        refine ct_v (va_runV (As := []) (rest := []) ⟨hx, hb, hml, hown, hts⟩ (met_C_fell l dC dI a cA sa n f _ hw) (cwV 0 hts (wb_V wt_145 wt_146 wt_147 wt_27 wt_148) rfl rfl rfl (by decide +kernel) ⟨Nat.le_of_ble_eq_true rfl, Nat.le_of_ble_eq_true rfl⟩) (ct_preV hK hP (hDa _ _) hZ hS hA (va_recv hK hP (ci := 0) (q0 := 0) rfl rfl)) rfl rfl hl.1 rfl (lv_room (Nat.le_of_ble_eq_true rfl)) dL_law_116 ⟨by show _ ≤ 1074; omega, by show _ ≤ 15491; omega⟩) (hDa _ _) hS hA (fun n_11 f_12 H locs hw hP hS => ?_)
        refine lv_aload_n hx hb dL_law_119 rfl (lv_at hl 2 rfl) ?_
        refine ct_v (va_runV (As := []) (rest := []) ⟨hx, hb, hml, hown, hts⟩ (met_M_fell l dC dI a cA sa n_11 f_12 _ hw) (cwV 0 hts (wb_V wt_510 wt_511 wt_512 wt_30 wt_513) rfl rfl rfl (by decide +kernel) ⟨Nat.le_of_ble_eq_true rfl, Nat.le_of_ble_eq_true rfl⟩) (ct_preV hK hP (hDa _ _) hZ hS hA (va_recv hK hP (ci := 3) (q0 := 18) rfl rfl)) rfl rfl hl.1 rfl (lv_room (Nat.le_of_ble_eq_true rfl)) dL_law_120 ⟨by show _ ≤ 1074; omega, by show _ ≤ 15491; omega⟩) (hDa _ _) hS hA (fun n_14 f_15 H locs hw hP hS => ?_)
        refine lv_goto (tgt := 587) hx hb dL_law_123 (by decide) ?_
        obtain ⟨x4_16, ex4_16⟩ : ∃ y : Int32, y = x4 + 6 := ⟨_, rfl⟩
        have hw := hw x4_16 ex4_16
        refine lv_iinc (v := x4_16) (lv' := [(4, .int x4_16), (0, .ref b), (1, .ref (a 0)), (2, .ref (a 18)), (3, .ref (a 32))]) hx hb dL_law_587 hl (k := 4) rfl (by rw [ex4_16]; rfl) (by decide) rfl (fun ls hl => ?_)
        refine lv_goto (tgt := 23) hx hb dL_law_590 (by decide) ?_
        exact ih x4_16 n_14 f_15 _ _ ls _ _ (by omega) (by omega) hw hP hS (lv_sub hl [1, 2, 3, 4, 0] rfl)
      · have hw := hw.2.2.1 cs
        refine lv_tableIn (tgt := 126) hx hb dL_law_40 (by omega) (by omega) (by rw [cs]; rfl) (by decide) ?_
        refine lv_aload_n hx hb dL_law_126 rfl (lv_at hl 1 rfl) ?_
        refine lv_aload_n hx hb dL_law_127 rfl (lv_at hl 0 rfl) ?_
        refine lv_iload hx hb dL_law_128 (lv_at hl 4 rfl) ?_
        refine lv_iconst (v := 1) hx hb dL_law_130 (by decide) ?_
        refine lv_iadd hx hb dL_law_131 ?_
        obtain ⟨hi17, hw⟩ := hw
        refine va_sld hx hb hX hbl hbA hS hi17 dL_law_132 ?_
        refine lv_aload_n hx hb dL_law_133 rfl (lv_at hl 3 rfl) ?_
        refine ct_ic (vx_runSW (As := [.ref (a 0), .int (xs (x4 + 1).toNatClampNeg), .ref (a 32)]) (rest := []) ⟨hx, hb, hml, hown, hts⟩ (met_L_operator l hl9 dC dI a cA sa (xs (x4 + 1).toNatClampNeg) n f _ hw) (vx_cwSW 3 hts (wb_in (wb_c2 wt_157 (wb_c2 wt_158 (wb_c2 wt_26 (wb_cons wt_159))))) rfl rfl rfl (by decide +kernel) ⟨Nat.le_of_ble_eq_true rfl, Nat.le_of_ble_eq_true rfl⟩) (ct_pre hK hP (hDa _ _) hZ hS hA) rfl rfl hl.1 rfl (lv_room (Nat.le_of_ble_eq_true rfl)) dL_law_134 ⟨by show _ ≤ 1074; omega, by show _ ≤ 15491; omega⟩) (hDa _ _) hS hA (fun r18 n_19 f_20 H locs hw hP hS => ?_)
        refine lv_istore (lv' := [(5, .int r18), (0, .ref b), (1, .ref (a 0)), (2, .ref (a 18)), (3, .ref (a 32)), (4, .int x4)]) hx hb dL_law_137 hl (by decide) rfl (fun ls hl => ?_)
        refine lv_aload_n hx hb dL_law_139 rfl (lv_at hl 3 rfl) ?_
        refine lv_aload_n hx hb dL_law_140 rfl (lv_at hl 1 rfl) ?_
        refine lv_iload hx hb dL_law_141 (lv_at hl 5 rfl) ?_
        refine lv_iconst (v := 1) hx hb dL_law_143 (by decide) ?_
        refine lv_iadd hx hb dL_law_144 ?_
        obtain ⟨hi21, hw⟩ := hw
        refine va_sld hx hb hX hbl hbA hS hi21 dL_law_145 ?_
        refine ct_i (va_runV (As := [.int (xs (x4 + 1).toNatClampNeg)]) (rest := []) ⟨hx, hb, hml, hown, hts⟩ (met_M_operator l dC dI a cA sa (xs (x4 + 1).toNatClampNeg) n_19 f_20 _ hw) (cwV 1 hts (wb_V wt_514 wt_515 wt_516 wt_30 wt_517) rfl rfl rfl (by decide +kernel) ⟨Nat.le_of_ble_eq_true rfl, Nat.le_of_ble_eq_true rfl⟩) (ct_preV hK hP (hDa _ _) hZ hS hA (va_recv hK hP (ci := 3) (q0 := 18) rfl rfl)) rfl rfl hl.1 rfl (lv_room (Nat.le_of_ble_eq_true rfl)) dL_law_146 ⟨by show _ ≤ 1074; omega, by show _ ≤ 15491; omega⟩) (hDa _ _) hS hA (fun r22 n_23 f_24 H locs hw hP hS => ?_)
        refine lv_istore (lv' := [(6, .int r22), (5, .int r18), (0, .ref b), (1, .ref (a 0)), (2, .ref (a 18)), (3, .ref (a 32)), (4, .int x4)]) hx hb dL_law_149 hl (by decide) rfl (fun ls hl => ?_)
        refine lv_goto (tgt := 587) hx hb dL_law_151 (by decide) ?_
        obtain ⟨x4_25, ex4_25⟩ : ∃ y : Int32, y = x4 + 6 := ⟨_, rfl⟩
        have hw := hw x4_25 ex4_25
        refine lv_iinc (v := x4_25) (lv' := [(4, .int x4_25), (6, .int r22), (5, .int r18), (0, .ref b), (1, .ref (a 0)), (2, .ref (a 18)), (3, .ref (a 32))]) hx hb dL_law_587 hl (k := 6) rfl (by rw [ex4_25]; rfl) (by decide) rfl (fun ls hl => ?_)
        refine lv_goto (tgt := 23) hx hb dL_law_590 (by decide) ?_
        exact ih x4_25 n_23 f_24 _ _ ls _ _ (by omega) (by omega) hw hP hS (lv_sub hl [3, 4, 5, 6, 0] rfl)
      · have hw := hw.2.2.2.1 cs
        refine lv_tableIn (tgt := 154) hx hb dL_law_40 (by omega) (by omega) (by rw [cs]; rfl) (by decide) ?_
        refine lv_aload_n hx hb dL_law_154 rfl (lv_at hl 1 rfl) ?_
        refine lv_aload_n hx hb dL_law_155 rfl (lv_at hl 0 rfl) ?_
        refine lv_iload hx hb dL_law_156 (lv_at hl 4 rfl) ?_
        refine lv_iconst (v := 1) hx hb dL_law_158 (by decide) ?_
        refine lv_iadd hx hb dL_law_159 ?_
        obtain ⟨hi26, hw⟩ := hw
        refine va_sld hx hb hX hbl hbA hS hi26 dL_law_160 ?_
        refine lv_aload_n hx hb dL_law_161 rfl (lv_at hl 0 rfl) ?_
        refine lv_iload hx hb dL_law_162 (lv_at hl 4 rfl) ?_
        refine lv_iconst (v := 2) hx hb dL_law_164 (by decide) ?_
        refine lv_iadd hx hb dL_law_165 ?_
        obtain ⟨hi27, hw⟩ := hw
        refine va_sld hx hb hX hbl hbA hS hi27 dL_law_166 ?_
        refine lv_aload_n hx hb dL_law_167 rfl (lv_at hl 0 rfl) ?_
        refine lv_iload hx hb dL_law_168 (lv_at hl 4 rfl) ?_
        refine lv_iconst (v := 3) hx hb dL_law_170 (by decide) ?_
        refine lv_iadd hx hb dL_law_171 ?_
        obtain ⟨hi28, hw⟩ := hw
        refine va_sld hx hb hX hbl hbA hS hi28 dL_law_172 ?_
        refine lv_aload_n hx hb dL_law_173 rfl (lv_at hl 0 rfl) ?_
        refine lv_iload hx hb dL_law_174 (lv_at hl 4 rfl) ?_
        refine lv_iconst (v := 4) hx hb dL_law_176 (by decide) ?_
        refine lv_iadd hx hb dL_law_177 ?_
        obtain ⟨hi29, hw⟩ := hw
        refine va_sld hx hb hX hbl hbA hS hi29 dL_law_178 ?_
        refine lv_aload_n hx hb dL_law_179 rfl (lv_at hl 0 rfl) ?_
        refine lv_iload hx hb dL_law_180 (lv_at hl 4 rfl) ?_
        refine lv_iconst (v := 5) hx hb dL_law_182 (by decide) ?_
        refine lv_iadd hx hb dL_law_183 ?_
        obtain ⟨hi30, hw⟩ := hw
        refine va_sld hx hb hX hbl hbA hS hi30 dL_law_184 ?_
        refine lv_aload_n hx hb dL_law_185 rfl (lv_at hl 3 rfl) ?_
        refine ct_ic (vx_runSW (As := [.ref (a 0), .int (xs (x4 + 1).toNatClampNeg), .int (xs (x4 + 2).toNatClampNeg), .int (xs (x4 + 3).toNatClampNeg), .int (xs (x4 + 4).toNatClampNeg), .int (xs (x4 + 5).toNatClampNeg), .ref (a 32)]) (rest := []) ⟨hx, hb, hml, hown, hts⟩ (met_L_base l hl9 dC dI a cA sa (xs (x4 + 1).toNatClampNeg) (xs (x4 + 2).toNatClampNeg) (xs (x4 + 3).toNatClampNeg) (xs (x4 + 4).toNatClampNeg) (xs (x4 + 5).toNatClampNeg) n f _ hw) (vx_cwSW 7 hts (wb_in (wb_c2 wt_254 (wb_c2 wt_255 (wb_c2 wt_26 (wb_cons wt_256))))) rfl rfl rfl (by decide +kernel) ⟨Nat.le_of_ble_eq_true rfl, Nat.le_of_ble_eq_true rfl⟩) (ct_pre hK hP (hDa _ _) hZ hS hA) rfl rfl hl.1 rfl (lv_room (Nat.le_of_ble_eq_true rfl)) dL_law_186 ⟨by show _ ≤ 1074; omega, by show _ ≤ 15491; omega⟩) (hDa _ _) hS hA (fun r31 n_32 f_33 H locs hw hP hS => ?_)
        refine lv_istore (lv' := [(5, .int r31), (0, .ref b), (1, .ref (a 0)), (2, .ref (a 18)), (3, .ref (a 32)), (4, .int x4)]) hx hb dL_law_189 hl (by decide) rfl (fun ls hl => ?_)
        refine lv_aload_n hx hb dL_law_191 rfl (lv_at hl 3 rfl) ?_
        refine lv_aload_n hx hb dL_law_192 rfl (lv_at hl 1 rfl) ?_
        refine lv_iload hx hb dL_law_193 (lv_at hl 5 rfl) ?_
        refine lv_iconst (v := 1) hx hb dL_law_195 (by decide) ?_
        refine lv_iadd hx hb dL_law_196 ?_
        obtain ⟨hi34, hw⟩ := hw
        refine va_sld hx hb hX hbl hbA hS hi34 dL_law_197 ?_
        refine lv_aload_n hx hb dL_law_198 rfl (lv_at hl 1 rfl) ?_
        refine lv_iload hx hb dL_law_199 (lv_at hl 5 rfl) ?_
        refine lv_iconst (v := 2) hx hb dL_law_201 (by decide) ?_
        refine lv_iadd hx hb dL_law_202 ?_
        obtain ⟨hi35, hw⟩ := hw
        refine va_sld hx hb hX hbl hbA hS hi35 dL_law_203 ?_
        refine lv_aload_n hx hb dL_law_204 rfl (lv_at hl 1 rfl) ?_
        refine lv_iload hx hb dL_law_205 (lv_at hl 5 rfl) ?_
        refine lv_iconst (v := 3) hx hb dL_law_207 (by decide) ?_
        refine lv_iadd hx hb dL_law_208 ?_
        obtain ⟨hi36, hw⟩ := hw
        refine va_sld hx hb hX hbl hbA hS hi36 dL_law_209 ?_
        refine lv_aload_n hx hb dL_law_210 rfl (lv_at hl 1 rfl) ?_
        refine lv_iload hx hb dL_law_211 (lv_at hl 5 rfl) ?_
        refine lv_iconst (v := 4) hx hb dL_law_213 (by decide) ?_
        refine lv_iadd hx hb dL_law_214 ?_
        obtain ⟨hi37, hw⟩ := hw
        refine va_sld hx hb hX hbl hbA hS hi37 dL_law_215 ?_
        refine lv_aload_n hx hb dL_law_216 rfl (lv_at hl 1 rfl) ?_
        refine lv_iload hx hb dL_law_217 (lv_at hl 5 rfl) ?_
        refine lv_iconst (v := 5) hx hb dL_law_219 (by decide) ?_
        refine lv_iadd hx hb dL_law_220 ?_
        obtain ⟨hi38, hw⟩ := hw
        refine va_sld hx hb hX hbl hbA hS hi38 dL_law_221 ?_
        refine ct_i (va_runV (As := [.int (xs (x4 + 1).toNatClampNeg), .int (xs (x4 + 2).toNatClampNeg), .int (xs (x4 + 3).toNatClampNeg), .int (xs (x4 + 4).toNatClampNeg), .int (xs (x4 + 5).toNatClampNeg)]) (rest := []) ⟨hx, hb, hml, hown, hts⟩ (met_M_base l dC dI a cA sa (xs (x4 + 1).toNatClampNeg) (xs (x4 + 2).toNatClampNeg) (xs (x4 + 3).toNatClampNeg) (xs (x4 + 4).toNatClampNeg) (xs (x4 + 5).toNatClampNeg) n_32 f_33 _ hw) (cwV 5 hts (wb_V wt_525 wt_526 wt_527 wt_30 wt_528) rfl rfl rfl (by decide +kernel) ⟨Nat.le_of_ble_eq_true rfl, Nat.le_of_ble_eq_true rfl⟩) (ct_preV hK hP (hDa _ _) hZ hS hA (va_recv hK hP (ci := 3) (q0 := 18) rfl rfl)) rfl rfl hl.1 rfl (lv_room (Nat.le_of_ble_eq_true rfl)) dL_law_222 ⟨by show _ ≤ 1074; omega, by show _ ≤ 15491; omega⟩) (hDa _ _) hS hA (fun r39 n_40 f_41 H locs hw hP hS => ?_)
        refine lv_istore (lv' := [(6, .int r39), (5, .int r31), (0, .ref b), (1, .ref (a 0)), (2, .ref (a 18)), (3, .ref (a 32)), (4, .int x4)]) hx hb dL_law_225 hl (by decide) rfl (fun ls hl => ?_)
        refine lv_goto (tgt := 587) hx hb dL_law_227 (by decide) ?_
        obtain ⟨x4_42, ex4_42⟩ : ∃ y : Int32, y = x4 + 6 := ⟨_, rfl⟩
        have hw := hw x4_42 ex4_42
        refine lv_iinc (v := x4_42) (lv' := [(4, .int x4_42), (6, .int r39), (5, .int r31), (0, .ref b), (1, .ref (a 0)), (2, .ref (a 18)), (3, .ref (a 32))]) hx hb dL_law_587 hl (k := 6) rfl (by rw [ex4_42]; rfl) (by decide) rfl (fun ls hl => ?_)
        refine lv_goto (tgt := 23) hx hb dL_law_590 (by decide) ?_
        exact ih x4_42 n_40 f_41 _ _ ls _ _ (by omega) (by omega) hw hP hS (lv_sub hl [3, 4, 5, 6, 0] rfl)
      · have hw := hw.2.2.2.2.1 cs
        refine lv_tableIn (tgt := 230) hx hb dL_law_40 (by omega) (by omega) (by rw [cs]; rfl) (by decide) ?_
        refine lv_aload_n hx hb dL_law_230 rfl (lv_at hl 1 rfl) ?_
        refine lv_aload_n hx hb dL_law_231 rfl (lv_at hl 0 rfl) ?_
        refine lv_iload hx hb dL_law_232 (lv_at hl 4 rfl) ?_
        refine lv_iconst (v := 1) hx hb dL_law_234 (by decide) ?_
        refine lv_iadd hx hb dL_law_235 ?_
        obtain ⟨hi43, hw⟩ := hw
        refine va_sld hx hb hX hbl hbA hS hi43 dL_law_236 ?_
        refine lv_aload_n hx hb dL_law_237 rfl (lv_at hl 0 rfl) ?_
        refine lv_iload hx hb dL_law_238 (lv_at hl 4 rfl) ?_
        refine lv_iconst (v := 2) hx hb dL_law_240 (by decide) ?_
        refine lv_iadd hx hb dL_law_241 ?_
        obtain ⟨hi44, hw⟩ := hw
        refine va_sld hx hb hX hbl hbA hS hi44 dL_law_242 ?_
        refine lv_aload_n hx hb dL_law_243 rfl (lv_at hl 0 rfl) ?_
        refine lv_iload hx hb dL_law_244 (lv_at hl 4 rfl) ?_
        refine lv_iconst (v := 3) hx hb dL_law_246 (by decide) ?_
        refine lv_iadd hx hb dL_law_247 ?_
        obtain ⟨hi45, hw⟩ := hw
        refine va_sld hx hb hX hbl hbA hS hi45 dL_law_248 ?_
        refine lv_aload_n hx hb dL_law_249 rfl (lv_at hl 3 rfl) ?_
        refine ct_ic (vx_runSW (As := [.ref (a 0), .int (xs (x4 + 1).toNatClampNeg), .int (xs (x4 + 2).toNatClampNeg), .int (xs (x4 + 3).toNatClampNeg), .ref (a 32)]) (rest := []) ⟨hx, hb, hml, hown, hts⟩ (met_L_chain l hl9 dC dI a cA sa (xs (x4 + 1).toNatClampNeg) (xs (x4 + 2).toNatClampNeg) (xs (x4 + 3).toNatClampNeg) n f _ hw) (vx_cwSW 5 hts (wb_in (wb_c2 wt_283 (wb_c2 wt_284 (wb_c2 wt_26 (wb_cons wt_285))))) rfl rfl rfl (by decide +kernel) ⟨Nat.le_of_ble_eq_true rfl, Nat.le_of_ble_eq_true rfl⟩) (ct_pre hK hP (hDa _ _) hZ hS hA) rfl rfl hl.1 rfl (lv_room (Nat.le_of_ble_eq_true rfl)) dL_law_250 ⟨by show _ ≤ 1074; omega, by show _ ≤ 15491; omega⟩) (hDa _ _) hS hA (fun r46 n_47 f_48 H locs hw hP hS => ?_)
        refine lv_istore (lv' := [(5, .int r46), (0, .ref b), (1, .ref (a 0)), (2, .ref (a 18)), (3, .ref (a 32)), (4, .int x4)]) hx hb dL_law_253 hl (by decide) rfl (fun ls hl => ?_)
        refine lv_aload_n hx hb dL_law_255 rfl (lv_at hl 3 rfl) ?_
        refine lv_aload_n hx hb dL_law_256 rfl (lv_at hl 1 rfl) ?_
        refine lv_iload hx hb dL_law_257 (lv_at hl 5 rfl) ?_
        refine lv_iconst (v := 1) hx hb dL_law_259 (by decide) ?_
        refine lv_iadd hx hb dL_law_260 ?_
        obtain ⟨hi49, hw⟩ := hw
        refine va_sld hx hb hX hbl hbA hS hi49 dL_law_261 ?_
        refine lv_aload_n hx hb dL_law_262 rfl (lv_at hl 1 rfl) ?_
        refine lv_iload hx hb dL_law_263 (lv_at hl 5 rfl) ?_
        refine lv_iconst (v := 2) hx hb dL_law_265 (by decide) ?_
        refine lv_iadd hx hb dL_law_266 ?_
        obtain ⟨hi50, hw⟩ := hw
        refine va_sld hx hb hX hbl hbA hS hi50 dL_law_267 ?_
        refine lv_aload_n hx hb dL_law_268 rfl (lv_at hl 1 rfl) ?_
        refine lv_iload hx hb dL_law_269 (lv_at hl 5 rfl) ?_
        refine lv_iconst (v := 3) hx hb dL_law_271 (by decide) ?_
        refine lv_iadd hx hb dL_law_272 ?_
        obtain ⟨hi51, hw⟩ := hw
        refine va_sld hx hb hX hbl hbA hS hi51 dL_law_273 ?_
        refine ct_i (va_runV (As := [.int (xs (x4 + 1).toNatClampNeg), .int (xs (x4 + 2).toNatClampNeg), .int (xs (x4 + 3).toNatClampNeg)]) (rest := []) ⟨hx, hb, hml, hown, hts⟩ (met_M_chain l dC dI a cA sa (xs (x4 + 1).toNatClampNeg) (xs (x4 + 2).toNatClampNeg) (xs (x4 + 3).toNatClampNeg) n_47 f_48 _ hw) (cwV 3 hts (wb_V wt_536 wt_537 wt_538 wt_30 wt_539) rfl rfl rfl (by decide +kernel) ⟨Nat.le_of_ble_eq_true rfl, Nat.le_of_ble_eq_true rfl⟩) (ct_preV hK hP (hDa _ _) hZ hS hA (va_recv hK hP (ci := 3) (q0 := 18) rfl rfl)) rfl rfl hl.1 rfl (lv_room (Nat.le_of_ble_eq_true rfl)) dL_law_274 ⟨by show _ ≤ 1074; omega, by show _ ≤ 15491; omega⟩) (hDa _ _) hS hA (fun r52 n_53 f_54 H locs hw hP hS => ?_)
        refine lv_istore (lv' := [(6, .int r52), (5, .int r46), (0, .ref b), (1, .ref (a 0)), (2, .ref (a 18)), (3, .ref (a 32)), (4, .int x4)]) hx hb dL_law_277 hl (by decide) rfl (fun ls hl => ?_)
        refine lv_goto (tgt := 587) hx hb dL_law_279 (by decide) ?_
        obtain ⟨x4_55, ex4_55⟩ : ∃ y : Int32, y = x4 + 6 := ⟨_, rfl⟩
        have hw := hw x4_55 ex4_55
        refine lv_iinc (v := x4_55) (lv' := [(4, .int x4_55), (6, .int r52), (5, .int r46), (0, .ref b), (1, .ref (a 0)), (2, .ref (a 18)), (3, .ref (a 32))]) hx hb dL_law_587 hl (k := 6) rfl (by rw [ex4_55]; rfl) (by decide) rfl (fun ls hl => ?_)
        refine lv_goto (tgt := 23) hx hb dL_law_590 (by decide) ?_
        exact ih x4_55 n_53 f_54 _ _ ls _ _ (by omega) (by omega) hw hP hS (lv_sub hl [3, 4, 5, 6, 0] rfl)
      · have hw := hw.2.2.2.2.2.1 cs
        refine lv_tableIn (tgt := 282) hx hb dL_law_40 (by omega) (by omega) (by rw [cs]; rfl) (by decide) ?_
        refine lv_aload_n hx hb dL_law_282 rfl (lv_at hl 1 rfl) ?_
        refine lv_aload_n hx hb dL_law_283 rfl (lv_at hl 0 rfl) ?_
        refine lv_iload hx hb dL_law_284 (lv_at hl 4 rfl) ?_
        refine lv_iconst (v := 1) hx hb dL_law_286 (by decide) ?_
        refine lv_iadd hx hb dL_law_287 ?_
        obtain ⟨hi56, hw⟩ := hw
        refine va_sld hx hb hX hbl hbA hS hi56 dL_law_288 ?_
        refine lv_aload_n hx hb dL_law_289 rfl (lv_at hl 0 rfl) ?_
        refine lv_iload hx hb dL_law_290 (lv_at hl 4 rfl) ?_
        refine lv_iconst (v := 2) hx hb dL_law_292 (by decide) ?_
        refine lv_iadd hx hb dL_law_293 ?_
        obtain ⟨hi57, hw⟩ := hw
        refine va_sld hx hb hX hbl hbA hS hi57 dL_law_294 ?_
        refine lv_aload_n hx hb dL_law_295 rfl (lv_at hl 0 rfl) ?_
        refine lv_iload hx hb dL_law_296 (lv_at hl 4 rfl) ?_
        refine lv_iconst (v := 3) hx hb dL_law_298 (by decide) ?_
        refine lv_iadd hx hb dL_law_299 ?_
        obtain ⟨hi58, hw⟩ := hw
        refine va_sld hx hb hX hbl hbA hS hi58 dL_law_300 ?_
        refine lv_aload_n hx hb dL_law_301 rfl (lv_at hl 3 rfl) ?_
        refine ct_ic (vx_runSW (As := [.ref (a 0), .int (xs (x4 + 1).toNatClampNeg), .int (xs (x4 + 2).toNatClampNeg), .int (xs (x4 + 3).toNatClampNeg), .ref (a 32)]) (rest := []) ⟨hx, hb, hml, hown, hts⟩ (met_L_node l hl9 dC dI a cA sa (xs (x4 + 1).toNatClampNeg) (xs (x4 + 2).toNatClampNeg) (xs (x4 + 3).toNatClampNeg) n f _ hw) (vx_cwSW 5 hts (wb_in (wb_c2 wt_292 (wb_c2 wt_293 (wb_c2 wt_26 (wb_cons wt_294))))) rfl rfl rfl (by decide +kernel) ⟨Nat.le_of_ble_eq_true rfl, Nat.le_of_ble_eq_true rfl⟩) (ct_pre hK hP (hDa _ _) hZ hS hA) rfl rfl hl.1 rfl (lv_room (Nat.le_of_ble_eq_true rfl)) dL_law_302 ⟨by show _ ≤ 1074; omega, by show _ ≤ 15491; omega⟩) (hDa _ _) hS hA (fun r59 n_60 f_61 H locs hw hP hS => ?_)
        refine lv_istore (lv' := [(5, .int r59), (0, .ref b), (1, .ref (a 0)), (2, .ref (a 18)), (3, .ref (a 32)), (4, .int x4)]) hx hb dL_law_305 hl (by decide) rfl (fun ls hl => ?_)
        refine lv_aload_n hx hb dL_law_307 rfl (lv_at hl 3 rfl) ?_
        refine lv_aload_n hx hb dL_law_308 rfl (lv_at hl 1 rfl) ?_
        refine lv_iload hx hb dL_law_309 (lv_at hl 5 rfl) ?_
        refine lv_iconst (v := 1) hx hb dL_law_311 (by decide) ?_
        refine lv_iadd hx hb dL_law_312 ?_
        obtain ⟨hi62, hw⟩ := hw
        refine va_sld hx hb hX hbl hbA hS hi62 dL_law_313 ?_
        refine lv_aload_n hx hb dL_law_314 rfl (lv_at hl 1 rfl) ?_
        refine lv_iload hx hb dL_law_315 (lv_at hl 5 rfl) ?_
        refine lv_iconst (v := 2) hx hb dL_law_317 (by decide) ?_
        refine lv_iadd hx hb dL_law_318 ?_
        obtain ⟨hi63, hw⟩ := hw
        refine va_sld hx hb hX hbl hbA hS hi63 dL_law_319 ?_
        refine lv_aload_n hx hb dL_law_320 rfl (lv_at hl 1 rfl) ?_
        refine lv_iload hx hb dL_law_321 (lv_at hl 5 rfl) ?_
        refine lv_iconst (v := 3) hx hb dL_law_323 (by decide) ?_
        refine lv_iadd hx hb dL_law_324 ?_
        obtain ⟨hi64, hw⟩ := hw
        refine va_sld hx hb hX hbl hbA hS hi64 dL_law_325 ?_
        refine ct_i (va_runV (As := [.int (xs (x4 + 1).toNatClampNeg), .int (xs (x4 + 2).toNatClampNeg), .int (xs (x4 + 3).toNatClampNeg)]) (rest := []) ⟨hx, hb, hml, hown, hts⟩ (met_M_node l dC dI a cA sa (xs (x4 + 1).toNatClampNeg) (xs (x4 + 2).toNatClampNeg) (xs (x4 + 3).toNatClampNeg) n_60 f_61 _ hw) (cwV 3 hts (wb_V wt_540 wt_541 wt_542 wt_30 wt_543) rfl rfl rfl (by decide +kernel) ⟨Nat.le_of_ble_eq_true rfl, Nat.le_of_ble_eq_true rfl⟩) (ct_preV hK hP (hDa _ _) hZ hS hA (va_recv hK hP (ci := 3) (q0 := 18) rfl rfl)) rfl rfl hl.1 rfl (lv_room (Nat.le_of_ble_eq_true rfl)) dL_law_326 ⟨by show _ ≤ 1074; omega, by show _ ≤ 15491; omega⟩) (hDa _ _) hS hA (fun r65 n_66 f_67 H locs hw hP hS => ?_)
        refine lv_istore (lv' := [(6, .int r65), (5, .int r59), (0, .ref b), (1, .ref (a 0)), (2, .ref (a 18)), (3, .ref (a 32)), (4, .int x4)]) hx hb dL_law_329 hl (by decide) rfl (fun ls hl => ?_)
        refine lv_goto (tgt := 587) hx hb dL_law_331 (by decide) ?_
        obtain ⟨x4_68, ex4_68⟩ : ∃ y : Int32, y = x4 + 6 := ⟨_, rfl⟩
        have hw := hw x4_68 ex4_68
        refine lv_iinc (v := x4_68) (lv' := [(4, .int x4_68), (6, .int r65), (5, .int r59), (0, .ref b), (1, .ref (a 0)), (2, .ref (a 18)), (3, .ref (a 32))]) hx hb dL_law_587 hl (k := 6) rfl (by rw [ex4_68]; rfl) (by decide) rfl (fun ls hl => ?_)
        refine lv_goto (tgt := 23) hx hb dL_law_590 (by decide) ?_
        exact ih x4_68 n_66 f_67 _ _ ls _ _ (by omega) (by omega) hw hP hS (lv_sub hl [3, 4, 5, 6, 0] rfl)
      · have hw := hw.2.2.2.2.2.2.1 cs
        refine lv_tableIn (tgt := 334) hx hb dL_law_40 (by omega) (by omega) (by rw [cs]; rfl) (by decide) ?_
        refine lv_aload_n hx hb dL_law_334 rfl (lv_at hl 1 rfl) ?_
        refine lv_aload_n hx hb dL_law_335 rfl (lv_at hl 0 rfl) ?_
        refine lv_iload hx hb dL_law_336 (lv_at hl 4 rfl) ?_
        refine lv_iconst (v := 1) hx hb dL_law_338 (by decide) ?_
        refine lv_iadd hx hb dL_law_339 ?_
        obtain ⟨hi69, hw⟩ := hw
        refine va_sld hx hb hX hbl hbA hS hi69 dL_law_340 ?_
        refine lv_aload_n hx hb dL_law_341 rfl (lv_at hl 0 rfl) ?_
        refine lv_iload hx hb dL_law_342 (lv_at hl 4 rfl) ?_
        refine lv_iconst (v := 2) hx hb dL_law_344 (by decide) ?_
        refine lv_iadd hx hb dL_law_345 ?_
        obtain ⟨hi70, hw⟩ := hw
        refine va_sld hx hb hX hbl hbA hS hi70 dL_law_346 ?_
        refine lv_aload_n hx hb dL_law_347 rfl (lv_at hl 3 rfl) ?_
        refine ct_ic (vx_runSW (As := [.ref (a 0), .int (xs (x4 + 1).toNatClampNeg), .int (xs (x4 + 2).toNatClampNeg), .ref (a 32)]) (rest := []) ⟨hx, hb, hml, hown, hts⟩ (met_L_cost l hl9 dC dI a cA sa (xs (x4 + 1).toNatClampNeg) (xs (x4 + 2).toNatClampNeg) n f _ hw) (vx_cwSW 4 hts (wb_in (wb_c2 wt_370 (wb_c2 wt_371 (wb_c2 wt_26 (wb_cons wt_372))))) rfl rfl rfl (by decide +kernel) ⟨Nat.le_of_ble_eq_true rfl, Nat.le_of_ble_eq_true rfl⟩) (ct_pre hK hP (hDa _ _) hZ hS hA) rfl rfl hl.1 rfl (lv_room (Nat.le_of_ble_eq_true rfl)) dL_law_348 ⟨by show _ ≤ 1074; omega, by show _ ≤ 15491; omega⟩) (hDa _ _) hS hA (fun r71 n_72 f_73 H locs hw hP hS => ?_)
        refine lv_istore (lv' := [(5, .int r71), (0, .ref b), (1, .ref (a 0)), (2, .ref (a 18)), (3, .ref (a 32)), (4, .int x4)]) hx hb dL_law_351 hl (by decide) rfl (fun ls hl => ?_)
        refine lv_aload_n hx hb dL_law_353 rfl (lv_at hl 3 rfl) ?_
        refine lv_aload_n hx hb dL_law_354 rfl (lv_at hl 1 rfl) ?_
        refine lv_iload hx hb dL_law_355 (lv_at hl 5 rfl) ?_
        refine lv_iconst (v := 1) hx hb dL_law_357 (by decide) ?_
        refine lv_iadd hx hb dL_law_358 ?_
        obtain ⟨hi74, hw⟩ := hw
        refine va_sld hx hb hX hbl hbA hS hi74 dL_law_359 ?_
        refine lv_aload_n hx hb dL_law_360 rfl (lv_at hl 1 rfl) ?_
        refine lv_iload hx hb dL_law_361 (lv_at hl 5 rfl) ?_
        refine lv_iconst (v := 2) hx hb dL_law_363 (by decide) ?_
        refine lv_iadd hx hb dL_law_364 ?_
        obtain ⟨hi75, hw⟩ := hw
        refine va_sld hx hb hX hbl hbA hS hi75 dL_law_365 ?_
        refine ct_i (va_runV (As := [.int (xs (x4 + 1).toNatClampNeg), .int (xs (x4 + 2).toNatClampNeg)]) (rest := []) ⟨hx, hb, hml, hown, hts⟩ (met_M_cost l dC dI a cA sa (xs (x4 + 1).toNatClampNeg) (xs (x4 + 2).toNatClampNeg) n_72 f_73 _ hw) (cwV 2 hts (wb_V wt_565 wt_566 wt_567 wt_30 wt_568) rfl rfl rfl (by decide +kernel) ⟨Nat.le_of_ble_eq_true rfl, Nat.le_of_ble_eq_true rfl⟩) (ct_preV hK hP (hDa _ _) hZ hS hA (va_recv hK hP (ci := 3) (q0 := 18) rfl rfl)) rfl rfl hl.1 rfl (lv_room (Nat.le_of_ble_eq_true rfl)) dL_law_366 ⟨by show _ ≤ 1074; omega, by show _ ≤ 15491; omega⟩) (hDa _ _) hS hA (fun r76 n_77 f_78 H locs hw hP hS => ?_)
        refine lv_istore (lv' := [(6, .int r76), (5, .int r71), (0, .ref b), (1, .ref (a 0)), (2, .ref (a 18)), (3, .ref (a 32)), (4, .int x4)]) hx hb dL_law_369 hl (by decide) rfl (fun ls hl => ?_)
        refine lv_goto (tgt := 587) hx hb dL_law_371 (by decide) ?_
        obtain ⟨x4_79, ex4_79⟩ : ∃ y : Int32, y = x4 + 6 := ⟨_, rfl⟩
        have hw := hw x4_79 ex4_79
        refine lv_iinc (v := x4_79) (lv' := [(4, .int x4_79), (6, .int r76), (5, .int r71), (0, .ref b), (1, .ref (a 0)), (2, .ref (a 18)), (3, .ref (a 32))]) hx hb dL_law_587 hl (k := 6) rfl (by rw [ex4_79]; rfl) (by decide) rfl (fun ls hl => ?_)
        refine lv_goto (tgt := 23) hx hb dL_law_590 (by decide) ?_
        exact ih x4_79 n_77 f_78 _ _ ls _ _ (by omega) (by omega) hw hP hS (lv_sub hl [3, 4, 5, 6, 0] rfl)
      · have hw := hw.2.2.2.2.2.2.2.1 cs
        refine lv_tableIn (tgt := 374) hx hb dL_law_40 (by omega) (by omega) (by rw [cs]; rfl) (by decide) ?_
        refine lv_aload_n hx hb dL_law_374 rfl (lv_at hl 1 rfl) ?_
        refine lv_aload_n hx hb dL_law_375 rfl (lv_at hl 0 rfl) ?_
        refine lv_iload hx hb dL_law_376 (lv_at hl 4 rfl) ?_
        refine lv_iconst (v := 1) hx hb dL_law_378 (by decide) ?_
        refine lv_iadd hx hb dL_law_379 ?_
        obtain ⟨hi80, hw⟩ := hw
        refine va_sld hx hb hX hbl hbA hS hi80 dL_law_380 ?_
        refine lv_aload_n hx hb dL_law_381 rfl (lv_at hl 0 rfl) ?_
        refine lv_iload hx hb dL_law_382 (lv_at hl 4 rfl) ?_
        refine lv_iconst (v := 2) hx hb dL_law_384 (by decide) ?_
        refine lv_iadd hx hb dL_law_385 ?_
        obtain ⟨hi81, hw⟩ := hw
        refine va_sld hx hb hX hbl hbA hS hi81 dL_law_386 ?_
        refine lv_aload_n hx hb dL_law_387 rfl (lv_at hl 3 rfl) ?_
        refine ct_ic (vx_runSW (As := [.ref (a 0), .int (xs (x4 + 1).toNatClampNeg), .int (xs (x4 + 2).toNatClampNeg), .ref (a 32)]) (rest := []) ⟨hx, hb, hml, hown, hts⟩ (met_L_rule l hl9 dC dI a cA sa (xs (x4 + 1).toNatClampNeg) (xs (x4 + 2).toNatClampNeg) n f _ hw) (vx_cwSW 4 hts (wb_in (wb_c2 wt_383 (wb_c2 wt_384 (wb_c2 wt_26 (wb_cons wt_385))))) rfl rfl rfl (by decide +kernel) ⟨Nat.le_of_ble_eq_true rfl, Nat.le_of_ble_eq_true rfl⟩) (ct_pre hK hP (hDa _ _) hZ hS hA) rfl rfl hl.1 rfl (lv_room (Nat.le_of_ble_eq_true rfl)) dL_law_388 ⟨by show _ ≤ 1074; omega, by show _ ≤ 15491; omega⟩) (hDa _ _) hS hA (fun r82 n_83 f_84 H locs hw hP hS => ?_)
        refine lv_istore (lv' := [(5, .int r82), (0, .ref b), (1, .ref (a 0)), (2, .ref (a 18)), (3, .ref (a 32)), (4, .int x4)]) hx hb dL_law_391 hl (by decide) rfl (fun ls hl => ?_)
        refine lv_aload_n hx hb dL_law_393 rfl (lv_at hl 3 rfl) ?_
        refine lv_aload_n hx hb dL_law_394 rfl (lv_at hl 1 rfl) ?_
        refine lv_iload hx hb dL_law_395 (lv_at hl 5 rfl) ?_
        refine lv_iconst (v := 1) hx hb dL_law_397 (by decide) ?_
        refine lv_iadd hx hb dL_law_398 ?_
        obtain ⟨hi85, hw⟩ := hw
        refine va_sld hx hb hX hbl hbA hS hi85 dL_law_399 ?_
        refine lv_aload_n hx hb dL_law_400 rfl (lv_at hl 1 rfl) ?_
        refine lv_iload hx hb dL_law_401 (lv_at hl 5 rfl) ?_
        refine lv_iconst (v := 2) hx hb dL_law_403 (by decide) ?_
        refine lv_iadd hx hb dL_law_404 ?_
        obtain ⟨hi86, hw⟩ := hw
        refine va_sld hx hb hX hbl hbA hS hi86 dL_law_405 ?_
        refine ct_i (va_runV (As := [.int (xs (x4 + 1).toNatClampNeg), .int (xs (x4 + 2).toNatClampNeg)]) (rest := []) ⟨hx, hb, hml, hown, hts⟩ (met_M_rule l dC dI a cA sa (xs (x4 + 1).toNatClampNeg) (xs (x4 + 2).toNatClampNeg) n_83 f_84 _ hw) (cwV 2 hts (wb_V wt_573 wt_574 wt_575 wt_30 wt_576) rfl rfl rfl (by decide +kernel) ⟨Nat.le_of_ble_eq_true rfl, Nat.le_of_ble_eq_true rfl⟩) (ct_preV hK hP (hDa _ _) hZ hS hA (va_recv hK hP (ci := 3) (q0 := 18) rfl rfl)) rfl rfl hl.1 rfl (lv_room (Nat.le_of_ble_eq_true rfl)) dL_law_406 ⟨by show _ ≤ 1074; omega, by show _ ≤ 15491; omega⟩) (hDa _ _) hS hA (fun r87 n_88 f_89 H locs hw hP hS => ?_)
        refine lv_istore (lv' := [(6, .int r87), (5, .int r82), (0, .ref b), (1, .ref (a 0)), (2, .ref (a 18)), (3, .ref (a 32)), (4, .int x4)]) hx hb dL_law_409 hl (by decide) rfl (fun ls hl => ?_)
        refine lv_goto (tgt := 587) hx hb dL_law_411 (by decide) ?_
        obtain ⟨x4_90, ex4_90⟩ : ∃ y : Int32, y = x4 + 6 := ⟨_, rfl⟩
        have hw := hw x4_90 ex4_90
        refine lv_iinc (v := x4_90) (lv' := [(4, .int x4_90), (6, .int r87), (5, .int r82), (0, .ref b), (1, .ref (a 0)), (2, .ref (a 18)), (3, .ref (a 32))]) hx hb dL_law_587 hl (k := 6) rfl (by rw [ex4_90]; rfl) (by decide) rfl (fun ls hl => ?_)
        refine lv_goto (tgt := 23) hx hb dL_law_590 (by decide) ?_
        exact ih x4_90 n_88 f_89 _ _ ls _ _ (by omega) (by omega) hw hP hS (lv_sub hl [3, 4, 5, 6, 0] rfl)
      · have hw := hw.2.2.2.2.2.2.2.2.1 cs
        refine lv_tableIn (tgt := 414) hx hb dL_law_40 (by omega) (by omega) (by rw [cs]; rfl) (by decide) ?_
        refine lv_aload_n hx hb dL_law_414 rfl (lv_at hl 1 rfl) ?_
        refine lv_aload_n hx hb dL_law_415 rfl (lv_at hl 0 rfl) ?_
        refine lv_iload hx hb dL_law_416 (lv_at hl 4 rfl) ?_
        refine lv_iconst (v := 1) hx hb dL_law_418 (by decide) ?_
        refine lv_iadd hx hb dL_law_419 ?_
        obtain ⟨hi91, hw⟩ := hw
        refine va_sld hx hb hX hbl hbA hS hi91 dL_law_420 ?_
        refine lv_aload_n hx hb dL_law_421 rfl (lv_at hl 0 rfl) ?_
        refine lv_iload hx hb dL_law_422 (lv_at hl 4 rfl) ?_
        refine lv_iconst (v := 2) hx hb dL_law_424 (by decide) ?_
        refine lv_iadd hx hb dL_law_425 ?_
        obtain ⟨hi92, hw⟩ := hw
        refine va_sld hx hb hX hbl hbA hS hi92 dL_law_426 ?_
        refine lv_aload_n hx hb dL_law_427 rfl (lv_at hl 3 rfl) ?_
        refine ct_ic (vx_runSW (As := [.ref (a 0), .int (xs (x4 + 1).toNatClampNeg), .int (xs (x4 + 2).toNatClampNeg), .ref (a 32)]) (rest := []) ⟨hx, hb, hml, hown, hts⟩ (met_L_size l hl9 dC dI a cA sa (xs (x4 + 1).toNatClampNeg) (xs (x4 + 2).toNatClampNeg) n f _ hw) (vx_cwSW 4 hts (wb_in (wb_c2 wt_390 (wb_c2 wt_391 (wb_c2 wt_26 (wb_cons wt_392))))) rfl rfl rfl (by decide +kernel) ⟨Nat.le_of_ble_eq_true rfl, Nat.le_of_ble_eq_true rfl⟩) (ct_pre hK hP (hDa _ _) hZ hS hA) rfl rfl hl.1 rfl (lv_room (Nat.le_of_ble_eq_true rfl)) dL_law_428 ⟨by show _ ≤ 1074; omega, by show _ ≤ 15491; omega⟩) (hDa _ _) hS hA (fun r93 n_94 f_95 H locs hw hP hS => ?_)
        refine lv_istore (lv' := [(5, .int r93), (0, .ref b), (1, .ref (a 0)), (2, .ref (a 18)), (3, .ref (a 32)), (4, .int x4)]) hx hb dL_law_431 hl (by decide) rfl (fun ls hl => ?_)
        refine lv_aload_n hx hb dL_law_433 rfl (lv_at hl 3 rfl) ?_
        refine lv_aload_n hx hb dL_law_434 rfl (lv_at hl 1 rfl) ?_
        refine lv_iload hx hb dL_law_435 (lv_at hl 5 rfl) ?_
        refine lv_iconst (v := 1) hx hb dL_law_437 (by decide) ?_
        refine lv_iadd hx hb dL_law_438 ?_
        obtain ⟨hi96, hw⟩ := hw
        refine va_sld hx hb hX hbl hbA hS hi96 dL_law_439 ?_
        refine lv_aload_n hx hb dL_law_440 rfl (lv_at hl 1 rfl) ?_
        refine lv_iload hx hb dL_law_441 (lv_at hl 5 rfl) ?_
        refine lv_iconst (v := 2) hx hb dL_law_443 (by decide) ?_
        refine lv_iadd hx hb dL_law_444 ?_
        obtain ⟨hi97, hw⟩ := hw
        refine va_sld hx hb hX hbl hbA hS hi97 dL_law_445 ?_
        refine ct_i (va_runV (As := [.int (xs (x4 + 1).toNatClampNeg), .int (xs (x4 + 2).toNatClampNeg)]) (rest := []) ⟨hx, hb, hml, hown, hts⟩ (met_M_size l dC dI a cA sa (xs (x4 + 1).toNatClampNeg) (xs (x4 + 2).toNatClampNeg) n_94 f_95 _ hw) (cwV 2 hts (wb_V wt_577 wt_578 wt_579 wt_30 wt_580) rfl rfl rfl (by decide +kernel) ⟨Nat.le_of_ble_eq_true rfl, Nat.le_of_ble_eq_true rfl⟩) (ct_preV hK hP (hDa _ _) hZ hS hA (va_recv hK hP (ci := 3) (q0 := 18) rfl rfl)) rfl rfl hl.1 rfl (lv_room (Nat.le_of_ble_eq_true rfl)) dL_law_446 ⟨by show _ ≤ 1074; omega, by show _ ≤ 15491; omega⟩) (hDa _ _) hS hA (fun r98 n_99 f_100 H locs hw hP hS => ?_)
        refine lv_istore (lv' := [(6, .int r98), (5, .int r93), (0, .ref b), (1, .ref (a 0)), (2, .ref (a 18)), (3, .ref (a 32)), (4, .int x4)]) hx hb dL_law_449 hl (by decide) rfl (fun ls hl => ?_)
        refine lv_goto (tgt := 587) hx hb dL_law_451 (by decide) ?_
        obtain ⟨x4_101, ex4_101⟩ : ∃ y : Int32, y = x4 + 6 := ⟨_, rfl⟩
        have hw := hw x4_101 ex4_101
        refine lv_iinc (v := x4_101) (lv' := [(4, .int x4_101), (6, .int r98), (5, .int r93), (0, .ref b), (1, .ref (a 0)), (2, .ref (a 18)), (3, .ref (a 32))]) hx hb dL_law_587 hl (k := 6) rfl (by rw [ex4_101]; rfl) (by decide) rfl (fun ls hl => ?_)
        refine lv_goto (tgt := 23) hx hb dL_law_590 (by decide) ?_
        exact ih x4_101 n_99 f_100 _ _ ls _ _ (by omega) (by omega) hw hP hS (lv_sub hl [3, 4, 5, 6, 0] rfl)
      · have hw := hw.2.2.2.2.2.2.2.2.2.1 cs
        refine lv_tableIn (tgt := 454) hx hb dL_law_40 (by omega) (by omega) (by rw [cs]; rfl) (by decide) ?_
        refine lv_aload_n hx hb dL_law_454 rfl (lv_at hl 1 rfl) ?_
        refine lv_aload_n hx hb dL_law_455 rfl (lv_at hl 0 rfl) ?_
        refine lv_iload hx hb dL_law_456 (lv_at hl 4 rfl) ?_
        refine lv_iconst (v := 1) hx hb dL_law_458 (by decide) ?_
        refine lv_iadd hx hb dL_law_459 ?_
        obtain ⟨hi102, hw⟩ := hw
        refine va_sld hx hb hX hbl hbA hS hi102 dL_law_460 ?_
        refine lv_aload_n hx hb dL_law_461 rfl (lv_at hl 0 rfl) ?_
        refine lv_iload hx hb dL_law_462 (lv_at hl 4 rfl) ?_
        refine lv_iconst (v := 2) hx hb dL_law_464 (by decide) ?_
        refine lv_iadd hx hb dL_law_465 ?_
        obtain ⟨hi103, hw⟩ := hw
        refine va_sld hx hb hX hbl hbA hS hi103 dL_law_466 ?_
        refine lv_aload_n hx hb dL_law_467 rfl (lv_at hl 0 rfl) ?_
        refine lv_iload hx hb dL_law_468 (lv_at hl 4 rfl) ?_
        refine lv_iconst (v := 3) hx hb dL_law_470 (by decide) ?_
        refine lv_iadd hx hb dL_law_471 ?_
        obtain ⟨hi104, hw⟩ := hw
        refine va_sld hx hb hX hbl hbA hS hi104 dL_law_472 ?_
        refine lv_aload_n hx hb dL_law_473 rfl (lv_at hl 0 rfl) ?_
        refine lv_iload hx hb dL_law_474 (lv_at hl 4 rfl) ?_
        refine lv_iconst (v := 4) hx hb dL_law_476 (by decide) ?_
        refine lv_iadd hx hb dL_law_477 ?_
        obtain ⟨hi105, hw⟩ := hw
        refine va_sld hx hb hX hbl hbA hS hi105 dL_law_478 ?_
        refine lv_aload_n hx hb dL_law_479 rfl (lv_at hl 3 rfl) ?_
        refine ct_ic (vx_runSW (As := [.ref (a 0), .int (xs (x4 + 1).toNatClampNeg), .int (xs (x4 + 2).toNatClampNeg), .int (xs (x4 + 3).toNatClampNeg), .int (xs (x4 + 4).toNatClampNeg), .ref (a 32)]) (rest := []) ⟨hx, hb, hml, hown, hts⟩ (met_L_cover l hl9 dC dI a cA sa (xs (x4 + 1).toNatClampNeg) (xs (x4 + 2).toNatClampNeg) (xs (x4 + 3).toNatClampNeg) (xs (x4 + 4).toNatClampNeg) n f _ hw) (vx_cwSW 6 hts (wb_in (wb_c2 wt_402 (wb_c2 wt_403 (wb_c2 wt_26 (wb_cons wt_404))))) rfl rfl rfl (by decide +kernel) ⟨Nat.le_of_ble_eq_true rfl, Nat.le_of_ble_eq_true rfl⟩) (ct_pre hK hP (hDa _ _) hZ hS hA) rfl rfl hl.1 rfl (lv_room (Nat.le_of_ble_eq_true rfl)) dL_law_480 ⟨by show _ ≤ 1074; omega, by show _ ≤ 15491; omega⟩) (hDa _ _) hS hA (fun r106 n_107 f_108 H locs hw hP hS => ?_)
        refine lv_istore (lv' := [(5, .int r106), (0, .ref b), (1, .ref (a 0)), (2, .ref (a 18)), (3, .ref (a 32)), (4, .int x4)]) hx hb dL_law_483 hl (by decide) rfl (fun ls hl => ?_)
        refine lv_aload_n hx hb dL_law_485 rfl (lv_at hl 3 rfl) ?_
        refine lv_aload_n hx hb dL_law_486 rfl (lv_at hl 1 rfl) ?_
        refine lv_iload hx hb dL_law_487 (lv_at hl 5 rfl) ?_
        refine lv_iconst (v := 1) hx hb dL_law_489 (by decide) ?_
        refine lv_iadd hx hb dL_law_490 ?_
        obtain ⟨hi109, hw⟩ := hw
        refine va_sld hx hb hX hbl hbA hS hi109 dL_law_491 ?_
        refine lv_aload_n hx hb dL_law_492 rfl (lv_at hl 1 rfl) ?_
        refine lv_iload hx hb dL_law_493 (lv_at hl 5 rfl) ?_
        refine lv_iconst (v := 2) hx hb dL_law_495 (by decide) ?_
        refine lv_iadd hx hb dL_law_496 ?_
        obtain ⟨hi110, hw⟩ := hw
        refine va_sld hx hb hX hbl hbA hS hi110 dL_law_497 ?_
        refine lv_aload_n hx hb dL_law_498 rfl (lv_at hl 1 rfl) ?_
        refine lv_iload hx hb dL_law_499 (lv_at hl 5 rfl) ?_
        refine lv_iconst (v := 3) hx hb dL_law_501 (by decide) ?_
        refine lv_iadd hx hb dL_law_502 ?_
        obtain ⟨hi111, hw⟩ := hw
        refine va_sld hx hb hX hbl hbA hS hi111 dL_law_503 ?_
        refine lv_aload_n hx hb dL_law_504 rfl (lv_at hl 1 rfl) ?_
        refine lv_iload hx hb dL_law_505 (lv_at hl 5 rfl) ?_
        refine lv_iconst (v := 4) hx hb dL_law_507 (by decide) ?_
        refine lv_iadd hx hb dL_law_508 ?_
        obtain ⟨hi112, hw⟩ := hw
        refine va_sld hx hb hX hbl hbA hS hi112 dL_law_509 ?_
        refine ct_i (va_runV (As := [.int (xs (x4 + 1).toNatClampNeg), .int (xs (x4 + 2).toNatClampNeg), .int (xs (x4 + 3).toNatClampNeg), .int (xs (x4 + 4).toNatClampNeg)]) (rest := []) ⟨hx, hb, hml, hown, hts⟩ (met_M_cover l dC dI a cA sa (xs (x4 + 1).toNatClampNeg) (xs (x4 + 2).toNatClampNeg) (xs (x4 + 3).toNatClampNeg) (xs (x4 + 4).toNatClampNeg) n_107 f_108 _ hw) (cwV 4 hts (wb_V wt_581 wt_582 wt_583 wt_30 wt_584) rfl rfl rfl (by decide +kernel) ⟨Nat.le_of_ble_eq_true rfl, Nat.le_of_ble_eq_true rfl⟩) (ct_preV hK hP (hDa _ _) hZ hS hA (va_recv hK hP (ci := 3) (q0 := 18) rfl rfl)) rfl rfl hl.1 rfl (lv_room (Nat.le_of_ble_eq_true rfl)) dL_law_510 ⟨by show _ ≤ 1074; omega, by show _ ≤ 15491; omega⟩) (hDa _ _) hS hA (fun r113 n_114 f_115 H locs hw hP hS => ?_)
        refine lv_istore (lv' := [(6, .int r113), (5, .int r106), (0, .ref b), (1, .ref (a 0)), (2, .ref (a 18)), (3, .ref (a 32)), (4, .int x4)]) hx hb dL_law_513 hl (by decide) rfl (fun ls hl => ?_)
        refine lv_aload_n hx hb dL_law_515 rfl (lv_at hl 4 rfl) ?_
        refine ct_i (va_runV (As := []) (rest := []) ⟨hx, hb, hml, hown, hts⟩ (met_M_thrown l dC dI a cA sa n_114 f_115 _ hw) (cwV 0 hts (wb_V wt_502 wt_503 wt_504 wt_30 wt_505) rfl rfl rfl (by decide +kernel) ⟨Nat.le_of_ble_eq_true rfl, Nat.le_of_ble_eq_true rfl⟩) (ct_preV hK hP (hDa _ _) hZ hS hA (va_recv hK hP (ci := 3) (q0 := 18) rfl rfl)) rfl rfl hl.1 rfl (lv_room (Nat.le_of_ble_eq_true rfl)) dL_law_516 ⟨by show _ ≤ 1074; omega, by show _ ≤ 15491; omega⟩) (hDa _ _) hS hA (fun r116 n_117 f_118 H locs hw hP hS => ?_)
        refine lv_iload hx hb dL_law_519 (lv_at hl 1 rfl) ?_
        refine lv_icmp_eq (tgt := 526) hx hb dL_law_521 (by decide) (fun c119 => ?_) (fun c119 => ?_)
        · have hw := hw.1 c119
          refine lv_iload hx hb dL_law_526 (lv_at hl 1 rfl) ?_
          refine lv_if_ne (tgt := 543) hx hb dL_law_528 (by decide) (fun c120 => ?_) (fun c120 => ?_)
          · have hw := hw.1 c120
            refine lv_goto (tgt := 587) hx hb dL_law_543 (by decide) ?_
            obtain ⟨x4_121, ex4_121⟩ : ∃ y : Int32, y = x4 + 6 := ⟨_, rfl⟩
            have hw := hw x4_121 ex4_121
            refine lv_iinc (v := x4_121) (lv' := [(4, .int x4_121), (6, .int r113), (5, .int r106), (0, .ref b), (1, .ref (a 0)), (2, .ref (a 18)), (3, .ref (a 32))]) hx hb dL_law_587 hl (k := 6) rfl (by rw [ex4_121]; rfl) (by decide) rfl (fun ls hl => ?_)
            refine lv_goto (tgt := 23) hx hb dL_law_590 (by decide) ?_
            exact ih x4_121 n_117 f_118 _ _ ls _ _ (by omega) (by omega) hw hP hS (lv_sub hl [3, 4, 5, 6, 0] rfl)
          · have hw := hw.2 c120
            refine lv_aload_n hx hb dL_law_531 rfl (lv_at hl 5 rfl) ?_
            refine lv_iconst (v := 0) hx hb dL_law_532 (by decide) ?_
            refine va_lald hx hb hK hP 32 28 rfl rfl ct_in01 dL_law_533 ?_
            refine lv_topl (fun y122 ey122 => ?_)
            have hw := hw y122 ey122
            refine lv_iload hx hb dL_law_534 (lv_at hl 0 rfl) ?_
            refine lv_i2l (v := r113.toInt64) hx hb dL_law_536 rfl ?_
            refine W.lcmp hx hb dL_law_537 ?_
            refine lv_if_eq (tgt := 543) hx hb dL_law_538 (by decide) (fun c123 => ?_) (fun c123 => ?_)
            · have hw := hw.1 c123
              refine lv_goto (tgt := 587) hx hb dL_law_543 (by decide) ?_
              obtain ⟨x4_124, ex4_124⟩ : ∃ y : Int32, y = x4 + 6 := ⟨_, rfl⟩
              have hw := hw x4_124 ex4_124
              refine lv_iinc (v := x4_124) (lv' := [(4, .int x4_124), (6, .int r113), (5, .int r106), (0, .ref b), (1, .ref (a 0)), (2, .ref (a 18)), (3, .ref (a 32))]) hx hb dL_law_587 hl (k := 6) rfl (by rw [ex4_124]; rfl) (by decide) rfl (fun ls hl => ?_)
              refine lv_goto (tgt := 23) hx hb dL_law_590 (by decide) ?_
              exact ih x4_124 n_117 f_118 _ _ ls _ _ (by omega) (by omega) hw hP hS (lv_sub hl [3, 4, 5, 6, 0] rfl)
            · have hw := hw.2 c123
              refine lv_iconst (v := 0) hx hb dL_law_541 (by decide) ?_
              refine va_forget (fun q hq => hS.2.2 q hq) ?_
              refine W.widen (k := 1074) (n := 15491) (by omega) (by omega) ?_
              exact lw_ret0 hx hb hr hlocks dL_law_542
        · have hw := hw.2 c119
          refine lv_iconst (v := 0) hx hb dL_law_524 (by decide) ?_
          refine va_forget (fun q hq => hS.2.2 q hq) ?_
          refine W.widen (k := 1074) (n := 15491) (by omega) (by omega) ?_
          exact lw_ret0 hx hb hr hlocks dL_law_525
      · have hw := hw.2.2.2.2.2.2.2.2.2.2.1 cs
        refine lv_tableIn (tgt := 546) hx hb dL_law_40 (by omega) (by omega) (by rw [cs]; rfl) (by decide) ?_
        refine lv_aload_n hx hb dL_law_546 rfl (lv_at hl 1 rfl) ?_
        refine ct_i (va_runV (As := []) (rest := []) ⟨hx, hb, hml, hown, hts⟩ (met_C_states l dC dI a cA sa n f _ hw) (cwV 0 hts (wb_V wt_149 wt_150 wt_151 wt_27 wt_152) rfl rfl rfl (by decide +kernel) ⟨Nat.le_of_ble_eq_true rfl, Nat.le_of_ble_eq_true rfl⟩) (ct_preV hK hP (hDa _ _) hZ hS hA (va_recv hK hP (ci := 0) (q0 := 0) rfl rfl)) rfl rfl hl.1 rfl (lv_room (Nat.le_of_ble_eq_true rfl)) dL_law_547 ⟨by show _ ≤ 1074; omega, by show _ ≤ 15491; omega⟩) (hDa _ _) hS hA (fun r125 n_126 f_127 H locs hw hP hS => ?_)
        refine lv_pop hx hb dL_law_550 rfl ?_
        refine lv_aload_n hx hb dL_law_551 rfl (lv_at hl 2 rfl) ?_
        refine ct_i (va_runV (As := []) (rest := []) ⟨hx, hb, hml, hown, hts⟩ (met_M_states l dC dI a cA sa n_126 f_127 _ hw) (cwV 0 hts (wb_V wt_605 wt_606 wt_607 wt_30 wt_608) rfl rfl rfl (by decide +kernel) ⟨Nat.le_of_ble_eq_true rfl, Nat.le_of_ble_eq_true rfl⟩) (ct_preV hK hP (hDa _ _) hZ hS hA (va_recv hK hP (ci := 3) (q0 := 18) rfl rfl)) rfl rfl hl.1 rfl (lv_room (Nat.le_of_ble_eq_true rfl)) dL_law_552 ⟨by show _ ≤ 1074; omega, by show _ ≤ 15491; omega⟩) (hDa _ _) hS hA (fun r128 n_129 f_130 H locs hw hP hS => ?_)
        refine lv_pop hx hb dL_law_555 rfl ?_
        refine lv_goto (tgt := 587) hx hb dL_law_556 (by decide) ?_
        obtain ⟨x4_131, ex4_131⟩ : ∃ y : Int32, y = x4 + 6 := ⟨_, rfl⟩
        have hw := hw x4_131 ex4_131
        refine lv_iinc (v := x4_131) (lv' := [(4, .int x4_131), (0, .ref b), (1, .ref (a 0)), (2, .ref (a 18)), (3, .ref (a 32))]) hx hb dL_law_587 hl (k := 4) rfl (by rw [ex4_131]; rfl) (by decide) rfl (fun ls hl => ?_)
        refine lv_goto (tgt := 23) hx hb dL_law_590 (by decide) ?_
        exact ih x4_131 n_129 f_130 _ _ ls _ _ (by omega) (by omega) hw hP hS (lv_sub hl [1, 2, 3, 4, 0] rfl)
      · have hw := hw.2.2.2.2.2.2.2.2.2.2.2.1 cs
        refine lv_tableIn (tgt := 559) hx hb dL_law_40 (by omega) (by omega) (by rw [cs]; rfl) (by decide) ?_
        refine lv_aload_n hx hb dL_law_559 rfl (lv_at hl 1 rfl) ?_
        refine lv_aload_n hx hb dL_law_560 rfl (lv_at hl 0 rfl) ?_
        refine lv_iload hx hb dL_law_561 (lv_at hl 4 rfl) ?_
        refine lv_iconst (v := 1) hx hb dL_law_563 (by decide) ?_
        refine lv_iadd hx hb dL_law_564 ?_
        obtain ⟨hi132, hw⟩ := hw
        refine va_sld hx hb hX hbl hbA hS hi132 dL_law_565 ?_
        refine lv_aload_n hx hb dL_law_566 rfl (lv_at hl 3 rfl) ?_
        refine ct_ic (vx_runSW (As := [.ref (a 0), .int (xs (x4 + 1).toNatClampNeg), .ref (a 32)]) (rest := []) ⟨hx, hb, hml, hown, hts⟩ (met_L_like l hl9 dC dI a cA sa (xs (x4 + 1).toNatClampNeg) n f _ hw) (vx_cwSW 3 hts (wb_in (wb_c2 wt_431 (wb_c2 wt_432 (wb_c2 wt_26 (wb_cons wt_433))))) rfl rfl rfl (by decide +kernel) ⟨Nat.le_of_ble_eq_true rfl, Nat.le_of_ble_eq_true rfl⟩) (ct_pre hK hP (hDa _ _) hZ hS hA) rfl rfl hl.1 rfl (lv_room (Nat.le_of_ble_eq_true rfl)) dL_law_567 ⟨by show _ ≤ 1074; omega, by show _ ≤ 15491; omega⟩) (hDa _ _) hS hA (fun r133 n_134 f_135 H locs hw hP hS => ?_)
        refine lv_istore (lv' := [(5, .int r133), (0, .ref b), (1, .ref (a 0)), (2, .ref (a 18)), (3, .ref (a 32)), (4, .int x4)]) hx hb dL_law_570 hl (by decide) rfl (fun ls hl => ?_)
        refine lv_aload_n hx hb dL_law_572 rfl (lv_at hl 3 rfl) ?_
        refine lv_aload_n hx hb dL_law_573 rfl (lv_at hl 1 rfl) ?_
        refine lv_iload hx hb dL_law_574 (lv_at hl 5 rfl) ?_
        refine lv_iconst (v := 1) hx hb dL_law_576 (by decide) ?_
        refine lv_iadd hx hb dL_law_577 ?_
        obtain ⟨hi136, hw⟩ := hw
        refine va_sld hx hb hX hbl hbA hS hi136 dL_law_578 ?_
        refine ct_i (va_runV (As := [.int (xs (x4 + 1).toNatClampNeg)]) (rest := []) ⟨hx, hb, hml, hown, hts⟩ (met_M_like l dC dI a cA sa (xs (x4 + 1).toNatClampNeg) n_134 f_135 _ hw) (cwV 1 hts (wb_V wt_589 wt_590 wt_591 wt_30 wt_592) rfl rfl rfl (by decide +kernel) ⟨Nat.le_of_ble_eq_true rfl, Nat.le_of_ble_eq_true rfl⟩) (ct_preV hK hP (hDa _ _) hZ hS hA (va_recv hK hP (ci := 3) (q0 := 18) rfl rfl)) rfl rfl hl.1 rfl (lv_room (Nat.le_of_ble_eq_true rfl)) dL_law_579 ⟨by show _ ≤ 1074; omega, by show _ ≤ 15491; omega⟩) (hDa _ _) hS hA (fun r137 n_138 f_139 H locs hw hP hS => ?_)
        refine lv_istore (lv' := [(6, .int r137), (5, .int r133), (0, .ref b), (1, .ref (a 0)), (2, .ref (a 18)), (3, .ref (a 32)), (4, .int x4)]) hx hb dL_law_582 hl (by decide) rfl (fun ls hl => ?_)
        refine lv_goto (tgt := 587) hx hb dL_law_584 (by decide) ?_
        obtain ⟨x4_140, ex4_140⟩ : ∃ y : Int32, y = x4 + 6 := ⟨_, rfl⟩
        have hw := hw x4_140 ex4_140
        refine lv_iinc (v := x4_140) (lv' := [(4, .int x4_140), (6, .int r137), (5, .int r133), (0, .ref b), (1, .ref (a 0)), (2, .ref (a 18)), (3, .ref (a 32))]) hx hb dL_law_587 hl (k := 6) rfl (by rw [ex4_140]; rfl) (by decide) rfl (fun ls hl => ?_)
        refine lv_goto (tgt := 23) hx hb dL_law_590 (by decide) ?_
        exact ih x4_140 n_138 f_139 _ _ ls _ _ (by omega) (by omega) hw hP hS (lv_sub hl [3, 4, 5, 6, 0] rfl)
      · have hw := hw.2.2.2.2.2.2.2.2.2.2.2.2 cs
        refine lv_tableOut (tgt := 587) hx hb dL_law_40 cs (by decide) ?_
        obtain ⟨x4_141, ex4_141⟩ : ∃ y : Int32, y = x4 + 6 := ⟨_, rfl⟩
        have hw := hw x4_141 ex4_141
        refine lv_iinc (v := x4_141) (lv' := [(4, .int x4_141), (0, .ref b), (1, .ref (a 0)), (2, .ref (a 18)), (3, .ref (a 32))]) hx hb dL_law_587 hl (k := 4) rfl (by rw [ex4_141]; rfl) (by decide) rfl (fun ls hl => ?_)
        refine lv_goto (tgt := 23) hx hb dL_law_590 (by decide) ?_
        exact ih x4_141 n f _ _ ls _ _ (by omega) (by omega) hw hP hS (lv_sub hl [1, 2, 3, 4, 0] rfl)
def ev_law (xs : Nat → Int32) (L : Nat) : Nat → Int32 → ctN → ctF → Bool
  | 0, _, _, _ => false
  | k + 1, x4, n, f => (if ((Int32.ofNat L) - 6) < x4 then false else (ev_in x4 L && (if ((xs x4.toNatClampNeg) &&& 15).toInt = 0 then false else (if ((xs x4.toNatClampNeg) &&& 15).toInt = 1 then false else (if ((xs x4.toNatClampNeg) &&& 15).toInt = 2 then (ev_in (x4 + 1) L && ev_frc (xs (x4 + 1).toNatClampNeg) (fun v56 => ev_L_operator (fun (r18 : Int32) (n_19 : ctN) (f_20 : ctF) => (ev_in (x4 + 1) L && ev_frc (xs (x4 + 1).toNatClampNeg) (fun v55 => ev_M_operator (fun (r22 : Int32) (n_23 : ctN) (f_24 : ctF) => ev_frc (x4 + 6) (fun x4_25 => ev_law xs L k x4_25 n_23 f_24)) v55 n_19 f_20))) v56 n f)) else (if ((xs x4.toNatClampNeg) &&& 15).toInt = 3 then (ev_in (x4 + 1) L && (ev_in (x4 + 2) L && (ev_in (x4 + 3) L && (ev_in (x4 + 4) L && (ev_in (x4 + 5) L && ev_frc (xs (x4 + 1).toNatClampNeg) (fun v62 => ev_frc (xs (x4 + 2).toNatClampNeg) (fun v63 => ev_frc (xs (x4 + 3).toNatClampNeg) (fun v64 => ev_frc (xs (x4 + 4).toNatClampNeg) (fun v65 => ev_frc (xs (x4 + 5).toNatClampNeg) (fun v66 => ev_L_base (fun (r31 : Int32) (n_32 : ctN) (f_33 : ctF) => (ev_in (x4 + 1) L && (ev_in (x4 + 2) L && (ev_in (x4 + 3) L && (ev_in (x4 + 4) L && (ev_in (x4 + 5) L && ev_frc (xs (x4 + 1).toNatClampNeg) (fun v57 => ev_frc (xs (x4 + 2).toNatClampNeg) (fun v58 => ev_frc (xs (x4 + 3).toNatClampNeg) (fun v59 => ev_frc (xs (x4 + 4).toNatClampNeg) (fun v60 => ev_frc (xs (x4 + 5).toNatClampNeg) (fun v61 => ev_M_base (fun (r39 : Int32) (n_40 : ctN) (f_41 : ctF) => ev_frc (x4 + 6) (fun x4_42 => ev_law xs L k x4_42 n_40 f_41)) v57 v58 v59 v60 v61 n_32 f_33))))))))))) v62 v63 v64 v65 v66 n f)))))))))) else (if ((xs x4.toNatClampNeg) &&& 15).toInt = 4 then (ev_in (x4 + 1) L && (ev_in (x4 + 2) L && (ev_in (x4 + 3) L && ev_frc (xs (x4 + 1).toNatClampNeg) (fun v70 => ev_frc (xs (x4 + 2).toNatClampNeg) (fun v71 => ev_frc (xs (x4 + 3).toNatClampNeg) (fun v72 => ev_L_chain (fun (r46 : Int32) (n_47 : ctN) (f_48 : ctF) => (ev_in (x4 + 1) L && (ev_in (x4 + 2) L && (ev_in (x4 + 3) L && ev_frc (xs (x4 + 1).toNatClampNeg) (fun v67 => ev_frc (xs (x4 + 2).toNatClampNeg) (fun v68 => ev_frc (xs (x4 + 3).toNatClampNeg) (fun v69 => ev_M_chain (fun (r52 : Int32) (n_53 : ctN) (f_54 : ctF) => ev_frc (x4 + 6) (fun x4_55 => ev_law xs L k x4_55 n_53 f_54)) v67 v68 v69 n_47 f_48))))))) v70 v71 v72 n f)))))) else (if ((xs x4.toNatClampNeg) &&& 15).toInt = 5 then (ev_in (x4 + 1) L && (ev_in (x4 + 2) L && (ev_in (x4 + 3) L && ev_frc (xs (x4 + 1).toNatClampNeg) (fun v76 => ev_frc (xs (x4 + 2).toNatClampNeg) (fun v77 => ev_frc (xs (x4 + 3).toNatClampNeg) (fun v78 => ev_L_node (fun (r59 : Int32) (n_60 : ctN) (f_61 : ctF) => (ev_in (x4 + 1) L && (ev_in (x4 + 2) L && (ev_in (x4 + 3) L && ev_frc (xs (x4 + 1).toNatClampNeg) (fun v73 => ev_frc (xs (x4 + 2).toNatClampNeg) (fun v74 => ev_frc (xs (x4 + 3).toNatClampNeg) (fun v75 => ev_M_node (fun (r65 : Int32) (n_66 : ctN) (f_67 : ctF) => ev_frc (x4 + 6) (fun x4_68 => ev_law xs L k x4_68 n_66 f_67)) v73 v74 v75 n_60 f_61))))))) v76 v77 v78 n f)))))) else (if ((xs x4.toNatClampNeg) &&& 15).toInt = 6 then false else (if ((xs x4.toNatClampNeg) &&& 15).toInt = 7 then false else (if ((xs x4.toNatClampNeg) &&& 15).toInt = 8 then false else (if ((xs x4.toNatClampNeg) &&& 15).toInt = 9 then (ev_in (x4 + 1) L && (ev_in (x4 + 2) L && (ev_in (x4 + 3) L && (ev_in (x4 + 4) L && ev_frc (xs (x4 + 1).toNatClampNeg) (fun v83 => ev_frc (xs (x4 + 2).toNatClampNeg) (fun v84 => ev_frc (xs (x4 + 3).toNatClampNeg) (fun v85 => ev_frc (xs (x4 + 4).toNatClampNeg) (fun v86 => ev_L_cover (fun (r106 : Int32) (n_107 : ctN) (f_108 : ctF) => (ev_in (x4 + 1) L && (ev_in (x4 + 2) L && (ev_in (x4 + 3) L && (ev_in (x4 + 4) L && ev_frc (xs (x4 + 1).toNatClampNeg) (fun v79 => ev_frc (xs (x4 + 2).toNatClampNeg) (fun v80 => ev_frc (xs (x4 + 3).toNatClampNeg) (fun v81 => ev_frc (xs (x4 + 4).toNatClampNeg) (fun v82 => ev_M_cover (fun (r113 : Int32) (n_114 : ctN) (f_115 : ctF) => ev_M_thrown (fun (r116 : Int32) (n_117 : ctN) (f_118 : ctF) => (if r116 = r106 then (if r106 = 0 then ev_let ((f_118 32 (0 : Int32).toNatClampNeg).toInt64) (fun y122 => (if (lg_cmp y122 (r113.toInt64)) = 0 then ev_frc (x4 + 6) (fun x4_124 => ev_law xs L k x4_124 n_117 f_118) else true)) else ev_frc (x4 + 6) (fun x4_121 => ev_law xs L k x4_121 n_117 f_118)) else true)) n_114 f_115) v79 v80 v81 v82 n_107 f_108))))))))) v83 v84 v85 v86 n f)))))))) else (if ((xs x4.toNatClampNeg) &&& 15).toInt = 10 then false else (if ((xs x4.toNatClampNeg) &&& 15).toInt = 11 then false else (if (((xs x4.toNatClampNeg) &&& 15).toInt < 0 ∨ 11 < ((xs x4.toNatClampNeg) &&& 15).toInt) then false else false)))))))))))))))
theorem sd_law (xs : Nat → Int32) (L : Nat) : ∀ (k : Nat) (x4 : Int32) (n : ctN) (f : ctF), ev_law xs L k x4 n f = true → wp_law0 xs L k x4 n f
  | 0, _, _, _, h => ev_no h
  | k + 1, x4, n, f, h => by rw [ev_law] at h; rw [wp_law0]; exact ⟨fun hc => have h := ev_i1 h hc; ev_no h, fun hc => have h := ev_i2 h hc; ⟨ev_in1 h, have h := ev_in2 h; ⟨fun hc => have h := ev_i1 h hc; ev_no h, fun hc => have h := ev_i2 h (by omega); have h := ev_i1 h hc; ev_no h, fun hc => have h := ev_i2 h (by omega); have h := ev_i2 h (by omega); have h := ev_i1 h hc; ⟨ev_in1 h, have h := ev_in2 h; (have h := ev_frcS h; sd_L_operator (fun r18 n_19 f_20 h => ⟨ev_in1 h, have h := ev_in2 h; (have h := ev_frcS h; sd_M_operator (fun r22 n_23 f_24 h => fun x4_25 hy => have h := ev_frcA h x4_25 hy; sd_law xs L k _ _ _ h) h)⟩) h)⟩, fun hc => have h := ev_i2 h (by omega); have h := ev_i2 h (by omega); have h := ev_i2 h (by omega); have h := ev_i1 h hc; ⟨ev_in1 h, have h := ev_in2 h; ⟨ev_in1 h, have h := ev_in2 h; ⟨ev_in1 h, have h := ev_in2 h; ⟨ev_in1 h, have h := ev_in2 h; ⟨ev_in1 h, have h := ev_in2 h; (have h := ev_frcS h; have h := ev_frcS h; have h := ev_frcS h; have h := ev_frcS h; have h := ev_frcS h; sd_L_base (fun r31 n_32 f_33 h => ⟨ev_in1 h, have h := ev_in2 h; ⟨ev_in1 h, have h := ev_in2 h; ⟨ev_in1 h, have h := ev_in2 h; ⟨ev_in1 h, have h := ev_in2 h; ⟨ev_in1 h, have h := ev_in2 h; (have h := ev_frcS h; have h := ev_frcS h; have h := ev_frcS h; have h := ev_frcS h; have h := ev_frcS h; sd_M_base (fun r39 n_40 f_41 h => fun x4_42 hy => have h := ev_frcA h x4_42 hy; sd_law xs L k _ _ _ h) h)⟩⟩⟩⟩⟩) h)⟩⟩⟩⟩⟩, fun hc => have h := ev_i2 h (by omega); have h := ev_i2 h (by omega); have h := ev_i2 h (by omega); have h := ev_i2 h (by omega); have h := ev_i1 h hc; ⟨ev_in1 h, have h := ev_in2 h; ⟨ev_in1 h, have h := ev_in2 h; ⟨ev_in1 h, have h := ev_in2 h; (have h := ev_frcS h; have h := ev_frcS h; have h := ev_frcS h; sd_L_chain (fun r46 n_47 f_48 h => ⟨ev_in1 h, have h := ev_in2 h; ⟨ev_in1 h, have h := ev_in2 h; ⟨ev_in1 h, have h := ev_in2 h; (have h := ev_frcS h; have h := ev_frcS h; have h := ev_frcS h; sd_M_chain (fun r52 n_53 f_54 h => fun x4_55 hy => have h := ev_frcA h x4_55 hy; sd_law xs L k _ _ _ h) h)⟩⟩⟩) h)⟩⟩⟩, fun hc => have h := ev_i2 h (by omega); have h := ev_i2 h (by omega); have h := ev_i2 h (by omega); have h := ev_i2 h (by omega); have h := ev_i2 h (by omega); have h := ev_i1 h hc; ⟨ev_in1 h, have h := ev_in2 h; ⟨ev_in1 h, have h := ev_in2 h; ⟨ev_in1 h, have h := ev_in2 h; (have h := ev_frcS h; have h := ev_frcS h; have h := ev_frcS h; sd_L_node (fun r59 n_60 f_61 h => ⟨ev_in1 h, have h := ev_in2 h; ⟨ev_in1 h, have h := ev_in2 h; ⟨ev_in1 h, have h := ev_in2 h; (have h := ev_frcS h; have h := ev_frcS h; have h := ev_frcS h; sd_M_node (fun r65 n_66 f_67 h => fun x4_68 hy => have h := ev_frcA h x4_68 hy; sd_law xs L k _ _ _ h) h)⟩⟩⟩) h)⟩⟩⟩, fun hc => have h := ev_i2 h (by omega); have h := ev_i2 h (by omega); have h := ev_i2 h (by omega); have h := ev_i2 h (by omega); have h := ev_i2 h (by omega); have h := ev_i2 h (by omega); have h := ev_i1 h hc; ev_no h, fun hc => have h := ev_i2 h (by omega); have h := ev_i2 h (by omega); have h := ev_i2 h (by omega); have h := ev_i2 h (by omega); have h := ev_i2 h (by omega); have h := ev_i2 h (by omega); have h := ev_i2 h (by omega); have h := ev_i1 h hc; ev_no h, fun hc => have h := ev_i2 h (by omega); have h := ev_i2 h (by omega); have h := ev_i2 h (by omega); have h := ev_i2 h (by omega); have h := ev_i2 h (by omega); have h := ev_i2 h (by omega); have h := ev_i2 h (by omega); have h := ev_i2 h (by omega); have h := ev_i1 h hc; ev_no h, fun hc => have h := ev_i2 h (by omega); have h := ev_i2 h (by omega); have h := ev_i2 h (by omega); have h := ev_i2 h (by omega); have h := ev_i2 h (by omega); have h := ev_i2 h (by omega); have h := ev_i2 h (by omega); have h := ev_i2 h (by omega); have h := ev_i2 h (by omega); have h := ev_i1 h hc; ⟨ev_in1 h, have h := ev_in2 h; ⟨ev_in1 h, have h := ev_in2 h; ⟨ev_in1 h, have h := ev_in2 h; ⟨ev_in1 h, have h := ev_in2 h; (have h := ev_frcS h; have h := ev_frcS h; have h := ev_frcS h; have h := ev_frcS h; sd_L_cover (fun r106 n_107 f_108 h => ⟨ev_in1 h, have h := ev_in2 h; ⟨ev_in1 h, have h := ev_in2 h; ⟨ev_in1 h, have h := ev_in2 h; ⟨ev_in1 h, have h := ev_in2 h; (have h := ev_frcS h; have h := ev_frcS h; have h := ev_frcS h; have h := ev_frcS h; sd_M_cover (fun r113 n_114 f_115 h => sd_M_thrown (fun r116 n_117 f_118 h => ⟨fun hc => have h := ev_i1 h hc; ⟨fun hc => have h := ev_i2 h hc; fun x4_121 hy => have h := ev_frcA h x4_121 hy; sd_law xs L k _ _ _ h, fun hc => have h := ev_i1 h hc; fun y122 hy => have h := ev_letA h y122 hy; ⟨fun hc => have h := ev_i1 h hc; fun x4_124 hy => have h := ev_frcA h x4_124 hy; sd_law xs L k _ _ _ h, fun hc => have h := ev_i2 h hc; trivial⟩⟩, fun hc => have h := ev_i2 h hc; trivial⟩) h) h)⟩⟩⟩⟩) h)⟩⟩⟩⟩, fun hc => have h := ev_i2 h (by omega); have h := ev_i2 h (by omega); have h := ev_i2 h (by omega); have h := ev_i2 h (by omega); have h := ev_i2 h (by omega); have h := ev_i2 h (by omega); have h := ev_i2 h (by omega); have h := ev_i2 h (by omega); have h := ev_i2 h (by omega); have h := ev_i2 h (by omega); have h := ev_i1 h hc; ev_no h, fun hc => have h := ev_i2 h (by omega); have h := ev_i2 h (by omega); have h := ev_i2 h (by omega); have h := ev_i2 h (by omega); have h := ev_i2 h (by omega); have h := ev_i2 h (by omega); have h := ev_i2 h (by omega); have h := ev_i2 h (by omega); have h := ev_i2 h (by omega); have h := ev_i2 h (by omega); have h := ev_i2 h (by omega); have h := ev_i1 h hc; ev_no h, fun hc => have h := ev_i2 h (by omega); have h := ev_i2 h (by omega); have h := ev_i2 h (by omega); have h := ev_i2 h (by omega); have h := ev_i2 h (by omega); have h := ev_i2 h (by omega); have h := ev_i2 h (by omega); have h := ev_i2 h (by omega); have h := ev_i2 h (by omega); have h := ev_i2 h (by omega); have h := ev_i2 h (by omega); have h := ev_i2 h (by omega); have h := ev_i1 h hc; ev_no h⟩⟩⟩
