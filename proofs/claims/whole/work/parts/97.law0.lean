/-! the law, walked to the end that answers 0 -/
def lw_Q0 (_ : Array Value) (s : State) (o : Outcome) (t : State) : Prop := o = .returned (some (.int 0)) ∧ Framed s o t [] 1074 15491
def lw_Z0 (below : List Frame) (a : Array Value) (s : State) : State → Prop := fun t => ∃ o, t.status = .running ∧ Ended t below o ∧ lw_Q0 a s o t
theorem lw_ret0 {p : Program} {l : Launch} {e : Env} {s : State} {m : MethodId} {below : List Frame} {meth : Method} {c : Code} {b : Nat} (hx : p.tables.exec = Jvm.exec) (hb : c.code = code) (hr : meth.sig.returnType = ret) (hlocks : meth.locks = false) {pc : Nat} {H : Heap} {ls : Array Slot} (hdg : decode code pc = .ok (.ireturn, 1)) : W p l e room_1 s m #[Value.ref b] below meth c H [] 1074 15491 (lw_Z0 below #[Value.ref b] s) (F0 m pc ls [.int 0]) := by
  intro T hT X
  obtain ⟨fs, hret, hrun, hended, hW, hframe⟩ := X.leave (v := some (.int 0)) (hlocks := hlocks) (fun h => by rw [hr] at h; cases h)
  have hmeth' : T.vm.method? m = some meth := X.method'
  refine ⟨T.setFrames fs, ?_, .returned (some (.int 0)), hrun, hended, rfl, ⟨_, rfl⟩, hW, hframe⟩
  jvm_step X.here [X.here.top, hx, hb, hdg, hmeth', hr, ret, narrow_b0]
  (try refine ⟨rfl, ?_⟩); (try refine ⟨rfl, ?_⟩)
  first | (intro acts; rw [hret _ acts rfl rfl rfl]) | rw [hret _ _ rfl rfl rfl]
  exact Steps.refl _
def wp_law0 (xs : Nat → Int32) (L : Nat) : Nat → Int32 → ctN → ctF → Prop
  | 0, _, _, _ => False
  | k + 1, x4, n, f => (((Int32.ofNat L) - 6) < x4 → (False)) ∧ (¬ ((Int32.ofNat L) - 6) < x4 → (vp_in x4 L ∧ ((((xs x4.toNatClampNeg) &&& 15).toInt = 0 → (wp_C_clear (fun (n_4 : ctN) (f_5 : ctF) => wp_M_clear (fun (n_7 : ctN) (f_8 : ctF) => ∀ x4_9 : Int32, x4_9 = x4 + 6 → (wp_law0 xs L k x4_9 n_7 f_8)) n_4 f_5) n f)) ∧ (((xs x4.toNatClampNeg) &&& 15).toInt = 1 → (wp_C_fell (fun (n_11 : ctN) (f_12 : ctF) => wp_M_fell (fun (n_14 : ctN) (f_15 : ctF) => ∀ x4_16 : Int32, x4_16 = x4 + 6 → (wp_law0 xs L k x4_16 n_14 f_15)) n_11 f_12) n f)) ∧ (((xs x4.toNatClampNeg) &&& 15).toInt = 2 → (vp_in (x4 + 1) L ∧ (wp_L_operator (fun (r18 : Int32) (n_19 : ctN) (f_20 : ctF) => vp_in (x4 + 1) L ∧ (wp_M_operator (fun (r22 : Int32) (n_23 : ctN) (f_24 : ctF) => wp_M_thrown (fun (r25 : Int32) (n_26 : ctN) (f_27 : ctF) => (r25 = r18 → ((¬ r18 = 0 → (∀ x4_30 : Int32, x4_30 = x4 + 6 → (wp_law0 xs L k x4_30 n_26 f_27))) ∧ (r18 = 0 → (∀ y31 : Int64, y31 = (f_27 32 (0 : Int32).toNatClampNeg).toInt64 → (((lg_cmp y31 (r22.toInt64)) = 0 → (∀ x4_33 : Int32, x4_33 = x4 + 6 → (wp_law0 xs L k x4_33 n_26 f_27))) ∧ (¬ (lg_cmp y31 (r22.toInt64)) = 0 → (True))))))) ∧ (¬ r25 = r18 → (True))) n_23 f_24) (xs (x4 + 1).toNatClampNeg) n_19 f_20)) (xs (x4 + 1).toNatClampNeg) n f))) ∧ (((xs x4.toNatClampNeg) &&& 15).toInt = 3 → (vp_in (x4 + 1) L ∧ (vp_in (x4 + 2) L ∧ (vp_in (x4 + 3) L ∧ (vp_in (x4 + 4) L ∧ (vp_in (x4 + 5) L ∧ (wp_L_base (fun (r39 : Int32) (n_40 : ctN) (f_41 : ctF) => vp_in (x4 + 1) L ∧ (vp_in (x4 + 2) L ∧ (vp_in (x4 + 3) L ∧ (vp_in (x4 + 4) L ∧ (vp_in (x4 + 5) L ∧ (wp_M_base (fun (r47 : Int32) (n_48 : ctN) (f_49 : ctF) => wp_M_thrown (fun (r50 : Int32) (n_51 : ctN) (f_52 : ctF) => (r50 = r39 → ((¬ r39 = 0 → (∀ x4_55 : Int32, x4_55 = x4 + 6 → (wp_law0 xs L k x4_55 n_51 f_52))) ∧ (r39 = 0 → (∀ y56 : Int64, y56 = (f_52 32 (0 : Int32).toNatClampNeg).toInt64 → (((lg_cmp y56 (r47.toInt64)) = 0 → (∀ x4_58 : Int32, x4_58 = x4 + 6 → (wp_law0 xs L k x4_58 n_51 f_52))) ∧ (¬ (lg_cmp y56 (r47.toInt64)) = 0 → (True))))))) ∧ (¬ r50 = r39 → (True))) n_48 f_49) (xs (x4 + 1).toNatClampNeg) (xs (x4 + 2).toNatClampNeg) (xs (x4 + 3).toNatClampNeg) (xs (x4 + 4).toNatClampNeg) (xs (x4 + 5).toNatClampNeg) n_40 f_41)))))) (xs (x4 + 1).toNatClampNeg) (xs (x4 + 2).toNatClampNeg) (xs (x4 + 3).toNatClampNeg) (xs (x4 + 4).toNatClampNeg) (xs (x4 + 5).toNatClampNeg) n f))))))) ∧ (((xs x4.toNatClampNeg) &&& 15).toInt = 4 → (vp_in (x4 + 1) L ∧ (vp_in (x4 + 2) L ∧ (vp_in (x4 + 3) L ∧ (wp_L_chain (fun (r62 : Int32) (n_63 : ctN) (f_64 : ctF) => vp_in (x4 + 1) L ∧ (vp_in (x4 + 2) L ∧ (vp_in (x4 + 3) L ∧ (wp_M_chain (fun (r68 : Int32) (n_69 : ctN) (f_70 : ctF) => wp_M_thrown (fun (r71 : Int32) (n_72 : ctN) (f_73 : ctF) => (r71 = r62 → ((¬ r62 = 0 → (∀ x4_76 : Int32, x4_76 = x4 + 6 → (wp_law0 xs L k x4_76 n_72 f_73))) ∧ (r62 = 0 → (∀ y77 : Int64, y77 = (f_73 32 (0 : Int32).toNatClampNeg).toInt64 → (((lg_cmp y77 (r68.toInt64)) = 0 → (∀ x4_79 : Int32, x4_79 = x4 + 6 → (wp_law0 xs L k x4_79 n_72 f_73))) ∧ (¬ (lg_cmp y77 (r68.toInt64)) = 0 → (True))))))) ∧ (¬ r71 = r62 → (True))) n_69 f_70) (xs (x4 + 1).toNatClampNeg) (xs (x4 + 2).toNatClampNeg) (xs (x4 + 3).toNatClampNeg) n_63 f_64)))) (xs (x4 + 1).toNatClampNeg) (xs (x4 + 2).toNatClampNeg) (xs (x4 + 3).toNatClampNeg) n f))))) ∧ (((xs x4.toNatClampNeg) &&& 15).toInt = 5 → (vp_in (x4 + 1) L ∧ (vp_in (x4 + 2) L ∧ (vp_in (x4 + 3) L ∧ (wp_L_node (fun (r83 : Int32) (n_84 : ctN) (f_85 : ctF) => vp_in (x4 + 1) L ∧ (vp_in (x4 + 2) L ∧ (vp_in (x4 + 3) L ∧ (wp_M_node (fun (r89 : Int32) (n_90 : ctN) (f_91 : ctF) => wp_M_thrown (fun (r92 : Int32) (n_93 : ctN) (f_94 : ctF) => (r92 = r83 → ((¬ r83 = 0 → (∀ x4_97 : Int32, x4_97 = x4 + 6 → (wp_law0 xs L k x4_97 n_93 f_94))) ∧ (r83 = 0 → (∀ y98 : Int64, y98 = (f_94 32 (0 : Int32).toNatClampNeg).toInt64 → (((lg_cmp y98 (r89.toInt64)) = 0 → (∀ x4_100 : Int32, x4_100 = x4 + 6 → (wp_law0 xs L k x4_100 n_93 f_94))) ∧ (¬ (lg_cmp y98 (r89.toInt64)) = 0 → (True))))))) ∧ (¬ r92 = r83 → (True))) n_90 f_91) (xs (x4 + 1).toNatClampNeg) (xs (x4 + 2).toNatClampNeg) (xs (x4 + 3).toNatClampNeg) n_84 f_85)))) (xs (x4 + 1).toNatClampNeg) (xs (x4 + 2).toNatClampNeg) (xs (x4 + 3).toNatClampNeg) n f))))) ∧ (((xs x4.toNatClampNeg) &&& 15).toInt = 6 → (vp_in (x4 + 1) L ∧ (vp_in (x4 + 2) L ∧ (wp_L_cost (fun (r103 : Int32) (n_104 : ctN) (f_105 : ctF) => vp_in (x4 + 1) L ∧ (vp_in (x4 + 2) L ∧ (wp_M_cost (fun (r108 : Int32) (n_109 : ctN) (f_110 : ctF) => wp_M_thrown (fun (r111 : Int32) (n_112 : ctN) (f_113 : ctF) => (r111 = r103 → ((¬ r103 = 0 → (∀ x4_116 : Int32, x4_116 = x4 + 6 → (wp_law0 xs L k x4_116 n_112 f_113))) ∧ (r103 = 0 → (∀ y117 : Int64, y117 = (f_113 32 (0 : Int32).toNatClampNeg).toInt64 → (((lg_cmp y117 (r108.toInt64)) = 0 → (∀ x4_119 : Int32, x4_119 = x4 + 6 → (wp_law0 xs L k x4_119 n_112 f_113))) ∧ (¬ (lg_cmp y117 (r108.toInt64)) = 0 → (True))))))) ∧ (¬ r111 = r103 → (True))) n_109 f_110) (xs (x4 + 1).toNatClampNeg) (xs (x4 + 2).toNatClampNeg) n_104 f_105))) (xs (x4 + 1).toNatClampNeg) (xs (x4 + 2).toNatClampNeg) n f)))) ∧ (((xs x4.toNatClampNeg) &&& 15).toInt = 7 → (vp_in (x4 + 1) L ∧ (vp_in (x4 + 2) L ∧ (wp_L_rule (fun (r122 : Int32) (n_123 : ctN) (f_124 : ctF) => vp_in (x4 + 1) L ∧ (vp_in (x4 + 2) L ∧ (wp_M_rule (fun (r127 : Int32) (n_128 : ctN) (f_129 : ctF) => wp_M_thrown (fun (r130 : Int32) (n_131 : ctN) (f_132 : ctF) => (r130 = r122 → ((¬ r122 = 0 → (∀ x4_135 : Int32, x4_135 = x4 + 6 → (wp_law0 xs L k x4_135 n_131 f_132))) ∧ (r122 = 0 → (∀ y136 : Int64, y136 = (f_132 32 (0 : Int32).toNatClampNeg).toInt64 → (((lg_cmp y136 (r127.toInt64)) = 0 → (∀ x4_138 : Int32, x4_138 = x4 + 6 → (wp_law0 xs L k x4_138 n_131 f_132))) ∧ (¬ (lg_cmp y136 (r127.toInt64)) = 0 → (True))))))) ∧ (¬ r130 = r122 → (True))) n_128 f_129) (xs (x4 + 1).toNatClampNeg) (xs (x4 + 2).toNatClampNeg) n_123 f_124))) (xs (x4 + 1).toNatClampNeg) (xs (x4 + 2).toNatClampNeg) n f)))) ∧ (((xs x4.toNatClampNeg) &&& 15).toInt = 8 → (vp_in (x4 + 1) L ∧ (vp_in (x4 + 2) L ∧ (wp_L_size (fun (r141 : Int32) (n_142 : ctN) (f_143 : ctF) => vp_in (x4 + 1) L ∧ (vp_in (x4 + 2) L ∧ (wp_M_size (fun (r146 : Int32) (n_147 : ctN) (f_148 : ctF) => wp_M_thrown (fun (r149 : Int32) (n_150 : ctN) (f_151 : ctF) => (r149 = r141 → ((¬ r141 = 0 → (∀ x4_154 : Int32, x4_154 = x4 + 6 → (wp_law0 xs L k x4_154 n_150 f_151))) ∧ (r141 = 0 → (∀ y155 : Int64, y155 = (f_151 32 (0 : Int32).toNatClampNeg).toInt64 → (((lg_cmp y155 (r146.toInt64)) = 0 → (∀ x4_157 : Int32, x4_157 = x4 + 6 → (wp_law0 xs L k x4_157 n_150 f_151))) ∧ (¬ (lg_cmp y155 (r146.toInt64)) = 0 → (True))))))) ∧ (¬ r149 = r141 → (True))) n_147 f_148) (xs (x4 + 1).toNatClampNeg) (xs (x4 + 2).toNatClampNeg) n_142 f_143))) (xs (x4 + 1).toNatClampNeg) (xs (x4 + 2).toNatClampNeg) n f)))) ∧ (((xs x4.toNatClampNeg) &&& 15).toInt = 9 → (vp_in (x4 + 1) L ∧ (vp_in (x4 + 2) L ∧ (vp_in (x4 + 3) L ∧ (vp_in (x4 + 4) L ∧ (wp_L_cover (fun (r162 : Int32) (n_163 : ctN) (f_164 : ctF) => vp_in (x4 + 1) L ∧ (vp_in (x4 + 2) L ∧ (vp_in (x4 + 3) L ∧ (vp_in (x4 + 4) L ∧ (wp_M_cover (fun (r169 : Int32) (n_170 : ctN) (f_171 : ctF) => wp_M_thrown (fun (r172 : Int32) (n_173 : ctN) (f_174 : ctF) => (r172 = r162 → ((¬ r162 = 0 → (∀ x4_177 : Int32, x4_177 = x4 + 6 → (wp_law0 xs L k x4_177 n_173 f_174))) ∧ (r162 = 0 → (∀ y178 : Int64, y178 = (f_174 32 (0 : Int32).toNatClampNeg).toInt64 → (((lg_cmp y178 (r169.toInt64)) = 0 → (∀ x4_180 : Int32, x4_180 = x4 + 6 → (wp_law0 xs L k x4_180 n_173 f_174))) ∧ (¬ (lg_cmp y178 (r169.toInt64)) = 0 → (True))))))) ∧ (¬ r172 = r162 → (True))) n_170 f_171) (xs (x4 + 1).toNatClampNeg) (xs (x4 + 2).toNatClampNeg) (xs (x4 + 3).toNatClampNeg) (xs (x4 + 4).toNatClampNeg) n_163 f_164))))) (xs (x4 + 1).toNatClampNeg) (xs (x4 + 2).toNatClampNeg) (xs (x4 + 3).toNatClampNeg) (xs (x4 + 4).toNatClampNeg) n f)))))) ∧ (((xs x4.toNatClampNeg) &&& 15).toInt = 10 → (wp_C_states (fun (r181 : Int32) (n_182 : ctN) (f_183 : ctF) => wp_M_states (fun (r184 : Int32) (n_185 : ctN) (f_186 : ctF) => (r181 = r184 → (∀ x4_188 : Int32, x4_188 = x4 + 6 → (wp_law0 xs L k x4_188 n_185 f_186))) ∧ (¬ r181 = r184 → (True))) n_182 f_183) n f)) ∧ (((xs x4.toNatClampNeg) &&& 15).toInt = 11 → (vp_in (x4 + 1) L ∧ (wp_L_like (fun (r190 : Int32) (n_191 : ctN) (f_192 : ctF) => vp_in (x4 + 1) L ∧ (wp_M_like (fun (r194 : Int32) (n_195 : ctN) (f_196 : ctF) => wp_M_thrown (fun (r197 : Int32) (n_198 : ctN) (f_199 : ctF) => (r197 = r190 → ((¬ r190 = 0 → (∀ x4_202 : Int32, x4_202 = x4 + 6 → (wp_law0 xs L k x4_202 n_198 f_199))) ∧ (r190 = 0 → (∀ y203 : Int64, y203 = (f_199 32 (0 : Int32).toNatClampNeg).toInt64 → (((lg_cmp y203 (r194.toInt64)) = 0 → (∀ x4_205 : Int32, x4_205 = x4 + 6 → (wp_law0 xs L k x4_205 n_198 f_199))) ∧ (¬ (lg_cmp y203 (r194.toInt64)) = 0 → (True))))))) ∧ (¬ r197 = r190 → (True))) n_195 f_196) (xs (x4 + 1).toNatClampNeg) n_191 f_192)) (xs (x4 + 1).toNatClampNeg) n f))) ∧ ((((xs x4.toNatClampNeg) &&& 15).toInt < 0 ∨ 11 < ((xs x4.toNatClampNeg) &&& 15).toInt) → (∀ x4_206 : Int32, x4_206 = x4 + 6 → (wp_law0 xs L k x4_206 n f))))))
set_option maxHeartbeats 8000000 in
set_option maxRecDepth 100000 in
theorem law_loop0 {p : Program} {l : Launch} (hl9 : l.stackTraces = false) {e : Env} {s : State} {m : MethodId} {below : List Frame} {meth : Method} {c : Code} {dC : Nat → ClassId} {dI : Nat → Nat → Nat} {a : Nat → Nat} {cA : Nat → ClassId} {sa : Nat → Nat} {b L : Nat} {xs : Nat → Int32} (hts : ∀ w ∈ wsLaw, w.before #[Value.ref b] s = true) (C0 : lw_At p s m meth c b L xs) (hK : va_K (dC, dI) vcl (ctT cA) s) (hZ : ctZ sa (fun q : Nat => s.heap.size ≤ q) s s.heap) (hDa : ∀ (n : ctN) (f : ctF), va_D (fun q : Nat => s.heap.size ≤ q) (ctW a cA n f)) :
    ∀ (k : Nat) (x4 : Int32) (n : ctN) (f : ctF) (H : Heap) (locs : List Loc) (ls : Array Slot) (cells slots : Nat), cells + k ≤ 1074 → slots + 6 * k ≤ 15491 → wp_law0 xs L k x4 n f → va_P (dC, dI) vcl (ctW a cA n f) H → va_S (fun q : Nat => s.heap.size ≤ q) s.heap H locs → lv_has ls 7 [(0, .ref b), (1, .ref (a 0)), (2, .ref (a 18)), (3, .ref (a 32)), (4, .int x4)] → W p l e room_1 s m #[Value.ref b] below meth c H locs cells slots (lw_Z0 below #[Value.ref b] s) (F0 m 23 ls []) := by
  obtain ⟨hx, hb, hr, hml, hown, -, hX, hbl, hlocks, hgv⟩ := C0
  have hA : ∀ q : Nat, s.heap.size ≤ q → (fun q : Nat => s.heap.size ≤ q) q := fun _ h => h
  have hbA : ¬ (fun q : Nat => s.heap.size ≤ q) b := Nat.not_le.mpr hbl
  intro k
  induction k with
  | zero => intro x4 n f H locs ls cells slots _ _ hw; exact hw.elim
  | succ k ih =>
    intro x4 n f H locs ls cells slots hc1 hc2 hw hP hS hl
    rw [wp_law0] at hw
    refine lv_iload hx hb dL_law_23 (lv_at hl 4 rfl) ?_
    refine lv_aload_n hx hb dL_law_25 rfl (lv_at hl 0 rfl) ?_
    refine va_slen hx hb hX hbl hbA hS dL_law_26 ?_
    refine lv_bipush (v := 6) hx hb dL_law_27 (by decide) ?_
    refine lv_isub hx hb dL_law_29 ?_
    refine lv_icmp_gt (tgt := 817) hx hb dL_law_30 (by decide) (fun c1 => ?_) (fun c1 => ?_)
    · have hw := hw.1 c1
      refine lv_iconst (v := 1) hx hb dL_law_817 (by decide) ?_
      exact False.elim hw
    · have hw := hw.2 c1
      refine lv_aload_n hx hb dL_law_33 rfl (lv_at hl 0 rfl) ?_
      refine lv_iload hx hb dL_law_34 (lv_at hl 4 rfl) ?_
      obtain ⟨hi2, hw⟩ := hw
      refine va_sld hx hb hX hbl hbA hS hi2 dL_law_36 ?_
      refine lv_bipush (v := 15) hx hb dL_law_37 (by decide) ?_
      refine lv_iand hx hb dL_law_39 ?_
      rcases (show ((xs x4.toNatClampNeg) &&& 15).toInt = 0 ∨ ((xs x4.toNatClampNeg) &&& 15).toInt = 1 ∨ ((xs x4.toNatClampNeg) &&& 15).toInt = 2 ∨ ((xs x4.toNatClampNeg) &&& 15).toInt = 3 ∨ ((xs x4.toNatClampNeg) &&& 15).toInt = 4 ∨ ((xs x4.toNatClampNeg) &&& 15).toInt = 5 ∨ ((xs x4.toNatClampNeg) &&& 15).toInt = 6 ∨ ((xs x4.toNatClampNeg) &&& 15).toInt = 7 ∨ ((xs x4.toNatClampNeg) &&& 15).toInt = 8 ∨ ((xs x4.toNatClampNeg) &&& 15).toInt = 9 ∨ ((xs x4.toNatClampNeg) &&& 15).toInt = 10 ∨ ((xs x4.toNatClampNeg) &&& 15).toInt = 11 ∨ (((xs x4.toNatClampNeg) &&& 15).toInt < 0 ∨ 11 < ((xs x4.toNatClampNeg) &&& 15).toInt) by omega) with cs | cs | cs | cs | cs | cs | cs | cs | cs | cs | cs | cs | cs
      · have hw := hw.1 cs
        refine lv_tableIn (tgt := 104) hx hb dL_law_40 (by omega) (by omega) (by rw [cs]; rfl) (by decide) ?_
        refine lv_aload_n hx hb dL_law_104 rfl (lv_at hl 1 rfl) ?_
        refine ct_v (va_runV (As := []) (rest := []) ⟨hx, hb, hml, hown, hts⟩ (met_C_clear l dC dI a cA sa n f _ hw) (cwV 0 hts (wb_V wt_141 wt_142 wt_143 wt_27 wt_144) rfl rfl rfl (by decide +kernel) ⟨Nat.le_of_ble_eq_true rfl, Nat.le_of_ble_eq_true rfl⟩) (ct_preV hK hP (hDa _ _) hZ hS hA (va_recv hK hP (ci := 0) (q0 := 0) rfl rfl)) rfl rfl hl.1 rfl (lv_room (Nat.le_of_ble_eq_true rfl)) dL_law_105 ⟨by show _ ≤ 1074; omega, by show _ ≤ 15491; omega⟩) (hDa _ _) hS hA (fun n_4 f_5 H locs hw hP hS => ?_)
        refine lv_aload_n hx hb dL_law_108 rfl (lv_at hl 2 rfl) ?_
        refine ct_v (va_runV (As := []) (rest := []) ⟨hx, hb, hml, hown, hts⟩ (met_M_clear l dC dI a cA sa n_4 f_5 _ hw) (cwV 0 hts (wb_V wt_506 wt_507 wt_508 wt_30 wt_509) rfl rfl rfl (by decide +kernel) ⟨Nat.le_of_ble_eq_true rfl, Nat.le_of_ble_eq_true rfl⟩) (ct_preV hK hP (hDa _ _) hZ hS hA (va_recv hK hP (ci := 3) (q0 := 18) rfl rfl)) rfl rfl hl.1 rfl (lv_room (Nat.le_of_ble_eq_true rfl)) dL_law_109 ⟨by show _ ≤ 1074; omega, by show _ ≤ 15491; omega⟩) (hDa _ _) hS hA (fun n_7 f_8 H locs hw hP hS => ?_)
        refine lv_goto (tgt := 811) hx hb dL_law_112 (by decide) ?_
        obtain ⟨x4_9, ex4_9⟩ : ∃ y : Int32, y = x4 + 6 := ⟨_, rfl⟩
        have hw := hw x4_9 ex4_9
        refine lv_iinc (v := x4_9) (lv' := [(4, .int x4_9), (0, .ref b), (1, .ref (a 0)), (2, .ref (a 18)), (3, .ref (a 32))]) hx hb dL_law_811 hl (k := 4) rfl (by rw [ex4_9]; rfl) (by decide) rfl (fun ls hl => ?_)
        refine lv_goto (tgt := 23) hx hb dL_law_814 (by decide) ?_
        exact ih x4_9 n_7 f_8 _ _ ls _ _ (by omega) (by omega) hw hP hS (lv_sub hl [1, 2, 3, 4, 0] rfl)
      · have hw := hw.2.1 cs
        refine lv_tableIn (tgt := 115) hx hb dL_law_40 (by omega) (by omega) (by rw [cs]; rfl) (by decide) ?_
        refine lv_aload_n hx hb dL_law_115 rfl (lv_at hl 1 rfl) ?_
        refine ct_v (va_runV (As := []) (rest := []) ⟨hx, hb, hml, hown, hts⟩ (met_C_fell l dC dI a cA sa n f _ hw) (cwV 0 hts (wb_V wt_145 wt_146 wt_147 wt_27 wt_148) rfl rfl rfl (by decide +kernel) ⟨Nat.le_of_ble_eq_true rfl, Nat.le_of_ble_eq_true rfl⟩) (ct_preV hK hP (hDa _ _) hZ hS hA (va_recv hK hP (ci := 0) (q0 := 0) rfl rfl)) rfl rfl hl.1 rfl (lv_room (Nat.le_of_ble_eq_true rfl)) dL_law_116 ⟨by show _ ≤ 1074; omega, by show _ ≤ 15491; omega⟩) (hDa _ _) hS hA (fun n_11 f_12 H locs hw hP hS => ?_)
        refine lv_aload_n hx hb dL_law_119 rfl (lv_at hl 2 rfl) ?_
        refine ct_v (va_runV (As := []) (rest := []) ⟨hx, hb, hml, hown, hts⟩ (met_M_fell l dC dI a cA sa n_11 f_12 _ hw) (cwV 0 hts (wb_V wt_510 wt_511 wt_512 wt_30 wt_513) rfl rfl rfl (by decide +kernel) ⟨Nat.le_of_ble_eq_true rfl, Nat.le_of_ble_eq_true rfl⟩) (ct_preV hK hP (hDa _ _) hZ hS hA (va_recv hK hP (ci := 3) (q0 := 18) rfl rfl)) rfl rfl hl.1 rfl (lv_room (Nat.le_of_ble_eq_true rfl)) dL_law_120 ⟨by show _ ≤ 1074; omega, by show _ ≤ 15491; omega⟩) (hDa _ _) hS hA (fun n_14 f_15 H locs hw hP hS => ?_)
        refine lv_goto (tgt := 811) hx hb dL_law_123 (by decide) ?_
        obtain ⟨x4_16, ex4_16⟩ : ∃ y : Int32, y = x4 + 6 := ⟨_, rfl⟩
        have hw := hw x4_16 ex4_16
        refine lv_iinc (v := x4_16) (lv' := [(4, .int x4_16), (0, .ref b), (1, .ref (a 0)), (2, .ref (a 18)), (3, .ref (a 32))]) hx hb dL_law_811 hl (k := 4) rfl (by rw [ex4_16]; rfl) (by decide) rfl (fun ls hl => ?_)
        refine lv_goto (tgt := 23) hx hb dL_law_814 (by decide) ?_
        exact ih x4_16 n_14 f_15 _ _ ls _ _ (by omega) (by omega) hw hP hS (lv_sub hl [1, 2, 3, 4, 0] rfl)
      · have hw := hw.2.2.1 cs
        refine lv_tableIn (tgt := 126) hx hb dL_law_40 (by omega) (by omega) (by rw [cs]; rfl) (by decide) ?_
        refine lv_aload_n hx hb dL_law_126 rfl (lv_at hl 1 rfl) ?_
        refine lv_aload_n hx hb dL_law_127 rfl (lv_at hl 0 rfl) ?_
        refine lv_iload hx hb dL_law_128 (lv_at hl 4 rfl) ?_
        refine lv_iconst (v := 1) hx hb dL_law_130 (by decide) ?_
        refine lv_iadd hx hb dL_law_131 ?_
        obtain ⟨hi17, hw⟩ := hw
        refine va_sld hx hb hX hbl hbA hS hi17 dL_law_132 ?_
        refine lv_aload_n hx hb dL_law_133 rfl (lv_at hl 3 rfl) ?_
        refine ct_ic (vx_runSW (As := [.ref (a 0), .int (xs (x4 + 1).toNatClampNeg), .ref (a 32)]) (rest := []) ⟨hx, hb, hml, hown, hts⟩ (met_L_operator l hl9 dC dI a cA sa (xs (x4 + 1).toNatClampNeg) n f _ hw) (vx_cwSW 3 hts (wb_in (wb_c2 wt_157 (wb_c2 wt_158 (wb_c2 wt_26 (wb_cons wt_159))))) rfl rfl rfl (by decide +kernel) ⟨Nat.le_of_ble_eq_true rfl, Nat.le_of_ble_eq_true rfl⟩) (ct_pre hK hP (hDa _ _) hZ hS hA) rfl rfl hl.1 rfl (lv_room (Nat.le_of_ble_eq_true rfl)) dL_law_134 ⟨by show _ ≤ 1074; omega, by show _ ≤ 15491; omega⟩) (hDa _ _) hS hA (fun r18 n_19 f_20 H locs hw hP hS => ?_)
        refine lv_istore (lv' := [(5, .int r18), (0, .ref b), (1, .ref (a 0)), (2, .ref (a 18)), (3, .ref (a 32)), (4, .int x4)]) hx hb dL_law_137 hl (by decide) rfl (fun ls hl => ?_)
        refine lv_aload_n hx hb dL_law_139 rfl (lv_at hl 3 rfl) ?_
        refine lv_aload_n hx hb dL_law_140 rfl (lv_at hl 1 rfl) ?_
        refine lv_iload hx hb dL_law_141 (lv_at hl 5 rfl) ?_
        refine lv_iconst (v := 1) hx hb dL_law_143 (by decide) ?_
        refine lv_iadd hx hb dL_law_144 ?_
        obtain ⟨hi21, hw⟩ := hw
        refine va_sld hx hb hX hbl hbA hS hi21 dL_law_145 ?_
        refine ct_i (va_runV (As := [.int (xs (x4 + 1).toNatClampNeg)]) (rest := []) ⟨hx, hb, hml, hown, hts⟩ (met_M_operator l dC dI a cA sa (xs (x4 + 1).toNatClampNeg) n_19 f_20 _ hw) (cwV 1 hts (wb_V wt_514 wt_515 wt_516 wt_30 wt_517) rfl rfl rfl (by decide +kernel) ⟨Nat.le_of_ble_eq_true rfl, Nat.le_of_ble_eq_true rfl⟩) (ct_preV hK hP (hDa _ _) hZ hS hA (va_recv hK hP (ci := 3) (q0 := 18) rfl rfl)) rfl rfl hl.1 rfl (lv_room (Nat.le_of_ble_eq_true rfl)) dL_law_146 ⟨by show _ ≤ 1074; omega, by show _ ≤ 15491; omega⟩) (hDa _ _) hS hA (fun r22 n_23 f_24 H locs hw hP hS => ?_)
        refine lv_istore (lv' := [(6, .int r22), (5, .int r18), (0, .ref b), (1, .ref (a 0)), (2, .ref (a 18)), (3, .ref (a 32)), (4, .int x4)]) hx hb dL_law_149 hl (by decide) rfl (fun ls hl => ?_)
        refine lv_aload_n hx hb dL_law_151 rfl (lv_at hl 4 rfl) ?_
        refine ct_i (va_runV (As := []) (rest := []) ⟨hx, hb, hml, hown, hts⟩ (met_M_thrown l dC dI a cA sa n_23 f_24 _ hw) (cwV 0 hts (wb_V wt_502 wt_503 wt_504 wt_30 wt_505) rfl rfl rfl (by decide +kernel) ⟨Nat.le_of_ble_eq_true rfl, Nat.le_of_ble_eq_true rfl⟩) (ct_preV hK hP (hDa _ _) hZ hS hA (va_recv hK hP (ci := 3) (q0 := 18) rfl rfl)) rfl rfl hl.1 rfl (lv_room (Nat.le_of_ble_eq_true rfl)) dL_law_152 ⟨by show _ ≤ 1074; omega, by show _ ≤ 15491; omega⟩) (hDa _ _) hS hA (fun r25 n_26 f_27 H locs hw hP hS => ?_)
        refine lv_iload hx hb dL_law_155 (lv_at hl 1 rfl) ?_
        refine lv_icmp_eq (tgt := 162) hx hb dL_law_157 (by decide) (fun c28 => ?_) (fun c28 => ?_)
        · have hw := hw.1 c28
          refine lv_iload hx hb dL_law_162 (lv_at hl 1 rfl) ?_
          refine lv_if_ne (tgt := 179) hx hb dL_law_164 (by decide) (fun c29 => ?_) (fun c29 => ?_)
          · have hw := hw.1 c29
            refine lv_goto (tgt := 811) hx hb dL_law_179 (by decide) ?_
            obtain ⟨x4_30, ex4_30⟩ : ∃ y : Int32, y = x4 + 6 := ⟨_, rfl⟩
            have hw := hw x4_30 ex4_30
            refine lv_iinc (v := x4_30) (lv' := [(4, .int x4_30), (6, .int r22), (5, .int r18), (0, .ref b), (1, .ref (a 0)), (2, .ref (a 18)), (3, .ref (a 32))]) hx hb dL_law_811 hl (k := 6) rfl (by rw [ex4_30]; rfl) (by decide) rfl (fun ls hl => ?_)
            refine lv_goto (tgt := 23) hx hb dL_law_814 (by decide) ?_
            exact ih x4_30 n_26 f_27 _ _ ls _ _ (by omega) (by omega) hw hP hS (lv_sub hl [3, 4, 5, 6, 0] rfl)
          · have hw := hw.2 c29
            refine lv_aload_n hx hb dL_law_167 rfl (lv_at hl 5 rfl) ?_
            refine lv_iconst (v := 0) hx hb dL_law_168 (by decide) ?_
            refine va_lald hx hb hK hP 32 28 rfl rfl ct_in01 dL_law_169 ?_
            refine lv_topl (fun y31 ey31 => ?_)
            have hw := hw y31 ey31
            refine lv_iload hx hb dL_law_170 (lv_at hl 0 rfl) ?_
            refine lv_i2l (v := r22.toInt64) hx hb dL_law_172 rfl ?_
            refine W.lcmp hx hb dL_law_173 ?_
            refine lv_if_eq (tgt := 179) hx hb dL_law_174 (by decide) (fun c32 => ?_) (fun c32 => ?_)
            · have hw := hw.1 c32
              refine lv_goto (tgt := 811) hx hb dL_law_179 (by decide) ?_
              obtain ⟨x4_33, ex4_33⟩ : ∃ y : Int32, y = x4 + 6 := ⟨_, rfl⟩
              have hw := hw x4_33 ex4_33
              refine lv_iinc (v := x4_33) (lv' := [(4, .int x4_33), (6, .int r22), (5, .int r18), (0, .ref b), (1, .ref (a 0)), (2, .ref (a 18)), (3, .ref (a 32))]) hx hb dL_law_811 hl (k := 6) rfl (by rw [ex4_33]; rfl) (by decide) rfl (fun ls hl => ?_)
              refine lv_goto (tgt := 23) hx hb dL_law_814 (by decide) ?_
              exact ih x4_33 n_26 f_27 _ _ ls _ _ (by omega) (by omega) hw hP hS (lv_sub hl [3, 4, 5, 6, 0] rfl)
            · have hw := hw.2 c32
              refine lv_iconst (v := 0) hx hb dL_law_177 (by decide) ?_
              refine va_forget (fun q hq => hS.2.2 q hq) ?_
              refine W.widen (k := 1074) (n := 15491) (by omega) (by omega) ?_
              exact lw_ret0 hx hb hr hlocks dL_law_178
        · have hw := hw.2 c28
          refine lv_iconst (v := 0) hx hb dL_law_160 (by decide) ?_
          refine va_forget (fun q hq => hS.2.2 q hq) ?_
          refine W.widen (k := 1074) (n := 15491) (by omega) (by omega) ?_
          exact lw_ret0 hx hb hr hlocks dL_law_161
      · have hw := hw.2.2.2.1 cs
        refine lv_tableIn (tgt := 182) hx hb dL_law_40 (by omega) (by omega) (by rw [cs]; rfl) (by decide) ?_
        refine lv_aload_n hx hb dL_law_182 rfl (lv_at hl 1 rfl) ?_
        refine lv_aload_n hx hb dL_law_183 rfl (lv_at hl 0 rfl) ?_
        refine lv_iload hx hb dL_law_184 (lv_at hl 4 rfl) ?_
        refine lv_iconst (v := 1) hx hb dL_law_186 (by decide) ?_
        refine lv_iadd hx hb dL_law_187 ?_
        obtain ⟨hi34, hw⟩ := hw
        refine va_sld hx hb hX hbl hbA hS hi34 dL_law_188 ?_
        refine lv_aload_n hx hb dL_law_189 rfl (lv_at hl 0 rfl) ?_
        refine lv_iload hx hb dL_law_190 (lv_at hl 4 rfl) ?_
        refine lv_iconst (v := 2) hx hb dL_law_192 (by decide) ?_
        refine lv_iadd hx hb dL_law_193 ?_
        obtain ⟨hi35, hw⟩ := hw
        refine va_sld hx hb hX hbl hbA hS hi35 dL_law_194 ?_
        refine lv_aload_n hx hb dL_law_195 rfl (lv_at hl 0 rfl) ?_
        refine lv_iload hx hb dL_law_196 (lv_at hl 4 rfl) ?_
        refine lv_iconst (v := 3) hx hb dL_law_198 (by decide) ?_
        refine lv_iadd hx hb dL_law_199 ?_
        obtain ⟨hi36, hw⟩ := hw
        refine va_sld hx hb hX hbl hbA hS hi36 dL_law_200 ?_
        refine lv_aload_n hx hb dL_law_201 rfl (lv_at hl 0 rfl) ?_
        refine lv_iload hx hb dL_law_202 (lv_at hl 4 rfl) ?_
        refine lv_iconst (v := 4) hx hb dL_law_204 (by decide) ?_
        refine lv_iadd hx hb dL_law_205 ?_
        obtain ⟨hi37, hw⟩ := hw
        refine va_sld hx hb hX hbl hbA hS hi37 dL_law_206 ?_
        refine lv_aload_n hx hb dL_law_207 rfl (lv_at hl 0 rfl) ?_
        refine lv_iload hx hb dL_law_208 (lv_at hl 4 rfl) ?_
        refine lv_iconst (v := 5) hx hb dL_law_210 (by decide) ?_
        refine lv_iadd hx hb dL_law_211 ?_
        obtain ⟨hi38, hw⟩ := hw
        refine va_sld hx hb hX hbl hbA hS hi38 dL_law_212 ?_
        refine lv_aload_n hx hb dL_law_213 rfl (lv_at hl 3 rfl) ?_
        refine ct_ic (vx_runSW (As := [.ref (a 0), .int (xs (x4 + 1).toNatClampNeg), .int (xs (x4 + 2).toNatClampNeg), .int (xs (x4 + 3).toNatClampNeg), .int (xs (x4 + 4).toNatClampNeg), .int (xs (x4 + 5).toNatClampNeg), .ref (a 32)]) (rest := []) ⟨hx, hb, hml, hown, hts⟩ (met_L_base l hl9 dC dI a cA sa (xs (x4 + 1).toNatClampNeg) (xs (x4 + 2).toNatClampNeg) (xs (x4 + 3).toNatClampNeg) (xs (x4 + 4).toNatClampNeg) (xs (x4 + 5).toNatClampNeg) n f _ hw) (vx_cwSW 7 hts (wb_in (wb_c2 wt_254 (wb_c2 wt_255 (wb_c2 wt_26 (wb_cons wt_256))))) rfl rfl rfl (by decide +kernel) ⟨Nat.le_of_ble_eq_true rfl, Nat.le_of_ble_eq_true rfl⟩) (ct_pre hK hP (hDa _ _) hZ hS hA) rfl rfl hl.1 rfl (lv_room (Nat.le_of_ble_eq_true rfl)) dL_law_214 ⟨by show _ ≤ 1074; omega, by show _ ≤ 15491; omega⟩) (hDa _ _) hS hA (fun r39 n_40 f_41 H locs hw hP hS => ?_)
        refine lv_istore (lv' := [(5, .int r39), (0, .ref b), (1, .ref (a 0)), (2, .ref (a 18)), (3, .ref (a 32)), (4, .int x4)]) hx hb dL_law_217 hl (by decide) rfl (fun ls hl => ?_)
        refine lv_aload_n hx hb dL_law_219 rfl (lv_at hl 3 rfl) ?_
        refine lv_aload_n hx hb dL_law_220 rfl (lv_at hl 1 rfl) ?_
        refine lv_iload hx hb dL_law_221 (lv_at hl 5 rfl) ?_
        refine lv_iconst (v := 1) hx hb dL_law_223 (by decide) ?_
        refine lv_iadd hx hb dL_law_224 ?_
        obtain ⟨hi42, hw⟩ := hw
        refine va_sld hx hb hX hbl hbA hS hi42 dL_law_225 ?_
        refine lv_aload_n hx hb dL_law_226 rfl (lv_at hl 1 rfl) ?_
        refine lv_iload hx hb dL_law_227 (lv_at hl 5 rfl) ?_
        refine lv_iconst (v := 2) hx hb dL_law_229 (by decide) ?_
        refine lv_iadd hx hb dL_law_230 ?_
        obtain ⟨hi43, hw⟩ := hw
        refine va_sld hx hb hX hbl hbA hS hi43 dL_law_231 ?_
        refine lv_aload_n hx hb dL_law_232 rfl (lv_at hl 1 rfl) ?_
        refine lv_iload hx hb dL_law_233 (lv_at hl 5 rfl) ?_
        refine lv_iconst (v := 3) hx hb dL_law_235 (by decide) ?_
        refine lv_iadd hx hb dL_law_236 ?_
        obtain ⟨hi44, hw⟩ := hw
        refine va_sld hx hb hX hbl hbA hS hi44 dL_law_237 ?_
        refine lv_aload_n hx hb dL_law_238 rfl (lv_at hl 1 rfl) ?_
        refine lv_iload hx hb dL_law_239 (lv_at hl 5 rfl) ?_
        refine lv_iconst (v := 4) hx hb dL_law_241 (by decide) ?_
        refine lv_iadd hx hb dL_law_242 ?_
        obtain ⟨hi45, hw⟩ := hw
        refine va_sld hx hb hX hbl hbA hS hi45 dL_law_243 ?_
        refine lv_aload_n hx hb dL_law_244 rfl (lv_at hl 1 rfl) ?_
        refine lv_iload hx hb dL_law_245 (lv_at hl 5 rfl) ?_
        refine lv_iconst (v := 5) hx hb dL_law_247 (by decide) ?_
        refine lv_iadd hx hb dL_law_248 ?_
        obtain ⟨hi46, hw⟩ := hw
        refine va_sld hx hb hX hbl hbA hS hi46 dL_law_249 ?_
        refine ct_i (va_runV (As := [.int (xs (x4 + 1).toNatClampNeg), .int (xs (x4 + 2).toNatClampNeg), .int (xs (x4 + 3).toNatClampNeg), .int (xs (x4 + 4).toNatClampNeg), .int (xs (x4 + 5).toNatClampNeg)]) (rest := []) ⟨hx, hb, hml, hown, hts⟩ (met_M_base l dC dI a cA sa (xs (x4 + 1).toNatClampNeg) (xs (x4 + 2).toNatClampNeg) (xs (x4 + 3).toNatClampNeg) (xs (x4 + 4).toNatClampNeg) (xs (x4 + 5).toNatClampNeg) n_40 f_41 _ hw) (cwV 5 hts (wb_V wt_525 wt_526 wt_527 wt_30 wt_528) rfl rfl rfl (by decide +kernel) ⟨Nat.le_of_ble_eq_true rfl, Nat.le_of_ble_eq_true rfl⟩) (ct_preV hK hP (hDa _ _) hZ hS hA (va_recv hK hP (ci := 3) (q0 := 18) rfl rfl)) rfl rfl hl.1 rfl (lv_room (Nat.le_of_ble_eq_true rfl)) dL_law_250 ⟨by show _ ≤ 1074; omega, by show _ ≤ 15491; omega⟩) (hDa _ _) hS hA (fun r47 n_48 f_49 H locs hw hP hS => ?_)
        refine lv_istore (lv' := [(6, .int r47), (5, .int r39), (0, .ref b), (1, .ref (a 0)), (2, .ref (a 18)), (3, .ref (a 32)), (4, .int x4)]) hx hb dL_law_253 hl (by decide) rfl (fun ls hl => ?_)
        refine lv_aload_n hx hb dL_law_255 rfl (lv_at hl 4 rfl) ?_
        refine ct_i (va_runV (As := []) (rest := []) ⟨hx, hb, hml, hown, hts⟩ (met_M_thrown l dC dI a cA sa n_48 f_49 _ hw) (cwV 0 hts (wb_V wt_502 wt_503 wt_504 wt_30 wt_505) rfl rfl rfl (by decide +kernel) ⟨Nat.le_of_ble_eq_true rfl, Nat.le_of_ble_eq_true rfl⟩) (ct_preV hK hP (hDa _ _) hZ hS hA (va_recv hK hP (ci := 3) (q0 := 18) rfl rfl)) rfl rfl hl.1 rfl (lv_room (Nat.le_of_ble_eq_true rfl)) dL_law_256 ⟨by show _ ≤ 1074; omega, by show _ ≤ 15491; omega⟩) (hDa _ _) hS hA (fun r50 n_51 f_52 H locs hw hP hS => ?_)
        refine lv_iload hx hb dL_law_259 (lv_at hl 1 rfl) ?_
        refine lv_icmp_eq (tgt := 266) hx hb dL_law_261 (by decide) (fun c53 => ?_) (fun c53 => ?_)
        · have hw := hw.1 c53
          refine lv_iload hx hb dL_law_266 (lv_at hl 1 rfl) ?_
          refine lv_if_ne (tgt := 283) hx hb dL_law_268 (by decide) (fun c54 => ?_) (fun c54 => ?_)
          · have hw := hw.1 c54
            refine lv_goto (tgt := 811) hx hb dL_law_283 (by decide) ?_
            obtain ⟨x4_55, ex4_55⟩ : ∃ y : Int32, y = x4 + 6 := ⟨_, rfl⟩
            have hw := hw x4_55 ex4_55
            refine lv_iinc (v := x4_55) (lv' := [(4, .int x4_55), (6, .int r47), (5, .int r39), (0, .ref b), (1, .ref (a 0)), (2, .ref (a 18)), (3, .ref (a 32))]) hx hb dL_law_811 hl (k := 6) rfl (by rw [ex4_55]; rfl) (by decide) rfl (fun ls hl => ?_)
            refine lv_goto (tgt := 23) hx hb dL_law_814 (by decide) ?_
            exact ih x4_55 n_51 f_52 _ _ ls _ _ (by omega) (by omega) hw hP hS (lv_sub hl [3, 4, 5, 6, 0] rfl)
          · have hw := hw.2 c54
            refine lv_aload_n hx hb dL_law_271 rfl (lv_at hl 5 rfl) ?_
            refine lv_iconst (v := 0) hx hb dL_law_272 (by decide) ?_
            refine va_lald hx hb hK hP 32 28 rfl rfl ct_in01 dL_law_273 ?_
            refine lv_topl (fun y56 ey56 => ?_)
            have hw := hw y56 ey56
            refine lv_iload hx hb dL_law_274 (lv_at hl 0 rfl) ?_
            refine lv_i2l (v := r47.toInt64) hx hb dL_law_276 rfl ?_
            refine W.lcmp hx hb dL_law_277 ?_
            refine lv_if_eq (tgt := 283) hx hb dL_law_278 (by decide) (fun c57 => ?_) (fun c57 => ?_)
            · have hw := hw.1 c57
              refine lv_goto (tgt := 811) hx hb dL_law_283 (by decide) ?_
              obtain ⟨x4_58, ex4_58⟩ : ∃ y : Int32, y = x4 + 6 := ⟨_, rfl⟩
              have hw := hw x4_58 ex4_58
              refine lv_iinc (v := x4_58) (lv' := [(4, .int x4_58), (6, .int r47), (5, .int r39), (0, .ref b), (1, .ref (a 0)), (2, .ref (a 18)), (3, .ref (a 32))]) hx hb dL_law_811 hl (k := 6) rfl (by rw [ex4_58]; rfl) (by decide) rfl (fun ls hl => ?_)
              refine lv_goto (tgt := 23) hx hb dL_law_814 (by decide) ?_
              exact ih x4_58 n_51 f_52 _ _ ls _ _ (by omega) (by omega) hw hP hS (lv_sub hl [3, 4, 5, 6, 0] rfl)
            · have hw := hw.2 c57
              refine lv_iconst (v := 0) hx hb dL_law_281 (by decide) ?_
              refine va_forget (fun q hq => hS.2.2 q hq) ?_
              refine W.widen (k := 1074) (n := 15491) (by omega) (by omega) ?_
              exact lw_ret0 hx hb hr hlocks dL_law_282
        · have hw := hw.2 c53
          refine lv_iconst (v := 0) hx hb dL_law_264 (by decide) ?_
          refine va_forget (fun q hq => hS.2.2 q hq) ?_
          refine W.widen (k := 1074) (n := 15491) (by omega) (by omega) ?_
          exact lw_ret0 hx hb hr hlocks dL_law_265
      · have hw := hw.2.2.2.2.1 cs
        refine lv_tableIn (tgt := 286) hx hb dL_law_40 (by omega) (by omega) (by rw [cs]; rfl) (by decide) ?_
        refine lv_aload_n hx hb dL_law_286 rfl (lv_at hl 1 rfl) ?_
        refine lv_aload_n hx hb dL_law_287 rfl (lv_at hl 0 rfl) ?_
        refine lv_iload hx hb dL_law_288 (lv_at hl 4 rfl) ?_
        refine lv_iconst (v := 1) hx hb dL_law_290 (by decide) ?_
        refine lv_iadd hx hb dL_law_291 ?_
        obtain ⟨hi59, hw⟩ := hw
        refine va_sld hx hb hX hbl hbA hS hi59 dL_law_292 ?_
        refine lv_aload_n hx hb dL_law_293 rfl (lv_at hl 0 rfl) ?_
        refine lv_iload hx hb dL_law_294 (lv_at hl 4 rfl) ?_
        refine lv_iconst (v := 2) hx hb dL_law_296 (by decide) ?_
        refine lv_iadd hx hb dL_law_297 ?_
        obtain ⟨hi60, hw⟩ := hw
        refine va_sld hx hb hX hbl hbA hS hi60 dL_law_298 ?_
        refine lv_aload_n hx hb dL_law_299 rfl (lv_at hl 0 rfl) ?_
        refine lv_iload hx hb dL_law_300 (lv_at hl 4 rfl) ?_
        refine lv_iconst (v := 3) hx hb dL_law_302 (by decide) ?_
        refine lv_iadd hx hb dL_law_303 ?_
        obtain ⟨hi61, hw⟩ := hw
        refine va_sld hx hb hX hbl hbA hS hi61 dL_law_304 ?_
        refine lv_aload_n hx hb dL_law_305 rfl (lv_at hl 3 rfl) ?_
        refine ct_ic (vx_runSW (As := [.ref (a 0), .int (xs (x4 + 1).toNatClampNeg), .int (xs (x4 + 2).toNatClampNeg), .int (xs (x4 + 3).toNatClampNeg), .ref (a 32)]) (rest := []) ⟨hx, hb, hml, hown, hts⟩ (met_L_chain l hl9 dC dI a cA sa (xs (x4 + 1).toNatClampNeg) (xs (x4 + 2).toNatClampNeg) (xs (x4 + 3).toNatClampNeg) n f _ hw) (vx_cwSW 5 hts (wb_in (wb_c2 wt_283 (wb_c2 wt_284 (wb_c2 wt_26 (wb_cons wt_285))))) rfl rfl rfl (by decide +kernel) ⟨Nat.le_of_ble_eq_true rfl, Nat.le_of_ble_eq_true rfl⟩) (ct_pre hK hP (hDa _ _) hZ hS hA) rfl rfl hl.1 rfl (lv_room (Nat.le_of_ble_eq_true rfl)) dL_law_306 ⟨by show _ ≤ 1074; omega, by show _ ≤ 15491; omega⟩) (hDa _ _) hS hA (fun r62 n_63 f_64 H locs hw hP hS => ?_)
        refine lv_istore (lv' := [(5, .int r62), (0, .ref b), (1, .ref (a 0)), (2, .ref (a 18)), (3, .ref (a 32)), (4, .int x4)]) hx hb dL_law_309 hl (by decide) rfl (fun ls hl => ?_)
        refine lv_aload_n hx hb dL_law_311 rfl (lv_at hl 3 rfl) ?_
        refine lv_aload_n hx hb dL_law_312 rfl (lv_at hl 1 rfl) ?_
        refine lv_iload hx hb dL_law_313 (lv_at hl 5 rfl) ?_
        refine lv_iconst (v := 1) hx hb dL_law_315 (by decide) ?_
        refine lv_iadd hx hb dL_law_316 ?_
        obtain ⟨hi65, hw⟩ := hw
        refine va_sld hx hb hX hbl hbA hS hi65 dL_law_317 ?_
        refine lv_aload_n hx hb dL_law_318 rfl (lv_at hl 1 rfl) ?_
        refine lv_iload hx hb dL_law_319 (lv_at hl 5 rfl) ?_
        refine lv_iconst (v := 2) hx hb dL_law_321 (by decide) ?_
        refine lv_iadd hx hb dL_law_322 ?_
        obtain ⟨hi66, hw⟩ := hw
        refine va_sld hx hb hX hbl hbA hS hi66 dL_law_323 ?_
        refine lv_aload_n hx hb dL_law_324 rfl (lv_at hl 1 rfl) ?_
        refine lv_iload hx hb dL_law_325 (lv_at hl 5 rfl) ?_
        refine lv_iconst (v := 3) hx hb dL_law_327 (by decide) ?_
        refine lv_iadd hx hb dL_law_328 ?_
        obtain ⟨hi67, hw⟩ := hw
        refine va_sld hx hb hX hbl hbA hS hi67 dL_law_329 ?_
        refine ct_i (va_runV (As := [.int (xs (x4 + 1).toNatClampNeg), .int (xs (x4 + 2).toNatClampNeg), .int (xs (x4 + 3).toNatClampNeg)]) (rest := []) ⟨hx, hb, hml, hown, hts⟩ (met_M_chain l dC dI a cA sa (xs (x4 + 1).toNatClampNeg) (xs (x4 + 2).toNatClampNeg) (xs (x4 + 3).toNatClampNeg) n_63 f_64 _ hw) (cwV 3 hts (wb_V wt_536 wt_537 wt_538 wt_30 wt_539) rfl rfl rfl (by decide +kernel) ⟨Nat.le_of_ble_eq_true rfl, Nat.le_of_ble_eq_true rfl⟩) (ct_preV hK hP (hDa _ _) hZ hS hA (va_recv hK hP (ci := 3) (q0 := 18) rfl rfl)) rfl rfl hl.1 rfl (lv_room (Nat.le_of_ble_eq_true rfl)) dL_law_330 ⟨by show _ ≤ 1074; omega, by show _ ≤ 15491; omega⟩) (hDa _ _) hS hA (fun r68 n_69 f_70 H locs hw hP hS => ?_)
        refine lv_istore (lv' := [(6, .int r68), (5, .int r62), (0, .ref b), (1, .ref (a 0)), (2, .ref (a 18)), (3, .ref (a 32)), (4, .int x4)]) hx hb dL_law_333 hl (by decide) rfl (fun ls hl => ?_)
        refine lv_aload_n hx hb dL_law_335 rfl (lv_at hl 4 rfl) ?_
        refine ct_i (va_runV (As := []) (rest := []) ⟨hx, hb, hml, hown, hts⟩ (met_M_thrown l dC dI a cA sa n_69 f_70 _ hw) (cwV 0 hts (wb_V wt_502 wt_503 wt_504 wt_30 wt_505) rfl rfl rfl (by decide +kernel) ⟨Nat.le_of_ble_eq_true rfl, Nat.le_of_ble_eq_true rfl⟩) (ct_preV hK hP (hDa _ _) hZ hS hA (va_recv hK hP (ci := 3) (q0 := 18) rfl rfl)) rfl rfl hl.1 rfl (lv_room (Nat.le_of_ble_eq_true rfl)) dL_law_336 ⟨by show _ ≤ 1074; omega, by show _ ≤ 15491; omega⟩) (hDa _ _) hS hA (fun r71 n_72 f_73 H locs hw hP hS => ?_)
        refine lv_iload hx hb dL_law_339 (lv_at hl 1 rfl) ?_
        refine lv_icmp_eq (tgt := 346) hx hb dL_law_341 (by decide) (fun c74 => ?_) (fun c74 => ?_)
        · have hw := hw.1 c74
          refine lv_iload hx hb dL_law_346 (lv_at hl 1 rfl) ?_
          refine lv_if_ne (tgt := 363) hx hb dL_law_348 (by decide) (fun c75 => ?_) (fun c75 => ?_)
          · have hw := hw.1 c75
            refine lv_goto (tgt := 811) hx hb dL_law_363 (by decide) ?_
            obtain ⟨x4_76, ex4_76⟩ : ∃ y : Int32, y = x4 + 6 := ⟨_, rfl⟩
            have hw := hw x4_76 ex4_76
            refine lv_iinc (v := x4_76) (lv' := [(4, .int x4_76), (6, .int r68), (5, .int r62), (0, .ref b), (1, .ref (a 0)), (2, .ref (a 18)), (3, .ref (a 32))]) hx hb dL_law_811 hl (k := 6) rfl (by rw [ex4_76]; rfl) (by decide) rfl (fun ls hl => ?_)
            refine lv_goto (tgt := 23) hx hb dL_law_814 (by decide) ?_
            exact ih x4_76 n_72 f_73 _ _ ls _ _ (by omega) (by omega) hw hP hS (lv_sub hl [3, 4, 5, 6, 0] rfl)
          · have hw := hw.2 c75
            refine lv_aload_n hx hb dL_law_351 rfl (lv_at hl 5 rfl) ?_
            refine lv_iconst (v := 0) hx hb dL_law_352 (by decide) ?_
            refine va_lald hx hb hK hP 32 28 rfl rfl ct_in01 dL_law_353 ?_
            refine lv_topl (fun y77 ey77 => ?_)
            have hw := hw y77 ey77
            refine lv_iload hx hb dL_law_354 (lv_at hl 0 rfl) ?_
            refine lv_i2l (v := r68.toInt64) hx hb dL_law_356 rfl ?_
            refine W.lcmp hx hb dL_law_357 ?_
            refine lv_if_eq (tgt := 363) hx hb dL_law_358 (by decide) (fun c78 => ?_) (fun c78 => ?_)
            · have hw := hw.1 c78
              refine lv_goto (tgt := 811) hx hb dL_law_363 (by decide) ?_
              obtain ⟨x4_79, ex4_79⟩ : ∃ y : Int32, y = x4 + 6 := ⟨_, rfl⟩
              have hw := hw x4_79 ex4_79
              refine lv_iinc (v := x4_79) (lv' := [(4, .int x4_79), (6, .int r68), (5, .int r62), (0, .ref b), (1, .ref (a 0)), (2, .ref (a 18)), (3, .ref (a 32))]) hx hb dL_law_811 hl (k := 6) rfl (by rw [ex4_79]; rfl) (by decide) rfl (fun ls hl => ?_)
              refine lv_goto (tgt := 23) hx hb dL_law_814 (by decide) ?_
              exact ih x4_79 n_72 f_73 _ _ ls _ _ (by omega) (by omega) hw hP hS (lv_sub hl [3, 4, 5, 6, 0] rfl)
            · have hw := hw.2 c78
              refine lv_iconst (v := 0) hx hb dL_law_361 (by decide) ?_
              refine va_forget (fun q hq => hS.2.2 q hq) ?_
              refine W.widen (k := 1074) (n := 15491) (by omega) (by omega) ?_
              exact lw_ret0 hx hb hr hlocks dL_law_362
        · have hw := hw.2 c74
          refine lv_iconst (v := 0) hx hb dL_law_344 (by decide) ?_
          refine va_forget (fun q hq => hS.2.2 q hq) ?_
          refine W.widen (k := 1074) (n := 15491) (by omega) (by omega) ?_
          exact lw_ret0 hx hb hr hlocks dL_law_345
      · have hw := hw.2.2.2.2.2.1 cs
        refine lv_tableIn (tgt := 366) hx hb dL_law_40 (by omega) (by omega) (by rw [cs]; rfl) (by decide) ?_
        refine lv_aload_n hx hb dL_law_366 rfl (lv_at hl 1 rfl) ?_
        refine lv_aload_n hx hb dL_law_367 rfl (lv_at hl 0 rfl) ?_
        refine lv_iload hx hb dL_law_368 (lv_at hl 4 rfl) ?_
        refine lv_iconst (v := 1) hx hb dL_law_370 (by decide) ?_
        refine lv_iadd hx hb dL_law_371 ?_
        obtain ⟨hi80, hw⟩ := hw
        refine va_sld hx hb hX hbl hbA hS hi80 dL_law_372 ?_
        refine lv_aload_n hx hb dL_law_373 rfl (lv_at hl 0 rfl) ?_
        refine lv_iload hx hb dL_law_374 (lv_at hl 4 rfl) ?_
        refine lv_iconst (v := 2) hx hb dL_law_376 (by decide) ?_
        refine lv_iadd hx hb dL_law_377 ?_
        obtain ⟨hi81, hw⟩ := hw
        refine va_sld hx hb hX hbl hbA hS hi81 dL_law_378 ?_
        refine lv_aload_n hx hb dL_law_379 rfl (lv_at hl 0 rfl) ?_
        refine lv_iload hx hb dL_law_380 (lv_at hl 4 rfl) ?_
        refine lv_iconst (v := 3) hx hb dL_law_382 (by decide) ?_
        refine lv_iadd hx hb dL_law_383 ?_
        obtain ⟨hi82, hw⟩ := hw
        refine va_sld hx hb hX hbl hbA hS hi82 dL_law_384 ?_
        refine lv_aload_n hx hb dL_law_385 rfl (lv_at hl 3 rfl) ?_
        refine ct_ic (vx_runSW (As := [.ref (a 0), .int (xs (x4 + 1).toNatClampNeg), .int (xs (x4 + 2).toNatClampNeg), .int (xs (x4 + 3).toNatClampNeg), .ref (a 32)]) (rest := []) ⟨hx, hb, hml, hown, hts⟩ (met_L_node l hl9 dC dI a cA sa (xs (x4 + 1).toNatClampNeg) (xs (x4 + 2).toNatClampNeg) (xs (x4 + 3).toNatClampNeg) n f _ hw) (vx_cwSW 5 hts (wb_in (wb_c2 wt_292 (wb_c2 wt_293 (wb_c2 wt_26 (wb_cons wt_294))))) rfl rfl rfl (by decide +kernel) ⟨Nat.le_of_ble_eq_true rfl, Nat.le_of_ble_eq_true rfl⟩) (ct_pre hK hP (hDa _ _) hZ hS hA) rfl rfl hl.1 rfl (lv_room (Nat.le_of_ble_eq_true rfl)) dL_law_386 ⟨by show _ ≤ 1074; omega, by show _ ≤ 15491; omega⟩) (hDa _ _) hS hA (fun r83 n_84 f_85 H locs hw hP hS => ?_)
        refine lv_istore (lv' := [(5, .int r83), (0, .ref b), (1, .ref (a 0)), (2, .ref (a 18)), (3, .ref (a 32)), (4, .int x4)]) hx hb dL_law_389 hl (by decide) rfl (fun ls hl => ?_)
        refine lv_aload_n hx hb dL_law_391 rfl (lv_at hl 3 rfl) ?_
        refine lv_aload_n hx hb dL_law_392 rfl (lv_at hl 1 rfl) ?_
        refine lv_iload hx hb dL_law_393 (lv_at hl 5 rfl) ?_
        refine lv_iconst (v := 1) hx hb dL_law_395 (by decide) ?_
        refine lv_iadd hx hb dL_law_396 ?_
        obtain ⟨hi86, hw⟩ := hw
        refine va_sld hx hb hX hbl hbA hS hi86 dL_law_397 ?_
        refine lv_aload_n hx hb dL_law_398 rfl (lv_at hl 1 rfl) ?_
        refine lv_iload hx hb dL_law_399 (lv_at hl 5 rfl) ?_
        refine lv_iconst (v := 2) hx hb dL_law_401 (by decide) ?_
        refine lv_iadd hx hb dL_law_402 ?_
        obtain ⟨hi87, hw⟩ := hw
        refine va_sld hx hb hX hbl hbA hS hi87 dL_law_403 ?_
        refine lv_aload_n hx hb dL_law_404 rfl (lv_at hl 1 rfl) ?_
        refine lv_iload hx hb dL_law_405 (lv_at hl 5 rfl) ?_
        refine lv_iconst (v := 3) hx hb dL_law_407 (by decide) ?_
        refine lv_iadd hx hb dL_law_408 ?_
        obtain ⟨hi88, hw⟩ := hw
        refine va_sld hx hb hX hbl hbA hS hi88 dL_law_409 ?_
        refine ct_i (va_runV (As := [.int (xs (x4 + 1).toNatClampNeg), .int (xs (x4 + 2).toNatClampNeg), .int (xs (x4 + 3).toNatClampNeg)]) (rest := []) ⟨hx, hb, hml, hown, hts⟩ (met_M_node l dC dI a cA sa (xs (x4 + 1).toNatClampNeg) (xs (x4 + 2).toNatClampNeg) (xs (x4 + 3).toNatClampNeg) n_84 f_85 _ hw) (cwV 3 hts (wb_V wt_540 wt_541 wt_542 wt_30 wt_543) rfl rfl rfl (by decide +kernel) ⟨Nat.le_of_ble_eq_true rfl, Nat.le_of_ble_eq_true rfl⟩) (ct_preV hK hP (hDa _ _) hZ hS hA (va_recv hK hP (ci := 3) (q0 := 18) rfl rfl)) rfl rfl hl.1 rfl (lv_room (Nat.le_of_ble_eq_true rfl)) dL_law_410 ⟨by show _ ≤ 1074; omega, by show _ ≤ 15491; omega⟩) (hDa _ _) hS hA (fun r89 n_90 f_91 H locs hw hP hS => ?_)
        refine lv_istore (lv' := [(6, .int r89), (5, .int r83), (0, .ref b), (1, .ref (a 0)), (2, .ref (a 18)), (3, .ref (a 32)), (4, .int x4)]) hx hb dL_law_413 hl (by decide) rfl (fun ls hl => ?_)
        refine lv_aload_n hx hb dL_law_415 rfl (lv_at hl 4 rfl) ?_
        refine ct_i (va_runV (As := []) (rest := []) ⟨hx, hb, hml, hown, hts⟩ (met_M_thrown l dC dI a cA sa n_90 f_91 _ hw) (cwV 0 hts (wb_V wt_502 wt_503 wt_504 wt_30 wt_505) rfl rfl rfl (by decide +kernel) ⟨Nat.le_of_ble_eq_true rfl, Nat.le_of_ble_eq_true rfl⟩) (ct_preV hK hP (hDa _ _) hZ hS hA (va_recv hK hP (ci := 3) (q0 := 18) rfl rfl)) rfl rfl hl.1 rfl (lv_room (Nat.le_of_ble_eq_true rfl)) dL_law_416 ⟨by show _ ≤ 1074; omega, by show _ ≤ 15491; omega⟩) (hDa _ _) hS hA (fun r92 n_93 f_94 H locs hw hP hS => ?_)
        refine lv_iload hx hb dL_law_419 (lv_at hl 1 rfl) ?_
        refine lv_icmp_eq (tgt := 426) hx hb dL_law_421 (by decide) (fun c95 => ?_) (fun c95 => ?_)
        · have hw := hw.1 c95
          refine lv_iload hx hb dL_law_426 (lv_at hl 1 rfl) ?_
          refine lv_if_ne (tgt := 443) hx hb dL_law_428 (by decide) (fun c96 => ?_) (fun c96 => ?_)
          · have hw := hw.1 c96
            refine lv_goto (tgt := 811) hx hb dL_law_443 (by decide) ?_
            obtain ⟨x4_97, ex4_97⟩ : ∃ y : Int32, y = x4 + 6 := ⟨_, rfl⟩
            have hw := hw x4_97 ex4_97
            refine lv_iinc (v := x4_97) (lv' := [(4, .int x4_97), (6, .int r89), (5, .int r83), (0, .ref b), (1, .ref (a 0)), (2, .ref (a 18)), (3, .ref (a 32))]) hx hb dL_law_811 hl (k := 6) rfl (by rw [ex4_97]; rfl) (by decide) rfl (fun ls hl => ?_)
            refine lv_goto (tgt := 23) hx hb dL_law_814 (by decide) ?_
            exact ih x4_97 n_93 f_94 _ _ ls _ _ (by omega) (by omega) hw hP hS (lv_sub hl [3, 4, 5, 6, 0] rfl)
          · have hw := hw.2 c96
            refine lv_aload_n hx hb dL_law_431 rfl (lv_at hl 5 rfl) ?_
            refine lv_iconst (v := 0) hx hb dL_law_432 (by decide) ?_
            refine va_lald hx hb hK hP 32 28 rfl rfl ct_in01 dL_law_433 ?_
            refine lv_topl (fun y98 ey98 => ?_)
            have hw := hw y98 ey98
            refine lv_iload hx hb dL_law_434 (lv_at hl 0 rfl) ?_
            refine lv_i2l (v := r89.toInt64) hx hb dL_law_436 rfl ?_
            refine W.lcmp hx hb dL_law_437 ?_
            refine lv_if_eq (tgt := 443) hx hb dL_law_438 (by decide) (fun c99 => ?_) (fun c99 => ?_)
            · have hw := hw.1 c99
              refine lv_goto (tgt := 811) hx hb dL_law_443 (by decide) ?_
              obtain ⟨x4_100, ex4_100⟩ : ∃ y : Int32, y = x4 + 6 := ⟨_, rfl⟩
              have hw := hw x4_100 ex4_100
              refine lv_iinc (v := x4_100) (lv' := [(4, .int x4_100), (6, .int r89), (5, .int r83), (0, .ref b), (1, .ref (a 0)), (2, .ref (a 18)), (3, .ref (a 32))]) hx hb dL_law_811 hl (k := 6) rfl (by rw [ex4_100]; rfl) (by decide) rfl (fun ls hl => ?_)
              refine lv_goto (tgt := 23) hx hb dL_law_814 (by decide) ?_
              exact ih x4_100 n_93 f_94 _ _ ls _ _ (by omega) (by omega) hw hP hS (lv_sub hl [3, 4, 5, 6, 0] rfl)
            · have hw := hw.2 c99
              refine lv_iconst (v := 0) hx hb dL_law_441 (by decide) ?_
              refine va_forget (fun q hq => hS.2.2 q hq) ?_
              refine W.widen (k := 1074) (n := 15491) (by omega) (by omega) ?_
              exact lw_ret0 hx hb hr hlocks dL_law_442
        · have hw := hw.2 c95
          refine lv_iconst (v := 0) hx hb dL_law_424 (by decide) ?_
          refine va_forget (fun q hq => hS.2.2 q hq) ?_
          refine W.widen (k := 1074) (n := 15491) (by omega) (by omega) ?_
          exact lw_ret0 hx hb hr hlocks dL_law_425
      · have hw := hw.2.2.2.2.2.2.1 cs
        refine lv_tableIn (tgt := 446) hx hb dL_law_40 (by omega) (by omega) (by rw [cs]; rfl) (by decide) ?_
        refine lv_aload_n hx hb dL_law_446 rfl (lv_at hl 1 rfl) ?_
        refine lv_aload_n hx hb dL_law_447 rfl (lv_at hl 0 rfl) ?_
        refine lv_iload hx hb dL_law_448 (lv_at hl 4 rfl) ?_
        refine lv_iconst (v := 1) hx hb dL_law_450 (by decide) ?_
        refine lv_iadd hx hb dL_law_451 ?_
        obtain ⟨hi101, hw⟩ := hw
        refine va_sld hx hb hX hbl hbA hS hi101 dL_law_452 ?_
        refine lv_aload_n hx hb dL_law_453 rfl (lv_at hl 0 rfl) ?_
        refine lv_iload hx hb dL_law_454 (lv_at hl 4 rfl) ?_
        refine lv_iconst (v := 2) hx hb dL_law_456 (by decide) ?_
        refine lv_iadd hx hb dL_law_457 ?_
        obtain ⟨hi102, hw⟩ := hw
        refine va_sld hx hb hX hbl hbA hS hi102 dL_law_458 ?_
        refine lv_aload_n hx hb dL_law_459 rfl (lv_at hl 3 rfl) ?_
        refine ct_ic (vx_runSW (As := [.ref (a 0), .int (xs (x4 + 1).toNatClampNeg), .int (xs (x4 + 2).toNatClampNeg), .ref (a 32)]) (rest := []) ⟨hx, hb, hml, hown, hts⟩ (met_L_cost l hl9 dC dI a cA sa (xs (x4 + 1).toNatClampNeg) (xs (x4 + 2).toNatClampNeg) n f _ hw) (vx_cwSW 4 hts (wb_in (wb_c2 wt_370 (wb_c2 wt_371 (wb_c2 wt_26 (wb_cons wt_372))))) rfl rfl rfl (by decide +kernel) ⟨Nat.le_of_ble_eq_true rfl, Nat.le_of_ble_eq_true rfl⟩) (ct_pre hK hP (hDa _ _) hZ hS hA) rfl rfl hl.1 rfl (lv_room (Nat.le_of_ble_eq_true rfl)) dL_law_460 ⟨by show _ ≤ 1074; omega, by show _ ≤ 15491; omega⟩) (hDa _ _) hS hA (fun r103 n_104 f_105 H locs hw hP hS => ?_)
        refine lv_istore (lv' := [(5, .int r103), (0, .ref b), (1, .ref (a 0)), (2, .ref (a 18)), (3, .ref (a 32)), (4, .int x4)]) hx hb dL_law_463 hl (by decide) rfl (fun ls hl => ?_)
        refine lv_aload_n hx hb dL_law_465 rfl (lv_at hl 3 rfl) ?_
        refine lv_aload_n hx hb dL_law_466 rfl (lv_at hl 1 rfl) ?_
        refine lv_iload hx hb dL_law_467 (lv_at hl 5 rfl) ?_
        refine lv_iconst (v := 1) hx hb dL_law_469 (by decide) ?_
        refine lv_iadd hx hb dL_law_470 ?_
        obtain ⟨hi106, hw⟩ := hw
        refine va_sld hx hb hX hbl hbA hS hi106 dL_law_471 ?_
        refine lv_aload_n hx hb dL_law_472 rfl (lv_at hl 1 rfl) ?_
        refine lv_iload hx hb dL_law_473 (lv_at hl 5 rfl) ?_
        refine lv_iconst (v := 2) hx hb dL_law_475 (by decide) ?_
        refine lv_iadd hx hb dL_law_476 ?_
        obtain ⟨hi107, hw⟩ := hw
        refine va_sld hx hb hX hbl hbA hS hi107 dL_law_477 ?_
        refine ct_i (va_runV (As := [.int (xs (x4 + 1).toNatClampNeg), .int (xs (x4 + 2).toNatClampNeg)]) (rest := []) ⟨hx, hb, hml, hown, hts⟩ (met_M_cost l dC dI a cA sa (xs (x4 + 1).toNatClampNeg) (xs (x4 + 2).toNatClampNeg) n_104 f_105 _ hw) (cwV 2 hts (wb_V wt_565 wt_566 wt_567 wt_30 wt_568) rfl rfl rfl (by decide +kernel) ⟨Nat.le_of_ble_eq_true rfl, Nat.le_of_ble_eq_true rfl⟩) (ct_preV hK hP (hDa _ _) hZ hS hA (va_recv hK hP (ci := 3) (q0 := 18) rfl rfl)) rfl rfl hl.1 rfl (lv_room (Nat.le_of_ble_eq_true rfl)) dL_law_478 ⟨by show _ ≤ 1074; omega, by show _ ≤ 15491; omega⟩) (hDa _ _) hS hA (fun r108 n_109 f_110 H locs hw hP hS => ?_)
        refine lv_istore (lv' := [(6, .int r108), (5, .int r103), (0, .ref b), (1, .ref (a 0)), (2, .ref (a 18)), (3, .ref (a 32)), (4, .int x4)]) hx hb dL_law_481 hl (by decide) rfl (fun ls hl => ?_)
        refine lv_aload_n hx hb dL_law_483 rfl (lv_at hl 4 rfl) ?_
        refine ct_i (va_runV (As := []) (rest := []) ⟨hx, hb, hml, hown, hts⟩ (met_M_thrown l dC dI a cA sa n_109 f_110 _ hw) (cwV 0 hts (wb_V wt_502 wt_503 wt_504 wt_30 wt_505) rfl rfl rfl (by decide +kernel) ⟨Nat.le_of_ble_eq_true rfl, Nat.le_of_ble_eq_true rfl⟩) (ct_preV hK hP (hDa _ _) hZ hS hA (va_recv hK hP (ci := 3) (q0 := 18) rfl rfl)) rfl rfl hl.1 rfl (lv_room (Nat.le_of_ble_eq_true rfl)) dL_law_484 ⟨by show _ ≤ 1074; omega, by show _ ≤ 15491; omega⟩) (hDa _ _) hS hA (fun r111 n_112 f_113 H locs hw hP hS => ?_)
        refine lv_iload hx hb dL_law_487 (lv_at hl 1 rfl) ?_
        refine lv_icmp_eq (tgt := 494) hx hb dL_law_489 (by decide) (fun c114 => ?_) (fun c114 => ?_)
        · have hw := hw.1 c114
          refine lv_iload hx hb dL_law_494 (lv_at hl 1 rfl) ?_
          refine lv_if_ne (tgt := 511) hx hb dL_law_496 (by decide) (fun c115 => ?_) (fun c115 => ?_)
          · have hw := hw.1 c115
            refine lv_goto (tgt := 811) hx hb dL_law_511 (by decide) ?_
            obtain ⟨x4_116, ex4_116⟩ : ∃ y : Int32, y = x4 + 6 := ⟨_, rfl⟩
            have hw := hw x4_116 ex4_116
            refine lv_iinc (v := x4_116) (lv' := [(4, .int x4_116), (6, .int r108), (5, .int r103), (0, .ref b), (1, .ref (a 0)), (2, .ref (a 18)), (3, .ref (a 32))]) hx hb dL_law_811 hl (k := 6) rfl (by rw [ex4_116]; rfl) (by decide) rfl (fun ls hl => ?_)
            refine lv_goto (tgt := 23) hx hb dL_law_814 (by decide) ?_
            exact ih x4_116 n_112 f_113 _ _ ls _ _ (by omega) (by omega) hw hP hS (lv_sub hl [3, 4, 5, 6, 0] rfl)
          · have hw := hw.2 c115
            refine lv_aload_n hx hb dL_law_499 rfl (lv_at hl 5 rfl) ?_
            refine lv_iconst (v := 0) hx hb dL_law_500 (by decide) ?_
            refine va_lald hx hb hK hP 32 28 rfl rfl ct_in01 dL_law_501 ?_
            refine lv_topl (fun y117 ey117 => ?_)
            have hw := hw y117 ey117
            refine lv_iload hx hb dL_law_502 (lv_at hl 0 rfl) ?_
            refine lv_i2l (v := r108.toInt64) hx hb dL_law_504 rfl ?_
            refine W.lcmp hx hb dL_law_505 ?_
            refine lv_if_eq (tgt := 511) hx hb dL_law_506 (by decide) (fun c118 => ?_) (fun c118 => ?_)
            · have hw := hw.1 c118
              refine lv_goto (tgt := 811) hx hb dL_law_511 (by decide) ?_
              obtain ⟨x4_119, ex4_119⟩ : ∃ y : Int32, y = x4 + 6 := ⟨_, rfl⟩
              have hw := hw x4_119 ex4_119
              refine lv_iinc (v := x4_119) (lv' := [(4, .int x4_119), (6, .int r108), (5, .int r103), (0, .ref b), (1, .ref (a 0)), (2, .ref (a 18)), (3, .ref (a 32))]) hx hb dL_law_811 hl (k := 6) rfl (by rw [ex4_119]; rfl) (by decide) rfl (fun ls hl => ?_)
              refine lv_goto (tgt := 23) hx hb dL_law_814 (by decide) ?_
              exact ih x4_119 n_112 f_113 _ _ ls _ _ (by omega) (by omega) hw hP hS (lv_sub hl [3, 4, 5, 6, 0] rfl)
            · have hw := hw.2 c118
              refine lv_iconst (v := 0) hx hb dL_law_509 (by decide) ?_
              refine va_forget (fun q hq => hS.2.2 q hq) ?_
              refine W.widen (k := 1074) (n := 15491) (by omega) (by omega) ?_
              exact lw_ret0 hx hb hr hlocks dL_law_510
        · have hw := hw.2 c114
          refine lv_iconst (v := 0) hx hb dL_law_492 (by decide) ?_
          refine va_forget (fun q hq => hS.2.2 q hq) ?_
          refine W.widen (k := 1074) (n := 15491) (by omega) (by omega) ?_
          exact lw_ret0 hx hb hr hlocks dL_law_493
      · have hw := hw.2.2.2.2.2.2.2.1 cs
        refine lv_tableIn (tgt := 514) hx hb dL_law_40 (by omega) (by omega) (by rw [cs]; rfl) (by decide) ?_
        refine lv_aload_n hx hb dL_law_514 rfl (lv_at hl 1 rfl) ?_
        refine lv_aload_n hx hb dL_law_515 rfl (lv_at hl 0 rfl) ?_
        refine lv_iload hx hb dL_law_516 (lv_at hl 4 rfl) ?_
        refine lv_iconst (v := 1) hx hb dL_law_518 (by decide) ?_
        refine lv_iadd hx hb dL_law_519 ?_
        obtain ⟨hi120, hw⟩ := hw
        refine va_sld hx hb hX hbl hbA hS hi120 dL_law_520 ?_
        refine lv_aload_n hx hb dL_law_521 rfl (lv_at hl 0 rfl) ?_
        refine lv_iload hx hb dL_law_522 (lv_at hl 4 rfl) ?_
        refine lv_iconst (v := 2) hx hb dL_law_524 (by decide) ?_
        refine lv_iadd hx hb dL_law_525 ?_
        obtain ⟨hi121, hw⟩ := hw
        refine va_sld hx hb hX hbl hbA hS hi121 dL_law_526 ?_
        refine lv_aload_n hx hb dL_law_527 rfl (lv_at hl 3 rfl) ?_
        refine ct_ic (vx_runSW (As := [.ref (a 0), .int (xs (x4 + 1).toNatClampNeg), .int (xs (x4 + 2).toNatClampNeg), .ref (a 32)]) (rest := []) ⟨hx, hb, hml, hown, hts⟩ (met_L_rule l hl9 dC dI a cA sa (xs (x4 + 1).toNatClampNeg) (xs (x4 + 2).toNatClampNeg) n f _ hw) (vx_cwSW 4 hts (wb_in (wb_c2 wt_383 (wb_c2 wt_384 (wb_c2 wt_26 (wb_cons wt_385))))) rfl rfl rfl (by decide +kernel) ⟨Nat.le_of_ble_eq_true rfl, Nat.le_of_ble_eq_true rfl⟩) (ct_pre hK hP (hDa _ _) hZ hS hA) rfl rfl hl.1 rfl (lv_room (Nat.le_of_ble_eq_true rfl)) dL_law_528 ⟨by show _ ≤ 1074; omega, by show _ ≤ 15491; omega⟩) (hDa _ _) hS hA (fun r122 n_123 f_124 H locs hw hP hS => ?_)
        refine lv_istore (lv' := [(5, .int r122), (0, .ref b), (1, .ref (a 0)), (2, .ref (a 18)), (3, .ref (a 32)), (4, .int x4)]) hx hb dL_law_531 hl (by decide) rfl (fun ls hl => ?_)
        refine lv_aload_n hx hb dL_law_533 rfl (lv_at hl 3 rfl) ?_
        refine lv_aload_n hx hb dL_law_534 rfl (lv_at hl 1 rfl) ?_
        refine lv_iload hx hb dL_law_535 (lv_at hl 5 rfl) ?_
        refine lv_iconst (v := 1) hx hb dL_law_537 (by decide) ?_
        refine lv_iadd hx hb dL_law_538 ?_
        obtain ⟨hi125, hw⟩ := hw
        refine va_sld hx hb hX hbl hbA hS hi125 dL_law_539 ?_
        refine lv_aload_n hx hb dL_law_540 rfl (lv_at hl 1 rfl) ?_
        refine lv_iload hx hb dL_law_541 (lv_at hl 5 rfl) ?_
        refine lv_iconst (v := 2) hx hb dL_law_543 (by decide) ?_
        refine lv_iadd hx hb dL_law_544 ?_
        obtain ⟨hi126, hw⟩ := hw
        refine va_sld hx hb hX hbl hbA hS hi126 dL_law_545 ?_
        refine ct_i (va_runV (As := [.int (xs (x4 + 1).toNatClampNeg), .int (xs (x4 + 2).toNatClampNeg)]) (rest := []) ⟨hx, hb, hml, hown, hts⟩ (met_M_rule l dC dI a cA sa (xs (x4 + 1).toNatClampNeg) (xs (x4 + 2).toNatClampNeg) n_123 f_124 _ hw) (cwV 2 hts (wb_V wt_573 wt_574 wt_575 wt_30 wt_576) rfl rfl rfl (by decide +kernel) ⟨Nat.le_of_ble_eq_true rfl, Nat.le_of_ble_eq_true rfl⟩) (ct_preV hK hP (hDa _ _) hZ hS hA (va_recv hK hP (ci := 3) (q0 := 18) rfl rfl)) rfl rfl hl.1 rfl (lv_room (Nat.le_of_ble_eq_true rfl)) dL_law_546 ⟨by show _ ≤ 1074; omega, by show _ ≤ 15491; omega⟩) (hDa _ _) hS hA (fun r127 n_128 f_129 H locs hw hP hS => ?_)
        refine lv_istore (lv' := [(6, .int r127), (5, .int r122), (0, .ref b), (1, .ref (a 0)), (2, .ref (a 18)), (3, .ref (a 32)), (4, .int x4)]) hx hb dL_law_549 hl (by decide) rfl (fun ls hl => ?_)
        refine lv_aload_n hx hb dL_law_551 rfl (lv_at hl 4 rfl) ?_
        refine ct_i (va_runV (As := []) (rest := []) ⟨hx, hb, hml, hown, hts⟩ (met_M_thrown l dC dI a cA sa n_128 f_129 _ hw) (cwV 0 hts (wb_V wt_502 wt_503 wt_504 wt_30 wt_505) rfl rfl rfl (by decide +kernel) ⟨Nat.le_of_ble_eq_true rfl, Nat.le_of_ble_eq_true rfl⟩) (ct_preV hK hP (hDa _ _) hZ hS hA (va_recv hK hP (ci := 3) (q0 := 18) rfl rfl)) rfl rfl hl.1 rfl (lv_room (Nat.le_of_ble_eq_true rfl)) dL_law_552 ⟨by show _ ≤ 1074; omega, by show _ ≤ 15491; omega⟩) (hDa _ _) hS hA (fun r130 n_131 f_132 H locs hw hP hS => ?_)
        refine lv_iload hx hb dL_law_555 (lv_at hl 1 rfl) ?_
        refine lv_icmp_eq (tgt := 562) hx hb dL_law_557 (by decide) (fun c133 => ?_) (fun c133 => ?_)
        · have hw := hw.1 c133
          refine lv_iload hx hb dL_law_562 (lv_at hl 1 rfl) ?_
          refine lv_if_ne (tgt := 579) hx hb dL_law_564 (by decide) (fun c134 => ?_) (fun c134 => ?_)
          · have hw := hw.1 c134
            refine lv_goto (tgt := 811) hx hb dL_law_579 (by decide) ?_
            obtain ⟨x4_135, ex4_135⟩ : ∃ y : Int32, y = x4 + 6 := ⟨_, rfl⟩
            have hw := hw x4_135 ex4_135
            refine lv_iinc (v := x4_135) (lv' := [(4, .int x4_135), (6, .int r127), (5, .int r122), (0, .ref b), (1, .ref (a 0)), (2, .ref (a 18)), (3, .ref (a 32))]) hx hb dL_law_811 hl (k := 6) rfl (by rw [ex4_135]; rfl) (by decide) rfl (fun ls hl => ?_)
            refine lv_goto (tgt := 23) hx hb dL_law_814 (by decide) ?_
            exact ih x4_135 n_131 f_132 _ _ ls _ _ (by omega) (by omega) hw hP hS (lv_sub hl [3, 4, 5, 6, 0] rfl)
          · have hw := hw.2 c134
            refine lv_aload_n hx hb dL_law_567 rfl (lv_at hl 5 rfl) ?_
            refine lv_iconst (v := 0) hx hb dL_law_568 (by decide) ?_
            refine va_lald hx hb hK hP 32 28 rfl rfl ct_in01 dL_law_569 ?_
            refine lv_topl (fun y136 ey136 => ?_)
            have hw := hw y136 ey136
            refine lv_iload hx hb dL_law_570 (lv_at hl 0 rfl) ?_
            refine lv_i2l (v := r127.toInt64) hx hb dL_law_572 rfl ?_
            refine W.lcmp hx hb dL_law_573 ?_
            refine lv_if_eq (tgt := 579) hx hb dL_law_574 (by decide) (fun c137 => ?_) (fun c137 => ?_)
            · have hw := hw.1 c137
              refine lv_goto (tgt := 811) hx hb dL_law_579 (by decide) ?_
              obtain ⟨x4_138, ex4_138⟩ : ∃ y : Int32, y = x4 + 6 := ⟨_, rfl⟩
              have hw := hw x4_138 ex4_138
              refine lv_iinc (v := x4_138) (lv' := [(4, .int x4_138), (6, .int r127), (5, .int r122), (0, .ref b), (1, .ref (a 0)), (2, .ref (a 18)), (3, .ref (a 32))]) hx hb dL_law_811 hl (k := 6) rfl (by rw [ex4_138]; rfl) (by decide) rfl (fun ls hl => ?_)
              refine lv_goto (tgt := 23) hx hb dL_law_814 (by decide) ?_
              exact ih x4_138 n_131 f_132 _ _ ls _ _ (by omega) (by omega) hw hP hS (lv_sub hl [3, 4, 5, 6, 0] rfl)
            · have hw := hw.2 c137
              refine lv_iconst (v := 0) hx hb dL_law_577 (by decide) ?_
              refine va_forget (fun q hq => hS.2.2 q hq) ?_
              refine W.widen (k := 1074) (n := 15491) (by omega) (by omega) ?_
              exact lw_ret0 hx hb hr hlocks dL_law_578
        · have hw := hw.2 c133
          refine lv_iconst (v := 0) hx hb dL_law_560 (by decide) ?_
          refine va_forget (fun q hq => hS.2.2 q hq) ?_
          refine W.widen (k := 1074) (n := 15491) (by omega) (by omega) ?_
          exact lw_ret0 hx hb hr hlocks dL_law_561
      · have hw := hw.2.2.2.2.2.2.2.2.1 cs
        refine lv_tableIn (tgt := 582) hx hb dL_law_40 (by omega) (by omega) (by rw [cs]; rfl) (by decide) ?_
        refine lv_aload_n hx hb dL_law_582 rfl (lv_at hl 1 rfl) ?_
        refine lv_aload_n hx hb dL_law_583 rfl (lv_at hl 0 rfl) ?_
        refine lv_iload hx hb dL_law_584 (lv_at hl 4 rfl) ?_
        refine lv_iconst (v := 1) hx hb dL_law_586 (by decide) ?_
        refine lv_iadd hx hb dL_law_587 ?_
        obtain ⟨hi139, hw⟩ := hw
        refine va_sld hx hb hX hbl hbA hS hi139 dL_law_588 ?_
        refine lv_aload_n hx hb dL_law_589 rfl (lv_at hl 0 rfl) ?_
        refine lv_iload hx hb dL_law_590 (lv_at hl 4 rfl) ?_
        refine lv_iconst (v := 2) hx hb dL_law_592 (by decide) ?_
        refine lv_iadd hx hb dL_law_593 ?_
        obtain ⟨hi140, hw⟩ := hw
        refine va_sld hx hb hX hbl hbA hS hi140 dL_law_594 ?_
        refine lv_aload_n hx hb dL_law_595 rfl (lv_at hl 3 rfl) ?_
        refine ct_ic (vx_runSW (As := [.ref (a 0), .int (xs (x4 + 1).toNatClampNeg), .int (xs (x4 + 2).toNatClampNeg), .ref (a 32)]) (rest := []) ⟨hx, hb, hml, hown, hts⟩ (met_L_size l hl9 dC dI a cA sa (xs (x4 + 1).toNatClampNeg) (xs (x4 + 2).toNatClampNeg) n f _ hw) (vx_cwSW 4 hts (wb_in (wb_c2 wt_390 (wb_c2 wt_391 (wb_c2 wt_26 (wb_cons wt_392))))) rfl rfl rfl (by decide +kernel) ⟨Nat.le_of_ble_eq_true rfl, Nat.le_of_ble_eq_true rfl⟩) (ct_pre hK hP (hDa _ _) hZ hS hA) rfl rfl hl.1 rfl (lv_room (Nat.le_of_ble_eq_true rfl)) dL_law_596 ⟨by show _ ≤ 1074; omega, by show _ ≤ 15491; omega⟩) (hDa _ _) hS hA (fun r141 n_142 f_143 H locs hw hP hS => ?_)
        refine lv_istore (lv' := [(5, .int r141), (0, .ref b), (1, .ref (a 0)), (2, .ref (a 18)), (3, .ref (a 32)), (4, .int x4)]) hx hb dL_law_599 hl (by decide) rfl (fun ls hl => ?_)
        refine lv_aload_n hx hb dL_law_601 rfl (lv_at hl 3 rfl) ?_
        refine lv_aload_n hx hb dL_law_602 rfl (lv_at hl 1 rfl) ?_
        refine lv_iload hx hb dL_law_603 (lv_at hl 5 rfl) ?_
        refine lv_iconst (v := 1) hx hb dL_law_605 (by decide) ?_
        refine lv_iadd hx hb dL_law_606 ?_
        obtain ⟨hi144, hw⟩ := hw
        refine va_sld hx hb hX hbl hbA hS hi144 dL_law_607 ?_
        refine lv_aload_n hx hb dL_law_608 rfl (lv_at hl 1 rfl) ?_
        refine lv_iload hx hb dL_law_609 (lv_at hl 5 rfl) ?_
        refine lv_iconst (v := 2) hx hb dL_law_611 (by decide) ?_
        refine lv_iadd hx hb dL_law_612 ?_
        obtain ⟨hi145, hw⟩ := hw
        refine va_sld hx hb hX hbl hbA hS hi145 dL_law_613 ?_
        refine ct_i (va_runV (As := [.int (xs (x4 + 1).toNatClampNeg), .int (xs (x4 + 2).toNatClampNeg)]) (rest := []) ⟨hx, hb, hml, hown, hts⟩ (met_M_size l dC dI a cA sa (xs (x4 + 1).toNatClampNeg) (xs (x4 + 2).toNatClampNeg) n_142 f_143 _ hw) (cwV 2 hts (wb_V wt_577 wt_578 wt_579 wt_30 wt_580) rfl rfl rfl (by decide +kernel) ⟨Nat.le_of_ble_eq_true rfl, Nat.le_of_ble_eq_true rfl⟩) (ct_preV hK hP (hDa _ _) hZ hS hA (va_recv hK hP (ci := 3) (q0 := 18) rfl rfl)) rfl rfl hl.1 rfl (lv_room (Nat.le_of_ble_eq_true rfl)) dL_law_614 ⟨by show _ ≤ 1074; omega, by show _ ≤ 15491; omega⟩) (hDa _ _) hS hA (fun r146 n_147 f_148 H locs hw hP hS => ?_)
        refine lv_istore (lv' := [(6, .int r146), (5, .int r141), (0, .ref b), (1, .ref (a 0)), (2, .ref (a 18)), (3, .ref (a 32)), (4, .int x4)]) hx hb dL_law_617 hl (by decide) rfl (fun ls hl => ?_)
        refine lv_aload_n hx hb dL_law_619 rfl (lv_at hl 4 rfl) ?_
        refine ct_i (va_runV (As := []) (rest := []) ⟨hx, hb, hml, hown, hts⟩ (met_M_thrown l dC dI a cA sa n_147 f_148 _ hw) (cwV 0 hts (wb_V wt_502 wt_503 wt_504 wt_30 wt_505) rfl rfl rfl (by decide +kernel) ⟨Nat.le_of_ble_eq_true rfl, Nat.le_of_ble_eq_true rfl⟩) (ct_preV hK hP (hDa _ _) hZ hS hA (va_recv hK hP (ci := 3) (q0 := 18) rfl rfl)) rfl rfl hl.1 rfl (lv_room (Nat.le_of_ble_eq_true rfl)) dL_law_620 ⟨by show _ ≤ 1074; omega, by show _ ≤ 15491; omega⟩) (hDa _ _) hS hA (fun r149 n_150 f_151 H locs hw hP hS => ?_)
        refine lv_iload hx hb dL_law_623 (lv_at hl 1 rfl) ?_
        refine lv_icmp_eq (tgt := 630) hx hb dL_law_625 (by decide) (fun c152 => ?_) (fun c152 => ?_)
        · have hw := hw.1 c152
          refine lv_iload hx hb dL_law_630 (lv_at hl 1 rfl) ?_
          refine lv_if_ne (tgt := 647) hx hb dL_law_632 (by decide) (fun c153 => ?_) (fun c153 => ?_)
          · have hw := hw.1 c153
            refine lv_goto (tgt := 811) hx hb dL_law_647 (by decide) ?_
            obtain ⟨x4_154, ex4_154⟩ : ∃ y : Int32, y = x4 + 6 := ⟨_, rfl⟩
            have hw := hw x4_154 ex4_154
            refine lv_iinc (v := x4_154) (lv' := [(4, .int x4_154), (6, .int r146), (5, .int r141), (0, .ref b), (1, .ref (a 0)), (2, .ref (a 18)), (3, .ref (a 32))]) hx hb dL_law_811 hl (k := 6) rfl (by rw [ex4_154]; rfl) (by decide) rfl (fun ls hl => ?_)
            refine lv_goto (tgt := 23) hx hb dL_law_814 (by decide) ?_
            exact ih x4_154 n_150 f_151 _ _ ls _ _ (by omega) (by omega) hw hP hS (lv_sub hl [3, 4, 5, 6, 0] rfl)
          · have hw := hw.2 c153
            refine lv_aload_n hx hb dL_law_635 rfl (lv_at hl 5 rfl) ?_
            refine lv_iconst (v := 0) hx hb dL_law_636 (by decide) ?_
            refine va_lald hx hb hK hP 32 28 rfl rfl ct_in01 dL_law_637 ?_
            refine lv_topl (fun y155 ey155 => ?_)
            have hw := hw y155 ey155
            refine lv_iload hx hb dL_law_638 (lv_at hl 0 rfl) ?_
            refine lv_i2l (v := r146.toInt64) hx hb dL_law_640 rfl ?_
            refine W.lcmp hx hb dL_law_641 ?_
            refine lv_if_eq (tgt := 647) hx hb dL_law_642 (by decide) (fun c156 => ?_) (fun c156 => ?_)
            · have hw := hw.1 c156
              refine lv_goto (tgt := 811) hx hb dL_law_647 (by decide) ?_
              obtain ⟨x4_157, ex4_157⟩ : ∃ y : Int32, y = x4 + 6 := ⟨_, rfl⟩
              have hw := hw x4_157 ex4_157
              refine lv_iinc (v := x4_157) (lv' := [(4, .int x4_157), (6, .int r146), (5, .int r141), (0, .ref b), (1, .ref (a 0)), (2, .ref (a 18)), (3, .ref (a 32))]) hx hb dL_law_811 hl (k := 6) rfl (by rw [ex4_157]; rfl) (by decide) rfl (fun ls hl => ?_)
              refine lv_goto (tgt := 23) hx hb dL_law_814 (by decide) ?_
              exact ih x4_157 n_150 f_151 _ _ ls _ _ (by omega) (by omega) hw hP hS (lv_sub hl [3, 4, 5, 6, 0] rfl)
            · have hw := hw.2 c156
              refine lv_iconst (v := 0) hx hb dL_law_645 (by decide) ?_
              refine va_forget (fun q hq => hS.2.2 q hq) ?_
              refine W.widen (k := 1074) (n := 15491) (by omega) (by omega) ?_
              exact lw_ret0 hx hb hr hlocks dL_law_646
        · have hw := hw.2 c152
          refine lv_iconst (v := 0) hx hb dL_law_628 (by decide) ?_
          refine va_forget (fun q hq => hS.2.2 q hq) ?_
          refine W.widen (k := 1074) (n := 15491) (by omega) (by omega) ?_
          exact lw_ret0 hx hb hr hlocks dL_law_629
      · have hw := hw.2.2.2.2.2.2.2.2.2.1 cs
        refine lv_tableIn (tgt := 650) hx hb dL_law_40 (by omega) (by omega) (by rw [cs]; rfl) (by decide) ?_
        refine lv_aload_n hx hb dL_law_650 rfl (lv_at hl 1 rfl) ?_
        refine lv_aload_n hx hb dL_law_651 rfl (lv_at hl 0 rfl) ?_
        refine lv_iload hx hb dL_law_652 (lv_at hl 4 rfl) ?_
        refine lv_iconst (v := 1) hx hb dL_law_654 (by decide) ?_
        refine lv_iadd hx hb dL_law_655 ?_
        obtain ⟨hi158, hw⟩ := hw
        refine va_sld hx hb hX hbl hbA hS hi158 dL_law_656 ?_
        refine lv_aload_n hx hb dL_law_657 rfl (lv_at hl 0 rfl) ?_
        refine lv_iload hx hb dL_law_658 (lv_at hl 4 rfl) ?_
        refine lv_iconst (v := 2) hx hb dL_law_660 (by decide) ?_
        refine lv_iadd hx hb dL_law_661 ?_
        obtain ⟨hi159, hw⟩ := hw
        refine va_sld hx hb hX hbl hbA hS hi159 dL_law_662 ?_
        refine lv_aload_n hx hb dL_law_663 rfl (lv_at hl 0 rfl) ?_
        refine lv_iload hx hb dL_law_664 (lv_at hl 4 rfl) ?_
        refine lv_iconst (v := 3) hx hb dL_law_666 (by decide) ?_
        refine lv_iadd hx hb dL_law_667 ?_
        obtain ⟨hi160, hw⟩ := hw
        refine va_sld hx hb hX hbl hbA hS hi160 dL_law_668 ?_
        refine lv_aload_n hx hb dL_law_669 rfl (lv_at hl 0 rfl) ?_
        refine lv_iload hx hb dL_law_670 (lv_at hl 4 rfl) ?_
        refine lv_iconst (v := 4) hx hb dL_law_672 (by decide) ?_
        refine lv_iadd hx hb dL_law_673 ?_
        obtain ⟨hi161, hw⟩ := hw
        refine va_sld hx hb hX hbl hbA hS hi161 dL_law_674 ?_
        refine lv_aload_n hx hb dL_law_675 rfl (lv_at hl 3 rfl) ?_
        refine ct_ic (vx_runSW (As := [.ref (a 0), .int (xs (x4 + 1).toNatClampNeg), .int (xs (x4 + 2).toNatClampNeg), .int (xs (x4 + 3).toNatClampNeg), .int (xs (x4 + 4).toNatClampNeg), .ref (a 32)]) (rest := []) ⟨hx, hb, hml, hown, hts⟩ (met_L_cover l hl9 dC dI a cA sa (xs (x4 + 1).toNatClampNeg) (xs (x4 + 2).toNatClampNeg) (xs (x4 + 3).toNatClampNeg) (xs (x4 + 4).toNatClampNeg) n f _ hw) (vx_cwSW 6 hts (wb_in (wb_c2 wt_402 (wb_c2 wt_403 (wb_c2 wt_26 (wb_cons wt_404))))) rfl rfl rfl (by decide +kernel) ⟨Nat.le_of_ble_eq_true rfl, Nat.le_of_ble_eq_true rfl⟩) (ct_pre hK hP (hDa _ _) hZ hS hA) rfl rfl hl.1 rfl (lv_room (Nat.le_of_ble_eq_true rfl)) dL_law_676 ⟨by show _ ≤ 1074; omega, by show _ ≤ 15491; omega⟩) (hDa _ _) hS hA (fun r162 n_163 f_164 H locs hw hP hS => ?_)
        refine lv_istore (lv' := [(5, .int r162), (0, .ref b), (1, .ref (a 0)), (2, .ref (a 18)), (3, .ref (a 32)), (4, .int x4)]) hx hb dL_law_679 hl (by decide) rfl (fun ls hl => ?_)
        refine lv_aload_n hx hb dL_law_681 rfl (lv_at hl 3 rfl) ?_
        refine lv_aload_n hx hb dL_law_682 rfl (lv_at hl 1 rfl) ?_
        refine lv_iload hx hb dL_law_683 (lv_at hl 5 rfl) ?_
        refine lv_iconst (v := 1) hx hb dL_law_685 (by decide) ?_
        refine lv_iadd hx hb dL_law_686 ?_
        obtain ⟨hi165, hw⟩ := hw
        refine va_sld hx hb hX hbl hbA hS hi165 dL_law_687 ?_
        refine lv_aload_n hx hb dL_law_688 rfl (lv_at hl 1 rfl) ?_
        refine lv_iload hx hb dL_law_689 (lv_at hl 5 rfl) ?_
        refine lv_iconst (v := 2) hx hb dL_law_691 (by decide) ?_
        refine lv_iadd hx hb dL_law_692 ?_
        obtain ⟨hi166, hw⟩ := hw
        refine va_sld hx hb hX hbl hbA hS hi166 dL_law_693 ?_
        refine lv_aload_n hx hb dL_law_694 rfl (lv_at hl 1 rfl) ?_
        refine lv_iload hx hb dL_law_695 (lv_at hl 5 rfl) ?_
        refine lv_iconst (v := 3) hx hb dL_law_697 (by decide) ?_
        refine lv_iadd hx hb dL_law_698 ?_
        obtain ⟨hi167, hw⟩ := hw
        refine va_sld hx hb hX hbl hbA hS hi167 dL_law_699 ?_
        refine lv_aload_n hx hb dL_law_700 rfl (lv_at hl 1 rfl) ?_
        refine lv_iload hx hb dL_law_701 (lv_at hl 5 rfl) ?_
        refine lv_iconst (v := 4) hx hb dL_law_703 (by decide) ?_
        refine lv_iadd hx hb dL_law_704 ?_
        obtain ⟨hi168, hw⟩ := hw
        refine va_sld hx hb hX hbl hbA hS hi168 dL_law_705 ?_
        refine ct_i (va_runV (As := [.int (xs (x4 + 1).toNatClampNeg), .int (xs (x4 + 2).toNatClampNeg), .int (xs (x4 + 3).toNatClampNeg), .int (xs (x4 + 4).toNatClampNeg)]) (rest := []) ⟨hx, hb, hml, hown, hts⟩ (met_M_cover l dC dI a cA sa (xs (x4 + 1).toNatClampNeg) (xs (x4 + 2).toNatClampNeg) (xs (x4 + 3).toNatClampNeg) (xs (x4 + 4).toNatClampNeg) n_163 f_164 _ hw) (cwV 4 hts (wb_V wt_581 wt_582 wt_583 wt_30 wt_584) rfl rfl rfl (by decide +kernel) ⟨Nat.le_of_ble_eq_true rfl, Nat.le_of_ble_eq_true rfl⟩) (ct_preV hK hP (hDa _ _) hZ hS hA (va_recv hK hP (ci := 3) (q0 := 18) rfl rfl)) rfl rfl hl.1 rfl (lv_room (Nat.le_of_ble_eq_true rfl)) dL_law_706 ⟨by show _ ≤ 1074; omega, by show _ ≤ 15491; omega⟩) (hDa _ _) hS hA (fun r169 n_170 f_171 H locs hw hP hS => ?_)
        refine lv_istore (lv' := [(6, .int r169), (5, .int r162), (0, .ref b), (1, .ref (a 0)), (2, .ref (a 18)), (3, .ref (a 32)), (4, .int x4)]) hx hb dL_law_709 hl (by decide) rfl (fun ls hl => ?_)
        refine lv_aload_n hx hb dL_law_711 rfl (lv_at hl 4 rfl) ?_
        refine ct_i (va_runV (As := []) (rest := []) ⟨hx, hb, hml, hown, hts⟩ (met_M_thrown l dC dI a cA sa n_170 f_171 _ hw) (cwV 0 hts (wb_V wt_502 wt_503 wt_504 wt_30 wt_505) rfl rfl rfl (by decide +kernel) ⟨Nat.le_of_ble_eq_true rfl, Nat.le_of_ble_eq_true rfl⟩) (ct_preV hK hP (hDa _ _) hZ hS hA (va_recv hK hP (ci := 3) (q0 := 18) rfl rfl)) rfl rfl hl.1 rfl (lv_room (Nat.le_of_ble_eq_true rfl)) dL_law_712 ⟨by show _ ≤ 1074; omega, by show _ ≤ 15491; omega⟩) (hDa _ _) hS hA (fun r172 n_173 f_174 H locs hw hP hS => ?_)
        refine lv_iload hx hb dL_law_715 (lv_at hl 1 rfl) ?_
        refine lv_icmp_eq (tgt := 722) hx hb dL_law_717 (by decide) (fun c175 => ?_) (fun c175 => ?_)
        · have hw := hw.1 c175
          refine lv_iload hx hb dL_law_722 (lv_at hl 1 rfl) ?_
          refine lv_if_ne (tgt := 739) hx hb dL_law_724 (by decide) (fun c176 => ?_) (fun c176 => ?_)
          · have hw := hw.1 c176
            refine lv_goto (tgt := 811) hx hb dL_law_739 (by decide) ?_
            obtain ⟨x4_177, ex4_177⟩ : ∃ y : Int32, y = x4 + 6 := ⟨_, rfl⟩
            have hw := hw x4_177 ex4_177
            refine lv_iinc (v := x4_177) (lv' := [(4, .int x4_177), (6, .int r169), (5, .int r162), (0, .ref b), (1, .ref (a 0)), (2, .ref (a 18)), (3, .ref (a 32))]) hx hb dL_law_811 hl (k := 6) rfl (by rw [ex4_177]; rfl) (by decide) rfl (fun ls hl => ?_)
            refine lv_goto (tgt := 23) hx hb dL_law_814 (by decide) ?_
            exact ih x4_177 n_173 f_174 _ _ ls _ _ (by omega) (by omega) hw hP hS (lv_sub hl [3, 4, 5, 6, 0] rfl)
          · have hw := hw.2 c176
            refine lv_aload_n hx hb dL_law_727 rfl (lv_at hl 5 rfl) ?_
            refine lv_iconst (v := 0) hx hb dL_law_728 (by decide) ?_
            refine va_lald hx hb hK hP 32 28 rfl rfl ct_in01 dL_law_729 ?_
            refine lv_topl (fun y178 ey178 => ?_)
            have hw := hw y178 ey178
            refine lv_iload hx hb dL_law_730 (lv_at hl 0 rfl) ?_
            refine lv_i2l (v := r169.toInt64) hx hb dL_law_732 rfl ?_
            refine W.lcmp hx hb dL_law_733 ?_
            refine lv_if_eq (tgt := 739) hx hb dL_law_734 (by decide) (fun c179 => ?_) (fun c179 => ?_)
            · have hw := hw.1 c179
              refine lv_goto (tgt := 811) hx hb dL_law_739 (by decide) ?_
              obtain ⟨x4_180, ex4_180⟩ : ∃ y : Int32, y = x4 + 6 := ⟨_, rfl⟩
              have hw := hw x4_180 ex4_180
              refine lv_iinc (v := x4_180) (lv' := [(4, .int x4_180), (6, .int r169), (5, .int r162), (0, .ref b), (1, .ref (a 0)), (2, .ref (a 18)), (3, .ref (a 32))]) hx hb dL_law_811 hl (k := 6) rfl (by rw [ex4_180]; rfl) (by decide) rfl (fun ls hl => ?_)
              refine lv_goto (tgt := 23) hx hb dL_law_814 (by decide) ?_
              exact ih x4_180 n_173 f_174 _ _ ls _ _ (by omega) (by omega) hw hP hS (lv_sub hl [3, 4, 5, 6, 0] rfl)
            · have hw := hw.2 c179
              refine lv_iconst (v := 0) hx hb dL_law_737 (by decide) ?_
              refine va_forget (fun q hq => hS.2.2 q hq) ?_
              refine W.widen (k := 1074) (n := 15491) (by omega) (by omega) ?_
              exact lw_ret0 hx hb hr hlocks dL_law_738
        · have hw := hw.2 c175
          refine lv_iconst (v := 0) hx hb dL_law_720 (by decide) ?_
          refine va_forget (fun q hq => hS.2.2 q hq) ?_
          refine W.widen (k := 1074) (n := 15491) (by omega) (by omega) ?_
          exact lw_ret0 hx hb hr hlocks dL_law_721
      · have hw := hw.2.2.2.2.2.2.2.2.2.2.1 cs
        refine lv_tableIn (tgt := 742) hx hb dL_law_40 (by omega) (by omega) (by rw [cs]; rfl) (by decide) ?_
        refine lv_aload_n hx hb dL_law_742 rfl (lv_at hl 1 rfl) ?_
        refine ct_i (va_runV (As := []) (rest := []) ⟨hx, hb, hml, hown, hts⟩ (met_C_states l dC dI a cA sa n f _ hw) (cwV 0 hts (wb_V wt_149 wt_150 wt_151 wt_27 wt_152) rfl rfl rfl (by decide +kernel) ⟨Nat.le_of_ble_eq_true rfl, Nat.le_of_ble_eq_true rfl⟩) (ct_preV hK hP (hDa _ _) hZ hS hA (va_recv hK hP (ci := 0) (q0 := 0) rfl rfl)) rfl rfl hl.1 rfl (lv_room (Nat.le_of_ble_eq_true rfl)) dL_law_743 ⟨by show _ ≤ 1074; omega, by show _ ≤ 15491; omega⟩) (hDa _ _) hS hA (fun r181 n_182 f_183 H locs hw hP hS => ?_)
        refine lv_aload_n hx hb dL_law_746 rfl (lv_at hl 2 rfl) ?_
        refine ct_i (va_runV (As := []) (rest := [.int r181]) ⟨hx, hb, hml, hown, hts⟩ (met_M_states l dC dI a cA sa n_182 f_183 _ hw) (cwV 0 hts (wb_V wt_605 wt_606 wt_607 wt_30 wt_608) rfl rfl rfl (by decide +kernel) ⟨Nat.le_of_ble_eq_true rfl, Nat.le_of_ble_eq_true rfl⟩) (ct_preV hK hP (hDa _ _) hZ hS hA (va_recv hK hP (ci := 3) (q0 := 18) rfl rfl)) rfl rfl hl.1 rfl (lv_room (Nat.le_of_ble_eq_true rfl)) dL_law_747 ⟨by show _ ≤ 1074; omega, by show _ ≤ 15491; omega⟩) (hDa _ _) hS hA (fun r184 n_185 f_186 H locs hw hP hS => ?_)
        refine lv_icmp_eq (tgt := 811) hx hb dL_law_750 (by decide) (fun c187 => ?_) (fun c187 => ?_)
        · have hw := hw.1 c187
          obtain ⟨x4_188, ex4_188⟩ : ∃ y : Int32, y = x4 + 6 := ⟨_, rfl⟩
          have hw := hw x4_188 ex4_188
          refine lv_iinc (v := x4_188) (lv' := [(4, .int x4_188), (0, .ref b), (1, .ref (a 0)), (2, .ref (a 18)), (3, .ref (a 32))]) hx hb dL_law_811 hl (k := 4) rfl (by rw [ex4_188]; rfl) (by decide) rfl (fun ls hl => ?_)
          refine lv_goto (tgt := 23) hx hb dL_law_814 (by decide) ?_
          exact ih x4_188 n_185 f_186 _ _ ls _ _ (by omega) (by omega) hw hP hS (lv_sub hl [1, 2, 3, 4, 0] rfl)
        · have hw := hw.2 c187
          refine lv_iconst (v := 0) hx hb dL_law_753 (by decide) ?_
          refine va_forget (fun q hq => hS.2.2 q hq) ?_
          refine W.widen (k := 1074) (n := 15491) (by omega) (by omega) ?_
          exact lw_ret0 hx hb hr hlocks dL_law_754
      · have hw := hw.2.2.2.2.2.2.2.2.2.2.2.1 cs
        refine lv_tableIn (tgt := 755) hx hb dL_law_40 (by omega) (by omega) (by rw [cs]; rfl) (by decide) ?_
        refine lv_aload_n hx hb dL_law_755 rfl (lv_at hl 1 rfl) ?_
        refine lv_aload_n hx hb dL_law_756 rfl (lv_at hl 0 rfl) ?_
        refine lv_iload hx hb dL_law_757 (lv_at hl 4 rfl) ?_
        refine lv_iconst (v := 1) hx hb dL_law_759 (by decide) ?_
        refine lv_iadd hx hb dL_law_760 ?_
        obtain ⟨hi189, hw⟩ := hw
        refine va_sld hx hb hX hbl hbA hS hi189 dL_law_761 ?_
        refine lv_aload_n hx hb dL_law_762 rfl (lv_at hl 3 rfl) ?_
        refine ct_ic (vx_runSW (As := [.ref (a 0), .int (xs (x4 + 1).toNatClampNeg), .ref (a 32)]) (rest := []) ⟨hx, hb, hml, hown, hts⟩ (met_L_like l hl9 dC dI a cA sa (xs (x4 + 1).toNatClampNeg) n f _ hw) (vx_cwSW 3 hts (wb_in (wb_c2 wt_431 (wb_c2 wt_432 (wb_c2 wt_26 (wb_cons wt_433))))) rfl rfl rfl (by decide +kernel) ⟨Nat.le_of_ble_eq_true rfl, Nat.le_of_ble_eq_true rfl⟩) (ct_pre hK hP (hDa _ _) hZ hS hA) rfl rfl hl.1 rfl (lv_room (Nat.le_of_ble_eq_true rfl)) dL_law_763 ⟨by show _ ≤ 1074; omega, by show _ ≤ 15491; omega⟩) (hDa _ _) hS hA (fun r190 n_191 f_192 H locs hw hP hS => ?_)
        refine lv_istore (lv' := [(5, .int r190), (0, .ref b), (1, .ref (a 0)), (2, .ref (a 18)), (3, .ref (a 32)), (4, .int x4)]) hx hb dL_law_766 hl (by decide) rfl (fun ls hl => ?_)
        refine lv_aload_n hx hb dL_law_768 rfl (lv_at hl 3 rfl) ?_
        refine lv_aload_n hx hb dL_law_769 rfl (lv_at hl 1 rfl) ?_
        refine lv_iload hx hb dL_law_770 (lv_at hl 5 rfl) ?_
        refine lv_iconst (v := 1) hx hb dL_law_772 (by decide) ?_
        refine lv_iadd hx hb dL_law_773 ?_
        obtain ⟨hi193, hw⟩ := hw
        refine va_sld hx hb hX hbl hbA hS hi193 dL_law_774 ?_
        refine ct_i (va_runV (As := [.int (xs (x4 + 1).toNatClampNeg)]) (rest := []) ⟨hx, hb, hml, hown, hts⟩ (met_M_like l dC dI a cA sa (xs (x4 + 1).toNatClampNeg) n_191 f_192 _ hw) (cwV 1 hts (wb_V wt_589 wt_590 wt_591 wt_30 wt_592) rfl rfl rfl (by decide +kernel) ⟨Nat.le_of_ble_eq_true rfl, Nat.le_of_ble_eq_true rfl⟩) (ct_preV hK hP (hDa _ _) hZ hS hA (va_recv hK hP (ci := 3) (q0 := 18) rfl rfl)) rfl rfl hl.1 rfl (lv_room (Nat.le_of_ble_eq_true rfl)) dL_law_775 ⟨by show _ ≤ 1074; omega, by show _ ≤ 15491; omega⟩) (hDa _ _) hS hA (fun r194 n_195 f_196 H locs hw hP hS => ?_)
        refine lv_istore (lv' := [(6, .int r194), (5, .int r190), (0, .ref b), (1, .ref (a 0)), (2, .ref (a 18)), (3, .ref (a 32)), (4, .int x4)]) hx hb dL_law_778 hl (by decide) rfl (fun ls hl => ?_)
        refine lv_aload_n hx hb dL_law_780 rfl (lv_at hl 4 rfl) ?_
        refine ct_i (va_runV (As := []) (rest := []) ⟨hx, hb, hml, hown, hts⟩ (met_M_thrown l dC dI a cA sa n_195 f_196 _ hw) (cwV 0 hts (wb_V wt_502 wt_503 wt_504 wt_30 wt_505) rfl rfl rfl (by decide +kernel) ⟨Nat.le_of_ble_eq_true rfl, Nat.le_of_ble_eq_true rfl⟩) (ct_preV hK hP (hDa _ _) hZ hS hA (va_recv hK hP (ci := 3) (q0 := 18) rfl rfl)) rfl rfl hl.1 rfl (lv_room (Nat.le_of_ble_eq_true rfl)) dL_law_781 ⟨by show _ ≤ 1074; omega, by show _ ≤ 15491; omega⟩) (hDa _ _) hS hA (fun r197 n_198 f_199 H locs hw hP hS => ?_)
        refine lv_iload hx hb dL_law_784 (lv_at hl 1 rfl) ?_
        refine lv_icmp_eq (tgt := 791) hx hb dL_law_786 (by decide) (fun c200 => ?_) (fun c200 => ?_)
        · have hw := hw.1 c200
          refine lv_iload hx hb dL_law_791 (lv_at hl 1 rfl) ?_
          refine lv_if_ne (tgt := 808) hx hb dL_law_793 (by decide) (fun c201 => ?_) (fun c201 => ?_)
          · have hw := hw.1 c201
            refine lv_goto (tgt := 811) hx hb dL_law_808 (by decide) ?_
            obtain ⟨x4_202, ex4_202⟩ : ∃ y : Int32, y = x4 + 6 := ⟨_, rfl⟩
            have hw := hw x4_202 ex4_202
            refine lv_iinc (v := x4_202) (lv' := [(4, .int x4_202), (6, .int r194), (5, .int r190), (0, .ref b), (1, .ref (a 0)), (2, .ref (a 18)), (3, .ref (a 32))]) hx hb dL_law_811 hl (k := 6) rfl (by rw [ex4_202]; rfl) (by decide) rfl (fun ls hl => ?_)
            refine lv_goto (tgt := 23) hx hb dL_law_814 (by decide) ?_
            exact ih x4_202 n_198 f_199 _ _ ls _ _ (by omega) (by omega) hw hP hS (lv_sub hl [3, 4, 5, 6, 0] rfl)
          · have hw := hw.2 c201
            refine lv_aload_n hx hb dL_law_796 rfl (lv_at hl 5 rfl) ?_
            refine lv_iconst (v := 0) hx hb dL_law_797 (by decide) ?_
            refine va_lald hx hb hK hP 32 28 rfl rfl ct_in01 dL_law_798 ?_
            refine lv_topl (fun y203 ey203 => ?_)
            have hw := hw y203 ey203
            refine lv_iload hx hb dL_law_799 (lv_at hl 0 rfl) ?_
            refine lv_i2l (v := r194.toInt64) hx hb dL_law_801 rfl ?_
            refine W.lcmp hx hb dL_law_802 ?_
            refine lv_if_eq (tgt := 808) hx hb dL_law_803 (by decide) (fun c204 => ?_) (fun c204 => ?_)
            · have hw := hw.1 c204
              refine lv_goto (tgt := 811) hx hb dL_law_808 (by decide) ?_
              obtain ⟨x4_205, ex4_205⟩ : ∃ y : Int32, y = x4 + 6 := ⟨_, rfl⟩
              have hw := hw x4_205 ex4_205
              refine lv_iinc (v := x4_205) (lv' := [(4, .int x4_205), (6, .int r194), (5, .int r190), (0, .ref b), (1, .ref (a 0)), (2, .ref (a 18)), (3, .ref (a 32))]) hx hb dL_law_811 hl (k := 6) rfl (by rw [ex4_205]; rfl) (by decide) rfl (fun ls hl => ?_)
              refine lv_goto (tgt := 23) hx hb dL_law_814 (by decide) ?_
              exact ih x4_205 n_198 f_199 _ _ ls _ _ (by omega) (by omega) hw hP hS (lv_sub hl [3, 4, 5, 6, 0] rfl)
            · have hw := hw.2 c204
              refine lv_iconst (v := 0) hx hb dL_law_806 (by decide) ?_
              refine va_forget (fun q hq => hS.2.2 q hq) ?_
              refine W.widen (k := 1074) (n := 15491) (by omega) (by omega) ?_
              exact lw_ret0 hx hb hr hlocks dL_law_807
        · have hw := hw.2 c200
          refine lv_iconst (v := 0) hx hb dL_law_789 (by decide) ?_
          refine va_forget (fun q hq => hS.2.2 q hq) ?_
          refine W.widen (k := 1074) (n := 15491) (by omega) (by omega) ?_
          exact lw_ret0 hx hb hr hlocks dL_law_790
      · have hw := hw.2.2.2.2.2.2.2.2.2.2.2.2 cs
        refine lv_tableOut (tgt := 811) hx hb dL_law_40 cs (by decide) ?_
        obtain ⟨x4_206, ex4_206⟩ : ∃ y : Int32, y = x4 + 6 := ⟨_, rfl⟩
        have hw := hw x4_206 ex4_206
        refine lv_iinc (v := x4_206) (lv' := [(4, .int x4_206), (0, .ref b), (1, .ref (a 0)), (2, .ref (a 18)), (3, .ref (a 32))]) hx hb dL_law_811 hl (k := 4) rfl (by rw [ex4_206]; rfl) (by decide) rfl (fun ls hl => ?_)
        refine lv_goto (tgt := 23) hx hb dL_law_814 (by decide) ?_
        exact ih x4_206 n f _ _ ls _ _ (by omega) (by omega) hw hP hS (lv_sub hl [1, 2, 3, 4, 0] rfl)
def ev_law (xs : Nat → Int32) (L : Nat) : Nat → Int32 → ctN → ctF → Bool
  | 0, _, _, _ => false
  | k + 1, x4, n, f => (if ((Int32.ofNat L) - 6) < x4 then false else (ev_in x4 L && (if ((xs x4.toNatClampNeg) &&& 15).toInt = 0 then false else (if ((xs x4.toNatClampNeg) &&& 15).toInt = 1 then false else (if ((xs x4.toNatClampNeg) &&& 15).toInt = 2 then (ev_in (x4 + 1) L && ev_frc (xs (x4 + 1).toNatClampNeg) (fun v47 => ev_L_operator (fun (r18 : Int32) (n_19 : ctN) (f_20 : ctF) => (ev_in (x4 + 1) L && ev_frc (xs (x4 + 1).toNatClampNeg) (fun v46 => ev_M_operator (fun (r22 : Int32) (n_23 : ctN) (f_24 : ctF) => ev_M_thrown (fun (r25 : Int32) (n_26 : ctN) (f_27 : ctF) => (if r25 = r18 then (if r18 = 0 then ev_let ((f_27 32 (0 : Int32).toNatClampNeg).toInt64) (fun y31 => (if (lg_cmp y31 (r22.toInt64)) = 0 then ev_frc (x4 + 6) (fun x4_33 => ev_law xs L k x4_33 n_26 f_27) else true)) else ev_frc (x4 + 6) (fun x4_30 => ev_law xs L k x4_30 n_26 f_27)) else true)) n_23 f_24) v46 n_19 f_20))) v47 n f)) else (if ((xs x4.toNatClampNeg) &&& 15).toInt = 3 then (ev_in (x4 + 1) L && (ev_in (x4 + 2) L && (ev_in (x4 + 3) L && (ev_in (x4 + 4) L && (ev_in (x4 + 5) L && ev_frc (xs (x4 + 1).toNatClampNeg) (fun v53 => ev_frc (xs (x4 + 2).toNatClampNeg) (fun v54 => ev_frc (xs (x4 + 3).toNatClampNeg) (fun v55 => ev_frc (xs (x4 + 4).toNatClampNeg) (fun v56 => ev_frc (xs (x4 + 5).toNatClampNeg) (fun v57 => ev_L_base (fun (r39 : Int32) (n_40 : ctN) (f_41 : ctF) => (ev_in (x4 + 1) L && (ev_in (x4 + 2) L && (ev_in (x4 + 3) L && (ev_in (x4 + 4) L && (ev_in (x4 + 5) L && ev_frc (xs (x4 + 1).toNatClampNeg) (fun v48 => ev_frc (xs (x4 + 2).toNatClampNeg) (fun v49 => ev_frc (xs (x4 + 3).toNatClampNeg) (fun v50 => ev_frc (xs (x4 + 4).toNatClampNeg) (fun v51 => ev_frc (xs (x4 + 5).toNatClampNeg) (fun v52 => ev_M_base (fun (r47 : Int32) (n_48 : ctN) (f_49 : ctF) => ev_M_thrown (fun (r50 : Int32) (n_51 : ctN) (f_52 : ctF) => (if r50 = r39 then (if r39 = 0 then ev_let ((f_52 32 (0 : Int32).toNatClampNeg).toInt64) (fun y56 => (if (lg_cmp y56 (r47.toInt64)) = 0 then ev_frc (x4 + 6) (fun x4_58 => ev_law xs L k x4_58 n_51 f_52) else true)) else ev_frc (x4 + 6) (fun x4_55 => ev_law xs L k x4_55 n_51 f_52)) else true)) n_48 f_49) v48 v49 v50 v51 v52 n_40 f_41))))))))))) v53 v54 v55 v56 v57 n f)))))))))) else (if ((xs x4.toNatClampNeg) &&& 15).toInt = 4 then (ev_in (x4 + 1) L && (ev_in (x4 + 2) L && (ev_in (x4 + 3) L && ev_frc (xs (x4 + 1).toNatClampNeg) (fun v61 => ev_frc (xs (x4 + 2).toNatClampNeg) (fun v62 => ev_frc (xs (x4 + 3).toNatClampNeg) (fun v63 => ev_L_chain (fun (r62 : Int32) (n_63 : ctN) (f_64 : ctF) => (ev_in (x4 + 1) L && (ev_in (x4 + 2) L && (ev_in (x4 + 3) L && ev_frc (xs (x4 + 1).toNatClampNeg) (fun v58 => ev_frc (xs (x4 + 2).toNatClampNeg) (fun v59 => ev_frc (xs (x4 + 3).toNatClampNeg) (fun v60 => ev_M_chain (fun (r68 : Int32) (n_69 : ctN) (f_70 : ctF) => ev_M_thrown (fun (r71 : Int32) (n_72 : ctN) (f_73 : ctF) => (if r71 = r62 then (if r62 = 0 then ev_let ((f_73 32 (0 : Int32).toNatClampNeg).toInt64) (fun y77 => (if (lg_cmp y77 (r68.toInt64)) = 0 then ev_frc (x4 + 6) (fun x4_79 => ev_law xs L k x4_79 n_72 f_73) else true)) else ev_frc (x4 + 6) (fun x4_76 => ev_law xs L k x4_76 n_72 f_73)) else true)) n_69 f_70) v58 v59 v60 n_63 f_64))))))) v61 v62 v63 n f)))))) else (if ((xs x4.toNatClampNeg) &&& 15).toInt = 5 then (ev_in (x4 + 1) L && (ev_in (x4 + 2) L && (ev_in (x4 + 3) L && ev_frc (xs (x4 + 1).toNatClampNeg) (fun v67 => ev_frc (xs (x4 + 2).toNatClampNeg) (fun v68 => ev_frc (xs (x4 + 3).toNatClampNeg) (fun v69 => ev_L_node (fun (r83 : Int32) (n_84 : ctN) (f_85 : ctF) => (ev_in (x4 + 1) L && (ev_in (x4 + 2) L && (ev_in (x4 + 3) L && ev_frc (xs (x4 + 1).toNatClampNeg) (fun v64 => ev_frc (xs (x4 + 2).toNatClampNeg) (fun v65 => ev_frc (xs (x4 + 3).toNatClampNeg) (fun v66 => ev_M_node (fun (r89 : Int32) (n_90 : ctN) (f_91 : ctF) => ev_M_thrown (fun (r92 : Int32) (n_93 : ctN) (f_94 : ctF) => (if r92 = r83 then (if r83 = 0 then ev_let ((f_94 32 (0 : Int32).toNatClampNeg).toInt64) (fun y98 => (if (lg_cmp y98 (r89.toInt64)) = 0 then ev_frc (x4 + 6) (fun x4_100 => ev_law xs L k x4_100 n_93 f_94) else true)) else ev_frc (x4 + 6) (fun x4_97 => ev_law xs L k x4_97 n_93 f_94)) else true)) n_90 f_91) v64 v65 v66 n_84 f_85))))))) v67 v68 v69 n f)))))) else (if ((xs x4.toNatClampNeg) &&& 15).toInt = 6 then false else (if ((xs x4.toNatClampNeg) &&& 15).toInt = 7 then (ev_in (x4 + 1) L && (ev_in (x4 + 2) L && ev_frc (xs (x4 + 1).toNatClampNeg) (fun v72 => ev_frc (xs (x4 + 2).toNatClampNeg) (fun v73 => ev_L_rule (fun (r122 : Int32) (n_123 : ctN) (f_124 : ctF) => (ev_in (x4 + 1) L && (ev_in (x4 + 2) L && ev_frc (xs (x4 + 1).toNatClampNeg) (fun v70 => ev_frc (xs (x4 + 2).toNatClampNeg) (fun v71 => ev_M_rule (fun (r127 : Int32) (n_128 : ctN) (f_129 : ctF) => ev_M_thrown (fun (r130 : Int32) (n_131 : ctN) (f_132 : ctF) => (if r130 = r122 then (if r122 = 0 then ev_let ((f_132 32 (0 : Int32).toNatClampNeg).toInt64) (fun y136 => (if (lg_cmp y136 (r127.toInt64)) = 0 then ev_frc (x4 + 6) (fun x4_138 => ev_law xs L k x4_138 n_131 f_132) else true)) else ev_frc (x4 + 6) (fun x4_135 => ev_law xs L k x4_135 n_131 f_132)) else true)) n_128 f_129) v70 v71 n_123 f_124))))) v72 v73 n f)))) else (if ((xs x4.toNatClampNeg) &&& 15).toInt = 8 then false else (if ((xs x4.toNatClampNeg) &&& 15).toInt = 9 then false else (if ((xs x4.toNatClampNeg) &&& 15).toInt = 10 then false else (if ((xs x4.toNatClampNeg) &&& 15).toInt = 11 then false else (if (((xs x4.toNatClampNeg) &&& 15).toInt < 0 ∨ 11 < ((xs x4.toNatClampNeg) &&& 15).toInt) then false else false)))))))))))))))
theorem sd_law (xs : Nat → Int32) (L : Nat) : ∀ (k : Nat) (x4 : Int32) (n : ctN) (f : ctF), ev_law xs L k x4 n f = true → wp_law0 xs L k x4 n f
  | 0, _, _, _, h => ev_no h
  | k + 1, x4, n, f, h => by rw [ev_law] at h; rw [wp_law0]; exact ⟨fun hc => have h := ev_i1 h hc; ev_no h, fun hc => have h := ev_i2 h hc; ⟨ev_in1 h, have h := ev_in2 h; ⟨fun hc => have h := ev_i1 h hc; ev_no h, fun hc => have h := ev_i2 h (by omega); have h := ev_i1 h hc; ev_no h, fun hc => have h := ev_i2 h (by omega); have h := ev_i2 h (by omega); have h := ev_i1 h hc; ⟨ev_in1 h, have h := ev_in2 h; (have h := ev_frcS h; sd_L_operator (fun r18 n_19 f_20 h => ⟨ev_in1 h, have h := ev_in2 h; (have h := ev_frcS h; sd_M_operator (fun r22 n_23 f_24 h => sd_M_thrown (fun r25 n_26 f_27 h => ⟨fun hc => have h := ev_i1 h hc; ⟨fun hc => have h := ev_i2 h hc; fun x4_30 hy => have h := ev_frcA h x4_30 hy; sd_law xs L k _ _ _ h, fun hc => have h := ev_i1 h hc; fun y31 hy => have h := ev_letA h y31 hy; ⟨fun hc => have h := ev_i1 h hc; fun x4_33 hy => have h := ev_frcA h x4_33 hy; sd_law xs L k _ _ _ h, fun hc => have h := ev_i2 h hc; trivial⟩⟩, fun hc => have h := ev_i2 h hc; trivial⟩) h) h)⟩) h)⟩, fun hc => have h := ev_i2 h (by omega); have h := ev_i2 h (by omega); have h := ev_i2 h (by omega); have h := ev_i1 h hc; ⟨ev_in1 h, have h := ev_in2 h; ⟨ev_in1 h, have h := ev_in2 h; ⟨ev_in1 h, have h := ev_in2 h; ⟨ev_in1 h, have h := ev_in2 h; ⟨ev_in1 h, have h := ev_in2 h; (have h := ev_frcS h; have h := ev_frcS h; have h := ev_frcS h; have h := ev_frcS h; have h := ev_frcS h; sd_L_base (fun r39 n_40 f_41 h => ⟨ev_in1 h, have h := ev_in2 h; ⟨ev_in1 h, have h := ev_in2 h; ⟨ev_in1 h, have h := ev_in2 h; ⟨ev_in1 h, have h := ev_in2 h; ⟨ev_in1 h, have h := ev_in2 h; (have h := ev_frcS h; have h := ev_frcS h; have h := ev_frcS h; have h := ev_frcS h; have h := ev_frcS h; sd_M_base (fun r47 n_48 f_49 h => sd_M_thrown (fun r50 n_51 f_52 h => ⟨fun hc => have h := ev_i1 h hc; ⟨fun hc => have h := ev_i2 h hc; fun x4_55 hy => have h := ev_frcA h x4_55 hy; sd_law xs L k _ _ _ h, fun hc => have h := ev_i1 h hc; fun y56 hy => have h := ev_letA h y56 hy; ⟨fun hc => have h := ev_i1 h hc; fun x4_58 hy => have h := ev_frcA h x4_58 hy; sd_law xs L k _ _ _ h, fun hc => have h := ev_i2 h hc; trivial⟩⟩, fun hc => have h := ev_i2 h hc; trivial⟩) h) h)⟩⟩⟩⟩⟩) h)⟩⟩⟩⟩⟩, fun hc => have h := ev_i2 h (by omega); have h := ev_i2 h (by omega); have h := ev_i2 h (by omega); have h := ev_i2 h (by omega); have h := ev_i1 h hc; ⟨ev_in1 h, have h := ev_in2 h; ⟨ev_in1 h, have h := ev_in2 h; ⟨ev_in1 h, have h := ev_in2 h; (have h := ev_frcS h; have h := ev_frcS h; have h := ev_frcS h; sd_L_chain (fun r62 n_63 f_64 h => ⟨ev_in1 h, have h := ev_in2 h; ⟨ev_in1 h, have h := ev_in2 h; ⟨ev_in1 h, have h := ev_in2 h; (have h := ev_frcS h; have h := ev_frcS h; have h := ev_frcS h; sd_M_chain (fun r68 n_69 f_70 h => sd_M_thrown (fun r71 n_72 f_73 h => ⟨fun hc => have h := ev_i1 h hc; ⟨fun hc => have h := ev_i2 h hc; fun x4_76 hy => have h := ev_frcA h x4_76 hy; sd_law xs L k _ _ _ h, fun hc => have h := ev_i1 h hc; fun y77 hy => have h := ev_letA h y77 hy; ⟨fun hc => have h := ev_i1 h hc; fun x4_79 hy => have h := ev_frcA h x4_79 hy; sd_law xs L k _ _ _ h, fun hc => have h := ev_i2 h hc; trivial⟩⟩, fun hc => have h := ev_i2 h hc; trivial⟩) h) h)⟩⟩⟩) h)⟩⟩⟩, fun hc => have h := ev_i2 h (by omega); have h := ev_i2 h (by omega); have h := ev_i2 h (by omega); have h := ev_i2 h (by omega); have h := ev_i2 h (by omega); have h := ev_i1 h hc; ⟨ev_in1 h, have h := ev_in2 h; ⟨ev_in1 h, have h := ev_in2 h; ⟨ev_in1 h, have h := ev_in2 h; (have h := ev_frcS h; have h := ev_frcS h; have h := ev_frcS h; sd_L_node (fun r83 n_84 f_85 h => ⟨ev_in1 h, have h := ev_in2 h; ⟨ev_in1 h, have h := ev_in2 h; ⟨ev_in1 h, have h := ev_in2 h; (have h := ev_frcS h; have h := ev_frcS h; have h := ev_frcS h; sd_M_node (fun r89 n_90 f_91 h => sd_M_thrown (fun r92 n_93 f_94 h => ⟨fun hc => have h := ev_i1 h hc; ⟨fun hc => have h := ev_i2 h hc; fun x4_97 hy => have h := ev_frcA h x4_97 hy; sd_law xs L k _ _ _ h, fun hc => have h := ev_i1 h hc; fun y98 hy => have h := ev_letA h y98 hy; ⟨fun hc => have h := ev_i1 h hc; fun x4_100 hy => have h := ev_frcA h x4_100 hy; sd_law xs L k _ _ _ h, fun hc => have h := ev_i2 h hc; trivial⟩⟩, fun hc => have h := ev_i2 h hc; trivial⟩) h) h)⟩⟩⟩) h)⟩⟩⟩, fun hc => have h := ev_i2 h (by omega); have h := ev_i2 h (by omega); have h := ev_i2 h (by omega); have h := ev_i2 h (by omega); have h := ev_i2 h (by omega); have h := ev_i2 h (by omega); have h := ev_i1 h hc; ev_no h, fun hc => have h := ev_i2 h (by omega); have h := ev_i2 h (by omega); have h := ev_i2 h (by omega); have h := ev_i2 h (by omega); have h := ev_i2 h (by omega); have h := ev_i2 h (by omega); have h := ev_i2 h (by omega); have h := ev_i1 h hc; ⟨ev_in1 h, have h := ev_in2 h; ⟨ev_in1 h, have h := ev_in2 h; (have h := ev_frcS h; have h := ev_frcS h; sd_L_rule (fun r122 n_123 f_124 h => ⟨ev_in1 h, have h := ev_in2 h; ⟨ev_in1 h, have h := ev_in2 h; (have h := ev_frcS h; have h := ev_frcS h; sd_M_rule (fun r127 n_128 f_129 h => sd_M_thrown (fun r130 n_131 f_132 h => ⟨fun hc => have h := ev_i1 h hc; ⟨fun hc => have h := ev_i2 h hc; fun x4_135 hy => have h := ev_frcA h x4_135 hy; sd_law xs L k _ _ _ h, fun hc => have h := ev_i1 h hc; fun y136 hy => have h := ev_letA h y136 hy; ⟨fun hc => have h := ev_i1 h hc; fun x4_138 hy => have h := ev_frcA h x4_138 hy; sd_law xs L k _ _ _ h, fun hc => have h := ev_i2 h hc; trivial⟩⟩, fun hc => have h := ev_i2 h hc; trivial⟩) h) h)⟩⟩) h)⟩⟩, fun hc => have h := ev_i2 h (by omega); have h := ev_i2 h (by omega); have h := ev_i2 h (by omega); have h := ev_i2 h (by omega); have h := ev_i2 h (by omega); have h := ev_i2 h (by omega); have h := ev_i2 h (by omega); have h := ev_i2 h (by omega); have h := ev_i1 h hc; ev_no h, fun hc => have h := ev_i2 h (by omega); have h := ev_i2 h (by omega); have h := ev_i2 h (by omega); have h := ev_i2 h (by omega); have h := ev_i2 h (by omega); have h := ev_i2 h (by omega); have h := ev_i2 h (by omega); have h := ev_i2 h (by omega); have h := ev_i2 h (by omega); have h := ev_i1 h hc; ev_no h, fun hc => have h := ev_i2 h (by omega); have h := ev_i2 h (by omega); have h := ev_i2 h (by omega); have h := ev_i2 h (by omega); have h := ev_i2 h (by omega); have h := ev_i2 h (by omega); have h := ev_i2 h (by omega); have h := ev_i2 h (by omega); have h := ev_i2 h (by omega); have h := ev_i2 h (by omega); have h := ev_i1 h hc; ev_no h, fun hc => have h := ev_i2 h (by omega); have h := ev_i2 h (by omega); have h := ev_i2 h (by omega); have h := ev_i2 h (by omega); have h := ev_i2 h (by omega); have h := ev_i2 h (by omega); have h := ev_i2 h (by omega); have h := ev_i2 h (by omega); have h := ev_i2 h (by omega); have h := ev_i2 h (by omega); have h := ev_i2 h (by omega); have h := ev_i1 h hc; ev_no h, fun hc => have h := ev_i2 h (by omega); have h := ev_i2 h (by omega); have h := ev_i2 h (by omega); have h := ev_i2 h (by omega); have h := ev_i2 h (by omega); have h := ev_i2 h (by omega); have h := ev_i2 h (by omega); have h := ev_i2 h (by omega); have h := ev_i2 h (by omega); have h := ev_i2 h (by omega); have h := ev_i2 h (by omega); have h := ev_i2 h (by omega); have h := ev_i1 h hc; ev_no h⟩⟩⟩
