section
-- ===== PART A: goes FIRST, ahead of the names: the tables' words, and 'selects' of the private methods out of them =====
/-- a private method of a class that the tables say can be made, by its rows of tables_1 -/
def lw_okq (q : MethodName × Nat) : Prop := (q.1.cls ≠ "java/lang/invoke/MethodHandle" ∧ q.1.cls ≠ "java/lang/invoke/VarHandle") ∧ Cond.instantiable q.1.cls q.2 ∈ tables_1 ∧ Cond.privateMethod q.1 ∈ tables_1 ∧ Cond.instanceMethod q.1 ∈ tables_1
theorem lw_p0 : lw_okq (⟨"java/lang/Throwable", "fillInStackTrace", "(I)Ljava/lang/Throwable;"⟩, 6) := ⟨⟨by decide +kernel, by decide +kernel⟩, List.mem_of_getElem? (i := 179) (by decide +kernel), List.mem_of_getElem? (i := 177) (by decide +kernel), List.mem_of_getElem? (i := 178) (by decide +kernel)⟩
theorem lw_p1 : lw_okq (⟨"CoverTrees", "checkRoomForRule", "()V"⟩, 2) := ⟨⟨by decide +kernel, by decide +kernel⟩, List.mem_of_getElem? (i := 13) (by decide +kernel), List.mem_of_getElem? (i := 249) (by decide +kernel), List.mem_of_getElem? (i := 250) (by decide +kernel)⟩
theorem lw_p2 : lw_okq (⟨"CoverTrees$Forest", "blankDraft", "()V"⟩, 11) := ⟨⟨by decide +kernel, by decide +kernel⟩, List.mem_of_getElem? (i := 63) (by decide +kernel), List.mem_of_getElem? (i := 285) (by decide +kernel), List.mem_of_getElem? (i := 286) (by decide +kernel)⟩
theorem lw_p3 : lw_okq (⟨"CoverTrees$Forest", "applyBaseRules", "()V"⟩, 11) := ⟨⟨by decide +kernel, by decide +kernel⟩, List.mem_of_getElem? (i := 63) (by decide +kernel), List.mem_of_getElem? (i := 292) (by decide +kernel), List.mem_of_getElem? (i := 293) (by decide +kernel)⟩
theorem lw_p4 : lw_okq (⟨"CoverTrees$Forest", "baseCost", "(I)I"⟩, 11) := ⟨⟨by decide +kernel, by decide +kernel⟩, List.mem_of_getElem? (i := 63) (by decide +kernel), List.mem_of_getElem? (i := 296) (by decide +kernel), List.mem_of_getElem? (i := 297) (by decide +kernel)⟩
theorem lw_p5 : lw_okq (⟨"CoverTrees$Forest", "offer", "(II)V"⟩, 11) := ⟨⟨by decide +kernel, by decide +kernel⟩, List.mem_of_getElem? (i := 63) (by decide +kernel), List.mem_of_getElem? (i := 300) (by decide +kernel), List.mem_of_getElem? (i := 301) (by decide +kernel)⟩
theorem lw_p6 : lw_okq (⟨"CoverTrees$Forest", "settleGoals", "()V"⟩, 11) := ⟨⟨by decide +kernel, by decide +kernel⟩, List.mem_of_getElem? (i := 63) (by decide +kernel), List.mem_of_getElem? (i := 304) (by decide +kernel), List.mem_of_getElem? (i := 305) (by decide +kernel)⟩
theorem lw_p7 : lw_okq (⟨"CoverTrees$Forest", "cheapestUnsettled", "()I"⟩, 11) := ⟨⟨by decide +kernel, by decide +kernel⟩, List.mem_of_getElem? (i := 63) (by decide +kernel), List.mem_of_getElem? (i := 308) (by decide +kernel), List.mem_of_getElem? (i := 309) (by decide +kernel)⟩
theorem lw_p8 : lw_okq (⟨"CoverTrees$Forest", "sizeByRule", "(I)I"⟩, 11) := ⟨⟨by decide +kernel, by decide +kernel⟩, List.mem_of_getElem? (i := 63) (by decide +kernel), List.mem_of_getElem? (i := 312) (by decide +kernel), List.mem_of_getElem? (i := 313) (by decide +kernel)⟩
theorem lw_p9 : lw_okq (⟨"CoverTrees$Forest", "applyChainRulesFrom", "(I)V"⟩, 11) := ⟨⟨by decide +kernel, by decide +kernel⟩, List.mem_of_getElem? (i := 63) (by decide +kernel), List.mem_of_getElem? (i := 319) (by decide +kernel), List.mem_of_getElem? (i := 320) (by decide +kernel)⟩
theorem lw_p10 : lw_okq (⟨"CoverTrees$Forest", "firstAlike", "(I)I"⟩, 11) := ⟨⟨by decide +kernel, by decide +kernel⟩, List.mem_of_getElem? (i := 63) (by decide +kernel), List.mem_of_getElem? (i := 337) (by decide +kernel), List.mem_of_getElem? (i := 338) (by decide +kernel)⟩
theorem lw_p11 : lw_okq (⟨"CoverTrees$Forest", "alike", "(II)Z"⟩, 11) := ⟨⟨by decide +kernel, by decide +kernel⟩, List.mem_of_getElem? (i := 63) (by decide +kernel), List.mem_of_getElem? (i := 341) (by decide +kernel), List.mem_of_getElem? (i := 342) (by decide +kernel)⟩
theorem lw_p12 : lw_okq (⟨"CoverTrees", "checkPlace", "(II)V"⟩, 2) := ⟨⟨by decide +kernel, by decide +kernel⟩, List.mem_of_getElem? (i := 13) (by decide +kernel), List.mem_of_getElem? (i := 352) (by decide +kernel), List.mem_of_getElem? (i := 353) (by decide +kernel)⟩
theorem lw_p13 : lw_okq (⟨"CoverTrees", "coverSize", "(II)I"⟩, 2) := ⟨⟨by decide +kernel, by decide +kernel⟩, List.mem_of_getElem? (i := 13) (by decide +kernel), List.mem_of_getElem? (i := 372) (by decide +kernel), List.mem_of_getElem? (i := 373) (by decide +kernel)⟩
theorem lw_p14 : lw_okq (⟨"CoverTreesModel", "refuse", "(ZZZ)Z"⟩, 19) := ⟨⟨by decide +kernel, by decide +kernel⟩, List.mem_of_getElem? (i := 413) (by decide +kernel), List.mem_of_getElem? (i := 496) (by decide +kernel), List.mem_of_getElem? (i := 497) (by decide +kernel)⟩
theorem lw_p15 : lw_okq (⟨"CoverTreesModel", "add", "(IIIII)I"⟩, 19) := ⟨⟨by decide +kernel, by decide +kernel⟩, List.mem_of_getElem? (i := 413) (by decide +kernel), List.mem_of_getElem? (i := 507) (by decide +kernel), List.mem_of_getElem? (i := 508) (by decide +kernel)⟩
def lw_privs_1 : List (MethodName × Nat) := [(⟨"java/lang/Throwable", "fillInStackTrace", "(I)Ljava/lang/Throwable;"⟩, 6), (⟨"CoverTrees", "checkRoomForRule", "()V"⟩, 2), (⟨"CoverTrees$Forest", "blankDraft", "()V"⟩, 11), (⟨"CoverTrees$Forest", "applyBaseRules", "()V"⟩, 11), (⟨"CoverTrees$Forest", "baseCost", "(I)I"⟩, 11), (⟨"CoverTrees$Forest", "offer", "(II)V"⟩, 11), (⟨"CoverTrees$Forest", "settleGoals", "()V"⟩, 11), (⟨"CoverTrees$Forest", "cheapestUnsettled", "()I"⟩, 11), (⟨"CoverTrees$Forest", "sizeByRule", "(I)I"⟩, 11), (⟨"CoverTrees$Forest", "applyChainRulesFrom", "(I)V"⟩, 11), (⟨"CoverTrees$Forest", "firstAlike", "(I)I"⟩, 11), (⟨"CoverTrees$Forest", "alike", "(II)Z"⟩, 11), (⟨"CoverTrees", "checkPlace", "(II)V"⟩, 2), (⟨"CoverTrees", "coverSize", "(II)I"⟩, 2), (⟨"CoverTreesModel", "refuse", "(ZZZ)Z"⟩, 19), (⟨"CoverTreesModel", "add", "(IIIII)I"⟩, 19)]
theorem lw_r1 : ∀ q ∈ lw_privs_1, lw_okq q := List.forall_mem_cons.mpr ⟨lw_p0, List.forall_mem_cons.mpr ⟨lw_p1, List.forall_mem_cons.mpr ⟨lw_p2, List.forall_mem_cons.mpr ⟨lw_p3, List.forall_mem_cons.mpr ⟨lw_p4, List.forall_mem_cons.mpr ⟨lw_p5, List.forall_mem_cons.mpr ⟨lw_p6, List.forall_mem_cons.mpr ⟨lw_p7, List.forall_mem_cons.mpr ⟨lw_p8, List.forall_mem_cons.mpr ⟨lw_p9, List.forall_mem_cons.mpr ⟨lw_p10, List.forall_mem_cons.mpr ⟨lw_p11, List.forall_mem_cons.mpr ⟨lw_p12, List.forall_mem_cons.mpr ⟨lw_p13, List.forall_mem_cons.mpr ⟨lw_p14, List.forall_mem_cons.mpr ⟨lw_p15, fun _ h => absurd h List.not_mem_nil⟩⟩⟩⟩⟩⟩⟩⟩⟩⟩⟩⟩⟩⟩⟩⟩
theorem lw_p16 : lw_okq (⟨"CoverTreesModel", "isNode", "(I)Z"⟩, 19) := ⟨⟨by decide +kernel, by decide +kernel⟩, List.mem_of_getElem? (i := 413) (by decide +kernel), List.mem_of_getElem? (i := 519) (by decide +kernel), List.mem_of_getElem? (i := 520) (by decide +kernel)⟩
theorem lw_p17 : lw_okq (⟨"CoverTreesModel", "price", "(I)V"⟩, 19) := ⟨⟨by decide +kernel, by decide +kernel⟩, List.mem_of_getElem? (i := 413) (by decide +kernel), List.mem_of_getElem? (i := 523) (by decide +kernel), List.mem_of_getElem? (i := 524) (by decide +kernel)⟩
theorem lw_p18 : lw_okq (⟨"CoverTreesModel", "costBy", "(II)I"⟩, 19) := ⟨⟨by decide +kernel, by decide +kernel⟩, List.mem_of_getElem? (i := 413) (by decide +kernel), List.mem_of_getElem? (i := 527) (by decide +kernel), List.mem_of_getElem? (i := 528) (by decide +kernel)⟩
theorem lw_p19 : lw_okq (⟨"CoverTreesModel", "settle", "(I)Z"⟩, 19) := ⟨⟨by decide +kernel, by decide +kernel⟩, List.mem_of_getElem? (i := 413) (by decide +kernel), List.mem_of_getElem? (i := 532) (by decide +kernel), List.mem_of_getElem? (i := 533) (by decide +kernel)⟩
theorem lw_p20 : lw_okq (⟨"CoverTreesModel", "ruleOf", "(II)I"⟩, 19) := ⟨⟨by decide +kernel, by decide +kernel⟩, List.mem_of_getElem? (i := 413) (by decide +kernel), List.mem_of_getElem? (i := 536) (by decide +kernel), List.mem_of_getElem? (i := 537) (by decide +kernel)⟩
theorem lw_p21 : lw_okq (⟨"CoverTreesModel", "isAsked", "(II)Z"⟩, 19) := ⟨⟨by decide +kernel, by decide +kernel⟩, List.mem_of_getElem? (i := 413) (by decide +kernel), List.mem_of_getElem? (i := 544) (by decide +kernel), List.mem_of_getElem? (i := 545) (by decide +kernel)⟩
theorem lw_p22 : lw_okq (⟨"CoverTreesModel", "find", "(III)V"⟩, 19) := ⟨⟨by decide +kernel, by decide +kernel⟩, List.mem_of_getElem? (i := 413) (by decide +kernel), List.mem_of_getElem? (i := 560) (by decide +kernel), List.mem_of_getElem? (i := 561) (by decide +kernel)⟩
theorem lw_p23 : lw_okq (⟨"CoverTreesModel", "likeOf", "(I)I"⟩, 19) := ⟨⟨by decide +kernel, by decide +kernel⟩, List.mem_of_getElem? (i := 413) (by decide +kernel), List.mem_of_getElem? (i := 568) (by decide +kernel), List.mem_of_getElem? (i := 569) (by decide +kernel)⟩
theorem lw_p24 : lw_okq (⟨"CoverTreesModel", "isAlike", "(II)Z"⟩, 19) := ⟨⟨by decide +kernel, by decide +kernel⟩, List.mem_of_getElem? (i := 413) (by decide +kernel), List.mem_of_getElem? (i := 572) (by decide +kernel), List.mem_of_getElem? (i := 573) (by decide +kernel)⟩
theorem lw_p25 : lw_okq (⟨"CoverTreesModel", "leastCost", "(I)I"⟩, 19) := ⟨⟨by decide +kernel, by decide +kernel⟩, List.mem_of_getElem? (i := 413) (by decide +kernel), List.mem_of_getElem? (i := 576) (by decide +kernel), List.mem_of_getElem? (i := 577) (by decide +kernel)⟩
def lw_privs_2 : List (MethodName × Nat) := [(⟨"CoverTreesModel", "isNode", "(I)Z"⟩, 19), (⟨"CoverTreesModel", "price", "(I)V"⟩, 19), (⟨"CoverTreesModel", "costBy", "(II)I"⟩, 19), (⟨"CoverTreesModel", "settle", "(I)Z"⟩, 19), (⟨"CoverTreesModel", "ruleOf", "(II)I"⟩, 19), (⟨"CoverTreesModel", "isAsked", "(II)Z"⟩, 19), (⟨"CoverTreesModel", "find", "(III)V"⟩, 19), (⟨"CoverTreesModel", "likeOf", "(I)I"⟩, 19), (⟨"CoverTreesModel", "isAlike", "(II)Z"⟩, 19), (⟨"CoverTreesModel", "leastCost", "(I)I"⟩, 19)]
theorem lw_r2 : ∀ q ∈ lw_privs_2, lw_okq q := List.forall_mem_cons.mpr ⟨lw_p16, List.forall_mem_cons.mpr ⟨lw_p17, List.forall_mem_cons.mpr ⟨lw_p18, List.forall_mem_cons.mpr ⟨lw_p19, List.forall_mem_cons.mpr ⟨lw_p20, List.forall_mem_cons.mpr ⟨lw_p21, List.forall_mem_cons.mpr ⟨lw_p22, List.forall_mem_cons.mpr ⟨lw_p23, List.forall_mem_cons.mpr ⟨lw_p24, List.forall_mem_cons.mpr ⟨lw_p25, fun _ h => absurd h List.not_mem_nil⟩⟩⟩⟩⟩⟩⟩⟩⟩⟩
def lw_privs : List (MethodName × Nat) := lw_privs_1 ++ (lw_privs_2)
def lw_tbl : List Cond := k2_sels lw_privs ++ tables_1
theorem lw_privs_ok : ∀ q ∈ lw_privs, lw_okq q := by
  show ∀ q ∈ lw_privs_1 ++ (lw_privs_2), lw_okq q
  exact List.forall_mem_append.mpr ⟨lw_r1, lw_r2⟩
end
section
/-! ===== BEGIN words of one list among another's, by their places ===== -/
theorem goodIn_r {big : List Cond} (ws : List Cond) (ps : List Nat) (hp : ws = ps.filterMap (fun i => big[i]?)) (h : ws.all goodWord = true) : GoodIn big ws := by
  intro w hw
  have h1 := List.all_eq_true.mp h w hw
  rw [hp] at hw
  obtain ⟨i, -, hi⟩ := List.mem_filterMap.mp hw
  have hm : w ∈ big := by first | exact List.mem_of_getElem? hi | exact List.getElem?_mem hi
  exact ⟨hm, good_of_word h1⟩
theorem goodIn_app {big a b : List Cond} (ha : GoodIn big a) (hb : GoodIn big b) : GoodIn big (a ++ b) := fun w h => (List.mem_append.mp h).elim (ha w) (hb w)
theorem goodIn_ca {big a b : List Cond} {c : Cond} (ha : GoodIn big (c :: a)) (hb : GoodIn big b) : GoodIn big (c :: (a ++ b)) := fun w h => (List.mem_cons.mp h).elim (fun e => ha w (List.mem_cons.mpr (Or.inl e))) (fun h => (List.mem_append.mp h).elim (fun h => ha w (List.mem_cons.mpr (Or.inr h))) (hb w))
theorem goodIn_sub {big ws : List Cond} (hm : ∀ w ∈ ws, w ∈ big) (h : ws.all goodWord = true) : GoodIn big ws := fun w hw => ⟨hm w hw, good_of_word (List.all_eq_true.mp h w hw)⟩
/-! ===== END ===== -/

/-! ===== BEGIN exceptions that leave a method, and their catching by the caller (launches without stack traces) ===== -/
section VXA
/-! The laws vx_back, vx_callV, vx_callS, vx_callSW, vx_throw0, vx_throwS follow proofs of the library, with one case more: JvmDerived/Free/Laws.lean (Back.of_free), Shelf42/LK1.lean (callV, callS), Shelf/KitTraced.lean (throwNew0V, throwNewS). -/
/-- where a method has thrown q: the class by its name, the cell, what was written, the world -/
def vx_T (XC : String → State → State → Prop) (st : State) (q : Addr) (t : State) (mc ms : Nat) (free : Addr → Prop) : Prop :=
  ∃ (E : String) (ce : Cell) (L : List Loc), XC E st t ∧ t.heap[q]? = some ce ∧ ce.vm = .none ∧ st.vm.findClass E = some ce.cls ∧ st.WarmedH t.vm ∧ st.sameButNew ({ t with vm := st.vm } : State) L mc ms ∧ ∀ z ∈ L, free z.base
def vx_Q (Qc : Array Value → State → Outcome → State → Prop) (XC : String → State → State → Prop) (mc ms : Nat) (free : Addr → Prop) : Array Value → State → Outcome → State → Prop := fun a st o t =>
  (Qc a st o t ∧ ∃ L, FrameEnd st o t L mc ms ∧ ∀ q ∈ L, free q.base) ∨ ∃ q, o = .threw q ∧ vx_T XC st q t mc ms free
/-- a callee that returns or throws -/
def vx_Met (l : Launch) (y : MethodName) (ws : List Cond) (rm : Room) (Pc : Array Value → State → Prop) (Qc : Array Value → State → Outcome → State → Prop) (XC : String → State → State → Prop) (mc ms : Nat) (free : Addr → Prop) : Prop :=
  MetFree l y (headSpec ws rm) Pc (fun _ _ _ _ _ => True) (vx_Q Qc XC mc ms free)
def vx_Post (XC : String → State → State → Prop) (mc ms : Nat) (free : Addr → Prop) : Pt → Array Value → Addr → Pt → Prop := fun A a q B =>
  ∃ (g : JFrame) (mk : MethodId) (t : State) (L : List Loc) (E : String) (ce : Cell), B.U.heap = t.heap ∧ B.U.vm = t.vm ∧ XC E (A.U.calling g mk a) t ∧ t.heap[q]? = some ce ∧ ce.vm = .none ∧ A.U.vm.findClass E = some ce.cls ∧ B.locs = A.locs ++ L ∧ (∀ z ∈ L, free z.base) ∧ B.cells = A.cells + mc ∧ B.slots = A.slots + ms
def vx_Back (l : Launch) (R : Room) (p : Program) (e : Env) (below : List Frame) (s : State) (sargs : Array Value) (y : MethodName) (len W9 : Nat)
    (Pre : Pt → Array Value → Prop) (Post : Pt → Array Value → Option Value → Pt → Prop) (PostX : Pt → Array Value → Addr → Pt → Prop) : Prop :=
  ∀ (m : MethodId) (meth : Method) (c : Code) (A : Pt) (g : JFrame) (ig : Instr) (mk : MethodId) (a : Array Value),
    Stand p l e R s m sargs below meth c A.U A.locs A.cells A.slots → g.method = m → g.locals.size = c.maxLocals → decode c.code g.pc = .ok (ig, len) →
    2 * g.monitorRoom + (g.stack.map fun v => v.category).sum ≤ W9 → A.U.methodNamed? y = some mk → Pre A a →
    (∃ (v : Option Value) (B : Pt), Stand p l e R s m sargs below meth c B.U B.locs B.cells B.slots ∧ Post A a v B ∧
      Steps p.tables e below (doInvoke e (A.U.setTop g) [] mk a).1 (B.U.setTop { g with pc := g.pc + len, stack := v.toList ++ g.stack })) ∨
    (∃ (q : Addr) (B : Pt), Stand p l e R s m sargs below meth c B.U B.locs B.cells B.slots ∧ PostX A a q B ∧
      Steps p.tables e below (doInvoke e (A.U.setTop g) [] mk a).1 ((B.U.setTop g).pushFrame (.throwing q)))
section Payer
variable {l : Launch} {R : Room} {p : Program} {e : Env} {below : List Frame} {s : State} {sargs : Array Value} {y : MethodName} {len W9 : Nat}
theorem vx_back {ws : List Cond} {rm : Room} {Pc : Array Value → State → Prop} {Qc : Array Value → State → Outcome → State → Prop} {XC : String → State → State → Prop} {mc ms : Nat} {free : Addr → Prop} {bytes : ByteArray} {maxL : Nat} {ret : Option FieldType}
    (hM : vx_Met l y ws rm Pc Qc XC mc ms free) (hblind : FrameBlind Pc) (hrc : rm.cells = mc) (hrs : rm.slots = ms)
    (hframes : rm.frames + 1 ≤ R.frames) (hlocals : W9 + (maxL + 11) + rm.locals ≤ R.locals)
    (hws : ∀ w ∈ ws, ∀ a' U, s.WarmedH U.vm → w.before a' U = true) (hcode : Cond.code y bytes maxL ret ∈ ws) (hinit : ∀ a' U, s.WarmedH U.vm → (Cond.initialized y.cls).before a' U = true) :
    vx_Back l R p e below s sargs y len W9 (PreOf R mc ms Pc) (PostOf Qc mc ms free) (vx_Post XC mc ms free) := by
  intro m meth c A g ig mk a X hg hsize hdg hW hn hp
  have h1 : (headSpec ws rm).pre.before a A.U = true := atoms_intro fun w hw => hws w hw _ _ X.warmed
  have h2 : (Cond.code y bytes maxL ret).before a A.U = true := hws _ hcode _ _ X.warmed
  have h3 : (Cond.initialized y.cls).before a A.U = true := hinit _ _ X.warmed
  have h4 : A.cells + (headSpec ws rm).room.cells ≤ R.cells := by rw [show (headSpec ws rm).room.cells = mc from hrc]; exact hp.1
  have h5 : A.slots + (headSpec ws rm).room.slots ≤ R.slots := by rw [show (headSpec ws rm).room.slots = ms from hrs]; exact hp.2.1
  have hPc : Pc a (A.U.calling g mk a) := hblind _ _ _ _ hp.2.2
  obtain ⟨U, Ls, c0, s0⟩ := A
  dsimp only [Pt.U, Pt.locs, Pt.cells, Pt.slots] at h1 h2 h3 h4 h5 X hn hPc ⊢
  obtain ⟨methY, cY, hmY, hcY, -, hlY, -, -, -, -⟩ := Cond.code_spec hn h2
  obtain ⟨kY, hkY, -⟩ := className_of_methodNamed hn
  have hinitY : kY.init = .initialized := Cond.initialized_spec (findClass_of_methodNamed hn) hkY h3
  have h : At U g.method c below := by rw [hg]; exact X.here
  have hlocals9 : W9 + (maxL + 11) + (headSpec ws rm).room.locals ≤ R.locals := hlocals
  have happ : (headSpec ws rm).appliesLoose y e.platform (U.calling g mk a) = true :=
    Spec.appliesLoose_calling (g := g) h hdg hn hkY hinitY
      (X.room_calling (g := g) (R' := (headSpec ws rm).room) hsize hmY hcY hframes (by rw [hlY]; omega) h4 h5) h1
  obtain ⟨mid, hmid⟩ := h.above
  have hfr : (U.setTop g).frames = (.java g :: mid) ++ below := by rw [State.frames_setTop' g h.top, hmid]; rfl
  obtain ⟨o, s₂, hsteps, -, hend, hq⟩ := Steps.callFree hM p X.admits X.cas X.clock (acts := []) hfr happ hPc trivial
  have hq' : vx_Q Qc XC mc ms free a (U.calling g mk a) o s₂ := hq
  rw [State.frames_setTop' g h.top] at hend
  obtain ⟨g₀, hg0⟩ := Option.isSome_iff_exists.mp h.top
  obtain ⟨r, hr⟩ := State.topJava?_eq_some.mp hg0
  have hr' : (({ U with heap := s₂.heap, slotsUsed := s₂.slotsUsed } : State).setVm s₂.vm).frames = .java g₀ :: r := hr
  rcases hq' with ⟨hqc, L, hfe, hL⟩ | ⟨q, rfl, E, ce, L, hx, hce, hcv, hcl, hW₂, hsm, hL⟩
  · obtain ⟨⟨v, rfl⟩, hW₂, e2, q2, q3, q4, q5, q6⟩ := id hfe
    have e3 : s₂ = ({ (U.calling g mk a).setFrames s₂.frames with heap := s₂.heap, slotsUsed := s₂.slotsUsed } : State).setVm s₂.vm := by
      have : s₂ = ({ s₂ with vm := (U.calling g mk a).vm } : State).setVm s₂.vm := rfl
      rw [e2] at this
      exact this
    obtain ⟨c₂, i₂, len₂, hc₂, hd₂, hf₂⟩ := hend
    have hW' : U.WarmedH s₂.vm := hW₂
    have hcc : c₂ = c := by
      have h1 : s₂.code? g.method = U.code? g.method := by
        rw [State.code?_eq, State.code?_eq, hW'.alike.method?]
      exact Option.some.inj (hc₂.symm.trans (h1.trans h.code))
    subst hcc
    have hlen : len₂ = len := by rw [hdg] at hd₂; cases hd₂; rfl
    subst hlen
    have hs₂ : s₂ = (({ U with heap := s₂.heap, slotsUsed := s₂.slotsUsed } : State).setVm s₂.vm).setTop { g with pc := g.pc + len₂, stack := v.toList ++ g.stack } := by
      refine e3.trans ?_
      rw [hf₂, State.calling_eq h.top, State.setFrames_setFrames, State.setTop_of_frames _ hr', hr]
      rfl
    have hsame : U.sameButNew ({ U with heap := s₂.heap, slotsUsed := s₂.slotsUsed } : State) L mc ms := by
      refine ⟨?_, q2, q3, q4, q5, q6⟩
      obtain ⟨t, ht, -⟩ := State.frames_cons hr
      show ({ U with heap := s₂.heap, slotsUsed := s₂.slotsUsed } : State) = { U.setFrames U.frames with heap := s₂.heap, slotsUsed := s₂.slotsUsed }
      rw [State.setFrames_self ht]
    subst hg
    refine Or.inl ⟨v, ⟨(({ U with heap := s₂.heap, slotsUsed := s₂.slotsUsed } : State).setVm s₂.vm), Ls ++ L, c0 + mc, s0 + ms⟩,
      ⟨X.admits, X.cas, X.clock, X.frames, X.room, X.hears, X.method, X.code, (X.here.setHeapUsed s₂.heap s₂.slotsUsed).setVm hW'.alike, X.tail, State.WarmedH.trans X.warmed hW', X.limits, X.bytes, X.same.trans (hsame.setVm s.vm)⟩,
      ⟨g, mk, s₂, L, rfl, rfl, hqc, rfl, hL, rfl, rfl⟩, ?_⟩
    show Steps p.tables e below _ ((({ U with heap := s₂.heap, slotsUsed := s₂.slotsUsed } : State).setVm s₂.vm).setTop { g with pc := g.pc + len₂, stack := v.toList ++ g.stack })
    rw [← hs₂]
    exact hsteps
  · obtain ⟨e2, q2, q3, q4, q5, q6⟩ := id hsm
    have e3 : s₂ = ({ (U.calling g mk a).setFrames s₂.frames with heap := s₂.heap, slotsUsed := s₂.slotsUsed } : State).setVm s₂.vm := by
      have : s₂ = ({ s₂ with vm := (U.calling g mk a).vm } : State).setVm s₂.vm := rfl
      rw [e2] at this
      exact this
    have hf₂ : s₂.frames = .throwing q :: .java g :: U.frames.tail := hend
    have hW' : U.WarmedH s₂.vm := hW₂
    have hs₂ : s₂ = ((({ U with heap := s₂.heap, slotsUsed := s₂.slotsUsed } : State).setVm s₂.vm).setTop g).pushFrame (.throwing q) := by
      refine e3.trans ?_
      rw [hf₂, State.calling_eq h.top, State.setFrames_setFrames, State.pushFrame, State.frames_setTop _ hr', State.setTop_of_frames _ hr', State.setFrames_setFrames, hr]
      rfl
    have hsame : U.sameButNew ({ U with heap := s₂.heap, slotsUsed := s₂.slotsUsed } : State) L mc ms := by
      refine ⟨?_, q2, q3, q4, q5, q6⟩
      obtain ⟨t, ht, -⟩ := State.frames_cons hr
      show ({ U with heap := s₂.heap, slotsUsed := s₂.slotsUsed } : State) = { U.setFrames U.frames with heap := s₂.heap, slotsUsed := s₂.slotsUsed }
      rw [State.setFrames_self ht]
    subst hg
    refine Or.inr ⟨q, ⟨(({ U with heap := s₂.heap, slotsUsed := s₂.slotsUsed } : State).setVm s₂.vm), Ls ++ L, c0 + mc, s0 + ms⟩,
      ⟨X.admits, X.cas, X.clock, X.frames, X.room, X.hears, X.method, X.code, (X.here.setHeapUsed s₂.heap s₂.slotsUsed).setVm hW'.alike, X.tail, State.WarmedH.trans X.warmed hW', X.limits, X.bytes, X.same.trans (hsame.setVm s.vm)⟩,
      ⟨g, mk, s₂, L, E, ce, rfl, rfl, hx, hce, hcv, hcl, rfl, hL, rfl, rfl⟩, ?_⟩
    show Steps p.tables e below _ (((({ U with heap := s₂.heap, slotsUsed := s₂.slotsUsed } : State).setVm s₂.vm).setTop g).pushFrame (.throwing q))
    rw [← hs₂]
    exact hsteps
end Payer
section Calls
variable {p : Program} {l : Launch} {e : Env} {R : Room} {s : State} {m : MethodId} {args : Array Value} {below : List Frame} {meth : Method} {c : Code} {T : State} {locs : List Loc} {cells slots : Nat}
theorem vx_callV (X : Stand p l e R s m args below meth c T locs cells slots) (hexec : p.tables.exec = Jvm.exec) {own C : String} {index : Nat} {y : MethodName} {bytes : ByteArray} {maxL : Nat} {ret : Option FieldType}
    (hown : s.vm.findClass own = some m.cls) (hlink : (Cond.methodLink own index y).before args s = true) (hinst : (Cond.instanceMethod y).before args s = true) (hsel : (Cond.selects C y y).before args s = true)
    (hcode : (Cond.code y bytes maxL ret).before args s = true) (hy : y.cls ≠ "java/lang/invoke/MethodHandle" ∧ y.cls ≠ "java/lang/invoke/VarHandle")
    {W9 : Nat} {Pre : Pt → Array Value → Prop} {Post : Pt → Array Value → Option Value → Pt → Prop} {PostX : Pt → Array Value → Addr → Pt → Prop} (hK : vx_Back l R p e below s args y 3 W9 Pre Post PostX)
    {b : Addr} {cellB : Cell} (hcell : T.heap[b]? = some cellB) (hobj : cellB.vm.isStatics = false) (hcls : s.vm.findClass C = some cellB.cls)
    {g : JFrame} (hg : g.method = m) (hsize : g.locals.size = c.maxLocals) {argsL rest : List Value} (hlen : ∀ sig, parseMethodDescriptor y.desc = some sig → argsL.length = sig.parameters.length)
    (hstack : g.stack = argsL.reverse ++ .ref b :: rest) (hW : 2 * g.monitorRoom + (rest.map fun v => v.category).sum ≤ W9) (hdg : decode c.code g.pc = .ok (.invokevirtual index, 3))
    (hpre : ∀ vm₁, s.WarmedH vm₁ → Pre ⟨T.setVm vm₁, locs, cells, slots⟩ (Value.ref b :: argsL).toArray) :
    (∃ (v : Option Value) (vm₁ : Vm) (B : Pt), s.WarmedH vm₁ ∧ Stand p l e R s m args below meth c B.U B.locs B.cells B.slots ∧ Post ⟨T.setVm vm₁, locs, cells, slots⟩ (Value.ref b :: argsL).toArray v B ∧
      ∀ target, Steps p.tables e below (B.U.setTop { g with pc := g.pc + 3, stack := v.toList ++ rest }) target → Steps p.tables e below (T.setTop g) target) ∨
    (∃ (q : Addr) (vm₁ : Vm) (B : Pt), s.WarmedH vm₁ ∧ Stand p l e R s m args below meth c B.U B.locs B.cells B.slots ∧ PostX ⟨T.setVm vm₁, locs, cells, slots⟩ (Value.ref b :: argsL).toArray q B ∧
      Steps p.tables e below (T.setTop g) ((B.U.setTop { g with stack := rest }).pushFrame (.throwing q))) := by
  obtain ⟨mk, methM, hnamed, hmethM, hstM, habM⟩ := Cond.instanceMethod_spec hinst
  obtain ⟨methM', cM, hmethM', -, -, -, -, -, -, hsigM⟩ := Cond.code_spec hnamed hcode
  cases hmethM.symm.trans hmethM'
  obtain ⟨c2, r2, m2, q1, q2, q3, q4, kP, hkP, hkPi⟩ := Cond.selects_spec hsel
  cases hcls.symm.trans q1
  cases (State.methodFound?_of_named hnamed hy).symm.trans q2
  cases hnamed.symm.trans q3
  have hselP : selectMethod e.platform s.vm cellB.cls mk = .method mk := by rw [Launch.admits_selectMethod X.admits]; exact q4
  obtain ⟨vm₁, X₁, hstep₁⟩ := X.invokevirtual hexec hown hlink hnamed hmethM hstM hkP hkPi hy (a := b) (cell := cellB) hcell
    (fun z h => by rw [h] at hobj; cases hobj) hselP hmethM habM hkP hkPi (g := g) hg (argsL := argsL) (rest := rest) (hlen _ hsigM) hstack hdg
  rcases hK m meth c ⟨T.setVm vm₁, locs, cells, slots⟩ { g with stack := rest } (.invokevirtual index) mk (Value.ref b :: argsL).toArray X₁ hg hsize hdg hW (X₁.named hnamed) (hpre vm₁ X₁.warmed) with ⟨v, B, X', hpost, hsteps⟩ | ⟨q, B, X', hpost, hsteps⟩
  · exact Or.inl ⟨v, vm₁, B, X₁.warmed, X', hpost, fun target h => hstep₁ _ fun acts => by rw [doInvoke_state]; exact hsteps.trans h⟩
  · exact Or.inr ⟨q, vm₁, B, X₁.warmed, X', hpost, hstep₁ _ fun acts => by rw [doInvoke_state]; exact hsteps⟩
theorem vx_callS (X : Stand p l e R s m args below meth c T locs cells slots) (hexec : p.tables.exec = Jvm.exec) {own : String} {index : Nat} {y : MethodName} {bytes : ByteArray} {maxL : Nat} {ret : Option FieldType}
    (hown : s.vm.findClass own = some m.cls) (hlink : (Cond.methodLink own index y).before args s = true) (hstat : (Cond.static y).before args s = true) (hinit : (Cond.initialized y.cls).before args s = true)
    (hcode : (Cond.code y bytes maxL ret).before args s = true) (hy : y.cls ≠ "java/lang/invoke/MethodHandle" ∧ y.cls ≠ "java/lang/invoke/VarHandle")
    {W9 : Nat} {Pre : Pt → Array Value → Prop} {Post : Pt → Array Value → Option Value → Pt → Prop} {PostX : Pt → Array Value → Addr → Pt → Prop} (hK : vx_Back l R p e below s args y 3 W9 Pre Post PostX)
    {g : JFrame} (hg : g.method = m) (hsize : g.locals.size = c.maxLocals) {argsL rest : List Value} (hlen : ∀ sig, parseMethodDescriptor y.desc = some sig → argsL.length = sig.parameters.length)
    (hstack : g.stack = argsL.reverse ++ rest) (hW : 2 * g.monitorRoom + (rest.map fun v => v.category).sum ≤ W9) (hdg : decode c.code g.pc = .ok (.invokestatic index, 3))
    (hpre : ∀ vm₁, s.WarmedH vm₁ → Pre ⟨T.setVm vm₁, locs, cells, slots⟩ argsL.toArray) :
    (∃ (v : Option Value) (vm₁ : Vm) (B : Pt), s.WarmedH vm₁ ∧ Stand p l e R s m args below meth c B.U B.locs B.cells B.slots ∧ Post ⟨T.setVm vm₁, locs, cells, slots⟩ argsL.toArray v B ∧
      ∀ target, Steps p.tables e below (B.U.setTop { g with pc := g.pc + 3, stack := v.toList ++ rest }) target → Steps p.tables e below (T.setTop g) target) ∨
    (∃ (q : Addr) (vm₁ : Vm) (B : Pt), s.WarmedH vm₁ ∧ Stand p l e R s m args below meth c B.U B.locs B.cells B.slots ∧ PostX ⟨T.setVm vm₁, locs, cells, slots⟩ argsL.toArray q B ∧
      Steps p.tables e below (T.setTop g) ((B.U.setTop { g with stack := rest }).pushFrame (.throwing q))) := by
  obtain ⟨mk, hnamed⟩ := Cond.code_named hcode
  obtain ⟨methM, cM, hmethM, -, -, -, -, -, -, hsigM⟩ := Cond.code_spec hnamed hcode
  have hstatic : methM.isStatic = true := Cond.static_spec hnamed hmethM hstat
  obtain ⟨kP, hkP, -⟩ := className_of_methodNamed hnamed
  have hinitP : kP.init = .initialized := Cond.initialized_spec (findClass_of_methodNamed hnamed) hkP hinit
  obtain ⟨vm₁, X₁, hstep₁⟩ := X.invokestatic hexec hown hlink hnamed hmethM hstatic hkP hinitP hy (g := g) hg (argsL := argsL) (rest := rest) (hlen _ hsigM) hstack hdg
  rcases hK m meth c ⟨T.setVm vm₁, locs, cells, slots⟩ { g with stack := rest } (.invokestatic index) mk argsL.toArray X₁ hg hsize hdg hW (X₁.named hnamed) (hpre vm₁ X₁.warmed) with ⟨v, B, X', hpost, hsteps⟩ | ⟨q, B, X', hpost, hsteps⟩
  · exact Or.inl ⟨v, vm₁, B, X₁.warmed, X', hpost, fun target h => hstep₁ _ fun acts => by rw [doInvoke_state]; exact hsteps.trans h⟩
  · exact Or.inr ⟨q, vm₁, B, X₁.warmed, X', hpost, hstep₁ _ fun acts => by rw [doInvoke_state]; exact hsteps⟩
end Calls
theorem vx_cls {s : State} {T : State} {vm₁ : Vm} {E : String} {k : ClassId} (hW : s.WarmedH vm₁) (h : (T.setVm vm₁).vm.findClass E = some k) : s.vm.findClass E = some k := by
  have h1 : vm₁.findClass E = some k := h
  rw [hW.alike.findClass] at h1
  exact h1
/-- the method's frame g, with q thrown over it -/
def vx_W (p : Program) (l : Launch) (e : Env) (R : Room) (s : State) (m : MethodId) (args : Array Value) (below : List Frame) (meth : Method) (c : Code) (H : Heap) (locs : List Loc) (cells slots : Nat) (Q : State → Prop) (g : JFrame) (q : Addr) : Prop :=
  ∀ T : State, T.heap = H → Stand p l e R s m args below meth c T locs cells slots → ∃ t, Steps p.tables e below ((T.setTop g).pushFrame (.throwing q)) t ∧ Q t
def vx_Run (p : Program) (l : Launch) (e : Env) (R : Room) (s : State) (m : MethodId) (args : Array Value) (below : List Frame) (meth : Method) (c : Code) (H : Heap) (locs : List Loc) (cells slots mc ms : Nat) (g : JFrame) (rest : List Value) (Qa : State → Outcome → State → Prop) (XC : String → State → State → Prop) (free : Addr → Prop) : Prop :=
  ∀ T : State, T.heap = H → Stand p l e R s m args below meth c T locs cells slots →
    (∃ (v : Option Value) (st₀ t T' : State) (L : List Loc), st₀.heap = H ∧ Stand p l e R s m args below meth c T' (locs ++ L) (cells + mc) (slots + ms) ∧ (∀ q ∈ L, free q.base) ∧ T'.heap = t.heap ∧ T'.vm = t.vm ∧ Qa st₀ (.returned v) t ∧
      Goes p e below T g T' { g with pc := g.pc + 3, stack := v.toList ++ rest }) ∨
    (∃ (q : Addr) (st₀ t T' : State) (L : List Loc) (E : String) (ce : Cell), st₀.heap = H ∧ Stand p l e R s m args below meth c T' (locs ++ L) (cells + mc) (slots + ms) ∧ (∀ z ∈ L, free z.base) ∧ T'.heap = t.heap ∧ T'.vm = t.vm ∧ XC E st₀ t ∧ t.heap[q]? = some ce ∧ ce.vm = .none ∧ s.vm.findClass E = some ce.cls ∧
      Steps p.tables e below (T.setTop g) ((T'.setTop { g with stack := rest }).pushFrame (.throwing q)))
def vx_X {S : Type} (px : S → Prop) (B : String → S → State → Prop) (A : Nat → Prop) : String → State → State → Prop := fun E st t => ∃ u : S, px u ∧ B E u t ∧ va_F A st t
section Runs
variable {p : Program} {l : Launch} {e : Env} {R : Room} {s : State} {m : MethodId} {args : Array Value} {below : List Frame} {meth : Method} {c : Code} {H : Heap} {locs : List Loc} {cells slots : Nat}
variable {y : MethodName} {bytes cc : ByteArray} {maxL nL mc ms n index : Nat} {ret : Option FieldType} {ws : List Cond} {rm : Room} {Pc : Array Value → State → Prop} {Qc : Array Value → State → Outcome → State → Prop} {XC : String → State → State → Prop} {free : Addr → Prop} {Ts : List Cond} {own C : String} {b : Addr} {As rest : List Value} {g : JFrame}
theorem vx_callBack (cb : CallB R s args own index y bytes maxL ret ws rm mc ms n) (hM : vx_Met l y ws rm Pc Qc XC mc ms free) (hbl : FrameBlind Pc) : vx_Back l R p e below s args y 3 8 (PreOf R mc ms Pc) (PostOf Qc mc ms free) (vx_Post XC mc ms free) := by
  obtain ⟨hrc, hrs, hfr, hlo, hws, hcw, -, hini, -⟩ := cb
  exact vx_back (bytes := bytes) (maxL := maxL) (ret := ret) hM hbl hrc hrs hfr hlo hws hcw (fun a' U hW => word_at hW (Or.inl (by first | rfl | simp [Cond.onTables, Cond.keeps, Cond.steady])) hini)
theorem vx_runV (S : CallFix p m c cc nL s args Ts own) (hM : vx_Met l y ws rm Pc Qc XC mc ms free) (cw : CallW R s args own C index y bytes maxL ret ws rm mc ms n) (hp : PreV s H C b Pc As)
    (hg : g.method = m) (hn : As.length = n) (hsize : g.locals.size = nL) (hstack : g.stack = As.reverse ++ .ref b :: rest) (hW : 2 * g.monitorRoom + (rest.map fun v => v.category).sum ≤ 8) (hdg : decode cc g.pc = .ok (.invokevirtual index, 3)) (hf : cells + mc ≤ R.cells ∧ slots + ms ≤ R.slots) :
    vx_Run p l e R s m args below meth c H locs cells slots mc ms g rest (Qc (Value.ref b :: As).toArray) XC free := by
  have hK : vx_Back l R p e below s args y 3 8 (PreOf R mc ms Pc) (PostOf Qc mc ms free) (vx_Post XC mc ms free) := vx_callBack cw.1 hM hp.1
  obtain ⟨⟨-, -, -, -, -, -, hcode, -, hy, hlen, hl⟩, hin, hse⟩ := cw
  obtain ⟨hx, hb, hml, ho, -⟩ := S
  obtain ⟨-, ⟨cellB, hcB, hoB, hclB⟩, hPc⟩ := hp
  intro T hT X
  rcases vx_callV X hx (C := C) (bytes := bytes) (maxL := maxL) (ret := ret) ho hl hin hse hcode hy hK (by rw [hT]; exact hcB) hoB hclB hg (hsize.trans hml.symm) (argsL := As) (rest := rest) (fun sig h => hn.trans (hlen sig h)) hstack hW (by rw [hb]; exact hdg)
    (fun vm₁ hW₁ => ⟨hf.1, hf.2, hPc (T.setVm vm₁) hT hW₁⟩) with ⟨v, vm₁, ⟨U', l2, c2, s2⟩, hW₁, X', ⟨g', mk, t, L, e1, e2, hq, h1, hL, h2, h3⟩, st⟩ | ⟨q, vm₁, ⟨U', l2, c2, s2⟩, hW₁, X', ⟨g', mk, t, L, E, ce, e1, e2, hq, hce, hcv, hcl, h1, hL, h2, h3⟩, st⟩
  · dsimp only [Pt.U, Pt.locs, Pt.cells, Pt.slots] at X' e1 e2 h1 h2 h3 st
    subst h1; subst h2; subst h3
    exact Or.inl ⟨v, (T.setVm vm₁).calling g' mk (Value.ref b :: As).toArray, t, U', L, hT, X', hL, e1, e2, hq, st⟩
  · dsimp only [Pt.U, Pt.locs, Pt.cells, Pt.slots] at X' e1 e2 h1 h2 h3 st hcl
    subst h1; subst h2; subst h3
    exact Or.inr ⟨q, (T.setVm vm₁).calling g' mk (Value.ref b :: As).toArray, t, U', L, E, ce, hT, X', hL, e1, e2, hq, hce, hcv, vx_cls hW₁ hcl, st⟩
theorem vx_runS (S : CallFix p m c cc nL s args Ts own) (hM : vx_Met l y ws rm Pc Qc XC mc ms free) (cw : CallB R s args own index y bytes maxL ret ws rm mc ms n ∧ (Cond.static y).before args s = true) (hp : PreS s H Pc As)
    (hg : g.method = m) (hn : As.length = n) (hsize : g.locals.size = nL) (hstack : g.stack = As.reverse ++ rest) (hW : 2 * g.monitorRoom + (rest.map fun v => v.category).sum ≤ 8) (hdg : decode cc g.pc = .ok (.invokestatic index, 3)) (hf : cells + mc ≤ R.cells ∧ slots + ms ≤ R.slots) :
    vx_Run p l e R s m args below meth c H locs cells slots mc ms g rest (Qc As.toArray) XC free := by
  have hK : vx_Back l R p e below s args y 3 8 (PreOf R mc ms Pc) (PostOf Qc mc ms free) (vx_Post XC mc ms free) := vx_callBack cw.1 hM hp.1
  obtain ⟨⟨-, -, -, -, -, -, hcode, hini, hy, hlen, hl⟩, hstt⟩ := cw
  obtain ⟨hx, hb, hml, ho, -⟩ := S
  intro T hT X
  rcases vx_callS X hx (bytes := bytes) (maxL := maxL) (ret := ret) ho hl hstt hini hcode hy hK hg (hsize.trans hml.symm) (argsL := As) (rest := rest) (fun sig h => hn.trans (hlen sig h)) hstack hW (by rw [hb]; exact hdg)
    (fun vm₁ hW₁ => ⟨hf.1, hf.2, hp.2 (T.setVm vm₁) hT hW₁⟩) with ⟨v, vm₁, ⟨U', l2, c2, s2⟩, hW₁, X', ⟨g', mk, t, L, e1, e2, hq, h1, hL, h2, h3⟩, st⟩ | ⟨q, vm₁, ⟨U', l2, c2, s2⟩, hW₁, X', ⟨g', mk, t, L, E, ce, e1, e2, hq, hce, hcv, hcl, h1, hL, h2, h3⟩, st⟩
  · dsimp only [Pt.U, Pt.locs, Pt.cells, Pt.slots] at X' e1 e2 h1 h2 h3 st
    subst h1; subst h2; subst h3
    exact Or.inl ⟨v, (T.setVm vm₁).calling g' mk As.toArray, t, U', L, hT, X', hL, e1, e2, hq, st⟩
  · dsimp only [Pt.U, Pt.locs, Pt.cells, Pt.slots] at X' e1 e2 h1 h2 h3 st hcl
    subst h1; subst h2; subst h3
    exact Or.inr ⟨q, (T.setVm vm₁).calling g' mk As.toArray, t, U', L, E, ce, hT, X', hL, e1, e2, hq, hce, hcv, vx_cls hW₁ hcl, st⟩
end Runs
section Rows
variable {p : Program} {l : Launch} {e : Env} {R : Room} {s : State} {m : MethodId} {args : Array Value} {below : List Frame} {meth : Method} {c : Code} {H : Heap} {locs : List Loc} {cells slots : Nat} {Q : State → Prop}
variable {mc ms : Nat} {free : Addr → Prop} {A0 A1 : Nat → Prop} {H0 : Heap} {a : Array Value} {pc : Nat} {ls : Array Slot} {st0 rest : List Value}
theorem vx_keep {st₀ t T' : State} {L : List Loc} (h0 : st₀.heap = H) (e1 : T'.heap = t.heap) (hS : va_S A0 H0 H locs) (hA : ∀ q, q < H.size → A1 q → A0 q) (hf : ∀ q, free q → A0 q) (hL : ∀ q ∈ L, free q.base) (hF : va_F A1 st₀ t) :
    H.size ≤ T'.heap.size ∧ (∀ q : Nat, q < H.size → ¬ A1 q → T'.heap[q]? = H[q]?) ∧ va_S A0 H0 T'.heap (locs ++ L) := by
  obtain ⟨hz, hk⟩ := hF
  rw [h0] at hz hk
  exact ⟨by rw [e1]; exact hz, fun q h1 h2 => by rw [e1]; exact hk q h1 h2,
    ⟨Nat.le_trans hS.1 (by rw [e1]; exact hz), fun q h1 h2 => by rw [e1, hk q (Nat.lt_of_lt_of_le h1 hS.1) (fun z => h2 (hA q (Nat.lt_of_lt_of_le h1 hS.1) z))]; exact hS.2.1 q h1 h2, fun q hq => by
      rcases List.mem_append.mp hq with h | h
      · exact hS.2.2 q h
      · exact hf _ (hL q h)⟩⟩
theorem vx_calli {S SX : Type} {post : Int32 → S → Prop} {px : SX → Prop} {B : S → State → Prop} {BX : String → SX → State → Prop} {AX : Nat → Prop} (hr : vx_Run p l e R s m args below meth c H locs cells slots mc ms (F0 m pc ls st0) rest (va_Qi post B A1 a) (vx_X px BX AX) free) (hS : va_S A0 H0 H locs) (hA : ∀ q, q < H.size → A1 q → A0 q) (hf : ∀ q, free q → A0 q) (hAX : ∀ q, q < H.size → AX q → A0 q)
    (kx : ∀ (E : String) (ce : Cell) (q9 : Addr) (u : SX) (t : State) (H1 : Heap) (locs1 : List Loc), t.heap = H1 → s.vm.Alike t.vm → px u → BX E u t → H.size ≤ H1.size → (∀ q : Nat, q < H.size → ¬ AX q → H1[q]? = H[q]?) → va_S A0 H0 H1 locs1 → H1[q9]? = some ce → ce.vm = .none → s.vm.findClass E = some ce.cls → vx_W p l e R s m args below meth c H1 locs1 (cells + mc) (slots + ms) Q (F0 m pc ls rest) q9)
    (kk : ∀ (r : Int32) (u : S) (t : State) (H1 : Heap) (locs1 : List Loc), t.heap = H1 → s.vm.Alike t.vm → post r u → B u t → H.size ≤ H1.size → (∀ q : Nat, q < H.size → ¬ A1 q → H1[q]? = H[q]?) → va_S A0 H0 H1 locs1 → W p l e R s m args below meth c H1 locs1 (cells + mc) (slots + ms) Q (F0 m (pc + 3) ls (.int r :: rest))) : W p l e R s m args below meth c H locs cells slots Q (F0 m pc ls st0) := by
  intro T hT X
  rcases hr T hT X with ⟨v, st₀, t, T', L, h0, X', hL, e1, e2, ⟨⟨r, u, hv, hp, hb⟩, hF⟩, st⟩ | ⟨q, st₀, t, T', L, E, ce, h0, X', hL, e1, e2, ⟨u, hp, hb, hF⟩, hce, hcv, hcl, st⟩
  · cases hv
    obtain ⟨k1, k2, k3⟩ := vx_keep h0 e1 hS hA hf hL hF
    obtain ⟨t2, a1, b1⟩ := kk r u t T'.heap (locs ++ L) e1.symm (by rw [← e2]; exact X'.warmed.alike) hp hb k1 k2 k3 T' rfl X'
    exact ⟨t2, st t2 a1, b1⟩
  · obtain ⟨k1, k2, k3⟩ := vx_keep h0 e1 hS hAX hf hL hF
    obtain ⟨t2, a1, b1⟩ := kx E ce q u t T'.heap (locs ++ L) e1.symm (by rw [← e2]; exact X'.warmed.alike) hp hb k1 k2 k3 (by rw [e1]; exact hce) hcv hcl T' rfl X'
    exact ⟨t2, st.trans a1, b1⟩
theorem vx_calll {S SX : Type} {post : Int64 → S → Prop} {px : SX → Prop} {B : S → State → Prop} {BX : String → SX → State → Prop} {AX : Nat → Prop} (hr : vx_Run p l e R s m args below meth c H locs cells slots mc ms (F0 m pc ls st0) rest (va_Ql post B A1 a) (vx_X px BX AX) free) (hS : va_S A0 H0 H locs) (hA : ∀ q, q < H.size → A1 q → A0 q) (hf : ∀ q, free q → A0 q) (hAX : ∀ q, q < H.size → AX q → A0 q)
    (kx : ∀ (E : String) (ce : Cell) (q9 : Addr) (u : SX) (t : State) (H1 : Heap) (locs1 : List Loc), t.heap = H1 → s.vm.Alike t.vm → px u → BX E u t → H.size ≤ H1.size → (∀ q : Nat, q < H.size → ¬ AX q → H1[q]? = H[q]?) → va_S A0 H0 H1 locs1 → H1[q9]? = some ce → ce.vm = .none → s.vm.findClass E = some ce.cls → vx_W p l e R s m args below meth c H1 locs1 (cells + mc) (slots + ms) Q (F0 m pc ls rest) q9)
    (kk : ∀ (r : Int64) (u : S) (t : State) (H1 : Heap) (locs1 : List Loc), t.heap = H1 → s.vm.Alike t.vm → post r u → B u t → H.size ≤ H1.size → (∀ q : Nat, q < H.size → ¬ A1 q → H1[q]? = H[q]?) → va_S A0 H0 H1 locs1 → W p l e R s m args below meth c H1 locs1 (cells + mc) (slots + ms) Q (F0 m (pc + 3) ls (.long r :: rest))) : W p l e R s m args below meth c H locs cells slots Q (F0 m pc ls st0) := by
  intro T hT X
  rcases hr T hT X with ⟨v, st₀, t, T', L, h0, X', hL, e1, e2, ⟨⟨r, u, hv, hp, hb⟩, hF⟩, st⟩ | ⟨q, st₀, t, T', L, E, ce, h0, X', hL, e1, e2, ⟨u, hp, hb, hF⟩, hce, hcv, hcl, st⟩
  · cases hv
    obtain ⟨k1, k2, k3⟩ := vx_keep h0 e1 hS hA hf hL hF
    obtain ⟨t2, a1, b1⟩ := kk r u t T'.heap (locs ++ L) e1.symm (by rw [← e2]; exact X'.warmed.alike) hp hb k1 k2 k3 T' rfl X'
    exact ⟨t2, st t2 a1, b1⟩
  · obtain ⟨k1, k2, k3⟩ := vx_keep h0 e1 hS hAX hf hL hF
    obtain ⟨t2, a1, b1⟩ := kx E ce q u t T'.heap (locs ++ L) e1.symm (by rw [← e2]; exact X'.warmed.alike) hp hb k1 k2 k3 (by rw [e1]; exact hce) hcv hcl T' rfl X'
    exact ⟨t2, st.trans a1, b1⟩
theorem vx_callf {S SX : Type} {post : UInt32 → S → Prop} {px : SX → Prop} {B : S → State → Prop} {BX : String → SX → State → Prop} {AX : Nat → Prop} (hr : vx_Run p l e R s m args below meth c H locs cells slots mc ms (F0 m pc ls st0) rest (va_Qf post B A1 a) (vx_X px BX AX) free) (hS : va_S A0 H0 H locs) (hA : ∀ q, q < H.size → A1 q → A0 q) (hf : ∀ q, free q → A0 q) (hAX : ∀ q, q < H.size → AX q → A0 q)
    (kx : ∀ (E : String) (ce : Cell) (q9 : Addr) (u : SX) (t : State) (H1 : Heap) (locs1 : List Loc), t.heap = H1 → s.vm.Alike t.vm → px u → BX E u t → H.size ≤ H1.size → (∀ q : Nat, q < H.size → ¬ AX q → H1[q]? = H[q]?) → va_S A0 H0 H1 locs1 → H1[q9]? = some ce → ce.vm = .none → s.vm.findClass E = some ce.cls → vx_W p l e R s m args below meth c H1 locs1 (cells + mc) (slots + ms) Q (F0 m pc ls rest) q9)
    (kk : ∀ (r : UInt32) (u : S) (t : State) (H1 : Heap) (locs1 : List Loc), t.heap = H1 → s.vm.Alike t.vm → post r u → B u t → H.size ≤ H1.size → (∀ q : Nat, q < H.size → ¬ A1 q → H1[q]? = H[q]?) → va_S A0 H0 H1 locs1 → W p l e R s m args below meth c H1 locs1 (cells + mc) (slots + ms) Q (F0 m (pc + 3) ls (.float r :: rest))) : W p l e R s m args below meth c H locs cells slots Q (F0 m pc ls st0) := by
  intro T hT X
  rcases hr T hT X with ⟨v, st₀, t, T', L, h0, X', hL, e1, e2, ⟨⟨r, u, hv, hp, hb⟩, hF⟩, st⟩ | ⟨q, st₀, t, T', L, E, ce, h0, X', hL, e1, e2, ⟨u, hp, hb, hF⟩, hce, hcv, hcl, st⟩
  · cases hv
    obtain ⟨k1, k2, k3⟩ := vx_keep h0 e1 hS hA hf hL hF
    obtain ⟨t2, a1, b1⟩ := kk r u t T'.heap (locs ++ L) e1.symm (by rw [← e2]; exact X'.warmed.alike) hp hb k1 k2 k3 T' rfl X'
    exact ⟨t2, st t2 a1, b1⟩
  · obtain ⟨k1, k2, k3⟩ := vx_keep h0 e1 hS hAX hf hL hF
    obtain ⟨t2, a1, b1⟩ := kx E ce q u t T'.heap (locs ++ L) e1.symm (by rw [← e2]; exact X'.warmed.alike) hp hb k1 k2 k3 (by rw [e1]; exact hce) hcv hcl T' rfl X'
    exact ⟨t2, st.trans a1, b1⟩
theorem vx_calld {S SX : Type} {post : UInt64 → S → Prop} {px : SX → Prop} {B : S → State → Prop} {BX : String → SX → State → Prop} {AX : Nat → Prop} (hr : vx_Run p l e R s m args below meth c H locs cells slots mc ms (F0 m pc ls st0) rest (va_Qd post B A1 a) (vx_X px BX AX) free) (hS : va_S A0 H0 H locs) (hA : ∀ q, q < H.size → A1 q → A0 q) (hf : ∀ q, free q → A0 q) (hAX : ∀ q, q < H.size → AX q → A0 q)
    (kx : ∀ (E : String) (ce : Cell) (q9 : Addr) (u : SX) (t : State) (H1 : Heap) (locs1 : List Loc), t.heap = H1 → s.vm.Alike t.vm → px u → BX E u t → H.size ≤ H1.size → (∀ q : Nat, q < H.size → ¬ AX q → H1[q]? = H[q]?) → va_S A0 H0 H1 locs1 → H1[q9]? = some ce → ce.vm = .none → s.vm.findClass E = some ce.cls → vx_W p l e R s m args below meth c H1 locs1 (cells + mc) (slots + ms) Q (F0 m pc ls rest) q9)
    (kk : ∀ (r : UInt64) (u : S) (t : State) (H1 : Heap) (locs1 : List Loc), t.heap = H1 → s.vm.Alike t.vm → post r u → B u t → H.size ≤ H1.size → (∀ q : Nat, q < H.size → ¬ A1 q → H1[q]? = H[q]?) → va_S A0 H0 H1 locs1 → W p l e R s m args below meth c H1 locs1 (cells + mc) (slots + ms) Q (F0 m (pc + 3) ls (.double r :: rest))) : W p l e R s m args below meth c H locs cells slots Q (F0 m pc ls st0) := by
  intro T hT X
  rcases hr T hT X with ⟨v, st₀, t, T', L, h0, X', hL, e1, e2, ⟨⟨r, u, hv, hp, hb⟩, hF⟩, st⟩ | ⟨q, st₀, t, T', L, E, ce, h0, X', hL, e1, e2, ⟨u, hp, hb, hF⟩, hce, hcv, hcl, st⟩
  · cases hv
    obtain ⟨k1, k2, k3⟩ := vx_keep h0 e1 hS hA hf hL hF
    obtain ⟨t2, a1, b1⟩ := kk r u t T'.heap (locs ++ L) e1.symm (by rw [← e2]; exact X'.warmed.alike) hp hb k1 k2 k3 T' rfl X'
    exact ⟨t2, st t2 a1, b1⟩
  · obtain ⟨k1, k2, k3⟩ := vx_keep h0 e1 hS hAX hf hL hF
    obtain ⟨t2, a1, b1⟩ := kx E ce q u t T'.heap (locs ++ L) e1.symm (by rw [← e2]; exact X'.warmed.alike) hp hb k1 k2 k3 (by rw [e1]; exact hce) hcv hcl T' rfl X'
    exact ⟨t2, st.trans a1, b1⟩
theorem vx_callv {S SX : Type} {post : S → Prop} {px : SX → Prop} {B : S → State → Prop} {BX : String → SX → State → Prop} {AX : Nat → Prop} (hr : vx_Run p l e R s m args below meth c H locs cells slots mc ms (F0 m pc ls st0) rest (va_Qv post B A1 a) (vx_X px BX AX) free) (hS : va_S A0 H0 H locs) (hA : ∀ q, q < H.size → A1 q → A0 q) (hf : ∀ q, free q → A0 q) (hAX : ∀ q, q < H.size → AX q → A0 q)
    (kx : ∀ (E : String) (ce : Cell) (q9 : Addr) (u : SX) (t : State) (H1 : Heap) (locs1 : List Loc), t.heap = H1 → s.vm.Alike t.vm → px u → BX E u t → H.size ≤ H1.size → (∀ q : Nat, q < H.size → ¬ AX q → H1[q]? = H[q]?) → va_S A0 H0 H1 locs1 → H1[q9]? = some ce → ce.vm = .none → s.vm.findClass E = some ce.cls → vx_W p l e R s m args below meth c H1 locs1 (cells + mc) (slots + ms) Q (F0 m pc ls rest) q9)
    (kk : ∀ (u : S) (t : State) (H1 : Heap) (locs1 : List Loc), t.heap = H1 → s.vm.Alike t.vm → post u → B u t → H.size ≤ H1.size → (∀ q : Nat, q < H.size → ¬ A1 q → H1[q]? = H[q]?) → va_S A0 H0 H1 locs1 → W p l e R s m args below meth c H1 locs1 (cells + mc) (slots + ms) Q (F0 m (pc + 3) ls (rest))) : W p l e R s m args below meth c H locs cells slots Q (F0 m pc ls st0) := by
  intro T hT X
  rcases hr T hT X with ⟨v, st₀, t, T', L, h0, X', hL, e1, e2, ⟨⟨u, hv, hp, hb⟩, hF⟩, st⟩ | ⟨q, st₀, t, T', L, E, ce, h0, X', hL, e1, e2, ⟨u, hp, hb, hF⟩, hce, hcv, hcl, st⟩
  · cases hv
    obtain ⟨k1, k2, k3⟩ := vx_keep h0 e1 hS hA hf hL hF
    obtain ⟨t2, a1, b1⟩ := kk u t T'.heap (locs ++ L) e1.symm (by rw [← e2]; exact X'.warmed.alike) hp hb k1 k2 k3 T' rfl X'
    exact ⟨t2, st t2 a1, b1⟩
  · obtain ⟨k1, k2, k3⟩ := vx_keep h0 e1 hS hAX hf hL hF
    obtain ⟨t2, a1, b1⟩ := kx E ce q u t T'.heap (locs ++ L) e1.symm (by rw [← e2]; exact X'.warmed.alike) hp hb k1 k2 k3 (by rw [e1]; exact hce) hcv hcl T' rfl X'
    exact ⟨t2, st.trans a1, b1⟩
/-- caught by the row x of this method's table; the rows ahead don't take it -/
theorem vx_catch {own name : String} {E : String} {ce : Cell} {q : Addr} (hown : s.vm.findClass own = some m.cls) (pre : List ExceptionTableEntry) (x : ExceptionTableEntry) (suf : List ExceptionTableEntry) (hsplit : c.exceptionTable.toList = pre ++ x :: suf)
    (hpass : ∀ z ∈ pre, covers z pc = false ∨ (z.catchType ≠ 0 ∧ ∃ nm : String, (Cond.classLink own z.catchType nm).before args s = true ∧ va_Nc E nm s)) (hx : covers x pc = true) (h0 : x.catchType ≠ 0)
    (hlink : (Cond.classLink own x.catchType name).before args s = true) (hcast : (Cond.castable E name).before args s = true) (hcell : H[q]? = some ce) (hv : ce.vm = .none) (hcl : s.vm.findClass E = some ce.cls)
    (kk : W p l e R s m args below meth c H locs cells slots Q (F0 m x.handlerPc ls [.ref q])) : vx_W p l e R s m args below meth c H locs cells slots Q (F0 m pc ls rest) q := by
  intro T hT X
  have hpl : e.platform.magicAccessors = ({} : Platform).magicAccessors := by rw [X.admits.platform]
  obtain ⟨c3, c4, hc3, hc4, hasg⟩ := Cond.castable_spec hcast
  cases Option.some.inj (hc3.symm.trans hcl)
  obtain ⟨c5, hc5, hcl5⟩ := Cond.classLink_spec hown hlink e.platform hpl
  cases Option.some.inj (hc4.symm.trans hc5)
  obtain ⟨vm', X', st⟩ := X.thenCaughtThrough q (g := F0 m pc ls rest) rfl (Steps.refl _) (by rw [hT]; exact hcell) (by rw [hv]; rfl) (by obtain ⟨k9, h9, -⟩ := Vm.findClass_spec hcl; exact ⟨k9, h9⟩) pre x suf hsplit
    (fun z hz => by
      rcases hpass z hz with h | ⟨hz0, nm, hl1, hn1⟩
      · exact Or.inl h
      · obtain ⟨c6, hc6, hcl6⟩ := Cond.classLink_spec hown hl1 e.platform hpl
        obtain ⟨a8, b8, h1, h2, h3⟩ := hn1
        cases Option.some.inj (h1.symm.trans hcl)
        cases Option.some.inj (h2.symm.trans hc6)
        exact Or.inr ⟨hz0, _, hcl6, h3⟩) hx (Or.inr ⟨h0, c4, hcl5, hasg⟩)
  obtain ⟨t, a1, b1⟩ := kk (T.setVm vm') hT X'
  exact ⟨t, st.trans a1, b1⟩
end Rows
section Ends
variable {p : Program} {l : Launch} {e : Env} {R : Room} {s : State} {m : MethodId} {args : Array Value} {below : List Frame} {meth : Method} {c : Code} {H : Heap} {locs : List Loc} {cells slots : Nat} {Q : State → Prop}
variable {mc ms : Nat} {free : Addr → Prop} {A0 A1 : Nat → Prop} {H0 : Heap} {a : Array Value} {ls : Array Slot} {st0 rest : List Value}
variable {Qc : Array Value → State → Outcome → State → Prop} {XC : String → State → State → Prop}
/-- what a body that may throw owes at its end -/
def vx_MQ (below : List Frame) (Qc : Array Value → State → Outcome → State → Prop) (XC : String → State → State → Prop) (a : Array Value) (s : State) (mc ms : Nat) (free : Addr → Prop) : State → Prop := fun t =>
  ∃ o, t.status = .running ∧ Ended t below o ∧ vx_Q Qc XC mc ms free a s o t
theorem vx_ret {g : JFrame} {mc ms : Nat} (k : W p l e R s m args below meth c H locs cells slots (MQ below Qc args s mc ms free) g) : W p l e R s m args below meth c H locs cells slots (vx_MQ below Qc XC args s mc ms free) g := by
  intro T hT X
  obtain ⟨t, a1, o, b1, b2, b3, b4⟩ := k T hT X
  exact ⟨t, a1, o, b1, b2, Or.inl ⟨b3, b4⟩⟩
/-- not caught here: it goes on to the caller -/
theorem vx_widen {g : JFrame} {q : Addr} {k n : Nat} (h1 : cells ≤ k) (h2 : slots ≤ n) (kk : vx_W p l e R s m args below meth c H locs k n Q g q) : vx_W p l e R s m args below meth c H locs cells slots Q g q := fun T hT X => kk T hT (stand_widen X h1 h2)
theorem vx_out {pc : Nat} {E : String} {ce : Cell} {q : Addr} {mc ms : Nat} (hout : ∀ x ∈ c.exceptionTable.toList, covers x pc = false) (hlocks : meth.locks = false) (hcell : H[q]? = some ce) (hv : ce.vm = .none) (hcl : s.vm.findClass E = some ce.cls)
    (hx : ∀ t : State, t.heap = H → s.vm.Alike t.vm → XC E s t) (hf : ∀ z ∈ locs, free z.base) (hc : cells ≤ mc) (hs : slots ≤ ms) :
    vx_W p l e R s m args below meth c H locs cells slots (vx_MQ below Qc XC args s mc ms free) (F0 m pc ls rest) q := by
  intro T hT X
  obtain ⟨st1, hrun, hend, hW, hsm⟩ := X.leaveThrown q (g := F0 m pc ls rest) rfl rfl rfl hout hlocks
  have hcell9 : (T.setFrames (.throwing q :: below)).heap[q]? = some ce := by
    show T.heap[q]? = some ce
    rw [hT]; exact hcell
  exact ⟨_, st1, .threw q, hrun, hend, Or.inr ⟨q, rfl, E, ce, locs, hx _ hT hW.alike, hcell9, hv, hcl, hW, hsm.mono hc hs, hf⟩⟩
theorem vx_frame {U : State} {k n : Nat} (h : s.sameButNew ({ U with vm := s.vm } : State) locs k n) : s.heap.size ≤ U.heap.size ∧ ∀ q : Nat, q < s.heap.size → (∀ z ∈ locs, z.base ≠ q) → U.heap[q]? = s.heap[q]? := by
  obtain ⟨-, h2, -, -, -, h6⟩ := h
  refine ⟨h2, fun q hq hz => ?_⟩
  obtain ⟨c9, e1, e2, e3, e4⟩ := h6 q _ (Array.getElem?_eq_getElem hq)
  have hs : c9.slots = (s.heap[q]).slots := Array.ext_getElem? fun i => e4 i fun hm => hz _ hm rfl
  have h9 : c9 = s.heap[q] := by
    rw [hs] at e2
    exact e2
  have e5 : U.heap[q]? = some c9 := e1
  rw [e5, h9, Array.getElem?_eq_getElem hq]
/-- the words of a throw but the four that speak of the heap -/
def vx_no (w : Cond) : Bool := decide (w ≠ .isRef (.static Bundle.tN "UNASSIGNED_STACK" Bundle.steD)) && decide (w ≠ .isRef (.static Bundle.tN "SUPPRESSED_SENTINEL" Bundle.listD)) && decide (w ≠ .laysStatic Bundle.tN "UNASSIGNED_STACK" Bundle.steD) && decide (w ≠ .laysStatic Bundle.tN "SUPPRESSED_SENTINEL" Bundle.listD)
def vx_at0 (own : String) (ic : Nat) (X : String) (names : List String) : List Cond := (Bundle.ownAtoms0 own ic X names).filter vx_no
def vx_atS (own : String) (ic : Nat) (X : String) (names : List String) : List Cond := (Bundle.ownAtoms own ic X names).filter vx_no
/-- a word that the tables alone decide, or a good one -/
def vx_ot (w : Cond) : Bool := w.onTables || goodWord w
theorem vx_ot_at {args a' : Array Value} {s U : State} {w : Cond} (hW : s.WarmedH U.vm) (hvm : s.vm = U.vm) (hg : vx_ot w = true) (h : w.before args s = true) : w.before a' U = true := by
  simp only [vx_ot, Bool.or_eq_true] at hg
  rcases hg with hg | hg
  · exact va_tabs hg hvm h
  · exact word_at hW (good_of_word hg) h
/-- a list's words: the good ones out of the method's own list, the others by premises of their own -/
theorem vx_hat {args : Array Value} {s : State} {L B : List Cond} (h1 : ∀ w ∈ L.filter goodWord, w.before args s = true) (h2 : ∀ w ∈ L.filter (fun w => !goodWord w), w ∈ B) (h3 : ∀ w ∈ B, w.before args s = true) : ∀ w ∈ L, w.before args s = true := by
  intro w hw
  by_cases g : goodWord w = true
  · exact h1 w (List.mem_filter.mpr ⟨hw, g⟩)
  · refine h3 w (h2 w (List.mem_filter.mpr ⟨hw, ?_⟩))
    show (!goodWord w) = true
    cases hgw : goodWord w
    · rfl
    · exact absurd hgw g
theorem vx_c {args : Array Value} {s : State} {w : Cond} {B : List Cond} (h : w.before args s = true) (t : ∀ w ∈ B, w.before args s = true) : ∀ w' ∈ w :: B, w'.before args s = true := fun w' h' => (List.mem_cons.mp h').elim (fun e => by rw [e]; exact h) (t w')
theorem vx_n {args : Array Value} {s : State} : ∀ w ∈ ([] : List Cond), w.before args s = true := fun _ h => nomatch h
theorem vx_own {args : Array Value} {s : State} {L : List Cond} (h1 : ∀ w ∈ L.filter vx_no, w.before args s = true)
    (hU : (Cond.isRef (.static Bundle.tN "UNASSIGNED_STACK" Bundle.steD)).before args s = true) (hN : (Cond.isRef (.static Bundle.tN "SUPPRESSED_SENTINEL" Bundle.listD)).before args s = true)
    (lU : (Cond.laysStatic Bundle.tN "UNASSIGNED_STACK" Bundle.steD).before args s = true) (lN : (Cond.laysStatic Bundle.tN "SUPPRESSED_SENTINEL" Bundle.listD).before args s = true) : ∀ w ∈ L, w.before args s = true := by
  intro w hw
  by_cases e1 : w = .isRef (.static Bundle.tN "UNASSIGNED_STACK" Bundle.steD)
  · rw [e1]; exact hU
  · by_cases e2 : w = .isRef (.static Bundle.tN "SUPPRESSED_SENTINEL" Bundle.listD)
    · rw [e2]; exact hN
    · by_cases e3 : w = .laysStatic Bundle.tN "UNASSIGNED_STACK" Bundle.steD
      · rw [e3]; exact lU
      · by_cases e4 : w = .laysStatic Bundle.tN "SUPPRESSED_SENTINEL" Bundle.listD
        · rw [e4]; exact lN
        · exact h1 w (List.mem_filter.mpr ⟨hw, by unfold vx_no; rw [decide_eq_true e1, decide_eq_true e2, decide_eq_true e3, decide_eq_true e4]; rfl⟩)
/-- where a static field lies, its class's statics cell in H -/
def vx_L (C n d : String) (A : Nat → Prop) (U : State) (H : Heap) : Prop := ∃ (c : ClassId) (k : Class) (i : Nat) (f : Field) (a : Nat) (cell : Cell), U.vm.findClass C = some c ∧ U.fieldFound? C n d = some (c, k, i, f) ∧ f.isStatic = true ∧ k.statics = some a ∧ H[a]? = some cell ∧ cell.vm.isStatics = true ∧ cell.cls = c ∧ f.slot < cell.slots.size ∧ k.staticTypes[f.slot]? = some f.type ∧ ¬ A a
theorem vx_L.moved {C n d : String} {A : Nat → Prop} {u U : State} {H : Heap} (hvm : u.vm.Alike U.vm) (h : vx_L C n d A u H) : vx_L C n d A U H := by
  obtain ⟨c, k, i, f, a, cell, h1, h2, h3, h4, h5, h6, h7, h8, h9, h10⟩ := h
  obtain ⟨k', hi', he⟩ := State.fieldFound?_setVm hvm h2
  exact ⟨c, k', i, f, a, cell, by rw [hvm.findClass]; exact h1, hi', h3, by rw [he]; exact h4, h5, h6, h7, h8, by rw [he]; exact h9, h10⟩
theorem vx_L.kept {C n d : String} {A : Nat → Prop} {U : State} {H H1 : Heap} (h : vx_L C n d A U H) (hq : ∀ a : Nat, a < H.size → ¬ A a → H1[a]? = H[a]?) : vx_L C n d A U H1 := by
  obtain ⟨c, k, i, f, a, cell, h1, h2, h3, h4, h5, h6, h7, h8, h9, h10⟩ := h
  exact ⟨c, k, i, f, a, cell, h1, h2, h3, h4, by rw [hq a (Array.getElem?_eq_some_iff.mp h5).1 h10]; exact h5, h6, h7, h8, h9, h10⟩
theorem vx_L.narrow {C n d : String} {A B : Nat → Prop} {U : State} {H : Heap} (h : vx_L C n d A U H) (hAB : ∀ q, B q → A q) : vx_L C n d B U H := by
  obtain ⟨c, k, i, f, a, cell, h1, h2, h3, h4, h5, h6, h7, h8, h9, h10⟩ := h
  exact ⟨c, k, i, f, a, cell, h1, h2, h3, h4, h5, h6, h7, h8, h9, fun z => h10 (hAB _ z)⟩
theorem vx_L.word {C n d : String} {A : Nat → Prop} {s : State} {args : Array Value} (h : vx_L C n d A s s.heap) : (Cond.laysStatic C n d).before args s = true := by
  obtain ⟨c, k, i, f, a, cell, h1, h2, h3, h4, h5, h6, h7, h8, h9, -⟩ := h
  show (Cond.laysStatic C n d).holds args s none s [] = true
  exact Cond.laysStatic_of h1 h2 h3 h4 h5 h6 h7 h8 h9
/-- .. and what it holds: null or some reference -/
def vx_Zq (C n d : String) (A : Nat → Prop) (U : State) (H : Heap) : Prop := va_Zq C n d A U H ∧ vx_L C n d A U H
theorem vx_Zq.moved {C n d : String} {A : Nat → Prop} {u U : State} {H : Heap} (hvm : u.vm.Alike U.vm) (h : vx_Zq C n d A u H) : vx_Zq C n d A U H := ⟨va_Zq.moved hvm h.1, vx_L.moved hvm h.2⟩
theorem vx_Zq.kept {C n d : String} {A : Nat → Prop} {U : State} {H H1 : Heap} (h : vx_Zq C n d A U H) (hq : ∀ a : Nat, a < H.size → ¬ A a → H1[a]? = H[a]?) : vx_Zq C n d A U H1 := ⟨va_Zq.kept h.1 hq, vx_L.kept h.2 hq⟩
theorem vx_Zq.narrow {C n d : String} {A B : Nat → Prop} {U : State} {H : Heap} (h : vx_Zq C n d A U H) (hAB : ∀ q, B q → A q) : vx_Zq C n d B U H := ⟨va_Zq.narrow h.1 hAB, vx_L.narrow h.2 hAB⟩
theorem vx_Zqof {args : Array Value} {s : State} {C n d : String} {A : Nat → Prop} (hl : (Cond.laysStatic C n d).before args s = true) (hini : (Cond.initialized C).before args s = true) (h : (Cond.isRef (.static C n d)).before args s = true) (hA : ∀ a : Nat, a < s.heap.size → ¬ A a) : vx_Zq C n d A s s.heap := by
  refine ⟨va_Zqof hl hini h hA, ?_⟩
  obtain ⟨c, k, i, f, a, cell, h1, h2, h3, h4, h5, h6, h7, h8, h9⟩ := Cond.laysStatic_spec hl
  exact ⟨c, k, i, f, a, cell, h1, h2, h3, h4, h5, h6, h7, h8, h9, hA a (Array.getElem?_eq_some_iff.mp h5).1⟩
theorem vx_isRef {C n d : String} {v : Value} {A : Nat → Prop} {s : State} {args : Array Value} (h : va_Z C n d v A s s.heap) (hv : v.isRef = true) : (Cond.isRef (.static C n d)).before args s = true := by
  obtain ⟨cf, kf, fi, f, a, cell, h1, h2, h3, h4, h5, h6, h7, -⟩ := h
  have he : (Term.static C n d).eval args s none [] s = some v := by
    simp [Term.eval, State.fieldNamed?, h1, h2, h4, h5, h6, h7]
  simp only [Cond.before, Cond.holds, Cond.value, he]
  cases v <;> simp_all [Value.isRef]
theorem vx_isRefq {C n d : String} {A : Nat → Prop} {s : State} {args : Array Value} (h : va_Zq C n d A s s.heap) : (Cond.isRef (.static C n d)).before args s = true := by
  rcases h with h | ⟨t, h⟩
  · exact vx_isRef h rfl
  · exact vx_isRef h rfl
/-- the same frame, seen from here: as if the method were called anew in this heap -/
theorem vx_rebase {T : State} (X : Stand p l e R s m args below meth c T locs cells slots) {R' : Room} (hf : R'.frames ≤ R.frames) (hl : R'.locals ≤ R.locals) (hc : cells + R'.cells ≤ R.cells) (hs : slots + R'.slots ≤ R.slots) :
    Stand p l e R' ((T.setVm s.vm).setFrames (.invoking m args :: below)) m args below meth c T [] 0 0 := by
  have htop : (T.setVm s.vm).topJava?.isSome := X.here.top
  have hF : ((T.setVm s.vm).setFrames (.invoking m args :: below)).frames = .invoking m args :: below := State.frames_setFrames _ (State.cur_lt_of_top htop)
  obtain ⟨g₀, hg0⟩ := Option.isSome_iff_exists.mp htop
  obtain ⟨r, hr⟩ := State.topJava?_eq_some.mp hg0
  have hl9 : e.platform.stackLimits (T.setVm s.vm).me = e.platform.stackLimits s.me := X.limits
  have hb9 : (T.setVm s.vm).me.stackBytes = s.me.stackBytes := X.bytes
  refine ⟨X.admits, X.cas, X.clock, hF, ?_, X.hears, X.method, X.code, X.here, X.tail, X.warmed, ?_, ?_, ?_⟩
  · have h := X.room
    have hU : ((T.setVm s.vm).setFrames (.invoking m args :: below)).localsInUse = s.localsInUse := by
      rw [State.localsInUse_invoking hF (meth := meth) (c := c) X.method X.code, State.localsInUse_invoking X.frames X.method X.code]
    simp only [State.hasRoom, Bool.and_eq_true, decide_eq_true_eq] at h ⊢
    obtain ⟨⟨⟨⟨h1, h2, h3, h4, h5, h6⟩, h7⟩, h8⟩, h9⟩ := h
    rw [X.frames, List.length_cons] at h2 h3
    have q1 := X.heapSize
    have q2 := X.used
    simp only [hF, hU, List.length_cons, State.stackLimits_setFrames, State.stackBytes_setFrames, hl9, hb9]
    refine ⟨⟨⟨⟨by omega, by omega, by omega, by omega, by omega, h6⟩, ?_⟩, ?_⟩, X.book⟩
    · show T.heap.size + R'.cells ≤ e.platform.maxCells
      omega
    · show T.slotsUsed + R'.slots ≤ e.platform.maxSlots
      omega
  · rw [State.stackLimits_setFrames]; rfl
  · rw [State.stackBytes_setFrames]; rfl
  · refine ⟨?_, Nat.le_refl _, Nat.le_refl _, ?_, ?_, fun a c9 h9 => ⟨c9, h9, rfl, rfl, fun _ _ => rfl⟩⟩
    · obtain ⟨t, ht, -⟩ := State.frames_cons hr
      show T.setVm s.vm = { ((T.setVm s.vm).setFrames (.invoking m args :: below)).setFrames (T.setVm s.vm).frames with heap := T.heap, slotsUsed := T.slotsUsed }
      rw [State.setFrames_setFrames, State.setFrames_self ht]
      rfl
    · show T.slotsUsed = T.slotsUsed + ((T.heap.toList.drop T.heap.size).map (·.slots.size)).sum
      rw [List.drop_eq_nil_of_le (Nat.le_of_eq Array.length_toList)]
      rfl
    · show ((T.heap.toList.drop T.heap.size).map (·.slots.size)).sum ≤ 0
      rw [List.drop_eq_nil_of_le (Nat.le_of_eq Array.length_toList)]
      exact Nat.le_refl _
/-- 'throw new E()': new; dup; invokespecial; athrow -/
theorem vx_throw0 {cc : ByteArray} {pc : Nat} (hexec : p.tables.exec = Jvm.exec) (hb : c.code = cc) (hl : l.stackTraces = false) {own cls : String} {names : List String} {ik ic mc ms : Nat} {A : Nat → Prop}
    (hown : s.vm.findClass own = some m.cls) (hcls : Bundle.fit cls = true) (hnames : ∀ n ∈ names, Bundle.fit n = true)
    (hk : (Cond.classLink own ik cls).before args s = true) (hini : (Cond.initialized cls).before args s = true) (hat : ∀ w ∈ vx_at0 own ic cls names, w.before args s = true)
    (hgood : ∀ w ∈ Cond.classLink own ik cls :: Cond.initialized cls :: vx_at0 own ic cls names, vx_ot w = true)
    (hU : vx_Zq Bundle.tN "UNASSIGNED_STACK" Bundle.steD A s s.heap) (hN : vx_Zq Bundle.tN "SUPPRESSED_SENTINEL" Bundle.listD A s s.heap) (hS : va_S A s.heap H locs) (hsize : ls.size = c.maxLocals)
    (d0 : decode cc pc = .ok (.new ik, 3)) (d3 : decode cc (pc + 3) = .ok (.dup, 1)) (d4 : decode cc (pc + 4) = .ok (.invokespecial ic, 3)) (d7 : decode cc (pc + 7) = .ok (.athrow, 1))
    (hout : ∀ x ∈ c.exceptionTable.toList, covers x (pc + 7) = false)
    (hRframes : names.length + 3 < R.frames) (hRlocals : (rest.map fun v => v.category).sum + (13 * (names.length + 1) + 42) ≤ R.locals) (hRcells : cells + 1 ≤ R.cells) (hRslots : slots + 6 ≤ R.slots) (hlocks : meth.locks = false)
    (hx : ∀ t : State, s.vm.Alike t.vm → H.size ≤ t.heap.size → (∀ q : Nat, q < H.size → t.heap[q]? = H[q]?) → XC cls s t)
    (hf : ∀ z ∈ locs, free z.base) (hc : cells + 1 ≤ mc) (hs : slots + 6 ≤ ms) :
    W p l e R s m args below meth c H locs cells slots (vx_MQ below Qc XC args s mc ms free) (F0 m pc ls rest) := by
  intro T hT X
  have htr : e.platform.stackTraces = false := (show e.platform.stackTraces = l.stackTraces by rw [X.admits.platform]).trans hl
  have Y := vx_rebase X (R' := { frames := R.frames, locals := R.locals, cells := 1, slots := 6 }) (Nat.le_refl _) (Nat.le_refl _) hRcells hRslots
  obtain ⟨s', hA⟩ : ∃ z, z = (T.setVm s.vm).setFrames (.invoking m args :: below) := ⟨_, rfl⟩
  rw [← hA] at Y
  have hvm : s'.vm = s.vm := by rw [hA]; rfl
  have hhp : s'.heap = H := by rw [hA]; exact hT
  have hW0 : s.WarmedH s'.vm := by rw [hvm]; exact State.WarmedH.refl s
  have hat' : ∀ w ∈ vx_at0 own ic cls names, w.before args s' = true := fun w hw => vx_ot_at hW0 hvm.symm (hgood w (List.mem_cons_of_mem _ (List.mem_cons_of_mem _ hw))) (hat w hw)
  have hk' : (Cond.classLink own ik cls).before args s' = true := vx_ot_at hW0 hvm.symm (hgood _ List.mem_cons_self) hk
  have hini' : (Cond.initialized cls).before args s' = true := vx_ot_at hW0 hvm.symm (hgood _ (List.mem_cons_of_mem _ List.mem_cons_self)) hini
  have hU' : vx_Zq Bundle.tN "UNASSIGNED_STACK" Bundle.steD A s' s'.heap := by rw [hhp]; exact vx_Zq.moved hW0.alike (hU.kept hS.2.1)
  have hN' : vx_Zq Bundle.tN "SUPPRESSED_SENTINEL" Bundle.listD A s' s'.heap := by rw [hhp]; exact vx_Zq.moved hW0.alike (hN.kept hS.2.1)
  have h : ∀ w ∈ Bundle.ownAtoms0 own ic cls names, w.before args s' = true := vx_own hat' (vx_isRefq hU'.1) (vx_isRefq hN'.1) hU'.2.word hN'.2.word
  have hown' : s'.vm.findClass own = some m.cls := by rw [hvm]; exact hown
  have hins : (Cond.instantiable cls 6).before args s' = true := h _ (by simp [Bundle.ownAtoms0])
  obtain ⟨vm₁, cX, kX, hfX, hkX, -, -, X₁, st1⟩ := Y.newCold hexec (own := own) (C := cls) (index := ik) (n := 6) hown' hk' hins hini'
    (g := F0 m pc ls rest) rfl (by rw [hb]; exact d0) (Nat.le_refl _) (Nat.le_refl _)
  generalize hT1 : (T.setVm vm₁).pushCell { cls := cX, slots := kX.instanceTypes.map defaultValue, vm := .none } = T1 at X₁ st1
  have hcat : (Value.ref T.heap.size).category = 1 := rfl
  have hcellA : T1.heap[T.heap.size]? = some (freshCell cX kX) := by rw [← hT1]; exact State.heap_pushCell_size _ _
  have d3' : decode c.code (pc + 3) = .ok (.dup, 1) := by rw [hb]; exact d3
  obtain ⟨U, hsteps, hrun, hend, hW, hsame, ce, hce, hO⟩ := X₁.ctorThrow0 hexec htr (own := own) (cls := cls) (names := names) (ic := ic) hown' hcls hnames h (fun x hx => nomatch hx) hfX hkX hcellA (by rw [hhp, hT]; exact Nat.le_refl _)
    (g := { method := m, pc := pc + 4, locals := ls, stack := .ref T.heap.size :: .ref T.heap.size :: rest, locked := none }) rfl hsize rfl rfl (rest := rest) rfl
    (by rw [hb]; exact d4) (by rw [hb]; exact d7) hout hRframes (by simp only [List.map_cons, List.sum_cons, hcat]; omega) hlocks
  obtain ⟨f1, f2⟩ := vx_frame hsame
  rw [hhp] at f1 f2
  have hWs : s.WarmedH U.vm := State.WarmedH.trans hW0 hW
  have hcl : s.vm.findClass cls = some ce.cls := by
    have h9 := hO.cls
    rw [hvm] at h9
    exact h9
  have hall : s.sameButNew ({ U with vm := s.vm } : State) locs mc ms := by
    subst hA
    obtain ⟨e1, e2⟩ := hsame
    rw [State.setFrames_setFrames] at e1
    have h2 : (T.setVm s.vm).sameButNew ({ U with vm := s.vm } : State) [] (0 + 1) (0 + 6) := ⟨e1, e2⟩
    have h3 := X.same.trans h2
    rw [List.append_nil] at h3
    exact h3.mono hc hs
  refine ⟨U, ?_, .threw T.heap.size, hrun, hend, Or.inr ⟨T.heap.size, rfl, cls, ce, locs, hx U hWs.alike f1 (fun q hq => f2 q hq (fun z hz => nomatch hz)), hce, hO.vm, hcl, hWs, hall, hf⟩⟩
  refine st1 _ ?_
  show Steps p.tables e below (T1.setTop { method := m, pc := pc + 3, locals := ls, stack := .ref T.heap.size :: rest, locked := none }) _
  jvm_step X₁.here [X₁.here.top, hexec, d3', Value.category]
  exact hsteps
/-- 'throw new E("text")': new; dup; ldc; invokespecial; athrow -/
theorem vx_throwS {cc : ByteArray} {pc : Nat} (hexec : p.tables.exec = Jvm.exec) (hb : c.code = cc) (hl : l.stackTraces = false) {own cls text : String} {names : List String} {ik is ic mc ms sa : Nat} {A : Nat → Prop}
    (hown : s.vm.findClass own = some m.cls) (hcls : Bundle.fit cls = true) (hnames : ∀ n ∈ names, Bundle.fit n = true)
    (hk : (Cond.classLink own ik cls).before args s = true) (hini : (Cond.initialized cls).before args s = true) (hstr : vk_R own is text sa s) (hat : ∀ w ∈ vx_atS own ic cls names, w.before args s = true)
    (hgood : ∀ w ∈ Cond.classLink own ik cls :: Cond.initialized cls :: vx_atS own ic cls names, vx_ot w = true)
    (hU : vx_Zq Bundle.tN "UNASSIGNED_STACK" Bundle.steD A s s.heap) (hN : vx_Zq Bundle.tN "SUPPRESSED_SENTINEL" Bundle.listD A s s.heap) (hS : va_S A s.heap H locs) (hsize : ls.size = c.maxLocals)
    (d0 : decode cc pc = .ok (.new ik, 3)) (d3 : decode cc (pc + 3) = .ok (.dup, 1)) (d4 : decode cc (pc + 4) = .ok (.ldc is, 2)) (d6 : decode cc (pc + 6) = .ok (.invokespecial ic, 3)) (d9 : decode cc (pc + 9) = .ok (.athrow, 1))
    (hout : ∀ x ∈ c.exceptionTable.toList, covers x (pc + 9) = false)
    (hRframes : names.length + 3 < R.frames) (hRlocals : (rest.map fun v => v.category).sum + (13 * (names.length + 1) + 43) ≤ R.locals) (hRcells : cells + 1 ≤ R.cells) (hRslots : slots + 6 ≤ R.slots) (hlocks : meth.locks = false)
    (hx : ∀ t : State, s.vm.Alike t.vm → H.size ≤ t.heap.size → (∀ q : Nat, q < H.size → t.heap[q]? = H[q]?) → XC cls s t)
    (hf : ∀ z ∈ locs, free z.base) (hc : cells + 1 ≤ mc) (hs : slots + 6 ≤ ms) :
    W p l e R s m args below meth c H locs cells slots (vx_MQ below Qc XC args s mc ms free) (F0 m pc ls rest) := by
  intro T hT X
  have htr : e.platform.stackTraces = false := (show e.platform.stackTraces = l.stackTraces by rw [X.admits.platform]).trans hl
  have Y := vx_rebase X (R' := { frames := R.frames, locals := R.locals, cells := 1, slots := 6 }) (Nat.le_refl _) (Nat.le_refl _) hRcells hRslots
  obtain ⟨s', hA⟩ : ∃ z, z = (T.setVm s.vm).setFrames (.invoking m args :: below) := ⟨_, rfl⟩
  rw [← hA] at Y
  have hvm : s'.vm = s.vm := by rw [hA]; rfl
  have hhp : s'.heap = H := by rw [hA]; exact hT
  have hW0 : s.WarmedH s'.vm := by rw [hvm]; exact State.WarmedH.refl s
  have hat' : ∀ w ∈ vx_atS own ic cls names, w.before args s' = true := fun w hw => vx_ot_at hW0 hvm.symm (hgood w (List.mem_cons_of_mem _ (List.mem_cons_of_mem _ hw))) (hat w hw)
  have hk' : (Cond.classLink own ik cls).before args s' = true := vx_ot_at hW0 hvm.symm (hgood _ List.mem_cons_self) hk
  have hini' : (Cond.initialized cls).before args s' = true := vx_ot_at hW0 hvm.symm (hgood _ (List.mem_cons_of_mem _ List.mem_cons_self)) hini
  have hU' : vx_Zq Bundle.tN "UNASSIGNED_STACK" Bundle.steD A s' s'.heap := by rw [hhp]; exact vx_Zq.moved hW0.alike (hU.kept hS.2.1)
  have hN' : vx_Zq Bundle.tN "SUPPRESSED_SENTINEL" Bundle.listD A s' s'.heap := by rw [hhp]; exact vx_Zq.moved hW0.alike (hN.kept hS.2.1)
  have h : ∀ w ∈ Bundle.ownAtoms own ic cls names, w.before args s' = true := vx_own hat' (vx_isRefq hU'.1) (vx_isRefq hN'.1) hU'.2.word hN'.2.word
  have hown' : s'.vm.findClass own = some m.cls := by rw [hvm]; exact hown
  have hins : (Cond.instantiable cls 6).before args s' = true := h _ (by simp [Bundle.ownAtoms])
  obtain ⟨vm₁, cX, kX, hfX, hkX, -, -, X₁, st1⟩ := Y.newCold hexec (own := own) (C := cls) (index := ik) (n := 6) hown' hk' hins hini'
    (g := F0 m pc ls rest) rfl (by rw [hb]; exact d0) (Nat.le_refl _) (Nat.le_refl _)
  generalize hT1 : (T.setVm vm₁).pushCell { cls := cX, slots := kX.instanceTypes.map defaultValue, vm := .none } = T1 at X₁ st1
  have hcat : (Value.ref T.heap.size).category = 1 := rfl
  have hcellA : T1.heap[T.heap.size]? = some (freshCell cX kX) := by rw [← hT1]; exact State.heap_pushCell_size _ _
  have d3' : decode c.code (pc + 3) = .ok (.dup, 1) := by rw [hb]; exact d3
  have d4' : decode c.code (pc + 4) = .ok (.ldc is, 2) := by rw [hb]; exact d4
  have hstr' : vk_R own is text sa s' := vk_R.warm hW0 hstr
  obtain ⟨U, hsteps, hrun, hend, hW, hsame, ce, hce, hO⟩ := X₁.ctorThrowS hexec htr (own := own) (cls := cls) (names := names) (ic := ic) hown' hcls hnames h (fun x hx => nomatch hx) hfX hkX hcellA (by rw [hhp, hT]; exact Nat.le_refl _) (msg := .ref sa) rfl
    (g := { method := m, pc := pc + 6, locals := ls, stack := .ref sa :: .ref T.heap.size :: .ref T.heap.size :: rest, locked := none }) rfl hsize rfl rfl (rest := rest) rfl
    (by rw [hb]; exact d6) (by rw [hb]; exact d9) hout hRframes (by simp only [List.map_cons, List.sum_cons, hcat]; omega) hlocks
  obtain ⟨f1, f2⟩ := vx_frame hsame
  rw [hhp] at f1 f2
  have hWs : s.WarmedH U.vm := State.WarmedH.trans hW0 hW
  have hcl : s.vm.findClass cls = some ce.cls := by
    have h9 := hO.cls
    rw [hvm] at h9
    exact h9
  have hall : s.sameButNew ({ U with vm := s.vm } : State) locs mc ms := by
    subst hA
    obtain ⟨e1, e2⟩ := hsame
    rw [State.setFrames_setFrames] at e1
    have h2 : (T.setVm s.vm).sameButNew ({ U with vm := s.vm } : State) [] (0 + 1) (0 + 6) := ⟨e1, e2⟩
    have h3 := X.same.trans h2
    rw [List.append_nil] at h3
    exact h3.mono hc hs
  refine ⟨U, ?_, .threw T.heap.size, hrun, hend, Or.inr ⟨T.heap.size, rfl, cls, ce, locs, hx U hWs.alike f1 (fun q hq => f2 q hq (fun z hz => nomatch hz)), hce, hO.vm, hcl, hWs, hall, hf⟩⟩
  refine st1 _ ?_
  show Steps p.tables e below (T1.setTop { method := m, pc := pc + 3, locals := ls, stack := .ref T.heap.size :: rest, locked := none }) _
  jvm_step X₁.here [X₁.here.top, hexec, d3', Value.category]
  exact X₁.ldcString hexec (own := own) (text := text) (index := is) (a := sa) hown' hstr'.1 hstr'.2
    (g := { method := m, pc := pc + 4, locals := ls, stack := .ref T.heap.size :: .ref T.heap.size :: rest, locked := none }) rfl d4' _ hsteps
/-- 'throw new E("text")', the text by a wide index -/
theorem vx_throwSW {cc : ByteArray} {pc : Nat} (hexec : p.tables.exec = Jvm.exec) (hb : c.code = cc) (hl : l.stackTraces = false) {own cls text : String} {names : List String} {ik is ic mc ms sa : Nat} {A : Nat → Prop}
    (hown : s.vm.findClass own = some m.cls) (hcls : Bundle.fit cls = true) (hnames : ∀ n ∈ names, Bundle.fit n = true)
    (hk : (Cond.classLink own ik cls).before args s = true) (hini : (Cond.initialized cls).before args s = true) (hstr : vk_R own is text sa s) (hat : ∀ w ∈ vx_atS own ic cls names, w.before args s = true)
    (hgood : ∀ w ∈ Cond.classLink own ik cls :: Cond.initialized cls :: vx_atS own ic cls names, vx_ot w = true)
    (hU : vx_Zq Bundle.tN "UNASSIGNED_STACK" Bundle.steD A s s.heap) (hN : vx_Zq Bundle.tN "SUPPRESSED_SENTINEL" Bundle.listD A s s.heap) (hS : va_S A s.heap H locs) (hsize : ls.size = c.maxLocals)
    (d0 : decode cc pc = .ok (.new ik, 3)) (d3 : decode cc (pc + 3) = .ok (.dup, 1)) (d4 : decode cc (pc + 4) = .ok (.ldc_w is, 3)) (d7 : decode cc (pc + 7) = .ok (.invokespecial ic, 3)) (d10 : decode cc (pc + 10) = .ok (.athrow, 1))
    (hout : ∀ x ∈ c.exceptionTable.toList, covers x (pc + 10) = false)
    (hRframes : names.length + 3 < R.frames) (hRlocals : (rest.map fun v => v.category).sum + (13 * (names.length + 1) + 43) ≤ R.locals) (hRcells : cells + 1 ≤ R.cells) (hRslots : slots + 6 ≤ R.slots) (hlocks : meth.locks = false)
    (hx : ∀ t : State, s.vm.Alike t.vm → H.size ≤ t.heap.size → (∀ q : Nat, q < H.size → t.heap[q]? = H[q]?) → XC cls s t)
    (hf : ∀ z ∈ locs, free z.base) (hc : cells + 1 ≤ mc) (hs : slots + 6 ≤ ms) :
    W p l e R s m args below meth c H locs cells slots (vx_MQ below Qc XC args s mc ms free) (F0 m pc ls rest) := by
  intro T hT X
  have htr : e.platform.stackTraces = false := (show e.platform.stackTraces = l.stackTraces by rw [X.admits.platform]).trans hl
  have Y := vx_rebase X (R' := { frames := R.frames, locals := R.locals, cells := 1, slots := 6 }) (Nat.le_refl _) (Nat.le_refl _) hRcells hRslots
  obtain ⟨s', hA⟩ : ∃ z, z = (T.setVm s.vm).setFrames (.invoking m args :: below) := ⟨_, rfl⟩
  rw [← hA] at Y
  have hvm : s'.vm = s.vm := by rw [hA]; rfl
  have hhp : s'.heap = H := by rw [hA]; exact hT
  have hW0 : s.WarmedH s'.vm := by rw [hvm]; exact State.WarmedH.refl s
  have hat' : ∀ w ∈ vx_atS own ic cls names, w.before args s' = true := fun w hw => vx_ot_at hW0 hvm.symm (hgood w (List.mem_cons_of_mem _ (List.mem_cons_of_mem _ hw))) (hat w hw)
  have hk' : (Cond.classLink own ik cls).before args s' = true := vx_ot_at hW0 hvm.symm (hgood _ List.mem_cons_self) hk
  have hini' : (Cond.initialized cls).before args s' = true := vx_ot_at hW0 hvm.symm (hgood _ (List.mem_cons_of_mem _ List.mem_cons_self)) hini
  have hU' : vx_Zq Bundle.tN "UNASSIGNED_STACK" Bundle.steD A s' s'.heap := by rw [hhp]; exact vx_Zq.moved hW0.alike (hU.kept hS.2.1)
  have hN' : vx_Zq Bundle.tN "SUPPRESSED_SENTINEL" Bundle.listD A s' s'.heap := by rw [hhp]; exact vx_Zq.moved hW0.alike (hN.kept hS.2.1)
  have h : ∀ w ∈ Bundle.ownAtoms own ic cls names, w.before args s' = true := vx_own hat' (vx_isRefq hU'.1) (vx_isRefq hN'.1) hU'.2.word hN'.2.word
  have hown' : s'.vm.findClass own = some m.cls := by rw [hvm]; exact hown
  have hins : (Cond.instantiable cls 6).before args s' = true := h _ (by simp [Bundle.ownAtoms])
  obtain ⟨vm₁, cX, kX, hfX, hkX, -, -, X₁, st1⟩ := Y.newCold hexec (own := own) (C := cls) (index := ik) (n := 6) hown' hk' hins hini'
    (g := F0 m pc ls rest) rfl (by rw [hb]; exact d0) (Nat.le_refl _) (Nat.le_refl _)
  generalize hT1 : (T.setVm vm₁).pushCell { cls := cX, slots := kX.instanceTypes.map defaultValue, vm := .none } = T1 at X₁ st1
  have hcat : (Value.ref T.heap.size).category = 1 := rfl
  have hcellA : T1.heap[T.heap.size]? = some (freshCell cX kX) := by rw [← hT1]; exact State.heap_pushCell_size _ _
  have d3' : decode c.code (pc + 3) = .ok (.dup, 1) := by rw [hb]; exact d3
  have d4' : decode c.code (pc + 4) = .ok (.ldc_w is, 3) := by rw [hb]; exact d4
  have hstr' : vk_R own is text sa s' := vk_R.warm hW0 hstr
  obtain ⟨U, hsteps, hrun, hend, hW, hsame, ce, hce, hO⟩ := X₁.ctorThrowS hexec htr (own := own) (cls := cls) (names := names) (ic := ic) hown' hcls hnames h (fun x hx => nomatch hx) hfX hkX hcellA (by rw [hhp, hT]; exact Nat.le_refl _) (msg := .ref sa) rfl
    (g := { method := m, pc := pc + 7, locals := ls, stack := .ref sa :: .ref T.heap.size :: .ref T.heap.size :: rest, locked := none }) rfl hsize rfl rfl (rest := rest) rfl
    (by rw [hb]; exact d7) (by rw [hb]; exact d10) hout hRframes (by simp only [List.map_cons, List.sum_cons, hcat]; omega) hlocks
  obtain ⟨f1, f2⟩ := vx_frame hsame
  rw [hhp] at f1 f2
  have hWs : s.WarmedH U.vm := State.WarmedH.trans hW0 hW
  have hcl : s.vm.findClass cls = some ce.cls := by
    have h9 := hO.cls
    rw [hvm] at h9
    exact h9
  have hall : s.sameButNew ({ U with vm := s.vm } : State) locs mc ms := by
    subst hA
    obtain ⟨e1, e2⟩ := hsame
    rw [State.setFrames_setFrames] at e1
    have h2 : (T.setVm s.vm).sameButNew ({ U with vm := s.vm } : State) [] (0 + 1) (0 + 6) := ⟨e1, e2⟩
    have h3 := X.same.trans h2
    rw [List.append_nil] at h3
    exact h3.mono hc hs
  refine ⟨U, ?_, .threw T.heap.size, hrun, hend, Or.inr ⟨T.heap.size, rfl, cls, ce, locs, hx U hWs.alike f1 (fun q hq => f2 q hq (fun z hz => nomatch hz)), hce, hO.vm, hcl, hWs, hall, hf⟩⟩
  refine st1 _ ?_
  show Steps p.tables e below (T1.setTop { method := m, pc := pc + 3, locals := ls, stack := .ref T.heap.size :: rest, locked := none }) _
  jvm_step X₁.here [X₁.here.top, hexec, d3', Value.category]
  exact X₁.ldcStringW hexec (own := own) (text := text) (index := is) (a := sa) hown' hstr'.1 hstr'.2
    (g := { method := m, pc := pc + 4, locals := ls, stack := .ref T.heap.size :: .ref T.heap.size :: rest, locked := none }) rfl d4' _ hsteps
end Ends
section Bodies
variable {l : Launch}
theorem vx_ofW {y : MethodName} {ws ws' : List Cond} {rm : Room} {Pc : Array Value → State → Prop} {Qc : Array Value → State → Outcome → State → Prop} {XC : String → State → State → Prop} {mc ms : Nat} {free : Addr → Prop} {cc : ByteArray} {maxL : Nat} {ret : Option FieldType}
    (hy : plainName y.cls = true) (hw : ws = Cond.code y cc maxL ret :: ws')
    (body : ∀ p e s m args below meth c s₁, BodyLoose p l y (headSpec ws rm) cc maxL ret e s m args below meth c s₁ → c.maxLocals = maxL → (∀ x ∈ c.exceptionTable.toList, False) → Pc args s →
      W p l e (headSpec ws rm).room s m args below meth c s.heap [] 0 0 (vx_MQ below Qc XC args s mc ms free) (entryFrame m args maxL)) : vx_Met l y ws rm Pc Qc XC mc ms free := by
  refine MetFree.of_bodyS (code := cc) (maxLocals := maxL) (ret := ret) hy ?_ ?_
  · intro args s m h hn
    obtain ⟨meth, c, h1, h2, h3, h4, h5, h6, -, -⟩ := Cond.code_spec hn (atoms_spec (ws := ws) h _ (by rw [hw]; exact List.mem_cons_self))
    exact ⟨meth, c, h1, h2, h3, h4, h5, h6⟩
  · intro p e s m args below meth c s₁ B hml hP _
    have hh0 : s₁.heap = s.heap := by rw [B.state]; rfl
    have ht : ∀ x ∈ c.exceptionTable.toList, False := by
      obtain ⟨meth9, c9, h1, h2, -, -, -, -, h7, -⟩ := Cond.code_spec B.named (atoms_spec (ws := ws) B.pre _ (by rw [hw]; exact List.mem_cons_self))
      cases Option.some.inj (h1.symm.trans B.method)
      cases Option.some.inj (h2.symm.trans (Stand.of_body B).code)
      intro x hx
      rw [Array.isEmpty_iff.mp h7] at hx
      cases hx
    obtain ⟨t, a1, o, b1, b2, b3⟩ := body p e s m args below meth c s₁ B hml ht hP s₁ hh0 (Stand.of_body B)
    exact ⟨t, o, a1, b1, b2, b3⟩
/-- the table of a body with handlers -/
theorem vx_table {p : Program} {x y : MethodName} {S : Spec} {cc bytes : ByteArray} {maxL maxL' : Nat} {ret ret' : Option FieldType} {e : Env} {s s₁ : State} {m : MethodId} {args : Array Value} {below : List Frame} {meth : Method} {c : Code} {hh : List (Nat × Nat × Nat × Nat)}
    (B : BodyLoose p l y S cc maxL ret e s m args below meth c s₁) (h : (Cond.codeWith y bytes maxL' ret' hh).before args s = true) : c.exceptionTable.toList = tableOf hh := by
  obtain ⟨m9, meth9, c9, hn9, h1, h2, -, -, h6, -⟩ := Cond.codeWith_spec h
  cases Option.some.inj (hn9.symm.trans B.named)
  cases Option.some.inj (h1.symm.trans B.method)
  cases Option.some.inj (h2.symm.trans (Stand.of_body B).code)
  rw [← h6, table_eq]
end Bodies
end VXA
/-! ===== END ===== -/
/-! ===== BEGIN a static call of a method with an exception table ===== -/
section VXS
variable {p : Program} {l : Launch} {e : Env} {R : Room} {s : State} {m : MethodId} {args : Array Value} {below : List Frame} {meth : Method} {c : Code} {T : State} {H : Heap} {locs : List Loc} {cells slots : Nat}
abbrev vx_CSW (R : Room) (s : State) (args : Array Value) (own : String) (index : Nat) (y : MethodName) (bytes : ByteArray) (maxL : Nat) (ret : Option FieldType) (hh : List (Nat × Nat × Nat × Nat)) (ws : List Cond) (rm : Room) (mc ms n : Nat) : Prop :=
  (rm.cells = mc ∧ rm.slots = ms ∧ rm.frames + 1 ≤ R.frames ∧ 8 + (maxL + 11) + rm.locals ≤ R.locals ∧ (∀ w ∈ ws, ∀ (a' : Array Value) (U : State), s.WarmedH U.vm → w.before a' U = true) ∧ Cond.codeWith y bytes maxL ret hh ∈ ws) ∧
  (Cond.codeWith y bytes maxL ret hh).before args s = true ∧ (Cond.initialized y.cls).before args s = true ∧ (y.cls ≠ "java/lang/invoke/MethodHandle" ∧ y.cls ≠ "java/lang/invoke/VarHandle") ∧
  (∀ sig, parseMethodDescriptor y.desc = some sig → n = sig.parameters.length) ∧ (Cond.methodLink own index y).before args s = true ∧ (Cond.static y).before args s = true
theorem vx_cwSW {own : String} {index maxL mc ms : Nat} {y : MethodName} {bytes : ByteArray} {ret : Option FieldType} {hh : List (Nat × Nat × Nat × Nat)} {Ts ws ws' : List Cond} {rm : Room} (n : Nat) (ht : ∀ w ∈ Ts, w.before args s = true) (hT : GoodIn Ts (va_wsS own index y ws)) (hw : ws = Cond.codeWith y bytes maxL ret hh :: ws') (hrc : rm.cells = mc) (hrs : rm.slots = ms)
    (hd : y.cls ≠ "java/lang/invoke/MethodHandle" ∧ y.cls ≠ "java/lang/invoke/VarHandle" ∧ (parseMethodDescriptor y.desc).map (fun d => d.parameters.length) = some n) (hR : rm.frames + 1 ≤ R.frames ∧ 8 + (maxL + 11) + rm.locals ≤ R.locals) :
    vx_CSW R s args own index y bytes maxL ret hh ws rm mc ms n := by
  have ok : ∀ w ∈ va_wsS own index y ws, w.before args s = true := fun w h => ht w (hT w h).1
  have hG : GoodIn Ts ws := fun w h => hT w (by unfold va_wsS; exact List.mem_append_right _ h)
  have hc : Cond.codeWith y bytes maxL ret hh ∈ ws := by rw [hw]; exact List.mem_cons_self
  refine ⟨⟨hrc, hrs, hR.1, hR.2, pay_in ht hG, hc⟩, ht _ (hG _ hc).1, ok _ (by simp [va_wsS]), ⟨hd.1, hd.2.1⟩, fun sig h => ?_, ok _ (by simp [va_wsS]), ok _ (by simp [va_wsS])⟩
  have h2 := hd.2.2
  rw [h] at h2
  exact (Option.some.inj h2).symm
theorem vx_callSW (X : Stand p l e R s m args below meth c T locs cells slots) (hexec : p.tables.exec = Jvm.exec) {own : String} {index : Nat} {y : MethodName} {bytes : ByteArray} {maxL : Nat} {ret : Option FieldType} {hh : List (Nat × Nat × Nat × Nat)}
    (hown : s.vm.findClass own = some m.cls) (hlink : (Cond.methodLink own index y).before args s = true) (hstat : (Cond.static y).before args s = true) (hinit : (Cond.initialized y.cls).before args s = true)
    (hcode : (Cond.codeWith y bytes maxL ret hh).before args s = true) (hy : y.cls ≠ "java/lang/invoke/MethodHandle" ∧ y.cls ≠ "java/lang/invoke/VarHandle")
    {W9 : Nat} {Pre : Pt → Array Value → Prop} {Post : Pt → Array Value → Option Value → Pt → Prop} (hK : Back l R p e below s args y 3 W9 Pre Post)
    {g : JFrame} (hg : g.method = m) (hsize : g.locals.size = c.maxLocals) {argsL rest : List Value} (hlen : ∀ sig, parseMethodDescriptor y.desc = some sig → argsL.length = sig.parameters.length)
    (hstack : g.stack = argsL.reverse ++ rest) (hW : 2 * g.monitorRoom + (rest.map fun v => v.category).sum ≤ W9) (hdg : decode c.code g.pc = .ok (.invokestatic index, 3))
    (hpre : ∀ vm₁, s.WarmedH vm₁ → Pre ⟨T.setVm vm₁, locs, cells, slots⟩ argsL.toArray) :
    ∃ (v : Option Value) (vm₁ : Vm) (B : Pt), s.WarmedH vm₁ ∧ Stand p l e R s m args below meth c B.U B.locs B.cells B.slots ∧ Post ⟨T.setVm vm₁, locs, cells, slots⟩ argsL.toArray v B ∧
      ∀ target, Steps p.tables e below (B.U.setTop { g with pc := g.pc + 3, stack := v.toList ++ rest }) target → Steps p.tables e below (T.setTop g) target := by
  obtain ⟨mk, methM, cM, hnamed, hmethM, -, -, -, -, -, -, hsigM⟩ := Cond.codeWith_spec hcode
  have hstatic : methM.isStatic = true := Cond.static_spec hnamed hmethM hstat
  obtain ⟨kP, hkP, -⟩ := className_of_methodNamed hnamed
  have hinitP : kP.init = .initialized := Cond.initialized_spec (findClass_of_methodNamed hnamed) hkP hinit
  obtain ⟨vm₁, X₁, hstep₁⟩ := X.invokestatic hexec hown hlink hnamed hmethM hstatic hkP hinitP hy (g := g) hg (argsL := argsL) (rest := rest) (hlen _ hsigM) hstack hdg
  obtain ⟨v, B, X', hpost, hsteps⟩ := hK m meth c ⟨T.setVm vm₁, locs, cells, slots⟩ { g with stack := rest } (.invokestatic index) mk argsL.toArray X₁ hg hsize hdg hW (X₁.named hnamed) (hpre vm₁ X₁.warmed)
  exact ⟨v, vm₁, B, X₁.warmed, X', hpost, fun target h => hstep₁ _ fun acts => by rw [doInvoke_state]; exact hsteps.trans h⟩
theorem vx_runSW {y : MethodName} {bytes cc : ByteArray} {maxL nL mc ms n index : Nat} {ret : Option FieldType} {hh : List (Nat × Nat × Nat × Nat)} {ws : List Cond} {rm : Room} {Pc : Array Value → State → Prop} {Qc : Array Value → State → Outcome → State → Prop} {free : Addr → Prop} {Ts : List Cond} {own : String} {As rest : List Value} {g : JFrame}
    (S : CallFix p m c cc nL s args Ts own) (hM : Met l y ws rm Pc Qc mc ms free) (cw : vx_CSW R s args own index y bytes maxL ret hh ws rm mc ms n) (hp : PreS s H Pc As)
    (hg : g.method = m) (hn : As.length = n) (hsize : g.locals.size = nL) (hstack : g.stack = As.reverse ++ rest) (hW : 2 * g.monitorRoom + (rest.map fun v => v.category).sum ≤ 8) (hdg : decode cc g.pc = .ok (.invokestatic index, 3)) (hf : cells + mc ≤ R.cells ∧ slots + ms ≤ R.slots) :
    va_Run p l e R s m args below meth c H locs cells slots mc ms g rest (Qc As.toArray) (free) := by
  obtain ⟨⟨hrc, hrs, hfr, hlo, hws, hcw⟩, hcode, hini, hy, hlen, hl, hstt⟩ := cw
  have hK : Back l R p e below s args y 3 8 (PreOf R mc ms Pc) (PostOf Qc mc ms free) := va_backW (hh := hh) (bytes := bytes) (maxL := maxL) (ret := ret) hM hp.1 hrc hrs hfr hlo hws hcw (fun a' U hW => word_at hW (Or.inl (by first | rfl | simp [Cond.onTables, Cond.keeps, Cond.steady])) hini)
  obtain ⟨hx, hb, hml, ho, -⟩ := S
  intro T hT X
  obtain ⟨v, vm₁, ⟨U', l2, c2, s2⟩, hW₁, X', ⟨g', mk, t, L, e1, e2, hq, h1, hL, h2, h3⟩, st⟩ := vx_callSW X hx (hh := hh) (bytes := bytes) (maxL := maxL) (ret := ret) ho hl hstt hini hcode hy hK hg (hsize.trans hml.symm) (argsL := As) (rest := rest) (fun sig h => hn.trans (hlen sig h)) hstack hW (by rw [hb]; exact hdg)
    (fun vm₁ hW₁ => ⟨hf.1, hf.2, hp.2 (T.setVm vm₁) hT hW₁⟩)
  dsimp only [Pt.U, Pt.locs, Pt.cells, Pt.slots] at X' e1 e2 h1 h2 h3 st
  subst h1; subst h2; subst h3
  exact ⟨v, (T.setVm vm₁).calling g' mk As.toArray, t, U', L, hT, X', hL, e1, e2, hq, st⟩
/-- not caught here, past rows that name other classes: it goes on to the caller -/
theorem vx_outP {p : Program} {l : Launch} {e : Env} {R : Room} {s : State} {m : MethodId} {args : Array Value} {below : List Frame} {meth : Method} {c : Code} {H : Heap} {locs : List Loc} {cells slots : Nat} {free : Addr → Prop} {ls : Array Slot} {rest : List Value} {Qc : Array Value → State → Outcome → State → Prop} {XC : String → State → State → Prop}
    {pc : Nat} {own E : String} {ce : Cell} {q : Addr} {mc ms : Nat} (hown : s.vm.findClass own = some m.cls) (hlocks : meth.locks = false)
    (hpass : ∀ z ∈ c.exceptionTable.toList, covers z pc = false ∨ (z.catchType ≠ 0 ∧ ∃ nm : String, (Cond.classLink own z.catchType nm).before args s = true ∧ va_Nc E nm s)) (hcell : H[q]? = some ce) (hv : ce.vm = .none) (hcl : s.vm.findClass E = some ce.cls)
    (hx : ∀ t : State, t.heap = H → s.vm.Alike t.vm → XC E s t) (hf : ∀ z ∈ locs, free z.base) (hc : cells ≤ mc) (hs : slots ≤ ms) :
    vx_W p l e R s m args below meth c H locs cells slots (vx_MQ below Qc XC args s mc ms free) (F0 m pc ls rest) q := by
  intro T hT X
  have hpl : e.platform.magicAccessors = ({} : Platform).magicAccessors := by rw [X.admits.platform]
  obtain ⟨vm', hW', X', st⟩ := X.outThrough hlocks q (g := F0 m pc ls rest) rfl rfl rfl (cell := ce) (by rw [hT]; exact hcell) (by rw [hv]; rfl)
    (by obtain ⟨k9, h9, -⟩ := Vm.findClass_spec hcl; exact ⟨k9, h9⟩) (fun z hz => by
      rcases hpass z hz with h | ⟨hz0, nm, hl1, hn1⟩
      · exact Or.inl h
      · obtain ⟨c6, hc6, hcl6⟩ := Cond.classLink_spec hown hl1 e.platform hpl
        obtain ⟨a8, b8, h1, h2, h3⟩ := hn1
        cases Option.some.inj (h1.symm.trans hcl)
        cases Option.some.inj (h2.symm.trans hc6)
        exact Or.inr ⟨hz0, _, hcl6, h3⟩)
  obtain ⟨g₀, hfr⟩ := X'.frames_eq
  have hcell9 : ((T.setVm vm').setFrames (.throwing q :: below)).heap[q]? = some ce := by
    show T.heap[q]? = some ce
    rw [hT]; exact hcell
  have hend : Ended ((T.setVm vm').setFrames (.throwing q :: below)) below (.threw q) := State.frames_setFrames _ (State.cur_lt_of_frames hfr)
  refine ⟨(T.setVm vm').setFrames (.throwing q :: below), ?_, .threw q, X'.here.running, hend, Or.inr ⟨q, rfl, E, ce, locs, hx _ hT (X'.ends _).1.alike, hcell9, hv, hcl, (X'.ends _).1, (X'.ends _).2.mono hc hs, hf⟩⟩
  rw [X.pushThrowing_eq]
  exact st
/-- a thing of a world lies in the heap -/
theorem vx_lt {D : va_G} {cl : List vw_C} {ws : va_W} {H1 : Heap} (h : va_P D cl ws H1) {k : Nat} {q : Nat × va_E} (hk : ws[k]? = some q) : q.1 < H1.size := (h k q hk).lt
end VXS
/-! ===== END ===== -/
/-! ===== BEGIN methods with a table of their own: called by a name, returning or throwing ===== -/
section VXH
/-! vx_backW, vx_callVX, vx_callSX, vx_callVW, vx_runVW, vx_runVX, vx_runSX, vx_ofWH follow the same proofs as their sisters above (Free/Laws.lean, Shelf42/LK1.lean); vx_outP calls Shelf42/NT130.lean (outThrough). -/
section
variable {l : Launch} {R : Room} {p : Program} {e : Env} {below : List Frame} {s : State} {sargs : Array Value} {y : MethodName} {len W9 : Nat}
theorem vx_backW {ws : List Cond} {rm : Room} {Pc : Array Value → State → Prop} {Qc : Array Value → State → Outcome → State → Prop} {XC : String → State → State → Prop} {mc ms : Nat} {free : Addr → Prop} {bytes : ByteArray} {maxL : Nat} {ret : Option FieldType} {hh : List (Nat × Nat × Nat × Nat)}
    (hM : vx_Met l y ws rm Pc Qc XC mc ms free) (hblind : FrameBlind Pc) (hrc : rm.cells = mc) (hrs : rm.slots = ms)
    (hframes : rm.frames + 1 ≤ R.frames) (hlocals : W9 + (maxL + 11) + rm.locals ≤ R.locals)
    (hws : ∀ w ∈ ws, ∀ a' U, s.WarmedH U.vm → w.before a' U = true) (hcode : Cond.codeWith y bytes maxL ret hh ∈ ws) (hinit : ∀ a' U, s.WarmedH U.vm → (Cond.initialized y.cls).before a' U = true) :
    vx_Back l R p e below s sargs y len W9 (PreOf R mc ms Pc) (PostOf Qc mc ms free) (vx_Post XC mc ms free) := by
  intro m meth c A g ig mk a X hg hsize hdg hW hn hp
  have h1 : (headSpec ws rm).pre.before a A.U = true := atoms_intro fun w hw => hws w hw _ _ X.warmed
  have h2 : (Cond.codeWith y bytes maxL ret hh).before a A.U = true := hws _ hcode _ _ X.warmed
  have h3 : (Cond.initialized y.cls).before a A.U = true := hinit _ _ X.warmed
  have h4 : A.cells + (headSpec ws rm).room.cells ≤ R.cells := by rw [show (headSpec ws rm).room.cells = mc from hrc]; exact hp.1
  have h5 : A.slots + (headSpec ws rm).room.slots ≤ R.slots := by rw [show (headSpec ws rm).room.slots = ms from hrs]; exact hp.2.1
  have hPc : Pc a (A.U.calling g mk a) := hblind _ _ _ _ hp.2.2
  obtain ⟨U, Ls, c0, s0⟩ := A
  dsimp only [Pt.U, Pt.locs, Pt.cells, Pt.slots] at h1 h2 h3 h4 h5 X hn hPc ⊢
  obtain ⟨m9, methY, cY, hn9, hmY, hcY, -, hlY, -⟩ := Cond.codeWith_spec h2
  cases Option.some.inj (hn9.symm.trans hn)
  obtain ⟨kY, hkY, -⟩ := className_of_methodNamed hn
  have hinitY : kY.init = .initialized := Cond.initialized_spec (findClass_of_methodNamed hn) hkY h3
  have h : At U g.method c below := by rw [hg]; exact X.here
  have hlocals9 : W9 + (maxL + 11) + (headSpec ws rm).room.locals ≤ R.locals := hlocals
  have happ : (headSpec ws rm).appliesLoose y e.platform (U.calling g mk a) = true :=
    Spec.appliesLoose_calling (g := g) h hdg hn hkY hinitY
      (X.room_calling (g := g) (R' := (headSpec ws rm).room) hsize hmY hcY hframes (by rw [hlY]; omega) h4 h5) h1
  obtain ⟨mid, hmid⟩ := h.above
  have hfr : (U.setTop g).frames = (.java g :: mid) ++ below := by rw [State.frames_setTop' g h.top, hmid]; rfl
  obtain ⟨o, s₂, hsteps, -, hend, hq⟩ := Steps.callFree hM p X.admits X.cas X.clock (acts := []) hfr happ hPc trivial
  have hq' : vx_Q Qc XC mc ms free a (U.calling g mk a) o s₂ := hq
  rw [State.frames_setTop' g h.top] at hend
  obtain ⟨g₀, hg0⟩ := Option.isSome_iff_exists.mp h.top
  obtain ⟨r, hr⟩ := State.topJava?_eq_some.mp hg0
  have hr' : (({ U with heap := s₂.heap, slotsUsed := s₂.slotsUsed } : State).setVm s₂.vm).frames = .java g₀ :: r := hr
  rcases hq' with ⟨hqc, L, hfe, hL⟩ | ⟨q, rfl, E, ce, L, hx, hce, hcv, hcl, hW₂, hsm, hL⟩
  · obtain ⟨⟨v, rfl⟩, hW₂, e2, q2, q3, q4, q5, q6⟩ := id hfe
    have e3 : s₂ = ({ (U.calling g mk a).setFrames s₂.frames with heap := s₂.heap, slotsUsed := s₂.slotsUsed } : State).setVm s₂.vm := by
      have : s₂ = ({ s₂ with vm := (U.calling g mk a).vm } : State).setVm s₂.vm := rfl
      rw [e2] at this
      exact this
    obtain ⟨c₂, i₂, len₂, hc₂, hd₂, hf₂⟩ := hend
    have hW' : U.WarmedH s₂.vm := hW₂
    have hcc : c₂ = c := by
      have h1 : s₂.code? g.method = U.code? g.method := by
        rw [State.code?_eq, State.code?_eq, hW'.alike.method?]
      exact Option.some.inj (hc₂.symm.trans (h1.trans h.code))
    subst hcc
    have hlen : len₂ = len := by rw [hdg] at hd₂; cases hd₂; rfl
    subst hlen
    have hs₂ : s₂ = (({ U with heap := s₂.heap, slotsUsed := s₂.slotsUsed } : State).setVm s₂.vm).setTop { g with pc := g.pc + len₂, stack := v.toList ++ g.stack } := by
      refine e3.trans ?_
      rw [hf₂, State.calling_eq h.top, State.setFrames_setFrames, State.setTop_of_frames _ hr', hr]
      rfl
    have hsame : U.sameButNew ({ U with heap := s₂.heap, slotsUsed := s₂.slotsUsed } : State) L mc ms := by
      refine ⟨?_, q2, q3, q4, q5, q6⟩
      obtain ⟨t, ht, -⟩ := State.frames_cons hr
      show ({ U with heap := s₂.heap, slotsUsed := s₂.slotsUsed } : State) = { U.setFrames U.frames with heap := s₂.heap, slotsUsed := s₂.slotsUsed }
      rw [State.setFrames_self ht]
    subst hg
    refine Or.inl ⟨v, ⟨(({ U with heap := s₂.heap, slotsUsed := s₂.slotsUsed } : State).setVm s₂.vm), Ls ++ L, c0 + mc, s0 + ms⟩,
      ⟨X.admits, X.cas, X.clock, X.frames, X.room, X.hears, X.method, X.code, (X.here.setHeapUsed s₂.heap s₂.slotsUsed).setVm hW'.alike, X.tail, State.WarmedH.trans X.warmed hW', X.limits, X.bytes, X.same.trans (hsame.setVm s.vm)⟩,
      ⟨g, mk, s₂, L, rfl, rfl, hqc, rfl, hL, rfl, rfl⟩, ?_⟩
    show Steps p.tables e below _ ((({ U with heap := s₂.heap, slotsUsed := s₂.slotsUsed } : State).setVm s₂.vm).setTop { g with pc := g.pc + len₂, stack := v.toList ++ g.stack })
    rw [← hs₂]
    exact hsteps
  · obtain ⟨e2, q2, q3, q4, q5, q6⟩ := id hsm
    have e3 : s₂ = ({ (U.calling g mk a).setFrames s₂.frames with heap := s₂.heap, slotsUsed := s₂.slotsUsed } : State).setVm s₂.vm := by
      have : s₂ = ({ s₂ with vm := (U.calling g mk a).vm } : State).setVm s₂.vm := rfl
      rw [e2] at this
      exact this
    have hf₂ : s₂.frames = .throwing q :: .java g :: U.frames.tail := hend
    have hW' : U.WarmedH s₂.vm := hW₂
    have hs₂ : s₂ = ((({ U with heap := s₂.heap, slotsUsed := s₂.slotsUsed } : State).setVm s₂.vm).setTop g).pushFrame (.throwing q) := by
      refine e3.trans ?_
      rw [hf₂, State.calling_eq h.top, State.setFrames_setFrames, State.pushFrame, State.frames_setTop _ hr', State.setTop_of_frames _ hr', State.setFrames_setFrames, hr]
      rfl
    have hsame : U.sameButNew ({ U with heap := s₂.heap, slotsUsed := s₂.slotsUsed } : State) L mc ms := by
      refine ⟨?_, q2, q3, q4, q5, q6⟩
      obtain ⟨t, ht, -⟩ := State.frames_cons hr
      show ({ U with heap := s₂.heap, slotsUsed := s₂.slotsUsed } : State) = { U.setFrames U.frames with heap := s₂.heap, slotsUsed := s₂.slotsUsed }
      rw [State.setFrames_self ht]
    subst hg
    refine Or.inr ⟨q, ⟨(({ U with heap := s₂.heap, slotsUsed := s₂.slotsUsed } : State).setVm s₂.vm), Ls ++ L, c0 + mc, s0 + ms⟩,
      ⟨X.admits, X.cas, X.clock, X.frames, X.room, X.hears, X.method, X.code, (X.here.setHeapUsed s₂.heap s₂.slotsUsed).setVm hW'.alike, X.tail, State.WarmedH.trans X.warmed hW', X.limits, X.bytes, X.same.trans (hsame.setVm s.vm)⟩,
      ⟨g, mk, s₂, L, E, ce, rfl, rfl, hx, hce, hcv, hcl, rfl, hL, rfl, rfl⟩, ?_⟩
    show Steps p.tables e below _ (((({ U with heap := s₂.heap, slotsUsed := s₂.slotsUsed } : State).setVm s₂.vm).setTop g).pushFrame (.throwing q))
    rw [← hs₂]
    exact hsteps
end
variable {p : Program} {l : Launch} {e : Env} {R : Room} {s : State} {m : MethodId} {args : Array Value} {below : List Frame} {meth : Method} {c : Code} {T : State} {H : Heap} {locs : List Loc} {cells slots : Nat}
theorem vx_callVX (X : Stand p l e R s m args below meth c T locs cells slots) (hexec : p.tables.exec = Jvm.exec) {own C : String} {index : Nat} {y : MethodName} {bytes : ByteArray} {maxL : Nat} {ret : Option FieldType} {hh : List (Nat × Nat × Nat × Nat)}
    (hown : s.vm.findClass own = some m.cls) (hlink : (Cond.methodLink own index y).before args s = true) (hinst : (Cond.instanceMethod y).before args s = true) (hsel : (Cond.selects C y y).before args s = true)
    (hcode : (Cond.codeWith y bytes maxL ret hh).before args s = true) (hy : y.cls ≠ "java/lang/invoke/MethodHandle" ∧ y.cls ≠ "java/lang/invoke/VarHandle")
    {W9 : Nat} {Pre : Pt → Array Value → Prop} {Post : Pt → Array Value → Option Value → Pt → Prop} {PostX : Pt → Array Value → Addr → Pt → Prop} (hK : vx_Back l R p e below s args y 3 W9 Pre Post PostX)
    {b : Addr} {cellB : Cell} (hcell : T.heap[b]? = some cellB) (hobj : cellB.vm.isStatics = false) (hcls : s.vm.findClass C = some cellB.cls)
    {g : JFrame} (hg : g.method = m) (hsize : g.locals.size = c.maxLocals) {argsL rest : List Value} (hlen : ∀ sig, parseMethodDescriptor y.desc = some sig → argsL.length = sig.parameters.length)
    (hstack : g.stack = argsL.reverse ++ .ref b :: rest) (hW : 2 * g.monitorRoom + (rest.map fun v => v.category).sum ≤ W9) (hdg : decode c.code g.pc = .ok (.invokevirtual index, 3))
    (hpre : ∀ vm₁, s.WarmedH vm₁ → Pre ⟨T.setVm vm₁, locs, cells, slots⟩ (Value.ref b :: argsL).toArray) :
    (∃ (v : Option Value) (vm₁ : Vm) (B : Pt), s.WarmedH vm₁ ∧ Stand p l e R s m args below meth c B.U B.locs B.cells B.slots ∧ Post ⟨T.setVm vm₁, locs, cells, slots⟩ (Value.ref b :: argsL).toArray v B ∧
      ∀ target, Steps p.tables e below (B.U.setTop { g with pc := g.pc + 3, stack := v.toList ++ rest }) target → Steps p.tables e below (T.setTop g) target) ∨
    (∃ (q : Addr) (vm₁ : Vm) (B : Pt), s.WarmedH vm₁ ∧ Stand p l e R s m args below meth c B.U B.locs B.cells B.slots ∧ PostX ⟨T.setVm vm₁, locs, cells, slots⟩ (Value.ref b :: argsL).toArray q B ∧
      Steps p.tables e below (T.setTop g) ((B.U.setTop { g with stack := rest }).pushFrame (.throwing q))) := by
  obtain ⟨mk, methM, hnamed, hmethM, hstM, habM⟩ := Cond.instanceMethod_spec hinst
  obtain ⟨m8, methM', cM, hn8, hmethM', -, -, -, -, -, -, hsigM⟩ := Cond.codeWith_spec hcode
  cases Option.some.inj (hn8.symm.trans hnamed)
  cases hmethM.symm.trans hmethM'
  obtain ⟨c2, r2, m2, q1, q2, q3, q4, kP, hkP, hkPi⟩ := Cond.selects_spec hsel
  cases hcls.symm.trans q1
  cases (State.methodFound?_of_named hnamed hy).symm.trans q2
  cases hnamed.symm.trans q3
  have hselP : selectMethod e.platform s.vm cellB.cls mk = .method mk := by rw [Launch.admits_selectMethod X.admits]; exact q4
  obtain ⟨vm₁, X₁, hstep₁⟩ := X.invokevirtual hexec hown hlink hnamed hmethM hstM hkP hkPi hy (a := b) (cell := cellB) hcell
    (fun z h => by rw [h] at hobj; cases hobj) hselP hmethM habM hkP hkPi (g := g) hg (argsL := argsL) (rest := rest) (hlen _ hsigM) hstack hdg
  rcases hK m meth c ⟨T.setVm vm₁, locs, cells, slots⟩ { g with stack := rest } (.invokevirtual index) mk (Value.ref b :: argsL).toArray X₁ hg hsize hdg hW (X₁.named hnamed) (hpre vm₁ X₁.warmed) with ⟨v, B, X', hpost, hsteps⟩ | ⟨q, B, X', hpost, hsteps⟩
  · exact Or.inl ⟨v, vm₁, B, X₁.warmed, X', hpost, fun target h => hstep₁ _ fun acts => by rw [doInvoke_state]; exact hsteps.trans h⟩
  · exact Or.inr ⟨q, vm₁, B, X₁.warmed, X', hpost, hstep₁ _ fun acts => by rw [doInvoke_state]; exact hsteps⟩
theorem vx_callSX (X : Stand p l e R s m args below meth c T locs cells slots) (hexec : p.tables.exec = Jvm.exec) {own : String} {index : Nat} {y : MethodName} {bytes : ByteArray} {maxL : Nat} {ret : Option FieldType} {hh : List (Nat × Nat × Nat × Nat)}
    (hown : s.vm.findClass own = some m.cls) (hlink : (Cond.methodLink own index y).before args s = true) (hstat : (Cond.static y).before args s = true) (hinit : (Cond.initialized y.cls).before args s = true)
    (hcode : (Cond.codeWith y bytes maxL ret hh).before args s = true) (hy : y.cls ≠ "java/lang/invoke/MethodHandle" ∧ y.cls ≠ "java/lang/invoke/VarHandle")
    {W9 : Nat} {Pre : Pt → Array Value → Prop} {Post : Pt → Array Value → Option Value → Pt → Prop} {PostX : Pt → Array Value → Addr → Pt → Prop} (hK : vx_Back l R p e below s args y 3 W9 Pre Post PostX)
    {g : JFrame} (hg : g.method = m) (hsize : g.locals.size = c.maxLocals) {argsL rest : List Value} (hlen : ∀ sig, parseMethodDescriptor y.desc = some sig → argsL.length = sig.parameters.length)
    (hstack : g.stack = argsL.reverse ++ rest) (hW : 2 * g.monitorRoom + (rest.map fun v => v.category).sum ≤ W9) (hdg : decode c.code g.pc = .ok (.invokestatic index, 3))
    (hpre : ∀ vm₁, s.WarmedH vm₁ → Pre ⟨T.setVm vm₁, locs, cells, slots⟩ argsL.toArray) :
    (∃ (v : Option Value) (vm₁ : Vm) (B : Pt), s.WarmedH vm₁ ∧ Stand p l e R s m args below meth c B.U B.locs B.cells B.slots ∧ Post ⟨T.setVm vm₁, locs, cells, slots⟩ argsL.toArray v B ∧
      ∀ target, Steps p.tables e below (B.U.setTop { g with pc := g.pc + 3, stack := v.toList ++ rest }) target → Steps p.tables e below (T.setTop g) target) ∨
    (∃ (q : Addr) (vm₁ : Vm) (B : Pt), s.WarmedH vm₁ ∧ Stand p l e R s m args below meth c B.U B.locs B.cells B.slots ∧ PostX ⟨T.setVm vm₁, locs, cells, slots⟩ argsL.toArray q B ∧
      Steps p.tables e below (T.setTop g) ((B.U.setTop { g with stack := rest }).pushFrame (.throwing q))) := by
  obtain ⟨mk, methM, cM, hnamed, hmethM, -, -, -, -, -, -, hsigM⟩ := Cond.codeWith_spec hcode
  have hstatic : methM.isStatic = true := Cond.static_spec hnamed hmethM hstat
  obtain ⟨kP, hkP, -⟩ := className_of_methodNamed hnamed
  have hinitP : kP.init = .initialized := Cond.initialized_spec (findClass_of_methodNamed hnamed) hkP hinit
  obtain ⟨vm₁, X₁, hstep₁⟩ := X.invokestatic hexec hown hlink hnamed hmethM hstatic hkP hinitP hy (g := g) hg (argsL := argsL) (rest := rest) (hlen _ hsigM) hstack hdg
  rcases hK m meth c ⟨T.setVm vm₁, locs, cells, slots⟩ { g with stack := rest } (.invokestatic index) mk argsL.toArray X₁ hg hsize hdg hW (X₁.named hnamed) (hpre vm₁ X₁.warmed) with ⟨v, B, X', hpost, hsteps⟩ | ⟨q, B, X', hpost, hsteps⟩
  · exact Or.inl ⟨v, vm₁, B, X₁.warmed, X', hpost, fun target h => hstep₁ _ fun acts => by rw [doInvoke_state]; exact hsteps.trans h⟩
  · exact Or.inr ⟨q, vm₁, B, X₁.warmed, X', hpost, hstep₁ _ fun acts => by rw [doInvoke_state]; exact hsteps⟩
theorem vx_callVW (X : Stand p l e R s m args below meth c T locs cells slots) (hexec : p.tables.exec = Jvm.exec) {own C : String} {index : Nat} {y : MethodName} {bytes : ByteArray} {maxL : Nat} {ret : Option FieldType} {hh : List (Nat × Nat × Nat × Nat)}
    (hown : s.vm.findClass own = some m.cls) (hlink : (Cond.methodLink own index y).before args s = true) (hinst : (Cond.instanceMethod y).before args s = true) (hsel : (Cond.selects C y y).before args s = true)
    (hcode : (Cond.codeWith y bytes maxL ret hh).before args s = true) (hy : y.cls ≠ "java/lang/invoke/MethodHandle" ∧ y.cls ≠ "java/lang/invoke/VarHandle")
    {W9 : Nat} {Pre : Pt → Array Value → Prop} {Post : Pt → Array Value → Option Value → Pt → Prop} (hK : Back l R p e below s args y 3 W9 Pre Post)
    {b : Addr} {cellB : Cell} (hcell : T.heap[b]? = some cellB) (hobj : cellB.vm.isStatics = false) (hcls : s.vm.findClass C = some cellB.cls)
    {g : JFrame} (hg : g.method = m) (hsize : g.locals.size = c.maxLocals) {argsL rest : List Value} (hlen : ∀ sig, parseMethodDescriptor y.desc = some sig → argsL.length = sig.parameters.length)
    (hstack : g.stack = argsL.reverse ++ .ref b :: rest) (hW : 2 * g.monitorRoom + (rest.map fun v => v.category).sum ≤ W9) (hdg : decode c.code g.pc = .ok (.invokevirtual index, 3))
    (hpre : ∀ vm₁, s.WarmedH vm₁ → Pre ⟨T.setVm vm₁, locs, cells, slots⟩ (Value.ref b :: argsL).toArray) :
    ∃ (v : Option Value) (vm₁ : Vm) (B : Pt), s.WarmedH vm₁ ∧ Stand p l e R s m args below meth c B.U B.locs B.cells B.slots ∧ Post ⟨T.setVm vm₁, locs, cells, slots⟩ (Value.ref b :: argsL).toArray v B ∧
      ∀ target, Steps p.tables e below (B.U.setTop { g with pc := g.pc + 3, stack := v.toList ++ rest }) target → Steps p.tables e below (T.setTop g) target := by
  obtain ⟨mk, methM, hnamed, hmethM, hstM, habM⟩ := Cond.instanceMethod_spec hinst
  obtain ⟨m8, methM', cM, hn8, hmethM', -, -, -, -, -, -, hsigM⟩ := Cond.codeWith_spec hcode
  cases Option.some.inj (hn8.symm.trans hnamed)
  cases hmethM.symm.trans hmethM'
  obtain ⟨c2, r2, m2, q1, q2, q3, q4, kP, hkP, hkPi⟩ := Cond.selects_spec hsel
  cases hcls.symm.trans q1
  cases (State.methodFound?_of_named hnamed hy).symm.trans q2
  cases hnamed.symm.trans q3
  have hselP : selectMethod e.platform s.vm cellB.cls mk = .method mk := by rw [Launch.admits_selectMethod X.admits]; exact q4
  obtain ⟨vm₁, X₁, hstep₁⟩ := X.invokevirtual hexec hown hlink hnamed hmethM hstM hkP hkPi hy (a := b) (cell := cellB) hcell
    (fun z h => by rw [h] at hobj; cases hobj) hselP hmethM habM hkP hkPi (g := g) hg (argsL := argsL) (rest := rest) (hlen _ hsigM) hstack hdg
  obtain ⟨v, B, X', hpost, hsteps⟩ := hK m meth c ⟨T.setVm vm₁, locs, cells, slots⟩ { g with stack := rest } (.invokevirtual index) mk (Value.ref b :: argsL).toArray X₁ hg hsize hdg hW (X₁.named hnamed) (hpre vm₁ X₁.warmed)
  exact ⟨v, vm₁, B, X₁.warmed, X', hpost, fun target h => hstep₁ _ fun acts => by rw [doInvoke_state]; exact hsteps.trans h⟩
abbrev vx_CVW (R : Room) (s : State) (args : Array Value) (own C : String) (index : Nat) (y : MethodName) (bytes : ByteArray) (maxL : Nat) (ret : Option FieldType) (hh : List (Nat × Nat × Nat × Nat)) (ws : List Cond) (rm : Room) (mc ms n : Nat) : Prop :=
  (rm.cells = mc ∧ rm.slots = ms ∧ rm.frames + 1 ≤ R.frames ∧ 8 + (maxL + 11) + rm.locals ≤ R.locals ∧ (∀ w ∈ ws, ∀ (a' : Array Value) (U : State), s.WarmedH U.vm → w.before a' U = true) ∧ Cond.codeWith y bytes maxL ret hh ∈ ws) ∧
  (Cond.codeWith y bytes maxL ret hh).before args s = true ∧ (Cond.initialized y.cls).before args s = true ∧ (y.cls ≠ "java/lang/invoke/MethodHandle" ∧ y.cls ≠ "java/lang/invoke/VarHandle") ∧
  (∀ sig, parseMethodDescriptor y.desc = some sig → n = sig.parameters.length) ∧ (Cond.methodLink own index y).before args s = true ∧ (Cond.instanceMethod y).before args s = true ∧ (Cond.selects C y y).before args s = true
theorem vx_cwVW {own C : String} {index maxL mc ms : Nat} {y : MethodName} {bytes : ByteArray} {ret : Option FieldType} {hh : List (Nat × Nat × Nat × Nat)} {Ts ws ws' : List Cond} {rm : Room} (n : Nat) (ht : ∀ w ∈ Ts, w.before args s = true) (hT : GoodIn Ts (wsV own index C y ws)) (hw : ws = Cond.codeWith y bytes maxL ret hh :: ws') (hrc : rm.cells = mc) (hrs : rm.slots = ms)
    (hd : y.cls = C ∧ y.cls ≠ "java/lang/invoke/MethodHandle" ∧ y.cls ≠ "java/lang/invoke/VarHandle" ∧ (parseMethodDescriptor y.desc).map (fun d => d.parameters.length) = some n) (hR : rm.frames + 1 ≤ R.frames ∧ 8 + (maxL + 11) + rm.locals ≤ R.locals) :
    vx_CVW R s args own C index y bytes maxL ret hh ws rm mc ms n := by
  obtain ⟨hC, hd⟩ := hd
  subst hC
  have ok : ∀ w ∈ wsV own index y.cls y ws, w.before args s = true := fun w h => ht w (hT w h).1
  have hG : GoodIn Ts ws := fun w h => hT w (by unfold wsV; exact List.mem_append_right _ h)
  have hc : Cond.codeWith y bytes maxL ret hh ∈ ws := by rw [hw]; exact List.mem_cons_self
  refine ⟨⟨hrc, hrs, hR.1, hR.2, pay_in ht hG, hc⟩, ht _ (hG _ hc).1, ok _ (by simp [wsV]), ⟨hd.1, hd.2.1⟩, fun sig h => ?_, ok _ (by simp [wsV]), ok _ (by simp [wsV]), ok _ (by simp [wsV])⟩
  have h2 := hd.2.2
  rw [h] at h2
  exact (Option.some.inj h2).symm
theorem vx_runVW {y : MethodName} {bytes cc : ByteArray} {maxL nL mc ms n index : Nat} {ret : Option FieldType} {hh : List (Nat × Nat × Nat × Nat)} {ws : List Cond} {rm : Room} {Pc : Array Value → State → Prop} {Qc : Array Value → State → Outcome → State → Prop} {free : Addr → Prop} {Ts : List Cond} {own C : String} {b : Addr} {As rest : List Value} {g : JFrame}
    (S : CallFix p m c cc nL s args Ts own) (hM : Met l y ws rm Pc Qc mc ms free) (cw : vx_CVW R s args own C index y bytes maxL ret hh ws rm mc ms n) (hp : PreV s H C b Pc As)
    (hg : g.method = m) (hn : As.length = n) (hsize : g.locals.size = nL) (hstack : g.stack = As.reverse ++ .ref b :: rest) (hW : 2 * g.monitorRoom + (rest.map fun v => v.category).sum ≤ 8) (hdg : decode cc g.pc = .ok (.invokevirtual index, 3)) (hf : cells + mc ≤ R.cells ∧ slots + ms ≤ R.slots) :
    va_Run p l e R s m args below meth c H locs cells slots mc ms g rest (Qc (Value.ref b :: As).toArray) free := by
  obtain ⟨⟨hrc, hrs, hfr, hlo, hws, hcw⟩, hcode, hini, hy, hlen, hl, hin, hse⟩ := cw
  have hK : Back l R p e below s args y 3 8 (PreOf R mc ms Pc) (PostOf Qc mc ms free) := va_backW (hh := hh) (bytes := bytes) (maxL := maxL) (ret := ret) hM hp.1 hrc hrs hfr hlo hws hcw (fun a' U hW => word_at hW (Or.inl (by first | rfl | simp [Cond.onTables, Cond.keeps, Cond.steady])) hini)
  obtain ⟨hx, hb, hml, ho, -⟩ := S
  obtain ⟨-, ⟨cellB, hcB, hoB, hclB⟩, hPc⟩ := hp
  intro T hT X
  obtain ⟨v, vm₁, ⟨U', l2, c2, s2⟩, hW₁, X', ⟨g', mk, t, L, e1, e2, hq, h1, hL, h2, h3⟩, st⟩ := vx_callVW X hx (C := C) (hh := hh) (bytes := bytes) (maxL := maxL) (ret := ret) ho hl hin hse hcode hy hK (by rw [hT]; exact hcB) hoB hclB hg (hsize.trans hml.symm) (argsL := As) (rest := rest) (fun sig h => hn.trans (hlen sig h)) hstack hW (by rw [hb]; exact hdg)
    (fun vm₁ hW₁ => ⟨hf.1, hf.2, hPc (T.setVm vm₁) hT hW₁⟩)
  dsimp only [Pt.U, Pt.locs, Pt.cells, Pt.slots] at X' e1 e2 h1 h2 h3 st
  subst h1; subst h2; subst h3
  exact ⟨v, (T.setVm vm₁).calling g' mk (Value.ref b :: As).toArray, t, U', L, hT, X', hL, e1, e2, hq, st⟩
section
variable {y : MethodName} {bytes cc : ByteArray} {maxL nL mc ms n index : Nat} {ret : Option FieldType} {ws : List Cond} {rm : Room} {Pc : Array Value → State → Prop} {Qc : Array Value → State → Outcome → State → Prop} {XC : String → State → State → Prop} {free : Addr → Prop} {Ts : List Cond} {own C : String} {b : Addr} {As rest : List Value} {g : JFrame}
theorem vx_runVX {hh : List (Nat × Nat × Nat × Nat)} (S : CallFix p m c cc nL s args Ts own) (hM : vx_Met l y ws rm Pc Qc XC mc ms free) (cw : vx_CVW R s args own C index y bytes maxL ret hh ws rm mc ms n) (hp : PreV s H C b Pc As)
    (hg : g.method = m) (hn : As.length = n) (hsize : g.locals.size = nL) (hstack : g.stack = As.reverse ++ .ref b :: rest) (hW : 2 * g.monitorRoom + (rest.map fun v => v.category).sum ≤ 8) (hdg : decode cc g.pc = .ok (.invokevirtual index, 3)) (hf : cells + mc ≤ R.cells ∧ slots + ms ≤ R.slots) :
    vx_Run p l e R s m args below meth c H locs cells slots mc ms g rest (Qc (Value.ref b :: As).toArray) XC free := by
  obtain ⟨⟨hrc, hrs, hfr, hlo, hws, hcw⟩, hcode, hini, hy, hlen, hl, hin, hse⟩ := cw
  have hK : vx_Back l R p e below s args y 3 8 (PreOf R mc ms Pc) (PostOf Qc mc ms free) (vx_Post XC mc ms free) := vx_backW (hh := hh) (bytes := bytes) (maxL := maxL) (ret := ret) hM hp.1 hrc hrs hfr hlo hws hcw (fun a' U hW => word_at hW (Or.inl (by first | rfl | simp [Cond.onTables, Cond.keeps, Cond.steady])) hini)
  obtain ⟨hx, hb, hml, ho, -⟩ := S
  obtain ⟨-, ⟨cellB, hcB, hoB, hclB⟩, hPc⟩ := hp
  intro T hT X
  rcases vx_callVX X hx (C := C) (hh := hh) (bytes := bytes) (maxL := maxL) (ret := ret) ho hl hin hse hcode hy hK (by rw [hT]; exact hcB) hoB hclB hg (hsize.trans hml.symm) (argsL := As) (rest := rest) (fun sig h => hn.trans (hlen sig h)) hstack hW (by rw [hb]; exact hdg)
    (fun vm₁ hW₁ => ⟨hf.1, hf.2, hPc (T.setVm vm₁) hT hW₁⟩) with ⟨v, vm₁, ⟨U', l2, c2, s2⟩, hW₁, X', ⟨g', mk, t, L, e1, e2, hq, h1, hL, h2, h3⟩, st⟩ | ⟨q, vm₁, ⟨U', l2, c2, s2⟩, hW₁, X', ⟨g', mk, t, L, E, ce, e1, e2, hq, hce, hcv, hcl, h1, hL, h2, h3⟩, st⟩
  · dsimp only [Pt.U, Pt.locs, Pt.cells, Pt.slots] at X' e1 e2 h1 h2 h3 st
    subst h1; subst h2; subst h3
    exact Or.inl ⟨v, (T.setVm vm₁).calling g' mk (Value.ref b :: As).toArray, t, U', L, hT, X', hL, e1, e2, hq, st⟩
  · dsimp only [Pt.U, Pt.locs, Pt.cells, Pt.slots] at X' e1 e2 h1 h2 h3 st hcl
    subst h1; subst h2; subst h3
    exact Or.inr ⟨q, (T.setVm vm₁).calling g' mk (Value.ref b :: As).toArray, t, U', L, E, ce, hT, X', hL, e1, e2, hq, hce, hcv, vx_cls hW₁ hcl, st⟩
theorem vx_runSX {hh : List (Nat × Nat × Nat × Nat)} (S : CallFix p m c cc nL s args Ts own) (hM : vx_Met l y ws rm Pc Qc XC mc ms free) (cw : vx_CSW R s args own index y bytes maxL ret hh ws rm mc ms n) (hp : PreS s H Pc As)
    (hg : g.method = m) (hn : As.length = n) (hsize : g.locals.size = nL) (hstack : g.stack = As.reverse ++ rest) (hW : 2 * g.monitorRoom + (rest.map fun v => v.category).sum ≤ 8) (hdg : decode cc g.pc = .ok (.invokestatic index, 3)) (hf : cells + mc ≤ R.cells ∧ slots + ms ≤ R.slots) :
    vx_Run p l e R s m args below meth c H locs cells slots mc ms g rest (Qc As.toArray) XC free := by
  obtain ⟨⟨hrc, hrs, hfr, hlo, hws, hcw⟩, hcode, hini, hy, hlen, hl, hstt⟩ := cw
  have hK : vx_Back l R p e below s args y 3 8 (PreOf R mc ms Pc) (PostOf Qc mc ms free) (vx_Post XC mc ms free) := vx_backW (hh := hh) (bytes := bytes) (maxL := maxL) (ret := ret) hM hp.1 hrc hrs hfr hlo hws hcw (fun a' U hW => word_at hW (Or.inl (by first | rfl | simp [Cond.onTables, Cond.keeps, Cond.steady])) hini)
  obtain ⟨hx, hb, hml, ho, -⟩ := S
  intro T hT X
  rcases vx_callSX X hx (hh := hh) (bytes := bytes) (maxL := maxL) (ret := ret) ho hl hstt hini hcode hy hK hg (hsize.trans hml.symm) (argsL := As) (rest := rest) (fun sig h => hn.trans (hlen sig h)) hstack hW (by rw [hb]; exact hdg)
    (fun vm₁ hW₁ => ⟨hf.1, hf.2, hp.2 (T.setVm vm₁) hT hW₁⟩) with ⟨v, vm₁, ⟨U', l2, c2, s2⟩, hW₁, X', ⟨g', mk, t, L, e1, e2, hq, h1, hL, h2, h3⟩, st⟩ | ⟨q, vm₁, ⟨U', l2, c2, s2⟩, hW₁, X', ⟨g', mk, t, L, E, ce, e1, e2, hq, hce, hcv, hcl, h1, hL, h2, h3⟩, st⟩
  · dsimp only [Pt.U, Pt.locs, Pt.cells, Pt.slots] at X' e1 e2 h1 h2 h3 st
    subst h1; subst h2; subst h3
    exact Or.inl ⟨v, (T.setVm vm₁).calling g' mk As.toArray, t, U', L, hT, X', hL, e1, e2, hq, st⟩
  · dsimp only [Pt.U, Pt.locs, Pt.cells, Pt.slots] at X' e1 e2 h1 h2 h3 st hcl
    subst h1; subst h2; subst h3
    exact Or.inr ⟨q, (T.setVm vm₁).calling g' mk As.toArray, t, U', L, E, ce, hT, X', hL, e1, e2, hq, hce, hcv, vx_cls hW₁ hcl, st⟩
end
end VXH
theorem vx_ofWH {l : Launch} {y : MethodName} {ws ws' : List Cond} {rm : Room} {Pc : Array Value → State → Prop} {Qc : Array Value → State → Outcome → State → Prop} {XC : String → State → State → Prop} {mc ms : Nat} {free : Addr → Prop} {cc : ByteArray} {maxL : Nat} {ret : Option FieldType} {hh : List (Nat × Nat × Nat × Nat)}
    (hy : plainName y.cls = true) (hw : ws = Cond.codeWith y cc maxL ret hh :: ws')
    (body : ∀ p e s m args below meth c s₁, BodyLoose p l y (headSpec ws rm) cc maxL ret e s m args below meth c s₁ → c.maxLocals = maxL → Pc args s →
      W p l e (headSpec ws rm).room s m args below meth c s.heap [] 0 0 (vx_MQ below Qc XC args s mc ms free) (entryFrame m args maxL)) : vx_Met l y ws rm Pc Qc XC mc ms free := by
  refine MetFree.of_bodyS (code := cc) (maxLocals := maxL) (ret := ret) hy ?_ ?_
  · intro args s m h hn
    obtain ⟨m9, meth, c, hn9, h1, h2, h3, h4, -, h5, h6, -⟩ := Cond.codeWith_spec (atoms_spec (ws := ws) h _ (by rw [hw]; exact List.mem_cons_self))
    cases hn.symm.trans hn9
    exact ⟨meth, c, h1, h2, h3, h4, h5, h6⟩
  · intro p e s m args below meth c s₁ B hml hP _
    have hh0 : s₁.heap = s.heap := by rw [B.state]; rfl
    obtain ⟨t, a1, o, b1, b2, b3⟩ := body p e s m args below meth c s₁ B hml hP s₁ hh0 (Stand.of_body B)
    exact ⟨t, o, a1, b1, b2, b3⟩
/-! ===== END ===== -/
end
section
def wB : List Cond := lw_tbl.filter goodWord
theorem wb_m {w : Cond} (i : Nat) (h : lw_tbl[i]? = some w) (hg : goodWord w = true) : w ∈ wB := List.mem_filter.mpr ⟨List.mem_of_getElem? h, hg⟩
theorem wb_good {w : Cond} (h : w ∈ wB) : (w.onTables && w.keeps) = true ∨ ∃ ty, w = .arrayClass ty := good_of_word (List.mem_filter.mp h).2
theorem wb_in {c1 : Cond} {ws : List Cond} (h : ∀ w ∈ ws, w ∈ wB) : GoodIn (c1 :: wB) ws := fun w hw => ⟨List.mem_cons_of_mem _ (h w hw), wb_good (h w hw)⟩
theorem wb_cons {c : Cond} (h : c ∈ wB) : ∀ w ∈ c :: wB, w ∈ wB := fun w hw => (List.mem_cons.mp hw).elim (fun e => by rw [e]; exact h) id
theorem wb_c2 {c : Cond} {ws : List Cond} (h : c ∈ wB) (t : ∀ w ∈ ws, w ∈ wB) : ∀ w ∈ c :: ws, w ∈ wB := fun w hw => (List.mem_cons.mp hw).elim (fun e => by rw [e]; exact h) (t w)
theorem wb_V {c1 : Cond} {own C : String} {i : Nat} {y : MethodName} {c2 : Cond} (h1 : Cond.methodLink own i y ∈ wB) (h2 : Cond.instanceMethod y ∈ wB) (h3 : Cond.selects C y y ∈ wB) (h4 : Cond.initialized C ∈ wB) (h5 : c2 ∈ wB) : GoodIn (c1 :: wB) (wsV own i C y (c2 :: wB)) := wb_in (wb_c2 h1 (wb_c2 h2 (wb_c2 h3 (wb_c2 h4 (wb_cons h5)))))
theorem wb_S {c1 : Cond} {own : String} {i : Nat} {y : MethodName} {c2 : Cond} (h1 : Cond.methodLink own i y ∈ wB) (h2 : Cond.static y ∈ wB) (h4 : Cond.initialized own ∈ wB) (h5 : c2 ∈ wB) : GoodIn (c1 :: wB) (wsS own i y (c2 :: wB)) := wb_in (wb_c2 h1 (wb_c2 h2 (wb_c2 h4 (wb_cons h5))))
theorem wb_N {c1 c2 : Cond} (h5 : c2 ∈ wB) : GoodIn (c1 :: wB) (c2 :: wB) := wb_in (wb_cons h5)
theorem wt_1 : (Cond.selects "CoverTrees" ⟨"CoverTrees", "checkRoomForRule", "()V"⟩ ⟨"CoverTrees", "checkRoomForRule", "()V"⟩) ∈ wB := wb_m 1 (by decide +kernel) (by decide +kernel)
theorem wt_2 : (Cond.selects "CoverTrees$Forest" ⟨"CoverTrees$Forest", "blankDraft", "()V"⟩ ⟨"CoverTrees$Forest", "blankDraft", "()V"⟩) ∈ wB := wb_m 2 (by decide +kernel) (by decide +kernel)
theorem wt_3 : (Cond.selects "CoverTrees$Forest" ⟨"CoverTrees$Forest", "applyBaseRules", "()V"⟩ ⟨"CoverTrees$Forest", "applyBaseRules", "()V"⟩) ∈ wB := wb_m 3 (by decide +kernel) (by decide +kernel)
theorem wt_4 : (Cond.selects "CoverTrees$Forest" ⟨"CoverTrees$Forest", "baseCost", "(I)I"⟩ ⟨"CoverTrees$Forest", "baseCost", "(I)I"⟩) ∈ wB := wb_m 4 (by decide +kernel) (by decide +kernel)
theorem wt_5 : (Cond.selects "CoverTrees$Forest" ⟨"CoverTrees$Forest", "offer", "(II)V"⟩ ⟨"CoverTrees$Forest", "offer", "(II)V"⟩) ∈ wB := wb_m 5 (by decide +kernel) (by decide +kernel)
theorem wt_6 : (Cond.selects "CoverTrees$Forest" ⟨"CoverTrees$Forest", "settleGoals", "()V"⟩ ⟨"CoverTrees$Forest", "settleGoals", "()V"⟩) ∈ wB := wb_m 6 (by decide +kernel) (by decide +kernel)
theorem wt_7 : (Cond.selects "CoverTrees$Forest" ⟨"CoverTrees$Forest", "cheapestUnsettled", "()I"⟩ ⟨"CoverTrees$Forest", "cheapestUnsettled", "()I"⟩) ∈ wB := wb_m 7 (by decide +kernel) (by decide +kernel)
theorem wt_8 : (Cond.selects "CoverTrees$Forest" ⟨"CoverTrees$Forest", "sizeByRule", "(I)I"⟩ ⟨"CoverTrees$Forest", "sizeByRule", "(I)I"⟩) ∈ wB := wb_m 8 (by decide +kernel) (by decide +kernel)
theorem wt_9 : (Cond.selects "CoverTrees$Forest" ⟨"CoverTrees$Forest", "applyChainRulesFrom", "(I)V"⟩ ⟨"CoverTrees$Forest", "applyChainRulesFrom", "(I)V"⟩) ∈ wB := wb_m 9 (by decide +kernel) (by decide +kernel)
theorem wt_10 : (Cond.selects "CoverTrees$Forest" ⟨"CoverTrees$Forest", "firstAlike", "(I)I"⟩ ⟨"CoverTrees$Forest", "firstAlike", "(I)I"⟩) ∈ wB := wb_m 10 (by decide +kernel) (by decide +kernel)
theorem wt_11 : (Cond.selects "CoverTrees$Forest" ⟨"CoverTrees$Forest", "alike", "(II)Z"⟩ ⟨"CoverTrees$Forest", "alike", "(II)Z"⟩) ∈ wB := wb_m 11 (by decide +kernel) (by decide +kernel)
theorem wt_12 : (Cond.selects "CoverTrees" ⟨"CoverTrees", "checkPlace", "(II)V"⟩ ⟨"CoverTrees", "checkPlace", "(II)V"⟩) ∈ wB := wb_m 12 (by decide +kernel) (by decide +kernel)
theorem wt_13 : (Cond.selects "CoverTrees" ⟨"CoverTrees", "coverSize", "(II)I"⟩ ⟨"CoverTrees", "coverSize", "(II)I"⟩) ∈ wB := wb_m 13 (by decide +kernel) (by decide +kernel)
theorem wt_27 : (Cond.initialized "CoverTrees") ∈ wB := wb_m 27 (by decide +kernel) (by decide +kernel)
theorem wt_28 : (Cond.initialized "CoverTrees$Grammar") ∈ wB := wb_m 28 (by decide +kernel) (by decide +kernel)
theorem wt_29 : (Cond.initialized "CoverTrees$Forest") ∈ wB := wb_m 29 (by decide +kernel) (by decide +kernel)
theorem wt_34 : (Cond.initialized "java/lang/IllegalArgumentException") ∈ wB := wb_m 34 (by decide +kernel) (by decide +kernel)
theorem wt_35 : (Cond.initialized "java/lang/UnsupportedOperationException") ∈ wB := wb_m 35 (by decide +kernel) (by decide +kernel)
theorem wt_36 : (Cond.initialized "java/lang/Math") ∈ wB := wb_m 36 (by decide +kernel) (by decide +kernel)
theorem wt_37 : (Cond.initialized "java/lang/IndexOutOfBoundsException") ∈ wB := wb_m 37 (by decide +kernel) (by decide +kernel)
theorem wt_52 : (Cond.fieldLink "CoverTrees$Grammar" 30 "CoverTrees$Grammar" "operatorCount" "I") ∈ wB := wb_m 52 (by decide +kernel) (by decide +kernel)
theorem wt_53 : (Cond.fieldLink "CoverTrees" 32 "CoverTrees$Grammar" "operatorCount" "I") ∈ wB := wb_m 53 (by decide +kernel) (by decide +kernel)
theorem wt_54 : (Cond.fieldLink "CoverTrees$Grammar" 9 "CoverTrees$Grammar" "parts" "[I") ∈ wB := wb_m 54 (by decide +kernel) (by decide +kernel)
theorem wt_55 : (Cond.fieldLink "CoverTrees" 60 "CoverTrees$Grammar" "parts" "[I") ∈ wB := wb_m 55 (by decide +kernel) (by decide +kernel)
theorem wt_56 : (Cond.fieldLink "CoverTrees$Forest" 79 "CoverTrees$Grammar" "parts" "[I") ∈ wB := wb_m 56 (by decide +kernel) (by decide +kernel)
theorem wt_57 : (Cond.fieldLink "CoverTrees" 29 "CoverTrees$Grammar" "ruleCount" "I") ∈ wB := wb_m 57 (by decide +kernel) (by decide +kernel)
theorem wt_58 : (Cond.fieldLink "CoverTrees$Grammar" 34 "CoverTrees$Grammar" "ruleCount" "I") ∈ wB := wb_m 58 (by decide +kernel) (by decide +kernel)
theorem wt_59 : (Cond.fieldLink "CoverTrees$Forest" 66 "CoverTrees$Grammar" "ruleCount" "I") ∈ wB := wb_m 59 (by decide +kernel) (by decide +kernel)
theorem wt_60 : (Cond.fieldLink "CoverTrees$Grammar" 15 "CoverTrees$Grammar" "goal" "[I") ∈ wB := wb_m 60 (by decide +kernel) (by decide +kernel)
theorem wt_61 : (Cond.fieldLink "CoverTrees$Forest" 85 "CoverTrees$Grammar" "goal" "[I") ∈ wB := wb_m 61 (by decide +kernel) (by decide +kernel)
theorem wt_62 : (Cond.fieldLink "CoverTrees$Grammar" 18 "CoverTrees$Grammar" "operator" "[I") ∈ wB := wb_m 62 (by decide +kernel) (by decide +kernel)
theorem wt_63 : (Cond.fieldLink "CoverTrees$Forest" 71 "CoverTrees$Grammar" "operator" "[I") ∈ wB := wb_m 63 (by decide +kernel) (by decide +kernel)
theorem wt_64 : (Cond.fieldLink "CoverTrees$Grammar" 21 "CoverTrees$Grammar" "one" "[I") ∈ wB := wb_m 64 (by decide +kernel) (by decide +kernel)
theorem wt_65 : (Cond.fieldLink "CoverTrees$Forest" 83 "CoverTrees$Grammar" "one" "[I") ∈ wB := wb_m 65 (by decide +kernel) (by decide +kernel)
theorem wt_66 : (Cond.fieldLink "CoverTrees$Grammar" 24 "CoverTrees$Grammar" "two" "[I") ∈ wB := wb_m 66 (by decide +kernel) (by decide +kernel)
theorem wt_67 : (Cond.fieldLink "CoverTrees$Forest" 84 "CoverTrees$Grammar" "two" "[I") ∈ wB := wb_m 67 (by decide +kernel) (by decide +kernel)
theorem wt_68 : (Cond.fieldLink "CoverTrees$Grammar" 27 "CoverTrees$Grammar" "cost" "[I") ∈ wB := wb_m 68 (by decide +kernel) (by decide +kernel)
theorem wt_69 : (Cond.fieldLink "CoverTrees$Forest" 82 "CoverTrees$Grammar" "cost" "[I") ∈ wB := wb_m 69 (by decide +kernel) (by decide +kernel)
theorem wt_70 : (Cond.lays "CoverTrees$Grammar" "CoverTrees$Grammar" "operatorCount" "I") ∈ wB := wb_m 70 (by decide +kernel) (by decide +kernel)
theorem wt_72 : (Cond.laysFinal "CoverTrees$Grammar" "CoverTrees$Grammar" "parts" "[I") ∈ wB := wb_m 72 (by decide +kernel) (by decide +kernel)
theorem wt_74 : (Cond.lays "CoverTrees$Grammar" "CoverTrees$Grammar" "ruleCount" "I") ∈ wB := wb_m 74 (by decide +kernel) (by decide +kernel)
theorem wt_76 : (Cond.laysFinal "CoverTrees$Grammar" "CoverTrees$Grammar" "goal" "[I") ∈ wB := wb_m 76 (by decide +kernel) (by decide +kernel)
theorem wt_78 : (Cond.laysFinal "CoverTrees$Grammar" "CoverTrees$Grammar" "operator" "[I") ∈ wB := wb_m 78 (by decide +kernel) (by decide +kernel)
theorem wt_80 : (Cond.laysFinal "CoverTrees$Grammar" "CoverTrees$Grammar" "one" "[I") ∈ wB := wb_m 80 (by decide +kernel) (by decide +kernel)
theorem wt_82 : (Cond.laysFinal "CoverTrees$Grammar" "CoverTrees$Grammar" "two" "[I") ∈ wB := wb_m 82 (by decide +kernel) (by decide +kernel)
theorem wt_84 : (Cond.laysFinal "CoverTrees$Grammar" "CoverTrees$Grammar" "cost" "[I") ∈ wB := wb_m 84 (by decide +kernel) (by decide +kernel)
theorem wt_94 : (Cond.fieldLink "CoverTrees$Forest" 40 "CoverTrees$Forest" "grammar" "LCoverTrees$Grammar;") ∈ wB := wb_m 94 (by decide +kernel) (by decide +kernel)
theorem wt_95 : (Cond.fieldLink "CoverTrees" 25 "CoverTrees$Forest" "count" "I") ∈ wB := wb_m 95 (by decide +kernel) (by decide +kernel)
theorem wt_96 : (Cond.fieldLink "CoverTrees$Forest" 44 "CoverTrees$Forest" "count" "I") ∈ wB := wb_m 96 (by decide +kernel) (by decide +kernel)
theorem wt_97 : (Cond.fieldLink "CoverTrees$Forest" 9 "CoverTrees$Forest" "operator" "[I") ∈ wB := wb_m 97 (by decide +kernel) (by decide +kernel)
theorem wt_98 : (Cond.fieldLink "CoverTrees$Forest" 15 "CoverTrees$Forest" "one" "[I") ∈ wB := wb_m 98 (by decide +kernel) (by decide +kernel)
theorem wt_99 : (Cond.fieldLink "CoverTrees$Forest" 18 "CoverTrees$Forest" "two" "[I") ∈ wB := wb_m 99 (by decide +kernel) (by decide +kernel)
theorem wt_100 : (Cond.fieldLink "CoverTrees$Forest" 21 "CoverTrees$Forest" "leastCost" "[I") ∈ wB := wb_m 100 (by decide +kernel) (by decide +kernel)
theorem wt_101 : (Cond.fieldLink "CoverTrees$Forest" 24 "CoverTrees$Forest" "like" "[I") ∈ wB := wb_m 101 (by decide +kernel) (by decide +kernel)
theorem wt_102 : (Cond.fieldLink "CoverTrees" 134 "CoverTrees$Forest" "like" "[I") ∈ wB := wb_m 102 (by decide +kernel) (by decide +kernel)
theorem wt_103 : (Cond.fieldLink "CoverTrees$Forest" 27 "CoverTrees$Forest" "cost" "[I") ∈ wB := wb_m 103 (by decide +kernel) (by decide +kernel)
theorem wt_104 : (Cond.fieldLink "CoverTrees" 108 "CoverTrees$Forest" "cost" "[I") ∈ wB := wb_m 104 (by decide +kernel) (by decide +kernel)
theorem wt_105 : (Cond.fieldLink "CoverTrees$Forest" 30 "CoverTrees$Forest" "rule" "[I") ∈ wB := wb_m 105 (by decide +kernel) (by decide +kernel)
theorem wt_106 : (Cond.fieldLink "CoverTrees" 115 "CoverTrees$Forest" "rule" "[I") ∈ wB := wb_m 106 (by decide +kernel) (by decide +kernel)
theorem wt_107 : (Cond.fieldLink "CoverTrees$Forest" 33 "CoverTrees$Forest" "size" "[I") ∈ wB := wb_m 107 (by decide +kernel) (by decide +kernel)
theorem wt_108 : (Cond.fieldLink "CoverTrees" 143 "CoverTrees$Forest" "size" "[I") ∈ wB := wb_m 108 (by decide +kernel) (by decide +kernel)
theorem wt_109 : (Cond.fieldLink "CoverTrees$Forest" 36 "CoverTrees$Forest" "settled" "[Z") ∈ wB := wb_m 109 (by decide +kernel) (by decide +kernel)
theorem wt_110 : (Cond.laysFinal "CoverTrees$Forest" "CoverTrees$Forest" "grammar" "LCoverTrees$Grammar;") ∈ wB := wb_m 110 (by decide +kernel) (by decide +kernel)
theorem wt_112 : (Cond.lays "CoverTrees$Forest" "CoverTrees$Forest" "count" "I") ∈ wB := wb_m 112 (by decide +kernel) (by decide +kernel)
theorem wt_114 : (Cond.laysFinal "CoverTrees$Forest" "CoverTrees$Forest" "operator" "[I") ∈ wB := wb_m 114 (by decide +kernel) (by decide +kernel)
theorem wt_116 : (Cond.laysFinal "CoverTrees$Forest" "CoverTrees$Forest" "one" "[I") ∈ wB := wb_m 116 (by decide +kernel) (by decide +kernel)
theorem wt_118 : (Cond.laysFinal "CoverTrees$Forest" "CoverTrees$Forest" "two" "[I") ∈ wB := wb_m 118 (by decide +kernel) (by decide +kernel)
theorem wt_120 : (Cond.laysFinal "CoverTrees$Forest" "CoverTrees$Forest" "leastCost" "[I") ∈ wB := wb_m 120 (by decide +kernel) (by decide +kernel)
theorem wt_122 : (Cond.laysFinal "CoverTrees$Forest" "CoverTrees$Forest" "like" "[I") ∈ wB := wb_m 122 (by decide +kernel) (by decide +kernel)
theorem wt_124 : (Cond.laysFinal "CoverTrees$Forest" "CoverTrees$Forest" "cost" "[I") ∈ wB := wb_m 124 (by decide +kernel) (by decide +kernel)
theorem wt_126 : (Cond.laysFinal "CoverTrees$Forest" "CoverTrees$Forest" "rule" "[I") ∈ wB := wb_m 126 (by decide +kernel) (by decide +kernel)
theorem wt_128 : (Cond.laysFinal "CoverTrees$Forest" "CoverTrees$Forest" "size" "[I") ∈ wB := wb_m 128 (by decide +kernel) (by decide +kernel)
theorem wt_130 : (Cond.laysFinal "CoverTrees$Forest" "CoverTrees$Forest" "settled" "[Z") ∈ wB := wb_m 130 (by decide +kernel) (by decide +kernel)
theorem wt_134 : (Cond.fieldLink "CoverTrees" 12 "CoverTrees" "grammar" "LCoverTrees$Grammar;") ∈ wB := wb_m 134 (by decide +kernel) (by decide +kernel)
theorem wt_135 : (Cond.fieldLink "CoverTrees" 21 "CoverTrees" "forest" "LCoverTrees$Forest;") ∈ wB := wb_m 135 (by decide +kernel) (by decide +kernel)
theorem wt_136 : (Cond.laysFinal "CoverTrees" "CoverTrees" "grammar" "LCoverTrees$Grammar;") ∈ wB := wb_m 136 (by decide +kernel) (by decide +kernel)
theorem wt_138 : (Cond.laysFinal "CoverTrees" "CoverTrees" "forest" "LCoverTrees$Forest;") ∈ wB := wb_m 138 (by decide +kernel) (by decide +kernel)
theorem wt_153 : (Cond.methodLink "CoverTrees" 131 ⟨"CoverTrees$Forest", "countStates", "()I"⟩) ∈ wB := wb_m 153 (by decide +kernel) (by decide +kernel)
theorem wt_154 : (Cond.instanceMethod ⟨"CoverTrees$Forest", "countStates", "()I"⟩) ∈ wB := wb_m 154 (by decide +kernel) (by decide +kernel)
theorem wt_155 : (Cond.selects "CoverTrees$Forest" ⟨"CoverTrees$Forest", "countStates", "()I"⟩ ⟨"CoverTrees$Forest", "countStates", "()I"⟩) ∈ wB := wb_m 155 (by decide +kernel) (by decide +kernel)
theorem wt_156 : (Cond.code ⟨"CoverTrees$Forest", "countStates", "()I"⟩ prog_2_method_17_code 3 (some .int)) ∈ wB := wb_m 156 (by decide +kernel) (by decide +kernel)
theorem wt_166 : (Cond.classLink "CoverTrees" 35 "java/lang/IllegalArgumentException") ∈ wB := wb_m 166 (by decide +kernel) (by decide +kernel)
theorem wt_234 : (Cond.classLink "CoverTrees" 42 "java/lang/UnsupportedOperationException") ∈ wB := wb_m 234 (by decide +kernel) (by decide +kernel)
theorem wt_250 : (Cond.methodLink "CoverTrees" 47 ⟨"CoverTrees$Grammar", "addOperator", "(I)I"⟩) ∈ wB := wb_m 250 (by decide +kernel) (by decide +kernel)
theorem wt_251 : (Cond.instanceMethod ⟨"CoverTrees$Grammar", "addOperator", "(I)I"⟩) ∈ wB := wb_m 251 (by decide +kernel) (by decide +kernel)
theorem wt_252 : (Cond.selects "CoverTrees$Grammar" ⟨"CoverTrees$Grammar", "addOperator", "(I)I"⟩ ⟨"CoverTrees$Grammar", "addOperator", "(I)I"⟩) ∈ wB := wb_m 252 (by decide +kernel) (by decide +kernel)
theorem wt_253 : (Cond.code ⟨"CoverTrees$Grammar", "addOperator", "(I)I"⟩ prog_3_method_3_code 3 (some .int)) ∈ wB := wb_m 253 (by decide +kernel) (by decide +kernel)
theorem wt_261 : (Cond.methodLink "CoverTrees" 51 ⟨"CoverTrees", "isGoal", "(I)Z"⟩) ∈ wB := wb_m 261 (by decide +kernel) (by decide +kernel)
theorem wt_262 : (Cond.static ⟨"CoverTrees", "isGoal", "(I)Z"⟩) ∈ wB := wb_m 262 (by decide +kernel) (by decide +kernel)
theorem wt_263 : (Cond.code ⟨"CoverTrees", "isGoal", "(I)Z"⟩ prog_1_method_14_code 1 (some .boolean)) ∈ wB := wb_m 263 (by decide +kernel) (by decide +kernel)
theorem wt_264 : (Cond.methodLink "CoverTrees" 55 ⟨"CoverTrees$Grammar", "hasOperator", "(I)Z"⟩) ∈ wB := wb_m 264 (by decide +kernel) (by decide +kernel)
theorem wt_265 : (Cond.instanceMethod ⟨"CoverTrees$Grammar", "hasOperator", "(I)Z"⟩) ∈ wB := wb_m 265 (by decide +kernel) (by decide +kernel)
theorem wt_266 : (Cond.selects "CoverTrees$Grammar" ⟨"CoverTrees$Grammar", "hasOperator", "(I)Z"⟩ ⟨"CoverTrees$Grammar", "hasOperator", "(I)Z"⟩) ∈ wB := wb_m 266 (by decide +kernel) (by decide +kernel)
theorem wt_267 : (Cond.code ⟨"CoverTrees$Grammar", "hasOperator", "(I)Z"⟩ prog_3_method_2_code 2 (some .boolean)) ∈ wB := wb_m 267 (by decide +kernel) (by decide +kernel)
theorem wt_270 : (Cond.methodLink "CoverTrees" 66 ⟨"CoverTrees", "checkRuleCost", "(I)V"⟩) ∈ wB := wb_m 270 (by decide +kernel) (by decide +kernel)
theorem wt_271 : (Cond.static ⟨"CoverTrees", "checkRuleCost", "(I)V"⟩) ∈ wB := wb_m 271 (by decide +kernel) (by decide +kernel)
theorem wt_272 : (Cond.code ⟨"CoverTrees", "checkRuleCost", "(I)V"⟩ prog_1_method_16_code 1 (Option.none : Option Jvm.ClassFile.FieldType)) ∈ wB := wb_m 272 (by decide +kernel) (by decide +kernel)
theorem wt_274 : (Cond.methodLink "CoverTrees" 70 ⟨"CoverTrees", "checkRoomForRule", "()V"⟩) ∈ wB := wb_m 274 (by decide +kernel) (by decide +kernel)
theorem wt_276 : (Cond.instanceMethod ⟨"CoverTrees", "checkRoomForRule", "()V"⟩) ∈ wB := wb_m 276 (by decide +kernel) (by decide +kernel)
theorem wt_277 : (Cond.code ⟨"CoverTrees", "checkRoomForRule", "()V"⟩ prog_1_method_17_code 1 (Option.none : Option Jvm.ClassFile.FieldType)) ∈ wB := wb_m 277 (by decide +kernel) (by decide +kernel)
theorem wt_279 : (Cond.methodLink "CoverTrees" 73 ⟨"CoverTrees$Grammar", "addRule", "(IIIII)I"⟩) ∈ wB := wb_m 279 (by decide +kernel) (by decide +kernel)
theorem wt_280 : (Cond.instanceMethod ⟨"CoverTrees$Grammar", "addRule", "(IIIII)I"⟩) ∈ wB := wb_m 280 (by decide +kernel) (by decide +kernel)
theorem wt_281 : (Cond.selects "CoverTrees$Grammar" ⟨"CoverTrees$Grammar", "addRule", "(IIIII)I"⟩ ⟨"CoverTrees$Grammar", "addRule", "(IIIII)I"⟩) ∈ wB := wb_m 281 (by decide +kernel) (by decide +kernel)
theorem wt_282 : (Cond.code ⟨"CoverTrees$Grammar", "addRule", "(IIIII)I"⟩ prog_3_method_4_code 7 (some .int)) ∈ wB := wb_m 282 (by decide +kernel) (by decide +kernel)
theorem wt_300 : (Cond.methodLink "CoverTrees" 83 ⟨"CoverTrees$Forest", "has", "(I)Z"⟩) ∈ wB := wb_m 300 (by decide +kernel) (by decide +kernel)
theorem wt_301 : (Cond.instanceMethod ⟨"CoverTrees$Forest", "has", "(I)Z"⟩) ∈ wB := wb_m 301 (by decide +kernel) (by decide +kernel)
theorem wt_302 : (Cond.selects "CoverTrees$Forest" ⟨"CoverTrees$Forest", "has", "(I)Z"⟩ ⟨"CoverTrees$Forest", "has", "(I)Z"⟩) ∈ wB := wb_m 302 (by decide +kernel) (by decide +kernel)
theorem wt_303 : (Cond.code ⟨"CoverTrees$Forest", "has", "(I)Z"⟩ prog_2_method_2_code 2 (some .boolean)) ∈ wB := wb_m 303 (by decide +kernel) (by decide +kernel)
theorem wt_306 : (Cond.methodLink "CoverTrees" 90 ⟨"CoverTrees$Forest", "draft", "(III)V"⟩) ∈ wB := wb_m 306 (by decide +kernel) (by decide +kernel)
theorem wt_307 : (Cond.instanceMethod ⟨"CoverTrees$Forest", "draft", "(III)V"⟩) ∈ wB := wb_m 307 (by decide +kernel) (by decide +kernel)
theorem wt_308 : (Cond.selects "CoverTrees$Forest" ⟨"CoverTrees$Forest", "draft", "(III)V"⟩ ⟨"CoverTrees$Forest", "draft", "(III)V"⟩) ∈ wB := wb_m 308 (by decide +kernel) (by decide +kernel)
theorem wt_309 : (Cond.code ⟨"CoverTrees$Forest", "draft", "(III)V"⟩ prog_2_method_3_code 4 (Option.none : Option Jvm.ClassFile.FieldType)) ∈ wB := wb_m 309 (by decide +kernel) (by decide +kernel)
theorem wt_310 : (Cond.methodLink "CoverTrees$Forest" 48 ⟨"CoverTrees$Forest", "blankDraft", "()V"⟩) ∈ wB := wb_m 310 (by decide +kernel) (by decide +kernel)
theorem wt_312 : (Cond.instanceMethod ⟨"CoverTrees$Forest", "blankDraft", "()V"⟩) ∈ wB := wb_m 312 (by decide +kernel) (by decide +kernel)
theorem wt_313 : (Cond.code ⟨"CoverTrees$Forest", "blankDraft", "()V"⟩ prog_2_method_6_code 3 (Option.none : Option Jvm.ClassFile.FieldType)) ∈ wB := wb_m 313 (by decide +kernel) (by decide +kernel)
theorem wt_315 : (Cond.static ⟨"CoverTrees", "place", "(II)I"⟩) ∈ wB := wb_m 315 (by decide +kernel) (by decide +kernel)
theorem wt_316 : (Cond.code ⟨"CoverTrees", "place", "(II)I"⟩ prog_1_method_15_code 2 (some .int)) ∈ wB := wb_m 316 (by decide +kernel) (by decide +kernel)
theorem wt_317 : (Cond.methodLink "CoverTrees$Forest" 51 ⟨"CoverTrees$Forest", "applyBaseRules", "()V"⟩) ∈ wB := wb_m 317 (by decide +kernel) (by decide +kernel)
theorem wt_319 : (Cond.instanceMethod ⟨"CoverTrees$Forest", "applyBaseRules", "()V"⟩) ∈ wB := wb_m 319 (by decide +kernel) (by decide +kernel)
theorem wt_320 : (Cond.code ⟨"CoverTrees$Forest", "applyBaseRules", "()V"⟩ prog_2_method_7_code 2 (Option.none : Option Jvm.ClassFile.FieldType)) ∈ wB := wb_m 320 (by decide +kernel) (by decide +kernel)
theorem wt_321 : (Cond.methodLink "CoverTrees$Forest" 72 ⟨"CoverTrees$Forest", "baseCost", "(I)I"⟩) ∈ wB := wb_m 321 (by decide +kernel) (by decide +kernel)
theorem wt_323 : (Cond.instanceMethod ⟨"CoverTrees$Forest", "baseCost", "(I)I"⟩) ∈ wB := wb_m 323 (by decide +kernel) (by decide +kernel)
theorem wt_324 : (Cond.code ⟨"CoverTrees$Forest", "baseCost", "(I)I"⟩ prog_2_method_8_code 5 (some .int)) ∈ wB := wb_m 324 (by decide +kernel) (by decide +kernel)
theorem wt_325 : (Cond.methodLink "CoverTrees$Forest" 75 ⟨"CoverTrees$Forest", "offer", "(II)V"⟩) ∈ wB := wb_m 325 (by decide +kernel) (by decide +kernel)
theorem wt_327 : (Cond.instanceMethod ⟨"CoverTrees$Forest", "offer", "(II)V"⟩) ∈ wB := wb_m 327 (by decide +kernel) (by decide +kernel)
theorem wt_328 : (Cond.code ⟨"CoverTrees$Forest", "offer", "(II)V"⟩ prog_2_method_9_code 4 (Option.none : Option Jvm.ClassFile.FieldType)) ∈ wB := wb_m 328 (by decide +kernel) (by decide +kernel)
theorem wt_329 : (Cond.methodLink "CoverTrees$Forest" 54 ⟨"CoverTrees$Forest", "settleGoals", "()V"⟩) ∈ wB := wb_m 329 (by decide +kernel) (by decide +kernel)
theorem wt_331 : (Cond.instanceMethod ⟨"CoverTrees$Forest", "settleGoals", "()V"⟩) ∈ wB := wb_m 331 (by decide +kernel) (by decide +kernel)
theorem wt_332 : (Cond.code ⟨"CoverTrees$Forest", "settleGoals", "()V"⟩ prog_2_method_10_code 3 (Option.none : Option Jvm.ClassFile.FieldType)) ∈ wB := wb_m 332 (by decide +kernel) (by decide +kernel)
theorem wt_333 : (Cond.methodLink "CoverTrees$Forest" 88 ⟨"CoverTrees$Forest", "cheapestUnsettled", "()I"⟩) ∈ wB := wb_m 333 (by decide +kernel) (by decide +kernel)
theorem wt_335 : (Cond.instanceMethod ⟨"CoverTrees$Forest", "cheapestUnsettled", "()I"⟩) ∈ wB := wb_m 335 (by decide +kernel) (by decide +kernel)
theorem wt_336 : (Cond.code ⟨"CoverTrees$Forest", "cheapestUnsettled", "()I"⟩ prog_2_method_11_code 4 (some .int)) ∈ wB := wb_m 336 (by decide +kernel) (by decide +kernel)
theorem wt_337 : (Cond.methodLink "CoverTrees$Forest" 92 ⟨"CoverTrees$Forest", "sizeByRule", "(I)I"⟩) ∈ wB := wb_m 337 (by decide +kernel) (by decide +kernel)
theorem wt_339 : (Cond.instanceMethod ⟨"CoverTrees$Forest", "sizeByRule", "(I)I"⟩) ∈ wB := wb_m 339 (by decide +kernel) (by decide +kernel)
theorem wt_340 : (Cond.code ⟨"CoverTrees$Forest", "sizeByRule", "(I)I"⟩ prog_2_method_13_code 5 (some .int)) ∈ wB := wb_m 340 (by decide +kernel) (by decide +kernel)
theorem wt_341 : (Cond.methodLink "CoverTrees$Forest" 103 ⟨"java/lang/Math", "min", "(II)I"⟩) ∈ wB := wb_m 341 (by decide +kernel) (by decide +kernel)
theorem wt_342 : (Cond.static ⟨"java/lang/Math", "min", "(II)I"⟩) ∈ wB := wb_m 342 (by decide +kernel) (by decide +kernel)
theorem wt_343 : (Cond.code ⟨"java/lang/Math", "min", "(II)I"⟩ prog_9_method_69_code 2 (some .int)) ∈ wB := wb_m 343 (by decide +kernel) (by decide +kernel)
theorem wt_344 : (Cond.methodLink "CoverTrees$Forest" 95 ⟨"CoverTrees$Forest", "applyChainRulesFrom", "(I)V"⟩) ∈ wB := wb_m 344 (by decide +kernel) (by decide +kernel)
theorem wt_346 : (Cond.instanceMethod ⟨"CoverTrees$Forest", "applyChainRulesFrom", "(I)V"⟩) ∈ wB := wb_m 346 (by decide +kernel) (by decide +kernel)
theorem wt_347 : (Cond.code ⟨"CoverTrees$Forest", "applyChainRulesFrom", "(I)V"⟩ prog_2_method_12_code 4 (Option.none : Option Jvm.ClassFile.FieldType)) ∈ wB := wb_m 347 (by decide +kernel) (by decide +kernel)
theorem wt_348 : (Cond.methodLink "CoverTrees$Forest" 99 ⟨"CoverTrees$Grammar", "isChainFrom", "(II)Z"⟩) ∈ wB := wb_m 348 (by decide +kernel) (by decide +kernel)
theorem wt_349 : (Cond.instanceMethod ⟨"CoverTrees$Grammar", "isChainFrom", "(II)Z"⟩) ∈ wB := wb_m 349 (by decide +kernel) (by decide +kernel)
theorem wt_350 : (Cond.selects "CoverTrees$Grammar" ⟨"CoverTrees$Grammar", "isChainFrom", "(II)Z"⟩ ⟨"CoverTrees$Grammar", "isChainFrom", "(II)Z"⟩) ∈ wB := wb_m 350 (by decide +kernel) (by decide +kernel)
theorem wt_351 : (Cond.code ⟨"CoverTrees$Grammar", "isChainFrom", "(II)Z"⟩ prog_3_method_5_code 3 (some .boolean)) ∈ wB := wb_m 351 (by decide +kernel) (by decide +kernel)
theorem wt_352 : (Cond.methodLink "CoverTrees" 94 ⟨"CoverTrees$Forest", "draftIsTooDear", "()Z"⟩) ∈ wB := wb_m 352 (by decide +kernel) (by decide +kernel)
theorem wt_353 : (Cond.instanceMethod ⟨"CoverTrees$Forest", "draftIsTooDear", "()Z"⟩) ∈ wB := wb_m 353 (by decide +kernel) (by decide +kernel)
theorem wt_354 : (Cond.selects "CoverTrees$Forest" ⟨"CoverTrees$Forest", "draftIsTooDear", "()Z"⟩ ⟨"CoverTrees$Forest", "draftIsTooDear", "()Z"⟩) ∈ wB := wb_m 354 (by decide +kernel) (by decide +kernel)
theorem wt_355 : (Cond.code ⟨"CoverTrees$Forest", "draftIsTooDear", "()Z"⟩ prog_2_method_4_code 2 (some .boolean)) ∈ wB := wb_m 355 (by decide +kernel) (by decide +kernel)
theorem wt_358 : (Cond.methodLink "CoverTrees" 100 ⟨"CoverTrees$Forest", "keepDraft", "()I"⟩) ∈ wB := wb_m 358 (by decide +kernel) (by decide +kernel)
theorem wt_359 : (Cond.instanceMethod ⟨"CoverTrees$Forest", "keepDraft", "()I"⟩) ∈ wB := wb_m 359 (by decide +kernel) (by decide +kernel)
theorem wt_360 : (Cond.selects "CoverTrees$Forest" ⟨"CoverTrees$Forest", "keepDraft", "()I"⟩ ⟨"CoverTrees$Forest", "keepDraft", "()I"⟩) ∈ wB := wb_m 360 (by decide +kernel) (by decide +kernel)
theorem wt_361 : (Cond.code ⟨"CoverTrees$Forest", "keepDraft", "()I"⟩ prog_2_method_5_code 2 (some .int)) ∈ wB := wb_m 361 (by decide +kernel) (by decide +kernel)
theorem wt_362 : (Cond.methodLink "CoverTrees$Forest" 62 ⟨"CoverTrees$Forest", "firstAlike", "(I)I"⟩) ∈ wB := wb_m 362 (by decide +kernel) (by decide +kernel)
theorem wt_364 : (Cond.instanceMethod ⟨"CoverTrees$Forest", "firstAlike", "(I)I"⟩) ∈ wB := wb_m 364 (by decide +kernel) (by decide +kernel)
theorem wt_365 : (Cond.code ⟨"CoverTrees$Forest", "firstAlike", "(I)I"⟩ prog_2_method_15_code 3 (some .int)) ∈ wB := wb_m 365 (by decide +kernel) (by decide +kernel)
theorem wt_366 : (Cond.methodLink "CoverTrees$Forest" 108 ⟨"CoverTrees$Forest", "alike", "(II)Z"⟩) ∈ wB := wb_m 366 (by decide +kernel) (by decide +kernel)
theorem wt_368 : (Cond.instanceMethod ⟨"CoverTrees$Forest", "alike", "(II)Z"⟩) ∈ wB := wb_m 368 (by decide +kernel) (by decide +kernel)
theorem wt_369 : (Cond.code ⟨"CoverTrees$Forest", "alike", "(II)Z"⟩ prog_2_method_16_code 6 (some .boolean)) ∈ wB := wb_m 369 (by decide +kernel) (by decide +kernel)
theorem wt_377 : (Cond.methodLink "CoverTrees" 104 ⟨"CoverTrees", "checkPlace", "(II)V"⟩) ∈ wB := wb_m 377 (by decide +kernel) (by decide +kernel)
theorem wt_379 : (Cond.instanceMethod ⟨"CoverTrees", "checkPlace", "(II)V"⟩) ∈ wB := wb_m 379 (by decide +kernel) (by decide +kernel)
theorem wt_380 : (Cond.code ⟨"CoverTrees", "checkPlace", "(II)V"⟩ prog_1_method_18_code 3 (Option.none : Option Jvm.ClassFile.FieldType)) ∈ wB := wb_m 380 (by decide +kernel) (by decide +kernel)
theorem wt_382 : (Cond.methodLink "CoverTrees" 111 ⟨"CoverTrees", "place", "(II)I"⟩) ∈ wB := wb_m 382 (by decide +kernel) (by decide +kernel)
theorem wt_397 : (Cond.methodLink "CoverTrees" 118 ⟨"CoverTrees", "coverSize", "(II)I"⟩) ∈ wB := wb_m 397 (by decide +kernel) (by decide +kernel)
theorem wt_399 : (Cond.instanceMethod ⟨"CoverTrees", "coverSize", "(II)I"⟩) ∈ wB := wb_m 399 (by decide +kernel) (by decide +kernel)
theorem wt_400 : (Cond.code ⟨"CoverTrees", "coverSize", "(II)I"⟩ prog_1_method_19_code 4 (some .int)) ∈ wB := wb_m 400 (by decide +kernel) (by decide +kernel)
theorem wt_411 : (Cond.classLink "CoverTrees" 123 "java/lang/IndexOutOfBoundsException") ∈ wB := wb_m 411 (by decide +kernel) (by decide +kernel)
theorem wt_427 : (Cond.methodLink "CoverTrees" 128 ⟨"CoverTrees$Forest", "findInCover", "(II)I"⟩) ∈ wB := wb_m 427 (by decide +kernel) (by decide +kernel)
theorem wt_428 : (Cond.instanceMethod ⟨"CoverTrees$Forest", "findInCover", "(II)I"⟩) ∈ wB := wb_m 428 (by decide +kernel) (by decide +kernel)
theorem wt_429 : (Cond.selects "CoverTrees$Forest" ⟨"CoverTrees$Forest", "findInCover", "(II)I"⟩ ⟨"CoverTrees$Forest", "findInCover", "(II)I"⟩) ∈ wB := wb_m 429 (by decide +kernel) (by decide +kernel)
theorem wt_430 : (Cond.code ⟨"CoverTrees$Forest", "findInCover", "(II)I"⟩ prog_2_method_14_code 9 (some .int)) ∈ wB := wb_m 430 (by decide +kernel) (by decide +kernel)
theorem wt_463 : (Cond.lays "CoverTreesModel" "CoverTreesModel" "thrown" "I") ∈ wB := wb_m 463 (by decide +kernel) (by decide +kernel)
theorem wt_465 : (Cond.lays "CoverTreesModel" "CoverTreesModel" "operators" "I") ∈ wB := wb_m 465 (by decide +kernel) (by decide +kernel)
theorem wt_467 : (Cond.laysFinal "CoverTreesModel" "CoverTreesModel" "parts" "[I") ∈ wB := wb_m 467 (by decide +kernel) (by decide +kernel)
theorem wt_469 : (Cond.lays "CoverTreesModel" "CoverTreesModel" "rules" "I") ∈ wB := wb_m 469 (by decide +kernel) (by decide +kernel)
theorem wt_471 : (Cond.laysFinal "CoverTreesModel" "CoverTreesModel" "goals" "[I") ∈ wB := wb_m 471 (by decide +kernel) (by decide +kernel)
theorem wt_473 : (Cond.laysFinal "CoverTreesModel" "CoverTreesModel" "prices" "[I") ∈ wB := wb_m 473 (by decide +kernel) (by decide +kernel)
theorem wt_475 : (Cond.laysFinal "CoverTreesModel" "CoverTreesModel" "of" "[I") ∈ wB := wb_m 475 (by decide +kernel) (by decide +kernel)
theorem wt_477 : (Cond.laysFinal "CoverTreesModel" "CoverTreesModel" "first" "[I") ∈ wB := wb_m 477 (by decide +kernel) (by decide +kernel)
theorem wt_479 : (Cond.laysFinal "CoverTreesModel" "CoverTreesModel" "second" "[I") ∈ wB := wb_m 479 (by decide +kernel) (by decide +kernel)
theorem wt_481 : (Cond.lays "CoverTreesModel" "CoverTreesModel" "nodes" "I") ∈ wB := wb_m 481 (by decide +kernel) (by decide +kernel)
theorem wt_483 : (Cond.laysFinal "CoverTreesModel" "CoverTreesModel" "kinds" "[I") ∈ wB := wb_m 483 (by decide +kernel) (by decide +kernel)
theorem wt_485 : (Cond.laysFinal "CoverTreesModel" "CoverTreesModel" "one" "[I") ∈ wB := wb_m 485 (by decide +kernel) (by decide +kernel)
theorem wt_487 : (Cond.laysFinal "CoverTreesModel" "CoverTreesModel" "two" "[I") ∈ wB := wb_m 487 (by decide +kernel) (by decide +kernel)
theorem wt_489 : (Cond.laysFinal "CoverTreesModel" "CoverTreesModel" "costs" "[I") ∈ wB := wb_m 489 (by decide +kernel) (by decide +kernel)
theorem wt_491 : (Cond.laysFinal "CoverTreesModel" "CoverTreesModel" "chosen" "[I") ∈ wB := wb_m 491 (by decide +kernel) (by decide +kernel)
theorem wt_493 : (Cond.laysFinal "CoverTreesModel" "CoverTreesModel" "sizes" "[I") ∈ wB := wb_m 493 (by decide +kernel) (by decide +kernel)
theorem wt_495 : (Cond.laysFinal "CoverTreesModel" "CoverTreesModel" "settled" "[Z") ∈ wB := wb_m 495 (by decide +kernel) (by decide +kernel)
theorem wt_497 : (Cond.lays "CoverTreesModel" "CoverTreesModel" "atNode" "I") ∈ wB := wb_m 497 (by decide +kernel) (by decide +kernel)
theorem wt_499 : (Cond.lays "CoverTreesModel" "CoverTreesModel" "atRule" "I") ∈ wB := wb_m 499 (by decide +kernel) (by decide +kernel)
def RC : String := "CoverTrees"
def TC : u_T := fun k => match k with
  | 0 => ("CoverTrees", "grammar", "LCoverTrees$Grammar;", true)
  | _ => ("CoverTrees", "forest", "LCoverTrees$Forest;", true)
def tyC : Nat → FieldType := fun k => match k with
  | 0 => .object "CoverTrees$Grammar"
  | _ => .object "CoverTrees$Forest"
theorem nmC : ∀ a, a < 2 → ∀ b, b < 2 → a ≠ b → (TC a).2.1 ≠ (TC b).2.1 := by decide +kernel
theorem tyC_ok : ∀ k, k < 2 → parseFieldDescriptor (TC k).2.2.1 = some (tyC k) := by decide +kernel
theorem inC : ∀ w ∈ u_ws RC TC 2, w ∈ wB := by
  intro w hw
  obtain ⟨k, hk, rfl⟩ := List.mem_map.mp hw
  have hk := List.mem_range.mp hk
  match k, hk with
  | 0, _ => exact wt_136
  | 1, _ => exact wt_138
  | k + 2, hk => exact absurd hk (by omega)
def RG : String := "CoverTrees$Grammar"
def TG : u_T := fun k => match k with
  | 0 => ("CoverTrees$Grammar", "operatorCount", "I", false)
  | 1 => ("CoverTrees$Grammar", "parts", "[I", true)
  | 2 => ("CoverTrees$Grammar", "ruleCount", "I", false)
  | 3 => ("CoverTrees$Grammar", "goal", "[I", true)
  | 4 => ("CoverTrees$Grammar", "operator", "[I", true)
  | 5 => ("CoverTrees$Grammar", "one", "[I", true)
  | 6 => ("CoverTrees$Grammar", "two", "[I", true)
  | _ => ("CoverTrees$Grammar", "cost", "[I", true)
def tyG : Nat → FieldType := fun k => match k with
  | 0 => .int
  | 1 => .array .int
  | 2 => .int
  | 3 => .array .int
  | 4 => .array .int
  | 5 => .array .int
  | 6 => .array .int
  | _ => .array .int
theorem nmG : ∀ a, a < 8 → ∀ b, b < 8 → a ≠ b → (TG a).2.1 ≠ (TG b).2.1 := by decide +kernel
theorem tyG_ok : ∀ k, k < 8 → parseFieldDescriptor (TG k).2.2.1 = some (tyG k) := by decide +kernel
theorem inG : ∀ w ∈ u_ws RG TG 8, w ∈ wB := by
  intro w hw
  obtain ⟨k, hk, rfl⟩ := List.mem_map.mp hw
  have hk := List.mem_range.mp hk
  match k, hk with
  | 0, _ => exact wt_70
  | 1, _ => exact wt_72
  | 2, _ => exact wt_74
  | 3, _ => exact wt_76
  | 4, _ => exact wt_78
  | 5, _ => exact wt_80
  | 6, _ => exact wt_82
  | 7, _ => exact wt_84
  | k + 8, hk => exact absurd hk (by omega)
def RF : String := "CoverTrees$Forest"
def TF : u_T := fun k => match k with
  | 0 => ("CoverTrees$Forest", "grammar", "LCoverTrees$Grammar;", true)
  | 1 => ("CoverTrees$Forest", "count", "I", false)
  | 2 => ("CoverTrees$Forest", "operator", "[I", true)
  | 3 => ("CoverTrees$Forest", "one", "[I", true)
  | 4 => ("CoverTrees$Forest", "two", "[I", true)
  | 5 => ("CoverTrees$Forest", "leastCost", "[I", true)
  | 6 => ("CoverTrees$Forest", "like", "[I", true)
  | 7 => ("CoverTrees$Forest", "cost", "[I", true)
  | 8 => ("CoverTrees$Forest", "rule", "[I", true)
  | 9 => ("CoverTrees$Forest", "size", "[I", true)
  | _ => ("CoverTrees$Forest", "settled", "[Z", true)
def tyF : Nat → FieldType := fun k => match k with
  | 0 => .object "CoverTrees$Grammar"
  | 1 => .int
  | 2 => .array .int
  | 3 => .array .int
  | 4 => .array .int
  | 5 => .array .int
  | 6 => .array .int
  | 7 => .array .int
  | 8 => .array .int
  | 9 => .array .int
  | _ => .array .boolean
theorem nmF : ∀ a, a < 11 → ∀ b, b < 11 → a ≠ b → (TF a).2.1 ≠ (TF b).2.1 := by decide +kernel
theorem tyF_ok : ∀ k, k < 11 → parseFieldDescriptor (TF k).2.2.1 = some (tyF k) := by decide +kernel
theorem inF : ∀ w ∈ u_ws RF TF 11, w ∈ wB := by
  intro w hw
  obtain ⟨k, hk, rfl⟩ := List.mem_map.mp hw
  have hk := List.mem_range.mp hk
  match k, hk with
  | 0, _ => exact wt_110
  | 1, _ => exact wt_112
  | 2, _ => exact wt_114
  | 3, _ => exact wt_116
  | 4, _ => exact wt_118
  | 5, _ => exact wt_120
  | 6, _ => exact wt_122
  | 7, _ => exact wt_124
  | 8, _ => exact wt_126
  | 9, _ => exact wt_128
  | 10, _ => exact wt_130
  | k + 11, hk => exact absurd hk (by omega)
def RM : String := "CoverTreesModel"
def TM : u_T := fun k => match k with
  | 0 => ("CoverTreesModel", "thrown", "I", false)
  | 1 => ("CoverTreesModel", "operators", "I", false)
  | 2 => ("CoverTreesModel", "parts", "[I", true)
  | 3 => ("CoverTreesModel", "rules", "I", false)
  | 4 => ("CoverTreesModel", "goals", "[I", true)
  | 5 => ("CoverTreesModel", "prices", "[I", true)
  | 6 => ("CoverTreesModel", "of", "[I", true)
  | 7 => ("CoverTreesModel", "first", "[I", true)
  | 8 => ("CoverTreesModel", "second", "[I", true)
  | 9 => ("CoverTreesModel", "nodes", "I", false)
  | 10 => ("CoverTreesModel", "kinds", "[I", true)
  | 11 => ("CoverTreesModel", "one", "[I", true)
  | 12 => ("CoverTreesModel", "two", "[I", true)
  | 13 => ("CoverTreesModel", "costs", "[I", true)
  | 14 => ("CoverTreesModel", "chosen", "[I", true)
  | 15 => ("CoverTreesModel", "sizes", "[I", true)
  | 16 => ("CoverTreesModel", "settled", "[Z", true)
  | 17 => ("CoverTreesModel", "atNode", "I", false)
  | _ => ("CoverTreesModel", "atRule", "I", false)
def tyM : Nat → FieldType := fun k => match k with
  | 0 => .int
  | 1 => .int
  | 2 => .array .int
  | 3 => .int
  | 4 => .array .int
  | 5 => .array .int
  | 6 => .array .int
  | 7 => .array .int
  | 8 => .array .int
  | 9 => .int
  | 10 => .array .int
  | 11 => .array .int
  | 12 => .array .int
  | 13 => .array .int
  | 14 => .array .int
  | 15 => .array .int
  | 16 => .array .boolean
  | 17 => .int
  | _ => .int
theorem nmM : ∀ a, a < 19 → ∀ b, b < 19 → a ≠ b → (TM a).2.1 ≠ (TM b).2.1 := by decide +kernel
theorem tyM_ok : ∀ k, k < 19 → parseFieldDescriptor (TM k).2.2.1 = some (tyM k) := by decide +kernel
theorem inM : ∀ w ∈ u_ws RM TM 19, w ∈ wB := by
  intro w hw
  obtain ⟨k, hk, rfl⟩ := List.mem_map.mp hw
  have hk := List.mem_range.mp hk
  match k, hk with
  | 0, _ => exact wt_463
  | 1, _ => exact wt_465
  | 2, _ => exact wt_467
  | 3, _ => exact wt_469
  | 4, _ => exact wt_471
  | 5, _ => exact wt_473
  | 6, _ => exact wt_475
  | 7, _ => exact wt_477
  | 8, _ => exact wt_479
  | 9, _ => exact wt_481
  | 10, _ => exact wt_483
  | 11, _ => exact wt_485
  | 12, _ => exact wt_487
  | 13, _ => exact wt_489
  | 14, _ => exact wt_491
  | 15, _ => exact wt_493
  | 16, _ => exact wt_495
  | 17, _ => exact wt_497
  | 18, _ => exact wt_499
  | k + 19, hk => exact absurd hk (by omega)
def RL : String := "CoverTreesLaw"
abbrev vcl : List vw_C := [(RC, TC, 2), (RG, TG, 8), (RF, TF, 11), (RM, TM, 19)]
end
section
abbrev cC_clear : ByteArray := prog_1_method_2_code
abbrev yC_clear : MethodName := ⟨"CoverTrees", "clear", "()V"⟩
abbrev kC_clear : Cond := .code yC_clear cC_clear 1 none
abbrev wsC_clear : List Cond := kC_clear :: wB
theorem dC_clear_0 : decode cC_clear 0 = .ok (.aload_n 0, 1) := by decide +kernel
theorem dC_clear_1 : decode cC_clear 1 = .ok (.getfield 21, 3) := by decide +kernel
theorem dC_clear_4 : decode cC_clear 4 = .ok (.iconst 0, 1) := by decide +kernel
theorem dC_clear_5 : decode cC_clear 5 = .ok (.putfield 25, 3) := by decide +kernel
theorem dC_clear_8 : decode cC_clear 8 = .ok (.aload_n 0, 1) := by decide +kernel
theorem dC_clear_9 : decode cC_clear 9 = .ok (.getfield 12, 3) := by decide +kernel
theorem dC_clear_12 : decode cC_clear 12 = .ok (.iconst 0, 1) := by decide +kernel
theorem dC_clear_13 : decode cC_clear 13 = .ok (.putfield 29, 3) := by decide +kernel
theorem dC_clear_16 : decode cC_clear 16 = .ok (.aload_n 0, 1) := by decide +kernel
theorem dC_clear_17 : decode cC_clear 17 = .ok (.getfield 12, 3) := by decide +kernel
theorem dC_clear_20 : decode cC_clear 20 = .ok (.iconst 0, 1) := by decide +kernel
theorem dC_clear_21 : decode cC_clear 21 = .ok (.putfield 32, 3) := by decide +kernel
theorem dC_clear_24 : decode cC_clear 24 = .ok (.return_, 1) := by decide +kernel
abbrev cC_fell : ByteArray := prog_1_method_3_code
abbrev yC_fell : MethodName := ⟨"CoverTrees", "fell", "()V"⟩
abbrev kC_fell : Cond := .code yC_fell cC_fell 1 none
abbrev wsC_fell : List Cond := kC_fell :: wB
theorem dC_fell_0 : decode cC_fell 0 = .ok (.aload_n 0, 1) := by decide +kernel
theorem dC_fell_1 : decode cC_fell 1 = .ok (.getfield 21, 3) := by decide +kernel
theorem dC_fell_4 : decode cC_fell 4 = .ok (.iconst 0, 1) := by decide +kernel
theorem dC_fell_5 : decode cC_fell 5 = .ok (.putfield 25, 3) := by decide +kernel
theorem dC_fell_8 : decode cC_fell 8 = .ok (.return_, 1) := by decide +kernel
abbrev cC_operator : ByteArray := prog_1_method_4_code
abbrev yC_operator : MethodName := ⟨"CoverTrees", "operator", "(I)I"⟩
abbrev kC_operator : Cond := .code yC_operator cC_operator 2 (some .int)
abbrev wsC_operator : List Cond := kC_operator :: wB
theorem dC_operator_0 : decode cC_operator 0 = .ok (.iload_n 1, 1) := by decide +kernel
theorem dC_operator_1 : decode cC_operator 1 = .ok (.ifCond .lt 8, 3) := by decide +kernel
theorem dC_operator_4 : decode cC_operator 4 = .ok (.iload_n 1, 1) := by decide +kernel
theorem dC_operator_5 : decode cC_operator 5 = .ok (.iconst 2, 1) := by decide +kernel
theorem dC_operator_6 : decode cC_operator 6 = .ok (.if_icmp .le 13, 3) := by decide +kernel
theorem dC_operator_9 : decode cC_operator 9 = .ok (.new 35, 3) := by decide +kernel
theorem dC_operator_12 : decode cC_operator 12 = .ok (.dup, 1) := by decide +kernel
theorem dC_operator_13 : decode cC_operator 13 = .ok (.ldc 37, 2) := by decide +kernel
theorem dC_operator_15 : decode cC_operator 15 = .ok (.invokespecial 39, 3) := by decide +kernel
theorem dC_operator_18 : decode cC_operator 18 = .ok (.athrow, 1) := by decide +kernel
theorem dC_operator_19 : decode cC_operator 19 = .ok (.aload_n 0, 1) := by decide +kernel
theorem dC_operator_20 : decode cC_operator 20 = .ok (.getfield 12, 3) := by decide +kernel
theorem dC_operator_23 : decode cC_operator 23 = .ok (.getfield 32, 3) := by decide +kernel
theorem dC_operator_26 : decode cC_operator 26 = .ok (.bipush 10, 2) := by decide +kernel
theorem dC_operator_28 : decode cC_operator 28 = .ok (.if_icmp .lt 13, 3) := by decide +kernel
theorem dC_operator_31 : decode cC_operator 31 = .ok (.new 42, 3) := by decide +kernel
theorem dC_operator_34 : decode cC_operator 34 = .ok (.dup, 1) := by decide +kernel
theorem dC_operator_35 : decode cC_operator 35 = .ok (.ldc 44, 2) := by decide +kernel
theorem dC_operator_37 : decode cC_operator 37 = .ok (.invokespecial 46, 3) := by decide +kernel
theorem dC_operator_40 : decode cC_operator 40 = .ok (.athrow, 1) := by decide +kernel
theorem dC_operator_41 : decode cC_operator 41 = .ok (.aload_n 0, 1) := by decide +kernel
theorem dC_operator_42 : decode cC_operator 42 = .ok (.getfield 12, 3) := by decide +kernel
theorem dC_operator_45 : decode cC_operator 45 = .ok (.iload_n 1, 1) := by decide +kernel
theorem dC_operator_46 : decode cC_operator 46 = .ok (.invokevirtual 47, 3) := by decide +kernel
theorem dC_operator_49 : decode cC_operator 49 = .ok (.ireturn, 1) := by decide +kernel
abbrev cC_base : ByteArray := prog_1_method_5_code
abbrev yC_base : MethodName := ⟨"CoverTrees", "base", "(IIIII)I"⟩
abbrev kC_base : Cond := .code yC_base cC_base 7 (some .int)
abbrev wsC_base : List Cond := kC_base :: wB
theorem dC_base_0 : decode cC_base 0 = .ok (.iload_n 1, 1) := by decide +kernel
theorem dC_base_1 : decode cC_base 1 = .ok (.invokestatic 51, 3) := by decide +kernel
theorem dC_base_4 : decode cC_base 4 = .ok (.ifCond .eq 14, 3) := by decide +kernel
theorem dC_base_7 : decode cC_base 7 = .ok (.aload_n 0, 1) := by decide +kernel
theorem dC_base_8 : decode cC_base 8 = .ok (.getfield 12, 3) := by decide +kernel
theorem dC_base_11 : decode cC_base 11 = .ok (.iload_n 2, 1) := by decide +kernel
theorem dC_base_12 : decode cC_base 12 = .ok (.invokevirtual 55, 3) := by decide +kernel
theorem dC_base_15 : decode cC_base 15 = .ok (.ifCond .ne 13, 3) := by decide +kernel
theorem dC_base_18 : decode cC_base 18 = .ok (.new 35, 3) := by decide +kernel
theorem dC_base_21 : decode cC_base 21 = .ok (.dup, 1) := by decide +kernel
theorem dC_base_22 : decode cC_base 22 = .ok (.ldc 58, 2) := by decide +kernel
theorem dC_base_24 : decode cC_base 24 = .ok (.invokespecial 39, 3) := by decide +kernel
theorem dC_base_27 : decode cC_base 27 = .ok (.athrow, 1) := by decide +kernel
theorem dC_base_28 : decode cC_base 28 = .ok (.aload_n 0, 1) := by decide +kernel
theorem dC_base_29 : decode cC_base 29 = .ok (.getfield 12, 3) := by decide +kernel
theorem dC_base_32 : decode cC_base 32 = .ok (.getfield 60, 3) := by decide +kernel
theorem dC_base_35 : decode cC_base 35 = .ok (.iload_n 2, 1) := by decide +kernel
theorem dC_base_36 : decode cC_base 36 = .ok (.iaload, 1) := by decide +kernel
theorem dC_base_37 : decode cC_base 37 = .ok (.istore 6, 2) := by decide +kernel
theorem dC_base_39 : decode cC_base 39 = .ok (.iload 6, 2) := by decide +kernel
theorem dC_base_41 : decode cC_base 41 = .ok (.iconst 1, 1) := by decide +kernel
theorem dC_base_42 : decode cC_base 42 = .ok (.if_icmp .lt 10, 3) := by decide +kernel
theorem dC_base_45 : decode cC_base 45 = .ok (.iload_n 3, 1) := by decide +kernel
theorem dC_base_46 : decode cC_base 46 = .ok (.invokestatic 51, 3) := by decide +kernel
theorem dC_base_49 : decode cC_base 49 = .ok (.ifCond .eq 17, 3) := by decide +kernel
theorem dC_base_52 : decode cC_base 52 = .ok (.iload 6, 2) := by decide +kernel
theorem dC_base_54 : decode cC_base 54 = .ok (.iconst 2, 1) := by decide +kernel
theorem dC_base_55 : decode cC_base 55 = .ok (.if_icmp .lt 21, 3) := by decide +kernel
theorem dC_base_58 : decode cC_base 58 = .ok (.iload 4, 2) := by decide +kernel
theorem dC_base_60 : decode cC_base 60 = .ok (.invokestatic 51, 3) := by decide +kernel
theorem dC_base_63 : decode cC_base 63 = .ok (.ifCond .ne 13, 3) := by decide +kernel
theorem dC_base_66 : decode cC_base 66 = .ok (.new 35, 3) := by decide +kernel
theorem dC_base_69 : decode cC_base 69 = .ok (.dup, 1) := by decide +kernel
theorem dC_base_70 : decode cC_base 70 = .ok (.ldc 64, 2) := by decide +kernel
theorem dC_base_72 : decode cC_base 72 = .ok (.invokespecial 39, 3) := by decide +kernel
theorem dC_base_75 : decode cC_base 75 = .ok (.athrow, 1) := by decide +kernel
theorem dC_base_76 : decode cC_base 76 = .ok (.iload 5, 2) := by decide +kernel
theorem dC_base_78 : decode cC_base 78 = .ok (.invokestatic 66, 3) := by decide +kernel
theorem dC_base_81 : decode cC_base 81 = .ok (.aload_n 0, 1) := by decide +kernel
theorem dC_base_82 : decode cC_base 82 = .ok (.invokevirtual 70, 3) := by decide +kernel
theorem dC_base_85 : decode cC_base 85 = .ok (.aload_n 0, 1) := by decide +kernel
theorem dC_base_86 : decode cC_base 86 = .ok (.getfield 21, 3) := by decide +kernel
theorem dC_base_89 : decode cC_base 89 = .ok (.iconst 0, 1) := by decide +kernel
theorem dC_base_90 : decode cC_base 90 = .ok (.putfield 25, 3) := by decide +kernel
theorem dC_base_93 : decode cC_base 93 = .ok (.aload_n 0, 1) := by decide +kernel
theorem dC_base_94 : decode cC_base 94 = .ok (.getfield 12, 3) := by decide +kernel
theorem dC_base_97 : decode cC_base 97 = .ok (.iload_n 1, 1) := by decide +kernel
theorem dC_base_98 : decode cC_base 98 = .ok (.iload_n 2, 1) := by decide +kernel
theorem dC_base_99 : decode cC_base 99 = .ok (.iload 6, 2) := by decide +kernel
theorem dC_base_101 : decode cC_base 101 = .ok (.iconst 1, 1) := by decide +kernel
theorem dC_base_102 : decode cC_base 102 = .ok (.if_icmp .lt 7, 3) := by decide +kernel
theorem dC_base_105 : decode cC_base 105 = .ok (.iload_n 3, 1) := by decide +kernel
theorem dC_base_106 : decode cC_base 106 = .ok (.goto 4, 3) := by decide +kernel
theorem dC_base_109 : decode cC_base 109 = .ok (.iconst 0, 1) := by decide +kernel
theorem dC_base_110 : decode cC_base 110 = .ok (.iload 6, 2) := by decide +kernel
theorem dC_base_112 : decode cC_base 112 = .ok (.iconst 2, 1) := by decide +kernel
theorem dC_base_113 : decode cC_base 113 = .ok (.if_icmp .lt 8, 3) := by decide +kernel
theorem dC_base_116 : decode cC_base 116 = .ok (.iload 4, 2) := by decide +kernel
theorem dC_base_118 : decode cC_base 118 = .ok (.goto 4, 3) := by decide +kernel
theorem dC_base_121 : decode cC_base 121 = .ok (.iconst 0, 1) := by decide +kernel
theorem dC_base_122 : decode cC_base 122 = .ok (.iload 5, 2) := by decide +kernel
theorem dC_base_124 : decode cC_base 124 = .ok (.invokevirtual 73, 3) := by decide +kernel
theorem dC_base_127 : decode cC_base 127 = .ok (.ireturn, 1) := by decide +kernel
abbrev cC_chain : ByteArray := prog_1_method_6_code
abbrev yC_chain : MethodName := ⟨"CoverTrees", "chain", "(III)I"⟩
abbrev kC_chain : Cond := .code yC_chain cC_chain 4 (some .int)
abbrev wsC_chain : List Cond := kC_chain :: wB
theorem dC_chain_0 : decode cC_chain 0 = .ok (.iload_n 1, 1) := by decide +kernel
theorem dC_chain_1 : decode cC_chain 1 = .ok (.invokestatic 51, 3) := by decide +kernel
theorem dC_chain_4 : decode cC_chain 4 = .ok (.ifCond .eq 10, 3) := by decide +kernel
theorem dC_chain_7 : decode cC_chain 7 = .ok (.iload_n 2, 1) := by decide +kernel
theorem dC_chain_8 : decode cC_chain 8 = .ok (.invokestatic 51, 3) := by decide +kernel
theorem dC_chain_11 : decode cC_chain 11 = .ok (.ifCond .ne 13, 3) := by decide +kernel
theorem dC_chain_14 : decode cC_chain 14 = .ok (.new 35, 3) := by decide +kernel
theorem dC_chain_17 : decode cC_chain 17 = .ok (.dup, 1) := by decide +kernel
theorem dC_chain_18 : decode cC_chain 18 = .ok (.ldc 77, 2) := by decide +kernel
theorem dC_chain_20 : decode cC_chain 20 = .ok (.invokespecial 39, 3) := by decide +kernel
theorem dC_chain_23 : decode cC_chain 23 = .ok (.athrow, 1) := by decide +kernel
theorem dC_chain_24 : decode cC_chain 24 = .ok (.iload_n 1, 1) := by decide +kernel
theorem dC_chain_25 : decode cC_chain 25 = .ok (.iload_n 2, 1) := by decide +kernel
theorem dC_chain_26 : decode cC_chain 26 = .ok (.if_icmp .ne 13, 3) := by decide +kernel
theorem dC_chain_29 : decode cC_chain 29 = .ok (.new 35, 3) := by decide +kernel
theorem dC_chain_32 : decode cC_chain 32 = .ok (.dup, 1) := by decide +kernel
theorem dC_chain_33 : decode cC_chain 33 = .ok (.ldc 79, 2) := by decide +kernel
theorem dC_chain_35 : decode cC_chain 35 = .ok (.invokespecial 39, 3) := by decide +kernel
theorem dC_chain_38 : decode cC_chain 38 = .ok (.athrow, 1) := by decide +kernel
theorem dC_chain_39 : decode cC_chain 39 = .ok (.iload_n 3, 1) := by decide +kernel
theorem dC_chain_40 : decode cC_chain 40 = .ok (.invokestatic 66, 3) := by decide +kernel
theorem dC_chain_43 : decode cC_chain 43 = .ok (.aload_n 0, 1) := by decide +kernel
theorem dC_chain_44 : decode cC_chain 44 = .ok (.invokevirtual 70, 3) := by decide +kernel
theorem dC_chain_47 : decode cC_chain 47 = .ok (.aload_n 0, 1) := by decide +kernel
theorem dC_chain_48 : decode cC_chain 48 = .ok (.getfield 21, 3) := by decide +kernel
theorem dC_chain_51 : decode cC_chain 51 = .ok (.iconst 0, 1) := by decide +kernel
theorem dC_chain_52 : decode cC_chain 52 = .ok (.putfield 25, 3) := by decide +kernel
theorem dC_chain_55 : decode cC_chain 55 = .ok (.aload_n 0, 1) := by decide +kernel
theorem dC_chain_56 : decode cC_chain 56 = .ok (.getfield 12, 3) := by decide +kernel
theorem dC_chain_59 : decode cC_chain 59 = .ok (.iload_n 1, 1) := by decide +kernel
theorem dC_chain_60 : decode cC_chain 60 = .ok (.iconst (-1), 1) := by decide +kernel
theorem dC_chain_61 : decode cC_chain 61 = .ok (.iload_n 2, 1) := by decide +kernel
theorem dC_chain_62 : decode cC_chain 62 = .ok (.iconst 0, 1) := by decide +kernel
theorem dC_chain_63 : decode cC_chain 63 = .ok (.iload_n 3, 1) := by decide +kernel
theorem dC_chain_64 : decode cC_chain 64 = .ok (.invokevirtual 73, 3) := by decide +kernel
theorem dC_chain_67 : decode cC_chain 67 = .ok (.ireturn, 1) := by decide +kernel
abbrev cC_node : ByteArray := prog_1_method_7_code
abbrev yC_node : MethodName := ⟨"CoverTrees", "node", "(III)I"⟩
abbrev kC_node : Cond := .code yC_node cC_node 5 (some .int)
abbrev wsC_node : List Cond := kC_node :: wB
theorem dC_node_0 : decode cC_node 0 = .ok (.aload_n 0, 1) := by decide +kernel
theorem dC_node_1 : decode cC_node 1 = .ok (.getfield 12, 3) := by decide +kernel
theorem dC_node_4 : decode cC_node 4 = .ok (.iload_n 1, 1) := by decide +kernel
theorem dC_node_5 : decode cC_node 5 = .ok (.invokevirtual 55, 3) := by decide +kernel
theorem dC_node_8 : decode cC_node 8 = .ok (.ifCond .ne 13, 3) := by decide +kernel
theorem dC_node_11 : decode cC_node 11 = .ok (.new 35, 3) := by decide +kernel
theorem dC_node_14 : decode cC_node 14 = .ok (.dup, 1) := by decide +kernel
theorem dC_node_15 : decode cC_node 15 = .ok (.ldc 81, 2) := by decide +kernel
theorem dC_node_17 : decode cC_node 17 = .ok (.invokespecial 39, 3) := by decide +kernel
theorem dC_node_20 : decode cC_node 20 = .ok (.athrow, 1) := by decide +kernel
theorem dC_node_21 : decode cC_node 21 = .ok (.aload_n 0, 1) := by decide +kernel
theorem dC_node_22 : decode cC_node 22 = .ok (.getfield 12, 3) := by decide +kernel
theorem dC_node_25 : decode cC_node 25 = .ok (.getfield 60, 3) := by decide +kernel
theorem dC_node_28 : decode cC_node 28 = .ok (.iload_n 1, 1) := by decide +kernel
theorem dC_node_29 : decode cC_node 29 = .ok (.iaload, 1) := by decide +kernel
theorem dC_node_30 : decode cC_node 30 = .ok (.istore 4, 2) := by decide +kernel
theorem dC_node_32 : decode cC_node 32 = .ok (.iload 4, 2) := by decide +kernel
theorem dC_node_34 : decode cC_node 34 = .ok (.iconst 1, 1) := by decide +kernel
theorem dC_node_35 : decode cC_node 35 = .ok (.if_icmp .lt 14, 3) := by decide +kernel
theorem dC_node_38 : decode cC_node 38 = .ok (.aload_n 0, 1) := by decide +kernel
theorem dC_node_39 : decode cC_node 39 = .ok (.getfield 21, 3) := by decide +kernel
theorem dC_node_42 : decode cC_node 42 = .ok (.iload_n 2, 1) := by decide +kernel
theorem dC_node_43 : decode cC_node 43 = .ok (.invokevirtual 83, 3) := by decide +kernel
theorem dC_node_46 : decode cC_node 46 = .ok (.ifCond .eq 20, 3) := by decide +kernel
theorem dC_node_49 : decode cC_node 49 = .ok (.iload 4, 2) := by decide +kernel
theorem dC_node_51 : decode cC_node 51 = .ok (.iconst 2, 1) := by decide +kernel
theorem dC_node_52 : decode cC_node 52 = .ok (.if_icmp .lt 24, 3) := by decide +kernel
theorem dC_node_55 : decode cC_node 55 = .ok (.aload_n 0, 1) := by decide +kernel
theorem dC_node_56 : decode cC_node 56 = .ok (.getfield 21, 3) := by decide +kernel
theorem dC_node_59 : decode cC_node 59 = .ok (.iload_n 3, 1) := by decide +kernel
theorem dC_node_60 : decode cC_node 60 = .ok (.invokevirtual 83, 3) := by decide +kernel
theorem dC_node_63 : decode cC_node 63 = .ok (.ifCond .ne 13, 3) := by decide +kernel
theorem dC_node_66 : decode cC_node 66 = .ok (.new 35, 3) := by decide +kernel
theorem dC_node_69 : decode cC_node 69 = .ok (.dup, 1) := by decide +kernel
theorem dC_node_70 : decode cC_node 70 = .ok (.ldc 86, 2) := by decide +kernel
theorem dC_node_72 : decode cC_node 72 = .ok (.invokespecial 39, 3) := by decide +kernel
theorem dC_node_75 : decode cC_node 75 = .ok (.athrow, 1) := by decide +kernel
theorem dC_node_76 : decode cC_node 76 = .ok (.aload_n 0, 1) := by decide +kernel
theorem dC_node_77 : decode cC_node 77 = .ok (.getfield 21, 3) := by decide +kernel
theorem dC_node_80 : decode cC_node 80 = .ok (.getfield 25, 3) := by decide +kernel
theorem dC_node_83 : decode cC_node 83 = .ok (.bipush 120, 2) := by decide +kernel
theorem dC_node_85 : decode cC_node 85 = .ok (.if_icmp .lt 13, 3) := by decide +kernel
theorem dC_node_88 : decode cC_node 88 = .ok (.new 42, 3) := by decide +kernel
theorem dC_node_91 : decode cC_node 91 = .ok (.dup, 1) := by decide +kernel
theorem dC_node_92 : decode cC_node 92 = .ok (.ldc 88, 2) := by decide +kernel
theorem dC_node_94 : decode cC_node 94 = .ok (.invokespecial 46, 3) := by decide +kernel
theorem dC_node_97 : decode cC_node 97 = .ok (.athrow, 1) := by decide +kernel
theorem dC_node_98 : decode cC_node 98 = .ok (.aload_n 0, 1) := by decide +kernel
theorem dC_node_99 : decode cC_node 99 = .ok (.getfield 21, 3) := by decide +kernel
theorem dC_node_102 : decode cC_node 102 = .ok (.iload_n 1, 1) := by decide +kernel
theorem dC_node_103 : decode cC_node 103 = .ok (.iload 4, 2) := by decide +kernel
theorem dC_node_105 : decode cC_node 105 = .ok (.iconst 1, 1) := by decide +kernel
theorem dC_node_106 : decode cC_node 106 = .ok (.if_icmp .lt 7, 3) := by decide +kernel
theorem dC_node_109 : decode cC_node 109 = .ok (.iload_n 2, 1) := by decide +kernel
theorem dC_node_110 : decode cC_node 110 = .ok (.goto 4, 3) := by decide +kernel
theorem dC_node_113 : decode cC_node 113 = .ok (.iconst 0, 1) := by decide +kernel
theorem dC_node_114 : decode cC_node 114 = .ok (.iload 4, 2) := by decide +kernel
theorem dC_node_116 : decode cC_node 116 = .ok (.iconst 2, 1) := by decide +kernel
theorem dC_node_117 : decode cC_node 117 = .ok (.if_icmp .lt 7, 3) := by decide +kernel
theorem dC_node_120 : decode cC_node 120 = .ok (.iload_n 3, 1) := by decide +kernel
theorem dC_node_121 : decode cC_node 121 = .ok (.goto 4, 3) := by decide +kernel
theorem dC_node_124 : decode cC_node 124 = .ok (.iconst 0, 1) := by decide +kernel
theorem dC_node_125 : decode cC_node 125 = .ok (.invokevirtual 90, 3) := by decide +kernel
theorem dC_node_128 : decode cC_node 128 = .ok (.aload_n 0, 1) := by decide +kernel
theorem dC_node_129 : decode cC_node 129 = .ok (.getfield 21, 3) := by decide +kernel
theorem dC_node_132 : decode cC_node 132 = .ok (.invokevirtual 94, 3) := by decide +kernel
theorem dC_node_135 : decode cC_node 135 = .ok (.ifCond .eq 13, 3) := by decide +kernel
theorem dC_node_138 : decode cC_node 138 = .ok (.new 42, 3) := by decide +kernel
theorem dC_node_141 : decode cC_node 141 = .ok (.dup, 1) := by decide +kernel
theorem dC_node_142 : decode cC_node 142 = .ok (.ldc 98, 2) := by decide +kernel
theorem dC_node_144 : decode cC_node 144 = .ok (.invokespecial 46, 3) := by decide +kernel
theorem dC_node_147 : decode cC_node 147 = .ok (.athrow, 1) := by decide +kernel
theorem dC_node_148 : decode cC_node 148 = .ok (.aload_n 0, 1) := by decide +kernel
theorem dC_node_149 : decode cC_node 149 = .ok (.getfield 21, 3) := by decide +kernel
theorem dC_node_152 : decode cC_node 152 = .ok (.invokevirtual 100, 3) := by decide +kernel
theorem dC_node_155 : decode cC_node 155 = .ok (.ireturn, 1) := by decide +kernel
abbrev cC_cost : ByteArray := prog_1_method_8_code
abbrev yC_cost : MethodName := ⟨"CoverTrees", "cost", "(II)I"⟩
abbrev kC_cost : Cond := .code yC_cost cC_cost 3 (some .int)
abbrev wsC_cost : List Cond := kC_cost :: wB
theorem dC_cost_0 : decode cC_cost 0 = .ok (.aload_n 0, 1) := by decide +kernel
theorem dC_cost_1 : decode cC_cost 1 = .ok (.iload_n 1, 1) := by decide +kernel
theorem dC_cost_2 : decode cC_cost 2 = .ok (.iload_n 2, 1) := by decide +kernel
theorem dC_cost_3 : decode cC_cost 3 = .ok (.invokevirtual 104, 3) := by decide +kernel
theorem dC_cost_6 : decode cC_cost 6 = .ok (.aload_n 0, 1) := by decide +kernel
theorem dC_cost_7 : decode cC_cost 7 = .ok (.getfield 21, 3) := by decide +kernel
theorem dC_cost_10 : decode cC_cost 10 = .ok (.getfield 108, 3) := by decide +kernel
theorem dC_cost_13 : decode cC_cost 13 = .ok (.iload_n 1, 1) := by decide +kernel
theorem dC_cost_14 : decode cC_cost 14 = .ok (.iload_n 2, 1) := by decide +kernel
theorem dC_cost_15 : decode cC_cost 15 = .ok (.invokestatic 111, 3) := by decide +kernel
theorem dC_cost_18 : decode cC_cost 18 = .ok (.iaload, 1) := by decide +kernel
theorem dC_cost_19 : decode cC_cost 19 = .ok (.ireturn, 1) := by decide +kernel
abbrev cC_rule : ByteArray := prog_1_method_9_code
abbrev yC_rule : MethodName := ⟨"CoverTrees", "rule", "(II)I"⟩
abbrev kC_rule : Cond := .code yC_rule cC_rule 3 (some .int)
abbrev wsC_rule : List Cond := kC_rule :: wB
theorem dC_rule_0 : decode cC_rule 0 = .ok (.aload_n 0, 1) := by decide +kernel
theorem dC_rule_1 : decode cC_rule 1 = .ok (.iload_n 1, 1) := by decide +kernel
theorem dC_rule_2 : decode cC_rule 2 = .ok (.iload_n 2, 1) := by decide +kernel
theorem dC_rule_3 : decode cC_rule 3 = .ok (.invokevirtual 104, 3) := by decide +kernel
theorem dC_rule_6 : decode cC_rule 6 = .ok (.aload_n 0, 1) := by decide +kernel
theorem dC_rule_7 : decode cC_rule 7 = .ok (.getfield 21, 3) := by decide +kernel
theorem dC_rule_10 : decode cC_rule 10 = .ok (.getfield 115, 3) := by decide +kernel
theorem dC_rule_13 : decode cC_rule 13 = .ok (.iload_n 1, 1) := by decide +kernel
theorem dC_rule_14 : decode cC_rule 14 = .ok (.iload_n 2, 1) := by decide +kernel
theorem dC_rule_15 : decode cC_rule 15 = .ok (.invokestatic 111, 3) := by decide +kernel
theorem dC_rule_18 : decode cC_rule 18 = .ok (.iaload, 1) := by decide +kernel
theorem dC_rule_19 : decode cC_rule 19 = .ok (.ireturn, 1) := by decide +kernel
abbrev cC_size : ByteArray := prog_1_method_10_code
abbrev yC_size : MethodName := ⟨"CoverTrees", "size", "(II)I"⟩
abbrev kC_size : Cond := .code yC_size cC_size 3 (some .int)
abbrev wsC_size : List Cond := kC_size :: wB
theorem dC_size_0 : decode cC_size 0 = .ok (.aload_n 0, 1) := by decide +kernel
theorem dC_size_1 : decode cC_size 1 = .ok (.iload_n 1, 1) := by decide +kernel
theorem dC_size_2 : decode cC_size 2 = .ok (.iload_n 2, 1) := by decide +kernel
theorem dC_size_3 : decode cC_size 3 = .ok (.invokevirtual 104, 3) := by decide +kernel
theorem dC_size_6 : decode cC_size 6 = .ok (.aload_n 0, 1) := by decide +kernel
theorem dC_size_7 : decode cC_size 7 = .ok (.iload_n 1, 1) := by decide +kernel
theorem dC_size_8 : decode cC_size 8 = .ok (.iload_n 2, 1) := by decide +kernel
theorem dC_size_9 : decode cC_size 9 = .ok (.invokevirtual 118, 3) := by decide +kernel
theorem dC_size_12 : decode cC_size 12 = .ok (.ireturn, 1) := by decide +kernel
abbrev cC_cover : ByteArray := prog_1_method_11_code
abbrev yC_cover : MethodName := ⟨"CoverTrees", "cover", "(IIII)I"⟩
abbrev kC_cover : Cond := .code yC_cover cC_cover 7 (some .int)
abbrev wsC_cover : List Cond := kC_cover :: wB
theorem dC_cover_0 : decode cC_cover 0 = .ok (.aload_n 0, 1) := by decide +kernel
theorem dC_cover_1 : decode cC_cover 1 = .ok (.iload_n 1, 1) := by decide +kernel
theorem dC_cover_2 : decode cC_cover 2 = .ok (.iload_n 2, 1) := by decide +kernel
theorem dC_cover_3 : decode cC_cover 3 = .ok (.invokevirtual 104, 3) := by decide +kernel
theorem dC_cover_6 : decode cC_cover 6 = .ok (.aload_n 0, 1) := by decide +kernel
theorem dC_cover_7 : decode cC_cover 7 = .ok (.iload_n 1, 1) := by decide +kernel
theorem dC_cover_8 : decode cC_cover 8 = .ok (.iload_n 2, 1) := by decide +kernel
theorem dC_cover_9 : decode cC_cover 9 = .ok (.invokevirtual 118, 3) := by decide +kernel
theorem dC_cover_12 : decode cC_cover 12 = .ok (.istore 5, 2) := by decide +kernel
theorem dC_cover_14 : decode cC_cover 14 = .ok (.iload 4, 2) := by decide +kernel
theorem dC_cover_16 : decode cC_cover 16 = .ok (.ifCond .eq 19, 3) := by decide +kernel
theorem dC_cover_19 : decode cC_cover 19 = .ok (.iload 4, 2) := by decide +kernel
theorem dC_cover_21 : decode cC_cover 21 = .ok (.iconst 1, 1) := by decide +kernel
theorem dC_cover_22 : decode cC_cover 22 = .ok (.if_icmp .eq 13, 3) := by decide +kernel
theorem dC_cover_25 : decode cC_cover 25 = .ok (.new 35, 3) := by decide +kernel
theorem dC_cover_28 : decode cC_cover 28 = .ok (.dup, 1) := by decide +kernel
theorem dC_cover_29 : decode cC_cover 29 = .ok (.ldc 121, 2) := by decide +kernel
theorem dC_cover_31 : decode cC_cover 31 = .ok (.invokespecial 39, 3) := by decide +kernel
theorem dC_cover_34 : decode cC_cover 34 = .ok (.athrow, 1) := by decide +kernel
theorem dC_cover_35 : decode cC_cover 35 = .ok (.iload_n 3, 1) := by decide +kernel
theorem dC_cover_36 : decode cC_cover 36 = .ok (.ifCond .lt 9, 3) := by decide +kernel
theorem dC_cover_39 : decode cC_cover 39 = .ok (.iload_n 3, 1) := by decide +kernel
theorem dC_cover_40 : decode cC_cover 40 = .ok (.iload 5, 2) := by decide +kernel
theorem dC_cover_42 : decode cC_cover 42 = .ok (.if_icmp .lt 13, 3) := by decide +kernel
theorem dC_cover_45 : decode cC_cover 45 = .ok (.new 123, 3) := by decide +kernel
theorem dC_cover_48 : decode cC_cover 48 = .ok (.dup, 1) := by decide +kernel
theorem dC_cover_49 : decode cC_cover 49 = .ok (.ldc 125, 2) := by decide +kernel
theorem dC_cover_51 : decode cC_cover 51 = .ok (.invokespecial 127, 3) := by decide +kernel
theorem dC_cover_54 : decode cC_cover 54 = .ok (.athrow, 1) := by decide +kernel
theorem dC_cover_55 : decode cC_cover 55 = .ok (.aload_n 0, 1) := by decide +kernel
theorem dC_cover_56 : decode cC_cover 56 = .ok (.getfield 21, 3) := by decide +kernel
theorem dC_cover_59 : decode cC_cover 59 = .ok (.iload_n 1, 1) := by decide +kernel
theorem dC_cover_60 : decode cC_cover 60 = .ok (.iload_n 2, 1) := by decide +kernel
theorem dC_cover_61 : decode cC_cover 61 = .ok (.invokestatic 111, 3) := by decide +kernel
theorem dC_cover_64 : decode cC_cover 64 = .ok (.iload_n 3, 1) := by decide +kernel
theorem dC_cover_65 : decode cC_cover 65 = .ok (.invokevirtual 128, 3) := by decide +kernel
theorem dC_cover_68 : decode cC_cover 68 = .ok (.istore 6, 2) := by decide +kernel
theorem dC_cover_70 : decode cC_cover 70 = .ok (.iload 4, 2) := by decide +kernel
theorem dC_cover_72 : decode cC_cover 72 = .ok (.ifCond .ne 16, 3) := by decide +kernel
theorem dC_cover_75 : decode cC_cover 75 = .ok (.aload_n 0, 1) := by decide +kernel
theorem dC_cover_76 : decode cC_cover 76 = .ok (.getfield 21, 3) := by decide +kernel
theorem dC_cover_79 : decode cC_cover 79 = .ok (.getfield 115, 3) := by decide +kernel
theorem dC_cover_82 : decode cC_cover 82 = .ok (.iload 6, 2) := by decide +kernel
theorem dC_cover_84 : decode cC_cover 84 = .ok (.iaload, 1) := by decide +kernel
theorem dC_cover_85 : decode cC_cover 85 = .ok (.goto 8, 3) := by decide +kernel
theorem dC_cover_88 : decode cC_cover 88 = .ok (.iload 6, 2) := by decide +kernel
theorem dC_cover_90 : decode cC_cover 90 = .ok (.bipush 8, 2) := by decide +kernel
theorem dC_cover_92 : decode cC_cover 92 = .ok (.idiv, 1) := by decide +kernel
theorem dC_cover_93 : decode cC_cover 93 = .ok (.ireturn, 1) := by decide +kernel
abbrev cC_states : ByteArray := prog_1_method_12_code
abbrev yC_states : MethodName := ⟨"CoverTrees", "states", "()I"⟩
abbrev kC_states : Cond := .code yC_states cC_states 1 (some .int)
abbrev wsC_states : List Cond := kC_states :: wB
theorem dC_states_0 : decode cC_states 0 = .ok (.aload_n 0, 1) := by decide +kernel
theorem dC_states_1 : decode cC_states 1 = .ok (.getfield 21, 3) := by decide +kernel
theorem dC_states_4 : decode cC_states 4 = .ok (.invokevirtual 131, 3) := by decide +kernel
theorem dC_states_7 : decode cC_states 7 = .ok (.ireturn, 1) := by decide +kernel
abbrev cC_like : ByteArray := prog_1_method_13_code
abbrev yC_like : MethodName := ⟨"CoverTrees", "like", "(I)I"⟩
abbrev kC_like : Cond := .code yC_like cC_like 2 (some .int)
abbrev wsC_like : List Cond := kC_like :: wB
theorem dC_like_0 : decode cC_like 0 = .ok (.aload_n 0, 1) := by decide +kernel
theorem dC_like_1 : decode cC_like 1 = .ok (.getfield 21, 3) := by decide +kernel
theorem dC_like_4 : decode cC_like 4 = .ok (.iload_n 1, 1) := by decide +kernel
theorem dC_like_5 : decode cC_like 5 = .ok (.invokevirtual 83, 3) := by decide +kernel
theorem dC_like_8 : decode cC_like 8 = .ok (.ifCond .ne 13, 3) := by decide +kernel
theorem dC_like_11 : decode cC_like 11 = .ok (.new 35, 3) := by decide +kernel
theorem dC_like_14 : decode cC_like 14 = .ok (.dup, 1) := by decide +kernel
theorem dC_like_15 : decode cC_like 15 = .ok (.ldc 86, 2) := by decide +kernel
theorem dC_like_17 : decode cC_like 17 = .ok (.invokespecial 39, 3) := by decide +kernel
theorem dC_like_20 : decode cC_like 20 = .ok (.athrow, 1) := by decide +kernel
theorem dC_like_21 : decode cC_like 21 = .ok (.aload_n 0, 1) := by decide +kernel
theorem dC_like_22 : decode cC_like 22 = .ok (.getfield 21, 3) := by decide +kernel
theorem dC_like_25 : decode cC_like 25 = .ok (.getfield 134, 3) := by decide +kernel
theorem dC_like_28 : decode cC_like 28 = .ok (.iload_n 1, 1) := by decide +kernel
theorem dC_like_29 : decode cC_like 29 = .ok (.iaload, 1) := by decide +kernel
theorem dC_like_30 : decode cC_like 30 = .ok (.ireturn, 1) := by decide +kernel
abbrev cC_isGoal : ByteArray := prog_1_method_14_code
abbrev yC_isGoal : MethodName := ⟨"CoverTrees", "isGoal", "(I)Z"⟩
abbrev kC_isGoal : Cond := .code yC_isGoal cC_isGoal 1 (some .boolean)
abbrev wsC_isGoal : List Cond := kC_isGoal :: wB
theorem dC_isGoal_0 : decode cC_isGoal 0 = .ok (.iload_n 0, 1) := by decide +kernel
theorem dC_isGoal_1 : decode cC_isGoal 1 = .ok (.ifCond .lt 13, 3) := by decide +kernel
theorem dC_isGoal_4 : decode cC_isGoal 4 = .ok (.iload_n 0, 1) := by decide +kernel
theorem dC_isGoal_5 : decode cC_isGoal 5 = .ok (.bipush 8, 2) := by decide +kernel
theorem dC_isGoal_7 : decode cC_isGoal 7 = .ok (.if_icmp .ge 7, 3) := by decide +kernel
theorem dC_isGoal_10 : decode cC_isGoal 10 = .ok (.iconst 1, 1) := by decide +kernel
theorem dC_isGoal_11 : decode cC_isGoal 11 = .ok (.goto 4, 3) := by decide +kernel
theorem dC_isGoal_14 : decode cC_isGoal 14 = .ok (.iconst 0, 1) := by decide +kernel
theorem dC_isGoal_15 : decode cC_isGoal 15 = .ok (.ireturn, 1) := by decide +kernel
abbrev cC_place : ByteArray := prog_1_method_15_code
abbrev yC_place : MethodName := ⟨"CoverTrees", "place", "(II)I"⟩
abbrev kC_place : Cond := .code yC_place cC_place 2 (some .int)
abbrev wsC_place : List Cond := kC_place :: wB
theorem dC_place_0 : decode cC_place 0 = .ok (.iload_n 0, 1) := by decide +kernel
theorem dC_place_1 : decode cC_place 1 = .ok (.bipush 8, 2) := by decide +kernel
theorem dC_place_3 : decode cC_place 3 = .ok (.imul, 1) := by decide +kernel
theorem dC_place_4 : decode cC_place 4 = .ok (.iload_n 1, 1) := by decide +kernel
theorem dC_place_5 : decode cC_place 5 = .ok (.iadd, 1) := by decide +kernel
theorem dC_place_6 : decode cC_place 6 = .ok (.ireturn, 1) := by decide +kernel
abbrev cC_checkRuleCost : ByteArray := prog_1_method_16_code
abbrev yC_checkRuleCost : MethodName := ⟨"CoverTrees", "checkRuleCost", "(I)V"⟩
abbrev kC_checkRuleCost : Cond := .code yC_checkRuleCost cC_checkRuleCost 1 none
abbrev wsC_checkRuleCost : List Cond := kC_checkRuleCost :: wB
theorem dC_checkRuleCost_0 : decode cC_checkRuleCost 0 = .ok (.iload_n 0, 1) := by decide +kernel
theorem dC_checkRuleCost_1 : decode cC_checkRuleCost 1 = .ok (.ifCond .lt 9, 3) := by decide +kernel
theorem dC_checkRuleCost_4 : decode cC_checkRuleCost 4 = .ok (.iload_n 0, 1) := by decide +kernel
theorem dC_checkRuleCost_5 : decode cC_checkRuleCost 5 = .ok (.bipush 20, 2) := by decide +kernel
theorem dC_checkRuleCost_7 : decode cC_checkRuleCost 7 = .ok (.if_icmp .le 13, 3) := by decide +kernel
theorem dC_checkRuleCost_10 : decode cC_checkRuleCost 10 = .ok (.new 35, 3) := by decide +kernel
theorem dC_checkRuleCost_13 : decode cC_checkRuleCost 13 = .ok (.dup, 1) := by decide +kernel
theorem dC_checkRuleCost_14 : decode cC_checkRuleCost 14 = .ok (.ldc 137, 2) := by decide +kernel
theorem dC_checkRuleCost_16 : decode cC_checkRuleCost 16 = .ok (.invokespecial 39, 3) := by decide +kernel
theorem dC_checkRuleCost_19 : decode cC_checkRuleCost 19 = .ok (.athrow, 1) := by decide +kernel
theorem dC_checkRuleCost_20 : decode cC_checkRuleCost 20 = .ok (.return_, 1) := by decide +kernel
abbrev cC_checkRoomForRule : ByteArray := prog_1_method_17_code
abbrev yC_checkRoomForRule : MethodName := ⟨"CoverTrees", "checkRoomForRule", "()V"⟩
abbrev kC_checkRoomForRule : Cond := .code yC_checkRoomForRule cC_checkRoomForRule 1 none
abbrev wsC_checkRoomForRule : List Cond := kC_checkRoomForRule :: wB
theorem dC_checkRoomForRule_0 : decode cC_checkRoomForRule 0 = .ok (.aload_n 0, 1) := by decide +kernel
theorem dC_checkRoomForRule_1 : decode cC_checkRoomForRule 1 = .ok (.getfield 12, 3) := by decide +kernel
theorem dC_checkRoomForRule_4 : decode cC_checkRoomForRule 4 = .ok (.getfield 29, 3) := by decide +kernel
theorem dC_checkRoomForRule_7 : decode cC_checkRoomForRule 7 = .ok (.bipush 40, 2) := by decide +kernel
theorem dC_checkRoomForRule_9 : decode cC_checkRoomForRule 9 = .ok (.if_icmp .lt 13, 3) := by decide +kernel
theorem dC_checkRoomForRule_12 : decode cC_checkRoomForRule 12 = .ok (.new 42, 3) := by decide +kernel
theorem dC_checkRoomForRule_15 : decode cC_checkRoomForRule 15 = .ok (.dup, 1) := by decide +kernel
theorem dC_checkRoomForRule_16 : decode cC_checkRoomForRule 16 = .ok (.ldc 139, 2) := by decide +kernel
theorem dC_checkRoomForRule_18 : decode cC_checkRoomForRule 18 = .ok (.invokespecial 46, 3) := by decide +kernel
theorem dC_checkRoomForRule_21 : decode cC_checkRoomForRule 21 = .ok (.athrow, 1) := by decide +kernel
theorem dC_checkRoomForRule_22 : decode cC_checkRoomForRule 22 = .ok (.return_, 1) := by decide +kernel
abbrev cC_checkPlace : ByteArray := prog_1_method_18_code
abbrev yC_checkPlace : MethodName := ⟨"CoverTrees", "checkPlace", "(II)V"⟩
abbrev kC_checkPlace : Cond := .code yC_checkPlace cC_checkPlace 3 none
abbrev wsC_checkPlace : List Cond := kC_checkPlace :: wB
theorem dC_checkPlace_0 : decode cC_checkPlace 0 = .ok (.aload_n 0, 1) := by decide +kernel
theorem dC_checkPlace_1 : decode cC_checkPlace 1 = .ok (.getfield 21, 3) := by decide +kernel
theorem dC_checkPlace_4 : decode cC_checkPlace 4 = .ok (.iload_n 1, 1) := by decide +kernel
theorem dC_checkPlace_5 : decode cC_checkPlace 5 = .ok (.invokevirtual 83, 3) := by decide +kernel
theorem dC_checkPlace_8 : decode cC_checkPlace 8 = .ok (.ifCond .eq 10, 3) := by decide +kernel
theorem dC_checkPlace_11 : decode cC_checkPlace 11 = .ok (.iload_n 2, 1) := by decide +kernel
theorem dC_checkPlace_12 : decode cC_checkPlace 12 = .ok (.invokestatic 51, 3) := by decide +kernel
theorem dC_checkPlace_15 : decode cC_checkPlace 15 = .ok (.ifCond .ne 13, 3) := by decide +kernel
theorem dC_checkPlace_18 : decode cC_checkPlace 18 = .ok (.new 35, 3) := by decide +kernel
theorem dC_checkPlace_21 : decode cC_checkPlace 21 = .ok (.dup, 1) := by decide +kernel
theorem dC_checkPlace_22 : decode cC_checkPlace 22 = .ok (.ldc 141, 2) := by decide +kernel
theorem dC_checkPlace_24 : decode cC_checkPlace 24 = .ok (.invokespecial 39, 3) := by decide +kernel
theorem dC_checkPlace_27 : decode cC_checkPlace 27 = .ok (.athrow, 1) := by decide +kernel
theorem dC_checkPlace_28 : decode cC_checkPlace 28 = .ok (.return_, 1) := by decide +kernel
abbrev cC_coverSize : ByteArray := prog_1_method_19_code
abbrev yC_coverSize : MethodName := ⟨"CoverTrees", "coverSize", "(II)I"⟩
abbrev kC_coverSize : Cond := .code yC_coverSize cC_coverSize 4 (some .int)
abbrev wsC_coverSize : List Cond := kC_coverSize :: wB
theorem dC_coverSize_0 : decode cC_coverSize 0 = .ok (.aload_n 0, 1) := by decide +kernel
theorem dC_coverSize_1 : decode cC_coverSize 1 = .ok (.getfield 21, 3) := by decide +kernel
theorem dC_coverSize_4 : decode cC_coverSize 4 = .ok (.getfield 143, 3) := by decide +kernel
theorem dC_coverSize_7 : decode cC_coverSize 7 = .ok (.iload_n 1, 1) := by decide +kernel
theorem dC_coverSize_8 : decode cC_coverSize 8 = .ok (.iload_n 2, 1) := by decide +kernel
theorem dC_coverSize_9 : decode cC_coverSize 9 = .ok (.invokestatic 111, 3) := by decide +kernel
theorem dC_coverSize_12 : decode cC_coverSize 12 = .ok (.iaload, 1) := by decide +kernel
theorem dC_coverSize_13 : decode cC_coverSize 13 = .ok (.istore_n 3, 1) := by decide +kernel
theorem dC_coverSize_14 : decode cC_coverSize 14 = .ok (.iload_n 3, 1) := by decide +kernel
theorem dC_coverSize_15 : decode cC_coverSize 15 = .ok (.sipush 2000, 3) := by decide +kernel
theorem dC_coverSize_18 : decode cC_coverSize 18 = .ok (.if_icmp .le 13, 3) := by decide +kernel
theorem dC_coverSize_21 : decode cC_coverSize 21 = .ok (.new 42, 3) := by decide +kernel
theorem dC_coverSize_24 : decode cC_coverSize 24 = .ok (.dup, 1) := by decide +kernel
theorem dC_coverSize_25 : decode cC_coverSize 25 = .ok (.ldc 146, 2) := by decide +kernel
theorem dC_coverSize_27 : decode cC_coverSize 27 = .ok (.invokespecial 46, 3) := by decide +kernel
theorem dC_coverSize_30 : decode cC_coverSize 30 = .ok (.athrow, 1) := by decide +kernel
theorem dC_coverSize_31 : decode cC_coverSize 31 = .ok (.iload_n 3, 1) := by decide +kernel
theorem dC_coverSize_32 : decode cC_coverSize 32 = .ok (.ireturn, 1) := by decide +kernel
abbrev cG_hasOperator : ByteArray := prog_3_method_2_code
abbrev yG_hasOperator : MethodName := ⟨"CoverTrees$Grammar", "hasOperator", "(I)Z"⟩
abbrev kG_hasOperator : Cond := .code yG_hasOperator cG_hasOperator 2 (some .boolean)
abbrev wsG_hasOperator : List Cond := kG_hasOperator :: wB
theorem dG_hasOperator_0 : decode cG_hasOperator 0 = .ok (.iload_n 1, 1) := by decide +kernel
theorem dG_hasOperator_1 : decode cG_hasOperator 1 = .ok (.ifCond .lt 15, 3) := by decide +kernel
theorem dG_hasOperator_4 : decode cG_hasOperator 4 = .ok (.iload_n 1, 1) := by decide +kernel
theorem dG_hasOperator_5 : decode cG_hasOperator 5 = .ok (.aload_n 0, 1) := by decide +kernel
theorem dG_hasOperator_6 : decode cG_hasOperator 6 = .ok (.getfield 30, 3) := by decide +kernel
theorem dG_hasOperator_9 : decode cG_hasOperator 9 = .ok (.if_icmp .ge 7, 3) := by decide +kernel
theorem dG_hasOperator_12 : decode cG_hasOperator 12 = .ok (.iconst 1, 1) := by decide +kernel
theorem dG_hasOperator_13 : decode cG_hasOperator 13 = .ok (.goto 4, 3) := by decide +kernel
theorem dG_hasOperator_16 : decode cG_hasOperator 16 = .ok (.iconst 0, 1) := by decide +kernel
theorem dG_hasOperator_17 : decode cG_hasOperator 17 = .ok (.ireturn, 1) := by decide +kernel
abbrev cG_addOperator : ByteArray := prog_3_method_3_code
abbrev yG_addOperator : MethodName := ⟨"CoverTrees$Grammar", "addOperator", "(I)I"⟩
abbrev kG_addOperator : Cond := .code yG_addOperator cG_addOperator 3 (some .int)
abbrev wsG_addOperator : List Cond := kG_addOperator :: wB
theorem dG_addOperator_0 : decode cG_addOperator 0 = .ok (.aload_n 0, 1) := by decide +kernel
theorem dG_addOperator_1 : decode cG_addOperator 1 = .ok (.getfield 30, 3) := by decide +kernel
theorem dG_addOperator_4 : decode cG_addOperator 4 = .ok (.istore_n 2, 1) := by decide +kernel
theorem dG_addOperator_5 : decode cG_addOperator 5 = .ok (.aload_n 0, 1) := by decide +kernel
theorem dG_addOperator_6 : decode cG_addOperator 6 = .ok (.getfield 9, 3) := by decide +kernel
theorem dG_addOperator_9 : decode cG_addOperator 9 = .ok (.iload_n 2, 1) := by decide +kernel
theorem dG_addOperator_10 : decode cG_addOperator 10 = .ok (.iload_n 1, 1) := by decide +kernel
theorem dG_addOperator_11 : decode cG_addOperator 11 = .ok (.iastore, 1) := by decide +kernel
theorem dG_addOperator_12 : decode cG_addOperator 12 = .ok (.aload_n 0, 1) := by decide +kernel
theorem dG_addOperator_13 : decode cG_addOperator 13 = .ok (.iload_n 2, 1) := by decide +kernel
theorem dG_addOperator_14 : decode cG_addOperator 14 = .ok (.iconst 1, 1) := by decide +kernel
theorem dG_addOperator_15 : decode cG_addOperator 15 = .ok (.iadd, 1) := by decide +kernel
theorem dG_addOperator_16 : decode cG_addOperator 16 = .ok (.putfield 30, 3) := by decide +kernel
theorem dG_addOperator_19 : decode cG_addOperator 19 = .ok (.iload_n 2, 1) := by decide +kernel
theorem dG_addOperator_20 : decode cG_addOperator 20 = .ok (.ireturn, 1) := by decide +kernel
abbrev cG_addRule : ByteArray := prog_3_method_4_code
abbrev yG_addRule : MethodName := ⟨"CoverTrees$Grammar", "addRule", "(IIIII)I"⟩
abbrev kG_addRule : Cond := .code yG_addRule cG_addRule 7 (some .int)
abbrev wsG_addRule : List Cond := kG_addRule :: wB
theorem dG_addRule_0 : decode cG_addRule 0 = .ok (.aload_n 0, 1) := by decide +kernel
theorem dG_addRule_1 : decode cG_addRule 1 = .ok (.getfield 34, 3) := by decide +kernel
theorem dG_addRule_4 : decode cG_addRule 4 = .ok (.istore 6, 2) := by decide +kernel
theorem dG_addRule_6 : decode cG_addRule 6 = .ok (.aload_n 0, 1) := by decide +kernel
theorem dG_addRule_7 : decode cG_addRule 7 = .ok (.getfield 15, 3) := by decide +kernel
theorem dG_addRule_10 : decode cG_addRule 10 = .ok (.iload 6, 2) := by decide +kernel
theorem dG_addRule_12 : decode cG_addRule 12 = .ok (.iload_n 1, 1) := by decide +kernel
theorem dG_addRule_13 : decode cG_addRule 13 = .ok (.iastore, 1) := by decide +kernel
theorem dG_addRule_14 : decode cG_addRule 14 = .ok (.aload_n 0, 1) := by decide +kernel
theorem dG_addRule_15 : decode cG_addRule 15 = .ok (.getfield 18, 3) := by decide +kernel
theorem dG_addRule_18 : decode cG_addRule 18 = .ok (.iload 6, 2) := by decide +kernel
theorem dG_addRule_20 : decode cG_addRule 20 = .ok (.iload_n 2, 1) := by decide +kernel
theorem dG_addRule_21 : decode cG_addRule 21 = .ok (.iastore, 1) := by decide +kernel
theorem dG_addRule_22 : decode cG_addRule 22 = .ok (.aload_n 0, 1) := by decide +kernel
theorem dG_addRule_23 : decode cG_addRule 23 = .ok (.getfield 21, 3) := by decide +kernel
theorem dG_addRule_26 : decode cG_addRule 26 = .ok (.iload 6, 2) := by decide +kernel
theorem dG_addRule_28 : decode cG_addRule 28 = .ok (.iload_n 3, 1) := by decide +kernel
theorem dG_addRule_29 : decode cG_addRule 29 = .ok (.iastore, 1) := by decide +kernel
theorem dG_addRule_30 : decode cG_addRule 30 = .ok (.aload_n 0, 1) := by decide +kernel
theorem dG_addRule_31 : decode cG_addRule 31 = .ok (.getfield 24, 3) := by decide +kernel
theorem dG_addRule_34 : decode cG_addRule 34 = .ok (.iload 6, 2) := by decide +kernel
theorem dG_addRule_36 : decode cG_addRule 36 = .ok (.iload 4, 2) := by decide +kernel
theorem dG_addRule_38 : decode cG_addRule 38 = .ok (.iastore, 1) := by decide +kernel
theorem dG_addRule_39 : decode cG_addRule 39 = .ok (.aload_n 0, 1) := by decide +kernel
theorem dG_addRule_40 : decode cG_addRule 40 = .ok (.getfield 27, 3) := by decide +kernel
theorem dG_addRule_43 : decode cG_addRule 43 = .ok (.iload 6, 2) := by decide +kernel
theorem dG_addRule_45 : decode cG_addRule 45 = .ok (.iload 5, 2) := by decide +kernel
theorem dG_addRule_47 : decode cG_addRule 47 = .ok (.iastore, 1) := by decide +kernel
theorem dG_addRule_48 : decode cG_addRule 48 = .ok (.aload_n 0, 1) := by decide +kernel
theorem dG_addRule_49 : decode cG_addRule 49 = .ok (.iload 6, 2) := by decide +kernel
theorem dG_addRule_51 : decode cG_addRule 51 = .ok (.iconst 1, 1) := by decide +kernel
theorem dG_addRule_52 : decode cG_addRule 52 = .ok (.iadd, 1) := by decide +kernel
theorem dG_addRule_53 : decode cG_addRule 53 = .ok (.putfield 34, 3) := by decide +kernel
theorem dG_addRule_56 : decode cG_addRule 56 = .ok (.iload 6, 2) := by decide +kernel
theorem dG_addRule_58 : decode cG_addRule 58 = .ok (.ireturn, 1) := by decide +kernel
abbrev cG_isChainFrom : ByteArray := prog_3_method_5_code
abbrev yG_isChainFrom : MethodName := ⟨"CoverTrees$Grammar", "isChainFrom", "(II)Z"⟩
abbrev kG_isChainFrom : Cond := .code yG_isChainFrom cG_isChainFrom 3 (some .boolean)
abbrev wsG_isChainFrom : List Cond := kG_isChainFrom :: wB
theorem dG_isChainFrom_0 : decode cG_isChainFrom 0 = .ok (.aload_n 0, 1) := by decide +kernel
theorem dG_isChainFrom_1 : decode cG_isChainFrom 1 = .ok (.getfield 18, 3) := by decide +kernel
theorem dG_isChainFrom_4 : decode cG_isChainFrom 4 = .ok (.iload_n 1, 1) := by decide +kernel
theorem dG_isChainFrom_5 : decode cG_isChainFrom 5 = .ok (.iaload, 1) := by decide +kernel
theorem dG_isChainFrom_6 : decode cG_isChainFrom 6 = .ok (.iconst (-1), 1) := by decide +kernel
theorem dG_isChainFrom_7 : decode cG_isChainFrom 7 = .ok (.if_icmp .ne 17, 3) := by decide +kernel
theorem dG_isChainFrom_10 : decode cG_isChainFrom 10 = .ok (.aload_n 0, 1) := by decide +kernel
theorem dG_isChainFrom_11 : decode cG_isChainFrom 11 = .ok (.getfield 21, 3) := by decide +kernel
theorem dG_isChainFrom_14 : decode cG_isChainFrom 14 = .ok (.iload_n 1, 1) := by decide +kernel
theorem dG_isChainFrom_15 : decode cG_isChainFrom 15 = .ok (.iaload, 1) := by decide +kernel
theorem dG_isChainFrom_16 : decode cG_isChainFrom 16 = .ok (.iload_n 2, 1) := by decide +kernel
theorem dG_isChainFrom_17 : decode cG_isChainFrom 17 = .ok (.if_icmp .ne 7, 3) := by decide +kernel
theorem dG_isChainFrom_20 : decode cG_isChainFrom 20 = .ok (.iconst 1, 1) := by decide +kernel
theorem dG_isChainFrom_21 : decode cG_isChainFrom 21 = .ok (.goto 4, 3) := by decide +kernel
theorem dG_isChainFrom_24 : decode cG_isChainFrom 24 = .ok (.iconst 0, 1) := by decide +kernel
theorem dG_isChainFrom_25 : decode cG_isChainFrom 25 = .ok (.ireturn, 1) := by decide +kernel
abbrev cF_has : ByteArray := prog_2_method_2_code
abbrev yF_has : MethodName := ⟨"CoverTrees$Forest", "has", "(I)Z"⟩
abbrev kF_has : Cond := .code yF_has cF_has 2 (some .boolean)
abbrev wsF_has : List Cond := kF_has :: wB
theorem dF_has_0 : decode cF_has 0 = .ok (.iload_n 1, 1) := by decide +kernel
theorem dF_has_1 : decode cF_has 1 = .ok (.ifCond .lt 15, 3) := by decide +kernel
theorem dF_has_4 : decode cF_has 4 = .ok (.iload_n 1, 1) := by decide +kernel
theorem dF_has_5 : decode cF_has 5 = .ok (.aload_n 0, 1) := by decide +kernel
theorem dF_has_6 : decode cF_has 6 = .ok (.getfield 44, 3) := by decide +kernel
theorem dF_has_9 : decode cF_has 9 = .ok (.if_icmp .ge 7, 3) := by decide +kernel
theorem dF_has_12 : decode cF_has 12 = .ok (.iconst 1, 1) := by decide +kernel
theorem dF_has_13 : decode cF_has 13 = .ok (.goto 4, 3) := by decide +kernel
theorem dF_has_16 : decode cF_has 16 = .ok (.iconst 0, 1) := by decide +kernel
theorem dF_has_17 : decode cF_has 17 = .ok (.ireturn, 1) := by decide +kernel
abbrev cF_draft : ByteArray := prog_2_method_3_code
abbrev yF_draft : MethodName := ⟨"CoverTrees$Forest", "draft", "(III)V"⟩
abbrev kF_draft : Cond := .code yF_draft cF_draft 4 none
abbrev wsF_draft : List Cond := kF_draft :: wB
theorem dF_draft_0 : decode cF_draft 0 = .ok (.aload_n 0, 1) := by decide +kernel
theorem dF_draft_1 : decode cF_draft 1 = .ok (.getfield 9, 3) := by decide +kernel
theorem dF_draft_4 : decode cF_draft 4 = .ok (.aload_n 0, 1) := by decide +kernel
theorem dF_draft_5 : decode cF_draft 5 = .ok (.getfield 44, 3) := by decide +kernel
theorem dF_draft_8 : decode cF_draft 8 = .ok (.iload_n 1, 1) := by decide +kernel
theorem dF_draft_9 : decode cF_draft 9 = .ok (.iastore, 1) := by decide +kernel
theorem dF_draft_10 : decode cF_draft 10 = .ok (.aload_n 0, 1) := by decide +kernel
theorem dF_draft_11 : decode cF_draft 11 = .ok (.getfield 15, 3) := by decide +kernel
theorem dF_draft_14 : decode cF_draft 14 = .ok (.aload_n 0, 1) := by decide +kernel
theorem dF_draft_15 : decode cF_draft 15 = .ok (.getfield 44, 3) := by decide +kernel
theorem dF_draft_18 : decode cF_draft 18 = .ok (.iload_n 2, 1) := by decide +kernel
theorem dF_draft_19 : decode cF_draft 19 = .ok (.iastore, 1) := by decide +kernel
theorem dF_draft_20 : decode cF_draft 20 = .ok (.aload_n 0, 1) := by decide +kernel
theorem dF_draft_21 : decode cF_draft 21 = .ok (.getfield 18, 3) := by decide +kernel
theorem dF_draft_24 : decode cF_draft 24 = .ok (.aload_n 0, 1) := by decide +kernel
theorem dF_draft_25 : decode cF_draft 25 = .ok (.getfield 44, 3) := by decide +kernel
theorem dF_draft_28 : decode cF_draft 28 = .ok (.iload_n 3, 1) := by decide +kernel
theorem dF_draft_29 : decode cF_draft 29 = .ok (.iastore, 1) := by decide +kernel
theorem dF_draft_30 : decode cF_draft 30 = .ok (.aload_n 0, 1) := by decide +kernel
theorem dF_draft_31 : decode cF_draft 31 = .ok (.invokevirtual 48, 3) := by decide +kernel
theorem dF_draft_34 : decode cF_draft 34 = .ok (.aload_n 0, 1) := by decide +kernel
theorem dF_draft_35 : decode cF_draft 35 = .ok (.invokevirtual 51, 3) := by decide +kernel
theorem dF_draft_38 : decode cF_draft 38 = .ok (.aload_n 0, 1) := by decide +kernel
theorem dF_draft_39 : decode cF_draft 39 = .ok (.invokevirtual 54, 3) := by decide +kernel
theorem dF_draft_42 : decode cF_draft 42 = .ok (.return_, 1) := by decide +kernel
abbrev cF_draftIsTooDear : ByteArray := prog_2_method_4_code
abbrev yF_draftIsTooDear : MethodName := ⟨"CoverTrees$Forest", "draftIsTooDear", "()Z"⟩
abbrev kF_draftIsTooDear : Cond := .code yF_draftIsTooDear cF_draftIsTooDear 2 (some .boolean)
abbrev wsF_draftIsTooDear : List Cond := kF_draftIsTooDear :: wB
theorem dF_draftIsTooDear_0 : decode cF_draftIsTooDear 0 = .ok (.iconst 0, 1) := by decide +kernel
theorem dF_draftIsTooDear_1 : decode cF_draftIsTooDear 1 = .ok (.istore_n 1, 1) := by decide +kernel
theorem dF_draftIsTooDear_2 : decode cF_draftIsTooDear 2 = .ok (.iload_n 1, 1) := by decide +kernel
theorem dF_draftIsTooDear_3 : decode cF_draftIsTooDear 3 = .ok (.bipush 8, 2) := by decide +kernel
theorem dF_draftIsTooDear_5 : decode cF_draftIsTooDear 5 = .ok (.if_icmp .ge 29, 3) := by decide +kernel
theorem dF_draftIsTooDear_8 : decode cF_draftIsTooDear 8 = .ok (.aload_n 0, 1) := by decide +kernel
theorem dF_draftIsTooDear_9 : decode cF_draftIsTooDear 9 = .ok (.getfield 27, 3) := by decide +kernel
theorem dF_draftIsTooDear_12 : decode cF_draftIsTooDear 12 = .ok (.aload_n 0, 1) := by decide +kernel
theorem dF_draftIsTooDear_13 : decode cF_draftIsTooDear 13 = .ok (.getfield 44, 3) := by decide +kernel
theorem dF_draftIsTooDear_16 : decode cF_draftIsTooDear 16 = .ok (.iload_n 1, 1) := by decide +kernel
theorem dF_draftIsTooDear_17 : decode cF_draftIsTooDear 17 = .ok (.invokestatic 57, 3) := by decide +kernel
theorem dF_draftIsTooDear_20 : decode cF_draftIsTooDear 20 = .ok (.iaload, 1) := by decide +kernel
theorem dF_draftIsTooDear_21 : decode cF_draftIsTooDear 21 = .ok (.ldc 61, 2) := by decide +kernel
theorem dF_draftIsTooDear_23 : decode cF_draftIsTooDear 23 = .ok (.if_icmp .le 5, 3) := by decide +kernel
theorem dF_draftIsTooDear_26 : decode cF_draftIsTooDear 26 = .ok (.iconst 1, 1) := by decide +kernel
theorem dF_draftIsTooDear_27 : decode cF_draftIsTooDear 27 = .ok (.ireturn, 1) := by decide +kernel
theorem dF_draftIsTooDear_28 : decode cF_draftIsTooDear 28 = .ok (.iinc 1 1, 3) := by decide +kernel
theorem dF_draftIsTooDear_31 : decode cF_draftIsTooDear 31 = .ok (.goto (-29), 3) := by decide +kernel
theorem dF_draftIsTooDear_34 : decode cF_draftIsTooDear 34 = .ok (.iconst 0, 1) := by decide +kernel
theorem dF_draftIsTooDear_35 : decode cF_draftIsTooDear 35 = .ok (.ireturn, 1) := by decide +kernel
abbrev cF_keepDraft : ByteArray := prog_2_method_5_code
abbrev yF_keepDraft : MethodName := ⟨"CoverTrees$Forest", "keepDraft", "()I"⟩
abbrev kF_keepDraft : Cond := .code yF_keepDraft cF_keepDraft 2 (some .int)
abbrev wsF_keepDraft : List Cond := kF_keepDraft :: wB
theorem dF_keepDraft_0 : decode cF_keepDraft 0 = .ok (.aload_n 0, 1) := by decide +kernel
theorem dF_keepDraft_1 : decode cF_keepDraft 1 = .ok (.getfield 44, 3) := by decide +kernel
theorem dF_keepDraft_4 : decode cF_keepDraft 4 = .ok (.istore_n 1, 1) := by decide +kernel
theorem dF_keepDraft_5 : decode cF_keepDraft 5 = .ok (.aload_n 0, 1) := by decide +kernel
theorem dF_keepDraft_6 : decode cF_keepDraft 6 = .ok (.getfield 24, 3) := by decide +kernel
theorem dF_keepDraft_9 : decode cF_keepDraft 9 = .ok (.iload_n 1, 1) := by decide +kernel
theorem dF_keepDraft_10 : decode cF_keepDraft 10 = .ok (.aload_n 0, 1) := by decide +kernel
theorem dF_keepDraft_11 : decode cF_keepDraft 11 = .ok (.iload_n 1, 1) := by decide +kernel
theorem dF_keepDraft_12 : decode cF_keepDraft 12 = .ok (.invokevirtual 62, 3) := by decide +kernel
theorem dF_keepDraft_15 : decode cF_keepDraft 15 = .ok (.iastore, 1) := by decide +kernel
theorem dF_keepDraft_16 : decode cF_keepDraft 16 = .ok (.aload_n 0, 1) := by decide +kernel
theorem dF_keepDraft_17 : decode cF_keepDraft 17 = .ok (.iload_n 1, 1) := by decide +kernel
theorem dF_keepDraft_18 : decode cF_keepDraft 18 = .ok (.iconst 1, 1) := by decide +kernel
theorem dF_keepDraft_19 : decode cF_keepDraft 19 = .ok (.iadd, 1) := by decide +kernel
theorem dF_keepDraft_20 : decode cF_keepDraft 20 = .ok (.putfield 44, 3) := by decide +kernel
theorem dF_keepDraft_23 : decode cF_keepDraft 23 = .ok (.iload_n 1, 1) := by decide +kernel
theorem dF_keepDraft_24 : decode cF_keepDraft 24 = .ok (.ireturn, 1) := by decide +kernel
abbrev cF_blankDraft : ByteArray := prog_2_method_6_code
abbrev yF_blankDraft : MethodName := ⟨"CoverTrees$Forest", "blankDraft", "()V"⟩
abbrev kF_blankDraft : Cond := .code yF_blankDraft cF_blankDraft 3 none
abbrev wsF_blankDraft : List Cond := kF_blankDraft :: wB
theorem dF_blankDraft_0 : decode cF_blankDraft 0 = .ok (.aload_n 0, 1) := by decide +kernel
theorem dF_blankDraft_1 : decode cF_blankDraft 1 = .ok (.getfield 21, 3) := by decide +kernel
theorem dF_blankDraft_4 : decode cF_blankDraft 4 = .ok (.aload_n 0, 1) := by decide +kernel
theorem dF_blankDraft_5 : decode cF_blankDraft 5 = .ok (.getfield 44, 3) := by decide +kernel
theorem dF_blankDraft_8 : decode cF_blankDraft 8 = .ok (.iconst (-1), 1) := by decide +kernel
theorem dF_blankDraft_9 : decode cF_blankDraft 9 = .ok (.iastore, 1) := by decide +kernel
theorem dF_blankDraft_10 : decode cF_blankDraft 10 = .ok (.iconst 0, 1) := by decide +kernel
theorem dF_blankDraft_11 : decode cF_blankDraft 11 = .ok (.istore_n 1, 1) := by decide +kernel
theorem dF_blankDraft_12 : decode cF_blankDraft 12 = .ok (.iload_n 1, 1) := by decide +kernel
theorem dF_blankDraft_13 : decode cF_blankDraft 13 = .ok (.bipush 8, 2) := by decide +kernel
theorem dF_blankDraft_15 : decode cF_blankDraft 15 = .ok (.if_icmp .ge 46, 3) := by decide +kernel
theorem dF_blankDraft_18 : decode cF_blankDraft 18 = .ok (.aload_n 0, 1) := by decide +kernel
theorem dF_blankDraft_19 : decode cF_blankDraft 19 = .ok (.getfield 44, 3) := by decide +kernel
theorem dF_blankDraft_22 : decode cF_blankDraft 22 = .ok (.iload_n 1, 1) := by decide +kernel
theorem dF_blankDraft_23 : decode cF_blankDraft 23 = .ok (.invokestatic 57, 3) := by decide +kernel
theorem dF_blankDraft_26 : decode cF_blankDraft 26 = .ok (.istore_n 2, 1) := by decide +kernel
theorem dF_blankDraft_27 : decode cF_blankDraft 27 = .ok (.aload_n 0, 1) := by decide +kernel
theorem dF_blankDraft_28 : decode cF_blankDraft 28 = .ok (.getfield 27, 3) := by decide +kernel
theorem dF_blankDraft_31 : decode cF_blankDraft 31 = .ok (.iload_n 2, 1) := by decide +kernel
theorem dF_blankDraft_32 : decode cF_blankDraft 32 = .ok (.iconst (-1), 1) := by decide +kernel
theorem dF_blankDraft_33 : decode cF_blankDraft 33 = .ok (.iastore, 1) := by decide +kernel
theorem dF_blankDraft_34 : decode cF_blankDraft 34 = .ok (.aload_n 0, 1) := by decide +kernel
theorem dF_blankDraft_35 : decode cF_blankDraft 35 = .ok (.getfield 30, 3) := by decide +kernel
theorem dF_blankDraft_38 : decode cF_blankDraft 38 = .ok (.iload_n 2, 1) := by decide +kernel
theorem dF_blankDraft_39 : decode cF_blankDraft 39 = .ok (.iconst (-1), 1) := by decide +kernel
theorem dF_blankDraft_40 : decode cF_blankDraft 40 = .ok (.iastore, 1) := by decide +kernel
theorem dF_blankDraft_41 : decode cF_blankDraft 41 = .ok (.aload_n 0, 1) := by decide +kernel
theorem dF_blankDraft_42 : decode cF_blankDraft 42 = .ok (.getfield 33, 3) := by decide +kernel
theorem dF_blankDraft_45 : decode cF_blankDraft 45 = .ok (.iload_n 2, 1) := by decide +kernel
theorem dF_blankDraft_46 : decode cF_blankDraft 46 = .ok (.iconst (-1), 1) := by decide +kernel
theorem dF_blankDraft_47 : decode cF_blankDraft 47 = .ok (.iastore, 1) := by decide +kernel
theorem dF_blankDraft_48 : decode cF_blankDraft 48 = .ok (.aload_n 0, 1) := by decide +kernel
theorem dF_blankDraft_49 : decode cF_blankDraft 49 = .ok (.getfield 36, 3) := by decide +kernel
theorem dF_blankDraft_52 : decode cF_blankDraft 52 = .ok (.iload_n 1, 1) := by decide +kernel
theorem dF_blankDraft_53 : decode cF_blankDraft 53 = .ok (.iconst 0, 1) := by decide +kernel
theorem dF_blankDraft_54 : decode cF_blankDraft 54 = .ok (.bastore, 1) := by decide +kernel
theorem dF_blankDraft_55 : decode cF_blankDraft 55 = .ok (.iinc 1 1, 3) := by decide +kernel
theorem dF_blankDraft_58 : decode cF_blankDraft 58 = .ok (.goto (-46), 3) := by decide +kernel
theorem dF_blankDraft_61 : decode cF_blankDraft 61 = .ok (.return_, 1) := by decide +kernel
abbrev cF_applyBaseRules : ByteArray := prog_2_method_7_code
abbrev yF_applyBaseRules : MethodName := ⟨"CoverTrees$Forest", "applyBaseRules", "()V"⟩
abbrev kF_applyBaseRules : Cond := .code yF_applyBaseRules cF_applyBaseRules 2 none
abbrev wsF_applyBaseRules : List Cond := kF_applyBaseRules :: wB
theorem dF_applyBaseRules_0 : decode cF_applyBaseRules 0 = .ok (.iconst 0, 1) := by decide +kernel
theorem dF_applyBaseRules_1 : decode cF_applyBaseRules 1 = .ok (.istore_n 1, 1) := by decide +kernel
theorem dF_applyBaseRules_2 : decode cF_applyBaseRules 2 = .ok (.iload_n 1, 1) := by decide +kernel
theorem dF_applyBaseRules_3 : decode cF_applyBaseRules 3 = .ok (.aload_n 0, 1) := by decide +kernel
theorem dF_applyBaseRules_4 : decode cF_applyBaseRules 4 = .ok (.getfield 40, 3) := by decide +kernel
theorem dF_applyBaseRules_7 : decode cF_applyBaseRules 7 = .ok (.getfield 66, 3) := by decide +kernel
theorem dF_applyBaseRules_10 : decode cF_applyBaseRules 10 = .ok (.if_icmp .ge 40, 3) := by decide +kernel
theorem dF_applyBaseRules_13 : decode cF_applyBaseRules 13 = .ok (.aload_n 0, 1) := by decide +kernel
theorem dF_applyBaseRules_14 : decode cF_applyBaseRules 14 = .ok (.getfield 40, 3) := by decide +kernel
theorem dF_applyBaseRules_17 : decode cF_applyBaseRules 17 = .ok (.getfield 71, 3) := by decide +kernel
theorem dF_applyBaseRules_20 : decode cF_applyBaseRules 20 = .ok (.iload_n 1, 1) := by decide +kernel
theorem dF_applyBaseRules_21 : decode cF_applyBaseRules 21 = .ok (.iaload, 1) := by decide +kernel
theorem dF_applyBaseRules_22 : decode cF_applyBaseRules 22 = .ok (.aload_n 0, 1) := by decide +kernel
theorem dF_applyBaseRules_23 : decode cF_applyBaseRules 23 = .ok (.getfield 9, 3) := by decide +kernel
theorem dF_applyBaseRules_26 : decode cF_applyBaseRules 26 = .ok (.aload_n 0, 1) := by decide +kernel
theorem dF_applyBaseRules_27 : decode cF_applyBaseRules 27 = .ok (.getfield 44, 3) := by decide +kernel
theorem dF_applyBaseRules_30 : decode cF_applyBaseRules 30 = .ok (.iaload, 1) := by decide +kernel
theorem dF_applyBaseRules_31 : decode cF_applyBaseRules 31 = .ok (.if_icmp .ne 13, 3) := by decide +kernel
theorem dF_applyBaseRules_34 : decode cF_applyBaseRules 34 = .ok (.aload_n 0, 1) := by decide +kernel
theorem dF_applyBaseRules_35 : decode cF_applyBaseRules 35 = .ok (.iload_n 1, 1) := by decide +kernel
theorem dF_applyBaseRules_36 : decode cF_applyBaseRules 36 = .ok (.aload_n 0, 1) := by decide +kernel
theorem dF_applyBaseRules_37 : decode cF_applyBaseRules 37 = .ok (.iload_n 1, 1) := by decide +kernel
theorem dF_applyBaseRules_38 : decode cF_applyBaseRules 38 = .ok (.invokevirtual 72, 3) := by decide +kernel
theorem dF_applyBaseRules_41 : decode cF_applyBaseRules 41 = .ok (.invokevirtual 75, 3) := by decide +kernel
theorem dF_applyBaseRules_44 : decode cF_applyBaseRules 44 = .ok (.iinc 1 1, 3) := by decide +kernel
theorem dF_applyBaseRules_47 : decode cF_applyBaseRules 47 = .ok (.goto (-45), 3) := by decide +kernel
theorem dF_applyBaseRules_50 : decode cF_applyBaseRules 50 = .ok (.return_, 1) := by decide +kernel
abbrev cF_baseCost : ByteArray := prog_2_method_8_code
abbrev yF_baseCost : MethodName := ⟨"CoverTrees$Forest", "baseCost", "(I)I"⟩
abbrev kF_baseCost : Cond := .code yF_baseCost cF_baseCost 5 (some .int)
abbrev wsF_baseCost : List Cond := kF_baseCost :: wB
theorem dF_baseCost_0 : decode cF_baseCost 0 = .ok (.aload_n 0, 1) := by decide +kernel
theorem dF_baseCost_1 : decode cF_baseCost 1 = .ok (.getfield 40, 3) := by decide +kernel
theorem dF_baseCost_4 : decode cF_baseCost 4 = .ok (.getfield 79, 3) := by decide +kernel
theorem dF_baseCost_7 : decode cF_baseCost 7 = .ok (.aload_n 0, 1) := by decide +kernel
theorem dF_baseCost_8 : decode cF_baseCost 8 = .ok (.getfield 9, 3) := by decide +kernel
theorem dF_baseCost_11 : decode cF_baseCost 11 = .ok (.aload_n 0, 1) := by decide +kernel
theorem dF_baseCost_12 : decode cF_baseCost 12 = .ok (.getfield 44, 3) := by decide +kernel
theorem dF_baseCost_15 : decode cF_baseCost 15 = .ok (.iaload, 1) := by decide +kernel
theorem dF_baseCost_16 : decode cF_baseCost 16 = .ok (.iaload, 1) := by decide +kernel
theorem dF_baseCost_17 : decode cF_baseCost 17 = .ok (.istore_n 2, 1) := by decide +kernel
theorem dF_baseCost_18 : decode cF_baseCost 18 = .ok (.aload_n 0, 1) := by decide +kernel
theorem dF_baseCost_19 : decode cF_baseCost 19 = .ok (.getfield 40, 3) := by decide +kernel
theorem dF_baseCost_22 : decode cF_baseCost 22 = .ok (.getfield 82, 3) := by decide +kernel
theorem dF_baseCost_25 : decode cF_baseCost 25 = .ok (.iload_n 1, 1) := by decide +kernel
theorem dF_baseCost_26 : decode cF_baseCost 26 = .ok (.iaload, 1) := by decide +kernel
theorem dF_baseCost_27 : decode cF_baseCost 27 = .ok (.istore_n 3, 1) := by decide +kernel
theorem dF_baseCost_28 : decode cF_baseCost 28 = .ok (.iload_n 2, 1) := by decide +kernel
theorem dF_baseCost_29 : decode cF_baseCost 29 = .ok (.iconst 1, 1) := by decide +kernel
theorem dF_baseCost_30 : decode cF_baseCost 30 = .ok (.if_icmp .lt 44, 3) := by decide +kernel
theorem dF_baseCost_33 : decode cF_baseCost 33 = .ok (.aload_n 0, 1) := by decide +kernel
theorem dF_baseCost_34 : decode cF_baseCost 34 = .ok (.getfield 27, 3) := by decide +kernel
theorem dF_baseCost_37 : decode cF_baseCost 37 = .ok (.aload_n 0, 1) := by decide +kernel
theorem dF_baseCost_38 : decode cF_baseCost 38 = .ok (.getfield 15, 3) := by decide +kernel
theorem dF_baseCost_41 : decode cF_baseCost 41 = .ok (.aload_n 0, 1) := by decide +kernel
theorem dF_baseCost_42 : decode cF_baseCost 42 = .ok (.getfield 44, 3) := by decide +kernel
theorem dF_baseCost_45 : decode cF_baseCost 45 = .ok (.iaload, 1) := by decide +kernel
theorem dF_baseCost_46 : decode cF_baseCost 46 = .ok (.aload_n 0, 1) := by decide +kernel
theorem dF_baseCost_47 : decode cF_baseCost 47 = .ok (.getfield 40, 3) := by decide +kernel
theorem dF_baseCost_50 : decode cF_baseCost 50 = .ok (.getfield 83, 3) := by decide +kernel
theorem dF_baseCost_53 : decode cF_baseCost 53 = .ok (.iload_n 1, 1) := by decide +kernel
theorem dF_baseCost_54 : decode cF_baseCost 54 = .ok (.iaload, 1) := by decide +kernel
theorem dF_baseCost_55 : decode cF_baseCost 55 = .ok (.invokestatic 57, 3) := by decide +kernel
theorem dF_baseCost_58 : decode cF_baseCost 58 = .ok (.iaload, 1) := by decide +kernel
theorem dF_baseCost_59 : decode cF_baseCost 59 = .ok (.istore 4, 2) := by decide +kernel
theorem dF_baseCost_61 : decode cF_baseCost 61 = .ok (.iload 4, 2) := by decide +kernel
theorem dF_baseCost_63 : decode cF_baseCost 63 = .ok (.iconst (-1), 1) := by decide +kernel
theorem dF_baseCost_64 : decode cF_baseCost 64 = .ok (.if_icmp .ne 5, 3) := by decide +kernel
theorem dF_baseCost_67 : decode cF_baseCost 67 = .ok (.iconst (-1), 1) := by decide +kernel
theorem dF_baseCost_68 : decode cF_baseCost 68 = .ok (.ireturn, 1) := by decide +kernel
theorem dF_baseCost_69 : decode cF_baseCost 69 = .ok (.iload_n 3, 1) := by decide +kernel
theorem dF_baseCost_70 : decode cF_baseCost 70 = .ok (.iload 4, 2) := by decide +kernel
theorem dF_baseCost_72 : decode cF_baseCost 72 = .ok (.iadd, 1) := by decide +kernel
theorem dF_baseCost_73 : decode cF_baseCost 73 = .ok (.istore_n 3, 1) := by decide +kernel
theorem dF_baseCost_74 : decode cF_baseCost 74 = .ok (.iload_n 2, 1) := by decide +kernel
theorem dF_baseCost_75 : decode cF_baseCost 75 = .ok (.iconst 2, 1) := by decide +kernel
theorem dF_baseCost_76 : decode cF_baseCost 76 = .ok (.if_icmp .lt 44, 3) := by decide +kernel
theorem dF_baseCost_79 : decode cF_baseCost 79 = .ok (.aload_n 0, 1) := by decide +kernel
theorem dF_baseCost_80 : decode cF_baseCost 80 = .ok (.getfield 27, 3) := by decide +kernel
theorem dF_baseCost_83 : decode cF_baseCost 83 = .ok (.aload_n 0, 1) := by decide +kernel
theorem dF_baseCost_84 : decode cF_baseCost 84 = .ok (.getfield 18, 3) := by decide +kernel
theorem dF_baseCost_87 : decode cF_baseCost 87 = .ok (.aload_n 0, 1) := by decide +kernel
theorem dF_baseCost_88 : decode cF_baseCost 88 = .ok (.getfield 44, 3) := by decide +kernel
theorem dF_baseCost_91 : decode cF_baseCost 91 = .ok (.iaload, 1) := by decide +kernel
theorem dF_baseCost_92 : decode cF_baseCost 92 = .ok (.aload_n 0, 1) := by decide +kernel
theorem dF_baseCost_93 : decode cF_baseCost 93 = .ok (.getfield 40, 3) := by decide +kernel
theorem dF_baseCost_96 : decode cF_baseCost 96 = .ok (.getfield 84, 3) := by decide +kernel
theorem dF_baseCost_99 : decode cF_baseCost 99 = .ok (.iload_n 1, 1) := by decide +kernel
theorem dF_baseCost_100 : decode cF_baseCost 100 = .ok (.iaload, 1) := by decide +kernel
theorem dF_baseCost_101 : decode cF_baseCost 101 = .ok (.invokestatic 57, 3) := by decide +kernel
theorem dF_baseCost_104 : decode cF_baseCost 104 = .ok (.iaload, 1) := by decide +kernel
theorem dF_baseCost_105 : decode cF_baseCost 105 = .ok (.istore 4, 2) := by decide +kernel
theorem dF_baseCost_107 : decode cF_baseCost 107 = .ok (.iload 4, 2) := by decide +kernel
theorem dF_baseCost_109 : decode cF_baseCost 109 = .ok (.iconst (-1), 1) := by decide +kernel
theorem dF_baseCost_110 : decode cF_baseCost 110 = .ok (.if_icmp .ne 5, 3) := by decide +kernel
theorem dF_baseCost_113 : decode cF_baseCost 113 = .ok (.iconst (-1), 1) := by decide +kernel
theorem dF_baseCost_114 : decode cF_baseCost 114 = .ok (.ireturn, 1) := by decide +kernel
theorem dF_baseCost_115 : decode cF_baseCost 115 = .ok (.iload_n 3, 1) := by decide +kernel
theorem dF_baseCost_116 : decode cF_baseCost 116 = .ok (.iload 4, 2) := by decide +kernel
theorem dF_baseCost_118 : decode cF_baseCost 118 = .ok (.iadd, 1) := by decide +kernel
theorem dF_baseCost_119 : decode cF_baseCost 119 = .ok (.istore_n 3, 1) := by decide +kernel
theorem dF_baseCost_120 : decode cF_baseCost 120 = .ok (.iload_n 3, 1) := by decide +kernel
theorem dF_baseCost_121 : decode cF_baseCost 121 = .ok (.ireturn, 1) := by decide +kernel
abbrev cF_offer : ByteArray := prog_2_method_9_code
abbrev yF_offer : MethodName := ⟨"CoverTrees$Forest", "offer", "(II)V"⟩
abbrev kF_offer : Cond := .code yF_offer cF_offer 4 none
abbrev wsF_offer : List Cond := kF_offer :: wB
theorem dF_offer_0 : decode cF_offer 0 = .ok (.aload_n 0, 1) := by decide +kernel
theorem dF_offer_1 : decode cF_offer 1 = .ok (.getfield 44, 3) := by decide +kernel
theorem dF_offer_4 : decode cF_offer 4 = .ok (.aload_n 0, 1) := by decide +kernel
theorem dF_offer_5 : decode cF_offer 5 = .ok (.getfield 40, 3) := by decide +kernel
theorem dF_offer_8 : decode cF_offer 8 = .ok (.getfield 85, 3) := by decide +kernel
theorem dF_offer_11 : decode cF_offer 11 = .ok (.iload_n 1, 1) := by decide +kernel
theorem dF_offer_12 : decode cF_offer 12 = .ok (.iaload, 1) := by decide +kernel
theorem dF_offer_13 : decode cF_offer 13 = .ok (.invokestatic 57, 3) := by decide +kernel
theorem dF_offer_16 : decode cF_offer 16 = .ok (.istore_n 3, 1) := by decide +kernel
theorem dF_offer_17 : decode cF_offer 17 = .ok (.iload_n 2, 1) := by decide +kernel
theorem dF_offer_18 : decode cF_offer 18 = .ok (.iconst (-1), 1) := by decide +kernel
theorem dF_offer_19 : decode cF_offer 19 = .ok (.if_icmp .eq 37, 3) := by decide +kernel
theorem dF_offer_22 : decode cF_offer 22 = .ok (.aload_n 0, 1) := by decide +kernel
theorem dF_offer_23 : decode cF_offer 23 = .ok (.getfield 27, 3) := by decide +kernel
theorem dF_offer_26 : decode cF_offer 26 = .ok (.iload_n 3, 1) := by decide +kernel
theorem dF_offer_27 : decode cF_offer 27 = .ok (.iaload, 1) := by decide +kernel
theorem dF_offer_28 : decode cF_offer 28 = .ok (.iconst (-1), 1) := by decide +kernel
theorem dF_offer_29 : decode cF_offer 29 = .ok (.if_icmp .eq 13, 3) := by decide +kernel
theorem dF_offer_32 : decode cF_offer 32 = .ok (.iload_n 2, 1) := by decide +kernel
theorem dF_offer_33 : decode cF_offer 33 = .ok (.aload_n 0, 1) := by decide +kernel
theorem dF_offer_34 : decode cF_offer 34 = .ok (.getfield 27, 3) := by decide +kernel
theorem dF_offer_37 : decode cF_offer 37 = .ok (.iload_n 3, 1) := by decide +kernel
theorem dF_offer_38 : decode cF_offer 38 = .ok (.iaload, 1) := by decide +kernel
theorem dF_offer_39 : decode cF_offer 39 = .ok (.if_icmp .ge 17, 3) := by decide +kernel
theorem dF_offer_42 : decode cF_offer 42 = .ok (.aload_n 0, 1) := by decide +kernel
theorem dF_offer_43 : decode cF_offer 43 = .ok (.getfield 27, 3) := by decide +kernel
theorem dF_offer_46 : decode cF_offer 46 = .ok (.iload_n 3, 1) := by decide +kernel
theorem dF_offer_47 : decode cF_offer 47 = .ok (.iload_n 2, 1) := by decide +kernel
theorem dF_offer_48 : decode cF_offer 48 = .ok (.iastore, 1) := by decide +kernel
theorem dF_offer_49 : decode cF_offer 49 = .ok (.aload_n 0, 1) := by decide +kernel
theorem dF_offer_50 : decode cF_offer 50 = .ok (.getfield 30, 3) := by decide +kernel
theorem dF_offer_53 : decode cF_offer 53 = .ok (.iload_n 3, 1) := by decide +kernel
theorem dF_offer_54 : decode cF_offer 54 = .ok (.iload_n 1, 1) := by decide +kernel
theorem dF_offer_55 : decode cF_offer 55 = .ok (.iastore, 1) := by decide +kernel
theorem dF_offer_56 : decode cF_offer 56 = .ok (.return_, 1) := by decide +kernel
abbrev cF_settleGoals : ByteArray := prog_2_method_10_code
abbrev yF_settleGoals : MethodName := ⟨"CoverTrees$Forest", "settleGoals", "()V"⟩
abbrev kF_settleGoals : Cond := .code yF_settleGoals cF_settleGoals 3 none
abbrev wsF_settleGoals : List Cond := kF_settleGoals :: wB
theorem dF_settleGoals_0 : decode cF_settleGoals 0 = .ok (.iconst 0, 1) := by decide +kernel
theorem dF_settleGoals_1 : decode cF_settleGoals 1 = .ok (.istore_n 1, 1) := by decide +kernel
theorem dF_settleGoals_2 : decode cF_settleGoals 2 = .ok (.iload_n 1, 1) := by decide +kernel
theorem dF_settleGoals_3 : decode cF_settleGoals 3 = .ok (.bipush 8, 2) := by decide +kernel
theorem dF_settleGoals_5 : decode cF_settleGoals 5 = .ok (.if_icmp .ge 76, 3) := by decide +kernel
theorem dF_settleGoals_8 : decode cF_settleGoals 8 = .ok (.aload_n 0, 1) := by decide +kernel
theorem dF_settleGoals_9 : decode cF_settleGoals 9 = .ok (.invokevirtual 88, 3) := by decide +kernel
theorem dF_settleGoals_12 : decode cF_settleGoals 12 = .ok (.istore_n 2, 1) := by decide +kernel
theorem dF_settleGoals_13 : decode cF_settleGoals 13 = .ok (.iload_n 2, 1) := by decide +kernel
theorem dF_settleGoals_14 : decode cF_settleGoals 14 = .ok (.iconst (-1), 1) := by decide +kernel
theorem dF_settleGoals_15 : decode cF_settleGoals 15 = .ok (.if_icmp .ne 4, 3) := by decide +kernel
theorem dF_settleGoals_18 : decode cF_settleGoals 18 = .ok (.return_, 1) := by decide +kernel
theorem dF_settleGoals_19 : decode cF_settleGoals 19 = .ok (.aload_n 0, 1) := by decide +kernel
theorem dF_settleGoals_20 : decode cF_settleGoals 20 = .ok (.getfield 36, 3) := by decide +kernel
theorem dF_settleGoals_23 : decode cF_settleGoals 23 = .ok (.iload_n 2, 1) := by decide +kernel
theorem dF_settleGoals_24 : decode cF_settleGoals 24 = .ok (.iconst 1, 1) := by decide +kernel
theorem dF_settleGoals_25 : decode cF_settleGoals 25 = .ok (.bastore, 1) := by decide +kernel
theorem dF_settleGoals_26 : decode cF_settleGoals 26 = .ok (.iload_n 1, 1) := by decide +kernel
theorem dF_settleGoals_27 : decode cF_settleGoals 27 = .ok (.ifCond .ne 25, 3) := by decide +kernel
theorem dF_settleGoals_30 : decode cF_settleGoals 30 = .ok (.aload_n 0, 1) := by decide +kernel
theorem dF_settleGoals_31 : decode cF_settleGoals 31 = .ok (.getfield 21, 3) := by decide +kernel
theorem dF_settleGoals_34 : decode cF_settleGoals 34 = .ok (.aload_n 0, 1) := by decide +kernel
theorem dF_settleGoals_35 : decode cF_settleGoals 35 = .ok (.getfield 44, 3) := by decide +kernel
theorem dF_settleGoals_38 : decode cF_settleGoals 38 = .ok (.aload_n 0, 1) := by decide +kernel
theorem dF_settleGoals_39 : decode cF_settleGoals 39 = .ok (.getfield 27, 3) := by decide +kernel
theorem dF_settleGoals_42 : decode cF_settleGoals 42 = .ok (.aload_n 0, 1) := by decide +kernel
theorem dF_settleGoals_43 : decode cF_settleGoals 43 = .ok (.getfield 44, 3) := by decide +kernel
theorem dF_settleGoals_46 : decode cF_settleGoals 46 = .ok (.iload_n 2, 1) := by decide +kernel
theorem dF_settleGoals_47 : decode cF_settleGoals 47 = .ok (.invokestatic 57, 3) := by decide +kernel
theorem dF_settleGoals_50 : decode cF_settleGoals 50 = .ok (.iaload, 1) := by decide +kernel
theorem dF_settleGoals_51 : decode cF_settleGoals 51 = .ok (.iastore, 1) := by decide +kernel
theorem dF_settleGoals_52 : decode cF_settleGoals 52 = .ok (.aload_n 0, 1) := by decide +kernel
theorem dF_settleGoals_53 : decode cF_settleGoals 53 = .ok (.getfield 33, 3) := by decide +kernel
theorem dF_settleGoals_56 : decode cF_settleGoals 56 = .ok (.aload_n 0, 1) := by decide +kernel
theorem dF_settleGoals_57 : decode cF_settleGoals 57 = .ok (.getfield 44, 3) := by decide +kernel
theorem dF_settleGoals_60 : decode cF_settleGoals 60 = .ok (.iload_n 2, 1) := by decide +kernel
theorem dF_settleGoals_61 : decode cF_settleGoals 61 = .ok (.invokestatic 57, 3) := by decide +kernel
theorem dF_settleGoals_64 : decode cF_settleGoals 64 = .ok (.aload_n 0, 1) := by decide +kernel
theorem dF_settleGoals_65 : decode cF_settleGoals 65 = .ok (.iload_n 2, 1) := by decide +kernel
theorem dF_settleGoals_66 : decode cF_settleGoals 66 = .ok (.invokevirtual 92, 3) := by decide +kernel
theorem dF_settleGoals_69 : decode cF_settleGoals 69 = .ok (.iastore, 1) := by decide +kernel
theorem dF_settleGoals_70 : decode cF_settleGoals 70 = .ok (.aload_n 0, 1) := by decide +kernel
theorem dF_settleGoals_71 : decode cF_settleGoals 71 = .ok (.iload_n 2, 1) := by decide +kernel
theorem dF_settleGoals_72 : decode cF_settleGoals 72 = .ok (.invokevirtual 95, 3) := by decide +kernel
theorem dF_settleGoals_75 : decode cF_settleGoals 75 = .ok (.iinc 1 1, 3) := by decide +kernel
theorem dF_settleGoals_78 : decode cF_settleGoals 78 = .ok (.goto (-76), 3) := by decide +kernel
theorem dF_settleGoals_81 : decode cF_settleGoals 81 = .ok (.return_, 1) := by decide +kernel
abbrev cF_cheapestUnsettled : ByteArray := prog_2_method_11_code
abbrev yF_cheapestUnsettled : MethodName := ⟨"CoverTrees$Forest", "cheapestUnsettled", "()I"⟩
abbrev kF_cheapestUnsettled : Cond := .code yF_cheapestUnsettled cF_cheapestUnsettled 4 (some .int)
abbrev wsF_cheapestUnsettled : List Cond := kF_cheapestUnsettled :: wB
theorem dF_cheapestUnsettled_0 : decode cF_cheapestUnsettled 0 = .ok (.iconst (-1), 1) := by decide +kernel
theorem dF_cheapestUnsettled_1 : decode cF_cheapestUnsettled 1 = .ok (.istore_n 1, 1) := by decide +kernel
theorem dF_cheapestUnsettled_2 : decode cF_cheapestUnsettled 2 = .ok (.iconst 0, 1) := by decide +kernel
theorem dF_cheapestUnsettled_3 : decode cF_cheapestUnsettled 3 = .ok (.istore_n 2, 1) := by decide +kernel
theorem dF_cheapestUnsettled_4 : decode cF_cheapestUnsettled 4 = .ok (.iload_n 2, 1) := by decide +kernel
theorem dF_cheapestUnsettled_5 : decode cF_cheapestUnsettled 5 = .ok (.bipush 8, 2) := by decide +kernel
theorem dF_cheapestUnsettled_7 : decode cF_cheapestUnsettled 7 = .ok (.if_icmp .ge 61, 3) := by decide +kernel
theorem dF_cheapestUnsettled_10 : decode cF_cheapestUnsettled 10 = .ok (.aload_n 0, 1) := by decide +kernel
theorem dF_cheapestUnsettled_11 : decode cF_cheapestUnsettled 11 = .ok (.getfield 27, 3) := by decide +kernel
theorem dF_cheapestUnsettled_14 : decode cF_cheapestUnsettled 14 = .ok (.aload_n 0, 1) := by decide +kernel
theorem dF_cheapestUnsettled_15 : decode cF_cheapestUnsettled 15 = .ok (.getfield 44, 3) := by decide +kernel
theorem dF_cheapestUnsettled_18 : decode cF_cheapestUnsettled 18 = .ok (.iload_n 2, 1) := by decide +kernel
theorem dF_cheapestUnsettled_19 : decode cF_cheapestUnsettled 19 = .ok (.invokestatic 57, 3) := by decide +kernel
theorem dF_cheapestUnsettled_22 : decode cF_cheapestUnsettled 22 = .ok (.iaload, 1) := by decide +kernel
theorem dF_cheapestUnsettled_23 : decode cF_cheapestUnsettled 23 = .ok (.istore_n 3, 1) := by decide +kernel
theorem dF_cheapestUnsettled_24 : decode cF_cheapestUnsettled 24 = .ok (.aload_n 0, 1) := by decide +kernel
theorem dF_cheapestUnsettled_25 : decode cF_cheapestUnsettled 25 = .ok (.getfield 36, 3) := by decide +kernel
theorem dF_cheapestUnsettled_28 : decode cF_cheapestUnsettled 28 = .ok (.iload_n 2, 1) := by decide +kernel
theorem dF_cheapestUnsettled_29 : decode cF_cheapestUnsettled 29 = .ok (.baload, 1) := by decide +kernel
theorem dF_cheapestUnsettled_30 : decode cF_cheapestUnsettled 30 = .ok (.ifCond .ne 32, 3) := by decide +kernel
theorem dF_cheapestUnsettled_33 : decode cF_cheapestUnsettled 33 = .ok (.iload_n 3, 1) := by decide +kernel
theorem dF_cheapestUnsettled_34 : decode cF_cheapestUnsettled 34 = .ok (.iconst (-1), 1) := by decide +kernel
theorem dF_cheapestUnsettled_35 : decode cF_cheapestUnsettled 35 = .ok (.if_icmp .eq 27, 3) := by decide +kernel
theorem dF_cheapestUnsettled_38 : decode cF_cheapestUnsettled 38 = .ok (.iload_n 1, 1) := by decide +kernel
theorem dF_cheapestUnsettled_39 : decode cF_cheapestUnsettled 39 = .ok (.iconst (-1), 1) := by decide +kernel
theorem dF_cheapestUnsettled_40 : decode cF_cheapestUnsettled 40 = .ok (.if_icmp .eq 20, 3) := by decide +kernel
theorem dF_cheapestUnsettled_43 : decode cF_cheapestUnsettled 43 = .ok (.iload_n 3, 1) := by decide +kernel
theorem dF_cheapestUnsettled_44 : decode cF_cheapestUnsettled 44 = .ok (.aload_n 0, 1) := by decide +kernel
theorem dF_cheapestUnsettled_45 : decode cF_cheapestUnsettled 45 = .ok (.getfield 27, 3) := by decide +kernel
theorem dF_cheapestUnsettled_48 : decode cF_cheapestUnsettled 48 = .ok (.aload_n 0, 1) := by decide +kernel
theorem dF_cheapestUnsettled_49 : decode cF_cheapestUnsettled 49 = .ok (.getfield 44, 3) := by decide +kernel
theorem dF_cheapestUnsettled_52 : decode cF_cheapestUnsettled 52 = .ok (.iload_n 1, 1) := by decide +kernel
theorem dF_cheapestUnsettled_53 : decode cF_cheapestUnsettled 53 = .ok (.invokestatic 57, 3) := by decide +kernel
theorem dF_cheapestUnsettled_56 : decode cF_cheapestUnsettled 56 = .ok (.iaload, 1) := by decide +kernel
theorem dF_cheapestUnsettled_57 : decode cF_cheapestUnsettled 57 = .ok (.if_icmp .ge 5, 3) := by decide +kernel
theorem dF_cheapestUnsettled_60 : decode cF_cheapestUnsettled 60 = .ok (.iload_n 2, 1) := by decide +kernel
theorem dF_cheapestUnsettled_61 : decode cF_cheapestUnsettled 61 = .ok (.istore_n 1, 1) := by decide +kernel
theorem dF_cheapestUnsettled_62 : decode cF_cheapestUnsettled 62 = .ok (.iinc 2 1, 3) := by decide +kernel
theorem dF_cheapestUnsettled_65 : decode cF_cheapestUnsettled 65 = .ok (.goto (-61), 3) := by decide +kernel
theorem dF_cheapestUnsettled_68 : decode cF_cheapestUnsettled 68 = .ok (.iload_n 1, 1) := by decide +kernel
theorem dF_cheapestUnsettled_69 : decode cF_cheapestUnsettled 69 = .ok (.ireturn, 1) := by decide +kernel
abbrev cF_applyChainRulesFrom : ByteArray := prog_2_method_12_code
abbrev yF_applyChainRulesFrom : MethodName := ⟨"CoverTrees$Forest", "applyChainRulesFrom", "(I)V"⟩
abbrev kF_applyChainRulesFrom : Cond := .code yF_applyChainRulesFrom cF_applyChainRulesFrom 4 none
abbrev wsF_applyChainRulesFrom : List Cond := kF_applyChainRulesFrom :: wB
theorem dF_applyChainRulesFrom_0 : decode cF_applyChainRulesFrom 0 = .ok (.aload_n 0, 1) := by decide +kernel
theorem dF_applyChainRulesFrom_1 : decode cF_applyChainRulesFrom 1 = .ok (.getfield 27, 3) := by decide +kernel
theorem dF_applyChainRulesFrom_4 : decode cF_applyChainRulesFrom 4 = .ok (.aload_n 0, 1) := by decide +kernel
theorem dF_applyChainRulesFrom_5 : decode cF_applyChainRulesFrom 5 = .ok (.getfield 44, 3) := by decide +kernel
theorem dF_applyChainRulesFrom_8 : decode cF_applyChainRulesFrom 8 = .ok (.iload_n 1, 1) := by decide +kernel
theorem dF_applyChainRulesFrom_9 : decode cF_applyChainRulesFrom 9 = .ok (.invokestatic 57, 3) := by decide +kernel
theorem dF_applyChainRulesFrom_12 : decode cF_applyChainRulesFrom 12 = .ok (.iaload, 1) := by decide +kernel
theorem dF_applyChainRulesFrom_13 : decode cF_applyChainRulesFrom 13 = .ok (.istore_n 2, 1) := by decide +kernel
theorem dF_applyChainRulesFrom_14 : decode cF_applyChainRulesFrom 14 = .ok (.iconst 0, 1) := by decide +kernel
theorem dF_applyChainRulesFrom_15 : decode cF_applyChainRulesFrom 15 = .ok (.istore_n 3, 1) := by decide +kernel
theorem dF_applyChainRulesFrom_16 : decode cF_applyChainRulesFrom 16 = .ok (.iload_n 3, 1) := by decide +kernel
theorem dF_applyChainRulesFrom_17 : decode cF_applyChainRulesFrom 17 = .ok (.aload_n 0, 1) := by decide +kernel
theorem dF_applyChainRulesFrom_18 : decode cF_applyChainRulesFrom 18 = .ok (.getfield 40, 3) := by decide +kernel
theorem dF_applyChainRulesFrom_21 : decode cF_applyChainRulesFrom 21 = .ok (.getfield 66, 3) := by decide +kernel
theorem dF_applyChainRulesFrom_24 : decode cF_applyChainRulesFrom 24 = .ok (.if_icmp .ge 37, 3) := by decide +kernel
theorem dF_applyChainRulesFrom_27 : decode cF_applyChainRulesFrom 27 = .ok (.aload_n 0, 1) := by decide +kernel
theorem dF_applyChainRulesFrom_28 : decode cF_applyChainRulesFrom 28 = .ok (.getfield 40, 3) := by decide +kernel
theorem dF_applyChainRulesFrom_31 : decode cF_applyChainRulesFrom 31 = .ok (.iload_n 3, 1) := by decide +kernel
theorem dF_applyChainRulesFrom_32 : decode cF_applyChainRulesFrom 32 = .ok (.iload_n 1, 1) := by decide +kernel
theorem dF_applyChainRulesFrom_33 : decode cF_applyChainRulesFrom 33 = .ok (.invokevirtual 99, 3) := by decide +kernel
theorem dF_applyChainRulesFrom_36 : decode cF_applyChainRulesFrom 36 = .ok (.ifCond .eq 19, 3) := by decide +kernel
theorem dF_applyChainRulesFrom_39 : decode cF_applyChainRulesFrom 39 = .ok (.aload_n 0, 1) := by decide +kernel
theorem dF_applyChainRulesFrom_40 : decode cF_applyChainRulesFrom 40 = .ok (.iload_n 3, 1) := by decide +kernel
theorem dF_applyChainRulesFrom_41 : decode cF_applyChainRulesFrom 41 = .ok (.iload_n 2, 1) := by decide +kernel
theorem dF_applyChainRulesFrom_42 : decode cF_applyChainRulesFrom 42 = .ok (.aload_n 0, 1) := by decide +kernel
theorem dF_applyChainRulesFrom_43 : decode cF_applyChainRulesFrom 43 = .ok (.getfield 40, 3) := by decide +kernel
theorem dF_applyChainRulesFrom_46 : decode cF_applyChainRulesFrom 46 = .ok (.getfield 82, 3) := by decide +kernel
theorem dF_applyChainRulesFrom_49 : decode cF_applyChainRulesFrom 49 = .ok (.iload_n 3, 1) := by decide +kernel
theorem dF_applyChainRulesFrom_50 : decode cF_applyChainRulesFrom 50 = .ok (.iaload, 1) := by decide +kernel
theorem dF_applyChainRulesFrom_51 : decode cF_applyChainRulesFrom 51 = .ok (.iadd, 1) := by decide +kernel
theorem dF_applyChainRulesFrom_52 : decode cF_applyChainRulesFrom 52 = .ok (.invokevirtual 75, 3) := by decide +kernel
theorem dF_applyChainRulesFrom_55 : decode cF_applyChainRulesFrom 55 = .ok (.iinc 3 1, 3) := by decide +kernel
theorem dF_applyChainRulesFrom_58 : decode cF_applyChainRulesFrom 58 = .ok (.goto (-42), 3) := by decide +kernel
theorem dF_applyChainRulesFrom_61 : decode cF_applyChainRulesFrom 61 = .ok (.return_, 1) := by decide +kernel
abbrev cF_sizeByRule : ByteArray := prog_2_method_13_code
abbrev yF_sizeByRule : MethodName := ⟨"CoverTrees$Forest", "sizeByRule", "(I)I"⟩
abbrev kF_sizeByRule : Cond := .code yF_sizeByRule cF_sizeByRule 5 (some .int)
abbrev wsF_sizeByRule : List Cond := kF_sizeByRule :: wB
theorem dF_sizeByRule_0 : decode cF_sizeByRule 0 = .ok (.aload_n 0, 1) := by decide +kernel
theorem dF_sizeByRule_1 : decode cF_sizeByRule 1 = .ok (.getfield 30, 3) := by decide +kernel
theorem dF_sizeByRule_4 : decode cF_sizeByRule 4 = .ok (.aload_n 0, 1) := by decide +kernel
theorem dF_sizeByRule_5 : decode cF_sizeByRule 5 = .ok (.getfield 44, 3) := by decide +kernel
theorem dF_sizeByRule_8 : decode cF_sizeByRule 8 = .ok (.iload_n 1, 1) := by decide +kernel
theorem dF_sizeByRule_9 : decode cF_sizeByRule 9 = .ok (.invokestatic 57, 3) := by decide +kernel
theorem dF_sizeByRule_12 : decode cF_sizeByRule 12 = .ok (.iaload, 1) := by decide +kernel
theorem dF_sizeByRule_13 : decode cF_sizeByRule 13 = .ok (.istore_n 2, 1) := by decide +kernel
theorem dF_sizeByRule_14 : decode cF_sizeByRule 14 = .ok (.iconst 1, 1) := by decide +kernel
theorem dF_sizeByRule_15 : decode cF_sizeByRule 15 = .ok (.istore_n 3, 1) := by decide +kernel
theorem dF_sizeByRule_16 : decode cF_sizeByRule 16 = .ok (.aload_n 0, 1) := by decide +kernel
theorem dF_sizeByRule_17 : decode cF_sizeByRule 17 = .ok (.getfield 40, 3) := by decide +kernel
theorem dF_sizeByRule_20 : decode cF_sizeByRule 20 = .ok (.getfield 71, 3) := by decide +kernel
theorem dF_sizeByRule_23 : decode cF_sizeByRule 23 = .ok (.iload_n 2, 1) := by decide +kernel
theorem dF_sizeByRule_24 : decode cF_sizeByRule 24 = .ok (.iaload, 1) := by decide +kernel
theorem dF_sizeByRule_25 : decode cF_sizeByRule 25 = .ok (.iconst (-1), 1) := by decide +kernel
theorem dF_sizeByRule_26 : decode cF_sizeByRule 26 = .ok (.if_icmp .ne 30, 3) := by decide +kernel
theorem dF_sizeByRule_29 : decode cF_sizeByRule 29 = .ok (.iload_n 3, 1) := by decide +kernel
theorem dF_sizeByRule_30 : decode cF_sizeByRule 30 = .ok (.aload_n 0, 1) := by decide +kernel
theorem dF_sizeByRule_31 : decode cF_sizeByRule 31 = .ok (.getfield 33, 3) := by decide +kernel
theorem dF_sizeByRule_34 : decode cF_sizeByRule 34 = .ok (.aload_n 0, 1) := by decide +kernel
theorem dF_sizeByRule_35 : decode cF_sizeByRule 35 = .ok (.getfield 44, 3) := by decide +kernel
theorem dF_sizeByRule_38 : decode cF_sizeByRule 38 = .ok (.aload_n 0, 1) := by decide +kernel
theorem dF_sizeByRule_39 : decode cF_sizeByRule 39 = .ok (.getfield 40, 3) := by decide +kernel
theorem dF_sizeByRule_42 : decode cF_sizeByRule 42 = .ok (.getfield 83, 3) := by decide +kernel
theorem dF_sizeByRule_45 : decode cF_sizeByRule 45 = .ok (.iload_n 2, 1) := by decide +kernel
theorem dF_sizeByRule_46 : decode cF_sizeByRule 46 = .ok (.iaload, 1) := by decide +kernel
theorem dF_sizeByRule_47 : decode cF_sizeByRule 47 = .ok (.invokestatic 57, 3) := by decide +kernel
theorem dF_sizeByRule_50 : decode cF_sizeByRule 50 = .ok (.iaload, 1) := by decide +kernel
theorem dF_sizeByRule_51 : decode cF_sizeByRule 51 = .ok (.iadd, 1) := by decide +kernel
theorem dF_sizeByRule_52 : decode cF_sizeByRule 52 = .ok (.istore_n 3, 1) := by decide +kernel
theorem dF_sizeByRule_53 : decode cF_sizeByRule 53 = .ok (.goto 92, 3) := by decide +kernel
theorem dF_sizeByRule_56 : decode cF_sizeByRule 56 = .ok (.aload_n 0, 1) := by decide +kernel
theorem dF_sizeByRule_57 : decode cF_sizeByRule 57 = .ok (.getfield 40, 3) := by decide +kernel
theorem dF_sizeByRule_60 : decode cF_sizeByRule 60 = .ok (.getfield 79, 3) := by decide +kernel
theorem dF_sizeByRule_63 : decode cF_sizeByRule 63 = .ok (.aload_n 0, 1) := by decide +kernel
theorem dF_sizeByRule_64 : decode cF_sizeByRule 64 = .ok (.getfield 9, 3) := by decide +kernel
theorem dF_sizeByRule_67 : decode cF_sizeByRule 67 = .ok (.aload_n 0, 1) := by decide +kernel
theorem dF_sizeByRule_68 : decode cF_sizeByRule 68 = .ok (.getfield 44, 3) := by decide +kernel
theorem dF_sizeByRule_71 : decode cF_sizeByRule 71 = .ok (.iaload, 1) := by decide +kernel
theorem dF_sizeByRule_72 : decode cF_sizeByRule 72 = .ok (.iaload, 1) := by decide +kernel
theorem dF_sizeByRule_73 : decode cF_sizeByRule 73 = .ok (.istore 4, 2) := by decide +kernel
theorem dF_sizeByRule_75 : decode cF_sizeByRule 75 = .ok (.iload 4, 2) := by decide +kernel
theorem dF_sizeByRule_77 : decode cF_sizeByRule 77 = .ok (.iconst 1, 1) := by decide +kernel
theorem dF_sizeByRule_78 : decode cF_sizeByRule 78 = .ok (.if_icmp .lt 32, 3) := by decide +kernel
theorem dF_sizeByRule_81 : decode cF_sizeByRule 81 = .ok (.iload_n 3, 1) := by decide +kernel
theorem dF_sizeByRule_82 : decode cF_sizeByRule 82 = .ok (.aload_n 0, 1) := by decide +kernel
theorem dF_sizeByRule_83 : decode cF_sizeByRule 83 = .ok (.getfield 33, 3) := by decide +kernel
theorem dF_sizeByRule_86 : decode cF_sizeByRule 86 = .ok (.aload_n 0, 1) := by decide +kernel
theorem dF_sizeByRule_87 : decode cF_sizeByRule 87 = .ok (.getfield 15, 3) := by decide +kernel
theorem dF_sizeByRule_90 : decode cF_sizeByRule 90 = .ok (.aload_n 0, 1) := by decide +kernel
theorem dF_sizeByRule_91 : decode cF_sizeByRule 91 = .ok (.getfield 44, 3) := by decide +kernel
theorem dF_sizeByRule_94 : decode cF_sizeByRule 94 = .ok (.iaload, 1) := by decide +kernel
theorem dF_sizeByRule_95 : decode cF_sizeByRule 95 = .ok (.aload_n 0, 1) := by decide +kernel
theorem dF_sizeByRule_96 : decode cF_sizeByRule 96 = .ok (.getfield 40, 3) := by decide +kernel
theorem dF_sizeByRule_99 : decode cF_sizeByRule 99 = .ok (.getfield 83, 3) := by decide +kernel
theorem dF_sizeByRule_102 : decode cF_sizeByRule 102 = .ok (.iload_n 2, 1) := by decide +kernel
theorem dF_sizeByRule_103 : decode cF_sizeByRule 103 = .ok (.iaload, 1) := by decide +kernel
theorem dF_sizeByRule_104 : decode cF_sizeByRule 104 = .ok (.invokestatic 57, 3) := by decide +kernel
theorem dF_sizeByRule_107 : decode cF_sizeByRule 107 = .ok (.iaload, 1) := by decide +kernel
theorem dF_sizeByRule_108 : decode cF_sizeByRule 108 = .ok (.iadd, 1) := by decide +kernel
theorem dF_sizeByRule_109 : decode cF_sizeByRule 109 = .ok (.istore_n 3, 1) := by decide +kernel
theorem dF_sizeByRule_110 : decode cF_sizeByRule 110 = .ok (.iload 4, 2) := by decide +kernel
theorem dF_sizeByRule_112 : decode cF_sizeByRule 112 = .ok (.iconst 2, 1) := by decide +kernel
theorem dF_sizeByRule_113 : decode cF_sizeByRule 113 = .ok (.if_icmp .lt 32, 3) := by decide +kernel
theorem dF_sizeByRule_116 : decode cF_sizeByRule 116 = .ok (.iload_n 3, 1) := by decide +kernel
theorem dF_sizeByRule_117 : decode cF_sizeByRule 117 = .ok (.aload_n 0, 1) := by decide +kernel
theorem dF_sizeByRule_118 : decode cF_sizeByRule 118 = .ok (.getfield 33, 3) := by decide +kernel
theorem dF_sizeByRule_121 : decode cF_sizeByRule 121 = .ok (.aload_n 0, 1) := by decide +kernel
theorem dF_sizeByRule_122 : decode cF_sizeByRule 122 = .ok (.getfield 18, 3) := by decide +kernel
theorem dF_sizeByRule_125 : decode cF_sizeByRule 125 = .ok (.aload_n 0, 1) := by decide +kernel
theorem dF_sizeByRule_126 : decode cF_sizeByRule 126 = .ok (.getfield 44, 3) := by decide +kernel
theorem dF_sizeByRule_129 : decode cF_sizeByRule 129 = .ok (.iaload, 1) := by decide +kernel
theorem dF_sizeByRule_130 : decode cF_sizeByRule 130 = .ok (.aload_n 0, 1) := by decide +kernel
theorem dF_sizeByRule_131 : decode cF_sizeByRule 131 = .ok (.getfield 40, 3) := by decide +kernel
theorem dF_sizeByRule_134 : decode cF_sizeByRule 134 = .ok (.getfield 84, 3) := by decide +kernel
theorem dF_sizeByRule_137 : decode cF_sizeByRule 137 = .ok (.iload_n 2, 1) := by decide +kernel
theorem dF_sizeByRule_138 : decode cF_sizeByRule 138 = .ok (.iaload, 1) := by decide +kernel
theorem dF_sizeByRule_139 : decode cF_sizeByRule 139 = .ok (.invokestatic 57, 3) := by decide +kernel
theorem dF_sizeByRule_142 : decode cF_sizeByRule 142 = .ok (.iaload, 1) := by decide +kernel
theorem dF_sizeByRule_143 : decode cF_sizeByRule 143 = .ok (.iadd, 1) := by decide +kernel
theorem dF_sizeByRule_144 : decode cF_sizeByRule 144 = .ok (.istore_n 3, 1) := by decide +kernel
theorem dF_sizeByRule_145 : decode cF_sizeByRule 145 = .ok (.iload_n 3, 1) := by decide +kernel
theorem dF_sizeByRule_146 : decode cF_sizeByRule 146 = .ok (.sipush 2001, 3) := by decide +kernel
theorem dF_sizeByRule_149 : decode cF_sizeByRule 149 = .ok (.invokestatic 103, 3) := by decide +kernel
theorem dF_sizeByRule_152 : decode cF_sizeByRule 152 = .ok (.ireturn, 1) := by decide +kernel
abbrev cF_findInCover : ByteArray := prog_2_method_14_code
abbrev yF_findInCover : MethodName := ⟨"CoverTrees$Forest", "findInCover", "(II)I"⟩
abbrev kF_findInCover : Cond := .code yF_findInCover cF_findInCover 9 (some .int)
abbrev wsF_findInCover : List Cond := kF_findInCover :: wB
theorem dF_findInCover_0 : decode cF_findInCover 0 = .ok (.iload_n 1, 1) := by decide +kernel
theorem dF_findInCover_1 : decode cF_findInCover 1 = .ok (.istore_n 3, 1) := by decide +kernel
theorem dF_findInCover_2 : decode cF_findInCover 2 = .ok (.iload_n 2, 1) := by decide +kernel
theorem dF_findInCover_3 : decode cF_findInCover 3 = .ok (.istore 4, 2) := by decide +kernel
theorem dF_findInCover_5 : decode cF_findInCover 5 = .ok (.iconst 0, 1) := by decide +kernel
theorem dF_findInCover_6 : decode cF_findInCover 6 = .ok (.istore 5, 2) := by decide +kernel
theorem dF_findInCover_8 : decode cF_findInCover 8 = .ok (.iload 5, 2) := by decide +kernel
theorem dF_findInCover_10 : decode cF_findInCover 10 = .ok (.sipush 960, 3) := by decide +kernel
theorem dF_findInCover_13 : decode cF_findInCover 13 = .ok (.if_icmp .ge 142, 3) := by decide +kernel
theorem dF_findInCover_16 : decode cF_findInCover 16 = .ok (.iload 4, 2) := by decide +kernel
theorem dF_findInCover_18 : decode cF_findInCover 18 = .ok (.aload_n 0, 1) := by decide +kernel
theorem dF_findInCover_19 : decode cF_findInCover 19 = .ok (.getfield 33, 3) := by decide +kernel
theorem dF_findInCover_22 : decode cF_findInCover 22 = .ok (.iload_n 3, 1) := by decide +kernel
theorem dF_findInCover_23 : decode cF_findInCover 23 = .ok (.iaload, 1) := by decide +kernel
theorem dF_findInCover_24 : decode cF_findInCover 24 = .ok (.iconst 1, 1) := by decide +kernel
theorem dF_findInCover_25 : decode cF_findInCover 25 = .ok (.isub, 1) := by decide +kernel
theorem dF_findInCover_26 : decode cF_findInCover 26 = .ok (.if_icmp .ge 129, 3) := by decide +kernel
theorem dF_findInCover_29 : decode cF_findInCover 29 = .ok (.aload_n 0, 1) := by decide +kernel
theorem dF_findInCover_30 : decode cF_findInCover 30 = .ok (.getfield 30, 3) := by decide +kernel
theorem dF_findInCover_33 : decode cF_findInCover 33 = .ok (.iload_n 3, 1) := by decide +kernel
theorem dF_findInCover_34 : decode cF_findInCover 34 = .ok (.iaload, 1) := by decide +kernel
theorem dF_findInCover_35 : decode cF_findInCover 35 = .ok (.istore 6, 2) := by decide +kernel
theorem dF_findInCover_37 : decode cF_findInCover 37 = .ok (.iload_n 3, 1) := by decide +kernel
theorem dF_findInCover_38 : decode cF_findInCover 38 = .ok (.bipush 8, 2) := by decide +kernel
theorem dF_findInCover_40 : decode cF_findInCover 40 = .ok (.idiv, 1) := by decide +kernel
theorem dF_findInCover_41 : decode cF_findInCover 41 = .ok (.istore 7, 2) := by decide +kernel
theorem dF_findInCover_43 : decode cF_findInCover 43 = .ok (.aload_n 0, 1) := by decide +kernel
theorem dF_findInCover_44 : decode cF_findInCover 44 = .ok (.getfield 40, 3) := by decide +kernel
theorem dF_findInCover_47 : decode cF_findInCover 47 = .ok (.getfield 71, 3) := by decide +kernel
theorem dF_findInCover_50 : decode cF_findInCover 50 = .ok (.iload 6, 2) := by decide +kernel
theorem dF_findInCover_52 : decode cF_findInCover 52 = .ok (.iaload, 1) := by decide +kernel
theorem dF_findInCover_53 : decode cF_findInCover 53 = .ok (.iconst (-1), 1) := by decide +kernel
theorem dF_findInCover_54 : decode cF_findInCover 54 = .ok (.if_icmp .ne 22, 3) := by decide +kernel
theorem dF_findInCover_57 : decode cF_findInCover 57 = .ok (.iload 7, 2) := by decide +kernel
theorem dF_findInCover_59 : decode cF_findInCover 59 = .ok (.aload_n 0, 1) := by decide +kernel
theorem dF_findInCover_60 : decode cF_findInCover 60 = .ok (.getfield 40, 3) := by decide +kernel
theorem dF_findInCover_63 : decode cF_findInCover 63 = .ok (.getfield 83, 3) := by decide +kernel
theorem dF_findInCover_66 : decode cF_findInCover 66 = .ok (.iload 6, 2) := by decide +kernel
theorem dF_findInCover_68 : decode cF_findInCover 68 = .ok (.iaload, 1) := by decide +kernel
theorem dF_findInCover_69 : decode cF_findInCover 69 = .ok (.invokestatic 57, 3) := by decide +kernel
theorem dF_findInCover_72 : decode cF_findInCover 72 = .ok (.istore_n 3, 1) := by decide +kernel
theorem dF_findInCover_73 : decode cF_findInCover 73 = .ok (.goto 76, 3) := by decide +kernel
theorem dF_findInCover_76 : decode cF_findInCover 76 = .ok (.aload_n 0, 1) := by decide +kernel
theorem dF_findInCover_77 : decode cF_findInCover 77 = .ok (.getfield 15, 3) := by decide +kernel
theorem dF_findInCover_80 : decode cF_findInCover 80 = .ok (.iload 7, 2) := by decide +kernel
theorem dF_findInCover_82 : decode cF_findInCover 82 = .ok (.iaload, 1) := by decide +kernel
theorem dF_findInCover_83 : decode cF_findInCover 83 = .ok (.aload_n 0, 1) := by decide +kernel
theorem dF_findInCover_84 : decode cF_findInCover 84 = .ok (.getfield 40, 3) := by decide +kernel
theorem dF_findInCover_87 : decode cF_findInCover 87 = .ok (.getfield 83, 3) := by decide +kernel
theorem dF_findInCover_90 : decode cF_findInCover 90 = .ok (.iload 6, 2) := by decide +kernel
theorem dF_findInCover_92 : decode cF_findInCover 92 = .ok (.iaload, 1) := by decide +kernel
theorem dF_findInCover_93 : decode cF_findInCover 93 = .ok (.invokestatic 57, 3) := by decide +kernel
theorem dF_findInCover_96 : decode cF_findInCover 96 = .ok (.istore 8, 2) := by decide +kernel
theorem dF_findInCover_98 : decode cF_findInCover 98 = .ok (.iload 4, 2) := by decide +kernel
theorem dF_findInCover_100 : decode cF_findInCover 100 = .ok (.aload_n 0, 1) := by decide +kernel
theorem dF_findInCover_101 : decode cF_findInCover 101 = .ok (.getfield 33, 3) := by decide +kernel
theorem dF_findInCover_104 : decode cF_findInCover 104 = .ok (.iload 8, 2) := by decide +kernel
theorem dF_findInCover_106 : decode cF_findInCover 106 = .ok (.iaload, 1) := by decide +kernel
theorem dF_findInCover_107 : decode cF_findInCover 107 = .ok (.if_icmp .ge 9, 3) := by decide +kernel
theorem dF_findInCover_110 : decode cF_findInCover 110 = .ok (.iload 8, 2) := by decide +kernel
theorem dF_findInCover_112 : decode cF_findInCover 112 = .ok (.istore_n 3, 1) := by decide +kernel
theorem dF_findInCover_113 : decode cF_findInCover 113 = .ok (.goto 36, 3) := by decide +kernel
theorem dF_findInCover_116 : decode cF_findInCover 116 = .ok (.iload 4, 2) := by decide +kernel
theorem dF_findInCover_118 : decode cF_findInCover 118 = .ok (.aload_n 0, 1) := by decide +kernel
theorem dF_findInCover_119 : decode cF_findInCover 119 = .ok (.getfield 33, 3) := by decide +kernel
theorem dF_findInCover_122 : decode cF_findInCover 122 = .ok (.iload 8, 2) := by decide +kernel
theorem dF_findInCover_124 : decode cF_findInCover 124 = .ok (.iaload, 1) := by decide +kernel
theorem dF_findInCover_125 : decode cF_findInCover 125 = .ok (.isub, 1) := by decide +kernel
theorem dF_findInCover_126 : decode cF_findInCover 126 = .ok (.istore 4, 2) := by decide +kernel
theorem dF_findInCover_128 : decode cF_findInCover 128 = .ok (.aload_n 0, 1) := by decide +kernel
theorem dF_findInCover_129 : decode cF_findInCover 129 = .ok (.getfield 18, 3) := by decide +kernel
theorem dF_findInCover_132 : decode cF_findInCover 132 = .ok (.iload 7, 2) := by decide +kernel
theorem dF_findInCover_134 : decode cF_findInCover 134 = .ok (.iaload, 1) := by decide +kernel
theorem dF_findInCover_135 : decode cF_findInCover 135 = .ok (.aload_n 0, 1) := by decide +kernel
theorem dF_findInCover_136 : decode cF_findInCover 136 = .ok (.getfield 40, 3) := by decide +kernel
theorem dF_findInCover_139 : decode cF_findInCover 139 = .ok (.getfield 84, 3) := by decide +kernel
theorem dF_findInCover_142 : decode cF_findInCover 142 = .ok (.iload 6, 2) := by decide +kernel
theorem dF_findInCover_144 : decode cF_findInCover 144 = .ok (.iaload, 1) := by decide +kernel
theorem dF_findInCover_145 : decode cF_findInCover 145 = .ok (.invokestatic 57, 3) := by decide +kernel
theorem dF_findInCover_148 : decode cF_findInCover 148 = .ok (.istore_n 3, 1) := by decide +kernel
theorem dF_findInCover_149 : decode cF_findInCover 149 = .ok (.iinc 5 1, 3) := by decide +kernel
theorem dF_findInCover_152 : decode cF_findInCover 152 = .ok (.goto (-144), 3) := by decide +kernel
theorem dF_findInCover_155 : decode cF_findInCover 155 = .ok (.iload_n 3, 1) := by decide +kernel
theorem dF_findInCover_156 : decode cF_findInCover 156 = .ok (.ireturn, 1) := by decide +kernel
abbrev cF_firstAlike : ByteArray := prog_2_method_15_code
abbrev yF_firstAlike : MethodName := ⟨"CoverTrees$Forest", "firstAlike", "(I)I"⟩
abbrev kF_firstAlike : Cond := .code yF_firstAlike cF_firstAlike 3 (some .int)
abbrev wsF_firstAlike : List Cond := kF_firstAlike :: wB
theorem dF_firstAlike_0 : decode cF_firstAlike 0 = .ok (.iconst 0, 1) := by decide +kernel
theorem dF_firstAlike_1 : decode cF_firstAlike 1 = .ok (.istore_n 2, 1) := by decide +kernel
theorem dF_firstAlike_2 : decode cF_firstAlike 2 = .ok (.iload_n 2, 1) := by decide +kernel
theorem dF_firstAlike_3 : decode cF_firstAlike 3 = .ok (.iload_n 1, 1) := by decide +kernel
theorem dF_firstAlike_4 : decode cF_firstAlike 4 = .ok (.if_icmp .ge 30, 3) := by decide +kernel
theorem dF_firstAlike_7 : decode cF_firstAlike 7 = .ok (.aload_n 0, 1) := by decide +kernel
theorem dF_firstAlike_8 : decode cF_firstAlike 8 = .ok (.getfield 24, 3) := by decide +kernel
theorem dF_firstAlike_11 : decode cF_firstAlike 11 = .ok (.iload_n 2, 1) := by decide +kernel
theorem dF_firstAlike_12 : decode cF_firstAlike 12 = .ok (.iaload, 1) := by decide +kernel
theorem dF_firstAlike_13 : decode cF_firstAlike 13 = .ok (.iload_n 2, 1) := by decide +kernel
theorem dF_firstAlike_14 : decode cF_firstAlike 14 = .ok (.if_icmp .ne 14, 3) := by decide +kernel
theorem dF_firstAlike_17 : decode cF_firstAlike 17 = .ok (.aload_n 0, 1) := by decide +kernel
theorem dF_firstAlike_18 : decode cF_firstAlike 18 = .ok (.iload_n 2, 1) := by decide +kernel
theorem dF_firstAlike_19 : decode cF_firstAlike 19 = .ok (.iload_n 1, 1) := by decide +kernel
theorem dF_firstAlike_20 : decode cF_firstAlike 20 = .ok (.invokevirtual 108, 3) := by decide +kernel
theorem dF_firstAlike_23 : decode cF_firstAlike 23 = .ok (.ifCond .eq 5, 3) := by decide +kernel
theorem dF_firstAlike_26 : decode cF_firstAlike 26 = .ok (.iload_n 2, 1) := by decide +kernel
theorem dF_firstAlike_27 : decode cF_firstAlike 27 = .ok (.ireturn, 1) := by decide +kernel
theorem dF_firstAlike_28 : decode cF_firstAlike 28 = .ok (.iinc 2 1, 3) := by decide +kernel
theorem dF_firstAlike_31 : decode cF_firstAlike 31 = .ok (.goto (-29), 3) := by decide +kernel
theorem dF_firstAlike_34 : decode cF_firstAlike 34 = .ok (.iload_n 1, 1) := by decide +kernel
theorem dF_firstAlike_35 : decode cF_firstAlike 35 = .ok (.ireturn, 1) := by decide +kernel
abbrev cF_alike : ByteArray := prog_2_method_16_code
abbrev yF_alike : MethodName := ⟨"CoverTrees$Forest", "alike", "(II)Z"⟩
abbrev kF_alike : Cond := .code yF_alike cF_alike 6 (some .boolean)
abbrev wsF_alike : List Cond := kF_alike :: wB
theorem dF_alike_0 : decode cF_alike 0 = .ok (.iconst 0, 1) := by decide +kernel
theorem dF_alike_1 : decode cF_alike 1 = .ok (.istore_n 3, 1) := by decide +kernel
theorem dF_alike_2 : decode cF_alike 2 = .ok (.iload_n 3, 1) := by decide +kernel
theorem dF_alike_3 : decode cF_alike 3 = .ok (.bipush 8, 2) := by decide +kernel
theorem dF_alike_5 : decode cF_alike 5 = .ok (.if_icmp .ge 86, 3) := by decide +kernel
theorem dF_alike_8 : decode cF_alike 8 = .ok (.iload_n 1, 1) := by decide +kernel
theorem dF_alike_9 : decode cF_alike 9 = .ok (.iload_n 3, 1) := by decide +kernel
theorem dF_alike_10 : decode cF_alike 10 = .ok (.invokestatic 57, 3) := by decide +kernel
theorem dF_alike_13 : decode cF_alike 13 = .ok (.istore 4, 2) := by decide +kernel
theorem dF_alike_15 : decode cF_alike 15 = .ok (.iload_n 2, 1) := by decide +kernel
theorem dF_alike_16 : decode cF_alike 16 = .ok (.iload_n 3, 1) := by decide +kernel
theorem dF_alike_17 : decode cF_alike 17 = .ok (.invokestatic 57, 3) := by decide +kernel
theorem dF_alike_20 : decode cF_alike 20 = .ok (.istore 5, 2) := by decide +kernel
theorem dF_alike_22 : decode cF_alike 22 = .ok (.aload_n 0, 1) := by decide +kernel
theorem dF_alike_23 : decode cF_alike 23 = .ok (.getfield 30, 3) := by decide +kernel
theorem dF_alike_26 : decode cF_alike 26 = .ok (.iload 4, 2) := by decide +kernel
theorem dF_alike_28 : decode cF_alike 28 = .ok (.iaload, 1) := by decide +kernel
theorem dF_alike_29 : decode cF_alike 29 = .ok (.aload_n 0, 1) := by decide +kernel
theorem dF_alike_30 : decode cF_alike 30 = .ok (.getfield 30, 3) := by decide +kernel
theorem dF_alike_33 : decode cF_alike 33 = .ok (.iload 5, 2) := by decide +kernel
theorem dF_alike_35 : decode cF_alike 35 = .ok (.iaload, 1) := by decide +kernel
theorem dF_alike_36 : decode cF_alike 36 = .ok (.if_icmp .eq 5, 3) := by decide +kernel
theorem dF_alike_39 : decode cF_alike 39 = .ok (.iconst 0, 1) := by decide +kernel
theorem dF_alike_40 : decode cF_alike 40 = .ok (.ireturn, 1) := by decide +kernel
theorem dF_alike_41 : decode cF_alike 41 = .ok (.aload_n 0, 1) := by decide +kernel
theorem dF_alike_42 : decode cF_alike 42 = .ok (.getfield 30, 3) := by decide +kernel
theorem dF_alike_45 : decode cF_alike 45 = .ok (.iload 4, 2) := by decide +kernel
theorem dF_alike_47 : decode cF_alike 47 = .ok (.iaload, 1) := by decide +kernel
theorem dF_alike_48 : decode cF_alike 48 = .ok (.iconst (-1), 1) := by decide +kernel
theorem dF_alike_49 : decode cF_alike 49 = .ok (.if_icmp .eq 36, 3) := by decide +kernel
theorem dF_alike_52 : decode cF_alike 52 = .ok (.aload_n 0, 1) := by decide +kernel
theorem dF_alike_53 : decode cF_alike 53 = .ok (.getfield 27, 3) := by decide +kernel
theorem dF_alike_56 : decode cF_alike 56 = .ok (.iload 4, 2) := by decide +kernel
theorem dF_alike_58 : decode cF_alike 58 = .ok (.iaload, 1) := by decide +kernel
theorem dF_alike_59 : decode cF_alike 59 = .ok (.aload_n 0, 1) := by decide +kernel
theorem dF_alike_60 : decode cF_alike 60 = .ok (.getfield 21, 3) := by decide +kernel
theorem dF_alike_63 : decode cF_alike 63 = .ok (.iload_n 1, 1) := by decide +kernel
theorem dF_alike_64 : decode cF_alike 64 = .ok (.iaload, 1) := by decide +kernel
theorem dF_alike_65 : decode cF_alike 65 = .ok (.isub, 1) := by decide +kernel
theorem dF_alike_66 : decode cF_alike 66 = .ok (.aload_n 0, 1) := by decide +kernel
theorem dF_alike_67 : decode cF_alike 67 = .ok (.getfield 27, 3) := by decide +kernel
theorem dF_alike_70 : decode cF_alike 70 = .ok (.iload 5, 2) := by decide +kernel
theorem dF_alike_72 : decode cF_alike 72 = .ok (.iaload, 1) := by decide +kernel
theorem dF_alike_73 : decode cF_alike 73 = .ok (.aload_n 0, 1) := by decide +kernel
theorem dF_alike_74 : decode cF_alike 74 = .ok (.getfield 21, 3) := by decide +kernel
theorem dF_alike_77 : decode cF_alike 77 = .ok (.iload_n 2, 1) := by decide +kernel
theorem dF_alike_78 : decode cF_alike 78 = .ok (.iaload, 1) := by decide +kernel
theorem dF_alike_79 : decode cF_alike 79 = .ok (.isub, 1) := by decide +kernel
theorem dF_alike_80 : decode cF_alike 80 = .ok (.if_icmp .eq 5, 3) := by decide +kernel
theorem dF_alike_83 : decode cF_alike 83 = .ok (.iconst 0, 1) := by decide +kernel
theorem dF_alike_84 : decode cF_alike 84 = .ok (.ireturn, 1) := by decide +kernel
theorem dF_alike_85 : decode cF_alike 85 = .ok (.iinc 3 1, 3) := by decide +kernel
theorem dF_alike_88 : decode cF_alike 88 = .ok (.goto (-86), 3) := by decide +kernel
theorem dF_alike_91 : decode cF_alike 91 = .ok (.iconst 1, 1) := by decide +kernel
theorem dF_alike_92 : decode cF_alike 92 = .ok (.ireturn, 1) := by decide +kernel
abbrev cF_countStates : ByteArray := prog_2_method_17_code
abbrev yF_countStates : MethodName := ⟨"CoverTrees$Forest", "countStates", "()I"⟩
abbrev kF_countStates : Cond := .code yF_countStates cF_countStates 3 (some .int)
abbrev wsF_countStates : List Cond := kF_countStates :: wB
theorem dF_countStates_0 : decode cF_countStates 0 = .ok (.iconst 0, 1) := by decide +kernel
theorem dF_countStates_1 : decode cF_countStates 1 = .ok (.istore_n 1, 1) := by decide +kernel
theorem dF_countStates_2 : decode cF_countStates 2 = .ok (.iconst 0, 1) := by decide +kernel
theorem dF_countStates_3 : decode cF_countStates 3 = .ok (.istore_n 2, 1) := by decide +kernel
theorem dF_countStates_4 : decode cF_countStates 4 = .ok (.iload_n 2, 1) := by decide +kernel
theorem dF_countStates_5 : decode cF_countStates 5 = .ok (.aload_n 0, 1) := by decide +kernel
theorem dF_countStates_6 : decode cF_countStates 6 = .ok (.getfield 44, 3) := by decide +kernel
theorem dF_countStates_9 : decode cF_countStates 9 = .ok (.if_icmp .ge 22, 3) := by decide +kernel
theorem dF_countStates_12 : decode cF_countStates 12 = .ok (.aload_n 0, 1) := by decide +kernel
theorem dF_countStates_13 : decode cF_countStates 13 = .ok (.getfield 24, 3) := by decide +kernel
theorem dF_countStates_16 : decode cF_countStates 16 = .ok (.iload_n 2, 1) := by decide +kernel
theorem dF_countStates_17 : decode cF_countStates 17 = .ok (.iaload, 1) := by decide +kernel
theorem dF_countStates_18 : decode cF_countStates 18 = .ok (.iload_n 2, 1) := by decide +kernel
theorem dF_countStates_19 : decode cF_countStates 19 = .ok (.if_icmp .ne 6, 3) := by decide +kernel
theorem dF_countStates_22 : decode cF_countStates 22 = .ok (.iinc 1 1, 3) := by decide +kernel
theorem dF_countStates_25 : decode cF_countStates 25 = .ok (.iinc 2 1, 3) := by decide +kernel
theorem dF_countStates_28 : decode cF_countStates 28 = .ok (.goto (-24), 3) := by decide +kernel
theorem dF_countStates_31 : decode cF_countStates 31 = .ok (.iload_n 1, 1) := by decide +kernel
theorem dF_countStates_32 : decode cF_countStates 32 = .ok (.ireturn, 1) := by decide +kernel
end
section
abbrev ctN : Type := Nat → Int32
abbrev ctF : Type := Nat → Nat → Int32
/-- the class: its cells at the addresses a, its int fields n (0: operators, 1: rules, 2: nodes), its arrays f by their cells -/
def ctW (a : Nat → Nat) (cA : Nat → ClassId) (n : ctN) (f : ctF) : va_W := [(a 0, .inr (0, [.ref (a 1), .ref (a 2)])), (a 1, .inr (1, [.int (n 0), .ref (a 3), .int (n 1), .ref (a 4), .ref (a 5), .ref (a 6), .ref (a 7), .ref (a 8)])), (a 2, .inr (2, [.ref (a 1), .int (n 2), .ref (a 9), .ref (a 10), .ref (a 11), .ref (a 12), .ref (a 13), .ref (a 14), .ref (a 15), .ref (a 16), .ref (a 17)])), (a 3, .inl (cA 3, 10, .inl (f 3))), (a 4, .inl (cA 4, 40, .inl (f 4))), (a 5, .inl (cA 5, 40, .inl (f 5))), (a 6, .inl (cA 6, 40, .inl (f 6))), (a 7, .inl (cA 7, 40, .inl (f 7))), (a 8, .inl (cA 8, 40, .inl (f 8))), (a 9, .inl (cA 9, 120, .inl (f 9))), (a 10, .inl (cA 10, 120, .inl (f 10))), (a 11, .inl (cA 11, 120, .inl (f 11))), (a 12, .inl (cA 12, 120, .inl (f 12))), (a 13, .inl (cA 13, 120, .inl (f 13))), (a 14, .inl (cA 14, 960, .inl (f 14))), (a 15, .inl (cA 15, 960, .inl (f 15))), (a 16, .inl (cA 16, 960, .inl (f 16))), (a 17, .inl (cA 17, 8, .inl (f 17))), (a 18, .inr (3, [.int (n 3), .int (n 4), .ref (a 19), .int (n 5), .ref (a 20), .ref (a 21), .ref (a 22), .ref (a 23), .ref (a 24), .int (n 6), .ref (a 25), .ref (a 26), .ref (a 27), .ref (a 28), .ref (a 29), .ref (a 30), .ref (a 31), .int (n 7), .int (n 8)])), (a 19, .inl (cA 19, 10, .inl (f 19))), (a 20, .inl (cA 20, 40, .inl (f 20))), (a 21, .inl (cA 21, 40, .inl (f 21))), (a 22, .inl (cA 22, 40, .inl (f 22))), (a 23, .inl (cA 23, 40, .inl (f 23))), (a 24, .inl (cA 24, 40, .inl (f 24))), (a 25, .inl (cA 25, 120, .inl (f 25))), (a 26, .inl (cA 26, 120, .inl (f 26))), (a 27, .inl (cA 27, 120, .inl (f 27))), (a 28, .inl (cA 28, 960, .inl (f 28))), (a 29, .inl (cA 29, 960, .inl (f 29))), (a 30, .inl (cA 30, 960, .inl (f 30))), (a 31, .inl (cA 31, 8, .inl (f 31))), (a 32, .inl (cA 32, 1, .inr (.inl (fun j => (f 32 j).toInt64))))]
def ctT (cA : Nat → ClassId) : List (ClassId × FieldType) := [(cA 3, .int), (cA 4, .int), (cA 5, .int), (cA 6, .int), (cA 7, .int), (cA 8, .int), (cA 9, .int), (cA 10, .int), (cA 11, .int), (cA 12, .int), (cA 13, .int), (cA 14, .int), (cA 15, .int), (cA 16, .int), (cA 17, .boolean), (cA 19, .int), (cA 20, .int), (cA 21, .int), (cA 22, .int), (cA 23, .int), (cA 24, .int), (cA 25, .int), (cA 26, .int), (cA 27, .int), (cA 28, .int), (cA 29, .int), (cA 30, .int), (cA 31, .boolean), (cA 32, .long)]
theorem ct_Dmap {A : Nat → Prop} {w w' : va_W} (h : w.map (fun q => q.1) = w'.map (fun q => q.1)) (hD : va_D A w) : va_D A w' := by
  have key : ∀ (k : Nat) (q : Nat × va_E), w'[k]? = some q → ∃ q0, w[k]? = some q0 ∧ q0.1 = q.1 := by
    intro k q hq
    have h1 : (w'.map (fun q => q.1))[k]? = some q.1 := by rw [List.getElem?_map, hq]; rfl
    rw [← h, List.getElem?_map] at h1
    cases h2 : w[k]? with
    | none => rw [h2] at h1; cases h1
    | some q0 => rw [h2] at h1; exact ⟨q0, rfl, Option.some.inj h1⟩
  refine ⟨fun i j x y hi hj hxy => ?_, fun k q hk => ?_⟩
  · obtain ⟨x0, h1, h2⟩ := key i x hi
    obtain ⟨y0, h3, h4⟩ := key j y hj
    exact hD.1 i j x0 y0 h1 h3 (h2.trans (hxy.trans h4.symm))
  · obtain ⟨q0, h1, h2⟩ := key k q hk
    rw [← h2]
    exact hD.2 k q0 h1
theorem ct_D {A : Nat → Prop} {a : Nat → Nat} {cA : Nat → ClassId} {n n' : ctN} {f f' : ctF} (h : va_D A (ctW a cA n f)) : va_D A (ctW a cA n' f') := ct_Dmap (w := ctW a cA n f) (w' := ctW a cA n' f') rfl h
/-- what the methods need besides: links across the nest, the texts of the exceptions, the statics of Throwable -/
def ctZ (sa : Nat → Nat) (A : Nat → Prop) (U : State) (H : Heap) : Prop := va_Nw (.methodLinkNest "CoverTrees$Forest" 57 ⟨"CoverTrees", "place", "(II)I"⟩ "CoverTrees") U ∧ va_Nw (.castable "java/lang/IllegalArgumentException" "java/lang/IllegalArgumentException") U ∧ va_Nw (.castable "java/lang/UnsupportedOperationException" "java/lang/UnsupportedOperationException") U ∧ va_Nw (.castable "java/lang/IndexOutOfBoundsException" "java/lang/IndexOutOfBoundsException") U ∧ va_Nw (.declares ⟨"java/lang/RuntimeException", "<init>", "(Ljava/lang/String;)V"⟩) U ∧ va_Nw (.declares ⟨"java/lang/Exception", "<init>", "(Ljava/lang/String;)V"⟩) U ∧ va_Nw (.declares ⟨"java/lang/Throwable", "<init>", "(Ljava/lang/String;)V"⟩) U ∧ vk_R "CoverTrees" 37 "an operator has 0 to 2 parts" (sa 0) U ∧ vk_R "CoverTrees" 44 "there are ten operators" (sa 1) U ∧ vk_R "CoverTrees" 58 "no such goal or operator" (sa 2) U ∧ vk_R "CoverTrees" 64 "no such goal of a part" (sa 3) U ∧ vk_R "CoverTrees" 137 "a rule costs 0 to 20" (sa 4) U ∧ vk_R "CoverTrees" 139 "there are 40 rules" (sa 5) U ∧ vk_R "CoverTrees" 77 "no such goal" (sa 6) U ∧ vk_R "CoverTrees" 79 "both goals are one" (sa 7) U ∧ vk_R "CoverTrees" 81 "no such operator" (sa 8) U ∧ vk_R "CoverTrees" 86 "no such node" (sa 9) U ∧ vk_R "CoverTrees" 88 "there are 120 nodes" (sa 10) U ∧ vk_R "CoverTrees" 98 "the node would cost more than 1000000" (sa 11) U ∧ vk_R "CoverTrees" 141 "no such node or goal" (sa 12) U ∧ vk_R "CoverTrees" 146 "the cover has more than 2000 rules" (sa 13) U ∧ vk_R "CoverTrees" 121 "what is 0 or 1" (sa 14) U ∧ vk_R "CoverTrees" 125 "the cover has no such rule" (sa 15) U ∧ vx_Zq Bundle.tN "UNASSIGNED_STACK" Bundle.steD A U H ∧ vx_Zq Bundle.tN "SUPPRESSED_SENTINEL" Bundle.listD A U H
theorem ctZ.at {sa : Nat → Nat} {A : Nat → Prop} {s U : State} {H : Heap} (hW : s.WarmedH U.vm) (h : ctZ sa A s H) : ctZ sa A U H := by
  obtain ⟨z0, z1, z2, z3, z4, z5, z6, z7, z8, z9, z10, z11, z12, z13, z14, z15, z16, z17, z18, z19, z20, z21, z22, z23, z24⟩ := h
  exact ⟨va_Nw.warmM hW z0, va_Nw.warmC hW z1, va_Nw.warmC hW z2, va_Nw.warmC hW z3, va_Nw.warmD hW z4, va_Nw.warmD hW z5, va_Nw.warmD hW z6, vk_R.warm hW z7, vk_R.warm hW z8, vk_R.warm hW z9, vk_R.warm hW z10, vk_R.warm hW z11, vk_R.warm hW z12, vk_R.warm hW z13, vk_R.warm hW z14, vk_R.warm hW z15, vk_R.warm hW z16, vk_R.warm hW z17, vk_R.warm hW z18, vk_R.warm hW z19, vk_R.warm hW z20, vk_R.warm hW z21, vk_R.warm hW z22, vx_Zq.moved hW.alike z23, vx_Zq.moved hW.alike z24⟩
theorem ctZ.kept {sa : Nat → Nat} {A : Nat → Prop} {U : State} {H H1 : Heap} (hq : ∀ q : Nat, q < H.size → ¬ A q → H1[q]? = H[q]?) (h : ctZ sa A U H) : ctZ sa A U H1 := by
  obtain ⟨z0, z1, z2, z3, z4, z5, z6, z7, z8, z9, z10, z11, z12, z13, z14, z15, z16, z17, z18, z19, z20, z21, z22, z23, z24⟩ := h
  exact ⟨z0, z1, z2, z3, z4, z5, z6, z7, z8, z9, z10, z11, z12, z13, z14, z15, z16, z17, z18, z19, z20, z21, z22, z23.kept hq, z24.kept hq⟩
theorem ctZ.narrow {sa : Nat → Nat} {A B : Nat → Prop} {U : State} {H : Heap} (hq : ∀ q : Nat, B q → A q) (h : ctZ sa A U H) : ctZ sa B U H := by
  obtain ⟨z0, z1, z2, z3, z4, z5, z6, z7, z8, z9, z10, z11, z12, z13, z14, z15, z16, z17, z18, z19, z20, z21, z22, z23, z24⟩ := h
  exact ⟨z0, z1, z2, z3, z4, z5, z6, z7, z8, z9, z10, z11, z12, z13, z14, z15, z16, z17, z18, z19, z20, z21, z22, z23.narrow hq, z24.narrow hq⟩
abbrev ct_Pc (dC : Nat → ClassId) (dI : Nat → Nat → Nat) (a : Nat → Nat) (cA : Nat → ClassId) (sa : Nat → Nat) (As : List Value) (n : ctN) (f : ctF) (sz : Nat) : Array Value → State → Prop :=
  va_Pc As (fun U => U.heap.size = sz ∧ va_P (dC, dI) vcl (ctW a cA n f) U.heap ∧ va_K (dC, dI) vcl (ctT cA) U ∧ va_D (fun _ => True) (ctW a cA n f) ∧ ctZ sa (va_A (ctW a cA n f) sz) U U.heap)
abbrev ct_B (dC : Nat → ClassId) (dI : Nat → Nat → Nat) (a : Nat → Nat) (cA : Nat → ClassId) : ctN × ctF → State → Prop := fun u t => va_P (dC, dI) vcl (ctW a cA u.1 u.2) t.heap
abbrev ct_Qi (dC : Nat → ClassId) (dI : Nat → Nat → Nat) (a : Nat → Nat) (cA : Nat → ClassId) (n : ctN) (f : ctF) (sz : Nat) (post : Int32 → ctN → ctF → Prop) : Array Value → State → Outcome → State → Prop :=
  va_Qi (fun (r : Int32) (u : ctN × ctF) => post r u.1 u.2) (ct_B dC dI a cA) (va_A (ctW a cA n f) sz)
abbrev ct_Qv (dC : Nat → ClassId) (dI : Nat → Nat → Nat) (a : Nat → Nat) (cA : Nat → ClassId) (n : ctN) (f : ctF) (sz : Nat) (post : ctN → ctF → Prop) : Array Value → State → Outcome → State → Prop :=
  va_Qv (fun (u : ctN × ctF) => post u.1 u.2) (ct_B dC dI a cA) (va_A (ctW a cA n f) sz)
abbrev ct_X (dC : Nat → ClassId) (dI : Nat → Nat → Nat) (a : Nat → Nat) (cA : Nat → ClassId) (n : ctN) (f : ctF) (sz : Nat) (xp : String → ctN → ctF → Prop) : String → State → State → Prop :=
  vx_X (fun (_ : ctN × ctF) => True) (fun E u t => xp E u.1 u.2 ∧ ct_B dC dI a cA u t) (va_A (ctW a cA n f) sz)
theorem ct_blind {dC : Nat → ClassId} {dI : Nat → Nat → Nat} {a : Nat → Nat} {cA : Nat → ClassId} {sa : Nat → Nat} {As : List Value} {n : ctN} {f : ctF} {sz : Nat} : FrameBlind (ct_Pc dC dI a cA sa As n f sz) := by
  intro x U g mk h
  obtain ⟨h1, h2, h3, h4, h5, h6⟩ := h
  exact ⟨h1, h2, h3, va_K.moved (u := U) (U := U.calling g mk x) (Vm.Alike.refl U.vm) h4, h5, ctZ.at (s := U) (U := U.calling g mk x) (State.WarmedH.refl U) h6⟩
theorem ct_pre {s : State} {H : Heap} {locs : List Loc} {dC : Nat → ClassId} {dI : Nat → Nat → Nat} {a : Nat → Nat} {cA : Nat → ClassId} {sa : Nat → Nat} {n : ctN} {f : ctF} {A : Nat → Prop} {H0 : Heap} (hK : va_K (dC, dI) vcl (ctT cA) s) (hP : va_P (dC, dI) vcl (ctW a cA n f) H) (hD : va_D A (ctW a cA n f)) (hZ : ctZ sa A s H0) (hS : va_S A H0 H locs) (hA : ∀ q, H0.size ≤ q → A q) {As : List Value} : PreS s H (ct_Pc dC dI a cA sa As n f H.size) As :=
  ⟨ct_blind, fun U hU hW => ⟨rfl, by rw [hU], by rw [hU]; exact hP, va_K.moved hW.alike hK, hD.weaken (fun _ _ _ _ => trivial), by rw [hU]; exact ctZ.at hW (ctZ.narrow (va_free (wc := ctW a cA n f) hD hS hA [0, 1, 2, 3, 4, 5, 6, 7, 8, 9, 10, 11, 12, 13, 14, 15, 16, 17, 18, 19, 20, 21, 22, 23, 24, 25, 26, 27, 28, 29, 30, 31, 32] rfl) (ctZ.kept hS.2.1 hZ))⟩⟩
theorem ct_preV {s : State} {H : Heap} {locs : List Loc} {dC : Nat → ClassId} {dI : Nat → Nat → Nat} {a : Nat → Nat} {cA : Nat → ClassId} {sa : Nat → Nat} {n : ctN} {f : ctF} {A : Nat → Prop} {H0 : Heap} (hK : va_K (dC, dI) vcl (ctT cA) s) (hP : va_P (dC, dI) vcl (ctW a cA n f) H) (hD : va_D A (ctW a cA n f)) (hZ : ctZ sa A s H0) (hS : va_S A H0 H locs) (hA : ∀ q, H0.size ≤ q → A q) {C : String} {b : Nat} {As : List Value} (hr : ∃ cellB : Cell, H[b]? = some cellB ∧ cellB.vm.isStatics = false ∧ s.vm.findClass C = some cellB.cls) : PreV s H C b (ct_Pc dC dI a cA sa (.ref b :: As) n f H.size) As :=
  ⟨ct_blind, hr, (ct_pre hK hP hD hZ hS hA (As := .ref b :: As)).2⟩
theorem ct_i {p : Program} {l : Launch} {e : Env} {R : Room} {s : State} {m : MethodId} {args : Array Value} {below : List Frame} {meth : Method} {c : Code} {H : Heap} {locs : List Loc} {cells slots : Nat} {Q : State → Prop} {pc : Nat} {ls : Array Slot} {st0 rest : List Value} {av : Array Value} {dC : Nat → ClassId} {dI : Nat → Nat → Nat} {a : Nat → Nat} {cA : Nat → ClassId} {n : ctN} {f : ctF} {A : Nat → Prop} {H0 : Heap} {post : Int32 → ctN → ctF → Prop} (hr : va_Run p l e R s m args below meth c H locs cells slots 0 0 (F0 m pc ls st0) rest (ct_Qi dC dI a cA n f H.size post av) (va_A (ctW a cA n f) H.size)) (hD : va_D A (ctW a cA n f)) (hS : va_S A H0 H locs) (hA : ∀ q, H0.size ≤ q → A q)
    (kk : ∀ (r : Int32) (n' : ctN) (f' : ctF) (H1 : Heap) (locs1 : List Loc), post r n' f' → va_P (dC, dI) vcl (ctW a cA n' f') H1 → va_S A H0 H1 locs1 → W p l e R s m args below meth c H1 locs1 cells slots Q (F0 m (pc + 3) ls (.int r :: rest))) : W p l e R s m args below meth c H locs cells slots Q (F0 m pc ls st0) := by
  have hFc := va_free (wc := ctW a cA n f) hD hS hA [0, 1, 2, 3, 4, 5, 6, 7, 8, 9, 10, 11, 12, 13, 14, 15, 16, 17, 18, 19, 20, 21, 22, 23, 24, 25, 26, 27, 28, 29, 30, 31, 32] rfl
  refine va_calli hr hS (fun q _ h => hFc q h) hFc (fun r u t H1 locs1 ht hvm hw hB hz1 hk1 hS => ?_)
  refine kk r u.1 u.2 H1 locs1 hw ?_ hS
  rw [← ht]; exact hB
theorem ct_xi {p : Program} {l : Launch} {e : Env} {R : Room} {s : State} {m : MethodId} {args : Array Value} {below : List Frame} {meth : Method} {c : Code} {H : Heap} {locs : List Loc} {cells slots : Nat} {Q : State → Prop} {pc : Nat} {ls : Array Slot} {st0 rest : List Value} {av : Array Value} {dC : Nat → ClassId} {dI : Nat → Nat → Nat} {a : Nat → Nat} {cA : Nat → ClassId} {n : ctN} {f : ctF} {A : Nat → Prop} {H0 : Heap} {post : Int32 → ctN → ctF → Prop} {xp : String → ctN → ctF → Prop} {mc ms : Nat} (hr : vx_Run p l e R s m args below meth c H locs cells slots mc ms (F0 m pc ls st0) rest (ct_Qi dC dI a cA n f H.size post av) (ct_X dC dI a cA n f H.size xp) (va_A (ctW a cA n f) H.size)) (hD : va_D A (ctW a cA n f)) (hS : va_S A H0 H locs) (hA : ∀ q, H0.size ≤ q → A q)
    (kx : ∀ (E : String) (ce : Cell) (q9 : Addr) (n' : ctN) (f' : ctF) (H1 : Heap) (locs1 : List Loc), xp E n' f' → va_P (dC, dI) vcl (ctW a cA n' f') H1 → va_S A H0 H1 locs1 → H1[q9]? = some ce → ce.vm = .none → s.vm.findClass E = some ce.cls → vx_W p l e R s m args below meth c H1 locs1 (cells + mc) (slots + ms) Q (F0 m pc ls rest) q9)
    (kk : ∀ (r : Int32) (n' : ctN) (f' : ctF) (H1 : Heap) (locs1 : List Loc), post r n' f' → va_P (dC, dI) vcl (ctW a cA n' f') H1 → va_S A H0 H1 locs1 → W p l e R s m args below meth c H1 locs1 (cells + mc) (slots + ms) Q (F0 m (pc + 3) ls (.int r :: rest))) : W p l e R s m args below meth c H locs cells slots Q (F0 m pc ls st0) := by
  have hFc := va_free (wc := ctW a cA n f) hD hS hA [0, 1, 2, 3, 4, 5, 6, 7, 8, 9, 10, 11, 12, 13, 14, 15, 16, 17, 18, 19, 20, 21, 22, 23, 24, 25, 26, 27, 28, 29, 30, 31, 32] rfl
  refine vx_calli hr hS (fun q _ h => hFc q h) hFc (fun q _ h => hFc q h) (fun E ce q9 u t H1 locs1 ht hvm _ hB hz1 hk1 hS h1 h2 h3 => ?_) (fun r u t H1 locs1 ht hvm hw hB hz1 hk1 hS => ?_)
  · refine kx E ce q9 u.1 u.2 H1 locs1 hB.1 ?_ hS h1 h2 h3
    rw [← ht]; exact hB.2
  · refine kk r u.1 u.2 H1 locs1 hw ?_ hS
    rw [← ht]; exact hB
theorem ct_v {p : Program} {l : Launch} {e : Env} {R : Room} {s : State} {m : MethodId} {args : Array Value} {below : List Frame} {meth : Method} {c : Code} {H : Heap} {locs : List Loc} {cells slots : Nat} {Q : State → Prop} {pc : Nat} {ls : Array Slot} {st0 rest : List Value} {av : Array Value} {dC : Nat → ClassId} {dI : Nat → Nat → Nat} {a : Nat → Nat} {cA : Nat → ClassId} {n : ctN} {f : ctF} {A : Nat → Prop} {H0 : Heap} {post : ctN → ctF → Prop} (hr : va_Run p l e R s m args below meth c H locs cells slots 0 0 (F0 m pc ls st0) rest (ct_Qv dC dI a cA n f H.size post av) (va_A (ctW a cA n f) H.size)) (hD : va_D A (ctW a cA n f)) (hS : va_S A H0 H locs) (hA : ∀ q, H0.size ≤ q → A q)
    (kk : ∀ (n' : ctN) (f' : ctF) (H1 : Heap) (locs1 : List Loc), post n' f' → va_P (dC, dI) vcl (ctW a cA n' f') H1 → va_S A H0 H1 locs1 → W p l e R s m args below meth c H1 locs1 cells slots Q (F0 m (pc + 3) ls rest)) : W p l e R s m args below meth c H locs cells slots Q (F0 m pc ls st0) := by
  have hFc := va_free (wc := ctW a cA n f) hD hS hA [0, 1, 2, 3, 4, 5, 6, 7, 8, 9, 10, 11, 12, 13, 14, 15, 16, 17, 18, 19, 20, 21, 22, 23, 24, 25, 26, 27, 28, 29, 30, 31, 32] rfl
  refine va_callv hr hS (fun q _ h => hFc q h) hFc (fun u t H1 locs1 ht hvm hw hB hz1 hk1 hS => ?_)
  refine kk u.1 u.2 H1 locs1 hw ?_ hS
  rw [← ht]; exact hB
theorem ct_xv {p : Program} {l : Launch} {e : Env} {R : Room} {s : State} {m : MethodId} {args : Array Value} {below : List Frame} {meth : Method} {c : Code} {H : Heap} {locs : List Loc} {cells slots : Nat} {Q : State → Prop} {pc : Nat} {ls : Array Slot} {st0 rest : List Value} {av : Array Value} {dC : Nat → ClassId} {dI : Nat → Nat → Nat} {a : Nat → Nat} {cA : Nat → ClassId} {n : ctN} {f : ctF} {A : Nat → Prop} {H0 : Heap} {post : ctN → ctF → Prop} {xp : String → ctN → ctF → Prop} {mc ms : Nat} (hr : vx_Run p l e R s m args below meth c H locs cells slots mc ms (F0 m pc ls st0) rest (ct_Qv dC dI a cA n f H.size post av) (ct_X dC dI a cA n f H.size xp) (va_A (ctW a cA n f) H.size)) (hD : va_D A (ctW a cA n f)) (hS : va_S A H0 H locs) (hA : ∀ q, H0.size ≤ q → A q)
    (kx : ∀ (E : String) (ce : Cell) (q9 : Addr) (n' : ctN) (f' : ctF) (H1 : Heap) (locs1 : List Loc), xp E n' f' → va_P (dC, dI) vcl (ctW a cA n' f') H1 → va_S A H0 H1 locs1 → H1[q9]? = some ce → ce.vm = .none → s.vm.findClass E = some ce.cls → vx_W p l e R s m args below meth c H1 locs1 (cells + mc) (slots + ms) Q (F0 m pc ls rest) q9)
    (kk : ∀ (n' : ctN) (f' : ctF) (H1 : Heap) (locs1 : List Loc), post n' f' → va_P (dC, dI) vcl (ctW a cA n' f') H1 → va_S A H0 H1 locs1 → W p l e R s m args below meth c H1 locs1 (cells + mc) (slots + ms) Q (F0 m (pc + 3) ls rest)) : W p l e R s m args below meth c H locs cells slots Q (F0 m pc ls st0) := by
  have hFc := va_free (wc := ctW a cA n f) hD hS hA [0, 1, 2, 3, 4, 5, 6, 7, 8, 9, 10, 11, 12, 13, 14, 15, 16, 17, 18, 19, 20, 21, 22, 23, 24, 25, 26, 27, 28, 29, 30, 31, 32] rfl
  refine vx_callv hr hS (fun q _ h => hFc q h) hFc (fun q _ h => hFc q h) (fun E ce q9 u t H1 locs1 ht hvm _ hB hz1 hk1 hS h1 h2 h3 => ?_) (fun u t H1 locs1 ht hvm hw hB hz1 hk1 hS => ?_)
  · refine kx E ce q9 u.1 u.2 H1 locs1 hB.1 ?_ hS h1 h2 h3
    rw [← ht]; exact hB.2
  · refine kk u.1 u.2 H1 locs1 hw ?_ hS
    rw [← ht]; exact hB
abbrev pFi : Int32 → ctN → ctF → Prop := fun _ _ _ => False
abbrev pFv : ctN → ctF → Prop := fun _ _ => False
abbrev xF : String → ctN → ctF → Prop := fun _ _ _ => False
theorem ct_mkB {H : Heap} {dC : Nat → ClassId} {dI : Nat → Nat → Nat} {a : Nat → Nat} {cA : Nat → ClassId} {n : ctN} {f : ctF} {t : State} (ht : t.heap = H) (hP : va_P (dC, dI) vcl (ctW a cA n f) H) : ct_B dC dI a cA (n, f) t := by
  show va_P (dC, dI) vcl (ctW a cA n f) t.heap
  rw [ht]; exact hP
theorem ct_thr {s : State} {H : Heap} {locs : List Loc} {dC : Nat → ClassId} {dI : Nat → Nat → Nat} {a : Nat → Nat} {cA : Nat → ClassId} {n : ctN} {f : ctF} {A : Nat → Prop} (hP : va_P (dC, dI) vcl (ctW a cA n f) H) (hS : va_S A s.heap H locs) {t : State} (h1 : H.size ≤ t.heap.size) (h2 : ∀ q : Nat, q < H.size → t.heap[q]? = H[q]?) : va_P (dC, dI) vcl (ctW a cA n f) t.heap ∧ va_F A s t :=
  ⟨hP.kept (fun k q hk => h2 q.1 (hP k q hk).lt), Nat.le_trans hS.1 h1, fun q hq hA => (h2 q (Nat.lt_of_lt_of_le hq hS.1)).trans (hS.2.1 q hq hA)⟩
theorem at_C_127 : ∀ w ∈ (vx_atS RC 127 "java/lang/IndexOutOfBoundsException" ["java/lang/RuntimeException", "java/lang/Exception"]).filter goodWord, w ∈ wB := by decide +kernel
theorem bd_C_127 : ∀ w ∈ (vx_atS RC 127 "java/lang/IndexOutOfBoundsException" ["java/lang/RuntimeException", "java/lang/Exception"]).filter (fun w => !goodWord w), w ∈ ([.castable "java/lang/IndexOutOfBoundsException" "java/lang/IndexOutOfBoundsException", .declares ⟨"java/lang/RuntimeException", "<init>", "(Ljava/lang/String;)V"⟩, .declares ⟨"java/lang/Exception", "<init>", "(Ljava/lang/String;)V"⟩, .declares ⟨"java/lang/Throwable", "<init>", "(Ljava/lang/String;)V"⟩] : List Cond) := by decide +kernel
theorem gd_C_127 : ∀ w ∈ Cond.classLink RC 123 "java/lang/IndexOutOfBoundsException" :: Cond.initialized "java/lang/IndexOutOfBoundsException" :: (vx_atS RC 127 "java/lang/IndexOutOfBoundsException" ["java/lang/RuntimeException", "java/lang/Exception"]), vx_ot w = true := by decide +kernel
theorem at_C_39 : ∀ w ∈ (vx_atS RC 39 "java/lang/IllegalArgumentException" ["java/lang/RuntimeException", "java/lang/Exception"]).filter goodWord, w ∈ wB := by decide +kernel
theorem bd_C_39 : ∀ w ∈ (vx_atS RC 39 "java/lang/IllegalArgumentException" ["java/lang/RuntimeException", "java/lang/Exception"]).filter (fun w => !goodWord w), w ∈ ([.castable "java/lang/IllegalArgumentException" "java/lang/IllegalArgumentException", .declares ⟨"java/lang/RuntimeException", "<init>", "(Ljava/lang/String;)V"⟩, .declares ⟨"java/lang/Exception", "<init>", "(Ljava/lang/String;)V"⟩, .declares ⟨"java/lang/Throwable", "<init>", "(Ljava/lang/String;)V"⟩] : List Cond) := by decide +kernel
theorem gd_C_39 : ∀ w ∈ Cond.classLink RC 35 "java/lang/IllegalArgumentException" :: Cond.initialized "java/lang/IllegalArgumentException" :: (vx_atS RC 39 "java/lang/IllegalArgumentException" ["java/lang/RuntimeException", "java/lang/Exception"]), vx_ot w = true := by decide +kernel
theorem at_C_46 : ∀ w ∈ (vx_atS RC 46 "java/lang/UnsupportedOperationException" ["java/lang/RuntimeException", "java/lang/Exception"]).filter goodWord, w ∈ wB := by decide +kernel
theorem bd_C_46 : ∀ w ∈ (vx_atS RC 46 "java/lang/UnsupportedOperationException" ["java/lang/RuntimeException", "java/lang/Exception"]).filter (fun w => !goodWord w), w ∈ ([.castable "java/lang/UnsupportedOperationException" "java/lang/UnsupportedOperationException", .declares ⟨"java/lang/RuntimeException", "<init>", "(Ljava/lang/String;)V"⟩, .declares ⟨"java/lang/Exception", "<init>", "(Ljava/lang/String;)V"⟩, .declares ⟨"java/lang/Throwable", "<init>", "(Ljava/lang/String;)V"⟩] : List Cond) := by decide +kernel
theorem gd_C_46 : ∀ w ∈ Cond.classLink RC 42 "java/lang/UnsupportedOperationException" :: Cond.initialized "java/lang/UnsupportedOperationException" :: (vx_atS RC 46 "java/lang/UnsupportedOperationException" ["java/lang/RuntimeException", "java/lang/Exception"]), vx_ot w = true := by decide +kernel
end
section
def wp_C_isGoal (post : Int32 → ctN → ctF → Prop) (p0 : Int32) (n : ctN) (f : ctF) : Prop := (p0 < 0 → (post 0 n f)) ∧ (¬ p0 < 0 → ((8 ≤ p0 → (post 0 n f)) ∧ (¬ 8 ≤ p0 → (post 1 n f))))
set_option maxHeartbeats 4000000 in
set_option maxRecDepth 100000 in
theorem met_C_isGoal (l : Launch) (dC : Nat → ClassId) (dI : Nat → Nat → Nat) (a : Nat → Nat) (cA : Nat → ClassId) (sa : Nat → Nat) (p0 : Int32) (n : ctN) (f : ctF) (sz : Nat) {post : Int32 → ctN → ctF → Prop} (hw : wp_C_isGoal post p0 n f) : Met l yC_isGoal wsC_isGoal ({ frames := 0, cells := 0, slots := 0, locals := 0 } : Room) (ct_Pc dC dI a cA sa [.int p0] n f sz) (va_Qi (fun (r : Int32) (u : ctN × ctF) => post r u.1 u.2) (ct_B dC dI a cA) (va_A (ctW a cA n f) sz)) 0 0 (va_A (ctW a cA n f) sz) := by
  refine Met.ofW (cc := cC_isGoal) (maxL := 1) (ret := (some .boolean)) (by decide) rfl ?_
  intro p e s m args below meth c s₁ B hml hv
  obtain ⟨rfl, hsz, hP, hK, hD0, hZ⟩ := hv
  have hx := B.exec
  have hb := B.bytes
  have hr := B.returns
  have hts := atoms_spec (ws := wsC_isGoal) B.pre
  have hown : s.vm.findClass RC = some m.cls := findClass_of_methodNamed B.named
  have hlocks := B.notSynchronized
  subst hsz
  have hD := hD0.self (sz := s.heap.size)
  generalize hAe : va_A (ctW a cA n f) s.heap.size = A at hD hZ ⊢
  have hDa : ∀ (n : ctN) (f : ctF), va_D A (ctW a cA n f) := fun _ _ => ct_D hD
  have hA : ∀ q : Nat, s.heap.size ≤ q → A q := fun q h => by rw [← hAe]; exact Or.inr h
  have hS : va_S A s.heap s.heap [] := va_S.rf
  have hl := lv_entry ([.int p0]) (n := 1) (Nat.le_of_ble_eq_true rfl)
  rw [lg_entry_eq]
  generalize (lg_sl ([.int p0]) ++ List.replicate (1 - (lg_sl ([.int p0])).length) Slot.unset).toArray = ls at hl ⊢
  have hl : lv_has ls 1 [(0, .int p0)] := hl
  unfold wp_C_isGoal at hw
  refine lv_iload_n hx hb dC_isGoal_0 rfl (lv_at hl 0 rfl) ?_
  refine lv_if_lt (tgt := 14) hx hb dC_isGoal_1 (by decide) (fun c1 => ?_) (fun c1 => ?_)
  · have hw := hw.1 c1
    refine lv_iconst (v := 0) hx hb dC_isGoal_14 (by decide) ?_
    exact W.zret (v := 0) hx hb hr rfl (fun t ht hW => ⟨⟨0, (n, f), rfl, hw, ct_mkB ht hP⟩, hS.F ht⟩) hS.2.2 dC_isGoal_15
  · have hw := hw.2 c1
    refine lv_iload_n hx hb dC_isGoal_4 rfl (lv_at hl 0 rfl) ?_
    refine lv_bipush (v := 8) hx hb dC_isGoal_5 (by decide) ?_
    refine lv_icmp_ge (tgt := 14) hx hb dC_isGoal_7 (by decide) (fun c2 => ?_) (fun c2 => ?_)
    · have hw := hw.1 c2
      refine lv_iconst (v := 0) hx hb dC_isGoal_14 (by decide) ?_
      exact W.zret (v := 0) hx hb hr rfl (fun t ht hW => ⟨⟨0, (n, f), rfl, hw, ct_mkB ht hP⟩, hS.F ht⟩) hS.2.2 dC_isGoal_15
    · have hw := hw.2 c2
      refine lv_iconst (v := 1) hx hb dC_isGoal_10 (by decide) ?_
      refine lv_goto (tgt := 15) hx hb dC_isGoal_11 (by decide) ?_
      exact W.zret (v := 1) hx hb hr rfl (fun t ht hW => ⟨⟨1, (n, f), rfl, hw, ct_mkB ht hP⟩, hS.F ht⟩) hS.2.2 dC_isGoal_15
def wp_C_place (post : Int32 → ctN → ctF → Prop) (p0 : Int32) (p1 : Int32) (n : ctN) (f : ctF) : Prop := post ((p0 * 8) + p1) n f
set_option maxHeartbeats 4000000 in
set_option maxRecDepth 100000 in
theorem met_C_place (l : Launch) (dC : Nat → ClassId) (dI : Nat → Nat → Nat) (a : Nat → Nat) (cA : Nat → ClassId) (sa : Nat → Nat) (p0 : Int32) (p1 : Int32) (n : ctN) (f : ctF) (sz : Nat) {post : Int32 → ctN → ctF → Prop} (hw : wp_C_place post p0 p1 n f) : Met l yC_place wsC_place ({ frames := 0, cells := 0, slots := 0, locals := 0 } : Room) (ct_Pc dC dI a cA sa [.int p0, .int p1] n f sz) (va_Qi (fun (r : Int32) (u : ctN × ctF) => post r u.1 u.2) (ct_B dC dI a cA) (va_A (ctW a cA n f) sz)) 0 0 (va_A (ctW a cA n f) sz) := by
  refine Met.ofW (cc := cC_place) (maxL := 2) (ret := (some .int)) (by decide) rfl ?_
  intro p e s m args below meth c s₁ B hml hv
  obtain ⟨rfl, hsz, hP, hK, hD0, hZ⟩ := hv
  have hx := B.exec
  have hb := B.bytes
  have hr := B.returns
  have hts := atoms_spec (ws := wsC_place) B.pre
  have hown : s.vm.findClass RC = some m.cls := findClass_of_methodNamed B.named
  have hlocks := B.notSynchronized
  subst hsz
  have hD := hD0.self (sz := s.heap.size)
  generalize hAe : va_A (ctW a cA n f) s.heap.size = A at hD hZ ⊢
  have hDa : ∀ (n : ctN) (f : ctF), va_D A (ctW a cA n f) := fun _ _ => ct_D hD
  have hA : ∀ q : Nat, s.heap.size ≤ q → A q := fun q h => by rw [← hAe]; exact Or.inr h
  have hS : va_S A s.heap s.heap [] := va_S.rf
  have hl := lv_entry ([.int p0, .int p1]) (n := 2) (Nat.le_of_ble_eq_true rfl)
  rw [lg_entry_eq]
  generalize (lg_sl ([.int p0, .int p1]) ++ List.replicate (2 - (lg_sl ([.int p0, .int p1])).length) Slot.unset).toArray = ls at hl ⊢
  have hl : lv_has ls 2 [(0, .int p0), (1, .int p1)] := hl
  unfold wp_C_place at hw
  refine lv_iload_n hx hb dC_place_0 rfl (lv_at hl 0 rfl) ?_
  refine lv_bipush (v := 8) hx hb dC_place_1 (by decide) ?_
  refine lv_imul hx hb dC_place_3 ?_
  refine lv_iload_n hx hb dC_place_4 rfl (lv_at hl 1 rfl) ?_
  refine lv_iadd hx hb dC_place_5 ?_
  exact W.iret (v := ((p0 * 8) + p1)) hx hb hr (fun t ht hW => ⟨⟨((p0 * 8) + p1), (n, f), rfl, hw, ct_mkB ht hP⟩, hS.F ht⟩) hS.2.2 dC_place_6
def wp_C_checkRuleCost (post : ctN → ctF → Prop) (xp : String → ctN → ctF → Prop) (p0 : Int32) (n : ctN) (f : ctF) : Prop := (p0 < 0 → (xp "java/lang/IllegalArgumentException" n f)) ∧ (¬ p0 < 0 → ((p0 ≤ 20 → (post n f)) ∧ (¬ p0 ≤ 20 → (xp "java/lang/IllegalArgumentException" n f))))
set_option maxHeartbeats 4000000 in
set_option maxRecDepth 100000 in
theorem met0_C_checkRuleCost (l : Launch) (dC : Nat → ClassId) (dI : Nat → Nat → Nat) (a : Nat → Nat) (cA : Nat → ClassId) (sa : Nat → Nat) (p0 : Int32) (n : ctN) (f : ctF) (sz : Nat) {post : ctN → ctF → Prop} (hw : wp_C_checkRuleCost post xF p0 n f) : Met l yC_checkRuleCost wsC_checkRuleCost ({ frames := 6, cells := 0, slots := 0, locals := 90 } : Room) (ct_Pc dC dI a cA sa [.int p0] n f sz) (va_Qv (fun (u : ctN × ctF) => post u.1 u.2) (ct_B dC dI a cA) (va_A (ctW a cA n f) sz)) 0 0 (va_A (ctW a cA n f) sz) := by
  refine Met.ofW (cc := cC_checkRuleCost) (maxL := 1) (ret := none) (by decide) rfl ?_
  intro p e s m args below meth c s₁ B hml hv
  obtain ⟨rfl, hsz, hP, hK, hD0, hZ⟩ := hv
  have hx := B.exec
  have hb := B.bytes
  have hr := B.returns
  have hts := atoms_spec (ws := wsC_checkRuleCost) B.pre
  have hown : s.vm.findClass RC = some m.cls := findClass_of_methodNamed B.named
  have hlocks := B.notSynchronized
  subst hsz
  have hD := hD0.self (sz := s.heap.size)
  generalize hAe : va_A (ctW a cA n f) s.heap.size = A at hD hZ ⊢
  have hDa : ∀ (n : ctN) (f : ctF), va_D A (ctW a cA n f) := fun _ _ => ct_D hD
  have hA : ∀ q : Nat, s.heap.size ≤ q → A q := fun q h => by rw [← hAe]; exact Or.inr h
  have hS : va_S A s.heap s.heap [] := va_S.rf
  have hl := lv_entry ([.int p0]) (n := 1) (Nat.le_of_ble_eq_true rfl)
  rw [lg_entry_eq]
  generalize (lg_sl ([.int p0]) ++ List.replicate (1 - (lg_sl ([.int p0])).length) Slot.unset).toArray = ls at hl ⊢
  have hl : lv_has ls 1 [(0, .int p0)] := hl
  unfold wp_C_checkRuleCost at hw
  refine lv_iload_n hx hb dC_checkRuleCost_0 rfl (lv_at hl 0 rfl) ?_
  refine lv_if_lt (tgt := 10) hx hb dC_checkRuleCost_1 (by decide) (fun c1 => ?_) (fun c1 => ?_)
  · have hw := hw.1 c1
    exact False.elim hw
  · have hw := hw.2 c1
    refine lv_iload_n hx hb dC_checkRuleCost_4 rfl (lv_at hl 0 rfl) ?_
    refine lv_bipush (v := 20) hx hb dC_checkRuleCost_5 (by decide) ?_
    refine lv_icmp_le (tgt := 20) hx hb dC_checkRuleCost_7 (by decide) (fun c2 => ?_) (fun c2 => ?_)
    · have hw := hw.1 c2
      exact W.vret hx hb hr (fun t ht hW => ⟨⟨(n, f), rfl, hw, ct_mkB ht hP⟩, hS.F ht⟩) hS.2.2 dC_checkRuleCost_20
    · have hw := hw.2 c2
      exact False.elim hw
set_option maxHeartbeats 4000000 in
set_option maxRecDepth 100000 in
theorem metx_C_checkRuleCost (l : Launch) (hl9 : l.stackTraces = false) (dC : Nat → ClassId) (dI : Nat → Nat → Nat) (a : Nat → Nat) (cA : Nat → ClassId) (sa : Nat → Nat) (p0 : Int32) (n : ctN) (f : ctF) (sz : Nat) {xp : String → ctN → ctF → Prop} (hw : wp_C_checkRuleCost pFv xp p0 n f) : vx_Met l yC_checkRuleCost wsC_checkRuleCost ({ frames := 6, cells := 1, slots := 6, locals := 90 } : Room) (ct_Pc dC dI a cA sa [.int p0] n f sz) (va_Qv (fun (u : ctN × ctF) => pFv u.1 u.2) (ct_B dC dI a cA) (va_A (ctW a cA n f) sz)) (vx_X (fun (_ : ctN × ctF) => True) (fun E u t => xp E u.1 u.2 ∧ ct_B dC dI a cA u t) (va_A (ctW a cA n f) sz)) 1 6 (va_A (ctW a cA n f) sz) := by
  refine vx_ofW (cc := cC_checkRuleCost) (maxL := 1) (ret := none) (by decide) rfl ?_
  intro p e s m args below meth c s₁ B hml htb hv
  obtain ⟨rfl, hsz, hP, hK, hD0, hZ⟩ := hv
  have hx := B.exec
  have hb := B.bytes
  have hr := B.returns
  have hts := atoms_spec (ws := wsC_checkRuleCost) B.pre
  have hown : s.vm.findClass RC = some m.cls := findClass_of_methodNamed B.named
  have hlocks := B.notSynchronized
  subst hsz
  have hD := hD0.self (sz := s.heap.size)
  generalize hAe : va_A (ctW a cA n f) s.heap.size = A at hD hZ ⊢
  have hDa : ∀ (n : ctN) (f : ctF), va_D A (ctW a cA n f) := fun _ _ => ct_D hD
  have hA : ∀ q : Nat, s.heap.size ≤ q → A q := fun q h => by rw [← hAe]; exact Or.inr h
  have hS : va_S A s.heap s.heap [] := va_S.rf
  have hl := lv_entry ([.int p0]) (n := 1) (Nat.le_of_ble_eq_true rfl)
  rw [lg_entry_eq]
  generalize (lg_sl ([.int p0]) ++ List.replicate (1 - (lg_sl ([.int p0])).length) Slot.unset).toArray = ls at hl ⊢
  have hl : lv_has ls 1 [(0, .int p0)] := hl
  unfold wp_C_checkRuleCost at hw
  refine lv_iload_n hx hb dC_checkRuleCost_0 rfl (lv_at hl 0 rfl) ?_
  refine lv_if_lt (tgt := 10) hx hb dC_checkRuleCost_1 (by decide) (fun c1 => ?_) (fun c1 => ?_)
  · have hw := hw.1 c1
    exact vx_throwS (own := RC) (cls := "java/lang/IllegalArgumentException") (text := "a rule costs 0 to 20") (names := ["java/lang/RuntimeException", "java/lang/Exception"]) (ik := 35) (is := 137) (ic := 39) (sa := sa 4) hx hb hl9 hown (by decide +kernel) (by decide +kernel) (hts (.classLink RC 35 "java/lang/IllegalArgumentException") (List.mem_cons_of_mem _ wt_166)) (hts (.initialized "java/lang/IllegalArgumentException") (List.mem_cons_of_mem _ wt_34)) hZ.2.2.2.2.2.2.2.2.2.2.2.1 (vx_hat (L := vx_atS RC 39 "java/lang/IllegalArgumentException" ["java/lang/RuntimeException", "java/lang/Exception"]) (B := [.castable "java/lang/IllegalArgumentException" "java/lang/IllegalArgumentException", .declares ⟨"java/lang/RuntimeException", "<init>", "(Ljava/lang/String;)V"⟩, .declares ⟨"java/lang/Exception", "<init>", "(Ljava/lang/String;)V"⟩, .declares ⟨"java/lang/Throwable", "<init>", "(Ljava/lang/String;)V"⟩]) (fun w hw => hts w (List.mem_cons_of_mem _ (at_C_39 w hw))) bd_C_39 (vx_c (va_Nw.use rfl hZ.2.1) (vx_c (va_Nw.use rfl hZ.2.2.2.2.1) (vx_c (va_Nw.use rfl hZ.2.2.2.2.2.1) (vx_c (va_Nw.use rfl hZ.2.2.2.2.2.2.1) (vx_n)))))) gd_C_39 hZ.2.2.2.2.2.2.2.2.2.2.2.2.2.2.2.2.2.2.2.2.2.2.2.1 hZ.2.2.2.2.2.2.2.2.2.2.2.2.2.2.2.2.2.2.2.2.2.2.2.2 hS (hl.1.trans hml.symm) dC_checkRuleCost_10 dC_checkRuleCost_13 dC_checkRuleCost_14 dC_checkRuleCost_16 dC_checkRuleCost_19 (fun x h => (htb x h).elim) (Nat.le_of_ble_eq_true rfl) (Nat.le_of_ble_eq_true rfl) (Nat.le_of_ble_eq_true rfl) (Nat.le_of_ble_eq_true rfl) hlocks (fun t _ h1 h2 => ⟨(n, f), trivial, ⟨hw, (ct_thr hP hS h1 h2).1⟩, (ct_thr hP hS h1 h2).2⟩) hS.2.2 (Nat.le_of_ble_eq_true rfl) (Nat.le_of_ble_eq_true rfl)
  · have hw := hw.2 c1
    refine lv_iload_n hx hb dC_checkRuleCost_4 rfl (lv_at hl 0 rfl) ?_
    refine lv_bipush (v := 20) hx hb dC_checkRuleCost_5 (by decide) ?_
    refine lv_icmp_le (tgt := 20) hx hb dC_checkRuleCost_7 (by decide) (fun c2 => ?_) (fun c2 => ?_)
    · have hw := hw.1 c2
      exact False.elim hw
    · have hw := hw.2 c2
      exact vx_throwS (own := RC) (cls := "java/lang/IllegalArgumentException") (text := "a rule costs 0 to 20") (names := ["java/lang/RuntimeException", "java/lang/Exception"]) (ik := 35) (is := 137) (ic := 39) (sa := sa 4) hx hb hl9 hown (by decide +kernel) (by decide +kernel) (hts (.classLink RC 35 "java/lang/IllegalArgumentException") (List.mem_cons_of_mem _ wt_166)) (hts (.initialized "java/lang/IllegalArgumentException") (List.mem_cons_of_mem _ wt_34)) hZ.2.2.2.2.2.2.2.2.2.2.2.1 (vx_hat (L := vx_atS RC 39 "java/lang/IllegalArgumentException" ["java/lang/RuntimeException", "java/lang/Exception"]) (B := [.castable "java/lang/IllegalArgumentException" "java/lang/IllegalArgumentException", .declares ⟨"java/lang/RuntimeException", "<init>", "(Ljava/lang/String;)V"⟩, .declares ⟨"java/lang/Exception", "<init>", "(Ljava/lang/String;)V"⟩, .declares ⟨"java/lang/Throwable", "<init>", "(Ljava/lang/String;)V"⟩]) (fun w hw => hts w (List.mem_cons_of_mem _ (at_C_39 w hw))) bd_C_39 (vx_c (va_Nw.use rfl hZ.2.1) (vx_c (va_Nw.use rfl hZ.2.2.2.2.1) (vx_c (va_Nw.use rfl hZ.2.2.2.2.2.1) (vx_c (va_Nw.use rfl hZ.2.2.2.2.2.2.1) (vx_n)))))) gd_C_39 hZ.2.2.2.2.2.2.2.2.2.2.2.2.2.2.2.2.2.2.2.2.2.2.2.1 hZ.2.2.2.2.2.2.2.2.2.2.2.2.2.2.2.2.2.2.2.2.2.2.2.2 hS (hl.1.trans hml.symm) dC_checkRuleCost_10 dC_checkRuleCost_13 dC_checkRuleCost_14 dC_checkRuleCost_16 dC_checkRuleCost_19 (fun x h => (htb x h).elim) (Nat.le_of_ble_eq_true rfl) (Nat.le_of_ble_eq_true rfl) (Nat.le_of_ble_eq_true rfl) (Nat.le_of_ble_eq_true rfl) hlocks (fun t _ h1 h2 => ⟨(n, f), trivial, ⟨hw, (ct_thr hP hS h1 h2).1⟩, (ct_thr hP hS h1 h2).2⟩) hS.2.2 (Nat.le_of_ble_eq_true rfl) (Nat.le_of_ble_eq_true rfl)
def wp_C_checkRoomForRule (post : ctN → ctF → Prop) (xp : String → ctN → ctF → Prop) (n : ctN) (f : ctF) : Prop := ((n 1) < 40 → (post n f)) ∧ (¬ (n 1) < 40 → (xp "java/lang/UnsupportedOperationException" n f))
set_option maxHeartbeats 4000000 in
set_option maxRecDepth 100000 in
theorem met0_C_checkRoomForRule (l : Launch) (dC : Nat → ClassId) (dI : Nat → Nat → Nat) (a : Nat → Nat) (cA : Nat → ClassId) (sa : Nat → Nat) (n : ctN) (f : ctF) (sz : Nat) {post : ctN → ctF → Prop} (hw : wp_C_checkRoomForRule post xF n f) : Met l yC_checkRoomForRule wsC_checkRoomForRule ({ frames := 6, cells := 0, slots := 0, locals := 90 } : Room) (ct_Pc dC dI a cA sa [.ref (a 0)] n f sz) (va_Qv (fun (u : ctN × ctF) => post u.1 u.2) (ct_B dC dI a cA) (va_A (ctW a cA n f) sz)) 0 0 (va_A (ctW a cA n f) sz) := by
  refine Met.ofW (cc := cC_checkRoomForRule) (maxL := 1) (ret := none) (by decide) rfl ?_
  intro p e s m args below meth c s₁ B hml hv
  obtain ⟨rfl, hsz, hP, hK, hD0, hZ⟩ := hv
  have hx := B.exec
  have hb := B.bytes
  have hr := B.returns
  have hts := atoms_spec (ws := wsC_checkRoomForRule) B.pre
  have hown : s.vm.findClass RC = some m.cls := findClass_of_methodNamed B.named
  have hlocks := B.notSynchronized
  subst hsz
  have hD := hD0.self (sz := s.heap.size)
  generalize hAe : va_A (ctW a cA n f) s.heap.size = A at hD hZ ⊢
  have hDa : ∀ (n : ctN) (f : ctF), va_D A (ctW a cA n f) := fun _ _ => ct_D hD
  have hA : ∀ q : Nat, s.heap.size ≤ q → A q := fun q h => by rw [← hAe]; exact Or.inr h
  have hS : va_S A s.heap s.heap [] := va_S.rf
  have hl := lv_entry ([.ref (a 0)]) (n := 1) (Nat.le_of_ble_eq_true rfl)
  rw [lg_entry_eq]
  generalize (lg_sl ([.ref (a 0)]) ++ List.replicate (1 - (lg_sl ([.ref (a 0)])).length) Slot.unset).toArray = ls at hl ⊢
  have hl : lv_has ls 1 [(0, .ref (a 0))] := hl
  unfold wp_C_checkRoomForRule at hw
  refine lv_aload_n hx hb dC_checkRoomForRule_0 rfl (lv_at hl 0 rfl) ?_
  refine va_get (D := (dC, dI)) (ci := 0) (v := .ref (a 1)) (C := RC) (T := TC) (N := 2) hx hb hts (fun w h => List.mem_cons_of_mem _ (inC w h)) hown hK hP 0 rfl rfl 0 (by decide) (hts (.fieldLink RC 12 "CoverTrees" "grammar" "LCoverTrees$Grammar;") (List.mem_cons_of_mem _ wt_134)) (fun _ h9 => h9) rfl dC_checkRoomForRule_1 ?_
  refine va_get (D := (dC, dI)) (ci := 1) (v := .int (n 1)) (C := RG) (T := TG) (N := 8) hx hb hts (fun w h => List.mem_cons_of_mem _ (inG w h)) hown hK hP 1 rfl rfl 2 (by decide) (hts (.fieldLink RC 29 "CoverTrees$Grammar" "ruleCount" "I") (List.mem_cons_of_mem _ wt_57)) (fun _ h9 => h9) rfl dC_checkRoomForRule_4 ?_
  refine lv_bipush (v := 40) hx hb dC_checkRoomForRule_7 (by decide) ?_
  refine lv_icmp_lt (tgt := 22) hx hb dC_checkRoomForRule_9 (by decide) (fun c1 => ?_) (fun c1 => ?_)
  · have hw := hw.1 c1
    exact W.vret hx hb hr (fun t ht hW => ⟨⟨(n, f), rfl, hw, ct_mkB ht hP⟩, hS.F ht⟩) hS.2.2 dC_checkRoomForRule_22
  · have hw := hw.2 c1
    exact False.elim hw
set_option maxHeartbeats 4000000 in
set_option maxRecDepth 100000 in
theorem metx_C_checkRoomForRule (l : Launch) (hl9 : l.stackTraces = false) (dC : Nat → ClassId) (dI : Nat → Nat → Nat) (a : Nat → Nat) (cA : Nat → ClassId) (sa : Nat → Nat) (n : ctN) (f : ctF) (sz : Nat) {xp : String → ctN → ctF → Prop} (hw : wp_C_checkRoomForRule pFv xp n f) : vx_Met l yC_checkRoomForRule wsC_checkRoomForRule ({ frames := 6, cells := 1, slots := 6, locals := 90 } : Room) (ct_Pc dC dI a cA sa [.ref (a 0)] n f sz) (va_Qv (fun (u : ctN × ctF) => pFv u.1 u.2) (ct_B dC dI a cA) (va_A (ctW a cA n f) sz)) (vx_X (fun (_ : ctN × ctF) => True) (fun E u t => xp E u.1 u.2 ∧ ct_B dC dI a cA u t) (va_A (ctW a cA n f) sz)) 1 6 (va_A (ctW a cA n f) sz) := by
  refine vx_ofW (cc := cC_checkRoomForRule) (maxL := 1) (ret := none) (by decide) rfl ?_
  intro p e s m args below meth c s₁ B hml htb hv
  obtain ⟨rfl, hsz, hP, hK, hD0, hZ⟩ := hv
  have hx := B.exec
  have hb := B.bytes
  have hr := B.returns
  have hts := atoms_spec (ws := wsC_checkRoomForRule) B.pre
  have hown : s.vm.findClass RC = some m.cls := findClass_of_methodNamed B.named
  have hlocks := B.notSynchronized
  subst hsz
  have hD := hD0.self (sz := s.heap.size)
  generalize hAe : va_A (ctW a cA n f) s.heap.size = A at hD hZ ⊢
  have hDa : ∀ (n : ctN) (f : ctF), va_D A (ctW a cA n f) := fun _ _ => ct_D hD
  have hA : ∀ q : Nat, s.heap.size ≤ q → A q := fun q h => by rw [← hAe]; exact Or.inr h
  have hS : va_S A s.heap s.heap [] := va_S.rf
  have hl := lv_entry ([.ref (a 0)]) (n := 1) (Nat.le_of_ble_eq_true rfl)
  rw [lg_entry_eq]
  generalize (lg_sl ([.ref (a 0)]) ++ List.replicate (1 - (lg_sl ([.ref (a 0)])).length) Slot.unset).toArray = ls at hl ⊢
  have hl : lv_has ls 1 [(0, .ref (a 0))] := hl
  unfold wp_C_checkRoomForRule at hw
  refine lv_aload_n hx hb dC_checkRoomForRule_0 rfl (lv_at hl 0 rfl) ?_
  refine va_get (D := (dC, dI)) (ci := 0) (v := .ref (a 1)) (C := RC) (T := TC) (N := 2) hx hb hts (fun w h => List.mem_cons_of_mem _ (inC w h)) hown hK hP 0 rfl rfl 0 (by decide) (hts (.fieldLink RC 12 "CoverTrees" "grammar" "LCoverTrees$Grammar;") (List.mem_cons_of_mem _ wt_134)) (fun _ h9 => h9) rfl dC_checkRoomForRule_1 ?_
  refine va_get (D := (dC, dI)) (ci := 1) (v := .int (n 1)) (C := RG) (T := TG) (N := 8) hx hb hts (fun w h => List.mem_cons_of_mem _ (inG w h)) hown hK hP 1 rfl rfl 2 (by decide) (hts (.fieldLink RC 29 "CoverTrees$Grammar" "ruleCount" "I") (List.mem_cons_of_mem _ wt_57)) (fun _ h9 => h9) rfl dC_checkRoomForRule_4 ?_
  refine lv_bipush (v := 40) hx hb dC_checkRoomForRule_7 (by decide) ?_
  refine lv_icmp_lt (tgt := 22) hx hb dC_checkRoomForRule_9 (by decide) (fun c1 => ?_) (fun c1 => ?_)
  · have hw := hw.1 c1
    exact False.elim hw
  · have hw := hw.2 c1
    exact vx_throwS (own := RC) (cls := "java/lang/UnsupportedOperationException") (text := "there are 40 rules") (names := ["java/lang/RuntimeException", "java/lang/Exception"]) (ik := 42) (is := 139) (ic := 46) (sa := sa 5) hx hb hl9 hown (by decide +kernel) (by decide +kernel) (hts (.classLink RC 42 "java/lang/UnsupportedOperationException") (List.mem_cons_of_mem _ wt_234)) (hts (.initialized "java/lang/UnsupportedOperationException") (List.mem_cons_of_mem _ wt_35)) hZ.2.2.2.2.2.2.2.2.2.2.2.2.1 (vx_hat (L := vx_atS RC 46 "java/lang/UnsupportedOperationException" ["java/lang/RuntimeException", "java/lang/Exception"]) (B := [.castable "java/lang/UnsupportedOperationException" "java/lang/UnsupportedOperationException", .declares ⟨"java/lang/RuntimeException", "<init>", "(Ljava/lang/String;)V"⟩, .declares ⟨"java/lang/Exception", "<init>", "(Ljava/lang/String;)V"⟩, .declares ⟨"java/lang/Throwable", "<init>", "(Ljava/lang/String;)V"⟩]) (fun w hw => hts w (List.mem_cons_of_mem _ (at_C_46 w hw))) bd_C_46 (vx_c (va_Nw.use rfl hZ.2.2.1) (vx_c (va_Nw.use rfl hZ.2.2.2.2.1) (vx_c (va_Nw.use rfl hZ.2.2.2.2.2.1) (vx_c (va_Nw.use rfl hZ.2.2.2.2.2.2.1) (vx_n)))))) gd_C_46 hZ.2.2.2.2.2.2.2.2.2.2.2.2.2.2.2.2.2.2.2.2.2.2.2.1 hZ.2.2.2.2.2.2.2.2.2.2.2.2.2.2.2.2.2.2.2.2.2.2.2.2 hS (hl.1.trans hml.symm) dC_checkRoomForRule_12 dC_checkRoomForRule_15 dC_checkRoomForRule_16 dC_checkRoomForRule_18 dC_checkRoomForRule_21 (fun x h => (htb x h).elim) (Nat.le_of_ble_eq_true rfl) (Nat.le_of_ble_eq_true rfl) (Nat.le_of_ble_eq_true rfl) (Nat.le_of_ble_eq_true rfl) hlocks (fun t _ h1 h2 => ⟨(n, f), trivial, ⟨hw, (ct_thr hP hS h1 h2).1⟩, (ct_thr hP hS h1 h2).2⟩) hS.2.2 (Nat.le_of_ble_eq_true rfl) (Nat.le_of_ble_eq_true rfl)
def wp_G_hasOperator (post : Int32 → ctN → ctF → Prop) (p1 : Int32) (n : ctN) (f : ctF) : Prop := (p1 < 0 → (post 0 n f)) ∧ (¬ p1 < 0 → (((n 0) ≤ p1 → (post 0 n f)) ∧ (¬ (n 0) ≤ p1 → (post 1 n f))))
set_option maxHeartbeats 4000000 in
set_option maxRecDepth 100000 in
theorem met_G_hasOperator (l : Launch) (dC : Nat → ClassId) (dI : Nat → Nat → Nat) (a : Nat → Nat) (cA : Nat → ClassId) (sa : Nat → Nat) (p1 : Int32) (n : ctN) (f : ctF) (sz : Nat) {post : Int32 → ctN → ctF → Prop} (hw : wp_G_hasOperator post p1 n f) : Met l yG_hasOperator wsG_hasOperator ({ frames := 0, cells := 0, slots := 0, locals := 0 } : Room) (ct_Pc dC dI a cA sa [.ref (a 1), .int p1] n f sz) (va_Qi (fun (r : Int32) (u : ctN × ctF) => post r u.1 u.2) (ct_B dC dI a cA) (va_A (ctW a cA n f) sz)) 0 0 (va_A (ctW a cA n f) sz) := by
  refine Met.ofW (cc := cG_hasOperator) (maxL := 2) (ret := (some .boolean)) (by decide) rfl ?_
  intro p e s m args below meth c s₁ B hml hv
  obtain ⟨rfl, hsz, hP, hK, hD0, hZ⟩ := hv
  have hx := B.exec
  have hb := B.bytes
  have hr := B.returns
  have hts := atoms_spec (ws := wsG_hasOperator) B.pre
  have hown : s.vm.findClass RG = some m.cls := findClass_of_methodNamed B.named
  have hlocks := B.notSynchronized
  subst hsz
  have hD := hD0.self (sz := s.heap.size)
  generalize hAe : va_A (ctW a cA n f) s.heap.size = A at hD hZ ⊢
  have hDa : ∀ (n : ctN) (f : ctF), va_D A (ctW a cA n f) := fun _ _ => ct_D hD
  have hA : ∀ q : Nat, s.heap.size ≤ q → A q := fun q h => by rw [← hAe]; exact Or.inr h
  have hS : va_S A s.heap s.heap [] := va_S.rf
  have hl := lv_entry ([.ref (a 1), .int p1]) (n := 2) (Nat.le_of_ble_eq_true rfl)
  rw [lg_entry_eq]
  generalize (lg_sl ([.ref (a 1), .int p1]) ++ List.replicate (2 - (lg_sl ([.ref (a 1), .int p1])).length) Slot.unset).toArray = ls at hl ⊢
  have hl : lv_has ls 2 [(0, .ref (a 1)), (1, .int p1)] := hl
  unfold wp_G_hasOperator at hw
  refine lv_iload_n hx hb dG_hasOperator_0 rfl (lv_at hl 1 rfl) ?_
  refine lv_if_lt (tgt := 16) hx hb dG_hasOperator_1 (by decide) (fun c1 => ?_) (fun c1 => ?_)
  · have hw := hw.1 c1
    refine lv_iconst (v := 0) hx hb dG_hasOperator_16 (by decide) ?_
    exact W.zret (v := 0) hx hb hr rfl (fun t ht hW => ⟨⟨0, (n, f), rfl, hw, ct_mkB ht hP⟩, hS.F ht⟩) hS.2.2 dG_hasOperator_17
  · have hw := hw.2 c1
    refine lv_iload_n hx hb dG_hasOperator_4 rfl (lv_at hl 1 rfl) ?_
    refine lv_aload_n hx hb dG_hasOperator_5 rfl (lv_at hl 0 rfl) ?_
    refine va_get (D := (dC, dI)) (ci := 1) (v := .int (n 0)) (C := RG) (T := TG) (N := 8) hx hb hts (fun w h => List.mem_cons_of_mem _ (inG w h)) hown hK hP 1 rfl rfl 0 (by decide) (hts (.fieldLink RG 30 "CoverTrees$Grammar" "operatorCount" "I") (List.mem_cons_of_mem _ wt_52)) (fun _ h9 => h9) rfl dG_hasOperator_6 ?_
    refine lv_icmp_ge (tgt := 16) hx hb dG_hasOperator_9 (by decide) (fun c2 => ?_) (fun c2 => ?_)
    · have hw := hw.1 c2
      refine lv_iconst (v := 0) hx hb dG_hasOperator_16 (by decide) ?_
      exact W.zret (v := 0) hx hb hr rfl (fun t ht hW => ⟨⟨0, (n, f), rfl, hw, ct_mkB ht hP⟩, hS.F ht⟩) hS.2.2 dG_hasOperator_17
    · have hw := hw.2 c2
      refine lv_iconst (v := 1) hx hb dG_hasOperator_12 (by decide) ?_
      refine lv_goto (tgt := 17) hx hb dG_hasOperator_13 (by decide) ?_
      exact W.zret (v := 1) hx hb hr rfl (fun t ht hW => ⟨⟨1, (n, f), rfl, hw, ct_mkB ht hP⟩, hS.F ht⟩) hS.2.2 dG_hasOperator_17
def wp_G_addOperator (post : Int32 → ctN → ctF → Prop) (p1 : Int32) (n : ctN) (f : ctF) : Prop := ∀ x2_1 : Int32, x2_1 = (n 0) → (vp_in x2_1 10 ∧ (∀ f_3 : ctF, f_3 = va_up f 3 (upd (f 3) x2_1.toNatClampNeg p1) → (∀ n_4 : ctN, n_4 = va_up n 0 (x2_1 + 1) → (post x2_1 n_4 f_3))))
set_option maxHeartbeats 4000000 in
set_option maxRecDepth 100000 in
theorem met_G_addOperator (l : Launch) (dC : Nat → ClassId) (dI : Nat → Nat → Nat) (a : Nat → Nat) (cA : Nat → ClassId) (sa : Nat → Nat) (p1 : Int32) (n : ctN) (f : ctF) (sz : Nat) {post : Int32 → ctN → ctF → Prop} (hw : wp_G_addOperator post p1 n f) : Met l yG_addOperator wsG_addOperator ({ frames := 0, cells := 0, slots := 0, locals := 0 } : Room) (ct_Pc dC dI a cA sa [.ref (a 1), .int p1] n f sz) (va_Qi (fun (r : Int32) (u : ctN × ctF) => post r u.1 u.2) (ct_B dC dI a cA) (va_A (ctW a cA n f) sz)) 0 0 (va_A (ctW a cA n f) sz) := by
  refine Met.ofW (cc := cG_addOperator) (maxL := 3) (ret := (some .int)) (by decide) rfl ?_
  intro p e s m args below meth c s₁ B hml hv
  obtain ⟨rfl, hsz, hP, hK, hD0, hZ⟩ := hv
  have hx := B.exec
  have hb := B.bytes
  have hr := B.returns
  have hts := atoms_spec (ws := wsG_addOperator) B.pre
  have hown : s.vm.findClass RG = some m.cls := findClass_of_methodNamed B.named
  have hlocks := B.notSynchronized
  subst hsz
  have hD := hD0.self (sz := s.heap.size)
  generalize hAe : va_A (ctW a cA n f) s.heap.size = A at hD hZ ⊢
  have hDa : ∀ (n : ctN) (f : ctF), va_D A (ctW a cA n f) := fun _ _ => ct_D hD
  have hA : ∀ q : Nat, s.heap.size ≤ q → A q := fun q h => by rw [← hAe]; exact Or.inr h
  have hS : va_S A s.heap s.heap [] := va_S.rf
  have hl := lv_entry ([.ref (a 1), .int p1]) (n := 3) (Nat.le_of_ble_eq_true rfl)
  rw [lg_entry_eq]
  generalize (lg_sl ([.ref (a 1), .int p1]) ++ List.replicate (3 - (lg_sl ([.ref (a 1), .int p1])).length) Slot.unset).toArray = ls at hl ⊢
  have hl : lv_has ls 3 [(0, .ref (a 1)), (1, .int p1)] := hl
  unfold wp_G_addOperator at hw
  refine lv_aload_n hx hb dG_addOperator_0 rfl (lv_at hl 0 rfl) ?_
  refine va_get (D := (dC, dI)) (ci := 1) (v := .int (n 0)) (C := RG) (T := TG) (N := 8) hx hb hts (fun w h => List.mem_cons_of_mem _ (inG w h)) hown hK hP 1 rfl rfl 0 (by decide) (hts (.fieldLink RG 30 "CoverTrees$Grammar" "operatorCount" "I") (List.mem_cons_of_mem _ wt_52)) (fun _ h9 => h9) rfl dG_addOperator_1 ?_
  refine lv_topi (fun x2_1 ex2_1 => ?_)
  have hw := hw x2_1 ex2_1
  refine lv_istore_n (lv' := [(2, .int x2_1), (0, .ref (a 1)), (1, .int p1)]) hx hb dG_addOperator_4 rfl hl (by decide) rfl (fun ls hl => ?_)
  refine lv_aload_n hx hb dG_addOperator_5 rfl (lv_at hl 1 rfl) ?_
  refine va_get (D := (dC, dI)) (ci := 1) (v := .ref (a 3)) (C := RG) (T := TG) (N := 8) hx hb hts (fun w h => List.mem_cons_of_mem _ (inG w h)) hown hK hP 1 rfl rfl 1 (by decide) (hts (.fieldLink RG 9 "CoverTrees$Grammar" "parts" "[I") (List.mem_cons_of_mem _ wt_54)) (fun _ h9 => h9) rfl dG_addOperator_6 ?_
  refine lv_iload_n hx hb dG_addOperator_9 rfl (lv_at hl 0 rfl) ?_
  refine lv_iload_n hx hb dG_addOperator_10 rfl (lv_at hl 2 rfl) ?_
  obtain ⟨hi2, hw⟩ := hw
  refine va_iast hx hb hK hP (hDa _ _) hS 3 0 rfl rfl hi2 dG_addOperator_11 (fun H locs hP _ hS => ?_)
  obtain ⟨f_3, ef_3⟩ : ∃ z : ctF, z = va_up f 3 (upd (f 3) x2_1.toNatClampNeg p1) := ⟨_, rfl⟩
  have hw := hw f_3 ef_3
  have hP : va_P (dC, dI) vcl (ctW a cA n f_3) H := by rw [ef_3]; exact hP
  refine lv_aload_n hx hb dG_addOperator_12 rfl (lv_at hl 1 rfl) ?_
  refine lv_iload_n hx hb dG_addOperator_13 rfl (lv_at hl 0 rfl) ?_
  refine lv_iconst (v := 1) hx hb dG_addOperator_14 (by decide) ?_
  refine lv_iadd hx hb dG_addOperator_15 ?_
  refine va_put (D := (dC, dI)) (ci := 1) (v := .int (x2_1 + 1)) (ty := .int) (C := RG) (T := TG) (N := 8) hx hb hts (fun w h => List.mem_cons_of_mem _ (inG w h)) tyG tyG_ok nmG hown hK hP (hDa _ _) hS 1 rfl rfl 0 (by decide) (hts (.fieldLink RG 30 "CoverTrees$Grammar" "operatorCount" "I") (List.mem_cons_of_mem _ wt_52)) (fun _ h9 => h9) rfl (by decide +kernel) rfl rfl (Nat.le_of_ble_eq_true rfl) dG_addOperator_16 (fun H locs hP _ hS => ?_)
  obtain ⟨n_4, en_4⟩ : ∃ z : ctN, z = va_up n 0 (x2_1 + 1) := ⟨_, rfl⟩
  have hw := hw n_4 en_4
  have hP : va_P (dC, dI) vcl (ctW a cA n_4 f_3) H := by rw [en_4]; exact hP
  refine lv_iload_n hx hb dG_addOperator_19 rfl (lv_at hl 0 rfl) ?_
  exact W.iret (v := x2_1) hx hb hr (fun t ht hW => ⟨⟨x2_1, (n_4, f_3), rfl, hw, ct_mkB ht hP⟩, hS.F ht⟩) hS.2.2 dG_addOperator_20
def wp_G_addRule (post : Int32 → ctN → ctF → Prop) (p1 : Int32) (p2 : Int32) (p3 : Int32) (p4 : Int32) (p5 : Int32) (n : ctN) (f : ctF) : Prop := ∀ x6_1 : Int32, x6_1 = (n 1) → (vp_in x6_1 40 ∧ (∀ f_3 : ctF, f_3 = va_up f 4 (upd (f 4) x6_1.toNatClampNeg p1) → (vp_in x6_1 40 ∧ (∀ f_5 : ctF, f_5 = va_up f_3 5 (upd (f_3 5) x6_1.toNatClampNeg p2) → (vp_in x6_1 40 ∧ (∀ f_7 : ctF, f_7 = va_up f_5 6 (upd (f_5 6) x6_1.toNatClampNeg p3) → (vp_in x6_1 40 ∧ (∀ f_9 : ctF, f_9 = va_up f_7 7 (upd (f_7 7) x6_1.toNatClampNeg p4) → (vp_in x6_1 40 ∧ (∀ f_11 : ctF, f_11 = va_up f_9 8 (upd (f_9 8) x6_1.toNatClampNeg p5) → (∀ n_12 : ctN, n_12 = va_up n 1 (x6_1 + 1) → (post x6_1 n_12 f_11))))))))))))
set_option maxHeartbeats 4000000 in
set_option maxRecDepth 100000 in
theorem met_G_addRule (l : Launch) (dC : Nat → ClassId) (dI : Nat → Nat → Nat) (a : Nat → Nat) (cA : Nat → ClassId) (sa : Nat → Nat) (p1 : Int32) (p2 : Int32) (p3 : Int32) (p4 : Int32) (p5 : Int32) (n : ctN) (f : ctF) (sz : Nat) {post : Int32 → ctN → ctF → Prop} (hw : wp_G_addRule post p1 p2 p3 p4 p5 n f) : Met l yG_addRule wsG_addRule ({ frames := 0, cells := 0, slots := 0, locals := 0 } : Room) (ct_Pc dC dI a cA sa [.ref (a 1), .int p1, .int p2, .int p3, .int p4, .int p5] n f sz) (va_Qi (fun (r : Int32) (u : ctN × ctF) => post r u.1 u.2) (ct_B dC dI a cA) (va_A (ctW a cA n f) sz)) 0 0 (va_A (ctW a cA n f) sz) := by
  refine Met.ofW (cc := cG_addRule) (maxL := 7) (ret := (some .int)) (by decide) rfl ?_
  intro p e s m args below meth c s₁ B hml hv
  obtain ⟨rfl, hsz, hP, hK, hD0, hZ⟩ := hv
  have hx := B.exec
  have hb := B.bytes
  have hr := B.returns
  have hts := atoms_spec (ws := wsG_addRule) B.pre
  have hown : s.vm.findClass RG = some m.cls := findClass_of_methodNamed B.named
  have hlocks := B.notSynchronized
  subst hsz
  have hD := hD0.self (sz := s.heap.size)
  generalize hAe : va_A (ctW a cA n f) s.heap.size = A at hD hZ ⊢
  have hDa : ∀ (n : ctN) (f : ctF), va_D A (ctW a cA n f) := fun _ _ => ct_D hD
  have hA : ∀ q : Nat, s.heap.size ≤ q → A q := fun q h => by rw [← hAe]; exact Or.inr h
  have hS : va_S A s.heap s.heap [] := va_S.rf
  have hl := lv_entry ([.ref (a 1), .int p1, .int p2, .int p3, .int p4, .int p5]) (n := 7) (Nat.le_of_ble_eq_true rfl)
  rw [lg_entry_eq]
  generalize (lg_sl ([.ref (a 1), .int p1, .int p2, .int p3, .int p4, .int p5]) ++ List.replicate (7 - (lg_sl ([.ref (a 1), .int p1, .int p2, .int p3, .int p4, .int p5])).length) Slot.unset).toArray = ls at hl ⊢
  have hl : lv_has ls 7 [(0, .ref (a 1)), (1, .int p1), (2, .int p2), (3, .int p3), (4, .int p4), (5, .int p5)] := hl
  unfold wp_G_addRule at hw
  refine lv_aload_n hx hb dG_addRule_0 rfl (lv_at hl 0 rfl) ?_
  refine va_get (D := (dC, dI)) (ci := 1) (v := .int (n 1)) (C := RG) (T := TG) (N := 8) hx hb hts (fun w h => List.mem_cons_of_mem _ (inG w h)) hown hK hP 1 rfl rfl 2 (by decide) (hts (.fieldLink RG 34 "CoverTrees$Grammar" "ruleCount" "I") (List.mem_cons_of_mem _ wt_58)) (fun _ h9 => h9) rfl dG_addRule_1 ?_
  refine lv_topi (fun x6_1 ex6_1 => ?_)
  have hw := hw x6_1 ex6_1
  refine lv_istore (lv' := [(6, .int x6_1), (0, .ref (a 1)), (1, .int p1), (2, .int p2), (3, .int p3), (4, .int p4), (5, .int p5)]) hx hb dG_addRule_4 hl (by decide) rfl (fun ls hl => ?_)
  refine lv_aload_n hx hb dG_addRule_6 rfl (lv_at hl 1 rfl) ?_
  refine va_get (D := (dC, dI)) (ci := 1) (v := .ref (a 4)) (C := RG) (T := TG) (N := 8) hx hb hts (fun w h => List.mem_cons_of_mem _ (inG w h)) hown hK hP 1 rfl rfl 3 (by decide) (hts (.fieldLink RG 15 "CoverTrees$Grammar" "goal" "[I") (List.mem_cons_of_mem _ wt_60)) (fun _ h9 => h9) rfl dG_addRule_7 ?_
  refine lv_iload hx hb dG_addRule_10 (lv_at hl 0 rfl) ?_
  refine lv_iload_n hx hb dG_addRule_12 rfl (lv_at hl 2 rfl) ?_
  obtain ⟨hi2, hw⟩ := hw
  refine va_iast hx hb hK hP (hDa _ _) hS 4 1 rfl rfl hi2 dG_addRule_13 (fun H locs hP _ hS => ?_)
  obtain ⟨f_3, ef_3⟩ : ∃ z : ctF, z = va_up f 4 (upd (f 4) x6_1.toNatClampNeg p1) := ⟨_, rfl⟩
  have hw := hw f_3 ef_3
  have hP : va_P (dC, dI) vcl (ctW a cA n f_3) H := by rw [ef_3]; exact hP
  refine lv_aload_n hx hb dG_addRule_14 rfl (lv_at hl 1 rfl) ?_
  refine va_get (D := (dC, dI)) (ci := 1) (v := .ref (a 5)) (C := RG) (T := TG) (N := 8) hx hb hts (fun w h => List.mem_cons_of_mem _ (inG w h)) hown hK hP 1 rfl rfl 4 (by decide) (hts (.fieldLink RG 18 "CoverTrees$Grammar" "operator" "[I") (List.mem_cons_of_mem _ wt_62)) (fun _ h9 => h9) rfl dG_addRule_15 ?_
  refine lv_iload hx hb dG_addRule_18 (lv_at hl 0 rfl) ?_
  refine lv_iload_n hx hb dG_addRule_20 rfl (lv_at hl 3 rfl) ?_
  obtain ⟨hi4, hw⟩ := hw
  refine va_iast hx hb hK hP (hDa _ _) hS 5 2 rfl rfl hi4 dG_addRule_21 (fun H locs hP _ hS => ?_)
  obtain ⟨f_5, ef_5⟩ : ∃ z : ctF, z = va_up f_3 5 (upd (f_3 5) x6_1.toNatClampNeg p2) := ⟨_, rfl⟩
  have hw := hw f_5 ef_5
  have hP : va_P (dC, dI) vcl (ctW a cA n f_5) H := by rw [ef_5]; exact hP
  refine lv_aload_n hx hb dG_addRule_22 rfl (lv_at hl 1 rfl) ?_
  refine va_get (D := (dC, dI)) (ci := 1) (v := .ref (a 6)) (C := RG) (T := TG) (N := 8) hx hb hts (fun w h => List.mem_cons_of_mem _ (inG w h)) hown hK hP 1 rfl rfl 5 (by decide) (hts (.fieldLink RG 21 "CoverTrees$Grammar" "one" "[I") (List.mem_cons_of_mem _ wt_64)) (fun _ h9 => h9) rfl dG_addRule_23 ?_
  refine lv_iload hx hb dG_addRule_26 (lv_at hl 0 rfl) ?_
  refine lv_iload_n hx hb dG_addRule_28 rfl (lv_at hl 4 rfl) ?_
  obtain ⟨hi6, hw⟩ := hw
  refine va_iast hx hb hK hP (hDa _ _) hS 6 3 rfl rfl hi6 dG_addRule_29 (fun H locs hP _ hS => ?_)
  obtain ⟨f_7, ef_7⟩ : ∃ z : ctF, z = va_up f_5 6 (upd (f_5 6) x6_1.toNatClampNeg p3) := ⟨_, rfl⟩
  have hw := hw f_7 ef_7
  have hP : va_P (dC, dI) vcl (ctW a cA n f_7) H := by rw [ef_7]; exact hP
  refine lv_aload_n hx hb dG_addRule_30 rfl (lv_at hl 1 rfl) ?_
  refine va_get (D := (dC, dI)) (ci := 1) (v := .ref (a 7)) (C := RG) (T := TG) (N := 8) hx hb hts (fun w h => List.mem_cons_of_mem _ (inG w h)) hown hK hP 1 rfl rfl 6 (by decide) (hts (.fieldLink RG 24 "CoverTrees$Grammar" "two" "[I") (List.mem_cons_of_mem _ wt_66)) (fun _ h9 => h9) rfl dG_addRule_31 ?_
  refine lv_iload hx hb dG_addRule_34 (lv_at hl 0 rfl) ?_
  refine lv_iload hx hb dG_addRule_36 (lv_at hl 5 rfl) ?_
  obtain ⟨hi8, hw⟩ := hw
  refine va_iast hx hb hK hP (hDa _ _) hS 7 4 rfl rfl hi8 dG_addRule_38 (fun H locs hP _ hS => ?_)
  obtain ⟨f_9, ef_9⟩ : ∃ z : ctF, z = va_up f_7 7 (upd (f_7 7) x6_1.toNatClampNeg p4) := ⟨_, rfl⟩
  have hw := hw f_9 ef_9
  have hP : va_P (dC, dI) vcl (ctW a cA n f_9) H := by rw [ef_9]; exact hP
  refine lv_aload_n hx hb dG_addRule_39 rfl (lv_at hl 1 rfl) ?_
  refine va_get (D := (dC, dI)) (ci := 1) (v := .ref (a 8)) (C := RG) (T := TG) (N := 8) hx hb hts (fun w h => List.mem_cons_of_mem _ (inG w h)) hown hK hP 1 rfl rfl 7 (by decide) (hts (.fieldLink RG 27 "CoverTrees$Grammar" "cost" "[I") (List.mem_cons_of_mem _ wt_68)) (fun _ h9 => h9) rfl dG_addRule_40 ?_
  refine lv_iload hx hb dG_addRule_43 (lv_at hl 0 rfl) ?_
  refine lv_iload hx hb dG_addRule_45 (lv_at hl 6 rfl) ?_
  obtain ⟨hi10, hw⟩ := hw
  refine va_iast hx hb hK hP (hDa _ _) hS 8 5 rfl rfl hi10 dG_addRule_47 (fun H locs hP _ hS => ?_)
  obtain ⟨f_11, ef_11⟩ : ∃ z : ctF, z = va_up f_9 8 (upd (f_9 8) x6_1.toNatClampNeg p5) := ⟨_, rfl⟩
  have hw := hw f_11 ef_11
  have hP : va_P (dC, dI) vcl (ctW a cA n f_11) H := by rw [ef_11]; exact hP
  refine lv_aload_n hx hb dG_addRule_48 rfl (lv_at hl 1 rfl) ?_
  refine lv_iload hx hb dG_addRule_49 (lv_at hl 0 rfl) ?_
  refine lv_iconst (v := 1) hx hb dG_addRule_51 (by decide) ?_
  refine lv_iadd hx hb dG_addRule_52 ?_
  refine va_put (D := (dC, dI)) (ci := 1) (v := .int (x6_1 + 1)) (ty := .int) (C := RG) (T := TG) (N := 8) hx hb hts (fun w h => List.mem_cons_of_mem _ (inG w h)) tyG tyG_ok nmG hown hK hP (hDa _ _) hS 1 rfl rfl 2 (by decide) (hts (.fieldLink RG 34 "CoverTrees$Grammar" "ruleCount" "I") (List.mem_cons_of_mem _ wt_58)) (fun _ h9 => h9) rfl (by decide +kernel) rfl rfl (Nat.le_of_ble_eq_true rfl) dG_addRule_53 (fun H locs hP _ hS => ?_)
  obtain ⟨n_12, en_12⟩ : ∃ z : ctN, z = va_up n 1 (x6_1 + 1) := ⟨_, rfl⟩
  have hw := hw n_12 en_12
  have hP : va_P (dC, dI) vcl (ctW a cA n_12 f_11) H := by rw [en_12]; exact hP
  refine lv_iload hx hb dG_addRule_56 (lv_at hl 0 rfl) ?_
  exact W.iret (v := x6_1) hx hb hr (fun t ht hW => ⟨⟨x6_1, (n_12, f_11), rfl, hw, ct_mkB ht hP⟩, hS.F ht⟩) hS.2.2 dG_addRule_58
def wp_G_isChainFrom (post : Int32 → ctN → ctF → Prop) (p1 : Int32) (p2 : Int32) (n : ctN) (f : ctF) : Prop := vp_in p1 40 ∧ ((¬ (f 5 p1.toNatClampNeg) = (-1) → (post 0 n f)) ∧ ((f 5 p1.toNatClampNeg) = (-1) → (vp_in p1 40 ∧ ((¬ (f 6 p1.toNatClampNeg) = p2 → (post 0 n f)) ∧ ((f 6 p1.toNatClampNeg) = p2 → (post 1 n f))))))
set_option maxHeartbeats 4000000 in
set_option maxRecDepth 100000 in
theorem met_G_isChainFrom (l : Launch) (dC : Nat → ClassId) (dI : Nat → Nat → Nat) (a : Nat → Nat) (cA : Nat → ClassId) (sa : Nat → Nat) (p1 : Int32) (p2 : Int32) (n : ctN) (f : ctF) (sz : Nat) {post : Int32 → ctN → ctF → Prop} (hw : wp_G_isChainFrom post p1 p2 n f) : Met l yG_isChainFrom wsG_isChainFrom ({ frames := 0, cells := 0, slots := 0, locals := 0 } : Room) (ct_Pc dC dI a cA sa [.ref (a 1), .int p1, .int p2] n f sz) (va_Qi (fun (r : Int32) (u : ctN × ctF) => post r u.1 u.2) (ct_B dC dI a cA) (va_A (ctW a cA n f) sz)) 0 0 (va_A (ctW a cA n f) sz) := by
  refine Met.ofW (cc := cG_isChainFrom) (maxL := 3) (ret := (some .boolean)) (by decide) rfl ?_
  intro p e s m args below meth c s₁ B hml hv
  obtain ⟨rfl, hsz, hP, hK, hD0, hZ⟩ := hv
  have hx := B.exec
  have hb := B.bytes
  have hr := B.returns
  have hts := atoms_spec (ws := wsG_isChainFrom) B.pre
  have hown : s.vm.findClass RG = some m.cls := findClass_of_methodNamed B.named
  have hlocks := B.notSynchronized
  subst hsz
  have hD := hD0.self (sz := s.heap.size)
  generalize hAe : va_A (ctW a cA n f) s.heap.size = A at hD hZ ⊢
  have hDa : ∀ (n : ctN) (f : ctF), va_D A (ctW a cA n f) := fun _ _ => ct_D hD
  have hA : ∀ q : Nat, s.heap.size ≤ q → A q := fun q h => by rw [← hAe]; exact Or.inr h
  have hS : va_S A s.heap s.heap [] := va_S.rf
  have hl := lv_entry ([.ref (a 1), .int p1, .int p2]) (n := 3) (Nat.le_of_ble_eq_true rfl)
  rw [lg_entry_eq]
  generalize (lg_sl ([.ref (a 1), .int p1, .int p2]) ++ List.replicate (3 - (lg_sl ([.ref (a 1), .int p1, .int p2])).length) Slot.unset).toArray = ls at hl ⊢
  have hl : lv_has ls 3 [(0, .ref (a 1)), (1, .int p1), (2, .int p2)] := hl
  unfold wp_G_isChainFrom at hw
  refine lv_aload_n hx hb dG_isChainFrom_0 rfl (lv_at hl 0 rfl) ?_
  refine va_get (D := (dC, dI)) (ci := 1) (v := .ref (a 5)) (C := RG) (T := TG) (N := 8) hx hb hts (fun w h => List.mem_cons_of_mem _ (inG w h)) hown hK hP 1 rfl rfl 4 (by decide) (hts (.fieldLink RG 18 "CoverTrees$Grammar" "operator" "[I") (List.mem_cons_of_mem _ wt_62)) (fun _ h9 => h9) rfl dG_isChainFrom_1 ?_
  refine lv_iload_n hx hb dG_isChainFrom_4 rfl (lv_at hl 1 rfl) ?_
  obtain ⟨hi1, hw⟩ := hw
  refine va_iald hx hb hK hP 5 2 rfl rfl hi1 dG_isChainFrom_5 ?_
  refine lv_iconst (v := (-1)) hx hb dG_isChainFrom_6 (by decide) ?_
  refine lv_icmp_ne (tgt := 24) hx hb dG_isChainFrom_7 (by decide) (fun c2 => ?_) (fun c2 => ?_)
  · have hw := hw.1 c2
    refine lv_iconst (v := 0) hx hb dG_isChainFrom_24 (by decide) ?_
    exact W.zret (v := 0) hx hb hr rfl (fun t ht hW => ⟨⟨0, (n, f), rfl, hw, ct_mkB ht hP⟩, hS.F ht⟩) hS.2.2 dG_isChainFrom_25
  · have hw := hw.2 c2
    refine lv_aload_n hx hb dG_isChainFrom_10 rfl (lv_at hl 0 rfl) ?_
    refine va_get (D := (dC, dI)) (ci := 1) (v := .ref (a 6)) (C := RG) (T := TG) (N := 8) hx hb hts (fun w h => List.mem_cons_of_mem _ (inG w h)) hown hK hP 1 rfl rfl 5 (by decide) (hts (.fieldLink RG 21 "CoverTrees$Grammar" "one" "[I") (List.mem_cons_of_mem _ wt_64)) (fun _ h9 => h9) rfl dG_isChainFrom_11 ?_
    refine lv_iload_n hx hb dG_isChainFrom_14 rfl (lv_at hl 1 rfl) ?_
    obtain ⟨hi3, hw⟩ := hw
    refine va_iald hx hb hK hP 6 3 rfl rfl hi3 dG_isChainFrom_15 ?_
    refine lv_iload_n hx hb dG_isChainFrom_16 rfl (lv_at hl 2 rfl) ?_
    refine lv_icmp_ne (tgt := 24) hx hb dG_isChainFrom_17 (by decide) (fun c4 => ?_) (fun c4 => ?_)
    · have hw := hw.1 c4
      refine lv_iconst (v := 0) hx hb dG_isChainFrom_24 (by decide) ?_
      exact W.zret (v := 0) hx hb hr rfl (fun t ht hW => ⟨⟨0, (n, f), rfl, hw, ct_mkB ht hP⟩, hS.F ht⟩) hS.2.2 dG_isChainFrom_25
    · have hw := hw.2 c4
      refine lv_iconst (v := 1) hx hb dG_isChainFrom_20 (by decide) ?_
      refine lv_goto (tgt := 25) hx hb dG_isChainFrom_21 (by decide) ?_
      exact W.zret (v := 1) hx hb hr rfl (fun t ht hW => ⟨⟨1, (n, f), rfl, hw, ct_mkB ht hP⟩, hS.F ht⟩) hS.2.2 dG_isChainFrom_25
def wp_F_has (post : Int32 → ctN → ctF → Prop) (p1 : Int32) (n : ctN) (f : ctF) : Prop := (p1 < 0 → (post 0 n f)) ∧ (¬ p1 < 0 → (((n 2) ≤ p1 → (post 0 n f)) ∧ (¬ (n 2) ≤ p1 → (post 1 n f))))
set_option maxHeartbeats 4000000 in
set_option maxRecDepth 100000 in
theorem met_F_has (l : Launch) (dC : Nat → ClassId) (dI : Nat → Nat → Nat) (a : Nat → Nat) (cA : Nat → ClassId) (sa : Nat → Nat) (p1 : Int32) (n : ctN) (f : ctF) (sz : Nat) {post : Int32 → ctN → ctF → Prop} (hw : wp_F_has post p1 n f) : Met l yF_has wsF_has ({ frames := 0, cells := 0, slots := 0, locals := 0 } : Room) (ct_Pc dC dI a cA sa [.ref (a 2), .int p1] n f sz) (va_Qi (fun (r : Int32) (u : ctN × ctF) => post r u.1 u.2) (ct_B dC dI a cA) (va_A (ctW a cA n f) sz)) 0 0 (va_A (ctW a cA n f) sz) := by
  refine Met.ofW (cc := cF_has) (maxL := 2) (ret := (some .boolean)) (by decide) rfl ?_
  intro p e s m args below meth c s₁ B hml hv
  obtain ⟨rfl, hsz, hP, hK, hD0, hZ⟩ := hv
  have hx := B.exec
  have hb := B.bytes
  have hr := B.returns
  have hts := atoms_spec (ws := wsF_has) B.pre
  have hown : s.vm.findClass RF = some m.cls := findClass_of_methodNamed B.named
  have hlocks := B.notSynchronized
  subst hsz
  have hD := hD0.self (sz := s.heap.size)
  generalize hAe : va_A (ctW a cA n f) s.heap.size = A at hD hZ ⊢
  have hDa : ∀ (n : ctN) (f : ctF), va_D A (ctW a cA n f) := fun _ _ => ct_D hD
  have hA : ∀ q : Nat, s.heap.size ≤ q → A q := fun q h => by rw [← hAe]; exact Or.inr h
  have hS : va_S A s.heap s.heap [] := va_S.rf
  have hl := lv_entry ([.ref (a 2), .int p1]) (n := 2) (Nat.le_of_ble_eq_true rfl)
  rw [lg_entry_eq]
  generalize (lg_sl ([.ref (a 2), .int p1]) ++ List.replicate (2 - (lg_sl ([.ref (a 2), .int p1])).length) Slot.unset).toArray = ls at hl ⊢
  have hl : lv_has ls 2 [(0, .ref (a 2)), (1, .int p1)] := hl
  unfold wp_F_has at hw
  refine lv_iload_n hx hb dF_has_0 rfl (lv_at hl 1 rfl) ?_
  refine lv_if_lt (tgt := 16) hx hb dF_has_1 (by decide) (fun c1 => ?_) (fun c1 => ?_)
  · have hw := hw.1 c1
    refine lv_iconst (v := 0) hx hb dF_has_16 (by decide) ?_
    exact W.zret (v := 0) hx hb hr rfl (fun t ht hW => ⟨⟨0, (n, f), rfl, hw, ct_mkB ht hP⟩, hS.F ht⟩) hS.2.2 dF_has_17
  · have hw := hw.2 c1
    refine lv_iload_n hx hb dF_has_4 rfl (lv_at hl 1 rfl) ?_
    refine lv_aload_n hx hb dF_has_5 rfl (lv_at hl 0 rfl) ?_
    refine va_get (D := (dC, dI)) (ci := 2) (v := .int (n 2)) (C := RF) (T := TF) (N := 11) hx hb hts (fun w h => List.mem_cons_of_mem _ (inF w h)) hown hK hP 2 rfl rfl 1 (by decide) (hts (.fieldLink RF 44 "CoverTrees$Forest" "count" "I") (List.mem_cons_of_mem _ wt_96)) (fun _ h9 => h9) rfl dF_has_6 ?_
    refine lv_icmp_ge (tgt := 16) hx hb dF_has_9 (by decide) (fun c2 => ?_) (fun c2 => ?_)
    · have hw := hw.1 c2
      refine lv_iconst (v := 0) hx hb dF_has_16 (by decide) ?_
      exact W.zret (v := 0) hx hb hr rfl (fun t ht hW => ⟨⟨0, (n, f), rfl, hw, ct_mkB ht hP⟩, hS.F ht⟩) hS.2.2 dF_has_17
    · have hw := hw.2 c2
      refine lv_iconst (v := 1) hx hb dF_has_12 (by decide) ?_
      refine lv_goto (tgt := 17) hx hb dF_has_13 (by decide) ?_
      exact W.zret (v := 1) hx hb hr rfl (fun t ht hW => ⟨⟨1, (n, f), rfl, hw, ct_mkB ht hP⟩, hS.F ht⟩) hS.2.2 dF_has_17
def wp_C_checkPlace (post : ctN → ctF → Prop) (xp : String → ctN → ctF → Prop) (p1 : Int32) (p2 : Int32) (n : ctN) (f : ctF) : Prop := wp_F_has (fun (r1 : Int32) (n_2 : ctN) (f_3 : ctF) => (r1 = 0 → (xp "java/lang/IllegalArgumentException" n_2 f_3)) ∧ (¬ r1 = 0 → (wp_C_isGoal (fun (r5 : Int32) (n_6 : ctN) (f_7 : ctF) => (¬ r5 = 0 → (post n_6 f_7)) ∧ (r5 = 0 → (xp "java/lang/IllegalArgumentException" n_6 f_7))) p2 n_2 f_3))) p1 n f
set_option maxHeartbeats 4000000 in
set_option maxRecDepth 100000 in
theorem met0_C_checkPlace (l : Launch) (dC : Nat → ClassId) (dI : Nat → Nat → Nat) (a : Nat → Nat) (cA : Nat → ClassId) (sa : Nat → Nat) (p1 : Int32) (p2 : Int32) (n : ctN) (f : ctF) (sz : Nat) {post : ctN → ctF → Prop} (hw : wp_C_checkPlace post xF p1 p2 n f) : Met l yC_checkPlace wsC_checkPlace ({ frames := 6, cells := 0, slots := 0, locals := 90 } : Room) (ct_Pc dC dI a cA sa [.ref (a 0), .int p1, .int p2] n f sz) (va_Qv (fun (u : ctN × ctF) => post u.1 u.2) (ct_B dC dI a cA) (va_A (ctW a cA n f) sz)) 0 0 (va_A (ctW a cA n f) sz) := by
  refine Met.ofW (cc := cC_checkPlace) (maxL := 3) (ret := none) (by decide) rfl ?_
  intro p e s m args below meth c s₁ B hml hv
  obtain ⟨rfl, hsz, hP, hK, hD0, hZ⟩ := hv
  have hx := B.exec
  have hb := B.bytes
  have hr := B.returns
  have hts := atoms_spec (ws := wsC_checkPlace) B.pre
  have hown : s.vm.findClass RC = some m.cls := findClass_of_methodNamed B.named
  have hlocks := B.notSynchronized
  subst hsz
  have hD := hD0.self (sz := s.heap.size)
  generalize hAe : va_A (ctW a cA n f) s.heap.size = A at hD hZ ⊢
  have hDa : ∀ (n : ctN) (f : ctF), va_D A (ctW a cA n f) := fun _ _ => ct_D hD
  have hA : ∀ q : Nat, s.heap.size ≤ q → A q := fun q h => by rw [← hAe]; exact Or.inr h
  have hS : va_S A s.heap s.heap [] := va_S.rf
  have hl := lv_entry ([.ref (a 0), .int p1, .int p2]) (n := 3) (Nat.le_of_ble_eq_true rfl)
  rw [lg_entry_eq]
  generalize (lg_sl ([.ref (a 0), .int p1, .int p2]) ++ List.replicate (3 - (lg_sl ([.ref (a 0), .int p1, .int p2])).length) Slot.unset).toArray = ls at hl ⊢
  have hl : lv_has ls 3 [(0, .ref (a 0)), (1, .int p1), (2, .int p2)] := hl
  unfold wp_C_checkPlace at hw
  refine lv_aload_n hx hb dC_checkPlace_0 rfl (lv_at hl 0 rfl) ?_
  refine va_get (D := (dC, dI)) (ci := 0) (v := .ref (a 2)) (C := RC) (T := TC) (N := 2) hx hb hts (fun w h => List.mem_cons_of_mem _ (inC w h)) hown hK hP 0 rfl rfl 1 (by decide) (hts (.fieldLink RC 21 "CoverTrees" "forest" "LCoverTrees$Forest;") (List.mem_cons_of_mem _ wt_135)) (fun _ h9 => h9) rfl dC_checkPlace_1 ?_
  refine lv_iload_n hx hb dC_checkPlace_4 rfl (lv_at hl 1 rfl) ?_
  refine ct_i (va_runV (As := [.int p1]) (rest := []) ⟨hx, hb, hml, hown, hts⟩ (met_F_has l dC dI a cA sa p1 n f _ hw) (cwV 1 hts (wb_V wt_300 wt_301 wt_302 wt_29 wt_303) rfl rfl rfl (by decide +kernel) ⟨Nat.le_of_ble_eq_true rfl, Nat.le_of_ble_eq_true rfl⟩) (ct_preV hK hP (hDa _ _) hZ hS hA (va_recv hK hP (ci := 2) (q0 := 2) rfl rfl)) rfl rfl hl.1 rfl (lv_room (Nat.le_of_ble_eq_true rfl)) dC_checkPlace_5 ⟨Nat.le_of_ble_eq_true rfl, Nat.le_of_ble_eq_true rfl⟩) (hDa _ _) hS hA (fun r1 n_2 f_3 H locs hw hP hS => ?_)
  refine lv_if_eq (tgt := 18) hx hb dC_checkPlace_8 (by decide) (fun c4 => ?_) (fun c4 => ?_)
  · have hw := hw.1 c4
    exact False.elim hw
  · have hw := hw.2 c4
    refine lv_iload_n hx hb dC_checkPlace_11 rfl (lv_at hl 2 rfl) ?_
    refine ct_i (va_runS (As := [.int p2]) (rest := []) ⟨hx, hb, hml, hown, hts⟩ (met_C_isGoal l dC dI a cA sa p2 n_2 f_3 _ hw) (cwS 1 hts (wb_S wt_261 wt_262 wt_27 wt_263) rfl rfl rfl (by decide +kernel) ⟨Nat.le_of_ble_eq_true rfl, Nat.le_of_ble_eq_true rfl⟩) (ct_pre hK hP (hDa _ _) hZ hS hA) rfl rfl hl.1 rfl (lv_room (Nat.le_of_ble_eq_true rfl)) dC_checkPlace_12 ⟨Nat.le_of_ble_eq_true rfl, Nat.le_of_ble_eq_true rfl⟩) (hDa _ _) hS hA (fun r5 n_6 f_7 H locs hw hP hS => ?_)
    refine lv_if_ne (tgt := 28) hx hb dC_checkPlace_15 (by decide) (fun c8 => ?_) (fun c8 => ?_)
    · have hw := hw.1 c8
      exact W.vret hx hb hr (fun t ht hW => ⟨⟨(n_6, f_7), rfl, hw, ct_mkB ht hP⟩, hS.F ht⟩) hS.2.2 dC_checkPlace_28
    · have hw := hw.2 c8
      exact False.elim hw
set_option maxHeartbeats 4000000 in
set_option maxRecDepth 100000 in
theorem metx_C_checkPlace (l : Launch) (hl9 : l.stackTraces = false) (dC : Nat → ClassId) (dI : Nat → Nat → Nat) (a : Nat → Nat) (cA : Nat → ClassId) (sa : Nat → Nat) (p1 : Int32) (p2 : Int32) (n : ctN) (f : ctF) (sz : Nat) {xp : String → ctN → ctF → Prop} (hw : wp_C_checkPlace pFv xp p1 p2 n f) : vx_Met l yC_checkPlace wsC_checkPlace ({ frames := 6, cells := 1, slots := 6, locals := 90 } : Room) (ct_Pc dC dI a cA sa [.ref (a 0), .int p1, .int p2] n f sz) (va_Qv (fun (u : ctN × ctF) => pFv u.1 u.2) (ct_B dC dI a cA) (va_A (ctW a cA n f) sz)) (vx_X (fun (_ : ctN × ctF) => True) (fun E u t => xp E u.1 u.2 ∧ ct_B dC dI a cA u t) (va_A (ctW a cA n f) sz)) 1 6 (va_A (ctW a cA n f) sz) := by
  refine vx_ofW (cc := cC_checkPlace) (maxL := 3) (ret := none) (by decide) rfl ?_
  intro p e s m args below meth c s₁ B hml htb hv
  obtain ⟨rfl, hsz, hP, hK, hD0, hZ⟩ := hv
  have hx := B.exec
  have hb := B.bytes
  have hr := B.returns
  have hts := atoms_spec (ws := wsC_checkPlace) B.pre
  have hown : s.vm.findClass RC = some m.cls := findClass_of_methodNamed B.named
  have hlocks := B.notSynchronized
  subst hsz
  have hD := hD0.self (sz := s.heap.size)
  generalize hAe : va_A (ctW a cA n f) s.heap.size = A at hD hZ ⊢
  have hDa : ∀ (n : ctN) (f : ctF), va_D A (ctW a cA n f) := fun _ _ => ct_D hD
  have hA : ∀ q : Nat, s.heap.size ≤ q → A q := fun q h => by rw [← hAe]; exact Or.inr h
  have hS : va_S A s.heap s.heap [] := va_S.rf
  have hl := lv_entry ([.ref (a 0), .int p1, .int p2]) (n := 3) (Nat.le_of_ble_eq_true rfl)
  rw [lg_entry_eq]
  generalize (lg_sl ([.ref (a 0), .int p1, .int p2]) ++ List.replicate (3 - (lg_sl ([.ref (a 0), .int p1, .int p2])).length) Slot.unset).toArray = ls at hl ⊢
  have hl : lv_has ls 3 [(0, .ref (a 0)), (1, .int p1), (2, .int p2)] := hl
  unfold wp_C_checkPlace at hw
  refine lv_aload_n hx hb dC_checkPlace_0 rfl (lv_at hl 0 rfl) ?_
  refine va_get (D := (dC, dI)) (ci := 0) (v := .ref (a 2)) (C := RC) (T := TC) (N := 2) hx hb hts (fun w h => List.mem_cons_of_mem _ (inC w h)) hown hK hP 0 rfl rfl 1 (by decide) (hts (.fieldLink RC 21 "CoverTrees" "forest" "LCoverTrees$Forest;") (List.mem_cons_of_mem _ wt_135)) (fun _ h9 => h9) rfl dC_checkPlace_1 ?_
  refine lv_iload_n hx hb dC_checkPlace_4 rfl (lv_at hl 1 rfl) ?_
  refine ct_i (va_runV (As := [.int p1]) (rest := []) ⟨hx, hb, hml, hown, hts⟩ (met_F_has l dC dI a cA sa p1 n f _ hw) (cwV 1 hts (wb_V wt_300 wt_301 wt_302 wt_29 wt_303) rfl rfl rfl (by decide +kernel) ⟨Nat.le_of_ble_eq_true rfl, Nat.le_of_ble_eq_true rfl⟩) (ct_preV hK hP (hDa _ _) hZ hS hA (va_recv hK hP (ci := 2) (q0 := 2) rfl rfl)) rfl rfl hl.1 rfl (lv_room (Nat.le_of_ble_eq_true rfl)) dC_checkPlace_5 ⟨Nat.le_of_ble_eq_true rfl, Nat.le_of_ble_eq_true rfl⟩) (hDa _ _) hS hA (fun r1 n_2 f_3 H locs hw hP hS => ?_)
  refine lv_if_eq (tgt := 18) hx hb dC_checkPlace_8 (by decide) (fun c4 => ?_) (fun c4 => ?_)
  · have hw := hw.1 c4
    exact vx_throwS (own := RC) (cls := "java/lang/IllegalArgumentException") (text := "no such node or goal") (names := ["java/lang/RuntimeException", "java/lang/Exception"]) (ik := 35) (is := 141) (ic := 39) (sa := sa 12) hx hb hl9 hown (by decide +kernel) (by decide +kernel) (hts (.classLink RC 35 "java/lang/IllegalArgumentException") (List.mem_cons_of_mem _ wt_166)) (hts (.initialized "java/lang/IllegalArgumentException") (List.mem_cons_of_mem _ wt_34)) hZ.2.2.2.2.2.2.2.2.2.2.2.2.2.2.2.2.2.2.2.1 (vx_hat (L := vx_atS RC 39 "java/lang/IllegalArgumentException" ["java/lang/RuntimeException", "java/lang/Exception"]) (B := [.castable "java/lang/IllegalArgumentException" "java/lang/IllegalArgumentException", .declares ⟨"java/lang/RuntimeException", "<init>", "(Ljava/lang/String;)V"⟩, .declares ⟨"java/lang/Exception", "<init>", "(Ljava/lang/String;)V"⟩, .declares ⟨"java/lang/Throwable", "<init>", "(Ljava/lang/String;)V"⟩]) (fun w hw => hts w (List.mem_cons_of_mem _ (at_C_39 w hw))) bd_C_39 (vx_c (va_Nw.use rfl hZ.2.1) (vx_c (va_Nw.use rfl hZ.2.2.2.2.1) (vx_c (va_Nw.use rfl hZ.2.2.2.2.2.1) (vx_c (va_Nw.use rfl hZ.2.2.2.2.2.2.1) (vx_n)))))) gd_C_39 hZ.2.2.2.2.2.2.2.2.2.2.2.2.2.2.2.2.2.2.2.2.2.2.2.1 hZ.2.2.2.2.2.2.2.2.2.2.2.2.2.2.2.2.2.2.2.2.2.2.2.2 hS (hl.1.trans hml.symm) dC_checkPlace_18 dC_checkPlace_21 dC_checkPlace_22 dC_checkPlace_24 dC_checkPlace_27 (fun x h => (htb x h).elim) (Nat.le_of_ble_eq_true rfl) (Nat.le_of_ble_eq_true rfl) (Nat.le_of_ble_eq_true rfl) (Nat.le_of_ble_eq_true rfl) hlocks (fun t _ h1 h2 => ⟨(n_2, f_3), trivial, ⟨hw, (ct_thr hP hS h1 h2).1⟩, (ct_thr hP hS h1 h2).2⟩) hS.2.2 (Nat.le_of_ble_eq_true rfl) (Nat.le_of_ble_eq_true rfl)
  · have hw := hw.2 c4
    refine lv_iload_n hx hb dC_checkPlace_11 rfl (lv_at hl 2 rfl) ?_
    refine ct_i (va_runS (As := [.int p2]) (rest := []) ⟨hx, hb, hml, hown, hts⟩ (met_C_isGoal l dC dI a cA sa p2 n_2 f_3 _ hw) (cwS 1 hts (wb_S wt_261 wt_262 wt_27 wt_263) rfl rfl rfl (by decide +kernel) ⟨Nat.le_of_ble_eq_true rfl, Nat.le_of_ble_eq_true rfl⟩) (ct_pre hK hP (hDa _ _) hZ hS hA) rfl rfl hl.1 rfl (lv_room (Nat.le_of_ble_eq_true rfl)) dC_checkPlace_12 ⟨Nat.le_of_ble_eq_true rfl, Nat.le_of_ble_eq_true rfl⟩) (hDa _ _) hS hA (fun r5 n_6 f_7 H locs hw hP hS => ?_)
    refine lv_if_ne (tgt := 28) hx hb dC_checkPlace_15 (by decide) (fun c8 => ?_) (fun c8 => ?_)
    · have hw := hw.1 c8
      exact False.elim hw
    · have hw := hw.2 c8
      exact vx_throwS (own := RC) (cls := "java/lang/IllegalArgumentException") (text := "no such node or goal") (names := ["java/lang/RuntimeException", "java/lang/Exception"]) (ik := 35) (is := 141) (ic := 39) (sa := sa 12) hx hb hl9 hown (by decide +kernel) (by decide +kernel) (hts (.classLink RC 35 "java/lang/IllegalArgumentException") (List.mem_cons_of_mem _ wt_166)) (hts (.initialized "java/lang/IllegalArgumentException") (List.mem_cons_of_mem _ wt_34)) hZ.2.2.2.2.2.2.2.2.2.2.2.2.2.2.2.2.2.2.2.1 (vx_hat (L := vx_atS RC 39 "java/lang/IllegalArgumentException" ["java/lang/RuntimeException", "java/lang/Exception"]) (B := [.castable "java/lang/IllegalArgumentException" "java/lang/IllegalArgumentException", .declares ⟨"java/lang/RuntimeException", "<init>", "(Ljava/lang/String;)V"⟩, .declares ⟨"java/lang/Exception", "<init>", "(Ljava/lang/String;)V"⟩, .declares ⟨"java/lang/Throwable", "<init>", "(Ljava/lang/String;)V"⟩]) (fun w hw => hts w (List.mem_cons_of_mem _ (at_C_39 w hw))) bd_C_39 (vx_c (va_Nw.use rfl hZ.2.1) (vx_c (va_Nw.use rfl hZ.2.2.2.2.1) (vx_c (va_Nw.use rfl hZ.2.2.2.2.2.1) (vx_c (va_Nw.use rfl hZ.2.2.2.2.2.2.1) (vx_n)))))) gd_C_39 hZ.2.2.2.2.2.2.2.2.2.2.2.2.2.2.2.2.2.2.2.2.2.2.2.1 hZ.2.2.2.2.2.2.2.2.2.2.2.2.2.2.2.2.2.2.2.2.2.2.2.2 hS (hl.1.trans hml.symm) dC_checkPlace_18 dC_checkPlace_21 dC_checkPlace_22 dC_checkPlace_24 dC_checkPlace_27 (fun x h => (htb x h).elim) (Nat.le_of_ble_eq_true rfl) (Nat.le_of_ble_eq_true rfl) (Nat.le_of_ble_eq_true rfl) (Nat.le_of_ble_eq_true rfl) hlocks (fun t _ h1 h2 => ⟨(n_6, f_7), trivial, ⟨hw, (ct_thr hP hS h1 h2).1⟩, (ct_thr hP hS h1 h2).2⟩) hS.2.2 (Nat.le_of_ble_eq_true rfl) (Nat.le_of_ble_eq_true rfl)
def wp_C_coverSize (post : Int32 → ctN → ctF → Prop) (xp : String → ctN → ctF → Prop) (p1 : Int32) (p2 : Int32) (n : ctN) (f : ctF) : Prop := wp_C_place (fun (r1 : Int32) (n_2 : ctN) (f_3 : ctF) => vp_in r1 960 ∧ (∀ x3_5 : Int32, x3_5 = (f_3 16 r1.toNatClampNeg) → ((x3_5 ≤ 2000 → (post x3_5 n_2 f_3)) ∧ (¬ x3_5 ≤ 2000 → (xp "java/lang/UnsupportedOperationException" n_2 f_3))))) p1 p2 n f
set_option maxHeartbeats 4000000 in
set_option maxRecDepth 100000 in
theorem met0_C_coverSize (l : Launch) (dC : Nat → ClassId) (dI : Nat → Nat → Nat) (a : Nat → Nat) (cA : Nat → ClassId) (sa : Nat → Nat) (p1 : Int32) (p2 : Int32) (n : ctN) (f : ctF) (sz : Nat) {post : Int32 → ctN → ctF → Prop} (hw : wp_C_coverSize post xF p1 p2 n f) : Met l yC_coverSize wsC_coverSize ({ frames := 6, cells := 0, slots := 0, locals := 90 } : Room) (ct_Pc dC dI a cA sa [.ref (a 0), .int p1, .int p2] n f sz) (va_Qi (fun (r : Int32) (u : ctN × ctF) => post r u.1 u.2) (ct_B dC dI a cA) (va_A (ctW a cA n f) sz)) 0 0 (va_A (ctW a cA n f) sz) := by
  refine Met.ofW (cc := cC_coverSize) (maxL := 4) (ret := (some .int)) (by decide) rfl ?_
  intro p e s m args below meth c s₁ B hml hv
  obtain ⟨rfl, hsz, hP, hK, hD0, hZ⟩ := hv
  have hx := B.exec
  have hb := B.bytes
  have hr := B.returns
  have hts := atoms_spec (ws := wsC_coverSize) B.pre
  have hown : s.vm.findClass RC = some m.cls := findClass_of_methodNamed B.named
  have hlocks := B.notSynchronized
  subst hsz
  have hD := hD0.self (sz := s.heap.size)
  generalize hAe : va_A (ctW a cA n f) s.heap.size = A at hD hZ ⊢
  have hDa : ∀ (n : ctN) (f : ctF), va_D A (ctW a cA n f) := fun _ _ => ct_D hD
  have hA : ∀ q : Nat, s.heap.size ≤ q → A q := fun q h => by rw [← hAe]; exact Or.inr h
  have hS : va_S A s.heap s.heap [] := va_S.rf
  have hl := lv_entry ([.ref (a 0), .int p1, .int p2]) (n := 4) (Nat.le_of_ble_eq_true rfl)
  rw [lg_entry_eq]
  generalize (lg_sl ([.ref (a 0), .int p1, .int p2]) ++ List.replicate (4 - (lg_sl ([.ref (a 0), .int p1, .int p2])).length) Slot.unset).toArray = ls at hl ⊢
  have hl : lv_has ls 4 [(0, .ref (a 0)), (1, .int p1), (2, .int p2)] := hl
  unfold wp_C_coverSize at hw
  refine lv_aload_n hx hb dC_coverSize_0 rfl (lv_at hl 0 rfl) ?_
  refine va_get (D := (dC, dI)) (ci := 0) (v := .ref (a 2)) (C := RC) (T := TC) (N := 2) hx hb hts (fun w h => List.mem_cons_of_mem _ (inC w h)) hown hK hP 0 rfl rfl 1 (by decide) (hts (.fieldLink RC 21 "CoverTrees" "forest" "LCoverTrees$Forest;") (List.mem_cons_of_mem _ wt_135)) (fun _ h9 => h9) rfl dC_coverSize_1 ?_
  refine va_get (D := (dC, dI)) (ci := 2) (v := .ref (a 16)) (C := RF) (T := TF) (N := 11) hx hb hts (fun w h => List.mem_cons_of_mem _ (inF w h)) hown hK hP 2 rfl rfl 9 (by decide) (hts (.fieldLink RC 143 "CoverTrees$Forest" "size" "[I") (List.mem_cons_of_mem _ wt_108)) (fun _ h9 => h9) rfl dC_coverSize_4 ?_
  refine lv_iload_n hx hb dC_coverSize_7 rfl (lv_at hl 1 rfl) ?_
  refine lv_iload_n hx hb dC_coverSize_8 rfl (lv_at hl 2 rfl) ?_
  refine ct_i (va_runS (As := [.int p1, .int p2]) (rest := [.ref (a 16)]) ⟨hx, hb, hml, hown, hts⟩ (met_C_place l dC dI a cA sa p1 p2 n f _ hw) (cwS 2 hts (wb_S wt_382 wt_315 wt_27 wt_316) rfl rfl rfl (by decide +kernel) ⟨Nat.le_of_ble_eq_true rfl, Nat.le_of_ble_eq_true rfl⟩) (ct_pre hK hP (hDa _ _) hZ hS hA) rfl rfl hl.1 rfl (lv_room (Nat.le_of_ble_eq_true rfl)) dC_coverSize_9 ⟨Nat.le_of_ble_eq_true rfl, Nat.le_of_ble_eq_true rfl⟩) (hDa _ _) hS hA (fun r1 n_2 f_3 H locs hw hP hS => ?_)
  obtain ⟨hi4, hw⟩ := hw
  refine va_iald hx hb hK hP 16 13 rfl rfl hi4 dC_coverSize_12 ?_
  refine lv_topi (fun x3_5 ex3_5 => ?_)
  have hw := hw x3_5 ex3_5
  refine lv_istore_n (lv' := [(3, .int x3_5), (0, .ref (a 0)), (1, .int p1), (2, .int p2)]) hx hb dC_coverSize_13 rfl hl (by decide) rfl (fun ls hl => ?_)
  refine lv_iload_n hx hb dC_coverSize_14 rfl (lv_at hl 0 rfl) ?_
  refine lv_sipush (v := 2000) hx hb dC_coverSize_15 (by decide) ?_
  refine lv_icmp_le (tgt := 31) hx hb dC_coverSize_18 (by decide) (fun c6 => ?_) (fun c6 => ?_)
  · have hw := hw.1 c6
    refine lv_iload_n hx hb dC_coverSize_31 rfl (lv_at hl 0 rfl) ?_
    exact W.iret (v := x3_5) hx hb hr (fun t ht hW => ⟨⟨x3_5, (n_2, f_3), rfl, hw, ct_mkB ht hP⟩, hS.F ht⟩) hS.2.2 dC_coverSize_32
  · have hw := hw.2 c6
    exact False.elim hw
set_option maxHeartbeats 4000000 in
set_option maxRecDepth 100000 in
theorem metx_C_coverSize (l : Launch) (hl9 : l.stackTraces = false) (dC : Nat → ClassId) (dI : Nat → Nat → Nat) (a : Nat → Nat) (cA : Nat → ClassId) (sa : Nat → Nat) (p1 : Int32) (p2 : Int32) (n : ctN) (f : ctF) (sz : Nat) {xp : String → ctN → ctF → Prop} (hw : wp_C_coverSize pFi xp p1 p2 n f) : vx_Met l yC_coverSize wsC_coverSize ({ frames := 6, cells := 1, slots := 6, locals := 90 } : Room) (ct_Pc dC dI a cA sa [.ref (a 0), .int p1, .int p2] n f sz) (va_Qi (fun (r : Int32) (u : ctN × ctF) => pFi r u.1 u.2) (ct_B dC dI a cA) (va_A (ctW a cA n f) sz)) (vx_X (fun (_ : ctN × ctF) => True) (fun E u t => xp E u.1 u.2 ∧ ct_B dC dI a cA u t) (va_A (ctW a cA n f) sz)) 1 6 (va_A (ctW a cA n f) sz) := by
  refine vx_ofW (cc := cC_coverSize) (maxL := 4) (ret := (some .int)) (by decide) rfl ?_
  intro p e s m args below meth c s₁ B hml htb hv
  obtain ⟨rfl, hsz, hP, hK, hD0, hZ⟩ := hv
  have hx := B.exec
  have hb := B.bytes
  have hr := B.returns
  have hts := atoms_spec (ws := wsC_coverSize) B.pre
  have hown : s.vm.findClass RC = some m.cls := findClass_of_methodNamed B.named
  have hlocks := B.notSynchronized
  subst hsz
  have hD := hD0.self (sz := s.heap.size)
  generalize hAe : va_A (ctW a cA n f) s.heap.size = A at hD hZ ⊢
  have hDa : ∀ (n : ctN) (f : ctF), va_D A (ctW a cA n f) := fun _ _ => ct_D hD
  have hA : ∀ q : Nat, s.heap.size ≤ q → A q := fun q h => by rw [← hAe]; exact Or.inr h
  have hS : va_S A s.heap s.heap [] := va_S.rf
  have hl := lv_entry ([.ref (a 0), .int p1, .int p2]) (n := 4) (Nat.le_of_ble_eq_true rfl)
  rw [lg_entry_eq]
  generalize (lg_sl ([.ref (a 0), .int p1, .int p2]) ++ List.replicate (4 - (lg_sl ([.ref (a 0), .int p1, .int p2])).length) Slot.unset).toArray = ls at hl ⊢
  have hl : lv_has ls 4 [(0, .ref (a 0)), (1, .int p1), (2, .int p2)] := hl
  unfold wp_C_coverSize at hw
  refine lv_aload_n hx hb dC_coverSize_0 rfl (lv_at hl 0 rfl) ?_
  refine va_get (D := (dC, dI)) (ci := 0) (v := .ref (a 2)) (C := RC) (T := TC) (N := 2) hx hb hts (fun w h => List.mem_cons_of_mem _ (inC w h)) hown hK hP 0 rfl rfl 1 (by decide) (hts (.fieldLink RC 21 "CoverTrees" "forest" "LCoverTrees$Forest;") (List.mem_cons_of_mem _ wt_135)) (fun _ h9 => h9) rfl dC_coverSize_1 ?_
  refine va_get (D := (dC, dI)) (ci := 2) (v := .ref (a 16)) (C := RF) (T := TF) (N := 11) hx hb hts (fun w h => List.mem_cons_of_mem _ (inF w h)) hown hK hP 2 rfl rfl 9 (by decide) (hts (.fieldLink RC 143 "CoverTrees$Forest" "size" "[I") (List.mem_cons_of_mem _ wt_108)) (fun _ h9 => h9) rfl dC_coverSize_4 ?_
  refine lv_iload_n hx hb dC_coverSize_7 rfl (lv_at hl 1 rfl) ?_
  refine lv_iload_n hx hb dC_coverSize_8 rfl (lv_at hl 2 rfl) ?_
  refine ct_i (va_runS (As := [.int p1, .int p2]) (rest := [.ref (a 16)]) ⟨hx, hb, hml, hown, hts⟩ (met_C_place l dC dI a cA sa p1 p2 n f _ hw) (cwS 2 hts (wb_S wt_382 wt_315 wt_27 wt_316) rfl rfl rfl (by decide +kernel) ⟨Nat.le_of_ble_eq_true rfl, Nat.le_of_ble_eq_true rfl⟩) (ct_pre hK hP (hDa _ _) hZ hS hA) rfl rfl hl.1 rfl (lv_room (Nat.le_of_ble_eq_true rfl)) dC_coverSize_9 ⟨Nat.le_of_ble_eq_true rfl, Nat.le_of_ble_eq_true rfl⟩) (hDa _ _) hS hA (fun r1 n_2 f_3 H locs hw hP hS => ?_)
  obtain ⟨hi4, hw⟩ := hw
  refine va_iald hx hb hK hP 16 13 rfl rfl hi4 dC_coverSize_12 ?_
  refine lv_topi (fun x3_5 ex3_5 => ?_)
  have hw := hw x3_5 ex3_5
  refine lv_istore_n (lv' := [(3, .int x3_5), (0, .ref (a 0)), (1, .int p1), (2, .int p2)]) hx hb dC_coverSize_13 rfl hl (by decide) rfl (fun ls hl => ?_)
  refine lv_iload_n hx hb dC_coverSize_14 rfl (lv_at hl 0 rfl) ?_
  refine lv_sipush (v := 2000) hx hb dC_coverSize_15 (by decide) ?_
  refine lv_icmp_le (tgt := 31) hx hb dC_coverSize_18 (by decide) (fun c6 => ?_) (fun c6 => ?_)
  · have hw := hw.1 c6
    refine lv_iload_n hx hb dC_coverSize_31 rfl (lv_at hl 0 rfl) ?_
    exact False.elim hw
  · have hw := hw.2 c6
    exact vx_throwS (own := RC) (cls := "java/lang/UnsupportedOperationException") (text := "the cover has more than 2000 rules") (names := ["java/lang/RuntimeException", "java/lang/Exception"]) (ik := 42) (is := 146) (ic := 46) (sa := sa 13) hx hb hl9 hown (by decide +kernel) (by decide +kernel) (hts (.classLink RC 42 "java/lang/UnsupportedOperationException") (List.mem_cons_of_mem _ wt_234)) (hts (.initialized "java/lang/UnsupportedOperationException") (List.mem_cons_of_mem _ wt_35)) hZ.2.2.2.2.2.2.2.2.2.2.2.2.2.2.2.2.2.2.2.2.1 (vx_hat (L := vx_atS RC 46 "java/lang/UnsupportedOperationException" ["java/lang/RuntimeException", "java/lang/Exception"]) (B := [.castable "java/lang/UnsupportedOperationException" "java/lang/UnsupportedOperationException", .declares ⟨"java/lang/RuntimeException", "<init>", "(Ljava/lang/String;)V"⟩, .declares ⟨"java/lang/Exception", "<init>", "(Ljava/lang/String;)V"⟩, .declares ⟨"java/lang/Throwable", "<init>", "(Ljava/lang/String;)V"⟩]) (fun w hw => hts w (List.mem_cons_of_mem _ (at_C_46 w hw))) bd_C_46 (vx_c (va_Nw.use rfl hZ.2.2.1) (vx_c (va_Nw.use rfl hZ.2.2.2.2.1) (vx_c (va_Nw.use rfl hZ.2.2.2.2.2.1) (vx_c (va_Nw.use rfl hZ.2.2.2.2.2.2.1) (vx_n)))))) gd_C_46 hZ.2.2.2.2.2.2.2.2.2.2.2.2.2.2.2.2.2.2.2.2.2.2.2.1 hZ.2.2.2.2.2.2.2.2.2.2.2.2.2.2.2.2.2.2.2.2.2.2.2.2 hS (hl.1.trans hml.symm) dC_coverSize_21 dC_coverSize_24 dC_coverSize_25 dC_coverSize_27 dC_coverSize_30 (fun x h => (htb x h).elim) (Nat.le_of_ble_eq_true rfl) (Nat.le_of_ble_eq_true rfl) (Nat.le_of_ble_eq_true rfl) (Nat.le_of_ble_eq_true rfl) hlocks (fun t _ h1 h2 => ⟨(n_2, f_3), trivial, ⟨hw, (ct_thr hP hS h1 h2).1⟩, (ct_thr hP hS h1 h2).2⟩) hS.2.2 (Nat.le_of_ble_eq_true rfl) (Nat.le_of_ble_eq_true rfl)
end
section
def wp_F_draftIsTooDear_L2 (post : Int32 → ctN → ctF → Prop) : Nat → Int32 → ctN → ctF → Prop
  | 0, _, _, _ => False
  | k + 1, x1, n, f => (8 ≤ x1 → (post 0 n f)) ∧ (¬ 8 ≤ x1 → (wp_C_place (fun (r2 : Int32) (n_3 : ctN) (f_4 : ctF) => vp_in r2 960 ∧ (((f_4 14 r2.toNatClampNeg) ≤ 1000000 → (∀ x1_7 : Int32, x1_7 = x1 + 1 → (wp_F_draftIsTooDear_L2 post k x1_7 n_3 f_4))) ∧ (¬ (f_4 14 r2.toNatClampNeg) ≤ 1000000 → (post 1 n_3 f_4)))) (n 2) x1 n f))
def wp_F_draftIsTooDear (post : Int32 → ctN → ctF → Prop) (n : ctN) (f : ctF) : Prop := ∃ k, wp_F_draftIsTooDear_L2 post k 0 n f
set_option maxHeartbeats 4000000 in
set_option maxRecDepth 100000 in
theorem met_F_draftIsTooDear (l : Launch) (dC : Nat → ClassId) (dI : Nat → Nat → Nat) (a : Nat → Nat) (cA : Nat → ClassId) (sa : Nat → Nat) (n : ctN) (f : ctF) (sz : Nat) {post : Int32 → ctN → ctF → Prop} (hw : wp_F_draftIsTooDear post n f) : Met l yF_draftIsTooDear wsF_draftIsTooDear ({ frames := 1, cells := 0, slots := 0, locals := 21 } : Room) (ct_Pc dC dI a cA sa [.ref (a 2)] n f sz) (va_Qi (fun (r : Int32) (u : ctN × ctF) => post r u.1 u.2) (ct_B dC dI a cA) (va_A (ctW a cA n f) sz)) 0 0 (va_A (ctW a cA n f) sz) := by
  refine Met.ofW (cc := cF_draftIsTooDear) (maxL := 2) (ret := (some .boolean)) (by decide) rfl ?_
  intro p e s m args below meth c s₁ B hml hv
  obtain ⟨rfl, hsz, hP, hK, hD0, hZ⟩ := hv
  have hx := B.exec
  have hb := B.bytes
  have hr := B.returns
  have hts := atoms_spec (ws := wsF_draftIsTooDear) B.pre
  have hown : s.vm.findClass RF = some m.cls := findClass_of_methodNamed B.named
  have hlocks := B.notSynchronized
  subst hsz
  have hD := hD0.self (sz := s.heap.size)
  generalize hAe : va_A (ctW a cA n f) s.heap.size = A at hD hZ ⊢
  have hDa : ∀ (n : ctN) (f : ctF), va_D A (ctW a cA n f) := fun _ _ => ct_D hD
  have hA : ∀ q : Nat, s.heap.size ≤ q → A q := fun q h => by rw [← hAe]; exact Or.inr h
  have hS : va_S A s.heap s.heap [] := va_S.rf
  have hl := lv_entry ([.ref (a 2)]) (n := 2) (Nat.le_of_ble_eq_true rfl)
  rw [lg_entry_eq]
  generalize (lg_sl ([.ref (a 2)]) ++ List.replicate (2 - (lg_sl ([.ref (a 2)])).length) Slot.unset).toArray = ls at hl ⊢
  have hl : lv_has ls 2 [(0, .ref (a 2))] := hl
  unfold wp_F_draftIsTooDear at hw
  have loop_2 : ∀ (k : Nat) (x1 : Int32) (n : ctN) (f : ctF) (H : Heap) (locs : List Loc) (ls : Array Slot), wp_F_draftIsTooDear_L2 post k x1 n f → va_P (dC, dI) vcl (ctW a cA n f) H → va_S A s.heap H locs → lv_has ls 2 [(0, .ref (a 2)), (1, .int x1)] → W p l e (headSpec wsF_draftIsTooDear ({ frames := 1, cells := 0, slots := 0, locals := 21 } : Room)).room s m (([.ref (a 2)] : List Value).toArray) below meth c H locs 0 0 (MQ below (va_Qi (fun (r : Int32) (u : ctN × ctF) => post r u.1 u.2) (ct_B dC dI a cA) A) (([.ref (a 2)] : List Value).toArray) s 0 0 A) (F0 m 2 ls []) := by
    intro k
    induction k with
    | zero => intro x1 n f H locs ls hw; exact hw.elim
    | succ k ih =>
      intro x1 n f H locs ls hw hP hS hl
      rw [wp_F_draftIsTooDear_L2] at hw
      refine lv_iload_n hx hb dF_draftIsTooDear_2 rfl (lv_at hl 1 rfl) ?_
      refine lv_bipush (v := 8) hx hb dF_draftIsTooDear_3 (by decide) ?_
      refine lv_icmp_ge (tgt := 34) hx hb dF_draftIsTooDear_5 (by decide) (fun c1 => ?_) (fun c1 => ?_)
      · have hw := hw.1 c1
        refine lv_iconst (v := 0) hx hb dF_draftIsTooDear_34 (by decide) ?_
        exact W.zret (v := 0) hx hb hr rfl (fun t ht hW => ⟨⟨0, (n, f), rfl, hw, ct_mkB ht hP⟩, hS.F ht⟩) hS.2.2 dF_draftIsTooDear_35
      · have hw := hw.2 c1
        refine lv_aload_n hx hb dF_draftIsTooDear_8 rfl (lv_at hl 0 rfl) ?_
        refine va_get (D := (dC, dI)) (ci := 2) (v := .ref (a 14)) (C := RF) (T := TF) (N := 11) hx hb hts (fun w h => List.mem_cons_of_mem _ (inF w h)) hown hK hP 2 rfl rfl 7 (by decide) (hts (.fieldLink RF 27 "CoverTrees$Forest" "cost" "[I") (List.mem_cons_of_mem _ wt_103)) (fun _ h9 => h9) rfl dF_draftIsTooDear_9 ?_
        refine lv_aload_n hx hb dF_draftIsTooDear_12 rfl (lv_at hl 0 rfl) ?_
        refine va_get (D := (dC, dI)) (ci := 2) (v := .int (n 2)) (C := RF) (T := TF) (N := 11) hx hb hts (fun w h => List.mem_cons_of_mem _ (inF w h)) hown hK hP 2 rfl rfl 1 (by decide) (hts (.fieldLink RF 44 "CoverTrees$Forest" "count" "I") (List.mem_cons_of_mem _ wt_96)) (fun _ h9 => h9) rfl dF_draftIsTooDear_13 ?_
        refine lv_iload_n hx hb dF_draftIsTooDear_16 rfl (lv_at hl 1 rfl) ?_
        refine ct_i (va_runSN (As := [.int (n 2), .int x1]) (rest := [.ref (a 14)]) ⟨hx, hb, hml, hown, hts⟩ (met_C_place l dC dI a cA sa (n 2) x1 n f _ hw) ⟨va_cnB 2 hts (wb_N wt_316) rfl rfl rfl hZ.1 (hts (.initialized "CoverTrees") (List.mem_cons_of_mem _ wt_27)) (by decide +kernel) ⟨Nat.le_of_ble_eq_true rfl, Nat.le_of_ble_eq_true rfl⟩, (hts (.static yC_place) (List.mem_cons_of_mem _ wt_315)), trivial⟩ (ct_pre hK hP (hDa _ _) hZ hS hA) rfl rfl hl.1 rfl (lv_room (Nat.le_of_ble_eq_true rfl)) dF_draftIsTooDear_17 ⟨Nat.le_of_ble_eq_true rfl, Nat.le_of_ble_eq_true rfl⟩) (hDa _ _) hS hA (fun r2 n_3 f_4 H locs hw hP hS => ?_)
        obtain ⟨hi5, hw⟩ := hw
        refine va_iald hx hb hK hP 14 11 rfl rfl hi5 dF_draftIsTooDear_20 ?_
        refine lv_ldc hx hb hown (hts (.constant RF 61 1000000) (by decide +kernel)) dF_draftIsTooDear_21 ?_
        refine lv_icmp_le (tgt := 28) hx hb dF_draftIsTooDear_23 (by decide) (fun c6 => ?_) (fun c6 => ?_)
        · have hw := hw.1 c6
          obtain ⟨x1_7, ex1_7⟩ : ∃ y : Int32, y = x1 + 1 := ⟨_, rfl⟩
          have hw := hw x1_7 ex1_7
          refine lv_iinc (v := x1_7) (lv' := [(1, .int x1_7), (0, .ref (a 2))]) hx hb dF_draftIsTooDear_28 hl (k := 1) rfl (by rw [ex1_7]; rfl) (by decide) rfl (fun ls hl => ?_)
          refine lv_goto (tgt := 2) hx hb dF_draftIsTooDear_31 (by decide) ?_
          exact ih x1_7 n_3 f_4 _ _ ls hw hP hS (lv_sub hl [1, 0] rfl)
        · have hw := hw.2 c6
          refine lv_iconst (v := 1) hx hb dF_draftIsTooDear_26 (by decide) ?_
          exact W.zret (v := 1) hx hb hr rfl (fun t ht hW => ⟨⟨1, (n_3, f_4), rfl, hw, ct_mkB ht hP⟩, hS.F ht⟩) hS.2.2 dF_draftIsTooDear_27
  refine lv_iconst (v := 0) hx hb dF_draftIsTooDear_0 (by decide) ?_
  refine lv_istore_n (lv' := [(1, .int 0), (0, .ref (a 2))]) hx hb dF_draftIsTooDear_1 rfl hl (by decide) rfl (fun ls hl => ?_)
  obtain ⟨k, hw⟩ := hw
  exact loop_2 k 0 n f _ _ ls hw hP hS (lv_sub hl [1, 0] rfl)
def wp_F_blankDraft_L12 (post : ctN → ctF → Prop) : Nat → Int32 → ctN → ctF → Prop
  | 0, _, _, _ => False
  | k + 1, x1, n, f => (8 ≤ x1 → (post n f)) ∧ (¬ 8 ≤ x1 → (wp_C_place (fun (r4 : Int32) (n_5 : ctN) (f_6 : ctF) => vp_in r4 960 ∧ (∀ f_8 : ctF, f_8 = va_up f_6 14 (upd (f_6 14) r4.toNatClampNeg (-1)) → (vp_in r4 960 ∧ (∀ f_10 : ctF, f_10 = va_up f_8 15 (upd (f_8 15) r4.toNatClampNeg (-1)) → (vp_in r4 960 ∧ (∀ f_12 : ctF, f_12 = va_up f_10 16 (upd (f_10 16) r4.toNatClampNeg (-1)) → (vp_in x1 8 ∧ (∀ f_14 : ctF, f_14 = va_up f_12 17 (upd (f_12 17) x1.toNatClampNeg (vp_nar .boolean 0)) → (∀ x1_15 : Int32, x1_15 = x1 + 1 → (wp_F_blankDraft_L12 post k x1_15 n_5 f_14)))))))))) (n 2) x1 n f))
def wp_F_blankDraft (post : ctN → ctF → Prop) (n : ctN) (f : ctF) : Prop := vp_in (n 2) 120 ∧ (∀ f_2 : ctF, f_2 = va_up f 12 (upd (f 12) (n 2).toNatClampNeg (-1)) → (∃ k, wp_F_blankDraft_L12 post k 0 n f_2))
set_option maxHeartbeats 4000000 in
set_option maxRecDepth 100000 in
theorem met_F_blankDraft (l : Launch) (dC : Nat → ClassId) (dI : Nat → Nat → Nat) (a : Nat → Nat) (cA : Nat → ClassId) (sa : Nat → Nat) (n : ctN) (f : ctF) (sz : Nat) {post : ctN → ctF → Prop} (hw : wp_F_blankDraft post n f) : Met l yF_blankDraft wsF_blankDraft ({ frames := 1, cells := 0, slots := 0, locals := 21 } : Room) (ct_Pc dC dI a cA sa [.ref (a 2)] n f sz) (va_Qv (fun (u : ctN × ctF) => post u.1 u.2) (ct_B dC dI a cA) (va_A (ctW a cA n f) sz)) 0 0 (va_A (ctW a cA n f) sz) := by
  refine Met.ofW (cc := cF_blankDraft) (maxL := 3) (ret := none) (by decide) rfl ?_
  intro p e s m args below meth c s₁ B hml hv
  obtain ⟨rfl, hsz, hP, hK, hD0, hZ⟩ := hv
  have hx := B.exec
  have hb := B.bytes
  have hr := B.returns
  have hts := atoms_spec (ws := wsF_blankDraft) B.pre
  have hown : s.vm.findClass RF = some m.cls := findClass_of_methodNamed B.named
  have hlocks := B.notSynchronized
  subst hsz
  have hD := hD0.self (sz := s.heap.size)
  generalize hAe : va_A (ctW a cA n f) s.heap.size = A at hD hZ ⊢
  have hDa : ∀ (n : ctN) (f : ctF), va_D A (ctW a cA n f) := fun _ _ => ct_D hD
  have hA : ∀ q : Nat, s.heap.size ≤ q → A q := fun q h => by rw [← hAe]; exact Or.inr h
  have hS : va_S A s.heap s.heap [] := va_S.rf
  have hl := lv_entry ([.ref (a 2)]) (n := 3) (Nat.le_of_ble_eq_true rfl)
  rw [lg_entry_eq]
  generalize (lg_sl ([.ref (a 2)]) ++ List.replicate (3 - (lg_sl ([.ref (a 2)])).length) Slot.unset).toArray = ls at hl ⊢
  have hl : lv_has ls 3 [(0, .ref (a 2))] := hl
  unfold wp_F_blankDraft at hw
  have loop_12 : ∀ (k : Nat) (x1 : Int32) (n : ctN) (f : ctF) (H : Heap) (locs : List Loc) (ls : Array Slot), wp_F_blankDraft_L12 post k x1 n f → va_P (dC, dI) vcl (ctW a cA n f) H → va_S A s.heap H locs → lv_has ls 3 [(0, .ref (a 2)), (1, .int x1)] → W p l e (headSpec wsF_blankDraft ({ frames := 1, cells := 0, slots := 0, locals := 21 } : Room)).room s m (([.ref (a 2)] : List Value).toArray) below meth c H locs 0 0 (MQ below (va_Qv (fun (u : ctN × ctF) => post u.1 u.2) (ct_B dC dI a cA) A) (([.ref (a 2)] : List Value).toArray) s 0 0 A) (F0 m 12 ls []) := by
    intro k
    induction k with
    | zero => intro x1 n f H locs ls hw; exact hw.elim
    | succ k ih =>
      intro x1 n f H locs ls hw hP hS hl
      rw [wp_F_blankDraft_L12] at hw
      refine lv_iload_n hx hb dF_blankDraft_12 rfl (lv_at hl 1 rfl) ?_
      refine lv_bipush (v := 8) hx hb dF_blankDraft_13 (by decide) ?_
      refine lv_icmp_ge (tgt := 61) hx hb dF_blankDraft_15 (by decide) (fun c3 => ?_) (fun c3 => ?_)
      · have hw := hw.1 c3
        exact W.vret hx hb hr (fun t ht hW => ⟨⟨(n, f), rfl, hw, ct_mkB ht hP⟩, hS.F ht⟩) hS.2.2 dF_blankDraft_61
      · have hw := hw.2 c3
        refine lv_aload_n hx hb dF_blankDraft_18 rfl (lv_at hl 0 rfl) ?_
        refine va_get (D := (dC, dI)) (ci := 2) (v := .int (n 2)) (C := RF) (T := TF) (N := 11) hx hb hts (fun w h => List.mem_cons_of_mem _ (inF w h)) hown hK hP 2 rfl rfl 1 (by decide) (hts (.fieldLink RF 44 "CoverTrees$Forest" "count" "I") (List.mem_cons_of_mem _ wt_96)) (fun _ h9 => h9) rfl dF_blankDraft_19 ?_
        refine lv_iload_n hx hb dF_blankDraft_22 rfl (lv_at hl 1 rfl) ?_
        refine ct_i (va_runSN (As := [.int (n 2), .int x1]) (rest := []) ⟨hx, hb, hml, hown, hts⟩ (met_C_place l dC dI a cA sa (n 2) x1 n f _ hw) ⟨va_cnB 2 hts (wb_N wt_316) rfl rfl rfl hZ.1 (hts (.initialized "CoverTrees") (List.mem_cons_of_mem _ wt_27)) (by decide +kernel) ⟨Nat.le_of_ble_eq_true rfl, Nat.le_of_ble_eq_true rfl⟩, (hts (.static yC_place) (List.mem_cons_of_mem _ wt_315)), trivial⟩ (ct_pre hK hP (hDa _ _) hZ hS hA) rfl rfl hl.1 rfl (lv_room (Nat.le_of_ble_eq_true rfl)) dF_blankDraft_23 ⟨Nat.le_of_ble_eq_true rfl, Nat.le_of_ble_eq_true rfl⟩) (hDa _ _) hS hA (fun r4 n_5 f_6 H locs hw hP hS => ?_)
        refine lv_istore_n (lv' := [(2, .int r4), (0, .ref (a 2)), (1, .int x1)]) hx hb dF_blankDraft_26 rfl hl (by decide) rfl (fun ls hl => ?_)
        refine lv_aload_n hx hb dF_blankDraft_27 rfl (lv_at hl 1 rfl) ?_
        refine va_get (D := (dC, dI)) (ci := 2) (v := .ref (a 14)) (C := RF) (T := TF) (N := 11) hx hb hts (fun w h => List.mem_cons_of_mem _ (inF w h)) hown hK hP 2 rfl rfl 7 (by decide) (hts (.fieldLink RF 27 "CoverTrees$Forest" "cost" "[I") (List.mem_cons_of_mem _ wt_103)) (fun _ h9 => h9) rfl dF_blankDraft_28 ?_
        refine lv_iload_n hx hb dF_blankDraft_31 rfl (lv_at hl 0 rfl) ?_
        refine lv_iconst (v := (-1)) hx hb dF_blankDraft_32 (by decide) ?_
        obtain ⟨hi7, hw⟩ := hw
        refine va_iast hx hb hK hP (hDa _ _) hS 14 11 rfl rfl hi7 dF_blankDraft_33 (fun H locs hP _ hS => ?_)
        obtain ⟨f_8, ef_8⟩ : ∃ z : ctF, z = va_up f_6 14 (upd (f_6 14) r4.toNatClampNeg (-1)) := ⟨_, rfl⟩
        have hw := hw f_8 ef_8
        have hP : va_P (dC, dI) vcl (ctW a cA n_5 f_8) H := by rw [ef_8]; exact hP
        refine lv_aload_n hx hb dF_blankDraft_34 rfl (lv_at hl 1 rfl) ?_
        refine va_get (D := (dC, dI)) (ci := 2) (v := .ref (a 15)) (C := RF) (T := TF) (N := 11) hx hb hts (fun w h => List.mem_cons_of_mem _ (inF w h)) hown hK hP 2 rfl rfl 8 (by decide) (hts (.fieldLink RF 30 "CoverTrees$Forest" "rule" "[I") (List.mem_cons_of_mem _ wt_105)) (fun _ h9 => h9) rfl dF_blankDraft_35 ?_
        refine lv_iload_n hx hb dF_blankDraft_38 rfl (lv_at hl 0 rfl) ?_
        refine lv_iconst (v := (-1)) hx hb dF_blankDraft_39 (by decide) ?_
        obtain ⟨hi9, hw⟩ := hw
        refine va_iast hx hb hK hP (hDa _ _) hS 15 12 rfl rfl hi9 dF_blankDraft_40 (fun H locs hP _ hS => ?_)
        obtain ⟨f_10, ef_10⟩ : ∃ z : ctF, z = va_up f_8 15 (upd (f_8 15) r4.toNatClampNeg (-1)) := ⟨_, rfl⟩
        have hw := hw f_10 ef_10
        have hP : va_P (dC, dI) vcl (ctW a cA n_5 f_10) H := by rw [ef_10]; exact hP
        refine lv_aload_n hx hb dF_blankDraft_41 rfl (lv_at hl 1 rfl) ?_
        refine va_get (D := (dC, dI)) (ci := 2) (v := .ref (a 16)) (C := RF) (T := TF) (N := 11) hx hb hts (fun w h => List.mem_cons_of_mem _ (inF w h)) hown hK hP 2 rfl rfl 9 (by decide) (hts (.fieldLink RF 33 "CoverTrees$Forest" "size" "[I") (List.mem_cons_of_mem _ wt_107)) (fun _ h9 => h9) rfl dF_blankDraft_42 ?_
        refine lv_iload_n hx hb dF_blankDraft_45 rfl (lv_at hl 0 rfl) ?_
        refine lv_iconst (v := (-1)) hx hb dF_blankDraft_46 (by decide) ?_
        obtain ⟨hi11, hw⟩ := hw
        refine va_iast hx hb hK hP (hDa _ _) hS 16 13 rfl rfl hi11 dF_blankDraft_47 (fun H locs hP _ hS => ?_)
        obtain ⟨f_12, ef_12⟩ : ∃ z : ctF, z = va_up f_10 16 (upd (f_10 16) r4.toNatClampNeg (-1)) := ⟨_, rfl⟩
        have hw := hw f_12 ef_12
        have hP : va_P (dC, dI) vcl (ctW a cA n_5 f_12) H := by rw [ef_12]; exact hP
        refine lv_aload_n hx hb dF_blankDraft_48 rfl (lv_at hl 1 rfl) ?_
        refine va_get (D := (dC, dI)) (ci := 2) (v := .ref (a 17)) (C := RF) (T := TF) (N := 11) hx hb hts (fun w h => List.mem_cons_of_mem _ (inF w h)) hown hK hP 2 rfl rfl 10 (by decide) (hts (.fieldLink RF 36 "CoverTrees$Forest" "settled" "[Z") (List.mem_cons_of_mem _ wt_109)) (fun _ h9 => h9) rfl dF_blankDraft_49 ?_
        refine lv_iload_n hx hb dF_blankDraft_52 rfl (lv_at hl 2 rfl) ?_
        refine lv_iconst (v := 0) hx hb dF_blankDraft_53 (by decide) ?_
        obtain ⟨hi13, hw⟩ := hw
        refine va_zast hx hb hK hP (hDa _ _) hS 17 14 rfl rfl hi13 dF_blankDraft_54 (fun H locs hP _ hS => ?_)
        obtain ⟨f_14, ef_14⟩ : ∃ z : ctF, z = va_up f_12 17 (upd (f_12 17) x1.toNatClampNeg (vp_nar .boolean 0)) := ⟨_, rfl⟩
        have hw := hw f_14 ef_14
        have hP : va_P (dC, dI) vcl (ctW a cA n_5 f_14) H := by rw [ef_14]; exact hP
        obtain ⟨x1_15, ex1_15⟩ : ∃ y : Int32, y = x1 + 1 := ⟨_, rfl⟩
        have hw := hw x1_15 ex1_15
        refine lv_iinc (v := x1_15) (lv' := [(1, .int x1_15), (2, .int r4), (0, .ref (a 2))]) hx hb dF_blankDraft_55 hl (k := 2) rfl (by rw [ex1_15]; rfl) (by decide) rfl (fun ls hl => ?_)
        refine lv_goto (tgt := 12) hx hb dF_blankDraft_58 (by decide) ?_
        exact ih x1_15 n_5 f_14 _ _ ls hw hP hS (lv_sub hl [2, 0] rfl)
  refine lv_aload_n hx hb dF_blankDraft_0 rfl (lv_at hl 0 rfl) ?_
  refine va_get (D := (dC, dI)) (ci := 2) (v := .ref (a 12)) (C := RF) (T := TF) (N := 11) hx hb hts (fun w h => List.mem_cons_of_mem _ (inF w h)) hown hK hP 2 rfl rfl 5 (by decide) (hts (.fieldLink RF 21 "CoverTrees$Forest" "leastCost" "[I") (List.mem_cons_of_mem _ wt_100)) (fun _ h9 => h9) rfl dF_blankDraft_1 ?_
  refine lv_aload_n hx hb dF_blankDraft_4 rfl (lv_at hl 0 rfl) ?_
  refine va_get (D := (dC, dI)) (ci := 2) (v := .int (n 2)) (C := RF) (T := TF) (N := 11) hx hb hts (fun w h => List.mem_cons_of_mem _ (inF w h)) hown hK hP 2 rfl rfl 1 (by decide) (hts (.fieldLink RF 44 "CoverTrees$Forest" "count" "I") (List.mem_cons_of_mem _ wt_96)) (fun _ h9 => h9) rfl dF_blankDraft_5 ?_
  refine lv_iconst (v := (-1)) hx hb dF_blankDraft_8 (by decide) ?_
  obtain ⟨hi1, hw⟩ := hw
  refine va_iast hx hb hK hP (hDa _ _) hS 12 9 rfl rfl hi1 dF_blankDraft_9 (fun H locs hP _ hS => ?_)
  obtain ⟨f_2, ef_2⟩ : ∃ z : ctF, z = va_up f 12 (upd (f 12) (n 2).toNatClampNeg (-1)) := ⟨_, rfl⟩
  have hw := hw f_2 ef_2
  have hP : va_P (dC, dI) vcl (ctW a cA n f_2) H := by rw [ef_2]; exact hP
  refine lv_iconst (v := 0) hx hb dF_blankDraft_10 (by decide) ?_
  refine lv_istore_n (lv' := [(1, .int 0), (0, .ref (a 2))]) hx hb dF_blankDraft_11 rfl hl (by decide) rfl (fun ls hl => ?_)
  obtain ⟨k, hw⟩ := hw
  exact loop_12 k 0 n f_2 _ _ ls hw hP hS (lv_sub hl [1, 0] rfl)
def wp_F_baseCost (post : Int32 → ctN → ctF → Prop) (p1 : Int32) (n : ctN) (f : ctF) : Prop := vp_in (n 2) 120 ∧ (vp_in (f 9 (n 2).toNatClampNeg) 10 ∧ (∀ x2_3 : Int32, x2_3 = (f 3 (f 9 (n 2).toNatClampNeg).toNatClampNeg) → (vp_in p1 40 ∧ (∀ x3_5 : Int32, x3_5 = (f 8 p1.toNatClampNeg) → ((x2_3 < 1 → ((x2_3 < 2 → (post x3_5 n f)) ∧ (¬ x2_3 < 2 → (vp_in (n 2) 120 ∧ (vp_in p1 40 ∧ (wp_C_place (fun (r10 : Int32) (n_11 : ctN) (f_12 : ctF) => vp_in r10 960 ∧ (∀ x4_14 : Int32, x4_14 = (f_12 14 r10.toNatClampNeg) → ((¬ x4_14 = (-1) → (∀ x3_16 : Int32, x3_16 = (x3_5 + x4_14) → (post x3_16 n_11 f_12))) ∧ (x4_14 = (-1) → (post (-1) n_11 f_12))))) (f 11 (n 2).toNatClampNeg) (f 7 p1.toNatClampNeg) n f)))))) ∧ (¬ x2_3 < 1 → (vp_in (n 2) 120 ∧ (vp_in p1 40 ∧ (wp_C_place (fun (r19 : Int32) (n_20 : ctN) (f_21 : ctF) => vp_in r19 960 ∧ (∀ x4_23 : Int32, x4_23 = (f_21 14 r19.toNatClampNeg) → ((¬ x4_23 = (-1) → (∀ x3_25 : Int32, x3_25 = (x3_5 + x4_23) → ((x2_3 < 2 → (post x3_25 n_20 f_21)) ∧ (¬ x2_3 < 2 → (vp_in (n_20 2) 120 ∧ (vp_in p1 40 ∧ (wp_C_place (fun (r29 : Int32) (n_30 : ctN) (f_31 : ctF) => vp_in r29 960 ∧ (∀ x4_33 : Int32, x4_33 = (f_31 14 r29.toNatClampNeg) → ((¬ x4_33 = (-1) → (∀ x3_35 : Int32, x3_35 = (x3_25 + x4_33) → (post x3_35 n_30 f_31))) ∧ (x4_33 = (-1) → (post (-1) n_30 f_31))))) (f_21 11 (n_20 2).toNatClampNeg) (f_21 7 p1.toNatClampNeg) n_20 f_21))))))) ∧ (x4_23 = (-1) → (post (-1) n_20 f_21))))) (f 10 (n 2).toNatClampNeg) (f 6 p1.toNatClampNeg) n f)))))))))
set_option maxHeartbeats 4000000 in
set_option maxRecDepth 100000 in
theorem met_F_baseCost (l : Launch) (dC : Nat → ClassId) (dI : Nat → Nat → Nat) (a : Nat → Nat) (cA : Nat → ClassId) (sa : Nat → Nat) (p1 : Int32) (n : ctN) (f : ctF) (sz : Nat) {post : Int32 → ctN → ctF → Prop} (hw : wp_F_baseCost post p1 n f) : Met l yF_baseCost wsF_baseCost ({ frames := 1, cells := 0, slots := 0, locals := 21 } : Room) (ct_Pc dC dI a cA sa [.ref (a 2), .int p1] n f sz) (va_Qi (fun (r : Int32) (u : ctN × ctF) => post r u.1 u.2) (ct_B dC dI a cA) (va_A (ctW a cA n f) sz)) 0 0 (va_A (ctW a cA n f) sz) := by
  refine Met.ofW (cc := cF_baseCost) (maxL := 5) (ret := (some .int)) (by decide) rfl ?_
  intro p e s m args below meth c s₁ B hml hv
  obtain ⟨rfl, hsz, hP, hK, hD0, hZ⟩ := hv
  have hx := B.exec
  have hb := B.bytes
  have hr := B.returns
  have hts := atoms_spec (ws := wsF_baseCost) B.pre
  have hown : s.vm.findClass RF = some m.cls := findClass_of_methodNamed B.named
  have hlocks := B.notSynchronized
  subst hsz
  have hD := hD0.self (sz := s.heap.size)
  generalize hAe : va_A (ctW a cA n f) s.heap.size = A at hD hZ ⊢
  have hDa : ∀ (n : ctN) (f : ctF), va_D A (ctW a cA n f) := fun _ _ => ct_D hD
  have hA : ∀ q : Nat, s.heap.size ≤ q → A q := fun q h => by rw [← hAe]; exact Or.inr h
  have hS : va_S A s.heap s.heap [] := va_S.rf
  have hl := lv_entry ([.ref (a 2), .int p1]) (n := 5) (Nat.le_of_ble_eq_true rfl)
  rw [lg_entry_eq]
  generalize (lg_sl ([.ref (a 2), .int p1]) ++ List.replicate (5 - (lg_sl ([.ref (a 2), .int p1])).length) Slot.unset).toArray = ls at hl ⊢
  have hl : lv_has ls 5 [(0, .ref (a 2)), (1, .int p1)] := hl
  unfold wp_F_baseCost at hw
  refine lv_aload_n hx hb dF_baseCost_0 rfl (lv_at hl 0 rfl) ?_
  refine va_get (D := (dC, dI)) (ci := 2) (v := .ref (a 1)) (C := RF) (T := TF) (N := 11) hx hb hts (fun w h => List.mem_cons_of_mem _ (inF w h)) hown hK hP 2 rfl rfl 0 (by decide) (hts (.fieldLink RF 40 "CoverTrees$Forest" "grammar" "LCoverTrees$Grammar;") (List.mem_cons_of_mem _ wt_94)) (fun _ h9 => h9) rfl dF_baseCost_1 ?_
  refine va_get (D := (dC, dI)) (ci := 1) (v := .ref (a 3)) (C := RG) (T := TG) (N := 8) hx hb hts (fun w h => List.mem_cons_of_mem _ (inG w h)) hown hK hP 1 rfl rfl 1 (by decide) (hts (.fieldLink RF 79 "CoverTrees$Grammar" "parts" "[I") (List.mem_cons_of_mem _ wt_56)) (fun _ h9 => h9) rfl dF_baseCost_4 ?_
  refine lv_aload_n hx hb dF_baseCost_7 rfl (lv_at hl 0 rfl) ?_
  refine va_get (D := (dC, dI)) (ci := 2) (v := .ref (a 9)) (C := RF) (T := TF) (N := 11) hx hb hts (fun w h => List.mem_cons_of_mem _ (inF w h)) hown hK hP 2 rfl rfl 2 (by decide) (hts (.fieldLink RF 9 "CoverTrees$Forest" "operator" "[I") (List.mem_cons_of_mem _ wt_97)) (fun _ h9 => h9) rfl dF_baseCost_8 ?_
  refine lv_aload_n hx hb dF_baseCost_11 rfl (lv_at hl 0 rfl) ?_
  refine va_get (D := (dC, dI)) (ci := 2) (v := .int (n 2)) (C := RF) (T := TF) (N := 11) hx hb hts (fun w h => List.mem_cons_of_mem _ (inF w h)) hown hK hP 2 rfl rfl 1 (by decide) (hts (.fieldLink RF 44 "CoverTrees$Forest" "count" "I") (List.mem_cons_of_mem _ wt_96)) (fun _ h9 => h9) rfl dF_baseCost_12 ?_
  obtain ⟨hi1, hw⟩ := hw
  refine va_iald hx hb hK hP 9 6 rfl rfl hi1 dF_baseCost_15 ?_
  obtain ⟨hi2, hw⟩ := hw
  refine va_iald hx hb hK hP 3 0 rfl rfl hi2 dF_baseCost_16 ?_
  refine lv_topi (fun x2_3 ex2_3 => ?_)
  have hw := hw x2_3 ex2_3
  refine lv_istore_n (lv' := [(2, .int x2_3), (0, .ref (a 2)), (1, .int p1)]) hx hb dF_baseCost_17 rfl hl (by decide) rfl (fun ls hl => ?_)
  refine lv_aload_n hx hb dF_baseCost_18 rfl (lv_at hl 1 rfl) ?_
  refine va_get (D := (dC, dI)) (ci := 2) (v := .ref (a 1)) (C := RF) (T := TF) (N := 11) hx hb hts (fun w h => List.mem_cons_of_mem _ (inF w h)) hown hK hP 2 rfl rfl 0 (by decide) (hts (.fieldLink RF 40 "CoverTrees$Forest" "grammar" "LCoverTrees$Grammar;") (List.mem_cons_of_mem _ wt_94)) (fun _ h9 => h9) rfl dF_baseCost_19 ?_
  refine va_get (D := (dC, dI)) (ci := 1) (v := .ref (a 8)) (C := RG) (T := TG) (N := 8) hx hb hts (fun w h => List.mem_cons_of_mem _ (inG w h)) hown hK hP 1 rfl rfl 7 (by decide) (hts (.fieldLink RF 82 "CoverTrees$Grammar" "cost" "[I") (List.mem_cons_of_mem _ wt_69)) (fun _ h9 => h9) rfl dF_baseCost_22 ?_
  refine lv_iload_n hx hb dF_baseCost_25 rfl (lv_at hl 2 rfl) ?_
  obtain ⟨hi4, hw⟩ := hw
  refine va_iald hx hb hK hP 8 5 rfl rfl hi4 dF_baseCost_26 ?_
  refine lv_topi (fun x3_5 ex3_5 => ?_)
  have hw := hw x3_5 ex3_5
  refine lv_istore_n (lv' := [(3, .int x3_5), (2, .int x2_3), (0, .ref (a 2)), (1, .int p1)]) hx hb dF_baseCost_27 rfl hl (by decide) rfl (fun ls hl => ?_)
  refine lv_iload_n hx hb dF_baseCost_28 rfl (lv_at hl 1 rfl) ?_
  refine lv_iconst (v := 1) hx hb dF_baseCost_29 (by decide) ?_
  refine lv_icmp_lt (tgt := 74) hx hb dF_baseCost_30 (by decide) (fun c6 => ?_) (fun c6 => ?_)
  · have hw := hw.1 c6
    refine lv_iload_n hx hb dF_baseCost_74 rfl (lv_at hl 1 rfl) ?_
    refine lv_iconst (v := 2) hx hb dF_baseCost_75 (by decide) ?_
    refine lv_icmp_lt (tgt := 120) hx hb dF_baseCost_76 (by decide) (fun c7 => ?_) (fun c7 => ?_)
    · have hw := hw.1 c7
      refine lv_iload_n hx hb dF_baseCost_120 rfl (lv_at hl 0 rfl) ?_
      exact W.iret (v := x3_5) hx hb hr (fun t ht hW => ⟨⟨x3_5, (n, f), rfl, hw, ct_mkB ht hP⟩, hS.F ht⟩) hS.2.2 dF_baseCost_121
    · have hw := hw.2 c7
      refine lv_aload_n hx hb dF_baseCost_79 rfl (lv_at hl 2 rfl) ?_
      refine va_get (D := (dC, dI)) (ci := 2) (v := .ref (a 14)) (C := RF) (T := TF) (N := 11) hx hb hts (fun w h => List.mem_cons_of_mem _ (inF w h)) hown hK hP 2 rfl rfl 7 (by decide) (hts (.fieldLink RF 27 "CoverTrees$Forest" "cost" "[I") (List.mem_cons_of_mem _ wt_103)) (fun _ h9 => h9) rfl dF_baseCost_80 ?_
      refine lv_aload_n hx hb dF_baseCost_83 rfl (lv_at hl 2 rfl) ?_
      refine va_get (D := (dC, dI)) (ci := 2) (v := .ref (a 11)) (C := RF) (T := TF) (N := 11) hx hb hts (fun w h => List.mem_cons_of_mem _ (inF w h)) hown hK hP 2 rfl rfl 4 (by decide) (hts (.fieldLink RF 18 "CoverTrees$Forest" "two" "[I") (List.mem_cons_of_mem _ wt_99)) (fun _ h9 => h9) rfl dF_baseCost_84 ?_
      refine lv_aload_n hx hb dF_baseCost_87 rfl (lv_at hl 2 rfl) ?_
      refine va_get (D := (dC, dI)) (ci := 2) (v := .int (n 2)) (C := RF) (T := TF) (N := 11) hx hb hts (fun w h => List.mem_cons_of_mem _ (inF w h)) hown hK hP 2 rfl rfl 1 (by decide) (hts (.fieldLink RF 44 "CoverTrees$Forest" "count" "I") (List.mem_cons_of_mem _ wt_96)) (fun _ h9 => h9) rfl dF_baseCost_88 ?_
      obtain ⟨hi8, hw⟩ := hw
      refine va_iald hx hb hK hP 11 8 rfl rfl hi8 dF_baseCost_91 ?_
      refine lv_aload_n hx hb dF_baseCost_92 rfl (lv_at hl 2 rfl) ?_
      refine va_get (D := (dC, dI)) (ci := 2) (v := .ref (a 1)) (C := RF) (T := TF) (N := 11) hx hb hts (fun w h => List.mem_cons_of_mem _ (inF w h)) hown hK hP 2 rfl rfl 0 (by decide) (hts (.fieldLink RF 40 "CoverTrees$Forest" "grammar" "LCoverTrees$Grammar;") (List.mem_cons_of_mem _ wt_94)) (fun _ h9 => h9) rfl dF_baseCost_93 ?_
      refine va_get (D := (dC, dI)) (ci := 1) (v := .ref (a 7)) (C := RG) (T := TG) (N := 8) hx hb hts (fun w h => List.mem_cons_of_mem _ (inG w h)) hown hK hP 1 rfl rfl 6 (by decide) (hts (.fieldLink RF 84 "CoverTrees$Grammar" "two" "[I") (List.mem_cons_of_mem _ wt_67)) (fun _ h9 => h9) rfl dF_baseCost_96 ?_
      refine lv_iload_n hx hb dF_baseCost_99 rfl (lv_at hl 3 rfl) ?_
      obtain ⟨hi9, hw⟩ := hw
      refine va_iald hx hb hK hP 7 4 rfl rfl hi9 dF_baseCost_100 ?_
      refine ct_i (va_runSN (As := [.int (f 11 (n 2).toNatClampNeg), .int (f 7 p1.toNatClampNeg)]) (rest := [.ref (a 14)]) ⟨hx, hb, hml, hown, hts⟩ (met_C_place l dC dI a cA sa (f 11 (n 2).toNatClampNeg) (f 7 p1.toNatClampNeg) n f _ hw) ⟨va_cnB 2 hts (wb_N wt_316) rfl rfl rfl hZ.1 (hts (.initialized "CoverTrees") (List.mem_cons_of_mem _ wt_27)) (by decide +kernel) ⟨Nat.le_of_ble_eq_true rfl, Nat.le_of_ble_eq_true rfl⟩, (hts (.static yC_place) (List.mem_cons_of_mem _ wt_315)), trivial⟩ (ct_pre hK hP (hDa _ _) hZ hS hA) rfl rfl hl.1 rfl (lv_room (Nat.le_of_ble_eq_true rfl)) dF_baseCost_101 ⟨Nat.le_of_ble_eq_true rfl, Nat.le_of_ble_eq_true rfl⟩) (hDa _ _) hS hA (fun r10 n_11 f_12 H locs hw hP hS => ?_)
      obtain ⟨hi13, hw⟩ := hw
      refine va_iald hx hb hK hP 14 11 rfl rfl hi13 dF_baseCost_104 ?_
      refine lv_topi (fun x4_14 ex4_14 => ?_)
      have hw := hw x4_14 ex4_14
      refine lv_istore (lv' := [(4, .int x4_14), (3, .int x3_5), (2, .int x2_3), (0, .ref (a 2)), (1, .int p1)]) hx hb dF_baseCost_105 hl (by decide) rfl (fun ls hl => ?_)
      refine lv_iload hx hb dF_baseCost_107 (lv_at hl 0 rfl) ?_
      refine lv_iconst (v := (-1)) hx hb dF_baseCost_109 (by decide) ?_
      refine lv_icmp_ne (tgt := 115) hx hb dF_baseCost_110 (by decide) (fun c15 => ?_) (fun c15 => ?_)
      · have hw := hw.1 c15
        refine lv_iload_n hx hb dF_baseCost_115 rfl (lv_at hl 1 rfl) ?_
        refine lv_iload hx hb dF_baseCost_116 (lv_at hl 0 rfl) ?_
        refine lv_iadd hx hb dF_baseCost_118 ?_
        refine lv_topi (fun x3_16 ex3_16 => ?_)
        have hw := hw x3_16 ex3_16
        refine lv_istore_n (lv' := [(3, .int x3_16), (4, .int x4_14), (2, .int x2_3), (0, .ref (a 2)), (1, .int p1)]) hx hb dF_baseCost_119 rfl hl (by decide) rfl (fun ls hl => ?_)
        refine lv_iload_n hx hb dF_baseCost_120 rfl (lv_at hl 0 rfl) ?_
        exact W.iret (v := x3_16) hx hb hr (fun t ht hW => ⟨⟨x3_16, (n_11, f_12), rfl, hw, ct_mkB ht hP⟩, hS.F ht⟩) hS.2.2 dF_baseCost_121
      · have hw := hw.2 c15
        refine lv_iconst (v := (-1)) hx hb dF_baseCost_113 (by decide) ?_
        exact W.iret (v := (-1)) hx hb hr (fun t ht hW => ⟨⟨(-1), (n_11, f_12), rfl, hw, ct_mkB ht hP⟩, hS.F ht⟩) hS.2.2 dF_baseCost_114
  · have hw := hw.2 c6
    refine lv_aload_n hx hb dF_baseCost_33 rfl (lv_at hl 2 rfl) ?_
    refine va_get (D := (dC, dI)) (ci := 2) (v := .ref (a 14)) (C := RF) (T := TF) (N := 11) hx hb hts (fun w h => List.mem_cons_of_mem _ (inF w h)) hown hK hP 2 rfl rfl 7 (by decide) (hts (.fieldLink RF 27 "CoverTrees$Forest" "cost" "[I") (List.mem_cons_of_mem _ wt_103)) (fun _ h9 => h9) rfl dF_baseCost_34 ?_
    refine lv_aload_n hx hb dF_baseCost_37 rfl (lv_at hl 2 rfl) ?_
    refine va_get (D := (dC, dI)) (ci := 2) (v := .ref (a 10)) (C := RF) (T := TF) (N := 11) hx hb hts (fun w h => List.mem_cons_of_mem _ (inF w h)) hown hK hP 2 rfl rfl 3 (by decide) (hts (.fieldLink RF 15 "CoverTrees$Forest" "one" "[I") (List.mem_cons_of_mem _ wt_98)) (fun _ h9 => h9) rfl dF_baseCost_38 ?_
    refine lv_aload_n hx hb dF_baseCost_41 rfl (lv_at hl 2 rfl) ?_
    refine va_get (D := (dC, dI)) (ci := 2) (v := .int (n 2)) (C := RF) (T := TF) (N := 11) hx hb hts (fun w h => List.mem_cons_of_mem _ (inF w h)) hown hK hP 2 rfl rfl 1 (by decide) (hts (.fieldLink RF 44 "CoverTrees$Forest" "count" "I") (List.mem_cons_of_mem _ wt_96)) (fun _ h9 => h9) rfl dF_baseCost_42 ?_
    obtain ⟨hi17, hw⟩ := hw
    refine va_iald hx hb hK hP 10 7 rfl rfl hi17 dF_baseCost_45 ?_
    refine lv_aload_n hx hb dF_baseCost_46 rfl (lv_at hl 2 rfl) ?_
    refine va_get (D := (dC, dI)) (ci := 2) (v := .ref (a 1)) (C := RF) (T := TF) (N := 11) hx hb hts (fun w h => List.mem_cons_of_mem _ (inF w h)) hown hK hP 2 rfl rfl 0 (by decide) (hts (.fieldLink RF 40 "CoverTrees$Forest" "grammar" "LCoverTrees$Grammar;") (List.mem_cons_of_mem _ wt_94)) (fun _ h9 => h9) rfl dF_baseCost_47 ?_
    refine va_get (D := (dC, dI)) (ci := 1) (v := .ref (a 6)) (C := RG) (T := TG) (N := 8) hx hb hts (fun w h => List.mem_cons_of_mem _ (inG w h)) hown hK hP 1 rfl rfl 5 (by decide) (hts (.fieldLink RF 83 "CoverTrees$Grammar" "one" "[I") (List.mem_cons_of_mem _ wt_65)) (fun _ h9 => h9) rfl dF_baseCost_50 ?_
    refine lv_iload_n hx hb dF_baseCost_53 rfl (lv_at hl 3 rfl) ?_
    obtain ⟨hi18, hw⟩ := hw
    refine va_iald hx hb hK hP 6 3 rfl rfl hi18 dF_baseCost_54 ?_
    refine ct_i (va_runSN (As := [.int (f 10 (n 2).toNatClampNeg), .int (f 6 p1.toNatClampNeg)]) (rest := [.ref (a 14)]) ⟨hx, hb, hml, hown, hts⟩ (met_C_place l dC dI a cA sa (f 10 (n 2).toNatClampNeg) (f 6 p1.toNatClampNeg) n f _ hw) ⟨va_cnB 2 hts (wb_N wt_316) rfl rfl rfl hZ.1 (hts (.initialized "CoverTrees") (List.mem_cons_of_mem _ wt_27)) (by decide +kernel) ⟨Nat.le_of_ble_eq_true rfl, Nat.le_of_ble_eq_true rfl⟩, (hts (.static yC_place) (List.mem_cons_of_mem _ wt_315)), trivial⟩ (ct_pre hK hP (hDa _ _) hZ hS hA) rfl rfl hl.1 rfl (lv_room (Nat.le_of_ble_eq_true rfl)) dF_baseCost_55 ⟨Nat.le_of_ble_eq_true rfl, Nat.le_of_ble_eq_true rfl⟩) (hDa _ _) hS hA (fun r19 n_20 f_21 H locs hw hP hS => ?_)
    obtain ⟨hi22, hw⟩ := hw
    refine va_iald hx hb hK hP 14 11 rfl rfl hi22 dF_baseCost_58 ?_
    refine lv_topi (fun x4_23 ex4_23 => ?_)
    have hw := hw x4_23 ex4_23
    refine lv_istore (lv' := [(4, .int x4_23), (3, .int x3_5), (2, .int x2_3), (0, .ref (a 2)), (1, .int p1)]) hx hb dF_baseCost_59 hl (by decide) rfl (fun ls hl => ?_)
    refine lv_iload hx hb dF_baseCost_61 (lv_at hl 0 rfl) ?_
    refine lv_iconst (v := (-1)) hx hb dF_baseCost_63 (by decide) ?_
    refine lv_icmp_ne (tgt := 69) hx hb dF_baseCost_64 (by decide) (fun c24 => ?_) (fun c24 => ?_)
    · have hw := hw.1 c24
      refine lv_iload_n hx hb dF_baseCost_69 rfl (lv_at hl 1 rfl) ?_
      refine lv_iload hx hb dF_baseCost_70 (lv_at hl 0 rfl) ?_
      refine lv_iadd hx hb dF_baseCost_72 ?_
      refine lv_topi (fun x3_25 ex3_25 => ?_)
      have hw := hw x3_25 ex3_25
      refine lv_istore_n (lv' := [(3, .int x3_25), (4, .int x4_23), (2, .int x2_3), (0, .ref (a 2)), (1, .int p1)]) hx hb dF_baseCost_73 rfl hl (by decide) rfl (fun ls hl => ?_)
      refine lv_iload_n hx hb dF_baseCost_74 rfl (lv_at hl 2 rfl) ?_
      refine lv_iconst (v := 2) hx hb dF_baseCost_75 (by decide) ?_
      refine lv_icmp_lt (tgt := 120) hx hb dF_baseCost_76 (by decide) (fun c26 => ?_) (fun c26 => ?_)
      · have hw := hw.1 c26
        refine lv_iload_n hx hb dF_baseCost_120 rfl (lv_at hl 0 rfl) ?_
        exact W.iret (v := x3_25) hx hb hr (fun t ht hW => ⟨⟨x3_25, (n_20, f_21), rfl, hw, ct_mkB ht hP⟩, hS.F ht⟩) hS.2.2 dF_baseCost_121
      · have hw := hw.2 c26
        refine lv_aload_n hx hb dF_baseCost_79 rfl (lv_at hl 3 rfl) ?_
        refine va_get (D := (dC, dI)) (ci := 2) (v := .ref (a 14)) (C := RF) (T := TF) (N := 11) hx hb hts (fun w h => List.mem_cons_of_mem _ (inF w h)) hown hK hP 2 rfl rfl 7 (by decide) (hts (.fieldLink RF 27 "CoverTrees$Forest" "cost" "[I") (List.mem_cons_of_mem _ wt_103)) (fun _ h9 => h9) rfl dF_baseCost_80 ?_
        refine lv_aload_n hx hb dF_baseCost_83 rfl (lv_at hl 3 rfl) ?_
        refine va_get (D := (dC, dI)) (ci := 2) (v := .ref (a 11)) (C := RF) (T := TF) (N := 11) hx hb hts (fun w h => List.mem_cons_of_mem _ (inF w h)) hown hK hP 2 rfl rfl 4 (by decide) (hts (.fieldLink RF 18 "CoverTrees$Forest" "two" "[I") (List.mem_cons_of_mem _ wt_99)) (fun _ h9 => h9) rfl dF_baseCost_84 ?_
        refine lv_aload_n hx hb dF_baseCost_87 rfl (lv_at hl 3 rfl) ?_
        refine va_get (D := (dC, dI)) (ci := 2) (v := .int (n_20 2)) (C := RF) (T := TF) (N := 11) hx hb hts (fun w h => List.mem_cons_of_mem _ (inF w h)) hown hK hP 2 rfl rfl 1 (by decide) (hts (.fieldLink RF 44 "CoverTrees$Forest" "count" "I") (List.mem_cons_of_mem _ wt_96)) (fun _ h9 => h9) rfl dF_baseCost_88 ?_
        obtain ⟨hi27, hw⟩ := hw
        refine va_iald hx hb hK hP 11 8 rfl rfl hi27 dF_baseCost_91 ?_
        refine lv_aload_n hx hb dF_baseCost_92 rfl (lv_at hl 3 rfl) ?_
        refine va_get (D := (dC, dI)) (ci := 2) (v := .ref (a 1)) (C := RF) (T := TF) (N := 11) hx hb hts (fun w h => List.mem_cons_of_mem _ (inF w h)) hown hK hP 2 rfl rfl 0 (by decide) (hts (.fieldLink RF 40 "CoverTrees$Forest" "grammar" "LCoverTrees$Grammar;") (List.mem_cons_of_mem _ wt_94)) (fun _ h9 => h9) rfl dF_baseCost_93 ?_
        refine va_get (D := (dC, dI)) (ci := 1) (v := .ref (a 7)) (C := RG) (T := TG) (N := 8) hx hb hts (fun w h => List.mem_cons_of_mem _ (inG w h)) hown hK hP 1 rfl rfl 6 (by decide) (hts (.fieldLink RF 84 "CoverTrees$Grammar" "two" "[I") (List.mem_cons_of_mem _ wt_67)) (fun _ h9 => h9) rfl dF_baseCost_96 ?_
        refine lv_iload_n hx hb dF_baseCost_99 rfl (lv_at hl 4 rfl) ?_
        obtain ⟨hi28, hw⟩ := hw
        refine va_iald hx hb hK hP 7 4 rfl rfl hi28 dF_baseCost_100 ?_
        refine ct_i (va_runSN (As := [.int (f_21 11 (n_20 2).toNatClampNeg), .int (f_21 7 p1.toNatClampNeg)]) (rest := [.ref (a 14)]) ⟨hx, hb, hml, hown, hts⟩ (met_C_place l dC dI a cA sa (f_21 11 (n_20 2).toNatClampNeg) (f_21 7 p1.toNatClampNeg) n_20 f_21 _ hw) ⟨va_cnB 2 hts (wb_N wt_316) rfl rfl rfl hZ.1 (hts (.initialized "CoverTrees") (List.mem_cons_of_mem _ wt_27)) (by decide +kernel) ⟨Nat.le_of_ble_eq_true rfl, Nat.le_of_ble_eq_true rfl⟩, (hts (.static yC_place) (List.mem_cons_of_mem _ wt_315)), trivial⟩ (ct_pre hK hP (hDa _ _) hZ hS hA) rfl rfl hl.1 rfl (lv_room (Nat.le_of_ble_eq_true rfl)) dF_baseCost_101 ⟨Nat.le_of_ble_eq_true rfl, Nat.le_of_ble_eq_true rfl⟩) (hDa _ _) hS hA (fun r29 n_30 f_31 H locs hw hP hS => ?_)
        obtain ⟨hi32, hw⟩ := hw
        refine va_iald hx hb hK hP 14 11 rfl rfl hi32 dF_baseCost_104 ?_
        refine lv_topi (fun x4_33 ex4_33 => ?_)
        have hw := hw x4_33 ex4_33
        refine lv_istore (lv' := [(4, .int x4_33), (3, .int x3_25), (2, .int x2_3), (0, .ref (a 2)), (1, .int p1)]) hx hb dF_baseCost_105 hl (by decide) rfl (fun ls hl => ?_)
        refine lv_iload hx hb dF_baseCost_107 (lv_at hl 0 rfl) ?_
        refine lv_iconst (v := (-1)) hx hb dF_baseCost_109 (by decide) ?_
        refine lv_icmp_ne (tgt := 115) hx hb dF_baseCost_110 (by decide) (fun c34 => ?_) (fun c34 => ?_)
        · have hw := hw.1 c34
          refine lv_iload_n hx hb dF_baseCost_115 rfl (lv_at hl 1 rfl) ?_
          refine lv_iload hx hb dF_baseCost_116 (lv_at hl 0 rfl) ?_
          refine lv_iadd hx hb dF_baseCost_118 ?_
          refine lv_topi (fun x3_35 ex3_35 => ?_)
          have hw := hw x3_35 ex3_35
          refine lv_istore_n (lv' := [(3, .int x3_35), (4, .int x4_33), (2, .int x2_3), (0, .ref (a 2)), (1, .int p1)]) hx hb dF_baseCost_119 rfl hl (by decide) rfl (fun ls hl => ?_)
          refine lv_iload_n hx hb dF_baseCost_120 rfl (lv_at hl 0 rfl) ?_
          exact W.iret (v := x3_35) hx hb hr (fun t ht hW => ⟨⟨x3_35, (n_30, f_31), rfl, hw, ct_mkB ht hP⟩, hS.F ht⟩) hS.2.2 dF_baseCost_121
        · have hw := hw.2 c34
          refine lv_iconst (v := (-1)) hx hb dF_baseCost_113 (by decide) ?_
          exact W.iret (v := (-1)) hx hb hr (fun t ht hW => ⟨⟨(-1), (n_30, f_31), rfl, hw, ct_mkB ht hP⟩, hS.F ht⟩) hS.2.2 dF_baseCost_114
    · have hw := hw.2 c24
      refine lv_iconst (v := (-1)) hx hb dF_baseCost_67 (by decide) ?_
      exact W.iret (v := (-1)) hx hb hr (fun t ht hW => ⟨⟨(-1), (n_20, f_21), rfl, hw, ct_mkB ht hP⟩, hS.F ht⟩) hS.2.2 dF_baseCost_68
def wp_F_offer (post : ctN → ctF → Prop) (p1 : Int32) (p2 : Int32) (n : ctN) (f : ctF) : Prop := vp_in p1 40 ∧ (wp_C_place (fun (r2 : Int32) (n_3 : ctN) (f_4 : ctF) => (p2 = (-1) → (post n_3 f_4)) ∧ (¬ p2 = (-1) → (vp_in r2 960 ∧ (((f_4 14 r2.toNatClampNeg) = (-1) → (vp_in r2 960 ∧ (∀ f_9 : ctF, f_9 = va_up f_4 14 (upd (f_4 14) r2.toNatClampNeg p2) → (vp_in r2 960 ∧ (∀ f_11 : ctF, f_11 = va_up f_9 15 (upd (f_9 15) r2.toNatClampNeg p1) → (post n_3 f_11)))))) ∧ (¬ (f_4 14 r2.toNatClampNeg) = (-1) → (vp_in r2 960 ∧ (((f_4 14 r2.toNatClampNeg) ≤ p2 → (post n_3 f_4)) ∧ (¬ (f_4 14 r2.toNatClampNeg) ≤ p2 → (vp_in r2 960 ∧ (∀ f_15 : ctF, f_15 = va_up f_4 14 (upd (f_4 14) r2.toNatClampNeg p2) → (vp_in r2 960 ∧ (∀ f_17 : ctF, f_17 = va_up f_15 15 (upd (f_15 15) r2.toNatClampNeg p1) → (post n_3 f_17))))))))))))) (n 2) (f 4 p1.toNatClampNeg) n f)
set_option maxHeartbeats 4000000 in
set_option maxRecDepth 100000 in
theorem met_F_offer (l : Launch) (dC : Nat → ClassId) (dI : Nat → Nat → Nat) (a : Nat → Nat) (cA : Nat → ClassId) (sa : Nat → Nat) (p1 : Int32) (p2 : Int32) (n : ctN) (f : ctF) (sz : Nat) {post : ctN → ctF → Prop} (hw : wp_F_offer post p1 p2 n f) : Met l yF_offer wsF_offer ({ frames := 1, cells := 0, slots := 0, locals := 21 } : Room) (ct_Pc dC dI a cA sa [.ref (a 2), .int p1, .int p2] n f sz) (va_Qv (fun (u : ctN × ctF) => post u.1 u.2) (ct_B dC dI a cA) (va_A (ctW a cA n f) sz)) 0 0 (va_A (ctW a cA n f) sz) := by
  refine Met.ofW (cc := cF_offer) (maxL := 4) (ret := none) (by decide) rfl ?_
  intro p e s m args below meth c s₁ B hml hv
  obtain ⟨rfl, hsz, hP, hK, hD0, hZ⟩ := hv
  have hx := B.exec
  have hb := B.bytes
  have hr := B.returns
  have hts := atoms_spec (ws := wsF_offer) B.pre
  have hown : s.vm.findClass RF = some m.cls := findClass_of_methodNamed B.named
  have hlocks := B.notSynchronized
  subst hsz
  have hD := hD0.self (sz := s.heap.size)
  generalize hAe : va_A (ctW a cA n f) s.heap.size = A at hD hZ ⊢
  have hDa : ∀ (n : ctN) (f : ctF), va_D A (ctW a cA n f) := fun _ _ => ct_D hD
  have hA : ∀ q : Nat, s.heap.size ≤ q → A q := fun q h => by rw [← hAe]; exact Or.inr h
  have hS : va_S A s.heap s.heap [] := va_S.rf
  have hl := lv_entry ([.ref (a 2), .int p1, .int p2]) (n := 4) (Nat.le_of_ble_eq_true rfl)
  rw [lg_entry_eq]
  generalize (lg_sl ([.ref (a 2), .int p1, .int p2]) ++ List.replicate (4 - (lg_sl ([.ref (a 2), .int p1, .int p2])).length) Slot.unset).toArray = ls at hl ⊢
  have hl : lv_has ls 4 [(0, .ref (a 2)), (1, .int p1), (2, .int p2)] := hl
  unfold wp_F_offer at hw
  refine lv_aload_n hx hb dF_offer_0 rfl (lv_at hl 0 rfl) ?_
  refine va_get (D := (dC, dI)) (ci := 2) (v := .int (n 2)) (C := RF) (T := TF) (N := 11) hx hb hts (fun w h => List.mem_cons_of_mem _ (inF w h)) hown hK hP 2 rfl rfl 1 (by decide) (hts (.fieldLink RF 44 "CoverTrees$Forest" "count" "I") (List.mem_cons_of_mem _ wt_96)) (fun _ h9 => h9) rfl dF_offer_1 ?_
  refine lv_aload_n hx hb dF_offer_4 rfl (lv_at hl 0 rfl) ?_
  refine va_get (D := (dC, dI)) (ci := 2) (v := .ref (a 1)) (C := RF) (T := TF) (N := 11) hx hb hts (fun w h => List.mem_cons_of_mem _ (inF w h)) hown hK hP 2 rfl rfl 0 (by decide) (hts (.fieldLink RF 40 "CoverTrees$Forest" "grammar" "LCoverTrees$Grammar;") (List.mem_cons_of_mem _ wt_94)) (fun _ h9 => h9) rfl dF_offer_5 ?_
  refine va_get (D := (dC, dI)) (ci := 1) (v := .ref (a 4)) (C := RG) (T := TG) (N := 8) hx hb hts (fun w h => List.mem_cons_of_mem _ (inG w h)) hown hK hP 1 rfl rfl 3 (by decide) (hts (.fieldLink RF 85 "CoverTrees$Grammar" "goal" "[I") (List.mem_cons_of_mem _ wt_61)) (fun _ h9 => h9) rfl dF_offer_8 ?_
  refine lv_iload_n hx hb dF_offer_11 rfl (lv_at hl 1 rfl) ?_
  obtain ⟨hi1, hw⟩ := hw
  refine va_iald hx hb hK hP 4 1 rfl rfl hi1 dF_offer_12 ?_
  refine ct_i (va_runSN (As := [.int (n 2), .int (f 4 p1.toNatClampNeg)]) (rest := []) ⟨hx, hb, hml, hown, hts⟩ (met_C_place l dC dI a cA sa (n 2) (f 4 p1.toNatClampNeg) n f _ hw) ⟨va_cnB 2 hts (wb_N wt_316) rfl rfl rfl hZ.1 (hts (.initialized "CoverTrees") (List.mem_cons_of_mem _ wt_27)) (by decide +kernel) ⟨Nat.le_of_ble_eq_true rfl, Nat.le_of_ble_eq_true rfl⟩, (hts (.static yC_place) (List.mem_cons_of_mem _ wt_315)), trivial⟩ (ct_pre hK hP (hDa _ _) hZ hS hA) rfl rfl hl.1 rfl (lv_room (Nat.le_of_ble_eq_true rfl)) dF_offer_13 ⟨Nat.le_of_ble_eq_true rfl, Nat.le_of_ble_eq_true rfl⟩) (hDa _ _) hS hA (fun r2 n_3 f_4 H locs hw hP hS => ?_)
  refine lv_istore_n (lv' := [(3, .int r2), (0, .ref (a 2)), (1, .int p1), (2, .int p2)]) hx hb dF_offer_16 rfl hl (by decide) rfl (fun ls hl => ?_)
  refine lv_iload_n hx hb dF_offer_17 rfl (lv_at hl 3 rfl) ?_
  refine lv_iconst (v := (-1)) hx hb dF_offer_18 (by decide) ?_
  refine lv_icmp_eq (tgt := 56) hx hb dF_offer_19 (by decide) (fun c5 => ?_) (fun c5 => ?_)
  · have hw := hw.1 c5
    exact W.vret hx hb hr (fun t ht hW => ⟨⟨(n_3, f_4), rfl, hw, ct_mkB ht hP⟩, hS.F ht⟩) hS.2.2 dF_offer_56
  · have hw := hw.2 c5
    refine lv_aload_n hx hb dF_offer_22 rfl (lv_at hl 1 rfl) ?_
    refine va_get (D := (dC, dI)) (ci := 2) (v := .ref (a 14)) (C := RF) (T := TF) (N := 11) hx hb hts (fun w h => List.mem_cons_of_mem _ (inF w h)) hown hK hP 2 rfl rfl 7 (by decide) (hts (.fieldLink RF 27 "CoverTrees$Forest" "cost" "[I") (List.mem_cons_of_mem _ wt_103)) (fun _ h9 => h9) rfl dF_offer_23 ?_
    refine lv_iload_n hx hb dF_offer_26 rfl (lv_at hl 0 rfl) ?_
    obtain ⟨hi6, hw⟩ := hw
    refine va_iald hx hb hK hP 14 11 rfl rfl hi6 dF_offer_27 ?_
    refine lv_iconst (v := (-1)) hx hb dF_offer_28 (by decide) ?_
    refine lv_icmp_eq (tgt := 42) hx hb dF_offer_29 (by decide) (fun c7 => ?_) (fun c7 => ?_)
    · have hw := hw.1 c7
      refine lv_aload_n hx hb dF_offer_42 rfl (lv_at hl 1 rfl) ?_
      refine va_get (D := (dC, dI)) (ci := 2) (v := .ref (a 14)) (C := RF) (T := TF) (N := 11) hx hb hts (fun w h => List.mem_cons_of_mem _ (inF w h)) hown hK hP 2 rfl rfl 7 (by decide) (hts (.fieldLink RF 27 "CoverTrees$Forest" "cost" "[I") (List.mem_cons_of_mem _ wt_103)) (fun _ h9 => h9) rfl dF_offer_43 ?_
      refine lv_iload_n hx hb dF_offer_46 rfl (lv_at hl 0 rfl) ?_
      refine lv_iload_n hx hb dF_offer_47 rfl (lv_at hl 3 rfl) ?_
      obtain ⟨hi8, hw⟩ := hw
      refine va_iast hx hb hK hP (hDa _ _) hS 14 11 rfl rfl hi8 dF_offer_48 (fun H locs hP _ hS => ?_)
      obtain ⟨f_9, ef_9⟩ : ∃ z : ctF, z = va_up f_4 14 (upd (f_4 14) r2.toNatClampNeg p2) := ⟨_, rfl⟩
      have hw := hw f_9 ef_9
      have hP : va_P (dC, dI) vcl (ctW a cA n_3 f_9) H := by rw [ef_9]; exact hP
      refine lv_aload_n hx hb dF_offer_49 rfl (lv_at hl 1 rfl) ?_
      refine va_get (D := (dC, dI)) (ci := 2) (v := .ref (a 15)) (C := RF) (T := TF) (N := 11) hx hb hts (fun w h => List.mem_cons_of_mem _ (inF w h)) hown hK hP 2 rfl rfl 8 (by decide) (hts (.fieldLink RF 30 "CoverTrees$Forest" "rule" "[I") (List.mem_cons_of_mem _ wt_105)) (fun _ h9 => h9) rfl dF_offer_50 ?_
      refine lv_iload_n hx hb dF_offer_53 rfl (lv_at hl 0 rfl) ?_
      refine lv_iload_n hx hb dF_offer_54 rfl (lv_at hl 2 rfl) ?_
      obtain ⟨hi10, hw⟩ := hw
      refine va_iast hx hb hK hP (hDa _ _) hS 15 12 rfl rfl hi10 dF_offer_55 (fun H locs hP _ hS => ?_)
      obtain ⟨f_11, ef_11⟩ : ∃ z : ctF, z = va_up f_9 15 (upd (f_9 15) r2.toNatClampNeg p1) := ⟨_, rfl⟩
      have hw := hw f_11 ef_11
      have hP : va_P (dC, dI) vcl (ctW a cA n_3 f_11) H := by rw [ef_11]; exact hP
      exact W.vret hx hb hr (fun t ht hW => ⟨⟨(n_3, f_11), rfl, hw, ct_mkB ht hP⟩, hS.F ht⟩) hS.2.2 dF_offer_56
    · have hw := hw.2 c7
      refine lv_iload_n hx hb dF_offer_32 rfl (lv_at hl 3 rfl) ?_
      refine lv_aload_n hx hb dF_offer_33 rfl (lv_at hl 1 rfl) ?_
      refine va_get (D := (dC, dI)) (ci := 2) (v := .ref (a 14)) (C := RF) (T := TF) (N := 11) hx hb hts (fun w h => List.mem_cons_of_mem _ (inF w h)) hown hK hP 2 rfl rfl 7 (by decide) (hts (.fieldLink RF 27 "CoverTrees$Forest" "cost" "[I") (List.mem_cons_of_mem _ wt_103)) (fun _ h9 => h9) rfl dF_offer_34 ?_
      refine lv_iload_n hx hb dF_offer_37 rfl (lv_at hl 0 rfl) ?_
      obtain ⟨hi12, hw⟩ := hw
      refine va_iald hx hb hK hP 14 11 rfl rfl hi12 dF_offer_38 ?_
      refine lv_icmp_ge (tgt := 56) hx hb dF_offer_39 (by decide) (fun c13 => ?_) (fun c13 => ?_)
      · have hw := hw.1 c13
        exact W.vret hx hb hr (fun t ht hW => ⟨⟨(n_3, f_4), rfl, hw, ct_mkB ht hP⟩, hS.F ht⟩) hS.2.2 dF_offer_56
      · have hw := hw.2 c13
        refine lv_aload_n hx hb dF_offer_42 rfl (lv_at hl 1 rfl) ?_
        refine va_get (D := (dC, dI)) (ci := 2) (v := .ref (a 14)) (C := RF) (T := TF) (N := 11) hx hb hts (fun w h => List.mem_cons_of_mem _ (inF w h)) hown hK hP 2 rfl rfl 7 (by decide) (hts (.fieldLink RF 27 "CoverTrees$Forest" "cost" "[I") (List.mem_cons_of_mem _ wt_103)) (fun _ h9 => h9) rfl dF_offer_43 ?_
        refine lv_iload_n hx hb dF_offer_46 rfl (lv_at hl 0 rfl) ?_
        refine lv_iload_n hx hb dF_offer_47 rfl (lv_at hl 3 rfl) ?_
        obtain ⟨hi14, hw⟩ := hw
        refine va_iast hx hb hK hP (hDa _ _) hS 14 11 rfl rfl hi14 dF_offer_48 (fun H locs hP _ hS => ?_)
        obtain ⟨f_15, ef_15⟩ : ∃ z : ctF, z = va_up f_4 14 (upd (f_4 14) r2.toNatClampNeg p2) := ⟨_, rfl⟩
        have hw := hw f_15 ef_15
        have hP : va_P (dC, dI) vcl (ctW a cA n_3 f_15) H := by rw [ef_15]; exact hP
        refine lv_aload_n hx hb dF_offer_49 rfl (lv_at hl 1 rfl) ?_
        refine va_get (D := (dC, dI)) (ci := 2) (v := .ref (a 15)) (C := RF) (T := TF) (N := 11) hx hb hts (fun w h => List.mem_cons_of_mem _ (inF w h)) hown hK hP 2 rfl rfl 8 (by decide) (hts (.fieldLink RF 30 "CoverTrees$Forest" "rule" "[I") (List.mem_cons_of_mem _ wt_105)) (fun _ h9 => h9) rfl dF_offer_50 ?_
        refine lv_iload_n hx hb dF_offer_53 rfl (lv_at hl 0 rfl) ?_
        refine lv_iload_n hx hb dF_offer_54 rfl (lv_at hl 2 rfl) ?_
        obtain ⟨hi16, hw⟩ := hw
        refine va_iast hx hb hK hP (hDa _ _) hS 15 12 rfl rfl hi16 dF_offer_55 (fun H locs hP _ hS => ?_)
        obtain ⟨f_17, ef_17⟩ : ∃ z : ctF, z = va_up f_15 15 (upd (f_15 15) r2.toNatClampNeg p1) := ⟨_, rfl⟩
        have hw := hw f_17 ef_17
        have hP : va_P (dC, dI) vcl (ctW a cA n_3 f_17) H := by rw [ef_17]; exact hP
        exact W.vret hx hb hr (fun t ht hW => ⟨⟨(n_3, f_17), rfl, hw, ct_mkB ht hP⟩, hS.F ht⟩) hS.2.2 dF_offer_56
def wp_F_applyBaseRules_L2 (post : ctN → ctF → Prop) : Nat → Int32 → ctN → ctF → Prop
  | 0, _, _, _ => False
  | k + 1, x1, n, f => ((n 1) ≤ x1 → (post n f)) ∧ (¬ (n 1) ≤ x1 → (vp_in x1 40 ∧ (vp_in (n 2) 120 ∧ ((¬ (f 5 x1.toNatClampNeg) = (f 9 (n 2).toNatClampNeg) → (∀ x1_5 : Int32, x1_5 = x1 + 1 → (wp_F_applyBaseRules_L2 post k x1_5 n f))) ∧ ((f 5 x1.toNatClampNeg) = (f 9 (n 2).toNatClampNeg) → (wp_F_baseCost (fun (r6 : Int32) (n_7 : ctN) (f_8 : ctF) => wp_F_offer (fun (n_10 : ctN) (f_11 : ctF) => ∀ x1_12 : Int32, x1_12 = x1 + 1 → (wp_F_applyBaseRules_L2 post k x1_12 n_10 f_11)) x1 r6 n_7 f_8) x1 n f))))))
def wp_F_applyBaseRules (post : ctN → ctF → Prop) (n : ctN) (f : ctF) : Prop := ∃ k, wp_F_applyBaseRules_L2 post k 0 n f
set_option maxHeartbeats 4000000 in
set_option maxRecDepth 100000 in
theorem met_F_applyBaseRules (l : Launch) (dC : Nat → ClassId) (dI : Nat → Nat → Nat) (a : Nat → Nat) (cA : Nat → ClassId) (sa : Nat → Nat) (n : ctN) (f : ctF) (sz : Nat) {post : ctN → ctF → Prop} (hw : wp_F_applyBaseRules post n f) : Met l yF_applyBaseRules wsF_applyBaseRules ({ frames := 2, cells := 0, slots := 0, locals := 45 } : Room) (ct_Pc dC dI a cA sa [.ref (a 2)] n f sz) (va_Qv (fun (u : ctN × ctF) => post u.1 u.2) (ct_B dC dI a cA) (va_A (ctW a cA n f) sz)) 0 0 (va_A (ctW a cA n f) sz) := by
  refine Met.ofW (cc := cF_applyBaseRules) (maxL := 2) (ret := none) (by decide) rfl ?_
  intro p e s m args below meth c s₁ B hml hv
  obtain ⟨rfl, hsz, hP, hK, hD0, hZ⟩ := hv
  have hx := B.exec
  have hb := B.bytes
  have hr := B.returns
  have hts := atoms_spec (ws := wsF_applyBaseRules) B.pre
  have hown : s.vm.findClass RF = some m.cls := findClass_of_methodNamed B.named
  have hlocks := B.notSynchronized
  subst hsz
  have hD := hD0.self (sz := s.heap.size)
  generalize hAe : va_A (ctW a cA n f) s.heap.size = A at hD hZ ⊢
  have hDa : ∀ (n : ctN) (f : ctF), va_D A (ctW a cA n f) := fun _ _ => ct_D hD
  have hA : ∀ q : Nat, s.heap.size ≤ q → A q := fun q h => by rw [← hAe]; exact Or.inr h
  have hS : va_S A s.heap s.heap [] := va_S.rf
  have hl := lv_entry ([.ref (a 2)]) (n := 2) (Nat.le_of_ble_eq_true rfl)
  rw [lg_entry_eq]
  generalize (lg_sl ([.ref (a 2)]) ++ List.replicate (2 - (lg_sl ([.ref (a 2)])).length) Slot.unset).toArray = ls at hl ⊢
  have hl : lv_has ls 2 [(0, .ref (a 2))] := hl
  unfold wp_F_applyBaseRules at hw
  have loop_2 : ∀ (k : Nat) (x1 : Int32) (n : ctN) (f : ctF) (H : Heap) (locs : List Loc) (ls : Array Slot), wp_F_applyBaseRules_L2 post k x1 n f → va_P (dC, dI) vcl (ctW a cA n f) H → va_S A s.heap H locs → lv_has ls 2 [(0, .ref (a 2)), (1, .int x1)] → W p l e (headSpec wsF_applyBaseRules ({ frames := 2, cells := 0, slots := 0, locals := 45 } : Room)).room s m (([.ref (a 2)] : List Value).toArray) below meth c H locs 0 0 (MQ below (va_Qv (fun (u : ctN × ctF) => post u.1 u.2) (ct_B dC dI a cA) A) (([.ref (a 2)] : List Value).toArray) s 0 0 A) (F0 m 2 ls []) := by
    intro k
    induction k with
    | zero => intro x1 n f H locs ls hw; exact hw.elim
    | succ k ih =>
      intro x1 n f H locs ls hw hP hS hl
      rw [wp_F_applyBaseRules_L2] at hw
      refine lv_iload_n hx hb dF_applyBaseRules_2 rfl (lv_at hl 1 rfl) ?_
      refine lv_aload_n hx hb dF_applyBaseRules_3 rfl (lv_at hl 0 rfl) ?_
      refine va_get (D := (dC, dI)) (ci := 2) (v := .ref (a 1)) (C := RF) (T := TF) (N := 11) hx hb hts (fun w h => List.mem_cons_of_mem _ (inF w h)) hown hK hP 2 rfl rfl 0 (by decide) (hts (.fieldLink RF 40 "CoverTrees$Forest" "grammar" "LCoverTrees$Grammar;") (List.mem_cons_of_mem _ wt_94)) (fun _ h9 => h9) rfl dF_applyBaseRules_4 ?_
      refine va_get (D := (dC, dI)) (ci := 1) (v := .int (n 1)) (C := RG) (T := TG) (N := 8) hx hb hts (fun w h => List.mem_cons_of_mem _ (inG w h)) hown hK hP 1 rfl rfl 2 (by decide) (hts (.fieldLink RF 66 "CoverTrees$Grammar" "ruleCount" "I") (List.mem_cons_of_mem _ wt_59)) (fun _ h9 => h9) rfl dF_applyBaseRules_7 ?_
      refine lv_icmp_ge (tgt := 50) hx hb dF_applyBaseRules_10 (by decide) (fun c1 => ?_) (fun c1 => ?_)
      · have hw := hw.1 c1
        exact W.vret hx hb hr (fun t ht hW => ⟨⟨(n, f), rfl, hw, ct_mkB ht hP⟩, hS.F ht⟩) hS.2.2 dF_applyBaseRules_50
      · have hw := hw.2 c1
        refine lv_aload_n hx hb dF_applyBaseRules_13 rfl (lv_at hl 0 rfl) ?_
        refine va_get (D := (dC, dI)) (ci := 2) (v := .ref (a 1)) (C := RF) (T := TF) (N := 11) hx hb hts (fun w h => List.mem_cons_of_mem _ (inF w h)) hown hK hP 2 rfl rfl 0 (by decide) (hts (.fieldLink RF 40 "CoverTrees$Forest" "grammar" "LCoverTrees$Grammar;") (List.mem_cons_of_mem _ wt_94)) (fun _ h9 => h9) rfl dF_applyBaseRules_14 ?_
        refine va_get (D := (dC, dI)) (ci := 1) (v := .ref (a 5)) (C := RG) (T := TG) (N := 8) hx hb hts (fun w h => List.mem_cons_of_mem _ (inG w h)) hown hK hP 1 rfl rfl 4 (by decide) (hts (.fieldLink RF 71 "CoverTrees$Grammar" "operator" "[I") (List.mem_cons_of_mem _ wt_63)) (fun _ h9 => h9) rfl dF_applyBaseRules_17 ?_
        refine lv_iload_n hx hb dF_applyBaseRules_20 rfl (lv_at hl 1 rfl) ?_
        obtain ⟨hi2, hw⟩ := hw
        refine va_iald hx hb hK hP 5 2 rfl rfl hi2 dF_applyBaseRules_21 ?_
        refine lv_aload_n hx hb dF_applyBaseRules_22 rfl (lv_at hl 0 rfl) ?_
        refine va_get (D := (dC, dI)) (ci := 2) (v := .ref (a 9)) (C := RF) (T := TF) (N := 11) hx hb hts (fun w h => List.mem_cons_of_mem _ (inF w h)) hown hK hP 2 rfl rfl 2 (by decide) (hts (.fieldLink RF 9 "CoverTrees$Forest" "operator" "[I") (List.mem_cons_of_mem _ wt_97)) (fun _ h9 => h9) rfl dF_applyBaseRules_23 ?_
        refine lv_aload_n hx hb dF_applyBaseRules_26 rfl (lv_at hl 0 rfl) ?_
        refine va_get (D := (dC, dI)) (ci := 2) (v := .int (n 2)) (C := RF) (T := TF) (N := 11) hx hb hts (fun w h => List.mem_cons_of_mem _ (inF w h)) hown hK hP 2 rfl rfl 1 (by decide) (hts (.fieldLink RF 44 "CoverTrees$Forest" "count" "I") (List.mem_cons_of_mem _ wt_96)) (fun _ h9 => h9) rfl dF_applyBaseRules_27 ?_
        obtain ⟨hi3, hw⟩ := hw
        refine va_iald hx hb hK hP 9 6 rfl rfl hi3 dF_applyBaseRules_30 ?_
        refine lv_icmp_ne (tgt := 44) hx hb dF_applyBaseRules_31 (by decide) (fun c4 => ?_) (fun c4 => ?_)
        · have hw := hw.1 c4
          obtain ⟨x1_5, ex1_5⟩ : ∃ y : Int32, y = x1 + 1 := ⟨_, rfl⟩
          have hw := hw x1_5 ex1_5
          refine lv_iinc (v := x1_5) (lv' := [(1, .int x1_5), (0, .ref (a 2))]) hx hb dF_applyBaseRules_44 hl (k := 1) rfl (by rw [ex1_5]; rfl) (by decide) rfl (fun ls hl => ?_)
          refine lv_goto (tgt := 2) hx hb dF_applyBaseRules_47 (by decide) ?_
          exact ih x1_5 n f _ _ ls hw hP hS (lv_sub hl [1, 0] rfl)
        · have hw := hw.2 c4
          refine lv_aload_n hx hb dF_applyBaseRules_34 rfl (lv_at hl 0 rfl) ?_
          refine lv_iload_n hx hb dF_applyBaseRules_35 rfl (lv_at hl 1 rfl) ?_
          refine lv_aload_n hx hb dF_applyBaseRules_36 rfl (lv_at hl 0 rfl) ?_
          refine lv_iload_n hx hb dF_applyBaseRules_37 rfl (lv_at hl 1 rfl) ?_
          refine ct_i (va_runV (As := [.int x1]) (rest := [.int x1, .ref (a 2)]) ⟨hx, hb, hml, hown, hts⟩ (met_F_baseCost l dC dI a cA sa x1 n f _ hw) (cwV 1 hts (wb_V wt_321 wt_323 wt_4 wt_29 wt_324) rfl rfl rfl (by decide +kernel) ⟨Nat.le_of_ble_eq_true rfl, Nat.le_of_ble_eq_true rfl⟩) (ct_preV hK hP (hDa _ _) hZ hS hA (va_recv hK hP (ci := 2) (q0 := 2) rfl rfl)) rfl rfl hl.1 rfl (lv_room (Nat.le_of_ble_eq_true rfl)) dF_applyBaseRules_38 ⟨Nat.le_of_ble_eq_true rfl, Nat.le_of_ble_eq_true rfl⟩) (hDa _ _) hS hA (fun r6 n_7 f_8 H locs hw hP hS => ?_)
          refine ct_v (va_runV (As := [.int x1, .int r6]) (rest := []) ⟨hx, hb, hml, hown, hts⟩ (met_F_offer l dC dI a cA sa x1 r6 n_7 f_8 _ hw) (cwV 2 hts (wb_V wt_325 wt_327 wt_5 wt_29 wt_328) rfl rfl rfl (by decide +kernel) ⟨Nat.le_of_ble_eq_true rfl, Nat.le_of_ble_eq_true rfl⟩) (ct_preV hK hP (hDa _ _) hZ hS hA (va_recv hK hP (ci := 2) (q0 := 2) rfl rfl)) rfl rfl hl.1 rfl (lv_room (Nat.le_of_ble_eq_true rfl)) dF_applyBaseRules_41 ⟨Nat.le_of_ble_eq_true rfl, Nat.le_of_ble_eq_true rfl⟩) (hDa _ _) hS hA (fun n_10 f_11 H locs hw hP hS => ?_)
          obtain ⟨x1_12, ex1_12⟩ : ∃ y : Int32, y = x1 + 1 := ⟨_, rfl⟩
          have hw := hw x1_12 ex1_12
          refine lv_iinc (v := x1_12) (lv' := [(1, .int x1_12), (0, .ref (a 2))]) hx hb dF_applyBaseRules_44 hl (k := 1) rfl (by rw [ex1_12]; rfl) (by decide) rfl (fun ls hl => ?_)
          refine lv_goto (tgt := 2) hx hb dF_applyBaseRules_47 (by decide) ?_
          exact ih x1_12 n_10 f_11 _ _ ls hw hP hS (lv_sub hl [1, 0] rfl)
  refine lv_iconst (v := 0) hx hb dF_applyBaseRules_0 (by decide) ?_
  refine lv_istore_n (lv' := [(1, .int 0), (0, .ref (a 2))]) hx hb dF_applyBaseRules_1 rfl hl (by decide) rfl (fun ls hl => ?_)
  obtain ⟨k, hw⟩ := hw
  exact loop_2 k 0 n f _ _ ls hw hP hS (lv_sub hl [1, 0] rfl)
def wp_F_cheapestUnsettled_L4 (post : Int32 → ctN → ctF → Prop) : Nat → Int32 → Int32 → ctN → ctF → Prop
  | 0, _, _, _, _ => False
  | k + 1, x1, x2, n, f => (8 ≤ x2 → (post x1 n f)) ∧ (¬ 8 ≤ x2 → (wp_C_place (fun (r2 : Int32) (n_3 : ctN) (f_4 : ctF) => vp_in r2 960 ∧ (∀ x3_6 : Int32, x3_6 = (f_4 14 r2.toNatClampNeg) → (vp_in x2 8 ∧ ((¬ (f_4 17 x2.toNatClampNeg) = 0 → (∀ x2_9 : Int32, x2_9 = x2 + 1 → (wp_F_cheapestUnsettled_L4 post k x1 x2_9 n_3 f_4))) ∧ ((f_4 17 x2.toNatClampNeg) = 0 → ((x3_6 = (-1) → (∀ x2_11 : Int32, x2_11 = x2 + 1 → (wp_F_cheapestUnsettled_L4 post k x1 x2_11 n_3 f_4))) ∧ (¬ x3_6 = (-1) → ((x1 = (-1) → (∀ x2_13 : Int32, x2_13 = x2 + 1 → (wp_F_cheapestUnsettled_L4 post k x2 x2_13 n_3 f_4))) ∧ (¬ x1 = (-1) → (wp_C_place (fun (r14 : Int32) (n_15 : ctN) (f_16 : ctF) => vp_in r14 960 ∧ (((f_16 14 r14.toNatClampNeg) ≤ x3_6 → (∀ x2_19 : Int32, x2_19 = x2 + 1 → (wp_F_cheapestUnsettled_L4 post k x1 x2_19 n_15 f_16))) ∧ (¬ (f_16 14 r14.toNatClampNeg) ≤ x3_6 → (∀ x2_20 : Int32, x2_20 = x2 + 1 → (wp_F_cheapestUnsettled_L4 post k x2 x2_20 n_15 f_16))))) (n_3 2) x1 n_3 f_4)))))))))) (n 2) x2 n f))
def wp_F_cheapestUnsettled (post : Int32 → ctN → ctF → Prop) (n : ctN) (f : ctF) : Prop := ∃ k, wp_F_cheapestUnsettled_L4 post k (-1) 0 n f
set_option maxHeartbeats 4000000 in
set_option maxRecDepth 100000 in
theorem met_F_cheapestUnsettled (l : Launch) (dC : Nat → ClassId) (dI : Nat → Nat → Nat) (a : Nat → Nat) (cA : Nat → ClassId) (sa : Nat → Nat) (n : ctN) (f : ctF) (sz : Nat) {post : Int32 → ctN → ctF → Prop} (hw : wp_F_cheapestUnsettled post n f) : Met l yF_cheapestUnsettled wsF_cheapestUnsettled ({ frames := 1, cells := 0, slots := 0, locals := 21 } : Room) (ct_Pc dC dI a cA sa [.ref (a 2)] n f sz) (va_Qi (fun (r : Int32) (u : ctN × ctF) => post r u.1 u.2) (ct_B dC dI a cA) (va_A (ctW a cA n f) sz)) 0 0 (va_A (ctW a cA n f) sz) := by
  refine Met.ofW (cc := cF_cheapestUnsettled) (maxL := 4) (ret := (some .int)) (by decide) rfl ?_
  intro p e s m args below meth c s₁ B hml hv
  obtain ⟨rfl, hsz, hP, hK, hD0, hZ⟩ := hv
  have hx := B.exec
  have hb := B.bytes
  have hr := B.returns
  have hts := atoms_spec (ws := wsF_cheapestUnsettled) B.pre
  have hown : s.vm.findClass RF = some m.cls := findClass_of_methodNamed B.named
  have hlocks := B.notSynchronized
  subst hsz
  have hD := hD0.self (sz := s.heap.size)
  generalize hAe : va_A (ctW a cA n f) s.heap.size = A at hD hZ ⊢
  have hDa : ∀ (n : ctN) (f : ctF), va_D A (ctW a cA n f) := fun _ _ => ct_D hD
  have hA : ∀ q : Nat, s.heap.size ≤ q → A q := fun q h => by rw [← hAe]; exact Or.inr h
  have hS : va_S A s.heap s.heap [] := va_S.rf
  have hl := lv_entry ([.ref (a 2)]) (n := 4) (Nat.le_of_ble_eq_true rfl)
  rw [lg_entry_eq]
  generalize (lg_sl ([.ref (a 2)]) ++ List.replicate (4 - (lg_sl ([.ref (a 2)])).length) Slot.unset).toArray = ls at hl ⊢
  have hl : lv_has ls 4 [(0, .ref (a 2))] := hl
  unfold wp_F_cheapestUnsettled at hw
  have loop_4 : ∀ (k : Nat) (x1 x2 : Int32) (n : ctN) (f : ctF) (H : Heap) (locs : List Loc) (ls : Array Slot), wp_F_cheapestUnsettled_L4 post k x1 x2 n f → va_P (dC, dI) vcl (ctW a cA n f) H → va_S A s.heap H locs → lv_has ls 4 [(0, .ref (a 2)), (1, .int x1), (2, .int x2)] → W p l e (headSpec wsF_cheapestUnsettled ({ frames := 1, cells := 0, slots := 0, locals := 21 } : Room)).room s m (([.ref (a 2)] : List Value).toArray) below meth c H locs 0 0 (MQ below (va_Qi (fun (r : Int32) (u : ctN × ctF) => post r u.1 u.2) (ct_B dC dI a cA) A) (([.ref (a 2)] : List Value).toArray) s 0 0 A) (F0 m 4 ls []) := by
    intro k
    induction k with
    | zero => intro x1 x2 n f H locs ls hw; exact hw.elim
    | succ k ih =>
      intro x1 x2 n f H locs ls hw hP hS hl
      rw [wp_F_cheapestUnsettled_L4] at hw
      refine lv_iload_n hx hb dF_cheapestUnsettled_4 rfl (lv_at hl 2 rfl) ?_
      refine lv_bipush (v := 8) hx hb dF_cheapestUnsettled_5 (by decide) ?_
      refine lv_icmp_ge (tgt := 68) hx hb dF_cheapestUnsettled_7 (by decide) (fun c1 => ?_) (fun c1 => ?_)
      · have hw := hw.1 c1
        refine lv_iload_n hx hb dF_cheapestUnsettled_68 rfl (lv_at hl 1 rfl) ?_
        exact W.iret (v := x1) hx hb hr (fun t ht hW => ⟨⟨x1, (n, f), rfl, hw, ct_mkB ht hP⟩, hS.F ht⟩) hS.2.2 dF_cheapestUnsettled_69
      · have hw := hw.2 c1
        refine lv_aload_n hx hb dF_cheapestUnsettled_10 rfl (lv_at hl 0 rfl) ?_
        refine va_get (D := (dC, dI)) (ci := 2) (v := .ref (a 14)) (C := RF) (T := TF) (N := 11) hx hb hts (fun w h => List.mem_cons_of_mem _ (inF w h)) hown hK hP 2 rfl rfl 7 (by decide) (hts (.fieldLink RF 27 "CoverTrees$Forest" "cost" "[I") (List.mem_cons_of_mem _ wt_103)) (fun _ h9 => h9) rfl dF_cheapestUnsettled_11 ?_
        refine lv_aload_n hx hb dF_cheapestUnsettled_14 rfl (lv_at hl 0 rfl) ?_
        refine va_get (D := (dC, dI)) (ci := 2) (v := .int (n 2)) (C := RF) (T := TF) (N := 11) hx hb hts (fun w h => List.mem_cons_of_mem _ (inF w h)) hown hK hP 2 rfl rfl 1 (by decide) (hts (.fieldLink RF 44 "CoverTrees$Forest" "count" "I") (List.mem_cons_of_mem _ wt_96)) (fun _ h9 => h9) rfl dF_cheapestUnsettled_15 ?_
        refine lv_iload_n hx hb dF_cheapestUnsettled_18 rfl (lv_at hl 2 rfl) ?_
        refine ct_i (va_runSN (As := [.int (n 2), .int x2]) (rest := [.ref (a 14)]) ⟨hx, hb, hml, hown, hts⟩ (met_C_place l dC dI a cA sa (n 2) x2 n f _ hw) ⟨va_cnB 2 hts (wb_N wt_316) rfl rfl rfl hZ.1 (hts (.initialized "CoverTrees") (List.mem_cons_of_mem _ wt_27)) (by decide +kernel) ⟨Nat.le_of_ble_eq_true rfl, Nat.le_of_ble_eq_true rfl⟩, (hts (.static yC_place) (List.mem_cons_of_mem _ wt_315)), trivial⟩ (ct_pre hK hP (hDa _ _) hZ hS hA) rfl rfl hl.1 rfl (lv_room (Nat.le_of_ble_eq_true rfl)) dF_cheapestUnsettled_19 ⟨Nat.le_of_ble_eq_true rfl, Nat.le_of_ble_eq_true rfl⟩) (hDa _ _) hS hA (fun r2 n_3 f_4 H locs hw hP hS => ?_)
        obtain ⟨hi5, hw⟩ := hw
        refine va_iald hx hb hK hP 14 11 rfl rfl hi5 dF_cheapestUnsettled_22 ?_
        refine lv_topi (fun x3_6 ex3_6 => ?_)
        have hw := hw x3_6 ex3_6
        refine lv_istore_n (lv' := [(3, .int x3_6), (0, .ref (a 2)), (1, .int x1), (2, .int x2)]) hx hb dF_cheapestUnsettled_23 rfl hl (by decide) rfl (fun ls hl => ?_)
        refine lv_aload_n hx hb dF_cheapestUnsettled_24 rfl (lv_at hl 1 rfl) ?_
        refine va_get (D := (dC, dI)) (ci := 2) (v := .ref (a 17)) (C := RF) (T := TF) (N := 11) hx hb hts (fun w h => List.mem_cons_of_mem _ (inF w h)) hown hK hP 2 rfl rfl 10 (by decide) (hts (.fieldLink RF 36 "CoverTrees$Forest" "settled" "[Z") (List.mem_cons_of_mem _ wt_109)) (fun _ h9 => h9) rfl dF_cheapestUnsettled_25 ?_
        refine lv_iload_n hx hb dF_cheapestUnsettled_28 rfl (lv_at hl 3 rfl) ?_
        obtain ⟨hi7, hw⟩ := hw
        refine va_zald hx hb hK hP 17 14 rfl rfl hi7 dF_cheapestUnsettled_29 ?_
        refine lv_if_ne (tgt := 62) hx hb dF_cheapestUnsettled_30 (by decide) (fun c8 => ?_) (fun c8 => ?_)
        · have hw := hw.1 c8
          obtain ⟨x2_9, ex2_9⟩ : ∃ y : Int32, y = x2 + 1 := ⟨_, rfl⟩
          have hw := hw x2_9 ex2_9
          refine lv_iinc (v := x2_9) (lv' := [(2, .int x2_9), (3, .int x3_6), (0, .ref (a 2)), (1, .int x1)]) hx hb dF_cheapestUnsettled_62 hl (k := 3) rfl (by rw [ex2_9]; rfl) (by decide) rfl (fun ls hl => ?_)
          refine lv_goto (tgt := 4) hx hb dF_cheapestUnsettled_65 (by decide) ?_
          exact ih x1 x2_9 n_3 f_4 _ _ ls hw hP hS (lv_sub hl [2, 3, 0] rfl)
        · have hw := hw.2 c8
          refine lv_iload_n hx hb dF_cheapestUnsettled_33 rfl (lv_at hl 0 rfl) ?_
          refine lv_iconst (v := (-1)) hx hb dF_cheapestUnsettled_34 (by decide) ?_
          refine lv_icmp_eq (tgt := 62) hx hb dF_cheapestUnsettled_35 (by decide) (fun c10 => ?_) (fun c10 => ?_)
          · have hw := hw.1 c10
            obtain ⟨x2_11, ex2_11⟩ : ∃ y : Int32, y = x2 + 1 := ⟨_, rfl⟩
            have hw := hw x2_11 ex2_11
            refine lv_iinc (v := x2_11) (lv' := [(2, .int x2_11), (3, .int x3_6), (0, .ref (a 2)), (1, .int x1)]) hx hb dF_cheapestUnsettled_62 hl (k := 3) rfl (by rw [ex2_11]; rfl) (by decide) rfl (fun ls hl => ?_)
            refine lv_goto (tgt := 4) hx hb dF_cheapestUnsettled_65 (by decide) ?_
            exact ih x1 x2_11 n_3 f_4 _ _ ls hw hP hS (lv_sub hl [2, 3, 0] rfl)
          · have hw := hw.2 c10
            refine lv_iload_n hx hb dF_cheapestUnsettled_38 rfl (lv_at hl 2 rfl) ?_
            refine lv_iconst (v := (-1)) hx hb dF_cheapestUnsettled_39 (by decide) ?_
            refine lv_icmp_eq (tgt := 60) hx hb dF_cheapestUnsettled_40 (by decide) (fun c12 => ?_) (fun c12 => ?_)
            · have hw := hw.1 c12
              refine lv_iload_n hx hb dF_cheapestUnsettled_60 rfl (lv_at hl 3 rfl) ?_
              refine lv_istore_n (lv' := [(1, .int x2), (3, .int x3_6), (0, .ref (a 2)), (2, .int x2)]) hx hb dF_cheapestUnsettled_61 rfl hl (by decide) rfl (fun ls hl => ?_)
              obtain ⟨x2_13, ex2_13⟩ : ∃ y : Int32, y = x2 + 1 := ⟨_, rfl⟩
              have hw := hw x2_13 ex2_13
              refine lv_iinc (v := x2_13) (lv' := [(2, .int x2_13), (1, .int x2), (3, .int x3_6), (0, .ref (a 2))]) hx hb dF_cheapestUnsettled_62 hl (k := 3) rfl (by rw [ex2_13]; rfl) (by decide) rfl (fun ls hl => ?_)
              refine lv_goto (tgt := 4) hx hb dF_cheapestUnsettled_65 (by decide) ?_
              exact ih x2 x2_13 n_3 f_4 _ _ ls hw hP hS (lv_sub hl [3, 1, 0] rfl)
            · have hw := hw.2 c12
              refine lv_iload_n hx hb dF_cheapestUnsettled_43 rfl (lv_at hl 0 rfl) ?_
              refine lv_aload_n hx hb dF_cheapestUnsettled_44 rfl (lv_at hl 1 rfl) ?_
              refine va_get (D := (dC, dI)) (ci := 2) (v := .ref (a 14)) (C := RF) (T := TF) (N := 11) hx hb hts (fun w h => List.mem_cons_of_mem _ (inF w h)) hown hK hP 2 rfl rfl 7 (by decide) (hts (.fieldLink RF 27 "CoverTrees$Forest" "cost" "[I") (List.mem_cons_of_mem _ wt_103)) (fun _ h9 => h9) rfl dF_cheapestUnsettled_45 ?_
              refine lv_aload_n hx hb dF_cheapestUnsettled_48 rfl (lv_at hl 1 rfl) ?_
              refine va_get (D := (dC, dI)) (ci := 2) (v := .int (n_3 2)) (C := RF) (T := TF) (N := 11) hx hb hts (fun w h => List.mem_cons_of_mem _ (inF w h)) hown hK hP 2 rfl rfl 1 (by decide) (hts (.fieldLink RF 44 "CoverTrees$Forest" "count" "I") (List.mem_cons_of_mem _ wt_96)) (fun _ h9 => h9) rfl dF_cheapestUnsettled_49 ?_
              refine lv_iload_n hx hb dF_cheapestUnsettled_52 rfl (lv_at hl 2 rfl) ?_
              refine ct_i (va_runSN (As := [.int (n_3 2), .int x1]) (rest := [.ref (a 14), .int x3_6]) ⟨hx, hb, hml, hown, hts⟩ (met_C_place l dC dI a cA sa (n_3 2) x1 n_3 f_4 _ hw) ⟨va_cnB 2 hts (wb_N wt_316) rfl rfl rfl hZ.1 (hts (.initialized "CoverTrees") (List.mem_cons_of_mem _ wt_27)) (by decide +kernel) ⟨Nat.le_of_ble_eq_true rfl, Nat.le_of_ble_eq_true rfl⟩, (hts (.static yC_place) (List.mem_cons_of_mem _ wt_315)), trivial⟩ (ct_pre hK hP (hDa _ _) hZ hS hA) rfl rfl hl.1 rfl (lv_room (Nat.le_of_ble_eq_true rfl)) dF_cheapestUnsettled_53 ⟨Nat.le_of_ble_eq_true rfl, Nat.le_of_ble_eq_true rfl⟩) (hDa _ _) hS hA (fun r14 n_15 f_16 H locs hw hP hS => ?_)
              obtain ⟨hi17, hw⟩ := hw
              refine va_iald hx hb hK hP 14 11 rfl rfl hi17 dF_cheapestUnsettled_56 ?_
              refine lv_icmp_ge (tgt := 62) hx hb dF_cheapestUnsettled_57 (by decide) (fun c18 => ?_) (fun c18 => ?_)
              · have hw := hw.1 c18
                obtain ⟨x2_19, ex2_19⟩ : ∃ y : Int32, y = x2 + 1 := ⟨_, rfl⟩
                have hw := hw x2_19 ex2_19
                refine lv_iinc (v := x2_19) (lv' := [(2, .int x2_19), (3, .int x3_6), (0, .ref (a 2)), (1, .int x1)]) hx hb dF_cheapestUnsettled_62 hl (k := 3) rfl (by rw [ex2_19]; rfl) (by decide) rfl (fun ls hl => ?_)
                refine lv_goto (tgt := 4) hx hb dF_cheapestUnsettled_65 (by decide) ?_
                exact ih x1 x2_19 n_15 f_16 _ _ ls hw hP hS (lv_sub hl [2, 3, 0] rfl)
              · have hw := hw.2 c18
                refine lv_iload_n hx hb dF_cheapestUnsettled_60 rfl (lv_at hl 3 rfl) ?_
                refine lv_istore_n (lv' := [(1, .int x2), (3, .int x3_6), (0, .ref (a 2)), (2, .int x2)]) hx hb dF_cheapestUnsettled_61 rfl hl (by decide) rfl (fun ls hl => ?_)
                obtain ⟨x2_20, ex2_20⟩ : ∃ y : Int32, y = x2 + 1 := ⟨_, rfl⟩
                have hw := hw x2_20 ex2_20
                refine lv_iinc (v := x2_20) (lv' := [(2, .int x2_20), (1, .int x2), (3, .int x3_6), (0, .ref (a 2))]) hx hb dF_cheapestUnsettled_62 hl (k := 3) rfl (by rw [ex2_20]; rfl) (by decide) rfl (fun ls hl => ?_)
                refine lv_goto (tgt := 4) hx hb dF_cheapestUnsettled_65 (by decide) ?_
                exact ih x2 x2_20 n_15 f_16 _ _ ls hw hP hS (lv_sub hl [3, 1, 0] rfl)
  refine lv_iconst (v := (-1)) hx hb dF_cheapestUnsettled_0 (by decide) ?_
  refine lv_istore_n (lv' := [(1, .int (-1)), (0, .ref (a 2))]) hx hb dF_cheapestUnsettled_1 rfl hl (by decide) rfl (fun ls hl => ?_)
  refine lv_iconst (v := 0) hx hb dF_cheapestUnsettled_2 (by decide) ?_
  refine lv_istore_n (lv' := [(2, .int 0), (1, .int (-1)), (0, .ref (a 2))]) hx hb dF_cheapestUnsettled_3 rfl hl (by decide) rfl (fun ls hl => ?_)
  obtain ⟨k, hw⟩ := hw
  exact loop_4 k (-1) 0 n f _ _ ls hw hP hS (lv_sub hl [2, 1, 0] rfl)
def wp_F_applyChainRulesFrom_L16 (post : ctN → ctF → Prop) : Nat → Int32 → Int32 → Int32 → ctN → ctF → Prop
  | 0, _, _, _, _, _ => False
  | k + 1, x1, x2, x3, n, f => ((n 1) ≤ x3 → (post n f)) ∧ (¬ (n 1) ≤ x3 → (wp_G_isChainFrom (fun (r7 : Int32) (n_8 : ctN) (f_9 : ctF) => (r7 = 0 → (∀ x3_11 : Int32, x3_11 = x3 + 1 → (wp_F_applyChainRulesFrom_L16 post k x1 x2 x3_11 n_8 f_9))) ∧ (¬ r7 = 0 → (vp_in x3 40 ∧ (wp_F_offer (fun (n_14 : ctN) (f_15 : ctF) => ∀ x3_16 : Int32, x3_16 = x3 + 1 → (wp_F_applyChainRulesFrom_L16 post k x1 x2 x3_16 n_14 f_15)) x3 (x2 + (f_9 8 x3.toNatClampNeg)) n_8 f_9)))) x3 x1 n f))
def wp_F_applyChainRulesFrom (post : ctN → ctF → Prop) (p1 : Int32) (n : ctN) (f : ctF) : Prop := wp_C_place (fun (r1 : Int32) (n_2 : ctN) (f_3 : ctF) => vp_in r1 960 ∧ (∀ x2_5 : Int32, x2_5 = (f_3 14 r1.toNatClampNeg) → (∃ k, wp_F_applyChainRulesFrom_L16 post k p1 x2_5 0 n_2 f_3))) (n 2) p1 n f
set_option maxHeartbeats 4000000 in
set_option maxRecDepth 100000 in
theorem met_F_applyChainRulesFrom (l : Launch) (dC : Nat → ClassId) (dI : Nat → Nat → Nat) (a : Nat → Nat) (cA : Nat → ClassId) (sa : Nat → Nat) (p1 : Int32) (n : ctN) (f : ctF) (sz : Nat) {post : ctN → ctF → Prop} (hw : wp_F_applyChainRulesFrom post p1 n f) : Met l yF_applyChainRulesFrom wsF_applyChainRulesFrom ({ frames := 2, cells := 0, slots := 0, locals := 44 } : Room) (ct_Pc dC dI a cA sa [.ref (a 2), .int p1] n f sz) (va_Qv (fun (u : ctN × ctF) => post u.1 u.2) (ct_B dC dI a cA) (va_A (ctW a cA n f) sz)) 0 0 (va_A (ctW a cA n f) sz) := by
  refine Met.ofW (cc := cF_applyChainRulesFrom) (maxL := 4) (ret := none) (by decide) rfl ?_
  intro p e s m args below meth c s₁ B hml hv
  obtain ⟨rfl, hsz, hP, hK, hD0, hZ⟩ := hv
  have hx := B.exec
  have hb := B.bytes
  have hr := B.returns
  have hts := atoms_spec (ws := wsF_applyChainRulesFrom) B.pre
  have hown : s.vm.findClass RF = some m.cls := findClass_of_methodNamed B.named
  have hlocks := B.notSynchronized
  subst hsz
  have hD := hD0.self (sz := s.heap.size)
  generalize hAe : va_A (ctW a cA n f) s.heap.size = A at hD hZ ⊢
  have hDa : ∀ (n : ctN) (f : ctF), va_D A (ctW a cA n f) := fun _ _ => ct_D hD
  have hA : ∀ q : Nat, s.heap.size ≤ q → A q := fun q h => by rw [← hAe]; exact Or.inr h
  have hS : va_S A s.heap s.heap [] := va_S.rf
  have hl := lv_entry ([.ref (a 2), .int p1]) (n := 4) (Nat.le_of_ble_eq_true rfl)
  rw [lg_entry_eq]
  generalize (lg_sl ([.ref (a 2), .int p1]) ++ List.replicate (4 - (lg_sl ([.ref (a 2), .int p1])).length) Slot.unset).toArray = ls at hl ⊢
  have hl : lv_has ls 4 [(0, .ref (a 2)), (1, .int p1)] := hl
  unfold wp_F_applyChainRulesFrom at hw
  have loop_16 : ∀ (k : Nat) (x1 x2 x3 : Int32) (n : ctN) (f : ctF) (H : Heap) (locs : List Loc) (ls : Array Slot), wp_F_applyChainRulesFrom_L16 post k x1 x2 x3 n f → va_P (dC, dI) vcl (ctW a cA n f) H → va_S A s.heap H locs → lv_has ls 4 [(0, .ref (a 2)), (1, .int x1), (2, .int x2), (3, .int x3)] → W p l e (headSpec wsF_applyChainRulesFrom ({ frames := 2, cells := 0, slots := 0, locals := 44 } : Room)).room s m (([.ref (a 2), .int p1] : List Value).toArray) below meth c H locs 0 0 (MQ below (va_Qv (fun (u : ctN × ctF) => post u.1 u.2) (ct_B dC dI a cA) A) (([.ref (a 2), .int p1] : List Value).toArray) s 0 0 A) (F0 m 16 ls []) := by
    intro k
    induction k with
    | zero => intro x1 x2 x3 n f H locs ls hw; exact hw.elim
    | succ k ih =>
      intro x1 x2 x3 n f H locs ls hw hP hS hl
      rw [wp_F_applyChainRulesFrom_L16] at hw
      refine lv_iload_n hx hb dF_applyChainRulesFrom_16 rfl (lv_at hl 3 rfl) ?_
      refine lv_aload_n hx hb dF_applyChainRulesFrom_17 rfl (lv_at hl 0 rfl) ?_
      refine va_get (D := (dC, dI)) (ci := 2) (v := .ref (a 1)) (C := RF) (T := TF) (N := 11) hx hb hts (fun w h => List.mem_cons_of_mem _ (inF w h)) hown hK hP 2 rfl rfl 0 (by decide) (hts (.fieldLink RF 40 "CoverTrees$Forest" "grammar" "LCoverTrees$Grammar;") (List.mem_cons_of_mem _ wt_94)) (fun _ h9 => h9) rfl dF_applyChainRulesFrom_18 ?_
      refine va_get (D := (dC, dI)) (ci := 1) (v := .int (n 1)) (C := RG) (T := TG) (N := 8) hx hb hts (fun w h => List.mem_cons_of_mem _ (inG w h)) hown hK hP 1 rfl rfl 2 (by decide) (hts (.fieldLink RF 66 "CoverTrees$Grammar" "ruleCount" "I") (List.mem_cons_of_mem _ wt_59)) (fun _ h9 => h9) rfl dF_applyChainRulesFrom_21 ?_
      refine lv_icmp_ge (tgt := 61) hx hb dF_applyChainRulesFrom_24 (by decide) (fun c6 => ?_) (fun c6 => ?_)
      · have hw := hw.1 c6
        exact W.vret hx hb hr (fun t ht hW => ⟨⟨(n, f), rfl, hw, ct_mkB ht hP⟩, hS.F ht⟩) hS.2.2 dF_applyChainRulesFrom_61
      · have hw := hw.2 c6
        refine lv_aload_n hx hb dF_applyChainRulesFrom_27 rfl (lv_at hl 0 rfl) ?_
        refine va_get (D := (dC, dI)) (ci := 2) (v := .ref (a 1)) (C := RF) (T := TF) (N := 11) hx hb hts (fun w h => List.mem_cons_of_mem _ (inF w h)) hown hK hP 2 rfl rfl 0 (by decide) (hts (.fieldLink RF 40 "CoverTrees$Forest" "grammar" "LCoverTrees$Grammar;") (List.mem_cons_of_mem _ wt_94)) (fun _ h9 => h9) rfl dF_applyChainRulesFrom_28 ?_
        refine lv_iload_n hx hb dF_applyChainRulesFrom_31 rfl (lv_at hl 3 rfl) ?_
        refine lv_iload_n hx hb dF_applyChainRulesFrom_32 rfl (lv_at hl 1 rfl) ?_
        refine ct_i (va_runV (As := [.int x3, .int x1]) (rest := []) ⟨hx, hb, hml, hown, hts⟩ (met_G_isChainFrom l dC dI a cA sa x3 x1 n f _ hw) (cwV 2 hts (wb_V wt_348 wt_349 wt_350 wt_28 wt_351) rfl rfl rfl (by decide +kernel) ⟨Nat.le_of_ble_eq_true rfl, Nat.le_of_ble_eq_true rfl⟩) (ct_preV hK hP (hDa _ _) hZ hS hA (va_recv hK hP (ci := 1) (q0 := 1) rfl rfl)) rfl rfl hl.1 rfl (lv_room (Nat.le_of_ble_eq_true rfl)) dF_applyChainRulesFrom_33 ⟨Nat.le_of_ble_eq_true rfl, Nat.le_of_ble_eq_true rfl⟩) (hDa _ _) hS hA (fun r7 n_8 f_9 H locs hw hP hS => ?_)
        refine lv_if_eq (tgt := 55) hx hb dF_applyChainRulesFrom_36 (by decide) (fun c10 => ?_) (fun c10 => ?_)
        · have hw := hw.1 c10
          obtain ⟨x3_11, ex3_11⟩ : ∃ y : Int32, y = x3 + 1 := ⟨_, rfl⟩
          have hw := hw x3_11 ex3_11
          refine lv_iinc (v := x3_11) (lv' := [(3, .int x3_11), (0, .ref (a 2)), (1, .int x1), (2, .int x2)]) hx hb dF_applyChainRulesFrom_55 hl (k := 3) rfl (by rw [ex3_11]; rfl) (by decide) rfl (fun ls hl => ?_)
          refine lv_goto (tgt := 16) hx hb dF_applyChainRulesFrom_58 (by decide) ?_
          exact ih x1 x2 x3_11 n_8 f_9 _ _ ls hw hP hS (lv_sub hl [1, 2, 3, 0] rfl)
        · have hw := hw.2 c10
          refine lv_aload_n hx hb dF_applyChainRulesFrom_39 rfl (lv_at hl 0 rfl) ?_
          refine lv_iload_n hx hb dF_applyChainRulesFrom_40 rfl (lv_at hl 3 rfl) ?_
          refine lv_iload_n hx hb dF_applyChainRulesFrom_41 rfl (lv_at hl 2 rfl) ?_
          refine lv_aload_n hx hb dF_applyChainRulesFrom_42 rfl (lv_at hl 0 rfl) ?_
          refine va_get (D := (dC, dI)) (ci := 2) (v := .ref (a 1)) (C := RF) (T := TF) (N := 11) hx hb hts (fun w h => List.mem_cons_of_mem _ (inF w h)) hown hK hP 2 rfl rfl 0 (by decide) (hts (.fieldLink RF 40 "CoverTrees$Forest" "grammar" "LCoverTrees$Grammar;") (List.mem_cons_of_mem _ wt_94)) (fun _ h9 => h9) rfl dF_applyChainRulesFrom_43 ?_
          refine va_get (D := (dC, dI)) (ci := 1) (v := .ref (a 8)) (C := RG) (T := TG) (N := 8) hx hb hts (fun w h => List.mem_cons_of_mem _ (inG w h)) hown hK hP 1 rfl rfl 7 (by decide) (hts (.fieldLink RF 82 "CoverTrees$Grammar" "cost" "[I") (List.mem_cons_of_mem _ wt_69)) (fun _ h9 => h9) rfl dF_applyChainRulesFrom_46 ?_
          refine lv_iload_n hx hb dF_applyChainRulesFrom_49 rfl (lv_at hl 3 rfl) ?_
          obtain ⟨hi12, hw⟩ := hw
          refine va_iald hx hb hK hP 8 5 rfl rfl hi12 dF_applyChainRulesFrom_50 ?_
          refine lv_iadd hx hb dF_applyChainRulesFrom_51 ?_
          refine ct_v (va_runV (As := [.int x3, .int (x2 + (f_9 8 x3.toNatClampNeg))]) (rest := []) ⟨hx, hb, hml, hown, hts⟩ (met_F_offer l dC dI a cA sa x3 (x2 + (f_9 8 x3.toNatClampNeg)) n_8 f_9 _ hw) (cwV 2 hts (wb_V wt_325 wt_327 wt_5 wt_29 wt_328) rfl rfl rfl (by decide +kernel) ⟨Nat.le_of_ble_eq_true rfl, Nat.le_of_ble_eq_true rfl⟩) (ct_preV hK hP (hDa _ _) hZ hS hA (va_recv hK hP (ci := 2) (q0 := 2) rfl rfl)) rfl rfl hl.1 rfl (lv_room (Nat.le_of_ble_eq_true rfl)) dF_applyChainRulesFrom_52 ⟨Nat.le_of_ble_eq_true rfl, Nat.le_of_ble_eq_true rfl⟩) (hDa _ _) hS hA (fun n_14 f_15 H locs hw hP hS => ?_)
          obtain ⟨x3_16, ex3_16⟩ : ∃ y : Int32, y = x3 + 1 := ⟨_, rfl⟩
          have hw := hw x3_16 ex3_16
          refine lv_iinc (v := x3_16) (lv' := [(3, .int x3_16), (0, .ref (a 2)), (1, .int x1), (2, .int x2)]) hx hb dF_applyChainRulesFrom_55 hl (k := 3) rfl (by rw [ex3_16]; rfl) (by decide) rfl (fun ls hl => ?_)
          refine lv_goto (tgt := 16) hx hb dF_applyChainRulesFrom_58 (by decide) ?_
          exact ih x1 x2 x3_16 n_14 f_15 _ _ ls hw hP hS (lv_sub hl [1, 2, 3, 0] rfl)
  refine lv_aload_n hx hb dF_applyChainRulesFrom_0 rfl (lv_at hl 0 rfl) ?_
  refine va_get (D := (dC, dI)) (ci := 2) (v := .ref (a 14)) (C := RF) (T := TF) (N := 11) hx hb hts (fun w h => List.mem_cons_of_mem _ (inF w h)) hown hK hP 2 rfl rfl 7 (by decide) (hts (.fieldLink RF 27 "CoverTrees$Forest" "cost" "[I") (List.mem_cons_of_mem _ wt_103)) (fun _ h9 => h9) rfl dF_applyChainRulesFrom_1 ?_
  refine lv_aload_n hx hb dF_applyChainRulesFrom_4 rfl (lv_at hl 0 rfl) ?_
  refine va_get (D := (dC, dI)) (ci := 2) (v := .int (n 2)) (C := RF) (T := TF) (N := 11) hx hb hts (fun w h => List.mem_cons_of_mem _ (inF w h)) hown hK hP 2 rfl rfl 1 (by decide) (hts (.fieldLink RF 44 "CoverTrees$Forest" "count" "I") (List.mem_cons_of_mem _ wt_96)) (fun _ h9 => h9) rfl dF_applyChainRulesFrom_5 ?_
  refine lv_iload_n hx hb dF_applyChainRulesFrom_8 rfl (lv_at hl 1 rfl) ?_
  refine ct_i (va_runSN (As := [.int (n 2), .int p1]) (rest := [.ref (a 14)]) ⟨hx, hb, hml, hown, hts⟩ (met_C_place l dC dI a cA sa (n 2) p1 n f _ hw) ⟨va_cnB 2 hts (wb_N wt_316) rfl rfl rfl hZ.1 (hts (.initialized "CoverTrees") (List.mem_cons_of_mem _ wt_27)) (by decide +kernel) ⟨Nat.le_of_ble_eq_true rfl, Nat.le_of_ble_eq_true rfl⟩, (hts (.static yC_place) (List.mem_cons_of_mem _ wt_315)), trivial⟩ (ct_pre hK hP (hDa _ _) hZ hS hA) rfl rfl hl.1 rfl (lv_room (Nat.le_of_ble_eq_true rfl)) dF_applyChainRulesFrom_9 ⟨Nat.le_of_ble_eq_true rfl, Nat.le_of_ble_eq_true rfl⟩) (hDa _ _) hS hA (fun r1 n_2 f_3 H locs hw hP hS => ?_)
  obtain ⟨hi4, hw⟩ := hw
  refine va_iald hx hb hK hP 14 11 rfl rfl hi4 dF_applyChainRulesFrom_12 ?_
  refine lv_topi (fun x2_5 ex2_5 => ?_)
  have hw := hw x2_5 ex2_5
  refine lv_istore_n (lv' := [(2, .int x2_5), (0, .ref (a 2)), (1, .int p1)]) hx hb dF_applyChainRulesFrom_13 rfl hl (by decide) rfl (fun ls hl => ?_)
  refine lv_iconst (v := 0) hx hb dF_applyChainRulesFrom_14 (by decide) ?_
  refine lv_istore_n (lv' := [(3, .int 0), (2, .int x2_5), (0, .ref (a 2)), (1, .int p1)]) hx hb dF_applyChainRulesFrom_15 rfl hl (by decide) rfl (fun ls hl => ?_)
  obtain ⟨k, hw⟩ := hw
  exact loop_16 k p1 x2_5 0 n_2 f_3 _ _ ls hw hP hS (lv_sub hl [2, 3, 1, 0] rfl)
def wp_F_sizeByRule (post : Int32 → ctN → ctF → Prop) (p1 : Int32) (n : ctN) (f : ctF) : Prop := wp_C_place (fun (r1 : Int32) (n_2 : ctN) (f_3 : ctF) => vp_in r1 960 ∧ (∀ x2_5 : Int32, x2_5 = (f_3 15 r1.toNatClampNeg) → (vp_in x2_5 40 ∧ ((¬ (f_3 5 x2_5.toNatClampNeg) = (-1) → (vp_in (n_2 2) 120 ∧ (vp_in (f_3 9 (n_2 2).toNatClampNeg) 10 ∧ (∀ x4_10 : Int32, x4_10 = (f_3 3 (f_3 9 (n_2 2).toNatClampNeg).toNatClampNeg) → ((x4_10 < 1 → ((x4_10 < 2 → (post (if (2001 : Int32) < (1 : Int32) then (2001 : Int32) else (1 : Int32)) n_2 f_3)) ∧ (¬ x4_10 < 2 → (vp_in (n_2 2) 120 ∧ (vp_in x2_5 40 ∧ (wp_C_place (fun (r15 : Int32) (n_16 : ctN) (f_17 : ctF) => vp_in r15 960 ∧ (∀ x3_19 : Int32, x3_19 = (1 + (f_17 16 r15.toNatClampNeg)) → (post (if (2001 : Int32) < x3_19 then (2001 : Int32) else x3_19) n_16 f_17))) (f_3 11 (n_2 2).toNatClampNeg) (f_3 7 x2_5.toNatClampNeg) n_2 f_3)))))) ∧ (¬ x4_10 < 1 → (vp_in (n_2 2) 120 ∧ (vp_in x2_5 40 ∧ (wp_C_place (fun (r22 : Int32) (n_23 : ctN) (f_24 : ctF) => vp_in r22 960 ∧ (∀ x3_26 : Int32, x3_26 = (1 + (f_24 16 r22.toNatClampNeg)) → ((x4_10 < 2 → (post (if (2001 : Int32) < x3_26 then (2001 : Int32) else x3_26) n_23 f_24)) ∧ (¬ x4_10 < 2 → (vp_in (n_23 2) 120 ∧ (vp_in x2_5 40 ∧ (wp_C_place (fun (r30 : Int32) (n_31 : ctN) (f_32 : ctF) => vp_in r30 960 ∧ (∀ x3_34 : Int32, x3_34 = (x3_26 + (f_32 16 r30.toNatClampNeg)) → (post (if (2001 : Int32) < x3_34 then (2001 : Int32) else x3_34) n_31 f_32))) (f_24 11 (n_23 2).toNatClampNeg) (f_24 7 x2_5.toNatClampNeg) n_23 f_24))))))) (f_3 10 (n_2 2).toNatClampNeg) (f_3 6 x2_5.toNatClampNeg) n_2 f_3))))))))) ∧ ((f_3 5 x2_5.toNatClampNeg) = (-1) → (vp_in x2_5 40 ∧ (wp_C_place (fun (r36 : Int32) (n_37 : ctN) (f_38 : ctF) => vp_in r36 960 ∧ (∀ x3_40 : Int32, x3_40 = (1 + (f_38 16 r36.toNatClampNeg)) → (post (if (2001 : Int32) < x3_40 then (2001 : Int32) else x3_40) n_37 f_38))) (n_2 2) (f_3 6 x2_5.toNatClampNeg) n_2 f_3))))))) (n 2) p1 n f
set_option maxHeartbeats 4000000 in
set_option maxRecDepth 100000 in
theorem met_F_sizeByRule (l : Launch) (dC : Nat → ClassId) (dI : Nat → Nat → Nat) (a : Nat → Nat) (cA : Nat → ClassId) (sa : Nat → Nat) (p1 : Int32) (n : ctN) (f : ctF) (sz : Nat) {post : Int32 → ctN → ctF → Prop} (hw : wp_F_sizeByRule post p1 n f) : Met l yF_sizeByRule wsF_sizeByRule ({ frames := 1, cells := 0, slots := 0, locals := 21 } : Room) (ct_Pc dC dI a cA sa [.ref (a 2), .int p1] n f sz) (va_Qi (fun (r : Int32) (u : ctN × ctF) => post r u.1 u.2) (ct_B dC dI a cA) (va_A (ctW a cA n f) sz)) 0 0 (va_A (ctW a cA n f) sz) := by
  refine Met.ofW (cc := cF_sizeByRule) (maxL := 5) (ret := (some .int)) (by decide) rfl ?_
  intro p e s m args below meth c s₁ B hml hv
  obtain ⟨rfl, hsz, hP, hK, hD0, hZ⟩ := hv
  have hx := B.exec
  have hb := B.bytes
  have hr := B.returns
  have hts := atoms_spec (ws := wsF_sizeByRule) B.pre
  have hown : s.vm.findClass RF = some m.cls := findClass_of_methodNamed B.named
  have hlocks := B.notSynchronized
  subst hsz
  have hD := hD0.self (sz := s.heap.size)
  generalize hAe : va_A (ctW a cA n f) s.heap.size = A at hD hZ ⊢
  have hDa : ∀ (n : ctN) (f : ctF), va_D A (ctW a cA n f) := fun _ _ => ct_D hD
  have hA : ∀ q : Nat, s.heap.size ≤ q → A q := fun q h => by rw [← hAe]; exact Or.inr h
  have hS : va_S A s.heap s.heap [] := va_S.rf
  have hl := lv_entry ([.ref (a 2), .int p1]) (n := 5) (Nat.le_of_ble_eq_true rfl)
  rw [lg_entry_eq]
  generalize (lg_sl ([.ref (a 2), .int p1]) ++ List.replicate (5 - (lg_sl ([.ref (a 2), .int p1])).length) Slot.unset).toArray = ls at hl ⊢
  have hl : lv_has ls 5 [(0, .ref (a 2)), (1, .int p1)] := hl
  unfold wp_F_sizeByRule at hw
  refine lv_aload_n hx hb dF_sizeByRule_0 rfl (lv_at hl 0 rfl) ?_
  refine va_get (D := (dC, dI)) (ci := 2) (v := .ref (a 15)) (C := RF) (T := TF) (N := 11) hx hb hts (fun w h => List.mem_cons_of_mem _ (inF w h)) hown hK hP 2 rfl rfl 8 (by decide) (hts (.fieldLink RF 30 "CoverTrees$Forest" "rule" "[I") (List.mem_cons_of_mem _ wt_105)) (fun _ h9 => h9) rfl dF_sizeByRule_1 ?_
  refine lv_aload_n hx hb dF_sizeByRule_4 rfl (lv_at hl 0 rfl) ?_
  refine va_get (D := (dC, dI)) (ci := 2) (v := .int (n 2)) (C := RF) (T := TF) (N := 11) hx hb hts (fun w h => List.mem_cons_of_mem _ (inF w h)) hown hK hP 2 rfl rfl 1 (by decide) (hts (.fieldLink RF 44 "CoverTrees$Forest" "count" "I") (List.mem_cons_of_mem _ wt_96)) (fun _ h9 => h9) rfl dF_sizeByRule_5 ?_
  refine lv_iload_n hx hb dF_sizeByRule_8 rfl (lv_at hl 1 rfl) ?_
  refine ct_i (va_runSN (As := [.int (n 2), .int p1]) (rest := [.ref (a 15)]) ⟨hx, hb, hml, hown, hts⟩ (met_C_place l dC dI a cA sa (n 2) p1 n f _ hw) ⟨va_cnB 2 hts (wb_N wt_316) rfl rfl rfl hZ.1 (hts (.initialized "CoverTrees") (List.mem_cons_of_mem _ wt_27)) (by decide +kernel) ⟨Nat.le_of_ble_eq_true rfl, Nat.le_of_ble_eq_true rfl⟩, (hts (.static yC_place) (List.mem_cons_of_mem _ wt_315)), trivial⟩ (ct_pre hK hP (hDa _ _) hZ hS hA) rfl rfl hl.1 rfl (lv_room (Nat.le_of_ble_eq_true rfl)) dF_sizeByRule_9 ⟨Nat.le_of_ble_eq_true rfl, Nat.le_of_ble_eq_true rfl⟩) (hDa _ _) hS hA (fun r1 n_2 f_3 H locs hw hP hS => ?_)
  obtain ⟨hi4, hw⟩ := hw
  refine va_iald hx hb hK hP 15 12 rfl rfl hi4 dF_sizeByRule_12 ?_
  refine lv_topi (fun x2_5 ex2_5 => ?_)
  have hw := hw x2_5 ex2_5
  refine lv_istore_n (lv' := [(2, .int x2_5), (0, .ref (a 2)), (1, .int p1)]) hx hb dF_sizeByRule_13 rfl hl (by decide) rfl (fun ls hl => ?_)
  refine lv_iconst (v := 1) hx hb dF_sizeByRule_14 (by decide) ?_
  refine lv_istore_n (lv' := [(3, .int 1), (2, .int x2_5), (0, .ref (a 2)), (1, .int p1)]) hx hb dF_sizeByRule_15 rfl hl (by decide) rfl (fun ls hl => ?_)
  refine lv_aload_n hx hb dF_sizeByRule_16 rfl (lv_at hl 2 rfl) ?_
  refine va_get (D := (dC, dI)) (ci := 2) (v := .ref (a 1)) (C := RF) (T := TF) (N := 11) hx hb hts (fun w h => List.mem_cons_of_mem _ (inF w h)) hown hK hP 2 rfl rfl 0 (by decide) (hts (.fieldLink RF 40 "CoverTrees$Forest" "grammar" "LCoverTrees$Grammar;") (List.mem_cons_of_mem _ wt_94)) (fun _ h9 => h9) rfl dF_sizeByRule_17 ?_
  refine va_get (D := (dC, dI)) (ci := 1) (v := .ref (a 5)) (C := RG) (T := TG) (N := 8) hx hb hts (fun w h => List.mem_cons_of_mem _ (inG w h)) hown hK hP 1 rfl rfl 4 (by decide) (hts (.fieldLink RF 71 "CoverTrees$Grammar" "operator" "[I") (List.mem_cons_of_mem _ wt_63)) (fun _ h9 => h9) rfl dF_sizeByRule_20 ?_
  refine lv_iload_n hx hb dF_sizeByRule_23 rfl (lv_at hl 1 rfl) ?_
  obtain ⟨hi6, hw⟩ := hw
  refine va_iald hx hb hK hP 5 2 rfl rfl hi6 dF_sizeByRule_24 ?_
  refine lv_iconst (v := (-1)) hx hb dF_sizeByRule_25 (by decide) ?_
  refine lv_icmp_ne (tgt := 56) hx hb dF_sizeByRule_26 (by decide) (fun c7 => ?_) (fun c7 => ?_)
  · have hw := hw.1 c7
    refine lv_aload_n hx hb dF_sizeByRule_56 rfl (lv_at hl 2 rfl) ?_
    refine va_get (D := (dC, dI)) (ci := 2) (v := .ref (a 1)) (C := RF) (T := TF) (N := 11) hx hb hts (fun w h => List.mem_cons_of_mem _ (inF w h)) hown hK hP 2 rfl rfl 0 (by decide) (hts (.fieldLink RF 40 "CoverTrees$Forest" "grammar" "LCoverTrees$Grammar;") (List.mem_cons_of_mem _ wt_94)) (fun _ h9 => h9) rfl dF_sizeByRule_57 ?_
    refine va_get (D := (dC, dI)) (ci := 1) (v := .ref (a 3)) (C := RG) (T := TG) (N := 8) hx hb hts (fun w h => List.mem_cons_of_mem _ (inG w h)) hown hK hP 1 rfl rfl 1 (by decide) (hts (.fieldLink RF 79 "CoverTrees$Grammar" "parts" "[I") (List.mem_cons_of_mem _ wt_56)) (fun _ h9 => h9) rfl dF_sizeByRule_60 ?_
    refine lv_aload_n hx hb dF_sizeByRule_63 rfl (lv_at hl 2 rfl) ?_
    refine va_get (D := (dC, dI)) (ci := 2) (v := .ref (a 9)) (C := RF) (T := TF) (N := 11) hx hb hts (fun w h => List.mem_cons_of_mem _ (inF w h)) hown hK hP 2 rfl rfl 2 (by decide) (hts (.fieldLink RF 9 "CoverTrees$Forest" "operator" "[I") (List.mem_cons_of_mem _ wt_97)) (fun _ h9 => h9) rfl dF_sizeByRule_64 ?_
    refine lv_aload_n hx hb dF_sizeByRule_67 rfl (lv_at hl 2 rfl) ?_
    refine va_get (D := (dC, dI)) (ci := 2) (v := .int (n_2 2)) (C := RF) (T := TF) (N := 11) hx hb hts (fun w h => List.mem_cons_of_mem _ (inF w h)) hown hK hP 2 rfl rfl 1 (by decide) (hts (.fieldLink RF 44 "CoverTrees$Forest" "count" "I") (List.mem_cons_of_mem _ wt_96)) (fun _ h9 => h9) rfl dF_sizeByRule_68 ?_
    obtain ⟨hi8, hw⟩ := hw
    refine va_iald hx hb hK hP 9 6 rfl rfl hi8 dF_sizeByRule_71 ?_
    obtain ⟨hi9, hw⟩ := hw
    refine va_iald hx hb hK hP 3 0 rfl rfl hi9 dF_sizeByRule_72 ?_
    refine lv_topi (fun x4_10 ex4_10 => ?_)
    have hw := hw x4_10 ex4_10
    refine lv_istore (lv' := [(4, .int x4_10), (3, .int 1), (2, .int x2_5), (0, .ref (a 2)), (1, .int p1)]) hx hb dF_sizeByRule_73 hl (by decide) rfl (fun ls hl => ?_)
    refine lv_iload hx hb dF_sizeByRule_75 (lv_at hl 0 rfl) ?_
    refine lv_iconst (v := 1) hx hb dF_sizeByRule_77 (by decide) ?_
    refine lv_icmp_lt (tgt := 110) hx hb dF_sizeByRule_78 (by decide) (fun c11 => ?_) (fun c11 => ?_)
    · have hw := hw.1 c11
      refine lv_iload hx hb dF_sizeByRule_110 (lv_at hl 0 rfl) ?_
      refine lv_iconst (v := 2) hx hb dF_sizeByRule_112 (by decide) ?_
      refine lv_icmp_lt (tgt := 145) hx hb dF_sizeByRule_113 (by decide) (fun c12 => ?_) (fun c12 => ?_)
      · have hw := hw.1 c12
        refine lv_iload_n hx hb dF_sizeByRule_145 rfl (lv_at hl 1 rfl) ?_
        refine lv_sipush (v := 2001) hx hb dF_sizeByRule_146 (by decide) ?_
        refine va_mmin hx hb (hml.trans hl.1.symm) hown (hts (.methodLink RF 103 Lib.Math.min.name) (List.mem_cons_of_mem _ wt_341)) (hts (.static Lib.Math.min.name) (List.mem_cons_of_mem _ wt_342)) (hts (.initialized "java/lang/Math") (List.mem_cons_of_mem _ wt_36)) (hts (.code Lib.Math.min.name Lib.Math.min.code 2 (some .int)) (List.mem_cons_of_mem _ wt_343)) (Nat.le_of_ble_eq_true rfl) (Nat.le_of_ble_eq_true rfl) (Nat.zero_le _) (Nat.zero_le _) dF_sizeByRule_149 ?_
        exact W.iret (v := (if (2001 : Int32) < (1 : Int32) then (2001 : Int32) else (1 : Int32))) hx hb hr (fun t ht hW => ⟨⟨(if (2001 : Int32) < (1 : Int32) then (2001 : Int32) else (1 : Int32)), (n_2, f_3), rfl, hw, ct_mkB ht hP⟩, hS.F ht⟩) hS.2.2 dF_sizeByRule_152
      · have hw := hw.2 c12
        refine lv_iload_n hx hb dF_sizeByRule_116 rfl (lv_at hl 1 rfl) ?_
        refine lv_aload_n hx hb dF_sizeByRule_117 rfl (lv_at hl 3 rfl) ?_
        refine va_get (D := (dC, dI)) (ci := 2) (v := .ref (a 16)) (C := RF) (T := TF) (N := 11) hx hb hts (fun w h => List.mem_cons_of_mem _ (inF w h)) hown hK hP 2 rfl rfl 9 (by decide) (hts (.fieldLink RF 33 "CoverTrees$Forest" "size" "[I") (List.mem_cons_of_mem _ wt_107)) (fun _ h9 => h9) rfl dF_sizeByRule_118 ?_
        refine lv_aload_n hx hb dF_sizeByRule_121 rfl (lv_at hl 3 rfl) ?_
        refine va_get (D := (dC, dI)) (ci := 2) (v := .ref (a 11)) (C := RF) (T := TF) (N := 11) hx hb hts (fun w h => List.mem_cons_of_mem _ (inF w h)) hown hK hP 2 rfl rfl 4 (by decide) (hts (.fieldLink RF 18 "CoverTrees$Forest" "two" "[I") (List.mem_cons_of_mem _ wt_99)) (fun _ h9 => h9) rfl dF_sizeByRule_122 ?_
        refine lv_aload_n hx hb dF_sizeByRule_125 rfl (lv_at hl 3 rfl) ?_
        refine va_get (D := (dC, dI)) (ci := 2) (v := .int (n_2 2)) (C := RF) (T := TF) (N := 11) hx hb hts (fun w h => List.mem_cons_of_mem _ (inF w h)) hown hK hP 2 rfl rfl 1 (by decide) (hts (.fieldLink RF 44 "CoverTrees$Forest" "count" "I") (List.mem_cons_of_mem _ wt_96)) (fun _ h9 => h9) rfl dF_sizeByRule_126 ?_
        obtain ⟨hi13, hw⟩ := hw
        refine va_iald hx hb hK hP 11 8 rfl rfl hi13 dF_sizeByRule_129 ?_
        refine lv_aload_n hx hb dF_sizeByRule_130 rfl (lv_at hl 3 rfl) ?_
        refine va_get (D := (dC, dI)) (ci := 2) (v := .ref (a 1)) (C := RF) (T := TF) (N := 11) hx hb hts (fun w h => List.mem_cons_of_mem _ (inF w h)) hown hK hP 2 rfl rfl 0 (by decide) (hts (.fieldLink RF 40 "CoverTrees$Forest" "grammar" "LCoverTrees$Grammar;") (List.mem_cons_of_mem _ wt_94)) (fun _ h9 => h9) rfl dF_sizeByRule_131 ?_
        refine va_get (D := (dC, dI)) (ci := 1) (v := .ref (a 7)) (C := RG) (T := TG) (N := 8) hx hb hts (fun w h => List.mem_cons_of_mem _ (inG w h)) hown hK hP 1 rfl rfl 6 (by decide) (hts (.fieldLink RF 84 "CoverTrees$Grammar" "two" "[I") (List.mem_cons_of_mem _ wt_67)) (fun _ h9 => h9) rfl dF_sizeByRule_134 ?_
        refine lv_iload_n hx hb dF_sizeByRule_137 rfl (lv_at hl 2 rfl) ?_
        obtain ⟨hi14, hw⟩ := hw
        refine va_iald hx hb hK hP 7 4 rfl rfl hi14 dF_sizeByRule_138 ?_
        refine ct_i (va_runSN (As := [.int (f_3 11 (n_2 2).toNatClampNeg), .int (f_3 7 x2_5.toNatClampNeg)]) (rest := [.ref (a 16), .int 1]) ⟨hx, hb, hml, hown, hts⟩ (met_C_place l dC dI a cA sa (f_3 11 (n_2 2).toNatClampNeg) (f_3 7 x2_5.toNatClampNeg) n_2 f_3 _ hw) ⟨va_cnB 2 hts (wb_N wt_316) rfl rfl rfl hZ.1 (hts (.initialized "CoverTrees") (List.mem_cons_of_mem _ wt_27)) (by decide +kernel) ⟨Nat.le_of_ble_eq_true rfl, Nat.le_of_ble_eq_true rfl⟩, (hts (.static yC_place) (List.mem_cons_of_mem _ wt_315)), trivial⟩ (ct_pre hK hP (hDa _ _) hZ hS hA) rfl rfl hl.1 rfl (lv_room (Nat.le_of_ble_eq_true rfl)) dF_sizeByRule_139 ⟨Nat.le_of_ble_eq_true rfl, Nat.le_of_ble_eq_true rfl⟩) (hDa _ _) hS hA (fun r15 n_16 f_17 H locs hw hP hS => ?_)
        obtain ⟨hi18, hw⟩ := hw
        refine va_iald hx hb hK hP 16 13 rfl rfl hi18 dF_sizeByRule_142 ?_
        refine lv_iadd hx hb dF_sizeByRule_143 ?_
        refine lv_topi (fun x3_19 ex3_19 => ?_)
        have hw := hw x3_19 ex3_19
        refine lv_istore_n (lv' := [(3, .int x3_19), (4, .int x4_10), (2, .int x2_5), (0, .ref (a 2)), (1, .int p1)]) hx hb dF_sizeByRule_144 rfl hl (by decide) rfl (fun ls hl => ?_)
        refine lv_iload_n hx hb dF_sizeByRule_145 rfl (lv_at hl 0 rfl) ?_
        refine lv_sipush (v := 2001) hx hb dF_sizeByRule_146 (by decide) ?_
        refine va_mmin hx hb (hml.trans hl.1.symm) hown (hts (.methodLink RF 103 Lib.Math.min.name) (List.mem_cons_of_mem _ wt_341)) (hts (.static Lib.Math.min.name) (List.mem_cons_of_mem _ wt_342)) (hts (.initialized "java/lang/Math") (List.mem_cons_of_mem _ wt_36)) (hts (.code Lib.Math.min.name Lib.Math.min.code 2 (some .int)) (List.mem_cons_of_mem _ wt_343)) (Nat.le_of_ble_eq_true rfl) (Nat.le_of_ble_eq_true rfl) (Nat.zero_le _) (Nat.zero_le _) dF_sizeByRule_149 ?_
        exact W.iret (v := (if (2001 : Int32) < x3_19 then (2001 : Int32) else x3_19)) hx hb hr (fun t ht hW => ⟨⟨(if (2001 : Int32) < x3_19 then (2001 : Int32) else x3_19), (n_16, f_17), rfl, hw, ct_mkB ht hP⟩, hS.F ht⟩) hS.2.2 dF_sizeByRule_152
    · have hw := hw.2 c11
      refine lv_iload_n hx hb dF_sizeByRule_81 rfl (lv_at hl 1 rfl) ?_
      refine lv_aload_n hx hb dF_sizeByRule_82 rfl (lv_at hl 3 rfl) ?_
      refine va_get (D := (dC, dI)) (ci := 2) (v := .ref (a 16)) (C := RF) (T := TF) (N := 11) hx hb hts (fun w h => List.mem_cons_of_mem _ (inF w h)) hown hK hP 2 rfl rfl 9 (by decide) (hts (.fieldLink RF 33 "CoverTrees$Forest" "size" "[I") (List.mem_cons_of_mem _ wt_107)) (fun _ h9 => h9) rfl dF_sizeByRule_83 ?_
      refine lv_aload_n hx hb dF_sizeByRule_86 rfl (lv_at hl 3 rfl) ?_
      refine va_get (D := (dC, dI)) (ci := 2) (v := .ref (a 10)) (C := RF) (T := TF) (N := 11) hx hb hts (fun w h => List.mem_cons_of_mem _ (inF w h)) hown hK hP 2 rfl rfl 3 (by decide) (hts (.fieldLink RF 15 "CoverTrees$Forest" "one" "[I") (List.mem_cons_of_mem _ wt_98)) (fun _ h9 => h9) rfl dF_sizeByRule_87 ?_
      refine lv_aload_n hx hb dF_sizeByRule_90 rfl (lv_at hl 3 rfl) ?_
      refine va_get (D := (dC, dI)) (ci := 2) (v := .int (n_2 2)) (C := RF) (T := TF) (N := 11) hx hb hts (fun w h => List.mem_cons_of_mem _ (inF w h)) hown hK hP 2 rfl rfl 1 (by decide) (hts (.fieldLink RF 44 "CoverTrees$Forest" "count" "I") (List.mem_cons_of_mem _ wt_96)) (fun _ h9 => h9) rfl dF_sizeByRule_91 ?_
      obtain ⟨hi20, hw⟩ := hw
      refine va_iald hx hb hK hP 10 7 rfl rfl hi20 dF_sizeByRule_94 ?_
      refine lv_aload_n hx hb dF_sizeByRule_95 rfl (lv_at hl 3 rfl) ?_
      refine va_get (D := (dC, dI)) (ci := 2) (v := .ref (a 1)) (C := RF) (T := TF) (N := 11) hx hb hts (fun w h => List.mem_cons_of_mem _ (inF w h)) hown hK hP 2 rfl rfl 0 (by decide) (hts (.fieldLink RF 40 "CoverTrees$Forest" "grammar" "LCoverTrees$Grammar;") (List.mem_cons_of_mem _ wt_94)) (fun _ h9 => h9) rfl dF_sizeByRule_96 ?_
      refine va_get (D := (dC, dI)) (ci := 1) (v := .ref (a 6)) (C := RG) (T := TG) (N := 8) hx hb hts (fun w h => List.mem_cons_of_mem _ (inG w h)) hown hK hP 1 rfl rfl 5 (by decide) (hts (.fieldLink RF 83 "CoverTrees$Grammar" "one" "[I") (List.mem_cons_of_mem _ wt_65)) (fun _ h9 => h9) rfl dF_sizeByRule_99 ?_
      refine lv_iload_n hx hb dF_sizeByRule_102 rfl (lv_at hl 2 rfl) ?_
      obtain ⟨hi21, hw⟩ := hw
      refine va_iald hx hb hK hP 6 3 rfl rfl hi21 dF_sizeByRule_103 ?_
      refine ct_i (va_runSN (As := [.int (f_3 10 (n_2 2).toNatClampNeg), .int (f_3 6 x2_5.toNatClampNeg)]) (rest := [.ref (a 16), .int 1]) ⟨hx, hb, hml, hown, hts⟩ (met_C_place l dC dI a cA sa (f_3 10 (n_2 2).toNatClampNeg) (f_3 6 x2_5.toNatClampNeg) n_2 f_3 _ hw) ⟨va_cnB 2 hts (wb_N wt_316) rfl rfl rfl hZ.1 (hts (.initialized "CoverTrees") (List.mem_cons_of_mem _ wt_27)) (by decide +kernel) ⟨Nat.le_of_ble_eq_true rfl, Nat.le_of_ble_eq_true rfl⟩, (hts (.static yC_place) (List.mem_cons_of_mem _ wt_315)), trivial⟩ (ct_pre hK hP (hDa _ _) hZ hS hA) rfl rfl hl.1 rfl (lv_room (Nat.le_of_ble_eq_true rfl)) dF_sizeByRule_104 ⟨Nat.le_of_ble_eq_true rfl, Nat.le_of_ble_eq_true rfl⟩) (hDa _ _) hS hA (fun r22 n_23 f_24 H locs hw hP hS => ?_)
      obtain ⟨hi25, hw⟩ := hw
      refine va_iald hx hb hK hP 16 13 rfl rfl hi25 dF_sizeByRule_107 ?_
      refine lv_iadd hx hb dF_sizeByRule_108 ?_
      refine lv_topi (fun x3_26 ex3_26 => ?_)
      have hw := hw x3_26 ex3_26
      refine lv_istore_n (lv' := [(3, .int x3_26), (4, .int x4_10), (2, .int x2_5), (0, .ref (a 2)), (1, .int p1)]) hx hb dF_sizeByRule_109 rfl hl (by decide) rfl (fun ls hl => ?_)
      refine lv_iload hx hb dF_sizeByRule_110 (lv_at hl 1 rfl) ?_
      refine lv_iconst (v := 2) hx hb dF_sizeByRule_112 (by decide) ?_
      refine lv_icmp_lt (tgt := 145) hx hb dF_sizeByRule_113 (by decide) (fun c27 => ?_) (fun c27 => ?_)
      · have hw := hw.1 c27
        refine lv_iload_n hx hb dF_sizeByRule_145 rfl (lv_at hl 0 rfl) ?_
        refine lv_sipush (v := 2001) hx hb dF_sizeByRule_146 (by decide) ?_
        refine va_mmin hx hb (hml.trans hl.1.symm) hown (hts (.methodLink RF 103 Lib.Math.min.name) (List.mem_cons_of_mem _ wt_341)) (hts (.static Lib.Math.min.name) (List.mem_cons_of_mem _ wt_342)) (hts (.initialized "java/lang/Math") (List.mem_cons_of_mem _ wt_36)) (hts (.code Lib.Math.min.name Lib.Math.min.code 2 (some .int)) (List.mem_cons_of_mem _ wt_343)) (Nat.le_of_ble_eq_true rfl) (Nat.le_of_ble_eq_true rfl) (Nat.zero_le _) (Nat.zero_le _) dF_sizeByRule_149 ?_
        exact W.iret (v := (if (2001 : Int32) < x3_26 then (2001 : Int32) else x3_26)) hx hb hr (fun t ht hW => ⟨⟨(if (2001 : Int32) < x3_26 then (2001 : Int32) else x3_26), (n_23, f_24), rfl, hw, ct_mkB ht hP⟩, hS.F ht⟩) hS.2.2 dF_sizeByRule_152
      · have hw := hw.2 c27
        refine lv_iload_n hx hb dF_sizeByRule_116 rfl (lv_at hl 0 rfl) ?_
        refine lv_aload_n hx hb dF_sizeByRule_117 rfl (lv_at hl 3 rfl) ?_
        refine va_get (D := (dC, dI)) (ci := 2) (v := .ref (a 16)) (C := RF) (T := TF) (N := 11) hx hb hts (fun w h => List.mem_cons_of_mem _ (inF w h)) hown hK hP 2 rfl rfl 9 (by decide) (hts (.fieldLink RF 33 "CoverTrees$Forest" "size" "[I") (List.mem_cons_of_mem _ wt_107)) (fun _ h9 => h9) rfl dF_sizeByRule_118 ?_
        refine lv_aload_n hx hb dF_sizeByRule_121 rfl (lv_at hl 3 rfl) ?_
        refine va_get (D := (dC, dI)) (ci := 2) (v := .ref (a 11)) (C := RF) (T := TF) (N := 11) hx hb hts (fun w h => List.mem_cons_of_mem _ (inF w h)) hown hK hP 2 rfl rfl 4 (by decide) (hts (.fieldLink RF 18 "CoverTrees$Forest" "two" "[I") (List.mem_cons_of_mem _ wt_99)) (fun _ h9 => h9) rfl dF_sizeByRule_122 ?_
        refine lv_aload_n hx hb dF_sizeByRule_125 rfl (lv_at hl 3 rfl) ?_
        refine va_get (D := (dC, dI)) (ci := 2) (v := .int (n_23 2)) (C := RF) (T := TF) (N := 11) hx hb hts (fun w h => List.mem_cons_of_mem _ (inF w h)) hown hK hP 2 rfl rfl 1 (by decide) (hts (.fieldLink RF 44 "CoverTrees$Forest" "count" "I") (List.mem_cons_of_mem _ wt_96)) (fun _ h9 => h9) rfl dF_sizeByRule_126 ?_
        obtain ⟨hi28, hw⟩ := hw
        refine va_iald hx hb hK hP 11 8 rfl rfl hi28 dF_sizeByRule_129 ?_
        refine lv_aload_n hx hb dF_sizeByRule_130 rfl (lv_at hl 3 rfl) ?_
        refine va_get (D := (dC, dI)) (ci := 2) (v := .ref (a 1)) (C := RF) (T := TF) (N := 11) hx hb hts (fun w h => List.mem_cons_of_mem _ (inF w h)) hown hK hP 2 rfl rfl 0 (by decide) (hts (.fieldLink RF 40 "CoverTrees$Forest" "grammar" "LCoverTrees$Grammar;") (List.mem_cons_of_mem _ wt_94)) (fun _ h9 => h9) rfl dF_sizeByRule_131 ?_
        refine va_get (D := (dC, dI)) (ci := 1) (v := .ref (a 7)) (C := RG) (T := TG) (N := 8) hx hb hts (fun w h => List.mem_cons_of_mem _ (inG w h)) hown hK hP 1 rfl rfl 6 (by decide) (hts (.fieldLink RF 84 "CoverTrees$Grammar" "two" "[I") (List.mem_cons_of_mem _ wt_67)) (fun _ h9 => h9) rfl dF_sizeByRule_134 ?_
        refine lv_iload_n hx hb dF_sizeByRule_137 rfl (lv_at hl 2 rfl) ?_
        obtain ⟨hi29, hw⟩ := hw
        refine va_iald hx hb hK hP 7 4 rfl rfl hi29 dF_sizeByRule_138 ?_
        refine ct_i (va_runSN (As := [.int (f_24 11 (n_23 2).toNatClampNeg), .int (f_24 7 x2_5.toNatClampNeg)]) (rest := [.ref (a 16), .int x3_26]) ⟨hx, hb, hml, hown, hts⟩ (met_C_place l dC dI a cA sa (f_24 11 (n_23 2).toNatClampNeg) (f_24 7 x2_5.toNatClampNeg) n_23 f_24 _ hw) ⟨va_cnB 2 hts (wb_N wt_316) rfl rfl rfl hZ.1 (hts (.initialized "CoverTrees") (List.mem_cons_of_mem _ wt_27)) (by decide +kernel) ⟨Nat.le_of_ble_eq_true rfl, Nat.le_of_ble_eq_true rfl⟩, (hts (.static yC_place) (List.mem_cons_of_mem _ wt_315)), trivial⟩ (ct_pre hK hP (hDa _ _) hZ hS hA) rfl rfl hl.1 rfl (lv_room (Nat.le_of_ble_eq_true rfl)) dF_sizeByRule_139 ⟨Nat.le_of_ble_eq_true rfl, Nat.le_of_ble_eq_true rfl⟩) (hDa _ _) hS hA (fun r30 n_31 f_32 H locs hw hP hS => ?_)
        obtain ⟨hi33, hw⟩ := hw
        refine va_iald hx hb hK hP 16 13 rfl rfl hi33 dF_sizeByRule_142 ?_
        refine lv_iadd hx hb dF_sizeByRule_143 ?_
        refine lv_topi (fun x3_34 ex3_34 => ?_)
        have hw := hw x3_34 ex3_34
        refine lv_istore_n (lv' := [(3, .int x3_34), (4, .int x4_10), (2, .int x2_5), (0, .ref (a 2)), (1, .int p1)]) hx hb dF_sizeByRule_144 rfl hl (by decide) rfl (fun ls hl => ?_)
        refine lv_iload_n hx hb dF_sizeByRule_145 rfl (lv_at hl 0 rfl) ?_
        refine lv_sipush (v := 2001) hx hb dF_sizeByRule_146 (by decide) ?_
        refine va_mmin hx hb (hml.trans hl.1.symm) hown (hts (.methodLink RF 103 Lib.Math.min.name) (List.mem_cons_of_mem _ wt_341)) (hts (.static Lib.Math.min.name) (List.mem_cons_of_mem _ wt_342)) (hts (.initialized "java/lang/Math") (List.mem_cons_of_mem _ wt_36)) (hts (.code Lib.Math.min.name Lib.Math.min.code 2 (some .int)) (List.mem_cons_of_mem _ wt_343)) (Nat.le_of_ble_eq_true rfl) (Nat.le_of_ble_eq_true rfl) (Nat.zero_le _) (Nat.zero_le _) dF_sizeByRule_149 ?_
        exact W.iret (v := (if (2001 : Int32) < x3_34 then (2001 : Int32) else x3_34)) hx hb hr (fun t ht hW => ⟨⟨(if (2001 : Int32) < x3_34 then (2001 : Int32) else x3_34), (n_31, f_32), rfl, hw, ct_mkB ht hP⟩, hS.F ht⟩) hS.2.2 dF_sizeByRule_152
  · have hw := hw.2 c7
    refine lv_iload_n hx hb dF_sizeByRule_29 rfl (lv_at hl 0 rfl) ?_
    refine lv_aload_n hx hb dF_sizeByRule_30 rfl (lv_at hl 2 rfl) ?_
    refine va_get (D := (dC, dI)) (ci := 2) (v := .ref (a 16)) (C := RF) (T := TF) (N := 11) hx hb hts (fun w h => List.mem_cons_of_mem _ (inF w h)) hown hK hP 2 rfl rfl 9 (by decide) (hts (.fieldLink RF 33 "CoverTrees$Forest" "size" "[I") (List.mem_cons_of_mem _ wt_107)) (fun _ h9 => h9) rfl dF_sizeByRule_31 ?_
    refine lv_aload_n hx hb dF_sizeByRule_34 rfl (lv_at hl 2 rfl) ?_
    refine va_get (D := (dC, dI)) (ci := 2) (v := .int (n_2 2)) (C := RF) (T := TF) (N := 11) hx hb hts (fun w h => List.mem_cons_of_mem _ (inF w h)) hown hK hP 2 rfl rfl 1 (by decide) (hts (.fieldLink RF 44 "CoverTrees$Forest" "count" "I") (List.mem_cons_of_mem _ wt_96)) (fun _ h9 => h9) rfl dF_sizeByRule_35 ?_
    refine lv_aload_n hx hb dF_sizeByRule_38 rfl (lv_at hl 2 rfl) ?_
    refine va_get (D := (dC, dI)) (ci := 2) (v := .ref (a 1)) (C := RF) (T := TF) (N := 11) hx hb hts (fun w h => List.mem_cons_of_mem _ (inF w h)) hown hK hP 2 rfl rfl 0 (by decide) (hts (.fieldLink RF 40 "CoverTrees$Forest" "grammar" "LCoverTrees$Grammar;") (List.mem_cons_of_mem _ wt_94)) (fun _ h9 => h9) rfl dF_sizeByRule_39 ?_
    refine va_get (D := (dC, dI)) (ci := 1) (v := .ref (a 6)) (C := RG) (T := TG) (N := 8) hx hb hts (fun w h => List.mem_cons_of_mem _ (inG w h)) hown hK hP 1 rfl rfl 5 (by decide) (hts (.fieldLink RF 83 "CoverTrees$Grammar" "one" "[I") (List.mem_cons_of_mem _ wt_65)) (fun _ h9 => h9) rfl dF_sizeByRule_42 ?_
    refine lv_iload_n hx hb dF_sizeByRule_45 rfl (lv_at hl 1 rfl) ?_
    obtain ⟨hi35, hw⟩ := hw
    refine va_iald hx hb hK hP 6 3 rfl rfl hi35 dF_sizeByRule_46 ?_
    refine ct_i (va_runSN (As := [.int (n_2 2), .int (f_3 6 x2_5.toNatClampNeg)]) (rest := [.ref (a 16), .int 1]) ⟨hx, hb, hml, hown, hts⟩ (met_C_place l dC dI a cA sa (n_2 2) (f_3 6 x2_5.toNatClampNeg) n_2 f_3 _ hw) ⟨va_cnB 2 hts (wb_N wt_316) rfl rfl rfl hZ.1 (hts (.initialized "CoverTrees") (List.mem_cons_of_mem _ wt_27)) (by decide +kernel) ⟨Nat.le_of_ble_eq_true rfl, Nat.le_of_ble_eq_true rfl⟩, (hts (.static yC_place) (List.mem_cons_of_mem _ wt_315)), trivial⟩ (ct_pre hK hP (hDa _ _) hZ hS hA) rfl rfl hl.1 rfl (lv_room (Nat.le_of_ble_eq_true rfl)) dF_sizeByRule_47 ⟨Nat.le_of_ble_eq_true rfl, Nat.le_of_ble_eq_true rfl⟩) (hDa _ _) hS hA (fun r36 n_37 f_38 H locs hw hP hS => ?_)
    obtain ⟨hi39, hw⟩ := hw
    refine va_iald hx hb hK hP 16 13 rfl rfl hi39 dF_sizeByRule_50 ?_
    refine lv_iadd hx hb dF_sizeByRule_51 ?_
    refine lv_topi (fun x3_40 ex3_40 => ?_)
    have hw := hw x3_40 ex3_40
    refine lv_istore_n (lv' := [(3, .int x3_40), (2, .int x2_5), (0, .ref (a 2)), (1, .int p1)]) hx hb dF_sizeByRule_52 rfl hl (by decide) rfl (fun ls hl => ?_)
    refine lv_goto (tgt := 145) hx hb dF_sizeByRule_53 (by decide) ?_
    refine lv_iload_n hx hb dF_sizeByRule_145 rfl (lv_at hl 0 rfl) ?_
    refine lv_sipush (v := 2001) hx hb dF_sizeByRule_146 (by decide) ?_
    refine va_mmin hx hb (hml.trans hl.1.symm) hown (hts (.methodLink RF 103 Lib.Math.min.name) (List.mem_cons_of_mem _ wt_341)) (hts (.static Lib.Math.min.name) (List.mem_cons_of_mem _ wt_342)) (hts (.initialized "java/lang/Math") (List.mem_cons_of_mem _ wt_36)) (hts (.code Lib.Math.min.name Lib.Math.min.code 2 (some .int)) (List.mem_cons_of_mem _ wt_343)) (Nat.le_of_ble_eq_true rfl) (Nat.le_of_ble_eq_true rfl) (Nat.zero_le _) (Nat.zero_le _) dF_sizeByRule_149 ?_
    exact W.iret (v := (if (2001 : Int32) < x3_40 then (2001 : Int32) else x3_40)) hx hb hr (fun t ht hW => ⟨⟨(if (2001 : Int32) < x3_40 then (2001 : Int32) else x3_40), (n_37, f_38), rfl, hw, ct_mkB ht hP⟩, hS.F ht⟩) hS.2.2 dF_sizeByRule_152
def wp_F_settleGoals_L2 (post : ctN → ctF → Prop) : Nat → Int32 → ctN → ctF → Prop
  | 0, _, _, _ => False
  | k + 1, x1, n, f => (8 ≤ x1 → (post n f)) ∧ (¬ 8 ≤ x1 → (wp_F_cheapestUnsettled (fun (r2 : Int32) (n_3 : ctN) (f_4 : ctF) => (¬ r2 = (-1) → (vp_in r2 8 ∧ (∀ f_7 : ctF, f_7 = va_up f_4 17 (upd (f_4 17) r2.toNatClampNeg (vp_nar .boolean 1)) → ((¬ x1 = 0 → (wp_C_place (fun (r9 : Int32) (n_10 : ctN) (f_11 : ctF) => wp_F_sizeByRule (fun (r12 : Int32) (n_13 : ctN) (f_14 : ctF) => vp_in r9 960 ∧ (∀ f_16 : ctF, f_16 = va_up f_14 16 (upd (f_14 16) r9.toNatClampNeg r12) → (wp_F_applyChainRulesFrom (fun (n_18 : ctN) (f_19 : ctF) => ∀ x1_20 : Int32, x1_20 = x1 + 1 → (wp_F_settleGoals_L2 post k x1_20 n_18 f_19)) r2 n_13 f_16))) r2 n_10 f_11) (n_3 2) r2 n_3 f_7)) ∧ (x1 = 0 → (wp_C_place (fun (r21 : Int32) (n_22 : ctN) (f_23 : ctF) => vp_in r21 960 ∧ (vp_in (n_3 2) 120 ∧ (∀ f_26 : ctF, f_26 = va_up f_23 12 (upd (f_23 12) (n_3 2).toNatClampNeg (f_23 14 r21.toNatClampNeg)) → (wp_C_place (fun (r27 : Int32) (n_28 : ctN) (f_29 : ctF) => wp_F_sizeByRule (fun (r30 : Int32) (n_31 : ctN) (f_32 : ctF) => vp_in r27 960 ∧ (∀ f_34 : ctF, f_34 = va_up f_32 16 (upd (f_32 16) r27.toNatClampNeg r30) → (wp_F_applyChainRulesFrom (fun (n_36 : ctN) (f_37 : ctF) => ∀ x1_38 : Int32, x1_38 = x1 + 1 → (wp_F_settleGoals_L2 post k x1_38 n_36 f_37)) r2 n_31 f_34))) r2 n_28 f_29) (n_22 2) r2 n_22 f_26)))) (n_3 2) r2 n_3 f_7)))))) ∧ (r2 = (-1) → (post n_3 f_4))) n f))
def wp_F_settleGoals (post : ctN → ctF → Prop) (n : ctN) (f : ctF) : Prop := ∃ k, wp_F_settleGoals_L2 post k 0 n f
set_option maxHeartbeats 4000000 in
set_option maxRecDepth 100000 in
theorem met_F_settleGoals (l : Launch) (dC : Nat → ClassId) (dI : Nat → Nat → Nat) (a : Nat → Nat) (cA : Nat → ClassId) (sa : Nat → Nat) (n : ctN) (f : ctF) (sz : Nat) {post : ctN → ctF → Prop} (hw : wp_F_settleGoals post n f) : Met l yF_settleGoals wsF_settleGoals ({ frames := 3, cells := 0, slots := 0, locals := 67 } : Room) (ct_Pc dC dI a cA sa [.ref (a 2)] n f sz) (va_Qv (fun (u : ctN × ctF) => post u.1 u.2) (ct_B dC dI a cA) (va_A (ctW a cA n f) sz)) 0 0 (va_A (ctW a cA n f) sz) := by
  refine Met.ofW (cc := cF_settleGoals) (maxL := 3) (ret := none) (by decide) rfl ?_
  intro p e s m args below meth c s₁ B hml hv
  obtain ⟨rfl, hsz, hP, hK, hD0, hZ⟩ := hv
  have hx := B.exec
  have hb := B.bytes
  have hr := B.returns
  have hts := atoms_spec (ws := wsF_settleGoals) B.pre
  have hown : s.vm.findClass RF = some m.cls := findClass_of_methodNamed B.named
  have hlocks := B.notSynchronized
  subst hsz
  have hD := hD0.self (sz := s.heap.size)
  generalize hAe : va_A (ctW a cA n f) s.heap.size = A at hD hZ ⊢
  have hDa : ∀ (n : ctN) (f : ctF), va_D A (ctW a cA n f) := fun _ _ => ct_D hD
  have hA : ∀ q : Nat, s.heap.size ≤ q → A q := fun q h => by rw [← hAe]; exact Or.inr h
  have hS : va_S A s.heap s.heap [] := va_S.rf
  have hl := lv_entry ([.ref (a 2)]) (n := 3) (Nat.le_of_ble_eq_true rfl)
  rw [lg_entry_eq]
  generalize (lg_sl ([.ref (a 2)]) ++ List.replicate (3 - (lg_sl ([.ref (a 2)])).length) Slot.unset).toArray = ls at hl ⊢
  have hl : lv_has ls 3 [(0, .ref (a 2))] := hl
  unfold wp_F_settleGoals at hw
  have loop_2 : ∀ (k : Nat) (x1 : Int32) (n : ctN) (f : ctF) (H : Heap) (locs : List Loc) (ls : Array Slot), wp_F_settleGoals_L2 post k x1 n f → va_P (dC, dI) vcl (ctW a cA n f) H → va_S A s.heap H locs → lv_has ls 3 [(0, .ref (a 2)), (1, .int x1)] → W p l e (headSpec wsF_settleGoals ({ frames := 3, cells := 0, slots := 0, locals := 67 } : Room)).room s m (([.ref (a 2)] : List Value).toArray) below meth c H locs 0 0 (MQ below (va_Qv (fun (u : ctN × ctF) => post u.1 u.2) (ct_B dC dI a cA) A) (([.ref (a 2)] : List Value).toArray) s 0 0 A) (F0 m 2 ls []) := by
    intro k
    induction k with
    | zero => intro x1 n f H locs ls hw; exact hw.elim
    | succ k ih =>
      intro x1 n f H locs ls hw hP hS hl
      rw [wp_F_settleGoals_L2] at hw
      refine lv_iload_n hx hb dF_settleGoals_2 rfl (lv_at hl 1 rfl) ?_
      refine lv_bipush (v := 8) hx hb dF_settleGoals_3 (by decide) ?_
      refine lv_icmp_ge (tgt := 81) hx hb dF_settleGoals_5 (by decide) (fun c1 => ?_) (fun c1 => ?_)
      · have hw := hw.1 c1
        exact W.vret hx hb hr (fun t ht hW => ⟨⟨(n, f), rfl, hw, ct_mkB ht hP⟩, hS.F ht⟩) hS.2.2 dF_settleGoals_81
      · have hw := hw.2 c1
        refine lv_aload_n hx hb dF_settleGoals_8 rfl (lv_at hl 0 rfl) ?_
        refine ct_i (va_runV (As := []) (rest := []) ⟨hx, hb, hml, hown, hts⟩ (met_F_cheapestUnsettled l dC dI a cA sa n f _ hw) (cwV 0 hts (wb_V wt_333 wt_335 wt_7 wt_29 wt_336) rfl rfl rfl (by decide +kernel) ⟨Nat.le_of_ble_eq_true rfl, Nat.le_of_ble_eq_true rfl⟩) (ct_preV hK hP (hDa _ _) hZ hS hA (va_recv hK hP (ci := 2) (q0 := 2) rfl rfl)) rfl rfl hl.1 rfl (lv_room (Nat.le_of_ble_eq_true rfl)) dF_settleGoals_9 ⟨Nat.le_of_ble_eq_true rfl, Nat.le_of_ble_eq_true rfl⟩) (hDa _ _) hS hA (fun r2 n_3 f_4 H locs hw hP hS => ?_)
        refine lv_istore_n (lv' := [(2, .int r2), (0, .ref (a 2)), (1, .int x1)]) hx hb dF_settleGoals_12 rfl hl (by decide) rfl (fun ls hl => ?_)
        refine lv_iload_n hx hb dF_settleGoals_13 rfl (lv_at hl 0 rfl) ?_
        refine lv_iconst (v := (-1)) hx hb dF_settleGoals_14 (by decide) ?_
        refine lv_icmp_ne (tgt := 19) hx hb dF_settleGoals_15 (by decide) (fun c5 => ?_) (fun c5 => ?_)
        · have hw := hw.1 c5
          refine lv_aload_n hx hb dF_settleGoals_19 rfl (lv_at hl 1 rfl) ?_
          refine va_get (D := (dC, dI)) (ci := 2) (v := .ref (a 17)) (C := RF) (T := TF) (N := 11) hx hb hts (fun w h => List.mem_cons_of_mem _ (inF w h)) hown hK hP 2 rfl rfl 10 (by decide) (hts (.fieldLink RF 36 "CoverTrees$Forest" "settled" "[Z") (List.mem_cons_of_mem _ wt_109)) (fun _ h9 => h9) rfl dF_settleGoals_20 ?_
          refine lv_iload_n hx hb dF_settleGoals_23 rfl (lv_at hl 0 rfl) ?_
          refine lv_iconst (v := 1) hx hb dF_settleGoals_24 (by decide) ?_
          obtain ⟨hi6, hw⟩ := hw
          refine va_zast hx hb hK hP (hDa _ _) hS 17 14 rfl rfl hi6 dF_settleGoals_25 (fun H locs hP _ hS => ?_)
          obtain ⟨f_7, ef_7⟩ : ∃ z : ctF, z = va_up f_4 17 (upd (f_4 17) r2.toNatClampNeg (vp_nar .boolean 1)) := ⟨_, rfl⟩
          have hw := hw f_7 ef_7
          have hP : va_P (dC, dI) vcl (ctW a cA n_3 f_7) H := by rw [ef_7]; exact hP
          refine lv_iload_n hx hb dF_settleGoals_26 rfl (lv_at hl 2 rfl) ?_
          refine lv_if_ne (tgt := 52) hx hb dF_settleGoals_27 (by decide) (fun c8 => ?_) (fun c8 => ?_)
          · have hw := hw.1 c8
            refine lv_aload_n hx hb dF_settleGoals_52 rfl (lv_at hl 1 rfl) ?_
            refine va_get (D := (dC, dI)) (ci := 2) (v := .ref (a 16)) (C := RF) (T := TF) (N := 11) hx hb hts (fun w h => List.mem_cons_of_mem _ (inF w h)) hown hK hP 2 rfl rfl 9 (by decide) (hts (.fieldLink RF 33 "CoverTrees$Forest" "size" "[I") (List.mem_cons_of_mem _ wt_107)) (fun _ h9 => h9) rfl dF_settleGoals_53 ?_
            refine lv_aload_n hx hb dF_settleGoals_56 rfl (lv_at hl 1 rfl) ?_
            refine va_get (D := (dC, dI)) (ci := 2) (v := .int (n_3 2)) (C := RF) (T := TF) (N := 11) hx hb hts (fun w h => List.mem_cons_of_mem _ (inF w h)) hown hK hP 2 rfl rfl 1 (by decide) (hts (.fieldLink RF 44 "CoverTrees$Forest" "count" "I") (List.mem_cons_of_mem _ wt_96)) (fun _ h9 => h9) rfl dF_settleGoals_57 ?_
            refine lv_iload_n hx hb dF_settleGoals_60 rfl (lv_at hl 0 rfl) ?_
            refine ct_i (va_runSN (As := [.int (n_3 2), .int r2]) (rest := [.ref (a 16)]) ⟨hx, hb, hml, hown, hts⟩ (met_C_place l dC dI a cA sa (n_3 2) r2 n_3 f_7 _ hw) ⟨va_cnB 2 hts (wb_N wt_316) rfl rfl rfl hZ.1 (hts (.initialized "CoverTrees") (List.mem_cons_of_mem _ wt_27)) (by decide +kernel) ⟨Nat.le_of_ble_eq_true rfl, Nat.le_of_ble_eq_true rfl⟩, (hts (.static yC_place) (List.mem_cons_of_mem _ wt_315)), trivial⟩ (ct_pre hK hP (hDa _ _) hZ hS hA) rfl rfl hl.1 rfl (lv_room (Nat.le_of_ble_eq_true rfl)) dF_settleGoals_61 ⟨Nat.le_of_ble_eq_true rfl, Nat.le_of_ble_eq_true rfl⟩) (hDa _ _) hS hA (fun r9 n_10 f_11 H locs hw hP hS => ?_)
            refine lv_aload_n hx hb dF_settleGoals_64 rfl (lv_at hl 1 rfl) ?_
            refine lv_iload_n hx hb dF_settleGoals_65 rfl (lv_at hl 0 rfl) ?_
            refine ct_i (va_runV (As := [.int r2]) (rest := [.int r9, .ref (a 16)]) ⟨hx, hb, hml, hown, hts⟩ (met_F_sizeByRule l dC dI a cA sa r2 n_10 f_11 _ hw) (cwV 1 hts (wb_V wt_337 wt_339 wt_8 wt_29 wt_340) rfl rfl rfl (by decide +kernel) ⟨Nat.le_of_ble_eq_true rfl, Nat.le_of_ble_eq_true rfl⟩) (ct_preV hK hP (hDa _ _) hZ hS hA (va_recv hK hP (ci := 2) (q0 := 2) rfl rfl)) rfl rfl hl.1 rfl (lv_room (Nat.le_of_ble_eq_true rfl)) dF_settleGoals_66 ⟨Nat.le_of_ble_eq_true rfl, Nat.le_of_ble_eq_true rfl⟩) (hDa _ _) hS hA (fun r12 n_13 f_14 H locs hw hP hS => ?_)
            obtain ⟨hi15, hw⟩ := hw
            refine va_iast hx hb hK hP (hDa _ _) hS 16 13 rfl rfl hi15 dF_settleGoals_69 (fun H locs hP _ hS => ?_)
            obtain ⟨f_16, ef_16⟩ : ∃ z : ctF, z = va_up f_14 16 (upd (f_14 16) r9.toNatClampNeg r12) := ⟨_, rfl⟩
            have hw := hw f_16 ef_16
            have hP : va_P (dC, dI) vcl (ctW a cA n_13 f_16) H := by rw [ef_16]; exact hP
            refine lv_aload_n hx hb dF_settleGoals_70 rfl (lv_at hl 1 rfl) ?_
            refine lv_iload_n hx hb dF_settleGoals_71 rfl (lv_at hl 0 rfl) ?_
            refine ct_v (va_runV (As := [.int r2]) (rest := []) ⟨hx, hb, hml, hown, hts⟩ (met_F_applyChainRulesFrom l dC dI a cA sa r2 n_13 f_16 _ hw) (cwV 1 hts (wb_V wt_344 wt_346 wt_9 wt_29 wt_347) rfl rfl rfl (by decide +kernel) ⟨Nat.le_of_ble_eq_true rfl, Nat.le_of_ble_eq_true rfl⟩) (ct_preV hK hP (hDa _ _) hZ hS hA (va_recv hK hP (ci := 2) (q0 := 2) rfl rfl)) rfl rfl hl.1 rfl (lv_room (Nat.le_of_ble_eq_true rfl)) dF_settleGoals_72 ⟨Nat.le_of_ble_eq_true rfl, Nat.le_of_ble_eq_true rfl⟩) (hDa _ _) hS hA (fun n_18 f_19 H locs hw hP hS => ?_)
            obtain ⟨x1_20, ex1_20⟩ : ∃ y : Int32, y = x1 + 1 := ⟨_, rfl⟩
            have hw := hw x1_20 ex1_20
            refine lv_iinc (v := x1_20) (lv' := [(1, .int x1_20), (2, .int r2), (0, .ref (a 2))]) hx hb dF_settleGoals_75 hl (k := 2) rfl (by rw [ex1_20]; rfl) (by decide) rfl (fun ls hl => ?_)
            refine lv_goto (tgt := 2) hx hb dF_settleGoals_78 (by decide) ?_
            exact ih x1_20 n_18 f_19 _ _ ls hw hP hS (lv_sub hl [2, 0] rfl)
          · have hw := hw.2 c8
            refine lv_aload_n hx hb dF_settleGoals_30 rfl (lv_at hl 1 rfl) ?_
            refine va_get (D := (dC, dI)) (ci := 2) (v := .ref (a 12)) (C := RF) (T := TF) (N := 11) hx hb hts (fun w h => List.mem_cons_of_mem _ (inF w h)) hown hK hP 2 rfl rfl 5 (by decide) (hts (.fieldLink RF 21 "CoverTrees$Forest" "leastCost" "[I") (List.mem_cons_of_mem _ wt_100)) (fun _ h9 => h9) rfl dF_settleGoals_31 ?_
            refine lv_aload_n hx hb dF_settleGoals_34 rfl (lv_at hl 1 rfl) ?_
            refine va_get (D := (dC, dI)) (ci := 2) (v := .int (n_3 2)) (C := RF) (T := TF) (N := 11) hx hb hts (fun w h => List.mem_cons_of_mem _ (inF w h)) hown hK hP 2 rfl rfl 1 (by decide) (hts (.fieldLink RF 44 "CoverTrees$Forest" "count" "I") (List.mem_cons_of_mem _ wt_96)) (fun _ h9 => h9) rfl dF_settleGoals_35 ?_
            refine lv_aload_n hx hb dF_settleGoals_38 rfl (lv_at hl 1 rfl) ?_
            refine va_get (D := (dC, dI)) (ci := 2) (v := .ref (a 14)) (C := RF) (T := TF) (N := 11) hx hb hts (fun w h => List.mem_cons_of_mem _ (inF w h)) hown hK hP 2 rfl rfl 7 (by decide) (hts (.fieldLink RF 27 "CoverTrees$Forest" "cost" "[I") (List.mem_cons_of_mem _ wt_103)) (fun _ h9 => h9) rfl dF_settleGoals_39 ?_
            refine lv_aload_n hx hb dF_settleGoals_42 rfl (lv_at hl 1 rfl) ?_
            refine va_get (D := (dC, dI)) (ci := 2) (v := .int (n_3 2)) (C := RF) (T := TF) (N := 11) hx hb hts (fun w h => List.mem_cons_of_mem _ (inF w h)) hown hK hP 2 rfl rfl 1 (by decide) (hts (.fieldLink RF 44 "CoverTrees$Forest" "count" "I") (List.mem_cons_of_mem _ wt_96)) (fun _ h9 => h9) rfl dF_settleGoals_43 ?_
            refine lv_iload_n hx hb dF_settleGoals_46 rfl (lv_at hl 0 rfl) ?_
            refine ct_i (va_runSN (As := [.int (n_3 2), .int r2]) (rest := [.ref (a 14), .int (n_3 2), .ref (a 12)]) ⟨hx, hb, hml, hown, hts⟩ (met_C_place l dC dI a cA sa (n_3 2) r2 n_3 f_7 _ hw) ⟨va_cnB 2 hts (wb_N wt_316) rfl rfl rfl hZ.1 (hts (.initialized "CoverTrees") (List.mem_cons_of_mem _ wt_27)) (by decide +kernel) ⟨Nat.le_of_ble_eq_true rfl, Nat.le_of_ble_eq_true rfl⟩, (hts (.static yC_place) (List.mem_cons_of_mem _ wt_315)), trivial⟩ (ct_pre hK hP (hDa _ _) hZ hS hA) rfl rfl hl.1 rfl (lv_room (Nat.le_of_ble_eq_true rfl)) dF_settleGoals_47 ⟨Nat.le_of_ble_eq_true rfl, Nat.le_of_ble_eq_true rfl⟩) (hDa _ _) hS hA (fun r21 n_22 f_23 H locs hw hP hS => ?_)
            obtain ⟨hi24, hw⟩ := hw
            refine va_iald hx hb hK hP 14 11 rfl rfl hi24 dF_settleGoals_50 ?_
            obtain ⟨hi25, hw⟩ := hw
            refine va_iast hx hb hK hP (hDa _ _) hS 12 9 rfl rfl hi25 dF_settleGoals_51 (fun H locs hP _ hS => ?_)
            obtain ⟨f_26, ef_26⟩ : ∃ z : ctF, z = va_up f_23 12 (upd (f_23 12) (n_3 2).toNatClampNeg (f_23 14 r21.toNatClampNeg)) := ⟨_, rfl⟩
            have hw := hw f_26 ef_26
            have hP : va_P (dC, dI) vcl (ctW a cA n_22 f_26) H := by rw [ef_26]; exact hP
            refine lv_aload_n hx hb dF_settleGoals_52 rfl (lv_at hl 1 rfl) ?_
            refine va_get (D := (dC, dI)) (ci := 2) (v := .ref (a 16)) (C := RF) (T := TF) (N := 11) hx hb hts (fun w h => List.mem_cons_of_mem _ (inF w h)) hown hK hP 2 rfl rfl 9 (by decide) (hts (.fieldLink RF 33 "CoverTrees$Forest" "size" "[I") (List.mem_cons_of_mem _ wt_107)) (fun _ h9 => h9) rfl dF_settleGoals_53 ?_
            refine lv_aload_n hx hb dF_settleGoals_56 rfl (lv_at hl 1 rfl) ?_
            refine va_get (D := (dC, dI)) (ci := 2) (v := .int (n_22 2)) (C := RF) (T := TF) (N := 11) hx hb hts (fun w h => List.mem_cons_of_mem _ (inF w h)) hown hK hP 2 rfl rfl 1 (by decide) (hts (.fieldLink RF 44 "CoverTrees$Forest" "count" "I") (List.mem_cons_of_mem _ wt_96)) (fun _ h9 => h9) rfl dF_settleGoals_57 ?_
            refine lv_iload_n hx hb dF_settleGoals_60 rfl (lv_at hl 0 rfl) ?_
            refine ct_i (va_runSN (As := [.int (n_22 2), .int r2]) (rest := [.ref (a 16)]) ⟨hx, hb, hml, hown, hts⟩ (met_C_place l dC dI a cA sa (n_22 2) r2 n_22 f_26 _ hw) ⟨va_cnB 2 hts (wb_N wt_316) rfl rfl rfl hZ.1 (hts (.initialized "CoverTrees") (List.mem_cons_of_mem _ wt_27)) (by decide +kernel) ⟨Nat.le_of_ble_eq_true rfl, Nat.le_of_ble_eq_true rfl⟩, (hts (.static yC_place) (List.mem_cons_of_mem _ wt_315)), trivial⟩ (ct_pre hK hP (hDa _ _) hZ hS hA) rfl rfl hl.1 rfl (lv_room (Nat.le_of_ble_eq_true rfl)) dF_settleGoals_61 ⟨Nat.le_of_ble_eq_true rfl, Nat.le_of_ble_eq_true rfl⟩) (hDa _ _) hS hA (fun r27 n_28 f_29 H locs hw hP hS => ?_)
            refine lv_aload_n hx hb dF_settleGoals_64 rfl (lv_at hl 1 rfl) ?_
            refine lv_iload_n hx hb dF_settleGoals_65 rfl (lv_at hl 0 rfl) ?_
            refine ct_i (va_runV (As := [.int r2]) (rest := [.int r27, .ref (a 16)]) ⟨hx, hb, hml, hown, hts⟩ (met_F_sizeByRule l dC dI a cA sa r2 n_28 f_29 _ hw) (cwV 1 hts (wb_V wt_337 wt_339 wt_8 wt_29 wt_340) rfl rfl rfl (by decide +kernel) ⟨Nat.le_of_ble_eq_true rfl, Nat.le_of_ble_eq_true rfl⟩) (ct_preV hK hP (hDa _ _) hZ hS hA (va_recv hK hP (ci := 2) (q0 := 2) rfl rfl)) rfl rfl hl.1 rfl (lv_room (Nat.le_of_ble_eq_true rfl)) dF_settleGoals_66 ⟨Nat.le_of_ble_eq_true rfl, Nat.le_of_ble_eq_true rfl⟩) (hDa _ _) hS hA (fun r30 n_31 f_32 H locs hw hP hS => ?_)
            obtain ⟨hi33, hw⟩ := hw
            refine va_iast hx hb hK hP (hDa _ _) hS 16 13 rfl rfl hi33 dF_settleGoals_69 (fun H locs hP _ hS => ?_)
            obtain ⟨f_34, ef_34⟩ : ∃ z : ctF, z = va_up f_32 16 (upd (f_32 16) r27.toNatClampNeg r30) := ⟨_, rfl⟩
            have hw := hw f_34 ef_34
            have hP : va_P (dC, dI) vcl (ctW a cA n_31 f_34) H := by rw [ef_34]; exact hP
            refine lv_aload_n hx hb dF_settleGoals_70 rfl (lv_at hl 1 rfl) ?_
            refine lv_iload_n hx hb dF_settleGoals_71 rfl (lv_at hl 0 rfl) ?_
            refine ct_v (va_runV (As := [.int r2]) (rest := []) ⟨hx, hb, hml, hown, hts⟩ (met_F_applyChainRulesFrom l dC dI a cA sa r2 n_31 f_34 _ hw) (cwV 1 hts (wb_V wt_344 wt_346 wt_9 wt_29 wt_347) rfl rfl rfl (by decide +kernel) ⟨Nat.le_of_ble_eq_true rfl, Nat.le_of_ble_eq_true rfl⟩) (ct_preV hK hP (hDa _ _) hZ hS hA (va_recv hK hP (ci := 2) (q0 := 2) rfl rfl)) rfl rfl hl.1 rfl (lv_room (Nat.le_of_ble_eq_true rfl)) dF_settleGoals_72 ⟨Nat.le_of_ble_eq_true rfl, Nat.le_of_ble_eq_true rfl⟩) (hDa _ _) hS hA (fun n_36 f_37 H locs hw hP hS => ?_)
            obtain ⟨x1_38, ex1_38⟩ : ∃ y : Int32, y = x1 + 1 := ⟨_, rfl⟩
            have hw := hw x1_38 ex1_38
            refine lv_iinc (v := x1_38) (lv' := [(1, .int x1_38), (2, .int r2), (0, .ref (a 2))]) hx hb dF_settleGoals_75 hl (k := 2) rfl (by rw [ex1_38]; rfl) (by decide) rfl (fun ls hl => ?_)
            refine lv_goto (tgt := 2) hx hb dF_settleGoals_78 (by decide) ?_
            exact ih x1_38 n_36 f_37 _ _ ls hw hP hS (lv_sub hl [2, 0] rfl)
        · have hw := hw.2 c5
          exact W.vret hx hb hr (fun t ht hW => ⟨⟨(n_3, f_4), rfl, hw, ct_mkB ht hP⟩, hS.F ht⟩) hS.2.2 dF_settleGoals_18
  refine lv_iconst (v := 0) hx hb dF_settleGoals_0 (by decide) ?_
  refine lv_istore_n (lv' := [(1, .int 0), (0, .ref (a 2))]) hx hb dF_settleGoals_1 rfl hl (by decide) rfl (fun ls hl => ?_)
  obtain ⟨k, hw⟩ := hw
  exact loop_2 k 0 n f _ _ ls hw hP hS (lv_sub hl [1, 0] rfl)
def wp_F_draft (post : ctN → ctF → Prop) (p1 : Int32) (p2 : Int32) (p3 : Int32) (n : ctN) (f : ctF) : Prop := vp_in (n 2) 120 ∧ (∀ f_2 : ctF, f_2 = va_up f 9 (upd (f 9) (n 2).toNatClampNeg p1) → (vp_in (n 2) 120 ∧ (∀ f_4 : ctF, f_4 = va_up f_2 10 (upd (f_2 10) (n 2).toNatClampNeg p2) → (vp_in (n 2) 120 ∧ (∀ f_6 : ctF, f_6 = va_up f_4 11 (upd (f_4 11) (n 2).toNatClampNeg p3) → (wp_F_blankDraft (fun (n_8 : ctN) (f_9 : ctF) => wp_F_applyBaseRules (fun (n_11 : ctN) (f_12 : ctF) => wp_F_settleGoals (fun (n_14 : ctN) (f_15 : ctF) => post n_14 f_15) n_11 f_12) n_8 f_9) n f_6))))))
set_option maxHeartbeats 4000000 in
set_option maxRecDepth 100000 in
theorem met_F_draft (l : Launch) (dC : Nat → ClassId) (dI : Nat → Nat → Nat) (a : Nat → Nat) (cA : Nat → ClassId) (sa : Nat → Nat) (p1 : Int32) (p2 : Int32) (p3 : Int32) (n : ctN) (f : ctF) (sz : Nat) {post : ctN → ctF → Prop} (hw : wp_F_draft post p1 p2 p3 n f) : Met l yF_draft wsF_draft ({ frames := 4, cells := 0, slots := 0, locals := 89 } : Room) (ct_Pc dC dI a cA sa [.ref (a 2), .int p1, .int p2, .int p3] n f sz) (va_Qv (fun (u : ctN × ctF) => post u.1 u.2) (ct_B dC dI a cA) (va_A (ctW a cA n f) sz)) 0 0 (va_A (ctW a cA n f) sz) := by
  refine Met.ofW (cc := cF_draft) (maxL := 4) (ret := none) (by decide) rfl ?_
  intro p e s m args below meth c s₁ B hml hv
  obtain ⟨rfl, hsz, hP, hK, hD0, hZ⟩ := hv
  have hx := B.exec
  have hb := B.bytes
  have hr := B.returns
  have hts := atoms_spec (ws := wsF_draft) B.pre
  have hown : s.vm.findClass RF = some m.cls := findClass_of_methodNamed B.named
  have hlocks := B.notSynchronized
  subst hsz
  have hD := hD0.self (sz := s.heap.size)
  generalize hAe : va_A (ctW a cA n f) s.heap.size = A at hD hZ ⊢
  have hDa : ∀ (n : ctN) (f : ctF), va_D A (ctW a cA n f) := fun _ _ => ct_D hD
  have hA : ∀ q : Nat, s.heap.size ≤ q → A q := fun q h => by rw [← hAe]; exact Or.inr h
  have hS : va_S A s.heap s.heap [] := va_S.rf
  have hl := lv_entry ([.ref (a 2), .int p1, .int p2, .int p3]) (n := 4) (Nat.le_of_ble_eq_true rfl)
  rw [lg_entry_eq]
  generalize (lg_sl ([.ref (a 2), .int p1, .int p2, .int p3]) ++ List.replicate (4 - (lg_sl ([.ref (a 2), .int p1, .int p2, .int p3])).length) Slot.unset).toArray = ls at hl ⊢
  have hl : lv_has ls 4 [(0, .ref (a 2)), (1, .int p1), (2, .int p2), (3, .int p3)] := hl
  unfold wp_F_draft at hw
  refine lv_aload_n hx hb dF_draft_0 rfl (lv_at hl 0 rfl) ?_
  refine va_get (D := (dC, dI)) (ci := 2) (v := .ref (a 9)) (C := RF) (T := TF) (N := 11) hx hb hts (fun w h => List.mem_cons_of_mem _ (inF w h)) hown hK hP 2 rfl rfl 2 (by decide) (hts (.fieldLink RF 9 "CoverTrees$Forest" "operator" "[I") (List.mem_cons_of_mem _ wt_97)) (fun _ h9 => h9) rfl dF_draft_1 ?_
  refine lv_aload_n hx hb dF_draft_4 rfl (lv_at hl 0 rfl) ?_
  refine va_get (D := (dC, dI)) (ci := 2) (v := .int (n 2)) (C := RF) (T := TF) (N := 11) hx hb hts (fun w h => List.mem_cons_of_mem _ (inF w h)) hown hK hP 2 rfl rfl 1 (by decide) (hts (.fieldLink RF 44 "CoverTrees$Forest" "count" "I") (List.mem_cons_of_mem _ wt_96)) (fun _ h9 => h9) rfl dF_draft_5 ?_
  refine lv_iload_n hx hb dF_draft_8 rfl (lv_at hl 1 rfl) ?_
  obtain ⟨hi1, hw⟩ := hw
  refine va_iast hx hb hK hP (hDa _ _) hS 9 6 rfl rfl hi1 dF_draft_9 (fun H locs hP _ hS => ?_)
  obtain ⟨f_2, ef_2⟩ : ∃ z : ctF, z = va_up f 9 (upd (f 9) (n 2).toNatClampNeg p1) := ⟨_, rfl⟩
  have hw := hw f_2 ef_2
  have hP : va_P (dC, dI) vcl (ctW a cA n f_2) H := by rw [ef_2]; exact hP
  refine lv_aload_n hx hb dF_draft_10 rfl (lv_at hl 0 rfl) ?_
  refine va_get (D := (dC, dI)) (ci := 2) (v := .ref (a 10)) (C := RF) (T := TF) (N := 11) hx hb hts (fun w h => List.mem_cons_of_mem _ (inF w h)) hown hK hP 2 rfl rfl 3 (by decide) (hts (.fieldLink RF 15 "CoverTrees$Forest" "one" "[I") (List.mem_cons_of_mem _ wt_98)) (fun _ h9 => h9) rfl dF_draft_11 ?_
  refine lv_aload_n hx hb dF_draft_14 rfl (lv_at hl 0 rfl) ?_
  refine va_get (D := (dC, dI)) (ci := 2) (v := .int (n 2)) (C := RF) (T := TF) (N := 11) hx hb hts (fun w h => List.mem_cons_of_mem _ (inF w h)) hown hK hP 2 rfl rfl 1 (by decide) (hts (.fieldLink RF 44 "CoverTrees$Forest" "count" "I") (List.mem_cons_of_mem _ wt_96)) (fun _ h9 => h9) rfl dF_draft_15 ?_
  refine lv_iload_n hx hb dF_draft_18 rfl (lv_at hl 2 rfl) ?_
  obtain ⟨hi3, hw⟩ := hw
  refine va_iast hx hb hK hP (hDa _ _) hS 10 7 rfl rfl hi3 dF_draft_19 (fun H locs hP _ hS => ?_)
  obtain ⟨f_4, ef_4⟩ : ∃ z : ctF, z = va_up f_2 10 (upd (f_2 10) (n 2).toNatClampNeg p2) := ⟨_, rfl⟩
  have hw := hw f_4 ef_4
  have hP : va_P (dC, dI) vcl (ctW a cA n f_4) H := by rw [ef_4]; exact hP
  refine lv_aload_n hx hb dF_draft_20 rfl (lv_at hl 0 rfl) ?_
  refine va_get (D := (dC, dI)) (ci := 2) (v := .ref (a 11)) (C := RF) (T := TF) (N := 11) hx hb hts (fun w h => List.mem_cons_of_mem _ (inF w h)) hown hK hP 2 rfl rfl 4 (by decide) (hts (.fieldLink RF 18 "CoverTrees$Forest" "two" "[I") (List.mem_cons_of_mem _ wt_99)) (fun _ h9 => h9) rfl dF_draft_21 ?_
  refine lv_aload_n hx hb dF_draft_24 rfl (lv_at hl 0 rfl) ?_
  refine va_get (D := (dC, dI)) (ci := 2) (v := .int (n 2)) (C := RF) (T := TF) (N := 11) hx hb hts (fun w h => List.mem_cons_of_mem _ (inF w h)) hown hK hP 2 rfl rfl 1 (by decide) (hts (.fieldLink RF 44 "CoverTrees$Forest" "count" "I") (List.mem_cons_of_mem _ wt_96)) (fun _ h9 => h9) rfl dF_draft_25 ?_
  refine lv_iload_n hx hb dF_draft_28 rfl (lv_at hl 3 rfl) ?_
  obtain ⟨hi5, hw⟩ := hw
  refine va_iast hx hb hK hP (hDa _ _) hS 11 8 rfl rfl hi5 dF_draft_29 (fun H locs hP _ hS => ?_)
  obtain ⟨f_6, ef_6⟩ : ∃ z : ctF, z = va_up f_4 11 (upd (f_4 11) (n 2).toNatClampNeg p3) := ⟨_, rfl⟩
  have hw := hw f_6 ef_6
  have hP : va_P (dC, dI) vcl (ctW a cA n f_6) H := by rw [ef_6]; exact hP
  refine lv_aload_n hx hb dF_draft_30 rfl (lv_at hl 0 rfl) ?_
  refine ct_v (va_runV (As := []) (rest := []) ⟨hx, hb, hml, hown, hts⟩ (met_F_blankDraft l dC dI a cA sa n f_6 _ hw) (cwV 0 hts (wb_V wt_310 wt_312 wt_2 wt_29 wt_313) rfl rfl rfl (by decide +kernel) ⟨Nat.le_of_ble_eq_true rfl, Nat.le_of_ble_eq_true rfl⟩) (ct_preV hK hP (hDa _ _) hZ hS hA (va_recv hK hP (ci := 2) (q0 := 2) rfl rfl)) rfl rfl hl.1 rfl (lv_room (Nat.le_of_ble_eq_true rfl)) dF_draft_31 ⟨Nat.le_of_ble_eq_true rfl, Nat.le_of_ble_eq_true rfl⟩) (hDa _ _) hS hA (fun n_8 f_9 H locs hw hP hS => ?_)
  refine lv_aload_n hx hb dF_draft_34 rfl (lv_at hl 0 rfl) ?_
  refine ct_v (va_runV (As := []) (rest := []) ⟨hx, hb, hml, hown, hts⟩ (met_F_applyBaseRules l dC dI a cA sa n_8 f_9 _ hw) (cwV 0 hts (wb_V wt_317 wt_319 wt_3 wt_29 wt_320) rfl rfl rfl (by decide +kernel) ⟨Nat.le_of_ble_eq_true rfl, Nat.le_of_ble_eq_true rfl⟩) (ct_preV hK hP (hDa _ _) hZ hS hA (va_recv hK hP (ci := 2) (q0 := 2) rfl rfl)) rfl rfl hl.1 rfl (lv_room (Nat.le_of_ble_eq_true rfl)) dF_draft_35 ⟨Nat.le_of_ble_eq_true rfl, Nat.le_of_ble_eq_true rfl⟩) (hDa _ _) hS hA (fun n_11 f_12 H locs hw hP hS => ?_)
  refine lv_aload_n hx hb dF_draft_38 rfl (lv_at hl 0 rfl) ?_
  refine ct_v (va_runV (As := []) (rest := []) ⟨hx, hb, hml, hown, hts⟩ (met_F_settleGoals l dC dI a cA sa n_11 f_12 _ hw) (cwV 0 hts (wb_V wt_329 wt_331 wt_6 wt_29 wt_332) rfl rfl rfl (by decide +kernel) ⟨Nat.le_of_ble_eq_true rfl, Nat.le_of_ble_eq_true rfl⟩) (ct_preV hK hP (hDa _ _) hZ hS hA (va_recv hK hP (ci := 2) (q0 := 2) rfl rfl)) rfl rfl hl.1 rfl (lv_room (Nat.le_of_ble_eq_true rfl)) dF_draft_39 ⟨Nat.le_of_ble_eq_true rfl, Nat.le_of_ble_eq_true rfl⟩) (hDa _ _) hS hA (fun n_14 f_15 H locs hw hP hS => ?_)
  exact W.vret hx hb hr (fun t ht hW => ⟨⟨(n_14, f_15), rfl, hw, ct_mkB ht hP⟩, hS.F ht⟩) hS.2.2 dF_draft_42
end
section
def wp_F_alike_L2 (post : Int32 → ctN → ctF → Prop) : Nat → Int32 → Int32 → Int32 → ctN → ctF → Prop
  | 0, _, _, _, _, _ => False
  | k + 1, x1, x2, x3, n, f => (8 ≤ x3 → (post 1 n f)) ∧ (¬ 8 ≤ x3 → (wp_C_place (fun (r2 : Int32) (n_3 : ctN) (f_4 : ctF) => wp_C_place (fun (r5 : Int32) (n_6 : ctN) (f_7 : ctF) => vp_in r2 960 ∧ (vp_in r5 960 ∧ (((f_7 15 r2.toNatClampNeg) = (f_7 15 r5.toNatClampNeg) → (vp_in r2 960 ∧ (((f_7 15 r2.toNatClampNeg) = (-1) → (∀ x3_13 : Int32, x3_13 = x3 + 1 → (wp_F_alike_L2 post k x1 x2 x3_13 n_6 f_7))) ∧ (¬ (f_7 15 r2.toNatClampNeg) = (-1) → (vp_in r2 960 ∧ (vp_in x1 120 ∧ (vp_in r5 960 ∧ (vp_in x2 120 ∧ ((((f_7 14 r2.toNatClampNeg) - (f_7 12 x1.toNatClampNeg)) = ((f_7 14 r5.toNatClampNeg) - (f_7 12 x2.toNatClampNeg)) → (∀ x3_19 : Int32, x3_19 = x3 + 1 → (wp_F_alike_L2 post k x1 x2 x3_19 n_6 f_7))) ∧ (¬ ((f_7 14 r2.toNatClampNeg) - (f_7 12 x1.toNatClampNeg)) = ((f_7 14 r5.toNatClampNeg) - (f_7 12 x2.toNatClampNeg)) → (post 0 n_6 f_7))))))))))) ∧ (¬ (f_7 15 r2.toNatClampNeg) = (f_7 15 r5.toNatClampNeg) → (post 0 n_6 f_7))))) x2 x3 n_3 f_4) x1 x3 n f))
def wp_F_alike (post : Int32 → ctN → ctF → Prop) (p1 : Int32) (p2 : Int32) (n : ctN) (f : ctF) : Prop := ∃ k, wp_F_alike_L2 post k p1 p2 0 n f
set_option maxHeartbeats 4000000 in
set_option maxRecDepth 100000 in
theorem met_F_alike (l : Launch) (dC : Nat → ClassId) (dI : Nat → Nat → Nat) (a : Nat → Nat) (cA : Nat → ClassId) (sa : Nat → Nat) (p1 : Int32) (p2 : Int32) (n : ctN) (f : ctF) (sz : Nat) {post : Int32 → ctN → ctF → Prop} (hw : wp_F_alike post p1 p2 n f) : Met l yF_alike wsF_alike ({ frames := 1, cells := 0, slots := 0, locals := 21 } : Room) (ct_Pc dC dI a cA sa [.ref (a 2), .int p1, .int p2] n f sz) (va_Qi (fun (r : Int32) (u : ctN × ctF) => post r u.1 u.2) (ct_B dC dI a cA) (va_A (ctW a cA n f) sz)) 0 0 (va_A (ctW a cA n f) sz) := by
  refine Met.ofW (cc := cF_alike) (maxL := 6) (ret := (some .boolean)) (by decide) rfl ?_
  intro p e s m args below meth c s₁ B hml hv
  obtain ⟨rfl, hsz, hP, hK, hD0, hZ⟩ := hv
  have hx := B.exec
  have hb := B.bytes
  have hr := B.returns
  have hts := atoms_spec (ws := wsF_alike) B.pre
  have hown : s.vm.findClass RF = some m.cls := findClass_of_methodNamed B.named
  have hlocks := B.notSynchronized
  subst hsz
  have hD := hD0.self (sz := s.heap.size)
  generalize hAe : va_A (ctW a cA n f) s.heap.size = A at hD hZ ⊢
  have hDa : ∀ (n : ctN) (f : ctF), va_D A (ctW a cA n f) := fun _ _ => ct_D hD
  have hA : ∀ q : Nat, s.heap.size ≤ q → A q := fun q h => by rw [← hAe]; exact Or.inr h
  have hS : va_S A s.heap s.heap [] := va_S.rf
  have hl := lv_entry ([.ref (a 2), .int p1, .int p2]) (n := 6) (Nat.le_of_ble_eq_true rfl)
  rw [lg_entry_eq]
  generalize (lg_sl ([.ref (a 2), .int p1, .int p2]) ++ List.replicate (6 - (lg_sl ([.ref (a 2), .int p1, .int p2])).length) Slot.unset).toArray = ls at hl ⊢
  have hl : lv_has ls 6 [(0, .ref (a 2)), (1, .int p1), (2, .int p2)] := hl
  unfold wp_F_alike at hw
  have loop_2 : ∀ (k : Nat) (x1 x2 x3 : Int32) (n : ctN) (f : ctF) (H : Heap) (locs : List Loc) (ls : Array Slot), wp_F_alike_L2 post k x1 x2 x3 n f → va_P (dC, dI) vcl (ctW a cA n f) H → va_S A s.heap H locs → lv_has ls 6 [(0, .ref (a 2)), (1, .int x1), (2, .int x2), (3, .int x3)] → W p l e (headSpec wsF_alike ({ frames := 1, cells := 0, slots := 0, locals := 21 } : Room)).room s m (([.ref (a 2), .int p1, .int p2] : List Value).toArray) below meth c H locs 0 0 (MQ below (va_Qi (fun (r : Int32) (u : ctN × ctF) => post r u.1 u.2) (ct_B dC dI a cA) A) (([.ref (a 2), .int p1, .int p2] : List Value).toArray) s 0 0 A) (F0 m 2 ls []) := by
    intro k
    induction k with
    | zero => intro x1 x2 x3 n f H locs ls hw; exact hw.elim
    | succ k ih =>
      intro x1 x2 x3 n f H locs ls hw hP hS hl
      rw [wp_F_alike_L2] at hw
      refine lv_iload_n hx hb dF_alike_2 rfl (lv_at hl 3 rfl) ?_
      refine lv_bipush (v := 8) hx hb dF_alike_3 (by decide) ?_
      refine lv_icmp_ge (tgt := 91) hx hb dF_alike_5 (by decide) (fun c1 => ?_) (fun c1 => ?_)
      · have hw := hw.1 c1
        refine lv_iconst (v := 1) hx hb dF_alike_91 (by decide) ?_
        exact W.zret (v := 1) hx hb hr rfl (fun t ht hW => ⟨⟨1, (n, f), rfl, hw, ct_mkB ht hP⟩, hS.F ht⟩) hS.2.2 dF_alike_92
      · have hw := hw.2 c1
        refine lv_iload_n hx hb dF_alike_8 rfl (lv_at hl 1 rfl) ?_
        refine lv_iload_n hx hb dF_alike_9 rfl (lv_at hl 3 rfl) ?_
        refine ct_i (va_runSN (As := [.int x1, .int x3]) (rest := []) ⟨hx, hb, hml, hown, hts⟩ (met_C_place l dC dI a cA sa x1 x3 n f _ hw) ⟨va_cnB 2 hts (wb_N wt_316) rfl rfl rfl hZ.1 (hts (.initialized "CoverTrees") (List.mem_cons_of_mem _ wt_27)) (by decide +kernel) ⟨Nat.le_of_ble_eq_true rfl, Nat.le_of_ble_eq_true rfl⟩, (hts (.static yC_place) (List.mem_cons_of_mem _ wt_315)), trivial⟩ (ct_pre hK hP (hDa _ _) hZ hS hA) rfl rfl hl.1 rfl (lv_room (Nat.le_of_ble_eq_true rfl)) dF_alike_10 ⟨Nat.le_of_ble_eq_true rfl, Nat.le_of_ble_eq_true rfl⟩) (hDa _ _) hS hA (fun r2 n_3 f_4 H locs hw hP hS => ?_)
        refine lv_istore (lv' := [(4, .int r2), (0, .ref (a 2)), (1, .int x1), (2, .int x2), (3, .int x3)]) hx hb dF_alike_13 hl (by decide) rfl (fun ls hl => ?_)
        refine lv_iload_n hx hb dF_alike_15 rfl (lv_at hl 3 rfl) ?_
        refine lv_iload_n hx hb dF_alike_16 rfl (lv_at hl 4 rfl) ?_
        refine ct_i (va_runSN (As := [.int x2, .int x3]) (rest := []) ⟨hx, hb, hml, hown, hts⟩ (met_C_place l dC dI a cA sa x2 x3 n_3 f_4 _ hw) ⟨va_cnB 2 hts (wb_N wt_316) rfl rfl rfl hZ.1 (hts (.initialized "CoverTrees") (List.mem_cons_of_mem _ wt_27)) (by decide +kernel) ⟨Nat.le_of_ble_eq_true rfl, Nat.le_of_ble_eq_true rfl⟩, (hts (.static yC_place) (List.mem_cons_of_mem _ wt_315)), trivial⟩ (ct_pre hK hP (hDa _ _) hZ hS hA) rfl rfl hl.1 rfl (lv_room (Nat.le_of_ble_eq_true rfl)) dF_alike_17 ⟨Nat.le_of_ble_eq_true rfl, Nat.le_of_ble_eq_true rfl⟩) (hDa _ _) hS hA (fun r5 n_6 f_7 H locs hw hP hS => ?_)
        refine lv_istore (lv' := [(5, .int r5), (4, .int r2), (0, .ref (a 2)), (1, .int x1), (2, .int x2), (3, .int x3)]) hx hb dF_alike_20 hl (by decide) rfl (fun ls hl => ?_)
        refine lv_aload_n hx hb dF_alike_22 rfl (lv_at hl 2 rfl) ?_
        refine va_get (D := (dC, dI)) (ci := 2) (v := .ref (a 15)) (C := RF) (T := TF) (N := 11) hx hb hts (fun w h => List.mem_cons_of_mem _ (inF w h)) hown hK hP 2 rfl rfl 8 (by decide) (hts (.fieldLink RF 30 "CoverTrees$Forest" "rule" "[I") (List.mem_cons_of_mem _ wt_105)) (fun _ h9 => h9) rfl dF_alike_23 ?_
        refine lv_iload hx hb dF_alike_26 (lv_at hl 1 rfl) ?_
        obtain ⟨hi8, hw⟩ := hw
        refine va_iald hx hb hK hP 15 12 rfl rfl hi8 dF_alike_28 ?_
        refine lv_aload_n hx hb dF_alike_29 rfl (lv_at hl 2 rfl) ?_
        refine va_get (D := (dC, dI)) (ci := 2) (v := .ref (a 15)) (C := RF) (T := TF) (N := 11) hx hb hts (fun w h => List.mem_cons_of_mem _ (inF w h)) hown hK hP 2 rfl rfl 8 (by decide) (hts (.fieldLink RF 30 "CoverTrees$Forest" "rule" "[I") (List.mem_cons_of_mem _ wt_105)) (fun _ h9 => h9) rfl dF_alike_30 ?_
        refine lv_iload hx hb dF_alike_33 (lv_at hl 0 rfl) ?_
        obtain ⟨hi9, hw⟩ := hw
        refine va_iald hx hb hK hP 15 12 rfl rfl hi9 dF_alike_35 ?_
        refine lv_icmp_eq (tgt := 41) hx hb dF_alike_36 (by decide) (fun c10 => ?_) (fun c10 => ?_)
        · have hw := hw.1 c10
          refine lv_aload_n hx hb dF_alike_41 rfl (lv_at hl 2 rfl) ?_
          refine va_get (D := (dC, dI)) (ci := 2) (v := .ref (a 15)) (C := RF) (T := TF) (N := 11) hx hb hts (fun w h => List.mem_cons_of_mem _ (inF w h)) hown hK hP 2 rfl rfl 8 (by decide) (hts (.fieldLink RF 30 "CoverTrees$Forest" "rule" "[I") (List.mem_cons_of_mem _ wt_105)) (fun _ h9 => h9) rfl dF_alike_42 ?_
          refine lv_iload hx hb dF_alike_45 (lv_at hl 1 rfl) ?_
          obtain ⟨hi11, hw⟩ := hw
          refine va_iald hx hb hK hP 15 12 rfl rfl hi11 dF_alike_47 ?_
          refine lv_iconst (v := (-1)) hx hb dF_alike_48 (by decide) ?_
          refine lv_icmp_eq (tgt := 85) hx hb dF_alike_49 (by decide) (fun c12 => ?_) (fun c12 => ?_)
          · have hw := hw.1 c12
            obtain ⟨x3_13, ex3_13⟩ : ∃ y : Int32, y = x3 + 1 := ⟨_, rfl⟩
            have hw := hw x3_13 ex3_13
            refine lv_iinc (v := x3_13) (lv' := [(3, .int x3_13), (5, .int r5), (4, .int r2), (0, .ref (a 2)), (1, .int x1), (2, .int x2)]) hx hb dF_alike_85 hl (k := 5) rfl (by rw [ex3_13]; rfl) (by decide) rfl (fun ls hl => ?_)
            refine lv_goto (tgt := 2) hx hb dF_alike_88 (by decide) ?_
            exact ih x1 x2 x3_13 n_6 f_7 _ _ ls hw hP hS (lv_sub hl [3, 4, 5, 0] rfl)
          · have hw := hw.2 c12
            refine lv_aload_n hx hb dF_alike_52 rfl (lv_at hl 2 rfl) ?_
            refine va_get (D := (dC, dI)) (ci := 2) (v := .ref (a 14)) (C := RF) (T := TF) (N := 11) hx hb hts (fun w h => List.mem_cons_of_mem _ (inF w h)) hown hK hP 2 rfl rfl 7 (by decide) (hts (.fieldLink RF 27 "CoverTrees$Forest" "cost" "[I") (List.mem_cons_of_mem _ wt_103)) (fun _ h9 => h9) rfl dF_alike_53 ?_
            refine lv_iload hx hb dF_alike_56 (lv_at hl 1 rfl) ?_
            obtain ⟨hi14, hw⟩ := hw
            refine va_iald hx hb hK hP 14 11 rfl rfl hi14 dF_alike_58 ?_
            refine lv_aload_n hx hb dF_alike_59 rfl (lv_at hl 2 rfl) ?_
            refine va_get (D := (dC, dI)) (ci := 2) (v := .ref (a 12)) (C := RF) (T := TF) (N := 11) hx hb hts (fun w h => List.mem_cons_of_mem _ (inF w h)) hown hK hP 2 rfl rfl 5 (by decide) (hts (.fieldLink RF 21 "CoverTrees$Forest" "leastCost" "[I") (List.mem_cons_of_mem _ wt_100)) (fun _ h9 => h9) rfl dF_alike_60 ?_
            refine lv_iload_n hx hb dF_alike_63 rfl (lv_at hl 3 rfl) ?_
            obtain ⟨hi15, hw⟩ := hw
            refine va_iald hx hb hK hP 12 9 rfl rfl hi15 dF_alike_64 ?_
            refine lv_isub hx hb dF_alike_65 ?_
            refine lv_aload_n hx hb dF_alike_66 rfl (lv_at hl 2 rfl) ?_
            refine va_get (D := (dC, dI)) (ci := 2) (v := .ref (a 14)) (C := RF) (T := TF) (N := 11) hx hb hts (fun w h => List.mem_cons_of_mem _ (inF w h)) hown hK hP 2 rfl rfl 7 (by decide) (hts (.fieldLink RF 27 "CoverTrees$Forest" "cost" "[I") (List.mem_cons_of_mem _ wt_103)) (fun _ h9 => h9) rfl dF_alike_67 ?_
            refine lv_iload hx hb dF_alike_70 (lv_at hl 0 rfl) ?_
            obtain ⟨hi16, hw⟩ := hw
            refine va_iald hx hb hK hP 14 11 rfl rfl hi16 dF_alike_72 ?_
            refine lv_aload_n hx hb dF_alike_73 rfl (lv_at hl 2 rfl) ?_
            refine va_get (D := (dC, dI)) (ci := 2) (v := .ref (a 12)) (C := RF) (T := TF) (N := 11) hx hb hts (fun w h => List.mem_cons_of_mem _ (inF w h)) hown hK hP 2 rfl rfl 5 (by decide) (hts (.fieldLink RF 21 "CoverTrees$Forest" "leastCost" "[I") (List.mem_cons_of_mem _ wt_100)) (fun _ h9 => h9) rfl dF_alike_74 ?_
            refine lv_iload_n hx hb dF_alike_77 rfl (lv_at hl 4 rfl) ?_
            obtain ⟨hi17, hw⟩ := hw
            refine va_iald hx hb hK hP 12 9 rfl rfl hi17 dF_alike_78 ?_
            refine lv_isub hx hb dF_alike_79 ?_
            refine lv_icmp_eq (tgt := 85) hx hb dF_alike_80 (by decide) (fun c18 => ?_) (fun c18 => ?_)
            · have hw := hw.1 c18
              obtain ⟨x3_19, ex3_19⟩ : ∃ y : Int32, y = x3 + 1 := ⟨_, rfl⟩
              have hw := hw x3_19 ex3_19
              refine lv_iinc (v := x3_19) (lv' := [(3, .int x3_19), (5, .int r5), (4, .int r2), (0, .ref (a 2)), (1, .int x1), (2, .int x2)]) hx hb dF_alike_85 hl (k := 5) rfl (by rw [ex3_19]; rfl) (by decide) rfl (fun ls hl => ?_)
              refine lv_goto (tgt := 2) hx hb dF_alike_88 (by decide) ?_
              exact ih x1 x2 x3_19 n_6 f_7 _ _ ls hw hP hS (lv_sub hl [3, 4, 5, 0] rfl)
            · have hw := hw.2 c18
              refine lv_iconst (v := 0) hx hb dF_alike_83 (by decide) ?_
              exact W.zret (v := 0) hx hb hr rfl (fun t ht hW => ⟨⟨0, (n_6, f_7), rfl, hw, ct_mkB ht hP⟩, hS.F ht⟩) hS.2.2 dF_alike_84
        · have hw := hw.2 c10
          refine lv_iconst (v := 0) hx hb dF_alike_39 (by decide) ?_
          exact W.zret (v := 0) hx hb hr rfl (fun t ht hW => ⟨⟨0, (n_6, f_7), rfl, hw, ct_mkB ht hP⟩, hS.F ht⟩) hS.2.2 dF_alike_40
  refine lv_iconst (v := 0) hx hb dF_alike_0 (by decide) ?_
  refine lv_istore_n (lv' := [(3, .int 0), (0, .ref (a 2)), (1, .int p1), (2, .int p2)]) hx hb dF_alike_1 rfl hl (by decide) rfl (fun ls hl => ?_)
  obtain ⟨k, hw⟩ := hw
  exact loop_2 k p1 p2 0 n f _ _ ls hw hP hS (lv_sub hl [1, 2, 3, 0] rfl)
def wp_F_firstAlike_L2 (post : Int32 → ctN → ctF → Prop) : Nat → Int32 → Int32 → ctN → ctF → Prop
  | 0, _, _, _, _ => False
  | k + 1, x1, x2, n, f => (x1 ≤ x2 → (post x1 n f)) ∧ (¬ x1 ≤ x2 → (vp_in x2 120 ∧ ((¬ (f 13 x2.toNatClampNeg) = x2 → (∀ x2_4 : Int32, x2_4 = x2 + 1 → (wp_F_firstAlike_L2 post k x1 x2_4 n f))) ∧ ((f 13 x2.toNatClampNeg) = x2 → (wp_F_alike (fun (r5 : Int32) (n_6 : ctN) (f_7 : ctF) => (r5 = 0 → (∀ x2_9 : Int32, x2_9 = x2 + 1 → (wp_F_firstAlike_L2 post k x1 x2_9 n_6 f_7))) ∧ (¬ r5 = 0 → (post x2 n_6 f_7))) x2 x1 n f)))))
def wp_F_firstAlike (post : Int32 → ctN → ctF → Prop) (p1 : Int32) (n : ctN) (f : ctF) : Prop := ∃ k, wp_F_firstAlike_L2 post k p1 0 n f
set_option maxHeartbeats 4000000 in
set_option maxRecDepth 100000 in
theorem met_F_firstAlike (l : Launch) (dC : Nat → ClassId) (dI : Nat → Nat → Nat) (a : Nat → Nat) (cA : Nat → ClassId) (sa : Nat → Nat) (p1 : Int32) (n : ctN) (f : ctF) (sz : Nat) {post : Int32 → ctN → ctF → Prop} (hw : wp_F_firstAlike post p1 n f) : Met l yF_firstAlike wsF_firstAlike ({ frames := 2, cells := 0, slots := 0, locals := 46 } : Room) (ct_Pc dC dI a cA sa [.ref (a 2), .int p1] n f sz) (va_Qi (fun (r : Int32) (u : ctN × ctF) => post r u.1 u.2) (ct_B dC dI a cA) (va_A (ctW a cA n f) sz)) 0 0 (va_A (ctW a cA n f) sz) := by
  refine Met.ofW (cc := cF_firstAlike) (maxL := 3) (ret := (some .int)) (by decide) rfl ?_
  intro p e s m args below meth c s₁ B hml hv
  obtain ⟨rfl, hsz, hP, hK, hD0, hZ⟩ := hv
  have hx := B.exec
  have hb := B.bytes
  have hr := B.returns
  have hts := atoms_spec (ws := wsF_firstAlike) B.pre
  have hown : s.vm.findClass RF = some m.cls := findClass_of_methodNamed B.named
  have hlocks := B.notSynchronized
  subst hsz
  have hD := hD0.self (sz := s.heap.size)
  generalize hAe : va_A (ctW a cA n f) s.heap.size = A at hD hZ ⊢
  have hDa : ∀ (n : ctN) (f : ctF), va_D A (ctW a cA n f) := fun _ _ => ct_D hD
  have hA : ∀ q : Nat, s.heap.size ≤ q → A q := fun q h => by rw [← hAe]; exact Or.inr h
  have hS : va_S A s.heap s.heap [] := va_S.rf
  have hl := lv_entry ([.ref (a 2), .int p1]) (n := 3) (Nat.le_of_ble_eq_true rfl)
  rw [lg_entry_eq]
  generalize (lg_sl ([.ref (a 2), .int p1]) ++ List.replicate (3 - (lg_sl ([.ref (a 2), .int p1])).length) Slot.unset).toArray = ls at hl ⊢
  have hl : lv_has ls 3 [(0, .ref (a 2)), (1, .int p1)] := hl
  unfold wp_F_firstAlike at hw
  have loop_2 : ∀ (k : Nat) (x1 x2 : Int32) (n : ctN) (f : ctF) (H : Heap) (locs : List Loc) (ls : Array Slot), wp_F_firstAlike_L2 post k x1 x2 n f → va_P (dC, dI) vcl (ctW a cA n f) H → va_S A s.heap H locs → lv_has ls 3 [(0, .ref (a 2)), (1, .int x1), (2, .int x2)] → W p l e (headSpec wsF_firstAlike ({ frames := 2, cells := 0, slots := 0, locals := 46 } : Room)).room s m (([.ref (a 2), .int p1] : List Value).toArray) below meth c H locs 0 0 (MQ below (va_Qi (fun (r : Int32) (u : ctN × ctF) => post r u.1 u.2) (ct_B dC dI a cA) A) (([.ref (a 2), .int p1] : List Value).toArray) s 0 0 A) (F0 m 2 ls []) := by
    intro k
    induction k with
    | zero => intro x1 x2 n f H locs ls hw; exact hw.elim
    | succ k ih =>
      intro x1 x2 n f H locs ls hw hP hS hl
      rw [wp_F_firstAlike_L2] at hw
      refine lv_iload_n hx hb dF_firstAlike_2 rfl (lv_at hl 2 rfl) ?_
      refine lv_iload_n hx hb dF_firstAlike_3 rfl (lv_at hl 1 rfl) ?_
      refine lv_icmp_ge (tgt := 34) hx hb dF_firstAlike_4 (by decide) (fun c1 => ?_) (fun c1 => ?_)
      · have hw := hw.1 c1
        refine lv_iload_n hx hb dF_firstAlike_34 rfl (lv_at hl 1 rfl) ?_
        exact W.iret (v := x1) hx hb hr (fun t ht hW => ⟨⟨x1, (n, f), rfl, hw, ct_mkB ht hP⟩, hS.F ht⟩) hS.2.2 dF_firstAlike_35
      · have hw := hw.2 c1
        refine lv_aload_n hx hb dF_firstAlike_7 rfl (lv_at hl 0 rfl) ?_
        refine va_get (D := (dC, dI)) (ci := 2) (v := .ref (a 13)) (C := RF) (T := TF) (N := 11) hx hb hts (fun w h => List.mem_cons_of_mem _ (inF w h)) hown hK hP 2 rfl rfl 6 (by decide) (hts (.fieldLink RF 24 "CoverTrees$Forest" "like" "[I") (List.mem_cons_of_mem _ wt_101)) (fun _ h9 => h9) rfl dF_firstAlike_8 ?_
        refine lv_iload_n hx hb dF_firstAlike_11 rfl (lv_at hl 2 rfl) ?_
        obtain ⟨hi2, hw⟩ := hw
        refine va_iald hx hb hK hP 13 10 rfl rfl hi2 dF_firstAlike_12 ?_
        refine lv_iload_n hx hb dF_firstAlike_13 rfl (lv_at hl 2 rfl) ?_
        refine lv_icmp_ne (tgt := 28) hx hb dF_firstAlike_14 (by decide) (fun c3 => ?_) (fun c3 => ?_)
        · have hw := hw.1 c3
          obtain ⟨x2_4, ex2_4⟩ : ∃ y : Int32, y = x2 + 1 := ⟨_, rfl⟩
          have hw := hw x2_4 ex2_4
          refine lv_iinc (v := x2_4) (lv' := [(2, .int x2_4), (0, .ref (a 2)), (1, .int x1)]) hx hb dF_firstAlike_28 hl (k := 2) rfl (by rw [ex2_4]; rfl) (by decide) rfl (fun ls hl => ?_)
          refine lv_goto (tgt := 2) hx hb dF_firstAlike_31 (by decide) ?_
          exact ih x1 x2_4 n f _ _ ls hw hP hS (lv_sub hl [1, 2, 0] rfl)
        · have hw := hw.2 c3
          refine lv_aload_n hx hb dF_firstAlike_17 rfl (lv_at hl 0 rfl) ?_
          refine lv_iload_n hx hb dF_firstAlike_18 rfl (lv_at hl 2 rfl) ?_
          refine lv_iload_n hx hb dF_firstAlike_19 rfl (lv_at hl 1 rfl) ?_
          refine ct_i (va_runV (As := [.int x2, .int x1]) (rest := []) ⟨hx, hb, hml, hown, hts⟩ (met_F_alike l dC dI a cA sa x2 x1 n f _ hw) (cwV 2 hts (wb_V wt_366 wt_368 wt_11 wt_29 wt_369) rfl rfl rfl (by decide +kernel) ⟨Nat.le_of_ble_eq_true rfl, Nat.le_of_ble_eq_true rfl⟩) (ct_preV hK hP (hDa _ _) hZ hS hA (va_recv hK hP (ci := 2) (q0 := 2) rfl rfl)) rfl rfl hl.1 rfl (lv_room (Nat.le_of_ble_eq_true rfl)) dF_firstAlike_20 ⟨Nat.le_of_ble_eq_true rfl, Nat.le_of_ble_eq_true rfl⟩) (hDa _ _) hS hA (fun r5 n_6 f_7 H locs hw hP hS => ?_)
          refine lv_if_eq (tgt := 28) hx hb dF_firstAlike_23 (by decide) (fun c8 => ?_) (fun c8 => ?_)
          · have hw := hw.1 c8
            obtain ⟨x2_9, ex2_9⟩ : ∃ y : Int32, y = x2 + 1 := ⟨_, rfl⟩
            have hw := hw x2_9 ex2_9
            refine lv_iinc (v := x2_9) (lv' := [(2, .int x2_9), (0, .ref (a 2)), (1, .int x1)]) hx hb dF_firstAlike_28 hl (k := 2) rfl (by rw [ex2_9]; rfl) (by decide) rfl (fun ls hl => ?_)
            refine lv_goto (tgt := 2) hx hb dF_firstAlike_31 (by decide) ?_
            exact ih x1 x2_9 n_6 f_7 _ _ ls hw hP hS (lv_sub hl [1, 2, 0] rfl)
          · have hw := hw.2 c8
            refine lv_iload_n hx hb dF_firstAlike_26 rfl (lv_at hl 2 rfl) ?_
            exact W.iret (v := x2) hx hb hr (fun t ht hW => ⟨⟨x2, (n_6, f_7), rfl, hw, ct_mkB ht hP⟩, hS.F ht⟩) hS.2.2 dF_firstAlike_27
  refine lv_iconst (v := 0) hx hb dF_firstAlike_0 (by decide) ?_
  refine lv_istore_n (lv' := [(2, .int 0), (0, .ref (a 2)), (1, .int p1)]) hx hb dF_firstAlike_1 rfl hl (by decide) rfl (fun ls hl => ?_)
  obtain ⟨k, hw⟩ := hw
  exact loop_2 k p1 0 n f _ _ ls hw hP hS (lv_sub hl [1, 2, 0] rfl)
def wp_F_keepDraft (post : Int32 → ctN → ctF → Prop) (n : ctN) (f : ctF) : Prop := ∀ x1_1 : Int32, x1_1 = (n 2) → (wp_F_firstAlike (fun (r2 : Int32) (n_3 : ctN) (f_4 : ctF) => vp_in x1_1 120 ∧ (∀ f_6 : ctF, f_6 = va_up f_4 13 (upd (f_4 13) x1_1.toNatClampNeg r2) → (∀ n_7 : ctN, n_7 = va_up n_3 2 (x1_1 + 1) → (post x1_1 n_7 f_6)))) x1_1 n f)
set_option maxHeartbeats 4000000 in
set_option maxRecDepth 100000 in
theorem met_F_keepDraft (l : Launch) (dC : Nat → ClassId) (dI : Nat → Nat → Nat) (a : Nat → Nat) (cA : Nat → ClassId) (sa : Nat → Nat) (n : ctN) (f : ctF) (sz : Nat) {post : Int32 → ctN → ctF → Prop} (hw : wp_F_keepDraft post n f) : Met l yF_keepDraft wsF_keepDraft ({ frames := 3, cells := 0, slots := 0, locals := 68 } : Room) (ct_Pc dC dI a cA sa [.ref (a 2)] n f sz) (va_Qi (fun (r : Int32) (u : ctN × ctF) => post r u.1 u.2) (ct_B dC dI a cA) (va_A (ctW a cA n f) sz)) 0 0 (va_A (ctW a cA n f) sz) := by
  refine Met.ofW (cc := cF_keepDraft) (maxL := 2) (ret := (some .int)) (by decide) rfl ?_
  intro p e s m args below meth c s₁ B hml hv
  obtain ⟨rfl, hsz, hP, hK, hD0, hZ⟩ := hv
  have hx := B.exec
  have hb := B.bytes
  have hr := B.returns
  have hts := atoms_spec (ws := wsF_keepDraft) B.pre
  have hown : s.vm.findClass RF = some m.cls := findClass_of_methodNamed B.named
  have hlocks := B.notSynchronized
  subst hsz
  have hD := hD0.self (sz := s.heap.size)
  generalize hAe : va_A (ctW a cA n f) s.heap.size = A at hD hZ ⊢
  have hDa : ∀ (n : ctN) (f : ctF), va_D A (ctW a cA n f) := fun _ _ => ct_D hD
  have hA : ∀ q : Nat, s.heap.size ≤ q → A q := fun q h => by rw [← hAe]; exact Or.inr h
  have hS : va_S A s.heap s.heap [] := va_S.rf
  have hl := lv_entry ([.ref (a 2)]) (n := 2) (Nat.le_of_ble_eq_true rfl)
  rw [lg_entry_eq]
  generalize (lg_sl ([.ref (a 2)]) ++ List.replicate (2 - (lg_sl ([.ref (a 2)])).length) Slot.unset).toArray = ls at hl ⊢
  have hl : lv_has ls 2 [(0, .ref (a 2))] := hl
  unfold wp_F_keepDraft at hw
  refine lv_aload_n hx hb dF_keepDraft_0 rfl (lv_at hl 0 rfl) ?_
  refine va_get (D := (dC, dI)) (ci := 2) (v := .int (n 2)) (C := RF) (T := TF) (N := 11) hx hb hts (fun w h => List.mem_cons_of_mem _ (inF w h)) hown hK hP 2 rfl rfl 1 (by decide) (hts (.fieldLink RF 44 "CoverTrees$Forest" "count" "I") (List.mem_cons_of_mem _ wt_96)) (fun _ h9 => h9) rfl dF_keepDraft_1 ?_
  refine lv_topi (fun x1_1 ex1_1 => ?_)
  have hw := hw x1_1 ex1_1
  refine lv_istore_n (lv' := [(1, .int x1_1), (0, .ref (a 2))]) hx hb dF_keepDraft_4 rfl hl (by decide) rfl (fun ls hl => ?_)
  refine lv_aload_n hx hb dF_keepDraft_5 rfl (lv_at hl 1 rfl) ?_
  refine va_get (D := (dC, dI)) (ci := 2) (v := .ref (a 13)) (C := RF) (T := TF) (N := 11) hx hb hts (fun w h => List.mem_cons_of_mem _ (inF w h)) hown hK hP 2 rfl rfl 6 (by decide) (hts (.fieldLink RF 24 "CoverTrees$Forest" "like" "[I") (List.mem_cons_of_mem _ wt_101)) (fun _ h9 => h9) rfl dF_keepDraft_6 ?_
  refine lv_iload_n hx hb dF_keepDraft_9 rfl (lv_at hl 0 rfl) ?_
  refine lv_aload_n hx hb dF_keepDraft_10 rfl (lv_at hl 1 rfl) ?_
  refine lv_iload_n hx hb dF_keepDraft_11 rfl (lv_at hl 0 rfl) ?_
  refine ct_i (va_runV (As := [.int x1_1]) (rest := [.int x1_1, .ref (a 13)]) ⟨hx, hb, hml, hown, hts⟩ (met_F_firstAlike l dC dI a cA sa x1_1 n f _ hw) (cwV 1 hts (wb_V wt_362 wt_364 wt_10 wt_29 wt_365) rfl rfl rfl (by decide +kernel) ⟨Nat.le_of_ble_eq_true rfl, Nat.le_of_ble_eq_true rfl⟩) (ct_preV hK hP (hDa _ _) hZ hS hA (va_recv hK hP (ci := 2) (q0 := 2) rfl rfl)) rfl rfl hl.1 rfl (lv_room (Nat.le_of_ble_eq_true rfl)) dF_keepDraft_12 ⟨Nat.le_of_ble_eq_true rfl, Nat.le_of_ble_eq_true rfl⟩) (hDa _ _) hS hA (fun r2 n_3 f_4 H locs hw hP hS => ?_)
  obtain ⟨hi5, hw⟩ := hw
  refine va_iast hx hb hK hP (hDa _ _) hS 13 10 rfl rfl hi5 dF_keepDraft_15 (fun H locs hP _ hS => ?_)
  obtain ⟨f_6, ef_6⟩ : ∃ z : ctF, z = va_up f_4 13 (upd (f_4 13) x1_1.toNatClampNeg r2) := ⟨_, rfl⟩
  have hw := hw f_6 ef_6
  have hP : va_P (dC, dI) vcl (ctW a cA n_3 f_6) H := by rw [ef_6]; exact hP
  refine lv_aload_n hx hb dF_keepDraft_16 rfl (lv_at hl 1 rfl) ?_
  refine lv_iload_n hx hb dF_keepDraft_17 rfl (lv_at hl 0 rfl) ?_
  refine lv_iconst (v := 1) hx hb dF_keepDraft_18 (by decide) ?_
  refine lv_iadd hx hb dF_keepDraft_19 ?_
  refine va_put (D := (dC, dI)) (ci := 2) (v := .int (x1_1 + 1)) (ty := .int) (C := RF) (T := TF) (N := 11) hx hb hts (fun w h => List.mem_cons_of_mem _ (inF w h)) tyF tyF_ok nmF hown hK hP (hDa _ _) hS 2 rfl rfl 1 (by decide) (hts (.fieldLink RF 44 "CoverTrees$Forest" "count" "I") (List.mem_cons_of_mem _ wt_96)) (fun _ h9 => h9) rfl (by decide +kernel) rfl rfl (Nat.le_of_ble_eq_true rfl) dF_keepDraft_20 (fun H locs hP _ hS => ?_)
  obtain ⟨n_7, en_7⟩ : ∃ z : ctN, z = va_up n_3 2 (x1_1 + 1) := ⟨_, rfl⟩
  have hw := hw n_7 en_7
  have hP : va_P (dC, dI) vcl (ctW a cA n_7 f_6) H := by rw [en_7]; exact hP
  refine lv_iload_n hx hb dF_keepDraft_23 rfl (lv_at hl 0 rfl) ?_
  exact W.iret (v := x1_1) hx hb hr (fun t ht hW => ⟨⟨x1_1, (n_7, f_6), rfl, hw, ct_mkB ht hP⟩, hS.F ht⟩) hS.2.2 dF_keepDraft_24
def wp_F_findInCover_L8 (post : Int32 → ctN → ctF → Prop) : Nat → Int32 → Int32 → Int32 → Int32 → Int32 → ctN → ctF → Prop
  | 0, _, _, _, _, _, _, _ => False
  | k + 1, x1, x2, x3, x4, x5, n, f => (960 ≤ x5 → (post x3 n f)) ∧ (¬ 960 ≤ x5 → (vp_in x3 960 ∧ ((((f 16 x3.toNatClampNeg) - 1) ≤ x4 → (post x3 n f)) ∧ (¬ ((f 16 x3.toNatClampNeg) - 1) ≤ x4 → (vp_in x3 960 ∧ (∀ x6_5 : Int32, x6_5 = (f 15 x3.toNatClampNeg) → (∀ x7_6 : Int32, x7_6 = (x3 / 8) → (vp_in x6_5 40 ∧ ((¬ (f 5 x6_5.toNatClampNeg) = (-1) → (vp_in x7_6 120 ∧ (vp_in x6_5 40 ∧ (wp_C_place (fun (r11 : Int32) (n_12 : ctN) (f_13 : ctF) => vp_in r11 960 ∧ (((f_13 16 r11.toNatClampNeg) ≤ x4 → (vp_in r11 960 ∧ (∀ x4_17 : Int32, x4_17 = (x4 - (f_13 16 r11.toNatClampNeg)) → (vp_in x7_6 120 ∧ (vp_in x6_5 40 ∧ (wp_C_place (fun (r20 : Int32) (n_21 : ctN) (f_22 : ctF) => ∀ x5_23 : Int32, x5_23 = x5 + 1 → (wp_F_findInCover_L8 post k x1 x2 r20 x4_17 x5_23 n_21 f_22)) (f_13 11 x7_6.toNatClampNeg) (f_13 7 x6_5.toNatClampNeg) n_12 f_13)))))) ∧ (¬ (f_13 16 r11.toNatClampNeg) ≤ x4 → (∀ x5_24 : Int32, x5_24 = x5 + 1 → (wp_F_findInCover_L8 post k x1 x2 r11 x4 x5_24 n_12 f_13))))) (f 10 x7_6.toNatClampNeg) (f 6 x6_5.toNatClampNeg) n f)))) ∧ ((f 5 x6_5.toNatClampNeg) = (-1) → (vp_in x6_5 40 ∧ (wp_C_place (fun (r26 : Int32) (n_27 : ctN) (f_28 : ctF) => ∀ x5_29 : Int32, x5_29 = x5 + 1 → (wp_F_findInCover_L8 post k x1 x2 r26 x4 x5_29 n_27 f_28)) x7_6 (f 6 x6_5.toNatClampNeg) n f))))))))))))
def wp_F_findInCover (post : Int32 → ctN → ctF → Prop) (p1 : Int32) (p2 : Int32) (n : ctN) (f : ctF) : Prop := ∃ k, wp_F_findInCover_L8 post k p1 p2 p1 p2 0 n f
set_option maxHeartbeats 4000000 in
set_option maxRecDepth 100000 in
theorem met_F_findInCover (l : Launch) (dC : Nat → ClassId) (dI : Nat → Nat → Nat) (a : Nat → Nat) (cA : Nat → ClassId) (sa : Nat → Nat) (p1 : Int32) (p2 : Int32) (n : ctN) (f : ctF) (sz : Nat) {post : Int32 → ctN → ctF → Prop} (hw : wp_F_findInCover post p1 p2 n f) : Met l yF_findInCover wsF_findInCover ({ frames := 1, cells := 0, slots := 0, locals := 21 } : Room) (ct_Pc dC dI a cA sa [.ref (a 2), .int p1, .int p2] n f sz) (va_Qi (fun (r : Int32) (u : ctN × ctF) => post r u.1 u.2) (ct_B dC dI a cA) (va_A (ctW a cA n f) sz)) 0 0 (va_A (ctW a cA n f) sz) := by
  refine Met.ofW (cc := cF_findInCover) (maxL := 9) (ret := (some .int)) (by decide) rfl ?_
  intro p e s m args below meth c s₁ B hml hv
  obtain ⟨rfl, hsz, hP, hK, hD0, hZ⟩ := hv
  have hx := B.exec
  have hb := B.bytes
  have hr := B.returns
  have hts := atoms_spec (ws := wsF_findInCover) B.pre
  have hown : s.vm.findClass RF = some m.cls := findClass_of_methodNamed B.named
  have hlocks := B.notSynchronized
  subst hsz
  have hD := hD0.self (sz := s.heap.size)
  generalize hAe : va_A (ctW a cA n f) s.heap.size = A at hD hZ ⊢
  have hDa : ∀ (n : ctN) (f : ctF), va_D A (ctW a cA n f) := fun _ _ => ct_D hD
  have hA : ∀ q : Nat, s.heap.size ≤ q → A q := fun q h => by rw [← hAe]; exact Or.inr h
  have hS : va_S A s.heap s.heap [] := va_S.rf
  have hl := lv_entry ([.ref (a 2), .int p1, .int p2]) (n := 9) (Nat.le_of_ble_eq_true rfl)
  rw [lg_entry_eq]
  generalize (lg_sl ([.ref (a 2), .int p1, .int p2]) ++ List.replicate (9 - (lg_sl ([.ref (a 2), .int p1, .int p2])).length) Slot.unset).toArray = ls at hl ⊢
  have hl : lv_has ls 9 [(0, .ref (a 2)), (1, .int p1), (2, .int p2)] := hl
  unfold wp_F_findInCover at hw
  have loop_8 : ∀ (k : Nat) (x1 x2 x3 x4 x5 : Int32) (n : ctN) (f : ctF) (H : Heap) (locs : List Loc) (ls : Array Slot), wp_F_findInCover_L8 post k x1 x2 x3 x4 x5 n f → va_P (dC, dI) vcl (ctW a cA n f) H → va_S A s.heap H locs → lv_has ls 9 [(0, .ref (a 2)), (1, .int x1), (2, .int x2), (3, .int x3), (4, .int x4), (5, .int x5)] → W p l e (headSpec wsF_findInCover ({ frames := 1, cells := 0, slots := 0, locals := 21 } : Room)).room s m (([.ref (a 2), .int p1, .int p2] : List Value).toArray) below meth c H locs 0 0 (MQ below (va_Qi (fun (r : Int32) (u : ctN × ctF) => post r u.1 u.2) (ct_B dC dI a cA) A) (([.ref (a 2), .int p1, .int p2] : List Value).toArray) s 0 0 A) (F0 m 8 ls []) := by
    intro k
    induction k with
    | zero => intro x1 x2 x3 x4 x5 n f H locs ls hw; exact hw.elim
    | succ k ih =>
      intro x1 x2 x3 x4 x5 n f H locs ls hw hP hS hl
      rw [wp_F_findInCover_L8] at hw
      refine lv_iload hx hb dF_findInCover_8 (lv_at hl 5 rfl) ?_
      refine lv_sipush (v := 960) hx hb dF_findInCover_10 (by decide) ?_
      refine lv_icmp_ge (tgt := 155) hx hb dF_findInCover_13 (by decide) (fun c1 => ?_) (fun c1 => ?_)
      · have hw := hw.1 c1
        refine lv_iload_n hx hb dF_findInCover_155 rfl (lv_at hl 3 rfl) ?_
        exact W.iret (v := x3) hx hb hr (fun t ht hW => ⟨⟨x3, (n, f), rfl, hw, ct_mkB ht hP⟩, hS.F ht⟩) hS.2.2 dF_findInCover_156
      · have hw := hw.2 c1
        refine lv_iload hx hb dF_findInCover_16 (lv_at hl 4 rfl) ?_
        refine lv_aload_n hx hb dF_findInCover_18 rfl (lv_at hl 0 rfl) ?_
        refine va_get (D := (dC, dI)) (ci := 2) (v := .ref (a 16)) (C := RF) (T := TF) (N := 11) hx hb hts (fun w h => List.mem_cons_of_mem _ (inF w h)) hown hK hP 2 rfl rfl 9 (by decide) (hts (.fieldLink RF 33 "CoverTrees$Forest" "size" "[I") (List.mem_cons_of_mem _ wt_107)) (fun _ h9 => h9) rfl dF_findInCover_19 ?_
        refine lv_iload_n hx hb dF_findInCover_22 rfl (lv_at hl 3 rfl) ?_
        obtain ⟨hi2, hw⟩ := hw
        refine va_iald hx hb hK hP 16 13 rfl rfl hi2 dF_findInCover_23 ?_
        refine lv_iconst (v := 1) hx hb dF_findInCover_24 (by decide) ?_
        refine lv_isub hx hb dF_findInCover_25 ?_
        refine lv_icmp_ge (tgt := 155) hx hb dF_findInCover_26 (by decide) (fun c3 => ?_) (fun c3 => ?_)
        · have hw := hw.1 c3
          refine lv_iload_n hx hb dF_findInCover_155 rfl (lv_at hl 3 rfl) ?_
          exact W.iret (v := x3) hx hb hr (fun t ht hW => ⟨⟨x3, (n, f), rfl, hw, ct_mkB ht hP⟩, hS.F ht⟩) hS.2.2 dF_findInCover_156
        · have hw := hw.2 c3
          refine lv_aload_n hx hb dF_findInCover_29 rfl (lv_at hl 0 rfl) ?_
          refine va_get (D := (dC, dI)) (ci := 2) (v := .ref (a 15)) (C := RF) (T := TF) (N := 11) hx hb hts (fun w h => List.mem_cons_of_mem _ (inF w h)) hown hK hP 2 rfl rfl 8 (by decide) (hts (.fieldLink RF 30 "CoverTrees$Forest" "rule" "[I") (List.mem_cons_of_mem _ wt_105)) (fun _ h9 => h9) rfl dF_findInCover_30 ?_
          refine lv_iload_n hx hb dF_findInCover_33 rfl (lv_at hl 3 rfl) ?_
          obtain ⟨hi4, hw⟩ := hw
          refine va_iald hx hb hK hP 15 12 rfl rfl hi4 dF_findInCover_34 ?_
          refine lv_topi (fun x6_5 ex6_5 => ?_)
          have hw := hw x6_5 ex6_5
          refine lv_istore (lv' := [(6, .int x6_5), (0, .ref (a 2)), (1, .int x1), (2, .int x2), (3, .int x3), (4, .int x4), (5, .int x5)]) hx hb dF_findInCover_35 hl (by decide) rfl (fun ls hl => ?_)
          refine lv_iload_n hx hb dF_findInCover_37 rfl (lv_at hl 4 rfl) ?_
          refine lv_bipush (v := 8) hx hb dF_findInCover_38 (by decide) ?_
          refine lv_idiv hx hb dF_findInCover_40 (by decide) ?_
          refine lv_topi (fun x7_6 ex7_6 => ?_)
          have hw := hw x7_6 ex7_6
          refine lv_istore (lv' := [(7, .int x7_6), (6, .int x6_5), (0, .ref (a 2)), (1, .int x1), (2, .int x2), (3, .int x3), (4, .int x4), (5, .int x5)]) hx hb dF_findInCover_41 hl (by decide) rfl (fun ls hl => ?_)
          refine lv_aload_n hx hb dF_findInCover_43 rfl (lv_at hl 2 rfl) ?_
          refine va_get (D := (dC, dI)) (ci := 2) (v := .ref (a 1)) (C := RF) (T := TF) (N := 11) hx hb hts (fun w h => List.mem_cons_of_mem _ (inF w h)) hown hK hP 2 rfl rfl 0 (by decide) (hts (.fieldLink RF 40 "CoverTrees$Forest" "grammar" "LCoverTrees$Grammar;") (List.mem_cons_of_mem _ wt_94)) (fun _ h9 => h9) rfl dF_findInCover_44 ?_
          refine va_get (D := (dC, dI)) (ci := 1) (v := .ref (a 5)) (C := RG) (T := TG) (N := 8) hx hb hts (fun w h => List.mem_cons_of_mem _ (inG w h)) hown hK hP 1 rfl rfl 4 (by decide) (hts (.fieldLink RF 71 "CoverTrees$Grammar" "operator" "[I") (List.mem_cons_of_mem _ wt_63)) (fun _ h9 => h9) rfl dF_findInCover_47 ?_
          refine lv_iload hx hb dF_findInCover_50 (lv_at hl 1 rfl) ?_
          obtain ⟨hi7, hw⟩ := hw
          refine va_iald hx hb hK hP 5 2 rfl rfl hi7 dF_findInCover_52 ?_
          refine lv_iconst (v := (-1)) hx hb dF_findInCover_53 (by decide) ?_
          refine lv_icmp_ne (tgt := 76) hx hb dF_findInCover_54 (by decide) (fun c8 => ?_) (fun c8 => ?_)
          · have hw := hw.1 c8
            refine lv_aload_n hx hb dF_findInCover_76 rfl (lv_at hl 2 rfl) ?_
            refine va_get (D := (dC, dI)) (ci := 2) (v := .ref (a 10)) (C := RF) (T := TF) (N := 11) hx hb hts (fun w h => List.mem_cons_of_mem _ (inF w h)) hown hK hP 2 rfl rfl 3 (by decide) (hts (.fieldLink RF 15 "CoverTrees$Forest" "one" "[I") (List.mem_cons_of_mem _ wt_98)) (fun _ h9 => h9) rfl dF_findInCover_77 ?_
            refine lv_iload hx hb dF_findInCover_80 (lv_at hl 0 rfl) ?_
            obtain ⟨hi9, hw⟩ := hw
            refine va_iald hx hb hK hP 10 7 rfl rfl hi9 dF_findInCover_82 ?_
            refine lv_aload_n hx hb dF_findInCover_83 rfl (lv_at hl 2 rfl) ?_
            refine va_get (D := (dC, dI)) (ci := 2) (v := .ref (a 1)) (C := RF) (T := TF) (N := 11) hx hb hts (fun w h => List.mem_cons_of_mem _ (inF w h)) hown hK hP 2 rfl rfl 0 (by decide) (hts (.fieldLink RF 40 "CoverTrees$Forest" "grammar" "LCoverTrees$Grammar;") (List.mem_cons_of_mem _ wt_94)) (fun _ h9 => h9) rfl dF_findInCover_84 ?_
            refine va_get (D := (dC, dI)) (ci := 1) (v := .ref (a 6)) (C := RG) (T := TG) (N := 8) hx hb hts (fun w h => List.mem_cons_of_mem _ (inG w h)) hown hK hP 1 rfl rfl 5 (by decide) (hts (.fieldLink RF 83 "CoverTrees$Grammar" "one" "[I") (List.mem_cons_of_mem _ wt_65)) (fun _ h9 => h9) rfl dF_findInCover_87 ?_
            refine lv_iload hx hb dF_findInCover_90 (lv_at hl 1 rfl) ?_
            obtain ⟨hi10, hw⟩ := hw
            refine va_iald hx hb hK hP 6 3 rfl rfl hi10 dF_findInCover_92 ?_
            refine ct_i (va_runSN (As := [.int (f 10 x7_6.toNatClampNeg), .int (f 6 x6_5.toNatClampNeg)]) (rest := []) ⟨hx, hb, hml, hown, hts⟩ (met_C_place l dC dI a cA sa (f 10 x7_6.toNatClampNeg) (f 6 x6_5.toNatClampNeg) n f _ hw) ⟨va_cnB 2 hts (wb_N wt_316) rfl rfl rfl hZ.1 (hts (.initialized "CoverTrees") (List.mem_cons_of_mem _ wt_27)) (by decide +kernel) ⟨Nat.le_of_ble_eq_true rfl, Nat.le_of_ble_eq_true rfl⟩, (hts (.static yC_place) (List.mem_cons_of_mem _ wt_315)), trivial⟩ (ct_pre hK hP (hDa _ _) hZ hS hA) rfl rfl hl.1 rfl (lv_room (Nat.le_of_ble_eq_true rfl)) dF_findInCover_93 ⟨Nat.le_of_ble_eq_true rfl, Nat.le_of_ble_eq_true rfl⟩) (hDa _ _) hS hA (fun r11 n_12 f_13 H locs hw hP hS => ?_)
            refine lv_istore (lv' := [(8, .int r11), (7, .int x7_6), (6, .int x6_5), (0, .ref (a 2)), (1, .int x1), (2, .int x2), (3, .int x3), (4, .int x4), (5, .int x5)]) hx hb dF_findInCover_96 hl (by decide) rfl (fun ls hl => ?_)
            refine lv_iload hx hb dF_findInCover_98 (lv_at hl 7 rfl) ?_
            refine lv_aload_n hx hb dF_findInCover_100 rfl (lv_at hl 3 rfl) ?_
            refine va_get (D := (dC, dI)) (ci := 2) (v := .ref (a 16)) (C := RF) (T := TF) (N := 11) hx hb hts (fun w h => List.mem_cons_of_mem _ (inF w h)) hown hK hP 2 rfl rfl 9 (by decide) (hts (.fieldLink RF 33 "CoverTrees$Forest" "size" "[I") (List.mem_cons_of_mem _ wt_107)) (fun _ h9 => h9) rfl dF_findInCover_101 ?_
            refine lv_iload hx hb dF_findInCover_104 (lv_at hl 0 rfl) ?_
            obtain ⟨hi14, hw⟩ := hw
            refine va_iald hx hb hK hP 16 13 rfl rfl hi14 dF_findInCover_106 ?_
            refine lv_icmp_ge (tgt := 116) hx hb dF_findInCover_107 (by decide) (fun c15 => ?_) (fun c15 => ?_)
            · have hw := hw.1 c15
              refine lv_iload hx hb dF_findInCover_116 (lv_at hl 7 rfl) ?_
              refine lv_aload_n hx hb dF_findInCover_118 rfl (lv_at hl 3 rfl) ?_
              refine va_get (D := (dC, dI)) (ci := 2) (v := .ref (a 16)) (C := RF) (T := TF) (N := 11) hx hb hts (fun w h => List.mem_cons_of_mem _ (inF w h)) hown hK hP 2 rfl rfl 9 (by decide) (hts (.fieldLink RF 33 "CoverTrees$Forest" "size" "[I") (List.mem_cons_of_mem _ wt_107)) (fun _ h9 => h9) rfl dF_findInCover_119 ?_
              refine lv_iload hx hb dF_findInCover_122 (lv_at hl 0 rfl) ?_
              obtain ⟨hi16, hw⟩ := hw
              refine va_iald hx hb hK hP 16 13 rfl rfl hi16 dF_findInCover_124 ?_
              refine lv_isub hx hb dF_findInCover_125 ?_
              refine lv_topi (fun x4_17 ex4_17 => ?_)
              have hw := hw x4_17 ex4_17
              refine lv_istore (lv' := [(4, .int x4_17), (8, .int r11), (7, .int x7_6), (6, .int x6_5), (0, .ref (a 2)), (1, .int x1), (2, .int x2), (3, .int x3), (5, .int x5)]) hx hb dF_findInCover_126 hl (by decide) rfl (fun ls hl => ?_)
              refine lv_aload_n hx hb dF_findInCover_128 rfl (lv_at hl 4 rfl) ?_
              refine va_get (D := (dC, dI)) (ci := 2) (v := .ref (a 11)) (C := RF) (T := TF) (N := 11) hx hb hts (fun w h => List.mem_cons_of_mem _ (inF w h)) hown hK hP 2 rfl rfl 4 (by decide) (hts (.fieldLink RF 18 "CoverTrees$Forest" "two" "[I") (List.mem_cons_of_mem _ wt_99)) (fun _ h9 => h9) rfl dF_findInCover_129 ?_
              refine lv_iload hx hb dF_findInCover_132 (lv_at hl 2 rfl) ?_
              obtain ⟨hi18, hw⟩ := hw
              refine va_iald hx hb hK hP 11 8 rfl rfl hi18 dF_findInCover_134 ?_
              refine lv_aload_n hx hb dF_findInCover_135 rfl (lv_at hl 4 rfl) ?_
              refine va_get (D := (dC, dI)) (ci := 2) (v := .ref (a 1)) (C := RF) (T := TF) (N := 11) hx hb hts (fun w h => List.mem_cons_of_mem _ (inF w h)) hown hK hP 2 rfl rfl 0 (by decide) (hts (.fieldLink RF 40 "CoverTrees$Forest" "grammar" "LCoverTrees$Grammar;") (List.mem_cons_of_mem _ wt_94)) (fun _ h9 => h9) rfl dF_findInCover_136 ?_
              refine va_get (D := (dC, dI)) (ci := 1) (v := .ref (a 7)) (C := RG) (T := TG) (N := 8) hx hb hts (fun w h => List.mem_cons_of_mem _ (inG w h)) hown hK hP 1 rfl rfl 6 (by decide) (hts (.fieldLink RF 84 "CoverTrees$Grammar" "two" "[I") (List.mem_cons_of_mem _ wt_67)) (fun _ h9 => h9) rfl dF_findInCover_139 ?_
              refine lv_iload hx hb dF_findInCover_142 (lv_at hl 3 rfl) ?_
              obtain ⟨hi19, hw⟩ := hw
              refine va_iald hx hb hK hP 7 4 rfl rfl hi19 dF_findInCover_144 ?_
              refine ct_i (va_runSN (As := [.int (f_13 11 x7_6.toNatClampNeg), .int (f_13 7 x6_5.toNatClampNeg)]) (rest := []) ⟨hx, hb, hml, hown, hts⟩ (met_C_place l dC dI a cA sa (f_13 11 x7_6.toNatClampNeg) (f_13 7 x6_5.toNatClampNeg) n_12 f_13 _ hw) ⟨va_cnB 2 hts (wb_N wt_316) rfl rfl rfl hZ.1 (hts (.initialized "CoverTrees") (List.mem_cons_of_mem _ wt_27)) (by decide +kernel) ⟨Nat.le_of_ble_eq_true rfl, Nat.le_of_ble_eq_true rfl⟩, (hts (.static yC_place) (List.mem_cons_of_mem _ wt_315)), trivial⟩ (ct_pre hK hP (hDa _ _) hZ hS hA) rfl rfl hl.1 rfl (lv_room (Nat.le_of_ble_eq_true rfl)) dF_findInCover_145 ⟨Nat.le_of_ble_eq_true rfl, Nat.le_of_ble_eq_true rfl⟩) (hDa _ _) hS hA (fun r20 n_21 f_22 H locs hw hP hS => ?_)
              refine lv_istore_n (lv' := [(3, .int r20), (4, .int x4_17), (8, .int r11), (7, .int x7_6), (6, .int x6_5), (0, .ref (a 2)), (1, .int x1), (2, .int x2), (5, .int x5)]) hx hb dF_findInCover_148 rfl hl (by decide) rfl (fun ls hl => ?_)
              obtain ⟨x5_23, ex5_23⟩ : ∃ y : Int32, y = x5 + 1 := ⟨_, rfl⟩
              have hw := hw x5_23 ex5_23
              refine lv_iinc (v := x5_23) (lv' := [(5, .int x5_23), (3, .int r20), (4, .int x4_17), (8, .int r11), (7, .int x7_6), (6, .int x6_5), (0, .ref (a 2)), (1, .int x1), (2, .int x2)]) hx hb dF_findInCover_149 hl (k := 8) rfl (by rw [ex5_23]; rfl) (by decide) rfl (fun ls hl => ?_)
              refine lv_goto (tgt := 8) hx hb dF_findInCover_152 (by decide) ?_
              exact ih x1 x2 r20 x4_17 x5_23 n_21 f_22 _ _ ls hw hP hS (lv_sub hl [6, 7, 8, 1, 2, 0] rfl)
            · have hw := hw.2 c15
              refine lv_iload hx hb dF_findInCover_110 (lv_at hl 0 rfl) ?_
              refine lv_istore_n (lv' := [(3, .int r11), (8, .int r11), (7, .int x7_6), (6, .int x6_5), (0, .ref (a 2)), (1, .int x1), (2, .int x2), (4, .int x4), (5, .int x5)]) hx hb dF_findInCover_112 rfl hl (by decide) rfl (fun ls hl => ?_)
              refine lv_goto (tgt := 149) hx hb dF_findInCover_113 (by decide) ?_
              obtain ⟨x5_24, ex5_24⟩ : ∃ y : Int32, y = x5 + 1 := ⟨_, rfl⟩
              have hw := hw x5_24 ex5_24
              refine lv_iinc (v := x5_24) (lv' := [(5, .int x5_24), (3, .int r11), (8, .int r11), (7, .int x7_6), (6, .int x6_5), (0, .ref (a 2)), (1, .int x1), (2, .int x2), (4, .int x4)]) hx hb dF_findInCover_149 hl (k := 8) rfl (by rw [ex5_24]; rfl) (by decide) rfl (fun ls hl => ?_)
              refine lv_goto (tgt := 8) hx hb dF_findInCover_152 (by decide) ?_
              exact ih x1 x2 r11 x4 x5_24 n_12 f_13 _ _ ls hw hP hS (lv_sub hl [5, 6, 7, 1, 8, 0] rfl)
          · have hw := hw.2 c8
            refine lv_iload hx hb dF_findInCover_57 (lv_at hl 0 rfl) ?_
            refine lv_aload_n hx hb dF_findInCover_59 rfl (lv_at hl 2 rfl) ?_
            refine va_get (D := (dC, dI)) (ci := 2) (v := .ref (a 1)) (C := RF) (T := TF) (N := 11) hx hb hts (fun w h => List.mem_cons_of_mem _ (inF w h)) hown hK hP 2 rfl rfl 0 (by decide) (hts (.fieldLink RF 40 "CoverTrees$Forest" "grammar" "LCoverTrees$Grammar;") (List.mem_cons_of_mem _ wt_94)) (fun _ h9 => h9) rfl dF_findInCover_60 ?_
            refine va_get (D := (dC, dI)) (ci := 1) (v := .ref (a 6)) (C := RG) (T := TG) (N := 8) hx hb hts (fun w h => List.mem_cons_of_mem _ (inG w h)) hown hK hP 1 rfl rfl 5 (by decide) (hts (.fieldLink RF 83 "CoverTrees$Grammar" "one" "[I") (List.mem_cons_of_mem _ wt_65)) (fun _ h9 => h9) rfl dF_findInCover_63 ?_
            refine lv_iload hx hb dF_findInCover_66 (lv_at hl 1 rfl) ?_
            obtain ⟨hi25, hw⟩ := hw
            refine va_iald hx hb hK hP 6 3 rfl rfl hi25 dF_findInCover_68 ?_
            refine ct_i (va_runSN (As := [.int x7_6, .int (f 6 x6_5.toNatClampNeg)]) (rest := []) ⟨hx, hb, hml, hown, hts⟩ (met_C_place l dC dI a cA sa x7_6 (f 6 x6_5.toNatClampNeg) n f _ hw) ⟨va_cnB 2 hts (wb_N wt_316) rfl rfl rfl hZ.1 (hts (.initialized "CoverTrees") (List.mem_cons_of_mem _ wt_27)) (by decide +kernel) ⟨Nat.le_of_ble_eq_true rfl, Nat.le_of_ble_eq_true rfl⟩, (hts (.static yC_place) (List.mem_cons_of_mem _ wt_315)), trivial⟩ (ct_pre hK hP (hDa _ _) hZ hS hA) rfl rfl hl.1 rfl (lv_room (Nat.le_of_ble_eq_true rfl)) dF_findInCover_69 ⟨Nat.le_of_ble_eq_true rfl, Nat.le_of_ble_eq_true rfl⟩) (hDa _ _) hS hA (fun r26 n_27 f_28 H locs hw hP hS => ?_)
            refine lv_istore_n (lv' := [(3, .int r26), (7, .int x7_6), (6, .int x6_5), (0, .ref (a 2)), (1, .int x1), (2, .int x2), (4, .int x4), (5, .int x5)]) hx hb dF_findInCover_72 rfl hl (by decide) rfl (fun ls hl => ?_)
            refine lv_goto (tgt := 149) hx hb dF_findInCover_73 (by decide) ?_
            obtain ⟨x5_29, ex5_29⟩ : ∃ y : Int32, y = x5 + 1 := ⟨_, rfl⟩
            have hw := hw x5_29 ex5_29
            refine lv_iinc (v := x5_29) (lv' := [(5, .int x5_29), (3, .int r26), (7, .int x7_6), (6, .int x6_5), (0, .ref (a 2)), (1, .int x1), (2, .int x2), (4, .int x4)]) hx hb dF_findInCover_149 hl (k := 7) rfl (by rw [ex5_29]; rfl) (by decide) rfl (fun ls hl => ?_)
            refine lv_goto (tgt := 8) hx hb dF_findInCover_152 (by decide) ?_
            exact ih x1 x2 r26 x4 x5_29 n_27 f_28 _ _ ls hw hP hS (lv_sub hl [4, 5, 6, 1, 7, 0] rfl)
  refine lv_iload_n hx hb dF_findInCover_0 rfl (lv_at hl 1 rfl) ?_
  refine lv_istore_n (lv' := [(3, .int p1), (0, .ref (a 2)), (1, .int p1), (2, .int p2)]) hx hb dF_findInCover_1 rfl hl (by decide) rfl (fun ls hl => ?_)
  refine lv_iload_n hx hb dF_findInCover_2 rfl (lv_at hl 3 rfl) ?_
  refine lv_istore (lv' := [(4, .int p2), (3, .int p1), (0, .ref (a 2)), (1, .int p1), (2, .int p2)]) hx hb dF_findInCover_3 hl (by decide) rfl (fun ls hl => ?_)
  refine lv_iconst (v := 0) hx hb dF_findInCover_5 (by decide) ?_
  refine lv_istore (lv' := [(5, .int 0), (4, .int p2), (3, .int p1), (0, .ref (a 2)), (1, .int p1), (2, .int p2)]) hx hb dF_findInCover_6 hl (by decide) rfl (fun ls hl => ?_)
  obtain ⟨k, hw⟩ := hw
  exact loop_8 k p1 p2 p1 p2 0 n f _ _ ls hw hP hS (lv_sub hl [3, 4, 5, 2, 1, 0] rfl)
def wp_F_countStates_L4 (post : Int32 → ctN → ctF → Prop) : Nat → Int32 → Int32 → ctN → ctF → Prop
  | 0, _, _, _, _ => False
  | k + 1, x1, x2, n, f => ((n 2) ≤ x2 → (post x1 n f)) ∧ (¬ (n 2) ≤ x2 → (vp_in x2 120 ∧ ((¬ (f 13 x2.toNatClampNeg) = x2 → (∀ x2_4 : Int32, x2_4 = x2 + 1 → (wp_F_countStates_L4 post k x1 x2_4 n f))) ∧ ((f 13 x2.toNatClampNeg) = x2 → (∀ x1_5 : Int32, x1_5 = x1 + 1 → (∀ x2_6 : Int32, x2_6 = x2 + 1 → (wp_F_countStates_L4 post k x1_5 x2_6 n f)))))))
def wp_F_countStates (post : Int32 → ctN → ctF → Prop) (n : ctN) (f : ctF) : Prop := ∃ k, wp_F_countStates_L4 post k 0 0 n f
set_option maxHeartbeats 4000000 in
set_option maxRecDepth 100000 in
theorem met_F_countStates (l : Launch) (dC : Nat → ClassId) (dI : Nat → Nat → Nat) (a : Nat → Nat) (cA : Nat → ClassId) (sa : Nat → Nat) (n : ctN) (f : ctF) (sz : Nat) {post : Int32 → ctN → ctF → Prop} (hw : wp_F_countStates post n f) : Met l yF_countStates wsF_countStates ({ frames := 0, cells := 0, slots := 0, locals := 0 } : Room) (ct_Pc dC dI a cA sa [.ref (a 2)] n f sz) (va_Qi (fun (r : Int32) (u : ctN × ctF) => post r u.1 u.2) (ct_B dC dI a cA) (va_A (ctW a cA n f) sz)) 0 0 (va_A (ctW a cA n f) sz) := by
  refine Met.ofW (cc := cF_countStates) (maxL := 3) (ret := (some .int)) (by decide) rfl ?_
  intro p e s m args below meth c s₁ B hml hv
  obtain ⟨rfl, hsz, hP, hK, hD0, hZ⟩ := hv
  have hx := B.exec
  have hb := B.bytes
  have hr := B.returns
  have hts := atoms_spec (ws := wsF_countStates) B.pre
  have hown : s.vm.findClass RF = some m.cls := findClass_of_methodNamed B.named
  have hlocks := B.notSynchronized
  subst hsz
  have hD := hD0.self (sz := s.heap.size)
  generalize hAe : va_A (ctW a cA n f) s.heap.size = A at hD hZ ⊢
  have hDa : ∀ (n : ctN) (f : ctF), va_D A (ctW a cA n f) := fun _ _ => ct_D hD
  have hA : ∀ q : Nat, s.heap.size ≤ q → A q := fun q h => by rw [← hAe]; exact Or.inr h
  have hS : va_S A s.heap s.heap [] := va_S.rf
  have hl := lv_entry ([.ref (a 2)]) (n := 3) (Nat.le_of_ble_eq_true rfl)
  rw [lg_entry_eq]
  generalize (lg_sl ([.ref (a 2)]) ++ List.replicate (3 - (lg_sl ([.ref (a 2)])).length) Slot.unset).toArray = ls at hl ⊢
  have hl : lv_has ls 3 [(0, .ref (a 2))] := hl
  unfold wp_F_countStates at hw
  have loop_4 : ∀ (k : Nat) (x1 x2 : Int32) (n : ctN) (f : ctF) (H : Heap) (locs : List Loc) (ls : Array Slot), wp_F_countStates_L4 post k x1 x2 n f → va_P (dC, dI) vcl (ctW a cA n f) H → va_S A s.heap H locs → lv_has ls 3 [(0, .ref (a 2)), (1, .int x1), (2, .int x2)] → W p l e (headSpec wsF_countStates ({ frames := 0, cells := 0, slots := 0, locals := 0 } : Room)).room s m (([.ref (a 2)] : List Value).toArray) below meth c H locs 0 0 (MQ below (va_Qi (fun (r : Int32) (u : ctN × ctF) => post r u.1 u.2) (ct_B dC dI a cA) A) (([.ref (a 2)] : List Value).toArray) s 0 0 A) (F0 m 4 ls []) := by
    intro k
    induction k with
    | zero => intro x1 x2 n f H locs ls hw; exact hw.elim
    | succ k ih =>
      intro x1 x2 n f H locs ls hw hP hS hl
      rw [wp_F_countStates_L4] at hw
      refine lv_iload_n hx hb dF_countStates_4 rfl (lv_at hl 2 rfl) ?_
      refine lv_aload_n hx hb dF_countStates_5 rfl (lv_at hl 0 rfl) ?_
      refine va_get (D := (dC, dI)) (ci := 2) (v := .int (n 2)) (C := RF) (T := TF) (N := 11) hx hb hts (fun w h => List.mem_cons_of_mem _ (inF w h)) hown hK hP 2 rfl rfl 1 (by decide) (hts (.fieldLink RF 44 "CoverTrees$Forest" "count" "I") (List.mem_cons_of_mem _ wt_96)) (fun _ h9 => h9) rfl dF_countStates_6 ?_
      refine lv_icmp_ge (tgt := 31) hx hb dF_countStates_9 (by decide) (fun c1 => ?_) (fun c1 => ?_)
      · have hw := hw.1 c1
        refine lv_iload_n hx hb dF_countStates_31 rfl (lv_at hl 1 rfl) ?_
        exact W.iret (v := x1) hx hb hr (fun t ht hW => ⟨⟨x1, (n, f), rfl, hw, ct_mkB ht hP⟩, hS.F ht⟩) hS.2.2 dF_countStates_32
      · have hw := hw.2 c1
        refine lv_aload_n hx hb dF_countStates_12 rfl (lv_at hl 0 rfl) ?_
        refine va_get (D := (dC, dI)) (ci := 2) (v := .ref (a 13)) (C := RF) (T := TF) (N := 11) hx hb hts (fun w h => List.mem_cons_of_mem _ (inF w h)) hown hK hP 2 rfl rfl 6 (by decide) (hts (.fieldLink RF 24 "CoverTrees$Forest" "like" "[I") (List.mem_cons_of_mem _ wt_101)) (fun _ h9 => h9) rfl dF_countStates_13 ?_
        refine lv_iload_n hx hb dF_countStates_16 rfl (lv_at hl 2 rfl) ?_
        obtain ⟨hi2, hw⟩ := hw
        refine va_iald hx hb hK hP 13 10 rfl rfl hi2 dF_countStates_17 ?_
        refine lv_iload_n hx hb dF_countStates_18 rfl (lv_at hl 2 rfl) ?_
        refine lv_icmp_ne (tgt := 25) hx hb dF_countStates_19 (by decide) (fun c3 => ?_) (fun c3 => ?_)
        · have hw := hw.1 c3
          obtain ⟨x2_4, ex2_4⟩ : ∃ y : Int32, y = x2 + 1 := ⟨_, rfl⟩
          have hw := hw x2_4 ex2_4
          refine lv_iinc (v := x2_4) (lv' := [(2, .int x2_4), (0, .ref (a 2)), (1, .int x1)]) hx hb dF_countStates_25 hl (k := 2) rfl (by rw [ex2_4]; rfl) (by decide) rfl (fun ls hl => ?_)
          refine lv_goto (tgt := 4) hx hb dF_countStates_28 (by decide) ?_
          exact ih x1 x2_4 n f _ _ ls hw hP hS (lv_sub hl [1, 2, 0] rfl)
        · have hw := hw.2 c3
          obtain ⟨x1_5, ex1_5⟩ : ∃ y : Int32, y = x1 + 1 := ⟨_, rfl⟩
          have hw := hw x1_5 ex1_5
          refine lv_iinc (v := x1_5) (lv' := [(1, .int x1_5), (0, .ref (a 2)), (2, .int x2)]) hx hb dF_countStates_22 hl (k := 1) rfl (by rw [ex1_5]; rfl) (by decide) rfl (fun ls hl => ?_)
          obtain ⟨x2_6, ex2_6⟩ : ∃ y : Int32, y = x2 + 1 := ⟨_, rfl⟩
          have hw := hw x2_6 ex2_6
          refine lv_iinc (v := x2_6) (lv' := [(2, .int x2_6), (1, .int x1_5), (0, .ref (a 2))]) hx hb dF_countStates_25 hl (k := 2) rfl (by rw [ex2_6]; rfl) (by decide) rfl (fun ls hl => ?_)
          refine lv_goto (tgt := 4) hx hb dF_countStates_28 (by decide) ?_
          exact ih x1_5 x2_6 n f _ _ ls hw hP hS (lv_sub hl [2, 1, 0] rfl)
  refine lv_iconst (v := 0) hx hb dF_countStates_0 (by decide) ?_
  refine lv_istore_n (lv' := [(1, .int 0), (0, .ref (a 2))]) hx hb dF_countStates_1 rfl hl (by decide) rfl (fun ls hl => ?_)
  refine lv_iconst (v := 0) hx hb dF_countStates_2 (by decide) ?_
  refine lv_istore_n (lv' := [(2, .int 0), (1, .int 0), (0, .ref (a 2))]) hx hb dF_countStates_3 rfl hl (by decide) rfl (fun ls hl => ?_)
  obtain ⟨k, hw⟩ := hw
  exact loop_4 k 0 0 n f _ _ ls hw hP hS (lv_sub hl [2, 1, 0] rfl)
end
section
def wp_C_clear (post : ctN → ctF → Prop) (n : ctN) (f : ctF) : Prop := ∀ n_1 : ctN, n_1 = va_up n 2 0 → (∀ n_2 : ctN, n_2 = va_up n_1 1 0 → (∀ n_3 : ctN, n_3 = va_up n_2 0 0 → (post n_3 f)))
set_option maxHeartbeats 4000000 in
set_option maxRecDepth 100000 in
theorem met_C_clear (l : Launch) (dC : Nat → ClassId) (dI : Nat → Nat → Nat) (a : Nat → Nat) (cA : Nat → ClassId) (sa : Nat → Nat) (n : ctN) (f : ctF) (sz : Nat) {post : ctN → ctF → Prop} (hw : wp_C_clear post n f) : Met l yC_clear wsC_clear ({ frames := 0, cells := 0, slots := 0, locals := 0 } : Room) (ct_Pc dC dI a cA sa [.ref (a 0)] n f sz) (va_Qv (fun (u : ctN × ctF) => post u.1 u.2) (ct_B dC dI a cA) (va_A (ctW a cA n f) sz)) 0 0 (va_A (ctW a cA n f) sz) := by
  refine Met.ofW (cc := cC_clear) (maxL := 1) (ret := none) (by decide) rfl ?_
  intro p e s m args below meth c s₁ B hml hv
  obtain ⟨rfl, hsz, hP, hK, hD0, hZ⟩ := hv
  have hx := B.exec
  have hb := B.bytes
  have hr := B.returns
  have hts := atoms_spec (ws := wsC_clear) B.pre
  have hown : s.vm.findClass RC = some m.cls := findClass_of_methodNamed B.named
  have hlocks := B.notSynchronized
  subst hsz
  have hD := hD0.self (sz := s.heap.size)
  generalize hAe : va_A (ctW a cA n f) s.heap.size = A at hD hZ ⊢
  have hDa : ∀ (n : ctN) (f : ctF), va_D A (ctW a cA n f) := fun _ _ => ct_D hD
  have hA : ∀ q : Nat, s.heap.size ≤ q → A q := fun q h => by rw [← hAe]; exact Or.inr h
  have hS : va_S A s.heap s.heap [] := va_S.rf
  have hl := lv_entry ([.ref (a 0)]) (n := 1) (Nat.le_of_ble_eq_true rfl)
  rw [lg_entry_eq]
  generalize (lg_sl ([.ref (a 0)]) ++ List.replicate (1 - (lg_sl ([.ref (a 0)])).length) Slot.unset).toArray = ls at hl ⊢
  have hl : lv_has ls 1 [(0, .ref (a 0))] := hl
  unfold wp_C_clear at hw
  refine lv_aload_n hx hb dC_clear_0 rfl (lv_at hl 0 rfl) ?_
  refine va_get (D := (dC, dI)) (ci := 0) (v := .ref (a 2)) (C := RC) (T := TC) (N := 2) hx hb hts (fun w h => List.mem_cons_of_mem _ (inC w h)) hown hK hP 0 rfl rfl 1 (by decide) (hts (.fieldLink RC 21 "CoverTrees" "forest" "LCoverTrees$Forest;") (List.mem_cons_of_mem _ wt_135)) (fun _ h9 => h9) rfl dC_clear_1 ?_
  refine lv_iconst (v := 0) hx hb dC_clear_4 (by decide) ?_
  refine va_put (D := (dC, dI)) (ci := 2) (v := .int 0) (ty := .int) (C := RF) (T := TF) (N := 11) hx hb hts (fun w h => List.mem_cons_of_mem _ (inF w h)) tyF tyF_ok nmF hown hK hP (hDa _ _) hS 2 rfl rfl 1 (by decide) (hts (.fieldLink RC 25 "CoverTrees$Forest" "count" "I") (List.mem_cons_of_mem _ wt_95)) (fun _ h9 => h9) rfl (by decide +kernel) rfl rfl (Nat.le_of_ble_eq_true rfl) dC_clear_5 (fun H locs hP _ hS => ?_)
  obtain ⟨n_1, en_1⟩ : ∃ z : ctN, z = va_up n 2 0 := ⟨_, rfl⟩
  have hw := hw n_1 en_1
  have hP : va_P (dC, dI) vcl (ctW a cA n_1 f) H := by rw [en_1]; exact hP
  refine lv_aload_n hx hb dC_clear_8 rfl (lv_at hl 0 rfl) ?_
  refine va_get (D := (dC, dI)) (ci := 0) (v := .ref (a 1)) (C := RC) (T := TC) (N := 2) hx hb hts (fun w h => List.mem_cons_of_mem _ (inC w h)) hown hK hP 0 rfl rfl 0 (by decide) (hts (.fieldLink RC 12 "CoverTrees" "grammar" "LCoverTrees$Grammar;") (List.mem_cons_of_mem _ wt_134)) (fun _ h9 => h9) rfl dC_clear_9 ?_
  refine lv_iconst (v := 0) hx hb dC_clear_12 (by decide) ?_
  refine va_put (D := (dC, dI)) (ci := 1) (v := .int 0) (ty := .int) (C := RG) (T := TG) (N := 8) hx hb hts (fun w h => List.mem_cons_of_mem _ (inG w h)) tyG tyG_ok nmG hown hK hP (hDa _ _) hS 1 rfl rfl 2 (by decide) (hts (.fieldLink RC 29 "CoverTrees$Grammar" "ruleCount" "I") (List.mem_cons_of_mem _ wt_57)) (fun _ h9 => h9) rfl (by decide +kernel) rfl rfl (Nat.le_of_ble_eq_true rfl) dC_clear_13 (fun H locs hP _ hS => ?_)
  obtain ⟨n_2, en_2⟩ : ∃ z : ctN, z = va_up n_1 1 0 := ⟨_, rfl⟩
  have hw := hw n_2 en_2
  have hP : va_P (dC, dI) vcl (ctW a cA n_2 f) H := by rw [en_2]; exact hP
  refine lv_aload_n hx hb dC_clear_16 rfl (lv_at hl 0 rfl) ?_
  refine va_get (D := (dC, dI)) (ci := 0) (v := .ref (a 1)) (C := RC) (T := TC) (N := 2) hx hb hts (fun w h => List.mem_cons_of_mem _ (inC w h)) hown hK hP 0 rfl rfl 0 (by decide) (hts (.fieldLink RC 12 "CoverTrees" "grammar" "LCoverTrees$Grammar;") (List.mem_cons_of_mem _ wt_134)) (fun _ h9 => h9) rfl dC_clear_17 ?_
  refine lv_iconst (v := 0) hx hb dC_clear_20 (by decide) ?_
  refine va_put (D := (dC, dI)) (ci := 1) (v := .int 0) (ty := .int) (C := RG) (T := TG) (N := 8) hx hb hts (fun w h => List.mem_cons_of_mem _ (inG w h)) tyG tyG_ok nmG hown hK hP (hDa _ _) hS 1 rfl rfl 0 (by decide) (hts (.fieldLink RC 32 "CoverTrees$Grammar" "operatorCount" "I") (List.mem_cons_of_mem _ wt_53)) (fun _ h9 => h9) rfl (by decide +kernel) rfl rfl (Nat.le_of_ble_eq_true rfl) dC_clear_21 (fun H locs hP _ hS => ?_)
  obtain ⟨n_3, en_3⟩ : ∃ z : ctN, z = va_up n_2 0 0 := ⟨_, rfl⟩
  have hw := hw n_3 en_3
  have hP : va_P (dC, dI) vcl (ctW a cA n_3 f) H := by rw [en_3]; exact hP
  exact W.vret hx hb hr (fun t ht hW => ⟨⟨(n_3, f), rfl, hw, ct_mkB ht hP⟩, hS.F ht⟩) hS.2.2 dC_clear_24
def wp_C_fell (post : ctN → ctF → Prop) (n : ctN) (f : ctF) : Prop := ∀ n_1 : ctN, n_1 = va_up n 2 0 → (post n_1 f)
set_option maxHeartbeats 4000000 in
set_option maxRecDepth 100000 in
theorem met_C_fell (l : Launch) (dC : Nat → ClassId) (dI : Nat → Nat → Nat) (a : Nat → Nat) (cA : Nat → ClassId) (sa : Nat → Nat) (n : ctN) (f : ctF) (sz : Nat) {post : ctN → ctF → Prop} (hw : wp_C_fell post n f) : Met l yC_fell wsC_fell ({ frames := 0, cells := 0, slots := 0, locals := 0 } : Room) (ct_Pc dC dI a cA sa [.ref (a 0)] n f sz) (va_Qv (fun (u : ctN × ctF) => post u.1 u.2) (ct_B dC dI a cA) (va_A (ctW a cA n f) sz)) 0 0 (va_A (ctW a cA n f) sz) := by
  refine Met.ofW (cc := cC_fell) (maxL := 1) (ret := none) (by decide) rfl ?_
  intro p e s m args below meth c s₁ B hml hv
  obtain ⟨rfl, hsz, hP, hK, hD0, hZ⟩ := hv
  have hx := B.exec
  have hb := B.bytes
  have hr := B.returns
  have hts := atoms_spec (ws := wsC_fell) B.pre
  have hown : s.vm.findClass RC = some m.cls := findClass_of_methodNamed B.named
  have hlocks := B.notSynchronized
  subst hsz
  have hD := hD0.self (sz := s.heap.size)
  generalize hAe : va_A (ctW a cA n f) s.heap.size = A at hD hZ ⊢
  have hDa : ∀ (n : ctN) (f : ctF), va_D A (ctW a cA n f) := fun _ _ => ct_D hD
  have hA : ∀ q : Nat, s.heap.size ≤ q → A q := fun q h => by rw [← hAe]; exact Or.inr h
  have hS : va_S A s.heap s.heap [] := va_S.rf
  have hl := lv_entry ([.ref (a 0)]) (n := 1) (Nat.le_of_ble_eq_true rfl)
  rw [lg_entry_eq]
  generalize (lg_sl ([.ref (a 0)]) ++ List.replicate (1 - (lg_sl ([.ref (a 0)])).length) Slot.unset).toArray = ls at hl ⊢
  have hl : lv_has ls 1 [(0, .ref (a 0))] := hl
  unfold wp_C_fell at hw
  refine lv_aload_n hx hb dC_fell_0 rfl (lv_at hl 0 rfl) ?_
  refine va_get (D := (dC, dI)) (ci := 0) (v := .ref (a 2)) (C := RC) (T := TC) (N := 2) hx hb hts (fun w h => List.mem_cons_of_mem _ (inC w h)) hown hK hP 0 rfl rfl 1 (by decide) (hts (.fieldLink RC 21 "CoverTrees" "forest" "LCoverTrees$Forest;") (List.mem_cons_of_mem _ wt_135)) (fun _ h9 => h9) rfl dC_fell_1 ?_
  refine lv_iconst (v := 0) hx hb dC_fell_4 (by decide) ?_
  refine va_put (D := (dC, dI)) (ci := 2) (v := .int 0) (ty := .int) (C := RF) (T := TF) (N := 11) hx hb hts (fun w h => List.mem_cons_of_mem _ (inF w h)) tyF tyF_ok nmF hown hK hP (hDa _ _) hS 2 rfl rfl 1 (by decide) (hts (.fieldLink RC 25 "CoverTrees$Forest" "count" "I") (List.mem_cons_of_mem _ wt_95)) (fun _ h9 => h9) rfl (by decide +kernel) rfl rfl (Nat.le_of_ble_eq_true rfl) dC_fell_5 (fun H locs hP _ hS => ?_)
  obtain ⟨n_1, en_1⟩ : ∃ z : ctN, z = va_up n 2 0 := ⟨_, rfl⟩
  have hw := hw n_1 en_1
  have hP : va_P (dC, dI) vcl (ctW a cA n_1 f) H := by rw [en_1]; exact hP
  exact W.vret hx hb hr (fun t ht hW => ⟨⟨(n_1, f), rfl, hw, ct_mkB ht hP⟩, hS.F ht⟩) hS.2.2 dC_fell_8
def wp_C_operator (post : Int32 → ctN → ctF → Prop) (xp : String → ctN → ctF → Prop) (p1 : Int32) (n : ctN) (f : ctF) : Prop := (p1 < 0 → (xp "java/lang/IllegalArgumentException" n f)) ∧ (¬ p1 < 0 → ((p1 ≤ 2 → (((n 0) < 10 → (wp_G_addOperator (fun (r4 : Int32) (n_5 : ctN) (f_6 : ctF) => post r4 n_5 f_6) p1 n f)) ∧ (¬ (n 0) < 10 → (xp "java/lang/UnsupportedOperationException" n f)))) ∧ (¬ p1 ≤ 2 → (xp "java/lang/IllegalArgumentException" n f))))
set_option maxHeartbeats 4000000 in
set_option maxRecDepth 100000 in
theorem met0_C_operator (l : Launch) (dC : Nat → ClassId) (dI : Nat → Nat → Nat) (a : Nat → Nat) (cA : Nat → ClassId) (sa : Nat → Nat) (p1 : Int32) (n : ctN) (f : ctF) (sz : Nat) {post : Int32 → ctN → ctF → Prop} (hw : wp_C_operator post xF p1 n f) : Met l yC_operator wsC_operator ({ frames := 6, cells := 0, slots := 0, locals := 90 } : Room) (ct_Pc dC dI a cA sa [.ref (a 0), .int p1] n f sz) (va_Qi (fun (r : Int32) (u : ctN × ctF) => post r u.1 u.2) (ct_B dC dI a cA) (va_A (ctW a cA n f) sz)) 0 0 (va_A (ctW a cA n f) sz) := by
  refine Met.ofW (cc := cC_operator) (maxL := 2) (ret := (some .int)) (by decide) rfl ?_
  intro p e s m args below meth c s₁ B hml hv
  obtain ⟨rfl, hsz, hP, hK, hD0, hZ⟩ := hv
  have hx := B.exec
  have hb := B.bytes
  have hr := B.returns
  have hts := atoms_spec (ws := wsC_operator) B.pre
  have hown : s.vm.findClass RC = some m.cls := findClass_of_methodNamed B.named
  have hlocks := B.notSynchronized
  subst hsz
  have hD := hD0.self (sz := s.heap.size)
  generalize hAe : va_A (ctW a cA n f) s.heap.size = A at hD hZ ⊢
  have hDa : ∀ (n : ctN) (f : ctF), va_D A (ctW a cA n f) := fun _ _ => ct_D hD
  have hA : ∀ q : Nat, s.heap.size ≤ q → A q := fun q h => by rw [← hAe]; exact Or.inr h
  have hS : va_S A s.heap s.heap [] := va_S.rf
  have hl := lv_entry ([.ref (a 0), .int p1]) (n := 2) (Nat.le_of_ble_eq_true rfl)
  rw [lg_entry_eq]
  generalize (lg_sl ([.ref (a 0), .int p1]) ++ List.replicate (2 - (lg_sl ([.ref (a 0), .int p1])).length) Slot.unset).toArray = ls at hl ⊢
  have hl : lv_has ls 2 [(0, .ref (a 0)), (1, .int p1)] := hl
  unfold wp_C_operator at hw
  refine lv_iload_n hx hb dC_operator_0 rfl (lv_at hl 1 rfl) ?_
  refine lv_if_lt (tgt := 9) hx hb dC_operator_1 (by decide) (fun c1 => ?_) (fun c1 => ?_)
  · have hw := hw.1 c1
    exact False.elim hw
  · have hw := hw.2 c1
    refine lv_iload_n hx hb dC_operator_4 rfl (lv_at hl 1 rfl) ?_
    refine lv_iconst (v := 2) hx hb dC_operator_5 (by decide) ?_
    refine lv_icmp_le (tgt := 19) hx hb dC_operator_6 (by decide) (fun c2 => ?_) (fun c2 => ?_)
    · have hw := hw.1 c2
      refine lv_aload_n hx hb dC_operator_19 rfl (lv_at hl 0 rfl) ?_
      refine va_get (D := (dC, dI)) (ci := 0) (v := .ref (a 1)) (C := RC) (T := TC) (N := 2) hx hb hts (fun w h => List.mem_cons_of_mem _ (inC w h)) hown hK hP 0 rfl rfl 0 (by decide) (hts (.fieldLink RC 12 "CoverTrees" "grammar" "LCoverTrees$Grammar;") (List.mem_cons_of_mem _ wt_134)) (fun _ h9 => h9) rfl dC_operator_20 ?_
      refine va_get (D := (dC, dI)) (ci := 1) (v := .int (n 0)) (C := RG) (T := TG) (N := 8) hx hb hts (fun w h => List.mem_cons_of_mem _ (inG w h)) hown hK hP 1 rfl rfl 0 (by decide) (hts (.fieldLink RC 32 "CoverTrees$Grammar" "operatorCount" "I") (List.mem_cons_of_mem _ wt_53)) (fun _ h9 => h9) rfl dC_operator_23 ?_
      refine lv_bipush (v := 10) hx hb dC_operator_26 (by decide) ?_
      refine lv_icmp_lt (tgt := 41) hx hb dC_operator_28 (by decide) (fun c3 => ?_) (fun c3 => ?_)
      · have hw := hw.1 c3
        refine lv_aload_n hx hb dC_operator_41 rfl (lv_at hl 0 rfl) ?_
        refine va_get (D := (dC, dI)) (ci := 0) (v := .ref (a 1)) (C := RC) (T := TC) (N := 2) hx hb hts (fun w h => List.mem_cons_of_mem _ (inC w h)) hown hK hP 0 rfl rfl 0 (by decide) (hts (.fieldLink RC 12 "CoverTrees" "grammar" "LCoverTrees$Grammar;") (List.mem_cons_of_mem _ wt_134)) (fun _ h9 => h9) rfl dC_operator_42 ?_
        refine lv_iload_n hx hb dC_operator_45 rfl (lv_at hl 1 rfl) ?_
        refine ct_i (va_runV (As := [.int p1]) (rest := []) ⟨hx, hb, hml, hown, hts⟩ (met_G_addOperator l dC dI a cA sa p1 n f _ hw) (cwV 1 hts (wb_V wt_250 wt_251 wt_252 wt_28 wt_253) rfl rfl rfl (by decide +kernel) ⟨Nat.le_of_ble_eq_true rfl, Nat.le_of_ble_eq_true rfl⟩) (ct_preV hK hP (hDa _ _) hZ hS hA (va_recv hK hP (ci := 1) (q0 := 1) rfl rfl)) rfl rfl hl.1 rfl (lv_room (Nat.le_of_ble_eq_true rfl)) dC_operator_46 ⟨Nat.le_of_ble_eq_true rfl, Nat.le_of_ble_eq_true rfl⟩) (hDa _ _) hS hA (fun r4 n_5 f_6 H locs hw hP hS => ?_)
        exact W.iret (v := r4) hx hb hr (fun t ht hW => ⟨⟨r4, (n_5, f_6), rfl, hw, ct_mkB ht hP⟩, hS.F ht⟩) hS.2.2 dC_operator_49
      · have hw := hw.2 c3
        exact False.elim hw
    · have hw := hw.2 c2
      exact False.elim hw
set_option maxHeartbeats 4000000 in
set_option maxRecDepth 100000 in
theorem metx_C_operator (l : Launch) (hl9 : l.stackTraces = false) (dC : Nat → ClassId) (dI : Nat → Nat → Nat) (a : Nat → Nat) (cA : Nat → ClassId) (sa : Nat → Nat) (p1 : Int32) (n : ctN) (f : ctF) (sz : Nat) {xp : String → ctN → ctF → Prop} (hw : wp_C_operator pFi xp p1 n f) : vx_Met l yC_operator wsC_operator ({ frames := 6, cells := 1, slots := 6, locals := 90 } : Room) (ct_Pc dC dI a cA sa [.ref (a 0), .int p1] n f sz) (va_Qi (fun (r : Int32) (u : ctN × ctF) => pFi r u.1 u.2) (ct_B dC dI a cA) (va_A (ctW a cA n f) sz)) (vx_X (fun (_ : ctN × ctF) => True) (fun E u t => xp E u.1 u.2 ∧ ct_B dC dI a cA u t) (va_A (ctW a cA n f) sz)) 1 6 (va_A (ctW a cA n f) sz) := by
  refine vx_ofW (cc := cC_operator) (maxL := 2) (ret := (some .int)) (by decide) rfl ?_
  intro p e s m args below meth c s₁ B hml htb hv
  obtain ⟨rfl, hsz, hP, hK, hD0, hZ⟩ := hv
  have hx := B.exec
  have hb := B.bytes
  have hr := B.returns
  have hts := atoms_spec (ws := wsC_operator) B.pre
  have hown : s.vm.findClass RC = some m.cls := findClass_of_methodNamed B.named
  have hlocks := B.notSynchronized
  subst hsz
  have hD := hD0.self (sz := s.heap.size)
  generalize hAe : va_A (ctW a cA n f) s.heap.size = A at hD hZ ⊢
  have hDa : ∀ (n : ctN) (f : ctF), va_D A (ctW a cA n f) := fun _ _ => ct_D hD
  have hA : ∀ q : Nat, s.heap.size ≤ q → A q := fun q h => by rw [← hAe]; exact Or.inr h
  have hS : va_S A s.heap s.heap [] := va_S.rf
  have hl := lv_entry ([.ref (a 0), .int p1]) (n := 2) (Nat.le_of_ble_eq_true rfl)
  rw [lg_entry_eq]
  generalize (lg_sl ([.ref (a 0), .int p1]) ++ List.replicate (2 - (lg_sl ([.ref (a 0), .int p1])).length) Slot.unset).toArray = ls at hl ⊢
  have hl : lv_has ls 2 [(0, .ref (a 0)), (1, .int p1)] := hl
  unfold wp_C_operator at hw
  refine lv_iload_n hx hb dC_operator_0 rfl (lv_at hl 1 rfl) ?_
  refine lv_if_lt (tgt := 9) hx hb dC_operator_1 (by decide) (fun c1 => ?_) (fun c1 => ?_)
  · have hw := hw.1 c1
    exact vx_throwS (own := RC) (cls := "java/lang/IllegalArgumentException") (text := "an operator has 0 to 2 parts") (names := ["java/lang/RuntimeException", "java/lang/Exception"]) (ik := 35) (is := 37) (ic := 39) (sa := sa 0) hx hb hl9 hown (by decide +kernel) (by decide +kernel) (hts (.classLink RC 35 "java/lang/IllegalArgumentException") (List.mem_cons_of_mem _ wt_166)) (hts (.initialized "java/lang/IllegalArgumentException") (List.mem_cons_of_mem _ wt_34)) hZ.2.2.2.2.2.2.2.1 (vx_hat (L := vx_atS RC 39 "java/lang/IllegalArgumentException" ["java/lang/RuntimeException", "java/lang/Exception"]) (B := [.castable "java/lang/IllegalArgumentException" "java/lang/IllegalArgumentException", .declares ⟨"java/lang/RuntimeException", "<init>", "(Ljava/lang/String;)V"⟩, .declares ⟨"java/lang/Exception", "<init>", "(Ljava/lang/String;)V"⟩, .declares ⟨"java/lang/Throwable", "<init>", "(Ljava/lang/String;)V"⟩]) (fun w hw => hts w (List.mem_cons_of_mem _ (at_C_39 w hw))) bd_C_39 (vx_c (va_Nw.use rfl hZ.2.1) (vx_c (va_Nw.use rfl hZ.2.2.2.2.1) (vx_c (va_Nw.use rfl hZ.2.2.2.2.2.1) (vx_c (va_Nw.use rfl hZ.2.2.2.2.2.2.1) (vx_n)))))) gd_C_39 hZ.2.2.2.2.2.2.2.2.2.2.2.2.2.2.2.2.2.2.2.2.2.2.2.1 hZ.2.2.2.2.2.2.2.2.2.2.2.2.2.2.2.2.2.2.2.2.2.2.2.2 hS (hl.1.trans hml.symm) dC_operator_9 dC_operator_12 dC_operator_13 dC_operator_15 dC_operator_18 (fun x h => (htb x h).elim) (Nat.le_of_ble_eq_true rfl) (Nat.le_of_ble_eq_true rfl) (Nat.le_of_ble_eq_true rfl) (Nat.le_of_ble_eq_true rfl) hlocks (fun t _ h1 h2 => ⟨(n, f), trivial, ⟨hw, (ct_thr hP hS h1 h2).1⟩, (ct_thr hP hS h1 h2).2⟩) hS.2.2 (Nat.le_of_ble_eq_true rfl) (Nat.le_of_ble_eq_true rfl)
  · have hw := hw.2 c1
    refine lv_iload_n hx hb dC_operator_4 rfl (lv_at hl 1 rfl) ?_
    refine lv_iconst (v := 2) hx hb dC_operator_5 (by decide) ?_
    refine lv_icmp_le (tgt := 19) hx hb dC_operator_6 (by decide) (fun c2 => ?_) (fun c2 => ?_)
    · have hw := hw.1 c2
      refine lv_aload_n hx hb dC_operator_19 rfl (lv_at hl 0 rfl) ?_
      refine va_get (D := (dC, dI)) (ci := 0) (v := .ref (a 1)) (C := RC) (T := TC) (N := 2) hx hb hts (fun w h => List.mem_cons_of_mem _ (inC w h)) hown hK hP 0 rfl rfl 0 (by decide) (hts (.fieldLink RC 12 "CoverTrees" "grammar" "LCoverTrees$Grammar;") (List.mem_cons_of_mem _ wt_134)) (fun _ h9 => h9) rfl dC_operator_20 ?_
      refine va_get (D := (dC, dI)) (ci := 1) (v := .int (n 0)) (C := RG) (T := TG) (N := 8) hx hb hts (fun w h => List.mem_cons_of_mem _ (inG w h)) hown hK hP 1 rfl rfl 0 (by decide) (hts (.fieldLink RC 32 "CoverTrees$Grammar" "operatorCount" "I") (List.mem_cons_of_mem _ wt_53)) (fun _ h9 => h9) rfl dC_operator_23 ?_
      refine lv_bipush (v := 10) hx hb dC_operator_26 (by decide) ?_
      refine lv_icmp_lt (tgt := 41) hx hb dC_operator_28 (by decide) (fun c3 => ?_) (fun c3 => ?_)
      · have hw := hw.1 c3
        refine lv_aload_n hx hb dC_operator_41 rfl (lv_at hl 0 rfl) ?_
        refine va_get (D := (dC, dI)) (ci := 0) (v := .ref (a 1)) (C := RC) (T := TC) (N := 2) hx hb hts (fun w h => List.mem_cons_of_mem _ (inC w h)) hown hK hP 0 rfl rfl 0 (by decide) (hts (.fieldLink RC 12 "CoverTrees" "grammar" "LCoverTrees$Grammar;") (List.mem_cons_of_mem _ wt_134)) (fun _ h9 => h9) rfl dC_operator_42 ?_
        refine lv_iload_n hx hb dC_operator_45 rfl (lv_at hl 1 rfl) ?_
        refine ct_i (va_runV (As := [.int p1]) (rest := []) ⟨hx, hb, hml, hown, hts⟩ (met_G_addOperator l dC dI a cA sa p1 n f _ hw) (cwV 1 hts (wb_V wt_250 wt_251 wt_252 wt_28 wt_253) rfl rfl rfl (by decide +kernel) ⟨Nat.le_of_ble_eq_true rfl, Nat.le_of_ble_eq_true rfl⟩) (ct_preV hK hP (hDa _ _) hZ hS hA (va_recv hK hP (ci := 1) (q0 := 1) rfl rfl)) rfl rfl hl.1 rfl (lv_room (Nat.le_of_ble_eq_true rfl)) dC_operator_46 ⟨Nat.le_of_ble_eq_true rfl, Nat.le_of_ble_eq_true rfl⟩) (hDa _ _) hS hA (fun r4 n_5 f_6 H locs hw hP hS => ?_)
        exact False.elim hw
      · have hw := hw.2 c3
        exact vx_throwS (own := RC) (cls := "java/lang/UnsupportedOperationException") (text := "there are ten operators") (names := ["java/lang/RuntimeException", "java/lang/Exception"]) (ik := 42) (is := 44) (ic := 46) (sa := sa 1) hx hb hl9 hown (by decide +kernel) (by decide +kernel) (hts (.classLink RC 42 "java/lang/UnsupportedOperationException") (List.mem_cons_of_mem _ wt_234)) (hts (.initialized "java/lang/UnsupportedOperationException") (List.mem_cons_of_mem _ wt_35)) hZ.2.2.2.2.2.2.2.2.1 (vx_hat (L := vx_atS RC 46 "java/lang/UnsupportedOperationException" ["java/lang/RuntimeException", "java/lang/Exception"]) (B := [.castable "java/lang/UnsupportedOperationException" "java/lang/UnsupportedOperationException", .declares ⟨"java/lang/RuntimeException", "<init>", "(Ljava/lang/String;)V"⟩, .declares ⟨"java/lang/Exception", "<init>", "(Ljava/lang/String;)V"⟩, .declares ⟨"java/lang/Throwable", "<init>", "(Ljava/lang/String;)V"⟩]) (fun w hw => hts w (List.mem_cons_of_mem _ (at_C_46 w hw))) bd_C_46 (vx_c (va_Nw.use rfl hZ.2.2.1) (vx_c (va_Nw.use rfl hZ.2.2.2.2.1) (vx_c (va_Nw.use rfl hZ.2.2.2.2.2.1) (vx_c (va_Nw.use rfl hZ.2.2.2.2.2.2.1) (vx_n)))))) gd_C_46 hZ.2.2.2.2.2.2.2.2.2.2.2.2.2.2.2.2.2.2.2.2.2.2.2.1 hZ.2.2.2.2.2.2.2.2.2.2.2.2.2.2.2.2.2.2.2.2.2.2.2.2 hS (hl.1.trans hml.symm) dC_operator_31 dC_operator_34 dC_operator_35 dC_operator_37 dC_operator_40 (fun x h => (htb x h).elim) (Nat.le_of_ble_eq_true rfl) (Nat.le_of_ble_eq_true rfl) (Nat.le_of_ble_eq_true rfl) (Nat.le_of_ble_eq_true rfl) hlocks (fun t _ h1 h2 => ⟨(n, f), trivial, ⟨hw, (ct_thr hP hS h1 h2).1⟩, (ct_thr hP hS h1 h2).2⟩) hS.2.2 (Nat.le_of_ble_eq_true rfl) (Nat.le_of_ble_eq_true rfl)
    · have hw := hw.2 c2
      exact vx_throwS (own := RC) (cls := "java/lang/IllegalArgumentException") (text := "an operator has 0 to 2 parts") (names := ["java/lang/RuntimeException", "java/lang/Exception"]) (ik := 35) (is := 37) (ic := 39) (sa := sa 0) hx hb hl9 hown (by decide +kernel) (by decide +kernel) (hts (.classLink RC 35 "java/lang/IllegalArgumentException") (List.mem_cons_of_mem _ wt_166)) (hts (.initialized "java/lang/IllegalArgumentException") (List.mem_cons_of_mem _ wt_34)) hZ.2.2.2.2.2.2.2.1 (vx_hat (L := vx_atS RC 39 "java/lang/IllegalArgumentException" ["java/lang/RuntimeException", "java/lang/Exception"]) (B := [.castable "java/lang/IllegalArgumentException" "java/lang/IllegalArgumentException", .declares ⟨"java/lang/RuntimeException", "<init>", "(Ljava/lang/String;)V"⟩, .declares ⟨"java/lang/Exception", "<init>", "(Ljava/lang/String;)V"⟩, .declares ⟨"java/lang/Throwable", "<init>", "(Ljava/lang/String;)V"⟩]) (fun w hw => hts w (List.mem_cons_of_mem _ (at_C_39 w hw))) bd_C_39 (vx_c (va_Nw.use rfl hZ.2.1) (vx_c (va_Nw.use rfl hZ.2.2.2.2.1) (vx_c (va_Nw.use rfl hZ.2.2.2.2.2.1) (vx_c (va_Nw.use rfl hZ.2.2.2.2.2.2.1) (vx_n)))))) gd_C_39 hZ.2.2.2.2.2.2.2.2.2.2.2.2.2.2.2.2.2.2.2.2.2.2.2.1 hZ.2.2.2.2.2.2.2.2.2.2.2.2.2.2.2.2.2.2.2.2.2.2.2.2 hS (hl.1.trans hml.symm) dC_operator_9 dC_operator_12 dC_operator_13 dC_operator_15 dC_operator_18 (fun x h => (htb x h).elim) (Nat.le_of_ble_eq_true rfl) (Nat.le_of_ble_eq_true rfl) (Nat.le_of_ble_eq_true rfl) (Nat.le_of_ble_eq_true rfl) hlocks (fun t _ h1 h2 => ⟨(n, f), trivial, ⟨hw, (ct_thr hP hS h1 h2).1⟩, (ct_thr hP hS h1 h2).2⟩) hS.2.2 (Nat.le_of_ble_eq_true rfl) (Nat.le_of_ble_eq_true rfl)
def wp_C_base (post : Int32 → ctN → ctF → Prop) (xp : String → ctN → ctF → Prop) (p1 : Int32) (p2 : Int32) (p3 : Int32) (p4 : Int32) (p5 : Int32) (n : ctN) (f : ctF) : Prop := wp_C_isGoal (fun (r1 : Int32) (n_2 : ctN) (f_3 : ctF) => (r1 = 0 → (xp "java/lang/IllegalArgumentException" n_2 f_3)) ∧ (¬ r1 = 0 → (wp_G_hasOperator (fun (r5 : Int32) (n_6 : ctN) (f_7 : ctF) => (¬ r5 = 0 → (vp_in p2 10 ∧ (∀ x6_10 : Int32, x6_10 = (f_7 3 p2.toNatClampNeg) → ((x6_10 < 1 → ((x6_10 < 2 → ((wp_C_checkRuleCost (fun (n_14 : ctN) (f_15 : ctF) => (wp_C_checkRoomForRule (fun (n_17 : ctN) (f_18 : ctF) => ∀ n_19 : ctN, n_19 = va_up n_17 2 0 → ((x6_10 < 1 → ((x6_10 < 2 → (wp_G_addRule (fun (r22 : Int32) (n_23 : ctN) (f_24 : ctF) => post r22 n_23 f_24) p1 p2 0 0 p5 n_19 f_18)) ∧ (¬ x6_10 < 2 → (wp_G_addRule (fun (r25 : Int32) (n_26 : ctN) (f_27 : ctF) => post r25 n_26 f_27) p1 p2 0 p4 p5 n_19 f_18)))) ∧ (¬ x6_10 < 1 → ((x6_10 < 2 → (wp_G_addRule (fun (r29 : Int32) (n_30 : ctN) (f_31 : ctF) => post r29 n_30 f_31) p1 p2 p3 0 p5 n_19 f_18)) ∧ (¬ x6_10 < 2 → (wp_G_addRule (fun (r32 : Int32) (n_33 : ctN) (f_34 : ctF) => post r32 n_33 f_34) p1 p2 p3 p4 p5 n_19 f_18)))))) xF n_14 f_15) ∨ (wp_C_checkRoomForRule pFv xp n_14 f_15)) xF p5 n_6 f_7) ∨ (wp_C_checkRuleCost pFv xp p5 n_6 f_7))) ∧ (¬ x6_10 < 2 → (wp_C_isGoal (fun (r35 : Int32) (n_36 : ctN) (f_37 : ctF) => (¬ r35 = 0 → ((wp_C_checkRuleCost (fun (n_40 : ctN) (f_41 : ctF) => (wp_C_checkRoomForRule (fun (n_43 : ctN) (f_44 : ctF) => ∀ n_45 : ctN, n_45 = va_up n_43 2 0 → ((x6_10 < 1 → ((x6_10 < 2 → (wp_G_addRule (fun (r48 : Int32) (n_49 : ctN) (f_50 : ctF) => post r48 n_49 f_50) p1 p2 0 0 p5 n_45 f_44)) ∧ (¬ x6_10 < 2 → (wp_G_addRule (fun (r51 : Int32) (n_52 : ctN) (f_53 : ctF) => post r51 n_52 f_53) p1 p2 0 p4 p5 n_45 f_44)))) ∧ (¬ x6_10 < 1 → ((x6_10 < 2 → (wp_G_addRule (fun (r55 : Int32) (n_56 : ctN) (f_57 : ctF) => post r55 n_56 f_57) p1 p2 p3 0 p5 n_45 f_44)) ∧ (¬ x6_10 < 2 → (wp_G_addRule (fun (r58 : Int32) (n_59 : ctN) (f_60 : ctF) => post r58 n_59 f_60) p1 p2 p3 p4 p5 n_45 f_44)))))) xF n_40 f_41) ∨ (wp_C_checkRoomForRule pFv xp n_40 f_41)) xF p5 n_36 f_37) ∨ (wp_C_checkRuleCost pFv xp p5 n_36 f_37))) ∧ (r35 = 0 → (xp "java/lang/IllegalArgumentException" n_36 f_37))) p4 n_6 f_7)))) ∧ (¬ x6_10 < 1 → (wp_C_isGoal (fun (r61 : Int32) (n_62 : ctN) (f_63 : ctF) => (r61 = 0 → (xp "java/lang/IllegalArgumentException" n_62 f_63)) ∧ (¬ r61 = 0 → ((x6_10 < 2 → ((wp_C_checkRuleCost (fun (n_67 : ctN) (f_68 : ctF) => (wp_C_checkRoomForRule (fun (n_70 : ctN) (f_71 : ctF) => ∀ n_72 : ctN, n_72 = va_up n_70 2 0 → ((x6_10 < 1 → ((x6_10 < 2 → (wp_G_addRule (fun (r75 : Int32) (n_76 : ctN) (f_77 : ctF) => post r75 n_76 f_77) p1 p2 0 0 p5 n_72 f_71)) ∧ (¬ x6_10 < 2 → (wp_G_addRule (fun (r78 : Int32) (n_79 : ctN) (f_80 : ctF) => post r78 n_79 f_80) p1 p2 0 p4 p5 n_72 f_71)))) ∧ (¬ x6_10 < 1 → ((x6_10 < 2 → (wp_G_addRule (fun (r82 : Int32) (n_83 : ctN) (f_84 : ctF) => post r82 n_83 f_84) p1 p2 p3 0 p5 n_72 f_71)) ∧ (¬ x6_10 < 2 → (wp_G_addRule (fun (r85 : Int32) (n_86 : ctN) (f_87 : ctF) => post r85 n_86 f_87) p1 p2 p3 p4 p5 n_72 f_71)))))) xF n_67 f_68) ∨ (wp_C_checkRoomForRule pFv xp n_67 f_68)) xF p5 n_62 f_63) ∨ (wp_C_checkRuleCost pFv xp p5 n_62 f_63))) ∧ (¬ x6_10 < 2 → (wp_C_isGoal (fun (r88 : Int32) (n_89 : ctN) (f_90 : ctF) => (¬ r88 = 0 → ((wp_C_checkRuleCost (fun (n_93 : ctN) (f_94 : ctF) => (wp_C_checkRoomForRule (fun (n_96 : ctN) (f_97 : ctF) => ∀ n_98 : ctN, n_98 = va_up n_96 2 0 → ((x6_10 < 1 → ((x6_10 < 2 → (wp_G_addRule (fun (r101 : Int32) (n_102 : ctN) (f_103 : ctF) => post r101 n_102 f_103) p1 p2 0 0 p5 n_98 f_97)) ∧ (¬ x6_10 < 2 → (wp_G_addRule (fun (r104 : Int32) (n_105 : ctN) (f_106 : ctF) => post r104 n_105 f_106) p1 p2 0 p4 p5 n_98 f_97)))) ∧ (¬ x6_10 < 1 → ((x6_10 < 2 → (wp_G_addRule (fun (r108 : Int32) (n_109 : ctN) (f_110 : ctF) => post r108 n_109 f_110) p1 p2 p3 0 p5 n_98 f_97)) ∧ (¬ x6_10 < 2 → (wp_G_addRule (fun (r111 : Int32) (n_112 : ctN) (f_113 : ctF) => post r111 n_112 f_113) p1 p2 p3 p4 p5 n_98 f_97)))))) xF n_93 f_94) ∨ (wp_C_checkRoomForRule pFv xp n_93 f_94)) xF p5 n_89 f_90) ∨ (wp_C_checkRuleCost pFv xp p5 n_89 f_90))) ∧ (r88 = 0 → (xp "java/lang/IllegalArgumentException" n_89 f_90))) p4 n_62 f_63))))) p3 n_6 f_7)))))) ∧ (r5 = 0 → (xp "java/lang/IllegalArgumentException" n_6 f_7))) p2 n_2 f_3))) p1 n f
set_option maxHeartbeats 4000000 in
set_option maxRecDepth 100000 in
theorem met0_C_base (l : Launch) (dC : Nat → ClassId) (dI : Nat → Nat → Nat) (a : Nat → Nat) (cA : Nat → ClassId) (sa : Nat → Nat) (p1 : Int32) (p2 : Int32) (p3 : Int32) (p4 : Int32) (p5 : Int32) (n : ctN) (f : ctF) (sz : Nat) {post : Int32 → ctN → ctF → Prop} (hw : wp_C_base post xF p1 p2 p3 p4 p5 n f) : Met l yC_base wsC_base ({ frames := 7, cells := 0, slots := 0, locals := 110 } : Room) (ct_Pc dC dI a cA sa [.ref (a 0), .int p1, .int p2, .int p3, .int p4, .int p5] n f sz) (va_Qi (fun (r : Int32) (u : ctN × ctF) => post r u.1 u.2) (ct_B dC dI a cA) (va_A (ctW a cA n f) sz)) 0 0 (va_A (ctW a cA n f) sz) := by
  refine Met.ofW (cc := cC_base) (maxL := 7) (ret := (some .int)) (by decide) rfl ?_
  intro p e s m args below meth c s₁ B hml hv
  obtain ⟨rfl, hsz, hP, hK, hD0, hZ⟩ := hv
  have hx := B.exec
  have hb := B.bytes
  have hr := B.returns
  have hts := atoms_spec (ws := wsC_base) B.pre
  have hown : s.vm.findClass RC = some m.cls := findClass_of_methodNamed B.named
  have hlocks := B.notSynchronized
  subst hsz
  have hD := hD0.self (sz := s.heap.size)
  generalize hAe : va_A (ctW a cA n f) s.heap.size = A at hD hZ ⊢
  have hDa : ∀ (n : ctN) (f : ctF), va_D A (ctW a cA n f) := fun _ _ => ct_D hD
  have hA : ∀ q : Nat, s.heap.size ≤ q → A q := fun q h => by rw [← hAe]; exact Or.inr h
  have hS : va_S A s.heap s.heap [] := va_S.rf
  have hl := lv_entry ([.ref (a 0), .int p1, .int p2, .int p3, .int p4, .int p5]) (n := 7) (Nat.le_of_ble_eq_true rfl)
  rw [lg_entry_eq]
  generalize (lg_sl ([.ref (a 0), .int p1, .int p2, .int p3, .int p4, .int p5]) ++ List.replicate (7 - (lg_sl ([.ref (a 0), .int p1, .int p2, .int p3, .int p4, .int p5])).length) Slot.unset).toArray = ls at hl ⊢
  have hl : lv_has ls 7 [(0, .ref (a 0)), (1, .int p1), (2, .int p2), (3, .int p3), (4, .int p4), (5, .int p5)] := hl
  unfold wp_C_base at hw
  refine lv_iload_n hx hb dC_base_0 rfl (lv_at hl 1 rfl) ?_
  refine ct_i (va_runS (As := [.int p1]) (rest := []) ⟨hx, hb, hml, hown, hts⟩ (met_C_isGoal l dC dI a cA sa p1 n f _ hw) (cwS 1 hts (wb_S wt_261 wt_262 wt_27 wt_263) rfl rfl rfl (by decide +kernel) ⟨Nat.le_of_ble_eq_true rfl, Nat.le_of_ble_eq_true rfl⟩) (ct_pre hK hP (hDa _ _) hZ hS hA) rfl rfl hl.1 rfl (lv_room (Nat.le_of_ble_eq_true rfl)) dC_base_1 ⟨Nat.le_of_ble_eq_true rfl, Nat.le_of_ble_eq_true rfl⟩) (hDa _ _) hS hA (fun r1 n_2 f_3 H locs hw hP hS => ?_)
  refine lv_if_eq (tgt := 18) hx hb dC_base_4 (by decide) (fun c4 => ?_) (fun c4 => ?_)
  · have hw := hw.1 c4
    exact False.elim hw
  · have hw := hw.2 c4
    refine lv_aload_n hx hb dC_base_7 rfl (lv_at hl 0 rfl) ?_
    refine va_get (D := (dC, dI)) (ci := 0) (v := .ref (a 1)) (C := RC) (T := TC) (N := 2) hx hb hts (fun w h => List.mem_cons_of_mem _ (inC w h)) hown hK hP 0 rfl rfl 0 (by decide) (hts (.fieldLink RC 12 "CoverTrees" "grammar" "LCoverTrees$Grammar;") (List.mem_cons_of_mem _ wt_134)) (fun _ h9 => h9) rfl dC_base_8 ?_
    refine lv_iload_n hx hb dC_base_11 rfl (lv_at hl 2 rfl) ?_
    refine ct_i (va_runV (As := [.int p2]) (rest := []) ⟨hx, hb, hml, hown, hts⟩ (met_G_hasOperator l dC dI a cA sa p2 n_2 f_3 _ hw) (cwV 1 hts (wb_V wt_264 wt_265 wt_266 wt_28 wt_267) rfl rfl rfl (by decide +kernel) ⟨Nat.le_of_ble_eq_true rfl, Nat.le_of_ble_eq_true rfl⟩) (ct_preV hK hP (hDa _ _) hZ hS hA (va_recv hK hP (ci := 1) (q0 := 1) rfl rfl)) rfl rfl hl.1 rfl (lv_room (Nat.le_of_ble_eq_true rfl)) dC_base_12 ⟨Nat.le_of_ble_eq_true rfl, Nat.le_of_ble_eq_true rfl⟩) (hDa _ _) hS hA (fun r5 n_6 f_7 H locs hw hP hS => ?_)
    refine lv_if_ne (tgt := 28) hx hb dC_base_15 (by decide) (fun c8 => ?_) (fun c8 => ?_)
    · have hw := hw.1 c8
      refine lv_aload_n hx hb dC_base_28 rfl (lv_at hl 0 rfl) ?_
      refine va_get (D := (dC, dI)) (ci := 0) (v := .ref (a 1)) (C := RC) (T := TC) (N := 2) hx hb hts (fun w h => List.mem_cons_of_mem _ (inC w h)) hown hK hP 0 rfl rfl 0 (by decide) (hts (.fieldLink RC 12 "CoverTrees" "grammar" "LCoverTrees$Grammar;") (List.mem_cons_of_mem _ wt_134)) (fun _ h9 => h9) rfl dC_base_29 ?_
      refine va_get (D := (dC, dI)) (ci := 1) (v := .ref (a 3)) (C := RG) (T := TG) (N := 8) hx hb hts (fun w h => List.mem_cons_of_mem _ (inG w h)) hown hK hP 1 rfl rfl 1 (by decide) (hts (.fieldLink RC 60 "CoverTrees$Grammar" "parts" "[I") (List.mem_cons_of_mem _ wt_55)) (fun _ h9 => h9) rfl dC_base_32 ?_
      refine lv_iload_n hx hb dC_base_35 rfl (lv_at hl 2 rfl) ?_
      obtain ⟨hi9, hw⟩ := hw
      refine va_iald hx hb hK hP 3 0 rfl rfl hi9 dC_base_36 ?_
      refine lv_topi (fun x6_10 ex6_10 => ?_)
      have hw := hw x6_10 ex6_10
      refine lv_istore (lv' := [(6, .int x6_10), (0, .ref (a 0)), (1, .int p1), (2, .int p2), (3, .int p3), (4, .int p4), (5, .int p5)]) hx hb dC_base_37 hl (by decide) rfl (fun ls hl => ?_)
      refine lv_iload hx hb dC_base_39 (lv_at hl 0 rfl) ?_
      refine lv_iconst (v := 1) hx hb dC_base_41 (by decide) ?_
      refine lv_icmp_lt (tgt := 52) hx hb dC_base_42 (by decide) (fun c11 => ?_) (fun c11 => ?_)
      · have hw := hw.1 c11
        refine lv_iload hx hb dC_base_52 (lv_at hl 0 rfl) ?_
        refine lv_iconst (v := 2) hx hb dC_base_54 (by decide) ?_
        refine lv_icmp_lt (tgt := 76) hx hb dC_base_55 (by decide) (fun c12 => ?_) (fun c12 => ?_)
        · have hw := hw.1 c12
          refine lv_iload hx hb dC_base_76 (lv_at hl 6 rfl) ?_
          rcases hw with hw | hw
          rotate_left
          · exact ct_v (va_runS (As := [.int p5]) (rest := []) ⟨hx, hb, hml, hown, hts⟩ (met0_C_checkRuleCost l dC dI a cA sa p5 n_6 f_7 _ hw) (cwS 1 hts (wb_S wt_270 wt_271 wt_27 wt_272) rfl rfl rfl (by decide +kernel) ⟨Nat.le_of_ble_eq_true rfl, Nat.le_of_ble_eq_true rfl⟩) (ct_pre hK hP (hDa _ _) hZ hS hA) rfl rfl hl.1 rfl (lv_room (Nat.le_of_ble_eq_true rfl)) dC_base_78 ⟨Nat.le_of_ble_eq_true rfl, Nat.le_of_ble_eq_true rfl⟩) (hDa _ _) hS hA (fun _ _ _ _ hw _ _ => False.elim hw)
          refine ct_v (va_runS (As := [.int p5]) (rest := []) ⟨hx, hb, hml, hown, hts⟩ (met0_C_checkRuleCost l dC dI a cA sa p5 n_6 f_7 _ hw) (cwS 1 hts (wb_S wt_270 wt_271 wt_27 wt_272) rfl rfl rfl (by decide +kernel) ⟨Nat.le_of_ble_eq_true rfl, Nat.le_of_ble_eq_true rfl⟩) (ct_pre hK hP (hDa _ _) hZ hS hA) rfl rfl hl.1 rfl (lv_room (Nat.le_of_ble_eq_true rfl)) dC_base_78 ⟨Nat.le_of_ble_eq_true rfl, Nat.le_of_ble_eq_true rfl⟩) (hDa _ _) hS hA (fun n_14 f_15 H locs hw hP hS => ?_)
          refine lv_aload_n hx hb dC_base_81 rfl (lv_at hl 1 rfl) ?_
          rcases hw with hw | hw
          rotate_left
          · exact ct_v (va_runV (As := []) (rest := []) ⟨hx, hb, hml, hown, hts⟩ (met0_C_checkRoomForRule l dC dI a cA sa n_14 f_15 _ hw) (cwV 0 hts (wb_V wt_274 wt_276 wt_1 wt_27 wt_277) rfl rfl rfl (by decide +kernel) ⟨Nat.le_of_ble_eq_true rfl, Nat.le_of_ble_eq_true rfl⟩) (ct_preV hK hP (hDa _ _) hZ hS hA (va_recv hK hP (ci := 0) (q0 := 0) rfl rfl)) rfl rfl hl.1 rfl (lv_room (Nat.le_of_ble_eq_true rfl)) dC_base_82 ⟨Nat.le_of_ble_eq_true rfl, Nat.le_of_ble_eq_true rfl⟩) (hDa _ _) hS hA (fun _ _ _ _ hw _ _ => False.elim hw)
          refine ct_v (va_runV (As := []) (rest := []) ⟨hx, hb, hml, hown, hts⟩ (met0_C_checkRoomForRule l dC dI a cA sa n_14 f_15 _ hw) (cwV 0 hts (wb_V wt_274 wt_276 wt_1 wt_27 wt_277) rfl rfl rfl (by decide +kernel) ⟨Nat.le_of_ble_eq_true rfl, Nat.le_of_ble_eq_true rfl⟩) (ct_preV hK hP (hDa _ _) hZ hS hA (va_recv hK hP (ci := 0) (q0 := 0) rfl rfl)) rfl rfl hl.1 rfl (lv_room (Nat.le_of_ble_eq_true rfl)) dC_base_82 ⟨Nat.le_of_ble_eq_true rfl, Nat.le_of_ble_eq_true rfl⟩) (hDa _ _) hS hA (fun n_17 f_18 H locs hw hP hS => ?_)
          refine lv_aload_n hx hb dC_base_85 rfl (lv_at hl 1 rfl) ?_
          refine va_get (D := (dC, dI)) (ci := 0) (v := .ref (a 2)) (C := RC) (T := TC) (N := 2) hx hb hts (fun w h => List.mem_cons_of_mem _ (inC w h)) hown hK hP 0 rfl rfl 1 (by decide) (hts (.fieldLink RC 21 "CoverTrees" "forest" "LCoverTrees$Forest;") (List.mem_cons_of_mem _ wt_135)) (fun _ h9 => h9) rfl dC_base_86 ?_
          refine lv_iconst (v := 0) hx hb dC_base_89 (by decide) ?_
          refine va_put (D := (dC, dI)) (ci := 2) (v := .int 0) (ty := .int) (C := RF) (T := TF) (N := 11) hx hb hts (fun w h => List.mem_cons_of_mem _ (inF w h)) tyF tyF_ok nmF hown hK hP (hDa _ _) hS 2 rfl rfl 1 (by decide) (hts (.fieldLink RC 25 "CoverTrees$Forest" "count" "I") (List.mem_cons_of_mem _ wt_95)) (fun _ h9 => h9) rfl (by decide +kernel) rfl rfl (Nat.le_of_ble_eq_true rfl) dC_base_90 (fun H locs hP _ hS => ?_)
          obtain ⟨n_19, en_19⟩ : ∃ z : ctN, z = va_up n_17 2 0 := ⟨_, rfl⟩
          have hw := hw n_19 en_19
          have hP : va_P (dC, dI) vcl (ctW a cA n_19 f_18) H := by rw [en_19]; exact hP
          refine lv_aload_n hx hb dC_base_93 rfl (lv_at hl 1 rfl) ?_
          refine va_get (D := (dC, dI)) (ci := 0) (v := .ref (a 1)) (C := RC) (T := TC) (N := 2) hx hb hts (fun w h => List.mem_cons_of_mem _ (inC w h)) hown hK hP 0 rfl rfl 0 (by decide) (hts (.fieldLink RC 12 "CoverTrees" "grammar" "LCoverTrees$Grammar;") (List.mem_cons_of_mem _ wt_134)) (fun _ h9 => h9) rfl dC_base_94 ?_
          refine lv_iload_n hx hb dC_base_97 rfl (lv_at hl 2 rfl) ?_
          refine lv_iload_n hx hb dC_base_98 rfl (lv_at hl 3 rfl) ?_
          refine lv_iload hx hb dC_base_99 (lv_at hl 0 rfl) ?_
          refine lv_iconst (v := 1) hx hb dC_base_101 (by decide) ?_
          refine lv_icmp_lt (tgt := 109) hx hb dC_base_102 (by decide) (fun c20 => ?_) (fun c20 => ?_)
          · have hw := hw.1 c20
            refine lv_iconst (v := 0) hx hb dC_base_109 (by decide) ?_
            refine lv_iload hx hb dC_base_110 (lv_at hl 0 rfl) ?_
            refine lv_iconst (v := 2) hx hb dC_base_112 (by decide) ?_
            refine lv_icmp_lt (tgt := 121) hx hb dC_base_113 (by decide) (fun c21 => ?_) (fun c21 => ?_)
            · have hw := hw.1 c21
              refine lv_iconst (v := 0) hx hb dC_base_121 (by decide) ?_
              refine lv_iload hx hb dC_base_122 (lv_at hl 6 rfl) ?_
              refine ct_i (va_runV (As := [.int p1, .int p2, .int 0, .int 0, .int p5]) (rest := []) ⟨hx, hb, hml, hown, hts⟩ (met_G_addRule l dC dI a cA sa p1 p2 0 0 p5 n_19 f_18 _ hw) (cwV 5 hts (wb_V wt_279 wt_280 wt_281 wt_28 wt_282) rfl rfl rfl (by decide +kernel) ⟨Nat.le_of_ble_eq_true rfl, Nat.le_of_ble_eq_true rfl⟩) (ct_preV hK hP (hDa _ _) hZ hS hA (va_recv hK hP (ci := 1) (q0 := 1) rfl rfl)) rfl rfl hl.1 rfl (lv_room (Nat.le_of_ble_eq_true rfl)) dC_base_124 ⟨Nat.le_of_ble_eq_true rfl, Nat.le_of_ble_eq_true rfl⟩) (hDa _ _) hS hA (fun r22 n_23 f_24 H locs hw hP hS => ?_)
              exact W.iret (v := r22) hx hb hr (fun t ht hW => ⟨⟨r22, (n_23, f_24), rfl, hw, ct_mkB ht hP⟩, hS.F ht⟩) hS.2.2 dC_base_127
            · have hw := hw.2 c21
              refine lv_iload hx hb dC_base_116 (lv_at hl 5 rfl) ?_
              refine lv_goto (tgt := 122) hx hb dC_base_118 (by decide) ?_
              refine lv_iload hx hb dC_base_122 (lv_at hl 6 rfl) ?_
              refine ct_i (va_runV (As := [.int p1, .int p2, .int 0, .int p4, .int p5]) (rest := []) ⟨hx, hb, hml, hown, hts⟩ (met_G_addRule l dC dI a cA sa p1 p2 0 p4 p5 n_19 f_18 _ hw) (cwV 5 hts (wb_V wt_279 wt_280 wt_281 wt_28 wt_282) rfl rfl rfl (by decide +kernel) ⟨Nat.le_of_ble_eq_true rfl, Nat.le_of_ble_eq_true rfl⟩) (ct_preV hK hP (hDa _ _) hZ hS hA (va_recv hK hP (ci := 1) (q0 := 1) rfl rfl)) rfl rfl hl.1 rfl (lv_room (Nat.le_of_ble_eq_true rfl)) dC_base_124 ⟨Nat.le_of_ble_eq_true rfl, Nat.le_of_ble_eq_true rfl⟩) (hDa _ _) hS hA (fun r25 n_26 f_27 H locs hw hP hS => ?_)
              exact W.iret (v := r25) hx hb hr (fun t ht hW => ⟨⟨r25, (n_26, f_27), rfl, hw, ct_mkB ht hP⟩, hS.F ht⟩) hS.2.2 dC_base_127
          · have hw := hw.2 c20
            refine lv_iload_n hx hb dC_base_105 rfl (lv_at hl 4 rfl) ?_
            refine lv_goto (tgt := 110) hx hb dC_base_106 (by decide) ?_
            refine lv_iload hx hb dC_base_110 (lv_at hl 0 rfl) ?_
            refine lv_iconst (v := 2) hx hb dC_base_112 (by decide) ?_
            refine lv_icmp_lt (tgt := 121) hx hb dC_base_113 (by decide) (fun c28 => ?_) (fun c28 => ?_)
            · have hw := hw.1 c28
              refine lv_iconst (v := 0) hx hb dC_base_121 (by decide) ?_
              refine lv_iload hx hb dC_base_122 (lv_at hl 6 rfl) ?_
              refine ct_i (va_runV (As := [.int p1, .int p2, .int p3, .int 0, .int p5]) (rest := []) ⟨hx, hb, hml, hown, hts⟩ (met_G_addRule l dC dI a cA sa p1 p2 p3 0 p5 n_19 f_18 _ hw) (cwV 5 hts (wb_V wt_279 wt_280 wt_281 wt_28 wt_282) rfl rfl rfl (by decide +kernel) ⟨Nat.le_of_ble_eq_true rfl, Nat.le_of_ble_eq_true rfl⟩) (ct_preV hK hP (hDa _ _) hZ hS hA (va_recv hK hP (ci := 1) (q0 := 1) rfl rfl)) rfl rfl hl.1 rfl (lv_room (Nat.le_of_ble_eq_true rfl)) dC_base_124 ⟨Nat.le_of_ble_eq_true rfl, Nat.le_of_ble_eq_true rfl⟩) (hDa _ _) hS hA (fun r29 n_30 f_31 H locs hw hP hS => ?_)
              exact W.iret (v := r29) hx hb hr (fun t ht hW => ⟨⟨r29, (n_30, f_31), rfl, hw, ct_mkB ht hP⟩, hS.F ht⟩) hS.2.2 dC_base_127
            · have hw := hw.2 c28
              refine lv_iload hx hb dC_base_116 (lv_at hl 5 rfl) ?_
              refine lv_goto (tgt := 122) hx hb dC_base_118 (by decide) ?_
              refine lv_iload hx hb dC_base_122 (lv_at hl 6 rfl) ?_
              refine ct_i (va_runV (As := [.int p1, .int p2, .int p3, .int p4, .int p5]) (rest := []) ⟨hx, hb, hml, hown, hts⟩ (met_G_addRule l dC dI a cA sa p1 p2 p3 p4 p5 n_19 f_18 _ hw) (cwV 5 hts (wb_V wt_279 wt_280 wt_281 wt_28 wt_282) rfl rfl rfl (by decide +kernel) ⟨Nat.le_of_ble_eq_true rfl, Nat.le_of_ble_eq_true rfl⟩) (ct_preV hK hP (hDa _ _) hZ hS hA (va_recv hK hP (ci := 1) (q0 := 1) rfl rfl)) rfl rfl hl.1 rfl (lv_room (Nat.le_of_ble_eq_true rfl)) dC_base_124 ⟨Nat.le_of_ble_eq_true rfl, Nat.le_of_ble_eq_true rfl⟩) (hDa _ _) hS hA (fun r32 n_33 f_34 H locs hw hP hS => ?_)
              exact W.iret (v := r32) hx hb hr (fun t ht hW => ⟨⟨r32, (n_33, f_34), rfl, hw, ct_mkB ht hP⟩, hS.F ht⟩) hS.2.2 dC_base_127
        · have hw := hw.2 c12
          refine lv_iload hx hb dC_base_58 (lv_at hl 5 rfl) ?_
          refine ct_i (va_runS (As := [.int p4]) (rest := []) ⟨hx, hb, hml, hown, hts⟩ (met_C_isGoal l dC dI a cA sa p4 n_6 f_7 _ hw) (cwS 1 hts (wb_S wt_261 wt_262 wt_27 wt_263) rfl rfl rfl (by decide +kernel) ⟨Nat.le_of_ble_eq_true rfl, Nat.le_of_ble_eq_true rfl⟩) (ct_pre hK hP (hDa _ _) hZ hS hA) rfl rfl hl.1 rfl (lv_room (Nat.le_of_ble_eq_true rfl)) dC_base_60 ⟨Nat.le_of_ble_eq_true rfl, Nat.le_of_ble_eq_true rfl⟩) (hDa _ _) hS hA (fun r35 n_36 f_37 H locs hw hP hS => ?_)
          refine lv_if_ne (tgt := 76) hx hb dC_base_63 (by decide) (fun c38 => ?_) (fun c38 => ?_)
          · have hw := hw.1 c38
            refine lv_iload hx hb dC_base_76 (lv_at hl 6 rfl) ?_
            rcases hw with hw | hw
            rotate_left
            · exact ct_v (va_runS (As := [.int p5]) (rest := []) ⟨hx, hb, hml, hown, hts⟩ (met0_C_checkRuleCost l dC dI a cA sa p5 n_36 f_37 _ hw) (cwS 1 hts (wb_S wt_270 wt_271 wt_27 wt_272) rfl rfl rfl (by decide +kernel) ⟨Nat.le_of_ble_eq_true rfl, Nat.le_of_ble_eq_true rfl⟩) (ct_pre hK hP (hDa _ _) hZ hS hA) rfl rfl hl.1 rfl (lv_room (Nat.le_of_ble_eq_true rfl)) dC_base_78 ⟨Nat.le_of_ble_eq_true rfl, Nat.le_of_ble_eq_true rfl⟩) (hDa _ _) hS hA (fun _ _ _ _ hw _ _ => False.elim hw)
            refine ct_v (va_runS (As := [.int p5]) (rest := []) ⟨hx, hb, hml, hown, hts⟩ (met0_C_checkRuleCost l dC dI a cA sa p5 n_36 f_37 _ hw) (cwS 1 hts (wb_S wt_270 wt_271 wt_27 wt_272) rfl rfl rfl (by decide +kernel) ⟨Nat.le_of_ble_eq_true rfl, Nat.le_of_ble_eq_true rfl⟩) (ct_pre hK hP (hDa _ _) hZ hS hA) rfl rfl hl.1 rfl (lv_room (Nat.le_of_ble_eq_true rfl)) dC_base_78 ⟨Nat.le_of_ble_eq_true rfl, Nat.le_of_ble_eq_true rfl⟩) (hDa _ _) hS hA (fun n_40 f_41 H locs hw hP hS => ?_)
            refine lv_aload_n hx hb dC_base_81 rfl (lv_at hl 1 rfl) ?_
            rcases hw with hw | hw
            rotate_left
            · exact ct_v (va_runV (As := []) (rest := []) ⟨hx, hb, hml, hown, hts⟩ (met0_C_checkRoomForRule l dC dI a cA sa n_40 f_41 _ hw) (cwV 0 hts (wb_V wt_274 wt_276 wt_1 wt_27 wt_277) rfl rfl rfl (by decide +kernel) ⟨Nat.le_of_ble_eq_true rfl, Nat.le_of_ble_eq_true rfl⟩) (ct_preV hK hP (hDa _ _) hZ hS hA (va_recv hK hP (ci := 0) (q0 := 0) rfl rfl)) rfl rfl hl.1 rfl (lv_room (Nat.le_of_ble_eq_true rfl)) dC_base_82 ⟨Nat.le_of_ble_eq_true rfl, Nat.le_of_ble_eq_true rfl⟩) (hDa _ _) hS hA (fun _ _ _ _ hw _ _ => False.elim hw)
            refine ct_v (va_runV (As := []) (rest := []) ⟨hx, hb, hml, hown, hts⟩ (met0_C_checkRoomForRule l dC dI a cA sa n_40 f_41 _ hw) (cwV 0 hts (wb_V wt_274 wt_276 wt_1 wt_27 wt_277) rfl rfl rfl (by decide +kernel) ⟨Nat.le_of_ble_eq_true rfl, Nat.le_of_ble_eq_true rfl⟩) (ct_preV hK hP (hDa _ _) hZ hS hA (va_recv hK hP (ci := 0) (q0 := 0) rfl rfl)) rfl rfl hl.1 rfl (lv_room (Nat.le_of_ble_eq_true rfl)) dC_base_82 ⟨Nat.le_of_ble_eq_true rfl, Nat.le_of_ble_eq_true rfl⟩) (hDa _ _) hS hA (fun n_43 f_44 H locs hw hP hS => ?_)
            refine lv_aload_n hx hb dC_base_85 rfl (lv_at hl 1 rfl) ?_
            refine va_get (D := (dC, dI)) (ci := 0) (v := .ref (a 2)) (C := RC) (T := TC) (N := 2) hx hb hts (fun w h => List.mem_cons_of_mem _ (inC w h)) hown hK hP 0 rfl rfl 1 (by decide) (hts (.fieldLink RC 21 "CoverTrees" "forest" "LCoverTrees$Forest;") (List.mem_cons_of_mem _ wt_135)) (fun _ h9 => h9) rfl dC_base_86 ?_
            refine lv_iconst (v := 0) hx hb dC_base_89 (by decide) ?_
            refine va_put (D := (dC, dI)) (ci := 2) (v := .int 0) (ty := .int) (C := RF) (T := TF) (N := 11) hx hb hts (fun w h => List.mem_cons_of_mem _ (inF w h)) tyF tyF_ok nmF hown hK hP (hDa _ _) hS 2 rfl rfl 1 (by decide) (hts (.fieldLink RC 25 "CoverTrees$Forest" "count" "I") (List.mem_cons_of_mem _ wt_95)) (fun _ h9 => h9) rfl (by decide +kernel) rfl rfl (Nat.le_of_ble_eq_true rfl) dC_base_90 (fun H locs hP _ hS => ?_)
            obtain ⟨n_45, en_45⟩ : ∃ z : ctN, z = va_up n_43 2 0 := ⟨_, rfl⟩
            have hw := hw n_45 en_45
            have hP : va_P (dC, dI) vcl (ctW a cA n_45 f_44) H := by rw [en_45]; exact hP
            refine lv_aload_n hx hb dC_base_93 rfl (lv_at hl 1 rfl) ?_
            refine va_get (D := (dC, dI)) (ci := 0) (v := .ref (a 1)) (C := RC) (T := TC) (N := 2) hx hb hts (fun w h => List.mem_cons_of_mem _ (inC w h)) hown hK hP 0 rfl rfl 0 (by decide) (hts (.fieldLink RC 12 "CoverTrees" "grammar" "LCoverTrees$Grammar;") (List.mem_cons_of_mem _ wt_134)) (fun _ h9 => h9) rfl dC_base_94 ?_
            refine lv_iload_n hx hb dC_base_97 rfl (lv_at hl 2 rfl) ?_
            refine lv_iload_n hx hb dC_base_98 rfl (lv_at hl 3 rfl) ?_
            refine lv_iload hx hb dC_base_99 (lv_at hl 0 rfl) ?_
            refine lv_iconst (v := 1) hx hb dC_base_101 (by decide) ?_
            refine lv_icmp_lt (tgt := 109) hx hb dC_base_102 (by decide) (fun c46 => ?_) (fun c46 => ?_)
            · have hw := hw.1 c46
              refine lv_iconst (v := 0) hx hb dC_base_109 (by decide) ?_
              refine lv_iload hx hb dC_base_110 (lv_at hl 0 rfl) ?_
              refine lv_iconst (v := 2) hx hb dC_base_112 (by decide) ?_
              refine lv_icmp_lt (tgt := 121) hx hb dC_base_113 (by decide) (fun c47 => ?_) (fun c47 => ?_)
              · have hw := hw.1 c47
                refine lv_iconst (v := 0) hx hb dC_base_121 (by decide) ?_
                refine lv_iload hx hb dC_base_122 (lv_at hl 6 rfl) ?_
                refine ct_i (va_runV (As := [.int p1, .int p2, .int 0, .int 0, .int p5]) (rest := []) ⟨hx, hb, hml, hown, hts⟩ (met_G_addRule l dC dI a cA sa p1 p2 0 0 p5 n_45 f_44 _ hw) (cwV 5 hts (wb_V wt_279 wt_280 wt_281 wt_28 wt_282) rfl rfl rfl (by decide +kernel) ⟨Nat.le_of_ble_eq_true rfl, Nat.le_of_ble_eq_true rfl⟩) (ct_preV hK hP (hDa _ _) hZ hS hA (va_recv hK hP (ci := 1) (q0 := 1) rfl rfl)) rfl rfl hl.1 rfl (lv_room (Nat.le_of_ble_eq_true rfl)) dC_base_124 ⟨Nat.le_of_ble_eq_true rfl, Nat.le_of_ble_eq_true rfl⟩) (hDa _ _) hS hA (fun r48 n_49 f_50 H locs hw hP hS => ?_)
                exact W.iret (v := r48) hx hb hr (fun t ht hW => ⟨⟨r48, (n_49, f_50), rfl, hw, ct_mkB ht hP⟩, hS.F ht⟩) hS.2.2 dC_base_127
              · have hw := hw.2 c47
                refine lv_iload hx hb dC_base_116 (lv_at hl 5 rfl) ?_
                refine lv_goto (tgt := 122) hx hb dC_base_118 (by decide) ?_
                refine lv_iload hx hb dC_base_122 (lv_at hl 6 rfl) ?_
                refine ct_i (va_runV (As := [.int p1, .int p2, .int 0, .int p4, .int p5]) (rest := []) ⟨hx, hb, hml, hown, hts⟩ (met_G_addRule l dC dI a cA sa p1 p2 0 p4 p5 n_45 f_44 _ hw) (cwV 5 hts (wb_V wt_279 wt_280 wt_281 wt_28 wt_282) rfl rfl rfl (by decide +kernel) ⟨Nat.le_of_ble_eq_true rfl, Nat.le_of_ble_eq_true rfl⟩) (ct_preV hK hP (hDa _ _) hZ hS hA (va_recv hK hP (ci := 1) (q0 := 1) rfl rfl)) rfl rfl hl.1 rfl (lv_room (Nat.le_of_ble_eq_true rfl)) dC_base_124 ⟨Nat.le_of_ble_eq_true rfl, Nat.le_of_ble_eq_true rfl⟩) (hDa _ _) hS hA (fun r51 n_52 f_53 H locs hw hP hS => ?_)
                exact W.iret (v := r51) hx hb hr (fun t ht hW => ⟨⟨r51, (n_52, f_53), rfl, hw, ct_mkB ht hP⟩, hS.F ht⟩) hS.2.2 dC_base_127
            · have hw := hw.2 c46
              refine lv_iload_n hx hb dC_base_105 rfl (lv_at hl 4 rfl) ?_
              refine lv_goto (tgt := 110) hx hb dC_base_106 (by decide) ?_
              refine lv_iload hx hb dC_base_110 (lv_at hl 0 rfl) ?_
              refine lv_iconst (v := 2) hx hb dC_base_112 (by decide) ?_
              refine lv_icmp_lt (tgt := 121) hx hb dC_base_113 (by decide) (fun c54 => ?_) (fun c54 => ?_)
              · have hw := hw.1 c54
                refine lv_iconst (v := 0) hx hb dC_base_121 (by decide) ?_
                refine lv_iload hx hb dC_base_122 (lv_at hl 6 rfl) ?_
                refine ct_i (va_runV (As := [.int p1, .int p2, .int p3, .int 0, .int p5]) (rest := []) ⟨hx, hb, hml, hown, hts⟩ (met_G_addRule l dC dI a cA sa p1 p2 p3 0 p5 n_45 f_44 _ hw) (cwV 5 hts (wb_V wt_279 wt_280 wt_281 wt_28 wt_282) rfl rfl rfl (by decide +kernel) ⟨Nat.le_of_ble_eq_true rfl, Nat.le_of_ble_eq_true rfl⟩) (ct_preV hK hP (hDa _ _) hZ hS hA (va_recv hK hP (ci := 1) (q0 := 1) rfl rfl)) rfl rfl hl.1 rfl (lv_room (Nat.le_of_ble_eq_true rfl)) dC_base_124 ⟨Nat.le_of_ble_eq_true rfl, Nat.le_of_ble_eq_true rfl⟩) (hDa _ _) hS hA (fun r55 n_56 f_57 H locs hw hP hS => ?_)
                exact W.iret (v := r55) hx hb hr (fun t ht hW => ⟨⟨r55, (n_56, f_57), rfl, hw, ct_mkB ht hP⟩, hS.F ht⟩) hS.2.2 dC_base_127
              · have hw := hw.2 c54
                refine lv_iload hx hb dC_base_116 (lv_at hl 5 rfl) ?_
                refine lv_goto (tgt := 122) hx hb dC_base_118 (by decide) ?_
                refine lv_iload hx hb dC_base_122 (lv_at hl 6 rfl) ?_
                refine ct_i (va_runV (As := [.int p1, .int p2, .int p3, .int p4, .int p5]) (rest := []) ⟨hx, hb, hml, hown, hts⟩ (met_G_addRule l dC dI a cA sa p1 p2 p3 p4 p5 n_45 f_44 _ hw) (cwV 5 hts (wb_V wt_279 wt_280 wt_281 wt_28 wt_282) rfl rfl rfl (by decide +kernel) ⟨Nat.le_of_ble_eq_true rfl, Nat.le_of_ble_eq_true rfl⟩) (ct_preV hK hP (hDa _ _) hZ hS hA (va_recv hK hP (ci := 1) (q0 := 1) rfl rfl)) rfl rfl hl.1 rfl (lv_room (Nat.le_of_ble_eq_true rfl)) dC_base_124 ⟨Nat.le_of_ble_eq_true rfl, Nat.le_of_ble_eq_true rfl⟩) (hDa _ _) hS hA (fun r58 n_59 f_60 H locs hw hP hS => ?_)
                exact W.iret (v := r58) hx hb hr (fun t ht hW => ⟨⟨r58, (n_59, f_60), rfl, hw, ct_mkB ht hP⟩, hS.F ht⟩) hS.2.2 dC_base_127
          · have hw := hw.2 c38
            exact False.elim hw
      · have hw := hw.2 c11
        refine lv_iload_n hx hb dC_base_45 rfl (lv_at hl 4 rfl) ?_
        refine ct_i (va_runS (As := [.int p3]) (rest := []) ⟨hx, hb, hml, hown, hts⟩ (met_C_isGoal l dC dI a cA sa p3 n_6 f_7 _ hw) (cwS 1 hts (wb_S wt_261 wt_262 wt_27 wt_263) rfl rfl rfl (by decide +kernel) ⟨Nat.le_of_ble_eq_true rfl, Nat.le_of_ble_eq_true rfl⟩) (ct_pre hK hP (hDa _ _) hZ hS hA) rfl rfl hl.1 rfl (lv_room (Nat.le_of_ble_eq_true rfl)) dC_base_46 ⟨Nat.le_of_ble_eq_true rfl, Nat.le_of_ble_eq_true rfl⟩) (hDa _ _) hS hA (fun r61 n_62 f_63 H locs hw hP hS => ?_)
        refine lv_if_eq (tgt := 66) hx hb dC_base_49 (by decide) (fun c64 => ?_) (fun c64 => ?_)
        · have hw := hw.1 c64
          exact False.elim hw
        · have hw := hw.2 c64
          refine lv_iload hx hb dC_base_52 (lv_at hl 0 rfl) ?_
          refine lv_iconst (v := 2) hx hb dC_base_54 (by decide) ?_
          refine lv_icmp_lt (tgt := 76) hx hb dC_base_55 (by decide) (fun c65 => ?_) (fun c65 => ?_)
          · have hw := hw.1 c65
            refine lv_iload hx hb dC_base_76 (lv_at hl 6 rfl) ?_
            rcases hw with hw | hw
            rotate_left
            · exact ct_v (va_runS (As := [.int p5]) (rest := []) ⟨hx, hb, hml, hown, hts⟩ (met0_C_checkRuleCost l dC dI a cA sa p5 n_62 f_63 _ hw) (cwS 1 hts (wb_S wt_270 wt_271 wt_27 wt_272) rfl rfl rfl (by decide +kernel) ⟨Nat.le_of_ble_eq_true rfl, Nat.le_of_ble_eq_true rfl⟩) (ct_pre hK hP (hDa _ _) hZ hS hA) rfl rfl hl.1 rfl (lv_room (Nat.le_of_ble_eq_true rfl)) dC_base_78 ⟨Nat.le_of_ble_eq_true rfl, Nat.le_of_ble_eq_true rfl⟩) (hDa _ _) hS hA (fun _ _ _ _ hw _ _ => False.elim hw)
            refine ct_v (va_runS (As := [.int p5]) (rest := []) ⟨hx, hb, hml, hown, hts⟩ (met0_C_checkRuleCost l dC dI a cA sa p5 n_62 f_63 _ hw) (cwS 1 hts (wb_S wt_270 wt_271 wt_27 wt_272) rfl rfl rfl (by decide +kernel) ⟨Nat.le_of_ble_eq_true rfl, Nat.le_of_ble_eq_true rfl⟩) (ct_pre hK hP (hDa _ _) hZ hS hA) rfl rfl hl.1 rfl (lv_room (Nat.le_of_ble_eq_true rfl)) dC_base_78 ⟨Nat.le_of_ble_eq_true rfl, Nat.le_of_ble_eq_true rfl⟩) (hDa _ _) hS hA (fun n_67 f_68 H locs hw hP hS => ?_)
            refine lv_aload_n hx hb dC_base_81 rfl (lv_at hl 1 rfl) ?_
            rcases hw with hw | hw
            rotate_left
            · exact ct_v (va_runV (As := []) (rest := []) ⟨hx, hb, hml, hown, hts⟩ (met0_C_checkRoomForRule l dC dI a cA sa n_67 f_68 _ hw) (cwV 0 hts (wb_V wt_274 wt_276 wt_1 wt_27 wt_277) rfl rfl rfl (by decide +kernel) ⟨Nat.le_of_ble_eq_true rfl, Nat.le_of_ble_eq_true rfl⟩) (ct_preV hK hP (hDa _ _) hZ hS hA (va_recv hK hP (ci := 0) (q0 := 0) rfl rfl)) rfl rfl hl.1 rfl (lv_room (Nat.le_of_ble_eq_true rfl)) dC_base_82 ⟨Nat.le_of_ble_eq_true rfl, Nat.le_of_ble_eq_true rfl⟩) (hDa _ _) hS hA (fun _ _ _ _ hw _ _ => False.elim hw)
            refine ct_v (va_runV (As := []) (rest := []) ⟨hx, hb, hml, hown, hts⟩ (met0_C_checkRoomForRule l dC dI a cA sa n_67 f_68 _ hw) (cwV 0 hts (wb_V wt_274 wt_276 wt_1 wt_27 wt_277) rfl rfl rfl (by decide +kernel) ⟨Nat.le_of_ble_eq_true rfl, Nat.le_of_ble_eq_true rfl⟩) (ct_preV hK hP (hDa _ _) hZ hS hA (va_recv hK hP (ci := 0) (q0 := 0) rfl rfl)) rfl rfl hl.1 rfl (lv_room (Nat.le_of_ble_eq_true rfl)) dC_base_82 ⟨Nat.le_of_ble_eq_true rfl, Nat.le_of_ble_eq_true rfl⟩) (hDa _ _) hS hA (fun n_70 f_71 H locs hw hP hS => ?_)
            refine lv_aload_n hx hb dC_base_85 rfl (lv_at hl 1 rfl) ?_
            refine va_get (D := (dC, dI)) (ci := 0) (v := .ref (a 2)) (C := RC) (T := TC) (N := 2) hx hb hts (fun w h => List.mem_cons_of_mem _ (inC w h)) hown hK hP 0 rfl rfl 1 (by decide) (hts (.fieldLink RC 21 "CoverTrees" "forest" "LCoverTrees$Forest;") (List.mem_cons_of_mem _ wt_135)) (fun _ h9 => h9) rfl dC_base_86 ?_
            refine lv_iconst (v := 0) hx hb dC_base_89 (by decide) ?_
            refine va_put (D := (dC, dI)) (ci := 2) (v := .int 0) (ty := .int) (C := RF) (T := TF) (N := 11) hx hb hts (fun w h => List.mem_cons_of_mem _ (inF w h)) tyF tyF_ok nmF hown hK hP (hDa _ _) hS 2 rfl rfl 1 (by decide) (hts (.fieldLink RC 25 "CoverTrees$Forest" "count" "I") (List.mem_cons_of_mem _ wt_95)) (fun _ h9 => h9) rfl (by decide +kernel) rfl rfl (Nat.le_of_ble_eq_true rfl) dC_base_90 (fun H locs hP _ hS => ?_)
            obtain ⟨n_72, en_72⟩ : ∃ z : ctN, z = va_up n_70 2 0 := ⟨_, rfl⟩
            have hw := hw n_72 en_72
            have hP : va_P (dC, dI) vcl (ctW a cA n_72 f_71) H := by rw [en_72]; exact hP
            refine lv_aload_n hx hb dC_base_93 rfl (lv_at hl 1 rfl) ?_
            refine va_get (D := (dC, dI)) (ci := 0) (v := .ref (a 1)) (C := RC) (T := TC) (N := 2) hx hb hts (fun w h => List.mem_cons_of_mem _ (inC w h)) hown hK hP 0 rfl rfl 0 (by decide) (hts (.fieldLink RC 12 "CoverTrees" "grammar" "LCoverTrees$Grammar;") (List.mem_cons_of_mem _ wt_134)) (fun _ h9 => h9) rfl dC_base_94 ?_
            refine lv_iload_n hx hb dC_base_97 rfl (lv_at hl 2 rfl) ?_
            refine lv_iload_n hx hb dC_base_98 rfl (lv_at hl 3 rfl) ?_
            refine lv_iload hx hb dC_base_99 (lv_at hl 0 rfl) ?_
            refine lv_iconst (v := 1) hx hb dC_base_101 (by decide) ?_
            refine lv_icmp_lt (tgt := 109) hx hb dC_base_102 (by decide) (fun c73 => ?_) (fun c73 => ?_)
            · have hw := hw.1 c73
              refine lv_iconst (v := 0) hx hb dC_base_109 (by decide) ?_
              refine lv_iload hx hb dC_base_110 (lv_at hl 0 rfl) ?_
              refine lv_iconst (v := 2) hx hb dC_base_112 (by decide) ?_
              refine lv_icmp_lt (tgt := 121) hx hb dC_base_113 (by decide) (fun c74 => ?_) (fun c74 => ?_)
              · have hw := hw.1 c74
                refine lv_iconst (v := 0) hx hb dC_base_121 (by decide) ?_
                refine lv_iload hx hb dC_base_122 (lv_at hl 6 rfl) ?_
                refine ct_i (va_runV (As := [.int p1, .int p2, .int 0, .int 0, .int p5]) (rest := []) ⟨hx, hb, hml, hown, hts⟩ (met_G_addRule l dC dI a cA sa p1 p2 0 0 p5 n_72 f_71 _ hw) (cwV 5 hts (wb_V wt_279 wt_280 wt_281 wt_28 wt_282) rfl rfl rfl (by decide +kernel) ⟨Nat.le_of_ble_eq_true rfl, Nat.le_of_ble_eq_true rfl⟩) (ct_preV hK hP (hDa _ _) hZ hS hA (va_recv hK hP (ci := 1) (q0 := 1) rfl rfl)) rfl rfl hl.1 rfl (lv_room (Nat.le_of_ble_eq_true rfl)) dC_base_124 ⟨Nat.le_of_ble_eq_true rfl, Nat.le_of_ble_eq_true rfl⟩) (hDa _ _) hS hA (fun r75 n_76 f_77 H locs hw hP hS => ?_)
                exact W.iret (v := r75) hx hb hr (fun t ht hW => ⟨⟨r75, (n_76, f_77), rfl, hw, ct_mkB ht hP⟩, hS.F ht⟩) hS.2.2 dC_base_127
              · have hw := hw.2 c74
                refine lv_iload hx hb dC_base_116 (lv_at hl 5 rfl) ?_
                refine lv_goto (tgt := 122) hx hb dC_base_118 (by decide) ?_
                refine lv_iload hx hb dC_base_122 (lv_at hl 6 rfl) ?_
                refine ct_i (va_runV (As := [.int p1, .int p2, .int 0, .int p4, .int p5]) (rest := []) ⟨hx, hb, hml, hown, hts⟩ (met_G_addRule l dC dI a cA sa p1 p2 0 p4 p5 n_72 f_71 _ hw) (cwV 5 hts (wb_V wt_279 wt_280 wt_281 wt_28 wt_282) rfl rfl rfl (by decide +kernel) ⟨Nat.le_of_ble_eq_true rfl, Nat.le_of_ble_eq_true rfl⟩) (ct_preV hK hP (hDa _ _) hZ hS hA (va_recv hK hP (ci := 1) (q0 := 1) rfl rfl)) rfl rfl hl.1 rfl (lv_room (Nat.le_of_ble_eq_true rfl)) dC_base_124 ⟨Nat.le_of_ble_eq_true rfl, Nat.le_of_ble_eq_true rfl⟩) (hDa _ _) hS hA (fun r78 n_79 f_80 H locs hw hP hS => ?_)
                exact W.iret (v := r78) hx hb hr (fun t ht hW => ⟨⟨r78, (n_79, f_80), rfl, hw, ct_mkB ht hP⟩, hS.F ht⟩) hS.2.2 dC_base_127
            · have hw := hw.2 c73
              refine lv_iload_n hx hb dC_base_105 rfl (lv_at hl 4 rfl) ?_
              refine lv_goto (tgt := 110) hx hb dC_base_106 (by decide) ?_
              refine lv_iload hx hb dC_base_110 (lv_at hl 0 rfl) ?_
              refine lv_iconst (v := 2) hx hb dC_base_112 (by decide) ?_
              refine lv_icmp_lt (tgt := 121) hx hb dC_base_113 (by decide) (fun c81 => ?_) (fun c81 => ?_)
              · have hw := hw.1 c81
                refine lv_iconst (v := 0) hx hb dC_base_121 (by decide) ?_
                refine lv_iload hx hb dC_base_122 (lv_at hl 6 rfl) ?_
                refine ct_i (va_runV (As := [.int p1, .int p2, .int p3, .int 0, .int p5]) (rest := []) ⟨hx, hb, hml, hown, hts⟩ (met_G_addRule l dC dI a cA sa p1 p2 p3 0 p5 n_72 f_71 _ hw) (cwV 5 hts (wb_V wt_279 wt_280 wt_281 wt_28 wt_282) rfl rfl rfl (by decide +kernel) ⟨Nat.le_of_ble_eq_true rfl, Nat.le_of_ble_eq_true rfl⟩) (ct_preV hK hP (hDa _ _) hZ hS hA (va_recv hK hP (ci := 1) (q0 := 1) rfl rfl)) rfl rfl hl.1 rfl (lv_room (Nat.le_of_ble_eq_true rfl)) dC_base_124 ⟨Nat.le_of_ble_eq_true rfl, Nat.le_of_ble_eq_true rfl⟩) (hDa _ _) hS hA (fun r82 n_83 f_84 H locs hw hP hS => ?_)
                exact W.iret (v := r82) hx hb hr (fun t ht hW => ⟨⟨r82, (n_83, f_84), rfl, hw, ct_mkB ht hP⟩, hS.F ht⟩) hS.2.2 dC_base_127
              · have hw := hw.2 c81
                refine lv_iload hx hb dC_base_116 (lv_at hl 5 rfl) ?_
                refine lv_goto (tgt := 122) hx hb dC_base_118 (by decide) ?_
                refine lv_iload hx hb dC_base_122 (lv_at hl 6 rfl) ?_
                refine ct_i (va_runV (As := [.int p1, .int p2, .int p3, .int p4, .int p5]) (rest := []) ⟨hx, hb, hml, hown, hts⟩ (met_G_addRule l dC dI a cA sa p1 p2 p3 p4 p5 n_72 f_71 _ hw) (cwV 5 hts (wb_V wt_279 wt_280 wt_281 wt_28 wt_282) rfl rfl rfl (by decide +kernel) ⟨Nat.le_of_ble_eq_true rfl, Nat.le_of_ble_eq_true rfl⟩) (ct_preV hK hP (hDa _ _) hZ hS hA (va_recv hK hP (ci := 1) (q0 := 1) rfl rfl)) rfl rfl hl.1 rfl (lv_room (Nat.le_of_ble_eq_true rfl)) dC_base_124 ⟨Nat.le_of_ble_eq_true rfl, Nat.le_of_ble_eq_true rfl⟩) (hDa _ _) hS hA (fun r85 n_86 f_87 H locs hw hP hS => ?_)
                exact W.iret (v := r85) hx hb hr (fun t ht hW => ⟨⟨r85, (n_86, f_87), rfl, hw, ct_mkB ht hP⟩, hS.F ht⟩) hS.2.2 dC_base_127
          · have hw := hw.2 c65
            refine lv_iload hx hb dC_base_58 (lv_at hl 5 rfl) ?_
            refine ct_i (va_runS (As := [.int p4]) (rest := []) ⟨hx, hb, hml, hown, hts⟩ (met_C_isGoal l dC dI a cA sa p4 n_62 f_63 _ hw) (cwS 1 hts (wb_S wt_261 wt_262 wt_27 wt_263) rfl rfl rfl (by decide +kernel) ⟨Nat.le_of_ble_eq_true rfl, Nat.le_of_ble_eq_true rfl⟩) (ct_pre hK hP (hDa _ _) hZ hS hA) rfl rfl hl.1 rfl (lv_room (Nat.le_of_ble_eq_true rfl)) dC_base_60 ⟨Nat.le_of_ble_eq_true rfl, Nat.le_of_ble_eq_true rfl⟩) (hDa _ _) hS hA (fun r88 n_89 f_90 H locs hw hP hS => ?_)
            refine lv_if_ne (tgt := 76) hx hb dC_base_63 (by decide) (fun c91 => ?_) (fun c91 => ?_)
            · have hw := hw.1 c91
              refine lv_iload hx hb dC_base_76 (lv_at hl 6 rfl) ?_
              rcases hw with hw | hw
              rotate_left
              · exact ct_v (va_runS (As := [.int p5]) (rest := []) ⟨hx, hb, hml, hown, hts⟩ (met0_C_checkRuleCost l dC dI a cA sa p5 n_89 f_90 _ hw) (cwS 1 hts (wb_S wt_270 wt_271 wt_27 wt_272) rfl rfl rfl (by decide +kernel) ⟨Nat.le_of_ble_eq_true rfl, Nat.le_of_ble_eq_true rfl⟩) (ct_pre hK hP (hDa _ _) hZ hS hA) rfl rfl hl.1 rfl (lv_room (Nat.le_of_ble_eq_true rfl)) dC_base_78 ⟨Nat.le_of_ble_eq_true rfl, Nat.le_of_ble_eq_true rfl⟩) (hDa _ _) hS hA (fun _ _ _ _ hw _ _ => False.elim hw)
              refine ct_v (va_runS (As := [.int p5]) (rest := []) ⟨hx, hb, hml, hown, hts⟩ (met0_C_checkRuleCost l dC dI a cA sa p5 n_89 f_90 _ hw) (cwS 1 hts (wb_S wt_270 wt_271 wt_27 wt_272) rfl rfl rfl (by decide +kernel) ⟨Nat.le_of_ble_eq_true rfl, Nat.le_of_ble_eq_true rfl⟩) (ct_pre hK hP (hDa _ _) hZ hS hA) rfl rfl hl.1 rfl (lv_room (Nat.le_of_ble_eq_true rfl)) dC_base_78 ⟨Nat.le_of_ble_eq_true rfl, Nat.le_of_ble_eq_true rfl⟩) (hDa _ _) hS hA (fun n_93 f_94 H locs hw hP hS => ?_)
              refine lv_aload_n hx hb dC_base_81 rfl (lv_at hl 1 rfl) ?_
              rcases hw with hw | hw
              rotate_left
              · exact ct_v (va_runV (As := []) (rest := []) ⟨hx, hb, hml, hown, hts⟩ (met0_C_checkRoomForRule l dC dI a cA sa n_93 f_94 _ hw) (cwV 0 hts (wb_V wt_274 wt_276 wt_1 wt_27 wt_277) rfl rfl rfl (by decide +kernel) ⟨Nat.le_of_ble_eq_true rfl, Nat.le_of_ble_eq_true rfl⟩) (ct_preV hK hP (hDa _ _) hZ hS hA (va_recv hK hP (ci := 0) (q0 := 0) rfl rfl)) rfl rfl hl.1 rfl (lv_room (Nat.le_of_ble_eq_true rfl)) dC_base_82 ⟨Nat.le_of_ble_eq_true rfl, Nat.le_of_ble_eq_true rfl⟩) (hDa _ _) hS hA (fun _ _ _ _ hw _ _ => False.elim hw)
              refine ct_v (va_runV (As := []) (rest := []) ⟨hx, hb, hml, hown, hts⟩ (met0_C_checkRoomForRule l dC dI a cA sa n_93 f_94 _ hw) (cwV 0 hts (wb_V wt_274 wt_276 wt_1 wt_27 wt_277) rfl rfl rfl (by decide +kernel) ⟨Nat.le_of_ble_eq_true rfl, Nat.le_of_ble_eq_true rfl⟩) (ct_preV hK hP (hDa _ _) hZ hS hA (va_recv hK hP (ci := 0) (q0 := 0) rfl rfl)) rfl rfl hl.1 rfl (lv_room (Nat.le_of_ble_eq_true rfl)) dC_base_82 ⟨Nat.le_of_ble_eq_true rfl, Nat.le_of_ble_eq_true rfl⟩) (hDa _ _) hS hA (fun n_96 f_97 H locs hw hP hS => ?_)
              refine lv_aload_n hx hb dC_base_85 rfl (lv_at hl 1 rfl) ?_
              refine va_get (D := (dC, dI)) (ci := 0) (v := .ref (a 2)) (C := RC) (T := TC) (N := 2) hx hb hts (fun w h => List.mem_cons_of_mem _ (inC w h)) hown hK hP 0 rfl rfl 1 (by decide) (hts (.fieldLink RC 21 "CoverTrees" "forest" "LCoverTrees$Forest;") (List.mem_cons_of_mem _ wt_135)) (fun _ h9 => h9) rfl dC_base_86 ?_
              refine lv_iconst (v := 0) hx hb dC_base_89 (by decide) ?_
              refine va_put (D := (dC, dI)) (ci := 2) (v := .int 0) (ty := .int) (C := RF) (T := TF) (N := 11) hx hb hts (fun w h => List.mem_cons_of_mem _ (inF w h)) tyF tyF_ok nmF hown hK hP (hDa _ _) hS 2 rfl rfl 1 (by decide) (hts (.fieldLink RC 25 "CoverTrees$Forest" "count" "I") (List.mem_cons_of_mem _ wt_95)) (fun _ h9 => h9) rfl (by decide +kernel) rfl rfl (Nat.le_of_ble_eq_true rfl) dC_base_90 (fun H locs hP _ hS => ?_)
              obtain ⟨n_98, en_98⟩ : ∃ z : ctN, z = va_up n_96 2 0 := ⟨_, rfl⟩
              have hw := hw n_98 en_98
              have hP : va_P (dC, dI) vcl (ctW a cA n_98 f_97) H := by rw [en_98]; exact hP
              refine lv_aload_n hx hb dC_base_93 rfl (lv_at hl 1 rfl) ?_
              refine va_get (D := (dC, dI)) (ci := 0) (v := .ref (a 1)) (C := RC) (T := TC) (N := 2) hx hb hts (fun w h => List.mem_cons_of_mem _ (inC w h)) hown hK hP 0 rfl rfl 0 (by decide) (hts (.fieldLink RC 12 "CoverTrees" "grammar" "LCoverTrees$Grammar;") (List.mem_cons_of_mem _ wt_134)) (fun _ h9 => h9) rfl dC_base_94 ?_
              refine lv_iload_n hx hb dC_base_97 rfl (lv_at hl 2 rfl) ?_
              refine lv_iload_n hx hb dC_base_98 rfl (lv_at hl 3 rfl) ?_
              refine lv_iload hx hb dC_base_99 (lv_at hl 0 rfl) ?_
              refine lv_iconst (v := 1) hx hb dC_base_101 (by decide) ?_
              refine lv_icmp_lt (tgt := 109) hx hb dC_base_102 (by decide) (fun c99 => ?_) (fun c99 => ?_)
              · have hw := hw.1 c99
                refine lv_iconst (v := 0) hx hb dC_base_109 (by decide) ?_
                refine lv_iload hx hb dC_base_110 (lv_at hl 0 rfl) ?_
                refine lv_iconst (v := 2) hx hb dC_base_112 (by decide) ?_
                refine lv_icmp_lt (tgt := 121) hx hb dC_base_113 (by decide) (fun c100 => ?_) (fun c100 => ?_)
                · have hw := hw.1 c100
                  refine lv_iconst (v := 0) hx hb dC_base_121 (by decide) ?_
                  refine lv_iload hx hb dC_base_122 (lv_at hl 6 rfl) ?_
                  refine ct_i (va_runV (As := [.int p1, .int p2, .int 0, .int 0, .int p5]) (rest := []) ⟨hx, hb, hml, hown, hts⟩ (met_G_addRule l dC dI a cA sa p1 p2 0 0 p5 n_98 f_97 _ hw) (cwV 5 hts (wb_V wt_279 wt_280 wt_281 wt_28 wt_282) rfl rfl rfl (by decide +kernel) ⟨Nat.le_of_ble_eq_true rfl, Nat.le_of_ble_eq_true rfl⟩) (ct_preV hK hP (hDa _ _) hZ hS hA (va_recv hK hP (ci := 1) (q0 := 1) rfl rfl)) rfl rfl hl.1 rfl (lv_room (Nat.le_of_ble_eq_true rfl)) dC_base_124 ⟨Nat.le_of_ble_eq_true rfl, Nat.le_of_ble_eq_true rfl⟩) (hDa _ _) hS hA (fun r101 n_102 f_103 H locs hw hP hS => ?_)
                  exact W.iret (v := r101) hx hb hr (fun t ht hW => ⟨⟨r101, (n_102, f_103), rfl, hw, ct_mkB ht hP⟩, hS.F ht⟩) hS.2.2 dC_base_127
                · have hw := hw.2 c100
                  refine lv_iload hx hb dC_base_116 (lv_at hl 5 rfl) ?_
                  refine lv_goto (tgt := 122) hx hb dC_base_118 (by decide) ?_
                  refine lv_iload hx hb dC_base_122 (lv_at hl 6 rfl) ?_
                  refine ct_i (va_runV (As := [.int p1, .int p2, .int 0, .int p4, .int p5]) (rest := []) ⟨hx, hb, hml, hown, hts⟩ (met_G_addRule l dC dI a cA sa p1 p2 0 p4 p5 n_98 f_97 _ hw) (cwV 5 hts (wb_V wt_279 wt_280 wt_281 wt_28 wt_282) rfl rfl rfl (by decide +kernel) ⟨Nat.le_of_ble_eq_true rfl, Nat.le_of_ble_eq_true rfl⟩) (ct_preV hK hP (hDa _ _) hZ hS hA (va_recv hK hP (ci := 1) (q0 := 1) rfl rfl)) rfl rfl hl.1 rfl (lv_room (Nat.le_of_ble_eq_true rfl)) dC_base_124 ⟨Nat.le_of_ble_eq_true rfl, Nat.le_of_ble_eq_true rfl⟩) (hDa _ _) hS hA (fun r104 n_105 f_106 H locs hw hP hS => ?_)
                  exact W.iret (v := r104) hx hb hr (fun t ht hW => ⟨⟨r104, (n_105, f_106), rfl, hw, ct_mkB ht hP⟩, hS.F ht⟩) hS.2.2 dC_base_127
              · have hw := hw.2 c99
                refine lv_iload_n hx hb dC_base_105 rfl (lv_at hl 4 rfl) ?_
                refine lv_goto (tgt := 110) hx hb dC_base_106 (by decide) ?_
                refine lv_iload hx hb dC_base_110 (lv_at hl 0 rfl) ?_
                refine lv_iconst (v := 2) hx hb dC_base_112 (by decide) ?_
                refine lv_icmp_lt (tgt := 121) hx hb dC_base_113 (by decide) (fun c107 => ?_) (fun c107 => ?_)
                · have hw := hw.1 c107
                  refine lv_iconst (v := 0) hx hb dC_base_121 (by decide) ?_
                  refine lv_iload hx hb dC_base_122 (lv_at hl 6 rfl) ?_
                  refine ct_i (va_runV (As := [.int p1, .int p2, .int p3, .int 0, .int p5]) (rest := []) ⟨hx, hb, hml, hown, hts⟩ (met_G_addRule l dC dI a cA sa p1 p2 p3 0 p5 n_98 f_97 _ hw) (cwV 5 hts (wb_V wt_279 wt_280 wt_281 wt_28 wt_282) rfl rfl rfl (by decide +kernel) ⟨Nat.le_of_ble_eq_true rfl, Nat.le_of_ble_eq_true rfl⟩) (ct_preV hK hP (hDa _ _) hZ hS hA (va_recv hK hP (ci := 1) (q0 := 1) rfl rfl)) rfl rfl hl.1 rfl (lv_room (Nat.le_of_ble_eq_true rfl)) dC_base_124 ⟨Nat.le_of_ble_eq_true rfl, Nat.le_of_ble_eq_true rfl⟩) (hDa _ _) hS hA (fun r108 n_109 f_110 H locs hw hP hS => ?_)
                  exact W.iret (v := r108) hx hb hr (fun t ht hW => ⟨⟨r108, (n_109, f_110), rfl, hw, ct_mkB ht hP⟩, hS.F ht⟩) hS.2.2 dC_base_127
                · have hw := hw.2 c107
                  refine lv_iload hx hb dC_base_116 (lv_at hl 5 rfl) ?_
                  refine lv_goto (tgt := 122) hx hb dC_base_118 (by decide) ?_
                  refine lv_iload hx hb dC_base_122 (lv_at hl 6 rfl) ?_
                  refine ct_i (va_runV (As := [.int p1, .int p2, .int p3, .int p4, .int p5]) (rest := []) ⟨hx, hb, hml, hown, hts⟩ (met_G_addRule l dC dI a cA sa p1 p2 p3 p4 p5 n_98 f_97 _ hw) (cwV 5 hts (wb_V wt_279 wt_280 wt_281 wt_28 wt_282) rfl rfl rfl (by decide +kernel) ⟨Nat.le_of_ble_eq_true rfl, Nat.le_of_ble_eq_true rfl⟩) (ct_preV hK hP (hDa _ _) hZ hS hA (va_recv hK hP (ci := 1) (q0 := 1) rfl rfl)) rfl rfl hl.1 rfl (lv_room (Nat.le_of_ble_eq_true rfl)) dC_base_124 ⟨Nat.le_of_ble_eq_true rfl, Nat.le_of_ble_eq_true rfl⟩) (hDa _ _) hS hA (fun r111 n_112 f_113 H locs hw hP hS => ?_)
                  exact W.iret (v := r111) hx hb hr (fun t ht hW => ⟨⟨r111, (n_112, f_113), rfl, hw, ct_mkB ht hP⟩, hS.F ht⟩) hS.2.2 dC_base_127
            · have hw := hw.2 c91
              exact False.elim hw
    · have hw := hw.2 c8
      exact False.elim hw
set_option maxHeartbeats 4000000 in
set_option maxRecDepth 100000 in
theorem metx_C_base (l : Launch) (hl9 : l.stackTraces = false) (dC : Nat → ClassId) (dI : Nat → Nat → Nat) (a : Nat → Nat) (cA : Nat → ClassId) (sa : Nat → Nat) (p1 : Int32) (p2 : Int32) (p3 : Int32) (p4 : Int32) (p5 : Int32) (n : ctN) (f : ctF) (sz : Nat) {xp : String → ctN → ctF → Prop} (hw : wp_C_base pFi xp p1 p2 p3 p4 p5 n f) : vx_Met l yC_base wsC_base ({ frames := 7, cells := 1, slots := 6, locals := 110 } : Room) (ct_Pc dC dI a cA sa [.ref (a 0), .int p1, .int p2, .int p3, .int p4, .int p5] n f sz) (va_Qi (fun (r : Int32) (u : ctN × ctF) => pFi r u.1 u.2) (ct_B dC dI a cA) (va_A (ctW a cA n f) sz)) (vx_X (fun (_ : ctN × ctF) => True) (fun E u t => xp E u.1 u.2 ∧ ct_B dC dI a cA u t) (va_A (ctW a cA n f) sz)) 1 6 (va_A (ctW a cA n f) sz) := by
  refine vx_ofW (cc := cC_base) (maxL := 7) (ret := (some .int)) (by decide) rfl ?_
  intro p e s m args below meth c s₁ B hml htb hv
  obtain ⟨rfl, hsz, hP, hK, hD0, hZ⟩ := hv
  have hx := B.exec
  have hb := B.bytes
  have hr := B.returns
  have hts := atoms_spec (ws := wsC_base) B.pre
  have hown : s.vm.findClass RC = some m.cls := findClass_of_methodNamed B.named
  have hlocks := B.notSynchronized
  subst hsz
  have hD := hD0.self (sz := s.heap.size)
  generalize hAe : va_A (ctW a cA n f) s.heap.size = A at hD hZ ⊢
  have hDa : ∀ (n : ctN) (f : ctF), va_D A (ctW a cA n f) := fun _ _ => ct_D hD
  have hA : ∀ q : Nat, s.heap.size ≤ q → A q := fun q h => by rw [← hAe]; exact Or.inr h
  have hS : va_S A s.heap s.heap [] := va_S.rf
  have hl := lv_entry ([.ref (a 0), .int p1, .int p2, .int p3, .int p4, .int p5]) (n := 7) (Nat.le_of_ble_eq_true rfl)
  rw [lg_entry_eq]
  generalize (lg_sl ([.ref (a 0), .int p1, .int p2, .int p3, .int p4, .int p5]) ++ List.replicate (7 - (lg_sl ([.ref (a 0), .int p1, .int p2, .int p3, .int p4, .int p5])).length) Slot.unset).toArray = ls at hl ⊢
  have hl : lv_has ls 7 [(0, .ref (a 0)), (1, .int p1), (2, .int p2), (3, .int p3), (4, .int p4), (5, .int p5)] := hl
  unfold wp_C_base at hw
  refine lv_iload_n hx hb dC_base_0 rfl (lv_at hl 1 rfl) ?_
  refine ct_i (va_runS (As := [.int p1]) (rest := []) ⟨hx, hb, hml, hown, hts⟩ (met_C_isGoal l dC dI a cA sa p1 n f _ hw) (cwS 1 hts (wb_S wt_261 wt_262 wt_27 wt_263) rfl rfl rfl (by decide +kernel) ⟨Nat.le_of_ble_eq_true rfl, Nat.le_of_ble_eq_true rfl⟩) (ct_pre hK hP (hDa _ _) hZ hS hA) rfl rfl hl.1 rfl (lv_room (Nat.le_of_ble_eq_true rfl)) dC_base_1 ⟨Nat.le_of_ble_eq_true rfl, Nat.le_of_ble_eq_true rfl⟩) (hDa _ _) hS hA (fun r1 n_2 f_3 H locs hw hP hS => ?_)
  refine lv_if_eq (tgt := 18) hx hb dC_base_4 (by decide) (fun c4 => ?_) (fun c4 => ?_)
  · have hw := hw.1 c4
    exact vx_throwS (own := RC) (cls := "java/lang/IllegalArgumentException") (text := "no such goal or operator") (names := ["java/lang/RuntimeException", "java/lang/Exception"]) (ik := 35) (is := 58) (ic := 39) (sa := sa 2) hx hb hl9 hown (by decide +kernel) (by decide +kernel) (hts (.classLink RC 35 "java/lang/IllegalArgumentException") (List.mem_cons_of_mem _ wt_166)) (hts (.initialized "java/lang/IllegalArgumentException") (List.mem_cons_of_mem _ wt_34)) hZ.2.2.2.2.2.2.2.2.2.1 (vx_hat (L := vx_atS RC 39 "java/lang/IllegalArgumentException" ["java/lang/RuntimeException", "java/lang/Exception"]) (B := [.castable "java/lang/IllegalArgumentException" "java/lang/IllegalArgumentException", .declares ⟨"java/lang/RuntimeException", "<init>", "(Ljava/lang/String;)V"⟩, .declares ⟨"java/lang/Exception", "<init>", "(Ljava/lang/String;)V"⟩, .declares ⟨"java/lang/Throwable", "<init>", "(Ljava/lang/String;)V"⟩]) (fun w hw => hts w (List.mem_cons_of_mem _ (at_C_39 w hw))) bd_C_39 (vx_c (va_Nw.use rfl hZ.2.1) (vx_c (va_Nw.use rfl hZ.2.2.2.2.1) (vx_c (va_Nw.use rfl hZ.2.2.2.2.2.1) (vx_c (va_Nw.use rfl hZ.2.2.2.2.2.2.1) (vx_n)))))) gd_C_39 hZ.2.2.2.2.2.2.2.2.2.2.2.2.2.2.2.2.2.2.2.2.2.2.2.1 hZ.2.2.2.2.2.2.2.2.2.2.2.2.2.2.2.2.2.2.2.2.2.2.2.2 hS (hl.1.trans hml.symm) dC_base_18 dC_base_21 dC_base_22 dC_base_24 dC_base_27 (fun x h => (htb x h).elim) (Nat.le_of_ble_eq_true rfl) (Nat.le_of_ble_eq_true rfl) (Nat.le_of_ble_eq_true rfl) (Nat.le_of_ble_eq_true rfl) hlocks (fun t _ h1 h2 => ⟨(n_2, f_3), trivial, ⟨hw, (ct_thr hP hS h1 h2).1⟩, (ct_thr hP hS h1 h2).2⟩) hS.2.2 (Nat.le_of_ble_eq_true rfl) (Nat.le_of_ble_eq_true rfl)
  · have hw := hw.2 c4
    refine lv_aload_n hx hb dC_base_7 rfl (lv_at hl 0 rfl) ?_
    refine va_get (D := (dC, dI)) (ci := 0) (v := .ref (a 1)) (C := RC) (T := TC) (N := 2) hx hb hts (fun w h => List.mem_cons_of_mem _ (inC w h)) hown hK hP 0 rfl rfl 0 (by decide) (hts (.fieldLink RC 12 "CoverTrees" "grammar" "LCoverTrees$Grammar;") (List.mem_cons_of_mem _ wt_134)) (fun _ h9 => h9) rfl dC_base_8 ?_
    refine lv_iload_n hx hb dC_base_11 rfl (lv_at hl 2 rfl) ?_
    refine ct_i (va_runV (As := [.int p2]) (rest := []) ⟨hx, hb, hml, hown, hts⟩ (met_G_hasOperator l dC dI a cA sa p2 n_2 f_3 _ hw) (cwV 1 hts (wb_V wt_264 wt_265 wt_266 wt_28 wt_267) rfl rfl rfl (by decide +kernel) ⟨Nat.le_of_ble_eq_true rfl, Nat.le_of_ble_eq_true rfl⟩) (ct_preV hK hP (hDa _ _) hZ hS hA (va_recv hK hP (ci := 1) (q0 := 1) rfl rfl)) rfl rfl hl.1 rfl (lv_room (Nat.le_of_ble_eq_true rfl)) dC_base_12 ⟨Nat.le_of_ble_eq_true rfl, Nat.le_of_ble_eq_true rfl⟩) (hDa _ _) hS hA (fun r5 n_6 f_7 H locs hw hP hS => ?_)
    refine lv_if_ne (tgt := 28) hx hb dC_base_15 (by decide) (fun c8 => ?_) (fun c8 => ?_)
    · have hw := hw.1 c8
      refine lv_aload_n hx hb dC_base_28 rfl (lv_at hl 0 rfl) ?_
      refine va_get (D := (dC, dI)) (ci := 0) (v := .ref (a 1)) (C := RC) (T := TC) (N := 2) hx hb hts (fun w h => List.mem_cons_of_mem _ (inC w h)) hown hK hP 0 rfl rfl 0 (by decide) (hts (.fieldLink RC 12 "CoverTrees" "grammar" "LCoverTrees$Grammar;") (List.mem_cons_of_mem _ wt_134)) (fun _ h9 => h9) rfl dC_base_29 ?_
      refine va_get (D := (dC, dI)) (ci := 1) (v := .ref (a 3)) (C := RG) (T := TG) (N := 8) hx hb hts (fun w h => List.mem_cons_of_mem _ (inG w h)) hown hK hP 1 rfl rfl 1 (by decide) (hts (.fieldLink RC 60 "CoverTrees$Grammar" "parts" "[I") (List.mem_cons_of_mem _ wt_55)) (fun _ h9 => h9) rfl dC_base_32 ?_
      refine lv_iload_n hx hb dC_base_35 rfl (lv_at hl 2 rfl) ?_
      obtain ⟨hi9, hw⟩ := hw
      refine va_iald hx hb hK hP 3 0 rfl rfl hi9 dC_base_36 ?_
      refine lv_topi (fun x6_10 ex6_10 => ?_)
      have hw := hw x6_10 ex6_10
      refine lv_istore (lv' := [(6, .int x6_10), (0, .ref (a 0)), (1, .int p1), (2, .int p2), (3, .int p3), (4, .int p4), (5, .int p5)]) hx hb dC_base_37 hl (by decide) rfl (fun ls hl => ?_)
      refine lv_iload hx hb dC_base_39 (lv_at hl 0 rfl) ?_
      refine lv_iconst (v := 1) hx hb dC_base_41 (by decide) ?_
      refine lv_icmp_lt (tgt := 52) hx hb dC_base_42 (by decide) (fun c11 => ?_) (fun c11 => ?_)
      · have hw := hw.1 c11
        refine lv_iload hx hb dC_base_52 (lv_at hl 0 rfl) ?_
        refine lv_iconst (v := 2) hx hb dC_base_54 (by decide) ?_
        refine lv_icmp_lt (tgt := 76) hx hb dC_base_55 (by decide) (fun c12 => ?_) (fun c12 => ?_)
        · have hw := hw.1 c12
          refine lv_iload hx hb dC_base_76 (lv_at hl 6 rfl) ?_
          rcases hw with hw | hw
          rotate_left
          · exact ct_xv (vx_runS (As := [.int p5]) (rest := []) ⟨hx, hb, hml, hown, hts⟩ (metx_C_checkRuleCost l hl9 dC dI a cA sa p5 n_6 f_7 _ hw) (cwS 1 hts (wb_S wt_270 wt_271 wt_27 wt_272) rfl rfl rfl (by decide +kernel) ⟨Nat.le_of_ble_eq_true rfl, Nat.le_of_ble_eq_true rfl⟩) (ct_pre hK hP (hDa _ _) hZ hS hA) rfl rfl hl.1 rfl (lv_room (Nat.le_of_ble_eq_true rfl)) dC_base_78 ⟨Nat.le_of_ble_eq_true rfl, Nat.le_of_ble_eq_true rfl⟩) (hDa _ _) hS hA (fun E ce q9 n' f' H locs hw hP hS h1 h2 h3 => by exact vx_out (fun x h => (htb x h).elim) hlocks h1 h2 h3 (fun t ht hvm => ⟨(n', f'), trivial, ⟨hw, ct_mkB ht hP⟩, hS.F ht⟩) hS.2.2 (Nat.le_of_ble_eq_true rfl) (Nat.le_of_ble_eq_true rfl)) (fun _ _ _ _ hw _ _ => False.elim hw)
          refine ct_v (va_runS (As := [.int p5]) (rest := []) ⟨hx, hb, hml, hown, hts⟩ (met0_C_checkRuleCost l dC dI a cA sa p5 n_6 f_7 _ hw) (cwS 1 hts (wb_S wt_270 wt_271 wt_27 wt_272) rfl rfl rfl (by decide +kernel) ⟨Nat.le_of_ble_eq_true rfl, Nat.le_of_ble_eq_true rfl⟩) (ct_pre hK hP (hDa _ _) hZ hS hA) rfl rfl hl.1 rfl (lv_room (Nat.le_of_ble_eq_true rfl)) dC_base_78 ⟨Nat.le_of_ble_eq_true rfl, Nat.le_of_ble_eq_true rfl⟩) (hDa _ _) hS hA (fun n_14 f_15 H locs hw hP hS => ?_)
          refine lv_aload_n hx hb dC_base_81 rfl (lv_at hl 1 rfl) ?_
          rcases hw with hw | hw
          rotate_left
          · exact ct_xv (vx_runV (As := []) (rest := []) ⟨hx, hb, hml, hown, hts⟩ (metx_C_checkRoomForRule l hl9 dC dI a cA sa n_14 f_15 _ hw) (cwV 0 hts (wb_V wt_274 wt_276 wt_1 wt_27 wt_277) rfl rfl rfl (by decide +kernel) ⟨Nat.le_of_ble_eq_true rfl, Nat.le_of_ble_eq_true rfl⟩) (ct_preV hK hP (hDa _ _) hZ hS hA (va_recv hK hP (ci := 0) (q0 := 0) rfl rfl)) rfl rfl hl.1 rfl (lv_room (Nat.le_of_ble_eq_true rfl)) dC_base_82 ⟨Nat.le_of_ble_eq_true rfl, Nat.le_of_ble_eq_true rfl⟩) (hDa _ _) hS hA (fun E ce q9 n' f' H locs hw hP hS h1 h2 h3 => by exact vx_out (fun x h => (htb x h).elim) hlocks h1 h2 h3 (fun t ht hvm => ⟨(n', f'), trivial, ⟨hw, ct_mkB ht hP⟩, hS.F ht⟩) hS.2.2 (Nat.le_of_ble_eq_true rfl) (Nat.le_of_ble_eq_true rfl)) (fun _ _ _ _ hw _ _ => False.elim hw)
          refine ct_v (va_runV (As := []) (rest := []) ⟨hx, hb, hml, hown, hts⟩ (met0_C_checkRoomForRule l dC dI a cA sa n_14 f_15 _ hw) (cwV 0 hts (wb_V wt_274 wt_276 wt_1 wt_27 wt_277) rfl rfl rfl (by decide +kernel) ⟨Nat.le_of_ble_eq_true rfl, Nat.le_of_ble_eq_true rfl⟩) (ct_preV hK hP (hDa _ _) hZ hS hA (va_recv hK hP (ci := 0) (q0 := 0) rfl rfl)) rfl rfl hl.1 rfl (lv_room (Nat.le_of_ble_eq_true rfl)) dC_base_82 ⟨Nat.le_of_ble_eq_true rfl, Nat.le_of_ble_eq_true rfl⟩) (hDa _ _) hS hA (fun n_17 f_18 H locs hw hP hS => ?_)
          refine lv_aload_n hx hb dC_base_85 rfl (lv_at hl 1 rfl) ?_
          refine va_get (D := (dC, dI)) (ci := 0) (v := .ref (a 2)) (C := RC) (T := TC) (N := 2) hx hb hts (fun w h => List.mem_cons_of_mem _ (inC w h)) hown hK hP 0 rfl rfl 1 (by decide) (hts (.fieldLink RC 21 "CoverTrees" "forest" "LCoverTrees$Forest;") (List.mem_cons_of_mem _ wt_135)) (fun _ h9 => h9) rfl dC_base_86 ?_
          refine lv_iconst (v := 0) hx hb dC_base_89 (by decide) ?_
          refine va_put (D := (dC, dI)) (ci := 2) (v := .int 0) (ty := .int) (C := RF) (T := TF) (N := 11) hx hb hts (fun w h => List.mem_cons_of_mem _ (inF w h)) tyF tyF_ok nmF hown hK hP (hDa _ _) hS 2 rfl rfl 1 (by decide) (hts (.fieldLink RC 25 "CoverTrees$Forest" "count" "I") (List.mem_cons_of_mem _ wt_95)) (fun _ h9 => h9) rfl (by decide +kernel) rfl rfl (Nat.le_of_ble_eq_true rfl) dC_base_90 (fun H locs hP _ hS => ?_)
          obtain ⟨n_19, en_19⟩ : ∃ z : ctN, z = va_up n_17 2 0 := ⟨_, rfl⟩
          have hw := hw n_19 en_19
          have hP : va_P (dC, dI) vcl (ctW a cA n_19 f_18) H := by rw [en_19]; exact hP
          refine lv_aload_n hx hb dC_base_93 rfl (lv_at hl 1 rfl) ?_
          refine va_get (D := (dC, dI)) (ci := 0) (v := .ref (a 1)) (C := RC) (T := TC) (N := 2) hx hb hts (fun w h => List.mem_cons_of_mem _ (inC w h)) hown hK hP 0 rfl rfl 0 (by decide) (hts (.fieldLink RC 12 "CoverTrees" "grammar" "LCoverTrees$Grammar;") (List.mem_cons_of_mem _ wt_134)) (fun _ h9 => h9) rfl dC_base_94 ?_
          refine lv_iload_n hx hb dC_base_97 rfl (lv_at hl 2 rfl) ?_
          refine lv_iload_n hx hb dC_base_98 rfl (lv_at hl 3 rfl) ?_
          refine lv_iload hx hb dC_base_99 (lv_at hl 0 rfl) ?_
          refine lv_iconst (v := 1) hx hb dC_base_101 (by decide) ?_
          refine lv_icmp_lt (tgt := 109) hx hb dC_base_102 (by decide) (fun c20 => ?_) (fun c20 => ?_)
          · have hw := hw.1 c20
            refine lv_iconst (v := 0) hx hb dC_base_109 (by decide) ?_
            refine lv_iload hx hb dC_base_110 (lv_at hl 0 rfl) ?_
            refine lv_iconst (v := 2) hx hb dC_base_112 (by decide) ?_
            refine lv_icmp_lt (tgt := 121) hx hb dC_base_113 (by decide) (fun c21 => ?_) (fun c21 => ?_)
            · have hw := hw.1 c21
              refine lv_iconst (v := 0) hx hb dC_base_121 (by decide) ?_
              refine lv_iload hx hb dC_base_122 (lv_at hl 6 rfl) ?_
              refine ct_i (va_runV (As := [.int p1, .int p2, .int 0, .int 0, .int p5]) (rest := []) ⟨hx, hb, hml, hown, hts⟩ (met_G_addRule l dC dI a cA sa p1 p2 0 0 p5 n_19 f_18 _ hw) (cwV 5 hts (wb_V wt_279 wt_280 wt_281 wt_28 wt_282) rfl rfl rfl (by decide +kernel) ⟨Nat.le_of_ble_eq_true rfl, Nat.le_of_ble_eq_true rfl⟩) (ct_preV hK hP (hDa _ _) hZ hS hA (va_recv hK hP (ci := 1) (q0 := 1) rfl rfl)) rfl rfl hl.1 rfl (lv_room (Nat.le_of_ble_eq_true rfl)) dC_base_124 ⟨Nat.le_of_ble_eq_true rfl, Nat.le_of_ble_eq_true rfl⟩) (hDa _ _) hS hA (fun r22 n_23 f_24 H locs hw hP hS => ?_)
              exact False.elim hw
            · have hw := hw.2 c21
              refine lv_iload hx hb dC_base_116 (lv_at hl 5 rfl) ?_
              refine lv_goto (tgt := 122) hx hb dC_base_118 (by decide) ?_
              refine lv_iload hx hb dC_base_122 (lv_at hl 6 rfl) ?_
              refine ct_i (va_runV (As := [.int p1, .int p2, .int 0, .int p4, .int p5]) (rest := []) ⟨hx, hb, hml, hown, hts⟩ (met_G_addRule l dC dI a cA sa p1 p2 0 p4 p5 n_19 f_18 _ hw) (cwV 5 hts (wb_V wt_279 wt_280 wt_281 wt_28 wt_282) rfl rfl rfl (by decide +kernel) ⟨Nat.le_of_ble_eq_true rfl, Nat.le_of_ble_eq_true rfl⟩) (ct_preV hK hP (hDa _ _) hZ hS hA (va_recv hK hP (ci := 1) (q0 := 1) rfl rfl)) rfl rfl hl.1 rfl (lv_room (Nat.le_of_ble_eq_true rfl)) dC_base_124 ⟨Nat.le_of_ble_eq_true rfl, Nat.le_of_ble_eq_true rfl⟩) (hDa _ _) hS hA (fun r25 n_26 f_27 H locs hw hP hS => ?_)
              exact False.elim hw
          · have hw := hw.2 c20
            refine lv_iload_n hx hb dC_base_105 rfl (lv_at hl 4 rfl) ?_
            refine lv_goto (tgt := 110) hx hb dC_base_106 (by decide) ?_
            refine lv_iload hx hb dC_base_110 (lv_at hl 0 rfl) ?_
            refine lv_iconst (v := 2) hx hb dC_base_112 (by decide) ?_
            refine lv_icmp_lt (tgt := 121) hx hb dC_base_113 (by decide) (fun c28 => ?_) (fun c28 => ?_)
            · have hw := hw.1 c28
              refine lv_iconst (v := 0) hx hb dC_base_121 (by decide) ?_
              refine lv_iload hx hb dC_base_122 (lv_at hl 6 rfl) ?_
              refine ct_i (va_runV (As := [.int p1, .int p2, .int p3, .int 0, .int p5]) (rest := []) ⟨hx, hb, hml, hown, hts⟩ (met_G_addRule l dC dI a cA sa p1 p2 p3 0 p5 n_19 f_18 _ hw) (cwV 5 hts (wb_V wt_279 wt_280 wt_281 wt_28 wt_282) rfl rfl rfl (by decide +kernel) ⟨Nat.le_of_ble_eq_true rfl, Nat.le_of_ble_eq_true rfl⟩) (ct_preV hK hP (hDa _ _) hZ hS hA (va_recv hK hP (ci := 1) (q0 := 1) rfl rfl)) rfl rfl hl.1 rfl (lv_room (Nat.le_of_ble_eq_true rfl)) dC_base_124 ⟨Nat.le_of_ble_eq_true rfl, Nat.le_of_ble_eq_true rfl⟩) (hDa _ _) hS hA (fun r29 n_30 f_31 H locs hw hP hS => ?_)
              exact False.elim hw
            · have hw := hw.2 c28
              refine lv_iload hx hb dC_base_116 (lv_at hl 5 rfl) ?_
              refine lv_goto (tgt := 122) hx hb dC_base_118 (by decide) ?_
              refine lv_iload hx hb dC_base_122 (lv_at hl 6 rfl) ?_
              refine ct_i (va_runV (As := [.int p1, .int p2, .int p3, .int p4, .int p5]) (rest := []) ⟨hx, hb, hml, hown, hts⟩ (met_G_addRule l dC dI a cA sa p1 p2 p3 p4 p5 n_19 f_18 _ hw) (cwV 5 hts (wb_V wt_279 wt_280 wt_281 wt_28 wt_282) rfl rfl rfl (by decide +kernel) ⟨Nat.le_of_ble_eq_true rfl, Nat.le_of_ble_eq_true rfl⟩) (ct_preV hK hP (hDa _ _) hZ hS hA (va_recv hK hP (ci := 1) (q0 := 1) rfl rfl)) rfl rfl hl.1 rfl (lv_room (Nat.le_of_ble_eq_true rfl)) dC_base_124 ⟨Nat.le_of_ble_eq_true rfl, Nat.le_of_ble_eq_true rfl⟩) (hDa _ _) hS hA (fun r32 n_33 f_34 H locs hw hP hS => ?_)
              exact False.elim hw
        · have hw := hw.2 c12
          refine lv_iload hx hb dC_base_58 (lv_at hl 5 rfl) ?_
          refine ct_i (va_runS (As := [.int p4]) (rest := []) ⟨hx, hb, hml, hown, hts⟩ (met_C_isGoal l dC dI a cA sa p4 n_6 f_7 _ hw) (cwS 1 hts (wb_S wt_261 wt_262 wt_27 wt_263) rfl rfl rfl (by decide +kernel) ⟨Nat.le_of_ble_eq_true rfl, Nat.le_of_ble_eq_true rfl⟩) (ct_pre hK hP (hDa _ _) hZ hS hA) rfl rfl hl.1 rfl (lv_room (Nat.le_of_ble_eq_true rfl)) dC_base_60 ⟨Nat.le_of_ble_eq_true rfl, Nat.le_of_ble_eq_true rfl⟩) (hDa _ _) hS hA (fun r35 n_36 f_37 H locs hw hP hS => ?_)
          refine lv_if_ne (tgt := 76) hx hb dC_base_63 (by decide) (fun c38 => ?_) (fun c38 => ?_)
          · have hw := hw.1 c38
            refine lv_iload hx hb dC_base_76 (lv_at hl 6 rfl) ?_
            rcases hw with hw | hw
            rotate_left
            · exact ct_xv (vx_runS (As := [.int p5]) (rest := []) ⟨hx, hb, hml, hown, hts⟩ (metx_C_checkRuleCost l hl9 dC dI a cA sa p5 n_36 f_37 _ hw) (cwS 1 hts (wb_S wt_270 wt_271 wt_27 wt_272) rfl rfl rfl (by decide +kernel) ⟨Nat.le_of_ble_eq_true rfl, Nat.le_of_ble_eq_true rfl⟩) (ct_pre hK hP (hDa _ _) hZ hS hA) rfl rfl hl.1 rfl (lv_room (Nat.le_of_ble_eq_true rfl)) dC_base_78 ⟨Nat.le_of_ble_eq_true rfl, Nat.le_of_ble_eq_true rfl⟩) (hDa _ _) hS hA (fun E ce q9 n' f' H locs hw hP hS h1 h2 h3 => by exact vx_out (fun x h => (htb x h).elim) hlocks h1 h2 h3 (fun t ht hvm => ⟨(n', f'), trivial, ⟨hw, ct_mkB ht hP⟩, hS.F ht⟩) hS.2.2 (Nat.le_of_ble_eq_true rfl) (Nat.le_of_ble_eq_true rfl)) (fun _ _ _ _ hw _ _ => False.elim hw)
            refine ct_v (va_runS (As := [.int p5]) (rest := []) ⟨hx, hb, hml, hown, hts⟩ (met0_C_checkRuleCost l dC dI a cA sa p5 n_36 f_37 _ hw) (cwS 1 hts (wb_S wt_270 wt_271 wt_27 wt_272) rfl rfl rfl (by decide +kernel) ⟨Nat.le_of_ble_eq_true rfl, Nat.le_of_ble_eq_true rfl⟩) (ct_pre hK hP (hDa _ _) hZ hS hA) rfl rfl hl.1 rfl (lv_room (Nat.le_of_ble_eq_true rfl)) dC_base_78 ⟨Nat.le_of_ble_eq_true rfl, Nat.le_of_ble_eq_true rfl⟩) (hDa _ _) hS hA (fun n_40 f_41 H locs hw hP hS => ?_)
            refine lv_aload_n hx hb dC_base_81 rfl (lv_at hl 1 rfl) ?_
            rcases hw with hw | hw
            rotate_left
            · exact ct_xv (vx_runV (As := []) (rest := []) ⟨hx, hb, hml, hown, hts⟩ (metx_C_checkRoomForRule l hl9 dC dI a cA sa n_40 f_41 _ hw) (cwV 0 hts (wb_V wt_274 wt_276 wt_1 wt_27 wt_277) rfl rfl rfl (by decide +kernel) ⟨Nat.le_of_ble_eq_true rfl, Nat.le_of_ble_eq_true rfl⟩) (ct_preV hK hP (hDa _ _) hZ hS hA (va_recv hK hP (ci := 0) (q0 := 0) rfl rfl)) rfl rfl hl.1 rfl (lv_room (Nat.le_of_ble_eq_true rfl)) dC_base_82 ⟨Nat.le_of_ble_eq_true rfl, Nat.le_of_ble_eq_true rfl⟩) (hDa _ _) hS hA (fun E ce q9 n' f' H locs hw hP hS h1 h2 h3 => by exact vx_out (fun x h => (htb x h).elim) hlocks h1 h2 h3 (fun t ht hvm => ⟨(n', f'), trivial, ⟨hw, ct_mkB ht hP⟩, hS.F ht⟩) hS.2.2 (Nat.le_of_ble_eq_true rfl) (Nat.le_of_ble_eq_true rfl)) (fun _ _ _ _ hw _ _ => False.elim hw)
            refine ct_v (va_runV (As := []) (rest := []) ⟨hx, hb, hml, hown, hts⟩ (met0_C_checkRoomForRule l dC dI a cA sa n_40 f_41 _ hw) (cwV 0 hts (wb_V wt_274 wt_276 wt_1 wt_27 wt_277) rfl rfl rfl (by decide +kernel) ⟨Nat.le_of_ble_eq_true rfl, Nat.le_of_ble_eq_true rfl⟩) (ct_preV hK hP (hDa _ _) hZ hS hA (va_recv hK hP (ci := 0) (q0 := 0) rfl rfl)) rfl rfl hl.1 rfl (lv_room (Nat.le_of_ble_eq_true rfl)) dC_base_82 ⟨Nat.le_of_ble_eq_true rfl, Nat.le_of_ble_eq_true rfl⟩) (hDa _ _) hS hA (fun n_43 f_44 H locs hw hP hS => ?_)
            refine lv_aload_n hx hb dC_base_85 rfl (lv_at hl 1 rfl) ?_
            refine va_get (D := (dC, dI)) (ci := 0) (v := .ref (a 2)) (C := RC) (T := TC) (N := 2) hx hb hts (fun w h => List.mem_cons_of_mem _ (inC w h)) hown hK hP 0 rfl rfl 1 (by decide) (hts (.fieldLink RC 21 "CoverTrees" "forest" "LCoverTrees$Forest;") (List.mem_cons_of_mem _ wt_135)) (fun _ h9 => h9) rfl dC_base_86 ?_
            refine lv_iconst (v := 0) hx hb dC_base_89 (by decide) ?_
            refine va_put (D := (dC, dI)) (ci := 2) (v := .int 0) (ty := .int) (C := RF) (T := TF) (N := 11) hx hb hts (fun w h => List.mem_cons_of_mem _ (inF w h)) tyF tyF_ok nmF hown hK hP (hDa _ _) hS 2 rfl rfl 1 (by decide) (hts (.fieldLink RC 25 "CoverTrees$Forest" "count" "I") (List.mem_cons_of_mem _ wt_95)) (fun _ h9 => h9) rfl (by decide +kernel) rfl rfl (Nat.le_of_ble_eq_true rfl) dC_base_90 (fun H locs hP _ hS => ?_)
            obtain ⟨n_45, en_45⟩ : ∃ z : ctN, z = va_up n_43 2 0 := ⟨_, rfl⟩
            have hw := hw n_45 en_45
            have hP : va_P (dC, dI) vcl (ctW a cA n_45 f_44) H := by rw [en_45]; exact hP
            refine lv_aload_n hx hb dC_base_93 rfl (lv_at hl 1 rfl) ?_
            refine va_get (D := (dC, dI)) (ci := 0) (v := .ref (a 1)) (C := RC) (T := TC) (N := 2) hx hb hts (fun w h => List.mem_cons_of_mem _ (inC w h)) hown hK hP 0 rfl rfl 0 (by decide) (hts (.fieldLink RC 12 "CoverTrees" "grammar" "LCoverTrees$Grammar;") (List.mem_cons_of_mem _ wt_134)) (fun _ h9 => h9) rfl dC_base_94 ?_
            refine lv_iload_n hx hb dC_base_97 rfl (lv_at hl 2 rfl) ?_
            refine lv_iload_n hx hb dC_base_98 rfl (lv_at hl 3 rfl) ?_
            refine lv_iload hx hb dC_base_99 (lv_at hl 0 rfl) ?_
            refine lv_iconst (v := 1) hx hb dC_base_101 (by decide) ?_
            refine lv_icmp_lt (tgt := 109) hx hb dC_base_102 (by decide) (fun c46 => ?_) (fun c46 => ?_)
            · have hw := hw.1 c46
              refine lv_iconst (v := 0) hx hb dC_base_109 (by decide) ?_
              refine lv_iload hx hb dC_base_110 (lv_at hl 0 rfl) ?_
              refine lv_iconst (v := 2) hx hb dC_base_112 (by decide) ?_
              refine lv_icmp_lt (tgt := 121) hx hb dC_base_113 (by decide) (fun c47 => ?_) (fun c47 => ?_)
              · have hw := hw.1 c47
                refine lv_iconst (v := 0) hx hb dC_base_121 (by decide) ?_
                refine lv_iload hx hb dC_base_122 (lv_at hl 6 rfl) ?_
                refine ct_i (va_runV (As := [.int p1, .int p2, .int 0, .int 0, .int p5]) (rest := []) ⟨hx, hb, hml, hown, hts⟩ (met_G_addRule l dC dI a cA sa p1 p2 0 0 p5 n_45 f_44 _ hw) (cwV 5 hts (wb_V wt_279 wt_280 wt_281 wt_28 wt_282) rfl rfl rfl (by decide +kernel) ⟨Nat.le_of_ble_eq_true rfl, Nat.le_of_ble_eq_true rfl⟩) (ct_preV hK hP (hDa _ _) hZ hS hA (va_recv hK hP (ci := 1) (q0 := 1) rfl rfl)) rfl rfl hl.1 rfl (lv_room (Nat.le_of_ble_eq_true rfl)) dC_base_124 ⟨Nat.le_of_ble_eq_true rfl, Nat.le_of_ble_eq_true rfl⟩) (hDa _ _) hS hA (fun r48 n_49 f_50 H locs hw hP hS => ?_)
                exact False.elim hw
              · have hw := hw.2 c47
                refine lv_iload hx hb dC_base_116 (lv_at hl 5 rfl) ?_
                refine lv_goto (tgt := 122) hx hb dC_base_118 (by decide) ?_
                refine lv_iload hx hb dC_base_122 (lv_at hl 6 rfl) ?_
                refine ct_i (va_runV (As := [.int p1, .int p2, .int 0, .int p4, .int p5]) (rest := []) ⟨hx, hb, hml, hown, hts⟩ (met_G_addRule l dC dI a cA sa p1 p2 0 p4 p5 n_45 f_44 _ hw) (cwV 5 hts (wb_V wt_279 wt_280 wt_281 wt_28 wt_282) rfl rfl rfl (by decide +kernel) ⟨Nat.le_of_ble_eq_true rfl, Nat.le_of_ble_eq_true rfl⟩) (ct_preV hK hP (hDa _ _) hZ hS hA (va_recv hK hP (ci := 1) (q0 := 1) rfl rfl)) rfl rfl hl.1 rfl (lv_room (Nat.le_of_ble_eq_true rfl)) dC_base_124 ⟨Nat.le_of_ble_eq_true rfl, Nat.le_of_ble_eq_true rfl⟩) (hDa _ _) hS hA (fun r51 n_52 f_53 H locs hw hP hS => ?_)
                exact False.elim hw
            · have hw := hw.2 c46
              refine lv_iload_n hx hb dC_base_105 rfl (lv_at hl 4 rfl) ?_
              refine lv_goto (tgt := 110) hx hb dC_base_106 (by decide) ?_
              refine lv_iload hx hb dC_base_110 (lv_at hl 0 rfl) ?_
              refine lv_iconst (v := 2) hx hb dC_base_112 (by decide) ?_
              refine lv_icmp_lt (tgt := 121) hx hb dC_base_113 (by decide) (fun c54 => ?_) (fun c54 => ?_)
              · have hw := hw.1 c54
                refine lv_iconst (v := 0) hx hb dC_base_121 (by decide) ?_
                refine lv_iload hx hb dC_base_122 (lv_at hl 6 rfl) ?_
                refine ct_i (va_runV (As := [.int p1, .int p2, .int p3, .int 0, .int p5]) (rest := []) ⟨hx, hb, hml, hown, hts⟩ (met_G_addRule l dC dI a cA sa p1 p2 p3 0 p5 n_45 f_44 _ hw) (cwV 5 hts (wb_V wt_279 wt_280 wt_281 wt_28 wt_282) rfl rfl rfl (by decide +kernel) ⟨Nat.le_of_ble_eq_true rfl, Nat.le_of_ble_eq_true rfl⟩) (ct_preV hK hP (hDa _ _) hZ hS hA (va_recv hK hP (ci := 1) (q0 := 1) rfl rfl)) rfl rfl hl.1 rfl (lv_room (Nat.le_of_ble_eq_true rfl)) dC_base_124 ⟨Nat.le_of_ble_eq_true rfl, Nat.le_of_ble_eq_true rfl⟩) (hDa _ _) hS hA (fun r55 n_56 f_57 H locs hw hP hS => ?_)
                exact False.elim hw
              · have hw := hw.2 c54
                refine lv_iload hx hb dC_base_116 (lv_at hl 5 rfl) ?_
                refine lv_goto (tgt := 122) hx hb dC_base_118 (by decide) ?_
                refine lv_iload hx hb dC_base_122 (lv_at hl 6 rfl) ?_
                refine ct_i (va_runV (As := [.int p1, .int p2, .int p3, .int p4, .int p5]) (rest := []) ⟨hx, hb, hml, hown, hts⟩ (met_G_addRule l dC dI a cA sa p1 p2 p3 p4 p5 n_45 f_44 _ hw) (cwV 5 hts (wb_V wt_279 wt_280 wt_281 wt_28 wt_282) rfl rfl rfl (by decide +kernel) ⟨Nat.le_of_ble_eq_true rfl, Nat.le_of_ble_eq_true rfl⟩) (ct_preV hK hP (hDa _ _) hZ hS hA (va_recv hK hP (ci := 1) (q0 := 1) rfl rfl)) rfl rfl hl.1 rfl (lv_room (Nat.le_of_ble_eq_true rfl)) dC_base_124 ⟨Nat.le_of_ble_eq_true rfl, Nat.le_of_ble_eq_true rfl⟩) (hDa _ _) hS hA (fun r58 n_59 f_60 H locs hw hP hS => ?_)
                exact False.elim hw
          · have hw := hw.2 c38
            exact vx_throwS (own := RC) (cls := "java/lang/IllegalArgumentException") (text := "no such goal of a part") (names := ["java/lang/RuntimeException", "java/lang/Exception"]) (ik := 35) (is := 64) (ic := 39) (sa := sa 3) hx hb hl9 hown (by decide +kernel) (by decide +kernel) (hts (.classLink RC 35 "java/lang/IllegalArgumentException") (List.mem_cons_of_mem _ wt_166)) (hts (.initialized "java/lang/IllegalArgumentException") (List.mem_cons_of_mem _ wt_34)) hZ.2.2.2.2.2.2.2.2.2.2.1 (vx_hat (L := vx_atS RC 39 "java/lang/IllegalArgumentException" ["java/lang/RuntimeException", "java/lang/Exception"]) (B := [.castable "java/lang/IllegalArgumentException" "java/lang/IllegalArgumentException", .declares ⟨"java/lang/RuntimeException", "<init>", "(Ljava/lang/String;)V"⟩, .declares ⟨"java/lang/Exception", "<init>", "(Ljava/lang/String;)V"⟩, .declares ⟨"java/lang/Throwable", "<init>", "(Ljava/lang/String;)V"⟩]) (fun w hw => hts w (List.mem_cons_of_mem _ (at_C_39 w hw))) bd_C_39 (vx_c (va_Nw.use rfl hZ.2.1) (vx_c (va_Nw.use rfl hZ.2.2.2.2.1) (vx_c (va_Nw.use rfl hZ.2.2.2.2.2.1) (vx_c (va_Nw.use rfl hZ.2.2.2.2.2.2.1) (vx_n)))))) gd_C_39 hZ.2.2.2.2.2.2.2.2.2.2.2.2.2.2.2.2.2.2.2.2.2.2.2.1 hZ.2.2.2.2.2.2.2.2.2.2.2.2.2.2.2.2.2.2.2.2.2.2.2.2 hS (hl.1.trans hml.symm) dC_base_66 dC_base_69 dC_base_70 dC_base_72 dC_base_75 (fun x h => (htb x h).elim) (Nat.le_of_ble_eq_true rfl) (Nat.le_of_ble_eq_true rfl) (Nat.le_of_ble_eq_true rfl) (Nat.le_of_ble_eq_true rfl) hlocks (fun t _ h1 h2 => ⟨(n_36, f_37), trivial, ⟨hw, (ct_thr hP hS h1 h2).1⟩, (ct_thr hP hS h1 h2).2⟩) hS.2.2 (Nat.le_of_ble_eq_true rfl) (Nat.le_of_ble_eq_true rfl)
      · have hw := hw.2 c11
        refine lv_iload_n hx hb dC_base_45 rfl (lv_at hl 4 rfl) ?_
        refine ct_i (va_runS (As := [.int p3]) (rest := []) ⟨hx, hb, hml, hown, hts⟩ (met_C_isGoal l dC dI a cA sa p3 n_6 f_7 _ hw) (cwS 1 hts (wb_S wt_261 wt_262 wt_27 wt_263) rfl rfl rfl (by decide +kernel) ⟨Nat.le_of_ble_eq_true rfl, Nat.le_of_ble_eq_true rfl⟩) (ct_pre hK hP (hDa _ _) hZ hS hA) rfl rfl hl.1 rfl (lv_room (Nat.le_of_ble_eq_true rfl)) dC_base_46 ⟨Nat.le_of_ble_eq_true rfl, Nat.le_of_ble_eq_true rfl⟩) (hDa _ _) hS hA (fun r61 n_62 f_63 H locs hw hP hS => ?_)
        refine lv_if_eq (tgt := 66) hx hb dC_base_49 (by decide) (fun c64 => ?_) (fun c64 => ?_)
        · have hw := hw.1 c64
          exact vx_throwS (own := RC) (cls := "java/lang/IllegalArgumentException") (text := "no such goal of a part") (names := ["java/lang/RuntimeException", "java/lang/Exception"]) (ik := 35) (is := 64) (ic := 39) (sa := sa 3) hx hb hl9 hown (by decide +kernel) (by decide +kernel) (hts (.classLink RC 35 "java/lang/IllegalArgumentException") (List.mem_cons_of_mem _ wt_166)) (hts (.initialized "java/lang/IllegalArgumentException") (List.mem_cons_of_mem _ wt_34)) hZ.2.2.2.2.2.2.2.2.2.2.1 (vx_hat (L := vx_atS RC 39 "java/lang/IllegalArgumentException" ["java/lang/RuntimeException", "java/lang/Exception"]) (B := [.castable "java/lang/IllegalArgumentException" "java/lang/IllegalArgumentException", .declares ⟨"java/lang/RuntimeException", "<init>", "(Ljava/lang/String;)V"⟩, .declares ⟨"java/lang/Exception", "<init>", "(Ljava/lang/String;)V"⟩, .declares ⟨"java/lang/Throwable", "<init>", "(Ljava/lang/String;)V"⟩]) (fun w hw => hts w (List.mem_cons_of_mem _ (at_C_39 w hw))) bd_C_39 (vx_c (va_Nw.use rfl hZ.2.1) (vx_c (va_Nw.use rfl hZ.2.2.2.2.1) (vx_c (va_Nw.use rfl hZ.2.2.2.2.2.1) (vx_c (va_Nw.use rfl hZ.2.2.2.2.2.2.1) (vx_n)))))) gd_C_39 hZ.2.2.2.2.2.2.2.2.2.2.2.2.2.2.2.2.2.2.2.2.2.2.2.1 hZ.2.2.2.2.2.2.2.2.2.2.2.2.2.2.2.2.2.2.2.2.2.2.2.2 hS (hl.1.trans hml.symm) dC_base_66 dC_base_69 dC_base_70 dC_base_72 dC_base_75 (fun x h => (htb x h).elim) (Nat.le_of_ble_eq_true rfl) (Nat.le_of_ble_eq_true rfl) (Nat.le_of_ble_eq_true rfl) (Nat.le_of_ble_eq_true rfl) hlocks (fun t _ h1 h2 => ⟨(n_62, f_63), trivial, ⟨hw, (ct_thr hP hS h1 h2).1⟩, (ct_thr hP hS h1 h2).2⟩) hS.2.2 (Nat.le_of_ble_eq_true rfl) (Nat.le_of_ble_eq_true rfl)
        · have hw := hw.2 c64
          refine lv_iload hx hb dC_base_52 (lv_at hl 0 rfl) ?_
          refine lv_iconst (v := 2) hx hb dC_base_54 (by decide) ?_
          refine lv_icmp_lt (tgt := 76) hx hb dC_base_55 (by decide) (fun c65 => ?_) (fun c65 => ?_)
          · have hw := hw.1 c65
            refine lv_iload hx hb dC_base_76 (lv_at hl 6 rfl) ?_
            rcases hw with hw | hw
            rotate_left
            · exact ct_xv (vx_runS (As := [.int p5]) (rest := []) ⟨hx, hb, hml, hown, hts⟩ (metx_C_checkRuleCost l hl9 dC dI a cA sa p5 n_62 f_63 _ hw) (cwS 1 hts (wb_S wt_270 wt_271 wt_27 wt_272) rfl rfl rfl (by decide +kernel) ⟨Nat.le_of_ble_eq_true rfl, Nat.le_of_ble_eq_true rfl⟩) (ct_pre hK hP (hDa _ _) hZ hS hA) rfl rfl hl.1 rfl (lv_room (Nat.le_of_ble_eq_true rfl)) dC_base_78 ⟨Nat.le_of_ble_eq_true rfl, Nat.le_of_ble_eq_true rfl⟩) (hDa _ _) hS hA (fun E ce q9 n' f' H locs hw hP hS h1 h2 h3 => by exact vx_out (fun x h => (htb x h).elim) hlocks h1 h2 h3 (fun t ht hvm => ⟨(n', f'), trivial, ⟨hw, ct_mkB ht hP⟩, hS.F ht⟩) hS.2.2 (Nat.le_of_ble_eq_true rfl) (Nat.le_of_ble_eq_true rfl)) (fun _ _ _ _ hw _ _ => False.elim hw)
            refine ct_v (va_runS (As := [.int p5]) (rest := []) ⟨hx, hb, hml, hown, hts⟩ (met0_C_checkRuleCost l dC dI a cA sa p5 n_62 f_63 _ hw) (cwS 1 hts (wb_S wt_270 wt_271 wt_27 wt_272) rfl rfl rfl (by decide +kernel) ⟨Nat.le_of_ble_eq_true rfl, Nat.le_of_ble_eq_true rfl⟩) (ct_pre hK hP (hDa _ _) hZ hS hA) rfl rfl hl.1 rfl (lv_room (Nat.le_of_ble_eq_true rfl)) dC_base_78 ⟨Nat.le_of_ble_eq_true rfl, Nat.le_of_ble_eq_true rfl⟩) (hDa _ _) hS hA (fun n_67 f_68 H locs hw hP hS => ?_)
            refine lv_aload_n hx hb dC_base_81 rfl (lv_at hl 1 rfl) ?_
            rcases hw with hw | hw
            rotate_left
            · exact ct_xv (vx_runV (As := []) (rest := []) ⟨hx, hb, hml, hown, hts⟩ (metx_C_checkRoomForRule l hl9 dC dI a cA sa n_67 f_68 _ hw) (cwV 0 hts (wb_V wt_274 wt_276 wt_1 wt_27 wt_277) rfl rfl rfl (by decide +kernel) ⟨Nat.le_of_ble_eq_true rfl, Nat.le_of_ble_eq_true rfl⟩) (ct_preV hK hP (hDa _ _) hZ hS hA (va_recv hK hP (ci := 0) (q0 := 0) rfl rfl)) rfl rfl hl.1 rfl (lv_room (Nat.le_of_ble_eq_true rfl)) dC_base_82 ⟨Nat.le_of_ble_eq_true rfl, Nat.le_of_ble_eq_true rfl⟩) (hDa _ _) hS hA (fun E ce q9 n' f' H locs hw hP hS h1 h2 h3 => by exact vx_out (fun x h => (htb x h).elim) hlocks h1 h2 h3 (fun t ht hvm => ⟨(n', f'), trivial, ⟨hw, ct_mkB ht hP⟩, hS.F ht⟩) hS.2.2 (Nat.le_of_ble_eq_true rfl) (Nat.le_of_ble_eq_true rfl)) (fun _ _ _ _ hw _ _ => False.elim hw)
            refine ct_v (va_runV (As := []) (rest := []) ⟨hx, hb, hml, hown, hts⟩ (met0_C_checkRoomForRule l dC dI a cA sa n_67 f_68 _ hw) (cwV 0 hts (wb_V wt_274 wt_276 wt_1 wt_27 wt_277) rfl rfl rfl (by decide +kernel) ⟨Nat.le_of_ble_eq_true rfl, Nat.le_of_ble_eq_true rfl⟩) (ct_preV hK hP (hDa _ _) hZ hS hA (va_recv hK hP (ci := 0) (q0 := 0) rfl rfl)) rfl rfl hl.1 rfl (lv_room (Nat.le_of_ble_eq_true rfl)) dC_base_82 ⟨Nat.le_of_ble_eq_true rfl, Nat.le_of_ble_eq_true rfl⟩) (hDa _ _) hS hA (fun n_70 f_71 H locs hw hP hS => ?_)
            refine lv_aload_n hx hb dC_base_85 rfl (lv_at hl 1 rfl) ?_
            refine va_get (D := (dC, dI)) (ci := 0) (v := .ref (a 2)) (C := RC) (T := TC) (N := 2) hx hb hts (fun w h => List.mem_cons_of_mem _ (inC w h)) hown hK hP 0 rfl rfl 1 (by decide) (hts (.fieldLink RC 21 "CoverTrees" "forest" "LCoverTrees$Forest;") (List.mem_cons_of_mem _ wt_135)) (fun _ h9 => h9) rfl dC_base_86 ?_
            refine lv_iconst (v := 0) hx hb dC_base_89 (by decide) ?_
            refine va_put (D := (dC, dI)) (ci := 2) (v := .int 0) (ty := .int) (C := RF) (T := TF) (N := 11) hx hb hts (fun w h => List.mem_cons_of_mem _ (inF w h)) tyF tyF_ok nmF hown hK hP (hDa _ _) hS 2 rfl rfl 1 (by decide) (hts (.fieldLink RC 25 "CoverTrees$Forest" "count" "I") (List.mem_cons_of_mem _ wt_95)) (fun _ h9 => h9) rfl (by decide +kernel) rfl rfl (Nat.le_of_ble_eq_true rfl) dC_base_90 (fun H locs hP _ hS => ?_)
            obtain ⟨n_72, en_72⟩ : ∃ z : ctN, z = va_up n_70 2 0 := ⟨_, rfl⟩
            have hw := hw n_72 en_72
            have hP : va_P (dC, dI) vcl (ctW a cA n_72 f_71) H := by rw [en_72]; exact hP
            refine lv_aload_n hx hb dC_base_93 rfl (lv_at hl 1 rfl) ?_
            refine va_get (D := (dC, dI)) (ci := 0) (v := .ref (a 1)) (C := RC) (T := TC) (N := 2) hx hb hts (fun w h => List.mem_cons_of_mem _ (inC w h)) hown hK hP 0 rfl rfl 0 (by decide) (hts (.fieldLink RC 12 "CoverTrees" "grammar" "LCoverTrees$Grammar;") (List.mem_cons_of_mem _ wt_134)) (fun _ h9 => h9) rfl dC_base_94 ?_
            refine lv_iload_n hx hb dC_base_97 rfl (lv_at hl 2 rfl) ?_
            refine lv_iload_n hx hb dC_base_98 rfl (lv_at hl 3 rfl) ?_
            refine lv_iload hx hb dC_base_99 (lv_at hl 0 rfl) ?_
            refine lv_iconst (v := 1) hx hb dC_base_101 (by decide) ?_
            refine lv_icmp_lt (tgt := 109) hx hb dC_base_102 (by decide) (fun c73 => ?_) (fun c73 => ?_)
            · have hw := hw.1 c73
              refine lv_iconst (v := 0) hx hb dC_base_109 (by decide) ?_
              refine lv_iload hx hb dC_base_110 (lv_at hl 0 rfl) ?_
              refine lv_iconst (v := 2) hx hb dC_base_112 (by decide) ?_
              refine lv_icmp_lt (tgt := 121) hx hb dC_base_113 (by decide) (fun c74 => ?_) (fun c74 => ?_)
              · have hw := hw.1 c74
                refine lv_iconst (v := 0) hx hb dC_base_121 (by decide) ?_
                refine lv_iload hx hb dC_base_122 (lv_at hl 6 rfl) ?_
                refine ct_i (va_runV (As := [.int p1, .int p2, .int 0, .int 0, .int p5]) (rest := []) ⟨hx, hb, hml, hown, hts⟩ (met_G_addRule l dC dI a cA sa p1 p2 0 0 p5 n_72 f_71 _ hw) (cwV 5 hts (wb_V wt_279 wt_280 wt_281 wt_28 wt_282) rfl rfl rfl (by decide +kernel) ⟨Nat.le_of_ble_eq_true rfl, Nat.le_of_ble_eq_true rfl⟩) (ct_preV hK hP (hDa _ _) hZ hS hA (va_recv hK hP (ci := 1) (q0 := 1) rfl rfl)) rfl rfl hl.1 rfl (lv_room (Nat.le_of_ble_eq_true rfl)) dC_base_124 ⟨Nat.le_of_ble_eq_true rfl, Nat.le_of_ble_eq_true rfl⟩) (hDa _ _) hS hA (fun r75 n_76 f_77 H locs hw hP hS => ?_)
                exact False.elim hw
              · have hw := hw.2 c74
                refine lv_iload hx hb dC_base_116 (lv_at hl 5 rfl) ?_
                refine lv_goto (tgt := 122) hx hb dC_base_118 (by decide) ?_
                refine lv_iload hx hb dC_base_122 (lv_at hl 6 rfl) ?_
                refine ct_i (va_runV (As := [.int p1, .int p2, .int 0, .int p4, .int p5]) (rest := []) ⟨hx, hb, hml, hown, hts⟩ (met_G_addRule l dC dI a cA sa p1 p2 0 p4 p5 n_72 f_71 _ hw) (cwV 5 hts (wb_V wt_279 wt_280 wt_281 wt_28 wt_282) rfl rfl rfl (by decide +kernel) ⟨Nat.le_of_ble_eq_true rfl, Nat.le_of_ble_eq_true rfl⟩) (ct_preV hK hP (hDa _ _) hZ hS hA (va_recv hK hP (ci := 1) (q0 := 1) rfl rfl)) rfl rfl hl.1 rfl (lv_room (Nat.le_of_ble_eq_true rfl)) dC_base_124 ⟨Nat.le_of_ble_eq_true rfl, Nat.le_of_ble_eq_true rfl⟩) (hDa _ _) hS hA (fun r78 n_79 f_80 H locs hw hP hS => ?_)
                exact False.elim hw
            · have hw := hw.2 c73
              refine lv_iload_n hx hb dC_base_105 rfl (lv_at hl 4 rfl) ?_
              refine lv_goto (tgt := 110) hx hb dC_base_106 (by decide) ?_
              refine lv_iload hx hb dC_base_110 (lv_at hl 0 rfl) ?_
              refine lv_iconst (v := 2) hx hb dC_base_112 (by decide) ?_
              refine lv_icmp_lt (tgt := 121) hx hb dC_base_113 (by decide) (fun c81 => ?_) (fun c81 => ?_)
              · have hw := hw.1 c81
                refine lv_iconst (v := 0) hx hb dC_base_121 (by decide) ?_
                refine lv_iload hx hb dC_base_122 (lv_at hl 6 rfl) ?_
                refine ct_i (va_runV (As := [.int p1, .int p2, .int p3, .int 0, .int p5]) (rest := []) ⟨hx, hb, hml, hown, hts⟩ (met_G_addRule l dC dI a cA sa p1 p2 p3 0 p5 n_72 f_71 _ hw) (cwV 5 hts (wb_V wt_279 wt_280 wt_281 wt_28 wt_282) rfl rfl rfl (by decide +kernel) ⟨Nat.le_of_ble_eq_true rfl, Nat.le_of_ble_eq_true rfl⟩) (ct_preV hK hP (hDa _ _) hZ hS hA (va_recv hK hP (ci := 1) (q0 := 1) rfl rfl)) rfl rfl hl.1 rfl (lv_room (Nat.le_of_ble_eq_true rfl)) dC_base_124 ⟨Nat.le_of_ble_eq_true rfl, Nat.le_of_ble_eq_true rfl⟩) (hDa _ _) hS hA (fun r82 n_83 f_84 H locs hw hP hS => ?_)
                exact False.elim hw
              · have hw := hw.2 c81
                refine lv_iload hx hb dC_base_116 (lv_at hl 5 rfl) ?_
                refine lv_goto (tgt := 122) hx hb dC_base_118 (by decide) ?_
                refine lv_iload hx hb dC_base_122 (lv_at hl 6 rfl) ?_
                refine ct_i (va_runV (As := [.int p1, .int p2, .int p3, .int p4, .int p5]) (rest := []) ⟨hx, hb, hml, hown, hts⟩ (met_G_addRule l dC dI a cA sa p1 p2 p3 p4 p5 n_72 f_71 _ hw) (cwV 5 hts (wb_V wt_279 wt_280 wt_281 wt_28 wt_282) rfl rfl rfl (by decide +kernel) ⟨Nat.le_of_ble_eq_true rfl, Nat.le_of_ble_eq_true rfl⟩) (ct_preV hK hP (hDa _ _) hZ hS hA (va_recv hK hP (ci := 1) (q0 := 1) rfl rfl)) rfl rfl hl.1 rfl (lv_room (Nat.le_of_ble_eq_true rfl)) dC_base_124 ⟨Nat.le_of_ble_eq_true rfl, Nat.le_of_ble_eq_true rfl⟩) (hDa _ _) hS hA (fun r85 n_86 f_87 H locs hw hP hS => ?_)
                exact False.elim hw
          · have hw := hw.2 c65
            refine lv_iload hx hb dC_base_58 (lv_at hl 5 rfl) ?_
            refine ct_i (va_runS (As := [.int p4]) (rest := []) ⟨hx, hb, hml, hown, hts⟩ (met_C_isGoal l dC dI a cA sa p4 n_62 f_63 _ hw) (cwS 1 hts (wb_S wt_261 wt_262 wt_27 wt_263) rfl rfl rfl (by decide +kernel) ⟨Nat.le_of_ble_eq_true rfl, Nat.le_of_ble_eq_true rfl⟩) (ct_pre hK hP (hDa _ _) hZ hS hA) rfl rfl hl.1 rfl (lv_room (Nat.le_of_ble_eq_true rfl)) dC_base_60 ⟨Nat.le_of_ble_eq_true rfl, Nat.le_of_ble_eq_true rfl⟩) (hDa _ _) hS hA (fun r88 n_89 f_90 H locs hw hP hS => ?_)
            refine lv_if_ne (tgt := 76) hx hb dC_base_63 (by decide) (fun c91 => ?_) (fun c91 => ?_)
            · have hw := hw.1 c91
              refine lv_iload hx hb dC_base_76 (lv_at hl 6 rfl) ?_
              rcases hw with hw | hw
              rotate_left
              · exact ct_xv (vx_runS (As := [.int p5]) (rest := []) ⟨hx, hb, hml, hown, hts⟩ (metx_C_checkRuleCost l hl9 dC dI a cA sa p5 n_89 f_90 _ hw) (cwS 1 hts (wb_S wt_270 wt_271 wt_27 wt_272) rfl rfl rfl (by decide +kernel) ⟨Nat.le_of_ble_eq_true rfl, Nat.le_of_ble_eq_true rfl⟩) (ct_pre hK hP (hDa _ _) hZ hS hA) rfl rfl hl.1 rfl (lv_room (Nat.le_of_ble_eq_true rfl)) dC_base_78 ⟨Nat.le_of_ble_eq_true rfl, Nat.le_of_ble_eq_true rfl⟩) (hDa _ _) hS hA (fun E ce q9 n' f' H locs hw hP hS h1 h2 h3 => by exact vx_out (fun x h => (htb x h).elim) hlocks h1 h2 h3 (fun t ht hvm => ⟨(n', f'), trivial, ⟨hw, ct_mkB ht hP⟩, hS.F ht⟩) hS.2.2 (Nat.le_of_ble_eq_true rfl) (Nat.le_of_ble_eq_true rfl)) (fun _ _ _ _ hw _ _ => False.elim hw)
              refine ct_v (va_runS (As := [.int p5]) (rest := []) ⟨hx, hb, hml, hown, hts⟩ (met0_C_checkRuleCost l dC dI a cA sa p5 n_89 f_90 _ hw) (cwS 1 hts (wb_S wt_270 wt_271 wt_27 wt_272) rfl rfl rfl (by decide +kernel) ⟨Nat.le_of_ble_eq_true rfl, Nat.le_of_ble_eq_true rfl⟩) (ct_pre hK hP (hDa _ _) hZ hS hA) rfl rfl hl.1 rfl (lv_room (Nat.le_of_ble_eq_true rfl)) dC_base_78 ⟨Nat.le_of_ble_eq_true rfl, Nat.le_of_ble_eq_true rfl⟩) (hDa _ _) hS hA (fun n_93 f_94 H locs hw hP hS => ?_)
              refine lv_aload_n hx hb dC_base_81 rfl (lv_at hl 1 rfl) ?_
              rcases hw with hw | hw
              rotate_left
              · exact ct_xv (vx_runV (As := []) (rest := []) ⟨hx, hb, hml, hown, hts⟩ (metx_C_checkRoomForRule l hl9 dC dI a cA sa n_93 f_94 _ hw) (cwV 0 hts (wb_V wt_274 wt_276 wt_1 wt_27 wt_277) rfl rfl rfl (by decide +kernel) ⟨Nat.le_of_ble_eq_true rfl, Nat.le_of_ble_eq_true rfl⟩) (ct_preV hK hP (hDa _ _) hZ hS hA (va_recv hK hP (ci := 0) (q0 := 0) rfl rfl)) rfl rfl hl.1 rfl (lv_room (Nat.le_of_ble_eq_true rfl)) dC_base_82 ⟨Nat.le_of_ble_eq_true rfl, Nat.le_of_ble_eq_true rfl⟩) (hDa _ _) hS hA (fun E ce q9 n' f' H locs hw hP hS h1 h2 h3 => by exact vx_out (fun x h => (htb x h).elim) hlocks h1 h2 h3 (fun t ht hvm => ⟨(n', f'), trivial, ⟨hw, ct_mkB ht hP⟩, hS.F ht⟩) hS.2.2 (Nat.le_of_ble_eq_true rfl) (Nat.le_of_ble_eq_true rfl)) (fun _ _ _ _ hw _ _ => False.elim hw)
              refine ct_v (va_runV (As := []) (rest := []) ⟨hx, hb, hml, hown, hts⟩ (met0_C_checkRoomForRule l dC dI a cA sa n_93 f_94 _ hw) (cwV 0 hts (wb_V wt_274 wt_276 wt_1 wt_27 wt_277) rfl rfl rfl (by decide +kernel) ⟨Nat.le_of_ble_eq_true rfl, Nat.le_of_ble_eq_true rfl⟩) (ct_preV hK hP (hDa _ _) hZ hS hA (va_recv hK hP (ci := 0) (q0 := 0) rfl rfl)) rfl rfl hl.1 rfl (lv_room (Nat.le_of_ble_eq_true rfl)) dC_base_82 ⟨Nat.le_of_ble_eq_true rfl, Nat.le_of_ble_eq_true rfl⟩) (hDa _ _) hS hA (fun n_96 f_97 H locs hw hP hS => ?_)
              refine lv_aload_n hx hb dC_base_85 rfl (lv_at hl 1 rfl) ?_
              refine va_get (D := (dC, dI)) (ci := 0) (v := .ref (a 2)) (C := RC) (T := TC) (N := 2) hx hb hts (fun w h => List.mem_cons_of_mem _ (inC w h)) hown hK hP 0 rfl rfl 1 (by decide) (hts (.fieldLink RC 21 "CoverTrees" "forest" "LCoverTrees$Forest;") (List.mem_cons_of_mem _ wt_135)) (fun _ h9 => h9) rfl dC_base_86 ?_
              refine lv_iconst (v := 0) hx hb dC_base_89 (by decide) ?_
              refine va_put (D := (dC, dI)) (ci := 2) (v := .int 0) (ty := .int) (C := RF) (T := TF) (N := 11) hx hb hts (fun w h => List.mem_cons_of_mem _ (inF w h)) tyF tyF_ok nmF hown hK hP (hDa _ _) hS 2 rfl rfl 1 (by decide) (hts (.fieldLink RC 25 "CoverTrees$Forest" "count" "I") (List.mem_cons_of_mem _ wt_95)) (fun _ h9 => h9) rfl (by decide +kernel) rfl rfl (Nat.le_of_ble_eq_true rfl) dC_base_90 (fun H locs hP _ hS => ?_)
              obtain ⟨n_98, en_98⟩ : ∃ z : ctN, z = va_up n_96 2 0 := ⟨_, rfl⟩
              have hw := hw n_98 en_98
              have hP : va_P (dC, dI) vcl (ctW a cA n_98 f_97) H := by rw [en_98]; exact hP
              refine lv_aload_n hx hb dC_base_93 rfl (lv_at hl 1 rfl) ?_
              refine va_get (D := (dC, dI)) (ci := 0) (v := .ref (a 1)) (C := RC) (T := TC) (N := 2) hx hb hts (fun w h => List.mem_cons_of_mem _ (inC w h)) hown hK hP 0 rfl rfl 0 (by decide) (hts (.fieldLink RC 12 "CoverTrees" "grammar" "LCoverTrees$Grammar;") (List.mem_cons_of_mem _ wt_134)) (fun _ h9 => h9) rfl dC_base_94 ?_
              refine lv_iload_n hx hb dC_base_97 rfl (lv_at hl 2 rfl) ?_
              refine lv_iload_n hx hb dC_base_98 rfl (lv_at hl 3 rfl) ?_
              refine lv_iload hx hb dC_base_99 (lv_at hl 0 rfl) ?_
              refine lv_iconst (v := 1) hx hb dC_base_101 (by decide) ?_
              refine lv_icmp_lt (tgt := 109) hx hb dC_base_102 (by decide) (fun c99 => ?_) (fun c99 => ?_)
              · have hw := hw.1 c99
                refine lv_iconst (v := 0) hx hb dC_base_109 (by decide) ?_
                refine lv_iload hx hb dC_base_110 (lv_at hl 0 rfl) ?_
                refine lv_iconst (v := 2) hx hb dC_base_112 (by decide) ?_
                refine lv_icmp_lt (tgt := 121) hx hb dC_base_113 (by decide) (fun c100 => ?_) (fun c100 => ?_)
                · have hw := hw.1 c100
                  refine lv_iconst (v := 0) hx hb dC_base_121 (by decide) ?_
                  refine lv_iload hx hb dC_base_122 (lv_at hl 6 rfl) ?_
                  refine ct_i (va_runV (As := [.int p1, .int p2, .int 0, .int 0, .int p5]) (rest := []) ⟨hx, hb, hml, hown, hts⟩ (met_G_addRule l dC dI a cA sa p1 p2 0 0 p5 n_98 f_97 _ hw) (cwV 5 hts (wb_V wt_279 wt_280 wt_281 wt_28 wt_282) rfl rfl rfl (by decide +kernel) ⟨Nat.le_of_ble_eq_true rfl, Nat.le_of_ble_eq_true rfl⟩) (ct_preV hK hP (hDa _ _) hZ hS hA (va_recv hK hP (ci := 1) (q0 := 1) rfl rfl)) rfl rfl hl.1 rfl (lv_room (Nat.le_of_ble_eq_true rfl)) dC_base_124 ⟨Nat.le_of_ble_eq_true rfl, Nat.le_of_ble_eq_true rfl⟩) (hDa _ _) hS hA (fun r101 n_102 f_103 H locs hw hP hS => ?_)
                  exact False.elim hw
                · have hw := hw.2 c100
                  refine lv_iload hx hb dC_base_116 (lv_at hl 5 rfl) ?_
                  refine lv_goto (tgt := 122) hx hb dC_base_118 (by decide) ?_
                  refine lv_iload hx hb dC_base_122 (lv_at hl 6 rfl) ?_
                  refine ct_i (va_runV (As := [.int p1, .int p2, .int 0, .int p4, .int p5]) (rest := []) ⟨hx, hb, hml, hown, hts⟩ (met_G_addRule l dC dI a cA sa p1 p2 0 p4 p5 n_98 f_97 _ hw) (cwV 5 hts (wb_V wt_279 wt_280 wt_281 wt_28 wt_282) rfl rfl rfl (by decide +kernel) ⟨Nat.le_of_ble_eq_true rfl, Nat.le_of_ble_eq_true rfl⟩) (ct_preV hK hP (hDa _ _) hZ hS hA (va_recv hK hP (ci := 1) (q0 := 1) rfl rfl)) rfl rfl hl.1 rfl (lv_room (Nat.le_of_ble_eq_true rfl)) dC_base_124 ⟨Nat.le_of_ble_eq_true rfl, Nat.le_of_ble_eq_true rfl⟩) (hDa _ _) hS hA (fun r104 n_105 f_106 H locs hw hP hS => ?_)
                  exact False.elim hw
              · have hw := hw.2 c99
                refine lv_iload_n hx hb dC_base_105 rfl (lv_at hl 4 rfl) ?_
                refine lv_goto (tgt := 110) hx hb dC_base_106 (by decide) ?_
                refine lv_iload hx hb dC_base_110 (lv_at hl 0 rfl) ?_
                refine lv_iconst (v := 2) hx hb dC_base_112 (by decide) ?_
                refine lv_icmp_lt (tgt := 121) hx hb dC_base_113 (by decide) (fun c107 => ?_) (fun c107 => ?_)
                · have hw := hw.1 c107
                  refine lv_iconst (v := 0) hx hb dC_base_121 (by decide) ?_
                  refine lv_iload hx hb dC_base_122 (lv_at hl 6 rfl) ?_
                  refine ct_i (va_runV (As := [.int p1, .int p2, .int p3, .int 0, .int p5]) (rest := []) ⟨hx, hb, hml, hown, hts⟩ (met_G_addRule l dC dI a cA sa p1 p2 p3 0 p5 n_98 f_97 _ hw) (cwV 5 hts (wb_V wt_279 wt_280 wt_281 wt_28 wt_282) rfl rfl rfl (by decide +kernel) ⟨Nat.le_of_ble_eq_true rfl, Nat.le_of_ble_eq_true rfl⟩) (ct_preV hK hP (hDa _ _) hZ hS hA (va_recv hK hP (ci := 1) (q0 := 1) rfl rfl)) rfl rfl hl.1 rfl (lv_room (Nat.le_of_ble_eq_true rfl)) dC_base_124 ⟨Nat.le_of_ble_eq_true rfl, Nat.le_of_ble_eq_true rfl⟩) (hDa _ _) hS hA (fun r108 n_109 f_110 H locs hw hP hS => ?_)
                  exact False.elim hw
                · have hw := hw.2 c107
                  refine lv_iload hx hb dC_base_116 (lv_at hl 5 rfl) ?_
                  refine lv_goto (tgt := 122) hx hb dC_base_118 (by decide) ?_
                  refine lv_iload hx hb dC_base_122 (lv_at hl 6 rfl) ?_
                  refine ct_i (va_runV (As := [.int p1, .int p2, .int p3, .int p4, .int p5]) (rest := []) ⟨hx, hb, hml, hown, hts⟩ (met_G_addRule l dC dI a cA sa p1 p2 p3 p4 p5 n_98 f_97 _ hw) (cwV 5 hts (wb_V wt_279 wt_280 wt_281 wt_28 wt_282) rfl rfl rfl (by decide +kernel) ⟨Nat.le_of_ble_eq_true rfl, Nat.le_of_ble_eq_true rfl⟩) (ct_preV hK hP (hDa _ _) hZ hS hA (va_recv hK hP (ci := 1) (q0 := 1) rfl rfl)) rfl rfl hl.1 rfl (lv_room (Nat.le_of_ble_eq_true rfl)) dC_base_124 ⟨Nat.le_of_ble_eq_true rfl, Nat.le_of_ble_eq_true rfl⟩) (hDa _ _) hS hA (fun r111 n_112 f_113 H locs hw hP hS => ?_)
                  exact False.elim hw
            · have hw := hw.2 c91
              exact vx_throwS (own := RC) (cls := "java/lang/IllegalArgumentException") (text := "no such goal of a part") (names := ["java/lang/RuntimeException", "java/lang/Exception"]) (ik := 35) (is := 64) (ic := 39) (sa := sa 3) hx hb hl9 hown (by decide +kernel) (by decide +kernel) (hts (.classLink RC 35 "java/lang/IllegalArgumentException") (List.mem_cons_of_mem _ wt_166)) (hts (.initialized "java/lang/IllegalArgumentException") (List.mem_cons_of_mem _ wt_34)) hZ.2.2.2.2.2.2.2.2.2.2.1 (vx_hat (L := vx_atS RC 39 "java/lang/IllegalArgumentException" ["java/lang/RuntimeException", "java/lang/Exception"]) (B := [.castable "java/lang/IllegalArgumentException" "java/lang/IllegalArgumentException", .declares ⟨"java/lang/RuntimeException", "<init>", "(Ljava/lang/String;)V"⟩, .declares ⟨"java/lang/Exception", "<init>", "(Ljava/lang/String;)V"⟩, .declares ⟨"java/lang/Throwable", "<init>", "(Ljava/lang/String;)V"⟩]) (fun w hw => hts w (List.mem_cons_of_mem _ (at_C_39 w hw))) bd_C_39 (vx_c (va_Nw.use rfl hZ.2.1) (vx_c (va_Nw.use rfl hZ.2.2.2.2.1) (vx_c (va_Nw.use rfl hZ.2.2.2.2.2.1) (vx_c (va_Nw.use rfl hZ.2.2.2.2.2.2.1) (vx_n)))))) gd_C_39 hZ.2.2.2.2.2.2.2.2.2.2.2.2.2.2.2.2.2.2.2.2.2.2.2.1 hZ.2.2.2.2.2.2.2.2.2.2.2.2.2.2.2.2.2.2.2.2.2.2.2.2 hS (hl.1.trans hml.symm) dC_base_66 dC_base_69 dC_base_70 dC_base_72 dC_base_75 (fun x h => (htb x h).elim) (Nat.le_of_ble_eq_true rfl) (Nat.le_of_ble_eq_true rfl) (Nat.le_of_ble_eq_true rfl) (Nat.le_of_ble_eq_true rfl) hlocks (fun t _ h1 h2 => ⟨(n_89, f_90), trivial, ⟨hw, (ct_thr hP hS h1 h2).1⟩, (ct_thr hP hS h1 h2).2⟩) hS.2.2 (Nat.le_of_ble_eq_true rfl) (Nat.le_of_ble_eq_true rfl)
    · have hw := hw.2 c8
      exact vx_throwS (own := RC) (cls := "java/lang/IllegalArgumentException") (text := "no such goal or operator") (names := ["java/lang/RuntimeException", "java/lang/Exception"]) (ik := 35) (is := 58) (ic := 39) (sa := sa 2) hx hb hl9 hown (by decide +kernel) (by decide +kernel) (hts (.classLink RC 35 "java/lang/IllegalArgumentException") (List.mem_cons_of_mem _ wt_166)) (hts (.initialized "java/lang/IllegalArgumentException") (List.mem_cons_of_mem _ wt_34)) hZ.2.2.2.2.2.2.2.2.2.1 (vx_hat (L := vx_atS RC 39 "java/lang/IllegalArgumentException" ["java/lang/RuntimeException", "java/lang/Exception"]) (B := [.castable "java/lang/IllegalArgumentException" "java/lang/IllegalArgumentException", .declares ⟨"java/lang/RuntimeException", "<init>", "(Ljava/lang/String;)V"⟩, .declares ⟨"java/lang/Exception", "<init>", "(Ljava/lang/String;)V"⟩, .declares ⟨"java/lang/Throwable", "<init>", "(Ljava/lang/String;)V"⟩]) (fun w hw => hts w (List.mem_cons_of_mem _ (at_C_39 w hw))) bd_C_39 (vx_c (va_Nw.use rfl hZ.2.1) (vx_c (va_Nw.use rfl hZ.2.2.2.2.1) (vx_c (va_Nw.use rfl hZ.2.2.2.2.2.1) (vx_c (va_Nw.use rfl hZ.2.2.2.2.2.2.1) (vx_n)))))) gd_C_39 hZ.2.2.2.2.2.2.2.2.2.2.2.2.2.2.2.2.2.2.2.2.2.2.2.1 hZ.2.2.2.2.2.2.2.2.2.2.2.2.2.2.2.2.2.2.2.2.2.2.2.2 hS (hl.1.trans hml.symm) dC_base_18 dC_base_21 dC_base_22 dC_base_24 dC_base_27 (fun x h => (htb x h).elim) (Nat.le_of_ble_eq_true rfl) (Nat.le_of_ble_eq_true rfl) (Nat.le_of_ble_eq_true rfl) (Nat.le_of_ble_eq_true rfl) hlocks (fun t _ h1 h2 => ⟨(n_6, f_7), trivial, ⟨hw, (ct_thr hP hS h1 h2).1⟩, (ct_thr hP hS h1 h2).2⟩) hS.2.2 (Nat.le_of_ble_eq_true rfl) (Nat.le_of_ble_eq_true rfl)
def wp_C_chain (post : Int32 → ctN → ctF → Prop) (xp : String → ctN → ctF → Prop) (p1 : Int32) (p2 : Int32) (p3 : Int32) (n : ctN) (f : ctF) : Prop := wp_C_isGoal (fun (r1 : Int32) (n_2 : ctN) (f_3 : ctF) => (r1 = 0 → (xp "java/lang/IllegalArgumentException" n_2 f_3)) ∧ (¬ r1 = 0 → (wp_C_isGoal (fun (r5 : Int32) (n_6 : ctN) (f_7 : ctF) => (¬ r5 = 0 → ((¬ p1 = p2 → ((wp_C_checkRuleCost (fun (n_11 : ctN) (f_12 : ctF) => (wp_C_checkRoomForRule (fun (n_14 : ctN) (f_15 : ctF) => ∀ n_16 : ctN, n_16 = va_up n_14 2 0 → (wp_G_addRule (fun (r17 : Int32) (n_18 : ctN) (f_19 : ctF) => post r17 n_18 f_19) p1 (-1) p2 0 p3 n_16 f_15)) xF n_11 f_12) ∨ (wp_C_checkRoomForRule pFv xp n_11 f_12)) xF p3 n_6 f_7) ∨ (wp_C_checkRuleCost pFv xp p3 n_6 f_7))) ∧ (p1 = p2 → (xp "java/lang/IllegalArgumentException" n_6 f_7)))) ∧ (r5 = 0 → (xp "java/lang/IllegalArgumentException" n_6 f_7))) p2 n_2 f_3))) p1 n f
set_option maxHeartbeats 4000000 in
set_option maxRecDepth 100000 in
theorem met0_C_chain (l : Launch) (dC : Nat → ClassId) (dI : Nat → Nat → Nat) (a : Nat → Nat) (cA : Nat → ClassId) (sa : Nat → Nat) (p1 : Int32) (p2 : Int32) (p3 : Int32) (n : ctN) (f : ctF) (sz : Nat) {post : Int32 → ctN → ctF → Prop} (hw : wp_C_chain post xF p1 p2 p3 n f) : Met l yC_chain wsC_chain ({ frames := 7, cells := 0, slots := 0, locals := 110 } : Room) (ct_Pc dC dI a cA sa [.ref (a 0), .int p1, .int p2, .int p3] n f sz) (va_Qi (fun (r : Int32) (u : ctN × ctF) => post r u.1 u.2) (ct_B dC dI a cA) (va_A (ctW a cA n f) sz)) 0 0 (va_A (ctW a cA n f) sz) := by
  refine Met.ofW (cc := cC_chain) (maxL := 4) (ret := (some .int)) (by decide) rfl ?_
  intro p e s m args below meth c s₁ B hml hv
  obtain ⟨rfl, hsz, hP, hK, hD0, hZ⟩ := hv
  have hx := B.exec
  have hb := B.bytes
  have hr := B.returns
  have hts := atoms_spec (ws := wsC_chain) B.pre
  have hown : s.vm.findClass RC = some m.cls := findClass_of_methodNamed B.named
  have hlocks := B.notSynchronized
  subst hsz
  have hD := hD0.self (sz := s.heap.size)
  generalize hAe : va_A (ctW a cA n f) s.heap.size = A at hD hZ ⊢
  have hDa : ∀ (n : ctN) (f : ctF), va_D A (ctW a cA n f) := fun _ _ => ct_D hD
  have hA : ∀ q : Nat, s.heap.size ≤ q → A q := fun q h => by rw [← hAe]; exact Or.inr h
  have hS : va_S A s.heap s.heap [] := va_S.rf
  have hl := lv_entry ([.ref (a 0), .int p1, .int p2, .int p3]) (n := 4) (Nat.le_of_ble_eq_true rfl)
  rw [lg_entry_eq]
  generalize (lg_sl ([.ref (a 0), .int p1, .int p2, .int p3]) ++ List.replicate (4 - (lg_sl ([.ref (a 0), .int p1, .int p2, .int p3])).length) Slot.unset).toArray = ls at hl ⊢
  have hl : lv_has ls 4 [(0, .ref (a 0)), (1, .int p1), (2, .int p2), (3, .int p3)] := hl
  unfold wp_C_chain at hw
  refine lv_iload_n hx hb dC_chain_0 rfl (lv_at hl 1 rfl) ?_
  refine ct_i (va_runS (As := [.int p1]) (rest := []) ⟨hx, hb, hml, hown, hts⟩ (met_C_isGoal l dC dI a cA sa p1 n f _ hw) (cwS 1 hts (wb_S wt_261 wt_262 wt_27 wt_263) rfl rfl rfl (by decide +kernel) ⟨Nat.le_of_ble_eq_true rfl, Nat.le_of_ble_eq_true rfl⟩) (ct_pre hK hP (hDa _ _) hZ hS hA) rfl rfl hl.1 rfl (lv_room (Nat.le_of_ble_eq_true rfl)) dC_chain_1 ⟨Nat.le_of_ble_eq_true rfl, Nat.le_of_ble_eq_true rfl⟩) (hDa _ _) hS hA (fun r1 n_2 f_3 H locs hw hP hS => ?_)
  refine lv_if_eq (tgt := 14) hx hb dC_chain_4 (by decide) (fun c4 => ?_) (fun c4 => ?_)
  · have hw := hw.1 c4
    exact False.elim hw
  · have hw := hw.2 c4
    refine lv_iload_n hx hb dC_chain_7 rfl (lv_at hl 2 rfl) ?_
    refine ct_i (va_runS (As := [.int p2]) (rest := []) ⟨hx, hb, hml, hown, hts⟩ (met_C_isGoal l dC dI a cA sa p2 n_2 f_3 _ hw) (cwS 1 hts (wb_S wt_261 wt_262 wt_27 wt_263) rfl rfl rfl (by decide +kernel) ⟨Nat.le_of_ble_eq_true rfl, Nat.le_of_ble_eq_true rfl⟩) (ct_pre hK hP (hDa _ _) hZ hS hA) rfl rfl hl.1 rfl (lv_room (Nat.le_of_ble_eq_true rfl)) dC_chain_8 ⟨Nat.le_of_ble_eq_true rfl, Nat.le_of_ble_eq_true rfl⟩) (hDa _ _) hS hA (fun r5 n_6 f_7 H locs hw hP hS => ?_)
    refine lv_if_ne (tgt := 24) hx hb dC_chain_11 (by decide) (fun c8 => ?_) (fun c8 => ?_)
    · have hw := hw.1 c8
      refine lv_iload_n hx hb dC_chain_24 rfl (lv_at hl 1 rfl) ?_
      refine lv_iload_n hx hb dC_chain_25 rfl (lv_at hl 2 rfl) ?_
      refine lv_icmp_ne (tgt := 39) hx hb dC_chain_26 (by decide) (fun c9 => ?_) (fun c9 => ?_)
      · have hw := hw.1 c9
        refine lv_iload_n hx hb dC_chain_39 rfl (lv_at hl 3 rfl) ?_
        rcases hw with hw | hw
        rotate_left
        · exact ct_v (va_runS (As := [.int p3]) (rest := []) ⟨hx, hb, hml, hown, hts⟩ (met0_C_checkRuleCost l dC dI a cA sa p3 n_6 f_7 _ hw) (cwS 1 hts (wb_S wt_270 wt_271 wt_27 wt_272) rfl rfl rfl (by decide +kernel) ⟨Nat.le_of_ble_eq_true rfl, Nat.le_of_ble_eq_true rfl⟩) (ct_pre hK hP (hDa _ _) hZ hS hA) rfl rfl hl.1 rfl (lv_room (Nat.le_of_ble_eq_true rfl)) dC_chain_40 ⟨Nat.le_of_ble_eq_true rfl, Nat.le_of_ble_eq_true rfl⟩) (hDa _ _) hS hA (fun _ _ _ _ hw _ _ => False.elim hw)
        refine ct_v (va_runS (As := [.int p3]) (rest := []) ⟨hx, hb, hml, hown, hts⟩ (met0_C_checkRuleCost l dC dI a cA sa p3 n_6 f_7 _ hw) (cwS 1 hts (wb_S wt_270 wt_271 wt_27 wt_272) rfl rfl rfl (by decide +kernel) ⟨Nat.le_of_ble_eq_true rfl, Nat.le_of_ble_eq_true rfl⟩) (ct_pre hK hP (hDa _ _) hZ hS hA) rfl rfl hl.1 rfl (lv_room (Nat.le_of_ble_eq_true rfl)) dC_chain_40 ⟨Nat.le_of_ble_eq_true rfl, Nat.le_of_ble_eq_true rfl⟩) (hDa _ _) hS hA (fun n_11 f_12 H locs hw hP hS => ?_)
        refine lv_aload_n hx hb dC_chain_43 rfl (lv_at hl 0 rfl) ?_
        rcases hw with hw | hw
        rotate_left
        · exact ct_v (va_runV (As := []) (rest := []) ⟨hx, hb, hml, hown, hts⟩ (met0_C_checkRoomForRule l dC dI a cA sa n_11 f_12 _ hw) (cwV 0 hts (wb_V wt_274 wt_276 wt_1 wt_27 wt_277) rfl rfl rfl (by decide +kernel) ⟨Nat.le_of_ble_eq_true rfl, Nat.le_of_ble_eq_true rfl⟩) (ct_preV hK hP (hDa _ _) hZ hS hA (va_recv hK hP (ci := 0) (q0 := 0) rfl rfl)) rfl rfl hl.1 rfl (lv_room (Nat.le_of_ble_eq_true rfl)) dC_chain_44 ⟨Nat.le_of_ble_eq_true rfl, Nat.le_of_ble_eq_true rfl⟩) (hDa _ _) hS hA (fun _ _ _ _ hw _ _ => False.elim hw)
        refine ct_v (va_runV (As := []) (rest := []) ⟨hx, hb, hml, hown, hts⟩ (met0_C_checkRoomForRule l dC dI a cA sa n_11 f_12 _ hw) (cwV 0 hts (wb_V wt_274 wt_276 wt_1 wt_27 wt_277) rfl rfl rfl (by decide +kernel) ⟨Nat.le_of_ble_eq_true rfl, Nat.le_of_ble_eq_true rfl⟩) (ct_preV hK hP (hDa _ _) hZ hS hA (va_recv hK hP (ci := 0) (q0 := 0) rfl rfl)) rfl rfl hl.1 rfl (lv_room (Nat.le_of_ble_eq_true rfl)) dC_chain_44 ⟨Nat.le_of_ble_eq_true rfl, Nat.le_of_ble_eq_true rfl⟩) (hDa _ _) hS hA (fun n_14 f_15 H locs hw hP hS => ?_)
        refine lv_aload_n hx hb dC_chain_47 rfl (lv_at hl 0 rfl) ?_
        refine va_get (D := (dC, dI)) (ci := 0) (v := .ref (a 2)) (C := RC) (T := TC) (N := 2) hx hb hts (fun w h => List.mem_cons_of_mem _ (inC w h)) hown hK hP 0 rfl rfl 1 (by decide) (hts (.fieldLink RC 21 "CoverTrees" "forest" "LCoverTrees$Forest;") (List.mem_cons_of_mem _ wt_135)) (fun _ h9 => h9) rfl dC_chain_48 ?_
        refine lv_iconst (v := 0) hx hb dC_chain_51 (by decide) ?_
        refine va_put (D := (dC, dI)) (ci := 2) (v := .int 0) (ty := .int) (C := RF) (T := TF) (N := 11) hx hb hts (fun w h => List.mem_cons_of_mem _ (inF w h)) tyF tyF_ok nmF hown hK hP (hDa _ _) hS 2 rfl rfl 1 (by decide) (hts (.fieldLink RC 25 "CoverTrees$Forest" "count" "I") (List.mem_cons_of_mem _ wt_95)) (fun _ h9 => h9) rfl (by decide +kernel) rfl rfl (Nat.le_of_ble_eq_true rfl) dC_chain_52 (fun H locs hP _ hS => ?_)
        obtain ⟨n_16, en_16⟩ : ∃ z : ctN, z = va_up n_14 2 0 := ⟨_, rfl⟩
        have hw := hw n_16 en_16
        have hP : va_P (dC, dI) vcl (ctW a cA n_16 f_15) H := by rw [en_16]; exact hP
        refine lv_aload_n hx hb dC_chain_55 rfl (lv_at hl 0 rfl) ?_
        refine va_get (D := (dC, dI)) (ci := 0) (v := .ref (a 1)) (C := RC) (T := TC) (N := 2) hx hb hts (fun w h => List.mem_cons_of_mem _ (inC w h)) hown hK hP 0 rfl rfl 0 (by decide) (hts (.fieldLink RC 12 "CoverTrees" "grammar" "LCoverTrees$Grammar;") (List.mem_cons_of_mem _ wt_134)) (fun _ h9 => h9) rfl dC_chain_56 ?_
        refine lv_iload_n hx hb dC_chain_59 rfl (lv_at hl 1 rfl) ?_
        refine lv_iconst (v := (-1)) hx hb dC_chain_60 (by decide) ?_
        refine lv_iload_n hx hb dC_chain_61 rfl (lv_at hl 2 rfl) ?_
        refine lv_iconst (v := 0) hx hb dC_chain_62 (by decide) ?_
        refine lv_iload_n hx hb dC_chain_63 rfl (lv_at hl 3 rfl) ?_
        refine ct_i (va_runV (As := [.int p1, .int (-1), .int p2, .int 0, .int p3]) (rest := []) ⟨hx, hb, hml, hown, hts⟩ (met_G_addRule l dC dI a cA sa p1 (-1) p2 0 p3 n_16 f_15 _ hw) (cwV 5 hts (wb_V wt_279 wt_280 wt_281 wt_28 wt_282) rfl rfl rfl (by decide +kernel) ⟨Nat.le_of_ble_eq_true rfl, Nat.le_of_ble_eq_true rfl⟩) (ct_preV hK hP (hDa _ _) hZ hS hA (va_recv hK hP (ci := 1) (q0 := 1) rfl rfl)) rfl rfl hl.1 rfl (lv_room (Nat.le_of_ble_eq_true rfl)) dC_chain_64 ⟨Nat.le_of_ble_eq_true rfl, Nat.le_of_ble_eq_true rfl⟩) (hDa _ _) hS hA (fun r17 n_18 f_19 H locs hw hP hS => ?_)
        exact W.iret (v := r17) hx hb hr (fun t ht hW => ⟨⟨r17, (n_18, f_19), rfl, hw, ct_mkB ht hP⟩, hS.F ht⟩) hS.2.2 dC_chain_67
      · have hw := hw.2 c9
        exact False.elim hw
    · have hw := hw.2 c8
      exact False.elim hw
set_option maxHeartbeats 4000000 in
set_option maxRecDepth 100000 in
theorem metx_C_chain (l : Launch) (hl9 : l.stackTraces = false) (dC : Nat → ClassId) (dI : Nat → Nat → Nat) (a : Nat → Nat) (cA : Nat → ClassId) (sa : Nat → Nat) (p1 : Int32) (p2 : Int32) (p3 : Int32) (n : ctN) (f : ctF) (sz : Nat) {xp : String → ctN → ctF → Prop} (hw : wp_C_chain pFi xp p1 p2 p3 n f) : vx_Met l yC_chain wsC_chain ({ frames := 7, cells := 1, slots := 6, locals := 110 } : Room) (ct_Pc dC dI a cA sa [.ref (a 0), .int p1, .int p2, .int p3] n f sz) (va_Qi (fun (r : Int32) (u : ctN × ctF) => pFi r u.1 u.2) (ct_B dC dI a cA) (va_A (ctW a cA n f) sz)) (vx_X (fun (_ : ctN × ctF) => True) (fun E u t => xp E u.1 u.2 ∧ ct_B dC dI a cA u t) (va_A (ctW a cA n f) sz)) 1 6 (va_A (ctW a cA n f) sz) := by
  refine vx_ofW (cc := cC_chain) (maxL := 4) (ret := (some .int)) (by decide) rfl ?_
  intro p e s m args below meth c s₁ B hml htb hv
  obtain ⟨rfl, hsz, hP, hK, hD0, hZ⟩ := hv
  have hx := B.exec
  have hb := B.bytes
  have hr := B.returns
  have hts := atoms_spec (ws := wsC_chain) B.pre
  have hown : s.vm.findClass RC = some m.cls := findClass_of_methodNamed B.named
  have hlocks := B.notSynchronized
  subst hsz
  have hD := hD0.self (sz := s.heap.size)
  generalize hAe : va_A (ctW a cA n f) s.heap.size = A at hD hZ ⊢
  have hDa : ∀ (n : ctN) (f : ctF), va_D A (ctW a cA n f) := fun _ _ => ct_D hD
  have hA : ∀ q : Nat, s.heap.size ≤ q → A q := fun q h => by rw [← hAe]; exact Or.inr h
  have hS : va_S A s.heap s.heap [] := va_S.rf
  have hl := lv_entry ([.ref (a 0), .int p1, .int p2, .int p3]) (n := 4) (Nat.le_of_ble_eq_true rfl)
  rw [lg_entry_eq]
  generalize (lg_sl ([.ref (a 0), .int p1, .int p2, .int p3]) ++ List.replicate (4 - (lg_sl ([.ref (a 0), .int p1, .int p2, .int p3])).length) Slot.unset).toArray = ls at hl ⊢
  have hl : lv_has ls 4 [(0, .ref (a 0)), (1, .int p1), (2, .int p2), (3, .int p3)] := hl
  unfold wp_C_chain at hw
  refine lv_iload_n hx hb dC_chain_0 rfl (lv_at hl 1 rfl) ?_
  refine ct_i (va_runS (As := [.int p1]) (rest := []) ⟨hx, hb, hml, hown, hts⟩ (met_C_isGoal l dC dI a cA sa p1 n f _ hw) (cwS 1 hts (wb_S wt_261 wt_262 wt_27 wt_263) rfl rfl rfl (by decide +kernel) ⟨Nat.le_of_ble_eq_true rfl, Nat.le_of_ble_eq_true rfl⟩) (ct_pre hK hP (hDa _ _) hZ hS hA) rfl rfl hl.1 rfl (lv_room (Nat.le_of_ble_eq_true rfl)) dC_chain_1 ⟨Nat.le_of_ble_eq_true rfl, Nat.le_of_ble_eq_true rfl⟩) (hDa _ _) hS hA (fun r1 n_2 f_3 H locs hw hP hS => ?_)
  refine lv_if_eq (tgt := 14) hx hb dC_chain_4 (by decide) (fun c4 => ?_) (fun c4 => ?_)
  · have hw := hw.1 c4
    exact vx_throwS (own := RC) (cls := "java/lang/IllegalArgumentException") (text := "no such goal") (names := ["java/lang/RuntimeException", "java/lang/Exception"]) (ik := 35) (is := 77) (ic := 39) (sa := sa 6) hx hb hl9 hown (by decide +kernel) (by decide +kernel) (hts (.classLink RC 35 "java/lang/IllegalArgumentException") (List.mem_cons_of_mem _ wt_166)) (hts (.initialized "java/lang/IllegalArgumentException") (List.mem_cons_of_mem _ wt_34)) hZ.2.2.2.2.2.2.2.2.2.2.2.2.2.1 (vx_hat (L := vx_atS RC 39 "java/lang/IllegalArgumentException" ["java/lang/RuntimeException", "java/lang/Exception"]) (B := [.castable "java/lang/IllegalArgumentException" "java/lang/IllegalArgumentException", .declares ⟨"java/lang/RuntimeException", "<init>", "(Ljava/lang/String;)V"⟩, .declares ⟨"java/lang/Exception", "<init>", "(Ljava/lang/String;)V"⟩, .declares ⟨"java/lang/Throwable", "<init>", "(Ljava/lang/String;)V"⟩]) (fun w hw => hts w (List.mem_cons_of_mem _ (at_C_39 w hw))) bd_C_39 (vx_c (va_Nw.use rfl hZ.2.1) (vx_c (va_Nw.use rfl hZ.2.2.2.2.1) (vx_c (va_Nw.use rfl hZ.2.2.2.2.2.1) (vx_c (va_Nw.use rfl hZ.2.2.2.2.2.2.1) (vx_n)))))) gd_C_39 hZ.2.2.2.2.2.2.2.2.2.2.2.2.2.2.2.2.2.2.2.2.2.2.2.1 hZ.2.2.2.2.2.2.2.2.2.2.2.2.2.2.2.2.2.2.2.2.2.2.2.2 hS (hl.1.trans hml.symm) dC_chain_14 dC_chain_17 dC_chain_18 dC_chain_20 dC_chain_23 (fun x h => (htb x h).elim) (Nat.le_of_ble_eq_true rfl) (Nat.le_of_ble_eq_true rfl) (Nat.le_of_ble_eq_true rfl) (Nat.le_of_ble_eq_true rfl) hlocks (fun t _ h1 h2 => ⟨(n_2, f_3), trivial, ⟨hw, (ct_thr hP hS h1 h2).1⟩, (ct_thr hP hS h1 h2).2⟩) hS.2.2 (Nat.le_of_ble_eq_true rfl) (Nat.le_of_ble_eq_true rfl)
  · have hw := hw.2 c4
    refine lv_iload_n hx hb dC_chain_7 rfl (lv_at hl 2 rfl) ?_
    refine ct_i (va_runS (As := [.int p2]) (rest := []) ⟨hx, hb, hml, hown, hts⟩ (met_C_isGoal l dC dI a cA sa p2 n_2 f_3 _ hw) (cwS 1 hts (wb_S wt_261 wt_262 wt_27 wt_263) rfl rfl rfl (by decide +kernel) ⟨Nat.le_of_ble_eq_true rfl, Nat.le_of_ble_eq_true rfl⟩) (ct_pre hK hP (hDa _ _) hZ hS hA) rfl rfl hl.1 rfl (lv_room (Nat.le_of_ble_eq_true rfl)) dC_chain_8 ⟨Nat.le_of_ble_eq_true rfl, Nat.le_of_ble_eq_true rfl⟩) (hDa _ _) hS hA (fun r5 n_6 f_7 H locs hw hP hS => ?_)
    refine lv_if_ne (tgt := 24) hx hb dC_chain_11 (by decide) (fun c8 => ?_) (fun c8 => ?_)
    · have hw := hw.1 c8
      refine lv_iload_n hx hb dC_chain_24 rfl (lv_at hl 1 rfl) ?_
      refine lv_iload_n hx hb dC_chain_25 rfl (lv_at hl 2 rfl) ?_
      refine lv_icmp_ne (tgt := 39) hx hb dC_chain_26 (by decide) (fun c9 => ?_) (fun c9 => ?_)
      · have hw := hw.1 c9
        refine lv_iload_n hx hb dC_chain_39 rfl (lv_at hl 3 rfl) ?_
        rcases hw with hw | hw
        rotate_left
        · exact ct_xv (vx_runS (As := [.int p3]) (rest := []) ⟨hx, hb, hml, hown, hts⟩ (metx_C_checkRuleCost l hl9 dC dI a cA sa p3 n_6 f_7 _ hw) (cwS 1 hts (wb_S wt_270 wt_271 wt_27 wt_272) rfl rfl rfl (by decide +kernel) ⟨Nat.le_of_ble_eq_true rfl, Nat.le_of_ble_eq_true rfl⟩) (ct_pre hK hP (hDa _ _) hZ hS hA) rfl rfl hl.1 rfl (lv_room (Nat.le_of_ble_eq_true rfl)) dC_chain_40 ⟨Nat.le_of_ble_eq_true rfl, Nat.le_of_ble_eq_true rfl⟩) (hDa _ _) hS hA (fun E ce q9 n' f' H locs hw hP hS h1 h2 h3 => by exact vx_out (fun x h => (htb x h).elim) hlocks h1 h2 h3 (fun t ht hvm => ⟨(n', f'), trivial, ⟨hw, ct_mkB ht hP⟩, hS.F ht⟩) hS.2.2 (Nat.le_of_ble_eq_true rfl) (Nat.le_of_ble_eq_true rfl)) (fun _ _ _ _ hw _ _ => False.elim hw)
        refine ct_v (va_runS (As := [.int p3]) (rest := []) ⟨hx, hb, hml, hown, hts⟩ (met0_C_checkRuleCost l dC dI a cA sa p3 n_6 f_7 _ hw) (cwS 1 hts (wb_S wt_270 wt_271 wt_27 wt_272) rfl rfl rfl (by decide +kernel) ⟨Nat.le_of_ble_eq_true rfl, Nat.le_of_ble_eq_true rfl⟩) (ct_pre hK hP (hDa _ _) hZ hS hA) rfl rfl hl.1 rfl (lv_room (Nat.le_of_ble_eq_true rfl)) dC_chain_40 ⟨Nat.le_of_ble_eq_true rfl, Nat.le_of_ble_eq_true rfl⟩) (hDa _ _) hS hA (fun n_11 f_12 H locs hw hP hS => ?_)
        refine lv_aload_n hx hb dC_chain_43 rfl (lv_at hl 0 rfl) ?_
        rcases hw with hw | hw
        rotate_left
        · exact ct_xv (vx_runV (As := []) (rest := []) ⟨hx, hb, hml, hown, hts⟩ (metx_C_checkRoomForRule l hl9 dC dI a cA sa n_11 f_12 _ hw) (cwV 0 hts (wb_V wt_274 wt_276 wt_1 wt_27 wt_277) rfl rfl rfl (by decide +kernel) ⟨Nat.le_of_ble_eq_true rfl, Nat.le_of_ble_eq_true rfl⟩) (ct_preV hK hP (hDa _ _) hZ hS hA (va_recv hK hP (ci := 0) (q0 := 0) rfl rfl)) rfl rfl hl.1 rfl (lv_room (Nat.le_of_ble_eq_true rfl)) dC_chain_44 ⟨Nat.le_of_ble_eq_true rfl, Nat.le_of_ble_eq_true rfl⟩) (hDa _ _) hS hA (fun E ce q9 n' f' H locs hw hP hS h1 h2 h3 => by exact vx_out (fun x h => (htb x h).elim) hlocks h1 h2 h3 (fun t ht hvm => ⟨(n', f'), trivial, ⟨hw, ct_mkB ht hP⟩, hS.F ht⟩) hS.2.2 (Nat.le_of_ble_eq_true rfl) (Nat.le_of_ble_eq_true rfl)) (fun _ _ _ _ hw _ _ => False.elim hw)
        refine ct_v (va_runV (As := []) (rest := []) ⟨hx, hb, hml, hown, hts⟩ (met0_C_checkRoomForRule l dC dI a cA sa n_11 f_12 _ hw) (cwV 0 hts (wb_V wt_274 wt_276 wt_1 wt_27 wt_277) rfl rfl rfl (by decide +kernel) ⟨Nat.le_of_ble_eq_true rfl, Nat.le_of_ble_eq_true rfl⟩) (ct_preV hK hP (hDa _ _) hZ hS hA (va_recv hK hP (ci := 0) (q0 := 0) rfl rfl)) rfl rfl hl.1 rfl (lv_room (Nat.le_of_ble_eq_true rfl)) dC_chain_44 ⟨Nat.le_of_ble_eq_true rfl, Nat.le_of_ble_eq_true rfl⟩) (hDa _ _) hS hA (fun n_14 f_15 H locs hw hP hS => ?_)
        refine lv_aload_n hx hb dC_chain_47 rfl (lv_at hl 0 rfl) ?_
        refine va_get (D := (dC, dI)) (ci := 0) (v := .ref (a 2)) (C := RC) (T := TC) (N := 2) hx hb hts (fun w h => List.mem_cons_of_mem _ (inC w h)) hown hK hP 0 rfl rfl 1 (by decide) (hts (.fieldLink RC 21 "CoverTrees" "forest" "LCoverTrees$Forest;") (List.mem_cons_of_mem _ wt_135)) (fun _ h9 => h9) rfl dC_chain_48 ?_
        refine lv_iconst (v := 0) hx hb dC_chain_51 (by decide) ?_
        refine va_put (D := (dC, dI)) (ci := 2) (v := .int 0) (ty := .int) (C := RF) (T := TF) (N := 11) hx hb hts (fun w h => List.mem_cons_of_mem _ (inF w h)) tyF tyF_ok nmF hown hK hP (hDa _ _) hS 2 rfl rfl 1 (by decide) (hts (.fieldLink RC 25 "CoverTrees$Forest" "count" "I") (List.mem_cons_of_mem _ wt_95)) (fun _ h9 => h9) rfl (by decide +kernel) rfl rfl (Nat.le_of_ble_eq_true rfl) dC_chain_52 (fun H locs hP _ hS => ?_)
        obtain ⟨n_16, en_16⟩ : ∃ z : ctN, z = va_up n_14 2 0 := ⟨_, rfl⟩
        have hw := hw n_16 en_16
        have hP : va_P (dC, dI) vcl (ctW a cA n_16 f_15) H := by rw [en_16]; exact hP
        refine lv_aload_n hx hb dC_chain_55 rfl (lv_at hl 0 rfl) ?_
        refine va_get (D := (dC, dI)) (ci := 0) (v := .ref (a 1)) (C := RC) (T := TC) (N := 2) hx hb hts (fun w h => List.mem_cons_of_mem _ (inC w h)) hown hK hP 0 rfl rfl 0 (by decide) (hts (.fieldLink RC 12 "CoverTrees" "grammar" "LCoverTrees$Grammar;") (List.mem_cons_of_mem _ wt_134)) (fun _ h9 => h9) rfl dC_chain_56 ?_
        refine lv_iload_n hx hb dC_chain_59 rfl (lv_at hl 1 rfl) ?_
        refine lv_iconst (v := (-1)) hx hb dC_chain_60 (by decide) ?_
        refine lv_iload_n hx hb dC_chain_61 rfl (lv_at hl 2 rfl) ?_
        refine lv_iconst (v := 0) hx hb dC_chain_62 (by decide) ?_
        refine lv_iload_n hx hb dC_chain_63 rfl (lv_at hl 3 rfl) ?_
        refine ct_i (va_runV (As := [.int p1, .int (-1), .int p2, .int 0, .int p3]) (rest := []) ⟨hx, hb, hml, hown, hts⟩ (met_G_addRule l dC dI a cA sa p1 (-1) p2 0 p3 n_16 f_15 _ hw) (cwV 5 hts (wb_V wt_279 wt_280 wt_281 wt_28 wt_282) rfl rfl rfl (by decide +kernel) ⟨Nat.le_of_ble_eq_true rfl, Nat.le_of_ble_eq_true rfl⟩) (ct_preV hK hP (hDa _ _) hZ hS hA (va_recv hK hP (ci := 1) (q0 := 1) rfl rfl)) rfl rfl hl.1 rfl (lv_room (Nat.le_of_ble_eq_true rfl)) dC_chain_64 ⟨Nat.le_of_ble_eq_true rfl, Nat.le_of_ble_eq_true rfl⟩) (hDa _ _) hS hA (fun r17 n_18 f_19 H locs hw hP hS => ?_)
        exact False.elim hw
      · have hw := hw.2 c9
        exact vx_throwS (own := RC) (cls := "java/lang/IllegalArgumentException") (text := "both goals are one") (names := ["java/lang/RuntimeException", "java/lang/Exception"]) (ik := 35) (is := 79) (ic := 39) (sa := sa 7) hx hb hl9 hown (by decide +kernel) (by decide +kernel) (hts (.classLink RC 35 "java/lang/IllegalArgumentException") (List.mem_cons_of_mem _ wt_166)) (hts (.initialized "java/lang/IllegalArgumentException") (List.mem_cons_of_mem _ wt_34)) hZ.2.2.2.2.2.2.2.2.2.2.2.2.2.2.1 (vx_hat (L := vx_atS RC 39 "java/lang/IllegalArgumentException" ["java/lang/RuntimeException", "java/lang/Exception"]) (B := [.castable "java/lang/IllegalArgumentException" "java/lang/IllegalArgumentException", .declares ⟨"java/lang/RuntimeException", "<init>", "(Ljava/lang/String;)V"⟩, .declares ⟨"java/lang/Exception", "<init>", "(Ljava/lang/String;)V"⟩, .declares ⟨"java/lang/Throwable", "<init>", "(Ljava/lang/String;)V"⟩]) (fun w hw => hts w (List.mem_cons_of_mem _ (at_C_39 w hw))) bd_C_39 (vx_c (va_Nw.use rfl hZ.2.1) (vx_c (va_Nw.use rfl hZ.2.2.2.2.1) (vx_c (va_Nw.use rfl hZ.2.2.2.2.2.1) (vx_c (va_Nw.use rfl hZ.2.2.2.2.2.2.1) (vx_n)))))) gd_C_39 hZ.2.2.2.2.2.2.2.2.2.2.2.2.2.2.2.2.2.2.2.2.2.2.2.1 hZ.2.2.2.2.2.2.2.2.2.2.2.2.2.2.2.2.2.2.2.2.2.2.2.2 hS (hl.1.trans hml.symm) dC_chain_29 dC_chain_32 dC_chain_33 dC_chain_35 dC_chain_38 (fun x h => (htb x h).elim) (Nat.le_of_ble_eq_true rfl) (Nat.le_of_ble_eq_true rfl) (Nat.le_of_ble_eq_true rfl) (Nat.le_of_ble_eq_true rfl) hlocks (fun t _ h1 h2 => ⟨(n_6, f_7), trivial, ⟨hw, (ct_thr hP hS h1 h2).1⟩, (ct_thr hP hS h1 h2).2⟩) hS.2.2 (Nat.le_of_ble_eq_true rfl) (Nat.le_of_ble_eq_true rfl)
    · have hw := hw.2 c8
      exact vx_throwS (own := RC) (cls := "java/lang/IllegalArgumentException") (text := "no such goal") (names := ["java/lang/RuntimeException", "java/lang/Exception"]) (ik := 35) (is := 77) (ic := 39) (sa := sa 6) hx hb hl9 hown (by decide +kernel) (by decide +kernel) (hts (.classLink RC 35 "java/lang/IllegalArgumentException") (List.mem_cons_of_mem _ wt_166)) (hts (.initialized "java/lang/IllegalArgumentException") (List.mem_cons_of_mem _ wt_34)) hZ.2.2.2.2.2.2.2.2.2.2.2.2.2.1 (vx_hat (L := vx_atS RC 39 "java/lang/IllegalArgumentException" ["java/lang/RuntimeException", "java/lang/Exception"]) (B := [.castable "java/lang/IllegalArgumentException" "java/lang/IllegalArgumentException", .declares ⟨"java/lang/RuntimeException", "<init>", "(Ljava/lang/String;)V"⟩, .declares ⟨"java/lang/Exception", "<init>", "(Ljava/lang/String;)V"⟩, .declares ⟨"java/lang/Throwable", "<init>", "(Ljava/lang/String;)V"⟩]) (fun w hw => hts w (List.mem_cons_of_mem _ (at_C_39 w hw))) bd_C_39 (vx_c (va_Nw.use rfl hZ.2.1) (vx_c (va_Nw.use rfl hZ.2.2.2.2.1) (vx_c (va_Nw.use rfl hZ.2.2.2.2.2.1) (vx_c (va_Nw.use rfl hZ.2.2.2.2.2.2.1) (vx_n)))))) gd_C_39 hZ.2.2.2.2.2.2.2.2.2.2.2.2.2.2.2.2.2.2.2.2.2.2.2.1 hZ.2.2.2.2.2.2.2.2.2.2.2.2.2.2.2.2.2.2.2.2.2.2.2.2 hS (hl.1.trans hml.symm) dC_chain_14 dC_chain_17 dC_chain_18 dC_chain_20 dC_chain_23 (fun x h => (htb x h).elim) (Nat.le_of_ble_eq_true rfl) (Nat.le_of_ble_eq_true rfl) (Nat.le_of_ble_eq_true rfl) (Nat.le_of_ble_eq_true rfl) hlocks (fun t _ h1 h2 => ⟨(n_6, f_7), trivial, ⟨hw, (ct_thr hP hS h1 h2).1⟩, (ct_thr hP hS h1 h2).2⟩) hS.2.2 (Nat.le_of_ble_eq_true rfl) (Nat.le_of_ble_eq_true rfl)
def wp_C_node (post : Int32 → ctN → ctF → Prop) (xp : String → ctN → ctF → Prop) (p1 : Int32) (p2 : Int32) (p3 : Int32) (n : ctN) (f : ctF) : Prop := wp_G_hasOperator (fun (r1 : Int32) (n_2 : ctN) (f_3 : ctF) => (¬ r1 = 0 → (vp_in p1 10 ∧ (∀ x4_6 : Int32, x4_6 = (f_3 3 p1.toNatClampNeg) → ((x4_6 < 1 → ((x4_6 < 2 → (((n_2 2) < 120 → ((x4_6 < 1 → ((x4_6 < 2 → (wp_F_draft (fun (n_13 : ctN) (f_14 : ctF) => wp_F_draftIsTooDear (fun (r15 : Int32) (n_16 : ctN) (f_17 : ctF) => (r15 = 0 → (wp_F_keepDraft (fun (r19 : Int32) (n_20 : ctN) (f_21 : ctF) => post r19 n_20 f_21) n_16 f_17)) ∧ (¬ r15 = 0 → (xp "java/lang/UnsupportedOperationException" n_16 f_17))) n_13 f_14) p1 0 0 n_2 f_3)) ∧ (¬ x4_6 < 2 → (wp_F_draft (fun (n_23 : ctN) (f_24 : ctF) => wp_F_draftIsTooDear (fun (r25 : Int32) (n_26 : ctN) (f_27 : ctF) => (r25 = 0 → (wp_F_keepDraft (fun (r29 : Int32) (n_30 : ctN) (f_31 : ctF) => post r29 n_30 f_31) n_26 f_27)) ∧ (¬ r25 = 0 → (xp "java/lang/UnsupportedOperationException" n_26 f_27))) n_23 f_24) p1 0 p3 n_2 f_3)))) ∧ (¬ x4_6 < 1 → ((x4_6 < 2 → (wp_F_draft (fun (n_34 : ctN) (f_35 : ctF) => wp_F_draftIsTooDear (fun (r36 : Int32) (n_37 : ctN) (f_38 : ctF) => (r36 = 0 → (wp_F_keepDraft (fun (r40 : Int32) (n_41 : ctN) (f_42 : ctF) => post r40 n_41 f_42) n_37 f_38)) ∧ (¬ r36 = 0 → (xp "java/lang/UnsupportedOperationException" n_37 f_38))) n_34 f_35) p1 p2 0 n_2 f_3)) ∧ (¬ x4_6 < 2 → (wp_F_draft (fun (n_44 : ctN) (f_45 : ctF) => wp_F_draftIsTooDear (fun (r46 : Int32) (n_47 : ctN) (f_48 : ctF) => (r46 = 0 → (wp_F_keepDraft (fun (r50 : Int32) (n_51 : ctN) (f_52 : ctF) => post r50 n_51 f_52) n_47 f_48)) ∧ (¬ r46 = 0 → (xp "java/lang/UnsupportedOperationException" n_47 f_48))) n_44 f_45) p1 p2 p3 n_2 f_3)))))) ∧ (¬ (n_2 2) < 120 → (xp "java/lang/UnsupportedOperationException" n_2 f_3)))) ∧ (¬ x4_6 < 2 → (wp_F_has (fun (r53 : Int32) (n_54 : ctN) (f_55 : ctF) => (¬ r53 = 0 → (((n_54 2) < 120 → ((x4_6 < 1 → ((x4_6 < 2 → (wp_F_draft (fun (n_61 : ctN) (f_62 : ctF) => wp_F_draftIsTooDear (fun (r63 : Int32) (n_64 : ctN) (f_65 : ctF) => (r63 = 0 → (wp_F_keepDraft (fun (r67 : Int32) (n_68 : ctN) (f_69 : ctF) => post r67 n_68 f_69) n_64 f_65)) ∧ (¬ r63 = 0 → (xp "java/lang/UnsupportedOperationException" n_64 f_65))) n_61 f_62) p1 0 0 n_54 f_55)) ∧ (¬ x4_6 < 2 → (wp_F_draft (fun (n_71 : ctN) (f_72 : ctF) => wp_F_draftIsTooDear (fun (r73 : Int32) (n_74 : ctN) (f_75 : ctF) => (r73 = 0 → (wp_F_keepDraft (fun (r77 : Int32) (n_78 : ctN) (f_79 : ctF) => post r77 n_78 f_79) n_74 f_75)) ∧ (¬ r73 = 0 → (xp "java/lang/UnsupportedOperationException" n_74 f_75))) n_71 f_72) p1 0 p3 n_54 f_55)))) ∧ (¬ x4_6 < 1 → ((x4_6 < 2 → (wp_F_draft (fun (n_82 : ctN) (f_83 : ctF) => wp_F_draftIsTooDear (fun (r84 : Int32) (n_85 : ctN) (f_86 : ctF) => (r84 = 0 → (wp_F_keepDraft (fun (r88 : Int32) (n_89 : ctN) (f_90 : ctF) => post r88 n_89 f_90) n_85 f_86)) ∧ (¬ r84 = 0 → (xp "java/lang/UnsupportedOperationException" n_85 f_86))) n_82 f_83) p1 p2 0 n_54 f_55)) ∧ (¬ x4_6 < 2 → (wp_F_draft (fun (n_92 : ctN) (f_93 : ctF) => wp_F_draftIsTooDear (fun (r94 : Int32) (n_95 : ctN) (f_96 : ctF) => (r94 = 0 → (wp_F_keepDraft (fun (r98 : Int32) (n_99 : ctN) (f_100 : ctF) => post r98 n_99 f_100) n_95 f_96)) ∧ (¬ r94 = 0 → (xp "java/lang/UnsupportedOperationException" n_95 f_96))) n_92 f_93) p1 p2 p3 n_54 f_55)))))) ∧ (¬ (n_54 2) < 120 → (xp "java/lang/UnsupportedOperationException" n_54 f_55)))) ∧ (r53 = 0 → (xp "java/lang/IllegalArgumentException" n_54 f_55))) p3 n_2 f_3)))) ∧ (¬ x4_6 < 1 → (wp_F_has (fun (r101 : Int32) (n_102 : ctN) (f_103 : ctF) => (r101 = 0 → (xp "java/lang/IllegalArgumentException" n_102 f_103)) ∧ (¬ r101 = 0 → ((x4_6 < 2 → (((n_102 2) < 120 → ((x4_6 < 1 → ((x4_6 < 2 → (wp_F_draft (fun (n_110 : ctN) (f_111 : ctF) => wp_F_draftIsTooDear (fun (r112 : Int32) (n_113 : ctN) (f_114 : ctF) => (r112 = 0 → (wp_F_keepDraft (fun (r116 : Int32) (n_117 : ctN) (f_118 : ctF) => post r116 n_117 f_118) n_113 f_114)) ∧ (¬ r112 = 0 → (xp "java/lang/UnsupportedOperationException" n_113 f_114))) n_110 f_111) p1 0 0 n_102 f_103)) ∧ (¬ x4_6 < 2 → (wp_F_draft (fun (n_120 : ctN) (f_121 : ctF) => wp_F_draftIsTooDear (fun (r122 : Int32) (n_123 : ctN) (f_124 : ctF) => (r122 = 0 → (wp_F_keepDraft (fun (r126 : Int32) (n_127 : ctN) (f_128 : ctF) => post r126 n_127 f_128) n_123 f_124)) ∧ (¬ r122 = 0 → (xp "java/lang/UnsupportedOperationException" n_123 f_124))) n_120 f_121) p1 0 p3 n_102 f_103)))) ∧ (¬ x4_6 < 1 → ((x4_6 < 2 → (wp_F_draft (fun (n_131 : ctN) (f_132 : ctF) => wp_F_draftIsTooDear (fun (r133 : Int32) (n_134 : ctN) (f_135 : ctF) => (r133 = 0 → (wp_F_keepDraft (fun (r137 : Int32) (n_138 : ctN) (f_139 : ctF) => post r137 n_138 f_139) n_134 f_135)) ∧ (¬ r133 = 0 → (xp "java/lang/UnsupportedOperationException" n_134 f_135))) n_131 f_132) p1 p2 0 n_102 f_103)) ∧ (¬ x4_6 < 2 → (wp_F_draft (fun (n_141 : ctN) (f_142 : ctF) => wp_F_draftIsTooDear (fun (r143 : Int32) (n_144 : ctN) (f_145 : ctF) => (r143 = 0 → (wp_F_keepDraft (fun (r147 : Int32) (n_148 : ctN) (f_149 : ctF) => post r147 n_148 f_149) n_144 f_145)) ∧ (¬ r143 = 0 → (xp "java/lang/UnsupportedOperationException" n_144 f_145))) n_141 f_142) p1 p2 p3 n_102 f_103)))))) ∧ (¬ (n_102 2) < 120 → (xp "java/lang/UnsupportedOperationException" n_102 f_103)))) ∧ (¬ x4_6 < 2 → (wp_F_has (fun (r150 : Int32) (n_151 : ctN) (f_152 : ctF) => (¬ r150 = 0 → (((n_151 2) < 120 → ((x4_6 < 1 → ((x4_6 < 2 → (wp_F_draft (fun (n_158 : ctN) (f_159 : ctF) => wp_F_draftIsTooDear (fun (r160 : Int32) (n_161 : ctN) (f_162 : ctF) => (r160 = 0 → (wp_F_keepDraft (fun (r164 : Int32) (n_165 : ctN) (f_166 : ctF) => post r164 n_165 f_166) n_161 f_162)) ∧ (¬ r160 = 0 → (xp "java/lang/UnsupportedOperationException" n_161 f_162))) n_158 f_159) p1 0 0 n_151 f_152)) ∧ (¬ x4_6 < 2 → (wp_F_draft (fun (n_168 : ctN) (f_169 : ctF) => wp_F_draftIsTooDear (fun (r170 : Int32) (n_171 : ctN) (f_172 : ctF) => (r170 = 0 → (wp_F_keepDraft (fun (r174 : Int32) (n_175 : ctN) (f_176 : ctF) => post r174 n_175 f_176) n_171 f_172)) ∧ (¬ r170 = 0 → (xp "java/lang/UnsupportedOperationException" n_171 f_172))) n_168 f_169) p1 0 p3 n_151 f_152)))) ∧ (¬ x4_6 < 1 → ((x4_6 < 2 → (wp_F_draft (fun (n_179 : ctN) (f_180 : ctF) => wp_F_draftIsTooDear (fun (r181 : Int32) (n_182 : ctN) (f_183 : ctF) => (r181 = 0 → (wp_F_keepDraft (fun (r185 : Int32) (n_186 : ctN) (f_187 : ctF) => post r185 n_186 f_187) n_182 f_183)) ∧ (¬ r181 = 0 → (xp "java/lang/UnsupportedOperationException" n_182 f_183))) n_179 f_180) p1 p2 0 n_151 f_152)) ∧ (¬ x4_6 < 2 → (wp_F_draft (fun (n_189 : ctN) (f_190 : ctF) => wp_F_draftIsTooDear (fun (r191 : Int32) (n_192 : ctN) (f_193 : ctF) => (r191 = 0 → (wp_F_keepDraft (fun (r195 : Int32) (n_196 : ctN) (f_197 : ctF) => post r195 n_196 f_197) n_192 f_193)) ∧ (¬ r191 = 0 → (xp "java/lang/UnsupportedOperationException" n_192 f_193))) n_189 f_190) p1 p2 p3 n_151 f_152)))))) ∧ (¬ (n_151 2) < 120 → (xp "java/lang/UnsupportedOperationException" n_151 f_152)))) ∧ (r150 = 0 → (xp "java/lang/IllegalArgumentException" n_151 f_152))) p3 n_102 f_103))))) p2 n_2 f_3)))))) ∧ (r1 = 0 → (xp "java/lang/IllegalArgumentException" n_2 f_3))) p1 n f
set_option maxHeartbeats 4000000 in
set_option maxRecDepth 100000 in
theorem met0_C_node (l : Launch) (dC : Nat → ClassId) (dI : Nat → Nat → Nat) (a : Nat → Nat) (cA : Nat → ClassId) (sa : Nat → Nat) (p1 : Int32) (p2 : Int32) (p3 : Int32) (n : ctN) (f : ctF) (sz : Nat) {post : Int32 → ctN → ctF → Prop} (hw : wp_C_node post xF p1 p2 p3 n f) : Met l yC_node wsC_node ({ frames := 6, cells := 0, slots := 0, locals := 112 } : Room) (ct_Pc dC dI a cA sa [.ref (a 0), .int p1, .int p2, .int p3] n f sz) (va_Qi (fun (r : Int32) (u : ctN × ctF) => post r u.1 u.2) (ct_B dC dI a cA) (va_A (ctW a cA n f) sz)) 0 0 (va_A (ctW a cA n f) sz) := by
  refine Met.ofW (cc := cC_node) (maxL := 5) (ret := (some .int)) (by decide) rfl ?_
  intro p e s m args below meth c s₁ B hml hv
  obtain ⟨rfl, hsz, hP, hK, hD0, hZ⟩ := hv
  have hx := B.exec
  have hb := B.bytes
  have hr := B.returns
  have hts := atoms_spec (ws := wsC_node) B.pre
  have hown : s.vm.findClass RC = some m.cls := findClass_of_methodNamed B.named
  have hlocks := B.notSynchronized
  subst hsz
  have hD := hD0.self (sz := s.heap.size)
  generalize hAe : va_A (ctW a cA n f) s.heap.size = A at hD hZ ⊢
  have hDa : ∀ (n : ctN) (f : ctF), va_D A (ctW a cA n f) := fun _ _ => ct_D hD
  have hA : ∀ q : Nat, s.heap.size ≤ q → A q := fun q h => by rw [← hAe]; exact Or.inr h
  have hS : va_S A s.heap s.heap [] := va_S.rf
  have hl := lv_entry ([.ref (a 0), .int p1, .int p2, .int p3]) (n := 5) (Nat.le_of_ble_eq_true rfl)
  rw [lg_entry_eq]
  generalize (lg_sl ([.ref (a 0), .int p1, .int p2, .int p3]) ++ List.replicate (5 - (lg_sl ([.ref (a 0), .int p1, .int p2, .int p3])).length) Slot.unset).toArray = ls at hl ⊢
  have hl : lv_has ls 5 [(0, .ref (a 0)), (1, .int p1), (2, .int p2), (3, .int p3)] := hl
  unfold wp_C_node at hw
  refine lv_aload_n hx hb dC_node_0 rfl (lv_at hl 0 rfl) ?_
  refine va_get (D := (dC, dI)) (ci := 0) (v := .ref (a 1)) (C := RC) (T := TC) (N := 2) hx hb hts (fun w h => List.mem_cons_of_mem _ (inC w h)) hown hK hP 0 rfl rfl 0 (by decide) (hts (.fieldLink RC 12 "CoverTrees" "grammar" "LCoverTrees$Grammar;") (List.mem_cons_of_mem _ wt_134)) (fun _ h9 => h9) rfl dC_node_1 ?_
  refine lv_iload_n hx hb dC_node_4 rfl (lv_at hl 1 rfl) ?_
  refine ct_i (va_runV (As := [.int p1]) (rest := []) ⟨hx, hb, hml, hown, hts⟩ (met_G_hasOperator l dC dI a cA sa p1 n f _ hw) (cwV 1 hts (wb_V wt_264 wt_265 wt_266 wt_28 wt_267) rfl rfl rfl (by decide +kernel) ⟨Nat.le_of_ble_eq_true rfl, Nat.le_of_ble_eq_true rfl⟩) (ct_preV hK hP (hDa _ _) hZ hS hA (va_recv hK hP (ci := 1) (q0 := 1) rfl rfl)) rfl rfl hl.1 rfl (lv_room (Nat.le_of_ble_eq_true rfl)) dC_node_5 ⟨Nat.le_of_ble_eq_true rfl, Nat.le_of_ble_eq_true rfl⟩) (hDa _ _) hS hA (fun r1 n_2 f_3 H locs hw hP hS => ?_)
  refine lv_if_ne (tgt := 21) hx hb dC_node_8 (by decide) (fun c4 => ?_) (fun c4 => ?_)
  · have hw := hw.1 c4
    refine lv_aload_n hx hb dC_node_21 rfl (lv_at hl 0 rfl) ?_
    refine va_get (D := (dC, dI)) (ci := 0) (v := .ref (a 1)) (C := RC) (T := TC) (N := 2) hx hb hts (fun w h => List.mem_cons_of_mem _ (inC w h)) hown hK hP 0 rfl rfl 0 (by decide) (hts (.fieldLink RC 12 "CoverTrees" "grammar" "LCoverTrees$Grammar;") (List.mem_cons_of_mem _ wt_134)) (fun _ h9 => h9) rfl dC_node_22 ?_
    refine va_get (D := (dC, dI)) (ci := 1) (v := .ref (a 3)) (C := RG) (T := TG) (N := 8) hx hb hts (fun w h => List.mem_cons_of_mem _ (inG w h)) hown hK hP 1 rfl rfl 1 (by decide) (hts (.fieldLink RC 60 "CoverTrees$Grammar" "parts" "[I") (List.mem_cons_of_mem _ wt_55)) (fun _ h9 => h9) rfl dC_node_25 ?_
    refine lv_iload_n hx hb dC_node_28 rfl (lv_at hl 1 rfl) ?_
    obtain ⟨hi5, hw⟩ := hw
    refine va_iald hx hb hK hP 3 0 rfl rfl hi5 dC_node_29 ?_
    refine lv_topi (fun x4_6 ex4_6 => ?_)
    have hw := hw x4_6 ex4_6
    refine lv_istore (lv' := [(4, .int x4_6), (0, .ref (a 0)), (1, .int p1), (2, .int p2), (3, .int p3)]) hx hb dC_node_30 hl (by decide) rfl (fun ls hl => ?_)
    refine lv_iload hx hb dC_node_32 (lv_at hl 0 rfl) ?_
    refine lv_iconst (v := 1) hx hb dC_node_34 (by decide) ?_
    refine lv_icmp_lt (tgt := 49) hx hb dC_node_35 (by decide) (fun c7 => ?_) (fun c7 => ?_)
    · have hw := hw.1 c7
      refine lv_iload hx hb dC_node_49 (lv_at hl 0 rfl) ?_
      refine lv_iconst (v := 2) hx hb dC_node_51 (by decide) ?_
      refine lv_icmp_lt (tgt := 76) hx hb dC_node_52 (by decide) (fun c8 => ?_) (fun c8 => ?_)
      · have hw := hw.1 c8
        refine lv_aload_n hx hb dC_node_76 rfl (lv_at hl 1 rfl) ?_
        refine va_get (D := (dC, dI)) (ci := 0) (v := .ref (a 2)) (C := RC) (T := TC) (N := 2) hx hb hts (fun w h => List.mem_cons_of_mem _ (inC w h)) hown hK hP 0 rfl rfl 1 (by decide) (hts (.fieldLink RC 21 "CoverTrees" "forest" "LCoverTrees$Forest;") (List.mem_cons_of_mem _ wt_135)) (fun _ h9 => h9) rfl dC_node_77 ?_
        refine va_get (D := (dC, dI)) (ci := 2) (v := .int (n_2 2)) (C := RF) (T := TF) (N := 11) hx hb hts (fun w h => List.mem_cons_of_mem _ (inF w h)) hown hK hP 2 rfl rfl 1 (by decide) (hts (.fieldLink RC 25 "CoverTrees$Forest" "count" "I") (List.mem_cons_of_mem _ wt_95)) (fun _ h9 => h9) rfl dC_node_80 ?_
        refine lv_bipush (v := 120) hx hb dC_node_83 (by decide) ?_
        refine lv_icmp_lt (tgt := 98) hx hb dC_node_85 (by decide) (fun c9 => ?_) (fun c9 => ?_)
        · have hw := hw.1 c9
          refine lv_aload_n hx hb dC_node_98 rfl (lv_at hl 1 rfl) ?_
          refine va_get (D := (dC, dI)) (ci := 0) (v := .ref (a 2)) (C := RC) (T := TC) (N := 2) hx hb hts (fun w h => List.mem_cons_of_mem _ (inC w h)) hown hK hP 0 rfl rfl 1 (by decide) (hts (.fieldLink RC 21 "CoverTrees" "forest" "LCoverTrees$Forest;") (List.mem_cons_of_mem _ wt_135)) (fun _ h9 => h9) rfl dC_node_99 ?_
          refine lv_iload_n hx hb dC_node_102 rfl (lv_at hl 2 rfl) ?_
          refine lv_iload hx hb dC_node_103 (lv_at hl 0 rfl) ?_
          refine lv_iconst (v := 1) hx hb dC_node_105 (by decide) ?_
          refine lv_icmp_lt (tgt := 113) hx hb dC_node_106 (by decide) (fun c10 => ?_) (fun c10 => ?_)
          · have hw := hw.1 c10
            refine lv_iconst (v := 0) hx hb dC_node_113 (by decide) ?_
            refine lv_iload hx hb dC_node_114 (lv_at hl 0 rfl) ?_
            refine lv_iconst (v := 2) hx hb dC_node_116 (by decide) ?_
            refine lv_icmp_lt (tgt := 124) hx hb dC_node_117 (by decide) (fun c11 => ?_) (fun c11 => ?_)
            · have hw := hw.1 c11
              refine lv_iconst (v := 0) hx hb dC_node_124 (by decide) ?_
              refine ct_v (va_runV (As := [.int p1, .int 0, .int 0]) (rest := []) ⟨hx, hb, hml, hown, hts⟩ (met_F_draft l dC dI a cA sa p1 0 0 n_2 f_3 _ hw) (cwV 3 hts (wb_V wt_306 wt_307 wt_308 wt_29 wt_309) rfl rfl rfl (by decide +kernel) ⟨Nat.le_of_ble_eq_true rfl, Nat.le_of_ble_eq_true rfl⟩) (ct_preV hK hP (hDa _ _) hZ hS hA (va_recv hK hP (ci := 2) (q0 := 2) rfl rfl)) rfl rfl hl.1 rfl (lv_room (Nat.le_of_ble_eq_true rfl)) dC_node_125 ⟨Nat.le_of_ble_eq_true rfl, Nat.le_of_ble_eq_true rfl⟩) (hDa _ _) hS hA (fun n_13 f_14 H locs hw hP hS => ?_)
              refine lv_aload_n hx hb dC_node_128 rfl (lv_at hl 1 rfl) ?_
              refine va_get (D := (dC, dI)) (ci := 0) (v := .ref (a 2)) (C := RC) (T := TC) (N := 2) hx hb hts (fun w h => List.mem_cons_of_mem _ (inC w h)) hown hK hP 0 rfl rfl 1 (by decide) (hts (.fieldLink RC 21 "CoverTrees" "forest" "LCoverTrees$Forest;") (List.mem_cons_of_mem _ wt_135)) (fun _ h9 => h9) rfl dC_node_129 ?_
              refine ct_i (va_runV (As := []) (rest := []) ⟨hx, hb, hml, hown, hts⟩ (met_F_draftIsTooDear l dC dI a cA sa n_13 f_14 _ hw) (cwV 0 hts (wb_V wt_352 wt_353 wt_354 wt_29 wt_355) rfl rfl rfl (by decide +kernel) ⟨Nat.le_of_ble_eq_true rfl, Nat.le_of_ble_eq_true rfl⟩) (ct_preV hK hP (hDa _ _) hZ hS hA (va_recv hK hP (ci := 2) (q0 := 2) rfl rfl)) rfl rfl hl.1 rfl (lv_room (Nat.le_of_ble_eq_true rfl)) dC_node_132 ⟨Nat.le_of_ble_eq_true rfl, Nat.le_of_ble_eq_true rfl⟩) (hDa _ _) hS hA (fun r15 n_16 f_17 H locs hw hP hS => ?_)
              refine lv_if_eq (tgt := 148) hx hb dC_node_135 (by decide) (fun c18 => ?_) (fun c18 => ?_)
              · have hw := hw.1 c18
                refine lv_aload_n hx hb dC_node_148 rfl (lv_at hl 1 rfl) ?_
                refine va_get (D := (dC, dI)) (ci := 0) (v := .ref (a 2)) (C := RC) (T := TC) (N := 2) hx hb hts (fun w h => List.mem_cons_of_mem _ (inC w h)) hown hK hP 0 rfl rfl 1 (by decide) (hts (.fieldLink RC 21 "CoverTrees" "forest" "LCoverTrees$Forest;") (List.mem_cons_of_mem _ wt_135)) (fun _ h9 => h9) rfl dC_node_149 ?_
                refine ct_i (va_runV (As := []) (rest := []) ⟨hx, hb, hml, hown, hts⟩ (met_F_keepDraft l dC dI a cA sa n_16 f_17 _ hw) (cwV 0 hts (wb_V wt_358 wt_359 wt_360 wt_29 wt_361) rfl rfl rfl (by decide +kernel) ⟨Nat.le_of_ble_eq_true rfl, Nat.le_of_ble_eq_true rfl⟩) (ct_preV hK hP (hDa _ _) hZ hS hA (va_recv hK hP (ci := 2) (q0 := 2) rfl rfl)) rfl rfl hl.1 rfl (lv_room (Nat.le_of_ble_eq_true rfl)) dC_node_152 ⟨Nat.le_of_ble_eq_true rfl, Nat.le_of_ble_eq_true rfl⟩) (hDa _ _) hS hA (fun r19 n_20 f_21 H locs hw hP hS => ?_)
                exact W.iret (v := r19) hx hb hr (fun t ht hW => ⟨⟨r19, (n_20, f_21), rfl, hw, ct_mkB ht hP⟩, hS.F ht⟩) hS.2.2 dC_node_155
              · have hw := hw.2 c18
                exact False.elim hw
            · have hw := hw.2 c11
              refine lv_iload_n hx hb dC_node_120 rfl (lv_at hl 4 rfl) ?_
              refine lv_goto (tgt := 125) hx hb dC_node_121 (by decide) ?_
              refine ct_v (va_runV (As := [.int p1, .int 0, .int p3]) (rest := []) ⟨hx, hb, hml, hown, hts⟩ (met_F_draft l dC dI a cA sa p1 0 p3 n_2 f_3 _ hw) (cwV 3 hts (wb_V wt_306 wt_307 wt_308 wt_29 wt_309) rfl rfl rfl (by decide +kernel) ⟨Nat.le_of_ble_eq_true rfl, Nat.le_of_ble_eq_true rfl⟩) (ct_preV hK hP (hDa _ _) hZ hS hA (va_recv hK hP (ci := 2) (q0 := 2) rfl rfl)) rfl rfl hl.1 rfl (lv_room (Nat.le_of_ble_eq_true rfl)) dC_node_125 ⟨Nat.le_of_ble_eq_true rfl, Nat.le_of_ble_eq_true rfl⟩) (hDa _ _) hS hA (fun n_23 f_24 H locs hw hP hS => ?_)
              refine lv_aload_n hx hb dC_node_128 rfl (lv_at hl 1 rfl) ?_
              refine va_get (D := (dC, dI)) (ci := 0) (v := .ref (a 2)) (C := RC) (T := TC) (N := 2) hx hb hts (fun w h => List.mem_cons_of_mem _ (inC w h)) hown hK hP 0 rfl rfl 1 (by decide) (hts (.fieldLink RC 21 "CoverTrees" "forest" "LCoverTrees$Forest;") (List.mem_cons_of_mem _ wt_135)) (fun _ h9 => h9) rfl dC_node_129 ?_
              refine ct_i (va_runV (As := []) (rest := []) ⟨hx, hb, hml, hown, hts⟩ (met_F_draftIsTooDear l dC dI a cA sa n_23 f_24 _ hw) (cwV 0 hts (wb_V wt_352 wt_353 wt_354 wt_29 wt_355) rfl rfl rfl (by decide +kernel) ⟨Nat.le_of_ble_eq_true rfl, Nat.le_of_ble_eq_true rfl⟩) (ct_preV hK hP (hDa _ _) hZ hS hA (va_recv hK hP (ci := 2) (q0 := 2) rfl rfl)) rfl rfl hl.1 rfl (lv_room (Nat.le_of_ble_eq_true rfl)) dC_node_132 ⟨Nat.le_of_ble_eq_true rfl, Nat.le_of_ble_eq_true rfl⟩) (hDa _ _) hS hA (fun r25 n_26 f_27 H locs hw hP hS => ?_)
              refine lv_if_eq (tgt := 148) hx hb dC_node_135 (by decide) (fun c28 => ?_) (fun c28 => ?_)
              · have hw := hw.1 c28
                refine lv_aload_n hx hb dC_node_148 rfl (lv_at hl 1 rfl) ?_
                refine va_get (D := (dC, dI)) (ci := 0) (v := .ref (a 2)) (C := RC) (T := TC) (N := 2) hx hb hts (fun w h => List.mem_cons_of_mem _ (inC w h)) hown hK hP 0 rfl rfl 1 (by decide) (hts (.fieldLink RC 21 "CoverTrees" "forest" "LCoverTrees$Forest;") (List.mem_cons_of_mem _ wt_135)) (fun _ h9 => h9) rfl dC_node_149 ?_
                refine ct_i (va_runV (As := []) (rest := []) ⟨hx, hb, hml, hown, hts⟩ (met_F_keepDraft l dC dI a cA sa n_26 f_27 _ hw) (cwV 0 hts (wb_V wt_358 wt_359 wt_360 wt_29 wt_361) rfl rfl rfl (by decide +kernel) ⟨Nat.le_of_ble_eq_true rfl, Nat.le_of_ble_eq_true rfl⟩) (ct_preV hK hP (hDa _ _) hZ hS hA (va_recv hK hP (ci := 2) (q0 := 2) rfl rfl)) rfl rfl hl.1 rfl (lv_room (Nat.le_of_ble_eq_true rfl)) dC_node_152 ⟨Nat.le_of_ble_eq_true rfl, Nat.le_of_ble_eq_true rfl⟩) (hDa _ _) hS hA (fun r29 n_30 f_31 H locs hw hP hS => ?_)
                exact W.iret (v := r29) hx hb hr (fun t ht hW => ⟨⟨r29, (n_30, f_31), rfl, hw, ct_mkB ht hP⟩, hS.F ht⟩) hS.2.2 dC_node_155
              · have hw := hw.2 c28
                exact False.elim hw
          · have hw := hw.2 c10
            refine lv_iload_n hx hb dC_node_109 rfl (lv_at hl 3 rfl) ?_
            refine lv_goto (tgt := 114) hx hb dC_node_110 (by decide) ?_
            refine lv_iload hx hb dC_node_114 (lv_at hl 0 rfl) ?_
            refine lv_iconst (v := 2) hx hb dC_node_116 (by decide) ?_
            refine lv_icmp_lt (tgt := 124) hx hb dC_node_117 (by decide) (fun c32 => ?_) (fun c32 => ?_)
            · have hw := hw.1 c32
              refine lv_iconst (v := 0) hx hb dC_node_124 (by decide) ?_
              refine ct_v (va_runV (As := [.int p1, .int p2, .int 0]) (rest := []) ⟨hx, hb, hml, hown, hts⟩ (met_F_draft l dC dI a cA sa p1 p2 0 n_2 f_3 _ hw) (cwV 3 hts (wb_V wt_306 wt_307 wt_308 wt_29 wt_309) rfl rfl rfl (by decide +kernel) ⟨Nat.le_of_ble_eq_true rfl, Nat.le_of_ble_eq_true rfl⟩) (ct_preV hK hP (hDa _ _) hZ hS hA (va_recv hK hP (ci := 2) (q0 := 2) rfl rfl)) rfl rfl hl.1 rfl (lv_room (Nat.le_of_ble_eq_true rfl)) dC_node_125 ⟨Nat.le_of_ble_eq_true rfl, Nat.le_of_ble_eq_true rfl⟩) (hDa _ _) hS hA (fun n_34 f_35 H locs hw hP hS => ?_)
              refine lv_aload_n hx hb dC_node_128 rfl (lv_at hl 1 rfl) ?_
              refine va_get (D := (dC, dI)) (ci := 0) (v := .ref (a 2)) (C := RC) (T := TC) (N := 2) hx hb hts (fun w h => List.mem_cons_of_mem _ (inC w h)) hown hK hP 0 rfl rfl 1 (by decide) (hts (.fieldLink RC 21 "CoverTrees" "forest" "LCoverTrees$Forest;") (List.mem_cons_of_mem _ wt_135)) (fun _ h9 => h9) rfl dC_node_129 ?_
              refine ct_i (va_runV (As := []) (rest := []) ⟨hx, hb, hml, hown, hts⟩ (met_F_draftIsTooDear l dC dI a cA sa n_34 f_35 _ hw) (cwV 0 hts (wb_V wt_352 wt_353 wt_354 wt_29 wt_355) rfl rfl rfl (by decide +kernel) ⟨Nat.le_of_ble_eq_true rfl, Nat.le_of_ble_eq_true rfl⟩) (ct_preV hK hP (hDa _ _) hZ hS hA (va_recv hK hP (ci := 2) (q0 := 2) rfl rfl)) rfl rfl hl.1 rfl (lv_room (Nat.le_of_ble_eq_true rfl)) dC_node_132 ⟨Nat.le_of_ble_eq_true rfl, Nat.le_of_ble_eq_true rfl⟩) (hDa _ _) hS hA (fun r36 n_37 f_38 H locs hw hP hS => ?_)
              refine lv_if_eq (tgt := 148) hx hb dC_node_135 (by decide) (fun c39 => ?_) (fun c39 => ?_)
              · have hw := hw.1 c39
                refine lv_aload_n hx hb dC_node_148 rfl (lv_at hl 1 rfl) ?_
                refine va_get (D := (dC, dI)) (ci := 0) (v := .ref (a 2)) (C := RC) (T := TC) (N := 2) hx hb hts (fun w h => List.mem_cons_of_mem _ (inC w h)) hown hK hP 0 rfl rfl 1 (by decide) (hts (.fieldLink RC 21 "CoverTrees" "forest" "LCoverTrees$Forest;") (List.mem_cons_of_mem _ wt_135)) (fun _ h9 => h9) rfl dC_node_149 ?_
                refine ct_i (va_runV (As := []) (rest := []) ⟨hx, hb, hml, hown, hts⟩ (met_F_keepDraft l dC dI a cA sa n_37 f_38 _ hw) (cwV 0 hts (wb_V wt_358 wt_359 wt_360 wt_29 wt_361) rfl rfl rfl (by decide +kernel) ⟨Nat.le_of_ble_eq_true rfl, Nat.le_of_ble_eq_true rfl⟩) (ct_preV hK hP (hDa _ _) hZ hS hA (va_recv hK hP (ci := 2) (q0 := 2) rfl rfl)) rfl rfl hl.1 rfl (lv_room (Nat.le_of_ble_eq_true rfl)) dC_node_152 ⟨Nat.le_of_ble_eq_true rfl, Nat.le_of_ble_eq_true rfl⟩) (hDa _ _) hS hA (fun r40 n_41 f_42 H locs hw hP hS => ?_)
                exact W.iret (v := r40) hx hb hr (fun t ht hW => ⟨⟨r40, (n_41, f_42), rfl, hw, ct_mkB ht hP⟩, hS.F ht⟩) hS.2.2 dC_node_155
              · have hw := hw.2 c39
                exact False.elim hw
            · have hw := hw.2 c32
              refine lv_iload_n hx hb dC_node_120 rfl (lv_at hl 4 rfl) ?_
              refine lv_goto (tgt := 125) hx hb dC_node_121 (by decide) ?_
              refine ct_v (va_runV (As := [.int p1, .int p2, .int p3]) (rest := []) ⟨hx, hb, hml, hown, hts⟩ (met_F_draft l dC dI a cA sa p1 p2 p3 n_2 f_3 _ hw) (cwV 3 hts (wb_V wt_306 wt_307 wt_308 wt_29 wt_309) rfl rfl rfl (by decide +kernel) ⟨Nat.le_of_ble_eq_true rfl, Nat.le_of_ble_eq_true rfl⟩) (ct_preV hK hP (hDa _ _) hZ hS hA (va_recv hK hP (ci := 2) (q0 := 2) rfl rfl)) rfl rfl hl.1 rfl (lv_room (Nat.le_of_ble_eq_true rfl)) dC_node_125 ⟨Nat.le_of_ble_eq_true rfl, Nat.le_of_ble_eq_true rfl⟩) (hDa _ _) hS hA (fun n_44 f_45 H locs hw hP hS => ?_)
              refine lv_aload_n hx hb dC_node_128 rfl (lv_at hl 1 rfl) ?_
              refine va_get (D := (dC, dI)) (ci := 0) (v := .ref (a 2)) (C := RC) (T := TC) (N := 2) hx hb hts (fun w h => List.mem_cons_of_mem _ (inC w h)) hown hK hP 0 rfl rfl 1 (by decide) (hts (.fieldLink RC 21 "CoverTrees" "forest" "LCoverTrees$Forest;") (List.mem_cons_of_mem _ wt_135)) (fun _ h9 => h9) rfl dC_node_129 ?_
              refine ct_i (va_runV (As := []) (rest := []) ⟨hx, hb, hml, hown, hts⟩ (met_F_draftIsTooDear l dC dI a cA sa n_44 f_45 _ hw) (cwV 0 hts (wb_V wt_352 wt_353 wt_354 wt_29 wt_355) rfl rfl rfl (by decide +kernel) ⟨Nat.le_of_ble_eq_true rfl, Nat.le_of_ble_eq_true rfl⟩) (ct_preV hK hP (hDa _ _) hZ hS hA (va_recv hK hP (ci := 2) (q0 := 2) rfl rfl)) rfl rfl hl.1 rfl (lv_room (Nat.le_of_ble_eq_true rfl)) dC_node_132 ⟨Nat.le_of_ble_eq_true rfl, Nat.le_of_ble_eq_true rfl⟩) (hDa _ _) hS hA (fun r46 n_47 f_48 H locs hw hP hS => ?_)
              refine lv_if_eq (tgt := 148) hx hb dC_node_135 (by decide) (fun c49 => ?_) (fun c49 => ?_)
              · have hw := hw.1 c49
                refine lv_aload_n hx hb dC_node_148 rfl (lv_at hl 1 rfl) ?_
                refine va_get (D := (dC, dI)) (ci := 0) (v := .ref (a 2)) (C := RC) (T := TC) (N := 2) hx hb hts (fun w h => List.mem_cons_of_mem _ (inC w h)) hown hK hP 0 rfl rfl 1 (by decide) (hts (.fieldLink RC 21 "CoverTrees" "forest" "LCoverTrees$Forest;") (List.mem_cons_of_mem _ wt_135)) (fun _ h9 => h9) rfl dC_node_149 ?_
                refine ct_i (va_runV (As := []) (rest := []) ⟨hx, hb, hml, hown, hts⟩ (met_F_keepDraft l dC dI a cA sa n_47 f_48 _ hw) (cwV 0 hts (wb_V wt_358 wt_359 wt_360 wt_29 wt_361) rfl rfl rfl (by decide +kernel) ⟨Nat.le_of_ble_eq_true rfl, Nat.le_of_ble_eq_true rfl⟩) (ct_preV hK hP (hDa _ _) hZ hS hA (va_recv hK hP (ci := 2) (q0 := 2) rfl rfl)) rfl rfl hl.1 rfl (lv_room (Nat.le_of_ble_eq_true rfl)) dC_node_152 ⟨Nat.le_of_ble_eq_true rfl, Nat.le_of_ble_eq_true rfl⟩) (hDa _ _) hS hA (fun r50 n_51 f_52 H locs hw hP hS => ?_)
                exact W.iret (v := r50) hx hb hr (fun t ht hW => ⟨⟨r50, (n_51, f_52), rfl, hw, ct_mkB ht hP⟩, hS.F ht⟩) hS.2.2 dC_node_155
              · have hw := hw.2 c49
                exact False.elim hw
        · have hw := hw.2 c9
          exact False.elim hw
      · have hw := hw.2 c8
        refine lv_aload_n hx hb dC_node_55 rfl (lv_at hl 1 rfl) ?_
        refine va_get (D := (dC, dI)) (ci := 0) (v := .ref (a 2)) (C := RC) (T := TC) (N := 2) hx hb hts (fun w h => List.mem_cons_of_mem _ (inC w h)) hown hK hP 0 rfl rfl 1 (by decide) (hts (.fieldLink RC 21 "CoverTrees" "forest" "LCoverTrees$Forest;") (List.mem_cons_of_mem _ wt_135)) (fun _ h9 => h9) rfl dC_node_56 ?_
        refine lv_iload_n hx hb dC_node_59 rfl (lv_at hl 4 rfl) ?_
        refine ct_i (va_runV (As := [.int p3]) (rest := []) ⟨hx, hb, hml, hown, hts⟩ (met_F_has l dC dI a cA sa p3 n_2 f_3 _ hw) (cwV 1 hts (wb_V wt_300 wt_301 wt_302 wt_29 wt_303) rfl rfl rfl (by decide +kernel) ⟨Nat.le_of_ble_eq_true rfl, Nat.le_of_ble_eq_true rfl⟩) (ct_preV hK hP (hDa _ _) hZ hS hA (va_recv hK hP (ci := 2) (q0 := 2) rfl rfl)) rfl rfl hl.1 rfl (lv_room (Nat.le_of_ble_eq_true rfl)) dC_node_60 ⟨Nat.le_of_ble_eq_true rfl, Nat.le_of_ble_eq_true rfl⟩) (hDa _ _) hS hA (fun r53 n_54 f_55 H locs hw hP hS => ?_)
        refine lv_if_ne (tgt := 76) hx hb dC_node_63 (by decide) (fun c56 => ?_) (fun c56 => ?_)
        · have hw := hw.1 c56
          refine lv_aload_n hx hb dC_node_76 rfl (lv_at hl 1 rfl) ?_
          refine va_get (D := (dC, dI)) (ci := 0) (v := .ref (a 2)) (C := RC) (T := TC) (N := 2) hx hb hts (fun w h => List.mem_cons_of_mem _ (inC w h)) hown hK hP 0 rfl rfl 1 (by decide) (hts (.fieldLink RC 21 "CoverTrees" "forest" "LCoverTrees$Forest;") (List.mem_cons_of_mem _ wt_135)) (fun _ h9 => h9) rfl dC_node_77 ?_
          refine va_get (D := (dC, dI)) (ci := 2) (v := .int (n_54 2)) (C := RF) (T := TF) (N := 11) hx hb hts (fun w h => List.mem_cons_of_mem _ (inF w h)) hown hK hP 2 rfl rfl 1 (by decide) (hts (.fieldLink RC 25 "CoverTrees$Forest" "count" "I") (List.mem_cons_of_mem _ wt_95)) (fun _ h9 => h9) rfl dC_node_80 ?_
          refine lv_bipush (v := 120) hx hb dC_node_83 (by decide) ?_
          refine lv_icmp_lt (tgt := 98) hx hb dC_node_85 (by decide) (fun c57 => ?_) (fun c57 => ?_)
          · have hw := hw.1 c57
            refine lv_aload_n hx hb dC_node_98 rfl (lv_at hl 1 rfl) ?_
            refine va_get (D := (dC, dI)) (ci := 0) (v := .ref (a 2)) (C := RC) (T := TC) (N := 2) hx hb hts (fun w h => List.mem_cons_of_mem _ (inC w h)) hown hK hP 0 rfl rfl 1 (by decide) (hts (.fieldLink RC 21 "CoverTrees" "forest" "LCoverTrees$Forest;") (List.mem_cons_of_mem _ wt_135)) (fun _ h9 => h9) rfl dC_node_99 ?_
            refine lv_iload_n hx hb dC_node_102 rfl (lv_at hl 2 rfl) ?_
            refine lv_iload hx hb dC_node_103 (lv_at hl 0 rfl) ?_
            refine lv_iconst (v := 1) hx hb dC_node_105 (by decide) ?_
            refine lv_icmp_lt (tgt := 113) hx hb dC_node_106 (by decide) (fun c58 => ?_) (fun c58 => ?_)
            · have hw := hw.1 c58
              refine lv_iconst (v := 0) hx hb dC_node_113 (by decide) ?_
              refine lv_iload hx hb dC_node_114 (lv_at hl 0 rfl) ?_
              refine lv_iconst (v := 2) hx hb dC_node_116 (by decide) ?_
              refine lv_icmp_lt (tgt := 124) hx hb dC_node_117 (by decide) (fun c59 => ?_) (fun c59 => ?_)
              · have hw := hw.1 c59
                refine lv_iconst (v := 0) hx hb dC_node_124 (by decide) ?_
                refine ct_v (va_runV (As := [.int p1, .int 0, .int 0]) (rest := []) ⟨hx, hb, hml, hown, hts⟩ (met_F_draft l dC dI a cA sa p1 0 0 n_54 f_55 _ hw) (cwV 3 hts (wb_V wt_306 wt_307 wt_308 wt_29 wt_309) rfl rfl rfl (by decide +kernel) ⟨Nat.le_of_ble_eq_true rfl, Nat.le_of_ble_eq_true rfl⟩) (ct_preV hK hP (hDa _ _) hZ hS hA (va_recv hK hP (ci := 2) (q0 := 2) rfl rfl)) rfl rfl hl.1 rfl (lv_room (Nat.le_of_ble_eq_true rfl)) dC_node_125 ⟨Nat.le_of_ble_eq_true rfl, Nat.le_of_ble_eq_true rfl⟩) (hDa _ _) hS hA (fun n_61 f_62 H locs hw hP hS => ?_)
                refine lv_aload_n hx hb dC_node_128 rfl (lv_at hl 1 rfl) ?_
                refine va_get (D := (dC, dI)) (ci := 0) (v := .ref (a 2)) (C := RC) (T := TC) (N := 2) hx hb hts (fun w h => List.mem_cons_of_mem _ (inC w h)) hown hK hP 0 rfl rfl 1 (by decide) (hts (.fieldLink RC 21 "CoverTrees" "forest" "LCoverTrees$Forest;") (List.mem_cons_of_mem _ wt_135)) (fun _ h9 => h9) rfl dC_node_129 ?_
                refine ct_i (va_runV (As := []) (rest := []) ⟨hx, hb, hml, hown, hts⟩ (met_F_draftIsTooDear l dC dI a cA sa n_61 f_62 _ hw) (cwV 0 hts (wb_V wt_352 wt_353 wt_354 wt_29 wt_355) rfl rfl rfl (by decide +kernel) ⟨Nat.le_of_ble_eq_true rfl, Nat.le_of_ble_eq_true rfl⟩) (ct_preV hK hP (hDa _ _) hZ hS hA (va_recv hK hP (ci := 2) (q0 := 2) rfl rfl)) rfl rfl hl.1 rfl (lv_room (Nat.le_of_ble_eq_true rfl)) dC_node_132 ⟨Nat.le_of_ble_eq_true rfl, Nat.le_of_ble_eq_true rfl⟩) (hDa _ _) hS hA (fun r63 n_64 f_65 H locs hw hP hS => ?_)
                refine lv_if_eq (tgt := 148) hx hb dC_node_135 (by decide) (fun c66 => ?_) (fun c66 => ?_)
                · have hw := hw.1 c66
                  refine lv_aload_n hx hb dC_node_148 rfl (lv_at hl 1 rfl) ?_
                  refine va_get (D := (dC, dI)) (ci := 0) (v := .ref (a 2)) (C := RC) (T := TC) (N := 2) hx hb hts (fun w h => List.mem_cons_of_mem _ (inC w h)) hown hK hP 0 rfl rfl 1 (by decide) (hts (.fieldLink RC 21 "CoverTrees" "forest" "LCoverTrees$Forest;") (List.mem_cons_of_mem _ wt_135)) (fun _ h9 => h9) rfl dC_node_149 ?_
                  refine ct_i (va_runV (As := []) (rest := []) ⟨hx, hb, hml, hown, hts⟩ (met_F_keepDraft l dC dI a cA sa n_64 f_65 _ hw) (cwV 0 hts (wb_V wt_358 wt_359 wt_360 wt_29 wt_361) rfl rfl rfl (by decide +kernel) ⟨Nat.le_of_ble_eq_true rfl, Nat.le_of_ble_eq_true rfl⟩) (ct_preV hK hP (hDa _ _) hZ hS hA (va_recv hK hP (ci := 2) (q0 := 2) rfl rfl)) rfl rfl hl.1 rfl (lv_room (Nat.le_of_ble_eq_true rfl)) dC_node_152 ⟨Nat.le_of_ble_eq_true rfl, Nat.le_of_ble_eq_true rfl⟩) (hDa _ _) hS hA (fun r67 n_68 f_69 H locs hw hP hS => ?_)
                  exact W.iret (v := r67) hx hb hr (fun t ht hW => ⟨⟨r67, (n_68, f_69), rfl, hw, ct_mkB ht hP⟩, hS.F ht⟩) hS.2.2 dC_node_155
                · have hw := hw.2 c66
                  exact False.elim hw
              · have hw := hw.2 c59
                refine lv_iload_n hx hb dC_node_120 rfl (lv_at hl 4 rfl) ?_
                refine lv_goto (tgt := 125) hx hb dC_node_121 (by decide) ?_
                refine ct_v (va_runV (As := [.int p1, .int 0, .int p3]) (rest := []) ⟨hx, hb, hml, hown, hts⟩ (met_F_draft l dC dI a cA sa p1 0 p3 n_54 f_55 _ hw) (cwV 3 hts (wb_V wt_306 wt_307 wt_308 wt_29 wt_309) rfl rfl rfl (by decide +kernel) ⟨Nat.le_of_ble_eq_true rfl, Nat.le_of_ble_eq_true rfl⟩) (ct_preV hK hP (hDa _ _) hZ hS hA (va_recv hK hP (ci := 2) (q0 := 2) rfl rfl)) rfl rfl hl.1 rfl (lv_room (Nat.le_of_ble_eq_true rfl)) dC_node_125 ⟨Nat.le_of_ble_eq_true rfl, Nat.le_of_ble_eq_true rfl⟩) (hDa _ _) hS hA (fun n_71 f_72 H locs hw hP hS => ?_)
                refine lv_aload_n hx hb dC_node_128 rfl (lv_at hl 1 rfl) ?_
                refine va_get (D := (dC, dI)) (ci := 0) (v := .ref (a 2)) (C := RC) (T := TC) (N := 2) hx hb hts (fun w h => List.mem_cons_of_mem _ (inC w h)) hown hK hP 0 rfl rfl 1 (by decide) (hts (.fieldLink RC 21 "CoverTrees" "forest" "LCoverTrees$Forest;") (List.mem_cons_of_mem _ wt_135)) (fun _ h9 => h9) rfl dC_node_129 ?_
                refine ct_i (va_runV (As := []) (rest := []) ⟨hx, hb, hml, hown, hts⟩ (met_F_draftIsTooDear l dC dI a cA sa n_71 f_72 _ hw) (cwV 0 hts (wb_V wt_352 wt_353 wt_354 wt_29 wt_355) rfl rfl rfl (by decide +kernel) ⟨Nat.le_of_ble_eq_true rfl, Nat.le_of_ble_eq_true rfl⟩) (ct_preV hK hP (hDa _ _) hZ hS hA (va_recv hK hP (ci := 2) (q0 := 2) rfl rfl)) rfl rfl hl.1 rfl (lv_room (Nat.le_of_ble_eq_true rfl)) dC_node_132 ⟨Nat.le_of_ble_eq_true rfl, Nat.le_of_ble_eq_true rfl⟩) (hDa _ _) hS hA (fun r73 n_74 f_75 H locs hw hP hS => ?_)
                refine lv_if_eq (tgt := 148) hx hb dC_node_135 (by decide) (fun c76 => ?_) (fun c76 => ?_)
                · have hw := hw.1 c76
                  refine lv_aload_n hx hb dC_node_148 rfl (lv_at hl 1 rfl) ?_
                  refine va_get (D := (dC, dI)) (ci := 0) (v := .ref (a 2)) (C := RC) (T := TC) (N := 2) hx hb hts (fun w h => List.mem_cons_of_mem _ (inC w h)) hown hK hP 0 rfl rfl 1 (by decide) (hts (.fieldLink RC 21 "CoverTrees" "forest" "LCoverTrees$Forest;") (List.mem_cons_of_mem _ wt_135)) (fun _ h9 => h9) rfl dC_node_149 ?_
                  refine ct_i (va_runV (As := []) (rest := []) ⟨hx, hb, hml, hown, hts⟩ (met_F_keepDraft l dC dI a cA sa n_74 f_75 _ hw) (cwV 0 hts (wb_V wt_358 wt_359 wt_360 wt_29 wt_361) rfl rfl rfl (by decide +kernel) ⟨Nat.le_of_ble_eq_true rfl, Nat.le_of_ble_eq_true rfl⟩) (ct_preV hK hP (hDa _ _) hZ hS hA (va_recv hK hP (ci := 2) (q0 := 2) rfl rfl)) rfl rfl hl.1 rfl (lv_room (Nat.le_of_ble_eq_true rfl)) dC_node_152 ⟨Nat.le_of_ble_eq_true rfl, Nat.le_of_ble_eq_true rfl⟩) (hDa _ _) hS hA (fun r77 n_78 f_79 H locs hw hP hS => ?_)
                  exact W.iret (v := r77) hx hb hr (fun t ht hW => ⟨⟨r77, (n_78, f_79), rfl, hw, ct_mkB ht hP⟩, hS.F ht⟩) hS.2.2 dC_node_155
                · have hw := hw.2 c76
                  exact False.elim hw
            · have hw := hw.2 c58
              refine lv_iload_n hx hb dC_node_109 rfl (lv_at hl 3 rfl) ?_
              refine lv_goto (tgt := 114) hx hb dC_node_110 (by decide) ?_
              refine lv_iload hx hb dC_node_114 (lv_at hl 0 rfl) ?_
              refine lv_iconst (v := 2) hx hb dC_node_116 (by decide) ?_
              refine lv_icmp_lt (tgt := 124) hx hb dC_node_117 (by decide) (fun c80 => ?_) (fun c80 => ?_)
              · have hw := hw.1 c80
                refine lv_iconst (v := 0) hx hb dC_node_124 (by decide) ?_
                refine ct_v (va_runV (As := [.int p1, .int p2, .int 0]) (rest := []) ⟨hx, hb, hml, hown, hts⟩ (met_F_draft l dC dI a cA sa p1 p2 0 n_54 f_55 _ hw) (cwV 3 hts (wb_V wt_306 wt_307 wt_308 wt_29 wt_309) rfl rfl rfl (by decide +kernel) ⟨Nat.le_of_ble_eq_true rfl, Nat.le_of_ble_eq_true rfl⟩) (ct_preV hK hP (hDa _ _) hZ hS hA (va_recv hK hP (ci := 2) (q0 := 2) rfl rfl)) rfl rfl hl.1 rfl (lv_room (Nat.le_of_ble_eq_true rfl)) dC_node_125 ⟨Nat.le_of_ble_eq_true rfl, Nat.le_of_ble_eq_true rfl⟩) (hDa _ _) hS hA (fun n_82 f_83 H locs hw hP hS => ?_)
                refine lv_aload_n hx hb dC_node_128 rfl (lv_at hl 1 rfl) ?_
                refine va_get (D := (dC, dI)) (ci := 0) (v := .ref (a 2)) (C := RC) (T := TC) (N := 2) hx hb hts (fun w h => List.mem_cons_of_mem _ (inC w h)) hown hK hP 0 rfl rfl 1 (by decide) (hts (.fieldLink RC 21 "CoverTrees" "forest" "LCoverTrees$Forest;") (List.mem_cons_of_mem _ wt_135)) (fun _ h9 => h9) rfl dC_node_129 ?_
                refine ct_i (va_runV (As := []) (rest := []) ⟨hx, hb, hml, hown, hts⟩ (met_F_draftIsTooDear l dC dI a cA sa n_82 f_83 _ hw) (cwV 0 hts (wb_V wt_352 wt_353 wt_354 wt_29 wt_355) rfl rfl rfl (by decide +kernel) ⟨Nat.le_of_ble_eq_true rfl, Nat.le_of_ble_eq_true rfl⟩) (ct_preV hK hP (hDa _ _) hZ hS hA (va_recv hK hP (ci := 2) (q0 := 2) rfl rfl)) rfl rfl hl.1 rfl (lv_room (Nat.le_of_ble_eq_true rfl)) dC_node_132 ⟨Nat.le_of_ble_eq_true rfl, Nat.le_of_ble_eq_true rfl⟩) (hDa _ _) hS hA (fun r84 n_85 f_86 H locs hw hP hS => ?_)
                refine lv_if_eq (tgt := 148) hx hb dC_node_135 (by decide) (fun c87 => ?_) (fun c87 => ?_)
                · have hw := hw.1 c87
                  refine lv_aload_n hx hb dC_node_148 rfl (lv_at hl 1 rfl) ?_
                  refine va_get (D := (dC, dI)) (ci := 0) (v := .ref (a 2)) (C := RC) (T := TC) (N := 2) hx hb hts (fun w h => List.mem_cons_of_mem _ (inC w h)) hown hK hP 0 rfl rfl 1 (by decide) (hts (.fieldLink RC 21 "CoverTrees" "forest" "LCoverTrees$Forest;") (List.mem_cons_of_mem _ wt_135)) (fun _ h9 => h9) rfl dC_node_149 ?_
                  refine ct_i (va_runV (As := []) (rest := []) ⟨hx, hb, hml, hown, hts⟩ (met_F_keepDraft l dC dI a cA sa n_85 f_86 _ hw) (cwV 0 hts (wb_V wt_358 wt_359 wt_360 wt_29 wt_361) rfl rfl rfl (by decide +kernel) ⟨Nat.le_of_ble_eq_true rfl, Nat.le_of_ble_eq_true rfl⟩) (ct_preV hK hP (hDa _ _) hZ hS hA (va_recv hK hP (ci := 2) (q0 := 2) rfl rfl)) rfl rfl hl.1 rfl (lv_room (Nat.le_of_ble_eq_true rfl)) dC_node_152 ⟨Nat.le_of_ble_eq_true rfl, Nat.le_of_ble_eq_true rfl⟩) (hDa _ _) hS hA (fun r88 n_89 f_90 H locs hw hP hS => ?_)
                  exact W.iret (v := r88) hx hb hr (fun t ht hW => ⟨⟨r88, (n_89, f_90), rfl, hw, ct_mkB ht hP⟩, hS.F ht⟩) hS.2.2 dC_node_155
                · have hw := hw.2 c87
                  exact False.elim hw
              · have hw := hw.2 c80
                refine lv_iload_n hx hb dC_node_120 rfl (lv_at hl 4 rfl) ?_
                refine lv_goto (tgt := 125) hx hb dC_node_121 (by decide) ?_
                refine ct_v (va_runV (As := [.int p1, .int p2, .int p3]) (rest := []) ⟨hx, hb, hml, hown, hts⟩ (met_F_draft l dC dI a cA sa p1 p2 p3 n_54 f_55 _ hw) (cwV 3 hts (wb_V wt_306 wt_307 wt_308 wt_29 wt_309) rfl rfl rfl (by decide +kernel) ⟨Nat.le_of_ble_eq_true rfl, Nat.le_of_ble_eq_true rfl⟩) (ct_preV hK hP (hDa _ _) hZ hS hA (va_recv hK hP (ci := 2) (q0 := 2) rfl rfl)) rfl rfl hl.1 rfl (lv_room (Nat.le_of_ble_eq_true rfl)) dC_node_125 ⟨Nat.le_of_ble_eq_true rfl, Nat.le_of_ble_eq_true rfl⟩) (hDa _ _) hS hA (fun n_92 f_93 H locs hw hP hS => ?_)
                refine lv_aload_n hx hb dC_node_128 rfl (lv_at hl 1 rfl) ?_
                refine va_get (D := (dC, dI)) (ci := 0) (v := .ref (a 2)) (C := RC) (T := TC) (N := 2) hx hb hts (fun w h => List.mem_cons_of_mem _ (inC w h)) hown hK hP 0 rfl rfl 1 (by decide) (hts (.fieldLink RC 21 "CoverTrees" "forest" "LCoverTrees$Forest;") (List.mem_cons_of_mem _ wt_135)) (fun _ h9 => h9) rfl dC_node_129 ?_
                refine ct_i (va_runV (As := []) (rest := []) ⟨hx, hb, hml, hown, hts⟩ (met_F_draftIsTooDear l dC dI a cA sa n_92 f_93 _ hw) (cwV 0 hts (wb_V wt_352 wt_353 wt_354 wt_29 wt_355) rfl rfl rfl (by decide +kernel) ⟨Nat.le_of_ble_eq_true rfl, Nat.le_of_ble_eq_true rfl⟩) (ct_preV hK hP (hDa _ _) hZ hS hA (va_recv hK hP (ci := 2) (q0 := 2) rfl rfl)) rfl rfl hl.1 rfl (lv_room (Nat.le_of_ble_eq_true rfl)) dC_node_132 ⟨Nat.le_of_ble_eq_true rfl, Nat.le_of_ble_eq_true rfl⟩) (hDa _ _) hS hA (fun r94 n_95 f_96 H locs hw hP hS => ?_)
                refine lv_if_eq (tgt := 148) hx hb dC_node_135 (by decide) (fun c97 => ?_) (fun c97 => ?_)
                · have hw := hw.1 c97
                  refine lv_aload_n hx hb dC_node_148 rfl (lv_at hl 1 rfl) ?_
                  refine va_get (D := (dC, dI)) (ci := 0) (v := .ref (a 2)) (C := RC) (T := TC) (N := 2) hx hb hts (fun w h => List.mem_cons_of_mem _ (inC w h)) hown hK hP 0 rfl rfl 1 (by decide) (hts (.fieldLink RC 21 "CoverTrees" "forest" "LCoverTrees$Forest;") (List.mem_cons_of_mem _ wt_135)) (fun _ h9 => h9) rfl dC_node_149 ?_
                  refine ct_i (va_runV (As := []) (rest := []) ⟨hx, hb, hml, hown, hts⟩ (met_F_keepDraft l dC dI a cA sa n_95 f_96 _ hw) (cwV 0 hts (wb_V wt_358 wt_359 wt_360 wt_29 wt_361) rfl rfl rfl (by decide +kernel) ⟨Nat.le_of_ble_eq_true rfl, Nat.le_of_ble_eq_true rfl⟩) (ct_preV hK hP (hDa _ _) hZ hS hA (va_recv hK hP (ci := 2) (q0 := 2) rfl rfl)) rfl rfl hl.1 rfl (lv_room (Nat.le_of_ble_eq_true rfl)) dC_node_152 ⟨Nat.le_of_ble_eq_true rfl, Nat.le_of_ble_eq_true rfl⟩) (hDa _ _) hS hA (fun r98 n_99 f_100 H locs hw hP hS => ?_)
                  exact W.iret (v := r98) hx hb hr (fun t ht hW => ⟨⟨r98, (n_99, f_100), rfl, hw, ct_mkB ht hP⟩, hS.F ht⟩) hS.2.2 dC_node_155
                · have hw := hw.2 c97
                  exact False.elim hw
          · have hw := hw.2 c57
            exact False.elim hw
        · have hw := hw.2 c56
          exact False.elim hw
    · have hw := hw.2 c7
      refine lv_aload_n hx hb dC_node_38 rfl (lv_at hl 1 rfl) ?_
      refine va_get (D := (dC, dI)) (ci := 0) (v := .ref (a 2)) (C := RC) (T := TC) (N := 2) hx hb hts (fun w h => List.mem_cons_of_mem _ (inC w h)) hown hK hP 0 rfl rfl 1 (by decide) (hts (.fieldLink RC 21 "CoverTrees" "forest" "LCoverTrees$Forest;") (List.mem_cons_of_mem _ wt_135)) (fun _ h9 => h9) rfl dC_node_39 ?_
      refine lv_iload_n hx hb dC_node_42 rfl (lv_at hl 3 rfl) ?_
      refine ct_i (va_runV (As := [.int p2]) (rest := []) ⟨hx, hb, hml, hown, hts⟩ (met_F_has l dC dI a cA sa p2 n_2 f_3 _ hw) (cwV 1 hts (wb_V wt_300 wt_301 wt_302 wt_29 wt_303) rfl rfl rfl (by decide +kernel) ⟨Nat.le_of_ble_eq_true rfl, Nat.le_of_ble_eq_true rfl⟩) (ct_preV hK hP (hDa _ _) hZ hS hA (va_recv hK hP (ci := 2) (q0 := 2) rfl rfl)) rfl rfl hl.1 rfl (lv_room (Nat.le_of_ble_eq_true rfl)) dC_node_43 ⟨Nat.le_of_ble_eq_true rfl, Nat.le_of_ble_eq_true rfl⟩) (hDa _ _) hS hA (fun r101 n_102 f_103 H locs hw hP hS => ?_)
      refine lv_if_eq (tgt := 66) hx hb dC_node_46 (by decide) (fun c104 => ?_) (fun c104 => ?_)
      · have hw := hw.1 c104
        exact False.elim hw
      · have hw := hw.2 c104
        refine lv_iload hx hb dC_node_49 (lv_at hl 0 rfl) ?_
        refine lv_iconst (v := 2) hx hb dC_node_51 (by decide) ?_
        refine lv_icmp_lt (tgt := 76) hx hb dC_node_52 (by decide) (fun c105 => ?_) (fun c105 => ?_)
        · have hw := hw.1 c105
          refine lv_aload_n hx hb dC_node_76 rfl (lv_at hl 1 rfl) ?_
          refine va_get (D := (dC, dI)) (ci := 0) (v := .ref (a 2)) (C := RC) (T := TC) (N := 2) hx hb hts (fun w h => List.mem_cons_of_mem _ (inC w h)) hown hK hP 0 rfl rfl 1 (by decide) (hts (.fieldLink RC 21 "CoverTrees" "forest" "LCoverTrees$Forest;") (List.mem_cons_of_mem _ wt_135)) (fun _ h9 => h9) rfl dC_node_77 ?_
          refine va_get (D := (dC, dI)) (ci := 2) (v := .int (n_102 2)) (C := RF) (T := TF) (N := 11) hx hb hts (fun w h => List.mem_cons_of_mem _ (inF w h)) hown hK hP 2 rfl rfl 1 (by decide) (hts (.fieldLink RC 25 "CoverTrees$Forest" "count" "I") (List.mem_cons_of_mem _ wt_95)) (fun _ h9 => h9) rfl dC_node_80 ?_
          refine lv_bipush (v := 120) hx hb dC_node_83 (by decide) ?_
          refine lv_icmp_lt (tgt := 98) hx hb dC_node_85 (by decide) (fun c106 => ?_) (fun c106 => ?_)
          · have hw := hw.1 c106
            refine lv_aload_n hx hb dC_node_98 rfl (lv_at hl 1 rfl) ?_
            refine va_get (D := (dC, dI)) (ci := 0) (v := .ref (a 2)) (C := RC) (T := TC) (N := 2) hx hb hts (fun w h => List.mem_cons_of_mem _ (inC w h)) hown hK hP 0 rfl rfl 1 (by decide) (hts (.fieldLink RC 21 "CoverTrees" "forest" "LCoverTrees$Forest;") (List.mem_cons_of_mem _ wt_135)) (fun _ h9 => h9) rfl dC_node_99 ?_
            refine lv_iload_n hx hb dC_node_102 rfl (lv_at hl 2 rfl) ?_
            refine lv_iload hx hb dC_node_103 (lv_at hl 0 rfl) ?_
            refine lv_iconst (v := 1) hx hb dC_node_105 (by decide) ?_
            refine lv_icmp_lt (tgt := 113) hx hb dC_node_106 (by decide) (fun c107 => ?_) (fun c107 => ?_)
            · have hw := hw.1 c107
              refine lv_iconst (v := 0) hx hb dC_node_113 (by decide) ?_
              refine lv_iload hx hb dC_node_114 (lv_at hl 0 rfl) ?_
              refine lv_iconst (v := 2) hx hb dC_node_116 (by decide) ?_
              refine lv_icmp_lt (tgt := 124) hx hb dC_node_117 (by decide) (fun c108 => ?_) (fun c108 => ?_)
              · have hw := hw.1 c108
                refine lv_iconst (v := 0) hx hb dC_node_124 (by decide) ?_
                refine ct_v (va_runV (As := [.int p1, .int 0, .int 0]) (rest := []) ⟨hx, hb, hml, hown, hts⟩ (met_F_draft l dC dI a cA sa p1 0 0 n_102 f_103 _ hw) (cwV 3 hts (wb_V wt_306 wt_307 wt_308 wt_29 wt_309) rfl rfl rfl (by decide +kernel) ⟨Nat.le_of_ble_eq_true rfl, Nat.le_of_ble_eq_true rfl⟩) (ct_preV hK hP (hDa _ _) hZ hS hA (va_recv hK hP (ci := 2) (q0 := 2) rfl rfl)) rfl rfl hl.1 rfl (lv_room (Nat.le_of_ble_eq_true rfl)) dC_node_125 ⟨Nat.le_of_ble_eq_true rfl, Nat.le_of_ble_eq_true rfl⟩) (hDa _ _) hS hA (fun n_110 f_111 H locs hw hP hS => ?_)
                refine lv_aload_n hx hb dC_node_128 rfl (lv_at hl 1 rfl) ?_
                refine va_get (D := (dC, dI)) (ci := 0) (v := .ref (a 2)) (C := RC) (T := TC) (N := 2) hx hb hts (fun w h => List.mem_cons_of_mem _ (inC w h)) hown hK hP 0 rfl rfl 1 (by decide) (hts (.fieldLink RC 21 "CoverTrees" "forest" "LCoverTrees$Forest;") (List.mem_cons_of_mem _ wt_135)) (fun _ h9 => h9) rfl dC_node_129 ?_
                refine ct_i (va_runV (As := []) (rest := []) ⟨hx, hb, hml, hown, hts⟩ (met_F_draftIsTooDear l dC dI a cA sa n_110 f_111 _ hw) (cwV 0 hts (wb_V wt_352 wt_353 wt_354 wt_29 wt_355) rfl rfl rfl (by decide +kernel) ⟨Nat.le_of_ble_eq_true rfl, Nat.le_of_ble_eq_true rfl⟩) (ct_preV hK hP (hDa _ _) hZ hS hA (va_recv hK hP (ci := 2) (q0 := 2) rfl rfl)) rfl rfl hl.1 rfl (lv_room (Nat.le_of_ble_eq_true rfl)) dC_node_132 ⟨Nat.le_of_ble_eq_true rfl, Nat.le_of_ble_eq_true rfl⟩) (hDa _ _) hS hA (fun r112 n_113 f_114 H locs hw hP hS => ?_)
                refine lv_if_eq (tgt := 148) hx hb dC_node_135 (by decide) (fun c115 => ?_) (fun c115 => ?_)
                · have hw := hw.1 c115
                  refine lv_aload_n hx hb dC_node_148 rfl (lv_at hl 1 rfl) ?_
                  refine va_get (D := (dC, dI)) (ci := 0) (v := .ref (a 2)) (C := RC) (T := TC) (N := 2) hx hb hts (fun w h => List.mem_cons_of_mem _ (inC w h)) hown hK hP 0 rfl rfl 1 (by decide) (hts (.fieldLink RC 21 "CoverTrees" "forest" "LCoverTrees$Forest;") (List.mem_cons_of_mem _ wt_135)) (fun _ h9 => h9) rfl dC_node_149 ?_
                  refine ct_i (va_runV (As := []) (rest := []) ⟨hx, hb, hml, hown, hts⟩ (met_F_keepDraft l dC dI a cA sa n_113 f_114 _ hw) (cwV 0 hts (wb_V wt_358 wt_359 wt_360 wt_29 wt_361) rfl rfl rfl (by decide +kernel) ⟨Nat.le_of_ble_eq_true rfl, Nat.le_of_ble_eq_true rfl⟩) (ct_preV hK hP (hDa _ _) hZ hS hA (va_recv hK hP (ci := 2) (q0 := 2) rfl rfl)) rfl rfl hl.1 rfl (lv_room (Nat.le_of_ble_eq_true rfl)) dC_node_152 ⟨Nat.le_of_ble_eq_true rfl, Nat.le_of_ble_eq_true rfl⟩) (hDa _ _) hS hA (fun r116 n_117 f_118 H locs hw hP hS => ?_)
                  exact W.iret (v := r116) hx hb hr (fun t ht hW => ⟨⟨r116, (n_117, f_118), rfl, hw, ct_mkB ht hP⟩, hS.F ht⟩) hS.2.2 dC_node_155
                · have hw := hw.2 c115
                  exact False.elim hw
              · have hw := hw.2 c108
                refine lv_iload_n hx hb dC_node_120 rfl (lv_at hl 4 rfl) ?_
                refine lv_goto (tgt := 125) hx hb dC_node_121 (by decide) ?_
                refine ct_v (va_runV (As := [.int p1, .int 0, .int p3]) (rest := []) ⟨hx, hb, hml, hown, hts⟩ (met_F_draft l dC dI a cA sa p1 0 p3 n_102 f_103 _ hw) (cwV 3 hts (wb_V wt_306 wt_307 wt_308 wt_29 wt_309) rfl rfl rfl (by decide +kernel) ⟨Nat.le_of_ble_eq_true rfl, Nat.le_of_ble_eq_true rfl⟩) (ct_preV hK hP (hDa _ _) hZ hS hA (va_recv hK hP (ci := 2) (q0 := 2) rfl rfl)) rfl rfl hl.1 rfl (lv_room (Nat.le_of_ble_eq_true rfl)) dC_node_125 ⟨Nat.le_of_ble_eq_true rfl, Nat.le_of_ble_eq_true rfl⟩) (hDa _ _) hS hA (fun n_120 f_121 H locs hw hP hS => ?_)
                refine lv_aload_n hx hb dC_node_128 rfl (lv_at hl 1 rfl) ?_
                refine va_get (D := (dC, dI)) (ci := 0) (v := .ref (a 2)) (C := RC) (T := TC) (N := 2) hx hb hts (fun w h => List.mem_cons_of_mem _ (inC w h)) hown hK hP 0 rfl rfl 1 (by decide) (hts (.fieldLink RC 21 "CoverTrees" "forest" "LCoverTrees$Forest;") (List.mem_cons_of_mem _ wt_135)) (fun _ h9 => h9) rfl dC_node_129 ?_
                refine ct_i (va_runV (As := []) (rest := []) ⟨hx, hb, hml, hown, hts⟩ (met_F_draftIsTooDear l dC dI a cA sa n_120 f_121 _ hw) (cwV 0 hts (wb_V wt_352 wt_353 wt_354 wt_29 wt_355) rfl rfl rfl (by decide +kernel) ⟨Nat.le_of_ble_eq_true rfl, Nat.le_of_ble_eq_true rfl⟩) (ct_preV hK hP (hDa _ _) hZ hS hA (va_recv hK hP (ci := 2) (q0 := 2) rfl rfl)) rfl rfl hl.1 rfl (lv_room (Nat.le_of_ble_eq_true rfl)) dC_node_132 ⟨Nat.le_of_ble_eq_true rfl, Nat.le_of_ble_eq_true rfl⟩) (hDa _ _) hS hA (fun r122 n_123 f_124 H locs hw hP hS => ?_)
                refine lv_if_eq (tgt := 148) hx hb dC_node_135 (by decide) (fun c125 => ?_) (fun c125 => ?_)
                · have hw := hw.1 c125
                  refine lv_aload_n hx hb dC_node_148 rfl (lv_at hl 1 rfl) ?_
                  refine va_get (D := (dC, dI)) (ci := 0) (v := .ref (a 2)) (C := RC) (T := TC) (N := 2) hx hb hts (fun w h => List.mem_cons_of_mem _ (inC w h)) hown hK hP 0 rfl rfl 1 (by decide) (hts (.fieldLink RC 21 "CoverTrees" "forest" "LCoverTrees$Forest;") (List.mem_cons_of_mem _ wt_135)) (fun _ h9 => h9) rfl dC_node_149 ?_
                  refine ct_i (va_runV (As := []) (rest := []) ⟨hx, hb, hml, hown, hts⟩ (met_F_keepDraft l dC dI a cA sa n_123 f_124 _ hw) (cwV 0 hts (wb_V wt_358 wt_359 wt_360 wt_29 wt_361) rfl rfl rfl (by decide +kernel) ⟨Nat.le_of_ble_eq_true rfl, Nat.le_of_ble_eq_true rfl⟩) (ct_preV hK hP (hDa _ _) hZ hS hA (va_recv hK hP (ci := 2) (q0 := 2) rfl rfl)) rfl rfl hl.1 rfl (lv_room (Nat.le_of_ble_eq_true rfl)) dC_node_152 ⟨Nat.le_of_ble_eq_true rfl, Nat.le_of_ble_eq_true rfl⟩) (hDa _ _) hS hA (fun r126 n_127 f_128 H locs hw hP hS => ?_)
                  exact W.iret (v := r126) hx hb hr (fun t ht hW => ⟨⟨r126, (n_127, f_128), rfl, hw, ct_mkB ht hP⟩, hS.F ht⟩) hS.2.2 dC_node_155
                · have hw := hw.2 c125
                  exact False.elim hw
            · have hw := hw.2 c107
              refine lv_iload_n hx hb dC_node_109 rfl (lv_at hl 3 rfl) ?_
              refine lv_goto (tgt := 114) hx hb dC_node_110 (by decide) ?_
              refine lv_iload hx hb dC_node_114 (lv_at hl 0 rfl) ?_
              refine lv_iconst (v := 2) hx hb dC_node_116 (by decide) ?_
              refine lv_icmp_lt (tgt := 124) hx hb dC_node_117 (by decide) (fun c129 => ?_) (fun c129 => ?_)
              · have hw := hw.1 c129
                refine lv_iconst (v := 0) hx hb dC_node_124 (by decide) ?_
                refine ct_v (va_runV (As := [.int p1, .int p2, .int 0]) (rest := []) ⟨hx, hb, hml, hown, hts⟩ (met_F_draft l dC dI a cA sa p1 p2 0 n_102 f_103 _ hw) (cwV 3 hts (wb_V wt_306 wt_307 wt_308 wt_29 wt_309) rfl rfl rfl (by decide +kernel) ⟨Nat.le_of_ble_eq_true rfl, Nat.le_of_ble_eq_true rfl⟩) (ct_preV hK hP (hDa _ _) hZ hS hA (va_recv hK hP (ci := 2) (q0 := 2) rfl rfl)) rfl rfl hl.1 rfl (lv_room (Nat.le_of_ble_eq_true rfl)) dC_node_125 ⟨Nat.le_of_ble_eq_true rfl, Nat.le_of_ble_eq_true rfl⟩) (hDa _ _) hS hA (fun n_131 f_132 H locs hw hP hS => ?_)
                refine lv_aload_n hx hb dC_node_128 rfl (lv_at hl 1 rfl) ?_
                refine va_get (D := (dC, dI)) (ci := 0) (v := .ref (a 2)) (C := RC) (T := TC) (N := 2) hx hb hts (fun w h => List.mem_cons_of_mem _ (inC w h)) hown hK hP 0 rfl rfl 1 (by decide) (hts (.fieldLink RC 21 "CoverTrees" "forest" "LCoverTrees$Forest;") (List.mem_cons_of_mem _ wt_135)) (fun _ h9 => h9) rfl dC_node_129 ?_
                refine ct_i (va_runV (As := []) (rest := []) ⟨hx, hb, hml, hown, hts⟩ (met_F_draftIsTooDear l dC dI a cA sa n_131 f_132 _ hw) (cwV 0 hts (wb_V wt_352 wt_353 wt_354 wt_29 wt_355) rfl rfl rfl (by decide +kernel) ⟨Nat.le_of_ble_eq_true rfl, Nat.le_of_ble_eq_true rfl⟩) (ct_preV hK hP (hDa _ _) hZ hS hA (va_recv hK hP (ci := 2) (q0 := 2) rfl rfl)) rfl rfl hl.1 rfl (lv_room (Nat.le_of_ble_eq_true rfl)) dC_node_132 ⟨Nat.le_of_ble_eq_true rfl, Nat.le_of_ble_eq_true rfl⟩) (hDa _ _) hS hA (fun r133 n_134 f_135 H locs hw hP hS => ?_)
                refine lv_if_eq (tgt := 148) hx hb dC_node_135 (by decide) (fun c136 => ?_) (fun c136 => ?_)
                · have hw := hw.1 c136
                  refine lv_aload_n hx hb dC_node_148 rfl (lv_at hl 1 rfl) ?_
                  refine va_get (D := (dC, dI)) (ci := 0) (v := .ref (a 2)) (C := RC) (T := TC) (N := 2) hx hb hts (fun w h => List.mem_cons_of_mem _ (inC w h)) hown hK hP 0 rfl rfl 1 (by decide) (hts (.fieldLink RC 21 "CoverTrees" "forest" "LCoverTrees$Forest;") (List.mem_cons_of_mem _ wt_135)) (fun _ h9 => h9) rfl dC_node_149 ?_
                  refine ct_i (va_runV (As := []) (rest := []) ⟨hx, hb, hml, hown, hts⟩ (met_F_keepDraft l dC dI a cA sa n_134 f_135 _ hw) (cwV 0 hts (wb_V wt_358 wt_359 wt_360 wt_29 wt_361) rfl rfl rfl (by decide +kernel) ⟨Nat.le_of_ble_eq_true rfl, Nat.le_of_ble_eq_true rfl⟩) (ct_preV hK hP (hDa _ _) hZ hS hA (va_recv hK hP (ci := 2) (q0 := 2) rfl rfl)) rfl rfl hl.1 rfl (lv_room (Nat.le_of_ble_eq_true rfl)) dC_node_152 ⟨Nat.le_of_ble_eq_true rfl, Nat.le_of_ble_eq_true rfl⟩) (hDa _ _) hS hA (fun r137 n_138 f_139 H locs hw hP hS => ?_)
                  exact W.iret (v := r137) hx hb hr (fun t ht hW => ⟨⟨r137, (n_138, f_139), rfl, hw, ct_mkB ht hP⟩, hS.F ht⟩) hS.2.2 dC_node_155
                · have hw := hw.2 c136
                  exact False.elim hw
              · have hw := hw.2 c129
                refine lv_iload_n hx hb dC_node_120 rfl (lv_at hl 4 rfl) ?_
                refine lv_goto (tgt := 125) hx hb dC_node_121 (by decide) ?_
                refine ct_v (va_runV (As := [.int p1, .int p2, .int p3]) (rest := []) ⟨hx, hb, hml, hown, hts⟩ (met_F_draft l dC dI a cA sa p1 p2 p3 n_102 f_103 _ hw) (cwV 3 hts (wb_V wt_306 wt_307 wt_308 wt_29 wt_309) rfl rfl rfl (by decide +kernel) ⟨Nat.le_of_ble_eq_true rfl, Nat.le_of_ble_eq_true rfl⟩) (ct_preV hK hP (hDa _ _) hZ hS hA (va_recv hK hP (ci := 2) (q0 := 2) rfl rfl)) rfl rfl hl.1 rfl (lv_room (Nat.le_of_ble_eq_true rfl)) dC_node_125 ⟨Nat.le_of_ble_eq_true rfl, Nat.le_of_ble_eq_true rfl⟩) (hDa _ _) hS hA (fun n_141 f_142 H locs hw hP hS => ?_)
                refine lv_aload_n hx hb dC_node_128 rfl (lv_at hl 1 rfl) ?_
                refine va_get (D := (dC, dI)) (ci := 0) (v := .ref (a 2)) (C := RC) (T := TC) (N := 2) hx hb hts (fun w h => List.mem_cons_of_mem _ (inC w h)) hown hK hP 0 rfl rfl 1 (by decide) (hts (.fieldLink RC 21 "CoverTrees" "forest" "LCoverTrees$Forest;") (List.mem_cons_of_mem _ wt_135)) (fun _ h9 => h9) rfl dC_node_129 ?_
                refine ct_i (va_runV (As := []) (rest := []) ⟨hx, hb, hml, hown, hts⟩ (met_F_draftIsTooDear l dC dI a cA sa n_141 f_142 _ hw) (cwV 0 hts (wb_V wt_352 wt_353 wt_354 wt_29 wt_355) rfl rfl rfl (by decide +kernel) ⟨Nat.le_of_ble_eq_true rfl, Nat.le_of_ble_eq_true rfl⟩) (ct_preV hK hP (hDa _ _) hZ hS hA (va_recv hK hP (ci := 2) (q0 := 2) rfl rfl)) rfl rfl hl.1 rfl (lv_room (Nat.le_of_ble_eq_true rfl)) dC_node_132 ⟨Nat.le_of_ble_eq_true rfl, Nat.le_of_ble_eq_true rfl⟩) (hDa _ _) hS hA (fun r143 n_144 f_145 H locs hw hP hS => ?_)
                refine lv_if_eq (tgt := 148) hx hb dC_node_135 (by decide) (fun c146 => ?_) (fun c146 => ?_)
                · have hw := hw.1 c146
                  refine lv_aload_n hx hb dC_node_148 rfl (lv_at hl 1 rfl) ?_
                  refine va_get (D := (dC, dI)) (ci := 0) (v := .ref (a 2)) (C := RC) (T := TC) (N := 2) hx hb hts (fun w h => List.mem_cons_of_mem _ (inC w h)) hown hK hP 0 rfl rfl 1 (by decide) (hts (.fieldLink RC 21 "CoverTrees" "forest" "LCoverTrees$Forest;") (List.mem_cons_of_mem _ wt_135)) (fun _ h9 => h9) rfl dC_node_149 ?_
                  refine ct_i (va_runV (As := []) (rest := []) ⟨hx, hb, hml, hown, hts⟩ (met_F_keepDraft l dC dI a cA sa n_144 f_145 _ hw) (cwV 0 hts (wb_V wt_358 wt_359 wt_360 wt_29 wt_361) rfl rfl rfl (by decide +kernel) ⟨Nat.le_of_ble_eq_true rfl, Nat.le_of_ble_eq_true rfl⟩) (ct_preV hK hP (hDa _ _) hZ hS hA (va_recv hK hP (ci := 2) (q0 := 2) rfl rfl)) rfl rfl hl.1 rfl (lv_room (Nat.le_of_ble_eq_true rfl)) dC_node_152 ⟨Nat.le_of_ble_eq_true rfl, Nat.le_of_ble_eq_true rfl⟩) (hDa _ _) hS hA (fun r147 n_148 f_149 H locs hw hP hS => ?_)
                  exact W.iret (v := r147) hx hb hr (fun t ht hW => ⟨⟨r147, (n_148, f_149), rfl, hw, ct_mkB ht hP⟩, hS.F ht⟩) hS.2.2 dC_node_155
                · have hw := hw.2 c146
                  exact False.elim hw
          · have hw := hw.2 c106
            exact False.elim hw
        · have hw := hw.2 c105
          refine lv_aload_n hx hb dC_node_55 rfl (lv_at hl 1 rfl) ?_
          refine va_get (D := (dC, dI)) (ci := 0) (v := .ref (a 2)) (C := RC) (T := TC) (N := 2) hx hb hts (fun w h => List.mem_cons_of_mem _ (inC w h)) hown hK hP 0 rfl rfl 1 (by decide) (hts (.fieldLink RC 21 "CoverTrees" "forest" "LCoverTrees$Forest;") (List.mem_cons_of_mem _ wt_135)) (fun _ h9 => h9) rfl dC_node_56 ?_
          refine lv_iload_n hx hb dC_node_59 rfl (lv_at hl 4 rfl) ?_
          refine ct_i (va_runV (As := [.int p3]) (rest := []) ⟨hx, hb, hml, hown, hts⟩ (met_F_has l dC dI a cA sa p3 n_102 f_103 _ hw) (cwV 1 hts (wb_V wt_300 wt_301 wt_302 wt_29 wt_303) rfl rfl rfl (by decide +kernel) ⟨Nat.le_of_ble_eq_true rfl, Nat.le_of_ble_eq_true rfl⟩) (ct_preV hK hP (hDa _ _) hZ hS hA (va_recv hK hP (ci := 2) (q0 := 2) rfl rfl)) rfl rfl hl.1 rfl (lv_room (Nat.le_of_ble_eq_true rfl)) dC_node_60 ⟨Nat.le_of_ble_eq_true rfl, Nat.le_of_ble_eq_true rfl⟩) (hDa _ _) hS hA (fun r150 n_151 f_152 H locs hw hP hS => ?_)
          refine lv_if_ne (tgt := 76) hx hb dC_node_63 (by decide) (fun c153 => ?_) (fun c153 => ?_)
          · have hw := hw.1 c153
            refine lv_aload_n hx hb dC_node_76 rfl (lv_at hl 1 rfl) ?_
            refine va_get (D := (dC, dI)) (ci := 0) (v := .ref (a 2)) (C := RC) (T := TC) (N := 2) hx hb hts (fun w h => List.mem_cons_of_mem _ (inC w h)) hown hK hP 0 rfl rfl 1 (by decide) (hts (.fieldLink RC 21 "CoverTrees" "forest" "LCoverTrees$Forest;") (List.mem_cons_of_mem _ wt_135)) (fun _ h9 => h9) rfl dC_node_77 ?_
            refine va_get (D := (dC, dI)) (ci := 2) (v := .int (n_151 2)) (C := RF) (T := TF) (N := 11) hx hb hts (fun w h => List.mem_cons_of_mem _ (inF w h)) hown hK hP 2 rfl rfl 1 (by decide) (hts (.fieldLink RC 25 "CoverTrees$Forest" "count" "I") (List.mem_cons_of_mem _ wt_95)) (fun _ h9 => h9) rfl dC_node_80 ?_
            refine lv_bipush (v := 120) hx hb dC_node_83 (by decide) ?_
            refine lv_icmp_lt (tgt := 98) hx hb dC_node_85 (by decide) (fun c154 => ?_) (fun c154 => ?_)
            · have hw := hw.1 c154
              refine lv_aload_n hx hb dC_node_98 rfl (lv_at hl 1 rfl) ?_
              refine va_get (D := (dC, dI)) (ci := 0) (v := .ref (a 2)) (C := RC) (T := TC) (N := 2) hx hb hts (fun w h => List.mem_cons_of_mem _ (inC w h)) hown hK hP 0 rfl rfl 1 (by decide) (hts (.fieldLink RC 21 "CoverTrees" "forest" "LCoverTrees$Forest;") (List.mem_cons_of_mem _ wt_135)) (fun _ h9 => h9) rfl dC_node_99 ?_
              refine lv_iload_n hx hb dC_node_102 rfl (lv_at hl 2 rfl) ?_
              refine lv_iload hx hb dC_node_103 (lv_at hl 0 rfl) ?_
              refine lv_iconst (v := 1) hx hb dC_node_105 (by decide) ?_
              refine lv_icmp_lt (tgt := 113) hx hb dC_node_106 (by decide) (fun c155 => ?_) (fun c155 => ?_)
              · have hw := hw.1 c155
                refine lv_iconst (v := 0) hx hb dC_node_113 (by decide) ?_
                refine lv_iload hx hb dC_node_114 (lv_at hl 0 rfl) ?_
                refine lv_iconst (v := 2) hx hb dC_node_116 (by decide) ?_
                refine lv_icmp_lt (tgt := 124) hx hb dC_node_117 (by decide) (fun c156 => ?_) (fun c156 => ?_)
                · have hw := hw.1 c156
                  refine lv_iconst (v := 0) hx hb dC_node_124 (by decide) ?_
                  refine ct_v (va_runV (As := [.int p1, .int 0, .int 0]) (rest := []) ⟨hx, hb, hml, hown, hts⟩ (met_F_draft l dC dI a cA sa p1 0 0 n_151 f_152 _ hw) (cwV 3 hts (wb_V wt_306 wt_307 wt_308 wt_29 wt_309) rfl rfl rfl (by decide +kernel) ⟨Nat.le_of_ble_eq_true rfl, Nat.le_of_ble_eq_true rfl⟩) (ct_preV hK hP (hDa _ _) hZ hS hA (va_recv hK hP (ci := 2) (q0 := 2) rfl rfl)) rfl rfl hl.1 rfl (lv_room (Nat.le_of_ble_eq_true rfl)) dC_node_125 ⟨Nat.le_of_ble_eq_true rfl, Nat.le_of_ble_eq_true rfl⟩) (hDa _ _) hS hA (fun n_158 f_159 H locs hw hP hS => ?_)
                  refine lv_aload_n hx hb dC_node_128 rfl (lv_at hl 1 rfl) ?_
                  refine va_get (D := (dC, dI)) (ci := 0) (v := .ref (a 2)) (C := RC) (T := TC) (N := 2) hx hb hts (fun w h => List.mem_cons_of_mem _ (inC w h)) hown hK hP 0 rfl rfl 1 (by decide) (hts (.fieldLink RC 21 "CoverTrees" "forest" "LCoverTrees$Forest;") (List.mem_cons_of_mem _ wt_135)) (fun _ h9 => h9) rfl dC_node_129 ?_
                  refine ct_i (va_runV (As := []) (rest := []) ⟨hx, hb, hml, hown, hts⟩ (met_F_draftIsTooDear l dC dI a cA sa n_158 f_159 _ hw) (cwV 0 hts (wb_V wt_352 wt_353 wt_354 wt_29 wt_355) rfl rfl rfl (by decide +kernel) ⟨Nat.le_of_ble_eq_true rfl, Nat.le_of_ble_eq_true rfl⟩) (ct_preV hK hP (hDa _ _) hZ hS hA (va_recv hK hP (ci := 2) (q0 := 2) rfl rfl)) rfl rfl hl.1 rfl (lv_room (Nat.le_of_ble_eq_true rfl)) dC_node_132 ⟨Nat.le_of_ble_eq_true rfl, Nat.le_of_ble_eq_true rfl⟩) (hDa _ _) hS hA (fun r160 n_161 f_162 H locs hw hP hS => ?_)
                  refine lv_if_eq (tgt := 148) hx hb dC_node_135 (by decide) (fun c163 => ?_) (fun c163 => ?_)
                  · have hw := hw.1 c163
                    refine lv_aload_n hx hb dC_node_148 rfl (lv_at hl 1 rfl) ?_
                    refine va_get (D := (dC, dI)) (ci := 0) (v := .ref (a 2)) (C := RC) (T := TC) (N := 2) hx hb hts (fun w h => List.mem_cons_of_mem _ (inC w h)) hown hK hP 0 rfl rfl 1 (by decide) (hts (.fieldLink RC 21 "CoverTrees" "forest" "LCoverTrees$Forest;") (List.mem_cons_of_mem _ wt_135)) (fun _ h9 => h9) rfl dC_node_149 ?_
                    refine ct_i (va_runV (As := []) (rest := []) ⟨hx, hb, hml, hown, hts⟩ (met_F_keepDraft l dC dI a cA sa n_161 f_162 _ hw) (cwV 0 hts (wb_V wt_358 wt_359 wt_360 wt_29 wt_361) rfl rfl rfl (by decide +kernel) ⟨Nat.le_of_ble_eq_true rfl, Nat.le_of_ble_eq_true rfl⟩) (ct_preV hK hP (hDa _ _) hZ hS hA (va_recv hK hP (ci := 2) (q0 := 2) rfl rfl)) rfl rfl hl.1 rfl (lv_room (Nat.le_of_ble_eq_true rfl)) dC_node_152 ⟨Nat.le_of_ble_eq_true rfl, Nat.le_of_ble_eq_true rfl⟩) (hDa _ _) hS hA (fun r164 n_165 f_166 H locs hw hP hS => ?_)
                    exact W.iret (v := r164) hx hb hr (fun t ht hW => ⟨⟨r164, (n_165, f_166), rfl, hw, ct_mkB ht hP⟩, hS.F ht⟩) hS.2.2 dC_node_155
                  · have hw := hw.2 c163
                    exact False.elim hw
                · have hw := hw.2 c156
                  refine lv_iload_n hx hb dC_node_120 rfl (lv_at hl 4 rfl) ?_
                  refine lv_goto (tgt := 125) hx hb dC_node_121 (by decide) ?_
                  refine ct_v (va_runV (As := [.int p1, .int 0, .int p3]) (rest := []) ⟨hx, hb, hml, hown, hts⟩ (met_F_draft l dC dI a cA sa p1 0 p3 n_151 f_152 _ hw) (cwV 3 hts (wb_V wt_306 wt_307 wt_308 wt_29 wt_309) rfl rfl rfl (by decide +kernel) ⟨Nat.le_of_ble_eq_true rfl, Nat.le_of_ble_eq_true rfl⟩) (ct_preV hK hP (hDa _ _) hZ hS hA (va_recv hK hP (ci := 2) (q0 := 2) rfl rfl)) rfl rfl hl.1 rfl (lv_room (Nat.le_of_ble_eq_true rfl)) dC_node_125 ⟨Nat.le_of_ble_eq_true rfl, Nat.le_of_ble_eq_true rfl⟩) (hDa _ _) hS hA (fun n_168 f_169 H locs hw hP hS => ?_)
                  refine lv_aload_n hx hb dC_node_128 rfl (lv_at hl 1 rfl) ?_
                  refine va_get (D := (dC, dI)) (ci := 0) (v := .ref (a 2)) (C := RC) (T := TC) (N := 2) hx hb hts (fun w h => List.mem_cons_of_mem _ (inC w h)) hown hK hP 0 rfl rfl 1 (by decide) (hts (.fieldLink RC 21 "CoverTrees" "forest" "LCoverTrees$Forest;") (List.mem_cons_of_mem _ wt_135)) (fun _ h9 => h9) rfl dC_node_129 ?_
                  refine ct_i (va_runV (As := []) (rest := []) ⟨hx, hb, hml, hown, hts⟩ (met_F_draftIsTooDear l dC dI a cA sa n_168 f_169 _ hw) (cwV 0 hts (wb_V wt_352 wt_353 wt_354 wt_29 wt_355) rfl rfl rfl (by decide +kernel) ⟨Nat.le_of_ble_eq_true rfl, Nat.le_of_ble_eq_true rfl⟩) (ct_preV hK hP (hDa _ _) hZ hS hA (va_recv hK hP (ci := 2) (q0 := 2) rfl rfl)) rfl rfl hl.1 rfl (lv_room (Nat.le_of_ble_eq_true rfl)) dC_node_132 ⟨Nat.le_of_ble_eq_true rfl, Nat.le_of_ble_eq_true rfl⟩) (hDa _ _) hS hA (fun r170 n_171 f_172 H locs hw hP hS => ?_)
                  refine lv_if_eq (tgt := 148) hx hb dC_node_135 (by decide) (fun c173 => ?_) (fun c173 => ?_)
                  · have hw := hw.1 c173
                    refine lv_aload_n hx hb dC_node_148 rfl (lv_at hl 1 rfl) ?_
                    refine va_get (D := (dC, dI)) (ci := 0) (v := .ref (a 2)) (C := RC) (T := TC) (N := 2) hx hb hts (fun w h => List.mem_cons_of_mem _ (inC w h)) hown hK hP 0 rfl rfl 1 (by decide) (hts (.fieldLink RC 21 "CoverTrees" "forest" "LCoverTrees$Forest;") (List.mem_cons_of_mem _ wt_135)) (fun _ h9 => h9) rfl dC_node_149 ?_
                    refine ct_i (va_runV (As := []) (rest := []) ⟨hx, hb, hml, hown, hts⟩ (met_F_keepDraft l dC dI a cA sa n_171 f_172 _ hw) (cwV 0 hts (wb_V wt_358 wt_359 wt_360 wt_29 wt_361) rfl rfl rfl (by decide +kernel) ⟨Nat.le_of_ble_eq_true rfl, Nat.le_of_ble_eq_true rfl⟩) (ct_preV hK hP (hDa _ _) hZ hS hA (va_recv hK hP (ci := 2) (q0 := 2) rfl rfl)) rfl rfl hl.1 rfl (lv_room (Nat.le_of_ble_eq_true rfl)) dC_node_152 ⟨Nat.le_of_ble_eq_true rfl, Nat.le_of_ble_eq_true rfl⟩) (hDa _ _) hS hA (fun r174 n_175 f_176 H locs hw hP hS => ?_)
                    exact W.iret (v := r174) hx hb hr (fun t ht hW => ⟨⟨r174, (n_175, f_176), rfl, hw, ct_mkB ht hP⟩, hS.F ht⟩) hS.2.2 dC_node_155
                  · have hw := hw.2 c173
                    exact False.elim hw
              · have hw := hw.2 c155
                refine lv_iload_n hx hb dC_node_109 rfl (lv_at hl 3 rfl) ?_
                refine lv_goto (tgt := 114) hx hb dC_node_110 (by decide) ?_
                refine lv_iload hx hb dC_node_114 (lv_at hl 0 rfl) ?_
                refine lv_iconst (v := 2) hx hb dC_node_116 (by decide) ?_
                refine lv_icmp_lt (tgt := 124) hx hb dC_node_117 (by decide) (fun c177 => ?_) (fun c177 => ?_)
                · have hw := hw.1 c177
                  refine lv_iconst (v := 0) hx hb dC_node_124 (by decide) ?_
                  refine ct_v (va_runV (As := [.int p1, .int p2, .int 0]) (rest := []) ⟨hx, hb, hml, hown, hts⟩ (met_F_draft l dC dI a cA sa p1 p2 0 n_151 f_152 _ hw) (cwV 3 hts (wb_V wt_306 wt_307 wt_308 wt_29 wt_309) rfl rfl rfl (by decide +kernel) ⟨Nat.le_of_ble_eq_true rfl, Nat.le_of_ble_eq_true rfl⟩) (ct_preV hK hP (hDa _ _) hZ hS hA (va_recv hK hP (ci := 2) (q0 := 2) rfl rfl)) rfl rfl hl.1 rfl (lv_room (Nat.le_of_ble_eq_true rfl)) dC_node_125 ⟨Nat.le_of_ble_eq_true rfl, Nat.le_of_ble_eq_true rfl⟩) (hDa _ _) hS hA (fun n_179 f_180 H locs hw hP hS => ?_)
                  refine lv_aload_n hx hb dC_node_128 rfl (lv_at hl 1 rfl) ?_
                  refine va_get (D := (dC, dI)) (ci := 0) (v := .ref (a 2)) (C := RC) (T := TC) (N := 2) hx hb hts (fun w h => List.mem_cons_of_mem _ (inC w h)) hown hK hP 0 rfl rfl 1 (by decide) (hts (.fieldLink RC 21 "CoverTrees" "forest" "LCoverTrees$Forest;") (List.mem_cons_of_mem _ wt_135)) (fun _ h9 => h9) rfl dC_node_129 ?_
                  refine ct_i (va_runV (As := []) (rest := []) ⟨hx, hb, hml, hown, hts⟩ (met_F_draftIsTooDear l dC dI a cA sa n_179 f_180 _ hw) (cwV 0 hts (wb_V wt_352 wt_353 wt_354 wt_29 wt_355) rfl rfl rfl (by decide +kernel) ⟨Nat.le_of_ble_eq_true rfl, Nat.le_of_ble_eq_true rfl⟩) (ct_preV hK hP (hDa _ _) hZ hS hA (va_recv hK hP (ci := 2) (q0 := 2) rfl rfl)) rfl rfl hl.1 rfl (lv_room (Nat.le_of_ble_eq_true rfl)) dC_node_132 ⟨Nat.le_of_ble_eq_true rfl, Nat.le_of_ble_eq_true rfl⟩) (hDa _ _) hS hA (fun r181 n_182 f_183 H locs hw hP hS => ?_)
                  refine lv_if_eq (tgt := 148) hx hb dC_node_135 (by decide) (fun c184 => ?_) (fun c184 => ?_)
                  · have hw := hw.1 c184
                    refine lv_aload_n hx hb dC_node_148 rfl (lv_at hl 1 rfl) ?_
                    refine va_get (D := (dC, dI)) (ci := 0) (v := .ref (a 2)) (C := RC) (T := TC) (N := 2) hx hb hts (fun w h => List.mem_cons_of_mem _ (inC w h)) hown hK hP 0 rfl rfl 1 (by decide) (hts (.fieldLink RC 21 "CoverTrees" "forest" "LCoverTrees$Forest;") (List.mem_cons_of_mem _ wt_135)) (fun _ h9 => h9) rfl dC_node_149 ?_
                    refine ct_i (va_runV (As := []) (rest := []) ⟨hx, hb, hml, hown, hts⟩ (met_F_keepDraft l dC dI a cA sa n_182 f_183 _ hw) (cwV 0 hts (wb_V wt_358 wt_359 wt_360 wt_29 wt_361) rfl rfl rfl (by decide +kernel) ⟨Nat.le_of_ble_eq_true rfl, Nat.le_of_ble_eq_true rfl⟩) (ct_preV hK hP (hDa _ _) hZ hS hA (va_recv hK hP (ci := 2) (q0 := 2) rfl rfl)) rfl rfl hl.1 rfl (lv_room (Nat.le_of_ble_eq_true rfl)) dC_node_152 ⟨Nat.le_of_ble_eq_true rfl, Nat.le_of_ble_eq_true rfl⟩) (hDa _ _) hS hA (fun r185 n_186 f_187 H locs hw hP hS => ?_)
                    exact W.iret (v := r185) hx hb hr (fun t ht hW => ⟨⟨r185, (n_186, f_187), rfl, hw, ct_mkB ht hP⟩, hS.F ht⟩) hS.2.2 dC_node_155
                  · have hw := hw.2 c184
                    exact False.elim hw
                · have hw := hw.2 c177
                  refine lv_iload_n hx hb dC_node_120 rfl (lv_at hl 4 rfl) ?_
                  refine lv_goto (tgt := 125) hx hb dC_node_121 (by decide) ?_
                  refine ct_v (va_runV (As := [.int p1, .int p2, .int p3]) (rest := []) ⟨hx, hb, hml, hown, hts⟩ (met_F_draft l dC dI a cA sa p1 p2 p3 n_151 f_152 _ hw) (cwV 3 hts (wb_V wt_306 wt_307 wt_308 wt_29 wt_309) rfl rfl rfl (by decide +kernel) ⟨Nat.le_of_ble_eq_true rfl, Nat.le_of_ble_eq_true rfl⟩) (ct_preV hK hP (hDa _ _) hZ hS hA (va_recv hK hP (ci := 2) (q0 := 2) rfl rfl)) rfl rfl hl.1 rfl (lv_room (Nat.le_of_ble_eq_true rfl)) dC_node_125 ⟨Nat.le_of_ble_eq_true rfl, Nat.le_of_ble_eq_true rfl⟩) (hDa _ _) hS hA (fun n_189 f_190 H locs hw hP hS => ?_)
                  refine lv_aload_n hx hb dC_node_128 rfl (lv_at hl 1 rfl) ?_
                  refine va_get (D := (dC, dI)) (ci := 0) (v := .ref (a 2)) (C := RC) (T := TC) (N := 2) hx hb hts (fun w h => List.mem_cons_of_mem _ (inC w h)) hown hK hP 0 rfl rfl 1 (by decide) (hts (.fieldLink RC 21 "CoverTrees" "forest" "LCoverTrees$Forest;") (List.mem_cons_of_mem _ wt_135)) (fun _ h9 => h9) rfl dC_node_129 ?_
                  refine ct_i (va_runV (As := []) (rest := []) ⟨hx, hb, hml, hown, hts⟩ (met_F_draftIsTooDear l dC dI a cA sa n_189 f_190 _ hw) (cwV 0 hts (wb_V wt_352 wt_353 wt_354 wt_29 wt_355) rfl rfl rfl (by decide +kernel) ⟨Nat.le_of_ble_eq_true rfl, Nat.le_of_ble_eq_true rfl⟩) (ct_preV hK hP (hDa _ _) hZ hS hA (va_recv hK hP (ci := 2) (q0 := 2) rfl rfl)) rfl rfl hl.1 rfl (lv_room (Nat.le_of_ble_eq_true rfl)) dC_node_132 ⟨Nat.le_of_ble_eq_true rfl, Nat.le_of_ble_eq_true rfl⟩) (hDa _ _) hS hA (fun r191 n_192 f_193 H locs hw hP hS => ?_)
                  refine lv_if_eq (tgt := 148) hx hb dC_node_135 (by decide) (fun c194 => ?_) (fun c194 => ?_)
                  · have hw := hw.1 c194
                    refine lv_aload_n hx hb dC_node_148 rfl (lv_at hl 1 rfl) ?_
                    refine va_get (D := (dC, dI)) (ci := 0) (v := .ref (a 2)) (C := RC) (T := TC) (N := 2) hx hb hts (fun w h => List.mem_cons_of_mem _ (inC w h)) hown hK hP 0 rfl rfl 1 (by decide) (hts (.fieldLink RC 21 "CoverTrees" "forest" "LCoverTrees$Forest;") (List.mem_cons_of_mem _ wt_135)) (fun _ h9 => h9) rfl dC_node_149 ?_
                    refine ct_i (va_runV (As := []) (rest := []) ⟨hx, hb, hml, hown, hts⟩ (met_F_keepDraft l dC dI a cA sa n_192 f_193 _ hw) (cwV 0 hts (wb_V wt_358 wt_359 wt_360 wt_29 wt_361) rfl rfl rfl (by decide +kernel) ⟨Nat.le_of_ble_eq_true rfl, Nat.le_of_ble_eq_true rfl⟩) (ct_preV hK hP (hDa _ _) hZ hS hA (va_recv hK hP (ci := 2) (q0 := 2) rfl rfl)) rfl rfl hl.1 rfl (lv_room (Nat.le_of_ble_eq_true rfl)) dC_node_152 ⟨Nat.le_of_ble_eq_true rfl, Nat.le_of_ble_eq_true rfl⟩) (hDa _ _) hS hA (fun r195 n_196 f_197 H locs hw hP hS => ?_)
                    exact W.iret (v := r195) hx hb hr (fun t ht hW => ⟨⟨r195, (n_196, f_197), rfl, hw, ct_mkB ht hP⟩, hS.F ht⟩) hS.2.2 dC_node_155
                  · have hw := hw.2 c194
                    exact False.elim hw
            · have hw := hw.2 c154
              exact False.elim hw
          · have hw := hw.2 c153
            exact False.elim hw
  · have hw := hw.2 c4
    exact False.elim hw
set_option maxHeartbeats 4000000 in
set_option maxRecDepth 100000 in
theorem metx_C_node (l : Launch) (hl9 : l.stackTraces = false) (dC : Nat → ClassId) (dI : Nat → Nat → Nat) (a : Nat → Nat) (cA : Nat → ClassId) (sa : Nat → Nat) (p1 : Int32) (p2 : Int32) (p3 : Int32) (n : ctN) (f : ctF) (sz : Nat) {xp : String → ctN → ctF → Prop} (hw : wp_C_node pFi xp p1 p2 p3 n f) : vx_Met l yC_node wsC_node ({ frames := 6, cells := 1, slots := 6, locals := 112 } : Room) (ct_Pc dC dI a cA sa [.ref (a 0), .int p1, .int p2, .int p3] n f sz) (va_Qi (fun (r : Int32) (u : ctN × ctF) => pFi r u.1 u.2) (ct_B dC dI a cA) (va_A (ctW a cA n f) sz)) (vx_X (fun (_ : ctN × ctF) => True) (fun E u t => xp E u.1 u.2 ∧ ct_B dC dI a cA u t) (va_A (ctW a cA n f) sz)) 1 6 (va_A (ctW a cA n f) sz) := by
  refine vx_ofW (cc := cC_node) (maxL := 5) (ret := (some .int)) (by decide) rfl ?_
  intro p e s m args below meth c s₁ B hml htb hv
  obtain ⟨rfl, hsz, hP, hK, hD0, hZ⟩ := hv
  have hx := B.exec
  have hb := B.bytes
  have hr := B.returns
  have hts := atoms_spec (ws := wsC_node) B.pre
  have hown : s.vm.findClass RC = some m.cls := findClass_of_methodNamed B.named
  have hlocks := B.notSynchronized
  subst hsz
  have hD := hD0.self (sz := s.heap.size)
  generalize hAe : va_A (ctW a cA n f) s.heap.size = A at hD hZ ⊢
  have hDa : ∀ (n : ctN) (f : ctF), va_D A (ctW a cA n f) := fun _ _ => ct_D hD
  have hA : ∀ q : Nat, s.heap.size ≤ q → A q := fun q h => by rw [← hAe]; exact Or.inr h
  have hS : va_S A s.heap s.heap [] := va_S.rf
  have hl := lv_entry ([.ref (a 0), .int p1, .int p2, .int p3]) (n := 5) (Nat.le_of_ble_eq_true rfl)
  rw [lg_entry_eq]
  generalize (lg_sl ([.ref (a 0), .int p1, .int p2, .int p3]) ++ List.replicate (5 - (lg_sl ([.ref (a 0), .int p1, .int p2, .int p3])).length) Slot.unset).toArray = ls at hl ⊢
  have hl : lv_has ls 5 [(0, .ref (a 0)), (1, .int p1), (2, .int p2), (3, .int p3)] := hl
  unfold wp_C_node at hw
  refine lv_aload_n hx hb dC_node_0 rfl (lv_at hl 0 rfl) ?_
  refine va_get (D := (dC, dI)) (ci := 0) (v := .ref (a 1)) (C := RC) (T := TC) (N := 2) hx hb hts (fun w h => List.mem_cons_of_mem _ (inC w h)) hown hK hP 0 rfl rfl 0 (by decide) (hts (.fieldLink RC 12 "CoverTrees" "grammar" "LCoverTrees$Grammar;") (List.mem_cons_of_mem _ wt_134)) (fun _ h9 => h9) rfl dC_node_1 ?_
  refine lv_iload_n hx hb dC_node_4 rfl (lv_at hl 1 rfl) ?_
  refine ct_i (va_runV (As := [.int p1]) (rest := []) ⟨hx, hb, hml, hown, hts⟩ (met_G_hasOperator l dC dI a cA sa p1 n f _ hw) (cwV 1 hts (wb_V wt_264 wt_265 wt_266 wt_28 wt_267) rfl rfl rfl (by decide +kernel) ⟨Nat.le_of_ble_eq_true rfl, Nat.le_of_ble_eq_true rfl⟩) (ct_preV hK hP (hDa _ _) hZ hS hA (va_recv hK hP (ci := 1) (q0 := 1) rfl rfl)) rfl rfl hl.1 rfl (lv_room (Nat.le_of_ble_eq_true rfl)) dC_node_5 ⟨Nat.le_of_ble_eq_true rfl, Nat.le_of_ble_eq_true rfl⟩) (hDa _ _) hS hA (fun r1 n_2 f_3 H locs hw hP hS => ?_)
  refine lv_if_ne (tgt := 21) hx hb dC_node_8 (by decide) (fun c4 => ?_) (fun c4 => ?_)
  · have hw := hw.1 c4
    refine lv_aload_n hx hb dC_node_21 rfl (lv_at hl 0 rfl) ?_
    refine va_get (D := (dC, dI)) (ci := 0) (v := .ref (a 1)) (C := RC) (T := TC) (N := 2) hx hb hts (fun w h => List.mem_cons_of_mem _ (inC w h)) hown hK hP 0 rfl rfl 0 (by decide) (hts (.fieldLink RC 12 "CoverTrees" "grammar" "LCoverTrees$Grammar;") (List.mem_cons_of_mem _ wt_134)) (fun _ h9 => h9) rfl dC_node_22 ?_
    refine va_get (D := (dC, dI)) (ci := 1) (v := .ref (a 3)) (C := RG) (T := TG) (N := 8) hx hb hts (fun w h => List.mem_cons_of_mem _ (inG w h)) hown hK hP 1 rfl rfl 1 (by decide) (hts (.fieldLink RC 60 "CoverTrees$Grammar" "parts" "[I") (List.mem_cons_of_mem _ wt_55)) (fun _ h9 => h9) rfl dC_node_25 ?_
    refine lv_iload_n hx hb dC_node_28 rfl (lv_at hl 1 rfl) ?_
    obtain ⟨hi5, hw⟩ := hw
    refine va_iald hx hb hK hP 3 0 rfl rfl hi5 dC_node_29 ?_
    refine lv_topi (fun x4_6 ex4_6 => ?_)
    have hw := hw x4_6 ex4_6
    refine lv_istore (lv' := [(4, .int x4_6), (0, .ref (a 0)), (1, .int p1), (2, .int p2), (3, .int p3)]) hx hb dC_node_30 hl (by decide) rfl (fun ls hl => ?_)
    refine lv_iload hx hb dC_node_32 (lv_at hl 0 rfl) ?_
    refine lv_iconst (v := 1) hx hb dC_node_34 (by decide) ?_
    refine lv_icmp_lt (tgt := 49) hx hb dC_node_35 (by decide) (fun c7 => ?_) (fun c7 => ?_)
    · have hw := hw.1 c7
      refine lv_iload hx hb dC_node_49 (lv_at hl 0 rfl) ?_
      refine lv_iconst (v := 2) hx hb dC_node_51 (by decide) ?_
      refine lv_icmp_lt (tgt := 76) hx hb dC_node_52 (by decide) (fun c8 => ?_) (fun c8 => ?_)
      · have hw := hw.1 c8
        refine lv_aload_n hx hb dC_node_76 rfl (lv_at hl 1 rfl) ?_
        refine va_get (D := (dC, dI)) (ci := 0) (v := .ref (a 2)) (C := RC) (T := TC) (N := 2) hx hb hts (fun w h => List.mem_cons_of_mem _ (inC w h)) hown hK hP 0 rfl rfl 1 (by decide) (hts (.fieldLink RC 21 "CoverTrees" "forest" "LCoverTrees$Forest;") (List.mem_cons_of_mem _ wt_135)) (fun _ h9 => h9) rfl dC_node_77 ?_
        refine va_get (D := (dC, dI)) (ci := 2) (v := .int (n_2 2)) (C := RF) (T := TF) (N := 11) hx hb hts (fun w h => List.mem_cons_of_mem _ (inF w h)) hown hK hP 2 rfl rfl 1 (by decide) (hts (.fieldLink RC 25 "CoverTrees$Forest" "count" "I") (List.mem_cons_of_mem _ wt_95)) (fun _ h9 => h9) rfl dC_node_80 ?_
        refine lv_bipush (v := 120) hx hb dC_node_83 (by decide) ?_
        refine lv_icmp_lt (tgt := 98) hx hb dC_node_85 (by decide) (fun c9 => ?_) (fun c9 => ?_)
        · have hw := hw.1 c9
          refine lv_aload_n hx hb dC_node_98 rfl (lv_at hl 1 rfl) ?_
          refine va_get (D := (dC, dI)) (ci := 0) (v := .ref (a 2)) (C := RC) (T := TC) (N := 2) hx hb hts (fun w h => List.mem_cons_of_mem _ (inC w h)) hown hK hP 0 rfl rfl 1 (by decide) (hts (.fieldLink RC 21 "CoverTrees" "forest" "LCoverTrees$Forest;") (List.mem_cons_of_mem _ wt_135)) (fun _ h9 => h9) rfl dC_node_99 ?_
          refine lv_iload_n hx hb dC_node_102 rfl (lv_at hl 2 rfl) ?_
          refine lv_iload hx hb dC_node_103 (lv_at hl 0 rfl) ?_
          refine lv_iconst (v := 1) hx hb dC_node_105 (by decide) ?_
          refine lv_icmp_lt (tgt := 113) hx hb dC_node_106 (by decide) (fun c10 => ?_) (fun c10 => ?_)
          · have hw := hw.1 c10
            refine lv_iconst (v := 0) hx hb dC_node_113 (by decide) ?_
            refine lv_iload hx hb dC_node_114 (lv_at hl 0 rfl) ?_
            refine lv_iconst (v := 2) hx hb dC_node_116 (by decide) ?_
            refine lv_icmp_lt (tgt := 124) hx hb dC_node_117 (by decide) (fun c11 => ?_) (fun c11 => ?_)
            · have hw := hw.1 c11
              refine lv_iconst (v := 0) hx hb dC_node_124 (by decide) ?_
              refine ct_v (va_runV (As := [.int p1, .int 0, .int 0]) (rest := []) ⟨hx, hb, hml, hown, hts⟩ (met_F_draft l dC dI a cA sa p1 0 0 n_2 f_3 _ hw) (cwV 3 hts (wb_V wt_306 wt_307 wt_308 wt_29 wt_309) rfl rfl rfl (by decide +kernel) ⟨Nat.le_of_ble_eq_true rfl, Nat.le_of_ble_eq_true rfl⟩) (ct_preV hK hP (hDa _ _) hZ hS hA (va_recv hK hP (ci := 2) (q0 := 2) rfl rfl)) rfl rfl hl.1 rfl (lv_room (Nat.le_of_ble_eq_true rfl)) dC_node_125 ⟨Nat.le_of_ble_eq_true rfl, Nat.le_of_ble_eq_true rfl⟩) (hDa _ _) hS hA (fun n_13 f_14 H locs hw hP hS => ?_)
              refine lv_aload_n hx hb dC_node_128 rfl (lv_at hl 1 rfl) ?_
              refine va_get (D := (dC, dI)) (ci := 0) (v := .ref (a 2)) (C := RC) (T := TC) (N := 2) hx hb hts (fun w h => List.mem_cons_of_mem _ (inC w h)) hown hK hP 0 rfl rfl 1 (by decide) (hts (.fieldLink RC 21 "CoverTrees" "forest" "LCoverTrees$Forest;") (List.mem_cons_of_mem _ wt_135)) (fun _ h9 => h9) rfl dC_node_129 ?_
              refine ct_i (va_runV (As := []) (rest := []) ⟨hx, hb, hml, hown, hts⟩ (met_F_draftIsTooDear l dC dI a cA sa n_13 f_14 _ hw) (cwV 0 hts (wb_V wt_352 wt_353 wt_354 wt_29 wt_355) rfl rfl rfl (by decide +kernel) ⟨Nat.le_of_ble_eq_true rfl, Nat.le_of_ble_eq_true rfl⟩) (ct_preV hK hP (hDa _ _) hZ hS hA (va_recv hK hP (ci := 2) (q0 := 2) rfl rfl)) rfl rfl hl.1 rfl (lv_room (Nat.le_of_ble_eq_true rfl)) dC_node_132 ⟨Nat.le_of_ble_eq_true rfl, Nat.le_of_ble_eq_true rfl⟩) (hDa _ _) hS hA (fun r15 n_16 f_17 H locs hw hP hS => ?_)
              refine lv_if_eq (tgt := 148) hx hb dC_node_135 (by decide) (fun c18 => ?_) (fun c18 => ?_)
              · have hw := hw.1 c18
                refine lv_aload_n hx hb dC_node_148 rfl (lv_at hl 1 rfl) ?_
                refine va_get (D := (dC, dI)) (ci := 0) (v := .ref (a 2)) (C := RC) (T := TC) (N := 2) hx hb hts (fun w h => List.mem_cons_of_mem _ (inC w h)) hown hK hP 0 rfl rfl 1 (by decide) (hts (.fieldLink RC 21 "CoverTrees" "forest" "LCoverTrees$Forest;") (List.mem_cons_of_mem _ wt_135)) (fun _ h9 => h9) rfl dC_node_149 ?_
                refine ct_i (va_runV (As := []) (rest := []) ⟨hx, hb, hml, hown, hts⟩ (met_F_keepDraft l dC dI a cA sa n_16 f_17 _ hw) (cwV 0 hts (wb_V wt_358 wt_359 wt_360 wt_29 wt_361) rfl rfl rfl (by decide +kernel) ⟨Nat.le_of_ble_eq_true rfl, Nat.le_of_ble_eq_true rfl⟩) (ct_preV hK hP (hDa _ _) hZ hS hA (va_recv hK hP (ci := 2) (q0 := 2) rfl rfl)) rfl rfl hl.1 rfl (lv_room (Nat.le_of_ble_eq_true rfl)) dC_node_152 ⟨Nat.le_of_ble_eq_true rfl, Nat.le_of_ble_eq_true rfl⟩) (hDa _ _) hS hA (fun r19 n_20 f_21 H locs hw hP hS => ?_)
                exact False.elim hw
              · have hw := hw.2 c18
                exact vx_throwS (own := RC) (cls := "java/lang/UnsupportedOperationException") (text := "the node would cost more than 1000000") (names := ["java/lang/RuntimeException", "java/lang/Exception"]) (ik := 42) (is := 98) (ic := 46) (sa := sa 11) hx hb hl9 hown (by decide +kernel) (by decide +kernel) (hts (.classLink RC 42 "java/lang/UnsupportedOperationException") (List.mem_cons_of_mem _ wt_234)) (hts (.initialized "java/lang/UnsupportedOperationException") (List.mem_cons_of_mem _ wt_35)) hZ.2.2.2.2.2.2.2.2.2.2.2.2.2.2.2.2.2.2.1 (vx_hat (L := vx_atS RC 46 "java/lang/UnsupportedOperationException" ["java/lang/RuntimeException", "java/lang/Exception"]) (B := [.castable "java/lang/UnsupportedOperationException" "java/lang/UnsupportedOperationException", .declares ⟨"java/lang/RuntimeException", "<init>", "(Ljava/lang/String;)V"⟩, .declares ⟨"java/lang/Exception", "<init>", "(Ljava/lang/String;)V"⟩, .declares ⟨"java/lang/Throwable", "<init>", "(Ljava/lang/String;)V"⟩]) (fun w hw => hts w (List.mem_cons_of_mem _ (at_C_46 w hw))) bd_C_46 (vx_c (va_Nw.use rfl hZ.2.2.1) (vx_c (va_Nw.use rfl hZ.2.2.2.2.1) (vx_c (va_Nw.use rfl hZ.2.2.2.2.2.1) (vx_c (va_Nw.use rfl hZ.2.2.2.2.2.2.1) (vx_n)))))) gd_C_46 hZ.2.2.2.2.2.2.2.2.2.2.2.2.2.2.2.2.2.2.2.2.2.2.2.1 hZ.2.2.2.2.2.2.2.2.2.2.2.2.2.2.2.2.2.2.2.2.2.2.2.2 hS (hl.1.trans hml.symm) dC_node_138 dC_node_141 dC_node_142 dC_node_144 dC_node_147 (fun x h => (htb x h).elim) (Nat.le_of_ble_eq_true rfl) (Nat.le_of_ble_eq_true rfl) (Nat.le_of_ble_eq_true rfl) (Nat.le_of_ble_eq_true rfl) hlocks (fun t _ h1 h2 => ⟨(n_16, f_17), trivial, ⟨hw, (ct_thr hP hS h1 h2).1⟩, (ct_thr hP hS h1 h2).2⟩) hS.2.2 (Nat.le_of_ble_eq_true rfl) (Nat.le_of_ble_eq_true rfl)
            · have hw := hw.2 c11
              refine lv_iload_n hx hb dC_node_120 rfl (lv_at hl 4 rfl) ?_
              refine lv_goto (tgt := 125) hx hb dC_node_121 (by decide) ?_
              refine ct_v (va_runV (As := [.int p1, .int 0, .int p3]) (rest := []) ⟨hx, hb, hml, hown, hts⟩ (met_F_draft l dC dI a cA sa p1 0 p3 n_2 f_3 _ hw) (cwV 3 hts (wb_V wt_306 wt_307 wt_308 wt_29 wt_309) rfl rfl rfl (by decide +kernel) ⟨Nat.le_of_ble_eq_true rfl, Nat.le_of_ble_eq_true rfl⟩) (ct_preV hK hP (hDa _ _) hZ hS hA (va_recv hK hP (ci := 2) (q0 := 2) rfl rfl)) rfl rfl hl.1 rfl (lv_room (Nat.le_of_ble_eq_true rfl)) dC_node_125 ⟨Nat.le_of_ble_eq_true rfl, Nat.le_of_ble_eq_true rfl⟩) (hDa _ _) hS hA (fun n_23 f_24 H locs hw hP hS => ?_)
              refine lv_aload_n hx hb dC_node_128 rfl (lv_at hl 1 rfl) ?_
              refine va_get (D := (dC, dI)) (ci := 0) (v := .ref (a 2)) (C := RC) (T := TC) (N := 2) hx hb hts (fun w h => List.mem_cons_of_mem _ (inC w h)) hown hK hP 0 rfl rfl 1 (by decide) (hts (.fieldLink RC 21 "CoverTrees" "forest" "LCoverTrees$Forest;") (List.mem_cons_of_mem _ wt_135)) (fun _ h9 => h9) rfl dC_node_129 ?_
              refine ct_i (va_runV (As := []) (rest := []) ⟨hx, hb, hml, hown, hts⟩ (met_F_draftIsTooDear l dC dI a cA sa n_23 f_24 _ hw) (cwV 0 hts (wb_V wt_352 wt_353 wt_354 wt_29 wt_355) rfl rfl rfl (by decide +kernel) ⟨Nat.le_of_ble_eq_true rfl, Nat.le_of_ble_eq_true rfl⟩) (ct_preV hK hP (hDa _ _) hZ hS hA (va_recv hK hP (ci := 2) (q0 := 2) rfl rfl)) rfl rfl hl.1 rfl (lv_room (Nat.le_of_ble_eq_true rfl)) dC_node_132 ⟨Nat.le_of_ble_eq_true rfl, Nat.le_of_ble_eq_true rfl⟩) (hDa _ _) hS hA (fun r25 n_26 f_27 H locs hw hP hS => ?_)
              refine lv_if_eq (tgt := 148) hx hb dC_node_135 (by decide) (fun c28 => ?_) (fun c28 => ?_)
              · have hw := hw.1 c28
                refine lv_aload_n hx hb dC_node_148 rfl (lv_at hl 1 rfl) ?_
                refine va_get (D := (dC, dI)) (ci := 0) (v := .ref (a 2)) (C := RC) (T := TC) (N := 2) hx hb hts (fun w h => List.mem_cons_of_mem _ (inC w h)) hown hK hP 0 rfl rfl 1 (by decide) (hts (.fieldLink RC 21 "CoverTrees" "forest" "LCoverTrees$Forest;") (List.mem_cons_of_mem _ wt_135)) (fun _ h9 => h9) rfl dC_node_149 ?_
                refine ct_i (va_runV (As := []) (rest := []) ⟨hx, hb, hml, hown, hts⟩ (met_F_keepDraft l dC dI a cA sa n_26 f_27 _ hw) (cwV 0 hts (wb_V wt_358 wt_359 wt_360 wt_29 wt_361) rfl rfl rfl (by decide +kernel) ⟨Nat.le_of_ble_eq_true rfl, Nat.le_of_ble_eq_true rfl⟩) (ct_preV hK hP (hDa _ _) hZ hS hA (va_recv hK hP (ci := 2) (q0 := 2) rfl rfl)) rfl rfl hl.1 rfl (lv_room (Nat.le_of_ble_eq_true rfl)) dC_node_152 ⟨Nat.le_of_ble_eq_true rfl, Nat.le_of_ble_eq_true rfl⟩) (hDa _ _) hS hA (fun r29 n_30 f_31 H locs hw hP hS => ?_)
                exact False.elim hw
              · have hw := hw.2 c28
                exact vx_throwS (own := RC) (cls := "java/lang/UnsupportedOperationException") (text := "the node would cost more than 1000000") (names := ["java/lang/RuntimeException", "java/lang/Exception"]) (ik := 42) (is := 98) (ic := 46) (sa := sa 11) hx hb hl9 hown (by decide +kernel) (by decide +kernel) (hts (.classLink RC 42 "java/lang/UnsupportedOperationException") (List.mem_cons_of_mem _ wt_234)) (hts (.initialized "java/lang/UnsupportedOperationException") (List.mem_cons_of_mem _ wt_35)) hZ.2.2.2.2.2.2.2.2.2.2.2.2.2.2.2.2.2.2.1 (vx_hat (L := vx_atS RC 46 "java/lang/UnsupportedOperationException" ["java/lang/RuntimeException", "java/lang/Exception"]) (B := [.castable "java/lang/UnsupportedOperationException" "java/lang/UnsupportedOperationException", .declares ⟨"java/lang/RuntimeException", "<init>", "(Ljava/lang/String;)V"⟩, .declares ⟨"java/lang/Exception", "<init>", "(Ljava/lang/String;)V"⟩, .declares ⟨"java/lang/Throwable", "<init>", "(Ljava/lang/String;)V"⟩]) (fun w hw => hts w (List.mem_cons_of_mem _ (at_C_46 w hw))) bd_C_46 (vx_c (va_Nw.use rfl hZ.2.2.1) (vx_c (va_Nw.use rfl hZ.2.2.2.2.1) (vx_c (va_Nw.use rfl hZ.2.2.2.2.2.1) (vx_c (va_Nw.use rfl hZ.2.2.2.2.2.2.1) (vx_n)))))) gd_C_46 hZ.2.2.2.2.2.2.2.2.2.2.2.2.2.2.2.2.2.2.2.2.2.2.2.1 hZ.2.2.2.2.2.2.2.2.2.2.2.2.2.2.2.2.2.2.2.2.2.2.2.2 hS (hl.1.trans hml.symm) dC_node_138 dC_node_141 dC_node_142 dC_node_144 dC_node_147 (fun x h => (htb x h).elim) (Nat.le_of_ble_eq_true rfl) (Nat.le_of_ble_eq_true rfl) (Nat.le_of_ble_eq_true rfl) (Nat.le_of_ble_eq_true rfl) hlocks (fun t _ h1 h2 => ⟨(n_26, f_27), trivial, ⟨hw, (ct_thr hP hS h1 h2).1⟩, (ct_thr hP hS h1 h2).2⟩) hS.2.2 (Nat.le_of_ble_eq_true rfl) (Nat.le_of_ble_eq_true rfl)
          · have hw := hw.2 c10
            refine lv_iload_n hx hb dC_node_109 rfl (lv_at hl 3 rfl) ?_
            refine lv_goto (tgt := 114) hx hb dC_node_110 (by decide) ?_
            refine lv_iload hx hb dC_node_114 (lv_at hl 0 rfl) ?_
            refine lv_iconst (v := 2) hx hb dC_node_116 (by decide) ?_
            refine lv_icmp_lt (tgt := 124) hx hb dC_node_117 (by decide) (fun c32 => ?_) (fun c32 => ?_)
            · have hw := hw.1 c32
              refine lv_iconst (v := 0) hx hb dC_node_124 (by decide) ?_
              refine ct_v (va_runV (As := [.int p1, .int p2, .int 0]) (rest := []) ⟨hx, hb, hml, hown, hts⟩ (met_F_draft l dC dI a cA sa p1 p2 0 n_2 f_3 _ hw) (cwV 3 hts (wb_V wt_306 wt_307 wt_308 wt_29 wt_309) rfl rfl rfl (by decide +kernel) ⟨Nat.le_of_ble_eq_true rfl, Nat.le_of_ble_eq_true rfl⟩) (ct_preV hK hP (hDa _ _) hZ hS hA (va_recv hK hP (ci := 2) (q0 := 2) rfl rfl)) rfl rfl hl.1 rfl (lv_room (Nat.le_of_ble_eq_true rfl)) dC_node_125 ⟨Nat.le_of_ble_eq_true rfl, Nat.le_of_ble_eq_true rfl⟩) (hDa _ _) hS hA (fun n_34 f_35 H locs hw hP hS => ?_)
              refine lv_aload_n hx hb dC_node_128 rfl (lv_at hl 1 rfl) ?_
              refine va_get (D := (dC, dI)) (ci := 0) (v := .ref (a 2)) (C := RC) (T := TC) (N := 2) hx hb hts (fun w h => List.mem_cons_of_mem _ (inC w h)) hown hK hP 0 rfl rfl 1 (by decide) (hts (.fieldLink RC 21 "CoverTrees" "forest" "LCoverTrees$Forest;") (List.mem_cons_of_mem _ wt_135)) (fun _ h9 => h9) rfl dC_node_129 ?_
              refine ct_i (va_runV (As := []) (rest := []) ⟨hx, hb, hml, hown, hts⟩ (met_F_draftIsTooDear l dC dI a cA sa n_34 f_35 _ hw) (cwV 0 hts (wb_V wt_352 wt_353 wt_354 wt_29 wt_355) rfl rfl rfl (by decide +kernel) ⟨Nat.le_of_ble_eq_true rfl, Nat.le_of_ble_eq_true rfl⟩) (ct_preV hK hP (hDa _ _) hZ hS hA (va_recv hK hP (ci := 2) (q0 := 2) rfl rfl)) rfl rfl hl.1 rfl (lv_room (Nat.le_of_ble_eq_true rfl)) dC_node_132 ⟨Nat.le_of_ble_eq_true rfl, Nat.le_of_ble_eq_true rfl⟩) (hDa _ _) hS hA (fun r36 n_37 f_38 H locs hw hP hS => ?_)
              refine lv_if_eq (tgt := 148) hx hb dC_node_135 (by decide) (fun c39 => ?_) (fun c39 => ?_)
              · have hw := hw.1 c39
                refine lv_aload_n hx hb dC_node_148 rfl (lv_at hl 1 rfl) ?_
                refine va_get (D := (dC, dI)) (ci := 0) (v := .ref (a 2)) (C := RC) (T := TC) (N := 2) hx hb hts (fun w h => List.mem_cons_of_mem _ (inC w h)) hown hK hP 0 rfl rfl 1 (by decide) (hts (.fieldLink RC 21 "CoverTrees" "forest" "LCoverTrees$Forest;") (List.mem_cons_of_mem _ wt_135)) (fun _ h9 => h9) rfl dC_node_149 ?_
                refine ct_i (va_runV (As := []) (rest := []) ⟨hx, hb, hml, hown, hts⟩ (met_F_keepDraft l dC dI a cA sa n_37 f_38 _ hw) (cwV 0 hts (wb_V wt_358 wt_359 wt_360 wt_29 wt_361) rfl rfl rfl (by decide +kernel) ⟨Nat.le_of_ble_eq_true rfl, Nat.le_of_ble_eq_true rfl⟩) (ct_preV hK hP (hDa _ _) hZ hS hA (va_recv hK hP (ci := 2) (q0 := 2) rfl rfl)) rfl rfl hl.1 rfl (lv_room (Nat.le_of_ble_eq_true rfl)) dC_node_152 ⟨Nat.le_of_ble_eq_true rfl, Nat.le_of_ble_eq_true rfl⟩) (hDa _ _) hS hA (fun r40 n_41 f_42 H locs hw hP hS => ?_)
                exact False.elim hw
              · have hw := hw.2 c39
                exact vx_throwS (own := RC) (cls := "java/lang/UnsupportedOperationException") (text := "the node would cost more than 1000000") (names := ["java/lang/RuntimeException", "java/lang/Exception"]) (ik := 42) (is := 98) (ic := 46) (sa := sa 11) hx hb hl9 hown (by decide +kernel) (by decide +kernel) (hts (.classLink RC 42 "java/lang/UnsupportedOperationException") (List.mem_cons_of_mem _ wt_234)) (hts (.initialized "java/lang/UnsupportedOperationException") (List.mem_cons_of_mem _ wt_35)) hZ.2.2.2.2.2.2.2.2.2.2.2.2.2.2.2.2.2.2.1 (vx_hat (L := vx_atS RC 46 "java/lang/UnsupportedOperationException" ["java/lang/RuntimeException", "java/lang/Exception"]) (B := [.castable "java/lang/UnsupportedOperationException" "java/lang/UnsupportedOperationException", .declares ⟨"java/lang/RuntimeException", "<init>", "(Ljava/lang/String;)V"⟩, .declares ⟨"java/lang/Exception", "<init>", "(Ljava/lang/String;)V"⟩, .declares ⟨"java/lang/Throwable", "<init>", "(Ljava/lang/String;)V"⟩]) (fun w hw => hts w (List.mem_cons_of_mem _ (at_C_46 w hw))) bd_C_46 (vx_c (va_Nw.use rfl hZ.2.2.1) (vx_c (va_Nw.use rfl hZ.2.2.2.2.1) (vx_c (va_Nw.use rfl hZ.2.2.2.2.2.1) (vx_c (va_Nw.use rfl hZ.2.2.2.2.2.2.1) (vx_n)))))) gd_C_46 hZ.2.2.2.2.2.2.2.2.2.2.2.2.2.2.2.2.2.2.2.2.2.2.2.1 hZ.2.2.2.2.2.2.2.2.2.2.2.2.2.2.2.2.2.2.2.2.2.2.2.2 hS (hl.1.trans hml.symm) dC_node_138 dC_node_141 dC_node_142 dC_node_144 dC_node_147 (fun x h => (htb x h).elim) (Nat.le_of_ble_eq_true rfl) (Nat.le_of_ble_eq_true rfl) (Nat.le_of_ble_eq_true rfl) (Nat.le_of_ble_eq_true rfl) hlocks (fun t _ h1 h2 => ⟨(n_37, f_38), trivial, ⟨hw, (ct_thr hP hS h1 h2).1⟩, (ct_thr hP hS h1 h2).2⟩) hS.2.2 (Nat.le_of_ble_eq_true rfl) (Nat.le_of_ble_eq_true rfl)
            · have hw := hw.2 c32
              refine lv_iload_n hx hb dC_node_120 rfl (lv_at hl 4 rfl) ?_
              refine lv_goto (tgt := 125) hx hb dC_node_121 (by decide) ?_
              refine ct_v (va_runV (As := [.int p1, .int p2, .int p3]) (rest := []) ⟨hx, hb, hml, hown, hts⟩ (met_F_draft l dC dI a cA sa p1 p2 p3 n_2 f_3 _ hw) (cwV 3 hts (wb_V wt_306 wt_307 wt_308 wt_29 wt_309) rfl rfl rfl (by decide +kernel) ⟨Nat.le_of_ble_eq_true rfl, Nat.le_of_ble_eq_true rfl⟩) (ct_preV hK hP (hDa _ _) hZ hS hA (va_recv hK hP (ci := 2) (q0 := 2) rfl rfl)) rfl rfl hl.1 rfl (lv_room (Nat.le_of_ble_eq_true rfl)) dC_node_125 ⟨Nat.le_of_ble_eq_true rfl, Nat.le_of_ble_eq_true rfl⟩) (hDa _ _) hS hA (fun n_44 f_45 H locs hw hP hS => ?_)
              refine lv_aload_n hx hb dC_node_128 rfl (lv_at hl 1 rfl) ?_
              refine va_get (D := (dC, dI)) (ci := 0) (v := .ref (a 2)) (C := RC) (T := TC) (N := 2) hx hb hts (fun w h => List.mem_cons_of_mem _ (inC w h)) hown hK hP 0 rfl rfl 1 (by decide) (hts (.fieldLink RC 21 "CoverTrees" "forest" "LCoverTrees$Forest;") (List.mem_cons_of_mem _ wt_135)) (fun _ h9 => h9) rfl dC_node_129 ?_
              refine ct_i (va_runV (As := []) (rest := []) ⟨hx, hb, hml, hown, hts⟩ (met_F_draftIsTooDear l dC dI a cA sa n_44 f_45 _ hw) (cwV 0 hts (wb_V wt_352 wt_353 wt_354 wt_29 wt_355) rfl rfl rfl (by decide +kernel) ⟨Nat.le_of_ble_eq_true rfl, Nat.le_of_ble_eq_true rfl⟩) (ct_preV hK hP (hDa _ _) hZ hS hA (va_recv hK hP (ci := 2) (q0 := 2) rfl rfl)) rfl rfl hl.1 rfl (lv_room (Nat.le_of_ble_eq_true rfl)) dC_node_132 ⟨Nat.le_of_ble_eq_true rfl, Nat.le_of_ble_eq_true rfl⟩) (hDa _ _) hS hA (fun r46 n_47 f_48 H locs hw hP hS => ?_)
              refine lv_if_eq (tgt := 148) hx hb dC_node_135 (by decide) (fun c49 => ?_) (fun c49 => ?_)
              · have hw := hw.1 c49
                refine lv_aload_n hx hb dC_node_148 rfl (lv_at hl 1 rfl) ?_
                refine va_get (D := (dC, dI)) (ci := 0) (v := .ref (a 2)) (C := RC) (T := TC) (N := 2) hx hb hts (fun w h => List.mem_cons_of_mem _ (inC w h)) hown hK hP 0 rfl rfl 1 (by decide) (hts (.fieldLink RC 21 "CoverTrees" "forest" "LCoverTrees$Forest;") (List.mem_cons_of_mem _ wt_135)) (fun _ h9 => h9) rfl dC_node_149 ?_
                refine ct_i (va_runV (As := []) (rest := []) ⟨hx, hb, hml, hown, hts⟩ (met_F_keepDraft l dC dI a cA sa n_47 f_48 _ hw) (cwV 0 hts (wb_V wt_358 wt_359 wt_360 wt_29 wt_361) rfl rfl rfl (by decide +kernel) ⟨Nat.le_of_ble_eq_true rfl, Nat.le_of_ble_eq_true rfl⟩) (ct_preV hK hP (hDa _ _) hZ hS hA (va_recv hK hP (ci := 2) (q0 := 2) rfl rfl)) rfl rfl hl.1 rfl (lv_room (Nat.le_of_ble_eq_true rfl)) dC_node_152 ⟨Nat.le_of_ble_eq_true rfl, Nat.le_of_ble_eq_true rfl⟩) (hDa _ _) hS hA (fun r50 n_51 f_52 H locs hw hP hS => ?_)
                exact False.elim hw
              · have hw := hw.2 c49
                exact vx_throwS (own := RC) (cls := "java/lang/UnsupportedOperationException") (text := "the node would cost more than 1000000") (names := ["java/lang/RuntimeException", "java/lang/Exception"]) (ik := 42) (is := 98) (ic := 46) (sa := sa 11) hx hb hl9 hown (by decide +kernel) (by decide +kernel) (hts (.classLink RC 42 "java/lang/UnsupportedOperationException") (List.mem_cons_of_mem _ wt_234)) (hts (.initialized "java/lang/UnsupportedOperationException") (List.mem_cons_of_mem _ wt_35)) hZ.2.2.2.2.2.2.2.2.2.2.2.2.2.2.2.2.2.2.1 (vx_hat (L := vx_atS RC 46 "java/lang/UnsupportedOperationException" ["java/lang/RuntimeException", "java/lang/Exception"]) (B := [.castable "java/lang/UnsupportedOperationException" "java/lang/UnsupportedOperationException", .declares ⟨"java/lang/RuntimeException", "<init>", "(Ljava/lang/String;)V"⟩, .declares ⟨"java/lang/Exception", "<init>", "(Ljava/lang/String;)V"⟩, .declares ⟨"java/lang/Throwable", "<init>", "(Ljava/lang/String;)V"⟩]) (fun w hw => hts w (List.mem_cons_of_mem _ (at_C_46 w hw))) bd_C_46 (vx_c (va_Nw.use rfl hZ.2.2.1) (vx_c (va_Nw.use rfl hZ.2.2.2.2.1) (vx_c (va_Nw.use rfl hZ.2.2.2.2.2.1) (vx_c (va_Nw.use rfl hZ.2.2.2.2.2.2.1) (vx_n)))))) gd_C_46 hZ.2.2.2.2.2.2.2.2.2.2.2.2.2.2.2.2.2.2.2.2.2.2.2.1 hZ.2.2.2.2.2.2.2.2.2.2.2.2.2.2.2.2.2.2.2.2.2.2.2.2 hS (hl.1.trans hml.symm) dC_node_138 dC_node_141 dC_node_142 dC_node_144 dC_node_147 (fun x h => (htb x h).elim) (Nat.le_of_ble_eq_true rfl) (Nat.le_of_ble_eq_true rfl) (Nat.le_of_ble_eq_true rfl) (Nat.le_of_ble_eq_true rfl) hlocks (fun t _ h1 h2 => ⟨(n_47, f_48), trivial, ⟨hw, (ct_thr hP hS h1 h2).1⟩, (ct_thr hP hS h1 h2).2⟩) hS.2.2 (Nat.le_of_ble_eq_true rfl) (Nat.le_of_ble_eq_true rfl)
        · have hw := hw.2 c9
          exact vx_throwS (own := RC) (cls := "java/lang/UnsupportedOperationException") (text := "there are 120 nodes") (names := ["java/lang/RuntimeException", "java/lang/Exception"]) (ik := 42) (is := 88) (ic := 46) (sa := sa 10) hx hb hl9 hown (by decide +kernel) (by decide +kernel) (hts (.classLink RC 42 "java/lang/UnsupportedOperationException") (List.mem_cons_of_mem _ wt_234)) (hts (.initialized "java/lang/UnsupportedOperationException") (List.mem_cons_of_mem _ wt_35)) hZ.2.2.2.2.2.2.2.2.2.2.2.2.2.2.2.2.2.1 (vx_hat (L := vx_atS RC 46 "java/lang/UnsupportedOperationException" ["java/lang/RuntimeException", "java/lang/Exception"]) (B := [.castable "java/lang/UnsupportedOperationException" "java/lang/UnsupportedOperationException", .declares ⟨"java/lang/RuntimeException", "<init>", "(Ljava/lang/String;)V"⟩, .declares ⟨"java/lang/Exception", "<init>", "(Ljava/lang/String;)V"⟩, .declares ⟨"java/lang/Throwable", "<init>", "(Ljava/lang/String;)V"⟩]) (fun w hw => hts w (List.mem_cons_of_mem _ (at_C_46 w hw))) bd_C_46 (vx_c (va_Nw.use rfl hZ.2.2.1) (vx_c (va_Nw.use rfl hZ.2.2.2.2.1) (vx_c (va_Nw.use rfl hZ.2.2.2.2.2.1) (vx_c (va_Nw.use rfl hZ.2.2.2.2.2.2.1) (vx_n)))))) gd_C_46 hZ.2.2.2.2.2.2.2.2.2.2.2.2.2.2.2.2.2.2.2.2.2.2.2.1 hZ.2.2.2.2.2.2.2.2.2.2.2.2.2.2.2.2.2.2.2.2.2.2.2.2 hS (hl.1.trans hml.symm) dC_node_88 dC_node_91 dC_node_92 dC_node_94 dC_node_97 (fun x h => (htb x h).elim) (Nat.le_of_ble_eq_true rfl) (Nat.le_of_ble_eq_true rfl) (Nat.le_of_ble_eq_true rfl) (Nat.le_of_ble_eq_true rfl) hlocks (fun t _ h1 h2 => ⟨(n_2, f_3), trivial, ⟨hw, (ct_thr hP hS h1 h2).1⟩, (ct_thr hP hS h1 h2).2⟩) hS.2.2 (Nat.le_of_ble_eq_true rfl) (Nat.le_of_ble_eq_true rfl)
      · have hw := hw.2 c8
        refine lv_aload_n hx hb dC_node_55 rfl (lv_at hl 1 rfl) ?_
        refine va_get (D := (dC, dI)) (ci := 0) (v := .ref (a 2)) (C := RC) (T := TC) (N := 2) hx hb hts (fun w h => List.mem_cons_of_mem _ (inC w h)) hown hK hP 0 rfl rfl 1 (by decide) (hts (.fieldLink RC 21 "CoverTrees" "forest" "LCoverTrees$Forest;") (List.mem_cons_of_mem _ wt_135)) (fun _ h9 => h9) rfl dC_node_56 ?_
        refine lv_iload_n hx hb dC_node_59 rfl (lv_at hl 4 rfl) ?_
        refine ct_i (va_runV (As := [.int p3]) (rest := []) ⟨hx, hb, hml, hown, hts⟩ (met_F_has l dC dI a cA sa p3 n_2 f_3 _ hw) (cwV 1 hts (wb_V wt_300 wt_301 wt_302 wt_29 wt_303) rfl rfl rfl (by decide +kernel) ⟨Nat.le_of_ble_eq_true rfl, Nat.le_of_ble_eq_true rfl⟩) (ct_preV hK hP (hDa _ _) hZ hS hA (va_recv hK hP (ci := 2) (q0 := 2) rfl rfl)) rfl rfl hl.1 rfl (lv_room (Nat.le_of_ble_eq_true rfl)) dC_node_60 ⟨Nat.le_of_ble_eq_true rfl, Nat.le_of_ble_eq_true rfl⟩) (hDa _ _) hS hA (fun r53 n_54 f_55 H locs hw hP hS => ?_)
        refine lv_if_ne (tgt := 76) hx hb dC_node_63 (by decide) (fun c56 => ?_) (fun c56 => ?_)
        · have hw := hw.1 c56
          refine lv_aload_n hx hb dC_node_76 rfl (lv_at hl 1 rfl) ?_
          refine va_get (D := (dC, dI)) (ci := 0) (v := .ref (a 2)) (C := RC) (T := TC) (N := 2) hx hb hts (fun w h => List.mem_cons_of_mem _ (inC w h)) hown hK hP 0 rfl rfl 1 (by decide) (hts (.fieldLink RC 21 "CoverTrees" "forest" "LCoverTrees$Forest;") (List.mem_cons_of_mem _ wt_135)) (fun _ h9 => h9) rfl dC_node_77 ?_
          refine va_get (D := (dC, dI)) (ci := 2) (v := .int (n_54 2)) (C := RF) (T := TF) (N := 11) hx hb hts (fun w h => List.mem_cons_of_mem _ (inF w h)) hown hK hP 2 rfl rfl 1 (by decide) (hts (.fieldLink RC 25 "CoverTrees$Forest" "count" "I") (List.mem_cons_of_mem _ wt_95)) (fun _ h9 => h9) rfl dC_node_80 ?_
          refine lv_bipush (v := 120) hx hb dC_node_83 (by decide) ?_
          refine lv_icmp_lt (tgt := 98) hx hb dC_node_85 (by decide) (fun c57 => ?_) (fun c57 => ?_)
          · have hw := hw.1 c57
            refine lv_aload_n hx hb dC_node_98 rfl (lv_at hl 1 rfl) ?_
            refine va_get (D := (dC, dI)) (ci := 0) (v := .ref (a 2)) (C := RC) (T := TC) (N := 2) hx hb hts (fun w h => List.mem_cons_of_mem _ (inC w h)) hown hK hP 0 rfl rfl 1 (by decide) (hts (.fieldLink RC 21 "CoverTrees" "forest" "LCoverTrees$Forest;") (List.mem_cons_of_mem _ wt_135)) (fun _ h9 => h9) rfl dC_node_99 ?_
            refine lv_iload_n hx hb dC_node_102 rfl (lv_at hl 2 rfl) ?_
            refine lv_iload hx hb dC_node_103 (lv_at hl 0 rfl) ?_
            refine lv_iconst (v := 1) hx hb dC_node_105 (by decide) ?_
            refine lv_icmp_lt (tgt := 113) hx hb dC_node_106 (by decide) (fun c58 => ?_) (fun c58 => ?_)
            · have hw := hw.1 c58
              refine lv_iconst (v := 0) hx hb dC_node_113 (by decide) ?_
              refine lv_iload hx hb dC_node_114 (lv_at hl 0 rfl) ?_
              refine lv_iconst (v := 2) hx hb dC_node_116 (by decide) ?_
              refine lv_icmp_lt (tgt := 124) hx hb dC_node_117 (by decide) (fun c59 => ?_) (fun c59 => ?_)
              · have hw := hw.1 c59
                refine lv_iconst (v := 0) hx hb dC_node_124 (by decide) ?_
                refine ct_v (va_runV (As := [.int p1, .int 0, .int 0]) (rest := []) ⟨hx, hb, hml, hown, hts⟩ (met_F_draft l dC dI a cA sa p1 0 0 n_54 f_55 _ hw) (cwV 3 hts (wb_V wt_306 wt_307 wt_308 wt_29 wt_309) rfl rfl rfl (by decide +kernel) ⟨Nat.le_of_ble_eq_true rfl, Nat.le_of_ble_eq_true rfl⟩) (ct_preV hK hP (hDa _ _) hZ hS hA (va_recv hK hP (ci := 2) (q0 := 2) rfl rfl)) rfl rfl hl.1 rfl (lv_room (Nat.le_of_ble_eq_true rfl)) dC_node_125 ⟨Nat.le_of_ble_eq_true rfl, Nat.le_of_ble_eq_true rfl⟩) (hDa _ _) hS hA (fun n_61 f_62 H locs hw hP hS => ?_)
                refine lv_aload_n hx hb dC_node_128 rfl (lv_at hl 1 rfl) ?_
                refine va_get (D := (dC, dI)) (ci := 0) (v := .ref (a 2)) (C := RC) (T := TC) (N := 2) hx hb hts (fun w h => List.mem_cons_of_mem _ (inC w h)) hown hK hP 0 rfl rfl 1 (by decide) (hts (.fieldLink RC 21 "CoverTrees" "forest" "LCoverTrees$Forest;") (List.mem_cons_of_mem _ wt_135)) (fun _ h9 => h9) rfl dC_node_129 ?_
                refine ct_i (va_runV (As := []) (rest := []) ⟨hx, hb, hml, hown, hts⟩ (met_F_draftIsTooDear l dC dI a cA sa n_61 f_62 _ hw) (cwV 0 hts (wb_V wt_352 wt_353 wt_354 wt_29 wt_355) rfl rfl rfl (by decide +kernel) ⟨Nat.le_of_ble_eq_true rfl, Nat.le_of_ble_eq_true rfl⟩) (ct_preV hK hP (hDa _ _) hZ hS hA (va_recv hK hP (ci := 2) (q0 := 2) rfl rfl)) rfl rfl hl.1 rfl (lv_room (Nat.le_of_ble_eq_true rfl)) dC_node_132 ⟨Nat.le_of_ble_eq_true rfl, Nat.le_of_ble_eq_true rfl⟩) (hDa _ _) hS hA (fun r63 n_64 f_65 H locs hw hP hS => ?_)
                refine lv_if_eq (tgt := 148) hx hb dC_node_135 (by decide) (fun c66 => ?_) (fun c66 => ?_)
                · have hw := hw.1 c66
                  refine lv_aload_n hx hb dC_node_148 rfl (lv_at hl 1 rfl) ?_
                  refine va_get (D := (dC, dI)) (ci := 0) (v := .ref (a 2)) (C := RC) (T := TC) (N := 2) hx hb hts (fun w h => List.mem_cons_of_mem _ (inC w h)) hown hK hP 0 rfl rfl 1 (by decide) (hts (.fieldLink RC 21 "CoverTrees" "forest" "LCoverTrees$Forest;") (List.mem_cons_of_mem _ wt_135)) (fun _ h9 => h9) rfl dC_node_149 ?_
                  refine ct_i (va_runV (As := []) (rest := []) ⟨hx, hb, hml, hown, hts⟩ (met_F_keepDraft l dC dI a cA sa n_64 f_65 _ hw) (cwV 0 hts (wb_V wt_358 wt_359 wt_360 wt_29 wt_361) rfl rfl rfl (by decide +kernel) ⟨Nat.le_of_ble_eq_true rfl, Nat.le_of_ble_eq_true rfl⟩) (ct_preV hK hP (hDa _ _) hZ hS hA (va_recv hK hP (ci := 2) (q0 := 2) rfl rfl)) rfl rfl hl.1 rfl (lv_room (Nat.le_of_ble_eq_true rfl)) dC_node_152 ⟨Nat.le_of_ble_eq_true rfl, Nat.le_of_ble_eq_true rfl⟩) (hDa _ _) hS hA (fun r67 n_68 f_69 H locs hw hP hS => ?_)
                  exact False.elim hw
                · have hw := hw.2 c66
                  exact vx_throwS (own := RC) (cls := "java/lang/UnsupportedOperationException") (text := "the node would cost more than 1000000") (names := ["java/lang/RuntimeException", "java/lang/Exception"]) (ik := 42) (is := 98) (ic := 46) (sa := sa 11) hx hb hl9 hown (by decide +kernel) (by decide +kernel) (hts (.classLink RC 42 "java/lang/UnsupportedOperationException") (List.mem_cons_of_mem _ wt_234)) (hts (.initialized "java/lang/UnsupportedOperationException") (List.mem_cons_of_mem _ wt_35)) hZ.2.2.2.2.2.2.2.2.2.2.2.2.2.2.2.2.2.2.1 (vx_hat (L := vx_atS RC 46 "java/lang/UnsupportedOperationException" ["java/lang/RuntimeException", "java/lang/Exception"]) (B := [.castable "java/lang/UnsupportedOperationException" "java/lang/UnsupportedOperationException", .declares ⟨"java/lang/RuntimeException", "<init>", "(Ljava/lang/String;)V"⟩, .declares ⟨"java/lang/Exception", "<init>", "(Ljava/lang/String;)V"⟩, .declares ⟨"java/lang/Throwable", "<init>", "(Ljava/lang/String;)V"⟩]) (fun w hw => hts w (List.mem_cons_of_mem _ (at_C_46 w hw))) bd_C_46 (vx_c (va_Nw.use rfl hZ.2.2.1) (vx_c (va_Nw.use rfl hZ.2.2.2.2.1) (vx_c (va_Nw.use rfl hZ.2.2.2.2.2.1) (vx_c (va_Nw.use rfl hZ.2.2.2.2.2.2.1) (vx_n)))))) gd_C_46 hZ.2.2.2.2.2.2.2.2.2.2.2.2.2.2.2.2.2.2.2.2.2.2.2.1 hZ.2.2.2.2.2.2.2.2.2.2.2.2.2.2.2.2.2.2.2.2.2.2.2.2 hS (hl.1.trans hml.symm) dC_node_138 dC_node_141 dC_node_142 dC_node_144 dC_node_147 (fun x h => (htb x h).elim) (Nat.le_of_ble_eq_true rfl) (Nat.le_of_ble_eq_true rfl) (Nat.le_of_ble_eq_true rfl) (Nat.le_of_ble_eq_true rfl) hlocks (fun t _ h1 h2 => ⟨(n_64, f_65), trivial, ⟨hw, (ct_thr hP hS h1 h2).1⟩, (ct_thr hP hS h1 h2).2⟩) hS.2.2 (Nat.le_of_ble_eq_true rfl) (Nat.le_of_ble_eq_true rfl)
              · have hw := hw.2 c59
                refine lv_iload_n hx hb dC_node_120 rfl (lv_at hl 4 rfl) ?_
                refine lv_goto (tgt := 125) hx hb dC_node_121 (by decide) ?_
                refine ct_v (va_runV (As := [.int p1, .int 0, .int p3]) (rest := []) ⟨hx, hb, hml, hown, hts⟩ (met_F_draft l dC dI a cA sa p1 0 p3 n_54 f_55 _ hw) (cwV 3 hts (wb_V wt_306 wt_307 wt_308 wt_29 wt_309) rfl rfl rfl (by decide +kernel) ⟨Nat.le_of_ble_eq_true rfl, Nat.le_of_ble_eq_true rfl⟩) (ct_preV hK hP (hDa _ _) hZ hS hA (va_recv hK hP (ci := 2) (q0 := 2) rfl rfl)) rfl rfl hl.1 rfl (lv_room (Nat.le_of_ble_eq_true rfl)) dC_node_125 ⟨Nat.le_of_ble_eq_true rfl, Nat.le_of_ble_eq_true rfl⟩) (hDa _ _) hS hA (fun n_71 f_72 H locs hw hP hS => ?_)
                refine lv_aload_n hx hb dC_node_128 rfl (lv_at hl 1 rfl) ?_
                refine va_get (D := (dC, dI)) (ci := 0) (v := .ref (a 2)) (C := RC) (T := TC) (N := 2) hx hb hts (fun w h => List.mem_cons_of_mem _ (inC w h)) hown hK hP 0 rfl rfl 1 (by decide) (hts (.fieldLink RC 21 "CoverTrees" "forest" "LCoverTrees$Forest;") (List.mem_cons_of_mem _ wt_135)) (fun _ h9 => h9) rfl dC_node_129 ?_
                refine ct_i (va_runV (As := []) (rest := []) ⟨hx, hb, hml, hown, hts⟩ (met_F_draftIsTooDear l dC dI a cA sa n_71 f_72 _ hw) (cwV 0 hts (wb_V wt_352 wt_353 wt_354 wt_29 wt_355) rfl rfl rfl (by decide +kernel) ⟨Nat.le_of_ble_eq_true rfl, Nat.le_of_ble_eq_true rfl⟩) (ct_preV hK hP (hDa _ _) hZ hS hA (va_recv hK hP (ci := 2) (q0 := 2) rfl rfl)) rfl rfl hl.1 rfl (lv_room (Nat.le_of_ble_eq_true rfl)) dC_node_132 ⟨Nat.le_of_ble_eq_true rfl, Nat.le_of_ble_eq_true rfl⟩) (hDa _ _) hS hA (fun r73 n_74 f_75 H locs hw hP hS => ?_)
                refine lv_if_eq (tgt := 148) hx hb dC_node_135 (by decide) (fun c76 => ?_) (fun c76 => ?_)
                · have hw := hw.1 c76
                  refine lv_aload_n hx hb dC_node_148 rfl (lv_at hl 1 rfl) ?_
                  refine va_get (D := (dC, dI)) (ci := 0) (v := .ref (a 2)) (C := RC) (T := TC) (N := 2) hx hb hts (fun w h => List.mem_cons_of_mem _ (inC w h)) hown hK hP 0 rfl rfl 1 (by decide) (hts (.fieldLink RC 21 "CoverTrees" "forest" "LCoverTrees$Forest;") (List.mem_cons_of_mem _ wt_135)) (fun _ h9 => h9) rfl dC_node_149 ?_
                  refine ct_i (va_runV (As := []) (rest := []) ⟨hx, hb, hml, hown, hts⟩ (met_F_keepDraft l dC dI a cA sa n_74 f_75 _ hw) (cwV 0 hts (wb_V wt_358 wt_359 wt_360 wt_29 wt_361) rfl rfl rfl (by decide +kernel) ⟨Nat.le_of_ble_eq_true rfl, Nat.le_of_ble_eq_true rfl⟩) (ct_preV hK hP (hDa _ _) hZ hS hA (va_recv hK hP (ci := 2) (q0 := 2) rfl rfl)) rfl rfl hl.1 rfl (lv_room (Nat.le_of_ble_eq_true rfl)) dC_node_152 ⟨Nat.le_of_ble_eq_true rfl, Nat.le_of_ble_eq_true rfl⟩) (hDa _ _) hS hA (fun r77 n_78 f_79 H locs hw hP hS => ?_)
                  exact False.elim hw
                · have hw := hw.2 c76
                  exact vx_throwS (own := RC) (cls := "java/lang/UnsupportedOperationException") (text := "the node would cost more than 1000000") (names := ["java/lang/RuntimeException", "java/lang/Exception"]) (ik := 42) (is := 98) (ic := 46) (sa := sa 11) hx hb hl9 hown (by decide +kernel) (by decide +kernel) (hts (.classLink RC 42 "java/lang/UnsupportedOperationException") (List.mem_cons_of_mem _ wt_234)) (hts (.initialized "java/lang/UnsupportedOperationException") (List.mem_cons_of_mem _ wt_35)) hZ.2.2.2.2.2.2.2.2.2.2.2.2.2.2.2.2.2.2.1 (vx_hat (L := vx_atS RC 46 "java/lang/UnsupportedOperationException" ["java/lang/RuntimeException", "java/lang/Exception"]) (B := [.castable "java/lang/UnsupportedOperationException" "java/lang/UnsupportedOperationException", .declares ⟨"java/lang/RuntimeException", "<init>", "(Ljava/lang/String;)V"⟩, .declares ⟨"java/lang/Exception", "<init>", "(Ljava/lang/String;)V"⟩, .declares ⟨"java/lang/Throwable", "<init>", "(Ljava/lang/String;)V"⟩]) (fun w hw => hts w (List.mem_cons_of_mem _ (at_C_46 w hw))) bd_C_46 (vx_c (va_Nw.use rfl hZ.2.2.1) (vx_c (va_Nw.use rfl hZ.2.2.2.2.1) (vx_c (va_Nw.use rfl hZ.2.2.2.2.2.1) (vx_c (va_Nw.use rfl hZ.2.2.2.2.2.2.1) (vx_n)))))) gd_C_46 hZ.2.2.2.2.2.2.2.2.2.2.2.2.2.2.2.2.2.2.2.2.2.2.2.1 hZ.2.2.2.2.2.2.2.2.2.2.2.2.2.2.2.2.2.2.2.2.2.2.2.2 hS (hl.1.trans hml.symm) dC_node_138 dC_node_141 dC_node_142 dC_node_144 dC_node_147 (fun x h => (htb x h).elim) (Nat.le_of_ble_eq_true rfl) (Nat.le_of_ble_eq_true rfl) (Nat.le_of_ble_eq_true rfl) (Nat.le_of_ble_eq_true rfl) hlocks (fun t _ h1 h2 => ⟨(n_74, f_75), trivial, ⟨hw, (ct_thr hP hS h1 h2).1⟩, (ct_thr hP hS h1 h2).2⟩) hS.2.2 (Nat.le_of_ble_eq_true rfl) (Nat.le_of_ble_eq_true rfl)
            · have hw := hw.2 c58
              refine lv_iload_n hx hb dC_node_109 rfl (lv_at hl 3 rfl) ?_
              refine lv_goto (tgt := 114) hx hb dC_node_110 (by decide) ?_
              refine lv_iload hx hb dC_node_114 (lv_at hl 0 rfl) ?_
              refine lv_iconst (v := 2) hx hb dC_node_116 (by decide) ?_
              refine lv_icmp_lt (tgt := 124) hx hb dC_node_117 (by decide) (fun c80 => ?_) (fun c80 => ?_)
              · have hw := hw.1 c80
                refine lv_iconst (v := 0) hx hb dC_node_124 (by decide) ?_
                refine ct_v (va_runV (As := [.int p1, .int p2, .int 0]) (rest := []) ⟨hx, hb, hml, hown, hts⟩ (met_F_draft l dC dI a cA sa p1 p2 0 n_54 f_55 _ hw) (cwV 3 hts (wb_V wt_306 wt_307 wt_308 wt_29 wt_309) rfl rfl rfl (by decide +kernel) ⟨Nat.le_of_ble_eq_true rfl, Nat.le_of_ble_eq_true rfl⟩) (ct_preV hK hP (hDa _ _) hZ hS hA (va_recv hK hP (ci := 2) (q0 := 2) rfl rfl)) rfl rfl hl.1 rfl (lv_room (Nat.le_of_ble_eq_true rfl)) dC_node_125 ⟨Nat.le_of_ble_eq_true rfl, Nat.le_of_ble_eq_true rfl⟩) (hDa _ _) hS hA (fun n_82 f_83 H locs hw hP hS => ?_)
                refine lv_aload_n hx hb dC_node_128 rfl (lv_at hl 1 rfl) ?_
                refine va_get (D := (dC, dI)) (ci := 0) (v := .ref (a 2)) (C := RC) (T := TC) (N := 2) hx hb hts (fun w h => List.mem_cons_of_mem _ (inC w h)) hown hK hP 0 rfl rfl 1 (by decide) (hts (.fieldLink RC 21 "CoverTrees" "forest" "LCoverTrees$Forest;") (List.mem_cons_of_mem _ wt_135)) (fun _ h9 => h9) rfl dC_node_129 ?_
                refine ct_i (va_runV (As := []) (rest := []) ⟨hx, hb, hml, hown, hts⟩ (met_F_draftIsTooDear l dC dI a cA sa n_82 f_83 _ hw) (cwV 0 hts (wb_V wt_352 wt_353 wt_354 wt_29 wt_355) rfl rfl rfl (by decide +kernel) ⟨Nat.le_of_ble_eq_true rfl, Nat.le_of_ble_eq_true rfl⟩) (ct_preV hK hP (hDa _ _) hZ hS hA (va_recv hK hP (ci := 2) (q0 := 2) rfl rfl)) rfl rfl hl.1 rfl (lv_room (Nat.le_of_ble_eq_true rfl)) dC_node_132 ⟨Nat.le_of_ble_eq_true rfl, Nat.le_of_ble_eq_true rfl⟩) (hDa _ _) hS hA (fun r84 n_85 f_86 H locs hw hP hS => ?_)
                refine lv_if_eq (tgt := 148) hx hb dC_node_135 (by decide) (fun c87 => ?_) (fun c87 => ?_)
                · have hw := hw.1 c87
                  refine lv_aload_n hx hb dC_node_148 rfl (lv_at hl 1 rfl) ?_
                  refine va_get (D := (dC, dI)) (ci := 0) (v := .ref (a 2)) (C := RC) (T := TC) (N := 2) hx hb hts (fun w h => List.mem_cons_of_mem _ (inC w h)) hown hK hP 0 rfl rfl 1 (by decide) (hts (.fieldLink RC 21 "CoverTrees" "forest" "LCoverTrees$Forest;") (List.mem_cons_of_mem _ wt_135)) (fun _ h9 => h9) rfl dC_node_149 ?_
                  refine ct_i (va_runV (As := []) (rest := []) ⟨hx, hb, hml, hown, hts⟩ (met_F_keepDraft l dC dI a cA sa n_85 f_86 _ hw) (cwV 0 hts (wb_V wt_358 wt_359 wt_360 wt_29 wt_361) rfl rfl rfl (by decide +kernel) ⟨Nat.le_of_ble_eq_true rfl, Nat.le_of_ble_eq_true rfl⟩) (ct_preV hK hP (hDa _ _) hZ hS hA (va_recv hK hP (ci := 2) (q0 := 2) rfl rfl)) rfl rfl hl.1 rfl (lv_room (Nat.le_of_ble_eq_true rfl)) dC_node_152 ⟨Nat.le_of_ble_eq_true rfl, Nat.le_of_ble_eq_true rfl⟩) (hDa _ _) hS hA (fun r88 n_89 f_90 H locs hw hP hS => ?_)
                  exact False.elim hw
                · have hw := hw.2 c87
                  exact vx_throwS (own := RC) (cls := "java/lang/UnsupportedOperationException") (text := "the node would cost more than 1000000") (names := ["java/lang/RuntimeException", "java/lang/Exception"]) (ik := 42) (is := 98) (ic := 46) (sa := sa 11) hx hb hl9 hown (by decide +kernel) (by decide +kernel) (hts (.classLink RC 42 "java/lang/UnsupportedOperationException") (List.mem_cons_of_mem _ wt_234)) (hts (.initialized "java/lang/UnsupportedOperationException") (List.mem_cons_of_mem _ wt_35)) hZ.2.2.2.2.2.2.2.2.2.2.2.2.2.2.2.2.2.2.1 (vx_hat (L := vx_atS RC 46 "java/lang/UnsupportedOperationException" ["java/lang/RuntimeException", "java/lang/Exception"]) (B := [.castable "java/lang/UnsupportedOperationException" "java/lang/UnsupportedOperationException", .declares ⟨"java/lang/RuntimeException", "<init>", "(Ljava/lang/String;)V"⟩, .declares ⟨"java/lang/Exception", "<init>", "(Ljava/lang/String;)V"⟩, .declares ⟨"java/lang/Throwable", "<init>", "(Ljava/lang/String;)V"⟩]) (fun w hw => hts w (List.mem_cons_of_mem _ (at_C_46 w hw))) bd_C_46 (vx_c (va_Nw.use rfl hZ.2.2.1) (vx_c (va_Nw.use rfl hZ.2.2.2.2.1) (vx_c (va_Nw.use rfl hZ.2.2.2.2.2.1) (vx_c (va_Nw.use rfl hZ.2.2.2.2.2.2.1) (vx_n)))))) gd_C_46 hZ.2.2.2.2.2.2.2.2.2.2.2.2.2.2.2.2.2.2.2.2.2.2.2.1 hZ.2.2.2.2.2.2.2.2.2.2.2.2.2.2.2.2.2.2.2.2.2.2.2.2 hS (hl.1.trans hml.symm) dC_node_138 dC_node_141 dC_node_142 dC_node_144 dC_node_147 (fun x h => (htb x h).elim) (Nat.le_of_ble_eq_true rfl) (Nat.le_of_ble_eq_true rfl) (Nat.le_of_ble_eq_true rfl) (Nat.le_of_ble_eq_true rfl) hlocks (fun t _ h1 h2 => ⟨(n_85, f_86), trivial, ⟨hw, (ct_thr hP hS h1 h2).1⟩, (ct_thr hP hS h1 h2).2⟩) hS.2.2 (Nat.le_of_ble_eq_true rfl) (Nat.le_of_ble_eq_true rfl)
              · have hw := hw.2 c80
                refine lv_iload_n hx hb dC_node_120 rfl (lv_at hl 4 rfl) ?_
                refine lv_goto (tgt := 125) hx hb dC_node_121 (by decide) ?_
                refine ct_v (va_runV (As := [.int p1, .int p2, .int p3]) (rest := []) ⟨hx, hb, hml, hown, hts⟩ (met_F_draft l dC dI a cA sa p1 p2 p3 n_54 f_55 _ hw) (cwV 3 hts (wb_V wt_306 wt_307 wt_308 wt_29 wt_309) rfl rfl rfl (by decide +kernel) ⟨Nat.le_of_ble_eq_true rfl, Nat.le_of_ble_eq_true rfl⟩) (ct_preV hK hP (hDa _ _) hZ hS hA (va_recv hK hP (ci := 2) (q0 := 2) rfl rfl)) rfl rfl hl.1 rfl (lv_room (Nat.le_of_ble_eq_true rfl)) dC_node_125 ⟨Nat.le_of_ble_eq_true rfl, Nat.le_of_ble_eq_true rfl⟩) (hDa _ _) hS hA (fun n_92 f_93 H locs hw hP hS => ?_)
                refine lv_aload_n hx hb dC_node_128 rfl (lv_at hl 1 rfl) ?_
                refine va_get (D := (dC, dI)) (ci := 0) (v := .ref (a 2)) (C := RC) (T := TC) (N := 2) hx hb hts (fun w h => List.mem_cons_of_mem _ (inC w h)) hown hK hP 0 rfl rfl 1 (by decide) (hts (.fieldLink RC 21 "CoverTrees" "forest" "LCoverTrees$Forest;") (List.mem_cons_of_mem _ wt_135)) (fun _ h9 => h9) rfl dC_node_129 ?_
                refine ct_i (va_runV (As := []) (rest := []) ⟨hx, hb, hml, hown, hts⟩ (met_F_draftIsTooDear l dC dI a cA sa n_92 f_93 _ hw) (cwV 0 hts (wb_V wt_352 wt_353 wt_354 wt_29 wt_355) rfl rfl rfl (by decide +kernel) ⟨Nat.le_of_ble_eq_true rfl, Nat.le_of_ble_eq_true rfl⟩) (ct_preV hK hP (hDa _ _) hZ hS hA (va_recv hK hP (ci := 2) (q0 := 2) rfl rfl)) rfl rfl hl.1 rfl (lv_room (Nat.le_of_ble_eq_true rfl)) dC_node_132 ⟨Nat.le_of_ble_eq_true rfl, Nat.le_of_ble_eq_true rfl⟩) (hDa _ _) hS hA (fun r94 n_95 f_96 H locs hw hP hS => ?_)
                refine lv_if_eq (tgt := 148) hx hb dC_node_135 (by decide) (fun c97 => ?_) (fun c97 => ?_)
                · have hw := hw.1 c97
                  refine lv_aload_n hx hb dC_node_148 rfl (lv_at hl 1 rfl) ?_
                  refine va_get (D := (dC, dI)) (ci := 0) (v := .ref (a 2)) (C := RC) (T := TC) (N := 2) hx hb hts (fun w h => List.mem_cons_of_mem _ (inC w h)) hown hK hP 0 rfl rfl 1 (by decide) (hts (.fieldLink RC 21 "CoverTrees" "forest" "LCoverTrees$Forest;") (List.mem_cons_of_mem _ wt_135)) (fun _ h9 => h9) rfl dC_node_149 ?_
                  refine ct_i (va_runV (As := []) (rest := []) ⟨hx, hb, hml, hown, hts⟩ (met_F_keepDraft l dC dI a cA sa n_95 f_96 _ hw) (cwV 0 hts (wb_V wt_358 wt_359 wt_360 wt_29 wt_361) rfl rfl rfl (by decide +kernel) ⟨Nat.le_of_ble_eq_true rfl, Nat.le_of_ble_eq_true rfl⟩) (ct_preV hK hP (hDa _ _) hZ hS hA (va_recv hK hP (ci := 2) (q0 := 2) rfl rfl)) rfl rfl hl.1 rfl (lv_room (Nat.le_of_ble_eq_true rfl)) dC_node_152 ⟨Nat.le_of_ble_eq_true rfl, Nat.le_of_ble_eq_true rfl⟩) (hDa _ _) hS hA (fun r98 n_99 f_100 H locs hw hP hS => ?_)
                  exact False.elim hw
                · have hw := hw.2 c97
                  exact vx_throwS (own := RC) (cls := "java/lang/UnsupportedOperationException") (text := "the node would cost more than 1000000") (names := ["java/lang/RuntimeException", "java/lang/Exception"]) (ik := 42) (is := 98) (ic := 46) (sa := sa 11) hx hb hl9 hown (by decide +kernel) (by decide +kernel) (hts (.classLink RC 42 "java/lang/UnsupportedOperationException") (List.mem_cons_of_mem _ wt_234)) (hts (.initialized "java/lang/UnsupportedOperationException") (List.mem_cons_of_mem _ wt_35)) hZ.2.2.2.2.2.2.2.2.2.2.2.2.2.2.2.2.2.2.1 (vx_hat (L := vx_atS RC 46 "java/lang/UnsupportedOperationException" ["java/lang/RuntimeException", "java/lang/Exception"]) (B := [.castable "java/lang/UnsupportedOperationException" "java/lang/UnsupportedOperationException", .declares ⟨"java/lang/RuntimeException", "<init>", "(Ljava/lang/String;)V"⟩, .declares ⟨"java/lang/Exception", "<init>", "(Ljava/lang/String;)V"⟩, .declares ⟨"java/lang/Throwable", "<init>", "(Ljava/lang/String;)V"⟩]) (fun w hw => hts w (List.mem_cons_of_mem _ (at_C_46 w hw))) bd_C_46 (vx_c (va_Nw.use rfl hZ.2.2.1) (vx_c (va_Nw.use rfl hZ.2.2.2.2.1) (vx_c (va_Nw.use rfl hZ.2.2.2.2.2.1) (vx_c (va_Nw.use rfl hZ.2.2.2.2.2.2.1) (vx_n)))))) gd_C_46 hZ.2.2.2.2.2.2.2.2.2.2.2.2.2.2.2.2.2.2.2.2.2.2.2.1 hZ.2.2.2.2.2.2.2.2.2.2.2.2.2.2.2.2.2.2.2.2.2.2.2.2 hS (hl.1.trans hml.symm) dC_node_138 dC_node_141 dC_node_142 dC_node_144 dC_node_147 (fun x h => (htb x h).elim) (Nat.le_of_ble_eq_true rfl) (Nat.le_of_ble_eq_true rfl) (Nat.le_of_ble_eq_true rfl) (Nat.le_of_ble_eq_true rfl) hlocks (fun t _ h1 h2 => ⟨(n_95, f_96), trivial, ⟨hw, (ct_thr hP hS h1 h2).1⟩, (ct_thr hP hS h1 h2).2⟩) hS.2.2 (Nat.le_of_ble_eq_true rfl) (Nat.le_of_ble_eq_true rfl)
          · have hw := hw.2 c57
            exact vx_throwS (own := RC) (cls := "java/lang/UnsupportedOperationException") (text := "there are 120 nodes") (names := ["java/lang/RuntimeException", "java/lang/Exception"]) (ik := 42) (is := 88) (ic := 46) (sa := sa 10) hx hb hl9 hown (by decide +kernel) (by decide +kernel) (hts (.classLink RC 42 "java/lang/UnsupportedOperationException") (List.mem_cons_of_mem _ wt_234)) (hts (.initialized "java/lang/UnsupportedOperationException") (List.mem_cons_of_mem _ wt_35)) hZ.2.2.2.2.2.2.2.2.2.2.2.2.2.2.2.2.2.1 (vx_hat (L := vx_atS RC 46 "java/lang/UnsupportedOperationException" ["java/lang/RuntimeException", "java/lang/Exception"]) (B := [.castable "java/lang/UnsupportedOperationException" "java/lang/UnsupportedOperationException", .declares ⟨"java/lang/RuntimeException", "<init>", "(Ljava/lang/String;)V"⟩, .declares ⟨"java/lang/Exception", "<init>", "(Ljava/lang/String;)V"⟩, .declares ⟨"java/lang/Throwable", "<init>", "(Ljava/lang/String;)V"⟩]) (fun w hw => hts w (List.mem_cons_of_mem _ (at_C_46 w hw))) bd_C_46 (vx_c (va_Nw.use rfl hZ.2.2.1) (vx_c (va_Nw.use rfl hZ.2.2.2.2.1) (vx_c (va_Nw.use rfl hZ.2.2.2.2.2.1) (vx_c (va_Nw.use rfl hZ.2.2.2.2.2.2.1) (vx_n)))))) gd_C_46 hZ.2.2.2.2.2.2.2.2.2.2.2.2.2.2.2.2.2.2.2.2.2.2.2.1 hZ.2.2.2.2.2.2.2.2.2.2.2.2.2.2.2.2.2.2.2.2.2.2.2.2 hS (hl.1.trans hml.symm) dC_node_88 dC_node_91 dC_node_92 dC_node_94 dC_node_97 (fun x h => (htb x h).elim) (Nat.le_of_ble_eq_true rfl) (Nat.le_of_ble_eq_true rfl) (Nat.le_of_ble_eq_true rfl) (Nat.le_of_ble_eq_true rfl) hlocks (fun t _ h1 h2 => ⟨(n_54, f_55), trivial, ⟨hw, (ct_thr hP hS h1 h2).1⟩, (ct_thr hP hS h1 h2).2⟩) hS.2.2 (Nat.le_of_ble_eq_true rfl) (Nat.le_of_ble_eq_true rfl)
        · have hw := hw.2 c56
          exact vx_throwS (own := RC) (cls := "java/lang/IllegalArgumentException") (text := "no such node") (names := ["java/lang/RuntimeException", "java/lang/Exception"]) (ik := 35) (is := 86) (ic := 39) (sa := sa 9) hx hb hl9 hown (by decide +kernel) (by decide +kernel) (hts (.classLink RC 35 "java/lang/IllegalArgumentException") (List.mem_cons_of_mem _ wt_166)) (hts (.initialized "java/lang/IllegalArgumentException") (List.mem_cons_of_mem _ wt_34)) hZ.2.2.2.2.2.2.2.2.2.2.2.2.2.2.2.2.1 (vx_hat (L := vx_atS RC 39 "java/lang/IllegalArgumentException" ["java/lang/RuntimeException", "java/lang/Exception"]) (B := [.castable "java/lang/IllegalArgumentException" "java/lang/IllegalArgumentException", .declares ⟨"java/lang/RuntimeException", "<init>", "(Ljava/lang/String;)V"⟩, .declares ⟨"java/lang/Exception", "<init>", "(Ljava/lang/String;)V"⟩, .declares ⟨"java/lang/Throwable", "<init>", "(Ljava/lang/String;)V"⟩]) (fun w hw => hts w (List.mem_cons_of_mem _ (at_C_39 w hw))) bd_C_39 (vx_c (va_Nw.use rfl hZ.2.1) (vx_c (va_Nw.use rfl hZ.2.2.2.2.1) (vx_c (va_Nw.use rfl hZ.2.2.2.2.2.1) (vx_c (va_Nw.use rfl hZ.2.2.2.2.2.2.1) (vx_n)))))) gd_C_39 hZ.2.2.2.2.2.2.2.2.2.2.2.2.2.2.2.2.2.2.2.2.2.2.2.1 hZ.2.2.2.2.2.2.2.2.2.2.2.2.2.2.2.2.2.2.2.2.2.2.2.2 hS (hl.1.trans hml.symm) dC_node_66 dC_node_69 dC_node_70 dC_node_72 dC_node_75 (fun x h => (htb x h).elim) (Nat.le_of_ble_eq_true rfl) (Nat.le_of_ble_eq_true rfl) (Nat.le_of_ble_eq_true rfl) (Nat.le_of_ble_eq_true rfl) hlocks (fun t _ h1 h2 => ⟨(n_54, f_55), trivial, ⟨hw, (ct_thr hP hS h1 h2).1⟩, (ct_thr hP hS h1 h2).2⟩) hS.2.2 (Nat.le_of_ble_eq_true rfl) (Nat.le_of_ble_eq_true rfl)
    · have hw := hw.2 c7
      refine lv_aload_n hx hb dC_node_38 rfl (lv_at hl 1 rfl) ?_
      refine va_get (D := (dC, dI)) (ci := 0) (v := .ref (a 2)) (C := RC) (T := TC) (N := 2) hx hb hts (fun w h => List.mem_cons_of_mem _ (inC w h)) hown hK hP 0 rfl rfl 1 (by decide) (hts (.fieldLink RC 21 "CoverTrees" "forest" "LCoverTrees$Forest;") (List.mem_cons_of_mem _ wt_135)) (fun _ h9 => h9) rfl dC_node_39 ?_
      refine lv_iload_n hx hb dC_node_42 rfl (lv_at hl 3 rfl) ?_
      refine ct_i (va_runV (As := [.int p2]) (rest := []) ⟨hx, hb, hml, hown, hts⟩ (met_F_has l dC dI a cA sa p2 n_2 f_3 _ hw) (cwV 1 hts (wb_V wt_300 wt_301 wt_302 wt_29 wt_303) rfl rfl rfl (by decide +kernel) ⟨Nat.le_of_ble_eq_true rfl, Nat.le_of_ble_eq_true rfl⟩) (ct_preV hK hP (hDa _ _) hZ hS hA (va_recv hK hP (ci := 2) (q0 := 2) rfl rfl)) rfl rfl hl.1 rfl (lv_room (Nat.le_of_ble_eq_true rfl)) dC_node_43 ⟨Nat.le_of_ble_eq_true rfl, Nat.le_of_ble_eq_true rfl⟩) (hDa _ _) hS hA (fun r101 n_102 f_103 H locs hw hP hS => ?_)
      refine lv_if_eq (tgt := 66) hx hb dC_node_46 (by decide) (fun c104 => ?_) (fun c104 => ?_)
      · have hw := hw.1 c104
        exact vx_throwS (own := RC) (cls := "java/lang/IllegalArgumentException") (text := "no such node") (names := ["java/lang/RuntimeException", "java/lang/Exception"]) (ik := 35) (is := 86) (ic := 39) (sa := sa 9) hx hb hl9 hown (by decide +kernel) (by decide +kernel) (hts (.classLink RC 35 "java/lang/IllegalArgumentException") (List.mem_cons_of_mem _ wt_166)) (hts (.initialized "java/lang/IllegalArgumentException") (List.mem_cons_of_mem _ wt_34)) hZ.2.2.2.2.2.2.2.2.2.2.2.2.2.2.2.2.1 (vx_hat (L := vx_atS RC 39 "java/lang/IllegalArgumentException" ["java/lang/RuntimeException", "java/lang/Exception"]) (B := [.castable "java/lang/IllegalArgumentException" "java/lang/IllegalArgumentException", .declares ⟨"java/lang/RuntimeException", "<init>", "(Ljava/lang/String;)V"⟩, .declares ⟨"java/lang/Exception", "<init>", "(Ljava/lang/String;)V"⟩, .declares ⟨"java/lang/Throwable", "<init>", "(Ljava/lang/String;)V"⟩]) (fun w hw => hts w (List.mem_cons_of_mem _ (at_C_39 w hw))) bd_C_39 (vx_c (va_Nw.use rfl hZ.2.1) (vx_c (va_Nw.use rfl hZ.2.2.2.2.1) (vx_c (va_Nw.use rfl hZ.2.2.2.2.2.1) (vx_c (va_Nw.use rfl hZ.2.2.2.2.2.2.1) (vx_n)))))) gd_C_39 hZ.2.2.2.2.2.2.2.2.2.2.2.2.2.2.2.2.2.2.2.2.2.2.2.1 hZ.2.2.2.2.2.2.2.2.2.2.2.2.2.2.2.2.2.2.2.2.2.2.2.2 hS (hl.1.trans hml.symm) dC_node_66 dC_node_69 dC_node_70 dC_node_72 dC_node_75 (fun x h => (htb x h).elim) (Nat.le_of_ble_eq_true rfl) (Nat.le_of_ble_eq_true rfl) (Nat.le_of_ble_eq_true rfl) (Nat.le_of_ble_eq_true rfl) hlocks (fun t _ h1 h2 => ⟨(n_102, f_103), trivial, ⟨hw, (ct_thr hP hS h1 h2).1⟩, (ct_thr hP hS h1 h2).2⟩) hS.2.2 (Nat.le_of_ble_eq_true rfl) (Nat.le_of_ble_eq_true rfl)
      · have hw := hw.2 c104
        refine lv_iload hx hb dC_node_49 (lv_at hl 0 rfl) ?_
        refine lv_iconst (v := 2) hx hb dC_node_51 (by decide) ?_
        refine lv_icmp_lt (tgt := 76) hx hb dC_node_52 (by decide) (fun c105 => ?_) (fun c105 => ?_)
        · have hw := hw.1 c105
          refine lv_aload_n hx hb dC_node_76 rfl (lv_at hl 1 rfl) ?_
          refine va_get (D := (dC, dI)) (ci := 0) (v := .ref (a 2)) (C := RC) (T := TC) (N := 2) hx hb hts (fun w h => List.mem_cons_of_mem _ (inC w h)) hown hK hP 0 rfl rfl 1 (by decide) (hts (.fieldLink RC 21 "CoverTrees" "forest" "LCoverTrees$Forest;") (List.mem_cons_of_mem _ wt_135)) (fun _ h9 => h9) rfl dC_node_77 ?_
          refine va_get (D := (dC, dI)) (ci := 2) (v := .int (n_102 2)) (C := RF) (T := TF) (N := 11) hx hb hts (fun w h => List.mem_cons_of_mem _ (inF w h)) hown hK hP 2 rfl rfl 1 (by decide) (hts (.fieldLink RC 25 "CoverTrees$Forest" "count" "I") (List.mem_cons_of_mem _ wt_95)) (fun _ h9 => h9) rfl dC_node_80 ?_
          refine lv_bipush (v := 120) hx hb dC_node_83 (by decide) ?_
          refine lv_icmp_lt (tgt := 98) hx hb dC_node_85 (by decide) (fun c106 => ?_) (fun c106 => ?_)
          · have hw := hw.1 c106
            refine lv_aload_n hx hb dC_node_98 rfl (lv_at hl 1 rfl) ?_
            refine va_get (D := (dC, dI)) (ci := 0) (v := .ref (a 2)) (C := RC) (T := TC) (N := 2) hx hb hts (fun w h => List.mem_cons_of_mem _ (inC w h)) hown hK hP 0 rfl rfl 1 (by decide) (hts (.fieldLink RC 21 "CoverTrees" "forest" "LCoverTrees$Forest;") (List.mem_cons_of_mem _ wt_135)) (fun _ h9 => h9) rfl dC_node_99 ?_
            refine lv_iload_n hx hb dC_node_102 rfl (lv_at hl 2 rfl) ?_
            refine lv_iload hx hb dC_node_103 (lv_at hl 0 rfl) ?_
            refine lv_iconst (v := 1) hx hb dC_node_105 (by decide) ?_
            refine lv_icmp_lt (tgt := 113) hx hb dC_node_106 (by decide) (fun c107 => ?_) (fun c107 => ?_)
            · have hw := hw.1 c107
              refine lv_iconst (v := 0) hx hb dC_node_113 (by decide) ?_
              refine lv_iload hx hb dC_node_114 (lv_at hl 0 rfl) ?_
              refine lv_iconst (v := 2) hx hb dC_node_116 (by decide) ?_
              refine lv_icmp_lt (tgt := 124) hx hb dC_node_117 (by decide) (fun c108 => ?_) (fun c108 => ?_)
              · have hw := hw.1 c108
                refine lv_iconst (v := 0) hx hb dC_node_124 (by decide) ?_
                refine ct_v (va_runV (As := [.int p1, .int 0, .int 0]) (rest := []) ⟨hx, hb, hml, hown, hts⟩ (met_F_draft l dC dI a cA sa p1 0 0 n_102 f_103 _ hw) (cwV 3 hts (wb_V wt_306 wt_307 wt_308 wt_29 wt_309) rfl rfl rfl (by decide +kernel) ⟨Nat.le_of_ble_eq_true rfl, Nat.le_of_ble_eq_true rfl⟩) (ct_preV hK hP (hDa _ _) hZ hS hA (va_recv hK hP (ci := 2) (q0 := 2) rfl rfl)) rfl rfl hl.1 rfl (lv_room (Nat.le_of_ble_eq_true rfl)) dC_node_125 ⟨Nat.le_of_ble_eq_true rfl, Nat.le_of_ble_eq_true rfl⟩) (hDa _ _) hS hA (fun n_110 f_111 H locs hw hP hS => ?_)
                refine lv_aload_n hx hb dC_node_128 rfl (lv_at hl 1 rfl) ?_
                refine va_get (D := (dC, dI)) (ci := 0) (v := .ref (a 2)) (C := RC) (T := TC) (N := 2) hx hb hts (fun w h => List.mem_cons_of_mem _ (inC w h)) hown hK hP 0 rfl rfl 1 (by decide) (hts (.fieldLink RC 21 "CoverTrees" "forest" "LCoverTrees$Forest;") (List.mem_cons_of_mem _ wt_135)) (fun _ h9 => h9) rfl dC_node_129 ?_
                refine ct_i (va_runV (As := []) (rest := []) ⟨hx, hb, hml, hown, hts⟩ (met_F_draftIsTooDear l dC dI a cA sa n_110 f_111 _ hw) (cwV 0 hts (wb_V wt_352 wt_353 wt_354 wt_29 wt_355) rfl rfl rfl (by decide +kernel) ⟨Nat.le_of_ble_eq_true rfl, Nat.le_of_ble_eq_true rfl⟩) (ct_preV hK hP (hDa _ _) hZ hS hA (va_recv hK hP (ci := 2) (q0 := 2) rfl rfl)) rfl rfl hl.1 rfl (lv_room (Nat.le_of_ble_eq_true rfl)) dC_node_132 ⟨Nat.le_of_ble_eq_true rfl, Nat.le_of_ble_eq_true rfl⟩) (hDa _ _) hS hA (fun r112 n_113 f_114 H locs hw hP hS => ?_)
                refine lv_if_eq (tgt := 148) hx hb dC_node_135 (by decide) (fun c115 => ?_) (fun c115 => ?_)
                · have hw := hw.1 c115
                  refine lv_aload_n hx hb dC_node_148 rfl (lv_at hl 1 rfl) ?_
                  refine va_get (D := (dC, dI)) (ci := 0) (v := .ref (a 2)) (C := RC) (T := TC) (N := 2) hx hb hts (fun w h => List.mem_cons_of_mem _ (inC w h)) hown hK hP 0 rfl rfl 1 (by decide) (hts (.fieldLink RC 21 "CoverTrees" "forest" "LCoverTrees$Forest;") (List.mem_cons_of_mem _ wt_135)) (fun _ h9 => h9) rfl dC_node_149 ?_
                  refine ct_i (va_runV (As := []) (rest := []) ⟨hx, hb, hml, hown, hts⟩ (met_F_keepDraft l dC dI a cA sa n_113 f_114 _ hw) (cwV 0 hts (wb_V wt_358 wt_359 wt_360 wt_29 wt_361) rfl rfl rfl (by decide +kernel) ⟨Nat.le_of_ble_eq_true rfl, Nat.le_of_ble_eq_true rfl⟩) (ct_preV hK hP (hDa _ _) hZ hS hA (va_recv hK hP (ci := 2) (q0 := 2) rfl rfl)) rfl rfl hl.1 rfl (lv_room (Nat.le_of_ble_eq_true rfl)) dC_node_152 ⟨Nat.le_of_ble_eq_true rfl, Nat.le_of_ble_eq_true rfl⟩) (hDa _ _) hS hA (fun r116 n_117 f_118 H locs hw hP hS => ?_)
                  exact False.elim hw
                · have hw := hw.2 c115
                  exact vx_throwS (own := RC) (cls := "java/lang/UnsupportedOperationException") (text := "the node would cost more than 1000000") (names := ["java/lang/RuntimeException", "java/lang/Exception"]) (ik := 42) (is := 98) (ic := 46) (sa := sa 11) hx hb hl9 hown (by decide +kernel) (by decide +kernel) (hts (.classLink RC 42 "java/lang/UnsupportedOperationException") (List.mem_cons_of_mem _ wt_234)) (hts (.initialized "java/lang/UnsupportedOperationException") (List.mem_cons_of_mem _ wt_35)) hZ.2.2.2.2.2.2.2.2.2.2.2.2.2.2.2.2.2.2.1 (vx_hat (L := vx_atS RC 46 "java/lang/UnsupportedOperationException" ["java/lang/RuntimeException", "java/lang/Exception"]) (B := [.castable "java/lang/UnsupportedOperationException" "java/lang/UnsupportedOperationException", .declares ⟨"java/lang/RuntimeException", "<init>", "(Ljava/lang/String;)V"⟩, .declares ⟨"java/lang/Exception", "<init>", "(Ljava/lang/String;)V"⟩, .declares ⟨"java/lang/Throwable", "<init>", "(Ljava/lang/String;)V"⟩]) (fun w hw => hts w (List.mem_cons_of_mem _ (at_C_46 w hw))) bd_C_46 (vx_c (va_Nw.use rfl hZ.2.2.1) (vx_c (va_Nw.use rfl hZ.2.2.2.2.1) (vx_c (va_Nw.use rfl hZ.2.2.2.2.2.1) (vx_c (va_Nw.use rfl hZ.2.2.2.2.2.2.1) (vx_n)))))) gd_C_46 hZ.2.2.2.2.2.2.2.2.2.2.2.2.2.2.2.2.2.2.2.2.2.2.2.1 hZ.2.2.2.2.2.2.2.2.2.2.2.2.2.2.2.2.2.2.2.2.2.2.2.2 hS (hl.1.trans hml.symm) dC_node_138 dC_node_141 dC_node_142 dC_node_144 dC_node_147 (fun x h => (htb x h).elim) (Nat.le_of_ble_eq_true rfl) (Nat.le_of_ble_eq_true rfl) (Nat.le_of_ble_eq_true rfl) (Nat.le_of_ble_eq_true rfl) hlocks (fun t _ h1 h2 => ⟨(n_113, f_114), trivial, ⟨hw, (ct_thr hP hS h1 h2).1⟩, (ct_thr hP hS h1 h2).2⟩) hS.2.2 (Nat.le_of_ble_eq_true rfl) (Nat.le_of_ble_eq_true rfl)
              · have hw := hw.2 c108
                refine lv_iload_n hx hb dC_node_120 rfl (lv_at hl 4 rfl) ?_
                refine lv_goto (tgt := 125) hx hb dC_node_121 (by decide) ?_
                refine ct_v (va_runV (As := [.int p1, .int 0, .int p3]) (rest := []) ⟨hx, hb, hml, hown, hts⟩ (met_F_draft l dC dI a cA sa p1 0 p3 n_102 f_103 _ hw) (cwV 3 hts (wb_V wt_306 wt_307 wt_308 wt_29 wt_309) rfl rfl rfl (by decide +kernel) ⟨Nat.le_of_ble_eq_true rfl, Nat.le_of_ble_eq_true rfl⟩) (ct_preV hK hP (hDa _ _) hZ hS hA (va_recv hK hP (ci := 2) (q0 := 2) rfl rfl)) rfl rfl hl.1 rfl (lv_room (Nat.le_of_ble_eq_true rfl)) dC_node_125 ⟨Nat.le_of_ble_eq_true rfl, Nat.le_of_ble_eq_true rfl⟩) (hDa _ _) hS hA (fun n_120 f_121 H locs hw hP hS => ?_)
                refine lv_aload_n hx hb dC_node_128 rfl (lv_at hl 1 rfl) ?_
                refine va_get (D := (dC, dI)) (ci := 0) (v := .ref (a 2)) (C := RC) (T := TC) (N := 2) hx hb hts (fun w h => List.mem_cons_of_mem _ (inC w h)) hown hK hP 0 rfl rfl 1 (by decide) (hts (.fieldLink RC 21 "CoverTrees" "forest" "LCoverTrees$Forest;") (List.mem_cons_of_mem _ wt_135)) (fun _ h9 => h9) rfl dC_node_129 ?_
                refine ct_i (va_runV (As := []) (rest := []) ⟨hx, hb, hml, hown, hts⟩ (met_F_draftIsTooDear l dC dI a cA sa n_120 f_121 _ hw) (cwV 0 hts (wb_V wt_352 wt_353 wt_354 wt_29 wt_355) rfl rfl rfl (by decide +kernel) ⟨Nat.le_of_ble_eq_true rfl, Nat.le_of_ble_eq_true rfl⟩) (ct_preV hK hP (hDa _ _) hZ hS hA (va_recv hK hP (ci := 2) (q0 := 2) rfl rfl)) rfl rfl hl.1 rfl (lv_room (Nat.le_of_ble_eq_true rfl)) dC_node_132 ⟨Nat.le_of_ble_eq_true rfl, Nat.le_of_ble_eq_true rfl⟩) (hDa _ _) hS hA (fun r122 n_123 f_124 H locs hw hP hS => ?_)
                refine lv_if_eq (tgt := 148) hx hb dC_node_135 (by decide) (fun c125 => ?_) (fun c125 => ?_)
                · have hw := hw.1 c125
                  refine lv_aload_n hx hb dC_node_148 rfl (lv_at hl 1 rfl) ?_
                  refine va_get (D := (dC, dI)) (ci := 0) (v := .ref (a 2)) (C := RC) (T := TC) (N := 2) hx hb hts (fun w h => List.mem_cons_of_mem _ (inC w h)) hown hK hP 0 rfl rfl 1 (by decide) (hts (.fieldLink RC 21 "CoverTrees" "forest" "LCoverTrees$Forest;") (List.mem_cons_of_mem _ wt_135)) (fun _ h9 => h9) rfl dC_node_149 ?_
                  refine ct_i (va_runV (As := []) (rest := []) ⟨hx, hb, hml, hown, hts⟩ (met_F_keepDraft l dC dI a cA sa n_123 f_124 _ hw) (cwV 0 hts (wb_V wt_358 wt_359 wt_360 wt_29 wt_361) rfl rfl rfl (by decide +kernel) ⟨Nat.le_of_ble_eq_true rfl, Nat.le_of_ble_eq_true rfl⟩) (ct_preV hK hP (hDa _ _) hZ hS hA (va_recv hK hP (ci := 2) (q0 := 2) rfl rfl)) rfl rfl hl.1 rfl (lv_room (Nat.le_of_ble_eq_true rfl)) dC_node_152 ⟨Nat.le_of_ble_eq_true rfl, Nat.le_of_ble_eq_true rfl⟩) (hDa _ _) hS hA (fun r126 n_127 f_128 H locs hw hP hS => ?_)
                  exact False.elim hw
                · have hw := hw.2 c125
                  exact vx_throwS (own := RC) (cls := "java/lang/UnsupportedOperationException") (text := "the node would cost more than 1000000") (names := ["java/lang/RuntimeException", "java/lang/Exception"]) (ik := 42) (is := 98) (ic := 46) (sa := sa 11) hx hb hl9 hown (by decide +kernel) (by decide +kernel) (hts (.classLink RC 42 "java/lang/UnsupportedOperationException") (List.mem_cons_of_mem _ wt_234)) (hts (.initialized "java/lang/UnsupportedOperationException") (List.mem_cons_of_mem _ wt_35)) hZ.2.2.2.2.2.2.2.2.2.2.2.2.2.2.2.2.2.2.1 (vx_hat (L := vx_atS RC 46 "java/lang/UnsupportedOperationException" ["java/lang/RuntimeException", "java/lang/Exception"]) (B := [.castable "java/lang/UnsupportedOperationException" "java/lang/UnsupportedOperationException", .declares ⟨"java/lang/RuntimeException", "<init>", "(Ljava/lang/String;)V"⟩, .declares ⟨"java/lang/Exception", "<init>", "(Ljava/lang/String;)V"⟩, .declares ⟨"java/lang/Throwable", "<init>", "(Ljava/lang/String;)V"⟩]) (fun w hw => hts w (List.mem_cons_of_mem _ (at_C_46 w hw))) bd_C_46 (vx_c (va_Nw.use rfl hZ.2.2.1) (vx_c (va_Nw.use rfl hZ.2.2.2.2.1) (vx_c (va_Nw.use rfl hZ.2.2.2.2.2.1) (vx_c (va_Nw.use rfl hZ.2.2.2.2.2.2.1) (vx_n)))))) gd_C_46 hZ.2.2.2.2.2.2.2.2.2.2.2.2.2.2.2.2.2.2.2.2.2.2.2.1 hZ.2.2.2.2.2.2.2.2.2.2.2.2.2.2.2.2.2.2.2.2.2.2.2.2 hS (hl.1.trans hml.symm) dC_node_138 dC_node_141 dC_node_142 dC_node_144 dC_node_147 (fun x h => (htb x h).elim) (Nat.le_of_ble_eq_true rfl) (Nat.le_of_ble_eq_true rfl) (Nat.le_of_ble_eq_true rfl) (Nat.le_of_ble_eq_true rfl) hlocks (fun t _ h1 h2 => ⟨(n_123, f_124), trivial, ⟨hw, (ct_thr hP hS h1 h2).1⟩, (ct_thr hP hS h1 h2).2⟩) hS.2.2 (Nat.le_of_ble_eq_true rfl) (Nat.le_of_ble_eq_true rfl)
            · have hw := hw.2 c107
              refine lv_iload_n hx hb dC_node_109 rfl (lv_at hl 3 rfl) ?_
              refine lv_goto (tgt := 114) hx hb dC_node_110 (by decide) ?_
              refine lv_iload hx hb dC_node_114 (lv_at hl 0 rfl) ?_
              refine lv_iconst (v := 2) hx hb dC_node_116 (by decide) ?_
              refine lv_icmp_lt (tgt := 124) hx hb dC_node_117 (by decide) (fun c129 => ?_) (fun c129 => ?_)
              · have hw := hw.1 c129
                refine lv_iconst (v := 0) hx hb dC_node_124 (by decide) ?_
                refine ct_v (va_runV (As := [.int p1, .int p2, .int 0]) (rest := []) ⟨hx, hb, hml, hown, hts⟩ (met_F_draft l dC dI a cA sa p1 p2 0 n_102 f_103 _ hw) (cwV 3 hts (wb_V wt_306 wt_307 wt_308 wt_29 wt_309) rfl rfl rfl (by decide +kernel) ⟨Nat.le_of_ble_eq_true rfl, Nat.le_of_ble_eq_true rfl⟩) (ct_preV hK hP (hDa _ _) hZ hS hA (va_recv hK hP (ci := 2) (q0 := 2) rfl rfl)) rfl rfl hl.1 rfl (lv_room (Nat.le_of_ble_eq_true rfl)) dC_node_125 ⟨Nat.le_of_ble_eq_true rfl, Nat.le_of_ble_eq_true rfl⟩) (hDa _ _) hS hA (fun n_131 f_132 H locs hw hP hS => ?_)
                refine lv_aload_n hx hb dC_node_128 rfl (lv_at hl 1 rfl) ?_
                refine va_get (D := (dC, dI)) (ci := 0) (v := .ref (a 2)) (C := RC) (T := TC) (N := 2) hx hb hts (fun w h => List.mem_cons_of_mem _ (inC w h)) hown hK hP 0 rfl rfl 1 (by decide) (hts (.fieldLink RC 21 "CoverTrees" "forest" "LCoverTrees$Forest;") (List.mem_cons_of_mem _ wt_135)) (fun _ h9 => h9) rfl dC_node_129 ?_
                refine ct_i (va_runV (As := []) (rest := []) ⟨hx, hb, hml, hown, hts⟩ (met_F_draftIsTooDear l dC dI a cA sa n_131 f_132 _ hw) (cwV 0 hts (wb_V wt_352 wt_353 wt_354 wt_29 wt_355) rfl rfl rfl (by decide +kernel) ⟨Nat.le_of_ble_eq_true rfl, Nat.le_of_ble_eq_true rfl⟩) (ct_preV hK hP (hDa _ _) hZ hS hA (va_recv hK hP (ci := 2) (q0 := 2) rfl rfl)) rfl rfl hl.1 rfl (lv_room (Nat.le_of_ble_eq_true rfl)) dC_node_132 ⟨Nat.le_of_ble_eq_true rfl, Nat.le_of_ble_eq_true rfl⟩) (hDa _ _) hS hA (fun r133 n_134 f_135 H locs hw hP hS => ?_)
                refine lv_if_eq (tgt := 148) hx hb dC_node_135 (by decide) (fun c136 => ?_) (fun c136 => ?_)
                · have hw := hw.1 c136
                  refine lv_aload_n hx hb dC_node_148 rfl (lv_at hl 1 rfl) ?_
                  refine va_get (D := (dC, dI)) (ci := 0) (v := .ref (a 2)) (C := RC) (T := TC) (N := 2) hx hb hts (fun w h => List.mem_cons_of_mem _ (inC w h)) hown hK hP 0 rfl rfl 1 (by decide) (hts (.fieldLink RC 21 "CoverTrees" "forest" "LCoverTrees$Forest;") (List.mem_cons_of_mem _ wt_135)) (fun _ h9 => h9) rfl dC_node_149 ?_
                  refine ct_i (va_runV (As := []) (rest := []) ⟨hx, hb, hml, hown, hts⟩ (met_F_keepDraft l dC dI a cA sa n_134 f_135 _ hw) (cwV 0 hts (wb_V wt_358 wt_359 wt_360 wt_29 wt_361) rfl rfl rfl (by decide +kernel) ⟨Nat.le_of_ble_eq_true rfl, Nat.le_of_ble_eq_true rfl⟩) (ct_preV hK hP (hDa _ _) hZ hS hA (va_recv hK hP (ci := 2) (q0 := 2) rfl rfl)) rfl rfl hl.1 rfl (lv_room (Nat.le_of_ble_eq_true rfl)) dC_node_152 ⟨Nat.le_of_ble_eq_true rfl, Nat.le_of_ble_eq_true rfl⟩) (hDa _ _) hS hA (fun r137 n_138 f_139 H locs hw hP hS => ?_)
                  exact False.elim hw
                · have hw := hw.2 c136
                  exact vx_throwS (own := RC) (cls := "java/lang/UnsupportedOperationException") (text := "the node would cost more than 1000000") (names := ["java/lang/RuntimeException", "java/lang/Exception"]) (ik := 42) (is := 98) (ic := 46) (sa := sa 11) hx hb hl9 hown (by decide +kernel) (by decide +kernel) (hts (.classLink RC 42 "java/lang/UnsupportedOperationException") (List.mem_cons_of_mem _ wt_234)) (hts (.initialized "java/lang/UnsupportedOperationException") (List.mem_cons_of_mem _ wt_35)) hZ.2.2.2.2.2.2.2.2.2.2.2.2.2.2.2.2.2.2.1 (vx_hat (L := vx_atS RC 46 "java/lang/UnsupportedOperationException" ["java/lang/RuntimeException", "java/lang/Exception"]) (B := [.castable "java/lang/UnsupportedOperationException" "java/lang/UnsupportedOperationException", .declares ⟨"java/lang/RuntimeException", "<init>", "(Ljava/lang/String;)V"⟩, .declares ⟨"java/lang/Exception", "<init>", "(Ljava/lang/String;)V"⟩, .declares ⟨"java/lang/Throwable", "<init>", "(Ljava/lang/String;)V"⟩]) (fun w hw => hts w (List.mem_cons_of_mem _ (at_C_46 w hw))) bd_C_46 (vx_c (va_Nw.use rfl hZ.2.2.1) (vx_c (va_Nw.use rfl hZ.2.2.2.2.1) (vx_c (va_Nw.use rfl hZ.2.2.2.2.2.1) (vx_c (va_Nw.use rfl hZ.2.2.2.2.2.2.1) (vx_n)))))) gd_C_46 hZ.2.2.2.2.2.2.2.2.2.2.2.2.2.2.2.2.2.2.2.2.2.2.2.1 hZ.2.2.2.2.2.2.2.2.2.2.2.2.2.2.2.2.2.2.2.2.2.2.2.2 hS (hl.1.trans hml.symm) dC_node_138 dC_node_141 dC_node_142 dC_node_144 dC_node_147 (fun x h => (htb x h).elim) (Nat.le_of_ble_eq_true rfl) (Nat.le_of_ble_eq_true rfl) (Nat.le_of_ble_eq_true rfl) (Nat.le_of_ble_eq_true rfl) hlocks (fun t _ h1 h2 => ⟨(n_134, f_135), trivial, ⟨hw, (ct_thr hP hS h1 h2).1⟩, (ct_thr hP hS h1 h2).2⟩) hS.2.2 (Nat.le_of_ble_eq_true rfl) (Nat.le_of_ble_eq_true rfl)
              · have hw := hw.2 c129
                refine lv_iload_n hx hb dC_node_120 rfl (lv_at hl 4 rfl) ?_
                refine lv_goto (tgt := 125) hx hb dC_node_121 (by decide) ?_
                refine ct_v (va_runV (As := [.int p1, .int p2, .int p3]) (rest := []) ⟨hx, hb, hml, hown, hts⟩ (met_F_draft l dC dI a cA sa p1 p2 p3 n_102 f_103 _ hw) (cwV 3 hts (wb_V wt_306 wt_307 wt_308 wt_29 wt_309) rfl rfl rfl (by decide +kernel) ⟨Nat.le_of_ble_eq_true rfl, Nat.le_of_ble_eq_true rfl⟩) (ct_preV hK hP (hDa _ _) hZ hS hA (va_recv hK hP (ci := 2) (q0 := 2) rfl rfl)) rfl rfl hl.1 rfl (lv_room (Nat.le_of_ble_eq_true rfl)) dC_node_125 ⟨Nat.le_of_ble_eq_true rfl, Nat.le_of_ble_eq_true rfl⟩) (hDa _ _) hS hA (fun n_141 f_142 H locs hw hP hS => ?_)
                refine lv_aload_n hx hb dC_node_128 rfl (lv_at hl 1 rfl) ?_
                refine va_get (D := (dC, dI)) (ci := 0) (v := .ref (a 2)) (C := RC) (T := TC) (N := 2) hx hb hts (fun w h => List.mem_cons_of_mem _ (inC w h)) hown hK hP 0 rfl rfl 1 (by decide) (hts (.fieldLink RC 21 "CoverTrees" "forest" "LCoverTrees$Forest;") (List.mem_cons_of_mem _ wt_135)) (fun _ h9 => h9) rfl dC_node_129 ?_
                refine ct_i (va_runV (As := []) (rest := []) ⟨hx, hb, hml, hown, hts⟩ (met_F_draftIsTooDear l dC dI a cA sa n_141 f_142 _ hw) (cwV 0 hts (wb_V wt_352 wt_353 wt_354 wt_29 wt_355) rfl rfl rfl (by decide +kernel) ⟨Nat.le_of_ble_eq_true rfl, Nat.le_of_ble_eq_true rfl⟩) (ct_preV hK hP (hDa _ _) hZ hS hA (va_recv hK hP (ci := 2) (q0 := 2) rfl rfl)) rfl rfl hl.1 rfl (lv_room (Nat.le_of_ble_eq_true rfl)) dC_node_132 ⟨Nat.le_of_ble_eq_true rfl, Nat.le_of_ble_eq_true rfl⟩) (hDa _ _) hS hA (fun r143 n_144 f_145 H locs hw hP hS => ?_)
                refine lv_if_eq (tgt := 148) hx hb dC_node_135 (by decide) (fun c146 => ?_) (fun c146 => ?_)
                · have hw := hw.1 c146
                  refine lv_aload_n hx hb dC_node_148 rfl (lv_at hl 1 rfl) ?_
                  refine va_get (D := (dC, dI)) (ci := 0) (v := .ref (a 2)) (C := RC) (T := TC) (N := 2) hx hb hts (fun w h => List.mem_cons_of_mem _ (inC w h)) hown hK hP 0 rfl rfl 1 (by decide) (hts (.fieldLink RC 21 "CoverTrees" "forest" "LCoverTrees$Forest;") (List.mem_cons_of_mem _ wt_135)) (fun _ h9 => h9) rfl dC_node_149 ?_
                  refine ct_i (va_runV (As := []) (rest := []) ⟨hx, hb, hml, hown, hts⟩ (met_F_keepDraft l dC dI a cA sa n_144 f_145 _ hw) (cwV 0 hts (wb_V wt_358 wt_359 wt_360 wt_29 wt_361) rfl rfl rfl (by decide +kernel) ⟨Nat.le_of_ble_eq_true rfl, Nat.le_of_ble_eq_true rfl⟩) (ct_preV hK hP (hDa _ _) hZ hS hA (va_recv hK hP (ci := 2) (q0 := 2) rfl rfl)) rfl rfl hl.1 rfl (lv_room (Nat.le_of_ble_eq_true rfl)) dC_node_152 ⟨Nat.le_of_ble_eq_true rfl, Nat.le_of_ble_eq_true rfl⟩) (hDa _ _) hS hA (fun r147 n_148 f_149 H locs hw hP hS => ?_)
                  exact False.elim hw
                · have hw := hw.2 c146
                  exact vx_throwS (own := RC) (cls := "java/lang/UnsupportedOperationException") (text := "the node would cost more than 1000000") (names := ["java/lang/RuntimeException", "java/lang/Exception"]) (ik := 42) (is := 98) (ic := 46) (sa := sa 11) hx hb hl9 hown (by decide +kernel) (by decide +kernel) (hts (.classLink RC 42 "java/lang/UnsupportedOperationException") (List.mem_cons_of_mem _ wt_234)) (hts (.initialized "java/lang/UnsupportedOperationException") (List.mem_cons_of_mem _ wt_35)) hZ.2.2.2.2.2.2.2.2.2.2.2.2.2.2.2.2.2.2.1 (vx_hat (L := vx_atS RC 46 "java/lang/UnsupportedOperationException" ["java/lang/RuntimeException", "java/lang/Exception"]) (B := [.castable "java/lang/UnsupportedOperationException" "java/lang/UnsupportedOperationException", .declares ⟨"java/lang/RuntimeException", "<init>", "(Ljava/lang/String;)V"⟩, .declares ⟨"java/lang/Exception", "<init>", "(Ljava/lang/String;)V"⟩, .declares ⟨"java/lang/Throwable", "<init>", "(Ljava/lang/String;)V"⟩]) (fun w hw => hts w (List.mem_cons_of_mem _ (at_C_46 w hw))) bd_C_46 (vx_c (va_Nw.use rfl hZ.2.2.1) (vx_c (va_Nw.use rfl hZ.2.2.2.2.1) (vx_c (va_Nw.use rfl hZ.2.2.2.2.2.1) (vx_c (va_Nw.use rfl hZ.2.2.2.2.2.2.1) (vx_n)))))) gd_C_46 hZ.2.2.2.2.2.2.2.2.2.2.2.2.2.2.2.2.2.2.2.2.2.2.2.1 hZ.2.2.2.2.2.2.2.2.2.2.2.2.2.2.2.2.2.2.2.2.2.2.2.2 hS (hl.1.trans hml.symm) dC_node_138 dC_node_141 dC_node_142 dC_node_144 dC_node_147 (fun x h => (htb x h).elim) (Nat.le_of_ble_eq_true rfl) (Nat.le_of_ble_eq_true rfl) (Nat.le_of_ble_eq_true rfl) (Nat.le_of_ble_eq_true rfl) hlocks (fun t _ h1 h2 => ⟨(n_144, f_145), trivial, ⟨hw, (ct_thr hP hS h1 h2).1⟩, (ct_thr hP hS h1 h2).2⟩) hS.2.2 (Nat.le_of_ble_eq_true rfl) (Nat.le_of_ble_eq_true rfl)
          · have hw := hw.2 c106
            exact vx_throwS (own := RC) (cls := "java/lang/UnsupportedOperationException") (text := "there are 120 nodes") (names := ["java/lang/RuntimeException", "java/lang/Exception"]) (ik := 42) (is := 88) (ic := 46) (sa := sa 10) hx hb hl9 hown (by decide +kernel) (by decide +kernel) (hts (.classLink RC 42 "java/lang/UnsupportedOperationException") (List.mem_cons_of_mem _ wt_234)) (hts (.initialized "java/lang/UnsupportedOperationException") (List.mem_cons_of_mem _ wt_35)) hZ.2.2.2.2.2.2.2.2.2.2.2.2.2.2.2.2.2.1 (vx_hat (L := vx_atS RC 46 "java/lang/UnsupportedOperationException" ["java/lang/RuntimeException", "java/lang/Exception"]) (B := [.castable "java/lang/UnsupportedOperationException" "java/lang/UnsupportedOperationException", .declares ⟨"java/lang/RuntimeException", "<init>", "(Ljava/lang/String;)V"⟩, .declares ⟨"java/lang/Exception", "<init>", "(Ljava/lang/String;)V"⟩, .declares ⟨"java/lang/Throwable", "<init>", "(Ljava/lang/String;)V"⟩]) (fun w hw => hts w (List.mem_cons_of_mem _ (at_C_46 w hw))) bd_C_46 (vx_c (va_Nw.use rfl hZ.2.2.1) (vx_c (va_Nw.use rfl hZ.2.2.2.2.1) (vx_c (va_Nw.use rfl hZ.2.2.2.2.2.1) (vx_c (va_Nw.use rfl hZ.2.2.2.2.2.2.1) (vx_n)))))) gd_C_46 hZ.2.2.2.2.2.2.2.2.2.2.2.2.2.2.2.2.2.2.2.2.2.2.2.1 hZ.2.2.2.2.2.2.2.2.2.2.2.2.2.2.2.2.2.2.2.2.2.2.2.2 hS (hl.1.trans hml.symm) dC_node_88 dC_node_91 dC_node_92 dC_node_94 dC_node_97 (fun x h => (htb x h).elim) (Nat.le_of_ble_eq_true rfl) (Nat.le_of_ble_eq_true rfl) (Nat.le_of_ble_eq_true rfl) (Nat.le_of_ble_eq_true rfl) hlocks (fun t _ h1 h2 => ⟨(n_102, f_103), trivial, ⟨hw, (ct_thr hP hS h1 h2).1⟩, (ct_thr hP hS h1 h2).2⟩) hS.2.2 (Nat.le_of_ble_eq_true rfl) (Nat.le_of_ble_eq_true rfl)
        · have hw := hw.2 c105
          refine lv_aload_n hx hb dC_node_55 rfl (lv_at hl 1 rfl) ?_
          refine va_get (D := (dC, dI)) (ci := 0) (v := .ref (a 2)) (C := RC) (T := TC) (N := 2) hx hb hts (fun w h => List.mem_cons_of_mem _ (inC w h)) hown hK hP 0 rfl rfl 1 (by decide) (hts (.fieldLink RC 21 "CoverTrees" "forest" "LCoverTrees$Forest;") (List.mem_cons_of_mem _ wt_135)) (fun _ h9 => h9) rfl dC_node_56 ?_
          refine lv_iload_n hx hb dC_node_59 rfl (lv_at hl 4 rfl) ?_
          refine ct_i (va_runV (As := [.int p3]) (rest := []) ⟨hx, hb, hml, hown, hts⟩ (met_F_has l dC dI a cA sa p3 n_102 f_103 _ hw) (cwV 1 hts (wb_V wt_300 wt_301 wt_302 wt_29 wt_303) rfl rfl rfl (by decide +kernel) ⟨Nat.le_of_ble_eq_true rfl, Nat.le_of_ble_eq_true rfl⟩) (ct_preV hK hP (hDa _ _) hZ hS hA (va_recv hK hP (ci := 2) (q0 := 2) rfl rfl)) rfl rfl hl.1 rfl (lv_room (Nat.le_of_ble_eq_true rfl)) dC_node_60 ⟨Nat.le_of_ble_eq_true rfl, Nat.le_of_ble_eq_true rfl⟩) (hDa _ _) hS hA (fun r150 n_151 f_152 H locs hw hP hS => ?_)
          refine lv_if_ne (tgt := 76) hx hb dC_node_63 (by decide) (fun c153 => ?_) (fun c153 => ?_)
          · have hw := hw.1 c153
            refine lv_aload_n hx hb dC_node_76 rfl (lv_at hl 1 rfl) ?_
            refine va_get (D := (dC, dI)) (ci := 0) (v := .ref (a 2)) (C := RC) (T := TC) (N := 2) hx hb hts (fun w h => List.mem_cons_of_mem _ (inC w h)) hown hK hP 0 rfl rfl 1 (by decide) (hts (.fieldLink RC 21 "CoverTrees" "forest" "LCoverTrees$Forest;") (List.mem_cons_of_mem _ wt_135)) (fun _ h9 => h9) rfl dC_node_77 ?_
            refine va_get (D := (dC, dI)) (ci := 2) (v := .int (n_151 2)) (C := RF) (T := TF) (N := 11) hx hb hts (fun w h => List.mem_cons_of_mem _ (inF w h)) hown hK hP 2 rfl rfl 1 (by decide) (hts (.fieldLink RC 25 "CoverTrees$Forest" "count" "I") (List.mem_cons_of_mem _ wt_95)) (fun _ h9 => h9) rfl dC_node_80 ?_
            refine lv_bipush (v := 120) hx hb dC_node_83 (by decide) ?_
            refine lv_icmp_lt (tgt := 98) hx hb dC_node_85 (by decide) (fun c154 => ?_) (fun c154 => ?_)
            · have hw := hw.1 c154
              refine lv_aload_n hx hb dC_node_98 rfl (lv_at hl 1 rfl) ?_
              refine va_get (D := (dC, dI)) (ci := 0) (v := .ref (a 2)) (C := RC) (T := TC) (N := 2) hx hb hts (fun w h => List.mem_cons_of_mem _ (inC w h)) hown hK hP 0 rfl rfl 1 (by decide) (hts (.fieldLink RC 21 "CoverTrees" "forest" "LCoverTrees$Forest;") (List.mem_cons_of_mem _ wt_135)) (fun _ h9 => h9) rfl dC_node_99 ?_
              refine lv_iload_n hx hb dC_node_102 rfl (lv_at hl 2 rfl) ?_
              refine lv_iload hx hb dC_node_103 (lv_at hl 0 rfl) ?_
              refine lv_iconst (v := 1) hx hb dC_node_105 (by decide) ?_
              refine lv_icmp_lt (tgt := 113) hx hb dC_node_106 (by decide) (fun c155 => ?_) (fun c155 => ?_)
              · have hw := hw.1 c155
                refine lv_iconst (v := 0) hx hb dC_node_113 (by decide) ?_
                refine lv_iload hx hb dC_node_114 (lv_at hl 0 rfl) ?_
                refine lv_iconst (v := 2) hx hb dC_node_116 (by decide) ?_
                refine lv_icmp_lt (tgt := 124) hx hb dC_node_117 (by decide) (fun c156 => ?_) (fun c156 => ?_)
                · have hw := hw.1 c156
                  refine lv_iconst (v := 0) hx hb dC_node_124 (by decide) ?_
                  refine ct_v (va_runV (As := [.int p1, .int 0, .int 0]) (rest := []) ⟨hx, hb, hml, hown, hts⟩ (met_F_draft l dC dI a cA sa p1 0 0 n_151 f_152 _ hw) (cwV 3 hts (wb_V wt_306 wt_307 wt_308 wt_29 wt_309) rfl rfl rfl (by decide +kernel) ⟨Nat.le_of_ble_eq_true rfl, Nat.le_of_ble_eq_true rfl⟩) (ct_preV hK hP (hDa _ _) hZ hS hA (va_recv hK hP (ci := 2) (q0 := 2) rfl rfl)) rfl rfl hl.1 rfl (lv_room (Nat.le_of_ble_eq_true rfl)) dC_node_125 ⟨Nat.le_of_ble_eq_true rfl, Nat.le_of_ble_eq_true rfl⟩) (hDa _ _) hS hA (fun n_158 f_159 H locs hw hP hS => ?_)
                  refine lv_aload_n hx hb dC_node_128 rfl (lv_at hl 1 rfl) ?_
                  refine va_get (D := (dC, dI)) (ci := 0) (v := .ref (a 2)) (C := RC) (T := TC) (N := 2) hx hb hts (fun w h => List.mem_cons_of_mem _ (inC w h)) hown hK hP 0 rfl rfl 1 (by decide) (hts (.fieldLink RC 21 "CoverTrees" "forest" "LCoverTrees$Forest;") (List.mem_cons_of_mem _ wt_135)) (fun _ h9 => h9) rfl dC_node_129 ?_
                  refine ct_i (va_runV (As := []) (rest := []) ⟨hx, hb, hml, hown, hts⟩ (met_F_draftIsTooDear l dC dI a cA sa n_158 f_159 _ hw) (cwV 0 hts (wb_V wt_352 wt_353 wt_354 wt_29 wt_355) rfl rfl rfl (by decide +kernel) ⟨Nat.le_of_ble_eq_true rfl, Nat.le_of_ble_eq_true rfl⟩) (ct_preV hK hP (hDa _ _) hZ hS hA (va_recv hK hP (ci := 2) (q0 := 2) rfl rfl)) rfl rfl hl.1 rfl (lv_room (Nat.le_of_ble_eq_true rfl)) dC_node_132 ⟨Nat.le_of_ble_eq_true rfl, Nat.le_of_ble_eq_true rfl⟩) (hDa _ _) hS hA (fun r160 n_161 f_162 H locs hw hP hS => ?_)
                  refine lv_if_eq (tgt := 148) hx hb dC_node_135 (by decide) (fun c163 => ?_) (fun c163 => ?_)
                  · have hw := hw.1 c163
                    refine lv_aload_n hx hb dC_node_148 rfl (lv_at hl 1 rfl) ?_
                    refine va_get (D := (dC, dI)) (ci := 0) (v := .ref (a 2)) (C := RC) (T := TC) (N := 2) hx hb hts (fun w h => List.mem_cons_of_mem _ (inC w h)) hown hK hP 0 rfl rfl 1 (by decide) (hts (.fieldLink RC 21 "CoverTrees" "forest" "LCoverTrees$Forest;") (List.mem_cons_of_mem _ wt_135)) (fun _ h9 => h9) rfl dC_node_149 ?_
                    refine ct_i (va_runV (As := []) (rest := []) ⟨hx, hb, hml, hown, hts⟩ (met_F_keepDraft l dC dI a cA sa n_161 f_162 _ hw) (cwV 0 hts (wb_V wt_358 wt_359 wt_360 wt_29 wt_361) rfl rfl rfl (by decide +kernel) ⟨Nat.le_of_ble_eq_true rfl, Nat.le_of_ble_eq_true rfl⟩) (ct_preV hK hP (hDa _ _) hZ hS hA (va_recv hK hP (ci := 2) (q0 := 2) rfl rfl)) rfl rfl hl.1 rfl (lv_room (Nat.le_of_ble_eq_true rfl)) dC_node_152 ⟨Nat.le_of_ble_eq_true rfl, Nat.le_of_ble_eq_true rfl⟩) (hDa _ _) hS hA (fun r164 n_165 f_166 H locs hw hP hS => ?_)
                    exact False.elim hw
                  · have hw := hw.2 c163
                    exact vx_throwS (own := RC) (cls := "java/lang/UnsupportedOperationException") (text := "the node would cost more than 1000000") (names := ["java/lang/RuntimeException", "java/lang/Exception"]) (ik := 42) (is := 98) (ic := 46) (sa := sa 11) hx hb hl9 hown (by decide +kernel) (by decide +kernel) (hts (.classLink RC 42 "java/lang/UnsupportedOperationException") (List.mem_cons_of_mem _ wt_234)) (hts (.initialized "java/lang/UnsupportedOperationException") (List.mem_cons_of_mem _ wt_35)) hZ.2.2.2.2.2.2.2.2.2.2.2.2.2.2.2.2.2.2.1 (vx_hat (L := vx_atS RC 46 "java/lang/UnsupportedOperationException" ["java/lang/RuntimeException", "java/lang/Exception"]) (B := [.castable "java/lang/UnsupportedOperationException" "java/lang/UnsupportedOperationException", .declares ⟨"java/lang/RuntimeException", "<init>", "(Ljava/lang/String;)V"⟩, .declares ⟨"java/lang/Exception", "<init>", "(Ljava/lang/String;)V"⟩, .declares ⟨"java/lang/Throwable", "<init>", "(Ljava/lang/String;)V"⟩]) (fun w hw => hts w (List.mem_cons_of_mem _ (at_C_46 w hw))) bd_C_46 (vx_c (va_Nw.use rfl hZ.2.2.1) (vx_c (va_Nw.use rfl hZ.2.2.2.2.1) (vx_c (va_Nw.use rfl hZ.2.2.2.2.2.1) (vx_c (va_Nw.use rfl hZ.2.2.2.2.2.2.1) (vx_n)))))) gd_C_46 hZ.2.2.2.2.2.2.2.2.2.2.2.2.2.2.2.2.2.2.2.2.2.2.2.1 hZ.2.2.2.2.2.2.2.2.2.2.2.2.2.2.2.2.2.2.2.2.2.2.2.2 hS (hl.1.trans hml.symm) dC_node_138 dC_node_141 dC_node_142 dC_node_144 dC_node_147 (fun x h => (htb x h).elim) (Nat.le_of_ble_eq_true rfl) (Nat.le_of_ble_eq_true rfl) (Nat.le_of_ble_eq_true rfl) (Nat.le_of_ble_eq_true rfl) hlocks (fun t _ h1 h2 => ⟨(n_161, f_162), trivial, ⟨hw, (ct_thr hP hS h1 h2).1⟩, (ct_thr hP hS h1 h2).2⟩) hS.2.2 (Nat.le_of_ble_eq_true rfl) (Nat.le_of_ble_eq_true rfl)
                · have hw := hw.2 c156
                  refine lv_iload_n hx hb dC_node_120 rfl (lv_at hl 4 rfl) ?_
                  refine lv_goto (tgt := 125) hx hb dC_node_121 (by decide) ?_
                  refine ct_v (va_runV (As := [.int p1, .int 0, .int p3]) (rest := []) ⟨hx, hb, hml, hown, hts⟩ (met_F_draft l dC dI a cA sa p1 0 p3 n_151 f_152 _ hw) (cwV 3 hts (wb_V wt_306 wt_307 wt_308 wt_29 wt_309) rfl rfl rfl (by decide +kernel) ⟨Nat.le_of_ble_eq_true rfl, Nat.le_of_ble_eq_true rfl⟩) (ct_preV hK hP (hDa _ _) hZ hS hA (va_recv hK hP (ci := 2) (q0 := 2) rfl rfl)) rfl rfl hl.1 rfl (lv_room (Nat.le_of_ble_eq_true rfl)) dC_node_125 ⟨Nat.le_of_ble_eq_true rfl, Nat.le_of_ble_eq_true rfl⟩) (hDa _ _) hS hA (fun n_168 f_169 H locs hw hP hS => ?_)
                  refine lv_aload_n hx hb dC_node_128 rfl (lv_at hl 1 rfl) ?_
                  refine va_get (D := (dC, dI)) (ci := 0) (v := .ref (a 2)) (C := RC) (T := TC) (N := 2) hx hb hts (fun w h => List.mem_cons_of_mem _ (inC w h)) hown hK hP 0 rfl rfl 1 (by decide) (hts (.fieldLink RC 21 "CoverTrees" "forest" "LCoverTrees$Forest;") (List.mem_cons_of_mem _ wt_135)) (fun _ h9 => h9) rfl dC_node_129 ?_
                  refine ct_i (va_runV (As := []) (rest := []) ⟨hx, hb, hml, hown, hts⟩ (met_F_draftIsTooDear l dC dI a cA sa n_168 f_169 _ hw) (cwV 0 hts (wb_V wt_352 wt_353 wt_354 wt_29 wt_355) rfl rfl rfl (by decide +kernel) ⟨Nat.le_of_ble_eq_true rfl, Nat.le_of_ble_eq_true rfl⟩) (ct_preV hK hP (hDa _ _) hZ hS hA (va_recv hK hP (ci := 2) (q0 := 2) rfl rfl)) rfl rfl hl.1 rfl (lv_room (Nat.le_of_ble_eq_true rfl)) dC_node_132 ⟨Nat.le_of_ble_eq_true rfl, Nat.le_of_ble_eq_true rfl⟩) (hDa _ _) hS hA (fun r170 n_171 f_172 H locs hw hP hS => ?_)
                  refine lv_if_eq (tgt := 148) hx hb dC_node_135 (by decide) (fun c173 => ?_) (fun c173 => ?_)
                  · have hw := hw.1 c173
                    refine lv_aload_n hx hb dC_node_148 rfl (lv_at hl 1 rfl) ?_
                    refine va_get (D := (dC, dI)) (ci := 0) (v := .ref (a 2)) (C := RC) (T := TC) (N := 2) hx hb hts (fun w h => List.mem_cons_of_mem _ (inC w h)) hown hK hP 0 rfl rfl 1 (by decide) (hts (.fieldLink RC 21 "CoverTrees" "forest" "LCoverTrees$Forest;") (List.mem_cons_of_mem _ wt_135)) (fun _ h9 => h9) rfl dC_node_149 ?_
                    refine ct_i (va_runV (As := []) (rest := []) ⟨hx, hb, hml, hown, hts⟩ (met_F_keepDraft l dC dI a cA sa n_171 f_172 _ hw) (cwV 0 hts (wb_V wt_358 wt_359 wt_360 wt_29 wt_361) rfl rfl rfl (by decide +kernel) ⟨Nat.le_of_ble_eq_true rfl, Nat.le_of_ble_eq_true rfl⟩) (ct_preV hK hP (hDa _ _) hZ hS hA (va_recv hK hP (ci := 2) (q0 := 2) rfl rfl)) rfl rfl hl.1 rfl (lv_room (Nat.le_of_ble_eq_true rfl)) dC_node_152 ⟨Nat.le_of_ble_eq_true rfl, Nat.le_of_ble_eq_true rfl⟩) (hDa _ _) hS hA (fun r174 n_175 f_176 H locs hw hP hS => ?_)
                    exact False.elim hw
                  · have hw := hw.2 c173
                    exact vx_throwS (own := RC) (cls := "java/lang/UnsupportedOperationException") (text := "the node would cost more than 1000000") (names := ["java/lang/RuntimeException", "java/lang/Exception"]) (ik := 42) (is := 98) (ic := 46) (sa := sa 11) hx hb hl9 hown (by decide +kernel) (by decide +kernel) (hts (.classLink RC 42 "java/lang/UnsupportedOperationException") (List.mem_cons_of_mem _ wt_234)) (hts (.initialized "java/lang/UnsupportedOperationException") (List.mem_cons_of_mem _ wt_35)) hZ.2.2.2.2.2.2.2.2.2.2.2.2.2.2.2.2.2.2.1 (vx_hat (L := vx_atS RC 46 "java/lang/UnsupportedOperationException" ["java/lang/RuntimeException", "java/lang/Exception"]) (B := [.castable "java/lang/UnsupportedOperationException" "java/lang/UnsupportedOperationException", .declares ⟨"java/lang/RuntimeException", "<init>", "(Ljava/lang/String;)V"⟩, .declares ⟨"java/lang/Exception", "<init>", "(Ljava/lang/String;)V"⟩, .declares ⟨"java/lang/Throwable", "<init>", "(Ljava/lang/String;)V"⟩]) (fun w hw => hts w (List.mem_cons_of_mem _ (at_C_46 w hw))) bd_C_46 (vx_c (va_Nw.use rfl hZ.2.2.1) (vx_c (va_Nw.use rfl hZ.2.2.2.2.1) (vx_c (va_Nw.use rfl hZ.2.2.2.2.2.1) (vx_c (va_Nw.use rfl hZ.2.2.2.2.2.2.1) (vx_n)))))) gd_C_46 hZ.2.2.2.2.2.2.2.2.2.2.2.2.2.2.2.2.2.2.2.2.2.2.2.1 hZ.2.2.2.2.2.2.2.2.2.2.2.2.2.2.2.2.2.2.2.2.2.2.2.2 hS (hl.1.trans hml.symm) dC_node_138 dC_node_141 dC_node_142 dC_node_144 dC_node_147 (fun x h => (htb x h).elim) (Nat.le_of_ble_eq_true rfl) (Nat.le_of_ble_eq_true rfl) (Nat.le_of_ble_eq_true rfl) (Nat.le_of_ble_eq_true rfl) hlocks (fun t _ h1 h2 => ⟨(n_171, f_172), trivial, ⟨hw, (ct_thr hP hS h1 h2).1⟩, (ct_thr hP hS h1 h2).2⟩) hS.2.2 (Nat.le_of_ble_eq_true rfl) (Nat.le_of_ble_eq_true rfl)
              · have hw := hw.2 c155
                refine lv_iload_n hx hb dC_node_109 rfl (lv_at hl 3 rfl) ?_
                refine lv_goto (tgt := 114) hx hb dC_node_110 (by decide) ?_
                refine lv_iload hx hb dC_node_114 (lv_at hl 0 rfl) ?_
                refine lv_iconst (v := 2) hx hb dC_node_116 (by decide) ?_
                refine lv_icmp_lt (tgt := 124) hx hb dC_node_117 (by decide) (fun c177 => ?_) (fun c177 => ?_)
                · have hw := hw.1 c177
                  refine lv_iconst (v := 0) hx hb dC_node_124 (by decide) ?_
                  refine ct_v (va_runV (As := [.int p1, .int p2, .int 0]) (rest := []) ⟨hx, hb, hml, hown, hts⟩ (met_F_draft l dC dI a cA sa p1 p2 0 n_151 f_152 _ hw) (cwV 3 hts (wb_V wt_306 wt_307 wt_308 wt_29 wt_309) rfl rfl rfl (by decide +kernel) ⟨Nat.le_of_ble_eq_true rfl, Nat.le_of_ble_eq_true rfl⟩) (ct_preV hK hP (hDa _ _) hZ hS hA (va_recv hK hP (ci := 2) (q0 := 2) rfl rfl)) rfl rfl hl.1 rfl (lv_room (Nat.le_of_ble_eq_true rfl)) dC_node_125 ⟨Nat.le_of_ble_eq_true rfl, Nat.le_of_ble_eq_true rfl⟩) (hDa _ _) hS hA (fun n_179 f_180 H locs hw hP hS => ?_)
                  refine lv_aload_n hx hb dC_node_128 rfl (lv_at hl 1 rfl) ?_
                  refine va_get (D := (dC, dI)) (ci := 0) (v := .ref (a 2)) (C := RC) (T := TC) (N := 2) hx hb hts (fun w h => List.mem_cons_of_mem _ (inC w h)) hown hK hP 0 rfl rfl 1 (by decide) (hts (.fieldLink RC 21 "CoverTrees" "forest" "LCoverTrees$Forest;") (List.mem_cons_of_mem _ wt_135)) (fun _ h9 => h9) rfl dC_node_129 ?_
                  refine ct_i (va_runV (As := []) (rest := []) ⟨hx, hb, hml, hown, hts⟩ (met_F_draftIsTooDear l dC dI a cA sa n_179 f_180 _ hw) (cwV 0 hts (wb_V wt_352 wt_353 wt_354 wt_29 wt_355) rfl rfl rfl (by decide +kernel) ⟨Nat.le_of_ble_eq_true rfl, Nat.le_of_ble_eq_true rfl⟩) (ct_preV hK hP (hDa _ _) hZ hS hA (va_recv hK hP (ci := 2) (q0 := 2) rfl rfl)) rfl rfl hl.1 rfl (lv_room (Nat.le_of_ble_eq_true rfl)) dC_node_132 ⟨Nat.le_of_ble_eq_true rfl, Nat.le_of_ble_eq_true rfl⟩) (hDa _ _) hS hA (fun r181 n_182 f_183 H locs hw hP hS => ?_)
                  refine lv_if_eq (tgt := 148) hx hb dC_node_135 (by decide) (fun c184 => ?_) (fun c184 => ?_)
                  · have hw := hw.1 c184
                    refine lv_aload_n hx hb dC_node_148 rfl (lv_at hl 1 rfl) ?_
                    refine va_get (D := (dC, dI)) (ci := 0) (v := .ref (a 2)) (C := RC) (T := TC) (N := 2) hx hb hts (fun w h => List.mem_cons_of_mem _ (inC w h)) hown hK hP 0 rfl rfl 1 (by decide) (hts (.fieldLink RC 21 "CoverTrees" "forest" "LCoverTrees$Forest;") (List.mem_cons_of_mem _ wt_135)) (fun _ h9 => h9) rfl dC_node_149 ?_
                    refine ct_i (va_runV (As := []) (rest := []) ⟨hx, hb, hml, hown, hts⟩ (met_F_keepDraft l dC dI a cA sa n_182 f_183 _ hw) (cwV 0 hts (wb_V wt_358 wt_359 wt_360 wt_29 wt_361) rfl rfl rfl (by decide +kernel) ⟨Nat.le_of_ble_eq_true rfl, Nat.le_of_ble_eq_true rfl⟩) (ct_preV hK hP (hDa _ _) hZ hS hA (va_recv hK hP (ci := 2) (q0 := 2) rfl rfl)) rfl rfl hl.1 rfl (lv_room (Nat.le_of_ble_eq_true rfl)) dC_node_152 ⟨Nat.le_of_ble_eq_true rfl, Nat.le_of_ble_eq_true rfl⟩) (hDa _ _) hS hA (fun r185 n_186 f_187 H locs hw hP hS => ?_)
                    exact False.elim hw
                  · have hw := hw.2 c184
                    exact vx_throwS (own := RC) (cls := "java/lang/UnsupportedOperationException") (text := "the node would cost more than 1000000") (names := ["java/lang/RuntimeException", "java/lang/Exception"]) (ik := 42) (is := 98) (ic := 46) (sa := sa 11) hx hb hl9 hown (by decide +kernel) (by decide +kernel) (hts (.classLink RC 42 "java/lang/UnsupportedOperationException") (List.mem_cons_of_mem _ wt_234)) (hts (.initialized "java/lang/UnsupportedOperationException") (List.mem_cons_of_mem _ wt_35)) hZ.2.2.2.2.2.2.2.2.2.2.2.2.2.2.2.2.2.2.1 (vx_hat (L := vx_atS RC 46 "java/lang/UnsupportedOperationException" ["java/lang/RuntimeException", "java/lang/Exception"]) (B := [.castable "java/lang/UnsupportedOperationException" "java/lang/UnsupportedOperationException", .declares ⟨"java/lang/RuntimeException", "<init>", "(Ljava/lang/String;)V"⟩, .declares ⟨"java/lang/Exception", "<init>", "(Ljava/lang/String;)V"⟩, .declares ⟨"java/lang/Throwable", "<init>", "(Ljava/lang/String;)V"⟩]) (fun w hw => hts w (List.mem_cons_of_mem _ (at_C_46 w hw))) bd_C_46 (vx_c (va_Nw.use rfl hZ.2.2.1) (vx_c (va_Nw.use rfl hZ.2.2.2.2.1) (vx_c (va_Nw.use rfl hZ.2.2.2.2.2.1) (vx_c (va_Nw.use rfl hZ.2.2.2.2.2.2.1) (vx_n)))))) gd_C_46 hZ.2.2.2.2.2.2.2.2.2.2.2.2.2.2.2.2.2.2.2.2.2.2.2.1 hZ.2.2.2.2.2.2.2.2.2.2.2.2.2.2.2.2.2.2.2.2.2.2.2.2 hS (hl.1.trans hml.symm) dC_node_138 dC_node_141 dC_node_142 dC_node_144 dC_node_147 (fun x h => (htb x h).elim) (Nat.le_of_ble_eq_true rfl) (Nat.le_of_ble_eq_true rfl) (Nat.le_of_ble_eq_true rfl) (Nat.le_of_ble_eq_true rfl) hlocks (fun t _ h1 h2 => ⟨(n_182, f_183), trivial, ⟨hw, (ct_thr hP hS h1 h2).1⟩, (ct_thr hP hS h1 h2).2⟩) hS.2.2 (Nat.le_of_ble_eq_true rfl) (Nat.le_of_ble_eq_true rfl)
                · have hw := hw.2 c177
                  refine lv_iload_n hx hb dC_node_120 rfl (lv_at hl 4 rfl) ?_
                  refine lv_goto (tgt := 125) hx hb dC_node_121 (by decide) ?_
                  refine ct_v (va_runV (As := [.int p1, .int p2, .int p3]) (rest := []) ⟨hx, hb, hml, hown, hts⟩ (met_F_draft l dC dI a cA sa p1 p2 p3 n_151 f_152 _ hw) (cwV 3 hts (wb_V wt_306 wt_307 wt_308 wt_29 wt_309) rfl rfl rfl (by decide +kernel) ⟨Nat.le_of_ble_eq_true rfl, Nat.le_of_ble_eq_true rfl⟩) (ct_preV hK hP (hDa _ _) hZ hS hA (va_recv hK hP (ci := 2) (q0 := 2) rfl rfl)) rfl rfl hl.1 rfl (lv_room (Nat.le_of_ble_eq_true rfl)) dC_node_125 ⟨Nat.le_of_ble_eq_true rfl, Nat.le_of_ble_eq_true rfl⟩) (hDa _ _) hS hA (fun n_189 f_190 H locs hw hP hS => ?_)
                  refine lv_aload_n hx hb dC_node_128 rfl (lv_at hl 1 rfl) ?_
                  refine va_get (D := (dC, dI)) (ci := 0) (v := .ref (a 2)) (C := RC) (T := TC) (N := 2) hx hb hts (fun w h => List.mem_cons_of_mem _ (inC w h)) hown hK hP 0 rfl rfl 1 (by decide) (hts (.fieldLink RC 21 "CoverTrees" "forest" "LCoverTrees$Forest;") (List.mem_cons_of_mem _ wt_135)) (fun _ h9 => h9) rfl dC_node_129 ?_
                  refine ct_i (va_runV (As := []) (rest := []) ⟨hx, hb, hml, hown, hts⟩ (met_F_draftIsTooDear l dC dI a cA sa n_189 f_190 _ hw) (cwV 0 hts (wb_V wt_352 wt_353 wt_354 wt_29 wt_355) rfl rfl rfl (by decide +kernel) ⟨Nat.le_of_ble_eq_true rfl, Nat.le_of_ble_eq_true rfl⟩) (ct_preV hK hP (hDa _ _) hZ hS hA (va_recv hK hP (ci := 2) (q0 := 2) rfl rfl)) rfl rfl hl.1 rfl (lv_room (Nat.le_of_ble_eq_true rfl)) dC_node_132 ⟨Nat.le_of_ble_eq_true rfl, Nat.le_of_ble_eq_true rfl⟩) (hDa _ _) hS hA (fun r191 n_192 f_193 H locs hw hP hS => ?_)
                  refine lv_if_eq (tgt := 148) hx hb dC_node_135 (by decide) (fun c194 => ?_) (fun c194 => ?_)
                  · have hw := hw.1 c194
                    refine lv_aload_n hx hb dC_node_148 rfl (lv_at hl 1 rfl) ?_
                    refine va_get (D := (dC, dI)) (ci := 0) (v := .ref (a 2)) (C := RC) (T := TC) (N := 2) hx hb hts (fun w h => List.mem_cons_of_mem _ (inC w h)) hown hK hP 0 rfl rfl 1 (by decide) (hts (.fieldLink RC 21 "CoverTrees" "forest" "LCoverTrees$Forest;") (List.mem_cons_of_mem _ wt_135)) (fun _ h9 => h9) rfl dC_node_149 ?_
                    refine ct_i (va_runV (As := []) (rest := []) ⟨hx, hb, hml, hown, hts⟩ (met_F_keepDraft l dC dI a cA sa n_192 f_193 _ hw) (cwV 0 hts (wb_V wt_358 wt_359 wt_360 wt_29 wt_361) rfl rfl rfl (by decide +kernel) ⟨Nat.le_of_ble_eq_true rfl, Nat.le_of_ble_eq_true rfl⟩) (ct_preV hK hP (hDa _ _) hZ hS hA (va_recv hK hP (ci := 2) (q0 := 2) rfl rfl)) rfl rfl hl.1 rfl (lv_room (Nat.le_of_ble_eq_true rfl)) dC_node_152 ⟨Nat.le_of_ble_eq_true rfl, Nat.le_of_ble_eq_true rfl⟩) (hDa _ _) hS hA (fun r195 n_196 f_197 H locs hw hP hS => ?_)
                    exact False.elim hw
                  · have hw := hw.2 c194
                    exact vx_throwS (own := RC) (cls := "java/lang/UnsupportedOperationException") (text := "the node would cost more than 1000000") (names := ["java/lang/RuntimeException", "java/lang/Exception"]) (ik := 42) (is := 98) (ic := 46) (sa := sa 11) hx hb hl9 hown (by decide +kernel) (by decide +kernel) (hts (.classLink RC 42 "java/lang/UnsupportedOperationException") (List.mem_cons_of_mem _ wt_234)) (hts (.initialized "java/lang/UnsupportedOperationException") (List.mem_cons_of_mem _ wt_35)) hZ.2.2.2.2.2.2.2.2.2.2.2.2.2.2.2.2.2.2.1 (vx_hat (L := vx_atS RC 46 "java/lang/UnsupportedOperationException" ["java/lang/RuntimeException", "java/lang/Exception"]) (B := [.castable "java/lang/UnsupportedOperationException" "java/lang/UnsupportedOperationException", .declares ⟨"java/lang/RuntimeException", "<init>", "(Ljava/lang/String;)V"⟩, .declares ⟨"java/lang/Exception", "<init>", "(Ljava/lang/String;)V"⟩, .declares ⟨"java/lang/Throwable", "<init>", "(Ljava/lang/String;)V"⟩]) (fun w hw => hts w (List.mem_cons_of_mem _ (at_C_46 w hw))) bd_C_46 (vx_c (va_Nw.use rfl hZ.2.2.1) (vx_c (va_Nw.use rfl hZ.2.2.2.2.1) (vx_c (va_Nw.use rfl hZ.2.2.2.2.2.1) (vx_c (va_Nw.use rfl hZ.2.2.2.2.2.2.1) (vx_n)))))) gd_C_46 hZ.2.2.2.2.2.2.2.2.2.2.2.2.2.2.2.2.2.2.2.2.2.2.2.1 hZ.2.2.2.2.2.2.2.2.2.2.2.2.2.2.2.2.2.2.2.2.2.2.2.2 hS (hl.1.trans hml.symm) dC_node_138 dC_node_141 dC_node_142 dC_node_144 dC_node_147 (fun x h => (htb x h).elim) (Nat.le_of_ble_eq_true rfl) (Nat.le_of_ble_eq_true rfl) (Nat.le_of_ble_eq_true rfl) (Nat.le_of_ble_eq_true rfl) hlocks (fun t _ h1 h2 => ⟨(n_192, f_193), trivial, ⟨hw, (ct_thr hP hS h1 h2).1⟩, (ct_thr hP hS h1 h2).2⟩) hS.2.2 (Nat.le_of_ble_eq_true rfl) (Nat.le_of_ble_eq_true rfl)
            · have hw := hw.2 c154
              exact vx_throwS (own := RC) (cls := "java/lang/UnsupportedOperationException") (text := "there are 120 nodes") (names := ["java/lang/RuntimeException", "java/lang/Exception"]) (ik := 42) (is := 88) (ic := 46) (sa := sa 10) hx hb hl9 hown (by decide +kernel) (by decide +kernel) (hts (.classLink RC 42 "java/lang/UnsupportedOperationException") (List.mem_cons_of_mem _ wt_234)) (hts (.initialized "java/lang/UnsupportedOperationException") (List.mem_cons_of_mem _ wt_35)) hZ.2.2.2.2.2.2.2.2.2.2.2.2.2.2.2.2.2.1 (vx_hat (L := vx_atS RC 46 "java/lang/UnsupportedOperationException" ["java/lang/RuntimeException", "java/lang/Exception"]) (B := [.castable "java/lang/UnsupportedOperationException" "java/lang/UnsupportedOperationException", .declares ⟨"java/lang/RuntimeException", "<init>", "(Ljava/lang/String;)V"⟩, .declares ⟨"java/lang/Exception", "<init>", "(Ljava/lang/String;)V"⟩, .declares ⟨"java/lang/Throwable", "<init>", "(Ljava/lang/String;)V"⟩]) (fun w hw => hts w (List.mem_cons_of_mem _ (at_C_46 w hw))) bd_C_46 (vx_c (va_Nw.use rfl hZ.2.2.1) (vx_c (va_Nw.use rfl hZ.2.2.2.2.1) (vx_c (va_Nw.use rfl hZ.2.2.2.2.2.1) (vx_c (va_Nw.use rfl hZ.2.2.2.2.2.2.1) (vx_n)))))) gd_C_46 hZ.2.2.2.2.2.2.2.2.2.2.2.2.2.2.2.2.2.2.2.2.2.2.2.1 hZ.2.2.2.2.2.2.2.2.2.2.2.2.2.2.2.2.2.2.2.2.2.2.2.2 hS (hl.1.trans hml.symm) dC_node_88 dC_node_91 dC_node_92 dC_node_94 dC_node_97 (fun x h => (htb x h).elim) (Nat.le_of_ble_eq_true rfl) (Nat.le_of_ble_eq_true rfl) (Nat.le_of_ble_eq_true rfl) (Nat.le_of_ble_eq_true rfl) hlocks (fun t _ h1 h2 => ⟨(n_151, f_152), trivial, ⟨hw, (ct_thr hP hS h1 h2).1⟩, (ct_thr hP hS h1 h2).2⟩) hS.2.2 (Nat.le_of_ble_eq_true rfl) (Nat.le_of_ble_eq_true rfl)
          · have hw := hw.2 c153
            exact vx_throwS (own := RC) (cls := "java/lang/IllegalArgumentException") (text := "no such node") (names := ["java/lang/RuntimeException", "java/lang/Exception"]) (ik := 35) (is := 86) (ic := 39) (sa := sa 9) hx hb hl9 hown (by decide +kernel) (by decide +kernel) (hts (.classLink RC 35 "java/lang/IllegalArgumentException") (List.mem_cons_of_mem _ wt_166)) (hts (.initialized "java/lang/IllegalArgumentException") (List.mem_cons_of_mem _ wt_34)) hZ.2.2.2.2.2.2.2.2.2.2.2.2.2.2.2.2.1 (vx_hat (L := vx_atS RC 39 "java/lang/IllegalArgumentException" ["java/lang/RuntimeException", "java/lang/Exception"]) (B := [.castable "java/lang/IllegalArgumentException" "java/lang/IllegalArgumentException", .declares ⟨"java/lang/RuntimeException", "<init>", "(Ljava/lang/String;)V"⟩, .declares ⟨"java/lang/Exception", "<init>", "(Ljava/lang/String;)V"⟩, .declares ⟨"java/lang/Throwable", "<init>", "(Ljava/lang/String;)V"⟩]) (fun w hw => hts w (List.mem_cons_of_mem _ (at_C_39 w hw))) bd_C_39 (vx_c (va_Nw.use rfl hZ.2.1) (vx_c (va_Nw.use rfl hZ.2.2.2.2.1) (vx_c (va_Nw.use rfl hZ.2.2.2.2.2.1) (vx_c (va_Nw.use rfl hZ.2.2.2.2.2.2.1) (vx_n)))))) gd_C_39 hZ.2.2.2.2.2.2.2.2.2.2.2.2.2.2.2.2.2.2.2.2.2.2.2.1 hZ.2.2.2.2.2.2.2.2.2.2.2.2.2.2.2.2.2.2.2.2.2.2.2.2 hS (hl.1.trans hml.symm) dC_node_66 dC_node_69 dC_node_70 dC_node_72 dC_node_75 (fun x h => (htb x h).elim) (Nat.le_of_ble_eq_true rfl) (Nat.le_of_ble_eq_true rfl) (Nat.le_of_ble_eq_true rfl) (Nat.le_of_ble_eq_true rfl) hlocks (fun t _ h1 h2 => ⟨(n_151, f_152), trivial, ⟨hw, (ct_thr hP hS h1 h2).1⟩, (ct_thr hP hS h1 h2).2⟩) hS.2.2 (Nat.le_of_ble_eq_true rfl) (Nat.le_of_ble_eq_true rfl)
  · have hw := hw.2 c4
    exact vx_throwS (own := RC) (cls := "java/lang/IllegalArgumentException") (text := "no such operator") (names := ["java/lang/RuntimeException", "java/lang/Exception"]) (ik := 35) (is := 81) (ic := 39) (sa := sa 8) hx hb hl9 hown (by decide +kernel) (by decide +kernel) (hts (.classLink RC 35 "java/lang/IllegalArgumentException") (List.mem_cons_of_mem _ wt_166)) (hts (.initialized "java/lang/IllegalArgumentException") (List.mem_cons_of_mem _ wt_34)) hZ.2.2.2.2.2.2.2.2.2.2.2.2.2.2.2.1 (vx_hat (L := vx_atS RC 39 "java/lang/IllegalArgumentException" ["java/lang/RuntimeException", "java/lang/Exception"]) (B := [.castable "java/lang/IllegalArgumentException" "java/lang/IllegalArgumentException", .declares ⟨"java/lang/RuntimeException", "<init>", "(Ljava/lang/String;)V"⟩, .declares ⟨"java/lang/Exception", "<init>", "(Ljava/lang/String;)V"⟩, .declares ⟨"java/lang/Throwable", "<init>", "(Ljava/lang/String;)V"⟩]) (fun w hw => hts w (List.mem_cons_of_mem _ (at_C_39 w hw))) bd_C_39 (vx_c (va_Nw.use rfl hZ.2.1) (vx_c (va_Nw.use rfl hZ.2.2.2.2.1) (vx_c (va_Nw.use rfl hZ.2.2.2.2.2.1) (vx_c (va_Nw.use rfl hZ.2.2.2.2.2.2.1) (vx_n)))))) gd_C_39 hZ.2.2.2.2.2.2.2.2.2.2.2.2.2.2.2.2.2.2.2.2.2.2.2.1 hZ.2.2.2.2.2.2.2.2.2.2.2.2.2.2.2.2.2.2.2.2.2.2.2.2 hS (hl.1.trans hml.symm) dC_node_11 dC_node_14 dC_node_15 dC_node_17 dC_node_20 (fun x h => (htb x h).elim) (Nat.le_of_ble_eq_true rfl) (Nat.le_of_ble_eq_true rfl) (Nat.le_of_ble_eq_true rfl) (Nat.le_of_ble_eq_true rfl) hlocks (fun t _ h1 h2 => ⟨(n_2, f_3), trivial, ⟨hw, (ct_thr hP hS h1 h2).1⟩, (ct_thr hP hS h1 h2).2⟩) hS.2.2 (Nat.le_of_ble_eq_true rfl) (Nat.le_of_ble_eq_true rfl)
def wp_C_cost (post : Int32 → ctN → ctF → Prop) (xp : String → ctN → ctF → Prop) (p1 : Int32) (p2 : Int32) (n : ctN) (f : ctF) : Prop := (wp_C_checkPlace (fun (n_2 : ctN) (f_3 : ctF) => wp_C_place (fun (r4 : Int32) (n_5 : ctN) (f_6 : ctF) => vp_in r4 960 ∧ (post (f_6 14 r4.toNatClampNeg) n_5 f_6)) p1 p2 n_2 f_3) xF p1 p2 n f) ∨ (wp_C_checkPlace pFv xp p1 p2 n f)
set_option maxHeartbeats 4000000 in
set_option maxRecDepth 100000 in
theorem met0_C_cost (l : Launch) (dC : Nat → ClassId) (dI : Nat → Nat → Nat) (a : Nat → Nat) (cA : Nat → ClassId) (sa : Nat → Nat) (p1 : Int32) (p2 : Int32) (n : ctN) (f : ctF) (sz : Nat) {post : Int32 → ctN → ctF → Prop} (hw : wp_C_cost post xF p1 p2 n f) : Met l yC_cost wsC_cost ({ frames := 7, cells := 0, slots := 0, locals := 112 } : Room) (ct_Pc dC dI a cA sa [.ref (a 0), .int p1, .int p2] n f sz) (va_Qi (fun (r : Int32) (u : ctN × ctF) => post r u.1 u.2) (ct_B dC dI a cA) (va_A (ctW a cA n f) sz)) 0 0 (va_A (ctW a cA n f) sz) := by
  refine Met.ofW (cc := cC_cost) (maxL := 3) (ret := (some .int)) (by decide) rfl ?_
  intro p e s m args below meth c s₁ B hml hv
  obtain ⟨rfl, hsz, hP, hK, hD0, hZ⟩ := hv
  have hx := B.exec
  have hb := B.bytes
  have hr := B.returns
  have hts := atoms_spec (ws := wsC_cost) B.pre
  have hown : s.vm.findClass RC = some m.cls := findClass_of_methodNamed B.named
  have hlocks := B.notSynchronized
  subst hsz
  have hD := hD0.self (sz := s.heap.size)
  generalize hAe : va_A (ctW a cA n f) s.heap.size = A at hD hZ ⊢
  have hDa : ∀ (n : ctN) (f : ctF), va_D A (ctW a cA n f) := fun _ _ => ct_D hD
  have hA : ∀ q : Nat, s.heap.size ≤ q → A q := fun q h => by rw [← hAe]; exact Or.inr h
  have hS : va_S A s.heap s.heap [] := va_S.rf
  have hl := lv_entry ([.ref (a 0), .int p1, .int p2]) (n := 3) (Nat.le_of_ble_eq_true rfl)
  rw [lg_entry_eq]
  generalize (lg_sl ([.ref (a 0), .int p1, .int p2]) ++ List.replicate (3 - (lg_sl ([.ref (a 0), .int p1, .int p2])).length) Slot.unset).toArray = ls at hl ⊢
  have hl : lv_has ls 3 [(0, .ref (a 0)), (1, .int p1), (2, .int p2)] := hl
  unfold wp_C_cost at hw
  refine lv_aload_n hx hb dC_cost_0 rfl (lv_at hl 0 rfl) ?_
  refine lv_iload_n hx hb dC_cost_1 rfl (lv_at hl 1 rfl) ?_
  refine lv_iload_n hx hb dC_cost_2 rfl (lv_at hl 2 rfl) ?_
  rcases hw with hw | hw
  rotate_left
  · exact ct_v (va_runV (As := [.int p1, .int p2]) (rest := []) ⟨hx, hb, hml, hown, hts⟩ (met0_C_checkPlace l dC dI a cA sa p1 p2 n f _ hw) (cwV 2 hts (wb_V wt_377 wt_379 wt_12 wt_27 wt_380) rfl rfl rfl (by decide +kernel) ⟨Nat.le_of_ble_eq_true rfl, Nat.le_of_ble_eq_true rfl⟩) (ct_preV hK hP (hDa _ _) hZ hS hA (va_recv hK hP (ci := 0) (q0 := 0) rfl rfl)) rfl rfl hl.1 rfl (lv_room (Nat.le_of_ble_eq_true rfl)) dC_cost_3 ⟨Nat.le_of_ble_eq_true rfl, Nat.le_of_ble_eq_true rfl⟩) (hDa _ _) hS hA (fun _ _ _ _ hw _ _ => False.elim hw)
  refine ct_v (va_runV (As := [.int p1, .int p2]) (rest := []) ⟨hx, hb, hml, hown, hts⟩ (met0_C_checkPlace l dC dI a cA sa p1 p2 n f _ hw) (cwV 2 hts (wb_V wt_377 wt_379 wt_12 wt_27 wt_380) rfl rfl rfl (by decide +kernel) ⟨Nat.le_of_ble_eq_true rfl, Nat.le_of_ble_eq_true rfl⟩) (ct_preV hK hP (hDa _ _) hZ hS hA (va_recv hK hP (ci := 0) (q0 := 0) rfl rfl)) rfl rfl hl.1 rfl (lv_room (Nat.le_of_ble_eq_true rfl)) dC_cost_3 ⟨Nat.le_of_ble_eq_true rfl, Nat.le_of_ble_eq_true rfl⟩) (hDa _ _) hS hA (fun n_2 f_3 H locs hw hP hS => ?_)
  refine lv_aload_n hx hb dC_cost_6 rfl (lv_at hl 0 rfl) ?_
  refine va_get (D := (dC, dI)) (ci := 0) (v := .ref (a 2)) (C := RC) (T := TC) (N := 2) hx hb hts (fun w h => List.mem_cons_of_mem _ (inC w h)) hown hK hP 0 rfl rfl 1 (by decide) (hts (.fieldLink RC 21 "CoverTrees" "forest" "LCoverTrees$Forest;") (List.mem_cons_of_mem _ wt_135)) (fun _ h9 => h9) rfl dC_cost_7 ?_
  refine va_get (D := (dC, dI)) (ci := 2) (v := .ref (a 14)) (C := RF) (T := TF) (N := 11) hx hb hts (fun w h => List.mem_cons_of_mem _ (inF w h)) hown hK hP 2 rfl rfl 7 (by decide) (hts (.fieldLink RC 108 "CoverTrees$Forest" "cost" "[I") (List.mem_cons_of_mem _ wt_104)) (fun _ h9 => h9) rfl dC_cost_10 ?_
  refine lv_iload_n hx hb dC_cost_13 rfl (lv_at hl 1 rfl) ?_
  refine lv_iload_n hx hb dC_cost_14 rfl (lv_at hl 2 rfl) ?_
  refine ct_i (va_runS (As := [.int p1, .int p2]) (rest := [.ref (a 14)]) ⟨hx, hb, hml, hown, hts⟩ (met_C_place l dC dI a cA sa p1 p2 n_2 f_3 _ hw) (cwS 2 hts (wb_S wt_382 wt_315 wt_27 wt_316) rfl rfl rfl (by decide +kernel) ⟨Nat.le_of_ble_eq_true rfl, Nat.le_of_ble_eq_true rfl⟩) (ct_pre hK hP (hDa _ _) hZ hS hA) rfl rfl hl.1 rfl (lv_room (Nat.le_of_ble_eq_true rfl)) dC_cost_15 ⟨Nat.le_of_ble_eq_true rfl, Nat.le_of_ble_eq_true rfl⟩) (hDa _ _) hS hA (fun r4 n_5 f_6 H locs hw hP hS => ?_)
  obtain ⟨hi7, hw⟩ := hw
  refine va_iald hx hb hK hP 14 11 rfl rfl hi7 dC_cost_18 ?_
  exact W.iret (v := (f_6 14 r4.toNatClampNeg)) hx hb hr (fun t ht hW => ⟨⟨(f_6 14 r4.toNatClampNeg), (n_5, f_6), rfl, hw, ct_mkB ht hP⟩, hS.F ht⟩) hS.2.2 dC_cost_19
set_option maxHeartbeats 4000000 in
set_option maxRecDepth 100000 in
theorem metx_C_cost (l : Launch) (hl9 : l.stackTraces = false) (dC : Nat → ClassId) (dI : Nat → Nat → Nat) (a : Nat → Nat) (cA : Nat → ClassId) (sa : Nat → Nat) (p1 : Int32) (p2 : Int32) (n : ctN) (f : ctF) (sz : Nat) {xp : String → ctN → ctF → Prop} (hw : wp_C_cost pFi xp p1 p2 n f) : vx_Met l yC_cost wsC_cost ({ frames := 7, cells := 1, slots := 6, locals := 112 } : Room) (ct_Pc dC dI a cA sa [.ref (a 0), .int p1, .int p2] n f sz) (va_Qi (fun (r : Int32) (u : ctN × ctF) => pFi r u.1 u.2) (ct_B dC dI a cA) (va_A (ctW a cA n f) sz)) (vx_X (fun (_ : ctN × ctF) => True) (fun E u t => xp E u.1 u.2 ∧ ct_B dC dI a cA u t) (va_A (ctW a cA n f) sz)) 1 6 (va_A (ctW a cA n f) sz) := by
  refine vx_ofW (cc := cC_cost) (maxL := 3) (ret := (some .int)) (by decide) rfl ?_
  intro p e s m args below meth c s₁ B hml htb hv
  obtain ⟨rfl, hsz, hP, hK, hD0, hZ⟩ := hv
  have hx := B.exec
  have hb := B.bytes
  have hr := B.returns
  have hts := atoms_spec (ws := wsC_cost) B.pre
  have hown : s.vm.findClass RC = some m.cls := findClass_of_methodNamed B.named
  have hlocks := B.notSynchronized
  subst hsz
  have hD := hD0.self (sz := s.heap.size)
  generalize hAe : va_A (ctW a cA n f) s.heap.size = A at hD hZ ⊢
  have hDa : ∀ (n : ctN) (f : ctF), va_D A (ctW a cA n f) := fun _ _ => ct_D hD
  have hA : ∀ q : Nat, s.heap.size ≤ q → A q := fun q h => by rw [← hAe]; exact Or.inr h
  have hS : va_S A s.heap s.heap [] := va_S.rf
  have hl := lv_entry ([.ref (a 0), .int p1, .int p2]) (n := 3) (Nat.le_of_ble_eq_true rfl)
  rw [lg_entry_eq]
  generalize (lg_sl ([.ref (a 0), .int p1, .int p2]) ++ List.replicate (3 - (lg_sl ([.ref (a 0), .int p1, .int p2])).length) Slot.unset).toArray = ls at hl ⊢
  have hl : lv_has ls 3 [(0, .ref (a 0)), (1, .int p1), (2, .int p2)] := hl
  unfold wp_C_cost at hw
  refine lv_aload_n hx hb dC_cost_0 rfl (lv_at hl 0 rfl) ?_
  refine lv_iload_n hx hb dC_cost_1 rfl (lv_at hl 1 rfl) ?_
  refine lv_iload_n hx hb dC_cost_2 rfl (lv_at hl 2 rfl) ?_
  rcases hw with hw | hw
  rotate_left
  · exact ct_xv (vx_runV (As := [.int p1, .int p2]) (rest := []) ⟨hx, hb, hml, hown, hts⟩ (metx_C_checkPlace l hl9 dC dI a cA sa p1 p2 n f _ hw) (cwV 2 hts (wb_V wt_377 wt_379 wt_12 wt_27 wt_380) rfl rfl rfl (by decide +kernel) ⟨Nat.le_of_ble_eq_true rfl, Nat.le_of_ble_eq_true rfl⟩) (ct_preV hK hP (hDa _ _) hZ hS hA (va_recv hK hP (ci := 0) (q0 := 0) rfl rfl)) rfl rfl hl.1 rfl (lv_room (Nat.le_of_ble_eq_true rfl)) dC_cost_3 ⟨Nat.le_of_ble_eq_true rfl, Nat.le_of_ble_eq_true rfl⟩) (hDa _ _) hS hA (fun E ce q9 n' f' H locs hw hP hS h1 h2 h3 => by exact vx_out (fun x h => (htb x h).elim) hlocks h1 h2 h3 (fun t ht hvm => ⟨(n', f'), trivial, ⟨hw, ct_mkB ht hP⟩, hS.F ht⟩) hS.2.2 (Nat.le_of_ble_eq_true rfl) (Nat.le_of_ble_eq_true rfl)) (fun _ _ _ _ hw _ _ => False.elim hw)
  refine ct_v (va_runV (As := [.int p1, .int p2]) (rest := []) ⟨hx, hb, hml, hown, hts⟩ (met0_C_checkPlace l dC dI a cA sa p1 p2 n f _ hw) (cwV 2 hts (wb_V wt_377 wt_379 wt_12 wt_27 wt_380) rfl rfl rfl (by decide +kernel) ⟨Nat.le_of_ble_eq_true rfl, Nat.le_of_ble_eq_true rfl⟩) (ct_preV hK hP (hDa _ _) hZ hS hA (va_recv hK hP (ci := 0) (q0 := 0) rfl rfl)) rfl rfl hl.1 rfl (lv_room (Nat.le_of_ble_eq_true rfl)) dC_cost_3 ⟨Nat.le_of_ble_eq_true rfl, Nat.le_of_ble_eq_true rfl⟩) (hDa _ _) hS hA (fun n_2 f_3 H locs hw hP hS => ?_)
  refine lv_aload_n hx hb dC_cost_6 rfl (lv_at hl 0 rfl) ?_
  refine va_get (D := (dC, dI)) (ci := 0) (v := .ref (a 2)) (C := RC) (T := TC) (N := 2) hx hb hts (fun w h => List.mem_cons_of_mem _ (inC w h)) hown hK hP 0 rfl rfl 1 (by decide) (hts (.fieldLink RC 21 "CoverTrees" "forest" "LCoverTrees$Forest;") (List.mem_cons_of_mem _ wt_135)) (fun _ h9 => h9) rfl dC_cost_7 ?_
  refine va_get (D := (dC, dI)) (ci := 2) (v := .ref (a 14)) (C := RF) (T := TF) (N := 11) hx hb hts (fun w h => List.mem_cons_of_mem _ (inF w h)) hown hK hP 2 rfl rfl 7 (by decide) (hts (.fieldLink RC 108 "CoverTrees$Forest" "cost" "[I") (List.mem_cons_of_mem _ wt_104)) (fun _ h9 => h9) rfl dC_cost_10 ?_
  refine lv_iload_n hx hb dC_cost_13 rfl (lv_at hl 1 rfl) ?_
  refine lv_iload_n hx hb dC_cost_14 rfl (lv_at hl 2 rfl) ?_
  refine ct_i (va_runS (As := [.int p1, .int p2]) (rest := [.ref (a 14)]) ⟨hx, hb, hml, hown, hts⟩ (met_C_place l dC dI a cA sa p1 p2 n_2 f_3 _ hw) (cwS 2 hts (wb_S wt_382 wt_315 wt_27 wt_316) rfl rfl rfl (by decide +kernel) ⟨Nat.le_of_ble_eq_true rfl, Nat.le_of_ble_eq_true rfl⟩) (ct_pre hK hP (hDa _ _) hZ hS hA) rfl rfl hl.1 rfl (lv_room (Nat.le_of_ble_eq_true rfl)) dC_cost_15 ⟨Nat.le_of_ble_eq_true rfl, Nat.le_of_ble_eq_true rfl⟩) (hDa _ _) hS hA (fun r4 n_5 f_6 H locs hw hP hS => ?_)
  obtain ⟨hi7, hw⟩ := hw
  refine va_iald hx hb hK hP 14 11 rfl rfl hi7 dC_cost_18 ?_
  exact False.elim hw
def wp_C_rule (post : Int32 → ctN → ctF → Prop) (xp : String → ctN → ctF → Prop) (p1 : Int32) (p2 : Int32) (n : ctN) (f : ctF) : Prop := (wp_C_checkPlace (fun (n_2 : ctN) (f_3 : ctF) => wp_C_place (fun (r4 : Int32) (n_5 : ctN) (f_6 : ctF) => vp_in r4 960 ∧ (post (f_6 15 r4.toNatClampNeg) n_5 f_6)) p1 p2 n_2 f_3) xF p1 p2 n f) ∨ (wp_C_checkPlace pFv xp p1 p2 n f)
set_option maxHeartbeats 4000000 in
set_option maxRecDepth 100000 in
theorem met0_C_rule (l : Launch) (dC : Nat → ClassId) (dI : Nat → Nat → Nat) (a : Nat → Nat) (cA : Nat → ClassId) (sa : Nat → Nat) (p1 : Int32) (p2 : Int32) (n : ctN) (f : ctF) (sz : Nat) {post : Int32 → ctN → ctF → Prop} (hw : wp_C_rule post xF p1 p2 n f) : Met l yC_rule wsC_rule ({ frames := 7, cells := 0, slots := 0, locals := 112 } : Room) (ct_Pc dC dI a cA sa [.ref (a 0), .int p1, .int p2] n f sz) (va_Qi (fun (r : Int32) (u : ctN × ctF) => post r u.1 u.2) (ct_B dC dI a cA) (va_A (ctW a cA n f) sz)) 0 0 (va_A (ctW a cA n f) sz) := by
  refine Met.ofW (cc := cC_rule) (maxL := 3) (ret := (some .int)) (by decide) rfl ?_
  intro p e s m args below meth c s₁ B hml hv
  obtain ⟨rfl, hsz, hP, hK, hD0, hZ⟩ := hv
  have hx := B.exec
  have hb := B.bytes
  have hr := B.returns
  have hts := atoms_spec (ws := wsC_rule) B.pre
  have hown : s.vm.findClass RC = some m.cls := findClass_of_methodNamed B.named
  have hlocks := B.notSynchronized
  subst hsz
  have hD := hD0.self (sz := s.heap.size)
  generalize hAe : va_A (ctW a cA n f) s.heap.size = A at hD hZ ⊢
  have hDa : ∀ (n : ctN) (f : ctF), va_D A (ctW a cA n f) := fun _ _ => ct_D hD
  have hA : ∀ q : Nat, s.heap.size ≤ q → A q := fun q h => by rw [← hAe]; exact Or.inr h
  have hS : va_S A s.heap s.heap [] := va_S.rf
  have hl := lv_entry ([.ref (a 0), .int p1, .int p2]) (n := 3) (Nat.le_of_ble_eq_true rfl)
  rw [lg_entry_eq]
  generalize (lg_sl ([.ref (a 0), .int p1, .int p2]) ++ List.replicate (3 - (lg_sl ([.ref (a 0), .int p1, .int p2])).length) Slot.unset).toArray = ls at hl ⊢
  have hl : lv_has ls 3 [(0, .ref (a 0)), (1, .int p1), (2, .int p2)] := hl
  unfold wp_C_rule at hw
  refine lv_aload_n hx hb dC_rule_0 rfl (lv_at hl 0 rfl) ?_
  refine lv_iload_n hx hb dC_rule_1 rfl (lv_at hl 1 rfl) ?_
  refine lv_iload_n hx hb dC_rule_2 rfl (lv_at hl 2 rfl) ?_
  rcases hw with hw | hw
  rotate_left
  · exact ct_v (va_runV (As := [.int p1, .int p2]) (rest := []) ⟨hx, hb, hml, hown, hts⟩ (met0_C_checkPlace l dC dI a cA sa p1 p2 n f _ hw) (cwV 2 hts (wb_V wt_377 wt_379 wt_12 wt_27 wt_380) rfl rfl rfl (by decide +kernel) ⟨Nat.le_of_ble_eq_true rfl, Nat.le_of_ble_eq_true rfl⟩) (ct_preV hK hP (hDa _ _) hZ hS hA (va_recv hK hP (ci := 0) (q0 := 0) rfl rfl)) rfl rfl hl.1 rfl (lv_room (Nat.le_of_ble_eq_true rfl)) dC_rule_3 ⟨Nat.le_of_ble_eq_true rfl, Nat.le_of_ble_eq_true rfl⟩) (hDa _ _) hS hA (fun _ _ _ _ hw _ _ => False.elim hw)
  refine ct_v (va_runV (As := [.int p1, .int p2]) (rest := []) ⟨hx, hb, hml, hown, hts⟩ (met0_C_checkPlace l dC dI a cA sa p1 p2 n f _ hw) (cwV 2 hts (wb_V wt_377 wt_379 wt_12 wt_27 wt_380) rfl rfl rfl (by decide +kernel) ⟨Nat.le_of_ble_eq_true rfl, Nat.le_of_ble_eq_true rfl⟩) (ct_preV hK hP (hDa _ _) hZ hS hA (va_recv hK hP (ci := 0) (q0 := 0) rfl rfl)) rfl rfl hl.1 rfl (lv_room (Nat.le_of_ble_eq_true rfl)) dC_rule_3 ⟨Nat.le_of_ble_eq_true rfl, Nat.le_of_ble_eq_true rfl⟩) (hDa _ _) hS hA (fun n_2 f_3 H locs hw hP hS => ?_)
  refine lv_aload_n hx hb dC_rule_6 rfl (lv_at hl 0 rfl) ?_
  refine va_get (D := (dC, dI)) (ci := 0) (v := .ref (a 2)) (C := RC) (T := TC) (N := 2) hx hb hts (fun w h => List.mem_cons_of_mem _ (inC w h)) hown hK hP 0 rfl rfl 1 (by decide) (hts (.fieldLink RC 21 "CoverTrees" "forest" "LCoverTrees$Forest;") (List.mem_cons_of_mem _ wt_135)) (fun _ h9 => h9) rfl dC_rule_7 ?_
  refine va_get (D := (dC, dI)) (ci := 2) (v := .ref (a 15)) (C := RF) (T := TF) (N := 11) hx hb hts (fun w h => List.mem_cons_of_mem _ (inF w h)) hown hK hP 2 rfl rfl 8 (by decide) (hts (.fieldLink RC 115 "CoverTrees$Forest" "rule" "[I") (List.mem_cons_of_mem _ wt_106)) (fun _ h9 => h9) rfl dC_rule_10 ?_
  refine lv_iload_n hx hb dC_rule_13 rfl (lv_at hl 1 rfl) ?_
  refine lv_iload_n hx hb dC_rule_14 rfl (lv_at hl 2 rfl) ?_
  refine ct_i (va_runS (As := [.int p1, .int p2]) (rest := [.ref (a 15)]) ⟨hx, hb, hml, hown, hts⟩ (met_C_place l dC dI a cA sa p1 p2 n_2 f_3 _ hw) (cwS 2 hts (wb_S wt_382 wt_315 wt_27 wt_316) rfl rfl rfl (by decide +kernel) ⟨Nat.le_of_ble_eq_true rfl, Nat.le_of_ble_eq_true rfl⟩) (ct_pre hK hP (hDa _ _) hZ hS hA) rfl rfl hl.1 rfl (lv_room (Nat.le_of_ble_eq_true rfl)) dC_rule_15 ⟨Nat.le_of_ble_eq_true rfl, Nat.le_of_ble_eq_true rfl⟩) (hDa _ _) hS hA (fun r4 n_5 f_6 H locs hw hP hS => ?_)
  obtain ⟨hi7, hw⟩ := hw
  refine va_iald hx hb hK hP 15 12 rfl rfl hi7 dC_rule_18 ?_
  exact W.iret (v := (f_6 15 r4.toNatClampNeg)) hx hb hr (fun t ht hW => ⟨⟨(f_6 15 r4.toNatClampNeg), (n_5, f_6), rfl, hw, ct_mkB ht hP⟩, hS.F ht⟩) hS.2.2 dC_rule_19
set_option maxHeartbeats 4000000 in
set_option maxRecDepth 100000 in
theorem metx_C_rule (l : Launch) (hl9 : l.stackTraces = false) (dC : Nat → ClassId) (dI : Nat → Nat → Nat) (a : Nat → Nat) (cA : Nat → ClassId) (sa : Nat → Nat) (p1 : Int32) (p2 : Int32) (n : ctN) (f : ctF) (sz : Nat) {xp : String → ctN → ctF → Prop} (hw : wp_C_rule pFi xp p1 p2 n f) : vx_Met l yC_rule wsC_rule ({ frames := 7, cells := 1, slots := 6, locals := 112 } : Room) (ct_Pc dC dI a cA sa [.ref (a 0), .int p1, .int p2] n f sz) (va_Qi (fun (r : Int32) (u : ctN × ctF) => pFi r u.1 u.2) (ct_B dC dI a cA) (va_A (ctW a cA n f) sz)) (vx_X (fun (_ : ctN × ctF) => True) (fun E u t => xp E u.1 u.2 ∧ ct_B dC dI a cA u t) (va_A (ctW a cA n f) sz)) 1 6 (va_A (ctW a cA n f) sz) := by
  refine vx_ofW (cc := cC_rule) (maxL := 3) (ret := (some .int)) (by decide) rfl ?_
  intro p e s m args below meth c s₁ B hml htb hv
  obtain ⟨rfl, hsz, hP, hK, hD0, hZ⟩ := hv
  have hx := B.exec
  have hb := B.bytes
  have hr := B.returns
  have hts := atoms_spec (ws := wsC_rule) B.pre
  have hown : s.vm.findClass RC = some m.cls := findClass_of_methodNamed B.named
  have hlocks := B.notSynchronized
  subst hsz
  have hD := hD0.self (sz := s.heap.size)
  generalize hAe : va_A (ctW a cA n f) s.heap.size = A at hD hZ ⊢
  have hDa : ∀ (n : ctN) (f : ctF), va_D A (ctW a cA n f) := fun _ _ => ct_D hD
  have hA : ∀ q : Nat, s.heap.size ≤ q → A q := fun q h => by rw [← hAe]; exact Or.inr h
  have hS : va_S A s.heap s.heap [] := va_S.rf
  have hl := lv_entry ([.ref (a 0), .int p1, .int p2]) (n := 3) (Nat.le_of_ble_eq_true rfl)
  rw [lg_entry_eq]
  generalize (lg_sl ([.ref (a 0), .int p1, .int p2]) ++ List.replicate (3 - (lg_sl ([.ref (a 0), .int p1, .int p2])).length) Slot.unset).toArray = ls at hl ⊢
  have hl : lv_has ls 3 [(0, .ref (a 0)), (1, .int p1), (2, .int p2)] := hl
  unfold wp_C_rule at hw
  refine lv_aload_n hx hb dC_rule_0 rfl (lv_at hl 0 rfl) ?_
  refine lv_iload_n hx hb dC_rule_1 rfl (lv_at hl 1 rfl) ?_
  refine lv_iload_n hx hb dC_rule_2 rfl (lv_at hl 2 rfl) ?_
  rcases hw with hw | hw
  rotate_left
  · exact ct_xv (vx_runV (As := [.int p1, .int p2]) (rest := []) ⟨hx, hb, hml, hown, hts⟩ (metx_C_checkPlace l hl9 dC dI a cA sa p1 p2 n f _ hw) (cwV 2 hts (wb_V wt_377 wt_379 wt_12 wt_27 wt_380) rfl rfl rfl (by decide +kernel) ⟨Nat.le_of_ble_eq_true rfl, Nat.le_of_ble_eq_true rfl⟩) (ct_preV hK hP (hDa _ _) hZ hS hA (va_recv hK hP (ci := 0) (q0 := 0) rfl rfl)) rfl rfl hl.1 rfl (lv_room (Nat.le_of_ble_eq_true rfl)) dC_rule_3 ⟨Nat.le_of_ble_eq_true rfl, Nat.le_of_ble_eq_true rfl⟩) (hDa _ _) hS hA (fun E ce q9 n' f' H locs hw hP hS h1 h2 h3 => by exact vx_out (fun x h => (htb x h).elim) hlocks h1 h2 h3 (fun t ht hvm => ⟨(n', f'), trivial, ⟨hw, ct_mkB ht hP⟩, hS.F ht⟩) hS.2.2 (Nat.le_of_ble_eq_true rfl) (Nat.le_of_ble_eq_true rfl)) (fun _ _ _ _ hw _ _ => False.elim hw)
  refine ct_v (va_runV (As := [.int p1, .int p2]) (rest := []) ⟨hx, hb, hml, hown, hts⟩ (met0_C_checkPlace l dC dI a cA sa p1 p2 n f _ hw) (cwV 2 hts (wb_V wt_377 wt_379 wt_12 wt_27 wt_380) rfl rfl rfl (by decide +kernel) ⟨Nat.le_of_ble_eq_true rfl, Nat.le_of_ble_eq_true rfl⟩) (ct_preV hK hP (hDa _ _) hZ hS hA (va_recv hK hP (ci := 0) (q0 := 0) rfl rfl)) rfl rfl hl.1 rfl (lv_room (Nat.le_of_ble_eq_true rfl)) dC_rule_3 ⟨Nat.le_of_ble_eq_true rfl, Nat.le_of_ble_eq_true rfl⟩) (hDa _ _) hS hA (fun n_2 f_3 H locs hw hP hS => ?_)
  refine lv_aload_n hx hb dC_rule_6 rfl (lv_at hl 0 rfl) ?_
  refine va_get (D := (dC, dI)) (ci := 0) (v := .ref (a 2)) (C := RC) (T := TC) (N := 2) hx hb hts (fun w h => List.mem_cons_of_mem _ (inC w h)) hown hK hP 0 rfl rfl 1 (by decide) (hts (.fieldLink RC 21 "CoverTrees" "forest" "LCoverTrees$Forest;") (List.mem_cons_of_mem _ wt_135)) (fun _ h9 => h9) rfl dC_rule_7 ?_
  refine va_get (D := (dC, dI)) (ci := 2) (v := .ref (a 15)) (C := RF) (T := TF) (N := 11) hx hb hts (fun w h => List.mem_cons_of_mem _ (inF w h)) hown hK hP 2 rfl rfl 8 (by decide) (hts (.fieldLink RC 115 "CoverTrees$Forest" "rule" "[I") (List.mem_cons_of_mem _ wt_106)) (fun _ h9 => h9) rfl dC_rule_10 ?_
  refine lv_iload_n hx hb dC_rule_13 rfl (lv_at hl 1 rfl) ?_
  refine lv_iload_n hx hb dC_rule_14 rfl (lv_at hl 2 rfl) ?_
  refine ct_i (va_runS (As := [.int p1, .int p2]) (rest := [.ref (a 15)]) ⟨hx, hb, hml, hown, hts⟩ (met_C_place l dC dI a cA sa p1 p2 n_2 f_3 _ hw) (cwS 2 hts (wb_S wt_382 wt_315 wt_27 wt_316) rfl rfl rfl (by decide +kernel) ⟨Nat.le_of_ble_eq_true rfl, Nat.le_of_ble_eq_true rfl⟩) (ct_pre hK hP (hDa _ _) hZ hS hA) rfl rfl hl.1 rfl (lv_room (Nat.le_of_ble_eq_true rfl)) dC_rule_15 ⟨Nat.le_of_ble_eq_true rfl, Nat.le_of_ble_eq_true rfl⟩) (hDa _ _) hS hA (fun r4 n_5 f_6 H locs hw hP hS => ?_)
  obtain ⟨hi7, hw⟩ := hw
  refine va_iald hx hb hK hP 15 12 rfl rfl hi7 dC_rule_18 ?_
  exact False.elim hw
def wp_C_size (post : Int32 → ctN → ctF → Prop) (xp : String → ctN → ctF → Prop) (p1 : Int32) (p2 : Int32) (n : ctN) (f : ctF) : Prop := (wp_C_checkPlace (fun (n_2 : ctN) (f_3 : ctF) => (wp_C_coverSize (fun (r4 : Int32) (n_5 : ctN) (f_6 : ctF) => post r4 n_5 f_6) xF p1 p2 n_2 f_3) ∨ (wp_C_coverSize pFi xp p1 p2 n_2 f_3)) xF p1 p2 n f) ∨ (wp_C_checkPlace pFv xp p1 p2 n f)
set_option maxHeartbeats 4000000 in
set_option maxRecDepth 100000 in
theorem met0_C_size (l : Launch) (dC : Nat → ClassId) (dI : Nat → Nat → Nat) (a : Nat → Nat) (cA : Nat → ClassId) (sa : Nat → Nat) (p1 : Int32) (p2 : Int32) (n : ctN) (f : ctF) (sz : Nat) {post : Int32 → ctN → ctF → Prop} (hw : wp_C_size post xF p1 p2 n f) : Met l yC_size wsC_size ({ frames := 7, cells := 0, slots := 0, locals := 113 } : Room) (ct_Pc dC dI a cA sa [.ref (a 0), .int p1, .int p2] n f sz) (va_Qi (fun (r : Int32) (u : ctN × ctF) => post r u.1 u.2) (ct_B dC dI a cA) (va_A (ctW a cA n f) sz)) 0 0 (va_A (ctW a cA n f) sz) := by
  refine Met.ofW (cc := cC_size) (maxL := 3) (ret := (some .int)) (by decide) rfl ?_
  intro p e s m args below meth c s₁ B hml hv
  obtain ⟨rfl, hsz, hP, hK, hD0, hZ⟩ := hv
  have hx := B.exec
  have hb := B.bytes
  have hr := B.returns
  have hts := atoms_spec (ws := wsC_size) B.pre
  have hown : s.vm.findClass RC = some m.cls := findClass_of_methodNamed B.named
  have hlocks := B.notSynchronized
  subst hsz
  have hD := hD0.self (sz := s.heap.size)
  generalize hAe : va_A (ctW a cA n f) s.heap.size = A at hD hZ ⊢
  have hDa : ∀ (n : ctN) (f : ctF), va_D A (ctW a cA n f) := fun _ _ => ct_D hD
  have hA : ∀ q : Nat, s.heap.size ≤ q → A q := fun q h => by rw [← hAe]; exact Or.inr h
  have hS : va_S A s.heap s.heap [] := va_S.rf
  have hl := lv_entry ([.ref (a 0), .int p1, .int p2]) (n := 3) (Nat.le_of_ble_eq_true rfl)
  rw [lg_entry_eq]
  generalize (lg_sl ([.ref (a 0), .int p1, .int p2]) ++ List.replicate (3 - (lg_sl ([.ref (a 0), .int p1, .int p2])).length) Slot.unset).toArray = ls at hl ⊢
  have hl : lv_has ls 3 [(0, .ref (a 0)), (1, .int p1), (2, .int p2)] := hl
  unfold wp_C_size at hw
  refine lv_aload_n hx hb dC_size_0 rfl (lv_at hl 0 rfl) ?_
  refine lv_iload_n hx hb dC_size_1 rfl (lv_at hl 1 rfl) ?_
  refine lv_iload_n hx hb dC_size_2 rfl (lv_at hl 2 rfl) ?_
  rcases hw with hw | hw
  rotate_left
  · exact ct_v (va_runV (As := [.int p1, .int p2]) (rest := []) ⟨hx, hb, hml, hown, hts⟩ (met0_C_checkPlace l dC dI a cA sa p1 p2 n f _ hw) (cwV 2 hts (wb_V wt_377 wt_379 wt_12 wt_27 wt_380) rfl rfl rfl (by decide +kernel) ⟨Nat.le_of_ble_eq_true rfl, Nat.le_of_ble_eq_true rfl⟩) (ct_preV hK hP (hDa _ _) hZ hS hA (va_recv hK hP (ci := 0) (q0 := 0) rfl rfl)) rfl rfl hl.1 rfl (lv_room (Nat.le_of_ble_eq_true rfl)) dC_size_3 ⟨Nat.le_of_ble_eq_true rfl, Nat.le_of_ble_eq_true rfl⟩) (hDa _ _) hS hA (fun _ _ _ _ hw _ _ => False.elim hw)
  refine ct_v (va_runV (As := [.int p1, .int p2]) (rest := []) ⟨hx, hb, hml, hown, hts⟩ (met0_C_checkPlace l dC dI a cA sa p1 p2 n f _ hw) (cwV 2 hts (wb_V wt_377 wt_379 wt_12 wt_27 wt_380) rfl rfl rfl (by decide +kernel) ⟨Nat.le_of_ble_eq_true rfl, Nat.le_of_ble_eq_true rfl⟩) (ct_preV hK hP (hDa _ _) hZ hS hA (va_recv hK hP (ci := 0) (q0 := 0) rfl rfl)) rfl rfl hl.1 rfl (lv_room (Nat.le_of_ble_eq_true rfl)) dC_size_3 ⟨Nat.le_of_ble_eq_true rfl, Nat.le_of_ble_eq_true rfl⟩) (hDa _ _) hS hA (fun n_2 f_3 H locs hw hP hS => ?_)
  refine lv_aload_n hx hb dC_size_6 rfl (lv_at hl 0 rfl) ?_
  refine lv_iload_n hx hb dC_size_7 rfl (lv_at hl 1 rfl) ?_
  refine lv_iload_n hx hb dC_size_8 rfl (lv_at hl 2 rfl) ?_
  rcases hw with hw | hw
  rotate_left
  · exact ct_i (va_runV (As := [.int p1, .int p2]) (rest := []) ⟨hx, hb, hml, hown, hts⟩ (met0_C_coverSize l dC dI a cA sa p1 p2 n_2 f_3 _ hw) (cwV 2 hts (wb_V wt_397 wt_399 wt_13 wt_27 wt_400) rfl rfl rfl (by decide +kernel) ⟨Nat.le_of_ble_eq_true rfl, Nat.le_of_ble_eq_true rfl⟩) (ct_preV hK hP (hDa _ _) hZ hS hA (va_recv hK hP (ci := 0) (q0 := 0) rfl rfl)) rfl rfl hl.1 rfl (lv_room (Nat.le_of_ble_eq_true rfl)) dC_size_9 ⟨Nat.le_of_ble_eq_true rfl, Nat.le_of_ble_eq_true rfl⟩) (hDa _ _) hS hA (fun _ _ _ _ _ hw _ _ => False.elim hw)
  refine ct_i (va_runV (As := [.int p1, .int p2]) (rest := []) ⟨hx, hb, hml, hown, hts⟩ (met0_C_coverSize l dC dI a cA sa p1 p2 n_2 f_3 _ hw) (cwV 2 hts (wb_V wt_397 wt_399 wt_13 wt_27 wt_400) rfl rfl rfl (by decide +kernel) ⟨Nat.le_of_ble_eq_true rfl, Nat.le_of_ble_eq_true rfl⟩) (ct_preV hK hP (hDa _ _) hZ hS hA (va_recv hK hP (ci := 0) (q0 := 0) rfl rfl)) rfl rfl hl.1 rfl (lv_room (Nat.le_of_ble_eq_true rfl)) dC_size_9 ⟨Nat.le_of_ble_eq_true rfl, Nat.le_of_ble_eq_true rfl⟩) (hDa _ _) hS hA (fun r4 n_5 f_6 H locs hw hP hS => ?_)
  exact W.iret (v := r4) hx hb hr (fun t ht hW => ⟨⟨r4, (n_5, f_6), rfl, hw, ct_mkB ht hP⟩, hS.F ht⟩) hS.2.2 dC_size_12
set_option maxHeartbeats 4000000 in
set_option maxRecDepth 100000 in
theorem metx_C_size (l : Launch) (hl9 : l.stackTraces = false) (dC : Nat → ClassId) (dI : Nat → Nat → Nat) (a : Nat → Nat) (cA : Nat → ClassId) (sa : Nat → Nat) (p1 : Int32) (p2 : Int32) (n : ctN) (f : ctF) (sz : Nat) {xp : String → ctN → ctF → Prop} (hw : wp_C_size pFi xp p1 p2 n f) : vx_Met l yC_size wsC_size ({ frames := 7, cells := 1, slots := 6, locals := 113 } : Room) (ct_Pc dC dI a cA sa [.ref (a 0), .int p1, .int p2] n f sz) (va_Qi (fun (r : Int32) (u : ctN × ctF) => pFi r u.1 u.2) (ct_B dC dI a cA) (va_A (ctW a cA n f) sz)) (vx_X (fun (_ : ctN × ctF) => True) (fun E u t => xp E u.1 u.2 ∧ ct_B dC dI a cA u t) (va_A (ctW a cA n f) sz)) 1 6 (va_A (ctW a cA n f) sz) := by
  refine vx_ofW (cc := cC_size) (maxL := 3) (ret := (some .int)) (by decide) rfl ?_
  intro p e s m args below meth c s₁ B hml htb hv
  obtain ⟨rfl, hsz, hP, hK, hD0, hZ⟩ := hv
  have hx := B.exec
  have hb := B.bytes
  have hr := B.returns
  have hts := atoms_spec (ws := wsC_size) B.pre
  have hown : s.vm.findClass RC = some m.cls := findClass_of_methodNamed B.named
  have hlocks := B.notSynchronized
  subst hsz
  have hD := hD0.self (sz := s.heap.size)
  generalize hAe : va_A (ctW a cA n f) s.heap.size = A at hD hZ ⊢
  have hDa : ∀ (n : ctN) (f : ctF), va_D A (ctW a cA n f) := fun _ _ => ct_D hD
  have hA : ∀ q : Nat, s.heap.size ≤ q → A q := fun q h => by rw [← hAe]; exact Or.inr h
  have hS : va_S A s.heap s.heap [] := va_S.rf
  have hl := lv_entry ([.ref (a 0), .int p1, .int p2]) (n := 3) (Nat.le_of_ble_eq_true rfl)
  rw [lg_entry_eq]
  generalize (lg_sl ([.ref (a 0), .int p1, .int p2]) ++ List.replicate (3 - (lg_sl ([.ref (a 0), .int p1, .int p2])).length) Slot.unset).toArray = ls at hl ⊢
  have hl : lv_has ls 3 [(0, .ref (a 0)), (1, .int p1), (2, .int p2)] := hl
  unfold wp_C_size at hw
  refine lv_aload_n hx hb dC_size_0 rfl (lv_at hl 0 rfl) ?_
  refine lv_iload_n hx hb dC_size_1 rfl (lv_at hl 1 rfl) ?_
  refine lv_iload_n hx hb dC_size_2 rfl (lv_at hl 2 rfl) ?_
  rcases hw with hw | hw
  rotate_left
  · exact ct_xv (vx_runV (As := [.int p1, .int p2]) (rest := []) ⟨hx, hb, hml, hown, hts⟩ (metx_C_checkPlace l hl9 dC dI a cA sa p1 p2 n f _ hw) (cwV 2 hts (wb_V wt_377 wt_379 wt_12 wt_27 wt_380) rfl rfl rfl (by decide +kernel) ⟨Nat.le_of_ble_eq_true rfl, Nat.le_of_ble_eq_true rfl⟩) (ct_preV hK hP (hDa _ _) hZ hS hA (va_recv hK hP (ci := 0) (q0 := 0) rfl rfl)) rfl rfl hl.1 rfl (lv_room (Nat.le_of_ble_eq_true rfl)) dC_size_3 ⟨Nat.le_of_ble_eq_true rfl, Nat.le_of_ble_eq_true rfl⟩) (hDa _ _) hS hA (fun E ce q9 n' f' H locs hw hP hS h1 h2 h3 => by exact vx_out (fun x h => (htb x h).elim) hlocks h1 h2 h3 (fun t ht hvm => ⟨(n', f'), trivial, ⟨hw, ct_mkB ht hP⟩, hS.F ht⟩) hS.2.2 (Nat.le_of_ble_eq_true rfl) (Nat.le_of_ble_eq_true rfl)) (fun _ _ _ _ hw _ _ => False.elim hw)
  refine ct_v (va_runV (As := [.int p1, .int p2]) (rest := []) ⟨hx, hb, hml, hown, hts⟩ (met0_C_checkPlace l dC dI a cA sa p1 p2 n f _ hw) (cwV 2 hts (wb_V wt_377 wt_379 wt_12 wt_27 wt_380) rfl rfl rfl (by decide +kernel) ⟨Nat.le_of_ble_eq_true rfl, Nat.le_of_ble_eq_true rfl⟩) (ct_preV hK hP (hDa _ _) hZ hS hA (va_recv hK hP (ci := 0) (q0 := 0) rfl rfl)) rfl rfl hl.1 rfl (lv_room (Nat.le_of_ble_eq_true rfl)) dC_size_3 ⟨Nat.le_of_ble_eq_true rfl, Nat.le_of_ble_eq_true rfl⟩) (hDa _ _) hS hA (fun n_2 f_3 H locs hw hP hS => ?_)
  refine lv_aload_n hx hb dC_size_6 rfl (lv_at hl 0 rfl) ?_
  refine lv_iload_n hx hb dC_size_7 rfl (lv_at hl 1 rfl) ?_
  refine lv_iload_n hx hb dC_size_8 rfl (lv_at hl 2 rfl) ?_
  rcases hw with hw | hw
  rotate_left
  · exact ct_xi (vx_runV (As := [.int p1, .int p2]) (rest := []) ⟨hx, hb, hml, hown, hts⟩ (metx_C_coverSize l hl9 dC dI a cA sa p1 p2 n_2 f_3 _ hw) (cwV 2 hts (wb_V wt_397 wt_399 wt_13 wt_27 wt_400) rfl rfl rfl (by decide +kernel) ⟨Nat.le_of_ble_eq_true rfl, Nat.le_of_ble_eq_true rfl⟩) (ct_preV hK hP (hDa _ _) hZ hS hA (va_recv hK hP (ci := 0) (q0 := 0) rfl rfl)) rfl rfl hl.1 rfl (lv_room (Nat.le_of_ble_eq_true rfl)) dC_size_9 ⟨Nat.le_of_ble_eq_true rfl, Nat.le_of_ble_eq_true rfl⟩) (hDa _ _) hS hA (fun E ce q9 n' f' H locs hw hP hS h1 h2 h3 => by exact vx_out (fun x h => (htb x h).elim) hlocks h1 h2 h3 (fun t ht hvm => ⟨(n', f'), trivial, ⟨hw, ct_mkB ht hP⟩, hS.F ht⟩) hS.2.2 (Nat.le_of_ble_eq_true rfl) (Nat.le_of_ble_eq_true rfl)) (fun _ _ _ _ _ hw _ _ => False.elim hw)
  refine ct_i (va_runV (As := [.int p1, .int p2]) (rest := []) ⟨hx, hb, hml, hown, hts⟩ (met0_C_coverSize l dC dI a cA sa p1 p2 n_2 f_3 _ hw) (cwV 2 hts (wb_V wt_397 wt_399 wt_13 wt_27 wt_400) rfl rfl rfl (by decide +kernel) ⟨Nat.le_of_ble_eq_true rfl, Nat.le_of_ble_eq_true rfl⟩) (ct_preV hK hP (hDa _ _) hZ hS hA (va_recv hK hP (ci := 0) (q0 := 0) rfl rfl)) rfl rfl hl.1 rfl (lv_room (Nat.le_of_ble_eq_true rfl)) dC_size_9 ⟨Nat.le_of_ble_eq_true rfl, Nat.le_of_ble_eq_true rfl⟩) (hDa _ _) hS hA (fun r4 n_5 f_6 H locs hw hP hS => ?_)
  exact False.elim hw
def wp_C_cover (post : Int32 → ctN → ctF → Prop) (xp : String → ctN → ctF → Prop) (p1 : Int32) (p2 : Int32) (p3 : Int32) (p4 : Int32) (n : ctN) (f : ctF) : Prop := (wp_C_checkPlace (fun (n_2 : ctN) (f_3 : ctF) => (wp_C_coverSize (fun (r4 : Int32) (n_5 : ctN) (f_6 : ctF) => (p4 = 0 → ((p3 < 0 → (xp "java/lang/IndexOutOfBoundsException" n_5 f_6)) ∧ (¬ p3 < 0 → ((p3 < r4 → (wp_C_place (fun (r10 : Int32) (n_11 : ctN) (f_12 : ctF) => wp_F_findInCover (fun (r13 : Int32) (n_14 : ctN) (f_15 : ctF) => (¬ p4 = 0 → (post (r13 / 8) n_14 f_15)) ∧ (p4 = 0 → (vp_in r13 960 ∧ (post (f_15 15 r13.toNatClampNeg) n_14 f_15)))) r10 p3 n_11 f_12) p1 p2 n_5 f_6)) ∧ (¬ p3 < r4 → (xp "java/lang/IndexOutOfBoundsException" n_5 f_6)))))) ∧ (¬ p4 = 0 → ((p4 = 1 → ((p3 < 0 → (xp "java/lang/IndexOutOfBoundsException" n_5 f_6)) ∧ (¬ p3 < 0 → ((p3 < r4 → (wp_C_place (fun (r21 : Int32) (n_22 : ctN) (f_23 : ctF) => wp_F_findInCover (fun (r24 : Int32) (n_25 : ctN) (f_26 : ctF) => (¬ p4 = 0 → (post (r24 / 8) n_25 f_26)) ∧ (p4 = 0 → (vp_in r24 960 ∧ (post (f_26 15 r24.toNatClampNeg) n_25 f_26)))) r21 p3 n_22 f_23) p1 p2 n_5 f_6)) ∧ (¬ p3 < r4 → (xp "java/lang/IndexOutOfBoundsException" n_5 f_6)))))) ∧ (¬ p4 = 1 → (xp "java/lang/IllegalArgumentException" n_5 f_6))))) xF p1 p2 n_2 f_3) ∨ (wp_C_coverSize pFi xp p1 p2 n_2 f_3)) xF p1 p2 n f) ∨ (wp_C_checkPlace pFv xp p1 p2 n f)
set_option maxHeartbeats 4000000 in
set_option maxRecDepth 100000 in
theorem met0_C_cover (l : Launch) (dC : Nat → ClassId) (dI : Nat → Nat → Nat) (a : Nat → Nat) (cA : Nat → ClassId) (sa : Nat → Nat) (p1 : Int32) (p2 : Int32) (p3 : Int32) (p4 : Int32) (n : ctN) (f : ctF) (sz : Nat) {post : Int32 → ctN → ctF → Prop} (hw : wp_C_cover post xF p1 p2 p3 p4 n f) : Met l yC_cover wsC_cover ({ frames := 7, cells := 0, slots := 0, locals := 113 } : Room) (ct_Pc dC dI a cA sa [.ref (a 0), .int p1, .int p2, .int p3, .int p4] n f sz) (va_Qi (fun (r : Int32) (u : ctN × ctF) => post r u.1 u.2) (ct_B dC dI a cA) (va_A (ctW a cA n f) sz)) 0 0 (va_A (ctW a cA n f) sz) := by
  refine Met.ofW (cc := cC_cover) (maxL := 7) (ret := (some .int)) (by decide) rfl ?_
  intro p e s m args below meth c s₁ B hml hv
  obtain ⟨rfl, hsz, hP, hK, hD0, hZ⟩ := hv
  have hx := B.exec
  have hb := B.bytes
  have hr := B.returns
  have hts := atoms_spec (ws := wsC_cover) B.pre
  have hown : s.vm.findClass RC = some m.cls := findClass_of_methodNamed B.named
  have hlocks := B.notSynchronized
  subst hsz
  have hD := hD0.self (sz := s.heap.size)
  generalize hAe : va_A (ctW a cA n f) s.heap.size = A at hD hZ ⊢
  have hDa : ∀ (n : ctN) (f : ctF), va_D A (ctW a cA n f) := fun _ _ => ct_D hD
  have hA : ∀ q : Nat, s.heap.size ≤ q → A q := fun q h => by rw [← hAe]; exact Or.inr h
  have hS : va_S A s.heap s.heap [] := va_S.rf
  have hl := lv_entry ([.ref (a 0), .int p1, .int p2, .int p3, .int p4]) (n := 7) (Nat.le_of_ble_eq_true rfl)
  rw [lg_entry_eq]
  generalize (lg_sl ([.ref (a 0), .int p1, .int p2, .int p3, .int p4]) ++ List.replicate (7 - (lg_sl ([.ref (a 0), .int p1, .int p2, .int p3, .int p4])).length) Slot.unset).toArray = ls at hl ⊢
  have hl : lv_has ls 7 [(0, .ref (a 0)), (1, .int p1), (2, .int p2), (3, .int p3), (4, .int p4)] := hl
  unfold wp_C_cover at hw
  refine lv_aload_n hx hb dC_cover_0 rfl (lv_at hl 0 rfl) ?_
  refine lv_iload_n hx hb dC_cover_1 rfl (lv_at hl 1 rfl) ?_
  refine lv_iload_n hx hb dC_cover_2 rfl (lv_at hl 2 rfl) ?_
  rcases hw with hw | hw
  rotate_left
  · exact ct_v (va_runV (As := [.int p1, .int p2]) (rest := []) ⟨hx, hb, hml, hown, hts⟩ (met0_C_checkPlace l dC dI a cA sa p1 p2 n f _ hw) (cwV 2 hts (wb_V wt_377 wt_379 wt_12 wt_27 wt_380) rfl rfl rfl (by decide +kernel) ⟨Nat.le_of_ble_eq_true rfl, Nat.le_of_ble_eq_true rfl⟩) (ct_preV hK hP (hDa _ _) hZ hS hA (va_recv hK hP (ci := 0) (q0 := 0) rfl rfl)) rfl rfl hl.1 rfl (lv_room (Nat.le_of_ble_eq_true rfl)) dC_cover_3 ⟨Nat.le_of_ble_eq_true rfl, Nat.le_of_ble_eq_true rfl⟩) (hDa _ _) hS hA (fun _ _ _ _ hw _ _ => False.elim hw)
  refine ct_v (va_runV (As := [.int p1, .int p2]) (rest := []) ⟨hx, hb, hml, hown, hts⟩ (met0_C_checkPlace l dC dI a cA sa p1 p2 n f _ hw) (cwV 2 hts (wb_V wt_377 wt_379 wt_12 wt_27 wt_380) rfl rfl rfl (by decide +kernel) ⟨Nat.le_of_ble_eq_true rfl, Nat.le_of_ble_eq_true rfl⟩) (ct_preV hK hP (hDa _ _) hZ hS hA (va_recv hK hP (ci := 0) (q0 := 0) rfl rfl)) rfl rfl hl.1 rfl (lv_room (Nat.le_of_ble_eq_true rfl)) dC_cover_3 ⟨Nat.le_of_ble_eq_true rfl, Nat.le_of_ble_eq_true rfl⟩) (hDa _ _) hS hA (fun n_2 f_3 H locs hw hP hS => ?_)
  refine lv_aload_n hx hb dC_cover_6 rfl (lv_at hl 0 rfl) ?_
  refine lv_iload_n hx hb dC_cover_7 rfl (lv_at hl 1 rfl) ?_
  refine lv_iload_n hx hb dC_cover_8 rfl (lv_at hl 2 rfl) ?_
  rcases hw with hw | hw
  rotate_left
  · exact ct_i (va_runV (As := [.int p1, .int p2]) (rest := []) ⟨hx, hb, hml, hown, hts⟩ (met0_C_coverSize l dC dI a cA sa p1 p2 n_2 f_3 _ hw) (cwV 2 hts (wb_V wt_397 wt_399 wt_13 wt_27 wt_400) rfl rfl rfl (by decide +kernel) ⟨Nat.le_of_ble_eq_true rfl, Nat.le_of_ble_eq_true rfl⟩) (ct_preV hK hP (hDa _ _) hZ hS hA (va_recv hK hP (ci := 0) (q0 := 0) rfl rfl)) rfl rfl hl.1 rfl (lv_room (Nat.le_of_ble_eq_true rfl)) dC_cover_9 ⟨Nat.le_of_ble_eq_true rfl, Nat.le_of_ble_eq_true rfl⟩) (hDa _ _) hS hA (fun _ _ _ _ _ hw _ _ => False.elim hw)
  refine ct_i (va_runV (As := [.int p1, .int p2]) (rest := []) ⟨hx, hb, hml, hown, hts⟩ (met0_C_coverSize l dC dI a cA sa p1 p2 n_2 f_3 _ hw) (cwV 2 hts (wb_V wt_397 wt_399 wt_13 wt_27 wt_400) rfl rfl rfl (by decide +kernel) ⟨Nat.le_of_ble_eq_true rfl, Nat.le_of_ble_eq_true rfl⟩) (ct_preV hK hP (hDa _ _) hZ hS hA (va_recv hK hP (ci := 0) (q0 := 0) rfl rfl)) rfl rfl hl.1 rfl (lv_room (Nat.le_of_ble_eq_true rfl)) dC_cover_9 ⟨Nat.le_of_ble_eq_true rfl, Nat.le_of_ble_eq_true rfl⟩) (hDa _ _) hS hA (fun r4 n_5 f_6 H locs hw hP hS => ?_)
  refine lv_istore (lv' := [(5, .int r4), (0, .ref (a 0)), (1, .int p1), (2, .int p2), (3, .int p3), (4, .int p4)]) hx hb dC_cover_12 hl (by decide) rfl (fun ls hl => ?_)
  refine lv_iload hx hb dC_cover_14 (lv_at hl 5 rfl) ?_
  refine lv_if_eq (tgt := 35) hx hb dC_cover_16 (by decide) (fun c7 => ?_) (fun c7 => ?_)
  · have hw := hw.1 c7
    refine lv_iload_n hx hb dC_cover_35 rfl (lv_at hl 4 rfl) ?_
    refine lv_if_lt (tgt := 45) hx hb dC_cover_36 (by decide) (fun c8 => ?_) (fun c8 => ?_)
    · have hw := hw.1 c8
      exact False.elim hw
    · have hw := hw.2 c8
      refine lv_iload_n hx hb dC_cover_39 rfl (lv_at hl 4 rfl) ?_
      refine lv_iload hx hb dC_cover_40 (lv_at hl 0 rfl) ?_
      refine lv_icmp_lt (tgt := 55) hx hb dC_cover_42 (by decide) (fun c9 => ?_) (fun c9 => ?_)
      · have hw := hw.1 c9
        refine lv_aload_n hx hb dC_cover_55 rfl (lv_at hl 1 rfl) ?_
        refine va_get (D := (dC, dI)) (ci := 0) (v := .ref (a 2)) (C := RC) (T := TC) (N := 2) hx hb hts (fun w h => List.mem_cons_of_mem _ (inC w h)) hown hK hP 0 rfl rfl 1 (by decide) (hts (.fieldLink RC 21 "CoverTrees" "forest" "LCoverTrees$Forest;") (List.mem_cons_of_mem _ wt_135)) (fun _ h9 => h9) rfl dC_cover_56 ?_
        refine lv_iload_n hx hb dC_cover_59 rfl (lv_at hl 2 rfl) ?_
        refine lv_iload_n hx hb dC_cover_60 rfl (lv_at hl 3 rfl) ?_
        refine ct_i (va_runS (As := [.int p1, .int p2]) (rest := [.ref (a 2)]) ⟨hx, hb, hml, hown, hts⟩ (met_C_place l dC dI a cA sa p1 p2 n_5 f_6 _ hw) (cwS 2 hts (wb_S wt_382 wt_315 wt_27 wt_316) rfl rfl rfl (by decide +kernel) ⟨Nat.le_of_ble_eq_true rfl, Nat.le_of_ble_eq_true rfl⟩) (ct_pre hK hP (hDa _ _) hZ hS hA) rfl rfl hl.1 rfl (lv_room (Nat.le_of_ble_eq_true rfl)) dC_cover_61 ⟨Nat.le_of_ble_eq_true rfl, Nat.le_of_ble_eq_true rfl⟩) (hDa _ _) hS hA (fun r10 n_11 f_12 H locs hw hP hS => ?_)
        refine lv_iload_n hx hb dC_cover_64 rfl (lv_at hl 4 rfl) ?_
        refine ct_i (va_runV (As := [.int r10, .int p3]) (rest := []) ⟨hx, hb, hml, hown, hts⟩ (met_F_findInCover l dC dI a cA sa r10 p3 n_11 f_12 _ hw) (cwV 2 hts (wb_V wt_427 wt_428 wt_429 wt_29 wt_430) rfl rfl rfl (by decide +kernel) ⟨Nat.le_of_ble_eq_true rfl, Nat.le_of_ble_eq_true rfl⟩) (ct_preV hK hP (hDa _ _) hZ hS hA (va_recv hK hP (ci := 2) (q0 := 2) rfl rfl)) rfl rfl hl.1 rfl (lv_room (Nat.le_of_ble_eq_true rfl)) dC_cover_65 ⟨Nat.le_of_ble_eq_true rfl, Nat.le_of_ble_eq_true rfl⟩) (hDa _ _) hS hA (fun r13 n_14 f_15 H locs hw hP hS => ?_)
        refine lv_istore (lv' := [(6, .int r13), (5, .int r4), (0, .ref (a 0)), (1, .int p1), (2, .int p2), (3, .int p3), (4, .int p4)]) hx hb dC_cover_68 hl (by decide) rfl (fun ls hl => ?_)
        refine lv_iload hx hb dC_cover_70 (lv_at hl 6 rfl) ?_
        refine lv_if_ne (tgt := 88) hx hb dC_cover_72 (by decide) (fun c16 => ?_) (fun c16 => ?_)
        · have hw := hw.1 c16
          refine lv_iload hx hb dC_cover_88 (lv_at hl 0 rfl) ?_
          refine lv_bipush (v := 8) hx hb dC_cover_90 (by decide) ?_
          refine lv_idiv hx hb dC_cover_92 (by decide) ?_
          exact W.iret (v := (r13 / 8)) hx hb hr (fun t ht hW => ⟨⟨(r13 / 8), (n_14, f_15), rfl, hw, ct_mkB ht hP⟩, hS.F ht⟩) hS.2.2 dC_cover_93
        · have hw := hw.2 c16
          refine lv_aload_n hx hb dC_cover_75 rfl (lv_at hl 2 rfl) ?_
          refine va_get (D := (dC, dI)) (ci := 0) (v := .ref (a 2)) (C := RC) (T := TC) (N := 2) hx hb hts (fun w h => List.mem_cons_of_mem _ (inC w h)) hown hK hP 0 rfl rfl 1 (by decide) (hts (.fieldLink RC 21 "CoverTrees" "forest" "LCoverTrees$Forest;") (List.mem_cons_of_mem _ wt_135)) (fun _ h9 => h9) rfl dC_cover_76 ?_
          refine va_get (D := (dC, dI)) (ci := 2) (v := .ref (a 15)) (C := RF) (T := TF) (N := 11) hx hb hts (fun w h => List.mem_cons_of_mem _ (inF w h)) hown hK hP 2 rfl rfl 8 (by decide) (hts (.fieldLink RC 115 "CoverTrees$Forest" "rule" "[I") (List.mem_cons_of_mem _ wt_106)) (fun _ h9 => h9) rfl dC_cover_79 ?_
          refine lv_iload hx hb dC_cover_82 (lv_at hl 0 rfl) ?_
          obtain ⟨hi17, hw⟩ := hw
          refine va_iald hx hb hK hP 15 12 rfl rfl hi17 dC_cover_84 ?_
          refine lv_goto (tgt := 93) hx hb dC_cover_85 (by decide) ?_
          exact W.iret (v := (f_15 15 r13.toNatClampNeg)) hx hb hr (fun t ht hW => ⟨⟨(f_15 15 r13.toNatClampNeg), (n_14, f_15), rfl, hw, ct_mkB ht hP⟩, hS.F ht⟩) hS.2.2 dC_cover_93
      · have hw := hw.2 c9
        exact False.elim hw
  · have hw := hw.2 c7
    refine lv_iload hx hb dC_cover_19 (lv_at hl 5 rfl) ?_
    refine lv_iconst (v := 1) hx hb dC_cover_21 (by decide) ?_
    refine lv_icmp_eq (tgt := 35) hx hb dC_cover_22 (by decide) (fun c18 => ?_) (fun c18 => ?_)
    · have hw := hw.1 c18
      refine lv_iload_n hx hb dC_cover_35 rfl (lv_at hl 4 rfl) ?_
      refine lv_if_lt (tgt := 45) hx hb dC_cover_36 (by decide) (fun c19 => ?_) (fun c19 => ?_)
      · have hw := hw.1 c19
        exact False.elim hw
      · have hw := hw.2 c19
        refine lv_iload_n hx hb dC_cover_39 rfl (lv_at hl 4 rfl) ?_
        refine lv_iload hx hb dC_cover_40 (lv_at hl 0 rfl) ?_
        refine lv_icmp_lt (tgt := 55) hx hb dC_cover_42 (by decide) (fun c20 => ?_) (fun c20 => ?_)
        · have hw := hw.1 c20
          refine lv_aload_n hx hb dC_cover_55 rfl (lv_at hl 1 rfl) ?_
          refine va_get (D := (dC, dI)) (ci := 0) (v := .ref (a 2)) (C := RC) (T := TC) (N := 2) hx hb hts (fun w h => List.mem_cons_of_mem _ (inC w h)) hown hK hP 0 rfl rfl 1 (by decide) (hts (.fieldLink RC 21 "CoverTrees" "forest" "LCoverTrees$Forest;") (List.mem_cons_of_mem _ wt_135)) (fun _ h9 => h9) rfl dC_cover_56 ?_
          refine lv_iload_n hx hb dC_cover_59 rfl (lv_at hl 2 rfl) ?_
          refine lv_iload_n hx hb dC_cover_60 rfl (lv_at hl 3 rfl) ?_
          refine ct_i (va_runS (As := [.int p1, .int p2]) (rest := [.ref (a 2)]) ⟨hx, hb, hml, hown, hts⟩ (met_C_place l dC dI a cA sa p1 p2 n_5 f_6 _ hw) (cwS 2 hts (wb_S wt_382 wt_315 wt_27 wt_316) rfl rfl rfl (by decide +kernel) ⟨Nat.le_of_ble_eq_true rfl, Nat.le_of_ble_eq_true rfl⟩) (ct_pre hK hP (hDa _ _) hZ hS hA) rfl rfl hl.1 rfl (lv_room (Nat.le_of_ble_eq_true rfl)) dC_cover_61 ⟨Nat.le_of_ble_eq_true rfl, Nat.le_of_ble_eq_true rfl⟩) (hDa _ _) hS hA (fun r21 n_22 f_23 H locs hw hP hS => ?_)
          refine lv_iload_n hx hb dC_cover_64 rfl (lv_at hl 4 rfl) ?_
          refine ct_i (va_runV (As := [.int r21, .int p3]) (rest := []) ⟨hx, hb, hml, hown, hts⟩ (met_F_findInCover l dC dI a cA sa r21 p3 n_22 f_23 _ hw) (cwV 2 hts (wb_V wt_427 wt_428 wt_429 wt_29 wt_430) rfl rfl rfl (by decide +kernel) ⟨Nat.le_of_ble_eq_true rfl, Nat.le_of_ble_eq_true rfl⟩) (ct_preV hK hP (hDa _ _) hZ hS hA (va_recv hK hP (ci := 2) (q0 := 2) rfl rfl)) rfl rfl hl.1 rfl (lv_room (Nat.le_of_ble_eq_true rfl)) dC_cover_65 ⟨Nat.le_of_ble_eq_true rfl, Nat.le_of_ble_eq_true rfl⟩) (hDa _ _) hS hA (fun r24 n_25 f_26 H locs hw hP hS => ?_)
          refine lv_istore (lv' := [(6, .int r24), (5, .int r4), (0, .ref (a 0)), (1, .int p1), (2, .int p2), (3, .int p3), (4, .int p4)]) hx hb dC_cover_68 hl (by decide) rfl (fun ls hl => ?_)
          refine lv_iload hx hb dC_cover_70 (lv_at hl 6 rfl) ?_
          refine lv_if_ne (tgt := 88) hx hb dC_cover_72 (by decide) (fun c27 => ?_) (fun c27 => ?_)
          · have hw := hw.1 c27
            refine lv_iload hx hb dC_cover_88 (lv_at hl 0 rfl) ?_
            refine lv_bipush (v := 8) hx hb dC_cover_90 (by decide) ?_
            refine lv_idiv hx hb dC_cover_92 (by decide) ?_
            exact W.iret (v := (r24 / 8)) hx hb hr (fun t ht hW => ⟨⟨(r24 / 8), (n_25, f_26), rfl, hw, ct_mkB ht hP⟩, hS.F ht⟩) hS.2.2 dC_cover_93
          · have hw := hw.2 c27
            refine lv_aload_n hx hb dC_cover_75 rfl (lv_at hl 2 rfl) ?_
            refine va_get (D := (dC, dI)) (ci := 0) (v := .ref (a 2)) (C := RC) (T := TC) (N := 2) hx hb hts (fun w h => List.mem_cons_of_mem _ (inC w h)) hown hK hP 0 rfl rfl 1 (by decide) (hts (.fieldLink RC 21 "CoverTrees" "forest" "LCoverTrees$Forest;") (List.mem_cons_of_mem _ wt_135)) (fun _ h9 => h9) rfl dC_cover_76 ?_
            refine va_get (D := (dC, dI)) (ci := 2) (v := .ref (a 15)) (C := RF) (T := TF) (N := 11) hx hb hts (fun w h => List.mem_cons_of_mem _ (inF w h)) hown hK hP 2 rfl rfl 8 (by decide) (hts (.fieldLink RC 115 "CoverTrees$Forest" "rule" "[I") (List.mem_cons_of_mem _ wt_106)) (fun _ h9 => h9) rfl dC_cover_79 ?_
            refine lv_iload hx hb dC_cover_82 (lv_at hl 0 rfl) ?_
            obtain ⟨hi28, hw⟩ := hw
            refine va_iald hx hb hK hP 15 12 rfl rfl hi28 dC_cover_84 ?_
            refine lv_goto (tgt := 93) hx hb dC_cover_85 (by decide) ?_
            exact W.iret (v := (f_26 15 r24.toNatClampNeg)) hx hb hr (fun t ht hW => ⟨⟨(f_26 15 r24.toNatClampNeg), (n_25, f_26), rfl, hw, ct_mkB ht hP⟩, hS.F ht⟩) hS.2.2 dC_cover_93
        · have hw := hw.2 c20
          exact False.elim hw
    · have hw := hw.2 c18
      exact False.elim hw
set_option maxHeartbeats 4000000 in
set_option maxRecDepth 100000 in
theorem metx_C_cover (l : Launch) (hl9 : l.stackTraces = false) (dC : Nat → ClassId) (dI : Nat → Nat → Nat) (a : Nat → Nat) (cA : Nat → ClassId) (sa : Nat → Nat) (p1 : Int32) (p2 : Int32) (p3 : Int32) (p4 : Int32) (n : ctN) (f : ctF) (sz : Nat) {xp : String → ctN → ctF → Prop} (hw : wp_C_cover pFi xp p1 p2 p3 p4 n f) : vx_Met l yC_cover wsC_cover ({ frames := 7, cells := 1, slots := 6, locals := 113 } : Room) (ct_Pc dC dI a cA sa [.ref (a 0), .int p1, .int p2, .int p3, .int p4] n f sz) (va_Qi (fun (r : Int32) (u : ctN × ctF) => pFi r u.1 u.2) (ct_B dC dI a cA) (va_A (ctW a cA n f) sz)) (vx_X (fun (_ : ctN × ctF) => True) (fun E u t => xp E u.1 u.2 ∧ ct_B dC dI a cA u t) (va_A (ctW a cA n f) sz)) 1 6 (va_A (ctW a cA n f) sz) := by
  refine vx_ofW (cc := cC_cover) (maxL := 7) (ret := (some .int)) (by decide) rfl ?_
  intro p e s m args below meth c s₁ B hml htb hv
  obtain ⟨rfl, hsz, hP, hK, hD0, hZ⟩ := hv
  have hx := B.exec
  have hb := B.bytes
  have hr := B.returns
  have hts := atoms_spec (ws := wsC_cover) B.pre
  have hown : s.vm.findClass RC = some m.cls := findClass_of_methodNamed B.named
  have hlocks := B.notSynchronized
  subst hsz
  have hD := hD0.self (sz := s.heap.size)
  generalize hAe : va_A (ctW a cA n f) s.heap.size = A at hD hZ ⊢
  have hDa : ∀ (n : ctN) (f : ctF), va_D A (ctW a cA n f) := fun _ _ => ct_D hD
  have hA : ∀ q : Nat, s.heap.size ≤ q → A q := fun q h => by rw [← hAe]; exact Or.inr h
  have hS : va_S A s.heap s.heap [] := va_S.rf
  have hl := lv_entry ([.ref (a 0), .int p1, .int p2, .int p3, .int p4]) (n := 7) (Nat.le_of_ble_eq_true rfl)
  rw [lg_entry_eq]
  generalize (lg_sl ([.ref (a 0), .int p1, .int p2, .int p3, .int p4]) ++ List.replicate (7 - (lg_sl ([.ref (a 0), .int p1, .int p2, .int p3, .int p4])).length) Slot.unset).toArray = ls at hl ⊢
  have hl : lv_has ls 7 [(0, .ref (a 0)), (1, .int p1), (2, .int p2), (3, .int p3), (4, .int p4)] := hl
  unfold wp_C_cover at hw
  refine lv_aload_n hx hb dC_cover_0 rfl (lv_at hl 0 rfl) ?_
  refine lv_iload_n hx hb dC_cover_1 rfl (lv_at hl 1 rfl) ?_
  refine lv_iload_n hx hb dC_cover_2 rfl (lv_at hl 2 rfl) ?_
  rcases hw with hw | hw
  rotate_left
  · exact ct_xv (vx_runV (As := [.int p1, .int p2]) (rest := []) ⟨hx, hb, hml, hown, hts⟩ (metx_C_checkPlace l hl9 dC dI a cA sa p1 p2 n f _ hw) (cwV 2 hts (wb_V wt_377 wt_379 wt_12 wt_27 wt_380) rfl rfl rfl (by decide +kernel) ⟨Nat.le_of_ble_eq_true rfl, Nat.le_of_ble_eq_true rfl⟩) (ct_preV hK hP (hDa _ _) hZ hS hA (va_recv hK hP (ci := 0) (q0 := 0) rfl rfl)) rfl rfl hl.1 rfl (lv_room (Nat.le_of_ble_eq_true rfl)) dC_cover_3 ⟨Nat.le_of_ble_eq_true rfl, Nat.le_of_ble_eq_true rfl⟩) (hDa _ _) hS hA (fun E ce q9 n' f' H locs hw hP hS h1 h2 h3 => by exact vx_out (fun x h => (htb x h).elim) hlocks h1 h2 h3 (fun t ht hvm => ⟨(n', f'), trivial, ⟨hw, ct_mkB ht hP⟩, hS.F ht⟩) hS.2.2 (Nat.le_of_ble_eq_true rfl) (Nat.le_of_ble_eq_true rfl)) (fun _ _ _ _ hw _ _ => False.elim hw)
  refine ct_v (va_runV (As := [.int p1, .int p2]) (rest := []) ⟨hx, hb, hml, hown, hts⟩ (met0_C_checkPlace l dC dI a cA sa p1 p2 n f _ hw) (cwV 2 hts (wb_V wt_377 wt_379 wt_12 wt_27 wt_380) rfl rfl rfl (by decide +kernel) ⟨Nat.le_of_ble_eq_true rfl, Nat.le_of_ble_eq_true rfl⟩) (ct_preV hK hP (hDa _ _) hZ hS hA (va_recv hK hP (ci := 0) (q0 := 0) rfl rfl)) rfl rfl hl.1 rfl (lv_room (Nat.le_of_ble_eq_true rfl)) dC_cover_3 ⟨Nat.le_of_ble_eq_true rfl, Nat.le_of_ble_eq_true rfl⟩) (hDa _ _) hS hA (fun n_2 f_3 H locs hw hP hS => ?_)
  refine lv_aload_n hx hb dC_cover_6 rfl (lv_at hl 0 rfl) ?_
  refine lv_iload_n hx hb dC_cover_7 rfl (lv_at hl 1 rfl) ?_
  refine lv_iload_n hx hb dC_cover_8 rfl (lv_at hl 2 rfl) ?_
  rcases hw with hw | hw
  rotate_left
  · exact ct_xi (vx_runV (As := [.int p1, .int p2]) (rest := []) ⟨hx, hb, hml, hown, hts⟩ (metx_C_coverSize l hl9 dC dI a cA sa p1 p2 n_2 f_3 _ hw) (cwV 2 hts (wb_V wt_397 wt_399 wt_13 wt_27 wt_400) rfl rfl rfl (by decide +kernel) ⟨Nat.le_of_ble_eq_true rfl, Nat.le_of_ble_eq_true rfl⟩) (ct_preV hK hP (hDa _ _) hZ hS hA (va_recv hK hP (ci := 0) (q0 := 0) rfl rfl)) rfl rfl hl.1 rfl (lv_room (Nat.le_of_ble_eq_true rfl)) dC_cover_9 ⟨Nat.le_of_ble_eq_true rfl, Nat.le_of_ble_eq_true rfl⟩) (hDa _ _) hS hA (fun E ce q9 n' f' H locs hw hP hS h1 h2 h3 => by exact vx_out (fun x h => (htb x h).elim) hlocks h1 h2 h3 (fun t ht hvm => ⟨(n', f'), trivial, ⟨hw, ct_mkB ht hP⟩, hS.F ht⟩) hS.2.2 (Nat.le_of_ble_eq_true rfl) (Nat.le_of_ble_eq_true rfl)) (fun _ _ _ _ _ hw _ _ => False.elim hw)
  refine ct_i (va_runV (As := [.int p1, .int p2]) (rest := []) ⟨hx, hb, hml, hown, hts⟩ (met0_C_coverSize l dC dI a cA sa p1 p2 n_2 f_3 _ hw) (cwV 2 hts (wb_V wt_397 wt_399 wt_13 wt_27 wt_400) rfl rfl rfl (by decide +kernel) ⟨Nat.le_of_ble_eq_true rfl, Nat.le_of_ble_eq_true rfl⟩) (ct_preV hK hP (hDa _ _) hZ hS hA (va_recv hK hP (ci := 0) (q0 := 0) rfl rfl)) rfl rfl hl.1 rfl (lv_room (Nat.le_of_ble_eq_true rfl)) dC_cover_9 ⟨Nat.le_of_ble_eq_true rfl, Nat.le_of_ble_eq_true rfl⟩) (hDa _ _) hS hA (fun r4 n_5 f_6 H locs hw hP hS => ?_)
  refine lv_istore (lv' := [(5, .int r4), (0, .ref (a 0)), (1, .int p1), (2, .int p2), (3, .int p3), (4, .int p4)]) hx hb dC_cover_12 hl (by decide) rfl (fun ls hl => ?_)
  refine lv_iload hx hb dC_cover_14 (lv_at hl 5 rfl) ?_
  refine lv_if_eq (tgt := 35) hx hb dC_cover_16 (by decide) (fun c7 => ?_) (fun c7 => ?_)
  · have hw := hw.1 c7
    refine lv_iload_n hx hb dC_cover_35 rfl (lv_at hl 4 rfl) ?_
    refine lv_if_lt (tgt := 45) hx hb dC_cover_36 (by decide) (fun c8 => ?_) (fun c8 => ?_)
    · have hw := hw.1 c8
      exact vx_throwS (own := RC) (cls := "java/lang/IndexOutOfBoundsException") (text := "the cover has no such rule") (names := ["java/lang/RuntimeException", "java/lang/Exception"]) (ik := 123) (is := 125) (ic := 127) (sa := sa 15) hx hb hl9 hown (by decide +kernel) (by decide +kernel) (hts (.classLink RC 123 "java/lang/IndexOutOfBoundsException") (List.mem_cons_of_mem _ wt_411)) (hts (.initialized "java/lang/IndexOutOfBoundsException") (List.mem_cons_of_mem _ wt_37)) hZ.2.2.2.2.2.2.2.2.2.2.2.2.2.2.2.2.2.2.2.2.2.2.1 (vx_hat (L := vx_atS RC 127 "java/lang/IndexOutOfBoundsException" ["java/lang/RuntimeException", "java/lang/Exception"]) (B := [.castable "java/lang/IndexOutOfBoundsException" "java/lang/IndexOutOfBoundsException", .declares ⟨"java/lang/RuntimeException", "<init>", "(Ljava/lang/String;)V"⟩, .declares ⟨"java/lang/Exception", "<init>", "(Ljava/lang/String;)V"⟩, .declares ⟨"java/lang/Throwable", "<init>", "(Ljava/lang/String;)V"⟩]) (fun w hw => hts w (List.mem_cons_of_mem _ (at_C_127 w hw))) bd_C_127 (vx_c (va_Nw.use rfl hZ.2.2.2.1) (vx_c (va_Nw.use rfl hZ.2.2.2.2.1) (vx_c (va_Nw.use rfl hZ.2.2.2.2.2.1) (vx_c (va_Nw.use rfl hZ.2.2.2.2.2.2.1) (vx_n)))))) gd_C_127 hZ.2.2.2.2.2.2.2.2.2.2.2.2.2.2.2.2.2.2.2.2.2.2.2.1 hZ.2.2.2.2.2.2.2.2.2.2.2.2.2.2.2.2.2.2.2.2.2.2.2.2 hS (hl.1.trans hml.symm) dC_cover_45 dC_cover_48 dC_cover_49 dC_cover_51 dC_cover_54 (fun x h => (htb x h).elim) (Nat.le_of_ble_eq_true rfl) (Nat.le_of_ble_eq_true rfl) (Nat.le_of_ble_eq_true rfl) (Nat.le_of_ble_eq_true rfl) hlocks (fun t _ h1 h2 => ⟨(n_5, f_6), trivial, ⟨hw, (ct_thr hP hS h1 h2).1⟩, (ct_thr hP hS h1 h2).2⟩) hS.2.2 (Nat.le_of_ble_eq_true rfl) (Nat.le_of_ble_eq_true rfl)
    · have hw := hw.2 c8
      refine lv_iload_n hx hb dC_cover_39 rfl (lv_at hl 4 rfl) ?_
      refine lv_iload hx hb dC_cover_40 (lv_at hl 0 rfl) ?_
      refine lv_icmp_lt (tgt := 55) hx hb dC_cover_42 (by decide) (fun c9 => ?_) (fun c9 => ?_)
      · have hw := hw.1 c9
        refine lv_aload_n hx hb dC_cover_55 rfl (lv_at hl 1 rfl) ?_
        refine va_get (D := (dC, dI)) (ci := 0) (v := .ref (a 2)) (C := RC) (T := TC) (N := 2) hx hb hts (fun w h => List.mem_cons_of_mem _ (inC w h)) hown hK hP 0 rfl rfl 1 (by decide) (hts (.fieldLink RC 21 "CoverTrees" "forest" "LCoverTrees$Forest;") (List.mem_cons_of_mem _ wt_135)) (fun _ h9 => h9) rfl dC_cover_56 ?_
        refine lv_iload_n hx hb dC_cover_59 rfl (lv_at hl 2 rfl) ?_
        refine lv_iload_n hx hb dC_cover_60 rfl (lv_at hl 3 rfl) ?_
        refine ct_i (va_runS (As := [.int p1, .int p2]) (rest := [.ref (a 2)]) ⟨hx, hb, hml, hown, hts⟩ (met_C_place l dC dI a cA sa p1 p2 n_5 f_6 _ hw) (cwS 2 hts (wb_S wt_382 wt_315 wt_27 wt_316) rfl rfl rfl (by decide +kernel) ⟨Nat.le_of_ble_eq_true rfl, Nat.le_of_ble_eq_true rfl⟩) (ct_pre hK hP (hDa _ _) hZ hS hA) rfl rfl hl.1 rfl (lv_room (Nat.le_of_ble_eq_true rfl)) dC_cover_61 ⟨Nat.le_of_ble_eq_true rfl, Nat.le_of_ble_eq_true rfl⟩) (hDa _ _) hS hA (fun r10 n_11 f_12 H locs hw hP hS => ?_)
        refine lv_iload_n hx hb dC_cover_64 rfl (lv_at hl 4 rfl) ?_
        refine ct_i (va_runV (As := [.int r10, .int p3]) (rest := []) ⟨hx, hb, hml, hown, hts⟩ (met_F_findInCover l dC dI a cA sa r10 p3 n_11 f_12 _ hw) (cwV 2 hts (wb_V wt_427 wt_428 wt_429 wt_29 wt_430) rfl rfl rfl (by decide +kernel) ⟨Nat.le_of_ble_eq_true rfl, Nat.le_of_ble_eq_true rfl⟩) (ct_preV hK hP (hDa _ _) hZ hS hA (va_recv hK hP (ci := 2) (q0 := 2) rfl rfl)) rfl rfl hl.1 rfl (lv_room (Nat.le_of_ble_eq_true rfl)) dC_cover_65 ⟨Nat.le_of_ble_eq_true rfl, Nat.le_of_ble_eq_true rfl⟩) (hDa _ _) hS hA (fun r13 n_14 f_15 H locs hw hP hS => ?_)
        refine lv_istore (lv' := [(6, .int r13), (5, .int r4), (0, .ref (a 0)), (1, .int p1), (2, .int p2), (3, .int p3), (4, .int p4)]) hx hb dC_cover_68 hl (by decide) rfl (fun ls hl => ?_)
        refine lv_iload hx hb dC_cover_70 (lv_at hl 6 rfl) ?_
        refine lv_if_ne (tgt := 88) hx hb dC_cover_72 (by decide) (fun c16 => ?_) (fun c16 => ?_)
        · have hw := hw.1 c16
          refine lv_iload hx hb dC_cover_88 (lv_at hl 0 rfl) ?_
          refine lv_bipush (v := 8) hx hb dC_cover_90 (by decide) ?_
          refine lv_idiv hx hb dC_cover_92 (by decide) ?_
          exact False.elim hw
        · have hw := hw.2 c16
          refine lv_aload_n hx hb dC_cover_75 rfl (lv_at hl 2 rfl) ?_
          refine va_get (D := (dC, dI)) (ci := 0) (v := .ref (a 2)) (C := RC) (T := TC) (N := 2) hx hb hts (fun w h => List.mem_cons_of_mem _ (inC w h)) hown hK hP 0 rfl rfl 1 (by decide) (hts (.fieldLink RC 21 "CoverTrees" "forest" "LCoverTrees$Forest;") (List.mem_cons_of_mem _ wt_135)) (fun _ h9 => h9) rfl dC_cover_76 ?_
          refine va_get (D := (dC, dI)) (ci := 2) (v := .ref (a 15)) (C := RF) (T := TF) (N := 11) hx hb hts (fun w h => List.mem_cons_of_mem _ (inF w h)) hown hK hP 2 rfl rfl 8 (by decide) (hts (.fieldLink RC 115 "CoverTrees$Forest" "rule" "[I") (List.mem_cons_of_mem _ wt_106)) (fun _ h9 => h9) rfl dC_cover_79 ?_
          refine lv_iload hx hb dC_cover_82 (lv_at hl 0 rfl) ?_
          obtain ⟨hi17, hw⟩ := hw
          refine va_iald hx hb hK hP 15 12 rfl rfl hi17 dC_cover_84 ?_
          refine lv_goto (tgt := 93) hx hb dC_cover_85 (by decide) ?_
          exact False.elim hw
      · have hw := hw.2 c9
        exact vx_throwS (own := RC) (cls := "java/lang/IndexOutOfBoundsException") (text := "the cover has no such rule") (names := ["java/lang/RuntimeException", "java/lang/Exception"]) (ik := 123) (is := 125) (ic := 127) (sa := sa 15) hx hb hl9 hown (by decide +kernel) (by decide +kernel) (hts (.classLink RC 123 "java/lang/IndexOutOfBoundsException") (List.mem_cons_of_mem _ wt_411)) (hts (.initialized "java/lang/IndexOutOfBoundsException") (List.mem_cons_of_mem _ wt_37)) hZ.2.2.2.2.2.2.2.2.2.2.2.2.2.2.2.2.2.2.2.2.2.2.1 (vx_hat (L := vx_atS RC 127 "java/lang/IndexOutOfBoundsException" ["java/lang/RuntimeException", "java/lang/Exception"]) (B := [.castable "java/lang/IndexOutOfBoundsException" "java/lang/IndexOutOfBoundsException", .declares ⟨"java/lang/RuntimeException", "<init>", "(Ljava/lang/String;)V"⟩, .declares ⟨"java/lang/Exception", "<init>", "(Ljava/lang/String;)V"⟩, .declares ⟨"java/lang/Throwable", "<init>", "(Ljava/lang/String;)V"⟩]) (fun w hw => hts w (List.mem_cons_of_mem _ (at_C_127 w hw))) bd_C_127 (vx_c (va_Nw.use rfl hZ.2.2.2.1) (vx_c (va_Nw.use rfl hZ.2.2.2.2.1) (vx_c (va_Nw.use rfl hZ.2.2.2.2.2.1) (vx_c (va_Nw.use rfl hZ.2.2.2.2.2.2.1) (vx_n)))))) gd_C_127 hZ.2.2.2.2.2.2.2.2.2.2.2.2.2.2.2.2.2.2.2.2.2.2.2.1 hZ.2.2.2.2.2.2.2.2.2.2.2.2.2.2.2.2.2.2.2.2.2.2.2.2 hS (hl.1.trans hml.symm) dC_cover_45 dC_cover_48 dC_cover_49 dC_cover_51 dC_cover_54 (fun x h => (htb x h).elim) (Nat.le_of_ble_eq_true rfl) (Nat.le_of_ble_eq_true rfl) (Nat.le_of_ble_eq_true rfl) (Nat.le_of_ble_eq_true rfl) hlocks (fun t _ h1 h2 => ⟨(n_5, f_6), trivial, ⟨hw, (ct_thr hP hS h1 h2).1⟩, (ct_thr hP hS h1 h2).2⟩) hS.2.2 (Nat.le_of_ble_eq_true rfl) (Nat.le_of_ble_eq_true rfl)
  · have hw := hw.2 c7
    refine lv_iload hx hb dC_cover_19 (lv_at hl 5 rfl) ?_
    refine lv_iconst (v := 1) hx hb dC_cover_21 (by decide) ?_
    refine lv_icmp_eq (tgt := 35) hx hb dC_cover_22 (by decide) (fun c18 => ?_) (fun c18 => ?_)
    · have hw := hw.1 c18
      refine lv_iload_n hx hb dC_cover_35 rfl (lv_at hl 4 rfl) ?_
      refine lv_if_lt (tgt := 45) hx hb dC_cover_36 (by decide) (fun c19 => ?_) (fun c19 => ?_)
      · have hw := hw.1 c19
        exact vx_throwS (own := RC) (cls := "java/lang/IndexOutOfBoundsException") (text := "the cover has no such rule") (names := ["java/lang/RuntimeException", "java/lang/Exception"]) (ik := 123) (is := 125) (ic := 127) (sa := sa 15) hx hb hl9 hown (by decide +kernel) (by decide +kernel) (hts (.classLink RC 123 "java/lang/IndexOutOfBoundsException") (List.mem_cons_of_mem _ wt_411)) (hts (.initialized "java/lang/IndexOutOfBoundsException") (List.mem_cons_of_mem _ wt_37)) hZ.2.2.2.2.2.2.2.2.2.2.2.2.2.2.2.2.2.2.2.2.2.2.1 (vx_hat (L := vx_atS RC 127 "java/lang/IndexOutOfBoundsException" ["java/lang/RuntimeException", "java/lang/Exception"]) (B := [.castable "java/lang/IndexOutOfBoundsException" "java/lang/IndexOutOfBoundsException", .declares ⟨"java/lang/RuntimeException", "<init>", "(Ljava/lang/String;)V"⟩, .declares ⟨"java/lang/Exception", "<init>", "(Ljava/lang/String;)V"⟩, .declares ⟨"java/lang/Throwable", "<init>", "(Ljava/lang/String;)V"⟩]) (fun w hw => hts w (List.mem_cons_of_mem _ (at_C_127 w hw))) bd_C_127 (vx_c (va_Nw.use rfl hZ.2.2.2.1) (vx_c (va_Nw.use rfl hZ.2.2.2.2.1) (vx_c (va_Nw.use rfl hZ.2.2.2.2.2.1) (vx_c (va_Nw.use rfl hZ.2.2.2.2.2.2.1) (vx_n)))))) gd_C_127 hZ.2.2.2.2.2.2.2.2.2.2.2.2.2.2.2.2.2.2.2.2.2.2.2.1 hZ.2.2.2.2.2.2.2.2.2.2.2.2.2.2.2.2.2.2.2.2.2.2.2.2 hS (hl.1.trans hml.symm) dC_cover_45 dC_cover_48 dC_cover_49 dC_cover_51 dC_cover_54 (fun x h => (htb x h).elim) (Nat.le_of_ble_eq_true rfl) (Nat.le_of_ble_eq_true rfl) (Nat.le_of_ble_eq_true rfl) (Nat.le_of_ble_eq_true rfl) hlocks (fun t _ h1 h2 => ⟨(n_5, f_6), trivial, ⟨hw, (ct_thr hP hS h1 h2).1⟩, (ct_thr hP hS h1 h2).2⟩) hS.2.2 (Nat.le_of_ble_eq_true rfl) (Nat.le_of_ble_eq_true rfl)
      · have hw := hw.2 c19
        refine lv_iload_n hx hb dC_cover_39 rfl (lv_at hl 4 rfl) ?_
        refine lv_iload hx hb dC_cover_40 (lv_at hl 0 rfl) ?_
        refine lv_icmp_lt (tgt := 55) hx hb dC_cover_42 (by decide) (fun c20 => ?_) (fun c20 => ?_)
        · have hw := hw.1 c20
          refine lv_aload_n hx hb dC_cover_55 rfl (lv_at hl 1 rfl) ?_
          refine va_get (D := (dC, dI)) (ci := 0) (v := .ref (a 2)) (C := RC) (T := TC) (N := 2) hx hb hts (fun w h => List.mem_cons_of_mem _ (inC w h)) hown hK hP 0 rfl rfl 1 (by decide) (hts (.fieldLink RC 21 "CoverTrees" "forest" "LCoverTrees$Forest;") (List.mem_cons_of_mem _ wt_135)) (fun _ h9 => h9) rfl dC_cover_56 ?_
          refine lv_iload_n hx hb dC_cover_59 rfl (lv_at hl 2 rfl) ?_
          refine lv_iload_n hx hb dC_cover_60 rfl (lv_at hl 3 rfl) ?_
          refine ct_i (va_runS (As := [.int p1, .int p2]) (rest := [.ref (a 2)]) ⟨hx, hb, hml, hown, hts⟩ (met_C_place l dC dI a cA sa p1 p2 n_5 f_6 _ hw) (cwS 2 hts (wb_S wt_382 wt_315 wt_27 wt_316) rfl rfl rfl (by decide +kernel) ⟨Nat.le_of_ble_eq_true rfl, Nat.le_of_ble_eq_true rfl⟩) (ct_pre hK hP (hDa _ _) hZ hS hA) rfl rfl hl.1 rfl (lv_room (Nat.le_of_ble_eq_true rfl)) dC_cover_61 ⟨Nat.le_of_ble_eq_true rfl, Nat.le_of_ble_eq_true rfl⟩) (hDa _ _) hS hA (fun r21 n_22 f_23 H locs hw hP hS => ?_)
          refine lv_iload_n hx hb dC_cover_64 rfl (lv_at hl 4 rfl) ?_
          refine ct_i (va_runV (As := [.int r21, .int p3]) (rest := []) ⟨hx, hb, hml, hown, hts⟩ (met_F_findInCover l dC dI a cA sa r21 p3 n_22 f_23 _ hw) (cwV 2 hts (wb_V wt_427 wt_428 wt_429 wt_29 wt_430) rfl rfl rfl (by decide +kernel) ⟨Nat.le_of_ble_eq_true rfl, Nat.le_of_ble_eq_true rfl⟩) (ct_preV hK hP (hDa _ _) hZ hS hA (va_recv hK hP (ci := 2) (q0 := 2) rfl rfl)) rfl rfl hl.1 rfl (lv_room (Nat.le_of_ble_eq_true rfl)) dC_cover_65 ⟨Nat.le_of_ble_eq_true rfl, Nat.le_of_ble_eq_true rfl⟩) (hDa _ _) hS hA (fun r24 n_25 f_26 H locs hw hP hS => ?_)
          refine lv_istore (lv' := [(6, .int r24), (5, .int r4), (0, .ref (a 0)), (1, .int p1), (2, .int p2), (3, .int p3), (4, .int p4)]) hx hb dC_cover_68 hl (by decide) rfl (fun ls hl => ?_)
          refine lv_iload hx hb dC_cover_70 (lv_at hl 6 rfl) ?_
          refine lv_if_ne (tgt := 88) hx hb dC_cover_72 (by decide) (fun c27 => ?_) (fun c27 => ?_)
          · have hw := hw.1 c27
            refine lv_iload hx hb dC_cover_88 (lv_at hl 0 rfl) ?_
            refine lv_bipush (v := 8) hx hb dC_cover_90 (by decide) ?_
            refine lv_idiv hx hb dC_cover_92 (by decide) ?_
            exact False.elim hw
          · have hw := hw.2 c27
            refine lv_aload_n hx hb dC_cover_75 rfl (lv_at hl 2 rfl) ?_
            refine va_get (D := (dC, dI)) (ci := 0) (v := .ref (a 2)) (C := RC) (T := TC) (N := 2) hx hb hts (fun w h => List.mem_cons_of_mem _ (inC w h)) hown hK hP 0 rfl rfl 1 (by decide) (hts (.fieldLink RC 21 "CoverTrees" "forest" "LCoverTrees$Forest;") (List.mem_cons_of_mem _ wt_135)) (fun _ h9 => h9) rfl dC_cover_76 ?_
            refine va_get (D := (dC, dI)) (ci := 2) (v := .ref (a 15)) (C := RF) (T := TF) (N := 11) hx hb hts (fun w h => List.mem_cons_of_mem _ (inF w h)) hown hK hP 2 rfl rfl 8 (by decide) (hts (.fieldLink RC 115 "CoverTrees$Forest" "rule" "[I") (List.mem_cons_of_mem _ wt_106)) (fun _ h9 => h9) rfl dC_cover_79 ?_
            refine lv_iload hx hb dC_cover_82 (lv_at hl 0 rfl) ?_
            obtain ⟨hi28, hw⟩ := hw
            refine va_iald hx hb hK hP 15 12 rfl rfl hi28 dC_cover_84 ?_
            refine lv_goto (tgt := 93) hx hb dC_cover_85 (by decide) ?_
            exact False.elim hw
        · have hw := hw.2 c20
          exact vx_throwS (own := RC) (cls := "java/lang/IndexOutOfBoundsException") (text := "the cover has no such rule") (names := ["java/lang/RuntimeException", "java/lang/Exception"]) (ik := 123) (is := 125) (ic := 127) (sa := sa 15) hx hb hl9 hown (by decide +kernel) (by decide +kernel) (hts (.classLink RC 123 "java/lang/IndexOutOfBoundsException") (List.mem_cons_of_mem _ wt_411)) (hts (.initialized "java/lang/IndexOutOfBoundsException") (List.mem_cons_of_mem _ wt_37)) hZ.2.2.2.2.2.2.2.2.2.2.2.2.2.2.2.2.2.2.2.2.2.2.1 (vx_hat (L := vx_atS RC 127 "java/lang/IndexOutOfBoundsException" ["java/lang/RuntimeException", "java/lang/Exception"]) (B := [.castable "java/lang/IndexOutOfBoundsException" "java/lang/IndexOutOfBoundsException", .declares ⟨"java/lang/RuntimeException", "<init>", "(Ljava/lang/String;)V"⟩, .declares ⟨"java/lang/Exception", "<init>", "(Ljava/lang/String;)V"⟩, .declares ⟨"java/lang/Throwable", "<init>", "(Ljava/lang/String;)V"⟩]) (fun w hw => hts w (List.mem_cons_of_mem _ (at_C_127 w hw))) bd_C_127 (vx_c (va_Nw.use rfl hZ.2.2.2.1) (vx_c (va_Nw.use rfl hZ.2.2.2.2.1) (vx_c (va_Nw.use rfl hZ.2.2.2.2.2.1) (vx_c (va_Nw.use rfl hZ.2.2.2.2.2.2.1) (vx_n)))))) gd_C_127 hZ.2.2.2.2.2.2.2.2.2.2.2.2.2.2.2.2.2.2.2.2.2.2.2.1 hZ.2.2.2.2.2.2.2.2.2.2.2.2.2.2.2.2.2.2.2.2.2.2.2.2 hS (hl.1.trans hml.symm) dC_cover_45 dC_cover_48 dC_cover_49 dC_cover_51 dC_cover_54 (fun x h => (htb x h).elim) (Nat.le_of_ble_eq_true rfl) (Nat.le_of_ble_eq_true rfl) (Nat.le_of_ble_eq_true rfl) (Nat.le_of_ble_eq_true rfl) hlocks (fun t _ h1 h2 => ⟨(n_5, f_6), trivial, ⟨hw, (ct_thr hP hS h1 h2).1⟩, (ct_thr hP hS h1 h2).2⟩) hS.2.2 (Nat.le_of_ble_eq_true rfl) (Nat.le_of_ble_eq_true rfl)
    · have hw := hw.2 c18
      exact vx_throwS (own := RC) (cls := "java/lang/IllegalArgumentException") (text := "what is 0 or 1") (names := ["java/lang/RuntimeException", "java/lang/Exception"]) (ik := 35) (is := 121) (ic := 39) (sa := sa 14) hx hb hl9 hown (by decide +kernel) (by decide +kernel) (hts (.classLink RC 35 "java/lang/IllegalArgumentException") (List.mem_cons_of_mem _ wt_166)) (hts (.initialized "java/lang/IllegalArgumentException") (List.mem_cons_of_mem _ wt_34)) hZ.2.2.2.2.2.2.2.2.2.2.2.2.2.2.2.2.2.2.2.2.2.1 (vx_hat (L := vx_atS RC 39 "java/lang/IllegalArgumentException" ["java/lang/RuntimeException", "java/lang/Exception"]) (B := [.castable "java/lang/IllegalArgumentException" "java/lang/IllegalArgumentException", .declares ⟨"java/lang/RuntimeException", "<init>", "(Ljava/lang/String;)V"⟩, .declares ⟨"java/lang/Exception", "<init>", "(Ljava/lang/String;)V"⟩, .declares ⟨"java/lang/Throwable", "<init>", "(Ljava/lang/String;)V"⟩]) (fun w hw => hts w (List.mem_cons_of_mem _ (at_C_39 w hw))) bd_C_39 (vx_c (va_Nw.use rfl hZ.2.1) (vx_c (va_Nw.use rfl hZ.2.2.2.2.1) (vx_c (va_Nw.use rfl hZ.2.2.2.2.2.1) (vx_c (va_Nw.use rfl hZ.2.2.2.2.2.2.1) (vx_n)))))) gd_C_39 hZ.2.2.2.2.2.2.2.2.2.2.2.2.2.2.2.2.2.2.2.2.2.2.2.1 hZ.2.2.2.2.2.2.2.2.2.2.2.2.2.2.2.2.2.2.2.2.2.2.2.2 hS (hl.1.trans hml.symm) dC_cover_25 dC_cover_28 dC_cover_29 dC_cover_31 dC_cover_34 (fun x h => (htb x h).elim) (Nat.le_of_ble_eq_true rfl) (Nat.le_of_ble_eq_true rfl) (Nat.le_of_ble_eq_true rfl) (Nat.le_of_ble_eq_true rfl) hlocks (fun t _ h1 h2 => ⟨(n_5, f_6), trivial, ⟨hw, (ct_thr hP hS h1 h2).1⟩, (ct_thr hP hS h1 h2).2⟩) hS.2.2 (Nat.le_of_ble_eq_true rfl) (Nat.le_of_ble_eq_true rfl)
def wp_C_states (post : Int32 → ctN → ctF → Prop) (n : ctN) (f : ctF) : Prop := wp_F_countStates (fun (r1 : Int32) (n_2 : ctN) (f_3 : ctF) => post r1 n_2 f_3) n f
set_option maxHeartbeats 4000000 in
set_option maxRecDepth 100000 in
theorem met_C_states (l : Launch) (dC : Nat → ClassId) (dI : Nat → Nat → Nat) (a : Nat → Nat) (cA : Nat → ClassId) (sa : Nat → Nat) (n : ctN) (f : ctF) (sz : Nat) {post : Int32 → ctN → ctF → Prop} (hw : wp_C_states post n f) : Met l yC_states wsC_states ({ frames := 1, cells := 0, slots := 0, locals := 22 } : Room) (ct_Pc dC dI a cA sa [.ref (a 0)] n f sz) (va_Qi (fun (r : Int32) (u : ctN × ctF) => post r u.1 u.2) (ct_B dC dI a cA) (va_A (ctW a cA n f) sz)) 0 0 (va_A (ctW a cA n f) sz) := by
  refine Met.ofW (cc := cC_states) (maxL := 1) (ret := (some .int)) (by decide) rfl ?_
  intro p e s m args below meth c s₁ B hml hv
  obtain ⟨rfl, hsz, hP, hK, hD0, hZ⟩ := hv
  have hx := B.exec
  have hb := B.bytes
  have hr := B.returns
  have hts := atoms_spec (ws := wsC_states) B.pre
  have hown : s.vm.findClass RC = some m.cls := findClass_of_methodNamed B.named
  have hlocks := B.notSynchronized
  subst hsz
  have hD := hD0.self (sz := s.heap.size)
  generalize hAe : va_A (ctW a cA n f) s.heap.size = A at hD hZ ⊢
  have hDa : ∀ (n : ctN) (f : ctF), va_D A (ctW a cA n f) := fun _ _ => ct_D hD
  have hA : ∀ q : Nat, s.heap.size ≤ q → A q := fun q h => by rw [← hAe]; exact Or.inr h
  have hS : va_S A s.heap s.heap [] := va_S.rf
  have hl := lv_entry ([.ref (a 0)]) (n := 1) (Nat.le_of_ble_eq_true rfl)
  rw [lg_entry_eq]
  generalize (lg_sl ([.ref (a 0)]) ++ List.replicate (1 - (lg_sl ([.ref (a 0)])).length) Slot.unset).toArray = ls at hl ⊢
  have hl : lv_has ls 1 [(0, .ref (a 0))] := hl
  unfold wp_C_states at hw
  refine lv_aload_n hx hb dC_states_0 rfl (lv_at hl 0 rfl) ?_
  refine va_get (D := (dC, dI)) (ci := 0) (v := .ref (a 2)) (C := RC) (T := TC) (N := 2) hx hb hts (fun w h => List.mem_cons_of_mem _ (inC w h)) hown hK hP 0 rfl rfl 1 (by decide) (hts (.fieldLink RC 21 "CoverTrees" "forest" "LCoverTrees$Forest;") (List.mem_cons_of_mem _ wt_135)) (fun _ h9 => h9) rfl dC_states_1 ?_
  refine ct_i (va_runV (As := []) (rest := []) ⟨hx, hb, hml, hown, hts⟩ (met_F_countStates l dC dI a cA sa n f _ hw) (cwV 0 hts (wb_V wt_153 wt_154 wt_155 wt_29 wt_156) rfl rfl rfl (by decide +kernel) ⟨Nat.le_of_ble_eq_true rfl, Nat.le_of_ble_eq_true rfl⟩) (ct_preV hK hP (hDa _ _) hZ hS hA (va_recv hK hP (ci := 2) (q0 := 2) rfl rfl)) rfl rfl hl.1 rfl (lv_room (Nat.le_of_ble_eq_true rfl)) dC_states_4 ⟨Nat.le_of_ble_eq_true rfl, Nat.le_of_ble_eq_true rfl⟩) (hDa _ _) hS hA (fun r1 n_2 f_3 H locs hw hP hS => ?_)
  exact W.iret (v := r1) hx hb hr (fun t ht hW => ⟨⟨r1, (n_2, f_3), rfl, hw, ct_mkB ht hP⟩, hS.F ht⟩) hS.2.2 dC_states_7
def wp_C_like (post : Int32 → ctN → ctF → Prop) (xp : String → ctN → ctF → Prop) (p1 : Int32) (n : ctN) (f : ctF) : Prop := wp_F_has (fun (r1 : Int32) (n_2 : ctN) (f_3 : ctF) => (¬ r1 = 0 → (vp_in p1 120 ∧ (post (f_3 13 p1.toNatClampNeg) n_2 f_3))) ∧ (r1 = 0 → (xp "java/lang/IllegalArgumentException" n_2 f_3))) p1 n f
set_option maxHeartbeats 4000000 in
set_option maxRecDepth 100000 in
theorem met0_C_like (l : Launch) (dC : Nat → ClassId) (dI : Nat → Nat → Nat) (a : Nat → Nat) (cA : Nat → ClassId) (sa : Nat → Nat) (p1 : Int32) (n : ctN) (f : ctF) (sz : Nat) {post : Int32 → ctN → ctF → Prop} (hw : wp_C_like post xF p1 n f) : Met l yC_like wsC_like ({ frames := 6, cells := 0, slots := 0, locals := 90 } : Room) (ct_Pc dC dI a cA sa [.ref (a 0), .int p1] n f sz) (va_Qi (fun (r : Int32) (u : ctN × ctF) => post r u.1 u.2) (ct_B dC dI a cA) (va_A (ctW a cA n f) sz)) 0 0 (va_A (ctW a cA n f) sz) := by
  refine Met.ofW (cc := cC_like) (maxL := 2) (ret := (some .int)) (by decide) rfl ?_
  intro p e s m args below meth c s₁ B hml hv
  obtain ⟨rfl, hsz, hP, hK, hD0, hZ⟩ := hv
  have hx := B.exec
  have hb := B.bytes
  have hr := B.returns
  have hts := atoms_spec (ws := wsC_like) B.pre
  have hown : s.vm.findClass RC = some m.cls := findClass_of_methodNamed B.named
  have hlocks := B.notSynchronized
  subst hsz
  have hD := hD0.self (sz := s.heap.size)
  generalize hAe : va_A (ctW a cA n f) s.heap.size = A at hD hZ ⊢
  have hDa : ∀ (n : ctN) (f : ctF), va_D A (ctW a cA n f) := fun _ _ => ct_D hD
  have hA : ∀ q : Nat, s.heap.size ≤ q → A q := fun q h => by rw [← hAe]; exact Or.inr h
  have hS : va_S A s.heap s.heap [] := va_S.rf
  have hl := lv_entry ([.ref (a 0), .int p1]) (n := 2) (Nat.le_of_ble_eq_true rfl)
  rw [lg_entry_eq]
  generalize (lg_sl ([.ref (a 0), .int p1]) ++ List.replicate (2 - (lg_sl ([.ref (a 0), .int p1])).length) Slot.unset).toArray = ls at hl ⊢
  have hl : lv_has ls 2 [(0, .ref (a 0)), (1, .int p1)] := hl
  unfold wp_C_like at hw
  refine lv_aload_n hx hb dC_like_0 rfl (lv_at hl 0 rfl) ?_
  refine va_get (D := (dC, dI)) (ci := 0) (v := .ref (a 2)) (C := RC) (T := TC) (N := 2) hx hb hts (fun w h => List.mem_cons_of_mem _ (inC w h)) hown hK hP 0 rfl rfl 1 (by decide) (hts (.fieldLink RC 21 "CoverTrees" "forest" "LCoverTrees$Forest;") (List.mem_cons_of_mem _ wt_135)) (fun _ h9 => h9) rfl dC_like_1 ?_
  refine lv_iload_n hx hb dC_like_4 rfl (lv_at hl 1 rfl) ?_
  refine ct_i (va_runV (As := [.int p1]) (rest := []) ⟨hx, hb, hml, hown, hts⟩ (met_F_has l dC dI a cA sa p1 n f _ hw) (cwV 1 hts (wb_V wt_300 wt_301 wt_302 wt_29 wt_303) rfl rfl rfl (by decide +kernel) ⟨Nat.le_of_ble_eq_true rfl, Nat.le_of_ble_eq_true rfl⟩) (ct_preV hK hP (hDa _ _) hZ hS hA (va_recv hK hP (ci := 2) (q0 := 2) rfl rfl)) rfl rfl hl.1 rfl (lv_room (Nat.le_of_ble_eq_true rfl)) dC_like_5 ⟨Nat.le_of_ble_eq_true rfl, Nat.le_of_ble_eq_true rfl⟩) (hDa _ _) hS hA (fun r1 n_2 f_3 H locs hw hP hS => ?_)
  refine lv_if_ne (tgt := 21) hx hb dC_like_8 (by decide) (fun c4 => ?_) (fun c4 => ?_)
  · have hw := hw.1 c4
    refine lv_aload_n hx hb dC_like_21 rfl (lv_at hl 0 rfl) ?_
    refine va_get (D := (dC, dI)) (ci := 0) (v := .ref (a 2)) (C := RC) (T := TC) (N := 2) hx hb hts (fun w h => List.mem_cons_of_mem _ (inC w h)) hown hK hP 0 rfl rfl 1 (by decide) (hts (.fieldLink RC 21 "CoverTrees" "forest" "LCoverTrees$Forest;") (List.mem_cons_of_mem _ wt_135)) (fun _ h9 => h9) rfl dC_like_22 ?_
    refine va_get (D := (dC, dI)) (ci := 2) (v := .ref (a 13)) (C := RF) (T := TF) (N := 11) hx hb hts (fun w h => List.mem_cons_of_mem _ (inF w h)) hown hK hP 2 rfl rfl 6 (by decide) (hts (.fieldLink RC 134 "CoverTrees$Forest" "like" "[I") (List.mem_cons_of_mem _ wt_102)) (fun _ h9 => h9) rfl dC_like_25 ?_
    refine lv_iload_n hx hb dC_like_28 rfl (lv_at hl 1 rfl) ?_
    obtain ⟨hi5, hw⟩ := hw
    refine va_iald hx hb hK hP 13 10 rfl rfl hi5 dC_like_29 ?_
    exact W.iret (v := (f_3 13 p1.toNatClampNeg)) hx hb hr (fun t ht hW => ⟨⟨(f_3 13 p1.toNatClampNeg), (n_2, f_3), rfl, hw, ct_mkB ht hP⟩, hS.F ht⟩) hS.2.2 dC_like_30
  · have hw := hw.2 c4
    exact False.elim hw
set_option maxHeartbeats 4000000 in
set_option maxRecDepth 100000 in
theorem metx_C_like (l : Launch) (hl9 : l.stackTraces = false) (dC : Nat → ClassId) (dI : Nat → Nat → Nat) (a : Nat → Nat) (cA : Nat → ClassId) (sa : Nat → Nat) (p1 : Int32) (n : ctN) (f : ctF) (sz : Nat) {xp : String → ctN → ctF → Prop} (hw : wp_C_like pFi xp p1 n f) : vx_Met l yC_like wsC_like ({ frames := 6, cells := 1, slots := 6, locals := 90 } : Room) (ct_Pc dC dI a cA sa [.ref (a 0), .int p1] n f sz) (va_Qi (fun (r : Int32) (u : ctN × ctF) => pFi r u.1 u.2) (ct_B dC dI a cA) (va_A (ctW a cA n f) sz)) (vx_X (fun (_ : ctN × ctF) => True) (fun E u t => xp E u.1 u.2 ∧ ct_B dC dI a cA u t) (va_A (ctW a cA n f) sz)) 1 6 (va_A (ctW a cA n f) sz) := by
  refine vx_ofW (cc := cC_like) (maxL := 2) (ret := (some .int)) (by decide) rfl ?_
  intro p e s m args below meth c s₁ B hml htb hv
  obtain ⟨rfl, hsz, hP, hK, hD0, hZ⟩ := hv
  have hx := B.exec
  have hb := B.bytes
  have hr := B.returns
  have hts := atoms_spec (ws := wsC_like) B.pre
  have hown : s.vm.findClass RC = some m.cls := findClass_of_methodNamed B.named
  have hlocks := B.notSynchronized
  subst hsz
  have hD := hD0.self (sz := s.heap.size)
  generalize hAe : va_A (ctW a cA n f) s.heap.size = A at hD hZ ⊢
  have hDa : ∀ (n : ctN) (f : ctF), va_D A (ctW a cA n f) := fun _ _ => ct_D hD
  have hA : ∀ q : Nat, s.heap.size ≤ q → A q := fun q h => by rw [← hAe]; exact Or.inr h
  have hS : va_S A s.heap s.heap [] := va_S.rf
  have hl := lv_entry ([.ref (a 0), .int p1]) (n := 2) (Nat.le_of_ble_eq_true rfl)
  rw [lg_entry_eq]
  generalize (lg_sl ([.ref (a 0), .int p1]) ++ List.replicate (2 - (lg_sl ([.ref (a 0), .int p1])).length) Slot.unset).toArray = ls at hl ⊢
  have hl : lv_has ls 2 [(0, .ref (a 0)), (1, .int p1)] := hl
  unfold wp_C_like at hw
  refine lv_aload_n hx hb dC_like_0 rfl (lv_at hl 0 rfl) ?_
  refine va_get (D := (dC, dI)) (ci := 0) (v := .ref (a 2)) (C := RC) (T := TC) (N := 2) hx hb hts (fun w h => List.mem_cons_of_mem _ (inC w h)) hown hK hP 0 rfl rfl 1 (by decide) (hts (.fieldLink RC 21 "CoverTrees" "forest" "LCoverTrees$Forest;") (List.mem_cons_of_mem _ wt_135)) (fun _ h9 => h9) rfl dC_like_1 ?_
  refine lv_iload_n hx hb dC_like_4 rfl (lv_at hl 1 rfl) ?_
  refine ct_i (va_runV (As := [.int p1]) (rest := []) ⟨hx, hb, hml, hown, hts⟩ (met_F_has l dC dI a cA sa p1 n f _ hw) (cwV 1 hts (wb_V wt_300 wt_301 wt_302 wt_29 wt_303) rfl rfl rfl (by decide +kernel) ⟨Nat.le_of_ble_eq_true rfl, Nat.le_of_ble_eq_true rfl⟩) (ct_preV hK hP (hDa _ _) hZ hS hA (va_recv hK hP (ci := 2) (q0 := 2) rfl rfl)) rfl rfl hl.1 rfl (lv_room (Nat.le_of_ble_eq_true rfl)) dC_like_5 ⟨Nat.le_of_ble_eq_true rfl, Nat.le_of_ble_eq_true rfl⟩) (hDa _ _) hS hA (fun r1 n_2 f_3 H locs hw hP hS => ?_)
  refine lv_if_ne (tgt := 21) hx hb dC_like_8 (by decide) (fun c4 => ?_) (fun c4 => ?_)
  · have hw := hw.1 c4
    refine lv_aload_n hx hb dC_like_21 rfl (lv_at hl 0 rfl) ?_
    refine va_get (D := (dC, dI)) (ci := 0) (v := .ref (a 2)) (C := RC) (T := TC) (N := 2) hx hb hts (fun w h => List.mem_cons_of_mem _ (inC w h)) hown hK hP 0 rfl rfl 1 (by decide) (hts (.fieldLink RC 21 "CoverTrees" "forest" "LCoverTrees$Forest;") (List.mem_cons_of_mem _ wt_135)) (fun _ h9 => h9) rfl dC_like_22 ?_
    refine va_get (D := (dC, dI)) (ci := 2) (v := .ref (a 13)) (C := RF) (T := TF) (N := 11) hx hb hts (fun w h => List.mem_cons_of_mem _ (inF w h)) hown hK hP 2 rfl rfl 6 (by decide) (hts (.fieldLink RC 134 "CoverTrees$Forest" "like" "[I") (List.mem_cons_of_mem _ wt_102)) (fun _ h9 => h9) rfl dC_like_25 ?_
    refine lv_iload_n hx hb dC_like_28 rfl (lv_at hl 1 rfl) ?_
    obtain ⟨hi5, hw⟩ := hw
    refine va_iald hx hb hK hP 13 10 rfl rfl hi5 dC_like_29 ?_
    exact False.elim hw
  · have hw := hw.2 c4
    exact vx_throwS (own := RC) (cls := "java/lang/IllegalArgumentException") (text := "no such node") (names := ["java/lang/RuntimeException", "java/lang/Exception"]) (ik := 35) (is := 86) (ic := 39) (sa := sa 9) hx hb hl9 hown (by decide +kernel) (by decide +kernel) (hts (.classLink RC 35 "java/lang/IllegalArgumentException") (List.mem_cons_of_mem _ wt_166)) (hts (.initialized "java/lang/IllegalArgumentException") (List.mem_cons_of_mem _ wt_34)) hZ.2.2.2.2.2.2.2.2.2.2.2.2.2.2.2.2.1 (vx_hat (L := vx_atS RC 39 "java/lang/IllegalArgumentException" ["java/lang/RuntimeException", "java/lang/Exception"]) (B := [.castable "java/lang/IllegalArgumentException" "java/lang/IllegalArgumentException", .declares ⟨"java/lang/RuntimeException", "<init>", "(Ljava/lang/String;)V"⟩, .declares ⟨"java/lang/Exception", "<init>", "(Ljava/lang/String;)V"⟩, .declares ⟨"java/lang/Throwable", "<init>", "(Ljava/lang/String;)V"⟩]) (fun w hw => hts w (List.mem_cons_of_mem _ (at_C_39 w hw))) bd_C_39 (vx_c (va_Nw.use rfl hZ.2.1) (vx_c (va_Nw.use rfl hZ.2.2.2.2.1) (vx_c (va_Nw.use rfl hZ.2.2.2.2.2.1) (vx_c (va_Nw.use rfl hZ.2.2.2.2.2.2.1) (vx_n)))))) gd_C_39 hZ.2.2.2.2.2.2.2.2.2.2.2.2.2.2.2.2.2.2.2.2.2.2.2.1 hZ.2.2.2.2.2.2.2.2.2.2.2.2.2.2.2.2.2.2.2.2.2.2.2.2 hS (hl.1.trans hml.symm) dC_like_11 dC_like_14 dC_like_15 dC_like_17 dC_like_20 (fun x h => (htb x h).elim) (Nat.le_of_ble_eq_true rfl) (Nat.le_of_ble_eq_true rfl) (Nat.le_of_ble_eq_true rfl) (Nat.le_of_ble_eq_true rfl) hlocks (fun t _ h1 h2 => ⟨(n_2, f_3), trivial, ⟨hw, (ct_thr hP hS h1 h2).1⟩, (ct_thr hP hS h1 h2).2⟩) hS.2.2 (Nat.le_of_ble_eq_true rfl) (Nat.le_of_ble_eq_true rfl)
end
