/-! the script: [2, 0, 0, 0, 0, 0, 3, 0, 0, 0, 0, 0, 4, 1, 0, 0, 0, 0, 4, 2, 1, 0, 0, 0, 4, 2, 0, 0, 0, 0, 5, 0, 0, 0, 0, 0, 7, 0, 2, 0, 0, 0] -/
def scr_at : List Int32 := [2, 0, 0, 0, 0, 0, 3, 0, 0, 0, 0, 0, 4, 1, 0, 0, 0, 0, 4, 2, 1, 0, 0, 0, 4, 2, 0, 0, 0, 0, 5, 0, 0, 0, 0, 0, 7, 0, 2, 0, 0, 0]
set_option maxRecDepth 100000 in
theorem scr_ev : ev_law (fun j => scr_at.getD j 0) scr_at.length 8 0 (fun _ => 0) (fun _ _ => 0) = true := by decide +kernel
theorem scr_pure : ∃ k, k ≤ lwK ∧ wp_law0 (fun j => scr_at.getD j 0) scr_at.length k 0 (fun _ => 0) (fun _ _ => 0) := ⟨8, by decide, sd_law _ _ _ _ _ _ scr_ev⟩
/-- at every start that meets the premises and holds this script the law returns, and answers 0 -/
theorem scr_zero (l : Launch) (hl9 : l.stackTraces = false) {p : Program} {e : Env} (ha : l.admits e) (hc : FairCas e.choices) (hk : FairClock e.choices) {s : State} {m : MethodId} {args : Array Value} {below : List Frame} (hf : s.frames = Frame.invoking m args :: below) (happ : (headSpec (Jvm.Cond.code x code maxLocals ret :: tables_1) room_1).applies x e.platform s = true) (hpre : (Jvm.Cond.and given_1 narrow_1).before args s = true) {b : Addr} (hb : args = #[.ref b]) (hs : s.IntsAt b scr_at) : ∃ n o, (∀ k, k < n → Within (stepsAlone p.tables e k s) below) ∧ (stepsAlone p.tables e n s).status = .running ∧ Ended (stepsAlone p.tables e n s) below o ∧ lw_Q0 args s o (stepsAlone p.tables e n s) :=
  lw_walk0 l hl9 b scr_at scr_pure p e ha hc hk s m args below hf ((Spec.applies_iff_loose hf).mp happ).1 ⟨hb, hs, by decide, hpre⟩ trivial
/-- so the claim is false if there is any start at all that holds this script -/
theorem claim_false (h : ∃ (l : Launch) (p : Program) (e : Env) (s : State) (m : MethodId) (args : Array Value) (below : List Frame) (b : Addr), l.flags = flags0 ∧ AtStart classFile x code maxLocals ret World_1 tables_1 room_1 Calls_1 rest_1 Pre_1 l p e s m args below ∧ args = #[.ref b] ∧ s.IntsAt b scr_at) : ¬ (Claimed_1_1 ∧ Claimed_1_2) := by
  obtain ⟨l, p, e, s, m, args, below, b, hfl, hst, hb, hs⟩ := h
  obtain ⟨hL, hW, ha, -, hc, hk, hf, hfit, hheap, happ, hca, hr, hP⟩ := hst
  intro C
  obtain ⟨n1, o1, w1, r1, e1, q1, -⟩ := C.2 l hfl hL hW p e ha hc hk s m args below hf hfit hheap happ ⟨hca, hr, hP⟩
  obtain ⟨n2, o2, w2, r2, e2, q2, -⟩ := scr_zero l (by unfold Launch.stackTraces; rw [hfl]; decide) (p := p) ha hc hk hf happ hP hb hs
  rcases Nat.lt_trichotomy n1 n2 with g | g | g
  · exact e1.not_within (w2 n1 g)
  · subst g
    have ho := e1.outcome_unique e2
    rw [ho, q2] at q1
    have q1 : limb_1_2.after args s (.returned (some (.int 0))) (stepsAlone p.tables e n1 s) = true := q1
    have q1 := Cond.after_iff.mp q1
    first | (rw [show limb_1_2 = Cond.eq .result (.int 1) from rfl, Cond.eq_ints (x := 0) (y := 1) rfl rfl] at q1; simp at q1; done) | (simp [limb_1_2, Cond.value, Term.eval] at q1; done)
  · exact e2.not_within (w1 n2 g)
