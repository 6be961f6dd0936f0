/-- the claim refuted, in the Statement's own words -/
theorem fs_ints : fs1.about.IntsAt 0 scr_at := ⟨_, rfl, by decide +kernel, ⟨(fun k h => nomatch h), _, rfl, _, rfl⟩, by decide⟩
theorem refuted_1_2 : RefutedClaimed_1_2 := by
  obtain ⟨hL, hW, ha, hle, hc, hk, hf, hfit, hheap, happ, hca, hr, hP⟩ := fs1.atStart
  obtain ⟨n, o, w, r, e, q, -⟩ := scr_zero launch0 (by unfold Launch.stackTraces; decide) (p := fs1.p0) ha hc hk hf happ hP rfl fs_ints
  refine ⟨launch0, fs1.p0, fs1.e0, fs1.about, ⟨0, 0⟩, fs1.args0, Lib.HandBits.below0, rfl, fs1.atStart, n, o, w, r, e, fun g => ?_⟩
  have q1 := g.1
  rw [q] at q1
  have q1 : limb_1_2.after fs1.args0 fs1.about (.returned (some (.int 0))) (stepsAlone fs1.p0.tables fs1.e0 n fs1.about) = true := q1
  have q1 := Cond.after_iff.mp q1
  first | (rw [show limb_1_2 = Cond.eq .result (.int 1) from rfl, Cond.eq_ints (x := 0) (y := 1) rfl rfl] at q1; simp at q1; done) | (simp [limb_1_2, Cond.value, Term.eval] at q1; done)
theorem not_claimed : ¬ (Claimed_1_1 ∧ Claimed_1_2) := claim_false ⟨launch0, fs1.p0, fs1.e0, fs1.about, ⟨0, 0⟩, fs1.args0, Lib.HandBits.below0, 0, rfl, fs1.atStart, rfl, fs_ints⟩
