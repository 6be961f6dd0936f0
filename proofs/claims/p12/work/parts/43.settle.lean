/-! the grammar and the trees as numbers -/
def GD : Type := (Nat) × (Nat) × (Nat → Nat) × (Nat → Nat) × (Nat → Nat) × (Nat → Nat) × (Nat → Nat) × (Nat → Option Nat)
def GD.O (X : GD) : Nat := X.1
def GD.R (X : GD) : Nat := X.2.1
def GD.k (X : GD) : Nat → Nat := X.2.2.1
def GD.go (X : GD) : Nat → Nat := X.2.2.2.1
def GD.co (X : GD) : Nat → Nat := X.2.2.2.2.1
def GD.g1 (X : GD) : Nat → Nat := X.2.2.2.2.2.1
def GD.g2 (X : GD) : Nat → Nat := X.2.2.2.2.2.2.1
def GD.op (X : GD) : Nat → Option Nat := X.2.2.2.2.2.2.2
def GD.mk (O : Nat) (R : Nat) (k : Nat → Nat) (go : Nat → Nat) (co : Nat → Nat) (g1 : Nat → Nat) (g2 : Nat → Nat) (op : Nat → Option Nat) : GD := (O, R, k, go, co, g1, g2, op)
def GD.ok (G : GD) : Prop := (G.O ≤ 10) ∧ (G.R ≤ 40) ∧ (∀ o, o < G.O → G.k o ≤ 2) ∧ (∀ i, i < G.R → G.go i < 8 ∧ G.co i ≤ 20 ∧ G.g1 i < 8 ∧ G.g2 i < 8 ∧ ∀ o, G.op i = some o → o < G.O)
theorem GD.ok.O10 {G : GD} (h : GD.ok G) : G.O ≤ 10 := h.1
theorem GD.ok.R40 {G : GD} (h : GD.ok G) : G.R ≤ 40 := h.2.1
theorem GD.ok.k2 {G : GD} (h : GD.ok G) : ∀ o, o < G.O → G.k o ≤ 2 := h.2.2.1
theorem GD.ok.ru {G : GD} (h : GD.ok G) : ∀ i, i < G.R → G.go i < 8 ∧ G.co i ≤ 20 ∧ G.g1 i < 8 ∧ G.g2 i < 8 ∧ ∀ o, G.op i = some o → o < G.O := h.2.2.2
def gC (G : GD) (n : ctN) (f : ctF) : Prop := (n 0 = nI G.O) ∧ (n 1 = nI G.R) ∧ (∀ o, o < G.O → f 3 o = nI (G.k o)) ∧ (∀ i, i < G.R → f 4 i = nI (G.go i) ∧ f 5 i = en (G.op i) ∧ f 6 i = nI (G.g1 i) ∧ f 7 i = nI (G.g2 i) ∧ f 8 i = nI (G.co i))
theorem gC.nO {G : GD} {n : ctN} {f : ctF} (h : gC G n f) : n 0 = nI G.O := h.1
theorem gC.nR {G : GD} {n : ctN} {f : ctF} (h : gC G n f) : n 1 = nI G.R := h.2.1
theorem gC.pa {G : GD} {n : ctN} {f : ctF} (h : gC G n f) : ∀ o, o < G.O → f 3 o = nI (G.k o) := h.2.2.1
theorem gC.ru {G : GD} {n : ctN} {f : ctF} (h : gC G n f) : ∀ i, i < G.R → f 4 i = nI (G.go i) ∧ f 5 i = en (G.op i) ∧ f 6 i = nI (G.g1 i) ∧ f 7 i = nI (G.g2 i) ∧ f 8 i = nI (G.co i) := h.2.2.2
def chG (G : GD) (i : Nat) : Bool := match G.op i with
  | none => true
  | some _ => false
theorem gC.up {G : GD} {n n' : ctN} {f f' : ctF} (h : gC G n f) (e0 : n' 0 = n 0) (e1 : n' 1 = n 1) (e : ∀ k, 3 ≤ k → k ≤ 8 → f' k = f k) : gC G n' f' :=
  ⟨by rw [e0]; exact h.nO, by rw [e1]; exact h.nR, fun o ho => by rw [e 3 (by decide) (by decide)]; exact h.pa o ho, fun i hi => by
    rw [e 4 (by decide) (by decide), e 5 (by decide) (by decide), e 6 (by decide) (by decide), e 7 (by decide) (by decide), e 8 (by decide) (by decide)]; exact h.ru i hi⟩
theorem gC.same {G : GD} {n : ctN} {f f' : ctF} {N : Nat} (h : gC G n f) (e : sameBut N f f') : gC G n f' :=
  h.up rfl rfl (fun k _ _ => e.1 k (by omega) (by omega) (by omega) (by omega) (by omega))
theorem GD.op_lt {G : GD} (h : G.ok) {i : Nat} (hi : i < G.R) {o : Nat} (e : G.op i = some o) : o < 2 ^ 31 := by
  have := (h.ru i hi).2.2.2.2 o e
  have := h.O10
  omega
theorem GD.op_m1 {G : GD} (h : G.ok) {i : Nat} (hi : i < G.R) : en (G.op i) = -1 ↔ chG G i = true := by
  rw [en_m1 (fun k hk => GD.op_lt h hi hk)]
  unfold chG
  cases G.op i with
  | none => exact ⟨fun _ => rfl, fun _ => rfl⟩
  | some o => exact ⟨(fun q => nomatch q), (fun q => nomatch q)⟩
/-- the draft while its goals are settled -/
def q_stJ (G : GD) (pr : Nat → Option Nat) (N : Nat) (f0 f : ctF) (S : Nat → Bool) (C Q : Nat → Option Nat) : Prop := (sameBut N f0 f) ∧ (rowC N f C Q) ∧ (flagS f S) ∧ (bndC C) ∧ (aboveC G.R G.go (chG G) G.g1 G.co pr C) ∧ (∀ i y, i < G.R → chG G i = false → pr i = some y → ∃ x, C (G.go i) = some x ∧ x ≤ y) ∧ (∀ g i, Q g = some i → i < G.R) ∧ (∀ g, C g = none ↔ Q g = none) ∧ (∀ s, S s = true → ∃ x, C s = some x ∧ (∀ g y, g < 8 → S g = false → C g = some y → x ≤ y) ∧ ∀ i, i < G.R → chG G i = true → G.g1 i = s → ∃ w, C (G.go i) = some w ∧ w ≤ x + G.co i) ∧ (∀ g, g < 8 → szOK (f 16 (8 * N + g)) ∧ (S g = false → f 16 (8 * N + g) = -1)) ∧ (((∀ s, S s = false) ∧ f 12 N = -1) ∨ ∃ x, f 12 N = nI x ∧ (∃ g, g < 8 ∧ S g = true ∧ C g = some x) ∧ ∀ g y, g < 8 → C g = some y → x ≤ y)
theorem q_stJ.same {G : GD} {pr : Nat → Option Nat} {N : Nat} {f0 f : ctF} {S : Nat → Bool} {C Q : Nat → Option Nat} (h : q_stJ G pr N f0 f S C Q) : sameBut N f0 f := h.1
theorem q_stJ.row {G : GD} {pr : Nat → Option Nat} {N : Nat} {f0 f : ctF} {S : Nat → Bool} {C Q : Nat → Option Nat} (h : q_stJ G pr N f0 f S C Q) : rowC N f C Q := h.2.1
theorem q_stJ.flag {G : GD} {pr : Nat → Option Nat} {N : Nat} {f0 f : ctF} {S : Nat → Bool} {C Q : Nat → Option Nat} (h : q_stJ G pr N f0 f S C Q) : flagS f S := h.2.2.1
theorem q_stJ.bnd {G : GD} {pr : Nat → Option Nat} {N : Nat} {f0 f : ctF} {S : Nat → Bool} {C Q : Nat → Option Nat} (h : q_stJ G pr N f0 f S C Q) : bndC C := h.2.2.2.1
theorem q_stJ.abv {G : GD} {pr : Nat → Option Nat} {N : Nat} {f0 f : ctF} {S : Nat → Bool} {C Q : Nat → Option Nat} (h : q_stJ G pr N f0 f S C Q) : aboveC G.R G.go (chG G) G.g1 G.co pr C := h.2.2.2.2.1
theorem q_stJ.bas {G : GD} {pr : Nat → Option Nat} {N : Nat} {f0 f : ctF} {S : Nat → Bool} {C Q : Nat → Option Nat} (h : q_stJ G pr N f0 f S C Q) : ∀ i y, i < G.R → chG G i = false → pr i = some y → ∃ x, C (G.go i) = some x ∧ x ≤ y := h.2.2.2.2.2.1
theorem q_stJ.rul {G : GD} {pr : Nat → Option Nat} {N : Nat} {f0 f : ctF} {S : Nat → Bool} {C Q : Nat → Option Nat} (h : q_stJ G pr N f0 f S C Q) : ∀ g i, Q g = some i → i < G.R := h.2.2.2.2.2.2.1
theorem q_stJ.non {G : GD} {pr : Nat → Option Nat} {N : Nat} {f0 f : ctF} {S : Nat → Bool} {C Q : Nat → Option Nat} (h : q_stJ G pr N f0 f S C Q) : ∀ g, C g = none ↔ Q g = none := h.2.2.2.2.2.2.2.1
theorem q_stJ.st1 {G : GD} {pr : Nat → Option Nat} {N : Nat} {f0 f : ctF} {S : Nat → Bool} {C Q : Nat → Option Nat} (h : q_stJ G pr N f0 f S C Q) : ∀ s, S s = true → ∃ x, C s = some x ∧ (∀ g y, g < 8 → S g = false → C g = some y → x ≤ y) ∧ ∀ i, i < G.R → chG G i = true → G.g1 i = s → ∃ w, C (G.go i) = some w ∧ w ≤ x + G.co i := h.2.2.2.2.2.2.2.2.1
theorem q_stJ.siz {G : GD} {pr : Nat → Option Nat} {N : Nat} {f0 f : ctF} {S : Nat → Bool} {C Q : Nat → Option Nat} (h : q_stJ G pr N f0 f S C Q) : ∀ g, g < 8 → szOK (f 16 (8 * N + g)) ∧ (S g = false → f 16 (8 * N + g) = -1) := h.2.2.2.2.2.2.2.2.2.1
theorem q_stJ.lea {G : GD} {pr : Nat → Option Nat} {N : Nat} {f0 f : ctF} {S : Nat → Bool} {C Q : Nat → Option Nat} (h : q_stJ G pr N f0 f S C Q) : ((∀ s, S s = false) ∧ f 12 N = -1) ∨ ∃ x, f 12 N = nI x ∧ (∃ g, g < 8 ∧ S g = true ∧ C g = some x) ∧ ∀ g y, g < 8 → C g = some y → x ≤ y := h.2.2.2.2.2.2.2.2.2.2
def stE (G : GD) (pr : Nat → Option Nat) (N : Nat) (f0 f : ctF) (C Q : Nat → Option Nat) : Prop := (sameBut N f0 f) ∧ (rowC N f C Q) ∧ (bndC C) ∧ (closedC G.R G.go (chG G) G.g1 G.co pr C) ∧ (aboveC G.R G.go (chG G) G.g1 G.co pr C) ∧ (∀ g i, Q g = some i → i < G.R) ∧ (∀ g, C g = none ↔ Q g = none) ∧ (∀ g, g < 8 → szOK (f 16 (8 * N + g)) ∧ (Q g = none → f 16 (8 * N + g) = -1)) ∧ (((∀ g, g < 8 → C g = none) ∧ f 12 N = -1) ∨ ∃ x, f 12 N = nI x ∧ (∃ g, g < 8 ∧ C g = some x) ∧ ∀ g y, g < 8 → C g = some y → x ≤ y)
theorem stE.same {G : GD} {pr : Nat → Option Nat} {N : Nat} {f0 f : ctF} {C Q : Nat → Option Nat} (h : stE G pr N f0 f C Q) : sameBut N f0 f := h.1
theorem stE.row {G : GD} {pr : Nat → Option Nat} {N : Nat} {f0 f : ctF} {C Q : Nat → Option Nat} (h : stE G pr N f0 f C Q) : rowC N f C Q := h.2.1
theorem stE.bnd {G : GD} {pr : Nat → Option Nat} {N : Nat} {f0 f : ctF} {C Q : Nat → Option Nat} (h : stE G pr N f0 f C Q) : bndC C := h.2.2.1
theorem stE.clo {G : GD} {pr : Nat → Option Nat} {N : Nat} {f0 f : ctF} {C Q : Nat → Option Nat} (h : stE G pr N f0 f C Q) : closedC G.R G.go (chG G) G.g1 G.co pr C := h.2.2.2.1
theorem stE.abv {G : GD} {pr : Nat → Option Nat} {N : Nat} {f0 f : ctF} {C Q : Nat → Option Nat} (h : stE G pr N f0 f C Q) : aboveC G.R G.go (chG G) G.g1 G.co pr C := h.2.2.2.2.1
theorem stE.rul {G : GD} {pr : Nat → Option Nat} {N : Nat} {f0 f : ctF} {C Q : Nat → Option Nat} (h : stE G pr N f0 f C Q) : ∀ g i, Q g = some i → i < G.R := h.2.2.2.2.2.1
theorem stE.non {G : GD} {pr : Nat → Option Nat} {N : Nat} {f0 f : ctF} {C Q : Nat → Option Nat} (h : stE G pr N f0 f C Q) : ∀ g, C g = none ↔ Q g = none := h.2.2.2.2.2.2.1
theorem stE.siz {G : GD} {pr : Nat → Option Nat} {N : Nat} {f0 f : ctF} {C Q : Nat → Option Nat} (h : stE G pr N f0 f C Q) : ∀ g, g < 8 → szOK (f 16 (8 * N + g)) ∧ (Q g = none → f 16 (8 * N + g) = -1) := h.2.2.2.2.2.2.2.1
theorem stE.lea {G : GD} {pr : Nat → Option Nat} {N : Nat} {f0 f : ctF} {C Q : Nat → Option Nat} (h : stE G pr N f0 f C Q) : ((∀ g, g < 8 → C g = none) ∧ f 12 N = -1) ∨ ∃ x, f 12 N = nI x ∧ (∃ g, g < 8 ∧ C g = some x) ∧ ∀ g y, g < 8 → C g = some y → x ≤ y := h.2.2.2.2.2.2.2.2
theorem q_stJ.fin {G : GD} (hG : G.ok) {pr : Nat → Option Nat} {N : Nat} {f0 f : ctF} {S : Nat → Bool} {C Q : Nat → Option Nat} (h : q_stJ G pr N f0 f S C Q) (he : ∀ g, g < 8 → S g = false → C g = none) : stE G pr N f0 f C Q := by
  refine ⟨h.same, h.row, h.bnd, fun i y hi hy => ?_, h.abv, h.rul, h.non, fun g hg => ⟨(h.siz g hg).1, fun q => (h.siz g hg).2 ?_⟩, ?_⟩
  · by_cases c : chG G i = true
    · unfold byR at hy
      rw [if_pos c] at hy
      cases hc : C (G.g1 i) with
      | none => rw [hc] at hy; cases hy
      | some a =>
        rw [hc] at hy
        have hy : a + G.co i = y := Option.some.inj hy
        have hs : S (G.g1 i) = true := by
          cases z : S (G.g1 i) with
          | true => rfl
          | false =>
            have := he _ (hG.ru i hi).2.2.1 z
            rw [hc] at this; cases this
        obtain ⟨x, hx, -, h3⟩ := h.st1 _ hs
        rw [hc] at hx; cases hx
        obtain ⟨w, hw, hle⟩ := h3 i hi c rfl
        exact ⟨w, hw, by omega⟩
    · unfold byR at hy
      rw [if_neg c] at hy
      exact h.bas i y hi (by cases z : chG G i; rfl; exact absurd z c) hy
  · cases z : S g with
    | false => rfl
    | true =>
      obtain ⟨x, hx, -, -⟩ := h.st1 g z
      rw [(h.non g).mpr q] at hx; cases hx
  · rcases h.lea with ⟨h1, h2⟩ | ⟨x, h1, ⟨g, hg, -, hc⟩, h3⟩
    · exact Or.inl ⟨fun g hg => he g hg (h1 g), h2⟩
    · exact Or.inr ⟨x, h1, ⟨g, hg, hc⟩, h3⟩
theorem nar1 : vp_nar .boolean 1 = 1 := rfl
theorem w_settleGoals {post : ctN → ctF → Prop} {n : ctN} {f f0 : ctF} {N o a b : Nat} {G : GD} {pr : Nat → Option Nat} {C0 Q0 : Nat → Option Nat} (hG : G.ok) (hC : gC G n f0) (hN : n 2 = nI N) (hN' : N < 120) (ho : o < G.O) (h9 : f0 9 N = nI o) (h10 : f0 10 N = nI a) (h11 : f0 11 N = nI b)
    (ha : 1 ≤ G.k o → a < N ∧ ∀ g, g < 8 → szOK (f0 16 (8 * a + g))) (hb : 2 ≤ G.k o → b < N ∧ ∀ g, g < 8 → szOK (f0 16 (8 * b + g)))
    (h0 : q_stJ G pr N f0 f (fun _ => false) C0 Q0) (hend : ∀ f' C Q, stE G pr N f0 f' C Q → post n f') : wp_F_settleGoals post n f := by
  have e8 : (8 : Int32) = nI 8 := ix_8
  have hNc : (nI N).toNatClampNeg = N := nI_clamp (by omega)
  have loop : ∀ (d step : Nat) (f : ctF) (S : Nat → Bool) (C Q : Nat → Option Nat), 8 = step + d → q_stJ G pr N f0 f S C Q → q_sm (fun g => if S g = true then 1 else 0) 8 = step → wp_F_settleGoals_L2 post (d + 1) (nI step) n f := by
    intro d
    induction d with
    | zero =>
      intro step f S C Q hd hj hs
      have e : step = 8 := by omega
      subst e
      rw [wp_F_settleGoals_L2]
      refine ⟨fun _ => hend f C Q (hj.fin hG (fun g hg hsg => ?_)), fun q => absurd (by rw [e8]; exact nI_le (Nat.le_refl 8) (by decide)) q⟩
      have := sm_full (φ := fun g => if S g = true then 1 else 0) 8 (fun g _ => by split <;> omega) (by omega) g hg
      simp [hsg] at this
    | succ d ih =>
      intro step f S C Q hd hj hs
      rw [wp_F_settleGoals_L2]
      refine ⟨fun q => absurd q (by rw [e8]; exact nI_ge (by omega) (by decide)), fun _ => ?_⟩
      refine w_cheapest hN hN' hj.row hj.flag (fun best hbest => ?_)
      cases best with
      | none => exact ⟨fun q => absurd rfl q, fun _ => hend f C Q (hj.fin hG hbest)⟩
      | some m =>
        obtain ⟨hm8, hSm, z, hz, hmin⟩ := hbest
        have hmc : (nI m).toNatClampNeg = m := nI_clamp (by omega)
        have hz20 := bnd_lt hj.bnd hz
        have Jm : ∀ f8 : ctF, (∀ k, k ≠ 12 → k ≠ 17 → f8 k = f k) → (∀ j, j ≠ N → f8 12 j = f 12 j) → f8 17 = upd (f 17) m 1 → (∃ x, f8 12 N = nI x ∧ (∃ g, g < 8 ∧ (S g = true ∨ g = m) ∧ C g = some x) ∧ ∀ g y, g < 8 → C g = some y → x ≤ y) → wp_F_settleGoals_J52 post (wp_F_settleGoals_L2 post (d + 1)) (nI step) (nI m) n f8 := by
          intro f8 e8o e812 e817 hle
          have sm8 : sameBut N f0 f8 := hj.same.tr ⟨fun k h1 _ _ _ h5 => e8o k h1 h5, e812, fun j _ => by rw [e8o 14 (by decide) (by decide), e8o 15 (by decide) (by decide), e8o 16 (by decide) (by decide)]; exact ⟨rfl, rfl, rfl⟩⟩
          obtain ⟨qi, hqi⟩ : ∃ qi, Q m = some qi := by
            cases q : Q m with
            | none => rw [(hj.non m).mpr q] at hz; cases hz
            | some qi => exact ⟨qi, rfl⟩
          have hqR := hj.rul m qi hqi
          have hR40 := hG.R40
          have gC8 := hC.same sm8
          obtain ⟨r4, r5, r6, r7, r8⟩ := gC8.ru qi hqR
          obtain ⟨q1, q2, q3, q4, q5⟩ := hG.ru qi hqR
          unfold wp_F_settleGoals_J52
          rw [hN]
          refine w_place ?_
          refine w_sizeByRule hN hN' hm8 (i := qi) (by rw [e8o 15 (by decide) (by decide), (hj.row.1 m hm8).2, hqi]; rfl) (by omega) ?_ (fun s hs2 => ?_)
          · by_cases c : chG G qi = true
            · exact Or.inl ⟨r5.trans ((GD.op_m1 hG hqR).mpr c), G.g1 qi, q3, r6, by rw [e8o 16 (by decide) (by decide)]; exact (hj.siz _ q3).1⟩
            · refine Or.inr ⟨fun q => c ((GD.op_m1 hG hqR).mp (r5.symm.trans q)), o, G.k o, by have := hG.O10; omega, ?_, gC8.pa o ho, hG.k2 o ho, fun hk => ?_, fun hk => ?_⟩
              · rw [sm8.1 9 (by decide) (by decide) (by decide) (by decide) (by decide)]; exact h9
              · obtain ⟨haN, hsz⟩ := ha hk
                refine ⟨a, G.g1 qi, by omega, q3, ?_, r6, ?_⟩
                · rw [sm8.1 10 (by decide) (by decide) (by decide) (by decide) (by decide)]; exact h10
                · rw [(sm8.2.2 (8 * a + G.g1 qi) (by omega)).2.2]; exact hsz _ q3
              · obtain ⟨hbN, hsz⟩ := hb hk
                refine ⟨b, G.g2 qi, by omega, q4, ?_, r7, ?_⟩
                · rw [sm8.1 11 (by decide) (by decide) (by decide) (by decide) (by decide)]; exact h11
                · rw [(sm8.2.2 (8 * b + G.g2 qi) (by omega)).2.2]; exact hsz _ q4
          · refine ⟨ix_in hN' hm8, ?_⟩
            rw [ix_cl hN' hm8]
            rintro f16 hf16
            have e16 : f16 16 = upd (f8 16) (8 * N + m) s := by rw [hf16, va_up_self]
            have eo : ∀ k, k ≠ 16 → f16 k = f8 k := fun k hk => by rw [hf16, va_up_ne _ _ hk]
            have sm16 : sameBut N f0 f16 := sm8.tr ⟨fun k _ _ _ h4 _ => eo k h4, fun j _ => by rw [eo 12 (by decide)], fun j hj2 => by rw [eo 14 (by decide), eo 15 (by decide), e16, upd_ne _ _ (by omega)]; exact ⟨rfl, rfl, rfl⟩⟩
            have row16 : rowC N f16 C Q := ⟨fun h hh => by rw [eo 14 (by decide), eo 15 (by decide), e8o 14 (by decide) (by decide), e8o 15 (by decide) (by decide)]; exact hj.row.1 h hh, hj.row.2⟩
            have gC16 := hC.same sm16
            have settled_le : ∀ s x, S s = true ∨ s = m → C s = some x → x ≤ z := by
              intro s x hs3 hx
              rcases hs3 with hs3 | rfl
              · obtain ⟨x2, hx2, h2, -⟩ := hj.st1 s hs3
                rw [hx] at hx2; cases hx2
                exact h2 m z hm8 hSm hz
              · rw [hx] at hz; cases hz; exact Nat.le_refl _
            refine w_applyChain (N := N) (R := G.R) (h := m) (z := z) hN hN' gC16.nR hR40 hm8 G.go G.co (fun i hi => ⟨(hG.ru i hi).1, (gC16.ru i hi).1⟩) (fun i hi => ⟨(hG.ru i hi).2.1, (gC16.ru i hi).2.2.2.2⟩) (by omega)
              (fun i C' Q' => bndC C' ∧ aboveC G.R G.go (chG G) G.g1 G.co pr C' ∧ (∀ i y, i < G.R → chG G i = false → pr i = some y → ∃ x, C' (G.go i) = some x ∧ x ≤ y) ∧ (∀ g i, Q' g = some i → i < G.R) ∧ (∀ g, C' g = none ↔ Q' g = none) ∧ (∀ s, S s = true ∨ s = m → C' s = C s) ∧ (∀ g y, g < 8 → C' g = some y → (∃ y0, C g = some y0 ∧ y ≤ y0) ∨ C g = none) ∧ (∀ g y, g < 8 → S g = false → C' g = some y → z ≤ y) ∧ (∀ g x, C g = some x → ∃ x', C' g = some x' ∧ x' ≤ x) ∧ ∀ j, j < i → chG G j = true → G.g1 j = m → ∃ w, C' (G.go j) = some w ∧ w ≤ z + G.co j)
              ?_ ?_ ?_ (C0 := C) (Q0 := Q) ⟨hj.bnd, hj.abv, hj.bas, hj.rul, hj.non, fun _ _ => rfl, fun g y _ e => Or.inl ⟨y, e, Nat.le_refl _⟩, fun g y hg hs3 e => (hmin g y hg hs3 e).1, fun g x e => ⟨x, e, Nat.le_refl _⟩, fun j hj2 => absurd hj2 (Nat.not_lt_zero _)⟩ row16 hz ?_
            · rintro i C' Q' hi ⟨i1, i2, i3, i4, i5, i6, i7, i8, i9, i10⟩ hno
              refine ⟨i1, i2, i3, i4, i5, i6, i7, i8, i9, fun j hj2 hc2 hg2 => ?_⟩
              by_cases e : j = i
              · subst e
                obtain ⟨-, t5, t6, -, -⟩ := gC16.ru j hi
                exact absurd ⟨t5.trans ((GD.op_m1 hG hi).mpr hc2), by rw [t6, hg2]⟩ hno
              · exact i10 j (by omega) hc2 hg2
            · rintro i C' Q' hi ⟨i1, i2, i3, i4, i5, i6, i7, i8, i9, i10⟩ h5 h6 hnt
              refine ⟨i1, i2, i3, i4, i5, i6, i7, i8, i9, fun j hj2 hc2 hg2 => ?_⟩
              by_cases e : j = i
              · subst e
                cases hc : C' (G.go j) with
                | none => exact absurd ⟨_, rfl, Or.inl hc⟩ hnt
                | some w =>
                  refine ⟨w, rfl, ?_⟩
                  rcases Nat.lt_or_ge (z + G.co j) w with q | q
                  · exact absurd ⟨_, rfl, Or.inr ⟨w, hc, q⟩⟩ hnt
                  · exact q
              · exact i10 j (by omega) hc2 hg2
            · rintro i C' Q' hi ⟨i1, i2, i3, i4, i5, i6, i7, i8, i9, i10⟩ h5 h6 ht
              obtain ⟨t4, t5, t6, t7, t8⟩ := gC16.ru i hi
              obtain ⟨p1, p2, p3, p4, p5⟩ := hG.ru i hi
              have hch : chG G i = true := (GD.op_m1 hG hi).mp (t5.symm.trans h5)
              have hg1 : G.g1 i = m := by
                have := t6.symm.trans h6
                exact (nI_eq (by omega) (by omega)).mp this
              have hCm : C' m = some z := (i6 m (Or.inr rfl)).trans hz
              have hby : byR (chG G) G.g1 G.co pr C' i = some (z + G.co i) := by
                unfold byR
                rw [if_pos hch, hg1, hCm]
                rfl
              have hnS : ¬ (S (G.go i) = true ∨ G.go i = m) := by
                intro hs3
                obtain ⟨y2, ey, h2⟩ := id ht
                cases ey
                have e6 := i6 _ hs3
                rcases h2 with h2 | ⟨x, hx, hlt⟩
                · rw [h2] at e6
                  rcases hs3 with hs3 | hs3
                  · obtain ⟨x2, hx2, -, -⟩ := hj.st1 _ hs3
                    rw [hx2] at e6; cases e6
                  · rw [hs3, hz] at e6; cases e6
                · have := settled_le _ x hs3 (e6.symm.trans hx)
                  omega
              refine ⟨bnd_take i1 p1 ht (Or.inr ⟨m, z, hCm, by omega⟩), above_take i2 hi hby, fun j y hj2 hc2 hy => ?_, fun g j hq => ?_, fun g => ?_, fun s hs3 => ?_, fun g y hg hy => ?_, fun g y hg hs3 hy => ?_, fun g x hx => ?_, fun j hj2 hc2 hg2 => ?_⟩
              · obtain ⟨x, hx, hle2⟩ := i3 j y hj2 hc2 hy
                by_cases e : G.go j = G.go i
                · rw [e] at hx ⊢
                  rw [va_up_self]
                  obtain ⟨y2, ey, h2⟩ := id ht
                  cases ey
                  rcases h2 with h2 | ⟨x3, hx3, hlt⟩
                  · rw [h2] at hx; cases hx
                  · rw [hx] at hx3; cases hx3
                    exact ⟨_, rfl, by omega⟩
                · rw [va_up_ne _ _ e]; exact ⟨x, hx, hle2⟩
              · by_cases e : g = G.go i
                · subst e; rw [va_up_self] at hq; cases hq; exact hi
                · rw [va_up_ne _ _ e] at hq; exact i4 g j hq
              · by_cases e : g = G.go i
                · subst e; rw [va_up_self, va_up_self]; exact ⟨(fun q => nomatch q), (fun q => nomatch q)⟩
                · rw [va_up_ne _ _ e, va_up_ne _ _ e]; exact i5 g
              · rw [va_up_ne _ _ (fun q => hnS (by rw [← q]; exact hs3))]; exact i6 s hs3
              · by_cases e : g = G.go i
                · subst e
                  rw [va_up_self] at hy; cases hy
                  cases hc : C (G.go i) with
                  | none => exact Or.inr rfl
                  | some y0 =>
                    obtain ⟨x', hx', hle3⟩ := i9 _ _ hc
                    obtain ⟨y2, ey, h2⟩ := id ht
                    cases ey
                    rcases h2 with h2 | ⟨x3, hx3, hlt⟩
                    · rw [h2] at hx'; cases hx'
                    · rw [hx'] at hx3; cases hx3
                      exact Or.inl ⟨y0, rfl, by omega⟩
                · rw [va_up_ne _ _ e] at hy; exact i7 g y hg hy
              · by_cases e : g = G.go i
                · subst e
                  rw [va_up_self] at hy; cases hy; omega
                · rw [va_up_ne _ _ e] at hy; exact i8 g y hg hs3 hy
              · obtain ⟨x', hx', hle3⟩ := i9 g x hx
                by_cases e : g = G.go i
                · subst e
                  rw [va_up_self]
                  obtain ⟨y2, ey, h2⟩ := id ht
                  cases ey
                  rcases h2 with h2 | ⟨x3, hx3, hlt⟩
                  · rw [h2] at hx'; cases hx'
                  · rw [hx'] at hx3; cases hx3
                    exact ⟨_, rfl, by omega⟩
                · rw [va_up_ne _ _ e]; exact ⟨x', hx', hle3⟩
              · by_cases e : G.go j = G.go i
                · rw [e, va_up_self]
                  refine ⟨_, rfl, ?_⟩
                  by_cases e2 : j = i
                  · subst e2; exact Nat.le_refl _
                  · obtain ⟨w, hw, hle3⟩ := i10 j (by omega) hc2 hg2
                    rw [e] at hw
                    obtain ⟨y2, ey, h2⟩ := id ht
                    cases ey
                    rcases h2 with h2 | ⟨x3, hx3, hlt⟩
                    · rw [h2] at hw; cases hw
                    · rw [hw] at hx3; cases hx3; omega
                · rw [va_up_ne _ _ e]
                  exact i10 j (by
                    rcases Nat.lt_or_ge j i with q | q
                    · exact q
                    · exact absurd (by rw [show j = i by omega]) e) hc2 hg2
            · rintro f' C' Q' ⟨i1, i2, i3, i4, i5, i6, i7, i8, i9, i10⟩ hrow' hk'
              rintro _ rfl
              rw [nI_1]
              refine ih (step + 1) f' (va_up S m true) C' Q' (by omega) ?_ ?_
              · have s17 : f' 17 = upd (f 17) m 1 := by rw [hk'.2.2.2, eo 17 (by decide), e817]
                have s16 : f' 16 = upd (f8 16) (8 * N + m) s := by rw [hk'.2.2.1, e16]
                have s12 : f' 12 = f8 12 := by rw [hk'.2.1, eo 12 (by decide)]
                refine ⟨sm16.tr hk'.1, hrow', fun g hg => ?_, i1, i2, i3, i4, i5, fun s2 hs2 => ?_, fun g hg => ?_, ?_⟩
                · rw [s17]
                  by_cases e : g = m
                  · subst e; rw [upd_self, va_up_self]; rfl
                  · rw [upd_ne _ _ e, va_up_ne _ _ e]; exact hj.flag g hg
                · have hs2' : S s2 = true ∨ s2 = m := by
                    by_cases e : s2 = m
                    · exact Or.inr e
                    · rw [va_up_ne _ _ e] at hs2; exact Or.inl hs2
                  have nS : ∀ g, va_up S m true g = false → S g = false := fun g hg => by
                    by_cases e : g = m
                    · subst e; rw [va_up_self] at hg; cases hg
                    · rw [va_up_ne _ _ e] at hg; exact hg
                  obtain ⟨x, hx⟩ : ∃ x, C s2 = some x := by
                    rcases hs2' with q | rfl
                    · obtain ⟨x, hx, -, -⟩ := hj.st1 s2 q; exact ⟨x, hx⟩
                    · exact ⟨z, hz⟩
                  have hxz := settled_le s2 x hs2' hx
                  refine ⟨x, (i6 s2 hs2').trans hx, fun g y hg hsg hy => ?_, fun i hi hc2 hg2 => ?_⟩
                  · have := i8 g y hg (nS g hsg) hy
                    omega
                  · by_cases e : s2 = m
                    · subst e
                      rw [hx] at hz; cases hz
                      exact i10 i hi hc2 hg2
                    · rcases hs2' with q | q
                      · obtain ⟨x2, hx2, -, h3⟩ := hj.st1 s2 q
                        rw [hx] at hx2; cases hx2
                        obtain ⟨w, hw, hle3⟩ := h3 i hi hc2 hg2
                        obtain ⟨w', hw', hle4⟩ := i9 _ _ hw
                        exact ⟨w', hw', by omega⟩
                      · exact absurd q e
                · rw [s16]
                  by_cases e : g = m
                  · subst e; rw [upd_self]; exact ⟨hs2, fun q => by rw [va_up_self] at q; cases q⟩
                  · rw [upd_ne _ _ (by omega), va_up_ne _ _ e, e8o 16 (by decide) (by decide)]; exact hj.siz g hg
                · right
                  obtain ⟨x, hx1, ⟨g, hg, hgs, hgc⟩, hx3⟩ := hle
                  have hgS : S g = true ∨ g = m := hgs
                  refine ⟨x, by rw [s12]; exact hx1, ⟨g, hg, ?_, (i6 g hgS).trans hgc⟩, fun g2 y hg2 hy => ?_⟩
                  · by_cases e : g = m
                    · subst e; exact va_up_self _ _ _
                    · rw [va_up_ne _ _ e]; exact hgS.resolve_right e
                  · by_cases q : S g2 = true
                    · rw [i6 g2 (Or.inl q)] at hy; exact hx3 g2 y hg2 hy
                    · have h1 := i8 g2 y hg2 (by cases w : S g2; rfl; exact absurd w q) hy
                      have h2 := hx3 m z hm8 hz
                      omega
              · have e1 : ∀ j, j ≠ m → (fun g => if va_up S m true g = true then 1 else 0) j = (fun g => if S g = true then 1 else 0) j := fun j hj2 => by
                  dsimp only; rw [va_up_ne _ _ hj2]
                have e2 := sm_up (φ := fun g => if S g = true then 1 else 0) (ψ := fun g => if va_up S m true g = true then 1 else 0) e1 8 hm8
                rw [va_up_self, hSm, if_pos rfl, if_neg (by decide)] at e2
                omega
        refine ⟨fun _ => ⟨vp_in_nI hm8 (by decide), ?_⟩, fun q => absurd q (nI_m1 (by omega))⟩
        rw [en_s, hmc, nar1]
        rintro f7 hf7
        have e17 : f7 17 = upd (f 17) m 1 := by rw [hf7, va_up_self]
        have eo : ∀ k, k ≠ 17 → f7 k = f k := fun k hk => by rw [hf7, va_up_ne _ _ hk]
        refine ⟨fun c => ?_, fun c => ?_⟩
        · refine Jm f7 (fun k _ h2 => eo k h2) (fun j _ => by rw [eo 12 (by decide)]) e17 ?_
          rcases hj.lea with ⟨h1, -⟩ | ⟨x, h1, ⟨g, hg, hgs, hgc⟩, h3⟩
          · exfalso
            apply c
            have : q_sm (fun g => if S g = true then 1 else 0) 8 ≤ 8 * 0 := sm_le 8 (fun g _ => by rw [h1 g]; exact Nat.le_refl _)
            have : step = 0 := by omega
            rw [this]; exact nI_0
          · exact ⟨x, by rw [eo 12 (by decide)]; exact h1, ⟨g, hg, Or.inl hgs, hgc⟩, h3⟩
        · have hs0 : step = 0 := by
            rw [← nI_0] at c
            exact (nI_eq (by omega) (by decide)).mp c
          have hall : ∀ g, g < 8 → S g = false := fun g hg => by
            cases q : S g with
            | false => rfl
            | true =>
              have e2 := sm_up (φ := fun g => if S g = true then 1 else 0) (ψ := fun g' => if va_up S g false g' = true then 1 else 0) (g := g) (fun j hj2 => by rw [va_up_ne _ _ hj2]) 8 hg
              rw [va_up_self, q, if_pos rfl, if_neg (by decide)] at e2
              omega
          rw [hN]
          refine w_place ⟨ix_in hN' hm8, vp_in_nI hN' (by decide), ?_⟩
          rw [hNc, ix_cl hN' hm8]
          rintro f9 hf9
          have e12 : f9 12 = upd (f 12) N (f 14 (8 * N + m)) := by rw [hf9, va_up_self, eo 12 (by decide), eo 14 (by decide)]
          have eo9 : ∀ k, k ≠ 12 → f9 k = f7 k := fun k hk => by rw [hf9, va_up_ne _ _ hk]
          refine Jm f9 (fun k h1 h2 => (eo9 k h1).trans (eo k h2)) (fun j hj2 => by rw [e12, upd_ne _ _ hj2]) (by rw [eo9 17 (by decide), e17]) ⟨z, by rw [e12, upd_self, (hj.row.1 m hm8).1, hz]; rfl, ⟨m, hm8, Or.inr rfl, hz⟩, fun g y hg hy => (hmin g y hg (hall g hg) hy).1⟩
  unfold wp_F_settleGoals
  refine ⟨9, ?_⟩
  have q := loop 8 0 f (fun _ => false) C0 Q0 (by omega) h0 rfl
  rw [nI_0] at q
  exact q
