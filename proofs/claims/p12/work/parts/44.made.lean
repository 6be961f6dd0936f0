/-! the class's draft: made whole -/
def TD : Type := (Nat) × (Nat → Nat) × (Nat → Nat) × (Nat → Nat) × (Nat → Nat → Option Nat)
def TD.N (X : TD) : Nat := X.1
def TD.kd (X : TD) : Nat → Nat := X.2.1
def TD.u1 (X : TD) : Nat → Nat := X.2.2.1
def TD.u2 (X : TD) : Nat → Nat := X.2.2.2.1
def TD.C (X : TD) : Nat → Nat → Option Nat := X.2.2.2.2
def TD.mk (N : Nat) (kd : Nat → Nat) (u1 : Nat → Nat) (u2 : Nat → Nat) (C : Nat → Nat → Option Nat) : TD := (N, kd, u1, u2, C)
def TD.ok (G : GD) (T : TD) : Prop := (T.N ≤ 120) ∧ (∀ v, v < T.N → T.kd v < G.O ∧ T.u1 v ≤ v ∧ T.u2 v ≤ v ∧ (1 ≤ G.k (T.kd v) → T.u1 v < v ∧ T.u2 v < v)) ∧ (∀ v g x, v < T.N → T.C v g = some x → x ≤ 1000000)
theorem TD.ok.N120 {G : GD} {T : TD} (h : TD.ok G T) : T.N ≤ 120 := h.1
theorem TD.ok.nd {G : GD} {T : TD} (h : TD.ok G T) : ∀ v, v < T.N → T.kd v < G.O ∧ T.u1 v ≤ v ∧ T.u2 v ≤ v ∧ (1 ≤ G.k (T.kd v) → T.u1 v < v ∧ T.u2 v < v) := h.2.1
theorem TD.ok.mo {G : GD} {T : TD} (h : TD.ok G T) : ∀ v g x, v < T.N → T.C v g = some x → x ≤ 1000000 := h.2.2
def tC (G : GD) (T : TD) (n : ctN) (f : ctF) : Prop := (n 2 = nI T.N) ∧ (∀ v, v < T.N → f 9 v = nI (T.kd v) ∧ f 10 v = nI (T.u1 v) ∧ f 11 v = nI (T.u2 v)) ∧ (∀ v g, v < T.N → g < 8 → f 14 (8 * v + g) = en (T.C v g)) ∧ (∀ v g, v < T.N → g < 8 → szOK (f 16 (8 * v + g)) ∧ ((f 15 (8 * v + g) = -1 ∧ f 16 (8 * v + g) = -1) ∨ ∃ i, i < G.R ∧ f 15 (8 * v + g) = nI i))
theorem tC.nN {G : GD} {T : TD} {n : ctN} {f : ctF} (h : tC G T n f) : n 2 = nI T.N := h.1
theorem tC.nd {G : GD} {T : TD} {n : ctN} {f : ctF} (h : tC G T n f) : ∀ v, v < T.N → f 9 v = nI (T.kd v) ∧ f 10 v = nI (T.u1 v) ∧ f 11 v = nI (T.u2 v) := h.2.1
theorem tC.co {G : GD} {T : TD} {n : ctN} {f : ctF} (h : tC G T n f) : ∀ v g, v < T.N → g < 8 → f 14 (8 * v + g) = en (T.C v g) := h.2.2.1
theorem tC.ru {G : GD} {T : TD} {n : ctN} {f : ctF} (h : tC G T n f) : ∀ v g, v < T.N → g < 8 → szOK (f 16 (8 * v + g)) ∧ ((f 15 (8 * v + g) = -1 ∧ f 16 (8 * v + g) = -1) ∨ ∃ i, i < G.R ∧ f 15 (8 * v + g) = nI i) := h.2.2.2
def prG (G : GD) (T : TD) (o a b i : Nat) : Option Nat := if G.op i = some o then bcost (G.k o) (G.co i) (T.C a (G.g1 i)) (T.C b (G.g2 i)) else none
theorem prG_le {G : GD} {T : TD} (hG : G.ok) (hT : T.ok G) {o a b : Nat} (_ho : o < G.O) (ha : 1 ≤ G.k o → a < T.N) (hb : 2 ≤ G.k o → b < T.N) {i y : Nat} (hi : i < G.R) (h : prG G T o a b i = some y) : y ≤ 2000020 := by
  have hc := (hG.ru i hi).2.1
  unfold prG at h
  by_cases q : G.op i = some o
  · rw [if_pos q] at h
    unfold bcost at h
    by_cases c1 : G.k o < 1
    · rw [if_pos c1] at h; cases h; omega
    · rw [if_neg c1] at h
      cases e1 : T.C a (G.g1 i) with
      | none => rw [e1] at h; cases h
      | some x =>
        rw [e1] at h
        have hx := hT.mo a _ x (ha (by omega)) e1
        have h : (if G.k o < 2 then some (G.co i + x) else (T.C b (G.g2 i)).map (fun y => G.co i + x + y)) = some y := h
        by_cases c2 : G.k o < 2
        · rw [if_pos c2] at h; cases h; omega
        · rw [if_neg c2] at h
          cases e2 : T.C b (G.g2 i) with
          | none => rw [e2] at h; cases h
          | some x2 =>
            rw [e2] at h
            have hx2 := hT.mo b _ x2 (hb (by omega)) e2
            have h : G.co i + x + x2 = y := Option.some.inj h
            omega
  · rw [if_neg q] at h; cases h
theorem prG_ch {G : GD} {T : TD} {o a b i y : Nat} (h : prG G T o a b i = some y) : chG G i = false := by
  unfold prG at h
  by_cases q : G.op i = some o
  · unfold chG; rw [q]
  · rw [if_neg q] at h; cases h
theorem w_baseCost2 {post : Int32 → ctN → ctF → Prop} {n : ctN} {f : ctF} {N i o k s u1 u2 g1 g2 : Nat} {a1 a2 : Option Nat} (hN : n 2 = nI N) (hN' : N < 120) (hi : i < 40) (ho : f 9 N = nI o) (ho' : o < 10) (hk : f 3 o = nI k) (hk' : k ≤ 2) (hs : f 8 i = nI s)
    (hp1 : 1 ≤ k → f 10 N = nI u1 ∧ u1 < 120 ∧ f 6 i = nI g1 ∧ g1 < 8 ∧ f 14 (8 * u1 + g1) = en a1 ∧ ∀ x, a1 = some x → x < 2 ^ 31)
    (hp2 : 2 ≤ k → f 11 N = nI u2 ∧ u2 < 120 ∧ f 7 i = nI g2 ∧ g2 < 8 ∧ f 14 (8 * u2 + g2) = en a2 ∧ ∀ x, a2 = some x → x < 2 ^ 31)
    (h : post (en (bcost k s a1 a2)) n f) : wp_F_baseCost post (nI i) n f := by
  have hic : (nI i).toNatClampNeg = i := nI_clamp (by omega)
  have hin : vp_in (nI i) 40 := vp_in_nI hi (by decide)
  have hNc : (nI N).toNatClampNeg = N := nI_clamp (by omega)
  have hNi : vp_in (nI N) 120 := vp_in_nI hN' (by decide)
  have hoc : (nI o).toNatClampNeg = o := nI_clamp (by omega)
  have hoi : vp_in (nI o) 10 := vp_in_nI ho' (by decide)
  have k1 : nI k < 1 ↔ k < 1 := by rw [show (1 : Int32) = nI 1 by decide]; exact nI_ltI (by omega) (by decide)
  have k2 : nI k < 2 ↔ k < 2 := by rw [show (2 : Int32) = nI 2 by decide]; exact nI_ltI (by omega) (by decide)
  have J : ∀ x : Nat, (k < 2 → post (nI x) n f) → (¬ k < 2 → post (en (a2.map (fun y => x + y))) n f) → wp_F_baseCost_J74 post (nI i) (nI k) (nI x) n f := by
    intro x p1 p2
    unfold wp_F_baseCost_J74
    rw [hN, hNc, hic]
    refine ⟨fun c => p1 (k2.mp c), fun c => ⟨hNi, hin, ?_⟩⟩
    have c2 : ¬ k < 2 := fun z => c (k2.mpr z)
    obtain ⟨h11, hu2, h7, hg2, ha2, hb2⟩ := hp2 (by omega)
    rw [h11, h7]
    refine w_place ⟨ix_in hu2 hg2, ?_⟩
    rw [ix_cl hu2 hg2, ha2]
    have p2 := p2 c2
    rintro _ rfl
    cases a2 with
    | none => exact ⟨fun c => absurd rfl c, fun _ => p2⟩
    | some y =>
      refine ⟨fun _ => ?_, fun c => absurd c (nI_m1 (hb2 y rfl))⟩
      rintro _ rfl
      rw [en_s, nI_add]
      exact p2
  unfold wp_F_baseCost
  rw [hN, hNc, ho, hoc, hic]
  refine ⟨hNi, hoi, ?_⟩
  rintro _ rfl
  refine ⟨hin, ?_⟩
  rintro _ rfl
  rw [hk, hs]
  refine ⟨fun c => ?_, fun c => ?_⟩
  · have c := k1.mp c
    refine J s (fun _ => ?_) (fun q => absurd (by omega) q)
    rw [show bcost k s a1 a2 = some s from if_pos c] at h
    exact h
  · have c : ¬ k < 1 := fun z => c (k1.mpr z)
    rw [show bcost k s a1 a2 = _ from if_neg c] at h
    refine ⟨hNi, hin, ?_⟩
    obtain ⟨h10, hu1, h6, hg1, ha1, hb1⟩ := hp1 (by omega)
    rw [h10, h6]
    refine w_place ⟨ix_in hu1 hg1, ?_⟩
    rw [ix_cl hu1 hg1, ha1]
    rintro _ rfl
    cases a1 with
    | none => exact ⟨fun q => absurd rfl q, fun _ => h⟩
    | some x =>
      refine ⟨fun _ => ?_, fun q => absurd q (nI_m1 (hb1 x rfl))⟩
      rintro _ rfl
      rw [en_s, nI_add]
      refine J (s + x) (fun q => ?_) (fun q => ?_)
      · have h : post (en (if k < 2 then some (s + x) else a2.map (fun y => s + x + y))) n f := h
        rw [if_pos q] at h
        exact h
      · have h : post (en (if k < 2 then some (s + x) else a2.map (fun y => s + x + y))) n f := h
        rw [if_neg q] at h
        exact h
/-- the draft's operator and parts written down -/
def q_setN (f : ctF) (N : Nat) (o a b : Int32) : ctF := va_up (va_up (va_up f 9 (upd (f 9) N o)) 10 (upd (f 10) N a)) 11 (upd (f 11) N b)
theorem setN_9 (f : ctF) (N : Nat) (o a b : Int32) : q_setN f N o a b 9 = upd (f 9) N o := by
  unfold q_setN; rw [va_up_ne _ _ (by decide), va_up_ne _ _ (by decide), va_up_self]
theorem setN_10 (f : ctF) (N : Nat) (o a b : Int32) : q_setN f N o a b 10 = upd (f 10) N a := by
  unfold q_setN; rw [va_up_ne _ _ (by decide), va_up_self]
theorem setN_11 (f : ctF) (N : Nat) (o a b : Int32) : q_setN f N o a b 11 = upd (f 11) N b := by
  unfold q_setN; rw [va_up_self]
theorem setN_o (f : ctF) (N : Nat) (o a b : Int32) {k : Nat} (h9 : k ≠ 9) (h10 : k ≠ 10) (h11 : k ≠ 11) : q_setN f N o a b k = f k := by
  unfold q_setN; rw [va_up_ne _ _ h11, va_up_ne _ _ h10, va_up_ne _ _ h9]
theorem w_draft {post : ctN → ctF → Prop} {n : ctN} {f : ctF} {G : GD} {T : TD} {o a b : Nat} (hG : G.ok) (hT : T.ok G) (hC : gC G n f) (hD : tC G T n f) (hN' : T.N < 120) (ho : o < G.O) (ha : 1 ≤ G.k o → a < T.N) (hb : 2 ≤ G.k o → b < T.N)
    (hend : ∀ f' C Q, stE G (prG G T o a b) T.N (q_setN f T.N (nI o) (nI a) (nI b)) f' C Q → post n f') : wp_F_draft post (nI o) (nI a) (nI b) n f := by
  have hN := hD.nN
  have hNc : (nI T.N).toNatClampNeg = T.N := nI_clamp (by omega)
  have hNi : vp_in (nI T.N) 120 := vp_in_nI hN' (by decide)
  have hO := hG.O10
  unfold wp_F_draft
  rw [hN, hNc]
  refine ⟨hNi, ?_⟩
  rintro _ rfl
  refine ⟨hNi, ?_⟩
  rintro _ rfl
  refine ⟨hNi, ?_⟩
  rintro f1 hf1
  have hf1 : f1 = q_setN f T.N (nI o) (nI a) (nI b) := by
    rw [hf1]; unfold q_setN
    rw [va_up_ne (k := 10) (j := 11) _ _ (by decide), va_up_ne (k := 9) (j := 11) _ _ (by decide), va_up_ne (k := 9) (j := 10) _ _ (by decide)]
  have C1 : gC G n f1 := hC.up rfl rfl (fun k h1 h2 => by rw [hf1, setN_o _ _ _ _ _ (by omega) (by omega) (by omega)])
  rw [← hf1] at hend
  have e9 : f1 9 T.N = nI o := by rw [hf1, setN_9, upd_self]
  have e10 : f1 10 T.N = nI a := by rw [hf1, setN_10, upd_self]
  have e11 : f1 11 T.N = nI b := by rw [hf1, setN_11, upd_self]
  refine w_blank hN hN' (fun f2 s2 b2 => ?_)
  have C2 := C1.same s2
  obtain ⟨row2, flag2⟩ := blank_row b2
  have c9 : f2 9 = f1 9 := s2.1 9 (by decide) (by decide) (by decide) (by decide) (by decide)
  have op9 : ∀ i, i < G.R → (f2 5 i = f2 9 T.N ↔ G.op i = some o) := by
    intro i hi
    rw [(C2.ru i hi).2.1, c9, e9]
    cases q : G.op i with
    | none => exact ⟨fun z => absurd z.symm (nI_m1 (by omega)), (fun z => nomatch z)⟩
    | some o2 =>
      have := (hG.ru i hi).2.2.2.2 o2 q
      rw [en_s, nI_eq (by omega) (by omega)]
      exact ⟨fun z => by rw [z], fun z => Option.some.inj z⟩
  refine w_applyBase (N := T.N) (R := G.R) hN hN' C2.nR hG.R40 G.go (fun i hi => ⟨(hG.ru i hi).1, (C2.ru i hi).1⟩) (prG G T o a b) (fun i y hi hy => by have := prG_le hG hT ho ha hb hi hy; omega) ?_
    (fun i C Q => bndC C ∧ aboveC G.R G.go (chG G) G.g1 G.co (prG G T o a b) C ∧ (∀ j y, j < i → prG G T o a b j = some y → ∃ x, C (G.go j) = some x ∧ x ≤ y) ∧ (∀ g i, Q g = some i → i < G.R) ∧ ∀ g, C g = none ↔ Q g = none)
    ?_ ?_ ?_ (C0 := fun _ => none) (Q0 := fun _ => none) ⟨bnd_none, above_none, fun j _ hj => absurd hj (Nat.not_lt_zero _), (fun _ _ e => nomatch e), fun _ => Iff.rfl⟩ row2 ?_
  · intro i hi h5 f' hk post' hp
    have hop := (op9 i hi).mp h5
    obtain ⟨q1, q2, q3, q4, q5⟩ := hG.ru i hi
    obtain ⟨r4, r5, r6, r7, r8⟩ := C2.ru i hi
    have at' : ∀ k, k ≠ 14 → k ≠ 15 → f' k = f2 k := fun k h1 h2 => hk.at h1 h2
    have a12 : ∀ k, k ≠ 12 → k ≠ 14 → k ≠ 15 → k ≠ 16 → k ≠ 17 → f' k = f1 k := fun k h0 h1 h2 h3 h4 => (at' k h1 h2).trans (s2.1 k h0 h1 h2 h3 h4)
    have hlow : ∀ v g, v < T.N → g < 8 → f' 14 (8 * v + g) = en (T.C v g) := by
      intro v g hv hg
      rw [(hk.1.2.2 (8 * v + g) (by omega)).1, (s2.2.2 (8 * v + g) (by omega)).1, hf1, setN_o _ _ _ _ _ (by decide) (by decide) (by decide)]
      exact hD.co v g hv hg
    refine w_baseCost2 (o := o) (k := G.k o) (s := G.co i) (u1 := a) (u2 := b) (g1 := G.g1 i) (g2 := G.g2 i) (a1 := T.C a (G.g1 i)) (a2 := T.C b (G.g2 i)) hN hN' (by have := hG.R40; omega) ?_ (by omega) ?_ (hG.k2 o ho) ?_ (fun hk1 => ?_) (fun hk2 => ?_) ?_
    · rw [a12 9 (by decide) (by decide) (by decide) (by decide) (by decide)]; exact e9
    · rw [at' 3 (by decide) (by decide)]; exact C2.pa o ho
    · rw [at' 8 (by decide) (by decide)]; exact r8
    · refine ⟨by rw [a12 10 (by decide) (by decide) (by decide) (by decide) (by decide)]; exact e10, by have := ha hk1; omega, by rw [at' 6 (by decide) (by decide)]; exact r6, q3, hlow a _ (ha hk1) q3, fun x hx => by have := hT.mo a _ x (ha hk1) hx; omega⟩
    · refine ⟨by rw [a12 11 (by decide) (by decide) (by decide) (by decide) (by decide)]; exact e11, by have := hb hk2; omega, by rw [at' 7 (by decide) (by decide)]; exact r7, q4, hlow b _ (hb hk2) q4, fun x hx => by have := hT.mo b _ x (hb hk2) hx; omega⟩
    · have e : prG G T o a b i = bcost (G.k o) (G.co i) (T.C a (G.g1 i)) (T.C b (G.g2 i)) := if_pos hop
      rw [e] at hp
      exact hp
  · rintro i C Q hi ⟨i1, i2, i3, i4, i5⟩ hne
    refine ⟨i1, i2, fun j y hj hy => ?_, i4, i5⟩
    by_cases e : j = i
    · subst e
      rw [show prG G T o a b j = none from if_neg (fun z => hne ((op9 j hi).mpr z))] at hy
      cases hy
    · exact i3 j y (by omega) hy
  · rintro i C Q hi ⟨i1, i2, i3, i4, i5⟩ h5 hnt
    refine ⟨i1, i2, fun j y hj hy => ?_, i4, i5⟩
    by_cases e : j = i
    · subst e
      cases hc : C (G.go j) with
      | none => exact absurd ⟨y, hy, Or.inl hc⟩ hnt
      | some w =>
        refine ⟨w, rfl, ?_⟩
        rcases Nat.lt_or_ge y w with q | q
        · exact absurd ⟨y, hy, Or.inr ⟨w, hc, q⟩⟩ hnt
        · exact q
    · exact i3 j y (by omega) hy
  · rintro i C Q y hi ⟨i1, i2, i3, i4, i5⟩ h5 hy ht
    have hby : byR (chG G) G.g1 G.co (prG G T o a b) C i = some y := by
      unfold byR
      rw [if_neg (by rw [prG_ch hy]; decide)]
      exact hy
    rw [hy] at ht
    refine ⟨bnd_take i1 (hG.ru i hi).1 ht (Or.inl (prG_le hG hT ho ha hb hi hy)), above_take i2 hi hby, fun j y2 hj hy2 => ?_, fun g j hq => ?_, fun g => ?_⟩
    · by_cases e : G.go j = G.go i
      · rw [e, va_up_self]
        refine ⟨y, rfl, ?_⟩
        by_cases e2 : j = i
        · subst e2; rw [hy] at hy2; cases hy2; exact Nat.le_refl _
        · obtain ⟨w, hw, hle⟩ := i3 j y2 (by omega) hy2
          rw [e] at hw
          obtain ⟨y3, ey, h2⟩ := ht
          cases ey
          rcases h2 with h2 | ⟨x3, hx3, hlt⟩
          · rw [h2] at hw; cases hw
          · rw [hw] at hx3; cases hx3; omega
      · rw [va_up_ne _ _ e]
        refine i3 j y2 ?_ hy2
        rcases Nat.lt_or_ge j i with q | q
        · exact q
        · exact absurd (by rw [show j = i by omega]) e
    · by_cases e : g = G.go i
      · subst e; rw [va_up_self] at hq; cases hq; exact hi
      · rw [va_up_ne _ _ e] at hq; exact i4 g j hq
    · by_cases e : g = G.go i
      · subst e; rw [va_up_self, va_up_self]; exact ⟨(fun q => nomatch q), (fun q => nomatch q)⟩
      · rw [va_up_ne _ _ e, va_up_ne _ _ e]; exact i5 g
  · rintro f3 C Q ⟨i1, i2, i3, i4, i5⟩ row3 k3
    have s3 : sameBut T.N f1 f3 := s2.tr k3.1
    have s1 : ∀ v g, v < T.N → g < 8 → szOK (f1 16 (8 * v + g)) := fun v g hv hg => by
      rw [hf1, setN_o _ _ _ _ _ (by decide) (by decide) (by decide)]
      exact (hD.ru v g hv hg).1
    refine w_settleGoals hG C1 hN hN' ho e9 e10 e11 (fun q => ⟨ha q, fun g hg => s1 a g (ha q) hg⟩) (fun q => ⟨hb q, fun g hg => s1 b g (hb q) hg⟩) (C0 := C) (Q0 := Q) ⟨s3, row3, ?_, i1, i2, fun i y hi _ hy => i3 i y hi hy, i4, i5, (fun _ e => nomatch e), fun g hg => ?_, Or.inl ⟨fun _ => rfl, ?_⟩⟩ hend
    · intro g hg; rw [k3.2.2.2]; exact flag2 g hg
    · rw [k3.2.2.1]
      have := (b2.2 g hg).2.2.1
      rw [this]
      exact ⟨sz_m1, fun _ => rfl⟩
    · rw [k3.2.1]; exact b2.1
