/-! the class's rules are those of a run over the least costs -/
theorem lst_ex (P : Nat → Prop) : ∀ R, ∃ o, q_lst P 0 R o := by
  intro R
  induction R with
  | zero => exact ⟨none, fun i _ h2 => absurd h2 (Nat.not_lt_zero _)⟩
  | succ R ih =>
    obtain ⟨oc, hoc⟩ := ih
    cases oc with
    | some j => exact ⟨some j, hoc.1, Nat.lt_succ_of_lt hoc.2.1, hoc.2.2.1, hoc.2.2.2⟩
    | none =>
      by_cases z : P R
      · exact ⟨some R, Nat.zero_le _, Nat.lt_succ_self _, z, fun j h1 h2 => hoc j h1 h2⟩
      · refine ⟨none, fun j h1 h2 h3 => ?_⟩
        by_cases e2 : j = R
        · subst e2; exact z h3
        · exact hoc j h1 (by omega) h3
/-- there are least costs -/
theorem least_ex {G : GD} {T : TD} {o a b : Nat} (hG : G.ok) (hT : T.ok G) (ho : o < G.O) (ha : 1 ≤ G.k o → a < T.N) (hb : 2 ≤ G.k o → b < T.N) : ∃ D, leastC G T o a b D := by
  have loop : ∀ (B : Nat) (D : Nat → Option Nat), msC D < B → bndC D → aboveC G.R G.go (chG G) G.g1 G.co (prG G T o a b) D → ∃ D, leastC G T o a b D := by
    intro B
    induction B with
    | zero => intro D h; exact absurd h (Nat.not_lt_zero _)
    | succ B ih =>
      intro D hm hbd hab
      by_cases hc : closedC G.R G.go (chG G) G.g1 G.co (prG G T o a b) D
      · exact ⟨D, hc, hab⟩
      · have : ∃ i y, i < G.R ∧ byR (chG G) G.g1 G.co (prG G T o a b) D i = some y ∧ ¬ ∃ x, D (G.go i) = some x ∧ x ≤ y := by
          apply Classical.byContradiction
          intro hn
          apply hc
          intro i y hi hy
          apply Classical.byContradiction
          intro hn2
          exact hn ⟨i, y, hi, hy, hn2⟩
        obtain ⟨i, y, hi, hy, hno⟩ := this
        have hg8 := (hG.ru i hi).1
        have ht : takes D (G.go i) (some y) := by
          refine ⟨y, rfl, ?_⟩
          cases e : D (G.go i) with
          | none => exact Or.inl rfl
          | some x =>
            refine Or.inr ⟨x, rfl, ?_⟩
            rcases Nat.lt_or_ge y x with z | z
            · exact z
            · exact absurd ⟨x, e, z⟩ hno
        have hyb : y ≤ 2000020 ∨ ∃ j x, D j = some x ∧ y ≤ x + 20 := by
          have hy2 := hy
          unfold byR at hy2
          by_cases c : chG G i = true
          · rw [if_pos c] at hy2
            cases hc2 : D (G.g1 i) with
            | none => rw [hc2] at hy2; cases hy2
            | some x =>
              rw [hc2] at hy2
              have hy2 : x + G.co i = y := Option.some.inj hy2
              have := (hG.ru i hi).2.1
              exact Or.inr ⟨_, x, hc2, by omega⟩
          · rw [if_neg c] at hy2
            exact Or.inl (prG_le hG hT ho ha hb hi hy2)
        have hbd2 := bnd_take hbd hg8 ht hyb
        have := ms_take hg8 ht (bnd_lt hbd2 (va_up_self D (G.go i) (some y)))
        exact ih _ (by omega) hbd2 (above_take hab hi hy)
  exact loop (msC (fun _ => none) + 1) (fun _ => none) (Nat.lt_succ_self _) bnd_none above_none
/-- the rules of the goals whose cost is already the least -/
def qv (C Q D : Nat → Option Nat) (g : Nat) : Option Nat := if C g = D g then Q g else none
theorem byR_att {G : GD} {pr D : Nat → Option Nat} {g i : Nat} (hc : chG G i = true) : okR G pr D g i ↔ Att G D g i := by
  unfold okR byR
  rw [if_pos hc]
  constructor
  · rintro ⟨h1, y, h2, h3⟩
    cases e : D (G.g1 i) with
    | none => rw [e] at h2; cases h2
    | some x =>
      rw [e] at h2
      have h2 : x + G.co i = y := Option.some.inj h2
      exact ⟨h1, hc, x, e, by rw [h3, h2]⟩
  · rintro ⟨h1, -, x, h2, h3⟩
    exact ⟨h1, x + G.co i, by rw [h2]; rfl, h3⟩
theorem base_run {G : GD} {T : TD} {o a b : Nat} {D B C Q : Nat → Option Nat} (hl : leastC G T o a b D) (hB : ∀ g, q_lst (q_isB G (prG G T o a b) D g) 0 G.R (B g)) (bd : BD G (prG G T o a b) G.R C Q) (non : ∀ g, C g = none ↔ Q g = none) (bas : ∀ j y, j < G.R → prG G T o a b j = some y → ∃ x, C (G.go j) = some x ∧ x ≤ y) (abv : aboveC G.R G.go (chG G) G.g1 G.co (prG G T o a b) C) : qv C Q D = B := by
  funext g
  refine lst_one ?_ (hB g)
  have le : ∀ x, C g = some x → ∃ d, D g = some d ∧ d ≤ x := fun x hx => abv D hl.1 g x hx
  unfold qv
  by_cases e : C g = D g
  · rw [if_pos e]
    cases hc : C g with
    | none =>
      rw [(non g).mp hc]
      intro i h1 h2 h3
      obtain ⟨-, y, -, h5⟩ := h3.1
      rw [← e, hc] at h5; cases h5
    | some x =>
      obtain ⟨i, q1, q2, q3, q4, q5⟩ := bd g x hc
      rw [q1]
      have hch := prG_ch q4
      refine ⟨Nat.zero_le _, q2, ⟨⟨q3, x, ?_, by rw [← e, hc]⟩, hch⟩, fun j h1 h2 h3 => ?_⟩
      · unfold byR
        rw [if_neg (by rw [hch]; decide)]
        exact q4
      · obtain ⟨⟨w1, y, w2, w3⟩, w4⟩ := h3
        unfold byR at w2
        rw [if_neg (by rw [w4]; decide)] at w2
        rw [← e, hc] at w3
        cases w3
        have := q5 j x h2 w1 w2
        omega
  · rw [if_neg e]
    intro i h1 h2 h3
    obtain ⟨⟨w1, y, w2, w3⟩, w4⟩ := h3
    unfold byR at w2
    rw [if_neg (by rw [w4]; decide)] at w2
    obtain ⟨x, hx, hle⟩ := bas i y h2 w2
    rw [w1] at hx
    obtain ⟨d, hd, hdx⟩ := le x hx
    rw [w3] at hd
    cases hd
    exact e (by rw [hx, w3]; congr 1; omega)
/-- the cheapest goal that isn't settled has its least cost -/
theorem best_exact {G : GD} {T : TD} {o a b N : Nat} {f0 f1 : ctF} {D C Q : Nat → Option Nat} {S : Nat → Bool} {m z : Nat} (hG : G.ok) (hl : leastC G T o a b D) (J : q_stJ G (prG G T o a b) N f0 f1 S C Q) (hb : isBest C S 8 (some m)) (hz : C m = some z) : D m = some z := by
  obtain ⟨hm8, hSm, z2, hz2, hmin⟩ := hb
  rw [hz] at hz2; cases hz2
  have le : ∀ g x, C g = some x → ∃ d, D g = some d ∧ d ≤ x := fun g x hx => J.abv D hl.1 g x hx
  obtain ⟨d, hd, hdz⟩ := le m z hz
  have hE : closedC G.R G.go (chG G) G.g1 G.co (prG G T o a b) (fun g => if S g = true then C g else (D g).map (fun x => max x z)) := by
    intro i y hi hy
    obtain ⟨q1, q2, q3, q4, q5⟩ := hG.ru i hi
    dsimp only
    -- what an offer of y to a goal needs
    have fin : ∀ w, C (G.go i) = some w → w ≤ y → (∃ x, (if S (G.go i) = true then C (G.go i) else (D (G.go i)).map (fun x => max x z)) = some x ∧ x ≤ y) := by
      intro w hw hwy
      by_cases c : S (G.go i) = true
      · rw [if_pos c]; exact ⟨w, hw, hwy⟩
      · rw [if_neg c]
        obtain ⟨d2, hd2, hd3⟩ := le _ w hw
        have := (hmin _ w q1 (by cases e : S (G.go i); rfl; exact absurd e c) hw).1
        rw [hd2]
        exact ⟨max d2 z, rfl, by omega⟩
    unfold byR at hy
    by_cases c : chG G i = true
    · rw [if_pos c] at hy
      dsimp only at hy
      by_cases cs : S (G.g1 i) = true
      · rw [if_pos cs] at hy
        obtain ⟨x, hx, -, h3⟩ := J.st1 _ cs
        rw [hx] at hy
        have hy : x + G.co i = y := Option.some.inj hy
        obtain ⟨w, hw, hwx⟩ := h3 i hi c rfl
        exact fin w hw (by omega)
      · rw [if_neg cs] at hy
        cases e : D (G.g1 i) with
        | none => rw [e] at hy; cases hy
        | some x =>
          rw [e] at hy
          have hy : max x z + G.co i = y := Option.some.inj hy
          have hby : byR (chG G) G.g1 G.co (prG G T o a b) D i = some (x + G.co i) := by
            unfold byR; rw [if_pos c, e]; rfl
          obtain ⟨w, hw, hwx⟩ := hl.1 i _ hi hby
          by_cases c2 : S (G.go i) = true
          · rw [if_pos c2]
            obtain ⟨x2, hx2, h2, -⟩ := J.st1 _ c2
            have := h2 m z hm8 hSm hz
            exact ⟨x2, hx2, by omega⟩
          · rw [if_neg c2, hw]
            exact ⟨max w z, rfl, by omega⟩
    · rw [if_neg c] at hy
      obtain ⟨w, hw, hwy⟩ := J.bas i y hi (by cases e : chG G i; rfl; exact absurd e c) hy
      exact fin w hw hwy
  obtain ⟨e, he, hed⟩ := hl.2 _ hE m d hd
  rw [if_neg (by rw [hSm]; decide), hd] at he
  have he : max d z = e := Option.some.inj he
  rw [hd]
  congr 1
  omega
/-- the loop over the chain rules, seen from the least costs -/
theorem CL.run {G : GD} {T : TD} {o a b m z : Nat} {D C Q : Nat → Option Nat} (hl : leastC G T o a b D) (hm : D m = some z) (le : ∀ g x, C g = some x → ∃ d, D g = some d ∧ d ≤ x) (non : ∀ g, C g = none ↔ Q g = none) {i : Nat} {C' Q' : Nat → Option Nat} (t : CL G m z C Q i C' Q') (hiR : i ≤ G.R) : (∀ g x, C' g = some x → ∃ d, D g = some d ∧ d ≤ x) ∧ (∀ g, C' g = none ↔ Q' g = none) ∧ (∀ g, C g = D g → C' g = C g ∧ Q' g = Q g) ∧ ∀ g, ¬ C g = D g → q_lst (fun j => Att G D g j ∧ G.g1 j = m) 0 i (qv C' Q' D g) := by
  have cl : ∀ j, j < G.R → chG G j = true → G.g1 j = m → ∃ d, D (G.go j) = some d ∧ d ≤ z + G.co j := by
    intro j hj hc hg
    have hby : byR (chG G) G.g1 G.co (prG G T o a b) D j = some (z + G.co j) := by
      unfold byR; rw [if_pos hc, hg, hm]; rfl
    exact hl.1 j _ hj hby
  have up : ∀ {P : Nat → Prop} {i : Nat} {q : Option Nat}, q_lst P 0 i q → ¬ P i → q_lst P 0 (i + 1) q := by
    intro P i q h hn
    cases q with
    | none =>
      intro j h1 h2
      by_cases e : j = i
      · subst e; exact hn
      · exact h j h1 (by omega)
    | some j => exact ⟨h.1, Nat.lt_succ_of_lt h.2.1, h.2.2.1, h.2.2.2⟩
  have up2 : ∀ {P : Nat → Prop} {i j : Nat}, q_lst P 0 i (some j) → q_lst P 0 (i + 1) (some j) := by
    intro P i j h
    exact ⟨h.1, Nat.lt_succ_of_lt h.2.1, h.2.2.1, h.2.2.2⟩
  induction i generalizing C' Q' with
  | zero =>
    obtain ⟨e1, e2⟩ := t
    subst e1 e2
    refine ⟨le, non, fun g _ => ⟨rfl, rfl⟩, fun g hg => ?_⟩
    unfold qv
    rw [if_neg hg]
    exact fun j _ h2 => absurd h2 (Nat.not_lt_zero _)
  | succ i ih =>
   rcases t with ⟨t, hno⟩ | ⟨t, hno⟩ | ⟨C1, Q1, t, hc, hg1, ht, eC, eQ⟩
   · obtain ⟨a1, a2, a3, a4⟩ := ih t (by omega)
     exact ⟨a1, a2, a3, fun g hg => up (a4 g hg) (fun w => hno ⟨w.1.2.1, w.2⟩)⟩
   · obtain ⟨a1, a2, a3, a4⟩ := ih t (by omega)
     refine ⟨a1, a2, a3, fun g hg => ?_⟩
     by_cases w : Att G D g i ∧ G.g1 i = m
     · obtain ⟨⟨w1, w2, x, w3, w4⟩, w5⟩ := w
       rw [w5, hm] at w3
       cases w3
       -- the cost is the least already
       obtain ⟨y, hy, hyz⟩ : ∃ y, C' g = some y ∧ y ≤ z + G.co i := by
         cases e : C' g with
         | none => exact absurd ⟨_, rfl, Or.inl (by rw [w1]; exact e)⟩ hno
         | some y =>
           refine ⟨y, rfl, ?_⟩
           rcases Nat.lt_or_ge (z + G.co i) y with q | q
           · exact absurd ⟨_, rfl, Or.inr ⟨y, by rw [w1]; exact e, q⟩⟩ hno
           · exact q
       obtain ⟨d, hd, hdy⟩ := a1 g y hy
       rw [w4] at hd
       cases hd
       have e : C' g = D g := by rw [hy, w4]; congr 1; omega
       have hq := a4 g hg
       have e2 : qv C' Q' D g = Q' g := if_pos e
       rw [e2] at hq ⊢
       cases e3 : Q' g with
       | none => rw [(a2 g).mpr e3] at hy; cases hy
       | some j => rw [e3] at hq; exact up2 hq
     · exact up (a4 g hg) w
   · rw [eC, eQ]
     obtain ⟨a1, a2, a3, a4⟩ := ih t (by omega)
     obtain ⟨d, hd, hdz⟩ := cl i (by omega) hc hg1
     obtain ⟨y2, ey, h2⟩ := ht
     cases ey
     have hne : ¬ C1 (G.go i) = D (G.go i) := by
       intro e
       rw [hd] at e
       rcases h2 with h2 | ⟨x, hx, hlt⟩
       · rw [h2] at e; cases e
       · rw [hx] at e; cases e; omega
     refine ⟨fun g x hx => ?_, fun g => ?_, fun g hg => ?_, fun g hg => ?_⟩
     · by_cases e : g = G.go i
       · subst e
         rw [va_up_self] at hx; cases hx
         exact ⟨d, hd, hdz⟩
       · rw [va_up_ne _ _ e] at hx; exact a1 g x hx
     · by_cases e : g = G.go i
       · subst e; rw [va_up_self, va_up_self]; exact ⟨(fun q => nomatch q), (fun q => nomatch q)⟩
       · rw [va_up_ne _ _ e, va_up_ne _ _ e]; exact a2 g
     · have e : g ≠ G.go i := by
         intro e
         subst e
         exact hne ((a3 _ hg).1.trans hg)
       rw [va_up_ne _ _ e, va_up_ne _ _ e]
       exact a3 g hg
     · by_cases e : g = G.go i
       · subst e
         have hq := a4 _ hg
         have e1 : qv C1 Q1 D (G.go i) = none := if_neg hne
         rw [e1] at hq
         unfold qv
         rw [va_up_self, va_up_self]
         by_cases e2 : some (z + G.co i) = D (G.go i)
         · rw [if_pos e2]
           exact ⟨Nat.zero_le _, Nat.lt_succ_self _, ⟨⟨rfl, hc, z, by rw [hg1]; exact hm, e2.symm⟩, hg1⟩, fun j h1 h3 => hq j h1 h3⟩
         · rw [if_neg e2]
           refine up (q := none) hq (fun w => ?_)
           obtain ⟨⟨-, -, x, w3, w4⟩, -⟩ := w
           rw [hg1, hm] at w3
           cases w3
           exact e2 w4.symm
       · have hq := a4 g hg
         have e1 : qv (va_up C1 (G.go i) (some (z + G.co i))) (va_up Q1 (G.go i) (some i)) D g = qv C1 Q1 D g := by
           unfold qv
           rw [va_up_ne _ _ e, va_up_ne _ _ e]
         rw [e1]
         exact up hq (fun w => e w.1.1.symm)
/-- what the draft leaves of rules: a run's end -/
theorem w_draftR {post : ctN → ctF → Prop} {n : ctN} {f : ctF} {G : GD} {T : TD} {o a b : Nat} {D B : Nat → Option Nat} (hG : G.ok) (hT : T.ok G) (hC : gC G n f) (hD : tC G T n f) (hN' : T.N < 120) (ho : o < G.O) (ha : 1 ≤ G.k o → a < T.N) (hb : 2 ≤ G.k o → b < T.N) (hl : leastC G T o a b D) (hB : ∀ g, q_lst (q_isB G (prG G T o a b) D g) 0 G.R (B g))
    (hend : ∀ f' Q, stE G (prG G T o a b) T.N (q_setN f T.N (nI o) (nI a) (nI b)) f' D Q → CF G D B Q → post n f') : wp_F_draft post (nI o) (nI a) (nI b) n f := by
  refine w_draftG hG hT hC hD hN' ho ha hb (fun S C Q => ∃ k, CR G D B k S (qv C Q D)) (fun C Q bd non bas abv => ⟨0, ?_⟩) (fun f0 f1 S C Q m z C' Q' J hγ hbest hz t => ?_) (fun f' S C Q E hγ hS => ?_)
  · rw [base_run hl hB bd non bas abv]
    exact CR.nil
  · obtain ⟨k, hk⟩ := hγ
    have hDm := best_exact hG hl J hbest hz
    have le : ∀ g x, C g = some x → ∃ d, D g = some d ∧ d ≤ x := fun g x hx => J.abv D hl.1 g x hx
    obtain ⟨b1, b2, b3, b4⟩ := t.run hl hDm le J.non (Nat.le_refl _)
    refine ⟨k + 1, CR.cons hk ?_ (fun g => ?_)⟩
    · obtain ⟨hm8, hSm, z2, hz2, hmin⟩ := hbest
      rw [hz] at hz2; cases hz2
      refine ⟨hm8, hSm, ?_, z, hDm, fun g y hg hs hq hy => ?_⟩
      · unfold qv
        rw [if_pos (by rw [hz, hDm])]
        intro w
        rw [(J.non m).mpr w] at hz; cases hz
      · have e : C g = D g := by
          apply Classical.byContradiction
          intro w
          exact hq (if_neg w)
        exact hmin g y hg hs (by rw [e]; exact hy)
    · by_cases e : C g = D g
      · obtain ⟨e1, e2⟩ := b3 g e
        have e3 : qv C' Q' D g = qv C Q D g := by
          unfold qv
          rw [e1, e2]
        rw [e3]
        refine ⟨fun i hi => hi, fun hq => ?_⟩
        rw [hq]
        intro j h1 h2 h3
        have hn : Q g = none := by
          have : qv C Q D g = Q g := if_pos e
          rw [this] at hq; exact hq
        obtain ⟨⟨-, -, x, -, w4⟩, -⟩ := h3
        rw [← e, (J.non g).mpr hn] at w4
        cases w4
      · have e2 : qv C Q D g = none := if_neg e
        rw [e2]
        exact ⟨(fun i hi => nomatch hi), fun _ => b4 g e⟩
  · have eC : C = D := funext (least_one E.clo E.abv hl.1 hl.2)
    subst eC
    obtain ⟨k, hk⟩ := hγ
    have e : qv C Q C = Q := funext (fun g => if_pos rfl)
    rw [e] at hk
    exact hend f' Q E ⟨k, S, hk, fun g hg hs => (E.non g).mp (hS g hg hs)⟩
