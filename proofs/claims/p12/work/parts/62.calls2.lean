/-! node on both sides, with the rules kept -/
theorem likeTo.up {f f' : ctF} {v w m : Nat} (h : likeTo f v w m) (e12 : f' 12 = f 12) (e14 : f' 14 = f 14) (e15 : f' 15 = f 15) : likeTo f' v w m := fun g hg => by
  rw [e12, e14, e15]
  exact h g hg
theorem draft_lowX {G : GD} {T : TD} {f f' : ctF} {o a b : Nat} {pr C Q : Nat → Option Nat} (E : stE G pr T.N (q_setN f T.N (nI o) (nI a) (nI b)) f' C Q) : lowX T.N f f' := by
  intro v hv
  have s := E.same
  refine ⟨?_, ?_, fun g hg => ⟨?_, ?_, ?_, ?_⟩⟩
  · rw [s.2.1 v (by omega), setN_o _ _ _ _ _ (by decide) (by decide) (by decide)]
  · rw [s.1 13 (by decide) (by decide) (by decide) (by decide) (by decide), setN_o _ _ _ _ _ (by decide) (by decide) (by decide)]
  · rw [(s.2.2 (8 * v + g) (by omega)).1, setN_o _ _ _ _ _ (by decide) (by decide) (by decide)]
  · rw [(s.2.2 (8 * v + g) (by omega)).2.1, setN_o _ _ _ _ _ (by decide) (by decide) (by decide)]
  · rw [sameC18 E (by decide)]
  · rw [sameC18 E (by decide)]
/-- what the class's node leaves, when it is made -/
def nodeC (G : GD) (T : TD) (f f' : ctF) (C B0 Q : Nat → Option Nat) (m : Nat) : Prop := CF G C B0 Q ∧ lowX T.N f f' ∧ leaC C (f' 12 T.N) ∧ (∀ g, g < 8 → f' 14 (8 * T.N + g) = en (C g) ∧ f' 15 (8 * T.N + g) = en (Q g)) ∧ (∀ g i, Q g = some i → i < G.R) ∧ (∀ g, C g = none ↔ Q g = none) ∧ f' 13 T.N = nI m ∧ m ≤ T.N ∧ (m = T.N ∨ (f' 13 m = nI m ∧ likeTo f' m T.N 8)) ∧ ∀ j, j < m → ¬ (f' 13 j = nI j ∧ likeTo f' j T.N 8)
theorem lc_node2 {post : Int32 → ctN → ctF → Prop} {n : ctN} {f : ctF} {G : GD} {T : TD} {p1 p2 p3 : Int32} (I : IV G T n f) (h1 : nBad G T p1 p2 p3 → post 1 n f) (h2 : ∀ o a b, nGood G T p1 p2 p3 o a b → T.N = 120 → post 2 n f)
    (h3 : ∀ o a b C, nGood G T p1 p2 p3 o a b → T.N < 120 → leastC G T o a b C → dearTo C 8 → ∀ f', IV G T n f' → lowX T.N f f' → post 2 n f')
    (h0 : ∀ o a b C B0 Q m, nGood G T p1 p2 p3 o a b → T.N < 120 → leastC G T o a b C → (∀ g, q_lst (q_isB G (prG G T o a b) C g) 0 G.R (B0 g)) → ¬ dearTo C 8 → ∀ n' f', gC G n' f' → tC G (T.addN o a b C) n' f' → gM G n' f' → tM G T n' f' → f' 32 0 = nI T.N → nodeC G T f f' C B0 Q m → post 0 n' f') : wp_L_node post p1 p2 p3 n f := by
  have hN := I.t.N120
  unfold wp_L_node
  rcases n_or I.g I.t p1 p2 p3 with hb | ⟨o, a, b, B⟩
  · right
    have H := h1 hb
    rcases ix_or p1 (N := G.O) (by have := I.g.O10; omega) with hq | ⟨o, ho, rfl⟩
    · unfold wp_C_node
      exact c_op0 I.gc.nO hq ⟨fun z => absurd rfl z, fun _ => Or.inl ⟨rfl, H⟩⟩
    · refine c_node_go I.g I.t I.gc I.tc ho (fun _ => Or.inl ⟨rfl, H⟩) (fun hno => ?_)
      exfalso
      rcases hb with z | ⟨o2, ho2, e, z⟩
      · exact ix_no ho (by have := I.g.O10; omega) z
      · have hO := I.g.O10
        rw [nI_eq (by omega) (by omega)] at e
        subst e
        exact hno z
  · have ha : 1 ≤ G.k o → a < T.N := fun z => (B.e2 z).2
    have hb : 2 ≤ G.k o → b < T.N := fun z => (B.e3 z).2
    rw [B.e1]
    rcases Nat.lt_or_ge T.N 120 with hN2 | hN2
    · obtain ⟨D, hl⟩ := least_ex I.g I.t B.oO ha hb
      have hex : ∃ B0 : Nat → Option Nat, ∀ g, q_lst (q_isB G (prG G T o a b) D g) 0 G.R (B0 g) := ⟨fun g => Classical.choose (lst_ex (q_isB G (prG G T o a b) D g) G.R), fun g => Classical.choose_spec (lst_ex (q_isB G (prG G T o a b) D g) G.R)⟩
      obtain ⟨B0, hB⟩ := hex
      by_cases hd : dearTo D 8
      · right
        refine c_node_go I.g I.t I.gc I.tc B.oO (fun z => absurd z (B.no I.t)) (fun _ => c_node_draft I.g I.tc B hN2 ?_)
        unfold wp_C_node_J125
        refine w_draftR I.g I.t I.gc I.tc hN2 B.oO ha hb hl hB (fun f' Q E hcf => ?_)
        refine w_tooDear (N := T.N) I.tc.nN hN2 E.row (fun _ => ⟨fun z => absurd z (by decide), fun _ => Or.inr ⟨rfl, ?_⟩⟩) (fun z => ?_)
        · obtain ⟨c1, d1⟩ := draft_low I.gc I.tc E
          exact h3 o a b D B hN2 hl hd f' ⟨I.g, I.t, c1, d1, I.gm.up rfl rfl (fun k z1 z2 => sameC18 E (by omega)), I.tm.up rfl (fun k z1 z2 => sameC18 E (by omega))⟩ (draft_lowX E)
        · exfalso
          obtain ⟨g, x, hg, hx, hgt⟩ := hd
          have := z g x hg hx
          omega
      · left
        refine c_node_go I.g I.t I.gc I.tc B.oO (fun z => absurd z (B.no I.t)) (fun _ => c_node_draft I.g I.tc B hN2 ?_)
        unfold wp_C_node_J125
        refine w_draftR I.g I.t I.gc I.tc hN2 B.oO ha hb hl hB (fun f' Q E hcf => ?_)
        refine w_tooDear (N := T.N) I.tc.nN hN2 E.row (fun z => absurd z hd) (fun z => ⟨fun _ => ?_, fun w => absurd rfl w⟩)
        refine w_keepDraft I.tc.nN hN2 (fun m m1 m2 m3 => ?_)
        rintro f2 hf2
        have e : ∀ k, k ≠ 13 → k ≠ 32 → f2 k = f' k := fun k z1 z2 => by rw [hf2, va_up_ne _ _ z2, va_up_ne _ _ z1]
        have e13 : f2 13 = upd (f' 13) T.N (nI m) := by rw [hf2, va_up_ne _ _ (by decide), va_up_self]
        have en : ∀ k, k ≠ 2 → va_up n 2 (nI (T.N + 1)) k = n k := fun k z => va_up_ne _ _ z
        obtain ⟨c1, d1⟩ := draft_new (n' := va_up n 2 (nI (T.N + 1))) (f'' := f2) I.gc I.tc E (fun k z1 z2 => e k z2 (by omega)) (en 0 (by decide)) (en 1 (by decide)) (va_up_self _ _ _)
        have low1 := draft_lowX E
        have lk : ∀ j, likeTo f' j T.N 8 ↔ likeTo f2 j T.N 8 := fun j => ⟨fun h => h.up (e 12 (by decide) (by decide)) (e 14 (by decide) (by decide)) (e 15 (by decide) (by decide)), fun h => h.up (e 12 (by decide) (by decide)).symm (e 14 (by decide) (by decide)).symm (e 15 (by decide) (by decide)).symm⟩
        refine h0 o a b D B0 Q m B hN2 hl hB hd _ f2 c1 d1 (I.gm.up (en 4 (by decide)) (en 5 (by decide)) (fun k z1 z2 => by rw [e k (by omega) (by omega), sameC18 E (by omega)])) (I.tm.up (en 6 (by decide)) (fun k z1 z2 => by rw [e k (by omega) (by omega), sameC18 E (by omega)])) (by rw [hf2, va_up_self, upd_self]) ⟨hcf, ?_, ?_, fun g hg => ?_, E.rul, E.non, ?_, m1, ?_, fun j hj hjl => ?_⟩
        · refine low1.tr (fun v hv => ⟨by rw [e 12 (by decide) (by decide)], by rw [e13, upd_ne _ _ (by omega)], fun g hg => ⟨by rw [e 14 (by decide) (by decide)], by rw [e 15 (by decide) (by decide)], by rw [e 28 (by decide) (by decide)], by rw [e 29 (by decide) (by decide)]⟩⟩)
        · rw [e 12 (by decide) (by decide)]; exact E.lea
        · rw [e 14 (by decide) (by decide), e 15 (by decide) (by decide)]; exact E.row.1 g hg
        · rw [e13, upd_self]
        · rcases m2 with z | ⟨z1, z2⟩
          · exact Or.inl z
          · by_cases c : m = T.N
            · exact Or.inl c
            · refine Or.inr ⟨?_, (lk m).mp z2⟩
              rw [e13, upd_ne _ _ c]; exact z1
        · refine m3 j hj ⟨?_, (lk j).mpr hjl.2⟩
          have := hjl.1
          rw [e13, upd_ne _ _ (by omega)] at this
          exact this
    · right
      refine c_node_go I.g I.t I.gc I.tc B.oO (fun z => absurd z (B.no I.t)) (fun _ => ?_)
      unfold wp_C_node_J76
      exact ⟨fun z => absurd z (by rw [I.tc.nN, lt120_nI hN]; omega), fun _ => Or.inr ⟨rfl, h2 o a b B (by omega)⟩⟩
theorem lm_node_go2 {post : Int32 → ctN → ctF → Prop} {n : ctN} {f : ctF} {G : GD} {T : TD} {p1 p2 p3 : Int32} {o a b : Nat} {C B0 : Nat → Option Nat} (hB : ∀ g, q_lst (q_isB G (prG G T o a b) C g) 0 G.R (B0 g)) (hG : G.ok) (hT : T.ok G) (hM : gM G n f) (hD : tM G T n f) (B : nGood G T p1 p2 p3 o a b) (hN : T.N < 120) (hl : leastC G T o a b C)
    (h1 : dearTo C 8 → ∀ f', sameM T.N (q_setM f T.N (nI o) (nI a) (nI b)) f' → post 0 (va_up n 3 2) f')
    (h0 : ¬ dearTo C 8 → ∀ f', nE G T o a b (q_setM f T.N (nI o) (nI a) (nI b)) f' C → nP G C B0 T.N f' → ∀ n', (∀ k, k ≠ 3 → k ≠ 6 → n' k = n k) → n' 3 = 0 → n' 6 = nI (T.N + 1) → post (nI T.N) n' f') : wp_M_node post p1 p2 p3 n f := by
  have hk := hG.k2 o B.oO
  have ha : 1 ≤ G.k o → a < T.N := fun z => (B.e2 z).2
  have hb : 2 ≤ G.k o → b < T.N := fun z => (B.e3 z).2
  have z0 : (0 : Int32) = nI 0 := nI_0.symm
  have hNc : (nI T.N).toNatClampNeg = T.N := nI_clamp (by omega)
  have hNi : vp_in (nI T.N) 120 := vp_in_nI hN (by decide)
  have k0 : nI (G.k o) ≤ 0 ↔ G.k o ≤ 0 := by rw [show (0 : Int32) = nI 0 by decide]; exact nI_leI (by omega) (by decide)
  have k1 : nI (G.k o) ≤ 1 ↔ G.k o ≤ 1 := by rw [show (1 : Int32) = nI 1 by decide]; exact nI_leI (by omega) (by decide)
  rw [B.e1]
  refine m_node_go hG hT hM hD.nN B.oO (fun z => absurd z (B.no hT)) (fun _ => ?_)
  unfold wp_M_node_J81
  refine ⟨fun _ => ?_, fun z => absurd z (by rw [hD.nN, show (120 : Int32) = nI 120 by decide, nI_eq (by omega) (by decide)]; omega)⟩
  unfold wp_M_node_J95
  have n6 : va_up n 3 0 6 = nI T.N := by rw [va_up_ne _ _ (by decide)]; exact hD.nN
  refine m_ref0 ⟨fun _ => ?_, fun z => absurd rfl z⟩
  rw [n6, hNc]
  refine ⟨hNi, ?_⟩
  rintro _ rfl
  have J152 : ∀ x y : Int32, x = nI a → y = nI b → wp_M_node_J152 post y (nI T.N) (va_up n 3 0) (va_up (va_up f 25 (upd (f 25) T.N (nI o))) 26 (upd (va_up f 25 (upd (f 25) T.N (nI o)) 26) T.N x)) := by
    rintro _ _ rfl rfl
    unfold wp_M_node_J152
    rw [hNc, n6]
    refine ⟨hNi, ?_⟩
    rintro f1 hf1
    have hf1 : f1 = q_setM f T.N (nI o) (nI a) (nI b) := by
      rw [hf1]; unfold q_setM
      rw [va_up_ne (k := 26) (j := 27) _ _ (by decide), va_up_ne (k := 25) (j := 27) _ _ (by decide), va_up_ne (k := 25) (j := 26) _ _ (by decide)]
    subst hf1
    have gM1 : gM G (va_up n 3 0) (q_setM f T.N (nI o) (nI a) (nI b)) := hM.up (va_up_ne _ _ (by decide)) (va_up_ne _ _ (by decide)) (fun k z1 z2 => setM_o _ _ _ _ _ (by omega) (by omega) (by omega))
    have aM1 : aM G T o a b (q_setM f T.N (nI o) (nI a) (nI b)) := ⟨by rw [setM_25, upd_self], by rw [setM_26, upd_self], by rw [setM_27, upd_self], fun v g hv hg => by rw [setM_o _ _ _ _ _ (by decide) (by decide) (by decide)]; exact hD.co v g hv hg⟩
    refine wm_price hG hT gM1 aM1 hN B.oO ha hb (fun f' D E => ?_)
    have eC : D = C := funext (least_one E.clo E.abv hl.1 hl.2)
    subst eC
    refine wm_nodeGreatR hB hG hT gM1 aM1 n6 hN B.oO ha hb (fun v g hv hg => by rw [setM_o _ _ _ _ _ (by decide) (by decide) (by decide)]; exact hD.sz hv hg) E (fun hd f2 hs => ?_) (fun hd f2 hE hPp => ?_)
    · have e : va_up (va_up n 3 0) 3 2 = va_up n 3 2 := by
        funext k
        by_cases z : k = 3
        · subst z; rw [va_up_self, va_up_self]
        · rw [va_up_ne _ _ z, va_up_ne _ _ z, va_up_ne _ _ z]
      rw [e]
      exact h1 hd f2 hs
    · exact h0 hd f2 hE hPp _ (fun k z1 z2 => by rw [va_up_ne _ _ z2, va_up_ne _ _ z1, va_up_ne _ _ z1]) (by rw [va_up_ne _ _ (by decide), va_up_self]) (va_up_self _ _ _)
  have J132 : ∀ x : Int32, x = nI a → wp_M_node_J132 post p3 (nI (G.k o)) x (nI T.N) (va_up n 3 0) (va_up f 25 (upd (f 25) T.N (nI o))) := by
    intro x hx
    unfold wp_M_node_J132
    rw [hNc, n6]
    refine ⟨hNi, ?_⟩
    rintro _ rfl
    refine ⟨fun z => J152 x 0 hx ?_, fun z => J152 x p3 hx ?_⟩
    · have := k1.mp z
      rw [B.e3' (by omega)]; exact z0
    · have q1 : ¬ G.k o ≤ 1 := fun u => z (k1.mpr u)
      exact (B.e3 (by omega)).1
  refine ⟨fun z => J132 0 ?_, fun z => J132 p2 ?_⟩
  · have := k0.mp z
    rw [B.e2' (by omega)]; exact z0
  · have q0 : ¬ G.k o ≤ 0 := fun u => z (k0.mpr u)
    exact (B.e2 (by omega)).1
/-- the calls, with the rules kept -/
def PInv2 (n : ctN) (f : ctF) : Prop := ∃ G T, IV G T n f ∧ XI G T f
theorem inv2_start : PInv2 (fun _ => 0) (fun _ _ => 0) :=
  ⟨GD.zero (GD.mk 0 0 (fun _ => 0) (fun _ => 0) (fun _ => 0) (fun _ => 0) (fun _ => 0) (fun _ => none)), TD.zero (TD.mk 0 (fun _ => 0) (fun _ => 0) (fun _ => 0) (fun _ _ => none)), ⟨gzero_ok _, zero_ok _ _, gzero_C _ _ rfl rfl, zero_tC _ _ _ rfl, gzero_M _ _ rfl rfl, zero_tM _ _ _ rfl⟩, XI.zero _ _ _⟩
theorem k2_operator {post : Int32 → ctN → ctF → Prop} {K : Int32 → Int32 → ctN → ctF → Prop} {n : ctN} {f : ctF} {p : Int32} (I : PInv2 n f) (hpost : ∀ r n1 f1, wp_M_operator (fun r2 n f => K r r2 n f) p n1 f1 → post r n1 f1) (hK : ∀ r r2 n' f', PInv2 n' f' → K r r2 n' f') : wp_L_operator post p n f := by
  obtain ⟨G, T, I, X⟩ := I
  have hO := I.g.O10
  unfold wp_L_operator wp_C_operator
  rcases op_or p with hb | ⟨j, hj, rfl⟩
  · have H := hpost 1 n f (lm_operator_bad hb (hK 1 0 _ _ ⟨G, T, I.n3 1, X⟩))
    exact Or.inr ⟨fun _ => Or.inl ⟨rfl, H⟩, fun a => ⟨fun b => absurd hb (fun u => u.elim a (fun u => u b)), fun _ => Or.inl ⟨rfl, H⟩⟩⟩
  · have hj0 : ¬ nI j < 0 := nI_pos (by omega)
    have hj2 := le2_nI hj
    have e10 : (10 : Int32) = nI 10 := by decide
    rw [I.gc.nO]
    rcases Nat.lt_or_ge G.O 10 with hO2 | hO2
    · refine Or.inl ⟨fun a => absurd a hj0, fun _ => ⟨fun _ => ⟨fun _ => ?_, fun z => absurd (by rw [e10]; exact nI_lt hO2 (by decide)) z⟩, fun z => absurd hj2 z⟩⟩
      unfold wp_G_addOperator
      rintro _ rfl
      rw [I.gc.nO, nI_clamp (by omega), nI_1]
      refine ⟨vp_in_nI hO2 (by decide), ?_⟩
      rintro f1 hf1 n1 hn1 f2 hf2
      have e3 : f2 3 = upd (f 3) G.O (nI j) := by rw [hf2, va_up_ne _ _ (by decide), hf1, va_up_self]
      have eo : ∀ k, k ≠ 3 → k ≠ 32 → f2 k = f k := fun k z1 z2 => by rw [hf2, va_up_ne _ _ z2, hf1, va_up_ne _ _ z1]
      have en1 : ∀ k, k ≠ 0 → n1 k = n k := fun k z => by rw [hn1, va_up_ne _ _ z]
      have gc := addO_C (n' := n1) (f' := f2) I.gc (p := j) (by rw [hn1, va_up_self]) (en1 1 (by decide)) e3 (fun k _ _ => eo k (by omega) (by omega))
      have tc := addO_tC (I.tc.up (n' := n1) (f' := f2) (en1 2 (by decide)) (fun k _ _ _ => eo k (by omega) (by omega))) j
      have gm := I.gm.up (n' := n1) (f' := f2) (en1 4 (by decide)) (en1 5 (by decide)) (fun k _ _ => eo k (by omega) (by omega))
      have tm := I.tm.up (n' := n1) (f' := f2) (en1 6 (by decide)) (fun k _ _ => eo k (by omega) (by omega))
      have en : ∀ k, k ≠ 3 → k ≠ 4 → va_up (va_up n1 3 0) 4 (nI (G.O + 1)) k = n1 k := fun k z1 z2 => by rw [va_up_ne _ _ z2, va_up_ne _ _ z1]
      have X2 : XI G T (va_up f2 19 (upd (f2 19) G.O (nI j))) := X.up (lowX.of (by rw [va_up_ne _ _ (by decide)]; exact eo 12 (by decide) (by decide)) (by rw [va_up_ne _ _ (by decide)]; exact eo 13 (by decide) (by decide)) (by rw [va_up_ne _ _ (by decide)]; exact eo 14 (by decide) (by decide)) (by rw [va_up_ne _ _ (by decide)]; exact eo 15 (by decide) (by decide)) (by rw [va_up_ne _ _ (by decide)]; exact eo 28 (by decide) (by decide)) (by rw [va_up_ne _ _ (by decide)]; exact eo 29 (by decide) (by decide)))
      exact hpost 0 n1 f2 (lm_operator_ok hj gm.nO hO2 (hK 0 (nI G.O) _ _ ⟨G.addO j, T, ⟨addO_ok I.g hj hO2, addO_T I.t j, gc.up (en 0 (by decide) (by decide)) (en 1 (by decide) (by decide)) (fun k _ _ => va_up_ne _ _ (by omega)), tc.up (en 2 (by decide) (by decide)) (fun k _ _ _ => va_up_ne _ _ (by omega)), addO_M I.g gm (va_up_self _ _ _) (en 5 (by decide) (by decide)) (va_up_self _ _ _) (fun k _ _ => va_up_ne _ _ (by omega)), addO_tM I.t (tm.up (en 6 (by decide) (by decide)) (fun k _ _ => va_up_ne _ _ (by omega))) j⟩, X2.addO j⟩))
    · have H := hpost 2 n f (lm_operator_full hj (by rw [I.gm.nO, show G.O = 10 by omega]) (hK 2 0 _ _ ⟨G, T, I.n3 2, X⟩))
      exact Or.inr ⟨fun a => absurd a hj0, fun _ => ⟨fun _ => ⟨fun z => absurd z (by rw [e10]; exact nI_nlt hO2 (by omega)), fun _ => Or.inr ⟨rfl, H⟩⟩, fun z => absurd hj2 z⟩⟩
theorem k2_chain {post : Int32 → ctN → ctF → Prop} {K : Int32 → Int32 → ctN → ctF → Prop} {n : ctN} {f : ctF} {p q c : Int32} (I : PInv2 n f) (hpost : ∀ r n1 f1, wp_M_chain (fun r2 n f => K r r2 n f) p q c n1 f1 → post r n1 f1) (hK : ∀ r r2 n' f', PInv2 n' f' → K r r2 n' f') : wp_L_chain post p q c n f := by
  obtain ⟨G, T, I, X⟩ := I
  refine lc_chain I (fun hb => hpost 1 n f (lm_chain_bad hb (hK 1 0 _ _ ⟨G, T, I.n3 1, X⟩))) (fun g h k hg hh hne hk e1 e2 e3 hR => hpost 2 n f ?_) (fun g h k hg hh hne hk e1 e2 e3 hR n1 f1 A => hpost 0 n1 f1 ?_)
  · subst e1 e2 e3
    exact lm_chain_full hg hh hne hk (by rw [I.gm.nR, hR]) (hK 2 0 _ _ ⟨G, T, I.n3 2, X⟩)
  · subst e1 e2 e3
    exact lm_chain_ok I.g A hg hh hne hk hR (fun n' f' I' _ _ => hK 0 _ n' f' ⟨_, _, I', XI.zero _ _ _⟩)
theorem k2_base {post : Int32 → ctN → ctF → Prop} {K : Int32 → Int32 → ctN → ctF → Prop} {n : ctN} {f : ctF} {p1 p2 p3 p4 p5 : Int32} (I : PInv2 n f) (hpost : ∀ r n1 f1, wp_M_base (fun r2 n f => K r r2 n f) p1 p2 p3 p4 p5 n1 f1 → post r n1 f1) (hK : ∀ r r2 n' f', PInv2 n' f' → K r r2 n' f') : wp_L_base post p1 p2 p3 p4 p5 n f := by
  obtain ⟨G, T, I, X⟩ := I
  exact lc_base I (fun hb => hpost 1 n f (lm_base_bad I.g I.gm hb (hK 1 0 _ _ ⟨G, T, I.n3 1, X⟩))) (fun g o a b c B hR => hpost 2 n f (lm_base_full I.g I.gm B hR (hK 2 0 _ _ ⟨G, T, I.n3 2, X⟩))) (fun g o a b c B hR n1 f1 A => hpost 0 n1 f1 (lm_base_ok I.g A B hR (fun n' f' I' _ _ => hK 0 _ n' f' ⟨_, _, I', XI.zero _ _ _⟩)))
theorem k2_node {post : Int32 → ctN → ctF → Prop} {K : Int32 → Int32 → ctN → ctF → Prop} {n : ctN} {f : ctF} {p1 p2 p3 : Int32} (I : PInv2 n f) (hpost : ∀ r n1 f1, wp_M_node (fun r2 n f => K r r2 n f) p1 p2 p3 n1 f1 → post r n1 f1) (hK : ∀ r r2 n' f', PInv2 n' f' → K r r2 n' f') : wp_L_node post p1 p2 p3 n f := by
  obtain ⟨G, T, I, X⟩ := I
  have hR40 := I.g.R40
  refine lc_node2 I (fun hb => hpost 1 n f (lm_node_bad I.g I.t I.gm I.tm.nN hb (hK 1 0 _ _ ⟨G, T, I.n3 1, X⟩))) (fun o a b B hN => hpost 2 n f (lm_node_full I.g I.t I.gm I.tm.nN B hN (hK 2 0 _ _ ⟨G, T, I.n3 2, X⟩))) (fun o a b C B hN hl hd f1 I1 low => hpost 2 n f1 ?_) (fun o a b C B0 Q m B hN hl hB hd n1 f1 gc tc gm tm out nc => hpost 0 n1 f1 ?_)
  · refine lm_node_go I1.g I1.t I1.gm I1.tm B hN hl (fun _ f' s => ?_) (fun z => absurd hd z)
    have en : ∀ k, k ≠ 3 → va_up n 3 2 k = n k := fun k z => va_up_ne _ _ z
    obtain ⟨m1, d1⟩ := node_low (n' := va_up n 3 2) I1.g I1.t I1.gm I1.tm s (en 4 (by decide)) (en 5 (by decide)) (en 6 (by decide))
    have ef : ∀ k, k ≤ 17 → f' k = f1 k := fun k hk => by rw [s.1 k (by omega) (by omega) (by omega) (by omega), setM_o _ _ _ _ _ (by omega) (by omega) (by omega)]
    refine hK 2 0 _ f' ⟨G, T, ⟨I1.g, I1.t, I1.gc.up (en 0 (by decide)) (en 1 (by decide)) (fun k _ _ => ef k (by omega)), I1.tc.up (en 2 (by decide)) (fun k _ _ _ => ef k (by omega)), m1, d1⟩, (X.up low).up (fun v hv => ⟨by rw [ef 12 (by decide)], by rw [ef 13 (by decide)], fun g hg => ⟨by rw [ef 14 (by decide)], by rw [ef 15 (by decide)], ?_, ?_⟩⟩)⟩
    · rw [(s.2 (8 * v + g) (by omega)).1, setM_o _ _ _ _ _ (by decide) (by decide) (by decide)]
    · rw [(s.2 (8 * v + g) (by omega)).2.1, setM_o _ _ _ _ _ (by decide) (by decide) (by decide)]
  · obtain ⟨n1', n2', n3', n4', n5', n6', n7', n8', n9', n10'⟩ := nc
    refine lm_node_go2 hB I.g I.t gm tm B hN hl (fun z => absurd z hd) (fun _ f' E hP n' en h3 h6 => ?_)
    obtain ⟨P, hP1, hP2⟩ := hP
    obtain ⟨m1, d1⟩ := node_new (n' := n') I.g I.t gm tm B E (en 4 (by decide) (by decide)) (en 5 (by decide) (by decide)) h6
    have s := E.same
    have ef : ∀ k, k ≤ 17 ∨ 31 < k → f' k = f1 k := fun k hk => by rw [s.1 k (by omega) (by omega) (by omega) (by omega), setM_o _ _ _ _ _ (by omega) (by omega) (by omega)]
    have mo : ∀ g x, C g = some x → x ≤ 1000000 := by
      intro g x hx
      have hg := least_lt8 I.g hl hx
      rcases Nat.lt_or_ge 1000000 x with z | z
      · exact absurd ⟨g, x, hg, hx, z⟩ hd
      · exact z
    have low : lowX T.N f f' := n2'.tr (fun v hv => ⟨by rw [ef 12 (by decide)], by rw [ef 13 (by decide)], fun g hg => ⟨by rw [ef 14 (by decide)], by rw [ef 15 (by decide)], by rw [(s.2 (8 * v + g) (by omega)).1, setM_o _ _ _ _ _ (by decide) (by decide) (by decide)], by rw [(s.2 (8 * v + g) (by omega)).2.1, setM_o _ _ _ _ _ (by decide) (by decide) (by decide)]⟩⟩)
    have hBR : ∀ g i, B0 g = some i → i < G.R := by
      intro g i h
      have q := hB g
      rw [h] at q
      exact q.2.1
    have nx : nodeX G C B0 Q P T.N f' := by
      refine ⟨newND I.g hl hB n1' hP2 n6', mo, fun g i h => ?_, fun g i h => ?_, ?_, fun g hg => ?_, fun g hg => ?_, fun g hg => E.row g hg, hP1⟩
      · have := n5' g i h; omega
      · have := hP2.lt hBR h; omega
      · rw [ef 12 (by decide)]; exact n3'
      · rw [ef 14 (by decide)]; exact (n4' g hg).1
      · rw [ef 15 (by decide)]; exact (n4' g hg).2
    have lk : ∀ j, likeTo f1 j T.N 8 ↔ likeTo f' j T.N 8 := fun j => ⟨fun h => h.up (ef 12 (by decide)) (ef 14 (by decide)) (ef 15 (by decide)), fun h => h.up (ef 12 (by decide)).symm (ef 14 (by decide)).symm (ef 15 (by decide)).symm⟩
    refine hK 0 _ n' f' ⟨G, T.addN o a b C, ⟨I.g, addN_ok I.t B hN mo, gc.up (en 0 (by decide) (by decide)) (en 1 (by decide) (by decide)) (fun k _ _ => ef k (by omega)), tc.up (en 2 (by decide) (by decide)) (fun k _ _ _ => ef k (by omega)), m1, d1⟩, X.addN low nx ?_ n8' ?_ (fun j hj hjl => ?_)⟩
    · rw [ef 13 (by decide)]; exact n7'
    · rcases n9' with z | ⟨z1, z2⟩
      · exact Or.inl z
      · exact Or.inr ⟨by rw [ef 13 (by decide)]; exact z1, (lk m).mp z2⟩
    · refine n10' j hj ⟨?_, (lk j).mpr hjl.2⟩
      have := hjl.1
      rw [ef 13 (by decide)] at this
      exact this
theorem k2_cost {post : Int32 → ctN → ctF → Prop} {K : Int32 → Int32 → ctN → ctF → Prop} {n : ctN} {f : ctF} {p q : Int32} (I : PInv2 n f) (hpost : ∀ r n1 f1, wp_M_cost (fun r2 n f => K r r2 n f) p q n1 f1 → post r n1 f1) (hK : ∀ r r2 n' f', PInv2 n' f' → K r r2 n' f') : wp_L_cost post p q n f := by
  obtain ⟨G, T, I, X⟩ := I
  refine lc_cost I (fun hb => hpost 1 n f (lm_cost I (fun _ => hK 1 0 _ _ ⟨G, T, I.n3 1, X⟩) (fun v g hv hg e1 e2 => hK 1 _ _ _ ⟨G, T, I.n3 0, X⟩))) (fun v g hv hg e1 e2 => hpost 0 n _ (lm_cost (I.f32 _) (fun hb => hK 0 0 _ _ ⟨G, T, (I.f32 _).n3 1, X.s32 (fun _ hk => va_up_ne _ _ hk)⟩) (fun v2 g2 hv2 hg2 e3 e4 => hK 0 _ _ _ ⟨G, T, (I.f32 _).n3 0, X.s32 (fun _ hk => va_up_ne _ _ hk)⟩)))
theorem k2_rule {post : Int32 → ctN → ctF → Prop} {K : Int32 → Int32 → ctN → ctF → Prop} {n : ctN} {f : ctF} {p q : Int32} (I : PInv2 n f) (hpost : ∀ r n1 f1, wp_M_rule (fun r2 n f => K r r2 n f) p q n1 f1 → post r n1 f1) (hK : ∀ r r2 n' f', PInv2 n' f' → K r r2 n' f') : wp_L_rule post p q n f := by
  obtain ⟨G, T, I, X⟩ := I
  exact lc_rule I (fun r f1 e => hpost r n f1 (lm_rule (I.up (fun _ _ _ _ => rfl) e) (fun r2 n' e' => hK r r2 n' f1 ⟨G, T, I.up e' e, X.s32 e⟩)))
theorem k2_size {post : Int32 → ctN → ctF → Prop} {K : Int32 → Int32 → ctN → ctF → Prop} {n : ctN} {f : ctF} {p q : Int32} (I : PInv2 n f) (hpost : ∀ r n1 f1, wp_M_size (fun r2 n f => K r r2 n f) p q n1 f1 → post r n1 f1) (hK : ∀ r r2 n' f', PInv2 n' f' → K r r2 n' f') : wp_L_size post p q n f := by
  obtain ⟨G, T, I, X⟩ := I
  exact lc_size I (fun r f1 e => hpost r n f1 (lm_size (I.up (fun _ _ _ _ => rfl) e) (fun r2 n' e' => hK r r2 n' f1 ⟨G, T, I.up e' e, X.s32 e⟩)))
theorem k2_cover {post : Int32 → ctN → ctF → Prop} {K : Int32 → Int32 → ctN → ctF → Prop} {n : ctN} {f : ctF} {p q c w : Int32} (I : PInv2 n f) (hpost : ∀ r n1 f1, wp_M_cover (fun r2 n f => K r r2 n f) p q c w n1 f1 → post r n1 f1) (hK : ∀ r r2 n' f', PInv2 n' f' → K r r2 n' f') : wp_L_cover post p q c w n f := by
  obtain ⟨G, T, I, X⟩ := I
  exact lc_cover I (fun r f1 e => hpost r n f1 (lm_cover (I.up (fun _ _ _ _ => rfl) e) (fun r2 n' e' => hK r r2 n' f1 ⟨G, T, I.up e' e, X.s32 e⟩)))
theorem k2_like {post : Int32 → ctN → ctF → Prop} {K : Int32 → Int32 → ctN → ctF → Prop} {n : ctN} {f : ctF} {p : Int32} (I : PInv2 n f) (hpost : ∀ r n1 f1, wp_M_like (fun r2 n f => K r r2 n f) p n1 f1 → post r n1 f1) (hK : ∀ r r2 n' f', PInv2 n' f' → n' 3 = r → (r = 0 → f' 32 0 = r2) → K r r2 n' f') : wp_L_like post p n f := by
  obtain ⟨G, T, I, X⟩ := I
  have hN := I.t.N120
  unfold wp_L_like wp_C_like
  rcases ix_or p (N := T.N) (by omega) with hb | ⟨v, hv, rfl⟩
  · refine Or.inr (c_has0 I.tc.nN hb ⟨fun z => absurd rfl z, fun _ => ⟨rfl, hpost 1 n f ?_⟩⟩)
    unfold wp_M_like
    exact m_node0 I.tm.nN hN hb ⟨fun z => absurd rfl z, fun _ => m_ref1 ⟨fun z => absurd z (by decide), fun _ => hK 1 0 _ _ ⟨G, T, I.n3 1, X⟩ (va_up_self _ _ _) (fun z => absurd z (by decide))⟩⟩
  · refine Or.inl (c_has1 I.tc.nN hN hv ⟨fun _ => ⟨vp_in_nI (by omega) (by decide), ?_⟩, fun z => absurd z (by decide)⟩)
    rw [nI_clamp (by omega)]
    rintro f1 hf1
    have e : ∀ k, k ≠ 32 → f1 k = f k := fun k hk => by rw [hf1, va_up_ne _ _ hk]
    have X1 := X.s32 e
    obtain ⟨B, Q, P, lk, hk⟩ := id X1
    refine hpost 0 n f1 ?_
    unfold wp_M_like
    refine m_node1 I.tm.nN hN hv ⟨fun _ => m_ref0 ⟨fun _ => ?_, fun z => absurd rfl z⟩, fun z => absurd z (by decide)⟩
    refine wm_likeOf2 I.t hk hv (hK 0 _ _ _ ⟨G, T, (I.up (fun _ _ _ _ => rfl) e).n3 0, X1⟩ (va_up_self _ _ _) (fun _ => ?_))
    rw [← (hk v hv).2.1, hf1, va_up_self, upd_self, va_up_ne _ _ (by decide)]
theorem k2_states {post : Int32 → ctN → ctF → Prop} {K : Int32 → Int32 → ctN → ctF → Prop} {n : ctN} {f : ctF} (I : PInv2 n f) (hpost : ∀ r n1 f1, wp_M_states (fun r2 n f => K r r2 n f) n1 f1 → post r n1 f1) (hK : ∀ r r2 n' f', PInv2 n' f' → r = r2 → K r r2 n' f') : wp_C_states post n f := by
  obtain ⟨G, T, I, X⟩ := I
  obtain ⟨B, Q, P, lk, hk⟩ := id X
  unfold wp_C_states
  exact w_countStates I.tc.nN I.t.N120 (hpost _ n f (wm_states2 I.t I.tm.nN hk (hK _ _ _ _ ⟨G, T, I.n3 0, X⟩ rfl)))
theorem k2_clear {post : ctN → ctF → Prop} {K : ctN → ctF → Prop} {n : ctN} {f : ctF} (I : PInv2 n f) (hpost : ∀ n1 f1, wp_M_clear (fun n f => K n f) n1 f1 → post n1 f1) (hK : ∀ n' f', PInv2 n' f' → K n' f') : wp_C_clear post n f := by
  obtain ⟨G, T, I, X⟩ := I
  have h := l_clear (post := K) I (fun n' I' => hK n' f ⟨_, _, I', XI.zero _ _ _⟩)
  unfold wp_C_clear at h ⊢
  intro a ha b hb c hc
  exact hpost c f (h a ha b hb c hc)
theorem k2_fell {post : ctN → ctF → Prop} {K : ctN → ctF → Prop} {n : ctN} {f : ctF} (I : PInv2 n f) (hpost : ∀ n1 f1, wp_M_fell (fun n f => K n f) n1 f1 → post n1 f1) (hK : ∀ n' f', PInv2 n' f' → K n' f') : wp_C_fell post n f := by
  obtain ⟨G, T, I, X⟩ := I
  have h := l_fell (post := K) I (fun n' I' => hK n' f ⟨_, _, I', XI.zero _ _ _⟩)
  unfold wp_C_fell at h ⊢
  intro a ha
  exact hpost a f (h a ha)
