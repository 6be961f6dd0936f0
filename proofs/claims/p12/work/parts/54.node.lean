/-! node -/
def TD.addN (T : TD) (o a b : Nat) (C : Nat → Option Nat) : TD := TD.mk (T.N + 1) (va_up T.kd T.N o) (va_up T.u1 T.N a) (va_up T.u2 T.N b) (va_up T.C T.N C)
def nGood (G : GD) (T : TD) (p1 p2 p3 : Int32) (o a b : Nat) : Prop := (o < G.O) ∧ (p1 = nI o) ∧ (1 ≤ G.k o → p2 = nI a ∧ a < T.N) ∧ (¬ 1 ≤ G.k o → a = 0) ∧ (2 ≤ G.k o → p3 = nI b ∧ b < T.N) ∧ (¬ 2 ≤ G.k o → b = 0)
theorem nGood.oO {G : GD} {T : TD} {p1 p2 p3 : Int32} {o a b : Nat} (h : nGood G T p1 p2 p3 o a b) : o < G.O := h.1
theorem nGood.e1 {G : GD} {T : TD} {p1 p2 p3 : Int32} {o a b : Nat} (h : nGood G T p1 p2 p3 o a b) : p1 = nI o := h.2.1
theorem nGood.e2 {G : GD} {T : TD} {p1 p2 p3 : Int32} {o a b : Nat} (h : nGood G T p1 p2 p3 o a b) : 1 ≤ G.k o → p2 = nI a ∧ a < T.N := h.2.2.1
theorem nGood.e2' {G : GD} {T : TD} {p1 p2 p3 : Int32} {o a b : Nat} (h : nGood G T p1 p2 p3 o a b) : ¬ 1 ≤ G.k o → a = 0 := h.2.2.2.1
theorem nGood.e3 {G : GD} {T : TD} {p1 p2 p3 : Int32} {o a b : Nat} (h : nGood G T p1 p2 p3 o a b) : 2 ≤ G.k o → p3 = nI b ∧ b < T.N := h.2.2.2.2.1
theorem nGood.e3' {G : GD} {T : TD} {p1 p2 p3 : Int32} {o a b : Nat} (h : nGood G T p1 p2 p3 o a b) : ¬ 2 ≤ G.k o → b = 0 := h.2.2.2.2.2
def nBad (G : GD) (T : TD) (p1 p2 p3 : Int32) : Prop := badIx p1 G.O ∨ ∃ o, o < G.O ∧ p1 = nI o ∧ (1 ≤ G.k o ∧ badIx p2 T.N ∨ 2 ≤ G.k o ∧ badIx p3 T.N)
theorem n_part (c : Prop) (p : Int32) {N : Nat} (hN : N ≤ 120) : (c ∧ badIx p N) ∨ ∃ h, (c → p = nI h ∧ h < N) ∧ (¬ c → h = 0) := by
  by_cases hc : c
  · rcases ix_or p (N := N) (by omega) with hp | ⟨h, hh, rfl⟩
    · exact Or.inl ⟨hc, hp⟩
    · exact Or.inr ⟨h, fun _ => ⟨rfl, hh⟩, fun z => absurd hc z⟩
  · exact Or.inr ⟨0, fun z => absurd z hc, fun _ => rfl⟩
theorem n_or {G : GD} {T : TD} (hG : G.ok) (hT : T.ok G) (p1 p2 p3 : Int32) : nBad G T p1 p2 p3 ∨ ∃ o a b, nGood G T p1 p2 p3 o a b := by
  unfold nBad
  rcases ix_or p1 (N := G.O) (by have := hG.O10; omega) with hq | ⟨o, ho, e1⟩
  · exact Or.inl (Or.inl hq)
  · rcases n_part (1 ≤ G.k o) p2 hT.N120 with h2 | ⟨a, e2, e2'⟩
    · exact Or.inl (Or.inr ⟨o, ho, e1, Or.inl h2⟩)
    · rcases n_part (2 ≤ G.k o) p3 hT.N120 with h3 | ⟨b, e3, e3'⟩
      · exact Or.inl (Or.inr ⟨o, ho, e1, Or.inr h3⟩)
      · exact Or.inr ⟨o, a, b, ho, e1, e2, e2', e3, e3'⟩
theorem nGood.no {G : GD} {T : TD} (hT : T.ok G) {p1 p2 p3 : Int32} {o a b : Nat} (B : nGood G T p1 p2 p3 o a b) : ¬ (1 ≤ G.k o ∧ badIx p2 T.N ∨ 2 ≤ G.k o ∧ badIx p3 T.N) := by
  have := hT.N120
  rintro (⟨z1, z2⟩ | ⟨z1, z2⟩)
  · rw [(B.e2 z1).1] at z2; exact ix_no (B.e2 z1).2 (by omega) z2
  · rw [(B.e3 z1).1] at z2; exact ix_no (B.e3 z1).2 (by omega) z2
theorem addN_ok {G : GD} {T : TD} (hT : T.ok G) {p1 p2 p3 : Int32} {o a b : Nat} (B : nGood G T p1 p2 p3 o a b) (hN : T.N < 120) {C : Nat → Option Nat} (hC : ∀ g x, C g = some x → x ≤ 1000000) : (T.addN o a b C).ok G := by
  refine ⟨hN, fun v hv => ?_, fun v g x hv hx => ?_⟩
  · show va_up T.kd T.N o v < G.O ∧ va_up T.u1 T.N a v ≤ v ∧ va_up T.u2 T.N b v ≤ v ∧ (1 ≤ G.k (va_up T.kd T.N o v) → va_up T.u1 T.N a v < v ∧ va_up T.u2 T.N b v < v)
    by_cases e : v = T.N
    · subst e
      rw [va_up_self, va_up_self, va_up_self]
      have ha : 1 ≤ G.k o → a < T.N := fun z => (B.e2 z).2
      have hb : 2 ≤ G.k o → b < T.N := fun z => (B.e3 z).2
      have ha' := B.e2'
      have hb' := B.e3'
      refine ⟨B.oO, ?_, ?_, fun z => ⟨ha z, ?_⟩⟩
      · by_cases z : 1 ≤ G.k o
        · have := ha z; omega
        · rw [ha' z]; omega
      · by_cases z : 2 ≤ G.k o
        · have := hb z; omega
        · rw [hb' z]; omega
      · by_cases z2 : 2 ≤ G.k o
        · exact hb z2
        · rw [hb' z2]; have := ha z; omega
    · rw [va_up_ne _ _ e, va_up_ne _ _ e, va_up_ne _ _ e]
      exact hT.nd v (by have : v < T.N + 1 := hv; omega)
  · have hx : va_up T.C T.N C v g = some x := hx
    by_cases e : v = T.N
    · subst e
      rw [va_up_self] at hx
      exact hC g x hx
    · rw [va_up_ne _ _ e] at hx
      exact hT.mo v g x (by have : v < T.N + 1 := hv; omega) hx
theorem c_node_go {post : Int32 → ctN → ctF → Prop} {xp : String → ctN → ctF → Prop} {n : ctN} {f : ctF} {G : GD} {T : TD} {o : Nat} {p2 p3 : Int32} (hG : G.ok) (hT : T.ok G) (hC : gC G n f) (hD : tC G T n f) (ho : o < G.O) (hx : (1 ≤ G.k o ∧ badIx p2 T.N ∨ 2 ≤ G.k o ∧ badIx p3 T.N) → xp "java/lang/IllegalArgumentException" n f)
    (H : ¬ (1 ≤ G.k o ∧ badIx p2 T.N ∨ 2 ≤ G.k o ∧ badIx p3 T.N) → wp_C_node_J76 post xp (nI o) p2 p3 (nI (G.k o)) n f) : wp_C_node post xp (nI o) p2 p3 n f := by
  have hO := hG.O10
  have hk := hG.k2 o ho
  have hN := hT.N120
  have J49 : ¬ (1 ≤ G.k o ∧ badIx p2 T.N) → wp_C_node_J49 post xp (nI o) p2 p3 (nI (G.k o)) n f := by
    intro h2
    unfold wp_C_node_J49
    refine ⟨fun z => H (fun u => u.elim h2 (fun u => by have := (lt2_nI hk).mp z; omega)), fun z => ?_⟩
    have z2 : 2 ≤ G.k o := by
      have : ¬ G.k o < 2 := fun y => z ((lt2_nI hk).mpr y)
      omega
    rcases ix_or p3 (N := T.N) (by omega) with hp | ⟨b, hb, rfl⟩
    · exact c_has0 hD.nN hp ⟨fun y => absurd rfl y, fun _ => hx (Or.inr ⟨z2, hp⟩)⟩
    · exact c_has1 hD.nN hN hb ⟨fun _ => H (fun u => u.elim h2 (fun u => ix_no hb (by omega) u.2)), fun y => absurd y (by decide)⟩
  unfold wp_C_node
  refine c_op1 hC.nO hO ho ⟨fun _ => ⟨vp_in_nI (by omega) (by decide), ?_⟩, fun z => absurd z (by decide)⟩
  rw [nI_clamp (by omega), hC.pa o ho]
  rintro _ rfl
  refine ⟨fun z => J49 (fun u => by have := (lt1_nI hk).mp z; omega), fun z => ?_⟩
  have z1 : 1 ≤ G.k o := by
    have : ¬ G.k o < 1 := fun y => z ((lt1_nI hk).mpr y)
    omega
  rcases ix_or p2 (N := T.N) (by omega) with hp | ⟨a, ha, rfl⟩
  · exact c_has0 hD.nN hp ⟨fun _ => hx (Or.inl ⟨z1, hp⟩), fun y => absurd rfl y⟩
  · exact c_has1 hD.nN hN ha ⟨fun y => absurd y (by decide), fun _ => J49 (fun u => ix_no ha (by omega) u.2)⟩
theorem lt120_nI {j : Nat} (h : j ≤ 120) : nI j < 120 ↔ j < 120 := by
  rw [show (120 : Int32) = nI 120 by decide]; exact nI_ltI (by omega) (by decide)
/-- the class's way from room for a node to its draft -/
theorem c_node_draft {post : Int32 → ctN → ctF → Prop} {xp : String → ctN → ctF → Prop} {n : ctN} {f : ctF} {G : GD} {T : TD} {p1 p2 p3 : Int32} {o a b : Nat} (hG : G.ok) (hD : tC G T n f) (B : nGood G T p1 p2 p3 o a b) (hN : T.N < 120) (H : wp_C_node_J125 post xp (nI b) (nI a) (nI o) n f) : wp_C_node_J76 post xp (nI o) p2 p3 (nI (G.k o)) n f := by
  have hk := hG.k2 o B.oO
  have z0 : (0 : Int32) = nI 0 := nI_0.symm
  have J114 : ∀ x, x = nI a → wp_C_node_J114 post xp p3 (nI (G.k o)) x (nI o) n f := by
    rintro _ rfl
    unfold wp_C_node_J114
    refine ⟨fun z => ?_, fun z => ?_⟩
    · have := (lt2_nI hk).mp z
      rw [z0, ← B.e3' (by omega)]
      exact H
    · have q2 : ¬ G.k o < 2 := fun u => z ((lt2_nI hk).mpr u)
      rw [(B.e3 (by omega)).1]
      exact H
  unfold wp_C_node_J76
  refine ⟨fun _ => ⟨fun z => J114 0 ?_, fun z => J114 p2 ?_⟩, fun z => absurd (by rw [hD.nN, lt120_nI (by omega)]; exact hN) z⟩
  · have := (lt1_nI hk).mp z
    rw [B.e2' (by omega)]; exact z0
  · have q1 : ¬ G.k o < 1 := fun u => z ((lt1_nI hk).mpr u)
    exact (B.e2 (by omega)).1
/-- what the draft is to the class's own words on nodes: those before it stand -/
theorem draft_low {G : GD} {T : TD} {n : ctN} {f f' : ctF} {o a b : Nat} {pr C Q : Nat → Option Nat} (hC : gC G n f) (hD : tC G T n f) (E : stE G pr T.N (q_setN f T.N (nI o) (nI a) (nI b)) f' C Q) : gC G n f' ∧ tC G T n f' := by
  have s := E.same
  refine ⟨hC.up rfl rfl (fun k h1 h2 => by rw [s.1 k (by omega) (by omega) (by omega) (by omega) (by omega), setN_o _ _ _ _ _ (by omega) (by omega) (by omega)]), hD.nN, fun v hv => ?_, fun v g hv hg => ?_, fun v g hv hg => ?_⟩
  · rw [s.1 9 (by decide) (by decide) (by decide) (by decide) (by decide), s.1 10 (by decide) (by decide) (by decide) (by decide) (by decide), s.1 11 (by decide) (by decide) (by decide) (by decide) (by decide), setN_9, setN_10, setN_11, upd_ne _ _ (by omega), upd_ne _ _ (by omega), upd_ne _ _ (by omega)]
    exact hD.nd v hv
  · rw [(s.2.2 (8 * v + g) (by omega)).1, setN_o _ _ _ _ _ (by decide) (by decide) (by decide)]
    exact hD.co v g hv hg
  · rw [(s.2.2 (8 * v + g) (by omega)).2.1, (s.2.2 (8 * v + g) (by omega)).2.2, setN_o _ _ _ _ _ (by decide) (by decide) (by decide), setN_o _ _ _ _ _ (by decide) (by decide) (by decide)]
    exact hD.ru v g hv hg
theorem draft_new {G : GD} {T : TD} {n n' : ctN} {f f' f'' : ctF} {o a b : Nat} {pr C Q : Nat → Option Nat} (hC : gC G n f) (hD : tC G T n f) (E : stE G pr T.N (q_setN f T.N (nI o) (nI a) (nI b)) f' C Q) (e : ∀ k, k ≤ 17 → k ≠ 13 → f'' k = f' k) (e0 : n' 0 = n 0) (e1 : n' 1 = n 1) (e2 : n' 2 = nI (T.N + 1)) : gC G n' f'' ∧ tC G (T.addN o a b C) n' f'' := by
  obtain ⟨c1, d1⟩ := draft_low hC hD E
  have s := E.same
  refine ⟨c1.up e0 e1 (fun k _ _ => e k (by omega) (by omega)), e2, fun v hv => ?_, fun v g hv hg => ?_, fun v g hv hg => ?_⟩
  · show f'' 9 v = nI (va_up T.kd T.N o v) ∧ f'' 10 v = nI (va_up T.u1 T.N a v) ∧ f'' 11 v = nI (va_up T.u2 T.N b v)
    rw [e 9 (by decide) (by decide), e 10 (by decide) (by decide), e 11 (by decide) (by decide)]
    by_cases z : v = T.N
    · subst z
      rw [s.1 9 (by decide) (by decide) (by decide) (by decide) (by decide), s.1 10 (by decide) (by decide) (by decide) (by decide) (by decide), s.1 11 (by decide) (by decide) (by decide) (by decide) (by decide), setN_9, setN_10, setN_11, upd_self, upd_self, upd_self, va_up_self, va_up_self, va_up_self]
      exact ⟨rfl, rfl, rfl⟩
    · rw [va_up_ne _ _ z, va_up_ne _ _ z, va_up_ne _ _ z]
      exact d1.nd v (by have : v < T.N + 1 := hv; omega)
  · show f'' 14 (8 * v + g) = en (va_up T.C T.N C v g)
    rw [e 14 (by decide) (by decide)]
    by_cases z : v = T.N
    · subst z; rw [va_up_self]; exact (E.row.1 g hg).1
    · rw [va_up_ne _ _ z]; exact d1.co v g (by have : v < T.N + 1 := hv; omega) hg
  · rw [e 15 (by decide) (by decide), e 16 (by decide) (by decide)]
    by_cases z : v = T.N
    · subst z
      refine ⟨(E.siz g hg).1, ?_⟩
      rw [(E.row.1 g hg).2]
      cases q : Q g with
      | none => exact Or.inl ⟨rfl, (E.siz g hg).2 q⟩
      | some i => exact Or.inr ⟨i, E.rul g i q, rfl⟩
    · exact d1.ru v g (by have : v < T.N + 1 := hv; omega) hg
/-- the costs of a node: what no rule can better, and what some rules reach -/
def leastC (G : GD) (T : TD) (o a b : Nat) (C : Nat → Option Nat) : Prop := closedC G.R G.go (chG G) G.g1 G.co (prG G T o a b) C ∧ aboveC G.R G.go (chG G) G.g1 G.co (prG G T o a b) C
theorem sameC18 {G : GD} {T : TD} {f f' : ctF} {o a b : Nat} {pr C Q : Nat → Option Nat} (E : stE G pr T.N (q_setN f T.N (nI o) (nI a) (nI b)) f' C Q) {k : Nat} (hk : 18 ≤ k) : f' k = f k := by
  rw [E.same.1 k (by omega) (by omega) (by omega) (by omega) (by omega), setN_o _ _ _ _ _ (by omega) (by omega) (by omega)]
theorem lc_node {post : Int32 → ctN → ctF → Prop} {n : ctN} {f : ctF} {G : GD} {T : TD} {p1 p2 p3 : Int32} (I : IV G T n f) (h1 : nBad G T p1 p2 p3 → post 1 n f) (h2 : ∀ o a b, nGood G T p1 p2 p3 o a b → T.N = 120 → post 2 n f)
    (h3 : ∀ o a b C, nGood G T p1 p2 p3 o a b → T.N < 120 → leastC G T o a b C → dearTo C 8 → ∀ f', IV G T n f' → post 2 n f')
    (h0 : ∀ o a b C, nGood G T p1 p2 p3 o a b → T.N < 120 → leastC G T o a b C → ¬ dearTo C 8 → ∀ n' f', gC G n' f' → tC G (T.addN o a b C) n' f' → gM G n' f' → tM G T n' f' → f' 32 0 = nI T.N → post 0 n' f') : wp_L_node post p1 p2 p3 n f := by
  have hN := I.t.N120
  unfold wp_L_node
  rcases n_or I.g I.t p1 p2 p3 with hb | ⟨o, a, b, B⟩
  · right
    have H := h1 hb
    rcases ix_or p1 (N := G.O) (by have := I.g.O10; omega) with hq | ⟨o, ho, rfl⟩
    · unfold wp_C_node
      exact c_op0 I.gc.nO hq ⟨fun z => absurd rfl z, fun _ => Or.inl ⟨rfl, H⟩⟩
    · refine c_node_go I.g I.t I.gc I.tc ho (fun _ => Or.inl ⟨rfl, H⟩) (fun hno => ?_)
      exfalso
      rcases hb with z | ⟨o2, ho2, e, z⟩
      · exact ix_no ho (by have := I.g.O10; omega) z
      · have hO := I.g.O10
        rw [nI_eq (by omega) (by omega)] at e
        subst e
        exact hno z
  · have ha : 1 ≤ G.k o → a < T.N := fun z => (B.e2 z).2
    have hb : 2 ≤ G.k o → b < T.N := fun z => (B.e3 z).2
    rw [B.e1]
    rcases Nat.lt_or_ge T.N 120 with hN2 | hN2
    · -- decide the outcome by the draft itself: both sides of the or are tried on it
      have key : ∀ f' C Q, stE G (prG G T o a b) T.N (q_setN f T.N (nI o) (nI a) (nI b)) f' C Q → (¬ dearTo C 8 → wp_F_keepDraft (fun (r : Int32) (n : ctN) (f : ctF) => ∀ f2 : ctF, f2 = va_up f 32 (upd (f 32) 0 r) → post 0 n f2) n f') := by
        intro f' C Q E hd
        refine w_keepDraft I.tc.nN hN2 (fun m _ _ _ => ?_)
        rintro f2 hf2
        have e : ∀ k, k ≠ 13 → k ≠ 32 → f2 k = f' k := fun k z1 z2 => by rw [hf2, va_up_ne _ _ z2, va_up_ne _ _ z1]
        have en : ∀ k, k ≠ 2 → va_up n 2 (nI (T.N + 1)) k = n k := fun k z => va_up_ne _ _ z
        obtain ⟨c1, d1⟩ := draft_new (n' := va_up n 2 (nI (T.N + 1))) (f'' := f2) I.gc I.tc E (fun k z1 z2 => e k z2 (by omega)) (en 0 (by decide)) (en 1 (by decide)) (va_up_self _ _ _)
        exact h0 o a b C B hN2 ⟨E.clo, E.abv⟩ hd _ f2 c1 d1 (I.gm.up (en 4 (by decide)) (en 5 (by decide)) (fun k z1 z2 => by rw [e k (by omega) (by omega), sameC18 E (by omega)])) (I.tm.up (en 6 (by decide)) (fun k z1 z2 => by rw [e k (by omega) (by omega), sameC18 E (by omega)])) (by rw [hf2, va_up_self, upd_self])
      by_cases hd : ∃ C, leastC G T o a b C ∧ dearTo C 8
      · right
        obtain ⟨C0, hl, hd⟩ := hd
        refine c_node_go I.g I.t I.gc I.tc B.oO (fun z => absurd z (B.no I.t)) (fun _ => c_node_draft I.g I.tc B hN2 ?_)
        unfold wp_C_node_J125
        refine w_draft I.g I.t I.gc I.tc hN2 B.oO ha hb (fun f' C Q E => ?_)
        have eC : C = C0 := funext (least_one E.clo E.abv hl.1 hl.2)
        subst eC
        refine w_tooDear (N := T.N) I.tc.nN hN2 E.row (fun _ => ⟨fun z => absurd z (by decide), fun _ => Or.inr ⟨rfl, ?_⟩⟩) (fun z => ?_)
        · obtain ⟨c1, d1⟩ := draft_low I.gc I.tc E
          exact h3 o a b C B hN2 ⟨E.clo, E.abv⟩ hd f' ⟨I.g, I.t, c1, d1, I.gm.up rfl rfl (fun k z1 z2 => sameC18 E (by omega)), I.tm.up rfl (fun k z1 z2 => sameC18 E (by omega))⟩
        · exfalso
          obtain ⟨g, x, hg, hx, hgt⟩ := hd
          have := z g x hg hx
          omega
      · left
        refine c_node_go I.g I.t I.gc I.tc B.oO (fun z => absurd z (B.no I.t)) (fun _ => c_node_draft I.g I.tc B hN2 ?_)
        unfold wp_C_node_J125
        refine w_draft I.g I.t I.gc I.tc hN2 B.oO ha hb (fun f' C Q E => ?_)
        refine w_tooDear (N := T.N) I.tc.nN hN2 E.row (fun z => absurd ⟨C, ⟨E.clo, E.abv⟩, z⟩ hd) (fun z => ⟨fun _ => key f' C Q E (fun w => hd ⟨C, ⟨E.clo, E.abv⟩, w⟩), fun w => absurd rfl w⟩)
    · right
      refine c_node_go I.g I.t I.gc I.tc B.oO (fun z => absurd z (B.no I.t)) (fun _ => ?_)
      unfold wp_C_node_J76
      exact ⟨fun z => absurd z (by rw [I.tc.nN, lt120_nI hN]; omega), fun _ => Or.inr ⟨rfl, h2 o a b B (by omega)⟩⟩
/-- the reference's -/
theorem m_node_J67 {post : Int32 → ctN → ctF → Prop} {n : ctN} {f : ctF} {p1 p2 p3 x5 : Int32} (h : post 0 (va_up n 3 1) f) : wp_M_node_J67 post p1 p2 p3 x5 n f := by
  unfold wp_M_node_J67 wp_M_node_J68
  refine ⟨fun z => absurd rfl z, fun _ => ?_⟩
  unfold wp_M_node_J81 wp_M_node_J95
  exact ⟨fun _ => m_ref1 ⟨fun z => absurd z (by decide), fun _ => h⟩, fun _ => m_ref1 ⟨fun z => absurd z (by decide), fun _ => h⟩⟩
theorem m_node_go {post : Int32 → ctN → ctF → Prop} {n : ctN} {f : ctF} {G : GD} {T : TD} {o : Nat} {p2 p3 : Int32} (hG : G.ok) (hT : T.ok G) (hM : gM G n f) (hN6 : n 6 = nI T.N) (ho : o < G.O) (hx : (1 ≤ G.k o ∧ badIx p2 T.N ∨ 2 ≤ G.k o ∧ badIx p3 T.N) → post 0 (va_up n 3 1) f)
    (H : ¬ (1 ≤ G.k o ∧ badIx p2 T.N ∨ 2 ≤ G.k o ∧ badIx p3 T.N) → wp_M_node_J81 post (nI o) p2 p3 (nI (G.k o)) 0 n f) : wp_M_node post (nI o) p2 p3 n f := by
  have hO := hG.O10
  have hk := hG.k2 o ho
  have hN := hT.N120
  have J63 : ¬ (1 ≤ G.k o ∧ badIx p2 T.N ∨ 2 ≤ G.k o ∧ badIx p3 T.N) → wp_M_node_J63 post (nI o) p2 p3 (nI (G.k o)) n f := by
    intro h
    unfold wp_M_node_J63 wp_M_node_J68
    exact ⟨fun _ => H h, fun z => absurd z (by decide)⟩
  have J49 : ¬ (1 ≤ G.k o ∧ badIx p2 T.N) → wp_M_node_J49 post (nI o) p2 p3 (nI (G.k o)) n f := by
    intro h2
    unfold wp_M_node_J49
    refine ⟨fun z => J63 (fun u => u.elim h2 (fun u => by have := (lt2_nI hk).mp z; omega)), fun z => ?_⟩
    have z2 : 2 ≤ G.k o := by
      have : ¬ G.k o < 2 := fun y => z ((lt2_nI hk).mpr y)
      omega
    rcases ix_or p3 (N := T.N) (by omega) with hp | ⟨b, hb, rfl⟩
    · exact m_node0 hN6 hN hp ⟨fun _ => m_node_J67 (hx (Or.inr ⟨z2, hp⟩)), fun y => absurd rfl y⟩
    · exact m_node1 hN6 hN hb ⟨fun y => absurd y (by decide), fun _ => J63 (fun u => u.elim h2 (fun u => ix_no hb (by omega) u.2))⟩
  unfold wp_M_node
  refine m_in1 hM.nO (by omega) ho ⟨fun z => absurd z (by decide), fun _ => ⟨vp_in_nI (by omega) (by decide), ?_⟩⟩
  rw [nI_clamp (by omega), hM.pa o ho]
  unfold wp_M_node_J28
  refine ⟨fun z => absurd z (by decide), fun _ => ⟨fun z => J49 (fun u => by have := (lt1_nI hk).mp z; omega), fun z => ?_⟩⟩
  have z1 : 1 ≤ G.k o := by
    have : ¬ G.k o < 1 := fun y => z ((lt1_nI hk).mpr y)
    omega
  rcases ix_or p2 (N := T.N) (by omega) with hp | ⟨a, ha, rfl⟩
  · exact m_node0 hN6 hN hp ⟨fun _ => m_node_J67 (hx (Or.inl ⟨z1, hp⟩)), fun y => absurd rfl y⟩
  · exact m_node1 hN6 hN ha ⟨fun y => absurd y (by decide), fun _ => J49 (fun u => ix_no ha (by omega) u.2)⟩
theorem lm_node_bad {post : Int32 → ctN → ctF → Prop} {n : ctN} {f : ctF} {G : GD} {T : TD} {p1 p2 p3 : Int32} (hG : G.ok) (hT : T.ok G) (hM : gM G n f) (hN6 : n 6 = nI T.N) (hb : nBad G T p1 p2 p3) (h : post 0 (va_up n 3 1) f) : wp_M_node post p1 p2 p3 n f := by
  have hO := hG.O10
  rcases ix_or p1 (N := G.O) (by omega) with hq | ⟨o, ho, rfl⟩
  · unfold wp_M_node
    refine m_in0 hM.nO (by omega) hq ⟨fun _ => ?_, fun z => absurd rfl z⟩
    unfold wp_M_node_J28
    exact ⟨fun _ => m_node_J67 h, fun z => absurd rfl z⟩
  · refine m_node_go hG hT hM hN6 ho (fun _ => h) (fun hno => ?_)
    exfalso
    rcases hb with z | ⟨o2, ho2, e, z⟩
    · exact ix_no ho (by omega) z
    · rw [nI_eq (by omega) (by omega)] at e
      subst e
      exact hno z
theorem lm_node_full {post : Int32 → ctN → ctF → Prop} {n : ctN} {f : ctF} {G : GD} {T : TD} {p1 p2 p3 : Int32} {o a b : Nat} (hG : G.ok) (hT : T.ok G) (hM : gM G n f) (hN6 : n 6 = nI T.N) (B : nGood G T p1 p2 p3 o a b) (hN : T.N = 120) (h : post 0 (va_up n 3 2) f) : wp_M_node post p1 p2 p3 n f := by
  rw [B.e1]
  refine m_node_go hG hT hM hN6 B.oO (fun z => absurd z (B.no hT)) (fun _ => ?_)
  unfold wp_M_node_J81
  refine ⟨fun z => absurd (by rw [hN6, hN]; decide) z, fun _ => ?_⟩
  unfold wp_M_node_J95
  exact m_ref2 ⟨fun z => absurd z (by decide), fun _ => h⟩
/-- the reference's operator and parts of the new node written down -/
def q_setM (f : ctF) (N : Nat) (o a b : Int32) : ctF := va_up (va_up (va_up f 25 (upd (f 25) N o)) 26 (upd (f 26) N a)) 27 (upd (f 27) N b)
theorem setM_25 (f : ctF) (N : Nat) (o a b : Int32) : q_setM f N o a b 25 = upd (f 25) N o := by
  unfold q_setM; rw [va_up_ne _ _ (by decide), va_up_ne _ _ (by decide), va_up_self]
theorem setM_26 (f : ctF) (N : Nat) (o a b : Int32) : q_setM f N o a b 26 = upd (f 26) N a := by
  unfold q_setM; rw [va_up_ne _ _ (by decide), va_up_self]
theorem setM_27 (f : ctF) (N : Nat) (o a b : Int32) : q_setM f N o a b 27 = upd (f 27) N b := by
  unfold q_setM; rw [va_up_self]
theorem setM_o (f : ctF) (N : Nat) (o a b : Int32) {k : Nat} (h9 : k ≠ 25) (h10 : k ≠ 26) (h11 : k ≠ 27) : q_setM f N o a b k = f k := by
  unfold q_setM; rw [va_up_ne _ _ h11, va_up_ne _ _ h10, va_up_ne _ _ h9]
theorem lm_node_go {post : Int32 → ctN → ctF → Prop} {n : ctN} {f : ctF} {G : GD} {T : TD} {p1 p2 p3 : Int32} {o a b : Nat} {C : Nat → Option Nat} (hG : G.ok) (hT : T.ok G) (hM : gM G n f) (hD : tM G T n f) (B : nGood G T p1 p2 p3 o a b) (hN : T.N < 120) (hl : leastC G T o a b C)
    (h1 : dearTo C 8 → ∀ f', sameM T.N (q_setM f T.N (nI o) (nI a) (nI b)) f' → post 0 (va_up n 3 2) f')
    (h0 : ¬ dearTo C 8 → ∀ f', nE G T o a b (q_setM f T.N (nI o) (nI a) (nI b)) f' C → ∀ n', (∀ k, k ≠ 3 → k ≠ 6 → n' k = n k) → n' 3 = 0 → n' 6 = nI (T.N + 1) → post (nI T.N) n' f') : wp_M_node post p1 p2 p3 n f := by
  have hk := hG.k2 o B.oO
  have ha : 1 ≤ G.k o → a < T.N := fun z => (B.e2 z).2
  have hb : 2 ≤ G.k o → b < T.N := fun z => (B.e3 z).2
  have z0 : (0 : Int32) = nI 0 := nI_0.symm
  have hNc : (nI T.N).toNatClampNeg = T.N := nI_clamp (by omega)
  have hNi : vp_in (nI T.N) 120 := vp_in_nI hN (by decide)
  have k0 : nI (G.k o) ≤ 0 ↔ G.k o ≤ 0 := by rw [show (0 : Int32) = nI 0 by decide]; exact nI_leI (by omega) (by decide)
  have k1 : nI (G.k o) ≤ 1 ↔ G.k o ≤ 1 := by rw [show (1 : Int32) = nI 1 by decide]; exact nI_leI (by omega) (by decide)
  rw [B.e1]
  refine m_node_go hG hT hM hD.nN B.oO (fun z => absurd z (B.no hT)) (fun _ => ?_)
  unfold wp_M_node_J81
  refine ⟨fun _ => ?_, fun z => absurd z (by rw [hD.nN, show (120 : Int32) = nI 120 by decide, nI_eq (by omega) (by decide)]; omega)⟩
  unfold wp_M_node_J95
  have n6 : va_up n 3 0 6 = nI T.N := by rw [va_up_ne _ _ (by decide)]; exact hD.nN
  refine m_ref0 ⟨fun _ => ?_, fun z => absurd rfl z⟩
  rw [n6, hNc]
  refine ⟨hNi, ?_⟩
  rintro _ rfl
  have J152 : ∀ x y : Int32, x = nI a → y = nI b → wp_M_node_J152 post y (nI T.N) (va_up n 3 0) (va_up (va_up f 25 (upd (f 25) T.N (nI o))) 26 (upd (va_up f 25 (upd (f 25) T.N (nI o)) 26) T.N x)) := by
    rintro _ _ rfl rfl
    unfold wp_M_node_J152
    rw [hNc, n6]
    refine ⟨hNi, ?_⟩
    rintro f1 hf1
    have hf1 : f1 = q_setM f T.N (nI o) (nI a) (nI b) := by
      rw [hf1]; unfold q_setM
      rw [va_up_ne (k := 26) (j := 27) _ _ (by decide), va_up_ne (k := 25) (j := 27) _ _ (by decide), va_up_ne (k := 25) (j := 26) _ _ (by decide)]
    subst hf1
    have gM1 : gM G (va_up n 3 0) (q_setM f T.N (nI o) (nI a) (nI b)) := hM.up (va_up_ne _ _ (by decide)) (va_up_ne _ _ (by decide)) (fun k z1 z2 => setM_o _ _ _ _ _ (by omega) (by omega) (by omega))
    have aM1 : aM G T o a b (q_setM f T.N (nI o) (nI a) (nI b)) := ⟨by rw [setM_25, upd_self], by rw [setM_26, upd_self], by rw [setM_27, upd_self], fun v g hv hg => by rw [setM_o _ _ _ _ _ (by decide) (by decide) (by decide)]; exact hD.co v g hv hg⟩
    refine wm_price hG hT gM1 aM1 hN B.oO ha hb (fun f' D E => ?_)
    have eC : D = C := funext (least_one E.clo E.abv hl.1 hl.2)
    subst eC
    refine wm_nodeGreat hG hT gM1 aM1 n6 hN B.oO ha hb (fun v g hv hg => by rw [setM_o _ _ _ _ _ (by decide) (by decide) (by decide)]; exact hD.sz hv hg) E (fun hd f2 hs => ?_) (fun hd f2 hE => ?_)
    · have e : va_up (va_up n 3 0) 3 2 = va_up n 3 2 := by
        funext k
        by_cases z : k = 3
        · subst z; rw [va_up_self, va_up_self]
        · rw [va_up_ne _ _ z, va_up_ne _ _ z, va_up_ne _ _ z]
      rw [e]
      exact h1 hd f2 hs
    · exact h0 hd f2 hE _ (fun k z1 z2 => by rw [va_up_ne _ _ z2, va_up_ne _ _ z1, va_up_ne _ _ z1]) (by rw [va_up_ne _ _ (by decide), va_up_self]) (va_up_self _ _ _)
  have J132 : ∀ x : Int32, x = nI a → wp_M_node_J132 post p3 (nI (G.k o)) x (nI T.N) (va_up n 3 0) (va_up f 25 (upd (f 25) T.N (nI o))) := by
    intro x hx
    unfold wp_M_node_J132
    rw [hNc, n6]
    refine ⟨hNi, ?_⟩
    rintro _ rfl
    refine ⟨fun z => J152 x 0 hx ?_, fun z => J152 x p3 hx ?_⟩
    · have := k1.mp z
      rw [B.e3' (by omega)]; exact z0
    · have q1 : ¬ G.k o ≤ 1 := fun u => z (k1.mpr u)
      exact (B.e3 (by omega)).1
  refine ⟨fun z => J132 0 ?_, fun z => J132 p2 ?_⟩
  · have := k0.mp z
    rw [B.e2' (by omega)]; exact z0
  · have q0 : ¬ G.k o ≤ 0 := fun u => z (k0.mpr u)
    exact (B.e2 (by omega)).1
theorem rowOK.low {G : GD} {f f' : ctF} {N v o a : Nat} {rk : Nat → Nat} {S : Nat → Bool} {m g : Nat} (hG : G.ok) (h : rowOK G f v o a rk S m g) (hv : v < N) (ha : a < N) (hg : g < 8) (e : ∀ j, j < 8 * N → f' 29 j = f 29 j ∧ f' 30 j = f 30 j) : rowOK G f' v o a rk S m g := by
  unfold rowOK at h ⊢
  rw [(e (8 * v + g) (by omega)).1, (e (8 * v + g) (by omega)).2]
  refine ⟨h.1, fun z => ?_⟩
  obtain ⟨w1, w2, r, w3, w4, w5, w6⟩ := h.2 z
  refine ⟨w1, w2, r, w3, w4, w5, fun o' z2 => ⟨(w6 o' z2).1, (w6 o' z2).2.1, fun z3 => ?_⟩⟩
  have := (hG.ru r w3).2.2.1
  rw [(e (8 * a + G.g1 r) (by omega)).2]
  exact (w6 o' z2).2.2 z3
theorem node_low {G : GD} {T : TD} {n n' : ctN} {f f' : ctF} {o a b : Int32} (hG : G.ok) (hT : T.ok G) (hM : gM G n f) (hD : tM G T n f) (s : sameM T.N (q_setM f T.N o a b) f') (e4 : n' 4 = n 4) (e5 : n' 5 = n 5) (e6 : n' 6 = n 6) : gM G n' f' ∧ tM G T n' f' := by
  obtain ⟨rk, S, hk⟩ := hD.ch
  have e : ∀ j, j < 8 * T.N → f' 29 j = f 29 j ∧ f' 30 j = f 30 j := fun j hj => by
    rw [(s.2 j hj).2.1, (s.2 j hj).2.2, setM_o _ _ _ _ _ (by decide) (by decide) (by decide), setM_o _ _ _ _ _ (by decide) (by decide) (by decide)]; exact ⟨rfl, rfl⟩
  refine ⟨hM.up e4 e5 (fun k h1 h2 => by rw [s.1 k (by omega) (by omega) (by omega) (by omega), setM_o _ _ _ _ _ (by omega) (by omega) (by omega)]), by rw [e6]; exact hD.nN, fun v hv => ?_, fun v g hv hg => ?_, rk, S, fun v g hv hg => (hk v g hv hg).low hG hv (by have := (hT.nd v hv).2.1; omega) hg e⟩
  · rw [s.1 25 (by decide) (by decide) (by decide) (by decide), s.1 26 (by decide) (by decide) (by decide) (by decide), s.1 27 (by decide) (by decide) (by decide) (by decide), setM_25, setM_26, setM_27, upd_ne _ _ (by omega), upd_ne _ _ (by omega), upd_ne _ _ (by omega)]
    exact hD.nd v hv
  · rw [(s.2 (8 * v + g) (by omega)).1, setM_o _ _ _ _ _ (by decide) (by decide) (by decide)]
    exact hD.co v g hv hg
theorem node_new {G : GD} {T : TD} {n n' : ctN} {f f' : ctF} {p1 p2 p3 : Int32} {o a b : Nat} {C : Nat → Option Nat} (hG : G.ok) (hT : T.ok G) (hM : gM G n f) (hD : tM G T n f) (_B : nGood G T p1 p2 p3 o a b) (E : nE G T o a b (q_setM f T.N (nI o) (nI a) (nI b)) f' C) (e4 : n' 4 = n 4) (e5 : n' 5 = n 5) (e6 : n' 6 = nI (T.N + 1)) : gM G n' f' ∧ tM G (T.addN o a b C) n' f' := by
  obtain ⟨m1, d1⟩ := node_low (n' := n) hG hT hM hD E.same rfl rfl rfl
  obtain ⟨rk, S, hk⟩ := d1.ch
  obtain ⟨rk2, S2, hk2⟩ := E.cho
  have s := E.same
  refine ⟨m1.up e4 e5 (fun _ _ _ => rfl), e6, fun v hv => ?_, fun v g hv hg => ?_, va_up rk T.N rk2, va_up S T.N S2, fun v g hv hg => ?_⟩
  · show f' 25 v = nI (va_up T.kd T.N o v) ∧ f' 26 v = nI (va_up T.u1 T.N a v) ∧ f' 27 v = nI (va_up T.u2 T.N b v)
    by_cases z : v = T.N
    · subst z
      rw [s.1 25 (by decide) (by decide) (by decide) (by decide), s.1 26 (by decide) (by decide) (by decide) (by decide), s.1 27 (by decide) (by decide) (by decide) (by decide), setM_25, setM_26, setM_27, upd_self, upd_self, upd_self, va_up_self, va_up_self, va_up_self]
      exact ⟨rfl, rfl, rfl⟩
    · rw [va_up_ne _ _ z, va_up_ne _ _ z, va_up_ne _ _ z]
      exact d1.nd v (by have : v < T.N + 1 := hv; omega)
  · show f' 28 (8 * v + g) = en (va_up T.C T.N C v g)
    by_cases z : v = T.N
    · subst z; rw [va_up_self]; exact E.row g hg
    · rw [va_up_ne _ _ z]; exact d1.co v g (by have : v < T.N + 1 := hv; omega) hg
  · show rowOK G f' v (va_up T.kd T.N o v) (va_up T.u1 T.N a v) (va_up rk T.N rk2 v) (va_up S T.N S2 v) 8 g
    by_cases z : v = T.N
    · subst z
      rw [va_up_self, va_up_self, va_up_self, va_up_self]
      exact hk2 g hg
    · rw [va_up_ne _ _ z, va_up_ne _ _ z, va_up_ne _ _ z, va_up_ne _ _ z]
      exact hk v g (by have : v < T.N + 1 := hv; omega) hg
