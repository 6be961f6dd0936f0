/-! the calls that change: clear, fell, operator, base, chain -/
def TD.zero (T : TD) : TD := TD.mk 0 T.kd T.u1 T.u2 T.C
theorem zero_ok (G : GD) (T : TD) : T.zero.ok G := ⟨Nat.zero_le _, fun _ h => absurd h (Nat.not_lt_zero _), fun _ _ _ h => absurd h (Nat.not_lt_zero _)⟩
theorem zero_tC (G : GD) (T : TD) {n : ctN} (f : ctF) (h : n 2 = 0) : tC G T.zero n f := ⟨by rw [h]; exact nI_0.symm, fun _ h => absurd h (Nat.not_lt_zero _), fun _ _ h => absurd h (Nat.not_lt_zero _), fun _ _ h => absurd h (Nat.not_lt_zero _)⟩
theorem zero_tM (G : GD) (T : TD) {n : ctN} (f : ctF) (h : n 6 = 0) : tM G T.zero n f := ⟨by rw [h]; exact nI_0.symm, fun _ h => absurd h (Nat.not_lt_zero _), fun _ _ h => absurd h (Nat.not_lt_zero _), fun _ _ => 0, fun _ _ => false, fun _ _ h => absurd h (Nat.not_lt_zero _)⟩
def GD.zero (G : GD) : GD := GD.mk 0 0 G.k G.go G.co G.g1 G.g2 G.op
theorem gzero_ok (G : GD) : G.zero.ok := ⟨Nat.zero_le _, Nat.zero_le _, fun _ h => absurd h (Nat.not_lt_zero _), fun _ h => absurd h (Nat.not_lt_zero _)⟩
theorem gzero_C (G : GD) {n : ctN} (f : ctF) (h0 : n 0 = 0) (h1 : n 1 = 0) : gC G.zero n f := ⟨by rw [h0]; exact nI_0.symm, by rw [h1]; exact nI_0.symm, fun _ h => absurd h (Nat.not_lt_zero _), fun _ h => absurd h (Nat.not_lt_zero _)⟩
theorem gzero_M (G : GD) {n : ctN} (f : ctF) (h0 : n 4 = 0) (h1 : n 5 = 0) : gM G.zero n f := ⟨by rw [h0]; exact nI_0.symm, by rw [h1]; exact nI_0.symm, fun _ h => absurd h (Nat.not_lt_zero _), fun _ h => absurd h (Nat.not_lt_zero _)⟩
theorem l_clear {post : ctN → ctF → Prop} {n : ctN} {f : ctF} {G : GD} {T : TD} (_I : IV G T n f) (h : ∀ n', IV G.zero T.zero n' f → post n' f) : wp_C_clear (fun n f => wp_M_clear post n f) n f := by
  unfold wp_C_clear wp_M_clear
  rintro _ rfl _ rfl _ rfl _ rfl _ rfl _ rfl n' hn'
  have e : ∀ k x, k ≠ 3 → k ≤ 6 → x = n' k → x = 0 := by
    intro k x h3 h6 e
    rw [e, hn']
    rcases show k = 0 ∨ k = 1 ∨ k = 2 ∨ k = 4 ∨ k = 5 ∨ k = 6 by omega with rfl | rfl | rfl | rfl | rfl | rfl <;> simp [va_up]
  exact h n' ⟨gzero_ok G, zero_ok _ _, gzero_C G f (e 0 _ (by decide) (by decide) rfl) (e 1 _ (by decide) (by decide) rfl), zero_tC _ _ f (e 2 _ (by decide) (by decide) rfl), gzero_M G f (e 4 _ (by decide) (by decide) rfl) (e 5 _ (by decide) (by decide) rfl), zero_tM _ _ f (e 6 _ (by decide) (by decide) rfl)⟩
theorem l_fell {post : ctN → ctF → Prop} {n : ctN} {f : ctF} {G : GD} {T : TD} (I : IV G T n f) (h : ∀ n', IV G T.zero n' f → post n' f) : wp_C_fell (fun n f => wp_M_fell post n f) n f := by
  unfold wp_C_fell wp_M_fell
  rintro _ rfl _ rfl n' hn'
  have e : ∀ k, k ≠ 2 → k ≠ 3 → k ≠ 6 → n' k = n k := fun k h2 h3 h6 => by rw [hn', va_up_ne _ _ h6, va_up_ne _ _ h3, va_up_ne _ _ h2]
  exact h n' ⟨I.g, zero_ok _ _, I.gc.up (e 0 (by decide) (by decide) (by decide)) (e 1 (by decide) (by decide) (by decide)) (fun _ _ _ => rfl), zero_tC _ _ f (by rw [hn', va_up_ne _ _ (by decide), va_up_ne _ _ (by decide), va_up_self]), I.gm.up (e 4 (by decide) (by decide) (by decide)) (e 5 (by decide) (by decide) (by decide)) (fun _ _ _ => rfl), zero_tM _ _ f (by rw [hn', va_up_self])⟩
/-- operator -/
def GD.addO (G : GD) (p : Nat) : GD := GD.mk (G.O + 1) G.R (va_up G.k G.O p) G.go G.co G.g1 G.g2 G.op
theorem addO_ok {G : GD} (h : G.ok) {p : Nat} (hp : p ≤ 2) (hO : G.O < 10) : (G.addO p).ok :=
  ⟨hO, h.R40, fun o ho => by
    show va_up G.k G.O p o ≤ 2
    by_cases e : o = G.O
    · subst e; rw [va_up_self]; exact hp
    · rw [va_up_ne _ _ e]; exact h.k2 o (by have : o < G.O + 1 := ho; omega), fun i hi => by
    obtain ⟨a1, a2, a3, a4, a5⟩ := h.ru i hi
    exact ⟨a1, a2, a3, a4, fun o ho => Nat.lt_succ_of_lt (a5 o ho)⟩⟩
theorem addO_C {G : GD} {n n' : ctN} {f f' : ctF} (h : gC G n f) {p : Nat} (e0 : n' 0 = nI (G.O + 1)) (e1 : n' 1 = n 1) (e3 : f' 3 = upd (f 3) G.O (nI p)) (e : ∀ k, 4 ≤ k → k ≤ 8 → f' k = f k) : gC (G.addO p) n' f' :=
  ⟨e0, by rw [e1]; exact h.nR, fun o ho => by
    show f' 3 o = nI (va_up G.k G.O p o)
    rw [e3]
    by_cases z : o = G.O
    · subst z; rw [upd_self, va_up_self]
    · rw [upd_ne _ _ z, va_up_ne _ _ z]; exact h.pa o (by have : o < G.O + 1 := ho; omega), fun i hi => by
    rw [e 4 (by decide) (by decide), e 5 (by decide) (by decide), e 6 (by decide) (by decide), e 7 (by decide) (by decide), e 8 (by decide) (by decide)]; exact h.ru i hi⟩
theorem addO_k {G : GD} {p o : Nat} (ho : o < G.O) : (G.addO p).k o = G.k o := by
  show va_up G.k G.O p o = G.k o
  exact va_up_ne _ _ (by omega)
theorem addO_M {G : GD} {n n' : ctN} {f f' : ctF} (hG : G.ok) (h : gM G n f) {p : Nat} (e0 : n' 4 = nI (G.O + 1)) (e1 : n' 5 = n 5) (e3 : f' 19 = upd (f 19) G.O (nI p)) (e : ∀ k, 20 ≤ k → k ≤ 24 → f' k = f k) : gM (G.addO p) n' f' :=
  ⟨e0, by rw [e1]; exact h.nR, fun o ho => by
    show f' 19 o = nI (va_up G.k G.O p o)
    rw [e3]
    by_cases z : o = G.O
    · subst z; rw [upd_self, va_up_self]
    · rw [upd_ne _ _ z, va_up_ne _ _ z]; exact h.pa o (by have : o < G.O + 1 := ho; omega), fun i hi => by
    rw [e 20 (by decide) (by decide), e 21 (by decide) (by decide), e 22 (by decide) (by decide), e 23 (by decide) (by decide), e 24 (by decide) (by decide)]
    obtain ⟨a1, a2, a3, a4, a5⟩ := h.ru i hi
    refine ⟨a1, a2, a3, a4, fun o ho => ?_⟩
    rw [addO_k ((hG.ru i hi).2.2.2.2 o ho)]
    exact a5 o ho⟩
theorem addO_T {G : GD} {T : TD} (h : T.ok G) (p : Nat) : T.ok (G.addO p) :=
  ⟨h.N120, fun v hv => by
    obtain ⟨a1, a2, a3, a4⟩ := h.nd v hv
    rw [addO_k a1]
    exact ⟨Nat.lt_succ_of_lt a1, a2, a3, a4⟩, h.mo⟩
theorem addO_tC {G : GD} {T : TD} {n : ctN} {f : ctF} (h : tC G T n f) (p : Nat) : tC (G.addO p) T n f := ⟨h.nN, h.nd, h.co, h.ru⟩
theorem addO_tM {G : GD} {T : TD} {n : ctN} {f : ctF} (hT : T.ok G) (h : tM G T n f) (p : Nat) : tM (G.addO p) T n f := by
  obtain ⟨rk, S, hk⟩ := h.ch
  refine ⟨h.nN, h.nd, h.co, rk, S, fun v g hv hg => ?_⟩
  have := hk v g hv hg
  unfold rowOK at this ⊢
  rw [addO_k (hT.nd v hv).1]
  exact this
theorem op_or (p : Int32) : (p < 0 ∨ ¬ p ≤ 2) ∨ ∃ j, j ≤ 2 ∧ p = nI j := by
  by_cases h : p < 0
  · exact Or.inl (Or.inl h)
  · by_cases h2 : p ≤ 2
    · obtain ⟨j, hj, e⟩ := nI_of2 (M := 2) (n := 2) (by decide) h h2
      exact Or.inr ⟨j, hj, e⟩
    · exact Or.inl (Or.inr h2)
theorem le2_nI {j : Nat} (h : j ≤ 2) : nI j ≤ 2 := by
  rw [show (2 : Int32) = nI 2 by decide]; exact nI_le h (by decide)
theorem lc_operator {post : Int32 → ctN → ctF → Prop} {n : ctN} {f : ctF} {G : GD} {T : TD} {p : Int32} (I : IV G T n f) (h1 : (p < 0 ∨ ¬ p ≤ 2) → post 1 n f) (h2 : ∀ j, j ≤ 2 → p = nI j → G.O = 10 → post 2 n f) (h0 : ∀ j, j ≤ 2 → p = nI j → G.O < 10 → ∀ n' f', gC (G.addO j) n' f' → tC (G.addO j) T n' f' → gM G n' f' → tM G T n' f' → f' 32 0 = nI G.O → post 0 n' f') : wp_L_operator post p n f := by
  have hO := I.g.O10
  unfold wp_L_operator wp_C_operator
  rcases op_or p with hb | ⟨j, hj, rfl⟩
  · exact Or.inr ⟨fun _ => Or.inl ⟨rfl, h1 hb⟩, fun a => ⟨fun b => absurd hb (fun u => u.elim a (fun u => u b)), fun _ => Or.inl ⟨rfl, h1 hb⟩⟩⟩
  · have hj0 : ¬ nI j < 0 := nI_pos (by omega)
    have hj2 := le2_nI hj
    have e10 : (10 : Int32) = nI 10 := by decide
    rw [I.gc.nO]
    rcases Nat.lt_or_ge G.O 10 with hO2 | hO2
    · refine Or.inl ⟨fun a => absurd a hj0, fun _ => ⟨fun _ => ⟨fun _ => ?_, fun z => absurd (by rw [e10]; exact nI_lt hO2 (by decide)) z⟩, fun z => absurd hj2 z⟩⟩
      unfold wp_G_addOperator
      rintro _ rfl
      rw [I.gc.nO, nI_clamp (by omega), nI_1]
      refine ⟨vp_in_nI hO2 (by decide), ?_⟩
      rintro f1 hf1 n1 hn1 f2 hf2
      have e3 : f2 3 = upd (f 3) G.O (nI j) := by rw [hf2, va_up_ne _ _ (by decide), hf1, va_up_self]
      have eo : ∀ k, k ≠ 3 → k ≠ 32 → f2 k = f k := fun k z1 z2 => by rw [hf2, va_up_ne _ _ z2, hf1, va_up_ne _ _ z1]
      have en : ∀ k, k ≠ 0 → n1 k = n k := fun k z => by rw [hn1, va_up_ne _ _ z]
      exact h0 j hj rfl hO2 n1 f2 (addO_C I.gc (by rw [hn1, va_up_self]) (en 1 (by decide)) e3 (fun k _ _ => eo k (by omega) (by omega))) (addO_tC (I.tc.up (en 2 (by decide)) (fun k _ _ _ => eo k (by omega) (by omega))) j) (I.gm.up (en 4 (by decide)) (en 5 (by decide)) (fun k _ _ => eo k (by omega) (by omega))) (I.tm.up (en 6 (by decide)) (fun k _ _ => eo k (by omega) (by omega))) (by rw [hf2, va_up_self, upd_self])
    · refine Or.inr ⟨fun a => absurd a hj0, fun _ => ⟨fun _ => ⟨fun z => absurd z (by rw [e10]; exact nI_nlt hO2 (by omega)), fun _ => Or.inr ⟨rfl, h2 j hj rfl (by omega)⟩⟩, fun z => absurd hj2 z⟩⟩
theorem lm_operator_bad {post : Int32 → ctN → ctF → Prop} {n : ctN} {f : ctF} {p : Int32} (hb : p < 0 ∨ ¬ p ≤ 2) (h : post 0 (va_up n 3 1) f) : wp_M_operator post p n f := by
  unfold wp_M_operator
  refine wm_in (fun a b => absurd hb (fun u => u.elim a (fun u => u ?_))) (fun _ => ⟨fun z => absurd rfl z, fun _ => ?_⟩)
  · rw [w_lt] at b; rw [w_le]; omega
  · unfold wp_M_operator_J15 wp_M_operator_J29
    exact ⟨fun _ => m_ref1 ⟨fun z => absurd z (by decide), fun _ => h⟩, fun _ => m_ref1 ⟨fun z => absurd z (by decide), fun _ => h⟩⟩
theorem m_in2 {post : Int32 → ctN → ctF → Prop} {n : ctN} {f : ctF} {j : Nat} (hj : j ≤ 2) (h : post 1 n f) : wp_M_in post (nI j) 0 2 n f :=
  wm_in (fun _ _ => h) (fun q => absurd q (fun u => u.elim (nI_pos (by omega)) (by rw [show (2 : Int32) = nI 2 by decide]; exact nI_nlt hj (by decide))))
theorem lm_operator_full {post : Int32 → ctN → ctF → Prop} {n : ctN} {f : ctF} {j : Nat} (hj : j ≤ 2) (hO : n 4 = nI 10) (h : post 0 (va_up n 3 2) f) : wp_M_operator post (nI j) n f := by
  unfold wp_M_operator
  refine m_in2 hj ⟨fun _ => ?_, fun z => absurd z (by decide)⟩
  unfold wp_M_operator_J15
  refine ⟨fun z => absurd (by rw [hO]; decide) z, fun _ => ?_⟩
  unfold wp_M_operator_J29
  exact m_ref2 ⟨fun z => absurd z (by decide), fun _ => h⟩
theorem lm_operator_ok {post : Int32 → ctN → ctF → Prop} {n : ctN} {f : ctF} {j O : Nat} (hj : j ≤ 2) (hO : n 4 = nI O) (hO2 : O < 10) (h : post (nI O) (va_up (va_up n 3 0) 4 (nI (O + 1))) (va_up f 19 (upd (f 19) O (nI j)))) : wp_M_operator post (nI j) n f := by
  unfold wp_M_operator
  refine m_in2 hj ⟨fun _ => ?_, fun z => absurd z (by decide)⟩
  unfold wp_M_operator_J15
  refine ⟨fun _ => ?_, fun z => absurd z (by rw [hO, show (10 : Int32) = nI 10 by decide, nI_eq (by omega) (by decide)]; omega)⟩
  unfold wp_M_operator_J29
  have e4 : va_up n 3 0 4 = nI O := by rw [va_up_ne _ _ (by decide)]; exact hO
  refine m_ref0 ⟨fun _ => ?_, fun z => absurd rfl z⟩
  rw [e4, nI_clamp (by omega), nI_1]
  refine ⟨vp_in_nI hO2 (by decide), ?_⟩
  rintro _ rfl _ rfl
  rw [va_up_self, nI_s1]
  exact h
/-- base and chain: a rule is added -/
def GD.addR (G : GD) (g : Nat) (op : Option Nat) (h1 h2 c : Nat) : GD := GD.mk G.O (G.R + 1) G.k (va_up G.go G.R g) (va_up G.co G.R c) (va_up G.g1 G.R h1) (va_up G.g2 G.R h2) (va_up G.op G.R op)
theorem addR_ok {G : GD} (h : G.ok) {g h1 h2 c : Nat} {op : Option Nat} (hg : g < 8) (hh1 : h1 < 8) (hh2 : h2 < 8) (hc : c ≤ 20) (ho : ∀ o, op = some o → o < G.O) (hR : G.R < 40) : (G.addR g op h1 h2 c).ok :=
  ⟨h.O10, hR, h.k2, fun i hi => by
    show va_up G.go G.R g i < 8 ∧ va_up G.co G.R c i ≤ 20 ∧ va_up G.g1 G.R h1 i < 8 ∧ va_up G.g2 G.R h2 i < 8 ∧ ∀ o, va_up G.op G.R op i = some o → o < G.O
    by_cases e : i = G.R
    · subst e; rw [va_up_self, va_up_self, va_up_self, va_up_self, va_up_self]; exact ⟨hg, hc, hh1, hh2, ho⟩
    · rw [va_up_ne _ _ e, va_up_ne _ _ e, va_up_ne _ _ e, va_up_ne _ _ e, va_up_ne _ _ e]; exact h.ru i (by have : i < G.R + 1 := hi; omega)⟩
theorem addR_C {G : GD} {n n' : ctN} {f f' : ctF} (h : gC G n f) {g h1 h2 c : Nat} {op : Option Nat} (e0 : n' 0 = n 0) (e1 : n' 1 = nI (G.R + 1)) (e3 : f' 3 = f 3) (e4 : f' 4 = upd (f 4) G.R (nI g)) (e5 : f' 5 = upd (f 5) G.R (en op)) (e6 : f' 6 = upd (f 6) G.R (nI h1)) (e7 : f' 7 = upd (f 7) G.R (nI h2)) (e8 : f' 8 = upd (f 8) G.R (nI c)) : gC (G.addR g op h1 h2 c) n' f' :=
  ⟨by rw [e0]; exact h.nO, e1, fun o ho => by rw [e3]; exact h.pa o ho, fun i hi => by
    show f' 4 i = nI (va_up G.go G.R g i) ∧ f' 5 i = en (va_up G.op G.R op i) ∧ f' 6 i = nI (va_up G.g1 G.R h1 i) ∧ f' 7 i = nI (va_up G.g2 G.R h2 i) ∧ f' 8 i = nI (va_up G.co G.R c i)
    rw [e4, e5, e6, e7, e8]
    by_cases e : i = G.R
    · subst e; simp only [upd_self, va_up_self]; exact ⟨trivial, trivial, trivial, trivial, trivial⟩
    · rw [upd_ne _ _ e, upd_ne _ _ e, upd_ne _ _ e, upd_ne _ _ e, upd_ne _ _ e, va_up_ne _ _ e, va_up_ne _ _ e, va_up_ne _ _ e, va_up_ne _ _ e, va_up_ne _ _ e]; exact h.ru i (by have : i < G.R + 1 := hi; omega)⟩
theorem addR_M {G : GD} {n n' : ctN} {f f' : ctF} (h : gM G n f) {g h1 h2 c : Nat} {op : Option Nat} {x3 x4 : Int32} (e0 : n' 4 = n 4) (e1 : n' 5 = nI (G.R + 1)) (e3 : f' 19 = f 19) (e20 : f' 20 = upd (f 20) G.R (nI g)) (e21 : f' 21 = upd (f 21) G.R (nI c)) (e22 : f' 22 = upd (f 22) G.R (en op)) (e23 : f' 23 = upd (f 23) G.R x3) (e24 : f' 24 = upd (f 24) G.R x4) (hn : op = none → x3 = nI h1) (hs : ∀ o, op = some o → (1 ≤ G.k o → x3 = nI h1) ∧ (2 ≤ G.k o → x4 = nI h2)) : gM (G.addR g op h1 h2 c) n' f' :=
  ⟨by rw [e0]; exact h.nO, e1, fun o ho => by rw [e3]; exact h.pa o ho, fun i hi => by
    show f' 20 i = nI (va_up G.go G.R g i) ∧ f' 21 i = nI (va_up G.co G.R c i) ∧ f' 22 i = en (va_up G.op G.R op i) ∧ (va_up G.op G.R op i = none → f' 23 i = nI (va_up G.g1 G.R h1 i)) ∧ ∀ o, va_up G.op G.R op i = some o → (1 ≤ G.k o → f' 23 i = nI (va_up G.g1 G.R h1 i)) ∧ (2 ≤ G.k o → f' 24 i = nI (va_up G.g2 G.R h2 i))
    rw [e20, e21, e22, e23, e24]
    by_cases e : i = G.R
    · subst e; simp only [upd_self, va_up_self]; exact ⟨trivial, trivial, trivial, hn, hs⟩
    · rw [upd_ne _ _ e, upd_ne _ _ e, upd_ne _ _ e, upd_ne _ _ e, upd_ne _ _ e, va_up_ne _ _ e, va_up_ne _ _ e, va_up_ne _ _ e, va_up_ne _ _ e, va_up_ne _ _ e]; exact h.ru i (by have : i < G.R + 1 := hi; omega)⟩
theorem c_addRule {post : Int32 → ctN → ctF → Prop} {n : ctN} {f : ctF} {R : Nat} {p1 p2 p3 p4 p5 : Int32} (hR : n 1 = nI R) (hR' : R < 40) (h : ∀ f', f' 4 = upd (f 4) R p1 → f' 5 = upd (f 5) R p2 → f' 6 = upd (f 6) R p3 → f' 7 = upd (f 7) R p4 → f' 8 = upd (f 8) R p5 → (∀ k, k < 4 ∨ 8 < k → f' k = f k) → post (nI R) (va_up n 1 (nI (R + 1))) f') : wp_G_addRule post p1 p2 p3 p4 p5 n f := by
  have hi : vp_in (nI R) 40 := vp_in_nI hR' (by decide)
  unfold wp_G_addRule
  rintro _ rfl
  rw [hR, nI_clamp (by omega), nI_1]
  refine ⟨hi, ?_⟩
  rintro a4 h4
  refine ⟨hi, ?_⟩
  rintro a5 h5
  refine ⟨hi, ?_⟩
  rintro a6 h6
  refine ⟨hi, ?_⟩
  rintro a7 h7
  refine ⟨hi, ?_⟩
  rintro a8 h8 _ rfl
  have o4 : ∀ k, k ≠ 4 → a4 k = f k := fun k z => by rw [h4, va_up_ne _ _ z]
  have o5 : ∀ k, k ≠ 5 → a5 k = a4 k := fun k z => by rw [h5, va_up_ne _ _ z]
  have o6 : ∀ k, k ≠ 6 → a6 k = a5 k := fun k z => by rw [h6, va_up_ne _ _ z]
  have o7 : ∀ k, k ≠ 7 → a7 k = a6 k := fun k z => by rw [h7, va_up_ne _ _ z]
  have o8 : ∀ k, k ≠ 8 → a8 k = a7 k := fun k z => by rw [h8, va_up_ne _ _ z]
  refine h a8 ?_ ?_ ?_ ?_ ?_ (fun k z => ?_)
  · rw [o8 4 (by decide), o7 4 (by decide), o6 4 (by decide), o5 4 (by decide), h4, va_up_self]
  · rw [o8 5 (by decide), o7 5 (by decide), o6 5 (by decide), h5, va_up_self, o4 5 (by decide)]
  · rw [o8 6 (by decide), o7 6 (by decide), h6, va_up_self, o5 6 (by decide), o4 6 (by decide)]
  · rw [o8 7 (by decide), h7, va_up_self, o6 7 (by decide), o5 7 (by decide), o4 7 (by decide)]
  · rw [h8, va_up_self, o7 8 (by decide), o6 8 (by decide), o5 8 (by decide), o4 8 (by decide)]
  · rw [o8 k (by omega), o7 k (by omega), o6 k (by omega), o5 k (by omega), o4 k (by omega)]
theorem m_add {post : Int32 → ctN → ctF → Prop} {n : ctN} {f : ctF} {R : Nat} {p1 p2 p3 p4 p5 : Int32} (hR : n 5 = nI R) (hR' : R < 40) (h : ∀ f', f' 20 = upd (f 20) R p1 → f' 22 = upd (f 22) R p2 → f' 23 = upd (f 23) R p3 → f' 24 = upd (f 24) R p4 → f' 21 = upd (f 21) R p5 → (∀ k, k < 20 ∨ 24 < k → f' k = f k) → post (nI R) (va_up (va_up n 5 (nI (R + 1))) 6 0) f') : wp_M_add post p1 p2 p3 p4 p5 n f := by
  have hi : vp_in (nI R) 40 := vp_in_nI hR' (by decide)
  unfold wp_M_add
  rw [hR, nI_clamp (by omega), nI_1]
  refine ⟨hi, ?_⟩
  rintro a4 h4
  refine ⟨hi, ?_⟩
  rintro a5 h5
  refine ⟨hi, ?_⟩
  rintro a6 h6
  refine ⟨hi, ?_⟩
  rintro a7 h7
  refine ⟨hi, ?_⟩
  rintro a8 h8 _ rfl _ rfl
  have o4 : ∀ k, k ≠ 20 → a4 k = f k := fun k z => by rw [h4, va_up_ne _ _ z]
  have o5 : ∀ k, k ≠ 22 → a5 k = a4 k := fun k z => by rw [h5, va_up_ne _ _ z]
  have o6 : ∀ k, k ≠ 23 → a6 k = a5 k := fun k z => by rw [h6, va_up_ne _ _ z]
  have o7 : ∀ k, k ≠ 24 → a7 k = a6 k := fun k z => by rw [h7, va_up_ne _ _ z]
  have o8 : ∀ k, k ≠ 21 → a8 k = a7 k := fun k z => by rw [h8, va_up_ne _ _ z]
  rw [va_up_ne (k := 6) (j := 5) _ _ (by decide), va_up_self, nI_s1]
  refine h a8 ?_ ?_ ?_ ?_ ?_ (fun k z => ?_)
  · rw [o8 20 (by decide), o7 20 (by decide), o6 20 (by decide), o5 20 (by decide), h4, va_up_self]
  · rw [o8 22 (by decide), o7 22 (by decide), o6 22 (by decide), h5, va_up_self, o4 22 (by decide)]
  · rw [o8 23 (by decide), o7 23 (by decide), h6, va_up_self, o5 23 (by decide), o4 23 (by decide)]
  · rw [o8 24 (by decide), h7, va_up_self, o6 24 (by decide), o5 24 (by decide), o4 24 (by decide)]
  · rw [h8, va_up_self, o7 21 (by decide), o6 21 (by decide), o5 21 (by decide), o4 21 (by decide)]
  · rw [o8 k (by omega), o7 k (by omega), o6 k (by omega), o5 k (by omega), o4 k (by omega)]
/-- the class's state after a rule was added, the reference's as it was -/
def AR (G : GD) (T : TD) (g : Nat) (op : Option Nat) (h1 h2 c : Nat) (n : ctN) (f : ctF) : Prop := (gC (G.addR g op h1 h2 c) n f) ∧ (n 2 = 0) ∧ (gM G n f) ∧ (f 32 0 = nI G.R)
theorem AR.gc {G : GD} {T : TD} {g : Nat} {op : Option Nat} {h1 h2 c : Nat} {n : ctN} {f : ctF} (h : AR G T g op h1 h2 c n f) : gC (G.addR g op h1 h2 c) n f := h.1
theorem AR.n2 {G : GD} {T : TD} {g : Nat} {op : Option Nat} {h1 h2 c : Nat} {n : ctN} {f : ctF} (h : AR G T g op h1 h2 c n f) : n 2 = 0 := h.2.1
theorem AR.gm {G : GD} {T : TD} {g : Nat} {op : Option Nat} {h1 h2 c : Nat} {n : ctN} {f : ctF} (h : AR G T g op h1 h2 c n f) : gM G n f := h.2.2.1
theorem AR.out {G : GD} {T : TD} {g : Nat} {op : Option Nat} {h1 h2 c : Nat} {n : ctN} {f : ctF} (h : AR G T g op h1 h2 c n f) : f 32 0 = nI G.R := h.2.2.2
theorem AR.of {G : GD} {T : TD} {n : ctN} {f : ctF} (I : IV G T n f) {g h1 h2 c : Nat} {op : Option Nat} {n1 : ctN} {f1 f2 : ctF} (hn : n1 = va_up (va_up n 2 0) 1 (nI (G.R + 1))) (e4 : f1 4 = upd (f 4) G.R (nI g)) (e5 : f1 5 = upd (f 5) G.R (en op)) (e6 : f1 6 = upd (f 6) G.R (nI h1)) (e7 : f1 7 = upd (f 7) G.R (nI h2)) (e8 : f1 8 = upd (f 8) G.R (nI c)) (eo : ∀ k, k < 4 ∨ 8 < k → f1 k = f k) (h2f : f2 = va_up f1 32 (upd (f1 32) 0 (nI G.R))) : AR G T g op h1 h2 c n1 f2 := by
  have e : ∀ k, k ≠ 32 → f2 k = f1 k := fun k z => by rw [h2f, va_up_ne _ _ z]
  have en : ∀ k, k ≠ 1 → k ≠ 2 → n1 k = n k := fun k z1 z2 => by rw [hn, va_up_ne _ _ z1, va_up_ne _ _ z2]
  exact ⟨addR_C I.gc (en 0 (by decide) (by decide)) (by rw [hn, va_up_self]) (by rw [e 3 (by decide), eo 3 (by decide)]) (by rw [e 4 (by decide), e4]) (by rw [e 5 (by decide), e5]) (by rw [e 6 (by decide), e6]) (by rw [e 7 (by decide), e7]) (by rw [e 8 (by decide), e8]), by rw [hn, va_up_ne _ _ (by decide), va_up_self], I.gm.up (en 4 (by decide) (by decide)) (en 5 (by decide) (by decide)) (fun k z1 z2 => by rw [e k (by omega), eo k (by omega)]), by rw [h2f, va_up_self, upd_self]⟩
theorem AR.inv {G : GD} {T : TD} (hG : G.ok) {g h1 h2 c : Nat} {op : Option Nat} {n : ctN} {f : ctF} (A : AR G T g op h1 h2 c n f) (hg : g < 8) (hh1 : h1 < 8) (hh2 : h2 < 8) (hc : c ≤ 20) (ho : ∀ o, op = some o → o < G.O) (hR : G.R < 40) {x3 x4 : Int32} (hn3 : op = none → x3 = nI h1) (hs : ∀ o, op = some o → (1 ≤ G.k o → x3 = nI h1) ∧ (2 ≤ G.k o → x4 = nI h2)) {x : Int32} {f' : ctF} (e20 : f' 20 = upd (f 20) G.R (nI g)) (e22 : f' 22 = upd (f 22) G.R (en op)) (e23 : f' 23 = upd (f 23) G.R x3) (e24 : f' 24 = upd (f 24) G.R x4) (e21 : f' 21 = upd (f 21) G.R (nI c)) (eo : ∀ k, k < 20 ∨ 24 < k → f' k = f k) : IV (G.addR g op h1 h2 c) T.zero (va_up (va_up (va_up n 3 x) 5 (nI (G.R + 1))) 6 0) f' := by
  have en : ∀ k, k ≠ 3 → k ≠ 5 → k ≠ 6 → va_up (va_up (va_up n 3 x) 5 (nI (G.R + 1))) 6 0 k = n k := fun k z1 z2 z3 => by rw [va_up_ne _ _ z3, va_up_ne _ _ z2, va_up_ne _ _ z1]
  exact ⟨addR_ok hG hg hh1 hh2 hc ho hR, zero_ok _ _, A.gc.up (en 0 (by decide) (by decide) (by decide)) (en 1 (by decide) (by decide) (by decide)) (fun k _ _ => eo k (by omega)), zero_tC _ _ _ (by rw [en 2 (by decide) (by decide) (by decide)]; exact A.n2), addR_M A.gm (en 4 (by decide) (by decide) (by decide)) (by rw [va_up_ne _ _ (by decide), va_up_self]) (eo 19 (by decide)) e20 e21 e22 e23 e24 hn3 hs, zero_tM _ _ _ (va_up_self _ _ _)⟩
theorem cost_or (p : Int32) : (p < 0 ∨ ¬ p ≤ 20) ∨ ∃ c, c ≤ 20 ∧ p = nI c := by
  by_cases h : p < 0
  · exact Or.inl (Or.inl h)
  · by_cases h2 : p ≤ 20
    · obtain ⟨j, hj, e⟩ := nI_of2 (M := 20) (n := 20) (by decide) h h2
      exact Or.inr ⟨j, hj, e⟩
    · exact Or.inl (Or.inr h2)
theorem le20_nI {j : Nat} (h : j ≤ 20) : nI j ≤ 20 := by
  rw [show (20 : Int32) = nI 20 by decide]; exact nI_le h (by decide)
theorem lt40_nI {j : Nat} (h : j ≤ 40) : nI j < 40 ↔ j < 40 := by
  rw [show (40 : Int32) = nI 40 by decide]; exact nI_ltI (by omega) (by decide)
theorem c_cost1 {post : ctN → ctF → Prop} {xp : String → ctN → ctF → Prop} {n : ctN} {f : ctF} {c : Nat} (hc : c ≤ 20) (h : post n f) : wp_C_checkRuleCost post xp (nI c) n f :=
  w_checkRuleCost (fun _ _ => h) (fun z => absurd z (fun u => u.elim (nI_pos (by omega)) (fun u => u (le20_nI hc))))
theorem c_cost0 {post : ctN → ctF → Prop} {xp : String → ctN → ctF → Prop} {n : ctN} {f : ctF} {p : Int32} (hp : p < 0 ∨ ¬ p ≤ 20) (h : xp "java/lang/IllegalArgumentException" n f) : wp_C_checkRuleCost post xp p n f :=
  w_checkRuleCost (fun a b => absurd hp (fun u => u.elim a (fun u => u b))) (fun _ => h)
theorem m_cost1 {post : Int32 → ctN → ctF → Prop} {n : ctN} {f : ctF} {c : Nat} (hc : c ≤ 20) (h : post 1 n f) : wp_M_in post (nI c) 0 20 n f :=
  wm_in (fun _ _ => h) (fun q => absurd q (fun u => u.elim (nI_pos (by omega)) (by rw [show (20 : Int32) = nI 20 by decide]; exact nI_nlt hc (by decide))))
theorem m_cost0 {post : Int32 → ctN → ctF → Prop} {n : ctN} {f : ctF} {p : Int32} (hp : p < 0 ∨ ¬ p ≤ 20) (h : post 0 n f) : wp_M_in post p 0 20 n f :=
  wm_in (fun a b => absurd hp (fun u => u.elim a (fun u => u (by rw [w_lt] at b; rw [w_le]; omega)))) (fun _ => h)
/-- chain -/
def hBad (p q c : Int32) : Prop := badIx p 8 ∨ badIx q 8 ∨ p = q ∨ c < 0 ∨ ¬ c ≤ 20
theorem h_or (p q c : Int32) : hBad p q c ∨ ∃ g h k, g < 8 ∧ h < 8 ∧ g ≠ h ∧ k ≤ 20 ∧ p = nI g ∧ q = nI h ∧ c = nI k := by
  unfold hBad
  rcases ix_or p (N := 8) (by decide) with hp | ⟨g, hg, rfl⟩
  · exact Or.inl (Or.inl hp)
  · rcases ix_or q (N := 8) (by decide) with hq | ⟨h, hh, rfl⟩
    · exact Or.inl (Or.inr (Or.inl hq))
    · by_cases e : g = h
      · exact Or.inl (Or.inr (Or.inr (Or.inl (by rw [e]))))
      · rcases cost_or c with hc | ⟨k, hk, rfl⟩
        · exact Or.inl (Or.inr (Or.inr (Or.inr hc)))
        · exact Or.inr ⟨g, h, k, hg, hh, e, hk, rfl, rfl, rfl⟩
theorem lc_chain {post : Int32 → ctN → ctF → Prop} {n : ctN} {f : ctF} {G : GD} {T : TD} {p q c : Int32} (I : IV G T n f) (h1 : hBad p q c → post 1 n f) (h2 : ∀ g h k, g < 8 → h < 8 → g ≠ h → k ≤ 20 → p = nI g → q = nI h → c = nI k → G.R = 40 → post 2 n f) (h0 : ∀ g h k, g < 8 → h < 8 → g ≠ h → k ≤ 20 → p = nI g → q = nI h → c = nI k → G.R < 40 → ∀ n' f', AR G T g none h 0 k n' f' → post 0 n' f') : wp_L_chain post p q c n f := by
  have hR := I.g.R40
  unfold wp_L_chain
  rcases h_or p q c with hb | ⟨g, h, k, hg, hh, hne, hk, rfl, rfl, rfl⟩
  · right
    have H := h1 hb
    unfold wp_C_chain
    rcases ix_or p (N := 8) (by decide) with hp | ⟨g, hg, rfl⟩
    · exact c_goal0 hp ⟨fun _ => Or.inl ⟨rfl, H⟩, fun z => absurd rfl z⟩
    · refine c_goal1 hg ⟨fun z => absurd z (by decide), fun _ => ?_⟩
      rcases ix_or q (N := 8) (by decide) with hq | ⟨h, hh, rfl⟩
      · exact c_goal0 hq ⟨fun z => absurd rfl z, fun _ => Or.inl ⟨rfl, H⟩⟩
      · refine c_goal1 hh ⟨fun _ => ⟨fun hne => Or.inr (c_cost0 ?_ (Or.inl ⟨rfl, H⟩)), fun _ => Or.inl ⟨rfl, H⟩⟩, fun z => absurd z (by decide)⟩
        rcases hb with z | z | z | z
        · exact absurd z (ix_no hg (by decide))
        · exact absurd z (ix_no hh (by decide))
        · exact absurd z hne
        · exact z
  · have hne' : ¬ nI g = nI h := by rw [nI_eq (by omega) (by omega)]; exact hne
    rcases Nat.lt_or_ge G.R 40 with hR2 | hR2
    · left
      unfold wp_C_chain
      refine c_goal1 hg ⟨fun z => absurd z (by decide), fun _ => c_goal1 hh ⟨fun _ => ⟨fun _ => Or.inl (c_cost1 hk (Or.inl (w_checkRoom (fun _ => ?_) (fun z => absurd (by rw [I.gc.nR, lt40_nI hR]; exact hR2) z)))), fun z => absurd z hne'⟩, fun z => absurd z (by decide)⟩⟩
      rintro _ rfl
      refine c_addRule (R := G.R) (by rw [va_up_ne _ _ (by decide)]; exact I.gc.nR) hR2 (fun f1 e4 e5 e6 e7 e8 eo f2 hf2 => ?_)
      rw [← nI_0] at e7
      exact h0 g h k hg hh hne hk rfl rfl rfl hR2 _ f2 (AR.of I rfl e4 e5 e6 e7 e8 eo hf2)
    · right
      unfold wp_C_chain
      exact c_goal1 hg ⟨fun z => absurd z (by decide), fun _ => c_goal1 hh ⟨fun _ => ⟨fun _ => Or.inl (c_cost1 hk (Or.inr (w_checkRoom (fun z => absurd z (by rw [I.gc.nR, lt40_nI hR]; omega)) (fun _ => Or.inr ⟨rfl, h2 g h k hg hh hne hk rfl rfl rfl (by omega)⟩)))), fun z => absurd z hne'⟩, fun z => absurd z (by decide)⟩⟩
theorem lm_chain_bad {post : Int32 → ctN → ctF → Prop} {n : ctN} {f : ctF} {p q c : Int32} (hb : hBad p q c) (h : post 0 (va_up n 3 1) f) : wp_M_chain post p q c n f := by
  have J33 : wp_M_chain_J33 post p q c n f := by
    unfold wp_M_chain_J33 wp_M_chain_J34
    refine ⟨fun z => absurd rfl z, fun _ => ?_⟩
    unfold wp_M_chain_J47 wp_M_chain_J61
    exact ⟨fun _ => m_ref1 ⟨fun z => absurd z (by decide), fun _ => h⟩, fun _ => m_ref1 ⟨fun z => absurd z (by decide), fun _ => h⟩⟩
  unfold wp_M_chain
  rcases ix_or p (N := 8) (by decide) with hp | ⟨g, hg, rfl⟩
  · exact m_goal0 hp ⟨fun _ => J33, fun z => absurd rfl z⟩
  · refine m_goal1 hg ⟨fun z => absurd z (by decide), fun _ => ?_⟩
    rcases ix_or q (N := 8) (by decide) with hq | ⟨h, hh, rfl⟩
    · exact m_goal0 hq ⟨fun _ => J33, fun z => absurd rfl z⟩
    · refine m_goal1 hh ⟨fun z => absurd z (by decide), fun _ => ⟨fun _ => J33, fun hne => m_cost0 ?_ ⟨fun _ => J33, fun z => absurd rfl z⟩⟩⟩
      rcases hb with z | z | z | z
      · exact absurd z (ix_no hg (by decide))
      · exact absurd z (ix_no hh (by decide))
      · exact absurd z hne
      · exact z
theorem lm_chain_go {post : Int32 → ctN → ctF → Prop} {n : ctN} {f : ctF} {g h k : Nat} (hg : g < 8) (hh : h < 8) (hne : g ≠ h) (hk : k ≤ 20) (H : wp_M_chain_J47 post (nI g) (nI h) (nI k) 0 n f) : wp_M_chain post (nI g) (nI h) (nI k) n f := by
  have hne' : ¬ nI g = nI h := by rw [nI_eq (by omega) (by omega)]; exact hne
  unfold wp_M_chain
  refine m_goal1 hg ⟨fun z => absurd z (by decide), fun _ => m_goal1 hh ⟨fun z => absurd z (by decide), fun _ => ⟨fun z => absurd z hne', fun _ => m_cost1 hk ⟨fun z => absurd z (by decide), fun _ => ?_⟩⟩⟩⟩
  unfold wp_M_chain_J34
  exact ⟨fun _ => H, fun z => absurd z (by decide)⟩
theorem ne40_nI {R : Nat} (h : R < 40) : ¬ nI R = 40 := by
  rw [show (40 : Int32) = nI 40 by decide, nI_eq (by omega) (by decide)]; omega
theorem lm_chain_full {post : Int32 → ctN → ctF → Prop} {n : ctN} {f : ctF} {g h k : Nat} (hg : g < 8) (hh : h < 8) (hne : g ≠ h) (hk : k ≤ 20) (hR : n 5 = nI 40) (H : post 0 (va_up n 3 2) f) : wp_M_chain post (nI g) (nI h) (nI k) n f := by
  refine lm_chain_go hg hh hne hk ?_
  unfold wp_M_chain_J47
  refine ⟨fun z => absurd (by rw [hR]; decide) z, fun _ => ?_⟩
  unfold wp_M_chain_J61
  exact m_ref2 ⟨fun z => absurd z (by decide), fun _ => H⟩
theorem lm_chain_ok {post : Int32 → ctN → ctF → Prop} {n : ctN} {f : ctF} {G : GD} {T : TD} {g h k : Nat} (hG : G.ok) (A : AR G T g none h 0 k n f) (hg : g < 8) (hh : h < 8) (hne : g ≠ h) (hk : k ≤ 20) (hR : G.R < 40) (H : ∀ n' f', IV (G.addR g none h 0 k) T.zero n' f' → n' 3 = 0 → f' 32 0 = nI G.R → post (nI G.R) n' f') : wp_M_chain post (nI g) (nI h) (nI k) n f := by
  refine lm_chain_go hg hh hne hk ?_
  unfold wp_M_chain_J47
  refine ⟨fun _ => ?_, fun z => absurd z (by rw [A.gm.nR]; exact ne40_nI hR)⟩
  unfold wp_M_chain_J61
  refine m_ref0 ⟨fun _ => ?_, fun z => absurd rfl z⟩
  refine m_add (R := G.R) (by rw [va_up_ne _ _ (by decide)]; exact A.gm.nR) hR (fun f' e20 e22 e23 e24 e21 eo => ?_)
  refine H _ f' (A.inv hG hg hh (by decide) hk (fun o z => nomatch z) hR (x3 := nI h) (x4 := 0) (fun _ => rfl) (fun o z => nomatch z) e20 e22 e23 e24 e21 eo) ?_ ?_
  · rw [va_up_ne _ _ (by decide), va_up_ne _ _ (by decide), va_up_self]
  · rw [eo 32 (by decide)]; exact A.out
