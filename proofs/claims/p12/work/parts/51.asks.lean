/-! what holds between two calls; the calls that ask -/
def badIx (x : Int32) (N : Nat) : Prop := x < 0 ∨ nI N ≤ x
theorem ix_or (x : Int32) {N : Nat} (hN : N < 2 ^ 31) : badIx x N ∨ ∃ j, j < N ∧ x = nI j := by
  rcases pk_ix x hN with h | h | h
  · exact Or.inl (Or.inl h)
  · exact Or.inl (Or.inr h)
  · exact Or.inr h
theorem lt_pred {N : Nat} {p : Int32} (hN : N ≤ 1000000) : nI N - 1 < p ↔ nI N ≤ p := by
  rw [w_lt, w_le, ia_sub (by rw [nI_toInt (by omega)]; omega) (by rw [nI_toInt (by omega)]; omega) (by rw [ia_1]; omega) (by rw [ia_1]; omega), nI_toInt (by omega), ia_1]
  omega
theorem ix_no {j N : Nat} (h : j < N) (hN : N < 2 ^ 31) : ¬ badIx (nI j) N := fun q => q.elim (nI_pos (by omega)) (nI_ge h hN)
theorem c_goal1 {post : Int32 → ctN → ctF → Prop} {n : ctN} {f : ctF} {g : Nat} (hg : g < 8) (h : post 1 n f) : wp_C_isGoal post (nI g) n f :=
  w_isGoal (fun _ _ => h) (fun q => absurd (by rw [ix_8] at q; exact q) (ix_no hg (by decide)))
theorem c_goal0 {post : Int32 → ctN → ctF → Prop} {n : ctN} {f : ctF} {p : Int32} (hp : badIx p 8) (h : post 0 n f) : wp_C_isGoal post p n f :=
  w_isGoal (fun a b => absurd (by rw [ix_8] at b; exact hp.elim a b) id) (fun _ => h)
theorem c_op1 {post : Int32 → ctN → ctF → Prop} {n : ctN} {f : ctF} {o O : Nat} (hO : n 0 = nI O) (hO' : O ≤ 10) (ho : o < O) (h : post 1 n f) : wp_G_hasOperator post (nI o) n f :=
  w_hasOperator (fun _ _ => h) (fun q => absurd (by rw [hO] at q; exact q) (ix_no ho (by omega)))
theorem c_op0 {post : Int32 → ctN → ctF → Prop} {n : ctN} {f : ctF} {O : Nat} {p : Int32} (hO : n 0 = nI O) (hp : badIx p O) (h : post 0 n f) : wp_G_hasOperator post p n f :=
  w_hasOperator (fun a b => absurd (by rw [hO] at b; exact hp.elim a b) id) (fun _ => h)
theorem c_has1 {post : Int32 → ctN → ctF → Prop} {n : ctN} {f : ctF} {v N : Nat} (hN : n 2 = nI N) (hN' : N ≤ 120) (hv : v < N) (h : post 1 n f) : wp_F_has post (nI v) n f :=
  w_has (fun _ _ => h) (fun q => absurd (by rw [hN] at q; exact q) (ix_no hv (by omega)))
theorem c_has0 {post : Int32 → ctN → ctF → Prop} {n : ctN} {f : ctF} {N : Nat} {p : Int32} (hN : n 2 = nI N) (hp : badIx p N) (h : post 0 n f) : wp_F_has post p n f :=
  w_has (fun a b => absurd (by rw [hN] at b; exact hp.elim a b) id) (fun _ => h)
theorem m_goal1 {post : Int32 → ctN → ctF → Prop} {n : ctN} {f : ctF} {g : Nat} (hg : g < 8) (h : post 1 n f) : wp_M_isGoal post (nI g) n f :=
  wm_isGoal (fun _ _ => h) (fun q => absurd (by rw [show (7 : Int32) = nI 8 - 1 by decide, lt_pred (by decide)] at q; exact q) (ix_no hg (by decide)))
theorem m_goal0 {post : Int32 → ctN → ctF → Prop} {n : ctN} {f : ctF} {p : Int32} (hp : badIx p 8) (h : post 0 n f) : wp_M_isGoal post p n f :=
  wm_isGoal (fun a b => absurd (by rw [show (7 : Int32) = nI 8 - 1 by decide, lt_pred (by decide)] at b; exact hp.elim a b) id) (fun _ => h)
theorem m_in1 {post : Int32 → ctN → ctF → Prop} {n : ctN} {f : ctF} {v N : Nat} {x : Int32} (hx : x = nI N) (hN' : N ≤ 120) (hv : v < N) (h : post 1 n f) : wp_M_in post (nI v) 0 (x - 1) n f :=
  wm_in (fun _ _ => h) (fun q => absurd (by rw [hx, lt_pred (by omega)] at q; exact q) (ix_no hv (by omega)))
theorem m_in0 {post : Int32 → ctN → ctF → Prop} {n : ctN} {f : ctF} {N : Nat} {p x : Int32} (hx : x = nI N) (hN' : N ≤ 120) (hp : badIx p N) (h : post 0 n f) : wp_M_in post p 0 (x - 1) n f :=
  wm_in (fun a b => absurd (by rw [hx, lt_pred (by omega)] at b; exact hp.elim a b) id) (fun _ => h)
theorem m_node1 {post : Int32 → ctN → ctF → Prop} {n : ctN} {f : ctF} {v N : Nat} (hx : n 6 = nI N) (hN' : N ≤ 120) (hv : v < N) (h : post 1 n f) : wp_M_isNode post (nI v) n f := by
  unfold wp_M_isNode
  exact m_in1 hx hN' hv ⟨rfl, h⟩
theorem m_node0 {post : Int32 → ctN → ctF → Prop} {n : ctN} {f : ctF} {N : Nat} {p : Int32} (hx : n 6 = nI N) (hN' : N ≤ 120) (hp : badIx p N) (h : post 0 n f) : wp_M_isNode post p n f := by
  unfold wp_M_isNode
  exact m_in0 hx hN' hp ⟨rfl, h⟩
theorem m_ask1 {post : Int32 → ctN → ctF → Prop} {n : ctN} {f : ctF} {v g N : Nat} (hx : n 6 = nI N) (hN' : N ≤ 120) (hv : v < N) (hg : g < 8) (h : post 1 n f) : wp_M_isAsked post (nI v) (nI g) n f := by
  unfold wp_M_isAsked
  exact m_node1 hx hN' hv ⟨fun q => absurd q (by decide), fun _ => m_goal1 hg ⟨fun q => absurd q (by decide), fun _ => h⟩⟩
theorem m_ask0 {post : Int32 → ctN → ctF → Prop} {n : ctN} {f : ctF} {N : Nat} {p q : Int32} (hx : n 6 = nI N) (hN' : N ≤ 120) (hb : badIx p N ∨ badIx q 8) (h : post 0 n f) : wp_M_isAsked post p q n f := by
  unfold wp_M_isAsked
  rcases ix_or p (N := N) (by omega) with hp | ⟨v, hv, rfl⟩
  · exact m_node0 hx hN' hp ⟨fun _ => h, fun z => absurd rfl z⟩
  · refine m_node1 hx hN' hv ⟨fun z => absurd z (by decide), fun _ => m_goal0 ?_ ⟨fun _ => h, fun z => absurd rfl z⟩⟩
    exact hb.elim (fun z => absurd z (ix_no hv (by omega))) id
theorem c_place1 {post : ctN → ctF → Prop} {xp : String → ctN → ctF → Prop} {n : ctN} {f : ctF} {v g N : Nat} (hN : n 2 = nI N) (hN' : N ≤ 120) (hv : v < N) (hg : g < 8) (h : post n f) : wp_C_checkPlace post xp (nI v) (nI g) n f := by
  unfold wp_C_checkPlace
  exact c_has1 hN hN' hv ⟨fun q => absurd q (by decide), fun _ => c_goal1 hg ⟨fun _ => h, fun q => absurd q (by decide)⟩⟩
theorem c_place0 {post : ctN → ctF → Prop} {xp : String → ctN → ctF → Prop} {n : ctN} {f : ctF} {N : Nat} {p q : Int32} (hN : n 2 = nI N) (hN' : N ≤ 120) (hb : badIx p N ∨ badIx q 8) (h : xp "java/lang/IllegalArgumentException" n f) : wp_C_checkPlace post xp p q n f := by
  unfold wp_C_checkPlace
  rcases ix_or p (N := N) (by omega) with hp | ⟨v, hv, rfl⟩
  · exact c_has0 hN hp ⟨fun _ => h, fun z => absurd rfl z⟩
  · refine c_has1 hN hN' hv ⟨fun z => absurd z (by decide), fun _ => c_goal0 ?_ ⟨fun z => absurd rfl z, fun _ => h⟩⟩
    exact hb.elim (fun z => absurd z (ix_no hv (by omega))) id
/-- asked of a node and a goal: both there, or one wanting -/
theorem ask_or (p q : Int32) {N : Nat} (hN : N ≤ 120) : (badIx p N ∨ badIx q 8) ∨ ∃ v g, v < N ∧ g < 8 ∧ p = nI v ∧ q = nI g := by
  rcases ix_or p (N := N) (by omega) with hp | ⟨v, hv, rfl⟩
  · exact Or.inl (Or.inl hp)
  · rcases ix_or q (N := 8) (by decide) with hq | ⟨g, hg, rfl⟩
    · exact Or.inl (Or.inr hq)
    · exact Or.inr ⟨v, g, hv, hg, rfl, rfl⟩
theorem m_ref0 {post : Int32 → ctN → ctF → Prop} {n : ctN} {f : ctF} (h : post 0 (va_up n 3 0) f) : wp_M_refuse post 0 0 0 n f :=
  wm_refuse (fun z => absurd rfl z) (fun _ z => absurd rfl z) (fun _ _ z => absurd rfl z) (fun _ _ _ => h)
theorem m_ref1 {post : Int32 → ctN → ctF → Prop} {n : ctN} {f : ctF} {b c : Int32} (h : post 1 (va_up n 3 1) f) : wp_M_refuse post 1 b c n f :=
  wm_refuse (fun _ => h) (fun z => absurd z (by decide)) (fun z => absurd z (by decide)) (fun z => absurd z (by decide))
theorem m_ref2 {post : Int32 → ctN → ctF → Prop} {n : ctN} {f : ctF} {c : Int32} (h : post 1 (va_up n 3 2) f) : wp_M_refuse post 0 1 c n f :=
  wm_refuse (fun z => absurd rfl z) (fun _ _ => h) (fun _ z => absurd z (by decide)) (fun _ z => absurd z (by decide))
theorem m_ref3 {post : Int32 → ctN → ctF → Prop} {n : ctN} {f : ctF} (h : post 1 (va_up n 3 3) f) : wp_M_refuse post 0 0 1 n f :=
  wm_refuse (fun z => absurd rfl z) (fun _ z => absurd rfl z) (fun _ _ _ => h) (fun _ _ z => absurd z (by decide))
theorem tC.up {G : GD} {T : TD} {n n' : ctN} {f f' : ctF} (h : tC G T n f) (e2 : n' 2 = n 2) (e : ∀ k, 9 ≤ k → k ≤ 16 → k ≠ 13 → f' k = f k) : tC G T n' f' :=
  ⟨by rw [e2]; exact h.nN, fun v hv => by rw [e 9 (by decide) (by decide) (by decide), e 10 (by decide) (by decide) (by decide), e 11 (by decide) (by decide) (by decide)]; exact h.nd v hv, fun v g hv hg => by rw [e 14 (by decide) (by decide) (by decide)]; exact h.co v g hv hg, fun v g hv hg => by rw [e 15 (by decide) (by decide) (by decide), e 16 (by decide) (by decide) (by decide)]; exact h.ru v g hv hg⟩
theorem rowOK.up {G : GD} {f f' : ctF} {v o a : Nat} {rk : Nat → Nat} {S : Nat → Bool} {m g : Nat} (h : rowOK G f v o a rk S m g) (e29 : f' 29 = f 29) (e30 : f' 30 = f 30) : rowOK G f' v o a rk S m g := by
  unfold rowOK at h ⊢
  rw [e29, e30]
  exact h
theorem tM.up {G : GD} {T : TD} {n n' : ctN} {f f' : ctF} (h : tM G T n f) (e6 : n' 6 = n 6) (e : ∀ k, 25 ≤ k → k ≤ 30 → f' k = f k) : tM G T n' f' := by
  obtain ⟨rk, S, hk⟩ := h.ch
  exact ⟨by rw [e6]; exact h.nN, fun v hv => by rw [e 25 (by decide) (by decide), e 26 (by decide) (by decide), e 27 (by decide) (by decide)]; exact h.nd v hv, fun v g hv hg => by rw [e 28 (by decide) (by decide)]; exact h.co v g hv hg, rk, S, fun v g hv hg => (hk v g hv hg).up (e 29 (by decide) (by decide)) (e 30 (by decide) (by decide))⟩
/-- class and reference over the same operators, rules, nodes, costs -/
def IV (G : GD) (T : TD) (n : ctN) (f : ctF) : Prop := (G.ok) ∧ (T.ok G) ∧ (gC G n f) ∧ (tC G T n f) ∧ (gM G n f) ∧ (tM G T n f)
theorem IV.g {G : GD} {T : TD} {n : ctN} {f : ctF} (h : IV G T n f) : G.ok := h.1
theorem IV.t {G : GD} {T : TD} {n : ctN} {f : ctF} (h : IV G T n f) : T.ok G := h.2.1
theorem IV.gc {G : GD} {T : TD} {n : ctN} {f : ctF} (h : IV G T n f) : gC G n f := h.2.2.1
theorem IV.tc {G : GD} {T : TD} {n : ctN} {f : ctF} (h : IV G T n f) : tC G T n f := h.2.2.2.1
theorem IV.gm {G : GD} {T : TD} {n : ctN} {f : ctF} (h : IV G T n f) : gM G n f := h.2.2.2.2.1
theorem IV.tm {G : GD} {T : TD} {n : ctN} {f : ctF} (h : IV G T n f) : tM G T n f := h.2.2.2.2.2
theorem IV.up {G : GD} {T : TD} {n n' : ctN} {f f' : ctF} (h : IV G T n f) (e : ∀ k, k ≠ 3 → k ≠ 7 → k ≠ 8 → n' k = n k) (e2 : ∀ k, k ≠ 32 → f' k = f k) : IV G T n' f' :=
  ⟨h.g, h.t, h.gc.up (e 0 (by decide) (by decide) (by decide)) (e 1 (by decide) (by decide) (by decide)) (fun k _ _ => e2 k (by omega)), h.tc.up (e 2 (by decide) (by decide) (by decide)) (fun k _ _ _ => e2 k (by omega)), h.gm.up (e 4 (by decide) (by decide) (by decide)) (e 5 (by decide) (by decide) (by decide)) (fun k _ _ => e2 k (by omega)), h.tm.up (e 6 (by decide) (by decide) (by decide)) (fun k _ _ => e2 k (by omega))⟩
def PInv (n : ctN) (f : ctF) : Prop := ∃ G T, IV G T n f
theorem IV.inv {G : GD} {T : TD} {n : ctN} {f : ctF} (h : IV G T n f) : PInv n f := ⟨G, T, h⟩
theorem IV.n3 {G : GD} {T : TD} {n : ctN} {f : ctF} (h : IV G T n f) (x : Int32) : IV G T (va_up n 3 x) f := h.up (fun _ h3 _ _ => va_up_ne _ _ h3) (fun _ _ => rfl)
theorem IV.f32 {G : GD} {T : TD} {n : ctN} {f : ctF} (h : IV G T n f) (x : Nat → Int32) : IV G T n (va_up f 32 x) := h.up (fun _ _ _ _ => rfl) (fun _ hk => va_up_ne _ _ hk)
/-- cost -/
theorem lc_cost {post : Int32 → ctN → ctF → Prop} {n : ctN} {f : ctF} {G : GD} {T : TD} {p q : Int32} (I : IV G T n f) (h1 : (badIx p T.N ∨ badIx q 8) → post 1 n f) (h0 : ∀ v g, v < T.N → g < 8 → p = nI v → q = nI g → post 0 n (va_up f 32 (upd (f 32) 0 (f 14 (8 * v + g))))) : wp_L_cost post p q n f := by
  have hN := I.t.N120
  unfold wp_L_cost wp_C_cost
  rcases ask_or p q hN with hb | ⟨v, g, hv, hg, rfl, rfl⟩
  · exact Or.inr (Or.inr (c_place0 I.tc.nN hN hb ⟨rfl, h1 hb⟩))
  · refine Or.inl (Or.inl (c_place1 I.tc.nN hN hv hg (w_place ⟨ix_in (by omega) hg, ?_⟩)))
    rw [ix_cl (by omega) hg]
    rintro _ rfl
    exact h0 v g hv hg rfl rfl
theorem lm_cost {post : Int32 → ctN → ctF → Prop} {n : ctN} {f : ctF} {G : GD} {T : TD} {p q : Int32} (I : IV G T n f) (h1 : (badIx p T.N ∨ badIx q 8) → post 0 (va_up n 3 1) f) (h0 : ∀ v g, v < T.N → g < 8 → p = nI v → q = nI g → post (f 28 (8 * v + g)) (va_up n 3 0) f) : wp_M_cost post p q n f := by
  have hN := I.t.N120
  unfold wp_M_cost
  rcases ask_or p q hN with hb | ⟨v, g, hv, hg, rfl, rfl⟩
  · refine m_ask0 I.tm.nN hN hb ⟨fun z => absurd rfl z, fun _ => ?_⟩
    unfold wp_M_cost_J15
    exact m_ref1 ⟨fun z => absurd z (by decide), fun _ => h1 hb⟩
  · refine m_ask1 I.tm.nN hN hv hg ⟨fun _ => ?_, fun z => absurd z (by decide)⟩
    unfold wp_M_cost_J15
    rw [ix_m, ix_cl (by omega) hg]
    exact m_ref0 ⟨fun _ => ⟨ix_in (by omega) hg, h0 v g hv hg rfl rfl⟩, fun z => absurd rfl z⟩
/-- rule -/
theorem lc_rule {post : Int32 → ctN → ctF → Prop} {n : ctN} {f : ctF} {G : GD} {T : TD} {p q : Int32} (I : IV G T n f) (h : ∀ r f', (∀ k, k ≠ 32 → f' k = f k) → post r n f') : wp_L_rule post p q n f := by
  have hN := I.t.N120
  unfold wp_L_rule wp_C_rule
  rcases ask_or p q hN with hb | ⟨v, g, hv, hg, rfl, rfl⟩
  · exact Or.inr (Or.inr (c_place0 I.tc.nN hN hb ⟨rfl, h 1 f (fun _ _ => rfl)⟩))
  · refine Or.inl (Or.inl (c_place1 I.tc.nN hN hv hg (w_place ⟨ix_in (by omega) hg, ?_⟩)))
    rintro _ rfl
    exact h 0 _ (fun _ hk => va_up_ne _ _ hk)
theorem lm_rule {post : Int32 → ctN → ctF → Prop} {n : ctN} {f : ctF} {G : GD} {T : TD} {p q : Int32} (I : IV G T n f) (h : ∀ r n', (∀ k, k ≠ 3 → k ≠ 7 → k ≠ 8 → n' k = n k) → post r n' f) : wp_M_rule post p q n f := by
  have hN := I.t.N120
  unfold wp_M_rule
  rcases ask_or p q hN with hb | ⟨v, g, hv, hg, rfl, rfl⟩
  · refine m_ask0 I.tm.nN hN hb ⟨fun z => absurd rfl z, fun _ => ?_⟩
    unfold wp_M_rule_J15
    exact m_ref1 ⟨fun z => absurd z (by decide), fun _ => h _ _ (fun _ h3 _ _ => va_up_ne _ _ h3)⟩
  · refine m_ask1 I.tm.nN hN hv hg ⟨fun _ => ?_, fun z => absurd z (by decide)⟩
    unfold wp_M_rule_J15
    rw [ix_m]
    exact m_ref0 ⟨fun _ => ⟨ix_in (by omega) hg, h _ _ (fun _ h3 _ _ => va_up_ne _ _ h3)⟩, fun z => absurd rfl z⟩
/-- size -/
theorem c_size {post : Int32 → ctN → ctF → Prop} {xp : String → ctN → ctF → Prop} {n : ctN} {f : ctF} {G : GD} {T : TD} {v g : Nat} (I : IV G T n f) (hv : v < T.N) (hg : g < 8) (h0 : ∀ s, szOK s → s ≤ 2000 → post s n f) (h2 : xp "java/lang/UnsupportedOperationException" n f) : wp_C_coverSize post xF (nI v) (nI g) n f ∨ wp_C_coverSize pFi xp (nI v) (nI g) n f := by
  have hN := I.t.N120
  have hs := (I.tc.ru v g hv hg).1
  by_cases c : f 16 (8 * v + g) ≤ 2000
  · left
    unfold wp_C_coverSize
    refine w_place ⟨ix_in (by omega) hg, ?_⟩
    rw [ix_cl (by omega) hg]
    rintro _ rfl
    exact ⟨fun _ => h0 _ hs c, fun z => absurd c z⟩
  · right
    unfold wp_C_coverSize
    refine w_place ⟨ix_in (by omega) hg, ?_⟩
    rw [ix_cl (by omega) hg]
    rintro _ rfl
    exact ⟨fun z => absurd z c, fun _ => h2⟩
theorem lc_size {post : Int32 → ctN → ctF → Prop} {n : ctN} {f : ctF} {G : GD} {T : TD} {p q : Int32} (I : IV G T n f) (h : ∀ r f', (∀ k, k ≠ 32 → f' k = f k) → post r n f') : wp_L_size post p q n f := by
  have hN := I.t.N120
  unfold wp_L_size wp_C_size
  rcases ask_or p q hN with hb | ⟨v, g, hv, hg, rfl, rfl⟩
  · exact Or.inr (Or.inr (c_place0 I.tc.nN hN hb (Or.inl ⟨rfl, h 1 f (fun _ _ => rfl)⟩)))
  · rcases c_size (post := fun (r : Int32) (n : ctN) (f : ctF) => ∀ f2 : ctF, f2 = va_up f 32 (upd (f 32) 0 r) → post 0 n f2) (xp := fun E n f => (E = "java/lang/IllegalArgumentException" ∧ post 1 n f) ∨ (E = "java/lang/UnsupportedOperationException" ∧ post 2 n f)) I hv hg (fun s _ _ => by rintro _ rfl; exact h 0 _ (fun _ hk => va_up_ne _ _ hk)) (Or.inr ⟨rfl, h 2 f (fun _ _ => rfl)⟩) with z | z
    · exact Or.inl (Or.inl (c_place1 I.tc.nN hN hv hg (Or.inl z)))
    · exact Or.inr (Or.inl (c_place1 I.tc.nN hN hv hg (Or.inr z)))
theorem lm_size {post : Int32 → ctN → ctF → Prop} {n : ctN} {f : ctF} {G : GD} {T : TD} {p q : Int32} (I : IV G T n f) (h : ∀ r n', (∀ k, k ≠ 3 → k ≠ 7 → k ≠ 8 → n' k = n k) → post r n' f) : wp_M_size post p q n f := by
  have hN := I.t.N120
  unfold wp_M_size
  rcases ask_or p q hN with hb | ⟨v, g, hv, hg, rfl, rfl⟩
  · refine m_ask0 I.tm.nN hN hb ⟨fun z => absurd rfl z, fun _ => ?_⟩
    unfold wp_M_size_J17
    refine ⟨fun _ => ?_, fun z => absurd rfl z⟩
    unfold wp_M_size_J50 wp_M_size_J51
    exact m_ref1 ⟨fun z => absurd z (by decide), fun _ => h _ _ (fun _ h3 _ _ => va_up_ne _ _ h3)⟩
  · refine m_ask1 I.tm.nN hN hv hg ⟨fun _ => ?_, fun z => absurd z (by decide)⟩
    unfold wp_M_size_J17
    refine ⟨fun z => absurd z (by decide), fun _ => ⟨fun z => absurd z (by decide), fun _ => ?_⟩⟩
    unfold wp_M_size_J39
    rw [ix_m]
    refine ⟨ix_in (by omega) hg, fun _ => ?_, fun _ => ?_⟩
    · unfold wp_M_size_J50 wp_M_size_J51
      rw [ix_m]
      exact m_ref0 ⟨fun _ => ⟨ix_in (by omega) hg, h _ _ (fun _ h3 _ _ => va_up_ne _ _ h3)⟩, fun z => absurd rfl z⟩
    · unfold wp_M_size_J51
      exact m_ref2 ⟨fun z => absurd z (by decide), fun _ => h _ _ (fun _ h3 _ _ => va_up_ne _ _ h3)⟩
/-- cover -/
theorem lc_cover {post : Int32 → ctN → ctF → Prop} {n : ctN} {f : ctF} {G : GD} {T : TD} {p q k w : Int32} (I : IV G T n f) (h : ∀ r f', (∀ k, k ≠ 32 → f' k = f k) → post r n f') : wp_L_cover post p q k w n f := by
  have hN := I.t.N120
  have e2000 : (2000 : Int32).toInt = 2000 := by decide
  unfold wp_L_cover wp_C_cover
  rcases ask_or p q hN with hb | ⟨v, g, hv, hg, rfl, rfl⟩
  · exact Or.inr (Or.inr (c_place0 I.tc.nN hN hb (Or.inl ⟨rfl, h 1 f (fun _ _ => rfl)⟩)))
  · by_cases c : f 16 (8 * v + g) ≤ 2000
    · have cs : ∀ (post' : Int32 → ctN → ctF → Prop), post' (f 16 (8 * v + g)) n f → wp_C_coverSize post' xF (nI v) (nI g) n f := by
        intro post' hp
        unfold wp_C_coverSize
        refine w_place ⟨ix_in (by omega) hg, ?_⟩
        rw [ix_cl (by omega) hg]
        rintro _ rfl
        exact ⟨fun _ => hp, fun z => absurd c z⟩
      by_cases hw : w = 0 ∨ w = 1
      · by_cases hk : k < 0 ∨ ¬ k < f 16 (8 * v + g)
        · right; left
          refine c_place1 I.tc.nN hN hv hg (Or.inl (cs _ ?_))
          have J : wp_C_cover_J35 pFi (fun E n f => (E = "java/lang/IllegalArgumentException" ∧ post 1 n f) ∨ (E = "java/lang/UnsupportedOperationException" ∧ post 2 n f) ∨ (E = "java/lang/IndexOutOfBoundsException" ∧ post 3 n f)) (nI v) (nI g) k w (f 16 (8 * v + g)) n f := by
            unfold wp_C_cover_J35
            exact ⟨fun _ => Or.inr (Or.inr ⟨rfl, h 3 f (fun _ _ => rfl)⟩), fun z => ⟨fun y => absurd hk (fun u => u.elim z (fun u => u y)), fun _ => Or.inr (Or.inr ⟨rfl, h 3 f (fun _ _ => rfl)⟩)⟩⟩
          exact ⟨fun _ => J, fun z => ⟨fun _ => J, fun y => absurd hw (fun u => u.elim z y)⟩⟩
        · left; left
          have hk0 : ¬ k < 0 := fun z => hk (Or.inl z)
          have hk1 : k < f 16 (8 * v + g) := by
            by_cases z : k < f 16 (8 * v + g)
            · exact z
            · exact absurd (Or.inr z) hk
          obtain ⟨j, hj, rfl⟩ := nI_of hk0
          have hj2 : j ≤ 2001 := by
            rw [w_lt, nI_toInt hj] at hk1
            rw [w_le, e2000] at c
            omega
          refine c_place1 I.tc.nN hN hv hg (Or.inl (cs _ ?_))
          have J : wp_C_cover_J35 (fun (r : Int32) (n : ctN) (f : ctF) => ∀ f2 : ctF, f2 = va_up f 32 (upd (f 32) 0 r) → post 0 n f2) xF (nI v) (nI g) (nI j) w (f 16 (8 * v + g)) n f := by
            unfold wp_C_cover_J35
            refine ⟨fun z => absurd z hk0, fun _ => ⟨fun _ => w_place (w_findInCover I.g I.t I.gc I.tc (by omega) hj2 (fun at' hat => ⟨fun _ => ?_, fun _ => ⟨vp_in_nI (by omega) (by decide), ?_⟩⟩)), fun z => absurd hk1 z⟩⟩
            · rintro _ rfl; exact h 0 _ (fun _ hk => va_up_ne _ _ hk)
            · rintro _ rfl; exact h 0 _ (fun _ hk => va_up_ne _ _ hk)
          exact ⟨fun _ => J, fun z => ⟨fun _ => J, fun y => absurd hw (fun u => u.elim z y)⟩⟩
      · right; left
        refine c_place1 I.tc.nN hN hv hg (Or.inl (cs _ ⟨fun z => absurd (Or.inl z) hw, fun _ => ⟨fun z => absurd (Or.inr z) hw, fun _ => Or.inl ⟨rfl, h 1 f (fun _ _ => rfl)⟩⟩⟩))
    · right; left
      refine c_place1 I.tc.nN hN hv hg (Or.inr ?_)
      unfold wp_C_coverSize
      refine w_place ⟨ix_in (by omega) hg, ?_⟩
      rw [ix_cl (by omega) hg]
      rintro _ rfl
      exact ⟨fun z => absurd z c, fun _ => Or.inr (Or.inl ⟨rfl, h 2 f (fun _ _ => rfl)⟩)⟩
theorem lm_cover {post : Int32 → ctN → ctF → Prop} {n : ctN} {f : ctF} {G : GD} {T : TD} {p q k w : Int32} (I : IV G T n f) (h : ∀ r n', (∀ k, k ≠ 3 → k ≠ 7 → k ≠ 8 → n' k = n k) → post r n' f) : wp_M_cover post p q k w n f := by
  have hN := I.t.N120
  have J23 : wp_M_cover_J23 post p q k w n f := by
    unfold wp_M_cover_J23 wp_M_cover_J24
    refine ⟨fun _ => ?_, fun z => absurd rfl z⟩
    unfold wp_M_cover_J46
    refine ⟨fun z => absurd rfl z, fun _ => ?_⟩
    unfold wp_M_cover_J59
    refine ⟨fun _ => ?_, fun z => absurd rfl z⟩
    unfold wp_M_cover_J76 wp_M_cover_J77
    refine ⟨fun _ => ?_, fun z => absurd rfl z⟩
    unfold wp_M_cover_J98 wp_M_cover_J99
    exact m_ref1 ⟨fun z => absurd z (by decide), fun _ => h _ _ (fun _ h3 _ _ => va_up_ne _ _ h3)⟩
  unfold wp_M_cover
  rcases ask_or p q hN with hb | ⟨v, g, hv, hg, rfl, rfl⟩
  · exact m_ask0 I.tm.nN hN hb ⟨fun _ => J23, fun z => absurd rfl z⟩
  · have e2000 : (2000 : Int32).toInt = 2000 := by decide
    have hs := I.tm.sz hv hg
    have hx := ix_in (v := v) (g := g) (by omega) hg
    have fin : ∀ s0 s1 : Int32, (s0 = 0 ∧ s1 = 0 ∧ f 30 (8 * v + g) ≤ 2000 ∧ ¬ k < 0 ∧ ¬ f 30 (8 * v + g) - 1 < k) ∨ (s1 = 1) ∨ (s0 = 1 ∧ s1 = 0) → wp_M_cover_J99 post (nI v) (nI g) k w s0 s1 0 n f := by
      intro s0 s1 hc
      unfold wp_M_cover_J99
      rcases hc with ⟨rfl, rfl, hc1, hc2, hc3⟩ | rfl | ⟨rfl, rfl⟩
      · obtain ⟨j, hj, rfl⟩ := nI_of hc2
        have hj2 : j ≤ 2001 := by
          rw [w_lt, nI_toInt hj, ia_sub (by have := hs.1; omega) (by have := hs.2; omega) (by rw [ia_1]; omega) (by rw [ia_1]; omega), ia_1] at hc3
          rw [w_le, e2000] at hc1
          omega
        refine m_ref0 ⟨fun _ => ?_, fun z => absurd rfl z⟩
        have I3 := I.n3 0
        exact wm_find I3.g I3.t I3.gm I3.tm hv hg hj2 (fun n' hn' => ⟨fun _ => h _ _ (fun k h3 h7 h8 => (hn' k h7 h8).trans (va_up_ne _ _ h3)), fun _ => h _ _ (fun k h3 h7 h8 => (hn' k h7 h8).trans (va_up_ne _ _ h3))⟩)
      · exact m_ref2 ⟨fun z => absurd z (by decide), fun _ => h _ _ (fun _ h3 _ _ => va_up_ne _ _ h3)⟩
      · exact m_ref3 ⟨fun z => absurd z (by decide), fun _ => h _ _ (fun _ h3 _ _ => va_up_ne _ _ h3)⟩
    refine m_ask1 I.tm.nN hN hv hg ⟨fun z => absurd z (by decide), fun _ => ?_⟩
    refine wm_in (fun _ _ => ⟨fun z => absurd z (by decide), fun _ => ?_⟩) (fun _ => ⟨fun _ => J23, fun z => absurd rfl z⟩)
    unfold wp_M_cover_J24
    rw [ix_m, ix_cl (by omega) hg]
    refine ⟨fun z => absurd z (by decide), fun _ => ⟨hx, ?_⟩⟩
    unfold wp_M_cover_J46
    refine ⟨fun _ => ?_, fun z => absurd z (by decide)⟩
    unfold wp_M_cover_J59
    refine ⟨fun z => absurd z (by decide), fun _ => ⟨fun c => ?_, fun c => ?_⟩⟩
    · unfold wp_M_cover_J76 wp_M_cover_J77
      refine ⟨fun z => absurd z (by decide), fun _ => ?_⟩
      refine wm_in (fun a b => ⟨fun _ => ?_, fun z => absurd z (by decide)⟩) (fun _ => ⟨fun z => absurd rfl z, fun _ => ?_⟩)
      · unfold wp_M_cover_J98
        exact fin 0 0 (Or.inl ⟨rfl, rfl, c, a, b⟩)
      · exact fin 1 0 (Or.inr (Or.inr ⟨rfl, rfl⟩))
    · unfold wp_M_cover_J77
      refine ⟨fun z => absurd z (by decide), fun _ => ?_⟩
      refine wm_in (fun a b => ⟨fun _ => ?_, fun z => absurd z (by decide)⟩) (fun _ => ⟨fun z => absurd rfl z, fun _ => ?_⟩)
      · unfold wp_M_cover_J98
        exact fin 0 1 (Or.inr (Or.inl rfl))
      · exact fin 1 1 (Or.inr (Or.inl rfl))
/-- states, like -/
theorem lc_states {post : Int32 → ctN → ctF → Prop} {n : ctN} {f : ctF} {G : GD} {T : TD} (I : IV G T n f) (h : ∀ r, post r n f) : wp_C_states post n f := by
  unfold wp_C_states
  exact w_countStates I.tc.nN I.t.N120 (h _)
theorem lm_states {post : Int32 → ctN → ctF → Prop} {n : ctN} {f : ctF} {G : GD} {T : TD} (I : IV G T n f) (h : ∀ r n', (∀ k, k ≠ 3 → k ≠ 7 → k ≠ 8 → n' k = n k) → post r n' f) : wp_M_states post n f := by
  obtain ⟨c, hc⟩ := wm_states (f := f) I.tm.nN I.t.N120
  exact hc post (h _ _ (fun _ h3 _ _ => va_up_ne _ _ h3))
theorem lc_like {post : Int32 → ctN → ctF → Prop} {n : ctN} {f : ctF} {G : GD} {T : TD} {p : Int32} (I : IV G T n f) (h : ∀ r f', (∀ k, k ≠ 32 → f' k = f k) → post r n f') : wp_L_like post p n f := by
  have hN := I.t.N120
  unfold wp_L_like wp_C_like
  rcases ix_or p (N := T.N) (by omega) with hb | ⟨v, hv, rfl⟩
  · exact Or.inr (c_has0 I.tc.nN hb ⟨fun z => absurd rfl z, fun _ => ⟨rfl, h 1 f (fun _ _ => rfl)⟩⟩)
  · refine Or.inl (c_has1 I.tc.nN hN hv ⟨fun _ => ⟨vp_in_nI (by omega) (by decide), ?_⟩, fun z => absurd z (by decide)⟩)
    rintro _ rfl
    exact h 0 _ (fun _ hk => va_up_ne _ _ hk)
theorem lm_like {post : Int32 → ctN → ctF → Prop} {n : ctN} {f : ctF} {G : GD} {T : TD} {p : Int32} (I : IV G T n f) (h : ∀ r n', (∀ k, k ≠ 3 → k ≠ 7 → k ≠ 8 → n' k = n k) → post r n' f) : wp_M_like post p n f := by
  have hN := I.t.N120
  unfold wp_M_like
  rcases ix_or p (N := T.N) (by omega) with hb | ⟨v, hv, rfl⟩
  · refine m_node0 I.tm.nN hN hb ⟨fun z => absurd rfl z, fun _ => m_ref1 ⟨fun z => absurd z (by decide), fun _ => h _ _ (fun _ h3 _ _ => va_up_ne _ _ h3)⟩⟩
  · refine m_node1 I.tm.nN hN hv ⟨fun _ => m_ref0 ⟨fun _ => ?_, fun z => absurd rfl z⟩, fun z => absurd z (by decide)⟩
    obtain ⟨r, -, hr⟩ := wm_likeOf f (v := v) (by omega)
    exact hr _ _ (h _ _ (fun _ h3 _ _ => va_up_ne _ _ h3))
