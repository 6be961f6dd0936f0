/-! like and states: what is kept of the nodes between two calls -/
theorem sameND.rf (D B : Nat → Option Nat) (a : Nat) : sameND D B D B a a := ⟨relA.rf D a, rfl⟩
theorem sameND.sy {D B E B' : Nat → Option Nat} {a b : Nat} (h : sameND D B E B' a b) : sameND E B' D B b a := ⟨h.1.sy, h.2.symm⟩
theorem sameND.tr {D B E B' F B'' : Nat → Option Nat} {a b c : Nat} (h : sameND D B E B' a b) (h2 : sameND E B' F B'' b c) : sameND D B F B'' a c := ⟨h.1.tr h2.1, h.2.trans h2.2⟩
theorem nodeX.up {G : GD} {C B Q P : Nat → Option Nat} {v : Nat} {f f' : ctF} (h : nodeX G C B Q P v f) (e12 : f' 12 v = f 12 v) (e : ∀ g, g < 8 → f' 14 (8 * v + g) = f 14 (8 * v + g) ∧ f' 15 (8 * v + g) = f 15 (8 * v + g) ∧ f' 28 (8 * v + g) = f 28 (8 * v + g) ∧ f' 29 (8 * v + g) = f 29 (8 * v + g)) : nodeX G C B Q P v f' :=
  ⟨h.nd, h.mo, h.ql, h.pl, by rw [e12]; exact h.lea, fun g hg => by rw [(e g hg).1]; exact h.c14 g hg, fun g hg => by rw [(e g hg).2.1]; exact h.c15 g hg, fun g hg => by rw [(e g hg).2.2.1]; exact h.c28 g hg, fun g hg => by rw [(e g hg).2.2.2]; exact h.c29 g hg⟩
/-- the nodes below N as they were -/
def lowX (N : Nat) (f f' : ctF) : Prop := ∀ v, v < N → f' 12 v = f 12 v ∧ f' 13 v = f 13 v ∧ ∀ g, g < 8 → f' 14 (8 * v + g) = f 14 (8 * v + g) ∧ f' 15 (8 * v + g) = f 15 (8 * v + g) ∧ f' 28 (8 * v + g) = f 28 (8 * v + g) ∧ f' 29 (8 * v + g) = f 29 (8 * v + g)
theorem lowX.tr {N : Nat} {f g h : ctF} (a : lowX N f g) (b : lowX N g h) : lowX N f h := fun v hv => ⟨(b v hv).1.trans (a v hv).1, (b v hv).2.1.trans (a v hv).2.1, fun k hk => ⟨((b v hv).2.2 k hk).1.trans ((a v hv).2.2 k hk).1, ((b v hv).2.2 k hk).2.1.trans ((a v hv).2.2 k hk).2.1, ((b v hv).2.2 k hk).2.2.1.trans ((a v hv).2.2 k hk).2.2.1, ((b v hv).2.2 k hk).2.2.2.trans ((a v hv).2.2 k hk).2.2.2⟩⟩
theorem lowX.of {N : Nat} {f f' : ctF} (e12 : f' 12 = f 12) (e13 : f' 13 = f 13) (e14 : f' 14 = f 14) (e15 : f' 15 = f 15) (e28 : f' 28 = f 28) (e29 : f' 29 = f 29) : lowX N f f' := fun v _ => ⟨by rw [e12], by rw [e13], fun g _ => ⟨by rw [e14], by rw [e15], by rw [e28], by rw [e29]⟩⟩
def XL (T : TD) (B : Nat → Nat → Option Nat) (f : ctF) (u v : Nat) : Prop := sameND (T.C u) (B u) (T.C v) (B v) (aOf (f 12 u)) (aOf (f 12 v))
def XK (G : GD) (T : TD) (f : ctF) (B Q P : Nat → Nat → Option Nat) (lk : Nat → Nat) : Prop := ∀ v, v < T.N → nodeX G (T.C v) (B v) (Q v) (P v) v f ∧ f 13 v = nI (lk v) ∧ lk v ≤ v ∧ XL T B f (lk v) v ∧ ∀ j, j < lk v → ¬ XL T B f j v
def XI (G : GD) (T : TD) (f : ctF) : Prop := ∃ (B Q P : Nat → Nat → Option Nat) (lk : Nat → Nat), XK G T f B Q P lk
theorem XK.up {G : GD} {T : TD} {f f' : ctF} {B Q P : Nat → Nat → Option Nat} {lk : Nat → Nat} (h : XK G T f B Q P lk) (e : lowX T.N f f') : XK G T f' B Q P lk := by
  intro v hv
  obtain ⟨h1, h2, h3, h4, h5⟩ := h v hv
  obtain ⟨e1, e2, e3⟩ := e v hv
  refine ⟨h1.up e1 e3, by rw [e2]; exact h2, h3, ?_, fun j hj => ?_⟩
  · unfold XL at h4 ⊢
    rw [e1, (e (lk v) (by omega)).1]
    exact h4
  · have h6 := h5 j hj
    unfold XL at h6 ⊢
    rw [e1, (e j (by omega)).1]
    exact h6
theorem XI.up {G : GD} {T : TD} {f f' : ctF} (h : XI G T f) (e : lowX T.N f f') : XI G T f' := by
  obtain ⟨B, Q, P, lk, hk⟩ := h
  exact ⟨B, Q, P, lk, hk.up e⟩
theorem XI.s32 {G : GD} {T : TD} {f f' : ctF} (h : XI G T f) (e : ∀ k, k ≠ 32 → f' k = f k) : XI G T f' := h.up (lowX.of (e 12 (by decide)) (e 13 (by decide)) (e 14 (by decide)) (e 15 (by decide)) (e 28 (by decide)) (e 29 (by decide)))
theorem XI.zero (G : GD) (T : TD) (f : ctF) : XI G T.zero f := ⟨fun _ _ => none, fun _ _ => none, fun _ _ => none, fun _ => 0, fun _ hv => absurd hv (Nat.not_lt_zero _)⟩
/-- an operator more changes nothing of that -/
theorem Att_addO {G : GD} {p : Nat} {D : Nat → Option Nat} {g i : Nat} : Att (G.addO p) D g i ↔ Att G D g i := Iff.rfl
theorem cst_addO {G : GD} {p b : Nat} {D Q Q' : Nat → Option Nat} (h : cst G D b Q Q') : cst (G.addO p) D b Q Q' := h
theorem rl2_addO {G : GD} {p g : Nat} {D B : Nat → Option Nat} {S : Nat → Bool} {o : Option Nat} : rl2 (G.addO p) D B S g o ↔ rl2 G D B S g o := Iff.rfl
theorem mx_addO {G : GD} {p : Nat} {D B : Nat → Option Nat} {S : Nat → Bool} {q : Option (Nat × Nat)} (h : mx G D B S q) : mx (G.addO p) D B S q := by
  cases q with
  | none => exact fun g r h1 h2 h3 h4 => h g r h1 h2 h3 (rl2_addO.mp h4)
  | some w =>
    obtain ⟨b, r⟩ := w
    obtain ⟨a1, a2, a3, x, a4, a5⟩ := h
    exact ⟨a1, a2, rl2_addO.mpr a3, x, a4, fun g y r' h1 h2 h3 h4 => a5 g y r' h1 h2 h3 (rl2_addO.mp h4)⟩
theorem CR.addO {G : GD} {p : Nat} {D B : Nat → Option Nat} : ∀ {n : Nat} {S : Nat → Bool} {Q : Nat → Option Nat}, CR G D B n S Q → CR (G.addO p) D B n S Q := by
  intro n
  induction n with
  | zero => intro S Q t; exact t
  | succ k ih =>
    rintro S Q ⟨S1, Q1, c, r, x, s, e⟩
    exact ⟨S1, Q1, c, ih r, x, cst_addO s, e⟩
theorem MR.addO {G : GD} {p : Nat} {D B : Nat → Option Nat} : ∀ {n : Nat} {S : Nat → Bool} {P : Nat → Option Nat}, MR G D B n S P → MR (G.addO p) D B n S P := by
  intro n
  induction n with
  | zero => intro S P t; exact t
  | succ k ih =>
    rintro S P ⟨S1, P1, c, r, t, x, e1, e2⟩
    exact ⟨S1, P1, c, r, ih t, mx_addO x, e1, e2⟩
theorem ND.addO {G : GD} {D B Q P : Nat → Option Nat} (h : ND G D B Q P) (p : Nat) : ND (G.addO p) D B Q P := by
  obtain ⟨⟨n, S, r, x⟩, ⟨m, S2, r2, x2⟩, h3, h4, h5⟩ := h
  exact ⟨⟨n, S, r.addO, x⟩, ⟨m, S2, r2.addO, mx_addO x2⟩, h3, h4, h5⟩
theorem XI.addO {G : GD} {T : TD} {f : ctF} (h : XI G T f) (p : Nat) : XI (G.addO p) T f := by
  obtain ⟨B, Q, P, lk, hk⟩ := h
  refine ⟨B, Q, P, lk, fun v hv => ?_⟩
  obtain ⟨h1, h2⟩ := hk v hv
  exact ⟨⟨h1.nd.addO p, h1.mo, h1.ql, h1.pl, h1.lea, h1.c14, h1.c15, h1.c28, h1.c29⟩, h2⟩
/-- a node more -/
theorem MF.lt {G : GD} {D B P : Nat → Option Nat} (hb : ∀ g i, B g = some i → i < G.R) (h : MF G D B P) {g i : Nat} (hp : P g = some i) : i < G.R := by
  obtain ⟨n, S, r, -⟩ := h
  obtain ⟨m1, m2⟩ := r.base
  cases e : S g with
  | false => rw [m2 g e] at hp; cases hp
  | true =>
    obtain ⟨S0, oc, h1, h2⟩ := m1 g e
    rw [hp] at h2
    cases eb : B g with
    | none =>
      rw [eb] at h2
      have h2 : some i = oc := h2
      subst h2
      exact h1.2.1
    | some j =>
      rw [eb] at h2
      have h2 : some i = some j := h2
      cases h2
      exact hb g i eb
theorem newND {G : GD} {T : TD} {o a b : Nat} {D B Q P : Nat → Option Nat} (hG : G.ok) (hl : leastC G T o a b D) (hB : ∀ g, q_lst (q_isB G (prG G T o a b) D g) 0 G.R (B g)) (cf : CF G D B Q) (mf : MF G D B P) (non : ∀ g, D g = none ↔ Q g = none) : ND G D B Q P := by
  refine ⟨cf, mf, fun g i h => ?_, fun g => (non g).symm, fun g x h => least_lt8 hG hl h⟩
  have q := hB g
  rw [h] at q
  obtain ⟨-, q2, ⟨⟨q3, y, -, q5⟩, q6⟩, -⟩ := q
  refine ⟨?_, ?_, q6⟩
  · rw [← q3]; exact (hG.ru i q2).1
  · rw [q5]; exact fun z => nomatch z
theorem XI.addN {G : GD} {T : TD} {o a b m : Nat} {C Bn Qn Pn : Nat → Option Nat} {f f' : ctF} (X : XI G T f) (low : lowX T.N f f') (nx : nodeX G C Bn Qn Pn T.N f') (h13 : f' 13 T.N = nI m) (hm : m ≤ T.N) (hor : m = T.N ∨ (f' 13 m = nI m ∧ likeTo f' m T.N 8)) (hno : ∀ j, j < m → ¬ (f' 13 j = nI j ∧ likeTo f' j T.N 8)) : XI G (T.addN o a b C) f' := by
  obtain ⟨B, Q, P, lk, hk⟩ := X.up low
  have old : ∀ v, v < T.N → (likeTo f' v T.N 8 ↔ sameND (T.C v) (B v) C Bn (aOf (f' 12 v)) (aOf (f' 12 T.N))) := fun v hv => likeTo_iff (hk v hv).1 nx
  have none' : ∀ j, j < m → j < T.N → ¬ sameND (T.C j) (B j) C Bn (aOf (f' 12 j)) (aOf (f' 12 T.N)) := by
    intro j hj hjN hs
    obtain ⟨-, h2, h3, h4, h5⟩ := hk j hjN
    have hN0 : lk j < T.N := by omega
    obtain ⟨-, g2, g3, g4, g5⟩ := hk (lk j) hN0
    have e : lk (lk j) = lk j := by
      rcases Nat.lt_or_ge (lk (lk j)) (lk j) with z | z
      · exact absurd (sameND.tr g4 h4) (h5 _ z)
      · omega
    exact hno (lk j) (by omega) ⟨by rw [g2, e], (old (lk j) hN0).mpr (sameND.tr h4 hs)⟩
  have cv : ∀ v, v < T.N → (T.addN o a b C).C v = T.C v := by
    intro v hv
    show va_up T.C T.N C v = T.C v
    exact va_up_ne _ _ (by omega)
  have cn : (T.addN o a b C).C T.N = C := by
    show va_up T.C T.N C T.N = C
    exact va_up_self _ _ _
  refine ⟨va_up B T.N Bn, va_up Q T.N Qn, va_up P T.N Pn, va_up lk T.N m, fun v hv => ?_⟩
  have hv1 : v < T.N + 1 := hv
  unfold XL
  by_cases e : v = T.N
  · have eB : va_up B T.N Bn v = Bn := by rw [e]; exact va_up_self _ _ _
    have eQ : va_up Q T.N Qn v = Qn := by rw [e]; exact va_up_self _ _ _
    have eP : va_up P T.N Pn v = Pn := by rw [e]; exact va_up_self _ _ _
    have el : va_up lk T.N m v = m := by rw [e]; exact va_up_self _ _ _
    have eC : (T.addN o a b C).C v = C := by rw [e]; exact cn
    rw [eB, eQ, eP, el, eC, e]
    refine ⟨nx, h13, hm, ?_, fun j hj => ?_⟩
    · rcases Nat.lt_or_ge m T.N with z | z
      · rw [cv m z, va_up_ne _ _ (show m ≠ T.N by omega)]
        rcases hor with y | y
        · omega
        · exact (old m z).mp y.2
      · have em : m = T.N := by omega
        rw [em, cn, va_up_self]
        exact sameND.rf _ _ _
    · rw [cv j (by omega), va_up_ne _ _ (show j ≠ T.N by omega)]
      exact none' j hj (by omega)
  · have hv2 : v < T.N := by omega
    obtain ⟨h1, h2, h3, h4, h5⟩ := hk v hv2
    have eB : va_up B T.N Bn v = B v := va_up_ne _ _ e
    have eQ : va_up Q T.N Qn v = Q v := va_up_ne _ _ e
    have eP : va_up P T.N Pn v = P v := va_up_ne _ _ e
    have el : va_up lk T.N m v = lk v := va_up_ne _ _ e
    rw [eB, eQ, eP, el, cv v hv2, cv (lk v) (by omega), va_up_ne _ _ (show lk v ≠ T.N by omega)]
    refine ⟨h1, h2, h3, h4, fun j hj => ?_⟩
    rw [cv j (by omega), va_up_ne _ _ (show j ≠ T.N by omega)]
    exact h5 j hj
/-- the reference's like and states -/
theorem wm_likeOf2 {post : Int32 → ctN → ctF → Prop} {n : ctN} {f : ctF} {G : GD} {T : TD} {B Q P : Nat → Nat → Option Nat} {lk : Nat → Nat} (hT : T.ok G) (hk : XK G T f B Q P lk) {v : Nat} (hv : v < T.N) (h : post (nI (lk v)) n f) : wp_M_likeOf post (nI v) n f := by
  have hN := hT.N120
  obtain ⟨x, h2, h3, h4, h5⟩ := hk v hv
  have loop : ∀ (d m : Nat), lk v = m + d → wp_M_likeOf_L2 post (d + 1) (nI v) (nI m) n f := by
    intro d
    induction d with
    | zero =>
      intro m hd
      have e : lk v = m := hd
      obtain ⟨y, -⟩ := hk m (by omega)
      rw [wp_M_likeOf_L2]
      refine wm_isAlike2 (C := T.C v) (C' := T.C m) (by omega) (by omega) x.c28 (fun g z hz => by have := x.mo g z hz; omega) y.c28 (fun g z hz => by have := y.mo g z hz; omega) x.lea y.lea (fun _ => ⟨fun _ => ?_, fun z => absurd z (by decide)⟩) (fun hn => absurd ((likeM_iff x y).mpr ?_) hn)
      · rw [← e]; exact h
      · rw [← e]; exact h4.sy
    | succ d ih =>
      intro m hd
      obtain ⟨y, -⟩ := hk m (by omega)
      rw [wp_M_likeOf_L2]
      refine wm_isAlike2 (C := T.C v) (C' := T.C m) (by omega) (by omega) x.c28 (fun g z hz => by have := x.mo g z hz; omega) y.c28 (fun g z hz => by have := y.mo g z hz; omega) x.lea y.lea (fun hy => absurd ((likeM_iff x y).mp hy).sy (h5 m (by omega))) (fun _ => ⟨fun z => absurd rfl z, fun _ => ?_⟩)
      rintro _ rfl
      rw [nI_1]
      exact ih (m + 1) (by omega)
  unfold wp_M_likeOf
  refine ⟨lk v + 1, ?_⟩
  have q := loop (lk v) 0 (by omega)
  rw [nI_0] at q
  exact q
theorem wm_states2 {post : Int32 → ctN → ctF → Prop} {n : ctN} {f : ctF} {G : GD} {T : TD} {B Q P : Nat → Nat → Option Nat} {lk : Nat → Nat} (hT : T.ok G) (hN : n 6 = nI T.N) (hk : XK G T f B Q P lk) (h : post (nI (q_sm (fun v => if f 13 v = nI v then 1 else 0) T.N)) (va_up n 3 0) f) : wp_M_states post n f := by
  have hN120 := hT.N120
  have hN2 : va_up n 3 0 6 = nI T.N := by rw [va_up_ne _ _ (by decide)]; exact hN
  have loop : ∀ (d m : Nat), T.N = m + d → wp_M_states_L9 post (d + 1) (nI (q_sm (fun v => if f 13 v = nI v then 1 else 0) m)) (nI m) (va_up n 3 0) f := by
    intro d
    induction d with
    | zero =>
      intro m hd
      have e : m = T.N := by omega
      rw [wp_M_states_L9, hN2, e]
      exact ⟨fun _ => h, fun z => absurd (nI_le (Nat.le_refl T.N) (by omega)) z⟩
    | succ d ih =>
      intro m hd
      have hm : m < T.N := by omega
      obtain ⟨-, h2, -⟩ := hk m hm
      have q := ih (m + 1) (by omega)
      rw [q_sm] at q
      rw [wp_M_states_L9, hN2]
      refine ⟨fun z => absurd z (nI_ge hm (by omega)), fun _ => wm_likeOf2 hT hk hm ⟨fun c => ?_, fun c => ?_⟩⟩
      · rintro _ rfl
        rw [nI_1]
        rw [if_neg (by rw [h2]; exact c)] at q
        exact q
      · rintro _ rfl _ rfl
        rw [nI_1, nI_1]
        rw [if_pos (by rw [h2]; exact c)] at q
        exact q
  unfold wp_M_states
  rintro _ rfl
  refine ⟨T.N + 1, ?_⟩
  have q := loop T.N 0 (by omega)
  rw [nI_0] at q
  exact q
