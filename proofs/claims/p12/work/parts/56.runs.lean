/-! the settling of both sides as runs over the costs: what they leave is one, and one for costs that are shifted alike -/
def Att (G : GD) (D : Nat → Option Nat) (g i : Nat) : Prop := G.go i = g ∧ chG G i = true ∧ ∃ x, D (G.g1 i) = some x ∧ D g = some (x + G.co i)
def relA (D E : Nat → Option Nat) (a b : Nat) : Prop := ∀ g, (D g = none ↔ E g = none) ∧ ∀ x y, D g = some x → E g = some y → x + b = y + a
theorem relA.sy {D E : Nat → Option Nat} {a b : Nat} (h : relA D E a b) : relA E D b a := fun g => ⟨(h g).1.symm, fun x y hx hy => by have := (h g).2 y x hy hx; omega⟩
theorem relA.tr {D E F : Nat → Option Nat} {a b c : Nat} (h : relA D E a b) (h2 : relA E F b c) : relA D F a c := fun g => ⟨(h g).1.trans (h2 g).1, fun x y hx hy => by
  cases e : E g with
  | none => rw [(h g).1.mpr e] at hx; cases hx
  | some z =>
    have h3 := (h g).2 x z hx e
    have h4 := (h2 g).2 z y e hy
    omega⟩
theorem relA.rf (D : Nat → Option Nat) (a : Nat) : relA D D a a := fun g => ⟨Iff.rfl, fun x y hx hy => by rw [hx] at hy; cases hy; rfl⟩
theorem relA.some {D E : Nat → Option Nat} {a b : Nat} (h : relA D E a b) {g x : Nat} (hx : D g = some x) : ∃ y, E g = some y ∧ x + b = y + a := by
  cases e : E g with
  | none => rw [(h g).1.mpr e] at hx; cases hx
  | some y => exact ⟨y, rfl, (h g).2 x y hx e⟩
theorem Att.rel {G : GD} {D E : Nat → Option Nat} {a b g i : Nat} (h : relA D E a b) (t : Att G D g i) : Att G E g i := by
  obtain ⟨h1, h2, x, h3, h4⟩ := t
  obtain ⟨y, hy, e1⟩ := h.some h3
  obtain ⟨z, hz, e2⟩ := h.some h4
  exact ⟨h1, h2, y, hy, by rw [hz]; congr 1; omega⟩
theorem lst_iff {P Q : Nat → Prop} {lo R : Nat} {o : Option Nat} (h : ∀ i, P i ↔ Q i) (t : q_lst P lo R o) : q_lst Q lo R o := by
  cases o with
  | none => exact fun i h1 h2 h3 => t i h1 h2 ((h i).mpr h3)
  | some i => exact ⟨t.1, t.2.1, (h i).mp t.2.2.1, fun j h1 h2 h3 => t.2.2.2 j h1 h2 ((h j).mpr h3)⟩
/-- the class's next goal, its rules after that -/
def cx (D Q : Nat → Option Nat) (S : Nat → Bool) (q : Option Nat) : Prop := match q with
  | none => ∀ g, g < 8 → S g = false → Q g = none
  | some b => b < 8 ∧ S b = false ∧ ¬ Q b = none ∧ ∃ x, D b = some x ∧ ∀ g y, g < 8 → S g = false → ¬ Q g = none → D g = some y → x ≤ y ∧ (y = x → b ≤ g)
def cst (G : GD) (D : Nat → Option Nat) (b : Nat) (Q Q' : Nat → Option Nat) : Prop := ∀ g, (∀ i, Q g = some i → Q' g = some i) ∧ (Q g = none → q_lst (fun i => Att G D g i ∧ G.g1 i = b) 0 G.R (Q' g))
def CR (G : GD) (D B : Nat → Option Nat) : Nat → (Nat → Bool) → (Nat → Option Nat) → Prop
  | 0, S, Q => S = (fun _ => false) ∧ Q = B
  | n + 1, S', Q' => ∃ S Q b, CR G D B n S Q ∧ cx D Q S (some b) ∧ cst G D b Q Q' ∧ S' = va_up S b true
theorem CR.nil {G : GD} {D B : Nat → Option Nat} : CR G D B 0 (fun _ => false) B := ⟨rfl, rfl⟩
theorem CR.cons {G : GD} {D B : Nat → Option Nat} {n : Nat} {S : Nat → Bool} {Q Q' : Nat → Option Nat} {b : Nat} (r : CR G D B n S Q) (x : cx D Q S (some b)) (s : cst G D b Q Q') : CR G D B (n + 1) (va_up S b true) Q' := ⟨S, Q, b, r, x, s, rfl⟩
def CF (G : GD) (D B Q : Nat → Option Nat) : Prop := ∃ n S, CR G D B n S Q ∧ cx D Q S none
theorem cx_no {D Q : Nat → Option Nat} {S : Nat → Bool} {b : Nat} (h1 : cx D Q S none) (h2 : cx D Q S (some b)) : False := h2.2.2.1 (h1 b h2.1 h2.2.1)
theorem cx_one {D Q : Nat → Option Nat} {S : Nat → Bool} {b c : Nat} (h1 : cx D Q S (some b)) (h2 : cx D Q S (some c)) : b = c := by
  obtain ⟨a1, a2, a3, x, a4, a5⟩ := h1
  obtain ⟨b1, b2, b3, y, b4, b5⟩ := h2
  have p := a5 c y b1 b2 b3 b4
  have q := b5 b x a1 a2 a3 a4
  have e : x = y := by omega
  have := p.2 e.symm
  have := q.2 e
  omega
theorem cst_one {G : GD} {D : Nat → Option Nat} {b : Nat} {Q Q1 Q2 : Nat → Option Nat} (h1 : cst G D b Q Q1) (h2 : cst G D b Q Q2) : Q1 = Q2 := by
  funext g
  cases e : Q g with
  | none => exact lst_one ((h1 g).2 e) ((h2 g).2 e)
  | some i => rw [(h1 g).1 i e, (h2 g).1 i e]
theorem CR.one {G : GD} {D B : Nat → Option Nat} : ∀ {n : Nat} {S S2 : Nat → Bool} {Q Q2 : Nat → Option Nat}, CR G D B n S Q → CR G D B n S2 Q2 → S = S2 ∧ Q = Q2 := by
  intro n
  induction n with
  | zero =>
    rintro S S2 Q Q2 ⟨h1, h2⟩ ⟨h3, h4⟩
    exact ⟨h1.trans h3.symm, h2.trans h4.symm⟩
  | succ n ih =>
    rintro S S2 Q Q2 ⟨S1, Q1, b, r1, c1, s1, e1⟩ ⟨S3, Q3, b3, r2, c2, s2, e2⟩
    obtain ⟨e3, e4⟩ := ih r1 r2
    subst e3 e4
    have e5 := cx_one c1 c2
    subst e5
    exact ⟨e1.trans e2.symm, cst_one s1 s2⟩
theorem CR.cut {G : GD} {D B : Nat → Option Nat} {n : Nat} : ∀ {m : Nat} {S : Nat → Bool} {Q : Nat → Option Nat}, CR G D B m S Q → n < m → ∃ S0 Q0 b, CR G D B n S0 Q0 ∧ cx D Q0 S0 (some b) := by
  intro m
  induction m with
  | zero => intro S Q _ hn; exact absurd hn (Nat.not_lt_zero _)
  | succ k ih =>
    rintro S Q ⟨S1, Q1, b, r, c, -, -⟩ hn
    rcases Nat.lt_or_ge n k with z | z
    · exact ih r z
    · have e : n = k := by omega
      subst e
      exact ⟨S1, Q1, b, r, c⟩
theorem CF.one {G : GD} {D B Q Q2 : Nat → Option Nat} (h1 : CF G D B Q) (h2 : CF G D B Q2) : Q = Q2 := by
  obtain ⟨n, S, r1, f1⟩ := h1
  obtain ⟨m, S2, r2, f2⟩ := h2
  rcases Nat.lt_trichotomy n m with z | z | z
  · obtain ⟨S0, Q0, b, r0, c0⟩ := r2.cut z
    obtain ⟨e1, e2⟩ := r1.one r0
    subst e1 e2
    exact (cx_no f1 c0).elim
  · subst z
    exact (r1.one r2).2
  · obtain ⟨S0, Q0, b, r0, c0⟩ := r1.cut z
    obtain ⟨e1, e2⟩ := r2.one r0
    subst e1 e2
    exact (cx_no f2 c0).elim
theorem cx.rel {D E Q : Nat → Option Nat} {S : Nat → Bool} {a b : Nat} (h : relA D E a b) {q : Option Nat} (t : cx D Q S q) : cx E Q S q := by
  cases q with
  | none => exact t
  | some c =>
    obtain ⟨a1, a2, a3, x, a4, a5⟩ := t
    obtain ⟨x', e1, e2⟩ := h.some a4
    refine ⟨a1, a2, a3, x', e1, fun g y hg hs hq hy => ?_⟩
    obtain ⟨y', f1, f2⟩ := h.sy.some hy
    have := a5 g y' hg hs hq f1
    exact ⟨by omega, fun z => this.2 (by omega)⟩
theorem CR.rel {G : GD} {D E B : Nat → Option Nat} {a b : Nat} (h : relA D E a b) : ∀ {n : Nat} {S : Nat → Bool} {Q : Nat → Option Nat}, CR G D B n S Q → CR G E B n S Q := by
  intro n
  induction n with
  | zero => intro S Q t; exact t
  | succ k ih =>
    rintro S Q ⟨S1, Q1, c, r, x, s, e⟩
    exact ⟨S1, Q1, c, ih r, x.rel h, fun g => ⟨(s g).1, fun z => lst_iff (fun i => ⟨fun w => ⟨w.1.rel h, w.2⟩, fun w => ⟨w.1.rel h.sy, w.2⟩⟩) ((s g).2 z)⟩, e⟩
theorem CF.rel {G : GD} {D E B Q : Nat → Option Nat} {a b : Nat} (h : relA D E a b) (t : CF G D B Q) : CF G E B Q := by
  obtain ⟨n, S, r, f⟩ := t
  exact ⟨n, S, r.rel h, f.rel h⟩
theorem CR.base {G : GD} {D B : Nat → Option Nat} : ∀ {n : Nat} {S : Nat → Bool} {Q : Nat → Option Nat}, CR G D B n S Q → (∀ g i, B g = some i → Q g = some i) ∧ ∀ g i, B g = none → Q g = some i → chG G i = true := by
  intro n
  induction n with
  | zero =>
    rintro S Q ⟨-, e⟩
    rw [e]
    exact ⟨fun _ _ h => h, fun g i h1 h2 => by rw [h1] at h2; cases h2⟩
  | succ k ih =>
    rintro S Q ⟨S1, Q1, c, r, x, s, -⟩
    obtain ⟨i1, i2⟩ := ih r
    refine ⟨fun g i h => (s g).1 i (i1 g i h), fun g i h1 h2 => ?_⟩
    cases e : Q1 g with
    | none =>
      have := (s g).2 e
      rw [h2] at this
      exact this.2.2.1.1.2.1
    | some j =>
      have := (s g).1 j e
      rw [h2] at this
      cases this
      exact i2 g i h1 e
/-- the reference's next goal and its rule -/
def rl2 (G : GD) (D B : Nat → Option Nat) (S : Nat → Bool) (g : Nat) (o : Option Nat) : Prop := ∃ oc, q_lst (fun i => Att G D g i ∧ S (G.g1 i) = true) 0 G.R oc ∧ o = (match B g with
  | none => oc
  | some b => some b)
def mx (G : GD) (D B : Nat → Option Nat) (S : Nat → Bool) (q : Option (Nat × Nat)) : Prop := match q with
  | none => ∀ g r, g < 8 → S g = false → ¬ D g = none → ¬ rl2 G D B S g (some r)
  | some (b, r) => b < 8 ∧ S b = false ∧ rl2 G D B S b (some r) ∧ ∃ x, D b = some x ∧ ∀ g y r', g < 8 → S g = false → D g = some y → rl2 G D B S g (some r') → x ≤ y ∧ (y = x → b ≤ g)
def MR (G : GD) (D B : Nat → Option Nat) : Nat → (Nat → Bool) → (Nat → Option Nat) → Prop
  | 0, S, P => S = (fun _ => false) ∧ P = (fun _ => none)
  | n + 1, S', P' => ∃ S P b r, MR G D B n S P ∧ mx G D B S (some (b, r)) ∧ S' = va_up S b true ∧ P' = va_up P b (some r)
theorem MR.nil {G : GD} {D B : Nat → Option Nat} : MR G D B 0 (fun _ => false) (fun _ => none) := ⟨rfl, rfl⟩
theorem MR.cons {G : GD} {D B : Nat → Option Nat} {n : Nat} {S : Nat → Bool} {P : Nat → Option Nat} {b r : Nat} (t : MR G D B n S P) (x : mx G D B S (some (b, r))) : MR G D B (n + 1) (va_up S b true) (va_up P b (some r)) := ⟨S, P, b, r, t, x, rfl, rfl⟩
def MF (G : GD) (D B P : Nat → Option Nat) : Prop := ∃ n S, MR G D B n S P ∧ mx G D B S none
theorem rl2_one {G : GD} {D B : Nat → Option Nat} {S : Nat → Bool} {g : Nat} {a b : Option Nat} (h1 : rl2 G D B S g a) (h2 : rl2 G D B S g b) : a = b := by
  obtain ⟨y, hy, rfl⟩ := h1
  obtain ⟨y2, hy2, rfl⟩ := h2
  rw [lst_one hy hy2]
theorem mx_no {G : GD} {D B : Nat → Option Nat} {S : Nat → Bool} {p : Nat × Nat} (h1 : mx G D B S none) (h2 : mx G D B S (some p)) : False := by
  obtain ⟨b, r⟩ := p
  obtain ⟨a1, a2, a3, x, a4, -⟩ := h2
  exact h1 b r a1 a2 (by rw [a4]; exact fun z => nomatch z) a3
theorem mx_one {G : GD} {D B : Nat → Option Nat} {S : Nat → Bool} {b r c s : Nat} (h1 : mx G D B S (some (b, r))) (h2 : mx G D B S (some (c, s))) : b = c ∧ r = s := by
  obtain ⟨a1, a2, a3, x, a4, a5⟩ := h1
  obtain ⟨b1, b2, b3, y, b4, b5⟩ := h2
  have p := a5 c y s b1 b2 b4 b3
  have q := b5 b x r a1 a2 a4 a3
  have e : x = y := by omega
  have := p.2 e.symm
  have := q.2 e
  have e2 : b = c := by omega
  subst e2
  exact ⟨rfl, Option.some.inj (rl2_one a3 b3)⟩
theorem MR.one {G : GD} {D B : Nat → Option Nat} : ∀ {n : Nat} {S S2 : Nat → Bool} {P P2 : Nat → Option Nat}, MR G D B n S P → MR G D B n S2 P2 → S = S2 ∧ P = P2 := by
  intro n
  induction n with
  | zero =>
    rintro S S2 P P2 ⟨h1, h2⟩ ⟨h3, h4⟩
    exact ⟨h1.trans h3.symm, h2.trans h4.symm⟩
  | succ n ih =>
    rintro S S2 P P2 ⟨S1, P1, b, r, r1, c1, e1, f1⟩ ⟨S3, P3, b3, s, r2, c2, e2, f2⟩
    obtain ⟨e3, e4⟩ := ih r1 r2
    subst e3 e4
    obtain ⟨e5, e6⟩ := mx_one c1 c2
    subst e5 e6
    exact ⟨e1.trans e2.symm, f1.trans f2.symm⟩
theorem MR.cut {G : GD} {D B : Nat → Option Nat} {n : Nat} : ∀ {m : Nat} {S : Nat → Bool} {P : Nat → Option Nat}, MR G D B m S P → n < m → ∃ S0 P0 p, MR G D B n S0 P0 ∧ mx G D B S0 (some p) := by
  intro m
  induction m with
  | zero => intro S P _ hn; exact absurd hn (Nat.not_lt_zero _)
  | succ k ih =>
    rintro S P ⟨S1, P1, b, r, t, c, -, -⟩ hn
    rcases Nat.lt_or_ge n k with z | z
    · exact ih t z
    · have e : n = k := by omega
      subst e
      exact ⟨S1, P1, (b, r), t, c⟩
theorem MF.one {G : GD} {D B P P2 : Nat → Option Nat} (h1 : MF G D B P) (h2 : MF G D B P2) : P = P2 := by
  obtain ⟨n, S, r1, f1⟩ := h1
  obtain ⟨m, S2, r2, f2⟩ := h2
  rcases Nat.lt_trichotomy n m with z | z | z
  · obtain ⟨S0, Q0, b, r0, c0⟩ := r2.cut z
    obtain ⟨e1, e2⟩ := r1.one r0
    subst e1 e2
    exact (mx_no f1 c0).elim
  · subst z
    exact (r1.one r2).2
  · obtain ⟨S0, Q0, b, r0, c0⟩ := r1.cut z
    obtain ⟨e1, e2⟩ := r2.one r0
    subst e1 e2
    exact (mx_no f2 c0).elim
theorem rl2.rel {G : GD} {D E B : Nat → Option Nat} {S : Nat → Bool} {a b g : Nat} {o : Option Nat} (h : relA D E a b) (t : rl2 G D B S g o) : rl2 G E B S g o := by
  obtain ⟨oc, h1, h2⟩ := t
  exact ⟨oc, lst_iff (fun i => ⟨fun w => ⟨w.1.rel h, w.2⟩, fun w => ⟨w.1.rel h.sy, w.2⟩⟩) h1, h2⟩
theorem mx.rel {G : GD} {D E B : Nat → Option Nat} {S : Nat → Bool} {a b : Nat} (h : relA D E a b) {q : Option (Nat × Nat)} (t : mx G D B S q) : mx G E B S q := by
  cases q with
  | none => exact fun g r h1 h2 h3 h4 => t g r h1 h2 (fun z => h3 ((h g).1.mp z)) (h4.rel h.sy)
  | some p =>
    obtain ⟨c, r⟩ := p
    obtain ⟨a1, a2, a3, x, a4, a5⟩ := t
    obtain ⟨x', e1, e2⟩ := h.some a4
    refine ⟨a1, a2, a3.rel h, x', e1, fun g y r' hg hs hy hr => ?_⟩
    obtain ⟨y', f1, f2⟩ := h.sy.some hy
    have := a5 g y' r' hg hs f1 (hr.rel h.sy)
    exact ⟨by omega, fun z => this.2 (by omega)⟩
theorem MR.rel {G : GD} {D E B : Nat → Option Nat} {a b : Nat} (h : relA D E a b) : ∀ {n : Nat} {S : Nat → Bool} {P : Nat → Option Nat}, MR G D B n S P → MR G E B n S P := by
  intro n
  induction n with
  | zero => intro S P t; exact t
  | succ k ih =>
    rintro S P ⟨S1, P1, c, r, t, x, e1, e2⟩
    exact ⟨S1, P1, c, r, ih t, x.rel h, e1, e2⟩
theorem MF.rel {G : GD} {D E B P : Nat → Option Nat} {a b : Nat} (h : relA D E a b) (t : MF G D B P) : MF G E B P := by
  obtain ⟨n, S, r, f⟩ := t
  exact ⟨n, S, r.rel h, f.rel h⟩
theorem MR.base {G : GD} {D B : Nat → Option Nat} : ∀ {n : Nat} {S : Nat → Bool} {P : Nat → Option Nat}, MR G D B n S P → (∀ g, S g = true → ∃ S0, rl2 G D B S0 g (P g)) ∧ ∀ g, S g = false → P g = none := by
  intro n
  induction n with
  | zero =>
    rintro S P ⟨e1, e2⟩
    rw [e1, e2]
    exact ⟨(fun _ z => nomatch z), fun _ _ => rfl⟩
  | succ k ih =>
    rintro S P ⟨S1, P1, b, r, t, c, e1, e2⟩
    obtain ⟨i1, i2⟩ := ih t
    rw [e1, e2]
    refine ⟨fun g hg => ?_, fun g hg => ?_⟩
    · by_cases e : g = b
      · subst e
        rw [va_up_self]
        exact ⟨S1, c.2.2.1⟩
      · rw [va_up_ne _ _ e] at hg ⊢
        exact i1 g hg
    · by_cases e : g = b
      · subst e; rw [va_up_self] at hg; cases hg
      · rw [va_up_ne _ _ e] at hg ⊢
        exact i2 g hg
/-- what is known of a node: its costs, its base rules, the class's rules, the reference's -/
def ND (G : GD) (D B Q P : Nat → Option Nat) : Prop := (CF G D B Q) ∧ (MF G D B P) ∧ (∀ g i, B g = some i → g < 8 ∧ ¬ D g = none ∧ chG G i = false) ∧ (∀ g, Q g = none ↔ D g = none) ∧ (∀ g x, D g = some x → g < 8)
theorem ND.cf {G : GD} {D B Q P : Nat → Option Nat} (h : ND G D B Q P) : CF G D B Q := h.1
theorem ND.mf {G : GD} {D B Q P : Nat → Option Nat} (h : ND G D B Q P) : MF G D B P := h.2.1
theorem ND.bD {G : GD} {D B Q P : Nat → Option Nat} (h : ND G D B Q P) : ∀ g i, B g = some i → g < 8 ∧ ¬ D g = none ∧ chG G i = false := h.2.2.1
theorem ND.qD {G : GD} {D B Q P : Nat → Option Nat} (h : ND G D B Q P) : ∀ g, Q g = none ↔ D g = none := h.2.2.2.1
theorem ND.d8 {G : GD} {D B Q P : Nat → Option Nat} (h : ND G D B Q P) : ∀ g x, D g = some x → g < 8 := h.2.2.2.2
theorem ND.p1 {G : GD} {D B Q P : Nat → Option Nat} (h : ND G D B Q P) {g i : Nat} (hb : B g = some i) : P g = some i := by
  obtain ⟨n, S, r, f⟩ := h.mf
  obtain ⟨b1, b2, b3⟩ := h.bD g i hb
  obtain ⟨m1, m2⟩ := r.base
  have hs : S g = true := by
    cases e : S g with
    | true => rfl
    | false =>
      exfalso
      -- a base rule is there: the goal could be settled
      have hex : ∃ oc, q_lst (fun i => Att G D g i ∧ S (G.g1 i) = true) 0 G.R oc := by
        have : ∀ (Pp : Nat → Prop) (R : Nat), ∃ oc, q_lst Pp 0 R oc := by
          intro Pp R
          induction R with
          | zero => exact ⟨none, fun i _ h2 => absurd h2 (Nat.not_lt_zero _)⟩
          | succ R ih =>
            obtain ⟨oc, hoc⟩ := ih
            cases oc with
            | some j => exact ⟨some j, hoc.1, Nat.lt_succ_of_lt hoc.2.1, hoc.2.2.1, hoc.2.2.2⟩
            | none =>
              by_cases z : Pp R
              · exact ⟨some R, Nat.zero_le _, Nat.lt_succ_self _, z, fun j h1 h2 => hoc j h1 h2⟩
              · refine ⟨none, fun j h1 h2 h3 => ?_⟩
                by_cases e2 : j = R
                · subst e2; exact z h3
                · exact hoc j h1 (by omega) h3
        exact this _ _
      obtain ⟨oc, hoc⟩ := hex
      exact f g i b1 e b2 ⟨oc, hoc, by rw [hb]⟩
  obtain ⟨S0, oc, h1, h2⟩ := m1 g hs
  rw [hb] at h2
  exact h2
theorem ND.p2 {G : GD} {D B Q P : Nat → Option Nat} (h : ND G D B Q P) {g i : Nat} (hb : B g = none) (hp : P g = some i) : chG G i = true := by
  obtain ⟨n, S, r, f⟩ := h.mf
  obtain ⟨m1, m2⟩ := r.base
  have hs : S g = true := by
    cases e : S g with
    | true => rfl
    | false => rw [m2 g e] at hp; cases hp
  obtain ⟨S0, oc, h1, h2⟩ := m1 g hs
  rw [hb, hp] at h2
  have h2 : some i = oc := h2
  subst h2
  exact h1.2.2.1.1.2.1
def sameND (D B E B' : Nat → Option Nat) (a b : Nat) : Prop := relA D E a b ∧ B = B'
theorem eq_of_lt8 {G : GD} {D B Q P E B' Q' P' : Nat → Option Nat} (h : ND G D B Q P) (h' : ND G E B' Q' P') (e : ∀ g, g < 8 → ∀ i, (B g = some i → B' g = some i) ∧ (B' g = some i → B g = some i)) : B = B' := by
  funext g
  cases z : B g with
  | some i => exact ((e g (h.bD g i z).1 i).1 z).symm
  | none =>
    cases z' : B' g with
    | none => rfl
    | some i => rw [(e g (h'.bD g i z').1 i).2 z'] at z; cases z
theorem rel_of {G : GD} {D B Q P E B' Q' P' : Nat → Option Nat} {a b : Nat} (h : ND G D B Q P) (h' : ND G E B' Q' P') (e : ∀ g, g < 8 → (D g = none ↔ E g = none) ∧ (D g = none ∨ ∃ x y, D g = some x ∧ E g = some y ∧ x + b = y + a)) : relA D E a b := by
  intro g
  by_cases hg : g < 8
  · refine ⟨(e g hg).1, fun x y hx hy => ?_⟩
    rcases (e g hg).2 with z | ⟨x2, y2, z1, z2, z3⟩
    · rw [z] at hx; cases hx
    · rw [hx] at z1; cases z1
      rw [hy] at z2; cases z2
      exact z3
  · have n1 : D g = none := by
      cases z : D g with
      | none => rfl
      | some x => exact absurd (h.d8 g x z) hg
    have n2 : E g = none := by
      cases z : E g with
      | none => rfl
      | some x => exact absurd (h'.d8 g x z) hg
    exact ⟨⟨fun _ => n2, fun _ => n1⟩, fun x y hx => by rw [n1] at hx; cases hx⟩
theorem alikeC {G : GD} {D B Q P E B' Q' P' : Nat → Option Nat} {a b : Nat} (h : ND G D B Q P) (h' : ND G E B' Q' P') : sameND D B E B' a b ↔ ∀ g, g < 8 → Q g = Q' g ∧ (Q g = none ∨ ∃ x y, D g = some x ∧ E g = some y ∧ x + b = y + a) := by
  constructor
  · rintro ⟨h1, rfl⟩ g hg
    have e : Q = Q' := (h.cf.rel h1).one h'.cf
    refine ⟨by rw [e], ?_⟩
    cases z : D g with
    | none => exact Or.inl ((h.qD g).mpr z)
    | some x =>
      obtain ⟨y, hy, e2⟩ := h1.some z
      exact Or.inr ⟨x, y, rfl, hy, e2⟩
  · intro e
    have hr : relA D E a b := rel_of h h' (fun g hg => by
      obtain ⟨e1, e2⟩ := e g hg
      refine ⟨by rw [← h.qD g, ← h'.qD g, e1], ?_⟩
      rcases e2 with z | z
      · exact Or.inl ((h.qD g).mp z)
      · exact Or.inr z)
    refine ⟨hr, eq_of_lt8 h h' (fun g hg i => ?_)⟩
    obtain ⟨n, S, r, f⟩ := h.cf
    obtain ⟨n', S', r', f'⟩ := h'.cf
    obtain ⟨c1, c2⟩ := r.base
    obtain ⟨d1, d2⟩ := r'.base
    obtain ⟨e1, -⟩ := e g hg
    constructor
    · intro z
      have q1 := c1 g i z
      rw [e1] at q1
      cases w : B' g with
      | none =>
        have := d2 g i w q1
        rw [(h.bD g i z).2.2] at this
        cases this
      | some j =>
        have := d1 g j w
        rw [q1] at this
        cases this
        rfl
    · intro z
      have q1 := d1 g i z
      rw [← e1] at q1
      cases w : B g with
      | none =>
        have := c2 g i w q1
        rw [(h'.bD g i z).2.2] at this
        cases this
      | some j =>
        have := c1 g j w
        rw [q1] at this
        cases this
        rfl
theorem alikeM {G : GD} {D B Q P E B' Q' P' : Nat → Option Nat} {a b : Nat} (h : ND G D B Q P) (h' : ND G E B' Q' P') : sameND D B E B' a b ↔ ∀ g, g < 8 → (D g = none ↔ E g = none) ∧ (D g = none ∨ (∃ x y, D g = some x ∧ E g = some y ∧ x + b = y + a) ∧ P g = P' g) := by
  constructor
  · rintro ⟨h1, rfl⟩ g hg
    have e : P = P' := (h.mf.rel h1).one h'.mf
    refine ⟨(h1 g).1, ?_⟩
    cases z : D g with
    | none => exact Or.inl rfl
    | some x =>
      obtain ⟨y, hy, e2⟩ := h1.some z
      exact Or.inr ⟨⟨x, y, rfl, hy, e2⟩, by rw [e]⟩
  · intro e
    have hr : relA D E a b := rel_of h h' (fun g hg => by
      obtain ⟨e1, e2⟩ := e g hg
      refine ⟨e1, ?_⟩
      rcases e2 with z | z
      · exact Or.inl z
      · exact Or.inr z.1)
    refine ⟨hr, eq_of_lt8 h h' (fun g hg i => ?_)⟩
    obtain ⟨e1, e2⟩ := e g hg
    constructor
    · intro z
      obtain ⟨z1, z2, z3⟩ := h.bD g i z
      have q1 := h.p1 z
      rcases e2 with w | ⟨-, w⟩
      · exact absurd w z2
      · rw [w] at q1
        cases u : B' g with
        | none =>
          have := h'.p2 u q1
          rw [z3] at this; cases this
        | some j =>
          have := h'.p1 u
          rw [q1] at this
          cases this
          rfl
    · intro z
      obtain ⟨z1, z2, z3⟩ := h'.bD g i z
      have q1 := h'.p1 z
      rcases e2 with w | ⟨-, w⟩
      · exact absurd (e1.mp w) z2
      · rw [← w] at q1
        cases u : B g with
        | none =>
          have := h.p2 u q1
          rw [z3] at this; cases this
        | some j =>
          have := h.p1 u
          rw [q1] at this
          cases this
          rfl
