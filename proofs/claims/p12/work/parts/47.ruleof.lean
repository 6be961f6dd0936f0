/-! the reference's ruleOf and settle -/
def q_lst (P : Nat → Prop) (lo R : Nat) (o : Option Nat) : Prop := match o with
  | none => ∀ i, lo ≤ i → i < R → ¬ P i
  | some i => lo ≤ i ∧ i < R ∧ P i ∧ ∀ j, lo ≤ j → j < i → ¬ P j
theorem lst_keep {P : Nat → Prop} {lo R : Nat} {o : Option Nat} (h : q_lst P (lo + 1) R o) (hn : ¬ P lo) : q_lst P lo R o := by
  cases o with
  | none =>
    intro i h1 h2
    by_cases e : i = lo
    · subst e; exact hn
    · exact h i (by omega) h2
  | some i =>
    obtain ⟨h1, h2, h3, h4⟩ := h
    refine ⟨by omega, h2, h3, fun j h5 h6 => ?_⟩
    by_cases e : j = lo
    · subst e; exact hn
    · exact h4 j (by omega) h6
theorem lst_new {P : Nat → Prop} {lo R : Nat} (h : P lo) (hR : lo < R) : q_lst P lo R (some lo) := ⟨Nat.le_refl _, hR, h, fun j h1 h2 => by omega⟩
/-- a rule by which the node costs what it costs as the goal g -/
def okR (G : GD) (pr D : Nat → Option Nat) (g i : Nat) : Prop := G.go i = g ∧ ∃ y, byR (chG G) G.g1 G.co pr D i = some y ∧ D g = some y
def q_isB (G : GD) (pr D : Nat → Option Nat) (g i : Nat) : Prop := okR G pr D g i ∧ chG G i = false
def isH (G : GD) (pr D : Nat → Option Nat) (S : Nat → Bool) (g i : Nat) : Prop := okR G pr D g i ∧ chG G i = true ∧ S (G.g1 i) = true
def rl (G : GD) (pr D : Nat → Option Nat) (S : Nat → Bool) (g : Nat) (o : Option Nat) : Prop := ∃ ob oc, q_lst (q_isB G pr D g) 0 G.R ob ∧ q_lst (isH G pr D S g) 0 G.R oc ∧ o = (match ob with
  | none => oc
  | some b => some b)
def flagM (f : ctF) (S : Nat → Bool) : Prop := ∀ g, g < 8 → f 31 g = if S g = true then 1 else 0
theorem m1_add (x : Int32) : x + (-1) = x - 1 := by rw [Int32.sub_eq_add_neg]
theorem nI_s1 (j : Nat) : nI (j + 1) - 1 = nI j := by rw [← nI_1, Int32.add_sub_cancel]
theorem wm_ruleOf {post : Int32 → ctN → ctF → Prop} {n : ctN} {f : ctF} {G : GD} {T : TD} {o a b g : Nat} {D : Nat → Option Nat} {S : Nat → Bool} (hG : G.ok) (hT : T.ok G) (hM : gM G n f) (hA : aM G T o a b f) (hN' : T.N < 120) (ho : o < G.O) (ha : 1 ≤ G.k o → a < T.N) (hb : 2 ≤ G.k o → b < T.N) (hr : rowM T.N f D) (hbd : bndC D) (hg : g < 8) (hS : flagM f S)
    (h : ∀ q, rl G (prG G T o a b) D S g q → post (en q) n f) : wp_M_ruleOf post (nI T.N) (nI g) n f := by
  have hR40 := hG.R40
  have hO10 := hG.O10
  have loop : ∀ (i : Nat) (ob oc : Option Nat), i ≤ G.R → q_lst (q_isB G (prG G T o a b) D g) i G.R ob → q_lst (isH G (prG G T o a b) D S g) i G.R oc → wp_M_ruleOf_L13 post (i + 1) (nI T.N) (nI g) (en ob) (en oc) (nI i - 1) n f := by
    intro i
    induction i with
    | zero =>
      intro ob oc _ h1 h2
      rw [wp_M_ruleOf_L13]
      refine ⟨fun _ => ⟨fun q => ?_, fun q => ?_⟩, fun q => absurd (by rw [nI_0]; decide) q⟩
      · cases ob with
        | none => exact h oc ⟨none, oc, h1, h2, rfl⟩
        | some j => exact absurd q (nI_pos (by have := h1.2.1; omega))
      · cases ob with
        | none => exact absurd (by rw [en_n]; decide) q
        | some j => exact h (some j) ⟨some j, oc, h1, h2, rfl⟩
    | succ j ih =>
      intro ob oc hj h1 h2
      have hjR : j < G.R := by omega
      have hjc : (nI j).toNatClampNeg = j := nI_clamp (by omega)
      have hji : vp_in (nI j) 40 := vp_in_nI (by omega) (by decide)
      obtain ⟨q1, q2, q3, q4, q5⟩ := hG.ru j hjR
      obtain ⟨r20, r21, r22, r23, rb⟩ := hM.ru j hjR
      have J64 : ¬ okR G (prG G T o a b) D g j → wp_M_ruleOf_J64 post (wp_M_ruleOf_L13 post (j + 1)) (nI T.N) (nI g) (en ob) (en oc) (nI j) n f := by
        intro hno
        unfold wp_M_ruleOf_J64 wp_M_ruleOf_J65
        refine ⟨fun _ => ?_, fun q => absurd rfl q⟩
        unfold wp_M_ruleOf_J87 wp_M_ruleOf_J88
        refine ⟨fun _ => ?_, fun q => absurd rfl q⟩
        rintro _ rfl
        rw [m1_add]
        exact ih ob oc (by omega) (lst_keep h1 (fun q => hno q.1)) (lst_keep h2 (fun q => hno q.1))
      rw [wp_M_ruleOf_L13, nI_s1, hjc, r20, ix_m]
      refine ⟨fun q => absurd q (nI_pos (by omega)), fun _ => ⟨hji, fun q => J64 (fun z => q (by rw [z.1])), fun q => ?_⟩⟩
      have hgo : G.go j = g := (nI_eq (by omega) (by omega)).mp q
      refine wm_costBy hG hT hM hA hN' ho ha hb hr hbd hjR ?_
      refine ⟨fun q => J64 (fun z => ?_), fun q => ?_⟩
      · obtain ⟨-, y, hy, hy2⟩ := z
        rw [hy] at q
        exact absurd q (nI_pos (by have := bnd_lt hbd hy2; omega))
      · cases hy : byR (chG G) G.g1 G.co (prG G T o a b) D j with
        | none => rw [hy] at q; exact absurd (by rw [en_n]; decide) q
        | some y =>
          refine wm_costBy hG hT hM hA hN' ho ha hb hr hbd hjR ?_
          rw [hy, ix_cl hN' hg, hr g hg]
          have hy31 : y < 2 ^ 31 := by
            unfold byR at hy
            by_cases c : chG G j = true
            · rw [if_pos c] at hy
              cases hc : D (G.g1 j) with
              | none => rw [hc] at hy; cases hy
              | some x =>
                rw [hc] at hy
                have hy : x + G.co j = y := Option.some.inj hy
                have := bnd_lt hbd hc
                omega
            · rw [if_neg c] at hy
              have := prG_le hG hT ho ha hb hjR hy
              omega
          refine ⟨ix_in hN' hg, fun q2 => J64 (fun z => ?_), fun q2 => ?_⟩
          · obtain ⟨-, y2, hy2, hy3⟩ := z
            rw [hy] at hy2; cases hy2
            rw [hy3] at q2
            exact q2 rfl
          · have hDg : D g = some y := by
              cases hc : D g with
              | none => rw [hc] at q2; exact absurd q2 (nI_m1 hy31)
              | some x =>
                rw [hc] at q2
                rw [(nI_eq hy31 (by have := bnd_lt hbd hc; omega)).mp q2]
            have hok : okR G (prG G T o a b) D g j := ⟨hgo, y, hy, hDg⟩
            unfold wp_M_ruleOf_J65
            rw [hjc, r22]
            refine ⟨fun z => absurd z (by decide), fun _ => ⟨hji, fun z => ?_, fun z => ?_⟩⟩
            · have hch : G.op j = none := by
                cases e : G.op j with
                | none => rfl
                | some o2 => rw [e] at z; exact absurd z (nI_pos (by have := q5 o2 e; omega))
              have hchG : chG G j = true := by unfold chG; rw [hch]
              have nB : ¬ q_isB G (prG G T o a b) D g j := fun w => by have := w.2; rw [hchG] at this; cases this
              unfold wp_M_ruleOf_J87 wp_M_ruleOf_J88
              rw [hjc, r22, r23 hch, nI_clamp (by omega), hch, hS _ q3]
              refine ⟨fun w => absurd w (by decide), fun _ => ⟨hji, fun w => absurd w (by decide), fun _ => ⟨hji, vp_in_nI q3 (by decide), fun w => ?_, fun w => ?_⟩⟩⟩
              · rintro _ rfl
                rw [m1_add]
                refine ih ob oc (by omega) (lst_keep h1 nB) (lst_keep h2 (fun v => ?_))
                rw [if_pos v.2.2] at w
                exact absurd w (by decide)
              · rintro _ rfl
                rw [m1_add]
                refine ih ob (some j) (by omega) (lst_keep h1 nB) (lst_new ⟨hok, hchG, ?_⟩ hjR)
                by_cases v : S (G.g1 j) = true
                · exact v
                · rw [if_neg v] at w; exact absurd rfl w
            · have hch : chG G j = false := by
                unfold chG
                cases e : G.op j with
                | none => rw [e] at z; exact absurd (by rw [en_n]; decide) z
                | some o2 => rfl
              have h0 : (0 : Int32) ≤ en (G.op j) := by
                rw [w_le]; rw [w_lt] at z; omega
              unfold wp_M_ruleOf_J88
              rw [hjc, r22]
              refine ⟨fun w => absurd w (by decide), fun _ => ⟨hji, fun _ => ?_, fun w => absurd h0 w⟩⟩
              rintro _ rfl
              rw [m1_add]
              refine ih (some j) oc (by omega) (lst_new ⟨hok, hch⟩ hjR) (lst_keep h2 (fun w => ?_))
              have := w.2.1
              rw [hch] at this; cases this
  unfold wp_M_ruleOf
  rintro _ rfl
  rw [hM.nR]
  exact ⟨G.R + 1, loop G.R none none (Nat.le_refl _) (fun i h1 h2 => by omega) (fun i h1 h2 => by omega)⟩
/-- of the goals below m the one that is settled next, and its rule -/
def q_bst (G : GD) (pr D : Nat → Option Nat) (S : Nat → Bool) (m : Nat) (q : Option (Nat × Nat)) : Prop := match q with
  | none => ∀ g r, g < m → S g = false → ¬ D g = none → ¬ rl G pr D S g (some r)
  | some (b, r) => b < m ∧ S b = false ∧ rl G pr D S b (some r) ∧ ∃ x, D b = some x ∧ ∀ g y r', g < m → S g = false → D g = some y → rl G pr D S g (some r') → x ≤ y ∧ (y = x → b ≤ g)
def rawS (G : GD) (z : Nat → Int32) (N a b r : Nat) : Int32 := match G.op r with
  | none => 1 + z (8 * N + G.g1 r)
  | some o => if G.k o ≤ 0 then 1 else if G.k o ≤ 1 then 1 + z (8 * a + G.g1 r) else 1 + z (8 * a + G.g1 r) + z (8 * b + G.g2 r)
def capS (x : Int32) : Int32 := if x ≤ 2000 then x else 2001
def setS (G : GD) (f : ctF) (N a b m r : Nat) : ctF := va_up (va_up (va_up f 31 (upd (f 31) m 1)) 29 (upd (f 29) (8 * N + m) (nI r))) 30 (upd (f 30) (8 * N + m) (capS (rawS G (f 30) N a b r)))
theorem lst_one {P : Nat → Prop} {R : Nat} {a b : Option Nat} (h1 : q_lst P 0 R a) (h2 : q_lst P 0 R b) : a = b := by
  cases a with
  | none =>
    cases b with
    | none => rfl
    | some j => exact absurd h2.2.2.1 (h1 j (by omega) h2.2.1)
  | some i =>
    cases b with
    | none => exact absurd h1.2.2.1 (h2 i (by omega) h1.2.1)
    | some j =>
      rcases Nat.lt_trichotomy i j with q | q | q
      · exact absurd h1.2.2.1 (h2.2.2.2 i (by omega) q)
      · rw [q]
      · exact absurd h2.2.2.1 (h1.2.2.2 j (by omega) q)
theorem rl_one {G : GD} {pr D : Nat → Option Nat} {S : Nat → Bool} {g : Nat} {a b : Option Nat} (h1 : rl G pr D S g a) (h2 : rl G pr D S g b) : a = b := by
  obtain ⟨x, y, hx, hy, rfl⟩ := h1
  obtain ⟨x2, y2, hx2, hy2, rfl⟩ := h2
  rw [lst_one hx hx2, lst_one hy hy2]
theorem rl_ok {G : GD} {pr D : Nat → Option Nat} {S : Nat → Bool} {g r : Nat} (h : rl G pr D S g (some r)) : r < G.R ∧ (q_isB G pr D g r ∨ isH G pr D S g r) := by
  obtain ⟨x, y, hx, hy, e⟩ := h
  cases x with
  | none =>
    have e : some r = y := e
    subst e
    exact ⟨hy.2.1, Or.inr hy.2.2.1⟩
  | some b =>
    have e : some r = some b := e
    cases e
    exact ⟨hx.2.1, Or.inl hx.2.2.1⟩
