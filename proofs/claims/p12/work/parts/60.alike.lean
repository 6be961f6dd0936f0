/-! alike: class and reference mean the same -/
def leaC (C : Nat → Option Nat) (L : Int32) : Prop := ((∀ g, g < 8 → C g = none) ∧ L = -1) ∨ ∃ x, L = nI x ∧ (∃ g, g < 8 ∧ C g = some x) ∧ ∀ g y, g < 8 → C g = some y → x ≤ y
theorem leaC.one {C : Nat → Option Nat} {L L' : Int32} (h : leaC C L) (h' : leaC C L') : L = L' := by
  rcases h with ⟨h1, h2⟩ | ⟨x, h1, ⟨g, hg, hc⟩, h3⟩
  · rcases h' with ⟨k1, k2⟩ | ⟨y, k1, ⟨g', hg', hc'⟩, k3⟩
    · rw [h2, k2]
    · rw [h1 g' hg'] at hc'; cases hc'
  · rcases h' with ⟨k1, k2⟩ | ⟨y, k1, ⟨g', hg', hc'⟩, k3⟩
    · rw [k1 g hg] at hc; cases hc
    · have := h3 g' y hg' hc'
      have := k3 g x hg hc
      rw [h1, k1, show x = y by omega]
def leaTo (C : Nat → Option Nat) (m : Nat) (L : Int32) : Prop := ((∀ g, g < m → C g = none) ∧ L = -1) ∨ ∃ x, L = nI x ∧ x < 2 ^ 31 ∧ (∃ g, g < m ∧ C g = some x) ∧ ∀ g y, g < m → C g = some y → x ≤ y
theorem wm_leastCost2 {post : Int32 → ctN → ctF → Prop} {n : ctN} {f : ctF} {v : Nat} {C : Nat → Option Nat} (hv : v < 120) (hr : ∀ g, g < 8 → f 28 (8 * v + g) = en (C g)) (hb : ∀ g x, C g = some x → x < 2 ^ 31) (h : ∀ L, leaC C L → post L n f) : wp_M_leastCost post (nI v) n f := by
  have e8 : (8 : Int32) = nI 8 := ix_8
  have loop : ∀ (d m : Nat) (x2 : Int32), 8 = m + d → leaTo C m x2 → wp_M_leastCost_L4 post (d + 1) (nI v) x2 (nI m) n f := by
    intro d
    induction d with
    | zero =>
      intro m x2 hd hl
      have e : m = 8 := by omega
      subst e
      rw [wp_M_leastCost_L4]
      refine ⟨fun _ => h x2 ?_, fun z => absurd (by rw [e8]; exact nI_le (Nat.le_refl 8) (by decide)) z⟩
      rcases hl with hl | ⟨x, h1, -, h3⟩
      · exact Or.inl hl
      · exact Or.inr ⟨x, h1, h3⟩
    | succ d ih =>
      intro m x2 hd hl
      have hm : m < 8 := by omega
      have keep : C m = none → leaTo C (m + 1) x2 := by
        intro hc
        rcases hl with ⟨h1, h2⟩ | ⟨x, h1, h2, ⟨g, hg, hgc⟩, h4⟩
        · refine Or.inl ⟨fun g hg => ?_, h2⟩
          by_cases e : g = m
          · subst e; exact hc
          · exact h1 g (by omega)
        · refine Or.inr ⟨x, h1, h2, ⟨g, by omega, hgc⟩, fun g2 y hg2 hy => ?_⟩
          by_cases e : g2 = m
          · subst e; rw [hc] at hy; cases hy
          · exact h4 g2 y (by omega) hy
      rw [wp_M_leastCost_L4, ix_m, ix_cl hv hm, nI_1, hr m hm]
      refine ⟨fun z => absurd z (by rw [e8]; exact nI_ge hm (by decide)), fun _ => ⟨ix_in hv hm, ?_⟩⟩
      rintro _ rfl
      cases hc : C m with
      | none =>
        refine ⟨fun _ => ?_, fun z => absurd (by decide) z⟩
        rintro _ rfl
        exact ih (m + 1) x2 (by omega) (keep hc)
      | some y =>
        have hy := hb m y hc
        refine ⟨fun z => absurd z (nI_pos hy), fun _ => ⟨fun z => ?_, fun z => ⟨fun w => ?_, fun w => ?_⟩⟩⟩
        · rintro _ rfl
          refine ih (m + 1) (nI y) (by omega) (Or.inr ⟨y, rfl, hy, ⟨m, by omega, hc⟩, fun g2 y2 hg2 hy2 => ?_⟩)
          rcases hl with ⟨h1, -⟩ | ⟨x, h1, h2, -⟩
          · by_cases e : g2 = m
            · subst e; rw [hc] at hy2; cases hy2; exact Nat.le_refl _
            · rw [h1 g2 (by omega)] at hy2; cases hy2
          · rw [h1] at z; exact absurd z (nI_pos h2)
        · rintro _ rfl
          rcases hl with ⟨-, h2⟩ | ⟨x, h1, h2, ⟨g, hg, hgc⟩, h4⟩
          · rw [h2] at z; exact absurd (by decide) z
          · refine ih (m + 1) x2 (by omega) (Or.inr ⟨x, h1, h2, ⟨g, by omega, hgc⟩, fun g2 y2 hg2 hy2 => ?_⟩)
            by_cases e : g2 = m
            · subst e
              rw [hc] at hy2; cases hy2
              rw [h1] at w
              exact (nI_leI h2 hy).mp w
            · exact h4 g2 y2 (by omega) hy2
        · rintro _ rfl
          rcases hl with ⟨-, h2⟩ | ⟨x, h1, h2, -, h4⟩
          · rw [h2] at z; exact absurd (by decide) z
          · have hlt : y < x := by
              rcases Nat.lt_or_ge y x with q | q
              · exact q
              · rw [h1] at w; exact absurd ((nI_leI h2 hy).mpr q) w
            refine ih (m + 1) (nI y) (by omega) (Or.inr ⟨y, rfl, hy, ⟨m, by omega, hc⟩, fun g2 y2 hg2 hy2 => ?_⟩)
            by_cases e : g2 = m
            · subst e; rw [hc] at hy2; cases hy2; exact Nat.le_refl _
            · have := h4 g2 y2 (by omega) hy2; omega
  unfold wp_M_leastCost
  refine ⟨9, ?_⟩
  have q := loop 8 0 (-1) (by omega) (Or.inl ⟨fun g hg => absurd hg (Nat.not_lt_zero _), rfl⟩)
  rw [nI_0] at q
  exact q
def likeM (f : ctF) (v w : Nat) (L1 L2 : Int32) (g : Nat) : Prop := (f 28 (8 * v + g) < 0 ↔ f 28 (8 * w + g) < 0) ∧ (f 28 (8 * v + g) < 0 ∨ (f 28 (8 * v + g) - L1 = f 28 (8 * w + g) - L2 ∧ f 29 (8 * v + g) = f 29 (8 * w + g)))
theorem wm_isAlike2 {post : Int32 → ctN → ctF → Prop} {n : ctN} {f : ctF} {v w : Nat} {C C' : Nat → Option Nat} {L1 L2 : Int32} (hv : v < 120) (hw : w < 120) (hr : ∀ g, g < 8 → f 28 (8 * v + g) = en (C g)) (hb : ∀ g x, C g = some x → x < 2 ^ 31) (hr' : ∀ g, g < 8 → f 28 (8 * w + g) = en (C' g)) (hb' : ∀ g x, C' g = some x → x < 2 ^ 31) (hL1 : leaC C L1) (hL2 : leaC C' L2)
    (h1 : (∀ g, g < 8 → likeM f v w L1 L2 g) → post 1 n f) (h0 : ¬ (∀ g, g < 8 → likeM f v w L1 L2 g) → post 0 n f) : wp_M_isAlike post (nI v) (nI w) n f := by
  have e8 : (8 : Int32) = nI 8 := ix_8
  have loop : ∀ (d m : Nat) (x3 : Int32), 8 = m + d → ((x3 = 1 ∧ ∀ g, g < m → likeM f v w L1 L2 g) ∨ (x3 = 0 ∧ ¬ (∀ g, g < 8 → likeM f v w L1 L2 g))) → wp_M_isAlike_L19 post (d + 1) (nI v) (nI w) x3 L1 L2 (nI m) n f := by
    intro d
    induction d with
    | zero =>
      intro m x3 hd hx
      have e : m = 8 := by omega
      subst e
      rw [wp_M_isAlike_L19]
      refine ⟨fun _ => ?_, fun z => absurd (by rw [e8]; exact nI_le (Nat.le_refl 8) (by decide)) z⟩
      rcases hx with ⟨rfl, hx⟩ | ⟨rfl, hx⟩
      · exact ⟨rfl, h1 hx⟩
      · exact ⟨rfl, h0 hx⟩
    | succ d ih =>
      intro m x3 hd hx
      have hm : m < 8 := by omega
      rw [wp_M_isAlike_L19, ix_m, ix_m, ix_cl hv hm, ix_cl hw hm, nI_1]
      refine ⟨fun z => absurd z (by rw [e8]; exact nI_ge hm (by decide)), fun _ => ⟨ix_in hv hm, ?_⟩⟩
      rintro _ rfl
      refine ⟨ix_in hw hm, ?_⟩
      rintro _ rfl
      rcases hx with ⟨rfl, hx⟩ | ⟨rfl, hx⟩
      · have yes : likeM f v w L1 L2 m → wp_M_isAlike_L19 post (d + 1) (nI v) (nI w) 1 L1 L2 (nI (m + 1)) n f := fun z => ih (m + 1) 1 (by omega) (Or.inl ⟨rfl, fun g hg => by
          by_cases e : g = m
          · subst e; exact z
          · exact hx g (by omega)⟩)
        have no : ¬ likeM f v w L1 L2 m → wp_M_isAlike_L19 post (d + 1) (nI v) (nI w) 0 L1 L2 (nI (m + 1)) n f := fun z => ih (m + 1) 0 (by omega) (Or.inr ⟨rfl, fun q => z (q m hm)⟩)
        have J78 : ∀ s0 s1 : Int32, (s1 = s0 ↔ (f 28 (8 * v + m) < 0 ↔ f 28 (8 * w + m) < 0)) → wp_M_isAlike_J78 post (wp_M_isAlike_L19 post (d + 1)) (nI v) (nI w) L1 L2 (nI m) (f 28 (8 * v + m)) (f 28 (8 * w + m)) s0 s1 n f := by
          intro s0 s1 hs
          unfold wp_M_isAlike_J78
          rw [ix_m, ix_m, ix_cl hv hm, ix_cl hw hm, nI_1]
          refine ⟨fun a => ?_, fun a => ⟨fun b => ?_, fun b => ⟨fun c => ?_, fun c => ⟨ix_in hv hm, ix_in hw hm, fun e => ?_, fun e => ?_⟩⟩⟩⟩
          · rintro _ rfl; exact no (fun z => a (hs.mpr z.1))
          · rintro _ rfl; exact yes ⟨hs.mp a, Or.inl b⟩
          · rintro _ rfl; exact no (fun z => z.2.elim b (fun y => c y.1))
          · rintro _ rfl; exact no (fun z => z.2.elim b (fun y => e y.2))
          · rintro _ rfl; exact yes ⟨hs.mp a, Or.inr ⟨c, e⟩⟩
        refine ⟨fun z => absurd z (by decide), fun _ => ⟨fun a => ?_, fun a => ?_⟩⟩
        · unfold wp_M_isAlike_J68
          exact ⟨fun b => J78 0 0 ⟨fun _ => ⟨fun _ => b, fun _ => a⟩, fun _ => rfl⟩, fun b => J78 1 0 ⟨fun z => absurd z (by decide), fun z => absurd (z.mp a) b⟩⟩
        · unfold wp_M_isAlike_J68
          exact ⟨fun b => J78 0 1 ⟨fun z => absurd z (by decide), fun z => absurd (z.mpr b) a⟩, fun b => J78 1 1 ⟨fun _ => ⟨fun z => absurd z a, fun z => absurd z b⟩, fun _ => rfl⟩⟩
      · refine ⟨fun _ => ?_, fun z => absurd rfl z⟩
        rintro _ rfl
        exact ih (m + 1) 0 (by omega) (Or.inr ⟨rfl, hx⟩)
  unfold wp_M_isAlike
  refine wm_leastCost2 hv hr hb (fun L hL => wm_leastCost2 hw hr' hb' (fun L' hL' => ⟨9, ?_⟩))
  rw [hL.one hL1, hL'.one hL2]
  have q := loop 8 0 1 (by omega) (Or.inl ⟨rfl, fun g hg => absurd hg (Nat.not_lt_zero _)⟩)
  rw [nI_0] at q
  exact q
theorem en_inj {a b : Option Nat} (ha : ∀ k, a = some k → k < 2 ^ 31) (hb : ∀ k, b = some k → k < 2 ^ 31) : en a = en b ↔ a = b := by
  constructor
  · intro e
    cases a with
    | none =>
      cases b with
      | none => rfl
      | some k => exact absurd e.symm (nI_m1 (hb k rfl))
    | some j =>
      cases b with
      | none => exact absurd e (nI_m1 (ha j rfl))
      | some k => rw [(nI_eq (ha j rfl) (hb k rfl)).mp e]
  · intro e; rw [e]
theorem sub_iff {x y a b : Nat} (hx : x ≤ 1000000) (hy : y ≤ 1000000) (ha : a ≤ 1000000) (hb : b ≤ 1000000) : nI x - nI a = nI y - nI b ↔ x + b = y + a := by
  rw [← Int32.toInt_inj, ia_sub (by rw [nI_toInt (by omega)]; omega) (by rw [nI_toInt (by omega)]; omega) (by rw [nI_toInt (by omega)]; omega) (by rw [nI_toInt (by omega)]; omega), ia_sub (by rw [nI_toInt (by omega)]; omega) (by rw [nI_toInt (by omega)]; omega) (by rw [nI_toInt (by omega)]; omega) (by rw [nI_toInt (by omega)]; omega), nI_toInt (by omega), nI_toInt (by omega), nI_toInt (by omega), nI_toInt (by omega)]
  omega
/-- a node's least cost as a number -/
def aOf (L : Int32) : Nat := L.toInt.toNat
theorem leaC.a {C : Nat → Option Nat} {L : Int32} (h : leaC C L) (hC : ∀ g x, C g = some x → x ≤ 1000000) {g x : Nat} (hg : g < 8) (hx : C g = some x) : L = nI (aOf L) ∧ aOf L ≤ 1000000 := by
  rcases h with ⟨h1, -⟩ | ⟨y, h1, ⟨g', hg', hc'⟩, -⟩
  · rw [h1 g hg] at hx; cases hx
  · have := hC g' y hc'
    have e : aOf L = y := by
      unfold aOf
      rw [h1, nI_toInt (by omega)]
      rfl
    rw [e]
    exact ⟨h1, this⟩
def nodeX (G : GD) (C B Q P : Nat → Option Nat) (v : Nat) (f : ctF) : Prop := (ND G C B Q P) ∧ (∀ g x, C g = some x → x ≤ 1000000) ∧ (∀ g i, Q g = some i → i < 40) ∧ (∀ g i, P g = some i → i < 40) ∧ (leaC C (f 12 v)) ∧ (∀ g, g < 8 → f 14 (8 * v + g) = en (C g)) ∧ (∀ g, g < 8 → f 15 (8 * v + g) = en (Q g)) ∧ (∀ g, g < 8 → f 28 (8 * v + g) = en (C g)) ∧ (∀ g, g < 8 → f 29 (8 * v + g) = en (P g))
theorem nodeX.nd {G : GD} {C B Q P : Nat → Option Nat} {v : Nat} {f : ctF} (h : nodeX G C B Q P v f) : ND G C B Q P := h.1
theorem nodeX.mo {G : GD} {C B Q P : Nat → Option Nat} {v : Nat} {f : ctF} (h : nodeX G C B Q P v f) : ∀ g x, C g = some x → x ≤ 1000000 := h.2.1
theorem nodeX.ql {G : GD} {C B Q P : Nat → Option Nat} {v : Nat} {f : ctF} (h : nodeX G C B Q P v f) : ∀ g i, Q g = some i → i < 40 := h.2.2.1
theorem nodeX.pl {G : GD} {C B Q P : Nat → Option Nat} {v : Nat} {f : ctF} (h : nodeX G C B Q P v f) : ∀ g i, P g = some i → i < 40 := h.2.2.2.1
theorem nodeX.lea {G : GD} {C B Q P : Nat → Option Nat} {v : Nat} {f : ctF} (h : nodeX G C B Q P v f) : leaC C (f 12 v) := h.2.2.2.2.1
theorem nodeX.c14 {G : GD} {C B Q P : Nat → Option Nat} {v : Nat} {f : ctF} (h : nodeX G C B Q P v f) : ∀ g, g < 8 → f 14 (8 * v + g) = en (C g) := h.2.2.2.2.2.1
theorem nodeX.c15 {G : GD} {C B Q P : Nat → Option Nat} {v : Nat} {f : ctF} (h : nodeX G C B Q P v f) : ∀ g, g < 8 → f 15 (8 * v + g) = en (Q g) := h.2.2.2.2.2.2.1
theorem nodeX.c28 {G : GD} {C B Q P : Nat → Option Nat} {v : Nat} {f : ctF} (h : nodeX G C B Q P v f) : ∀ g, g < 8 → f 28 (8 * v + g) = en (C g) := h.2.2.2.2.2.2.2.1
theorem nodeX.c29 {G : GD} {C B Q P : Nat → Option Nat} {v : Nat} {f : ctF} (h : nodeX G C B Q P v f) : ∀ g, g < 8 → f 29 (8 * v + g) = en (P g) := h.2.2.2.2.2.2.2.2
theorem likeTo_iff {G : GD} {C B Q P C' B' Q' P' : Nat → Option Nat} {v w : Nat} {f : ctF} (x : nodeX G C B Q P v f) (y : nodeX G C' B' Q' P' w f) : likeTo f v w 8 ↔ sameND C B C' B' (aOf (f 12 v)) (aOf (f 12 w)) := by
  rw [alikeC x.nd y.nd]
  unfold likeTo
  constructor
  · intro h g hg
    obtain ⟨h1, h2⟩ := h g hg
    rw [x.c15 g hg, y.c15 g hg, en_inj (fun k z => by have := x.ql g k z; omega) (fun k z => by have := y.ql g k z; omega)] at h1
    refine ⟨h1, ?_⟩
    rw [x.c15 g hg] at h2
    rcases h2 with h2 | h2
    · exact Or.inl ((en_m1 (fun k z => by have := x.ql g k z; omega)).mp h2)
    · cases e : C g with
      | none => exact Or.inl ((x.nd.qD g).mpr e)
      | some a =>
        cases e' : C' g with
        | none =>
          rw [(y.nd.qD g).mpr e'] at h1
          exact Or.inl h1
        | some b =>
          obtain ⟨l1, l2⟩ := x.lea.a x.mo hg e
          obtain ⟨m1, m2⟩ := y.lea.a y.mo hg e'
          rw [x.c14 g hg, y.c14 g hg, e, e', l1, m1] at h2
          exact Or.inr ⟨a, b, rfl, rfl, (sub_iff (x.mo g a e) (y.mo g b e') l2 m2).mp h2⟩
  · intro h g hg
    obtain ⟨h1, h2⟩ := h g hg
    refine ⟨by rw [x.c15 g hg, y.c15 g hg, h1], ?_⟩
    rw [x.c15 g hg]
    rcases h2 with h2 | ⟨a, b, e, e', h3⟩
    · exact Or.inl (by rw [h2]; rfl)
    · obtain ⟨l1, l2⟩ := x.lea.a x.mo hg e
      obtain ⟨m1, m2⟩ := y.lea.a y.mo hg e'
      right
      rw [x.c14 g hg, y.c14 g hg, e, e', l1, m1]
      exact (sub_iff (x.mo g a e) (y.mo g b e') l2 m2).mpr h3
theorem en_neg {o : Option Nat} (h : ∀ k, o = some k → k < 2 ^ 31) : en o < 0 ↔ o = none := by
  cases o with
  | none => exact ⟨fun _ => rfl, fun _ => by decide⟩
  | some k => exact ⟨fun z => absurd z (nI_pos (h k rfl)), (fun z => nomatch z)⟩
theorem likeM_iff {G : GD} {C B Q P C' B' Q' P' : Nat → Option Nat} {v w : Nat} {f : ctF} (x : nodeX G C B Q P v f) (y : nodeX G C' B' Q' P' w f) : (∀ g, g < 8 → likeM f v w (f 12 v) (f 12 w) g) ↔ sameND C B C' B' (aOf (f 12 v)) (aOf (f 12 w)) := by
  rw [alikeM x.nd y.nd]
  unfold likeM
  have bx : ∀ g k, C g = some k → k < 2 ^ 31 := fun g k z => by have := x.mo g k z; omega
  have by' : ∀ g k, C' g = some k → k < 2 ^ 31 := fun g k z => by have := y.mo g k z; omega
  constructor
  · intro h g hg
    obtain ⟨h1, h2⟩ := h g hg
    rw [x.c28 g hg, y.c28 g hg, en_neg (bx g), en_neg (by' g)] at h1
    refine ⟨h1, ?_⟩
    rw [x.c28 g hg, y.c28 g hg, en_neg (bx g)] at h2
    rcases h2 with h2 | ⟨h2, h3⟩
    · exact Or.inl h2
    · cases e : C g with
      | none => exact Or.inl rfl
      | some a =>
        cases e' : C' g with
        | none => rw [h1.mpr e'] at e; cases e
        | some b =>
          obtain ⟨l1, l2⟩ := x.lea.a x.mo hg e
          obtain ⟨m1, m2⟩ := y.lea.a y.mo hg e'
          rw [e, e', l1, m1] at h2
          rw [x.c29 g hg, y.c29 g hg, en_inj (fun k z => by have := x.pl g k z; omega) (fun k z => by have := y.pl g k z; omega)] at h3
          exact Or.inr ⟨⟨a, b, rfl, rfl, (sub_iff (x.mo g a e) (y.mo g b e') l2 m2).mp h2⟩, h3⟩
  · intro h g hg
    obtain ⟨h1, h2⟩ := h g hg
    rw [x.c28 g hg, y.c28 g hg, en_neg (bx g), en_neg (by' g)]
    refine ⟨h1, ?_⟩
    rcases h2 with h2 | ⟨⟨a, b, e, e', h3⟩, h4⟩
    · exact Or.inl h2
    · obtain ⟨l1, l2⟩ := x.lea.a x.mo hg e
      obtain ⟨m1, m2⟩ := y.lea.a y.mo hg e'
      right
      rw [x.c29 g hg, y.c29 g hg, h4, e, e', l1, m1]
      exact ⟨(sub_iff (x.mo g a e) (y.mo g b e') l2 m2).mpr h3, rfl⟩
