/-! the reference's costBy as a function -/
theorem nI_ge0 {k : Nat} (h : k < 2 ^ 31) : (0 : Int32) ≤ nI k := nI_pos' h
theorem en_ge0 {o : Option Nat} (h : ∀ k, o = some k → k < 2 ^ 31) : (0 : Int32) ≤ en o ↔ ∃ k, o = some k := by
  cases o with
  | none => exact ⟨fun q => absurd q (by decide), fun ⟨k, e⟩ => nomatch e⟩
  | some k => exact ⟨fun _ => ⟨k, rfl⟩, fun _ => nI_pos' (h k rfl)⟩
theorem wm_costChain {post : Int32 → ctN → ctF → Prop} {n : ctN} {f : ctF} {N r h c : Nat} {a : Option Nat} (hN' : N < 120) (hr : r < 40) (hof : f 22 r = -1) (h23 : f 23 r = nI h) (hh : h < 8) (h21 : f 21 r = nI c) (ha : f 28 (8 * N + h) = en a) (hb : ∀ x, a = some x → x < 2 ^ 31) (hp : post (en (a.map (fun x => x + c))) n f) : wp_M_costBy post (nI N) (nI r) n f := by
  have hrc : (nI r).toNatClampNeg = r := nI_clamp (by omega)
  have hri : vp_in (nI r) 40 := vp_in_nI hr (by decide)
  unfold wp_M_costBy
  simp only [hrc, hof, h23, h21, ix_m, ix_cl hN' hh, ha]
  refine ⟨hri, fun q => absurd q (by decide), fun _ => ⟨hri, ix_in hN' hh, ?_⟩⟩
  rintro _ rfl
  cases a with
  | none => exact ⟨fun q => absurd q (by decide), fun _ => hp⟩
  | some x => exact ⟨fun _ => ⟨hri, by rw [en_s, nI_add]; exact hp⟩, fun q => absurd (nI_pos' (hb x rfl)) q⟩
theorem wm_costOther {post : Int32 → ctN → ctF → Prop} {n : ctN} {f : ctF} {N r o : Nat} (hN' : N < 120) (hr : r < 40) (hof : f 22 r = nI o) (ho : o < 10) (hne : ¬ nI o = f 25 N) (hp : post (-1) n f) : wp_M_costBy post (nI N) (nI r) n f := by
  have hrc : (nI r).toNatClampNeg = r := nI_clamp (by omega)
  have hNc : (nI N).toNatClampNeg = N := nI_clamp (by omega)
  have hri : vp_in (nI r) 40 := vp_in_nI hr (by decide)
  unfold wp_M_costBy
  simp only [hrc, hNc, hof]
  exact ⟨hri, fun _ => ⟨hri, vp_in_nI hN' (by decide), fun q => absurd q hne, fun _ => hp⟩, fun q => absurd (nI_pos' (by omega)) q⟩
theorem wm_costBase {post : Int32 → ctN → ctF → Prop} {n : ctN} {f : ctF} {N r o k s u1 u2 g1 g2 : Nat} {a1 a2 : Option Nat} (hN' : N < 120) (hr : r < 40) (hof : f 22 r = nI o) (ho : o < 10) (h25 : f 25 N = nI o) (hk : f 19 o = nI k) (hk' : k ≤ 2) (hs : f 21 r = nI s) (hs' : s ≤ 20)
    (h1 : 1 ≤ k → f 26 N = nI u1 ∧ u1 < 120 ∧ f 23 r = nI g1 ∧ g1 < 8 ∧ f 28 (8 * u1 + g1) = en a1) (hb1 : ∀ x, a1 = some x → x < 2 ^ 29)
    (h2 : 2 ≤ k → f 27 N = nI u2 ∧ u2 < 120 ∧ f 24 r = nI g2 ∧ g2 < 8 ∧ f 28 (8 * u2 + g2) = en a2) (hb2 : ∀ x, a2 = some x → x < 2 ^ 29)
    (hp : post (en (bcost k s a1 a2)) n f) : wp_M_costBy post (nI N) (nI r) n f := by
  have hrc : (nI r).toNatClampNeg = r := nI_clamp (by omega)
  have hNc : (nI N).toNatClampNeg = N := nI_clamp (by omega)
  have hoc : (nI o).toNatClampNeg = o := nI_clamp (by omega)
  have hri : vp_in (nI r) 40 := vp_in_nI hr (by decide)
  have hNi : vp_in (nI N) 120 := vp_in_nI hN' (by decide)
  have hoi : vp_in (nI o) 10 := vp_in_nI ho (by decide)
  have k0 : nI k ≤ 0 ↔ k ≤ 0 := by rw [show (0 : Int32) = nI 0 by decide]; exact nI_leI (by omega) (by decide)
  have k1 : nI k ≤ 1 ↔ k ≤ 1 := by rw [show (1 : Int32) = nI 1 by decide]; exact nI_leI (by omega) (by decide)
  have J : ∀ x : Nat, x < 2 ^ 30 → (k ≤ 1 → post (nI x) n f) → (2 ≤ k → post (en (a2.map (fun y => x + y))) n f) → wp_M_costBy_J118 post (nI N) (nI r) (nI x) n f := by
    intro x hx p1 p2
    unfold wp_M_costBy_J118
    simp only [hrc, hof, hoc, hk, hNc]
    refine ⟨hri, hoi, fun c => p1 (k1.mp c), fun c => ⟨fun q => absurd q (nI_pos (by omega)), fun _ => ⟨hNi, hri, ?_⟩⟩⟩
    have c2 : 2 ≤ k := by
      have : ¬ k ≤ 1 := fun z => c (k1.mpr z)
      omega
    obtain ⟨q1, q2, q3, q4, q5⟩ := h2 c2
    have p2 := p2 c2
    simp only [q1, q3, ix_m, ix_cl q2 q4, q5]
    refine ⟨ix_in q2 q4, ?_⟩
    rintro _ rfl
    cases a2 with
    | none => exact ⟨fun q => absurd q (by decide), fun _ => p2⟩
    | some y =>
      refine ⟨fun _ => ?_, fun q => absurd (nI_pos' (Nat.lt_trans (hb2 y rfl) (by decide))) q⟩
      rintro _ rfl
      rw [en_s, nI_add]
      exact p2
  have JN : post (-1) n f → wp_M_costBy_J118 post (nI N) (nI r) (-1) n f := by
    intro p
    unfold wp_M_costBy_J118
    simp only [hrc, hof, hoc, hk]
    exact ⟨hri, hoi, fun _ => p, fun _ => ⟨fun _ => p, fun q => absurd (by decide) q⟩⟩
  unfold wp_M_costBy
  simp only [hrc, hNc, hof, h25, hoc, hk, hs]
  refine ⟨hri, fun _ => ⟨hri, hNi, fun _ => ⟨hri, ?_⟩, fun q => absurd trivial q⟩, fun q => absurd (nI_pos' (by omega)) q⟩
  rintro _ rfl
  refine ⟨hri, hoi, fun c => ?_, fun c => ?_⟩
  · have c := k0.mp c
    rw [show bcost k s a1 a2 = some s from if_pos (by omega)] at hp
    exact J s (by omega) (fun _ => hp) (fun q => absurd q (by omega))
  · have c1 : 1 ≤ k := by
      have : ¬ k ≤ 0 := fun z => c (k0.mpr z)
      omega
    rw [show bcost k s a1 a2 = _ from if_neg (by omega)] at hp
    obtain ⟨q1, q2, q3, q4, q5⟩ := h1 c1
    simp only [q1, q3, ix_m, ix_cl q2 q4, q5]
    refine ⟨hNi, hri, ix_in q2 q4, ?_⟩
    rintro _ rfl
    unfold wp_M_costBy_J117
    cases a1 with
    | none => exact ⟨fun q => absurd q (by decide), fun _ => JN hp⟩
    | some x =>
      have hx := hb1 x rfl
      refine ⟨fun _ => ?_, fun q => absurd (nI_pos' (Nat.lt_trans hx (by decide))) q⟩
      rw [en_s, nI_add]
      have hp : post (en (if k < 2 then some (s + x) else a2.map (fun y => s + x + y))) n f := hp
      refine J (s + x) (by omega) (fun q => ?_) (fun q => ?_)
      · rw [if_pos (by omega)] at hp
        exact hp
      · rw [if_neg (by omega)] at hp
        exact hp
