/-! what a base rule asks -/
def bcost (k s : Nat) (a1 a2 : Option Nat) : Option Nat := if k < 1 then some s else match a1 with
  | none => none
  | some x => if k < 2 then some (s + x) else a2.map (fun y => s + x + y)
theorem w_baseCost {post : Int32 → ctN → ctF → Prop} {n : ctN} {f : ctF} {N i o k s u1 u2 g1 g2 : Nat} {a1 a2 : Option Nat} (hN : n 2 = nI N) (hN' : N < 120) (hi : i < 40) (ho : f 9 N = nI o) (ho' : o < 10) (hk : f 3 o = nI k) (hk' : k ≤ 2) (hs : f 8 i = nI s)
    (h10 : f 10 N = nI u1) (hu1 : u1 < 120) (h6 : f 6 i = nI g1) (hg1 : g1 < 8) (ha1 : f 14 (8 * u1 + g1) = en a1) (hb1 : ∀ x, a1 = some x → x < 2 ^ 31)
    (h11 : f 11 N = nI u2) (hu2 : u2 < 120) (h7 : f 7 i = nI g2) (hg2 : g2 < 8) (ha2 : f 14 (8 * u2 + g2) = en a2) (hb2 : ∀ x, a2 = some x → x < 2 ^ 31)
    (h : post (en (bcost k s a1 a2)) n f) : wp_F_baseCost post (nI i) n f := by
  have hic : (nI i).toNatClampNeg = i := nI_clamp (by omega)
  have hin : vp_in (nI i) 40 := vp_in_nI hi (by decide)
  have hNc : (nI N).toNatClampNeg = N := nI_clamp (by omega)
  have hNi : vp_in (nI N) 120 := vp_in_nI hN' (by decide)
  have hoc : (nI o).toNatClampNeg = o := nI_clamp (by omega)
  have hoi : vp_in (nI o) 10 := vp_in_nI ho' (by decide)
  have k1 : nI k < 1 ↔ k < 1 := by rw [show (1 : Int32) = nI 1 by decide]; exact nI_ltI (by omega) (by decide)
  have k2 : nI k < 2 ↔ k < 2 := by rw [show (2 : Int32) = nI 2 by decide]; exact nI_ltI (by omega) (by decide)
  have J : ∀ x : Nat, (k < 2 → post (nI x) n f) → (¬ k < 2 → post (en (a2.map (fun y => x + y))) n f) → wp_F_baseCost_J74 post (nI i) (nI k) (nI x) n f := by
    intro x p1 p2
    unfold wp_F_baseCost_J74
    rw [hN, hNc, hic, h11, h7]
    refine ⟨fun c => p1 (k2.mp c), fun c => ⟨hNi, hin, w_place ⟨ix_in hu2 hg2, ?_⟩⟩⟩
    rw [ix_cl hu2 hg2, ha2]
    have p2 := p2 (fun z => c (k2.mpr z))
    rintro _ rfl
    cases a2 with
    | none => exact ⟨fun c => absurd rfl c, fun _ => p2⟩
    | some y =>
      refine ⟨fun _ => ?_, fun c => absurd c (nI_m1 (hb2 y rfl))⟩
      rintro _ rfl
      rw [en_s, nI_add]
      exact p2
  unfold wp_F_baseCost
  rw [hN, hNc, ho, hoc, hic]
  refine ⟨hNi, hoi, ?_⟩
  rintro _ rfl
  refine ⟨hin, ?_⟩
  rintro _ rfl
  rw [hk, hs]
  refine ⟨fun c => ?_, fun c => ?_⟩
  · have c := k1.mp c
    refine J s (fun _ => ?_) (fun q => absurd (by omega) q)
    rw [show bcost k s a1 a2 = some s from if_pos c] at h
    exact h
  · have c : ¬ k < 1 := fun z => c (k1.mpr z)
    rw [show bcost k s a1 a2 = _ from if_neg c] at h
    refine ⟨hNi, hin, ?_⟩
    rw [h10, h6]
    refine w_place ⟨ix_in hu1 hg1, ?_⟩
    rw [ix_cl hu1 hg1, ha1]
    rintro _ rfl
    cases a1 with
    | none => exact ⟨fun q => absurd rfl q, fun _ => h⟩
    | some x =>
      refine ⟨fun _ => ?_, fun q => absurd q (nI_m1 (hb1 x rfl))⟩
      rintro _ rfl
      rw [en_s, nI_add]
      refine J (s + x) (fun q => ?_) (fun q => ?_)
      · have h : post (en (if k < 2 then some (s + x) else a2.map (fun y => s + x + y))) n f := h
        rw [if_pos q] at h
        exact h
      · have h : post (en (if k < 2 then some (s + x) else a2.map (fun y => s + x + y))) n f := h
        rw [if_neg q] at h
        exact h
