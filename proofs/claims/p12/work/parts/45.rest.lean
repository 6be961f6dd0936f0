/-! the class: too dear, alike, the first alike, the place in a cover, the count of states -/
theorem w_tooDear {post : Int32 → ctN → ctF → Prop} {n : ctN} {f : ctF} {N : Nat} {C Q : Nat → Option Nat} (hN : n 2 = nI N) (hN' : N < 120) (hr : rowC N f C Q) (h1 : (∃ g x, g < 8 ∧ C g = some x ∧ 1000000 < x) → post 1 n f) (h0 : (∀ g x, g < 8 → C g = some x → x ≤ 1000000) → post 0 n f) : wp_F_draftIsTooDear post n f := by
  have e8 : (8 : Int32) = nI 8 := ix_8
  have em : (1000000 : Int32) = nI 1000000 := by decide
  have loop : ∀ (d m : Nat), 8 = m + d → (∀ g x, g < m → C g = some x → x ≤ 1000000) → wp_F_draftIsTooDear_L2 post (d + 1) (nI m) n f := by
    intro d
    induction d with
    | zero =>
      intro m hd hb
      have e : m = 8 := by omega
      subst e
      rw [wp_F_draftIsTooDear_L2]
      exact ⟨fun _ => h0 hb, fun q => absurd (by rw [e8]; exact nI_le (Nat.le_refl 8) (by decide)) q⟩
    | succ d ih =>
      intro m hd hb
      have hm : m < 8 := by omega
      rw [wp_F_draftIsTooDear_L2]
      refine ⟨fun q => absurd q (by rw [e8]; exact nI_ge hm (by decide)), fun _ => ?_⟩
      rw [hN]
      refine w_place ⟨ix_in hN' hm, ?_⟩
      rw [ix_cl hN' hm, (hr.1 m hm).1, nI_1, em]
      have hlt : ∀ x, C m = some x → x < 2 ^ 31 := fun x hx => Nat.lt_trans (hr.2 m x hx) (by decide)
      refine ⟨fun q => ?_, fun q => ?_⟩
      · rintro _ rfl
        refine ih (m + 1) (by omega) (fun g x hg hx => ?_)
        by_cases e : g = m
        · subst e
          rw [hx] at q
          exact (nI_leI (hlt x hx) (by decide)).mp q
        · exact hb g x (by omega) hx
      · cases hc : C m with
        | none => rw [hc, en_n] at q; exact absurd (by decide) q
        | some x =>
          rw [hc, en_s] at q
          refine h1 ⟨m, x, hm, hc, ?_⟩
          rcases Nat.lt_or_ge 1000000 x with z | z
          · exact z
          · exact absurd ((nI_leI (hlt x hc) (by decide)).mpr z) q
  unfold wp_F_draftIsTooDear
  refine ⟨9, ?_⟩
  have q := loop 8 0 (by omega) (fun g _ hg => absurd hg (Nat.not_lt_zero _))
  rw [nI_0] at q
  exact q
/-- what the class asks of two nodes that are alike, up to goal m -/
def likeTo (f : ctF) (v w m : Nat) : Prop := ∀ g, g < m → f 15 (8 * v + g) = f 15 (8 * w + g) ∧ (f 15 (8 * v + g) = -1 ∨ f 14 (8 * v + g) - f 12 v = f 14 (8 * w + g) - f 12 w)
theorem w_alike {post : Int32 → ctN → ctF → Prop} {n : ctN} {f : ctF} {v w : Nat} (hv : v < 120) (hw : w < 120) (h1 : likeTo f v w 8 → post 1 n f) (h0 : ¬ likeTo f v w 8 → post 0 n f) : wp_F_alike post (nI v) (nI w) n f := by
  have e8 : (8 : Int32) = nI 8 := ix_8
  have hvc : (nI v).toNatClampNeg = v := nI_clamp (by omega)
  have hwc : (nI w).toNatClampNeg = w := nI_clamp (by omega)
  have hvi : vp_in (nI v) 120 := vp_in_nI hv (by decide)
  have hwi : vp_in (nI w) 120 := vp_in_nI hw (by decide)
  have loop : ∀ (d m : Nat), 8 = m + d → likeTo f v w m → wp_F_alike_L2 post (d + 1) (nI v) (nI w) (nI m) n f := by
    intro d
    induction d with
    | zero =>
      intro m hd hb
      have e : m = 8 := by omega
      subst e
      rw [wp_F_alike_L2]
      exact ⟨fun _ => h1 hb, fun q => absurd (by rw [e8]; exact nI_le (Nat.le_refl 8) (by decide)) q⟩
    | succ d ih =>
      intro m hd hb
      have hm : m < 8 := by omega
      have hA := ix_in hv hm
      have hB := ix_in hw hm
      have nx : f 15 (8 * v + m) = f 15 (8 * w + m) → (f 15 (8 * v + m) = -1 ∨ f 14 (8 * v + m) - f 12 v = f 14 (8 * w + m) - f 12 w) → likeTo f v w (m + 1) := fun a b g hg => by
        by_cases e : g = m
        · subst e; exact ⟨a, b⟩
        · exact hb g (by omega)
      rw [wp_F_alike_L2]
      refine ⟨fun q => absurd q (by rw [e8]; exact nI_ge hm (by decide)), fun _ => ?_⟩
      refine w_place (w_place ⟨hA, hB, ?_⟩)
      rw [ix_cl hv hm, ix_cl hw hm, nI_1, hvc, hwc]
      refine ⟨fun a => ⟨hA, fun b => ?_, fun b => ⟨hA, hvi, hB, hwi, fun c => ?_, fun c => ?_⟩⟩, fun a => h0 (fun q => a (q m hm).1)⟩
      · rintro _ rfl
        exact ih (m + 1) (by omega) (nx a (Or.inl b))
      · rintro _ rfl
        exact ih (m + 1) (by omega) (nx a (Or.inr c))
      · refine h0 (fun q => ?_)
        rcases (q m hm).2 with z | z
        · exact b z
        · exact c z
  unfold wp_F_alike
  refine ⟨9, ?_⟩
  have q := loop 8 0 (by omega) (fun g hg => absurd hg (Nat.not_lt_zero _))
  rw [nI_0] at q
  exact q
theorem w_firstAlike {post : Int32 → ctN → ctF → Prop} {n : ctN} {f : ctF} {v : Nat} (hv : v < 120) (h : ∀ m, m ≤ v → (m = v ∨ (f 13 m = nI m ∧ likeTo f m v 8)) → (∀ j, j < m → ¬ (f 13 j = nI j ∧ likeTo f j v 8)) → post (nI m) n f) : wp_F_firstAlike post (nI v) n f := by
  have loop : ∀ (d m : Nat), v = m + d → (∀ j, j < m → ¬ (f 13 j = nI j ∧ likeTo f j v 8)) → wp_F_firstAlike_L2 post (d + 1) (nI v) (nI m) n f := by
    intro d
    induction d with
    | zero =>
      intro m hd hb
      have e : m = v := by omega
      subst e
      rw [wp_F_firstAlike_L2]
      exact ⟨fun _ => h m (Nat.le_refl _) (Or.inl rfl) hb, fun q => absurd (nI_le (Nat.le_refl m) (by omega)) q⟩
    | succ d ih =>
      intro m hd hb
      have hm : m < v := by omega
      have hmc : (nI m).toNatClampNeg = m := nI_clamp (by omega)
      have nx : ¬ (f 13 m = nI m ∧ likeTo f m v 8) → ∀ j, j < m + 1 → ¬ (f 13 j = nI j ∧ likeTo f j v 8) := fun a j hj => by
        by_cases e : j = m
        · subst e; exact a
        · exact hb j (by omega)
      rw [wp_F_firstAlike_L2, hmc, nI_1]
      refine ⟨fun q => absurd q (nI_ge hm (by omega)), fun _ => ⟨vp_in_nI (by omega) (by decide), fun c => ?_, fun c => ?_⟩⟩
      · rintro _ rfl
        exact ih (m + 1) (by omega) (nx (fun q => c q.1))
      · refine w_alike (by omega) hv (fun a => ⟨fun q => absurd q (by decide), fun _ => h m (by omega) (Or.inr ⟨c, a⟩) hb⟩) (fun a => ⟨fun _ => ?_, fun q => absurd rfl q⟩)
        rintro _ rfl
        exact ih (m + 1) (by omega) (nx (fun q => a q.2))
  unfold wp_F_firstAlike
  refine ⟨v + 1, ?_⟩
  have q := loop v 0 (by omega) (fun g hg => absurd hg (Nat.not_lt_zero _))
  rw [nI_0] at q
  exact q
theorem w_keepDraft {post : Int32 → ctN → ctF → Prop} {n : ctN} {f : ctF} {N : Nat} (hN : n 2 = nI N) (hN' : N < 120) (h : ∀ m, m ≤ N → (m = N ∨ (f 13 m = nI m ∧ likeTo f m N 8)) → (∀ j, j < m → ¬ (f 13 j = nI j ∧ likeTo f j N 8)) → post (nI N) (va_up n 2 (nI (N + 1))) (va_up f 13 (upd (f 13) N (nI m)))) : wp_F_keepDraft post n f := by
  have hNc : (nI N).toNatClampNeg = N := nI_clamp (by omega)
  unfold wp_F_keepDraft
  rintro _ rfl
  rw [hN]
  refine w_firstAlike hN' (fun m a b c => ⟨vp_in_nI hN' (by decide), ?_⟩)
  rw [hNc, nI_1]
  rintro _ rfl _ rfl
  exact h m a b c
theorem w_countStates {post : Int32 → ctN → ctF → Prop} {n : ctN} {f : ctF} {N : Nat} (hN : n 2 = nI N) (hN' : N ≤ 120) (h : post (nI (q_sm (fun v => if f 13 v = nI v then 1 else 0) N)) n f) : wp_F_countStates post n f := by
  have loop : ∀ (d m : Nat), N = m + d → wp_F_countStates_L4 post (d + 1) (nI (q_sm (fun v => if f 13 v = nI v then 1 else 0) m)) (nI m) n f := by
    intro d
    induction d with
    | zero =>
      intro m hd
      have e : m = N := by omega
      subst e
      rw [wp_F_countStates_L4, hN]
      exact ⟨fun _ => h, fun q => absurd (nI_le (Nat.le_refl m) (by omega)) q⟩
    | succ d ih =>
      intro m hd
      have hm : m < N := by omega
      have hmc : (nI m).toNatClampNeg = m := nI_clamp (by omega)
      have q := ih (m + 1) (by omega)
      rw [q_sm] at q
      rw [wp_F_countStates_L4, hN, hmc, nI_1, nI_1]
      refine ⟨fun z => absurd z (nI_ge hm (by omega)), fun _ => ⟨vp_in_nI (by omega) (by decide), fun c => ?_, fun c => ?_⟩⟩
      · rintro _ rfl
        rw [if_neg c] at q
        exact q
      · rintro _ rfl _ rfl
        rw [if_pos c] at q
        exact q
  unfold wp_F_countStates
  refine ⟨N + 1, ?_⟩
  have q := loop N 0 (by omega)
  rw [nI_0] at q
  exact q
/-- the place in a cover: safe, and some place of a node -/
theorem w_findInCover {post : Int32 → ctN → ctF → Prop} {n : ctN} {f : ctF} {G : GD} {T : TD} (hG : G.ok) (hT : T.ok G) (hC : gC G n f) (hD : tC G T n f) {p q : Nat} (hp : p < 8 * T.N) (hq : q ≤ 2001) (h : ∀ p, p < 8 * T.N → post (nI p) n f) : wp_F_findInCover post (nI p) (nI q) n f := by
  have hN120 := hT.N120
  have hR40 := hG.R40
  have e960 : (960 : Int32) = nI 960 := by decide
  have e8 : (8 : Int32) = nI 8 := ix_8
  have loop : ∀ (d p q st : Nat), 960 = st + d → p < 8 * T.N → q ≤ 2001 + st → wp_F_findInCover_L8 post (d + 1) (nI p) (nI q) (nI st) n f := by
    intro d
    induction d with
    | zero =>
      intro p q st hd hp hq
      have e : st = 960 := by omega
      subst e
      rw [wp_F_findInCover_L8]
      exact ⟨fun _ => h p hp, fun z => absurd (by rw [e960]; exact nI_le (Nat.le_refl 960) (by decide)) z⟩
    | succ d ih =>
      intro p q st hd hp hq
      have hpc : (nI p).toNatClampNeg = p := nI_clamp (by omega)
      have hpi : vp_in (nI p) 960 := vp_in_nI (by omega) (by decide)
      have hv : p / 8 < T.N := by omega
      have hg : p % 8 < 8 := by omega
      have hpe : 8 * (p / 8) + p % 8 = p := by omega
      obtain ⟨s1, s2⟩ := hD.ru (p / 8) (p % 8) hv hg
      rw [hpe] at s1 s2
      rw [wp_F_findInCover_L8, hpc, e8, pk_div (by omega) (by decide) (by decide), nI_1]
      refine ⟨fun z => absurd z (by rw [e960]; exact nI_ge (by omega) (by decide)), fun _ => ⟨hpi, fun _ => h p hp, fun c => ⟨hpi, ?_⟩⟩⟩
      rintro _ rfl _ rfl
      rcases s2 with ⟨a1, a2⟩ | ⟨i, hi, hr⟩
      · exfalso
        apply c
        rw [a2, w_le, nI_toInt (by omega)]
        have : ((-1 : Int32) - 1).toInt = -2 := by decide
        omega
      · have hic : (nI i).toNatClampNeg = i := nI_clamp (by omega)
        have hin : vp_in (nI i) 40 := vp_in_nI (by omega) (by decide)
        have hvc : (nI (p / 8)).toNatClampNeg = p / 8 := nI_clamp (by omega)
        have hvi : vp_in (nI (p / 8)) 120 := vp_in_nI (by omega) (by decide)
        obtain ⟨r4, r5, r6, r7, r8⟩ := hC.ru i hi
        obtain ⟨q1, q2, q3, q4, q5⟩ := hG.ru i hi
        obtain ⟨n9, n10, n11⟩ := hD.nd (p / 8) hv
        obtain ⟨m1, m2, m3, m4⟩ := hT.nd (p / 8) hv
        rw [hr, hic, hvc, r6, n10]
        refine ⟨hin, fun _ => ⟨hvi, hin, w_place ⟨ix_in (by omega) q3, ?_⟩⟩, fun _ => ⟨hin, w_place ?_⟩⟩
        · rw [ix_cl (by omega) q3]
          obtain ⟨t1, t2⟩ := (hD.ru (T.u1 (p / 8)) (G.g1 i) (by omega) q3).1
          refine ⟨fun z => ⟨ix_in (by omega) q3, ?_⟩, fun _ => ?_⟩
          · rintro _ rfl
            rw [r7, n11]
            refine ⟨hvi, hin, w_place ?_⟩
            rintro _ rfl
            rw [w_le, nI_toInt (by omega)] at z
            have hs : nI q - f 16 (8 * T.u1 (p / 8) + G.g1 i) = nI ((q : Int) - (f 16 (8 * T.u1 (p / 8) + G.g1 i)).toInt).toNat := by
              apply Int32.toInt_inj.mp
              rw [ia_sub (by rw [nI_toInt (by omega)]; omega) (by rw [nI_toInt (by omega)]; omega) (by omega) (by omega), nI_toInt (by omega), nI_toInt (by omega)]
              omega
            rw [hs]
            exact ih _ _ (st + 1) (by omega) (by omega) (by omega)
          · rintro _ rfl
            exact ih _ q (st + 1) (by omega) (by omega) (by omega)
        · rintro _ rfl
          exact ih _ q (st + 1) (by omega) (by omega) (by omega)
  unfold wp_F_findInCover
  refine ⟨961, ?_⟩
  have z := loop 960 p q 0 (by omega) hp (by omega)
  rw [nI_0] at z
  exact z
