/-! base -/
def bBad (G : GD) (p1 p2 p3 p4 p5 : Int32) : Prop := badIx p1 8 ∨ badIx p2 G.O ∨ (∃ o, o < G.O ∧ p2 = nI o ∧ ((1 ≤ G.k o ∧ badIx p3 8) ∨ (2 ≤ G.k o ∧ badIx p4 8))) ∨ p5 < 0 ∨ ¬ p5 ≤ 20
def bGood (G : GD) (p1 p2 p3 p4 p5 : Int32) (g o h1 h2 c : Nat) : Prop := (g < 8) ∧ (o < G.O) ∧ (c ≤ 20) ∧ (p1 = nI g) ∧ (p2 = nI o) ∧ (p5 = nI c) ∧ (h1 < 8) ∧ (h2 < 8) ∧ (1 ≤ G.k o → p3 = nI h1) ∧ (¬ 1 ≤ G.k o → h1 = 0) ∧ (2 ≤ G.k o → p4 = nI h2) ∧ (¬ 2 ≤ G.k o → h2 = 0)
theorem bGood.g8 {G : GD} {p1 p2 p3 p4 p5 : Int32} {g o h1 h2 c : Nat} (h : bGood G p1 p2 p3 p4 p5 g o h1 h2 c) : g < 8 := h.1
theorem bGood.oO {G : GD} {p1 p2 p3 p4 p5 : Int32} {g o h1 h2 c : Nat} (h : bGood G p1 p2 p3 p4 p5 g o h1 h2 c) : o < G.O := h.2.1
theorem bGood.c20 {G : GD} {p1 p2 p3 p4 p5 : Int32} {g o h1 h2 c : Nat} (h : bGood G p1 p2 p3 p4 p5 g o h1 h2 c) : c ≤ 20 := h.2.2.1
theorem bGood.e1 {G : GD} {p1 p2 p3 p4 p5 : Int32} {g o h1 h2 c : Nat} (h : bGood G p1 p2 p3 p4 p5 g o h1 h2 c) : p1 = nI g := h.2.2.2.1
theorem bGood.e2 {G : GD} {p1 p2 p3 p4 p5 : Int32} {g o h1 h2 c : Nat} (h : bGood G p1 p2 p3 p4 p5 g o h1 h2 c) : p2 = nI o := h.2.2.2.2.1
theorem bGood.e5 {G : GD} {p1 p2 p3 p4 p5 : Int32} {g o h1 h2 c : Nat} (h : bGood G p1 p2 p3 p4 p5 g o h1 h2 c) : p5 = nI c := h.2.2.2.2.2.1
theorem bGood.h18 {G : GD} {p1 p2 p3 p4 p5 : Int32} {g o h1 h2 c : Nat} (h : bGood G p1 p2 p3 p4 p5 g o h1 h2 c) : h1 < 8 := h.2.2.2.2.2.2.1
theorem bGood.h28 {G : GD} {p1 p2 p3 p4 p5 : Int32} {g o h1 h2 c : Nat} (h : bGood G p1 p2 p3 p4 p5 g o h1 h2 c) : h2 < 8 := h.2.2.2.2.2.2.2.1
theorem bGood.e3 {G : GD} {p1 p2 p3 p4 p5 : Int32} {g o h1 h2 c : Nat} (h : bGood G p1 p2 p3 p4 p5 g o h1 h2 c) : 1 ≤ G.k o → p3 = nI h1 := h.2.2.2.2.2.2.2.2.1
theorem bGood.e3' {G : GD} {p1 p2 p3 p4 p5 : Int32} {g o h1 h2 c : Nat} (h : bGood G p1 p2 p3 p4 p5 g o h1 h2 c) : ¬ 1 ≤ G.k o → h1 = 0 := h.2.2.2.2.2.2.2.2.2.1
theorem bGood.e4 {G : GD} {p1 p2 p3 p4 p5 : Int32} {g o h1 h2 c : Nat} (h : bGood G p1 p2 p3 p4 p5 g o h1 h2 c) : 2 ≤ G.k o → p4 = nI h2 := h.2.2.2.2.2.2.2.2.2.2.1
theorem bGood.e4' {G : GD} {p1 p2 p3 p4 p5 : Int32} {g o h1 h2 c : Nat} (h : bGood G p1 p2 p3 p4 p5 g o h1 h2 c) : ¬ 2 ≤ G.k o → h2 = 0 := h.2.2.2.2.2.2.2.2.2.2.2
theorem b_part (c : Prop) (p : Int32) : (c ∧ badIx p 8) ∨ ∃ h, h < 8 ∧ (c → p = nI h) ∧ (¬ c → h = 0) := by
  by_cases hc : c
  · rcases ix_or p (N := 8) (by decide) with hp | ⟨h, hh, rfl⟩
    · exact Or.inl ⟨hc, hp⟩
    · exact Or.inr ⟨h, hh, fun _ => rfl, fun z => absurd hc z⟩
  · exact Or.inr ⟨0, by decide, fun z => absurd z hc, fun _ => rfl⟩
theorem b_or {G : GD} (hG : G.ok) (p1 p2 p3 p4 p5 : Int32) : bBad G p1 p2 p3 p4 p5 ∨ ∃ g o h1 h2 c, bGood G p1 p2 p3 p4 p5 g o h1 h2 c := by
  unfold bBad
  rcases ix_or p1 (N := 8) (by decide) with hp | ⟨g, hg, e1⟩
  · exact Or.inl (Or.inl hp)
  · rcases ix_or p2 (N := G.O) (by have := hG.O10; omega) with hq | ⟨o, ho, e2⟩
    · exact Or.inl (Or.inr (Or.inl hq))
    · rcases b_part (1 ≤ G.k o) p3 with h3 | ⟨h1, h18, e3, e3'⟩
      · exact Or.inl (Or.inr (Or.inr (Or.inl ⟨o, ho, e2, Or.inl h3⟩)))
      · rcases b_part (2 ≤ G.k o) p4 with h4 | ⟨h2, h28, e4, e4'⟩
        · exact Or.inl (Or.inr (Or.inr (Or.inl ⟨o, ho, e2, Or.inr h4⟩)))
        · rcases cost_or p5 with h5 | ⟨c, hc, e5⟩
          · exact Or.inl (Or.inr (Or.inr (Or.inr h5)))
          · exact Or.inr ⟨g, o, h1, h2, c, hg, ho, hc, e1, e2, e5, h18, h28, e3, e3', e4, e4'⟩
theorem lt1_nI {k : Nat} (h : k ≤ 2) : nI k < 1 ↔ k < 1 := by rw [show (1 : Int32) = nI 1 by decide]; exact nI_ltI (by omega) (by decide)
theorem lt2_nI {k : Nat} (h : k ≤ 2) : nI k < 2 ↔ k < 2 := by rw [show (2 : Int32) = nI 2 by decide]; exact nI_ltI (by omega) (by decide)
theorem c_base_go {post : Int32 → ctN → ctF → Prop} {xp : String → ctN → ctF → Prop} {n : ctN} {f : ctF} {G : GD} {g o : Nat} {p3 p4 p5 : Int32} (hG : G.ok) (hC : gC G n f) (hg : g < 8) (ho : o < G.O) (hx : (1 ≤ G.k o ∧ badIx p3 8 ∨ 2 ≤ G.k o ∧ badIx p4 8) → xp "java/lang/IllegalArgumentException" n f)
    (H : ¬ (1 ≤ G.k o ∧ badIx p3 8 ∨ 2 ≤ G.k o ∧ badIx p4 8) → wp_C_base_J76 post xp (nI g) (nI o) p3 p4 p5 (nI (G.k o)) n f) : wp_C_base post xp (nI g) (nI o) p3 p4 p5 n f := by
  have hO := hG.O10
  have hk := hG.k2 o ho
  have J52 : ¬ (1 ≤ G.k o ∧ badIx p3 8) → wp_C_base_J52 post xp (nI g) (nI o) p3 p4 p5 (nI (G.k o)) n f := by
    intro h3
    unfold wp_C_base_J52
    refine ⟨fun z => H (fun u => u.elim h3 (fun u => by have := (lt2_nI hk).mp z; omega)), fun z => ?_⟩
    have z2 : 2 ≤ G.k o := by
      have : ¬ G.k o < 2 := fun y => z ((lt2_nI hk).mpr y)
      omega
    rcases ix_or p4 (N := 8) (by decide) with hp | ⟨h2, hh2, rfl⟩
    · exact c_goal0 hp ⟨fun y => absurd rfl y, fun _ => hx (Or.inr ⟨z2, hp⟩)⟩
    · exact c_goal1 hh2 ⟨fun _ => H (fun u => u.elim h3 (fun u => ix_no hh2 (by decide) u.2)), fun y => absurd y (by decide)⟩
  unfold wp_C_base
  refine c_goal1 hg ⟨fun z => absurd z (by decide), fun _ => c_op1 hC.nO hO ho ⟨fun _ => ⟨vp_in_nI (by omega) (by decide), ?_⟩, fun z => absurd z (by decide)⟩⟩
  rw [nI_clamp (by omega), hC.pa o ho]
  rintro _ rfl
  refine ⟨fun z => J52 (fun u => by have := (lt1_nI hk).mp z; omega), fun z => ?_⟩
  have z1 : 1 ≤ G.k o := by
    have : ¬ G.k o < 1 := fun y => z ((lt1_nI hk).mpr y)
    omega
  rcases ix_or p3 (N := 8) (by decide) with hp | ⟨h1, hh1, rfl⟩
  · exact c_goal0 hp ⟨fun _ => hx (Or.inl ⟨z1, hp⟩), fun y => absurd rfl y⟩
  · exact c_goal1 hh1 ⟨fun y => absurd y (by decide), fun _ => J52 (fun u => ix_no hh1 (by decide) u.2)⟩
theorem lc_base {post : Int32 → ctN → ctF → Prop} {n : ctN} {f : ctF} {G : GD} {T : TD} {p1 p2 p3 p4 p5 : Int32} (I : IV G T n f) (h1 : bBad G p1 p2 p3 p4 p5 → post 1 n f) (h2 : ∀ g o a b c, bGood G p1 p2 p3 p4 p5 g o a b c → G.R = 40 → post 2 n f) (h0 : ∀ g o a b c, bGood G p1 p2 p3 p4 p5 g o a b c → G.R < 40 → ∀ n' f', AR G T g (some o) a b c n' f' → post 0 n' f') : wp_L_base post p1 p2 p3 p4 p5 n f := by
  have hR := I.g.R40
  unfold wp_L_base
  rcases b_or I.g p1 p2 p3 p4 p5 with hb | ⟨g, o, a, b, c, B⟩
  · right
    have H := h1 hb
    rcases ix_or p1 (N := 8) (by decide) with hp | ⟨g, hg, rfl⟩
    · unfold wp_C_base
      exact c_goal0 hp ⟨fun _ => Or.inl ⟨rfl, H⟩, fun z => absurd rfl z⟩
    · rcases ix_or p2 (N := G.O) (by have := I.g.O10; omega) with hq | ⟨o, ho, rfl⟩
      · unfold wp_C_base
        exact c_goal1 hg ⟨fun z => absurd z (by decide), fun _ => c_op0 I.gc.nO hq ⟨fun z => absurd rfl z, fun _ => Or.inl ⟨rfl, H⟩⟩⟩
      · refine c_base_go I.g I.gc hg ho (fun _ => Or.inl ⟨rfl, H⟩) (fun hno => ?_)
        unfold wp_C_base_J76
        refine Or.inr (c_cost0 ?_ (Or.inl ⟨rfl, H⟩))
        rcases hb with z | z | ⟨o2, ho2, e, z⟩ | z
        · exact absurd z (ix_no hg (by decide))
        · exact absurd z (ix_no ho (by have := I.g.O10; omega))
        · have hO := I.g.O10
          rw [nI_eq (by omega) (by omega)] at e
          subst e
          exact absurd z hno
        · exact z
  · obtain ⟨g8, oO, c20, rfl, rfl, rfl, h18, h28, e3, e3', e4, e4'⟩ := id B
    have hk := I.g.k2 o oO
    have nob : ¬ (1 ≤ G.k o ∧ badIx p3 8 ∨ 2 ≤ G.k o ∧ badIx p4 8) := by
      rintro (⟨z1, z2⟩ | ⟨z1, z2⟩)
      · rw [e3 z1] at z2; exact ix_no h18 (by decide) z2
      · rw [e4 z1] at z2; exact ix_no h28 (by decide) z2
    rcases Nat.lt_or_ge G.R 40 with hR2 | hR2
    · left
      refine c_base_go I.g I.gc g8 oO (fun z => absurd z nob) (fun _ => ?_)
      unfold wp_C_base_J76
      refine Or.inl (c_cost1 c20 (Or.inl (w_checkRoom (fun _ => ?_) (fun z => absurd (by rw [I.gc.nR, lt40_nI hR]; exact hR2) z))))
      rintro _ rfl
      have add : ∀ x3 x4 : Int32, x3 = nI a → x4 = nI b → wp_G_addRule (fun (r : Int32) (n : ctN) (f : ctF) => ∀ f2 : ctF, f2 = va_up f 32 (upd (f 32) 0 r) → post 0 n f2) (nI g) (nI o) x3 x4 (nI c) (va_up n 2 0) f := by
        rintro _ _ rfl rfl
        refine c_addRule (R := G.R) (by rw [va_up_ne _ _ (by decide)]; exact I.gc.nR) hR2 (fun f1 w4 w5 w6 w7 w8 wo f2 hf2 => ?_)
        exact h0 g o a b c B hR2 _ f2 (AR.of I rfl w4 w5 w6 w7 w8 wo hf2)
      have z0 : (0 : Int32) = nI 0 := nI_0.symm
      refine ⟨fun y1 => ⟨fun y2 => ?_, fun y2 => ?_⟩, fun y1 => ⟨fun y2 => ?_, fun y2 => ?_⟩⟩
      · have := (lt1_nI hk).mp y1
        exact add 0 0 (by rw [e3' (by omega)]; exact z0) (by rw [e4' (by omega)]; exact z0)
      · have := (lt1_nI hk).mp y1
        exact absurd ((lt2_nI hk).mpr (by omega)) y2
      · have q1 : ¬ G.k o < 1 := fun u => y1 ((lt1_nI hk).mpr u)
        have := (lt2_nI hk).mp y2
        exact add p3 0 (e3 (by omega)) (by rw [e4' (by omega)]; exact z0)
      · have q1 : ¬ G.k o < 1 := fun u => y1 ((lt1_nI hk).mpr u)
        have q2 : ¬ G.k o < 2 := fun u => y2 ((lt2_nI hk).mpr u)
        exact add p3 p4 (e3 (by omega)) (e4 (by omega))
    · right
      refine c_base_go I.g I.gc g8 oO (fun z => absurd z nob) (fun _ => ?_)
      unfold wp_C_base_J76
      exact Or.inl (c_cost1 c20 (Or.inr (w_checkRoom (fun z => absurd z (by rw [I.gc.nR, lt40_nI hR]; omega)) (fun _ => Or.inr ⟨rfl, h2 g o a b c B (by omega)⟩))))
theorem m_base_J36 {post : Int32 → ctN → ctF → Prop} {n : ctN} {f : ctF} {p1 p2 p3 p4 p5 : Int32} (h : post 0 (va_up n 3 1) f) : wp_M_base_J92 post p1 p2 p3 p4 p5 n f ∧ wp_M_base_J36 post p1 p2 p3 p4 p5 n f := by
  have J92 : wp_M_base_J92 post p1 p2 p3 p4 p5 n f := by
    unfold wp_M_base_J92 wp_M_base_J93
    refine ⟨fun z => absurd rfl z, fun _ => ?_⟩
    unfold wp_M_base_J106 wp_M_base_J120
    exact ⟨fun _ => m_ref1 ⟨fun z => absurd z (by decide), fun _ => h⟩, fun _ => m_ref1 ⟨fun z => absurd z (by decide), fun _ => h⟩⟩
  refine ⟨J92, ?_⟩
  unfold wp_M_base_J36 wp_M_base_J37
  refine ⟨fun _ => ?_, fun z => absurd rfl z⟩
  unfold wp_M_base_J54
  exact ⟨fun _ => J92, fun z => absurd rfl z⟩
/-- the reference's way through base, down to whether there is room -/
theorem m_base_go {post : Int32 → ctN → ctF → Prop} {n : ctN} {f : ctF} {G : GD} {g o c : Nat} {p3 p4 : Int32} (hG : G.ok) (hM : gM G n f) (hg : g < 8) (ho : o < G.O) (hc : c ≤ 20) (hx : (1 ≤ G.k o ∧ badIx p3 8 ∨ 2 ≤ G.k o ∧ badIx p4 8) → post 0 (va_up n 3 1) f)
    (H : ¬ (1 ≤ G.k o ∧ badIx p3 8 ∨ 2 ≤ G.k o ∧ badIx p4 8) → wp_M_base_J106 post (nI g) (nI o) p3 p4 (nI c) 0 n f) : wp_M_base post (nI g) (nI o) p3 p4 (nI c) n f := by
  have hO := hG.O10
  have hk := hG.k2 o ho
  have J88 : ¬ (1 ≤ G.k o ∧ badIx p3 8 ∨ 2 ≤ G.k o ∧ badIx p4 8) → wp_M_base_J88 post (nI g) (nI o) p3 p4 (nI c) n f := by
    intro h
    unfold wp_M_base_J88 wp_M_base_J93
    exact ⟨fun _ => H h, fun z => absurd z (by decide)⟩
  have J74 : ¬ (1 ≤ G.k o ∧ badIx p3 8) → wp_M_base_J74 post (nI g) (nI o) p3 p4 (nI c) (nI (G.k o)) n f := by
    intro h3
    unfold wp_M_base_J74
    refine ⟨fun z => J88 (fun u => u.elim h3 (fun u => by have := (lt2_nI hk).mp z; omega)), fun z => ?_⟩
    have z2 : 2 ≤ G.k o := by
      have : ¬ G.k o < 2 := fun y => z ((lt2_nI hk).mpr y)
      omega
    rcases ix_or p4 (N := 8) (by decide) with hp | ⟨h2, hh2, rfl⟩
    · exact m_goal0 hp ⟨fun _ => (m_base_J36 (hx (Or.inr ⟨z2, hp⟩))).1, fun y => absurd rfl y⟩
    · exact m_goal1 hh2 ⟨fun y => absurd y (by decide), fun _ => J88 (fun u => u.elim h3 (fun u => ix_no hh2 (by decide) u.2))⟩
  unfold wp_M_base
  refine m_goal1 hg ⟨fun z => absurd z (by decide), fun _ => m_in1 hM.nO (by omega) ho ⟨fun z => absurd z (by decide), fun _ => m_cost1 hc ⟨fun z => absurd z (by decide), fun _ => ?_⟩⟩⟩
  unfold wp_M_base_J37
  rw [nI_clamp (by omega), hM.pa o ho]
  refine ⟨fun z => absurd z (by decide), fun _ => ⟨vp_in_nI (by omega) (by decide), ?_⟩⟩
  unfold wp_M_base_J54
  refine ⟨fun z => absurd z (by decide), fun _ => ⟨fun z => J74 (fun u => by have := (lt1_nI hk).mp z; omega), fun z => ?_⟩⟩
  have z1 : 1 ≤ G.k o := by
    have : ¬ G.k o < 1 := fun y => z ((lt1_nI hk).mpr y)
    omega
  rcases ix_or p3 (N := 8) (by decide) with hp | ⟨h1, hh1, rfl⟩
  · exact m_goal0 hp ⟨fun _ => (m_base_J36 (hx (Or.inl ⟨z1, hp⟩))).1, fun y => absurd rfl y⟩
  · exact m_goal1 hh1 ⟨fun y => absurd y (by decide), fun _ => J74 (fun u => ix_no hh1 (by decide) u.2)⟩
theorem lm_base_bad {post : Int32 → ctN → ctF → Prop} {n : ctN} {f : ctF} {G : GD} {p1 p2 p3 p4 p5 : Int32} (hG : G.ok) (hM : gM G n f) (hb : bBad G p1 p2 p3 p4 p5) (h : post 0 (va_up n 3 1) f) : wp_M_base post p1 p2 p3 p4 p5 n f := by
  have J36 := (m_base_J36 (p1 := p1) (p2 := p2) (p3 := p3) (p4 := p4) (p5 := p5) h).2
  have hO := hG.O10
  rcases ix_or p1 (N := 8) (by decide) with hp | ⟨g, hg, rfl⟩
  · unfold wp_M_base
    exact m_goal0 hp ⟨fun _ => J36, fun z => absurd rfl z⟩
  · rcases ix_or p2 (N := G.O) (by omega) with hq | ⟨o, ho, rfl⟩
    · unfold wp_M_base
      exact m_goal1 hg ⟨fun z => absurd z (by decide), fun _ => m_in0 hM.nO (by omega) hq ⟨fun _ => J36, fun z => absurd rfl z⟩⟩
    · rcases cost_or p5 with h5 | ⟨c, hc, rfl⟩
      · unfold wp_M_base
        exact m_goal1 hg ⟨fun z => absurd z (by decide), fun _ => m_in1 hM.nO (by omega) ho ⟨fun z => absurd z (by decide), fun _ => m_cost0 h5 ⟨fun _ => J36, fun z => absurd rfl z⟩⟩⟩
      · refine m_base_go hG hM hg ho hc (fun _ => h) (fun hno => ?_)
        exfalso
        rcases hb with z | z | ⟨o2, ho2, e, z⟩ | z
        · exact ix_no hg (by decide) z
        · exact ix_no ho (by omega) z
        · rw [nI_eq (by omega) (by omega)] at e
          subst e
          exact hno z
        · exact z.elim (nI_pos (by omega)) (fun u => u (le20_nI hc))
theorem bGood.no {G : GD} {p1 p2 p3 p4 p5 : Int32} {g o a b c : Nat} (B : bGood G p1 p2 p3 p4 p5 g o a b c) : ¬ (1 ≤ G.k o ∧ badIx p3 8 ∨ 2 ≤ G.k o ∧ badIx p4 8) := by
  rintro (⟨z1, z2⟩ | ⟨z1, z2⟩)
  · rw [B.e3 z1] at z2; exact ix_no B.h18 (by decide) z2
  · rw [B.e4 z1] at z2; exact ix_no B.h28 (by decide) z2
theorem lm_base_full {post : Int32 → ctN → ctF → Prop} {n : ctN} {f : ctF} {G : GD} {p1 p2 p3 p4 p5 : Int32} {g o a b c : Nat} (hG : G.ok) (hM : gM G n f) (B : bGood G p1 p2 p3 p4 p5 g o a b c) (hR : G.R = 40) (H : post 0 (va_up n 3 2) f) : wp_M_base post p1 p2 p3 p4 p5 n f := by
  rw [B.e1, B.e2, B.e5]
  refine m_base_go hG hM B.g8 B.oO B.c20 (fun z => absurd z B.no) (fun _ => ?_)
  unfold wp_M_base_J106
  refine ⟨fun z => absurd (by rw [hM.nR, hR]; decide) z, fun _ => ?_⟩
  unfold wp_M_base_J120
  exact m_ref2 ⟨fun z => absurd z (by decide), fun _ => H⟩
theorem lm_base_ok {post : Int32 → ctN → ctF → Prop} {n : ctN} {f : ctF} {G : GD} {T : TD} {p1 p2 p3 p4 p5 : Int32} {g o a b c : Nat} (hG : G.ok) (A : AR G T g (some o) a b c n f) (B : bGood G p1 p2 p3 p4 p5 g o a b c) (hR : G.R < 40) (H : ∀ n' f', IV (G.addR g (some o) a b c) T.zero n' f' → n' 3 = 0 → f' 32 0 = nI G.R → post (nI G.R) n' f') : wp_M_base post p1 p2 p3 p4 p5 n f := by
  rw [B.e1, B.e2, B.e5]
  refine m_base_go hG A.gm B.g8 B.oO B.c20 (fun z => absurd z B.no) (fun _ => ?_)
  unfold wp_M_base_J106
  refine ⟨fun _ => ?_, fun z => absurd z (by rw [A.gm.nR]; exact ne40_nI hR)⟩
  unfold wp_M_base_J120
  refine m_ref0 ⟨fun _ => ?_, fun z => absurd rfl z⟩
  refine m_add (R := G.R) (by rw [va_up_ne _ _ (by decide)]; exact A.gm.nR) hR (fun f' e20 e22 e23 e24 e21 eo => ?_)
  refine H _ f' (A.inv hG B.g8 B.h18 B.h28 B.c20 (fun o2 z => by cases z; exact B.oO) hR (x3 := p3) (x4 := p4) (fun z => nomatch z) (fun o2 z => by cases z; exact ⟨B.e3, B.e4⟩) e20 e22 e23 e24 e21 eo) ?_ ?_
  · rw [va_up_ne _ _ (by decide), va_up_ne _ _ (by decide), va_up_self]
  · rw [eo 32 (by decide)]; exact A.out
