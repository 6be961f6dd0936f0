/-! the reference's price: the rounds end, and leave the least costs -/
def gM (G : GD) (n : ctN) (f : ctF) : Prop := (n 4 = nI G.O) ∧ (n 5 = nI G.R) ∧ (∀ o, o < G.O → f 19 o = nI (G.k o)) ∧ (∀ i, i < G.R → f 20 i = nI (G.go i) ∧ f 21 i = nI (G.co i) ∧ f 22 i = en (G.op i) ∧ (G.op i = none → f 23 i = nI (G.g1 i)) ∧ ∀ o, G.op i = some o → (1 ≤ G.k o → f 23 i = nI (G.g1 i)) ∧ (2 ≤ G.k o → f 24 i = nI (G.g2 i)))
theorem gM.nO {G : GD} {n : ctN} {f : ctF} (h : gM G n f) : n 4 = nI G.O := h.1
theorem gM.nR {G : GD} {n : ctN} {f : ctF} (h : gM G n f) : n 5 = nI G.R := h.2.1
theorem gM.pa {G : GD} {n : ctN} {f : ctF} (h : gM G n f) : ∀ o, o < G.O → f 19 o = nI (G.k o) := h.2.2.1
theorem gM.ru {G : GD} {n : ctN} {f : ctF} (h : gM G n f) : ∀ i, i < G.R → f 20 i = nI (G.go i) ∧ f 21 i = nI (G.co i) ∧ f 22 i = en (G.op i) ∧ (G.op i = none → f 23 i = nI (G.g1 i)) ∧ ∀ o, G.op i = some o → (1 ≤ G.k o → f 23 i = nI (G.g1 i)) ∧ (2 ≤ G.k o → f 24 i = nI (G.g2 i)) := h.2.2.2
theorem gM.up {G : GD} {n n' : ctN} {f f' : ctF} (h : gM G n f) (e0 : n' 4 = n 4) (e1 : n' 5 = n 5) (e : ∀ k, 19 ≤ k → k ≤ 24 → f' k = f k) : gM G n' f' :=
  ⟨by rw [e0]; exact h.nO, by rw [e1]; exact h.nR, fun o ho => by rw [e 19 (by decide) (by decide)]; exact h.pa o ho, fun i hi => by
    rw [e 20 (by decide) (by decide), e 21 (by decide) (by decide), e 22 (by decide) (by decide), e 23 (by decide) (by decide), e 24 (by decide) (by decide)]; exact h.ru i hi⟩
def sameM (N : Nat) (f f' : ctF) : Prop := (∀ k, k ≠ 28 → k ≠ 29 → k ≠ 30 → k ≠ 31 → f' k = f k) ∧ ∀ j, j < 8 * N → f' 28 j = f 28 j ∧ f' 29 j = f 29 j ∧ f' 30 j = f 30 j
theorem sameM.rf (N : Nat) (f : ctF) : sameM N f f := ⟨fun _ _ _ _ _ => rfl, fun _ _ => ⟨rfl, rfl, rfl⟩⟩
theorem sameM.tr {N : Nat} {f g h : ctF} (a : sameM N f g) (b : sameM N g h) : sameM N f h :=
  ⟨fun k h1 h2 h3 h4 => (b.1 k h1 h2 h3 h4).trans (a.1 k h1 h2 h3 h4), fun j hj => ⟨((b.2 j hj).1).trans (a.2 j hj).1, ((b.2 j hj).2.1).trans (a.2 j hj).2.1, ((b.2 j hj).2.2).trans (a.2 j hj).2.2⟩⟩
theorem gM.same {G : GD} {n : ctN} {f f' : ctF} {N : Nat} (h : gM G n f) (e : sameM N f f') : gM G n f' :=
  h.up rfl rfl (fun k _ _ => e.1 k (by omega) (by omega) (by omega) (by omega))
/-- the node that is priced: its operator and parts, the costs of the nodes before it -/
def aM (G : GD) (T : TD) (o a b : Nat) (f : ctF) : Prop := (f 25 T.N = nI o) ∧ (f 26 T.N = nI a) ∧ (f 27 T.N = nI b) ∧ (∀ v g, v < T.N → g < 8 → f 28 (8 * v + g) = en (T.C v g))
theorem aM.ko {G : GD} {T : TD} {o a b : Nat} {f : ctF} (h : aM G T o a b f) : f 25 T.N = nI o := h.1
theorem aM.p1 {G : GD} {T : TD} {o a b : Nat} {f : ctF} (h : aM G T o a b f) : f 26 T.N = nI a := h.2.1
theorem aM.p2 {G : GD} {T : TD} {o a b : Nat} {f : ctF} (h : aM G T o a b f) : f 27 T.N = nI b := h.2.2.1
theorem aM.co {G : GD} {T : TD} {o a b : Nat} {f : ctF} (h : aM G T o a b f) : ∀ v g, v < T.N → g < 8 → f 28 (8 * v + g) = en (T.C v g) := h.2.2.2
theorem aM.same {G : GD} {T : TD} {o a b : Nat} {f f' : ctF} (h : aM G T o a b f) (e : sameM T.N f f') : aM G T o a b f' :=
  ⟨by rw [e.1 25 (by decide) (by decide) (by decide) (by decide)]; exact h.ko, by rw [e.1 26 (by decide) (by decide) (by decide) (by decide)]; exact h.p1, by rw [e.1 27 (by decide) (by decide) (by decide) (by decide)]; exact h.p2, fun v g hv hg => by rw [(e.2 (8 * v + g) (by omega)).1]; exact h.co v g hv hg⟩
def rowM (N : Nat) (f : ctF) (D : Nat → Option Nat) : Prop := ∀ g, g < 8 → f 28 (8 * N + g) = en (D g)
theorem wm_costBy {post : Int32 → ctN → ctF → Prop} {n : ctN} {f : ctF} {G : GD} {T : TD} {o a b i : Nat} {D : Nat → Option Nat} (hG : G.ok) (hT : T.ok G) (hM : gM G n f) (hA : aM G T o a b f) (hN' : T.N < 120) (ho : o < G.O) (ha : 1 ≤ G.k o → a < T.N) (hb : 2 ≤ G.k o → b < T.N) (hr : rowM T.N f D) (hbd : bndC D) (hi : i < G.R) (h : post (en (byR (chG G) G.g1 G.co (prG G T o a b) D i)) n f) : wp_M_costBy post (nI T.N) (nI i) n f := by
  obtain ⟨q1, q2, q3, q4, q5⟩ := hG.ru i hi
  obtain ⟨r20, r21, r22, r23, rb⟩ := hM.ru i hi
  have hR := hG.R40
  have hO := hG.O10
  unfold byR chG at h
  cases e : G.op i with
  | none =>
    rw [e] at h
    exact wm_costChain (h := G.g1 i) (c := G.co i) (a := D (G.g1 i)) hN' (by omega) (by rw [r22, e]; rfl) (r23 e) q3 r21 (hr _ q3) (fun x hx => by have := bnd_lt hbd hx; omega) h
  | some o2 =>
    rw [e] at h
    have h : post (en (prG G T o a b i)) n f := h
    have ho2 := q5 o2 e
    by_cases c : o2 = o
    · subst c
      rw [show prG G T o2 a b i = bcost (G.k o2) (G.co i) (T.C a (G.g1 i)) (T.C b (G.g2 i)) from if_pos e] at h
      refine wm_costBase (o := o2) (k := G.k o2) (s := G.co i) (u1 := a) (u2 := b) (g1 := G.g1 i) (g2 := G.g2 i) (a1 := if 1 ≤ G.k o2 then T.C a (G.g1 i) else none) (a2 := if 2 ≤ G.k o2 then T.C b (G.g2 i) else none) hN' (by omega) (by rw [r22, e]; rfl) (by omega) hA.ko (hM.pa o2 ho) (hG.k2 o2 ho) r21 q2 (fun hk => ?_) (fun x hx => ?_) (fun hk => ?_) (fun x hx => ?_) ?_
      · exact ⟨hA.p1, by have := ha hk; omega, (rb o2 e).1 hk, q3, by rw [if_pos hk]; exact hA.co a _ (ha hk) q3⟩
      · by_cases hk : 1 ≤ G.k o2
        · rw [if_pos hk] at hx
          have := hT.mo a _ x (ha hk) hx
          omega
        · rw [if_neg hk] at hx; cases hx
      · exact ⟨hA.p2, by have := hb hk; omega, (rb o2 e).2 hk, q4, by rw [if_pos hk]; exact hA.co b _ (hb hk) q4⟩
      · by_cases hk : 2 ≤ G.k o2
        · rw [if_pos hk] at hx
          have := hT.mo b _ x (hb hk) hx
          omega
        · rw [if_neg hk] at hx; cases hx
      · have e2 : bcost (G.k o2) (G.co i) (if 1 ≤ G.k o2 then T.C a (G.g1 i) else none) (if 2 ≤ G.k o2 then T.C b (G.g2 i) else none) = bcost (G.k o2) (G.co i) (T.C a (G.g1 i)) (T.C b (G.g2 i)) := by
          unfold bcost
          by_cases c1 : G.k o2 < 1
          · rw [if_pos c1, if_pos c1]
          · rw [if_neg c1, if_neg c1, if_pos (show 1 ≤ G.k o2 by omega)]
            cases T.C a (G.g1 i) with
            | none => rfl
            | some x =>
              dsimp only
              by_cases c2 : G.k o2 < 2
              · rw [if_pos c2, if_pos c2]
              · rw [if_neg c2, if_neg c2, if_pos (show 2 ≤ G.k o2 by omega)]
        rw [e2]
        exact h
    · rw [show prG G T o a b i = none from if_neg (fun z => c (Option.some.inj (e.symm.trans z)))] at h
      exact wm_costOther (o := o2) hN' (by omega) (by rw [r22, e]; rfl) (by omega) (by rw [hA.ko, nI_eq (by omega) (by omega)]; exact c) h
/-- what is left to fall -/
def msC (D : Nat → Option Nat) : Nat := q_sm (fun g => match D g with
  | none => 3000000
  | some x => x) 8
theorem ms_take {D : Nat → Option Nat} {g y : Nat} (hg : g < 8) (ht : takes D g (some y)) (hy : y ≤ 2000180) : msC (va_up D g (some y)) < msC D := by
  have e2 := sm_up (φ := fun g => match D g with | none => 3000000 | some x => x) (ψ := fun j => match va_up D g (some y) j with | none => 3000000 | some x => x) (g := g) (fun j hj => by rw [va_up_ne _ _ hj]) 8 hg
  rw [va_up_self] at e2
  unfold msC
  obtain ⟨y2, ey, h2⟩ := ht
  cases ey
  rcases h2 with h2 | ⟨x, hx, hlt⟩
  · rw [h2] at e2; dsimp only at e2; omega
  · rw [hx] at e2; dsimp only at e2; omega
def mE (G : GD) (pr : Nat → Option Nat) (N : Nat) (f0 f : ctF) (D : Nat → Option Nat) : Prop := (sameM N f0 f) ∧ (rowM N f D) ∧ (bndC D) ∧ (closedC G.R G.go (chG G) G.g1 G.co pr D) ∧ (aboveC G.R G.go (chG G) G.g1 G.co pr D) ∧ (∀ g, g < 8 → f 29 (8 * N + g) = -1 ∧ f 30 (8 * N + g) = -1) ∧ (f 31 = f0 31)
theorem mE.same {G : GD} {pr : Nat → Option Nat} {N : Nat} {f0 f : ctF} {D : Nat → Option Nat} (h : mE G pr N f0 f D) : sameM N f0 f := h.1
theorem mE.row {G : GD} {pr : Nat → Option Nat} {N : Nat} {f0 f : ctF} {D : Nat → Option Nat} (h : mE G pr N f0 f D) : rowM N f D := h.2.1
theorem mE.bnd {G : GD} {pr : Nat → Option Nat} {N : Nat} {f0 f : ctF} {D : Nat → Option Nat} (h : mE G pr N f0 f D) : bndC D := h.2.2.1
theorem mE.clo {G : GD} {pr : Nat → Option Nat} {N : Nat} {f0 f : ctF} {D : Nat → Option Nat} (h : mE G pr N f0 f D) : closedC G.R G.go (chG G) G.g1 G.co pr D := h.2.2.2.1
theorem mE.abv {G : GD} {pr : Nat → Option Nat} {N : Nat} {f0 f : ctF} {D : Nat → Option Nat} (h : mE G pr N f0 f D) : aboveC G.R G.go (chG G) G.g1 G.co pr D := h.2.2.2.2.1
theorem mE.non {G : GD} {pr : Nat → Option Nat} {N : Nat} {f0 f : ctF} {D : Nat → Option Nat} (h : mE G pr N f0 f D) : ∀ g, g < 8 → f 29 (8 * N + g) = -1 ∧ f 30 (8 * N + g) = -1 := h.2.2.2.2.2.1
theorem mE.flg {G : GD} {pr : Nat → Option Nat} {N : Nat} {f0 f : ctF} {D : Nat → Option Nat} (h : mE G pr N f0 f D) : f 31 = f0 31 := h.2.2.2.2.2.2
theorem nI_neg {k : Nat} (h : k < 2 ^ 31) : ¬ nI k < 0 := nI_pos h
theorem wm_price {post : ctN → ctF → Prop} {n : ctN} {f : ctF} {G : GD} {T : TD} {o a b : Nat} (hG : G.ok) (hT : T.ok G) (hM : gM G n f) (hA : aM G T o a b f) (hN' : T.N < 120) (ho : o < G.O) (ha : 1 ≤ G.k o → a < T.N) (hb : 2 ≤ G.k o → b < T.N)
    (hend : ∀ f' D, mE G (prG G T o a b) T.N f f' D → post n f') : wp_M_price post (nI T.N) n f := by
  have e8 : (8 : Int32) = nI 8 := ix_8
  have hR40 := hG.R40
  have round : ∀ (K : Int32 → Int32 → ctN → ctF → Prop) (D0 : Nat → Option Nat) (f1 : ctF), (∀ g, g < 8 → f1 29 (8 * T.N + g) = -1 ∧ f1 30 (8 * T.N + g) = -1) → f1 31 = f 31 → (∀ f2 D, sameM T.N f f2 → (∀ g, g < 8 → f2 29 (8 * T.N + g) = -1 ∧ f2 30 (8 * T.N + g) = -1) → f2 31 = f 31 → rowM T.N f2 D → bndC D → aboveC G.R G.go (chG G) G.g1 G.co (prG G T o a b) D → closedC G.R G.go (chG G) G.g1 G.co (prG G T o a b) D → K (nI T.N) 0 n f2) →
      (∀ f2 D, sameM T.N f f2 → (∀ g, g < 8 → f2 29 (8 * T.N + g) = -1 ∧ f2 30 (8 * T.N + g) = -1) → f2 31 = f 31 → rowM T.N f2 D → bndC D → aboveC G.R G.go (chG G) G.g1 G.co (prG G T o a b) D → msC D < msC D0 → K (nI T.N) 1 n f2) →
      ∀ (d i : Nat) (f2 : ctF) (D : Nat → Option Nat) (x2 : Int32), G.R = i + d → sameM T.N f f2 → f2 29 = f1 29 → f2 30 = f1 30 → f2 31 = f1 31 → rowM T.N f2 D → bndC D → aboveC G.R G.go (chG G) G.g1 G.co (prG G T o a b) D →
      ((x2 = 0 ∧ D = D0 ∧ ∀ j y, j < i → byR (chG G) G.g1 G.co (prG G T o a b) D j = some y → ∃ x, D (G.go j) = some x ∧ x ≤ y) ∨ (x2 = 1 ∧ msC D < msC D0)) → wp_M_price_L60 post K (d + 1) (nI T.N) x2 (nI i) n f2 := by
    intro K D0 f1 hnon hflg hK0 hK1 d
    induction d with
    | zero =>
      intro i f2 D x2 hd hs e29 e30 e31 hr hbd hab hx
      have e : G.R = i := hd
      rw [wp_M_price_L60, hM.nR, e]
      refine ⟨fun _ => ?_, fun q => absurd (nI_le (Nat.le_refl i) (by omega)) q⟩
      have hnon2 : ∀ g, g < 8 → f2 29 (8 * T.N + g) = -1 ∧ f2 30 (8 * T.N + g) = -1 := fun g hg => by rw [e29, e30]; exact hnon g hg
      rcases hx with ⟨rfl, rfl, hc⟩ | ⟨rfl, hlt⟩
      · exact hK0 f2 D hs hnon2 (e31.trans hflg) hr hbd hab (fun j y hj hy => hc j y (by omega) hy)
      · exact hK1 f2 D hs hnon2 (e31.trans hflg) hr hbd hab hlt
    | succ d ih =>
      intro i f2 D x2 hd hs e29 e30 e31 hr hbd hab hx
      have hi : i < G.R := by omega
      have hic : (nI i).toNatClampNeg = i := nI_clamp (by omega)
      have hg8 := (hG.ru i hi).1
      rw [wp_M_price_L60, hM.nR, hic, nI_1]
      refine ⟨fun q => absurd q (nI_ge hi (by omega)), fun _ => ⟨vp_in_nI (by omega) (by decide), ?_⟩⟩
      rw [(hM.same hs |>.ru i hi).1, ix_m]
      rintro _ rfl
      have hin := ix_in hN' hg8
      have hcl := ix_cl hN' hg8
      refine wm_costBy hG hT (hM.same hs) (hA.same hs) hN' ho ha hb hr hbd hi ?_
      rw [hcl, hr _ hg8]
      have nx : ∀ (hnt : ¬ takes D (G.go i) (byR (chG G) G.g1 G.co (prG G T o a b) D i)), wp_M_price_L60 post K (d + 1) (nI T.N) x2 (nI (i + 1)) n f2 := by
        intro hnt
        refine ih (i + 1) f2 D x2 (by omega) hs e29 e30 e31 hr hbd hab ?_
        rcases hx with ⟨h1, h2, hc⟩ | hx
        · refine Or.inl ⟨h1, h2, fun j y hj hy => ?_⟩
          by_cases e : j = i
          · subst e
            cases hcD : D (G.go j) with
            | none => exact absurd ⟨y, hy, Or.inl hcD⟩ hnt
            | some w =>
              refine ⟨w, rfl, ?_⟩
              rcases Nat.lt_or_ge y w with q | q
              · exact absurd ⟨y, hy, Or.inr ⟨w, hcD, q⟩⟩ hnt
              · exact q
          · exact hc j y (by omega) hy
        · exact Or.inr hx
      cases hy : byR (chG G) G.g1 G.co (prG G T o a b) D i with
      | none =>
        rw [hy] at nx
        refine ⟨fun _ => ?_, fun q => absurd (by rw [en_n]; decide) q⟩
        rintro _ rfl
        exact nx (fun ⟨y, e, _⟩ => nomatch e)
      | some y =>
        rw [hy] at nx
        have hyb : y ≤ 2000020 ∨ ∃ j x, D j = some x ∧ y ≤ x + 20 := by
          have hy2 := hy
          unfold byR at hy2
          by_cases c : chG G i = true
          · rw [if_pos c] at hy2
            cases hc : D (G.g1 i) with
            | none => rw [hc] at hy2; cases hy2
            | some x =>
              rw [hc] at hy2
              have hy2 : x + G.co i = y := Option.some.inj hy2
              have := (hG.ru i hi).2.1
              exact Or.inr ⟨_, x, hc, by omega⟩
          · rw [if_neg c] at hy2
            exact Or.inl (prG_le hG hT ho ha hb hi hy2)
        have hy31 : y < 2 ^ 31 := by
          rcases hyb with q | ⟨j, x, hj, q⟩
          · omega
          · have := bnd_lt hbd hj; omega
        have tk : takes D (G.go i) (some y) → vp_in (nI (8 * T.N + G.go i)) 960 ∧ ∀ f3 : ctF, f3 = va_up f2 28 (upd (f2 28) (8 * T.N + G.go i) (nI y)) → ∀ x3 : Int32, x3 = nI (i + 1) → wp_M_price_L60 post K (d + 1) (nI T.N) 1 x3 n f3 := by
          intro ht
          refine ⟨hin, ?_⟩
          rintro f3 hf3 _ rfl
          have a28 : f3 28 = upd (f2 28) (8 * T.N + G.go i) (nI y) := by rw [hf3, va_up_self]
          have ao : ∀ k, k ≠ 28 → f3 k = f2 k := fun k hk => by rw [hf3, va_up_ne _ _ hk]
          have hbd2 := bnd_take hbd hg8 ht hyb
          refine ih (i + 1) f3 (va_up D (G.go i) (some y)) 1 (by omega) (hs.tr ⟨fun k h1 _ _ _ => ao k h1, fun j hj => ⟨by rw [a28, upd_ne _ _ (by omega)], by rw [ao 29 (by decide)], by rw [ao 30 (by decide)]⟩⟩) (by rw [ao 29 (by decide), e29]) (by rw [ao 30 (by decide), e30]) (by rw [ao 31 (by decide), e31]) (fun g hg => ?_) hbd2 (above_take hab hi hy) (Or.inr ⟨rfl, ?_⟩)
          · rw [a28]
            by_cases e : g = G.go i
            · subst e; rw [upd_self, va_up_self]; rfl
            · rw [upd_ne _ _ (by omega), va_up_ne _ _ e]; exact hr g hg
          · have h1 := ms_take hg8 ht (bnd_lt hbd2 (va_up_self D (G.go i) (some y)))
            rcases hx with ⟨-, rfl, -⟩ | ⟨-, hx⟩
            · exact h1
            · omega
        refine ⟨fun q => absurd q (nI_pos hy31), fun _ => ⟨hin, fun q => ?_, fun q => ⟨hin, fun q2 => ?_, fun q2 => ?_⟩⟩⟩
        · refine tk ⟨y, rfl, Or.inl ?_⟩
          cases hc : D (G.go i) with
          | none => rfl
          | some x => rw [hc] at q; exact absurd q (nI_pos (by have := bnd_lt hbd hc; omega))
        · rintro _ rfl
          refine nx (fun ⟨y2, e, ht⟩ => ?_)
          cases e
          rcases ht with ht | ⟨x, hx2, hlt⟩
          · rw [ht] at q; exact q (by decide)
          · rw [hx2] at q2
            have := (nI_leI (by have := bnd_lt hbd hx2; omega) hy31).mp q2
            omega
        · refine tk ⟨y, rfl, ?_⟩
          cases hc : D (G.go i) with
          | none => exact Or.inl rfl
          | some x =>
            rw [hc] at q2
            refine Or.inr ⟨x, rfl, ?_⟩
            rcases Nat.lt_or_ge y x with z | z
            · exact z
            · exact absurd ((nI_leI (by have := bnd_lt hbd hc; omega) hy31).mpr z) q2
  have outer : ∀ (B : Nat) (D : Nat → Option Nat) (f1 : ctF), msC D < B → sameM T.N f f1 → (∀ g, g < 8 → f1 29 (8 * T.N + g) = -1 ∧ f1 30 (8 * T.N + g) = -1) → f1 31 = f 31 → rowM T.N f1 D → bndC D → aboveC G.R G.go (chG G) G.g1 G.co (prG G T o a b) D → wp_M_price_L52 post (B + 1) (nI T.N) 1 n f1 := by
    intro B
    induction B with
    | zero => intro D f1 h; exact absurd h (Nat.not_lt_zero _)
    | succ B ih =>
      intro D f1 hlt hs hnon hflg hr hbd hab
      rw [wp_M_price_L52]
      refine ⟨fun q => absurd q (by decide), fun _ => ⟨G.R + 1, ?_⟩⟩
      have q := round (wp_M_price_L52 post (B + 1)) D f1 hnon hflg (fun f2 D2 s2 n2 g2 r2 b2 a2 c2 => ?_) (fun f2 D2 s2 n2 g2 r2 b2 a2 l2 => ih D2 f2 (by omega) s2 n2 g2 r2 b2 a2) G.R 0 f1 D 0 (by omega) hs rfl rfl rfl hr hbd hab (Or.inl ⟨rfl, rfl, fun j _ hj => absurd hj (Nat.not_lt_zero _)⟩)
      · rw [nI_0] at q
        exact q
      · rw [wp_M_price_L52]
        exact ⟨fun _ => hend f2 D2 ⟨s2, r2, b2, c2, a2, n2, g2⟩, fun q => absurd rfl q⟩
  have blank : ∀ (d m : Nat) (f1 : ctF), 8 = m + d → sameM T.N f f1 → f1 31 = f 31 → (∀ g, g < m → f1 28 (8 * T.N + g) = -1 ∧ f1 29 (8 * T.N + g) = -1 ∧ f1 30 (8 * T.N + g) = -1) → wp_M_price_L2 post (d + 1) (nI T.N) (nI m) n f1 := by
    intro d
    induction d with
    | zero =>
      intro m f1 hd hs hfl hb
      have e : m = 8 := by omega
      subst e
      rw [wp_M_price_L2]
      refine ⟨fun _ => ⟨msC (fun _ => none) + 1 + 1, ?_⟩, fun q => absurd (by rw [e8]; exact nI_le (Nat.le_refl 8) (by decide)) q⟩
      exact outer (msC (fun _ => none) + 1) (fun _ => none) f1 (Nat.lt_succ_self _) hs (fun g hg => (hb g hg).2) hfl (fun g hg => (hb g hg).1) bnd_none above_none
    | succ d ih =>
      intro m f1 hd hs hfl hb
      have hm : m < 8 := by omega
      have hx := ix_in hN' hm
      rw [wp_M_price_L2, ix_m, ix_cl hN' hm, nI_1]
      refine ⟨fun q => absurd q (by rw [e8]; exact nI_ge hm (by decide)), fun _ => ⟨hx, ?_⟩⟩
      rintro _ rfl
      refine ⟨hx, ?_⟩
      rintro _ rfl
      refine ⟨hx, ?_⟩
      rintro f2 hf2 _ rfl
      have a28 : f2 28 = upd (f1 28) (8 * T.N + m) (-1) := by rw [hf2, va_up_ne _ _ (by decide), va_up_ne _ _ (by decide), va_up_self]
      have a29 : f2 29 = upd (f1 29) (8 * T.N + m) (-1) := by rw [hf2, va_up_ne _ _ (by decide), va_up_self, va_up_ne _ _ (by decide)]
      have a30 : f2 30 = upd (f1 30) (8 * T.N + m) (-1) := by rw [hf2, va_up_self, va_up_ne _ _ (by decide), va_up_ne _ _ (by decide)]
      have ao : ∀ k, k ≠ 28 → k ≠ 29 → k ≠ 30 → f2 k = f1 k := fun k h1 h2 h3 => by rw [hf2, va_up_ne _ _ h3, va_up_ne _ _ h2, va_up_ne _ _ h1]
      refine ih (m + 1) f2 (by omega) (hs.tr ⟨fun k h1 h2 h3 _ => ao k h1 h2 h3, fun j hj => ⟨by rw [a28, upd_ne _ _ (by omega)], by rw [a29, upd_ne _ _ (by omega)], by rw [a30, upd_ne _ _ (by omega)]⟩⟩) (by rw [ao 31 (by decide) (by decide) (by decide), hfl]) (fun g hg => ?_)
      by_cases e : g = m
      · subst e
        rw [a28, a29, a30, upd_self, upd_self, upd_self]
        exact ⟨rfl, rfl, rfl⟩
      · rw [a28, a29, a30, upd_ne _ _ (by omega), upd_ne _ _ (by omega), upd_ne _ _ (by omega)]
        exact hb g (by omega)
  unfold wp_M_price
  refine ⟨9, ?_⟩
  have q := blank 8 0 f (by omega) (sameM.rf _ _) rfl (fun g hg => absurd hg (Nat.not_lt_zero _))
  rw [nI_0] at q
  exact q
