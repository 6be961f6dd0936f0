/-! a call on both sides, and what it leaves -/
theorem least_lt8 {G : GD} {T : TD} {o a b : Nat} {C : Nat → Option Nat} (hG : G.ok) (hl : leastC G T o a b C) {g x : Nat} (h : C g = some x) : g < 8 := by
  have hcl : closedC G.R G.go (chG G) G.g1 G.co (prG G T o a b) (fun g => if g < 8 then C g else none) := by
    intro i y hi hy
    obtain ⟨q1, q2, q3, q4, q5⟩ := hG.ru i hi
    have hy2 : byR (chG G) G.g1 G.co (prG G T o a b) C i = some y := by
      unfold byR at hy ⊢
      dsimp only at hy
      rw [if_pos q3] at hy
      exact hy
    dsimp only
    rw [if_pos q1]
    exact hl.1 i y hi hy2
  obtain ⟨z, hz, -⟩ := hl.2 _ hcl g x h
  by_cases q : g < 8
  · exact q
  · rw [if_neg q] at hz; cases hz
theorem k_operator {post : Int32 → ctN → ctF → Prop} {K : Int32 → Int32 → ctN → ctF → Prop} {n : ctN} {f : ctF} {p : Int32} (I : PInv n f) (hpost : ∀ r n1 f1, wp_M_operator (fun r2 n f => K r r2 n f) p n1 f1 → post r n1 f1) (hK : ∀ r r2 n' f', PInv n' f' → n' 3 = r → (r = 0 → f' 32 0 = r2) → K r r2 n' f') : wp_L_operator post p n f := by
  obtain ⟨G, T, I⟩ := I
  refine lc_operator I (fun hb => hpost 1 n f (lm_operator_bad hb (hK 1 0 _ _ (I.n3 1).inv (va_up_self _ _ _) (fun z => absurd z (by decide))))) (fun j hj e hO => hpost 2 n f ?_) (fun j hj e hO n1 f1 gc tc gm tm out => hpost 0 n1 f1 ?_)
  · subst e
    exact lm_operator_full hj (by rw [I.gm.nO, hO]) (hK 2 0 _ _ (I.n3 2).inv (va_up_self _ _ _) (fun z => absurd z (by decide)))
  · subst e
    have en : ∀ k, k ≠ 3 → k ≠ 4 → va_up (va_up n1 3 0) 4 (nI (G.O + 1)) k = n1 k := fun k z1 z2 => by rw [va_up_ne _ _ z2, va_up_ne _ _ z1]
    refine lm_operator_ok hj gm.nO hO (hK 0 (nI G.O) _ _ ⟨G.addO j, T, addO_ok I.g hj hO, addO_T I.t j, gc.up (en 0 (by decide) (by decide)) (en 1 (by decide) (by decide)) (fun k _ _ => va_up_ne _ _ (by omega)), tc.up (en 2 (by decide) (by decide)) (fun k _ _ _ => va_up_ne _ _ (by omega)), addO_M I.g gm (va_up_self _ _ _) (en 5 (by decide) (by decide)) (va_up_self _ _ _) (fun k _ _ => va_up_ne _ _ (by omega)), addO_tM I.t (tm.up (en 6 (by decide) (by decide)) (fun k _ _ => va_up_ne _ _ (by omega))) j⟩ ?_ (fun _ => ?_))
    · rw [va_up_ne _ _ (by decide), va_up_self]
    · rw [va_up_ne _ _ (by decide)]; exact out
theorem k_chain {post : Int32 → ctN → ctF → Prop} {K : Int32 → Int32 → ctN → ctF → Prop} {n : ctN} {f : ctF} {p q c : Int32} (I : PInv n f) (hpost : ∀ r n1 f1, wp_M_chain (fun r2 n f => K r r2 n f) p q c n1 f1 → post r n1 f1) (hK : ∀ r r2 n' f', PInv n' f' → n' 3 = r → (r = 0 → f' 32 0 = r2) → K r r2 n' f') : wp_L_chain post p q c n f := by
  obtain ⟨G, T, I⟩ := I
  refine lc_chain I (fun hb => hpost 1 n f (lm_chain_bad hb (hK 1 0 _ _ (I.n3 1).inv (va_up_self _ _ _) (fun z => absurd z (by decide))))) (fun g h k hg hh hne hk e1 e2 e3 hR => hpost 2 n f ?_) (fun g h k hg hh hne hk e1 e2 e3 hR n1 f1 A => hpost 0 n1 f1 ?_)
  · subst e1 e2 e3
    exact lm_chain_full hg hh hne hk (by rw [I.gm.nR, hR]) (hK 2 0 _ _ (I.n3 2).inv (va_up_self _ _ _) (fun z => absurd z (by decide)))
  · subst e1 e2 e3
    exact lm_chain_ok I.g A hg hh hne hk hR (fun n' f' I' h3 h32 => hK 0 _ n' f' I'.inv h3 (fun _ => h32))
theorem k_base {post : Int32 → ctN → ctF → Prop} {K : Int32 → Int32 → ctN → ctF → Prop} {n : ctN} {f : ctF} {p1 p2 p3 p4 p5 : Int32} (I : PInv n f) (hpost : ∀ r n1 f1, wp_M_base (fun r2 n f => K r r2 n f) p1 p2 p3 p4 p5 n1 f1 → post r n1 f1) (hK : ∀ r r2 n' f', PInv n' f' → n' 3 = r → (r = 0 → f' 32 0 = r2) → K r r2 n' f') : wp_L_base post p1 p2 p3 p4 p5 n f := by
  obtain ⟨G, T, I⟩ := I
  exact lc_base I (fun hb => hpost 1 n f (lm_base_bad I.g I.gm hb (hK 1 0 _ _ (I.n3 1).inv (va_up_self _ _ _) (fun z => absurd z (by decide))))) (fun g o a b c B hR => hpost 2 n f (lm_base_full I.g I.gm B hR (hK 2 0 _ _ (I.n3 2).inv (va_up_self _ _ _) (fun z => absurd z (by decide))))) (fun g o a b c B hR n1 f1 A => hpost 0 n1 f1 (lm_base_ok I.g A B hR (fun n' f' I' h3 h32 => hK 0 _ n' f' I'.inv h3 (fun _ => h32))))
theorem k_node {post : Int32 → ctN → ctF → Prop} {K : Int32 → Int32 → ctN → ctF → Prop} {n : ctN} {f : ctF} {p1 p2 p3 : Int32} (I : PInv n f) (hpost : ∀ r n1 f1, wp_M_node (fun r2 n f => K r r2 n f) p1 p2 p3 n1 f1 → post r n1 f1) (hK : ∀ r r2 n' f', PInv n' f' → n' 3 = r → (r = 0 → f' 32 0 = r2) → K r r2 n' f') : wp_L_node post p1 p2 p3 n f := by
  obtain ⟨G, T, I⟩ := I
  refine lc_node I (fun hb => hpost 1 n f (lm_node_bad I.g I.t I.gm I.tm.nN hb (hK 1 0 _ _ (I.n3 1).inv (va_up_self _ _ _) (fun z => absurd z (by decide))))) (fun o a b B hN => hpost 2 n f (lm_node_full I.g I.t I.gm I.tm.nN B hN (hK 2 0 _ _ (I.n3 2).inv (va_up_self _ _ _) (fun z => absurd z (by decide))))) (fun o a b C B hN hl hd f1 I1 => hpost 2 n f1 ?_) (fun o a b C B hN hl hd n1 f1 gc tc gm tm out => hpost 0 n1 f1 ?_)
  · refine lm_node_go I1.g I1.t I1.gm I1.tm B hN hl (fun _ f' s => ?_) (fun z => absurd hd z)
    have en : ∀ k, k ≠ 3 → va_up n 3 2 k = n k := fun k z => va_up_ne _ _ z
    obtain ⟨m1, d1⟩ := node_low (n' := va_up n 3 2) I1.g I1.t I1.gm I1.tm s (en 4 (by decide)) (en 5 (by decide)) (en 6 (by decide))
    have ef : ∀ k, k ≤ 17 → f' k = f1 k := fun k hk => by rw [s.1 k (by omega) (by omega) (by omega) (by omega), setM_o _ _ _ _ _ (by omega) (by omega) (by omega)]
    exact hK 2 0 _ f' ⟨G, T, I1.g, I1.t, I1.gc.up (en 0 (by decide)) (en 1 (by decide)) (fun k _ _ => ef k (by omega)), I1.tc.up (en 2 (by decide)) (fun k _ _ _ => ef k (by omega)), m1, d1⟩ (va_up_self _ _ _) (fun z => absurd z (by decide))
  · refine lm_node_go I.g I.t gm tm B hN hl (fun z => absurd z hd) (fun _ f' E n' en h3 h6 => ?_)
    obtain ⟨m1, d1⟩ := node_new (n' := n') I.g I.t gm tm B E (en 4 (by decide) (by decide)) (en 5 (by decide) (by decide)) h6
    have ef : ∀ k, k ≤ 17 ∨ 31 < k → f' k = f1 k := fun k hk => by rw [E.same.1 k (by omega) (by omega) (by omega) (by omega), setM_o _ _ _ _ _ (by omega) (by omega) (by omega)]
    refine hK 0 _ n' f' ⟨G, T.addN o a b C, I.g, addN_ok I.t B hN (fun g x hx => ?_), gc.up (en 0 (by decide) (by decide)) (en 1 (by decide) (by decide)) (fun k _ _ => ef k (by omega)), tc.up (en 2 (by decide) (by decide)) (fun k _ _ _ => ef k (by omega)), m1, d1⟩ h3 (fun _ => by rw [ef 32 (by decide)]; exact out)
    have hg := least_lt8 I.g hl hx
    rcases Nat.lt_or_ge 1000000 x with z | z
    · exact absurd ⟨g, x, hg, hx, z⟩ hd
    · exact z
theorem k_cost {post : Int32 → ctN → ctF → Prop} {K : Int32 → Int32 → ctN → ctF → Prop} {n : ctN} {f : ctF} {p q : Int32} (I : PInv n f) (hpost : ∀ r n1 f1, wp_M_cost (fun r2 n f => K r r2 n f) p q n1 f1 → post r n1 f1) (hK : ∀ r r2 n' f', PInv n' f' → n' 3 = r → (r = 0 → f' 32 0 = r2) → K r r2 n' f') : wp_L_cost post p q n f := by
  obtain ⟨G, T, I⟩ := I
  have hN := I.t.N120
  refine lc_cost I (fun hb => hpost 1 n f (lm_cost I (fun _ => hK 1 0 _ _ (I.n3 1).inv (va_up_self _ _ _) (fun z => absurd z (by decide))) (fun v g hv hg e1 e2 => ?_))) (fun v g hv hg e1 e2 => hpost 0 n _ (lm_cost (I.f32 _) (fun hb => ?_) (fun v2 g2 hv2 hg2 e3 e4 => ?_)))
  · subst e1 e2
    exact absurd hb (fun u => u.elim (ix_no hv (by omega)) (ix_no hg (by decide)))
  · subst e1 e2
    exact absurd hb (fun u => u.elim (ix_no hv (by omega)) (ix_no hg (by decide)))
  · subst e1 e2
    rw [nI_eq (by omega) (by omega)] at e3 e4
    subst e3 e4
    refine hK 0 _ _ _ ((I.f32 _).n3 0).inv (va_up_self _ _ _) (fun _ => ?_)
    rw [va_up_self, upd_self, va_up_ne _ _ (by decide), I.tc.co v g hv hg, I.tm.co v g hv hg]
theorem k_rule {post : Int32 → ctN → ctF → Prop} {K : Int32 → Int32 → ctN → ctF → Prop} {n : ctN} {f : ctF} {p q : Int32} (I : PInv n f) (hpost : ∀ r n1 f1, wp_M_rule (fun r2 n f => K r r2 n f) p q n1 f1 → post r n1 f1) (hK : ∀ r r2 n' f', PInv n' f' → K r r2 n' f') : wp_L_rule post p q n f := by
  obtain ⟨G, T, I⟩ := I
  exact lc_rule I (fun r f1 e => hpost r n f1 (lm_rule (I.up (fun _ _ _ _ => rfl) e) (fun r2 n' e' => hK r r2 n' f1 (I.up e' e).inv)))
theorem k_size {post : Int32 → ctN → ctF → Prop} {K : Int32 → Int32 → ctN → ctF → Prop} {n : ctN} {f : ctF} {p q : Int32} (I : PInv n f) (hpost : ∀ r n1 f1, wp_M_size (fun r2 n f => K r r2 n f) p q n1 f1 → post r n1 f1) (hK : ∀ r r2 n' f', PInv n' f' → K r r2 n' f') : wp_L_size post p q n f := by
  obtain ⟨G, T, I⟩ := I
  exact lc_size I (fun r f1 e => hpost r n f1 (lm_size (I.up (fun _ _ _ _ => rfl) e) (fun r2 n' e' => hK r r2 n' f1 (I.up e' e).inv)))
theorem k_cover {post : Int32 → ctN → ctF → Prop} {K : Int32 → Int32 → ctN → ctF → Prop} {n : ctN} {f : ctF} {p q c w : Int32} (I : PInv n f) (hpost : ∀ r n1 f1, wp_M_cover (fun r2 n f => K r r2 n f) p q c w n1 f1 → post r n1 f1) (hK : ∀ r r2 n' f', PInv n' f' → K r r2 n' f') : wp_L_cover post p q c w n f := by
  obtain ⟨G, T, I⟩ := I
  exact lc_cover I (fun r f1 e => hpost r n f1 (lm_cover (I.up (fun _ _ _ _ => rfl) e) (fun r2 n' e' => hK r r2 n' f1 (I.up e' e).inv)))
theorem k_like {post : Int32 → ctN → ctF → Prop} {K : Int32 → Int32 → ctN → ctF → Prop} {n : ctN} {f : ctF} {p : Int32} (I : PInv n f) (hpost : ∀ r n1 f1, wp_M_like (fun r2 n f => K r r2 n f) p n1 f1 → post r n1 f1) (hK : ∀ r r2 n' f', PInv n' f' → K r r2 n' f') : wp_L_like post p n f := by
  obtain ⟨G, T, I⟩ := I
  exact lc_like I (fun r f1 e => hpost r n f1 (lm_like (I.up (fun _ _ _ _ => rfl) e) (fun r2 n' e' => hK r r2 n' f1 (I.up e' e).inv)))
theorem k_states {post : Int32 → ctN → ctF → Prop} {K : Int32 → Int32 → ctN → ctF → Prop} {n : ctN} {f : ctF} (I : PInv n f) (hpost : ∀ r n1 f1, wp_M_states (fun r2 n f => K r r2 n f) n1 f1 → post r n1 f1) (hK : ∀ r r2 n' f', PInv n' f' → K r r2 n' f') : wp_C_states post n f := by
  obtain ⟨G, T, I⟩ := I
  exact lc_states I (fun r => hpost r n f (lm_states I (fun r2 n' e' => hK r r2 n' f (I.up e' (fun _ _ => rfl)).inv)))
theorem k_clear {post : ctN → ctF → Prop} {K : ctN → ctF → Prop} {n : ctN} {f : ctF} (I : PInv n f) (hpost : ∀ n1 f1, wp_M_clear (fun n f => K n f) n1 f1 → post n1 f1) (hK : ∀ n' f', PInv n' f' → K n' f') : wp_C_clear post n f := by
  obtain ⟨G, T, I⟩ := I
  have h := l_clear (post := K) I (fun n' I' => hK n' f I'.inv)
  unfold wp_C_clear at h ⊢
  intro a ha b hb c hc
  exact hpost c f (h a ha b hb c hc)
theorem k_fell {post : ctN → ctF → Prop} {K : ctN → ctF → Prop} {n : ctN} {f : ctF} (I : PInv n f) (hpost : ∀ n1 f1, wp_M_fell (fun n f => K n f) n1 f1 → post n1 f1) (hK : ∀ n' f', PInv n' f' → K n' f') : wp_C_fell post n f := by
  obtain ⟨G, T, I⟩ := I
  have h := l_fell (post := K) I (fun n' I' => hK n' f I'.inv)
  unfold wp_C_fell at h ⊢
  intro a ha
  exact hpost a f (h a ha)
theorem inv_start : PInv (fun _ => 0) (fun _ _ => 0) :=
  ⟨GD.zero ⟨0, 0, fun _ => 0, fun _ => 0, fun _ => 0, fun _ => 0, fun _ => 0, fun _ => none⟩, TD.zero ⟨0, fun _ => 0, fun _ => 0, fun _ => 0, fun _ _ => none⟩, gzero_ok _, zero_ok _ _, gzero_C _ _ rfl rfl, zero_tC _ _ _ rfl, gzero_M _ _ rfl rfl, zero_tM _ _ _ rfl⟩
