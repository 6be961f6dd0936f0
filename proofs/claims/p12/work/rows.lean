section
/-! pure rows: the leaf methods' predicates, by two roads each -/
theorem w_isGoal {post : Int32 → ctN → ctF → Prop} {p : Int32} {n : ctN} {f : ctF} (h1 : ¬ p < 0 → ¬ 8 ≤ p → post 1 n f) (h0 : (p < 0 ∨ 8 ≤ p) → post 0 n f) : wp_C_isGoal post p n f := by
  unfold wp_C_isGoal
  exact ⟨fun a => h0 (Or.inl a), fun a => ⟨fun b => h0 (Or.inr b), fun b => h1 a b⟩⟩
theorem w_hasOperator {post : Int32 → ctN → ctF → Prop} {p : Int32} {n : ctN} {f : ctF} (h1 : ¬ p < 0 → ¬ n 0 ≤ p → post 1 n f) (h0 : (p < 0 ∨ n 0 ≤ p) → post 0 n f) : wp_G_hasOperator post p n f := by
  unfold wp_G_hasOperator
  exact ⟨fun a => h0 (Or.inl a), fun a => ⟨fun b => h0 (Or.inr b), fun b => h1 a b⟩⟩
theorem w_has {post : Int32 → ctN → ctF → Prop} {p : Int32} {n : ctN} {f : ctF} (h1 : ¬ p < 0 → ¬ n 2 ≤ p → post 1 n f) (h0 : (p < 0 ∨ n 2 ≤ p) → post 0 n f) : wp_F_has post p n f := by
  unfold wp_F_has
  exact ⟨fun a => h0 (Or.inl a), fun a => ⟨fun b => h0 (Or.inr b), fun b => h1 a b⟩⟩
theorem wm_in {post : Int32 → ctN → ctF → Prop} {p a b : Int32} {n : ctN} {f : ctF} (h1 : ¬ p < a → ¬ b < p → post 1 n f) (h0 : (p < a ∨ b < p) → post 0 n f) : wp_M_in post p a b n f := by
  unfold wp_M_in
  exact ⟨fun x => h0 (Or.inl x), fun x => ⟨fun y => h0 (Or.inr y), fun y => h1 x y⟩⟩
theorem wm_isGoal {post : Int32 → ctN → ctF → Prop} {p : Int32} {n : ctN} {f : ctF} (h1 : ¬ p < 0 → ¬ 7 < p → post 1 n f) (h0 : (p < 0 ∨ 7 < p) → post 0 n f) : wp_M_isGoal post p n f := by
  unfold wp_M_isGoal
  exact wm_in (fun a b => ⟨rfl, h1 a b⟩) (fun a => ⟨rfl, h0 a⟩)
theorem wm_isNode {post : Int32 → ctN → ctF → Prop} {p : Int32} {n : ctN} {f : ctF} (h1 : ¬ p < 0 → ¬ n 6 - 1 < p → post 1 n f) (h0 : (p < 0 ∨ n 6 - 1 < p) → post 0 n f) : wp_M_isNode post p n f := by
  unfold wp_M_isNode
  exact wm_in (fun a b => ⟨rfl, h1 a b⟩) (fun a => ⟨rfl, h0 a⟩)
theorem wm_refuse {post : Int32 → ctN → ctF → Prop} {a b c : Int32} {n : ctN} {f : ctF} (h1 : ¬ a = 0 → post 1 (va_up n 3 1) f) (h2 : a = 0 → ¬ b = 0 → post 1 (va_up n 3 2) f) (h3 : a = 0 → b = 0 → ¬ c = 0 → post 1 (va_up n 3 3) f) (h0 : a = 0 → b = 0 → c = 0 → post 0 (va_up n 3 0) f) : wp_M_refuse post a b c n f := by
  have e : ∀ x : Int32, va_up n 3 x 3 = x := fun x => va_up_self n 3 x
  unfold wp_M_refuse
  refine ⟨fun ha => ⟨fun hb => ⟨fun hc => ?_, fun hc => ?_⟩, fun hb => ?_⟩, fun ha => ?_⟩
  · rintro _ rfl
    exact ⟨fun _ => h0 ha hb hc, fun h => absurd (by rw [e]; decide) h⟩
  · rintro _ rfl
    exact ⟨fun h => absurd h (by rw [e]; decide), fun _ => h3 ha hb hc⟩
  · rintro _ rfl
    exact ⟨fun h => absurd h (by rw [e]; decide), fun _ => h2 ha hb⟩
  · rintro _ rfl
    exact ⟨fun h => absurd h (by rw [e]; decide), fun _ => h1 ha⟩
theorem wm_isAsked {post : Int32 → ctN → ctF → Prop} {p q : Int32} {n : ctN} {f : ctF} (h1 : ¬ p < 0 → ¬ n 6 - 1 < p → ¬ q < 0 → ¬ 7 < q → post 1 n f) (h0 : (p < 0 ∨ n 6 - 1 < p ∨ q < 0 ∨ 7 < q) → post 0 n f) : wp_M_isAsked post p q n f := by
  unfold wp_M_isAsked
  refine wm_isNode (fun a b => ⟨fun h => absurd h (by decide), fun _ => ?_⟩) (fun a => ⟨fun _ => h0 (by rcases a with a | a; exact Or.inl a; exact Or.inr (Or.inl a)), fun h => absurd rfl h⟩)
  exact wm_isGoal (fun c d => ⟨fun h => absurd h (by decide), fun _ => h1 a b c d⟩) (fun c => ⟨fun _ => h0 (Or.inr (Or.inr c)), fun h => absurd rfl h⟩)
/-- the class's checks -/
theorem w_checkPlace0 {post : ctN → ctF → Prop} {xp : String → ctN → ctF → Prop} {p q : Int32} {n : ctN} {f : ctF} (h1 : ¬ p < 0 → ¬ n 2 ≤ p → ¬ q < 0 → ¬ 8 ≤ q → post n f) (h0 : (p < 0 ∨ n 2 ≤ p ∨ q < 0 ∨ 8 ≤ q) → xp "java/lang/IllegalArgumentException" n f) : wp_C_checkPlace post xp p q n f := by
  unfold wp_C_checkPlace
  refine w_has (fun a b => ⟨fun h => absurd h (by decide), fun _ => ?_⟩) (fun a => ⟨fun _ => h0 (by rcases a with a | a; exact Or.inl a; exact Or.inr (Or.inl a)), fun h => absurd rfl h⟩)
  exact w_isGoal (fun c d => ⟨fun _ => h1 a b c d, fun h => absurd h (by decide)⟩) (fun c => ⟨fun h => absurd rfl h, fun _ => h0 (Or.inr (Or.inr c))⟩)
theorem w_checkRuleCost {post : ctN → ctF → Prop} {xp : String → ctN → ctF → Prop} {p : Int32} {n : ctN} {f : ctF} (h1 : ¬ p < 0 → p ≤ 20 → post n f) (h0 : (p < 0 ∨ ¬ p ≤ 20) → xp "java/lang/IllegalArgumentException" n f) : wp_C_checkRuleCost post xp p n f := by
  unfold wp_C_checkRuleCost
  exact ⟨fun a => h0 (Or.inl a), fun a => ⟨fun b => h1 a b, fun b => h0 (Or.inr b)⟩⟩
theorem w_checkRoom {post : ctN → ctF → Prop} {xp : String → ctN → ctF → Prop} {n : ctN} {f : ctF} (h1 : n 1 < 40 → post n f) (h0 : ¬ n 1 < 40 → xp "java/lang/UnsupportedOperationException" n f) : wp_C_checkRoomForRule post xp n f := by
  unfold wp_C_checkRoomForRule
  exact ⟨h1, h0⟩
/-- the end of a comparison in the law -/
theorem w_tail {r t b : Int32} {v : Int32} {A : Prop} (ht : t = r) (hA : A) (hb : r = 0 → v = b) : (t = r → ((¬ r = 0 → A) ∧ (r = 0 → ∀ y : Int64, y = v.toInt64 → ((lg_cmp y b.toInt64 = 0 → A) ∧ (¬ lg_cmp y b.toInt64 = 0 → False))))) ∧ (¬ t = r → False) :=
  ⟨fun _ => ⟨fun _ => hA, fun h0 y hy => ⟨fun _ => hA, fun hn => hn (by rw [hy, hb h0]; unfold lg_cmp; simp)⟩⟩, fun h => h ht⟩
/-- comparisons with 0 and small numbers, by toInt -/
theorem w_lt {x y : Int32} : x < y ↔ x.toInt < y.toInt := Int32.lt_iff_toInt_lt
theorem w_le {x y : Int32} : x ≤ y ↔ x.toInt ≤ y.toInt := Int32.le_iff_toInt_le
end
section
/-! numbers and places; the class's offer as a function -/
theorem ix_8 : (8 : Int32) = nI 8 := by decide
theorem ix_c (v g : Nat) : nI v * 8 + nI g = nI (8 * v + g) := by
  rw [ix_8, pk_mul, nI_add, Nat.mul_comm]
theorem ix_m (v g : Nat) : 8 * nI v + nI g = nI (8 * v + g) := by
  rw [ix_8, pk_mul, nI_add]
theorem ix_lt {v g : Nat} (hv : v < 120) (hg : g < 8) : 8 * v + g < 960 := by omega
theorem ix_in {v g : Nat} (hv : v < 120) (hg : g < 8) : vp_in (nI (8 * v + g)) 960 := vp_in_nI (ix_lt hv hg) (by decide)
theorem ix_cl {v g : Nat} (hv : v < 120) (hg : g < 8) : (nI (8 * v + g)).toNatClampNeg = 8 * v + g := nI_clamp (Nat.lt_trans (ix_lt hv hg) (by decide))
/-- a cost that may be wanting -/
def en (o : Option Nat) : Int32 := match o with
  | none => -1
  | some k => nI k
theorem en_n : en none = -1 := rfl
theorem en_s (k : Nat) : en (some k) = nI k := rfl
theorem nI_m1 {k : Nat} (h : k < 2 ^ 31) : ¬ nI k = -1 := by
  intro e
  have a := nI_toInt h
  rw [e] at a
  have b : (-1 : Int32).toInt = -1 := by decide
  rw [b] at a
  omega
theorem en_m1 {o : Option Nat} (h : ∀ k, o = some k → k < 2 ^ 31) : en o = -1 ↔ o = none := by
  cases o with
  | none => exact ⟨fun _ => rfl, fun _ => rfl⟩
  | some k => exact ⟨fun e => absurd e (nI_m1 (h k rfl)), fun e => by cases e⟩
theorem w_place {post : Int32 → ctN → ctF → Prop} {n : ctN} {f : ctF} {v g : Nat} (h : post (nI (8 * v + g)) n f) : wp_C_place post (nI v) (nI g) n f := by
  unfold wp_C_place
  rw [ix_c]
  exact h
/-- what offer leaves: the arrays of costs and rules with a cheaper way written down -/
def offF (f : ctF) (N i g : Nat) (price : Option Nat) : ctF := match price with
  | none => f
  | some y => if f 14 (8 * N + g) = -1 ∨ nI y < f 14 (8 * N + g) then va_up (va_up f 14 (upd (f 14) (8 * N + g) (nI y))) 15 (upd (f 15) (8 * N + g) (nI i)) else f
theorem w_nle {x y : Int32} : ¬ y ≤ x ↔ x < y := by
  rw [w_le, w_lt]; omega
theorem w_offer {post : ctN → ctF → Prop} {n : ctN} {f : ctF} {N i g : Nat} (hN : n 2 = nI N) (hN' : N < 120) (hi : i < 40) (hg : g < 8) (hgo : f 4 i = nI g) (price : Option Nat) (hp : ∀ y, price = some y → y < 2 ^ 31) (h : post n (offF f N i g price)) : wp_F_offer post (nI i) (en price) n f := by
  have hic : (nI i).toNatClampNeg = i := nI_clamp (by omega)
  have hin : vp_in (nI i) 40 := vp_in_nI hi (by decide)
  have hx := ix_in hN' hg
  have hxc := ix_cl hN' hg
  unfold wp_F_offer
  rw [hic, hgo, hN]
  refine ⟨hin, w_place ?_⟩
  cases price with
  | none => exact ⟨fun _ => h, fun e => absurd rfl e⟩
  | some y =>
    refine ⟨fun e => absurd e (nI_m1 (hp y rfl)), fun _ => ⟨hx, ?_⟩⟩
    unfold wp_F_offer_J42
    simp only [hxc, en_s]
    have h : post n (if f 14 (8 * N + g) = -1 ∨ nI y < f 14 (8 * N + g) then va_up (va_up f 14 (upd (f 14) (8 * N + g) (nI y))) 15 (upd (f 15) (8 * N + g) (nI i)) else f) := h
    have key : ∀ (c : f 14 (8 * N + g) = -1 ∨ nI y < f 14 (8 * N + g)) (f9 : ctF), f9 = va_up f 14 (upd (f 14) (8 * N + g) (nI y)) → vp_in (nI (8 * N + g)) 960 ∧ ∀ f11 : ctF, f11 = va_up f9 15 (upd (f9 15) (8 * N + g) (nI i)) → post n f11 := by
      rintro c _ rfl
      refine ⟨hx, ?_⟩
      rintro _ rfl
      rw [if_pos c] at h
      rw [va_up_ne _ _ (show (15 : Nat) ≠ 14 by decide)]
      exact h
    refine ⟨fun c => ⟨hx, key (Or.inl c)⟩, fun c => ⟨hx, fun d => ?_, fun d => ⟨hx, key (Or.inr (w_nle.mp d))⟩⟩⟩
    rw [if_neg (fun q => q.elim c (fun q => (w_nle.mpr q) d))] at h
    exact h
end
section
/-! the draft's row: costs and rules by goal -/
/-- nothing of the nodes below N, of the rules and operators has changed -/
def sameBut (N : Nat) (f f' : ctF) : Prop := (∀ k, k ≠ 12 → k ≠ 14 → k ≠ 15 → k ≠ 16 → k ≠ 17 → f' k = f k) ∧ (∀ j, j ≠ N → f' 12 j = f 12 j) ∧ (∀ j, j < 8 * N → f' 14 j = f 14 j ∧ f' 15 j = f 15 j ∧ f' 16 j = f 16 j)
theorem sameBut.rf (N : Nat) (f : ctF) : sameBut N f f := ⟨fun _ _ _ _ _ _ => rfl, fun _ _ => rfl, fun _ _ => ⟨rfl, rfl, rfl⟩⟩
theorem sameBut.tr {N : Nat} {f g h : ctF} (a : sameBut N f g) (b : sameBut N g h) : sameBut N f h :=
  ⟨fun k h1 h2 h3 h4 h5 => (b.1 k h1 h2 h3 h4 h5).trans (a.1 k h1 h2 h3 h4 h5), fun j hj => (b.2.1 j hj).trans (a.2.1 j hj), fun j hj => ⟨((b.2.2 j hj).1).trans (a.2.2 j hj).1, ((b.2.2 j hj).2.1).trans (a.2.2 j hj).2.1, ((b.2.2 j hj).2.2).trans (a.2.2 j hj).2.2⟩⟩
/-- a rule's offer is taken: there was no way yet, or a dearer one -/
def takes (C : Nat → Option Nat) (g : Nat) (price : Option Nat) : Prop := ∃ y, price = some y ∧ (C g = none ∨ ∃ x, C g = some x ∧ y < x)
/-- the row of node N in the arrays 14 and 15 -/
def rowC (N : Nat) (f : ctF) (C R : Nat → Option Nat) : Prop := (∀ h, h < 8 → f 14 (8 * N + h) = en (C h) ∧ f 15 (8 * N + h) = en (R h)) ∧ ∀ h x, C h = some x → x < 2 ^ 30
theorem upd_self (f : Nat → Int32) (k : Nat) (x : Int32) : upd f k x k = x := by simp [upd]
theorem upd_ne (f : Nat → Int32) {k j : Nat} (x : Int32) (h : j ≠ k) : upd f k x j = f j := by simp [upd, h]
theorem en_lt {y x : Nat} (hy : y < 2 ^ 31) (hx : x < 2 ^ 31) : nI y < en (some x) ↔ y < x := nI_ltI hy hx
theorem offF_row {N i g : Nat} {f : ctF} {C R : Nat → Option Nat} (hr : rowC N f C R) (hg : g < 8) {price : Option Nat} (hp : ∀ y, price = some y → y < 2 ^ 30) :
    (takes C g price ∧ (∃ y, price = some y ∧ rowC N (offF f N i g price) (va_up C g (some y)) (va_up R g (some i))) ∨ ¬ takes C g price ∧ offF f N i g price = f) ∧ sameBut N f (offF f N i g price) ∧ (offF f N i g price) 12 = f 12 ∧ (offF f N i g price) 16 = f 16 ∧ (offF f N i g price) 17 = f 17 := by
  cases price with
  | none => exact ⟨Or.inr ⟨(fun ⟨y, e, _⟩ => nomatch e), rfl⟩, sameBut.rf N f, rfl, rfl, rfl⟩
  | some y =>
    have hy := hp y rfl
    have hC := (hr.1 g hg).1
    have hcond : (f 14 (8 * N + g) = -1 ∨ nI y < f 14 (8 * N + g)) ↔ takes C g (some y) := by
      rw [hC]
      constructor
      · rintro (e | e)
        · exact ⟨y, rfl, Or.inl ((en_m1 (fun k hk => Nat.lt_trans (hr.2 g k hk) (by decide))).mp e)⟩
        · cases hc : C g with
          | none => exact ⟨y, rfl, Or.inl hc⟩
          | some x =>
            rw [hc] at e
            exact ⟨y, rfl, Or.inr ⟨x, hc, (en_lt (by omega) (by have := hr.2 g x hc; omega)).mp e⟩⟩
      · rintro ⟨y2, e, h⟩
        cases e
        rcases h with h | ⟨x, hc, hlt⟩
        · exact Or.inl (by rw [h]; rfl)
        · exact Or.inr (by rw [hc]; exact (en_lt (by omega) (by have := hr.2 g x hc; omega)).mpr hlt)
    by_cases ht : takes C g (some y)
    · have e : offF f N i g (some y) = va_up (va_up f 14 (upd (f 14) (8 * N + g) (nI y))) 15 (upd (f 15) (8 * N + g) (nI i)) := if_pos (hcond.mpr ht)
      have e14 : offF f N i g (some y) 14 = upd (f 14) (8 * N + g) (nI y) := by rw [e, va_up_ne _ _ (by decide), va_up_self]
      have e15 : offF f N i g (some y) 15 = upd (f 15) (8 * N + g) (nI i) := by rw [e, va_up_self]
      have eo : ∀ k, k ≠ 14 → k ≠ 15 → offF f N i g (some y) k = f k := fun k h1 h2 => by rw [e, va_up_ne _ _ h2, va_up_ne _ _ h1]
      refine ⟨Or.inl ⟨ht, y, rfl, ⟨fun h hh => ?_, fun h x hx => ?_⟩⟩, ⟨fun k _ h2 h3 _ _ => eo k h2 h3, fun j _ => by rw [eo 12 (by decide) (by decide)], fun j hj => ⟨?_, ?_, by rw [eo 16 (by decide) (by decide)]⟩⟩, eo 12 (by decide) (by decide), eo 16 (by decide) (by decide), eo 17 (by decide) (by decide)⟩
      · rw [e14, e15]
        by_cases q : h = g
        · subst q
          exact ⟨by rw [upd_self, va_up_self]; rfl, by rw [upd_self, va_up_self]; rfl⟩
        · exact ⟨by rw [upd_ne _ _ (by omega), va_up_ne _ _ q]; exact (hr.1 h hh).1, by rw [upd_ne _ _ (by omega), va_up_ne _ _ q]; exact (hr.1 h hh).2⟩
      · by_cases q : h = g
        · subst q
          rw [va_up_self] at hx
          cases hx
          exact hy
        · rw [va_up_ne _ _ q] at hx
          exact hr.2 h x hx
      · rw [e14, upd_ne _ _ (by omega)]
      · rw [e15, upd_ne _ _ (by omega)]
    · have e : offF f N i g (some y) = f := if_neg (fun q => ht (hcond.mp q))
      rw [e]
      exact ⟨Or.inr ⟨ht, rfl⟩, sameBut.rf N f, rfl, rfl, rfl⟩
end
section
/-! what a base rule asks -/
def bcost (k s : Nat) (a1 a2 : Option Nat) : Option Nat := if k < 1 then some s else match a1 with
  | none => none
  | some x => if k < 2 then some (s + x) else a2.map (fun y => s + x + y)
theorem w_baseCost {post : Int32 → ctN → ctF → Prop} {n : ctN} {f : ctF} {N i o k s u1 u2 g1 g2 : Nat} {a1 a2 : Option Nat} (hN : n 2 = nI N) (hN' : N < 120) (hi : i < 40) (ho : f 9 N = nI o) (ho' : o < 10) (hk : f 3 o = nI k) (hk' : k ≤ 2) (hs : f 8 i = nI s)
    (h10 : f 10 N = nI u1) (hu1 : u1 < 120) (h6 : f 6 i = nI g1) (hg1 : g1 < 8) (ha1 : f 14 (8 * u1 + g1) = en a1) (hb1 : ∀ x, a1 = some x → x < 2 ^ 31)
    (h11 : f 11 N = nI u2) (hu2 : u2 < 120) (h7 : f 7 i = nI g2) (hg2 : g2 < 8) (ha2 : f 14 (8 * u2 + g2) = en a2) (hb2 : ∀ x, a2 = some x → x < 2 ^ 31)
    (h : post (en (bcost k s a1 a2)) n f) : wp_F_baseCost post (nI i) n f := by
  have hic : (nI i).toNatClampNeg = i := nI_clamp (by omega)
  have hin : vp_in (nI i) 40 := vp_in_nI hi (by decide)
  have hNc : (nI N).toNatClampNeg = N := nI_clamp (by omega)
  have hNi : vp_in (nI N) 120 := vp_in_nI hN' (by decide)
  have hoc : (nI o).toNatClampNeg = o := nI_clamp (by omega)
  have hoi : vp_in (nI o) 10 := vp_in_nI ho' (by decide)
  have k1 : nI k < 1 ↔ k < 1 := by rw [show (1 : Int32) = nI 1 by decide]; exact nI_ltI (by omega) (by decide)
  have k2 : nI k < 2 ↔ k < 2 := by rw [show (2 : Int32) = nI 2 by decide]; exact nI_ltI (by omega) (by decide)
  have J : ∀ x : Nat, (k < 2 → post (nI x) n f) → (¬ k < 2 → post (en (a2.map (fun y => x + y))) n f) → wp_F_baseCost_J74 post (nI i) (nI k) (nI x) n f := by
    intro x p1 p2
    unfold wp_F_baseCost_J74
    rw [hN, hNc, hic, h11, h7]
    refine ⟨fun c => p1 (k2.mp c), fun c => ⟨hNi, hin, w_place ⟨ix_in hu2 hg2, ?_⟩⟩⟩
    rw [ix_cl hu2 hg2, ha2]
    have p2 := p2 (fun z => c (k2.mpr z))
    rintro _ rfl
    cases a2 with
    | none => exact ⟨fun c => absurd rfl c, fun _ => p2⟩
    | some y =>
      refine ⟨fun _ => ?_, fun c => absurd c (nI_m1 (hb2 y rfl))⟩
      rintro _ rfl
      rw [en_s, nI_add]
      exact p2
  unfold wp_F_baseCost
  rw [hN, hNc, ho, hoc, hic]
  refine ⟨hNi, hoi, ?_⟩
  rintro _ rfl
  refine ⟨hin, ?_⟩
  rintro _ rfl
  rw [hk, hs]
  refine ⟨fun c => ?_, fun c => ?_⟩
  · have c := k1.mp c
    refine J s (fun _ => ?_) (fun q => absurd (by omega) q)
    rw [show bcost k s a1 a2 = some s from if_pos c] at h
    exact h
  · have c : ¬ k < 1 := fun z => c (k1.mpr z)
    rw [show bcost k s a1 a2 = _ from if_neg c] at h
    refine ⟨hNi, hin, ?_⟩
    rw [h10, h6]
    refine w_place ⟨ix_in hu1 hg1, ?_⟩
    rw [ix_cl hu1 hg1, ha1]
    rintro _ rfl
    cases a1 with
    | none => exact ⟨fun q => absurd rfl q, fun _ => h⟩
    | some x =>
      refine ⟨fun _ => ?_, fun q => absurd q (nI_m1 (hb1 x rfl))⟩
      rintro _ rfl
      rw [en_s, nI_add]
      refine J (s + x) (fun q => ?_) (fun q => ?_)
      · have h : post (en (if k < 2 then some (s + x) else a2.map (fun y => s + x + y))) n f := h
        rw [if_pos q] at h
        exact h
      · have h : post (en (if k < 2 then some (s + x) else a2.map (fun y => s + x + y))) n f := h
        rw [if_neg q] at h
        exact h
end
section
/-! the loop over the base rules, by an invariant I of the draft's costs and rules -/
/-- what stays all through the draft's making but the row itself -/
def keepsRow (N : Nat) (f f' : ctF) : Prop := sameBut N f f' ∧ f' 12 = f 12 ∧ f' 16 = f 16 ∧ f' 17 = f 17
theorem keepsRow.rf (N : Nat) (f : ctF) : keepsRow N f f := ⟨sameBut.rf N f, rfl, rfl, rfl⟩
theorem keepsRow.tr {N : Nat} {f g h : ctF} (a : keepsRow N f g) (b : keepsRow N g h) : keepsRow N f h := ⟨a.1.tr b.1, b.2.1.trans a.2.1, b.2.2.1.trans a.2.2.1, b.2.2.2.trans a.2.2.2⟩
theorem keepsRow.at {N : Nat} {f f' : ctF} (a : keepsRow N f f') {k : Nat} (h14 : k ≠ 14) (h15 : k ≠ 15) : f' k = f k := by
  by_cases h12 : k = 12
  · subst h12; exact a.2.1
  by_cases h16 : k = 16
  · subst h16; exact a.2.2.1
  by_cases h17 : k = 17
  · subst h17; exact a.2.2.2
  exact a.1.1 k h12 h14 h15 h16 h17
theorem w_applyBase {post : ctN → ctF → Prop} {n : ctN} {f : ctF} {N R : Nat} (hN : n 2 = nI N) (hN' : N < 120) (hR : n 1 = nI R) (hR' : R ≤ 40) (go : Nat → Nat) (hgo : ∀ i, i < R → go i < 8 ∧ f 4 i = nI (go i)) (pr : Nat → Option Nat) (hpr : ∀ i y, i < R → pr i = some y → y < 2 ^ 30)
    (hbc : ∀ i, i < R → f 5 i = f 9 N → ∀ f', keepsRow N f f' → ∀ post' : Int32 → ctN → ctF → Prop, post' (en (pr i)) n f' → wp_F_baseCost post' (nI i) n f')
    (I : Nat → (Nat → Option Nat) → (Nat → Option Nat) → Prop)
    (hskip : ∀ i C Q, i < R → I i C Q → ¬ f 5 i = f 9 N → I (i + 1) C Q) (hdear : ∀ i C Q, i < R → I i C Q → f 5 i = f 9 N → ¬ takes C (go i) (pr i) → I (i + 1) C Q)
    (htake : ∀ i C Q y, i < R → I i C Q → f 5 i = f 9 N → pr i = some y → takes C (go i) (pr i) → I (i + 1) (va_up C (go i) (some y)) (va_up Q (go i) (some i)))
    {C0 Q0 : Nat → Option Nat} (h0 : I 0 C0 Q0) (hrow : rowC N f C0 Q0) (hend : ∀ f' C Q, I R C Q → rowC N f' C Q → keepsRow N f f' → post n f') : wp_F_applyBaseRules post n f := by
  have loop : ∀ (d i : Nat) (f' : ctF) (C Q : Nat → Option Nat), R = i + d → I i C Q → rowC N f' C Q → keepsRow N f f' → wp_F_applyBaseRules_L2 post (d + 1) (nI i) n f' := by
    intro d
    induction d with
    | zero =>
      intro i f' C Q hd hi hr hk
      rw [wp_F_applyBaseRules_L2, hR]
      have e : R = i := hd
      subst e
      exact ⟨fun _ => hend f' C Q hi hr hk, fun h => absurd (nI_le (Nat.le_refl R) (by omega)) h⟩
    | succ d ih =>
      intro i f' C Q hd hi hr hk
      have hlt : i < R := by omega
      have hic : (nI i).toNatClampNeg = i := nI_clamp (by omega)
      have hNc : (nI N).toNatClampNeg = N := nI_clamp (by omega)
      have hi1 : nI i + 1 = nI (i + 1) := nI_1 i
      rw [wp_F_applyBaseRules_L2, hR, hN, hic, hNc, hk.at (by decide) (by decide), hk.at (k := 9) (by decide) (by decide), hi1]
      refine ⟨fun h => absurd h (nI_ge hlt (by omega)), fun _ => ⟨vp_in_nI (by omega) (by decide), vp_in_nI hN' (by decide), fun h5 => ?_, fun h5 => ?_⟩⟩
      · rintro _ rfl
        exact ih (i + 1) f' C Q (by omega) (hskip i C Q hlt hi h5) hr hk
      · refine hbc i hlt h5 f' hk _ ?_
        obtain ⟨hg8, hg4⟩ := hgo i hlt
        refine w_offer hN hN' (by omega) hg8 (by rw [hk.at (by decide) (by decide)]; exact hg4) (pr i) (fun y hy => Nat.lt_trans (hpr i y hlt hy) (by decide)) ?_
        rintro _ rfl
        obtain ⟨hc, hs, h12, h16, h17⟩ := offF_row (i := i) hr hg8 (price := pr i) (fun y hy => hpr i y hlt hy)
        have hk2 : keepsRow N f (offF f' N i (go i) (pr i)) := hk.tr ⟨hs, h12, h16, h17⟩
        rcases hc with ⟨ht, y, hy, hrow2⟩ | ⟨ht, he⟩
        · exact ih (i + 1) _ _ _ (by omega) (htake i C Q y hlt hi h5 hy ht) hrow2 hk2
        · exact ih (i + 1) _ C Q (by omega) (hdear i C Q hlt hi h5 ht) (by rw [he]; exact hr) hk2
  unfold wp_F_applyBaseRules
  refine ⟨R + 1, ?_⟩
  have h := loop R 0 f C0 Q0 (by omega) h0 hrow (keepsRow.rf N f)
  rw [nI_0] at h
  exact h
end
section
/-! the loop over the chain rules from a goal that costs z, by an invariant I of the draft's costs and rules -/
theorem w_isChainFrom {post : Int32 → ctN → ctF → Prop} {n : ctN} {f : ctF} {i : Nat} {p : Int32} (hi : i < 40) (h1 : f 5 i = -1 → f 6 i = p → post 1 n f) (h0 : ¬ (f 5 i = -1 ∧ f 6 i = p) → post 0 n f) : wp_G_isChainFrom post (nI i) p n f := by
  have hic : (nI i).toNatClampNeg = i := nI_clamp (by omega)
  have hin : vp_in (nI i) 40 := vp_in_nI hi (by decide)
  unfold wp_G_isChainFrom
  rw [hic]
  exact ⟨hin, fun a => h0 (fun q => a q.1), fun a => ⟨hin, fun b => h0 (fun q => b q.2), fun b => h1 a b⟩⟩
theorem w_applyChain {post : ctN → ctF → Prop} {n : ctN} {f : ctF} {N R h z : Nat} (hN : n 2 = nI N) (hN' : N < 120) (hR : n 1 = nI R) (hR' : R ≤ 40) (hh : h < 8) (go co : Nat → Nat) (hgo : ∀ i, i < R → go i < 8 ∧ f 4 i = nI (go i)) (hco : ∀ i, i < R → co i ≤ 20 ∧ f 8 i = nI (co i)) (hz : z < 2 ^ 29)
    (I : Nat → (Nat → Option Nat) → (Nat → Option Nat) → Prop)
    (hskip : ∀ i C Q, i < R → I i C Q → ¬ (f 5 i = -1 ∧ f 6 i = nI h) → I (i + 1) C Q) (hdear : ∀ i C Q, i < R → I i C Q → f 5 i = -1 → f 6 i = nI h → ¬ takes C (go i) (some (z + co i)) → I (i + 1) C Q)
    (htake : ∀ i C Q, i < R → I i C Q → f 5 i = -1 → f 6 i = nI h → takes C (go i) (some (z + co i)) → I (i + 1) (va_up C (go i) (some (z + co i))) (va_up Q (go i) (some i)))
    {C0 Q0 : Nat → Option Nat} (h0 : I 0 C0 Q0) (hrow : rowC N f C0 Q0) (hc : C0 h = some z) (hend : ∀ f' C Q, I R C Q → rowC N f' C Q → keepsRow N f f' → post n f') : wp_F_applyChainRulesFrom post (nI h) n f := by
  have loop : ∀ (d i : Nat) (f' : ctF) (C Q : Nat → Option Nat), R = i + d → I i C Q → rowC N f' C Q → keepsRow N f f' → wp_F_applyChainRulesFrom_L16 post (d + 1) (nI h) (nI z) (nI i) n f' := by
    intro d
    induction d with
    | zero =>
      intro i f' C Q hd hi hr hk
      rw [wp_F_applyChainRulesFrom_L16, hR]
      have e : R = i := hd
      subst e
      exact ⟨fun _ => hend f' C Q hi hr hk, fun q => absurd (nI_le (Nat.le_refl R) (by omega)) q⟩
    | succ d ih =>
      intro i f' C Q hd hi hr hk
      have hlt : i < R := by omega
      have hic : (nI i).toNatClampNeg = i := nI_clamp (by omega)
      have hi1 : nI i + 1 = nI (i + 1) := nI_1 i
      rw [wp_F_applyChainRulesFrom_L16, hR, hic, hi1]
      refine ⟨fun q => absurd q (nI_ge hlt (by omega)), fun _ => ?_⟩
      refine w_isChainFrom (by omega) (fun a b => ?_) (fun a => ?_)
      · rw [hk.at (by decide) (by decide)] at a b
        refine ⟨fun q => absurd q (by decide), fun _ => ⟨vp_in_nI (by omega) (by decide), ?_⟩⟩
        obtain ⟨hg8, hg4⟩ := hgo i hlt
        obtain ⟨hc20, hc8⟩ := hco i hlt
        rw [hk.at (by decide) (by decide), hc8, nI_add]
        refine w_offer (price := some (z + co i)) hN hN' (by omega) hg8 (by rw [hk.at (by decide) (by decide)]; exact hg4) (fun y hy => by cases hy; omega) ?_
        rintro _ rfl
        obtain ⟨hcase, hs, h12, h16, h17⟩ := offF_row (i := i) hr hg8 (price := some (z + co i)) (fun y hy => by cases hy; omega)
        have hk2 : keepsRow N f (offF f' N i (go i) (some (z + co i))) := hk.tr ⟨hs, h12, h16, h17⟩
        rcases hcase with ⟨ht, y, hy, hrow2⟩ | ⟨ht, he⟩
        · cases hy
          exact ih (i + 1) _ _ _ (by omega) (htake i C Q hlt hi a b ht) hrow2 hk2
        · exact ih (i + 1) _ C Q (by omega) (hdear i C Q hlt hi a b ht) (by rw [he]; exact hr) hk2
      · rw [hk.at (by decide) (by decide), hk.at (k := 6) (by decide) (by decide)] at a
        refine ⟨fun _ => ?_, fun q => absurd rfl q⟩
        rintro _ rfl
        exact ih (i + 1) f' C Q (by omega) (hskip i C Q hlt hi a) hr hk
  unfold wp_F_applyChainRulesFrom
  rw [hN]
  refine w_place ⟨ix_in hN' hh, ?_⟩
  rw [ix_cl hN' hh, (hrow.1 h hh).1, hc]
  rintro _ rfl
  refine ⟨R + 1, ?_⟩
  have q := loop R 0 f C0 Q0 (by omega) h0 hrow (keepsRow.rf N f)
  rw [nI_0] at q
  exact q
end
section
/-! the cheapest goal that isn't settled -/
def flagS (f : ctF) (S : Nat → Bool) : Prop := ∀ g, g < 8 → f 17 g = if S g = true then 1 else 0
/-- of the goals below m, b is the one of least cost (of those alike the least) that isn't settled -/
def isBest (C : Nat → Option Nat) (S : Nat → Bool) (m : Nat) (b : Option Nat) : Prop := match b with
  | none => ∀ g, g < m → S g = false → C g = none
  | some b => b < m ∧ S b = false ∧ ∃ x, C b = some x ∧ ∀ g y, g < m → S g = false → C g = some y → x ≤ y ∧ (y = x → b ≤ g)
theorem isBest_skip {C : Nat → Option Nat} {S : Nat → Bool} {m : Nat} {b : Option Nat} (h : isBest C S m b) (hm : S m = true ∨ C m = none) : isBest C S (m + 1) b := by
  cases b with
  | none =>
    intro g hg hs
    by_cases e : g = m
    · subst e
      rcases hm with q | q
      · rw [hs] at q; cases q
      · exact q
    · exact h g (by omega) hs
  | some b =>
    obtain ⟨h1, h2, x, h3, h4⟩ := h
    refine ⟨by omega, h2, x, h3, fun g y hg hs hc => ?_⟩
    by_cases e : g = m
    · subst e
      rcases hm with q | q
      · rw [hs] at q; cases q
      · rw [hc] at q; cases q
    · exact h4 g y (by omega) hs hc
theorem isBest_first {C : Nat → Option Nat} {S : Nat → Bool} {m x : Nat} (h : isBest C S m none) (hs : S m = false) (hc : C m = some x) : isBest C S (m + 1) (some m) := by
  refine ⟨by omega, hs, x, hc, fun g y hg hsg hcg => ?_⟩
  by_cases e : g = m
  · subst e
    rw [hc] at hcg; cases hcg
    exact ⟨Nat.le_refl _, fun _ => Nat.le_refl _⟩
  · have := h g (by omega) hsg
    rw [hcg] at this; cases this
theorem isBest_new {C : Nat → Option Nat} {S : Nat → Bool} {m b x z : Nat} (h : isBest C S m (some b)) (hb : C b = some z) (hs : S m = false) (hc : C m = some x) (hlt : x < z) : isBest C S (m + 1) (some m) := by
  obtain ⟨h1, h2, z2, h3, h4⟩ := h
  rw [hb] at h3; cases h3
  refine ⟨by omega, hs, x, hc, fun g y hg hsg hcg => ?_⟩
  by_cases e : g = m
  · subst e
    rw [hc] at hcg; cases hcg
    exact ⟨Nat.le_refl _, fun _ => Nat.le_refl _⟩
  · have q := h4 g y (by omega) hsg hcg
    exact ⟨by omega, fun e2 => by omega⟩
theorem isBest_old {C : Nat → Option Nat} {S : Nat → Bool} {m b x z : Nat} (h : isBest C S m (some b)) (hb : C b = some z) (hc : C m = some x) (hle : z ≤ x) : isBest C S (m + 1) (some b) := by
  obtain ⟨h1, h2, z2, h3, h4⟩ := h
  rw [hb] at h3; cases h3
  refine ⟨by omega, h2, z, hb, fun g y hg hsg hcg => ?_⟩
  by_cases e : g = m
  · subst e
    rw [hc] at hcg; cases hcg
    exact ⟨hle, fun _ => by omega⟩
  · exact h4 g y (by omega) hsg hcg
theorem w_cheapest {post : Int32 → ctN → ctF → Prop} {n : ctN} {f : ctF} {N : Nat} {C Q : Nat → Option Nat} {S : Nat → Bool} (hN : n 2 = nI N) (hN' : N < 120) (hrow : rowC N f C Q) (hS : flagS f S) (h : ∀ b, isBest C S 8 b → post (en b) n f) : wp_F_cheapestUnsettled post n f := by
  have e8 : (8 : Int32) = nI 8 := ix_8
  have loop : ∀ (d m : Nat) (b : Option Nat), 8 = m + d → isBest C S m b → wp_F_cheapestUnsettled_L4 post (d + 1) (en b) (nI m) n f := by
    intro d
    induction d with
    | zero =>
      intro m b hd hb
      have e : m = 8 := by omega
      subst e
      rw [wp_F_cheapestUnsettled_L4]
      exact ⟨fun _ => h b hb, fun q => absurd (by rw [e8]; exact nI_le (Nat.le_refl 8) (by decide)) q⟩
    | succ d ih =>
      intro m b hd hb
      have hm : m < 8 := by omega
      have hmc : (nI m).toNatClampNeg = m := nI_clamp (by omega)
      have hm1 : nI m + 1 = nI (m + 1) := nI_1 m
      have hlt31 : ∀ g x, C g = some x → x < 2 ^ 31 := fun g x hx => Nat.lt_trans (hrow.2 g x hx) (by decide)
      rw [wp_F_cheapestUnsettled_L4]
      refine ⟨fun q => absurd q (by rw [e8]; exact nI_ge hm (by decide)), fun _ => ?_⟩
      rw [hN]
      refine w_place ⟨ix_in hN' hm, ?_⟩
      simp only [ix_cl hN' hm, hmc, hm1]
      rintro _ rfl
      refine ⟨vp_in_nI hm (by decide), fun q => ?_, fun q => ?_⟩
      · rintro _ rfl
        refine ih (m + 1) b (by omega) (isBest_skip hb (Or.inl ?_))
        rw [hS m hm] at q
        by_cases z : S m = true
        · exact z
        · rw [if_neg z] at q; exact absurd rfl q
      · have hsm : S m = false := by
          rw [hS m hm] at q
          by_cases z : S m = true
          · rw [if_pos z] at q; exact absurd q (by decide)
          · cases hz : S m
            · rfl
            · exact absurd hz z
        rw [(hrow.1 m hm).1]
        refine ⟨fun c => ?_, fun c => ?_⟩
        · rintro _ rfl
          exact ih (m + 1) b (by omega) (isBest_skip hb (Or.inr ((en_m1 (hlt31 m)).mp c)))
        · cases hc : C m with
          | none => rw [hc] at c; exact absurd rfl c
          | some x =>
            cases b with
            | none =>
              refine ⟨fun _ => ?_, fun q => absurd rfl q⟩
              rintro _ rfl
              exact ih (m + 1) (some m) (by omega) (isBest_first hb hsm hc)
            | some b =>
              obtain ⟨hb1, hb2, z, hb3, hb4⟩ := id hb
              refine ⟨fun q => absurd q (nI_m1 (by omega)), fun _ => ?_⟩
              rw [hN, en_s]
              refine w_place ⟨ix_in hN' (by omega), ?_⟩
              simp only [ix_cl hN' (show b < 8 by omega), (hrow.1 b (by omega)).1, hb3, en_s]
              refine ⟨fun q => ?_, fun q => ?_⟩
              · rintro _ rfl
                exact ih (m + 1) (some b) (by omega) (isBest_old hb hb3 hc ((nI_leI (hlt31 b z hb3) (hlt31 m x hc)).mp q))
              · rintro _ rfl
                exact ih (m + 1) (some m) (by omega) (isBest_new hb hb3 hsm hc (by rcases Nat.lt_or_ge x z with w | w; exact w; exact absurd ((nI_leI (hlt31 b z hb3) (hlt31 m x hc)).mpr w) q))
  unfold wp_F_cheapestUnsettled
  refine ⟨9, ?_⟩
  have q := loop 8 0 none (by omega) (fun g hg => absurd hg (Nat.not_lt_zero _))
  rw [nI_0] at q
  exact q
end
section
/-! the draft's row made blank -/
def blankTo (N m : Nat) (f : ctF) : Prop := f 12 N = -1 ∧ ∀ g, g < m → f 14 (8 * N + g) = -1 ∧ f 15 (8 * N + g) = -1 ∧ f 16 (8 * N + g) = -1 ∧ f 17 g = 0
theorem nar0 : vp_nar .boolean 0 = 0 := rfl
theorem w_blank {post : ctN → ctF → Prop} {n : ctN} {f : ctF} {N : Nat} (hN : n 2 = nI N) (hN' : N < 120) (h : ∀ f', sameBut N f f' → blankTo N 8 f' → post n f') : wp_F_blankDraft post n f := by
  have e8 : (8 : Int32) = nI 8 := ix_8
  have hNc : (nI N).toNatClampNeg = N := nI_clamp (by omega)
  have loop : ∀ (d m : Nat) (f' : ctF), 8 = m + d → sameBut N f f' → blankTo N m f' → wp_F_blankDraft_L12 post (d + 1) (nI m) n f' := by
    intro d
    induction d with
    | zero =>
      intro m f' hd hs hb
      have e : m = 8 := by omega
      subst e
      rw [wp_F_blankDraft_L12]
      exact ⟨fun _ => h f' hs hb, fun q => absurd (by rw [e8]; exact nI_le (Nat.le_refl 8) (by decide)) q⟩
    | succ d ih =>
      intro m f' hd hs hb
      have hm : m < 8 := by omega
      have hmc : (nI m).toNatClampNeg = m := nI_clamp (by omega)
      have hm1 : nI m + 1 = nI (m + 1) := nI_1 m
      have hx := ix_in hN' hm
      rw [wp_F_blankDraft_L12]
      refine ⟨fun q => absurd q (by rw [e8]; exact nI_ge hm (by decide)), fun _ => ?_⟩
      rw [hN]
      refine w_place ?_
      simp only [ix_cl hN' hm, hmc, hm1, nar0]
      refine ⟨hx, ?_⟩
      rintro _ rfl
      refine ⟨hx, ?_⟩
      rintro _ rfl
      refine ⟨hx, ?_⟩
      rintro _ rfl
      refine ⟨vp_in_nI hm (by decide), ?_⟩
      rintro f2 hf2 _ rfl
      have a14 : f2 14 = upd (f' 14) (8 * N + m) (-1) := by rw [hf2, va_up_ne _ _ (by decide), va_up_ne _ _ (by decide), va_up_ne _ _ (by decide), va_up_self]
      have a15 : f2 15 = upd (f' 15) (8 * N + m) (-1) := by rw [hf2, va_up_ne _ _ (by decide), va_up_ne _ _ (by decide), va_up_self, va_up_ne _ _ (by decide)]
      have a16 : f2 16 = upd (f' 16) (8 * N + m) (-1) := by rw [hf2, va_up_ne _ _ (by decide), va_up_self, va_up_ne _ _ (by decide), va_up_ne _ _ (by decide)]
      have a17 : f2 17 = upd (f' 17) m 0 := by rw [hf2, va_up_self, va_up_ne _ _ (by decide), va_up_ne _ _ (by decide), va_up_ne _ _ (by decide)]
      have ao : ∀ k, k ≠ 14 → k ≠ 15 → k ≠ 16 → k ≠ 17 → f2 k = f' k := fun k h1 h2 h3 h4 => by rw [hf2, va_up_ne _ _ h4, va_up_ne _ _ h3, va_up_ne _ _ h2, va_up_ne _ _ h1]
      refine ih (m + 1) f2 (by omega) (hs.tr ⟨fun k _ h2 h3 h4 h5 => ao k h2 h3 h4 h5, fun j _ => by rw [ao 12 (by decide) (by decide) (by decide) (by decide)], fun j hj => ⟨by rw [a14, upd_ne _ _ (by omega)], by rw [a15, upd_ne _ _ (by omega)], by rw [a16, upd_ne _ _ (by omega)]⟩⟩) ⟨by rw [ao 12 (by decide) (by decide) (by decide) (by decide)]; exact hb.1, fun g hg => ?_⟩
      by_cases e : g = m
      · subst e
        exact ⟨by rw [a14, upd_self], by rw [a15, upd_self], by rw [a16, upd_self], by rw [a17, upd_self]⟩
      · obtain ⟨b1, b2, b3, b4⟩ := hb.2 g (by omega)
        exact ⟨by rw [a14, upd_ne _ _ (by omega)]; exact b1, by rw [a15, upd_ne _ _ (by omega)]; exact b2, by rw [a16, upd_ne _ _ (by omega)]; exact b3, by rw [a17, upd_ne _ _ e]; exact b4⟩
  unfold wp_F_blankDraft
  rw [hN, hNc]
  refine ⟨vp_in_nI hN' (by decide), ?_⟩
  rintro f2 hf2
  refine ⟨9, ?_⟩
  have a12 : f2 12 = upd (f 12) N (-1) := by rw [hf2, va_up_self]
  have ao : ∀ k, k ≠ 12 → f2 k = f k := fun k h1 => by rw [hf2, va_up_ne _ _ h1]
  have q := loop 8 0 f2 (by omega) ⟨fun k h1 _ _ _ _ => ao k h1, fun j hj => by rw [a12, upd_ne _ _ hj], fun j _ => ⟨by rw [ao 14 (by decide)], by rw [ao 15 (by decide)], by rw [ao 16 (by decide)]⟩⟩ ⟨by rw [a12, upd_self], fun g hg => absurd hg (Nat.not_lt_zero _)⟩
  rw [nI_0] at q
  exact q
theorem blank_row {N : Nat} {f : ctF} (h : blankTo N 8 f) : rowC N f (fun _ => none) (fun _ => none) ∧ flagS f (fun _ => false) :=
  ⟨⟨fun g hg => ⟨(h.2 g hg).1, (h.2 g hg).2.1⟩, fun _ _ e => nomatch e⟩, fun g hg => (h.2 g hg).2.2.2⟩
end
section
/-! the reference's costBy as a function -/
theorem nI_ge0 {k : Nat} (h : k < 2 ^ 31) : (0 : Int32) ≤ nI k := nI_pos' h
theorem en_ge0 {o : Option Nat} (h : ∀ k, o = some k → k < 2 ^ 31) : (0 : Int32) ≤ en o ↔ ∃ k, o = some k := by
  cases o with
  | none => exact ⟨fun q => absurd q (by decide), fun ⟨k, e⟩ => nomatch e⟩
  | some k => exact ⟨fun _ => ⟨k, rfl⟩, fun _ => nI_pos' (h k rfl)⟩
theorem wm_costChain {post : Int32 → ctN → ctF → Prop} {n : ctN} {f : ctF} {N r h c : Nat} {a : Option Nat} (hN' : N < 120) (hr : r < 40) (hof : f 22 r = -1) (h23 : f 23 r = nI h) (hh : h < 8) (h21 : f 21 r = nI c) (ha : f 28 (8 * N + h) = en a) (hb : ∀ x, a = some x → x < 2 ^ 31) (hp : post (en (a.map (fun x => x + c))) n f) : wp_M_costBy post (nI N) (nI r) n f := by
  have hrc : (nI r).toNatClampNeg = r := nI_clamp (by omega)
  have hri : vp_in (nI r) 40 := vp_in_nI hr (by decide)
  unfold wp_M_costBy
  simp only [hrc, hof, h23, h21, ix_m, ix_cl hN' hh, ha]
  refine ⟨hri, fun q => absurd q (by decide), fun _ => ⟨hri, ix_in hN' hh, ?_⟩⟩
  rintro _ rfl
  cases a with
  | none => exact ⟨fun q => absurd q (by decide), fun _ => hp⟩
  | some x => exact ⟨fun _ => ⟨hri, by rw [en_s, nI_add]; exact hp⟩, fun q => absurd (nI_pos' (hb x rfl)) q⟩
theorem wm_costOther {post : Int32 → ctN → ctF → Prop} {n : ctN} {f : ctF} {N r o : Nat} (hN' : N < 120) (hr : r < 40) (hof : f 22 r = nI o) (ho : o < 10) (hne : ¬ nI o = f 25 N) (hp : post (-1) n f) : wp_M_costBy post (nI N) (nI r) n f := by
  have hrc : (nI r).toNatClampNeg = r := nI_clamp (by omega)
  have hNc : (nI N).toNatClampNeg = N := nI_clamp (by omega)
  have hri : vp_in (nI r) 40 := vp_in_nI hr (by decide)
  unfold wp_M_costBy
  simp only [hrc, hNc, hof]
  exact ⟨hri, fun _ => ⟨hri, vp_in_nI hN' (by decide), fun q => absurd q hne, fun _ => hp⟩, fun q => absurd (nI_pos' (by omega)) q⟩
theorem wm_costBase {post : Int32 → ctN → ctF → Prop} {n : ctN} {f : ctF} {N r o k s u1 u2 g1 g2 : Nat} {a1 a2 : Option Nat} (hN' : N < 120) (hr : r < 40) (hof : f 22 r = nI o) (ho : o < 10) (h25 : f 25 N = nI o) (hk : f 19 o = nI k) (hk' : k ≤ 2) (hs : f 21 r = nI s) (hs' : s ≤ 20)
    (h1 : 1 ≤ k → f 26 N = nI u1 ∧ u1 < 120 ∧ f 23 r = nI g1 ∧ g1 < 8 ∧ f 28 (8 * u1 + g1) = en a1) (hb1 : ∀ x, a1 = some x → x < 2 ^ 29)
    (h2 : 2 ≤ k → f 27 N = nI u2 ∧ u2 < 120 ∧ f 24 r = nI g2 ∧ g2 < 8 ∧ f 28 (8 * u2 + g2) = en a2) (hb2 : ∀ x, a2 = some x → x < 2 ^ 29)
    (hp : post (en (bcost k s a1 a2)) n f) : wp_M_costBy post (nI N) (nI r) n f := by
  have hrc : (nI r).toNatClampNeg = r := nI_clamp (by omega)
  have hNc : (nI N).toNatClampNeg = N := nI_clamp (by omega)
  have hoc : (nI o).toNatClampNeg = o := nI_clamp (by omega)
  have hri : vp_in (nI r) 40 := vp_in_nI hr (by decide)
  have hNi : vp_in (nI N) 120 := vp_in_nI hN' (by decide)
  have hoi : vp_in (nI o) 10 := vp_in_nI ho (by decide)
  have k0 : nI k ≤ 0 ↔ k ≤ 0 := by rw [show (0 : Int32) = nI 0 by decide]; exact nI_leI (by omega) (by decide)
  have k1 : nI k ≤ 1 ↔ k ≤ 1 := by rw [show (1 : Int32) = nI 1 by decide]; exact nI_leI (by omega) (by decide)
  have J : ∀ x : Nat, x < 2 ^ 30 → (k ≤ 1 → post (nI x) n f) → (2 ≤ k → post (en (a2.map (fun y => x + y))) n f) → wp_M_costBy_J118 post (nI N) (nI r) (nI x) n f := by
    intro x hx p1 p2
    unfold wp_M_costBy_J118
    simp only [hrc, hof, hoc, hk, hNc]
    refine ⟨hri, hoi, fun c => p1 (k1.mp c), fun c => ⟨fun q => absurd q (nI_pos (by omega)), fun _ => ⟨hNi, hri, ?_⟩⟩⟩
    have c2 : 2 ≤ k := by
      have : ¬ k ≤ 1 := fun z => c (k1.mpr z)
      omega
    obtain ⟨q1, q2, q3, q4, q5⟩ := h2 c2
    have p2 := p2 c2
    simp only [q1, q3, ix_m, ix_cl q2 q4, q5]
    refine ⟨ix_in q2 q4, ?_⟩
    rintro _ rfl
    cases a2 with
    | none => exact ⟨fun q => absurd q (by decide), fun _ => p2⟩
    | some y =>
      refine ⟨fun _ => ?_, fun q => absurd (nI_pos' (Nat.lt_trans (hb2 y rfl) (by decide))) q⟩
      rintro _ rfl
      rw [en_s, nI_add]
      exact p2
  have JN : post (-1) n f → wp_M_costBy_J118 post (nI N) (nI r) (-1) n f := by
    intro p
    unfold wp_M_costBy_J118
    simp only [hrc, hof, hoc, hk]
    exact ⟨hri, hoi, fun _ => p, fun _ => ⟨fun _ => p, fun q => absurd (by decide) q⟩⟩
  unfold wp_M_costBy
  simp only [hrc, hNc, hof, h25, hoc, hk, hs]
  refine ⟨hri, fun _ => ⟨hri, hNi, fun _ => ⟨hri, ?_⟩, fun q => absurd trivial q⟩, fun q => absurd (nI_pos' (by omega)) q⟩
  rintro _ rfl
  refine ⟨hri, hoi, fun c => ?_, fun c => ?_⟩
  · have c := k0.mp c
    rw [show bcost k s a1 a2 = some s from if_pos (by omega)] at hp
    exact J s (by omega) (fun _ => hp) (fun q => absurd q (by omega))
  · have c1 : 1 ≤ k := by
      have : ¬ k ≤ 0 := fun z => c (k0.mpr z)
      omega
    rw [show bcost k s a1 a2 = _ from if_neg (by omega)] at hp
    obtain ⟨q1, q2, q3, q4, q5⟩ := h1 c1
    simp only [q1, q3, ix_m, ix_cl q2 q4, q5]
    refine ⟨hNi, hri, ix_in q2 q4, ?_⟩
    rintro _ rfl
    unfold wp_M_costBy_J117
    cases a1 with
    | none => exact ⟨fun q => absurd q (by decide), fun _ => JN hp⟩
    | some x =>
      have hx := hb1 x rfl
      refine ⟨fun _ => ?_, fun q => absurd (nI_pos' (Nat.lt_trans hx (by decide))) q⟩
      rw [en_s, nI_add]
      have hp : post (en (if k < 2 then some (s + x) else a2.map (fun y => s + x + y))) n f := hp
      refine J (s + x) (by omega) (fun q => ?_) (fun q => ?_)
      · rw [if_pos (by omega)] at hp
        exact hp
      · rw [if_neg (by omega)] at hp
        exact hp
end
section
/-! least costs: what a rule asks of the costs, costs that no rule can better, costs below all such -/
/-- rule i over the costs C: a chain rule (ch i) asks what the node costs as ot i, and co i more; a base rule asks pr i -/
def byR (ch : Nat → Bool) (ot co : Nat → Nat) (pr : Nat → Option Nat) (C : Nat → Option Nat) (i : Nat) : Option Nat := if ch i = true then (C (ot i)).map (fun x => x + co i) else pr i
def closedC (R : Nat) (go : Nat → Nat) (ch : Nat → Bool) (ot co : Nat → Nat) (pr : Nat → Option Nat) (C : Nat → Option Nat) : Prop := ∀ i y, i < R → byR ch ot co pr C i = some y → ∃ x, C (go i) = some x ∧ x ≤ y
def aboveC (R : Nat) (go : Nat → Nat) (ch : Nat → Bool) (ot co : Nat → Nat) (pr : Nat → Option Nat) (C : Nat → Option Nat) : Prop := ∀ D, closedC R go ch ot co pr D → ∀ g x, C g = some x → ∃ z, D g = some z ∧ z ≤ x
theorem above_none {R : Nat} {go : Nat → Nat} {ch : Nat → Bool} {ot co : Nat → Nat} {pr : Nat → Option Nat} : aboveC R go ch ot co pr (fun _ => none) := fun _ _ _ _ e => nomatch e
theorem above_take {R : Nat} {go : Nat → Nat} {ch : Nat → Bool} {ot co : Nat → Nat} {pr C : Nat → Option Nat} {i y : Nat} (h : aboveC R go ch ot co pr C) (hi : i < R) (hy : byR ch ot co pr C i = some y) : aboveC R go ch ot co pr (va_up C (go i) (some y)) := by
  intro D hD g x hx
  by_cases e : g = go i
  · subst e
    rw [va_up_self] at hx
    cases hx
    by_cases c : ch i = true
    · unfold byR at hy
      rw [if_pos c] at hy
      cases hc : C (ot i) with
      | none => rw [hc] at hy; cases hy
      | some a =>
        rw [hc] at hy
        have hy : a + co i = y := Option.some.inj hy
        obtain ⟨z, hz, hza⟩ := h D hD (ot i) a hc
        have hb : byR ch ot co pr D i = some (z + co i) := by
          unfold byR
          rw [if_pos c, hz]
          rfl
        obtain ⟨w, hw, hwz⟩ := hD i _ hi hb
        exact ⟨w, hw, by omega⟩
    · unfold byR at hy
      rw [if_neg c] at hy
      have hb : byR ch ot co pr D i = some y := by
        unfold byR
        rw [if_neg c]
        exact hy
      exact hD i y hi hb
  · rw [va_up_ne _ _ e] at hx
    exact h D hD g x hx
/-- the least costs are one -/
theorem least_one {R : Nat} {go : Nat → Nat} {ch : Nat → Bool} {ot co : Nat → Nat} {pr C D : Nat → Option Nat} (c1 : closedC R go ch ot co pr C) (c2 : aboveC R go ch ot co pr C) (d1 : closedC R go ch ot co pr D) (d2 : aboveC R go ch ot co pr D) (g : Nat) : C g = D g := by
  cases hc : C g with
  | none =>
    cases hd : D g with
    | none => rfl
    | some x =>
      obtain ⟨z, hz, -⟩ := d2 C c1 g x hd
      rw [hc] at hz; cases hz
  | some x =>
    obtain ⟨z, hz, hzx⟩ := c2 D d1 g x hc
    obtain ⟨w, hw, hwz⟩ := d2 C c1 g z hz
    rw [hc] at hw
    cases hw
    rw [hz, show z = x by omega]
end
section
/-! sums over the goals, sizes as ints, bounds of costs -/
def q_sm (φ : Nat → Nat) : Nat → Nat
  | 0 => 0
  | m + 1 => q_sm φ m + φ m
theorem sm_eq {φ ψ : Nat → Nat} : ∀ m, (∀ g, g < m → φ g = ψ g) → q_sm φ m = q_sm ψ m
  | 0, _ => rfl
  | m + 1, h => by
    rw [q_sm, q_sm, sm_eq m (fun g hg => h g (by omega)), h m (by omega)]
theorem sm_up {φ ψ : Nat → Nat} {g : Nat} (h : ∀ j, j ≠ g → ψ j = φ j) : ∀ m, g < m → q_sm ψ m + φ g = q_sm φ m + ψ g
  | 0, hg => absurd hg (Nat.not_lt_zero _)
  | m + 1, hg => by
    rw [q_sm, q_sm]
    by_cases e : g = m
    · subst e
      rw [sm_eq (φ := ψ) (ψ := φ) g (fun j hj => h j (by omega))]
      omega
    · have := sm_up h m (by omega)
      rw [h m (fun q => e q.symm)]
      omega
theorem sm_le {φ : Nat → Nat} {B : Nat} : ∀ m, (∀ g, g < m → φ g ≤ B) → q_sm φ m ≤ m * B
  | 0, _ => Nat.zero_le _
  | m + 1, h => by
    have := sm_le m (fun g hg => h g (by omega))
    have := h m (by omega)
    rw [q_sm, Nat.succ_mul]
    omega
theorem sm_full {φ : Nat → Nat} : ∀ m, (∀ g, g < m → φ g ≤ 1) → m ≤ q_sm φ m → ∀ g, g < m → φ g = 1
  | 0, _, _, g, hg => absurd hg (Nat.not_lt_zero _)
  | m + 1, h, hs, g, hg => by
    rw [q_sm] at hs
    have h1 := sm_le (B := 1) m (fun g hg => h g (by omega))
    have h2 := h m (by omega)
    by_cases e : g = m
    · subst e; omega
    · exact sm_full m (fun g hg => h g (by omega)) (by omega) g (by omega)
/-- how many goals have a cost -/
def q_cN (C : Nat → Option Nat) : Nat := q_sm (fun g => if C g = none then 0 else 1) 8
def bndC (C : Nat → Option Nat) : Prop := ∀ g x, C g = some x → x ≤ 2000020 + 20 * q_cN C
theorem cN_le (C : Nat → Option Nat) : q_cN C ≤ 8 := by
  have := sm_le (φ := fun g => if C g = none then 0 else 1) (B := 1) 8 (fun g _ => by split <;> omega)
  unfold q_cN; omega
theorem bnd_lt {C : Nat → Option Nat} (h : bndC C) {g x : Nat} (e : C g = some x) : x ≤ 2000180 := by
  have := h g x e
  have := cN_le C
  omega
theorem bnd_none : bndC (fun _ => none) := fun _ _ e => nomatch e
theorem bnd_take {C : Nat → Option Nat} (h : bndC C) {g y : Nat} (hg : g < 8) (ht : takes C g (some y)) (hy : y ≤ 2000020 ∨ ∃ j x, C j = some x ∧ y ≤ x + 20) : bndC (va_up C g (some y)) := by
  have e1 : ∀ j, j ≠ g → (fun g' => if va_up C g (some y) g' = none then 0 else 1) j = (fun g' => if C g' = none then 0 else 1) j := fun j hj => by
    dsimp only; rw [va_up_ne _ _ hj]
  have e2 := sm_up (φ := fun g' => if C g' = none then 0 else 1) (ψ := fun g' => if va_up C g (some y) g' = none then 0 else 1) e1 8 hg
  rw [va_up_self, if_neg (show ¬ some y = none from fun q => nomatch q)] at e2
  obtain ⟨y2, ey, ht⟩ := ht
  cases ey
  have hc : q_cN C ≤ q_cN (va_up C g (some y)) ∧ (C g = none → q_cN (va_up C g (some y)) = q_cN C + 1) := by
    unfold q_cN
    by_cases q : C g = none
    · rw [if_pos q] at e2
      exact ⟨by omega, fun _ => by omega⟩
    · rw [if_neg q] at e2
      exact ⟨by omega, fun z => absurd z q⟩
  intro j x hx
  by_cases e : j = g
  · subst e
    rw [va_up_self] at hx
    cases hx
    rcases ht with ht | ⟨x0, hx0, hlt⟩
    · have := hc.2 ht
      rcases hy with hy | ⟨j2, x2, hj2, hy⟩
      · omega
      · have := h j2 x2 hj2
        omega
    · have := h j x0 hx0
      omega
  · rw [va_up_ne _ _ e] at hx
    have := h j x hx
    omega
/-- a cover's size as it is kept, or -1 -/
def szOK (x : Int32) : Prop := -1 ≤ x.toInt ∧ x.toInt ≤ 2001
theorem sz_m1 : szOK (-1) := by unfold szOK; decide
theorem ia_add {a b : Int32} (h1 : -1000000000 ≤ a.toInt) (h2 : a.toInt ≤ 1000000000) (h3 : -1000000000 ≤ b.toInt) (h4 : b.toInt ≤ 1000000000) : (a + b).toInt = a.toInt + b.toInt := by
  rw [Int32.toInt_add]
  exact Int.bmod_eq_of_le (by omega) (by omega)
theorem ia_sub {a b : Int32} (h1 : -1000000000 ≤ a.toInt) (h2 : a.toInt ≤ 1000000000) (h3 : -1000000000 ≤ b.toInt) (h4 : b.toInt ≤ 1000000000) : (a - b).toInt = a.toInt - b.toInt := by
  rw [Int32.toInt_sub]
  exact Int.bmod_eq_of_le (by omega) (by omega)
theorem sz_min {x : Int32} (h : -1 ≤ x.toInt) : szOK (if (2001 : Int32) < x then (2001 : Int32) else x) := by
  have e : (2001 : Int32).toInt = 2001 := by decide
  by_cases q : (2001 : Int32) < x
  · rw [if_pos q]; exact ⟨by rw [e]; omega, by rw [e]; omega⟩
  · rw [if_neg q]
    rw [w_lt, e] at q
    exact ⟨h, by omega⟩
theorem ia_1 : (1 : Int32).toInt = 1 := by decide
theorem ia_0 : (0 : Int32).toInt = 0 := by decide
theorem sz_1 {x : Int32} (h : szOK x) : 0 ≤ (1 + x).toInt ∧ (1 + x).toInt ≤ 2002 := by
  rw [ia_add (by rw [ia_1]; omega) (by rw [ia_1]; omega) (by have := h.1; omega) (by have := h.2; omega), ia_1]
  have := h.1; have := h.2
  omega
theorem sz_2 {x y : Int32} (h1 : 0 ≤ x.toInt) (h2 : x.toInt ≤ 2002) (h : szOK y) : -1 ≤ (x + y).toInt := by
  have := h.1; have := h.2
  rw [ia_add (by omega) (by omega) (by omega) (by omega)]
  omega
theorem w_sizeByRule {post : Int32 → ctN → ctF → Prop} {n : ctN} {f : ctF} {N b i : Nat} (hN : n 2 = nI N) (hN' : N < 120) (hb : b < 8) (hq : f 15 (8 * N + b) = nI i) (hi : i < 40)
    (hcase : (f 5 i = -1 ∧ ∃ h, h < 8 ∧ f 6 i = nI h ∧ szOK (f 16 (8 * N + h))) ∨ (¬ f 5 i = -1 ∧ ∃ o k, o < 10 ∧ f 9 N = nI o ∧ f 3 o = nI k ∧ k ≤ 2 ∧ (1 ≤ k → ∃ u g, u < 120 ∧ g < 8 ∧ f 10 N = nI u ∧ f 6 i = nI g ∧ szOK (f 16 (8 * u + g))) ∧ (2 ≤ k → ∃ u g, u < 120 ∧ g < 8 ∧ f 11 N = nI u ∧ f 7 i = nI g ∧ szOK (f 16 (8 * u + g)))))
    (h : ∀ s, szOK s → post s n f) : wp_F_sizeByRule post (nI b) n f := by
  have hic : (nI i).toNatClampNeg = i := nI_clamp (by omega)
  have hin : vp_in (nI i) 40 := vp_in_nI hi (by decide)
  have hNc : (nI N).toNatClampNeg = N := nI_clamp (by omega)
  have hNi : vp_in (nI N) 120 := vp_in_nI hN' (by decide)
  unfold wp_F_sizeByRule
  rw [hN]
  refine w_place ⟨ix_in hN' hb, ?_⟩
  simp only [ix_cl hN' hb, hq, hN, hNc]
  rintro _ rfl
  simp only [hic]
  refine ⟨hin, fun c => ?_, fun c => ?_⟩
  · rcases hcase with ⟨c2, -⟩ | ⟨-, o, k, ho, h9, h3, hk, hp1, hp2⟩
    · exact absurd c2 c
    have k1 : nI k < 1 ↔ k < 1 := by rw [show (1 : Int32) = nI 1 by decide]; exact nI_ltI (by omega) (by decide)
    have k2 : nI k < 2 ↔ k < 2 := by rw [show (2 : Int32) = nI 2 by decide]; exact nI_ltI (by omega) (by decide)
    have hoc : (nI o).toNatClampNeg = o := nI_clamp (by omega)
    have J : ∀ x : Int32, 0 ≤ x.toInt → x.toInt ≤ 2002 → wp_F_sizeByRule_J110 post (nI i) x (nI k) n f := by
      intro x hx1 hx2
      unfold wp_F_sizeByRule_J110
      rw [hN, hNc, hic]
      refine ⟨fun _ => h _ (sz_min (by omega)), fun q => ⟨hNi, hin, ?_⟩⟩
      obtain ⟨u, g, hu, hg, h11, h7, hs⟩ := hp2 (by have : ¬ k < 2 := fun z => q (k2.mpr z); omega)
      rw [h11, h7]
      refine w_place ⟨ix_in hu hg, ?_⟩
      rw [ix_cl hu hg]
      rintro _ rfl
      exact h _ (sz_min (sz_2 hx1 hx2 hs))
    rw [h9, hoc, h3]
    refine ⟨hNi, vp_in_nI ho (by decide), ?_⟩
    rintro _ rfl
    refine ⟨fun _ => J 1 (by rw [ia_1]; omega) (by rw [ia_1]; omega), fun q => ⟨hNi, hin, ?_⟩⟩
    obtain ⟨u, g, hu, hg, h10, h6, hs⟩ := hp1 (by have : ¬ k < 1 := fun z => q (k1.mpr z); omega)
    rw [h10, h6]
    refine w_place ⟨ix_in hu hg, ?_⟩
    rw [ix_cl hu hg]
    rintro _ rfl
    exact J _ (sz_1 hs).1 (sz_1 hs).2
  · rcases hcase with ⟨-, hh, hh8, h6, hs⟩ | ⟨c2, -⟩
    · rw [h6]
      refine ⟨hin, w_place ⟨ix_in hN' hh8, ?_⟩⟩
      rw [ix_cl hN' hh8]
      rintro _ rfl
      exact h _ (sz_min (by have := (sz_1 hs).1; omega))
    · exact absurd c c2
end
section
/-! the grammar and the trees as numbers -/
def GD : Type := (Nat) × (Nat) × (Nat → Nat) × (Nat → Nat) × (Nat → Nat) × (Nat → Nat) × (Nat → Nat) × (Nat → Option Nat)
def GD.O (X : GD) : Nat := X.1
def GD.R (X : GD) : Nat := X.2.1
def GD.k (X : GD) : Nat → Nat := X.2.2.1
def GD.go (X : GD) : Nat → Nat := X.2.2.2.1
def GD.co (X : GD) : Nat → Nat := X.2.2.2.2.1
def GD.g1 (X : GD) : Nat → Nat := X.2.2.2.2.2.1
def GD.g2 (X : GD) : Nat → Nat := X.2.2.2.2.2.2.1
def GD.op (X : GD) : Nat → Option Nat := X.2.2.2.2.2.2.2
def GD.mk (O : Nat) (R : Nat) (k : Nat → Nat) (go : Nat → Nat) (co : Nat → Nat) (g1 : Nat → Nat) (g2 : Nat → Nat) (op : Nat → Option Nat) : GD := (O, R, k, go, co, g1, g2, op)
def GD.ok (G : GD) : Prop := (G.O ≤ 10) ∧ (G.R ≤ 40) ∧ (∀ o, o < G.O → G.k o ≤ 2) ∧ (∀ i, i < G.R → G.go i < 8 ∧ G.co i ≤ 20 ∧ G.g1 i < 8 ∧ G.g2 i < 8 ∧ ∀ o, G.op i = some o → o < G.O)
theorem GD.ok.O10 {G : GD} (h : GD.ok G) : G.O ≤ 10 := h.1
theorem GD.ok.R40 {G : GD} (h : GD.ok G) : G.R ≤ 40 := h.2.1
theorem GD.ok.k2 {G : GD} (h : GD.ok G) : ∀ o, o < G.O → G.k o ≤ 2 := h.2.2.1
theorem GD.ok.ru {G : GD} (h : GD.ok G) : ∀ i, i < G.R → G.go i < 8 ∧ G.co i ≤ 20 ∧ G.g1 i < 8 ∧ G.g2 i < 8 ∧ ∀ o, G.op i = some o → o < G.O := h.2.2.2
def gC (G : GD) (n : ctN) (f : ctF) : Prop := (n 0 = nI G.O) ∧ (n 1 = nI G.R) ∧ (∀ o, o < G.O → f 3 o = nI (G.k o)) ∧ (∀ i, i < G.R → f 4 i = nI (G.go i) ∧ f 5 i = en (G.op i) ∧ f 6 i = nI (G.g1 i) ∧ f 7 i = nI (G.g2 i) ∧ f 8 i = nI (G.co i))
theorem gC.nO {G : GD} {n : ctN} {f : ctF} (h : gC G n f) : n 0 = nI G.O := h.1
theorem gC.nR {G : GD} {n : ctN} {f : ctF} (h : gC G n f) : n 1 = nI G.R := h.2.1
theorem gC.pa {G : GD} {n : ctN} {f : ctF} (h : gC G n f) : ∀ o, o < G.O → f 3 o = nI (G.k o) := h.2.2.1
theorem gC.ru {G : GD} {n : ctN} {f : ctF} (h : gC G n f) : ∀ i, i < G.R → f 4 i = nI (G.go i) ∧ f 5 i = en (G.op i) ∧ f 6 i = nI (G.g1 i) ∧ f 7 i = nI (G.g2 i) ∧ f 8 i = nI (G.co i) := h.2.2.2
def chG (G : GD) (i : Nat) : Bool := match G.op i with
  | none => true
  | some _ => false
theorem gC.up {G : GD} {n n' : ctN} {f f' : ctF} (h : gC G n f) (e0 : n' 0 = n 0) (e1 : n' 1 = n 1) (e : ∀ k, 3 ≤ k → k ≤ 8 → f' k = f k) : gC G n' f' :=
  ⟨by rw [e0]; exact h.nO, by rw [e1]; exact h.nR, fun o ho => by rw [e 3 (by decide) (by decide)]; exact h.pa o ho, fun i hi => by
    rw [e 4 (by decide) (by decide), e 5 (by decide) (by decide), e 6 (by decide) (by decide), e 7 (by decide) (by decide), e 8 (by decide) (by decide)]; exact h.ru i hi⟩
theorem gC.same {G : GD} {n : ctN} {f f' : ctF} {N : Nat} (h : gC G n f) (e : sameBut N f f') : gC G n f' :=
  h.up rfl rfl (fun k _ _ => e.1 k (by omega) (by omega) (by omega) (by omega) (by omega))
theorem GD.op_lt {G : GD} (h : G.ok) {i : Nat} (hi : i < G.R) {o : Nat} (e : G.op i = some o) : o < 2 ^ 31 := by
  have := (h.ru i hi).2.2.2.2 o e
  have := h.O10
  omega
theorem GD.op_m1 {G : GD} (h : G.ok) {i : Nat} (hi : i < G.R) : en (G.op i) = -1 ↔ chG G i = true := by
  rw [en_m1 (fun k hk => GD.op_lt h hi hk)]
  unfold chG
  cases G.op i with
  | none => exact ⟨fun _ => rfl, fun _ => rfl⟩
  | some o => exact ⟨(fun q => nomatch q), (fun q => nomatch q)⟩
/-- the draft while its goals are settled -/
def q_stJ (G : GD) (pr : Nat → Option Nat) (N : Nat) (f0 f : ctF) (S : Nat → Bool) (C Q : Nat → Option Nat) : Prop := (sameBut N f0 f) ∧ (rowC N f C Q) ∧ (flagS f S) ∧ (bndC C) ∧ (aboveC G.R G.go (chG G) G.g1 G.co pr C) ∧ (∀ i y, i < G.R → chG G i = false → pr i = some y → ∃ x, C (G.go i) = some x ∧ x ≤ y) ∧ (∀ g i, Q g = some i → i < G.R) ∧ (∀ g, C g = none ↔ Q g = none) ∧ (∀ s, S s = true → ∃ x, C s = some x ∧ (∀ g y, g < 8 → S g = false → C g = some y → x ≤ y) ∧ ∀ i, i < G.R → chG G i = true → G.g1 i = s → ∃ w, C (G.go i) = some w ∧ w ≤ x + G.co i) ∧ (∀ g, g < 8 → szOK (f 16 (8 * N + g)) ∧ (S g = false → f 16 (8 * N + g) = -1)) ∧ (((∀ s, S s = false) ∧ f 12 N = -1) ∨ ∃ x, f 12 N = nI x ∧ (∃ g, g < 8 ∧ S g = true ∧ C g = some x) ∧ ∀ g y, g < 8 → C g = some y → x ≤ y)
theorem q_stJ.same {G : GD} {pr : Nat → Option Nat} {N : Nat} {f0 f : ctF} {S : Nat → Bool} {C Q : Nat → Option Nat} (h : q_stJ G pr N f0 f S C Q) : sameBut N f0 f := h.1
theorem q_stJ.row {G : GD} {pr : Nat → Option Nat} {N : Nat} {f0 f : ctF} {S : Nat → Bool} {C Q : Nat → Option Nat} (h : q_stJ G pr N f0 f S C Q) : rowC N f C Q := h.2.1
theorem q_stJ.flag {G : GD} {pr : Nat → Option Nat} {N : Nat} {f0 f : ctF} {S : Nat → Bool} {C Q : Nat → Option Nat} (h : q_stJ G pr N f0 f S C Q) : flagS f S := h.2.2.1
theorem q_stJ.bnd {G : GD} {pr : Nat → Option Nat} {N : Nat} {f0 f : ctF} {S : Nat → Bool} {C Q : Nat → Option Nat} (h : q_stJ G pr N f0 f S C Q) : bndC C := h.2.2.2.1
theorem q_stJ.abv {G : GD} {pr : Nat → Option Nat} {N : Nat} {f0 f : ctF} {S : Nat → Bool} {C Q : Nat → Option Nat} (h : q_stJ G pr N f0 f S C Q) : aboveC G.R G.go (chG G) G.g1 G.co pr C := h.2.2.2.2.1
theorem q_stJ.bas {G : GD} {pr : Nat → Option Nat} {N : Nat} {f0 f : ctF} {S : Nat → Bool} {C Q : Nat → Option Nat} (h : q_stJ G pr N f0 f S C Q) : ∀ i y, i < G.R → chG G i = false → pr i = some y → ∃ x, C (G.go i) = some x ∧ x ≤ y := h.2.2.2.2.2.1
theorem q_stJ.rul {G : GD} {pr : Nat → Option Nat} {N : Nat} {f0 f : ctF} {S : Nat → Bool} {C Q : Nat → Option Nat} (h : q_stJ G pr N f0 f S C Q) : ∀ g i, Q g = some i → i < G.R := h.2.2.2.2.2.2.1
theorem q_stJ.non {G : GD} {pr : Nat → Option Nat} {N : Nat} {f0 f : ctF} {S : Nat → Bool} {C Q : Nat → Option Nat} (h : q_stJ G pr N f0 f S C Q) : ∀ g, C g = none ↔ Q g = none := h.2.2.2.2.2.2.2.1
theorem q_stJ.st1 {G : GD} {pr : Nat → Option Nat} {N : Nat} {f0 f : ctF} {S : Nat → Bool} {C Q : Nat → Option Nat} (h : q_stJ G pr N f0 f S C Q) : ∀ s, S s = true → ∃ x, C s = some x ∧ (∀ g y, g < 8 → S g = false → C g = some y → x ≤ y) ∧ ∀ i, i < G.R → chG G i = true → G.g1 i = s → ∃ w, C (G.go i) = some w ∧ w ≤ x + G.co i := h.2.2.2.2.2.2.2.2.1
theorem q_stJ.siz {G : GD} {pr : Nat → Option Nat} {N : Nat} {f0 f : ctF} {S : Nat → Bool} {C Q : Nat → Option Nat} (h : q_stJ G pr N f0 f S C Q) : ∀ g, g < 8 → szOK (f 16 (8 * N + g)) ∧ (S g = false → f 16 (8 * N + g) = -1) := h.2.2.2.2.2.2.2.2.2.1
theorem q_stJ.lea {G : GD} {pr : Nat → Option Nat} {N : Nat} {f0 f : ctF} {S : Nat → Bool} {C Q : Nat → Option Nat} (h : q_stJ G pr N f0 f S C Q) : ((∀ s, S s = false) ∧ f 12 N = -1) ∨ ∃ x, f 12 N = nI x ∧ (∃ g, g < 8 ∧ S g = true ∧ C g = some x) ∧ ∀ g y, g < 8 → C g = some y → x ≤ y := h.2.2.2.2.2.2.2.2.2.2
def stE (G : GD) (pr : Nat → Option Nat) (N : Nat) (f0 f : ctF) (C Q : Nat → Option Nat) : Prop := (sameBut N f0 f) ∧ (rowC N f C Q) ∧ (bndC C) ∧ (closedC G.R G.go (chG G) G.g1 G.co pr C) ∧ (aboveC G.R G.go (chG G) G.g1 G.co pr C) ∧ (∀ g i, Q g = some i → i < G.R) ∧ (∀ g, C g = none ↔ Q g = none) ∧ (∀ g, g < 8 → szOK (f 16 (8 * N + g)) ∧ (Q g = none → f 16 (8 * N + g) = -1)) ∧ (((∀ g, g < 8 → C g = none) ∧ f 12 N = -1) ∨ ∃ x, f 12 N = nI x ∧ (∃ g, g < 8 ∧ C g = some x) ∧ ∀ g y, g < 8 → C g = some y → x ≤ y)
theorem stE.same {G : GD} {pr : Nat → Option Nat} {N : Nat} {f0 f : ctF} {C Q : Nat → Option Nat} (h : stE G pr N f0 f C Q) : sameBut N f0 f := h.1
theorem stE.row {G : GD} {pr : Nat → Option Nat} {N : Nat} {f0 f : ctF} {C Q : Nat → Option Nat} (h : stE G pr N f0 f C Q) : rowC N f C Q := h.2.1
theorem stE.bnd {G : GD} {pr : Nat → Option Nat} {N : Nat} {f0 f : ctF} {C Q : Nat → Option Nat} (h : stE G pr N f0 f C Q) : bndC C := h.2.2.1
theorem stE.clo {G : GD} {pr : Nat → Option Nat} {N : Nat} {f0 f : ctF} {C Q : Nat → Option Nat} (h : stE G pr N f0 f C Q) : closedC G.R G.go (chG G) G.g1 G.co pr C := h.2.2.2.1
theorem stE.abv {G : GD} {pr : Nat → Option Nat} {N : Nat} {f0 f : ctF} {C Q : Nat → Option Nat} (h : stE G pr N f0 f C Q) : aboveC G.R G.go (chG G) G.g1 G.co pr C := h.2.2.2.2.1
theorem stE.rul {G : GD} {pr : Nat → Option Nat} {N : Nat} {f0 f : ctF} {C Q : Nat → Option Nat} (h : stE G pr N f0 f C Q) : ∀ g i, Q g = some i → i < G.R := h.2.2.2.2.2.1
theorem stE.non {G : GD} {pr : Nat → Option Nat} {N : Nat} {f0 f : ctF} {C Q : Nat → Option Nat} (h : stE G pr N f0 f C Q) : ∀ g, C g = none ↔ Q g = none := h.2.2.2.2.2.2.1
theorem stE.siz {G : GD} {pr : Nat → Option Nat} {N : Nat} {f0 f : ctF} {C Q : Nat → Option Nat} (h : stE G pr N f0 f C Q) : ∀ g, g < 8 → szOK (f 16 (8 * N + g)) ∧ (Q g = none → f 16 (8 * N + g) = -1) := h.2.2.2.2.2.2.2.1
theorem stE.lea {G : GD} {pr : Nat → Option Nat} {N : Nat} {f0 f : ctF} {C Q : Nat → Option Nat} (h : stE G pr N f0 f C Q) : ((∀ g, g < 8 → C g = none) ∧ f 12 N = -1) ∨ ∃ x, f 12 N = nI x ∧ (∃ g, g < 8 ∧ C g = some x) ∧ ∀ g y, g < 8 → C g = some y → x ≤ y := h.2.2.2.2.2.2.2.2
theorem q_stJ.fin {G : GD} (hG : G.ok) {pr : Nat → Option Nat} {N : Nat} {f0 f : ctF} {S : Nat → Bool} {C Q : Nat → Option Nat} (h : q_stJ G pr N f0 f S C Q) (he : ∀ g, g < 8 → S g = false → C g = none) : stE G pr N f0 f C Q := by
  refine ⟨h.same, h.row, h.bnd, fun i y hi hy => ?_, h.abv, h.rul, h.non, fun g hg => ⟨(h.siz g hg).1, fun q => (h.siz g hg).2 ?_⟩, ?_⟩
  · by_cases c : chG G i = true
    · unfold byR at hy
      rw [if_pos c] at hy
      cases hc : C (G.g1 i) with
      | none => rw [hc] at hy; cases hy
      | some a =>
        rw [hc] at hy
        have hy : a + G.co i = y := Option.some.inj hy
        have hs : S (G.g1 i) = true := by
          cases z : S (G.g1 i) with
          | true => rfl
          | false =>
            have := he _ (hG.ru i hi).2.2.1 z
            rw [hc] at this; cases this
        obtain ⟨x, hx, -, h3⟩ := h.st1 _ hs
        rw [hc] at hx; cases hx
        obtain ⟨w, hw, hle⟩ := h3 i hi c rfl
        exact ⟨w, hw, by omega⟩
    · unfold byR at hy
      rw [if_neg c] at hy
      exact h.bas i y hi (by cases z : chG G i; rfl; exact absurd z c) hy
  · cases z : S g with
    | false => rfl
    | true =>
      obtain ⟨x, hx, -, -⟩ := h.st1 g z
      rw [(h.non g).mpr q] at hx; cases hx
  · rcases h.lea with ⟨h1, h2⟩ | ⟨x, h1, ⟨g, hg, -, hc⟩, h3⟩
    · exact Or.inl ⟨fun g hg => he g hg (h1 g), h2⟩
    · exact Or.inr ⟨x, h1, ⟨g, hg, hc⟩, h3⟩
theorem nar1 : vp_nar .boolean 1 = 1 := rfl
theorem w_settleGoals {post : ctN → ctF → Prop} {n : ctN} {f f0 : ctF} {N o a b : Nat} {G : GD} {pr : Nat → Option Nat} {C0 Q0 : Nat → Option Nat} (hG : G.ok) (hC : gC G n f0) (hN : n 2 = nI N) (hN' : N < 120) (ho : o < G.O) (h9 : f0 9 N = nI o) (h10 : f0 10 N = nI a) (h11 : f0 11 N = nI b)
    (ha : 1 ≤ G.k o → a < N ∧ ∀ g, g < 8 → szOK (f0 16 (8 * a + g))) (hb : 2 ≤ G.k o → b < N ∧ ∀ g, g < 8 → szOK (f0 16 (8 * b + g)))
    (h0 : q_stJ G pr N f0 f (fun _ => false) C0 Q0) (hend : ∀ f' C Q, stE G pr N f0 f' C Q → post n f') : wp_F_settleGoals post n f := by
  have e8 : (8 : Int32) = nI 8 := ix_8
  have hNc : (nI N).toNatClampNeg = N := nI_clamp (by omega)
  have loop : ∀ (d step : Nat) (f : ctF) (S : Nat → Bool) (C Q : Nat → Option Nat), 8 = step + d → q_stJ G pr N f0 f S C Q → q_sm (fun g => if S g = true then 1 else 0) 8 = step → wp_F_settleGoals_L2 post (d + 1) (nI step) n f := by
    intro d
    induction d with
    | zero =>
      intro step f S C Q hd hj hs
      have e : step = 8 := by omega
      subst e
      rw [wp_F_settleGoals_L2]
      refine ⟨fun _ => hend f C Q (hj.fin hG (fun g hg hsg => ?_)), fun q => absurd (by rw [e8]; exact nI_le (Nat.le_refl 8) (by decide)) q⟩
      have := sm_full (φ := fun g => if S g = true then 1 else 0) 8 (fun g _ => by split <;> omega) (by omega) g hg
      simp [hsg] at this
    | succ d ih =>
      intro step f S C Q hd hj hs
      rw [wp_F_settleGoals_L2]
      refine ⟨fun q => absurd q (by rw [e8]; exact nI_ge (by omega) (by decide)), fun _ => ?_⟩
      refine w_cheapest hN hN' hj.row hj.flag (fun best hbest => ?_)
      cases best with
      | none => exact ⟨fun q => absurd rfl q, fun _ => hend f C Q (hj.fin hG hbest)⟩
      | some m =>
        obtain ⟨hm8, hSm, z, hz, hmin⟩ := hbest
        have hmc : (nI m).toNatClampNeg = m := nI_clamp (by omega)
        have hz20 := bnd_lt hj.bnd hz
        have Jm : ∀ f8 : ctF, (∀ k, k ≠ 12 → k ≠ 17 → f8 k = f k) → (∀ j, j ≠ N → f8 12 j = f 12 j) → f8 17 = upd (f 17) m 1 → (∃ x, f8 12 N = nI x ∧ (∃ g, g < 8 ∧ (S g = true ∨ g = m) ∧ C g = some x) ∧ ∀ g y, g < 8 → C g = some y → x ≤ y) → wp_F_settleGoals_J52 post (wp_F_settleGoals_L2 post (d + 1)) (nI step) (nI m) n f8 := by
          intro f8 e8o e812 e817 hle
          have sm8 : sameBut N f0 f8 := hj.same.tr ⟨fun k h1 _ _ _ h5 => e8o k h1 h5, e812, fun j _ => by rw [e8o 14 (by decide) (by decide), e8o 15 (by decide) (by decide), e8o 16 (by decide) (by decide)]; exact ⟨rfl, rfl, rfl⟩⟩
          obtain ⟨qi, hqi⟩ : ∃ qi, Q m = some qi := by
            cases q : Q m with
            | none => rw [(hj.non m).mpr q] at hz; cases hz
            | some qi => exact ⟨qi, rfl⟩
          have hqR := hj.rul m qi hqi
          have hR40 := hG.R40
          have gC8 := hC.same sm8
          obtain ⟨r4, r5, r6, r7, r8⟩ := gC8.ru qi hqR
          obtain ⟨q1, q2, q3, q4, q5⟩ := hG.ru qi hqR
          unfold wp_F_settleGoals_J52
          rw [hN]
          refine w_place ?_
          refine w_sizeByRule hN hN' hm8 (i := qi) (by rw [e8o 15 (by decide) (by decide), (hj.row.1 m hm8).2, hqi]; rfl) (by omega) ?_ (fun s hs2 => ?_)
          · by_cases c : chG G qi = true
            · exact Or.inl ⟨r5.trans ((GD.op_m1 hG hqR).mpr c), G.g1 qi, q3, r6, by rw [e8o 16 (by decide) (by decide)]; exact (hj.siz _ q3).1⟩
            · refine Or.inr ⟨fun q => c ((GD.op_m1 hG hqR).mp (r5.symm.trans q)), o, G.k o, by have := hG.O10; omega, ?_, gC8.pa o ho, hG.k2 o ho, fun hk => ?_, fun hk => ?_⟩
              · rw [sm8.1 9 (by decide) (by decide) (by decide) (by decide) (by decide)]; exact h9
              · obtain ⟨haN, hsz⟩ := ha hk
                refine ⟨a, G.g1 qi, by omega, q3, ?_, r6, ?_⟩
                · rw [sm8.1 10 (by decide) (by decide) (by decide) (by decide) (by decide)]; exact h10
                · rw [(sm8.2.2 (8 * a + G.g1 qi) (by omega)).2.2]; exact hsz _ q3
              · obtain ⟨hbN, hsz⟩ := hb hk
                refine ⟨b, G.g2 qi, by omega, q4, ?_, r7, ?_⟩
                · rw [sm8.1 11 (by decide) (by decide) (by decide) (by decide) (by decide)]; exact h11
                · rw [(sm8.2.2 (8 * b + G.g2 qi) (by omega)).2.2]; exact hsz _ q4
          · refine ⟨ix_in hN' hm8, ?_⟩
            rw [ix_cl hN' hm8]
            rintro f16 hf16
            have e16 : f16 16 = upd (f8 16) (8 * N + m) s := by rw [hf16, va_up_self]
            have eo : ∀ k, k ≠ 16 → f16 k = f8 k := fun k hk => by rw [hf16, va_up_ne _ _ hk]
            have sm16 : sameBut N f0 f16 := sm8.tr ⟨fun k _ _ _ h4 _ => eo k h4, fun j _ => by rw [eo 12 (by decide)], fun j hj2 => by rw [eo 14 (by decide), eo 15 (by decide), e16, upd_ne _ _ (by omega)]; exact ⟨rfl, rfl, rfl⟩⟩
            have row16 : rowC N f16 C Q := ⟨fun h hh => by rw [eo 14 (by decide), eo 15 (by decide), e8o 14 (by decide) (by decide), e8o 15 (by decide) (by decide)]; exact hj.row.1 h hh, hj.row.2⟩
            have gC16 := hC.same sm16
            have settled_le : ∀ s x, S s = true ∨ s = m → C s = some x → x ≤ z := by
              intro s x hs3 hx
              rcases hs3 with hs3 | rfl
              · obtain ⟨x2, hx2, h2, -⟩ := hj.st1 s hs3
                rw [hx] at hx2; cases hx2
                exact h2 m z hm8 hSm hz
              · rw [hx] at hz; cases hz; exact Nat.le_refl _
            refine w_applyChain (N := N) (R := G.R) (h := m) (z := z) hN hN' gC16.nR hR40 hm8 G.go G.co (fun i hi => ⟨(hG.ru i hi).1, (gC16.ru i hi).1⟩) (fun i hi => ⟨(hG.ru i hi).2.1, (gC16.ru i hi).2.2.2.2⟩) (by omega)
              (fun i C' Q' => bndC C' ∧ aboveC G.R G.go (chG G) G.g1 G.co pr C' ∧ (∀ i y, i < G.R → chG G i = false → pr i = some y → ∃ x, C' (G.go i) = some x ∧ x ≤ y) ∧ (∀ g i, Q' g = some i → i < G.R) ∧ (∀ g, C' g = none ↔ Q' g = none) ∧ (∀ s, S s = true ∨ s = m → C' s = C s) ∧ (∀ g y, g < 8 → C' g = some y → (∃ y0, C g = some y0 ∧ y ≤ y0) ∨ C g = none) ∧ (∀ g y, g < 8 → S g = false → C' g = some y → z ≤ y) ∧ (∀ g x, C g = some x → ∃ x', C' g = some x' ∧ x' ≤ x) ∧ ∀ j, j < i → chG G j = true → G.g1 j = m → ∃ w, C' (G.go j) = some w ∧ w ≤ z + G.co j)
              ?_ ?_ ?_ (C0 := C) (Q0 := Q) ⟨hj.bnd, hj.abv, hj.bas, hj.rul, hj.non, fun _ _ => rfl, fun g y _ e => Or.inl ⟨y, e, Nat.le_refl _⟩, fun g y hg hs3 e => (hmin g y hg hs3 e).1, fun g x e => ⟨x, e, Nat.le_refl _⟩, fun j hj2 => absurd hj2 (Nat.not_lt_zero _)⟩ row16 hz ?_
            · rintro i C' Q' hi ⟨i1, i2, i3, i4, i5, i6, i7, i8, i9, i10⟩ hno
              refine ⟨i1, i2, i3, i4, i5, i6, i7, i8, i9, fun j hj2 hc2 hg2 => ?_⟩
              by_cases e : j = i
              · subst e
                obtain ⟨-, t5, t6, -, -⟩ := gC16.ru j hi
                exact absurd ⟨t5.trans ((GD.op_m1 hG hi).mpr hc2), by rw [t6, hg2]⟩ hno
              · exact i10 j (by omega) hc2 hg2
            · rintro i C' Q' hi ⟨i1, i2, i3, i4, i5, i6, i7, i8, i9, i10⟩ h5 h6 hnt
              refine ⟨i1, i2, i3, i4, i5, i6, i7, i8, i9, fun j hj2 hc2 hg2 => ?_⟩
              by_cases e : j = i
              · subst e
                cases hc : C' (G.go j) with
                | none => exact absurd ⟨_, rfl, Or.inl hc⟩ hnt
                | some w =>
                  refine ⟨w, rfl, ?_⟩
                  rcases Nat.lt_or_ge (z + G.co j) w with q | q
                  · exact absurd ⟨_, rfl, Or.inr ⟨w, hc, q⟩⟩ hnt
                  · exact q
              · exact i10 j (by omega) hc2 hg2
            · rintro i C' Q' hi ⟨i1, i2, i3, i4, i5, i6, i7, i8, i9, i10⟩ h5 h6 ht
              obtain ⟨t4, t5, t6, t7, t8⟩ := gC16.ru i hi
              obtain ⟨p1, p2, p3, p4, p5⟩ := hG.ru i hi
              have hch : chG G i = true := (GD.op_m1 hG hi).mp (t5.symm.trans h5)
              have hg1 : G.g1 i = m := by
                have := t6.symm.trans h6
                exact (nI_eq (by omega) (by omega)).mp this
              have hCm : C' m = some z := (i6 m (Or.inr rfl)).trans hz
              have hby : byR (chG G) G.g1 G.co pr C' i = some (z + G.co i) := by
                unfold byR
                rw [if_pos hch, hg1, hCm]
                rfl
              have hnS : ¬ (S (G.go i) = true ∨ G.go i = m) := by
                intro hs3
                obtain ⟨y2, ey, h2⟩ := id ht
                cases ey
                have e6 := i6 _ hs3
                rcases h2 with h2 | ⟨x, hx, hlt⟩
                · rw [h2] at e6
                  rcases hs3 with hs3 | hs3
                  · obtain ⟨x2, hx2, -, -⟩ := hj.st1 _ hs3
                    rw [hx2] at e6; cases e6
                  · rw [hs3, hz] at e6; cases e6
                · have := settled_le _ x hs3 (e6.symm.trans hx)
                  omega
              refine ⟨bnd_take i1 p1 ht (Or.inr ⟨m, z, hCm, by omega⟩), above_take i2 hi hby, fun j y hj2 hc2 hy => ?_, fun g j hq => ?_, fun g => ?_, fun s hs3 => ?_, fun g y hg hy => ?_, fun g y hg hs3 hy => ?_, fun g x hx => ?_, fun j hj2 hc2 hg2 => ?_⟩
              · obtain ⟨x, hx, hle2⟩ := i3 j y hj2 hc2 hy
                by_cases e : G.go j = G.go i
                · rw [e] at hx ⊢
                  rw [va_up_self]
                  obtain ⟨y2, ey, h2⟩ := id ht
                  cases ey
                  rcases h2 with h2 | ⟨x3, hx3, hlt⟩
                  · rw [h2] at hx; cases hx
                  · rw [hx] at hx3; cases hx3
                    exact ⟨_, rfl, by omega⟩
                · rw [va_up_ne _ _ e]; exact ⟨x, hx, hle2⟩
              · by_cases e : g = G.go i
                · subst e; rw [va_up_self] at hq; cases hq; exact hi
                · rw [va_up_ne _ _ e] at hq; exact i4 g j hq
              · by_cases e : g = G.go i
                · subst e; rw [va_up_self, va_up_self]; exact ⟨(fun q => nomatch q), (fun q => nomatch q)⟩
                · rw [va_up_ne _ _ e, va_up_ne _ _ e]; exact i5 g
              · rw [va_up_ne _ _ (fun q => hnS (by rw [← q]; exact hs3))]; exact i6 s hs3
              · by_cases e : g = G.go i
                · subst e
                  rw [va_up_self] at hy; cases hy
                  cases hc : C (G.go i) with
                  | none => exact Or.inr rfl
                  | some y0 =>
                    obtain ⟨x', hx', hle3⟩ := i9 _ _ hc
                    obtain ⟨y2, ey, h2⟩ := id ht
                    cases ey
                    rcases h2 with h2 | ⟨x3, hx3, hlt⟩
                    · rw [h2] at hx'; cases hx'
                    · rw [hx'] at hx3; cases hx3
                      exact Or.inl ⟨y0, rfl, by omega⟩
                · rw [va_up_ne _ _ e] at hy; exact i7 g y hg hy
              · by_cases e : g = G.go i
                · subst e
                  rw [va_up_self] at hy; cases hy; omega
                · rw [va_up_ne _ _ e] at hy; exact i8 g y hg hs3 hy
              · obtain ⟨x', hx', hle3⟩ := i9 g x hx
                by_cases e : g = G.go i
                · subst e
                  rw [va_up_self]
                  obtain ⟨y2, ey, h2⟩ := id ht
                  cases ey
                  rcases h2 with h2 | ⟨x3, hx3, hlt⟩
                  · rw [h2] at hx'; cases hx'
                  · rw [hx'] at hx3; cases hx3
                    exact ⟨_, rfl, by omega⟩
                · rw [va_up_ne _ _ e]; exact ⟨x', hx', hle3⟩
              · by_cases e : G.go j = G.go i
                · rw [e, va_up_self]
                  refine ⟨_, rfl, ?_⟩
                  by_cases e2 : j = i
                  · subst e2; exact Nat.le_refl _
                  · obtain ⟨w, hw, hle3⟩ := i10 j (by omega) hc2 hg2
                    rw [e] at hw
                    obtain ⟨y2, ey, h2⟩ := id ht
                    cases ey
                    rcases h2 with h2 | ⟨x3, hx3, hlt⟩
                    · rw [h2] at hw; cases hw
                    · rw [hw] at hx3; cases hx3; omega
                · rw [va_up_ne _ _ e]
                  exact i10 j (by
                    rcases Nat.lt_or_ge j i with q | q
                    · exact q
                    · exact absurd (by rw [show j = i by omega]) e) hc2 hg2
            · rintro f' C' Q' ⟨i1, i2, i3, i4, i5, i6, i7, i8, i9, i10⟩ hrow' hk'
              rintro _ rfl
              rw [nI_1]
              refine ih (step + 1) f' (va_up S m true) C' Q' (by omega) ?_ ?_
              · have s17 : f' 17 = upd (f 17) m 1 := by rw [hk'.2.2.2, eo 17 (by decide), e817]
                have s16 : f' 16 = upd (f8 16) (8 * N + m) s := by rw [hk'.2.2.1, e16]
                have s12 : f' 12 = f8 12 := by rw [hk'.2.1, eo 12 (by decide)]
                refine ⟨sm16.tr hk'.1, hrow', fun g hg => ?_, i1, i2, i3, i4, i5, fun s2 hs2 => ?_, fun g hg => ?_, ?_⟩
                · rw [s17]
                  by_cases e : g = m
                  · subst e; rw [upd_self, va_up_self]; rfl
                  · rw [upd_ne _ _ e, va_up_ne _ _ e]; exact hj.flag g hg
                · have hs2' : S s2 = true ∨ s2 = m := by
                    by_cases e : s2 = m
                    · exact Or.inr e
                    · rw [va_up_ne _ _ e] at hs2; exact Or.inl hs2
                  have nS : ∀ g, va_up S m true g = false → S g = false := fun g hg => by
                    by_cases e : g = m
                    · subst e; rw [va_up_self] at hg; cases hg
                    · rw [va_up_ne _ _ e] at hg; exact hg
                  obtain ⟨x, hx⟩ : ∃ x, C s2 = some x := by
                    rcases hs2' with q | rfl
                    · obtain ⟨x, hx, -, -⟩ := hj.st1 s2 q; exact ⟨x, hx⟩
                    · exact ⟨z, hz⟩
                  have hxz := settled_le s2 x hs2' hx
                  refine ⟨x, (i6 s2 hs2').trans hx, fun g y hg hsg hy => ?_, fun i hi hc2 hg2 => ?_⟩
                  · have := i8 g y hg (nS g hsg) hy
                    omega
                  · by_cases e : s2 = m
                    · subst e
                      rw [hx] at hz; cases hz
                      exact i10 i hi hc2 hg2
                    · rcases hs2' with q | q
                      · obtain ⟨x2, hx2, -, h3⟩ := hj.st1 s2 q
                        rw [hx] at hx2; cases hx2
                        obtain ⟨w, hw, hle3⟩ := h3 i hi hc2 hg2
                        obtain ⟨w', hw', hle4⟩ := i9 _ _ hw
                        exact ⟨w', hw', by omega⟩
                      · exact absurd q e
                · rw [s16]
                  by_cases e : g = m
                  · subst e; rw [upd_self]; exact ⟨hs2, fun q => by rw [va_up_self] at q; cases q⟩
                  · rw [upd_ne _ _ (by omega), va_up_ne _ _ e, e8o 16 (by decide) (by decide)]; exact hj.siz g hg
                · right
                  obtain ⟨x, hx1, ⟨g, hg, hgs, hgc⟩, hx3⟩ := hle
                  have hgS : S g = true ∨ g = m := hgs
                  refine ⟨x, by rw [s12]; exact hx1, ⟨g, hg, ?_, (i6 g hgS).trans hgc⟩, fun g2 y hg2 hy => ?_⟩
                  · by_cases e : g = m
                    · subst e; exact va_up_self _ _ _
                    · rw [va_up_ne _ _ e]; exact hgS.resolve_right e
                  · by_cases q : S g2 = true
                    · rw [i6 g2 (Or.inl q)] at hy; exact hx3 g2 y hg2 hy
                    · have h1 := i8 g2 y hg2 (by cases w : S g2; rfl; exact absurd w q) hy
                      have h2 := hx3 m z hm8 hz
                      omega
              · have e1 : ∀ j, j ≠ m → (fun g => if va_up S m true g = true then 1 else 0) j = (fun g => if S g = true then 1 else 0) j := fun j hj2 => by
                  dsimp only; rw [va_up_ne _ _ hj2]
                have e2 := sm_up (φ := fun g => if S g = true then 1 else 0) (ψ := fun g => if va_up S m true g = true then 1 else 0) e1 8 hm8
                rw [va_up_self, hSm, if_pos rfl, if_neg (by decide)] at e2
                omega
        refine ⟨fun _ => ⟨vp_in_nI hm8 (by decide), ?_⟩, fun q => absurd q (nI_m1 (by omega))⟩
        rw [en_s, hmc, nar1]
        rintro f7 hf7
        have e17 : f7 17 = upd (f 17) m 1 := by rw [hf7, va_up_self]
        have eo : ∀ k, k ≠ 17 → f7 k = f k := fun k hk => by rw [hf7, va_up_ne _ _ hk]
        refine ⟨fun c => ?_, fun c => ?_⟩
        · refine Jm f7 (fun k _ h2 => eo k h2) (fun j _ => by rw [eo 12 (by decide)]) e17 ?_
          rcases hj.lea with ⟨h1, -⟩ | ⟨x, h1, ⟨g, hg, hgs, hgc⟩, h3⟩
          · exfalso
            apply c
            have : q_sm (fun g => if S g = true then 1 else 0) 8 ≤ 8 * 0 := sm_le 8 (fun g _ => by rw [h1 g]; exact Nat.le_refl _)
            have : step = 0 := by omega
            rw [this]; exact nI_0
          · exact ⟨x, by rw [eo 12 (by decide)]; exact h1, ⟨g, hg, Or.inl hgs, hgc⟩, h3⟩
        · have hs0 : step = 0 := by
            rw [← nI_0] at c
            exact (nI_eq (by omega) (by decide)).mp c
          have hall : ∀ g, g < 8 → S g = false := fun g hg => by
            cases q : S g with
            | false => rfl
            | true =>
              have e2 := sm_up (φ := fun g => if S g = true then 1 else 0) (ψ := fun g' => if va_up S g false g' = true then 1 else 0) (g := g) (fun j hj2 => by rw [va_up_ne _ _ hj2]) 8 hg
              rw [va_up_self, q, if_pos rfl, if_neg (by decide)] at e2
              omega
          rw [hN]
          refine w_place ⟨ix_in hN' hm8, vp_in_nI hN' (by decide), ?_⟩
          rw [hNc, ix_cl hN' hm8]
          rintro f9 hf9
          have e12 : f9 12 = upd (f 12) N (f 14 (8 * N + m)) := by rw [hf9, va_up_self, eo 12 (by decide), eo 14 (by decide)]
          have eo9 : ∀ k, k ≠ 12 → f9 k = f7 k := fun k hk => by rw [hf9, va_up_ne _ _ hk]
          refine Jm f9 (fun k h1 h2 => (eo9 k h1).trans (eo k h2)) (fun j hj2 => by rw [e12, upd_ne _ _ hj2]) (by rw [eo9 17 (by decide), e17]) ⟨z, by rw [e12, upd_self, (hj.row.1 m hm8).1, hz]; rfl, ⟨m, hm8, Or.inr rfl, hz⟩, fun g y hg hy => (hmin g y hg (hall g hg) hy).1⟩
  unfold wp_F_settleGoals
  refine ⟨9, ?_⟩
  have q := loop 8 0 f (fun _ => false) C0 Q0 (by omega) h0 rfl
  rw [nI_0] at q
  exact q
end
section
/-! the class's draft: made whole -/
def TD : Type := (Nat) × (Nat → Nat) × (Nat → Nat) × (Nat → Nat) × (Nat → Nat → Option Nat)
def TD.N (X : TD) : Nat := X.1
def TD.kd (X : TD) : Nat → Nat := X.2.1
def TD.u1 (X : TD) : Nat → Nat := X.2.2.1
def TD.u2 (X : TD) : Nat → Nat := X.2.2.2.1
def TD.C (X : TD) : Nat → Nat → Option Nat := X.2.2.2.2
def TD.mk (N : Nat) (kd : Nat → Nat) (u1 : Nat → Nat) (u2 : Nat → Nat) (C : Nat → Nat → Option Nat) : TD := (N, kd, u1, u2, C)
def TD.ok (G : GD) (T : TD) : Prop := (T.N ≤ 120) ∧ (∀ v, v < T.N → T.kd v < G.O ∧ T.u1 v ≤ v ∧ T.u2 v ≤ v ∧ (1 ≤ G.k (T.kd v) → T.u1 v < v ∧ T.u2 v < v)) ∧ (∀ v g x, v < T.N → T.C v g = some x → x ≤ 1000000)
theorem TD.ok.N120 {G : GD} {T : TD} (h : TD.ok G T) : T.N ≤ 120 := h.1
theorem TD.ok.nd {G : GD} {T : TD} (h : TD.ok G T) : ∀ v, v < T.N → T.kd v < G.O ∧ T.u1 v ≤ v ∧ T.u2 v ≤ v ∧ (1 ≤ G.k (T.kd v) → T.u1 v < v ∧ T.u2 v < v) := h.2.1
theorem TD.ok.mo {G : GD} {T : TD} (h : TD.ok G T) : ∀ v g x, v < T.N → T.C v g = some x → x ≤ 1000000 := h.2.2
def tC (G : GD) (T : TD) (n : ctN) (f : ctF) : Prop := (n 2 = nI T.N) ∧ (∀ v, v < T.N → f 9 v = nI (T.kd v) ∧ f 10 v = nI (T.u1 v) ∧ f 11 v = nI (T.u2 v)) ∧ (∀ v g, v < T.N → g < 8 → f 14 (8 * v + g) = en (T.C v g)) ∧ (∀ v g, v < T.N → g < 8 → szOK (f 16 (8 * v + g)) ∧ ((f 15 (8 * v + g) = -1 ∧ f 16 (8 * v + g) = -1) ∨ ∃ i, i < G.R ∧ f 15 (8 * v + g) = nI i))
theorem tC.nN {G : GD} {T : TD} {n : ctN} {f : ctF} (h : tC G T n f) : n 2 = nI T.N := h.1
theorem tC.nd {G : GD} {T : TD} {n : ctN} {f : ctF} (h : tC G T n f) : ∀ v, v < T.N → f 9 v = nI (T.kd v) ∧ f 10 v = nI (T.u1 v) ∧ f 11 v = nI (T.u2 v) := h.2.1
theorem tC.co {G : GD} {T : TD} {n : ctN} {f : ctF} (h : tC G T n f) : ∀ v g, v < T.N → g < 8 → f 14 (8 * v + g) = en (T.C v g) := h.2.2.1
theorem tC.ru {G : GD} {T : TD} {n : ctN} {f : ctF} (h : tC G T n f) : ∀ v g, v < T.N → g < 8 → szOK (f 16 (8 * v + g)) ∧ ((f 15 (8 * v + g) = -1 ∧ f 16 (8 * v + g) = -1) ∨ ∃ i, i < G.R ∧ f 15 (8 * v + g) = nI i) := h.2.2.2
def prG (G : GD) (T : TD) (o a b i : Nat) : Option Nat := if G.op i = some o then bcost (G.k o) (G.co i) (T.C a (G.g1 i)) (T.C b (G.g2 i)) else none
theorem prG_le {G : GD} {T : TD} (hG : G.ok) (hT : T.ok G) {o a b : Nat} (_ho : o < G.O) (ha : 1 ≤ G.k o → a < T.N) (hb : 2 ≤ G.k o → b < T.N) {i y : Nat} (hi : i < G.R) (h : prG G T o a b i = some y) : y ≤ 2000020 := by
  have hc := (hG.ru i hi).2.1
  unfold prG at h
  by_cases q : G.op i = some o
  · rw [if_pos q] at h
    unfold bcost at h
    by_cases c1 : G.k o < 1
    · rw [if_pos c1] at h; cases h; omega
    · rw [if_neg c1] at h
      cases e1 : T.C a (G.g1 i) with
      | none => rw [e1] at h; cases h
      | some x =>
        rw [e1] at h
        have hx := hT.mo a _ x (ha (by omega)) e1
        have h : (if G.k o < 2 then some (G.co i + x) else (T.C b (G.g2 i)).map (fun y => G.co i + x + y)) = some y := h
        by_cases c2 : G.k o < 2
        · rw [if_pos c2] at h; cases h; omega
        · rw [if_neg c2] at h
          cases e2 : T.C b (G.g2 i) with
          | none => rw [e2] at h; cases h
          | some x2 =>
            rw [e2] at h
            have hx2 := hT.mo b _ x2 (hb (by omega)) e2
            have h : G.co i + x + x2 = y := Option.some.inj h
            omega
  · rw [if_neg q] at h; cases h
theorem prG_ch {G : GD} {T : TD} {o a b i y : Nat} (h : prG G T o a b i = some y) : chG G i = false := by
  unfold prG at h
  by_cases q : G.op i = some o
  · unfold chG; rw [q]
  · rw [if_neg q] at h; cases h
theorem w_baseCost2 {post : Int32 → ctN → ctF → Prop} {n : ctN} {f : ctF} {N i o k s u1 u2 g1 g2 : Nat} {a1 a2 : Option Nat} (hN : n 2 = nI N) (hN' : N < 120) (hi : i < 40) (ho : f 9 N = nI o) (ho' : o < 10) (hk : f 3 o = nI k) (hk' : k ≤ 2) (hs : f 8 i = nI s)
    (hp1 : 1 ≤ k → f 10 N = nI u1 ∧ u1 < 120 ∧ f 6 i = nI g1 ∧ g1 < 8 ∧ f 14 (8 * u1 + g1) = en a1 ∧ ∀ x, a1 = some x → x < 2 ^ 31)
    (hp2 : 2 ≤ k → f 11 N = nI u2 ∧ u2 < 120 ∧ f 7 i = nI g2 ∧ g2 < 8 ∧ f 14 (8 * u2 + g2) = en a2 ∧ ∀ x, a2 = some x → x < 2 ^ 31)
    (h : post (en (bcost k s a1 a2)) n f) : wp_F_baseCost post (nI i) n f := by
  have hic : (nI i).toNatClampNeg = i := nI_clamp (by omega)
  have hin : vp_in (nI i) 40 := vp_in_nI hi (by decide)
  have hNc : (nI N).toNatClampNeg = N := nI_clamp (by omega)
  have hNi : vp_in (nI N) 120 := vp_in_nI hN' (by decide)
  have hoc : (nI o).toNatClampNeg = o := nI_clamp (by omega)
  have hoi : vp_in (nI o) 10 := vp_in_nI ho' (by decide)
  have k1 : nI k < 1 ↔ k < 1 := by rw [show (1 : Int32) = nI 1 by decide]; exact nI_ltI (by omega) (by decide)
  have k2 : nI k < 2 ↔ k < 2 := by rw [show (2 : Int32) = nI 2 by decide]; exact nI_ltI (by omega) (by decide)
  have J : ∀ x : Nat, (k < 2 → post (nI x) n f) → (¬ k < 2 → post (en (a2.map (fun y => x + y))) n f) → wp_F_baseCost_J74 post (nI i) (nI k) (nI x) n f := by
    intro x p1 p2
    unfold wp_F_baseCost_J74
    rw [hN, hNc, hic]
    refine ⟨fun c => p1 (k2.mp c), fun c => ⟨hNi, hin, ?_⟩⟩
    have c2 : ¬ k < 2 := fun z => c (k2.mpr z)
    obtain ⟨h11, hu2, h7, hg2, ha2, hb2⟩ := hp2 (by omega)
    rw [h11, h7]
    refine w_place ⟨ix_in hu2 hg2, ?_⟩
    rw [ix_cl hu2 hg2, ha2]
    have p2 := p2 c2
    rintro _ rfl
    cases a2 with
    | none => exact ⟨fun c => absurd rfl c, fun _ => p2⟩
    | some y =>
      refine ⟨fun _ => ?_, fun c => absurd c (nI_m1 (hb2 y rfl))⟩
      rintro _ rfl
      rw [en_s, nI_add]
      exact p2
  unfold wp_F_baseCost
  rw [hN, hNc, ho, hoc, hic]
  refine ⟨hNi, hoi, ?_⟩
  rintro _ rfl
  refine ⟨hin, ?_⟩
  rintro _ rfl
  rw [hk, hs]
  refine ⟨fun c => ?_, fun c => ?_⟩
  · have c := k1.mp c
    refine J s (fun _ => ?_) (fun q => absurd (by omega) q)
    rw [show bcost k s a1 a2 = some s from if_pos c] at h
    exact h
  · have c : ¬ k < 1 := fun z => c (k1.mpr z)
    rw [show bcost k s a1 a2 = _ from if_neg c] at h
    refine ⟨hNi, hin, ?_⟩
    obtain ⟨h10, hu1, h6, hg1, ha1, hb1⟩ := hp1 (by omega)
    rw [h10, h6]
    refine w_place ⟨ix_in hu1 hg1, ?_⟩
    rw [ix_cl hu1 hg1, ha1]
    rintro _ rfl
    cases a1 with
    | none => exact ⟨fun q => absurd rfl q, fun _ => h⟩
    | some x =>
      refine ⟨fun _ => ?_, fun q => absurd q (nI_m1 (hb1 x rfl))⟩
      rintro _ rfl
      rw [en_s, nI_add]
      refine J (s + x) (fun q => ?_) (fun q => ?_)
      · have h : post (en (if k < 2 then some (s + x) else a2.map (fun y => s + x + y))) n f := h
        rw [if_pos q] at h
        exact h
      · have h : post (en (if k < 2 then some (s + x) else a2.map (fun y => s + x + y))) n f := h
        rw [if_neg q] at h
        exact h
/-- the draft's operator and parts written down -/
def q_setN (f : ctF) (N : Nat) (o a b : Int32) : ctF := va_up (va_up (va_up f 9 (upd (f 9) N o)) 10 (upd (f 10) N a)) 11 (upd (f 11) N b)
theorem setN_9 (f : ctF) (N : Nat) (o a b : Int32) : q_setN f N o a b 9 = upd (f 9) N o := by
  unfold q_setN; rw [va_up_ne _ _ (by decide), va_up_ne _ _ (by decide), va_up_self]
theorem setN_10 (f : ctF) (N : Nat) (o a b : Int32) : q_setN f N o a b 10 = upd (f 10) N a := by
  unfold q_setN; rw [va_up_ne _ _ (by decide), va_up_self]
theorem setN_11 (f : ctF) (N : Nat) (o a b : Int32) : q_setN f N o a b 11 = upd (f 11) N b := by
  unfold q_setN; rw [va_up_self]
theorem setN_o (f : ctF) (N : Nat) (o a b : Int32) {k : Nat} (h9 : k ≠ 9) (h10 : k ≠ 10) (h11 : k ≠ 11) : q_setN f N o a b k = f k := by
  unfold q_setN; rw [va_up_ne _ _ h11, va_up_ne _ _ h10, va_up_ne _ _ h9]
theorem w_draft {post : ctN → ctF → Prop} {n : ctN} {f : ctF} {G : GD} {T : TD} {o a b : Nat} (hG : G.ok) (hT : T.ok G) (hC : gC G n f) (hD : tC G T n f) (hN' : T.N < 120) (ho : o < G.O) (ha : 1 ≤ G.k o → a < T.N) (hb : 2 ≤ G.k o → b < T.N)
    (hend : ∀ f' C Q, stE G (prG G T o a b) T.N (q_setN f T.N (nI o) (nI a) (nI b)) f' C Q → post n f') : wp_F_draft post (nI o) (nI a) (nI b) n f := by
  have hN := hD.nN
  have hNc : (nI T.N).toNatClampNeg = T.N := nI_clamp (by omega)
  have hNi : vp_in (nI T.N) 120 := vp_in_nI hN' (by decide)
  have hO := hG.O10
  unfold wp_F_draft
  rw [hN, hNc]
  refine ⟨hNi, ?_⟩
  rintro _ rfl
  refine ⟨hNi, ?_⟩
  rintro _ rfl
  refine ⟨hNi, ?_⟩
  rintro f1 hf1
  have hf1 : f1 = q_setN f T.N (nI o) (nI a) (nI b) := by
    rw [hf1]; unfold q_setN
    rw [va_up_ne (k := 10) (j := 11) _ _ (by decide), va_up_ne (k := 9) (j := 11) _ _ (by decide), va_up_ne (k := 9) (j := 10) _ _ (by decide)]
  have C1 : gC G n f1 := hC.up rfl rfl (fun k h1 h2 => by rw [hf1, setN_o _ _ _ _ _ (by omega) (by omega) (by omega)])
  rw [← hf1] at hend
  have e9 : f1 9 T.N = nI o := by rw [hf1, setN_9, upd_self]
  have e10 : f1 10 T.N = nI a := by rw [hf1, setN_10, upd_self]
  have e11 : f1 11 T.N = nI b := by rw [hf1, setN_11, upd_self]
  refine w_blank hN hN' (fun f2 s2 b2 => ?_)
  have C2 := C1.same s2
  obtain ⟨row2, flag2⟩ := blank_row b2
  have c9 : f2 9 = f1 9 := s2.1 9 (by decide) (by decide) (by decide) (by decide) (by decide)
  have op9 : ∀ i, i < G.R → (f2 5 i = f2 9 T.N ↔ G.op i = some o) := by
    intro i hi
    rw [(C2.ru i hi).2.1, c9, e9]
    cases q : G.op i with
    | none => exact ⟨fun z => absurd z.symm (nI_m1 (by omega)), (fun z => nomatch z)⟩
    | some o2 =>
      have := (hG.ru i hi).2.2.2.2 o2 q
      rw [en_s, nI_eq (by omega) (by omega)]
      exact ⟨fun z => by rw [z], fun z => Option.some.inj z⟩
  refine w_applyBase (N := T.N) (R := G.R) hN hN' C2.nR hG.R40 G.go (fun i hi => ⟨(hG.ru i hi).1, (C2.ru i hi).1⟩) (prG G T o a b) (fun i y hi hy => by have := prG_le hG hT ho ha hb hi hy; omega) ?_
    (fun i C Q => bndC C ∧ aboveC G.R G.go (chG G) G.g1 G.co (prG G T o a b) C ∧ (∀ j y, j < i → prG G T o a b j = some y → ∃ x, C (G.go j) = some x ∧ x ≤ y) ∧ (∀ g i, Q g = some i → i < G.R) ∧ ∀ g, C g = none ↔ Q g = none)
    ?_ ?_ ?_ (C0 := fun _ => none) (Q0 := fun _ => none) ⟨bnd_none, above_none, fun j _ hj => absurd hj (Nat.not_lt_zero _), (fun _ _ e => nomatch e), fun _ => Iff.rfl⟩ row2 ?_
  · intro i hi h5 f' hk post' hp
    have hop := (op9 i hi).mp h5
    obtain ⟨q1, q2, q3, q4, q5⟩ := hG.ru i hi
    obtain ⟨r4, r5, r6, r7, r8⟩ := C2.ru i hi
    have at' : ∀ k, k ≠ 14 → k ≠ 15 → f' k = f2 k := fun k h1 h2 => hk.at h1 h2
    have a12 : ∀ k, k ≠ 12 → k ≠ 14 → k ≠ 15 → k ≠ 16 → k ≠ 17 → f' k = f1 k := fun k h0 h1 h2 h3 h4 => (at' k h1 h2).trans (s2.1 k h0 h1 h2 h3 h4)
    have hlow : ∀ v g, v < T.N → g < 8 → f' 14 (8 * v + g) = en (T.C v g) := by
      intro v g hv hg
      rw [(hk.1.2.2 (8 * v + g) (by omega)).1, (s2.2.2 (8 * v + g) (by omega)).1, hf1, setN_o _ _ _ _ _ (by decide) (by decide) (by decide)]
      exact hD.co v g hv hg
    refine w_baseCost2 (o := o) (k := G.k o) (s := G.co i) (u1 := a) (u2 := b) (g1 := G.g1 i) (g2 := G.g2 i) (a1 := T.C a (G.g1 i)) (a2 := T.C b (G.g2 i)) hN hN' (by have := hG.R40; omega) ?_ (by omega) ?_ (hG.k2 o ho) ?_ (fun hk1 => ?_) (fun hk2 => ?_) ?_
    · rw [a12 9 (by decide) (by decide) (by decide) (by decide) (by decide)]; exact e9
    · rw [at' 3 (by decide) (by decide)]; exact C2.pa o ho
    · rw [at' 8 (by decide) (by decide)]; exact r8
    · refine ⟨by rw [a12 10 (by decide) (by decide) (by decide) (by decide) (by decide)]; exact e10, by have := ha hk1; omega, by rw [at' 6 (by decide) (by decide)]; exact r6, q3, hlow a _ (ha hk1) q3, fun x hx => by have := hT.mo a _ x (ha hk1) hx; omega⟩
    · refine ⟨by rw [a12 11 (by decide) (by decide) (by decide) (by decide) (by decide)]; exact e11, by have := hb hk2; omega, by rw [at' 7 (by decide) (by decide)]; exact r7, q4, hlow b _ (hb hk2) q4, fun x hx => by have := hT.mo b _ x (hb hk2) hx; omega⟩
    · have e : prG G T o a b i = bcost (G.k o) (G.co i) (T.C a (G.g1 i)) (T.C b (G.g2 i)) := if_pos hop
      rw [e] at hp
      exact hp
  · rintro i C Q hi ⟨i1, i2, i3, i4, i5⟩ hne
    refine ⟨i1, i2, fun j y hj hy => ?_, i4, i5⟩
    by_cases e : j = i
    · subst e
      rw [show prG G T o a b j = none from if_neg (fun z => hne ((op9 j hi).mpr z))] at hy
      cases hy
    · exact i3 j y (by omega) hy
  · rintro i C Q hi ⟨i1, i2, i3, i4, i5⟩ h5 hnt
    refine ⟨i1, i2, fun j y hj hy => ?_, i4, i5⟩
    by_cases e : j = i
    · subst e
      cases hc : C (G.go j) with
      | none => exact absurd ⟨y, hy, Or.inl hc⟩ hnt
      | some w =>
        refine ⟨w, rfl, ?_⟩
        rcases Nat.lt_or_ge y w with q | q
        · exact absurd ⟨y, hy, Or.inr ⟨w, hc, q⟩⟩ hnt
        · exact q
    · exact i3 j y (by omega) hy
  · rintro i C Q y hi ⟨i1, i2, i3, i4, i5⟩ h5 hy ht
    have hby : byR (chG G) G.g1 G.co (prG G T o a b) C i = some y := by
      unfold byR
      rw [if_neg (by rw [prG_ch hy]; decide)]
      exact hy
    rw [hy] at ht
    refine ⟨bnd_take i1 (hG.ru i hi).1 ht (Or.inl (prG_le hG hT ho ha hb hi hy)), above_take i2 hi hby, fun j y2 hj hy2 => ?_, fun g j hq => ?_, fun g => ?_⟩
    · by_cases e : G.go j = G.go i
      · rw [e, va_up_self]
        refine ⟨y, rfl, ?_⟩
        by_cases e2 : j = i
        · subst e2; rw [hy] at hy2; cases hy2; exact Nat.le_refl _
        · obtain ⟨w, hw, hle⟩ := i3 j y2 (by omega) hy2
          rw [e] at hw
          obtain ⟨y3, ey, h2⟩ := ht
          cases ey
          rcases h2 with h2 | ⟨x3, hx3, hlt⟩
          · rw [h2] at hw; cases hw
          · rw [hw] at hx3; cases hx3; omega
      · rw [va_up_ne _ _ e]
        refine i3 j y2 ?_ hy2
        rcases Nat.lt_or_ge j i with q | q
        · exact q
        · exact absurd (by rw [show j = i by omega]) e
    · by_cases e : g = G.go i
      · subst e; rw [va_up_self] at hq; cases hq; exact hi
      · rw [va_up_ne _ _ e] at hq; exact i4 g j hq
    · by_cases e : g = G.go i
      · subst e; rw [va_up_self, va_up_self]; exact ⟨(fun q => nomatch q), (fun q => nomatch q)⟩
      · rw [va_up_ne _ _ e, va_up_ne _ _ e]; exact i5 g
  · rintro f3 C Q ⟨i1, i2, i3, i4, i5⟩ row3 k3
    have s3 : sameBut T.N f1 f3 := s2.tr k3.1
    have s1 : ∀ v g, v < T.N → g < 8 → szOK (f1 16 (8 * v + g)) := fun v g hv hg => by
      rw [hf1, setN_o _ _ _ _ _ (by decide) (by decide) (by decide)]
      exact (hD.ru v g hv hg).1
    refine w_settleGoals hG C1 hN hN' ho e9 e10 e11 (fun q => ⟨ha q, fun g hg => s1 a g (ha q) hg⟩) (fun q => ⟨hb q, fun g hg => s1 b g (hb q) hg⟩) (C0 := C) (Q0 := Q) ⟨s3, row3, ?_, i1, i2, fun i y hi _ hy => i3 i y hi hy, i4, i5, (fun _ e => nomatch e), fun g hg => ?_, Or.inl ⟨fun _ => rfl, ?_⟩⟩ hend
    · intro g hg; rw [k3.2.2.2]; exact flag2 g hg
    · rw [k3.2.2.1]
      have := (b2.2 g hg).2.2.1
      rw [this]
      exact ⟨sz_m1, fun _ => rfl⟩
    · rw [k3.2.1]; exact b2.1
end
section
/-! the class: too dear, alike, the first alike, the place in a cover, the count of states -/
theorem w_tooDear {post : Int32 → ctN → ctF → Prop} {n : ctN} {f : ctF} {N : Nat} {C Q : Nat → Option Nat} (hN : n 2 = nI N) (hN' : N < 120) (hr : rowC N f C Q) (h1 : (∃ g x, g < 8 ∧ C g = some x ∧ 1000000 < x) → post 1 n f) (h0 : (∀ g x, g < 8 → C g = some x → x ≤ 1000000) → post 0 n f) : wp_F_draftIsTooDear post n f := by
  have e8 : (8 : Int32) = nI 8 := ix_8
  have em : (1000000 : Int32) = nI 1000000 := by decide
  have loop : ∀ (d m : Nat), 8 = m + d → (∀ g x, g < m → C g = some x → x ≤ 1000000) → wp_F_draftIsTooDear_L2 post (d + 1) (nI m) n f := by
    intro d
    induction d with
    | zero =>
      intro m hd hb
      have e : m = 8 := by omega
      subst e
      rw [wp_F_draftIsTooDear_L2]
      exact ⟨fun _ => h0 hb, fun q => absurd (by rw [e8]; exact nI_le (Nat.le_refl 8) (by decide)) q⟩
    | succ d ih =>
      intro m hd hb
      have hm : m < 8 := by omega
      rw [wp_F_draftIsTooDear_L2]
      refine ⟨fun q => absurd q (by rw [e8]; exact nI_ge hm (by decide)), fun _ => ?_⟩
      rw [hN]
      refine w_place ⟨ix_in hN' hm, ?_⟩
      rw [ix_cl hN' hm, (hr.1 m hm).1, nI_1, em]
      have hlt : ∀ x, C m = some x → x < 2 ^ 31 := fun x hx => Nat.lt_trans (hr.2 m x hx) (by decide)
      refine ⟨fun q => ?_, fun q => ?_⟩
      · rintro _ rfl
        refine ih (m + 1) (by omega) (fun g x hg hx => ?_)
        by_cases e : g = m
        · subst e
          rw [hx] at q
          exact (nI_leI (hlt x hx) (by decide)).mp q
        · exact hb g x (by omega) hx
      · cases hc : C m with
        | none => rw [hc, en_n] at q; exact absurd (by decide) q
        | some x =>
          rw [hc, en_s] at q
          refine h1 ⟨m, x, hm, hc, ?_⟩
          rcases Nat.lt_or_ge 1000000 x with z | z
          · exact z
          · exact absurd ((nI_leI (hlt x hc) (by decide)).mpr z) q
  unfold wp_F_draftIsTooDear
  refine ⟨9, ?_⟩
  have q := loop 8 0 (by omega) (fun g _ hg => absurd hg (Nat.not_lt_zero _))
  rw [nI_0] at q
  exact q
/-- what the class asks of two nodes that are alike, up to goal m -/
def likeTo (f : ctF) (v w m : Nat) : Prop := ∀ g, g < m → f 15 (8 * v + g) = f 15 (8 * w + g) ∧ (f 15 (8 * v + g) = -1 ∨ f 14 (8 * v + g) - f 12 v = f 14 (8 * w + g) - f 12 w)
theorem w_alike {post : Int32 → ctN → ctF → Prop} {n : ctN} {f : ctF} {v w : Nat} (hv : v < 120) (hw : w < 120) (h1 : likeTo f v w 8 → post 1 n f) (h0 : ¬ likeTo f v w 8 → post 0 n f) : wp_F_alike post (nI v) (nI w) n f := by
  have e8 : (8 : Int32) = nI 8 := ix_8
  have hvc : (nI v).toNatClampNeg = v := nI_clamp (by omega)
  have hwc : (nI w).toNatClampNeg = w := nI_clamp (by omega)
  have hvi : vp_in (nI v) 120 := vp_in_nI hv (by decide)
  have hwi : vp_in (nI w) 120 := vp_in_nI hw (by decide)
  have loop : ∀ (d m : Nat), 8 = m + d → likeTo f v w m → wp_F_alike_L2 post (d + 1) (nI v) (nI w) (nI m) n f := by
    intro d
    induction d with
    | zero =>
      intro m hd hb
      have e : m = 8 := by omega
      subst e
      rw [wp_F_alike_L2]
      exact ⟨fun _ => h1 hb, fun q => absurd (by rw [e8]; exact nI_le (Nat.le_refl 8) (by decide)) q⟩
    | succ d ih =>
      intro m hd hb
      have hm : m < 8 := by omega
      have hA := ix_in hv hm
      have hB := ix_in hw hm
      have nx : f 15 (8 * v + m) = f 15 (8 * w + m) → (f 15 (8 * v + m) = -1 ∨ f 14 (8 * v + m) - f 12 v = f 14 (8 * w + m) - f 12 w) → likeTo f v w (m + 1) := fun a b g hg => by
        by_cases e : g = m
        · subst e; exact ⟨a, b⟩
        · exact hb g (by omega)
      rw [wp_F_alike_L2]
      refine ⟨fun q => absurd q (by rw [e8]; exact nI_ge hm (by decide)), fun _ => ?_⟩
      refine w_place (w_place ⟨hA, hB, ?_⟩)
      rw [ix_cl hv hm, ix_cl hw hm, nI_1, hvc, hwc]
      refine ⟨fun a => ⟨hA, fun b => ?_, fun b => ⟨hA, hvi, hB, hwi, fun c => ?_, fun c => ?_⟩⟩, fun a => h0 (fun q => a (q m hm).1)⟩
      · rintro _ rfl
        exact ih (m + 1) (by omega) (nx a (Or.inl b))
      · rintro _ rfl
        exact ih (m + 1) (by omega) (nx a (Or.inr c))
      · refine h0 (fun q => ?_)
        rcases (q m hm).2 with z | z
        · exact b z
        · exact c z
  unfold wp_F_alike
  refine ⟨9, ?_⟩
  have q := loop 8 0 (by omega) (fun g hg => absurd hg (Nat.not_lt_zero _))
  rw [nI_0] at q
  exact q
theorem w_firstAlike {post : Int32 → ctN → ctF → Prop} {n : ctN} {f : ctF} {v : Nat} (hv : v < 120) (h : ∀ m, m ≤ v → (m = v ∨ (f 13 m = nI m ∧ likeTo f m v 8)) → (∀ j, j < m → ¬ (f 13 j = nI j ∧ likeTo f j v 8)) → post (nI m) n f) : wp_F_firstAlike post (nI v) n f := by
  have loop : ∀ (d m : Nat), v = m + d → (∀ j, j < m → ¬ (f 13 j = nI j ∧ likeTo f j v 8)) → wp_F_firstAlike_L2 post (d + 1) (nI v) (nI m) n f := by
    intro d
    induction d with
    | zero =>
      intro m hd hb
      have e : m = v := by omega
      subst e
      rw [wp_F_firstAlike_L2]
      exact ⟨fun _ => h m (Nat.le_refl _) (Or.inl rfl) hb, fun q => absurd (nI_le (Nat.le_refl m) (by omega)) q⟩
    | succ d ih =>
      intro m hd hb
      have hm : m < v := by omega
      have hmc : (nI m).toNatClampNeg = m := nI_clamp (by omega)
      have nx : ¬ (f 13 m = nI m ∧ likeTo f m v 8) → ∀ j, j < m + 1 → ¬ (f 13 j = nI j ∧ likeTo f j v 8) := fun a j hj => by
        by_cases e : j = m
        · subst e; exact a
        · exact hb j (by omega)
      rw [wp_F_firstAlike_L2, hmc, nI_1]
      refine ⟨fun q => absurd q (nI_ge hm (by omega)), fun _ => ⟨vp_in_nI (by omega) (by decide), fun c => ?_, fun c => ?_⟩⟩
      · rintro _ rfl
        exact ih (m + 1) (by omega) (nx (fun q => c q.1))
      · refine w_alike (by omega) hv (fun a => ⟨fun q => absurd q (by decide), fun _ => h m (by omega) (Or.inr ⟨c, a⟩) hb⟩) (fun a => ⟨fun _ => ?_, fun q => absurd rfl q⟩)
        rintro _ rfl
        exact ih (m + 1) (by omega) (nx (fun q => a q.2))
  unfold wp_F_firstAlike
  refine ⟨v + 1, ?_⟩
  have q := loop v 0 (by omega) (fun g hg => absurd hg (Nat.not_lt_zero _))
  rw [nI_0] at q
  exact q
theorem w_keepDraft {post : Int32 → ctN → ctF → Prop} {n : ctN} {f : ctF} {N : Nat} (hN : n 2 = nI N) (hN' : N < 120) (h : ∀ m, m ≤ N → (m = N ∨ (f 13 m = nI m ∧ likeTo f m N 8)) → (∀ j, j < m → ¬ (f 13 j = nI j ∧ likeTo f j N 8)) → post (nI N) (va_up n 2 (nI (N + 1))) (va_up f 13 (upd (f 13) N (nI m)))) : wp_F_keepDraft post n f := by
  have hNc : (nI N).toNatClampNeg = N := nI_clamp (by omega)
  unfold wp_F_keepDraft
  rintro _ rfl
  rw [hN]
  refine w_firstAlike hN' (fun m a b c => ⟨vp_in_nI hN' (by decide), ?_⟩)
  rw [hNc, nI_1]
  rintro _ rfl _ rfl
  exact h m a b c
theorem w_countStates {post : Int32 → ctN → ctF → Prop} {n : ctN} {f : ctF} {N : Nat} (hN : n 2 = nI N) (hN' : N ≤ 120) (h : post (nI (q_sm (fun v => if f 13 v = nI v then 1 else 0) N)) n f) : wp_F_countStates post n f := by
  have loop : ∀ (d m : Nat), N = m + d → wp_F_countStates_L4 post (d + 1) (nI (q_sm (fun v => if f 13 v = nI v then 1 else 0) m)) (nI m) n f := by
    intro d
    induction d with
    | zero =>
      intro m hd
      have e : m = N := by omega
      subst e
      rw [wp_F_countStates_L4, hN]
      exact ⟨fun _ => h, fun q => absurd (nI_le (Nat.le_refl m) (by omega)) q⟩
    | succ d ih =>
      intro m hd
      have hm : m < N := by omega
      have hmc : (nI m).toNatClampNeg = m := nI_clamp (by omega)
      have q := ih (m + 1) (by omega)
      rw [q_sm] at q
      rw [wp_F_countStates_L4, hN, hmc, nI_1, nI_1]
      refine ⟨fun z => absurd z (nI_ge hm (by omega)), fun _ => ⟨vp_in_nI (by omega) (by decide), fun c => ?_, fun c => ?_⟩⟩
      · rintro _ rfl
        rw [if_neg c] at q
        exact q
      · rintro _ rfl _ rfl
        rw [if_pos c] at q
        exact q
  unfold wp_F_countStates
  refine ⟨N + 1, ?_⟩
  have q := loop N 0 (by omega)
  rw [nI_0] at q
  exact q
/-- the place in a cover: safe, and some place of a node -/
theorem w_findInCover {post : Int32 → ctN → ctF → Prop} {n : ctN} {f : ctF} {G : GD} {T : TD} (hG : G.ok) (hT : T.ok G) (hC : gC G n f) (hD : tC G T n f) {p q : Nat} (hp : p < 8 * T.N) (hq : q ≤ 2001) (h : ∀ p, p < 8 * T.N → post (nI p) n f) : wp_F_findInCover post (nI p) (nI q) n f := by
  have hN120 := hT.N120
  have hR40 := hG.R40
  have e960 : (960 : Int32) = nI 960 := by decide
  have e8 : (8 : Int32) = nI 8 := ix_8
  have loop : ∀ (d p q st : Nat), 960 = st + d → p < 8 * T.N → q ≤ 2001 + st → wp_F_findInCover_L8 post (d + 1) (nI p) (nI q) (nI st) n f := by
    intro d
    induction d with
    | zero =>
      intro p q st hd hp hq
      have e : st = 960 := by omega
      subst e
      rw [wp_F_findInCover_L8]
      exact ⟨fun _ => h p hp, fun z => absurd (by rw [e960]; exact nI_le (Nat.le_refl 960) (by decide)) z⟩
    | succ d ih =>
      intro p q st hd hp hq
      have hpc : (nI p).toNatClampNeg = p := nI_clamp (by omega)
      have hpi : vp_in (nI p) 960 := vp_in_nI (by omega) (by decide)
      have hv : p / 8 < T.N := by omega
      have hg : p % 8 < 8 := by omega
      have hpe : 8 * (p / 8) + p % 8 = p := by omega
      obtain ⟨s1, s2⟩ := hD.ru (p / 8) (p % 8) hv hg
      rw [hpe] at s1 s2
      rw [wp_F_findInCover_L8, hpc, e8, pk_div (by omega) (by decide) (by decide), nI_1]
      refine ⟨fun z => absurd z (by rw [e960]; exact nI_ge (by omega) (by decide)), fun _ => ⟨hpi, fun _ => h p hp, fun c => ⟨hpi, ?_⟩⟩⟩
      rintro _ rfl _ rfl
      rcases s2 with ⟨a1, a2⟩ | ⟨i, hi, hr⟩
      · exfalso
        apply c
        rw [a2, w_le, nI_toInt (by omega)]
        have : ((-1 : Int32) - 1).toInt = -2 := by decide
        omega
      · have hic : (nI i).toNatClampNeg = i := nI_clamp (by omega)
        have hin : vp_in (nI i) 40 := vp_in_nI (by omega) (by decide)
        have hvc : (nI (p / 8)).toNatClampNeg = p / 8 := nI_clamp (by omega)
        have hvi : vp_in (nI (p / 8)) 120 := vp_in_nI (by omega) (by decide)
        obtain ⟨r4, r5, r6, r7, r8⟩ := hC.ru i hi
        obtain ⟨q1, q2, q3, q4, q5⟩ := hG.ru i hi
        obtain ⟨n9, n10, n11⟩ := hD.nd (p / 8) hv
        obtain ⟨m1, m2, m3, m4⟩ := hT.nd (p / 8) hv
        rw [hr, hic, hvc, r6, n10]
        refine ⟨hin, fun _ => ⟨hvi, hin, w_place ⟨ix_in (by omega) q3, ?_⟩⟩, fun _ => ⟨hin, w_place ?_⟩⟩
        · rw [ix_cl (by omega) q3]
          obtain ⟨t1, t2⟩ := (hD.ru (T.u1 (p / 8)) (G.g1 i) (by omega) q3).1
          refine ⟨fun z => ⟨ix_in (by omega) q3, ?_⟩, fun _ => ?_⟩
          · rintro _ rfl
            rw [r7, n11]
            refine ⟨hvi, hin, w_place ?_⟩
            rintro _ rfl
            rw [w_le, nI_toInt (by omega)] at z
            have hs : nI q - f 16 (8 * T.u1 (p / 8) + G.g1 i) = nI ((q : Int) - (f 16 (8 * T.u1 (p / 8) + G.g1 i)).toInt).toNat := by
              apply Int32.toInt_inj.mp
              rw [ia_sub (by rw [nI_toInt (by omega)]; omega) (by rw [nI_toInt (by omega)]; omega) (by omega) (by omega), nI_toInt (by omega), nI_toInt (by omega)]
              omega
            rw [hs]
            exact ih _ _ (st + 1) (by omega) (by omega) (by omega)
          · rintro _ rfl
            exact ih _ q (st + 1) (by omega) (by omega) (by omega)
        · rintro _ rfl
          exact ih _ q (st + 1) (by omega) (by omega) (by omega)
  unfold wp_F_findInCover
  refine ⟨961, ?_⟩
  have z := loop 960 p q 0 (by omega) hp (by omega)
  rw [nI_0] at z
  exact z
end
section
/-! the reference's price: the rounds end, and leave the least costs -/
def gM (G : GD) (n : ctN) (f : ctF) : Prop := (n 4 = nI G.O) ∧ (n 5 = nI G.R) ∧ (∀ o, o < G.O → f 19 o = nI (G.k o)) ∧ (∀ i, i < G.R → f 20 i = nI (G.go i) ∧ f 21 i = nI (G.co i) ∧ f 22 i = en (G.op i) ∧ (G.op i = none → f 23 i = nI (G.g1 i)) ∧ ∀ o, G.op i = some o → (1 ≤ G.k o → f 23 i = nI (G.g1 i)) ∧ (2 ≤ G.k o → f 24 i = nI (G.g2 i)))
theorem gM.nO {G : GD} {n : ctN} {f : ctF} (h : gM G n f) : n 4 = nI G.O := h.1
theorem gM.nR {G : GD} {n : ctN} {f : ctF} (h : gM G n f) : n 5 = nI G.R := h.2.1
theorem gM.pa {G : GD} {n : ctN} {f : ctF} (h : gM G n f) : ∀ o, o < G.O → f 19 o = nI (G.k o) := h.2.2.1
theorem gM.ru {G : GD} {n : ctN} {f : ctF} (h : gM G n f) : ∀ i, i < G.R → f 20 i = nI (G.go i) ∧ f 21 i = nI (G.co i) ∧ f 22 i = en (G.op i) ∧ (G.op i = none → f 23 i = nI (G.g1 i)) ∧ ∀ o, G.op i = some o → (1 ≤ G.k o → f 23 i = nI (G.g1 i)) ∧ (2 ≤ G.k o → f 24 i = nI (G.g2 i)) := h.2.2.2
theorem gM.up {G : GD} {n n' : ctN} {f f' : ctF} (h : gM G n f) (e0 : n' 4 = n 4) (e1 : n' 5 = n 5) (e : ∀ k, 19 ≤ k → k ≤ 24 → f' k = f k) : gM G n' f' :=
  ⟨by rw [e0]; exact h.nO, by rw [e1]; exact h.nR, fun o ho => by rw [e 19 (by decide) (by decide)]; exact h.pa o ho, fun i hi => by
    rw [e 20 (by decide) (by decide), e 21 (by decide) (by decide), e 22 (by decide) (by decide), e 23 (by decide) (by decide), e 24 (by decide) (by decide)]; exact h.ru i hi⟩
def sameM (N : Nat) (f f' : ctF) : Prop := (∀ k, k ≠ 28 → k ≠ 29 → k ≠ 30 → k ≠ 31 → f' k = f k) ∧ ∀ j, j < 8 * N → f' 28 j = f 28 j ∧ f' 29 j = f 29 j ∧ f' 30 j = f 30 j
theorem sameM.rf (N : Nat) (f : ctF) : sameM N f f := ⟨fun _ _ _ _ _ => rfl, fun _ _ => ⟨rfl, rfl, rfl⟩⟩
theorem sameM.tr {N : Nat} {f g h : ctF} (a : sameM N f g) (b : sameM N g h) : sameM N f h :=
  ⟨fun k h1 h2 h3 h4 => (b.1 k h1 h2 h3 h4).trans (a.1 k h1 h2 h3 h4), fun j hj => ⟨((b.2 j hj).1).trans (a.2 j hj).1, ((b.2 j hj).2.1).trans (a.2 j hj).2.1, ((b.2 j hj).2.2).trans (a.2 j hj).2.2⟩⟩
theorem gM.same {G : GD} {n : ctN} {f f' : ctF} {N : Nat} (h : gM G n f) (e : sameM N f f') : gM G n f' :=
  h.up rfl rfl (fun k _ _ => e.1 k (by omega) (by omega) (by omega) (by omega))
/-- the node that is priced: its operator and parts, the costs of the nodes before it -/
def aM (G : GD) (T : TD) (o a b : Nat) (f : ctF) : Prop := (f 25 T.N = nI o) ∧ (f 26 T.N = nI a) ∧ (f 27 T.N = nI b) ∧ (∀ v g, v < T.N → g < 8 → f 28 (8 * v + g) = en (T.C v g))
theorem aM.ko {G : GD} {T : TD} {o a b : Nat} {f : ctF} (h : aM G T o a b f) : f 25 T.N = nI o := h.1
theorem aM.p1 {G : GD} {T : TD} {o a b : Nat} {f : ctF} (h : aM G T o a b f) : f 26 T.N = nI a := h.2.1
theorem aM.p2 {G : GD} {T : TD} {o a b : Nat} {f : ctF} (h : aM G T o a b f) : f 27 T.N = nI b := h.2.2.1
theorem aM.co {G : GD} {T : TD} {o a b : Nat} {f : ctF} (h : aM G T o a b f) : ∀ v g, v < T.N → g < 8 → f 28 (8 * v + g) = en (T.C v g) := h.2.2.2
theorem aM.same {G : GD} {T : TD} {o a b : Nat} {f f' : ctF} (h : aM G T o a b f) (e : sameM T.N f f') : aM G T o a b f' :=
  ⟨by rw [e.1 25 (by decide) (by decide) (by decide) (by decide)]; exact h.ko, by rw [e.1 26 (by decide) (by decide) (by decide) (by decide)]; exact h.p1, by rw [e.1 27 (by decide) (by decide) (by decide) (by decide)]; exact h.p2, fun v g hv hg => by rw [(e.2 (8 * v + g) (by omega)).1]; exact h.co v g hv hg⟩
def rowM (N : Nat) (f : ctF) (D : Nat → Option Nat) : Prop := ∀ g, g < 8 → f 28 (8 * N + g) = en (D g)
theorem wm_costBy {post : Int32 → ctN → ctF → Prop} {n : ctN} {f : ctF} {G : GD} {T : TD} {o a b i : Nat} {D : Nat → Option Nat} (hG : G.ok) (hT : T.ok G) (hM : gM G n f) (hA : aM G T o a b f) (hN' : T.N < 120) (ho : o < G.O) (ha : 1 ≤ G.k o → a < T.N) (hb : 2 ≤ G.k o → b < T.N) (hr : rowM T.N f D) (hbd : bndC D) (hi : i < G.R) (h : post (en (byR (chG G) G.g1 G.co (prG G T o a b) D i)) n f) : wp_M_costBy post (nI T.N) (nI i) n f := by
  obtain ⟨q1, q2, q3, q4, q5⟩ := hG.ru i hi
  obtain ⟨r20, r21, r22, r23, rb⟩ := hM.ru i hi
  have hR := hG.R40
  have hO := hG.O10
  unfold byR chG at h
  cases e : G.op i with
  | none =>
    rw [e] at h
    exact wm_costChain (h := G.g1 i) (c := G.co i) (a := D (G.g1 i)) hN' (by omega) (by rw [r22, e]; rfl) (r23 e) q3 r21 (hr _ q3) (fun x hx => by have := bnd_lt hbd hx; omega) h
  | some o2 =>
    rw [e] at h
    have h : post (en (prG G T o a b i)) n f := h
    have ho2 := q5 o2 e
    by_cases c : o2 = o
    · subst c
      rw [show prG G T o2 a b i = bcost (G.k o2) (G.co i) (T.C a (G.g1 i)) (T.C b (G.g2 i)) from if_pos e] at h
      refine wm_costBase (o := o2) (k := G.k o2) (s := G.co i) (u1 := a) (u2 := b) (g1 := G.g1 i) (g2 := G.g2 i) (a1 := if 1 ≤ G.k o2 then T.C a (G.g1 i) else none) (a2 := if 2 ≤ G.k o2 then T.C b (G.g2 i) else none) hN' (by omega) (by rw [r22, e]; rfl) (by omega) hA.ko (hM.pa o2 ho) (hG.k2 o2 ho) r21 q2 (fun hk => ?_) (fun x hx => ?_) (fun hk => ?_) (fun x hx => ?_) ?_
      · exact ⟨hA.p1, by have := ha hk; omega, (rb o2 e).1 hk, q3, by rw [if_pos hk]; exact hA.co a _ (ha hk) q3⟩
      · by_cases hk : 1 ≤ G.k o2
        · rw [if_pos hk] at hx
          have := hT.mo a _ x (ha hk) hx
          omega
        · rw [if_neg hk] at hx; cases hx
      · exact ⟨hA.p2, by have := hb hk; omega, (rb o2 e).2 hk, q4, by rw [if_pos hk]; exact hA.co b _ (hb hk) q4⟩
      · by_cases hk : 2 ≤ G.k o2
        · rw [if_pos hk] at hx
          have := hT.mo b _ x (hb hk) hx
          omega
        · rw [if_neg hk] at hx; cases hx
      · have e2 : bcost (G.k o2) (G.co i) (if 1 ≤ G.k o2 then T.C a (G.g1 i) else none) (if 2 ≤ G.k o2 then T.C b (G.g2 i) else none) = bcost (G.k o2) (G.co i) (T.C a (G.g1 i)) (T.C b (G.g2 i)) := by
          unfold bcost
          by_cases c1 : G.k o2 < 1
          · rw [if_pos c1, if_pos c1]
          · rw [if_neg c1, if_neg c1, if_pos (show 1 ≤ G.k o2 by omega)]
            cases T.C a (G.g1 i) with
            | none => rfl
            | some x =>
              dsimp only
              by_cases c2 : G.k o2 < 2
              · rw [if_pos c2, if_pos c2]
              · rw [if_neg c2, if_neg c2, if_pos (show 2 ≤ G.k o2 by omega)]
        rw [e2]
        exact h
    · rw [show prG G T o a b i = none from if_neg (fun z => c (Option.some.inj (e.symm.trans z)))] at h
      exact wm_costOther (o := o2) hN' (by omega) (by rw [r22, e]; rfl) (by omega) (by rw [hA.ko, nI_eq (by omega) (by omega)]; exact c) h
/-- what is left to fall -/
def msC (D : Nat → Option Nat) : Nat := q_sm (fun g => match D g with
  | none => 3000000
  | some x => x) 8
theorem ms_take {D : Nat → Option Nat} {g y : Nat} (hg : g < 8) (ht : takes D g (some y)) (hy : y ≤ 2000180) : msC (va_up D g (some y)) < msC D := by
  have e2 := sm_up (φ := fun g => match D g with | none => 3000000 | some x => x) (ψ := fun j => match va_up D g (some y) j with | none => 3000000 | some x => x) (g := g) (fun j hj => by rw [va_up_ne _ _ hj]) 8 hg
  rw [va_up_self] at e2
  unfold msC
  obtain ⟨y2, ey, h2⟩ := ht
  cases ey
  rcases h2 with h2 | ⟨x, hx, hlt⟩
  · rw [h2] at e2; dsimp only at e2; omega
  · rw [hx] at e2; dsimp only at e2; omega
def mE (G : GD) (pr : Nat → Option Nat) (N : Nat) (f0 f : ctF) (D : Nat → Option Nat) : Prop := (sameM N f0 f) ∧ (rowM N f D) ∧ (bndC D) ∧ (closedC G.R G.go (chG G) G.g1 G.co pr D) ∧ (aboveC G.R G.go (chG G) G.g1 G.co pr D) ∧ (∀ g, g < 8 → f 29 (8 * N + g) = -1 ∧ f 30 (8 * N + g) = -1) ∧ (f 31 = f0 31)
theorem mE.same {G : GD} {pr : Nat → Option Nat} {N : Nat} {f0 f : ctF} {D : Nat → Option Nat} (h : mE G pr N f0 f D) : sameM N f0 f := h.1
theorem mE.row {G : GD} {pr : Nat → Option Nat} {N : Nat} {f0 f : ctF} {D : Nat → Option Nat} (h : mE G pr N f0 f D) : rowM N f D := h.2.1
theorem mE.bnd {G : GD} {pr : Nat → Option Nat} {N : Nat} {f0 f : ctF} {D : Nat → Option Nat} (h : mE G pr N f0 f D) : bndC D := h.2.2.1
theorem mE.clo {G : GD} {pr : Nat → Option Nat} {N : Nat} {f0 f : ctF} {D : Nat → Option Nat} (h : mE G pr N f0 f D) : closedC G.R G.go (chG G) G.g1 G.co pr D := h.2.2.2.1
theorem mE.abv {G : GD} {pr : Nat → Option Nat} {N : Nat} {f0 f : ctF} {D : Nat → Option Nat} (h : mE G pr N f0 f D) : aboveC G.R G.go (chG G) G.g1 G.co pr D := h.2.2.2.2.1
theorem mE.non {G : GD} {pr : Nat → Option Nat} {N : Nat} {f0 f : ctF} {D : Nat → Option Nat} (h : mE G pr N f0 f D) : ∀ g, g < 8 → f 29 (8 * N + g) = -1 ∧ f 30 (8 * N + g) = -1 := h.2.2.2.2.2.1
theorem mE.flg {G : GD} {pr : Nat → Option Nat} {N : Nat} {f0 f : ctF} {D : Nat → Option Nat} (h : mE G pr N f0 f D) : f 31 = f0 31 := h.2.2.2.2.2.2
theorem nI_neg {k : Nat} (h : k < 2 ^ 31) : ¬ nI k < 0 := nI_pos h
theorem wm_price {post : ctN → ctF → Prop} {n : ctN} {f : ctF} {G : GD} {T : TD} {o a b : Nat} (hG : G.ok) (hT : T.ok G) (hM : gM G n f) (hA : aM G T o a b f) (hN' : T.N < 120) (ho : o < G.O) (ha : 1 ≤ G.k o → a < T.N) (hb : 2 ≤ G.k o → b < T.N)
    (hend : ∀ f' D, mE G (prG G T o a b) T.N f f' D → post n f') : wp_M_price post (nI T.N) n f := by
  have e8 : (8 : Int32) = nI 8 := ix_8
  have hR40 := hG.R40
  have round : ∀ (K : Int32 → Int32 → ctN → ctF → Prop) (D0 : Nat → Option Nat) (f1 : ctF), (∀ g, g < 8 → f1 29 (8 * T.N + g) = -1 ∧ f1 30 (8 * T.N + g) = -1) → f1 31 = f 31 → (∀ f2 D, sameM T.N f f2 → (∀ g, g < 8 → f2 29 (8 * T.N + g) = -1 ∧ f2 30 (8 * T.N + g) = -1) → f2 31 = f 31 → rowM T.N f2 D → bndC D → aboveC G.R G.go (chG G) G.g1 G.co (prG G T o a b) D → closedC G.R G.go (chG G) G.g1 G.co (prG G T o a b) D → K (nI T.N) 0 n f2) →
      (∀ f2 D, sameM T.N f f2 → (∀ g, g < 8 → f2 29 (8 * T.N + g) = -1 ∧ f2 30 (8 * T.N + g) = -1) → f2 31 = f 31 → rowM T.N f2 D → bndC D → aboveC G.R G.go (chG G) G.g1 G.co (prG G T o a b) D → msC D < msC D0 → K (nI T.N) 1 n f2) →
      ∀ (d i : Nat) (f2 : ctF) (D : Nat → Option Nat) (x2 : Int32), G.R = i + d → sameM T.N f f2 → f2 29 = f1 29 → f2 30 = f1 30 → f2 31 = f1 31 → rowM T.N f2 D → bndC D → aboveC G.R G.go (chG G) G.g1 G.co (prG G T o a b) D →
      ((x2 = 0 ∧ D = D0 ∧ ∀ j y, j < i → byR (chG G) G.g1 G.co (prG G T o a b) D j = some y → ∃ x, D (G.go j) = some x ∧ x ≤ y) ∨ (x2 = 1 ∧ msC D < msC D0)) → wp_M_price_L60 post K (d + 1) (nI T.N) x2 (nI i) n f2 := by
    intro K D0 f1 hnon hflg hK0 hK1 d
    induction d with
    | zero =>
      intro i f2 D x2 hd hs e29 e30 e31 hr hbd hab hx
      have e : G.R = i := hd
      rw [wp_M_price_L60, hM.nR, e]
      refine ⟨fun _ => ?_, fun q => absurd (nI_le (Nat.le_refl i) (by omega)) q⟩
      have hnon2 : ∀ g, g < 8 → f2 29 (8 * T.N + g) = -1 ∧ f2 30 (8 * T.N + g) = -1 := fun g hg => by rw [e29, e30]; exact hnon g hg
      rcases hx with ⟨rfl, rfl, hc⟩ | ⟨rfl, hlt⟩
      · exact hK0 f2 D hs hnon2 (e31.trans hflg) hr hbd hab (fun j y hj hy => hc j y (by omega) hy)
      · exact hK1 f2 D hs hnon2 (e31.trans hflg) hr hbd hab hlt
    | succ d ih =>
      intro i f2 D x2 hd hs e29 e30 e31 hr hbd hab hx
      have hi : i < G.R := by omega
      have hic : (nI i).toNatClampNeg = i := nI_clamp (by omega)
      have hg8 := (hG.ru i hi).1
      rw [wp_M_price_L60, hM.nR, hic, nI_1]
      refine ⟨fun q => absurd q (nI_ge hi (by omega)), fun _ => ⟨vp_in_nI (by omega) (by decide), ?_⟩⟩
      rw [(hM.same hs |>.ru i hi).1, ix_m]
      rintro _ rfl
      have hin := ix_in hN' hg8
      have hcl := ix_cl hN' hg8
      refine wm_costBy hG hT (hM.same hs) (hA.same hs) hN' ho ha hb hr hbd hi ?_
      rw [hcl, hr _ hg8]
      have nx : ∀ (hnt : ¬ takes D (G.go i) (byR (chG G) G.g1 G.co (prG G T o a b) D i)), wp_M_price_L60 post K (d + 1) (nI T.N) x2 (nI (i + 1)) n f2 := by
        intro hnt
        refine ih (i + 1) f2 D x2 (by omega) hs e29 e30 e31 hr hbd hab ?_
        rcases hx with ⟨h1, h2, hc⟩ | hx
        · refine Or.inl ⟨h1, h2, fun j y hj hy => ?_⟩
          by_cases e : j = i
          · subst e
            cases hcD : D (G.go j) with
            | none => exact absurd ⟨y, hy, Or.inl hcD⟩ hnt
            | some w =>
              refine ⟨w, rfl, ?_⟩
              rcases Nat.lt_or_ge y w with q | q
              · exact absurd ⟨y, hy, Or.inr ⟨w, hcD, q⟩⟩ hnt
              · exact q
          · exact hc j y (by omega) hy
        · exact Or.inr hx
      cases hy : byR (chG G) G.g1 G.co (prG G T o a b) D i with
      | none =>
        rw [hy] at nx
        refine ⟨fun _ => ?_, fun q => absurd (by rw [en_n]; decide) q⟩
        rintro _ rfl
        exact nx (fun ⟨y, e, _⟩ => nomatch e)
      | some y =>
        rw [hy] at nx
        have hyb : y ≤ 2000020 ∨ ∃ j x, D j = some x ∧ y ≤ x + 20 := by
          have hy2 := hy
          unfold byR at hy2
          by_cases c : chG G i = true
          · rw [if_pos c] at hy2
            cases hc : D (G.g1 i) with
            | none => rw [hc] at hy2; cases hy2
            | some x =>
              rw [hc] at hy2
              have hy2 : x + G.co i = y := Option.some.inj hy2
              have := (hG.ru i hi).2.1
              exact Or.inr ⟨_, x, hc, by omega⟩
          · rw [if_neg c] at hy2
            exact Or.inl (prG_le hG hT ho ha hb hi hy2)
        have hy31 : y < 2 ^ 31 := by
          rcases hyb with q | ⟨j, x, hj, q⟩
          · omega
          · have := bnd_lt hbd hj; omega
        have tk : takes D (G.go i) (some y) → vp_in (nI (8 * T.N + G.go i)) 960 ∧ ∀ f3 : ctF, f3 = va_up f2 28 (upd (f2 28) (8 * T.N + G.go i) (nI y)) → ∀ x3 : Int32, x3 = nI (i + 1) → wp_M_price_L60 post K (d + 1) (nI T.N) 1 x3 n f3 := by
          intro ht
          refine ⟨hin, ?_⟩
          rintro f3 hf3 _ rfl
          have a28 : f3 28 = upd (f2 28) (8 * T.N + G.go i) (nI y) := by rw [hf3, va_up_self]
          have ao : ∀ k, k ≠ 28 → f3 k = f2 k := fun k hk => by rw [hf3, va_up_ne _ _ hk]
          have hbd2 := bnd_take hbd hg8 ht hyb
          refine ih (i + 1) f3 (va_up D (G.go i) (some y)) 1 (by omega) (hs.tr ⟨fun k h1 _ _ _ => ao k h1, fun j hj => ⟨by rw [a28, upd_ne _ _ (by omega)], by rw [ao 29 (by decide)], by rw [ao 30 (by decide)]⟩⟩) (by rw [ao 29 (by decide), e29]) (by rw [ao 30 (by decide), e30]) (by rw [ao 31 (by decide), e31]) (fun g hg => ?_) hbd2 (above_take hab hi hy) (Or.inr ⟨rfl, ?_⟩)
          · rw [a28]
            by_cases e : g = G.go i
            · subst e; rw [upd_self, va_up_self]; rfl
            · rw [upd_ne _ _ (by omega), va_up_ne _ _ e]; exact hr g hg
          · have h1 := ms_take hg8 ht (bnd_lt hbd2 (va_up_self D (G.go i) (some y)))
            rcases hx with ⟨-, rfl, -⟩ | ⟨-, hx⟩
            · exact h1
            · omega
        refine ⟨fun q => absurd q (nI_pos hy31), fun _ => ⟨hin, fun q => ?_, fun q => ⟨hin, fun q2 => ?_, fun q2 => ?_⟩⟩⟩
        · refine tk ⟨y, rfl, Or.inl ?_⟩
          cases hc : D (G.go i) with
          | none => rfl
          | some x => rw [hc] at q; exact absurd q (nI_pos (by have := bnd_lt hbd hc; omega))
        · rintro _ rfl
          refine nx (fun ⟨y2, e, ht⟩ => ?_)
          cases e
          rcases ht with ht | ⟨x, hx2, hlt⟩
          · rw [ht] at q; exact q (by decide)
          · rw [hx2] at q2
            have := (nI_leI (by have := bnd_lt hbd hx2; omega) hy31).mp q2
            omega
        · refine tk ⟨y, rfl, ?_⟩
          cases hc : D (G.go i) with
          | none => exact Or.inl rfl
          | some x =>
            rw [hc] at q2
            refine Or.inr ⟨x, rfl, ?_⟩
            rcases Nat.lt_or_ge y x with z | z
            · exact z
            · exact absurd ((nI_leI (by have := bnd_lt hbd hc; omega) hy31).mpr z) q2
  have outer : ∀ (B : Nat) (D : Nat → Option Nat) (f1 : ctF), msC D < B → sameM T.N f f1 → (∀ g, g < 8 → f1 29 (8 * T.N + g) = -1 ∧ f1 30 (8 * T.N + g) = -1) → f1 31 = f 31 → rowM T.N f1 D → bndC D → aboveC G.R G.go (chG G) G.g1 G.co (prG G T o a b) D → wp_M_price_L52 post (B + 1) (nI T.N) 1 n f1 := by
    intro B
    induction B with
    | zero => intro D f1 h; exact absurd h (Nat.not_lt_zero _)
    | succ B ih =>
      intro D f1 hlt hs hnon hflg hr hbd hab
      rw [wp_M_price_L52]
      refine ⟨fun q => absurd q (by decide), fun _ => ⟨G.R + 1, ?_⟩⟩
      have q := round (wp_M_price_L52 post (B + 1)) D f1 hnon hflg (fun f2 D2 s2 n2 g2 r2 b2 a2 c2 => ?_) (fun f2 D2 s2 n2 g2 r2 b2 a2 l2 => ih D2 f2 (by omega) s2 n2 g2 r2 b2 a2) G.R 0 f1 D 0 (by omega) hs rfl rfl rfl hr hbd hab (Or.inl ⟨rfl, rfl, fun j _ hj => absurd hj (Nat.not_lt_zero _)⟩)
      · rw [nI_0] at q
        exact q
      · rw [wp_M_price_L52]
        exact ⟨fun _ => hend f2 D2 ⟨s2, r2, b2, c2, a2, n2, g2⟩, fun q => absurd rfl q⟩
  have blank : ∀ (d m : Nat) (f1 : ctF), 8 = m + d → sameM T.N f f1 → f1 31 = f 31 → (∀ g, g < m → f1 28 (8 * T.N + g) = -1 ∧ f1 29 (8 * T.N + g) = -1 ∧ f1 30 (8 * T.N + g) = -1) → wp_M_price_L2 post (d + 1) (nI T.N) (nI m) n f1 := by
    intro d
    induction d with
    | zero =>
      intro m f1 hd hs hfl hb
      have e : m = 8 := by omega
      subst e
      rw [wp_M_price_L2]
      refine ⟨fun _ => ⟨msC (fun _ => none) + 1 + 1, ?_⟩, fun q => absurd (by rw [e8]; exact nI_le (Nat.le_refl 8) (by decide)) q⟩
      exact outer (msC (fun _ => none) + 1) (fun _ => none) f1 (Nat.lt_succ_self _) hs (fun g hg => (hb g hg).2) hfl (fun g hg => (hb g hg).1) bnd_none above_none
    | succ d ih =>
      intro m f1 hd hs hfl hb
      have hm : m < 8 := by omega
      have hx := ix_in hN' hm
      rw [wp_M_price_L2, ix_m, ix_cl hN' hm, nI_1]
      refine ⟨fun q => absurd q (by rw [e8]; exact nI_ge hm (by decide)), fun _ => ⟨hx, ?_⟩⟩
      rintro _ rfl
      refine ⟨hx, ?_⟩
      rintro _ rfl
      refine ⟨hx, ?_⟩
      rintro f2 hf2 _ rfl
      have a28 : f2 28 = upd (f1 28) (8 * T.N + m) (-1) := by rw [hf2, va_up_ne _ _ (by decide), va_up_ne _ _ (by decide), va_up_self]
      have a29 : f2 29 = upd (f1 29) (8 * T.N + m) (-1) := by rw [hf2, va_up_ne _ _ (by decide), va_up_self, va_up_ne _ _ (by decide)]
      have a30 : f2 30 = upd (f1 30) (8 * T.N + m) (-1) := by rw [hf2, va_up_self, va_up_ne _ _ (by decide), va_up_ne _ _ (by decide)]
      have ao : ∀ k, k ≠ 28 → k ≠ 29 → k ≠ 30 → f2 k = f1 k := fun k h1 h2 h3 => by rw [hf2, va_up_ne _ _ h3, va_up_ne _ _ h2, va_up_ne _ _ h1]
      refine ih (m + 1) f2 (by omega) (hs.tr ⟨fun k h1 h2 h3 _ => ao k h1 h2 h3, fun j hj => ⟨by rw [a28, upd_ne _ _ (by omega)], by rw [a29, upd_ne _ _ (by omega)], by rw [a30, upd_ne _ _ (by omega)]⟩⟩) (by rw [ao 31 (by decide) (by decide) (by decide), hfl]) (fun g hg => ?_)
      by_cases e : g = m
      · subst e
        rw [a28, a29, a30, upd_self, upd_self, upd_self]
        exact ⟨rfl, rfl, rfl⟩
      · rw [a28, a29, a30, upd_ne _ _ (by omega), upd_ne _ _ (by omega), upd_ne _ _ (by omega)]
        exact hb g (by omega)
  unfold wp_M_price
  refine ⟨9, ?_⟩
  have q := blank 8 0 f (by omega) (sameM.rf _ _) rfl (fun g hg => absurd hg (Nat.not_lt_zero _))
  rw [nI_0] at q
  exact q
end
section
/-! the reference's ruleOf and settle -/
def q_lst (P : Nat → Prop) (lo R : Nat) (o : Option Nat) : Prop := match o with
  | none => ∀ i, lo ≤ i → i < R → ¬ P i
  | some i => lo ≤ i ∧ i < R ∧ P i ∧ ∀ j, lo ≤ j → j < i → ¬ P j
theorem lst_keep {P : Nat → Prop} {lo R : Nat} {o : Option Nat} (h : q_lst P (lo + 1) R o) (hn : ¬ P lo) : q_lst P lo R o := by
  cases o with
  | none =>
    intro i h1 h2
    by_cases e : i = lo
    · subst e; exact hn
    · exact h i (by omega) h2
  | some i =>
    obtain ⟨h1, h2, h3, h4⟩ := h
    refine ⟨by omega, h2, h3, fun j h5 h6 => ?_⟩
    by_cases e : j = lo
    · subst e; exact hn
    · exact h4 j (by omega) h6
theorem lst_new {P : Nat → Prop} {lo R : Nat} (h : P lo) (hR : lo < R) : q_lst P lo R (some lo) := ⟨Nat.le_refl _, hR, h, fun j h1 h2 => by omega⟩
/-- a rule by which the node costs what it costs as the goal g -/
def okR (G : GD) (pr D : Nat → Option Nat) (g i : Nat) : Prop := G.go i = g ∧ ∃ y, byR (chG G) G.g1 G.co pr D i = some y ∧ D g = some y
def q_isB (G : GD) (pr D : Nat → Option Nat) (g i : Nat) : Prop := okR G pr D g i ∧ chG G i = false
def isH (G : GD) (pr D : Nat → Option Nat) (S : Nat → Bool) (g i : Nat) : Prop := okR G pr D g i ∧ chG G i = true ∧ S (G.g1 i) = true
def rl (G : GD) (pr D : Nat → Option Nat) (S : Nat → Bool) (g : Nat) (o : Option Nat) : Prop := ∃ ob oc, q_lst (q_isB G pr D g) 0 G.R ob ∧ q_lst (isH G pr D S g) 0 G.R oc ∧ o = (match ob with
  | none => oc
  | some b => some b)
def flagM (f : ctF) (S : Nat → Bool) : Prop := ∀ g, g < 8 → f 31 g = if S g = true then 1 else 0
theorem m1_add (x : Int32) : x + (-1) = x - 1 := by rw [Int32.sub_eq_add_neg]
theorem nI_s1 (j : Nat) : nI (j + 1) - 1 = nI j := by rw [← nI_1, Int32.add_sub_cancel]
theorem wm_ruleOf {post : Int32 → ctN → ctF → Prop} {n : ctN} {f : ctF} {G : GD} {T : TD} {o a b g : Nat} {D : Nat → Option Nat} {S : Nat → Bool} (hG : G.ok) (hT : T.ok G) (hM : gM G n f) (hA : aM G T o a b f) (hN' : T.N < 120) (ho : o < G.O) (ha : 1 ≤ G.k o → a < T.N) (hb : 2 ≤ G.k o → b < T.N) (hr : rowM T.N f D) (hbd : bndC D) (hg : g < 8) (hS : flagM f S)
    (h : ∀ q, rl G (prG G T o a b) D S g q → post (en q) n f) : wp_M_ruleOf post (nI T.N) (nI g) n f := by
  have hR40 := hG.R40
  have hO10 := hG.O10
  have loop : ∀ (i : Nat) (ob oc : Option Nat), i ≤ G.R → q_lst (q_isB G (prG G T o a b) D g) i G.R ob → q_lst (isH G (prG G T o a b) D S g) i G.R oc → wp_M_ruleOf_L13 post (i + 1) (nI T.N) (nI g) (en ob) (en oc) (nI i - 1) n f := by
    intro i
    induction i with
    | zero =>
      intro ob oc _ h1 h2
      rw [wp_M_ruleOf_L13]
      refine ⟨fun _ => ⟨fun q => ?_, fun q => ?_⟩, fun q => absurd (by rw [nI_0]; decide) q⟩
      · cases ob with
        | none => exact h oc ⟨none, oc, h1, h2, rfl⟩
        | some j => exact absurd q (nI_pos (by have := h1.2.1; omega))
      · cases ob with
        | none => exact absurd (by rw [en_n]; decide) q
        | some j => exact h (some j) ⟨some j, oc, h1, h2, rfl⟩
    | succ j ih =>
      intro ob oc hj h1 h2
      have hjR : j < G.R := by omega
      have hjc : (nI j).toNatClampNeg = j := nI_clamp (by omega)
      have hji : vp_in (nI j) 40 := vp_in_nI (by omega) (by decide)
      obtain ⟨q1, q2, q3, q4, q5⟩ := hG.ru j hjR
      obtain ⟨r20, r21, r22, r23, rb⟩ := hM.ru j hjR
      have J64 : ¬ okR G (prG G T o a b) D g j → wp_M_ruleOf_J64 post (wp_M_ruleOf_L13 post (j + 1)) (nI T.N) (nI g) (en ob) (en oc) (nI j) n f := by
        intro hno
        unfold wp_M_ruleOf_J64 wp_M_ruleOf_J65
        refine ⟨fun _ => ?_, fun q => absurd rfl q⟩
        unfold wp_M_ruleOf_J87 wp_M_ruleOf_J88
        refine ⟨fun _ => ?_, fun q => absurd rfl q⟩
        rintro _ rfl
        rw [m1_add]
        exact ih ob oc (by omega) (lst_keep h1 (fun q => hno q.1)) (lst_keep h2 (fun q => hno q.1))
      rw [wp_M_ruleOf_L13, nI_s1, hjc, r20, ix_m]
      refine ⟨fun q => absurd q (nI_pos (by omega)), fun _ => ⟨hji, fun q => J64 (fun z => q (by rw [z.1])), fun q => ?_⟩⟩
      have hgo : G.go j = g := (nI_eq (by omega) (by omega)).mp q
      refine wm_costBy hG hT hM hA hN' ho ha hb hr hbd hjR ?_
      refine ⟨fun q => J64 (fun z => ?_), fun q => ?_⟩
      · obtain ⟨-, y, hy, hy2⟩ := z
        rw [hy] at q
        exact absurd q (nI_pos (by have := bnd_lt hbd hy2; omega))
      · cases hy : byR (chG G) G.g1 G.co (prG G T o a b) D j with
        | none => rw [hy] at q; exact absurd (by rw [en_n]; decide) q
        | some y =>
          refine wm_costBy hG hT hM hA hN' ho ha hb hr hbd hjR ?_
          rw [hy, ix_cl hN' hg, hr g hg]
          have hy31 : y < 2 ^ 31 := by
            unfold byR at hy
            by_cases c : chG G j = true
            · rw [if_pos c] at hy
              cases hc : D (G.g1 j) with
              | none => rw [hc] at hy; cases hy
              | some x =>
                rw [hc] at hy
                have hy : x + G.co j = y := Option.some.inj hy
                have := bnd_lt hbd hc
                omega
            · rw [if_neg c] at hy
              have := prG_le hG hT ho ha hb hjR hy
              omega
          refine ⟨ix_in hN' hg, fun q2 => J64 (fun z => ?_), fun q2 => ?_⟩
          · obtain ⟨-, y2, hy2, hy3⟩ := z
            rw [hy] at hy2; cases hy2
            rw [hy3] at q2
            exact q2 rfl
          · have hDg : D g = some y := by
              cases hc : D g with
              | none => rw [hc] at q2; exact absurd q2 (nI_m1 hy31)
              | some x =>
                rw [hc] at q2
                rw [(nI_eq hy31 (by have := bnd_lt hbd hc; omega)).mp q2]
            have hok : okR G (prG G T o a b) D g j := ⟨hgo, y, hy, hDg⟩
            unfold wp_M_ruleOf_J65
            rw [hjc, r22]
            refine ⟨fun z => absurd z (by decide), fun _ => ⟨hji, fun z => ?_, fun z => ?_⟩⟩
            · have hch : G.op j = none := by
                cases e : G.op j with
                | none => rfl
                | some o2 => rw [e] at z; exact absurd z (nI_pos (by have := q5 o2 e; omega))
              have hchG : chG G j = true := by unfold chG; rw [hch]
              have nB : ¬ q_isB G (prG G T o a b) D g j := fun w => by have := w.2; rw [hchG] at this; cases this
              unfold wp_M_ruleOf_J87 wp_M_ruleOf_J88
              rw [hjc, r22, r23 hch, nI_clamp (by omega), hch, hS _ q3]
              refine ⟨fun w => absurd w (by decide), fun _ => ⟨hji, fun w => absurd w (by decide), fun _ => ⟨hji, vp_in_nI q3 (by decide), fun w => ?_, fun w => ?_⟩⟩⟩
              · rintro _ rfl
                rw [m1_add]
                refine ih ob oc (by omega) (lst_keep h1 nB) (lst_keep h2 (fun v => ?_))
                rw [if_pos v.2.2] at w
                exact absurd w (by decide)
              · rintro _ rfl
                rw [m1_add]
                refine ih ob (some j) (by omega) (lst_keep h1 nB) (lst_new ⟨hok, hchG, ?_⟩ hjR)
                by_cases v : S (G.g1 j) = true
                · exact v
                · rw [if_neg v] at w; exact absurd rfl w
            · have hch : chG G j = false := by
                unfold chG
                cases e : G.op j with
                | none => rw [e] at z; exact absurd (by rw [en_n]; decide) z
                | some o2 => rfl
              have h0 : (0 : Int32) ≤ en (G.op j) := by
                rw [w_le]; rw [w_lt] at z; omega
              unfold wp_M_ruleOf_J88
              rw [hjc, r22]
              refine ⟨fun w => absurd w (by decide), fun _ => ⟨hji, fun _ => ?_, fun w => absurd h0 w⟩⟩
              rintro _ rfl
              rw [m1_add]
              refine ih (some j) oc (by omega) (lst_new ⟨hok, hch⟩ hjR) (lst_keep h2 (fun w => ?_))
              have := w.2.1
              rw [hch] at this; cases this
  unfold wp_M_ruleOf
  rintro _ rfl
  rw [hM.nR]
  exact ⟨G.R + 1, loop G.R none none (Nat.le_refl _) (fun i h1 h2 => by omega) (fun i h1 h2 => by omega)⟩
/-- of the goals below m the one that is settled next, and its rule -/
def q_bst (G : GD) (pr D : Nat → Option Nat) (S : Nat → Bool) (m : Nat) (q : Option (Nat × Nat)) : Prop := match q with
  | none => ∀ g r, g < m → S g = false → ¬ D g = none → ¬ rl G pr D S g (some r)
  | some (b, r) => b < m ∧ S b = false ∧ rl G pr D S b (some r) ∧ ∃ x, D b = some x ∧ ∀ g y r', g < m → S g = false → D g = some y → rl G pr D S g (some r') → x ≤ y ∧ (y = x → b ≤ g)
def rawS (G : GD) (z : Nat → Int32) (N a b r : Nat) : Int32 := match G.op r with
  | none => 1 + z (8 * N + G.g1 r)
  | some o => if G.k o ≤ 0 then 1 else if G.k o ≤ 1 then 1 + z (8 * a + G.g1 r) else 1 + z (8 * a + G.g1 r) + z (8 * b + G.g2 r)
def capS (x : Int32) : Int32 := if x ≤ 2000 then x else 2001
def setS (G : GD) (f : ctF) (N a b m r : Nat) : ctF := va_up (va_up (va_up f 31 (upd (f 31) m 1)) 29 (upd (f 29) (8 * N + m) (nI r))) 30 (upd (f 30) (8 * N + m) (capS (rawS G (f 30) N a b r)))
theorem lst_one {P : Nat → Prop} {R : Nat} {a b : Option Nat} (h1 : q_lst P 0 R a) (h2 : q_lst P 0 R b) : a = b := by
  cases a with
  | none =>
    cases b with
    | none => rfl
    | some j => exact absurd h2.2.2.1 (h1 j (by omega) h2.2.1)
  | some i =>
    cases b with
    | none => exact absurd h1.2.2.1 (h2 i (by omega) h1.2.1)
    | some j =>
      rcases Nat.lt_trichotomy i j with q | q | q
      · exact absurd h1.2.2.1 (h2.2.2.2 i (by omega) q)
      · rw [q]
      · exact absurd h2.2.2.1 (h1.2.2.2 j (by omega) q)
theorem rl_one {G : GD} {pr D : Nat → Option Nat} {S : Nat → Bool} {g : Nat} {a b : Option Nat} (h1 : rl G pr D S g a) (h2 : rl G pr D S g b) : a = b := by
  obtain ⟨x, y, hx, hy, rfl⟩ := h1
  obtain ⟨x2, y2, hx2, hy2, rfl⟩ := h2
  rw [lst_one hx hx2, lst_one hy hy2]
theorem rl_ok {G : GD} {pr D : Nat → Option Nat} {S : Nat → Bool} {g r : Nat} (h : rl G pr D S g (some r)) : r < G.R ∧ (q_isB G pr D g r ∨ isH G pr D S g r) := by
  obtain ⟨x, y, hx, hy, e⟩ := h
  cases x with
  | none =>
    have e : some r = y := e
    subst e
    exact ⟨hy.2.1, Or.inr hy.2.2.1⟩
  | some b =>
    have e : some r = some b := e
    cases e
    exact ⟨hx.2.1, Or.inl hx.2.2.1⟩
end
section
/-! the reference's settle -/
theorem bst_keep {G : GD} {pr D : Nat → Option Nat} {S : Nat → Bool} {m : Nat} {q : Option (Nat × Nat)} (h : q_bst G pr D S m q) (hm : S m = true ∨ D m = none ∨ rl G pr D S m none) : q_bst G pr D S (m + 1) q := by
  have no : ∀ r, S m = false → ¬ D m = none → ¬ rl G pr D S m (some r) := fun r h1 h2 h3 => by
    rcases hm with z | z | z
    · rw [h1] at z; cases z
    · exact h2 z
    · exact nomatch rl_one h3 z
  cases q with
  | none =>
    intro g r hg hs hd
    by_cases e : g = m
    · subst e; exact no r hs hd
    · exact h g r (by omega) hs hd
  | some p =>
    obtain ⟨b, r⟩ := p
    obtain ⟨h1, h2, h3, x, h4, h5⟩ := h
    refine ⟨by omega, h2, h3, x, h4, fun g y r' hg hs hd hr => ?_⟩
    by_cases e : g = m
    · subst e; exact absurd hr (no r' hs (by rw [hd]; exact fun z => nomatch z))
    · exact h5 g y r' (by omega) hs hd hr
theorem bst_first {G : GD} {pr D : Nat → Option Nat} {S : Nat → Bool} {m x r : Nat} (h : q_bst G pr D S m none) (hs : S m = false) (hd : D m = some x) (hr : rl G pr D S m (some r)) : q_bst G pr D S (m + 1) (some (m, r)) := by
  refine ⟨by omega, hs, hr, x, hd, fun g y r' hg hsg hdg hrg => ?_⟩
  by_cases e : g = m
  · subst e; rw [hd] at hdg; cases hdg; exact ⟨Nat.le_refl _, fun _ => Nat.le_refl _⟩
  · exact absurd hrg (h g r' (by omega) hsg (by rw [hdg]; exact fun z => nomatch z))
theorem bst_new {G : GD} {pr D : Nat → Option Nat} {S : Nat → Bool} {m x r b rb z : Nat} (h : q_bst G pr D S m (some (b, rb))) (hb : D b = some z) (hs : S m = false) (hd : D m = some x) (hr : rl G pr D S m (some r)) (hlt : x < z) : q_bst G pr D S (m + 1) (some (m, r)) := by
  obtain ⟨h1, h2, h3, z2, h4, h5⟩ := h
  rw [hb] at h4; cases h4
  refine ⟨by omega, hs, hr, x, hd, fun g y r' hg hsg hdg hrg => ?_⟩
  by_cases e : g = m
  · subst e; rw [hd] at hdg; cases hdg; exact ⟨Nat.le_refl _, fun _ => Nat.le_refl _⟩
  · have := h5 g y r' (by omega) hsg hdg hrg
    exact ⟨by omega, fun _ => by omega⟩
theorem bst_old {G : GD} {pr D : Nat → Option Nat} {S : Nat → Bool} {m x b rb z : Nat} (h : q_bst G pr D S m (some (b, rb))) (hb : D b = some z) (hd : D m = some x) (hle : z ≤ x) : q_bst G pr D S (m + 1) (some (b, rb)) := by
  obtain ⟨h1, h2, h3, z2, h4, h5⟩ := h
  rw [hb] at h4; cases h4
  refine ⟨by omega, h2, h3, z, hb, fun g y r' hg hsg hdg hrg => ?_⟩
  by_cases e : g = m
  · subst e; rw [hd] at hdg; cases hdg; exact ⟨hle, fun _ => by omega⟩
  · exact h5 g y r' (by omega) hsg hdg hrg
theorem wm_settle {post : Int32 → ctN → ctF → Prop} {n : ctN} {f : ctF} {G : GD} {T : TD} {o a b : Nat} {D : Nat → Option Nat} {S : Nat → Bool} (hG : G.ok) (hT : T.ok G) (hM : gM G n f) (hA : aM G T o a b f) (hN' : T.N < 120) (ho : o < G.O) (ha : 1 ≤ G.k o → a < T.N) (hb : 2 ≤ G.k o → b < T.N) (hr : rowM T.N f D) (hbd : bndC D) (hS : flagM f S)
    (h0 : q_bst G (prG G T o a b) D S 8 none → post 0 n f) (h1 : ∀ m r, q_bst G (prG G T o a b) D S 8 (some (m, r)) → post 1 n (setS G f T.N a b m r)) : wp_M_settle post (nI T.N) n f := by
  have e8 : (8 : Int32) = nI 8 := ix_8
  have hR40 := hG.R40
  have hO10 := hG.O10
  have hNc : (nI T.N).toNatClampNeg = T.N := nI_clamp (by omega)
  have hNi : vp_in (nI T.N) 120 := vp_in_nI hN' (by decide)
  have fin : ∀ q, q_bst G (prG G T o a b) D S 8 q → (0 ≤ en (q.map Prod.fst) → (vp_in (en (q.map Prod.fst)) 8 ∧ (∀ f_4 : ctF, f_4 = va_up f 31 (upd (f 31) (en (q.map Prod.fst)).toNatClampNeg (vp_nar .boolean 1)) → (vp_in ((8 * nI T.N) + en (q.map Prod.fst)) 960 ∧ (∀ f_6 : ctF, f_6 = va_up f_4 29 (upd (f_4 29) ((8 * nI T.N) + en (q.map Prod.fst)).toNatClampNeg (en (q.map Prod.snd))) → (vp_in (en (q.map Prod.snd)) 40 ∧ ((0 ≤ (f_6 22 (en (q.map Prod.snd)).toNatClampNeg) → (vp_in (en (q.map Prod.snd)) 40 ∧ (vp_in (f_6 22 (en (q.map Prod.snd)).toNatClampNeg) 10 ∧ (((f_6 19 (f_6 22 (en (q.map Prod.snd)).toNatClampNeg).toNatClampNeg) ≤ 0 → (wp_M_settle_J246 post (nI T.N) (en (q.map Prod.fst)) 1 n f_6)) ∧ (¬ (f_6 19 (f_6 22 (en (q.map Prod.snd)).toNatClampNeg).toNatClampNeg) ≤ 0 → (vp_in (nI T.N) 120 ∧ (vp_in (en (q.map Prod.snd)) 40 ∧ (vp_in ((8 * (f_6 26 (nI T.N).toNatClampNeg)) + (f_6 23 (en (q.map Prod.snd)).toNatClampNeg)) 960 ∧ (∀ x4_20 : Int32, x4_20 = (1 + (f_6 30 ((8 * (f_6 26 (nI T.N).toNatClampNeg)) + (f_6 23 (en (q.map Prod.snd)).toNatClampNeg)).toNatClampNeg)) → (vp_in (en (q.map Prod.snd)) 40 ∧ (vp_in (f_6 22 (en (q.map Prod.snd)).toNatClampNeg) 10 ∧ (((f_6 19 (f_6 22 (en (q.map Prod.snd)).toNatClampNeg).toNatClampNeg) ≤ 1 → (wp_M_settle_J244 post (nI T.N) (en (q.map Prod.fst)) x4_20 n f_6)) ∧ (¬ (f_6 19 (f_6 22 (en (q.map Prod.snd)).toNatClampNeg).toNatClampNeg) ≤ 1 → (vp_in (nI T.N) 120 ∧ (vp_in (en (q.map Prod.snd)) 40 ∧ (vp_in ((8 * (f_6 27 (nI T.N).toNatClampNeg)) + (f_6 24 (en (q.map Prod.snd)).toNatClampNeg)) 960 ∧ (wp_M_settle_J244 post (nI T.N) (en (q.map Prod.fst)) (x4_20 + (f_6 30 ((8 * (f_6 27 (nI T.N).toNatClampNeg)) + (f_6 24 (en (q.map Prod.snd)).toNatClampNeg)).toNatClampNeg)) n f_6))))))))))))))))) ∧ (¬ 0 ≤ (f_6 22 (en (q.map Prod.snd)).toNatClampNeg) → (vp_in (en (q.map Prod.snd)) 40 ∧ (vp_in ((8 * nI T.N) + (f_6 23 (en (q.map Prod.snd)).toNatClampNeg)) 960 ∧ (∀ x4_29 : Int32, x4_29 = (1 + (f_6 30 ((8 * nI T.N) + (f_6 23 (en (q.map Prod.snd)).toNatClampNeg)).toNatClampNeg)) → (wp_M_settle_J246 post (nI T.N) (en (q.map Prod.fst)) x4_29 n f_6)))))))))))) ∧ (¬ 0 ≤ en (q.map Prod.fst) → (post 0 n f)) := by
    intro q hq
    cases q with
    | none => exact ⟨fun z => absurd z (by decide), fun _ => h0 hq⟩
    | some p =>
      obtain ⟨m, r⟩ := p
      have hq' := h1 m r hq
      obtain ⟨hm, -, hrl, -⟩ := hq
      obtain ⟨hrR, hk⟩ := rl_ok hrl
      have hmc : (nI m).toNatClampNeg = m := nI_clamp (by omega)
      have hrc : (nI r).toNatClampNeg = r := nI_clamp (by omega)
      have hri : vp_in (nI r) 40 := vp_in_nI (by omega) (by decide)
      obtain ⟨q1, q2, q3, q4, q5⟩ := hG.ru r hrR
      obtain ⟨r20, r21, r22, r23, rb⟩ := hM.ru r hrR
      have ef : en (Option.map Prod.fst (some (m, r))) = nI m := rfl
      have es : en (Option.map Prod.snd (some (m, r))) = nI r := rfl
      rw [ef, es]
      refine ⟨fun _ => ⟨vp_in_nI hm (by decide), ?_⟩, fun z => absurd (nI_pos' (by omega)) z⟩
      rintro _ rfl
      rw [ix_m, ix_cl hN' hm]
      refine ⟨ix_in hN' hm, ?_⟩
      rintro f6 hf6
      have a29 : f6 29 = upd (f 29) (8 * T.N + m) (nI r) := by rw [hf6, va_up_self, va_up_ne _ _ (by decide)]
      have a31 : f6 31 = upd (f 31) m 1 := by rw [hf6, va_up_ne _ _ (by decide), va_up_self, hmc, nar1]
      have ao : ∀ k, k ≠ 29 → k ≠ 31 → f6 k = f k := fun k z1 z2 => by rw [hf6, va_up_ne _ _ z1, va_up_ne _ _ z2]
      have fe : ∀ v, va_up f6 30 (upd (f6 30) (8 * T.N + m) v) = va_up (va_up (va_up f 31 (upd (f 31) m 1)) 29 (upd (f 29) (8 * T.N + m) (nI r))) 30 (upd (f 30) (8 * T.N + m) v) := by
        intro v
        rw [ao 30 (by decide) (by decide), hf6, hmc, nar1, va_up_ne (k := 31) (j := 29) _ _ (by decide)]
      have J : ∀ x, x = rawS G (f 30) T.N a b r → wp_M_settle_J246 post (nI T.N) (nI m) x n f6 := by
        intro x hx
        unfold setS capS at hq'
        rw [← hx] at hq'
        unfold wp_M_settle_J246
        rw [ix_m, ix_cl hN' hm]
        refine ⟨fun z => ⟨ix_in hN' hm, ?_⟩, fun z => ⟨ix_in hN' hm, ?_⟩⟩
        · rintro _ rfl
          rw [fe]
          rw [if_pos z] at hq'
          exact hq'
        · rintro _ rfl
          rw [fe]
          rw [if_neg z] at hq'
          exact hq'
      have eo22 := ao 22 (by decide) (by decide)
      have eo19 := ao 19 (by decide) (by decide)
      have eo23 := ao 23 (by decide) (by decide)
      have eo24 := ao 24 (by decide) (by decide)
      have eo26 := ao 26 (by decide) (by decide)
      have eo27 := ao 27 (by decide) (by decide)
      have eo30 := ao 30 (by decide) (by decide)
      rw [eo22, hrc, r22]
      refine ⟨hri, fun z => ?_, fun z => ?_⟩
      · obtain ⟨o2, e⟩ : ∃ o2, G.op r = some o2 := by
          cases e : G.op r with
          | none => rw [e] at z; exact absurd z (by decide)
          | some o2 => exact ⟨o2, rfl⟩
        have hch : chG G r = false := by unfold chG; rw [e]
        have hok : okR G (prG G T o a b) D m r := by
          rcases hk with z2 | z2
          · exact z2.1
          · exact z2.1
        have hoo : o2 = o := by
          obtain ⟨-, y, hy, -⟩ := hok
          unfold byR at hy
          rw [if_neg (by rw [hch]; decide)] at hy
          unfold prG at hy
          by_cases c : G.op r = some o
          · rw [e] at c; exact Option.some.inj c
          · rw [if_neg c] at hy; cases hy
        subst hoo
        have hoc : (nI o2).toNatClampNeg = o2 := nI_clamp (by omega)
        have hoi : vp_in (nI o2) 10 := vp_in_nI (by omega) (by decide)
        have k0 : nI (G.k o2) ≤ 0 ↔ G.k o2 ≤ 0 := by rw [show (0 : Int32) = nI 0 by decide]; exact nI_leI (by have := hG.k2 o2 ho; omega) (by decide)
        have k1 : nI (G.k o2) ≤ 1 ↔ G.k o2 ≤ 1 := by rw [show (1 : Int32) = nI 1 by decide]; exact nI_leI (by have := hG.k2 o2 ho; omega) (by decide)
        have hraw : rawS G (f 30) T.N a b r = if G.k o2 ≤ 0 then 1 else if G.k o2 ≤ 1 then 1 + f 30 (8 * a + G.g1 r) else 1 + f 30 (8 * a + G.g1 r) + f 30 (8 * b + G.g2 r) := by
          unfold rawS; rw [e]
        rw [e, en_s, hoc, eo19, hM.pa o2 ho]
        refine ⟨hri, hoi, fun c => J 1 ?_, fun c => ⟨hNi, hri, ?_⟩⟩
        · rw [hraw, if_pos (k0.mp c)]
        · have c0 : ¬ G.k o2 ≤ 0 := fun w => c (k0.mpr w)
          have hka : 1 ≤ G.k o2 := by omega
          have haN := ha hka
          rw [hNc, eo26, hA.p1, eo23]
          rw [(rb o2 e).1 hka, ix_m, ix_cl (by omega) q3]
          refine ⟨ix_in (by omega) q3, ?_⟩
          rintro _ rfl
          refine ⟨hri, hoi, fun c2 => ?_, fun c2 => ⟨hNi, hri, ?_⟩⟩
          · unfold wp_M_settle_J244
            refine J _ ?_
            rw [hraw, if_neg c0, if_pos (k1.mp c2), eo30]
          · have c1 : ¬ G.k o2 ≤ 1 := fun w => c2 (k1.mpr w)
            have hkb : 2 ≤ G.k o2 := by omega
            have hbN := hb hkb
            rw [eo27, hA.p2, eo24]
            rw [(rb o2 e).2 hkb, ix_m, ix_cl (by omega) q4]
            refine ⟨ix_in (by omega) q4, ?_⟩
            unfold wp_M_settle_J244
            refine J _ ?_
            rw [hraw, if_neg c0, if_neg c1, eo30]
      · have e : G.op r = none := by
          cases e : G.op r with
          | none => rfl
          | some o2 => rw [e] at z; exact absurd (nI_pos' (by have := q5 o2 e; omega)) z
        rw [eo23]
        rw [r23 e, ix_m, ix_cl hN' q3, eo30]
        refine ⟨hri, ix_in hN' q3, ?_⟩
        rintro _ rfl
        refine J _ ?_
        unfold rawS
        rw [e]
  have loop : ∀ (d m : Nat) (q : Option (Nat × Nat)), 8 = m + d → q_bst G (prG G T o a b) D S m q → wp_M_settle_L7 post (d + 1) (nI T.N) (en (q.map Prod.fst)) (en (q.map Prod.snd)) (nI m) n f := by
    intro d
    induction d with
    | zero =>
      intro m q hd hq
      have e : m = 8 := by omega
      subst e
      rw [wp_M_settle_L7]
      exact ⟨fun _ => fin q hq, fun z => absurd (by rw [e8]; exact nI_le (Nat.le_refl 8) (by decide)) z⟩
    | succ d ih =>
      intro m q hd hq
      have hm : m < 8 := by omega
      have hmc : (nI m).toNatClampNeg = m := nI_clamp (by omega)
      have J39 : (S m = true ∨ D m = none ∨ rl G (prG G T o a b) D S m none) → wp_M_settle_J50 post (wp_M_settle_L7 post (d + 1)) (nI T.N) (en (q.map Prod.fst)) (en (q.map Prod.snd)) (nI m) (-1) n f := by
        intro hno
        unfold wp_M_settle_J50
        refine ⟨fun _ => ?_, fun z => absurd (by decide) z⟩
        rintro _ rfl
        rw [nI_1]
        exact ih (m + 1) q (by omega) (bst_keep hq hno)
      rw [wp_M_settle_L7, ix_m, ix_cl hN' hm, hmc, hr m hm, hS m hm]
      refine ⟨fun z => absurd z (by rw [e8]; exact nI_ge hm (by decide)), fun _ => ⟨ix_in hN' hm, fun z => ?_, fun z => ⟨vp_in_nI hm (by decide), fun w => ?_, fun w => ?_⟩⟩⟩
      · unfold wp_M_settle_J39
        refine J39 (Or.inr (Or.inl ?_))
        cases hc : D m with
        | none => rfl
        | some x => rw [hc] at z; exact absurd z (nI_pos (by have := bnd_lt hbd hc; omega))
      · obtain ⟨x, hc⟩ : ∃ x, D m = some x := by
          cases hc : D m with
          | none => rw [hc] at z; exact absurd (by decide) z
          | some x => exact ⟨x, rfl⟩
        have hx := bnd_lt hbd hc
        have hsm : S m = false := by
          cases v : S m with
          | false => rfl
          | true => rw [v, if_pos rfl] at w; exact absurd w (by decide)
        refine wm_ruleOf hG hT hM hA hN' ho ha hb hr hbd hm hS (fun t ht => ?_)
        cases t with
        | none => exact J39 (Or.inr (Or.inr ht))
        | some r =>
          obtain ⟨hrR, -⟩ := rl_ok ht
          unfold wp_M_settle_J50
          rw [nI_1]
          refine ⟨fun v => absurd v (nI_pos (by omega)), fun _ => ⟨fun v => ?_, fun v => ?_⟩⟩
          · rintro _ rfl
            cases q with
            | none => exact ih (m + 1) (some (m, r)) (by omega) (bst_first hq hsm hc ht)
            | some p => exact absurd v (nI_pos (by have := hq.1; omega))
          · cases q with
            | none => exact absurd (by decide) v
            | some p =>
              obtain ⟨bb, rb⟩ := p
              have hbb : bb < 8 := by have := hq.1; omega
              obtain ⟨-, -, -, z2, hz2, -⟩ := id hq
              have hz3 := bnd_lt hbd hz2
              show vp_in (8 * nI T.N + nI m) 960 ∧ vp_in (8 * nI T.N + nI bb) 960 ∧ (f 28 (8 * nI T.N + nI bb).toNatClampNeg ≤ f 28 (8 * nI T.N + nI m).toNatClampNeg → _) ∧ (¬ f 28 (8 * nI T.N + nI bb).toNatClampNeg ≤ f 28 (8 * nI T.N + nI m).toNatClampNeg → _)
              rw [ix_m, ix_m, ix_cl hN' hm, ix_cl hN' hbb, hr m hm, hr bb hbb, hc, hz2]
              refine ⟨ix_in hN' hm, ix_in hN' hbb, fun u => ?_, fun u => ?_⟩
              · rintro _ rfl
                exact ih (m + 1) (some (bb, rb)) (by omega) (bst_old hq hz2 hc ((nI_leI (by omega) (by omega)).mp u))
              · rintro _ rfl
                refine ih (m + 1) (some (m, r)) (by omega) (bst_new hq hz2 hsm hc ht ?_)
                rcases Nat.lt_or_ge x z2 with y | y
                · exact y
                · exact absurd ((nI_leI (by omega) (by omega)).mpr y) u
      · unfold wp_M_settle_J39
        refine J39 (Or.inl ?_)
        cases v : S m with
        | true => rfl
        | false => rw [v, if_neg (by decide)] at w; exact absurd rfl w
  unfold wp_M_settle
  refine ⟨9, ?_⟩
  have q := loop 8 0 none (by omega) (fun g _ hg => absurd hg (Nat.not_lt_zero _))
  rw [nI_0] at q
  exact q
end
section
/-! the reference's node: after the price, the goals are settled -/
def rowOK (G : GD) (f : ctF) (v o a : Nat) (rk : Nat → Nat) (S : Nat → Bool) (m g : Nat) : Prop :=
  (S g = false → f 29 (8 * v + g) = -1 ∧ f 30 (8 * v + g) = -1) ∧ (S g = true → rk g < m ∧ szOK (f 30 (8 * v + g)) ∧ ∃ r, r < G.R ∧ f 29 (8 * v + g) = nI r ∧ (G.op r = none → S (G.g1 r) = true ∧ rk (G.g1 r) < rk g) ∧ ∀ o', G.op r = some o' → o' = o ∧ (G.k o = 0 → f 30 (8 * v + g) = 1) ∧ (G.k o = 1 → (f 30 (8 * v + g)).toInt ≤ 1 + (f 30 (8 * a + G.g1 r)).toInt))
def q_cS (S : Nat → Bool) : Nat := q_sm (fun g => if S g = true then 1 else 0) 8
theorem cS_le (S : Nat → Bool) : q_cS S ≤ 8 := by
  have := sm_le (φ := fun g => if S g = true then 1 else 0) (B := 1) 8 (fun g _ => by split <;> omega)
  unfold q_cS; omega
theorem cS_up {S : Nat → Bool} {m : Nat} (hm : m < 8) (hs : S m = false) : q_cS (va_up S m true) = q_cS S + 1 := by
  have e1 : ∀ j, j ≠ m → (fun g => if va_up S m true g = true then 1 else 0) j = (fun g => if S g = true then 1 else 0) j := fun j hj2 => by
    dsimp only; rw [va_up_ne _ _ hj2]
  have e2 := sm_up (φ := fun g => if S g = true then 1 else 0) (ψ := fun g => if va_up S m true g = true then 1 else 0) e1 8 hm
  rw [va_up_self, hs, if_pos rfl, if_neg (by decide)] at e2
  unfold q_cS; omega
theorem cap_ok {x : Int32} (h : -1 ≤ x.toInt) : szOK (capS x) := by
  have e : (2000 : Int32).toInt = 2000 := by decide
  have e1 : (2001 : Int32).toInt = 2001 := by decide
  unfold capS
  by_cases q : x ≤ 2000
  · rw [if_pos q]; rw [w_le, e] at q; exact ⟨h, by omega⟩
  · rw [if_neg q]; exact ⟨by rw [e1]; omega, by rw [e1]; omega⟩
theorem cap_le {x : Int32} : (capS x).toInt ≤ x.toInt := by
  have e : (2000 : Int32).toInt = 2000 := by decide
  have e1 : (2001 : Int32).toInt = 2001 := by decide
  unfold capS
  by_cases q : x ≤ 2000
  · rw [if_pos q]; exact Int.le_refl _
  · rw [if_neg q]; rw [w_le, e] at q; rw [e1]; omega
/-- what a node of the reference is when it is made -/
def nE (G : GD) (T : TD) (o a b : Nat) (f0 f : ctF) (D : Nat → Option Nat) : Prop := (sameM T.N f0 f) ∧ (rowM T.N f D) ∧ (∃ rk S, ∀ g, g < 8 → rowOK G f T.N o a rk S 8 g)
theorem nE.same {G : GD} {T : TD} {o a b : Nat} {f0 f : ctF} {D : Nat → Option Nat} (h : nE G T o a b f0 f D) : sameM T.N f0 f := h.1
theorem nE.row {G : GD} {T : TD} {o a b : Nat} {f0 f : ctF} {D : Nat → Option Nat} (h : nE G T o a b f0 f D) : rowM T.N f D := h.2.1
theorem nE.cho {G : GD} {T : TD} {o a b : Nat} {f0 f : ctF} {D : Nat → Option Nat} (h : nE G T o a b f0 f D) : ∃ rk S, ∀ g, g < 8 → rowOK G f T.N o a rk S 8 g := h.2.2
theorem wm_nodeLoop {post : Int32 → ctN → ctF → Prop} {n : ctN} {f f0 : ctF} {G : GD} {T : TD} {o a b : Nat} {D : Nat → Option Nat} (hG : G.ok) (hT : T.ok G) (hM : gM G n f0) (hA : aM G T o a b f0) (hN : n 6 = nI T.N) (hN' : T.N < 120) (ho : o < G.O) (ha : 1 ≤ G.k o → a < T.N) (hb : 2 ≤ G.k o → b < T.N)
    (hsz : ∀ v g, v < T.N → g < 8 → szOK (f0 30 (8 * v + g)))
    (hs : sameM T.N f0 f) (hr : rowM T.N f D) (hbd : bndC D) (hnon : ∀ g, g < 8 → f 29 (8 * T.N + g) = -1 ∧ f 30 (8 * T.N + g) = -1) (hS : flagM f (fun _ => false))
    (h : ∀ f', nE G T o a b f0 f' D → post (nI T.N) (va_up n 6 (nI (T.N + 1))) f') : ∃ j, wp_M_node_L236 post j 1 n f := by
  have loop : ∀ (d : Nat) (f : ctF) (S : Nat → Bool) (rk : Nat → Nat), q_cS S + d = 8 → sameM T.N f0 f → rowM T.N f D → flagM f S → (∀ g, g < 8 → rowOK G f T.N o a rk S (q_cS S) g) → wp_M_node_L236 post (d + 2) 1 n f := by
    intro d
    induction d with
    | zero =>
      intro f S rk hd hs hr hS hk
      rw [wp_M_node_L236, hN]
      refine ⟨fun z => absurd z (by decide), fun _ => ?_⟩
      refine wm_settle hG hT (hM.same hs) (hA.same hs) hN' ho ha hb hr hbd hS (fun _ => ?_) (fun m r hb2 => ?_)
      · rw [wp_M_node_L236, hN]
        refine ⟨fun _ => ?_, fun z => absurd rfl z⟩
        rintro _ rfl
        rw [va_up_self, nI_1, nI_s1]
        exact h f ⟨hs, hr, rk, S, fun g hg => by have := hk g hg; rwa [show q_cS S = 8 by omega] at this⟩
      · exfalso
        obtain ⟨hm, hsm, -⟩ := hb2
        have := cS_up hm hsm
        have := cS_le (va_up S m true)
        omega
    | succ d ih =>
      intro f S rk hd hs hr hS hk
      rw [wp_M_node_L236, hN]
      refine ⟨fun z => absurd z (by decide), fun _ => ?_⟩
      refine wm_settle hG hT (hM.same hs) (hA.same hs) hN' ho ha hb hr hbd hS (fun _ => ?_) (fun m r hb2 => ?_)
      · rw [wp_M_node_L236, hN]
        refine ⟨fun _ => ?_, fun z => absurd rfl z⟩
        rintro _ rfl
        rw [va_up_self, nI_1, nI_s1]
        refine h f ⟨hs, hr, rk, S, fun g hg => ⟨(hk g hg).1, fun z => ?_⟩⟩
        obtain ⟨w1, w2⟩ := (hk g hg).2 z
        exact ⟨by have := cS_le S; omega, w2⟩
      · obtain ⟨hm, hsm, hrl, -⟩ := hb2
        obtain ⟨hrR, hcase⟩ := rl_ok hrl
        obtain ⟨q1, q2, q3, q4, q5⟩ := hG.ru r hrR
        have hcu := cS_up hm hsm
        have a29 : setS G f T.N a b m r 29 = upd (f 29) (8 * T.N + m) (nI r) := by unfold setS; rw [va_up_ne _ _ (by decide), va_up_self]
        have a30 : setS G f T.N a b m r 30 = upd (f 30) (8 * T.N + m) (capS (rawS G (f 30) T.N a b r)) := by unfold setS; rw [va_up_self]
        have a31 : setS G f T.N a b m r 31 = upd (f 31) m 1 := by unfold setS; rw [va_up_ne _ _ (by decide), va_up_ne _ _ (by decide), va_up_self]
        have ao : ∀ k, k ≠ 29 → k ≠ 30 → k ≠ 31 → setS G f T.N a b m r k = f k := fun k z1 z2 z3 => by unfold setS; rw [va_up_ne _ _ z2, va_up_ne _ _ z1, va_up_ne _ _ z3]
        have szlow : ∀ v g, v < T.N → g < 8 → szOK (f 30 (8 * v + g)) := fun v g hv hg => by
          rw [(hs.2 (8 * v + g) (by omega)).2.2]; exact hsz v g hv hg
        have hop : ∀ o', G.op r = some o' → o' = o := by
          intro o' e
          have hok : okR G (prG G T o a b) D m r := by
            rcases hcase with z2 | z2
            · exact z2.1
            · exact z2.1
          obtain ⟨-, y, hy, -⟩ := hok
          have hch : chG G r = false := by unfold chG; rw [e]
          unfold byR at hy
          rw [if_neg (by rw [hch]; decide)] at hy
          unfold prG at hy
          by_cases c : G.op r = some o
          · rw [e] at c; exact Option.some.inj c
          · rw [if_neg c] at hy; cases hy
        have hraw : -1 ≤ (rawS G (f 30) T.N a b r).toInt := by
          unfold rawS
          cases e : G.op r with
          | none =>
            have hsz2 : szOK (f 30 (8 * T.N + G.g1 r)) := by
              cases w : S (G.g1 r) with
              | false => rw [((hk _ q3).1 w).2]; exact sz_m1
              | true => exact ((hk _ q3).2 w).2.1
            have := (sz_1 hsz2).1
            show -1 ≤ (1 + f 30 (8 * T.N + G.g1 r)).toInt
            omega
          | some o' =>
            have e2 := hop o' e
            subst e2
            show -1 ≤ (if G.k o' ≤ 0 then (1 : Int32) else if G.k o' ≤ 1 then 1 + f 30 (8 * a + G.g1 r) else 1 + f 30 (8 * a + G.g1 r) + f 30 (8 * b + G.g2 r)).toInt
            by_cases c0 : G.k o' ≤ 0
            · rw [if_pos c0, ia_1]; omega
            · have s1 := sz_1 (szlow a (G.g1 r) (ha (by omega)) q3)
              by_cases c1 : G.k o' ≤ 1
              · rw [if_neg c0, if_pos c1]; omega
              · rw [if_neg c0, if_neg c1]
                exact sz_2 s1.1 s1.2 (szlow b (G.g2 r) (hb (by omega)) q4)
        refine ih (setS G f T.N a b m r) (va_up S m true) (va_up rk m (q_cS S)) (by omega) (hs.tr ⟨fun k z1 z2 z3 z4 => ao k z2 z3 z4, fun j hj => ⟨by rw [ao 28 (by decide) (by decide) (by decide)], by rw [a29, upd_ne _ _ (by omega)], by rw [a30, upd_ne _ _ (by omega)]⟩⟩) (fun g hg => by rw [ao 28 (by decide) (by decide) (by decide)]; exact hr g hg) (fun g hg => ?_) (fun g hg => ?_)
        · rw [a31]
          by_cases e : g = m
          · subst e; rw [upd_self, va_up_self]; rfl
          · rw [upd_ne _ _ e, va_up_ne _ _ e]; exact hS g hg
        · unfold rowOK
          rw [a29, a30, hcu]
          by_cases e : g = m
          · subst e
            rw [va_up_self, va_up_self, upd_self, upd_self]
            refine ⟨(fun z => nomatch z), fun _ => ⟨by omega, cap_ok hraw, r, hrR, rfl, fun z => ?_, fun o' z => ⟨hop o' z, fun z0 => ?_, fun z1 => ?_⟩⟩⟩
            · have hH : S (G.g1 r) = true := by
                rcases hcase with w | w
                · have := w.2; unfold chG at this; rw [z] at this; cases this
                · exact w.2.2
              have hne : G.g1 r ≠ g := fun q => by rw [q, hsm] at hH; cases hH
              rw [va_up_ne _ _ hne, va_up_ne _ _ hne]
              exact ⟨hH, ((hk _ q3).2 hH).1⟩
            · have e2 := hop o' z
              subst e2
              have : rawS G (f 30) T.N a b r = 1 := by
                unfold rawS; rw [z]
                show (if G.k o' ≤ 0 then (1 : Int32) else _) = 1
                exact if_pos (by omega)
              rw [this]; decide
            · have e2 := hop o' z
              subst e2
              have haN := ha (by omega)
              have er : rawS G (f 30) T.N a b r = 1 + f 30 (8 * a + G.g1 r) := by
                unfold rawS; rw [z]
                show (if G.k o' ≤ 0 then (1 : Int32) else if G.k o' ≤ 1 then 1 + f 30 (8 * a + G.g1 r) else 1 + f 30 (8 * a + G.g1 r) + f 30 (8 * b + G.g2 r)) = _
                rw [if_neg (by omega), if_pos (by omega)]
              have hs1 := szlow a (G.g1 r) haN q3
              have := cap_le (x := 1 + f 30 (8 * a + G.g1 r))
              rw [upd_ne _ _ (by omega), er]
              rw [ia_add (by rw [ia_1]; omega) (by rw [ia_1]; omega) (by have := hs1.1; omega) (by have := hs1.2; omega), ia_1] at this
              exact this
          · rw [va_up_ne _ _ e, va_up_ne _ _ e, upd_ne _ _ (by omega), upd_ne _ _ (by omega)]
            refine ⟨(hk g hg).1, fun z => ?_⟩
            obtain ⟨w1, w2, r2, w3, w4, w5, w6⟩ := (hk g hg).2 z
            refine ⟨by omega, w2, r2, w3, w4, fun z2 => ?_, fun o' z2 => ⟨(w6 o' z2).1, (w6 o' z2).2.1, fun z3 => ?_⟩⟩
            · obtain ⟨v1, v2⟩ := w5 z2
              have hne : G.g1 r2 ≠ m := fun q => by rw [q, hsm] at v1; cases v1
              rw [va_up_ne _ _ hne, va_up_ne _ _ hne]
              exact ⟨v1, v2⟩
            · have haN := ha (by omega)
              have := (hG.ru r2 w3).2.2.1
              rw [upd_ne _ _ (by omega)]
              exact (w6 o' z2).2.2 z3
  refine ⟨8 + 2, loop 8 f (fun _ => false) (fun _ => 0) rfl hs hr hS (fun g hg => ⟨fun _ => hnon g hg, (fun z => nomatch z)⟩)⟩
/-- too dear as some goal below m -/
def dearTo (D : Nat → Option Nat) (m : Nat) : Prop := ∃ g x, g < m ∧ D g = some x ∧ 1000000 < x
theorem wm_nodeGreat {post : Int32 → ctN → ctF → Prop} {n : ctN} {f f0 : ctF} {G : GD} {T : TD} {o a b : Nat} {D : Nat → Option Nat} (hG : G.ok) (hT : T.ok G) (hM : gM G n f0) (hA : aM G T o a b f0) (hN : n 6 = nI T.N) (hN' : T.N < 120) (ho : o < G.O) (ha : 1 ≤ G.k o → a < T.N) (hb : 2 ≤ G.k o → b < T.N)
    (hsz : ∀ v g, v < T.N → g < 8 → szOK (f0 30 (8 * v + g)))
    (hE : mE G (prG G T o a b) T.N f0 f D)
    (h1 : dearTo D 8 → ∀ f', sameM T.N f0 f' → post 0 (va_up n 3 2) f')
    (h0 : ¬ dearTo D 8 → ∀ f', nE G T o a b f0 f' D → post (nI T.N) (va_up (va_up n 3 0) 6 (nI (T.N + 1))) f') : ∃ j, wp_M_node_L167 post j 0 0 n f := by
  have e8 : (8 : Int32) = nI 8 := ix_8
  have em : (1000000 : Int32) = nI 1000000 := by decide
  have loop : ∀ (d m : Nat) (f1 : ctF) (x7 : Int32), 8 = m + d → sameM T.N f0 f1 → f1 28 = f 28 → f1 29 = f 29 → f1 30 = f 30 → (∀ g, g < m → f1 31 g = 0) → ((x7 = 0 ∧ ¬ dearTo D m) ∨ (x7 = 1 ∧ dearTo D m)) → wp_M_node_L167 post (d + 1) x7 (nI m) n f1 := by
    intro d
    induction d with
    | zero =>
      intro m f1 x7 hd hs s28 s29 s30 hfl hx
      have e : m = 8 := by omega
      subst e
      rw [wp_M_node_L167]
      refine ⟨fun _ => ?_, fun z => absurd (by rw [e8]; exact nI_le (Nat.le_refl 8) (by decide)) z⟩
      rcases hx with ⟨rfl, hx⟩ | ⟨rfl, hx⟩
      · refine wm_refuse (fun z => absurd rfl z) (fun _ z => absurd rfl z) (fun _ _ z => absurd rfl z) (fun _ _ _ => ⟨fun _ => ?_, fun z => absurd rfl z⟩)
        have n4 : va_up n 3 0 4 = n 4 := va_up_ne _ _ (by decide)
        have n5 : va_up n 3 0 5 = n 5 := va_up_ne _ _ (by decide)
        exact wm_nodeLoop hG hT (hM.up n4 n5 (fun _ _ _ => rfl)) hA (by rw [va_up_ne _ _ (by decide)]; exact hN) hN' ho ha hb hsz hs (fun g hg => by rw [s28]; exact hE.row g hg) hE.bnd (fun g hg => by rw [s29, s30]; exact hE.non g hg) (fun g hg => hfl g hg) (fun f' hf' => h0 hx f' hf')
      · refine wm_refuse (fun z => absurd rfl z) (fun _ _ => ⟨fun z => absurd z (by decide), fun _ => h1 hx f1 hs⟩) (fun _ z => absurd z (by decide)) (fun _ z => absurd z (by decide))
    | succ d ih =>
      intro m f1 x7 hd hs s28 s29 s30 hfl hx
      have hm : m < 8 := by omega
      have hmc : (nI m).toNatClampNeg = m := nI_clamp (by omega)
      have hmi : vp_in (nI m) 8 := vp_in_nI hm (by decide)
      have nx : ∀ (f2 : ctF) (x : Int32), f2 = va_up f1 31 (upd (f1 31) m 0) → ((x = 0 ∧ ¬ dearTo D (m + 1)) ∨ (x = 1 ∧ dearTo D (m + 1))) → wp_M_node_L167 post (d + 1) x (nI (m + 1)) n f2 := by
        intro f2 x hf2 hx2
        have a31 : f2 31 = upd (f1 31) m 0 := by rw [hf2, va_up_self]
        have ao : ∀ k, k ≠ 31 → f2 k = f1 k := fun k hk => by rw [hf2, va_up_ne _ _ hk]
        refine ih (m + 1) f2 x (by omega) (hs.tr ⟨fun k _ _ _ z => ao k z, fun j _ => ⟨by rw [ao 28 (by decide)], by rw [ao 29 (by decide)], by rw [ao 30 (by decide)]⟩⟩) (by rw [ao 28 (by decide), s28]) (by rw [ao 29 (by decide), s29]) (by rw [ao 30 (by decide), s30]) (fun g hg => ?_) hx2
        rw [a31]
        by_cases e : g = m
        · subst e; rw [upd_self]
        · rw [upd_ne _ _ e]; exact hfl g (by omega)
      rw [wp_M_node_L167, hmc, nar0, nI_1]
      refine ⟨fun z => absurd z (by rw [e8]; exact nI_ge hm (by decide)), fun _ => ⟨fun z => ⟨hmi, ?_⟩, fun z => ?_⟩⟩
      · rintro f2 hf2 _ rfl
        rcases hx with ⟨rfl, -⟩ | ⟨-, g, x, hg, hgx⟩
        · exact absurd rfl z
        · exact nx f2 1 hf2 (Or.inr ⟨rfl, g, x, by omega, hgx⟩)
      · rcases hx with ⟨-, hx⟩ | ⟨rfl, -⟩
        · rw [hN, ix_m, ix_cl hN' hm, s28, hE.row m hm, em]
          have hlt : ∀ x, D m = some x → x < 2 ^ 31 := fun x hx => by have := bnd_lt hE.bnd hx; omega
          refine ⟨ix_in hN' hm, fun w => ⟨hmi, ?_⟩, fun w => ⟨hmi, ?_⟩⟩
          · rintro f2 hf2 _ rfl
            refine nx f2 0 hf2 (Or.inl ⟨rfl, fun ⟨g, x, hg, hc, hgt⟩ => ?_⟩)
            by_cases e : g = m
            · subst e
              rw [hc] at w
              have := (nI_leI (hlt x hc) (by decide)).mp w
              omega
            · exact hx ⟨g, x, by omega, hc, hgt⟩
          · rintro f2 hf2 _ rfl
            refine nx f2 1 hf2 (Or.inr ⟨rfl, ?_⟩)
            cases hc : D m with
            | none => rw [hc, en_n] at w; exact absurd (by decide) w
            | some x =>
              rw [hc, en_s] at w
              refine ⟨m, x, by omega, hc, ?_⟩
              rcases Nat.lt_or_ge 1000000 x with v | v
              · exact v
              · exact absurd ((nI_leI (hlt x hc) (by decide)).mpr v) w
        · exact absurd z (by decide)
  have q := loop 8 0 f 0 (by omega) hE.same rfl rfl rfl (fun g hg => absurd hg (Nat.not_lt_zero _)) (Or.inl ⟨rfl, fun ⟨g, x, hg, _⟩ => absurd hg (Nat.not_lt_zero _)⟩)
  rw [nI_0] at q
  exact ⟨9, q⟩
end
section
/-! the reference's find, like, states: they end -/
def tM (G : GD) (T : TD) (n : ctN) (f : ctF) : Prop := (n 6 = nI T.N) ∧ (∀ v, v < T.N → f 25 v = nI (T.kd v) ∧ f 26 v = nI (T.u1 v) ∧ f 27 v = nI (T.u2 v)) ∧ (∀ v g, v < T.N → g < 8 → f 28 (8 * v + g) = en (T.C v g)) ∧ (∃ (rk : Nat → Nat → Nat) (S : Nat → Nat → Bool), ∀ v g, v < T.N → g < 8 → rowOK G f v (T.kd v) (T.u1 v) (rk v) (S v) 8 g)
theorem tM.nN {G : GD} {T : TD} {n : ctN} {f : ctF} (h : tM G T n f) : n 6 = nI T.N := h.1
theorem tM.nd {G : GD} {T : TD} {n : ctN} {f : ctF} (h : tM G T n f) : ∀ v, v < T.N → f 25 v = nI (T.kd v) ∧ f 26 v = nI (T.u1 v) ∧ f 27 v = nI (T.u2 v) := h.2.1
theorem tM.co {G : GD} {T : TD} {n : ctN} {f : ctF} (h : tM G T n f) : ∀ v g, v < T.N → g < 8 → f 28 (8 * v + g) = en (T.C v g) := h.2.2.1
theorem tM.ch {G : GD} {T : TD} {n : ctN} {f : ctF} (h : tM G T n f) : ∃ (rk : Nat → Nat → Nat) (S : Nat → Nat → Bool), ∀ v g, v < T.N → g < 8 → rowOK G f v (T.kd v) (T.u1 v) (rk v) (S v) 8 g := h.2.2.2
theorem rowOK.sz {G : GD} {f : ctF} {v o a : Nat} {rk : Nat → Nat} {S : Nat → Bool} {m g : Nat} (h : rowOK G f v o a rk S m g) : szOK (f 30 (8 * v + g)) := by
  cases w : S g with
  | false => rw [(h.1 w).2]; exact sz_m1
  | true => exact (h.2 w).2.1
theorem tM.sz {G : GD} {T : TD} {n : ctN} {f : ctF} (h : tM G T n f) {v g : Nat} (hv : v < T.N) (hg : g < 8) : szOK (f 30 (8 * v + g)) := by
  obtain ⟨rk, S, hk⟩ := h.ch
  exact (hk v g hv hg).sz
theorem wm_find {post : ctN → ctF → Prop} {n : ctN} {f : ctF} {G : GD} {T : TD} (hG : G.ok) (hT : T.ok G) (hM : gM G n f) (hD : tM G T n f) {v g q : Nat} (hv : v < T.N) (hg : g < 8) (hq : q ≤ 2001) (h : ∀ n', (∀ k, k ≠ 7 → k ≠ 8 → n' k = n k) → post n' f) : wp_M_find post (nI v) (nI g) (nI q) n f := by
  have hN120 := hT.N120
  have hR40 := hG.R40
  have hO10 := hG.O10
  obtain ⟨rk, S, hk⟩ := hD.ch
  have loop : ∀ (B v g q : Nat) (n' : ctN), v < T.N → g < 8 → n' 7 = nI v → 8 * v + (if S v g = true then rk v g else 0) < B → q + (8 * v + (if S v g = true then rk v g else 0)) ≤ 2961 → (∀ k, k ≠ 7 → k ≠ 8 → n' k = n k) → wp_M_find_L26 post B (nI g) (nI q) n' f := by
    intro B
    induction B with
    | zero => intro v g q n' _ _ _ z; exact absurd z (Nat.not_lt_zero _)
    | succ B ih =>
      intro v g q n' hv hg hn7 hB hq hn
      have hvc : (nI v).toNatClampNeg = v := nI_clamp (by omega)
      have hvi : vp_in (nI v) 120 := vp_in_nI (by omega) (by decide)
      have hx := ix_in (v := v) (g := g) (by omega) hg
      have hcl := ix_cl (v := v) (g := g) (by omega) hg
      have hq31 : q < 2 ^ 31 := by omega
      rw [wp_M_find_L26, hn7, ix_m, hcl]
      refine ⟨hx, fun _ => h n' hn, fun c => ⟨hx, ?_⟩⟩
      rintro _ rfl
      obtain ⟨k1, k2⟩ := hk v g hv hg
      obtain ⟨nd1, nd2, nd3⟩ := hD.nd v hv
      obtain ⟨m1, m2, m3, m4⟩ := hT.nd v hv
      have J : ∀ (v2 g2 q2 : Nat) (n2 : ctN), v2 < T.N → g2 < 8 → n2 7 = nI v2 → 8 * v2 + (if S v2 g2 = true then rk v2 g2 else 0) < B → q2 + (8 * v2 + (if S v2 g2 = true then rk v2 g2 else 0)) ≤ 2961 → (∀ k, k ≠ 7 → k ≠ 8 → n2 k = n k) → wp_M_find_J175 post (wp_M_find_L26 post B) (nI g2) (nI q2) n2 f := by
        intro v2 g2 q2 n2 a1 a2 a3 a4 a5 a6
        unfold wp_M_find_J175
        rw [a3, ix_m]
        refine ⟨ix_in (by omega) a2, ?_⟩
        rintro _ rfl
        exact ih v2 g2 q2 _ a1 a2 (by rw [va_up_ne _ _ (by decide)]; exact a3) a4 a5 (fun k z1 z2 => by rw [va_up_ne _ _ z2]; exact a6 k z1 z2)
      cases hs : S v g with
      | false =>
        exfalso
        apply c
        rw [(k1 hs).2, w_le, nI_toInt hq31]
        have : ((-1 : Int32) - 1).toInt = -2 := by decide
        omega
      | true =>
        rw [if_pos hs] at hB hq
        obtain ⟨w1, w2, r, hr, h29, w5, w6⟩ := k2 hs
        have hrc : (nI r).toNatClampNeg = r := nI_clamp (by omega)
        have hri : vp_in (nI r) 40 := vp_in_nI (by omega) (by decide)
        obtain ⟨q1, q2, q3, q4, q5⟩ := hG.ru r hr
        obtain ⟨r20, r21, r22, r23, rb⟩ := hM.ru r hr
        have c' : (q : Int) + 1 < (f 30 (8 * v + g)).toInt := by
          rw [w_le, nI_toInt hq31, ia_sub (by have := w2.1; omega) (by have := w2.2; omega) (by rw [ia_1]; omega) (by rw [ia_1]; omega), ia_1] at c
          omega
        rw [h29, hrc, r22, hvc]
        have lt8 : ∀ v2 g2, v2 < T.N → g2 < 8 → (if S v2 g2 = true then rk v2 g2 else 0) < 8 := by
          intro v2 g2 a1 a2
          by_cases z : S v2 g2 = true
          · rw [if_pos z]; exact ((hk v2 g2 a1 a2).2 z).1
          · rw [if_neg z]; decide
        refine ⟨hri, fun z => ⟨hvi, hri, ?_⟩, fun z => ⟨hri, ?_⟩⟩
        · obtain ⟨o', e⟩ : ∃ o', G.op r = some o' := by
            cases e : G.op r with
            | none => rw [e] at z; exact absurd z (by decide)
            | some o' => exact ⟨o', rfl⟩
          obtain ⟨e1, e2, e3⟩ := w6 o' e
          subst e1
          have hk0 : 1 ≤ G.k (T.kd v) := by
            rcases Nat.eq_zero_or_pos (G.k (T.kd v)) with z0 | z0
            · rw [e2 z0, ia_1] at c'; omega
            · exact z0
          obtain ⟨m5, m6⟩ := m4 hk0
          have hsz := (hk (T.u1 v) (G.g1 r) (by omega) q3).sz
          have hsz1 := hsz.1
          have hsz2 := hsz.2
          have l1 := lt8 (T.u1 v) (G.g1 r) (by omega) q3
          rw [nd2, (rb _ e).1 hk0, ix_m, ix_cl (by omega) q3]
          refine ⟨ix_in (by omega) q3, ?_⟩
          rintro _ rfl
          refine ⟨fun y => ?_, fun y => ⟨hvi, ?_⟩⟩
          · rw [w_le, nI_toInt hq31] at y
            have hk2 : 2 ≤ G.k (T.kd v) := by
              rcases Nat.lt_or_ge (G.k (T.kd v)) 2 with z1 | z1
              · have := e3 (by omega); omega
              · exact z1
            have l2 := lt8 (T.u2 v) (G.g2 r) (by omega) q4
            rintro _ rfl
            refine ⟨hvi, ?_⟩
            rw [nd3]
            rintro _ rfl
            refine ⟨hri, ?_⟩
            rw [(rb _ e).2 hk2]
            rintro _ rfl
            have hsub : nI q - f 30 (8 * T.u1 v + G.g1 r) = nI ((q : Int) - (f 30 (8 * T.u1 v + G.g1 r)).toInt).toNat := by
              apply Int32.toInt_inj.mp
              rw [ia_sub (by rw [nI_toInt hq31]; omega) (by rw [nI_toInt hq31]; omega) (by omega) (by omega), nI_toInt hq31, nI_toInt (by omega)]
              omega
            rw [hsub]
            exact J (T.u2 v) (G.g2 r) _ _ (by omega) q4 (va_up_self _ _ _) (by omega) (by omega) (fun k z1 z2 => by rw [va_up_ne _ _ z1]; exact hn k z1 z2)
          · rintro _ rfl
            refine ⟨hri, ?_⟩
            rintro _ rfl
            exact J (T.u1 v) (G.g1 r) q _ (by omega) q3 (va_up_self _ _ _) (by omega) (by omega) (fun k z1 z2 => by rw [va_up_ne _ _ z1]; exact hn k z1 z2)
        · have e : G.op r = none := by
            cases e : G.op r with
            | none => rfl
            | some o' => rw [e] at z; exact absurd (nI_pos' (by have := q5 o' e; omega)) z
          obtain ⟨v1, v2⟩ := w5 e
          rw [r23 e]
          rintro _ rfl
          exact J v (G.g1 r) q n' hv q3 hn7 (by rw [if_pos v1]; omega) (by rw [if_pos v1]; omega) hn
  unfold wp_M_find
  rintro _ rfl
  rw [ix_m]
  refine ⟨ix_in (by omega) hg, ?_⟩
  rintro _ rfl
  have l1 : (if S v g = true then rk v g else 0) < 8 := by
    by_cases z : S v g = true
    · rw [if_pos z]; exact ((hk v g hv hg).2 z).1
    · rw [if_neg z]; decide
  exact ⟨961, loop 961 v g q _ hv hg (by rw [va_up_ne _ _ (by decide), va_up_self]) (by omega) (by omega) (fun k z1 z2 => by rw [va_up_ne _ _ z2, va_up_ne _ _ z1])⟩
theorem wm_leastCost (f : ctF) {v : Nat} (hv : v < 120) : ∃ L, ∀ (post : Int32 → ctN → ctF → Prop) (n : ctN), post L n f → wp_M_leastCost post (nI v) n f := by
  have e8 : (8 : Int32) = nI 8 := ix_8
  have loop : ∀ (d m : Nat) (x2 : Int32), 8 = m + d → ∃ L, ∀ (post : Int32 → ctN → ctF → Prop) (n : ctN), post L n f → wp_M_leastCost_L4 post (d + 1) (nI v) x2 (nI m) n f := by
    intro d
    induction d with
    | zero =>
      intro m x2 hd
      have e : m = 8 := by omega
      subst e
      refine ⟨x2, fun post n h => ?_⟩
      rw [wp_M_leastCost_L4]
      exact ⟨fun _ => h, fun z => absurd (by rw [e8]; exact nI_le (Nat.le_refl 8) (by decide)) z⟩
    | succ d ih =>
      intro m x2 hd
      have hm : m < 8 := by omega
      obtain ⟨L, hL⟩ := ih (m + 1) (if f 28 (8 * v + m) < 0 then x2 else if x2 < 0 then f 28 (8 * v + m) else if x2 ≤ f 28 (8 * v + m) then x2 else f 28 (8 * v + m)) (by omega)
      refine ⟨L, fun post n h => ?_⟩
      have h2 := hL post n h
      rw [wp_M_leastCost_L4, ix_m, ix_cl hv hm, nI_1]
      refine ⟨fun z => absurd z (by rw [e8]; exact nI_ge hm (by decide)), fun _ => ⟨ix_in hv hm, ?_⟩⟩
      rintro _ rfl
      refine ⟨fun a => ?_, fun a => ⟨fun b => ?_, fun b => ⟨fun c => ?_, fun c => ?_⟩⟩⟩
      · rintro _ rfl; rw [if_pos a] at h2; exact h2
      · rintro _ rfl; rw [if_neg a, if_pos b] at h2; exact h2
      · rintro _ rfl; rw [if_neg a, if_neg b, if_pos c] at h2; exact h2
      · rintro _ rfl; rw [if_neg a, if_neg b, if_neg c] at h2; exact h2
  obtain ⟨L, hL⟩ := loop 8 0 (-1) (by omega)
  refine ⟨L, fun post n h => ?_⟩
  unfold wp_M_leastCost
  refine ⟨9, ?_⟩
  have q := hL post n h
  rw [nI_0] at q
  exact q
theorem wm_isAlike (f : ctF) {v w : Nat} (hv : v < 120) (hw : w < 120) : ∃ r : Int32, (r = 0 ∨ r = 1) ∧ (v = w → r = 1) ∧ ∀ (post : Int32 → ctN → ctF → Prop) (n : ctN), post r n f → wp_M_isAlike post (nI v) (nI w) n f := by
  have e8 : (8 : Int32) = nI 8 := ix_8
  obtain ⟨L1, hL1⟩ := wm_leastCost f hv
  obtain ⟨L2, hL2⟩ : ∃ L, (v = w → L = L1) ∧ ∀ (post : Int32 → ctN → ctF → Prop) (n : ctN), post L n f → wp_M_leastCost post (nI w) n f := by
    by_cases e : v = w
    · subst e; exact ⟨L1, fun _ => rfl, hL1⟩
    · obtain ⟨L, hL⟩ := wm_leastCost f hw
      exact ⟨L, fun z => absurd z e, hL⟩
  have loop : ∀ (d m : Nat) (x3 : Int32), 8 = m + d → (x3 = 0 ∨ x3 = 1) → ∃ r : Int32, (r = 0 ∨ r = 1) ∧ (v = w → x3 = 1 → r = 1) ∧ ∀ (post : Int32 → ctN → ctF → Prop) (n : ctN), post r n f → wp_M_isAlike_L19 post (d + 1) (nI v) (nI w) x3 L1 L2 (nI m) n f := by
    intro d
    induction d with
    | zero =>
      intro m x3 hd hx
      have e : m = 8 := by omega
      subst e
      refine ⟨x3, hx, fun _ z => z, fun post n h => ?_⟩
      rw [wp_M_isAlike_L19]
      refine ⟨fun _ => ⟨?_, h⟩, fun z => absurd (by rw [e8]; exact nI_le (Nat.le_refl 8) (by decide)) z⟩
      rcases hx with rfl | rfl
      · rfl
      · rfl
    | succ d ih =>
      intro m x3 hd hx
      have hm : m < 8 := by omega
      have key : ∀ y : Int32, (y = 0 ∨ y = 1) → (v = w → x3 = 1 → y = 1) → (∀ (post : Int32 → ctN → ctF → Prop) (n : ctN), wp_M_isAlike_L19 post (d + 1) (nI v) (nI w) y L1 L2 (nI (m + 1)) n f → wp_M_isAlike_L19 post (d + 1 + 1) (nI v) (nI w) x3 L1 L2 (nI m) n f) → ∃ r : Int32, (r = 0 ∨ r = 1) ∧ (v = w → x3 = 1 → r = 1) ∧ ∀ (post : Int32 → ctN → ctF → Prop) (n : ctN), post r n f → wp_M_isAlike_L19 post (d + 1 + 1) (nI v) (nI w) x3 L1 L2 (nI m) n f := by
        intro y hy hyw hstep
        obtain ⟨r, h1, h2, h3⟩ := ih (m + 1) y (by omega) hy
        exact ⟨r, h1, fun a b => h2 a (hyw a b), fun post n h => hstep post n (h3 post n h)⟩
      have un : ∀ (post : Int32 → ctN → ctF → Prop) (n : ctN), ((x3 = 0 → (∀ x6_13 : Int32, x6_13 = nI (m + 1) → (wp_M_isAlike_L19 post (d + 1) (nI v) (nI w) 0 L1 L2 x6_13 n f))) ∧ (¬ x3 = 0 → ((f 28 (8 * v + m) < 0 → (wp_M_isAlike_J68 post (wp_M_isAlike_L19 post (d + 1)) (nI v) (nI w) L1 L2 (nI m) (f 28 (8 * v + m)) (f 28 (8 * w + m)) 0 n f)) ∧ (¬ f 28 (8 * v + m) < 0 → (wp_M_isAlike_J68 post (wp_M_isAlike_L19 post (d + 1)) (nI v) (nI w) L1 L2 (nI m) (f 28 (8 * v + m)) (f 28 (8 * w + m)) 1 n f))))) → wp_M_isAlike_L19 post (d + 1 + 1) (nI v) (nI w) x3 L1 L2 (nI m) n f := by
        intro post n h
        rw [wp_M_isAlike_L19, ix_m, ix_m, ix_cl hv hm, ix_cl hw hm, nI_1]
        refine ⟨fun z => absurd z (by rw [e8]; exact nI_ge hm (by decide)), fun _ => ⟨ix_in hv hm, ?_⟩⟩
        rintro _ rfl
        refine ⟨ix_in hw hm, ?_⟩
        rintro _ rfl
        exact h
      by_cases hx0 : x3 = 0
      · refine key 0 (Or.inl rfl) (fun _ z => by rw [hx0] at z; exact absurd z (by decide)) (fun post n h => un post n ⟨fun _ => ?_, fun z => absurd hx0 z⟩)
        rintro _ rfl
        exact h
      · have tail : ∀ (s0 s1 : Int32) (post : Int32 → ctN → ctF → Prop) (n : ctN) , wp_M_isAlike_L19 post (d + 1) (nI v) (nI w) (if s1 = s0 ∧ (f 28 (8 * v + m) < 0 ∨ (f 28 (8 * v + m) - L1 = f 28 (8 * w + m) - L2 ∧ f 29 (8 * v + m) = f 29 (8 * w + m))) then 1 else 0) L1 L2 (nI (m + 1)) n f → wp_M_isAlike_J78 post (wp_M_isAlike_L19 post (d + 1)) (nI v) (nI w) L1 L2 (nI m) (f 28 (8 * v + m)) (f 28 (8 * w + m)) s0 s1 n f := by
          intro s0 s1 post n h
          unfold wp_M_isAlike_J78
          rw [ix_m, ix_m, ix_cl hv hm, ix_cl hw hm, nI_1]
          refine ⟨fun a => ?_, fun a => ⟨fun b => ?_, fun b => ⟨fun c => ?_, fun c => ⟨ix_in hv hm, ix_in hw hm, fun e => ?_, fun e => ?_⟩⟩⟩⟩
          · rintro _ rfl; rw [if_neg (fun z => a z.1)] at h; exact h
          · rintro _ rfl; rw [if_pos ⟨a, Or.inl b⟩] at h; exact h
          · rintro _ rfl; rw [if_neg (fun z => z.2.elim b (fun y => c y.1))] at h; exact h
          · rintro _ rfl; rw [if_neg (fun z => z.2.elim b (fun y => e y.2))] at h; exact h
          · rintro _ rfl; rw [if_pos ⟨a, Or.inr ⟨c, e⟩⟩] at h; exact h
        have s : ∀ x : Int32, ∃ t : Int32, t = if x < 0 then 0 else 1 := fun x => ⟨_, rfl⟩
        obtain ⟨s1, hs1⟩ := s (f 28 (8 * v + m))
        obtain ⟨s0, hs0⟩ := s (f 28 (8 * w + m))
        refine key (if s1 = s0 ∧ (f 28 (8 * v + m) < 0 ∨ (f 28 (8 * v + m) - L1 = f 28 (8 * w + m) - L2 ∧ f 29 (8 * v + m) = f 29 (8 * w + m))) then 1 else 0) ?_ (fun e _ => ?_) (fun post n h => un post n ⟨fun z => absurd z hx0, fun _ => ⟨fun a => ?_, fun a => ?_⟩⟩)
        · by_cases z : s1 = s0 ∧ (f 28 (8 * v + m) < 0 ∨ (f 28 (8 * v + m) - L1 = f 28 (8 * w + m) - L2 ∧ f 29 (8 * v + m) = f 29 (8 * w + m)))
          · rw [if_pos z]; exact Or.inr rfl
          · rw [if_neg z]; exact Or.inl rfl
        · have hL := hL2.1 e
          subst e
          rw [hL]
          exact if_pos ⟨hs1.trans hs0.symm, Or.inr ⟨rfl, rfl⟩⟩
        · unfold wp_M_isAlike_J68
          rw [if_pos a] at hs1
          subst hs1
          refine ⟨fun b => ?_, fun b => ?_⟩
          · rw [if_pos b] at hs0; subst hs0; exact tail _ _ post n h
          · rw [if_neg b] at hs0; subst hs0; exact tail _ _ post n h
        · unfold wp_M_isAlike_J68
          rw [if_neg a] at hs1
          subst hs1
          refine ⟨fun b => ?_, fun b => ?_⟩
          · rw [if_pos b] at hs0; subst hs0; exact tail _ _ post n h
          · rw [if_neg b] at hs0; subst hs0; exact tail _ _ post n h
  obtain ⟨r, h1, h2, h3⟩ := loop 8 0 1 (by omega) (Or.inr rfl)
  refine ⟨r, h1, fun e => h2 e rfl, fun post n h => ?_⟩
  unfold wp_M_isAlike
  refine hL1 _ n (hL2.2 _ n ⟨9, ?_⟩)
  have q := h3 post n h
  rw [nI_0] at q
  exact q
theorem wm_likeOf (f : ctF) {v : Nat} (hv : v < 120) : ∃ r, r ≤ v ∧ ∀ (post : Int32 → ctN → ctF → Prop) (n : ctN), post (nI r) n f → wp_M_likeOf post (nI v) n f := by
  have loop : ∀ (d m : Nat), v = m + d → ∃ r, r ≤ v ∧ ∀ (post : Int32 → ctN → ctF → Prop) (n : ctN), post (nI r) n f → wp_M_likeOf_L2 post (d + 1) (nI v) (nI m) n f := by
    intro d
    induction d with
    | zero =>
      intro m hd
      have e : m = v := by omega
      subst e
      refine ⟨m, Nat.le_refl _, fun post n h => ?_⟩
      rw [wp_M_likeOf_L2]
      obtain ⟨r, h1, h2, h3⟩ := wm_isAlike f hv hv
      refine h3 _ n ⟨fun _ => h, fun z => absurd (h2 rfl) (by rw [z]; decide)⟩
    | succ d ih =>
      intro m hd
      obtain ⟨r, h1, h2, h3⟩ := wm_isAlike f hv (w := m) (by omega)
      by_cases z : r = 0
      · obtain ⟨q, hq, h4⟩ := ih (m + 1) (by omega)
        refine ⟨q, hq, fun post n h => ?_⟩
        rw [wp_M_likeOf_L2]
        refine h3 _ n ⟨fun y => absurd z y, fun _ => ?_⟩
        rintro _ rfl
        rw [nI_1]
        exact h4 post n h
      · refine ⟨m, by omega, fun post n h => ?_⟩
        rw [wp_M_likeOf_L2]
        exact h3 _ n ⟨fun _ => h, fun y => absurd y z⟩
  obtain ⟨r, h1, h2⟩ := loop v 0 (by omega)
  refine ⟨r, h1, fun post n h => ?_⟩
  unfold wp_M_likeOf
  refine ⟨v + 1, ?_⟩
  have q := h2 post n h
  rw [nI_0] at q
  exact q
theorem wm_states {n : ctN} {f : ctF} {N : Nat} (hN : n 6 = nI N) (hN' : N ≤ 120) : ∃ c, ∀ (post : Int32 → ctN → ctF → Prop), post c (va_up n 3 0) f → wp_M_states post n f := by
  have hN2 : va_up n 3 0 6 = nI N := by rw [va_up_ne _ _ (by decide)]; exact hN
  have loop : ∀ (d m : Nat) (x : Int32), N = m + d → ∃ c, ∀ (post : Int32 → ctN → ctF → Prop), post c (va_up n 3 0) f → wp_M_states_L9 post (d + 1) x (nI m) (va_up n 3 0) f := by
    intro d
    induction d with
    | zero =>
      intro m x hd
      have e : m = N := by omega
      subst e
      refine ⟨x, fun post h => ?_⟩
      rw [wp_M_states_L9, hN2]
      exact ⟨fun _ => h, fun z => absurd (nI_le (Nat.le_refl m) (by omega)) z⟩
    | succ d ih =>
      intro m x hd
      obtain ⟨r, h1, h2⟩ := wm_likeOf f (v := m) (by omega)
      by_cases e : nI r = nI m
      · obtain ⟨c, hc⟩ := ih (m + 1) (x + 1) (by omega)
        refine ⟨c, fun post h => ?_⟩
        rw [wp_M_states_L9, hN2]
        refine ⟨fun z => absurd z (nI_ge (by omega) (by omega)), fun _ => h2 _ _ ⟨fun z => absurd e z, fun _ => ?_⟩⟩
        rintro _ rfl _ rfl
        rw [nI_1]
        exact hc post h
      · obtain ⟨c, hc⟩ := ih (m + 1) x (by omega)
        refine ⟨c, fun post h => ?_⟩
        rw [wp_M_states_L9, hN2]
        refine ⟨fun z => absurd z (nI_ge (by omega) (by omega)), fun _ => h2 _ _ ⟨fun _ => ?_, fun z => absurd z e⟩⟩
        rintro _ rfl
        rw [nI_1]
        exact hc post h
  obtain ⟨c, hc⟩ := loop N 0 0 (by omega)
  refine ⟨c, fun post h => ?_⟩
  unfold wp_M_states
  rintro _ rfl
  refine ⟨N + 1, ?_⟩
  have q := hc post h
  rw [nI_0] at q
  exact q
end
section
/-! what holds between two calls; the calls that ask -/
def badIx (x : Int32) (N : Nat) : Prop := x < 0 ∨ nI N ≤ x
theorem ix_or (x : Int32) {N : Nat} (hN : N < 2 ^ 31) : badIx x N ∨ ∃ j, j < N ∧ x = nI j := by
  rcases pk_ix x hN with h | h | h
  · exact Or.inl (Or.inl h)
  · exact Or.inl (Or.inr h)
  · exact Or.inr h
theorem lt_pred {N : Nat} {p : Int32} (hN : N ≤ 1000000) : nI N - 1 < p ↔ nI N ≤ p := by
  rw [w_lt, w_le, ia_sub (by rw [nI_toInt (by omega)]; omega) (by rw [nI_toInt (by omega)]; omega) (by rw [ia_1]; omega) (by rw [ia_1]; omega), nI_toInt (by omega), ia_1]
  omega
theorem ix_no {j N : Nat} (h : j < N) (hN : N < 2 ^ 31) : ¬ badIx (nI j) N := fun q => q.elim (nI_pos (by omega)) (nI_ge h hN)
theorem c_goal1 {post : Int32 → ctN → ctF → Prop} {n : ctN} {f : ctF} {g : Nat} (hg : g < 8) (h : post 1 n f) : wp_C_isGoal post (nI g) n f :=
  w_isGoal (fun _ _ => h) (fun q => absurd (by rw [ix_8] at q; exact q) (ix_no hg (by decide)))
theorem c_goal0 {post : Int32 → ctN → ctF → Prop} {n : ctN} {f : ctF} {p : Int32} (hp : badIx p 8) (h : post 0 n f) : wp_C_isGoal post p n f :=
  w_isGoal (fun a b => absurd (by rw [ix_8] at b; exact hp.elim a b) id) (fun _ => h)
theorem c_op1 {post : Int32 → ctN → ctF → Prop} {n : ctN} {f : ctF} {o O : Nat} (hO : n 0 = nI O) (hO' : O ≤ 10) (ho : o < O) (h : post 1 n f) : wp_G_hasOperator post (nI o) n f :=
  w_hasOperator (fun _ _ => h) (fun q => absurd (by rw [hO] at q; exact q) (ix_no ho (by omega)))
theorem c_op0 {post : Int32 → ctN → ctF → Prop} {n : ctN} {f : ctF} {O : Nat} {p : Int32} (hO : n 0 = nI O) (hp : badIx p O) (h : post 0 n f) : wp_G_hasOperator post p n f :=
  w_hasOperator (fun a b => absurd (by rw [hO] at b; exact hp.elim a b) id) (fun _ => h)
theorem c_has1 {post : Int32 → ctN → ctF → Prop} {n : ctN} {f : ctF} {v N : Nat} (hN : n 2 = nI N) (hN' : N ≤ 120) (hv : v < N) (h : post 1 n f) : wp_F_has post (nI v) n f :=
  w_has (fun _ _ => h) (fun q => absurd (by rw [hN] at q; exact q) (ix_no hv (by omega)))
theorem c_has0 {post : Int32 → ctN → ctF → Prop} {n : ctN} {f : ctF} {N : Nat} {p : Int32} (hN : n 2 = nI N) (hp : badIx p N) (h : post 0 n f) : wp_F_has post p n f :=
  w_has (fun a b => absurd (by rw [hN] at b; exact hp.elim a b) id) (fun _ => h)
theorem m_goal1 {post : Int32 → ctN → ctF → Prop} {n : ctN} {f : ctF} {g : Nat} (hg : g < 8) (h : post 1 n f) : wp_M_isGoal post (nI g) n f :=
  wm_isGoal (fun _ _ => h) (fun q => absurd (by rw [show (7 : Int32) = nI 8 - 1 by decide, lt_pred (by decide)] at q; exact q) (ix_no hg (by decide)))
theorem m_goal0 {post : Int32 → ctN → ctF → Prop} {n : ctN} {f : ctF} {p : Int32} (hp : badIx p 8) (h : post 0 n f) : wp_M_isGoal post p n f :=
  wm_isGoal (fun a b => absurd (by rw [show (7 : Int32) = nI 8 - 1 by decide, lt_pred (by decide)] at b; exact hp.elim a b) id) (fun _ => h)
theorem m_in1 {post : Int32 → ctN → ctF → Prop} {n : ctN} {f : ctF} {v N : Nat} {x : Int32} (hx : x = nI N) (hN' : N ≤ 120) (hv : v < N) (h : post 1 n f) : wp_M_in post (nI v) 0 (x - 1) n f :=
  wm_in (fun _ _ => h) (fun q => absurd (by rw [hx, lt_pred (by omega)] at q; exact q) (ix_no hv (by omega)))
theorem m_in0 {post : Int32 → ctN → ctF → Prop} {n : ctN} {f : ctF} {N : Nat} {p x : Int32} (hx : x = nI N) (hN' : N ≤ 120) (hp : badIx p N) (h : post 0 n f) : wp_M_in post p 0 (x - 1) n f :=
  wm_in (fun a b => absurd (by rw [hx, lt_pred (by omega)] at b; exact hp.elim a b) id) (fun _ => h)
theorem m_node1 {post : Int32 → ctN → ctF → Prop} {n : ctN} {f : ctF} {v N : Nat} (hx : n 6 = nI N) (hN' : N ≤ 120) (hv : v < N) (h : post 1 n f) : wp_M_isNode post (nI v) n f := by
  unfold wp_M_isNode
  exact m_in1 hx hN' hv ⟨rfl, h⟩
theorem m_node0 {post : Int32 → ctN → ctF → Prop} {n : ctN} {f : ctF} {N : Nat} {p : Int32} (hx : n 6 = nI N) (hN' : N ≤ 120) (hp : badIx p N) (h : post 0 n f) : wp_M_isNode post p n f := by
  unfold wp_M_isNode
  exact m_in0 hx hN' hp ⟨rfl, h⟩
theorem m_ask1 {post : Int32 → ctN → ctF → Prop} {n : ctN} {f : ctF} {v g N : Nat} (hx : n 6 = nI N) (hN' : N ≤ 120) (hv : v < N) (hg : g < 8) (h : post 1 n f) : wp_M_isAsked post (nI v) (nI g) n f := by
  unfold wp_M_isAsked
  exact m_node1 hx hN' hv ⟨fun q => absurd q (by decide), fun _ => m_goal1 hg ⟨fun q => absurd q (by decide), fun _ => h⟩⟩
theorem m_ask0 {post : Int32 → ctN → ctF → Prop} {n : ctN} {f : ctF} {N : Nat} {p q : Int32} (hx : n 6 = nI N) (hN' : N ≤ 120) (hb : badIx p N ∨ badIx q 8) (h : post 0 n f) : wp_M_isAsked post p q n f := by
  unfold wp_M_isAsked
  rcases ix_or p (N := N) (by omega) with hp | ⟨v, hv, rfl⟩
  · exact m_node0 hx hN' hp ⟨fun _ => h, fun z => absurd rfl z⟩
  · refine m_node1 hx hN' hv ⟨fun z => absurd z (by decide), fun _ => m_goal0 ?_ ⟨fun _ => h, fun z => absurd rfl z⟩⟩
    exact hb.elim (fun z => absurd z (ix_no hv (by omega))) id
theorem c_place1 {post : ctN → ctF → Prop} {xp : String → ctN → ctF → Prop} {n : ctN} {f : ctF} {v g N : Nat} (hN : n 2 = nI N) (hN' : N ≤ 120) (hv : v < N) (hg : g < 8) (h : post n f) : wp_C_checkPlace post xp (nI v) (nI g) n f := by
  unfold wp_C_checkPlace
  exact c_has1 hN hN' hv ⟨fun q => absurd q (by decide), fun _ => c_goal1 hg ⟨fun _ => h, fun q => absurd q (by decide)⟩⟩
theorem c_place0 {post : ctN → ctF → Prop} {xp : String → ctN → ctF → Prop} {n : ctN} {f : ctF} {N : Nat} {p q : Int32} (hN : n 2 = nI N) (hN' : N ≤ 120) (hb : badIx p N ∨ badIx q 8) (h : xp "java/lang/IllegalArgumentException" n f) : wp_C_checkPlace post xp p q n f := by
  unfold wp_C_checkPlace
  rcases ix_or p (N := N) (by omega) with hp | ⟨v, hv, rfl⟩
  · exact c_has0 hN hp ⟨fun _ => h, fun z => absurd rfl z⟩
  · refine c_has1 hN hN' hv ⟨fun z => absurd z (by decide), fun _ => c_goal0 ?_ ⟨fun z => absurd rfl z, fun _ => h⟩⟩
    exact hb.elim (fun z => absurd z (ix_no hv (by omega))) id
/-- asked of a node and a goal: both there, or one wanting -/
theorem ask_or (p q : Int32) {N : Nat} (hN : N ≤ 120) : (badIx p N ∨ badIx q 8) ∨ ∃ v g, v < N ∧ g < 8 ∧ p = nI v ∧ q = nI g := by
  rcases ix_or p (N := N) (by omega) with hp | ⟨v, hv, rfl⟩
  · exact Or.inl (Or.inl hp)
  · rcases ix_or q (N := 8) (by decide) with hq | ⟨g, hg, rfl⟩
    · exact Or.inl (Or.inr hq)
    · exact Or.inr ⟨v, g, hv, hg, rfl, rfl⟩
theorem m_ref0 {post : Int32 → ctN → ctF → Prop} {n : ctN} {f : ctF} (h : post 0 (va_up n 3 0) f) : wp_M_refuse post 0 0 0 n f :=
  wm_refuse (fun z => absurd rfl z) (fun _ z => absurd rfl z) (fun _ _ z => absurd rfl z) (fun _ _ _ => h)
theorem m_ref1 {post : Int32 → ctN → ctF → Prop} {n : ctN} {f : ctF} {b c : Int32} (h : post 1 (va_up n 3 1) f) : wp_M_refuse post 1 b c n f :=
  wm_refuse (fun _ => h) (fun z => absurd z (by decide)) (fun z => absurd z (by decide)) (fun z => absurd z (by decide))
theorem m_ref2 {post : Int32 → ctN → ctF → Prop} {n : ctN} {f : ctF} {c : Int32} (h : post 1 (va_up n 3 2) f) : wp_M_refuse post 0 1 c n f :=
  wm_refuse (fun z => absurd rfl z) (fun _ _ => h) (fun _ z => absurd z (by decide)) (fun _ z => absurd z (by decide))
theorem m_ref3 {post : Int32 → ctN → ctF → Prop} {n : ctN} {f : ctF} (h : post 1 (va_up n 3 3) f) : wp_M_refuse post 0 0 1 n f :=
  wm_refuse (fun z => absurd rfl z) (fun _ z => absurd rfl z) (fun _ _ _ => h) (fun _ _ z => absurd z (by decide))
theorem tC.up {G : GD} {T : TD} {n n' : ctN} {f f' : ctF} (h : tC G T n f) (e2 : n' 2 = n 2) (e : ∀ k, 9 ≤ k → k ≤ 16 → k ≠ 13 → f' k = f k) : tC G T n' f' :=
  ⟨by rw [e2]; exact h.nN, fun v hv => by rw [e 9 (by decide) (by decide) (by decide), e 10 (by decide) (by decide) (by decide), e 11 (by decide) (by decide) (by decide)]; exact h.nd v hv, fun v g hv hg => by rw [e 14 (by decide) (by decide) (by decide)]; exact h.co v g hv hg, fun v g hv hg => by rw [e 15 (by decide) (by decide) (by decide), e 16 (by decide) (by decide) (by decide)]; exact h.ru v g hv hg⟩
theorem rowOK.up {G : GD} {f f' : ctF} {v o a : Nat} {rk : Nat → Nat} {S : Nat → Bool} {m g : Nat} (h : rowOK G f v o a rk S m g) (e29 : f' 29 = f 29) (e30 : f' 30 = f 30) : rowOK G f' v o a rk S m g := by
  unfold rowOK at h ⊢
  rw [e29, e30]
  exact h
theorem tM.up {G : GD} {T : TD} {n n' : ctN} {f f' : ctF} (h : tM G T n f) (e6 : n' 6 = n 6) (e : ∀ k, 25 ≤ k → k ≤ 30 → f' k = f k) : tM G T n' f' := by
  obtain ⟨rk, S, hk⟩ := h.ch
  exact ⟨by rw [e6]; exact h.nN, fun v hv => by rw [e 25 (by decide) (by decide), e 26 (by decide) (by decide), e 27 (by decide) (by decide)]; exact h.nd v hv, fun v g hv hg => by rw [e 28 (by decide) (by decide)]; exact h.co v g hv hg, rk, S, fun v g hv hg => (hk v g hv hg).up (e 29 (by decide) (by decide)) (e 30 (by decide) (by decide))⟩
/-- class and reference over the same operators, rules, nodes, costs -/
def IV (G : GD) (T : TD) (n : ctN) (f : ctF) : Prop := (G.ok) ∧ (T.ok G) ∧ (gC G n f) ∧ (tC G T n f) ∧ (gM G n f) ∧ (tM G T n f)
theorem IV.g {G : GD} {T : TD} {n : ctN} {f : ctF} (h : IV G T n f) : G.ok := h.1
theorem IV.t {G : GD} {T : TD} {n : ctN} {f : ctF} (h : IV G T n f) : T.ok G := h.2.1
theorem IV.gc {G : GD} {T : TD} {n : ctN} {f : ctF} (h : IV G T n f) : gC G n f := h.2.2.1
theorem IV.tc {G : GD} {T : TD} {n : ctN} {f : ctF} (h : IV G T n f) : tC G T n f := h.2.2.2.1
theorem IV.gm {G : GD} {T : TD} {n : ctN} {f : ctF} (h : IV G T n f) : gM G n f := h.2.2.2.2.1
theorem IV.tm {G : GD} {T : TD} {n : ctN} {f : ctF} (h : IV G T n f) : tM G T n f := h.2.2.2.2.2
theorem IV.up {G : GD} {T : TD} {n n' : ctN} {f f' : ctF} (h : IV G T n f) (e : ∀ k, k ≠ 3 → k ≠ 7 → k ≠ 8 → n' k = n k) (e2 : ∀ k, k ≠ 32 → f' k = f k) : IV G T n' f' :=
  ⟨h.g, h.t, h.gc.up (e 0 (by decide) (by decide) (by decide)) (e 1 (by decide) (by decide) (by decide)) (fun k _ _ => e2 k (by omega)), h.tc.up (e 2 (by decide) (by decide) (by decide)) (fun k _ _ _ => e2 k (by omega)), h.gm.up (e 4 (by decide) (by decide) (by decide)) (e 5 (by decide) (by decide) (by decide)) (fun k _ _ => e2 k (by omega)), h.tm.up (e 6 (by decide) (by decide) (by decide)) (fun k _ _ => e2 k (by omega))⟩
def PInv (n : ctN) (f : ctF) : Prop := ∃ G T, IV G T n f
theorem IV.inv {G : GD} {T : TD} {n : ctN} {f : ctF} (h : IV G T n f) : PInv n f := ⟨G, T, h⟩
theorem IV.n3 {G : GD} {T : TD} {n : ctN} {f : ctF} (h : IV G T n f) (x : Int32) : IV G T (va_up n 3 x) f := h.up (fun _ h3 _ _ => va_up_ne _ _ h3) (fun _ _ => rfl)
theorem IV.f32 {G : GD} {T : TD} {n : ctN} {f : ctF} (h : IV G T n f) (x : Nat → Int32) : IV G T n (va_up f 32 x) := h.up (fun _ _ _ _ => rfl) (fun _ hk => va_up_ne _ _ hk)
/-- cost -/
theorem lc_cost {post : Int32 → ctN → ctF → Prop} {n : ctN} {f : ctF} {G : GD} {T : TD} {p q : Int32} (I : IV G T n f) (h1 : (badIx p T.N ∨ badIx q 8) → post 1 n f) (h0 : ∀ v g, v < T.N → g < 8 → p = nI v → q = nI g → post 0 n (va_up f 32 (upd (f 32) 0 (f 14 (8 * v + g))))) : wp_L_cost post p q n f := by
  have hN := I.t.N120
  unfold wp_L_cost wp_C_cost
  rcases ask_or p q hN with hb | ⟨v, g, hv, hg, rfl, rfl⟩
  · exact Or.inr (Or.inr (c_place0 I.tc.nN hN hb ⟨rfl, h1 hb⟩))
  · refine Or.inl (Or.inl (c_place1 I.tc.nN hN hv hg (w_place ⟨ix_in (by omega) hg, ?_⟩)))
    rw [ix_cl (by omega) hg]
    rintro _ rfl
    exact h0 v g hv hg rfl rfl
theorem lm_cost {post : Int32 → ctN → ctF → Prop} {n : ctN} {f : ctF} {G : GD} {T : TD} {p q : Int32} (I : IV G T n f) (h1 : (badIx p T.N ∨ badIx q 8) → post 0 (va_up n 3 1) f) (h0 : ∀ v g, v < T.N → g < 8 → p = nI v → q = nI g → post (f 28 (8 * v + g)) (va_up n 3 0) f) : wp_M_cost post p q n f := by
  have hN := I.t.N120
  unfold wp_M_cost
  rcases ask_or p q hN with hb | ⟨v, g, hv, hg, rfl, rfl⟩
  · refine m_ask0 I.tm.nN hN hb ⟨fun z => absurd rfl z, fun _ => ?_⟩
    unfold wp_M_cost_J15
    exact m_ref1 ⟨fun z => absurd z (by decide), fun _ => h1 hb⟩
  · refine m_ask1 I.tm.nN hN hv hg ⟨fun _ => ?_, fun z => absurd z (by decide)⟩
    unfold wp_M_cost_J15
    rw [ix_m, ix_cl (by omega) hg]
    exact m_ref0 ⟨fun _ => ⟨ix_in (by omega) hg, h0 v g hv hg rfl rfl⟩, fun z => absurd rfl z⟩
/-- rule -/
theorem lc_rule {post : Int32 → ctN → ctF → Prop} {n : ctN} {f : ctF} {G : GD} {T : TD} {p q : Int32} (I : IV G T n f) (h : ∀ r f', (∀ k, k ≠ 32 → f' k = f k) → post r n f') : wp_L_rule post p q n f := by
  have hN := I.t.N120
  unfold wp_L_rule wp_C_rule
  rcases ask_or p q hN with hb | ⟨v, g, hv, hg, rfl, rfl⟩
  · exact Or.inr (Or.inr (c_place0 I.tc.nN hN hb ⟨rfl, h 1 f (fun _ _ => rfl)⟩))
  · refine Or.inl (Or.inl (c_place1 I.tc.nN hN hv hg (w_place ⟨ix_in (by omega) hg, ?_⟩)))
    rintro _ rfl
    exact h 0 _ (fun _ hk => va_up_ne _ _ hk)
theorem lm_rule {post : Int32 → ctN → ctF → Prop} {n : ctN} {f : ctF} {G : GD} {T : TD} {p q : Int32} (I : IV G T n f) (h : ∀ r n', (∀ k, k ≠ 3 → k ≠ 7 → k ≠ 8 → n' k = n k) → post r n' f) : wp_M_rule post p q n f := by
  have hN := I.t.N120
  unfold wp_M_rule
  rcases ask_or p q hN with hb | ⟨v, g, hv, hg, rfl, rfl⟩
  · refine m_ask0 I.tm.nN hN hb ⟨fun z => absurd rfl z, fun _ => ?_⟩
    unfold wp_M_rule_J15
    exact m_ref1 ⟨fun z => absurd z (by decide), fun _ => h _ _ (fun _ h3 _ _ => va_up_ne _ _ h3)⟩
  · refine m_ask1 I.tm.nN hN hv hg ⟨fun _ => ?_, fun z => absurd z (by decide)⟩
    unfold wp_M_rule_J15
    rw [ix_m]
    exact m_ref0 ⟨fun _ => ⟨ix_in (by omega) hg, h _ _ (fun _ h3 _ _ => va_up_ne _ _ h3)⟩, fun z => absurd rfl z⟩
/-- size -/
theorem c_size {post : Int32 → ctN → ctF → Prop} {xp : String → ctN → ctF → Prop} {n : ctN} {f : ctF} {G : GD} {T : TD} {v g : Nat} (I : IV G T n f) (hv : v < T.N) (hg : g < 8) (h0 : ∀ s, szOK s → s ≤ 2000 → post s n f) (h2 : xp "java/lang/UnsupportedOperationException" n f) : wp_C_coverSize post xF (nI v) (nI g) n f ∨ wp_C_coverSize pFi xp (nI v) (nI g) n f := by
  have hN := I.t.N120
  have hs := (I.tc.ru v g hv hg).1
  by_cases c : f 16 (8 * v + g) ≤ 2000
  · left
    unfold wp_C_coverSize
    refine w_place ⟨ix_in (by omega) hg, ?_⟩
    rw [ix_cl (by omega) hg]
    rintro _ rfl
    exact ⟨fun _ => h0 _ hs c, fun z => absurd c z⟩
  · right
    unfold wp_C_coverSize
    refine w_place ⟨ix_in (by omega) hg, ?_⟩
    rw [ix_cl (by omega) hg]
    rintro _ rfl
    exact ⟨fun z => absurd z c, fun _ => h2⟩
theorem lc_size {post : Int32 → ctN → ctF → Prop} {n : ctN} {f : ctF} {G : GD} {T : TD} {p q : Int32} (I : IV G T n f) (h : ∀ r f', (∀ k, k ≠ 32 → f' k = f k) → post r n f') : wp_L_size post p q n f := by
  have hN := I.t.N120
  unfold wp_L_size wp_C_size
  rcases ask_or p q hN with hb | ⟨v, g, hv, hg, rfl, rfl⟩
  · exact Or.inr (Or.inr (c_place0 I.tc.nN hN hb (Or.inl ⟨rfl, h 1 f (fun _ _ => rfl)⟩)))
  · rcases c_size (post := fun (r : Int32) (n : ctN) (f : ctF) => ∀ f2 : ctF, f2 = va_up f 32 (upd (f 32) 0 r) → post 0 n f2) (xp := fun E n f => (E = "java/lang/IllegalArgumentException" ∧ post 1 n f) ∨ (E = "java/lang/UnsupportedOperationException" ∧ post 2 n f)) I hv hg (fun s _ _ => by rintro _ rfl; exact h 0 _ (fun _ hk => va_up_ne _ _ hk)) (Or.inr ⟨rfl, h 2 f (fun _ _ => rfl)⟩) with z | z
    · exact Or.inl (Or.inl (c_place1 I.tc.nN hN hv hg (Or.inl z)))
    · exact Or.inr (Or.inl (c_place1 I.tc.nN hN hv hg (Or.inr z)))
theorem lm_size {post : Int32 → ctN → ctF → Prop} {n : ctN} {f : ctF} {G : GD} {T : TD} {p q : Int32} (I : IV G T n f) (h : ∀ r n', (∀ k, k ≠ 3 → k ≠ 7 → k ≠ 8 → n' k = n k) → post r n' f) : wp_M_size post p q n f := by
  have hN := I.t.N120
  unfold wp_M_size
  rcases ask_or p q hN with hb | ⟨v, g, hv, hg, rfl, rfl⟩
  · refine m_ask0 I.tm.nN hN hb ⟨fun z => absurd rfl z, fun _ => ?_⟩
    unfold wp_M_size_J17
    refine ⟨fun _ => ?_, fun z => absurd rfl z⟩
    unfold wp_M_size_J50 wp_M_size_J51
    exact m_ref1 ⟨fun z => absurd z (by decide), fun _ => h _ _ (fun _ h3 _ _ => va_up_ne _ _ h3)⟩
  · refine m_ask1 I.tm.nN hN hv hg ⟨fun _ => ?_, fun z => absurd z (by decide)⟩
    unfold wp_M_size_J17
    refine ⟨fun z => absurd z (by decide), fun _ => ⟨fun z => absurd z (by decide), fun _ => ?_⟩⟩
    unfold wp_M_size_J39
    rw [ix_m]
    refine ⟨ix_in (by omega) hg, fun _ => ?_, fun _ => ?_⟩
    · unfold wp_M_size_J50 wp_M_size_J51
      rw [ix_m]
      exact m_ref0 ⟨fun _ => ⟨ix_in (by omega) hg, h _ _ (fun _ h3 _ _ => va_up_ne _ _ h3)⟩, fun z => absurd rfl z⟩
    · unfold wp_M_size_J51
      exact m_ref2 ⟨fun z => absurd z (by decide), fun _ => h _ _ (fun _ h3 _ _ => va_up_ne _ _ h3)⟩
/-- cover -/
theorem lc_cover {post : Int32 → ctN → ctF → Prop} {n : ctN} {f : ctF} {G : GD} {T : TD} {p q k w : Int32} (I : IV G T n f) (h : ∀ r f', (∀ k, k ≠ 32 → f' k = f k) → post r n f') : wp_L_cover post p q k w n f := by
  have hN := I.t.N120
  have e2000 : (2000 : Int32).toInt = 2000 := by decide
  unfold wp_L_cover wp_C_cover
  rcases ask_or p q hN with hb | ⟨v, g, hv, hg, rfl, rfl⟩
  · exact Or.inr (Or.inr (c_place0 I.tc.nN hN hb (Or.inl ⟨rfl, h 1 f (fun _ _ => rfl)⟩)))
  · by_cases c : f 16 (8 * v + g) ≤ 2000
    · have cs : ∀ (post' : Int32 → ctN → ctF → Prop), post' (f 16 (8 * v + g)) n f → wp_C_coverSize post' xF (nI v) (nI g) n f := by
        intro post' hp
        unfold wp_C_coverSize
        refine w_place ⟨ix_in (by omega) hg, ?_⟩
        rw [ix_cl (by omega) hg]
        rintro _ rfl
        exact ⟨fun _ => hp, fun z => absurd c z⟩
      by_cases hw : w = 0 ∨ w = 1
      · by_cases hk : k < 0 ∨ ¬ k < f 16 (8 * v + g)
        · right; left
          refine c_place1 I.tc.nN hN hv hg (Or.inl (cs _ ?_))
          have J : wp_C_cover_J35 pFi (fun E n f => (E = "java/lang/IllegalArgumentException" ∧ post 1 n f) ∨ (E = "java/lang/UnsupportedOperationException" ∧ post 2 n f) ∨ (E = "java/lang/IndexOutOfBoundsException" ∧ post 3 n f)) (nI v) (nI g) k w (f 16 (8 * v + g)) n f := by
            unfold wp_C_cover_J35
            exact ⟨fun _ => Or.inr (Or.inr ⟨rfl, h 3 f (fun _ _ => rfl)⟩), fun z => ⟨fun y => absurd hk (fun u => u.elim z (fun u => u y)), fun _ => Or.inr (Or.inr ⟨rfl, h 3 f (fun _ _ => rfl)⟩)⟩⟩
          exact ⟨fun _ => J, fun z => ⟨fun _ => J, fun y => absurd hw (fun u => u.elim z y)⟩⟩
        · left; left
          have hk0 : ¬ k < 0 := fun z => hk (Or.inl z)
          have hk1 : k < f 16 (8 * v + g) := by
            by_cases z : k < f 16 (8 * v + g)
            · exact z
            · exact absurd (Or.inr z) hk
          obtain ⟨j, hj, rfl⟩ := nI_of hk0
          have hj2 : j ≤ 2001 := by
            rw [w_lt, nI_toInt hj] at hk1
            rw [w_le, e2000] at c
            omega
          refine c_place1 I.tc.nN hN hv hg (Or.inl (cs _ ?_))
          have J : wp_C_cover_J35 (fun (r : Int32) (n : ctN) (f : ctF) => ∀ f2 : ctF, f2 = va_up f 32 (upd (f 32) 0 r) → post 0 n f2) xF (nI v) (nI g) (nI j) w (f 16 (8 * v + g)) n f := by
            unfold wp_C_cover_J35
            refine ⟨fun z => absurd z hk0, fun _ => ⟨fun _ => w_place (w_findInCover I.g I.t I.gc I.tc (by omega) hj2 (fun at' hat => ⟨fun _ => ?_, fun _ => ⟨vp_in_nI (by omega) (by decide), ?_⟩⟩)), fun z => absurd hk1 z⟩⟩
            · rintro _ rfl; exact h 0 _ (fun _ hk => va_up_ne _ _ hk)
            · rintro _ rfl; exact h 0 _ (fun _ hk => va_up_ne _ _ hk)
          exact ⟨fun _ => J, fun z => ⟨fun _ => J, fun y => absurd hw (fun u => u.elim z y)⟩⟩
      · right; left
        refine c_place1 I.tc.nN hN hv hg (Or.inl (cs _ ⟨fun z => absurd (Or.inl z) hw, fun _ => ⟨fun z => absurd (Or.inr z) hw, fun _ => Or.inl ⟨rfl, h 1 f (fun _ _ => rfl)⟩⟩⟩))
    · right; left
      refine c_place1 I.tc.nN hN hv hg (Or.inr ?_)
      unfold wp_C_coverSize
      refine w_place ⟨ix_in (by omega) hg, ?_⟩
      rw [ix_cl (by omega) hg]
      rintro _ rfl
      exact ⟨fun z => absurd z c, fun _ => Or.inr (Or.inl ⟨rfl, h 2 f (fun _ _ => rfl)⟩)⟩
theorem lm_cover {post : Int32 → ctN → ctF → Prop} {n : ctN} {f : ctF} {G : GD} {T : TD} {p q k w : Int32} (I : IV G T n f) (h : ∀ r n', (∀ k, k ≠ 3 → k ≠ 7 → k ≠ 8 → n' k = n k) → post r n' f) : wp_M_cover post p q k w n f := by
  have hN := I.t.N120
  have J23 : wp_M_cover_J23 post p q k w n f := by
    unfold wp_M_cover_J23 wp_M_cover_J24
    refine ⟨fun _ => ?_, fun z => absurd rfl z⟩
    unfold wp_M_cover_J46
    refine ⟨fun z => absurd rfl z, fun _ => ?_⟩
    unfold wp_M_cover_J59
    refine ⟨fun _ => ?_, fun z => absurd rfl z⟩
    unfold wp_M_cover_J76 wp_M_cover_J77
    refine ⟨fun _ => ?_, fun z => absurd rfl z⟩
    unfold wp_M_cover_J98 wp_M_cover_J99
    exact m_ref1 ⟨fun z => absurd z (by decide), fun _ => h _ _ (fun _ h3 _ _ => va_up_ne _ _ h3)⟩
  unfold wp_M_cover
  rcases ask_or p q hN with hb | ⟨v, g, hv, hg, rfl, rfl⟩
  · exact m_ask0 I.tm.nN hN hb ⟨fun _ => J23, fun z => absurd rfl z⟩
  · have e2000 : (2000 : Int32).toInt = 2000 := by decide
    have hs := I.tm.sz hv hg
    have hx := ix_in (v := v) (g := g) (by omega) hg
    have fin : ∀ s0 s1 : Int32, (s0 = 0 ∧ s1 = 0 ∧ f 30 (8 * v + g) ≤ 2000 ∧ ¬ k < 0 ∧ ¬ f 30 (8 * v + g) - 1 < k) ∨ (s1 = 1) ∨ (s0 = 1 ∧ s1 = 0) → wp_M_cover_J99 post (nI v) (nI g) k w s0 s1 0 n f := by
      intro s0 s1 hc
      unfold wp_M_cover_J99
      rcases hc with ⟨rfl, rfl, hc1, hc2, hc3⟩ | rfl | ⟨rfl, rfl⟩
      · obtain ⟨j, hj, rfl⟩ := nI_of hc2
        have hj2 : j ≤ 2001 := by
          rw [w_lt, nI_toInt hj, ia_sub (by have := hs.1; omega) (by have := hs.2; omega) (by rw [ia_1]; omega) (by rw [ia_1]; omega), ia_1] at hc3
          rw [w_le, e2000] at hc1
          omega
        refine m_ref0 ⟨fun _ => ?_, fun z => absurd rfl z⟩
        have I3 := I.n3 0
        exact wm_find I3.g I3.t I3.gm I3.tm hv hg hj2 (fun n' hn' => ⟨fun _ => h _ _ (fun k h3 h7 h8 => (hn' k h7 h8).trans (va_up_ne _ _ h3)), fun _ => h _ _ (fun k h3 h7 h8 => (hn' k h7 h8).trans (va_up_ne _ _ h3))⟩)
      · exact m_ref2 ⟨fun z => absurd z (by decide), fun _ => h _ _ (fun _ h3 _ _ => va_up_ne _ _ h3)⟩
      · exact m_ref3 ⟨fun z => absurd z (by decide), fun _ => h _ _ (fun _ h3 _ _ => va_up_ne _ _ h3)⟩
    refine m_ask1 I.tm.nN hN hv hg ⟨fun z => absurd z (by decide), fun _ => ?_⟩
    refine wm_in (fun _ _ => ⟨fun z => absurd z (by decide), fun _ => ?_⟩) (fun _ => ⟨fun _ => J23, fun z => absurd rfl z⟩)
    unfold wp_M_cover_J24
    rw [ix_m, ix_cl (by omega) hg]
    refine ⟨fun z => absurd z (by decide), fun _ => ⟨hx, ?_⟩⟩
    unfold wp_M_cover_J46
    refine ⟨fun _ => ?_, fun z => absurd z (by decide)⟩
    unfold wp_M_cover_J59
    refine ⟨fun z => absurd z (by decide), fun _ => ⟨fun c => ?_, fun c => ?_⟩⟩
    · unfold wp_M_cover_J76 wp_M_cover_J77
      refine ⟨fun z => absurd z (by decide), fun _ => ?_⟩
      refine wm_in (fun a b => ⟨fun _ => ?_, fun z => absurd z (by decide)⟩) (fun _ => ⟨fun z => absurd rfl z, fun _ => ?_⟩)
      · unfold wp_M_cover_J98
        exact fin 0 0 (Or.inl ⟨rfl, rfl, c, a, b⟩)
      · exact fin 1 0 (Or.inr (Or.inr ⟨rfl, rfl⟩))
    · unfold wp_M_cover_J77
      refine ⟨fun z => absurd z (by decide), fun _ => ?_⟩
      refine wm_in (fun a b => ⟨fun _ => ?_, fun z => absurd z (by decide)⟩) (fun _ => ⟨fun z => absurd rfl z, fun _ => ?_⟩)
      · unfold wp_M_cover_J98
        exact fin 0 1 (Or.inr (Or.inl rfl))
      · exact fin 1 1 (Or.inr (Or.inl rfl))
/-- states, like -/
theorem lc_states {post : Int32 → ctN → ctF → Prop} {n : ctN} {f : ctF} {G : GD} {T : TD} (I : IV G T n f) (h : ∀ r, post r n f) : wp_C_states post n f := by
  unfold wp_C_states
  exact w_countStates I.tc.nN I.t.N120 (h _)
theorem lm_states {post : Int32 → ctN → ctF → Prop} {n : ctN} {f : ctF} {G : GD} {T : TD} (I : IV G T n f) (h : ∀ r n', (∀ k, k ≠ 3 → k ≠ 7 → k ≠ 8 → n' k = n k) → post r n' f) : wp_M_states post n f := by
  obtain ⟨c, hc⟩ := wm_states (f := f) I.tm.nN I.t.N120
  exact hc post (h _ _ (fun _ h3 _ _ => va_up_ne _ _ h3))
theorem lc_like {post : Int32 → ctN → ctF → Prop} {n : ctN} {f : ctF} {G : GD} {T : TD} {p : Int32} (I : IV G T n f) (h : ∀ r f', (∀ k, k ≠ 32 → f' k = f k) → post r n f') : wp_L_like post p n f := by
  have hN := I.t.N120
  unfold wp_L_like wp_C_like
  rcases ix_or p (N := T.N) (by omega) with hb | ⟨v, hv, rfl⟩
  · exact Or.inr (c_has0 I.tc.nN hb ⟨fun z => absurd rfl z, fun _ => ⟨rfl, h 1 f (fun _ _ => rfl)⟩⟩)
  · refine Or.inl (c_has1 I.tc.nN hN hv ⟨fun _ => ⟨vp_in_nI (by omega) (by decide), ?_⟩, fun z => absurd z (by decide)⟩)
    rintro _ rfl
    exact h 0 _ (fun _ hk => va_up_ne _ _ hk)
theorem lm_like {post : Int32 → ctN → ctF → Prop} {n : ctN} {f : ctF} {G : GD} {T : TD} {p : Int32} (I : IV G T n f) (h : ∀ r n', (∀ k, k ≠ 3 → k ≠ 7 → k ≠ 8 → n' k = n k) → post r n' f) : wp_M_like post p n f := by
  have hN := I.t.N120
  unfold wp_M_like
  rcases ix_or p (N := T.N) (by omega) with hb | ⟨v, hv, rfl⟩
  · refine m_node0 I.tm.nN hN hb ⟨fun z => absurd rfl z, fun _ => m_ref1 ⟨fun z => absurd z (by decide), fun _ => h _ _ (fun _ h3 _ _ => va_up_ne _ _ h3)⟩⟩
  · refine m_node1 I.tm.nN hN hv ⟨fun _ => m_ref0 ⟨fun _ => ?_, fun z => absurd rfl z⟩, fun z => absurd z (by decide)⟩
    obtain ⟨r, -, hr⟩ := wm_likeOf f (v := v) (by omega)
    exact hr _ _ (h _ _ (fun _ h3 _ _ => va_up_ne _ _ h3))
end
section
/-! the calls that change: clear, fell, operator, base, chain -/
def TD.zero (T : TD) : TD := TD.mk 0 T.kd T.u1 T.u2 T.C
theorem zero_ok (G : GD) (T : TD) : T.zero.ok G := ⟨Nat.zero_le _, fun _ h => absurd h (Nat.not_lt_zero _), fun _ _ _ h => absurd h (Nat.not_lt_zero _)⟩
theorem zero_tC (G : GD) (T : TD) {n : ctN} (f : ctF) (h : n 2 = 0) : tC G T.zero n f := ⟨by rw [h]; exact nI_0.symm, fun _ h => absurd h (Nat.not_lt_zero _), fun _ _ h => absurd h (Nat.not_lt_zero _), fun _ _ h => absurd h (Nat.not_lt_zero _)⟩
theorem zero_tM (G : GD) (T : TD) {n : ctN} (f : ctF) (h : n 6 = 0) : tM G T.zero n f := ⟨by rw [h]; exact nI_0.symm, fun _ h => absurd h (Nat.not_lt_zero _), fun _ _ h => absurd h (Nat.not_lt_zero _), fun _ _ => 0, fun _ _ => false, fun _ _ h => absurd h (Nat.not_lt_zero _)⟩
def GD.zero (G : GD) : GD := GD.mk 0 0 G.k G.go G.co G.g1 G.g2 G.op
theorem gzero_ok (G : GD) : G.zero.ok := ⟨Nat.zero_le _, Nat.zero_le _, fun _ h => absurd h (Nat.not_lt_zero _), fun _ h => absurd h (Nat.not_lt_zero _)⟩
theorem gzero_C (G : GD) {n : ctN} (f : ctF) (h0 : n 0 = 0) (h1 : n 1 = 0) : gC G.zero n f := ⟨by rw [h0]; exact nI_0.symm, by rw [h1]; exact nI_0.symm, fun _ h => absurd h (Nat.not_lt_zero _), fun _ h => absurd h (Nat.not_lt_zero _)⟩
theorem gzero_M (G : GD) {n : ctN} (f : ctF) (h0 : n 4 = 0) (h1 : n 5 = 0) : gM G.zero n f := ⟨by rw [h0]; exact nI_0.symm, by rw [h1]; exact nI_0.symm, fun _ h => absurd h (Nat.not_lt_zero _), fun _ h => absurd h (Nat.not_lt_zero _)⟩
theorem l_clear {post : ctN → ctF → Prop} {n : ctN} {f : ctF} {G : GD} {T : TD} (_I : IV G T n f) (h : ∀ n', IV G.zero T.zero n' f → post n' f) : wp_C_clear (fun n f => wp_M_clear post n f) n f := by
  unfold wp_C_clear wp_M_clear
  rintro _ rfl _ rfl _ rfl _ rfl _ rfl _ rfl n' hn'
  have e : ∀ k x, k ≠ 3 → k ≤ 6 → x = n' k → x = 0 := by
    intro k x h3 h6 e
    rw [e, hn']
    rcases show k = 0 ∨ k = 1 ∨ k = 2 ∨ k = 4 ∨ k = 5 ∨ k = 6 by omega with rfl | rfl | rfl | rfl | rfl | rfl <;> simp [va_up]
  exact h n' ⟨gzero_ok G, zero_ok _ _, gzero_C G f (e 0 _ (by decide) (by decide) rfl) (e 1 _ (by decide) (by decide) rfl), zero_tC _ _ f (e 2 _ (by decide) (by decide) rfl), gzero_M G f (e 4 _ (by decide) (by decide) rfl) (e 5 _ (by decide) (by decide) rfl), zero_tM _ _ f (e 6 _ (by decide) (by decide) rfl)⟩
theorem l_fell {post : ctN → ctF → Prop} {n : ctN} {f : ctF} {G : GD} {T : TD} (I : IV G T n f) (h : ∀ n', IV G T.zero n' f → post n' f) : wp_C_fell (fun n f => wp_M_fell post n f) n f := by
  unfold wp_C_fell wp_M_fell
  rintro _ rfl _ rfl n' hn'
  have e : ∀ k, k ≠ 2 → k ≠ 3 → k ≠ 6 → n' k = n k := fun k h2 h3 h6 => by rw [hn', va_up_ne _ _ h6, va_up_ne _ _ h3, va_up_ne _ _ h2]
  exact h n' ⟨I.g, zero_ok _ _, I.gc.up (e 0 (by decide) (by decide) (by decide)) (e 1 (by decide) (by decide) (by decide)) (fun _ _ _ => rfl), zero_tC _ _ f (by rw [hn', va_up_ne _ _ (by decide), va_up_ne _ _ (by decide), va_up_self]), I.gm.up (e 4 (by decide) (by decide) (by decide)) (e 5 (by decide) (by decide) (by decide)) (fun _ _ _ => rfl), zero_tM _ _ f (by rw [hn', va_up_self])⟩
/-- operator -/
def GD.addO (G : GD) (p : Nat) : GD := GD.mk (G.O + 1) G.R (va_up G.k G.O p) G.go G.co G.g1 G.g2 G.op
theorem addO_ok {G : GD} (h : G.ok) {p : Nat} (hp : p ≤ 2) (hO : G.O < 10) : (G.addO p).ok :=
  ⟨hO, h.R40, fun o ho => by
    show va_up G.k G.O p o ≤ 2
    by_cases e : o = G.O
    · subst e; rw [va_up_self]; exact hp
    · rw [va_up_ne _ _ e]; exact h.k2 o (by have : o < G.O + 1 := ho; omega), fun i hi => by
    obtain ⟨a1, a2, a3, a4, a5⟩ := h.ru i hi
    exact ⟨a1, a2, a3, a4, fun o ho => Nat.lt_succ_of_lt (a5 o ho)⟩⟩
theorem addO_C {G : GD} {n n' : ctN} {f f' : ctF} (h : gC G n f) {p : Nat} (e0 : n' 0 = nI (G.O + 1)) (e1 : n' 1 = n 1) (e3 : f' 3 = upd (f 3) G.O (nI p)) (e : ∀ k, 4 ≤ k → k ≤ 8 → f' k = f k) : gC (G.addO p) n' f' :=
  ⟨e0, by rw [e1]; exact h.nR, fun o ho => by
    show f' 3 o = nI (va_up G.k G.O p o)
    rw [e3]
    by_cases z : o = G.O
    · subst z; rw [upd_self, va_up_self]
    · rw [upd_ne _ _ z, va_up_ne _ _ z]; exact h.pa o (by have : o < G.O + 1 := ho; omega), fun i hi => by
    rw [e 4 (by decide) (by decide), e 5 (by decide) (by decide), e 6 (by decide) (by decide), e 7 (by decide) (by decide), e 8 (by decide) (by decide)]; exact h.ru i hi⟩
theorem addO_k {G : GD} {p o : Nat} (ho : o < G.O) : (G.addO p).k o = G.k o := by
  show va_up G.k G.O p o = G.k o
  exact va_up_ne _ _ (by omega)
theorem addO_M {G : GD} {n n' : ctN} {f f' : ctF} (hG : G.ok) (h : gM G n f) {p : Nat} (e0 : n' 4 = nI (G.O + 1)) (e1 : n' 5 = n 5) (e3 : f' 19 = upd (f 19) G.O (nI p)) (e : ∀ k, 20 ≤ k → k ≤ 24 → f' k = f k) : gM (G.addO p) n' f' :=
  ⟨e0, by rw [e1]; exact h.nR, fun o ho => by
    show f' 19 o = nI (va_up G.k G.O p o)
    rw [e3]
    by_cases z : o = G.O
    · subst z; rw [upd_self, va_up_self]
    · rw [upd_ne _ _ z, va_up_ne _ _ z]; exact h.pa o (by have : o < G.O + 1 := ho; omega), fun i hi => by
    rw [e 20 (by decide) (by decide), e 21 (by decide) (by decide), e 22 (by decide) (by decide), e 23 (by decide) (by decide), e 24 (by decide) (by decide)]
    obtain ⟨a1, a2, a3, a4, a5⟩ := h.ru i hi
    refine ⟨a1, a2, a3, a4, fun o ho => ?_⟩
    rw [addO_k ((hG.ru i hi).2.2.2.2 o ho)]
    exact a5 o ho⟩
theorem addO_T {G : GD} {T : TD} (h : T.ok G) (p : Nat) : T.ok (G.addO p) :=
  ⟨h.N120, fun v hv => by
    obtain ⟨a1, a2, a3, a4⟩ := h.nd v hv
    rw [addO_k a1]
    exact ⟨Nat.lt_succ_of_lt a1, a2, a3, a4⟩, h.mo⟩
theorem addO_tC {G : GD} {T : TD} {n : ctN} {f : ctF} (h : tC G T n f) (p : Nat) : tC (G.addO p) T n f := ⟨h.nN, h.nd, h.co, h.ru⟩
theorem addO_tM {G : GD} {T : TD} {n : ctN} {f : ctF} (hT : T.ok G) (h : tM G T n f) (p : Nat) : tM (G.addO p) T n f := by
  obtain ⟨rk, S, hk⟩ := h.ch
  refine ⟨h.nN, h.nd, h.co, rk, S, fun v g hv hg => ?_⟩
  have := hk v g hv hg
  unfold rowOK at this ⊢
  rw [addO_k (hT.nd v hv).1]
  exact this
theorem op_or (p : Int32) : (p < 0 ∨ ¬ p ≤ 2) ∨ ∃ j, j ≤ 2 ∧ p = nI j := by
  by_cases h : p < 0
  · exact Or.inl (Or.inl h)
  · by_cases h2 : p ≤ 2
    · obtain ⟨j, hj, e⟩ := nI_of2 (M := 2) (n := 2) (by decide) h h2
      exact Or.inr ⟨j, hj, e⟩
    · exact Or.inl (Or.inr h2)
theorem le2_nI {j : Nat} (h : j ≤ 2) : nI j ≤ 2 := by
  rw [show (2 : Int32) = nI 2 by decide]; exact nI_le h (by decide)
theorem lc_operator {post : Int32 → ctN → ctF → Prop} {n : ctN} {f : ctF} {G : GD} {T : TD} {p : Int32} (I : IV G T n f) (h1 : (p < 0 ∨ ¬ p ≤ 2) → post 1 n f) (h2 : ∀ j, j ≤ 2 → p = nI j → G.O = 10 → post 2 n f) (h0 : ∀ j, j ≤ 2 → p = nI j → G.O < 10 → ∀ n' f', gC (G.addO j) n' f' → tC (G.addO j) T n' f' → gM G n' f' → tM G T n' f' → f' 32 0 = nI G.O → post 0 n' f') : wp_L_operator post p n f := by
  have hO := I.g.O10
  unfold wp_L_operator wp_C_operator
  rcases op_or p with hb | ⟨j, hj, rfl⟩
  · exact Or.inr ⟨fun _ => Or.inl ⟨rfl, h1 hb⟩, fun a => ⟨fun b => absurd hb (fun u => u.elim a (fun u => u b)), fun _ => Or.inl ⟨rfl, h1 hb⟩⟩⟩
  · have hj0 : ¬ nI j < 0 := nI_pos (by omega)
    have hj2 := le2_nI hj
    have e10 : (10 : Int32) = nI 10 := by decide
    rw [I.gc.nO]
    rcases Nat.lt_or_ge G.O 10 with hO2 | hO2
    · refine Or.inl ⟨fun a => absurd a hj0, fun _ => ⟨fun _ => ⟨fun _ => ?_, fun z => absurd (by rw [e10]; exact nI_lt hO2 (by decide)) z⟩, fun z => absurd hj2 z⟩⟩
      unfold wp_G_addOperator
      rintro _ rfl
      rw [I.gc.nO, nI_clamp (by omega), nI_1]
      refine ⟨vp_in_nI hO2 (by decide), ?_⟩
      rintro f1 hf1 n1 hn1 f2 hf2
      have e3 : f2 3 = upd (f 3) G.O (nI j) := by rw [hf2, va_up_ne _ _ (by decide), hf1, va_up_self]
      have eo : ∀ k, k ≠ 3 → k ≠ 32 → f2 k = f k := fun k z1 z2 => by rw [hf2, va_up_ne _ _ z2, hf1, va_up_ne _ _ z1]
      have en : ∀ k, k ≠ 0 → n1 k = n k := fun k z => by rw [hn1, va_up_ne _ _ z]
      exact h0 j hj rfl hO2 n1 f2 (addO_C I.gc (by rw [hn1, va_up_self]) (en 1 (by decide)) e3 (fun k _ _ => eo k (by omega) (by omega))) (addO_tC (I.tc.up (en 2 (by decide)) (fun k _ _ _ => eo k (by omega) (by omega))) j) (I.gm.up (en 4 (by decide)) (en 5 (by decide)) (fun k _ _ => eo k (by omega) (by omega))) (I.tm.up (en 6 (by decide)) (fun k _ _ => eo k (by omega) (by omega))) (by rw [hf2, va_up_self, upd_self])
    · refine Or.inr ⟨fun a => absurd a hj0, fun _ => ⟨fun _ => ⟨fun z => absurd z (by rw [e10]; exact nI_nlt hO2 (by omega)), fun _ => Or.inr ⟨rfl, h2 j hj rfl (by omega)⟩⟩, fun z => absurd hj2 z⟩⟩
theorem lm_operator_bad {post : Int32 → ctN → ctF → Prop} {n : ctN} {f : ctF} {p : Int32} (hb : p < 0 ∨ ¬ p ≤ 2) (h : post 0 (va_up n 3 1) f) : wp_M_operator post p n f := by
  unfold wp_M_operator
  refine wm_in (fun a b => absurd hb (fun u => u.elim a (fun u => u ?_))) (fun _ => ⟨fun z => absurd rfl z, fun _ => ?_⟩)
  · rw [w_lt] at b; rw [w_le]; omega
  · unfold wp_M_operator_J15 wp_M_operator_J29
    exact ⟨fun _ => m_ref1 ⟨fun z => absurd z (by decide), fun _ => h⟩, fun _ => m_ref1 ⟨fun z => absurd z (by decide), fun _ => h⟩⟩
theorem m_in2 {post : Int32 → ctN → ctF → Prop} {n : ctN} {f : ctF} {j : Nat} (hj : j ≤ 2) (h : post 1 n f) : wp_M_in post (nI j) 0 2 n f :=
  wm_in (fun _ _ => h) (fun q => absurd q (fun u => u.elim (nI_pos (by omega)) (by rw [show (2 : Int32) = nI 2 by decide]; exact nI_nlt hj (by decide))))
theorem lm_operator_full {post : Int32 → ctN → ctF → Prop} {n : ctN} {f : ctF} {j : Nat} (hj : j ≤ 2) (hO : n 4 = nI 10) (h : post 0 (va_up n 3 2) f) : wp_M_operator post (nI j) n f := by
  unfold wp_M_operator
  refine m_in2 hj ⟨fun _ => ?_, fun z => absurd z (by decide)⟩
  unfold wp_M_operator_J15
  refine ⟨fun z => absurd (by rw [hO]; decide) z, fun _ => ?_⟩
  unfold wp_M_operator_J29
  exact m_ref2 ⟨fun z => absurd z (by decide), fun _ => h⟩
theorem lm_operator_ok {post : Int32 → ctN → ctF → Prop} {n : ctN} {f : ctF} {j O : Nat} (hj : j ≤ 2) (hO : n 4 = nI O) (hO2 : O < 10) (h : post (nI O) (va_up (va_up n 3 0) 4 (nI (O + 1))) (va_up f 19 (upd (f 19) O (nI j)))) : wp_M_operator post (nI j) n f := by
  unfold wp_M_operator
  refine m_in2 hj ⟨fun _ => ?_, fun z => absurd z (by decide)⟩
  unfold wp_M_operator_J15
  refine ⟨fun _ => ?_, fun z => absurd z (by rw [hO, show (10 : Int32) = nI 10 by decide, nI_eq (by omega) (by decide)]; omega)⟩
  unfold wp_M_operator_J29
  have e4 : va_up n 3 0 4 = nI O := by rw [va_up_ne _ _ (by decide)]; exact hO
  refine m_ref0 ⟨fun _ => ?_, fun z => absurd rfl z⟩
  rw [e4, nI_clamp (by omega), nI_1]
  refine ⟨vp_in_nI hO2 (by decide), ?_⟩
  rintro _ rfl _ rfl
  rw [va_up_self, nI_s1]
  exact h
/-- base and chain: a rule is added -/
def GD.addR (G : GD) (g : Nat) (op : Option Nat) (h1 h2 c : Nat) : GD := GD.mk G.O (G.R + 1) G.k (va_up G.go G.R g) (va_up G.co G.R c) (va_up G.g1 G.R h1) (va_up G.g2 G.R h2) (va_up G.op G.R op)
theorem addR_ok {G : GD} (h : G.ok) {g h1 h2 c : Nat} {op : Option Nat} (hg : g < 8) (hh1 : h1 < 8) (hh2 : h2 < 8) (hc : c ≤ 20) (ho : ∀ o, op = some o → o < G.O) (hR : G.R < 40) : (G.addR g op h1 h2 c).ok :=
  ⟨h.O10, hR, h.k2, fun i hi => by
    show va_up G.go G.R g i < 8 ∧ va_up G.co G.R c i ≤ 20 ∧ va_up G.g1 G.R h1 i < 8 ∧ va_up G.g2 G.R h2 i < 8 ∧ ∀ o, va_up G.op G.R op i = some o → o < G.O
    by_cases e : i = G.R
    · subst e; rw [va_up_self, va_up_self, va_up_self, va_up_self, va_up_self]; exact ⟨hg, hc, hh1, hh2, ho⟩
    · rw [va_up_ne _ _ e, va_up_ne _ _ e, va_up_ne _ _ e, va_up_ne _ _ e, va_up_ne _ _ e]; exact h.ru i (by have : i < G.R + 1 := hi; omega)⟩
theorem addR_C {G : GD} {n n' : ctN} {f f' : ctF} (h : gC G n f) {g h1 h2 c : Nat} {op : Option Nat} (e0 : n' 0 = n 0) (e1 : n' 1 = nI (G.R + 1)) (e3 : f' 3 = f 3) (e4 : f' 4 = upd (f 4) G.R (nI g)) (e5 : f' 5 = upd (f 5) G.R (en op)) (e6 : f' 6 = upd (f 6) G.R (nI h1)) (e7 : f' 7 = upd (f 7) G.R (nI h2)) (e8 : f' 8 = upd (f 8) G.R (nI c)) : gC (G.addR g op h1 h2 c) n' f' :=
  ⟨by rw [e0]; exact h.nO, e1, fun o ho => by rw [e3]; exact h.pa o ho, fun i hi => by
    show f' 4 i = nI (va_up G.go G.R g i) ∧ f' 5 i = en (va_up G.op G.R op i) ∧ f' 6 i = nI (va_up G.g1 G.R h1 i) ∧ f' 7 i = nI (va_up G.g2 G.R h2 i) ∧ f' 8 i = nI (va_up G.co G.R c i)
    rw [e4, e5, e6, e7, e8]
    by_cases e : i = G.R
    · subst e; simp only [upd_self, va_up_self]; exact ⟨trivial, trivial, trivial, trivial, trivial⟩
    · rw [upd_ne _ _ e, upd_ne _ _ e, upd_ne _ _ e, upd_ne _ _ e, upd_ne _ _ e, va_up_ne _ _ e, va_up_ne _ _ e, va_up_ne _ _ e, va_up_ne _ _ e, va_up_ne _ _ e]; exact h.ru i (by have : i < G.R + 1 := hi; omega)⟩
theorem addR_M {G : GD} {n n' : ctN} {f f' : ctF} (h : gM G n f) {g h1 h2 c : Nat} {op : Option Nat} {x3 x4 : Int32} (e0 : n' 4 = n 4) (e1 : n' 5 = nI (G.R + 1)) (e3 : f' 19 = f 19) (e20 : f' 20 = upd (f 20) G.R (nI g)) (e21 : f' 21 = upd (f 21) G.R (nI c)) (e22 : f' 22 = upd (f 22) G.R (en op)) (e23 : f' 23 = upd (f 23) G.R x3) (e24 : f' 24 = upd (f 24) G.R x4) (hn : op = none → x3 = nI h1) (hs : ∀ o, op = some o → (1 ≤ G.k o → x3 = nI h1) ∧ (2 ≤ G.k o → x4 = nI h2)) : gM (G.addR g op h1 h2 c) n' f' :=
  ⟨by rw [e0]; exact h.nO, e1, fun o ho => by rw [e3]; exact h.pa o ho, fun i hi => by
    show f' 20 i = nI (va_up G.go G.R g i) ∧ f' 21 i = nI (va_up G.co G.R c i) ∧ f' 22 i = en (va_up G.op G.R op i) ∧ (va_up G.op G.R op i = none → f' 23 i = nI (va_up G.g1 G.R h1 i)) ∧ ∀ o, va_up G.op G.R op i = some o → (1 ≤ G.k o → f' 23 i = nI (va_up G.g1 G.R h1 i)) ∧ (2 ≤ G.k o → f' 24 i = nI (va_up G.g2 G.R h2 i))
    rw [e20, e21, e22, e23, e24]
    by_cases e : i = G.R
    · subst e; simp only [upd_self, va_up_self]; exact ⟨trivial, trivial, trivial, hn, hs⟩
    · rw [upd_ne _ _ e, upd_ne _ _ e, upd_ne _ _ e, upd_ne _ _ e, upd_ne _ _ e, va_up_ne _ _ e, va_up_ne _ _ e, va_up_ne _ _ e, va_up_ne _ _ e, va_up_ne _ _ e]; exact h.ru i (by have : i < G.R + 1 := hi; omega)⟩
theorem c_addRule {post : Int32 → ctN → ctF → Prop} {n : ctN} {f : ctF} {R : Nat} {p1 p2 p3 p4 p5 : Int32} (hR : n 1 = nI R) (hR' : R < 40) (h : ∀ f', f' 4 = upd (f 4) R p1 → f' 5 = upd (f 5) R p2 → f' 6 = upd (f 6) R p3 → f' 7 = upd (f 7) R p4 → f' 8 = upd (f 8) R p5 → (∀ k, k < 4 ∨ 8 < k → f' k = f k) → post (nI R) (va_up n 1 (nI (R + 1))) f') : wp_G_addRule post p1 p2 p3 p4 p5 n f := by
  have hi : vp_in (nI R) 40 := vp_in_nI hR' (by decide)
  unfold wp_G_addRule
  rintro _ rfl
  rw [hR, nI_clamp (by omega), nI_1]
  refine ⟨hi, ?_⟩
  rintro a4 h4
  refine ⟨hi, ?_⟩
  rintro a5 h5
  refine ⟨hi, ?_⟩
  rintro a6 h6
  refine ⟨hi, ?_⟩
  rintro a7 h7
  refine ⟨hi, ?_⟩
  rintro a8 h8 _ rfl
  have o4 : ∀ k, k ≠ 4 → a4 k = f k := fun k z => by rw [h4, va_up_ne _ _ z]
  have o5 : ∀ k, k ≠ 5 → a5 k = a4 k := fun k z => by rw [h5, va_up_ne _ _ z]
  have o6 : ∀ k, k ≠ 6 → a6 k = a5 k := fun k z => by rw [h6, va_up_ne _ _ z]
  have o7 : ∀ k, k ≠ 7 → a7 k = a6 k := fun k z => by rw [h7, va_up_ne _ _ z]
  have o8 : ∀ k, k ≠ 8 → a8 k = a7 k := fun k z => by rw [h8, va_up_ne _ _ z]
  refine h a8 ?_ ?_ ?_ ?_ ?_ (fun k z => ?_)
  · rw [o8 4 (by decide), o7 4 (by decide), o6 4 (by decide), o5 4 (by decide), h4, va_up_self]
  · rw [o8 5 (by decide), o7 5 (by decide), o6 5 (by decide), h5, va_up_self, o4 5 (by decide)]
  · rw [o8 6 (by decide), o7 6 (by decide), h6, va_up_self, o5 6 (by decide), o4 6 (by decide)]
  · rw [o8 7 (by decide), h7, va_up_self, o6 7 (by decide), o5 7 (by decide), o4 7 (by decide)]
  · rw [h8, va_up_self, o7 8 (by decide), o6 8 (by decide), o5 8 (by decide), o4 8 (by decide)]
  · rw [o8 k (by omega), o7 k (by omega), o6 k (by omega), o5 k (by omega), o4 k (by omega)]
theorem m_add {post : Int32 → ctN → ctF → Prop} {n : ctN} {f : ctF} {R : Nat} {p1 p2 p3 p4 p5 : Int32} (hR : n 5 = nI R) (hR' : R < 40) (h : ∀ f', f' 20 = upd (f 20) R p1 → f' 22 = upd (f 22) R p2 → f' 23 = upd (f 23) R p3 → f' 24 = upd (f 24) R p4 → f' 21 = upd (f 21) R p5 → (∀ k, k < 20 ∨ 24 < k → f' k = f k) → post (nI R) (va_up (va_up n 5 (nI (R + 1))) 6 0) f') : wp_M_add post p1 p2 p3 p4 p5 n f := by
  have hi : vp_in (nI R) 40 := vp_in_nI hR' (by decide)
  unfold wp_M_add
  rw [hR, nI_clamp (by omega), nI_1]
  refine ⟨hi, ?_⟩
  rintro a4 h4
  refine ⟨hi, ?_⟩
  rintro a5 h5
  refine ⟨hi, ?_⟩
  rintro a6 h6
  refine ⟨hi, ?_⟩
  rintro a7 h7
  refine ⟨hi, ?_⟩
  rintro a8 h8 _ rfl _ rfl
  have o4 : ∀ k, k ≠ 20 → a4 k = f k := fun k z => by rw [h4, va_up_ne _ _ z]
  have o5 : ∀ k, k ≠ 22 → a5 k = a4 k := fun k z => by rw [h5, va_up_ne _ _ z]
  have o6 : ∀ k, k ≠ 23 → a6 k = a5 k := fun k z => by rw [h6, va_up_ne _ _ z]
  have o7 : ∀ k, k ≠ 24 → a7 k = a6 k := fun k z => by rw [h7, va_up_ne _ _ z]
  have o8 : ∀ k, k ≠ 21 → a8 k = a7 k := fun k z => by rw [h8, va_up_ne _ _ z]
  rw [va_up_ne (k := 6) (j := 5) _ _ (by decide), va_up_self, nI_s1]
  refine h a8 ?_ ?_ ?_ ?_ ?_ (fun k z => ?_)
  · rw [o8 20 (by decide), o7 20 (by decide), o6 20 (by decide), o5 20 (by decide), h4, va_up_self]
  · rw [o8 22 (by decide), o7 22 (by decide), o6 22 (by decide), h5, va_up_self, o4 22 (by decide)]
  · rw [o8 23 (by decide), o7 23 (by decide), h6, va_up_self, o5 23 (by decide), o4 23 (by decide)]
  · rw [o8 24 (by decide), h7, va_up_self, o6 24 (by decide), o5 24 (by decide), o4 24 (by decide)]
  · rw [h8, va_up_self, o7 21 (by decide), o6 21 (by decide), o5 21 (by decide), o4 21 (by decide)]
  · rw [o8 k (by omega), o7 k (by omega), o6 k (by omega), o5 k (by omega), o4 k (by omega)]
/-- the class's state after a rule was added, the reference's as it was -/
def AR (G : GD) (T : TD) (g : Nat) (op : Option Nat) (h1 h2 c : Nat) (n : ctN) (f : ctF) : Prop := (gC (G.addR g op h1 h2 c) n f) ∧ (n 2 = 0) ∧ (gM G n f) ∧ (f 32 0 = nI G.R)
theorem AR.gc {G : GD} {T : TD} {g : Nat} {op : Option Nat} {h1 h2 c : Nat} {n : ctN} {f : ctF} (h : AR G T g op h1 h2 c n f) : gC (G.addR g op h1 h2 c) n f := h.1
theorem AR.n2 {G : GD} {T : TD} {g : Nat} {op : Option Nat} {h1 h2 c : Nat} {n : ctN} {f : ctF} (h : AR G T g op h1 h2 c n f) : n 2 = 0 := h.2.1
theorem AR.gm {G : GD} {T : TD} {g : Nat} {op : Option Nat} {h1 h2 c : Nat} {n : ctN} {f : ctF} (h : AR G T g op h1 h2 c n f) : gM G n f := h.2.2.1
theorem AR.out {G : GD} {T : TD} {g : Nat} {op : Option Nat} {h1 h2 c : Nat} {n : ctN} {f : ctF} (h : AR G T g op h1 h2 c n f) : f 32 0 = nI G.R := h.2.2.2
theorem AR.of {G : GD} {T : TD} {n : ctN} {f : ctF} (I : IV G T n f) {g h1 h2 c : Nat} {op : Option Nat} {n1 : ctN} {f1 f2 : ctF} (hn : n1 = va_up (va_up n 2 0) 1 (nI (G.R + 1))) (e4 : f1 4 = upd (f 4) G.R (nI g)) (e5 : f1 5 = upd (f 5) G.R (en op)) (e6 : f1 6 = upd (f 6) G.R (nI h1)) (e7 : f1 7 = upd (f 7) G.R (nI h2)) (e8 : f1 8 = upd (f 8) G.R (nI c)) (eo : ∀ k, k < 4 ∨ 8 < k → f1 k = f k) (h2f : f2 = va_up f1 32 (upd (f1 32) 0 (nI G.R))) : AR G T g op h1 h2 c n1 f2 := by
  have e : ∀ k, k ≠ 32 → f2 k = f1 k := fun k z => by rw [h2f, va_up_ne _ _ z]
  have en : ∀ k, k ≠ 1 → k ≠ 2 → n1 k = n k := fun k z1 z2 => by rw [hn, va_up_ne _ _ z1, va_up_ne _ _ z2]
  exact ⟨addR_C I.gc (en 0 (by decide) (by decide)) (by rw [hn, va_up_self]) (by rw [e 3 (by decide), eo 3 (by decide)]) (by rw [e 4 (by decide), e4]) (by rw [e 5 (by decide), e5]) (by rw [e 6 (by decide), e6]) (by rw [e 7 (by decide), e7]) (by rw [e 8 (by decide), e8]), by rw [hn, va_up_ne _ _ (by decide), va_up_self], I.gm.up (en 4 (by decide) (by decide)) (en 5 (by decide) (by decide)) (fun k z1 z2 => by rw [e k (by omega), eo k (by omega)]), by rw [h2f, va_up_self, upd_self]⟩
theorem AR.inv {G : GD} {T : TD} (hG : G.ok) {g h1 h2 c : Nat} {op : Option Nat} {n : ctN} {f : ctF} (A : AR G T g op h1 h2 c n f) (hg : g < 8) (hh1 : h1 < 8) (hh2 : h2 < 8) (hc : c ≤ 20) (ho : ∀ o, op = some o → o < G.O) (hR : G.R < 40) {x3 x4 : Int32} (hn3 : op = none → x3 = nI h1) (hs : ∀ o, op = some o → (1 ≤ G.k o → x3 = nI h1) ∧ (2 ≤ G.k o → x4 = nI h2)) {x : Int32} {f' : ctF} (e20 : f' 20 = upd (f 20) G.R (nI g)) (e22 : f' 22 = upd (f 22) G.R (en op)) (e23 : f' 23 = upd (f 23) G.R x3) (e24 : f' 24 = upd (f 24) G.R x4) (e21 : f' 21 = upd (f 21) G.R (nI c)) (eo : ∀ k, k < 20 ∨ 24 < k → f' k = f k) : IV (G.addR g op h1 h2 c) T.zero (va_up (va_up (va_up n 3 x) 5 (nI (G.R + 1))) 6 0) f' := by
  have en : ∀ k, k ≠ 3 → k ≠ 5 → k ≠ 6 → va_up (va_up (va_up n 3 x) 5 (nI (G.R + 1))) 6 0 k = n k := fun k z1 z2 z3 => by rw [va_up_ne _ _ z3, va_up_ne _ _ z2, va_up_ne _ _ z1]
  exact ⟨addR_ok hG hg hh1 hh2 hc ho hR, zero_ok _ _, A.gc.up (en 0 (by decide) (by decide) (by decide)) (en 1 (by decide) (by decide) (by decide)) (fun k _ _ => eo k (by omega)), zero_tC _ _ _ (by rw [en 2 (by decide) (by decide) (by decide)]; exact A.n2), addR_M A.gm (en 4 (by decide) (by decide) (by decide)) (by rw [va_up_ne _ _ (by decide), va_up_self]) (eo 19 (by decide)) e20 e21 e22 e23 e24 hn3 hs, zero_tM _ _ _ (va_up_self _ _ _)⟩
theorem cost_or (p : Int32) : (p < 0 ∨ ¬ p ≤ 20) ∨ ∃ c, c ≤ 20 ∧ p = nI c := by
  by_cases h : p < 0
  · exact Or.inl (Or.inl h)
  · by_cases h2 : p ≤ 20
    · obtain ⟨j, hj, e⟩ := nI_of2 (M := 20) (n := 20) (by decide) h h2
      exact Or.inr ⟨j, hj, e⟩
    · exact Or.inl (Or.inr h2)
theorem le20_nI {j : Nat} (h : j ≤ 20) : nI j ≤ 20 := by
  rw [show (20 : Int32) = nI 20 by decide]; exact nI_le h (by decide)
theorem lt40_nI {j : Nat} (h : j ≤ 40) : nI j < 40 ↔ j < 40 := by
  rw [show (40 : Int32) = nI 40 by decide]; exact nI_ltI (by omega) (by decide)
theorem c_cost1 {post : ctN → ctF → Prop} {xp : String → ctN → ctF → Prop} {n : ctN} {f : ctF} {c : Nat} (hc : c ≤ 20) (h : post n f) : wp_C_checkRuleCost post xp (nI c) n f :=
  w_checkRuleCost (fun _ _ => h) (fun z => absurd z (fun u => u.elim (nI_pos (by omega)) (fun u => u (le20_nI hc))))
theorem c_cost0 {post : ctN → ctF → Prop} {xp : String → ctN → ctF → Prop} {n : ctN} {f : ctF} {p : Int32} (hp : p < 0 ∨ ¬ p ≤ 20) (h : xp "java/lang/IllegalArgumentException" n f) : wp_C_checkRuleCost post xp p n f :=
  w_checkRuleCost (fun a b => absurd hp (fun u => u.elim a (fun u => u b))) (fun _ => h)
theorem m_cost1 {post : Int32 → ctN → ctF → Prop} {n : ctN} {f : ctF} {c : Nat} (hc : c ≤ 20) (h : post 1 n f) : wp_M_in post (nI c) 0 20 n f :=
  wm_in (fun _ _ => h) (fun q => absurd q (fun u => u.elim (nI_pos (by omega)) (by rw [show (20 : Int32) = nI 20 by decide]; exact nI_nlt hc (by decide))))
theorem m_cost0 {post : Int32 → ctN → ctF → Prop} {n : ctN} {f : ctF} {p : Int32} (hp : p < 0 ∨ ¬ p ≤ 20) (h : post 0 n f) : wp_M_in post p 0 20 n f :=
  wm_in (fun a b => absurd hp (fun u => u.elim a (fun u => u (by rw [w_lt] at b; rw [w_le]; omega)))) (fun _ => h)
/-- chain -/
def hBad (p q c : Int32) : Prop := badIx p 8 ∨ badIx q 8 ∨ p = q ∨ c < 0 ∨ ¬ c ≤ 20
theorem h_or (p q c : Int32) : hBad p q c ∨ ∃ g h k, g < 8 ∧ h < 8 ∧ g ≠ h ∧ k ≤ 20 ∧ p = nI g ∧ q = nI h ∧ c = nI k := by
  unfold hBad
  rcases ix_or p (N := 8) (by decide) with hp | ⟨g, hg, rfl⟩
  · exact Or.inl (Or.inl hp)
  · rcases ix_or q (N := 8) (by decide) with hq | ⟨h, hh, rfl⟩
    · exact Or.inl (Or.inr (Or.inl hq))
    · by_cases e : g = h
      · exact Or.inl (Or.inr (Or.inr (Or.inl (by rw [e]))))
      · rcases cost_or c with hc | ⟨k, hk, rfl⟩
        · exact Or.inl (Or.inr (Or.inr (Or.inr hc)))
        · exact Or.inr ⟨g, h, k, hg, hh, e, hk, rfl, rfl, rfl⟩
theorem lc_chain {post : Int32 → ctN → ctF → Prop} {n : ctN} {f : ctF} {G : GD} {T : TD} {p q c : Int32} (I : IV G T n f) (h1 : hBad p q c → post 1 n f) (h2 : ∀ g h k, g < 8 → h < 8 → g ≠ h → k ≤ 20 → p = nI g → q = nI h → c = nI k → G.R = 40 → post 2 n f) (h0 : ∀ g h k, g < 8 → h < 8 → g ≠ h → k ≤ 20 → p = nI g → q = nI h → c = nI k → G.R < 40 → ∀ n' f', AR G T g none h 0 k n' f' → post 0 n' f') : wp_L_chain post p q c n f := by
  have hR := I.g.R40
  unfold wp_L_chain
  rcases h_or p q c with hb | ⟨g, h, k, hg, hh, hne, hk, rfl, rfl, rfl⟩
  · right
    have H := h1 hb
    unfold wp_C_chain
    rcases ix_or p (N := 8) (by decide) with hp | ⟨g, hg, rfl⟩
    · exact c_goal0 hp ⟨fun _ => Or.inl ⟨rfl, H⟩, fun z => absurd rfl z⟩
    · refine c_goal1 hg ⟨fun z => absurd z (by decide), fun _ => ?_⟩
      rcases ix_or q (N := 8) (by decide) with hq | ⟨h, hh, rfl⟩
      · exact c_goal0 hq ⟨fun z => absurd rfl z, fun _ => Or.inl ⟨rfl, H⟩⟩
      · refine c_goal1 hh ⟨fun _ => ⟨fun hne => Or.inr (c_cost0 ?_ (Or.inl ⟨rfl, H⟩)), fun _ => Or.inl ⟨rfl, H⟩⟩, fun z => absurd z (by decide)⟩
        rcases hb with z | z | z | z
        · exact absurd z (ix_no hg (by decide))
        · exact absurd z (ix_no hh (by decide))
        · exact absurd z hne
        · exact z
  · have hne' : ¬ nI g = nI h := by rw [nI_eq (by omega) (by omega)]; exact hne
    rcases Nat.lt_or_ge G.R 40 with hR2 | hR2
    · left
      unfold wp_C_chain
      refine c_goal1 hg ⟨fun z => absurd z (by decide), fun _ => c_goal1 hh ⟨fun _ => ⟨fun _ => Or.inl (c_cost1 hk (Or.inl (w_checkRoom (fun _ => ?_) (fun z => absurd (by rw [I.gc.nR, lt40_nI hR]; exact hR2) z)))), fun z => absurd z hne'⟩, fun z => absurd z (by decide)⟩⟩
      rintro _ rfl
      refine c_addRule (R := G.R) (by rw [va_up_ne _ _ (by decide)]; exact I.gc.nR) hR2 (fun f1 e4 e5 e6 e7 e8 eo f2 hf2 => ?_)
      rw [← nI_0] at e7
      exact h0 g h k hg hh hne hk rfl rfl rfl hR2 _ f2 (AR.of I rfl e4 e5 e6 e7 e8 eo hf2)
    · right
      unfold wp_C_chain
      exact c_goal1 hg ⟨fun z => absurd z (by decide), fun _ => c_goal1 hh ⟨fun _ => ⟨fun _ => Or.inl (c_cost1 hk (Or.inr (w_checkRoom (fun z => absurd z (by rw [I.gc.nR, lt40_nI hR]; omega)) (fun _ => Or.inr ⟨rfl, h2 g h k hg hh hne hk rfl rfl rfl (by omega)⟩)))), fun z => absurd z hne'⟩, fun z => absurd z (by decide)⟩⟩
theorem lm_chain_bad {post : Int32 → ctN → ctF → Prop} {n : ctN} {f : ctF} {p q c : Int32} (hb : hBad p q c) (h : post 0 (va_up n 3 1) f) : wp_M_chain post p q c n f := by
  have J33 : wp_M_chain_J33 post p q c n f := by
    unfold wp_M_chain_J33 wp_M_chain_J34
    refine ⟨fun z => absurd rfl z, fun _ => ?_⟩
    unfold wp_M_chain_J47 wp_M_chain_J61
    exact ⟨fun _ => m_ref1 ⟨fun z => absurd z (by decide), fun _ => h⟩, fun _ => m_ref1 ⟨fun z => absurd z (by decide), fun _ => h⟩⟩
  unfold wp_M_chain
  rcases ix_or p (N := 8) (by decide) with hp | ⟨g, hg, rfl⟩
  · exact m_goal0 hp ⟨fun _ => J33, fun z => absurd rfl z⟩
  · refine m_goal1 hg ⟨fun z => absurd z (by decide), fun _ => ?_⟩
    rcases ix_or q (N := 8) (by decide) with hq | ⟨h, hh, rfl⟩
    · exact m_goal0 hq ⟨fun _ => J33, fun z => absurd rfl z⟩
    · refine m_goal1 hh ⟨fun z => absurd z (by decide), fun _ => ⟨fun _ => J33, fun hne => m_cost0 ?_ ⟨fun _ => J33, fun z => absurd rfl z⟩⟩⟩
      rcases hb with z | z | z | z
      · exact absurd z (ix_no hg (by decide))
      · exact absurd z (ix_no hh (by decide))
      · exact absurd z hne
      · exact z
theorem lm_chain_go {post : Int32 → ctN → ctF → Prop} {n : ctN} {f : ctF} {g h k : Nat} (hg : g < 8) (hh : h < 8) (hne : g ≠ h) (hk : k ≤ 20) (H : wp_M_chain_J47 post (nI g) (nI h) (nI k) 0 n f) : wp_M_chain post (nI g) (nI h) (nI k) n f := by
  have hne' : ¬ nI g = nI h := by rw [nI_eq (by omega) (by omega)]; exact hne
  unfold wp_M_chain
  refine m_goal1 hg ⟨fun z => absurd z (by decide), fun _ => m_goal1 hh ⟨fun z => absurd z (by decide), fun _ => ⟨fun z => absurd z hne', fun _ => m_cost1 hk ⟨fun z => absurd z (by decide), fun _ => ?_⟩⟩⟩⟩
  unfold wp_M_chain_J34
  exact ⟨fun _ => H, fun z => absurd z (by decide)⟩
theorem ne40_nI {R : Nat} (h : R < 40) : ¬ nI R = 40 := by
  rw [show (40 : Int32) = nI 40 by decide, nI_eq (by omega) (by decide)]; omega
theorem lm_chain_full {post : Int32 → ctN → ctF → Prop} {n : ctN} {f : ctF} {g h k : Nat} (hg : g < 8) (hh : h < 8) (hne : g ≠ h) (hk : k ≤ 20) (hR : n 5 = nI 40) (H : post 0 (va_up n 3 2) f) : wp_M_chain post (nI g) (nI h) (nI k) n f := by
  refine lm_chain_go hg hh hne hk ?_
  unfold wp_M_chain_J47
  refine ⟨fun z => absurd (by rw [hR]; decide) z, fun _ => ?_⟩
  unfold wp_M_chain_J61
  exact m_ref2 ⟨fun z => absurd z (by decide), fun _ => H⟩
theorem lm_chain_ok {post : Int32 → ctN → ctF → Prop} {n : ctN} {f : ctF} {G : GD} {T : TD} {g h k : Nat} (hG : G.ok) (A : AR G T g none h 0 k n f) (hg : g < 8) (hh : h < 8) (hne : g ≠ h) (hk : k ≤ 20) (hR : G.R < 40) (H : ∀ n' f', IV (G.addR g none h 0 k) T.zero n' f' → n' 3 = 0 → f' 32 0 = nI G.R → post (nI G.R) n' f') : wp_M_chain post (nI g) (nI h) (nI k) n f := by
  refine lm_chain_go hg hh hne hk ?_
  unfold wp_M_chain_J47
  refine ⟨fun _ => ?_, fun z => absurd z (by rw [A.gm.nR]; exact ne40_nI hR)⟩
  unfold wp_M_chain_J61
  refine m_ref0 ⟨fun _ => ?_, fun z => absurd rfl z⟩
  refine m_add (R := G.R) (by rw [va_up_ne _ _ (by decide)]; exact A.gm.nR) hR (fun f' e20 e22 e23 e24 e21 eo => ?_)
  refine H _ f' (A.inv hG hg hh (by decide) hk (fun o z => nomatch z) hR (x3 := nI h) (x4 := 0) (fun _ => rfl) (fun o z => nomatch z) e20 e22 e23 e24 e21 eo) ?_ ?_
  · rw [va_up_ne _ _ (by decide), va_up_ne _ _ (by decide), va_up_self]
  · rw [eo 32 (by decide)]; exact A.out
end
section
/-! base -/
def bBad (G : GD) (p1 p2 p3 p4 p5 : Int32) : Prop := badIx p1 8 ∨ badIx p2 G.O ∨ (∃ o, o < G.O ∧ p2 = nI o ∧ ((1 ≤ G.k o ∧ badIx p3 8) ∨ (2 ≤ G.k o ∧ badIx p4 8))) ∨ p5 < 0 ∨ ¬ p5 ≤ 20
def bGood (G : GD) (p1 p2 p3 p4 p5 : Int32) (g o h1 h2 c : Nat) : Prop := (g < 8) ∧ (o < G.O) ∧ (c ≤ 20) ∧ (p1 = nI g) ∧ (p2 = nI o) ∧ (p5 = nI c) ∧ (h1 < 8) ∧ (h2 < 8) ∧ (1 ≤ G.k o → p3 = nI h1) ∧ (¬ 1 ≤ G.k o → h1 = 0) ∧ (2 ≤ G.k o → p4 = nI h2) ∧ (¬ 2 ≤ G.k o → h2 = 0)
theorem bGood.g8 {G : GD} {p1 p2 p3 p4 p5 : Int32} {g o h1 h2 c : Nat} (h : bGood G p1 p2 p3 p4 p5 g o h1 h2 c) : g < 8 := h.1
theorem bGood.oO {G : GD} {p1 p2 p3 p4 p5 : Int32} {g o h1 h2 c : Nat} (h : bGood G p1 p2 p3 p4 p5 g o h1 h2 c) : o < G.O := h.2.1
theorem bGood.c20 {G : GD} {p1 p2 p3 p4 p5 : Int32} {g o h1 h2 c : Nat} (h : bGood G p1 p2 p3 p4 p5 g o h1 h2 c) : c ≤ 20 := h.2.2.1
theorem bGood.e1 {G : GD} {p1 p2 p3 p4 p5 : Int32} {g o h1 h2 c : Nat} (h : bGood G p1 p2 p3 p4 p5 g o h1 h2 c) : p1 = nI g := h.2.2.2.1
theorem bGood.e2 {G : GD} {p1 p2 p3 p4 p5 : Int32} {g o h1 h2 c : Nat} (h : bGood G p1 p2 p3 p4 p5 g o h1 h2 c) : p2 = nI o := h.2.2.2.2.1
theorem bGood.e5 {G : GD} {p1 p2 p3 p4 p5 : Int32} {g o h1 h2 c : Nat} (h : bGood G p1 p2 p3 p4 p5 g o h1 h2 c) : p5 = nI c := h.2.2.2.2.2.1
theorem bGood.h18 {G : GD} {p1 p2 p3 p4 p5 : Int32} {g o h1 h2 c : Nat} (h : bGood G p1 p2 p3 p4 p5 g o h1 h2 c) : h1 < 8 := h.2.2.2.2.2.2.1
theorem bGood.h28 {G : GD} {p1 p2 p3 p4 p5 : Int32} {g o h1 h2 c : Nat} (h : bGood G p1 p2 p3 p4 p5 g o h1 h2 c) : h2 < 8 := h.2.2.2.2.2.2.2.1
theorem bGood.e3 {G : GD} {p1 p2 p3 p4 p5 : Int32} {g o h1 h2 c : Nat} (h : bGood G p1 p2 p3 p4 p5 g o h1 h2 c) : 1 ≤ G.k o → p3 = nI h1 := h.2.2.2.2.2.2.2.2.1
theorem bGood.e3' {G : GD} {p1 p2 p3 p4 p5 : Int32} {g o h1 h2 c : Nat} (h : bGood G p1 p2 p3 p4 p5 g o h1 h2 c) : ¬ 1 ≤ G.k o → h1 = 0 := h.2.2.2.2.2.2.2.2.2.1
theorem bGood.e4 {G : GD} {p1 p2 p3 p4 p5 : Int32} {g o h1 h2 c : Nat} (h : bGood G p1 p2 p3 p4 p5 g o h1 h2 c) : 2 ≤ G.k o → p4 = nI h2 := h.2.2.2.2.2.2.2.2.2.2.1
theorem bGood.e4' {G : GD} {p1 p2 p3 p4 p5 : Int32} {g o h1 h2 c : Nat} (h : bGood G p1 p2 p3 p4 p5 g o h1 h2 c) : ¬ 2 ≤ G.k o → h2 = 0 := h.2.2.2.2.2.2.2.2.2.2.2
theorem b_part (c : Prop) (p : Int32) : (c ∧ badIx p 8) ∨ ∃ h, h < 8 ∧ (c → p = nI h) ∧ (¬ c → h = 0) := by
  by_cases hc : c
  · rcases ix_or p (N := 8) (by decide) with hp | ⟨h, hh, rfl⟩
    · exact Or.inl ⟨hc, hp⟩
    · exact Or.inr ⟨h, hh, fun _ => rfl, fun z => absurd hc z⟩
  · exact Or.inr ⟨0, by decide, fun z => absurd z hc, fun _ => rfl⟩
theorem b_or {G : GD} (hG : G.ok) (p1 p2 p3 p4 p5 : Int32) : bBad G p1 p2 p3 p4 p5 ∨ ∃ g o h1 h2 c, bGood G p1 p2 p3 p4 p5 g o h1 h2 c := by
  unfold bBad
  rcases ix_or p1 (N := 8) (by decide) with hp | ⟨g, hg, e1⟩
  · exact Or.inl (Or.inl hp)
  · rcases ix_or p2 (N := G.O) (by have := hG.O10; omega) with hq | ⟨o, ho, e2⟩
    · exact Or.inl (Or.inr (Or.inl hq))
    · rcases b_part (1 ≤ G.k o) p3 with h3 | ⟨h1, h18, e3, e3'⟩
      · exact Or.inl (Or.inr (Or.inr (Or.inl ⟨o, ho, e2, Or.inl h3⟩)))
      · rcases b_part (2 ≤ G.k o) p4 with h4 | ⟨h2, h28, e4, e4'⟩
        · exact Or.inl (Or.inr (Or.inr (Or.inl ⟨o, ho, e2, Or.inr h4⟩)))
        · rcases cost_or p5 with h5 | ⟨c, hc, e5⟩
          · exact Or.inl (Or.inr (Or.inr (Or.inr h5)))
          · exact Or.inr ⟨g, o, h1, h2, c, hg, ho, hc, e1, e2, e5, h18, h28, e3, e3', e4, e4'⟩
theorem lt1_nI {k : Nat} (h : k ≤ 2) : nI k < 1 ↔ k < 1 := by rw [show (1 : Int32) = nI 1 by decide]; exact nI_ltI (by omega) (by decide)
theorem lt2_nI {k : Nat} (h : k ≤ 2) : nI k < 2 ↔ k < 2 := by rw [show (2 : Int32) = nI 2 by decide]; exact nI_ltI (by omega) (by decide)
theorem c_base_go {post : Int32 → ctN → ctF → Prop} {xp : String → ctN → ctF → Prop} {n : ctN} {f : ctF} {G : GD} {g o : Nat} {p3 p4 p5 : Int32} (hG : G.ok) (hC : gC G n f) (hg : g < 8) (ho : o < G.O) (hx : (1 ≤ G.k o ∧ badIx p3 8 ∨ 2 ≤ G.k o ∧ badIx p4 8) → xp "java/lang/IllegalArgumentException" n f)
    (H : ¬ (1 ≤ G.k o ∧ badIx p3 8 ∨ 2 ≤ G.k o ∧ badIx p4 8) → wp_C_base_J76 post xp (nI g) (nI o) p3 p4 p5 (nI (G.k o)) n f) : wp_C_base post xp (nI g) (nI o) p3 p4 p5 n f := by
  have hO := hG.O10
  have hk := hG.k2 o ho
  have J52 : ¬ (1 ≤ G.k o ∧ badIx p3 8) → wp_C_base_J52 post xp (nI g) (nI o) p3 p4 p5 (nI (G.k o)) n f := by
    intro h3
    unfold wp_C_base_J52
    refine ⟨fun z => H (fun u => u.elim h3 (fun u => by have := (lt2_nI hk).mp z; omega)), fun z => ?_⟩
    have z2 : 2 ≤ G.k o := by
      have : ¬ G.k o < 2 := fun y => z ((lt2_nI hk).mpr y)
      omega
    rcases ix_or p4 (N := 8) (by decide) with hp | ⟨h2, hh2, rfl⟩
    · exact c_goal0 hp ⟨fun y => absurd rfl y, fun _ => hx (Or.inr ⟨z2, hp⟩)⟩
    · exact c_goal1 hh2 ⟨fun _ => H (fun u => u.elim h3 (fun u => ix_no hh2 (by decide) u.2)), fun y => absurd y (by decide)⟩
  unfold wp_C_base
  refine c_goal1 hg ⟨fun z => absurd z (by decide), fun _ => c_op1 hC.nO hO ho ⟨fun _ => ⟨vp_in_nI (by omega) (by decide), ?_⟩, fun z => absurd z (by decide)⟩⟩
  rw [nI_clamp (by omega), hC.pa o ho]
  rintro _ rfl
  refine ⟨fun z => J52 (fun u => by have := (lt1_nI hk).mp z; omega), fun z => ?_⟩
  have z1 : 1 ≤ G.k o := by
    have : ¬ G.k o < 1 := fun y => z ((lt1_nI hk).mpr y)
    omega
  rcases ix_or p3 (N := 8) (by decide) with hp | ⟨h1, hh1, rfl⟩
  · exact c_goal0 hp ⟨fun _ => hx (Or.inl ⟨z1, hp⟩), fun y => absurd rfl y⟩
  · exact c_goal1 hh1 ⟨fun y => absurd y (by decide), fun _ => J52 (fun u => ix_no hh1 (by decide) u.2)⟩
theorem lc_base {post : Int32 → ctN → ctF → Prop} {n : ctN} {f : ctF} {G : GD} {T : TD} {p1 p2 p3 p4 p5 : Int32} (I : IV G T n f) (h1 : bBad G p1 p2 p3 p4 p5 → post 1 n f) (h2 : ∀ g o a b c, bGood G p1 p2 p3 p4 p5 g o a b c → G.R = 40 → post 2 n f) (h0 : ∀ g o a b c, bGood G p1 p2 p3 p4 p5 g o a b c → G.R < 40 → ∀ n' f', AR G T g (some o) a b c n' f' → post 0 n' f') : wp_L_base post p1 p2 p3 p4 p5 n f := by
  have hR := I.g.R40
  unfold wp_L_base
  rcases b_or I.g p1 p2 p3 p4 p5 with hb | ⟨g, o, a, b, c, B⟩
  · right
    have H := h1 hb
    rcases ix_or p1 (N := 8) (by decide) with hp | ⟨g, hg, rfl⟩
    · unfold wp_C_base
      exact c_goal0 hp ⟨fun _ => Or.inl ⟨rfl, H⟩, fun z => absurd rfl z⟩
    · rcases ix_or p2 (N := G.O) (by have := I.g.O10; omega) with hq | ⟨o, ho, rfl⟩
      · unfold wp_C_base
        exact c_goal1 hg ⟨fun z => absurd z (by decide), fun _ => c_op0 I.gc.nO hq ⟨fun z => absurd rfl z, fun _ => Or.inl ⟨rfl, H⟩⟩⟩
      · refine c_base_go I.g I.gc hg ho (fun _ => Or.inl ⟨rfl, H⟩) (fun hno => ?_)
        unfold wp_C_base_J76
        refine Or.inr (c_cost0 ?_ (Or.inl ⟨rfl, H⟩))
        rcases hb with z | z | ⟨o2, ho2, e, z⟩ | z
        · exact absurd z (ix_no hg (by decide))
        · exact absurd z (ix_no ho (by have := I.g.O10; omega))
        · have hO := I.g.O10
          rw [nI_eq (by omega) (by omega)] at e
          subst e
          exact absurd z hno
        · exact z
  · obtain ⟨g8, oO, c20, rfl, rfl, rfl, h18, h28, e3, e3', e4, e4'⟩ := id B
    have hk := I.g.k2 o oO
    have nob : ¬ (1 ≤ G.k o ∧ badIx p3 8 ∨ 2 ≤ G.k o ∧ badIx p4 8) := by
      rintro (⟨z1, z2⟩ | ⟨z1, z2⟩)
      · rw [e3 z1] at z2; exact ix_no h18 (by decide) z2
      · rw [e4 z1] at z2; exact ix_no h28 (by decide) z2
    rcases Nat.lt_or_ge G.R 40 with hR2 | hR2
    · left
      refine c_base_go I.g I.gc g8 oO (fun z => absurd z nob) (fun _ => ?_)
      unfold wp_C_base_J76
      refine Or.inl (c_cost1 c20 (Or.inl (w_checkRoom (fun _ => ?_) (fun z => absurd (by rw [I.gc.nR, lt40_nI hR]; exact hR2) z))))
      rintro _ rfl
      have add : ∀ x3 x4 : Int32, x3 = nI a → x4 = nI b → wp_G_addRule (fun (r : Int32) (n : ctN) (f : ctF) => ∀ f2 : ctF, f2 = va_up f 32 (upd (f 32) 0 r) → post 0 n f2) (nI g) (nI o) x3 x4 (nI c) (va_up n 2 0) f := by
        rintro _ _ rfl rfl
        refine c_addRule (R := G.R) (by rw [va_up_ne _ _ (by decide)]; exact I.gc.nR) hR2 (fun f1 w4 w5 w6 w7 w8 wo f2 hf2 => ?_)
        exact h0 g o a b c B hR2 _ f2 (AR.of I rfl w4 w5 w6 w7 w8 wo hf2)
      have z0 : (0 : Int32) = nI 0 := nI_0.symm
      refine ⟨fun y1 => ⟨fun y2 => ?_, fun y2 => ?_⟩, fun y1 => ⟨fun y2 => ?_, fun y2 => ?_⟩⟩
      · have := (lt1_nI hk).mp y1
        exact add 0 0 (by rw [e3' (by omega)]; exact z0) (by rw [e4' (by omega)]; exact z0)
      · have := (lt1_nI hk).mp y1
        exact absurd ((lt2_nI hk).mpr (by omega)) y2
      · have q1 : ¬ G.k o < 1 := fun u => y1 ((lt1_nI hk).mpr u)
        have := (lt2_nI hk).mp y2
        exact add p3 0 (e3 (by omega)) (by rw [e4' (by omega)]; exact z0)
      · have q1 : ¬ G.k o < 1 := fun u => y1 ((lt1_nI hk).mpr u)
        have q2 : ¬ G.k o < 2 := fun u => y2 ((lt2_nI hk).mpr u)
        exact add p3 p4 (e3 (by omega)) (e4 (by omega))
    · right
      refine c_base_go I.g I.gc g8 oO (fun z => absurd z nob) (fun _ => ?_)
      unfold wp_C_base_J76
      exact Or.inl (c_cost1 c20 (Or.inr (w_checkRoom (fun z => absurd z (by rw [I.gc.nR, lt40_nI hR]; omega)) (fun _ => Or.inr ⟨rfl, h2 g o a b c B (by omega)⟩))))
theorem m_base_J36 {post : Int32 → ctN → ctF → Prop} {n : ctN} {f : ctF} {p1 p2 p3 p4 p5 : Int32} (h : post 0 (va_up n 3 1) f) : wp_M_base_J92 post p1 p2 p3 p4 p5 n f ∧ wp_M_base_J36 post p1 p2 p3 p4 p5 n f := by
  have J92 : wp_M_base_J92 post p1 p2 p3 p4 p5 n f := by
    unfold wp_M_base_J92 wp_M_base_J93
    refine ⟨fun z => absurd rfl z, fun _ => ?_⟩
    unfold wp_M_base_J106 wp_M_base_J120
    exact ⟨fun _ => m_ref1 ⟨fun z => absurd z (by decide), fun _ => h⟩, fun _ => m_ref1 ⟨fun z => absurd z (by decide), fun _ => h⟩⟩
  refine ⟨J92, ?_⟩
  unfold wp_M_base_J36 wp_M_base_J37
  refine ⟨fun _ => ?_, fun z => absurd rfl z⟩
  unfold wp_M_base_J54
  exact ⟨fun _ => J92, fun z => absurd rfl z⟩
/-- the reference's way through base, down to whether there is room -/
theorem m_base_go {post : Int32 → ctN → ctF → Prop} {n : ctN} {f : ctF} {G : GD} {g o c : Nat} {p3 p4 : Int32} (hG : G.ok) (hM : gM G n f) (hg : g < 8) (ho : o < G.O) (hc : c ≤ 20) (hx : (1 ≤ G.k o ∧ badIx p3 8 ∨ 2 ≤ G.k o ∧ badIx p4 8) → post 0 (va_up n 3 1) f)
    (H : ¬ (1 ≤ G.k o ∧ badIx p3 8 ∨ 2 ≤ G.k o ∧ badIx p4 8) → wp_M_base_J106 post (nI g) (nI o) p3 p4 (nI c) 0 n f) : wp_M_base post (nI g) (nI o) p3 p4 (nI c) n f := by
  have hO := hG.O10
  have hk := hG.k2 o ho
  have J88 : ¬ (1 ≤ G.k o ∧ badIx p3 8 ∨ 2 ≤ G.k o ∧ badIx p4 8) → wp_M_base_J88 post (nI g) (nI o) p3 p4 (nI c) n f := by
    intro h
    unfold wp_M_base_J88 wp_M_base_J93
    exact ⟨fun _ => H h, fun z => absurd z (by decide)⟩
  have J74 : ¬ (1 ≤ G.k o ∧ badIx p3 8) → wp_M_base_J74 post (nI g) (nI o) p3 p4 (nI c) (nI (G.k o)) n f := by
    intro h3
    unfold wp_M_base_J74
    refine ⟨fun z => J88 (fun u => u.elim h3 (fun u => by have := (lt2_nI hk).mp z; omega)), fun z => ?_⟩
    have z2 : 2 ≤ G.k o := by
      have : ¬ G.k o < 2 := fun y => z ((lt2_nI hk).mpr y)
      omega
    rcases ix_or p4 (N := 8) (by decide) with hp | ⟨h2, hh2, rfl⟩
    · exact m_goal0 hp ⟨fun _ => (m_base_J36 (hx (Or.inr ⟨z2, hp⟩))).1, fun y => absurd rfl y⟩
    · exact m_goal1 hh2 ⟨fun y => absurd y (by decide), fun _ => J88 (fun u => u.elim h3 (fun u => ix_no hh2 (by decide) u.2))⟩
  unfold wp_M_base
  refine m_goal1 hg ⟨fun z => absurd z (by decide), fun _ => m_in1 hM.nO (by omega) ho ⟨fun z => absurd z (by decide), fun _ => m_cost1 hc ⟨fun z => absurd z (by decide), fun _ => ?_⟩⟩⟩
  unfold wp_M_base_J37
  rw [nI_clamp (by omega), hM.pa o ho]
  refine ⟨fun z => absurd z (by decide), fun _ => ⟨vp_in_nI (by omega) (by decide), ?_⟩⟩
  unfold wp_M_base_J54
  refine ⟨fun z => absurd z (by decide), fun _ => ⟨fun z => J74 (fun u => by have := (lt1_nI hk).mp z; omega), fun z => ?_⟩⟩
  have z1 : 1 ≤ G.k o := by
    have : ¬ G.k o < 1 := fun y => z ((lt1_nI hk).mpr y)
    omega
  rcases ix_or p3 (N := 8) (by decide) with hp | ⟨h1, hh1, rfl⟩
  · exact m_goal0 hp ⟨fun _ => (m_base_J36 (hx (Or.inl ⟨z1, hp⟩))).1, fun y => absurd rfl y⟩
  · exact m_goal1 hh1 ⟨fun y => absurd y (by decide), fun _ => J74 (fun u => ix_no hh1 (by decide) u.2)⟩
theorem lm_base_bad {post : Int32 → ctN → ctF → Prop} {n : ctN} {f : ctF} {G : GD} {p1 p2 p3 p4 p5 : Int32} (hG : G.ok) (hM : gM G n f) (hb : bBad G p1 p2 p3 p4 p5) (h : post 0 (va_up n 3 1) f) : wp_M_base post p1 p2 p3 p4 p5 n f := by
  have J36 := (m_base_J36 (p1 := p1) (p2 := p2) (p3 := p3) (p4 := p4) (p5 := p5) h).2
  have hO := hG.O10
  rcases ix_or p1 (N := 8) (by decide) with hp | ⟨g, hg, rfl⟩
  · unfold wp_M_base
    exact m_goal0 hp ⟨fun _ => J36, fun z => absurd rfl z⟩
  · rcases ix_or p2 (N := G.O) (by omega) with hq | ⟨o, ho, rfl⟩
    · unfold wp_M_base
      exact m_goal1 hg ⟨fun z => absurd z (by decide), fun _ => m_in0 hM.nO (by omega) hq ⟨fun _ => J36, fun z => absurd rfl z⟩⟩
    · rcases cost_or p5 with h5 | ⟨c, hc, rfl⟩
      · unfold wp_M_base
        exact m_goal1 hg ⟨fun z => absurd z (by decide), fun _ => m_in1 hM.nO (by omega) ho ⟨fun z => absurd z (by decide), fun _ => m_cost0 h5 ⟨fun _ => J36, fun z => absurd rfl z⟩⟩⟩
      · refine m_base_go hG hM hg ho hc (fun _ => h) (fun hno => ?_)
        exfalso
        rcases hb with z | z | ⟨o2, ho2, e, z⟩ | z
        · exact ix_no hg (by decide) z
        · exact ix_no ho (by omega) z
        · rw [nI_eq (by omega) (by omega)] at e
          subst e
          exact hno z
        · exact z.elim (nI_pos (by omega)) (fun u => u (le20_nI hc))
theorem bGood.no {G : GD} {p1 p2 p3 p4 p5 : Int32} {g o a b c : Nat} (B : bGood G p1 p2 p3 p4 p5 g o a b c) : ¬ (1 ≤ G.k o ∧ badIx p3 8 ∨ 2 ≤ G.k o ∧ badIx p4 8) := by
  rintro (⟨z1, z2⟩ | ⟨z1, z2⟩)
  · rw [B.e3 z1] at z2; exact ix_no B.h18 (by decide) z2
  · rw [B.e4 z1] at z2; exact ix_no B.h28 (by decide) z2
theorem lm_base_full {post : Int32 → ctN → ctF → Prop} {n : ctN} {f : ctF} {G : GD} {p1 p2 p3 p4 p5 : Int32} {g o a b c : Nat} (hG : G.ok) (hM : gM G n f) (B : bGood G p1 p2 p3 p4 p5 g o a b c) (hR : G.R = 40) (H : post 0 (va_up n 3 2) f) : wp_M_base post p1 p2 p3 p4 p5 n f := by
  rw [B.e1, B.e2, B.e5]
  refine m_base_go hG hM B.g8 B.oO B.c20 (fun z => absurd z B.no) (fun _ => ?_)
  unfold wp_M_base_J106
  refine ⟨fun z => absurd (by rw [hM.nR, hR]; decide) z, fun _ => ?_⟩
  unfold wp_M_base_J120
  exact m_ref2 ⟨fun z => absurd z (by decide), fun _ => H⟩
theorem lm_base_ok {post : Int32 → ctN → ctF → Prop} {n : ctN} {f : ctF} {G : GD} {T : TD} {p1 p2 p3 p4 p5 : Int32} {g o a b c : Nat} (hG : G.ok) (A : AR G T g (some o) a b c n f) (B : bGood G p1 p2 p3 p4 p5 g o a b c) (hR : G.R < 40) (H : ∀ n' f', IV (G.addR g (some o) a b c) T.zero n' f' → n' 3 = 0 → f' 32 0 = nI G.R → post (nI G.R) n' f') : wp_M_base post p1 p2 p3 p4 p5 n f := by
  rw [B.e1, B.e2, B.e5]
  refine m_base_go hG A.gm B.g8 B.oO B.c20 (fun z => absurd z B.no) (fun _ => ?_)
  unfold wp_M_base_J106
  refine ⟨fun _ => ?_, fun z => absurd z (by rw [A.gm.nR]; exact ne40_nI hR)⟩
  unfold wp_M_base_J120
  refine m_ref0 ⟨fun _ => ?_, fun z => absurd rfl z⟩
  refine m_add (R := G.R) (by rw [va_up_ne _ _ (by decide)]; exact A.gm.nR) hR (fun f' e20 e22 e23 e24 e21 eo => ?_)
  refine H _ f' (A.inv hG B.g8 B.h18 B.h28 B.c20 (fun o2 z => by cases z; exact B.oO) hR (x3 := p3) (x4 := p4) (fun z => nomatch z) (fun o2 z => by cases z; exact ⟨B.e3, B.e4⟩) e20 e22 e23 e24 e21 eo) ?_ ?_
  · rw [va_up_ne _ _ (by decide), va_up_ne _ _ (by decide), va_up_self]
  · rw [eo 32 (by decide)]; exact A.out
end
section
/-! node -/
def TD.addN (T : TD) (o a b : Nat) (C : Nat → Option Nat) : TD := TD.mk (T.N + 1) (va_up T.kd T.N o) (va_up T.u1 T.N a) (va_up T.u2 T.N b) (va_up T.C T.N C)
def nGood (G : GD) (T : TD) (p1 p2 p3 : Int32) (o a b : Nat) : Prop := (o < G.O) ∧ (p1 = nI o) ∧ (1 ≤ G.k o → p2 = nI a ∧ a < T.N) ∧ (¬ 1 ≤ G.k o → a = 0) ∧ (2 ≤ G.k o → p3 = nI b ∧ b < T.N) ∧ (¬ 2 ≤ G.k o → b = 0)
theorem nGood.oO {G : GD} {T : TD} {p1 p2 p3 : Int32} {o a b : Nat} (h : nGood G T p1 p2 p3 o a b) : o < G.O := h.1
theorem nGood.e1 {G : GD} {T : TD} {p1 p2 p3 : Int32} {o a b : Nat} (h : nGood G T p1 p2 p3 o a b) : p1 = nI o := h.2.1
theorem nGood.e2 {G : GD} {T : TD} {p1 p2 p3 : Int32} {o a b : Nat} (h : nGood G T p1 p2 p3 o a b) : 1 ≤ G.k o → p2 = nI a ∧ a < T.N := h.2.2.1
theorem nGood.e2' {G : GD} {T : TD} {p1 p2 p3 : Int32} {o a b : Nat} (h : nGood G T p1 p2 p3 o a b) : ¬ 1 ≤ G.k o → a = 0 := h.2.2.2.1
theorem nGood.e3 {G : GD} {T : TD} {p1 p2 p3 : Int32} {o a b : Nat} (h : nGood G T p1 p2 p3 o a b) : 2 ≤ G.k o → p3 = nI b ∧ b < T.N := h.2.2.2.2.1
theorem nGood.e3' {G : GD} {T : TD} {p1 p2 p3 : Int32} {o a b : Nat} (h : nGood G T p1 p2 p3 o a b) : ¬ 2 ≤ G.k o → b = 0 := h.2.2.2.2.2
def nBad (G : GD) (T : TD) (p1 p2 p3 : Int32) : Prop := badIx p1 G.O ∨ ∃ o, o < G.O ∧ p1 = nI o ∧ (1 ≤ G.k o ∧ badIx p2 T.N ∨ 2 ≤ G.k o ∧ badIx p3 T.N)
theorem n_part (c : Prop) (p : Int32) {N : Nat} (hN : N ≤ 120) : (c ∧ badIx p N) ∨ ∃ h, (c → p = nI h ∧ h < N) ∧ (¬ c → h = 0) := by
  by_cases hc : c
  · rcases ix_or p (N := N) (by omega) with hp | ⟨h, hh, rfl⟩
    · exact Or.inl ⟨hc, hp⟩
    · exact Or.inr ⟨h, fun _ => ⟨rfl, hh⟩, fun z => absurd hc z⟩
  · exact Or.inr ⟨0, fun z => absurd z hc, fun _ => rfl⟩
theorem n_or {G : GD} {T : TD} (hG : G.ok) (hT : T.ok G) (p1 p2 p3 : Int32) : nBad G T p1 p2 p3 ∨ ∃ o a b, nGood G T p1 p2 p3 o a b := by
  unfold nBad
  rcases ix_or p1 (N := G.O) (by have := hG.O10; omega) with hq | ⟨o, ho, e1⟩
  · exact Or.inl (Or.inl hq)
  · rcases n_part (1 ≤ G.k o) p2 hT.N120 with h2 | ⟨a, e2, e2'⟩
    · exact Or.inl (Or.inr ⟨o, ho, e1, Or.inl h2⟩)
    · rcases n_part (2 ≤ G.k o) p3 hT.N120 with h3 | ⟨b, e3, e3'⟩
      · exact Or.inl (Or.inr ⟨o, ho, e1, Or.inr h3⟩)
      · exact Or.inr ⟨o, a, b, ho, e1, e2, e2', e3, e3'⟩
theorem nGood.no {G : GD} {T : TD} (hT : T.ok G) {p1 p2 p3 : Int32} {o a b : Nat} (B : nGood G T p1 p2 p3 o a b) : ¬ (1 ≤ G.k o ∧ badIx p2 T.N ∨ 2 ≤ G.k o ∧ badIx p3 T.N) := by
  have := hT.N120
  rintro (⟨z1, z2⟩ | ⟨z1, z2⟩)
  · rw [(B.e2 z1).1] at z2; exact ix_no (B.e2 z1).2 (by omega) z2
  · rw [(B.e3 z1).1] at z2; exact ix_no (B.e3 z1).2 (by omega) z2
theorem addN_ok {G : GD} {T : TD} (hT : T.ok G) {p1 p2 p3 : Int32} {o a b : Nat} (B : nGood G T p1 p2 p3 o a b) (hN : T.N < 120) {C : Nat → Option Nat} (hC : ∀ g x, C g = some x → x ≤ 1000000) : (T.addN o a b C).ok G := by
  refine ⟨hN, fun v hv => ?_, fun v g x hv hx => ?_⟩
  · show va_up T.kd T.N o v < G.O ∧ va_up T.u1 T.N a v ≤ v ∧ va_up T.u2 T.N b v ≤ v ∧ (1 ≤ G.k (va_up T.kd T.N o v) → va_up T.u1 T.N a v < v ∧ va_up T.u2 T.N b v < v)
    by_cases e : v = T.N
    · subst e
      rw [va_up_self, va_up_self, va_up_self]
      have ha : 1 ≤ G.k o → a < T.N := fun z => (B.e2 z).2
      have hb : 2 ≤ G.k o → b < T.N := fun z => (B.e3 z).2
      have ha' := B.e2'
      have hb' := B.e3'
      refine ⟨B.oO, ?_, ?_, fun z => ⟨ha z, ?_⟩⟩
      · by_cases z : 1 ≤ G.k o
        · have := ha z; omega
        · rw [ha' z]; omega
      · by_cases z : 2 ≤ G.k o
        · have := hb z; omega
        · rw [hb' z]; omega
      · by_cases z2 : 2 ≤ G.k o
        · exact hb z2
        · rw [hb' z2]; have := ha z; omega
    · rw [va_up_ne _ _ e, va_up_ne _ _ e, va_up_ne _ _ e]
      exact hT.nd v (by have : v < T.N + 1 := hv; omega)
  · have hx : va_up T.C T.N C v g = some x := hx
    by_cases e : v = T.N
    · subst e
      rw [va_up_self] at hx
      exact hC g x hx
    · rw [va_up_ne _ _ e] at hx
      exact hT.mo v g x (by have : v < T.N + 1 := hv; omega) hx
theorem c_node_go {post : Int32 → ctN → ctF → Prop} {xp : String → ctN → ctF → Prop} {n : ctN} {f : ctF} {G : GD} {T : TD} {o : Nat} {p2 p3 : Int32} (hG : G.ok) (hT : T.ok G) (hC : gC G n f) (hD : tC G T n f) (ho : o < G.O) (hx : (1 ≤ G.k o ∧ badIx p2 T.N ∨ 2 ≤ G.k o ∧ badIx p3 T.N) → xp "java/lang/IllegalArgumentException" n f)
    (H : ¬ (1 ≤ G.k o ∧ badIx p2 T.N ∨ 2 ≤ G.k o ∧ badIx p3 T.N) → wp_C_node_J76 post xp (nI o) p2 p3 (nI (G.k o)) n f) : wp_C_node post xp (nI o) p2 p3 n f := by
  have hO := hG.O10
  have hk := hG.k2 o ho
  have hN := hT.N120
  have J49 : ¬ (1 ≤ G.k o ∧ badIx p2 T.N) → wp_C_node_J49 post xp (nI o) p2 p3 (nI (G.k o)) n f := by
    intro h2
    unfold wp_C_node_J49
    refine ⟨fun z => H (fun u => u.elim h2 (fun u => by have := (lt2_nI hk).mp z; omega)), fun z => ?_⟩
    have z2 : 2 ≤ G.k o := by
      have : ¬ G.k o < 2 := fun y => z ((lt2_nI hk).mpr y)
      omega
    rcases ix_or p3 (N := T.N) (by omega) with hp | ⟨b, hb, rfl⟩
    · exact c_has0 hD.nN hp ⟨fun y => absurd rfl y, fun _ => hx (Or.inr ⟨z2, hp⟩)⟩
    · exact c_has1 hD.nN hN hb ⟨fun _ => H (fun u => u.elim h2 (fun u => ix_no hb (by omega) u.2)), fun y => absurd y (by decide)⟩
  unfold wp_C_node
  refine c_op1 hC.nO hO ho ⟨fun _ => ⟨vp_in_nI (by omega) (by decide), ?_⟩, fun z => absurd z (by decide)⟩
  rw [nI_clamp (by omega), hC.pa o ho]
  rintro _ rfl
  refine ⟨fun z => J49 (fun u => by have := (lt1_nI hk).mp z; omega), fun z => ?_⟩
  have z1 : 1 ≤ G.k o := by
    have : ¬ G.k o < 1 := fun y => z ((lt1_nI hk).mpr y)
    omega
  rcases ix_or p2 (N := T.N) (by omega) with hp | ⟨a, ha, rfl⟩
  · exact c_has0 hD.nN hp ⟨fun _ => hx (Or.inl ⟨z1, hp⟩), fun y => absurd rfl y⟩
  · exact c_has1 hD.nN hN ha ⟨fun y => absurd y (by decide), fun _ => J49 (fun u => ix_no ha (by omega) u.2)⟩
theorem lt120_nI {j : Nat} (h : j ≤ 120) : nI j < 120 ↔ j < 120 := by
  rw [show (120 : Int32) = nI 120 by decide]; exact nI_ltI (by omega) (by decide)
/-- the class's way from room for a node to its draft -/
theorem c_node_draft {post : Int32 → ctN → ctF → Prop} {xp : String → ctN → ctF → Prop} {n : ctN} {f : ctF} {G : GD} {T : TD} {p1 p2 p3 : Int32} {o a b : Nat} (hG : G.ok) (hD : tC G T n f) (B : nGood G T p1 p2 p3 o a b) (hN : T.N < 120) (H : wp_C_node_J125 post xp (nI b) (nI a) (nI o) n f) : wp_C_node_J76 post xp (nI o) p2 p3 (nI (G.k o)) n f := by
  have hk := hG.k2 o B.oO
  have z0 : (0 : Int32) = nI 0 := nI_0.symm
  have J114 : ∀ x, x = nI a → wp_C_node_J114 post xp p3 (nI (G.k o)) x (nI o) n f := by
    rintro _ rfl
    unfold wp_C_node_J114
    refine ⟨fun z => ?_, fun z => ?_⟩
    · have := (lt2_nI hk).mp z
      rw [z0, ← B.e3' (by omega)]
      exact H
    · have q2 : ¬ G.k o < 2 := fun u => z ((lt2_nI hk).mpr u)
      rw [(B.e3 (by omega)).1]
      exact H
  unfold wp_C_node_J76
  refine ⟨fun _ => ⟨fun z => J114 0 ?_, fun z => J114 p2 ?_⟩, fun z => absurd (by rw [hD.nN, lt120_nI (by omega)]; exact hN) z⟩
  · have := (lt1_nI hk).mp z
    rw [B.e2' (by omega)]; exact z0
  · have q1 : ¬ G.k o < 1 := fun u => z ((lt1_nI hk).mpr u)
    exact (B.e2 (by omega)).1
/-- what the draft is to the class's own words on nodes: those before it stand -/
theorem draft_low {G : GD} {T : TD} {n : ctN} {f f' : ctF} {o a b : Nat} {pr C Q : Nat → Option Nat} (hC : gC G n f) (hD : tC G T n f) (E : stE G pr T.N (q_setN f T.N (nI o) (nI a) (nI b)) f' C Q) : gC G n f' ∧ tC G T n f' := by
  have s := E.same
  refine ⟨hC.up rfl rfl (fun k h1 h2 => by rw [s.1 k (by omega) (by omega) (by omega) (by omega) (by omega), setN_o _ _ _ _ _ (by omega) (by omega) (by omega)]), hD.nN, fun v hv => ?_, fun v g hv hg => ?_, fun v g hv hg => ?_⟩
  · rw [s.1 9 (by decide) (by decide) (by decide) (by decide) (by decide), s.1 10 (by decide) (by decide) (by decide) (by decide) (by decide), s.1 11 (by decide) (by decide) (by decide) (by decide) (by decide), setN_9, setN_10, setN_11, upd_ne _ _ (by omega), upd_ne _ _ (by omega), upd_ne _ _ (by omega)]
    exact hD.nd v hv
  · rw [(s.2.2 (8 * v + g) (by omega)).1, setN_o _ _ _ _ _ (by decide) (by decide) (by decide)]
    exact hD.co v g hv hg
  · rw [(s.2.2 (8 * v + g) (by omega)).2.1, (s.2.2 (8 * v + g) (by omega)).2.2, setN_o _ _ _ _ _ (by decide) (by decide) (by decide), setN_o _ _ _ _ _ (by decide) (by decide) (by decide)]
    exact hD.ru v g hv hg
theorem draft_new {G : GD} {T : TD} {n n' : ctN} {f f' f'' : ctF} {o a b : Nat} {pr C Q : Nat → Option Nat} (hC : gC G n f) (hD : tC G T n f) (E : stE G pr T.N (q_setN f T.N (nI o) (nI a) (nI b)) f' C Q) (e : ∀ k, k ≤ 17 → k ≠ 13 → f'' k = f' k) (e0 : n' 0 = n 0) (e1 : n' 1 = n 1) (e2 : n' 2 = nI (T.N + 1)) : gC G n' f'' ∧ tC G (T.addN o a b C) n' f'' := by
  obtain ⟨c1, d1⟩ := draft_low hC hD E
  have s := E.same
  refine ⟨c1.up e0 e1 (fun k _ _ => e k (by omega) (by omega)), e2, fun v hv => ?_, fun v g hv hg => ?_, fun v g hv hg => ?_⟩
  · show f'' 9 v = nI (va_up T.kd T.N o v) ∧ f'' 10 v = nI (va_up T.u1 T.N a v) ∧ f'' 11 v = nI (va_up T.u2 T.N b v)
    rw [e 9 (by decide) (by decide), e 10 (by decide) (by decide), e 11 (by decide) (by decide)]
    by_cases z : v = T.N
    · subst z
      rw [s.1 9 (by decide) (by decide) (by decide) (by decide) (by decide), s.1 10 (by decide) (by decide) (by decide) (by decide) (by decide), s.1 11 (by decide) (by decide) (by decide) (by decide) (by decide), setN_9, setN_10, setN_11, upd_self, upd_self, upd_self, va_up_self, va_up_self, va_up_self]
      exact ⟨rfl, rfl, rfl⟩
    · rw [va_up_ne _ _ z, va_up_ne _ _ z, va_up_ne _ _ z]
      exact d1.nd v (by have : v < T.N + 1 := hv; omega)
  · show f'' 14 (8 * v + g) = en (va_up T.C T.N C v g)
    rw [e 14 (by decide) (by decide)]
    by_cases z : v = T.N
    · subst z; rw [va_up_self]; exact (E.row.1 g hg).1
    · rw [va_up_ne _ _ z]; exact d1.co v g (by have : v < T.N + 1 := hv; omega) hg
  · rw [e 15 (by decide) (by decide), e 16 (by decide) (by decide)]
    by_cases z : v = T.N
    · subst z
      refine ⟨(E.siz g hg).1, ?_⟩
      rw [(E.row.1 g hg).2]
      cases q : Q g with
      | none => exact Or.inl ⟨rfl, (E.siz g hg).2 q⟩
      | some i => exact Or.inr ⟨i, E.rul g i q, rfl⟩
    · exact d1.ru v g (by have : v < T.N + 1 := hv; omega) hg
/-- the costs of a node: what no rule can better, and what some rules reach -/
def leastC (G : GD) (T : TD) (o a b : Nat) (C : Nat → Option Nat) : Prop := closedC G.R G.go (chG G) G.g1 G.co (prG G T o a b) C ∧ aboveC G.R G.go (chG G) G.g1 G.co (prG G T o a b) C
theorem sameC18 {G : GD} {T : TD} {f f' : ctF} {o a b : Nat} {pr C Q : Nat → Option Nat} (E : stE G pr T.N (q_setN f T.N (nI o) (nI a) (nI b)) f' C Q) {k : Nat} (hk : 18 ≤ k) : f' k = f k := by
  rw [E.same.1 k (by omega) (by omega) (by omega) (by omega) (by omega), setN_o _ _ _ _ _ (by omega) (by omega) (by omega)]
theorem lc_node {post : Int32 → ctN → ctF → Prop} {n : ctN} {f : ctF} {G : GD} {T : TD} {p1 p2 p3 : Int32} (I : IV G T n f) (h1 : nBad G T p1 p2 p3 → post 1 n f) (h2 : ∀ o a b, nGood G T p1 p2 p3 o a b → T.N = 120 → post 2 n f)
    (h3 : ∀ o a b C, nGood G T p1 p2 p3 o a b → T.N < 120 → leastC G T o a b C → dearTo C 8 → ∀ f', IV G T n f' → post 2 n f')
    (h0 : ∀ o a b C, nGood G T p1 p2 p3 o a b → T.N < 120 → leastC G T o a b C → ¬ dearTo C 8 → ∀ n' f', gC G n' f' → tC G (T.addN o a b C) n' f' → gM G n' f' → tM G T n' f' → f' 32 0 = nI T.N → post 0 n' f') : wp_L_node post p1 p2 p3 n f := by
  have hN := I.t.N120
  unfold wp_L_node
  rcases n_or I.g I.t p1 p2 p3 with hb | ⟨o, a, b, B⟩
  · right
    have H := h1 hb
    rcases ix_or p1 (N := G.O) (by have := I.g.O10; omega) with hq | ⟨o, ho, rfl⟩
    · unfold wp_C_node
      exact c_op0 I.gc.nO hq ⟨fun z => absurd rfl z, fun _ => Or.inl ⟨rfl, H⟩⟩
    · refine c_node_go I.g I.t I.gc I.tc ho (fun _ => Or.inl ⟨rfl, H⟩) (fun hno => ?_)
      exfalso
      rcases hb with z | ⟨o2, ho2, e, z⟩
      · exact ix_no ho (by have := I.g.O10; omega) z
      · have hO := I.g.O10
        rw [nI_eq (by omega) (by omega)] at e
        subst e
        exact hno z
  · have ha : 1 ≤ G.k o → a < T.N := fun z => (B.e2 z).2
    have hb : 2 ≤ G.k o → b < T.N := fun z => (B.e3 z).2
    rw [B.e1]
    rcases Nat.lt_or_ge T.N 120 with hN2 | hN2
    · -- decide the outcome by the draft itself: both sides of the or are tried on it
      have key : ∀ f' C Q, stE G (prG G T o a b) T.N (q_setN f T.N (nI o) (nI a) (nI b)) f' C Q → (¬ dearTo C 8 → wp_F_keepDraft (fun (r : Int32) (n : ctN) (f : ctF) => ∀ f2 : ctF, f2 = va_up f 32 (upd (f 32) 0 r) → post 0 n f2) n f') := by
        intro f' C Q E hd
        refine w_keepDraft I.tc.nN hN2 (fun m _ _ _ => ?_)
        rintro f2 hf2
        have e : ∀ k, k ≠ 13 → k ≠ 32 → f2 k = f' k := fun k z1 z2 => by rw [hf2, va_up_ne _ _ z2, va_up_ne _ _ z1]
        have en : ∀ k, k ≠ 2 → va_up n 2 (nI (T.N + 1)) k = n k := fun k z => va_up_ne _ _ z
        obtain ⟨c1, d1⟩ := draft_new (n' := va_up n 2 (nI (T.N + 1))) (f'' := f2) I.gc I.tc E (fun k z1 z2 => e k z2 (by omega)) (en 0 (by decide)) (en 1 (by decide)) (va_up_self _ _ _)
        exact h0 o a b C B hN2 ⟨E.clo, E.abv⟩ hd _ f2 c1 d1 (I.gm.up (en 4 (by decide)) (en 5 (by decide)) (fun k z1 z2 => by rw [e k (by omega) (by omega), sameC18 E (by omega)])) (I.tm.up (en 6 (by decide)) (fun k z1 z2 => by rw [e k (by omega) (by omega), sameC18 E (by omega)])) (by rw [hf2, va_up_self, upd_self])
      by_cases hd : ∃ C, leastC G T o a b C ∧ dearTo C 8
      · right
        obtain ⟨C0, hl, hd⟩ := hd
        refine c_node_go I.g I.t I.gc I.tc B.oO (fun z => absurd z (B.no I.t)) (fun _ => c_node_draft I.g I.tc B hN2 ?_)
        unfold wp_C_node_J125
        refine w_draft I.g I.t I.gc I.tc hN2 B.oO ha hb (fun f' C Q E => ?_)
        have eC : C = C0 := funext (least_one E.clo E.abv hl.1 hl.2)
        subst eC
        refine w_tooDear (N := T.N) I.tc.nN hN2 E.row (fun _ => ⟨fun z => absurd z (by decide), fun _ => Or.inr ⟨rfl, ?_⟩⟩) (fun z => ?_)
        · obtain ⟨c1, d1⟩ := draft_low I.gc I.tc E
          exact h3 o a b C B hN2 ⟨E.clo, E.abv⟩ hd f' ⟨I.g, I.t, c1, d1, I.gm.up rfl rfl (fun k z1 z2 => sameC18 E (by omega)), I.tm.up rfl (fun k z1 z2 => sameC18 E (by omega))⟩
        · exfalso
          obtain ⟨g, x, hg, hx, hgt⟩ := hd
          have := z g x hg hx
          omega
      · left
        refine c_node_go I.g I.t I.gc I.tc B.oO (fun z => absurd z (B.no I.t)) (fun _ => c_node_draft I.g I.tc B hN2 ?_)
        unfold wp_C_node_J125
        refine w_draft I.g I.t I.gc I.tc hN2 B.oO ha hb (fun f' C Q E => ?_)
        refine w_tooDear (N := T.N) I.tc.nN hN2 E.row (fun z => absurd ⟨C, ⟨E.clo, E.abv⟩, z⟩ hd) (fun z => ⟨fun _ => key f' C Q E (fun w => hd ⟨C, ⟨E.clo, E.abv⟩, w⟩), fun w => absurd rfl w⟩)
    · right
      refine c_node_go I.g I.t I.gc I.tc B.oO (fun z => absurd z (B.no I.t)) (fun _ => ?_)
      unfold wp_C_node_J76
      exact ⟨fun z => absurd z (by rw [I.tc.nN, lt120_nI hN]; omega), fun _ => Or.inr ⟨rfl, h2 o a b B (by omega)⟩⟩
/-- the reference's -/
theorem m_node_J67 {post : Int32 → ctN → ctF → Prop} {n : ctN} {f : ctF} {p1 p2 p3 x5 : Int32} (h : post 0 (va_up n 3 1) f) : wp_M_node_J67 post p1 p2 p3 x5 n f := by
  unfold wp_M_node_J67 wp_M_node_J68
  refine ⟨fun z => absurd rfl z, fun _ => ?_⟩
  unfold wp_M_node_J81 wp_M_node_J95
  exact ⟨fun _ => m_ref1 ⟨fun z => absurd z (by decide), fun _ => h⟩, fun _ => m_ref1 ⟨fun z => absurd z (by decide), fun _ => h⟩⟩
theorem m_node_go {post : Int32 → ctN → ctF → Prop} {n : ctN} {f : ctF} {G : GD} {T : TD} {o : Nat} {p2 p3 : Int32} (hG : G.ok) (hT : T.ok G) (hM : gM G n f) (hN6 : n 6 = nI T.N) (ho : o < G.O) (hx : (1 ≤ G.k o ∧ badIx p2 T.N ∨ 2 ≤ G.k o ∧ badIx p3 T.N) → post 0 (va_up n 3 1) f)
    (H : ¬ (1 ≤ G.k o ∧ badIx p2 T.N ∨ 2 ≤ G.k o ∧ badIx p3 T.N) → wp_M_node_J81 post (nI o) p2 p3 (nI (G.k o)) 0 n f) : wp_M_node post (nI o) p2 p3 n f := by
  have hO := hG.O10
  have hk := hG.k2 o ho
  have hN := hT.N120
  have J63 : ¬ (1 ≤ G.k o ∧ badIx p2 T.N ∨ 2 ≤ G.k o ∧ badIx p3 T.N) → wp_M_node_J63 post (nI o) p2 p3 (nI (G.k o)) n f := by
    intro h
    unfold wp_M_node_J63 wp_M_node_J68
    exact ⟨fun _ => H h, fun z => absurd z (by decide)⟩
  have J49 : ¬ (1 ≤ G.k o ∧ badIx p2 T.N) → wp_M_node_J49 post (nI o) p2 p3 (nI (G.k o)) n f := by
    intro h2
    unfold wp_M_node_J49
    refine ⟨fun z => J63 (fun u => u.elim h2 (fun u => by have := (lt2_nI hk).mp z; omega)), fun z => ?_⟩
    have z2 : 2 ≤ G.k o := by
      have : ¬ G.k o < 2 := fun y => z ((lt2_nI hk).mpr y)
      omega
    rcases ix_or p3 (N := T.N) (by omega) with hp | ⟨b, hb, rfl⟩
    · exact m_node0 hN6 hN hp ⟨fun _ => m_node_J67 (hx (Or.inr ⟨z2, hp⟩)), fun y => absurd rfl y⟩
    · exact m_node1 hN6 hN hb ⟨fun y => absurd y (by decide), fun _ => J63 (fun u => u.elim h2 (fun u => ix_no hb (by omega) u.2))⟩
  unfold wp_M_node
  refine m_in1 hM.nO (by omega) ho ⟨fun z => absurd z (by decide), fun _ => ⟨vp_in_nI (by omega) (by decide), ?_⟩⟩
  rw [nI_clamp (by omega), hM.pa o ho]
  unfold wp_M_node_J28
  refine ⟨fun z => absurd z (by decide), fun _ => ⟨fun z => J49 (fun u => by have := (lt1_nI hk).mp z; omega), fun z => ?_⟩⟩
  have z1 : 1 ≤ G.k o := by
    have : ¬ G.k o < 1 := fun y => z ((lt1_nI hk).mpr y)
    omega
  rcases ix_or p2 (N := T.N) (by omega) with hp | ⟨a, ha, rfl⟩
  · exact m_node0 hN6 hN hp ⟨fun _ => m_node_J67 (hx (Or.inl ⟨z1, hp⟩)), fun y => absurd rfl y⟩
  · exact m_node1 hN6 hN ha ⟨fun y => absurd y (by decide), fun _ => J49 (fun u => ix_no ha (by omega) u.2)⟩
theorem lm_node_bad {post : Int32 → ctN → ctF → Prop} {n : ctN} {f : ctF} {G : GD} {T : TD} {p1 p2 p3 : Int32} (hG : G.ok) (hT : T.ok G) (hM : gM G n f) (hN6 : n 6 = nI T.N) (hb : nBad G T p1 p2 p3) (h : post 0 (va_up n 3 1) f) : wp_M_node post p1 p2 p3 n f := by
  have hO := hG.O10
  rcases ix_or p1 (N := G.O) (by omega) with hq | ⟨o, ho, rfl⟩
  · unfold wp_M_node
    refine m_in0 hM.nO (by omega) hq ⟨fun _ => ?_, fun z => absurd rfl z⟩
    unfold wp_M_node_J28
    exact ⟨fun _ => m_node_J67 h, fun z => absurd rfl z⟩
  · refine m_node_go hG hT hM hN6 ho (fun _ => h) (fun hno => ?_)
    exfalso
    rcases hb with z | ⟨o2, ho2, e, z⟩
    · exact ix_no ho (by omega) z
    · rw [nI_eq (by omega) (by omega)] at e
      subst e
      exact hno z
theorem lm_node_full {post : Int32 → ctN → ctF → Prop} {n : ctN} {f : ctF} {G : GD} {T : TD} {p1 p2 p3 : Int32} {o a b : Nat} (hG : G.ok) (hT : T.ok G) (hM : gM G n f) (hN6 : n 6 = nI T.N) (B : nGood G T p1 p2 p3 o a b) (hN : T.N = 120) (h : post 0 (va_up n 3 2) f) : wp_M_node post p1 p2 p3 n f := by
  rw [B.e1]
  refine m_node_go hG hT hM hN6 B.oO (fun z => absurd z (B.no hT)) (fun _ => ?_)
  unfold wp_M_node_J81
  refine ⟨fun z => absurd (by rw [hN6, hN]; decide) z, fun _ => ?_⟩
  unfold wp_M_node_J95
  exact m_ref2 ⟨fun z => absurd z (by decide), fun _ => h⟩
/-- the reference's operator and parts of the new node written down -/
def q_setM (f : ctF) (N : Nat) (o a b : Int32) : ctF := va_up (va_up (va_up f 25 (upd (f 25) N o)) 26 (upd (f 26) N a)) 27 (upd (f 27) N b)
theorem setM_25 (f : ctF) (N : Nat) (o a b : Int32) : q_setM f N o a b 25 = upd (f 25) N o := by
  unfold q_setM; rw [va_up_ne _ _ (by decide), va_up_ne _ _ (by decide), va_up_self]
theorem setM_26 (f : ctF) (N : Nat) (o a b : Int32) : q_setM f N o a b 26 = upd (f 26) N a := by
  unfold q_setM; rw [va_up_ne _ _ (by decide), va_up_self]
theorem setM_27 (f : ctF) (N : Nat) (o a b : Int32) : q_setM f N o a b 27 = upd (f 27) N b := by
  unfold q_setM; rw [va_up_self]
theorem setM_o (f : ctF) (N : Nat) (o a b : Int32) {k : Nat} (h9 : k ≠ 25) (h10 : k ≠ 26) (h11 : k ≠ 27) : q_setM f N o a b k = f k := by
  unfold q_setM; rw [va_up_ne _ _ h11, va_up_ne _ _ h10, va_up_ne _ _ h9]
theorem lm_node_go {post : Int32 → ctN → ctF → Prop} {n : ctN} {f : ctF} {G : GD} {T : TD} {p1 p2 p3 : Int32} {o a b : Nat} {C : Nat → Option Nat} (hG : G.ok) (hT : T.ok G) (hM : gM G n f) (hD : tM G T n f) (B : nGood G T p1 p2 p3 o a b) (hN : T.N < 120) (hl : leastC G T o a b C)
    (h1 : dearTo C 8 → ∀ f', sameM T.N (q_setM f T.N (nI o) (nI a) (nI b)) f' → post 0 (va_up n 3 2) f')
    (h0 : ¬ dearTo C 8 → ∀ f', nE G T o a b (q_setM f T.N (nI o) (nI a) (nI b)) f' C → ∀ n', (∀ k, k ≠ 3 → k ≠ 6 → n' k = n k) → n' 3 = 0 → n' 6 = nI (T.N + 1) → post (nI T.N) n' f') : wp_M_node post p1 p2 p3 n f := by
  have hk := hG.k2 o B.oO
  have ha : 1 ≤ G.k o → a < T.N := fun z => (B.e2 z).2
  have hb : 2 ≤ G.k o → b < T.N := fun z => (B.e3 z).2
  have z0 : (0 : Int32) = nI 0 := nI_0.symm
  have hNc : (nI T.N).toNatClampNeg = T.N := nI_clamp (by omega)
  have hNi : vp_in (nI T.N) 120 := vp_in_nI hN (by decide)
  have k0 : nI (G.k o) ≤ 0 ↔ G.k o ≤ 0 := by rw [show (0 : Int32) = nI 0 by decide]; exact nI_leI (by omega) (by decide)
  have k1 : nI (G.k o) ≤ 1 ↔ G.k o ≤ 1 := by rw [show (1 : Int32) = nI 1 by decide]; exact nI_leI (by omega) (by decide)
  rw [B.e1]
  refine m_node_go hG hT hM hD.nN B.oO (fun z => absurd z (B.no hT)) (fun _ => ?_)
  unfold wp_M_node_J81
  refine ⟨fun _ => ?_, fun z => absurd z (by rw [hD.nN, show (120 : Int32) = nI 120 by decide, nI_eq (by omega) (by decide)]; omega)⟩
  unfold wp_M_node_J95
  have n6 : va_up n 3 0 6 = nI T.N := by rw [va_up_ne _ _ (by decide)]; exact hD.nN
  refine m_ref0 ⟨fun _ => ?_, fun z => absurd rfl z⟩
  rw [n6, hNc]
  refine ⟨hNi, ?_⟩
  rintro _ rfl
  have J152 : ∀ x y : Int32, x = nI a → y = nI b → wp_M_node_J152 post y (nI T.N) (va_up n 3 0) (va_up (va_up f 25 (upd (f 25) T.N (nI o))) 26 (upd (va_up f 25 (upd (f 25) T.N (nI o)) 26) T.N x)) := by
    rintro _ _ rfl rfl
    unfold wp_M_node_J152
    rw [hNc, n6]
    refine ⟨hNi, ?_⟩
    rintro f1 hf1
    have hf1 : f1 = q_setM f T.N (nI o) (nI a) (nI b) := by
      rw [hf1]; unfold q_setM
      rw [va_up_ne (k := 26) (j := 27) _ _ (by decide), va_up_ne (k := 25) (j := 27) _ _ (by decide), va_up_ne (k := 25) (j := 26) _ _ (by decide)]
    subst hf1
    have gM1 : gM G (va_up n 3 0) (q_setM f T.N (nI o) (nI a) (nI b)) := hM.up (va_up_ne _ _ (by decide)) (va_up_ne _ _ (by decide)) (fun k z1 z2 => setM_o _ _ _ _ _ (by omega) (by omega) (by omega))
    have aM1 : aM G T o a b (q_setM f T.N (nI o) (nI a) (nI b)) := ⟨by rw [setM_25, upd_self], by rw [setM_26, upd_self], by rw [setM_27, upd_self], fun v g hv hg => by rw [setM_o _ _ _ _ _ (by decide) (by decide) (by decide)]; exact hD.co v g hv hg⟩
    refine wm_price hG hT gM1 aM1 hN B.oO ha hb (fun f' D E => ?_)
    have eC : D = C := funext (least_one E.clo E.abv hl.1 hl.2)
    subst eC
    refine wm_nodeGreat hG hT gM1 aM1 n6 hN B.oO ha hb (fun v g hv hg => by rw [setM_o _ _ _ _ _ (by decide) (by decide) (by decide)]; exact hD.sz hv hg) E (fun hd f2 hs => ?_) (fun hd f2 hE => ?_)
    · have e : va_up (va_up n 3 0) 3 2 = va_up n 3 2 := by
        funext k
        by_cases z : k = 3
        · subst z; rw [va_up_self, va_up_self]
        · rw [va_up_ne _ _ z, va_up_ne _ _ z, va_up_ne _ _ z]
      rw [e]
      exact h1 hd f2 hs
    · exact h0 hd f2 hE _ (fun k z1 z2 => by rw [va_up_ne _ _ z2, va_up_ne _ _ z1, va_up_ne _ _ z1]) (by rw [va_up_ne _ _ (by decide), va_up_self]) (va_up_self _ _ _)
  have J132 : ∀ x : Int32, x = nI a → wp_M_node_J132 post p3 (nI (G.k o)) x (nI T.N) (va_up n 3 0) (va_up f 25 (upd (f 25) T.N (nI o))) := by
    intro x hx
    unfold wp_M_node_J132
    rw [hNc, n6]
    refine ⟨hNi, ?_⟩
    rintro _ rfl
    refine ⟨fun z => J152 x 0 hx ?_, fun z => J152 x p3 hx ?_⟩
    · have := k1.mp z
      rw [B.e3' (by omega)]; exact z0
    · have q1 : ¬ G.k o ≤ 1 := fun u => z (k1.mpr u)
      exact (B.e3 (by omega)).1
  refine ⟨fun z => J132 0 ?_, fun z => J132 p2 ?_⟩
  · have := k0.mp z
    rw [B.e2' (by omega)]; exact z0
  · have q0 : ¬ G.k o ≤ 0 := fun u => z (k0.mpr u)
    exact (B.e2 (by omega)).1
theorem rowOK.low {G : GD} {f f' : ctF} {N v o a : Nat} {rk : Nat → Nat} {S : Nat → Bool} {m g : Nat} (hG : G.ok) (h : rowOK G f v o a rk S m g) (hv : v < N) (ha : a < N) (hg : g < 8) (e : ∀ j, j < 8 * N → f' 29 j = f 29 j ∧ f' 30 j = f 30 j) : rowOK G f' v o a rk S m g := by
  unfold rowOK at h ⊢
  rw [(e (8 * v + g) (by omega)).1, (e (8 * v + g) (by omega)).2]
  refine ⟨h.1, fun z => ?_⟩
  obtain ⟨w1, w2, r, w3, w4, w5, w6⟩ := h.2 z
  refine ⟨w1, w2, r, w3, w4, w5, fun o' z2 => ⟨(w6 o' z2).1, (w6 o' z2).2.1, fun z3 => ?_⟩⟩
  have := (hG.ru r w3).2.2.1
  rw [(e (8 * a + G.g1 r) (by omega)).2]
  exact (w6 o' z2).2.2 z3
theorem node_low {G : GD} {T : TD} {n n' : ctN} {f f' : ctF} {o a b : Int32} (hG : G.ok) (hT : T.ok G) (hM : gM G n f) (hD : tM G T n f) (s : sameM T.N (q_setM f T.N o a b) f') (e4 : n' 4 = n 4) (e5 : n' 5 = n 5) (e6 : n' 6 = n 6) : gM G n' f' ∧ tM G T n' f' := by
  obtain ⟨rk, S, hk⟩ := hD.ch
  have e : ∀ j, j < 8 * T.N → f' 29 j = f 29 j ∧ f' 30 j = f 30 j := fun j hj => by
    rw [(s.2 j hj).2.1, (s.2 j hj).2.2, setM_o _ _ _ _ _ (by decide) (by decide) (by decide), setM_o _ _ _ _ _ (by decide) (by decide) (by decide)]; exact ⟨rfl, rfl⟩
  refine ⟨hM.up e4 e5 (fun k h1 h2 => by rw [s.1 k (by omega) (by omega) (by omega) (by omega), setM_o _ _ _ _ _ (by omega) (by omega) (by omega)]), by rw [e6]; exact hD.nN, fun v hv => ?_, fun v g hv hg => ?_, rk, S, fun v g hv hg => (hk v g hv hg).low hG hv (by have := (hT.nd v hv).2.1; omega) hg e⟩
  · rw [s.1 25 (by decide) (by decide) (by decide) (by decide), s.1 26 (by decide) (by decide) (by decide) (by decide), s.1 27 (by decide) (by decide) (by decide) (by decide), setM_25, setM_26, setM_27, upd_ne _ _ (by omega), upd_ne _ _ (by omega), upd_ne _ _ (by omega)]
    exact hD.nd v hv
  · rw [(s.2 (8 * v + g) (by omega)).1, setM_o _ _ _ _ _ (by decide) (by decide) (by decide)]
    exact hD.co v g hv hg
theorem node_new {G : GD} {T : TD} {n n' : ctN} {f f' : ctF} {p1 p2 p3 : Int32} {o a b : Nat} {C : Nat → Option Nat} (hG : G.ok) (hT : T.ok G) (hM : gM G n f) (hD : tM G T n f) (_B : nGood G T p1 p2 p3 o a b) (E : nE G T o a b (q_setM f T.N (nI o) (nI a) (nI b)) f' C) (e4 : n' 4 = n 4) (e5 : n' 5 = n 5) (e6 : n' 6 = nI (T.N + 1)) : gM G n' f' ∧ tM G (T.addN o a b C) n' f' := by
  obtain ⟨m1, d1⟩ := node_low (n' := n) hG hT hM hD E.same rfl rfl rfl
  obtain ⟨rk, S, hk⟩ := d1.ch
  obtain ⟨rk2, S2, hk2⟩ := E.cho
  have s := E.same
  refine ⟨m1.up e4 e5 (fun _ _ _ => rfl), e6, fun v hv => ?_, fun v g hv hg => ?_, va_up rk T.N rk2, va_up S T.N S2, fun v g hv hg => ?_⟩
  · show f' 25 v = nI (va_up T.kd T.N o v) ∧ f' 26 v = nI (va_up T.u1 T.N a v) ∧ f' 27 v = nI (va_up T.u2 T.N b v)
    by_cases z : v = T.N
    · subst z
      rw [s.1 25 (by decide) (by decide) (by decide) (by decide), s.1 26 (by decide) (by decide) (by decide) (by decide), s.1 27 (by decide) (by decide) (by decide) (by decide), setM_25, setM_26, setM_27, upd_self, upd_self, upd_self, va_up_self, va_up_self, va_up_self]
      exact ⟨rfl, rfl, rfl⟩
    · rw [va_up_ne _ _ z, va_up_ne _ _ z, va_up_ne _ _ z]
      exact d1.nd v (by have : v < T.N + 1 := hv; omega)
  · show f' 28 (8 * v + g) = en (va_up T.C T.N C v g)
    by_cases z : v = T.N
    · subst z; rw [va_up_self]; exact E.row g hg
    · rw [va_up_ne _ _ z]; exact d1.co v g (by have : v < T.N + 1 := hv; omega) hg
  · show rowOK G f' v (va_up T.kd T.N o v) (va_up T.u1 T.N a v) (va_up rk T.N rk2 v) (va_up S T.N S2 v) 8 g
    by_cases z : v = T.N
    · subst z
      rw [va_up_self, va_up_self, va_up_self, va_up_self]
      exact hk2 g hg
    · rw [va_up_ne _ _ z, va_up_ne _ _ z, va_up_ne _ _ z, va_up_ne _ _ z]
      exact hk v g (by have : v < T.N + 1 := hv; omega) hg
end
section
/-! a call on both sides, and what it leaves -/
theorem least_lt8 {G : GD} {T : TD} {o a b : Nat} {C : Nat → Option Nat} (hG : G.ok) (hl : leastC G T o a b C) {g x : Nat} (h : C g = some x) : g < 8 := by
  have hcl : closedC G.R G.go (chG G) G.g1 G.co (prG G T o a b) (fun g => if g < 8 then C g else none) := by
    intro i y hi hy
    obtain ⟨q1, q2, q3, q4, q5⟩ := hG.ru i hi
    have hy2 : byR (chG G) G.g1 G.co (prG G T o a b) C i = some y := by
      unfold byR at hy ⊢
      dsimp only at hy
      rw [if_pos q3] at hy
      exact hy
    dsimp only
    rw [if_pos q1]
    exact hl.1 i y hi hy2
  obtain ⟨z, hz, -⟩ := hl.2 _ hcl g x h
  by_cases q : g < 8
  · exact q
  · rw [if_neg q] at hz; cases hz
theorem k_operator {post : Int32 → ctN → ctF → Prop} {K : Int32 → Int32 → ctN → ctF → Prop} {n : ctN} {f : ctF} {p : Int32} (I : PInv n f) (hpost : ∀ r n1 f1, wp_M_operator (fun r2 n f => K r r2 n f) p n1 f1 → post r n1 f1) (hK : ∀ r r2 n' f', PInv n' f' → n' 3 = r → (r = 0 → f' 32 0 = r2) → K r r2 n' f') : wp_L_operator post p n f := by
  obtain ⟨G, T, I⟩ := I
  refine lc_operator I (fun hb => hpost 1 n f (lm_operator_bad hb (hK 1 0 _ _ (I.n3 1).inv (va_up_self _ _ _) (fun z => absurd z (by decide))))) (fun j hj e hO => hpost 2 n f ?_) (fun j hj e hO n1 f1 gc tc gm tm out => hpost 0 n1 f1 ?_)
  · subst e
    exact lm_operator_full hj (by rw [I.gm.nO, hO]) (hK 2 0 _ _ (I.n3 2).inv (va_up_self _ _ _) (fun z => absurd z (by decide)))
  · subst e
    have en : ∀ k, k ≠ 3 → k ≠ 4 → va_up (va_up n1 3 0) 4 (nI (G.O + 1)) k = n1 k := fun k z1 z2 => by rw [va_up_ne _ _ z2, va_up_ne _ _ z1]
    refine lm_operator_ok hj gm.nO hO (hK 0 (nI G.O) _ _ ⟨G.addO j, T, addO_ok I.g hj hO, addO_T I.t j, gc.up (en 0 (by decide) (by decide)) (en 1 (by decide) (by decide)) (fun k _ _ => va_up_ne _ _ (by omega)), tc.up (en 2 (by decide) (by decide)) (fun k _ _ _ => va_up_ne _ _ (by omega)), addO_M I.g gm (va_up_self _ _ _) (en 5 (by decide) (by decide)) (va_up_self _ _ _) (fun k _ _ => va_up_ne _ _ (by omega)), addO_tM I.t (tm.up (en 6 (by decide) (by decide)) (fun k _ _ => va_up_ne _ _ (by omega))) j⟩ ?_ (fun _ => ?_))
    · rw [va_up_ne _ _ (by decide), va_up_self]
    · rw [va_up_ne _ _ (by decide)]; exact out
theorem k_chain {post : Int32 → ctN → ctF → Prop} {K : Int32 → Int32 → ctN → ctF → Prop} {n : ctN} {f : ctF} {p q c : Int32} (I : PInv n f) (hpost : ∀ r n1 f1, wp_M_chain (fun r2 n f => K r r2 n f) p q c n1 f1 → post r n1 f1) (hK : ∀ r r2 n' f', PInv n' f' → n' 3 = r → (r = 0 → f' 32 0 = r2) → K r r2 n' f') : wp_L_chain post p q c n f := by
  obtain ⟨G, T, I⟩ := I
  refine lc_chain I (fun hb => hpost 1 n f (lm_chain_bad hb (hK 1 0 _ _ (I.n3 1).inv (va_up_self _ _ _) (fun z => absurd z (by decide))))) (fun g h k hg hh hne hk e1 e2 e3 hR => hpost 2 n f ?_) (fun g h k hg hh hne hk e1 e2 e3 hR n1 f1 A => hpost 0 n1 f1 ?_)
  · subst e1 e2 e3
    exact lm_chain_full hg hh hne hk (by rw [I.gm.nR, hR]) (hK 2 0 _ _ (I.n3 2).inv (va_up_self _ _ _) (fun z => absurd z (by decide)))
  · subst e1 e2 e3
    exact lm_chain_ok I.g A hg hh hne hk hR (fun n' f' I' h3 h32 => hK 0 _ n' f' I'.inv h3 (fun _ => h32))
theorem k_base {post : Int32 → ctN → ctF → Prop} {K : Int32 → Int32 → ctN → ctF → Prop} {n : ctN} {f : ctF} {p1 p2 p3 p4 p5 : Int32} (I : PInv n f) (hpost : ∀ r n1 f1, wp_M_base (fun r2 n f => K r r2 n f) p1 p2 p3 p4 p5 n1 f1 → post r n1 f1) (hK : ∀ r r2 n' f', PInv n' f' → n' 3 = r → (r = 0 → f' 32 0 = r2) → K r r2 n' f') : wp_L_base post p1 p2 p3 p4 p5 n f := by
  obtain ⟨G, T, I⟩ := I
  exact lc_base I (fun hb => hpost 1 n f (lm_base_bad I.g I.gm hb (hK 1 0 _ _ (I.n3 1).inv (va_up_self _ _ _) (fun z => absurd z (by decide))))) (fun g o a b c B hR => hpost 2 n f (lm_base_full I.g I.gm B hR (hK 2 0 _ _ (I.n3 2).inv (va_up_self _ _ _) (fun z => absurd z (by decide))))) (fun g o a b c B hR n1 f1 A => hpost 0 n1 f1 (lm_base_ok I.g A B hR (fun n' f' I' h3 h32 => hK 0 _ n' f' I'.inv h3 (fun _ => h32))))
theorem k_node {post : Int32 → ctN → ctF → Prop} {K : Int32 → Int32 → ctN → ctF → Prop} {n : ctN} {f : ctF} {p1 p2 p3 : Int32} (I : PInv n f) (hpost : ∀ r n1 f1, wp_M_node (fun r2 n f => K r r2 n f) p1 p2 p3 n1 f1 → post r n1 f1) (hK : ∀ r r2 n' f', PInv n' f' → n' 3 = r → (r = 0 → f' 32 0 = r2) → K r r2 n' f') : wp_L_node post p1 p2 p3 n f := by
  obtain ⟨G, T, I⟩ := I
  refine lc_node I (fun hb => hpost 1 n f (lm_node_bad I.g I.t I.gm I.tm.nN hb (hK 1 0 _ _ (I.n3 1).inv (va_up_self _ _ _) (fun z => absurd z (by decide))))) (fun o a b B hN => hpost 2 n f (lm_node_full I.g I.t I.gm I.tm.nN B hN (hK 2 0 _ _ (I.n3 2).inv (va_up_self _ _ _) (fun z => absurd z (by decide))))) (fun o a b C B hN hl hd f1 I1 => hpost 2 n f1 ?_) (fun o a b C B hN hl hd n1 f1 gc tc gm tm out => hpost 0 n1 f1 ?_)
  · refine lm_node_go I1.g I1.t I1.gm I1.tm B hN hl (fun _ f' s => ?_) (fun z => absurd hd z)
    have en : ∀ k, k ≠ 3 → va_up n 3 2 k = n k := fun k z => va_up_ne _ _ z
    obtain ⟨m1, d1⟩ := node_low (n' := va_up n 3 2) I1.g I1.t I1.gm I1.tm s (en 4 (by decide)) (en 5 (by decide)) (en 6 (by decide))
    have ef : ∀ k, k ≤ 17 → f' k = f1 k := fun k hk => by rw [s.1 k (by omega) (by omega) (by omega) (by omega), setM_o _ _ _ _ _ (by omega) (by omega) (by omega)]
    exact hK 2 0 _ f' ⟨G, T, I1.g, I1.t, I1.gc.up (en 0 (by decide)) (en 1 (by decide)) (fun k _ _ => ef k (by omega)), I1.tc.up (en 2 (by decide)) (fun k _ _ _ => ef k (by omega)), m1, d1⟩ (va_up_self _ _ _) (fun z => absurd z (by decide))
  · refine lm_node_go I.g I.t gm tm B hN hl (fun z => absurd z hd) (fun _ f' E n' en h3 h6 => ?_)
    obtain ⟨m1, d1⟩ := node_new (n' := n') I.g I.t gm tm B E (en 4 (by decide) (by decide)) (en 5 (by decide) (by decide)) h6
    have ef : ∀ k, k ≤ 17 ∨ 31 < k → f' k = f1 k := fun k hk => by rw [E.same.1 k (by omega) (by omega) (by omega) (by omega), setM_o _ _ _ _ _ (by omega) (by omega) (by omega)]
    refine hK 0 _ n' f' ⟨G, T.addN o a b C, I.g, addN_ok I.t B hN (fun g x hx => ?_), gc.up (en 0 (by decide) (by decide)) (en 1 (by decide) (by decide)) (fun k _ _ => ef k (by omega)), tc.up (en 2 (by decide) (by decide)) (fun k _ _ _ => ef k (by omega)), m1, d1⟩ h3 (fun _ => by rw [ef 32 (by decide)]; exact out)
    have hg := least_lt8 I.g hl hx
    rcases Nat.lt_or_ge 1000000 x with z | z
    · exact absurd ⟨g, x, hg, hx, z⟩ hd
    · exact z
theorem k_cost {post : Int32 → ctN → ctF → Prop} {K : Int32 → Int32 → ctN → ctF → Prop} {n : ctN} {f : ctF} {p q : Int32} (I : PInv n f) (hpost : ∀ r n1 f1, wp_M_cost (fun r2 n f => K r r2 n f) p q n1 f1 → post r n1 f1) (hK : ∀ r r2 n' f', PInv n' f' → n' 3 = r → (r = 0 → f' 32 0 = r2) → K r r2 n' f') : wp_L_cost post p q n f := by
  obtain ⟨G, T, I⟩ := I
  have hN := I.t.N120
  refine lc_cost I (fun hb => hpost 1 n f (lm_cost I (fun _ => hK 1 0 _ _ (I.n3 1).inv (va_up_self _ _ _) (fun z => absurd z (by decide))) (fun v g hv hg e1 e2 => ?_))) (fun v g hv hg e1 e2 => hpost 0 n _ (lm_cost (I.f32 _) (fun hb => ?_) (fun v2 g2 hv2 hg2 e3 e4 => ?_)))
  · subst e1 e2
    exact absurd hb (fun u => u.elim (ix_no hv (by omega)) (ix_no hg (by decide)))
  · subst e1 e2
    exact absurd hb (fun u => u.elim (ix_no hv (by omega)) (ix_no hg (by decide)))
  · subst e1 e2
    rw [nI_eq (by omega) (by omega)] at e3 e4
    subst e3 e4
    refine hK 0 _ _ _ ((I.f32 _).n3 0).inv (va_up_self _ _ _) (fun _ => ?_)
    rw [va_up_self, upd_self, va_up_ne _ _ (by decide), I.tc.co v g hv hg, I.tm.co v g hv hg]
theorem k_rule {post : Int32 → ctN → ctF → Prop} {K : Int32 → Int32 → ctN → ctF → Prop} {n : ctN} {f : ctF} {p q : Int32} (I : PInv n f) (hpost : ∀ r n1 f1, wp_M_rule (fun r2 n f => K r r2 n f) p q n1 f1 → post r n1 f1) (hK : ∀ r r2 n' f', PInv n' f' → K r r2 n' f') : wp_L_rule post p q n f := by
  obtain ⟨G, T, I⟩ := I
  exact lc_rule I (fun r f1 e => hpost r n f1 (lm_rule (I.up (fun _ _ _ _ => rfl) e) (fun r2 n' e' => hK r r2 n' f1 (I.up e' e).inv)))
theorem k_size {post : Int32 → ctN → ctF → Prop} {K : Int32 → Int32 → ctN → ctF → Prop} {n : ctN} {f : ctF} {p q : Int32} (I : PInv n f) (hpost : ∀ r n1 f1, wp_M_size (fun r2 n f => K r r2 n f) p q n1 f1 → post r n1 f1) (hK : ∀ r r2 n' f', PInv n' f' → K r r2 n' f') : wp_L_size post p q n f := by
  obtain ⟨G, T, I⟩ := I
  exact lc_size I (fun r f1 e => hpost r n f1 (lm_size (I.up (fun _ _ _ _ => rfl) e) (fun r2 n' e' => hK r r2 n' f1 (I.up e' e).inv)))
theorem k_cover {post : Int32 → ctN → ctF → Prop} {K : Int32 → Int32 → ctN → ctF → Prop} {n : ctN} {f : ctF} {p q c w : Int32} (I : PInv n f) (hpost : ∀ r n1 f1, wp_M_cover (fun r2 n f => K r r2 n f) p q c w n1 f1 → post r n1 f1) (hK : ∀ r r2 n' f', PInv n' f' → K r r2 n' f') : wp_L_cover post p q c w n f := by
  obtain ⟨G, T, I⟩ := I
  exact lc_cover I (fun r f1 e => hpost r n f1 (lm_cover (I.up (fun _ _ _ _ => rfl) e) (fun r2 n' e' => hK r r2 n' f1 (I.up e' e).inv)))
theorem k_like {post : Int32 → ctN → ctF → Prop} {K : Int32 → Int32 → ctN → ctF → Prop} {n : ctN} {f : ctF} {p : Int32} (I : PInv n f) (hpost : ∀ r n1 f1, wp_M_like (fun r2 n f => K r r2 n f) p n1 f1 → post r n1 f1) (hK : ∀ r r2 n' f', PInv n' f' → K r r2 n' f') : wp_L_like post p n f := by
  obtain ⟨G, T, I⟩ := I
  exact lc_like I (fun r f1 e => hpost r n f1 (lm_like (I.up (fun _ _ _ _ => rfl) e) (fun r2 n' e' => hK r r2 n' f1 (I.up e' e).inv)))
theorem k_states {post : Int32 → ctN → ctF → Prop} {K : Int32 → Int32 → ctN → ctF → Prop} {n : ctN} {f : ctF} (I : PInv n f) (hpost : ∀ r n1 f1, wp_M_states (fun r2 n f => K r r2 n f) n1 f1 → post r n1 f1) (hK : ∀ r r2 n' f', PInv n' f' → K r r2 n' f') : wp_C_states post n f := by
  obtain ⟨G, T, I⟩ := I
  exact lc_states I (fun r => hpost r n f (lm_states I (fun r2 n' e' => hK r r2 n' f (I.up e' (fun _ _ => rfl)).inv)))
theorem k_clear {post : ctN → ctF → Prop} {K : ctN → ctF → Prop} {n : ctN} {f : ctF} (I : PInv n f) (hpost : ∀ n1 f1, wp_M_clear (fun n f => K n f) n1 f1 → post n1 f1) (hK : ∀ n' f', PInv n' f' → K n' f') : wp_C_clear post n f := by
  obtain ⟨G, T, I⟩ := I
  have h := l_clear (post := K) I (fun n' I' => hK n' f I'.inv)
  unfold wp_C_clear at h ⊢
  intro a ha b hb c hc
  exact hpost c f (h a ha b hb c hc)
theorem k_fell {post : ctN → ctF → Prop} {K : ctN → ctF → Prop} {n : ctN} {f : ctF} (I : PInv n f) (hpost : ∀ n1 f1, wp_M_fell (fun n f => K n f) n1 f1 → post n1 f1) (hK : ∀ n' f', PInv n' f' → K n' f') : wp_C_fell post n f := by
  obtain ⟨G, T, I⟩ := I
  have h := l_fell (post := K) I (fun n' I' => hK n' f I'.inv)
  unfold wp_C_fell at h ⊢
  intro a ha
  exact hpost a f (h a ha)
theorem inv_start : PInv (fun _ => 0) (fun _ _ => 0) :=
  ⟨GD.zero ⟨0, 0, fun _ => 0, fun _ => 0, fun _ => 0, fun _ => 0, fun _ => 0, fun _ => none⟩, TD.zero ⟨0, fun _ => 0, fun _ => 0, fun _ => 0, fun _ _ => none⟩, gzero_ok _, zero_ok _ _, gzero_C _ _ rfl rfl, zero_tC _ _ _ rfl, gzero_M _ _ rfl rfl, zero_tM _ _ _ rfl⟩
end
section
/-! the settling of both sides as runs over the costs: what they leave is one, and one for costs that are shifted alike -/
def Att (G : GD) (D : Nat → Option Nat) (g i : Nat) : Prop := G.go i = g ∧ chG G i = true ∧ ∃ x, D (G.g1 i) = some x ∧ D g = some (x + G.co i)
def relA (D E : Nat → Option Nat) (a b : Nat) : Prop := ∀ g, (D g = none ↔ E g = none) ∧ ∀ x y, D g = some x → E g = some y → x + b = y + a
theorem relA.sy {D E : Nat → Option Nat} {a b : Nat} (h : relA D E a b) : relA E D b a := fun g => ⟨(h g).1.symm, fun x y hx hy => by have := (h g).2 y x hy hx; omega⟩
theorem relA.tr {D E F : Nat → Option Nat} {a b c : Nat} (h : relA D E a b) (h2 : relA E F b c) : relA D F a c := fun g => ⟨(h g).1.trans (h2 g).1, fun x y hx hy => by
  cases e : E g with
  | none => rw [(h g).1.mpr e] at hx; cases hx
  | some z =>
    have h3 := (h g).2 x z hx e
    have h4 := (h2 g).2 z y e hy
    omega⟩
theorem relA.rf (D : Nat → Option Nat) (a : Nat) : relA D D a a := fun g => ⟨Iff.rfl, fun x y hx hy => by rw [hx] at hy; cases hy; rfl⟩
theorem relA.some {D E : Nat → Option Nat} {a b : Nat} (h : relA D E a b) {g x : Nat} (hx : D g = some x) : ∃ y, E g = some y ∧ x + b = y + a := by
  cases e : E g with
  | none => rw [(h g).1.mpr e] at hx; cases hx
  | some y => exact ⟨y, rfl, (h g).2 x y hx e⟩
theorem Att.rel {G : GD} {D E : Nat → Option Nat} {a b g i : Nat} (h : relA D E a b) (t : Att G D g i) : Att G E g i := by
  obtain ⟨h1, h2, x, h3, h4⟩ := t
  obtain ⟨y, hy, e1⟩ := h.some h3
  obtain ⟨z, hz, e2⟩ := h.some h4
  exact ⟨h1, h2, y, hy, by rw [hz]; congr 1; omega⟩
theorem lst_iff {P Q : Nat → Prop} {lo R : Nat} {o : Option Nat} (h : ∀ i, P i ↔ Q i) (t : q_lst P lo R o) : q_lst Q lo R o := by
  cases o with
  | none => exact fun i h1 h2 h3 => t i h1 h2 ((h i).mpr h3)
  | some i => exact ⟨t.1, t.2.1, (h i).mp t.2.2.1, fun j h1 h2 h3 => t.2.2.2 j h1 h2 ((h j).mpr h3)⟩
/-- the class's next goal, its rules after that -/
def cx (D Q : Nat → Option Nat) (S : Nat → Bool) (q : Option Nat) : Prop := match q with
  | none => ∀ g, g < 8 → S g = false → Q g = none
  | some b => b < 8 ∧ S b = false ∧ ¬ Q b = none ∧ ∃ x, D b = some x ∧ ∀ g y, g < 8 → S g = false → ¬ Q g = none → D g = some y → x ≤ y ∧ (y = x → b ≤ g)
def cst (G : GD) (D : Nat → Option Nat) (b : Nat) (Q Q' : Nat → Option Nat) : Prop := ∀ g, (∀ i, Q g = some i → Q' g = some i) ∧ (Q g = none → q_lst (fun i => Att G D g i ∧ G.g1 i = b) 0 G.R (Q' g))
def CR (G : GD) (D B : Nat → Option Nat) : Nat → (Nat → Bool) → (Nat → Option Nat) → Prop
  | 0, S, Q => S = (fun _ => false) ∧ Q = B
  | n + 1, S', Q' => ∃ S Q b, CR G D B n S Q ∧ cx D Q S (some b) ∧ cst G D b Q Q' ∧ S' = va_up S b true
theorem CR.nil {G : GD} {D B : Nat → Option Nat} : CR G D B 0 (fun _ => false) B := ⟨rfl, rfl⟩
theorem CR.cons {G : GD} {D B : Nat → Option Nat} {n : Nat} {S : Nat → Bool} {Q Q' : Nat → Option Nat} {b : Nat} (r : CR G D B n S Q) (x : cx D Q S (some b)) (s : cst G D b Q Q') : CR G D B (n + 1) (va_up S b true) Q' := ⟨S, Q, b, r, x, s, rfl⟩
def CF (G : GD) (D B Q : Nat → Option Nat) : Prop := ∃ n S, CR G D B n S Q ∧ cx D Q S none
theorem cx_no {D Q : Nat → Option Nat} {S : Nat → Bool} {b : Nat} (h1 : cx D Q S none) (h2 : cx D Q S (some b)) : False := h2.2.2.1 (h1 b h2.1 h2.2.1)
theorem cx_one {D Q : Nat → Option Nat} {S : Nat → Bool} {b c : Nat} (h1 : cx D Q S (some b)) (h2 : cx D Q S (some c)) : b = c := by
  obtain ⟨a1, a2, a3, x, a4, a5⟩ := h1
  obtain ⟨b1, b2, b3, y, b4, b5⟩ := h2
  have p := a5 c y b1 b2 b3 b4
  have q := b5 b x a1 a2 a3 a4
  have e : x = y := by omega
  have := p.2 e.symm
  have := q.2 e
  omega
theorem cst_one {G : GD} {D : Nat → Option Nat} {b : Nat} {Q Q1 Q2 : Nat → Option Nat} (h1 : cst G D b Q Q1) (h2 : cst G D b Q Q2) : Q1 = Q2 := by
  funext g
  cases e : Q g with
  | none => exact lst_one ((h1 g).2 e) ((h2 g).2 e)
  | some i => rw [(h1 g).1 i e, (h2 g).1 i e]
theorem CR.one {G : GD} {D B : Nat → Option Nat} : ∀ {n : Nat} {S S2 : Nat → Bool} {Q Q2 : Nat → Option Nat}, CR G D B n S Q → CR G D B n S2 Q2 → S = S2 ∧ Q = Q2 := by
  intro n
  induction n with
  | zero =>
    rintro S S2 Q Q2 ⟨h1, h2⟩ ⟨h3, h4⟩
    exact ⟨h1.trans h3.symm, h2.trans h4.symm⟩
  | succ n ih =>
    rintro S S2 Q Q2 ⟨S1, Q1, b, r1, c1, s1, e1⟩ ⟨S3, Q3, b3, r2, c2, s2, e2⟩
    obtain ⟨e3, e4⟩ := ih r1 r2
    subst e3 e4
    have e5 := cx_one c1 c2
    subst e5
    exact ⟨e1.trans e2.symm, cst_one s1 s2⟩
theorem CR.cut {G : GD} {D B : Nat → Option Nat} {n : Nat} : ∀ {m : Nat} {S : Nat → Bool} {Q : Nat → Option Nat}, CR G D B m S Q → n < m → ∃ S0 Q0 b, CR G D B n S0 Q0 ∧ cx D Q0 S0 (some b) := by
  intro m
  induction m with
  | zero => intro S Q _ hn; exact absurd hn (Nat.not_lt_zero _)
  | succ k ih =>
    rintro S Q ⟨S1, Q1, b, r, c, -, -⟩ hn
    rcases Nat.lt_or_ge n k with z | z
    · exact ih r z
    · have e : n = k := by omega
      subst e
      exact ⟨S1, Q1, b, r, c⟩
theorem CF.one {G : GD} {D B Q Q2 : Nat → Option Nat} (h1 : CF G D B Q) (h2 : CF G D B Q2) : Q = Q2 := by
  obtain ⟨n, S, r1, f1⟩ := h1
  obtain ⟨m, S2, r2, f2⟩ := h2
  rcases Nat.lt_trichotomy n m with z | z | z
  · obtain ⟨S0, Q0, b, r0, c0⟩ := r2.cut z
    obtain ⟨e1, e2⟩ := r1.one r0
    subst e1 e2
    exact (cx_no f1 c0).elim
  · subst z
    exact (r1.one r2).2
  · obtain ⟨S0, Q0, b, r0, c0⟩ := r1.cut z
    obtain ⟨e1, e2⟩ := r2.one r0
    subst e1 e2
    exact (cx_no f2 c0).elim
theorem cx.rel {D E Q : Nat → Option Nat} {S : Nat → Bool} {a b : Nat} (h : relA D E a b) {q : Option Nat} (t : cx D Q S q) : cx E Q S q := by
  cases q with
  | none => exact t
  | some c =>
    obtain ⟨a1, a2, a3, x, a4, a5⟩ := t
    obtain ⟨x', e1, e2⟩ := h.some a4
    refine ⟨a1, a2, a3, x', e1, fun g y hg hs hq hy => ?_⟩
    obtain ⟨y', f1, f2⟩ := h.sy.some hy
    have := a5 g y' hg hs hq f1
    exact ⟨by omega, fun z => this.2 (by omega)⟩
theorem CR.rel {G : GD} {D E B : Nat → Option Nat} {a b : Nat} (h : relA D E a b) : ∀ {n : Nat} {S : Nat → Bool} {Q : Nat → Option Nat}, CR G D B n S Q → CR G E B n S Q := by
  intro n
  induction n with
  | zero => intro S Q t; exact t
  | succ k ih =>
    rintro S Q ⟨S1, Q1, c, r, x, s, e⟩
    exact ⟨S1, Q1, c, ih r, x.rel h, fun g => ⟨(s g).1, fun z => lst_iff (fun i => ⟨fun w => ⟨w.1.rel h, w.2⟩, fun w => ⟨w.1.rel h.sy, w.2⟩⟩) ((s g).2 z)⟩, e⟩
theorem CF.rel {G : GD} {D E B Q : Nat → Option Nat} {a b : Nat} (h : relA D E a b) (t : CF G D B Q) : CF G E B Q := by
  obtain ⟨n, S, r, f⟩ := t
  exact ⟨n, S, r.rel h, f.rel h⟩
theorem CR.base {G : GD} {D B : Nat → Option Nat} : ∀ {n : Nat} {S : Nat → Bool} {Q : Nat → Option Nat}, CR G D B n S Q → (∀ g i, B g = some i → Q g = some i) ∧ ∀ g i, B g = none → Q g = some i → chG G i = true := by
  intro n
  induction n with
  | zero =>
    rintro S Q ⟨-, e⟩
    rw [e]
    exact ⟨fun _ _ h => h, fun g i h1 h2 => by rw [h1] at h2; cases h2⟩
  | succ k ih =>
    rintro S Q ⟨S1, Q1, c, r, x, s, -⟩
    obtain ⟨i1, i2⟩ := ih r
    refine ⟨fun g i h => (s g).1 i (i1 g i h), fun g i h1 h2 => ?_⟩
    cases e : Q1 g with
    | none =>
      have := (s g).2 e
      rw [h2] at this
      exact this.2.2.1.1.2.1
    | some j =>
      have := (s g).1 j e
      rw [h2] at this
      cases this
      exact i2 g i h1 e
/-- the reference's next goal and its rule -/
def rl2 (G : GD) (D B : Nat → Option Nat) (S : Nat → Bool) (g : Nat) (o : Option Nat) : Prop := ∃ oc, q_lst (fun i => Att G D g i ∧ S (G.g1 i) = true) 0 G.R oc ∧ o = (match B g with
  | none => oc
  | some b => some b)
def mx (G : GD) (D B : Nat → Option Nat) (S : Nat → Bool) (q : Option (Nat × Nat)) : Prop := match q with
  | none => ∀ g r, g < 8 → S g = false → ¬ D g = none → ¬ rl2 G D B S g (some r)
  | some (b, r) => b < 8 ∧ S b = false ∧ rl2 G D B S b (some r) ∧ ∃ x, D b = some x ∧ ∀ g y r', g < 8 → S g = false → D g = some y → rl2 G D B S g (some r') → x ≤ y ∧ (y = x → b ≤ g)
def MR (G : GD) (D B : Nat → Option Nat) : Nat → (Nat → Bool) → (Nat → Option Nat) → Prop
  | 0, S, P => S = (fun _ => false) ∧ P = (fun _ => none)
  | n + 1, S', P' => ∃ S P b r, MR G D B n S P ∧ mx G D B S (some (b, r)) ∧ S' = va_up S b true ∧ P' = va_up P b (some r)
theorem MR.nil {G : GD} {D B : Nat → Option Nat} : MR G D B 0 (fun _ => false) (fun _ => none) := ⟨rfl, rfl⟩
theorem MR.cons {G : GD} {D B : Nat → Option Nat} {n : Nat} {S : Nat → Bool} {P : Nat → Option Nat} {b r : Nat} (t : MR G D B n S P) (x : mx G D B S (some (b, r))) : MR G D B (n + 1) (va_up S b true) (va_up P b (some r)) := ⟨S, P, b, r, t, x, rfl, rfl⟩
def MF (G : GD) (D B P : Nat → Option Nat) : Prop := ∃ n S, MR G D B n S P ∧ mx G D B S none
theorem rl2_one {G : GD} {D B : Nat → Option Nat} {S : Nat → Bool} {g : Nat} {a b : Option Nat} (h1 : rl2 G D B S g a) (h2 : rl2 G D B S g b) : a = b := by
  obtain ⟨y, hy, rfl⟩ := h1
  obtain ⟨y2, hy2, rfl⟩ := h2
  rw [lst_one hy hy2]
theorem mx_no {G : GD} {D B : Nat → Option Nat} {S : Nat → Bool} {p : Nat × Nat} (h1 : mx G D B S none) (h2 : mx G D B S (some p)) : False := by
  obtain ⟨b, r⟩ := p
  obtain ⟨a1, a2, a3, x, a4, -⟩ := h2
  exact h1 b r a1 a2 (by rw [a4]; exact fun z => nomatch z) a3
theorem mx_one {G : GD} {D B : Nat → Option Nat} {S : Nat → Bool} {b r c s : Nat} (h1 : mx G D B S (some (b, r))) (h2 : mx G D B S (some (c, s))) : b = c ∧ r = s := by
  obtain ⟨a1, a2, a3, x, a4, a5⟩ := h1
  obtain ⟨b1, b2, b3, y, b4, b5⟩ := h2
  have p := a5 c y s b1 b2 b4 b3
  have q := b5 b x r a1 a2 a4 a3
  have e : x = y := by omega
  have := p.2 e.symm
  have := q.2 e
  have e2 : b = c := by omega
  subst e2
  exact ⟨rfl, Option.some.inj (rl2_one a3 b3)⟩
theorem MR.one {G : GD} {D B : Nat → Option Nat} : ∀ {n : Nat} {S S2 : Nat → Bool} {P P2 : Nat → Option Nat}, MR G D B n S P → MR G D B n S2 P2 → S = S2 ∧ P = P2 := by
  intro n
  induction n with
  | zero =>
    rintro S S2 P P2 ⟨h1, h2⟩ ⟨h3, h4⟩
    exact ⟨h1.trans h3.symm, h2.trans h4.symm⟩
  | succ n ih =>
    rintro S S2 P P2 ⟨S1, P1, b, r, r1, c1, e1, f1⟩ ⟨S3, P3, b3, s, r2, c2, e2, f2⟩
    obtain ⟨e3, e4⟩ := ih r1 r2
    subst e3 e4
    obtain ⟨e5, e6⟩ := mx_one c1 c2
    subst e5 e6
    exact ⟨e1.trans e2.symm, f1.trans f2.symm⟩
theorem MR.cut {G : GD} {D B : Nat → Option Nat} {n : Nat} : ∀ {m : Nat} {S : Nat → Bool} {P : Nat → Option Nat}, MR G D B m S P → n < m → ∃ S0 P0 p, MR G D B n S0 P0 ∧ mx G D B S0 (some p) := by
  intro m
  induction m with
  | zero => intro S P _ hn; exact absurd hn (Nat.not_lt_zero _)
  | succ k ih =>
    rintro S P ⟨S1, P1, b, r, t, c, -, -⟩ hn
    rcases Nat.lt_or_ge n k with z | z
    · exact ih t z
    · have e : n = k := by omega
      subst e
      exact ⟨S1, P1, (b, r), t, c⟩
theorem MF.one {G : GD} {D B P P2 : Nat → Option Nat} (h1 : MF G D B P) (h2 : MF G D B P2) : P = P2 := by
  obtain ⟨n, S, r1, f1⟩ := h1
  obtain ⟨m, S2, r2, f2⟩ := h2
  rcases Nat.lt_trichotomy n m with z | z | z
  · obtain ⟨S0, Q0, b, r0, c0⟩ := r2.cut z
    obtain ⟨e1, e2⟩ := r1.one r0
    subst e1 e2
    exact (mx_no f1 c0).elim
  · subst z
    exact (r1.one r2).2
  · obtain ⟨S0, Q0, b, r0, c0⟩ := r1.cut z
    obtain ⟨e1, e2⟩ := r2.one r0
    subst e1 e2
    exact (mx_no f2 c0).elim
theorem rl2.rel {G : GD} {D E B : Nat → Option Nat} {S : Nat → Bool} {a b g : Nat} {o : Option Nat} (h : relA D E a b) (t : rl2 G D B S g o) : rl2 G E B S g o := by
  obtain ⟨oc, h1, h2⟩ := t
  exact ⟨oc, lst_iff (fun i => ⟨fun w => ⟨w.1.rel h, w.2⟩, fun w => ⟨w.1.rel h.sy, w.2⟩⟩) h1, h2⟩
theorem mx.rel {G : GD} {D E B : Nat → Option Nat} {S : Nat → Bool} {a b : Nat} (h : relA D E a b) {q : Option (Nat × Nat)} (t : mx G D B S q) : mx G E B S q := by
  cases q with
  | none => exact fun g r h1 h2 h3 h4 => t g r h1 h2 (fun z => h3 ((h g).1.mp z)) (h4.rel h.sy)
  | some p =>
    obtain ⟨c, r⟩ := p
    obtain ⟨a1, a2, a3, x, a4, a5⟩ := t
    obtain ⟨x', e1, e2⟩ := h.some a4
    refine ⟨a1, a2, a3.rel h, x', e1, fun g y r' hg hs hy hr => ?_⟩
    obtain ⟨y', f1, f2⟩ := h.sy.some hy
    have := a5 g y' r' hg hs f1 (hr.rel h.sy)
    exact ⟨by omega, fun z => this.2 (by omega)⟩
theorem MR.rel {G : GD} {D E B : Nat → Option Nat} {a b : Nat} (h : relA D E a b) : ∀ {n : Nat} {S : Nat → Bool} {P : Nat → Option Nat}, MR G D B n S P → MR G E B n S P := by
  intro n
  induction n with
  | zero => intro S P t; exact t
  | succ k ih =>
    rintro S P ⟨S1, P1, c, r, t, x, e1, e2⟩
    exact ⟨S1, P1, c, r, ih t, x.rel h, e1, e2⟩
theorem MF.rel {G : GD} {D E B P : Nat → Option Nat} {a b : Nat} (h : relA D E a b) (t : MF G D B P) : MF G E B P := by
  obtain ⟨n, S, r, f⟩ := t
  exact ⟨n, S, r.rel h, f.rel h⟩
theorem MR.base {G : GD} {D B : Nat → Option Nat} : ∀ {n : Nat} {S : Nat → Bool} {P : Nat → Option Nat}, MR G D B n S P → (∀ g, S g = true → ∃ S0, rl2 G D B S0 g (P g)) ∧ ∀ g, S g = false → P g = none := by
  intro n
  induction n with
  | zero =>
    rintro S P ⟨e1, e2⟩
    rw [e1, e2]
    exact ⟨(fun _ z => nomatch z), fun _ _ => rfl⟩
  | succ k ih =>
    rintro S P ⟨S1, P1, b, r, t, c, e1, e2⟩
    obtain ⟨i1, i2⟩ := ih t
    rw [e1, e2]
    refine ⟨fun g hg => ?_, fun g hg => ?_⟩
    · by_cases e : g = b
      · subst e
        rw [va_up_self]
        exact ⟨S1, c.2.2.1⟩
      · rw [va_up_ne _ _ e] at hg ⊢
        exact i1 g hg
    · by_cases e : g = b
      · subst e; rw [va_up_self] at hg; cases hg
      · rw [va_up_ne _ _ e] at hg ⊢
        exact i2 g hg
/-- what is known of a node: its costs, its base rules, the class's rules, the reference's -/
def ND (G : GD) (D B Q P : Nat → Option Nat) : Prop := (CF G D B Q) ∧ (MF G D B P) ∧ (∀ g i, B g = some i → g < 8 ∧ ¬ D g = none ∧ chG G i = false) ∧ (∀ g, Q g = none ↔ D g = none) ∧ (∀ g x, D g = some x → g < 8)
theorem ND.cf {G : GD} {D B Q P : Nat → Option Nat} (h : ND G D B Q P) : CF G D B Q := h.1
theorem ND.mf {G : GD} {D B Q P : Nat → Option Nat} (h : ND G D B Q P) : MF G D B P := h.2.1
theorem ND.bD {G : GD} {D B Q P : Nat → Option Nat} (h : ND G D B Q P) : ∀ g i, B g = some i → g < 8 ∧ ¬ D g = none ∧ chG G i = false := h.2.2.1
theorem ND.qD {G : GD} {D B Q P : Nat → Option Nat} (h : ND G D B Q P) : ∀ g, Q g = none ↔ D g = none := h.2.2.2.1
theorem ND.d8 {G : GD} {D B Q P : Nat → Option Nat} (h : ND G D B Q P) : ∀ g x, D g = some x → g < 8 := h.2.2.2.2
theorem ND.p1 {G : GD} {D B Q P : Nat → Option Nat} (h : ND G D B Q P) {g i : Nat} (hb : B g = some i) : P g = some i := by
  obtain ⟨n, S, r, f⟩ := h.mf
  obtain ⟨b1, b2, b3⟩ := h.bD g i hb
  obtain ⟨m1, m2⟩ := r.base
  have hs : S g = true := by
    cases e : S g with
    | true => rfl
    | false =>
      exfalso
      -- a base rule is there: the goal could be settled
      have hex : ∃ oc, q_lst (fun i => Att G D g i ∧ S (G.g1 i) = true) 0 G.R oc := by
        have : ∀ (Pp : Nat → Prop) (R : Nat), ∃ oc, q_lst Pp 0 R oc := by
          intro Pp R
          induction R with
          | zero => exact ⟨none, fun i _ h2 => absurd h2 (Nat.not_lt_zero _)⟩
          | succ R ih =>
            obtain ⟨oc, hoc⟩ := ih
            cases oc with
            | some j => exact ⟨some j, hoc.1, Nat.lt_succ_of_lt hoc.2.1, hoc.2.2.1, hoc.2.2.2⟩
            | none =>
              by_cases z : Pp R
              · exact ⟨some R, Nat.zero_le _, Nat.lt_succ_self _, z, fun j h1 h2 => hoc j h1 h2⟩
              · refine ⟨none, fun j h1 h2 h3 => ?_⟩
                by_cases e2 : j = R
                · subst e2; exact z h3
                · exact hoc j h1 (by omega) h3
        exact this _ _
      obtain ⟨oc, hoc⟩ := hex
      exact f g i b1 e b2 ⟨oc, hoc, by rw [hb]⟩
  obtain ⟨S0, oc, h1, h2⟩ := m1 g hs
  rw [hb] at h2
  exact h2
theorem ND.p2 {G : GD} {D B Q P : Nat → Option Nat} (h : ND G D B Q P) {g i : Nat} (hb : B g = none) (hp : P g = some i) : chG G i = true := by
  obtain ⟨n, S, r, f⟩ := h.mf
  obtain ⟨m1, m2⟩ := r.base
  have hs : S g = true := by
    cases e : S g with
    | true => rfl
    | false => rw [m2 g e] at hp; cases hp
  obtain ⟨S0, oc, h1, h2⟩ := m1 g hs
  rw [hb, hp] at h2
  have h2 : some i = oc := h2
  subst h2
  exact h1.2.2.1.1.2.1
def sameND (D B E B' : Nat → Option Nat) (a b : Nat) : Prop := relA D E a b ∧ B = B'
theorem eq_of_lt8 {G : GD} {D B Q P E B' Q' P' : Nat → Option Nat} (h : ND G D B Q P) (h' : ND G E B' Q' P') (e : ∀ g, g < 8 → ∀ i, (B g = some i → B' g = some i) ∧ (B' g = some i → B g = some i)) : B = B' := by
  funext g
  cases z : B g with
  | some i => exact ((e g (h.bD g i z).1 i).1 z).symm
  | none =>
    cases z' : B' g with
    | none => rfl
    | some i => rw [(e g (h'.bD g i z').1 i).2 z'] at z; cases z
theorem rel_of {G : GD} {D B Q P E B' Q' P' : Nat → Option Nat} {a b : Nat} (h : ND G D B Q P) (h' : ND G E B' Q' P') (e : ∀ g, g < 8 → (D g = none ↔ E g = none) ∧ (D g = none ∨ ∃ x y, D g = some x ∧ E g = some y ∧ x + b = y + a)) : relA D E a b := by
  intro g
  by_cases hg : g < 8
  · refine ⟨(e g hg).1, fun x y hx hy => ?_⟩
    rcases (e g hg).2 with z | ⟨x2, y2, z1, z2, z3⟩
    · rw [z] at hx; cases hx
    · rw [hx] at z1; cases z1
      rw [hy] at z2; cases z2
      exact z3
  · have n1 : D g = none := by
      cases z : D g with
      | none => rfl
      | some x => exact absurd (h.d8 g x z) hg
    have n2 : E g = none := by
      cases z : E g with
      | none => rfl
      | some x => exact absurd (h'.d8 g x z) hg
    exact ⟨⟨fun _ => n2, fun _ => n1⟩, fun x y hx => by rw [n1] at hx; cases hx⟩
theorem alikeC {G : GD} {D B Q P E B' Q' P' : Nat → Option Nat} {a b : Nat} (h : ND G D B Q P) (h' : ND G E B' Q' P') : sameND D B E B' a b ↔ ∀ g, g < 8 → Q g = Q' g ∧ (Q g = none ∨ ∃ x y, D g = some x ∧ E g = some y ∧ x + b = y + a) := by
  constructor
  · rintro ⟨h1, rfl⟩ g hg
    have e : Q = Q' := (h.cf.rel h1).one h'.cf
    refine ⟨by rw [e], ?_⟩
    cases z : D g with
    | none => exact Or.inl ((h.qD g).mpr z)
    | some x =>
      obtain ⟨y, hy, e2⟩ := h1.some z
      exact Or.inr ⟨x, y, rfl, hy, e2⟩
  · intro e
    have hr : relA D E a b := rel_of h h' (fun g hg => by
      obtain ⟨e1, e2⟩ := e g hg
      refine ⟨by rw [← h.qD g, ← h'.qD g, e1], ?_⟩
      rcases e2 with z | z
      · exact Or.inl ((h.qD g).mp z)
      · exact Or.inr z)
    refine ⟨hr, eq_of_lt8 h h' (fun g hg i => ?_)⟩
    obtain ⟨n, S, r, f⟩ := h.cf
    obtain ⟨n', S', r', f'⟩ := h'.cf
    obtain ⟨c1, c2⟩ := r.base
    obtain ⟨d1, d2⟩ := r'.base
    obtain ⟨e1, -⟩ := e g hg
    constructor
    · intro z
      have q1 := c1 g i z
      rw [e1] at q1
      cases w : B' g with
      | none =>
        have := d2 g i w q1
        rw [(h.bD g i z).2.2] at this
        cases this
      | some j =>
        have := d1 g j w
        rw [q1] at this
        cases this
        rfl
    · intro z
      have q1 := d1 g i z
      rw [← e1] at q1
      cases w : B g with
      | none =>
        have := c2 g i w q1
        rw [(h'.bD g i z).2.2] at this
        cases this
      | some j =>
        have := c1 g j w
        rw [q1] at this
        cases this
        rfl
theorem alikeM {G : GD} {D B Q P E B' Q' P' : Nat → Option Nat} {a b : Nat} (h : ND G D B Q P) (h' : ND G E B' Q' P') : sameND D B E B' a b ↔ ∀ g, g < 8 → (D g = none ↔ E g = none) ∧ (D g = none ∨ (∃ x y, D g = some x ∧ E g = some y ∧ x + b = y + a) ∧ P g = P' g) := by
  constructor
  · rintro ⟨h1, rfl⟩ g hg
    have e : P = P' := (h.mf.rel h1).one h'.mf
    refine ⟨(h1 g).1, ?_⟩
    cases z : D g with
    | none => exact Or.inl rfl
    | some x =>
      obtain ⟨y, hy, e2⟩ := h1.some z
      exact Or.inr ⟨⟨x, y, rfl, hy, e2⟩, by rw [e]⟩
  · intro e
    have hr : relA D E a b := rel_of h h' (fun g hg => by
      obtain ⟨e1, e2⟩ := e g hg
      refine ⟨e1, ?_⟩
      rcases e2 with z | z
      · exact Or.inl z
      · exact Or.inr z.1)
    refine ⟨hr, eq_of_lt8 h h' (fun g hg i => ?_)⟩
    obtain ⟨e1, e2⟩ := e g hg
    constructor
    · intro z
      obtain ⟨z1, z2, z3⟩ := h.bD g i z
      have q1 := h.p1 z
      rcases e2 with w | ⟨-, w⟩
      · exact absurd w z2
      · rw [w] at q1
        cases u : B' g with
        | none =>
          have := h'.p2 u q1
          rw [z3] at this; cases this
        | some j =>
          have := h'.p1 u
          rw [q1] at this
          cases this
          rfl
    · intro z
      obtain ⟨z1, z2, z3⟩ := h'.bD g i z
      have q1 := h'.p1 z
      rcases e2 with w | ⟨-, w⟩
      · exact absurd (e1.mp w) z2
      · rw [← w] at q1
        cases u : B g with
        | none =>
          have := h.p2 u q1
          rw [z3] at this; cases this
        | some j =>
          have := h.p1 u
          rw [q1] at this
          cases this
          rfl
end
section
/-! the class's draft with its history: the loops as relations -/
def CL (G : GD) (m z : Nat) (C Q : Nat → Option Nat) : Nat → (Nat → Option Nat) → (Nat → Option Nat) → Prop
  | 0, C', Q' => C' = C ∧ Q' = Q
  | i + 1, C', Q' => (CL G m z C Q i C' Q' ∧ ¬ (chG G i = true ∧ G.g1 i = m)) ∨ (CL G m z C Q i C' Q' ∧ ¬ takes C' (G.go i) (some (z + G.co i))) ∨ ∃ C1 Q1, CL G m z C Q i C1 Q1 ∧ chG G i = true ∧ G.g1 i = m ∧ takes C1 (G.go i) (some (z + G.co i)) ∧ C' = va_up C1 (G.go i) (some (z + G.co i)) ∧ Q' = va_up Q1 (G.go i) (some i)
theorem CL.nil {G : GD} {m z : Nat} {C Q : Nat → Option Nat} : CL G m z C Q 0 C Q := ⟨rfl, rfl⟩
theorem CL.skip {G : GD} {m z : Nat} {C Q : Nat → Option Nat} {i : Nat} {C' Q' : Nat → Option Nat} (t : CL G m z C Q i C' Q') (h : ¬ (chG G i = true ∧ G.g1 i = m)) : CL G m z C Q (i + 1) C' Q' := Or.inl ⟨t, h⟩
theorem CL.dear {G : GD} {m z : Nat} {C Q : Nat → Option Nat} {i : Nat} {C' Q' : Nat → Option Nat} (t : CL G m z C Q i C' Q') (h : ¬ takes C' (G.go i) (some (z + G.co i))) : CL G m z C Q (i + 1) C' Q' := Or.inr (Or.inl ⟨t, h⟩)
theorem CL.take {G : GD} {m z : Nat} {C Q : Nat → Option Nat} {i : Nat} {C' Q' : Nat → Option Nat} (t : CL G m z C Q i C' Q') (h1 : chG G i = true) (h2 : G.g1 i = m) (h3 : takes C' (G.go i) (some (z + G.co i))) : CL G m z C Q (i + 1) (va_up C' (G.go i) (some (z + G.co i))) (va_up Q' (G.go i) (some i)) := Or.inr (Or.inr ⟨C', Q', t, h1, h2, h3, rfl, rfl⟩)
/-- after the base rules below m: each goal's rule is the least of those of least cost -/
def BD (G : GD) (pr : Nat → Option Nat) (m : Nat) (C Q : Nat → Option Nat) : Prop := ∀ g x, C g = some x → ∃ i, Q g = some i ∧ i < m ∧ G.go i = g ∧ pr i = some x ∧ ∀ j y, j < i → G.go j = g → pr j = some y → x < y
theorem BD.up {G : GD} {pr : Nat → Option Nat} {m : Nat} {C Q : Nat → Option Nat} (h : BD G pr m C Q) : BD G pr (m + 1) C Q := fun g x hx => by
  obtain ⟨i, h1, h2, h3⟩ := h g x hx
  exact ⟨i, h1, by omega, h3⟩
theorem BD.take {G : GD} {pr : Nat → Option Nat} {m y : Nat} {C Q : Nat → Option Nat} (h : BD G pr m C Q) (hy : pr m = some y) (ht : takes C (G.go m) (some y)) (hb : ∀ j y, j < m → pr j = some y → ∃ x, C (G.go j) = some x ∧ x ≤ y) : BD G pr (m + 1) (va_up C (G.go m) (some y)) (va_up Q (G.go m) (some m)) := fun g x hx => by
  by_cases e : g = G.go m
  · subst e
    rw [va_up_self] at hx ⊢
    cases hx
    refine ⟨m, rfl, by omega, rfl, hy, fun j y2 hj hg hy2 => ?_⟩
    obtain ⟨w, hw, hle⟩ := hb j y2 hj hy2
    rw [hg] at hw
    obtain ⟨y3, ey, h2⟩ := ht
    cases ey
    rcases h2 with h2 | ⟨x3, hx3, hlt⟩
    · rw [h2] at hw; cases hw
    · rw [hw] at hx3; cases hx3; omega
  · rw [va_up_ne _ _ e] at hx ⊢
    obtain ⟨i, h1, h2, h3⟩ := h g x hx
    exact ⟨i, h1, by omega, h3⟩
theorem w_settleGoalsG {post : ctN → ctF → Prop} {n : ctN} {f f0 : ctF} {N o a b : Nat} {G : GD} {pr : Nat → Option Nat} {C0 Q0 : Nat → Option Nat} (hG : G.ok) (hC : gC G n f0) (hN : n 2 = nI N) (hN' : N < 120) (ho : o < G.O) (h9 : f0 9 N = nI o) (h10 : f0 10 N = nI a) (h11 : f0 11 N = nI b)
    (ha : 1 ≤ G.k o → a < N ∧ ∀ g, g < 8 → szOK (f0 16 (8 * a + g))) (hb : 2 ≤ G.k o → b < N ∧ ∀ g, g < 8 → szOK (f0 16 (8 * b + g)))
    (h0 : q_stJ G pr N f0 f (fun _ => false) C0 Q0) (Γ : (Nat → Bool) → (Nat → Option Nat) → (Nat → Option Nat) → Prop) (hΓ0 : Γ (fun _ => false) C0 Q0) (hΓ : ∀ f1 S C Q m z C' Q', q_stJ G pr N f0 f1 S C Q → Γ S C Q → isBest C S 8 (some m) → C m = some z → CL G m z C Q G.R C' Q' → Γ (va_up S m true) C' Q') (hend : ∀ f' S C Q, stE G pr N f0 f' C Q → Γ S C Q → (∀ g, g < 8 → S g = false → C g = none) → post n f') : wp_F_settleGoals post n f := by
  have e8 : (8 : Int32) = nI 8 := ix_8
  have hNc : (nI N).toNatClampNeg = N := nI_clamp (by omega)
  have loop : ∀ (d step : Nat) (f : ctF) (S : Nat → Bool) (C Q : Nat → Option Nat), 8 = step + d → q_stJ G pr N f0 f S C Q → q_sm (fun g => if S g = true then 1 else 0) 8 = step → Γ S C Q → wp_F_settleGoals_L2 post (d + 1) (nI step) n f := by
    intro d
    induction d with
    | zero =>
      intro step f S C Q hd hj hs hγ
      have e : step = 8 := by omega
      subst e
      rw [wp_F_settleGoals_L2]
      have X : ∀ g, g < 8 → S g = false → C g = none := by
        intro g hg hsg
        have := sm_full (φ := fun g => if S g = true then 1 else 0) 8 (fun g _ => by split <;> omega) (by omega) g hg
        simp [hsg] at this
      exact ⟨fun _ => hend f S C Q (hj.fin hG X) hγ X, fun q => absurd (by rw [e8]; exact nI_le (Nat.le_refl 8) (by decide)) q⟩
    | succ d ih =>
      intro step f S C Q hd hj hs hγ
      rw [wp_F_settleGoals_L2]
      refine ⟨fun q => absurd q (by rw [e8]; exact nI_ge (by omega) (by decide)), fun _ => ?_⟩
      refine w_cheapest hN hN' hj.row hj.flag (fun best hbest => ?_)
      cases best with
      | none => exact ⟨fun q => absurd rfl q, fun _ => hend f S C Q (hj.fin hG hbest) hγ hbest⟩
      | some m =>
        obtain ⟨hm8, hSm, z, hz, hmin⟩ := id hbest
        have hmc : (nI m).toNatClampNeg = m := nI_clamp (by omega)
        have hz20 := bnd_lt hj.bnd hz
        have Jm : ∀ f8 : ctF, (∀ k, k ≠ 12 → k ≠ 17 → f8 k = f k) → (∀ j, j ≠ N → f8 12 j = f 12 j) → f8 17 = upd (f 17) m 1 → (∃ x, f8 12 N = nI x ∧ (∃ g, g < 8 ∧ (S g = true ∨ g = m) ∧ C g = some x) ∧ ∀ g y, g < 8 → C g = some y → x ≤ y) → wp_F_settleGoals_J52 post (wp_F_settleGoals_L2 post (d + 1)) (nI step) (nI m) n f8 := by
          intro f8 e8o e812 e817 hle
          have sm8 : sameBut N f0 f8 := hj.same.tr ⟨fun k h1 _ _ _ h5 => e8o k h1 h5, e812, fun j _ => by rw [e8o 14 (by decide) (by decide), e8o 15 (by decide) (by decide), e8o 16 (by decide) (by decide)]; exact ⟨rfl, rfl, rfl⟩⟩
          obtain ⟨qi, hqi⟩ : ∃ qi, Q m = some qi := by
            cases q : Q m with
            | none => rw [(hj.non m).mpr q] at hz; cases hz
            | some qi => exact ⟨qi, rfl⟩
          have hqR := hj.rul m qi hqi
          have hR40 := hG.R40
          have gC8 := hC.same sm8
          obtain ⟨r4, r5, r6, r7, r8⟩ := gC8.ru qi hqR
          obtain ⟨q1, q2, q3, q4, q5⟩ := hG.ru qi hqR
          unfold wp_F_settleGoals_J52
          rw [hN]
          refine w_place ?_
          refine w_sizeByRule hN hN' hm8 (i := qi) (by rw [e8o 15 (by decide) (by decide), (hj.row.1 m hm8).2, hqi]; rfl) (by omega) ?_ (fun s hs2 => ?_)
          · by_cases c : chG G qi = true
            · exact Or.inl ⟨r5.trans ((GD.op_m1 hG hqR).mpr c), G.g1 qi, q3, r6, by rw [e8o 16 (by decide) (by decide)]; exact (hj.siz _ q3).1⟩
            · refine Or.inr ⟨fun q => c ((GD.op_m1 hG hqR).mp (r5.symm.trans q)), o, G.k o, by have := hG.O10; omega, ?_, gC8.pa o ho, hG.k2 o ho, fun hk => ?_, fun hk => ?_⟩
              · rw [sm8.1 9 (by decide) (by decide) (by decide) (by decide) (by decide)]; exact h9
              · obtain ⟨haN, hsz⟩ := ha hk
                refine ⟨a, G.g1 qi, by omega, q3, ?_, r6, ?_⟩
                · rw [sm8.1 10 (by decide) (by decide) (by decide) (by decide) (by decide)]; exact h10
                · rw [(sm8.2.2 (8 * a + G.g1 qi) (by omega)).2.2]; exact hsz _ q3
              · obtain ⟨hbN, hsz⟩ := hb hk
                refine ⟨b, G.g2 qi, by omega, q4, ?_, r7, ?_⟩
                · rw [sm8.1 11 (by decide) (by decide) (by decide) (by decide) (by decide)]; exact h11
                · rw [(sm8.2.2 (8 * b + G.g2 qi) (by omega)).2.2]; exact hsz _ q4
          · refine ⟨ix_in hN' hm8, ?_⟩
            rw [ix_cl hN' hm8]
            rintro f16 hf16
            have e16 : f16 16 = upd (f8 16) (8 * N + m) s := by rw [hf16, va_up_self]
            have eo : ∀ k, k ≠ 16 → f16 k = f8 k := fun k hk => by rw [hf16, va_up_ne _ _ hk]
            have sm16 : sameBut N f0 f16 := sm8.tr ⟨fun k _ _ _ h4 _ => eo k h4, fun j _ => by rw [eo 12 (by decide)], fun j hj2 => by rw [eo 14 (by decide), eo 15 (by decide), e16, upd_ne _ _ (by omega)]; exact ⟨rfl, rfl, rfl⟩⟩
            have row16 : rowC N f16 C Q := ⟨fun h hh => by rw [eo 14 (by decide), eo 15 (by decide), e8o 14 (by decide) (by decide), e8o 15 (by decide) (by decide)]; exact hj.row.1 h hh, hj.row.2⟩
            have gC16 := hC.same sm16
            have settled_le : ∀ s x, S s = true ∨ s = m → C s = some x → x ≤ z := by
              intro s x hs3 hx
              rcases hs3 with hs3 | rfl
              · obtain ⟨x2, hx2, h2, -⟩ := hj.st1 s hs3
                rw [hx] at hx2; cases hx2
                exact h2 m z hm8 hSm hz
              · rw [hx] at hz; cases hz; exact Nat.le_refl _
            refine w_applyChain (N := N) (R := G.R) (h := m) (z := z) hN hN' gC16.nR hR40 hm8 G.go G.co (fun i hi => ⟨(hG.ru i hi).1, (gC16.ru i hi).1⟩) (fun i hi => ⟨(hG.ru i hi).2.1, (gC16.ru i hi).2.2.2.2⟩) (by omega)
              (fun i C' Q' => bndC C' ∧ aboveC G.R G.go (chG G) G.g1 G.co pr C' ∧ (∀ i y, i < G.R → chG G i = false → pr i = some y → ∃ x, C' (G.go i) = some x ∧ x ≤ y) ∧ (∀ g i, Q' g = some i → i < G.R) ∧ (∀ g, C' g = none ↔ Q' g = none) ∧ (∀ s, S s = true ∨ s = m → C' s = C s) ∧ (∀ g y, g < 8 → C' g = some y → (∃ y0, C g = some y0 ∧ y ≤ y0) ∨ C g = none) ∧ (∀ g y, g < 8 → S g = false → C' g = some y → z ≤ y) ∧ (∀ g x, C g = some x → ∃ x', C' g = some x' ∧ x' ≤ x) ∧ CL G m z C Q i C' Q' ∧ ∀ j, j < i → chG G j = true → G.g1 j = m → ∃ w, C' (G.go j) = some w ∧ w ≤ z + G.co j)
              ?_ ?_ ?_ (C0 := C) (Q0 := Q) ⟨hj.bnd, hj.abv, hj.bas, hj.rul, hj.non, fun _ _ => rfl, fun g y _ e => Or.inl ⟨y, e, Nat.le_refl _⟩, fun g y hg hs3 e => (hmin g y hg hs3 e).1, fun g x e => ⟨x, e, Nat.le_refl _⟩, CL.nil, fun j hj2 => absurd hj2 (Nat.not_lt_zero _)⟩ row16 hz ?_
            · rintro i C' Q' hi ⟨i1, i2, i3, i4, i5, i6, i7, i8, i9, iL, i10⟩ hno
              refine ⟨i1, i2, i3, i4, i5, i6, i7, i8, i9, CL.skip iL (fun w => hno ⟨(gC16.ru i hi).2.1.trans ((GD.op_m1 hG hi).mpr w.1), by rw [(gC16.ru i hi).2.2.1, w.2]⟩), fun j hj2 hc2 hg2 => ?_⟩
              by_cases e : j = i
              · subst e
                obtain ⟨-, t5, t6, -, -⟩ := gC16.ru j hi
                exact absurd ⟨t5.trans ((GD.op_m1 hG hi).mpr hc2), by rw [t6, hg2]⟩ hno
              · exact i10 j (by omega) hc2 hg2
            · rintro i C' Q' hi ⟨i1, i2, i3, i4, i5, i6, i7, i8, i9, iL, i10⟩ h5 h6 hnt
              refine ⟨i1, i2, i3, i4, i5, i6, i7, i8, i9, CL.dear iL hnt, fun j hj2 hc2 hg2 => ?_⟩
              by_cases e : j = i
              · subst e
                cases hc : C' (G.go j) with
                | none => exact absurd ⟨_, rfl, Or.inl hc⟩ hnt
                | some w =>
                  refine ⟨w, rfl, ?_⟩
                  rcases Nat.lt_or_ge (z + G.co j) w with q | q
                  · exact absurd ⟨_, rfl, Or.inr ⟨w, hc, q⟩⟩ hnt
                  · exact q
              · exact i10 j (by omega) hc2 hg2
            · rintro i C' Q' hi ⟨i1, i2, i3, i4, i5, i6, i7, i8, i9, iL, i10⟩ h5 h6 ht
              obtain ⟨t4, t5, t6, t7, t8⟩ := gC16.ru i hi
              obtain ⟨p1, p2, p3, p4, p5⟩ := hG.ru i hi
              have hch : chG G i = true := (GD.op_m1 hG hi).mp (t5.symm.trans h5)
              have hg1 : G.g1 i = m := by
                have := t6.symm.trans h6
                exact (nI_eq (by omega) (by omega)).mp this
              have hCm : C' m = some z := (i6 m (Or.inr rfl)).trans hz
              have hby : byR (chG G) G.g1 G.co pr C' i = some (z + G.co i) := by
                unfold byR
                rw [if_pos hch, hg1, hCm]
                rfl
              have hnS : ¬ (S (G.go i) = true ∨ G.go i = m) := by
                intro hs3
                obtain ⟨y2, ey, h2⟩ := id ht
                cases ey
                have e6 := i6 _ hs3
                rcases h2 with h2 | ⟨x, hx, hlt⟩
                · rw [h2] at e6
                  rcases hs3 with hs3 | hs3
                  · obtain ⟨x2, hx2, -, -⟩ := hj.st1 _ hs3
                    rw [hx2] at e6; cases e6
                  · rw [hs3, hz] at e6; cases e6
                · have := settled_le _ x hs3 (e6.symm.trans hx)
                  omega
              refine ⟨bnd_take i1 p1 ht (Or.inr ⟨m, z, hCm, by omega⟩), above_take i2 hi hby, fun j y hj2 hc2 hy => ?_, fun g j hq => ?_, fun g => ?_, fun s hs3 => ?_, fun g y hg hy => ?_, fun g y hg hs3 hy => ?_, fun g x hx => ?_, CL.take iL hch hg1 ht, fun j hj2 hc2 hg2 => ?_⟩
              · obtain ⟨x, hx, hle2⟩ := i3 j y hj2 hc2 hy
                by_cases e : G.go j = G.go i
                · rw [e] at hx ⊢
                  rw [va_up_self]
                  obtain ⟨y2, ey, h2⟩ := id ht
                  cases ey
                  rcases h2 with h2 | ⟨x3, hx3, hlt⟩
                  · rw [h2] at hx; cases hx
                  · rw [hx] at hx3; cases hx3
                    exact ⟨_, rfl, by omega⟩
                · rw [va_up_ne _ _ e]; exact ⟨x, hx, hle2⟩
              · by_cases e : g = G.go i
                · subst e; rw [va_up_self] at hq; cases hq; exact hi
                · rw [va_up_ne _ _ e] at hq; exact i4 g j hq
              · by_cases e : g = G.go i
                · subst e; rw [va_up_self, va_up_self]; exact ⟨(fun q => nomatch q), (fun q => nomatch q)⟩
                · rw [va_up_ne _ _ e, va_up_ne _ _ e]; exact i5 g
              · rw [va_up_ne _ _ (fun q => hnS (by rw [← q]; exact hs3))]; exact i6 s hs3
              · by_cases e : g = G.go i
                · subst e
                  rw [va_up_self] at hy; cases hy
                  cases hc : C (G.go i) with
                  | none => exact Or.inr rfl
                  | some y0 =>
                    obtain ⟨x', hx', hle3⟩ := i9 _ _ hc
                    obtain ⟨y2, ey, h2⟩ := id ht
                    cases ey
                    rcases h2 with h2 | ⟨x3, hx3, hlt⟩
                    · rw [h2] at hx'; cases hx'
                    · rw [hx'] at hx3; cases hx3
                      exact Or.inl ⟨y0, rfl, by omega⟩
                · rw [va_up_ne _ _ e] at hy; exact i7 g y hg hy
              · by_cases e : g = G.go i
                · subst e
                  rw [va_up_self] at hy; cases hy; omega
                · rw [va_up_ne _ _ e] at hy; exact i8 g y hg hs3 hy
              · obtain ⟨x', hx', hle3⟩ := i9 g x hx
                by_cases e : g = G.go i
                · subst e
                  rw [va_up_self]
                  obtain ⟨y2, ey, h2⟩ := id ht
                  cases ey
                  rcases h2 with h2 | ⟨x3, hx3, hlt⟩
                  · rw [h2] at hx'; cases hx'
                  · rw [hx'] at hx3; cases hx3
                    exact ⟨_, rfl, by omega⟩
                · rw [va_up_ne _ _ e]; exact ⟨x', hx', hle3⟩
              · by_cases e : G.go j = G.go i
                · rw [e, va_up_self]
                  refine ⟨_, rfl, ?_⟩
                  by_cases e2 : j = i
                  · subst e2; exact Nat.le_refl _
                  · obtain ⟨w, hw, hle3⟩ := i10 j (by omega) hc2 hg2
                    rw [e] at hw
                    obtain ⟨y2, ey, h2⟩ := id ht
                    cases ey
                    rcases h2 with h2 | ⟨x3, hx3, hlt⟩
                    · rw [h2] at hw; cases hw
                    · rw [hw] at hx3; cases hx3; omega
                · rw [va_up_ne _ _ e]
                  exact i10 j (by
                    rcases Nat.lt_or_ge j i with q | q
                    · exact q
                    · exact absurd (by rw [show j = i by omega]) e) hc2 hg2
            · rintro f' C' Q' ⟨i1, i2, i3, i4, i5, i6, i7, i8, i9, iL, i10⟩ hrow' hk'
              rintro _ rfl
              rw [nI_1]
              refine ih (step + 1) f' (va_up S m true) C' Q' (by omega) ?_ ?_ (hΓ f S C Q m z C' Q' hj hγ hbest hz iL)
              · have s17 : f' 17 = upd (f 17) m 1 := by rw [hk'.2.2.2, eo 17 (by decide), e817]
                have s16 : f' 16 = upd (f8 16) (8 * N + m) s := by rw [hk'.2.2.1, e16]
                have s12 : f' 12 = f8 12 := by rw [hk'.2.1, eo 12 (by decide)]
                refine ⟨sm16.tr hk'.1, hrow', fun g hg => ?_, i1, i2, i3, i4, i5, fun s2 hs2 => ?_, fun g hg => ?_, ?_⟩
                · rw [s17]
                  by_cases e : g = m
                  · subst e; rw [upd_self, va_up_self]; rfl
                  · rw [upd_ne _ _ e, va_up_ne _ _ e]; exact hj.flag g hg
                · have hs2' : S s2 = true ∨ s2 = m := by
                    by_cases e : s2 = m
                    · exact Or.inr e
                    · rw [va_up_ne _ _ e] at hs2; exact Or.inl hs2
                  have nS : ∀ g, va_up S m true g = false → S g = false := fun g hg => by
                    by_cases e : g = m
                    · subst e; rw [va_up_self] at hg; cases hg
                    · rw [va_up_ne _ _ e] at hg; exact hg
                  obtain ⟨x, hx⟩ : ∃ x, C s2 = some x := by
                    rcases hs2' with q | rfl
                    · obtain ⟨x, hx, -, -⟩ := hj.st1 s2 q; exact ⟨x, hx⟩
                    · exact ⟨z, hz⟩
                  have hxz := settled_le s2 x hs2' hx
                  refine ⟨x, (i6 s2 hs2').trans hx, fun g y hg hsg hy => ?_, fun i hi hc2 hg2 => ?_⟩
                  · have := i8 g y hg (nS g hsg) hy
                    omega
                  · by_cases e : s2 = m
                    · subst e
                      rw [hx] at hz; cases hz
                      exact i10 i hi hc2 hg2
                    · rcases hs2' with q | q
                      · obtain ⟨x2, hx2, -, h3⟩ := hj.st1 s2 q
                        rw [hx] at hx2; cases hx2
                        obtain ⟨w, hw, hle3⟩ := h3 i hi hc2 hg2
                        obtain ⟨w', hw', hle4⟩ := i9 _ _ hw
                        exact ⟨w', hw', by omega⟩
                      · exact absurd q e
                · rw [s16]
                  by_cases e : g = m
                  · subst e; rw [upd_self]; exact ⟨hs2, fun q => by rw [va_up_self] at q; cases q⟩
                  · rw [upd_ne _ _ (by omega), va_up_ne _ _ e, e8o 16 (by decide) (by decide)]; exact hj.siz g hg
                · right
                  obtain ⟨x, hx1, ⟨g, hg, hgs, hgc⟩, hx3⟩ := hle
                  have hgS : S g = true ∨ g = m := hgs
                  refine ⟨x, by rw [s12]; exact hx1, ⟨g, hg, ?_, (i6 g hgS).trans hgc⟩, fun g2 y hg2 hy => ?_⟩
                  · by_cases e : g = m
                    · subst e; exact va_up_self _ _ _
                    · rw [va_up_ne _ _ e]; exact hgS.resolve_right e
                  · by_cases q : S g2 = true
                    · rw [i6 g2 (Or.inl q)] at hy; exact hx3 g2 y hg2 hy
                    · have h1 := i8 g2 y hg2 (by cases w : S g2; rfl; exact absurd w q) hy
                      have h2 := hx3 m z hm8 hz
                      omega
              · have e1 : ∀ j, j ≠ m → (fun g => if va_up S m true g = true then 1 else 0) j = (fun g => if S g = true then 1 else 0) j := fun j hj2 => by
                  dsimp only; rw [va_up_ne _ _ hj2]
                have e2 := sm_up (φ := fun g => if S g = true then 1 else 0) (ψ := fun g => if va_up S m true g = true then 1 else 0) e1 8 hm8
                rw [va_up_self, hSm, if_pos rfl, if_neg (by decide)] at e2
                omega
        refine ⟨fun _ => ⟨vp_in_nI hm8 (by decide), ?_⟩, fun q => absurd q (nI_m1 (by omega))⟩
        rw [en_s, hmc, nar1]
        rintro f7 hf7
        have e17 : f7 17 = upd (f 17) m 1 := by rw [hf7, va_up_self]
        have eo : ∀ k, k ≠ 17 → f7 k = f k := fun k hk => by rw [hf7, va_up_ne _ _ hk]
        refine ⟨fun c => ?_, fun c => ?_⟩
        · refine Jm f7 (fun k _ h2 => eo k h2) (fun j _ => by rw [eo 12 (by decide)]) e17 ?_
          rcases hj.lea with ⟨h1, -⟩ | ⟨x, h1, ⟨g, hg, hgs, hgc⟩, h3⟩
          · exfalso
            apply c
            have : q_sm (fun g => if S g = true then 1 else 0) 8 ≤ 8 * 0 := sm_le 8 (fun g _ => by rw [h1 g]; exact Nat.le_refl _)
            have : step = 0 := by omega
            rw [this]; exact nI_0
          · exact ⟨x, by rw [eo 12 (by decide)]; exact h1, ⟨g, hg, Or.inl hgs, hgc⟩, h3⟩
        · have hs0 : step = 0 := by
            rw [← nI_0] at c
            exact (nI_eq (by omega) (by decide)).mp c
          have hall : ∀ g, g < 8 → S g = false := fun g hg => by
            cases q : S g with
            | false => rfl
            | true =>
              have e2 := sm_up (φ := fun g => if S g = true then 1 else 0) (ψ := fun g' => if va_up S g false g' = true then 1 else 0) (g := g) (fun j hj2 => by rw [va_up_ne _ _ hj2]) 8 hg
              rw [va_up_self, q, if_pos rfl, if_neg (by decide)] at e2
              omega
          rw [hN]
          refine w_place ⟨ix_in hN' hm8, vp_in_nI hN' (by decide), ?_⟩
          rw [hNc, ix_cl hN' hm8]
          rintro f9 hf9
          have e12 : f9 12 = upd (f 12) N (f 14 (8 * N + m)) := by rw [hf9, va_up_self, eo 12 (by decide), eo 14 (by decide)]
          have eo9 : ∀ k, k ≠ 12 → f9 k = f7 k := fun k hk => by rw [hf9, va_up_ne _ _ hk]
          refine Jm f9 (fun k h1 h2 => (eo9 k h1).trans (eo k h2)) (fun j hj2 => by rw [e12, upd_ne _ _ hj2]) (by rw [eo9 17 (by decide), e17]) ⟨z, by rw [e12, upd_self, (hj.row.1 m hm8).1, hz]; rfl, ⟨m, hm8, Or.inr rfl, hz⟩, fun g y hg hy => (hmin g y hg (hall g hg) hy).1⟩
  unfold wp_F_settleGoals
  refine ⟨9, ?_⟩
  have q := loop 8 0 f (fun _ => false) C0 Q0 (by omega) h0 rfl hΓ0
  rw [nI_0] at q
  exact q
theorem w_draftG {post : ctN → ctF → Prop} {n : ctN} {f : ctF} {G : GD} {T : TD} {o a b : Nat} (hG : G.ok) (hT : T.ok G) (hC : gC G n f) (hD : tC G T n f) (hN' : T.N < 120) (ho : o < G.O) (ha : 1 ≤ G.k o → a < T.N) (hb : 2 ≤ G.k o → b < T.N)
    (Γ : (Nat → Bool) → (Nat → Option Nat) → (Nat → Option Nat) → Prop) (hΓ0 : ∀ C Q, BD G (prG G T o a b) G.R C Q → (∀ g, C g = none ↔ Q g = none) → (∀ j y, j < G.R → prG G T o a b j = some y → ∃ x, C (G.go j) = some x ∧ x ≤ y) → aboveC G.R G.go (chG G) G.g1 G.co (prG G T o a b) C → Γ (fun _ => false) C Q) (hΓ : ∀ f0 f1 S C Q m z C' Q', q_stJ G (prG G T o a b) T.N f0 f1 S C Q → Γ S C Q → isBest C S 8 (some m) → C m = some z → CL G m z C Q G.R C' Q' → Γ (va_up S m true) C' Q')
    (hend : ∀ f' S C Q, stE G (prG G T o a b) T.N (q_setN f T.N (nI o) (nI a) (nI b)) f' C Q → Γ S C Q → (∀ g, g < 8 → S g = false → C g = none) → post n f') : wp_F_draft post (nI o) (nI a) (nI b) n f := by
  have hN := hD.nN
  have hNc : (nI T.N).toNatClampNeg = T.N := nI_clamp (by omega)
  have hNi : vp_in (nI T.N) 120 := vp_in_nI hN' (by decide)
  have hO := hG.O10
  unfold wp_F_draft
  rw [hN, hNc]
  refine ⟨hNi, ?_⟩
  rintro _ rfl
  refine ⟨hNi, ?_⟩
  rintro _ rfl
  refine ⟨hNi, ?_⟩
  rintro f1 hf1
  have hf1 : f1 = q_setN f T.N (nI o) (nI a) (nI b) := by
    rw [hf1]; unfold q_setN
    rw [va_up_ne (k := 10) (j := 11) _ _ (by decide), va_up_ne (k := 9) (j := 11) _ _ (by decide), va_up_ne (k := 9) (j := 10) _ _ (by decide)]
  have C1 : gC G n f1 := hC.up rfl rfl (fun k h1 h2 => by rw [hf1, setN_o _ _ _ _ _ (by omega) (by omega) (by omega)])
  rw [← hf1] at hend
  have e9 : f1 9 T.N = nI o := by rw [hf1, setN_9, upd_self]
  have e10 : f1 10 T.N = nI a := by rw [hf1, setN_10, upd_self]
  have e11 : f1 11 T.N = nI b := by rw [hf1, setN_11, upd_self]
  refine w_blank hN hN' (fun f2 s2 b2 => ?_)
  have C2 := C1.same s2
  obtain ⟨row2, flag2⟩ := blank_row b2
  have c9 : f2 9 = f1 9 := s2.1 9 (by decide) (by decide) (by decide) (by decide) (by decide)
  have op9 : ∀ i, i < G.R → (f2 5 i = f2 9 T.N ↔ G.op i = some o) := by
    intro i hi
    rw [(C2.ru i hi).2.1, c9, e9]
    cases q : G.op i with
    | none => exact ⟨fun z => absurd z.symm (nI_m1 (by omega)), (fun z => nomatch z)⟩
    | some o2 =>
      have := (hG.ru i hi).2.2.2.2 o2 q
      rw [en_s, nI_eq (by omega) (by omega)]
      exact ⟨fun z => by rw [z], fun z => Option.some.inj z⟩
  refine w_applyBase (N := T.N) (R := G.R) hN hN' C2.nR hG.R40 G.go (fun i hi => ⟨(hG.ru i hi).1, (C2.ru i hi).1⟩) (prG G T o a b) (fun i y hi hy => by have := prG_le hG hT ho ha hb hi hy; omega) ?_
    (fun i C Q => bndC C ∧ aboveC G.R G.go (chG G) G.g1 G.co (prG G T o a b) C ∧ (∀ j y, j < i → prG G T o a b j = some y → ∃ x, C (G.go j) = some x ∧ x ≤ y) ∧ (∀ g i, Q g = some i → i < G.R) ∧ (∀ g, C g = none ↔ Q g = none) ∧ BD G (prG G T o a b) i C Q)
    ?_ ?_ ?_ (C0 := fun _ => none) (Q0 := fun _ => none) ⟨bnd_none, above_none, fun j _ hj => absurd hj (Nat.not_lt_zero _), (fun _ _ e => nomatch e), fun _ => Iff.rfl, (fun _ _ e => nomatch e)⟩ row2 ?_
  · intro i hi h5 f' hk post' hp
    have hop := (op9 i hi).mp h5
    obtain ⟨q1, q2, q3, q4, q5⟩ := hG.ru i hi
    obtain ⟨r4, r5, r6, r7, r8⟩ := C2.ru i hi
    have at' : ∀ k, k ≠ 14 → k ≠ 15 → f' k = f2 k := fun k h1 h2 => hk.at h1 h2
    have a12 : ∀ k, k ≠ 12 → k ≠ 14 → k ≠ 15 → k ≠ 16 → k ≠ 17 → f' k = f1 k := fun k h0 h1 h2 h3 h4 => (at' k h1 h2).trans (s2.1 k h0 h1 h2 h3 h4)
    have hlow : ∀ v g, v < T.N → g < 8 → f' 14 (8 * v + g) = en (T.C v g) := by
      intro v g hv hg
      rw [(hk.1.2.2 (8 * v + g) (by omega)).1, (s2.2.2 (8 * v + g) (by omega)).1, hf1, setN_o _ _ _ _ _ (by decide) (by decide) (by decide)]
      exact hD.co v g hv hg
    refine w_baseCost2 (o := o) (k := G.k o) (s := G.co i) (u1 := a) (u2 := b) (g1 := G.g1 i) (g2 := G.g2 i) (a1 := T.C a (G.g1 i)) (a2 := T.C b (G.g2 i)) hN hN' (by have := hG.R40; omega) ?_ (by omega) ?_ (hG.k2 o ho) ?_ (fun hk1 => ?_) (fun hk2 => ?_) ?_
    · rw [a12 9 (by decide) (by decide) (by decide) (by decide) (by decide)]; exact e9
    · rw [at' 3 (by decide) (by decide)]; exact C2.pa o ho
    · rw [at' 8 (by decide) (by decide)]; exact r8
    · refine ⟨by rw [a12 10 (by decide) (by decide) (by decide) (by decide) (by decide)]; exact e10, by have := ha hk1; omega, by rw [at' 6 (by decide) (by decide)]; exact r6, q3, hlow a _ (ha hk1) q3, fun x hx => by have := hT.mo a _ x (ha hk1) hx; omega⟩
    · refine ⟨by rw [a12 11 (by decide) (by decide) (by decide) (by decide) (by decide)]; exact e11, by have := hb hk2; omega, by rw [at' 7 (by decide) (by decide)]; exact r7, q4, hlow b _ (hb hk2) q4, fun x hx => by have := hT.mo b _ x (hb hk2) hx; omega⟩
    · have e : prG G T o a b i = bcost (G.k o) (G.co i) (T.C a (G.g1 i)) (T.C b (G.g2 i)) := if_pos hop
      rw [e] at hp
      exact hp
  · rintro i C Q hi ⟨i1, i2, i3, i4, i5, iB⟩ hne
    refine ⟨i1, i2, fun j y hj hy => ?_, i4, i5, iB.up⟩
    by_cases e : j = i
    · subst e
      rw [show prG G T o a b j = none from if_neg (fun z => hne ((op9 j hi).mpr z))] at hy
      cases hy
    · exact i3 j y (by omega) hy
  · rintro i C Q hi ⟨i1, i2, i3, i4, i5, iB⟩ h5 hnt
    refine ⟨i1, i2, fun j y hj hy => ?_, i4, i5, iB.up⟩
    by_cases e : j = i
    · subst e
      cases hc : C (G.go j) with
      | none => exact absurd ⟨y, hy, Or.inl hc⟩ hnt
      | some w =>
        refine ⟨w, rfl, ?_⟩
        rcases Nat.lt_or_ge y w with q | q
        · exact absurd ⟨y, hy, Or.inr ⟨w, hc, q⟩⟩ hnt
        · exact q
    · exact i3 j y (by omega) hy
  · rintro i C Q y hi ⟨i1, i2, i3, i4, i5, iB⟩ h5 hy ht
    have hby : byR (chG G) G.g1 G.co (prG G T o a b) C i = some y := by
      unfold byR
      rw [if_neg (by rw [prG_ch hy]; decide)]
      exact hy
    rw [hy] at ht
    refine ⟨bnd_take i1 (hG.ru i hi).1 ht (Or.inl (prG_le hG hT ho ha hb hi hy)), above_take i2 hi hby, fun j y2 hj hy2 => ?_, fun g j hq => ?_, fun g => ?_, iB.take hy ht i3⟩
    · by_cases e : G.go j = G.go i
      · rw [e, va_up_self]
        refine ⟨y, rfl, ?_⟩
        by_cases e2 : j = i
        · subst e2; rw [hy] at hy2; cases hy2; exact Nat.le_refl _
        · obtain ⟨w, hw, hle⟩ := i3 j y2 (by omega) hy2
          rw [e] at hw
          obtain ⟨y3, ey, h2⟩ := ht
          cases ey
          rcases h2 with h2 | ⟨x3, hx3, hlt⟩
          · rw [h2] at hw; cases hw
          · rw [hw] at hx3; cases hx3; omega
      · rw [va_up_ne _ _ e]
        refine i3 j y2 ?_ hy2
        rcases Nat.lt_or_ge j i with q | q
        · exact q
        · exact absurd (by rw [show j = i by omega]) e
    · by_cases e : g = G.go i
      · subst e; rw [va_up_self] at hq; cases hq; exact hi
      · rw [va_up_ne _ _ e] at hq; exact i4 g j hq
    · by_cases e : g = G.go i
      · subst e; rw [va_up_self, va_up_self]; exact ⟨(fun q => nomatch q), (fun q => nomatch q)⟩
      · rw [va_up_ne _ _ e, va_up_ne _ _ e]; exact i5 g
  · rintro f3 C Q ⟨i1, i2, i3, i4, i5, iB⟩ row3 k3
    have s3 : sameBut T.N f1 f3 := s2.tr k3.1
    have s1 : ∀ v g, v < T.N → g < 8 → szOK (f1 16 (8 * v + g)) := fun v g hv hg => by
      rw [hf1, setN_o _ _ _ _ _ (by decide) (by decide) (by decide)]
      exact (hD.ru v g hv hg).1
    refine w_settleGoalsG hG C1 hN hN' ho e9 e10 e11 (fun q => ⟨ha q, fun g hg => s1 a g (ha q) hg⟩) (fun q => ⟨hb q, fun g hg => s1 b g (hb q) hg⟩) (C0 := C) (Q0 := Q) ⟨s3, row3, ?_, i1, i2, fun i y hi _ hy => i3 i y hi hy, i4, i5, (fun _ e => nomatch e), fun g hg => ?_, Or.inl ⟨fun _ => rfl, ?_⟩⟩ Γ (hΓ0 C Q iB i5 i3 i2) (fun f1' => hΓ f1 f1') hend
    · intro g hg; rw [k3.2.2.2]; exact flag2 g hg
    · rw [k3.2.2.1]
      have := (b2.2 g hg).2.2.1
      rw [this]
      exact ⟨sz_m1, fun _ => rfl⟩
    · rw [k3.2.1]; exact b2.1
end
section
/-! the class's rules are those of a run over the least costs -/
theorem lst_ex (P : Nat → Prop) : ∀ R, ∃ o, q_lst P 0 R o := by
  intro R
  induction R with
  | zero => exact ⟨none, fun i _ h2 => absurd h2 (Nat.not_lt_zero _)⟩
  | succ R ih =>
    obtain ⟨oc, hoc⟩ := ih
    cases oc with
    | some j => exact ⟨some j, hoc.1, Nat.lt_succ_of_lt hoc.2.1, hoc.2.2.1, hoc.2.2.2⟩
    | none =>
      by_cases z : P R
      · exact ⟨some R, Nat.zero_le _, Nat.lt_succ_self _, z, fun j h1 h2 => hoc j h1 h2⟩
      · refine ⟨none, fun j h1 h2 h3 => ?_⟩
        by_cases e2 : j = R
        · subst e2; exact z h3
        · exact hoc j h1 (by omega) h3
/-- there are least costs -/
theorem least_ex {G : GD} {T : TD} {o a b : Nat} (hG : G.ok) (hT : T.ok G) (ho : o < G.O) (ha : 1 ≤ G.k o → a < T.N) (hb : 2 ≤ G.k o → b < T.N) : ∃ D, leastC G T o a b D := by
  have loop : ∀ (B : Nat) (D : Nat → Option Nat), msC D < B → bndC D → aboveC G.R G.go (chG G) G.g1 G.co (prG G T o a b) D → ∃ D, leastC G T o a b D := by
    intro B
    induction B with
    | zero => intro D h; exact absurd h (Nat.not_lt_zero _)
    | succ B ih =>
      intro D hm hbd hab
      by_cases hc : closedC G.R G.go (chG G) G.g1 G.co (prG G T o a b) D
      · exact ⟨D, hc, hab⟩
      · have : ∃ i y, i < G.R ∧ byR (chG G) G.g1 G.co (prG G T o a b) D i = some y ∧ ¬ ∃ x, D (G.go i) = some x ∧ x ≤ y := by
          apply Classical.byContradiction
          intro hn
          apply hc
          intro i y hi hy
          apply Classical.byContradiction
          intro hn2
          exact hn ⟨i, y, hi, hy, hn2⟩
        obtain ⟨i, y, hi, hy, hno⟩ := this
        have hg8 := (hG.ru i hi).1
        have ht : takes D (G.go i) (some y) := by
          refine ⟨y, rfl, ?_⟩
          cases e : D (G.go i) with
          | none => exact Or.inl rfl
          | some x =>
            refine Or.inr ⟨x, rfl, ?_⟩
            rcases Nat.lt_or_ge y x with z | z
            · exact z
            · exact absurd ⟨x, e, z⟩ hno
        have hyb : y ≤ 2000020 ∨ ∃ j x, D j = some x ∧ y ≤ x + 20 := by
          have hy2 := hy
          unfold byR at hy2
          by_cases c : chG G i = true
          · rw [if_pos c] at hy2
            cases hc2 : D (G.g1 i) with
            | none => rw [hc2] at hy2; cases hy2
            | some x =>
              rw [hc2] at hy2
              have hy2 : x + G.co i = y := Option.some.inj hy2
              have := (hG.ru i hi).2.1
              exact Or.inr ⟨_, x, hc2, by omega⟩
          · rw [if_neg c] at hy2
            exact Or.inl (prG_le hG hT ho ha hb hi hy2)
        have hbd2 := bnd_take hbd hg8 ht hyb
        have := ms_take hg8 ht (bnd_lt hbd2 (va_up_self D (G.go i) (some y)))
        exact ih _ (by omega) hbd2 (above_take hab hi hy)
  exact loop (msC (fun _ => none) + 1) (fun _ => none) (Nat.lt_succ_self _) bnd_none above_none
/-- the rules of the goals whose cost is already the least -/
def qv (C Q D : Nat → Option Nat) (g : Nat) : Option Nat := if C g = D g then Q g else none
theorem byR_att {G : GD} {pr D : Nat → Option Nat} {g i : Nat} (hc : chG G i = true) : okR G pr D g i ↔ Att G D g i := by
  unfold okR byR
  rw [if_pos hc]
  constructor
  · rintro ⟨h1, y, h2, h3⟩
    cases e : D (G.g1 i) with
    | none => rw [e] at h2; cases h2
    | some x =>
      rw [e] at h2
      have h2 : x + G.co i = y := Option.some.inj h2
      exact ⟨h1, hc, x, e, by rw [h3, h2]⟩
  · rintro ⟨h1, -, x, h2, h3⟩
    exact ⟨h1, x + G.co i, by rw [h2]; rfl, h3⟩
theorem base_run {G : GD} {T : TD} {o a b : Nat} {D B C Q : Nat → Option Nat} (hl : leastC G T o a b D) (hB : ∀ g, q_lst (q_isB G (prG G T o a b) D g) 0 G.R (B g)) (bd : BD G (prG G T o a b) G.R C Q) (non : ∀ g, C g = none ↔ Q g = none) (bas : ∀ j y, j < G.R → prG G T o a b j = some y → ∃ x, C (G.go j) = some x ∧ x ≤ y) (abv : aboveC G.R G.go (chG G) G.g1 G.co (prG G T o a b) C) : qv C Q D = B := by
  funext g
  refine lst_one ?_ (hB g)
  have le : ∀ x, C g = some x → ∃ d, D g = some d ∧ d ≤ x := fun x hx => abv D hl.1 g x hx
  unfold qv
  by_cases e : C g = D g
  · rw [if_pos e]
    cases hc : C g with
    | none =>
      rw [(non g).mp hc]
      intro i h1 h2 h3
      obtain ⟨-, y, -, h5⟩ := h3.1
      rw [← e, hc] at h5; cases h5
    | some x =>
      obtain ⟨i, q1, q2, q3, q4, q5⟩ := bd g x hc
      rw [q1]
      have hch := prG_ch q4
      refine ⟨Nat.zero_le _, q2, ⟨⟨q3, x, ?_, by rw [← e, hc]⟩, hch⟩, fun j h1 h2 h3 => ?_⟩
      · unfold byR
        rw [if_neg (by rw [hch]; decide)]
        exact q4
      · obtain ⟨⟨w1, y, w2, w3⟩, w4⟩ := h3
        unfold byR at w2
        rw [if_neg (by rw [w4]; decide)] at w2
        rw [← e, hc] at w3
        cases w3
        have := q5 j x h2 w1 w2
        omega
  · rw [if_neg e]
    intro i h1 h2 h3
    obtain ⟨⟨w1, y, w2, w3⟩, w4⟩ := h3
    unfold byR at w2
    rw [if_neg (by rw [w4]; decide)] at w2
    obtain ⟨x, hx, hle⟩ := bas i y h2 w2
    rw [w1] at hx
    obtain ⟨d, hd, hdx⟩ := le x hx
    rw [w3] at hd
    cases hd
    exact e (by rw [hx, w3]; congr 1; omega)
/-- the cheapest goal that isn't settled has its least cost -/
theorem best_exact {G : GD} {T : TD} {o a b N : Nat} {f0 f1 : ctF} {D C Q : Nat → Option Nat} {S : Nat → Bool} {m z : Nat} (hG : G.ok) (hl : leastC G T o a b D) (J : q_stJ G (prG G T o a b) N f0 f1 S C Q) (hb : isBest C S 8 (some m)) (hz : C m = some z) : D m = some z := by
  obtain ⟨hm8, hSm, z2, hz2, hmin⟩ := hb
  rw [hz] at hz2; cases hz2
  have le : ∀ g x, C g = some x → ∃ d, D g = some d ∧ d ≤ x := fun g x hx => J.abv D hl.1 g x hx
  obtain ⟨d, hd, hdz⟩ := le m z hz
  have hE : closedC G.R G.go (chG G) G.g1 G.co (prG G T o a b) (fun g => if S g = true then C g else (D g).map (fun x => max x z)) := by
    intro i y hi hy
    obtain ⟨q1, q2, q3, q4, q5⟩ := hG.ru i hi
    dsimp only
    -- what an offer of y to a goal needs
    have fin : ∀ w, C (G.go i) = some w → w ≤ y → (∃ x, (if S (G.go i) = true then C (G.go i) else (D (G.go i)).map (fun x => max x z)) = some x ∧ x ≤ y) := by
      intro w hw hwy
      by_cases c : S (G.go i) = true
      · rw [if_pos c]; exact ⟨w, hw, hwy⟩
      · rw [if_neg c]
        obtain ⟨d2, hd2, hd3⟩ := le _ w hw
        have := (hmin _ w q1 (by cases e : S (G.go i); rfl; exact absurd e c) hw).1
        rw [hd2]
        exact ⟨max d2 z, rfl, by omega⟩
    unfold byR at hy
    by_cases c : chG G i = true
    · rw [if_pos c] at hy
      dsimp only at hy
      by_cases cs : S (G.g1 i) = true
      · rw [if_pos cs] at hy
        obtain ⟨x, hx, -, h3⟩ := J.st1 _ cs
        rw [hx] at hy
        have hy : x + G.co i = y := Option.some.inj hy
        obtain ⟨w, hw, hwx⟩ := h3 i hi c rfl
        exact fin w hw (by omega)
      · rw [if_neg cs] at hy
        cases e : D (G.g1 i) with
        | none => rw [e] at hy; cases hy
        | some x =>
          rw [e] at hy
          have hy : max x z + G.co i = y := Option.some.inj hy
          have hby : byR (chG G) G.g1 G.co (prG G T o a b) D i = some (x + G.co i) := by
            unfold byR; rw [if_pos c, e]; rfl
          obtain ⟨w, hw, hwx⟩ := hl.1 i _ hi hby
          by_cases c2 : S (G.go i) = true
          · rw [if_pos c2]
            obtain ⟨x2, hx2, h2, -⟩ := J.st1 _ c2
            have := h2 m z hm8 hSm hz
            exact ⟨x2, hx2, by omega⟩
          · rw [if_neg c2, hw]
            exact ⟨max w z, rfl, by omega⟩
    · rw [if_neg c] at hy
      obtain ⟨w, hw, hwy⟩ := J.bas i y hi (by cases e : chG G i; rfl; exact absurd e c) hy
      exact fin w hw hwy
  obtain ⟨e, he, hed⟩ := hl.2 _ hE m d hd
  rw [if_neg (by rw [hSm]; decide), hd] at he
  have he : max d z = e := Option.some.inj he
  rw [hd]
  congr 1
  omega
/-- the loop over the chain rules, seen from the least costs -/
theorem CL.run {G : GD} {T : TD} {o a b m z : Nat} {D C Q : Nat → Option Nat} (hl : leastC G T o a b D) (hm : D m = some z) (le : ∀ g x, C g = some x → ∃ d, D g = some d ∧ d ≤ x) (non : ∀ g, C g = none ↔ Q g = none) {i : Nat} {C' Q' : Nat → Option Nat} (t : CL G m z C Q i C' Q') (hiR : i ≤ G.R) : (∀ g x, C' g = some x → ∃ d, D g = some d ∧ d ≤ x) ∧ (∀ g, C' g = none ↔ Q' g = none) ∧ (∀ g, C g = D g → C' g = C g ∧ Q' g = Q g) ∧ ∀ g, ¬ C g = D g → q_lst (fun j => Att G D g j ∧ G.g1 j = m) 0 i (qv C' Q' D g) := by
  have cl : ∀ j, j < G.R → chG G j = true → G.g1 j = m → ∃ d, D (G.go j) = some d ∧ d ≤ z + G.co j := by
    intro j hj hc hg
    have hby : byR (chG G) G.g1 G.co (prG G T o a b) D j = some (z + G.co j) := by
      unfold byR; rw [if_pos hc, hg, hm]; rfl
    exact hl.1 j _ hj hby
  have up : ∀ {P : Nat → Prop} {i : Nat} {q : Option Nat}, q_lst P 0 i q → ¬ P i → q_lst P 0 (i + 1) q := by
    intro P i q h hn
    cases q with
    | none =>
      intro j h1 h2
      by_cases e : j = i
      · subst e; exact hn
      · exact h j h1 (by omega)
    | some j => exact ⟨h.1, Nat.lt_succ_of_lt h.2.1, h.2.2.1, h.2.2.2⟩
  have up2 : ∀ {P : Nat → Prop} {i j : Nat}, q_lst P 0 i (some j) → q_lst P 0 (i + 1) (some j) := by
    intro P i j h
    exact ⟨h.1, Nat.lt_succ_of_lt h.2.1, h.2.2.1, h.2.2.2⟩
  induction i generalizing C' Q' with
  | zero =>
    obtain ⟨e1, e2⟩ := t
    subst e1 e2
    refine ⟨le, non, fun g _ => ⟨rfl, rfl⟩, fun g hg => ?_⟩
    unfold qv
    rw [if_neg hg]
    exact fun j _ h2 => absurd h2 (Nat.not_lt_zero _)
  | succ i ih =>
   rcases t with ⟨t, hno⟩ | ⟨t, hno⟩ | ⟨C1, Q1, t, hc, hg1, ht, eC, eQ⟩
   · obtain ⟨a1, a2, a3, a4⟩ := ih t (by omega)
     exact ⟨a1, a2, a3, fun g hg => up (a4 g hg) (fun w => hno ⟨w.1.2.1, w.2⟩)⟩
   · obtain ⟨a1, a2, a3, a4⟩ := ih t (by omega)
     refine ⟨a1, a2, a3, fun g hg => ?_⟩
     by_cases w : Att G D g i ∧ G.g1 i = m
     · obtain ⟨⟨w1, w2, x, w3, w4⟩, w5⟩ := w
       rw [w5, hm] at w3
       cases w3
       -- the cost is the least already
       obtain ⟨y, hy, hyz⟩ : ∃ y, C' g = some y ∧ y ≤ z + G.co i := by
         cases e : C' g with
         | none => exact absurd ⟨_, rfl, Or.inl (by rw [w1]; exact e)⟩ hno
         | some y =>
           refine ⟨y, rfl, ?_⟩
           rcases Nat.lt_or_ge (z + G.co i) y with q | q
           · exact absurd ⟨_, rfl, Or.inr ⟨y, by rw [w1]; exact e, q⟩⟩ hno
           · exact q
       obtain ⟨d, hd, hdy⟩ := a1 g y hy
       rw [w4] at hd
       cases hd
       have e : C' g = D g := by rw [hy, w4]; congr 1; omega
       have hq := a4 g hg
       have e2 : qv C' Q' D g = Q' g := if_pos e
       rw [e2] at hq ⊢
       cases e3 : Q' g with
       | none => rw [(a2 g).mpr e3] at hy; cases hy
       | some j => rw [e3] at hq; exact up2 hq
     · exact up (a4 g hg) w
   · rw [eC, eQ]
     obtain ⟨a1, a2, a3, a4⟩ := ih t (by omega)
     obtain ⟨d, hd, hdz⟩ := cl i (by omega) hc hg1
     obtain ⟨y2, ey, h2⟩ := ht
     cases ey
     have hne : ¬ C1 (G.go i) = D (G.go i) := by
       intro e
       rw [hd] at e
       rcases h2 with h2 | ⟨x, hx, hlt⟩
       · rw [h2] at e; cases e
       · rw [hx] at e; cases e; omega
     refine ⟨fun g x hx => ?_, fun g => ?_, fun g hg => ?_, fun g hg => ?_⟩
     · by_cases e : g = G.go i
       · subst e
         rw [va_up_self] at hx; cases hx
         exact ⟨d, hd, hdz⟩
       · rw [va_up_ne _ _ e] at hx; exact a1 g x hx
     · by_cases e : g = G.go i
       · subst e; rw [va_up_self, va_up_self]; exact ⟨(fun q => nomatch q), (fun q => nomatch q)⟩
       · rw [va_up_ne _ _ e, va_up_ne _ _ e]; exact a2 g
     · have e : g ≠ G.go i := by
         intro e
         subst e
         exact hne ((a3 _ hg).1.trans hg)
       rw [va_up_ne _ _ e, va_up_ne _ _ e]
       exact a3 g hg
     · by_cases e : g = G.go i
       · subst e
         have hq := a4 _ hg
         have e1 : qv C1 Q1 D (G.go i) = none := if_neg hne
         rw [e1] at hq
         unfold qv
         rw [va_up_self, va_up_self]
         by_cases e2 : some (z + G.co i) = D (G.go i)
         · rw [if_pos e2]
           exact ⟨Nat.zero_le _, Nat.lt_succ_self _, ⟨⟨rfl, hc, z, by rw [hg1]; exact hm, e2.symm⟩, hg1⟩, fun j h1 h3 => hq j h1 h3⟩
         · rw [if_neg e2]
           refine up (q := none) hq (fun w => ?_)
           obtain ⟨⟨-, -, x, w3, w4⟩, -⟩ := w
           rw [hg1, hm] at w3
           cases w3
           exact e2 w4.symm
       · have hq := a4 g hg
         have e1 : qv (va_up C1 (G.go i) (some (z + G.co i))) (va_up Q1 (G.go i) (some i)) D g = qv C1 Q1 D g := by
           unfold qv
           rw [va_up_ne _ _ e, va_up_ne _ _ e]
         rw [e1]
         exact up hq (fun w => e w.1.1.symm)
/-- what the draft leaves of rules: a run's end -/
theorem w_draftR {post : ctN → ctF → Prop} {n : ctN} {f : ctF} {G : GD} {T : TD} {o a b : Nat} {D B : Nat → Option Nat} (hG : G.ok) (hT : T.ok G) (hC : gC G n f) (hD : tC G T n f) (hN' : T.N < 120) (ho : o < G.O) (ha : 1 ≤ G.k o → a < T.N) (hb : 2 ≤ G.k o → b < T.N) (hl : leastC G T o a b D) (hB : ∀ g, q_lst (q_isB G (prG G T o a b) D g) 0 G.R (B g))
    (hend : ∀ f' Q, stE G (prG G T o a b) T.N (q_setN f T.N (nI o) (nI a) (nI b)) f' D Q → CF G D B Q → post n f') : wp_F_draft post (nI o) (nI a) (nI b) n f := by
  refine w_draftG hG hT hC hD hN' ho ha hb (fun S C Q => ∃ k, CR G D B k S (qv C Q D)) (fun C Q bd non bas abv => ⟨0, ?_⟩) (fun f0 f1 S C Q m z C' Q' J hγ hbest hz t => ?_) (fun f' S C Q E hγ hS => ?_)
  · rw [base_run hl hB bd non bas abv]
    exact CR.nil
  · obtain ⟨k, hk⟩ := hγ
    have hDm := best_exact hG hl J hbest hz
    have le : ∀ g x, C g = some x → ∃ d, D g = some d ∧ d ≤ x := fun g x hx => J.abv D hl.1 g x hx
    obtain ⟨b1, b2, b3, b4⟩ := t.run hl hDm le J.non (Nat.le_refl _)
    refine ⟨k + 1, CR.cons hk ?_ (fun g => ?_)⟩
    · obtain ⟨hm8, hSm, z2, hz2, hmin⟩ := hbest
      rw [hz] at hz2; cases hz2
      refine ⟨hm8, hSm, ?_, z, hDm, fun g y hg hs hq hy => ?_⟩
      · unfold qv
        rw [if_pos (by rw [hz, hDm])]
        intro w
        rw [(J.non m).mpr w] at hz; cases hz
      · have e : C g = D g := by
          apply Classical.byContradiction
          intro w
          exact hq (if_neg w)
        exact hmin g y hg hs (by rw [e]; exact hy)
    · by_cases e : C g = D g
      · obtain ⟨e1, e2⟩ := b3 g e
        have e3 : qv C' Q' D g = qv C Q D g := by
          unfold qv
          rw [e1, e2]
        rw [e3]
        refine ⟨fun i hi => hi, fun hq => ?_⟩
        rw [hq]
        intro j h1 h2 h3
        have hn : Q g = none := by
          have : qv C Q D g = Q g := if_pos e
          rw [this] at hq; exact hq
        obtain ⟨⟨-, -, x, -, w4⟩, -⟩ := h3
        rw [← e, (J.non g).mpr hn] at w4
        cases w4
      · have e2 : qv C Q D g = none := if_neg e
        rw [e2]
        exact ⟨(fun i hi => nomatch hi), fun _ => b4 g e⟩
  · have eC : C = D := funext (least_one E.clo E.abv hl.1 hl.2)
    subst eC
    obtain ⟨k, hk⟩ := hγ
    have e : qv C Q C = Q := funext (fun g => if_pos rfl)
    rw [e] at hk
    exact hend f' Q E ⟨k, S, hk, fun g hg hs => (E.non g).mp (hS g hg hs)⟩
end
section
/-! the reference's rules are those of a run over the least costs -/
theorem rl_rl2 {G : GD} {pr D B : Nat → Option Nat} {S : Nat → Bool} {g : Nat} {o : Option Nat} (hB : q_lst (q_isB G pr D g) 0 G.R (B g)) : rl G pr D S g o ↔ rl2 G D B S g o := by
  have hH : ∀ i, isH G pr D S g i ↔ (Att G D g i ∧ S (G.g1 i) = true) := by
    intro i
    constructor
    · rintro ⟨h1, h2, h3⟩
      exact ⟨(byR_att h2).mp h1, h3⟩
    · rintro ⟨h1, h2⟩
      exact ⟨(byR_att h1.2.1).mpr h1, h1.2.1, h2⟩
  constructor
  · rintro ⟨ob, oc, h1, h2, h3⟩
    have e := lst_one h1 hB
    subst e
    exact ⟨oc, lst_iff hH h2, h3⟩
  · rintro ⟨oc, h2, h3⟩
    exact ⟨B g, oc, hB, lst_iff (fun i => (hH i).symm) h2, h3⟩
theorem bst_mx {G : GD} {pr D B : Nat → Option Nat} {S : Nat → Bool} {q : Option (Nat × Nat)} (hB : ∀ g, q_lst (q_isB G pr D g) 0 G.R (B g)) (h : q_bst G pr D S 8 q) : mx G D B S q := by
  cases q with
  | none => exact fun g r h1 h2 h3 h4 => h g r h1 h2 h3 ((rl_rl2 (hB g)).mpr h4)
  | some p =>
    obtain ⟨b, r⟩ := p
    obtain ⟨a1, a2, a3, x, a4, a5⟩ := h
    exact ⟨a1, a2, (rl_rl2 (hB b)).mp a3, x, a4, fun g y r' h1 h2 h3 h4 => a5 g y r' h1 h2 h3 ((rl_rl2 (hB g)).mpr h4)⟩
/-- the reference's row of rules -/
def nP (G : GD) (D B : Nat → Option Nat) (N : Nat) (f : ctF) : Prop := ∃ P, (∀ g, g < 8 → f 29 (8 * N + g) = en (P g)) ∧ MF G D B P
theorem wm_nodeLoopR {post : Int32 → ctN → ctF → Prop} {n : ctN} {f f0 : ctF} {G : GD} {T : TD} {o a b : Nat} {D B : Nat → Option Nat} (hB : ∀ g, q_lst (q_isB G (prG G T o a b) D g) 0 G.R (B g)) (hG : G.ok) (hT : T.ok G) (hM : gM G n f0) (hA : aM G T o a b f0) (hN : n 6 = nI T.N) (hN' : T.N < 120) (ho : o < G.O) (ha : 1 ≤ G.k o → a < T.N) (hb : 2 ≤ G.k o → b < T.N)
    (hsz : ∀ v g, v < T.N → g < 8 → szOK (f0 30 (8 * v + g)))
    (hs : sameM T.N f0 f) (hr : rowM T.N f D) (hbd : bndC D) (hnon : ∀ g, g < 8 → f 29 (8 * T.N + g) = -1 ∧ f 30 (8 * T.N + g) = -1) (hS : flagM f (fun _ => false))
    (h : ∀ f', nE G T o a b f0 f' D → nP G D B T.N f' → post (nI T.N) (va_up n 6 (nI (T.N + 1))) f') : ∃ j, wp_M_node_L236 post j 1 n f := by
  have loop : ∀ (d : Nat) (f : ctF) (S : Nat → Bool) (rk : Nat → Nat) (P : Nat → Option Nat) (c : Nat), MR G D B c S P → (∀ g, g < 8 → f 29 (8 * T.N + g) = en (P g)) → q_cS S + d = 8 → sameM T.N f0 f → rowM T.N f D → flagM f S → (∀ g, g < 8 → rowOK G f T.N o a rk S (q_cS S) g) → wp_M_node_L236 post (d + 2) 1 n f := by
    intro d
    induction d with
    | zero =>
      intro f S rk P c hR hP hd hs hr hS hk
      rw [wp_M_node_L236, hN]
      refine ⟨fun z => absurd z (by decide), fun _ => ?_⟩
      refine wm_settle hG hT (hM.same hs) (hA.same hs) hN' ho ha hb hr hbd hS (fun hb0 => ?_) (fun m r hb2 => ?_)
      · rw [wp_M_node_L236, hN]
        refine ⟨fun _ => ?_, fun z => absurd rfl z⟩
        rintro _ rfl
        rw [va_up_self, nI_1, nI_s1]
        exact h f ⟨hs, hr, rk, S, fun g hg => by have := hk g hg; rwa [show q_cS S = 8 by omega] at this⟩ ⟨P, hP, c, S, hR, bst_mx hB hb0⟩
      · exfalso
        obtain ⟨hm, hsm, -⟩ := hb2
        have := cS_up hm hsm
        have := cS_le (va_up S m true)
        omega
    | succ d ih =>
      intro f S rk P c hR hP hd hs hr hS hk
      rw [wp_M_node_L236, hN]
      refine ⟨fun z => absurd z (by decide), fun _ => ?_⟩
      refine wm_settle hG hT (hM.same hs) (hA.same hs) hN' ho ha hb hr hbd hS (fun hb0 => ?_) (fun m r hb2 => ?_)
      · rw [wp_M_node_L236, hN]
        refine ⟨fun _ => ?_, fun z => absurd rfl z⟩
        rintro _ rfl
        rw [va_up_self, nI_1, nI_s1]
        refine h f ⟨hs, hr, rk, S, fun g hg => ⟨(hk g hg).1, fun z => ?_⟩⟩ ⟨P, hP, c, S, hR, bst_mx hB hb0⟩
        obtain ⟨w1, w2⟩ := (hk g hg).2 z
        exact ⟨by have := cS_le S; omega, w2⟩
      · have hmx := bst_mx hB hb2
        obtain ⟨hm, hsm, hrl, -⟩ := hb2
        obtain ⟨hrR, hcase⟩ := rl_ok hrl
        obtain ⟨q1, q2, q3, q4, q5⟩ := hG.ru r hrR
        have hcu := cS_up hm hsm
        have a29 : setS G f T.N a b m r 29 = upd (f 29) (8 * T.N + m) (nI r) := by unfold setS; rw [va_up_ne _ _ (by decide), va_up_self]
        have a30 : setS G f T.N a b m r 30 = upd (f 30) (8 * T.N + m) (capS (rawS G (f 30) T.N a b r)) := by unfold setS; rw [va_up_self]
        have a31 : setS G f T.N a b m r 31 = upd (f 31) m 1 := by unfold setS; rw [va_up_ne _ _ (by decide), va_up_ne _ _ (by decide), va_up_self]
        have ao : ∀ k, k ≠ 29 → k ≠ 30 → k ≠ 31 → setS G f T.N a b m r k = f k := fun k z1 z2 z3 => by unfold setS; rw [va_up_ne _ _ z2, va_up_ne _ _ z1, va_up_ne _ _ z3]
        have szlow : ∀ v g, v < T.N → g < 8 → szOK (f 30 (8 * v + g)) := fun v g hv hg => by
          rw [(hs.2 (8 * v + g) (by omega)).2.2]; exact hsz v g hv hg
        have hop : ∀ o', G.op r = some o' → o' = o := by
          intro o' e
          have hok : okR G (prG G T o a b) D m r := by
            rcases hcase with z2 | z2
            · exact z2.1
            · exact z2.1
          obtain ⟨-, y, hy, -⟩ := hok
          have hch : chG G r = false := by unfold chG; rw [e]
          unfold byR at hy
          rw [if_neg (by rw [hch]; decide)] at hy
          unfold prG at hy
          by_cases c : G.op r = some o
          · rw [e] at c; exact Option.some.inj c
          · rw [if_neg c] at hy; cases hy
        have hraw : -1 ≤ (rawS G (f 30) T.N a b r).toInt := by
          unfold rawS
          cases e : G.op r with
          | none =>
            have hsz2 : szOK (f 30 (8 * T.N + G.g1 r)) := by
              cases w : S (G.g1 r) with
              | false => rw [((hk _ q3).1 w).2]; exact sz_m1
              | true => exact ((hk _ q3).2 w).2.1
            have := (sz_1 hsz2).1
            show -1 ≤ (1 + f 30 (8 * T.N + G.g1 r)).toInt
            omega
          | some o' =>
            have e2 := hop o' e
            subst e2
            show -1 ≤ (if G.k o' ≤ 0 then (1 : Int32) else if G.k o' ≤ 1 then 1 + f 30 (8 * a + G.g1 r) else 1 + f 30 (8 * a + G.g1 r) + f 30 (8 * b + G.g2 r)).toInt
            by_cases c0 : G.k o' ≤ 0
            · rw [if_pos c0, ia_1]; omega
            · have s1 := sz_1 (szlow a (G.g1 r) (ha (by omega)) q3)
              by_cases c1 : G.k o' ≤ 1
              · rw [if_neg c0, if_pos c1]; omega
              · rw [if_neg c0, if_neg c1]
                exact sz_2 s1.1 s1.2 (szlow b (G.g2 r) (hb (by omega)) q4)
        refine ih (setS G f T.N a b m r) (va_up S m true) (va_up rk m (q_cS S)) (va_up P m (some r)) (c + 1) (MR.cons hR hmx) (fun g hg => ?_) (by omega) (hs.tr ⟨fun k z1 z2 z3 z4 => ao k z2 z3 z4, fun j hj => ⟨by rw [ao 28 (by decide) (by decide) (by decide)], by rw [a29, upd_ne _ _ (by omega)], by rw [a30, upd_ne _ _ (by omega)]⟩⟩) (fun g hg => by rw [ao 28 (by decide) (by decide) (by decide)]; exact hr g hg) (fun g hg => ?_) (fun g hg => ?_)
        · rw [a29]
          by_cases e : g = m
          · subst e; rw [upd_self, va_up_self]; rfl
          · rw [upd_ne _ _ (by omega), va_up_ne _ _ e]; exact hP g hg
        · rw [a31]
          by_cases e : g = m
          · subst e; rw [upd_self, va_up_self]; rfl
          · rw [upd_ne _ _ e, va_up_ne _ _ e]; exact hS g hg
        · unfold rowOK
          rw [a29, a30, hcu]
          by_cases e : g = m
          · subst e
            rw [va_up_self, va_up_self, upd_self, upd_self]
            refine ⟨(fun z => nomatch z), fun _ => ⟨by omega, cap_ok hraw, r, hrR, rfl, fun z => ?_, fun o' z => ⟨hop o' z, fun z0 => ?_, fun z1 => ?_⟩⟩⟩
            · have hH : S (G.g1 r) = true := by
                rcases hcase with w | w
                · have := w.2; unfold chG at this; rw [z] at this; cases this
                · exact w.2.2
              have hne : G.g1 r ≠ g := fun q => by rw [q, hsm] at hH; cases hH
              rw [va_up_ne _ _ hne, va_up_ne _ _ hne]
              exact ⟨hH, ((hk _ q3).2 hH).1⟩
            · have e2 := hop o' z
              subst e2
              have : rawS G (f 30) T.N a b r = 1 := by
                unfold rawS; rw [z]
                show (if G.k o' ≤ 0 then (1 : Int32) else _) = 1
                exact if_pos (by omega)
              rw [this]; decide
            · have e2 := hop o' z
              subst e2
              have haN := ha (by omega)
              have er : rawS G (f 30) T.N a b r = 1 + f 30 (8 * a + G.g1 r) := by
                unfold rawS; rw [z]
                show (if G.k o' ≤ 0 then (1 : Int32) else if G.k o' ≤ 1 then 1 + f 30 (8 * a + G.g1 r) else 1 + f 30 (8 * a + G.g1 r) + f 30 (8 * b + G.g2 r)) = _
                rw [if_neg (by omega), if_pos (by omega)]
              have hs1 := szlow a (G.g1 r) haN q3
              have := cap_le (x := 1 + f 30 (8 * a + G.g1 r))
              rw [upd_ne _ _ (by omega), er]
              rw [ia_add (by rw [ia_1]; omega) (by rw [ia_1]; omega) (by have := hs1.1; omega) (by have := hs1.2; omega), ia_1] at this
              exact this
          · rw [va_up_ne _ _ e, va_up_ne _ _ e, upd_ne _ _ (by omega), upd_ne _ _ (by omega)]
            refine ⟨(hk g hg).1, fun z => ?_⟩
            obtain ⟨w1, w2, r2, w3, w4, w5, w6⟩ := (hk g hg).2 z
            refine ⟨by omega, w2, r2, w3, w4, fun z2 => ?_, fun o' z2 => ⟨(w6 o' z2).1, (w6 o' z2).2.1, fun z3 => ?_⟩⟩
            · obtain ⟨v1, v2⟩ := w5 z2
              have hne : G.g1 r2 ≠ m := fun q => by rw [q, hsm] at v1; cases v1
              rw [va_up_ne _ _ hne, va_up_ne _ _ hne]
              exact ⟨v1, v2⟩
            · have haN := ha (by omega)
              have := (hG.ru r2 w3).2.2.1
              rw [upd_ne _ _ (by omega)]
              exact (w6 o' z2).2.2 z3
  refine ⟨8 + 2, loop 8 f (fun _ => false) (fun _ => 0) (fun _ => none) 0 MR.nil (fun g hg => (hnon g hg).1) rfl hs hr hS (fun g hg => ⟨fun _ => hnon g hg, (fun z => nomatch z)⟩)⟩
theorem wm_nodeGreatR {post : Int32 → ctN → ctF → Prop} {n : ctN} {f f0 : ctF} {G : GD} {T : TD} {o a b : Nat} {D B : Nat → Option Nat} (hB : ∀ g, q_lst (q_isB G (prG G T o a b) D g) 0 G.R (B g)) (hG : G.ok) (hT : T.ok G) (hM : gM G n f0) (hA : aM G T o a b f0) (hN : n 6 = nI T.N) (hN' : T.N < 120) (ho : o < G.O) (ha : 1 ≤ G.k o → a < T.N) (hb : 2 ≤ G.k o → b < T.N)
    (hsz : ∀ v g, v < T.N → g < 8 → szOK (f0 30 (8 * v + g)))
    (hE : mE G (prG G T o a b) T.N f0 f D)
    (h1 : dearTo D 8 → ∀ f', sameM T.N f0 f' → post 0 (va_up n 3 2) f')
    (h0 : ¬ dearTo D 8 → ∀ f', nE G T o a b f0 f' D → nP G D B T.N f' → post (nI T.N) (va_up (va_up n 3 0) 6 (nI (T.N + 1))) f') : ∃ j, wp_M_node_L167 post j 0 0 n f := by
  have e8 : (8 : Int32) = nI 8 := ix_8
  have em : (1000000 : Int32) = nI 1000000 := by decide
  have loop : ∀ (d m : Nat) (f1 : ctF) (x7 : Int32), 8 = m + d → sameM T.N f0 f1 → f1 28 = f 28 → f1 29 = f 29 → f1 30 = f 30 → (∀ g, g < m → f1 31 g = 0) → ((x7 = 0 ∧ ¬ dearTo D m) ∨ (x7 = 1 ∧ dearTo D m)) → wp_M_node_L167 post (d + 1) x7 (nI m) n f1 := by
    intro d
    induction d with
    | zero =>
      intro m f1 x7 hd hs s28 s29 s30 hfl hx
      have e : m = 8 := by omega
      subst e
      rw [wp_M_node_L167]
      refine ⟨fun _ => ?_, fun z => absurd (by rw [e8]; exact nI_le (Nat.le_refl 8) (by decide)) z⟩
      rcases hx with ⟨rfl, hx⟩ | ⟨rfl, hx⟩
      · refine wm_refuse (fun z => absurd rfl z) (fun _ z => absurd rfl z) (fun _ _ z => absurd rfl z) (fun _ _ _ => ⟨fun _ => ?_, fun z => absurd rfl z⟩)
        have n4 : va_up n 3 0 4 = n 4 := va_up_ne _ _ (by decide)
        have n5 : va_up n 3 0 5 = n 5 := va_up_ne _ _ (by decide)
        exact wm_nodeLoopR hB hG hT (hM.up n4 n5 (fun _ _ _ => rfl)) hA (by rw [va_up_ne _ _ (by decide)]; exact hN) hN' ho ha hb hsz hs (fun g hg => by rw [s28]; exact hE.row g hg) hE.bnd (fun g hg => by rw [s29, s30]; exact hE.non g hg) (fun g hg => hfl g hg) (fun f' hf' hp' => h0 hx f' hf' hp')
      · refine wm_refuse (fun z => absurd rfl z) (fun _ _ => ⟨fun z => absurd z (by decide), fun _ => h1 hx f1 hs⟩) (fun _ z => absurd z (by decide)) (fun _ z => absurd z (by decide))
    | succ d ih =>
      intro m f1 x7 hd hs s28 s29 s30 hfl hx
      have hm : m < 8 := by omega
      have hmc : (nI m).toNatClampNeg = m := nI_clamp (by omega)
      have hmi : vp_in (nI m) 8 := vp_in_nI hm (by decide)
      have nx : ∀ (f2 : ctF) (x : Int32), f2 = va_up f1 31 (upd (f1 31) m 0) → ((x = 0 ∧ ¬ dearTo D (m + 1)) ∨ (x = 1 ∧ dearTo D (m + 1))) → wp_M_node_L167 post (d + 1) x (nI (m + 1)) n f2 := by
        intro f2 x hf2 hx2
        have a31 : f2 31 = upd (f1 31) m 0 := by rw [hf2, va_up_self]
        have ao : ∀ k, k ≠ 31 → f2 k = f1 k := fun k hk => by rw [hf2, va_up_ne _ _ hk]
        refine ih (m + 1) f2 x (by omega) (hs.tr ⟨fun k _ _ _ z => ao k z, fun j _ => ⟨by rw [ao 28 (by decide)], by rw [ao 29 (by decide)], by rw [ao 30 (by decide)]⟩⟩) (by rw [ao 28 (by decide), s28]) (by rw [ao 29 (by decide), s29]) (by rw [ao 30 (by decide), s30]) (fun g hg => ?_) hx2
        rw [a31]
        by_cases e : g = m
        · subst e; rw [upd_self]
        · rw [upd_ne _ _ e]; exact hfl g (by omega)
      rw [wp_M_node_L167, hmc, nar0, nI_1]
      refine ⟨fun z => absurd z (by rw [e8]; exact nI_ge hm (by decide)), fun _ => ⟨fun z => ⟨hmi, ?_⟩, fun z => ?_⟩⟩
      · rintro f2 hf2 _ rfl
        rcases hx with ⟨rfl, -⟩ | ⟨-, g, x, hg, hgx⟩
        · exact absurd rfl z
        · exact nx f2 1 hf2 (Or.inr ⟨rfl, g, x, by omega, hgx⟩)
      · rcases hx with ⟨-, hx⟩ | ⟨rfl, -⟩
        · rw [hN, ix_m, ix_cl hN' hm, s28, hE.row m hm, em]
          have hlt : ∀ x, D m = some x → x < 2 ^ 31 := fun x hx => by have := bnd_lt hE.bnd hx; omega
          refine ⟨ix_in hN' hm, fun w => ⟨hmi, ?_⟩, fun w => ⟨hmi, ?_⟩⟩
          · rintro f2 hf2 _ rfl
            refine nx f2 0 hf2 (Or.inl ⟨rfl, fun ⟨g, x, hg, hc, hgt⟩ => ?_⟩)
            by_cases e : g = m
            · subst e
              rw [hc] at w
              have := (nI_leI (hlt x hc) (by decide)).mp w
              omega
            · exact hx ⟨g, x, by omega, hc, hgt⟩
          · rintro f2 hf2 _ rfl
            refine nx f2 1 hf2 (Or.inr ⟨rfl, ?_⟩)
            cases hc : D m with
            | none => rw [hc, en_n] at w; exact absurd (by decide) w
            | some x =>
              rw [hc, en_s] at w
              refine ⟨m, x, by omega, hc, ?_⟩
              rcases Nat.lt_or_ge 1000000 x with v | v
              · exact v
              · exact absurd ((nI_leI (hlt x hc) (by decide)).mpr v) w
        · exact absurd z (by decide)
  have q := loop 8 0 f 0 (by omega) hE.same rfl rfl rfl (fun g hg => absurd hg (Nat.not_lt_zero _)) (Or.inl ⟨rfl, fun ⟨g, x, hg, _⟩ => absurd hg (Nat.not_lt_zero _)⟩)
  rw [nI_0] at q
  exact ⟨9, q⟩
end
section
/-! alike: class and reference mean the same -/
def leaC (C : Nat → Option Nat) (L : Int32) : Prop := ((∀ g, g < 8 → C g = none) ∧ L = -1) ∨ ∃ x, L = nI x ∧ (∃ g, g < 8 ∧ C g = some x) ∧ ∀ g y, g < 8 → C g = some y → x ≤ y
theorem leaC.one {C : Nat → Option Nat} {L L' : Int32} (h : leaC C L) (h' : leaC C L') : L = L' := by
  rcases h with ⟨h1, h2⟩ | ⟨x, h1, ⟨g, hg, hc⟩, h3⟩
  · rcases h' with ⟨k1, k2⟩ | ⟨y, k1, ⟨g', hg', hc'⟩, k3⟩
    · rw [h2, k2]
    · rw [h1 g' hg'] at hc'; cases hc'
  · rcases h' with ⟨k1, k2⟩ | ⟨y, k1, ⟨g', hg', hc'⟩, k3⟩
    · rw [k1 g hg] at hc; cases hc
    · have := h3 g' y hg' hc'
      have := k3 g x hg hc
      rw [h1, k1, show x = y by omega]
def leaTo (C : Nat → Option Nat) (m : Nat) (L : Int32) : Prop := ((∀ g, g < m → C g = none) ∧ L = -1) ∨ ∃ x, L = nI x ∧ x < 2 ^ 31 ∧ (∃ g, g < m ∧ C g = some x) ∧ ∀ g y, g < m → C g = some y → x ≤ y
theorem wm_leastCost2 {post : Int32 → ctN → ctF → Prop} {n : ctN} {f : ctF} {v : Nat} {C : Nat → Option Nat} (hv : v < 120) (hr : ∀ g, g < 8 → f 28 (8 * v + g) = en (C g)) (hb : ∀ g x, C g = some x → x < 2 ^ 31) (h : ∀ L, leaC C L → post L n f) : wp_M_leastCost post (nI v) n f := by
  have e8 : (8 : Int32) = nI 8 := ix_8
  have loop : ∀ (d m : Nat) (x2 : Int32), 8 = m + d → leaTo C m x2 → wp_M_leastCost_L4 post (d + 1) (nI v) x2 (nI m) n f := by
    intro d
    induction d with
    | zero =>
      intro m x2 hd hl
      have e : m = 8 := by omega
      subst e
      rw [wp_M_leastCost_L4]
      refine ⟨fun _ => h x2 ?_, fun z => absurd (by rw [e8]; exact nI_le (Nat.le_refl 8) (by decide)) z⟩
      rcases hl with hl | ⟨x, h1, -, h3⟩
      · exact Or.inl hl
      · exact Or.inr ⟨x, h1, h3⟩
    | succ d ih =>
      intro m x2 hd hl
      have hm : m < 8 := by omega
      have keep : C m = none → leaTo C (m + 1) x2 := by
        intro hc
        rcases hl with ⟨h1, h2⟩ | ⟨x, h1, h2, ⟨g, hg, hgc⟩, h4⟩
        · refine Or.inl ⟨fun g hg => ?_, h2⟩
          by_cases e : g = m
          · subst e; exact hc
          · exact h1 g (by omega)
        · refine Or.inr ⟨x, h1, h2, ⟨g, by omega, hgc⟩, fun g2 y hg2 hy => ?_⟩
          by_cases e : g2 = m
          · subst e; rw [hc] at hy; cases hy
          · exact h4 g2 y (by omega) hy
      rw [wp_M_leastCost_L4, ix_m, ix_cl hv hm, nI_1, hr m hm]
      refine ⟨fun z => absurd z (by rw [e8]; exact nI_ge hm (by decide)), fun _ => ⟨ix_in hv hm, ?_⟩⟩
      rintro _ rfl
      cases hc : C m with
      | none =>
        refine ⟨fun _ => ?_, fun z => absurd (by decide) z⟩
        rintro _ rfl
        exact ih (m + 1) x2 (by omega) (keep hc)
      | some y =>
        have hy := hb m y hc
        refine ⟨fun z => absurd z (nI_pos hy), fun _ => ⟨fun z => ?_, fun z => ⟨fun w => ?_, fun w => ?_⟩⟩⟩
        · rintro _ rfl
          refine ih (m + 1) (nI y) (by omega) (Or.inr ⟨y, rfl, hy, ⟨m, by omega, hc⟩, fun g2 y2 hg2 hy2 => ?_⟩)
          rcases hl with ⟨h1, -⟩ | ⟨x, h1, h2, -⟩
          · by_cases e : g2 = m
            · subst e; rw [hc] at hy2; cases hy2; exact Nat.le_refl _
            · rw [h1 g2 (by omega)] at hy2; cases hy2
          · rw [h1] at z; exact absurd z (nI_pos h2)
        · rintro _ rfl
          rcases hl with ⟨-, h2⟩ | ⟨x, h1, h2, ⟨g, hg, hgc⟩, h4⟩
          · rw [h2] at z; exact absurd (by decide) z
          · refine ih (m + 1) x2 (by omega) (Or.inr ⟨x, h1, h2, ⟨g, by omega, hgc⟩, fun g2 y2 hg2 hy2 => ?_⟩)
            by_cases e : g2 = m
            · subst e
              rw [hc] at hy2; cases hy2
              rw [h1] at w
              exact (nI_leI h2 hy).mp w
            · exact h4 g2 y2 (by omega) hy2
        · rintro _ rfl
          rcases hl with ⟨-, h2⟩ | ⟨x, h1, h2, -, h4⟩
          · rw [h2] at z; exact absurd (by decide) z
          · have hlt : y < x := by
              rcases Nat.lt_or_ge y x with q | q
              · exact q
              · rw [h1] at w; exact absurd ((nI_leI h2 hy).mpr q) w
            refine ih (m + 1) (nI y) (by omega) (Or.inr ⟨y, rfl, hy, ⟨m, by omega, hc⟩, fun g2 y2 hg2 hy2 => ?_⟩)
            by_cases e : g2 = m
            · subst e; rw [hc] at hy2; cases hy2; exact Nat.le_refl _
            · have := h4 g2 y2 (by omega) hy2; omega
  unfold wp_M_leastCost
  refine ⟨9, ?_⟩
  have q := loop 8 0 (-1) (by omega) (Or.inl ⟨fun g hg => absurd hg (Nat.not_lt_zero _), rfl⟩)
  rw [nI_0] at q
  exact q
def likeM (f : ctF) (v w : Nat) (L1 L2 : Int32) (g : Nat) : Prop := (f 28 (8 * v + g) < 0 ↔ f 28 (8 * w + g) < 0) ∧ (f 28 (8 * v + g) < 0 ∨ (f 28 (8 * v + g) - L1 = f 28 (8 * w + g) - L2 ∧ f 29 (8 * v + g) = f 29 (8 * w + g)))
theorem wm_isAlike2 {post : Int32 → ctN → ctF → Prop} {n : ctN} {f : ctF} {v w : Nat} {C C' : Nat → Option Nat} {L1 L2 : Int32} (hv : v < 120) (hw : w < 120) (hr : ∀ g, g < 8 → f 28 (8 * v + g) = en (C g)) (hb : ∀ g x, C g = some x → x < 2 ^ 31) (hr' : ∀ g, g < 8 → f 28 (8 * w + g) = en (C' g)) (hb' : ∀ g x, C' g = some x → x < 2 ^ 31) (hL1 : leaC C L1) (hL2 : leaC C' L2)
    (h1 : (∀ g, g < 8 → likeM f v w L1 L2 g) → post 1 n f) (h0 : ¬ (∀ g, g < 8 → likeM f v w L1 L2 g) → post 0 n f) : wp_M_isAlike post (nI v) (nI w) n f := by
  have e8 : (8 : Int32) = nI 8 := ix_8
  have loop : ∀ (d m : Nat) (x3 : Int32), 8 = m + d → ((x3 = 1 ∧ ∀ g, g < m → likeM f v w L1 L2 g) ∨ (x3 = 0 ∧ ¬ (∀ g, g < 8 → likeM f v w L1 L2 g))) → wp_M_isAlike_L19 post (d + 1) (nI v) (nI w) x3 L1 L2 (nI m) n f := by
    intro d
    induction d with
    | zero =>
      intro m x3 hd hx
      have e : m = 8 := by omega
      subst e
      rw [wp_M_isAlike_L19]
      refine ⟨fun _ => ?_, fun z => absurd (by rw [e8]; exact nI_le (Nat.le_refl 8) (by decide)) z⟩
      rcases hx with ⟨rfl, hx⟩ | ⟨rfl, hx⟩
      · exact ⟨rfl, h1 hx⟩
      · exact ⟨rfl, h0 hx⟩
    | succ d ih =>
      intro m x3 hd hx
      have hm : m < 8 := by omega
      rw [wp_M_isAlike_L19, ix_m, ix_m, ix_cl hv hm, ix_cl hw hm, nI_1]
      refine ⟨fun z => absurd z (by rw [e8]; exact nI_ge hm (by decide)), fun _ => ⟨ix_in hv hm, ?_⟩⟩
      rintro _ rfl
      refine ⟨ix_in hw hm, ?_⟩
      rintro _ rfl
      rcases hx with ⟨rfl, hx⟩ | ⟨rfl, hx⟩
      · have yes : likeM f v w L1 L2 m → wp_M_isAlike_L19 post (d + 1) (nI v) (nI w) 1 L1 L2 (nI (m + 1)) n f := fun z => ih (m + 1) 1 (by omega) (Or.inl ⟨rfl, fun g hg => by
          by_cases e : g = m
          · subst e; exact z
          · exact hx g (by omega)⟩)
        have no : ¬ likeM f v w L1 L2 m → wp_M_isAlike_L19 post (d + 1) (nI v) (nI w) 0 L1 L2 (nI (m + 1)) n f := fun z => ih (m + 1) 0 (by omega) (Or.inr ⟨rfl, fun q => z (q m hm)⟩)
        have J78 : ∀ s0 s1 : Int32, (s1 = s0 ↔ (f 28 (8 * v + m) < 0 ↔ f 28 (8 * w + m) < 0)) → wp_M_isAlike_J78 post (wp_M_isAlike_L19 post (d + 1)) (nI v) (nI w) L1 L2 (nI m) (f 28 (8 * v + m)) (f 28 (8 * w + m)) s0 s1 n f := by
          intro s0 s1 hs
          unfold wp_M_isAlike_J78
          rw [ix_m, ix_m, ix_cl hv hm, ix_cl hw hm, nI_1]
          refine ⟨fun a => ?_, fun a => ⟨fun b => ?_, fun b => ⟨fun c => ?_, fun c => ⟨ix_in hv hm, ix_in hw hm, fun e => ?_, fun e => ?_⟩⟩⟩⟩
          · rintro _ rfl; exact no (fun z => a (hs.mpr z.1))
          · rintro _ rfl; exact yes ⟨hs.mp a, Or.inl b⟩
          · rintro _ rfl; exact no (fun z => z.2.elim b (fun y => c y.1))
          · rintro _ rfl; exact no (fun z => z.2.elim b (fun y => e y.2))
          · rintro _ rfl; exact yes ⟨hs.mp a, Or.inr ⟨c, e⟩⟩
        refine ⟨fun z => absurd z (by decide), fun _ => ⟨fun a => ?_, fun a => ?_⟩⟩
        · unfold wp_M_isAlike_J68
          exact ⟨fun b => J78 0 0 ⟨fun _ => ⟨fun _ => b, fun _ => a⟩, fun _ => rfl⟩, fun b => J78 1 0 ⟨fun z => absurd z (by decide), fun z => absurd (z.mp a) b⟩⟩
        · unfold wp_M_isAlike_J68
          exact ⟨fun b => J78 0 1 ⟨fun z => absurd z (by decide), fun z => absurd (z.mpr b) a⟩, fun b => J78 1 1 ⟨fun _ => ⟨fun z => absurd z a, fun z => absurd z b⟩, fun _ => rfl⟩⟩
      · refine ⟨fun _ => ?_, fun z => absurd rfl z⟩
        rintro _ rfl
        exact ih (m + 1) 0 (by omega) (Or.inr ⟨rfl, hx⟩)
  unfold wp_M_isAlike
  refine wm_leastCost2 hv hr hb (fun L hL => wm_leastCost2 hw hr' hb' (fun L' hL' => ⟨9, ?_⟩))
  rw [hL.one hL1, hL'.one hL2]
  have q := loop 8 0 1 (by omega) (Or.inl ⟨rfl, fun g hg => absurd hg (Nat.not_lt_zero _)⟩)
  rw [nI_0] at q
  exact q
theorem en_inj {a b : Option Nat} (ha : ∀ k, a = some k → k < 2 ^ 31) (hb : ∀ k, b = some k → k < 2 ^ 31) : en a = en b ↔ a = b := by
  constructor
  · intro e
    cases a with
    | none =>
      cases b with
      | none => rfl
      | some k => exact absurd e.symm (nI_m1 (hb k rfl))
    | some j =>
      cases b with
      | none => exact absurd e (nI_m1 (ha j rfl))
      | some k => rw [(nI_eq (ha j rfl) (hb k rfl)).mp e]
  · intro e; rw [e]
theorem sub_iff {x y a b : Nat} (hx : x ≤ 1000000) (hy : y ≤ 1000000) (ha : a ≤ 1000000) (hb : b ≤ 1000000) : nI x - nI a = nI y - nI b ↔ x + b = y + a := by
  rw [← Int32.toInt_inj, ia_sub (by rw [nI_toInt (by omega)]; omega) (by rw [nI_toInt (by omega)]; omega) (by rw [nI_toInt (by omega)]; omega) (by rw [nI_toInt (by omega)]; omega), ia_sub (by rw [nI_toInt (by omega)]; omega) (by rw [nI_toInt (by omega)]; omega) (by rw [nI_toInt (by omega)]; omega) (by rw [nI_toInt (by omega)]; omega), nI_toInt (by omega), nI_toInt (by omega), nI_toInt (by omega), nI_toInt (by omega)]
  omega
/-- a node's least cost as a number -/
def aOf (L : Int32) : Nat := L.toInt.toNat
theorem leaC.a {C : Nat → Option Nat} {L : Int32} (h : leaC C L) (hC : ∀ g x, C g = some x → x ≤ 1000000) {g x : Nat} (hg : g < 8) (hx : C g = some x) : L = nI (aOf L) ∧ aOf L ≤ 1000000 := by
  rcases h with ⟨h1, -⟩ | ⟨y, h1, ⟨g', hg', hc'⟩, -⟩
  · rw [h1 g hg] at hx; cases hx
  · have := hC g' y hc'
    have e : aOf L = y := by
      unfold aOf
      rw [h1, nI_toInt (by omega)]
      rfl
    rw [e]
    exact ⟨h1, this⟩
def nodeX (G : GD) (C B Q P : Nat → Option Nat) (v : Nat) (f : ctF) : Prop := (ND G C B Q P) ∧ (∀ g x, C g = some x → x ≤ 1000000) ∧ (∀ g i, Q g = some i → i < 40) ∧ (∀ g i, P g = some i → i < 40) ∧ (leaC C (f 12 v)) ∧ (∀ g, g < 8 → f 14 (8 * v + g) = en (C g)) ∧ (∀ g, g < 8 → f 15 (8 * v + g) = en (Q g)) ∧ (∀ g, g < 8 → f 28 (8 * v + g) = en (C g)) ∧ (∀ g, g < 8 → f 29 (8 * v + g) = en (P g))
theorem nodeX.nd {G : GD} {C B Q P : Nat → Option Nat} {v : Nat} {f : ctF} (h : nodeX G C B Q P v f) : ND G C B Q P := h.1
theorem nodeX.mo {G : GD} {C B Q P : Nat → Option Nat} {v : Nat} {f : ctF} (h : nodeX G C B Q P v f) : ∀ g x, C g = some x → x ≤ 1000000 := h.2.1
theorem nodeX.ql {G : GD} {C B Q P : Nat → Option Nat} {v : Nat} {f : ctF} (h : nodeX G C B Q P v f) : ∀ g i, Q g = some i → i < 40 := h.2.2.1
theorem nodeX.pl {G : GD} {C B Q P : Nat → Option Nat} {v : Nat} {f : ctF} (h : nodeX G C B Q P v f) : ∀ g i, P g = some i → i < 40 := h.2.2.2.1
theorem nodeX.lea {G : GD} {C B Q P : Nat → Option Nat} {v : Nat} {f : ctF} (h : nodeX G C B Q P v f) : leaC C (f 12 v) := h.2.2.2.2.1
theorem nodeX.c14 {G : GD} {C B Q P : Nat → Option Nat} {v : Nat} {f : ctF} (h : nodeX G C B Q P v f) : ∀ g, g < 8 → f 14 (8 * v + g) = en (C g) := h.2.2.2.2.2.1
theorem nodeX.c15 {G : GD} {C B Q P : Nat → Option Nat} {v : Nat} {f : ctF} (h : nodeX G C B Q P v f) : ∀ g, g < 8 → f 15 (8 * v + g) = en (Q g) := h.2.2.2.2.2.2.1
theorem nodeX.c28 {G : GD} {C B Q P : Nat → Option Nat} {v : Nat} {f : ctF} (h : nodeX G C B Q P v f) : ∀ g, g < 8 → f 28 (8 * v + g) = en (C g) := h.2.2.2.2.2.2.2.1
theorem nodeX.c29 {G : GD} {C B Q P : Nat → Option Nat} {v : Nat} {f : ctF} (h : nodeX G C B Q P v f) : ∀ g, g < 8 → f 29 (8 * v + g) = en (P g) := h.2.2.2.2.2.2.2.2
theorem likeTo_iff {G : GD} {C B Q P C' B' Q' P' : Nat → Option Nat} {v w : Nat} {f : ctF} (x : nodeX G C B Q P v f) (y : nodeX G C' B' Q' P' w f) : likeTo f v w 8 ↔ sameND C B C' B' (aOf (f 12 v)) (aOf (f 12 w)) := by
  rw [alikeC x.nd y.nd]
  unfold likeTo
  constructor
  · intro h g hg
    obtain ⟨h1, h2⟩ := h g hg
    rw [x.c15 g hg, y.c15 g hg, en_inj (fun k z => by have := x.ql g k z; omega) (fun k z => by have := y.ql g k z; omega)] at h1
    refine ⟨h1, ?_⟩
    rw [x.c15 g hg] at h2
    rcases h2 with h2 | h2
    · exact Or.inl ((en_m1 (fun k z => by have := x.ql g k z; omega)).mp h2)
    · cases e : C g with
      | none => exact Or.inl ((x.nd.qD g).mpr e)
      | some a =>
        cases e' : C' g with
        | none =>
          rw [(y.nd.qD g).mpr e'] at h1
          exact Or.inl h1
        | some b =>
          obtain ⟨l1, l2⟩ := x.lea.a x.mo hg e
          obtain ⟨m1, m2⟩ := y.lea.a y.mo hg e'
          rw [x.c14 g hg, y.c14 g hg, e, e', l1, m1] at h2
          exact Or.inr ⟨a, b, rfl, rfl, (sub_iff (x.mo g a e) (y.mo g b e') l2 m2).mp h2⟩
  · intro h g hg
    obtain ⟨h1, h2⟩ := h g hg
    refine ⟨by rw [x.c15 g hg, y.c15 g hg, h1], ?_⟩
    rw [x.c15 g hg]
    rcases h2 with h2 | ⟨a, b, e, e', h3⟩
    · exact Or.inl (by rw [h2]; rfl)
    · obtain ⟨l1, l2⟩ := x.lea.a x.mo hg e
      obtain ⟨m1, m2⟩ := y.lea.a y.mo hg e'
      right
      rw [x.c14 g hg, y.c14 g hg, e, e', l1, m1]
      exact (sub_iff (x.mo g a e) (y.mo g b e') l2 m2).mpr h3
theorem en_neg {o : Option Nat} (h : ∀ k, o = some k → k < 2 ^ 31) : en o < 0 ↔ o = none := by
  cases o with
  | none => exact ⟨fun _ => rfl, fun _ => by decide⟩
  | some k => exact ⟨fun z => absurd z (nI_pos (h k rfl)), (fun z => nomatch z)⟩
theorem likeM_iff {G : GD} {C B Q P C' B' Q' P' : Nat → Option Nat} {v w : Nat} {f : ctF} (x : nodeX G C B Q P v f) (y : nodeX G C' B' Q' P' w f) : (∀ g, g < 8 → likeM f v w (f 12 v) (f 12 w) g) ↔ sameND C B C' B' (aOf (f 12 v)) (aOf (f 12 w)) := by
  rw [alikeM x.nd y.nd]
  unfold likeM
  have bx : ∀ g k, C g = some k → k < 2 ^ 31 := fun g k z => by have := x.mo g k z; omega
  have by' : ∀ g k, C' g = some k → k < 2 ^ 31 := fun g k z => by have := y.mo g k z; omega
  constructor
  · intro h g hg
    obtain ⟨h1, h2⟩ := h g hg
    rw [x.c28 g hg, y.c28 g hg, en_neg (bx g), en_neg (by' g)] at h1
    refine ⟨h1, ?_⟩
    rw [x.c28 g hg, y.c28 g hg, en_neg (bx g)] at h2
    rcases h2 with h2 | ⟨h2, h3⟩
    · exact Or.inl h2
    · cases e : C g with
      | none => exact Or.inl rfl
      | some a =>
        cases e' : C' g with
        | none => rw [h1.mpr e'] at e; cases e
        | some b =>
          obtain ⟨l1, l2⟩ := x.lea.a x.mo hg e
          obtain ⟨m1, m2⟩ := y.lea.a y.mo hg e'
          rw [e, e', l1, m1] at h2
          rw [x.c29 g hg, y.c29 g hg, en_inj (fun k z => by have := x.pl g k z; omega) (fun k z => by have := y.pl g k z; omega)] at h3
          exact Or.inr ⟨⟨a, b, rfl, rfl, (sub_iff (x.mo g a e) (y.mo g b e') l2 m2).mp h2⟩, h3⟩
  · intro h g hg
    obtain ⟨h1, h2⟩ := h g hg
    rw [x.c28 g hg, y.c28 g hg, en_neg (bx g), en_neg (by' g)]
    refine ⟨h1, ?_⟩
    rcases h2 with h2 | ⟨⟨a, b, e, e', h3⟩, h4⟩
    · exact Or.inl h2
    · obtain ⟨l1, l2⟩ := x.lea.a x.mo hg e
      obtain ⟨m1, m2⟩ := y.lea.a y.mo hg e'
      right
      rw [x.c29 g hg, y.c29 g hg, h4, e, e', l1, m1]
      exact ⟨(sub_iff (x.mo g a e) (y.mo g b e') l2 m2).mpr h3, rfl⟩
end
section
/-! like and states: what is kept of the nodes between two calls -/
theorem sameND.rf (D B : Nat → Option Nat) (a : Nat) : sameND D B D B a a := ⟨relA.rf D a, rfl⟩
theorem sameND.sy {D B E B' : Nat → Option Nat} {a b : Nat} (h : sameND D B E B' a b) : sameND E B' D B b a := ⟨h.1.sy, h.2.symm⟩
theorem sameND.tr {D B E B' F B'' : Nat → Option Nat} {a b c : Nat} (h : sameND D B E B' a b) (h2 : sameND E B' F B'' b c) : sameND D B F B'' a c := ⟨h.1.tr h2.1, h.2.trans h2.2⟩
theorem nodeX.up {G : GD} {C B Q P : Nat → Option Nat} {v : Nat} {f f' : ctF} (h : nodeX G C B Q P v f) (e12 : f' 12 v = f 12 v) (e : ∀ g, g < 8 → f' 14 (8 * v + g) = f 14 (8 * v + g) ∧ f' 15 (8 * v + g) = f 15 (8 * v + g) ∧ f' 28 (8 * v + g) = f 28 (8 * v + g) ∧ f' 29 (8 * v + g) = f 29 (8 * v + g)) : nodeX G C B Q P v f' :=
  ⟨h.nd, h.mo, h.ql, h.pl, by rw [e12]; exact h.lea, fun g hg => by rw [(e g hg).1]; exact h.c14 g hg, fun g hg => by rw [(e g hg).2.1]; exact h.c15 g hg, fun g hg => by rw [(e g hg).2.2.1]; exact h.c28 g hg, fun g hg => by rw [(e g hg).2.2.2]; exact h.c29 g hg⟩
/-- the nodes below N as they were -/
def lowX (N : Nat) (f f' : ctF) : Prop := ∀ v, v < N → f' 12 v = f 12 v ∧ f' 13 v = f 13 v ∧ ∀ g, g < 8 → f' 14 (8 * v + g) = f 14 (8 * v + g) ∧ f' 15 (8 * v + g) = f 15 (8 * v + g) ∧ f' 28 (8 * v + g) = f 28 (8 * v + g) ∧ f' 29 (8 * v + g) = f 29 (8 * v + g)
theorem lowX.tr {N : Nat} {f g h : ctF} (a : lowX N f g) (b : lowX N g h) : lowX N f h := fun v hv => ⟨(b v hv).1.trans (a v hv).1, (b v hv).2.1.trans (a v hv).2.1, fun k hk => ⟨((b v hv).2.2 k hk).1.trans ((a v hv).2.2 k hk).1, ((b v hv).2.2 k hk).2.1.trans ((a v hv).2.2 k hk).2.1, ((b v hv).2.2 k hk).2.2.1.trans ((a v hv).2.2 k hk).2.2.1, ((b v hv).2.2 k hk).2.2.2.trans ((a v hv).2.2 k hk).2.2.2⟩⟩
theorem lowX.of {N : Nat} {f f' : ctF} (e12 : f' 12 = f 12) (e13 : f' 13 = f 13) (e14 : f' 14 = f 14) (e15 : f' 15 = f 15) (e28 : f' 28 = f 28) (e29 : f' 29 = f 29) : lowX N f f' := fun v _ => ⟨by rw [e12], by rw [e13], fun g _ => ⟨by rw [e14], by rw [e15], by rw [e28], by rw [e29]⟩⟩
def XL (T : TD) (B : Nat → Nat → Option Nat) (f : ctF) (u v : Nat) : Prop := sameND (T.C u) (B u) (T.C v) (B v) (aOf (f 12 u)) (aOf (f 12 v))
def XK (G : GD) (T : TD) (f : ctF) (B Q P : Nat → Nat → Option Nat) (lk : Nat → Nat) : Prop := ∀ v, v < T.N → nodeX G (T.C v) (B v) (Q v) (P v) v f ∧ f 13 v = nI (lk v) ∧ lk v ≤ v ∧ XL T B f (lk v) v ∧ ∀ j, j < lk v → ¬ XL T B f j v
def XI (G : GD) (T : TD) (f : ctF) : Prop := ∃ (B Q P : Nat → Nat → Option Nat) (lk : Nat → Nat), XK G T f B Q P lk
theorem XK.up {G : GD} {T : TD} {f f' : ctF} {B Q P : Nat → Nat → Option Nat} {lk : Nat → Nat} (h : XK G T f B Q P lk) (e : lowX T.N f f') : XK G T f' B Q P lk := by
  intro v hv
  obtain ⟨h1, h2, h3, h4, h5⟩ := h v hv
  obtain ⟨e1, e2, e3⟩ := e v hv
  refine ⟨h1.up e1 e3, by rw [e2]; exact h2, h3, ?_, fun j hj => ?_⟩
  · unfold XL at h4 ⊢
    rw [e1, (e (lk v) (by omega)).1]
    exact h4
  · have h6 := h5 j hj
    unfold XL at h6 ⊢
    rw [e1, (e j (by omega)).1]
    exact h6
theorem XI.up {G : GD} {T : TD} {f f' : ctF} (h : XI G T f) (e : lowX T.N f f') : XI G T f' := by
  obtain ⟨B, Q, P, lk, hk⟩ := h
  exact ⟨B, Q, P, lk, hk.up e⟩
theorem XI.s32 {G : GD} {T : TD} {f f' : ctF} (h : XI G T f) (e : ∀ k, k ≠ 32 → f' k = f k) : XI G T f' := h.up (lowX.of (e 12 (by decide)) (e 13 (by decide)) (e 14 (by decide)) (e 15 (by decide)) (e 28 (by decide)) (e 29 (by decide)))
theorem XI.zero (G : GD) (T : TD) (f : ctF) : XI G T.zero f := ⟨fun _ _ => none, fun _ _ => none, fun _ _ => none, fun _ => 0, fun _ hv => absurd hv (Nat.not_lt_zero _)⟩
/-- an operator more changes nothing of that -/
theorem Att_addO {G : GD} {p : Nat} {D : Nat → Option Nat} {g i : Nat} : Att (G.addO p) D g i ↔ Att G D g i := Iff.rfl
theorem cst_addO {G : GD} {p b : Nat} {D Q Q' : Nat → Option Nat} (h : cst G D b Q Q') : cst (G.addO p) D b Q Q' := h
theorem rl2_addO {G : GD} {p g : Nat} {D B : Nat → Option Nat} {S : Nat → Bool} {o : Option Nat} : rl2 (G.addO p) D B S g o ↔ rl2 G D B S g o := Iff.rfl
theorem mx_addO {G : GD} {p : Nat} {D B : Nat → Option Nat} {S : Nat → Bool} {q : Option (Nat × Nat)} (h : mx G D B S q) : mx (G.addO p) D B S q := by
  cases q with
  | none => exact fun g r h1 h2 h3 h4 => h g r h1 h2 h3 (rl2_addO.mp h4)
  | some w =>
    obtain ⟨b, r⟩ := w
    obtain ⟨a1, a2, a3, x, a4, a5⟩ := h
    exact ⟨a1, a2, rl2_addO.mpr a3, x, a4, fun g y r' h1 h2 h3 h4 => a5 g y r' h1 h2 h3 (rl2_addO.mp h4)⟩
theorem CR.addO {G : GD} {p : Nat} {D B : Nat → Option Nat} : ∀ {n : Nat} {S : Nat → Bool} {Q : Nat → Option Nat}, CR G D B n S Q → CR (G.addO p) D B n S Q := by
  intro n
  induction n with
  | zero => intro S Q t; exact t
  | succ k ih =>
    rintro S Q ⟨S1, Q1, c, r, x, s, e⟩
    exact ⟨S1, Q1, c, ih r, x, cst_addO s, e⟩
theorem MR.addO {G : GD} {p : Nat} {D B : Nat → Option Nat} : ∀ {n : Nat} {S : Nat → Bool} {P : Nat → Option Nat}, MR G D B n S P → MR (G.addO p) D B n S P := by
  intro n
  induction n with
  | zero => intro S P t; exact t
  | succ k ih =>
    rintro S P ⟨S1, P1, c, r, t, x, e1, e2⟩
    exact ⟨S1, P1, c, r, ih t, mx_addO x, e1, e2⟩
theorem ND.addO {G : GD} {D B Q P : Nat → Option Nat} (h : ND G D B Q P) (p : Nat) : ND (G.addO p) D B Q P := by
  obtain ⟨⟨n, S, r, x⟩, ⟨m, S2, r2, x2⟩, h3, h4, h5⟩ := h
  exact ⟨⟨n, S, r.addO, x⟩, ⟨m, S2, r2.addO, mx_addO x2⟩, h3, h4, h5⟩
theorem XI.addO {G : GD} {T : TD} {f : ctF} (h : XI G T f) (p : Nat) : XI (G.addO p) T f := by
  obtain ⟨B, Q, P, lk, hk⟩ := h
  refine ⟨B, Q, P, lk, fun v hv => ?_⟩
  obtain ⟨h1, h2⟩ := hk v hv
  exact ⟨⟨h1.nd.addO p, h1.mo, h1.ql, h1.pl, h1.lea, h1.c14, h1.c15, h1.c28, h1.c29⟩, h2⟩
/-- a node more -/
theorem MF.lt {G : GD} {D B P : Nat → Option Nat} (hb : ∀ g i, B g = some i → i < G.R) (h : MF G D B P) {g i : Nat} (hp : P g = some i) : i < G.R := by
  obtain ⟨n, S, r, -⟩ := h
  obtain ⟨m1, m2⟩ := r.base
  cases e : S g with
  | false => rw [m2 g e] at hp; cases hp
  | true =>
    obtain ⟨S0, oc, h1, h2⟩ := m1 g e
    rw [hp] at h2
    cases eb : B g with
    | none =>
      rw [eb] at h2
      have h2 : some i = oc := h2
      subst h2
      exact h1.2.1
    | some j =>
      rw [eb] at h2
      have h2 : some i = some j := h2
      cases h2
      exact hb g i eb
theorem newND {G : GD} {T : TD} {o a b : Nat} {D B Q P : Nat → Option Nat} (hG : G.ok) (hl : leastC G T o a b D) (hB : ∀ g, q_lst (q_isB G (prG G T o a b) D g) 0 G.R (B g)) (cf : CF G D B Q) (mf : MF G D B P) (non : ∀ g, D g = none ↔ Q g = none) : ND G D B Q P := by
  refine ⟨cf, mf, fun g i h => ?_, fun g => (non g).symm, fun g x h => least_lt8 hG hl h⟩
  have q := hB g
  rw [h] at q
  obtain ⟨-, q2, ⟨⟨q3, y, -, q5⟩, q6⟩, -⟩ := q
  refine ⟨?_, ?_, q6⟩
  · rw [← q3]; exact (hG.ru i q2).1
  · rw [q5]; exact fun z => nomatch z
theorem XI.addN {G : GD} {T : TD} {o a b m : Nat} {C Bn Qn Pn : Nat → Option Nat} {f f' : ctF} (X : XI G T f) (low : lowX T.N f f') (nx : nodeX G C Bn Qn Pn T.N f') (h13 : f' 13 T.N = nI m) (hm : m ≤ T.N) (hor : m = T.N ∨ (f' 13 m = nI m ∧ likeTo f' m T.N 8)) (hno : ∀ j, j < m → ¬ (f' 13 j = nI j ∧ likeTo f' j T.N 8)) : XI G (T.addN o a b C) f' := by
  obtain ⟨B, Q, P, lk, hk⟩ := X.up low
  have old : ∀ v, v < T.N → (likeTo f' v T.N 8 ↔ sameND (T.C v) (B v) C Bn (aOf (f' 12 v)) (aOf (f' 12 T.N))) := fun v hv => likeTo_iff (hk v hv).1 nx
  have none' : ∀ j, j < m → j < T.N → ¬ sameND (T.C j) (B j) C Bn (aOf (f' 12 j)) (aOf (f' 12 T.N)) := by
    intro j hj hjN hs
    obtain ⟨-, h2, h3, h4, h5⟩ := hk j hjN
    have hN0 : lk j < T.N := by omega
    obtain ⟨-, g2, g3, g4, g5⟩ := hk (lk j) hN0
    have e : lk (lk j) = lk j := by
      rcases Nat.lt_or_ge (lk (lk j)) (lk j) with z | z
      · exact absurd (sameND.tr g4 h4) (h5 _ z)
      · omega
    exact hno (lk j) (by omega) ⟨by rw [g2, e], (old (lk j) hN0).mpr (sameND.tr h4 hs)⟩
  have cv : ∀ v, v < T.N → (T.addN o a b C).C v = T.C v := by
    intro v hv
    show va_up T.C T.N C v = T.C v
    exact va_up_ne _ _ (by omega)
  have cn : (T.addN o a b C).C T.N = C := by
    show va_up T.C T.N C T.N = C
    exact va_up_self _ _ _
  refine ⟨va_up B T.N Bn, va_up Q T.N Qn, va_up P T.N Pn, va_up lk T.N m, fun v hv => ?_⟩
  have hv1 : v < T.N + 1 := hv
  unfold XL
  by_cases e : v = T.N
  · have eB : va_up B T.N Bn v = Bn := by rw [e]; exact va_up_self _ _ _
    have eQ : va_up Q T.N Qn v = Qn := by rw [e]; exact va_up_self _ _ _
    have eP : va_up P T.N Pn v = Pn := by rw [e]; exact va_up_self _ _ _
    have el : va_up lk T.N m v = m := by rw [e]; exact va_up_self _ _ _
    have eC : (T.addN o a b C).C v = C := by rw [e]; exact cn
    rw [eB, eQ, eP, el, eC, e]
    refine ⟨nx, h13, hm, ?_, fun j hj => ?_⟩
    · rcases Nat.lt_or_ge m T.N with z | z
      · rw [cv m z, va_up_ne _ _ (show m ≠ T.N by omega)]
        rcases hor with y | y
        · omega
        · exact (old m z).mp y.2
      · have em : m = T.N := by omega
        rw [em, cn, va_up_self]
        exact sameND.rf _ _ _
    · rw [cv j (by omega), va_up_ne _ _ (show j ≠ T.N by omega)]
      exact none' j hj (by omega)
  · have hv2 : v < T.N := by omega
    obtain ⟨h1, h2, h3, h4, h5⟩ := hk v hv2
    have eB : va_up B T.N Bn v = B v := va_up_ne _ _ e
    have eQ : va_up Q T.N Qn v = Q v := va_up_ne _ _ e
    have eP : va_up P T.N Pn v = P v := va_up_ne _ _ e
    have el : va_up lk T.N m v = lk v := va_up_ne _ _ e
    rw [eB, eQ, eP, el, cv v hv2, cv (lk v) (by omega), va_up_ne _ _ (show lk v ≠ T.N by omega)]
    refine ⟨h1, h2, h3, h4, fun j hj => ?_⟩
    rw [cv j (by omega), va_up_ne _ _ (show j ≠ T.N by omega)]
    exact h5 j hj
/-- the reference's like and states -/
theorem wm_likeOf2 {post : Int32 → ctN → ctF → Prop} {n : ctN} {f : ctF} {G : GD} {T : TD} {B Q P : Nat → Nat → Option Nat} {lk : Nat → Nat} (hT : T.ok G) (hk : XK G T f B Q P lk) {v : Nat} (hv : v < T.N) (h : post (nI (lk v)) n f) : wp_M_likeOf post (nI v) n f := by
  have hN := hT.N120
  obtain ⟨x, h2, h3, h4, h5⟩ := hk v hv
  have loop : ∀ (d m : Nat), lk v = m + d → wp_M_likeOf_L2 post (d + 1) (nI v) (nI m) n f := by
    intro d
    induction d with
    | zero =>
      intro m hd
      have e : lk v = m := hd
      obtain ⟨y, -⟩ := hk m (by omega)
      rw [wp_M_likeOf_L2]
      refine wm_isAlike2 (C := T.C v) (C' := T.C m) (by omega) (by omega) x.c28 (fun g z hz => by have := x.mo g z hz; omega) y.c28 (fun g z hz => by have := y.mo g z hz; omega) x.lea y.lea (fun _ => ⟨fun _ => ?_, fun z => absurd z (by decide)⟩) (fun hn => absurd ((likeM_iff x y).mpr ?_) hn)
      · rw [← e]; exact h
      · rw [← e]; exact h4.sy
    | succ d ih =>
      intro m hd
      obtain ⟨y, -⟩ := hk m (by omega)
      rw [wp_M_likeOf_L2]
      refine wm_isAlike2 (C := T.C v) (C' := T.C m) (by omega) (by omega) x.c28 (fun g z hz => by have := x.mo g z hz; omega) y.c28 (fun g z hz => by have := y.mo g z hz; omega) x.lea y.lea (fun hy => absurd ((likeM_iff x y).mp hy).sy (h5 m (by omega))) (fun _ => ⟨fun z => absurd rfl z, fun _ => ?_⟩)
      rintro _ rfl
      rw [nI_1]
      exact ih (m + 1) (by omega)
  unfold wp_M_likeOf
  refine ⟨lk v + 1, ?_⟩
  have q := loop (lk v) 0 (by omega)
  rw [nI_0] at q
  exact q
theorem wm_states2 {post : Int32 → ctN → ctF → Prop} {n : ctN} {f : ctF} {G : GD} {T : TD} {B Q P : Nat → Nat → Option Nat} {lk : Nat → Nat} (hT : T.ok G) (hN : n 6 = nI T.N) (hk : XK G T f B Q P lk) (h : post (nI (q_sm (fun v => if f 13 v = nI v then 1 else 0) T.N)) (va_up n 3 0) f) : wp_M_states post n f := by
  have hN120 := hT.N120
  have hN2 : va_up n 3 0 6 = nI T.N := by rw [va_up_ne _ _ (by decide)]; exact hN
  have loop : ∀ (d m : Nat), T.N = m + d → wp_M_states_L9 post (d + 1) (nI (q_sm (fun v => if f 13 v = nI v then 1 else 0) m)) (nI m) (va_up n 3 0) f := by
    intro d
    induction d with
    | zero =>
      intro m hd
      have e : m = T.N := by omega
      rw [wp_M_states_L9, hN2, e]
      exact ⟨fun _ => h, fun z => absurd (nI_le (Nat.le_refl T.N) (by omega)) z⟩
    | succ d ih =>
      intro m hd
      have hm : m < T.N := by omega
      obtain ⟨-, h2, -⟩ := hk m hm
      have q := ih (m + 1) (by omega)
      rw [q_sm] at q
      rw [wp_M_states_L9, hN2]
      refine ⟨fun z => absurd z (nI_ge hm (by omega)), fun _ => wm_likeOf2 hT hk hm ⟨fun c => ?_, fun c => ?_⟩⟩
      · rintro _ rfl
        rw [nI_1]
        rw [if_neg (by rw [h2]; exact c)] at q
        exact q
      · rintro _ rfl _ rfl
        rw [nI_1, nI_1]
        rw [if_pos (by rw [h2]; exact c)] at q
        exact q
  unfold wp_M_states
  rintro _ rfl
  refine ⟨T.N + 1, ?_⟩
  have q := loop T.N 0 (by omega)
  rw [nI_0] at q
  exact q
end
section
/-! node on both sides, with the rules kept -/
theorem likeTo.up {f f' : ctF} {v w m : Nat} (h : likeTo f v w m) (e12 : f' 12 = f 12) (e14 : f' 14 = f 14) (e15 : f' 15 = f 15) : likeTo f' v w m := fun g hg => by
  rw [e12, e14, e15]
  exact h g hg
theorem draft_lowX {G : GD} {T : TD} {f f' : ctF} {o a b : Nat} {pr C Q : Nat → Option Nat} (E : stE G pr T.N (q_setN f T.N (nI o) (nI a) (nI b)) f' C Q) : lowX T.N f f' := by
  intro v hv
  have s := E.same
  refine ⟨?_, ?_, fun g hg => ⟨?_, ?_, ?_, ?_⟩⟩
  · rw [s.2.1 v (by omega), setN_o _ _ _ _ _ (by decide) (by decide) (by decide)]
  · rw [s.1 13 (by decide) (by decide) (by decide) (by decide) (by decide), setN_o _ _ _ _ _ (by decide) (by decide) (by decide)]
  · rw [(s.2.2 (8 * v + g) (by omega)).1, setN_o _ _ _ _ _ (by decide) (by decide) (by decide)]
  · rw [(s.2.2 (8 * v + g) (by omega)).2.1, setN_o _ _ _ _ _ (by decide) (by decide) (by decide)]
  · rw [sameC18 E (by decide)]
  · rw [sameC18 E (by decide)]
/-- what the class's node leaves, when it is made -/
def nodeC (G : GD) (T : TD) (f f' : ctF) (C B0 Q : Nat → Option Nat) (m : Nat) : Prop := CF G C B0 Q ∧ lowX T.N f f' ∧ leaC C (f' 12 T.N) ∧ (∀ g, g < 8 → f' 14 (8 * T.N + g) = en (C g) ∧ f' 15 (8 * T.N + g) = en (Q g)) ∧ (∀ g i, Q g = some i → i < G.R) ∧ (∀ g, C g = none ↔ Q g = none) ∧ f' 13 T.N = nI m ∧ m ≤ T.N ∧ (m = T.N ∨ (f' 13 m = nI m ∧ likeTo f' m T.N 8)) ∧ ∀ j, j < m → ¬ (f' 13 j = nI j ∧ likeTo f' j T.N 8)
theorem lc_node2 {post : Int32 → ctN → ctF → Prop} {n : ctN} {f : ctF} {G : GD} {T : TD} {p1 p2 p3 : Int32} (I : IV G T n f) (h1 : nBad G T p1 p2 p3 → post 1 n f) (h2 : ∀ o a b, nGood G T p1 p2 p3 o a b → T.N = 120 → post 2 n f)
    (h3 : ∀ o a b C, nGood G T p1 p2 p3 o a b → T.N < 120 → leastC G T o a b C → dearTo C 8 → ∀ f', IV G T n f' → lowX T.N f f' → post 2 n f')
    (h0 : ∀ o a b C B0 Q m, nGood G T p1 p2 p3 o a b → T.N < 120 → leastC G T o a b C → (∀ g, q_lst (q_isB G (prG G T o a b) C g) 0 G.R (B0 g)) → ¬ dearTo C 8 → ∀ n' f', gC G n' f' → tC G (T.addN o a b C) n' f' → gM G n' f' → tM G T n' f' → f' 32 0 = nI T.N → nodeC G T f f' C B0 Q m → post 0 n' f') : wp_L_node post p1 p2 p3 n f := by
  have hN := I.t.N120
  unfold wp_L_node
  rcases n_or I.g I.t p1 p2 p3 with hb | ⟨o, a, b, B⟩
  · right
    have H := h1 hb
    rcases ix_or p1 (N := G.O) (by have := I.g.O10; omega) with hq | ⟨o, ho, rfl⟩
    · unfold wp_C_node
      exact c_op0 I.gc.nO hq ⟨fun z => absurd rfl z, fun _ => Or.inl ⟨rfl, H⟩⟩
    · refine c_node_go I.g I.t I.gc I.tc ho (fun _ => Or.inl ⟨rfl, H⟩) (fun hno => ?_)
      exfalso
      rcases hb with z | ⟨o2, ho2, e, z⟩
      · exact ix_no ho (by have := I.g.O10; omega) z
      · have hO := I.g.O10
        rw [nI_eq (by omega) (by omega)] at e
        subst e
        exact hno z
  · have ha : 1 ≤ G.k o → a < T.N := fun z => (B.e2 z).2
    have hb : 2 ≤ G.k o → b < T.N := fun z => (B.e3 z).2
    rw [B.e1]
    rcases Nat.lt_or_ge T.N 120 with hN2 | hN2
    · obtain ⟨D, hl⟩ := least_ex I.g I.t B.oO ha hb
      have hex : ∃ B0 : Nat → Option Nat, ∀ g, q_lst (q_isB G (prG G T o a b) D g) 0 G.R (B0 g) := ⟨fun g => Classical.choose (lst_ex (q_isB G (prG G T o a b) D g) G.R), fun g => Classical.choose_spec (lst_ex (q_isB G (prG G T o a b) D g) G.R)⟩
      obtain ⟨B0, hB⟩ := hex
      by_cases hd : dearTo D 8
      · right
        refine c_node_go I.g I.t I.gc I.tc B.oO (fun z => absurd z (B.no I.t)) (fun _ => c_node_draft I.g I.tc B hN2 ?_)
        unfold wp_C_node_J125
        refine w_draftR I.g I.t I.gc I.tc hN2 B.oO ha hb hl hB (fun f' Q E hcf => ?_)
        refine w_tooDear (N := T.N) I.tc.nN hN2 E.row (fun _ => ⟨fun z => absurd z (by decide), fun _ => Or.inr ⟨rfl, ?_⟩⟩) (fun z => ?_)
        · obtain ⟨c1, d1⟩ := draft_low I.gc I.tc E
          exact h3 o a b D B hN2 hl hd f' ⟨I.g, I.t, c1, d1, I.gm.up rfl rfl (fun k z1 z2 => sameC18 E (by omega)), I.tm.up rfl (fun k z1 z2 => sameC18 E (by omega))⟩ (draft_lowX E)
        · exfalso
          obtain ⟨g, x, hg, hx, hgt⟩ := hd
          have := z g x hg hx
          omega
      · left
        refine c_node_go I.g I.t I.gc I.tc B.oO (fun z => absurd z (B.no I.t)) (fun _ => c_node_draft I.g I.tc B hN2 ?_)
        unfold wp_C_node_J125
        refine w_draftR I.g I.t I.gc I.tc hN2 B.oO ha hb hl hB (fun f' Q E hcf => ?_)
        refine w_tooDear (N := T.N) I.tc.nN hN2 E.row (fun z => absurd z hd) (fun z => ⟨fun _ => ?_, fun w => absurd rfl w⟩)
        refine w_keepDraft I.tc.nN hN2 (fun m m1 m2 m3 => ?_)
        rintro f2 hf2
        have e : ∀ k, k ≠ 13 → k ≠ 32 → f2 k = f' k := fun k z1 z2 => by rw [hf2, va_up_ne _ _ z2, va_up_ne _ _ z1]
        have e13 : f2 13 = upd (f' 13) T.N (nI m) := by rw [hf2, va_up_ne _ _ (by decide), va_up_self]
        have en : ∀ k, k ≠ 2 → va_up n 2 (nI (T.N + 1)) k = n k := fun k z => va_up_ne _ _ z
        obtain ⟨c1, d1⟩ := draft_new (n' := va_up n 2 (nI (T.N + 1))) (f'' := f2) I.gc I.tc E (fun k z1 z2 => e k z2 (by omega)) (en 0 (by decide)) (en 1 (by decide)) (va_up_self _ _ _)
        have low1 := draft_lowX E
        have lk : ∀ j, likeTo f' j T.N 8 ↔ likeTo f2 j T.N 8 := fun j => ⟨fun h => h.up (e 12 (by decide) (by decide)) (e 14 (by decide) (by decide)) (e 15 (by decide) (by decide)), fun h => h.up (e 12 (by decide) (by decide)).symm (e 14 (by decide) (by decide)).symm (e 15 (by decide) (by decide)).symm⟩
        refine h0 o a b D B0 Q m B hN2 hl hB hd _ f2 c1 d1 (I.gm.up (en 4 (by decide)) (en 5 (by decide)) (fun k z1 z2 => by rw [e k (by omega) (by omega), sameC18 E (by omega)])) (I.tm.up (en 6 (by decide)) (fun k z1 z2 => by rw [e k (by omega) (by omega), sameC18 E (by omega)])) (by rw [hf2, va_up_self, upd_self]) ⟨hcf, ?_, ?_, fun g hg => ?_, E.rul, E.non, ?_, m1, ?_, fun j hj hjl => ?_⟩
        · refine low1.tr (fun v hv => ⟨by rw [e 12 (by decide) (by decide)], by rw [e13, upd_ne _ _ (by omega)], fun g hg => ⟨by rw [e 14 (by decide) (by decide)], by rw [e 15 (by decide) (by decide)], by rw [e 28 (by decide) (by decide)], by rw [e 29 (by decide) (by decide)]⟩⟩)
        · rw [e 12 (by decide) (by decide)]; exact E.lea
        · rw [e 14 (by decide) (by decide), e 15 (by decide) (by decide)]; exact E.row.1 g hg
        · rw [e13, upd_self]
        · rcases m2 with z | ⟨z1, z2⟩
          · exact Or.inl z
          · by_cases c : m = T.N
            · exact Or.inl c
            · refine Or.inr ⟨?_, (lk m).mp z2⟩
              rw [e13, upd_ne _ _ c]; exact z1
        · refine m3 j hj ⟨?_, (lk j).mpr hjl.2⟩
          have := hjl.1
          rw [e13, upd_ne _ _ (by omega)] at this
          exact this
    · right
      refine c_node_go I.g I.t I.gc I.tc B.oO (fun z => absurd z (B.no I.t)) (fun _ => ?_)
      unfold wp_C_node_J76
      exact ⟨fun z => absurd z (by rw [I.tc.nN, lt120_nI hN]; omega), fun _ => Or.inr ⟨rfl, h2 o a b B (by omega)⟩⟩
theorem lm_node_go2 {post : Int32 → ctN → ctF → Prop} {n : ctN} {f : ctF} {G : GD} {T : TD} {p1 p2 p3 : Int32} {o a b : Nat} {C B0 : Nat → Option Nat} (hB : ∀ g, q_lst (q_isB G (prG G T o a b) C g) 0 G.R (B0 g)) (hG : G.ok) (hT : T.ok G) (hM : gM G n f) (hD : tM G T n f) (B : nGood G T p1 p2 p3 o a b) (hN : T.N < 120) (hl : leastC G T o a b C)
    (h1 : dearTo C 8 → ∀ f', sameM T.N (q_setM f T.N (nI o) (nI a) (nI b)) f' → post 0 (va_up n 3 2) f')
    (h0 : ¬ dearTo C 8 → ∀ f', nE G T o a b (q_setM f T.N (nI o) (nI a) (nI b)) f' C → nP G C B0 T.N f' → ∀ n', (∀ k, k ≠ 3 → k ≠ 6 → n' k = n k) → n' 3 = 0 → n' 6 = nI (T.N + 1) → post (nI T.N) n' f') : wp_M_node post p1 p2 p3 n f := by
  have hk := hG.k2 o B.oO
  have ha : 1 ≤ G.k o → a < T.N := fun z => (B.e2 z).2
  have hb : 2 ≤ G.k o → b < T.N := fun z => (B.e3 z).2
  have z0 : (0 : Int32) = nI 0 := nI_0.symm
  have hNc : (nI T.N).toNatClampNeg = T.N := nI_clamp (by omega)
  have hNi : vp_in (nI T.N) 120 := vp_in_nI hN (by decide)
  have k0 : nI (G.k o) ≤ 0 ↔ G.k o ≤ 0 := by rw [show (0 : Int32) = nI 0 by decide]; exact nI_leI (by omega) (by decide)
  have k1 : nI (G.k o) ≤ 1 ↔ G.k o ≤ 1 := by rw [show (1 : Int32) = nI 1 by decide]; exact nI_leI (by omega) (by decide)
  rw [B.e1]
  refine m_node_go hG hT hM hD.nN B.oO (fun z => absurd z (B.no hT)) (fun _ => ?_)
  unfold wp_M_node_J81
  refine ⟨fun _ => ?_, fun z => absurd z (by rw [hD.nN, show (120 : Int32) = nI 120 by decide, nI_eq (by omega) (by decide)]; omega)⟩
  unfold wp_M_node_J95
  have n6 : va_up n 3 0 6 = nI T.N := by rw [va_up_ne _ _ (by decide)]; exact hD.nN
  refine m_ref0 ⟨fun _ => ?_, fun z => absurd rfl z⟩
  rw [n6, hNc]
  refine ⟨hNi, ?_⟩
  rintro _ rfl
  have J152 : ∀ x y : Int32, x = nI a → y = nI b → wp_M_node_J152 post y (nI T.N) (va_up n 3 0) (va_up (va_up f 25 (upd (f 25) T.N (nI o))) 26 (upd (va_up f 25 (upd (f 25) T.N (nI o)) 26) T.N x)) := by
    rintro _ _ rfl rfl
    unfold wp_M_node_J152
    rw [hNc, n6]
    refine ⟨hNi, ?_⟩
    rintro f1 hf1
    have hf1 : f1 = q_setM f T.N (nI o) (nI a) (nI b) := by
      rw [hf1]; unfold q_setM
      rw [va_up_ne (k := 26) (j := 27) _ _ (by decide), va_up_ne (k := 25) (j := 27) _ _ (by decide), va_up_ne (k := 25) (j := 26) _ _ (by decide)]
    subst hf1
    have gM1 : gM G (va_up n 3 0) (q_setM f T.N (nI o) (nI a) (nI b)) := hM.up (va_up_ne _ _ (by decide)) (va_up_ne _ _ (by decide)) (fun k z1 z2 => setM_o _ _ _ _ _ (by omega) (by omega) (by omega))
    have aM1 : aM G T o a b (q_setM f T.N (nI o) (nI a) (nI b)) := ⟨by rw [setM_25, upd_self], by rw [setM_26, upd_self], by rw [setM_27, upd_self], fun v g hv hg => by rw [setM_o _ _ _ _ _ (by decide) (by decide) (by decide)]; exact hD.co v g hv hg⟩
    refine wm_price hG hT gM1 aM1 hN B.oO ha hb (fun f' D E => ?_)
    have eC : D = C := funext (least_one E.clo E.abv hl.1 hl.2)
    subst eC
    refine wm_nodeGreatR hB hG hT gM1 aM1 n6 hN B.oO ha hb (fun v g hv hg => by rw [setM_o _ _ _ _ _ (by decide) (by decide) (by decide)]; exact hD.sz hv hg) E (fun hd f2 hs => ?_) (fun hd f2 hE hPp => ?_)
    · have e : va_up (va_up n 3 0) 3 2 = va_up n 3 2 := by
        funext k
        by_cases z : k = 3
        · subst z; rw [va_up_self, va_up_self]
        · rw [va_up_ne _ _ z, va_up_ne _ _ z, va_up_ne _ _ z]
      rw [e]
      exact h1 hd f2 hs
    · exact h0 hd f2 hE hPp _ (fun k z1 z2 => by rw [va_up_ne _ _ z2, va_up_ne _ _ z1, va_up_ne _ _ z1]) (by rw [va_up_ne _ _ (by decide), va_up_self]) (va_up_self _ _ _)
  have J132 : ∀ x : Int32, x = nI a → wp_M_node_J132 post p3 (nI (G.k o)) x (nI T.N) (va_up n 3 0) (va_up f 25 (upd (f 25) T.N (nI o))) := by
    intro x hx
    unfold wp_M_node_J132
    rw [hNc, n6]
    refine ⟨hNi, ?_⟩
    rintro _ rfl
    refine ⟨fun z => J152 x 0 hx ?_, fun z => J152 x p3 hx ?_⟩
    · have := k1.mp z
      rw [B.e3' (by omega)]; exact z0
    · have q1 : ¬ G.k o ≤ 1 := fun u => z (k1.mpr u)
      exact (B.e3 (by omega)).1
  refine ⟨fun z => J132 0 ?_, fun z => J132 p2 ?_⟩
  · have := k0.mp z
    rw [B.e2' (by omega)]; exact z0
  · have q0 : ¬ G.k o ≤ 0 := fun u => z (k0.mpr u)
    exact (B.e2 (by omega)).1
/-- the calls, with the rules kept -/
def PInv2 (n : ctN) (f : ctF) : Prop := ∃ G T, IV G T n f ∧ XI G T f
theorem inv2_start : PInv2 (fun _ => 0) (fun _ _ => 0) :=
  ⟨GD.zero (GD.mk 0 0 (fun _ => 0) (fun _ => 0) (fun _ => 0) (fun _ => 0) (fun _ => 0) (fun _ => none)), TD.zero (TD.mk 0 (fun _ => 0) (fun _ => 0) (fun _ => 0) (fun _ _ => none)), ⟨gzero_ok _, zero_ok _ _, gzero_C _ _ rfl rfl, zero_tC _ _ _ rfl, gzero_M _ _ rfl rfl, zero_tM _ _ _ rfl⟩, XI.zero _ _ _⟩
theorem k2_operator {post : Int32 → ctN → ctF → Prop} {K : Int32 → Int32 → ctN → ctF → Prop} {n : ctN} {f : ctF} {p : Int32} (I : PInv2 n f) (hpost : ∀ r n1 f1, wp_M_operator (fun r2 n f => K r r2 n f) p n1 f1 → post r n1 f1) (hK : ∀ r r2 n' f', PInv2 n' f' → K r r2 n' f') : wp_L_operator post p n f := by
  obtain ⟨G, T, I, X⟩ := I
  have hO := I.g.O10
  unfold wp_L_operator wp_C_operator
  rcases op_or p with hb | ⟨j, hj, rfl⟩
  · have H := hpost 1 n f (lm_operator_bad hb (hK 1 0 _ _ ⟨G, T, I.n3 1, X⟩))
    exact Or.inr ⟨fun _ => Or.inl ⟨rfl, H⟩, fun a => ⟨fun b => absurd hb (fun u => u.elim a (fun u => u b)), fun _ => Or.inl ⟨rfl, H⟩⟩⟩
  · have hj0 : ¬ nI j < 0 := nI_pos (by omega)
    have hj2 := le2_nI hj
    have e10 : (10 : Int32) = nI 10 := by decide
    rw [I.gc.nO]
    rcases Nat.lt_or_ge G.O 10 with hO2 | hO2
    · refine Or.inl ⟨fun a => absurd a hj0, fun _ => ⟨fun _ => ⟨fun _ => ?_, fun z => absurd (by rw [e10]; exact nI_lt hO2 (by decide)) z⟩, fun z => absurd hj2 z⟩⟩
      unfold wp_G_addOperator
      rintro _ rfl
      rw [I.gc.nO, nI_clamp (by omega), nI_1]
      refine ⟨vp_in_nI hO2 (by decide), ?_⟩
      rintro f1 hf1 n1 hn1 f2 hf2
      have e3 : f2 3 = upd (f 3) G.O (nI j) := by rw [hf2, va_up_ne _ _ (by decide), hf1, va_up_self]
      have eo : ∀ k, k ≠ 3 → k ≠ 32 → f2 k = f k := fun k z1 z2 => by rw [hf2, va_up_ne _ _ z2, hf1, va_up_ne _ _ z1]
      have en1 : ∀ k, k ≠ 0 → n1 k = n k := fun k z => by rw [hn1, va_up_ne _ _ z]
      have gc := addO_C (n' := n1) (f' := f2) I.gc (p := j) (by rw [hn1, va_up_self]) (en1 1 (by decide)) e3 (fun k _ _ => eo k (by omega) (by omega))
      have tc := addO_tC (I.tc.up (n' := n1) (f' := f2) (en1 2 (by decide)) (fun k _ _ _ => eo k (by omega) (by omega))) j
      have gm := I.gm.up (n' := n1) (f' := f2) (en1 4 (by decide)) (en1 5 (by decide)) (fun k _ _ => eo k (by omega) (by omega))
      have tm := I.tm.up (n' := n1) (f' := f2) (en1 6 (by decide)) (fun k _ _ => eo k (by omega) (by omega))
      have en : ∀ k, k ≠ 3 → k ≠ 4 → va_up (va_up n1 3 0) 4 (nI (G.O + 1)) k = n1 k := fun k z1 z2 => by rw [va_up_ne _ _ z2, va_up_ne _ _ z1]
      have X2 : XI G T (va_up f2 19 (upd (f2 19) G.O (nI j))) := X.up (lowX.of (by rw [va_up_ne _ _ (by decide)]; exact eo 12 (by decide) (by decide)) (by rw [va_up_ne _ _ (by decide)]; exact eo 13 (by decide) (by decide)) (by rw [va_up_ne _ _ (by decide)]; exact eo 14 (by decide) (by decide)) (by rw [va_up_ne _ _ (by decide)]; exact eo 15 (by decide) (by decide)) (by rw [va_up_ne _ _ (by decide)]; exact eo 28 (by decide) (by decide)) (by rw [va_up_ne _ _ (by decide)]; exact eo 29 (by decide) (by decide)))
      exact hpost 0 n1 f2 (lm_operator_ok hj gm.nO hO2 (hK 0 (nI G.O) _ _ ⟨G.addO j, T, ⟨addO_ok I.g hj hO2, addO_T I.t j, gc.up (en 0 (by decide) (by decide)) (en 1 (by decide) (by decide)) (fun k _ _ => va_up_ne _ _ (by omega)), tc.up (en 2 (by decide) (by decide)) (fun k _ _ _ => va_up_ne _ _ (by omega)), addO_M I.g gm (va_up_self _ _ _) (en 5 (by decide) (by decide)) (va_up_self _ _ _) (fun k _ _ => va_up_ne _ _ (by omega)), addO_tM I.t (tm.up (en 6 (by decide) (by decide)) (fun k _ _ => va_up_ne _ _ (by omega))) j⟩, X2.addO j⟩))
    · have H := hpost 2 n f (lm_operator_full hj (by rw [I.gm.nO, show G.O = 10 by omega]) (hK 2 0 _ _ ⟨G, T, I.n3 2, X⟩))
      exact Or.inr ⟨fun a => absurd a hj0, fun _ => ⟨fun _ => ⟨fun z => absurd z (by rw [e10]; exact nI_nlt hO2 (by omega)), fun _ => Or.inr ⟨rfl, H⟩⟩, fun z => absurd hj2 z⟩⟩
theorem k2_chain {post : Int32 → ctN → ctF → Prop} {K : Int32 → Int32 → ctN → ctF → Prop} {n : ctN} {f : ctF} {p q c : Int32} (I : PInv2 n f) (hpost : ∀ r n1 f1, wp_M_chain (fun r2 n f => K r r2 n f) p q c n1 f1 → post r n1 f1) (hK : ∀ r r2 n' f', PInv2 n' f' → K r r2 n' f') : wp_L_chain post p q c n f := by
  obtain ⟨G, T, I, X⟩ := I
  refine lc_chain I (fun hb => hpost 1 n f (lm_chain_bad hb (hK 1 0 _ _ ⟨G, T, I.n3 1, X⟩))) (fun g h k hg hh hne hk e1 e2 e3 hR => hpost 2 n f ?_) (fun g h k hg hh hne hk e1 e2 e3 hR n1 f1 A => hpost 0 n1 f1 ?_)
  · subst e1 e2 e3
    exact lm_chain_full hg hh hne hk (by rw [I.gm.nR, hR]) (hK 2 0 _ _ ⟨G, T, I.n3 2, X⟩)
  · subst e1 e2 e3
    exact lm_chain_ok I.g A hg hh hne hk hR (fun n' f' I' _ _ => hK 0 _ n' f' ⟨_, _, I', XI.zero _ _ _⟩)
theorem k2_base {post : Int32 → ctN → ctF → Prop} {K : Int32 → Int32 → ctN → ctF → Prop} {n : ctN} {f : ctF} {p1 p2 p3 p4 p5 : Int32} (I : PInv2 n f) (hpost : ∀ r n1 f1, wp_M_base (fun r2 n f => K r r2 n f) p1 p2 p3 p4 p5 n1 f1 → post r n1 f1) (hK : ∀ r r2 n' f', PInv2 n' f' → K r r2 n' f') : wp_L_base post p1 p2 p3 p4 p5 n f := by
  obtain ⟨G, T, I, X⟩ := I
  exact lc_base I (fun hb => hpost 1 n f (lm_base_bad I.g I.gm hb (hK 1 0 _ _ ⟨G, T, I.n3 1, X⟩))) (fun g o a b c B hR => hpost 2 n f (lm_base_full I.g I.gm B hR (hK 2 0 _ _ ⟨G, T, I.n3 2, X⟩))) (fun g o a b c B hR n1 f1 A => hpost 0 n1 f1 (lm_base_ok I.g A B hR (fun n' f' I' _ _ => hK 0 _ n' f' ⟨_, _, I', XI.zero _ _ _⟩)))
theorem k2_node {post : Int32 → ctN → ctF → Prop} {K : Int32 → Int32 → ctN → ctF → Prop} {n : ctN} {f : ctF} {p1 p2 p3 : Int32} (I : PInv2 n f) (hpost : ∀ r n1 f1, wp_M_node (fun r2 n f => K r r2 n f) p1 p2 p3 n1 f1 → post r n1 f1) (hK : ∀ r r2 n' f', PInv2 n' f' → K r r2 n' f') : wp_L_node post p1 p2 p3 n f := by
  obtain ⟨G, T, I, X⟩ := I
  have hR40 := I.g.R40
  refine lc_node2 I (fun hb => hpost 1 n f (lm_node_bad I.g I.t I.gm I.tm.nN hb (hK 1 0 _ _ ⟨G, T, I.n3 1, X⟩))) (fun o a b B hN => hpost 2 n f (lm_node_full I.g I.t I.gm I.tm.nN B hN (hK 2 0 _ _ ⟨G, T, I.n3 2, X⟩))) (fun o a b C B hN hl hd f1 I1 low => hpost 2 n f1 ?_) (fun o a b C B0 Q m B hN hl hB hd n1 f1 gc tc gm tm out nc => hpost 0 n1 f1 ?_)
  · refine lm_node_go I1.g I1.t I1.gm I1.tm B hN hl (fun _ f' s => ?_) (fun z => absurd hd z)
    have en : ∀ k, k ≠ 3 → va_up n 3 2 k = n k := fun k z => va_up_ne _ _ z
    obtain ⟨m1, d1⟩ := node_low (n' := va_up n 3 2) I1.g I1.t I1.gm I1.tm s (en 4 (by decide)) (en 5 (by decide)) (en 6 (by decide))
    have ef : ∀ k, k ≤ 17 → f' k = f1 k := fun k hk => by rw [s.1 k (by omega) (by omega) (by omega) (by omega), setM_o _ _ _ _ _ (by omega) (by omega) (by omega)]
    refine hK 2 0 _ f' ⟨G, T, ⟨I1.g, I1.t, I1.gc.up (en 0 (by decide)) (en 1 (by decide)) (fun k _ _ => ef k (by omega)), I1.tc.up (en 2 (by decide)) (fun k _ _ _ => ef k (by omega)), m1, d1⟩, (X.up low).up (fun v hv => ⟨by rw [ef 12 (by decide)], by rw [ef 13 (by decide)], fun g hg => ⟨by rw [ef 14 (by decide)], by rw [ef 15 (by decide)], ?_, ?_⟩⟩)⟩
    · rw [(s.2 (8 * v + g) (by omega)).1, setM_o _ _ _ _ _ (by decide) (by decide) (by decide)]
    · rw [(s.2 (8 * v + g) (by omega)).2.1, setM_o _ _ _ _ _ (by decide) (by decide) (by decide)]
  · obtain ⟨n1', n2', n3', n4', n5', n6', n7', n8', n9', n10'⟩ := nc
    refine lm_node_go2 hB I.g I.t gm tm B hN hl (fun z => absurd z hd) (fun _ f' E hP n' en h3 h6 => ?_)
    obtain ⟨P, hP1, hP2⟩ := hP
    obtain ⟨m1, d1⟩ := node_new (n' := n') I.g I.t gm tm B E (en 4 (by decide) (by decide)) (en 5 (by decide) (by decide)) h6
    have s := E.same
    have ef : ∀ k, k ≤ 17 ∨ 31 < k → f' k = f1 k := fun k hk => by rw [s.1 k (by omega) (by omega) (by omega) (by omega), setM_o _ _ _ _ _ (by omega) (by omega) (by omega)]
    have mo : ∀ g x, C g = some x → x ≤ 1000000 := by
      intro g x hx
      have hg := least_lt8 I.g hl hx
      rcases Nat.lt_or_ge 1000000 x with z | z
      · exact absurd ⟨g, x, hg, hx, z⟩ hd
      · exact z
    have low : lowX T.N f f' := n2'.tr (fun v hv => ⟨by rw [ef 12 (by decide)], by rw [ef 13 (by decide)], fun g hg => ⟨by rw [ef 14 (by decide)], by rw [ef 15 (by decide)], by rw [(s.2 (8 * v + g) (by omega)).1, setM_o _ _ _ _ _ (by decide) (by decide) (by decide)], by rw [(s.2 (8 * v + g) (by omega)).2.1, setM_o _ _ _ _ _ (by decide) (by decide) (by decide)]⟩⟩)
    have hBR : ∀ g i, B0 g = some i → i < G.R := by
      intro g i h
      have q := hB g
      rw [h] at q
      exact q.2.1
    have nx : nodeX G C B0 Q P T.N f' := by
      refine ⟨newND I.g hl hB n1' hP2 n6', mo, fun g i h => ?_, fun g i h => ?_, ?_, fun g hg => ?_, fun g hg => ?_, fun g hg => E.row g hg, hP1⟩
      · have := n5' g i h; omega
      · have := hP2.lt hBR h; omega
      · rw [ef 12 (by decide)]; exact n3'
      · rw [ef 14 (by decide)]; exact (n4' g hg).1
      · rw [ef 15 (by decide)]; exact (n4' g hg).2
    have lk : ∀ j, likeTo f1 j T.N 8 ↔ likeTo f' j T.N 8 := fun j => ⟨fun h => h.up (ef 12 (by decide)) (ef 14 (by decide)) (ef 15 (by decide)), fun h => h.up (ef 12 (by decide)).symm (ef 14 (by decide)).symm (ef 15 (by decide)).symm⟩
    refine hK 0 _ n' f' ⟨G, T.addN o a b C, ⟨I.g, addN_ok I.t B hN mo, gc.up (en 0 (by decide) (by decide)) (en 1 (by decide) (by decide)) (fun k _ _ => ef k (by omega)), tc.up (en 2 (by decide) (by decide)) (fun k _ _ _ => ef k (by omega)), m1, d1⟩, X.addN low nx ?_ n8' ?_ (fun j hj hjl => ?_)⟩
    · rw [ef 13 (by decide)]; exact n7'
    · rcases n9' with z | ⟨z1, z2⟩
      · exact Or.inl z
      · exact Or.inr ⟨by rw [ef 13 (by decide)]; exact z1, (lk m).mp z2⟩
    · refine n10' j hj ⟨?_, (lk j).mpr hjl.2⟩
      have := hjl.1
      rw [ef 13 (by decide)] at this
      exact this
theorem k2_cost {post : Int32 → ctN → ctF → Prop} {K : Int32 → Int32 → ctN → ctF → Prop} {n : ctN} {f : ctF} {p q : Int32} (I : PInv2 n f) (hpost : ∀ r n1 f1, wp_M_cost (fun r2 n f => K r r2 n f) p q n1 f1 → post r n1 f1) (hK : ∀ r r2 n' f', PInv2 n' f' → K r r2 n' f') : wp_L_cost post p q n f := by
  obtain ⟨G, T, I, X⟩ := I
  refine lc_cost I (fun hb => hpost 1 n f (lm_cost I (fun _ => hK 1 0 _ _ ⟨G, T, I.n3 1, X⟩) (fun v g hv hg e1 e2 => hK 1 _ _ _ ⟨G, T, I.n3 0, X⟩))) (fun v g hv hg e1 e2 => hpost 0 n _ (lm_cost (I.f32 _) (fun hb => hK 0 0 _ _ ⟨G, T, (I.f32 _).n3 1, X.s32 (fun _ hk => va_up_ne _ _ hk)⟩) (fun v2 g2 hv2 hg2 e3 e4 => hK 0 _ _ _ ⟨G, T, (I.f32 _).n3 0, X.s32 (fun _ hk => va_up_ne _ _ hk)⟩)))
theorem k2_rule {post : Int32 → ctN → ctF → Prop} {K : Int32 → Int32 → ctN → ctF → Prop} {n : ctN} {f : ctF} {p q : Int32} (I : PInv2 n f) (hpost : ∀ r n1 f1, wp_M_rule (fun r2 n f => K r r2 n f) p q n1 f1 → post r n1 f1) (hK : ∀ r r2 n' f', PInv2 n' f' → K r r2 n' f') : wp_L_rule post p q n f := by
  obtain ⟨G, T, I, X⟩ := I
  exact lc_rule I (fun r f1 e => hpost r n f1 (lm_rule (I.up (fun _ _ _ _ => rfl) e) (fun r2 n' e' => hK r r2 n' f1 ⟨G, T, I.up e' e, X.s32 e⟩)))
theorem k2_size {post : Int32 → ctN → ctF → Prop} {K : Int32 → Int32 → ctN → ctF → Prop} {n : ctN} {f : ctF} {p q : Int32} (I : PInv2 n f) (hpost : ∀ r n1 f1, wp_M_size (fun r2 n f => K r r2 n f) p q n1 f1 → post r n1 f1) (hK : ∀ r r2 n' f', PInv2 n' f' → K r r2 n' f') : wp_L_size post p q n f := by
  obtain ⟨G, T, I, X⟩ := I
  exact lc_size I (fun r f1 e => hpost r n f1 (lm_size (I.up (fun _ _ _ _ => rfl) e) (fun r2 n' e' => hK r r2 n' f1 ⟨G, T, I.up e' e, X.s32 e⟩)))
theorem k2_cover {post : Int32 → ctN → ctF → Prop} {K : Int32 → Int32 → ctN → ctF → Prop} {n : ctN} {f : ctF} {p q c w : Int32} (I : PInv2 n f) (hpost : ∀ r n1 f1, wp_M_cover (fun r2 n f => K r r2 n f) p q c w n1 f1 → post r n1 f1) (hK : ∀ r r2 n' f', PInv2 n' f' → K r r2 n' f') : wp_L_cover post p q c w n f := by
  obtain ⟨G, T, I, X⟩ := I
  exact lc_cover I (fun r f1 e => hpost r n f1 (lm_cover (I.up (fun _ _ _ _ => rfl) e) (fun r2 n' e' => hK r r2 n' f1 ⟨G, T, I.up e' e, X.s32 e⟩)))
theorem k2_like {post : Int32 → ctN → ctF → Prop} {K : Int32 → Int32 → ctN → ctF → Prop} {n : ctN} {f : ctF} {p : Int32} (I : PInv2 n f) (hpost : ∀ r n1 f1, wp_M_like (fun r2 n f => K r r2 n f) p n1 f1 → post r n1 f1) (hK : ∀ r r2 n' f', PInv2 n' f' → n' 3 = r → (r = 0 → f' 32 0 = r2) → K r r2 n' f') : wp_L_like post p n f := by
  obtain ⟨G, T, I, X⟩ := I
  have hN := I.t.N120
  unfold wp_L_like wp_C_like
  rcases ix_or p (N := T.N) (by omega) with hb | ⟨v, hv, rfl⟩
  · refine Or.inr (c_has0 I.tc.nN hb ⟨fun z => absurd rfl z, fun _ => ⟨rfl, hpost 1 n f ?_⟩⟩)
    unfold wp_M_like
    exact m_node0 I.tm.nN hN hb ⟨fun z => absurd rfl z, fun _ => m_ref1 ⟨fun z => absurd z (by decide), fun _ => hK 1 0 _ _ ⟨G, T, I.n3 1, X⟩ (va_up_self _ _ _) (fun z => absurd z (by decide))⟩⟩
  · refine Or.inl (c_has1 I.tc.nN hN hv ⟨fun _ => ⟨vp_in_nI (by omega) (by decide), ?_⟩, fun z => absurd z (by decide)⟩)
    rw [nI_clamp (by omega)]
    rintro f1 hf1
    have e : ∀ k, k ≠ 32 → f1 k = f k := fun k hk => by rw [hf1, va_up_ne _ _ hk]
    have X1 := X.s32 e
    obtain ⟨B, Q, P, lk, hk⟩ := id X1
    refine hpost 0 n f1 ?_
    unfold wp_M_like
    refine m_node1 I.tm.nN hN hv ⟨fun _ => m_ref0 ⟨fun _ => ?_, fun z => absurd rfl z⟩, fun z => absurd z (by decide)⟩
    refine wm_likeOf2 I.t hk hv (hK 0 _ _ _ ⟨G, T, (I.up (fun _ _ _ _ => rfl) e).n3 0, X1⟩ (va_up_self _ _ _) (fun _ => ?_))
    rw [← (hk v hv).2.1, hf1, va_up_self, upd_self, va_up_ne _ _ (by decide)]
theorem k2_states {post : Int32 → ctN → ctF → Prop} {K : Int32 → Int32 → ctN → ctF → Prop} {n : ctN} {f : ctF} (I : PInv2 n f) (hpost : ∀ r n1 f1, wp_M_states (fun r2 n f => K r r2 n f) n1 f1 → post r n1 f1) (hK : ∀ r r2 n' f', PInv2 n' f' → r = r2 → K r r2 n' f') : wp_C_states post n f := by
  obtain ⟨G, T, I, X⟩ := I
  obtain ⟨B, Q, P, lk, hk⟩ := id X
  unfold wp_C_states
  exact w_countStates I.tc.nN I.t.N120 (hpost _ n f (wm_states2 I.t I.tm.nN hk (hK _ _ _ _ ⟨G, T, I.n3 0, X⟩ rfl)))
theorem k2_clear {post : ctN → ctF → Prop} {K : ctN → ctF → Prop} {n : ctN} {f : ctF} (I : PInv2 n f) (hpost : ∀ n1 f1, wp_M_clear (fun n f => K n f) n1 f1 → post n1 f1) (hK : ∀ n' f', PInv2 n' f' → K n' f') : wp_C_clear post n f := by
  obtain ⟨G, T, I, X⟩ := I
  have h := l_clear (post := K) I (fun n' I' => hK n' f ⟨_, _, I', XI.zero _ _ _⟩)
  unfold wp_C_clear at h ⊢
  intro a ha b hb c hc
  exact hpost c f (h a ha b hb c hc)
theorem k2_fell {post : ctN → ctF → Prop} {K : ctN → ctF → Prop} {n : ctN} {f : ctF} (I : PInv2 n f) (hpost : ∀ n1 f1, wp_M_fell (fun n f => K n f) n1 f1 → post n1 f1) (hK : ∀ n' f', PInv2 n' f' → K n' f') : wp_C_fell post n f := by
  obtain ⟨G, T, I, X⟩ := I
  have h := l_fell (post := K) I (fun n' I' => hK n' f ⟨_, _, I', XI.zero _ _ _⟩)
  unfold wp_C_fell at h ⊢
  intro a ha
  exact hpost a f (h a ha)
end
section
/-! the law of p12: call by call -/
theorem law_in {L c j : Nat} (hL : L ≤ 3072) (h : 6 * c + 6 ≤ L) (hj : j < 6) {x y : Int32} (hx : x = nI (6 * c)) (hy : y = nI j) : vp_in (x + y) L := by
  rw [hx, hy, nI_add]
  exact vp_in_nI (by omega) (by omega)
set_option maxHeartbeats 4000000 in
set_option maxRecDepth 100000 in
theorem law_all {xs : Nat → Int32} {L : Nat} (hL : L ≤ 3072) : ∀ (k c : Nat) (n : ctN) (f : ctF), 6 * c ≤ L → L < 6 * (c + k) → PInv2 n f → wp_law xs L k (nI (6 * c)) n f := by
  intro k
  induction k with
  | zero => intro c n f h1 h2; exfalso; omega
  | succ k ih =>
    intro c n f h1 h2 I
    rw [wp_law]
    refine ⟨fun _ => trivial, fun hlt => ?_⟩
    have h6 : 6 * c + 6 ≤ L := by
      have e6 : (6 : Int32).toInt = 6 := by decide
      rw [w_lt, show Int32.ofNat L = nI L from rfl, ia_sub (by rw [nI_toInt (by omega)]; omega) (by rw [nI_toInt (by omega)]; omega) (by rw [e6]; omega) (by rw [e6]; omega), nI_toInt (by omega), nI_toInt (by omega), e6] at hlt
      omega
    have i0 : vp_in (nI (6 * c)) L := vp_in_nI (by omega) (by omega)
    have i1 : vp_in (nI (6 * c) + 1) L := law_in (j := 1) hL h6 (by decide) rfl (by decide)
    have i2 : vp_in (nI (6 * c) + 2) L := law_in (j := 2) hL h6 (by decide) rfl (by decide)
    have i3 : vp_in (nI (6 * c) + 3) L := law_in (j := 3) hL h6 (by decide) rfl (by decide)
    have i4 : vp_in (nI (6 * c) + 4) L := law_in (j := 4) hL h6 (by decide) rfl (by decide)
    have i5 : vp_in (nI (6 * c) + 5) L := law_in (j := 5) hL h6 (by decide) rfl (by decide)
    have nx : ∀ (n' : ctN) (f' : ctF), PInv2 n' f' → ∀ x : Int32, x = nI (6 * c) + 6 → wp_law xs L k x n' f' := by
      intro n' f' I' x hx
      have e : x = nI (6 * (c + 1)) := by rw [hx, show (6 : Int32) = nI 6 by decide, nI_add]; rfl
      rw [e]
      exact ih (c + 1) n' f' (by omega) (by omega) I'
    refine ⟨i0, ?_⟩
    refine ⟨fun _ => ?_, fun _ => ?_, fun _ => ?_, fun _ => ?_, fun _ => ?_, fun _ => ?_, fun _ => ?_, fun _ => ?_, fun _ => ?_, fun _ => ?_, fun _ => ?_, fun _ => ?_, fun _ => nx n f I⟩
    · exact k2_clear I (fun _ _ h => h) (fun n' f' I' => nx n' f' I')
    · exact k2_fell I (fun _ _ h => h) (fun n' f' I' => nx n' f' I')
    · exact ⟨i1, k2_operator I (fun _ _ _ h => ⟨i1, h⟩) (fun _ _ n' f' I' => nx n' f' I')⟩
    · exact ⟨i1, i2, i3, i4, i5, k2_base I (fun _ _ _ h => ⟨i1, i2, i3, i4, i5, h⟩) (fun _ _ n' f' I' => nx n' f' I')⟩
    · exact ⟨i1, i2, i3, k2_chain I (fun _ _ _ h => ⟨i1, i2, i3, h⟩) (fun _ _ n' f' I' => nx n' f' I')⟩
    · exact ⟨i1, i2, i3, k2_node I (fun _ _ _ h => ⟨i1, i2, i3, h⟩) (fun _ _ n' f' I' => nx n' f' I')⟩
    · exact ⟨i1, i2, k2_cost I (fun _ _ _ h => ⟨i1, i2, h⟩) (fun _ _ n' f' I' => nx n' f' I')⟩
    · exact ⟨i1, i2, k2_rule I (fun _ _ _ h => ⟨i1, i2, h⟩) (fun _ _ n' f' I' => nx n' f' I')⟩
    · exact ⟨i1, i2, k2_size I (fun _ _ _ h => ⟨i1, i2, h⟩) (fun _ _ n' f' I' => nx n' f' I')⟩
    · exact ⟨i1, i2, i3, i4, k2_cover I (fun _ _ _ h => ⟨i1, i2, i3, i4, h⟩) (fun _ _ n' f' I' => nx n' f' I')⟩
    · exact k2_states I (fun _ _ _ h => h) (fun _ _ n' f' I' e => ⟨fun _ => nx n' f' I', fun z => absurd e z⟩)
    · exact ⟨i1, k2_like I (fun _ _ _ h => ⟨i1, h⟩) (fun _ _ n' f' I' _ _ => nx n' f' I')⟩
theorem law_pure : ∀ (xs : Nat → Int32) (L : Nat), L ≤ 3072 → ∃ k, k ≤ lwK ∧ wp_law xs L k 0 (fun _ => 0) (fun _ _ => 0) := by
  intro xs L hL
  refine ⟨L / 6 + 1, by show _ ≤ 1041; omega, ?_⟩
  have h := law_all (xs := xs) hL (L / 6 + 1) 0 (fun _ => 0) (fun _ _ => 0) (by omega) (by omega) inv2_start
  rw [show nI (6 * 0) = 0 from nI_0] at h
  exact h
end
section
theorem i_vc : Claimed_1_1 ∧ Claimed_1_2 := claim_of law_pure
end
