/-! RULES: what a later step leaves of a RULE -/
theorem segF_cg (f f' : Nat → Int) : ∀ (n a : Nat), (∀ j, a ≤ j → j < a + n → f' j = f j) → segF f' a n = segF f a n
  | 0, _, _ => rfl
  | n + 1, a, h => by
    simp only [segF]
    rw [h a (by omega) (by omega), segF_cg f f' n (a + 1) (fun j h1 h2 => h j (by omega) (by omega))]
theorem segF_of (f : Nat → Int) : ∀ (l : List Int) (a : Nat), (∀ i, i < l.length → f (a + i) = l.getD i 0) → segF f a l.length = l
  | [], _, _ => rfl
  | x :: l, a, h => by
    have h0 : f a = x := h 0 (by simp)
    have ih := segF_of f l (a + 1) (fun i hi => by
      have := h (i + 1) (by simp only [List.length_cons]; omega)
      rw [show a + (i + 1) = a + 1 + i by omega] at this
      exact this)
    show f a :: segF f (a + 1) l.length = x :: l
    rw [ih, h0]
theorem ru_trA {x x' y : Dt} {t i c : Nat} (h : ruR x y t i) (e : ∀ a, 1 ≤ a → a ≤ 5 → x' (79 + 7 * t + a) i = x (79 + 7 * t + a) i) (hc : x (79 + 7 * t + 3) i ≤ 20 → x (79 + 7 * t + 5) i ≤ (c : Int)) (e6 : ∀ j, j < c → x' (79 + 7 * t + 6) j = x (79 + 7 * t + 6) j) : ruR x' y t i := by
  unfold ruR at h ⊢
  rw [e 1 (by decide) (by decide), e 2 (by decide) (by decide), e 3 (by decide) (by decide), e 4 (by decide) (by decide), e 5 (by decide) (by decide)]
  obtain ⟨h1, h2, h3⟩ := h
  refine ⟨h1, h2, ?_⟩
  rcases h3 with ⟨g, o1, o2, fi, n, g1, g2, g3, g4, g5, g6, g7⟩ | g | g
  · refine Or.inl ⟨g, o1, o2, fi, n, g1, g2, g3, ?_, g5, g6, g7⟩
    have hb : ((fi + n : Nat) : Int) ≤ (c : Int) := by rw [← g2]; exact hc (by omega)
    rw [segF_cg (x (79 + 7 * t + 6)) (x' (79 + 7 * t + 6)) n fi (fun j _ hj => e6 j (by omega))]
    exact g4
  · exact Or.inr (Or.inl g)
  · exact Or.inr (Or.inr g)
theorem ru_trB {x y y' : Dt} {t i k s : Nat} (h : ruR x y t i) (e : ∀ c, 29 ≤ c → c ≤ 36 → y' c (20 * t + i) = y c (20 * t + i)) (h34 : y 34 (20 * t + i) ≤ (k : Int)) (h39 : ∀ j, j < k → y 39 j ≤ (s : Int)) (m1 : ∀ c i, 37 ≤ c → c ≤ 42 → i < k → y' c i = y c i) (m2 : ∀ i, i < s → y' 43 i = y 43 i ∧ y' 44 i = y 44 i) : ruR x y' t i := by
  unfold ruR at h ⊢
  rw [e 29 (by decide) (by decide), e 30 (by decide) (by decide), e 31 (by decide) (by decide), e 35 (by decide) (by decide), e 36 (by decide) (by decide)]
  obtain ⟨h1, h2, h3⟩ := h
  refine ⟨h1, h2, ?_⟩
  rcases h3 with ⟨g, o1, o2, fi, n, g1, g2, g3, g4, g5, g6, a, p1, p2, p3, p4, p5, p6⟩ | g | g
  · rw [p3] at h34
    exact Or.inl ⟨g, o1, o2, fi, n, g1, g2, g3, g4, g5, g6, a, by rw [e 32 (by decide) (by decide)]; exact p1, by rw [e 33 (by decide) (by decide)]; exact p2, by rw [e 34 (by decide) (by decide)]; exact p3, p4, onesL_Q h39 m1 m2 o1 a p5 (by omega), onesL_Q h39 m1 m2 o2 (a + o1.length) p6 (by omega)⟩
  · exact Or.inr (Or.inl g)
  · exact Or.inr (Or.inr g)
/-! RULES: their end, both sides -/
theorem QB.wt {f : Nat → Int} {n N O B t k s : Nat} {y : Dt} (hN : tN f n N) (h : QB f n N O B y t k s) {c : Int} (hc : 40 ≤ c ∧ c ≤ 62) : (KK f n t = c ∧ ∃ y', L_Mo_want c y = some (1, y') ∧ QB f n N O B y' (t + 1) k s ∧ nxF y y') ∨ (¬ KK f n t = c ∧ ∃ y', L_Mo_want c y = some (0, y') ∧ QE f n y' (2, t) ∧ ∀ k s, mG k s y y') := by
  have n10 : ¬ ((1 : Int) = 0) := by decide
  unfold L_Mo_want
  by_cases q : KK f n t = c
  · left
    obtain ⟨y', e1, e2⟩ := h.nx hN (by omega)
    exact ⟨q, y', by rw [(h.s1 hc q).1, bd_e, if_neg n10, e1, bd_e], e2⟩
  · right
    obtain ⟨y', e1, e2⟩ := h.fl 2
    exact ⟨q, y', by rw [h.s0 hc q, bd_e, if_pos rfl, e1, bd_e], e2⟩
def e59 (d : Dt) : Option (Int × Dt) := bd (L_Pa_passes 59 d) (fun r22_ d21_ => if r22_ = 0 then some (0, d21_) else some (1, d21_))
def dsp (k : Int) (d11_ : Dt) : Option (Int × Dt) := if k = 17 then bd (L_Pa_takeTests d11_) (fun r17_ d16_ => if r17_ = 0 then some (0, d16_) else e59 d16_) else if k = 18 then bd (L_Pa_refuse 2 d11_) (fun r28_ d27_ => some (r28_, d27_)) else if k = 19 then bd (L_Pa_takeTests d11_) (fun r33_ d32_ => if r33_ = 0 then some (0, d32_) else e59 d32_) else if k = 20 then bd (L_Pa_takeTests d11_) (fun r44_ d43_ => if r44_ = 0 then some (0, d43_) else e59 d43_) else if k = 21 then bd (L_Pa_takeNames d11_) (fun r55_ d54_ => if r55_ = 0 then some (0, d54_) else e59 d54_) else if k = 22 then bd (L_Pa_takeHours d11_) (fun r66_ d65_ => if r66_ = 0 then some (0, d65_) else e59 d65_) else bd (L_Pa_refuse 2 d11_) (fun r76_ d75_ => some (r76_, d75_))
theorem tkR_e (x : Dt) : L_Pa_takeRule x = bd (L_Pa_takeLabels x) (fun r2_ d1_ => if r2_ = 0 then some (0, d1_) else bd (L_Pa_passes 58 d1_) (fun r7_ d6_ => if r7_ = 0 then some (0, d6_) else bd (L_Pa_kind d6_) (fun r12_ d11_ => dsp r12_ d11_))) := rfl
theorem endJ {f : Nat → Int} {n N O B T t m k s : Nat} {x y : Dt} {C : List Int} (hN : tN f n N) (hT : T ≤ 4) (hm : m < 20) (hx : CS f n N T x t C (m + 1)) (hy : QB f n N O B y t k s) (h41 : y 0 41 = (T : Int)) (h28 : y 28 T = (m : Int)) (r : Nat) :
    bad f n T r k s x y (e59 x) (L_Mo_rule_b286 1 y) ∨ ∃ x' y', e59 x = some (1, x') ∧ L_Mo_rule_b286 1 y = some (1, y') ∧ CS f n N T x' (t + 1) C (m + 1) ∧ QB f n N O B y' (t + 1) k s ∧ (y' 0 41 = (T : Int) ∧ y' 28 T = ((m + 1 : Nat) : Int)) ∧ (∀ c, c ≠ 0 → c ≠ 28 → y' c = y c) ∧ mQ T r k s y y' ∧ (∀ m', rF T m' C.length x x') ∧ lbE T x x' := by
  have n10 : ¬ ((1 : Int) = 0) := by decide
  have cT : (0 : Int) ≤ (T : Int) ∧ (T : Int) < 6 := by omega
  obtain ⟨r1, x', e1, e2⟩ := hx.pz 59 (by decide)
  have qa := hy.uc 28 T ((m + 1 : Nat) : Int) (by decide)
  have ma : mQ T r k s y (up2 y 28 T ((m + 1 : Nat) : Int)) := ⟨fun c _ b => up2_K _ _ _ (by omega), fun j _ _ _ _ _ => by rw [up2_K _ _ _ (by decide)], fun j hj => up2_j _ _ _ hj, fun c i a b _ => by rw [up2_K _ _ _ (by omega)], fun c i a b _ => by rw [up2_K _ _ _ (by omega)], fun i _ => ⟨by rw [up2_K _ _ _ (by decide)], by rw [up2_K _ _ _ (by decide)]⟩⟩
  unfold e59 L_Mo_rule_b286
  rw [e1, bd_e, if_neg n10, h41, ck_pos cT, ck_pos cT, tn_i, h28, w32_i (show m < 2147483647 by omega)]
  rcases qa.wt hN (c := 59) (by decide) with ⟨q, y', d1, d2, d3⟩ | ⟨q, y', d1, d2, d3⟩
  · rw [if_pos q] at e2
    obtain ⟨rfl, c1, c2, c3⟩ := e2
    right
    refine ⟨x', y', by rw [if_neg n10], by rw [d1, bd_e], c1, d2, ⟨?_, ?_⟩, fun c a b => by rw [d3.1 c a, up2_K _ _ _ b], ma.tr ((d3.g k s).q T r), c2, c3⟩
    · rw [d3.2 41 (by decide) (by decide) (by decide) (by decide), up2_K _ _ _ (by decide)]; exact h41
    · rw [d3.1 28 (by decide), up2_s]
  · rw [if_neg q] at e2
    obtain ⟨rfl, c1, c2⟩ := e2
    left
    exact ⟨(2, t), x', y', by rw [if_pos rfl], by rw [d1, bd_e], c1, d2, c2, ma.tr ((d3 k s).q T r), (by decide : (1 : Int) ≤ 2)⟩
