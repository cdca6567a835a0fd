/-! COST of a pair; entry -/
theorem idiv_e {a : Int} (b : Int) (h0 : 0 ≤ a) (h1 : a < 2147483648) (hb : 0 < b) (hb2 : b < 2147483648) : idiv a b = a / b := by
  show (Int32.ofInt a / Int32.ofInt b).toInt = _
  have hne : Int32.ofInt b ≠ -1 := by
    intro h
    have := congrArg Int32.toInt h
    rw [i_t ⟨by omega, hb2⟩] at this
    have h2 : (-1 : Int32).toInt = -1 := by decide
    omega
  rw [Int32.toInt_div_of_ne_right _ _ hne, i_t ⟨by omega, h1⟩, i_t ⟨by omega, hb2⟩]
  exact Int.tdiv_eq_ediv_of_nonneg h0
def minV (a b : Int) : Int := min 5 ((if a < b then b - a else a - b) / 10)
theorem minV_e {a b : Int} (ha : 0 ≤ a ∧ a ≤ 1439) (hb : 0 ≤ b ∧ b ≤ 1439) : jmin 5 (idiv (jabs (w32 (a - b))) 10) = minV a b := by
  have e : jabs (w32 (a - b)) = if a < b then b - a else a - b := by
    unfold jabs
    rw [w32_s (x := a - b) (by omega) (by omega)]
    by_cases h : a < b
    · rw [if_pos h, if_neg (by omega), w32_s (by omega) (by omega)]; omega
    · rw [if_neg h, if_pos (by omega)]
  rw [e, jmin_e, idiv_e 10 (by split <;> omega) (by split <;> omega) (by decide) (by decide)]
  rfl
theorem minV_b (a b : Int) : 0 ≤ minV a b ∧ minV a b ≤ 5 := by unfold minV; split <;> omega
def costV (n1 t1 m1 s1 n2 t2 m2 s2 : Int) : Int := 3 * farV n1 n2 + (if ¬ t1 = -1 ∧ ¬ t2 = -1 ∧ ¬ t1 = t2 then 2 else 0) + minV m1 m2 + (if s1 = s2 then 0 else 4)
theorem costV_b (n1 t1 m1 s1 n2 t2 m2 s2 : Int) : 0 ≤ costV n1 t1 m1 s1 n2 t2 m2 s2 ∧ costV n1 t1 m1 s1 n2 t2 m2 s2 ≤ 59 := by
  have h1 := farV_b n1 n2
  have h2 := minV_b m1 m2
  unfold costV; split <;> split <;> omega
def costB (d : Dt) (a b : Nat) : Int := costV (d 57 a) (d 53 a) (d 54 a) (d 55 a) (d 57 b) (d 53 b) (d 54 b) (d 55 b)
theorem setCost_e (b i j : Nat) (d : Dt) (hb : b < 2) (hi : i < 30) (hj : j < 30) (n1 : isNm (d 38 i)) (n2 : isNm (d 38 (30 * (b + 1) + j))) (m1 : 0 ≤ d 40 i ∧ d 40 i ≤ 1439) (m2 : 0 ≤ d 40 (30 * (b + 1) + j) ∧ d 40 (30 * (b + 1) + j) ≤ 1439) : ∃ d', L_Bo_setCost ((b + 1 : Nat) : Int) (i : Int) (j : Int) d = some (0, d') ∧ (∀ k, k ≠ 43 → k ≠ 48 → d' k = d k) ∧ (∀ q, q ≠ (b * 30 + i) * 30 + j → d' 43 q = d 43 q) ∧ d' 43 ((b * 30 + i) * 30 + j) = costV (d 38 i) (d 39 i) (d 40 i) (d 41 i) (d 38 (30 * (b + 1) + j)) (d 39 (30 * (b + 1) + j)) (d 40 (30 * (b + 1) + j)) (d 41 (30 * (b + 1) + j)) := by
  obtain ⟨t, ht⟩ : ∃ t : Nat, t = 30 * (b + 1) + j := ⟨_, rfl⟩
  rw [← ht] at n2 m2 ⊢
  obtain ⟨d1, a1, a2⟩ := farA' 48 n1 n2 d
  have fb := farV_b (d 38 i) (d 38 t)
  have mb := minV_b (d 40 i) (d 40 t)
  have hv : w32 (w32 (((b + 1 : Nat) : Int) * 30) + (j : Int)) = (t : Int) := by
    rw [w32_s (x := ((b + 1 : Nat) : Int) * 30) (by omega) (by omega), w32_s (by omega) (by omega)]; omega
  have fin : ∀ x5 : Int, ∃ d', L_Bo_setCost_b120 ((b + 1 : Nat) : Int) (i : Int) (j : Int) x5 d1 = some (0, d') ∧ (∀ k, k ≠ 43 → k ≠ 48 → d' k = d k) ∧ (∀ q, q ≠ (b * 30 + i) * 30 + j → d' 43 q = d 43 q) ∧ d' 43 ((b * 30 + i) * 30 + j) = x5 := by
    intro x5
    have hp : w32 (w32 (w32 (w32 (w32 (((b + 1 : Nat) : Int) - 1) * 30) + (i : Int)) * 30) + (j : Int)) = (((b * 30 + i) * 30 + j : Nat) : Int) := by
      rw [w32_s (x := ((b + 1 : Nat) : Int) - 1) (by omega) (by omega), w32_s (x := (((b + 1 : Nat) : Int) - 1) * 30) (by omega) (by omega), w32_s (x := (((b + 1 : Nat) : Int) - 1) * 30 + (i : Int)) (by omega) (by omega), w32_s (x := ((((b + 1 : Nat) : Int) - 1) * 30 + (i : Int)) * 30) (by omega) (by omega), w32_s (by omega) (by omega)]
      omega
    unfold L_Bo_setCost_b120 L_Bo_costPlace
    rw [bd_s, hp, ck_pos ⟨by omega, by omega⟩, tn_i]
    refine ⟨_, rfl, ?_, ?_, ?_⟩
    · intro k h1 h2; rw [up2_K _ _ _ h1, a2 k h2]
    · intro q hq; rw [up2_j _ _ _ hq, a2 43 (by decide)]
    · rw [up2_s]
  have c1 : (0 : Int) ≤ (i : Int) ∧ (i : Int) < 90 := by omega
  have c2 : (0 : Int) ≤ (t : Int) ∧ (t : Int) < 90 := by omega
  have b72 : ∀ x5 : Int, 0 ≤ x5 → x5 ≤ 100 → ∃ d', L_Bo_setCost_b72 ((b + 1 : Nat) : Int) (i : Int) (j : Int) (t : Int) x5 d1 = some (0, d') ∧ (∀ k, k ≠ 43 → k ≠ 48 → d' k = d k) ∧ (∀ q, q ≠ (b * 30 + i) * 30 + j → d' 43 q = d 43 q) ∧ d' 43 ((b * 30 + i) * 30 + j) = x5 + minV (d 40 i) (d 40 t) + (if d 41 i = d 41 t then 0 else 4) := by
    intro x5 g1 g2
    unfold L_Bo_setCost_b72
    simp only [tn_i, ck_pos c1, ck_pos c2, lt_, a2 40 (by decide), a2 41 (by decide), minV_e m1 m2, w32_s (x := x5 + minV (d 40 i) (d 40 t)) (by omega) (by omega), w32_s (x := x5 + minV (d 40 i) (d 40 t) + 4) (by omega) (by omega)]
    by_cases h : d 41 i = d 41 t
    · rw [if_pos h, if_pos h, Int.add_zero]; exact fin _
    · rw [if_neg h, if_neg h]; exact fin _
  unfold L_Bo_setCost
  simp only [lt_]
  rw [hv]
  simp only [tn_i, ck_pos c1, ck_pos c2, a1, bd_s, a2 39 (by decide), w32_s (x := 3 * farV (d 38 i) (d 38 t)) (by omega) (by omega), w32_s (x := 3 * farV (d 38 i) (d 38 t) + 2) (by omega) (by omega)]
  unfold costV
  by_cases h1 : d 39 i = -1
  · rw [if_pos h1, if_neg (fun q => q.1 h1), Int.add_zero]; exact b72 _ (by omega) (by omega)
  · rw [if_neg h1]
    by_cases h2 : d 39 t = -1
    · rw [if_pos h2, if_neg (fun q => q.2.1 h2), Int.add_zero]; exact b72 _ (by omega) (by omega)
    · rw [if_neg h2]
      by_cases h3 : d 39 i = d 39 t
      · rw [if_pos h3, if_neg (fun q => q.2.2 h3), Int.add_zero]; exact b72 _ (by omega) (by omega)
      · rw [if_neg h3, if_pos ⟨h1, h2, h3⟩]; exact b72 _ (by omega) (by omega)
/-- kept COSTS -/
def RC (dA dB : Dt) : Prop := ∀ b i j : Nat, b < 2 → (i : Int) < dB 52 0 → (j : Int) < dB 52 (b + 1) → dA 43 ((b * 30 + i) * 30 + j) = costB dB i (30 * (b + 1) + j)
