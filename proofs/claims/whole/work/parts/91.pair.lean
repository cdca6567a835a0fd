/-! JOIN: the class goes along book 0 -/
theorem mul10 (a b : Nat) (ha : a ≤ 31) (hb : b ≤ 31) : w32 (10 * w32 ((a : Int) - (b : Int))) = 10 * ((a : Int) - (b : Int)) := by
  rw [w32_s (x := (a : Int) - (b : Int)) (by omega) (by omega), w32_s (by omega) (by omega)]
theorem pair_in {d dB : Dt} (b n m i fr : Nat) (hb : b < 2) (hn : n ≤ 30) (hm : m ≤ 30) (hi : i < n) (hfr : fr ≤ m) (hm42 : d 42 (b + 1) = (m : Int))
    (hc : ∀ i j : Nat, i < n → j < m → d 43 ((b * 30 + i) * 30 + j) = cc dB b i j)
    (hL : ∀ i' j', i' ≤ n → j' ≤ m → d 44 (i' * 31 + j') = gL (cc dB b) n m (n - i') (m - j')) :
    L_Bo_pair_l20 ((b + 1 : Nat) : Int) (fr : Int) (i : Int) (-1) (fr : Int) d = some (((b + 1 : Nat) : Int), (fr : Int), (i : Int), sf (mP (cc dB b) n m i fr) fr (m - fr), d) := by
  obtain ⟨d', rfl, e⟩ := lp_srch (f := fun q : Int × Int × Int × Int × Int × Dt => L_Bo_pair_y20 q.1 q.2.1 q.2.2.1 q.2.2.2.1 q.2.2.2.2.1 q.2.2.2.2.2) (fun v j x => (((b + 1 : Nat) : Int), (fr : Int), (i : Int), v, (j : Int), x)) (fun v x => (((b + 1 : Nat) : Int), (fr : Int), (i : Int), v, x)) (fun x => x = d) (mP (cc dB b) n m i fr) fr m hfr
    (by
      rintro j x hj1 hj2 rfl
      refine ⟨_, rfl, ?_⟩
      dsimp only
      unfold L_Bo_pair_y20 L_Bo_costPlace L_Bo_pair_b100
      have c0 := cc_b dB b i j
      have b2 := gL_b (cc dB b) n m (fun i j => (cc_b dB b i j).1) (n - (i + 1)) (m - (j + 1))
      rw [ck_pos ⟨by omega, by omega⟩, tn_i, hm42, if_pos (by omega), if_pos rfl, mul10 j fr (by omega) (by omega), lt_e, ixc b i j hb (by omega) (by omega), bd_e, tn_i, hc i j hi hj2, w32_i (show i < 2147483647 by omega), ix31s (i + 1) j (by omega) (by omega), tn_i, hL (i + 1) (j + 1) (by omega) (by omega), ix31 i fr (by omega) (by omega), tn_i, hL i fr (by omega) hfr, w32_i (show j < 2147483647 by omega)]
      rw [ck_pos ⟨by omega, by omega⟩, ck_pos ⟨by omega, by omega⟩, lt_e, ck_pos ⟨by omega, by omega⟩, w32_s (x := cc dB b i j + gL (cc dB b) n m (n - (i + 1)) (m - (j + 1))) (by omega) (by omega), w32_s (x := 10 * ((j : Int) - (fr : Int)) + (cc dB b i j + gL (cc dB b) n m (n - (i + 1)) (m - (j + 1)))) (by omega) (by omega)]
      unfold mP
      by_cases q : 10 * ((j : Int) - (fr : Int)) + (cc dB b i j + gL (cc dB b) n m (n - (i + 1)) (m - (j + 1))) = gL (cc dB b) n m (n - i) (m - fr)
      · rw [if_pos q, if_pos (decide_eq_true (by omega))]
      · rw [if_neg q, if_neg (by rw [decide_eq_true_eq]; omega)])
    (by
      rintro x rfl
      dsimp only
      unfold L_Bo_pair_y20
      rw [ck_pos ⟨by omega, by omega⟩, tn_i, hm42, if_neg (by omega)])
    (by
      rintro j x hj1 hj2 rfl
      dsimp only
      unfold L_Bo_pair_y20
      rw [ck_pos ⟨by omega, by omega⟩, tn_i, hm42]
      by_cases q : ((j + 1 : Nat) : Int) < (m : Int)
      · rw [if_pos q, if_neg (by omega)]
      · rw [if_neg q]) (by omega) d rfl
  exact e
theorem pair_e {d dB : Dt} (b n m : Nat) (hb : b < 2) (hn : n ≤ 30) (hm : m ≤ 30) (hm42 : d 42 (b + 1) = (m : Int)) (hn42 : d 42 0 = (n : Int))
    (hc : ∀ i j : Nat, i < n → j < m → d 43 ((b * 30 + i) * 30 + j) = cc dB b i j)
    (hL : ∀ i' j', i' ≤ n → j' ≤ m → d 44 (i' * 31 + j') = gL (cc dB b) n m (n - i') (m - j')) :
    ∃ d', L_Bo_pair ((b + 1 : Nat) : Int) d = some (0, d') ∧ (∀ k, k ≠ 46 → d' k = d k) ∧ (∀ q, (∀ i, i < 30 → q ≠ 30 * (b + 1) + i) → d' 46 q = d 46 q) ∧ ∀ i, i < n → d' 46 (30 * (b + 1) + i) = mM (cc dB b) n m i := by
  obtain ⟨d', e1, e2, e3, e4⟩ := lp_inv (f := fun q : Int × Int × Int × Dt => L_Bo_pair_y4 q.1 q.2.1 q.2.2.1 q.2.2.2) (fun i x => (((b + 1 : Nat) : Int), (mF (cc dB b) n m i : Int), (i : Int), x)) (fun x => x)
    (fun i x => (∀ k, k ≠ 46 → x k = d k) ∧ (∀ q, (∀ i, i < 30 → q ≠ 30 * (b + 1) + i) → x 46 q = d 46 q) ∧ ∀ i', i' < i → x 46 (30 * (b + 1) + i') = mM (cc dB b) n m i') n
    (by
      rintro i x hi ⟨f1, f2, f3⟩
      have hfr := mF_b (cc dB b) n m i
      have hin := pair_in (d := x) (dB := dB) b n m i (mF (cc dB b) n m i) hb hn hm hi hfr (by rw [f1 42 (by decide)]; exact hm42) (by rw [f1 43 (by decide)]; exact hc) (by rw [f1 44 (by decide)]; exact hL)
      rw [show sf (mP (cc dB b) n m i (mF (cc dB b) n m i)) (mF (cc dB b) n m i) (m - mF (cc dB b) n m i) = mM (cc dB b) n m i from rfl] at hin
      have hmb := mM_b (cc dB b) n m i
      refine ⟨up2 x 46 (30 * (b + 1) + i) (mM (cc dB b) n m i), ?_, ?_, ?_, ?_⟩
      · dsimp only
        unfold L_Bo_pair_y4 L_Bo_pair_b106 L_Bo_pair_b133
        rw [f1 42 (by decide), hn42, if_pos (by omega), hin, lb_e, u4_q, slotA (b + 1) i (by omega) (by omega), ck_pos ⟨by omega, by omega⟩, tn_i, w32_i (show i < 2147483647 by omega), mF_s]
        by_cases q : mM (cc dB b) n m i = -1
        · rw [if_pos q, if_pos q]
        · rw [if_neg q, if_neg q, w32_s (x := mM (cc dB b) n m i + 1) (by omega) (by omega), show (((mM (cc dB b) n m i).toNat + 1 : Nat) : Int) = mM (cc dB b) n m i + 1 by omega]
      · intro k hk; rw [up2_K _ _ _ hk]; exact f1 k hk
      · intro q hq; rw [up2_j _ _ _ (hq i (by omega))]; exact f2 q hq
      · intro i' hi'
        by_cases q : i' = i
        · subst q; rw [up2_s]
        · rw [up2_j _ _ _ (by omega)]; exact f3 i' (by omega))
    (by
      rintro x ⟨f1, _⟩
      dsimp only
      unfold L_Bo_pair_y4
      rw [f1 42 (by decide), hn42, if_neg (by omega)]) (by omega) d ⟨fun _ _ => rfl, fun _ _ => rfl, fun i' h => by omega⟩
  refine ⟨d', ?_, e2, e3, e4⟩
  unfold L_Bo_pair L_Bo_pair_l4
  rw [show lpF (fun q : Int × Int × Int × Dt => L_Bo_pair_y4 q.1 q.2.1 q.2.2.1 q.2.2.2) FU (((b + 1 : Nat) : Int), 0, 0, d) = _ from e1, lb_e, u0_q]
/-! the reference's table -/
theorem ix31B (i j : Nat) (hi : i ≤ 31) (hj : j ≤ 31) : w32 (w32 (31 * (i : Int)) + (j : Int)) = ((i * 31 + j : Nat) : Int) := by
  rw [w32_s (x := 31 * (i : Int)) (by omega) (by omega), w32_s (by omega) (by omega)]; omega
theorem ix31Bs (i j : Nat) (hi : i ≤ 31) (hj : j ≤ 31) : w32 (w32 (w32 (31 * (i : Int)) + (j : Int)) + 1) = ((i * 31 + (j + 1) : Nat) : Int) := by
  rw [ix31B i j hi hj, w32_s (by omega) (by omega)]; omega
theorem costOf_e {dA dB d : Dt} (hB : RB dA dB) (hd : Core dB d) (b i j : Nat) (hb : b < 2) (hi : (i : Int) < dB 52 0) (hj : (j : Int) < dB 52 (b + 1)) : ∃ d', L_Mo_costOf (i : Int) ((30 * (b + 1) + j : Nat) : Int) d = some (cc dB b i j, d') ∧ ∀ k, k ≠ 4 → k ≠ 5 → k ≠ 6 → d' k = d k := by
  obtain ⟨a1, a2, a3, a4, a5, a6, a7, a8⟩ := hB.e0 i hi
  obtain ⟨b1, b2, b3, b4, b5, b6, b7, b8⟩ := hB.2 (b + 1) j (by omega) hj
  have z0 := hB.1 0 (by decide)
  have z1 := hB.1 (b + 1) (by omega)
  obtain ⟨t, ht⟩ : ∃ t : Nat, t = 30 * (b + 1) + j := ⟨_, rfl⟩
  have hcc : cc dB b i j = costB dB i t := by rw [ht]; rfl
  rw [hcc]
  rw [← ht] at b5 b7 ⊢
  obtain ⟨d1, e1, e2⟩ := farB' (p1 := dB 57 i) (p2 := dB 57 t) a5 b5 d
  have g1 : Core dB d1 := hd.s456 e2
  have fb := farV_b (dB 57 i) (dB 57 t)
  have mb := minV_b (dB 54 i) (dB 54 t)
  have c1 : (0 : Int) ≤ (i : Int) ∧ (i : Int) < 90 := by omega
  have c2 : (0 : Int) ≤ (t : Int) ∧ (t : Int) < 90 := by omega
  refine ⟨d1, ?_, e2⟩
  have b81 : ∀ v : Int, 0 ≤ v → v ≤ 100 → L_Mo_costOf_b81 (i : Int) (t : Int) v d1 = some (v + (if dB 55 i = dB 55 t then 0 else 4), d1) := by
    intro v h1 h2
    unfold L_Mo_costOf_b81 L_Mo_costOf_b102
    rw [tn_i, tn_i, ck_pos c1, ck_pos c2, g1.1 55 (by decide) (by decide)]
    by_cases q : dB 55 i = dB 55 t
    · rw [if_pos q, if_pos q, w32_s (by omega) (by omega)]
    · rw [if_neg q, if_neg q, w32_s (by omega) (by omega)]
  unfold L_Mo_costOf
  rw [tn_i, tn_i, hd.1 57 (by decide) (by decide), ck_pos c1, ck_pos c2, e1, bd_e, ck_pos c1, ck_pos c2, g1.1 54 (by decide) (by decide), minV_e a7 b7, w32_s (x := 3 * farV (dB 57 i) (dB 57 t)) (by omega) (by omega), w32_s (x := 3 * farV (dB 57 i) (dB 57 t) + minV (dB 54 i) (dB 54 t)) (by omega) (by omega), lt_e, ck_pos c1, ck_pos c2, ck_pos c1, ck_pos c2, g1.1 53 (by decide) (by decide), w32_s (x := 3 * farV (dB 57 i) (dB 57 t) + minV (dB 54 i) (dB 54 t) + 2) (by omega) (by omega)]
  have hu : costB dB i t = 3 * farV (dB 57 i) (dB 57 t) + (if ¬ dB 53 i = -1 ∧ ¬ dB 53 t = -1 ∧ ¬ dB 53 i = dB 53 t then 2 else 0) + minV (dB 54 i) (dB 54 t) + (if dB 55 i = dB 55 t then 0 else 4) := rfl
  rw [hu]
  clear hu hcc
  by_cases h1 : dB 53 i = -1
  · rw [if_pos h1, b81 _ (by omega) (by omega), if_neg (show ¬ (¬ dB 53 i = -1 ∧ ¬ dB 53 t = -1 ∧ ¬ dB 53 i = dB 53 t) from fun q => q.1 h1), Int.add_zero]
  · rw [if_neg h1]
    by_cases h2 : dB 53 t = -1
    · rw [if_pos h2, b81 _ (by omega) (by omega), if_neg (show ¬ (¬ dB 53 i = -1 ∧ ¬ dB 53 t = -1 ∧ ¬ dB 53 i = dB 53 t) from fun q => q.2.1 h2), Int.add_zero]
    · rw [if_neg h2]
      by_cases h3 : dB 53 i = dB 53 t
      · rw [if_pos h3, b81 _ (by omega) (by omega), if_neg (show ¬ (¬ dB 53 i = -1 ∧ ¬ dB 53 t = -1 ∧ ¬ dB 53 i = dB 53 t) from fun q => q.2.2 h3), Int.add_zero]
      · rw [if_neg h3, b81 _ (by omega) (by omega), if_pos (show ¬ dB 53 i = -1 ∧ ¬ dB 53 t = -1 ∧ ¬ dB 53 i = dB 53 t from ⟨h1, h2, h3⟩)]
        congr 2
        omega
theorem paired_e {dA dB d : Dt} (hB : RB dA dB) (hd : Core dB d) (b n m i fr j : Nat) (hb : b < 2) (hn : dB 52 0 = (n : Int)) (hm : dB 52 (b + 1) = (m : Int)) (hi : i < n) (hfr : fr ≤ j) (hj : j < m) (hl : d 58 ((i + 1) * 31 + (j + 1)) = gL (cc dB b) n m (n - (i + 1)) (m - (j + 1))) : ∃ d', L_Mo_paired ((b + 1 : Nat) : Int) (i : Int) (fr : Int) (j : Int) d = some (10 * ((j : Int) - (fr : Int)) + cc dB b i j + gL (cc dB b) n m (n - (i + 1)) (m - (j + 1)), d') ∧ ∀ k, k ≠ 4 → k ≠ 5 → k ≠ 6 → d' k = d k := by
  obtain ⟨d1, e1, e2⟩ := costOf_e hB hd b i j hb (by omega) (by omega)
  have z0 := hB.1 0 (by decide)
  have z1 := hB.1 (b + 1) (by omega)
  have c0 := cc_b dB b i j
  have b2 := gL_b (cc dB b) n m (fun i j => (cc_b dB b i j).1) (n - (i + 1)) (m - (j + 1))
  refine ⟨d1, ?_, e2⟩
  unfold L_Mo_paired
  rw [slotB (b + 1) j (by omega) (by omega), e1, bd_e, w32_i (show i < 2147483647 by omega), ix31Bs (i + 1) j (by omega) (by omega), ck_pos ⟨by omega, by omega⟩, tn_i, e2 58 (by decide) (by decide) (by decide), hl, mul10 j fr (by omega) (by omega), w32_s (x := 10 * ((j : Int) - (fr : Int)) + cc dB b i j) (by omega) (by omega), w32_s (by omega) (by omega)]
