/-! JOIN: the reference -/
theorem Core.s58 {dB x : Dt} (h : Core dB x) (k j : Nat) (v : Int) (hk : sB k = true) (h0 : k ≠ 0) : Core dB (up2 x k j v) := by
  constructor
  · intro k' hk' hs
    have : k' ≠ k := by intro q; subst q; rw [hs] at hk; cases hk
    rw [up2_K _ _ _ this]; exact h.1 k' hk' hs
  · intro j' hj; rw [up2_K _ _ _ (fun q => h0 q.symm)]; exact h.2 j' hj
theorem pairing_in {dA dB d : Dt} (hB : RB dA dB) (hd : Core dB d) (b n m i j : Nat) (hb : b < 2) (hn : dB 52 0 = (n : Int)) (hm : dB 52 (b + 1) = (m : Int)) (hi : i < n) (hj : j ≤ m) (h1 : ∀ j', j' ≤ m → d 58 ((i + 1) * 31 + j') = gL (cc dB b) n m (n - (i + 1)) (m - j')) : ∃ d', L_Mo_pairing_l83 ((b + 1 : Nat) : Int) (n : Int) (m : Int) (i : Int) (j : Int) (10 + gL (cc dB b) n m (n - (i + 1)) (m - j)) (j : Int) d = some (((b + 1 : Nat) : Int), (n : Int), (m : Int), (i : Int), (j : Int), gL (cc dB b) n m (n - i) (m - j), d') ∧ ∀ k, k ≠ 4 → k ≠ 5 → k ≠ 6 → d' k = d k := by
  have z0 := hB.1 0 (by decide)
  have z1 := hB.1 (b + 1) (by omega)
  have hfin : pm (cc dB b i) (gL (cc dB b) n m (n - (i + 1))) j (m - j) (m - j) = gL (cc dB b) n m (n - i) (m - j) := by
    have e := pm_e (cc dB b i) (10 * (((n - (i + 1) : Nat) : Int) + 1)) (gL (cc dB b) n m (n - (i + 1))) m (by rw [gL_0]; omega) (fun k => gL_up (cc dB b) n m k _) (m - j) (by omega)
    rw [show m - (m - j) = j by omega] at e
    rw [e]
    have e2 : gL (cc dB b) n m (n - (i + 1) + 1) = gR (cc dB b (n - (n - (i + 1) + 1))) (10 * (((n - (i + 1) : Nat) : Int) + 1)) (gL (cc dB b) n m (n - (i + 1))) m := rfl
    rw [show n - (i + 1) + 1 = n - i by omega, show n - (n - i) = i by omega] at e2
    rw [e2]
  obtain ⟨d', e1, e2⟩ := lp_inv (f := fun q : Int × Int × Int × Int × Int × Int × Int × Dt => L_Mo_pairing_y83 q.1 q.2.1 q.2.2.1 q.2.2.2.1 q.2.2.2.2.1 q.2.2.2.2.2.1 q.2.2.2.2.2.2.1 q.2.2.2.2.2.2.2) (fun t x => (((b + 1 : Nat) : Int), (n : Int), (m : Int), (i : Int), (j : Int), pm (cc dB b i) (gL (cc dB b) n m (n - (i + 1))) j (m - j) t, ((j + t : Nat) : Int), x)) (fun x => (((b + 1 : Nat) : Int), (n : Int), (m : Int), (i : Int), (j : Int), pm (cc dB b i) (gL (cc dB b) n m (n - (i + 1))) j (m - j) (m - j), x))
    (fun _ x => ∀ k, k ≠ 4 → k ≠ 5 → k ≠ 6 → x k = d k) (m - j)
    (by
      intro t x ht f1
      obtain ⟨x', g1, g2⟩ := paired_e hB (hd.s456 f1) b n m i j (j + t) hb hn hm hi (by omega) (by omega) (by rw [f1 58 (by decide) (by decide) (by decide)]; exact h1 (j + t + 1) (by omega))
      refine ⟨x', ?_, fun k h1 h2 h3 => by rw [g2 k h1 h2 h3]; exact f1 k h1 h2 h3⟩
      dsimp only
      unfold L_Mo_pairing_y83
      rw [if_pos (by omega), g1, bd_e, jmin_e, lt_e, w32_i (show j + t < 2147483647 by omega)]
      simp only [pm]
      rw [show m - j - t - 1 = m - (j + t + 1) by omega, show (((j + t : Nat) : Int) - (j : Int)) = (t : Int) by omega]
      rfl)
    (by
      intro x f1
      dsimp only
      unfold L_Mo_pairing_y83
      rw [if_neg (by omega)]) (by omega) d (fun _ _ _ _ => rfl)
  refine ⟨d', ?_, e2⟩
  rw [hfin] at e1
  unfold L_Mo_pairing_l83
  exact e1
theorem pairing_st {dA dB x : Dt} (hB : RB dA dB) (hx : Core dB x) (b n m i j : Nat) (hb : b < 2) (hn : dB 52 0 = (n : Int)) (hm : dB 52 (b + 1) = (m : Int)) (hi : i ≤ n) (hj : j ≤ m) (h1 : ∀ j', j' ≤ m → i < n → x 58 ((i + 1) * 31 + j') = gL (cc dB b) n m (n - (i + 1)) (m - j')) : ∃ x', L_Mo_pairing_y25 ((b + 1 : Nat) : Int) (n : Int) (m : Int) (i : Int) (j : Int) x = some (Sum.inl (((b + 1 : Nat) : Int), (n : Int), (m : Int), (i : Int), (j : Int) - 1, x')) ∧ (∀ k, k ≠ 4 → k ≠ 5 → k ≠ 6 → k ≠ 58 → x' k = x k) ∧ Core dB x' ∧ (∀ q, q ≠ i * 31 + j → x' 58 q = x 58 q) ∧ x' 58 (i * 31 + j) = gL (cc dB b) n m (n - i) (m - j) := by
  have z0 := hB.1 0 (by decide)
  have z1 := hB.1 (b + 1) (by omega)
  unfold L_Mo_pairing_y25 L_Mo_pairing_b128
  rw [if_neg (by omega)]
  by_cases q : i < n
  · obtain ⟨x', g1, g2⟩ := pairing_in hB hx b n m i j hb hn hm q hj (fun j' h => h1 j' h q)
    have b1 := gL_b (cc dB b) n m (fun i j => (cc_b dB b i j).1) (n - (i + 1)) (m - j)
    refine ⟨up2 x' 58 (i * 31 + j) (gL (cc dB b) n m (n - i) (m - j)), ?_, ?_, (hx.s456 g2).s58 58 _ _ (by decide) (by decide), ?_, up2_s _ _ _ _⟩
    · rw [if_neg (by omega), w32_i (show i < 2147483647 by omega), ix31B (i + 1) j (by omega) (by omega), ck_pos ⟨by omega, by omega⟩, tn_i, h1 j hj q, w32_s (x := 10 + gL (cc dB b) n m (n - (i + 1)) (m - j)) (by omega) (by omega), lt_e, g1, lb_e, u6_q, ix31B i j (by omega) (by omega), ck_pos ⟨by omega, by omega⟩, tn_i, dn1 j (by omega)]
    · intro k h1 h2 h3 h4; rw [up2_K _ _ _ h4]; exact g2 k h1 h2 h3
    · intro q hq; rw [up2_j _ _ _ hq, g2 58 (by decide) (by decide) (by decide)]
  · refine ⟨up2 x 58 (i * 31 + j) (gL (cc dB b) n m (n - i) (m - j)), ?_, ?_, hx.s58 58 _ _ (by decide) (by decide), ?_, up2_s _ _ _ _⟩
    · rw [if_pos (by omega), ix31B i j (by omega) (by omega), ck_pos ⟨by omega, by omega⟩, tn_i, mul10 m j (by omega) (by omega), dn1 j (by omega), show n - i = 0 by omega, gL_z, show ((m - j : Nat) : Int) = (m : Int) - (j : Int) by omega]
    · intro k h1 h2 h3 h4; rw [up2_K _ _ _ h4]
    · intro q hq; rw [up2_j _ _ _ hq]
theorem pairing_row {dA dB d : Dt} (hB : RB dA dB) (hd : Core dB d) (b n m i : Nat) (hb : b < 2) (hn : dB 52 0 = (n : Int)) (hm : dB 52 (b + 1) = (m : Int)) (hi : i ≤ n) (h1 : ∀ i' j', i < i' → i' ≤ n → j' ≤ m → d 58 (i' * 31 + j') = gL (cc dB b) n m (n - i') (m - j')) :
    ∃ d', L_Mo_pairing_l25 ((b + 1 : Nat) : Int) (n : Int) (m : Int) (i : Int) (m : Int) d = some (((b + 1 : Nat) : Int), (n : Int), (m : Int), (i : Int), d') ∧ (∀ k, k ≠ 4 → k ≠ 5 → k ≠ 6 → k ≠ 58 → d' k = d k) ∧ Core dB d' ∧ ∀ i' j', i ≤ i' → i' ≤ n → j' ≤ m → d' 58 (i' * 31 + j') = gL (cc dB b) n m (n - i') (m - j') := by
  have z0 := hB.1 0 (by decide)
  have z1 := hB.1 (b + 1) (by omega)
  obtain ⟨d', e1, e2, e3, e4, e5⟩ := lp_inv (f := fun q : Int × Int × Int × Int × Int × Dt => L_Mo_pairing_y25 q.1 q.2.1 q.2.2.1 q.2.2.2.1 q.2.2.2.2.1 q.2.2.2.2.2) (fun t x => (((b + 1 : Nat) : Int), (n : Int), (m : Int), (i : Int), (m : Int) - (t : Int), x)) (fun x => (((b + 1 : Nat) : Int), (n : Int), (m : Int), (i : Int), x))
    (fun t x => (∀ k, k ≠ 4 → k ≠ 5 → k ≠ 6 → k ≠ 58 → x k = d k) ∧ Core dB x ∧ (∀ i' j', i < i' → i' ≤ n → j' ≤ m → x 58 (i' * 31 + j') = gL (cc dB b) n m (n - i') (m - j')) ∧ ∀ j', m < j' + t → j' ≤ m → x 58 (i * 31 + j') = gL (cc dB b) n m (n - i) (m - j')) (m + 1)
    (by
      rintro t x ht ⟨f1, f0, f2, f3⟩
      obtain ⟨x', g1, g2, g3, g4, g5⟩ := pairing_st hB f0 b n m i (m - t) hb hn hm hi (by omega) (fun j' hj' hin => f2 (i + 1) j' (by omega) (by omega) hj')
      refine ⟨x', ?_, ?_, g3, ?_, ?_⟩
      · dsimp only
        rw [show (m : Int) - (t : Int) = ((m - t : Nat) : Int) by omega, g1, show ((m - t : Nat) : Int) - 1 = (m : Int) - ((t + 1 : Nat) : Int) by omega]
      · intro k h1 h2 h3 h4; rw [g2 k h1 h2 h3 h4]; exact f1 k h1 h2 h3 h4
      · intro i' j' h1 h2 h3; rw [g4 _ (by omega)]; exact f2 i' j' h1 h2 h3
      · intro j' h1 h2
        by_cases q : j' = m - t
        · subst q; exact g5
        · rw [g4 _ (by omega)]; exact f3 j' (by omega) h2)
    (by
      rintro x _
      dsimp only
      unfold L_Mo_pairing_y25
      rw [if_pos (by omega)]) (by omega) d ⟨fun _ _ _ _ _ => rfl, hd, h1, fun j' h1 h2 => by omega⟩
  refine ⟨d', ?_, e2, e3, ?_⟩
  · unfold L_Mo_pairing_l25
    rw [show (m : Int) - ((0 : Nat) : Int) = (m : Int) by omega] at e1
    exact e1
  · intro i' j' h1 h2 h3
    by_cases q : i' = i
    · subst q; exact e5 j' (by omega) h3
    · exact e4 i' j' (by omega) h2 h3
theorem pairing_e {dA dB d : Dt} (hB : RB dA dB) (hd : Core dB d) (b n m : Nat) (hb : b < 2) (hn : dB 52 0 = (n : Int)) (hm : dB 52 (b + 1) = (m : Int)) : ∃ d', L_Mo_pairing ((b + 1 : Nat) : Int) d = some (gL (cc dB b) n m n m, d') ∧ (∀ k, k ≠ 4 → k ≠ 5 → k ≠ 6 → k ≠ 58 → d' k = d k) ∧ Core dB d' ∧ ∀ i' j', i' ≤ n → j' ≤ m → d' 58 (i' * 31 + j') = gL (cc dB b) n m (n - i') (m - j') := by
  obtain ⟨z0, z1, z2⟩ := hB.1 0 (by decide)
  obtain ⟨y0, y1, y2⟩ := hB.1 (b + 1) (by omega)
  obtain ⟨d', e1, e2, e3, e4⟩ := lp_inv (f := fun q : Int × Int × Int × Int × Dt => L_Mo_pairing_y17 q.1 q.2.1 q.2.2.1 q.2.2.2.1 q.2.2.2.2) (fun t x => (((b + 1 : Nat) : Int), (n : Int), (m : Int), (n : Int) - (t : Int), x)) (fun x => x)
    (fun t x => (∀ k, k ≠ 4 → k ≠ 5 → k ≠ 6 → k ≠ 58 → x k = d k) ∧ Core dB x ∧ ∀ i' j', n < i' + t → i' ≤ n → j' ≤ m → x 58 (i' * 31 + j') = gL (cc dB b) n m (n - i') (m - j')) (n + 1)
    (by
      rintro t x ht ⟨f1, f0, f2⟩
      obtain ⟨x', g1, g2, g3, g4⟩ := pairing_row hB f0 b n m (n - t) hb hn hm (by omega) (fun i' j' h1 h2 h3 => f2 i' j' (by omega) h2 h3)
      refine ⟨x', ?_, ?_, g3, ?_⟩
      · dsimp only
        unfold L_Mo_pairing_y17
        rw [if_neg (by omega), show (n : Int) - (t : Int) = ((n - t : Nat) : Int) by omega, g1, lb_e, u4_q, dn1 (n - t) (by omega), show ((n - t : Nat) : Int) - 1 = (n : Int) - ((t + 1 : Nat) : Int) by omega]
      · intro k h1 h2 h3 h4; rw [g2 k h1 h2 h3 h4]; exact f1 k h1 h2 h3 h4
      · intro i' j' h1 h2 h3; exact g4 i' j' (by omega) h2 h3)
    (by
      rintro x _
      dsimp only
      unfold L_Mo_pairing_y17
      rw [if_pos (by omega)]) (by omega) d ⟨fun _ _ _ _ _ => rfl, hd, fun i' j' h1 h2 h3 => by omega⟩
  refine ⟨d', ?_, e2, e3, fun i' j' h1 h2 => e4 i' j' (by omega) h1 h2⟩
  unfold L_Mo_pairing L_Mo_pairing_l17
  rw [tn_i, hd.1 52 (by decide) (by decide), hn, hm, lt_e, ck_pos ⟨by omega, by omega⟩, lt_e]
  rw [show (n : Int) - ((0 : Nat) : Int) = (n : Int) by omega] at e1
  rw [e1, lb_e, u0_q]
  have := e4 0 0 (by omega) (by omega) (by omega)
  rw [Nat.zero_mul, Nat.zero_add, Nat.sub_zero, Nat.sub_zero] at this
  rw [this]
theorem joinAll_in {dA dB d : Dt} (hB : RB dA dB) (hd : Core dB d) (b n m i fr : Nat) (hb : b < 2) (hn : dB 52 0 = (n : Int)) (hm : dB 52 (b + 1) = (m : Int)) (hi : i < n) (hfr : fr ≤ m) (hL : ∀ i' j', i' ≤ n → j' ≤ m → d 58 (i' * 31 + j') = gL (cc dB b) n m (n - i') (m - j')) : ∃ d', L_Mo_joinAll_l35 ((b + 1 : Nat) : Int) (fr : Int) (i : Int) (-1) (fr : Int) d = some (((b + 1 : Nat) : Int), (fr : Int), (i : Int), sf (mP (cc dB b) n m i fr) fr (m - fr), d') ∧ ∀ k, k ≠ 4 → k ≠ 5 → k ≠ 6 → d' k = d k := by
  obtain ⟨z0, z1, z2⟩ := hB.1 0 (by decide)
  obtain ⟨y0, y1, y2⟩ := hB.1 (b + 1) (by omega)
  obtain ⟨d', e2, e⟩ := lp_srch (f := fun q : Int × Int × Int × Int × Int × Dt => L_Mo_joinAll_y35 q.1 q.2.1 q.2.2.1 q.2.2.2.1 q.2.2.2.2.1 q.2.2.2.2.2) (fun v j x => (((b + 1 : Nat) : Int), (fr : Int), (i : Int), v, (j : Int), x)) (fun v x => (((b + 1 : Nat) : Int), (fr : Int), (i : Int), v, x)) (fun x => ∀ k, k ≠ 4 → k ≠ 5 → k ≠ 6 → x k = d k) (mP (cc dB b) n m i fr) fr m hfr
    (by
      intro j x hj1 hj2 f1
      have hx := hd.s456 f1
      obtain ⟨x', g1, g2⟩ := paired_e hB hx b n m i fr j hb hn hm hi hj1 hj2 (by rw [f1 58 (by decide) (by decide) (by decide)]; exact hL (i + 1) (j + 1) (by omega) (by omega))
      refine ⟨x', fun k h1 h2 h3 => by rw [g2 k h1 h2 h3]; exact f1 k h1 h2 h3, ?_⟩
      dsimp only
      unfold L_Mo_joinAll_y35 L_Mo_joinAll_b81
      rw [ck_pos ⟨by omega, by omega⟩, tn_i, hx.1 52 (by decide) (by decide), hm, if_pos (by omega), if_pos rfl, g1, bd_e, ix31B i fr (by omega) (by omega), ck_pos ⟨by omega, by omega⟩, tn_i, g2 58 (by decide) (by decide) (by decide), f1 58 (by decide) (by decide) (by decide), hL i fr (by omega) hfr, w32_i (show j < 2147483647 by omega)]
      unfold mP
      by_cases q : 10 * ((j : Int) - (fr : Int)) + cc dB b i j + gL (cc dB b) n m (n - (i + 1)) (m - (j + 1)) = gL (cc dB b) n m (n - i) (m - fr)
      · rw [if_pos q, if_pos (decide_eq_true q)]
      · rw [if_neg q, if_neg (by rw [decide_eq_true_eq]; exact q)])
    (by
      intro x f1
      dsimp only
      unfold L_Mo_joinAll_y35
      rw [ck_pos ⟨by omega, by omega⟩, tn_i, (hd.s456 f1).1 52 (by decide) (by decide), hm, if_neg (by omega)])
    (by
      intro j x hj1 hj2 f1
      dsimp only
      unfold L_Mo_joinAll_y35
      rw [ck_pos ⟨by omega, by omega⟩, tn_i, (hd.s456 f1).1 52 (by decide) (by decide), hm]
      by_cases q : ((j + 1 : Nat) : Int) < (m : Int)
      · rw [if_pos q, if_neg (by omega)]
      · rw [if_neg q]) (by omega) d (fun _ _ _ _ => rfl)
  exact ⟨d', e, e2⟩
theorem slotM (b i : Nat) (hb : b < 2) (hi : i < 31) : w32 (w32 (30 * w32 (((b + 1 : Nat) : Int) - 1)) + (i : Int)) = ((30 * b + i : Nat) : Int) := by
  rw [w32_p b (by omega), slotB b i (by omega) hi]
theorem joinAll_bk {dA dB d : Dt} (hB : RB dA dB) (hd : Core dB d) (b n m : Nat) (hb : b < 2) (hn : dB 52 0 = (n : Int)) (hm : dB 52 (b + 1) = (m : Int)) (hL : ∀ i' j', i' ≤ n → j' ≤ m → d 58 (i' * 31 + j') = gL (cc dB b) n m (n - i') (m - j')) : ∃ d', L_Mo_joinAll_l18 ((b + 1 : Nat) : Int) 0 0 d = some (((b + 1 : Nat) : Int), d') ∧ Core dB d' ∧ (∀ q, (∀ i, i < 30 → q ≠ 30 * b + i) → d' 56 q = d 56 q) ∧ ∀ i, i < n → d' 56 (30 * b + i) = mM (cc dB b) n m i := by
  obtain ⟨z0, z1, z2⟩ := hB.1 0 (by decide)
  obtain ⟨y0, y1, y2⟩ := hB.1 (b + 1) (by omega)
  obtain ⟨d', e1, e2, e3, e4, e5⟩ := lp_inv (f := fun q : Int × Int × Int × Dt => L_Mo_joinAll_y18 q.1 q.2.1 q.2.2.1 q.2.2.2) (fun i x => (((b + 1 : Nat) : Int), (mF (cc dB b) n m i : Int), (i : Int), x)) (fun x => (((b + 1 : Nat) : Int), x))
    (fun i x => Core dB x ∧ x 58 = d 58 ∧ (∀ q, (∀ i, i < 30 → q ≠ 30 * b + i) → x 56 q = d 56 q) ∧ ∀ i', i' < i → x 56 (30 * b + i') = mM (cc dB b) n m i') n
    (by
      rintro i x hi ⟨f0, f1, f2, f3⟩
      have hfr := mF_b (cc dB b) n m i
      obtain ⟨x', g1, g2⟩ := joinAll_in hB f0 b n m i (mF (cc dB b) n m i) hb hn hm hi hfr (by rw [f1]; exact hL)
      rw [show sf (mP (cc dB b) n m i (mF (cc dB b) n m i)) (mF (cc dB b) n m i) (m - mF (cc dB b) n m i) = mM (cc dB b) n m i from rfl] at g1
      have hmb := mM_b (cc dB b) n m i
      refine ⟨up2 x' 56 (30 * b + i) (mM (cc dB b) n m i), ?_, (f0.s456 g2).s58 56 _ _ (by decide) (by decide), ?_, ?_, ?_⟩
      · dsimp only
        unfold L_Mo_joinAll_y18 L_Mo_joinAll_b87 L_Mo_joinAll_b114
        rw [f0.1 52 (by decide) (by decide), hn, if_pos (by omega), g1, lb_e, u4_q, slotM b i hb (by omega), ck_pos ⟨by omega, by omega⟩, tn_i, w32_i (show i < 2147483647 by omega), mF_s]
        by_cases q : mM (cc dB b) n m i = -1
        · rw [if_pos q, if_pos q]
        · rw [if_neg q, if_neg q, w32_s (x := mM (cc dB b) n m i + 1) (by omega) (by omega), lt_e, show (((mM (cc dB b) n m i).toNat + 1 : Nat) : Int) = mM (cc dB b) n m i + 1 by omega]
      · rw [up2_K _ _ _ (by decide), g2 58 (by decide) (by decide) (by decide)]; exact f1
      · intro q hq; rw [up2_j _ _ _ (hq i (by omega)), g2 56 (by decide) (by decide) (by decide)]; exact f2 q hq
      · intro i' hi'
        by_cases q : i' = i
        · subst q; rw [up2_s]
        · rw [up2_j _ _ _ (by omega), g2 56 (by decide) (by decide) (by decide)]; exact f3 i' (by omega))
    (by
      rintro x ⟨f0, _⟩
      dsimp only
      unfold L_Mo_joinAll_y18
      rw [f0.1 52 (by decide) (by decide), hn, if_neg (by omega)]) (by omega) d ⟨hd, rfl, fun _ _ => rfl, fun i' h => by omega⟩
  exact ⟨d', e1, e2, e4, e5⟩
/-- the mate that the first table of costs gives an ENTRY in book b + 1 -/
def mtB (d : Dt) (b i : Nat) : Int := mM (cc d b) (d 52 0).toNat (d 52 (b + 1)).toNat i
theorem mtB_b {dA dB : Dt} (hB : RB dA dB) (b i : Nat) (hb : b < 2) : mtB dB b i = -1 ∨ (0 ≤ mtB dB b i ∧ mtB dB b i < dB 52 (b + 1)) := by
  have h := mM_b (cc dB b) (dB 52 0).toNat (dB 52 (b + 1)).toNat i
  have z := hB.1 (b + 1) (by omega)
  unfold mtB; omega
theorem joinAll_e {dA dB d : Dt} (hB : RB dA dB) (hd : Core dB d) : ∃ d', L_Mo_joinAll d = some (0, d') ∧ Core dB d' ∧ ∀ b i : Nat, b < 2 → (i : Int) < dB 52 0 → d' 56 (30 * b + i) = mtB dB b i := by
  obtain ⟨z0, z1, z2⟩ := hB.1 0 (by decide)
  obtain ⟨n, hn⟩ : ∃ n : Nat, dB 52 0 = (n : Int) := ⟨(dB 52 0).toNat, by omega⟩
  obtain ⟨d', e1, e2, e3⟩ := lp_inv (f := fun q : Int × Dt => L_Mo_joinAll_y2 q.1 q.2) (fun i x => (((i + 1 : Nat) : Int), x)) (fun x => x)
    (fun i x => Core dB x ∧ ∀ b i' : Nat, b < i → (i' : Int) < dB 52 0 → x 56 (30 * b + i') = mtB dB b i') 2
    (by
      rintro b x hb ⟨f0, f1⟩
      obtain ⟨y0, y1, y2⟩ := hB.1 (b + 1) (by omega)
      obtain ⟨m, hm⟩ : ∃ m : Nat, dB 52 (b + 1) = (m : Int) := ⟨(dB 52 (b + 1)).toNat, by omega⟩
      obtain ⟨x1, g1, g2, g3, g4⟩ := pairing_e hB f0 b n m hb hn hm
      obtain ⟨x2, k1, k2, k3, k4⟩ := joinAll_bk hB g3 b n m hb hn hm g4
      refine ⟨x2, ?_, k2, ?_⟩
      · dsimp only
        unfold L_Mo_joinAll_y2
        rw [if_neg (by omega), g1, bd_e, k1, lb_e, u1_q, w32_i (show b + 1 < 2147483647 by omega)]
      · intro b' i' h1 h2
        by_cases q : b' = b
        · subst q
          rw [k4 i' (by omega)]
          unfold mtB; rw [hn, hm, tn_i, tn_i]
        · rw [k3 _ (fun i3 h3 => by omega), g2 56 (by decide) (by decide) (by decide) (by decide)]
          exact f1 b' i' (by omega) h2)
    (by
      rintro x _
      dsimp only
      unfold L_Mo_joinAll_y2
      rw [if_pos (by omega)]) (by omega) d ⟨hd, fun b i' h => by omega⟩
  refine ⟨d', ?_, e2, e3⟩
  unfold L_Mo_joinAll L_Mo_joinAll_l2
  rw [show lpF (fun q : Int × Dt => L_Mo_joinAll_y2 q.1 q.2) FU (1, d) = _ from e1, lb_e, u0_q]
