/-! JOIN: the class's table -/
def cc (d : Dt) (b : Nat) (i j : Nat) : Int := costB d i (30 * (b + 1) + j)
theorem cc_b (d : Dt) (b i j : Nat) : 0 ≤ cc d b i j ∧ cc d b i j ≤ 59 := costV_b _ _ _ _ _ _ _ _
theorem ix31 (i j : Nat) (hi : i ≤ 31) (hj : j ≤ 31) : w32 (w32 ((i : Int) * 31) + (j : Int)) = ((i * 31 + j : Nat) : Int) := by
  rw [w32_s (x := (i : Int) * 31) (by omega) (by omega), w32_s (by omega) (by omega)]; omega
theorem ix31s (i j : Nat) (hi : i ≤ 31) (hj : j ≤ 31) : w32 (w32 (w32 ((i : Int) * 31) + (j : Int)) + 1) = ((i * 31 + (j + 1) : Nat) : Int) := by
  rw [ix31 i j hi hj, w32_s (by omega) (by omega)]; omega
theorem ixc (b i j : Nat) (hb : b < 2) (hi : i < 30) (hj : j < 30) : w32 (w32 (w32 (w32 (w32 (((b + 1 : Nat) : Int) - 1) * 30) + (i : Int)) * 30) + (j : Int)) = (((b * 30 + i) * 30 + j : Nat) : Int) := by
  rw [w32_s (x := ((b + 1 : Nat) : Int) - 1) (by omega) (by omega), w32_s (x := (((b + 1 : Nat) : Int) - 1) * 30) (by omega) (by omega), w32_s (x := (((b + 1 : Nat) : Int) - 1) * 30 + (i : Int)) (by omega) (by omega), w32_s (x := ((((b + 1 : Nat) : Int) - 1) * 30 + (i : Int)) * 30) (by omega) (by omega), w32_s (by omega) (by omega)]
  omega
theorem dn1 (j : Nat) (h : j < 2147483647) : w32 ((j : Int) + -1) = (j : Int) - 1 := by rw [w32_s (by omega) (by omega)]; omega
theorem edge10 (n m i j : Nat) (hn : n ≤ 30) (hm : m ≤ 30) (hi : i ≤ n) (hj : j ≤ m) : w32 (10 * w32 (w32 (w32 ((n : Int) - (i : Int)) + (m : Int)) - (j : Int))) = 10 * (((n - i : Nat) : Int) + ((m - j : Nat) : Int)) := by
  rw [w32_s (x := (n : Int) - (i : Int)) (by omega) (by omega), w32_s (x := (n : Int) - (i : Int) + (m : Int)) (by omega) (by omega), w32_s (x := (n : Int) - (i : Int) + (m : Int) - (j : Int)) (by omega) (by omega), w32_s (by omega) (by omega)]
  omega
theorem weigh_st (dB x : Dt) (b n m i j : Nat) (hb : b < 2) (hn : n ≤ 30) (hm : m ≤ 30) (hi : i ≤ n) (hj : j ≤ m)
    (hc : ∀ i j : Nat, i < n → j < m → x 43 ((b * 30 + i) * 30 + j) = cc dB b i j)
    (h1 : ∀ j', j' ≤ m → i < n → x 44 ((i + 1) * 31 + j') = gL (cc dB b) n m (n - (i + 1)) (m - j'))
    (h2 : ∀ j', j < j' → j' ≤ m → x 44 (i * 31 + j') = gL (cc dB b) n m (n - i) (m - j')) :
    L_Bo_weigh_y25 ((b + 1 : Nat) : Int) (n : Int) (m : Int) (i : Int) (j : Int) x = some (Sum.inl (((b + 1 : Nat) : Int), (n : Int), (m : Int), (i : Int), (j : Int) - 1, up2 x 44 (i * 31 + j) (gL (cc dB b) n m (n - i) (m - j)))) := by
  have fin : ∀ v : Int, L_Bo_weigh_b136 ((b + 1 : Nat) : Int) (n : Int) (m : Int) (i : Int) (j : Int) v x = some (Sum.inl (((b + 1 : Nat) : Int), (n : Int), (m : Int), (i : Int), (j : Int) - 1, up2 x 44 (i * 31 + j) v)) := by
    intro v
    unfold L_Bo_weigh_b136
    rw [ix31 i j (by omega) (by omega), ck_pos ⟨by omega, by omega⟩, tn_i, dn1 j (by omega)]
  unfold L_Bo_weigh_y25
  rw [if_neg (by omega), edge10 n m i j hn hm hi hj, lt_e]
  by_cases q1 : i < n
  · rw [if_pos (by omega)]
    by_cases q2 : j < m
    · rw [if_pos (by omega), w32_i (show i < 2147483647 by omega), ix31s i j (by omega) (by omega), ix31s (i + 1) j (by omega) (by omega), ix31 (i + 1) j (by omega) (by omega), tn_i, tn_i, tn_i]
      unfold L_Bo_costPlace
      have c0 := cc_b dB b i j
      have b1 := gL_b (cc dB b) n m (fun i j => (cc_b dB b i j).1) (n - (i + 1)) (m - j)
      have b2 := gL_b (cc dB b) n m (fun i j => (cc_b dB b i j).1) (n - (i + 1)) (m - (j + 1))
      have b3 := gL_b (cc dB b) n m (fun i j => (cc_b dB b i j).1) (n - i) (m - (j + 1))
      rw [ck_pos ⟨by omega, by omega⟩, ck_pos ⟨by omega, by omega⟩, h1 j hj q1, h2 (j + 1) (by omega) (by omega), lt_e, ixc b i j hb (by omega) (by omega), bd_e, tn_i, hc i j q1 q2, h1 (j + 1) (by omega) q1, ck_pos ⟨by omega, by omega⟩, ck_pos ⟨by omega, by omega⟩, lt_e, lt_e, jmin_e, jmin_e]
      rw [w32_s (x := 10 + min (gL (cc dB b) n m (n - (i + 1)) (m - j)) (gL (cc dB b) n m (n - i) (m - (j + 1)))) (by omega) (by omega), w32_s (x := cc dB b i j + gL (cc dB b) n m (n - (i + 1)) (m - (j + 1))) (by omega) (by omega), fin]
      have e := gL_s (cc dB b) n m (n - (i + 1)) (m - (j + 1))
      rw [show n - (i + 1) + 1 = n - i by omega, show m - (j + 1) + 1 = m - j by omega, show n - (n - i) = i by omega, show m - (m - j) = j by omega] at e
      rw [e]
    · rw [if_neg (by omega), fin]
      rw [show m - j = 0 by omega, gL_0, Int.natCast_zero, Int.add_zero]
  · rw [if_neg (by omega), fin]
    rw [show n - i = 0 by omega, gL_z, Int.natCast_zero, Int.zero_add]
theorem weigh_in (dB d : Dt) (b n m i : Nat) (hb : b < 2) (hn : n ≤ 30) (hm : m ≤ 30) (hi : i ≤ n)
    (hc : ∀ i j : Nat, i < n → j < m → d 43 ((b * 30 + i) * 30 + j) = cc dB b i j)
    (h1 : ∀ i' j', i < i' → i' ≤ n → j' ≤ m → d 44 (i' * 31 + j') = gL (cc dB b) n m (n - i') (m - j')) :
    ∃ d', L_Bo_weigh_l25 ((b + 1 : Nat) : Int) (n : Int) (m : Int) (i : Int) (m : Int) d = some (((b + 1 : Nat) : Int), (n : Int), (m : Int), (i : Int), d') ∧ (∀ k, k ≠ 44 → d' k = d k) ∧ ∀ i' j', i ≤ i' → i' ≤ n → j' ≤ m → d' 44 (i' * 31 + j') = gL (cc dB b) n m (n - i') (m - j') := by
  obtain ⟨d', e1, e2, e3, e4⟩ := lp_inv (f := fun q : Int × Int × Int × Int × Int × Dt => L_Bo_weigh_y25 q.1 q.2.1 q.2.2.1 q.2.2.2.1 q.2.2.2.2.1 q.2.2.2.2.2) (fun t x => (((b + 1 : Nat) : Int), (n : Int), (m : Int), (i : Int), (m : Int) - (t : Int), x)) (fun x => (((b + 1 : Nat) : Int), (n : Int), (m : Int), (i : Int), x))
    (fun t x => (∀ k, k ≠ 44 → x k = d k) ∧ (∀ i' j', i < i' → i' ≤ n → j' ≤ m → x 44 (i' * 31 + j') = gL (cc dB b) n m (n - i') (m - j')) ∧ ∀ j', m < j' + t → j' ≤ m → x 44 (i * 31 + j') = gL (cc dB b) n m (n - i) (m - j')) (m + 1)
    (by
      rintro t x ht ⟨f1, f2, f3⟩
      have hst := weigh_st dB x b n m i (m - t) hb hn hm hi (by omega) (fun i j hi hj => by rw [f1 43 (by decide)]; exact hc i j hi hj) (fun j' hj' hin => f2 (i + 1) j' (by omega) (by omega) hj') (fun j' h1 h2 => f3 j' (by omega) h2)
      refine ⟨up2 x 44 (i * 31 + (m - t)) (gL (cc dB b) n m (n - i) (m - (m - t))), ?_, ?_, ?_, ?_⟩
      · dsimp only
        rw [show (m : Int) - (t : Int) = ((m - t : Nat) : Int) by omega, hst, show ((m - t : Nat) : Int) - 1 = (m : Int) - ((t + 1 : Nat) : Int) by omega]
      · intro k hk; rw [up2_K _ _ _ hk]; exact f1 k hk
      · intro i' j' h1 h2 h3; rw [up2_j _ _ _ (by omega)]; exact f2 i' j' h1 h2 h3
      · intro j' h1 h2
        by_cases q : j' = m - t
        · subst q; rw [up2_s]
        · rw [up2_j _ _ _ (by omega)]; exact f3 j' (by omega) h2)
    (by
      rintro x _
      dsimp only
      unfold L_Bo_weigh_y25
      rw [if_pos (by omega)]) (by omega) d ⟨fun _ _ => rfl, h1, fun j' h1 h2 => by omega⟩
  refine ⟨d', ?_, e2, ?_⟩
  · unfold L_Bo_weigh_l25
    rw [show (m : Int) - ((0 : Nat) : Int) = (m : Int) by omega] at e1
    exact e1
  · intro i' j' h1 h2 h3
    by_cases q : i' = i
    · subst q; exact e4 j' (by omega) h3
    · exact e3 i' j' (by omega) h2 h3
theorem weigh_e {d dB : Dt} (hB : RB d dB) (hC : RC d dB) (b n m : Nat) (hb : b < 2) (hn : dB 52 0 = (n : Int)) (hm : dB 52 (b + 1) = (m : Int)) : ∃ d', L_Bo_weigh ((b + 1 : Nat) : Int) d = some (0, d') ∧ (∀ k, k ≠ 44 → k ≠ 45 → d' k = d k) ∧ (∀ j, j ≠ b + 1 → d' 45 j = d 45 j) ∧ d' 45 (b + 1) = gL (cc dB b) n m n m ∧ ∀ i' j', i' ≤ n → j' ≤ m → d' 44 (i' * 31 + j') = gL (cc dB b) n m (n - i') (m - j') := by
  obtain ⟨z0, z1, z2⟩ := hB.1 0 (by decide)
  obtain ⟨y0, y1, y2⟩ := hB.1 (b + 1) (by omega)
  obtain ⟨d', e1, e2, e3⟩ := lp_inv (f := fun q : Int × Int × Int × Int × Dt => L_Bo_weigh_y17 q.1 q.2.1 q.2.2.1 q.2.2.2.1 q.2.2.2.2) (fun t x => (((b + 1 : Nat) : Int), (n : Int), (m : Int), (n : Int) - (t : Int), x)) (fun x => (((b + 1 : Nat) : Int), x))
    (fun t x => (∀ k, k ≠ 44 → x k = d k) ∧ ∀ i' j', n < i' + t → i' ≤ n → j' ≤ m → x 44 (i' * 31 + j') = gL (cc dB b) n m (n - i') (m - j')) (n + 1)
    (by
      rintro t x ht ⟨f1, f2⟩
      obtain ⟨x', g1, g2, g3⟩ := weigh_in dB x b n m (n - t) hb (by omega) (by omega) (by omega) (fun i j hi hj => by rw [f1 43 (by decide)]; exact hC b i j hb (by omega) (by omega)) (fun i' j' h1 h2 h3 => f2 i' j' (by omega) h2 h3)
      refine ⟨x', ?_, ?_, ?_⟩
      · dsimp only
        unfold L_Bo_weigh_y17
        rw [if_neg (by omega), show (n : Int) - (t : Int) = ((n - t : Nat) : Int) by omega, g1, lb_e, u4_q, dn1 (n - t) (by omega), show ((n - t : Nat) : Int) - 1 = (n : Int) - ((t + 1 : Nat) : Int) by omega]
      · intro k hk; rw [g2 k hk]; exact f1 k hk
      · intro i' j' h1 h2 h3; exact g3 i' j' (by omega) h2 h3)
    (by
      rintro x _
      dsimp only
      unfold L_Bo_weigh_y17
      rw [if_pos (by omega)]) (by omega) d ⟨fun _ _ => rfl, fun i' j' h1 h2 h3 => by omega⟩
  refine ⟨up2 d' 45 (b + 1) (d' 44 0), ?_, ?_, ?_, ?_, ?_⟩
  · unfold L_Bo_weigh L_Bo_weigh_l17
    rw [tn_i, z0, y0, hn, hm, lt_e, ck_pos ⟨by omega, by omega⟩, lt_e]
    rw [show (n : Int) - ((0 : Nat) : Int) = (n : Int) by omega] at e1
    rw [e1, lb_e, u1_q, ck_pos ⟨by omega, by omega⟩, tn_i]
  · intro k h1 h2; rw [up2_K _ _ _ h2]; exact e2 k h1
  · intro j hj; rw [up2_j _ _ _ hj, e2 45 (by decide)]
  · rw [up2_s]
    have := e3 0 0 (by omega) (by omega) (by omega)
    rw [Nat.zero_mul, Nat.zero_add, Nat.sub_zero, Nat.sub_zero] at this
    exact this
  · intro i' j' h1 h2; rw [up2_K _ _ _ (by decide)]; exact e3 i' j' (by omega) h1 h2
