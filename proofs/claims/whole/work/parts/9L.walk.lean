/-! COACHES: the reference walks -/
theorem walk_k {y : Dt} {home : Nat} {mi : Nat → Int} (hh : home < 7) (hmi : ∀ q, q < 49 → 0 ≤ mi q ∧ mi q ≤ 1000) (s l : Nat) (z : Int) (hz : 0 ≤ z ∧ z ≤ 100000000) (hs : s < 128) (hl : l < 7) (hbit : s.testBit l = true) (h75 : y 75 = mi) (hy : y 77 (s * 7 + l) = z) (hold : ∀ k, k < 7 → 0 ≤ y 77 (dif s (2 ^ l) * 7 + k) ∧ y 77 (dif s (2 ^ l) * 7 + k) ≤ 100000000) : ∃ y', L_Mo_walk_l95 (home : Int) (s : Int) (l : Int) (dif s (2 ^ l) : Int) 0 y = some ((home : Int), (s : Int), (l : Int), y') ∧ (∀ k, k ≠ 77 → y' k = y k) ∧ (∀ q, q ≠ s * 7 + l → y' 77 q = y 77 q) ∧ y' 77 (s * 7 + l) = fm (fun k => (dif s (2 ^ l)).testBit k && decide (y 77 (dif s (2 ^ l) * 7 + k) < 100000000)) (fun k => y 77 (dif s (2 ^ l) * 7 + k) + mi (k * 7 + l)) z 7 := by
  have hdl := dif_lt s l (by omega) hbit
  obtain ⟨B, hB⟩ : ∃ B, B = dif s (2 ^ l) := ⟨_, rfl⟩
  rw [← hB] at hdl hold ⊢
  obtain ⟨y', e1, e2, e3, e4⟩ := lp_inv (f := fun q : Int × Int × Int × Int × Int × Dt => L_Mo_walk_y95 q.1 q.2.1 q.2.2.1 q.2.2.2.1 q.2.2.2.2.1 q.2.2.2.2.2) (fun k x => ((home : Int), (s : Int), (l : Int), (B : Int), (k : Int), x)) (fun x => ((home : Int), (s : Int), (l : Int), x))
    (fun k x => (∀ k, k ≠ 77 → x k = y k) ∧ (∀ q, q ≠ s * 7 + l → x 77 q = y 77 q) ∧ x 77 (s * 7 + l) = fm (fun k => B.testBit k && decide (y 77 (B * 7 + k) < 100000000)) (fun k => y 77 (B * 7 + k) + mi (k * 7 + l)) z k) 7
    (by
      rintro k x hk ⟨f1, f2, f3⟩
      have ho := hold k hk
      have hm := hmi (k * 7 + l) (by omega)
      dsimp only
      unfold L_Mo_walk_y95 L_Mo_walk_b183
      rw [if_pos (by omega), ibit B k (by omega) (by omega), w32_i (show k < 2147483647 by omega), ix7B B k (by omega) hk, ix7B s l hs hl, ix7B k l (by omega) hl]
      simp only [fm]
      by_cases q : B.testBit k = true
      · rw [if_pos q, if_pos rfl, ck_pos ⟨by omega, by omega⟩, tn_i, f2 _ (by omega)]
        by_cases q2 : y 77 (B * 7 + k) < 100000000
        · rw [if_pos q2, ck_pos ⟨by omega, by omega⟩, ck_pos ⟨by omega, by omega⟩, ck_pos ⟨by omega, by omega⟩, ck_pos ⟨by omega, by omega⟩, tn_i, tn_i, f3, f1 75 (by decide), h75, w32_s (x := y 77 (B * 7 + k) + mi (k * 7 + l)) (by omega) (by omega), jmin_e, if_pos (show (B.testBit k && decide (y 77 (B * 7 + k) < 100000000)) = true by rw [q, decide_eq_true q2]; rfl)]
          refine ⟨_, rfl, ?_, ?_, up2_s _ _ _ _⟩
          · intro k hk; rw [up2_K _ _ _ hk]; exact f1 k hk
          · intro q hq; rw [up2_j _ _ _ hq]; exact f2 q hq
        · rw [if_neg q2, if_neg (show ¬ (B.testBit k && decide (y 77 (B * 7 + k) < 100000000)) = true by rw [decide_eq_false q2, Bool.and_false]; decide)]
          exact ⟨x, rfl, f1, f2, f3⟩
      · rw [if_neg q, if_neg (by decide), if_neg (show ¬ (B.testBit k && decide (y 77 (B * 7 + k) < 100000000)) = true by rw [Bool.and_eq_true]; exact fun z => q z.1)]
        exact ⟨x, rfl, f1, f2, f3⟩)
    (by
      rintro x _
      dsimp only
      unfold L_Mo_walk_y95
      rw [if_neg (by omega)]) (by omega) y ⟨fun _ _ => rfl, fun _ _ => rfl, hy⟩
  exact ⟨y', e1, e2, e3, e4⟩
theorem fin_l (home : Nat) (mi : Nat → Int) (hh : home < 7) (hmi : ∀ q, q < 49 → 0 ≤ mi q ∧ mi q ≤ 1000) (s l : Nat) (hs : s < 128) (hl : l < 7) (q : s.testBit l = true) (q2 : ¬ l = home) (x y y2 : Dt) (z : Int) (hz0 : 0 ≤ z) (hz1 : z ≤ 100000000) (hz : z = if dif s (2 ^ l) = 0 then mi (home * 7 + l) else 100000000) (hdl : dif s (2 ^ l) < s)
    (f1 : ∀ k, k ≠ 77 → k ≠ 78 → y k = x k) (f2 : ∀ q, q < s * 7 → y 77 q = x 77 q) (f3 : ∀ q, q ≠ s → y 78 q = x 78 q) (f4 : ∀ l', l' < l → tabW y home mi s l') (f5 : y 78 s = rdB y home mi s l)
    (m1 : ∀ k, k ≠ 77 → y2 k = y k) (m2 : ∀ r, r ≠ s * 7 + l → y2 77 r = y 77 r)
    (m3 : y2 77 (s * 7 + l) = fm (fun k => (dif s (2 ^ l)).testBit k && decide (y2 77 (dif s (2 ^ l) * 7 + k) < 100000000)) (fun k => y2 77 (dif s (2 ^ l) * 7 + k) + mi (k * 7 + l)) z 7) (hv : 0 ≤ y2 77 (s * 7 + l) ∧ y2 77 (s * 7 + l) ≤ 100000000) (v : Int) (hvv : y2 77 (s * 7 + l) = v) :
    ∃ y'', (some (Sum.inl ((home : Int), (s : Int), ((l + 1 : Nat) : Int), up2 y2 78 s (min (rdB y home mi s l) (v + mi (l * 7 + home))))) : Option ((Int × Int × Int × Dt) ⊕ ((Int × Int × Dt)))) = some (Sum.inl ((home : Int), (s : Int), ((l + 1 : Nat) : Int), y'')) ∧ (∀ k, k ≠ 77 → k ≠ 78 → y'' k = x k) ∧ (∀ q, q < s * 7 → y'' 77 q = x 77 q) ∧ (∀ q, q ≠ s → y'' 78 q = x 78 q) ∧ (∀ l', l' < l + 1 → tabW y'' home mi s l') ∧ y'' 78 s = rdB y'' home mi s (l + 1) := by
  refine ⟨_, rfl, ?_, ?_, ?_, ?_, ?_⟩
  · intro k h1 h2; rw [up2_K _ _ _ h2, m1 k h1]; exact f1 k h1 h2
  · intro r hr; rw [up2_K _ _ _ (by decide), m2 r (by omega)]; exact f2 r hr
  · intro r hr; rw [up2_j _ _ _ hr, m1 78 (by decide)]; exact f3 r hr
  · intro l' hl'
    by_cases e : l' = l
    · subst e
      refine ⟨?_, ?_⟩
      · unfold EqW
        rw [if_pos ⟨q, q2⟩, up2_K _ _ _ (by decide), m3, hz]
      · rw [up2_K _ _ _ (by decide)]; exact hv
    · obtain ⟨t1, t2⟩ := f4 l' (by omega)
      refine ⟨t1.cg (by rw [up2_K _ _ _ (by decide), m2 _ (by omega)]) (fun hb k hk => by rw [up2_K _ _ _ (by decide), m2 _ (by have := dif_lt s l' (by omega) hb; omega)]), ?_⟩
      rw [up2_K _ _ _ (by decide), m2 _ (by omega)]; exact t2
  · rw [up2_s]
    unfold rdB
    simp only [fm]
    rw [if_pos (by rw [Bool.and_eq_true, decide_eq_true_eq]; exact ⟨q, q2⟩), up2_K _ _ _ (by decide), hvv]
    congr 1
    exact fm_cg _ _ _ _ _ l (fun k hk => ⟨rfl, fun _ => by rw [m2 _ (by omega)]⟩)
theorem walk_l {x : Dt} {home : Nat} {mi : Nat → Int} (hh : home < 7) (hmi : ∀ q, q < 49 → 0 ≤ mi q ∧ mi q ≤ 1000) (s : Nat) (h1s : 1 ≤ s) (hs : s < 128) (h75 : x 75 = mi) (hold : ∀ s' l, 1 ≤ s' → s' < s → l < 7 → tabW x home mi s' l) : ∃ x', L_Mo_walk_l20 (home : Int) (s : Int) 0 (up2 x 78 s 100000000) = some ((home : Int), (s : Int), x') ∧ (∀ k, k ≠ 77 → k ≠ 78 → x' k = x k) ∧ (∀ q, q < s * 7 → x' 77 q = x 77 q) ∧ (∀ q, q ≠ s → x' 78 q = x 78 q) ∧ (∀ l, l < 7 → tabW x' home mi s l) ∧ x' 78 s = rdB x' home mi s 7 := by
  obtain ⟨x', e1, e2, e3, e4, e5, e6⟩ := lp_inv (f := fun q : Int × Int × Int × Dt => L_Mo_walk_y20 q.1 q.2.1 q.2.2.1 q.2.2.2) (fun l y => ((home : Int), (s : Int), (l : Int), y)) (fun y => ((home : Int), (s : Int), y))
    (fun l y => (∀ k, k ≠ 77 → k ≠ 78 → y k = x k) ∧ (∀ q, q < s * 7 → y 77 q = x 77 q) ∧ (∀ q, q ≠ s → y 78 q = x 78 q) ∧ (∀ l', l' < l → tabW y home mi s l') ∧ y 78 s = rdB y home mi s l) 7
    (by
      rintro l y hl ⟨f1, f2, f3, f4, f5⟩
      have y75 : y 75 = mi := by rw [f1 75 (by decide) (by decide)]; exact h75
      have hdle : s.testBit l = true → dif s (2 ^ l) < s := dif_lt s l (by omega)
      -- nothing to do here
      have dull : ∀ y', (∀ k, k ≠ 77 → y' k = y k) → (∀ q, q ≠ s * 7 + l → y' 77 q = y 77 q) → y' 77 (s * 7 + l) = 100000000 → ¬ (s.testBit l = true ∧ l ≠ home) → ∃ y'', L_Mo_walk_b227 (home : Int) (s : Int) (l : Int) y' = some (Sum.inl ((home : Int), (s : Int), ((l + 1 : Nat) : Int), y'')) ∧ (∀ k, k ≠ 77 → k ≠ 78 → y'' k = x k) ∧ (∀ q, q < s * 7 → y'' 77 q = x 77 q) ∧ (∀ q, q ≠ s → y'' 78 q = x 78 q) ∧ (∀ l', l' < l + 1 → tabW y'' home mi s l') ∧ y'' 78 s = rdB y'' home mi s (l + 1) := by
        intro y' g1 g2 g3 g4
        unfold L_Mo_walk_b227
        rw [w32_i (show l < 2147483647 by omega)]
        refine ⟨y', rfl, ?_, ?_, ?_, ?_, ?_⟩
        · intro k h1 h2; rw [g1 k h1]; exact f1 k h1 h2
        · intro q hq; rw [g2 q (by omega)]; exact f2 q hq
        · intro q hq; rw [g1 78 (by decide)]; exact f3 q hq
        · intro l' hl'
          by_cases e : l' = l
          · subst e
            refine ⟨?_, by omega, by omega⟩
            unfold EqW; rw [if_neg g4]; exact g3
          · obtain ⟨t1, t2⟩ := f4 l' (by omega)
            refine ⟨t1.cg (g2 _ (by omega)) (fun hb k hk => g2 _ (by have := dif_lt s l' (by omega) hb; omega)), ?_⟩
            rw [g2 _ (by omega)]; exact t2
        · rw [g1 78 (by decide), f5]
          unfold rdB
          simp only [fm]
          rw [if_neg (by rw [Bool.and_eq_true, decide_eq_true_eq]; exact g4)]
          exact fm_cg _ _ _ _ _ l (fun k hk => ⟨rfl, fun _ => by rw [g2 _ (by omega)]⟩)
      dsimp only
      unfold L_Mo_walk_y20
      rw [if_pos (by omega), ix7B s l hs hl, ck_pos ⟨by omega, by omega⟩, tn_i, ibit s l (by omega) (by omega)]
      obtain ⟨y0, hy0⟩ : ∃ z, z = up2 y 77 (s * 7 + l) 100000000 := ⟨_, rfl⟩
      have g1 : ∀ k, k ≠ 77 → y0 k = y k := fun k hk => by rw [hy0, up2_K _ _ _ hk]
      have g2 : ∀ q, q ≠ s * 7 + l → y0 77 q = y 77 q := fun q hq => by rw [hy0, up2_j _ _ _ hq]
      have g3 : y0 77 (s * 7 + l) = 100000000 := by rw [hy0, up2_s]
      rw [← hy0]
      by_cases q : s.testBit l = true
      · rw [if_pos q, if_neg (by decide)]
        by_cases q2 : l = home
        · rw [if_pos (by omega)]
          exact dull y0 g1 g2 g3 (fun z => z.2 q2)
        · have hdl := hdle q
          have hp31 : 2 ^ l < 2 ^ 31 := Nat.pow_lt_pow_right (by decide) (by omega)
          have hm := hmi (home * 7 + l) (by omega)
          rw [if_neg (by omega), ishl1 l (by omega), iand_dif s (2 ^ l) (by omega) (by omega), lt_e]
          have main : ∀ (y1 : Dt) (z : Int), 0 ≤ z → z ≤ 100000000 → z = (if dif s (2 ^ l) = 0 then mi (home * 7 + l) else 100000000) → (∀ k, k ≠ 77 → y1 k = y k) → (∀ q, q ≠ s * 7 + l → y1 77 q = y 77 q) → y1 77 (s * 7 + l) = z → ∃ y'', L_Mo_walk_b92 (home : Int) (s : Int) (l : Int) (dif s (2 ^ l) : Int) y1 = some (Sum.inl ((home : Int), (s : Int), ((l + 1 : Nat) : Int), y'')) ∧ (∀ k, k ≠ 77 → k ≠ 78 → y'' k = x k) ∧ (∀ q, q < s * 7 → y'' 77 q = x 77 q) ∧ (∀ q, q ≠ s → y'' 78 q = x 78 q) ∧ (∀ l', l' < l + 1 → tabW y'' home mi s l') ∧ y'' 78 s = rdB y'' home mi s (l + 1) := by
            intro y1 z hz0 hz1 hz m1 m2 m3
            have y175 : y1 75 = mi := by rw [m1 75 (by decide)]; exact y75
            have oldv : ∀ k, k < 7 → dif s (2 ^ l) ≠ 0 → 0 ≤ y 77 (dif s (2 ^ l) * 7 + k) ∧ y 77 (dif s (2 ^ l) * 7 + k) ≤ 100000000 := by
              intro k hk h0
              rw [f2 _ (by omega)]
              exact (hold _ k (by omega) hdl hk).2
            by_cases hd0 : dif s (2 ^ l) = 0
            · -- no stop before: the loop changes nothing
              have e95 := lp_seq (f := fun q : Int × Int × Int × Int × Int × Dt => L_Mo_walk_y95 q.1 q.2.1 q.2.2.1 q.2.2.2.1 q.2.2.2.2.1 q.2.2.2.2.2) (fun k => ((home : Int), (s : Int), (l : Int), (0 : Int), (k : Int), y1)) 7 (r := ((home : Int), (s : Int), (l : Int), y1))
                (by
                  intro k hk
                  dsimp only
                  unfold L_Mo_walk_y95 L_Mo_walk_b183
                  have := ibit 0 k (by omega) (by omega)
                  rw [Nat.zero_testBit] at this
                  rw [if_pos (by omega), show iand (ishr 0 (k : Int)) 1 = 0 from this, if_neg (by decide), w32_i (show k < 2147483647 by omega)])
                (by
                  dsimp only
                  unfold L_Mo_walk_y95
                  rw [if_neg (by omega)]) (by omega)
              unfold L_Mo_walk_b92 L_Mo_walk_b227 L_Mo_walk_l95
              have hm2 := hmi (l * 7 + home) (by omega)
              rw [hd0, show lpF (fun q : Int × Int × Int × Int × Int × Dt => L_Mo_walk_y95 q.1 q.2.1 q.2.2.1 q.2.2.2.1 q.2.2.2.2.1 q.2.2.2.2.2) FU ((home : Int), (s : Int), (l : Int), ((0 : Nat) : Int), 0, y1) = _ from e95, lb_e, u3_q, ck_pos ⟨by omega, by omega⟩, ix7B s l hs hl, ix7B l home (by omega) hh, ck_pos ⟨by omega, by omega⟩, ck_pos ⟨by omega, by omega⟩, ck_pos ⟨by omega, by omega⟩, tn_i, tn_i, tn_i, m3, y175, m1 78 (by decide), f5, w32_s (x := z + mi (l * 7 + home)) (by omega) (by omega), jmin_e, w32_i (show l < 2147483647 by omega)]
              have hEq : fm (fun k => (dif s (2 ^ l)).testBit k && decide (y1 77 (dif s (2 ^ l) * 7 + k) < 100000000)) (fun k => y1 77 (dif s (2 ^ l) * 7 + k) + mi (k * 7 + l)) z 7 = z := by
                rcases fm_at (fun k => (dif s (2 ^ l)).testBit k && decide (y1 77 (dif s (2 ^ l) * 7 + k) < 100000000)) (fun k => y1 77 (dif s (2 ^ l) * 7 + k) + mi (k * 7 + l)) z 7 with e | ⟨k, _, e, _⟩
                · exact e
                · rw [hd0, Nat.zero_testBit] at e; cases e
              exact fin_l home mi hh hmi s l hs hl q q2 x y y1 z hz0 hz1 hz hdl f1 f2 f3 f4 f5 m1 m2 (by rw [m3, hEq]) (by rw [m3]; omega) z m3
            · obtain ⟨y2, w1, w2, w3, w4⟩ := walk_k hh hmi s l z ⟨hz0, hz1⟩ hs hl q y175 m3 (fun k hk => by rw [m2 _ (by omega)]; exact oldv k hk hd0)
              have hm2 := hmi (l * 7 + home) (by omega)
              have hv : 0 ≤ y2 77 (s * 7 + l) ∧ y2 77 (s * 7 + l) ≤ 100000000 := by
                rw [w4]
                refine ⟨?_, by have := fm_0 (fun k => (dif s (2 ^ l)).testBit k && decide (y1 77 (dif s (2 ^ l) * 7 + k) < 100000000)) (fun k => y1 77 (dif s (2 ^ l) * 7 + k) + mi (k * 7 + l)) z 7; omega⟩
                rcases fm_at (fun k => (dif s (2 ^ l)).testBit k && decide (y1 77 (dif s (2 ^ l) * 7 + k) < 100000000)) (fun k => y1 77 (dif s (2 ^ l) * 7 + k) + mi (k * 7 + l)) z 7 with e | ⟨k, e1, _, e3⟩
                · rw [e]; exact hz0
                · rw [e3]
                  have := oldv k e1 hd0
                  have := hmi (k * 7 + l) (by omega)
                  rw [m2 _ (by omega)]; omega
              obtain ⟨v, hvv⟩ : ∃ v, y2 77 (s * 7 + l) = v := ⟨_, rfl⟩
              unfold L_Mo_walk_b92 L_Mo_walk_b227
              rw [w1, lb_e, u3_q, ck_pos ⟨by omega, by omega⟩, ix7B s l hs hl, ix7B l home (by omega) hh, ck_pos ⟨by omega, by omega⟩, ck_pos ⟨by omega, by omega⟩, ck_pos ⟨by omega, by omega⟩, tn_i, tn_i, tn_i, hvv, w2 75 (by decide), y175, w2 78 (by decide), m1 78 (by decide), f5, w32_s (x := v + mi (l * 7 + home)) (by omega) (by omega), jmin_e, w32_i (show l < 2147483647 by omega)]
              refine fin_l home mi hh hmi s l hs hl q q2 x y y2 z hz0 hz1 hz hdl f1 f2 f3 f4 f5 (fun k hk => by rw [w2 k hk]; exact m1 k hk) (fun r hr => by rw [w3 r hr]; exact m2 r hr) ?_ hv v hvv
              rw [w4]
              exact fm_cg _ _ _ _ _ 7 (fun k hk => ⟨by rw [w3 _ (by omega)], fun _ => by rw [w3 _ (by omega)]⟩)
          by_cases q3 : dif s (2 ^ l) = 0
          · rw [if_pos (by omega), ix7B home l (by omega) hl, ck_pos ⟨by omega, by omega⟩, ck_pos ⟨by omega, by omega⟩, tn_i, y75]
            refine main _ (mi (home * 7 + l)) (by omega) (by omega) (by rw [if_pos q3]) ?_ ?_ (up2_s _ _ _ _)
            · intro k hk; rw [up2_K _ _ _ hk]; exact g1 k hk
            · intro r hr; rw [up2_j _ _ _ hr]; exact g2 r hr
          · rw [if_neg (by omega)]
            exact main y0 100000000 (by decide) (by decide) (by rw [if_neg q3]) g1 g2 g3
      · rw [if_neg q, if_pos rfl]
        exact dull y0 g1 g2 g3 (fun z => q z.1))
    (by
      rintro y _
      dsimp only
      unfold L_Mo_walk_y20
      rw [if_neg (by omega)]) (by omega) (up2 x 78 s 100000000) ⟨fun k _ h2 => up2_K _ _ _ h2, fun q _ => by rw [up2_K _ _ _ (by decide)], fun q hq => up2_j _ _ _ hq, fun l' h => by omega, by rw [up2_s]; rfl⟩
  exact ⟨x', e1, e2, e3, e4, e5, e6⟩
