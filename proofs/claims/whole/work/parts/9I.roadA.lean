/-! COACHES: the class's tables of loads, ways and tours -/
theorem ex_bit (S K : Nat) (h0 : S ≠ 0) (hK : S < 2 ^ K) : ∃ i, i < K ∧ S.testBit i = true := by
  obtain ⟨i, hi⟩ := Nat.exists_testBit_of_ne_zero h0
  refine ⟨i, ?_, hi⟩
  by_cases q : i < K
  · exact q
  · have : S.testBit i = false := Nat.testBit_lt_two_pow (Nat.lt_of_lt_of_le hK (Nat.pow_le_pow_right (by decide) (by omega)))
    rw [this] at hi; cases hi
theorem dif_lt (S l : Nat) (hl : l < 32) (h : S.testBit l = true) : dif S (2 ^ l) < S := by
  have h1 := dif_le S (2 ^ l)
  have h2 := dif_t S (2 ^ l) l hl
  rw [h, Nat.testBit_two_pow, decide_eq_true rfl] at h2
  by_cases e : dif S (2 ^ l) = S
  · rw [e, h] at h2; cases h2
  · omega
theorem p64 (K : Nat) (h : K ≤ 6) : 2 ^ K ≤ 64 := Nat.pow_le_pow_right (n := 2) (by decide) h
def AC (d : Dt) (K : Nat) (ps : Nat → Nat) (rs mi : Nat → Int) : Prop := d 71 7 = (K : Int) ∧ (∀ i, i < K → d 74 i = (ps i : Int)) ∧ (∀ p, p < 7 → d 73 p = rs p) ∧ d 72 = mi
def BC (K : Nat) (ps : Nat → Nat) (rs mi : Nat → Int) : Prop := K ≤ 6 ∧ (∀ i, i < K → ps i < 7) ∧ (∀ p, p < 7 → 0 ≤ rs p ∧ rs p ≤ 20) ∧ ∀ q, q < 49 → 0 ≤ mi q ∧ mi q ≤ 1000
theorem AC.cg {d d' : Dt} {K : Nat} {ps : Nat → Nat} {rs mi : Nat → Int} (h : AC d K ps rs mi) (hk : ∀ k, 71 ≤ k → k ≤ 74 → d' k = d k) : AC d' K ps rs mi := by
  unfold AC at h ⊢
  rw [hk 71 (by decide) (by decide), hk 72 (by decide) (by decide), hk 73 (by decide) (by decide), hk 74 (by decide) (by decide)]
  exact h
def ldA (ps : Nat → Nat) (rs : Nat → Int) (S : Nat) : Nat → Int
  | 0 => 0
  | i + 1 => ldA ps rs S i + (if S.testBit i = true then rs (ps i) else 0)
theorem ldA_b (ps : Nat → Nat) (rs : Nat → Int) (S : Nat) : ∀ i : Nat, (∀ j, j < i → 0 ≤ rs (ps j) ∧ rs (ps j) ≤ 20) → 0 ≤ ldA ps rs S i ∧ ldA ps rs S i ≤ 20 * i
  | 0, _ => by simp only [ldA]; omega
  | i + 1, h => by
    have ih := ldA_b ps rs S i (fun j hj => h j (by omega))
    have := h i (by omega)
    simp only [ldA]; split <;> omega
theorem loads_e {d : Dt} {K : Nat} {ps : Nat → Nat} {rs mi : Nat → Int} (hA : AC d K ps rs mi) (hb : BC K ps rs mi) : ∃ d', L_Ro_fillLoads d = some (0, d') ∧ (∀ k, k ≠ 75 → d' k = d k) ∧ ∀ S, S < 2 ^ K → d' 75 S = ldA ps rs S K := by
  obtain ⟨b1, b2, b3, b4⟩ := hb
  have h64 := p64 K b1
  obtain ⟨d', e1, e2, e3⟩ := lp_inv (f := fun q : Int × Dt => L_Ro_fillLoads_y2 q.1 q.2) (fun S x => ((S : Int), x)) (fun x => x)
    (fun S x => (∀ k, k ≠ 75 → x k = d k) ∧ ∀ S', S' < S → x 75 S' = ldA ps rs S' K) (2 ^ K)
    (by
      rintro S x hS ⟨f1, f2⟩
      have hAx : AC x K ps rs mi := hA.cg (fun k h1 h2 => f1 k (by omega))
      obtain ⟨a1, a2, a3, a4⟩ := hAx
      obtain ⟨x', k1, k2, k3, k4⟩ := lp_inv (f := fun q : Int × Int × Dt => L_Ro_fillLoads_y21 q.1 q.2.1 q.2.2) (fun i y => ((S : Int), (i : Int), y)) (fun y => ((S : Int), y))
        (fun i y => (∀ k, k ≠ 75 → y k = x k) ∧ (∀ q, q ≠ S → y 75 q = x 75 q) ∧ y 75 S = ldA ps rs S i) K
        (by
          rintro i y hi ⟨l1, l2, l3⟩
          have hbi := ldA_b ps rs S i (fun j hj => b3 _ (b2 j (by omega)))
          have hri := b3 (ps i) (b2 i hi)
          have hpi := b2 i hi
          refine ⟨up2 y 75 S (ldA ps rs S (i + 1)), ?_, ?_, ?_, ?_⟩
          · dsimp only
            unfold L_Ro_fillLoads_y21
            rw [l1 71 (by decide), a1, if_pos (by omega), ck_pos ⟨by omega, by omega⟩, ck_pos ⟨by omega, by omega⟩, tn_i, tn_i, l1 74 (by decide), a2 i hi, ck_pos ⟨by omega, by omega⟩, ck_pos ⟨by omega, by omega⟩, tn_i, l1 73 (by decide), a3 (ps i) hpi, l3, ibit S i (by omega) (by omega), w32_i (show i < 2147483647 by omega)]
            simp only [ldA]
            by_cases q : S.testBit i = true
            · rw [if_pos q, if_pos q, Int.one_mul, w32_s (x := rs (ps i)) (by omega) (by omega), w32_s (by omega) (by omega)]
            · rw [if_neg q, if_neg q, Int.zero_mul, w32_s (x := 0) (by omega) (by omega), w32_s (by omega) (by omega)]
          · intro k hk; rw [up2_K _ _ _ hk]; exact l1 k hk
          · intro q hq; rw [up2_j _ _ _ hq]; exact l2 q hq
          · rw [up2_s])
        (by
          rintro y ⟨l1, _⟩
          dsimp only
          unfold L_Ro_fillLoads_y21
          rw [l1 71 (by decide), a1, if_neg (by omega)]) (by omega) (up2 x 75 S 0) ⟨fun k hk => up2_K _ _ _ hk, fun q hq => up2_j _ _ _ hq, by rw [up2_s]; rfl⟩
      refine ⟨x', ?_, ?_, ?_⟩
      · dsimp only
        unfold L_Ro_fillLoads_y2 L_Ro_fillLoads_l21
        rw [a1, ishl1 K (by omega), if_pos (by omega), ck_pos ⟨by omega, by omega⟩, tn_i, show lpF (fun q : Int × Int × Dt => L_Ro_fillLoads_y21 q.1 q.2.1 q.2.2) FU ((S : Int), 0, up2 x 75 S 0) = _ from k1, lb_e, u1_q, w32_i (show S < 2147483647 by omega)]
      · intro k hk; rw [k2 k hk]; exact f1 k hk
      · intro S' hS'
        by_cases q : S' = S
        · subst q; exact k4
        · rw [k3 S' q]; exact f2 S' (by omega))
    (by
      rintro x ⟨f1, _⟩
      dsimp only
      unfold L_Ro_fillLoads_y2
      rw [f1 71 (by decide), hA.1, ishl1 K (by omega), if_neg (by omega)]) (by omega) d ⟨fun _ _ => rfl, fun S' h => by omega⟩
  refine ⟨d', ?_, e2, e3⟩
  unfold L_Ro_fillLoads L_Ro_fillLoads_l2
  rw [show lpF (fun q : Int × Dt => L_Ro_fillLoads_y2 q.1 q.2) FU (0, d) = _ from e1, lb_e, u0_q]
theorem ix6 (i j : Nat) (hi : i < 64) (hj : j < 6) : w32 (w32 ((i : Int) * 6) + (j : Int)) = ((i * 6 + j : Nat) : Int) := by
  rw [w32_s (x := (i : Int) * 6) (by omega) (by omega), w32_s (by omega) (by omega)]; omega
/-- the least way out through a set to its last -/
def EqO (x : Dt) (K home : Nat) (ps : Nat → Nat) (mi : Nat → Int) (S l : Nat) : Prop := x 76 (S * 6 + l) = fm (fun k => (dif S (2 ^ l)).testBit k) (fun k => x 76 (dif S (2 ^ l) * 6 + k) + mi (ps k * 7 + ps l)) (if dif S (2 ^ l) = 0 then mi (home * 7 + ps l) else 1000000) K
theorem shortest_e {x : Dt} {K home : Nat} {ps : Nat → Nat} {rs mi : Nat → Int} (hA : AC x K ps rs mi) (hb : BC K ps rs mi) (hh : home < 7) (S l : Nat) (hS : S < 2 ^ K) (hl : l < K) (hbit : S.testBit l = true) (hold : ∀ S' k, S' < S → k < K → S'.testBit k = true → 0 ≤ x 76 (S' * 6 + k) ∧ x 76 (S' * 6 + k) ≤ 1000 * S') : L_Ro_shortestTo (home : Int) (S : Int) (l : Int) x = some (fm (fun k => (dif S (2 ^ l)).testBit k) (fun k => x 76 (dif S (2 ^ l) * 6 + k) + mi (ps k * 7 + ps l)) (if dif S (2 ^ l) = 0 then mi (home * 7 + ps l) else 1000000) K, x) := by
  obtain ⟨b1, b2, b3, b4⟩ := hb
  obtain ⟨a1, a2, a3, a4⟩ := hA
  have h64 := p64 K b1
  have hdl := dif_lt S l (by omega) hbit
  have hp31 : 2 ^ l < 2 ^ 31 := Nat.pow_lt_pow_right (by decide) (by omega)
  obtain ⟨B, hB⟩ : ∃ B, B = dif S (2 ^ l) := ⟨_, rfl⟩
  rw [← hB] at hdl ⊢
  have loop : ∀ z : Int, 0 ≤ z → z ≤ 1000000 → L_Ro_shortestTo_b35 (l : Int) (B : Int) z x = some (fm (fun k => B.testBit k) (fun k => x 76 (B * 6 + k) + mi (ps k * 7 + ps l)) z K, x) := by
    intro z hz0 hz1
    have e1 := lp_seq (f := fun q : Int × Int × Int × Int × Dt => L_Ro_shortestTo_y40 q.1 q.2.1 q.2.2.1 q.2.2.2.1 q.2.2.2.2) (fun k => ((l : Int), (B : Int), fm (fun k => B.testBit k) (fun k => x 76 (B * 6 + k) + mi (ps k * 7 + ps l)) z k, (k : Int), x)) K (r := (fm (fun k => B.testBit k) (fun k => x 76 (B * 6 + k) + mi (ps k * 7 + ps l)) z K, x))
      (by
        intro k hk
        have hpk := b2 k hk
        have hpl := b2 l hl
        dsimp only
        unfold L_Ro_shortestTo_y40 L_Ro_shortestTo_b106
        rw [a1, if_pos (by omega), ibit B k (by omega) (by omega), w32_i (show k < 2147483647 by omega)]
        simp only [fm]
        by_cases q : B.testBit k = true
        · have ho := hold B k hdl hk q
          have hm := b4 (ps k * 7 + ps l) (by omega)
          rw [if_pos q, if_neg (by decide), ck_pos ⟨by omega, by omega⟩, ck_pos ⟨by omega, by omega⟩, tn_i, tn_i, a2 k hk, a2 l hl, ix7 (ps k) (ps l) hpk hpl, ck_pos ⟨by omega, by omega⟩, tn_i, lt_e, ix6 B k (by omega) (by omega), ck_pos ⟨by omega, by omega⟩, tn_i, a4, w32_s (x := x 76 (B * 6 + k) + mi (ps k * 7 + ps l)) (by omega) (by omega), jmin_e, lt_e, if_pos q]
        · rw [if_neg q, if_pos rfl, if_neg q])
      (by
        dsimp only
        unfold L_Ro_shortestTo_y40
        rw [a1, if_neg (by omega)]) (by omega)
    unfold L_Ro_shortestTo_b35 L_Ro_shortestTo_l40
    rw [show lpF (fun q : Int × Int × Int × Int × Dt => L_Ro_shortestTo_y40 q.1 q.2.1 q.2.2.1 q.2.2.2.1 q.2.2.2.2) FU ((l : Int), (B : Int), z, 0, x) = _ from e1, lb_e, u1_q]
  unfold L_Ro_shortestTo
  rw [ishl1 l (by omega), iand_dif S (2 ^ l) (by omega) (by omega), ← hB, lt_e]
  have hpl := b2 l hl
  have hm := b4 (home * 7 + ps l) (by omega)
  by_cases q : B = 0
  · rw [if_pos q, if_pos (by omega), ck_pos ⟨by omega, by omega⟩, tn_i, a2 l hl, ix7 home (ps l) hh hpl, ck_pos ⟨by omega, by omega⟩, tn_i, a4]
    exact loop _ (by omega) (by omega)
  · rw [if_neg q, if_neg (by omega)]
    exact loop _ (by omega) (by omega)
theorem EqO.bound {x : Dt} {K home : Nat} {ps : Nat → Nat} {rs mi : Nat → Int} (hb : BC K ps rs mi) (hh : home < 7) (S l : Nat) (hS : S < 2 ^ K) (hl : l < K) (hbit : S.testBit l = true) (hold : ∀ S' k, S' < S → k < K → S'.testBit k = true → 0 ≤ x 76 (S' * 6 + k) ∧ x 76 (S' * 6 + k) ≤ 1000 * S') : 0 ≤ fm (fun k => (dif S (2 ^ l)).testBit k) (fun k => x 76 (dif S (2 ^ l) * 6 + k) + mi (ps k * 7 + ps l)) (if dif S (2 ^ l) = 0 then mi (home * 7 + ps l) else 1000000) K ∧ fm (fun k => (dif S (2 ^ l)).testBit k) (fun k => x 76 (dif S (2 ^ l) * 6 + k) + mi (ps k * 7 + ps l)) (if dif S (2 ^ l) = 0 then mi (home * 7 + ps l) else 1000000) K ≤ 1000 * S := by
  obtain ⟨b1, b2, b3, b4⟩ := hb
  have hdl := dif_lt S l (by omega) hbit
  have hpl := b2 l hl
  have hm := b4 (home * 7 + ps l) (by omega)
  have tb : ∀ k, k < K → (dif S (2 ^ l)).testBit k = true → 0 ≤ x 76 (dif S (2 ^ l) * 6 + k) + mi (ps k * 7 + ps l) ∧ x 76 (dif S (2 ^ l) * 6 + k) + mi (ps k * 7 + ps l) ≤ 1000 * (dif S (2 ^ l) : Int) + 1000 := by
    intro k hk hc
    have ho := hold _ k hdl hk hc
    have hpk := b2 k hk
    have hm2 := b4 (ps k * 7 + ps l) (by omega)
    omega
  by_cases q : dif S (2 ^ l) = 0
  · rcases fm_at (fun k => (dif S (2 ^ l)).testBit k) (fun k => x 76 (dif S (2 ^ l) * 6 + k) + mi (ps k * 7 + ps l)) (if dif S (2 ^ l) = 0 then mi (home * 7 + ps l) else 1000000) K with e | ⟨k, _, e, _⟩
    · rw [e, if_pos q]; omega
    · rw [q, Nat.zero_testBit] at e; cases e
  · obtain ⟨k, hk, hc⟩ := ex_bit (dif S (2 ^ l)) K q (by omega)
    have t1 := tb k hk hc
    have u1 := fm_k (fun k => (dif S (2 ^ l)).testBit k) (fun k => x 76 (dif S (2 ^ l) * 6 + k) + mi (ps k * 7 + ps l)) (if dif S (2 ^ l) = 0 then mi (home * 7 + ps l) else 1000000) k hc K hk
    refine ⟨?_, by omega⟩
    rcases fm_at (fun k => (dif S (2 ^ l)).testBit k) (fun k => x 76 (dif S (2 ^ l) * 6 + k) + mi (ps k * 7 + ps l)) (if dif S (2 ^ l) = 0 then mi (home * 7 + ps l) else 1000000) K with e | ⟨k2, e1, e2, e3⟩
    · rw [e, if_neg q]; omega
    · have := tb k2 e1 e2
      try dsimp only at e3
      omega
