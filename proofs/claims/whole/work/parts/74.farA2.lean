/-! far: the class's whole table -/
theorem initA (arr : Nat) (p1 p2 n m : Int) (hm : 0 ≤ m ∧ m ≤ 8) (d : Dt) : ∃ d', L_PB_lettersApart_l23 arr 9 p1 p2 n m 0 d = some (p1, p2, n, m, d') ∧ (∀ k, k ≠ arr → d' k = d k) ∧ ∀ k : Nat, (k : Int) ≤ m → d' arr k = (k : Int) := by
  unfold L_PB_lettersApart_l23
  obtain ⟨r, e1, e2, e3, e4, e5, e6, e7⟩ := lpF_FU (f := fun q : Int × Int × Int × Int × Int × Dt => L_PB_lettersApart_y23 arr 9 q.1 q.2.1 q.2.2.1 q.2.2.2.1 q.2.2.2.2.1 q.2.2.2.2.2)
    (fun q => (q.1 = p1 ∧ q.2.1 = p2 ∧ q.2.2.1 = n ∧ q.2.2.2.1 = m) ∧ (0 ≤ q.2.2.2.2.1 ∧ q.2.2.2.2.1 ≤ m + 1) ∧ (∀ k, k ≠ arr → q.2.2.2.2.2 k = d k) ∧ ∀ k : Nat, (k : Int) < q.2.2.2.2.1 → q.2.2.2.2.2 arr k = (k : Int))
    (fun q => (m + 1 - q.2.2.2.2.1).toNat)
    (fun r => r.1 = p1 ∧ r.2.1 = p2 ∧ r.2.2.1 = n ∧ r.2.2.2.1 = m ∧ (∀ k, k ≠ arr → r.2.2.2.2 k = d k) ∧ ∀ k : Nat, (k : Int) ≤ m → r.2.2.2.2 arr k = (k : Int))
    (by
      rintro ⟨y0, y2, y5, y6, y7, e⟩ ⟨⟨j1, j2, j3, j4⟩, i3, i4, i5⟩
      dsimp only at j1 j2 j3 j4 i3 i4 i5 ⊢
      subst j1
      subst j2
      subst j3
      subst j4
      unfold L_PB_lettersApart_y23
      by_cases h : y6 < y7
      · right
        rw [if_pos h]
        exact ⟨_, rfl, rfl, rfl, rfl, rfl, i4, fun k hk => i5 k (by omega)⟩
      · left
        rw [if_neg h, ck_pos ⟨by omega, by omega⟩, w32_s (x := y7 + 1) (by omega) (by omega)]
        refine ⟨_, rfl, ⟨⟨rfl, rfl, rfl, rfl⟩, ⟨by dsimp only; omega, by dsimp only; omega⟩, fun k hk => ?_, fun k hk => ?_⟩, by dsimp only; omega⟩
        · dsimp only
          rw [up2_K _ _ _ hk]; exact i4 k hk
        · dsimp only at hk ⊢
          by_cases hp : k = y7.toNat
          · subst hp
            rw [up2_s]; omega
          · rw [up2_j _ _ _ hp]; exact i5 k (by omega))
    (p1, p2, n, m, 0, d) ⟨⟨rfl, rfl, rfl, rfl⟩, ⟨(show (0 : Int) ≤ 0 by decide), by dsimp only; omega⟩, fun _ _ => rfl, fun k hk => by dsimp only at hk; omega⟩ (by dsimp only; omega)
  obtain ⟨r1, r2, r3, r4, r5⟩ := r
  dsimp only at e2 e3 e4 e5 e6 e7
  subst e2
  subst e3
  subst e4
  subst e5
  exact ⟨r5, e1, e6, e7⟩
theorem outA (arr : Nat) {p1 p2 : Int} (h1 : 0 ≤ p1 ∧ p1 < 1099511627776) (h2 : 0 ≤ p2 ∧ p2 < 1099511627776) (n m : Nat) (hn : n ≤ 8) (hm : m ≤ 8) (d : Dt) (h6 : ∀ k : Nat, (k : Int) ≤ (m : Int) → d arr k = (k : Int)) : ∃ d', L_PB_lettersApart_l46 arr 9 p1 p2 (n : Int) (m : Int) 1 d = some ((m : Int), d') ∧ (∀ k, k ≠ arr → d' k = d k) ∧ d' arr m = DD (fun i => shN (n - 1 - i) p1 % 32) (fun j => shN (m - 1 - j) p2 % 32) n m := by
  unfold L_PB_lettersApart_l46
  obtain ⟨r, e1, e2, e3, e4⟩ := lpF_FU (f := fun q : Int × Int × Int × Int × Int × Dt => L_PB_lettersApart_y46 arr 9 q.1 q.2.1 q.2.2.1 q.2.2.2.1 q.2.2.2.2.1 q.2.2.2.2.2)
    (fun q => (q.1 = p1 ∧ q.2.1 = p2 ∧ q.2.2.1 = (n : Int) ∧ q.2.2.2.1 = (m : Int)) ∧ (1 ≤ q.2.2.2.2.1 ∧ q.2.2.2.2.1 ≤ (n : Int) + 1) ∧ (∀ k, k ≠ arr → q.2.2.2.2.2 k = d k) ∧ ∀ k : Nat, (k : Int) ≤ (m : Int) → q.2.2.2.2.2 arr k = DD (fun i => shN (n - 1 - i) p1 % 32) (fun j => shN (m - 1 - j) p2 % 32) (q.2.2.2.2.1 - 1).toNat k)
    (fun q => ((n : Int) + 1 - q.2.2.2.2.1).toNat)
    (fun r => r.1 = (m : Int) ∧ (∀ k, k ≠ arr → r.2 k = d k) ∧ r.2 arr m = DD (fun i => shN (n - 1 - i) p1 % 32) (fun j => shN (m - 1 - j) p2 % 32) n m)
    (by
      rintro ⟨y0, y2, y5, y6, y7, e⟩ ⟨⟨j1, j2, j3, j4⟩, i3, i4, i5⟩
      dsimp only at j1 j2 j3 j4 i3 i4 i5 ⊢
      subst j1
      subst j2
      subst j3
      subst j4
      unfold L_PB_lettersApart_y46
      by_cases h : (n : Int) < y7
      · right
        rw [if_pos h]
        refine ⟨_, rfl, rfl, i4, ?_⟩
        dsimp only
        rw [i5 m (by omega), show (y7 - 1).toNat = n by omega]
      · left
        obtain ⟨i, hi⟩ : ∃ i : Nat, y7 = (i : Int) + 1 := ⟨(y7 - 1).toNat, by omega⟩
        subst hi
        have t : ((i : Int) + 1 - 1).toNat = i := by omega
        rw [t] at i5
        have hl : land (lshr y0 (w32 (5 * w32 ((n : Int) - ((i : Int) + 1))))) 31 = (fun i => shN (n - 1 - i) y0 % 32) i := by
          rw [w32_s (x := (n : Int) - ((i : Int) + 1)) (by omega) (by omega), w32_s (x := 5 * ((n : Int) - ((i : Int) + 1))) (by omega) (by omega), show (n : Int) - ((i : Int) + 1) = ((n - 1 - i : Nat) : Int) by omega, let_k h1.1 h1.2 (n - 1 - i) (by omega)]
        obtain ⟨e', a1, a2, a3⟩ := inA arr (fun i => shN (n - 1 - i) y0 % 32) y0 y2 h2 (n : Int) m i e (by omega) hm i5
        have c0 : (0 : Int) ≤ 0 ∧ (0 : Int) < ((9 : Nat) : Int) := by decide
        rw [if_neg h, hl]
        dsimp only [lt_] at a1 ⊢
        rw [ck_pos c0, ck_pos c0, a1, lb_s]
        dsimp only [u5]
        clear hl
        rw [w32_s (x := (i : Int) + 1 + 1) (by omega) (by omega)]
        refine ⟨_, rfl, ⟨⟨rfl, rfl, rfl, rfl⟩, ⟨by dsimp only; omega, by dsimp only; omega⟩, fun k hk => ?_, fun k hk => ?_⟩, by dsimp only; omega⟩
        · dsimp only
          rw [a2 k hk]; exact i4 k hk
        · dsimp only
          rw [a3 k hk, show ((i : Int) + 1 + 1 - 1).toNat = i + 1 by omega])
    (p1, p2, (n : Int), (m : Int), 1, d) ⟨⟨rfl, rfl, rfl, rfl⟩, ⟨(show (1 : Int) ≤ 1 by decide), by dsimp only; omega⟩, fun _ _ => rfl, fun k hk => by
      dsimp only
      rw [show ((1 : Int) - 1).toNat = 0 by rfl, DD_0]; exact h6 k hk⟩ (by dsimp only; omega)
  obtain ⟨r1, r2⟩ := r
  dsimp only at e2 e3 e4
  subst e2
  exact ⟨r2, e1, e3, e4⟩
