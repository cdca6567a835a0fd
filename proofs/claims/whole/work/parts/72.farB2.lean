/-! far: the reference's whole table -/
theorem initB (n m : Int) (hm : 0 ≤ m ∧ m ≤ 8) (d : Dt) : ∃ d', L_Mo_farOf_l23 n m 0 d = some (n, m, d') ∧ (∀ k, k ≠ 6 → d' k = d k) ∧ ∀ k : Nat, (k : Int) ≤ m → d' 6 k = (k : Int) := by
  unfold L_Mo_farOf_l23
  obtain ⟨r, e1, e2, e3, e4, e5⟩ := lpF_FU (f := fun q : Int × Int × Int × Dt => L_Mo_farOf_y23 q.1 q.2.1 q.2.2.1 q.2.2.2)
    (fun q => q.1 = n ∧ q.2.1 = m ∧ (0 ≤ q.2.2.1 ∧ q.2.2.1 ≤ m + 1) ∧ (∀ k, k ≠ 6 → q.2.2.2 k = d k) ∧ ∀ k : Nat, (k : Int) < q.2.2.1 → q.2.2.2 6 k = (k : Int))
    (fun q => (m + 1 - q.2.2.1).toNat)
    (fun r => r.1 = n ∧ r.2.1 = m ∧ (∀ k, k ≠ 6 → r.2.2 k = d k) ∧ ∀ k : Nat, (k : Int) ≤ m → r.2.2 6 k = (k : Int))
    (by
      rintro ⟨y5, y6, y7, e⟩ ⟨i1, i2, i3, i4, i5⟩
      dsimp only at i1 i2 i3 i4 i5 ⊢
      subst i1
      subst i2
      unfold L_Mo_farOf_y23
      by_cases h : y6 < y7
      · right
        rw [if_pos h]
        exact ⟨_, rfl, rfl, rfl, i4, fun k hk => i5 k (by omega)⟩
      · left
        rw [if_neg h, ck_pos ⟨by omega, by omega⟩, w32_s (x := y7 + 1) (by omega) (by omega)]
        refine ⟨_, rfl, ⟨rfl, rfl, ⟨by dsimp only; omega, by dsimp only; omega⟩, fun k hk => ?_, fun k hk => ?_⟩, by dsimp only; omega⟩
        · dsimp only
          rw [up2_K _ _ _ hk]; exact i4 k hk
        · dsimp only at hk ⊢
          by_cases hp : k = y7.toNat
          · subst hp
            rw [up2_s]; omega
          · rw [up2_j _ _ _ hp]; exact i5 k (by omega))
    (n, m, 0, d) ⟨rfl, rfl, ⟨(show (0 : Int) ≤ 0 by decide), by dsimp only; omega⟩, fun _ _ => rfl, fun k hk => by dsimp only at hk; omega⟩ (by dsimp only; omega)
  obtain ⟨r1, r2, r3⟩ := r
  dsimp only at e2 e3 e4 e5
  subst e2
  subst e3
  exact ⟨r3, e1, e4, e5⟩
theorem outB (f g : Nat → Int) (n m : Nat) (hn : n ≤ 8) (hm : m ≤ 8) (d : Dt) (h4 : ∀ i : Nat, i < n → d 4 i = f i) (h5 : ∀ j : Nat, j < m → d 5 j = g j) (h6 : ∀ k : Nat, (k : Int) ≤ (m : Int) → d 6 k = (k : Int)) : ∃ d', L_Mo_farOf_l48 (n : Int) (m : Int) 1 d = some ((m : Int), d') ∧ (∀ k, k ≠ 6 → d' k = d k) ∧ d' 6 m = DD f g n m := by
  unfold L_Mo_farOf_l48
  obtain ⟨r, e1, e2, e3, e4⟩ := lpF_FU (f := fun q : Int × Int × Int × Dt => L_Mo_farOf_y48 q.1 q.2.1 q.2.2.1 q.2.2.2)
    (fun q => q.1 = (n : Int) ∧ q.2.1 = (m : Int) ∧ (1 ≤ q.2.2.1 ∧ q.2.2.1 ≤ (n : Int) + 1) ∧ (∀ k, k ≠ 6 → q.2.2.2 k = d k) ∧ ∀ k : Nat, (k : Int) ≤ (m : Int) → q.2.2.2 6 k = DD f g (q.2.2.1 - 1).toNat k)
    (fun q => ((n : Int) + 1 - q.2.2.1).toNat)
    (fun r => r.1 = (m : Int) ∧ (∀ k, k ≠ 6 → r.2 k = d k) ∧ r.2 6 m = DD f g n m)
    (by
      rintro ⟨y5, y6, y7, e⟩ ⟨i1, i2, i3, i4, i5⟩
      dsimp only at i1 i2 i3 i4 i5 ⊢
      subst i1
      subst i2
      unfold L_Mo_farOf_y48
      by_cases h : (n : Int) < y7
      · right
        rw [if_pos h]
        refine ⟨_, rfl, rfl, i4, ?_⟩
        dsimp only
        rw [i5 m (by omega), show (y7 - 1).toNat = n by omega]
      · left
        obtain ⟨i, hi⟩ : ∃ i : Nat, y7 = (i : Int) + 1 := ⟨(y7 - 1).toNat, by omega⟩
        subst hi
        have t : ((i : Int) + 1 - 1).toNat = i := by omega
        rw [t] at i5
        obtain ⟨e', a1, a2, a3⟩ := inB f g (n : Int) (m : Int) i e (by omega) ⟨by omega, by omega⟩ (by rw [i4 4 (by decide)]; exact h4 i (by omega)) (fun j hj => by rw [i4 5 (by decide)]; exact h5 j (by omega)) i5
        dsimp only [lt_]
        rw [if_neg h, a1, lb_s]
        dsimp only [u3]
        rw [w32_s (x := (i : Int) + 1 + 1) (by omega) (by omega)]
        refine ⟨_, rfl, ⟨rfl, rfl, ⟨by dsimp only; omega, by dsimp only; omega⟩, fun k hk => ?_, fun k hk => ?_⟩, by dsimp only; omega⟩
        · dsimp only
          rw [a2 k hk]; exact i4 k hk
        · dsimp only
          rw [a3 k hk, show ((i : Int) + 1 + 1 - 1).toNat = i + 1 by omega])
    ((n : Int), (m : Int), 1, d) ⟨rfl, rfl, ⟨(show (1 : Int) ≤ 1 by decide), by dsimp only; omega⟩, fun _ _ => rfl, fun k hk => by
      dsimp only
      rw [show ((1 : Int) - 1).toNat = 0 by rfl, DD_0]; exact h6 k hk⟩ (by dsimp only; omega)
  obtain ⟨r1, r2⟩ := r
  dsimp only at e2 e3 e4
  subst e2
  exact ⟨r2, e1, e3, e4⟩
theorem farB {p1 p2 : Int} (h1 : 0 ≤ p1 ∧ p1 < 1099511627776) (h2 : 0 ≤ p2 ∧ p2 < 1099511627776) (d : Dt) : ∃ d', L_Mo_farOf p1 p2 d = some (DD (fun i => shN i p1 % 32) (fun j => shN j p2 % 32) (dgN 8 p1) (dgN 8 p2), d') ∧ ∀ k, k ≠ 4 → k ≠ 5 → k ≠ 6 → d' k = d k := by
  have l1 := dgN_le 8 p1
  have l2 := dgN_le 8 p2
  obtain ⟨d1, a1, a2, a3⟩ := e_Mo_lettersOf 4 h1.1 h1.2 d
  obtain ⟨d2, b1, b2, b3⟩ := e_Mo_lettersOf 5 h2.1 h2.2 d1
  obtain ⟨d3, c1, c2, c3⟩ := initB (dgN 8 p1 : Int) (dgN 8 p2 : Int) ⟨by omega, by omega⟩ d2
  obtain ⟨d4, o1, o2, o3⟩ := outB (fun i => shN i p1 % 32) (fun j => shN j p2 % 32) (dgN 8 p1) (dgN 8 p2) l1 l2 d3 (fun i hi => by rw [c2 4 (by decide), b2 4 (by decide)]; exact a3 i hi) (fun j hj => by rw [c2 5 (by decide)]; exact b3 j hj) c3
  refine ⟨d4, ?_, fun k k4 k5 k6 => by rw [o2 k k6, c2 k k6, b2 k k5, a2 k k4]⟩
  unfold L_Mo_farOf
  rw [a1, bd_s, b1, bd_s, c1, lb_s]
  dsimp only [u2]
  rw [o1, lb_s]
  dsimp only [u1]
  rw [ck_pos ⟨by omega, by omega⟩, show ((dgN 8 p2 : Nat) : Int).toNat = dgN 8 p2 by omega, o3]
