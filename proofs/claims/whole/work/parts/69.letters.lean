/-! letters of a NAME -/
def shN : Nat → Int → Int
  | 0, p => p
  | k + 1, p => shN k p / 32
theorem shN_8 {p : Int} (h0 : 0 ≤ p) (h1 : p < 1099511627776) : shN 8 p = 0 := by
  show p / 32 / 32 / 32 / 32 / 32 / 32 / 32 / 32 = 0
  omega
theorem shN_b {p : Int} (h0 : 0 ≤ p) (h1 : p < 1099511627776) : ∀ k, 0 ≤ shN k p ∧ shN k p < 1099511627776
  | 0 => ⟨h0, h1⟩
  | k + 1 => by
    have ih := shN_b h0 h1 k
    show 0 ≤ shN k p / 32 ∧ shN k p / 32 < 1099511627776
    omega
theorem dgN_0 : ∀ k, dgN k 0 = 0
  | 0 => rfl
  | _ + 1 => rfl
theorem lshr_k {p : Int} (h0 : 0 ≤ p) (h1 : p < 1099511627776) (k : Nat) (hk : k < 8) : lshr p (5 * (k : Int)) = shN k p := by
  have hc : c64 p := ⟨by omega, by omega⟩
  have hh : k = 0 ∨ k = 1 ∨ k = 2 ∨ k = 3 ∨ k = 4 ∨ k = 5 ∨ k = 6 ∨ k = 7 := by omega
  rcases hh with rfl | rfl | rfl | rfl | rfl | rfl | rfl | rfl
  · have e := lshr_n (a := p) 0 (by decide) hc
    have q : (2 : Int) ^ 0 = 1 := by decide
    rw [q] at e
    show lshr p 0 = p
    rw [show (((0 : Nat) : Int)) = 0 by rfl] at e
    omega
  · have e := lshr_n (a := p) 5 (by decide) hc
    have q : (2 : Int) ^ 5 = 32 := by decide
    rw [q] at e
    show lshr p 5 = p / 32
    rw [show (((5 : Nat) : Int)) = 5 by rfl] at e
    omega
  · have e := lshr_n (a := p) 10 (by decide) hc
    have q : (2 : Int) ^ 10 = 1024 := by decide
    rw [q] at e
    show lshr p 10 = p / 32 / 32
    rw [show (((10 : Nat) : Int)) = 10 by rfl] at e
    omega
  · have e := lshr_n (a := p) 15 (by decide) hc
    have q : (2 : Int) ^ 15 = 32768 := by decide
    rw [q] at e
    show lshr p 15 = p / 32 / 32 / 32
    rw [show (((15 : Nat) : Int)) = 15 by rfl] at e
    omega
  · have e := lshr_n (a := p) 20 (by decide) hc
    have q : (2 : Int) ^ 20 = 1048576 := by decide
    rw [q] at e
    show lshr p 20 = p / 32 / 32 / 32 / 32
    rw [show (((20 : Nat) : Int)) = 20 by rfl] at e
    omega
  · have e := lshr_n (a := p) 25 (by decide) hc
    have q : (2 : Int) ^ 25 = 33554432 := by decide
    rw [q] at e
    show lshr p 25 = p / 32 / 32 / 32 / 32 / 32
    rw [show (((25 : Nat) : Int)) = 25 by rfl] at e
    omega
  · have e := lshr_n (a := p) 30 (by decide) hc
    have q : (2 : Int) ^ 30 = 1073741824 := by decide
    rw [q] at e
    show lshr p 30 = p / 32 / 32 / 32 / 32 / 32 / 32
    rw [show (((30 : Nat) : Int)) = 30 by rfl] at e
    omega
  · have e := lshr_n (a := p) 35 (by decide) hc
    have q : (2 : Int) ^ 35 = 34359738368 := by decide
    rw [q] at e
    show lshr p 35 = p / 32 / 32 / 32 / 32 / 32 / 32 / 32
    rw [show (((35 : Nat) : Int)) = 35 by rfl] at e
    omega
theorem e_PB_lettersOf {p : Int} (h0 : 0 ≤ p) (h1 : p < 1099511627776) (d : Dt) : L_PB_lettersOf p d = some ((dgN 8 p : Int), d) := by
  obtain ⟨r, e1, e2⟩ := lpF_FU (f := fun q : Int × Int × Dt => L_PB_lettersOf_y2 q.1 q.2.1 q.2.2)
    (fun q => q.1 = p ∧ (0 ≤ q.2.1 ∧ q.2.1 ≤ 8) ∧ q.2.2 = d ∧ (dgN 8 p : Int) = q.2.1 + (dgN (8 - q.2.1).toNat (shN q.2.1.toNat p) : Int))
    (fun q => (8 - q.2.1).toNat)
    (fun r => r = ((dgN 8 p : Int), d))
    (by
      rintro ⟨y0, y2, e⟩ ⟨i1, i2, i3, i4⟩
      dsimp only at i1 i2 i3 i4 ⊢
      subst i1
      subst i3
      unfold L_PB_lettersOf_y2
      by_cases h : y2 < 8
      · have hk := lshr_k h0 h1 y2.toNat (by omega)
        rw [show ((y2.toNat : Nat) : Int) = y2 by omega] at hk
        have hb := shN_b h0 h1 y2.toNat
        rw [if_pos h, w32_s (x := 5 * y2) (by omega) (by omega), hk]
        by_cases hz : shN y2.toNat y0 = 0
        · right
          rw [if_pos hz]
          rw [hz, dgN_0] at i4
          refine ⟨_, rfl, ?_⟩
          rw [i4]
          simp
        · left
          rw [if_neg hz, w32_s (x := y2 + 1) (by omega) (by omega)]
          refine ⟨_, rfl, ⟨rfl, ⟨by dsimp only; omega, by dsimp only; omega⟩, rfl, ?_⟩, by dsimp only; omega⟩
          dsimp only
          have k1 : (8 - y2).toNat = (8 - (y2 + 1)).toNat + 1 := by omega
          have k2 : (y2 + 1).toNat = y2.toNat + 1 := by omega
          rw [k1] at i4
          rw [k2]
          show (dgN 8 y0 : Int) = y2 + 1 + (dgN (8 - (y2 + 1)).toNat (shN y2.toNat y0 / 32) : Int)
          have k3 : dgN ((8 - (y2 + 1)).toNat + 1) (shN y2.toNat y0) = 1 + dgN (8 - (y2 + 1)).toNat (shN y2.toNat y0 / 32) := by
            show (if shN y2.toNat y0 ≤ 0 then 0 else 1 + dgN (8 - (y2 + 1)).toNat (shN y2.toNat y0 / 32)) = _
            rw [if_neg (by omega)]
          rw [k3] at i4
          omega
      · right
        rw [if_neg h]
        have hy : y2 = 8 := by omega
        subst hy
        refine ⟨_, rfl, ?_⟩
        rw [i4]
        rfl)
    (p, 0, d) ⟨rfl, ⟨(show (0 : Int) ≤ 0 by decide), (show (0 : Int) ≤ 8 by decide)⟩, rfl, (show (dgN 8 p : Int) = 0 + (dgN 8 p : Int) by omega)⟩ (show (8 - (0 : Int)).toNat < 1000000 by decide)
  unfold L_PB_lettersOf L_PB_lettersOf_l2
  rw [e1, lb_s, e2]
  rfl
theorem e_Mo_lettersOf (arr : Nat) {p : Int} (h0 : 0 ≤ p) (h1 : p < 1099511627776) (d : Dt) : ∃ d', L_Mo_lettersOf arr 8 p d = some ((dgN 8 p : Int), d') ∧ (∀ k, k ≠ arr → d' k = d k) ∧ ∀ j : Nat, j < dgN 8 p → d' arr j = shN j p % 32 := by
  obtain ⟨r, e1, e2, e3, e4⟩ := lpF_FU (f := fun q : Int × Int × Dt => L_Mo_lettersOf_y5 arr 8 q.1 q.2.1 q.2.2)
    (fun q => (0 ≤ q.1 ∧ q.1 ≤ 8) ∧ q.2.1 = shN q.1.toNat p ∧ (dgN 8 p : Int) = q.1 + (dgN (8 - q.1).toNat q.2.1 : Int) ∧ (∀ k, k ≠ arr → q.2.2 k = d k) ∧ ∀ j : Nat, (j : Int) < q.1 → q.2.2 arr j = shN j p % 32)
    (fun q => (8 - q.1).toNat)
    (fun r => r.1 = (dgN 8 p : Int) ∧ (∀ k, k ≠ arr → r.2 k = d k) ∧ ∀ j : Nat, j < dgN 8 p → r.2 arr j = shN j p % 32)
    (by
      rintro ⟨y3, y4, e⟩ ⟨i1, i2, i3, i4, i5⟩
      dsimp only at i1 i2 i3 i4 i5 ⊢
      have hb := shN_b h0 h1 y3.toNat
      rw [← i2] at hb
      unfold L_Mo_lettersOf_y5
      by_cases h : 0 < y4
      · left
        have h8 : y3 < 8 := by
          rcases Int.lt_or_le y3 8 with g | g
          · exact g
          · exfalso
            have hy : y3 = 8 := by omega
            subst hy
            have := shN_8 h0 h1
            have h9 : y4 = 0 := i2.trans this
            omega
        have hs : lshr y4 5 = y4 / 32 := lshr_n 5 (by decide) ⟨by omega, by omega⟩
        rw [if_pos h, ck_pos ⟨i1.1, h8⟩, hs, land31, w32_s (x := y4 % 32) (by omega) (by omega), w32_s (x := y3 + 1) (by omega) (by omega)]
        have k1 : (8 - y3).toNat = (8 - (y3 + 1)).toNat + 1 := by omega
        have k2 : (y3 + 1).toNat = y3.toNat + 1 := by omega
        refine ⟨_, rfl, ⟨⟨by dsimp only; omega, by dsimp only; omega⟩, ?_, ?_, fun k hk => ?_, fun j hj => ?_⟩, by dsimp only; omega⟩
        · dsimp only
          rw [k2, i2]; rfl
        · dsimp only
          rw [k1] at i3
          have k3 : dgN ((8 - (y3 + 1)).toNat + 1) y4 = 1 + dgN (8 - (y3 + 1)).toNat (y4 / 32) := by
            show (if y4 ≤ 0 then 0 else 1 + dgN (8 - (y3 + 1)).toNat (y4 / 32)) = _
            rw [if_neg (by omega)]
          rw [k3] at i3
          omega
        · dsimp only
          rw [up2_K _ _ _ hk]; exact i4 k hk
        · dsimp only at hj ⊢
          by_cases hp : j = y3.toNat
          · subst hp; rw [up2_s, i2]
          · rw [up2_j _ _ _ hp]; exact i5 j (by omega)
      · right
        rw [if_neg h]
        have hz : y4 = 0 := by omega
        rw [hz, dgN_0] at i3
        exact ⟨_, rfl, by dsimp only; omega, i4, fun j hj => i5 j (by omega)⟩)
    (0, p, d) ⟨⟨(show (0 : Int) ≤ 0 by decide), (show (0 : Int) ≤ 8 by decide)⟩, rfl, (show (dgN 8 p : Int) = 0 + (dgN 8 p : Int) by omega), fun _ _ => rfl, fun j hj => by dsimp only at hj; omega⟩ (show (8 - (0 : Int)).toNat < 1000000 by decide)
  obtain ⟨r1, r2⟩ := r
  dsimp only at e2 e3 e4
  subst e2
  refine ⟨r2, ?_, e3, e4⟩
  unfold L_Mo_lettersOf L_Mo_lettersOf_l5
  rw [e1, lb_s]
  rfl
