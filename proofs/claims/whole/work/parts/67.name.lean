/-! a NAME: both ways to tell it -/
def okN : Nat → Int → Bool
  | 0, n => decide (n = 0)
  | k + 1, n => if n = 0 then true else if 1 ≤ n % 32 ∧ n % 32 ≤ 26 then okN k (n / 32) else false
def dgN : Nat → Int → Nat
  | 0, _ => 0
  | k + 1, n => if n ≤ 0 then 0 else 1 + dgN k (n / 32)
theorem okN_up : ∀ (k : Nat) (y : Int), 0 ≤ y → y < 32 ^ k → okN (k + 1) y = okN k y
  | 0, y, h0, h1 => by
    have hy : y = 0 := by have : (32 : Int) ^ 0 = 1 := rfl; omega
    subst hy; rfl
  | k + 1, y, h0, h1 => by
    have ih := okN_up k (y / 32) (by omega) (by rw [Int.pow_succ] at h1; omega)
    show (if y = 0 then true else if 1 ≤ y % 32 ∧ y % 32 ≤ 26 then okN (k + 1) (y / 32) else false) = (if y = 0 then true else if 1 ≤ y % 32 ∧ y % 32 ≤ 26 then okN k (y / 32) else false)
    rw [ih]
theorem dgN_up : ∀ (k : Nat) (y : Int), 0 ≤ y → y < 32 ^ k → dgN (k + 1) y = dgN k y
  | 0, y, h0, h1 => by
    have hy : y = 0 := by have : (32 : Int) ^ 0 = 1 := rfl; omega
    subst hy; rfl
  | k + 1, y, h0, h1 => by
    have ih := dgN_up k (y / 32) (by omega) (by rw [Int.pow_succ] at h1; omega)
    show (if y ≤ 0 then 0 else 1 + dgN (k + 1) (y / 32)) = (if y ≤ 0 then 0 else 1 + dgN k (y / 32))
    rw [ih]
theorem dgN_le : ∀ (k : Nat) (y : Int), dgN k y ≤ k
  | 0, _ => Nat.le_refl 0
  | k + 1, y => by
    have ih := dgN_le k (y / 32)
    show (if y ≤ 0 then 0 else 1 + dgN k (y / 32)) ≤ k + 1
    split <;> omega
theorem okN_s (k : Nat) (n : Int) : okN (k + 1) n = if n = 0 then true else if 1 ≤ n % 32 ∧ n % 32 ≤ 26 then okN k (n / 32) else false := rfl
theorem e_PB_isName (p : Int) (d : Dt) (hp : c64 p) : L_PB_isName p d = some (if p ≠ 0 ∧ okN 8 (p % 18446744073709551616) = true then 1 else 0, d) := by
  obtain ⟨r, e1, e2⟩ := lpF_FU (f := fun q : Int × Int × Int × Dt => L_PB_isName_y5 q.1 q.2.1 q.2.2.1 q.2.2.2)
    (fun q => q.1 = p ∧ c64 q.2.1 ∧ (0 ≤ q.2.2.1 ∧ q.2.2.1 ≤ 8) ∧ q.2.2.2 = d ∧ okN 8 (p % 18446744073709551616) = okN (8 - q.2.2.1).toNat (q.2.1 % 18446744073709551616))
    (fun q => (8 - q.2.2.1).toNat)
    (fun r => (∃ x, r = Sum.inl (p, x, d) ∧ okN 8 (p % 18446744073709551616) = decide (x = 0)) ∨ (r = Sum.inr d ∧ okN 8 (p % 18446744073709551616) = false))
    (by
      rintro ⟨y0, y2, y4, e⟩ ⟨i1, i2, i3, i4, i5⟩
      dsimp only at i1 i2 i3 i4 i5 ⊢
      subst i1
      subst i4
      obtain ⟨g1, g2⟩ := i2
      unfold L_PB_isName_y5
      by_cases h : y4 < 8
      · rw [if_pos h]
        have hk : (8 - y4).toNat = (8 - (y4 + 1)).toNat + 1 := by omega
        rw [hk, okN_s _ (y2 % 18446744073709551616)] at i5
        by_cases hz : y2 = 0
        · right
          rw [if_pos hz]
          subst hz
          exact ⟨_, rfl, Or.inl ⟨0, rfl, by rw [i5]; rfl⟩⟩
        · have hz2 : ¬ y2 % 18446744073709551616 = 0 := by omega
          have hm : y2 % 18446744073709551616 % 32 = y2 % 32 := by omega
          rw [if_neg hz2, hm] at i5
          rw [if_neg hz, land31, within_e, bd_s]
          by_cases hl : 1 ≤ y2 % 32 ∧ y2 % 32 ≤ 26
          · left
            rw [if_pos hl] at i5
            rw [if_pos hl, if_neg (show ¬ (1 : Int) = 0 by decide), lushr5, w32_s (x := y4 + 1) (by omega) (by omega)]
            refine ⟨_, rfl, ⟨rfl, ⟨by dsimp only; omega, by dsimp only; omega⟩, ⟨by dsimp only; omega, by dsimp only; omega⟩, rfl, ?_⟩, by dsimp only; omega⟩
            dsimp only
            rw [i5]
            congr 1
            omega
          · right
            rw [if_neg hl] at i5
            rw [if_neg hl, if_pos (show (0 : Int) = 0 by rfl)]
            exact ⟨_, rfl, Or.inr ⟨rfl, i5⟩⟩
      · right
        rw [if_neg h]
        have hk : (8 - y4).toNat = 0 := by omega
        rw [hk] at i5
        refine ⟨_, rfl, Or.inl ⟨y2, rfl, ?_⟩⟩
        rw [i5]
        show decide (y2 % 18446744073709551616 = 0) = decide (y2 = 0)
        by_cases hz : y2 = 0
        · subst hz; rfl
        · rw [decide_eq_false hz, decide_eq_false (show ¬ y2 % 18446744073709551616 = 0 by omega)])
    (p, p, 0, d) ⟨rfl, hp, ⟨(show (0 : Int) ≤ 0 by decide), (show (0 : Int) ≤ 8 by decide)⟩, rfl, rfl⟩ (show (8 - (0 : Int)).toNat < 1000000 by decide)
  unfold L_PB_isName L_PB_isName_l5
  rw [e1, lb_s]
  rcases e2 with ⟨x, rfl, hx⟩ | ⟨rfl, hx⟩
  · unfold sm u2 L_PB_isName_b45
    dsimp only
    rw [hx]
    by_cases h0 : p = 0
    · rw [if_pos h0, if_neg (fun q => q.1 h0)]
    · rw [if_neg h0]
      by_cases hz : x = 0
      · rw [if_pos hz, if_pos ⟨h0, decide_eq_true hz⟩]
      · rw [if_neg hz, if_neg (fun q => by rw [decide_eq_false hz] at q; exact Bool.noConfusion q.2)]
  · unfold sm u0
    dsimp only
    rw [hx, if_neg (fun q => Bool.noConfusion q.2)]
theorem e_Mo_isName (p : Int) (d : Dt) (hp : c64 p) : L_Mo_isName p d = some (if 1 ≤ p ∧ p < 1099511627776 ∧ okN 8 p = true then 1 else 0, d) := by
  unfold L_Mo_isName
  by_cases h1 : p < 1
  · rw [if_pos h1, if_neg (by omega)]
  · rw [if_neg h1]
    by_cases h2 : p < 1099511627776
    · rw [if_pos h2]
      obtain ⟨r, e1, e2⟩ := lpF_FU (f := fun q : Int × Int × Dt => L_Mo_isName_y20 q.1 q.2.1 q.2.2)
        (fun q => (0 ≤ q.2.1 ∧ q.2.1 < 1099511627776) ∧ q.2.2 = d ∧ ((q.1 = 1 ∧ okN 8 p = okN 8 q.2.1) ∨ (q.1 = 0 ∧ okN 8 p = false)))
        (fun q => dgN 8 q.2.1)
        (fun r => r = (if okN 8 p = true then 1 else 0, d))
        (by
          rintro ⟨y2, y3, e⟩ ⟨i1, i2, i3⟩
          dsimp only at i1 i2 i3 ⊢
          subst i2
          unfold L_Mo_isName_y20 L_Mo_isName_b57
          by_cases h : 0 < y3
          · left
            have hs : lshr y3 5 = y3 / 32 := lshr_n 5 (by decide) ⟨by omega, by omega⟩
            have q7 : (32 : Int) ^ 7 = 34359738368 := by decide
            have ho := okN_up 7 (y3 / 32) (by omega) (by rw [q7]; omega)
            have hd : dgN 8 (y3 / 32) < dgN 8 y3 := by
              rw [dgN_up 7 (y3 / 32) (by omega) (by rw [q7]; omega)]
              show dgN 7 (y3 / 32) < (if y3 ≤ 0 then 0 else 1 + dgN 7 (y3 / 32))
              rw [if_neg (by omega)]; omega
            rw [if_pos h, hs, land31]
            rcases i3 with ⟨rfl, i3⟩ | ⟨rfl, i3⟩
            · rw [okN_s _ y3, if_neg (show ¬ y3 = 0 by omega)] at i3
              rw [if_neg (show ¬ (1 : Int) = 0 by decide)]
              by_cases l1 : y3 % 32 < 1
              · rw [if_pos l1]
                rw [if_neg (by omega)] at i3
                exact ⟨_, rfl, ⟨⟨by dsimp only; omega, by dsimp only; omega⟩, rfl, Or.inr ⟨rfl, i3⟩⟩, hd⟩
              · rw [if_neg l1]
                by_cases l2 : 26 < y3 % 32
                · rw [if_pos l2]
                  rw [if_neg (by omega)] at i3
                  exact ⟨_, rfl, ⟨⟨by dsimp only; omega, by dsimp only; omega⟩, rfl, Or.inr ⟨rfl, i3⟩⟩, hd⟩
                · rw [if_neg l2]
                  rw [if_pos (by omega)] at i3
                  exact ⟨_, rfl, ⟨⟨by dsimp only; omega, by dsimp only; omega⟩, rfl, Or.inl ⟨rfl, i3.trans ho.symm⟩⟩, hd⟩
            · rw [if_pos (show (0 : Int) = 0 by rfl)]
              exact ⟨_, rfl, ⟨⟨by dsimp only; omega, by dsimp only; omega⟩, rfl, Or.inr ⟨rfl, i3⟩⟩, hd⟩
          · right
            rw [if_neg h]
            have hy : y3 = 0 := by omega
            subst hy
            refine ⟨_, rfl, ?_⟩
            rcases i3 with ⟨rfl, i3⟩ | ⟨rfl, i3⟩
            · rw [i3]; rfl
            · rw [i3]; rfl)
        (1, p, d) ⟨⟨by dsimp only; omega, h2⟩, rfl, Or.inl ⟨rfl, rfl⟩⟩ (Nat.lt_of_le_of_lt (dgN_le 8 p) (by decide))
      unfold L_Mo_isName_l20
      rw [e1, lb_s, e2]
      unfold u1
      dsimp only
      by_cases ho : okN 8 p = true
      · rw [if_pos ho, if_pos ⟨by omega, h2, ho⟩]
      · rw [if_neg ho, if_neg (fun q => ho q.2.2)]
    · rw [if_neg h2, if_neg (by omega)]
