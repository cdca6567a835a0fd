/-! feed, pour -/
theorem app_A (p : Int) (d : Dt) (h0 : 0 ≤ d 25 1) (h1 : d 25 1 + 4 ≤ 600) : ∃ d', L_Pa_append p d = some (0, d') ∧ d' 25 1 = d 25 1 + 4 ∧ ((∀ k, k ≠ 25 → k ≠ 26 → d' k = d k) ∧ (∀ j, j ≠ 1 → d' 25 j = d 25 j)) ∧ ∀ j : Nat, d' 26 j = if d 25 1 ≤ (j : Int) ∧ (j : Int) < d 25 1 + 4 then w8 (w8 (ishr p (24 - 8 * ((j : Int) - d 25 1)))) else d 26 j := by
  obtain ⟨r, e1, e2⟩ := lpF_FU (f := fun q : Int × Int × Dt => L_Pa_append_y3 q.1 q.2.1 q.2.2)
    (fun q => q.1 = p ∧ q.2.1 = 24 - 8 * (q.2.2 25 1 - d 25 1) ∧ (d 25 1 ≤ q.2.2 25 1 ∧ q.2.2 25 1 ≤ d 25 1 + 4) ∧ ((∀ k, k ≠ 25 → k ≠ 26 → q.2.2 k = d k) ∧ (∀ j, j ≠ 1 → q.2.2 25 j = d 25 j)) ∧ ∀ j : Nat, q.2.2 26 j = if d 25 1 ≤ (j : Int) ∧ (j : Int) < q.2.2 25 1 then w8 (w8 (ishr p (24 - 8 * ((j : Int) - d 25 1)))) else d 26 j)
    (fun q => (d 25 1 + 4 - q.2.2 25 1).toNat)
    (fun r => r 25 1 = d 25 1 + 4 ∧ ((∀ k, k ≠ 25 → k ≠ 26 → r k = d k) ∧ (∀ j, j ≠ 1 → r 25 j = d 25 j)) ∧ ∀ j : Nat, r 26 j = if d 25 1 ≤ (j : Int) ∧ (j : Int) < d 25 1 + 4 then w8 (w8 (ishr p (24 - 8 * ((j : Int) - d 25 1)))) else d 26 j)
    (by
      rintro ⟨y1, y2, e⟩ ⟨i1, i2, i3, i4, i5⟩
      dsimp only at i1 i2 i3 i4 i5 ⊢
      subst i1
      unfold L_Pa_append_y3
      by_cases h : y2 < 0
      · right
        rw [if_pos h]
        have hx : e 25 1 = d 25 1 + 4 := by omega
        simp only [hx] at i5
        exact ⟨_, rfl, hx, i4, i5⟩
      · left
        have hw : w32 (y2 + (-8)) = y2 + (-8) := w32_s (by omega) (by omega)
        have hw2 : w32 (e 25 1 + 1) = e 25 1 + 1 := w32_s (by omega) (by omega)
        rw [if_neg h, if_pos (show e 25 1 < 600 by omega), ck_pos ⟨by omega, by omega⟩, hw, hw2]
        refine ⟨_, rfl, ⟨rfl, ?_, ?_, ⟨fun k hk hk2 => ?_, fun j hj => ?_⟩, fun j => ?_⟩, ?_⟩
        · dsimp only; rw [up2_s]; omega
        · dsimp only; rw [up2_s]; omega
        · dsimp only; rw [up2_K _ _ _ hk, up2_K _ _ _ hk2]; exact i4.1 k hk hk2
        · dsimp only; rw [up2_j _ _ _ hj, up2_k _ _ _ _ (show (25 : Nat) ≠ 26 by decide)]; exact i4.2 j hj
        · dsimp only
          simp only [up2_s, up2_k _ _ _ _ (show (26 : Nat) ≠ 25 by decide)]
          by_cases hj : j = (e 25 1).toNat
          · subst hj
            rw [up2_s, if_pos (by omega)]
            have hy : (24 - 8 * ((((e 25 1).toNat : Nat) : Int) - d 25 1)) = y2 := by omega
            rw [hy]
          · rw [up2_j _ _ _ hj, i5 j]
            by_cases h2 : d 25 1 ≤ (j : Int) ∧ (j : Int) < e 25 1
            · rw [if_pos h2, if_pos (by omega)]
            · rw [if_neg h2, if_neg (by omega)]
        · dsimp only; rw [up2_s]; omega)
    (p, 24, d) ⟨rfl, by dsimp only; omega, by dsimp only; omega, ⟨fun _ _ _ => rfl, fun _ _ => rfl⟩, fun j => by dsimp only; rw [if_neg (by omega)]⟩ (by dsimp only; omega)
  refine ⟨r, ?_, e2⟩
  unfold L_Pa_append L_Pa_append_l3
  rw [e1]
  rfl
theorem app_B (p : Int) (d : Dt) (h0 : 0 ≤ d 0 32) (h1 : d 0 32 + 4 ≤ 600) : ∃ d', L_Mo_four p d = some (0, d') ∧ d' 0 32 = d 0 32 + 4 ∧ ((∀ k, k ≠ 0 → k ≠ 24 → d' k = d k) ∧ (∀ j, j ≠ 32 → d' 0 j = d 0 j)) ∧ ∀ j : Nat, d' 24 j = if d 0 32 ≤ (j : Int) ∧ (j : Int) < d 0 32 + 4 then w8 (w8 (ishr p (24 - 8 * ((j : Int) - d 0 32)))) else d 24 j := by
  obtain ⟨r, e1, e2⟩ := lpF_FU (f := fun q : Int × Int × Dt => L_Mo_four_y3 q.1 q.2.1 q.2.2)
    (fun q => q.1 = p ∧ q.2.1 = 24 - 8 * (q.2.2 0 32 - d 0 32) ∧ (d 0 32 ≤ q.2.2 0 32 ∧ q.2.2 0 32 ≤ d 0 32 + 4) ∧ ((∀ k, k ≠ 0 → k ≠ 24 → q.2.2 k = d k) ∧ (∀ j, j ≠ 32 → q.2.2 0 j = d 0 j)) ∧ ∀ j : Nat, q.2.2 24 j = if d 0 32 ≤ (j : Int) ∧ (j : Int) < q.2.2 0 32 then w8 (w8 (ishr p (24 - 8 * ((j : Int) - d 0 32)))) else d 24 j)
    (fun q => (d 0 32 + 4 - q.2.2 0 32).toNat)
    (fun r => r 0 32 = d 0 32 + 4 ∧ ((∀ k, k ≠ 0 → k ≠ 24 → r k = d k) ∧ (∀ j, j ≠ 32 → r 0 j = d 0 j)) ∧ ∀ j : Nat, r 24 j = if d 0 32 ≤ (j : Int) ∧ (j : Int) < d 0 32 + 4 then w8 (w8 (ishr p (24 - 8 * ((j : Int) - d 0 32)))) else d 24 j)
    (by
      rintro ⟨y1, y2, e⟩ ⟨i1, i2, i3, i4, i5⟩
      dsimp only at i1 i2 i3 i4 i5 ⊢
      subst i1
      unfold L_Mo_four_y3
      by_cases h : y2 < 0
      · right
        rw [if_pos h]
        have hx : e 0 32 = d 0 32 + 4 := by omega
        simp only [hx] at i5
        exact ⟨_, rfl, hx, i4, i5⟩
      · left
        have hw : w32 (y2 + (-8)) = y2 + (-8) := w32_s (by omega) (by omega)
        have hw2 : w32 (e 0 32 + 1) = e 0 32 + 1 := w32_s (by omega) (by omega)
        rw [if_neg h, ck_pos ⟨by omega, by omega⟩, hw, hw2]
        refine ⟨_, rfl, ⟨rfl, ?_, ?_, ⟨fun k hk hk2 => ?_, fun j hj => ?_⟩, fun j => ?_⟩, ?_⟩
        · dsimp only; rw [up2_s]; omega
        · dsimp only; rw [up2_s]; omega
        · dsimp only; rw [up2_K _ _ _ hk, up2_K _ _ _ hk2]; exact i4.1 k hk hk2
        · dsimp only; rw [up2_j _ _ _ hj, up2_k _ _ _ _ (show (0 : Nat) ≠ 24 by decide)]; exact i4.2 j hj
        · dsimp only
          simp only [up2_s, up2_k _ _ _ _ (show (24 : Nat) ≠ 0 by decide)]
          by_cases hj : j = (e 0 32).toNat
          · subst hj
            rw [up2_s, if_pos (by omega)]
            have hy : (24 - 8 * ((((e 0 32).toNat : Nat) : Int) - d 0 32)) = y2 := by omega
            rw [hy]
          · rw [up2_j _ _ _ hj, i5 j]
            by_cases h2 : d 0 32 ≤ (j : Int) ∧ (j : Int) < e 0 32
            · rw [if_pos h2, if_pos (by omega)]
            · rw [if_neg h2, if_neg (by omega)]
        · dsimp only; rw [up2_s]; omega)
    (p, 24, d) ⟨rfl, by dsimp only; omega, by dsimp only; omega, ⟨fun _ _ _ => rfl, fun _ _ => rfl⟩, fun j => by dsimp only; rw [if_neg (by omega)]⟩ (by dsimp only; omega)
  refine ⟨r, ?_, e2⟩
  unfold L_Mo_four L_Mo_four_l3
  rw [e1]
  rfl
def RA (dA dB : Dt) : Prop := dA 25 1 = dB 0 32 ∧ (0 ≤ dB 0 32 ∧ dB 0 32 ≤ 600) ∧ ∀ i : Nat, (i : Int) < dB 0 32 → dA 26 i = dB 24 i
theorem app_AB (p : Int) {dA dB : Dt} (hS : RS dA dB) (hR : RA dA dB) (h : dB 0 32 + 4 ≤ 600) : ∃ dA' dB', L_Pa_append p dA = some (0, dA') ∧ L_Mo_four p dB = some (0, dB') ∧ RS dA' dB' ∧ RA dA' dB' ∧ dB' 0 32 = dB 0 32 + 4 := by
  obtain ⟨r1, r2, r3⟩ := id hR
  obtain ⟨eA, a1, a2, a3, a4⟩ := app_A p dA (by omega) (by omega)
  obtain ⟨eB, b1, b2, b3, b4⟩ := app_B p dB (by omega) (by omega)
  refine ⟨eA, eB, a1, b1, ?_, ⟨by omega, by omega, fun i hi => ?_⟩, b2⟩
  · unfold RS at hS ⊢
    rw [a3.1 0 (by decide) (by decide), b3.2 0 (by decide)]; exact hS
  · rw [a4 i, b4 i, r1]
    by_cases hc : dB 0 32 ≤ (i : Int) ∧ (i : Int) < dB 0 32 + 4
    · rw [if_pos hc, if_pos hc]
    · rw [if_neg hc, if_neg hc]; exact r3 i (by omega)
theorem T_feed {p1 p2 p3 p4 p5 : Int} {dA dB : Dt} (hS : RS dA dB) (hR : RA dA dB) : ∃ (r : Int) (dA' dB' : Dt), L_PB_feed p1 p2 p3 p4 p5 dA = some (r, dA') ∧ L_Mo_feed p1 p2 p3 p4 p5 dB = some (r, dB') ∧ RS dA' dB' ∧ RA dA' dB' := by
  obtain ⟨r1, r2, r3⟩ := id hR
  have hw : w32 (dB 0 32 + 20) = dB 0 32 + 20 := w32_s (by omega) (by omega)
  unfold L_PB_feed L_Mo_feed L_Pa_hasRoom L_Pa_taped
  rw [r1, hw]
  by_cases h : 600 < dB 0 32 + 20
  · rw [if_pos h, if_pos h, bd_s, if_pos rfl]
    exact ⟨_, _, _, rfl, rfl, hS, hR⟩
  · rw [if_neg h, if_neg h, bd_s, if_neg (show ¬ (1 : Int) = 0 by decide)]
    obtain ⟨A1, B1, a1, b1, s1, q1, c1⟩ := app_AB p1 hS hR (by omega)
    obtain ⟨A2, B2, a2, b2, s2, q2, c2⟩ := app_AB p2 s1 q1 (by omega)
    obtain ⟨A3, B3, a3, b3, s3, q3, c3⟩ := app_AB p3 s2 q2 (by omega)
    obtain ⟨A4, B4, a4, b4, s4, q4, c4⟩ := app_AB p4 s3 q3 (by omega)
    obtain ⟨A5, B5, a5, b5, s5, q5, c5⟩ := app_AB p5 s4 q4 (by omega)
    rw [a1, b1, bd_s, bd_s, a2, b2, bd_s, bd_s, a3, b3, bd_s, bd_s, a4, b4, bd_s, bd_s, a5, b5, bd_s, bd_s, bd_s, q5.1]
    exact ⟨_, _, _, rfl, rfl, s5, q5⟩
theorem pour_fw (p1 p2 p3 p4 p5 : Int) (d : Dt) (h1 : 0 ≤ p1 ∧ p1 < 4) (h3 : 0 ≤ p3 ∧ p3 < 4) (h2 : 0 ≤ p2 ∧ p2 + p5 ≤ 60) (h4 : 0 ≤ p4 ∧ p4 + p5 ≤ 60) (h5 : 0 ≤ p5) (hd : ¬ p2 < p4) : ∃ d', L_Mo_pour_l118 p1 p2 p3 p4 p5 0 d = some d' ∧ (∀ k, k ≠ 3 → d' k = d k) ∧ ∀ j : Nat, d' 3 j = if 60 * p3 + p4 ≤ (j : Int) ∧ (j : Int) < 60 * p3 + p4 + p5 then d 3 (60 * p1 + p2 + ((j : Int) - (60 * p3 + p4))).toNat else d 3 j := by
  unfold L_Mo_pour_l118
  obtain ⟨r, e1, e2⟩ := lpF_FU (f := fun q : Int × Int × Int × Int × Int × Int × Dt => L_Mo_pour_y118 q.1 q.2.1 q.2.2.1 q.2.2.2.1 q.2.2.2.2.1 q.2.2.2.2.2.1 q.2.2.2.2.2.2)
    (fun q => q.1 = p1 ∧ q.2.1 = p2 ∧ q.2.2.1 = p3 ∧ q.2.2.2.1 = p4 ∧ q.2.2.2.2.1 = p5 ∧ (0 ≤ q.2.2.2.2.2.1 ∧ q.2.2.2.2.2.1 ≤ p5) ∧ (∀ k, k ≠ 3 → q.2.2.2.2.2.2 k = d k) ∧ ∀ j : Nat, q.2.2.2.2.2.2 3 j = if 60 * p3 + p4 ≤ (j : Int) ∧ (j : Int) < 60 * p3 + p4 + q.2.2.2.2.2.1 then d 3 (60 * p1 + p2 + ((j : Int) - (60 * p3 + p4))).toNat else d 3 j)
    (fun q => (p5 - q.2.2.2.2.2.1).toNat)
    (fun r => (∀ k, k ≠ 3 → r k = d k) ∧ ∀ j : Nat, r 3 j = if 60 * p3 + p4 ≤ (j : Int) ∧ (j : Int) < 60 * p3 + p4 + p5 then d 3 (60 * p1 + p2 + ((j : Int) - (60 * p3 + p4))).toNat else d 3 j)
    (by
      rintro ⟨y1, y2, y3, y4, y5, y6, e⟩ ⟨i1, i2, i3, i4, i5, i6, i7, i8⟩
      dsimp only at i1 i2 i3 i4 i5 i6 i7 i8 ⊢
      subst i1 i2 i3 i4 i5
      unfold L_Mo_pour_y118
      by_cases h : y6 < y5
      · left
        have hw : w32 (y6 + 1) = y6 + 1 := w32_s (by omega) (by omega)
        have wa : w32 (w32 (60 * y1) + y2) = 60 * y1 + y2 := ix_B h1 (by omega)
        have wb : w32 (w32 (60 * y3) + y4) = 60 * y3 + y4 := ix_B h3 (by omega)
        rw [if_pos h, if_neg hd]
        unfold L_Mo_pour_b143
        have wc : w32 (60 * y1 + y2 + (y6)) = 60 * y1 + y2 + (y6) := w32_s (by omega) (by omega)
        have wd : w32 (60 * y3 + y4 + (y6)) = 60 * y3 + y4 + (y6) := w32_s (by omega) (by omega)
        rw [wa, wb, wc, wd, hw, ck_pos ⟨by omega, by omega⟩, ck_pos ⟨by omega, by omega⟩]
        refine ⟨_, rfl, ⟨rfl, rfl, rfl, rfl, rfl, ⟨by dsimp only; omega, by dsimp only; omega⟩, fun k hk => ?_, fun j => ?_⟩, by dsimp only; omega⟩
        · dsimp only; rw [up2_K _ _ _ hk]; exact i7 k hk
        · dsimp only
          by_cases hj : j = (60 * y3 + y4 + (y6)).toNat
          · rw [if_pos (by omega), hj, up2_s, i8 _, if_neg (by omega)]
            congr 1
            omega
          · rw [up2_j _ _ _ hj, i8 j]
            by_cases hc : 60 * y3 + y4 ≤ (j : Int) ∧ (j : Int) < 60 * y3 + y4 + y6
            · rw [if_pos hc, if_pos (by omega)]
            · rw [if_neg hc, if_neg (by omega)]
      · right
        rw [if_neg h]
        refine ⟨_, rfl, i7, fun j => ?_⟩
        rw [i8 j]
        by_cases hc : 60 * y3 + y4 ≤ (j : Int) ∧ (j : Int) < 60 * y3 + y4 + y6
        · rw [if_pos hc, if_pos (by omega)]
        · rw [if_neg hc, if_neg (by omega)])
    (p1, p2, p3, p4, p5, 0, d) ⟨rfl, rfl, rfl, rfl, rfl, ⟨(show (0 : Int) ≤ 0 by decide), h5⟩, fun _ _ => rfl, fun j => by dsimp only; rw [if_neg (by omega)]⟩ (by dsimp only; omega)
  exact ⟨r, e1, e2⟩
theorem pour_bw (p1 p2 p3 p4 p5 : Int) (d : Dt) (h1 : 0 ≤ p1 ∧ p1 < 4) (h3 : 0 ≤ p3 ∧ p3 < 4) (h2 : 0 ≤ p2 ∧ p2 + p5 ≤ 60) (h4 : 0 ≤ p4 ∧ p4 + p5 ≤ 60) (h5 : 0 ≤ p5) (hd : p2 < p4) : ∃ d', L_Mo_pour_l118 p1 p2 p3 p4 p5 0 d = some d' ∧ (∀ k, k ≠ 3 → d' k = d k) ∧ ∀ j : Nat, d' 3 j = if 60 * p3 + p4 ≤ (j : Int) ∧ (j : Int) < 60 * p3 + p4 + p5 then d 3 (60 * p1 + p2 + ((j : Int) - (60 * p3 + p4))).toNat else d 3 j := by
  unfold L_Mo_pour_l118
  obtain ⟨r, e1, e2⟩ := lpF_FU (f := fun q : Int × Int × Int × Int × Int × Int × Dt => L_Mo_pour_y118 q.1 q.2.1 q.2.2.1 q.2.2.2.1 q.2.2.2.2.1 q.2.2.2.2.2.1 q.2.2.2.2.2.2)
    (fun q => q.1 = p1 ∧ q.2.1 = p2 ∧ q.2.2.1 = p3 ∧ q.2.2.2.1 = p4 ∧ q.2.2.2.2.1 = p5 ∧ (0 ≤ q.2.2.2.2.2.1 ∧ q.2.2.2.2.2.1 ≤ p5) ∧ (∀ k, k ≠ 3 → q.2.2.2.2.2.2 k = d k) ∧ ∀ j : Nat, q.2.2.2.2.2.2 3 j = if 60 * p3 + p4 + p5 - q.2.2.2.2.2.1 ≤ (j : Int) ∧ (j : Int) < 60 * p3 + p4 + p5 then d 3 (60 * p1 + p2 + ((j : Int) - (60 * p3 + p4))).toNat else d 3 j)
    (fun q => (p5 - q.2.2.2.2.2.1).toNat)
    (fun r => (∀ k, k ≠ 3 → r k = d k) ∧ ∀ j : Nat, r 3 j = if 60 * p3 + p4 ≤ (j : Int) ∧ (j : Int) < 60 * p3 + p4 + p5 then d 3 (60 * p1 + p2 + ((j : Int) - (60 * p3 + p4))).toNat else d 3 j)
    (by
      rintro ⟨y1, y2, y3, y4, y5, y6, e⟩ ⟨i1, i2, i3, i4, i5, i6, i7, i8⟩
      dsimp only at i1 i2 i3 i4 i5 i6 i7 i8 ⊢
      subst i1 i2 i3 i4 i5
      unfold L_Mo_pour_y118
      by_cases h : y6 < y5
      · left
        have hw : w32 (y6 + 1) = y6 + 1 := w32_s (by omega) (by omega)
        have wa : w32 (w32 (60 * y1) + y2) = 60 * y1 + y2 := ix_B h1 (by omega)
        have wb : w32 (w32 (60 * y3) + y4) = 60 * y3 + y4 := ix_B h3 (by omega)
        have w5 : w32 (w32 (y5 - 1) - y6) = y5 - 1 - y6 := by rw [w32_s (x := y5 - 1) (by omega) (by omega), w32_s (by omega) (by omega)]
        rw [if_pos h, if_pos hd, w5]
        unfold L_Mo_pour_b143
        have wc : w32 (60 * y1 + y2 + (y5 - 1 - y6)) = 60 * y1 + y2 + (y5 - 1 - y6) := w32_s (by omega) (by omega)
        have wd : w32 (60 * y3 + y4 + (y5 - 1 - y6)) = 60 * y3 + y4 + (y5 - 1 - y6) := w32_s (by omega) (by omega)
        rw [wa, wb, wc, wd, hw, ck_pos ⟨by omega, by omega⟩, ck_pos ⟨by omega, by omega⟩]
        refine ⟨_, rfl, ⟨rfl, rfl, rfl, rfl, rfl, ⟨by dsimp only; omega, by dsimp only; omega⟩, fun k hk => ?_, fun j => ?_⟩, by dsimp only; omega⟩
        · dsimp only; rw [up2_K _ _ _ hk]; exact i7 k hk
        · dsimp only
          by_cases hj : j = (60 * y3 + y4 + (y5 - 1 - y6)).toNat
          · rw [if_pos (by omega), hj, up2_s, i8 _, if_neg (by omega)]
            congr 1
            omega
          · rw [up2_j _ _ _ hj, i8 j]
            by_cases hc : 60 * y3 + y4 + y5 - y6 ≤ (j : Int) ∧ (j : Int) < 60 * y3 + y4 + y5
            · rw [if_pos hc, if_pos (by omega)]
            · rw [if_neg hc, if_neg (by omega)]
      · right
        rw [if_neg h]
        refine ⟨_, rfl, i7, fun j => ?_⟩
        rw [i8 j]
        by_cases hc : 60 * y3 + y4 + y5 - y6 ≤ (j : Int) ∧ (j : Int) < 60 * y3 + y4 + y5
        · rw [if_pos hc, if_pos (by omega)]
        · rw [if_neg hc, if_neg (by omega)])
    (p1, p2, p3, p4, p5, 0, d) ⟨rfl, rfl, rfl, rfl, rfl, ⟨(show (0 : Int) ≤ 0 by decide), h5⟩, fun _ _ => rfl, fun j => by dsimp only; rw [if_neg (by omega)]⟩ (by dsimp only; omega)
  exact ⟨r, e1, e2⟩
theorem i80 : ((8 : Int) = 0) = False := by simp
theorem cp2_K (d : Dt) {k sp k2 dp n k' : Nat} (h : k' ≠ k2) : cp2 d k sp k2 dp n k' = d k' := by
  unfold cp2
  rw [if_neg h]
theorem cp2_a (d : Dt) (k sp k2 dp n j : Nat) : cp2 d k sp k2 dp n k2 j = if dp ≤ j ∧ j < dp + n then d k (sp + (j - dp)) else d k2 j := by
  unfold cp2
  rw [if_pos rfl]
theorem T_pour {p1 p2 p3 p4 p5 : Int} {dA dB : Dt} (k2 : c32 p2) (k4 : c32 p4) (k5 : c32 p5) (hR : RT dA dB) : ∃ (r : Int) (dA' dB' : Dt), L_PB_pour p1 p2 p3 p4 p5 dA = some (r, dA') ∧ L_Mo_pour p1 p2 p3 p4 p5 dB = some (r, dB') ∧ RS dA' dB' ∧ RT dA' dB' := by
  obtain ⟨k2a, k2b⟩ := k2
  obtain ⟨k4a, k4b⟩ := k4
  obtain ⟨k5a, k5b⟩ := k5
  unfold L_PB_pour L_PB_pourStatus L_PB_pour_b36 L_Mo_pour L_Mo_pour_b28 L_Mo_pour_b54 L_Mo_pour_b109 L_Tr_isThere L_Tr_alike L_Tr_reaches
  by_cases c1 : 0 ≤ p1 ∧ p1 < 4
  case neg =>
    simp only [canBe_e, isTray_e, e_is, if_neg c1, i80, bd_s, i10, i20, i30, i40, i50, i60, i70, if_true, if_false, up2_s, up2_j, up2_K]
    exact ⟨_, _, _, rfl, rfl, RS.of, hR.st⟩
  by_cases c3 : 0 ≤ p3 ∧ p3 < 4
  case neg =>
    simp only [canBe_e, isTray_e, e_is, if_pos c1, if_neg c3, i80, bd_s, i10, i20, i30, i40, i50, i60, i70, if_true, if_false, up2_s, up2_j, up2_K]
    exact ⟨_, _, _, rfl, rfl, RS.of, hR.st⟩
  by_cases n2 : p2 < 0
  case pos =>
    simp only [canBe_e, isTray_e, e_is, if_pos c1, if_pos c3, if_pos n2, i80, bd_s, i10, i20, i30, i40, i50, i60, i70, if_true, if_false, up2_s, up2_j, up2_K]
    exact ⟨_, _, _, rfl, rfl, RS.of, hR.st⟩
  by_cases n4 : p4 < 0
  case pos =>
    simp only [canBe_e, isTray_e, e_is, if_pos c1, if_pos c3, if_neg n2, if_pos n4, i80, bd_s, i10, i20, i30, i40, i50, i60, i70, if_true, if_false, up2_s, up2_j, up2_K]
    exact ⟨_, _, _, rfl, rfl, RS.of, hR.st⟩
  by_cases n5 : p5 < 0
  case pos =>
    simp only [canBe_e, isTray_e, e_is, if_pos c1, if_pos c3, if_neg n2, if_neg n4, if_pos n5, i80, bd_s, i10, i20, i30, i40, i50, i60, i70, if_true, if_false, up2_s, up2_j, up2_K]
    exact ⟨_, _, _, rfl, rfl, RS.of, hR.st⟩
  have t1 := hR.1 p1.toNat (by omega)
  have t3 := hR.1 p3.toNat (by omega)
  have v1 : -1 ≤ dB 2 p1.toNat ∧ dB 2 p1.toNat ≤ 60 := by have := t1.2.2.2.2; rw [t1.2.1] at this; exact this
  have v3 : -1 ≤ dB 2 p3.toNat ∧ dB 2 p3.toNat ≤ 60 := by have := t3.2.2.2.2; rw [t3.2.1] at this; exact this
  by_cases m1 : dB 2 p1.toNat = -1
  case pos =>
    simp only [canBe_e, isTray_e, e_is, if_pos c1, if_pos c3, if_neg n2, if_neg n4, if_neg n5, t1.1, t1.2.1, t3.1, t3.2.1, ck_pos c1, ck_pos c3, if_pos m1, i80, bd_s, i10, i20, i30, i40, i50, i60, i70, if_true, if_false, up2_s, up2_j, up2_K]
    exact ⟨_, _, _, rfl, rfl, RS.of, hR.st⟩
  by_cases m3 : dB 2 p3.toNat = -1
  case pos =>
    simp only [canBe_e, isTray_e, e_is, if_pos c1, if_pos c3, if_neg n2, if_neg n4, if_neg n5, t1.1, t1.2.1, t3.1, t3.2.1, ck_pos c1, ck_pos c3, if_neg m1, if_pos m3, i80, bd_s, i10, i20, i30, i40, i50, i60, i70, if_true, if_false, up2_s, up2_j, up2_K]
    exact ⟨_, _, _, rfl, rfl, RS.of, hR.st⟩
  by_cases al : dB 1 p1.toNat = dB 1 p3.toNat
  case neg =>
    simp only [canBe_e, isTray_e, e_is, if_pos c1, if_pos c3, if_neg n2, if_neg n4, if_neg n5, t1.1, t1.2.1, t3.1, t3.2.1, ck_pos c1, ck_pos c3, if_neg m1, if_neg m3, if_neg al, i80, bd_s, i10, i20, i30, i40, i50, i60, i70, if_true, if_false, up2_s, up2_j, up2_K]
    exact ⟨_, _, _, rfl, rfl, RS.of, hR.st⟩
  have x1 : w64 (p2 + p5) = p2 + p5 := w64_s (by omega) (by omega)
  have x3 : w64 (p4 + p5) = p4 + p5 := w64_s (by omega) (by omega)
  have y1 : w32 (dB 2 p1.toNat - p2) = dB 2 p1.toNat - p2 := w32_s (by omega) (by omega)
  have y3 : w32 (dB 2 p3.toNat - p4) = dB 2 p3.toNat - p4 := w32_s (by omega) (by omega)
  by_cases q1 : dB 2 p1.toNat < p2 + p5
  case pos =>
    simp only [canBe_e, isTray_e, e_is, if_pos c1, if_pos c3, if_neg n2, if_neg n4, if_neg n5, t1.1, t1.2.1, t3.1, t3.2.1, ck_pos c1, ck_pos c3, if_neg m1, if_neg m3, if_pos al, x1, x3, y1, y3, if_pos q1, if_pos (show dB 2 p1.toNat - p2 < p5 by omega), i80, bd_s, i10, i20, i30, i40, i50, i60, i70, if_true, if_false, up2_s, up2_j, up2_K]
    exact ⟨_, _, _, rfl, rfl, RS.of, hR.st⟩
  by_cases q3 : dB 2 p3.toNat < p4 + p5
  case pos =>
    simp only [canBe_e, isTray_e, e_is, if_pos c1, if_pos c3, if_neg n2, if_neg n4, if_neg n5, t1.1, t1.2.1, t3.1, t3.2.1, ck_pos c1, ck_pos c3, if_neg m1, if_neg m3, if_pos al, x1, x3, y1, y3, if_neg q1, if_neg (show ¬ dB 2 p1.toNat - p2 < p5 by omega), if_pos q3, if_pos (show dB 2 p3.toNat - p4 < p5 by omega), i80, bd_s, i10, i20, i30, i40, i50, i60, i70, if_true, if_false, up2_s, up2_j, up2_K]
    exact ⟨_, _, _, rfl, rfl, RS.of, hR.st⟩
  have a1 : w32 (w32 (p1 * 60) + p2) = 60 * p1 + p2 := by rw [w32_s (x := p1 * 60) (by omega) (by omega), w32_s (by omega) (by omega)]; omega
  have a3 : w32 (w32 (p3 * 60) + p4) = 60 * p3 + p4 := by rw [w32_s (x := p3 * 60) (by omega) (by omega), w32_s (by omega) (by omega)]; omega
  have kk : (0 : Int) ≤ 60 * p1 + p2 ∧ (0 : Int) ≤ 60 * p3 + p4 ∧ (0 : Int) ≤ p5 ∧ 60 * p1 + p2 + p5 ≤ 240 ∧ 60 * p3 + p4 + p5 ≤ 240 := by omega
  have lp : ∃ d', L_Mo_pour_l118 p1 p2 p3 p4 p5 0 dB = some d' ∧ (∀ k, k ≠ 3 → d' k = dB k) ∧ ∀ j : Nat, d' 3 j = if 60 * p3 + p4 ≤ (j : Int) ∧ (j : Int) < 60 * p3 + p4 + p5 then dB 3 (60 * p1 + p2 + ((j : Int) - (60 * p3 + p4))).toNat else dB 3 j := by
    by_cases hd : p2 < p4
    · exact pour_bw p1 p2 p3 p4 p5 dB c1 c3 (by omega) (by omega) (by omega) hd
    · exact pour_fw p1 p2 p3 p4 p5 dB c1 c3 (by omega) (by omega) (by omega) hd
  obtain ⟨eB, b1, b2, b3⟩ := lp
  unfold L_Tr_move
  have z0 : ∀ a b n : Nat, cp2 (up2 dA 0 0 0) 4 a 4 b n 0 0 = 0 := by
    intro a b n
    rw [cp2_K _ (show (0 : Nat) ≠ 4 by decide), up2_s]
  simp only [canBe_e, isTray_e, e_is, if_pos c1, if_pos c3, if_neg n2, if_neg n4, if_neg n5, t1.1, t1.2.1, t3.1, t3.2.1, ck_pos c1, ck_pos c3, if_neg m1, if_neg m3, if_pos al, x1, x3, y1, y3, if_neg q1, if_neg (show ¬ dB 2 p1.toNat - p2 < p5 by omega), if_neg q3, if_neg (show ¬ dB 2 p3.toNat - p4 < p5 by omega), a1, a3, ck_pos kk, b1, lb_s, u0, z0, i80, bd_s, i10, i20, i30, i40, i50, i60, i70, if_true, if_false, up2_s, up2_j, up2_K]
  refine ⟨_, _, _, rfl, rfl, ?_, ?_⟩
  · unfold RS
    rw [cp2_K _ (show (0 : Nat) ≠ 4 by decide), up2_s, up2_s]
  · refine ⟨fun t ht => ?_, fun j hj => ?_⟩
    · rw [cp2_K _ (show (5 : Nat) ≠ 4 by decide), cp2_K _ (show (6 : Nat) ≠ 4 by decide), up2_K _ _ _ (show (5 : Nat) ≠ 0 by decide), up2_K _ _ _ (show (6 : Nat) ≠ 0 by decide), up2_K _ _ _ (show (1 : Nat) ≠ 0 by decide), up2_K _ _ _ (show (2 : Nat) ≠ 0 by decide), b2 1 (by decide), b2 2 (by decide)]
      exact hR.1 t ht
    · rw [cp2_a, up2_K _ _ _ (show (4 : Nat) ≠ 0 by decide), up2_K _ _ _ (show (3 : Nat) ≠ 0 by decide), b3 j]
      by_cases hc : 60 * p3 + p4 ≤ (j : Int) ∧ (j : Int) < 60 * p3 + p4 + p5
      · rw [if_pos hc, if_pos (by omega), hR.2 _ (by omega)]
        congr 1
        omega
      · rw [if_neg hc, if_neg (by omega)]
        exact hR.2 j hj
