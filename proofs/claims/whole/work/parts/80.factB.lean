/-! FACTS: splits, payments; the class's whole row; the reference -/
theorem RR.cgA {dA dB dA' : Dt} (h : RR dA dB) (hk : ∀ k, 11 ≤ k → k ≤ 24 → dA' k = dA k) : RR dA' dB := by
  unfold RR at h ⊢
  rw [hk 11 (by decide) (by decide), hk 12 (by decide) (by decide), hk 13 (by decide) (by decide), hk 14 (by decide) (by decide), hk 15 (by decide) (by decide), hk 16 (by decide) (by decide), hk 17 (by decide) (by decide), hk 18 (by decide) (by decide), hk 19 (by decide) (by decide), hk 20 (by decide) (by decide), hk 21 (by decide) (by decide), hk 22 (by decide) (by decide), hk 23 (by decide) (by decide), hk 24 (by decide) (by decide)]
  exact h
theorem sinceSplit_e {dA dB : Dt} (hR : RR dA dB) (bits : Nat) (hb : bits < 2 ^ 40) (day : Int) (hd : 0 ≤ day ∧ day ≤ 9999) : L_Re_sinceSplit (bits : Int) day dA = some (aSpl dB bits day (dB 0 9).toNat, dA) := by
  obtain ⟨r1, r2, r3, r4, r5, r6, r7, r8⟩ := id hR
  have e := lp_seq (f := fun q : Int × Int × Int × Int × Dt => L_Re_sinceSplit_y8 q.1 q.2.1 q.2.2.1 q.2.2.2.1 q.2.2.2.2) (fun i => ((bits : Int), day, aSpl dB bits day i, (i : Int), dA)) (dB 0 9).toNat (r := (aSpl dB bits day (dB 0 9).toNat, dA))
    (by
      intro i hi
      obtain ⟨a1, a2, a3, b1, b2, b3, b4⟩ := r7 i (by omega)
      have hck : (0 : Int) ≤ (i : Int) ∧ (i : Int) < 30 := by omega
      have hlt : (i : Int) < dB 0 9 := by omega
      have s1 : land (lshr (bits : Int) (dB 16 i)) 1 = if bits.testBit (dB 16 i).toNat then 1 else 0 := by
        have q : dB 16 i = (((dB 16 i).toNat : Nat) : Int) := by omega
        have q2 := lbit bits (dB 16 i).toNat (by omega) (by omega)
        rw [← q] at q2; exact q2
      dsimp only
      unfold L_Re_sinceSplit_y8 L_Re_sinceSplit_b38 L_Re_sinceSplit_b86
      simp only [tn_i, r1, r4.1, a1, a2, a3, lt_, ck_pos hck, if_pos hlt, aSpl, w32_i (show i < 2147483647 by omega), s1, jmin_e, i10, if_true, if_false]
      by_cases hB : bits.testBit (dB 16 i).toNat = true
      · simp only [hB, if_true, i10, if_false, true_and]
        by_cases hC : dB 17 i ≤ day ∧ dB 18 i ≤ dB 0 12
        · simp only [if_pos hC, if_neg (show ¬ day < dB 17 i by omega), if_neg (show ¬ dB 0 12 < dB 18 i by omega), w32_s (x := day - dB 17 i) (by omega) (by omega)]
        · simp only [if_neg hC]
          repeat' split
          all_goals first | rfl | (exfalso; omega)
      · simp only [hB, if_false, if_true, false_and, Bool.false_eq_true])
    (by
      dsimp only
      unfold L_Re_sinceSplit_y8
      rw [r4.1, if_neg (by omega)]) (by omega)
  unfold L_Re_sinceSplit L_Re_sinceSplit_l8
  rw [show lpF (fun q : Int × Int × Int × Int × Dt => L_Re_sinceSplit_y8 q.1 q.2.1 q.2.2.1 q.2.2.2.1 q.2.2.2.2) FU ((bits : Int), day, 9999, 0, dA) = _ from e, lb_s]
  rfl
theorem paidBy_e {dA dB : Dt} (hR : RR dA dB) (p day : Int) : L_Re_paidBy p day dA = some (fPay dB p day (dB 0 10).toNat, dA) := by
  obtain ⟨r1, r2, r3, r4, r5, r6, r7, r8⟩ := id hR
  have e := lp_seq (f := fun q : Int × Int × Int × Int × Dt => L_Re_paidBy_y5 q.1 q.2.1 q.2.2.1 q.2.2.2.1 q.2.2.2.2) (fun i => (p, day, fPay dB p day i, (i : Int), dA)) (dB 0 10).toNat (r := (fPay dB p day (dB 0 10).toNat, dA))
    (by
      intro i hi
      obtain ⟨a1, a2, a3, a4, b1, b2⟩ := r8 i (by omega)
      have hck : (0 : Int) ≤ (i : Int) ∧ (i : Int) < 60 := by omega
      have hlt : (i : Int) < dB 0 10 := by omega
      have g1 := fPay_b dB p day i (fun j hj => by have := r8 j (by omega); omega)
      dsimp only
      unfold L_Re_paidBy_y5 L_Re_paidBy_b60
      simp only [tn_i, r1, r5.1, a1, a2, a3, a4, lt_, ck_pos hck, if_pos hlt, fPay, w32_i (show i < 2147483647 by omega)]
      by_cases hC : dB 19 i = p ∧ ¬ dB 23 i = 0 ∧ dB 21 i ≤ day ∧ dB 22 i ≤ dB 0 12
      · simp only [if_pos hC, if_pos hC.1, if_neg hC.2.1, if_neg (show ¬ day < dB 21 i by omega), if_neg (show ¬ dB 0 12 < dB 22 i by omega), w32_s (x := fPay dB p day i + dB 20 i) (by omega) (by omega)]
      · simp only [if_neg hC]
        by_cases hz : dB 23 i = 0
        · simp only [if_pos hz, Int.add_zero, w32_s (x := fPay dB p day i) (by omega) (by omega)]
          repeat' split
          all_goals rfl
        · simp only [if_neg hz]
          repeat' split
          all_goals first | rfl | (exfalso; omega))
    (by
      dsimp only
      unfold L_Re_paidBy_y5
      rw [r5.1, if_neg (by omega)]) (by omega)
  unfold L_Re_paidBy L_Re_paidBy_l5
  rw [show lpF (fun q : Int × Int × Int × Int × Dt => L_Re_paidBy_y5 q.1 q.2.1 q.2.2.1 q.2.2.2.1 q.2.2.2.2) FU (p, day, 0, 0, dA) = _ from e, lb_s]
  rfl
/-- names, trades and homes of the PERSONS -/
def RH (dA dB : Dt) : Prop := ∀ i : Nat, (i : Int) < dB 0 7 → dA 8 i = dB 7 i ∧ dA 9 i = dB 8 i ∧ dA 10 i = dB 9 i ∧ isNm (dB 7 i) ∧ 0 ≤ dB 8 i ∧ dB 8 i ≤ 19 ∧ 0 ≤ dB 9 i ∧ dB 9 i < 7
theorem tell_e {dA dB : Dt} (hR : RR dA dB) (hP : RP dA dB) (hH : RH dA dB) (arr len : Nat) (hl : 7 ≤ len) (ha : arr = 2 ∨ arr = 35) (p place day : Int) (hp : 0 ≤ p ∧ p < dB 0 7) (hd : 0 ≤ day ∧ day ≤ 9999) : ∃ d', L_Re_tell arr len p place day dA = some (0, d') ∧ (∀ k, k ≠ arr → d' k = dA k) ∧ (∀ w, w < 7 → d' arr w = factB dB p place day w) ∧ ∀ j, 7 ≤ j → d' arr j = dA arr j := by
  have hk : ∀ k, 7 ≤ k → k ≤ 24 → k ≠ arr := by intro k h1 h2; omega
  obtain ⟨n1, n2, n3, n4, n5⟩ := hH p.toNat (by omega)
  obtain ⟨_, q1, q2⟩ := hP
  have hp40 : 0 ≤ p ∧ p < 40 := by omega
  obtain ⟨d1, hd1⟩ : ∃ d1, d1 = up2 (up2 (up2 dA arr 0 (fLand dB p day (dB 0 8).toNat)) arr 1 (fMany dB p day (dB 0 8).toNat)) arr 2 (fHeld dB p day (dB 0 8).toNat) := ⟨_, rfl⟩
  have f1 : ∀ k, k ≠ arr → d1 k = dA k := by intro k h; rw [hd1, up2_K _ _ _ h, up2_K _ _ _ h, up2_K _ _ _ h]
  have hR1 : RR d1 dB := hR.cgA (fun k h1 h2 => f1 k (hk k (by omega) h2))
  have hb := fBits_b dB p day (dB 0 8).toNat (fun j hj => by have := hR.2.2.2.2.2.1 j (by omega); omega)
  obtain ⟨d2, hd2⟩ : ∃ d2, d2 = up2 (up2 d1 arr 3 (fSpl dB p day (dB 0 8).toNat)) arr 4 (dB 8 p.toNat) := ⟨_, rfl⟩
  have f2 : ∀ k, k ≠ arr → d2 k = dA k := by intro k h; rw [hd2, up2_K _ _ _ h, up2_K _ _ _ h]; exact f1 k h
  obtain ⟨d3, hd3⟩ : ∃ d3, d3 = up2 d2 arr 5 (if dB 9 p.toNat = place then 1 else 0) := ⟨_, rfl⟩
  have f3 : ∀ k, k ≠ arr → d3 k = dA k := by intro k h; rw [hd3, up2_K _ _ _ h]; exact f2 k h
  have hR3 : RR d3 dB := hR.cgA (fun k h1 h2 => f3 k (hk k (by omega) h2))
  refine ⟨up2 d3 arr 6 (fPay dB p day (dB 0 10).toNat), ?_, ?_, ?_, ?_⟩
  · unfold L_Re_tell
    rw [tellLand_e hR arr len (by omega) p day hd, bd_s, ← hd1, sinceSplit_e hR1 _ hb day hd, bd_s, aSpl_e dB p day (dB 0 8).toNat (fun k hk => by have := hR.2.2.2.2.2.2.1 k (by omega); omega) (fun i hi => by have := hR.2.2.2.2.2.1 i (by omega); omega)]
    have h9 : (up2 d1 arr 3 (fSpl dB p day (dB 0 8).toNat)) 9 p.toNat = dB 8 p.toNat := by
      rw [up2_K _ _ _ (hk 9 (by decide) (by decide)), f1 9 (hk 9 (by decide) (by decide))]; exact n2
    rw [h9, ← hd2]
    have h10 : d2 10 p.toNat = dB 9 p.toNat := by rw [f2 10 (hk 10 (by decide) (by decide))]; exact n3
    rw [h10, ck_pos ⟨by omega, by omega⟩, ck_pos hp40, ck_pos ⟨by omega, by omega⟩, ck_pos hp40]
    unfold L_Re_tell_b57 L_PB_bit
    by_cases hh : dB 9 p.toNat = place
    · rw [if_pos hh] at hd3
      simp only [if_pos hh, i10, if_false, if_true, bd_s, ck_pos (show (0 : Int) ≤ 5 ∧ 5 < (len : Int) by omega), ck_pos (show (0 : Int) ≤ 6 ∧ 6 < (len : Int) by omega)]
      rw [show (5 : Int).toNat = 5 by rfl, ← hd3, paidBy_e hR3, bd_s]
    · rw [if_neg hh] at hd3
      simp only [if_neg hh, i10, if_false, if_true, bd_s, ck_pos (show (0 : Int) ≤ 5 ∧ 5 < (len : Int) by omega), ck_pos (show (0 : Int) ≤ 6 ∧ 6 < (len : Int) by omega)]
      rw [show (5 : Int).toNat = 5 by rfl, ← hd3, paidBy_e hR3, bd_s]
  · intro k h; rw [up2_K _ _ _ h]; exact f3 k h
  · intro w hw
    have hh : w = 0 ∨ w = 1 ∨ w = 2 ∨ w = 3 ∨ w = 4 ∨ w = 5 ∨ w = 6 := by omega
    rw [hd3, hd2, hd1]
    unfold factB
    rcases hh with rfl | rfl | rfl | rfl | rfl | rfl | rfl <;> simp (disch := decide) only [up2_s, up2_j, if_true, if_false, reduceIte] <;> simp
  · intro j hj
    rw [hd3, hd2, hd1, up2_j _ _ _ (by omega), up2_j _ _ _ (by omega), up2_j _ _ _ (by omega), up2_j _ _ _ (by omega), up2_j _ _ _ (by omega), up2_j _ _ _ (by omega), up2_j _ _ _ (by omega)]
