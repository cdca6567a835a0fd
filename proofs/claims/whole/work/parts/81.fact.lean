/-! FACTS: the reference, and both -/
theorem splitSince_e {dA dB : Dt} (hR : RR dA dB) (plot day : Int) (hd : 0 ≤ day ∧ day ≤ 9999) : L_Mo_splitSince plot day dB = some (sSin dB plot day (dB 0 9).toNat, dB) := by
  obtain ⟨r1, r2, r3, r4, r5, r6, r7, r8⟩ := id hR
  have e := lp_seq (f := fun q : Int × Int × Int × Int × Dt => L_Mo_splitSince_y7 q.1 q.2.1 q.2.2.1 q.2.2.2.1 q.2.2.2.2) (fun i => (plot, day, sSin dB plot day i, (i : Int), dB)) (dB 0 9).toNat (r := (sSin dB plot day (dB 0 9).toNat, dB))
    (by
      intro i hi
      obtain ⟨a1, a2, a3, b1, b2, b3, b4⟩ := r7 i (by omega)
      have hck : (0 : Int) ≤ (i : Int) ∧ (i : Int) < 30 := by omega
      have hlt : (i : Int) < dB 0 9 := by omega
      dsimp only
      unfold L_Mo_splitSince_y7 L_Mo_splitSince_b66
      simp only [tn_i, lt_, ck_pos hck, if_pos hlt, sSin, w32_i (show i < 2147483647 by omega), jmin_e]
      by_cases hC : dB 16 i = plot ∧ dB 17 i ≤ day ∧ dB 18 i ≤ dB 0 12
      · simp only [if_pos hC, if_pos hC.1, if_neg (show ¬ day < dB 17 i by omega), if_neg (show ¬ dB 0 12 < dB 18 i by omega), w32_s (x := day - dB 17 i) (by omega) (by omega)]
      · simp only [if_neg hC]
        repeat' split
        all_goals first | rfl | (exfalso; omega))
    (by
      dsimp only
      unfold L_Mo_splitSince_y7
      rw [if_neg (by omega)]) (by omega)
  unfold L_Mo_splitSince L_Mo_splitSince_l7
  rw [show lpF (fun q : Int × Int × Int × Int × Dt => L_Mo_splitSince_y7 q.1 q.2.1 q.2.2.1 q.2.2.2.1 q.2.2.2.2) FU (plot, day, 9999, 0, dB) = _ from e, lb_s]
  rfl
theorem i21 : ((2 : Int) = 1) = False := by simp
theorem i31 : ((3 : Int) = 1) = False := by simp
theorem i32 : ((3 : Int) = 2) = False := by simp
theorem factH {dA dB : Dt} (hR : RR dA dB) (p day w : Int) (F : Nat → Int) (hd : 0 ≤ day ∧ day ≤ 9999) (hF : (w = 0 ∧ F = fLand dB p day) ∨ (w = 1 ∧ F = fMany dB p day) ∨ (w = 2 ∧ F = fHeld dB p day) ∨ (w = 3 ∧ F = fSpl dB p day)) : L_Mo_factOf_l143 p day w (F 0) 0 dB = some (F (dB 0 8).toNat, dB) := by
  obtain ⟨r1, r2, r3, r4, r5, r6, r7, r8⟩ := id hR
  unfold L_Mo_factOf_l143
  refine lp_seq (f := fun q : Int × Int × Int × Int × Int × Dt => L_Mo_factOf_y143 q.1 q.2.1 q.2.2.1 q.2.2.2.1 q.2.2.2.2.1 q.2.2.2.2.2) (fun i => (p, day, w, F i, (i : Int), dB)) (dB 0 8).toNat ?_ ?_ (by omega)
  · intro i hi
    obtain ⟨a1, a2, a3, a4, a5, a6, b1, b2, b3, b4, b5, b6⟩ := r6 i (by omega)
    have hck : (0 : Int) ≤ (i : Int) ∧ (i : Int) < 80 := by omega
    have hlt : (i : Int) < dB 0 8 := by omega
    have g1 := fLand_b dB p day i (fun j hj => by have := r6 j (by omega); omega)
    have g2 := fMany_b dB p day i
    dsimp only
    unfold L_Mo_factOf_y143 L_Mo_factOf_b278
    by_cases hC : dB 10 i = p ∧ dB 13 i ≤ day ∧ day ≤ dB 14 i ∧ dB 15 i ≤ dB 0 12
    · simp only [tn_i, lt_, ck_pos hck, if_pos hlt, if_pos hC.1, if_neg (show ¬ day < dB 13 i by omega), if_neg (show ¬ dB 14 i < day by omega), if_neg (show ¬ dB 0 12 < dB 15 i by omega), w32_i (show i < 2147483647 by omega), jmin_e, jmax_e, splitSince_e hR _ _ hd, bd_s]
      rcases hF with ⟨rfl, rfl⟩ | ⟨rfl, rfl⟩ | ⟨rfl, rfl⟩ | ⟨rfl, rfl⟩
      · simp only [fLand, if_true, if_pos hC, w32_s (x := fLand dB p day i + dB 12 i) (by omega) (by omega)]
      · simp only [fMany, i10, if_true, if_false, if_pos hC, w32_s (x := fMany dB p day i + 1) (by omega) (by omega)]
      · simp only [fHeld, i20, i21, if_true, if_false, if_pos hC, w32_s (x := day - dB 13 i) (by omega) (by omega)]
      · simp only [fSpl, i30, i31, i32, if_true, if_false, if_pos hC]
    · have hF1 : F (i + 1) = F i := by
        rcases hF with ⟨_, rfl⟩ | ⟨_, rfl⟩ | ⟨_, rfl⟩ | ⟨_, rfl⟩
        · simp only [fLand, if_neg hC]
        · simp only [fMany, if_neg hC]
        · simp only [fHeld, if_neg hC]
        · simp only [fSpl, if_neg hC]
      rw [hF1]
      simp only [tn_i, ck_pos hck, if_pos hlt, w32_i (show i < 2147483647 by omega)]
      by_cases c1 : dB 10 i = p
      · rw [if_pos c1]
        by_cases c2 : day < dB 13 i
        · rw [if_pos c2]
        · rw [if_neg c2]
          by_cases c3 : dB 14 i < day
          · rw [if_pos c3]
          · rw [if_neg c3, if_pos (by omega)]
      · rw [if_neg c1]
  · dsimp only
    unfold L_Mo_factOf_y143
    rw [if_neg (by omega)]
theorem factP {dA dB : Dt} (hR : RR dA dB) (p day : Int) : L_Mo_factOf_l60 p day 0 0 dB = some (fPay dB p day (dB 0 10).toNat, dB) := by
  obtain ⟨r1, r2, r3, r4, r5, r6, r7, r8⟩ := id hR
  unfold L_Mo_factOf_l60
  refine lp_seq (f := fun q : Int × Int × Int × Int × Dt => L_Mo_factOf_y60 q.1 q.2.1 q.2.2.1 q.2.2.2.1 q.2.2.2.2) (fun i => (p, day, fPay dB p day i, (i : Int), dB)) (dB 0 10).toNat ?_ ?_ (by omega)
  · intro i hi
    obtain ⟨a1, a2, a3, a4, b1, b2⟩ := r8 i (by omega)
    have hck : (0 : Int) ≤ (i : Int) ∧ (i : Int) < 60 := by omega
    have hlt : (i : Int) < dB 0 10 := by omega
    have g1 := fPay_b dB p day i (fun j hj => by have := r8 j (by omega); omega)
    dsimp only
    unfold L_Mo_factOf_y60 L_Mo_factOf_b128
    simp only [tn_i, lt_, ck_pos hck, if_pos hlt, fPay, w32_i (show i < 2147483647 by omega), Int.add_zero, w32_s (x := fPay dB p day i) (by omega) (by omega)]
    by_cases hC : dB 19 i = p ∧ ¬ dB 23 i = 0 ∧ dB 21 i ≤ day ∧ dB 22 i ≤ dB 0 12
    · simp only [if_pos hC, if_pos hC.1, if_neg hC.2.1, if_neg (show ¬ day < dB 21 i by omega), if_neg (show ¬ dB 0 12 < dB 22 i by omega), w32_s (x := fPay dB p day i + dB 20 i) (by omega) (by omega)]
    · simp only [if_neg hC]
      repeat' split
      all_goals first | rfl | (exfalso; omega)
  · dsimp only
    unfold L_Mo_factOf_y60
    rw [if_neg (by omega)]
theorem factOf_e {dA dB : Dt} (hR : RR dA dB) (hP : RP dA dB) (p place day : Int) (w : Nat) (hw : w < 7) (hp : 0 ≤ p ∧ p < dB 0 7) (hd : 0 ≤ day ∧ day ≤ 9999) : L_Mo_factOf p place day (w : Int) dB = some (factB dB p place day w, dB) := by
  obtain ⟨_, q1, q2⟩ := hP
  have hp40 : 0 ≤ p ∧ p < 40 := by omega
  have hh : w = 0 ∨ w = 1 ∨ w = 2 ∨ w = 3 ∨ w = 4 ∨ w = 5 ∨ w = 6 := by omega
  unfold L_Mo_factOf L_Mo_factOf_b48 factB
  rcases hh with rfl | rfl | rfl | rfl | rfl | rfl | rfl
  · have e := factH hR p day 0 (fLand dB p day) hd (Or.inl ⟨rfl, rfl⟩)
    simp only [fLand] at e
    simp [e, lb_s, u1]
  · have e := factH hR p day 1 (fMany dB p day) hd (Or.inr (Or.inl ⟨rfl, rfl⟩))
    simp only [fMany] at e
    simp [e, lb_s, u1]
  · have e := factH hR p day 2 (fHeld dB p day) hd (Or.inr (Or.inr (Or.inl ⟨rfl, rfl⟩)))
    simp only [fHeld] at e
    simp [e, lb_s, u1]
  · have e := factH hR p day 3 (fSpl dB p day) hd (Or.inr (Or.inr (Or.inr ⟨rfl, rfl⟩)))
    simp only [fSpl] at e
    simp [e, lb_s, u1]
  · simp [ck_pos hp40]
  · simp [ck_pos hp40]
    split <;> rfl
  · have e := factP hR p day
    simp [e, lb_s, u1]
theorem factB_b {dA dB : Dt} (hR : RR dA dB) (hH : RH dA dB) (p place day : Int) (w : Nat) (hp : 0 ≤ p ∧ p < dB 0 7) (hd : 0 ≤ day ∧ day ≤ 9999) : 0 ≤ factB dB p place day w ∧ factB dB p place day w ≤ 80000 := by
  obtain ⟨r1, r2, r3, r4, r5, r6, r7, r8⟩ := id hR
  have g1 := fLand_b dB p day (dB 0 8).toNat (fun j hj => by have := r6 j (by omega); omega)
  have g2 := fMany_b dB p day (dB 0 8).toNat
  have g3 := fHeld_b dB p day hd (dB 0 8).toNat (fun j hj => by have := r6 j (by omega); omega)
  have g4 := fSpl_b dB p day hd (dB 0 8).toNat
  have g5 := fPay_b dB p day (dB 0 10).toNat (fun j hj => by have := r8 j (by omega); omega)
  have g6 := hH p.toNat (by omega)
  unfold factB
  repeat' split
  all_goals omega
theorem T_fact {p1 p2 p3 p4 : Int} {dA dB : Dt} (hR : RR dA dB) (hP : RP dA dB) (hH : RH dA dB) : ∃ (r : Int) (dA' dB' : Dt), L_PB_fact p1 p2 p3 p4 dA = some (r, dA') ∧ L_Mo_fact p1 p2 p3 p4 dB = some (r, dB') ∧ RS dA' dB' := by
  have bad : ∃ (r : Int) (dA' dB' : Dt), L_PB_fact_b43 p1 p2 p3 p4 0 dA = some (r, dA') ∧ L_Mo_fact_b34 dB = some (r, dB') ∧ RS dA' dB' := by
    unfold L_PB_fact_b43 L_PB_fact_b56 L_Mo_fact_b34
    simp only [if_true, e_ref, bd_s]
    exact ⟨_, _, _, rfl, rfl, RS.of⟩
  unfold L_PB_fact L_Mo_fact
  rw [e_Pe_has, e_Mo_isPerson, bd_s, bd_s, hP.1]
  by_cases c0 : 0 ≤ p1 ∧ p1 < dB 0 7
  · simp only [if_pos c0, i10, if_false, e_PB_isPlace, e_Mo_isPlace, bd_s]
    by_cases c1 : 0 ≤ p2 ∧ p2 ≤ 6
    · simp only [if_pos c1, if_pos (show 0 ≤ p2 ∧ p2 < 7 by omega), i10, if_false, e_PB_isDay, e_Mo_isDay, bd_s]
      by_cases c2 : 0 ≤ p3 ∧ p3 ≤ 9999
      · simp only [if_pos c2, i10, if_false, within_e, bd_s]
        by_cases c3 : 0 ≤ p4 ∧ p4 ≤ 6
        · have hR' : RR (up2 dA 0 0 0) dB := hR.cgA (fun k h1 h2 => up2_K _ _ _ (by omega))
          have hP' : RP (up2 dA 0 0 0) dB := by unfold RP at hP ⊢; rw [up2_K _ _ _ (by decide)]; exact hP
          have hH' : RH (up2 dA 0 0 0) dB := by unfold RH at hH ⊢; rw [up2_K _ _ _ (by decide), up2_K _ _ _ (by decide), up2_K _ _ _ (by decide)]; exact hH
          obtain ⟨d', t1, t2, t3, t4⟩ := tell_e hR' hP' hH' 2 7 (by decide) (Or.inl rfl) p1 p2 p3 c0 c2
          have fb := factB_b hR hH p1 p2 p3 p4.toNat c0 c2
          have e2 := factOf_e hR hP p1 p2 p3 p4.toNat (by omega) c0 c2
          rw [show ((p4.toNat : Nat) : Int) = p4 by omega] at e2
          unfold L_PB_fact_b43 L_PB_fact_b56
          simp only [if_pos c3, i10, if_false, if_neg (show ¬ p4 < 0 by omega), if_neg (show ¬ 6 < p4 by omega), e2, bd_s, e_giv, t1, ck_pos (show 0 ≤ p4 ∧ p4 < 7 by omega), t3 p4.toNat (by omega), w32_s (x := factB dB p1 p2 p3 p4.toNat) (by omega) (by omega)]
          refine ⟨_, _, _, rfl, rfl, ?_⟩
          unfold RS
          rw [t2 0 (by decide), up2_s, up2_s]
        · simp only [if_neg c3, if_true]
          by_cases c4 : p4 < 0
          · simp only [if_pos c4]; exact bad
          · simp only [if_neg c4, if_pos (show 6 < p4 by omega)]; exact bad
      · simp only [if_neg c2, if_true]; exact bad
    · simp only [if_neg c1, if_neg (show ¬ (0 ≤ p2 ∧ p2 < 7) by omega), if_true]; exact bad
  · simp only [if_neg c0, if_true]; exact bad
