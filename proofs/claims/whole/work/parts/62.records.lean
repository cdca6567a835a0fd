/-! RECORDS: hold, split, pay, asof -/
theorem i10 : ((1 : Int) = 0) = False := by simp
theorem i20 : ((2 : Int) = 0) = False := by simp
theorem i30 : ((3 : Int) = 0) = False := by simp
theorem i40 : ((4 : Int) = 0) = False := by simp
theorem i50 : ((5 : Int) = 0) = False := by simp
theorem i60 : ((6 : Int) = 0) = False := by simp
theorem i70 : ((7 : Int) = 0) = False := by simp
def RP (dA dB : Dt) : Prop := dA 7 3 = dB 0 7 ∧ 0 ≤ dB 0 7 ∧ dB 0 7 ≤ 40
def RR (dA dB : Dt) : Prop := dA 11 1 = dB 0 12 ∧ dA 11 2 = dB 0 11 ∧ (dA 11 9 = dB 0 8 ∧ 0 ≤ dB 0 8 ∧ dB 0 8 ≤ 80) ∧ (dA 11 13 = dB 0 9 ∧ 0 ≤ dB 0 9 ∧ dB 0 9 ≤ 30) ∧ (dA 11 18 = dB 0 10 ∧ 0 ≤ dB 0 10 ∧ dB 0 10 ≤ 60) ∧ (∀ i : Nat, (i : Int) < dB 0 8 → dA 12 i = dB 10 i ∧ dA 13 i = dB 11 i ∧ dA 14 i = dB 12 i ∧ dA 15 i = dB 13 i ∧ dA 16 i = dB 14 i ∧ dA 17 i = dB 15 i ∧ 1 ≤ dB 12 i ∧ dB 12 i ≤ 1000 ∧ 0 ≤ dB 13 i ∧ dB 13 i ≤ 9999 ∧ 0 ≤ dB 11 i ∧ dB 11 i < 40) ∧ (∀ i : Nat, (i : Int) < dB 0 9 → dA 18 i = dB 16 i ∧ dA 19 i = dB 17 i ∧ dA 20 i = dB 18 i ∧ 0 ≤ dB 17 i ∧ dB 17 i ≤ 9999 ∧ 0 ≤ dB 16 i ∧ dB 16 i < 40) ∧ ∀ i : Nat, (i : Int) < dB 0 10 → dA 21 i = dB 19 i ∧ dA 22 i = (if dB 23 i = 0 then 0 else dB 20 i) ∧ dA 23 i = dB 21 i ∧ dA 24 i = dB 22 i ∧ 1 ≤ dB 20 i ∧ dB 20 i ≤ 1000
theorem RR.st {dA dB : Dt} {u v : Int} (h : RR dA dB) : RR (up2 dA 0 0 u) (up2 dB 0 0 v) := by
  unfold RR at h ⊢
  simp (disch := decide) only [up2_s, up2_j, up2_K]
  exact h
theorem e_Pe_has (p : Int) (d : Dt) : L_Pe_has p d = some (if 0 ≤ p ∧ p < d 7 3 then 1 else 0, d) := by
  unfold L_Pe_has
  by_cases h : p < 0
  · rw [if_pos h, if_neg (by omega)]
  · rw [if_neg h]
    by_cases h2 : p < d 7 3
    · rw [if_pos h2, if_pos (by omega)]
    · rw [if_neg h2, if_neg (by omega)]
theorem e_Mo_isPerson (p : Int) (d : Dt) : L_Mo_isPerson p d = some (if 0 ≤ p ∧ p < d 0 7 then 1 else 0, d) := by
  unfold L_Mo_isPerson
  by_cases h : p < 0
  · rw [if_pos h, if_neg (by omega)]
  · rw [if_neg h]
    by_cases h2 : p < d 0 7
    · rw [if_pos h2, if_pos (by omega)]
    · rw [if_neg h2, if_neg (by omega)]
theorem e_hFull (d : Dt) : L_Re_holdingsFull d = some (if d 11 9 < 80 then 0 else 1, d) := by unfold L_Re_holdingsFull; split <;> rfl
theorem e_sFull (d : Dt) : L_Re_splitsFull d = some (if d 11 13 < 30 then 0 else 1, d) := by unfold L_Re_splitsFull; split <;> rfl
theorem e_yFull (d : Dt) : L_Re_paymentsFull d = some (if d 11 18 < 60 then 0 else 1, d) := by unfold L_Re_paymentsFull; split <;> rfl
theorem e_rs0 (f q : Int) (d : Dt) : L_PB_recordStatus 0 f q d = some (1, d) := by unfold L_PB_recordStatus; rw [if_pos rfl]
theorem e_rs1 (f q : Int) (d : Dt) : L_PB_recordStatus 1 f q d = some (if f = 0 then (if q < d 11 2 then 5 else 0) else 4, d) := by
  unfold L_PB_recordStatus L_Re_isGone
  rw [if_neg (show ¬ (1 : Int) = 0 by decide)]
  by_cases h : f = 0
  · rw [if_pos h, if_pos h]
    by_cases h2 : q < d 11 2
    · rw [if_pos h2, if_pos h2, bd_s, if_neg (show ¬ (1 : Int) = 0 by decide)]
    · rw [if_neg h2, if_neg h2, bd_s, if_pos rfl]
  · rw [if_neg h, if_neg h]
theorem e_wt (a b q : Int) (d : Dt) : L_Mo_wrongTelling a b q d = some (if a = b then 4 else if q < d 0 11 then 5 else 0, d) := by
  unfold L_Mo_wrongTelling
  by_cases h : a = b
  · rw [if_pos h, if_pos h]
  · rw [if_neg h, if_neg h]
    by_cases h2 : q < d 0 11
    · rw [if_pos h2, if_pos h2]
    · rw [if_neg h2, if_neg h2]
theorem T_hold {p1 p2 p3 p4 p5 p6 : Int} {dA dB : Dt} (hP : RP dA dB) (hR : RR dA dB) : ∃ (r : Int) (dA' dB' : Dt), L_PB_hold p1 p2 p3 p4 p5 p6 dA = some (r, dA') ∧ L_Mo_hold p1 p2 p3 p4 p5 p6 dB = some (r, dB') ∧ RS dA' dB' ∧ RR dA' dB' := by
  have bad : ∃ (r : Int) (dA' dB' : Dt), L_PB_hold_b71 p1 p2 p3 p4 p5 p6 0 dA = some (r, dA') ∧ L_Mo_hold_b53 dB = some (r, dB') ∧ RS dA' dB' ∧ RR dA' dB' := by
    unfold L_PB_hold_b71 L_PB_hold_b115 L_Mo_hold_b53
    rw [e_hFull, e_is, bd_s, bd_s, e_rs0, bd_s, if_neg (show ¬ (1 : Int) = 0 by decide), if_neg (show ¬ (1 : Int) = 0 by decide), up2_s, if_neg (show ¬ (1 : Int) = 0 by decide)]
    exact ⟨_, _, _, rfl, rfl, RS.of, hR.st⟩
  obtain ⟨r1, r2, r3, r4, r5, r6, r7, r8⟩ := id hR
  unfold L_PB_hold L_Mo_hold
  rw [e_Pe_has, e_Mo_isPerson, bd_s, bd_s, hP.1]
  by_cases c0 : 0 ≤ p1 ∧ p1 < dB 0 7
  · rw [if_pos c0, if_neg (show ¬ (1 : Int) = 0 by decide), if_neg (show ¬ (1 : Int) = 0 by decide)]
    rw [within_e, e_Mo_isPlot, bd_s, bd_s]
    by_cases c1 : 0 ≤ p2 ∧ p2 ≤ 39
    · rw [if_pos c1, if_pos (show 0 ≤ p2 ∧ p2 < 40 by omega), if_neg (show ¬ (1 : Int) = 0 by decide), if_neg (show ¬ (1 : Int) = 0 by decide)]
      rw [within_e, e_Mo_areShillings, bd_s, bd_s]
      by_cases c2 : 1 ≤ p3 ∧ p3 ≤ 1000
      · rw [if_pos c2, if_neg (show ¬ (1 : Int) = 0 by decide), if_neg (show ¬ (1 : Int) = 0 by decide)]
        rw [e_PB_isDay, e_Mo_isDay, bd_s, bd_s]
        by_cases c3 : 0 ≤ p4 ∧ p4 ≤ 9999
        · rw [if_pos c3, if_neg (show ¬ (1 : Int) = 0 by decide), if_neg (show ¬ (1 : Int) = 0 by decide)]
          rw [e_PB_isDay, e_Mo_isDay, bd_s, bd_s]
          by_cases c4 : 0 ≤ p5 ∧ p5 ≤ 9999
          · rw [if_pos c4, if_neg (show ¬ (1 : Int) = 0 by decide), if_neg (show ¬ (1 : Int) = 0 by decide)]
            by_cases c5 : p5 < p4
            · rw [if_pos c5, if_pos c5]; exact bad
            · rw [if_neg c5, if_neg c5]
              rw [e_PB_isDay, e_Mo_isDay, bd_s, bd_s]
              by_cases c6 : 0 ≤ p6 ∧ p6 ≤ 9999
              · rw [if_pos c6, if_neg (show ¬ (1 : Int) = 0 by decide), if_neg (show ¬ (1 : Int) = 0 by decide)]
                unfold L_PB_hold_b71 L_PB_hold_b115
                rw [e_hFull, bd_s, e_rs1, bd_s, e_wt, bd_s, r3.1, r2]
                by_cases hf : dB 0 8 = 80
                · rw [if_pos hf, if_neg (show ¬ dB 0 8 < 80 by omega), if_neg (show ¬ (1 : Int) = 0 by decide), if_neg (show ¬ (4 : Int) = 0 by decide), up2_s, if_neg (show ¬ (4 : Int) = 0 by decide), if_pos (show (0 : Int) < 4 by decide), e_is, bd_s, if_neg (show ¬ (4 : Int) = 0 by decide)]
                  exact ⟨_, _, _, rfl, rfl, RS.of, hR.st⟩
                · rw [if_neg hf, if_pos (show dB 0 8 < 80 by omega), if_pos (show (0 : Int) = 0 by rfl)]
                  by_cases hq : p6 < dB 0 11
                  · rw [if_pos hq, if_neg (show ¬ (5 : Int) = 0 by decide), up2_s, if_neg (show ¬ (5 : Int) = 0 by decide), if_pos (show (0 : Int) < 5 by decide), e_is, bd_s, if_neg (show ¬ (5 : Int) = 0 by decide)]
                    exact ⟨_, _, _, rfl, rfl, RS.of, hR.st⟩
                  · have hc : 0 ≤ dB 0 8 ∧ dB 0 8 < 80 := by omega
                    have hA : up2 dA 0 0 0 11 9 = dB 0 8 := by rw [up2_k _ _ _ _ (show (11 : Nat) ≠ 0 by decide)]; exact r3.1
                    rw [if_neg hq, if_pos (show (0 : Int) = 0 by rfl), if_neg (show ¬ (0 : Int) < 0 by decide)]
                    unfold L_Re_addHolding
                    rw [hA, ck_pos hc, ck_pos hc, ck_pos hc, ck_pos hc, ck_pos hc, ck_pos hc, bd_s]
                    simp (disch := decide) only [up2_s, up2_j, up2_K]
                    rw [ck_pos hc, ck_pos hc, ck_pos hc, ck_pos hc, ck_pos hc, ck_pos hc, e_is, bd_s, if_pos rfl, w32_s (x := dB 0 8 + 1) (by omega) (by omega)]
                    refine ⟨_, _, _, rfl, rfl, ?_, ?_⟩
                    · unfold RS; simp (disch := decide) only [up2_s, up2_j, up2_K]
                    · unfold RR
                      simp (disch := decide) only [up2_s, up2_j, up2_K]
                      refine ⟨r1, by trivial, ⟨by trivial, by omega, by omega⟩, r4, r5, fun i hi => ?_, r7, r8⟩
                      by_cases hp : i = (dB 0 8).toNat
                      · subst hp
                        simp only [up2_s]
                        exact ⟨by trivial, by trivial, by trivial, by trivial, by trivial, by trivial, by omega, by omega, by omega, by omega, by omega, by omega⟩
                      · simp only [up2_j _ _ _ hp]
                        exact r6 i (by omega)
              · rw [if_neg c6, if_pos rfl, if_pos rfl]; exact bad
          · rw [if_neg c4, if_pos rfl, if_pos rfl]; exact bad
        · rw [if_neg c3, if_pos rfl, if_pos rfl]; exact bad
      · rw [if_neg c2, if_pos rfl, if_pos rfl]; exact bad
    · rw [if_neg c1, if_neg (show ¬ (0 ≤ p2 ∧ p2 < 40) by omega), if_pos rfl, if_pos rfl]; exact bad
  · rw [if_neg c0, if_pos rfl, if_pos rfl]; exact bad
theorem T_asof {p1 : Int} {dA dB : Dt} (hR : RR dA dB) : ∃ (r : Int) (dA' dB' : Dt), L_PB_asof p1 dA = some (r, dA') ∧ L_Mo_asof p1 dB = some (r, dB') ∧ RS dA' dB' ∧ RR dA' dB' := by
  obtain ⟨r1, r2, r3, r4, r5, r6, r7, r8⟩ := id hR
  unfold L_PB_asof L_Mo_asof L_PB_asof_b13 L_PB_asof_b31 L_Re_lookBackFrom
  by_cases h : 0 ≤ p1 ∧ p1 ≤ 9999
  · simp (disch := decide) only [e_PB_isDay, e_Mo_isDay, e_is, if_pos h, bd_s, i10, i20, i30, i40, i50, i60, i70, if_true, if_false, up2_s, up2_j, up2_K]
    refine ⟨_, _, _, rfl, rfl, ?_, ?_⟩
    · unfold RS; simp (disch := decide) only [up2_s, up2_j, up2_K]
    · unfold RR
      simp (disch := decide) only [up2_s, up2_j, up2_K]
      exact ⟨by trivial, r2, r3, r4, r5, r6, r7, r8⟩
  · simp (disch := decide) only [e_PB_isDay, e_Mo_isDay, e_is, if_neg h, bd_s, i10, i20, i30, i40, i50, i60, i70, if_true, if_false, up2_s, up2_j, up2_K]
    exact ⟨_, _, _, rfl, rfl, RS.of, hR.st⟩
theorem T_split {p1 p2 p3 : Int} {dA dB : Dt} (hP : RP dA dB) (hR : RR dA dB) : ∃ (r : Int) (dA' dB' : Dt), L_PB_split p1 p2 p3 dA = some (r, dA') ∧ L_Mo_split p1 p2 p3 dB = some (r, dB') ∧ RS dA' dB' ∧ RR dA' dB' := by
  have bad : ∃ (r : Int) (dA' dB' : Dt), L_PB_split_b31 p1 p2 p3 0 dA = some (r, dA') ∧ L_Mo_split_b21 dB = some (r, dB') ∧ RS dA' dB' ∧ RR dA' dB' := by
    unfold L_PB_split_b31 L_PB_split_b68 L_Mo_split_b21
    rw [e_sFull, e_is, bd_s, bd_s, e_rs0, bd_s, if_neg (show ¬ (1 : Int) = 0 by decide), if_neg (show ¬ (1 : Int) = 0 by decide), up2_s, if_neg (show ¬ (1 : Int) = 0 by decide)]
    exact ⟨_, _, _, rfl, rfl, RS.of, hR.st⟩
  obtain ⟨r1, r2, r3, r4, r5, r6, r7, r8⟩ := id hR
  unfold L_PB_split L_Mo_split
  rw [within_e, e_Mo_isPlot, bd_s, bd_s]
  by_cases c0 : 0 ≤ p1 ∧ p1 ≤ 39
  · rw [if_pos c0, if_pos (show 0 ≤ p1 ∧ p1 < 40 by omega), if_neg (show ¬ (1 : Int) = 0 by decide), if_neg (show ¬ (1 : Int) = 0 by decide)]
    rw [e_PB_isDay, e_Mo_isDay, bd_s, bd_s]
    by_cases c1 : 0 ≤ p2 ∧ p2 ≤ 9999
    · rw [if_pos c1, if_neg (show ¬ (1 : Int) = 0 by decide), if_neg (show ¬ (1 : Int) = 0 by decide)]
      rw [e_PB_isDay, e_Mo_isDay, bd_s, bd_s]
      by_cases c2 : 0 ≤ p3 ∧ p3 ≤ 9999
      · rw [if_pos c2, if_neg (show ¬ (1 : Int) = 0 by decide), if_neg (show ¬ (1 : Int) = 0 by decide)]
        unfold L_PB_split_b31 L_PB_split_b68
        rw [e_sFull, bd_s, e_rs1, bd_s, e_wt, bd_s, r4.1, r2]
        by_cases hf : dB 0 9 = 30
        · rw [if_pos hf, if_neg (show ¬ dB 0 9 < 30 by omega), if_neg (show ¬ (1 : Int) = 0 by decide), if_neg (show ¬ (4 : Int) = 0 by decide), up2_s, if_neg (show ¬ (4 : Int) = 0 by decide), if_pos (show (0 : Int) < 4 by decide), e_is, bd_s, if_neg (show ¬ (4 : Int) = 0 by decide)]
          exact ⟨_, _, _, rfl, rfl, RS.of, hR.st⟩
        · rw [if_neg hf, if_pos (show dB 0 9 < 30 by omega), if_pos (show (0 : Int) = 0 by rfl)]
          by_cases hq : p3 < dB 0 11
          · rw [if_pos hq, if_neg (show ¬ (5 : Int) = 0 by decide), up2_s, if_neg (show ¬ (5 : Int) = 0 by decide), if_pos (show (0 : Int) < 5 by decide), e_is, bd_s, if_neg (show ¬ (5 : Int) = 0 by decide)]
            exact ⟨_, _, _, rfl, rfl, RS.of, hR.st⟩
          · have hc : 0 ≤ dB 0 9 ∧ dB 0 9 < 30 := by omega
            have hA : up2 dA 0 0 0 11 13 = dB 0 9 := by rw [up2_k _ _ _ _ (show (11 : Nat) ≠ 0 by decide)]; exact r4.1
            rw [if_neg hq, if_pos (show (0 : Int) = 0 by rfl), if_neg (show ¬ (0 : Int) < 0 by decide)]
            unfold L_Re_addSplit
            rw [hA, ck_pos hc, ck_pos hc, ck_pos hc, bd_s]
            simp (disch := decide) only [up2_s, up2_j, up2_K]
            rw [ck_pos hc, ck_pos hc, ck_pos hc, e_is, bd_s, if_pos rfl, w32_s (x := dB 0 9 + 1) (by omega) (by omega)]
            refine ⟨_, _, _, rfl, rfl, ?_, ?_⟩
            · unfold RS; simp (disch := decide) only [up2_s, up2_j, up2_K]
            · unfold RR
              simp (disch := decide) only [up2_s, up2_j, up2_K]
              refine ⟨r1, by trivial, r3, ⟨by trivial, by omega, by omega⟩, r5, r6, fun i hi => ?_, r8⟩
              by_cases hp : i = (dB 0 9).toNat
              · subst hp
                simp only [up2_s]
                exact ⟨by trivial, by trivial, by trivial, by omega, by omega, by omega, by omega⟩
              · simp only [up2_j _ _ _ hp]
                exact r7 i (by omega)
      · rw [if_neg c2, if_pos rfl, if_pos rfl]; exact bad
    · rw [if_neg c1, if_pos rfl, if_pos rfl]; exact bad
  · rw [if_neg c0, if_neg (show ¬ (0 ≤ p1 ∧ p1 < 40) by omega), if_pos rfl, if_pos rfl]; exact bad
theorem T_pay {p1 p2 p3 p4 p5 : Int} {dA dB : Dt} (hP : RP dA dB) (hR : RR dA dB) : ∃ (r : Int) (dA' dB' : Dt), L_PB_pay p1 p2 p3 p4 p5 dA = some (r, dA') ∧ L_Mo_pay p1 p2 p3 p4 p5 dB = some (r, dB') ∧ RS dA' dB' ∧ RR dA' dB' := by
  have bad : ∃ (r : Int) (dA' dB' : Dt), L_PB_pay_b43 p1 p2 p3 p4 p5 0 dA = some (r, dA') ∧ L_Mo_pay_b30 dB = some (r, dB') ∧ RS dA' dB' ∧ RR dA' dB' := by
    unfold L_PB_pay_b43 L_PB_pay_b85 L_Mo_pay_b30
    rw [e_yFull, e_is, bd_s, bd_s, e_rs0, bd_s, if_neg (show ¬ (1 : Int) = 0 by decide), if_neg (show ¬ (1 : Int) = 0 by decide), up2_s, if_neg (show ¬ (1 : Int) = 0 by decide)]
    exact ⟨_, _, _, rfl, rfl, RS.of, hR.st⟩
  obtain ⟨r1, r2, r3, r4, r5, r6, r7, r8⟩ := id hR
  unfold L_PB_pay L_Mo_pay
  rw [e_Pe_has, e_Mo_isPerson, bd_s, bd_s, hP.1]
  by_cases c0 : 0 ≤ p1 ∧ p1 < dB 0 7
  · rw [if_pos c0, if_neg (show ¬ (1 : Int) = 0 by decide), if_neg (show ¬ (1 : Int) = 0 by decide)]
    rw [within_e, e_Mo_areShillings, bd_s, bd_s]
    by_cases c1 : 1 ≤ p2 ∧ p2 ≤ 1000
    · rw [if_pos c1, if_neg (show ¬ (1 : Int) = 0 by decide), if_neg (show ¬ (1 : Int) = 0 by decide)]
      rw [e_PB_isDay, e_Mo_isDay, bd_s, bd_s]
      by_cases c2 : 0 ≤ p3 ∧ p3 ≤ 9999
      · rw [if_pos c2, if_neg (show ¬ (1 : Int) = 0 by decide), if_neg (show ¬ (1 : Int) = 0 by decide)]
        rw [e_PB_isDay, e_Mo_isDay, bd_s, bd_s]
        by_cases c3 : 0 ≤ p5 ∧ p5 ≤ 9999
        · rw [if_pos c3, if_neg (show ¬ (1 : Int) = 0 by decide), if_neg (show ¬ (1 : Int) = 0 by decide)]
          unfold L_PB_pay_b43 L_PB_pay_b85
          rw [e_yFull, bd_s, e_rs1, bd_s, e_wt, bd_s, r5.1, r2]
          by_cases hf : dB 0 10 = 60
          · rw [if_pos hf, if_neg (show ¬ dB 0 10 < 60 by omega), if_neg (show ¬ (1 : Int) = 0 by decide), if_neg (show ¬ (4 : Int) = 0 by decide), up2_s, if_neg (show ¬ (4 : Int) = 0 by decide), if_pos (show (0 : Int) < 4 by decide), e_is, bd_s, if_neg (show ¬ (4 : Int) = 0 by decide)]
            exact ⟨_, _, _, rfl, rfl, RS.of, hR.st⟩
          · rw [if_neg hf, if_pos (show dB 0 10 < 60 by omega), if_pos (show (0 : Int) = 0 by rfl)]
            by_cases hq : p5 < dB 0 11
            · rw [if_pos hq, if_neg (show ¬ (5 : Int) = 0 by decide), up2_s, if_neg (show ¬ (5 : Int) = 0 by decide), if_pos (show (0 : Int) < 5 by decide), e_is, bd_s, if_neg (show ¬ (5 : Int) = 0 by decide)]
              exact ⟨_, _, _, rfl, rfl, RS.of, hR.st⟩
            · have hc : 0 ≤ dB 0 10 ∧ dB 0 10 < 60 := by omega
              have hA : up2 dA 0 0 0 11 18 = dB 0 10 := by rw [up2_k _ _ _ _ (show (11 : Nat) ≠ 0 by decide)]; exact r5.1
              rw [if_neg hq, if_pos (show (0 : Int) = 0 by rfl), if_neg (show ¬ (0 : Int) < 0 by decide)]
              have hA2 : up2 (up2 dA 0 0 0) 21 (dB 0 10).toNat p1 11 18 = dB 0 10 := by rw [up2_k _ _ _ _ (show (11 : Nat) ≠ 21 by decide)]; exact hA
              have hB : ∀ e : Dt, (if p4 = 0 then L_Re_addPayment_b28 p3 p5 (dB 0 10) 0 e else L_Re_addPayment_b28 p3 p5 (dB 0 10) p2 e) = L_Re_addPayment_b28 p3 p5 (dB 0 10) (if p4 = 0 then 0 else p2) e := by intro e; split <;> rfl
              unfold L_Re_addPayment
              rw [hA, ck_pos hc, hB]
              unfold L_Re_addPayment_b28
              rw [hA2, ck_pos hc, ck_pos hc, ck_pos hc, bd_s]
              simp (disch := decide) only [up2_s, up2_j, up2_K]
              rw [ck_pos hc, ck_pos hc, ck_pos hc, ck_pos hc, ck_pos hc, e_is, bd_s, if_pos rfl, w32_s (x := dB 0 10 + 1) (by omega) (by omega)]
              refine ⟨_, _, _, rfl, rfl, ?_, ?_⟩
              · unfold RS; simp (disch := decide) only [up2_s, up2_j, up2_K]
              · unfold RR
                simp (disch := decide) only [up2_s, up2_j, up2_K]
                refine ⟨r1, by trivial, r3, r4, ⟨by trivial, by omega, by omega⟩, r6, r7, fun i hi => ?_⟩
                by_cases hp : i = (dB 0 10).toNat
                · subst hp
                  simp only [up2_s]
                  exact ⟨by trivial, by trivial, by trivial, by trivial, by omega, by omega⟩
                · simp only [up2_j _ _ _ hp]
                  exact r8 i (by omega)
        · rw [if_neg c3, if_pos rfl, if_pos rfl]; exact bad
      · rw [if_neg c2, if_pos rfl, if_pos rfl]; exact bad
    · rw [if_neg c1, if_pos rfl, if_pos rfl]; exact bad
  · rw [if_neg c0, if_pos rfl, if_pos rfl]; exact bad
