/-! predicates; MEMBERS, MILES, REACH, FAULTS: the calls that only tell or are told -/
theorem e_PB_isDay (p : Int) (d : Dt) : L_PB_isDay p d = some (if 0 ≤ p ∧ p ≤ 9999 then 1 else 0, d) := by unfold L_PB_isDay; rw [within_e, bd_s]
theorem e_PB_isMinute (p : Int) (d : Dt) : L_PB_isMinute p d = some (if 0 ≤ p ∧ p ≤ 1439 then 1 else 0, d) := by unfold L_PB_isMinute; rw [within_e, bd_s]
theorem e_PB_isPlace (p : Int) (d : Dt) : L_PB_isPlace p d = some (if 0 ≤ p ∧ p ≤ 6 then 1 else 0, d) := by unfold L_PB_isPlace; rw [within_e, bd_s]
theorem e_PB_isCandidate (p : Int) (d : Dt) : L_PB_isCandidate p d = some (if 0 ≤ p ∧ p ≤ 3 then 1 else 0, d) := by unfold L_PB_isCandidate; rw [within_e, bd_s]
theorem e_PB_isSet (p : Int) (d : Dt) : L_PB_isSet p d = some (if 1 ≤ p ∧ p ≤ 15 then 1 else 0, d) := by unfold L_PB_isSet; rw [within_e, bd_s]
theorem e_Mo_isPlace (p : Int) (d : Dt) : L_Mo_isPlace p d = some (if 0 ≤ p ∧ p < 7 then 1 else 0, d) := by
  unfold L_Mo_isPlace
  by_cases h : p < 0
  · rw [if_pos h, if_neg (by omega)]
  · rw [if_neg h]
    by_cases h2 : p < 7
    · rw [if_pos h2, if_pos (by omega)]
    · rw [if_neg h2, if_neg (by omega)]
theorem e_Mo_isTrade (p : Int) (d : Dt) : L_Mo_isTrade p d = some (if 0 ≤ p ∧ p < 20 then 1 else 0, d) := by
  unfold L_Mo_isTrade
  by_cases h : p < 0
  · rw [if_pos h, if_neg (by omega)]
  · rw [if_neg h]
    by_cases h2 : p < 20
    · rw [if_pos h2, if_pos (by omega)]
    · rw [if_neg h2, if_neg (by omega)]
theorem e_Mo_isCandidate (p : Int) (d : Dt) : L_Mo_isCandidate p d = some (if 0 ≤ p ∧ p < 4 then 1 else 0, d) := by
  unfold L_Mo_isCandidate
  by_cases h : p < 0
  · rw [if_pos h, if_neg (by omega)]
  · rw [if_neg h]
    by_cases h2 : p < 4
    · rw [if_pos h2, if_pos (by omega)]
    · rw [if_neg h2, if_neg (by omega)]
theorem e_Mo_isPlot (p : Int) (d : Dt) : L_Mo_isPlot p d = some (if 0 ≤ p ∧ p < 40 then 1 else 0, d) := by
  unfold L_Mo_isPlot
  by_cases h : p < 0
  · rw [if_pos h, if_neg (by omega)]
  · rw [if_neg h]
    by_cases h2 : p < 40
    · rw [if_pos h2, if_pos (by omega)]
    · rw [if_neg h2, if_neg (by omega)]
theorem e_Mo_isDay (p : Int) (d : Dt) : L_Mo_isDay p d = some (if 0 ≤ p ∧ p ≤ 9999 then 1 else 0, d) := by
  unfold L_Mo_isDay
  by_cases h : p < 0
  · rw [if_pos h, if_neg (by omega)]
  · rw [if_neg h]
    by_cases h2 : 9999 < p
    · rw [if_pos h2, if_neg (by omega)]
    · rw [if_neg h2, if_pos (by omega)]
theorem e_Mo_isMinute (p : Int) (d : Dt) : L_Mo_isMinute p d = some (if 0 ≤ p ∧ p ≤ 1439 then 1 else 0, d) := by
  unfold L_Mo_isMinute
  by_cases h : p < 0
  · rw [if_pos h, if_neg (by omega)]
  · rw [if_neg h]
    by_cases h2 : 1439 < p
    · rw [if_pos h2, if_neg (by omega)]
    · rw [if_neg h2, if_pos (by omega)]
theorem e_Mo_isSet (p : Int) (d : Dt) : L_Mo_isSet p d = some (if 1 ≤ p ∧ p ≤ 15 then 1 else 0, d) := by
  unfold L_Mo_isSet
  by_cases h : p < 1
  · rw [if_pos h, if_neg (by omega)]
  · rw [if_neg h]
    by_cases h2 : 15 < p
    · rw [if_pos h2, if_neg (by omega)]
    · rw [if_neg h2, if_pos (by omega)]
theorem e_Mo_areShillings (p : Int) (d : Dt) : L_Mo_areShillings p d = some (if 1 ≤ p ∧ p ≤ 1000 then 1 else 0, d) := by
  unfold L_Mo_areShillings
  by_cases h : p < 1
  · rw [if_pos h, if_neg (by omega)]
  · rw [if_neg h]
    by_cases h2 : 1000 < p
    · rw [if_pos h2, if_neg (by omega)]
    · rw [if_neg h2, if_pos (by omega)]
theorem e_Mo_isKin (p : Int) (d : Dt) : L_Mo_isKin p d = some (if 0 ≤ p ∧ p ≤ 20 then 1 else 0, d) := by
  unfold L_Mo_isKin
  by_cases h : p < 0
  · rw [if_pos h, if_neg (by omega)]
  · rw [if_neg h]
    by_cases h2 : 20 < p
    · rw [if_pos h2, if_neg (by omega)]
    · rw [if_neg h2, if_pos (by omega)]
theorem e_is (v : Int) (d : Dt) : L_Mo_is v d = some (if v = 0 then 1 else 0, up2 d 0 0 v) := by unfold L_Mo_is; split <;> rfl
theorem e_ref (v : Int) (d : Dt) : L_Mo_refuse v d = some (-1, up2 d 0 0 v) := rfl
theorem e_giv (v : Int) (d : Dt) : L_Mo_gives v d = some (v, up2 d 0 0 0) := rfl
theorem RS.of {dA dB : Dt} {v : Int} : RS (up2 dA 0 0 v) (up2 dB 0 0 v) := by unfold RS; rw [up2_s, up2_s]
/-! status -/
theorem T_status {dA dB : Dt} (h : RS dA dB) : ∃ (r : Int) (dA' dB' : Dt), L_PB_status dA = some (r, dA') ∧ L_Mo_status dB = some (r, dB') ∧ dA' = dA ∧ dB' = dB := by
  unfold L_PB_status L_Mo_status
  exact ⟨_, _, _, rfl, by rw [h], rfl, rfl⟩
/-! REACH -/
def RQ (dA dB : Dt) : Prop := dA 49 3 = dB 0 79 ∧ 0 ≤ dB 0 79 ∧ dB 0 79 ≤ 30
theorem T_reach {p1 : Int} {dA dB : Dt} (hR : RQ dA dB) : ∃ (r : Int) (dA' dB' : Dt), L_PB_reach p1 dA = some (r, dA') ∧ L_Mo_reach p1 dB = some (r, dB') ∧ RS dA' dB' ∧ RQ dA' dB' := by
  unfold L_PB_reach L_Mo_reach L_PB_reach_b18 L_PB_reach_b36 L_Po_reachTo L_Mo_reach_b10
  rw [within_e, bd_s, e_is, e_is, bd_s, bd_s, bd_s]
  by_cases h : 0 ≤ p1 ∧ p1 ≤ 30
  · rw [if_pos h, if_neg (by decide), if_pos rfl, if_neg (show ¬ p1 < 0 by omega), if_neg (show ¬ 30 < p1 by omega), up2_k _ _ _ _ (show (0 : Nat) ≠ 49 by decide), up2_s, if_pos rfl, if_pos rfl]
    refine ⟨_, _, _, rfl, rfl, ?_, ?_⟩
    · unfold RS; rw [up2_k _ _ _ _ (show (0 : Nat) ≠ 49 by decide), up2_s, up2_s]
    · unfold RQ; rw [up2_s, up2_j _ _ _ (show (79 : Nat) ≠ 0 by decide), up2_s]; exact ⟨rfl, h.1, h.2⟩
  · have fin : RQ (up2 dA 0 0 1) (up2 dB 0 0 1) := by
      unfold RQ; rw [up2_k _ _ _ _ (show (49 : Nat) ≠ 0 by decide), up2_j _ _ _ (show (79 : Nat) ≠ 0 by decide)]; exact hR
    rw [if_neg h, if_pos rfl, if_neg (show ¬ (1 : Int) = 0 by decide), up2_s, if_neg (show ¬ (1 : Int) = 0 by decide)]
    by_cases h1 : p1 < 0
    · rw [if_pos h1, if_neg (show ¬ (1 : Int) = 0 by decide)]
      exact ⟨_, _, _, rfl, rfl, RS.of, fin⟩
    · rw [if_neg h1, if_pos (show 30 < p1 by omega), if_neg (show ¬ (1 : Int) = 0 by decide)]
      exact ⟨_, _, _, rfl, rfl, RS.of, fin⟩
/-! MEMBERS -/
def RJ (dA dB : Dt) : Prop := dA 64 2 = dB 0 99 ∧ 0 ≤ dB 0 99 ∧ dB 0 99 ≤ 30 ∧ (∀ i, i < 30 → dA 65 i = dB 69 i ∧ dA 66 i = dB 70 i ∧ -9 ≤ dB 69 i ∧ dB 69 i ≤ 9 ∧ 0 ≤ dB 70 i ∧ dB 70 i ≤ 20) ∧ (∀ i, i < 4 → dA 67 i = dB 71 i ∧ 0 ≤ dB 71 i ∧ dB 71 i ≤ 20) ∧ (dA 64 7 = if dB 0 101 = 0 then 0 else dB 0 100) ∧ 0 ≤ dA 64 7 ∧ dA 64 7 ≤ 30 ∧ ∀ i : Nat, (i : Int) < dA 64 7 → dA 70 i = dB 74 i
theorem RJ.st {dA dB : Dt} {u v : Int} (h : RJ dA dB) : RJ (up2 dA 0 0 u) (up2 dB 0 0 v) := by
  unfold RJ at h ⊢
  simp only [up2_K dA _ _ (show (64 : Nat) ≠ 0 by decide), up2_K dA _ _ (show (65 : Nat) ≠ 0 by decide), up2_K dA _ _ (show (66 : Nat) ≠ 0 by decide), up2_K dA _ _ (show (67 : Nat) ≠ 0 by decide), up2_K dA _ _ (show (70 : Nat) ≠ 0 by decide), up2_K dB _ _ (show (69 : Nat) ≠ 0 by decide), up2_K dB _ _ (show (70 : Nat) ≠ 0 by decide), up2_K dB _ _ (show (71 : Nat) ≠ 0 by decide), up2_K dB _ _ (show (74 : Nat) ≠ 0 by decide), up2_j dB _ _ (show (99 : Nat) ≠ 0 by decide), up2_j dB _ _ (show (100 : Nat) ≠ 0 by decide), up2_j dB _ _ (show (101 : Nat) ≠ 0 by decide)]
  exact h
theorem T_bench {p1 : Int} {dA dB : Dt} (hR : RJ dA dB) : ∃ (r : Int) (dA' dB' : Dt), L_PB_bench p1 dA = some (r, dA') ∧ L_Mo_bench p1 dB = some (r, dB') ∧ RS dA' dB' ∧ RJ dA' dB' := by
  obtain ⟨r1, r2, r3, r4, r5, r6, r7, r8, r9⟩ := id hR
  unfold L_PB_bench L_PB_bench_b26 L_Ju_benchSize L_Ju_benchAt L_Mo_bench L_Mo_bench_b27
  rw [e_ref, e_ref, e_giv, bd_s, bd_s, bd_s, bd_s]
  by_cases h : p1 < 0
  · rw [if_pos h, if_pos h, if_neg (show ¬ (1 : Int) = 0 by decide)]
    exact ⟨_, _, _, rfl, rfl, RS.of, hR.st⟩
  · rw [if_neg h, if_neg h]
    by_cases hh : dB 0 101 = 0
    · rw [if_pos hh] at r6
      rw [if_pos hh, r6, if_neg h, if_neg (show ¬ (6 : Int) = 0 by decide)]
      exact ⟨_, _, _, rfl, rfl, RS.of, hR.st⟩
    · rw [if_neg hh] at r6
      rw [if_neg hh, r6]
      by_cases hk : p1 < dB 0 100
      · have h30 : 0 ≤ p1 ∧ p1 < 30 := by omega
        rw [if_pos hk, if_pos hk, if_pos rfl, ck_pos h30, ck_pos h30, bd_s, up2_K _ _ _ (show (70 : Nat) ≠ 0 by decide), r9 p1.toNat (by omega)]
        exact ⟨_, _, _, rfl, rfl, RS.of, hR.st⟩
      · rw [if_neg hk, if_neg hk, if_neg (show ¬ (6 : Int) = 0 by decide)]
        exact ⟨_, _, _, rfl, rfl, RS.of, hR.st⟩
theorem T_kin {p1 p2 : Int} {dA dB : Dt} (hR : RJ dA dB) : ∃ (r : Int) (dA' dB' : Dt), L_PB_kin p1 p2 dA = some (r, dA') ∧ L_Mo_kin p1 p2 dB = some (r, dB') ∧ RS dA' dB' ∧ RJ dA' dB' := by
  have bad : ∃ (r : Int) (dA' dB' : Dt), L_PB_kin_b25 p1 p2 1 dA = some (r, dA') ∧ L_Mo_kin_b14 dB = some (r, dB') ∧ RS dA' dB' ∧ RJ dA' dB' := by
    unfold L_PB_kin_b25 L_PB_kin_b44 L_Mo_kin_b14
    rw [e_is, bd_s, if_neg (by decide), up2_s, if_neg (by decide), if_neg (by decide)]
    exact ⟨_, _, _, rfl, rfl, RS.of, hR.st⟩
  unfold L_PB_kin L_Mo_kin
  rw [e_PB_isCandidate, e_Mo_isCandidate, bd_s, bd_s]
  by_cases h : 0 ≤ p1 ∧ p1 ≤ 3
  · have h4 : 0 ≤ p1 ∧ p1 < 4 := by omega
    rw [if_pos h, if_pos h4, if_neg (by decide), if_neg (by decide), within_e, e_Mo_isKin, bd_s, bd_s]
    by_cases hk : 0 ≤ p2 ∧ p2 ≤ 20
    · rw [if_pos hk, if_neg (by decide), if_neg (by decide), ck_pos h4, e_is, bd_s]
      unfold L_PB_kin_b25 L_PB_kin_b44 L_Ju_tellKin
      rw [if_pos rfl, ck_pos h4, bd_s, up2_k _ _ _ _ (show (0 : Nat) ≠ 67 by decide), up2_s, if_pos rfl, if_pos rfl]
      refine ⟨_, _, _, rfl, rfl, ?_, ?_⟩
      · unfold RS; rw [up2_k _ _ _ _ (show (0 : Nat) ≠ 67 by decide), up2_s, up2_s]
      · have h9 := (hR.st (u := 0) (v := 0))
        unfold RJ at h9 ⊢
        simp only [up2_K _ _ _ (show (64 : Nat) ≠ 67 by decide), up2_K _ _ _ (show (65 : Nat) ≠ 67 by decide), up2_K _ _ _ (show (66 : Nat) ≠ 67 by decide), up2_K _ _ _ (show (70 : Nat) ≠ 67 by decide), up2_K _ _ _ (show (64 : Nat) ≠ 0 by decide), up2_K _ _ _ (show (65 : Nat) ≠ 0 by decide), up2_K _ _ _ (show (66 : Nat) ≠ 0 by decide), up2_K _ _ _ (show (67 : Nat) ≠ 0 by decide), up2_K _ _ _ (show (70 : Nat) ≠ 0 by decide), up2_K _ _ _ (show (69 : Nat) ≠ 0 by decide), up2_K _ _ _ (show (71 : Nat) ≠ 0 by decide), up2_K _ _ _ (show (74 : Nat) ≠ 0 by decide), up2_K _ _ _ (show (69 : Nat) ≠ 71 by decide), up2_K _ _ _ (show (70 : Nat) ≠ 71 by decide), up2_K _ _ _ (show (74 : Nat) ≠ 71 by decide), up2_j _ _ _ (show (99 : Nat) ≠ 0 by decide), up2_j _ _ _ (show (100 : Nat) ≠ 0 by decide), up2_j _ _ _ (show (101 : Nat) ≠ 0 by decide), up2_k _ _ _ _ (show (0 : Nat) ≠ 71 by decide)] at h9 ⊢
        obtain ⟨r1, r2, r3, r4, r5, r6, r7, r8, r9⟩ := h9
        refine ⟨r1, r2, r3, r4, fun i hi => ?_, r6, r7, r8, r9⟩
        by_cases hp : i = p1.toNat
        · subst hp
          rw [up2_s, up2_s]
          exact ⟨rfl, hk.1, hk.2⟩
        · rw [up2_j _ _ _ hp, up2_j _ _ _ hp, up2_k _ _ _ _ (show (67 : Nat) ≠ 0 by decide)]
          exact r5 i hi
    · rw [if_neg hk, if_pos rfl, if_pos rfl]; exact bad
  · rw [if_neg h, if_neg (show ¬ (0 ≤ p1 ∧ p1 < 4) by omega), if_pos rfl, if_pos rfl]; exact bad
theorem T_member {p1 p2 : Int} {dA dB : Dt} (hR : RJ dA dB) : ∃ (r : Int) (dA' dB' : Dt), L_PB_member p1 p2 dA = some (r, dA') ∧ L_Mo_member p1 p2 dB = some (r, dB') ∧ RS dA' dB' ∧ RJ dA' dB' := by
  have bad : ∃ (r : Int) (dA' dB' : Dt), L_PB_member_b31 p1 p2 0 dA = some (r, dA') ∧ L_Mo_member_b19 dB = some (r, dB') ∧ RS dA' dB' ∧ RJ dA' dB' := by
    unfold L_PB_member_b31 L_PB_member_b56 L_Mo_member_b19
    rw [e_ref, bd_s, if_pos rfl, if_neg (by decide)]
    exact ⟨_, _, _, rfl, rfl, RS.of, hR.st⟩
  obtain ⟨r1, r2, r3, r4, r5, r6, r7, r8, r9⟩ := id hR
  unfold L_PB_member L_Mo_member
  rw [within_e, bd_s]
  by_cases h : -9 ≤ p1 ∧ p1 ≤ 9
  · rw [if_pos h, if_neg (by decide), within_e, bd_s, if_neg (show ¬ p1 < -9 by omega), if_neg (show ¬ 9 < p1 by omega), e_Mo_isKin, bd_s]
    by_cases hk : 0 ≤ p2 ∧ p2 ≤ 20
    · rw [if_pos hk, if_neg (by decide), if_neg (by decide)]
      unfold L_PB_member_b31 L_PB_member_b56 L_Ju_isFull L_Ju_add
      rw [if_neg (by decide), r1]
      by_cases hf : dB 0 99 = 30
      · rw [if_pos hf, if_neg (by omega), bd_s, if_neg (by decide), if_neg (by decide), e_ref, bd_s]
        exact ⟨_, _, _, rfl, rfl, RS.of, hR.st⟩
      · have hc : 0 ≤ dB 0 99 ∧ dB 0 99 < 30 := by omega
        rw [if_neg hf, if_pos hc.2, bd_s, if_pos rfl, if_pos rfl, ck_pos hc, ck_pos hc, up2_K _ _ _ (show (64 : Nat) ≠ 0 by decide), r1, ck_pos hc, ck_pos hc, e_giv, bd_s, bd_s]
        rw [w32_s (x := dB 0 99 + 1) (by omega) (by omega)]
        refine ⟨_, _, _, rfl, rfl, ?_, ?_⟩
        · unfold RS
          rw [up2_k _ _ _ _ (show (0 : Nat) ≠ 64 by decide), up2_k _ _ _ _ (show (0 : Nat) ≠ 66 by decide), up2_k _ _ _ _ (show (0 : Nat) ≠ 65 by decide), up2_s, up2_s]
        · refine ⟨?_, ?_, ?_, fun i hi => ?_, fun i hi => ?_, ?_, ?_, ?_, fun i hi => ?_⟩
          · rw [up2_s, up2_j _ _ _ (show (99 : Nat) ≠ 0 by decide), up2_s]
          · rw [up2_j _ _ _ (show (99 : Nat) ≠ 0 by decide), up2_s]; omega
          · rw [up2_j _ _ _ (show (99 : Nat) ≠ 0 by decide), up2_s]; omega
          · have h4 := r4 i hi
            rw [up2_K _ _ _ (show (65 : Nat) ≠ 64 by decide), up2_K _ _ _ (show (65 : Nat) ≠ 66 by decide), up2_K _ _ _ (show (66 : Nat) ≠ 64 by decide), up2_k _ _ _ _ (show (69 : Nat) ≠ 0 by decide), up2_k _ _ _ _ (show (69 : Nat) ≠ 0 by decide), up2_k _ _ _ _ (show (69 : Nat) ≠ 70 by decide), up2_k _ _ _ _ (show (70 : Nat) ≠ 0 by decide), up2_k _ _ _ _ (show (70 : Nat) ≠ 0 by decide)]
            by_cases hp : i = (dB 0 99).toNat
            · subst hp
              rw [up2_s, up2_s, up2_s, up2_s]
              exact ⟨rfl, rfl, by omega, by omega, by omega, by omega⟩
            · rw [up2_j _ _ _ hp, up2_j _ _ _ hp, up2_j _ _ _ hp, up2_j _ _ _ hp, up2_k _ _ _ _ (show (65 : Nat) ≠ 0 by decide), up2_k _ _ _ _ (show (66 : Nat) ≠ 65 by decide), up2_k _ _ _ _ (show (66 : Nat) ≠ 0 by decide), up2_k _ _ _ _ (show (70 : Nat) ≠ 69 by decide)]
              exact h4
          · rw [up2_k _ _ _ _ (show (67 : Nat) ≠ 64 by decide), up2_k _ _ _ _ (show (67 : Nat) ≠ 66 by decide), up2_k _ _ _ _ (show (67 : Nat) ≠ 65 by decide), up2_k _ _ _ _ (show (67 : Nat) ≠ 0 by decide), up2_k _ _ _ _ (show (71 : Nat) ≠ 0 by decide), up2_k _ _ _ _ (show (71 : Nat) ≠ 0 by decide), up2_k _ _ _ _ (show (71 : Nat) ≠ 70 by decide), up2_k _ _ _ _ (show (71 : Nat) ≠ 69 by decide)]
            exact r5 i hi
          · rw [up2_j _ _ _ (show (7 : Nat) ≠ 2 by decide), up2_k _ _ _ _ (show (64 : Nat) ≠ 66 by decide), up2_k _ _ _ _ (show (64 : Nat) ≠ 65 by decide), up2_k _ _ _ _ (show (64 : Nat) ≠ 0 by decide), up2_j _ _ _ (show (101 : Nat) ≠ 0 by decide), up2_j _ _ _ (show (100 : Nat) ≠ 0 by decide), up2_j _ _ _ (show (101 : Nat) ≠ 99 by decide), up2_j _ _ _ (show (100 : Nat) ≠ 99 by decide), up2_k _ _ _ _ (show (0 : Nat) ≠ 70 by decide), up2_k _ _ _ _ (show (0 : Nat) ≠ 70 by decide), up2_k _ _ _ _ (show (0 : Nat) ≠ 69 by decide), up2_k _ _ _ _ (show (0 : Nat) ≠ 69 by decide)]
            exact r6
          · rw [up2_j _ _ _ (show (7 : Nat) ≠ 2 by decide), up2_k _ _ _ _ (show (64 : Nat) ≠ 66 by decide), up2_k _ _ _ _ (show (64 : Nat) ≠ 65 by decide), up2_k _ _ _ _ (show (64 : Nat) ≠ 0 by decide)]; exact r7
          · rw [up2_j _ _ _ (show (7 : Nat) ≠ 2 by decide), up2_k _ _ _ _ (show (64 : Nat) ≠ 66 by decide), up2_k _ _ _ _ (show (64 : Nat) ≠ 65 by decide), up2_k _ _ _ _ (show (64 : Nat) ≠ 0 by decide)]; exact r8
          · rw [up2_j _ _ _ (show (7 : Nat) ≠ 2 by decide), up2_k _ _ _ _ (show (64 : Nat) ≠ 66 by decide), up2_k _ _ _ _ (show (64 : Nat) ≠ 65 by decide), up2_k _ _ _ _ (show (64 : Nat) ≠ 0 by decide)] at hi
            rw [up2_k _ _ _ _ (show (70 : Nat) ≠ 64 by decide), up2_k _ _ _ _ (show (70 : Nat) ≠ 66 by decide), up2_k _ _ _ _ (show (70 : Nat) ≠ 65 by decide), up2_k _ _ _ _ (show (70 : Nat) ≠ 0 by decide), up2_k _ _ _ _ (show (74 : Nat) ≠ 0 by decide), up2_k _ _ _ _ (show (74 : Nat) ≠ 0 by decide), up2_k _ _ _ _ (show (74 : Nat) ≠ 70 by decide), up2_k _ _ _ _ (show (74 : Nat) ≠ 69 by decide)]
            exact r9 i hi
    · rw [if_neg hk, if_pos rfl, if_pos rfl]; exact bad
  · rw [if_neg h, if_pos rfl]
    by_cases h1 : p1 < -9
    · rw [if_pos h1]; exact bad
    · rw [if_neg h1, if_pos (show 9 < p1 by omega)]; exact bad
