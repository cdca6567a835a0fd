/-! fault, coachMany, miles, offer -/
def RF (dA dB : Dt) : Prop := dA 25 7 = dB 0 38 ∧ dA 25 8 = dB 0 39
theorem T_fault {p1 : Int} {dA dB : Dt} (hS : RS dA dB) (hR : RF dA dB) : ∃ (r : Int) (dA' dB' : Dt), L_PB_fault p1 dA = some (r, dA') ∧ L_Mo_fault p1 dB = some (r, dB') ∧ RS dA' dB' ∧ RF dA' dB' := by
  unfold L_PB_fault L_Mo_fault L_Pa_faultKind L_Pa_faultPlace
  rw [bd_s, bd_s, hR.1, hR.2]
  by_cases h : p1 = 0
  · rw [if_pos h, if_pos h]; exact ⟨_, _, _, rfl, rfl, hS, hR⟩
  · rw [if_neg h, if_neg h]
    by_cases h2 : p1 = 1
    · rw [if_pos h2, if_pos h2]; exact ⟨_, _, _, rfl, rfl, hS, hR⟩
    · rw [if_neg h2, if_neg h2]; exact ⟨_, _, _, rfl, rfl, hS, hR⟩
def RO (dA dB : Dt) : Prop := dA 71 8 = dB 0 108 ∧ ∀ i : Nat, i < 49 → dA 72 i = dB 75 i ∧ 0 ≤ dB 75 i ∧ dB 75 i ≤ 1000
theorem RO.st {dA dB : Dt} {u v : Int} (h : RO dA dB) : RO (up2 dA 0 0 u) (up2 dB 0 0 v) := by
  unfold RO at h ⊢
  simp (disch := decide) only [up2_s, up2_j, up2_K]
  exact h
theorem T_coachMany {dA dB : Dt} (hR : RO dA dB) : ∃ (r : Int) (dA' dB' : Dt), L_PB_coachMany dA = some (r, dA') ∧ L_Mo_coachMany dB = some (r, dB') ∧ RS dA' dB' ∧ RO dA' dB' := by
  unfold L_PB_coachMany L_Mo_coachMany L_PB_coachMany_b20 L_Ro_coachesSent
  rw [e_ref, e_giv, bd_s, bd_s, bd_s, hR.1]
  by_cases h : dB 0 108 = -1
  · rw [if_pos h, if_pos h, h]; exact ⟨_, _, _, rfl, rfl, RS.of, hR.st⟩
  · rw [if_neg h, if_neg h]; exact ⟨_, _, _, rfl, rfl, RS.of, hR.st⟩
theorem RO.put {dA dB : Dt} {i : Nat} {v : Int} (hv : 0 ≤ v ∧ v ≤ 1000) (h : RO dA dB) : RO (up2 dA 72 i v) (up2 dB 75 i v) := by
  unfold RO at h ⊢
  simp (disch := decide) only [up2_s, up2_j, up2_K]
  refine ⟨h.1, fun j hj => ?_⟩
  by_cases hp : j = i
  · subst hp
    simp only [up2_s]
    exact ⟨by trivial, hv⟩
  · simp only [up2_j _ _ _ hp]
    exact h.2 j hj
theorem T_miles {p1 p2 p3 : Int} {dA dB : Dt} (hR : RO dA dB) : ∃ (r : Int) (dA' dB' : Dt), L_PB_miles p1 p2 p3 dA = some (r, dA') ∧ L_Mo_miles p1 p2 p3 dB = some (r, dB') ∧ RS dA' dB' ∧ RO dA' dB' := by
  have bad : ∃ (r : Int) (dA' dB' : Dt), L_PB_miles_b36 p1 p2 p3 0 dA = some (r, dA') ∧ L_Mo_miles_b31 dB = some (r, dB') ∧ RS dA' dB' ∧ RO dA' dB' := by
    unfold L_PB_miles_b36 L_PB_miles_b49 L_Mo_miles_b31
    simp only [e_is, bd_s, i10, i20, i30, i40, i50, i60, i70, if_true, if_false, up2_s, up2_j, up2_K]
    exact ⟨_, _, _, rfl, rfl, RS.of, hR.st⟩
  unfold L_PB_miles L_Mo_miles
  by_cases h1 : 0 ≤ p1 ∧ p1 ≤ 6
  · have g1 : 0 ≤ p1 ∧ p1 < 7 := by omega
    by_cases h2 : 0 ≤ p2 ∧ p2 ≤ 6
    · have g2 : 0 ≤ p2 ∧ p2 < 7 := by omega
      by_cases h3 : p1 = p2
      · simp only [e_PB_isPlace, e_Mo_isPlace, if_pos h1, if_pos g1, if_pos h2, if_pos g2, if_pos h3, bd_s, i10, i20, i30, i40, i50, i60, i70, if_true, if_false, up2_s, up2_j, up2_K]
        exact bad
      · by_cases h4 : 1 ≤ p3 ∧ p3 ≤ 1000
        · have a1 : w32 (w32 (p1 * 7) + p2) = 7 * p1 + p2 := by rw [w32_s (x := p1 * 7) (by omega) (by omega), w32_s (by omega) (by omega)]; omega
          have a2 : w32 (w32 (p2 * 7) + p1) = 7 * p2 + p1 := by rw [w32_s (x := p2 * 7) (by omega) (by omega), w32_s (by omega) (by omega)]; omega
          have a3 : w32 (w32 (7 * p1) + p2) = 7 * p1 + p2 := by rw [w32_s (x := 7 * p1) (by omega) (by omega), w32_s (by omega) (by omega)]
          have a4 : w32 (w32 (7 * p2) + p1) = 7 * p2 + p1 := by rw [w32_s (x := 7 * p2) (by omega) (by omega), w32_s (by omega) (by omega)]
          have k1 : 0 ≤ 7 * p1 + p2 ∧ 7 * p1 + p2 < 49 := by omega
          have k2 : 0 ≤ 7 * p2 + p1 ∧ 7 * p2 + p1 < 49 := by omega
          unfold L_PB_miles_b36 L_PB_miles_b49 L_Ro_setMiles
          simp only [e_PB_isPlace, e_Mo_isPlace, within_e, e_is, if_pos h1, if_pos g1, if_pos h2, if_pos g2, if_neg h3, if_pos h4, if_neg (show ¬ p3 < 1 by omega), if_neg (show ¬ 1000 < p3 by omega), a1, a2, a3, a4, ck_pos k1, ck_pos k2, bd_s, i10, i20, i30, i40, i50, i60, i70, if_true, if_false, up2_s, up2_j, up2_K]
          refine ⟨_, _, _, rfl, rfl, ?_, ?_⟩
          · unfold RS; simp (disch := decide) only [up2_s, up2_j, up2_K]
          · have h9 := (hR.put (i := (7 * p1 + p2).toNat) (v := p3) (by omega)).put (i := (7 * p2 + p1).toNat) (v := p3) (by omega)
            unfold RO at h9 ⊢
            simp (disch := decide) only [up2_K] at h9 ⊢
            refine ⟨by simp (disch := decide) only [up2_s, up2_j, up2_K]; exact hR.1, fun j hj => ?_⟩
            have h8 := h9.2 j hj
            by_cases q2 : j = (7 * p2 + p1).toNat
            · subst q2
              simp only [up2_s] at h8 ⊢
              exact h8
            · simp only [up2_j _ _ _ q2] at h8 ⊢
              by_cases q1 : j = (7 * p1 + p2).toNat
              · subst q1
                simp only [up2_s] at h8 ⊢
                exact h8
              · simp (disch := decide) only [up2_j _ _ _ q1, up2_K] at h8 ⊢
                exact h8
        · have hb : (if p3 < 1 then L_Mo_miles_b31 dB else if 1000 < p3 then L_Mo_miles_b31 dB else ck ((0 : Int) ≤ w32 (w32 (7 * p1) + p2) ∧ w32 (w32 (7 * p1) + p2) < 49) (ck ((0 : Int) ≤ w32 (w32 (7 * p2) + p1) ∧ w32 (w32 (7 * p2) + p1) < 49) (bd (L_Mo_is 0 (up2 (up2 dB 75 (w32 (w32 (7 * p1) + p2)).toNat p3) 75 (w32 (w32 (7 * p2) + p1)).toNat p3)) (fun r d => some (r, d))))) = L_Mo_miles_b31 dB := by
            by_cases q : p3 < 1
            · rw [if_pos q]
            · rw [if_neg q, if_pos (by omega)]
          rw [e_PB_isPlace, e_Mo_isPlace, bd_s, bd_s, if_pos h1, if_pos g1, if_neg (show ¬ (1 : Int) = 0 by decide), if_neg (show ¬ (1 : Int) = 0 by decide), e_PB_isPlace, e_Mo_isPlace, bd_s, bd_s, if_pos h2, if_pos g2, if_neg (show ¬ (1 : Int) = 0 by decide), if_neg (show ¬ (1 : Int) = 0 by decide), if_neg h3, if_neg h3, hb, within_e, bd_s, if_neg h4, if_pos rfl]
          exact bad
    · have g2 : ¬ (0 ≤ p2 ∧ p2 < 7) := by omega
      simp only [e_PB_isPlace, e_Mo_isPlace, if_pos h1, if_pos g1, if_neg h2, if_neg g2, bd_s, i10, i20, i30, i40, i50, i60, i70, if_true, if_false, up2_s, up2_j, up2_K]
      exact bad
  · have g1 : ¬ (0 ≤ p1 ∧ p1 < 7) := by omega
    simp only [e_PB_isPlace, e_Mo_isPlace, if_neg h1, if_neg g1, bd_s, i10, i20, i30, i40, i50, i60, i70, if_true, if_false, up2_s, up2_j, up2_K]
    exact bad
def RV (dA dB : Dt) : Prop := dA 49 11 = dB 0 87 ∧ (0 ≤ dB 0 87 ∧ dB 0 87 ≤ 20) ∧ ∀ i : Nat, (i : Int) < dB 0 87 → dA 54 i = dB 59 i ∧ dA 55 i = dB 60 i ∧ dA 56 i = dB 61 i ∧ 0 ≤ dB 59 i ∧ dB 59 i < dB 0 7 ∧ 1 ≤ dB 60 i ∧ dB 60 i ≤ 15 ∧ 0 ≤ dB 61 i ∧ dB 61 i ≤ 1439
theorem RV.st {dA dB : Dt} {u v : Int} (h : RV dA dB) : RV (up2 dA 0 0 u) (up2 dB 0 0 v) := by
  unfold RV at h ⊢
  simp (disch := decide) only [up2_s, up2_j, up2_K]
  exact h
theorem e_oFull (d : Dt) : L_Po_offersFull d = some (if d 49 11 < 20 then 0 else 1, d) := by unfold L_Po_offersFull; split <;> rfl
theorem T_offer {p1 p2 p3 : Int} {dA dB : Dt} (hP : RP dA dB) (hR : RV dA dB) : ∃ (r : Int) (dA' dB' : Dt), L_PB_offer p1 p2 p3 dA = some (r, dA') ∧ L_Mo_offer p1 p2 p3 dB = some (r, dB') ∧ RS dA' dB' ∧ RV dA' dB' := by
  have bad : ∃ (r : Int) (dA' dB' : Dt), L_PB_offer_b30 p1 p2 p3 0 dA = some (r, dA') ∧ L_Mo_offer_b22 dB = some (r, dB') ∧ RS dA' dB' ∧ RV dA' dB' := by
    unfold L_PB_offer_b30 L_PB_offer_b57 L_Mo_offer_b22
    simp only [e_ref, bd_s, i10, i20, i30, i40, i50, i60, i70, if_true, if_false, up2_s, up2_j, up2_K]
    exact ⟨_, _, _, rfl, rfl, RS.of, hR.st⟩
  obtain ⟨r1, r2, r3⟩ := id hR
  unfold L_PB_offer L_Mo_offer
  by_cases h1 : 0 ≤ p1 ∧ p1 < dB 0 7
  · by_cases h2 : 1 ≤ p2 ∧ p2 ≤ 15
    · by_cases h3 : 0 ≤ p3 ∧ p3 ≤ 1439
      · unfold L_PB_offer_b30 L_PB_offer_b57 L_Po_addOffer
        by_cases hf : dB 0 87 = 20
        · simp only [e_Pe_has, e_Mo_isPerson, hP.1, e_PB_isSet, e_Mo_isSet, e_PB_isMinute, e_Mo_isMinute, if_pos h1, if_pos h2, if_pos h3, e_oFull, r1, if_pos hf, if_neg (show ¬ dB 0 87 < 20 by omega), e_ref, bd_s, i10, i20, i30, i40, i50, i60, i70, if_true, if_false, up2_s, up2_j, up2_K]
          exact ⟨_, _, _, rfl, rfl, RS.of, hR.st⟩
        · have hc : 0 ≤ dB 0 87 ∧ dB 0 87 < 20 := by omega
          have w1 : w32 (dB 0 87 + 1) = dB 0 87 + 1 := w32_s (by omega) (by omega)
          have w2 : w32 (dB 0 87 + 1 - 1) = dB 0 87 := by rw [w32_s (by omega) (by omega)]; omega
          simp (disch := decide) only [e_Pe_has, e_Mo_isPerson, hP.1, e_PB_isSet, e_Mo_isSet, e_PB_isMinute, e_Mo_isMinute, if_pos h1, if_pos h2, if_pos h3, e_oFull, r1, if_neg hf, if_pos hc.2, e_giv, ck_pos hc, w1, w2, bd_s, i10, i20, i30, i40, i50, i60, i70, if_true, if_false, up2_s, up2_j, up2_K]
          refine ⟨_, _, _, rfl, rfl, ?_, ?_⟩
          · unfold RS; simp (disch := decide) only [up2_s, up2_j, up2_K]
          · unfold RV
            simp (disch := decide) only [up2_s, up2_j, up2_K]
            refine ⟨by trivial, by omega, fun i hi => ?_⟩
            by_cases hp : i = (dB 0 87).toNat
            · subst hp
              simp only [up2_s]
              exact ⟨by trivial, by trivial, by trivial, by omega, by omega, by omega, by omega, by omega, by omega⟩
            · simp only [up2_j _ _ _ hp]
              exact r3 i (by omega)
      · simp only [e_Pe_has, e_Mo_isPerson, hP.1, e_PB_isSet, e_Mo_isSet, e_PB_isMinute, e_Mo_isMinute, if_pos h1, if_pos h2, if_neg h3, bd_s, i10, i20, i30, i40, i50, i60, i70, if_true, if_false, up2_s, up2_j, up2_K]
        exact bad
    · simp only [e_Pe_has, e_Mo_isPerson, hP.1, e_PB_isSet, e_Mo_isSet, if_pos h1, if_neg h2, bd_s, i10, i20, i30, i40, i50, i60, i70, if_true, if_false, up2_s, up2_j, up2_K]
      exact bad
  · simp only [e_Pe_has, e_Mo_isPerson, hP.1, if_neg h1, bd_s, i10, i20, i30, i40, i50, i60, i70, if_true, if_false, up2_s, up2_j, up2_K]
    exact bad
