/-! every call keeps all of it -/
def RelW (dA dB : Dt) : Prop := RS dA dB ∧ RT dA dB ∧ RQ dA dB ∧ RJ dA dB ∧ RP dA dB ∧ RR dA dB ∧ RH dA dB ∧ RF dA dB ∧ RO dA dB ∧ RV dA dB ∧ RG dA dB ∧ RA dA dB ∧ RB dA dB ∧ RN dA dB ∧ RC dA dB ∧ RM dA dB ∧ RL0 dA dB ∧ RLk dA dB ∧ RX dA dB ∧ dB GH 0 ≤ 6
theorem s_status : Sim_status RelW := by
  intro dA dB _ _ h
  obtain ⟨r, dA', dB', e1, e2, rfl, rfl⟩ := T_status h.1
  exact ⟨r, _, _, e1, e2, h⟩
theorem s_tray : Sim_tray RelW := by
  intro p1 p2 p3 dA dB k1 k2 k3 _ _ h
  obtain ⟨hS, hT, hQ, hJ, hP, hR, hH, hF, hO, hV, hG, hA, hB, hN, hC, hM, hL, hk, hX, hg⟩ := h
  have ga : dA GH 0 ≤ 6 := by have := hL.1; have := hL.2.1; omega
  obtain ⟨r, dA', dB', e1, e2, gRS, gRT⟩ := T_tray (p1 := p1) (p2 := p2) (p3 := p3) hT
  have fA := fr_PB_tray p1 p2 p3 dA ga e1
  have fB := fr_Mo_tray p1 p2 p3 dB hg e2
  exact ⟨r, dA', dB', e1, e2, gRS, gRT, hQ.kp fA fB (by decide), hJ.kp fA fB (by decide), hP.kp fA fB (by decide), hR.kp fA fB (by decide), hH.kp fA fB (by decide), hF.kp fA fB (by decide), hO.kp fA fB (by decide), hV.kp fA fB (by decide), hG.kp fA fB (by decide), hA.kp fA fB (by decide), hB.kp fA fB (by decide), hN.kp fA fB (by decide), hC.kp fA fB (by decide), hM.kp fA fB (by decide), hL.kp fA fB (by decide), hk.kp fA fB (by decide), hX.kp fA fB (by decide), by rw [fB.1]; exact hg⟩
theorem s_write : Sim_write RelW := by
  intro p1 p2 p3 dA dB k1 k2 k3 _ _ h
  obtain ⟨hS, hT, hQ, hJ, hP, hR, hH, hF, hO, hV, hG, hA, hB, hN, hC, hM, hL, hk, hX, hg⟩ := h
  have ga : dA GH 0 ≤ 6 := by have := hL.1; have := hL.2.1; omega
  obtain ⟨r, dA', dB', e1, e2, gRS, gRT⟩ := T_write (p1 := p1) (p2 := p2) (p3 := p3) k2 hT
  have fA := fr_PB_write p1 p2 p3 dA ga e1
  have fB := fr_Mo_write p1 p2 p3 dB hg e2
  exact ⟨r, dA', dB', e1, e2, gRS, gRT, hQ.kp fA fB (by decide), hJ.kp fA fB (by decide), hP.kp fA fB (by decide), hR.kp fA fB (by decide), hH.kp fA fB (by decide), hF.kp fA fB (by decide), hO.kp fA fB (by decide), hV.kp fA fB (by decide), hG.kp fA fB (by decide), hA.kp fA fB (by decide), hB.kp fA fB (by decide), hN.kp fA fB (by decide), hC.kp fA fB (by decide), hM.kp fA fB (by decide), hL.kp fA fB (by decide), hk.kp fA fB (by decide), hX.kp fA fB (by decide), by rw [fB.1]; exact hg⟩
theorem s_read : Sim_read RelW := by
  intro p1 p2 dA dB k1 k2 _ _ h
  obtain ⟨hS, hT, hQ, hJ, hP, hR, hH, hF, hO, hV, hG, hA, hB, hN, hC, hM, hL, hk, hX, hg⟩ := h
  have ga : dA GH 0 ≤ 6 := by have := hL.1; have := hL.2.1; omega
  obtain ⟨r, dA', dB', e1, e2, gRS, gRT⟩ := T_read (p1 := p1) (p2 := p2) k2 hT
  have fA := fr_PB_read p1 p2 dA ga e1
  have fB := fr_Mo_read p1 p2 dB hg e2
  exact ⟨r, dA', dB', e1, e2, gRS, gRT, hQ.kp fA fB (by decide), hJ.kp fA fB (by decide), hP.kp fA fB (by decide), hR.kp fA fB (by decide), hH.kp fA fB (by decide), hF.kp fA fB (by decide), hO.kp fA fB (by decide), hV.kp fA fB (by decide), hG.kp fA fB (by decide), hA.kp fA fB (by decide), hB.kp fA fB (by decide), hN.kp fA fB (by decide), hC.kp fA fB (by decide), hM.kp fA fB (by decide), hL.kp fA fB (by decide), hk.kp fA fB (by decide), hX.kp fA fB (by decide), by rw [fB.1]; exact hg⟩
theorem s_pour : Sim_pour RelW := by
  intro p1 p2 p3 p4 p5 dA dB k1 k2 k3 k4 k5 _ _ h
  obtain ⟨hS, hT, hQ, hJ, hP, hR, hH, hF, hO, hV, hG, hA, hB, hN, hC, hM, hL, hk, hX, hg⟩ := h
  have ga : dA GH 0 ≤ 6 := by have := hL.1; have := hL.2.1; omega
  obtain ⟨r, dA', dB', e1, e2, gRS, gRT⟩ := T_pour (p1 := p1) (p2 := p2) (p3 := p3) (p4 := p4) (p5 := p5) k2 k4 k5 hT
  have fA := fr_PB_pour p1 p2 p3 p4 p5 dA ga e1
  have fB := fr_Mo_pour p1 p2 p3 p4 p5 dB hg e2
  exact ⟨r, dA', dB', e1, e2, gRS, gRT, hQ.kp fA fB (by decide), hJ.kp fA fB (by decide), hP.kp fA fB (by decide), hR.kp fA fB (by decide), hH.kp fA fB (by decide), hF.kp fA fB (by decide), hO.kp fA fB (by decide), hV.kp fA fB (by decide), hG.kp fA fB (by decide), hA.kp fA fB (by decide), hB.kp fA fB (by decide), hN.kp fA fB (by decide), hC.kp fA fB (by decide), hM.kp fA fB (by decide), hL.kp fA fB (by decide), hk.kp fA fB (by decide), hX.kp fA fB (by decide), by rw [fB.1]; exact hg⟩
theorem s_far : Sim_far RelW := by
  intro p1 p2 dA dB k1 k2 _ _ h
  obtain ⟨hS, hT, hQ, hJ, hP, hR, hH, hF, hO, hV, hG, hA, hB, hN, hC, hM, hL, hk, hX, hg⟩ := h
  have ga : dA GH 0 ≤ 6 := by have := hL.1; have := hL.2.1; omega
  obtain ⟨r, dA', dB', e1, e2, gRS⟩ := T_far (p1 := p1) (p2 := p2) k1 k2
  have fA := fr_PB_far p1 p2 dA ga e1
  have fB := fr_Mo_far p1 p2 dB hg e2
  exact ⟨r, dA', dB', e1, e2, gRS, hT.kp fA fB (by decide), hQ.kp fA fB (by decide), hJ.kp fA fB (by decide), hP.kp fA fB (by decide), hR.kp fA fB (by decide), hH.kp fA fB (by decide), hF.kp fA fB (by decide), hO.kp fA fB (by decide), hV.kp fA fB (by decide), hG.kp fA fB (by decide), hA.kp fA fB (by decide), hB.kp fA fB (by decide), hN.kp fA fB (by decide), hC.kp fA fB (by decide), hM.kp fA fB (by decide), hL.kp fA fB (by decide), hk.kp fA fB (by decide), hX.kp fA fB (by decide), by rw [fB.1]; exact hg⟩
theorem s_person : Sim_person RelW := by
  intro p1 p2 p3 dA dB k1 k2 k3 _ _ h
  obtain ⟨hS, hT, hQ, hJ, hP, hR, hH, hF, hO, hV, hG, hA, hB, hN, hC, hM, hL, hk, hX, hg⟩ := h
  have ga : dA GH 0 ≤ 6 := by have := hL.1; have := hL.2.1; omega
  obtain ⟨r, dA', dB', e1, e2, gRS, gRP, gRH, gRN, mo⟩ := T_person (p1 := p1) (p2 := p2) (p3 := p3) k1 hP hH hB hN
  have fA := fr_PB_person p1 p2 p3 dA ga e1
  have fB := fr_Mo_person p1 p2 p3 dB hg e2
  exact ⟨r, dA', dB', e1, e2, gRS, hT.kp fA fB (by decide), hQ.kp fA fB (by decide), hJ.kp fA fB (by decide), gRP, hR.kp fA fB (by decide), gRH, hF.kp fA fB (by decide), hO.kp fA fB (by decide), hV.mo fA fB mo (by decide), hG.kp fA fB (by decide), hA.kp fA fB (by decide), hB.kp fA fB (by decide), gRN, hC.kp fA fB (by decide), hM.kp fA fB (by decide), hL.kp fA fB (by decide), hk.kp fA fB (by decide), hX.kp fA fB (by decide), by rw [fB.1]; exact hg⟩
theorem s_hold : Sim_hold RelW := by
  intro p1 p2 p3 p4 p5 p6 dA dB k1 k2 k3 k4 k5 k6 _ _ h
  obtain ⟨hS, hT, hQ, hJ, hP, hR, hH, hF, hO, hV, hG, hA, hB, hN, hC, hM, hL, hk, hX, hg⟩ := h
  have ga : dA GH 0 ≤ 6 := by have := hL.1; have := hL.2.1; omega
  obtain ⟨r, dA', dB', e1, e2, gRS, gRR⟩ := T_hold (p1 := p1) (p2 := p2) (p3 := p3) (p4 := p4) (p5 := p5) (p6 := p6) hP hR
  have fA := fr_PB_hold p1 p2 p3 p4 p5 p6 dA ga e1
  have fB := fr_Mo_hold p1 p2 p3 p4 p5 p6 dB hg e2
  exact ⟨r, dA', dB', e1, e2, gRS, hT.kp fA fB (by decide), hQ.kp fA fB (by decide), hJ.kp fA fB (by decide), hP.kp fA fB (by decide), gRR, hH.kp fA fB (by decide), hF.kp fA fB (by decide), hO.kp fA fB (by decide), hV.kp fA fB (by decide), hG.kp fA fB (by decide), hA.kp fA fB (by decide), hB.kp fA fB (by decide), hN.kp fA fB (by decide), hC.kp fA fB (by decide), hM.kp fA fB (by decide), hL.kp fA fB (by decide), hk.kp fA fB (by decide), hX.kp fA fB (by decide), by rw [fB.1]; exact hg⟩
theorem s_split : Sim_split RelW := by
  intro p1 p2 p3 dA dB k1 k2 k3 _ _ h
  obtain ⟨hS, hT, hQ, hJ, hP, hR, hH, hF, hO, hV, hG, hA, hB, hN, hC, hM, hL, hk, hX, hg⟩ := h
  have ga : dA GH 0 ≤ 6 := by have := hL.1; have := hL.2.1; omega
  obtain ⟨r, dA', dB', e1, e2, gRS, gRR⟩ := T_split (p1 := p1) (p2 := p2) (p3 := p3) hP hR
  have fA := fr_PB_split p1 p2 p3 dA ga e1
  have fB := fr_Mo_split p1 p2 p3 dB hg e2
  exact ⟨r, dA', dB', e1, e2, gRS, hT.kp fA fB (by decide), hQ.kp fA fB (by decide), hJ.kp fA fB (by decide), hP.kp fA fB (by decide), gRR, hH.kp fA fB (by decide), hF.kp fA fB (by decide), hO.kp fA fB (by decide), hV.kp fA fB (by decide), hG.kp fA fB (by decide), hA.kp fA fB (by decide), hB.kp fA fB (by decide), hN.kp fA fB (by decide), hC.kp fA fB (by decide), hM.kp fA fB (by decide), hL.kp fA fB (by decide), hk.kp fA fB (by decide), hX.kp fA fB (by decide), by rw [fB.1]; exact hg⟩
theorem s_pay : Sim_pay RelW := by
  intro p1 p2 p3 p4 p5 dA dB k1 k2 k3 k4 k5 _ _ h
  obtain ⟨hS, hT, hQ, hJ, hP, hR, hH, hF, hO, hV, hG, hA, hB, hN, hC, hM, hL, hk, hX, hg⟩ := h
  have ga : dA GH 0 ≤ 6 := by have := hL.1; have := hL.2.1; omega
  obtain ⟨r, dA', dB', e1, e2, gRS, gRR⟩ := T_pay (p1 := p1) (p2 := p2) (p3 := p3) (p4 := p4) (p5 := p5) hP hR
  have fA := fr_PB_pay p1 p2 p3 p4 p5 dA ga e1
  have fB := fr_Mo_pay p1 p2 p3 p4 p5 dB hg e2
  exact ⟨r, dA', dB', e1, e2, gRS, hT.kp fA fB (by decide), hQ.kp fA fB (by decide), hJ.kp fA fB (by decide), hP.kp fA fB (by decide), gRR, hH.kp fA fB (by decide), hF.kp fA fB (by decide), hO.kp fA fB (by decide), hV.kp fA fB (by decide), hG.kp fA fB (by decide), hA.kp fA fB (by decide), hB.kp fA fB (by decide), hN.kp fA fB (by decide), hC.kp fA fB (by decide), hM.kp fA fB (by decide), hL.kp fA fB (by decide), hk.kp fA fB (by decide), hX.kp fA fB (by decide), by rw [fB.1]; exact hg⟩
theorem s_asof : Sim_asof RelW := by
  intro p1 dA dB k1 _ _ h
  obtain ⟨hS, hT, hQ, hJ, hP, hR, hH, hF, hO, hV, hG, hA, hB, hN, hC, hM, hL, hk, hX, hg⟩ := h
  have ga : dA GH 0 ≤ 6 := by have := hL.1; have := hL.2.1; omega
  obtain ⟨r, dA', dB', e1, e2, gRS, gRR⟩ := T_asof (p1 := p1) hR
  have fA := fr_PB_asof p1 dA ga e1
  have fB := fr_Mo_asof p1 dB hg e2
  exact ⟨r, dA', dB', e1, e2, gRS, hT.kp fA fB (by decide), hQ.kp fA fB (by decide), hJ.kp fA fB (by decide), hP.kp fA fB (by decide), gRR, hH.kp fA fB (by decide), hF.kp fA fB (by decide), hO.kp fA fB (by decide), hV.kp fA fB (by decide), hG.kp fA fB (by decide), hA.kp fA fB (by decide), hB.kp fA fB (by decide), hN.kp fA fB (by decide), hC.kp fA fB (by decide), hM.kp fA fB (by decide), hL.kp fA fB (by decide), hk.kp fA fB (by decide), hX.kp fA fB (by decide), by rw [fB.1]; exact hg⟩
theorem s_fact : Sim_fact RelW := by
  intro p1 p2 p3 p4 dA dB k1 k2 k3 k4 _ _ h
  obtain ⟨hS, hT, hQ, hJ, hP, hR, hH, hF, hO, hV, hG, hA, hB, hN, hC, hM, hL, hk, hX, hg⟩ := h
  have ga : dA GH 0 ≤ 6 := by have := hL.1; have := hL.2.1; omega
  obtain ⟨r, dA', dB', e1, e2, gRS⟩ := T_fact (p1 := p1) (p2 := p2) (p3 := p3) (p4 := p4) hR hP hH
  have fA := fr_PB_fact p1 p2 p3 p4 dA ga e1
  have fB := fr_Mo_fact p1 p2 p3 p4 dB hg e2
  exact ⟨r, dA', dB', e1, e2, gRS, hT.kp fA fB (by decide), hQ.kp fA fB (by decide), hJ.kp fA fB (by decide), hP.kp fA fB (by decide), hR.kp fA fB (by decide), hH.kp fA fB (by decide), hF.kp fA fB (by decide), hO.kp fA fB (by decide), hV.kp fA fB (by decide), hG.kp fA fB (by decide), hA.kp fA fB (by decide), hB.kp fA fB (by decide), hN.kp fA fB (by decide), hC.kp fA fB (by decide), hM.kp fA fB (by decide), hL.kp fA fB (by decide), hk.kp fA fB (by decide), hX.kp fA fB (by decide), by rw [fB.1]; exact hg⟩
theorem s_feed : Sim_feed RelW := by
  intro p1 p2 p3 p4 p5 dA dB k1 k2 k3 k4 k5 _ _ h
  obtain ⟨hS, hT, hQ, hJ, hP, hR, hH, hF, hO, hV, hG, hA, hB, hN, hC, hM, hL, hk, hX, hg⟩ := h
  have ga : dA GH 0 ≤ 6 := by have := hL.1; have := hL.2.1; omega
  obtain ⟨r, dA', dB', e1, e2, gRS, gRA⟩ := T_feed (p1 := p1) (p2 := p2) (p3 := p3) (p4 := p4) (p5 := p5) hS hA
  have fA := fr_PB_feed p1 p2 p3 p4 p5 dA ga e1
  have fB := fr_Mo_feed p1 p2 p3 p4 p5 dB hg e2
  exact ⟨r, dA', dB', e1, e2, gRS, hT.kp fA fB (by decide), hQ.kp fA fB (by decide), hJ.kp fA fB (by decide), hP.kp fA fB (by decide), hR.kp fA fB (by decide), hH.kp fA fB (by decide), hF.kp fA fB (by decide), hO.kp fA fB (by decide), hV.kp fA fB (by decide), hG.kp fA fB (by decide), gRA, hB.kp fA fB (by decide), hN.kp fA fB (by decide), hC.kp fA fB (by decide), hM.kp fA fB (by decide), hL.kp fA fB (by decide), hk.kp fA fB (by decide), hX.kp fA fB (by decide), by rw [fB.1]; exact hg⟩
theorem s_fault : Sim_fault RelW := by
  intro p1 dA dB k1 _ _ h
  obtain ⟨hS, hT, hQ, hJ, hP, hR, hH, hF, hO, hV, hG, hA, hB, hN, hC, hM, hL, hk, hX, hg⟩ := h
  have ga : dA GH 0 ≤ 6 := by have := hL.1; have := hL.2.1; omega
  obtain ⟨r, dA', dB', e1, e2, gRS, gRF⟩ := T_fault (p1 := p1) hS hF
  have fA := fr_PB_fault p1 dA ga e1
  have fB := fr_Mo_fault p1 dB hg e2
  exact ⟨r, dA', dB', e1, e2, gRS, hT.kp fA fB (by decide), hQ.kp fA fB (by decide), hJ.kp fA fB (by decide), hP.kp fA fB (by decide), hR.kp fA fB (by decide), hH.kp fA fB (by decide), gRF, hO.kp fA fB (by decide), hV.kp fA fB (by decide), hG.kp fA fB (by decide), hA.kp fA fB (by decide), hB.kp fA fB (by decide), hN.kp fA fB (by decide), hC.kp fA fB (by decide), hM.kp fA fB (by decide), hL.kp fA fB (by decide), hk.kp fA fB (by decide), hX.kp fA fB (by decide), by rw [fB.1]; exact hg⟩
theorem s_rules : Sim_rules RelW := by
  intro p1 p2 dA dB k1 k2 _ _ h
  obtain ⟨hS, hT, hQ, hJ, hP, hR, hH, hF, hO, hV, hG, hA, hB, hN, hC, hM, hL, hk, hX, hg⟩ := h
  have ga : dA GH 0 ≤ 6 := by have := hL.1; have := hL.2.1; omega
  obtain ⟨r, dA', dB', e1, e2, gRS, gRLk⟩ := T_rules (p1 := p1) (p2 := p2) hL hk
  have fA := fr_PB_rules p1 p2 dA ga e1
  have fB := fr_Mo_rules p1 p2 dB hg e2
  exact ⟨r, dA', dB', e1, e2, gRS, hT.kp fA fB (by decide), hQ.kp fA fB (by decide), hJ.kp fA fB (by decide), hP.kp fA fB (by decide), hR.kp fA fB (by decide), hH.kp fA fB (by decide), hF.kp fA fB (by decide), hO.kp fA fB (by decide), hV.kp fA fB (by decide), hG.kp fA fB (by decide), hA.kp fA fB (by decide), hB.kp fA fB (by decide), hN.kp fA fB (by decide), hC.kp fA fB (by decide), hM.kp fA fB (by decide), hL.kp fA fB (by decide), gRLk, hX.kp fA fB (by decide), by rw [fB.1]; exact hg⟩
theorem s_struck : Sim_struck RelW := by
  intro p1 p2 p3 dA dB k1 k2 k3 _ _ h
  obtain ⟨hS, hT, hQ, hJ, hP, hR, hH, hF, hO, hV, hG, hA, hB, hN, hC, hM, hL, hk, hX, hg⟩ := h
  have ga : dA GH 0 ≤ 6 := by have := hL.1; have := hL.2.1; omega
  obtain ⟨r, dA', dB', e1, e2, gRS, gRLk⟩ := T_struck (p1 := p1) (p2 := p2) (p3 := p3) hL hk
  have fA := fr_PB_struck p1 p2 p3 dA ga e1
  have fB := fr_Mo_struck p1 p2 p3 dB hg e2
  exact ⟨r, dA', dB', e1, e2, gRS, hT.kp fA fB (by decide), hQ.kp fA fB (by decide), hJ.kp fA fB (by decide), hP.kp fA fB (by decide), hR.kp fA fB (by decide), hH.kp fA fB (by decide), hF.kp fA fB (by decide), hO.kp fA fB (by decide), hV.kp fA fB (by decide), hG.kp fA fB (by decide), hA.kp fA fB (by decide), hB.kp fA fB (by decide), hN.kp fA fB (by decide), hC.kp fA fB (by decide), hM.kp fA fB (by decide), hL.kp fA fB (by decide), gRLk, hX.kp fA fB (by decide), by rw [fB.1]; exact hg⟩
theorem s_right : Sim_right RelW := by
  intro p1 p2 p3 p4 dA dB k1 k2 k3 k4 _ _ h
  obtain ⟨hS, hT, hQ, hJ, hP, hR, hH, hF, hO, hV, hG, hA, hB, hN, hC, hM, hL, hk, hX, hg⟩ := h
  have ga : dA GH 0 ≤ 6 := by have := hL.1; have := hL.2.1; omega
  obtain ⟨r, dA', dB', e1, e2, gRS, gRLk⟩ := T_right (p1 := p1) (p2 := p2) (p3 := p3) (p4 := p4) hL hk hR hP hH
  have fA := fr_PB_right p1 p2 p3 p4 dA ga e1
  have fB := fr_Mo_right p1 p2 p3 p4 dB hg e2
  exact ⟨r, dA', dB', e1, e2, gRS, hT.kp fA fB (by decide), hQ.kp fA fB (by decide), hJ.kp fA fB (by decide), hP.kp fA fB (by decide), hR.kp fA fB (by decide), hH.kp fA fB (by decide), hF.kp fA fB (by decide), hO.kp fA fB (by decide), hV.kp fA fB (by decide), hG.kp fA fB (by decide), hA.kp fA fB (by decide), hB.kp fA fB (by decide), hN.kp fA fB (by decide), hC.kp fA fB (by decide), hM.kp fA fB (by decide), hL.kp fA fB (by decide), gRLk, hX.kp fA fB (by decide), by rw [fB.1]; exact hg⟩
theorem s_why : Sim_why RelW := by
  intro p1 p2 p3 p4 dA dB k1 k2 k3 k4 _ _ h
  obtain ⟨hS, hT, hQ, hJ, hP, hR, hH, hF, hO, hV, hG, hA, hB, hN, hC, hM, hL, hk, hX, hg⟩ := h
  have ga : dA GH 0 ≤ 6 := by have := hL.1; have := hL.2.1; omega
  obtain ⟨r, dA', dB', e1, e2, gRS, gRLk⟩ := T_why (p1 := p1) (p2 := p2) (p3 := p3) (p4 := p4) hL hk hR hP hH
  have fA := fr_PB_why p1 p2 p3 p4 dA ga e1
  have fB := fr_Mo_why p1 p2 p3 p4 dB hg e2
  exact ⟨r, dA', dB', e1, e2, gRS, hT.kp fA fB (by decide), hQ.kp fA fB (by decide), hJ.kp fA fB (by decide), hP.kp fA fB (by decide), hR.kp fA fB (by decide), hH.kp fA fB (by decide), hF.kp fA fB (by decide), hO.kp fA fB (by decide), hV.kp fA fB (by decide), hG.kp fA fB (by decide), hA.kp fA fB (by decide), hB.kp fA fB (by decide), hN.kp fA fB (by decide), hC.kp fA fB (by decide), hM.kp fA fB (by decide), hL.kp fA fB (by decide), gRLk, hX.kp fA fB (by decide), by rw [fB.1]; exact hg⟩
theorem s_voided : Sim_voided RelW := by
  intro p1 p2 p3 p4 dA dB k1 k2 k3 k4 _ _ h
  obtain ⟨hS, hT, hQ, hJ, hP, hR, hH, hF, hO, hV, hG, hA, hB, hN, hC, hM, hL, hk, hX, hg⟩ := h
  have ga : dA GH 0 ≤ 6 := by have := hL.1; have := hL.2.1; omega
  obtain ⟨r, dA', dB', e1, e2, gRS, gRLk⟩ := T_voided (p1 := p1) (p2 := p2) (p3 := p3) (p4 := p4) hL hk hR hP hH
  have fA := fr_PB_voided p1 p2 p3 p4 dA ga e1
  have fB := fr_Mo_voided p1 p2 p3 p4 dB hg e2
  exact ⟨r, dA', dB', e1, e2, gRS, hT.kp fA fB (by decide), hQ.kp fA fB (by decide), hJ.kp fA fB (by decide), hP.kp fA fB (by decide), hR.kp fA fB (by decide), hH.kp fA fB (by decide), hF.kp fA fB (by decide), hO.kp fA fB (by decide), hV.kp fA fB (by decide), hG.kp fA fB (by decide), hA.kp fA fB (by decide), hB.kp fA fB (by decide), hN.kp fA fB (by decide), hC.kp fA fB (by decide), hM.kp fA fB (by decide), hL.kp fA fB (by decide), gRLk, hX.kp fA fB (by decide), by rw [fB.1]; exact hg⟩
theorem s_names : Sim_names RelW := by
  intro p1 p2 dA dB k1 k2 _ _ h
  obtain ⟨hS, hT, hQ, hJ, hP, hR, hH, hF, hO, hV, hG, hA, hB, hN, hC, hM, hL, hk, hX, hg⟩ := h
  have ga : dA GH 0 ≤ 6 := by have := hL.1; have := hL.2.1; omega
  obtain ⟨r, dA', dB', e1, e2, gRS, gRLk⟩ := T_names (p1 := p1) (p2 := p2) hL hk
  have fA := fr_PB_names p1 p2 dA ga e1
  have fB := fr_Mo_names p1 p2 dB hg e2
  exact ⟨r, dA', dB', e1, e2, gRS, hT.kp fA fB (by decide), hQ.kp fA fB (by decide), hJ.kp fA fB (by decide), hP.kp fA fB (by decide), hR.kp fA fB (by decide), hH.kp fA fB (by decide), hF.kp fA fB (by decide), hO.kp fA fB (by decide), hV.kp fA fB (by decide), hG.kp fA fB (by decide), hA.kp fA fB (by decide), hB.kp fA fB (by decide), hN.kp fA fB (by decide), hC.kp fA fB (by decide), hM.kp fA fB (by decide), hL.kp fA fB (by decide), gRLk, hX.kp fA fB (by decide), by rw [fB.1]; exact hg⟩
theorem s_entry : Sim_entry RelW := by
  intro p1 p2 p3 p4 p5 dA dB k1 k2 k3 k4 k5 _ _ h
  obtain ⟨hS, hT, hQ, hJ, hP, hR, hH, hF, hO, hV, hG, hA, hB, hN, hC, hM, hL, hk, hX, hg⟩ := h
  have ga : dA GH 0 ≤ 6 := by have := hL.1; have := hL.2.1; omega
  obtain ⟨r, dA', dB', e1, e2, gRS, gRB, gRC, gRN, mo, sp⟩ := T_entry (p1 := p1) (p2 := p2) (p3 := p3) (p4 := p4) (p5 := p5) k2 hP hH hB hC hN
  have fA := fr_PB_entry p1 p2 p3 p4 p5 dA ga e1
  have fB := fr_Mo_entry p1 p2 p3 p4 p5 dB hg e2
  exact ⟨r, dA', dB', e1, e2, gRS, hT.kp fA fB (by decide), hQ.kp fA fB (by decide), hJ.kp fA fB (by decide), hP.kp fA fB (by decide), hR.kp fA fB (by decide), hH.kp fA fB (by decide), hF.kp fA fB (by decide), hO.kp fA fB (by decide), hV.kp fA fB (by decide), hG.mo fA fB mo (by rw [fB.f 0 87 (by decide)]; omega) (by decide), hA.kp fA fB (by decide), gRB, gRN, gRC, (sp.elim Or.inl (fun z => (hM.cgA (by rw [z.1 37 (by decide)]) (fun k k1 k2 => z.1 k (by omega))).cgB ⟨z.2 52 (by decide), z.2 53 (by decide), z.2 54 (by decide), z.2 55 (by decide), z.2 57 (by decide)⟩)), hL.kp fA fB (by decide), hk.kp fA fB (by decide), hX.kp fA fB (by decide), by rw [fB.1]; exact hg⟩
theorem s_join : Sim_join RelW := by
  intro p1 dA dB k1 _ _ h
  obtain ⟨hS, hT, hQ, hJ, hP, hR, hH, hF, hO, hV, hG, hA, hB, hN, hC, hM, hL, hk, hX, hg⟩ := h
  have ga : dA GH 0 ≤ 6 := by have := hL.1; have := hL.2.1; omega
  obtain ⟨r, dA', dB', e1, e2, gRS, gRM⟩ := T_join (p1 := p1) hB hC hM
  have fA := fr_PB_join p1 dA ga e1
  have fB := fr_Mo_join p1 dB hg e2
  exact ⟨r, dA', dB', e1, e2, gRS, hT.kp fA fB (by decide), hQ.kp fA fB (by decide), hJ.kp fA fB (by decide), hP.kp fA fB (by decide), hR.kp fA fB (by decide), hH.kp fA fB (by decide), hF.kp fA fB (by decide), hO.kp fA fB (by decide), hV.kp fA fB (by decide), hG.kp fA fB (by decide), hA.kp fA fB (by decide), hB.kp fA fB (by decide), hN.kp fA fB (by decide), hC.kp fA fB (by decide), gRM, hL.kp fA fB (by decide), hk.kp fA fB (by decide), hX.kp fA fB (by decide), by rw [fB.1]; exact hg⟩
theorem s_mate : Sim_mate RelW := by
  intro p1 p2 dA dB k1 k2 _ _ h
  obtain ⟨hS, hT, hQ, hJ, hP, hR, hH, hF, hO, hV, hG, hA, hB, hN, hC, hM, hL, hk, hX, hg⟩ := h
  have ga : dA GH 0 ≤ 6 := by have := hL.1; have := hL.2.1; omega
  obtain ⟨r, dA', dB', e1, e2, gRS, gRM⟩ := T_mate (p1 := p1) (p2 := p2) hB hC hM
  have fA := fr_PB_mate p1 p2 dA ga e1
  have fB := fr_Mo_mate p1 p2 dB hg e2
  exact ⟨r, dA', dB', e1, e2, gRS, hT.kp fA fB (by decide), hQ.kp fA fB (by decide), hJ.kp fA fB (by decide), hP.kp fA fB (by decide), hR.kp fA fB (by decide), hH.kp fA fB (by decide), hF.kp fA fB (by decide), hO.kp fA fB (by decide), hV.kp fA fB (by decide), hG.kp fA fB (by decide), hA.kp fA fB (by decide), hB.kp fA fB (by decide), hN.kp fA fB (by decide), hC.kp fA fB (by decide), gRM, hL.kp fA fB (by decide), hk.kp fA fB (by decide), hX.kp fA fB (by decide), by rw [fB.1]; exact hg⟩
theorem s_joined : Sim_joined RelW := by
  intro p1 dA dB k1 _ _ h
  obtain ⟨hS, hT, hQ, hJ, hP, hR, hH, hF, hO, hV, hG, hA, hB, hN, hC, hM, hL, hk, hX, hg⟩ := h
  have ga : dA GH 0 ≤ 6 := by have := hL.1; have := hL.2.1; omega
  obtain ⟨r, dA', dB', e1, e2, gRS, gRM⟩ := T_joined (p1 := p1) hB hC hM
  have fA := fr_PB_joined p1 dA ga e1
  have fB := fr_Mo_joined p1 dB hg e2
  exact ⟨r, dA', dB', e1, e2, gRS, hT.kp fA fB (by decide), hQ.kp fA fB (by decide), hJ.kp fA fB (by decide), hP.kp fA fB (by decide), hR.kp fA fB (by decide), hH.kp fA fB (by decide), hF.kp fA fB (by decide), hO.kp fA fB (by decide), hV.kp fA fB (by decide), hG.kp fA fB (by decide), hA.kp fA fB (by decide), hB.kp fA fB (by decide), hN.kp fA fB (by decide), hC.kp fA fB (by decide), gRM, hL.kp fA fB (by decide), hk.kp fA fB (by decide), hX.kp fA fB (by decide), by rw [fB.1]; exact hg⟩
theorem s_tally : Sim_tally RelW := by
  intro p1 p2 dA dB k1 k2 _ _ h
  obtain ⟨hS, hT, hQ, hJ, hP, hR, hH, hF, hO, hV, hG, hA, hB, hN, hC, hM, hL, hk, hX, hg⟩ := h
  have ga : dA GH 0 ≤ 6 := by have := hL.1; have := hL.2.1; omega
  obtain ⟨r, dA', dB', e1, e2, gRS, gRM⟩ := T_tally (p1 := p1) (p2 := p2) hB hC hM
  have fA := fr_PB_tally p1 p2 dA ga e1
  have fB := fr_Mo_tally p1 p2 dB hg e2
  exact ⟨r, dA', dB', e1, e2, gRS, hT.kp fA fB (by decide), hQ.kp fA fB (by decide), hJ.kp fA fB (by decide), hP.kp fA fB (by decide), hR.kp fA fB (by decide), hH.kp fA fB (by decide), hF.kp fA fB (by decide), hO.kp fA fB (by decide), hV.kp fA fB (by decide), hG.kp fA fB (by decide), hA.kp fA fB (by decide), hB.kp fA fB (by decide), hN.kp fA fB (by decide), hC.kp fA fB (by decide), gRM, hL.kp fA fB (by decide), hk.kp fA fB (by decide), hX.kp fA fB (by decide), by rw [fB.1]; exact hg⟩
theorem s_reach : Sim_reach RelW := by
  intro p1 dA dB k1 _ _ h
  obtain ⟨hS, hT, hQ, hJ, hP, hR, hH, hF, hO, hV, hG, hA, hB, hN, hC, hM, hL, hk, hX, hg⟩ := h
  have ga : dA GH 0 ≤ 6 := by have := hL.1; have := hL.2.1; omega
  obtain ⟨r, dA', dB', e1, e2, gRS, gRQ⟩ := T_reach (p1 := p1) hQ
  have fA := fr_PB_reach p1 dA ga e1
  have fB := fr_Mo_reach p1 dB hg e2
  exact ⟨r, dA', dB', e1, e2, gRS, hT.kp fA fB (by decide), gRQ, hJ.kp fA fB (by decide), hP.kp fA fB (by decide), hR.kp fA fB (by decide), hH.kp fA fB (by decide), hF.kp fA fB (by decide), hO.kp fA fB (by decide), hV.kp fA fB (by decide), hG.kp fA fB (by decide), hA.kp fA fB (by decide), hB.kp fA fB (by decide), hN.kp fA fB (by decide), hC.kp fA fB (by decide), hM.kp fA fB (by decide), hL.kp fA fB (by decide), hk.kp fA fB (by decide), hX.kp fA fB (by decide), by rw [fB.1]; exact hg⟩
theorem s_who : Sim_who RelW := by
  intro p1 dA dB k1 _ _ h
  obtain ⟨hS, hT, hQ, hJ, hP, hR, hH, hF, hO, hV, hG, hA, hB, hN, hC, hM, hL, hk, hX, hg⟩ := h
  have ga : dA GH 0 ≤ 6 := by have := hL.1; have := hL.2.1; omega
  obtain ⟨r, dA', dB', e1, e2, gRS⟩ := T_who (p1 := p1) hP hH hB hQ hN
  have fA := fr_PB_who p1 dA ga e1
  have fB := fr_Mo_who p1 dB hg e2
  exact ⟨r, dA', dB', e1, e2, gRS, hT.kp fA fB (by decide), hQ.kp fA fB (by decide), hJ.kp fA fB (by decide), hP.kp fA fB (by decide), hR.kp fA fB (by decide), hH.kp fA fB (by decide), hF.kp fA fB (by decide), hO.kp fA fB (by decide), hV.kp fA fB (by decide), hG.kp fA fB (by decide), hA.kp fA fB (by decide), hB.kp fA fB (by decide), hN.kp fA fB (by decide), hC.kp fA fB (by decide), hM.kp fA fB (by decide), hL.kp fA fB (by decide), hk.kp fA fB (by decide), hX.kp fA fB (by decide), by rw [fB.1]; exact hg⟩
theorem s_sure : Sim_sure RelW := by
  intro p1 p2 dA dB k1 k2 _ _ h
  obtain ⟨hS, hT, hQ, hJ, hP, hR, hH, hF, hO, hV, hG, hA, hB, hN, hC, hM, hL, hk, hX, hg⟩ := h
  have ga : dA GH 0 ≤ 6 := by have := hL.1; have := hL.2.1; omega
  obtain ⟨r, dA', dB', e1, e2, gRS⟩ := T_sure (p1 := p1) (p2 := p2) hP hH hB hQ hN
  have fA := fr_PB_sure p1 p2 dA ga e1
  have fB := fr_Mo_sure p1 p2 dB hg e2
  exact ⟨r, dA', dB', e1, e2, gRS, hT.kp fA fB (by decide), hQ.kp fA fB (by decide), hJ.kp fA fB (by decide), hP.kp fA fB (by decide), hR.kp fA fB (by decide), hH.kp fA fB (by decide), hF.kp fA fB (by decide), hO.kp fA fB (by decide), hV.kp fA fB (by decide), hG.kp fA fB (by decide), hA.kp fA fB (by decide), hB.kp fA fB (by decide), hN.kp fA fB (by decide), hC.kp fA fB (by decide), hM.kp fA fB (by decide), hL.kp fA fB (by decide), hk.kp fA fB (by decide), hX.kp fA fB (by decide), by rw [fB.1]; exact hg⟩
theorem s_offer : Sim_offer RelW := by
  intro p1 p2 p3 dA dB k1 k2 k3 _ _ h
  obtain ⟨hS, hT, hQ, hJ, hP, hR, hH, hF, hO, hV, hG, hA, hB, hN, hC, hM, hL, hk, hX, hg⟩ := h
  have ga : dA GH 0 ≤ 6 := by have := hL.1; have := hL.2.1; omega
  obtain ⟨r, dA', dB', e1, e2, gRS, gRV⟩ := T_offer (p1 := p1) (p2 := p2) (p3 := p3) hP hV
  have fA := fr_PB_offer p1 p2 p3 dA ga e1
  have fB := fr_Mo_offer p1 p2 p3 dB hg e2
  exact ⟨r, dA', dB', e1, e2, gRS, hT.kp fA fB (by decide), hQ.kp fA fB (by decide), hJ.kp fA fB (by decide), hP.kp fA fB (by decide), hR.kp fA fB (by decide), hH.kp fA fB (by decide), hF.kp fA fB (by decide), hO.kp fA fB (by decide), gRV, hG.mo fA fB (by rw [fB.c 52 (by decide)]; omega) (offer_mo hV.2.1 e2) (by decide), hA.kp fA fB (by decide), hB.kp fA fB (by decide), hN.kp fA fB (by decide), hC.kp fA fB (by decide), hM.kp fA fB (by decide), hL.kp fA fB (by decide), hk.kp fA fB (by decide), hX.kp fA fB (by decide), by rw [fB.1]; exact hg⟩
theorem s_standing : Sim_standing RelW := by
  intro p1 p2 p3 dA dB k1 k2 k3 _ _ h
  obtain ⟨hS, hT, hQ, hJ, hP, hR, hH, hF, hO, hV, hG, hA, hB, hN, hC, hM, hL, hk, hX, hg⟩ := h
  have ga : dA GH 0 ≤ 6 := by have := hL.1; have := hL.2.1; omega
  obtain ⟨r, dA', dB', e1, e2, gRS, gRLk, gRM⟩ := T_standing (p1 := p1) (p2 := p2) (p3 := p3) hg hL hk hR hP hH hB hQ hN hC hM hV
  have fA := fr_PB_standing p1 p2 p3 dA ga e1
  have fB := fr_Mo_standing p1 p2 p3 dB hg e2
  exact ⟨r, dA', dB', e1, e2, gRS, hT.kp fA fB (by decide), hQ.kp fA fB (by decide), hJ.kp fA fB (by decide), hP.kp fA fB (by decide), hR.kp fA fB (by decide), hH.kp fA fB (by decide), hF.kp fA fB (by decide), hO.kp fA fB (by decide), hV.kp fA fB (by decide), hG.kp fA fB (by decide), hA.kp fA fB (by decide), hB.kp fA fB (by decide), hN.kp fA fB (by decide), hC.kp fA fB (by decide), gRM, hL.kp fA fB (by decide), gRLk, hX.kp fA fB (by decide), by rw [fB.1]; exact hg⟩
theorem s_stands : Sim_stands RelW := by
  intro p1 p2 p3 dA dB k1 k2 k3 _ _ h
  obtain ⟨hS, hT, hQ, hJ, hP, hR, hH, hF, hO, hV, hG, hA, hB, hN, hC, hM, hL, hk, hX, hg⟩ := h
  have ga : dA GH 0 ≤ 6 := by have := hL.1; have := hL.2.1; omega
  obtain ⟨r, dA', dB', e1, e2, gRS, gRLk, gRM⟩ := T_stands (p1 := p1) (p2 := p2) (p3 := p3) hg hL hk hR hP hH hB hQ hN hC hM hV
  have fA := fr_PB_stands p1 p2 p3 dA ga e1
  have fB := fr_Mo_stands p1 p2 p3 dB hg e2
  exact ⟨r, dA', dB', e1, e2, gRS, hT.kp fA fB (by decide), hQ.kp fA fB (by decide), hJ.kp fA fB (by decide), hP.kp fA fB (by decide), hR.kp fA fB (by decide), hH.kp fA fB (by decide), hF.kp fA fB (by decide), hO.kp fA fB (by decide), hV.kp fA fB (by decide), hG.kp fA fB (by decide), hA.kp fA fB (by decide), hB.kp fA fB (by decide), hN.kp fA fB (by decide), hC.kp fA fB (by decide), gRM, hL.kp fA fB (by decide), gRLk, hX.kp fA fB (by decide), by rw [fB.1]; exact hg⟩
theorem s_poll : Sim_poll RelW := by
  intro p1 p2 p3 p4 dA dB k1 k2 k3 k4 _ _ h
  obtain ⟨hS, hT, hQ, hJ, hP, hR, hH, hF, hO, hV, hG, hA, hB, hN, hC, hM, hL, hk, hX, hg⟩ := h
  have ga : dA GH 0 ≤ 6 := by have := hL.1; have := hL.2.1; omega
  obtain ⟨r, dA', dB', e1, e2, gRS, gRLk, gRM⟩ := T_poll (p1 := p1) (p2 := p2) (p3 := p3) (p4 := p4) hg hL hk hR hP hH hB hQ hN hC hM hV
  have fA := fr_PB_poll p1 p2 p3 p4 dA ga e1
  have fB := fr_Mo_poll p1 p2 p3 p4 dB hg e2
  exact ⟨r, dA', dB', e1, e2, gRS, hT.kp fA fB (by decide), hQ.kp fA fB (by decide), hJ.kp fA fB (by decide), hP.kp fA fB (by decide), hR.kp fA fB (by decide), hH.kp fA fB (by decide), hF.kp fA fB (by decide), hO.kp fA fB (by decide), hV.kp fA fB (by decide), hG.kp fA fB (by decide), hA.kp fA fB (by decide), hB.kp fA fB (by decide), hN.kp fA fB (by decide), hC.kp fA fB (by decide), gRM, hL.kp fA fB (by decide), gRLk, hX.kp fA fB (by decide), by rw [fB.1]; exact hg⟩
theorem s_seated : Sim_seated RelW := by
  intro p1 p2 p3 p4 dA dB k1 k2 k3 k4 _ _ h
  obtain ⟨hS, hT, hQ, hJ, hP, hR, hH, hF, hO, hV, hG, hA, hB, hN, hC, hM, hL, hk, hX, hg⟩ := h
  have ga : dA GH 0 ≤ 6 := by have := hL.1; have := hL.2.1; omega
  obtain ⟨r, dA', dB', e1, e2, gRS, gRLk, gRM⟩ := T_seated (p1 := p1) (p2 := p2) (p3 := p3) (p4 := p4) hg hL hk hR hP hH hB hQ hN hC hM hV
  have fA := fr_PB_seated p1 p2 p3 p4 dA ga e1
  have fB := fr_Mo_seated p1 p2 p3 p4 dB hg e2
  exact ⟨r, dA', dB', e1, e2, gRS, hT.kp fA fB (by decide), hQ.kp fA fB (by decide), hJ.kp fA fB (by decide), hP.kp fA fB (by decide), hR.kp fA fB (by decide), hH.kp fA fB (by decide), hF.kp fA fB (by decide), hO.kp fA fB (by decide), hV.kp fA fB (by decide), hG.kp fA fB (by decide), hA.kp fA fB (by decide), hB.kp fA fB (by decide), hN.kp fA fB (by decide), hC.kp fA fB (by decide), gRM, hL.kp fA fB (by decide), gRLk, hX.kp fA fB (by decide), by rw [fB.1]; exact hg⟩
theorem s_ground : Sim_ground RelW := by
  intro p1 p2 dA dB k1 k2 _ _ h
  obtain ⟨hS, hT, hQ, hJ, hP, hR, hH, hF, hO, hV, hG, hA, hB, hN, hC, hM, hL, hk, hX, hg⟩ := h
  have ga : dA GH 0 ≤ 6 := by have := hL.1; have := hL.2.1; omega
  obtain ⟨r, dA', dB', e1, e2, gRS, gRG⟩ := T_ground (p1 := p1) (p2 := p2) (hB.1 0 (by decide)).1 hV.1 hG
  have fA := fr_PB_ground p1 p2 dA ga e1
  have fB := fr_Mo_ground p1 p2 dB hg e2
  exact ⟨r, dA', dB', e1, e2, gRS, hT.kp fA fB (by decide), hQ.kp fA fB (by decide), hJ.kp fA fB (by decide), hP.kp fA fB (by decide), hR.kp fA fB (by decide), hH.kp fA fB (by decide), hF.kp fA fB (by decide), hO.kp fA fB (by decide), hV.kp fA fB (by decide), gRG, hA.kp fA fB (by decide), hB.kp fA fB (by decide), hN.kp fA fB (by decide), hC.kp fA fB (by decide), hM.kp fA fB (by decide), hL.kp fA fB (by decide), hk.kp fA fB (by decide), hX.kp fA fB (by decide), by rw [fB.1]; exact hg⟩
theorem s_against : Sim_against RelW := by
  intro p1 p2 dA dB k1 k2 _ _ h
  obtain ⟨hS, hT, hQ, hJ, hP, hR, hH, hF, hO, hV, hG, hA, hB, hN, hC, hM, hL, hk, hX, hg⟩ := h
  have ga : dA GH 0 ≤ 6 := by have := hL.1; have := hL.2.1; omega
  obtain ⟨r, dA', dB', e1, e2, gRS, gRG⟩ := T_against (p1 := p1) (p2 := p2) hG
  have fA := fr_PB_against p1 p2 dA ga e1
  have fB := fr_Mo_against p1 p2 dB hg e2
  exact ⟨r, dA', dB', e1, e2, gRS, hT.kp fA fB (by decide), hQ.kp fA fB (by decide), hJ.kp fA fB (by decide), hP.kp fA fB (by decide), hR.kp fA fB (by decide), hH.kp fA fB (by decide), hF.kp fA fB (by decide), hO.kp fA fB (by decide), hV.kp fA fB (by decide), gRG, hA.kp fA fB (by decide), hB.kp fA fB (by decide), hN.kp fA fB (by decide), hC.kp fA fB (by decide), hM.kp fA fB (by decide), hL.kp fA fB (by decide), hk.kp fA fB (by decide), hX.kp fA fB (by decide), by rw [fB.1]; exact hg⟩
theorem s_written : Sim_written RelW := by
  intro p1 p2 dA dB k1 k2 _ _ h
  obtain ⟨hS, hT, hQ, hJ, hP, hR, hH, hF, hO, hV, hG, hA, hB, hN, hC, hM, hL, hk, hX, hg⟩ := h
  have ga : dA GH 0 ≤ 6 := by have := hL.1; have := hL.2.1; omega
  obtain ⟨r, dA', dB', e1, e2, gRS, gRM⟩ := T_written (p1 := p1) (p2 := p2) hB hC hM hG hV
  have fA := fr_PB_written p1 p2 dA ga e1
  have fB := fr_Mo_written p1 p2 dB hg e2
  exact ⟨r, dA', dB', e1, e2, gRS, hT.kp fA fB (by decide), hQ.kp fA fB (by decide), hJ.kp fA fB (by decide), hP.kp fA fB (by decide), hR.kp fA fB (by decide), hH.kp fA fB (by decide), hF.kp fA fB (by decide), hO.kp fA fB (by decide), hV.kp fA fB (by decide), hG.kp fA fB (by decide), hA.kp fA fB (by decide), hB.kp fA fB (by decide), hN.kp fA fB (by decide), hC.kp fA fB (by decide), gRM, hL.kp fA fB (by decide), hk.kp fA fB (by decide), hX.kp fA fB (by decide), by rw [fB.1]; exact hg⟩
theorem s_turns : Sim_turns RelW := by
  intro p1 p2 dA dB k1 k2 _ _ h
  obtain ⟨hS, hT, hQ, hJ, hP, hR, hH, hF, hO, hV, hG, hA, hB, hN, hC, hM, hL, hk, hX, hg⟩ := h
  have ga : dA GH 0 ≤ 6 := by have := hL.1; have := hL.2.1; omega
  obtain ⟨r, dA', dB', e1, e2, gRS, gRM, _⟩ := T_turns (p1 := p1) (p2 := p2) hB hC hM hG hV
  have fA := fr_PB_turns p1 p2 dA ga e1
  have fB := fr_Mo_turns p1 p2 dB hg e2
  exact ⟨r, dA', dB', e1, e2, gRS, hT.kp fA fB (by decide), hQ.kp fA fB (by decide), hJ.kp fA fB (by decide), hP.kp fA fB (by decide), hR.kp fA fB (by decide), hH.kp fA fB (by decide), hF.kp fA fB (by decide), hO.kp fA fB (by decide), hV.kp fA fB (by decide), hG.kp fA fB (by decide), hA.kp fA fB (by decide), hB.kp fA fB (by decide), hN.kp fA fB (by decide), hC.kp fA fB (by decide), gRM, hL.kp fA fB (by decide), hk.kp fA fB (by decide), hX.kp fA fB (by decide), by rw [fB.1]; exact hg⟩
theorem s_member : Sim_member RelW := by
  intro p1 p2 dA dB k1 k2 _ _ h
  obtain ⟨hS, hT, hQ, hJ, hP, hR, hH, hF, hO, hV, hG, hA, hB, hN, hC, hM, hL, hk, hX, hg⟩ := h
  have ga : dA GH 0 ≤ 6 := by have := hL.1; have := hL.2.1; omega
  obtain ⟨r, dA', dB', e1, e2, gRS, gRJ⟩ := T_member (p1 := p1) (p2 := p2) hJ
  have fA := fr_PB_member p1 p2 dA ga e1
  have fB := fr_Mo_member p1 p2 dB hg e2
  exact ⟨r, dA', dB', e1, e2, gRS, hT.kp fA fB (by decide), hQ.kp fA fB (by decide), gRJ, hP.kp fA fB (by decide), hR.kp fA fB (by decide), hH.kp fA fB (by decide), hF.kp fA fB (by decide), hO.kp fA fB (by decide), hV.kp fA fB (by decide), hG.kp fA fB (by decide), hA.kp fA fB (by decide), hB.kp fA fB (by decide), hN.kp fA fB (by decide), hC.kp fA fB (by decide), hM.kp fA fB (by decide), hL.kp fA fB (by decide), hk.kp fA fB (by decide), hX.kp fA fB (by decide), by rw [fB.1]; exact hg⟩
theorem s_kin : Sim_kin RelW := by
  intro p1 p2 dA dB k1 k2 _ _ h
  obtain ⟨hS, hT, hQ, hJ, hP, hR, hH, hF, hO, hV, hG, hA, hB, hN, hC, hM, hL, hk, hX, hg⟩ := h
  have ga : dA GH 0 ≤ 6 := by have := hL.1; have := hL.2.1; omega
  obtain ⟨r, dA', dB', e1, e2, gRS, gRJ⟩ := T_kin (p1 := p1) (p2 := p2) hJ
  have fA := fr_PB_kin p1 p2 dA ga e1
  have fB := fr_Mo_kin p1 p2 dB hg e2
  exact ⟨r, dA', dB', e1, e2, gRS, hT.kp fA fB (by decide), hQ.kp fA fB (by decide), gRJ, hP.kp fA fB (by decide), hR.kp fA fB (by decide), hH.kp fA fB (by decide), hF.kp fA fB (by decide), hO.kp fA fB (by decide), hV.kp fA fB (by decide), hG.kp fA fB (by decide), hA.kp fA fB (by decide), hB.kp fA fB (by decide), hN.kp fA fB (by decide), hC.kp fA fB (by decide), hM.kp fA fB (by decide), hL.kp fA fB (by decide), hk.kp fA fB (by decide), hX.kp fA fB (by decide), by rw [fB.1]; exact hg⟩
theorem s_draw : Sim_draw RelW := by
  intro p1 p2 p3 dA dB k1 k2 k3 _ _ h
  obtain ⟨hS, hT, hQ, hJ, hP, hR, hH, hF, hO, hV, hG, hA, hB, hN, hC, hM, hL, hk, hX, hg⟩ := h
  have ga : dA GH 0 ≤ 6 := by have := hL.1; have := hL.2.1; omega
  obtain ⟨r, dA', dB', e1, e2, gRS, gRJ⟩ := T_draw (p1 := p1) (p2 := p2) (p3 := p3) hJ
  have fA := fr_PB_draw p1 p2 p3 dA ga e1
  have fB := fr_Mo_draw p1 p2 p3 dB hg e2
  exact ⟨r, dA', dB', e1, e2, gRS, hT.kp fA fB (by decide), hQ.kp fA fB (by decide), gRJ, hP.kp fA fB (by decide), hR.kp fA fB (by decide), hH.kp fA fB (by decide), hF.kp fA fB (by decide), hO.kp fA fB (by decide), hV.kp fA fB (by decide), hG.kp fA fB (by decide), hA.kp fA fB (by decide), hB.kp fA fB (by decide), hN.kp fA fB (by decide), hC.kp fA fB (by decide), hM.kp fA fB (by decide), hL.kp fA fB (by decide), hk.kp fA fB (by decide), hX.kp fA fB (by decide), by rw [fB.1]; exact hg⟩
theorem s_bench : Sim_bench RelW := by
  intro p1 dA dB k1 _ _ h
  obtain ⟨hS, hT, hQ, hJ, hP, hR, hH, hF, hO, hV, hG, hA, hB, hN, hC, hM, hL, hk, hX, hg⟩ := h
  have ga : dA GH 0 ≤ 6 := by have := hL.1; have := hL.2.1; omega
  obtain ⟨r, dA', dB', e1, e2, gRS, gRJ⟩ := T_bench (p1 := p1) hJ
  have fA := fr_PB_bench p1 dA ga e1
  have fB := fr_Mo_bench p1 dB hg e2
  exact ⟨r, dA', dB', e1, e2, gRS, hT.kp fA fB (by decide), hQ.kp fA fB (by decide), gRJ, hP.kp fA fB (by decide), hR.kp fA fB (by decide), hH.kp fA fB (by decide), hF.kp fA fB (by decide), hO.kp fA fB (by decide), hV.kp fA fB (by decide), hG.kp fA fB (by decide), hA.kp fA fB (by decide), hB.kp fA fB (by decide), hN.kp fA fB (by decide), hC.kp fA fB (by decide), hM.kp fA fB (by decide), hL.kp fA fB (by decide), hk.kp fA fB (by decide), hX.kp fA fB (by decide), by rw [fB.1]; exact hg⟩
theorem s_miles : Sim_miles RelW := by
  intro p1 p2 p3 dA dB k1 k2 k3 _ _ h
  obtain ⟨hS, hT, hQ, hJ, hP, hR, hH, hF, hO, hV, hG, hA, hB, hN, hC, hM, hL, hk, hX, hg⟩ := h
  have ga : dA GH 0 ≤ 6 := by have := hL.1; have := hL.2.1; omega
  obtain ⟨r, dA', dB', e1, e2, gRS, gRO⟩ := T_miles (p1 := p1) (p2 := p2) (p3 := p3) hO
  have fA := fr_PB_miles p1 p2 p3 dA ga e1
  have fB := fr_Mo_miles p1 p2 p3 dB hg e2
  exact ⟨r, dA', dB', e1, e2, gRS, hT.kp fA fB (by decide), hQ.kp fA fB (by decide), hJ.kp fA fB (by decide), hP.kp fA fB (by decide), hR.kp fA fB (by decide), hH.kp fA fB (by decide), hF.kp fA fB (by decide), gRO, hV.kp fA fB (by decide), hG.kp fA fB (by decide), hA.kp fA fB (by decide), hB.kp fA fB (by decide), hN.kp fA fB (by decide), hC.kp fA fB (by decide), hM.kp fA fB (by decide), hL.kp fA fB (by decide), hk.kp fA fB (by decide), hX.kp fA fB (by decide), by rw [fB.1]; exact hg⟩
theorem s_coaches : Sim_coaches RelW := by
  intro p1 p2 p3 dA dB k1 k2 k3 _ _ h
  obtain ⟨hS, hT, hQ, hJ, hP, hR, hH, hF, hO, hV, hG, hA, hB, hN, hC, hM, hL, hk, hX, hg⟩ := h
  have ga : dA GH 0 ≤ 6 := by have := hL.1; have := hL.2.1; omega
  obtain ⟨r, dA', dB', e1, e2, gRS, gRO⟩ := T_coaches (p1 := p1) (p2 := p2) (p3 := p3) hT hO
  have fA := fr_PB_coaches p1 p2 p3 dA ga e1
  have fB := fr_Mo_coaches p1 p2 p3 dB hg e2
  exact ⟨r, dA', dB', e1, e2, gRS, hT.kp fA fB (by decide), hQ.kp fA fB (by decide), hJ.kp fA fB (by decide), hP.kp fA fB (by decide), hR.kp fA fB (by decide), hH.kp fA fB (by decide), hF.kp fA fB (by decide), gRO, hV.kp fA fB (by decide), hG.kp fA fB (by decide), hA.kp fA fB (by decide), hB.kp fA fB (by decide), hN.kp fA fB (by decide), hC.kp fA fB (by decide), hM.kp fA fB (by decide), hL.kp fA fB (by decide), hk.kp fA fB (by decide), hX.kp fA fB (by decide), by rw [fB.1]; exact hg⟩
theorem s_coachMany : Sim_coachMany RelW := by
  intro dA dB _ _ h
  obtain ⟨hS, hT, hQ, hJ, hP, hR, hH, hF, hO, hV, hG, hA, hB, hN, hC, hM, hL, hk, hX, hg⟩ := h
  have ga : dA GH 0 ≤ 6 := by have := hL.1; have := hL.2.1; omega
  obtain ⟨r, dA', dB', e1, e2, gRS, gRO⟩ := T_coachMany  hO
  have fA := fr_PB_coachMany  dA ga e1
  have fB := fr_Mo_coachMany  dB hg e2
  exact ⟨r, dA', dB', e1, e2, gRS, hT.kp fA fB (by decide), hQ.kp fA fB (by decide), hJ.kp fA fB (by decide), hP.kp fA fB (by decide), hR.kp fA fB (by decide), hH.kp fA fB (by decide), hF.kp fA fB (by decide), gRO, hV.kp fA fB (by decide), hG.kp fA fB (by decide), hA.kp fA fB (by decide), hB.kp fA fB (by decide), hN.kp fA fB (by decide), hC.kp fA fB (by decide), hM.kp fA fB (by decide), hL.kp fA fB (by decide), hk.kp fA fB (by decide), hX.kp fA fB (by decide), by rw [fB.1]; exact hg⟩
