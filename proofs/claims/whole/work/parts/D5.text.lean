/-! text: refusals -/
theorem pbText_bad {p1 p2 p3 : Int} {dA : Dt} (h : ¬ ((0 ≤ p1 ∧ p1 ≤ dA 25 1) ∧ (0 ≤ p2 ∧ p2 ≤ 9999) ∧ (1 ≤ p3 ∧ p3 ≤ 127))) : L_PB_text p1 p2 p3 dA = some (-1, up2 dA 0 0 1) := by
  have n10 : ¬ ((1 : Int) = 0) := by decide
  unfold L_PB_text L_Pa_taped
  rw [bd_e, within_e, bd_e]
  by_cases c1 : 0 ≤ p1 ∧ p1 ≤ dA 25 1
  · rw [if_pos c1, if_neg n10, e_PB_isDay, bd_e]
    by_cases c2 : 0 ≤ p2 ∧ p2 ≤ 9999
    · rw [if_pos c2, if_neg n10, within_e, bd_e]
      have c3 : ¬ (1 ≤ p3 ∧ p3 ≤ 127) := fun c3 => h ⟨c1, c2, c3⟩
      rw [if_neg c3, if_pos rfl, if_pos rfl, if_neg n10]
    · rw [if_neg c2, if_pos rfl, if_pos rfl, if_neg n10]
  · rw [if_neg c1, if_pos rfl, if_pos rfl, if_neg n10]
def pbE (p2 p3 : Int) (r39_ : Int) (d38_ : Dt) : Option (Int × Dt) := if r39_ < 0 then some ((-1), (up2 d38_ 0 0 9)) else bd (L_La_enact r39_ p2 p3 d38_) (fun r43_ d42_ => ck (stt d42_ r39_) (some ((d42_ (r39_.toNat + 0) 2), d42_)))
theorem pbText_ok {p1 p2 p3 : Int} {dA : Dt} (c1 : 0 ≤ p1 ∧ p1 ≤ dA 25 1) (c2 : 0 ≤ p2 ∧ p2 ≤ 9999) (c3 : 1 ≤ p3 ∧ p3 ≤ 127) : L_PB_text p1 p2 p3 dA = if dA 30 2 < 5 then bd (L_Pa_take p1 (up2 dA 0 0 0)) (pbE p2 p3) else some (-1, up2 dA 0 0 4) := by
  have n10 : ¬ ((1 : Int) = 0) := by decide
  have n40 : ¬ ((4 : Int) = 0) := by decide
  unfold L_PB_text L_Pa_taped
  rw [bd_e, within_e, bd_e, if_pos c1, if_neg n10, e_PB_isDay, bd_e, if_pos c2, if_neg n10, within_e, bd_e, if_pos c3, if_neg n10, if_neg n10]
  unfold L_La_isFull
  by_cases q : dA 30 2 < 5
  · rw [if_pos q, if_pos q, bd_e, if_pos rfl, if_pos rfl, ck_pos (by rw [up2_K _ _ _ (by decide)])]
    rfl
  · rw [if_neg q, if_neg q, bd_e, if_neg n10, if_neg n40]
theorem moText_bad {p1 p2 p3 : Int} {dB : Dt} (h : ¬ ((0 ≤ p1 ∧ p1 ≤ dB 0 32) ∧ (0 ≤ p2 ∧ p2 ≤ 9999) ∧ (1 ≤ p3 ∧ p3 ≤ 127))) : L_Mo_text p1 p2 p3 dB = some (-1, up2 dB 0 0 1) := by
  have n10 : ¬ ((1 : Int) = 0) := by decide
  have b30 : L_Mo_text_b30 dB = some (-1, up2 dB 0 0 1) := by
    unfold L_Mo_text_b30 L_Mo_refuse
    rw [bd_e]
  unfold L_Mo_text
  by_cases c1 : p1 < 0
  · rw [if_pos c1]; exact b30
  · rw [if_neg c1]
    by_cases c2 : dB 0 32 < p1
    · rw [if_pos c2]; exact b30
    · rw [if_neg c2, e_Mo_isDay, bd_e]
      by_cases c3 : 0 ≤ p2 ∧ p2 ≤ 9999
      · rw [if_pos c3, if_neg n10]
        by_cases c4 : p3 < 1
        · rw [if_pos c4]; exact b30
        · rw [if_neg c4, if_pos (by omega)]; exact b30
      · rw [if_neg c3, if_pos rfl]; exact b30
theorem moText_full {p1 p2 p3 : Int} {dB : Dt} (c1 : 0 ≤ p1 ∧ p1 ≤ dB 0 32) (c2 : 0 ≤ p2 ∧ p2 ≤ 9999) (c3 : 1 ≤ p3 ∧ p3 ≤ 127) (h5 : dB 0 41 = 5) : L_Mo_text p1 p2 p3 dB = some (-1, up2 dB 0 0 4) := by
  have n10 : ¬ ((1 : Int) = 0) := by decide
  unfold L_Mo_text
  rw [if_neg (by omega), if_neg (by omega), e_Mo_isDay, bd_e, if_pos c2, if_neg n10, if_neg (by omega), if_neg (by omega), if_pos h5]
  unfold L_Mo_refuse
  rw [bd_e]
theorem stat_t {dA dB : Dt} (h : RelZ dA dB) (v : Int) : RelZ (up2 dA 0 0 v) (up2 dB 0 0 v) := by
  obtain ⟨⟨gS, gT, gQ, gJ, gP, gR, gH, gF, gO, gV, gG, gA, gB, gN, gC, gM, gL, gk, gX, gg⟩, hz⟩ := h
  have fA : Fr [(0, 0)] [] false dA (up2 dA 0 0 v) := Fr.upo Fr.rfl (by decide) (by decide)
  have fB : Fr [(0, 0)] [] false dB (up2 dB 0 0 v) := Fr.upo Fr.rfl (by decide) (by decide)
  refine ⟨⟨?_, gT.kp fA fB (by decide), gQ.kp fA fB (by decide), gJ.kp fA fB (by decide), gP.kp fA fB (by decide), gR.kp fA fB (by decide), gH.kp fA fB (by decide), gF.kp fA fB (by decide), gO.kp fA fB (by decide), gV.kp fA fB (by decide), gG.kp fA fB (by decide), gA.kp fA fB (by decide), gB.kp fA fB (by decide), gN.kp fA fB (by decide), gC.kp fA fB (by decide), gM.kp fA fB (by decide), gL.kp fA fB (by decide), gk.kp fA fB (by decide), gX.kp fA fB (by decide), by rw [fB.1]; exact gg⟩, hz.fs (Fs.of fA (by decide) (by decide))⟩
  unfold RS
  rw [up2_s, up2_s]
/-! text: the TEXT's place is made -/
theorem mk_k {x : Dt} {T k : Nat} (hG : x GH 0 = (T : Int) + 1) (h25 : k ≠ 25) (hk : k < 79 + 7 * (T + 1) ∨ 79 + 7 * (T + 1) + 7 ≤ k) (hg : k ≠ GH) : mkst x k = x k := by
  have hn : nxt x = 79 + 7 * (T + 1) := by unfold nxt; rw [hG]; omega
  funext j
  unfold mkst
  rw [if_neg (fun z => h25 z.1), if_neg (fun z => hg z.1), hn, if_neg (by omega)]
theorem mk_25 {x : Dt} {T j : Nat} (hG : x GH 0 = (T : Int) + 1) (hT : T ≤ 4) (hj : j ≠ 6) : mkst x 25 j = x 25 j := by
  have hn : nxt x = 79 + 7 * (T + 1) := by unfold nxt; rw [hG]; omega
  unfold mkst
  rw [if_neg (fun z => hj z.2), if_neg (fun z => absurd z.1 (by decide)), hn, if_neg (by omega)]
theorem mk_6 {x : Dt} {T : Nat} (hG : x GH 0 = (T : Int) + 1) : mkst x 25 6 = 79 + 7 * ((T + 1 : Nat) : Int) ∧ mkst x GH 0 = ((T + 1 : Nat) : Int) + 1 := by
  have hn : nxt x = 79 + 7 * (T + 1) := by unfold nxt; rw [hG]; omega
  refine ⟨?_, ?_⟩
  · unfold mkst; rw [if_pos ⟨rfl, rfl⟩, hn]; omega
  · unfold mkst; rw [if_neg (fun z => absurd z.1 (by decide)), if_pos ⟨rfl, rfl⟩, hG]; omega
