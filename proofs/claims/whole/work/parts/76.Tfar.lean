/-! T_far -/
theorem nmA1 {p : Int} (d : Dt) (hp : c64 p) (h : isNm p) : L_PB_isName p d = some (1, d) := by
  rw [e_PB_isName p d hp, if_pos ((isNm_A hp).2 h)]
theorem nmA0 {p : Int} (d : Dt) (hp : c64 p) (h : ¬ isNm p) : L_PB_isName p d = some (0, d) := by
  rw [e_PB_isName p d hp, if_neg (fun q => h ((isNm_A hp).1 q))]
theorem nmB1 {p : Int} (d : Dt) (hp : c64 p) (h : isNm p) : L_Mo_isName p d = some (1, d) := by
  unfold isNm at h; rw [e_Mo_isName p d hp, if_pos h]
theorem nmB0 {p : Int} (d : Dt) (hp : c64 p) (h : ¬ isNm p) : L_Mo_isName p d = some (0, d) := by
  unfold isNm at h; rw [e_Mo_isName p d hp, if_neg h]
theorem T_far {p1 p2 : Int} {dA dB : Dt} (k1 : c64 p1) (k2 : c64 p2) : ∃ (r : Int) (dA' dB' : Dt), L_PB_far p1 p2 dA = some (r, dA') ∧ L_Mo_far p1 p2 dB = some (r, dB') ∧ RS dA' dB' := by
  unfold L_PB_far L_Mo_far L_PB_far_b20 L_Mo_far_b27
  by_cases h1 : isNm p1
  · by_cases h2 : isNm p2
    · obtain ⟨eA, a1, a2⟩ := farA 1 (p1 := p1) (p2 := p2) ⟨by have := h1.1; omega, h1.2.1⟩ ⟨by have := h2.1; omega, h2.2.1⟩ (up2 dA 0 0 0)
      obtain ⟨eB, b1, b2⟩ := farB (p1 := p1) (p2 := p2) ⟨by have := h1.1; omega, h1.2.1⟩ ⟨by have := h2.1; omega, h2.2.1⟩ dB
      simp only [nmA1 _ k1 h1, nmA1 _ k2 h2, nmB1 _ k1 h1, nmB1 _ k2 h2, bd_s, i10, if_true, if_false, a1, b1, e_giv]
      refine ⟨_, _, _, rfl, rfl, ?_⟩
      unfold RS
      rw [a2 0 (by decide), up2_s, up2_s]
    · simp only [nmA1 _ k1 h1, nmA0 _ k2 h2, nmB1 _ k1 h1, nmB0 _ k2 h2, bd_s, i10, if_true, if_false, e_ref]
      exact ⟨_, _, _, rfl, rfl, RS.of⟩
  · simp only [nmA0 _ k1 h1, nmB0 _ k1 h1, bd_s, i10, if_true, if_false, e_ref]
    exact ⟨_, _, _, rfl, rfl, RS.of⟩
