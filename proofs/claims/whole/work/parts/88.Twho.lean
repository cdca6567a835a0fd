/-! who, sure -/
theorem wS_cb (d : Dt) (e : Nat) : ∀ n : Nat, nS d e n = 0 ∨ nS d e n = 1
  | 0 => Or.inl rfl
  | n + 1 => by
    have ih := wS_cb d e n
    simp only [nS]
    by_cases h : dB_ d e n < nF d e n
    · rw [if_pos h]; exact Or.inr rfl
    · rw [if_neg h]
      by_cases h2 : dB_ d e n = nF d e n
      · rw [if_pos h2]; exact Or.inl rfl
      · rw [if_neg h2]; exact ih
theorem T_who {p1 : Int} {dA dB : Dt} (hP : RP dA dB) (hH : RH dA dB) (hB : RB dA dB) (hQ : RQ dA dB) (hN : RN dA dB) : ∃ (r : Int) (dA' dB' : Dt), L_PB_who p1 dA = some (r, dA') ∧ L_Mo_who p1 dB = some (r, dB') ∧ RS dA' dB' := by
  obtain ⟨z0, z1, z2⟩ := hB.1 0 (by decide)
  unfold L_PB_who L_Mo_who L_PB_who_b26 L_PB_who_b47
  simp only [e_Bo_has0, e_Mo_isEntry, bd_e, z0]
  by_cases c0 : 0 ≤ p1 ∧ p1 < dB 52 0
  · obtain ⟨e, rfl⟩ : ∃ e : Nat, p1 = (e : Int) := ⟨p1.toNat, by omega⟩
    obtain ⟨x, b1, b2, b3⟩ := whoIs_e hP hH hB hQ (Core.rf dB) e c0.2
    simp only [if_pos c0, i10, if_false, personOf_e hB hQ hN e c0.2, b1, bd_e, e_ref, e_giv]
    by_cases q : wP dB e (dB 0 7).toNat = -1
    · simp only [if_pos q]
      exact ⟨_, _, _, by rw [q], rfl, RS.of⟩
    · simp only [if_neg q]
      exact ⟨_, _, _, rfl, rfl, RS.of⟩
  · simp only [if_neg c0, if_true, e_ref, bd_e]
    exact ⟨_, _, _, rfl, rfl, RS.of⟩
theorem T_sure {p1 p2 : Int} {dA dB : Dt} (hP : RP dA dB) (hH : RH dA dB) (hB : RB dA dB) (hQ : RQ dA dB) (hN : RN dA dB) : ∃ (r : Int) (dA' dB' : Dt), L_PB_sure p1 p2 dA = some (r, dA') ∧ L_Mo_sure p1 p2 dB = some (r, dB') ∧ RS dA' dB' := by
  obtain ⟨z0, z1, z2⟩ := hB.1 0 (by decide)
  have bad : ∃ (r : Int) (dA' dB' : Dt), L_PB_sure_b27 p1 p2 0 dA = some (r, dA') ∧ L_Mo_sure_b17 dB = some (r, dB') ∧ RS dA' dB' := by
    unfold L_PB_sure_b27 L_PB_sure_b55 L_Mo_sure_b17
    simp only [if_true, i10, if_false, e_ref, bd_e]
    exact ⟨_, _, _, rfl, rfl, RS.of⟩
  unfold L_PB_sure L_Mo_sure
  simp only [e_Bo_has0, e_Mo_isEntry, bd_e, z0]
  by_cases c0 : 0 ≤ p1 ∧ p1 < dB 52 0
  · simp only [if_pos c0, i10, if_false, within_e, bd_e]
    by_cases c1 : 0 ≤ p2 ∧ p2 ≤ 1
    · obtain ⟨e, rfl⟩ : ∃ e : Nat, p1 = (e : Int) := ⟨p1.toNat, by omega⟩
      obtain ⟨x, b1, b2, b3⟩ := whoIs_e hP hH hB hQ (Core.rf dB) e c0.2
      obtain ⟨n1, n2, n3⟩ := hN e c0.2
      simp only [if_pos c1, if_neg (show ¬ p2 < 0 by omega), if_neg (show ¬ 1 < p2 by omega), i10, if_false, b1, bd_e, lt_e, b3]
      unfold L_PB_sure_b27 L_PB_sure_b55 L_PB_sure_b90 L_Mo_sure_b74
      simp only [i10, i60, if_false, if_true, personOf_e hB hQ hN e c0.2, bd_e, e_ref, e_giv]
      by_cases q : wP dB e (dB 0 7).toNat = -1
      · simp only [if_pos q]
        exact ⟨_, _, _, rfl, rfl, RS.of⟩
      · simp only [if_neg q]
        have qq : nF dB e (dB 0 7).toNat ≤ dB 0 79 := by
          unfold wP at q
          by_cases h : nF dB e (dB 0 7).toNat ≤ dB 0 79
          · exact h
          · rw [if_neg h] at q; exact absurd rfl q
        by_cases c2 : p2 = 0
        · have hs : wS dB e (dB 0 7).toNat = dA 52 e := by
            unfold wS; rw [if_pos qq, n3 (by have := hQ.2.2; omega)]
          unfold L_Po_isSure L_PB_bit
          simp only [if_pos c2, tn_i, ck_pos (show (0 : Int) ≤ (e : Int) ∧ (e : Int) < 30 by omega), bd_e, up2_K _ _ _ (show (52 : Nat) ≠ 0 by decide), hs]
          by_cases q3 : dA 52 e = 0
          · simp only [if_pos q3, bd_e]
            exact ⟨_, _, _, rfl, rfl, RS.of⟩
          · simp only [if_neg q3, bd_e]
            exact ⟨_, _, _, rfl, rfl, RS.of⟩
        · have hB' : RB (up2 dA 0 0 0) dB := hB.cgA (fun k h1 h2 => up2_K _ _ _ (by omega))
          have hQ' : RQ (up2 dA 0 0 0) dB := by unfold RQ at hQ ⊢; rw [up2_K _ _ _ (by decide)]; exact hQ
          have hN' : RN (up2 dA 0 0 0) dB := by unfold RN at hN ⊢; rw [up2_K _ _ _ (by decide), up2_K _ _ _ (by decide), up2_K _ _ _ (by decide)]; exact hN
          obtain ⟨r, t1, t2⟩ := isTwiceA hB' hQ' hN' e c0.2
          obtain ⟨r2, x2, t3, t4, t5⟩ := isTwiceB hP hH hB hQ b2 e (wP dB e (dB 0 7).toNat) (by omega)
          have hr : r = r2 := by
            rcases t2 with ⟨rfl, q1, q2⟩ | ⟨rfl, q1⟩
            · rcases t5 with ⟨rfl, q3⟩ | ⟨rfl, q3⟩
              · rfl
              · exact absurd q2 q3
            · rcases t5 with ⟨rfl, q3⟩ | ⟨rfl, q3⟩
              · exact absurd ⟨q, q3⟩ q1
              · rfl
          subst hr
          unfold L_PB_bit
          simp only [if_neg c2, t1, t3, bd_e]
          by_cases q3 : r = 0
          · simp only [if_pos q3, bd_e]
            exact ⟨_, _, _, rfl, rfl, RS.of⟩
          · simp only [if_neg q3, bd_e]
            exact ⟨_, _, _, rfl, rfl, RS.of⟩
    · simp only [if_neg c1, if_true]
      by_cases c2 : p2 < 0
      · simp only [if_pos c2]; exact bad
      · simp only [if_neg c2, if_pos (show 1 < p2 by omega)]; exact bad
  · simp only [if_neg c0, if_true]; exact bad
