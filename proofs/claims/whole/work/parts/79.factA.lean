/-! FACTS: the class -/
theorem tellLand_e {dA dB : Dt} (hR : RR dA dB) (arr len : Nat) (hl : 3 ≤ len) (p day : Int) (hd : 0 ≤ day ∧ day ≤ 9999) : L_Re_tellLand arr len p day dA = some ((fBits dB p day (dB 0 8).toNat : Int), up2 (up2 (up2 dA arr 0 (fLand dB p day (dB 0 8).toNat)) arr 1 (fMany dB p day (dB 0 8).toNat)) arr 2 (fHeld dB p day (dB 0 8).toNat)) := by
  obtain ⟨r1, r2, r3, r4, r5, r6, r7, r8⟩ := id hR
  have e := lp_seq (f := fun q : Int × Int × Int × Int × Int × Int × Int × Dt => L_Re_tellLand_y15 arr len q.1 q.2.1 q.2.2.1 q.2.2.2.1 q.2.2.2.2.1 q.2.2.2.2.2.1 q.2.2.2.2.2.2.1 q.2.2.2.2.2.2.2) (fun i => (p, day, fLand dB p day i, fHeld dB p day i, fMany dB p day i, (fBits dB p day i : Int), (i : Int), dA)) (dB 0 8).toNat (r := (fLand dB p day (dB 0 8).toNat, fHeld dB p day (dB 0 8).toNat, fMany dB p day (dB 0 8).toNat, (fBits dB p day (dB 0 8).toNat : Int), dA))
    (by
      intro i hi
      obtain ⟨a1, a2, a3, a4, a5, a6, b1, b2, b3, b4, b5, b6⟩ := r6 i (by omega)
      have hck : (0 : Int) ≤ (i : Int) ∧ (i : Int) < 80 := by omega
      have hlt : (i : Int) < dB 0 8 := by omega
      have g1 := fLand_b dB p day i (fun j hj => by have := r6 j (by omega); omega)
      have g2 := fMany_b dB p day i
      have g3 := fHeld_b dB p day hd i (fun j hj => by have := r6 j (by omega); omega)
      have g4 := fBits_b dB p day i (fun j hj => by have := r6 j (by omega); omega)
      have s1 : lor (fBits dB p day i : Int) (lshl 1 (dB 11 i)) = ((fBits dB p day i ||| 2 ^ (dB 11 i).toNat : Nat) : Int) := by
        have q : dB 11 i = (((dB 11 i).toNat : Nat) : Int) := by omega
        have q2 : 2 ^ (dB 11 i).toNat < 2 ^ 40 := Nat.pow_lt_pow_right (by decide) (by omega)
        rw [q, lshl1 _ (by omega), lor_n _ _ (by omega) (by omega), tn_i]
      dsimp only
      unfold L_Re_tellLand_y15 L_Re_tellLand_b118
      simp only [tn_i, r1, r3.1, a1, a2, a3, a4, a5, a6, lt_, ck_pos hck, if_pos hlt, fLand, fMany, fHeld, fBits, w32_i (show i < 2147483647 by omega), s1, jmaxl_e]
      by_cases hC : dB 10 i = p ∧ dB 13 i ≤ day ∧ day ≤ dB 14 i ∧ dB 15 i ≤ dB 0 12
      · simp only [if_pos hC, if_pos hC.1, if_neg (show ¬ day < dB 13 i by omega), if_neg (show ¬ dB 14 i < day by omega), if_neg (show ¬ dB 0 12 < dB 15 i by omega), w64_s (x := fLand dB p day i + dB 12 i) (by omega) (by omega), w32_s (x := fMany dB p day i + 1) (by omega) (by omega), w32_s (x := day - dB 13 i) (by omega) (by omega)]
      · simp only [if_neg hC]
        repeat' split
        all_goals first | rfl | (exfalso; omega))
    (by
      dsimp only
      unfold L_Re_tellLand_y15
      rw [r3.1, if_neg (by omega)]) (by omega)
  unfold L_Re_tellLand L_Re_tellLand_l15
  have e' := e
  simp only [fLand, fMany, fHeld, fBits] at e'
  show lb (lpF _ FU (p, day, 0, 0, 0, 0, 0, dA)) _ = _
  rw [show lpF (fun q : Int × Int × Int × Int × Int × Int × Int × Dt => L_Re_tellLand_y15 arr len q.1 q.2.1 q.2.2.1 q.2.2.2.1 q.2.2.2.2.1 q.2.2.2.2.2.1 q.2.2.2.2.2.2.1 q.2.2.2.2.2.2.2) FU (p, day, 0, 0, 0, 0, 0, dA) = _ from e, lb_s]
  dsimp only [u4]
  rw [ck_pos ⟨by omega, by omega⟩, ck_pos ⟨by omega, by omega⟩, ck_pos ⟨by omega, by omega⟩]
