/-! turns: the reference, and both -/
theorem turnsB_e {dA dB d : Dt} (hB : RB dA dB) (hG : RG dA dB) (hV : RV dA dB) (hd : Rd dB d) (x : Nat) (hx : x < 4) (what : Int) : ∃ d', L_Mo_turns_l37 (x : Int) what (-1) 0 0 0 d = some (what, tF dB x (2 ^ (dB 0 92).toNat), tR dB x (2 ^ (dB 0 92).toNat), tW dB x (2 ^ (dB 0 92).toNat), d') ∧ Rd dB d' := by
  obtain ⟨g1, g2, _⟩ := id hG
  obtain ⟨N, hN⟩ : ∃ N : Nat, dB 0 92 = (N : Int) := ⟨(dB 0 92).toNat, by omega⟩
  have hN10 : 2 ^ N ≤ 1024 := gr1024 N (by omega)
  have hNt : (dB 0 92).toNat = N := by omega
  rw [hNt]
  obtain ⟨d', e1, e2⟩ := lp_inv (f := fun q : Int × Int × Int × Int × Int × Int × Dt => L_Mo_turns_y37 q.1 q.2.1 q.2.2.1 q.2.2.2.1 q.2.2.2.2.1 q.2.2.2.2.2.1 q.2.2.2.2.2.2) (fun s y => ((x : Int), what, tF dB x s, tR dB x s, tW dB x s, (s : Int), y)) (fun y => (what, tF dB x (2 ^ N), tR dB x (2 ^ N), tW dB x (2 ^ N), y))
    (fun _ y => Rd dB y) (2 ^ N)
    (by
      intro s y hs hy
      have hb := bk_b 10 s
      have htb := tF_b dB x s
      have htr := tR_b dB x s
      have skip : ∀ y', Rd dB y' → (¬ okB dB x s = true ∨ (¬ tF dB x s = -1 ∧ tF dB x s < (bk 10 s : Int))) → ∃ d', L_Mo_turns_b122 (x : Int) what (tF dB x s) (tR dB x s) (tW dB x s) (s : Int) y' = some (Sum.inl ((x : Int), what, tF dB x (s + 1), tR dB x (s + 1), tW dB x (s + 1), ((s + 1 : Nat) : Int), d')) ∧ Rd dB d' := by
        intro y' l2 l3
        have n1 : ¬ (okB dB x s = true ∧ (tF dB x s = -1 ∨ (bk 10 s : Int) < tF dB x s)) := by
          rintro ⟨q1, q2⟩
          rcases l3 with l3 | l3
          · exact l3 q1
          · omega
        have n2 : ¬ (okB dB x s = true ∧ (bk 10 s : Int) = tF dB x s) := by
          rintro ⟨q1, q2⟩
          rcases l3 with l3 | l3
          · exact l3 q1
          · omega
        have m1 : tF dB x (s + 1) = tF dB x s := by simp only [tF]; rw [if_neg n1]
        have m2 : tR dB x (s + 1) = tR dB x s := by simp only [tR]; rw [if_neg n1, if_neg n2]
        have m3 : tW dB x (s + 1) = tW dB x s := by simp only [tW]; rw [if_neg n1]
        unfold L_Mo_turns_b122
        rw [w32_i (show s < 2147483647 by omega), m1, m2, m3]
        exact ⟨_, rfl, l2⟩
      have b62 : (tF dB x s = -1 ∨ (bk 10 s : Int) ≤ tF dB x s) → ∃ d', L_Mo_turns_b62 (x : Int) what (tF dB x s) (tR dB x s) (tW dB x s) (s : Int) y = some (Sum.inl ((x : Int), what, tF dB x (s + 1), tR dB x (s + 1), tW dB x (s + 1), ((s + 1 : Nat) : Int), d')) ∧ Rd dB d' := by
        intro hle
        unfold L_Mo_turns_b62
        obtain ⟨r, c1, c2⟩ := canBe_Be hG hy.1 (s : Int)
        rw [c1, bd_e]
        rcases c2 with ⟨rfl, g, hg1, hg2⟩ | ⟨rfl, c3⟩
        · rw [if_pos rfl]
          exact skip y hy (Or.inl (fun q => ((okB_e dB x s).1 q).1 g hg1 hg2))
        · obtain ⟨z, b1, b2, b3⟩ := cwB_e hB hG hV hy (s : Int)
          rw [if_neg (by decide), b1, bd_e, ahead_e x hx, bd_e, rk_cg (z 64) (fun c => gV dB (s : Int) c (dB 0 92).toNat) x 4 b3 (b3 x hx)]
          by_cases q2 : rk (fun c => gV dB (s : Int) c (dB 0 92).toNat) x 4 < 2
          · rw [if_neg (by omega)]
            have hok : okB dB x s = true := (okB_e dB x s).2 ⟨c3, q2⟩
            have new : (tF dB x s = -1 ∨ (bk 10 s : Int) < tF dB x s) → ∃ d', L_Mo_turns_b106 (x : Int) what (s : Int) z = some (Sum.inl ((x : Int), what, tF dB x (s + 1), tR dB x (s + 1), tW dB x (s + 1), ((s + 1 : Nat) : Int), d')) ∧ Rd dB d' := by
              intro p1
              have m1 : tF dB x (s + 1) = (bk 10 s : Int) := by simp only [tF]; rw [if_pos ⟨hok, p1⟩]
              have m2 : tR dB x (s + 1) = 1 := by simp only [tR]; rw [if_pos ⟨hok, p1⟩]
              have m3 : tW dB x (s + 1) = (s : Int) := by simp only [tW]; rw [if_pos ⟨hok, p1⟩]
              unfold L_Mo_turns_b106 L_Mo_turns_b119 L_Mo_turns_b122
              rw [bits_e s (by omega), bd_e, w32_i (show s < 2147483647 by omega), w32_s (x := 0 + 1) (by decide) (by decide), m1, m2, m3]
              exact ⟨_, rfl, hy.s64 b2⟩
            by_cases q4 : tF dB x s = -1
            · rw [if_pos q4]; exact new (Or.inl q4)
            · rw [if_neg q4, bits_e s (by omega), bd_e]
              by_cases q5 : (bk 10 s : Int) < tF dB x s
              · rw [if_pos q5]; exact new (Or.inr q5)
              · rw [if_neg q5]
                have p2 : (bk 10 s : Int) = tF dB x s := by omega
                have n1 : ¬ (okB dB x s = true ∧ (tF dB x s = -1 ∨ (bk 10 s : Int) < tF dB x s)) := by rintro ⟨_, q⟩; omega
                have m1 : tF dB x (s + 1) = tF dB x s := by simp only [tF]; rw [if_neg n1]
                have m2 : tR dB x (s + 1) = tR dB x s + 1 := by simp only [tR]; rw [if_neg n1, if_pos ⟨hok, p2⟩]
                have m3 : tW dB x (s + 1) = tW dB x s := by simp only [tW]; rw [if_neg n1]
                unfold L_Mo_turns_b119 L_Mo_turns_b122
                rw [w32_i (show s < 2147483647 by omega), w32_s (x := tR dB x s + 1) (by omega) (by omega), m1, m2, m3]
                exact ⟨_, rfl, hy.s64 b2⟩
          · rw [if_pos (by omega)]
            exact skip z (hy.s64 b2) (Or.inl (fun q => q2 ((okB_e dB x s).1 q).2))
      dsimp only
      unfold L_Mo_turns_y37
      rw [hy.1.2 92 (by decide), hN, ishl1 N (by omega), if_pos (by omega)]
      by_cases q4 : tF dB x s = -1
      · rw [if_pos q4]; exact b62 (Or.inl q4)
      · rw [if_neg q4, bits_e s (by omega), bd_e]
        by_cases q5 : tF dB x s < (bk 10 s : Int)
        · rw [if_pos q5]; exact skip y hy (Or.inr ⟨q4, q5⟩)
        · rw [if_neg q5]; exact b62 (Or.inr (by omega)))
    (by
      intro y hy
      dsimp only
      unfold L_Mo_turns_y37
      rw [hy.1.2 92 (by decide), hN, ishl1 N (by omega), if_neg (by omega)]) (by omega) d hd
  exact ⟨d', e1, e2⟩
theorem T_turns {p1 p2 : Int} {dA dB : Dt} (hB : RB dA dB) (hC : RC dA dB) (hM : RM dA dB) (hG : RG dA dB) (hV : RV dA dB) : ∃ (r : Int) (dA' dB' : Dt), L_PB_turns p1 p2 dA = some (r, dA') ∧ L_Mo_turns p1 p2 dB = some (r, dB') ∧ RS dA' dB' ∧ RM dA' dB' ∧ dA' 58 5 = dA 58 5 := by
  have bad : ∃ (r : Int) (dA' dB' : Dt), L_PB_turns_b24 p1 p2 0 dA = some (r, dA') ∧ L_Mo_turns_b16 dB = some (r, dB') ∧ RS dA' dB' ∧ RM dA' dB' ∧ dA' 58 5 = dA 58 5 := by
    unfold L_PB_turns_b24 L_PB_turns_b45 L_PB_turns_b67 L_Mo_turns_b16
    simp only [i10, if_true, if_false, e_ref, bd_e]
    exact ⟨_, _, _, rfl, rfl, RS.of, RMup hM 1 1, by rw [up2_K _ _ _ (by decide)]⟩
  unfold L_PB_turns L_Mo_turns
  simp only [e_PB_isCandidate, e_Mo_isCandidate, bd_e]
  by_cases c0 : 0 ≤ p1 ∧ p1 ≤ 3
  · simp only [if_pos c0, if_pos (show 0 ≤ p1 ∧ p1 < 4 by omega), i10, if_false, within_e, bd_e]
    by_cases c1 : 0 ≤ p2 ∧ p2 ≤ 2
    · obtain ⟨x, rfl⟩ : ∃ x : Nat, p1 = (x : Int) := ⟨p1.toNat, by omega⟩
      obtain ⟨y, a1, a2, a3, a4, a5⟩ := search_e hB hC hM hG hV x (by omega)
      obtain ⟨u, k1, k2⟩ := readW_e hB (Core.rf dB)
      obtain ⟨w, m1, m2⟩ := turnsB_e hB hG hV k2 x (by omega) p2
      have fin : ∀ v : Int, RM (up2 y 0 0 v) (up2 w 0 0 v) ∧ up2 y 0 0 v 58 5 = dA 58 5 := fun v => ⟨(a4.cgA (by rw [up2_K _ _ _ (by decide)]) (fun k h1 h2 => up2_K _ _ _ (by omega))).cgB (m2.1.bk.up 0 v), by rw [up2_K _ _ _ (by decide)]; exact a3⟩
      unfold L_PB_turns_b24
      simp only [if_pos c1, if_neg (show ¬ p2 < 0 by omega), if_neg (show ¬ 2 < p2 by omega), i10, if_false, bd_e, k1, m1, lb_e, u4_q, a1, e_ref]
      unfold L_PB_turns_b45 L_PB_turns_b67 L_Mo_turns_b161 L_Gr_fewest L_Gr_rivals L_Gr_first
      by_cases q : tF dB x (2 ^ (dB 0 92).toNat) = -1
      · simp only [if_pos q, i10, i60, if_true, if_false]
        exact ⟨_, _, _, rfl, rfl, RS.of, fin 6⟩
      · obtain ⟨r1, r2, r3⟩ := a5 q
        have s1 : up2 y 0 0 0 58 8 = tF dB x (2 ^ (dB 0 92).toNat) := by rw [up2_K _ _ _ (by decide)]; exact r1
        have s2 : up2 y 0 0 0 58 9 = tR dB x (2 ^ (dB 0 92).toNat) := by rw [up2_K _ _ _ (by decide)]; exact r2
        have s3 : up2 y 0 0 0 58 10 = tW dB x (2 ^ (dB 0 92).toNat) := by rw [up2_K _ _ _ (by decide)]; exact r3
        simp only [if_neg q, i10, if_true, if_false, bd_e, e_giv, s1, s2, s3]
        by_cases q2 : p2 = 0
        · simp only [if_pos q2]
          exact ⟨_, _, _, rfl, rfl, RS.of, fin 0⟩
        · simp only [if_neg q2]
          by_cases q3 : p2 = 1
          · simp only [if_pos q3]
            exact ⟨_, _, _, rfl, rfl, RS.of, fin 0⟩
          · simp only [if_neg q3]
            exact ⟨_, _, _, rfl, rfl, RS.of, fin 0⟩
    · simp only [if_neg c1, if_true]
      by_cases c2 : p2 < 0
      · simp only [if_pos c2]; exact bad
      · simp only [if_neg c2, if_pos (show 2 < p2 by omega)]; exact bad
  · simp only [if_neg c0, if_neg (show ¬ (0 ≤ p1 ∧ p1 < 4) by omega), if_true]; exact bad
