/-! coaches -/
theorem ldB_1 (rs : Nat → Int) (q : Nat) : ∀ n : Nat, ldB rs (2 ^ q) n = if q < n then rs q else 0
  | 0 => by simp only [ldB]; rw [if_neg (by omega)]
  | n + 1 => by
    have ih := ldB_1 rs q n
    simp only [ldB]
    rw [ih, Nat.testBit_two_pow]
    by_cases e : q = n
    · subst e; rw [if_neg (by omega), if_pos (decide_eq_true rfl), if_pos (by omega)]; omega
    · rw [decide_eq_false e, if_neg (show ¬ false = true by decide)]
      by_cases e2 : q < n
      · rw [if_pos e2, if_pos (by omega)]; omega
      · rw [if_neg e2, if_neg (by omega)]; omega
theorem sendsA {d : Dt} (w : Nat → Int) (room : Int) (home : Nat) (hh : home < 7) (h73 : ∀ p, p < 7 → d 73 p = w p) (hw : ∀ p, p < 7 → 0 ≤ w p ∧ w p ≤ 100) (hw0 : w home = 0) (hr : 1 ≤ room ∧ room ≤ 20) (hmi : ∀ q, q < 49 → 0 ≤ d 72 q ∧ d 72 q ≤ 1000) : ∃ x z : Dt, (∀ S l, 1 ≤ S → S < 2 ^ cF (FFs w room) 7 → l < cF (FFs w room) 7 → S.testBit l = true → tabO x (cF (FFs w room) 7) home (aF (FFs w room) 7) (d 72) S l) ∧ z 78 0 = 0 ∧ (∀ S, 1 ≤ S → S < 2 ^ cF (FFs w room) 7 → EqC z (fun T => ldA (aF (FFs w room) 7) (rst w room) T (cF (FFs w room) 7)) (trA x (cF (FFs w room) 7) home (aF (FFs w room) 7) (d 72)) room S) ∧ L_Ro_send (home : Int) room d = some (w32 (alS (d 72) w room home 7 + idiv (z 78 (2 ^ cF (FFs w room) 7 - 1)) 64), up2 z 71 8 (w32 (mnS w room 7 + irem (z 78 (2 ^ cF (FFs w room) 7 - 1)) 64))) ∧ ∀ k, k < 71 ∨ 79 ≤ k ∨ k = 72 → z k = d k := by
  obtain ⟨F, hF⟩ : ∃ F, F = FFs w room := ⟨_, rfl⟩
  have hFh : F home = false := by
    rw [hF]; unfold FFs rst ful
    rw [hw0, if_neg (by omega)]; exact decide_eq_false (by omega)
  have hK : cF F 7 ≤ 6 := by have := cF_skip F home hFh 7 hh; omega
  obtain ⟨d1, a1, a2, a3, a4, a5, a6⟩ := sendA_e w room home hh h73 hw hw0 hr hmi
  rw [← hF] at a4 a5 ⊢
  have hb : BC (cF F 7) (aF F 7) (rst w room) (d 72) := ⟨hK, fun i hi => aF_lt F 7 i hi, fun p hp => by have := (ful_b w room p (hw p hp) hr).2.2; omega, hmi⟩
  have hA1 : AC d1 (cF F 7) (aF F 7) (rst w room) (d 72) := ⟨a4, a5, a6, a2 72 (by decide) (by decide) (by decide)⟩
  obtain ⟨d2, b1, b2, b3⟩ := loads_e hA1 hb
  have hA2 : AC d2 (cF F 7) (aF F 7) (rst w room) (d 72) := hA1.cg (fun k h1 h2 => b2 k (by omega))
  obtain ⟨d3, c1, c2, c3⟩ := outward_e hA2 hb hh
  have hA3 : AC d3 (cF F 7) (aF F 7) (rst w room) (d 72) := hA2.cg (fun k h1 h2 => c2 k (by omega))
  obtain ⟨d4, e1, e2, e3⟩ := tours_e hA3 hb hh c3
  have hA4 : AC d4 (cF F 7) (aF F 7) (rst w room) (d 72) := hA3.cg (fun k h1 h2 => e2 k (by omega))
  obtain ⟨d5, g1, g2, g3, g4, g5⟩ := share_e (d := d4) (K := cF F 7) (fun T => ldA (aF F 7) (rst w room) T (cF F 7)) (trA d3 (cF F 7) home (aF F 7) (d 72)) room hK hA4.1 (fun S hS => by rw [e2 75 (by decide), c2 75 (by decide)]; exact b3 S hS) (fun S h1 h2 => ⟨e3 S h1 h2, trA_b d3 (cF F 7) home (aF F 7) (rst w room) (d 72) hb hh S (fun l hl hbit => (c3 S l h1 h2 hl hbit).2.1)⟩)
  refine ⟨d3, d5, c3, g3, g5, ?_, ?_⟩
  · unfold L_Ro_send
    rw [a1, lb_e, u4_q, b1, bd_e, c1, bd_e, e1, bd_e, g1, bd_e]
  · intro k hk
    rw [g2 k (by omega), e2 k (by omega), c2 k (by omega), b2 k (by omega), a2 k (by omega) (by omega) (by omega)]
theorem T_coaches {p1 p2 p3 : Int} {dA dB : Dt} (hT : RT dA dB) (hO : RO dA dB) : ∃ (r : Int) (dA' dB' : Dt), L_PB_coaches p1 p2 p3 dA = some (r, dA') ∧ L_Mo_coaches p1 p2 p3 dB = some (r, dB') ∧ RS dA' dB' ∧ RO dA' dB' := by
  have keep : ∀ v : Int, RO (up2 dA 0 0 v) (up2 dB 0 0 v) := by
    intro v
    unfold RO at hO ⊢; simp (disch := decide) only [up2_j, up2_K]; exact hO
  have bad : ∃ (r : Int) (dA' dB' : Dt), (some ((-1), (up2 dA 0 0 1)) : Option (Int × Dt)) = some (r, dA') ∧ L_Mo_coaches_b25 dB = some (r, dB') ∧ RS dA' dB' ∧ RO dA' dB' := by
    unfold L_Mo_coaches_b25
    simp only [e_ref, bd_e]
    exact ⟨_, _, _, rfl, rfl, RS.of, keep 1⟩
  unfold L_PB_coaches L_PB_coachStatus L_Mo_coaches
  simp only [e_PB_isPlace, e_Mo_isPlace, bd_e]
  rcases (Classical.em (0 ≤ p1 ∧ p1 ≤ 6)).symm with c0 | c0
  · simp only [if_neg c0, if_neg (show ¬ (0 ≤ p1 ∧ p1 < 7) by omega), if_true, bd_e, i10, if_false]; exact bad
  simp only [if_pos c0, if_pos (show 0 ≤ p1 ∧ p1 < 7 by omega), i10, if_false, canBe_e, isTray_e, bd_e]
  rcases (Classical.em (0 ≤ p2 ∧ p2 < 4)).symm with c1 | c1
  · simp only [if_neg c1, if_true, bd_e, i10, if_false]; exact bad
  simp only [if_pos c1, i10, if_false, within_e, bd_e]
  rcases (Classical.em (1 ≤ p3 ∧ p3 ≤ 20)).symm with c2 | c2
  · simp only [if_neg c2, if_true, bd_e, i10, if_false]
    by_cases q : p3 < 1
    · simp only [if_pos q]; exact bad
    · simp only [if_neg q, if_pos (show 20 < p3 by omega)]; exact bad
  obtain ⟨tray, rfl⟩ : ∃ t : Nat, p2 = (t : Int) := ⟨p2.toNat, by omega⟩
  obtain ⟨home, rfl⟩ : ∃ t : Nat, p1 = (t : Int) := ⟨p1.toNat, by omega⟩
  obtain ⟨s1, s2, s3, s4, s5, s6⟩ := hT.1 tray (by omega)
  unfold L_Tr_isThere
  simp only [if_pos c2, i10, if_false, if_neg (show ¬ p3 < 1 by omega), if_neg (show ¬ 20 < p3 by omega), tn_i, ck_pos (show (0 : Int) ≤ (tray : Int) ∧ (tray : Int) < 4 by omega), s2]
  by_cases c3 : dB 2 tray = -1
  · simp only [if_pos c3, bd_e, if_true, i20, if_false, e_ref]
    exact ⟨_, _, _, rfl, rfl, RS.of, keep 2⟩
  unfold L_Tr_reaches
  simp only [if_neg c3, bd_e, i10, if_false, tn_i, ck_pos (show (0 : Int) ≤ (tray : Int) ∧ (tray : Int) < 4 by omega), s2, if_neg (show ¬ (0 : Int) < 0 by decide), w64_s (x := 0 + 7) (by decide) (by decide)]
  by_cases c4 : dB 2 tray < 7
  · simp only [if_pos c4, if_pos (show dB 2 tray < 0 + 7 by omega), bd_e, if_true, i30, if_false, e_ref]
    exact ⟨_, _, _, rfl, rfl, RS.of, keep 3⟩
  simp only [if_neg c4, if_neg (show ¬ dB 2 tray < 0 + 7 by omega), bd_e, i10, if_false]
  have h43 : ∀ p, p < 7 → dA 4 (tray * 60 + p) = dB 3 (tray * 60 + p) := fun p hp => hT.2 _ (by omega)
  obtain ⟨ra, ta1, ta2⟩ := statA (d := dA) tray (by omega)
  obtain ⟨rb, tb1, tb2⟩ := statB (d := dB) tray (home : Int) p3 (by omega)
  rw [ta1, tb1, lb_e, lb_e]
  rcases ta2.symm with ⟨rfl, p, g1, g2⟩ | ⟨rfl, g⟩
  · rcases tb2 with ⟨rfl, k⟩ | ⟨rfl, _⟩
    · exact absurd (by rw [h43 p g1]; exact k p g1) g2
    · unfold L_Mo_coaches_b110
      simp only [smr_, u0_q, bd_e, i10, if_false, e_ref]
      exact ⟨_, _, _, rfl, rfl, RS.of, keep 1⟩
  rcases tb2.symm with ⟨rfl, p, k1, k2⟩ | ⟨rfl, k⟩
  · exact absurd (by rw [← h43 p k1]; exact g p k1) k2
  have hmi : ∀ q, q < 49 → 0 ≤ dB 75 q ∧ dB 75 q ≤ 1000 := fun q hq => (hO.2 q hq).2
  have hmA : ∀ q, q < 49 → dA 72 q = dB 75 q := fun q hq => (hO.2 q hq).1
  obtain ⟨dW, w1, w2, w3⟩ := waitA_e (d := up2 dA 0 0 0) (dB 3) home tray p3 (by omega) (by omega) (fun p hp => by rw [up2_K _ _ _ (by decide)]; exact ⟨h43 p hp, k p hp⟩)
  obtain ⟨w, hw⟩ : ∃ w, w = wtW (dB 3) tray home := ⟨_, rfl⟩
  rw [← hw] at w3
  have hwb : ∀ p, p < 7 → 0 ≤ w p ∧ w p ≤ 100 := by
    intro p hp
    have := k p hp
    rw [hw]; unfold wtW; split <;> omega
  have hw0 : w home = 0 := by rw [hw]; unfold wtW; rw [if_pos rfl]
  have h72 : dW 72 = dA 72 := by rw [w2 72 (by decide), up2_K _ _ _ (by decide)]
  obtain ⟨x, z, x1, x2, x3, x4, x5⟩ := sendsA (d := dW) w p3 home (by omega) w3 hwb hw0 c2 (fun q hq => by rw [h72, hmA q hq]; exact hmi q hq)
  obtain ⟨b1, e1, e2, e3⟩ := leaveB_e (d := dB) p3 home tray (by omega) (by omega) k c2 hmi
  rw [← hw] at e1 e3
  obtain ⟨b2, e4, e5, e6, e7⟩ := walk_e (d := b1) (home := home) (mi := dB 75) (by omega) hmi (e2 75 (by decide))
  obtain ⟨F, hF⟩ : ∃ F, F = FFs w p3 := ⟨_, rfl⟩
  rw [← hF] at x1 x3 x4 e1
  have hFh : F home = false := by
    rw [hF]; unfold FFs rst ful
    rw [hw0, if_neg (by omega)]; exact decide_eq_false (by omega)
  have hK : cF F 7 ≤ 6 := by have := cF_skip F home hFh 7 (by omega); omega
  have h64 := p64 _ hK
  have hp0 : 0 < 2 ^ cF F 7 := Nat.two_pow_pos _
  have hrs : ∀ p, p < 7 → 0 ≤ rst w p3 p ∧ rst w p3 p ≤ p3 := fun p hp => (ful_b w p3 p (hwb p hp) c2).2.2
  have hb : BC (cF F 7) (aF F 7) (rst w p3) (dW 72) := ⟨hK, fun i hi => aF_lt F 7 i hi, fun p hp => by have := hrs p hp; omega, fun q hq => by rw [h72, hmA q hq]; exact hmi q hq⟩
  have hm : ∀ q, q < 49 → dW 72 q = dB 75 q := fun q hq => by rw [h72]; exact hmA q hq
  obtain ⟨b3, hb3⟩ : ∃ b, b = up2 (up2 b2 79 0 0) 80 0 0 := ⟨_, rfl⟩
  have b3k : ∀ k, k ≠ 79 → k ≠ 80 → b3 k = b2 k := fun k h1 h2 => by rw [hb3, up2_K _ _ _ h2, up2_K _ _ _ h1]
  have b3k2 : ∀ k, k ≠ 76 → k ≠ 77 → k ≠ 78 → k ≠ 79 → k ≠ 80 → b3 k = dB k := fun k h1 h2 h3 h4 h5 => by rw [b3k k h4 h5, e5 k h2 h3, e2 k h1]
  have te := fun T (h1 : 1 ≤ T) (h2 : T < 2 ^ cF F 7) => tours_eq (rs := rst w p3) hK (show home < 7 by omega) hFh hb hm x1 e6 T h1 h2
  have tn := fun T (h1 : 1 ≤ T) (h2 : T < 2 ^ cF F 7) => (trA_b x (cF F 7) home (aF F 7) (rst w p3) (dW 72) hb (by omega) T (fun l hl hbit => (x1 T l h1 h2 hl hbit).2.1)).1
  have hset := stF_b F 7
  have hsing : ∀ s, s ≠ 0 → s < 128 → s &&& stF F 7 = s → okT (fun T => ldB (rst w p3) T 7) p3 s (2 ^ lowI 7 s) = true := by
    intro s h0 h1 h2
    obtain ⟨o1, o2, o3⟩ := one_vis s h0 h1
    unfold okT
    rw [Nat.testBit_two_pow, decide_eq_true rfl, Bool.true_and]
    refine decide_eq_true ?_
    show ldB (rst w p3) (2 ^ lowI 7 s) 7 ≤ p3
    rw [ldB_1, if_pos o2]
    exact (hrs _ o2).2
  obtain ⟨y, f1, f2, f3, f4, f5, f6⟩ := shareB_e (d := b3) (fun T => ldB (rst w p3) T 7) (fun s => rdB b2 home (dB 75) s 7) (rst w p3) p3 (alS (dB 75) w p3 home 7) (mnS w p3 7) (stF F 7) hset (fun p hp => by rw [b3k 76 (by decide) (by decide), e5 76 (by decide) (by decide)]; have := hrs p hp; exact ⟨e3 p hp, by omega, by omega⟩) (fun _ => rfl) (by
      intro T h0 h1 h2
      rw [b3k 78 (by decide) (by decide)]
      refine ⟨e7 T (by omega) h1, ?_⟩
      have hall := sgm_all F
      obtain ⟨U, u1, u2, u3⟩ := sgm_sur F (2 ^ cF F 7 - 1) T hK (by omega) h1 (by rw [hall]; exact h2)
      have hU0 : U ≠ 0 := by intro e; subst e; rw [sgm_0] at u2; exact h0 u2.symm
      obtain ⟨v1, v2⟩ := te U (by omega) u1
      have v3 := tn U (by omega) u1
      rw [u2] at v1
      omega) hsing (by rw [hb3, up2_K _ _ _ (by decide), up2_s]) (by rw [hb3, up2_s])
  have hce := costs_eq (F := F) (z := z) (y := y) (lA := fun T => ldA (aF F 7) (rst w p3) T (cF F 7)) (lB := fun T => ldB (rst w p3) T 7) (tr := trA x (cF F 7) home (aF F 7) (dW 72)) (rd := fun s => rdB b2 home (dB 75) s 7) (room := p3) hK (fun T => sgm_ld F (rst w p3) T 7 (by omega)) (fun T h1 h2 => ⟨(te T h1 h2).1, tn T h1 h2, (te T h1 h2).2⟩) (by
      intro i hi
      have hpi := aF_lt F 7 i hi
      have hpw : 2 ^ i < 2 ^ cF F 7 := Nat.pow_lt_pow_right (by decide) hi
      have hp1 : 0 < 2 ^ i := Nat.two_pow_pos _
      have hbit : (2 ^ i).testBit i = true := by rw [Nat.testBit_two_pow, decide_eq_true rfl]
      obtain ⟨o1, _⟩ := x1 (2 ^ i) i (by omega) hpw hi hbit
      have hd0 : dif (2 ^ i) (2 ^ i) = 0 := (dif0 _ _ (by omega) (by omega)).2 (Nat.and_self _)
      unfold EqO at o1
      have u1 := fm_0 (fun k => (dif (2 ^ i) (2 ^ i)).testBit k) (fun k => x 76 (dif (2 ^ i) (2 ^ i) * 6 + k) + dW 72 (aF F 7 k * 7 + aF F 7 i)) (if dif (2 ^ i) (2 ^ i) = 0 then dW 72 (home * 7 + aF F 7 i) else 1000000) (cF F 7)
      rw [← o1, if_pos hd0] at u1
      have u2 := fm_k (fun l => (2 ^ i).testBit l) (fun l => x 76 (2 ^ i * 6 + l) + dW 72 (aF F 7 l * 7 + home)) 1000000 i hbit (cF F 7) hi
      have m1 := hb.2.2.2 (home * 7 + aF F 7 i) (by omega)
      have m2 := hb.2.2.2 (aF F 7 i * 7 + home) (by omega)
      unfold trA
      omega) x2 x3 ⟨f3, f4⟩ f6 hsing (2 ^ cF F 7 - 1) (by omega)
  rw [sgm_all F] at hce
  obtain ⟨n1, n2, n3, n4⟩ := hce
  have n4' : y 80 (stF F 7) ≤ 63 := by omega
  have n2' : y 79 (stF F 7) ≤ 126000 := by omega
  have d1 : idiv (z 78 (2 ^ cF F 7 - 1)) 64 = y 79 (stF F 7) := by
    rw [n1, idiv_e 64 (by omega) (by omega) (by decide) (by decide)]; omega
  have d2 : irem (z 78 (2 ^ cF F 7 - 1)) 64 = y 80 (stF F 7) := by
    rw [n1, irem_e 64 (by omega) (by omega) (by decide) (by decide)]; omega
  rw [d1, d2, h72, alS_cg (dA 72) (dB 75) w p3 home (by omega) hmA 7 (by omega)] at x4
  simp only [sml_, u0_q, bd_e, if_true, w1, lb_e, u2_q, x4, u3_q, e1, u5_q, e4]
  rw [← hb3, f1, lb_e, u3_q, ck_pos ⟨by omega, by omega⟩, ck_pos ⟨by omega, by omega⟩, tn_i, e_giv, bd_e]
  refine ⟨_, _, _, rfl, rfl, ?_, ?_⟩
  · unfold RS
    rw [up2_K _ _ _ (by decide), x5 0 (by decide), w2 0 (by decide), up2_s, up2_s]
  · unfold RO
    rw [up2_s, up2_j _ _ _ (by decide), up2_s, up2_K _ _ _ (by decide), x5 72 (by decide), h72, up2_K _ _ _ (by decide), up2_K _ _ _ (by decide), f2 75 (by decide) (by decide), b3k2 75 (by decide) (by decide) (by decide) (by decide) (by decide)]
    exact ⟨rfl, hO.2⟩
