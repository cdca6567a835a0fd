/-! join, mate, joined, tally -/
def bkE (dB dB' : Dt) : Prop := dB' 52 = dB 52 ∧ dB' 53 = dB 53 ∧ dB' 54 = dB 54 ∧ dB' 55 = dB 55 ∧ dB' 57 = dB 57
theorem Core.bk {dB d : Dt} (h : Core dB d) : bkE dB d := ⟨h.1 52 (by decide) (by decide), h.1 53 (by decide) (by decide), h.1 54 (by decide) (by decide), h.1 55 (by decide) (by decide), h.1 57 (by decide) (by decide)⟩
theorem bkE.up {dB d : Dt} (h : bkE dB d) (j : Nat) (v : Int) : bkE dB (up2 d 0 j v) := by
  unfold bkE at h ⊢
  rw [up2_K _ _ _ (by decide), up2_K _ _ _ (by decide), up2_K _ _ _ (by decide), up2_K _ _ _ (by decide), up2_K _ _ _ (by decide)]
  exact h
theorem cc_cg {dB dB' : Dt} (h : bkE dB dB') (b : Nat) : cc dB' b = cc dB b := by
  obtain ⟨h1, h2, h3, h4, h5⟩ := h
  funext i j
  unfold cc costB
  rw [h2, h3, h4, h5]
theorem mtB_cg {dB dB' : Dt} (h : bkE dB dB') (b i : Nat) : mtB dB' b i = mtB dB b i := by
  unfold mtB; rw [cc_cg h, h.1]
theorem totB_cg {dB dB' : Dt} (h : bkE dB dB') (b : Nat) : totB dB' b = totB dB b := by
  unfold totB; rw [cc_cg h, h.1]
theorem hvF_cg {dB dB' : Dt} (h : bkE dB dB') (e : Nat) : ∀ t : Nat, hvF dB' e t = hvF dB e t
  | 0 => rfl
  | t + 1 => by simp only [hvF, mtB_cg h, hvF_cg h e t]
theorem syF_cg {dB dB' : Dt} (h : bkE dB dB') (e c : Nat) : ∀ t : Nat, syF dB' e c t = syF dB e c t
  | 0 => by simp only [syF, h.2.2.2.1]
  | t + 1 => by simp only [syF, mtB_cg h, h.2.2.2.1, syF_cg h e c t]
theorem maj_cg {dB dB' : Dt} (h : bkE dB dB') (e c : Nat) : maj dB' e c = maj dB e c := by
  unfold maj; rw [hvF_cg h, syF_cg h, h.2.2.2.1]
theorem jn_cg {dB dB' : Dt} (h : bkE dB dB') (e : Nat) : ∀ c : Nat, jn dB' e c = jn dB e c
  | 0 => rfl
  | c + 1 => by simp only [jn, maj_cg h, jn_cg h e c]
theorem sett_cg {dB dB' : Dt} (h : bkE dB dB') (e : Nat) : sett dB' e = sett dB e := jn_cg h e 4
theorem RM.cgB {dA dB dB' : Dt} (hM : RM dA dB) (h : bkE dB dB') : RM dA dB' := by
  unfold RM RMs at hM ⊢
  simp only [h.1, totB_cg h, mtB_cg h, sett_cg h]
  exact hM
theorem RM.cgA {dA dB dA' : Dt} (hM : RM dA dB) (h0 : dA' 37 10 = dA 37 10) (hk : ∀ k, 45 ≤ k → k ≤ 47 → dA' k = dA k) : RM dA' dB := by
  unfold RM RMs at hM ⊢
  rw [h0, hk 45 (by decide) (by decide), hk 46 (by decide) (by decide), hk 47 (by decide) (by decide)]
  exact hM
theorem e_Mo_isOther (p : Int) (d : Dt) : L_Mo_isOther p d = some (if 1 ≤ p ∧ p ≤ 2 then 1 else 0, d) := by
  unfold L_Mo_isOther
  by_cases h : p = 1
  · rw [if_pos h, if_pos (by omega)]
  · rw [if_neg h]
    by_cases h2 : p = 2
    · rw [if_pos h2, if_pos (by omega)]
    · rw [if_neg h2, if_neg (by omega)]
theorem RMup {dA dB : Dt} (hM : RM dA dB) (v w : Int) : RM (up2 dA 0 0 v) (up2 dB 0 0 w) :=
  (hM.cgA (by rw [up2_K _ _ _ (by decide)]) (fun k h1 h2 => up2_K _ _ _ (by omega))).cgB ((Core.rf dB).bk.up 0 w)
theorem st0 {dA dB : Dt} (hB : RB dA dB) (hC : RC dA dB) (hM : RM dA dB) (v : Int) : ∃ d', L_Bo_settle (up2 dA 0 0 v) = some (0, d') ∧ d' 0 0 = v ∧ (∀ k, k ≠ 0 → k ≠ 37 → k ≠ 44 → k ≠ 45 → k ≠ 46 → k ≠ 47 → d' k = dA k) ∧ RMs d' dB := by
  obtain ⟨d', e1, e2, e3, e4⟩ := settle_e (d := up2 dA 0 0 v) (dB := dB) (hB.cgA (fun k h1 h2 => up2_K _ _ _ (by omega))) (hC.cgA (up2_K _ _ _ (by decide))) (hM.cgA (by rw [up2_K _ _ _ (by decide)]) (fun k h1 h2 => up2_K _ _ _ (by omega)))
  refine ⟨d', e1, ?_, ?_, e4⟩
  · rw [e2 0 (by decide) (by decide) (by decide) (by decide) (by decide), up2_s]
  · intro k h0 h1 h2 h3 h4 h5; rw [e2 k h1 h2 h3 h4 h5, up2_K _ _ _ h0]
theorem T_join {p1 : Int} {dA dB : Dt} (hB : RB dA dB) (hC : RC dA dB) (hM : RM dA dB) : ∃ (r : Int) (dA' dB' : Dt), L_PB_join p1 dA = some (r, dA') ∧ L_Mo_join p1 dB = some (r, dB') ∧ RS dA' dB' ∧ RM dA' dB' := by
  unfold L_PB_join L_Mo_join L_PB_join_b18
  simp only [within_e, e_Mo_isOther, bd_e]
  by_cases c0 : 1 ≤ p1 ∧ p1 ≤ 2
  · obtain ⟨b, rfl⟩ : ∃ b : Nat, p1 = ((b + 1 : Nat) : Int) := ⟨(p1 - 1).toNat, by omega⟩
    have hb : b < 2 := by omega
    obtain ⟨z0, z1, z2⟩ := hB.1 0 (by decide)
    obtain ⟨y0, y1, y2⟩ := hB.1 (b + 1) (by omega)
    obtain ⟨d', a1, a2, a3, a4⟩ := st0 hB hC hM 0
    obtain ⟨x, g1, g2, g3, g4⟩ := pairing_e hB (Core.rf dB) b (dB 52 0).toNat (dB 52 (b + 1)).toNat hb (by omega) (by omega)
    unfold L_Bo_totalCost
    simp only [if_pos c0, i10, if_false, if_true, a1, bd_e, tn_i, ck_pos (show (0 : Int) ≤ ((b + 1 : Nat) : Int) ∧ ((b + 1 : Nat) : Int) < 3 by omega), a4.1 b hb, g1, e_giv]
    refine ⟨_, _, _, rfl, rfl, ?_, ?_⟩
    · unfold RS; rw [a2, up2_s]
    · exact (show RM d' dB from Or.inr a4).cgB (g3.bk.up 0 0)
  · simp only [if_neg c0, i10, if_true, if_false, e_ref, bd_e]
    exact ⟨_, _, _, rfl, rfl, RS.of, RMup hM 1 1⟩
theorem T_mate {p1 p2 : Int} {dA dB : Dt} (hB : RB dA dB) (hC : RC dA dB) (hM : RM dA dB) : ∃ (r : Int) (dA' dB' : Dt), L_PB_mate p1 p2 dA = some (r, dA') ∧ L_Mo_mate p1 p2 dB = some (r, dB') ∧ RS dA' dB' ∧ RM dA' dB' := by
  obtain ⟨z0, z1, z2⟩ := hB.1 0 (by decide)
  have bad : ∃ (r : Int) (dA' dB' : Dt), L_PB_mate_b29 p1 p2 0 dA = some (r, dA') ∧ L_Mo_mate_b15 dB = some (r, dB') ∧ RS dA' dB' ∧ RM dA' dB' := by
    unfold L_PB_mate_b29 L_PB_mate_b47 L_PB_mate_b70 L_Mo_mate_b15
    simp only [if_true, e_ref, bd_e]
    exact ⟨_, _, _, rfl, rfl, RS.of, RMup hM 1 1⟩
  unfold L_PB_mate L_Mo_mate
  simp only [within_e, e_Mo_isOther, bd_e]
  by_cases c0 : 1 ≤ p1 ∧ p1 ≤ 2
  · simp only [if_pos c0, i10, if_false, e_Bo_has0, e_Mo_isEntry, bd_e, z0]
    by_cases c1 : 0 ≤ p2 ∧ p2 < dB 52 0
    · obtain ⟨b, rfl⟩ : ∃ b : Nat, p1 = ((b + 1 : Nat) : Int) := ⟨(p1 - 1).toNat, by omega⟩
      obtain ⟨e, rfl⟩ : ∃ e : Nat, p2 = (e : Int) := ⟨p2.toNat, by omega⟩
      have hb : b < 2 := by omega
      obtain ⟨d', a1, a2, a3, a4⟩ := settle_e hB hC hM
      obtain ⟨x, g1, g2, g3⟩ := joinAll_e hB (Core.rf dB)
      unfold L_PB_mate_b29 L_PB_mate_b47 L_PB_mate_b70 L_Bo_mateOf
      simp only [if_pos c1, i10, if_false, a1, bd_e, g1]
      rw [slotA (b + 1) e (by omega) (by omega), slotM b e hb (by omega), ck_pos ⟨by omega, by omega⟩, ck_pos ⟨by omega, by omega⟩, bd_e, tn_i, tn_i, g3 b e hb c1.2, a4.2.1 b e hb c1.2, lt_e]
      have hRM : ∀ v : Int, RM (up2 d' 0 0 v) (up2 x 0 0 v) := fun v => ((show RM d' dB from Or.inr a4).cgA (by rw [up2_K _ _ _ (by decide)]) (fun k h1 h2 => up2_K _ _ _ (by omega))).cgB (g2.bk.up 0 v)
      by_cases q : mtB dB b e = -1
      · simp only [if_pos q, e_ref, bd_e]
        exact ⟨_, _, _, by rw [q], rfl, RS.of, hRM 6⟩
      · simp only [if_neg q, e_giv, bd_e]
        exact ⟨_, _, _, rfl, rfl, RS.of, hRM 0⟩
    · simp only [if_neg c1, if_true]; exact bad
  · simp only [if_neg c0, if_true]; exact bad
theorem T_joined {p1 : Int} {dA dB : Dt} (hB : RB dA dB) (hC : RC dA dB) (hM : RM dA dB) : ∃ (r : Int) (dA' dB' : Dt), L_PB_joined p1 dA = some (r, dA') ∧ L_Mo_joined p1 dB = some (r, dB') ∧ RS dA' dB' ∧ RM dA' dB' := by
  obtain ⟨z0, z1, z2⟩ := hB.1 0 (by decide)
  unfold L_PB_joined L_Mo_joined L_PB_joined_b18
  simp only [e_Bo_has0, e_Mo_isEntry, bd_e, z0]
  by_cases c0 : 0 ≤ p1 ∧ p1 < dB 52 0
  · obtain ⟨e, rfl⟩ : ∃ e : Nat, p1 = (e : Int) := ⟨p1.toNat, by omega⟩
    obtain ⟨d', a1, a2, a3, a4⟩ := st0 hB hC hM 0
    obtain ⟨x, g1, g2, g3⟩ := joinAll_e hB (Core.rf dB)
    unfold L_Bo_joinedSet
    simp only [if_pos c0, i10, if_false, if_true, a1, bd_e, tn_i, ck_pos (show (0 : Int) ≤ (e : Int) ∧ (e : Int) < 30 by omega), a4.2.2 e c0.2, g1, setOf_e hB g2 e c0.2 (fun b hb => g3 b e hb c0.2), e_giv]
    refine ⟨_, _, _, rfl, rfl, ?_, ?_⟩
    · unfold RS; rw [a2, up2_s]
    · exact (show RM d' dB from Or.inr a4).cgB (g2.bk.up 0 0)
  · simp only [if_neg c0, i10, if_true, if_false, e_ref, bd_e]
    exact ⟨_, _, _, rfl, rfl, RS.of, RMup hM 1 1⟩
/-- how many of the first sets have a CANDIDATE -/
def sumB (f : Nat → Int) (c : Nat) : Nat → Int
  | 0 => 0
  | e + 1 => sumB f c e + bitI (f e) c
theorem sumB_b (f : Nat → Int) (c : Nat) : ∀ n : Nat, 0 ≤ sumB f c n ∧ sumB f c n ≤ n
  | 0 => by simp only [sumB]; omega
  | n + 1 => by
    have ih := sumB_b f c n
    have h := bitI_b (f n) c
    simp only [sumB]; omega
theorem countWritten_e {d dB : Dt} (hB : RB d dB) (b c : Nat) (hb : b < 3) : L_Bo_countWritten (b : Int) (c : Int) d = some (sumB (fun e => dB 55 (30 * b + e)) c (dB 52 b).toNat, d) := by
  obtain ⟨y0, y1, y2⟩ := hB.1 b hb
  have e1 := lp_seq (f := fun q : Int × Int × Int × Int × Dt => L_Bo_countWritten_y5 q.1 q.2.1 q.2.2.1 q.2.2.2.1 q.2.2.2.2) (fun e => ((b : Int), (c : Int), sumB (fun e => dB 55 (30 * b + e)) c e, (e : Int), d)) (dB 52 b).toNat (r := (sumB (fun e => dB 55 (30 * b + e)) c (dB 52 b).toNat, d))
    (by
      intro e he
      obtain ⟨_, _, _, a4, _⟩ := hB.2 b e hb (by omega)
      have h1 := sumB_b (fun e => dB 55 (30 * b + e)) c e
      have h2 := bitI_b (dB 55 (30 * b + e)) c
      dsimp only
      unfold L_Bo_countWritten_y5
      rw [ck_pos ⟨by omega, by omega⟩, tn_i, y0, if_pos (by omega), slotA b e hb (by omega), ck_pos ⟨by omega, by omega⟩, tn_i, a4, show iand (ishr (dB 55 (30 * b + e)) (c : Int)) 1 = bitI (dB 55 (30 * b + e)) c from rfl, w32_s (x := sumB (fun e => dB 55 (30 * b + e)) c e + bitI (dB 55 (30 * b + e)) c) (by omega) (by omega), lt_e, w32_i (show e < 2147483647 by omega)]
      simp only [sumB])
    (by
      dsimp only
      unfold L_Bo_countWritten_y5
      rw [ck_pos ⟨by omega, by omega⟩, tn_i, y0, if_neg (by omega)]) (by omega)
  unfold L_Bo_countWritten L_Bo_countWritten_l5
  rw [show lpF (fun q : Int × Int × Int × Int × Dt => L_Bo_countWritten_y5 q.1 q.2.1 q.2.2.1 q.2.2.2.1 q.2.2.2.2) FU ((b : Int), (c : Int), 0, 0, d) = _ from e1, lb_e, u1_q]
theorem cJ_in {d dB : Dt} (hB : RB d dB) (hM : RMs d dB) (c : Nat) : L_Bo_countJoined_l8 (c : Int) 0 0 d = some (sumB (fun e => (sett dB e : Int)) c (dB 52 0).toNat, d) := by
  obtain ⟨y0, y1, y2⟩ := hB.1 0 (by decide)
  unfold L_Bo_countJoined_l8
  refine lp_seq (f := fun q : Int × Int × Int × Dt => L_Bo_countJoined_y8 q.1 q.2.1 q.2.2.1 q.2.2.2) (fun e => ((c : Int), sumB (fun e => (sett dB e : Int)) c e, (e : Int), d)) (dB 52 0).toNat ?_ ?_ (by omega)
  · intro e he
    have h1 := sumB_b (fun e => (sett dB e : Int)) c e
    have h2 := bitI_b (sett dB e : Int) c
    dsimp only
    unfold L_Bo_countJoined_y8
    rw [y0, if_pos (by omega), ck_pos ⟨by omega, by omega⟩, tn_i, hM.2.2 e (by omega), show iand (ishr (sett dB e : Int) (c : Int)) 1 = bitI (sett dB e : Int) c from rfl, w32_s (x := sumB (fun e => (sett dB e : Int)) c e + bitI (sett dB e : Int) c) (by omega) (by omega), lt_e, w32_i (show e < 2147483647 by omega)]
    simp only [sumB]
  · dsimp only
    unfold L_Bo_countJoined_y8
    rw [y0, if_neg (by omega)]
theorem tally3_in {dA dB d : Dt} (hB : RB dA dB) (hd : Core dB d) (hmt : ∀ b i : Nat, b < 2 → (i : Int) < dB 52 0 → d 56 (30 * b + i) = mtB dB b i) (c : Nat) : L_Mo_tally_l48 3 (c : Int) 0 (dB 52 0) 0 d = some (sumB (fun e => (sett dB e : Int)) c (dB 52 0).toNat, d) := by
  obtain ⟨y0, y1, y2⟩ := hB.1 0 (by decide)
  unfold L_Mo_tally_l48
  refine lp_seq (f := fun q : Int × Int × Int × Int × Int × Dt => L_Mo_tally_y48 q.1 q.2.1 q.2.2.1 q.2.2.2.1 q.2.2.2.2.1 q.2.2.2.2.2) (fun e => (3, (c : Int), sumB (fun e => (sett dB e : Int)) c e, dB 52 0, (e : Int), d)) (dB 52 0).toNat ?_ ?_ (by omega)
  · intro e he
    have h1 := sumB_b (fun e => (sett dB e : Int)) c e
    have h2 := bitI_b (sett dB e : Int) c
    dsimp only
    unfold L_Mo_tally_y48 L_Mo_tally_b82
    rw [if_pos (by omega), if_pos rfl, setOf_e hB hd e (by omega) (fun b hb => hmt b e hb (by omega)), bd_e, show iand (ishr (sett dB e : Int) (c : Int)) 1 = bitI (sett dB e : Int) c from rfl, w32_s (x := sumB (fun e => (sett dB e : Int)) c e + bitI (sett dB e : Int) c) (by omega) (by omega), lt_e, w32_i (show e < 2147483647 by omega)]
    simp only [sumB]
  · dsimp only
    unfold L_Mo_tally_y48
    rw [if_neg (by omega)]
theorem tallyb_in {dA dB d : Dt} (hB : RB dA dB) (hd : Core dB d) (b c : Nat) (hb : b < 3) : L_Mo_tally_l48 (b : Int) (c : Int) 0 (dB 52 b) 0 d = some (sumB (fun e => dB 55 (30 * b + e)) c (dB 52 b).toNat, d) := by
  obtain ⟨y0, y1, y2⟩ := hB.1 b hb
  unfold L_Mo_tally_l48
  refine lp_seq (f := fun q : Int × Int × Int × Int × Int × Dt => L_Mo_tally_y48 q.1 q.2.1 q.2.2.1 q.2.2.2.1 q.2.2.2.2.1 q.2.2.2.2.2) (fun e => ((b : Int), (c : Int), sumB (fun e => dB 55 (30 * b + e)) c e, dB 52 b, (e : Int), d)) (dB 52 b).toNat ?_ ?_ (by omega)
  · intro e he
    have h1 := sumB_b (fun e => dB 55 (30 * b + e)) c e
    have h2 := bitI_b (dB 55 (30 * b + e)) c
    dsimp only
    unfold L_Mo_tally_y48 L_Mo_tally_b82
    rw [if_pos (by omega), if_neg (by omega), slotB b e hb (by omega), ck_pos ⟨by omega, by omega⟩, tn_i, hd.1 55 (by decide) (by decide), show iand (ishr (dB 55 (30 * b + e)) (c : Int)) 1 = bitI (dB 55 (30 * b + e)) c from rfl, w32_s (x := sumB (fun e => dB 55 (30 * b + e)) c e + bitI (dB 55 (30 * b + e)) c) (by omega) (by omega), lt_e, w32_i (show e < 2147483647 by omega)]
    simp only [sumB]
  · dsimp only
    unfold L_Mo_tally_y48
    rw [if_neg (by omega)]
theorem T_tally {p1 p2 : Int} {dA dB : Dt} (hB : RB dA dB) (hC : RC dA dB) (hM : RM dA dB) : ∃ (r : Int) (dA' dB' : Dt), L_PB_tally p1 p2 dA = some (r, dA') ∧ L_Mo_tally p1 p2 dB = some (r, dB') ∧ RS dA' dB' ∧ RM dA' dB' := by
  have bad : ∃ (r : Int) (dA' dB' : Dt), L_PB_tally_b25 p1 p2 1 dA = some (r, dA') ∧ L_Mo_tally_b16 dB = some (r, dB') ∧ RS dA' dB' ∧ RM dA' dB' := by
    unfold L_PB_tally_b25 L_Mo_tally_b16
    simp only [i10, if_false, e_ref, bd_e]
    exact ⟨_, _, _, rfl, rfl, RS.of, RMup hM 1 1⟩
  unfold L_PB_tally L_Mo_tally
  simp only [within_e, bd_e]
  by_cases c0 : 0 ≤ p1 ∧ p1 ≤ 3
  · simp only [if_pos c0, i10, if_false, if_neg (show ¬ p1 < 0 by omega), if_neg (show ¬ 3 < p1 by omega), e_PB_isCandidate, e_Mo_isCandidate, bd_e]
    by_cases c1 : 0 ≤ p2 ∧ p2 ≤ 3
    · obtain ⟨c, rfl⟩ : ∃ c : Nat, p2 = (c : Int) := ⟨p2.toNat, by omega⟩
      obtain ⟨x, g1, g2, g3⟩ := joinAll_e hB (Core.rf dB)
      simp only [if_pos c1, if_pos (show 0 ≤ (c : Int) ∧ (c : Int) < 4 by omega), i10, if_false, g1, bd_e]
      unfold L_PB_tally_b25 L_Mo_tally_b42
      by_cases c2 : p1 = 3
      · subst c2
        obtain ⟨d', a1, a2, a3, a4⟩ := st0 hB hC hM 0
        have hB' : RB d' dB := hB.cgA (fun k h1 h2 => a3 k (by omega) (by omega) (by omega) (by omega) (by omega) (by omega))
        unfold L_Bo_countJoined
        have e0 : x 52 (0 : Int).toNat = dB 52 0 := by rw [g2.1 52 (by decide) (by decide)]; rfl
        simp only [if_true, a1, bd_e, cJ_in hB' a4, lb_e, u1_q, ck_pos (show (0 : Int) ≤ 0 ∧ (0 : Int) < 3 by decide), e0, lt_e, tally3_in hB g2 g3, e_giv]
        refine ⟨_, _, _, rfl, rfl, ?_, ?_⟩
        · unfold RS; rw [a2, up2_s]
        · exact (show RM d' dB from Or.inr a4).cgB (g2.bk.up 0 0)
      · obtain ⟨b, rfl⟩ : ∃ b : Nat, p1 = (b : Int) := ⟨p1.toNat, by omega⟩
        have hB' : RB (up2 dA 0 0 0) dB := hB.cgA (fun k h1 h2 => up2_K _ _ _ (by omega))
        have e0 : x 52 b = dB 52 b := by rw [g2.1 52 (by decide) (by decide)]
        simp only [if_true, if_neg c2, countWritten_e hB' b c (by omega), bd_e, ck_pos (show (0 : Int) ≤ (b : Int) ∧ (b : Int) < 3 by omega), tn_i, e0, lt_e, tallyb_in hB g2 b c (by omega), lb_e, u1_q, e_giv]
        refine ⟨_, _, _, rfl, rfl, RS.of, ?_⟩
        exact (hM.cgA (by rw [up2_K _ _ _ (by decide)]) (fun k h1 h2 => up2_K _ _ _ (by omega))).cgB (g2.bk.up 0 0)
    · simp only [if_neg c1, if_neg (show ¬ (0 ≤ p2 ∧ p2 < 4) by omega), if_true]; exact bad
  · simp only [if_neg c0, if_true]
    by_cases c2 : p1 < 0
    · simp only [if_pos c2]; exact bad
    · simp only [if_neg c2, if_pos (show 3 < p1 by omega)]; exact bad
