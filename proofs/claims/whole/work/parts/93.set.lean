/-! JOINED sets -/
def bitI (s : Int) (c : Nat) : Int := iand (ishr s (c : Int)) 1
theorem bitI_b (s : Int) (c : Nat) : bitI s c = 0 ∨ bitI s c = 1 := iand1 _
def hvF (d : Dt) (e : Nat) : Nat → Int
  | 0 => 1
  | t + 1 => if mtB d t e = -1 then hvF d e t else hvF d e t + 1
def syF (d : Dt) (e c : Nat) : Nat → Int
  | 0 => bitI (d 55 e) c
  | t + 1 => if mtB d t e = -1 then syF d e c t else syF d e c t + bitI (d 55 (30 * (t + 1) + (mtB d t e).toNat)) c
theorem hvF_b (d : Dt) (e : Nat) : ∀ t : Nat, 0 ≤ hvF d e t ∧ hvF d e t ≤ 1 + t
  | 0 => by simp only [hvF]; omega
  | t + 1 => by
    have ih := hvF_b d e t
    simp only [hvF]
    by_cases q : mtB d t e = -1
    · rw [if_pos q]; omega
    · rw [if_neg q]; omega
theorem syF_b (d : Dt) (e c : Nat) : ∀ t : Nat, 0 ≤ syF d e c t ∧ syF d e c t ≤ 1 + t
  | 0 => by simp only [syF]; have := bitI_b (d 55 e) c; omega
  | t + 1 => by
    have ih := syF_b d e c t
    have := bitI_b (d 55 (30 * (t + 1) + (mtB d t e).toNat)) c
    simp only [syF]
    by_cases q : mtB d t e = -1
    · rw [if_pos q]; omega
    · rw [if_neg q]; omega
def maj (d : Dt) (e c : Nat) : Bool := decide (hvF d e 2 < 2 * syF d e c 2 ∨ (2 * syF d e c 2 = hvF d e 2 ∧ bitI (d 55 e) c = 1))
def jn (d : Dt) (e : Nat) : Nat → Nat
  | 0 => 0
  | c + 1 => if maj d e c = true then jn d e c ||| 2 ^ c else jn d e c
theorem jn_b (d : Dt) (e : Nat) : ∀ c : Nat, jn d e c < 2 ^ c
  | 0 => by simp only [jn]; decide
  | c + 1 => by
    have ih := jn_b d e c
    have h2 : 2 ^ c < 2 ^ (c + 1) := Nat.pow_lt_pow_right (by decide) (by omega)
    simp only [jn]
    by_cases q : maj d e c = true
    · rw [if_pos q]; exact Nat.or_lt_two_pow (by omega) h2
    · rw [if_neg q]; omega
def sett (d : Dt) (e : Nat) : Nat := jn d e 4
theorem sett_b (d : Dt) (e : Nat) : sett d e < 16 := jn_b d e 4
theorem iorS (a c : Nat) (ha : a < 16) (hc : c < 4) : ior (a : Int) (ishl 1 (c : Int)) = ((a ||| 2 ^ c : Nat) : Int) := by
  have h : 2 ^ c < 2 ^ 4 := Nat.pow_lt_pow_right (by decide) hc
  rw [ishl1 c (by omega), ior_n a (2 ^ c) (by omega) (by omega)]
theorem iorZ (a : Nat) (ha : a < 16) : ior (a : Int) 0 = (a : Int) := by
  have := ior_n a 0 (by omega) (by omega)
  rw [Nat.or_zero] at this
  exact this
theorem maj_inA {d dB : Dt} (hB : RB d dB) (e c : Nat) (x2 : Int) (he : (e : Int) < dB 52 0) (hmt : ∀ b, b < 2 → d 46 (30 * (b + 1) + e) = mtB dB b e) : L_Bo_majority_l27 (e : Int) x2 (c : Int) 1 (bitI (dB 55 e) c) 1 d = some ((e : Int), x2, (c : Int), hvF dB e 2, syF dB e c 2, d) := by
  obtain ⟨z0, z1, z2⟩ := hB.1 0 (by decide)
  unfold L_Bo_majority_l27
  refine lp_seq (f := fun q : Int × Int × Int × Int × Int × Int × Dt => L_Bo_majority_y27 q.1 q.2.1 q.2.2.1 q.2.2.2.1 q.2.2.2.2.1 q.2.2.2.2.2.1 q.2.2.2.2.2.2) (fun t => ((e : Int), x2, (c : Int), hvF dB e t, syF dB e c t, ((t + 1 : Nat) : Int), d)) 2 ?_ ?_ (by omega)
  · intro t ht
    obtain ⟨y0, y1, y2⟩ := hB.1 (t + 1) (by omega)
    have hb := mtB_b hB t e ht
    have h1 := hvF_b dB e t
    have h2 := syF_b dB e c t
    dsimp only
    unfold L_Bo_majority_y27 L_Bo_majority_b78
    rw [if_pos (by omega), slotA (t + 1) e (by omega) (by omega), ck_pos ⟨by omega, by omega⟩, tn_i, hmt t ht, lt_e, w32_i (show t + 1 < 2147483647 by omega)]
    simp only [hvF, syF]
    by_cases q : mtB dB t e = -1
    · rw [if_pos q, if_pos q, if_pos q]
    · rw [if_neg q, if_neg q, if_neg q]
      obtain ⟨k, hk⟩ : ∃ k : Nat, mtB dB t e = (k : Int) := ⟨(mtB dB t e).toNat, by omega⟩
      rw [hk, slotA (t + 1) k (by omega) (by omega), ck_pos ⟨by omega, by omega⟩, tn_i, tn_i, lt_e]
      obtain ⟨_, _, _, a4, _⟩ := hB.2 (t + 1) k (by omega) (by omega)
      have hbb := bitI_b (dB 55 (30 * (t + 1) + k)) c
      rw [a4, show iand (ishr (dB 55 (30 * (t + 1) + k)) (c : Int)) 1 = bitI (dB 55 (30 * (t + 1) + k)) c from rfl, w32_s (x := syF dB e c t + bitI (dB 55 (30 * (t + 1) + k)) c) (by omega) (by omega), w32_s (x := hvF dB e t + 1) (by omega) (by omega)]
  · dsimp only
    unfold L_Bo_majority_y27
    rw [if_neg (by omega)]
theorem majority_e {d dB : Dt} (hB : RB d dB) (e : Nat) (he : (e : Int) < dB 52 0) (hmt : ∀ b, b < 2 → d 46 (30 * (b + 1) + e) = mtB dB b e) : L_Bo_majority (e : Int) d = some ((sett dB e : Int), d) := by
  obtain ⟨z0, z1, z2⟩ := hB.1 0 (by decide)
  obtain ⟨_, _, _, a4, _⟩ := hB.e0 e he
  have e1 := lp_seq (f := fun q : Int × Int × Int × Dt => L_Bo_majority_y4 q.1 q.2.1 q.2.2.1 q.2.2.2) (fun c => ((e : Int), (jn dB e c : Int), (c : Int), d)) 4 (r := ((sett dB e : Int), d))
    (by
      intro c hc
      have hjb := jn_b dB e c
      have hp : 2 ^ c ≤ 2 ^ 3 := Nat.pow_le_pow_right (by decide) (by omega)
      have h1 := hvF_b dB e 2
      have h2 := syF_b dB e c 2
      dsimp only
      unfold L_Bo_majority_y4
      rw [if_pos (by omega), ck_pos ⟨by omega, by omega⟩, tn_i, a4, show iand (ishr (dB 55 e) (c : Int)) 1 = bitI (dB 55 e) c from rfl, lt_e, maj_inA hB e c _ he hmt, lb_e, u5_q, ck_pos ⟨by omega, by omega⟩, tn_i, a4, show iand (ishr (dB 55 e) (c : Int)) 1 = bitI (dB 55 e) c from rfl]
      have hbb := bitI_b (dB 55 e) c
      unfold L_Bo_majority_b102 L_Bo_majority_b127 L_Bo_majority_b133
      rw [w32_s (x := 2 * syF dB e c 2) (by omega) (by omega), iorS _ c (by omega) hc, lt_e, w32_i (show c < 2147483647 by omega)]
      simp only [jn]
      by_cases q1 : hvF dB e 2 < 2 * syF dB e c 2
      · have hh : maj dB e c = true := decide_eq_true (Or.inl q1)
        rw [if_pos hh, if_pos q1, if_pos q1]; split <;> rfl
      · by_cases q2 : 2 * syF dB e c 2 = hvF dB e 2
        · by_cases q3 : bitI (dB 55 e) c = 0
          · have hh : ¬ maj dB e c = true := by unfold maj; rw [decide_eq_true_eq]; omega
            rw [if_neg hh, if_pos q3, if_neg q1, if_pos q2, if_true]
          · have hh : maj dB e c = true := decide_eq_true (by omega)
            rw [if_pos hh, if_neg q3, if_neg q1, if_pos q2, if_neg (show ¬ (1 : Int) = 0 by decide)]
        · have hh : ¬ maj dB e c = true := by unfold maj; rw [decide_eq_true_eq]; omega
          rw [if_neg hh, if_neg q1, if_neg q2, if_neg q1, if_neg q2]; split <;> rfl)
    (by
      dsimp only
      unfold L_Bo_majority_y4
      rw [if_neg (by omega)]; rfl) (by omega)
  unfold L_Bo_majority L_Bo_majority_l4
  rw [show lpF (fun q : Int × Int × Int × Dt => L_Bo_majority_y4 q.1 q.2.1 q.2.2.1 q.2.2.2) FU ((e : Int), 0, 0, d) = _ from e1, lb_e, u1_q]
theorem maj_inB {dA dB d : Dt} (hB : RB dA dB) (hd : Core dB d) (e c : Nat) (x2 : Int) (he : (e : Int) < dB 52 0) (hmt : ∀ b, b < 2 → d 56 (30 * b + e) = mtB dB b e) : L_Mo_setOf_l27 (e : Int) x2 (c : Int) 1 (bitI (dB 55 e) c) 1 d = some ((e : Int), x2, (c : Int), hvF dB e 2, syF dB e c 2, d) := by
  obtain ⟨z0, z1, z2⟩ := hB.1 0 (by decide)
  unfold L_Mo_setOf_l27
  refine lp_seq (f := fun q : Int × Int × Int × Int × Int × Int × Dt => L_Mo_setOf_y27 q.1 q.2.1 q.2.2.1 q.2.2.2.1 q.2.2.2.2.1 q.2.2.2.2.2.1 q.2.2.2.2.2.2) (fun t => ((e : Int), x2, (c : Int), hvF dB e t, syF dB e c t, ((t + 1 : Nat) : Int), d)) 2 ?_ ?_ (by omega)
  · intro t ht
    obtain ⟨y0, y1, y2⟩ := hB.1 (t + 1) (by omega)
    have hb := mtB_b hB t e ht
    have h1 := hvF_b dB e t
    have h2 := syF_b dB e c t
    dsimp only
    unfold L_Mo_setOf_y27 L_Mo_setOf_b83
    rw [if_neg (by omega), slotM t e (by omega) (by omega), ck_pos ⟨by omega, by omega⟩, tn_i, hmt t ht, lt_e, w32_i (show t + 1 < 2147483647 by omega)]
    simp only [hvF, syF]
    by_cases q : mtB dB t e = -1
    · rw [if_pos q, if_pos q, if_pos q]
    · rw [if_neg q, if_neg q, if_neg q]
      obtain ⟨k, hk⟩ : ∃ k : Nat, mtB dB t e = (k : Int) := ⟨(mtB dB t e).toNat, by omega⟩
      rw [hk, slotB (t + 1) k (by omega) (by omega), ck_pos ⟨by omega, by omega⟩, tn_i, tn_i, lt_e]
      have hbb := bitI_b (dB 55 (30 * (t + 1) + k)) c
      rw [hd.1 55 (by decide) (by decide), show iand (ishr (dB 55 (30 * (t + 1) + k)) (c : Int)) 1 = bitI (dB 55 (30 * (t + 1) + k)) c from rfl, w32_s (x := syF dB e c t + bitI (dB 55 (30 * (t + 1) + k)) c) (by omega) (by omega), w32_s (x := hvF dB e t + 1) (by omega) (by omega)]
  · dsimp only
    unfold L_Mo_setOf_y27
    rw [if_pos (by omega)]
theorem setOf_e {dA dB d : Dt} (hB : RB dA dB) (hd : Core dB d) (e : Nat) (he : (e : Int) < dB 52 0) (hmt : ∀ b, b < 2 → d 56 (30 * b + e) = mtB dB b e) : L_Mo_setOf (e : Int) d = some ((sett dB e : Int), d) := by
  obtain ⟨z0, z1, z2⟩ := hB.1 0 (by decide)
  have e1 := lp_seq (f := fun q : Int × Int × Int × Dt => L_Mo_setOf_y4 q.1 q.2.1 q.2.2.1 q.2.2.2) (fun c => ((e : Int), (jn dB e c : Int), (c : Int), d)) 4 (r := ((sett dB e : Int), d))
    (by
      intro c hc
      have hjb := jn_b dB e c
      have hp : 2 ^ c ≤ 2 ^ 3 := Nat.pow_le_pow_right (by decide) (by omega)
      have h1 := hvF_b dB e 2
      have h2 := syF_b dB e c 2
      dsimp only
      unfold L_Mo_setOf_y4
      rw [if_pos (by omega), ck_pos ⟨by omega, by omega⟩, tn_i, hd.1 55 (by decide) (by decide), show iand (ishr (dB 55 e) (c : Int)) 1 = bitI (dB 55 e) c from rfl, lt_e, maj_inB hB hd e c _ he hmt, lb_e, u5_q, ck_pos ⟨by omega, by omega⟩, tn_i, hd.1 55 (by decide) (by decide), show iand (ishr (dB 55 e) (c : Int)) 1 = bitI (dB 55 e) c from rfl]
      have hbb := bitI_b (dB 55 e) c
      unfold L_Mo_setOf_b126 L_Mo_setOf_b141
      rw [w32_s (x := 2 * syF dB e c 2) (by omega) (by omega), iorS _ c (by omega) hc, iorZ _ (by omega), lt_e, lt_e, w32_i (show c < 2147483647 by omega)]
      simp only [jn, i10, if_true, if_false]
      unfold maj
      by_cases q1 : hvF dB e 2 < 2 * syF dB e c 2
      · rw [if_pos q1, if_pos (decide_eq_true (Or.inl q1))]
      · rw [if_neg q1]
        by_cases q2 : 2 * syF dB e c 2 = hvF dB e 2
        · rw [if_pos q2]
          by_cases q3 : bitI (dB 55 e) c = 1
          · rw [if_pos q3, if_pos (decide_eq_true (by omega))]
          · rw [if_neg q3, if_neg (by rw [decide_eq_true_eq]; omega)]
        · rw [if_neg q2, if_neg (by rw [decide_eq_true_eq]; omega)])
    (by
      dsimp only
      unfold L_Mo_setOf_y4
      rw [if_neg (by omega)]; rfl) (by omega)
  unfold L_Mo_setOf L_Mo_setOf_l4
  rw [show lpF (fun q : Int × Int × Int × Dt => L_Mo_setOf_y4 q.1 q.2.1 q.2.2.1 q.2.2.2) FU ((e : Int), 0, 0, d) = _ from e1, lb_e, u1_q]
/-! what the class keeps once it has settled -/
def totB (d : Dt) (b : Nat) : Int := gL (cc d b) (d 52 0).toNat (d 52 (b + 1)).toNat (d 52 0).toNat (d 52 (b + 1)).toNat
def RMs (dA dB : Dt) : Prop := (∀ b : Nat, b < 2 → dA 45 (b + 1) = totB dB b) ∧ (∀ b i : Nat, b < 2 → (i : Int) < dB 52 0 → dA 46 (30 * (b + 1) + i) = mtB dB b i) ∧ ∀ i : Nat, (i : Int) < dB 52 0 → dA 47 i = (sett dB i : Int)
def RM (dA dB : Dt) : Prop := dA 37 10 = 0 ∨ RMs dA dB
theorem RC.cgA {dA dB dA' : Dt} (h : RC dA dB) (hk : dA' 43 = dA 43) : RC dA' dB := by
  unfold RC at h ⊢; rw [hk]; exact h
theorem settle_e {d dB : Dt} (hB : RB d dB) (hC : RC d dB) (hM : RM d dB) : ∃ d', L_Bo_settle d = some (0, d') ∧ (∀ k, k ≠ 37 → k ≠ 44 → k ≠ 45 → k ≠ 46 → k ≠ 47 → d' k = d k) ∧ (∀ j, j ≠ 10 → d' 37 j = d 37 j) ∧ RMs d' dB := by
  unfold L_Bo_settle
  rcases (Classical.em (d 37 10 = 0)).symm with h | h
  · rw [if_neg h]
    refine ⟨d, rfl, fun _ _ _ _ _ _ => rfl, fun _ _ => rfl, ?_⟩
    rcases hM with q | q
    · exact absurd q h
    · exact q
  obtain ⟨z0, z1, z2⟩ := hB.1 0 (by decide)
  obtain ⟨n, hn⟩ : ∃ n : Nat, dB 52 0 = (n : Int) := ⟨(dB 52 0).toNat, by omega⟩
  obtain ⟨d1, e1, e2, e3, e4, e5⟩ := lp_inv (f := fun q : Int × Dt => L_Bo_settle_y15 q.1 q.2) (fun i x => (((i + 1 : Nat) : Int), x)) (fun x => x)
    (fun i x => (∀ k, k ≠ 37 → k ≠ 44 → k ≠ 45 → k ≠ 46 → x k = d k) ∧ (∀ j, j ≠ 10 → x 37 j = d 37 j) ∧ (∀ b : Nat, b < i → x 45 (b + 1) = totB dB b) ∧ ∀ b i' : Nat, b < i → (i' : Int) < dB 52 0 → x 46 (30 * (b + 1) + i') = mtB dB b i') 2
    (by
      rintro b x hb ⟨f1, f2, f3, f4⟩
      obtain ⟨y0, y1, y2⟩ := hB.1 (b + 1) (by omega)
      obtain ⟨m, hm⟩ : ∃ m : Nat, dB 52 (b + 1) = (m : Int) := ⟨(dB 52 (b + 1)).toNat, by omega⟩
      have hBx : RB x dB := hB.cgA (fun k h1 h2 => f1 k (by omega) (by omega) (by omega) (by omega))
      have hCx : RC x dB := hC.cgA (f1 43 (by decide) (by decide) (by decide) (by decide))
      obtain ⟨x1, g1, g2, g3, g4, g5⟩ := weigh_e hBx hCx b n m hb hn hm
      obtain ⟨x2, k1, k2, k3, k4⟩ := pair_e (d := x1) (dB := dB) b n m hb (by omega) (by omega) (by rw [g2 42 (by decide) (by decide), f1 42 (by decide) (by decide) (by decide) (by decide), y0, hm]) (by rw [g2 42 (by decide) (by decide), f1 42 (by decide) (by decide) (by decide) (by decide), z0, hn]) (fun i j hi hj => by rw [g2 43 (by decide) (by decide)]; exact hCx b i j hb (by omega) (by omega)) g5
      refine ⟨x2, ?_, ?_, ?_, ?_, ?_⟩
      · dsimp only
        unfold L_Bo_settle_y15
        rw [if_pos (by omega), g1, bd_e, k1, bd_e, w32_i (show b + 1 < 2147483647 by omega)]
      · intro k h1 h2 h3 h4; rw [k2 k h4, g2 k h2 h3]; exact f1 k h1 h2 h3 h4
      · intro j hj; rw [k2 37 (by decide), g2 37 (by decide) (by decide)]; exact f2 j hj
      · intro b' hb'
        rw [k2 45 (by decide)]
        by_cases q : b' = b
        · subst q; rw [g4]; unfold totB; rw [hn, hm, tn_i, tn_i]
        · rw [g3 _ (by omega)]; exact f3 b' (by omega)
      · intro b' i' h1 h2
        by_cases q : b' = b
        · subst q
          rw [k4 i' (by omega)]
          unfold mtB; rw [hn, hm, tn_i, tn_i]
        · rw [k3 _ (fun i3 h3 => by omega), g2 46 (by decide) (by decide)]
          exact f4 b' i' (by omega) h2)
    (by
      rintro x _
      dsimp only
      unfold L_Bo_settle_y15
      rw [if_neg (by omega)]) (by omega) (up2 d 37 10 1) ⟨fun k h1 _ _ _ => up2_K _ _ _ h1, fun j hj => up2_j _ _ _ hj, fun b h => by omega, fun b i' h => by omega⟩
  have hB1 : RB d1 dB := hB.cgA (fun k h1 h2 => e2 k (by omega) (by omega) (by omega) (by omega))
  obtain ⟨d2, k1, k2, k3⟩ := lp_inv (f := fun q : Int × Dt => L_Bo_settle_y38 q.1 q.2) (fun i x => ((i : Int), x)) (fun x => x)
    (fun i x => (∀ k, k ≠ 47 → x k = d1 k) ∧ ∀ i', i' < i → x 47 i' = (sett dB i' : Int)) n
    (by
      rintro i x hi ⟨f1, f2⟩
      have hBx : RB x dB := hB1.cgA (fun k h1 h2 => f1 k (by omega))
      refine ⟨up2 x 47 i (sett dB i : Int), ?_, ?_, ?_⟩
      · dsimp only
        unfold L_Bo_settle_y38
        rw [f1 42 (by decide), e2 42 (by decide) (by decide) (by decide) (by decide), z0, hn, if_pos (by omega), majority_e hBx i (by omega) (fun b hb => by rw [f1 46 (by decide)]; exact e5 b i hb (by omega)), bd_e, ck_pos ⟨by omega, by omega⟩, tn_i, w32_i (show i < 2147483647 by omega)]
      · intro k hk; rw [up2_K _ _ _ hk]; exact f1 k hk
      · intro i' hi'
        by_cases q : i' = i
        · subst q; rw [up2_s]
        · rw [up2_j _ _ _ q]; exact f2 i' (by omega))
    (by
      rintro x ⟨f1, _⟩
      dsimp only
      unfold L_Bo_settle_y38
      rw [f1 42 (by decide), e2 42 (by decide) (by decide) (by decide) (by decide), z0, hn, if_neg (by omega)]) (by omega) d1 ⟨fun _ _ => rfl, fun i' h => by omega⟩
  rw [if_pos h]
  unfold L_Bo_settle_l15 L_Bo_settle_l38
  refine ⟨d2, ?_, ?_, ?_, ?_, ?_, ?_⟩
  · rw [show lpF (fun q : Int × Dt => L_Bo_settle_y15 q.1 q.2) FU (1, up2 d 37 10 1) = _ from e1, lb_e, u0_q, show lpF (fun q : Int × Dt => L_Bo_settle_y38 q.1 q.2) FU (0, d1) = _ from k1, lb_e, u0_q]
  · intro k h1 h2 h3 h4 h5; rw [k2 k h5]; exact e2 k h1 h2 h3 h4
  · intro j hj; rw [k2 37 (by decide)]; exact e3 j hj
  · intro b hb; rw [k2 45 (by decide)]; exact e4 b hb
  · intro b i hb hi; rw [k2 46 (by decide)]; exact e5 b i hb hi
  · intro i hi; exact k3 i (by omega)
