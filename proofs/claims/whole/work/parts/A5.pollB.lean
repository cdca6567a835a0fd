/-! POLL: entries and offers, the reference's side -/
def aE (W : Int → Int → Nat → Int) (dB : Dt) (w : Int) (n : Nat) : Bool := (List.range n).any (fun e => decide (eV W dB e = 0) && decide (wP dB e (dB 0 7).toNat = w))
def aO (W : Int → Int → Nat → Int) (dB : Dt) (w : Int) (n : Nat) : Bool := (List.range n).any (fun j => decide (oV W dB j = 0) && decide (dB 59 j = w))
theorem aE_s (W : Int → Int → Nat → Int) (dB : Dt) (w : Int) (n : Nat) : aE W dB w (n + 1) = (aE W dB w n || (decide (eV W dB n = 0) && decide (wP dB n (dB 0 7).toNat = w))) := by
  unfold aE; rw [List.range_succ, List.any_append, List.any_cons, List.any_nil, Bool.or_false]
theorem aO_s (W : Int → Int → Nat → Int) (dB : Dt) (w : Int) (n : Nat) : aO W dB w (n + 1) = (aO W dB w n || (decide (oV W dB n = 0) && decide (dB 59 n = w))) := by
  unfold aO; rw [List.range_succ, List.any_append, List.any_cons, List.any_nil, Bool.or_false]
theorem dec_nat (a : Int) (n : Nat) (h : 0 ≤ a) : decide (a.toNat = n) = decide (a = (n : Int)) := by
  by_cases q : a = (n : Int)
  · rw [decide_eq_true q, decide_eq_true (by omega)]
  · rw [decide_eq_false q, decide_eq_false (by omega)]
theorem vb_t {dA dB : Dt} (hP : RP dA dB) (hQ : RQ dA dB) (W : Int → Int → Nat → Int) (w : Nat) : ∀ n : Nat, (vb W dB n).testBit w = aE W dB (w : Int) n
  | 0 => by simp [vb, aE]
  | n + 1 => by
    rw [aE_s, ← vb_t hP hQ W w n]
    simp only [vb]
    by_cases q : eV W dB n = 0
    · have hw : 0 ≤ wP dB n (dB 0 7).toNat := by
        rcases wP_rg hP hQ n with hw | hw
        · unfold eV at q; rw [if_pos hw] at q; omega
        · exact hw.1
      rw [if_pos q, decide_eq_true q, Bool.true_and, Nat.testBit_or, Nat.testBit_two_pow, dec_nat _ _ hw]
    · rw [if_neg q, decide_eq_false q, Bool.false_and, Bool.or_false]
theorem ob_t {dA dB : Dt} (hP : RP dA dB) (hQ : RQ dA dB) (hV : RV dA dB) (W : Int → Int → Nat → Int) (w : Nat) : ∀ n : Nat, (n : Int) ≤ dB 0 87 → (ob W dB n).testBit w = (aE W dB (w : Int) (dB 52 0).toNat || aO W dB (w : Int) n)
  | 0, _ => by
    show (vb W dB (dB 52 0).toNat).testBit w = _
    rw [vb_t hP hQ W w]; simp [aO]
  | n + 1, h => by
    have ih := ob_t hP hQ hV W w n (by omega)
    rw [ob_s, aO_s, ← Bool.or_assoc, ← ih]
    have hw := (hV.2.2 n (by omega)).2.2.2.1
    by_cases q : oV W dB n = 0
    · rw [if_pos q, decide_eq_true q, Bool.true_and, Nat.testBit_or, Nat.testBit_two_pow, dec_nat _ _ hw]
    · rw [if_neg q, decide_eq_false q, Bool.false_and, Bool.or_false]
theorem judge1 {dA dB y0 : Dt} {place : Nat} {day : Int} {W : Int → Int → Nat → Int} (hg : dB GH 0 ≤ 6) (hW : WW dA dB place day W) (hP : RP dA dB) (hH : RH dA dB) (hB : RB dA dB) (hQ : RQ dA dB) (h0 : Core dB y0) (h56 : ∀ b i : Nat, b < 2 → (i : Int) < dB 52 0 → y0 56 (30 * b + i) = mtB dB b i) : ∃ y, L_Mo_judge_l6 (place : Int) day 0 y0 = some ((place : Int), day, y) ∧ Core dB y ∧ (∀ b i : Nat, b < 2 → (i : Int) < dB 52 0 → y 56 (30 * b + i) = mtB dB b i) ∧ ∀ e : Nat, (e : Int) < dB 52 0 → y 62 e = eV W dB e := by
  obtain ⟨z0, z1, z2⟩ := hB.1 0 (by decide)
  have gh : ∀ y, Core dB y → y GH 0 ≤ 6 := fun y hy => by rw [hy.1 GH (by decide) (by decide)]; exact hg
  obtain ⟨u, e1, e2, e3, e4⟩ := lp_inv (f := fun q : Int × Int × Int × Dt => L_Mo_judge_y6 q.1 q.2.1 q.2.2.1 q.2.2.2) (fun e y => ((place : Int), day, (e : Int), y)) (fun y => ((place : Int), day, y))
    (fun e y => Core dB y ∧ (∀ b i : Nat, b < 2 → (i : Int) < dB 52 0 → y 56 (30 * b + i) = mtB dB b i) ∧ ∀ e', e' < e → y 62 e' = eV W dB e') (dB 52 0).toNat
    (by
      rintro e y he ⟨f1, f2, f3⟩
      have he' : (e : Int) < dB 52 0 := by omega
      have y52 : y 52 0 = dB 52 0 := by rw [f1.1 52 (by decide) (by decide)]
      obtain ⟨y1, a1, a2, _⟩ := whoIs_e hP hH hB hQ f1 e he'
      have fr1 := fr_Mo_whoIs (e : Int) y (gh y f1) a1
      have c56 : y1 56 = y 56 := fr1.cell 56 (by decide) (by decide)
      have c62 : y1 62 = y 62 := fr1.cell 62 (by decide) (by decide)
      have fin : ∀ (z : Dt) (v : Int), Core dB z → z 56 = y 56 → z 62 = y 62 → v = eV W dB e → ∃ d', L_Mo_judge_b71 (place : Int) day (e : Int) (e : Int) v z = some (Sum.inl ((place : Int), day, ((e + 1 : Nat) : Int), d')) ∧ Core dB d' ∧ (∀ b i : Nat, b < 2 → (i : Int) < dB 52 0 → d' 56 (30 * b + i) = mtB dB b i) ∧ ∀ e', e' < e + 1 → d' 62 e' = eV W dB e' := by
        intro z v hz k56 k62 hv
        refine ⟨up2 z 62 e v, ?_, hz.s58 62 e v (by decide) (by decide), ?_, ?_⟩
        · unfold L_Mo_judge_b71
          rw [ck_pos ⟨by omega, by omega⟩, tn_i, w32_i (show e < 2147483647 by omega)]
        · intro b i hb hi; rw [up2_K _ _ _ (by decide), k56]; exact f2 b i hb hi
        · intro e' he2
          by_cases q : e' = e
          · rw [q, up2_s]; exact hv
          · rw [up2_j _ _ _ q, k62]; exact f3 e' (by omega)
      dsimp only
      unfold L_Mo_judge_y6
      rw [y52, if_pos (by omega), a1, bd_e]
      rcases wP_rg hP hQ e with hw | ⟨w1, w2, w3⟩
      · rw [if_pos hw]; exact fin y1 1 a2 c56 c62 (by unfold eV; rw [if_pos hw])
      · have hne : ¬ wP dB e (dB 0 7).toNat = -1 := by omega
        obtain ⟨r, y2, t1, t2, t3⟩ := isTwiceB hP hH hB hQ a2 e (wP dB e (dB 0 7).toNat) (by omega)
        have fr2 := fr_Mo_isTwice (e : Int) (wP dB e (dB 0 7).toNat) y1 (gh y1 a2) t1
        have k56 : y2 56 = y 56 := (fr2.cell 56 (by decide) (by decide)).trans c56
        have k62 : y2 62 = y 62 := (fr2.cell 62 (by decide) (by decide)).trans c62
        rw [if_neg hne, t1, bd_e]
        rcases t3 with ⟨rfl, tw⟩ | ⟨rfl, tw⟩
        · rw [if_neg (by decide)]; exact fin y2 2 t2 k56 k62 (by unfold eV; rw [if_neg hne, if_pos ((twb_e _ _ _).2 tw)])
        · have hnt : ¬ twb dB e (wP dB e (dB 0 7).toNat) = true := fun q => tw ((twb_e _ _ _).1 q)
          obtain ⟨wb, _, wbb⟩ := hW (wP dB e (dB 0 7).toNat) (dB 54 e) (sett dB e) ⟨w1, w2⟩ (sett_b dB e)
          obtain ⟨y3, g1, g2, g3⟩ := wbb y2 t2
          rw [if_pos rfl, ck_pos ⟨by omega, by omega⟩, tn_i, setOf_e hB t2 e he' (fun b hb => by rw [k56]; exact f2 b e hb he'), bd_e, t2.1 54 (by decide) (by decide), g1, bd_e]
          exact fin y3 _ g2 (by rw [g3 56 (by decide) (by decide) (by decide) (by decide) (by decide) (by decide)]; exact k56) (by rw [g3 62 (by decide) (by decide) (by decide) (by decide) (by decide) (by decide)]; exact k62) (by unfold eV; rw [if_neg hne, if_neg hnt]))
    (by
      rintro y ⟨f1, f2, f3⟩
      have y52 : y 52 0 = dB 52 0 := by rw [f1.1 52 (by decide) (by decide)]
      dsimp only
      unfold L_Mo_judge_y6
      rw [y52, if_neg (by omega)]) (by omega) y0 ⟨h0, h56, fun e' h => by omega⟩
  exact ⟨u, e1, e2, e3, fun e he => e4 e (by omega)⟩
theorem judge2 {dA dB y0 : Dt} {place : Nat} {day : Int} {W : Int → Int → Nat → Int} (hg : dB GH 0 ≤ 6) (hP : RP dA dB) (hH : RH dA dB) (hB : RB dA dB) (hQ : RQ dA dB) (h0 : Core dB y0) (h62 : ∀ e : Nat, (e : Int) < dB 52 0 → y0 62 e = eV W dB e) (i : Nat) (hi : i < 20) : ∃ y, L_Mo_judge_l94 (place : Int) day (i : Int) 0 0 y0 = some ((place : Int), day, (i : Int), b2i (aE W dB (dB 59 i) (dB 52 0).toNat), y) ∧ Core dB y ∧ y 56 = y0 56 ∧ y 62 = y0 62 ∧ y 63 = y0 63 := by
  obtain ⟨z0, z1, z2⟩ := hB.1 0 (by decide)
  have gh : ∀ y, Core dB y → y GH 0 ≤ 6 := fun y hy => by rw [hy.1 GH (by decide) (by decide)]; exact hg
  obtain ⟨u, e1, e2⟩ := lp_inv (f := fun q : Int × Int × Int × Int × Int × Dt => L_Mo_judge_y94 q.1 q.2.1 q.2.2.1 q.2.2.2.1 q.2.2.2.2.1 q.2.2.2.2.2) (fun e y => ((place : Int), day, (i : Int), b2i (aE W dB (dB 59 i) e), (e : Int), y)) (fun y => ((place : Int), day, (i : Int), b2i (aE W dB (dB 59 i) (dB 52 0).toNat), y))
    (fun e y => Core dB y ∧ y 56 = y0 56 ∧ y 62 = y0 62 ∧ y 63 = y0 63) (dB 52 0).toNat
    (by
      rintro e y he ⟨f1, f2, f3, f4⟩
      have he' : (e : Int) < dB 52 0 := by omega
      have y52 : y 52 0 = dB 52 0 := by rw [f1.1 52 (by decide) (by decide)]
      obtain ⟨y1, a1, a2, _⟩ := whoIs_e hP hH hB hQ f1 e he'
      have fr1 := fr_Mo_whoIs (e : Int) y (gh y f1) a1
      have k : Core dB y1 ∧ y1 56 = y0 56 ∧ y1 62 = y0 62 ∧ y1 63 = y0 63 := ⟨a2, (fr1.cell 56 (by decide) (by decide)).trans f2, (fr1.cell 62 (by decide) (by decide)).trans f3, (fr1.cell 63 (by decide) (by decide)).trans f4⟩
      have y62 : y 62 e = eV W dB e := by rw [f3]; exact h62 e he'
      dsimp only
      unfold L_Mo_judge_y94 L_Mo_judge_b140
      rw [y52, if_pos (by omega), aE_s, ck_pos ⟨by omega, by omega⟩, tn_i, y62, w32_i (show e < 2147483647 by omega)]
      by_cases q : aE W dB (dB 59 i) e = true
      · rw [q, if_neg (by decide), Bool.true_or]; exact ⟨y, rfl, f1, f2, f3, f4⟩
      · rw [bool_f q, if_pos (by decide), Bool.false_or]
        by_cases q2 : eV W dB e = 0
        · rw [if_pos q2, decide_eq_true q2, Bool.true_and, a1, bd_e, ck_pos ⟨by omega, by omega⟩, tn_i, a2.1 59 (by decide) (by decide)]
          by_cases q3 : wP dB e (dB 0 7).toNat = dB 59 i
          · rw [if_pos q3, decide_eq_true q3]; exact ⟨y1, rfl, k⟩
          · rw [if_neg q3, decide_eq_false q3]; exact ⟨y1, rfl, k⟩
        · rw [if_neg q2, decide_eq_false q2, Bool.false_and]; exact ⟨y, rfl, f1, f2, f3, f4⟩)
    (by
      rintro y ⟨f1, f2, f3, f4⟩
      have y52 : y 52 0 = dB 52 0 := by rw [f1.1 52 (by decide) (by decide)]
      dsimp only
      unfold L_Mo_judge_y94
      rw [y52, if_neg (by omega)]) (by omega) y0 ⟨h0, rfl, rfl, rfl⟩
  exact ⟨u, e1, e2⟩
theorem judge3 {dB y : Dt} {place : Nat} {day : Int} {W : Int → Int → Nat → Int} (h0 : Core dB y) (i : Nat) (hi : i < 20) (h63 : ∀ j, j < i → y 63 j = oV W dB j) (b : Bool) : L_Mo_judge_l151 (place : Int) day (i : Int) (b2i b) 0 y = some ((place : Int), day, (i : Int), b2i (b || aO W dB (dB 59 i) i), y) := by
  obtain ⟨u, e1, rfl⟩ := lp_inv (f := fun q : Int × Int × Int × Int × Int × Dt => L_Mo_judge_y151 q.1 q.2.1 q.2.2.1 q.2.2.2.1 q.2.2.2.2.1 q.2.2.2.2.2) (fun j z => ((place : Int), day, (i : Int), b2i (b || aO W dB (dB 59 i) j), (j : Int), z)) (fun z => ((place : Int), day, (i : Int), b2i (b || aO W dB (dB 59 i) i), z))
    (fun _ z => z = y) i
    (by
      rintro j z hj rfl
      refine ⟨z, ?_, rfl⟩
      have cj : (0 : Int) ≤ (j : Int) ∧ (j : Int) < 20 := by omega
      dsimp only
      unfold L_Mo_judge_y151 L_Mo_judge_b193
      rw [if_pos (by omega), aO_s, ck_pos cj, tn_i, h63 j hj, ck_pos cj, ck_pos ⟨by omega, by omega⟩, tn_i, h0.1 59 (by decide) (by decide), w32_i (show j < 2147483647 by omega), ← Bool.or_assoc]
      by_cases q : (b || aO W dB (dB 59 i) j) = true
      · rw [q, if_neg (by decide), Bool.true_or]; rfl
      · rw [bool_f q, if_pos (by decide), Bool.false_or]
        by_cases q2 : oV W dB j = 0
        · rw [if_pos q2, decide_eq_true q2, Bool.true_and]
          by_cases q3 : dB 59 j = dB 59 i
          · rw [if_pos q3, decide_eq_true q3]; rfl
          · rw [if_neg q3, decide_eq_false q3]; rfl
        · rw [if_neg q2, decide_eq_false q2, Bool.false_and]; rfl)
    (by
      rintro z rfl
      dsimp only
      unfold L_Mo_judge_y151
      rw [if_neg (by omega)]) (by omega) y rfl
  unfold L_Mo_judge_l151
  have : aO W dB (dB 59 i) 0 = false := rfl
  rw [this, Bool.or_false] at e1
  exact e1
theorem judgeB_e {dA dB y0 : Dt} {place : Nat} {day : Int} {W : Int → Int → Nat → Int} (hg : dB GH 0 ≤ 6) (hW : WW dA dB place day W) (hP : RP dA dB) (hH : RH dA dB) (hB : RB dA dB) (hQ : RQ dA dB) (hV : RV dA dB) (h0 : Core dB y0) : ∃ y, L_Mo_judge (place : Int) day y0 = some (0, y) ∧ Core dB y ∧ (∀ b i : Nat, b < 2 → (i : Int) < dB 52 0 → y 56 (30 * b + i) = mtB dB b i) ∧ (∀ e : Nat, (e : Int) < dB 52 0 → y 62 e = eV W dB e) ∧ ∀ i : Nat, (i : Int) < dB 0 87 → y 63 i = oV W dB i := by
  obtain ⟨y1, a1, a2, a3⟩ := joinAll_e hB h0
  obtain ⟨y2, b1, b2, b3, b4⟩ := judge1 hg hW hP hH hB hQ a2 a3
  have h20 := hV.2.1
  obtain ⟨u, e1, e2, e3, e4, e5⟩ := lp_inv (f := fun q : Int × Int × Int × Dt => L_Mo_judge_y80 q.1 q.2.1 q.2.2.1 q.2.2.2) (fun i y => ((place : Int), day, (i : Int), y)) (fun y => y)
    (fun i y => Core dB y ∧ y 56 = y2 56 ∧ y 62 = y2 62 ∧ ∀ j, j < i → y 63 j = oV W dB j) (dB 0 87).toNat
    (by
      rintro i y hi ⟨f1, f2, f3, f4⟩
      have hi' : (i : Int) < dB 0 87 := by omega
      obtain ⟨_, _, _, o4, o5, o6, o7, o8, o9⟩ := hV.2.2 i hi'
      obtain ⟨y3, c1, c2, c3, c4, c5⟩ := judge2 (place := place) (day := day) hg hP hH hB hQ f1 (W := W) (fun e he => by rw [f3]; exact b4 e he) i (by omega)
      have j3 := judge3 (place := place) (day := day) c2 i (by omega) (W := W) (fun j hj => by rw [c5]; exact f4 j hj) (aE W dB (dB 59 i) (dB 52 0).toNat)
      obtain ⟨n, hn⟩ : ∃ n : Nat, dB 59 i = (n : Int) := ⟨(dB 59 i).toNat, by omega⟩
      obtain ⟨s, hs⟩ : ∃ s : Nat, dB 60 i = (s : Int) := ⟨(dB 60 i).toNat, by omega⟩
      have ht := ob_t hP hQ hV W n i (by omega)
      have hoV : oV W dB i = if (ob W dB i).testBit n = true then 2 else W (dB 59 i) (dB 61 i) s := by unfold oV; rw [hs, tn_i, hn, tn_i]
      have ci : (0 : Int) ≤ (i : Int) ∧ (i : Int) < 20 := by omega
      have fin : ∀ (z : Dt) (v : Int), Core dB z → z 56 = y2 56 → z 62 = y2 62 → z 63 = y 63 → v = oV W dB i → ∃ d', L_Mo_judge_b239 (place : Int) day (i : Int) (i : Int) v z = some (Sum.inl ((place : Int), day, ((i + 1 : Nat) : Int), d')) ∧ Core dB d' ∧ d' 56 = y2 56 ∧ d' 62 = y2 62 ∧ ∀ j, j < i + 1 → d' 63 j = oV W dB j := by
        intro z v hz k56 k62 k63 hv
        refine ⟨up2 z 63 i v, ?_, hz.s58 63 i v (by decide) (by decide), by rw [up2_K _ _ _ (by decide)]; exact k56, by rw [up2_K _ _ _ (by decide)]; exact k62, ?_⟩
        · unfold L_Mo_judge_b239
          rw [ck_pos ci, tn_i, w32_i (show i < 2147483647 by omega)]
        · intro j hj
          by_cases q : j = i
          · rw [q, up2_s]; exact hv
          · rw [up2_j _ _ _ q, k63]; exact f4 j (by omega)
      dsimp only
      unfold L_Mo_judge_y80
      rw [f1.2 87 (by decide), if_pos hi', c1, lb_e, u4_q, j3, lb_e, u4_q, hn, ← ht]
      by_cases q : (ob W dB i).testBit n = true
      · rw [if_pos q] at hoV
        rw [q, if_neg (by decide)]
        exact fin y3 2 c2 (c3.trans f2) (c4.trans f3) c5 hoV.symm
      · rw [if_neg q] at hoV
        obtain ⟨wb, _, wbb⟩ := hW (dB 59 i) (dB 61 i) s ⟨o4, o5⟩ (by omega)
        obtain ⟨y4, g1, g2, g3⟩ := wbb y3 c2
        rw [bool_f q, if_pos (by decide), ck_pos ci, ck_pos ci, ck_pos ci, tn_i, c2.1 59 (by decide) (by decide), c2.1 60 (by decide) (by decide), c2.1 61 (by decide) (by decide), hs, g1, bd_e]
        exact fin y4 _ g2 (by rw [g3 56 (by decide) (by decide) (by decide) (by decide) (by decide) (by decide)]; exact c3.trans f2) (by rw [g3 62 (by decide) (by decide) (by decide) (by decide) (by decide) (by decide)]; exact c4.trans f3) (by rw [g3 63 (by decide) (by decide) (by decide) (by decide) (by decide) (by decide)]; exact c5) hoV.symm)
    (by
      rintro y ⟨f1, f2, f3, f4⟩
      dsimp only
      unfold L_Mo_judge_y80
      rw [f1.2 87 (by decide), if_neg (by omega)]) (by omega) y2 ⟨b2, rfl, rfl, fun j h => by omega⟩
  refine ⟨u, ?_, e2, fun b i hb hi => by rw [e3]; exact b3 b i hb hi, fun e he => by rw [e4]; exact b4 e he, fun i hi => e5 i (by omega)⟩
  unfold L_Mo_judge L_Mo_judge_l80
  rw [a1, bd_e, b1, lb_e, u2_q, show lpF (fun q : Int × Int × Int × Dt => L_Mo_judge_y80 q.1 q.2.1 q.2.2.1 q.2.2.2) FU ((place : Int), day, 0, y2) = _ from e1, lb_e, u0_q]
