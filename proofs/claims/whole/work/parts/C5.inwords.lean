/-! WORDS of the reference: inWords -/
def ixB (f : Nat → Int) (T p e : Nat) : Int := fstN (fun j => decide (wdK T j = wd f p e)) 0 (nW T)
theorem inW_cmp {x : Dt} {f : Nat → Int} {n p : Nat} (h : tkB x f n p) (hn : n ≤ 600) (hp : p < n) (hL : isL (f p) = true) (T : Nat) (hT : T = 1000003 ∨ T = 1000004) (j : Nat) (hj : j < nW T) (b0 : Bool) (hb0 : b0 = decide (eW T j - sW T j = en f n p - p)) : L_Mo_inWords_l68 (T : Int) (j : Int) (sW T j : Int) (eW T j : Int) (b2i b0) (sW T j : Int) x = some ((T : Int), (j : Int), (eW T j : Int), b2i (decide (wdK T j = wd f p (en f n p))), x) := by
  obtain ⟨t1, t2, t3, t4, t5, t6⟩ := tab_e T hT j hj
  obtain ⟨g1, g2⟩ := en_b f n p hp
  have cT : isStr (T : Int) := by show (T : Int) = 1000003 ∨ (T : Int) = 1000004; omega
  obtain ⟨r, e1, e2⟩ := lp_wf (f := fun q : Int × Int × Int × Int × Int × Int × Dt => L_Mo_inWords_y68 q.1 q.2.1 q.2.2.1 q.2.2.2.1 q.2.2.2.2.1 q.2.2.2.2.2.1 q.2.2.2.2.2.2)
    (fun s => ∃ (i : Nat) (b : Bool), s = ((T : Int), (j : Int), (sW T j : Int), (eW T j : Int), b2i b, ((sW T j + i : Nat) : Int), x) ∧ sW T j + i ≤ eW T j ∧ b = (b0 && allU f T j p i))
    (fun s => eW T j - s.2.2.2.2.2.1.toNat)
    (fun r => r = ((T : Int), (j : Int), (eW T j : Int), b2i (b0 && allU f T j p (eW T j - sW T j)), x))
    (by
      rintro s ⟨i, b, rfl, h1, h2⟩
      dsimp only
      unfold L_Mo_inWords_y68 L_Mo_inWords_b107
      by_cases c : sW T j + i < eW T j
      · rw [if_pos (by omega)]
        by_cases cb : b = true
        · left
          rw [cb] at h2
          have hb1 : b0 = true := by
            cases hb : b0
            · rw [hb, Bool.false_and] at h2; exact absurd h2 (by decide)
            · rfl
          have hlen : eW T j - sW T j = en f n p - p := by rw [hb1] at hb0; exact of_decide_eq_true hb0.symm
          have hlt : isL (f (p + i)) = true := run_L f n p hp hL (p + i) (by omega) (by omega)
          have ha : aB f n (p + i) = f (p + i) := by have := isL_b hlt; unfold aB; rw [if_pos (by omega)]; omega
          rw [cb, if_neg (show ¬ b2i true = 0 by decide), ck_pos cT, charAt_e T (sW T j + i) hT (by omega), bd_e, h.2.1, w32_s (x := (p : Int) + ((sW T j + i : Nat) : Int)) (by omega) (by omega), show (p : Int) + ((sW T j + i : Nat) : Int) - (sW T j : Int) = ((p + i : Nat) : Int) by omega, w32_s (x := ((p + i : Nat) : Int)) (by omega) (by omega), at_e h.1 hn, bd_e, ha, w32_i (show sW T j + i < 2147483647 by omega)]
          have hU := allU_s f T j p i
          have hAi : allU f T j p i = true := by rw [hb1, Bool.true_and] at h2; exact h2.symm
          by_cases q : kw (T + 2) (sW T j + i) = f (p + i)
          · rw [if_pos q]
            refine ⟨_, rfl, ⟨i + 1, true, rfl, by omega, by rw [hb1, Bool.true_and, hU, hAi, decide_eq_true q]; rfl⟩, by show eW T j - ((sW T j + i + 1 : Nat) : Int).toNat < eW T j - ((sW T j + i : Nat) : Int).toNat; rw [tn_i, tn_i]; omega⟩
          · rw [if_neg q]
            refine ⟨_, rfl, ⟨i + 1, false, rfl, by omega, by rw [hb1, Bool.true_and, hU, hAi, decide_eq_false q]; rfl⟩, by show eW T j - ((sW T j + i + 1 : Nat) : Int).toNat < eW T j - ((sW T j + i : Nat) : Int).toNat; rw [tn_i, tn_i]; omega⟩
        · right
          have hbf := bool_f cb
          rw [hbf, if_pos (show b2i false = 0 by decide)]
          refine ⟨_, rfl, ?_⟩
          have : (b0 && allU f T j p (eW T j - sW T j)) = false := by
            rw [hbf] at h2
            cases hb : b0
            · rfl
            · rw [hb, Bool.true_and] at h2
              rw [Bool.true_and, show eW T j - sW T j = i + (eW T j - sW T j - i) by omega]
              exact allU_mono f T j p _ i h2.symm
          rw [this]
      · right
        rw [if_neg (by omega)]
        refine ⟨_, rfl, ?_⟩
        rw [h2, show i = eW T j - sW T j by omega])
    ((T : Int), (j : Int), (sW T j : Int), (eW T j : Int), b2i b0, (sW T j : Int), x) ⟨0, b0, rfl, by omega, by unfold allU; simp⟩ (by show eW T j - (sW T j : Int).toNat < 999999; omega)
  have fin : (b0 && allU f T j p (eW T j - sW T j)) = decide (wdK T j = wd f p (en f n p)) := by
    by_cases hl : eW T j - sW T j = en f n p - p
    · rw [hb0, decide_eq_true hl, Bool.true_and, hl]
      have hw := allU_w f T j p (en f n p) hl
      by_cases q : allU f T j p (en f n p - p) = true
      · rw [q, decide_eq_true (hw.1 q)]
      · rw [bool_f q, decide_eq_false (fun z => q (hw.2 z))]
    · rw [hb0, decide_eq_false hl, Bool.false_and, decide_eq_false]
      intro z
      have := congrArg List.length z
      unfold wdK at this
      rw [List.length_map, List.length_range, wd_len] at this
      exact hl this
  rw [fin] at e2
  unfold L_Mo_inWords_l68
  rw [e1, e2]
theorem inWords_e {x : Dt} {f : Nat → Int} {n p : Nat} (h : tkB x f n p) (hn : n ≤ 600) (T : Nat) (hT : T = 1000003 ∨ T = 1000004) : L_Mo_inWords (T : Int) x = some (if tyB f n p = 2 then ixB f T p (en f n p) else -1, x) := by
  obtain ⟨l1, l2, l3⟩ := tab_l T hT
  have cT : isStr (T : Int) := by show (T : Int) = 1000003 ∨ (T : Int) = 1000004; omega
  unfold L_Mo_inWords
  rw [h.2.2.2.1]
  by_cases c2 : tyB f n p = 2
  · rw [if_pos c2, if_pos c2]
    have hp : p < n := by
      unfold tyB at c2
      rcases (Classical.em (p < n)).symm with q | q
      · rw [if_neg q] at c2; exact absurd c2 (by decide)
      · exact q
    have hL : isL (f p) = true := by
      unfold tyB at c2
      rw [if_pos hp] at c2
      rcases (Classical.em (isL (f p) = true)).symm with q | q
      · rw [if_neg q] at c2
        by_cases q2 : isD (f p) = true
        · rw [if_pos q2] at c2
          by_cases q3 : 5 < en f n p - p
          · rw [if_pos q3] at c2; exact absurd c2 (by decide)
          · rw [if_neg q3] at c2; exact absurd c2 (by decide)
        · rw [if_neg q2] at c2
          by_cases q3 : isSg (f p) = true
          · rw [if_pos q3] at c2; exact absurd c2 (by decide)
          · rw [if_neg q3] at c2; exact absurd c2 (by decide)
      · exact q
    obtain ⟨g1, g2⟩ := en_b f n p hp
    obtain ⟨x', rfl, a2⟩ := lp_find (f := fun q : Int × Int × Int × Dt => L_Mo_inWords_y14 q.1 q.2.1 q.2.2.1 q.2.2.2) (fun j y => ((T : Int), (j : Int), (sW T j : Int), y)) (fun j y => Sum.inr ((j : Int), y)) (fun y => Sum.inl y) (fun y => y = x) (fun j => wdK T j = wd f p (en f n p)) (nW T)
      (by
        rintro j y hj rfl
        obtain ⟨t1, t2, t3, t4, t5, t6⟩ := tab_e T hT j hj
        have l25 : L_Mo_inWords_l25 (T : Int) (j : Int) (sW T j : Int) (sW T j : Int) y = some ((T : Int), (j : Int), (sW T j : Int), (eW T j : Int), y) := by
          have e1 := lp_seq (f := fun q : Int × Int × Int × Int × Dt => L_Mo_inWords_y25 q.1 q.2.1 q.2.2.1 q.2.2.2.1 q.2.2.2.2) (fun i => ((T : Int), (j : Int), (sW T j : Int), ((sW T j + i : Nat) : Int), y)) (eW T j - sW T j) (r := ((T : Int), (j : Int), (sW T j : Int), (eW T j : Int), y))
            (by
              intro i hi
              dsimp only
              unfold L_Mo_inWords_y25
              rw [ck_pos cT, charAt_e T (sW T j + i) hT (by omega), bd_e, if_neg (t6 (sW T j + i) (by omega) (by omega)), w32_i (show sW T j + i < 2147483647 by omega)]
              rfl)
            (by
              dsimp only
              unfold L_Mo_inWords_y25
              rw [show sW T j + (eW T j - sW T j) = eW T j by omega, ck_pos cT, charAt_e T (eW T j) hT t2, bd_e, if_pos t5]) (by omega)
          unfold L_Mo_inWords_l25
          exact e1
        have hd : w32 ((eW T j : Int) - (sW T j : Int)) = ((eW T j - sW T j : Nat) : Int) := by rw [w32_s (by omega) (by omega)]; omega
        have hd2 : w32 ((en f n p : Int) - (p : Int)) = ((en f n p - p : Nat) : Int) := by rw [w32_s (by omega) (by omega)]; omega
        have step : ∀ b0 : Bool, b0 = decide (eW T j - sW T j = en f n p - p) → L_Mo_inWords_b63 (T : Int) (j : Int) (sW T j : Int) (eW T j : Int) (b2i b0) y = (if wdK T j = wd f p (en f n p) then some (Sum.inr (Sum.inr ((j : Int), y))) else some (Sum.inl ((T : Int), ((j + 1 : Nat) : Int), (sW T (j + 1) : Int), y))) := by
          intro b0 hb0
          unfold L_Mo_inWords_b63 L_Mo_inWords_b115
          rw [inW_cmp h hn hp hL T hT j hj b0 hb0, lb_e, u4_q]
          by_cases q : wdK T j = wd f p (en f n p)
          · rw [decide_eq_true q, if_neg (show ¬ b2i true = 0 by decide), if_pos q]
          · rw [decide_eq_false q, if_pos (show b2i false = 0 by decide), if_neg q, lt_e, w32_i (show eW T j < 2147483647 by omega), w32_i (show j < 2147483647 by omega), t4]
        dsimp only
        unfold L_Mo_inWords_y14
        rw [ck_pos cT, strLen_e T hT, bd_e, if_pos (by omega), l25, lb_e, u4_q, hd, h.2.2.1, h.2.1, hd2]
        by_cases hl : eW T j - sW T j = en f n p - p
        · have st := step true (decide_eq_true hl).symm
          rw [show b2i true = 1 from rfl] at st
          rw [if_pos (by omega), st]
          by_cases q : wdK T j = wd f p (en f n p)
          · left; rw [if_pos q]; exact ⟨q, _, rfl, rfl⟩
          · right; rw [if_neg q]; exact ⟨q, _, rfl, rfl⟩
        · have st := step false (decide_eq_false hl).symm
          rw [show b2i false = 0 from rfl] at st
          rw [if_neg (by omega), st]
          by_cases q : wdK T j = wd f p (en f n p)
          · left; rw [if_pos q]; exact ⟨q, _, rfl, rfl⟩
          · right; rw [if_neg q]; exact ⟨q, _, rfl, rfl⟩)
      (by
        rintro y rfl
        dsimp only
        unfold L_Mo_inWords_y14
        rw [ck_pos cT, strLen_e T hT, bd_e, if_neg (by omega)]
        exact ⟨_, rfl, rfl⟩) (by omega) x rfl
    unfold L_Mo_inWords_l14 ixB
    have e0 : ((T : Int), (0 : Int), (1 : Int), x') = ((T : Int), ((0 : Nat) : Int), (sW T 0 : Int), x') := by rw [l2]; rfl
    rw [e0]
    rcases a2 with ⟨j, b1, b2, b3, b4⟩ | ⟨b1, b2⟩
    · rw [b4, lb_e, smr_, u1_q, fstN_hit _ _ 0 j (by omega) (by omega) (decide_eq_true b2) (fun k _ h2 => decide_eq_false (b3 k h2))]
    · rw [b2, lb_e, sml_, u0_q, fstN_no _ _ 0 (fun k _ h2 => decide_eq_false (b1 k (by omega)))]
  · rw [if_neg c2, if_neg c2]
