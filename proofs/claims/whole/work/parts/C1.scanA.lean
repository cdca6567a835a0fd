/-! TOKENS: the class's scan -/
theorem lp_wf {σ ρ : Type} {f : σ → Option (σ ⊕ ρ)} (Inv : σ → Prop) (mu : σ → Nat) (post : ρ → Prop) (hs : ∀ s, Inv s → (∃ s', f s = some (.inl s') ∧ Inv s' ∧ mu s' < mu s) ∨ (∃ r, f s = some (.inr r) ∧ post r)) (s0 : σ) (h0 : Inv s0) (hm : mu s0 < 999999) : ∃ r, lpF f FU s0 = some r ∧ post r := by
  have key : ∀ (k : Nat) (s : σ), Inv s → mu s ≤ k → ∀ fuel, k < fuel → ∃ r, lpF f fuel s = some r ∧ post r := by
    intro k
    induction k with
    | zero =>
      intro s hI hk fuel hf
      obtain ⟨g, rfl⟩ : ∃ g, fuel = g + 1 := ⟨fuel - 1, by omega⟩
      rcases hs s hI with ⟨s', _, _, h⟩ | ⟨r, h1, h2⟩
      · omega
      · refine ⟨r, ?_, h2⟩
        unfold lpF; rw [h1]
    | succ k ih =>
      intro s hI hk fuel hf
      obtain ⟨g, rfl⟩ : ∃ g, fuel = g + 1 := ⟨fuel - 1, by omega⟩
      rcases hs s hI with ⟨s', h1, h2, h3⟩ | ⟨r, h1, h2⟩
      · obtain ⟨r, a1, a2⟩ := ih s' h2 (by omega) g (by omega)
        refine ⟨r, ?_, a2⟩
        unfold lpF; rw [h1]; exact a1
      · refine ⟨r, ?_, h2⟩
        unfold lpF; rw [h1]
  exact key (mu s0) s0 h0 (Nat.le_refl _) FU (by show mu s0 < 1000000; omega)
theorem lshl_n (a n : Nat) (hn : n < 64) (h : a * 2 ^ n < 9223372036854775808) : lshl (a : Int) (n : Int) = ((a * 2 ^ n : Nat) : Int) := by
  have hp : 0 < 2 ^ n := Nat.two_pow_pos n
  have ha : a < 9223372036854775808 := Nat.lt_of_le_of_lt (Nat.le_mul_of_pos_right a hp) h
  show (Int64.ofInt (a : Int) <<< ((Int32.ofInt (n : Int)).toInt64 &&& 63)).toBitVec.toInt = _
  rw [Int64.toBitVec_shiftLeft]
  show ((Int64.ofInt (a : Int)).toBitVec <<< (((Int32.ofInt (n : Int)).toInt64 &&& 63).toBitVec.smod 64#64).toNat).toInt = _
  rw [sh_key ⟨n, hn⟩]
  have e : ((Int64.ofInt (a : Int)).toBitVec <<< n).toNat = a * 2 ^ n := by
    rw [BitVec.toNat_shiftLeft, ofL_nat, show ((a : Int) % 18446744073709551616).toNat = a by omega, Nat.shiftLeft_eq]
    exact Nat.mod_eq_of_lt (by omega)
  rw [BitVec.toInt_eq_toNat_of_lt (by rw [e]; omega), e]
/-- the letters of the word that stands from p to e -/
def wd (f : Nat → Int) (p e : Nat) : List Int := (List.range (e - p)).map (fun i => f (p + i) - 96)
theorem wd_s (f : Nat → Int) (p i : Nat) : wd f p (p + (i + 1)) = wd f p (p + i) ++ [f (p + i) - 96] := by
  unfold wd
  rw [show p + (i + 1) - p = i + 1 by omega, show p + i - p = i by omega, List.range_succ, List.map_append]; rfl
theorem wd_0 (f : Nat → Int) (p : Nat) : wd f p p = [] := by unfold wd; rw [Nat.sub_self]; rfl
theorem wd_len (f : Nat → Int) (p e : Nat) : (wd f p e).length = e - p := by unfold wd; rw [List.length_map, List.length_range]
theorem pk5_s (w : List Int) (x : Int) : pk5 (w ++ [x]) = pk5 w * 32 + x := by unfold pk5; rw [List.foldl_append]; rfl
theorem pk8_s (w : List Int) (x : Int) : pk8 (w ++ [x]) = pk8 w * 256 + (x + 96) := by unfold pk8; rw [List.foldl_append]; rfl
theorem isL_b {c : Int} (h : isL c = true) : 97 ≤ c ∧ c ≤ 122 := by
  unfold isL at h; rw [Bool.and_eq_true, decide_eq_true_eq, decide_eq_true_eq] at h; exact h
theorem isD_b {c : Int} (h : isD c = true) : 48 ≤ c ∧ c ≤ 57 := by
  unfold isD at h; rw [Bool.and_eq_true, decide_eq_true_eq, decide_eq_true_eq] at h; exact h
theorem wd_W (f : Nat → Int) (p e : Nat) (h1 : p < e) (h8 : e - p ≤ 8) (hl : ∀ j, p ≤ j → j < e → isL (f j) = true) : isW (wd f p e) := by
  refine ⟨?_, by rw [wd_len]; exact h8, ?_⟩
  · intro h
    have := congrArg List.length h
    rw [wd_len] at this
    have t : e - p = 0 := this
    omega
  · intro x hx
    unfold wd at hx
    rw [List.mem_map] at hx
    obtain ⟨i, hi, rfl⟩ := hx
    have := List.mem_range.mp hi
    have := isL_b (hl (p + i) (by omega) (by omega))
    omega
theorem pk5_b : ∀ (m : Nat) (w : List Int), w.length = m → (∀ x, x ∈ w → 1 ≤ x ∧ x ≤ 26) → 0 ≤ pk5 w ∧ pk5 w < 32 ^ m := by
  intro m
  induction m with
  | zero => intro w hw _; rw [List.length_eq_zero_iff.mp hw]; decide
  | succ m ih =>
    intro w hw hx
    have hne : w ≠ [] := by intro h; rw [h] at hw; simp at hw
    obtain ⟨u, x, rfl⟩ : ∃ u x, w = u ++ [x] := ⟨w.dropLast, w.getLast hne, (List.dropLast_concat_getLast hne).symm⟩
    rw [List.length_append] at hw
    have hu := ih u (by have : u.length + 1 = m + 1 := hw; omega) (fun y hy => hx y (List.mem_append_left _ hy))
    have hxx := hx x (List.mem_append_right _ List.mem_cons_self)
    rw [pk5_s, Int.pow_succ]
    omega
/-- A's index of a word -/
def ixA (T : Nat) (w : Int) : Int := fstN (fun i => decide (kw T i = w)) 0 (kwT T).length
theorem indexIn_e (T : Nat) (hT : T = 1000001 ∨ T = 1000002) (w : Int) (d : Dt) : L_Pa_indexIn (T : Int) w d = some (ixA T w, d) := by
  have hl : (kwT T).length ≤ 11 := by rcases hT with rfl | rfl <;> decide
  have cT : (T : Int) = 1000001 ∨ (T : Int) = 1000002 := by omega
  obtain ⟨x', rfl, a2⟩ := lp_find (f := fun q : Int × Int × Int × Dt => L_Pa_indexIn_y2 q.1 q.2.1 q.2.2.1 q.2.2.2) (fun j y => ((T : Int), w, (j : Int), y)) (fun j y => Sum.inr ((j : Int), y)) (fun y => Sum.inl y) (fun y => y = d) (fun j => kw T j = w) (kwT T).length
    (by
      rintro j y hj rfl
      dsimp only
      unfold L_Pa_indexIn_y2
      rw [ck_pos cT, tn_i, if_pos (by omega), ck_pos cT, ck_pos ⟨by omega, by omega⟩, tn_i, w32_i (show j < 2147483647 by omega)]
      by_cases q : kw T j = w
      · left; rw [if_pos q]; exact ⟨q, _, rfl, rfl⟩
      · right; rw [if_neg q]; exact ⟨q, _, rfl, rfl⟩)
    (by
      rintro y rfl
      dsimp only
      unfold L_Pa_indexIn_y2
      rw [ck_pos cT, tn_i, if_neg (by omega)]
      exact ⟨_, rfl, rfl⟩) (by omega) d rfl
  unfold L_Pa_indexIn L_Pa_indexIn_l2 ixA
  rcases a2 with ⟨j, b1, b2, b3, b4⟩ | ⟨b1, b2⟩
  · rw [show lpF (fun q : Int × Int × Int × Dt => L_Pa_indexIn_y2 q.1 q.2.1 q.2.2.1 q.2.2.2) FU ((T : Int), w, 0, x') = _ from b4, lb_e, smr_, u1_q, fstN_hit _ _ 0 j (by omega) (by omega) (decide_eq_true b2) (fun k _ h2 => decide_eq_false (b3 k h2))]
  · rw [show lpF (fun q : Int × Int × Int × Dt => L_Pa_indexIn_y2 q.1 q.2.1 q.2.2.1 q.2.2.2) FU ((T : Int), w, 0, x') = _ from b2, lb_e, sml_, u0_q, fstN_no _ _ 0 (fun k _ h2 => decide_eq_false (b1 k (by omega)))]
def nuW (f : Nat → Int) (p : Nat) : Nat → Int
  | 0 => 0
  | i + 1 => w64 (w64 (w64 (nuW f p i * 10) + f (p + i)) - 48)
/-- kind and value of the TOKEN at p, as the class tells them -/
def kdW (w : Int) : Int := if ixA 1000001 w = -1 then (if ixA 1000002 w = -1 then 3 else 4) else 16 + ixA 1000001 w
def vlW (w : Int) : Int := if ixA 1000001 w = -1 then (if ixA 1000002 w = -1 then w else ixA 1000002 w) else 0
def kd (f : Nat → Int) (n p : Nat) : Int := if p < n then (if isL (f p) = true then (if 8 < en f n p - p then 5 else kdW (pk5 (wd f p (en f n p)))) else if isD (f p) = true then (if 5 < en f n p - p then 1 else 2) else if isSg (f p) = true then f p else 1) else 0
def vl (f : Nat → Int) (n p : Nat) : Int := if isL (f p) = true then (if 8 < en f n p - p then 0 else vlW (pk5 (wd f p (en f n p)))) else if isD (f p) = true then nuW f p (en f n p - p) else 0
theorem ixA_b (T : Nat) (hT : T = 1000001 ∨ T = 1000002) (w : Int) : -1 ≤ ixA T w ∧ ixA T w < 11 := by
  have hl : (kwT T).length ≤ 11 := by rcases hT with rfl | rfl <;> decide
  unfold ixA
  rcases fstN_rg (fun i => decide (kw T i = w)) (kwT T).length 0 with h | ⟨m, h1, h2⟩
  · rw [h]; omega
  · rw [h2]; omega
theorem run_L (f : Nat → Int) (n p : Nat) (hp : p < n) (h : isL (f p) = true) (j : Nat) (h1 : p ≤ j) (h2 : j < en f n p) : isL (f j) = true := by
  unfold en at h2
  rw [if_pos hp, if_pos h] at h2
  exact run_in isL f n p j h1 h2
theorem scanWord_e (d : Dt) (n t p : Nat) (hn : n ≤ 600) (hp : p < n) (ht : t ≤ 600) (hl : isL (d 26 p) = true) (h28 : d 28 t = 0) : ∃ d', L_Pa_scanWord (t : Int) (p : Int) (en (d 26) n p : Int) d = some (0, d') ∧ (∀ k, k ≠ 27 → k ≠ 28 → d' k = d k) ∧ (∀ j, j ≠ t → d' 27 j = d 27 j ∧ d' 28 j = d 28 j) ∧ d' 27 t = kd (d 26) n p ∧ d' 28 t = vl (d 26) n p := by
  obtain ⟨hb1, hb2⟩ := en_b (d 26) n p hp
  obtain ⟨m, hm⟩ : ∃ m, en (d 26) n p = p + m := ⟨en (d 26) n p - p, by omega⟩
  have hin := run_L (d 26) n p hp hl
  have ct : (0 : Int) ≤ (t : Int) ∧ (t : Int) < 601 := by omega
  unfold kd vl
  rw [if_pos hp, if_pos hl, if_pos hl]
  rw [hm] at hin ⊢
  unfold L_Pa_scanWord
  rw [show p + m - p = m by omega, show ((p + m : Nat) : Int) - (p : Int) = (m : Int) by omega, w32_s (x := (m : Int)) (by omega) (by omega)]
  by_cases q : 8 < m
  · rw [if_pos (show (8 : Int) < (m : Int) by omega), if_pos q, if_pos q, ck_pos ct, tn_i]
    exact ⟨_, rfl, fun k h1 _ => up2_K _ _ _ h1, fun j hj => ⟨up2_j _ _ _ hj, by rw [up2_K _ _ _ (by decide)]⟩, up2_s _ _ _ _, by rw [up2_K _ _ _ (by decide)]; exact h28⟩
  · rw [if_neg (show ¬ (8 : Int) < (m : Int) by omega), if_neg q, if_neg q]
    have hpk : ∀ i, i ≤ m → 0 ≤ pk5 (wd (d 26) p (p + i)) ∧ pk5 (wd (d 26) p (p + i)) < 32 ^ 8 := by
      intro i hi
      have h := pk5_b i (wd (d 26) p (p + i)) (by rw [wd_len]; omega) (by
        intro x hx
        unfold wd at hx
        rw [List.mem_map] at hx
        obtain ⟨j, hj, rfl⟩ := hx
        have := List.mem_range.mp hj
        have := isL_b (hin (p + j) (by omega) (by omega))
        omega)
      have : (32 : Int) ^ i ≤ 32 ^ 8 := by
        have : i = 0 ∨ i = 1 ∨ i = 2 ∨ i = 3 ∨ i = 4 ∨ i = 5 ∨ i = 6 ∨ i = 7 ∨ i = 8 := by omega
        rcases this with rfl | rfl | rfl | rfl | rfl | rfl | rfl | rfl | rfl <;> decide
      omega
    have e1 := lp_seq (f := fun q : Int × Int × Int × Int × Dt => L_Pa_scanWord_y22 q.1 q.2.1 q.2.2.1 q.2.2.2.1 q.2.2.2.2) (fun i => ((t : Int), ((p + m : Nat) : Int), pk5 (wd (d 26) p (p + i)), ((p + i : Nat) : Int), d)) m (r := ((t : Int), pk5 (wd (d 26) p (p + m)), d))
      (by
        intro i hi
        obtain ⟨g1, g2⟩ := hpk i (by omega)
        obtain ⟨a, ha⟩ : ∃ a : Nat, pk5 (wd (d 26) p (p + i)) = (a : Int) := ⟨(pk5 (wd (d 26) p (p + i))).toNat, by omega⟩
        have hc := isL_b (hin (p + i) (by omega) (by omega))
        have h8 : (32 : Int) ^ 8 = 1099511627776 := by decide
        have hsh := lshl_n a 5 (by decide) (by omega)
        dsimp only
        unfold L_Pa_scanWord_y22
        rw [if_pos (by omega), ck_pos ⟨by omega, by omega⟩, tn_i, lt_e, wd_s, pk5_s, ha, show lshl (a : Int) 5 = ((a * 2 ^ 5 : Nat) : Int) from hsh, w64_s (x := ((a * 2 ^ 5 : Nat) : Int) + d 26 (p + i)) (by omega) (by omega), w64_s (x := ((a * 2 ^ 5 : Nat) : Int) + d 26 (p + i) - 97) (by omega) (by omega), w64_s (x := ((a * 2 ^ 5 : Nat) : Int) + d 26 (p + i) - 97 + 1) (by omega) (by omega), w32_i (show p + i < 2147483647 by omega), show ((a * 2 ^ 5 : Nat) : Int) + d 26 (p + i) - 97 + 1 = (a : Int) * 32 + (d 26 (p + i) - 96) by omega]
        rfl)
      (by
        dsimp only
        unfold L_Pa_scanWord_y22
        rw [if_neg (by omega)]) (by omega)
    rw [show p + 0 = p from rfl, wd_0] at e1
    have b1 := ixA_b 1000001 (Or.inl rfl) (pk5 (wd (d 26) p (p + m)))
    unfold L_Pa_scanWord_l22
    rw [show lpF (fun q : Int × Int × Int × Int × Dt => L_Pa_scanWord_y22 q.1 q.2.1 q.2.2.1 q.2.2.2.1 q.2.2.2.2) FU ((t : Int), ((p + m : Nat) : Int), 0, (p : Int), d) = _ from e1, lb_e, u2_q, show (1000001 : Int) = ((1000001 : Nat) : Int) from rfl, indexIn_e 1000001 (Or.inl rfl), bd_e, show (1000002 : Int) = ((1000002 : Nat) : Int) from rfl, indexIn_e 1000002 (Or.inr rfl), bd_e]
    unfold kdW vlW
    by_cases q1 : ixA 1000001 (pk5 (wd (d 26) p (p + m))) = -1
    · rw [if_pos q1, if_pos q1, if_pos q1]
      unfold L_Pa_scanWord_b111 L_Pa_scanWord_b131
      have fin : ∀ a b : Int, ∃ d', (some (0, up2 (up2 d 27 t a) 28 t b) : Option (Int × Dt)) = some (0, d') ∧ (∀ k, k ≠ 27 → k ≠ 28 → d' k = d k) ∧ (∀ j, j ≠ t → d' 27 j = d 27 j ∧ d' 28 j = d 28 j) ∧ d' 27 t = a ∧ d' 28 t = b := fun a b => ⟨_, rfl, fun k h1 h2 => by rw [up2_K _ _ _ h2, up2_K _ _ _ h1], fun j hj => ⟨by rw [up2_K _ _ _ (by decide), up2_j _ _ _ hj], by rw [up2_j _ _ _ hj, up2_K _ _ _ (by decide)]⟩, by rw [up2_K _ _ _ (by decide), up2_s], by rw [up2_s]⟩
      by_cases q2 : ixA 1000002 (pk5 (wd (d 26) p (p + m))) = -1
      · rw [if_pos q2, if_pos q2, if_pos q2, if_pos q2, ck_pos ct, ck_pos ct, tn_i]; exact fin _ _
      · rw [if_neg q2, if_neg q2, if_neg q2, if_neg q2, ck_pos ct, ck_pos ct, tn_i]; exact fin _ _
    · rw [if_neg q1, if_neg q1, if_neg q1, ck_pos ct, tn_i, w32_s (by omega) (by omega)]
      exact ⟨_, rfl, fun k h1 _ => up2_K _ _ _ h1, fun j hj => ⟨up2_j _ _ _ hj, by rw [up2_K _ _ _ (by decide)]⟩, up2_s _ _ _ _, by rw [up2_K _ _ _ (by decide)]; exact h28⟩
