/-! TOKENS: the reference's next -/
theorem ofI_nat' (a : Int) : (Int32.ofInt a).toBitVec.toNat = (a % 4294967296).toNat := by
  show (BitVec.ofInt 32 a).toNat = _
  rw [BitVec.toNat_ofInt]; rfl
theorem iand255 (a : Int) : iand a 255 = a % 256 := by
  show (Int32.ofInt a &&& Int32.ofInt 255).toBitVec.toInt = a % 256
  have h : (Int32.ofInt a &&& Int32.ofInt 255).toBitVec.toNat = (a % 4294967296).toNat % 256 := by
    rw [Int32.toBitVec_and, BitVec.toNat_and, ofI_nat']
    exact Nat.and_two_pow_sub_one_eq_mod _ 8
  rw [BitVec.toInt_eq_toNat_of_lt (by rw [h]; omega), h]
  omega
/-- the reference holds the TEXT's bytes -/
def txB (x : Dt) (f : Nat → Int) (n : Nat) : Prop := x 0 33 = (n : Int) ∧ (∀ k, k < n → x 25 k = f k) ∧ ∀ k, k < n → -128 ≤ f k ∧ f k ≤ 127
def aB (f : Nat → Int) (n k : Nat) : Int := if k < n then f k % 256 else -1
theorem at_e {x : Dt} {f : Nat → Int} {n : Nat} (h : txB x f n) (hn : n ≤ 600) (k : Nat) : L_Mo_at (k : Int) x = some (aB f n k, x) := by
  unfold L_Mo_at aB
  rw [h.1]
  by_cases q : k < n
  · rw [if_pos (by omega), if_pos q, ck_pos ⟨by omega, by omega⟩, tn_i, h.2.1 k q, iand255]
  · rw [if_neg (by omega), if_neg q]
theorem aB_L {f : Nat → Int} {n : Nat} (h : ∀ k, k < n → -128 ≤ f k ∧ f k ≤ 127) (k : Nat) : isL (aB f n k) = (decide (k < n) && isL (f k)) := by
  unfold aB
  by_cases q : k < n
  · have := h k q
    rw [if_pos q, decide_eq_true q, Bool.true_and]
    unfold isL
    by_cases s : 0 ≤ f k
    · rw [show f k % 256 = f k by omega]
    · rw [decide_eq_false (show ¬ f k % 256 ≤ 122 by omega), decide_eq_false (show ¬ 97 ≤ f k by omega), Bool.and_false, Bool.false_and]
  · rw [if_neg q, decide_eq_false q]; rfl
theorem aB_D {f : Nat → Int} {n : Nat} (h : ∀ k, k < n → -128 ≤ f k ∧ f k ≤ 127) (k : Nat) : isD (aB f n k) = (decide (k < n) && isD (f k)) := by
  unfold aB
  by_cases q : k < n
  · have := h k q
    rw [if_pos q, decide_eq_true q, Bool.true_and]
    unfold isD
    by_cases s : 0 ≤ f k
    · rw [show f k % 256 = f k by omega]
    · rw [decide_eq_false (show ¬ f k % 256 ≤ 57 by omega), decide_eq_false (show ¬ 48 ≤ f k by omega), Bool.and_false, Bool.false_and]
  · rw [if_neg q, decide_eq_false q]; rfl
theorem txB.cg {x x' : Dt} {f : Nat → Int} {n : Nat} (h : txB x f n) (h33 : x' 0 33 = x 0 33) (h25 : x' 25 = x 25) : txB x' f n := by
  unfold txB at h ⊢; rw [h33, h25]; exact h
theorem up_end (x : Dt) (v : Int) : ∀ k j, ¬ (k = 0 ∧ j = 36) → up2 x 0 36 v k j = x k j := by
  intro k j h
  by_cases q : k = 0
  · rw [q, up2_j _ _ _ (fun e => h ⟨q, e⟩)]
  · rw [up2_K _ _ _ q]
/-- only the four words of the TOKEN change -/
def nxF (x x' : Dt) : Prop := (∀ k, k ≠ 0 → x' k = x k) ∧ ∀ j, j ≠ 34 → j ≠ 35 → j ≠ 36 → j ≠ 37 → x' 0 j = x 0 j
theorem nxF.rf (x : Dt) : nxF x x := ⟨fun _ _ => rfl, fun _ _ _ _ _ => rfl⟩
theorem nxF.up {x y : Dt} (h : nxF x y) (j : Nat) (v : Int) (hj : j = 34 ∨ j = 35 ∨ j = 36 ∨ j = 37) : nxF x (up2 y 0 j v) := by
  refine ⟨fun k hk => by rw [up2_K _ _ _ hk]; exact h.1 k hk, fun i h1 h2 h3 h4 => ?_⟩
  rw [up2_j _ _ _ (by omega)]; exact h.2 i h1 h2 h3 h4
theorem nxF.tx {x y : Dt} {f : Nat → Int} {n : Nat} (h : nxF x y) (ht : txB x f n) : txB y f n := ht.cg (h.2 33 (by decide) (by decide) (by decide) (by decide)) (h.1 25 (by decide))
theorem nxF.tr {x y z : Dt} (h : nxF x y) (h2 : nxF y z) : nxF x z := ⟨fun k hk => by rw [h2.1 k hk]; exact h.1 k hk, fun j h1 h3 h4 h5 => by rw [h2.2 j h1 h3 h4 h5]; exact h.2 j h1 h3 h4 h5⟩
theorem spB_e {x : Dt} {f : Nat → Int} {n : Nat} (h : txB x f n) (hn : n ≤ 600) (q : Nat) (hq : q ≤ n) (h36 : x 0 36 = (q : Int)) : ∃ y, L_Mo_next_l0 x = some y ∧ nxF x y ∧ y 0 36 = (run isSp f n q : Int) ∧ (∀ j, j ≠ 36 → y 0 j = x 0 j) := by
  obtain ⟨m, hm⟩ : ∃ m, run isSp f n q = q + m := ⟨run isSp f n q - q, by have := run_b isSp f n q; omega⟩
  have hb := (run_b isSp f n q).2 hq
  obtain ⟨y, e1, e2, e3, e4⟩ := lp_inv (f := fun s : Dt => L_Mo_next_y0 s) (fun _ y => y) (fun y => y) (fun i y => nxF x y ∧ y 0 36 = ((q + i : Nat) : Int) ∧ ∀ j, j ≠ 36 → y 0 j = x 0 j) m
    (by
      rintro i y hi ⟨f1, f2, f3⟩
      have hin := run_in isSp f n q (q + i) (by omega) (by omega)
      unfold isSp at hin
      rw [Bool.or_eq_true, decide_eq_true_eq, decide_eq_true_eq] at hin
      have ha : aB f n (q + i) = f (q + i) := by unfold aB; rw [if_pos (by omega)]; omega
      refine ⟨up2 y 0 36 ((q + i + 1 : Nat) : Int), ?_, f1.up 36 _ (by omega), up2_s _ _ _ _, fun j hj => by rw [up2_j _ _ _ hj]; exact f3 j hj⟩
      unfold L_Mo_next_y0 L_Mo_next_b26
      rw [f2, at_e (f1.tx h) hn, bd_e, ha, f2, at_e (f1.tx h) hn, bd_e, ha, f2, w32_i (show q + i < 2147483647 by omega)]
      rcases hin with c | c
      · rw [if_neg (by omega), if_pos c]
      · rw [if_pos c])
    (by
      rintro y ⟨f1, f2, f3⟩
      unfold L_Mo_next_y0
      rw [f2, at_e (f1.tx h) hn, bd_e, f2, at_e (f1.tx h) hn, bd_e]
      have : ¬ (aB f n (q + m) = 10 ∨ aB f n (q + m) = 32) := by
        unfold aB
        by_cases c : q + m < n
        · have hout := run_out isSp f n q hq (by omega)
          rw [hm] at hout
          unfold isSp at hout
          rw [Bool.or_eq_true, decide_eq_true_eq, decide_eq_true_eq] at hout
          have := h.2.2 (q + m) c
          rw [if_pos c]; omega
        · rw [if_neg c]; omega
      rw [if_neg (fun z => this (Or.inr z)), if_neg (fun z => this (Or.inl z))]) (by omega) x ⟨nxF.rf x, h36, fun _ _ => rfl⟩
  refine ⟨y, ?_, e2, by rw [hm]; exact e3, e4⟩
  unfold L_Mo_next_l0
  exact e1
def nuB (f : Nat → Int) (p : Nat) : Nat → Int
  | 0 => 0
  | i + 1 => min 1000000 (10 * nuB f p i + f (p + i) - 48)
theorem nuB_b (f : Nat → Int) (p : Nat) : ∀ i : Nat, (∀ j, j < i → isD (f (p + j)) = true) → 0 ≤ nuB f p i ∧ nuB f p i ≤ 1000000
  | 0, _ => by simp only [nuB]; omega
  | i + 1, h => by
    have ih := nuB_b f p i (fun j hj => h j (by omega))
    have := isD_b (h i (by omega))
    simp only [nuB]; omega
/-- the reference's kind of TOKEN, and its value -/
def tyB (f : Nat → Int) (n p : Nat) : Int := if p < n then (if isL (f p) = true then 2 else if isD (f p) = true then (if 5 < en f n p - p then 1 else 3) else if isSg (f p) = true then 4 else 1) else 0
def vB (f : Nat → Int) (n p : Nat) : Int := if p < n ∧ isD (f p) = true then nuB f p (en f n p - p) else aB f n p
def tkB (x : Dt) (f : Nat → Int) (n p : Nat) : Prop := txB x f n ∧ x 0 35 = (p : Int) ∧ x 0 36 = (en f n p : Int) ∧ x 0 34 = tyB f n p ∧ x 0 37 = vB f n p
theorem next_e {x : Dt} {f : Nat → Int} {n : Nat} (h : txB x f n) (hn : n ≤ 600) (q : Nat) (hq : q ≤ n) (h36 : x 0 36 = (q : Int)) : ∃ y, L_Mo_next x = some (0, y) ∧ nxF x y ∧ tkB y f n (run isSp f n q) := by
  obtain ⟨y, a1, a2, a3, a4⟩ := spB_e h hn q hq h36
  obtain ⟨p, hp⟩ : ∃ p, p = run isSp f n q := ⟨_, rfl⟩
  have hpn : p ≤ n := by rw [hp]; exact (run_b isSp f n q).2 hq
  rw [← hp] at a3 ⊢
  obtain ⟨y1, hy1⟩ : ∃ z, z = up2 y 0 35 (p : Int) := ⟨_, rfl⟩
  have f1 : nxF x y1 := by rw [hy1]; exact a2.up 35 _ (by omega)
  have y136 : y1 0 36 = (p : Int) := by rw [hy1, up2_j _ _ _ (by decide)]; exact a3
  have y135 : y1 0 35 = (p : Int) := by rw [hy1, up2_s]
  obtain ⟨y2, hy2⟩ : ∃ z, z = up2 y1 0 37 (aB f n p) := ⟨_, rfl⟩
  have f2 : nxF x y2 := by rw [hy2]; exact f1.up 37 _ (by omega)
  have y236 : y2 0 36 = (p : Int) := by rw [hy2, up2_j _ _ _ (by decide)]; exact y136
  have y235 : y2 0 35 = (p : Int) := by rw [hy2, up2_j _ _ _ (by decide)]; exact y135
  have y237 : y2 0 37 = aB f n p := by rw [hy2, up2_s]
  unfold L_Mo_next
  rw [a1, lb_e, u0_q, a3, ← hy1, at_e (f1.tx h) hn, bd_e, ← hy2]
  by_cases c : p < n
  · have hb := h.2.2 p c
    have hne : ¬ aB f n p = -1 := by unfold aB; rw [if_pos c]; omega
    rw [if_neg hne, e_isSmallB, bd_e, aB_L h.2.2, decide_eq_true c, Bool.true_and]
    unfold tkB tyB vB en
    simp only [if_pos c]
    by_cases q1 : isL (f p) = true
    · have q1d : ¬ isD (f p) = true := by intro z; have := isL_b q1; have := isD_b z; omega
      rw [q1, if_neg (show ¬ b2i true = 0 by decide)]
      simp only [if_true, if_neg (show ¬ (p < n ∧ isD (f p) = true) from fun z => q1d z.2)]
      obtain ⟨m, hm⟩ : ∃ m, run isL f n p = p + m := ⟨run isL f n p - p, by have := run_b isL f n p; omega⟩
      have hb2 := (run_b isL f n p).2 hpn
      obtain ⟨u, e1, e2, e3, e4⟩ := lp_inv (f := fun s : Dt => L_Mo_next_y81 s) (fun _ y => y) (fun y => y) (fun i z => nxF x z ∧ z 0 36 = ((p + i : Nat) : Int) ∧ ∀ j, j ≠ 36 → z 0 j = y2 0 j) m
        (by
          rintro i z hi ⟨g1, g2, g3⟩
          have hin := run_in isL f n p (p + i) (by omega) (by omega)
          refine ⟨up2 z 0 36 ((p + i + 1 : Nat) : Int), ?_, g1.up 36 _ (by omega), up2_s _ _ _ _, fun j hj => by rw [up2_j _ _ _ hj]; exact g3 j hj⟩
          unfold L_Mo_next_y81
          rw [g2, at_e (g1.tx h) hn, bd_e, e_isSmallB, bd_e, aB_L h.2.2, decide_eq_true (show p + i < n by omega), Bool.true_and, hin, if_neg (show ¬ b2i true = 0 by decide), g2, w32_i (show p + i < 2147483647 by omega)])
        (by
          rintro z ⟨g1, g2, g3⟩
          unfold L_Mo_next_y81
          rw [g2, at_e (g1.tx h) hn, bd_e, e_isSmallB, bd_e, aB_L h.2.2]
          have : (decide (p + m < n) && isL (f (p + m))) = false := by
            by_cases c2 : p + m < n
            · have hout := run_out isL f n p hpn (by omega)
              rw [hm] at hout
              rw [bool_f hout, Bool.and_false]
            · rw [decide_eq_false c2, Bool.false_and]
          rw [this, if_pos (show b2i false = 0 by decide)]) (by omega) y2 ⟨f2, y236, fun _ _ => rfl⟩
      unfold L_Mo_next_l81
      rw [e1, lb_e, u0_q]
      refine ⟨_, rfl, e2.up 34 _ (by omega), (e2.up 34 _ (by omega)).tx h, ?_, ?_, up2_s _ _ _ _, ?_⟩
      · rw [up2_j _ _ _ (by decide), e4 35 (by decide)]; exact y235
      · rw [up2_j _ _ _ (by decide), e3, hm]
      · rw [up2_j _ _ _ (by decide), e4 37 (by decide)]; exact y237
    · rw [bool_f q1, if_pos (show b2i false = 0 by decide), e_isDigitB, bd_e, aB_D h.2.2, decide_eq_true c, Bool.true_and]
      simp only [if_neg (show ¬ (false = true) by decide)]
      by_cases q2 : isD (f p) = true
      · rw [q2, if_neg (show ¬ b2i true = 0 by decide)]
        simp only [if_true, and_true, if_pos c]
        obtain ⟨m, hm⟩ : ∃ m, run isD f n p = p + m := ⟨run isD f n p - p, by have := run_b isD f n p; omega⟩
        have hb2 := (run_b isD f n p).2 hpn
        have hall : ∀ j, j < m → isD (f (p + j)) = true := fun j hj => run_in isD f n p (p + j) (by omega) (by omega)
        obtain ⟨u, e1, e2, e3, e4, e5⟩ := lp_inv (f := fun s : Dt => L_Mo_next_y128 s) (fun _ y => y) (fun y => y) (fun i z => nxF x z ∧ z 0 36 = ((p + i : Nat) : Int) ∧ z 0 37 = nuB f p i ∧ ∀ j, j ≠ 36 → j ≠ 37 → z 0 j = y2 0 j) m
          (by
            rintro i z hi ⟨g1, g2, g3, g4⟩
            have hin := hall i hi
            have hd := isD_b hin
            have hnb := nuB_b f p i (fun j hj => hall j (by omega))
            have ha : aB f n (p + i) = f (p + i) := by unfold aB; rw [if_pos (by omega)]; omega
            refine ⟨up2 (up2 z 0 37 (nuB f p (i + 1))) 0 36 ((p + i + 1 : Nat) : Int), ?_, (g1.up 37 _ (by omega)).up 36 _ (by omega), up2_s _ _ _ _, by rw [up2_j _ _ _ (by decide), up2_s], fun j h1 h2 => by rw [up2_j _ _ _ h1, up2_j _ _ _ h2]; exact g4 j h1 h2⟩
            unfold L_Mo_next_y128
            rw [g2, at_e (g1.tx h) hn, bd_e, e_isDigitB, bd_e, aB_D h.2.2, decide_eq_true (show p + i < n by omega), Bool.true_and, hin, if_neg (show ¬ b2i true = 0 by decide), g2, at_e (g1.tx h) hn, bd_e, g2, g3, ha, w32_i (show p + i < 2147483647 by omega), w32_s (x := 10 * nuB f p i) (by omega) (by omega), w32_s (x := 10 * nuB f p i + f (p + i)) (by omega) (by omega), w32_s (x := 10 * nuB f p i + f (p + i) - 48) (by omega) (by omega), jmin_e]
            rfl)
          (by
            rintro z ⟨g1, g2, g3, g4⟩
            unfold L_Mo_next_y128
            rw [g2, at_e (g1.tx h) hn, bd_e, e_isDigitB, bd_e, aB_D h.2.2]
            have : (decide (p + m < n) && isD (f (p + m))) = false := by
              by_cases c2 : p + m < n
              · have hout := run_out isD f n p hpn (by omega)
                rw [hm] at hout
                rw [bool_f hout, Bool.and_false]
              · rw [decide_eq_false c2, Bool.false_and]
            rw [this, if_pos (show b2i false = 0 by decide)]) (by omega) (up2 y2 0 37 0) ⟨f2.up 37 _ (by omega), by rw [up2_j _ _ _ (by decide)]; exact y236, by rw [up2_s]; rfl, fun j h1 h2 => up2_j _ _ _ h2⟩
        have u35 : u 0 35 = (p : Int) := by rw [e5 35 (by decide) (by decide)]; exact y235
        unfold L_Mo_next_l128 L_Mo_next_b203
        rw [e1, lb_e, u0_q, e3, u35, show ((p + m : Nat) : Int) - (p : Int) = (m : Int) by omega, w32_s (x := (m : Int)) (by omega) (by omega), hm, show p + m - p = m by omega]
        have fin : ∀ v : Int, ∃ z, (some (0, up2 u 0 34 v) : Option (Int × Dt)) = some (0, z) ∧ nxF x z ∧ txB z f n ∧ z 0 35 = (p : Int) ∧ z 0 36 = ((p + m : Nat) : Int) ∧ z 0 34 = v ∧ z 0 37 = nuB f p m := fun v => ⟨_, rfl, e2.up 34 _ (by omega), (e2.up 34 _ (by omega)).tx h, by rw [up2_j _ _ _ (by decide)]; exact u35, by rw [up2_j _ _ _ (by decide)]; exact e3, up2_s _ _ _ _, by rw [up2_j _ _ _ (by decide)]; exact e4⟩
        by_cases q3 : 5 < m
        · rw [if_pos (show (5 : Int) < (m : Int) by omega), if_pos q3]; exact fin 1
        · rw [if_neg (show ¬ (5 : Int) < (m : Int) by omega), if_neg q3]; exact fin 3
      · rw [bool_f q2, if_pos (show b2i false = 0 by decide)]
        simp only [if_neg (show ¬ (false = true) by decide), if_neg (show ¬ (p < n ∧ false = true) from fun z => absurd z.2 (by decide))]
        unfold L_Mo_next_b284 L_Mo_next_b295
        have fin : ∀ v : Int, ∃ z, (some (0, up2 (up2 y2 0 36 (w32 (y2 0 36 + 1))) 0 34 v) : Option (Int × Dt)) = some (0, z) ∧ nxF x z ∧ txB z f n ∧ z 0 35 = (p : Int) ∧ z 0 36 = ((p + 1 : Nat) : Int) ∧ z 0 34 = v ∧ z 0 37 = aB f n p := fun v => ⟨_, rfl, (f2.up 36 _ (by omega)).up 34 _ (by omega), ((f2.up 36 _ (by omega)).up 34 _ (by omega)).tx h, by rw [up2_j _ _ _ (by decide), up2_j _ _ _ (by decide)]; exact y235, by rw [up2_j _ _ _ (by decide), up2_s, y236, w32_i (show p < 2147483647 by omega)], up2_s _ _ _ _, by rw [up2_j _ _ _ (by decide), up2_j _ _ _ (by decide)]; exact y237⟩
        have hsg : isSg (f p) = true ↔ (aB f n p = 59 ∨ aB f n p = 58 ∨ aB f n p = 60 ∨ aB f n p = 62 ∨ aB f n p = 61 ∨ aB f n p = 43 ∨ aB f n p = 45 ∨ aB f n p = 42 ∨ aB f n p = 40 ∨ aB f n p = 41) := by
          unfold isSg aB
          rw [if_pos c]
          simp only [Bool.or_eq_true, Bool.and_eq_true, decide_eq_true_eq]
          omega
        by_cases s : isSg (f p) = true
        · rw [if_pos s]
          rcases hsg.1 s with z | z | z | z | z | z | z | z | z | z <;> rw [z] <;> simp (disch := decide) only [if_neg, if_pos] <;> (have := fin 4; rw [z] at this; exact this)
        · rw [if_neg s]
          have ns := fun z => s (hsg.2 z)
          rw [if_neg (fun z => ns (by omega)), if_neg (fun z => ns (by omega)), if_neg (fun z => ns (by omega)), if_neg (fun z => ns (by omega)), if_neg (fun z => ns (by omega)), if_neg (fun z => ns (by omega)), if_neg (fun z => ns (by omega)), if_neg (fun z => ns (by omega)), if_neg (fun z => ns (by omega)), if_neg (fun z => ns (by omega)), if_pos rfl]
          exact fin 1
  · have ha : aB f n p = -1 := by unfold aB; rw [if_neg c]
    rw [ha, if_pos rfl]
    unfold tkB tyB vB en
    simp only [if_neg c, if_neg (show ¬ (p < n ∧ isD (f p) = true) from fun z => c z.1)]
    rw [ha] at y237
    refine ⟨_, rfl, f2.up 34 _ (by omega), (f2.up 34 _ (by omega)).tx h, by rw [up2_j _ _ _ (by decide)]; exact y235, by rw [up2_j _ _ _ (by decide)]; exact y236, up2_s _ _ _ _, by rw [up2_j _ _ _ (by decide), y237]; exact ha.symm⟩
