/-! TOKENS: both sides tell the same -/
def kB (k : Int) : Int := if k = 16 then 0 else if k = 17 then 1 else if k = 18 then 6 else if k = 19 then 2 else if k = 20 then 3 else if k = 21 then 4 else if k = 22 then 5 else if 23 ≤ k ∧ k ≤ 26 then k - 16 else -1
def ixW (T : Nat) (w : List Int) : Int := fstN (fun j => decide (wdK T j = w)) 0 (nW T)
def pmA (i : Nat) : Nat := [0, 1, 6, 2, 3, 4, 5, 7, 8, 9, 10].getD i 0
theorem key1 : ∀ j : Fin 11, ixW 1000003 (wdK 1000003 j.val) = (j.val : Int) ∧ ixW 1000004 (wdK 1000003 j.val) = -1 ∧ kB (kdW (pk5 (wdK 1000003 j.val))) = (j.val : Int) ∧ 16 ≤ kdW (pk5 (wdK 1000003 j.val)) ∧ kdW (pk5 (wdK 1000003 j.val)) ≤ 26 := by decide +kernel
theorem key2 : ∀ j : Fin 9, ixW 1000003 (wdK 1000004 j.val) = -1 ∧ ixW 1000004 (wdK 1000004 j.val) = (j.val : Int) ∧ kdW (pk5 (wdK 1000004 j.val)) = 4 ∧ vlW (pk5 (wdK 1000004 j.val)) = (j.val : Int) := by decide +kernel
theorem key3 : (∀ i : Fin 11, kw 1000001 i.val = pk5 (wdK 1000003 (pmA i.val)) ∧ pmA i.val < 11) ∧ ∀ i : Fin 9, kw 1000002 i.val = pk5 (wdK 1000004 i.val) := by decide +kernel
theorem key4 : (∀ i : Fin 11, wdK 1000003 i.val ≠ [] ∧ (wdK 1000003 i.val).length ≤ 8 ∧ ∀ x, x ∈ wdK 1000003 i.val → 1 ≤ x ∧ x ≤ 26) ∧ ∀ i : Fin 9, wdK 1000004 i.val ≠ [] ∧ (wdK 1000004 i.val).length ≤ 8 ∧ ∀ x, x ∈ wdK 1000004 i.val → 1 ≤ x ∧ x ≤ 26 := by decide +kernel
/-- what a short word is to both -/
theorem word_e (w : List Int) (hw : isW w) : ixW 1000003 w = kB (kdW (pk5 w)) ∧ ixW 1000004 w = (if kdW (pk5 w) = 4 then vlW (pk5 w) else -1) ∧ ((kdW (pk5 w) = 3 ∧ vlW (pk5 w) = pk5 w ∧ ixW 1000003 w = -1 ∧ ixW 1000004 w = -1) ∨ (kdW (pk5 w) = 4 ∧ ixW 1000003 w = -1 ∧ 0 ≤ vlW (pk5 w) ∧ vlW (pk5 w) < 9) ∨ (16 ≤ kdW (pk5 w) ∧ kdW (pk5 w) ≤ 26 ∧ ¬ ixW 1000003 w = -1)) := by
  rcases Classical.em (∃ j, j < 11 ∧ wdK 1000003 j = w) with ⟨j, hj, rfl⟩ | n1
  · obtain ⟨a1, a2, a3, a4, a5⟩ := key1 ⟨j, hj⟩
    dsimp only at a1 a2 a3 a4 a5
    refine ⟨by rw [a1, a3], by rw [a2, if_neg (by omega)], Or.inr (Or.inr ⟨a4, a5, by rw [a1]; omega⟩)⟩
  · rcases Classical.em (∃ j, j < 9 ∧ wdK 1000004 j = w) with ⟨j, hj, rfl⟩ | n2
    · obtain ⟨a1, a2, a3, a4⟩ := key2 ⟨j, hj⟩
      dsimp only at a1 a2 a3 a4
      refine ⟨by rw [a1, a3]; decide, by rw [a2, if_pos a3, a4], Or.inr (Or.inl ⟨a3, a1, by rw [a4]; omega, by rw [a4]; omega⟩)⟩
    · have b1 : ixW 1000003 w = -1 := fstN_no _ _ 0 (fun k _ h2 => decide_eq_false (fun z => n1 ⟨k, by have : k < 0 + 11 := h2; omega, z⟩))
      have b2 : ixW 1000004 w = -1 := fstN_no _ _ 0 (fun k _ h2 => decide_eq_false (fun z => n2 ⟨k, by have : k < 0 + 9 := h2; omega, z⟩))
      have c1 : ixA 1000001 (pk5 w) = -1 := fstN_no _ _ 0 (fun k _ h2 => decide_eq_false (fun z => by
        have hk : k < 11 := by have : k < 0 + 11 := h2; omega
        obtain ⟨g1, g2⟩ := key3.1 ⟨k, hk⟩
        dsimp only at g1 g2
        rw [g1] at z
        exact n1 ⟨pmA k, g2, (pk5_inj _ _ (key4.1 ⟨pmA k, g2⟩) hw).1 z⟩))
      have c2 : ixA 1000002 (pk5 w) = -1 := fstN_no _ _ 0 (fun k _ h2 => decide_eq_false (fun z => by
        have hk : k < 9 := by have : k < 0 + 9 := h2; omega
        have g1 := key3.2 ⟨k, hk⟩
        dsimp only at g1
        rw [g1] at z
        exact n2 ⟨k, hk, (pk5_inj _ _ (key4.2 ⟨k, hk⟩) hw).1 z⟩))
      have k3 : kdW (pk5 w) = 3 := by unfold kdW; rw [if_pos c1, if_pos c2]
      have v3 : vlW (pk5 w) = pk5 w := by unfold vlW; rw [if_pos c1, if_pos c2]
      exact ⟨by rw [b1, k3]; decide, by rw [b2, k3, if_neg (by decide)], Or.inl ⟨k3, v3, b1, b2⟩⟩
theorem long_e (w : List Int) (hw : 8 < w.length) : ixW 1000003 w = -1 ∧ ixW 1000004 w = -1 := by
  refine ⟨fstN_no _ _ 0 (fun k _ h2 => decide_eq_false (fun z => ?_)), fstN_no _ _ 0 (fun k _ h2 => decide_eq_false (fun z => ?_))⟩
  · have hk : k < 11 := by have : k < 0 + 11 := h2; omega
    have := (key4.1 ⟨k, hk⟩).2.1
    dsimp only at this
    rw [z] at this; omega
  · have hk : k < 9 := by have : k < 0 + 9 := h2; omega
    have := (key4.2 ⟨k, hk⟩).2.1
    dsimp only at this
    rw [z] at this; omega
theorem num_e (f : Nat → Int) (p : Nat) : ∀ i : Nat, i ≤ 5 → (∀ j, j < i → isD (f (p + j)) = true) → nuW f p i = nuB f p i ∧ 0 ≤ nuB f p i ∧ nuB f p i < 10 ^ i
  | 0, _, _ => by simp only [nuW, nuB]; decide
  | i + 1, h5, h => by
    obtain ⟨a1, a2, a3⟩ := num_e f p i (by omega) (fun j hj => h j (by omega))
    have hd := isD_b (h i (by omega))
    have hp : (10 : Int) ^ i ≤ 10000 := by
      have : i = 0 ∨ i = 1 ∨ i = 2 ∨ i = 3 ∨ i = 4 := by omega
      rcases this with rfl | rfl | rfl | rfl | rfl <;> decide
    simp only [nuW, nuB, Int.pow_succ]
    rw [a1, w64_s (x := nuB f p i * 10) (by omega) (by omega), w64_s (x := nuB f p i * 10 + f (p + i)) (by omega) (by omega), w64_s (x := nuB f p i * 10 + f (p + i) - 48) (by omega) (by omega)]
    omega
/-- the TOKEN at p: what the reference asks of it, in the class's words -/
theorem tok_e (f : Nat → Int) (n p : Nat) (hb : ∀ k, k < n → -128 ≤ f k ∧ f k ≤ 127) :
    (if tyB f n p = 2 then ixB f 1000003 p (en f n p) else -1) = kB (kd f n p) ∧
    (if tyB f n p = 2 then ixB f 1000004 p (en f n p) else -1) = (if kd f n p = 4 then vl f n p else -1) ∧
    (tyB f n p = 1 ↔ kd f n p = 1) ∧ (tyB f n p = 0 ↔ kd f n p = 0) ∧
    (tyB f n p = 3 ↔ kd f n p = 2) ∧ (kd f n p = 2 → vB f n p = vl f n p ∧ 0 ≤ vl f n p ∧ vl f n p ≤ 99999) ∧
    (∀ c : Int, 40 ≤ c → c ≤ 62 → ((tyB f n p = 4 ∧ vB f n p = c) ↔ kd f n p = c)) ∧
    (kd f n p = 4 → 0 ≤ vl f n p ∧ vl f n p < 9) ∧
    (kd f n p = 3 ↔ (tyB f n p = 2 ∧ en f n p - p ≤ 8 ∧ ixB f 1000003 p (en f n p) = -1 ∧ ixB f 1000004 p (en f n p) = -1)) ∧
    (kd f n p = 3 → vl f n p = pk5 (wd f p (en f n p)) ∧ isW (wd f p (en f n p))) := by
  have hI : ∀ T, ixB f T p (en f n p) = ixW T (wd f p (en f n p)) := fun T => rfl
  rw [hI, hI]
  by_cases c : p < n
  · obtain ⟨g1, g2⟩ := en_b f n p c
    have hfb := hb p c
    by_cases q1 : isL (f p) = true
    · have ty : tyB f n p = 2 := by unfold tyB; rw [if_pos c, if_pos q1]
      have hin := run_L f n p c q1
      by_cases q8 : 8 < en f n p - p
      · have k : kd f n p = 5 := by unfold kd; rw [if_pos c, if_pos q1, if_pos q8]
        have hl := long_e (wd f p (en f n p)) (by rw [wd_len]; exact q8)
        rw [ty, k, hl.1, hl.2]
        refine ⟨rfl, rfl, by decide, by decide, by decide, fun z => absurd z (by decide), fun c h1 h2 => ⟨fun z => absurd z.1 (by decide), fun z => by omega⟩, fun z => absurd z (by decide), ⟨fun z => absurd z (by decide), fun z => by omega⟩, fun z => absurd z (by decide)⟩
      · have hw := wd_W f p (en f n p) g1 (by omega) hin
        have k : kd f n p = kdW (pk5 (wd f p (en f n p))) := by unfold kd; rw [if_pos c, if_pos q1, if_neg q8]
        have v : vl f n p = vlW (pk5 (wd f p (en f n p))) := by unfold vl; rw [if_pos q1, if_neg q8]
        obtain ⟨e1, e2, e3⟩ := word_e _ hw
        rw [ty, if_pos rfl, if_pos rfl, k, v]
        have hk : kdW (pk5 (wd f p (en f n p))) = 3 ∨ kdW (pk5 (wd f p (en f n p))) = 4 ∨ (16 ≤ kdW (pk5 (wd f p (en f n p))) ∧ kdW (pk5 (wd f p (en f n p))) ≤ 26) := by
          rcases e3 with z | z | z
          · exact Or.inl z.1
          · exact Or.inr (Or.inl z.1)
          · exact Or.inr (Or.inr ⟨z.1, z.2.1⟩)
        refine ⟨e1, e2, ⟨fun z => absurd z (by decide), fun z => by omega⟩, ⟨fun z => absurd z (by decide), fun z => by omega⟩, ⟨fun z => absurd z (by decide), fun z => by omega⟩, fun z => by omega, fun c h1 h2 => ⟨fun z => absurd z.1 (by decide), fun z => by omega⟩, fun z => ?_, ⟨fun z => ?_, fun z => ?_⟩, fun z => ?_⟩
        · rcases e3 with y | y | y
          · omega
          · exact ⟨y.2.2.1, y.2.2.2⟩
          · omega
        · rcases e3 with y | y | y
          · exact ⟨rfl, by omega, y.2.2.1, y.2.2.2⟩
          · omega
          · omega
        · rcases e3 with y | y | y
          · exact y.1
          · rw [if_pos y.1] at e2; omega
          · exact absurd z.2.2.1 y.2.2
        · rcases e3 with y | y | y
          · exact ⟨y.2.1, hw⟩
          · omega
          · omega
    · by_cases q2 : isD (f p) = true
      · have hin : ∀ j, j < en f n p - p → isD (f (p + j)) = true := by
          intro j hj
          have he : en f n p = run isD f n p := by unfold en; rw [if_pos c, if_neg q1, if_pos q2]
          exact run_in isD f n p (p + j) (by omega) (by omega)
        by_cases q5 : 5 < en f n p - p
        · have ty : tyB f n p = 1 := by unfold tyB; rw [if_pos c, if_neg q1, if_pos q2, if_pos q5]
          have k : kd f n p = 1 := by unfold kd; rw [if_pos c, if_neg q1, if_pos q2, if_pos q5]
          rw [ty, k]
          refine ⟨rfl, rfl, by decide, by decide, by decide, fun z => absurd z (by decide), fun c h1 h2 => ⟨fun z => absurd z.1 (by decide), fun z => by omega⟩, fun z => absurd z (by decide), ⟨fun z => absurd z (by decide), fun z => absurd z.1 (by decide)⟩, fun z => absurd z (by decide)⟩
        · have ty : tyB f n p = 3 := by unfold tyB; rw [if_pos c, if_neg q1, if_pos q2, if_neg q5]
          have k : kd f n p = 2 := by unfold kd; rw [if_pos c, if_neg q1, if_pos q2, if_neg q5]
          obtain ⟨m1, m2, m3⟩ := num_e f p (en f n p - p) (by omega) hin
          have hp : (10 : Int) ^ (en f n p - p) ≤ 100000 := by
            have : en f n p - p = 1 ∨ en f n p - p = 2 ∨ en f n p - p = 3 ∨ en f n p - p = 4 ∨ en f n p - p = 5 := by omega
            rcases this with z | z | z | z | z <;> rw [z] <;> decide
          have vv : vB f n p = nuB f p (en f n p - p) := by unfold vB; rw [if_pos ⟨c, q2⟩]
          have vl' : vl f n p = nuW f p (en f n p - p) := by unfold vl; rw [if_neg q1, if_pos q2]
          rw [ty, k, vv, vl', m1]
          refine ⟨rfl, rfl, by decide, by decide, by decide, fun _ => ⟨rfl, m2, by omega⟩, fun c h1 h2 => ⟨fun z => absurd z.1 (by decide), fun z => by omega⟩, fun z => absurd z (by decide), ⟨fun z => absurd z (by decide), fun z => absurd z.1 (by decide)⟩, fun z => absurd z (by decide)⟩
      · have vv : vB f n p = aB f n p := by unfold vB; rw [if_neg (fun z => q2 z.2)]
        by_cases s : isSg (f p) = true
        · have ty : tyB f n p = 4 := by unfold tyB; rw [if_pos c, if_neg q1, if_neg q2, if_pos s]
          have k : kd f n p = f p := by unfold kd; rw [if_pos c, if_neg q1, if_neg q2, if_pos s]
          have hs : (40 ≤ f p ∧ f p ≤ 43) ∨ f p = 45 ∨ (58 ≤ f p ∧ f p ≤ 62) := by
            unfold isSg at s
            simp only [Bool.or_eq_true, Bool.and_eq_true, decide_eq_true_eq] at s
            omega
          have ha : aB f n p = f p := by unfold aB; rw [if_pos c]; omega
          have hkB : kB (f p) = -1 := by unfold kB; repeat' split
                                         all_goals omega
          rw [ty, k, vv, ha, hkB, if_neg (show ¬ f p = 4 by omega)]
          refine ⟨rfl, rfl, ⟨fun z => absurd z (by decide), fun z => by omega⟩, ⟨fun z => absurd z (by decide), fun z => by omega⟩, ⟨fun z => absurd z (by decide), fun z => by omega⟩, fun z => by omega, fun c h1 h2 => ⟨fun z => z.2, fun z => ⟨rfl, z⟩⟩, fun z => by omega, ⟨fun z => by omega, fun z => absurd z.1 (by decide)⟩, fun z => by omega⟩
        · have ty : tyB f n p = 1 := by unfold tyB; rw [if_pos c, if_neg q1, if_neg q2, if_neg s]
          have k : kd f n p = 1 := by unfold kd; rw [if_pos c, if_neg q1, if_neg q2, if_neg s]
          rw [ty, k]
          refine ⟨rfl, rfl, by decide, by decide, by decide, fun z => absurd z (by decide), fun c h1 h2 => ⟨fun z => absurd z.1 (by decide), fun z => by omega⟩, fun z => absurd z (by decide), ⟨fun z => absurd z (by decide), fun z => absurd z.1 (by decide)⟩, fun z => absurd z (by decide)⟩
  · have ty : tyB f n p = 0 := by unfold tyB; rw [if_neg c]
    have k : kd f n p = 0 := by unfold kd; rw [if_neg c]
    rw [ty, k]
    refine ⟨rfl, rfl, by decide, by decide, by decide, fun z => absurd z (by decide), fun c h1 h2 => ⟨fun z => absurd z.1 (by decide), fun z => by omega⟩, fun z => absurd z (by decide), ⟨fun z => absurd z (by decide), fun z => absurd z.1 (by decide)⟩, fun z => absurd z (by decide)⟩
