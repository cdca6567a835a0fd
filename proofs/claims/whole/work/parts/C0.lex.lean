/-! TOKENS: runs of bytes -/
def isL (c : Int) : Bool := decide (97 ≤ c) && decide (c ≤ 122)
def isD (c : Int) : Bool := decide (48 ≤ c) && decide (c ≤ 57)
def isSp (c : Int) : Bool := decide (c = 10) || decide (c = 32)
def isSg (c : Int) : Bool := (decide (40 ≤ c) && decide (c ≤ 43)) || decide (c = 45) || (decide (58 ≤ c) && decide (c ≤ 62))
def rnF (P : Int → Bool) (f : Nat → Int) : Nat → Nat → Nat
  | 0, p => p
  | k + 1, p => if P (f p) = true then rnF P f k (p + 1) else p
def run (P : Int → Bool) (f : Nat → Int) (n p : Nat) : Nat := rnF P f (n - p) p
theorem run_e (P : Int → Bool) (f : Nat → Int) (n p : Nat) : run P f n p = if p < n ∧ P (f p) = true then run P f n (p + 1) else p := by
  unfold run
  by_cases h : p < n
  · rw [show n - p = (n - (p + 1)) + 1 by omega]
    simp only [rnF]
    by_cases q : P (f p) = true
    · rw [if_pos q, if_pos ⟨h, q⟩]
    · rw [if_neg q, if_neg (fun z => q z.2)]
  · rw [show n - p = 0 by omega, if_neg (fun z => h z.1)]; rfl
theorem rnF_b (P : Int → Bool) (f : Nat → Int) : ∀ k p : Nat, p ≤ rnF P f k p ∧ rnF P f k p ≤ p + k
  | 0, p => by simp only [rnF]; omega
  | k + 1, p => by
    have := rnF_b P f k (p + 1)
    simp only [rnF]; split <;> omega
theorem run_b (P : Int → Bool) (f : Nat → Int) (n p : Nat) : p ≤ run P f n p ∧ (p ≤ n → run P f n p ≤ n) := by
  have := rnF_b P f (n - p) p
  unfold run; omega
theorem rnF_in (P : Int → Bool) (f : Nat → Int) : ∀ k p j : Nat, p ≤ j → j < rnF P f k p → P (f j) = true
  | 0, p, j, h1, h2 => by simp only [rnF] at h2; omega
  | k + 1, p, j, h1, h2 => by
    simp only [rnF] at h2
    by_cases q : P (f p) = true
    · rw [if_pos q] at h2
      by_cases e : j = p
      · rw [e]; exact q
      · exact rnF_in P f k (p + 1) j (by omega) h2
    · rw [if_neg q] at h2; omega
theorem run_in (P : Int → Bool) (f : Nat → Int) (n p j : Nat) (h1 : p ≤ j) (h2 : j < run P f n p) : P (f j) = true := rnF_in P f (n - p) p j h1 h2
theorem rnF_out (P : Int → Bool) (f : Nat → Int) : ∀ k p : Nat, rnF P f k p < p + k → ¬ P (f (rnF P f k p)) = true
  | 0, p, h => by simp only [rnF] at h; omega
  | k + 1, p, h => by
    simp only [rnF] at h ⊢
    by_cases q : P (f p) = true
    · rw [if_pos q] at h ⊢; exact rnF_out P f k (p + 1) (by omega)
    · rw [if_neg q]; exact q
theorem run_out (P : Int → Bool) (f : Nat → Int) (n p : Nat) (hp : p ≤ n) (h : run P f n p < n) : ¬ P (f (run P f n p)) = true := rnF_out P f (n - p) p (by unfold run at h; omega)
theorem e_isLetter (c : Int) (d : Dt) : L_Pa_isLetter c d = some (b2i (isL c), d) := by
  unfold L_Pa_isLetter isL
  by_cases h1 : c < 97
  · rw [if_pos h1, decide_eq_false (by omega)]; rfl
  · rw [if_neg h1, decide_eq_true (show 97 ≤ c by omega)]
    by_cases h2 : 122 < c
    · rw [if_pos h2, decide_eq_false (by omega)]; rfl
    · rw [if_neg h2, decide_eq_true (show c ≤ 122 by omega)]; rfl
theorem e_isDigit (c : Int) (d : Dt) : L_Pa_isDigit c d = some (b2i (isD c), d) := by
  unfold L_Pa_isDigit isD
  by_cases h1 : c < 48
  · rw [if_pos h1, decide_eq_false (by omega)]; rfl
  · rw [if_neg h1, decide_eq_true (show 48 ≤ c by omega)]
    by_cases h2 : 57 < c
    · rw [if_pos h2, decide_eq_false (by omega)]; rfl
    · rw [if_neg h2, decide_eq_true (show c ≤ 57 by omega)]; rfl
theorem e_isSmallB (c : Int) (d : Dt) : L_Mo_isSmall c d = some (b2i (isL c), d) := by
  unfold L_Mo_isSmall isL
  by_cases h1 : c < 97
  · rw [if_pos h1, decide_eq_false (by omega)]; rfl
  · rw [if_neg h1, decide_eq_true (show 97 ≤ c by omega)]
    by_cases h2 : 122 < c
    · rw [if_pos h2, decide_eq_false (by omega)]; rfl
    · rw [if_neg h2, decide_eq_true (show c ≤ 122 by omega)]; rfl
theorem e_isDigitB (c : Int) (d : Dt) : L_Mo_isDigit c d = some (b2i (isD c), d) := by
  unfold L_Mo_isDigit isD
  by_cases h1 : c < 48
  · rw [if_pos h1, decide_eq_false (by omega)]; rfl
  · rw [if_neg h1, decide_eq_true (show 48 ≤ c by omega)]
    by_cases h2 : 57 < c
    · rw [if_pos h2, decide_eq_false (by omega)]; rfl
    · rw [if_neg h2, decide_eq_true (show c ≤ 57 by omega)]; rfl
/-- where the TOKEN that begins at p ends -/
def en (f : Nat → Int) (n p : Nat) : Nat := if p < n then (if isL (f p) = true then run isL f n p else if isD (f p) = true then run isD f n p else p + 1) else p
theorem en_b (f : Nat → Int) (n p : Nat) (h : p < n) : p < en f n p ∧ en f n p ≤ n := by
  unfold en
  rw [if_pos h]
  by_cases q : isL (f p) = true
  · rw [if_pos q, run_e, if_pos ⟨h, q⟩]
    have := run_b isL f n (p + 1); omega
  · rw [if_neg q]
    by_cases q2 : isD (f p) = true
    · rw [if_pos q2, run_e, if_pos ⟨h, q2⟩]
      have := run_b isD f n (p + 1); omega
    · rw [if_neg q2]; omega
theorem b2i0 (b : Bool) : (b2i b = 0) ↔ b = false := by cases b <;> decide
theorem endOfRun_e (d : Dt) (n p : Nat) (hn : n ≤ 600) (hp : p < n) : L_Pa_endOfRun (p : Int) (n : Int) d = some ((en (d 26) n p : Int), d) := by
  have loop : ∀ (w : Bool) (q : Nat), p < q → q ≤ n → L_Pa_endOfRun_l31 (n : Int) (b2i w) (q : Int) d = some ((run (if w = true then isL else isD) (d 26) n q : Int), d) := by
    intro w q hq hqn
    obtain ⟨P, hP⟩ : ∃ P, P = (if w = true then isL else isD) := ⟨_, rfl⟩
    rw [← hP]
    obtain ⟨m, hm⟩ : ∃ m, run P (d 26) n q = q + m := ⟨run P (d 26) n q - q, by have := run_b P (d 26) n q; omega⟩
    have hb := (run_b P (d 26) n q).2 hqn
    have e1 := lp_seq (f := fun q : Int × Int × Int × Dt => L_Pa_endOfRun_y31 q.1 q.2.1 q.2.2.1 q.2.2.2) (fun i => ((n : Int), b2i w, ((q + i : Nat) : Int), d)) m (r := (((q + m : Nat) : Int), d))
      (by
        intro i hi
        have hin := run_in P (d 26) n q (q + i) (by omega) (by omega)
        have c6 : (0 : Int) ≤ ((q + i : Nat) : Int) ∧ ((q + i : Nat) : Int) < 600 := by omega
        dsimp only
        unfold L_Pa_endOfRun_y31 L_Pa_endOfRun_b70
        rw [if_pos (by omega), ck_pos c6, ck_pos c6, tn_i, e_isLetter, e_isDigit, bd_e, bd_e, w32_i (show q + i < 2147483647 by omega)]
        cases w
        · rw [if_pos (by decide)]
          rw [hP, if_neg (by decide)] at hin
          rw [hin, if_neg (by decide)]; rfl
        · rw [if_neg (by decide)]
          rw [hP, if_pos rfl] at hin
          rw [hin, if_neg (by decide)]; rfl)
      (by
        dsimp only
        unfold L_Pa_endOfRun_y31 L_Pa_endOfRun_b70
        by_cases hlt : q + m < n
        · have hout := run_out P (d 26) n q hqn (by omega)
          rw [hm] at hout
          have c6 : (0 : Int) ≤ ((q + m : Nat) : Int) ∧ ((q + m : Nat) : Int) < 600 := by omega
          rw [if_pos (by omega), ck_pos c6, ck_pos c6, tn_i, e_isLetter, e_isDigit, bd_e, bd_e]
          cases w
          · rw [if_pos (by decide)]
            rw [hP, if_neg (by decide)] at hout
            rw [bool_f hout, if_pos (by decide)]
          · rw [if_neg (by decide)]
            rw [hP, if_pos rfl] at hout
            rw [bool_f hout, if_pos (by decide)]
        · rw [if_neg (by omega)]) (by omega)
    unfold L_Pa_endOfRun_l31
    rw [hm]
    exact e1
  have c6 : (0 : Int) ≤ (p : Int) ∧ (p : Int) < 600 := by omega
  unfold L_Pa_endOfRun en
  rw [if_pos hp, ck_pos c6, tn_i, e_isLetter, bd_e, lt_e, w32_i (show p < 2147483647 by omega)]
  by_cases q : isL (d 26 p) = true
  · have := loop true (p + 1) (by omega) (by omega)
    rw [if_pos rfl] at this
    rw [q, if_neg (by decide), if_pos rfl, this, lb_e, u1_q, run_e isL (d 26) n p, if_pos ⟨hp, q⟩]
  · have := loop false (p + 1) (by omega) (by omega)
    rw [if_neg (by decide)] at this
    rw [bool_f q, if_pos (by decide), if_neg (by decide), ck_pos c6, e_isDigit, bd_e]
    by_cases q2 : isD (d 26 p) = true
    · rw [q2, if_neg (by decide), if_pos rfl, this, lb_e, u1_q, run_e isD (d 26) n p, if_pos ⟨hp, q2⟩]
    · rw [bool_f q2, if_pos (by decide), if_neg (by decide)]
