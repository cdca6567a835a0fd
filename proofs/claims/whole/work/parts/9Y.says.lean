/-! LAWS: what a RULE says; the first and the last that say it -/
theorem strB_e {dA dB x : Dt} (hL : RL0 dA dB) (hx : Core dB x) (place : Nat) (day : Int) (ha : arrB x (rlL dB place day)) : ∃ x', L_Mo_stand_l204 0 x = some x' ∧ (∀ k, k ≠ 49 → x' k = x k) ∧ ∀ m, m < (rlL dB place day).length → x' 49 m = b2i (stkB dB (rlL dB place day) m) := by
  have hlen := rl_len hL place day
  have hmem : ∀ j, j < (rlL dB place day).length → (rlL dB place day).getD j 0 < 100 := by
    intro j hj
    obtain ⟨t, i, q1, q2, q3, q4, q5, q6, q7, q8⟩ := rl_mem hL place day _ (getD_mem (rlL dB place day) j hj)
    exact q7
  obtain ⟨L, hLd⟩ : ∃ L, L = rlL dB place day := ⟨_, rfl⟩
  rw [← hLd] at ha hlen hmem ⊢
  have h35 : x 35 = dB 35 := hx.1 35 (by decide) (by decide)
  have h36 : x 36 = dB 36 := hx.1 36 (by decide) (by decide)
  obtain ⟨x', e1, e2, e3⟩ := lp_inv (f := fun q : Int × Dt => L_Mo_stand_y204 q.1 q.2) (fun m y => ((m : Int), y)) (fun y => y)
    (fun m y => (∀ k, k ≠ 49 → y k = x k) ∧ ∀ m', m' < m → y 49 m' = b2i (stkB dB L m')) L.length
    (by
      rintro m y hm ⟨f1, f2⟩
      have y68 : y 0 68 = (L.length : Int) := by rw [f1 0 (by decide)]; exact ha.1
      have yr : ∀ (z : Dt), (∀ k, k ≠ 49 → z k = x k) → ∀ j, j < L.length → z 47 j = ((L.getD j 0 : Nat) : Int) := fun z hz j hj => by rw [hz 47 (by decide)]; exact ha.2 j hj
      obtain ⟨z, k1, k2, k3, k4⟩ := lp_inv (f := fun q : Int × Int × Dt => L_Mo_stand_y227 q.1 q.2.1 q.2.2) (fun j z => ((m : Int), ((m + 1 + j : Nat) : Int), z)) (fun z => ((m : Int), z))
        (fun j z => (∀ k, k ≠ 49 → z k = x k) ∧ (∀ m', m' ≠ m → z 49 m' = y 49 m') ∧ z 49 m = b2i ((List.range (m + 1 + j)).any (fun j' => decide (m < j') && decide (dB 36 (L.getD j' 0) = dB 35 (L.getD m 0))))) (L.length - (m + 1))
        (by
          rintro j z hj ⟨g1, g2, g3⟩
          have z68 : z 0 68 = (L.length : Int) := by rw [g1 0 (by decide)]; exact ha.1
          have r1 := yr z g1 (m + 1 + j) (by omega)
          have r2 := yr z g1 m hm
          have b1 := hmem (m + 1 + j) (by omega)
          have b2 := hmem m hm
          have z35 : z 35 = dB 35 := by rw [g1 35 (by decide)]; exact h35
          have z36 : z 36 = dB 36 := by rw [g1 36 (by decide)]; exact h36
          obtain ⟨old, hold⟩ : ∃ o, o = (List.range (m + 1 + j)).any (fun j' => decide (m < j') && decide (dB 36 (L.getD j' 0) = dB 35 (L.getD m 0))) := ⟨_, rfl⟩
          have hnew : (List.range (m + 1 + j + 1)).any (fun j' => decide (m < j') && decide (dB 36 (L.getD j' 0) = dB 35 (L.getD m 0))) = (old || decide (dB 36 (L.getD (m + 1 + j) 0) = dB 35 (L.getD m 0))) := by
            rw [List.range_succ, List.any_append, ← hold, List.any_cons, List.any_nil, Bool.or_false, decide_eq_true (show m < m + 1 + j by omega), Bool.true_and]
          rw [← hold] at g3
          refine ⟨up2 z 49 m (b2i (old || decide (dB 36 (L.getD (m + 1 + j) 0) = dB 35 (L.getD m 0)))), ?_, fun k hk => by rw [up2_K _ _ _ hk]; exact g1 k hk, fun m' hm' => by rw [up2_j _ _ _ hm']; exact g2 m' hm', by rw [up2_s, show m + 1 + (j + 1) = m + 1 + j + 1 by omega, hnew]⟩
          dsimp only
          unfold L_Mo_stand_y227 L_Mo_stand_b285
          have cm : (0 : Int) ≤ (m : Int) ∧ (m : Int) < 100 := by omega
          rw [z68, if_pos (by omega), ck_pos cm, tn_i, tn_i, g3, r1, r2, ck_pos ⟨by omega, by omega⟩, ck_pos ⟨by omega, by omega⟩, ck_pos cm, ck_pos ⟨by omega, by omega⟩, tn_i, tn_i, z35, z36, ck_pos cm, ck_pos cm, w32_i (show m + 1 + j < 2147483647 by omega)]
          cases old
          · rw [if_pos (by decide), Bool.false_or]
            by_cases q : dB 36 (L.getD (m + 1 + j) 0) = dB 35 (L.getD m 0)
            · rw [if_pos q, decide_eq_true q]; rfl
            · rw [if_neg q, decide_eq_false q]; rfl
          · rw [if_neg (by decide), Bool.true_or]; rfl)
        (by
          rintro z ⟨g1, g2, g3⟩
          have z68 : z 0 68 = (L.length : Int) := by rw [g1 0 (by decide)]; exact ha.1
          dsimp only
          unfold L_Mo_stand_y227
          rw [z68, if_neg (by omega)]) (by omega) (up2 y 49 m 0) ⟨fun k hk => by rw [up2_K _ _ _ hk]; exact f1 k hk, fun m' hm' => up2_j _ _ _ hm', by
            rw [up2_s]
            have : (List.range (m + 1 + 0)).any (fun j' => decide (m < j') && decide (dB 36 (L.getD j' 0) = dB 35 (L.getD m 0))) = false := by
              rw [List.any_eq_false]
              intro j hj
              have := List.mem_range.mp hj
              rw [decide_eq_false (by omega)]; simp
            rw [this]; rfl⟩
      rw [show m + 1 + (L.length - (m + 1)) = L.length by omega] at k4
      refine ⟨z, ?_, k2, fun m' hm' => ?_⟩
      · dsimp only
        unfold L_Mo_stand_y204 L_Mo_stand_l227
        rw [y68, if_pos (by omega), ck_pos ⟨by omega, by omega⟩, tn_i, w32_i (show m < 2147483647 by omega), lt_e, show ((m + 1 : Nat) : Int) = ((m + 1 + 0 : Nat) : Int) from rfl, k1, lb_e, u1_q, w32_i (show m < 2147483647 by omega)]
      · by_cases q : m' = m
        · rw [q, k4]; rfl
        · rw [k3 m' q]; exact f2 m' (by omega))
    (by
      rintro y ⟨f1, f2⟩
      dsimp only
      unfold L_Mo_stand_y204
      rw [f1 0 (by decide), ha.1, if_neg (by omega)]) (by omega) x ⟨fun _ _ => rfl, fun m' h => by omega⟩
  refine ⟨x', ?_, e2, e3⟩
  unfold L_Mo_stand_l204
  exact e1
def stdB (x dB : Dt) (place : Nat) (day : Int) : Prop := arrB x (rlL dB place day) ∧ ∀ m, m < (rlL dB place day).length → x 49 m = b2i (stkB dB (rlL dB place day) m)
theorem Core.k3 {dB x x' : Dt} (h : Core dB x) (h1 : ∀ k, k ≠ 0 → k ≠ 47 → k ≠ 48 → k ≠ 49 → k ≠ 50 → k ≠ 51 → x' k = x k) (h2 : ∀ j, j ≠ 68 → x' 0 j = x 0 j) : Core dB x' := by
  refine ⟨fun k hk hs => ?_, fun j hj => ?_⟩
  · rw [h1 k hk (fun e => by rw [e] at hs; exact absurd hs (by decide)) (fun e => by rw [e] at hs; exact absurd hs (by decide)) (fun e => by rw [e] at hs; exact absurd hs (by decide)) (fun e => by rw [e] at hs; exact absurd hs (by decide)) (fun e => by rw [e] at hs; exact absurd hs (by decide))]
    exact h.1 k hk hs
  · rw [h2 j (fun e => by rw [e] at hj; exact absurd hj (by decide))]; exact h.2 j hj
theorem stand_e {dA dB x : Dt} (hL : RL0 dA dB) (hx : Core dB x) (place : Nat) (day : Int) : ∃ x', L_Mo_stand (place : Int) day x = some (0, x') ∧ (∀ k, k ≠ 0 → k ≠ 47 → k ≠ 48 → k ≠ 49 → x' k = x k) ∧ (∀ j, j ≠ 68 → x' 0 j = x 0 j) ∧ stdB x' dB place day := by
  obtain ⟨x1, a1, a2, a3⟩ := ordB_e hL hx place day
  have c1 : Core dB x1 := hx.k3 (fun k _ _ h _ _ _ => a2 k h) (fun j _ => by rw [a2 0 (by decide)])
  obtain ⟨x2, b1, b2, b3, b4⟩ := fillB_e hL c1 place day a3
  have c2 : Core dB x2 := c1.k3 (fun k h0 h1 _ _ _ _ => b2 k h0 h1) b3
  obtain ⟨x3, e1, e2, e3⟩ := strB_e hL c2 place day b4
  refine ⟨x3, ?_, ?_, ?_, ⟨⟨?_, ?_⟩, e3⟩⟩
  · unfold L_Mo_stand
    rw [a1, lb_e, u1_q, b1, lb_e, u0_q, e1, lb_e, u0_q]
  · intro k h0 h1 h2 h3; rw [e2 k h3, b2 k h0 h1, a2 k h2]
  · intro j hj; rw [e2 0 (by decide), b3 j hj, a2 0 (by decide)]
  · rw [e2 0 (by decide)]; exact b4.1
  · intro m hm; rw [e2 47 (by decide)]; exact b4.2 m hm
/-! first and last -/
def lastN (P : Nat → Bool) : Nat → Int
  | 0 => -1
  | n + 1 => if P n = true then (n : Int) else lastN P n
theorem lastN_hit (P : Nat → Bool) : ∀ n m : Nat, m < n → P m = true → (∀ j, m < j → j < n → P j = false) → lastN P n = (m : Int)
  | 0, m, h, _, _ => by omega
  | n + 1, m, h, hp, hq => by
    unfold lastN
    by_cases q : m = n
    · rw [q] at hp; rw [if_pos hp, q]
    · rw [hq n (by omega) (by omega), if_neg (by decide)]
      exact lastN_hit P n m (by omega) hp (fun j h1 h2 => hq j h1 (by omega))
theorem lastN_no (P : Nat → Bool) : ∀ n : Nat, (∀ j, j < n → P j = false) → lastN P n = -1
  | 0, _ => rfl
  | n + 1, h => by unfold lastN; rw [h n (by omega), if_neg (by decide)]; exact lastN_no P n (fun j hj => h j (by omega))
theorem lastN_rg (P : Nat → Bool) : ∀ n : Nat, lastN P n = -1 ∨ ∃ m : Nat, m < n ∧ lastN P n = (m : Int) ∧ P m = true
  | 0 => Or.inl rfl
  | n + 1 => by
    unfold lastN
    by_cases q : P n = true
    · rw [if_pos q]; exact Or.inr ⟨n, by omega, rfl, q⟩
    · rw [if_neg q]
      rcases lastN_rg P n with h | ⟨m, h1, h2, h3⟩
      · exact Or.inl h
      · exact Or.inr ⟨m, by omega, h2, h3⟩
def fstN (P : Nat → Bool) : Nat → Nat → Int
  | _, 0 => -1
  | a, n + 1 => if P a = true then (a : Int) else fstN P (a + 1) n
theorem fstN_hit (P : Nat → Bool) : ∀ n a m : Nat, a ≤ m → m < a + n → P m = true → (∀ j, a ≤ j → j < m → P j = false) → fstN P a n = (m : Int)
  | 0, a, m, h, h', _, _ => by omega
  | n + 1, a, m, h, h', hp, hq => by
    unfold fstN
    by_cases q : m = a
    · rw [q] at hp; rw [if_pos hp, q]
    · rw [hq a (by omega) (by omega), if_neg (by decide)]
      exact fstN_hit P n (a + 1) m (by omega) (by omega) hp (fun j h1 h2 => hq j (by omega) h2)
theorem fstN_no (P : Nat → Bool) : ∀ n a : Nat, (∀ j, a ≤ j → j < a + n → P j = false) → fstN P a n = -1
  | 0, _, _ => rfl
  | n + 1, a, h => by unfold fstN; rw [h a (by omega) (by omega), if_neg (by decide)]; exact fstN_no P n (a + 1) (fun j h1 h2 => h j (by omega) (by omega))
theorem fstN_rg (P : Nat → Bool) : ∀ n a : Nat, fstN P a n = -1 ∨ ∃ m : Nat, m < a + n ∧ fstN P a n = (m : Int)
  | 0, _ => Or.inl rfl
  | n + 1, a => by
    unfold fstN
    by_cases q : P a = true
    · rw [if_pos q]; exact Or.inr ⟨a, by omega, rfl⟩
    · rw [if_neg q]
      rcases fstN_rg P n (a + 1) with h | ⟨m, h1, h2⟩
      · exact Or.inl h
      · exact Or.inr ⟨m, by omega, h2⟩
theorem bool_f {b : Bool} (h : ¬ b = true) : b = false := by
  cases b
  · rfl
  · exact absurd rfl h
/-! says -/
def hv (dB : Dt) (L : List Nat) (b : Int) (m : Nat) : Bool := !(stkB dB L m) && decide (dB 29 (L.getD m 0) = b)
def prV (a b : Int) : Prop := (a = 17 ∧ b = 1) ∨ (a = 19 ∧ b = 2) ∨ (a = 20 ∧ b = 3) ∨ (a = 21 ∧ b = 4) ∨ (a = 22 ∧ b = 5)
theorem verb_i {dA dB : Dt} {t i : Nat} (h : ruR dA dB t i) {a b : Int} (hp : prV a b) : dA (79 + 7 * t + 3) i = a ↔ dB 29 (20 * t + i) = b := by
  obtain ⟨_, _, h⟩ := h
  unfold prV at hp
  rcases h with ⟨h | h | h, _⟩ | ⟨h, h', _⟩ | ⟨h, h', _⟩
  · omega
  · omega
  · omega
  · omega
  · omega
/-- the class's data while the RULES of a place and a day are gathered -/
def gaA (x dA dB : Dt) (place : Nat) (day : Int) : Prop := (∀ k, 79 ≤ k → x k = dA k) ∧ gthR x dB place day
theorem ga_at {x dA dB : Dt} {place : Nat} {day : Int} (hL : RL0 dA dB) (h : gaA x dA dB place day) (m : Nat) (hm : m < (rlL dB place day).length) : ∃ t i : Nat, (rlL dB place day).getD m 0 = 20 * t + i ∧ i < 20 ∧ stt x (79 + 7 * (t : Int)) ∧ x 32 m = 79 + 7 * (t : Int) ∧ x 33 m = (i : Int) ∧ x 34 m = b2i (stkB dB (rlL dB place day) m) ∧ ruR dA dB t i ∧ (∀ o, x (79 + 7 * t + o) = dA (79 + 7 * t + o)) ∧ 20 * t + i < 100 := by
  obtain ⟨t, i, q1, q2, q3, q4, q5, q6, q7, q8⟩ := rl_mem hL place day _ (getD_mem (rlL dB place day) m hm)
  obtain ⟨a1, a2, a3⟩ := h.2.2 m hm
  rw [q5] at a1
  rw [q6] at a2
  have hgx : x GH 0 = dB 0 41 + 1 := by rw [h.1 GH (by decide)]; exact hL.2.1
  exact ⟨t, i, q1, q4, stt_t hgx t (by omega), a1, a2, a3, q8, fun o => h.1 _ (by omega), by omega⟩
theorem says_e {x dA dB : Dt} {place : Nat} {day : Int} (hL : RL0 dA dB) (h : gaA x dA dB place day) (m : Nat) (hm : m < (rlL dB place day).length) {a b : Int} (hp : prV a b) : L_La_says (m : Int) a x = some (b2i (hv dB (rlL dB place day) b m), x) := by
  have hlen := rl_len hL place day
  obtain ⟨t, i, q1, q2, q3, q4, q5, q6, q7, q8, q9⟩ := ga_at hL h m hm
  have cm : (0 : Int) ≤ (m : Int) ∧ (m : Int) < 100 := by omega
  have hvi := verb_i q7 hp
  unfold L_La_says hv
  rw [ck_pos cm, tn_i, q4, if_neg (by omega), ck_pos cm, q6, q5, ck_pos q3, ck_pos cm, ck_pos q3, ck_pos ⟨by omega, by omega⟩, tn_i, tn79, q8, q1]
  by_cases q : stkB dB (rlL dB place day) m = true
  · rw [q, if_neg (by decide)]; rfl
  · rw [bool_f q, if_pos (by decide)]
    by_cases r : dA (79 + 7 * t + 3) i = a
    · rw [if_pos r, decide_eq_true (hvi.1 r)]; rfl
    · rw [if_neg r, decide_eq_false (fun z => r (hvi.2 z))]; rfl
theorem lastA_e {x dA dB : Dt} {place : Nat} {day : Int} (hL : RL0 dA dB) (h : gaA x dA dB place day) {a b : Int} (hp : prV a b) : L_La_lastOf a x = some (lastN (hv dB (rlL dB place day) b) (rlL dB place day).length, x) := by
  have hlen := rl_len hL place day
  obtain ⟨n, hn⟩ : ∃ n, n = (rlL dB place day).length := ⟨_, rfl⟩
  have h6 : x 30 6 = (n : Int) := by rw [hn]; exact h.2.1
  rw [← hn] at hlen ⊢
  obtain ⟨x', rfl, a2⟩ := lp_find (f := fun q : Int × Int × Dt => L_La_lastOf_y7 q.1 q.2.1 q.2.2) (fun j y => (a, (n : Int) - 1 - (j : Int), y)) (fun j y => Sum.inr ((n : Int) - 1 - (j : Int), y)) (fun y => Sum.inl y) (fun y => y = x) (fun j => hv dB (rlL dB place day) b (n - 1 - j) = true) n
    (by
      rintro j y hj rfl
      dsimp only
      unfold L_La_lastOf_y7
      rw [if_neg (by omega), show (n : Int) - 1 - (j : Int) = ((n - 1 - j : Nat) : Int) by omega, says_e hL h (n - 1 - j) (by omega) hp, bd_e, w32_s (x := ((n - 1 - j : Nat) : Int) + -1) (by omega) (by omega), show ((n - 1 - j : Nat) : Int) + -1 = (n : Int) - 1 - ((j + 1 : Nat) : Int) by omega]
      by_cases q : hv dB (rlL dB place day) b (n - 1 - j) = true
      · left; rw [q, if_neg (by decide)]; exact ⟨rfl, _, rfl, rfl⟩
      · right; rw [bool_f q, if_pos (by decide)]; exact ⟨by decide, _, rfl, rfl⟩)
    (by
      rintro y rfl
      dsimp only
      unfold L_La_lastOf_y7
      rw [if_pos (by omega)]
      exact ⟨_, rfl, rfl⟩) (by omega) x rfl
  unfold L_La_lastOf L_La_lastOf_l7
  rw [h6, w32_s (x := (n : Int) - 1) (by omega) (by omega), lt_e]
  rw [show (n : Int) - 1 - ((0 : Nat) : Int) = (n : Int) - 1 by omega] at a2
  rcases a2 with ⟨j, b1, b2, b3, b4⟩ | ⟨b1, b2⟩
  · rw [b4, lb_e, smr_, u1_q, lastN_hit _ n (n - 1 - j) (by omega) b2 (fun k h1 h2 => bool_f (by have := b3 (n - 1 - k) (by omega); rw [show n - 1 - (n - 1 - k) = k by omega] at this; exact this)), show (n : Int) - 1 - (j : Int) = ((n - 1 - j : Nat) : Int) by omega]
  · rw [b2, lb_e, sml_, u0_q, lastN_no _ n (fun k h1 => bool_f (by have := b1 (n - 1 - k) (by omega); rw [show n - 1 - (n - 1 - k) = k by omega] at this; exact this))]
theorem lastB_e {x dA dB : Dt} {place : Nat} {day : Int} (hL : RL0 dA dB) (hx : Core dB x) (h : stdB x dB place day) (b : Int) : L_Mo_lastOf b x = some (lastN (hv dB (rlL dB place day) b) (rlL dB place day).length, x) := by
  have hlen := rl_len hL place day
  obtain ⟨x', e1, rfl⟩ := lp_inv (f := fun q : Int × Int × Int × Dt => L_Mo_lastOf_y4 q.1 q.2.1 q.2.2.1 q.2.2.2) (fun i y => (b, lastN (hv dB (rlL dB place day) b) i, (i : Int), y)) (fun y => (lastN (hv dB (rlL dB place day) b) (rlL dB place day).length, y)) (fun _ y => y = x) (rlL dB place day).length
    (by
      rintro i y hi rfl
      obtain ⟨t, i2, q1, q2, q3, q4, q5, q6, q7, q8⟩ := rl_mem hL place day _ (getD_mem (rlL dB place day) i hi)
      have ci : (0 : Int) ≤ (i : Int) ∧ (i : Int) < 100 := by omega
      refine ⟨y, ?_, rfl⟩
      dsimp only
      unfold L_Mo_lastOf_y4 L_Mo_lastOf_b38
      rw [h.1.1, if_pos (by omega), ck_pos ci, tn_i, h.2 i hi, ck_pos ci, h.1.2 i hi, ck_pos ⟨by omega, by omega⟩, tn_i, hx.1 29 (by decide) (by decide), w32_i (show i < 2147483647 by omega)]
      rw [show lastN (hv dB (rlL dB place day) b) (i + 1) = if (!(stkB dB (rlL dB place day) i) && decide (dB 29 ((rlL dB place day).getD i 0) = b)) = true then (i : Int) else lastN (hv dB (rlL dB place day) b) i from rfl]
      by_cases q : stkB dB (rlL dB place day) i = true
      · rw [q, if_neg (by decide), Bool.not_true, Bool.false_and, if_neg (by decide)]
      · rw [bool_f q, if_pos (by decide), Bool.not_false, Bool.true_and]
        by_cases r : dB 29 ((rlL dB place day).getD i 0) = b
        · rw [if_pos r, decide_eq_true r, if_pos rfl]
        · rw [if_neg r, decide_eq_false r, if_neg (by decide)])
    (by
      rintro y rfl
      dsimp only
      unfold L_Mo_lastOf_y4
      rw [h.1.1, if_neg (by omega)]) (by omega) x rfl
  unfold L_Mo_lastOf L_Mo_lastOf_l4
  rw [show lpF (fun q : Int × Int × Int × Dt => L_Mo_lastOf_y4 q.1 q.2.1 q.2.2.1 q.2.2.2) FU (b, -1, 0, x') = _ from e1, lb_e, u1_q]
