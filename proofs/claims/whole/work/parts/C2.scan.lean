/-! TOKENS: the class's scan, whole -/
theorem scanToken_e (d : Dt) (n t p : Nat) (hn : n ≤ 600) (hp : p < n) (ht : t ≤ 600) : ∃ d', L_Pa_scanToken (t : Int) (p : Int) (en (d 26) n p : Int) d = some (0, d') ∧ (∀ k, k ≠ 27 → k ≠ 28 → d' k = d k) ∧ (∀ j, j ≠ t → d' 27 j = d 27 j ∧ d' 28 j = d 28 j) ∧ d' 27 t = kd (d 26) n p ∧ d' 28 t = vl (d 26) n p := by
  obtain ⟨hb1, hb2⟩ := en_b (d 26) n p hp
  have ct : (0 : Int) ≤ (t : Int) ∧ (t : Int) < 601 := by omega
  have cp : (0 : Int) ≤ (p : Int) ∧ (p : Int) < 600 := by omega
  obtain ⟨x, hx⟩ : ∃ x, x = up2 d 28 t 0 := ⟨_, rfl⟩
  have x26 : x 26 = d 26 := by rw [hx, up2_K _ _ _ (by decide)]
  have x28 : x 28 t = 0 := by rw [hx, up2_s]
  have xk : ∀ k, k ≠ 28 → x k = d k := fun k hk => by rw [hx, up2_K _ _ _ hk]
  have xj : ∀ j, j ≠ t → x 28 j = d 28 j := fun j hj => by rw [hx, up2_j _ _ _ hj]
  unfold L_Pa_scanToken
  rw [ck_pos cp, tn_i, lt_e, ck_pos ct, tn_i, ← hx, e_isLetter, bd_e]
  by_cases q : isL (d 26 p) = true
  · obtain ⟨d', a1, a2, a3, a4, a5⟩ := scanWord_e x n t p hn hp ht (by rw [x26]; exact q) x28
    rw [x26] at a1 a4 a5
    rw [q, if_neg (by decide), a1, bd_e]
    refine ⟨d', rfl, fun k h1 h2 => by rw [a2 k h1 h2]; exact xk k h2, fun j hj => ⟨by rw [(a3 j hj).1, xk 27 (by decide)], by rw [(a3 j hj).2]; exact xj j hj⟩, a4, a5⟩
  · unfold kd vl
    have ft : ¬ (false = true) := by decide
    rw [bool_f q, if_pos (show b2i false = 0 by decide), e_isDigit, bd_e, if_pos hp]
    simp only [if_neg ft]
    by_cases q2 : isD (d 26 p) = true
    · rw [q2, if_neg (show ¬ b2i true = 0 by decide)]
      simp only [if_pos (rfl : true = true)]
      obtain ⟨m, hm⟩ : ∃ m, en (d 26) n p = p + m := ⟨en (d 26) n p - p, by omega⟩
      have b58 : ∀ kk : Int, ∃ d', L_Pa_scanToken_b58 (t : Int) (p : Int) ((p + m : Nat) : Int) (t : Int) kk x = some (0, d') ∧ (∀ k, k ≠ 27 → k ≠ 28 → d' k = d k) ∧ (∀ j, j ≠ t → d' 27 j = d 27 j ∧ d' 28 j = d 28 j) ∧ d' 27 t = kk ∧ d' 28 t = nuW (d 26) p m := by
        intro kk
        obtain ⟨u, e1, e2, e3, e4⟩ := lp_inv (f := fun q : Int × Int × Int × Dt => L_Pa_scanToken_y62 q.1 q.2.1 q.2.2.1 q.2.2.2) (fun i y => ((t : Int), ((p + m : Nat) : Int), ((p + i : Nat) : Int), y)) (fun y => y)
          (fun i y => (∀ k, k ≠ 28 → y k = (up2 x 27 t kk) k) ∧ (∀ j, j ≠ t → y 28 j = x 28 j) ∧ y 28 t = nuW (d 26) p i) m
          (by
            rintro i y hi ⟨f1, f2, f3⟩
            refine ⟨up2 y 28 t (nuW (d 26) p (i + 1)), ?_, fun k hk => by rw [up2_K _ _ _ hk]; exact f1 k hk, fun j hj => by rw [up2_j _ _ _ hj]; exact f2 j hj, up2_s _ _ _ _⟩
            have y26 : y 26 = d 26 := by rw [f1 26 (by decide), up2_K _ _ _ (by decide)]; exact x26
            dsimp only
            unfold L_Pa_scanToken_y62
            rw [if_pos (by omega), ck_pos ct, ck_pos ⟨by omega, by omega⟩, ck_pos ct, tn_i, tn_i, f3, y26, w32_i (show p + i < 2147483647 by omega)]
            rfl)
          (by
            rintro y _
            dsimp only
            unfold L_Pa_scanToken_y62
            rw [if_neg (by omega)]) (by omega) (up2 x 27 t kk) ⟨fun _ _ => rfl, fun j _ => by rw [up2_K _ _ _ (by decide)], by rw [up2_K _ _ _ (by decide)]; exact x28⟩
        refine ⟨u, ?_, fun k h1 h2 => by rw [e2 k h2, up2_K _ _ _ h1]; exact xk k h2, fun j hj => ⟨by rw [e2 27 (by decide), up2_j _ _ _ hj, xk 27 (by decide)], by rw [e3 j hj]; exact xj j hj⟩, by rw [e2 27 (by decide), up2_s], e4⟩
        unfold L_Pa_scanToken_b58 L_Pa_scanToken_l62
        rw [ck_pos ct, tn_i, show lpF (fun q : Int × Int × Int × Dt => L_Pa_scanToken_y62 q.1 q.2.1 q.2.2.1 q.2.2.2) FU ((t : Int), ((p + m : Nat) : Int), (p : Int), up2 x 27 t kk) = _ from e1, lb_e, u0_q]
      rw [hm, show p + m - p = m by omega, show ((p + m : Nat) : Int) - (p : Int) = (m : Int) by omega, w32_s (x := (m : Int)) (by omega) (by omega)]
      by_cases q3 : 5 < m
      · rw [if_pos (show (5 : Int) < (m : Int) by omega), if_pos q3]; exact b58 1
      · rw [if_neg (show ¬ (5 : Int) < (m : Int) by omega), if_neg q3]; exact b58 2
    · rw [bool_f q2, if_pos (show b2i false = 0 by decide)]
      simp only [if_neg ft]
      have fin : ∀ kk : Int, ∃ d', (some (0, up2 x 27 t kk) : Option (Int × Dt)) = some (0, d') ∧ (∀ k, k ≠ 27 → k ≠ 28 → d' k = d k) ∧ (∀ j, j ≠ t → d' 27 j = d 27 j ∧ d' 28 j = d 28 j) ∧ d' 27 t = kk ∧ d' 28 t = 0 := fun kk => ⟨_, rfl, fun k h1 h2 => by rw [up2_K _ _ _ h1]; exact xk k h2, fun j hj => ⟨by rw [up2_j _ _ _ hj, xk 27 (by decide)], by rw [up2_K _ _ _ (by decide)]; exact xj j hj⟩, up2_s _ _ _ _, by rw [up2_K _ _ _ (by decide)]; exact x28⟩
      unfold L_Pa_scanToken_b120 L_Pa_scanToken_b146 L_Pa_scanToken_b164
      have n10' : ¬ ((1 : Int) = 0) := by decide
      simp only [if_neg n10', if_pos (rfl : (0 : Int) = 0), ck_pos ct, tn_i]
      by_cases s : isSg (d 26 p) = true
      · have hs : (40 ≤ d 26 p ∧ d 26 p ≤ 43) ∨ d 26 p = 45 ∨ (58 ≤ d 26 p ∧ d 26 p ≤ 62) := by
          unfold isSg at s
          simp only [Bool.or_eq_true, Bool.and_eq_true, decide_eq_true_eq] at s
          omega
        rw [if_pos s]
        by_cases c1 : d 26 p < 40
        · omega
        · rw [if_neg c1]
          by_cases c2 : 43 < d 26 p
          · rw [if_pos c2]
            by_cases c3 : d 26 p = 45
            · rw [if_pos c3]; exact fin _
            · rw [if_neg c3, if_neg (by omega), if_neg (by omega)]; exact fin _
          · rw [if_neg c2]; exact fin _
      · have hs : ¬ ((40 ≤ d 26 p ∧ d 26 p ≤ 43) ∨ d 26 p = 45 ∨ (58 ≤ d 26 p ∧ d 26 p ≤ 62)) := by
          intro z
          apply s
          unfold isSg
          simp only [Bool.or_eq_true, Bool.and_eq_true, decide_eq_true_eq]
          omega
        rw [if_neg s]
        by_cases c1 : d 26 p < 40
        · rw [if_pos c1, if_neg (by omega), if_pos (by omega)]; exact fin 1
        · rw [if_neg c1, if_pos (by omega), if_neg (by omega)]
          by_cases c4 : d 26 p < 58
          · rw [if_pos c4]; exact fin 1
          · rw [if_neg c4, if_pos (by omega)]; exact fin 1
/-- where the t-th TOKEN begins -/
def ps (f : Nat → Int) (n : Nat) : Nat → Nat
  | 0 => run isSp f n 0
  | t + 1 => run isSp f n (en f n (ps f n t))
/-- the class's TOKENS -/
def tkA (x : Dt) (f : Nat → Int) (n N : Nat) : Prop := N ≤ n ∧ ps f n N = n ∧ (∀ t, t < N → ps f n t < n) ∧ (∀ t, t ≤ N → x 27 t = kd f n (ps f n t) ∧ x 29 t = (ps f n t : Int)) ∧ ∀ t, t < N → x 28 t = vl f n (ps f n t)
theorem scan_e (d : Dt) (n : Nat) (hn : n ≤ 600) : ∃ (N : Nat) (d' : Dt), L_Pa_scan (n : Int) d = some (0, d') ∧ (∀ k, k ≠ 27 → k ≠ 28 → k ≠ 29 → d' k = d k) ∧ tkA d' (d 26) n N := by
  obtain ⟨r, e1, e2⟩ := lp_wf (f := fun q : Int × Int × Int × Int × Dt => L_Pa_scan_y7 q.1 q.2.1 q.2.2.1 q.2.2.2.1 q.2.2.2.2)
    (fun s => ∃ (t p i : Nat) (y : Dt), s = ((n : Int), (t : Int), (p : Int), (i : Int), y) ∧ i ≤ p ∧ p ≤ n ∧ t ≤ p ∧ (∀ k, k ≠ 27 → k ≠ 28 → k ≠ 29 → y k = d k) ∧ (∀ j, j < t → ps (d 26) n j < n ∧ y 27 j = kd (d 26) n (ps (d 26) n j) ∧ y 28 j = vl (d 26) n (ps (d 26) n j) ∧ y 29 j = (ps (d 26) n j : Int)) ∧ run isSp (d 26) n p = ps (d 26) n t)
    (fun s => n - s.2.2.1.toNat)
    (fun r => ∃ (t : Nat) (y : Dt), r = ((n : Int), (t : Int), y) ∧ t ≤ n ∧ (∀ k, k ≠ 27 → k ≠ 28 → k ≠ 29 → y k = d k) ∧ (∀ j, j < t → ps (d 26) n j < n ∧ y 27 j = kd (d 26) n (ps (d 26) n j) ∧ y 28 j = vl (d 26) n (ps (d 26) n j) ∧ y 29 j = (ps (d 26) n j : Int)) ∧ ps (d 26) n t = n)
    (by
      rintro s ⟨t, p, i, y, rfl, h1, h2, h3, h4, h5, h6⟩
      have y26 : y 26 = d 26 := h4 26 (by decide) (by decide) (by decide)
      dsimp only
      unfold L_Pa_scan_y7 L_Pa_scan_b40 L_Pa_scan_b75
      by_cases hp : p < n
      · left
        have cp : (0 : Int) ≤ (p : Int) ∧ (p : Int) < 600 := by omega
        rw [if_pos (by omega), if_pos (by omega), ck_pos cp, tn_i, lt_e, y26, w32_i (show i < 2147483647 by omega), w32_i (show p < 2147483647 by omega)]
        have spc : (d 26 p = 10 ∨ d 26 p = 32) → ∃ s', (some (Sum.inl ((n : Int), (t : Int), ((p + 1 : Nat) : Int), ((i + 1 : Nat) : Int), y)) : Option ((Int × Int × Int × Int × Dt) ⊕ (Int × Int × Dt))) = some (Sum.inl s') ∧ (∃ (t p i : Nat) (y : Dt), s' = ((n : Int), (t : Int), (p : Int), (i : Int), y) ∧ i ≤ p ∧ p ≤ n ∧ t ≤ p ∧ (∀ k, k ≠ 27 → k ≠ 28 → k ≠ 29 → y k = d k) ∧ (∀ j, j < t → ps (d 26) n j < n ∧ y 27 j = kd (d 26) n (ps (d 26) n j) ∧ y 28 j = vl (d 26) n (ps (d 26) n j) ∧ y 29 j = (ps (d 26) n j : Int)) ∧ run isSp (d 26) n p = ps (d 26) n t) ∧ n - s'.2.2.1.toNat < n - p := by
          intro hs
          refine ⟨_, rfl, ⟨t, p + 1, i + 1, y, rfl, by omega, by omega, by omega, h4, h5, ?_⟩, by show n - ((p + 1 : Nat) : Int).toNat < n - p; rw [tn_i]; omega⟩
          rw [run_e, if_pos ⟨hp, by unfold isSp; rw [Bool.or_eq_true, decide_eq_true_eq, decide_eq_true_eq]; exact hs⟩] at h6
          exact h6
        by_cases c1 : d 26 p = 10
        · rw [if_pos c1]; exact spc (Or.inl c1)
        · rw [if_neg c1]
          by_cases c2 : d 26 p = 32
          · rw [if_pos c2]; exact spc (Or.inr c2)
          · rw [if_neg c2]
            have hns : ¬ isSp (d 26 p) = true := by unfold isSp; rw [Bool.or_eq_true, decide_eq_true_eq, decide_eq_true_eq]; omega
            rw [run_e, if_neg (fun z => hns z.2)] at h6
            obtain ⟨hb1, hb2⟩ := en_b (d 26) n p hp
            have hr := endOfRun_e y n p hn hp
            rw [y26] at hr
            obtain ⟨u, a1, a2, a3, a4, a5⟩ := scanToken_e (up2 y 29 t (p : Int)) n t p hn hp (by omega)
            rw [up2_K _ _ _ (by decide), y26] at a1 a4 a5
            rw [hr, bd_e, ck_pos ⟨by omega, by omega⟩, tn_i, a1, bd_e, w32_i (show t < 2147483647 by omega)]
            refine ⟨_, rfl, ⟨t + 1, en (d 26) n p, i + 1, u, rfl, by omega, hb2, by omega, ?_, ?_, by rw [h6]; rfl⟩, by show n - (en (d 26) n p : Int).toNat < n - p; rw [tn_i]; omega⟩
            · intro k k1 k2 k3; rw [a2 k k1 k2, up2_K _ _ _ k3]; exact h4 k k1 k2 k3
            · intro j hj
              by_cases ej : j = t
              · rw [ej, ← h6]
                exact ⟨hp, a4, a5, by rw [a2 29 (by decide) (by decide), up2_s]⟩
              · obtain ⟨g1, g2, g3, g4⟩ := h5 j (by omega)
                refine ⟨g1, by rw [(a3 j ej).1, up2_K _ _ _ (by decide)]; exact g2, by rw [(a3 j ej).2, up2_K _ _ _ (by decide)]; exact g3, by rw [a2 29 (by decide) (by decide), up2_j _ _ _ ej]; exact g4⟩
      · right
        have hpn : p = n := by omega
        refine ⟨((n : Int), (t : Int), y), ?_, t, y, rfl, by omega, h4, h5, ?_⟩
        · by_cases c : (i : Int) < (n : Int)
          · rw [if_pos c, if_neg (by omega)]
          · rw [if_neg c]
        · rw [← h6, run_e, if_neg (fun z => hp z.1)]; exact hpn)
    ((n : Int), 0, 0, 0, d) ⟨0, 0, 0, d, rfl, by omega, by omega, by omega, fun _ _ _ _ => rfl, fun j h => by omega, rfl⟩ (by show n - (0 : Int).toNat < 999999; omega)
  obtain ⟨t, y, rfl, h1, h2, h3, h4⟩ := e2
  refine ⟨t, up2 (up2 y 27 t 0) 29 t (n : Int), ?_, fun k k1 k2 k3 => by rw [up2_K _ _ _ k3, up2_K _ _ _ k1]; exact h2 k k1 k2 k3, h1, h4, fun j hj => (h3 j hj).1, ?_, ?_⟩
  · unfold L_Pa_scan L_Pa_scan_l7 L_Pa_scan_b81
    rw [e1, lb_e, u2_q, ck_pos ⟨by omega, by omega⟩, ck_pos ⟨by omega, by omega⟩, tn_i]
  · intro j hj
    by_cases ej : j = t
    · rw [ej, h4]
      refine ⟨?_, by rw [up2_s]⟩
      rw [up2_K _ _ _ (by decide), up2_s]; unfold kd; rw [if_neg (by omega)]
    · obtain ⟨g1, g2, g3, g4⟩ := h3 j (by omega)
      exact ⟨by rw [up2_K _ _ _ (by decide), up2_j _ _ _ ej]; exact g2, by rw [up2_j _ _ _ ej, up2_K _ _ _ (by decide)]; exact g4⟩
  · intro j hj
    rw [up2_K _ _ _ (by decide), up2_K _ _ _ (by decide)]; exact (h3 j hj).2.2.1
