/-! DRAW: strikes of both sides -/
theorem ir2 (t : Nat) (h : t < 1000) : (irem (t : Int) 2 = 0) ↔ t % 2 = 0 := by
  rw [irem_e 2 (by omega) (by omega) (by decide) (by decide)]; omega
theorem subnm (n m : Nat) (hn : n ≤ 30) (hm : m ≤ n) : w32 ((n : Int) - (m : Int)) = ((n - m : Nat) : Int) := by
  rw [w32_s (by omega) (by omega)]; omega
theorem strikesA {d : Dt} (F : Nat → Bool) (M n m : Nat) (hM : M ≤ 30) (hn : n ≤ 30) (hm : m ≤ n) (h64 : d 64 2 = (M : Int)) (h69 : ∀ y, y < M → d 69 y = if F y = true then 1 else 0) : ∃ d', L_Ju_form_l103 (n : Int) (m : Int) 0 d = some d' ∧ (∀ k, k ≠ 69 → d' k = d k) ∧ ∀ y, y < M → d' 69 y = if fsS F (d 65) M (n - m) y = true then 1 else 0 := by
  obtain ⟨d', e1, e2, e3⟩ := lp_inv (f := fun q : Int × Int × Int × Dt => L_Ju_form_y103 q.1 q.2.1 q.2.2.1 q.2.2.2) (fun t x => ((n : Int), (m : Int), (t : Int), x)) (fun x => x)
    (fun t x => (∀ k, k ≠ 69 → x k = d k) ∧ ∀ y, y < M → x 69 y = if fsS F (d 65) M t y = true then 1 else 0) (n - m)
    (by
      rintro t x ht ⟨f1, f2⟩
      obtain ⟨x', g1, g2, g3⟩ := strikeOne_e (d := x) (fsS F (d 65) M t) M (decide (t % 2 = 0)) hM (by rw [f1 64 (by decide)]; exact h64) f2
      refine ⟨x', ?_, ?_, ?_⟩
      · dsimp only
        unfold L_Ju_form_y103 L_Ju_form_b124
        rw [subnm n m hn hm, if_pos (by omega), w32_i (show t < 2147483647 by omega)]
        by_cases q : t % 2 = 0
        · rw [if_pos ((ir2 t (by omega)).2 q)]
          rw [decide_eq_true q, if_pos rfl] at g1
          rw [g1, bd_e]
        · rw [if_neg (fun z => q ((ir2 t (by omega)).1 z))]
          rw [decide_eq_false q, if_neg (by decide)] at g1
          rw [g1, bd_e]
      · intro k hk; rw [g2 k hk]; exact f1 k hk
      · intro y hy
        rw [g3 y hy, f1 65 (by decide)]
        rfl)
    (by
      rintro x _
      dsimp only
      unfold L_Ju_form_y103
      rw [subnm n m hn hm, if_neg (by omega)]) (by omega) d ⟨fun _ _ => rfl, h69⟩
  exact ⟨d', e1, e2, e3⟩
def biS (v : Nat → Nat) (ln : Nat → Int) (lst : Bool) : Nat → Nat
  | 0 => 0
  | k + 1 => if lst = true then (if ln (v (k + 1)) < ln (v (biS v ln lst k)) then k + 1 else if ln (v (k + 1)) = ln (v (biS v ln lst k)) ∧ v (k + 1) < v (biS v ln lst k) then k + 1 else biS v ln lst k) else (if ln (v (biS v ln lst k)) < ln (v (k + 1)) then k + 1 else if ln (v (k + 1)) = ln (v (biS v ln lst k)) ∧ v (k + 1) < v (biS v ln lst k) then k + 1 else biS v ln lst k)
theorem biS_s (v : Nat → Nat) (ln : Nat → Int) (lst : Bool) (k : Nat) : (biS v ln lst (k + 1) = k + 1 ∧ bet ln lst (v (k + 1)) (v (biS v ln lst k))) ∨ (biS v ln lst (k + 1) = biS v ln lst k ∧ ¬ bet ln lst (v (k + 1)) (v (biS v ln lst k))) := by
  simp only [biS, bet]
  cases lst
  · simp only [Bool.false_eq_true, if_false]
    by_cases q1 : ln (v (biS v ln false k)) < ln (v (k + 1))
    · rw [if_pos q1]; exact Or.inl ⟨rfl, Or.inl q1⟩
    · rw [if_neg q1]
      by_cases q2 : ln (v (k + 1)) = ln (v (biS v ln false k)) ∧ v (k + 1) < v (biS v ln false k)
      · rw [if_pos q2]; exact Or.inl ⟨rfl, Or.inr q2⟩
      · rw [if_neg q2]; exact Or.inr ⟨rfl, fun z => z.elim q1 q2⟩
  · simp only [if_true]
    by_cases q1 : ln (v (k + 1)) < ln (v (biS v ln true k))
    · rw [if_pos q1]; exact Or.inl ⟨rfl, Or.inl q1⟩
    · rw [if_neg q1]
      by_cases q2 : ln (v (k + 1)) = ln (v (biS v ln true k)) ∧ v (k + 1) < v (biS v ln true k)
      · rw [if_pos q2]; exact Or.inl ⟨rfl, Or.inr q2⟩
      · rw [if_neg q2]; exact Or.inr ⟨rfl, fun z => z.elim q1 q2⟩
theorem bet_i (ln : Nat → Int) (lst : Bool) (a : Nat) : ¬ bet ln lst a a := by
  unfold bet; cases lst <;> simp
theorem biS_e (v : Nat → Nat) (ln : Nat → Int) (lst : Bool) : ∀ k : Nat, biS v ln lst k ≤ k ∧ ∀ j, j ≤ k → ¬ bet ln lst (v j) (v (biS v ln lst k))
  | 0 => ⟨Nat.le_refl 0, fun j hj => by
      have : j = 0 := by omega
      subst this; exact bet_i ln lst _⟩
  | k + 1 => by
    obtain ⟨h1, h2⟩ := biS_e v ln lst k
    rcases biS_s v ln lst k with ⟨e, hb⟩ | ⟨e, hb⟩
    · rw [e]
      refine ⟨Nat.le_refl _, fun j hj hbj => ?_⟩
      by_cases q : j = k + 1
      · subst q; exact bet_i ln lst _ hbj
      · exact h2 j (by omega) (bet_t ln lst _ _ _ hbj hb)
    · rw [e]
      refine ⟨by omega, fun j hj hbj => ?_⟩
      by_cases q : j = k + 1
      · subst q; exact hb hbj
      · exact h2 j (by omega) hbj
theorem bestB {x : Dt} (v : Nat → Nat) (ln : Nat → Int) (M many t : Nat) (m : Int) (hM : M ≤ 30) (hmany : 1 ≤ many) (hm30 : many ≤ 30) (ht : t < 1000) (h73 : ∀ j, j < many → x 73 j = (v j : Int)) (hv : ∀ j, j < many → v j < M) (hl : x 69 = ln) : L_Mo_draw_l259 m (many : Int) (t : Int) 0 1 x = some (m, (many : Int), (t : Int), (biS v ln (decide (t % 2 = 0)) (many - 1) : Int), x) := by
  unfold L_Mo_draw_l259
  refine lp_seq (f := fun q : Int × Int × Int × Int × Int × Dt => L_Mo_draw_y259 q.1 q.2.1 q.2.2.1 q.2.2.2.1 q.2.2.2.2.1 q.2.2.2.2.2) (fun k => (m, (many : Int), (t : Int), (biS v ln (decide (t % 2 = 0)) k : Int), ((k + 1 : Nat) : Int), x)) (many - 1) ?_ ?_ (by omega)
  · intro k hk
    have hb := (biS_e v ln (decide (t % 2 = 0)) k).1
    have a1 := h73 (k + 1) (by omega)
    have a2 := h73 (biS v ln (decide (t % 2 = 0)) k) (by omega)
    have b1 := hv (k + 1) (by omega)
    have b2 := hv (biS v ln (decide (t % 2 = 0)) k) (by omega)
    obtain ⟨B, hB⟩ : ∃ B, B = biS v ln (decide (t % 2 = 0)) k := ⟨_, rfl⟩
    have hs : biS v ln (decide (t % 2 = 0)) (k + 1) = if decide (t % 2 = 0) = true then (if ln (v (k + 1)) < ln (v B) then k + 1 else if ln (v (k + 1)) = ln (v B) ∧ v (k + 1) < v B then k + 1 else B) else (if ln (v B) < ln (v (k + 1)) then k + 1 else if ln (v (k + 1)) = ln (v B) ∧ v (k + 1) < v B then k + 1 else B) := by rw [hB]; rfl
    dsimp only
    rw [← hB] at a2 b2 hb ⊢
    rw [hs]
    unfold L_Mo_draw_y259 L_Mo_draw_b328 L_Mo_draw_b359 L_Mo_draw_b363
    simp only [if_pos (show ((k + 1 : Nat) : Int) < (many : Int) by omega), ck_pos (show (0 : Int) ≤ ((k + 1 : Nat) : Int) ∧ ((k + 1 : Nat) : Int) < 30 by omega), tn_i, a1, a2, ck_pos (show (0 : Int) ≤ ((v (k + 1) : Nat) : Int) ∧ ((v (k + 1) : Nat) : Int) < 30 by omega), ck_pos (show (0 : Int) ≤ (B : Int) ∧ (B : Int) < 30 by omega), ck_pos (show (0 : Int) ≤ ((v B : Nat) : Int) ∧ ((v B : Nat) : Int) < 30 by omega), lt_e, hl, w32_i (show k + 1 < 2147483647 by omega), i10, if_true, if_false]
    by_cases q : t % 2 = 0
    · simp only [if_pos ((ir2 t ht).2 q), decide_eq_true q, if_true]
      by_cases q1 : ln (v (k + 1)) < ln (v B)
      · simp only [if_pos q1]
      · simp only [if_neg q1]
        by_cases q2 : ln (v (k + 1)) = ln (v B)
        · by_cases q3 : v (k + 1) < v B
          · simp only [if_pos q2, if_pos (show ((v (k + 1) : Nat) : Int) < ((v B : Nat) : Int) by omega), if_pos (show ln (v (k + 1)) = ln (v B) ∧ v (k + 1) < v B from ⟨q2, q3⟩)]
          · simp only [if_pos q2, if_neg (show ¬ ((v (k + 1) : Nat) : Int) < ((v B : Nat) : Int) by omega), if_neg (show ¬ (ln (v (k + 1)) = ln (v B) ∧ v (k + 1) < v B) from fun z => q3 z.2)]
        · simp only [if_neg q2, if_neg (show ¬ (ln (v (k + 1)) = ln (v B) ∧ v (k + 1) < v B) from fun z => q2 z.1)]
    · simp only [if_neg (fun z => q ((ir2 t ht).1 z)), decide_eq_false q, Bool.false_eq_true, if_false]
      by_cases q1 : ln (v B) < ln (v (k + 1))
      · simp only [if_pos q1]
      · simp only [if_neg q1]
        by_cases q2 : ln (v (k + 1)) = ln (v B)
        · by_cases q3 : v (k + 1) < v B
          · simp only [if_pos q2, if_pos (show ((v (k + 1) : Nat) : Int) < ((v B : Nat) : Int) by omega), if_pos (show ln (v (k + 1)) = ln (v B) ∧ v (k + 1) < v B from ⟨q2, q3⟩)]
          · simp only [if_pos q2, if_neg (show ¬ ((v (k + 1) : Nat) : Int) < ((v B : Nat) : Int) by omega), if_neg (show ¬ (ln (v (k + 1)) = ln (v B) ∧ v (k + 1) < v B) from fun z => q3 z.2)]
        · simp only [if_neg q2, if_neg (show ¬ (ln (v (k + 1)) = ln (v B) ∧ v (k + 1) < v B) from fun z => q2 z.1)]
  · dsimp only
    unfold L_Mo_draw_y259
    rw [if_neg (by omega)]
theorem shiftB (x : Dt) (many b : Nat) (m t : Int) (hm30 : many ≤ 30) (hb : b < many) : ∃ x', L_Mo_draw_l373 m (many : Int) t (b : Int) x = some (m, (many : Int), t, x') ∧ (∀ k, k ≠ 73 → x' k = x k) ∧ ∀ j, x' 73 j = if b ≤ j ∧ j + 1 < many then x 73 (j + 1) else x 73 j := by
  obtain ⟨x', e1, e2, e3⟩ := lp_inv (f := fun q : Int × Int × Int × Int × Dt => L_Mo_draw_y373 q.1 q.2.1 q.2.2.1 q.2.2.2.1 q.2.2.2.2) (fun s y => (m, (many : Int), t, ((b + s : Nat) : Int), y)) (fun y => (m, (many : Int), t, y))
    (fun s y => (∀ k, k ≠ 73 → y k = x k) ∧ ∀ j, y 73 j = if b ≤ j ∧ j < b + s then x 73 (j + 1) else x 73 j) (many - 1 - b)
    (by
      rintro s y hs ⟨l1, l2⟩
      refine ⟨up2 y 73 (b + s) (x 73 (b + s + 1)), ?_, ?_, ?_⟩
      · dsimp only
        unfold L_Mo_draw_y373
        rw [w32_i (show b + s < 2147483647 by omega), if_pos (by omega), ck_pos ⟨by omega, by omega⟩, ck_pos ⟨by omega, by omega⟩, tn_i, tn_i, l2 (b + s + 1), if_neg (by omega)]
        rfl
      · intro k hk; rw [up2_K _ _ _ hk]; exact l1 k hk
      · intro j
        by_cases q : j = b + s
        · subst q; rw [up2_s, if_pos (by omega)]
        · rw [up2_j _ _ _ q, l2 j]
          by_cases q2 : b ≤ j ∧ j < b + s
          · rw [if_pos q2, if_pos (by omega)]
          · rw [if_neg q2, if_neg (by omega)])
    (by
      rintro y _
      dsimp only
      unfold L_Mo_draw_y373
      rw [w32_i (show b + (many - 1 - b) < 2147483647 by omega), if_neg (by omega)]) (by omega) x ⟨fun _ _ => rfl, fun j => by rw [if_neg (by omega)]⟩
  refine ⟨x', e1, e2, fun j => ?_⟩
  rw [e3 j]
  by_cases q : b ≤ j ∧ j + 1 < many
  · rw [if_pos q, if_pos (by omega)]
  · rw [if_neg q, if_neg (by omega)]
theorem strikesB {d : Dt} (F : Nat → Bool) (v0 : Nat → Nat) (M n m : Nat) (hM : M ≤ 30) (hn : n ≤ 30) (hm : m ≤ n) (h73 : ∀ j, j < n → d 73 j = (v0 j : Int)) (hv : ∀ j, j < n → v0 j < M) (hi : ∀ i j, i < n → j < n → v0 i = v0 j → i = j) (hF : ∀ y, F y = true ↔ ∃ j, j < n ∧ v0 j = y) : ∃ d', L_Mo_draw_l247 (m : Int) (n : Int) 0 d = some ((m : Int), d') ∧ (∀ k, k ≠ 73 → d' k = d k) ∧ ∃ v : Nat → Nat, (∀ j, j < m → d' 73 j = (v j : Int)) ∧ (∀ j, j < m → v j < M) ∧ (∀ i j, i < m → j < m → v i = v j → i = j) ∧ ∀ y, fsS F (d 69) M (n - m) y = true ↔ ∃ j, j < m ∧ v j = y := by
  obtain ⟨d', e1, e2, v, e3, e4, e5, e6⟩ := lp_inv (f := fun q : Int × Int × Int × Dt => L_Mo_draw_y247 q.1 q.2.1 q.2.2.1 q.2.2.2) (fun t x => ((m : Int), (n : Int) - (t : Int), (t : Int), x)) (fun x => ((m : Int), x))
    (fun t x => (∀ k, k ≠ 73 → x k = d k) ∧ ∃ v : Nat → Nat, (∀ j, j < n - t → x 73 j = (v j : Int)) ∧ (∀ j, j < n - t → v j < M) ∧ (∀ i j, i < n - t → j < n - t → v i = v j → i = j) ∧ ∀ y, fsS F (d 69) M t y = true ↔ ∃ j, j < n - t ∧ v j = y) (n - m)
    (by
      rintro t x ht ⟨f1, v, f2, f3, f4, f5⟩
      obtain ⟨lst, hlst⟩ : ∃ l, l = decide (t % 2 = 0) := ⟨_, rfl⟩
      have hbest := bestB (x := x) v (d 69) M (n - t) t (m : Int) hM (by omega) (by omega) (by omega) f2 f3 (f1 69 (by decide))
      rw [← hlst] at hbest
      obtain ⟨hb1, hb2⟩ := biS_e v (d 69) lst (n - t - 1)
      obtain ⟨b, hb⟩ : ∃ b, b = biS v (d 69) lst (n - t - 1) := ⟨_, rfl⟩
      rw [← hb] at hbest hb1 hb2
      obtain ⟨x', s1, s2, s3⟩ := shiftB x (n - t) b (m : Int) (t : Int) (by omega) (by omega)
      have hx : bsF (fsS F (d 69) M t) (d 69) lst M = ((v b : Nat) : Int) := by
        have hvb := f3 b (by omega)
        have hFb : fsS F (d 69) M t (v b) = true := (f5 (v b)).2 ⟨b, by omega, rfl⟩
        rcases bsF_e (fsS F (d 69) M t) (d 69) lst M with ⟨h1, h2⟩ | ⟨z, h1, h2, h3, h4⟩
        · rw [h2 (v b) hvb] at hFb; cases hFb
        · obtain ⟨j, hj, hvj⟩ := (f5 z).1 h3
          have q1 := h4 (v b) hvb hFb
          have q2 := hb2 j (by omega)
          rw [hvj] at q2
          rw [h1, bet_a (d 69) lst (v b) z q1 q2]
      refine ⟨x', ?_, ?_, fun j => if b ≤ j ∧ j + 1 < n - t then v (j + 1) else v j, ?_, ?_, ?_, ?_⟩
      · dsimp only
        unfold L_Mo_draw_y247
        rw [show (n : Int) - (t : Int) = ((n - t : Nat) : Int) by omega, if_pos (by omega), hbest, lb_e, u4_q, s1, lb_e, u3_q, w32_i (show t < 2147483647 by omega), dn1 (n - t) (by omega), show ((n - t : Nat) : Int) - 1 = (n : Int) - ((t + 1 : Nat) : Int) by omega]
      · intro k hk; rw [s2 k hk]; exact f1 k hk
      · intro j hj
        rw [s3 j]
        dsimp only
        by_cases q : b ≤ j ∧ j + 1 < n - t
        · rw [if_pos q, if_pos q]; exact f2 (j + 1) (by omega)
        · rw [if_neg q, if_neg q]; exact f2 j (by omega)
      · intro j hj
        dsimp only
        by_cases q : b ≤ j ∧ j + 1 < n - t
        · rw [if_pos q]; exact f3 (j + 1) (by omega)
        · rw [if_neg q]; exact f3 j (by omega)
      · intro i j hi hj he
        dsimp only at he
        by_cases q : b ≤ i ∧ i + 1 < n - t
        · rw [if_pos q] at he
          by_cases q' : b ≤ j ∧ j + 1 < n - t
          · rw [if_pos q'] at he
            have := f4 (i + 1) (j + 1) (by omega) (by omega) he; omega
          · rw [if_neg q'] at he
            have := f4 (i + 1) j (by omega) (by omega) he; omega
        · rw [if_neg q] at he
          by_cases q' : b ≤ j ∧ j + 1 < n - t
          · rw [if_pos q'] at he
            have := f4 i (j + 1) (by omega) (by omega) he; omega
          · rw [if_neg q'] at he
            have := f4 i j (by omega) (by omega) he; omega
      · intro y
        have hs : fsS F (d 69) M (t + 1) y = (fsS F (d 69) M t y && !(decide ((y : Int) = bsF (fsS F (d 69) M t) (d 69) lst M))) := by rw [hlst]; rfl
        rw [hs, hx, Bool.and_eq_true, f5 y, Bool.not_eq_true', decide_eq_false_iff_not]
        dsimp only
        constructor
        · rintro ⟨⟨j, h1, h2⟩, h3⟩
          have hjb : j ≠ b := by intro e; subst e; omega
          by_cases q : j < b
          · exact ⟨j, by omega, by rw [if_neg (by omega)]; exact h2⟩
          · refine ⟨j - 1, by omega, ?_⟩
            rw [if_pos (by omega), show j - 1 + 1 = j by omega]; exact h2
        · rintro ⟨j, h1, h2⟩
          by_cases q : b ≤ j ∧ j + 1 < n - t
          · rw [if_pos q] at h2
            refine ⟨⟨j + 1, by omega, h2⟩, ?_⟩
            intro e
            have : v (j + 1) = v b := by omega
            have := f4 (j + 1) b (by omega) (by omega) this; omega
          · rw [if_neg q] at h2
            refine ⟨⟨j, by omega, h2⟩, ?_⟩
            intro e
            have : v j = v b := by omega
            have := f4 j b (by omega) (by omega) this; omega)
    (by
      rintro x _
      dsimp only
      unfold L_Mo_draw_y247
      rw [if_neg (by omega), show (n : Int) - ((n - m : Nat) : Int) = (m : Int) by omega]) (by omega) d ⟨fun _ _ => rfl, v0, fun j hj => h73 j (by omega), fun j hj => hv j (by omega), fun i j h1 h2 => hi i j (by omega) (by omega), fun y => hF y⟩
  have hnm : n - (n - m) = m := by omega
  rw [hnm] at e3 e4 e5 e6
  refine ⟨d', ?_, e2, v, e3, e4, e5, e6⟩
  unfold L_Mo_draw_l247
  rw [show (n : Int) - ((0 : Nat) : Int) = (n : Int) by omega] at e1
  exact e1
