/-! DRAW: the reference's lots; strikes -/
theorem drawB_e {d : Dt} (P0 : Nat → Nat) (seed : Int) (L M n : Nat) (m : Int) (hL : L ≤ 30) (hM : M ≤ 30) (hn : n ≤ L) (h0 : ∀ j, j < L → P0 j < M) (h1 : ∀ i j, i < L → j < L → P0 i = P0 j → i = j) (h72 : ∀ j, j < L → d 72 j = (P0 j : Int)) : ∃ d', L_Mo_draw_l148 (n : Int) m (L : Int) seed 0 d = some ((n : Int), m, d') ∧ (∀ k, k ≠ 72 → k ≠ 73 → d' k = d k) ∧ ∀ i, i < n → d' 73 i = (xsS P0 seed L i : Int) := by
  obtain ⟨d', e1, e2, e3, e4⟩ := lp_inv (f := fun q : Int × Int × Int × Int × Int × Dt => L_Mo_draw_y148 q.1 q.2.1 q.2.2.1 q.2.2.2.1 q.2.2.2.2.1 q.2.2.2.2.2) (fun i y => ((n : Int), m, (L : Int) - (i : Int), lotS seed i, (i : Int), y)) (fun y => ((n : Int), m, y))
    (fun i x => (∀ k, k ≠ 72 → k ≠ 73 → x k = d k) ∧ (∀ j, j < L - i → x 72 j = (poS P0 seed L i j : Int)) ∧ ∀ i', i' < i → x 73 i' = (xsS P0 seed L i' : Int)) n
    (by
      rintro i x hi ⟨f1, f2, f3⟩
      have ha2 := (atS_e seed L i (by omega) hL).2
      have hx := f2 _ ha2
      obtain ⟨a, ha⟩ : ∃ a, a = atS seed L i := ⟨_, rfl⟩
      obtain ⟨x0, hx0⟩ : ∃ z, z = up2 x 73 i (poS P0 seed L i (atS seed L i) : Int) := ⟨_, rfl⟩
      obtain ⟨x1, k1, k2, k3⟩ := lp_inv (f := fun q : Int × Int × Int × Int × Int × Int × Dt => L_Mo_draw_y201 q.1 q.2.1 q.2.2.1 q.2.2.2.1 q.2.2.2.2.1 q.2.2.2.2.2.1 q.2.2.2.2.2.2) (fun t y => ((n : Int), m, (L : Int) - (i : Int), lotS seed (i + 1), (i : Int), ((a + t : Nat) : Int), y)) (fun y => ((n : Int), m, (L : Int) - (i : Int), lotS seed (i + 1), (i : Int), y))
        (fun t y => (∀ k, k ≠ 72 → y k = x0 k) ∧ ∀ j, y 72 j = if a ≤ j ∧ j < a + t then x0 72 (j + 1) else x0 72 j) (L - i - 1 - a)
        (by
          rintro t y ht ⟨l1, l2⟩
          refine ⟨up2 y 72 (a + t) (x0 72 (a + t + 1)), ?_, ?_, ?_⟩
          · dsimp only
            unfold L_Mo_draw_y201
            rw [w32_i (show a + t < 2147483647 by omega), if_pos (by omega), ck_pos ⟨by omega, by omega⟩, ck_pos ⟨by omega, by omega⟩, tn_i, tn_i, l2 (a + t + 1), if_neg (by omega)]
            rfl
          · intro k hk; rw [up2_K _ _ _ hk]; exact l1 k hk
          · intro j
            by_cases q : j = a + t
            · subst q; rw [up2_s, if_pos (by omega)]
            · rw [up2_j _ _ _ q, l2 j]
              by_cases q2 : a ≤ j ∧ j < a + t
              · rw [if_pos q2, if_pos (by omega)]
              · rw [if_neg q2, if_neg (by omega)])
        (by
          rintro y _
          dsimp only
          unfold L_Mo_draw_y201
          rw [w32_i (show a + (L - i - 1 - a) < 2147483647 by omega), if_neg (by omega)]) (by omega) x0 ⟨fun _ _ => rfl, fun j => by rw [if_neg (by omega)]⟩
      refine ⟨x1, ?_, ?_, ?_, ?_⟩
      · dsimp only
        unfold L_Mo_draw_y148 L_Mo_draw_l201
        rw [if_pos (by omega), lt_e, ck_pos (by omega), show land (w64 (w64 (1103515245 * lotS seed i) + 12345)) 2147483647 = lotS seed (i + 1) from rfl, (atS_e seed L i (by omega) hL).1, lt_e, tn_i, tn_i, hx, ck_pos ⟨by omega, by omega⟩, ck_pos ⟨by omega, by omega⟩, ← hx0, ← ha]
        rw [show lpF (fun q : Int × Int × Int × Int × Int × Int × Dt => L_Mo_draw_y201 q.1 q.2.1 q.2.2.1 q.2.2.2.1 q.2.2.2.2.1 q.2.2.2.2.2.1 q.2.2.2.2.2.2) FU ((n : Int), m, (L : Int) - (i : Int), lotS seed (i + 1), (i : Int), (a : Int), x0) = _ from k1, lb_e, u5_q, w32_i (show i < 2147483647 by omega), w32_s (x := (L : Int) - (i : Int) + -1) (by omega) (by omega), show (L : Int) - (i : Int) + -1 = (L : Int) - ((i + 1 : Nat) : Int) by omega]
      · intro k h2 h3; rw [k2 k h2, hx0, up2_K _ _ _ h3]; exact f1 k h2 h3
      · intro j hj
        rw [k3 j, hx0, up2_K _ _ _ (by decide)]
        simp only [poS, ← ha]
        by_cases q : a ≤ j
        · rw [if_pos ⟨q, by omega⟩, if_pos ⟨q, by omega⟩]; exact f2 (j + 1) (by omega)
        · rw [if_neg (fun z => q z.1), if_neg (fun z => q z.1)]; exact f2 j (by omega)
      · intro i' hi'
        rw [k2 73 (by decide), hx0]
        by_cases q : i' = i
        · subst q; rw [up2_s]; rfl
        · rw [up2_j _ _ _ q]; exact f3 i' (by omega))
    (by
      rintro x _
      dsimp only
      unfold L_Mo_draw_y148
      rw [if_neg (by omega)]) (by omega) d ⟨fun _ _ _ => rfl, fun j hj => h72 j (by omega), fun i' h => by omega⟩
  refine ⟨d', ?_, e2, e4⟩
  unfold L_Mo_draw_l148
  rw [show (L : Int) - ((0 : Nat) : Int) = (L : Int) by omega] at e1
  exact e1
/-- who is struck ahead of whom -/
def bet (ln : Nat → Int) (lst : Bool) (a b : Nat) : Prop := (if lst = true then ln a < ln b else ln b < ln a) ∨ (ln a = ln b ∧ a < b)
theorem bet_t (ln : Nat → Int) (lst : Bool) (a b c : Nat) (h1 : bet ln lst a b) (h2 : bet ln lst b c) : bet ln lst a c := by
  unfold bet at *
  cases lst
  · simp only [Bool.false_eq_true, if_false] at *; omega
  · simp only [if_true] at *; omega
theorem bet_a (ln : Nat → Int) (lst : Bool) (a b : Nat) (h1 : ¬ bet ln lst a b) (h2 : ¬ bet ln lst b a) : a = b := by
  unfold bet at *
  cases lst
  · simp only [Bool.false_eq_true, if_false] at *; omega
  · simp only [if_true] at *; omega
def bsF (F : Nat → Bool) (ln : Nat → Int) (lst : Bool) : Nat → Int
  | 0 => -1
  | i + 1 => if F i = true then (if bsF F ln lst i = -1 then (i : Int) else if lst = true then (if ln i < ln (bsF F ln lst i).toNat then (i : Int) else bsF F ln lst i) else (if ln (bsF F ln lst i).toNat < ln i then (i : Int) else bsF F ln lst i)) else bsF F ln lst i
theorem bsF_e (F : Nat → Bool) (ln : Nat → Int) (lst : Bool) : ∀ k : Nat, (bsF F ln lst k = -1 ∧ ∀ i, i < k → F i = false) ∨ ∃ x : Nat, bsF F ln lst k = (x : Int) ∧ x < k ∧ F x = true ∧ ∀ i, i < k → F i = true → ¬ bet ln lst i x
  | 0 => Or.inl ⟨rfl, fun i h => by omega⟩
  | k + 1 => by
    have ih := bsF_e F ln lst k
    simp only [bsF]
    by_cases q : F k = true
    · right
      rw [if_pos q]
      rcases ih with ⟨h1, h2⟩ | ⟨x, h1, h2, h3, h4⟩
      · rw [if_pos h1]
        refine ⟨k, rfl, by omega, q, fun i hi hf => ?_⟩
        by_cases e : i = k
        · subst e; unfold bet; cases lst <;> simp
        · rw [h2 i (by omega)] at hf; cases hf
      · rw [if_neg (by omega), h1, tn_i]
        have new : bet ln lst k x → ∃ z : Nat, (k : Int) = (z : Int) ∧ z < k + 1 ∧ F z = true ∧ ∀ i, i < k + 1 → F i = true → ¬ bet ln lst i z := by
          intro hb
          refine ⟨k, rfl, by omega, q, fun i hi hf hbi => ?_⟩
          by_cases e : i = k
          · subst e; revert hbi; unfold bet; cases lst <;> simp
          · exact h4 i (by omega) hf (bet_t ln lst i k x hbi hb)
        have old : ¬ bet ln lst k x → ∃ z : Nat, (x : Int) = (z : Int) ∧ z < k + 1 ∧ F z = true ∧ ∀ i, i < k + 1 → F i = true → ¬ bet ln lst i z := by
          intro hb
          refine ⟨x, rfl, by omega, h3, fun i hi hf hbi => ?_⟩
          by_cases e : i = k
          · subst e; exact hb hbi
          · exact h4 i (by omega) hf hbi
        cases lst
        · simp only [Bool.false_eq_true, if_false] at new old ⊢
          by_cases q2 : ln x < ln k
          · rw [if_pos q2]; exact new (Or.inl q2)
          · rw [if_neg q2]; exact old (by unfold bet; simp only [Bool.false_eq_true, if_false]; omega)
        · simp only [if_true] at new old ⊢
          by_cases q2 : ln k < ln x
          · rw [if_pos q2]; exact new (Or.inl q2)
          · rw [if_neg q2]; exact old (by unfold bet; simp only [if_true]; omega)
    · rw [if_neg q]
      rcases ih with ⟨h1, h2⟩ | ⟨x, h1, h2, h3, h4⟩
      · left
        refine ⟨h1, fun i hi => ?_⟩
        by_cases e : i = k
        · subst e; cases hF : F i
          · rfl
          · exact absurd hF q
        · exact h2 i (by omega)
      · right
        refine ⟨x, h1, by omega, h3, fun i hi hf => ?_⟩
        by_cases e : i = k
        · subst e; exact absurd hf q
        · exact h4 i (by omega) hf
theorem strikeOne_e {d : Dt} (F : Nat → Bool) (M : Nat) (lst : Bool) (hM : M ≤ 30) (h64 : d 64 2 = (M : Int)) (h69 : ∀ y, y < M → d 69 y = if F y = true then 1 else 0) : ∃ d', L_Ju_strikeOne (if lst = true then 1 else 0) d = some (0, d') ∧ (∀ k, k ≠ 69 → d' k = d k) ∧ ∀ y, y < M → d' 69 y = if (F y && !(decide ((y : Int) = bsF F (d 65) lst M))) = true then 1 else 0 := by
  have e1 := lp_seq (f := fun q : Int × Int × Int × Dt => L_Ju_strikeOne_y4 q.1 q.2.1 q.2.2.1 q.2.2.2) (fun i => ((if lst = true then 1 else 0), bsF F (d 65) lst i, (i : Int), d)) M (r := (bsF F (d 65) lst M, d))
    (by
      intro i hi
      dsimp only
      unfold L_Ju_strikeOne_y4 L_Ju_strikeOne_b68 L_Ju_strikeOne_b80 L_Ju_strikeOne_b81
      have c1 : (0 : Int) ≤ (i : Int) ∧ (i : Int) < 30 := by omega
      simp only [h64, if_pos (show (i : Int) < (M : Int) by omega), ck_pos c1, tn_i, h69 i (by omega), w32_i (show i < 2147483647 by omega), i10, if_true, if_false, bsF]
      by_cases q : F i = true
      · simp only [if_pos q, i10, if_false]
        rcases bsF_e F (d 65) lst i with ⟨h1, _⟩ | ⟨x, h1, h2, _⟩
        · simp only [if_pos h1]
        · simp only [h1, if_neg (show ¬ (x : Int) = -1 by omega), tn_i, ck_pos (show (0 : Int) ≤ (x : Int) ∧ (x : Int) < 30 by omega)]
          cases lst
          · simp only [Bool.false_eq_true, if_false, if_true]
            by_cases q2 : d 65 x < d 65 i
            · rw [if_pos q2, if_pos q2]
            · rw [if_neg q2, if_neg q2]
          · simp only [i10, if_true, if_false]
            by_cases q2 : d 65 i < d 65 x
            · rw [if_pos q2, if_pos q2]
            · rw [if_neg q2, if_neg q2]
      · simp only [if_neg q, if_true])
    (by
      dsimp only
      unfold L_Ju_strikeOne_y4
      rw [h64, if_neg (by omega)]) (by omega)
  unfold L_Ju_strikeOne L_Ju_strikeOne_l4
  rw [show lpF (fun q : Int × Int × Int × Dt => L_Ju_strikeOne_y4 q.1 q.2.1 q.2.2.1 q.2.2.2) FU ((if lst = true then 1 else 0), -1, 0, d) = _ from e1, lb_e, u1_q]
  rcases bsF_e F (d 65) lst M with ⟨h1, h2⟩ | ⟨x, h1, h2, h3, h4⟩
  · rw [if_pos h1]
    refine ⟨d, rfl, fun _ _ => rfl, fun y hy => ?_⟩
    rw [h69 y hy, h1, decide_eq_false (show ¬ (y : Int) = -1 by omega)]
    simp
  · rw [if_neg (by omega), h1, ck_pos ⟨by omega, by omega⟩, tn_i]
    refine ⟨_, rfl, fun k hk => up2_K _ _ _ hk, fun y hy => ?_⟩
    by_cases e : y = x
    · subst e; rw [up2_s, decide_eq_true rfl]; simp
    · rw [up2_j _ _ _ e, h69 y hy, decide_eq_false (show ¬ (y : Int) = (x : Int) by omega)]
      simp
/-- the flags behind t strikes -/
def fsS (F : Nat → Bool) (ln : Nat → Int) (M : Nat) : Nat → Nat → Bool
  | 0 => F
  | t + 1 => fun y => fsS F ln M t y && !(decide ((y : Int) = bsF (fsS F ln M t) ln (decide (t % 2 = 0)) M))
