/-! PARSER: the reference's small steps -/
theorem ps_n (f : Nat → Int) (n : Nat) : ∀ t : Nat, ps f n t ≤ n
  | 0 => (run_b isSp f n 0).2 (by omega)
  | t + 1 => by
    have ih := ps_n f n t
    have he : en f n (ps f n t) ≤ n := by
      by_cases c : ps f n t < n
      · exact (en_b f n _ c).2
      · unfold en; rw [if_neg c]; exact ih
    exact (run_b isSp f n _).2 he
theorem en_n (f : Nat → Int) (n t : Nat) : en f n (ps f n t) ≤ n := by
  have ih := ps_n f n t
  by_cases c : ps f n t < n
  · exact (en_b f n _ c).2
  · unfold en; rw [if_neg c]; exact ih
theorem nextB_e {y : Dt} {f : Nat → Int} {n t : Nat} (h : tkB y f n (ps f n t)) (hn : n ≤ 600) : ∃ y', L_Mo_next y = some (0, y') ∧ nxF y y' ∧ tkB y' f n (ps f n (t + 1)) :=
  next_e h.1 hn (en f n (ps f n t)) (en_n f n t) h.2.2.1
/-- the signs that stand, and those put behind them -/
def sgB (y : Dt) (s : Nat) (acc : List (Int × Int)) : Prop := y 0 42 = ((s + acc.length : Nat) : Int) ∧ ∀ i, i < acc.length → y 43 (s + i) = (acc.getD i (0, 0)).1 ∧ y 44 (s + i) = (acc.getD i (0, 0)).2
theorem getD_appP (L K : List (Int × Int)) (m : Nat) : (L ++ K).getD m (0, 0) = if m < L.length then L.getD m (0, 0) else K.getD (m - L.length) (0, 0) := by
  rw [List.getD_eq_getElem?_getD, List.getElem?_append]
  by_cases q : m < L.length
  · rw [if_pos q, if_pos q, List.getD_eq_getElem?_getD]
  · rw [if_neg q, if_neg q, List.getD_eq_getElem?_getD]
theorem puts_e {y : Dt} {s : Nat} {acc : List (Int × Int)} (h : sgB y s acc) (hl : s + acc.length < 4000) (a b : Int) : ∃ y', L_Mo_puts a b y = some (0, y') ∧ sgB y' s (acc ++ [(a, b)]) ∧ (∀ k, k ≠ 0 → k ≠ 43 → k ≠ 44 → y' k = y k) ∧ (∀ j, j ≠ 42 → y' 0 j = y 0 j) ∧ ∀ i, i < s → y' 43 i = y 43 i ∧ y' 44 i = y 44 i := by
  obtain ⟨h1, h2⟩ := h
  refine ⟨up2 (up2 (up2 y 43 (s + acc.length) a) 44 (s + acc.length) b) 0 42 ((s + acc.length + 1 : Nat) : Int), ?_, ⟨?_, ?_⟩, ?_, ?_, ?_⟩
  · unfold L_Mo_puts
    rw [h1, ck_pos ⟨by omega, by omega⟩, ck_pos ⟨by omega, by omega⟩, tn_i, w32_i (show s + acc.length < 2147483647 by omega)]
  · rw [up2_s, List.length_append]; rfl
  · intro i hi
    rw [List.length_append] at hi
    have hi' : i < acc.length + 1 := hi
    rw [getD_appP]
    simp (disch := decide) only [up2_K]
    by_cases q : i < acc.length
    · rw [if_pos q, up2_j _ _ _ (by omega), up2_j _ _ _ (by omega)]
      simp (disch := decide) only [up2_K]
      exact h2 i q
    · have e : i = acc.length := by omega
      rw [if_neg q, e, up2_s, up2_s, Nat.sub_self]
      exact ⟨rfl, rfl⟩
  · intro k k0 k1 k2; rw [up2_K _ _ _ k0, up2_K _ _ _ k2, up2_K _ _ _ k1]
  · intro j hj; rw [up2_j _ _ _ hj, up2_K _ _ _ (by decide), up2_K _ _ _ (by decide)]
  · intro i hi
    simp (disch := decide) only [up2_K]
    rw [up2_j _ _ _ (by omega), up2_j _ _ _ (by omega)]
    simp (disch := decide) only [up2_K]
    exact ⟨trivial, trivial⟩
