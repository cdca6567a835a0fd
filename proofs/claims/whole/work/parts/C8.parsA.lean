/-! PARSER: the class's small steps -/
def atA (x : Dt) (f : Nat → Int) (n N t : Nat) : Prop := tkA x f n N ∧ x 25 5 = (t : Int) ∧ t ≤ N ∧ n ≤ 600 ∧ x 25 7 = 0 ∧ x 25 8 = -1
theorem kind_e {x : Dt} {f : Nat → Int} {n N t : Nat} (h : atA x f n N t) : L_Pa_kind x = some (kd f n (ps f n t), x) := by
  obtain ⟨h1, h2, h3, h4⟩ := h
  have := h1.1
  unfold L_Pa_kind
  rw [h2, ck_pos ⟨by omega, by omega⟩, tn_i, (h1.2.2.2.1 t h3).1]
theorem kd0 (f : Nat → Int) (n p : Nat) (hp : p < n) (hb : ∀ k, k < n → -128 ≤ f k ∧ f k ≤ 127) : ¬ kd f n p = 0 := by
  intro z
  have := (tok_e f n p hb).2.2.2.1.2 z
  unfold tyB at this
  rw [if_pos hp] at this
  by_cases q1 : isL (f p) = true
  · rw [if_pos q1] at this; exact absurd this (by decide)
  · rw [if_neg q1] at this
    by_cases q2 : isD (f p) = true
    · rw [if_pos q2] at this
      by_cases q3 : 5 < en f n p - p
      · rw [if_pos q3] at this; exact absurd this (by decide)
      · rw [if_neg q3] at this; exact absurd this (by decide)
    · rw [if_neg q2] at this
      by_cases q3 : isSg (f p) = true
      · rw [if_pos q3] at this; exact absurd this (by decide)
      · rw [if_neg q3] at this; exact absurd this (by decide)
theorem kdN {f : Nat → Int} {n N : Nat} {x : Dt} (h : tkA x f n N) : kd f n (ps f n N) = 0 := by
  rw [h.2.1]; unfold kd; rw [if_neg (by omega)]
theorem tkA.cg {x x' : Dt} {f : Nat → Int} {n N : Nat} (h : tkA x f n N) (h27 : x' 27 = x 27) (h28 : x' 28 = x 28) (h29 : x' 29 = x 29) : tkA x' f n N := by
  unfold tkA at h ⊢; rw [h27, h28, h29]; exact h
theorem nextA_e {x : Dt} {f : Nat → Int} {n N t : Nat} (h : atA x f n N t) (hk : ¬ kd f n (ps f n t) = 0) : L_Pa_next x = some (0, up2 x 25 5 ((t + 1 : Nat) : Int)) ∧ atA (up2 x 25 5 ((t + 1 : Nat) : Int)) f n N (t + 1) := by
  obtain ⟨h1, h2, h3, h4⟩ := h
  have hN := h1.1
  have htN : t < N := by
    rcases (Classical.em (t < N)).symm with q | q
    · have : t = N := by omega
      rw [this] at hk; exact absurd (kdN h1) hk
    · exact q
  refine ⟨?_, h1.cg (up2_K _ _ _ (by decide)) (up2_K _ _ _ (by decide)) (up2_K _ _ _ (by decide)), up2_s _ _ _ _, by omega, h4.1, by rw [up2_j _ _ _ (by decide)]; exact h4.2.1, by rw [up2_j _ _ _ (by decide)]; exact h4.2.2⟩
  unfold L_Pa_next
  rw [h2, ck_pos ⟨by omega, by omega⟩, tn_i, (h1.2.2.2.1 t h3).1, if_neg hk, if_pos (by omega), w32_i (show t < 2147483647 by omega)]
theorem refuseA_e {x : Dt} {f : Nat → Int} {n N t : Nat} (h : atA x f n N t) (k : Int) : L_Pa_refuse k x = some (0, up2 (up2 x 25 7 (ftK f n (ps f n t) k)) 25 8 (ps f n t : Int)) := by
  obtain ⟨h1, h2, h3, h4⟩ := h
  have hN := h1.1
  obtain ⟨g1, g2⟩ := h1.2.2.2.1 t h3
  unfold L_Pa_refuse L_Pa_refuse_b19 ftK
  rw [h2, ck_pos ⟨by omega, by omega⟩, ck_pos ⟨by omega, by omega⟩, ck_pos ⟨by omega, by omega⟩, tn_i, g1, g2]
  by_cases q : kd f n (ps f n t) = 1
  · rw [if_pos q, if_pos q]
  · rw [if_neg q, if_neg q]
/-- the draft and its code -/
def drA (x : Dt) (T : Nat) (code : List Int) : Prop := x 25 6 = 79 + 7 * (T : Int) ∧ (x GH 0 = (T : Int) + 1 ∧ T ≤ 5) ∧ x (79 + 7 * T) 3 = (code.length : Int) ∧ ∀ i, i < code.length → x (79 + 7 * T + 6) i = code.getD i 0
theorem getD_app' (L K : List Int) (m : Nat) : (L ++ K).getD m 0 = if m < L.length then L.getD m 0 else K.getD (m - L.length) 0 := by
  rw [List.getD_eq_getElem?_getD, List.getElem?_append]
  by_cases q : m < L.length
  · rw [if_pos q, if_pos q, List.getD_eq_getElem?_getD]
  · rw [if_neg q, if_neg q, List.getD_eq_getElem?_getD]
theorem addCode_e {x : Dt} {T : Nat} {code : List Int} (h : drA x T code) (hl : code.length < 600) (v : Int) : ∃ x', L_St_addCode (79 + 7 * (T : Int)) v x = some (0, x') ∧ drA x' T (code ++ [v]) ∧ (∀ k, k ≠ 79 + 7 * T → k ≠ 79 + 7 * T + 6 → x' k = x k) ∧ ∀ j, j ≠ 3 → x' (79 + 7 * T) j = x (79 + 7 * T) j := by
  obtain ⟨h1, ⟨h2, h2'⟩, h3, h4⟩ := h
  have hst : stt x (79 + 7 * (T : Int)) := stt_t h2 T (by omega)
  have hG : ¬ (79 + 7 * T + 6 = GH) := by show ¬ (79 + 7 * T + 6 = 1000000); omega
  have hG0 : ¬ (79 + 7 * T = GH) := by show ¬ (79 + 7 * T = 1000000); omega
  have hst2 : stt (up2 x (79 + 7 * T + 6) code.length v) (79 + 7 * (T : Int)) := stt_up hst (up2_K _ _ _ (fun e => hG e.symm))
  refine ⟨up2 (up2 x (79 + 7 * T + 6) code.length v) (79 + 7 * T) 3 ((code.length + 1 : Nat) : Int), ?_, ⟨?_, ⟨?_, h2'⟩, ?_, ?_⟩, ?_, ?_⟩
  · unfold L_St_addCode
    rw [tn79, Nat.add_zero, h3, ck_pos hst, ck_pos hst, ck_pos hst, if_pos (by omega), ck_pos hst, ck_pos hst, ck_pos hst, ck_pos ⟨by omega, by omega⟩, tn_i, ck_pos hst2, ck_pos hst2, up2_K _ _ _ (show 79 + 7 * T ≠ 79 + 7 * T + 6 by omega), h3, w32_i (show code.length < 2147483647 by omega)]
  · rw [up2_K _ _ _ (by omega), up2_K _ _ _ (by omega)]; exact h1
  · rw [up2_K _ _ _ (fun e => hG0 e.symm), up2_K _ _ _ (fun e => hG e.symm)]; exact h2
  · rw [up2_s, List.length_append]; rfl
  · intro i hi
    rw [List.length_append] at hi
    have hi' : i < code.length + 1 := hi
    rw [up2_K _ _ _ (by omega), getD_app']
    by_cases q : i < code.length
    · rw [if_pos q, up2_j _ _ _ (by omega)]; exact h4 i q
    · have e : i = code.length := by omega
      rw [if_neg q, e, up2_s, Nat.sub_self]; rfl
  · intro k k1 k2; rw [up2_K _ _ _ k1, up2_K _ _ _ k2]
  · intro j hj; rw [up2_j _ _ _ hj, up2_K _ _ _ (by omega)]
