/-! SUMS: the class's takeSum, whole -/
theorem takeSum_e {f : Nat → Int} {n N T t : Nat} {x0 x : Dt} {C : List Int} (hb : ∀ k, k < n → -128 ≤ f k ∧ f k ≤ 127) (h : PA f n N T x0 x t C) (hl : C.length ≤ t) : ∃ r x', L_Pa_TS 0 x = some (r, x') ∧ Sum.elim (fun q => r = 1 ∧ PA f n N T x0 x' q.1 (C ++ codeS q.2)) (fun e => r = 0 ∧ PE f n T x0 x' e) (sS (KK f n) (VV f n) 601 6 t false 0 []) := by
  have hN := h.1.1.1
  have hn := h.1.2.2.2
  have hc : C ++ codeS [] = C := by show C ++ [] = C; rw [List.append_nil]
  obtain ⟨r, y, b1, b2⟩ := sumA_lp (f := f) (n := n) (N := N) (T := T) (x0 := x0) (C := C) hb 601 6 7 t 0 false 0 [] x FU (by omega) (by omega) (Or.inl rfl) (by rw [hc]; exact h) (by show C.length + 0 + 0 ≤ t; omega) (by omega) (by omega) (by show 601 ≤ 1000000; omega) (by omega)
  show ∃ r x', L_Pa_takeSum (TS 7) 0 x = some (r, x') ∧ _
  unfold L_Pa_takeSum L_Pa_takeSum_l7
  rw [show lpF (fun q : Int × Int × Int × Int × Dt => L_Pa_takeSum_y7 (TS 7) q.1 q.2.1 q.2.2.1 q.2.2.2.1 q.2.2.2.2) FU (0, 0, -1, 0, x) = _ from b1, lb_e]
  cases hs : sS (KK f n) (VV f n) 601 6 t false 0 [] with
  | inl q =>
    rw [hs] at b2
    obtain ⟨rfl, b3⟩ := b2
    rw [smr_, smr_, u0_q]
    exact ⟨_, _, rfl, rfl, b3⟩
  | inr e =>
    rw [hs] at b2
    obtain ⟨rfl, b3⟩ := b2
    rw [smr_, sml_, u0_q]
    exact ⟨_, _, rfl, rfl, b3⟩
