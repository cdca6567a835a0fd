/-! SUMS: the class follows -/
def paF (T : Nat) (x0 x : Dt) : Prop := (∀ k, k ≠ 25 → k ≠ 79 + 7 * T → k ≠ 79 + 7 * T + 6 → x k = x0 k) ∧ (∀ j, j ≠ 5 → j ≠ 7 → j ≠ 8 → x 25 j = x0 25 j) ∧ ∀ j, j ≠ 3 → x (79 + 7 * T) j = x0 (79 + 7 * T) j
theorem paF.rf (T : Nat) (x : Dt) : paF T x x := ⟨fun _ _ _ _ => rfl, fun _ _ _ _ => rfl, fun _ _ => rfl⟩
theorem paF.tr {T : Nat} {x y z : Dt} (h : paF T x y) (h2 : paF T y z) : paF T x z := ⟨fun k a b c => by rw [h2.1 k a b c]; exact h.1 k a b c, fun j a b c => by rw [h2.2.1 j a b c]; exact h.2.1 j a b c, fun j a => by rw [h2.2.2 j a]; exact h.2.2 j a⟩
theorem paF.u5 {T : Nat} {x y : Dt} (h : paF T x y) (j : Nat) (v : Int) (hj : j = 5 ∨ j = 7 ∨ j = 8) : paF T x (up2 y 25 j v) := by
  refine ⟨fun k a b c => by rw [up2_K _ _ _ a]; exact h.1 k a b c, fun i a b c => by rw [up2_j _ _ _ (by omega)]; exact h.2.1 i a b c, fun i a => by rw [up2_K _ _ _ (by omega)]; exact h.2.2 i a⟩
theorem drA.u5 {x : Dt} {T : Nat} {code : List Int} (h : drA x T code) (j : Nat) (v : Int) (hj : j = 5 ∨ j = 7 ∨ j = 8) : drA (up2 x 25 j v) T code := by
  obtain ⟨h1, ⟨h2, h2'⟩, h3, h4⟩ := h
  refine ⟨by rw [up2_j _ _ _ (by omega)]; exact h1, ⟨by rw [up2_K _ _ _ (by decide)]; exact h2, h2'⟩, by rw [up2_K _ _ _ (by omega)]; exact h3, fun i hi => by rw [up2_K _ _ _ (by omega)]; exact h4 i hi⟩
/-- the class stands at a TOKEN with a draft -/
def PA (f : Nat → Int) (n N T : Nat) (x0 x : Dt) (t : Nat) (code : List Int) : Prop := atA x f n N t ∧ drA x T code ∧ paF T x0 x
def PE (f : Nat → Int) (n T : Nat) (x0 x : Dt) (e : Int × Nat) : Prop := x 25 7 = ftK f n (ps f n e.2) e.1 ∧ x 25 8 = (ps f n e.2 : Int) ∧ paF T x0 x
theorem PA.nx {f : Nat → Int} {n N T t : Nat} {x0 x : Dt} {code : List Int} (h : PA f n N T x0 x t code) (hk : ¬ kd f n (ps f n t) = 0) : ∃ x', L_Pa_next x = some (0, x') ∧ PA f n N T x0 x' (t + 1) code := by
  obtain ⟨e1, e2⟩ := nextA_e h.1 hk
  exact ⟨_, e1, e2, h.2.1.u5 5 _ (by omega), h.2.2.u5 5 _ (by omega)⟩
theorem PA.rf {f : Nat → Int} {n N T t : Nat} {x0 x : Dt} {code : List Int} (h : PA f n N T x0 x t code) (k : Int) : ∃ x', L_Pa_refuse k x = some (0, x') ∧ PE f n T x0 x' (k, t) := by
  refine ⟨_, refuseA_e h.1 k, ?_, ?_, (h.2.2.u5 7 _ (by omega)).u5 8 _ (by omega)⟩
  · rw [up2_j _ _ _ (by decide), up2_s]
  · rw [up2_s]
theorem PA.ad {f : Nat → Int} {n N T t : Nat} {x0 x : Dt} {code : List Int} (h : PA f n N T x0 x t code) (hl : code.length < 600) (v : Int) : ∃ x', L_St_addCode (x 25 6) v x = some (0, x') ∧ stt x (x 25 6) ∧ PA f n N T x0 x' t (code ++ [v]) := by
  obtain ⟨⟨a1, a2, a3, a4⟩, hd, hf⟩ := h
  obtain ⟨x', e1, e2, e3, e4⟩ := addCode_e hd hl v
  have c25 : x' 25 = x 25 := e3 25 (by omega) (by omega)
  refine ⟨x', by rw [hd.1]; exact e1, by rw [hd.1]; exact stt_t hd.2.1.1 T (by omega), ⟨a1.cg (e3 27 (by omega) (by omega)) (e3 28 (by omega) (by omega)) (e3 29 (by omega) (by omega)), by rw [c25]; exact a2, a3, by rw [c25]; exact a4⟩, e2, hf.tr ⟨fun k _ b c => e3 k b c, fun j _ _ _ => by rw [c25], e4⟩⟩
