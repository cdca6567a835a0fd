/-! all of it holds at the start -/
theorem fin_all {n : Nat} {P : Nat → Prop} (h : ∀ i : Fin n, P i.val) : ∀ i, i < n → P i := fun i hi => h ⟨i, hi⟩
theorem st_RT : RT dA0 dB0 := by
  refine ⟨fin_all (n := 4) (P := fun t => dA0 5 t = dB0 1 t ∧ dA0 6 t = dB0 2 t ∧ 0 ≤ dA0 5 t ∧ dA0 5 t ≤ 3 ∧ -1 ≤ dA0 6 t ∧ dA0 6 t ≤ 60) (by decide +kernel), fin_all (n := 240) (P := fun j => dA0 4 j = dB0 3 j) (by decide +kernel)⟩
theorem st_RJ : RJ dA0 dB0 := by
  have h7 : dA0 64 7 = 0 := by decide +kernel
  refine ⟨by decide +kernel, by decide +kernel, by decide +kernel, fin_all (n := 30) (P := fun i => dA0 65 i = dB0 69 i ∧ dA0 66 i = dB0 70 i ∧ -9 ≤ dB0 69 i ∧ dB0 69 i ≤ 9 ∧ 0 ≤ dB0 70 i ∧ dB0 70 i ≤ 20) (by decide +kernel), fin_all (n := 4) (P := fun i => dA0 67 i = dB0 71 i ∧ 0 ≤ dB0 71 i ∧ dB0 71 i ≤ 20) (by decide +kernel), by decide +kernel, by decide +kernel, by decide +kernel, fun i hi => ?_⟩
  rw [h7] at hi; omega
theorem st_RR : RR dA0 dB0 := by
  have h8 : dB0 0 8 = 0 := by decide +kernel
  have h9 : dB0 0 9 = 0 := by decide +kernel
  have h10 : dB0 0 10 = 0 := by decide +kernel
  refine ⟨by decide +kernel, by decide +kernel, ⟨by decide +kernel, by decide +kernel, by decide +kernel⟩, ⟨by decide +kernel, by decide +kernel, by decide +kernel⟩, ⟨by decide +kernel, by decide +kernel, by decide +kernel⟩, fun i hi => ?_, fun i hi => ?_, fun i hi => ?_⟩
  · rw [h8] at hi; omega
  · rw [h9] at hi; omega
  · rw [h10] at hi; omega
theorem st_RO : RO dA0 dB0 := ⟨by decide +kernel, fin_all (n := 49) (P := fun i => dA0 72 i = dB0 75 i ∧ 0 ≤ dB0 75 i ∧ dB0 75 i ≤ 1000) (by decide +kernel)⟩
theorem st_RG : RG dA0 dB0 := by
  have h : dB0 0 92 = 0 := by decide +kernel
  refine ⟨by decide +kernel, by decide +kernel, fun i hi => ?_, fin_all (n := 10) (P := fun i => dA0 61 i = dB0 66 i) (by decide +kernel), fun i _ hi => fin_all (n := 10) (P := fun i => dA0 61 i = 0) (by decide +kernel) i hi⟩
  rw [h] at hi; omega
theorem st_RB : RB dA0 dB0 := by
  have h : ∀ b, b < 3 → dB0 52 b = 0 := fin_all (n := 3) (P := fun b => dB0 52 b = 0) (by decide +kernel)
  refine ⟨fin_all (n := 3) (P := fun b => dA0 42 b = dB0 52 b ∧ 0 ≤ dB0 52 b ∧ dB0 52 b ≤ 30) (by decide +kernel), fun b i hb hi => ?_⟩
  rw [h b hb] at hi; omega
theorem st_RM : RM dA0 dB0 := by
  have h : dB0 52 0 = 0 := by decide +kernel
  refine Or.inr ⟨fun b hb => ?_, fun b i hb hi => ?_, fun i hi => ?_⟩
  · have : b = 0 ∨ b = 1 := by omega
    rcases this with rfl | rfl <;> decide +kernel
  · rw [h] at hi; omega
  · rw [h] at hi; omega
theorem rel_start : RelW dA0 dB0 := by
  have h7 : dB0 0 7 = 0 := by decide +kernel
  have h52 : dB0 52 0 = 0 := by decide +kernel
  have h87 : dB0 0 87 = 0 := by decide +kernel
  have h32 : dB0 0 32 = 0 := by decide +kernel
  have h41 : dB0 0 41 = 0 := by decide +kernel
  have h43 : dB0 0 43 = 0 := by decide +kernel
  refine ⟨by unfold RS; decide +kernel, st_RT, by unfold RQ; decide +kernel, st_RJ, by unfold RP; decide +kernel, st_RR, fun i hi => ?_, by unfold RF; decide +kernel, st_RO, ⟨by decide +kernel, by decide +kernel, fun i hi => ?_⟩, st_RG, ⟨by decide +kernel, by decide +kernel, fun i hi => ?_⟩, st_RB, fun e he => ?_, fun b i j _ hi _ => ?_, st_RM, ⟨by decide +kernel, by decide +kernel, by decide +kernel, by decide +kernel, fun t ht => ?_, fun i hi => ?_⟩, Or.inl (by decide +kernel), ⟨by decide +kernel, fun t i ht => by rw [h41] at ht; omega, fun k hk => by rw [h43] at hk; omega⟩, by decide +kernel⟩
  · rw [h7] at hi; omega
  · rw [h87] at hi; omega
  · rw [h32] at hi; omega
  · rw [h52] at he; omega
  · rw [h52] at hi; omega
  · rw [h41] at ht; omega
  · rw [h41] at hi; omega
