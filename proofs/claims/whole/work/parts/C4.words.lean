/-! WORDS of the reference: strings that nobody writes -/
theorem charAt_e (T i : Nat) (hT : T = 1000003 ∨ T = 1000004) (hi : i < (kwT (T + 2)).length) (d : Dt) : L_Sg_charAt (T : Int) (i : Int) d = some (kw (T + 2) i, d) := by
  rcases hT with rfl | rfl
  · have hl : (kwT (1000003 + 2)).length = 55 := by decide
    rw [hl] at hi
    have hk : iand (kw 1000005 i) 255 = kw 1000005 i ∧ (0 ≤ kw 1000005 i ∧ kw 1000005 i < 65536) := by
      have : ∀ j : Fin 55, iand (kw 1000005 j.val) 255 = kw 1000005 j.val ∧ (0 ≤ kw 1000005 j.val ∧ kw 1000005 j.val < 65536) := by decide +kernel
      exact this ⟨i, hi⟩
    unfold L_Sg_charAt L_Sg_isLatin1 L_SL_charAt L_Sg_checkIndex
    simp (disch := first | decide | omega) only [ck_pos, if_neg, if_pos, bd_e, show (((1000003 : Nat) : Int) + 2).toNat = 1000005 from rfl, show ((kwT 1000005).length : Int) = 55 from by decide, tn_i, hk.1]
    have hc : L_Pr_checkIndex (i : Int) 55 d = some ((i : Int), d) := by unfold L_Pr_checkIndex; rw [if_neg (by omega), if_pos (by omega)]
    rw [hc, bd_e, bd_e, bd_e]
  · have hl : (kwT (1000004 + 2)).length = 50 := by decide
    rw [hl] at hi
    have hk : iand (kw 1000006 i) 255 = kw 1000006 i ∧ (0 ≤ kw 1000006 i ∧ kw 1000006 i < 65536) := by
      have : ∀ j : Fin 50, iand (kw 1000006 j.val) 255 = kw 1000006 j.val ∧ (0 ≤ kw 1000006 j.val ∧ kw 1000006 j.val < 65536) := by decide +kernel
      exact this ⟨i, hi⟩
    unfold L_Sg_charAt L_Sg_isLatin1 L_SL_charAt L_Sg_checkIndex
    simp (disch := first | decide | omega) only [ck_pos, if_neg, if_pos, bd_e, show (((1000004 : Nat) : Int) + 2).toNat = 1000006 from rfl, show ((kwT 1000006).length : Int) = 50 from by decide, tn_i, hk.1]
    have hc : L_Pr_checkIndex (i : Int) 50 d = some ((i : Int), d) := by unfold L_Pr_checkIndex; rw [if_neg (by omega), if_pos (by omega)]
    rw [hc, bd_e, bd_e, bd_e]
theorem strLen_e (T : Nat) (hT : T = 1000003 ∨ T = 1000004) (d : Dt) : L_Sg_length (T : Int) d = some (((kwT (T + 2)).length : Int), d) := by
  rcases hT with rfl | rfl
  · unfold L_Sg_length L_Sg_coder
    simp (disch := decide) only [ck_pos, if_neg, bd_e]
    have : ishr ((kwT (((1000003 : Nat) : Int) + 2).toNat).length : Int) 0 = ((kwT (1000003 + 2)).length : Int) := by decide +kernel
    rw [this]
  · unfold L_Sg_length L_Sg_coder
    simp (disch := decide) only [ck_pos, if_neg, bd_e]
    have : ishr ((kwT (((1000004 : Nat) : Int) + 2).toNat).length : Int) 0 = ((kwT (1000004 + 2)).length : Int) := by decide +kernel
    rw [this]
def nW (T : Nat) : Nat := if T = 1000003 then 11 else 9
def sW (T j : Nat) : Nat := if T = 1000003 then [1, 9, 13, 17, 22, 28, 34, 41, 44, 47, 51].getD j 55 else [1, 6, 12, 17, 23, 29, 34, 39, 46].getD j 50
def eW (T j : Nat) : Nat := sW T (j + 1) - 1
/-- the j-th word of a string -/
def wdK (T j : Nat) : List Int := (List.range (eW T j - sW T j)).map (fun i => kw (T + 2) (sW T j + i) - 96)
theorem tab_e (T : Nat) (hT : T = 1000003 ∨ T = 1000004) (j : Nat) (hj : j < nW T) : sW T j < eW T j ∧ eW T j < (kwT (T + 2)).length ∧ (kwT (T + 2)).length ≤ 55 ∧ sW T (j + 1) = eW T j + 1 ∧ kw (T + 2) (eW T j) = 32 ∧ ∀ i, sW T j ≤ i → i < eW T j → ¬ kw (T + 2) i = 32 := by
  rcases hT with rfl | rfl
  · have key : ∀ j : Fin 11, sW 1000003 j.val < eW 1000003 j.val ∧ eW 1000003 j.val < 55 ∧ sW 1000003 (j.val + 1) = eW 1000003 j.val + 1 ∧ kw 1000005 (eW 1000003 j.val) = 32 ∧ ∀ i : Fin 55, sW 1000003 j.val ≤ i.val → i.val < eW 1000003 j.val → ¬ kw 1000005 i.val = 32 := by decide +kernel
    have hl : (kwT (1000003 + 2)).length = 55 := by decide
    obtain ⟨a1, a2, a3, a4, a5⟩ := key ⟨j, hj⟩
    exact ⟨a1, by rw [hl]; exact a2, by rw [hl]; decide, a3, a4, fun i h1 h2 => a5 ⟨i, by have : i < eW 1000003 j := h2; have : eW 1000003 j < 55 := a2; omega⟩ h1 h2⟩
  · have key : ∀ j : Fin 9, sW 1000004 j.val < eW 1000004 j.val ∧ eW 1000004 j.val < 50 ∧ sW 1000004 (j.val + 1) = eW 1000004 j.val + 1 ∧ kw 1000006 (eW 1000004 j.val) = 32 ∧ ∀ i : Fin 50, sW 1000004 j.val ≤ i.val → i.val < eW 1000004 j.val → ¬ kw 1000006 i.val = 32 := by decide +kernel
    have hl : (kwT (1000004 + 2)).length = 50 := by decide
    obtain ⟨a1, a2, a3, a4, a5⟩ := key ⟨j, hj⟩
    exact ⟨a1, by rw [hl]; exact a2, by rw [hl]; decide, a3, a4, fun i h1 h2 => a5 ⟨i, by have : i < eW 1000004 j := h2; have : eW 1000004 j < 50 := a2; omega⟩ h1 h2⟩
theorem tab_l (T : Nat) (hT : T = 1000003 ∨ T = 1000004) : sW T (nW T) = (kwT (T + 2)).length ∧ sW T 0 = 1 ∧ nW T ≤ 11 := by
  rcases hT with rfl | rfl <;> decide
def allU (f : Nat → Int) (T j p m : Nat) : Bool := (List.range m).all (fun u => decide (kw (T + 2) (sW T j + u) = f (p + u)))
theorem allU_s (f : Nat → Int) (T j p m : Nat) : allU f T j p (m + 1) = (allU f T j p m && decide (kw (T + 2) (sW T j + m) = f (p + m))) := by
  unfold allU; rw [List.range_succ, List.all_append, List.all_cons, List.all_nil, Bool.and_true]
theorem allU_mono (f : Nat → Int) (T j p : Nat) : ∀ k m : Nat, allU f T j p m = false → allU f T j p (m + k) = false
  | 0, m, h => h
  | k + 1, m, h => by rw [show m + (k + 1) = (m + k) + 1 by omega, allU_s, allU_mono f T j p k m h, Bool.false_and]
theorem allU_w (f : Nat → Int) (T j p e : Nat) (hl : eW T j - sW T j = e - p) : allU f T j p (e - p) = true ↔ wdK T j = wd f p e := by
  unfold allU wdK wd
  rw [hl, List.all_eq_true]
  constructor
  · intro h
    apply List.map_congr_left
    intro u hu
    have := of_decide_eq_true (h u hu)
    rw [this]
  · intro h u hu
    apply decide_eq_true
    have hlt := List.mem_range.mp hu
    have := congrArg (fun l => l.getD u 0) h
    simp only [List.getD_eq_getElem?_getD, List.getElem?_map, List.getElem?_range hlt, Option.map_some, Option.getD_some] at this
    omega
