/-! the calls keep what they do not touch -/
def RX (_ dB : Dt) : Prop := ((0 ≤ dB 0 43 ∧ dB 0 43 ≤ 300 * dB 0 41) ∧ 0 ≤ dB 0 42 ∧ dB 0 42 ≤ 600 * dB 0 41) ∧ (∀ t i : Nat, (t : Int) < dB 0 41 → (i : Int) < dB 28 t → dB 34 (20 * t + i) ≤ dB 0 43) ∧ ∀ k : Nat, (k : Int) < dB 0 43 → dB 39 k ≤ dB 0 42
def fC (o : List (Nat × Nat)) (a : List Nat) (k : Nat) : Bool := !(a.contains k) && o.all (fun p => p.1 != k)
def fF (o : List (Nat × Nat)) (a : List Nat) (k j : Nat) : Bool := !(a.contains k) && !(o.contains (k, j))
def fH (o : List (Nat × Nat)) (a : List Nat) (lo hi : Nat) : Bool := a.all (fun k => decide (k < lo ∨ hi < k)) && o.all (fun p => decide (p.1 < lo ∨ hi < p.1))
theorem Fr.c {o : List (Nat × Nat)} {a : List Nat} {d d' : Dt} (h : Fr o a false d d') (k : Nat) (hk : fC o a k = true) : d' k = d k := by
  unfold fC at hk
  rw [Bool.and_eq_true] at hk
  refine h.cell k hk.2 ?_
  cases hc : a.contains k
  · rfl
  · rw [hc] at hk; exact absurd hk.1 (by decide)
theorem Fr.f {o : List (Nat × Nat)} {a : List Nat} {d d' : Dt} (h : Fr o a false d d') (k j : Nat) (hk : fF o a k j = true) : d' k j = d k j := by
  unfold fF at hk
  rw [Bool.and_eq_true] at hk
  refine h.2 k j ?_ ?_ (fun q => by cases q)
  · cases hc : o.contains (k, j)
    · rfl
    · rw [hc] at hk; exact absurd hk.2 (by decide)
  · cases hc : a.contains k
    · rfl
    · rw [hc] at hk; exact absurd hk.1 (by decide)
theorem Fr.h {o : List (Nat × Nat)} {a : List Nat} {d d' : Dt} (h : Fr o a false d d') (lo hi : Nat) (hk : fH o a lo hi = true) (k : Nat) (h1 : lo ≤ k) (h2 : k ≤ hi) : d' k = d k := by
  unfold fH at hk
  rw [Bool.and_eq_true] at hk
  funext j
  refine h.2 k j ?_ ?_ (fun q => by cases q)
  · cases hc : o.contains (k, j) with
    | false => rfl
    | true =>
      have := of_decide_eq_true (List.all_eq_true.mp hk.2 (k, j) (List.contains_iff_mem.mp hc))
      have t : k < lo ∨ hi < k := this
      omega
  · cases hc : a.contains k with
    | false => rfl
    | true =>
      have := of_decide_eq_true (List.all_eq_true.mp hk.1 k (List.contains_iff_mem.mp hc))
      omega
theorem Fr.up {o : List (Nat × Nat)} {a : List Nat} {d d' : Dt} (h : Fr o a false d d') (hk : fH o a 79 999999 = true) (k : Nat) (h1 : 79 ≤ k) (hb : a.all (fun k => decide (k < 79)) = true) (ho : o.all (fun p => decide (p.1 < 79)) = true) : d' k = d k := by
  funext j
  refine h.2 k j ?_ ?_ (fun q => by cases q)
  · cases hc : o.contains (k, j) with
    | false => rfl
    | true =>
      have := of_decide_eq_true (List.all_eq_true.mp ho (k, j) (List.contains_iff_mem.mp hc))
      have t : k < 79 := this
      omega
  · cases hc : a.contains k with
    | false => rfl
    | true =>
      have := of_decide_eq_true (List.all_eq_true.mp hb k (List.contains_iff_mem.mp hc))
      omega
theorem nn_cg {d d' : Dt} (h7 : d' 7 = d 7) (h8 : d' 8 = d 8) (h53 : d' 53 = d 53) (h57 : d' 57 = d 57) (e : Nat) : ∀ n : Nat, nF d' e n = nF d e n ∧ nP d' e n = nP d e n ∧ nS d' e n = nS d e n
  | 0 => ⟨rfl, rfl, rfl⟩
  | n + 1 => by
    obtain ⟨i1, i2, i3⟩ := nn_cg h7 h8 h53 h57 e n
    have : dB_ d' e n = dB_ d e n := by unfold dB_; rw [h7, h8, h53, h57]
    simp only [nF, nP, nS, this, i1, i2, i3]
    refine ⟨?_, ?_, ?_⟩ <;> trivial
theorem RT.kp {dA dA' dB dB' : Dt} {oA oB : List (Nat × Nat)} {aA aB : List Nat} (fA : Fr oA aA false dA dA') (fB : Fr oB aB false dB dB') (h : RT dA dB) (c : ([fC oA aA 4, fC oA aA 5, fC oA aA 6, fC oB aB 1, fC oB aB 2, fC oB aB 3].all id) = true) : RT dA' dB' := by
  simp only [List.all_cons, List.all_nil, Bool.and_true, id, Bool.and_eq_true] at c
  obtain ⟨q0, q1, q2, q3, q4, q5⟩ := c
  unfold RT at h ⊢
  rw [fA.c 4 q0, fA.c 5 q1, fA.c 6 q2, fB.c 1 q3, fB.c 2 q4, fB.c 3 q5]; exact h
theorem RQ.kp {dA dA' dB dB' : Dt} {oA oB : List (Nat × Nat)} {aA aB : List Nat} (fA : Fr oA aA false dA dA') (fB : Fr oB aB false dB dB') (h : RQ dA dB) (c : ([fF oA aA 49 3, fF oB aB 0 79].all id) = true) : RQ dA' dB' := by
  simp only [List.all_cons, List.all_nil, Bool.and_true, id, Bool.and_eq_true] at c
  obtain ⟨q0, q1⟩ := c
  unfold RQ at h ⊢
  rw [fA.f 49 3 q0, fB.f 0 79 q1]; exact h
theorem RJ.kp {dA dA' dB dB' : Dt} {oA oB : List (Nat × Nat)} {aA aB : List Nat} (fA : Fr oA aA false dA dA') (fB : Fr oB aB false dB dB') (h : RJ dA dB) (c : ([fC oA aA 65, fC oA aA 66, fC oA aA 67, fC oA aA 70, fF oA aA 64 2, fF oA aA 64 7, fC oB aB 69, fC oB aB 70, fC oB aB 71, fC oB aB 74, fF oB aB 0 99, fF oB aB 0 100, fF oB aB 0 101].all id) = true) : RJ dA' dB' := by
  simp only [List.all_cons, List.all_nil, Bool.and_true, id, Bool.and_eq_true] at c
  obtain ⟨q0, q1, q2, q3, q4, q5, q6, q7, q8, q9, q10, q11, q12⟩ := c
  unfold RJ at h ⊢
  rw [fA.c 65 q0, fA.c 66 q1, fA.c 67 q2, fA.c 70 q3, fA.f 64 2 q4, fA.f 64 7 q5, fB.c 69 q6, fB.c 70 q7, fB.c 71 q8, fB.c 74 q9, fB.f 0 99 q10, fB.f 0 100 q11, fB.f 0 101 q12]; exact h
theorem RP.kp {dA dA' dB dB' : Dt} {oA oB : List (Nat × Nat)} {aA aB : List Nat} (fA : Fr oA aA false dA dA') (fB : Fr oB aB false dB dB') (h : RP dA dB) (c : ([fF oA aA 7 3, fF oB aB 0 7].all id) = true) : RP dA' dB' := by
  simp only [List.all_cons, List.all_nil, Bool.and_true, id, Bool.and_eq_true] at c
  obtain ⟨q0, q1⟩ := c
  unfold RP at h ⊢
  rw [fA.f 7 3 q0, fB.f 0 7 q1]; exact h
theorem RR.kp {dA dA' dB dB' : Dt} {oA oB : List (Nat × Nat)} {aA aB : List Nat} (fA : Fr oA aA false dA dA') (fB : Fr oB aB false dB dB') (h : RR dA dB) (c : ([fC oA aA 12, fC oA aA 13, fC oA aA 14, fC oA aA 15, fC oA aA 16, fC oA aA 17, fC oA aA 18, fC oA aA 19, fC oA aA 20, fC oA aA 21, fC oA aA 22, fC oA aA 23, fC oA aA 24, fF oA aA 11 1, fF oA aA 11 2, fF oA aA 11 9, fF oA aA 11 13, fF oA aA 11 18, fC oB aB 10, fC oB aB 11, fC oB aB 12, fC oB aB 13, fC oB aB 14, fC oB aB 15, fC oB aB 16, fC oB aB 17, fC oB aB 18, fC oB aB 19, fC oB aB 20, fC oB aB 21, fC oB aB 22, fC oB aB 23, fF oB aB 0 8, fF oB aB 0 9, fF oB aB 0 10, fF oB aB 0 11, fF oB aB 0 12].all id) = true) : RR dA' dB' := by
  simp only [List.all_cons, List.all_nil, Bool.and_true, id, Bool.and_eq_true] at c
  obtain ⟨q0, q1, q2, q3, q4, q5, q6, q7, q8, q9, q10, q11, q12, q13, q14, q15, q16, q17, q18, q19, q20, q21, q22, q23, q24, q25, q26, q27, q28, q29, q30, q31, q32, q33, q34, q35, q36⟩ := c
  unfold RR at h ⊢
  rw [fA.c 12 q0, fA.c 13 q1, fA.c 14 q2, fA.c 15 q3, fA.c 16 q4, fA.c 17 q5, fA.c 18 q6, fA.c 19 q7, fA.c 20 q8, fA.c 21 q9, fA.c 22 q10, fA.c 23 q11, fA.c 24 q12, fA.f 11 1 q13, fA.f 11 2 q14, fA.f 11 9 q15, fA.f 11 13 q16, fA.f 11 18 q17, fB.c 10 q18, fB.c 11 q19, fB.c 12 q20, fB.c 13 q21, fB.c 14 q22, fB.c 15 q23, fB.c 16 q24, fB.c 17 q25, fB.c 18 q26, fB.c 19 q27, fB.c 20 q28, fB.c 21 q29, fB.c 22 q30, fB.c 23 q31, fB.f 0 8 q32, fB.f 0 9 q33, fB.f 0 10 q34, fB.f 0 11 q35, fB.f 0 12 q36]; exact h
theorem RF.kp {dA dA' dB dB' : Dt} {oA oB : List (Nat × Nat)} {aA aB : List Nat} (fA : Fr oA aA false dA dA') (fB : Fr oB aB false dB dB') (h : RF dA dB) (c : ([fF oA aA 25 7, fF oA aA 25 8, fF oB aB 0 38, fF oB aB 0 39].all id) = true) : RF dA' dB' := by
  simp only [List.all_cons, List.all_nil, Bool.and_true, id, Bool.and_eq_true] at c
  obtain ⟨q0, q1, q2, q3⟩ := c
  unfold RF at h ⊢
  rw [fA.f 25 7 q0, fA.f 25 8 q1, fB.f 0 38 q2, fB.f 0 39 q3]; exact h
theorem RO.kp {dA dA' dB dB' : Dt} {oA oB : List (Nat × Nat)} {aA aB : List Nat} (fA : Fr oA aA false dA dA') (fB : Fr oB aB false dB dB') (h : RO dA dB) (c : ([fC oA aA 72, fF oA aA 71 8, fC oB aB 75, fF oB aB 0 108].all id) = true) : RO dA' dB' := by
  simp only [List.all_cons, List.all_nil, Bool.and_true, id, Bool.and_eq_true] at c
  obtain ⟨q0, q1, q2, q3⟩ := c
  unfold RO at h ⊢
  rw [fA.c 72 q0, fA.f 71 8 q1, fB.c 75 q2, fB.f 0 108 q3]; exact h
theorem RV.kp {dA dA' dB dB' : Dt} {oA oB : List (Nat × Nat)} {aA aB : List Nat} (fA : Fr oA aA false dA dA') (fB : Fr oB aB false dB dB') (h : RV dA dB) (c : ([fC oA aA 54, fC oA aA 55, fC oA aA 56, fF oA aA 49 11, fC oB aB 59, fC oB aB 60, fC oB aB 61, fF oB aB 0 87, fF oB aB 0 7].all id) = true) : RV dA' dB' := by
  simp only [List.all_cons, List.all_nil, Bool.and_true, id, Bool.and_eq_true] at c
  obtain ⟨q0, q1, q2, q3, q4, q5, q6, q7, q8⟩ := c
  unfold RV at h ⊢
  rw [fA.c 54 q0, fA.c 55 q1, fA.c 56 q2, fA.f 49 11 q3, fB.c 59 q4, fB.c 60 q5, fB.c 61 q6, fB.f 0 87 q7, fB.f 0 7 q8]; exact h
theorem RG.kp {dA dA' dB dB' : Dt} {oA oB : List (Nat × Nat)} {aA aB : List Nat} (fA : Fr oA aA false dA dA') (fB : Fr oB aB false dB dB') (h : RG dA dB) (c : ([fC oA aA 59, fC oA aA 60, fC oA aA 61, fF oA aA 58 5, fC oB aB 52, fC oB aB 65, fC oB aB 66, fC oB aB 68, fF oB aB 0 92, fF oB aB 0 87].all id) = true) : RG dA' dB' := by
  simp only [List.all_cons, List.all_nil, Bool.and_true, id, Bool.and_eq_true] at c
  obtain ⟨q0, q1, q2, q3, q4, q5, q6, q7, q8, q9⟩ := c
  unfold RG at h ⊢
  rw [fA.c 59 q0, fA.c 60 q1, fA.c 61 q2, fA.f 58 5 q3, fB.c 52 q4, fB.c 65 q5, fB.c 66 q6, fB.c 68 q7, fB.f 0 92 q8, fB.f 0 87 q9]; exact h
theorem RA.kp {dA dA' dB dB' : Dt} {oA oB : List (Nat × Nat)} {aA aB : List Nat} (fA : Fr oA aA false dA dA') (fB : Fr oB aB false dB dB') (h : RA dA dB) (c : ([fC oA aA 26, fF oA aA 25 1, fC oB aB 24, fF oB aB 0 32].all id) = true) : RA dA' dB' := by
  simp only [List.all_cons, List.all_nil, Bool.and_true, id, Bool.and_eq_true] at c
  obtain ⟨q0, q1, q2, q3⟩ := c
  unfold RA at h ⊢
  rw [fA.c 26 q0, fA.f 25 1 q1, fB.c 24 q2, fB.f 0 32 q3]; exact h
theorem RH.kp {dA dA' dB dB' : Dt} {oA oB : List (Nat × Nat)} {aA aB : List Nat} (fA : Fr oA aA false dA dA') (fB : Fr oB aB false dB dB') (h : RH dA dB) (c : ([fC oA aA 8, fC oA aA 9, fC oA aA 10, fC oB aB 7, fC oB aB 8, fC oB aB 9, fF oB aB 0 7].all id) = true) : RH dA' dB' := by
  simp only [List.all_cons, List.all_nil, Bool.and_true, id, Bool.and_eq_true] at c
  obtain ⟨q0, q1, q2, q3, q4, q5, q6⟩ := c
  unfold RH at h ⊢
  rw [fA.c 8 q0, fA.c 9 q1, fA.c 10 q2, fB.c 7 q3, fB.c 8 q4, fB.c 9 q5, fB.f 0 7 q6]; exact h
theorem RB.kp {dA dA' dB dB' : Dt} {oA oB : List (Nat × Nat)} {aA aB : List Nat} (fA : Fr oA aA false dA dA') (fB : Fr oB aB false dB dB') (h : RB dA dB) (c : ([fC oA aA 38, fC oA aA 39, fC oA aA 40, fC oA aA 41, fC oA aA 42, fC oB aB 52, fC oB aB 53, fC oB aB 54, fC oB aB 55, fC oB aB 57].all id) = true) : RB dA' dB' := by
  simp only [List.all_cons, List.all_nil, Bool.and_true, id, Bool.and_eq_true] at c
  obtain ⟨q0, q1, q2, q3, q4, q5, q6, q7, q8, q9⟩ := c
  unfold RB at h ⊢
  rw [fA.c 38 q0, fA.c 39 q1, fA.c 40 q2, fA.c 41 q3, fA.c 42 q4, fB.c 52 q5, fB.c 53 q6, fB.c 54 q7, fB.c 55 q8, fB.c 57 q9]; exact h
theorem RX.kp {dA dA' dB dB' : Dt} {oA oB : List (Nat × Nat)} {aA aB : List Nat} (fA : Fr oA aA false dA dA') (fB : Fr oB aB false dB dB') (h : RX dA dB) (c : ([fF oB aB 0 41, fF oB aB 0 42, fF oB aB 0 43, fC oB aB 28, fC oB aB 34, fC oB aB 39].all id) = true) : RX dA' dB' := by
  simp only [List.all_cons, List.all_nil, Bool.and_true, id, Bool.and_eq_true] at c
  obtain ⟨q0, q1, q2, q3, q4, q5⟩ := c
  unfold RX at h ⊢
  rw [fB.f 0 41 q0, fB.f 0 42 q1, fB.f 0 43 q2, fB.c 28 q3, fB.c 34 q4, fB.c 39 q5]; exact h
theorem RN.kp {dA dA' dB dB' : Dt} {oA oB : List (Nat × Nat)} {aA aB : List Nat} (fA : Fr oA aA false dA dA') (fB : Fr oB aB false dB dB') (h : RN dA dB) (c : ([fC oA aA 50, fC oA aA 51, fC oA aA 52, fC oB aB 52, fC oB aB 53, fC oB aB 57, fC oB aB 7, fC oB aB 8, fF oB aB 0 7].all id) = true) : RN dA' dB' := by
  simp only [List.all_cons, List.all_nil, Bool.and_true, id, Bool.and_eq_true] at c
  obtain ⟨q0, q1, q2, q3, q4, q5, q6, q7, q8⟩ := c
  have n1 := nn_cg (fB.c 7 q6) (fB.c 8 q7) (fB.c 53 q4) (fB.c 57 q5)
  unfold RN at h ⊢
  rw [fA.c 50 q0, fA.c 51 q1, fA.c 52 q2, fB.c 52 q3, fB.f 0 7 q8]
  intro e he
  rw [(n1 e _).1, (n1 e _).2.1, (n1 e _).2.2]; exact h e he
theorem RC.kp {dA dA' dB dB' : Dt} {oA oB : List (Nat × Nat)} {aA aB : List Nat} (fA : Fr oA aA false dA dA') (fB : Fr oB aB false dB dB') (h : RC dA dB) (c : ([fC oA aA 43, fC oB aB 52, fC oB aB 53, fC oB aB 54, fC oB aB 55, fC oB aB 57].all id) = true) : RC dA' dB' := by
  simp only [List.all_cons, List.all_nil, Bool.and_true, id, Bool.and_eq_true] at c
  obtain ⟨q0, q1, q2, q3, q4, q5⟩ := c
  unfold RC costB at h ⊢
  rw [fA.c 43 q0, fB.c 52 q1, fB.c 53 q2, fB.c 54 q3, fB.c 55 q4, fB.c 57 q5]; exact h
theorem RM.kp {dA dA' dB dB' : Dt} {oA oB : List (Nat × Nat)} {aA aB : List Nat} (fA : Fr oA aA false dA dA') (fB : Fr oB aB false dB dB') (h : RM dA dB) (c : ([fF oA aA 37 10, fC oA aA 45, fC oA aA 46, fC oA aA 47, fC oB aB 52, fC oB aB 53, fC oB aB 54, fC oB aB 55, fC oB aB 57].all id) = true) : RM dA' dB' := by
  simp only [List.all_cons, List.all_nil, Bool.and_true, id, Bool.and_eq_true] at c
  obtain ⟨q0, q1, q2, q3, q4, q5, q6, q7, q8⟩ := c
  refine (h.cgA (fA.f 37 10 q0) ?_).cgB ⟨fB.c 52 q4, fB.c 53 q5, fB.c 54 q6, fB.c 55 q7, fB.c 57 q8⟩
  intro k k1 k2
  have : k = 45 ∨ k = 46 ∨ k = 47 := by omega
  rcases this with rfl | rfl | rfl
  · exact fA.c 45 q1
  · exact fA.c 46 q2
  · exact fA.c 47 q3
theorem RL0.kp {dA dA' dB dB' : Dt} {oA oB : List (Nat × Nat)} {aA aB : List Nat} (fA : Fr oA aA false dA dA') (fB : Fr oB aB false dB dB') (h : RL0 dA dB) (c : ([aA.all (fun k => decide (k < 79)), oA.all (fun p => decide (p.1 < 79)), fF oA aA 25 6, fF oA aA 30 2, fC oA aA 31, fH oB aB 26 44, fF oB aB 0 41].all id) = true) : RL0 dA' dB' := by
  simp only [List.all_cons, List.all_nil, Bool.and_true, id, Bool.and_eq_true] at c
  obtain ⟨q0, q1, q2, q3, q4, q5, q6⟩ := c
  refine (h.cgA (fun k hk => ?_) (fA.f 25 6 q2) (fA.f 30 2 q3) (fA.c 31 q4)).cgB (fun k k1 k2 => fB.h 26 44 q5 k k1 k2) (fB.f 0 41 q6)
  funext j
  refine fA.2 k j ?_ ?_ (fun q => by cases q)
  · cases hc : oA.contains (k, j) with
    | false => rfl
    | true =>
      have := of_decide_eq_true (List.all_eq_true.mp q1 (k, j) (List.contains_iff_mem.mp hc))
      have t : k < 79 := this
      omega
  · cases hc : aA.contains k with
    | false => rfl
    | true =>
      have := of_decide_eq_true (List.all_eq_true.mp q0 k (List.contains_iff_mem.mp hc))
      omega
theorem RLk.kp {dA dA' dB dB' : Dt} {oA oB : List (Nat × Nat)} {aA aB : List Nat} (fA : Fr oA aA false dA dA') (fB : Fr oB aB false dB dB') (h : RLk dA dB) (c : ([fC oA aA 30, fC oA aA 32, fC oA aA 33, fC oA aA 34, fH oB aB 26 44, fF oB aB 0 41].all id) = true) : RLk dA' dB' := by
  simp only [List.all_cons, List.all_nil, Bool.and_true, id, Bool.and_eq_true] at c
  obtain ⟨q0, q1, q2, q3, q5, q6⟩ := c
  exact (h.cgA (fA.c 30 q0) (fA.c 32 q1) (fA.c 33 q2) (fA.c 34 q3)).cgB (fun k k1 k2 => fB.h 26 44 q5 k k1 k2) (fB.f 0 41 q6)
theorem RV.mo {dA dA' dB dB' : Dt} {oA oB : List (Nat × Nat)} {aA aB : List Nat} (fA : Fr oA aA false dA dA') (fB : Fr oB aB false dB dB') (h : RV dA dB) (hm : dB 0 7 ≤ dB' 0 7) (c : ([fC oA aA 54, fC oA aA 55, fC oA aA 56, fF oA aA 49 11, fC oB aB 59, fC oB aB 60, fC oB aB 61, fF oB aB 0 87].all id) = true) : RV dA' dB' := by
  simp only [List.all_cons, List.all_nil, Bool.and_true, id, Bool.and_eq_true] at c
  obtain ⟨q0, q1, q2, q3, q4, q5, q6, q7⟩ := c
  unfold RV at h ⊢
  rw [fA.c 54 q0, fA.c 55 q1, fA.c 56 q2, fA.f 49 11 q3, fB.c 59 q4, fB.c 60 q5, fB.c 61 q6, fB.f 0 87 q7]
  refine ⟨h.1, h.2.1, fun i hi => ?_⟩
  obtain ⟨a1, a2, a3, a4, a5, a6⟩ := h.2.2 i hi
  exact ⟨a1, a2, a3, a4, by omega, a6⟩
theorem RG.mo {dA dA' dB dB' : Dt} {oA oB : List (Nat × Nat)} {aA aB : List Nat} (fA : Fr oA aA false dA dA') (fB : Fr oB aB false dB dB') (h : RG dA dB) (hm : dB 52 0 ≤ dB' 52 0) (hm2 : dB 0 87 ≤ dB' 0 87) (c : ([fC oA aA 59, fC oA aA 60, fC oA aA 61, fF oA aA 58 5, fC oB aB 65, fC oB aB 66, fC oB aB 68, fF oB aB 0 92].all id) = true) : RG dA' dB' := by
  simp only [List.all_cons, List.all_nil, Bool.and_true, id, Bool.and_eq_true] at c
  obtain ⟨q0, q1, q2, q3, q4, q5, q6, q7⟩ := c
  unfold RG at h ⊢
  rw [fA.c 59 q0, fA.c 60 q1, fA.c 61 q2, fA.f 58 5 q3, fB.c 65 q4, fB.c 66 q5, fB.c 68 q6, fB.f 0 92 q7]
  refine ⟨h.1, h.2.1, fun i hi => ?_, h.2.2.2⟩
  obtain ⟨a1, a2, a3, a4, a5⟩ := h.2.2.1 i hi
  exact ⟨a1, a2, a3, fun z => by have := a4 z; omega, fun z => by have := a5 z; omega⟩
theorem offer_mo {p1 p2 p3 : Int} {r : Int} {d d' : Dt} (hb : 0 ≤ d 0 87 ∧ d 0 87 ≤ 20) (h : L_Mo_offer p1 p2 p3 d = some (r, d')) : d 0 87 ≤ d' 0 87 := by
  unfold L_Mo_offer L_Mo_offer_b22 at h
  rw [e_Mo_isPerson, bd_e] at h
  have bad : ∀ v : Int, bd (L_Mo_refuse v d) (fun r2_ d1_ => some (r2_, d1_)) = some (r, d') → d 0 87 ≤ d' 0 87 := by
    intro v hv
    rw [e_ref, bd_e] at hv
    have := (Prod.mk.inj (Option.some.inj hv)).2
    rw [← this, up2_j _ _ _ (by decide)]; omega
  by_cases h1 : 0 ≤ p1 ∧ p1 < d 0 7
  · rw [if_pos h1, if_neg (by decide)] at h
    obtain ⟨a, e, g1, g2⟩ := bd_some h
    have ee : e = d := by
      unfold L_Mo_isSet at g1
      repeat' split at g1
      all_goals exact ((Prod.mk.inj (Option.some.inj g1)).2).symm
    rw [ee] at g2
    by_cases q : a = 0
    · rw [if_pos q] at g2; exact bad 1 g2
    · rw [if_neg q, e_Mo_isMinute, bd_e] at g2
      by_cases h3 : 0 ≤ p3 ∧ p3 ≤ 1439
      · rw [if_pos h3, if_neg (by decide)] at g2
        by_cases q2 : d 0 87 = 20
        · rw [if_pos q2] at g2; exact bad 4 g2
        · rw [if_neg q2, ck_pos ⟨by omega, by omega⟩, ck_pos ⟨by omega, by omega⟩, ck_pos ⟨by omega, by omega⟩, e_giv, bd_e] at g2
          have := (Prod.mk.inj (Option.some.inj g2)).2
          rw [← this, up2_j _ _ _ (by decide), up2_s, w32_s (by omega) (by omega)]; omega
      · rw [if_neg h3, if_pos rfl] at g2; exact bad 1 g2
  · rw [if_neg h1, if_pos rfl] at h; exact bad 1 h
