/-! text: what it leaves alone -/
def RZ (dA : Dt) : Prop := ∀ k j, (k = 31 ∨ k = 32) → dA k j < 0 ∨ stt dA (dA k j)
def RelZ (dA dB : Dt) : Prop := RelW dA dB ∧ RZ dA
theorem RZ.fs {d d' : Dt} (h : RZ d) (f : Fs d d') : RZ d' := by
  intro k j hk
  rcases f.2 k j hk with q | q
  · rw [q]
    rcases h k j hk with z | z
    · exact Or.inl z
    · exact Or.inr (stt_up z f.1)
  · exact Or.inr (stt_up q f.1)
def oT : List (Nat × Nat) := [(0, 0), (25, 1), (25, 5), (25, 6), (25, 7), (25, 8), (30, 2), (30, 7)]
def aT : List Nat := [27, 28, 29, 31, 79, 80, 81, 82, 83, 84, 85, 86, 87, 88, 89, 90, 91, 92, 93, 94, 95, 96, 97, 98, 99, 100, 101, 102, 103, 104, 105, 106, 107, 108, 109, 110, 111, 112, 113, 114, 115, 116, 117, 118, 119, 120]
def oU : List (Nat × Nat) := [(0, 0), (0, 32), (0, 33), (0, 34), (0, 35), (0, 36), (0, 37), (0, 38), (0, 39), (0, 40), (0, 41), (0, 42), (0, 43)]
def aU : List Nat := [25, 26, 27, 28, 29, 30, 31, 32, 33, 34, 35, 36, 37, 38, 39, 40, 41, 42, 43, 44, 45, 46]
theorem aT_c : ∀ k : Fin 121, (k.val = 27 ∨ k.val = 28 ∨ k.val = 29 ∨ k.val = 31 ∨ 79 ≤ k.val) → aT.contains k.val = true := by decide +kernel
theorem aU_c : ∀ k : Fin 47, 25 ≤ k.val → aU.contains k.val = true := by decide +kernel
theorem oU_c : ∀ j : Fin 44, (j.val = 0 ∨ 32 ≤ j.val) → oU.contains (0, j.val) = true := by decide +kernel
def zG (d d0 : Dt) : Dt := fun k => if k = GH then d0 GH else d k
theorem frA_t {dA dA' : Dt} (h0 : ∀ j, j ≠ 0 → dA' 0 j = dA 0 j) (h25 : ∀ j, j ≠ 1 → j ≠ 5 → j ≠ 6 → j ≠ 7 → j ≠ 8 → dA' 25 j = dA 25 j) (h30 : ∀ j, j ≠ 2 → j ≠ 7 → dA' 30 j = dA 30 j) (hk : ∀ k, k ≠ 0 → k ≠ 25 → k ≠ 27 → k ≠ 28 → k ≠ 29 → k ≠ 30 → k ≠ 31 → (k < 79 ∨ 120 < k) → k ≠ GH → dA' k = dA k) : Fr oT aT false dA (zG dA' dA) := by
  refine ⟨by unfold zG; rw [if_pos rfl], fun k j ho ha _ => ?_⟩
  by_cases kg : k = GH
  · unfold zG; rw [if_pos kg, kg]
  · have e : zG dA' dA k j = dA' k j := by unfold zG; rw [if_neg kg]
    rw [e]
    have na : ¬ (k = 27 ∨ k = 28 ∨ k = 29 ∨ k = 31 ∨ (79 ≤ k ∧ k ≤ 120)) := by
      intro z
      have := aT_c ⟨k, by omega⟩ (by show k = 27 ∨ k = 28 ∨ k = 29 ∨ k = 31 ∨ 79 ≤ k; omega)
      rw [this] at ha; cases ha
    by_cases k0 : k = 0
    · subst k0
      refine h0 j (fun z => ?_)
      subst z; exact absurd ho (by decide)
    by_cases k25 : k = 25
    · subst k25
      refine h25 j (fun z => ?_) (fun z => ?_) (fun z => ?_) (fun z => ?_) (fun z => ?_)
      all_goals (subst z; exact absurd ho (by decide))
    by_cases k30 : k = 30
    · subst k30
      refine h30 j (fun z => ?_) (fun z => ?_)
      all_goals (subst z; exact absurd ho (by decide))
    rw [hk k k0 k25 (by omega) (by omega) (by omega) k30 (by omega) (by omega) kg]
theorem frB_t {dB dB' : Dt} (h0 : ∀ j, j ≠ 0 → (j < 32 ∨ 43 < j) → dB' 0 j = dB 0 j) (hk : ∀ k, k ≠ 0 → (k < 25 ∨ 46 < k) → dB' k = dB k) : Fr oU aU false dB dB' := by
  refine ⟨hk GH (by decide) (by decide), fun k j ho ha _ => ?_⟩
  have na : ¬ (25 ≤ k ∧ k ≤ 46) := by
    intro z
    have := aU_c ⟨k, by omega⟩ z.1
    rw [this] at ha; cases ha
  by_cases k0 : k = 0
  · subst k0
    have no : ¬ (j = 0 ∨ (32 ≤ j ∧ j ≤ 43)) := by
      intro z
      have := oU_c ⟨j, by omega⟩ (by show j = 0 ∨ 32 ≤ j; omega)
      rw [this] at ho; cases ho
    exact h0 j (by omega) (by omega)
  · rw [hk k k0 (by omega)]
/-- all that text does not touch -/
theorem keep_t {dA dA' dB dB' : Dt} (h : RelW dA dB) (fA : Fr oT aT false dA (zG dA' dA)) (fB : Fr oU aU false dB dB') (hS : RS dA' dB') (hF : RF dA' dB') (hA : RA dA' dB') (hL : RL0 dA' dB') (hk : RLk dA' dB') (hX : RX dA' dB') : RelW dA' dB' := by
  obtain ⟨gS, gT, gQ, gJ, gP, gR, gH, gF, gO, gV, gG, gA, gB, gN, gC, gM, gL, gk, gX, gg⟩ := h
  have iT := gT.kp fA fB (by decide)
  have iQ := gQ.kp fA fB (by decide)
  have iJ := gJ.kp fA fB (by decide)
  have iP := gP.kp fA fB (by decide)
  have iR := gR.kp fA fB (by decide)
  have iH := gH.kp fA fB (by decide)
  have iO := gO.kp fA fB (by decide)
  have iV := gV.kp fA fB (by decide)
  have iG := gG.kp fA fB (by decide)
  have iB := gB.kp fA fB (by decide)
  have iN := gN.kp fA fB (by decide)
  have iC := gC.kp fA fB (by decide)
  have iM := gM.kp fA fB (by decide)
  exact ⟨hS, iT, iQ, iJ, iP, iR, iH, hF, iO, iV, iG, hA, iB, iN, iC, iM, hL, hk, hX, by rw [fB.1]; exact gg⟩
/-! the RULES that stood before stand on -/
theorem fmt_cg (f g : Nat → List Nat) : ∀ l : List Nat, (∀ t, t ∈ l → f t = g t) → l.flatMap f = l.flatMap g
  | [], _ => rfl
  | a :: l, h => by
    rw [List.flatMap_cons, List.flatMap_cons, h a List.mem_cons_self, fmt_cg f g l (fun t ht => h t (List.mem_cons_of_mem _ ht))]
theorem rlt_mem (d : Dt) (place : Nat) (day : Int) (r : Nat) (h : r ∈ rlL d place day) : ∃ t i, t < (d 0 41).toNat ∧ i < (d 28 t).toNat ∧ r = 20 * t + i := by
  unfold rlL at h
  rw [List.mem_flatMap] at h
  obtain ⟨t, h1, h2⟩ := h
  unfold rul at h2
  rw [List.mem_map] at h2
  obtain ⟨i, h3, h4⟩ := h2
  unfold txs at h1
  exact ⟨t, i, (ord_mem _ _ _ _ h1).1, List.mem_range.mp h3, h4.symm⟩
theorem gth_t {dA dB dB' : Dt} {T place : Nat} {day : Int} (h : gthR dA dB place day) (h41 : dB 0 41 = (T : Int)) (h41' : dB' 0 41 = (T : Int)) (h26 : dB' 26 = dB 26) (h27 : dB' 27 = dB 27) (h28 : ∀ t, t < T → dB' 28 t = dB 28 t ∧ dB 28 t ≤ 20) (h35 : ∀ i, i < 20 * T → dB' 35 i = dB 35 i ∧ dB' 36 i = dB 36 i) : gthR dA dB' place day := by
  have e1 : txs dB' place day = txs dB place day := by
    unfold txs
    have : inF dB' place day = inF dB place day := by funext t; unfold inF; rw [h26, h27]
    rw [this, h26, h41, h41']
  have e2 : rlL dB' place day = rlL dB place day := by
    unfold rlL
    rw [e1]
    refine fmt_cg _ _ _ (fun t ht => ?_)
    unfold txs at ht
    have := (ord_mem _ _ _ _ ht).1
    rw [h41, tn_i] at this
    unfold rul
    rw [(h28 t this).1]
  have lt : ∀ m, m < (rlL dB place day).length → (rlL dB place day).getD m 0 < 20 * T := by
    intro m hm
    obtain ⟨t, i, q1, q2, q3⟩ := rlt_mem dB place day _ (getD_mem _ m hm)
    rw [h41, tn_i] at q1
    have := (h28 t q1).2
    omega
  unfold gthR at h ⊢
  rw [e2]
  refine ⟨h.1, fun m hm => ?_⟩
  obtain ⟨g1, g2, g3⟩ := h.2 m hm
  refine ⟨g1, g2, ?_⟩
  rw [g3]
  congr 1
  have hb : (stkB dB (rlL dB place day) m = true) ↔ (stkB dB' (rlL dB place day) m = true) := by
    rw [stkB_e, stkB_e]
    constructor
    · rintro ⟨j, j1, j2, j3⟩
      exact ⟨j, j1, j2, by rw [(h35 _ (lt j j2)).2, (h35 _ (lt m hm)).1]; exact j3⟩
    · rintro ⟨j, j1, j2, j3⟩
      rw [(h35 _ (lt j j2)).2, (h35 _ (lt m hm)).1] at j3
      exact ⟨j, j1, j2, j3⟩
  cases q1 : stkB dB (rlL dB place day) m <;> cases q2 : stkB dB' (rlL dB place day) m
  · rfl
  · rw [q1, q2] at hb; exact absurd (hb.2 rfl) (by decide)
  · rw [q1, q2] at hb; exact absurd (hb.1 rfl) (by decide)
  · rfl
theorem ord_cg (P : Nat → Bool) (dy dy' : Nat → Int) : ∀ k : Nat, (∀ t, t < k → dy' t = dy t) → ordF P dy' k = ordF P dy k
  | 0, _ => rfl
  | k + 1, h => by
    have ih := ord_cg P dy dy' k (fun t ht => h t (by omega))
    simp only [ordF]
    rw [ih]
    by_cases q : P k = true
    · rw [if_pos q, if_pos q]
      unfold insD
      have e1 : (ordF P dy k).filter (fun y => decide (dy' y ≤ dy' k)) = (ordF P dy k).filter (fun y => decide (dy y ≤ dy k)) := by
        apply List.filter_congr
        intro y hy
        have := (ord_mem P dy k y hy).1
        rw [h y (by omega), h k (by omega)]
      have e2 : (ordF P dy k).filter (fun y => decide (dy' k < dy' y)) = (ordF P dy k).filter (fun y => decide (dy k < dy y)) := by
        apply List.filter_congr
        intro y hy
        have := (ord_mem P dy k y hy).1
        rw [h y (by omega), h k (by omega)]
      rw [e1, e2]
    · rw [if_neg q, if_neg q]
/-- the TEXTS that stood before, behind a text -/
theorem txR_t {dA dA' dB dB' : Dt} {T t : Nat} (h : txR dA dB t) (ht : t < T) {k0 s0 : Nat} (hA : ∀ a, a < 7 → dA' (79 + 7 * t + a) = dA (79 + 7 * t + a)) (h26 : dB' 26 t = dB 26 t) (h27 : dB' 27 t = dB 27 t) (h28 : dB' 28 t = dB 28 t) (h29 : ∀ c i, 29 ≤ c → c ≤ 36 → i < 20 * T → dB' c i = dB c i) (h34 : ∀ i : Nat, (i : Int) < dB 28 t → dB 34 (20 * t + i) ≤ (k0 : Int)) (h39 : ∀ j, j < k0 → dB 39 j ≤ (s0 : Int)) (m1 : ∀ c i, 37 ≤ c → c ≤ 42 → i < k0 → dB' c i = dB c i) (m2 : ∀ i, i < s0 → dB' 43 i = dB 43 i ∧ dB' 44 i = dB 44 i) : txR dA' dB' t := by
  obtain ⟨b1, b2, b3, b4⟩ := h
  have e0 : dA' (79 + 7 * t) = dA (79 + 7 * t) := hA 0 (by decide)
  unfold txR
  rw [e0, h26, h27, h28]
  refine ⟨b1, b2, b3, fun i hi => ?_⟩
  have hi20 : i < 20 := by omega
  have r1 := b4 i hi
  have r2 : ruR dA' dB t i := by
    unfold ruR at r1 ⊢
    rw [hA 1 (by decide), hA 2 (by decide), hA 3 (by decide), hA 4 (by decide), hA 5 (by decide), hA 6 (by decide)]
    exact r1
  exact ru_trB r2 (fun c a b => h29 c _ a b (by omega)) (h34 i hi) h39 m1 m2
