/-! LAWS: asking; what both tell of a comer -/
theorem RR.cgB {dA dB dB' : Dt} (h : RR dA dB) (hk : ∀ k, 10 ≤ k → k ≤ 23 → dB' k = dB k) (hf : ∀ j, 8 ≤ j → j ≤ 12 → dB' 0 j = dB 0 j) : RR dA dB' := by
  unfold RR at h ⊢
  rw [hk 10 (by decide) (by decide), hk 11 (by decide) (by decide), hk 12 (by decide) (by decide), hk 13 (by decide) (by decide), hk 14 (by decide) (by decide), hk 15 (by decide) (by decide), hk 16 (by decide) (by decide), hk 17 (by decide) (by decide), hk 18 (by decide) (by decide), hk 19 (by decide) (by decide), hk 20 (by decide) (by decide), hk 21 (by decide) (by decide), hk 22 (by decide) (by decide), hk 23 (by decide) (by decide), hf 8 (by decide) (by decide), hf 9 (by decide) (by decide), hf 10 (by decide) (by decide), hf 11 (by decide) (by decide), hf 12 (by decide) (by decide)]
  exact h
theorem RR.core {dA dB x : Dt} (h : RR dA dB) (hx : Core dB x) : RR dA x := by
  have e : ∀ i : Fin 24, 10 ≤ i.val → sB i.val = false ∨ i.val = 25 := by decide
  refine h.cgB (fun k h1 h2 => hx.1 k (by omega) ?_) (fun j h1 h2 => hx.2 j ?_)
  · rcases e ⟨k, by omega⟩ h1 with q | q
    · exact q
    · have : k = 25 := q
      omega
  · have e2 : ∀ i : Fin 13, sF i.val = false := by decide
    exact e2 ⟨j, by omega⟩
theorem RP.core {dA dB x : Dt} (h : RP dA dB) (hx : Core dB x) : RP dA x := by
  unfold RP at h ⊢; rw [hx.2 7 (by decide)]; exact h
theorem factB_cg {d d' : Dt} (hk : ∀ k, 8 ≤ k → k ≤ 23 → d' k = d k) (hf : ∀ j, 8 ≤ j → j ≤ 12 → d' 0 j = d 0 j) (p place day : Int) (w : Nat) : factB d' p place day w = factB d p place day w := by
  have f8 := hf 8 (by decide) (by decide)
  have f9 := hf 9 (by decide) (by decide)
  have f10 := hf 10 (by decide) (by decide)
  have f12 := hf 12 (by decide) (by decide)
  have c8 := hk 8 (by decide) (by decide)
  have c9 := hk 9 (by decide) (by decide)
  have c10 := hk 10 (by decide) (by decide)
  have c11 := hk 11 (by decide) (by decide)
  have c12 := hk 12 (by decide) (by decide)
  have c13 := hk 13 (by decide) (by decide)
  have c14 := hk 14 (by decide) (by decide)
  have c15 := hk 15 (by decide) (by decide)
  have c16 := hk 16 (by decide) (by decide)
  have c17 := hk 17 (by decide) (by decide)
  have c18 := hk 18 (by decide) (by decide)
  have c19 := hk 19 (by decide) (by decide)
  have c20 := hk 20 (by decide) (by decide)
  have c21 := hk 21 (by decide) (by decide)
  have c22 := hk 22 (by decide) (by decide)
  have c23 := hk 23 (by decide) (by decide)
  have g1 : ∀ n, fLand d' p day n = fLand d p day n := by
    intro n; induction n with
    | zero => rfl
    | succ n ih => simp only [fLand, ih, c10, c12, c13, c14, c15, f12]
  have g2 : ∀ n, fMany d' p day n = fMany d p day n := by
    intro n; induction n with
    | zero => rfl
    | succ n ih => simp only [fMany, ih, c10, c13, c14, c15, f12]
  have g3 : ∀ n, fHeld d' p day n = fHeld d p day n := by
    intro n; induction n with
    | zero => rfl
    | succ n ih => simp only [fHeld, ih, c10, c13, c14, c15, f12]
  have g0 : ∀ pl n, sSin d' pl day n = sSin d pl day n := by
    intro pl n; induction n with
    | zero => rfl
    | succ n ih => simp only [sSin, ih, c16, c17, c18, f12]
  have g4 : ∀ n, fSpl d' p day n = fSpl d p day n := by
    intro n; induction n with
    | zero => rfl
    | succ n ih => simp only [fSpl, ih, g0, c10, c11, c13, c14, c15, f12, f9]
  have g5 : ∀ n, fPay d' p day n = fPay d p day n := by
    intro n; induction n with
    | zero => rfl
    | succ n ih => simp only [fPay, ih, c19, c20, c21, c22, c23, f12]
  unfold factB
  rw [g1, g2, g3, g4, g5, f8, f10, c8, c9]
theorem factB_core {dB x : Dt} (hx : Core dB x) (p place day : Int) (w : Nat) : factB x p place day w = factB dB p place day w := by
  have e : ∀ i : Fin 24, 8 ≤ i.val → sB i.val = false := by decide
  have e2 : ∀ i : Fin 13, sF i.val = false := by decide
  exact factB_cg (fun k h1 h2 => hx.1 k (by omega) (e ⟨k, by omega⟩ h1)) (fun j h1 h2 => hx.2 j (e2 ⟨j, by omega⟩)) p place day w
def vals (dB : Dt) (p : Int) (place : Nat) (day mi : Int) (j : Nat) : Int := if j < 7 then factB dB p (place : Int) day j else if j = 7 then mi else day
theorem ask_e {dA dB x : Dt} (hL : RL0 dA dB) (hR : RR dA dB) (hP : RP dA dB) (hx : Core dB x) (p : Int) (place : Nat) (day mi : Int) (hp : 0 ≤ p ∧ p < dB 0 7) (hd : 0 ≤ day ∧ day ≤ 9999) : ∃ x', L_Mo_ask p (place : Int) day mi x = some (0, x') ∧ Core dB x' ∧ stdB x' dB place day ∧ (∀ j, j < 9 → x' 50 j = vals dB p place day mi j) ∧ (∀ k, k ≠ 0 → k ≠ 47 → k ≠ 48 → k ≠ 49 → k ≠ 50 → x' k = x k) ∧ ∀ j, j ≠ 68 → x' 0 j = x 0 j := by
  obtain ⟨y, e1, e2, e3⟩ := lp_inv (f := fun q : Int × Int × Int × Int × Int × Dt => L_Mo_ask_y3 q.1 q.2.1 q.2.2.1 q.2.2.2.1 q.2.2.2.2.1 q.2.2.2.2.2) (fun i y => (p, (place : Int), day, mi, (i : Int), y)) (fun y => ((place : Int), day, mi, y))
    (fun i y => (∀ k, k ≠ 50 → y k = x k) ∧ ∀ j, j < i → y 50 j = factB dB p (place : Int) day j) 7
    (by
      rintro i y hi ⟨f1, f2⟩
      have hy : Core dB y := hx.k3 (fun k _ _ _ _ h _ => f1 k h) (fun j _ => by rw [f1 0 (by decide)])
      have hfo := factOf_e (hR.core hy) (hP.core hy) p (place : Int) day i hi (by rw [hy.2 7 (by decide)]; exact hp) hd
      refine ⟨up2 y 50 i (factB dB p (place : Int) day i), ?_, fun k hk => by rw [up2_K _ _ _ hk]; exact f1 k hk, fun j hj => ?_⟩
      · dsimp only
        unfold L_Mo_ask_y3
        rw [if_pos (by omega), hfo, bd_e, factB_core hy, ck_pos ⟨by omega, by omega⟩, tn_i, w32_i (show i < 2147483647 by omega)]
      · by_cases q : j = i
        · rw [q, up2_s]
        · rw [up2_j _ _ _ q]; exact f2 j (by omega))
    (by
      rintro y _
      dsimp only
      unfold L_Mo_ask_y3
      rw [if_neg (by decide)]) (by omega) x ⟨fun _ _ => rfl, fun j h => by omega⟩
  have hy2 : Core dB (up2 (up2 y 50 7 mi) 50 8 day) := hx.k3 (fun k _ _ _ _ h _ => by rw [up2_K _ _ _ h, up2_K _ _ _ h]; exact e2 k h) (fun j _ => by rw [up2_K _ _ _ (by decide), up2_K _ _ _ (by decide), e2 0 (by decide)])
  obtain ⟨z, a1, a2, a3, a4⟩ := stand_e hL hy2 place day
  refine ⟨z, ?_, hy2.k3 (fun k h0 h1 h2 h3 _ _ => a2 k h0 h1 h2 h3) a3, a4, ?_, ?_, ?_⟩
  · unfold L_Mo_ask L_Mo_ask_l3
    rw [show lpF (fun q : Int × Int × Int × Int × Int × Dt => L_Mo_ask_y3 q.1 q.2.1 q.2.2.1 q.2.2.2.1 q.2.2.2.2.1 q.2.2.2.2.2) FU (p, (place : Int), day, mi, 0, x) = _ from e1, lb_e, u3_q, a1, bd_e]
  · intro j hj
    rw [a2 50 (by decide) (by decide) (by decide) (by decide)]
    unfold vals
    by_cases q8 : j = 8
    · rw [q8, up2_s]; rfl
    · rw [up2_j _ _ _ q8]
      by_cases q7 : j = 7
      · rw [q7, up2_s]; rfl
      · rw [up2_j _ _ _ q7, if_pos (by omega)]; exact e3 j (by omega)
  · intro k h0 h1 h2 h3 h4; rw [a2 k h0 h1 h2 h3, up2_K _ _ _ h4, up2_K _ _ _ h4]; exact e2 k h4
  · intro j hj; rw [a3 j hj, up2_K _ _ _ (by decide), up2_K _ _ _ (by decide), e2 0 (by decide)]
theorem bring_e {d dB : Dt} (hL : RL0 d dB) (hk : RLk d dB) (hR : RR d dB) (hP : RP d dB) (hH : RH d dB) (p : Int) (place : Nat) (day mi : Int) (hp : 0 ≤ p ∧ p < dB 0 7) (hd : 0 ≤ day ∧ day ≤ 9999) (hpl : place < 7) : ∃ x, L_La_bring p (place : Int) day mi d = some (0, x) ∧ gaA x d dB place day ∧ (∀ j, j < 9 → x 35 j = vals dB p place day mi j) ∧ (∀ k, k ≠ 30 → k ≠ 32 → k ≠ 33 → k ≠ 34 → k ≠ 35 → x k = d k) ∧ x 30 2 = d 30 2 ∧ x 30 7 = (place : Int) ∧ x 30 8 = day := by
  obtain ⟨d1, a1, a2, a3, a4, a5, a6⟩ := gather_e hL hk place day hpl
  have hR1 : RR d1 dB := hR.cgA (fun k h1 h2 => a2 k (by omega) (by omega) (by omega) (by omega))
  have hP1 : RP d1 dB := by unfold RP at hP ⊢; rw [a2 7 (by decide) (by decide) (by decide) (by decide)]; exact hP
  have hH1 : RH d1 dB := by unfold RH at hH ⊢; rw [a2 8 (by decide) (by decide) (by decide) (by decide), a2 9 (by decide) (by decide) (by decide) (by decide), a2 10 (by decide) (by decide) (by decide) (by decide)]; exact hH
  obtain ⟨d2, b1, b2, b3, b4⟩ := tell_e hR1 hP1 hH1 35 9 (by decide) (Or.inr rfl) p (place : Int) day hp hd
  refine ⟨up2 (up2 d2 35 7 mi) 35 8 day, ?_, ⟨fun k h79 => ?_, ?_⟩, ?_, ?_, ?_, ?_, ?_⟩
  · unfold L_La_bring
    rw [a1, bd_e, b1, bd_e]
  · rw [up2_K _ _ _ (by omega), up2_K _ _ _ (by omega), b2 k (by omega)]; exact a2 k (by omega) (by omega) (by omega) (by omega)
  · unfold gthR at a6 ⊢
    simp (disch := decide) only [up2_K]
    rw [b2 30 (by decide), b2 32 (by decide), b2 33 (by decide), b2 34 (by decide)]; exact a6
  · intro j hj
    unfold vals
    by_cases q8 : j = 8
    · rw [q8, up2_s]; rfl
    · rw [up2_j _ _ _ q8]
      by_cases q7 : j = 7
      · rw [q7, up2_s]; rfl
      · rw [up2_j _ _ _ q7, if_pos (by omega)]; exact b3 j (by omega)
  · intro k h1 h2 h3 h4 h5; rw [up2_K _ _ _ h5, up2_K _ _ _ h5, b2 k h5]; exact a2 k h1 h2 h3 h4
  · rw [up2_K _ _ _ (by decide), up2_K _ _ _ (by decide), b2 30 (by decide)]; exact a3
  · rw [up2_K _ _ _ (by decide), up2_K _ _ _ (by decide), b2 30 (by decide)]; exact a4
  · rw [up2_K _ _ _ (by decide), up2_K _ _ _ (by decide), b2 30 (by decide)]; exact a5
theorem comer_e (p q r s : Int) (d : Dt) : L_PB_comerStatus p q r s d = some (if (0 ≤ p ∧ p < d 7 3) ∧ (0 ≤ q ∧ q ≤ 6) ∧ (0 ≤ r ∧ r ≤ 9999) ∧ (0 ≤ s ∧ s ≤ 1439) then 0 else 1, d) := by
  unfold L_PB_comerStatus
  rw [e_Pe_has, bd_e]
  by_cases h1 : 0 ≤ p ∧ p < d 7 3
  · rw [if_pos h1, if_neg (by decide), e_PB_isPlace, bd_e]
    by_cases h2 : 0 ≤ q ∧ q ≤ 6
    · rw [if_pos h2, if_neg (by decide), e_PB_isDay, bd_e]
      by_cases h3 : 0 ≤ r ∧ r ≤ 9999
      · rw [if_pos h3, if_neg (by decide), e_PB_isMinute, bd_e]
        by_cases h4 : 0 ≤ s ∧ s ≤ 1439
        · rw [if_pos h4, if_neg (by decide), if_pos ⟨h1, h2, h3, h4⟩]
        · rw [if_neg h4, if_pos rfl, if_neg (fun z => h4 z.2.2.2)]
      · rw [if_neg h3, if_pos rfl, if_neg (fun z => h3 z.2.2.1)]
    · rw [if_neg h2, if_pos rfl, if_neg (fun z => h2 z.2.1)]
  · rw [if_neg h1, if_pos rfl, if_neg (fun z => h1 z.1)]
theorem asked_e (p q r s : Int) (d : Dt) : L_Mo_isAsked p q r s d = some (if (0 ≤ p ∧ p < d 0 7) ∧ (0 ≤ q ∧ q ≤ 6) ∧ (0 ≤ r ∧ r ≤ 9999) ∧ (0 ≤ s ∧ s ≤ 1439) then 1 else 0, d) := by
  unfold L_Mo_isAsked
  rw [e_Mo_isPerson, bd_e]
  by_cases h1 : 0 ≤ p ∧ p < d 0 7
  · rw [if_pos h1, if_neg (by decide), e_Mo_isPlace, bd_e]
    by_cases h2 : 0 ≤ q ∧ q ≤ 6
    · rw [if_pos (show 0 ≤ q ∧ q < 7 by omega), if_neg (by decide), e_Mo_isDay, bd_e]
      by_cases h3 : 0 ≤ r ∧ r ≤ 9999
      · rw [if_pos h3, if_neg (by decide), e_Mo_isMinute, bd_e]
        by_cases h4 : 0 ≤ s ∧ s ≤ 1439
        · rw [if_pos h4, if_neg (by decide), if_pos ⟨h1, h2, h3, h4⟩]
        · rw [if_neg h4, if_pos rfl, if_neg (fun z => h4 z.2.2.2)]
      · rw [if_neg h3, if_pos rfl, if_neg (fun z => h3 z.2.2.1)]
    · rw [if_neg (show ¬ (0 ≤ q ∧ q < 7) by omega), if_pos rfl, if_neg (fun z => h2 z.2.1)]
  · rw [if_neg h1, if_pos rfl, if_neg (fun z => h1 z.1)]
