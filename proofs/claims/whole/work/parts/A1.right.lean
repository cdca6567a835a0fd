/-! LAWS: right, reason, void, names; what the calls keep -/
theorem ru_cgA {dA dA' dB : Dt} {t i : Nat} (h : ruR dA dB t i) (hk : ∀ k, 79 ≤ k → dA' k = dA k) : ruR dA' dB t i := by
  unfold ruR at h ⊢
  rw [hk (79 + 7 * t + 1) (by omega), hk (79 + 7 * t + 2) (by omega), hk (79 + 7 * t + 3) (by omega), hk (79 + 7 * t + 4) (by omega), hk (79 + 7 * t + 5) (by omega), hk (79 + 7 * t + 6) (by omega)]
  exact h
theorem RL0.cgA {dA dA' dB : Dt} (h : RL0 dA dB) (hk : ∀ k, 79 ≤ k → dA' k = dA k) (h25 : dA' 25 6 = dA 25 6) (h30 : dA' 30 2 = dA 30 2) (h31 : dA' 31 = dA 31) : RL0 dA' dB := by
  obtain ⟨a1, a2, a3, a4, a5, a6⟩ := h
  refine ⟨a1, by rw [hk GH (by decide)]; exact a2, by rw [h25]; exact a3, by rw [h30]; exact a4, fun t ht => ?_, fun i hi => by rw [h31]; exact a6 i hi⟩
  obtain ⟨b1, b2, b3, b4⟩ := a5 t ht
  exact ⟨by rw [hk _ (by omega)]; exact b1, by rw [hk _ (by omega)]; exact b2, by rw [hk _ (by omega)]; exact b3, fun i hi => ru_cgA (b4 i hi) hk⟩
theorem ru_cgB {dA dB dB' : Dt} {t i : Nat} (h : ruR dA dB t i) (hk : ∀ k, 26 ≤ k → k ≤ 44 → dB' k = dB k) : ruR dA dB' t i := by
  unfold ruR at h ⊢
  rw [hk 29 (by decide) (by decide), hk 30 (by decide) (by decide), hk 31 (by decide) (by decide), hk 35 (by decide) (by decide), hk 36 (by decide) (by decide)]
  obtain ⟨h1, h2, h3⟩ := h
  refine ⟨h1, h2, ?_⟩
  rcases h3 with ⟨g, o1, o2, fi, n, g1, g2, g3, g4, g5, g6, g7⟩ | g | g
  · exact Or.inl ⟨g, o1, o2, fi, n, g1, g2, g3, g4, g5, g6, tstB_cg g7 (fun c c1 c2 => hk c (by omega) c2)⟩
  · exact Or.inr (Or.inl g)
  · exact Or.inr (Or.inr g)
theorem ordA_cg {dB dB' : Dt} (hk : ∀ k, 26 ≤ k → k ≤ 44 → dB' k = dB k) (h41 : dB' 0 41 = dB 0 41) : ordA dB' = ordA dB := by
  unfold ordA; rw [hk 26 (by decide) (by decide), h41]
theorem RL0.cgB {dA dB dB' : Dt} (h : RL0 dA dB) (hk : ∀ k, 26 ≤ k → k ≤ 44 → dB' k = dB k) (h41 : dB' 0 41 = dB 0 41) : RL0 dA dB' := by
  obtain ⟨a1, a2, a3, a4, a5, a6⟩ := h
  unfold RL0
  rw [h41, ordA_cg hk h41]
  refine ⟨a1, a2, a3, a4, fun t ht => ?_, a6⟩
  obtain ⟨b1, b2, b3, b4⟩ := a5 t ht
  unfold txR
  rw [hk 26 (by decide) (by decide), hk 27 (by decide) (by decide), hk 28 (by decide) (by decide)]
  exact ⟨b1, b2, b3, fun i hi => ru_cgB (b4 i hi) hk⟩
theorem rlL_cg {dB dB' : Dt} (hk : ∀ k, 26 ≤ k → k ≤ 44 → dB' k = dB k) (h41 : dB' 0 41 = dB 0 41) (place : Nat) (day : Int) : rlL dB' place day = rlL dB place day := by
  have e1 : txs dB' place day = txs dB place day := by
    unfold txs
    have : inF dB' place day = inF dB place day := by
      funext t; unfold inF; rw [hk 26 (by decide) (by decide), hk 27 (by decide) (by decide)]
    rw [this, hk 26 (by decide) (by decide), h41]
  have e2 : rul dB' = rul dB := by funext t; unfold rul; rw [hk 28 (by decide) (by decide)]
  unfold rlL
  rw [e1, e2]
theorem stkB_cg {dB dB' : Dt} (hk : ∀ k, 26 ≤ k → k ≤ 44 → dB' k = dB k) (L : List Nat) (m : Nat) : stkB dB' L m = stkB dB L m := by
  unfold stkB; rw [hk 35 (by decide) (by decide), hk 36 (by decide) (by decide)]
theorem gth_cgB {x dB dB' : Dt} {place : Nat} {day : Int} (h : gthR x dB place day) (hk : ∀ k, 26 ≤ k → k ≤ 44 → dB' k = dB k) (h41 : dB' 0 41 = dB 0 41) : gthR x dB' place day := by
  unfold gthR at h ⊢
  rw [rlL_cg hk h41]
  refine ⟨h.1, fun m hm => ?_⟩
  rw [stkB_cg hk]; exact h.2 m hm
theorem RLk.cgB {dA dB dB' : Dt} (h : RLk dA dB) (hk : ∀ k, 26 ≤ k → k ≤ 44 → dB' k = dB k) (h41 : dB' 0 41 = dB 0 41) : RLk dA dB' := by
  rcases h with h | ⟨p, h1, h2, h3⟩
  · exact Or.inl h
  · exact Or.inr ⟨p, h1, h2, gth_cgB h3 hk h41⟩
theorem RLk.cgA {dA dA' dB : Dt} (h : RLk dA dB) (h30 : dA' 30 = dA 30) (h32 : dA' 32 = dA 32) (h33 : dA' 33 = dA 33) (h34 : dA' 34 = dA 34) : RLk dA' dB := by
  unfold RLk gthR at h ⊢; rw [h30, h32, h33, h34]; exact h
theorem RLk.mk {x dA dB : Dt} {place : Nat} {day : Int} (hp : place < 7) (h : gaA x dA dB place day) (h7 : x 30 7 = (place : Int)) (h8 : x 30 8 = day) : RLk x dB := Or.inr ⟨place, hp, h7, by rw [h8]; exact h.2⟩
theorem Core.lw {dB x : Dt} (h : Core dB x) : ∀ k, 26 ≤ k → k ≤ 44 → x k = dB k := fun k h1 h2 => h.1 k (by omega) (sB_n k h1 h2)
theorem Core.u71 {dB x : Dt} (h : Core dB x) (v : Int) : Core dB (up2 x 0 71 v) := by
  refine ⟨fun k hk hs => by rw [up2_K _ _ _ hk]; exact h.1 k hk hs, fun j hj => ?_⟩
  rw [up2_j _ _ _ (fun e => by rw [e] at hj; exact absurd hj (by decide))]; exact h.2 j hj
theorem stdB.u71 {x dB : Dt} {place : Nat} {day : Int} (h : stdB x dB place day) (v : Int) : stdB (up2 x 0 71 v) dB place day := by
  unfold stdB arrB at h ⊢
  rw [up2_j _ _ _ (by decide), up2_K _ _ _ (by decide), up2_K _ _ _ (by decide)]; exact h
theorem stdB.k51 {x x' dB : Dt} {place : Nat} {day : Int} (h : stdB x dB place day) (hk : ∀ k, k ≠ 51 → x' k = x k) : stdB x' dB place day := by
  unfold stdB arrB at h ⊢
  rw [hk 0 (by decide), hk 47 (by decide), hk 49 (by decide)]; exact h
theorem Core.k51 {dB x x' : Dt} (h : Core dB x) (hk : ∀ k, k ≠ 51 → x' k = x k) : Core dB x' := h.k3 (fun k _ _ _ _ _ q => hk k q) (fun j _ => by rw [hk 0 (by decide)])
def cloV (dB : Dt) (L : List Nat) (mi : Int) : Int := if lastN (hv dB L 5) L.length = -1 then -1 else if dB 30 (L.getD (lastN (hv dB L 5) L.length).toNat 0) ≤ mi ∧ mi ≤ dB 31 (L.getD (lastN (hv dB L 5) L.length).toNat 0) then -1 else lastN (hv dB L 5) L.length
def rightV (dB : Dt) (L : List Nat) (H : Nat → Bool) (mi : Int) : Int := if cloV dB L mi = -1 then (if fh dB L H 2 = -1 then (if fh dB L H 1 = -1 then 2 else 0) else 3) else 1
def reasV (dB : Dt) (L : List Nat) (H : Nat → Bool) (mi : Int) : Int := if cloV dB L mi = -1 then (if fh dB L H 2 = -1 then fh dB L H 1 else fh dB L H 2) else cloV dB L mi
theorem last_rg {dA dB : Dt} (hL : RL0 dA dB) (place : Nat) (day : Int) (b : Int) : lastN (hv dB (rlL dB place day) b) (rlL dB place day).length = -1 ∨ ∃ m t i : Nat, m < (rlL dB place day).length ∧ lastN (hv dB (rlL dB place day) b) (rlL dB place day).length = (m : Int) ∧ (rlL dB place day).getD m 0 = 20 * t + i ∧ dB 29 (20 * t + i) = b ∧ ruR dA dB t i ∧ 20 * t + i < 100 ∧ i < 20 := by
  rcases lastN_rg (hv dB (rlL dB place day) b) (rlL dB place day).length with h | ⟨m, h1, h2, h3⟩
  · exact Or.inl h
  · obtain ⟨t, i, q1, q2, q3, q4, q5, q6, q7, q8⟩ := rl_mem hL place day _ (getD_mem (rlL dB place day) m h1)
    have := hv_v h3
    rw [q1] at this
    exact Or.inr ⟨m, t, i, h1, h2, q1, this, q8, by omega, q4⟩
theorem num_at {x dA dB : Dt} {place : Nat} {day : Int} (hL : RL0 dA dB) (h : gaA x dA dB place day) (m t i : Nat) (hm : m < (rlL dB place day).length) (he : (rlL dB place day).getD m 0 = 20 * t + i) (hi : i < 20) : L_La_firstNumber (m : Int) x = some (dA (79 + 7 * t + 4) i, x) ∧ L_La_secondNumber (m : Int) x = some (dA (79 + 7 * t + 5) i, x) := by
  have hlen := rl_len hL place day
  obtain ⟨t', i', r1, r2, r3, r4, r5, r6, r7, r8, r9⟩ := ga_at hL h m hm
  have et : t' = t := by omega
  have ei : i' = i := by omega
  subst et; subst ei
  have hb : stt x (x 32 m) := by rw [r4]; exact r3
  have n1 := num1_e x m (by omega) hb (by omega)
  have n2 := num2_e x m (by omega) hb (by omega)
  rw [r4, tn79, r5, tn_i, r8] at n1 n2
  exact ⟨n1, n2⟩
theorem closedA_e {x dA dB : Dt} {place : Nat} {day : Int} (hL : RL0 dA dB) (h : gaA x dA dB place day) (mi : Int) (h7 : x 35 7 = mi) : L_La_closedBy x = some (cloV dB (rlL dB place day) mi, x) := by
  unfold L_La_closedBy cloV
  rw [lastA_e hL h (show prV 22 5 by unfold prV; omega), bd_e]
  rcases last_rg hL place day 5 with q | ⟨m, t, i, q1, q2, q3, q4, q5, q6, q7⟩
  · rw [q, if_pos rfl, if_pos rfl]
  · rw [q2, if_neg (by omega), if_neg (by omega), tn_i, q3]
    obtain ⟨n1, n2⟩ := num_at hL h m t i q1 q3 q7
    obtain ⟨_, _, hr⟩ := q5
    rcases hr with ⟨z, _⟩ | ⟨_, z, _⟩ | ⟨_, _, z1, z2⟩
    · omega
    · omega
    · rw [n1, bd_e, n2, bd_e, within_e, bd_e, h7, z1, z2]
      by_cases w : dB 30 (20 * t + i) ≤ mi ∧ mi ≤ dB 31 (20 * t + i)
      · rw [if_pos w, if_neg (by decide), if_pos w]
      · rw [if_neg w, if_pos rfl, if_neg w]
def HH (dA dB : Dt) (place : Nat) (day : Int) (v : Nat → Int) (H : Nat → Bool) : Prop := ∀ m, m < (rlL dB place day).length → (dB 29 ((rlL dB place day).getD m 0) ≤ 3) →
    (∀ x, gaA x dA dB place day → (∀ j, j < 9 → x 35 j = v j) → ∃ x', L_La_holds (m : Int) x = some (b2i (H m), x') ∧ ∀ k, k ≠ 36 → x' k = x k) ∧
    (∀ x, Core dB x → (∀ j, j < 9 → x 50 j = v j) → ∃ x', L_Mo_doesHold (((rlL dB place day).getD m 0 : Nat) : Int) x = some (b2i (H m), x') ∧ ∀ k, k ≠ 51 → x' k = x k)
theorem fA_e {x dA dB : Dt} {place : Nat} {day : Int} (hL : RL0 dA dB) (h : gaA x dA dB place day) {v : Nat → Int} {H : Nat → Bool} (hxv : ∀ j, j < 9 → x 35 j = v j) (hH : HH dA dB place day v H) {a b : Int} (hp : prV a b) (hb : b ≤ 3) : ∃ x', L_La_firstHolding a x = some (fh dB (rlL dB place day) H b, x') ∧ ∀ k, k ≠ 36 → x' k = x k := firstA_e hL h hxv (fun m h1 h2 => (hH m h1 h2).1) hp hb
theorem fB_e {x dA dB : Dt} {place : Nat} {day : Int} (hL : RL0 dA dB) (hx : Core dB x) (h : stdB x dB place day) {v : Nat → Int} {H : Nat → Bool} (hxv : ∀ j, j < 9 → x 50 j = v j) (hH : HH dA dB place day v H) (b : Int) (hb : b ≤ 3) : ∃ x', L_Mo_firstOf b x = some (fh dB (rlL dB place day) H b, x') ∧ ∀ k, k ≠ 51 → x' k = x k := firstB_e hL hx h (fun m h1 h2 y c e => (hH m h1 h2).2 y c (fun j hj => by rw [e]; exact hxv j hj)) b hb
theorem rightA_e {x dA dB : Dt} {place : Nat} {day : Int} (hL : RL0 dA dB) (h : gaA x dA dB place day) {v : Nat → Int} {H : Nat → Bool} (hxv : ∀ j, j < 9 → x 35 j = v j) (hH : HH dA dB place day v H) : (∃ x', L_La_rightNow x = some (rightV dB (rlL dB place day) H (v 7), x') ∧ ∀ k, k ≠ 36 → x' k = x k) ∧ (∃ x', L_La_reasonNow x = some (reasV dB (rlL dB place day) H (v 7), x') ∧ ∀ k, k ≠ 36 → x' k = x k) := by
  have hc := closedA_e hL h (v 7) (hxv 7 (by decide))
  obtain ⟨x1, a1, a2⟩ := fA_e hL h hxv hH (show prV 19 2 by unfold prV; omega) (by decide)
  have h1 := h.cg a2
  obtain ⟨x2, b1, b2⟩ := fA_e hL h1 (fun j hj => by rw [a2 35 (by decide)]; exact hxv j hj) hH (show prV 17 1 by unfold prV; omega) (by decide)
  have c2 : ∀ k, k ≠ 36 → x2 k = x k := fun k hk => by rw [b2 k hk, a2 k hk]
  unfold L_La_rightNow L_La_reasonNow rightV reasV
  rw [hc, bd_e, bd_e]
  by_cases q1 : cloV dB (rlL dB place day) (v 7) = -1
  · rw [if_pos q1, if_pos q1, if_pos q1, if_pos q1, a1, bd_e, bd_e]
    by_cases q2 : fh dB (rlL dB place day) H 2 = -1
    · rw [if_pos q2, if_pos q2, if_pos q2, if_pos q2, b1, bd_e, bd_e]
      by_cases q3 : fh dB (rlL dB place day) H 1 = -1
      · rw [if_pos q3, if_pos q3]; exact ⟨⟨_, rfl, c2⟩, ⟨_, rfl, c2⟩⟩
      · rw [if_neg q3, if_neg q3]; exact ⟨⟨_, rfl, c2⟩, ⟨_, rfl, c2⟩⟩
    · rw [if_neg q2, if_neg q2, if_neg q2, if_neg q2]; exact ⟨⟨_, rfl, a2⟩, ⟨_, rfl, a2⟩⟩
  · rw [if_neg q1, if_neg q1, if_neg q1, if_neg q1]; exact ⟨⟨_, rfl, fun _ _ => rfl⟩, ⟨_, rfl, fun _ _ => rfl⟩⟩
theorem rightB_e {x dA dB : Dt} {place : Nat} {day mi p : Int} (hL : RL0 dA dB) {x1 : Dt} (hask : L_Mo_ask p (place : Int) day mi x = some (0, x1)) (hx : Core dB x1) (h : stdB x1 dB place day) {v : Nat → Int} {H : Nat → Bool} (hxv : ∀ j, j < 9 → x1 50 j = v j) (hH : HH dA dB place day v H) : ∃ x', L_Mo_rightOf p (place : Int) day mi x = some (rightV dB (rlL dB place day) H mi, x') ∧ x' 0 71 = reasV dB (rlL dB place day) H mi ∧ (∀ k, k ≠ 0 → k ≠ 51 → x' k = x1 k) ∧ ∀ j, j ≠ 71 → x' 0 j = x1 0 j := by
  have hlen := rl_len hL place day
  have b66 : ∀ w : Int, ∃ x', L_Mo_rightOf_b66 (up2 x1 0 71 w) = some ((if fh dB (rlL dB place day) H 2 = -1 then (if fh dB (rlL dB place day) H 1 = -1 then 2 else 0) else 3), x') ∧ x' 0 71 = (if fh dB (rlL dB place day) H 2 = -1 then fh dB (rlL dB place day) H 1 else fh dB (rlL dB place day) H 2) ∧ (∀ k, k ≠ 0 → k ≠ 51 → x' k = x1 k) ∧ ∀ j, j ≠ 71 → x' 0 j = x1 0 j := by
    intro w
    obtain ⟨y1, a1, a2⟩ := fB_e hL (hx.u71 w) (h.u71 w) (fun j hj => by rw [up2_K _ _ _ (by decide)]; exact hxv j hj) hH 2 (by decide)
    obtain ⟨y2, b1, b2⟩ := fB_e (x := up2 y1 0 71 (fh dB (rlL dB place day) H 2)) hL (((hx.u71 w).k51 a2).u71 _) (((h.u71 w).k51 a2).u71 _) (fun j hj => by rw [up2_K _ _ _ (by decide), a2 50 (by decide), up2_K _ _ _ (by decide)]; exact hxv j hj) hH 1 (by decide)
    unfold L_Mo_rightOf_b66
    rw [a1, bd_e]
    by_cases q2 : fh dB (rlL dB place day) H 2 = -1
    · rw [if_pos q2, if_pos q2, if_pos q2, b1, bd_e]
      have c1 : ∀ k, k ≠ 0 → k ≠ 51 → y2 k = x1 k := fun k h0 h1 => by rw [b2 k h1, up2_K _ _ _ h0, a2 k h1, up2_K _ _ _ h0]
      have c2 : ∀ j, j ≠ 71 → y2 0 j = x1 0 j := fun j hj => by rw [b2 0 (by decide), up2_j _ _ _ hj, a2 0 (by decide), up2_j _ _ _ hj]
      by_cases q3 : fh dB (rlL dB place day) H 1 = -1
      · rw [if_pos q3, if_pos q3]
        exact ⟨_, rfl, up2_s _ _ _ _, fun k h0 h1 => by rw [up2_K _ _ _ h0]; exact c1 k h0 h1, fun j hj => by rw [up2_j _ _ _ hj]; exact c2 j hj⟩
      · rw [if_neg q3, if_neg q3]
        exact ⟨_, rfl, up2_s _ _ _ _, fun k h0 h1 => by rw [up2_K _ _ _ h0]; exact c1 k h0 h1, fun j hj => by rw [up2_j _ _ _ hj]; exact c2 j hj⟩
    · rw [if_neg q2, if_neg q2, if_neg q2]
      exact ⟨_, rfl, up2_s _ _ _ _, fun k h0 h1 => by rw [up2_K _ _ _ h0, a2 k h1, up2_K _ _ _ h0], fun j hj => by rw [up2_j _ _ _ hj, a2 0 (by decide), up2_j _ _ _ hj]⟩
  unfold L_Mo_rightOf rightV reasV
  rw [hask, bd_e, lastB_e hL hx h 5, bd_e]
  rcases last_rg hL place day 5 with q | ⟨m, t, i, q1, q2, q3, q4, q5, q6, q7⟩
  · have hc : cloV dB (rlL dB place day) mi = -1 := by unfold cloV; rw [q, if_pos rfl]
    rw [q, hc, if_pos rfl, if_pos rfl, if_pos rfl]; exact b66 (-1)
  · have cm : (0 : Int) ≤ (m : Int) ∧ (m : Int) < 100 := by omega
    have x47 : x1 47 m = ((20 * t + i : Nat) : Int) := by rw [h.1.2 m q1, q3]
    have c47 : (0 : Int) ≤ ((20 * t + i : Nat) : Int) ∧ ((20 * t + i : Nat) : Int) < 120 := by omega
    have hmn : ¬ ((m : Int) = -1) := by omega
    have hc : cloV dB (rlL dB place day) mi = if dB 30 (20 * t + i) ≤ mi ∧ mi ≤ dB 31 (20 * t + i) then -1 else (m : Int) := by unfold cloV; rw [q2, if_neg hmn, tn_i, q3]
    rw [q2, hc, if_neg hmn, ck_pos cm, tn_i, x47, ck_pos c47, tn_i, ck_pos cm, ck_pos c47, hx.1 30 (by decide) (by decide), hx.1 31 (by decide) (by decide)]
    have shut : ∃ x', (some (1, up2 x1 0 71 (m : Int)) : Option (Int × Dt)) = some (1, x') ∧ x' 0 71 = (m : Int) ∧ (∀ k, k ≠ 0 → k ≠ 51 → x' k = x1 k) ∧ ∀ j, j ≠ 71 → x' 0 j = x1 0 j := ⟨_, rfl, up2_s _ _ _ _, fun k h0 h1 => up2_K _ _ _ h0, fun j hj => up2_j _ _ _ hj⟩
    by_cases w1 : mi < dB 30 (20 * t + i)
    · rw [if_pos w1, if_neg (show ¬ (dB 30 (20 * t + i) ≤ mi ∧ mi ≤ dB 31 (20 * t + i)) by omega), if_neg hmn, if_neg hmn]; exact shut
    · rw [if_neg w1]
      by_cases w2 : dB 31 (20 * t + i) < mi
      · rw [if_pos w2, if_neg (show ¬ (dB 30 (20 * t + i) ≤ mi ∧ mi ≤ dB 31 (20 * t + i)) by omega), if_neg hmn, if_neg hmn]; exact shut
      · rw [if_neg w2, if_pos (show dB 30 (20 * t + i) ≤ mi ∧ mi ≤ dB 31 (20 * t + i) by omega), if_pos rfl, if_pos rfl]; exact b66 _
