/-! LAWS: the first RULE that holds; asking -/
theorem eA_cg {v v' : Nat → Int} (h : ∀ j, j < 9 → v j = v' j) : ∀ (l st : List Int), eA v l st = eA v' l st
  | [], st => rfl
  | c :: l, st => by
    have e : stepA v c st = stepA v' c st := by
      unfold stepA
      by_cases q : c < 9
      · rw [if_pos q, if_pos q, h c.toNat (by omega)]
      · rw [if_neg q, if_neg q]
    simp only [eA]
    rw [e]; exact eA_cg h l _
theorem val_cg {v v' : Nat → Int} (h : ∀ j, j < 9 → v j = v' j) (o1 o2 : List One) (h1 : wfT o1) (h2 : o2 = [] ∨ wfT o2) : (hT v o1 && (decide (o2 = []) || !(hT v o2))) = (hT v' o1 && (decide (o2 = []) || !(hT v' o2))) := by
  have e := (codeT_e v o1 o2 h1 h2).1
  rw [eA_cg h, (codeT_e v' o1 o2 h1 h2).1] at e
  exact ((b2i_i _ _).1 (List.cons.inj e).1).symm
theorem tstB_cg {d d' : Dt} {r : Nat} {o1 o2 : List One} (h : tstB d r o1 o2) (hk : ∀ c, 32 ≤ c → c ≤ 44 → d' c = d c) : tstB d' r o1 o2 := by
  obtain ⟨a, h1, h2, h3, h4, h5, h6⟩ := h
  exact ⟨a, by rw [hk 32 (by decide) (by decide)]; exact h1, by rw [hk 33 (by decide) (by decide)]; exact h2, by rw [hk 34 (by decide) (by decide)]; exact h3, h4, onesL_cg (fun c q1 q2 => hk c (by omega) q2) _ _ h5, onesL_cg (fun c q1 q2 => hk c (by omega) q2) _ _ h6⟩
theorem sB_n (c : Nat) (h1 : 26 ≤ c) (h2 : c ≤ 44) : sB c = false := by
  have : ∀ i : Fin 45, 26 ≤ i.val → sB i.val = false := by decide
  exact this ⟨c, by omega⟩ h1
theorem gaA.cg {x x' dA dB : Dt} {place : Nat} {day : Int} (h : gaA x dA dB place day) (hk : ∀ k, k ≠ 36 → x' k = x k) : gaA x' dA dB place day := by
  refine ⟨fun k h79 => by rw [hk k (by omega)]; exact h.1 k h79, ?_⟩
  have g := h.2
  unfold gthR at g ⊢
  rw [hk 30 (by decide), hk 32 (by decide), hk 33 (by decide), hk 34 (by decide)]; exact g
theorem hold_ex {dA dB : Dt} (hL : RL0 dA dB) (place : Nat) (day : Int) (v : Nat → Int) : ∃ H : Nat → Bool, ∀ m, m < (rlL dB place day).length → (dB 29 ((rlL dB place day).getD m 0) ≤ 3) →
    (∀ x, gaA x dA dB place day → (∀ j, j < 9 → x 35 j = v j) → ∃ x', L_La_holds (m : Int) x = some (b2i (H m), x') ∧ ∀ k, k ≠ 36 → x' k = x k) ∧
    (∀ x, Core dB x → (∀ j, j < 9 → x 50 j = v j) → ∃ x', L_Mo_doesHold (((rlL dB place day).getD m 0 : Nat) : Int) x = some (b2i (H m), x') ∧ ∀ k, k ≠ 51 → x' k = x k) := by
  have hlen := rl_len hL place day
  apply Classical.axiomOfChoice (r := fun m b => m < (rlL dB place day).length → (dB 29 ((rlL dB place day).getD m 0) ≤ 3) →
    (∀ x, gaA x dA dB place day → (∀ j, j < 9 → x 35 j = v j) → ∃ x', L_La_holds (m : Int) x = some (b2i b, x') ∧ ∀ k, k ≠ 36 → x' k = x k) ∧
    (∀ x, Core dB x → (∀ j, j < 9 → x 50 j = v j) → ∃ x', L_Mo_doesHold (((rlL dB place day).getD m 0 : Nat) : Int) x = some (b2i b, x') ∧ ∀ k, k ≠ 51 → x' k = x k))
  intro m
  by_cases hm : m < (rlL dB place day).length
  · by_cases hv3 : dB 29 ((rlL dB place day).getD m 0) ≤ 3
    · obtain ⟨t, i, q1, q2, q3, q4, q5, q6, q7, q8⟩ := rl_mem hL place day _ (getD_mem (rlL dB place day) m hm)
      obtain ⟨_, _, h⟩ := id q8
      rcases h with ⟨_, o1, o2, fi, n, h1, h2, h3, h4, h5, h6, h7⟩ | ⟨_, h', _⟩ | ⟨_, h', _⟩
      · refine ⟨hT v o1 && (decide (o2 = []) || !(hT v o2)), fun _ _ => ⟨?_, ?_⟩⟩
        · intro x hx hxv
          obtain ⟨t', i', r1, r2, r3, r4, r5, r6, r7, r8, r9⟩ := ga_at hL hx m hm
          have et : t' = t := by omega
          have ei : i' = i := by omega
          subst et; subst ei
          have ce := codeT_e v o1 o2 h5 h6
          have hb : stt x (x 32 m) := by rw [r4]; exact r3
          have c32 : (x 32 m).toNat = 79 + 7 * t' := by rw [r4, tn79]
          have c33 : (x 33 m).toNat = i' := by rw [r5, tn_i]
          obtain ⟨x', w, a1, a2, a3⟩ := holdsA_e x m (by omega) hb (by omega) fi n (by rw [c32, c33, r8]; exact h1) (by rw [c32, c33, r8]; exact h2) h3 (by rw [c32, r8, h4]; exact ce.2)
          rw [c32, r8, h4, eA_cg hxv, ce.1] at a2
          refine ⟨x', ?_, a3⟩
          rw [a1]
          have ew : b2i (hT v o1 && (decide (o2 = []) || !(hT v o2))) = w := (List.cons.inj a2).1
          rw [← ew]
          cases (hT v o1 && (decide (o2 = []) || !(hT v o2))) <;> rfl
        · intro x hx hxv
          obtain ⟨x', a1, a2⟩ := doesHold_e x ((rlL dB place day).getD m 0) (by omega) o1 o2 (by rw [q1]; exact tstB_cg h7 (fun c c1 c2 => hx.1 c (by omega) (sB_n c (by omega) c2))) h5 h6
          rw [val_cg hxv o1 o2 h5 h6] at a1
          exact ⟨x', a1, a2⟩
      · rw [q1] at hv3; omega
      · rw [q1] at hv3; omega
    · exact ⟨true, fun _ h => absurd h hv3⟩
  · exact ⟨true, fun h => absurd h hm⟩
def fh (dB : Dt) (L : List Nat) (H : Nat → Bool) (b : Int) : Int := fstN (fun m => hv dB L b m && H m) 0 L.length
theorem hv_v {dB : Dt} {L : List Nat} {b : Int} {m : Nat} (h : hv dB L b m = true) : dB 29 (L.getD m 0) = b := by
  unfold hv at h
  rw [Bool.and_eq_true, decide_eq_true_eq] at h
  exact h.2
theorem firstA_e {x dA dB : Dt} {place : Nat} {day : Int} (hL : RL0 dA dB) (h : gaA x dA dB place day) {v : Nat → Int} {H : Nat → Bool} (hxv : ∀ j, j < 9 → x 35 j = v j)
    (hH : ∀ m, m < (rlL dB place day).length → (dB 29 ((rlL dB place day).getD m 0) ≤ 3) → (∀ x, gaA x dA dB place day → (∀ j, j < 9 → x 35 j = v j) → ∃ x', L_La_holds (m : Int) x = some (b2i (H m), x') ∧ ∀ k, k ≠ 36 → x' k = x k))
    {a b : Int} (hp : prV a b) (hb : b ≤ 3) : ∃ x', L_La_firstHolding a x = some (fh dB (rlL dB place day) H b, x') ∧ ∀ k, k ≠ 36 → x' k = x k := by
  have hlen := rl_len hL place day
  obtain ⟨x', g, a2⟩ := lp_find (f := fun q : Int × Int × Dt => L_La_firstHolding_y2 q.1 q.2.1 q.2.2) (fun j y => (a, (j : Int), y)) (fun j y => Sum.inr ((j : Int), y)) (fun y => Sum.inl y) (fun y => ∀ k, k ≠ 36 → y k = x k) (fun j => (hv dB (rlL dB place day) b j && H j) = true) (rlL dB place day).length
    (by
      rintro j y hj hy
      have hg := h.cg hy
      dsimp only
      unfold L_La_firstHolding_y2 L_La_firstHolding_b29
      rw [hg.2.1, if_pos (by omega), says_e hL hg j hj hp, bd_e, w32_i (show j < 2147483647 by omega)]
      by_cases q : hv dB (rlL dB place day) b j = true
      · obtain ⟨y', c1, c2⟩ := hH j hj (by rw [hv_v q]; exact hb) y hg (fun i hi => by rw [hy 35 (by decide)]; exact hxv i hi)
        rw [q, if_neg (by decide), c1, bd_e, Bool.true_and]
        by_cases r : H j = true
        · left; rw [r, if_neg (by decide)]; exact ⟨rfl, _, rfl, fun k hk => by rw [c2 k hk]; exact hy k hk⟩
        · right; rw [bool_f r, if_pos (by decide)]; exact ⟨by decide, _, rfl, fun k hk => by rw [c2 k hk]; exact hy k hk⟩
      · right; rw [bool_f q, if_pos (by decide), Bool.false_and]; exact ⟨by decide, _, rfl, hy⟩)
    (by
      rintro y hy
      have hg := h.cg hy
      dsimp only
      unfold L_La_firstHolding_y2
      rw [hg.2.1, if_neg (by omega)]
      exact ⟨_, rfl, hy⟩) (by omega) x (fun _ _ => rfl)
  refine ⟨x', ?_, g⟩
  unfold L_La_firstHolding L_La_firstHolding_l2 fh
  rcases a2 with ⟨j, b1, b2, b3, b4⟩ | ⟨b1, b2⟩
  · rw [show lpF (fun q : Int × Int × Dt => L_La_firstHolding_y2 q.1 q.2.1 q.2.2) FU (a, 0, x) = _ from b4, lb_e, smr_, u1_q, fstN_hit _ _ 0 j (by omega) (by omega) b2 (fun k _ h2 => bool_f (b3 k h2))]
  · rw [show lpF (fun q : Int × Int × Dt => L_La_firstHolding_y2 q.1 q.2.1 q.2.2) FU (a, 0, x) = _ from b2, lb_e, sml_, u0_q, fstN_no _ _ 0 (fun k _ h2 => bool_f (b1 k (by omega)))]
theorem firstB_e {x dA dB : Dt} {place : Nat} {day : Int} (hL : RL0 dA dB) (hx : Core dB x) (h : stdB x dB place day) {H : Nat → Bool}
    (hH : ∀ m, m < (rlL dB place day).length → (dB 29 ((rlL dB place day).getD m 0) ≤ 3) → (∀ y, Core dB y → y 50 = x 50 → ∃ x', L_Mo_doesHold (((rlL dB place day).getD m 0 : Nat) : Int) y = some (b2i (H m), x') ∧ ∀ k, k ≠ 51 → x' k = y k))
    (b : Int) (hb : b ≤ 3) : ∃ x', L_Mo_firstOf b x = some (fh dB (rlL dB place day) H b, x') ∧ ∀ k, k ≠ 51 → x' k = x k := by
  have hlen := rl_len hL place day
  obtain ⟨x', g, a2⟩ := lp_find (f := fun q : Int × Int × Dt => L_Mo_firstOf_y2 q.1 q.2.1 q.2.2) (fun j y => (b, (j : Int), y)) (fun j y => Sum.inr ((j : Int), y)) (fun y => Sum.inl y) (fun y => ∀ k, k ≠ 51 → y k = x k) (fun j => (hv dB (rlL dB place day) b j && H j) = true) (rlL dB place day).length
    (by
      rintro j y hj hy
      obtain ⟨t, i2, q1, q2, q3, q4, q5, q6, q7, q8⟩ := rl_mem hL place day _ (getD_mem (rlL dB place day) j hj)
      have hc : Core dB y := hx.k3 (fun k _ _ _ _ _ h => hy k h) (fun j _ => by rw [hy 0 (by decide)])
      have cj : (0 : Int) ≤ (j : Int) ∧ (j : Int) < 100 := by omega
      have y68 : y 0 68 = ((rlL dB place day).length : Int) := by rw [hy 0 (by decide)]; exact h.1.1
      have y47 : y 47 j = (((rlL dB place day).getD j 0 : Nat) : Int) := by rw [hy 47 (by decide)]; exact h.1.2 j hj
      have y49 : y 49 j = b2i (stkB dB (rlL dB place day) j) := by rw [hy 49 (by decide)]; exact h.2 j hj
      dsimp only
      unfold L_Mo_firstOf_y2 L_Mo_firstOf_b49
      rw [y68, if_pos (by omega), ck_pos cj, tn_i, y49, ck_pos cj, y47, ck_pos ⟨by omega, by omega⟩, tn_i, hc.1 29 (by decide) (by decide), ck_pos cj, w32_i (show j < 2147483647 by omega), show hv dB (rlL dB place day) b j = (!(stkB dB (rlL dB place day) j) && decide (dB 29 ((rlL dB place day).getD j 0) = b)) from rfl]
      by_cases q : stkB dB (rlL dB place day) j = true
      · right; rw [q, if_neg (by decide), Bool.not_true, Bool.false_and, Bool.false_and]; exact ⟨by decide, _, rfl, hy⟩
      · rw [bool_f q, if_pos (by decide), Bool.not_false, Bool.true_and]
        by_cases r : dB 29 ((rlL dB place day).getD j 0) = b
        · obtain ⟨y', c1, c2⟩ := hH j hj (by rw [r]; exact hb) y hc (hy 50 (by decide))
          rw [if_pos r, decide_eq_true r, Bool.true_and, c1, bd_e]
          by_cases s : H j = true
          · left; rw [s, if_neg (by decide)]; exact ⟨rfl, _, rfl, fun k hk => by rw [c2 k hk]; exact hy k hk⟩
          · right; rw [bool_f s, if_pos (by decide)]; exact ⟨by decide, _, rfl, fun k hk => by rw [c2 k hk]; exact hy k hk⟩
        · right; rw [if_neg r, decide_eq_false r, Bool.false_and]; exact ⟨by decide, _, rfl, hy⟩)
    (by
      rintro y hy
      dsimp only
      unfold L_Mo_firstOf_y2
      rw [hy 0 (by decide), h.1.1, if_neg (by omega)]
      exact ⟨_, rfl, hy⟩) (by omega) x (fun _ _ => rfl)
  refine ⟨x', ?_, g⟩
  unfold L_Mo_firstOf L_Mo_firstOf_l2 fh
  rcases a2 with ⟨j, b1, b2, b3, b4⟩ | ⟨b1, b2⟩
  · rw [show lpF (fun q : Int × Int × Dt => L_Mo_firstOf_y2 q.1 q.2.1 q.2.2) FU (b, 0, x) = _ from b4, lb_e, smr_, u1_q, fstN_hit _ _ 0 j (by omega) (by omega) b2 (fun k _ h2 => bool_f (b3 k h2))]
  · rw [show lpF (fun q : Int × Int × Dt => L_Mo_firstOf_y2 q.1 q.2.1 q.2.2) FU (b, 0, x) = _ from b2, lb_e, sml_, u0_q, fstN_no _ _ 0 (fun k _ h2 => bool_f (b1 k (by omega)))]
