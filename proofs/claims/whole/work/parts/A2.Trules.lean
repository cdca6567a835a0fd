/-! T_ of RULES, STRUCK, RIGHT, WHY, VOIDED, NAMES -/
theorem fh_rg (dB : Dt) (L : List Nat) (H : Nat → Bool) (b : Int) : fh dB L H b = -1 ∨ ∃ m : Nat, m < L.length ∧ fh dB L H b = (m : Int) := by
  rcases fstN_rg (fun m => hv dB L b m && H m) L.length 0 with h | ⟨m, h1, h2⟩
  · exact Or.inl h
  · exact Or.inr ⟨m, by omega, h2⟩
theorem voidA_e {x dA dB : Dt} {place : Nat} {day : Int} (hL : RL0 dA dB) (h : gaA x dA dB place day) {v : Nat → Int} {H : Nat → Bool} (hxv : ∀ j, j < 9 → x 35 j = v j) (hH : HH dA dB place day v H) : ∃ x', L_La_voidNow x = some (if fh dB (rlL dB place day) H 3 = -1 then 0 else 1, x') ∧ ∀ k, k ≠ 36 → x' k = x k := by
  obtain ⟨x1, a1, a2⟩ := fA_e hL h hxv hH (show prV 20 3 by unfold prV; omega) (by decide)
  unfold L_La_voidNow
  rw [a1, bd_e]
  by_cases q : fh dB (rlL dB place day) H 3 = -1
  · rw [if_pos q, if_pos q]; exact ⟨_, rfl, a2⟩
  · rw [if_neg q, if_neg q]; exact ⟨_, rfl, a2⟩
theorem voidB_e {x dA dB : Dt} {place : Nat} {day mi p : Int} (hL : RL0 dA dB) {x1 : Dt} (hask : L_Mo_ask p (place : Int) day mi x = some (0, x1)) (hx : Core dB x1) (h : stdB x1 dB place day) {v : Nat → Int} {H : Nat → Bool} (hxv : ∀ j, j < 9 → x1 50 j = v j) (hH : HH dA dB place day v H) : ∃ x', L_Mo_isVoid p (place : Int) day mi x = some (if fh dB (rlL dB place day) H 3 = -1 then 0 else 1, x') ∧ ∀ k, k ≠ 51 → x' k = x1 k := by
  obtain ⟨y1, a1, a2⟩ := fB_e hL hx h hxv hH 3 (by decide)
  unfold L_Mo_isVoid
  rw [hask, bd_e, a1, bd_e]
  by_cases q : fh dB (rlL dB place day) H 3 = -1
  · rw [if_pos q, if_pos q]; exact ⟨_, rfl, a2⟩
  · rw [if_neg q, if_neg q]; exact ⟨_, rfl, a2⟩
def namesV (dB : Dt) (L : List Nat) : Int := if lastN (hv dB L 4) L.length = -1 then 2 else dB 30 (L.getD (lastN (hv dB L 4) L.length).toNat 0)
theorem names_rg {dA dB : Dt} (hL : RL0 dA dB) (place : Nat) (day : Int) : 1 ≤ namesV dB (rlL dB place day) ∧ namesV dB (rlL dB place day) ≤ 4 := by
  unfold namesV
  rcases last_rg hL place day 4 with q | ⟨m, t, i, q1, q2, q3, q4, q5, q6, q7⟩
  · rw [q, if_pos rfl]; decide
  · rw [q2, if_neg (by omega), tn_i, q3]
    obtain ⟨_, _, hr⟩ := q5
    rcases hr with ⟨z, _⟩ | ⟨_, _, _, z1, z2⟩ | ⟨_, z, _⟩
    · omega
    · exact ⟨z1, z2⟩
    · omega
theorem namesA_e {d dB : Dt} (hL : RL0 d dB) (hk : RLk d dB) (place : Nat) (day : Int) (hp : place < 7) : ∃ x, L_La_namesAt (place : Int) day d = some (namesV dB (rlL dB place day), x) ∧ (∀ k, k ≠ 30 → k ≠ 32 → k ≠ 33 → k ≠ 34 → x k = d k) ∧ x 30 2 = d 30 2 ∧ RLk x dB := by
  obtain ⟨x, a1, a2, a3, a4, a5, a6⟩ := gather_e hL hk place day hp
  have ga : gaA x d dB place day := ⟨fun k h79 => a2 k (by omega) (by omega) (by omega) (by omega), a6⟩
  refine ⟨x, ?_, a2, a3, RLk.mk hp ga a4 a5⟩
  unfold L_La_namesAt namesV
  rw [a1, bd_e, lastA_e hL ga (show prV 21 4 by unfold prV; omega), bd_e]
  rcases last_rg hL place day 4 with q | ⟨m, t, i, q1, q2, q3, q4, q5, q6, q7⟩
  · rw [q, if_pos rfl, if_pos rfl]
  · rw [q2, if_neg (by omega), if_neg (by omega), (num_at hL ga m t i q1 q3 q7).1, bd_e, tn_i, q3]
    obtain ⟨_, _, hr⟩ := q5
    rcases hr with ⟨z, _⟩ | ⟨_, _, z, _⟩ | ⟨_, z, _⟩
    · omega
    · rw [z]
    · omega
theorem namesB_e {x dA dB : Dt} (hL : RL0 dA dB) (hx : Core dB x) (place : Nat) (day : Int) : ∃ x', L_Mo_namesAt (place : Int) day x = some (namesV dB (rlL dB place day), x') ∧ (∀ k, k ≠ 0 → k ≠ 47 → k ≠ 48 → k ≠ 49 → x' k = x k) ∧ ∀ j, j ≠ 68 → x' 0 j = x 0 j := by
  have hlen := rl_len hL place day
  obtain ⟨y, a1, a2, a3, a4⟩ := stand_e hL hx place day
  have hy : Core dB y := hx.k3 (fun k h0 h1 h2 h3 _ _ => a2 k h0 h1 h2 h3) a3
  refine ⟨y, ?_, a2, a3⟩
  unfold L_Mo_namesAt namesV
  rw [a1, bd_e, lastB_e hL hy a4 4, bd_e]
  rcases last_rg hL place day 4 with q | ⟨m, t, i, q1, q2, q3, q4, q5, q6, q7⟩
  · rw [q, if_pos rfl, if_pos rfl]
  · have y47 : y 47 m = ((20 * t + i : Nat) : Int) := by rw [a4.1.2 m q1, q3]
    rw [q2, if_neg (by omega), if_neg (by omega), ck_pos ⟨by omega, by omega⟩, tn_i, y47, ck_pos ⟨by omega, by omega⟩, tn_i, hy.1 30 (by decide) (by decide), q3]
theorem RLk.st {dA dB : Dt} (h : RLk dA dB) (v : Int) : RLk (up2 dA 0 0 v) dB := h.cgA (up2_K _ _ _ (by decide)) (up2_K _ _ _ (by decide)) (up2_K _ _ _ (by decide)) (up2_K _ _ _ (by decide))
theorem RL0.st {dA dB : Dt} (h : RL0 dA dB) (v : Int) : RL0 (up2 dA 0 0 v) dB := h.cgA (fun k hk => up2_K _ _ _ (by omega)) (by rw [up2_K _ _ _ (by decide)]) (by rw [up2_K _ _ _ (by decide)]) (up2_K _ _ _ (by decide))
theorem RP.st {dA dB : Dt} (h : RP dA dB) (v : Int) : RP (up2 dA 0 0 v) dB := by unfold RP at h ⊢; rw [up2_K _ _ _ (by decide)]; exact h
theorem RH.st {dA dB : Dt} (h : RH dA dB) (v : Int) : RH (up2 dA 0 0 v) dB := by unfold RH at h ⊢; rw [up2_K _ _ _ (by decide), up2_K _ _ _ (by decide), up2_K _ _ _ (by decide)]; exact h
theorem n10 : ¬ ((1 : Int) = 0) := by decide
theorem RLk.stB {dA dB : Dt} (h : RLk dA dB) (v : Int) : RLk dA (up2 dB 0 0 v) := h.cgB (fun k h1 _ => up2_K _ _ _ (by omega)) (up2_j _ _ _ (by decide))
theorem RLk.core {dA dB x : Dt} (h : RLk dA dB) (hx : Core dB x) : RLk dA x := h.cgB hx.lw (hx.2 41 (by decide))
theorem RS.mk {dA dB : Dt} {v : Int} (h : dA 0 0 = v) : RS dA (up2 dB 0 0 v) := by unfold RS; rw [up2_s, h]
theorem T_rules {p1 p2 : Int} {dA dB : Dt} (hL : RL0 dA dB) (hk : RLk dA dB) : ∃ (r : Int) (dA' dB' : Dt), L_PB_rules p1 p2 dA = some (r, dA') ∧ L_Mo_rules p1 p2 dB = some (r, dB') ∧ RS dA' dB' ∧ RLk dA' dB' := by
  unfold L_PB_rules L_Mo_rules L_PB_rules_b20 L_Mo_rules_b14
  rw [e_PB_isPlace, e_Mo_isPlace, bd_e, bd_e]
  have bad : ∃ (r : Int) (dA' dB' : Dt), (some ((-1), (up2 dA 0 0 1)) : Option (Int × Dt)) = some (r, dA') ∧ bd (L_Mo_refuse 1 dB) (fun r2_ d1_ => some (r2_, d1_)) = some (r, dB') ∧ RS dA' dB' ∧ RLk dA' dB' := by
    rw [e_ref, bd_e]; exact ⟨_, _, _, rfl, rfl, RS.of, (hk.st 1).stB 1⟩
  by_cases h1 : 0 ≤ p1 ∧ p1 ≤ 6
  · rw [if_pos h1, if_pos (show 0 ≤ p1 ∧ p1 < 7 by omega), if_neg (by decide), if_neg (by decide), e_PB_isDay, e_Mo_isDay, bd_e, bd_e]
    by_cases h2 : 0 ≤ p2 ∧ p2 ≤ 9999
    · rw [if_pos h2]
      simp only [if_neg n10, if_pos (rfl : (0 : Int) = 0)]
      obtain ⟨n, rfl⟩ : ∃ n : Nat, p1 = (n : Int) := ⟨p1.toNat, by omega⟩
      obtain ⟨x, a1, a2, a3, a4, a5, a6⟩ := gather_e (hL.st 0) (hk.st 0) n p2 (by omega)
      obtain ⟨y, b1, b2, b3, b4⟩ := stand_e hL (Core.rf dB) n p2
      have hy : Core dB y := (Core.rf dB).k3 (fun k h0 h1 h2 h3 _ _ => b2 k h0 h1 h2 h3) b3
      unfold L_La_countAt
      rw [a1, bd_e, bd_e, b1, bd_e, e_giv, bd_e, b4.1.1, a6.1]
      refine ⟨_, _, _, rfl, rfl, RS.mk ?_, ((RLk.mk (dA := up2 dA 0 0 0) (by omega) ⟨fun k h79 => a2 k (by omega) (by omega) (by omega) (by omega), a6⟩ a4 a5).core hy).stB 0⟩
      rw [a2 0 (by decide) (by decide) (by decide) (by decide), up2_s]
    · rw [if_neg h2, if_pos rfl, if_pos rfl, if_neg (by decide)]; exact bad
  · rw [if_neg h1, if_neg (show ¬ (0 ≤ p1 ∧ p1 < 7) by omega), if_pos rfl, if_pos rfl, if_neg (by decide)]; exact bad
theorem T_names {p1 p2 : Int} {dA dB : Dt} (hL : RL0 dA dB) (hk : RLk dA dB) : ∃ (r : Int) (dA' dB' : Dt), L_PB_names p1 p2 dA = some (r, dA') ∧ L_Mo_names p1 p2 dB = some (r, dB') ∧ RS dA' dB' ∧ RLk dA' dB' := by
  unfold L_PB_names L_Mo_names L_PB_names_b20 L_Mo_names_b27
  rw [e_PB_isPlace, e_Mo_isPlace, bd_e, bd_e]
  have bad : ∃ (r : Int) (dA' dB' : Dt), (some ((-1), (up2 dA 0 0 1)) : Option (Int × Dt)) = some (r, dA') ∧ bd (L_Mo_refuse 1 dB) (fun r2_ d1_ => some (r2_, d1_)) = some (r, dB') ∧ RS dA' dB' ∧ RLk dA' dB' := by
    rw [e_ref, bd_e]; exact ⟨_, _, _, rfl, rfl, RS.of, (hk.st 1).stB 1⟩
  by_cases h1 : 0 ≤ p1 ∧ p1 ≤ 6
  · rw [if_pos h1, if_pos (show 0 ≤ p1 ∧ p1 < 7 by omega), if_neg (by decide), if_neg (by decide), e_PB_isDay, e_Mo_isDay, bd_e, bd_e]
    by_cases h2 : 0 ≤ p2 ∧ p2 ≤ 9999
    · rw [if_pos h2]
      simp only [if_neg n10, if_pos (rfl : (0 : Int) = 0)]
      obtain ⟨n, rfl⟩ : ∃ n : Nat, p1 = (n : Int) := ⟨p1.toNat, by omega⟩
      obtain ⟨x, a1, a2, a3, a4⟩ := namesA_e (hL.st 0) (hk.st 0) n p2 (by omega)
      obtain ⟨y, b1, b2, b3⟩ := namesB_e hL (Core.rf dB) n p2
      have hy : Core dB y := (Core.rf dB).k3 (fun k h0 h1 h2 h3 _ _ => b2 k h0 h1 h2 h3) b3
      rw [a1, bd_e, b1, bd_e, e_giv, bd_e]
      refine ⟨_, _, _, rfl, rfl, RS.mk ?_, (a4.core hy).stB 0⟩
      rw [a2 0 (by decide) (by decide) (by decide) (by decide), up2_s]
    · rw [if_neg h2, if_pos rfl, if_pos rfl, if_neg (by decide)]; exact bad
  · rw [if_neg h1, if_neg (show ¬ (0 ≤ p1 ∧ p1 < 7) by omega), if_pos rfl, if_pos rfl, if_neg (by decide)]; exact bad
theorem T_struck {p1 p2 p3 : Int} {dA dB : Dt} (hL : RL0 dA dB) (hk : RLk dA dB) : ∃ (r : Int) (dA' dB' : Dt), L_PB_struck p1 p2 p3 dA = some (r, dA') ∧ L_Mo_struck p1 p2 p3 dB = some (r, dB') ∧ RS dA' dB' ∧ RLk dA' dB' := by
  unfold L_PB_struck L_Mo_struck L_PB_struck_b36 L_PB_struck_b49 L_Mo_struck_b14 L_Mo_struck_b38 L_Mo_struck_b61
  rw [e_PB_isPlace, e_Mo_isPlace, bd_e, bd_e]
  have bad : ∀ y : Dt, RLk dA y → ∃ (r : Int) (dA' dB' : Dt), (some ((-1), (up2 dA 0 0 1)) : Option (Int × Dt)) = some (r, dA') ∧ bd (L_Mo_refuse 1 y) (fun r2_ d1_ => some (r2_, d1_)) = some (r, dB') ∧ RS dA' dB' ∧ RLk dA' dB' := by
    intro y hky
    rw [e_ref, bd_e]; exact ⟨_, _, _, rfl, rfl, RS.of, (hky.st 1).stB 1⟩
  by_cases h1 : 0 ≤ p1 ∧ p1 ≤ 6
  · rw [if_pos h1, if_pos (show 0 ≤ p1 ∧ p1 < 7 by omega), if_neg (by decide), if_neg (by decide), e_PB_isDay, e_Mo_isDay, bd_e, bd_e]
    by_cases h2 : 0 ≤ p2 ∧ p2 ≤ 9999
    · rw [if_pos h2]
      simp only [if_neg n10, if_pos (rfl : (0 : Int) = 0)]
      obtain ⟨n, rfl⟩ : ∃ n : Nat, p1 = (n : Int) := ⟨p1.toNat, by omega⟩
      have hlen := rl_len hL n p2
      obtain ⟨y, b1, b2, b3, b4⟩ := stand_e hL (Core.rf dB) n p2
      have hy : Core dB y := (Core.rf dB).k3 (fun k h0 h1 h2 h3 _ _ => b2 k h0 h1 h2 h3) b3
      rw [b1, bd_e]
      by_cases h3 : p3 < 0
      · rw [if_pos h3, if_pos h3]; exact bad y (hk.core hy)
      · rw [if_neg h3, if_neg h3]
        obtain ⟨m, rfl⟩ : ∃ m : Nat, p3 = (m : Int) := ⟨p3.toNat, by omega⟩
        obtain ⟨x, a1, a2, a3, a4, a5, a6⟩ := gather_e hL hk n p2 (by omega)
        have hkx : RLk x dB := RLk.mk (dA := dA) (by omega) ⟨fun k h79 => a2 k (by omega) (by omega) (by omega) (by omega), a6⟩ a4 a5
        unfold L_La_countAt
        rw [a1, bd_e, bd_e, a6.1, b4.1.1]
        by_cases h4 : (m : Int) < ((rlL dB n p2).length : Int)
        · rw [if_pos h4, if_pos h4, ck_pos ⟨by omega, by omega⟩, tn_i, b4.2 m (by omega)]
          unfold L_La_isStruck L_PB_bit
          rw [ck_pos ⟨by omega, by omega⟩, tn_i, bd_e, up2_K _ _ _ (by decide), (a6.2 m (by omega)).2.2]
          by_cases q : stkB dB (rlL dB n p2) m = true
          · rw [q, if_neg (by decide), if_neg (by decide), bd_e, e_giv, bd_e]
            exact ⟨_, _, _, rfl, rfl, RS.of, ((hkx.st 0).core hy).stB 0⟩
          · rw [bool_f q, if_pos (by decide), if_pos (by decide), bd_e, e_giv, bd_e]
            exact ⟨_, _, _, rfl, rfl, RS.of, ((hkx.st 0).core hy).stB 0⟩
        · rw [if_neg h4, if_neg h4, e_ref, bd_e]
          exact ⟨_, _, _, rfl, rfl, RS.of, ((hkx.st 1).core hy).stB 1⟩
    · rw [if_neg h2, if_pos rfl, if_pos rfl, if_pos rfl, if_pos rfl]; exact bad dB hk
  · rw [if_neg h1, if_neg (show ¬ (0 ≤ p1 ∧ p1 < 7) by omega), if_pos rfl, if_pos rfl, if_pos rfl, if_pos rfl]; exact bad dB hk
/-- both ask of one comer -/
theorem both_ask {dA dB x : Dt} (hL : RL0 dA dB) (hk : RLk dA dB) (hR : RR dA dB) (hP : RP dA dB) (hH : RH dA dB) (hx : Core dB x) (p : Int) (place : Nat) (day mi : Int) (hp : 0 ≤ p ∧ p < dB 0 7) (hd : 0 ≤ day ∧ day ≤ 9999) (hpl : place < 7) : ∃ xA xB v H, L_La_bring p (place : Int) day mi dA = some (0, xA) ∧ gaA xA dA dB place day ∧ (∀ j, j < 9 → xA 35 j = v j) ∧ (∀ k, k ≠ 30 → k ≠ 32 → k ≠ 33 → k ≠ 34 → k ≠ 35 → xA k = dA k) ∧ xA 30 2 = dA 30 2 ∧ xA 30 7 = (place : Int) ∧ xA 30 8 = day ∧ v 7 = mi ∧ HH dA dB place day v H ∧ L_Mo_ask p (place : Int) day mi x = some (0, xB) ∧ Core dB xB ∧ stdB xB dB place day ∧ (∀ j, j < 9 → xB 50 j = v j) ∧ (∀ k, k ≠ 0 → k ≠ 47 → k ≠ 48 → k ≠ 49 → k ≠ 50 → xB k = x k) ∧ ∀ j, j ≠ 68 → xB 0 j = x 0 j := by
  obtain ⟨xA, a1, a2, a3, a4, a5, a6, a7⟩ := bring_e hL hk hR hP hH p place day mi hp hd hpl
  obtain ⟨xB, b1, b2, b3, b4, b5, b6⟩ := ask_e hL hR hP hx p place day mi hp hd
  obtain ⟨H, hHH⟩ := hold_ex hL place day (vals dB p place day mi)
  exact ⟨xA, xB, vals dB p place day mi, H, a1, a2, a3, a4, a5, a6, a7, rfl, hHH, b1, b2, b3, b4, b5, b6⟩
theorem T_right {p1 p2 p3 p4 : Int} {dA dB : Dt} (hL : RL0 dA dB) (hk : RLk dA dB) (hR : RR dA dB) (hP : RP dA dB) (hH : RH dA dB) : ∃ (r : Int) (dA' dB' : Dt), L_PB_right p1 p2 p3 p4 dA = some (r, dA') ∧ L_Mo_right p1 p2 p3 p4 dB = some (r, dB') ∧ RS dA' dB' ∧ RLk dA' dB' := by
  unfold L_PB_right L_Mo_right
  rw [comer_e, asked_e, bd_e, bd_e, hP.1]
  by_cases h : (0 ≤ p1 ∧ p1 < dB 0 7) ∧ (0 ≤ p2 ∧ p2 ≤ 6) ∧ (0 ≤ p3 ∧ p3 ≤ 9999) ∧ (0 ≤ p4 ∧ p4 ≤ 1439)
  · rw [if_pos h, if_pos h, if_pos rfl, if_neg (by decide)]
    obtain ⟨n, rfl⟩ : ∃ n : Nat, p2 = (n : Int) := ⟨p2.toNat, by omega⟩
    obtain ⟨xA, xB, v, H, a1, a2, a3, a4, a5, a6, a7, a8, hHH, b1, b2, b3, b4, b5, b6⟩ := both_ask (hL.st 0) (hk.st 0) (hR.cgA (dA' := up2 dA 0 0 0) (fun k h1 _ => up2_K _ _ _ (by omega))) (hP.st 0) (hH.st 0) (Core.rf dB) p1 n p3 p4 h.1 h.2.2.1 (by omega)
    obtain ⟨⟨y, c1, c2⟩, _⟩ := rightA_e (hL.st 0) a2 a3 hHH
    obtain ⟨z, e1, e2, e3, e4⟩ := rightB_e (hL.st 0) b1 b2 b3 b4 hHH
    rw [a8] at c1
    rw [a1, bd_e, c1, bd_e, e1, bd_e, e_giv, bd_e]
    refine ⟨_, _, _, rfl, rfl, RS.mk ?_, RLk.stB (dB := z) ?_ 0⟩
    · rw [c2 0 (by decide), a4 0 (by decide) (by decide) (by decide) (by decide) (by decide), up2_s]
    · have hz : RLk y dB := RLk.mk (dA := up2 dA 0 0 0) (by omega) (a2.cg c2) (by rw [c2 30 (by decide)]; exact a6) (by rw [c2 30 (by decide)]; exact a7)
      exact hz.cgB (fun k k1 k2 => by rw [e3 k (by omega) (by omega)]; exact b2.lw k k1 k2) (by rw [e4 41 (by decide)]; exact b2.2 41 (by decide))
  · rw [if_neg h, if_neg h, if_neg (by decide), if_pos rfl, e_ref, bd_e]
    exact ⟨_, _, _, rfl, rfl, RS.of, (hk.st 1).stB 1⟩
theorem T_why {p1 p2 p3 p4 : Int} {dA dB : Dt} (hL : RL0 dA dB) (hk : RLk dA dB) (hR : RR dA dB) (hP : RP dA dB) (hH : RH dA dB) : ∃ (r : Int) (dA' dB' : Dt), L_PB_why p1 p2 p3 p4 dA = some (r, dA') ∧ L_Mo_why p1 p2 p3 p4 dB = some (r, dB') ∧ RS dA' dB' ∧ RLk dA' dB' := by
  unfold L_PB_why L_Mo_why L_PB_why_b56
  rw [comer_e, asked_e, bd_e, bd_e, hP.1]
  by_cases h : (0 ≤ p1 ∧ p1 < dB 0 7) ∧ (0 ≤ p2 ∧ p2 ≤ 6) ∧ (0 ≤ p3 ∧ p3 ≤ 9999) ∧ (0 ≤ p4 ∧ p4 ≤ 1439)
  · rw [if_pos h, if_pos h, if_pos rfl, if_neg (by decide)]
    obtain ⟨n, rfl⟩ : ∃ n : Nat, p2 = (n : Int) := ⟨p2.toNat, by omega⟩
    obtain ⟨xA, xB, v, H, a1, a2, a3, a4, a5, a6, a7, a8, hHH, b1, b2, b3, b4, b5, b6⟩ := both_ask (hL.st 0) (hk.st 0) (hR.cgA (dA' := up2 dA 0 0 0) (fun k h1 _ => up2_K _ _ _ (by omega))) (hP.st 0) (hH.st 0) (Core.rf dB) p1 n p3 p4 h.1 h.2.2.1 (by omega)
    obtain ⟨_, ⟨y, c1, c2⟩⟩ := rightA_e (hL.st 0) a2 a3 hHH
    obtain ⟨z, e1, e2, e3, e4⟩ := rightB_e (hL.st 0) b1 b2 b3 b4 hHH
    have hz : RLk y dB := RLk.mk (dA := up2 dA 0 0 0) (by omega) (a2.cg c2) (by rw [c2 30 (by decide)]; exact a6) (by rw [c2 30 (by decide)]; exact a7)
    have hzz : RLk y z := hz.cgB (fun k k1 k2 => by rw [e3 k (by omega) (by omega)]; exact b2.lw k k1 k2) (by rw [e4 41 (by decide)]; exact b2.2 41 (by decide))
    rw [a8] at c1
    rw [a1, bd_e, c1, bd_e, e1, bd_e, e2]
    by_cases q : reasV dB (rlL dB n p3) H p4 = -1
    · rw [q, if_pos rfl, if_pos rfl, e_ref, bd_e]
      exact ⟨_, _, _, rfl, rfl, RS.of, (hzz.st 6).stB 6⟩
    · rw [if_neg q, if_neg q, e_giv, bd_e]
      exact ⟨_, _, _, rfl, rfl, RS.of, (hzz.st 0).stB 0⟩
  · rw [if_neg h, if_neg h, if_neg (by decide), if_pos rfl, e_ref, bd_e]
    exact ⟨_, _, _, rfl, rfl, RS.of, (hk.st 1).stB 1⟩
theorem T_voided {p1 p2 p3 p4 : Int} {dA dB : Dt} (hL : RL0 dA dB) (hk : RLk dA dB) (hR : RR dA dB) (hP : RP dA dB) (hH : RH dA dB) : ∃ (r : Int) (dA' dB' : Dt), L_PB_voided p1 p2 p3 p4 dA = some (r, dA') ∧ L_Mo_voided p1 p2 p3 p4 dB = some (r, dB') ∧ RS dA' dB' ∧ RLk dA' dB' := by
  unfold L_PB_voided L_Mo_voided L_Mo_voided_b30 L_PB_bit
  rw [comer_e, asked_e, bd_e, bd_e, hP.1]
  by_cases h : (0 ≤ p1 ∧ p1 < dB 0 7) ∧ (0 ≤ p2 ∧ p2 ≤ 6) ∧ (0 ≤ p3 ∧ p3 ≤ 9999) ∧ (0 ≤ p4 ∧ p4 ≤ 1439)
  · rw [if_pos h, if_pos h, if_pos rfl, if_neg (by decide)]
    obtain ⟨n, rfl⟩ : ∃ n : Nat, p2 = (n : Int) := ⟨p2.toNat, by omega⟩
    obtain ⟨xA, xB, v, H, a1, a2, a3, a4, a5, a6, a7, a8, hHH, b1, b2, b3, b4, b5, b6⟩ := both_ask (hL.st 0) (hk.st 0) (hR.cgA (dA' := up2 dA 0 0 0) (fun k h1 _ => up2_K _ _ _ (by omega))) (hP.st 0) (hH.st 0) (Core.rf dB) p1 n p3 p4 h.1 h.2.2.1 (by omega)
    obtain ⟨y, c1, c2⟩ := voidA_e (hL.st 0) a2 a3 hHH
    obtain ⟨z, e1, e3⟩ := voidB_e (hL.st 0) b1 b2 b3 b4 hHH
    have hz : RLk y dB := RLk.mk (dA := up2 dA 0 0 0) (by omega) (a2.cg c2) (by rw [c2 30 (by decide)]; exact a6) (by rw [c2 30 (by decide)]; exact a7)
    have hzz : RLk y z := hz.cgB (fun k k1 k2 => by rw [e3 k (by omega)]; exact b2.lw k k1 k2) (by rw [e3 0 (by decide)]; exact b2.2 41 (by decide))
    have y0 : y 0 0 = 0 := by rw [c2 0 (by decide), a4 0 (by decide) (by decide) (by decide) (by decide) (by decide), up2_s]
    rw [a1, bd_e, c1, bd_e, e1, bd_e]
    by_cases q : fh dB (rlL dB n p3) H 3 = -1
    · rw [if_pos q, if_pos rfl, if_pos rfl, bd_e, e_giv, bd_e]
      exact ⟨_, _, _, rfl, rfl, RS.mk y0, hzz.stB 0⟩
    · rw [if_neg q, if_neg (by decide), if_neg (by decide), bd_e, e_giv, bd_e]
      exact ⟨_, _, _, rfl, rfl, RS.mk y0, hzz.stB 0⟩
  · rw [if_neg h, if_neg h, if_neg (by decide), if_pos rfl, e_ref, bd_e]
    exact ⟨_, _, _, rfl, rfl, RS.of, (hk.st 1).stB 1⟩
