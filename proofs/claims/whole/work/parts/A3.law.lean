/-! POLL: what the law says of one comer, both sides -/
theorem Fr.cell {o : List (Nat × Nat)} {a : List Nat} {d d' : Dt} (h : Fr o a false d d') (k : Nat) (ho : (o.all (fun p => p.1 != k)) = true) (ha : a.contains k = false) : d' k = d k := by
  funext j
  refine h.2 k j ?_ ha (fun q => by cases q)
  cases hc : o.contains (k, j) with
  | false => rfl
  | true =>
    have := List.all_eq_true.mp ho (k, j) (List.contains_iff_mem.mp hc)
    simp at this
theorem Core.k4 {dB x x' : Dt} (h : Core dB x) (h1 : ∀ k, k ≠ 0 → k ≠ 47 → k ≠ 48 → k ≠ 49 → k ≠ 50 → k ≠ 51 → x' k = x k) (h2 : ∀ j, j ≠ 68 → j ≠ 71 → x' 0 j = x 0 j) : Core dB x' := by
  refine ⟨fun k hk hs => ?_, fun j hj => ?_⟩
  · rw [h1 k hk (fun e => by rw [e] at hs; exact absurd hs (by decide)) (fun e => by rw [e] at hs; exact absurd hs (by decide)) (fun e => by rw [e] at hs; exact absurd hs (by decide)) (fun e => by rw [e] at hs; exact absurd hs (by decide)) (fun e => by rw [e] at hs; exact absurd hs (by decide))]
    exact h.1 k hk hs
  · rw [h2 j (fun e => by rw [e] at hj; exact absurd hj (by decide)) (fun e => by rw [e] at hj; exact absurd hj (by decide))]; exact h.2 j hj
def JA (dA dB x : Dt) : Prop := RL0 x dB ∧ RLk x dB ∧ RR x dB ∧ RP x dB ∧ RH x dB ∧ ∀ k, 79 ≤ k → x k = dA k
theorem JA.cg {dA dB x x' : Dt} (h : JA dA dB x) (hk : ∀ k, ((7 ≤ k ∧ k ≤ 25) ∨ k = 31 ∨ 79 ≤ k) → x' k = x k) (h302 : x' 30 2 = x 30 2) (hK : RLk x' dB) : JA dA dB x' := by
  obtain ⟨h1, h2, h3, h4, h5, h6⟩ := h
  refine ⟨h1.cgA (fun k q => hk k (by omega)) (by rw [hk 25 (by omega)]) h302 (hk 31 (by omega)), hK, h3.cgA (fun k q1 q2 => hk k (by omega)), ?_, ?_, fun k q => by rw [hk k (by omega)]; exact h6 k q⟩
  · unfold RP at h4 ⊢; rw [hk 7 (by omega)]; exact h4
  · unfold RH at h5 ⊢; rw [hk 8 (by omega), hk 9 (by omega), hk 10 (by omega)]; exact h5
def lawV (dB : Dt) (L : List Nat) (H : Nat → Bool) (mi : Int) (s : Nat) : Int := if rightV dB L H mi = 0 then (if fh dB L H 3 = -1 then (if s = 0 then 7 else if namesV dB L < (bk 10 s : Int) then 7 else 0) else 6) else rightV dB L H mi + 2
theorem bk0 (s : Nat) (hs : s < 16) : ((bk 10 s : Nat) : Int) = 0 ↔ s = 0 := by
  have : ∀ i : Fin 16, ((bk 10 i.val : Nat) : Int) = 0 ↔ i.val = 0 := by decide +kernel
  exact this ⟨s, hs⟩
theorem right_b (dB : Dt) (L : List Nat) (H : Nat → Bool) (mi : Int) : 0 ≤ rightV dB L H mi ∧ rightV dB L H mi ≤ 3 := by
  unfold rightV; repeat' split
  all_goals omega
theorem lawA_e {dA dB x : Dt} (hL : RL0 dA dB) (hx : JA dA dB x) (place : Nat) (day : Int) (hpl : place < 7) (hd : 0 ≤ day ∧ day ≤ 9999) (p mi : Int) (s : Nat) (hp : 0 ≤ p ∧ p < dB 0 7) (hs : s < 16) {H : Nat → Bool} (hH : HH dA dB place day (vals dB p place day mi) H) : ∃ x', L_Po_judge p mi (s : Int) (place : Int) day x = some (lawV dB (rlL dB place day) H mi s, x') ∧ (∀ k, k ≠ 30 → k ≠ 32 → k ≠ 33 → k ≠ 34 → k ≠ 35 → k ≠ 36 → x' k = x k) ∧ x' 30 2 = x 30 2 ∧ RLk x' dB := by
  obtain ⟨h1, h2, h3, h4, h5, h6⟩ := id hx
  obtain ⟨y, a1, a2, a3, a4, a5, a6, a7⟩ := bring_e h1 h2 h3 h4 h5 p place day mi hp hd hpl
  have gy : gaA y dA dB place day := ⟨fun k q => by rw [a2.1 k q]; exact h6 k q, a2.2⟩
  obtain ⟨⟨z, b1, b2⟩, _⟩ := rightA_e hL gy a3 hH
  have gz := gy.cg b2
  obtain ⟨w, c1, c2⟩ := voidA_e hL gz (fun j hj => by rw [b2 35 (by decide)]; exact a3 j hj) hH
  have gw := gz.cg c2
  have fz : ∀ k, k ≠ 30 → k ≠ 32 → k ≠ 33 → k ≠ 34 → k ≠ 35 → k ≠ 36 → z k = x k := fun k q1 q2 q3 q4 q5 q6 => by rw [b2 k q6]; exact a4 k q1 q2 q3 q4 q5
  have fw : ∀ k, k ≠ 30 → k ≠ 32 → k ≠ 33 → k ≠ 34 → k ≠ 35 → k ≠ 36 → w k = x k := fun k q1 q2 q3 q4 q5 q6 => by rw [c2 k q6]; exact fz k q1 q2 q3 q4 q5 q6
  have z30 : z 30 = y 30 := b2 30 (by decide)
  have w30 : w 30 = y 30 := by rw [c2 30 (by decide)]; exact z30
  have kz : RLk z dB := RLk.mk (dA := dA) hpl gz (by rw [z30]; exact a6) (by rw [z30]; exact a7)
  have kw : RLk w dB := RLk.mk (dA := dA) hpl gw (by rw [w30]; exact a6) (by rw [w30]; exact a7)
  have jw : JA dA dB w := hx.cg (fun k q => fw k (by omega) (by omega) (by omega) (by omega) (by omega) (by omega)) (by rw [w30]; exact a5) kw
  obtain ⟨u, e1, e2, e3, e4⟩ := namesA_e jw.1 kw place day hpl
  have hrb := right_b dB (rlL dB place day) H mi
  unfold L_Po_judge lawV
  rw [show vals dB p place day mi 7 = mi from rfl] at b1
  rw [a1, bd_e, b1, bd_e]
  by_cases q1 : rightV dB (rlL dB place day) H mi = 0
  · rw [if_pos q1, if_pos q1, c1, bd_e]
    by_cases q2 : fh dB (rlL dB place day) H 3 = -1
    · rw [if_pos q2, if_pos q2, if_pos rfl, bitCount_e s (by omega), bd_e]
      by_cases q3 : s = 0
      · rw [if_pos ((bk0 s hs).2 q3), if_pos q3]; exact ⟨_, rfl, fw, by rw [w30]; exact a5, kw⟩
      · rw [if_neg (fun t => q3 ((bk0 s hs).1 t)), if_neg q3, e1, bd_e]
        have fu : ∀ k, k ≠ 30 → k ≠ 32 → k ≠ 33 → k ≠ 34 → k ≠ 35 → k ≠ 36 → u k = x k := fun k q1 q2 q3 q4 q5 q6 => by rw [e2 k q1 q2 q3 q4]; exact fw k q1 q2 q3 q4 q5 q6
        by_cases q4 : namesV dB (rlL dB place day) < (bk 10 s : Int)
        · rw [if_pos q4, if_pos q4]; exact ⟨_, rfl, fu, by rw [e3, w30]; exact a5, e4⟩
        · rw [if_neg q4, if_neg q4]; exact ⟨_, rfl, fu, by rw [e3, w30]; exact a5, e4⟩
    · rw [if_neg q2, if_neg q2, if_neg (by decide)]; exact ⟨_, rfl, fw, by rw [w30]; exact a5, kw⟩
  · rw [if_neg q1, if_neg q1, w32_s (by omega) (by omega)]; exact ⟨_, rfl, fz, by rw [z30]; exact a5, kz⟩
theorem lawB_e {dA dB y : Dt} (hL : RL0 dA dB) (hR : RR dA dB) (hP : RP dA dB) (hy : Core dB y) (place : Nat) (day : Int) (hd : 0 ≤ day ∧ day ≤ 9999) (p mi : Int) (s : Nat) (hp : 0 ≤ p ∧ p < dB 0 7) (hs : s < 16) {H : Nat → Bool} (hH : HH dA dB place day (vals dB p place day mi) H) : ∃ y', L_Mo_byLaw p (place : Int) day mi (s : Int) y = some (lawV dB (rlL dB place day) H mi s, y') ∧ Core dB y' ∧ ∀ k, k ≠ 0 → k ≠ 47 → k ≠ 48 → k ≠ 49 → k ≠ 50 → k ≠ 51 → y' k = y k := by
  obtain ⟨y1, a1, a2, a3, a4, a5, a6⟩ := ask_e hL hR hP hy p place day mi hp hd
  obtain ⟨y2, b1, b2, b3, b4⟩ := rightB_e hL a1 a2 a3 a4 hH
  have c2 : Core dB y2 := a2.k4 (fun k h0 _ _ _ _ h5 => b3 k h0 h5) (fun j _ h => b4 j h)
  have f2 : ∀ k, k ≠ 0 → k ≠ 47 → k ≠ 48 → k ≠ 49 → k ≠ 50 → k ≠ 51 → y2 k = y k := fun k h0 h1 h2 h3 h4 h5 => by rw [b3 k h0 h5]; exact a5 k h0 h1 h2 h3 h4
  obtain ⟨y3, e1, e2, e3, e4, e5, e6⟩ := ask_e hL hR hP c2 p place day mi hp hd
  obtain ⟨y4, g1, g2⟩ := voidB_e hL e1 e2 e3 e4 hH
  have c4 : Core dB y4 := e2.k51 g2
  have f4 : ∀ k, k ≠ 0 → k ≠ 47 → k ≠ 48 → k ≠ 49 → k ≠ 50 → k ≠ 51 → y4 k = y k := fun k h0 h1 h2 h3 h4 h5 => by rw [g2 k h5, e5 k h0 h1 h2 h3 h4]; exact f2 k h0 h1 h2 h3 h4 h5
  obtain ⟨y5, i1, i2, i3⟩ := namesB_e hL c4 place day
  have hrb := right_b dB (rlL dB place day) H mi
  unfold L_Mo_byLaw lawV
  rw [b1, bd_e]
  by_cases q1 : rightV dB (rlL dB place day) H mi = 0
  · rw [if_pos q1, if_neg (by omega), g1, bd_e]
    by_cases q2 : fh dB (rlL dB place day) H 3 = -1
    · rw [if_pos q2, if_pos q2, if_pos rfl]
      by_cases q3 : s = 0
      · rw [if_pos (show (s : Int) = 0 by omega), if_pos q3]; exact ⟨_, rfl, c4, f4⟩
      · rw [if_neg (show ¬ (s : Int) = 0 by omega), if_neg q3, bits_e s (by omega), bd_e, i1, bd_e]
        have c5 : Core dB y5 := c4.k3 (fun k h0 h1 h2 h3 _ _ => i2 k h0 h1 h2 h3) i3
        have f5 : ∀ k, k ≠ 0 → k ≠ 47 → k ≠ 48 → k ≠ 49 → k ≠ 50 → k ≠ 51 → y5 k = y k := fun k h0 h1 h2 h3 h4 h5 => by rw [i2 k h0 h1 h2 h3]; exact f4 k h0 h1 h2 h3 h4 h5
        by_cases q4 : namesV dB (rlL dB place day) < (bk 10 s : Int)
        · rw [if_pos q4, if_pos q4]; exact ⟨_, rfl, c5, f5⟩
        · rw [if_neg q4, if_neg q4]; exact ⟨_, rfl, c5, f5⟩
    · rw [if_neg q2, if_neg q2, if_neg (by decide)]; exact ⟨_, rfl, c4, f4⟩
  · rw [if_neg q1, if_pos (by omega), w32_s (by omega) (by omega), Int.add_comm]; exact ⟨_, rfl, c2, f2⟩
/-- one word of the law for every comer of a place and a day -/
def WW (dA dB : Dt) (place : Nat) (day : Int) (W : Int → Int → Nat → Int) : Prop := ∀ (p mi : Int) (s : Nat), (0 ≤ p ∧ p < dB 0 7) → s < 16 →
    (0 ≤ W p mi s ∧ W p mi s ≤ 7) ∧
    (∀ x, JA dA dB x → ∃ x', L_Po_judge p mi (s : Int) (place : Int) day x = some (W p mi s, x') ∧ (∀ k, k ≠ 30 → k ≠ 32 → k ≠ 33 → k ≠ 34 → k ≠ 35 → k ≠ 36 → x' k = x k) ∧ x' 30 2 = x 30 2 ∧ RLk x' dB) ∧
    (∀ y, Core dB y → ∃ y', L_Mo_byLaw p (place : Int) day mi (s : Int) y = some (W p mi s, y') ∧ Core dB y' ∧ ∀ k, k ≠ 0 → k ≠ 47 → k ≠ 48 → k ≠ 49 → k ≠ 50 → k ≠ 51 → y' k = y k)
theorem law_b (dB : Dt) (L : List Nat) (H : Nat → Bool) (mi : Int) (s : Nat) : 0 ≤ lawV dB L H mi s ∧ lawV dB L H mi s ≤ 7 := by
  have := right_b dB L H mi
  unfold lawV; repeat' split
  all_goals omega
theorem law_ex {dA dB : Dt} (hL : RL0 dA dB) (hR : RR dA dB) (hP : RP dA dB) (place : Nat) (day : Int) (hpl : place < 7) (hd : 0 ≤ day ∧ day ≤ 9999) : ∃ W, WW dA dB place day W := by
  obtain ⟨F, hF⟩ := Classical.axiomOfChoice (r := fun (t : Int × Int) (H : Nat → Bool) => HH dA dB place day (vals dB t.1 place day t.2) H) (fun t => hold_ex hL place day (vals dB t.1 place day t.2))
  refine ⟨fun p mi s => lawV dB (rlL dB place day) (F (p, mi)) mi s, fun p mi s hp hs => ⟨law_b _ _ _ _ _, fun x hx => ?_, fun y hy => ?_⟩⟩
  · exact lawA_e hL hx place day hpl hd p mi s hp hs (hF (p, mi))
  · exact lawB_e hL hR hP hy place day hd p mi s hp hs (hF (p, mi))
