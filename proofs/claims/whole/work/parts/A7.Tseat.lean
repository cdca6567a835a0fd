/-! SEATED -/
theorem rk_x (v : Nat → Int) : rk v 0 4 = (if v 0 < v 1 then 1 else 0) + (if v 0 < v 2 then 1 else 0) + (if v 0 < v 3 then 1 else 0) ∧ rk v 1 4 = (if v 0 < v 1 then 0 else 1) + (if v 1 < v 2 then 1 else 0) + (if v 1 < v 3 then 1 else 0) ∧ rk v 2 4 = (if v 0 < v 2 then 0 else 1) + (if v 1 < v 2 then 0 else 1) + (if v 2 < v 3 then 1 else 0) ∧ rk v 3 4 = (if v 0 < v 3 then 0 else 1) + (if v 1 < v 3 then 0 else 1) + (if v 2 < v 3 then 0 else 1) := by
  refine ⟨?_, ?_, ?_, ?_⟩
  all_goals
    simp only [rk]
    repeat' split
    all_goals omega
theorem t01 (P : Prop) [Decidable P] : ((if P then (1 : Int) else 0) = 1 ∧ (if P then (0 : Int) else 1) = 0 ∧ P) ∨ ((if P then (1 : Int) else 0) = 0 ∧ (if P then (0 : Int) else 1) = 1 ∧ ¬ P) := by
  by_cases q : P
  · left; rw [if_pos q, if_pos q]; exact ⟨rfl, rfl, q⟩
  · right; rw [if_neg q, if_neg q]; exact ⟨rfl, rfl, q⟩
theorem rk_one (v : Nat → Int) (p : Int) (hp : 0 ≤ p ∧ p ≤ 3) : ∃ x, x < 4 ∧ rk v x 4 = p ∧ ∀ y, y < 4 → y ≠ x → rk v y 4 ≠ p := by
  obtain ⟨e0, e1, e2, e3⟩ := rk_x v
  have h1 := t01 (v 0 < v 1)
  have h2 := t01 (v 0 < v 2)
  have h3 := t01 (v 0 < v 3)
  have h4 := t01 (v 1 < v 2)
  have h5 := t01 (v 1 < v 3)
  have h6 := t01 (v 2 < v 3)
  obtain ⟨a0, f0⟩ : ∃ a, a = rk v 0 4 := ⟨_, rfl⟩
  obtain ⟨a1, f1⟩ : ∃ a, a = rk v 1 4 := ⟨_, rfl⟩
  obtain ⟨a2, f2⟩ : ∃ a, a = rk v 2 4 := ⟨_, rfl⟩
  obtain ⟨a3, f3⟩ : ∃ a, a = rk v 3 4 := ⟨_, rfl⟩
  rw [← f0] at e0
  rw [← f1] at e1
  rw [← f2] at e2
  rw [← f3] at e3
  have dis : a0 ≠ a1 ∧ a0 ≠ a2 ∧ a0 ≠ a3 ∧ a1 ≠ a2 ∧ a1 ≠ a3 ∧ a2 ≠ a3 := by
    rcases h1 with ⟨g1, g1', g1''⟩ | ⟨g1, g1', g1''⟩ <;> rcases h2 with ⟨g2, g2', g2''⟩ | ⟨g2, g2', g2''⟩ <;> rcases h3 with ⟨g3, g3', g3''⟩ | ⟨g3, g3', g3''⟩ <;> rcases h4 with ⟨g4, g4', g4''⟩ | ⟨g4, g4', g4''⟩ <;> rcases h5 with ⟨g5, g5', g5''⟩ | ⟨g5, g5', g5''⟩ <;> rcases h6 with ⟨g6, g6', g6''⟩ | ⟨g6, g6', g6''⟩ <;>
    (simp only [g1, g1', g2, g2', g3, g3', g4, g4', g5, g5', g6, g6'] at e0 e1 e2 e3
     omega)
  have r0 := rk_b v 0 4
  have r1 := rk_b v 1 4
  have r2 := rk_b v 2 4
  have r3 := rk_b v 3 4
  rw [← f0] at r0
  rw [← f1] at r1
  rw [← f2] at r2
  rw [← f3] at r3
  have top : a0 ≤ 3 ∧ a1 ≤ 3 ∧ a2 ≤ 3 ∧ a3 ≤ 3 := by omega
  have one : a0 = p ∨ a1 = p ∨ a2 = p ∨ a3 = p := by omega
  rcases one with q | q | q | q
  · refine ⟨0, by decide, by rw [← f0]; exact q, fun y hy hne => ?_⟩
    have : y = 1 ∨ y = 2 ∨ y = 3 := by omega
    rcases this with rfl | rfl | rfl
    · rw [← f1]; omega
    · rw [← f2]; omega
    · rw [← f3]; omega
  · refine ⟨1, by decide, by rw [← f1]; exact q, fun y hy hne => ?_⟩
    have : y = 0 ∨ y = 2 ∨ y = 3 := by omega
    rcases this with rfl | rfl | rfl
    · rw [← f0]; omega
    · rw [← f2]; omega
    · rw [← f3]; omega
  · refine ⟨2, by decide, by rw [← f2]; exact q, fun y hy hne => ?_⟩
    have : y = 0 ∨ y = 1 ∨ y = 3 := by omega
    rcases this with rfl | rfl | rfl
    · rw [← f0]; omega
    · rw [← f1]; omega
    · rw [← f3]; omega
  · refine ⟨3, by decide, by rw [← f3]; exact q, fun y hy hne => ?_⟩
    have : y = 0 ∨ y = 1 ∨ y = 2 := by omega
    rcases this with rfl | rfl | rfl
    · rw [← f0]; omega
    · rw [← f1]; omega
    · rw [← f2]; omega
theorem candA_e (arr : Nat) (d : Dt) (p : Int) (x : Nat) (hx : x < 4) (h1 : rk (d arr) x 4 = p) (h2 : ∀ y, y < 4 → y ≠ x → rk (d arr) y 4 ≠ p) : L_PB_candidateAt arr 4 p d = some ((x : Int), d) := by
  obtain ⟨d', rfl, a2⟩ := lp_find (f := fun q : Int × Int × Dt => L_PB_candidateAt_y2 arr 4 q.1 q.2.1 q.2.2) (fun i y => (p, (i : Int), y)) (fun i y => Sum.inr ((i : Int), y)) (fun y => Sum.inl y) (fun y => y = d) (fun i => rk (d arr) i 4 = p) 4
    (by
      rintro i y hi rfl
      dsimp only
      unfold L_PB_candidateAt_y2
      rw [if_pos (by omega), rankOf_e arr i hi, bd_e, w32_i (show i < 2147483647 by omega)]
      by_cases q : rk (y arr) i 4 = p
      · left; rw [if_pos q]; exact ⟨q, _, rfl, rfl⟩
      · right; rw [if_neg q]; exact ⟨q, _, rfl, rfl⟩)
    (by
      rintro y rfl
      dsimp only
      unfold L_PB_candidateAt_y2
      rw [if_neg (by decide)]
      exact ⟨_, rfl, rfl⟩) (by omega) d rfl
  unfold L_PB_candidateAt L_PB_candidateAt_l2
  rcases a2 with ⟨i, b1, b2, b3, b4⟩ | ⟨b1, b2⟩
  · have : i = x := by
      rcases (Classical.em (i = x)).symm with q | q
      · exact absurd b2 (h2 i b1 q)
      · exact q
    subst this
    rw [show lpF (fun q : Int × Int × Dt => L_PB_candidateAt_y2 arr 4 q.1 q.2.1 q.2.2) FU (p, 0, d') = _ from b4, lb_e, smr_, u1_q]
  · exact absurd h1 (b1 x hx)
def lc (v : Nat → Int) (p : Int) : Nat → Int
  | 0 => 0
  | i + 1 => if rk v i 4 = p then (i : Int) else lc v p i
theorem lc_e (v : Nat → Int) (p : Int) (x : Nat) (hx : x < 4) (h1 : rk v x 4 = p) (h2 : ∀ y, y < 4 → y ≠ x → rk v y 4 ≠ p) : ∀ n, x < n → n ≤ 4 → lc v p n = (x : Int)
  | 0, h, _ => by omega
  | n + 1, h, h4 => by
    unfold lc
    by_cases q : n = x
    · rw [q, if_pos h1]
    · rw [if_neg (h2 n (by omega) q)]; exact lc_e v p x hx h1 h2 n (by omega) (by omega)
theorem seatB_e (d : Dt) (p : Int) (x : Nat) (hx : x < 4) (h1 : rk (d 64) x 4 = p) (h2 : ∀ y, y < 4 → y ≠ x → rk (d 64) y 4 ≠ p) : L_Mo_seated_l43 p 0 0 d = some ((x : Int), d) := by
  obtain ⟨u, e1, rfl⟩ := lp_inv (f := fun q : Int × Int × Int × Dt => L_Mo_seated_y43 q.1 q.2.1 q.2.2.1 q.2.2.2) (fun i y => (p, lc (d 64) p i, (i : Int), y)) (fun y => (lc (d 64) p 4, y)) (fun _ y => y = d) 4
    (by
      rintro i y hi rfl
      refine ⟨y, ?_, rfl⟩
      dsimp only
      unfold L_Mo_seated_y43 L_Mo_seated_b63
      rw [if_pos (by omega), ahead_e i hi, bd_e, w32_i (show i < 2147483647 by omega), show lc (y 64) p (i + 1) = if rk (y 64) i 4 = p then (i : Int) else lc (y 64) p i from rfl]
      by_cases q : rk (y 64) i 4 = p
      · rw [if_pos q, if_pos q]
      · rw [if_neg q, if_neg q])
    (by
      rintro y rfl
      dsimp only
      unfold L_Mo_seated_y43
      rw [if_neg (by decide)]) (by omega) d rfl
  rw [lc_e (u 64) p x hx h1 h2 4 hx (by omega)] at e1
  unfold L_Mo_seated_l43
  exact e1
theorem T_seated {p1 p2 p3 p4 : Int} {dA dB : Dt} (hg : dB GH 0 ≤ 6) (hL : RL0 dA dB) (hk : RLk dA dB) (hR : RR dA dB) (hP : RP dA dB) (hH : RH dA dB) (hB : RB dA dB) (hQ : RQ dA dB) (hN : RN dA dB) (hC : RC dA dB) (hM : RM dA dB) (hV : RV dA dB) : ∃ (r : Int) (dA' dB' : Dt), L_PB_seated p1 p2 p3 p4 dA = some (r, dA') ∧ L_Mo_seated p1 p2 p3 p4 dB = some (r, dB') ∧ RS dA' dB' ∧ RLk dA' dB' ∧ RM dA' dB' := by
  have hE := EA.of hL hk hR hP hH hB hQ hN hC hM hV
  unfold L_PB_seated L_Mo_seated L_PB_seated_b30 L_PB_seated_b75 L_Mo_seated_b23
  simp only [within_e, e_PB_isPlace, e_Mo_isPlace, e_PB_isDay, e_Mo_isDay, bd_e, e_ref]
  have bad : ∃ (r : Int) (dA' dB' : Dt), (some ((-1), (up2 dA 0 0 1)) : Option (Int × Dt)) = some (r, dA') ∧ (some ((-1), (up2 dB 0 0 1)) : Option (Int × Dt)) = some (r, dB') ∧ RS dA' dB' ∧ RLk dA' dB' ∧ RM dA' dB' := ⟨_, _, _, rfl, rfl, RS.of, (hE.st 1).out (Core.rf dB) 1⟩
  by_cases h1 : 0 ≤ p1 ∧ p1 ≤ 1
  · have c1 : ¬ p1 < 0 := by omega
    have c2 : ¬ 1 < p1 := by omega
    by_cases h2 : 0 ≤ p2 ∧ p2 ≤ 6
    · by_cases h3 : 0 ≤ p3 ∧ p3 ≤ 9999
      · obtain ⟨n, rfl⟩ : ∃ n : Nat, p2 = (n : Int) := ⟨p2.toNat, by omega⟩
        simp only [if_pos h1, if_neg c1, if_neg c2, if_pos h2, if_pos (show (0 : Int) ≤ (n : Int) ∧ (n : Int) < 7 by omega), if_pos h3, if_neg n10, if_pos (rfl : (0 : Int) = 0)]
        obtain ⟨W, hW⟩ := law_ex hL hR hP n p3 (by omega) h3
        obtain ⟨v, x, z, a1, a2, a3, a4, a5, a6⟩ := pollA (p4 := p4) hW (hE.st 0)
        obtain ⟨y, b1, b2, b3⟩ := countB_e (p3 := p4) hg hW hP hH hB hQ hV (Core.rf dB)
        obtain ⟨w, w1, w2, w3⟩ := rk_one (y 64) p1 (by omega)
        have ekk : ∀ i, i < 4 → rk (z.2 57) i 4 = rk (y 64) i 4 := fun i hi => rk_cg (z.2 57) (y 64) i 4 (fun j hj => by rw [a6 j hj, b3 j hj]) (by rw [a6 i hi, b3 i hi])
        have ca := candA_e 57 z.2 p1 w w1 (by rw [ekk w w1]; exact w2) (fun q hq hne => by rw [ekk q hq]; exact w3 q hq hne)
        rw [a1, bd_e, a2, b1, bd_e, seatB_e y p1 w w1 w2 w3, lb_e, u1_q, e_giv, bd_e]
        have hA : (if p4 = 0 then bd (L_Po_countOffers v 0 (n : Int) p3 x) (fun r2_ d1_ => bd (L_PB_candidateAt 57 4 p1 d1_) (fun r6_ d5_ => some (r6_, d5_))) else bd (L_Po_countOffers v (dB 0 87) (n : Int) p3 x) (fun r2_ d1_ => bd (L_PB_candidateAt 57 4 p1 d1_) (fun r6_ d5_ => some (r6_, d5_)))) = some ((w : Int), z.2) := by
          by_cases q : p4 = 0
          · rw [if_pos q] at a3
            rw [if_pos q, a3, bd_e, ca, bd_e]
          · rw [if_neg q] at a3
            rw [if_neg q, a3, bd_e, ca, bd_e]
        refine ⟨_, _, _, hA, rfl, RS.mk ?_, a4.out b2 0⟩
        rw [a5, up2_s]
      · simp only [if_pos h1, if_neg c1, if_neg c2, if_pos h2, if_pos (show 0 ≤ p2 ∧ p2 < 7 by omega), if_neg h3, if_neg n10, if_pos (rfl : (0 : Int) = 0)]; exact bad
    · simp only [if_pos h1, if_neg c1, if_neg c2, if_neg h2, if_neg (show ¬ (0 ≤ p2 ∧ p2 < 7) by omega), if_neg n10, if_pos (rfl : (0 : Int) = 0)]; exact bad
  · rw [if_neg h1]
    by_cases c1 : p1 < 0
    · simp only [if_pos c1, if_neg n10, if_pos (rfl : (0 : Int) = 0)]; exact bad
    · simp only [if_neg c1, if_pos (show 1 < p1 by omega), if_neg n10, if_pos (rfl : (0 : Int) = 0)]; exact bad
