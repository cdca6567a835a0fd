/-! COACHES: full ones first; what is left -/
def ful (w : Nat → Int) (room : Int) (p : Nat) : Int := if room < w p then w p / room else 0
def rst (w : Nat → Int) (room : Int) (p : Nat) : Int := w p - ful w room p * room
def FFs (w : Nat → Int) (room : Int) (p : Nat) : Bool := decide (0 < rst w room p)
def alS (mi : Nat → Int) (w : Nat → Int) (room : Int) (home : Nat) : Nat → Int
  | 0 => 0
  | p + 1 => alS mi w room home p + ful w room p * 2 * mi (home * 7 + p)
def mnS (w : Nat → Int) (room : Int) : Nat → Int
  | 0 => 0
  | p + 1 => mnS w room p + ful w room p
theorem ful_b (w : Nat → Int) (room : Int) (p : Nat) (hw : 0 ≤ w p ∧ w p ≤ 100) (hr : 1 ≤ room ∧ room ≤ 20) : (0 ≤ ful w room p ∧ ful w room p ≤ 100) ∧ (0 ≤ ful w room p * room ∧ ful w room p * room ≤ 100) ∧ 0 ≤ rst w room p ∧ rst w room p ≤ room := by
  unfold rst ful
  by_cases q : room < w p
  · rw [if_pos q]
    have h1 := Int.mul_ediv_add_emod (w p) room
    have h2 := Int.emod_nonneg (w p) (show room ≠ 0 by omega)
    have h3 := Int.emod_lt_of_pos (w p) (show 0 < room by omega)
    have h4 : 0 ≤ w p / room := Int.ediv_nonneg hw.1 (by omega)
    have h5 : w p / room ≤ w p := Int.ediv_le_self room hw.1
    rw [Int.mul_comm] at h1
    have h6 : 0 ≤ w p / room * room := Int.mul_nonneg h4 (by omega)
    omega
  · rw [if_neg q]; omega
theorem prodb (a b A B : Int) (ha : 0 ≤ a ∧ a ≤ A) (hb : 0 ≤ b ∧ b ≤ B) : 0 ≤ a * b ∧ a * b ≤ A * B := ⟨Int.mul_nonneg ha.1 hb.1, Int.mul_le_mul ha.2 hb.2 hb.1 (by omega)⟩
theorem alS_b (mi w : Nat → Int) (room : Int) (home : Nat) (hh : home < 7) (hmi : ∀ q, q < 49 → 0 ≤ mi q ∧ mi q ≤ 1000) (hw : ∀ p, p < 7 → 0 ≤ w p ∧ w p ≤ 100) (hr : 1 ≤ room ∧ room ≤ 20) : ∀ p : Nat, p ≤ 7 → (0 ≤ alS mi w room home p ∧ alS mi w room home p ≤ 200000 * p) ∧ 0 ≤ mnS w room p ∧ mnS w room p ≤ 100 * p
  | 0, _ => by simp only [alS, mnS]; omega
  | p + 1, h => by
    have ih := alS_b mi w room home hh hmi hw hr p (by omega)
    have h1 := (ful_b w room p (hw p (by omega)) hr).1
    have h2 := prodb (ful w room p * 2) (mi (home * 7 + p)) 200 1000 (by omega) (hmi _ (by omega))
    simp only [alS, mnS]; omega
theorem cF_skip (F : Nat → Bool) (h : Nat) (hf : F h = false) : ∀ n : Nat, h < n → cF F n + 1 ≤ n
  | 0, hn => by omega
  | n + 1, hn => by
    simp only [cF]
    by_cases e : h = n
    · subst e
      have := cF_le F h
      rw [if_neg (by rw [hf]; decide)]; omega
    · have := cF_skip F h hf n (by omega)
      split <;> omega
theorem ix7 (i j : Nat) (hi : i < 7) (hj : j < 7) : w32 (w32 ((i : Int) * 7) + (j : Int)) = ((i * 7 + j : Nat) : Int) := by
  rw [w32_s (x := (i : Int) * 7) (by omega) (by omega), w32_s (by omega) (by omega)]; omega
theorem ix7B (i j : Nat) (hi : i < 128) (hj : j < 7) : w32 (w32 (7 * (i : Int)) + (j : Int)) = ((i * 7 + j : Nat) : Int) := by
  rw [w32_s (x := 7 * (i : Int)) (by omega) (by omega), w32_s (by omega) (by omega)]; omega
theorem sendA_e {d : Dt} (w : Nat → Int) (room : Int) (home : Nat) (hh : home < 7) (h73 : ∀ p, p < 7 → d 73 p = w p) (hw : ∀ p, p < 7 → 0 ≤ w p ∧ w p ≤ 100) (hw0 : w home = 0) (hr : 1 ≤ room ∧ room ≤ 20) (hmi : ∀ q, q < 49 → 0 ≤ d 72 q ∧ d 72 q ≤ 1000) : ∃ d', L_Ro_send_l13 (home : Int) room 0 0 0 (up2 d 71 7 0) = some ((home : Int), room, alS (d 72) w room home 7, mnS w room 7, d') ∧ (∀ k, k ≠ 71 → k ≠ 73 → k ≠ 74 → d' k = d k) ∧ (∀ j, j ≠ 7 → d' 71 j = d 71 j) ∧ d' 71 7 = (cF (FFs w room) 7 : Int) ∧ (∀ i, i < cF (FFs w room) 7 → d' 74 i = (aF (FFs w room) 7 i : Int)) ∧ ∀ p, p < 7 → d' 73 p = rst w room p := by
  have hFh : FFs w room home = false := by
    unfold FFs rst ful
    rw [hw0, if_neg (by omega)]; exact decide_eq_false (by omega)
  obtain ⟨d', e1, e2, e3, e4, e5, e6, e7⟩ := lp_inv (f := fun q : Int × Int × Int × Int × Int × Dt => L_Ro_send_y13 q.1 q.2.1 q.2.2.1 q.2.2.2.1 q.2.2.2.2.1 q.2.2.2.2.2) (fun p x => ((home : Int), room, alS (d 72) w room home p, mnS w room p, (p : Int), x)) (fun x => ((home : Int), room, alS (d 72) w room home 7, mnS w room 7, x))
    (fun p x => (∀ k, k ≠ 71 → k ≠ 73 → k ≠ 74 → x k = d k) ∧ (∀ j, j ≠ 7 → x 71 j = d 71 j) ∧ x 71 7 = (cF (FFs w room) p : Int) ∧ (∀ i, i < cF (FFs w room) p → x 74 i = (aF (FFs w room) p i : Int)) ∧ (∀ q, q < p → x 73 q = rst w room q) ∧ ∀ q, p ≤ q → q < 7 → x 73 q = w q) 7
    (by
      rintro p x hp ⟨f1, f2, f3, f4, f5, f6⟩
      obtain ⟨u1, u2, u3⟩ := ful_b w room p (hw p hp) hr
      have ub := alS_b (d 72) w room home hh hmi hw hr p (by omega)
      have um := hmi (home * 7 + p) (by omega)
      have up := prodb (ful w room p * 2) (d 72 (home * 7 + p)) 200 1000 (by omega) um
      have hwp := hw p hp
      have x73 : x 73 p = w p := f6 p (by omega) hp
      have x72 : x 72 = d 72 := f1 72 (by decide) (by decide) (by decide)
      have hrs : w p - ful w room p * room = rst w room p := rfl
      have hK : FFs w room p = true → cF (FFs w room) p < 6 := by
        intro q
        by_cases q6 : p < 6
        · have := cF_le (FFs w room) p; omega
        · have : home ≠ p := by intro e; subst e; rw [hFh] at q; cases q
          have := cF_skip (FFs w room) home hFh p (by omega); omega
      have b48 : ∃ x', L_Ro_send_b48 (home : Int) room (alS (d 72) w room home p) (mnS w room p) (p : Int) (ful w room p) x = some (Sum.inl ((home : Int), room, alS (d 72) w room home (p + 1), mnS w room (p + 1), ((p + 1 : Nat) : Int), x')) ∧ (∀ k, k ≠ 71 → k ≠ 73 → k ≠ 74 → x' k = d k) ∧ (∀ j, j ≠ 7 → x' 71 j = d 71 j) ∧ x' 71 7 = (cF (FFs w room) (p + 1) : Int) ∧ (∀ i, i < cF (FFs w room) (p + 1) → x' 74 i = (aF (FFs w room) (p + 1) i : Int)) ∧ (∀ q, q < p + 1 → x' 73 q = rst w room q) ∧ ∀ q, p + 1 ≤ q → q < 7 → x' 73 q = w q := by
        unfold L_Ro_send_b48 L_Ro_send_b131
        rw [ix7 home p hh hp, ck_pos ⟨by omega, by omega⟩, tn_i, tn_i, x72, x73, w32_s (x := ful w room p * 2) (by omega) (by omega), w32_s (x := ful w room p * 2 * d 72 (home * 7 + p)) (by omega) (by omega), w32_s (x := alS (d 72) w room home p + ful w room p * 2 * d 72 (home * 7 + p)) (by omega) (by omega), lt_e, w32_s (x := mnS w room p + ful w room p) (by omega) (by omega), lt_e, w32_s (x := ful w room p * room) (by omega) (by omega), w32_s (x := w p - ful w room p * room) (by omega) (by omega), hrs, up2_s, ck_pos ⟨by omega, by omega⟩, ck_pos ⟨by omega, by omega⟩, ck_pos ⟨by omega, by omega⟩, f3, w32_i (show p < 2147483647 by omega)]
        by_cases q : 0 < rst w room p
        · have hF : FFs w room p = true := decide_eq_true q
          have hk := hK hF
          rw [if_pos q, if_pos (by omega), ck_pos ⟨by omega, by omega⟩, tn_i, w32_i (show cF (FFs w room) p < 2147483647 by omega)]
          refine ⟨_, rfl, ?_, ?_, ?_, ?_, ?_, ?_⟩
          · intro k h1 h2 h3; rw [up2_K _ _ _ h1, up2_K _ _ _ h3, up2_K _ _ _ h2]; exact f1 k h1 h2 h3
          · intro j hj; rw [up2_j _ _ _ hj, up2_K _ _ _ (by decide), up2_K _ _ _ (by decide)]; exact f2 j hj
          · rw [up2_s]; simp only [cF]; rw [if_pos hF]
          · intro i hi
            simp only [cF] at hi; rw [if_pos hF] at hi
            simp only [aF]
            rw [up2_K _ _ _ (by decide)]
            by_cases e : i = cF (FFs w room) p
            · rw [if_pos ⟨hF, e⟩, e, up2_s]
            · rw [if_neg (fun z => e z.2), up2_j _ _ _ e, up2_K _ _ _ (by decide)]; exact f4 i (by omega)
          · intro r hr2
            rw [up2_K _ _ _ (by decide), up2_K _ _ _ (by decide)]
            by_cases e : r = p
            · rw [e, up2_s]
            · rw [up2_j _ _ _ e]; exact f5 r (by omega)
          · intro r hr1 hr2
            rw [up2_K _ _ _ (by decide), up2_K _ _ _ (by decide), up2_j _ _ _ (by omega)]; exact f6 r (by omega) hr2
        · have hF : ¬ FFs w room p = true := by unfold FFs; rw [decide_eq_true_eq]; exact q
          rw [if_neg q]
          refine ⟨_, rfl, ?_, ?_, ?_, ?_, ?_, ?_⟩
          · intro k h1 h2 h3; rw [up2_K _ _ _ h2]; exact f1 k h1 h2 h3
          · intro j hj; rw [up2_K _ _ _ (by decide)]; exact f2 j hj
          · rw [up2_K _ _ _ (by decide)]; simp only [cF]; rw [if_neg hF]; exact f3
          · intro i hi
            simp only [cF] at hi; rw [if_neg hF] at hi
            simp only [aF]
            rw [up2_K _ _ _ (by decide), if_neg (fun z => hF z.1)]; exact f4 i hi
          · intro r hr2
            by_cases e : r = p
            · rw [e, up2_s]
            · rw [up2_j _ _ _ e]; exact f5 r (by omega)
          · intro r hr1 hr2
            rw [up2_j _ _ _ (by omega)]; exact f6 r (by omega) hr2
      dsimp only
      unfold L_Ro_send_y13
      rw [if_pos (by omega), ck_pos ⟨by omega, by omega⟩, tn_i, x73]
      by_cases q : room < w p
      · have e : ful w room p = idiv (w p) room := by
          unfold ful; rw [if_pos q, idiv_e room (by omega) (by omega) (by omega) (by omega)]
        rw [if_pos q, if_pos (by omega), ck_pos ⟨by omega, by omega⟩, ck_pos (by omega), ← e]; exact b48
      · have e : ful w room p = 0 := by unfold ful; rw [if_neg q]
        rw [if_neg q]
        rw [e] at b48
        exact b48)
    (by
      rintro x _
      dsimp only
      unfold L_Ro_send_y13
      rw [if_neg (by omega)]) (by omega) (up2 d 71 7 0) ⟨fun k h1 _ _ => up2_K _ _ _ h1, fun j hj => up2_j _ _ _ hj, by rw [up2_s]; rfl, fun i h => by simp only [cF] at h; omega, fun q h => by omega, fun q _ h => by rw [up2_K _ _ _ (by decide)]; exact h73 q h⟩
  refine ⟨d', ?_, e2, e3, e4, e5, e6⟩
  unfold L_Ro_send_l13
  exact e1
