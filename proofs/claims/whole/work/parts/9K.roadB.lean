/-! COACHES: the reference's tables -/
def stF (F : Nat → Bool) : Nat → Nat
  | 0 => 0
  | p + 1 => if F p = true then stF F p ||| 2 ^ p else stF F p
theorem stF_b (F : Nat → Bool) : ∀ p : Nat, stF F p < 2 ^ p
  | 0 => by simp only [stF]; decide
  | p + 1 => by
    have ih := stF_b F p
    have h2 : 2 ^ p < 2 ^ (p + 1) := Nat.pow_lt_pow_right (by decide) (by omega)
    simp only [stF]
    by_cases q : F p = true
    · rw [if_pos q]; exact Nat.or_lt_two_pow (by omega) h2
    · rw [if_neg q]; omega
theorem stF_t (F : Nat → Bool) (q : Nat) : ∀ p : Nat, (stF F p).testBit q = (decide (q < p) && F q)
  | 0 => by simp only [stF, Nat.zero_testBit]; rw [decide_eq_false (by omega)]; rfl
  | p + 1 => by
    have ih := stF_t F q p
    simp only [stF]
    by_cases h : F p = true
    · rw [if_pos h, Nat.testBit_or, ih, Nat.testBit_two_pow]
      by_cases e : p = q
      · subst e; rw [decide_eq_true rfl, Bool.or_true, decide_eq_true (by omega), h]; rfl
      · rw [decide_eq_false e, Bool.or_false]
        by_cases e2 : q < p
        · rw [decide_eq_true e2, decide_eq_true (by omega)]
        · rw [decide_eq_false e2, decide_eq_false (by omega)]
    · rw [if_neg h, ih]
      by_cases e : q = p
      · subst e
        cases hF : F q
        · rw [Bool.and_false, Bool.and_false]
        · exact absurd hF h
      · by_cases e2 : q < p
        · rw [decide_eq_true e2, decide_eq_true (by omega)]
        · rw [decide_eq_false e2, decide_eq_false (by omega)]
theorem ix60 (i j : Nat) (hi : i < 4) (hj : j < 60) : w32 (w32 ((i : Int) * 60) + (j : Int)) = ((i * 60 + j : Nat) : Int) := by
  rw [w32_s (x := (i : Int) * 60) (by omega) (by omega), w32_s (by omega) (by omega)]; omega
theorem ix60B (i j : Nat) (hi : i < 4) (hj : j < 60) : w32 (w32 (60 * (i : Int)) + (j : Int)) = ((i * 60 + j : Nat) : Int) := by
  rw [w32_s (x := 60 * (i : Int)) (by omega) (by omega), w32_s (by omega) (by omega)]; omega
def wtW (d3 : Nat → Int) (tray home p : Nat) : Int := if p = home then 0 else d3 (tray * 60 + p)
theorem leaveB_e {d : Dt} (room : Int) (home tray : Nat) (hh : home < 7) (ht : tray < 4) (hw : ∀ p, p < 7 → 0 ≤ d 3 (tray * 60 + p) ∧ d 3 (tray * 60 + p) ≤ 100) (hr : 1 ≤ room ∧ room ≤ 20) (hmi : ∀ q, q < 49 → 0 ≤ d 75 q ∧ d 75 q ≤ 1000) : ∃ d', L_Mo_coaches_l134 (home : Int) (tray : Int) room 0 0 0 0 d = some ((home : Int), room, alS (d 75) (wtW (d 3) tray home) room home 7, mnS (wtW (d 3) tray home) room 7, (stF (FFs (wtW (d 3) tray home) room) 7 : Int), d') ∧ (∀ k, k ≠ 76 → d' k = d k) ∧ ∀ p, p < 7 → d' 76 p = rst (wtW (d 3) tray home) room p := by
  obtain ⟨w, hwd⟩ : ∃ w, w = wtW (d 3) tray home := ⟨_, rfl⟩
  have hwb : ∀ p, p < 7 → 0 ≤ w p ∧ w p ≤ 100 := by
    intro p hp
    have := hw p hp
    rw [hwd]; unfold wtW; split <;> omega
  rw [← hwd]
  obtain ⟨d', e1, e2, e3⟩ := lp_inv (f := fun q : Int × Int × Int × Int × Int × Int × Int × Dt => L_Mo_coaches_y134 q.1 q.2.1 q.2.2.1 q.2.2.2.1 q.2.2.2.2.1 q.2.2.2.2.2.1 q.2.2.2.2.2.2.1 q.2.2.2.2.2.2.2) (fun p x => ((home : Int), (tray : Int), room, alS (d 75) w room home p, mnS w room p, (stF (FFs w room) p : Int), (p : Int), x)) (fun x => ((home : Int), room, alS (d 75) w room home 7, mnS w room 7, (stF (FFs w room) 7 : Int), x))
    (fun p x => (∀ k, k ≠ 76 → x k = d k) ∧ ∀ q, q < p → x 76 q = rst w room q) 7
    (by
      rintro p x hp ⟨f1, f2⟩
      obtain ⟨u1, u2, u3⟩ := ful_b w room p (hwb p hp) hr
      have ub := alS_b (d 75) w room home hh hmi hwb hr p (by omega)
      have um := hmi (home * 7 + p) (by omega)
      have up := prodb (ful w room p * 2) (d 75 (home * 7 + p)) 200 1000 (by omega) um
      have hwp := hwb p hp
      have hwo := hw p hp
      have hrs : w p - ful w room p * room = rst w room p := rfl
      have hsb := stF_b (FFs w room) p
      have hp2 : 2 ^ p ≤ 2 ^ 6 := Nat.pow_le_pow_right (by decide) (by omega)
      have b180 : ∃ x', L_Mo_coaches_b180 (home : Int) (tray : Int) room (alS (d 75) w room home p) (mnS w room p) (stF (FFs w room) p : Int) (p : Int) (w p) (ful w room p) x = some (Sum.inl ((home : Int), (tray : Int), room, alS (d 75) w room home (p + 1), mnS w room (p + 1), (stF (FFs w room) (p + 1) : Int), ((p + 1 : Nat) : Int), x')) ∧ (∀ k, k ≠ 76 → x' k = d k) ∧ ∀ q, q < p + 1 → x' 76 q = rst w room q := by
        have fr : ∀ r, r < p + 1 → up2 x 76 p (rst w room p) 76 r = rst w room r := by
          intro r hr2
          by_cases e : r = p
          · rw [e, up2_s]
          · rw [up2_j _ _ _ e]; exact f2 r (by omega)
        unfold L_Mo_coaches_b180 L_Mo_coaches_b244
        rw [w32_s (x := mnS w room p + ful w room p) (by omega) (by omega), lt_e, ix7B home p (by omega) hp, ck_pos ⟨by omega, by omega⟩, tn_i, tn_i, f1 75 (by decide), w32_s (x := ful w room p * 2) (by omega) (by omega), w32_s (x := ful w room p * 2 * d 75 (home * 7 + p)) (by omega) (by omega), w32_s (x := alS (d 75) w room home p + ful w room p * 2 * d 75 (home * 7 + p)) (by omega) (by omega), lt_e, w32_s (x := ful w room p * room) (by omega) (by omega), w32_s (x := w p - ful w room p * room) (by omega) (by omega), hrs, up2_s, ck_pos ⟨by omega, by omega⟩, ck_pos ⟨by omega, by omega⟩, w32_i (show p < 2147483647 by omega)]
        by_cases q : 0 < rst w room p
        · have hF : FFs w room p = true := decide_eq_true q
          rw [if_pos q, ishl1 p (by omega), ior_n _ _ (by omega) (by omega), lt_e]
          refine ⟨_, ?_, ?_, fr⟩
          · simp only [stF]; rw [if_pos hF]; rfl
          · intro k hk; rw [up2_K _ _ _ hk]; exact f1 k hk
        · have hF : ¬ FFs w room p = true := by unfold FFs; rw [decide_eq_true_eq]; exact q
          rw [if_neg q]
          refine ⟨_, ?_, ?_, fr⟩
          · simp only [stF]; rw [if_neg hF]; rfl
          · intro k hk; rw [up2_K _ _ _ hk]; exact f1 k hk
      have b164 : ∃ x', L_Mo_coaches_b164 (home : Int) (tray : Int) room (alS (d 75) w room home p) (mnS w room p) (stF (FFs w room) p : Int) (p : Int) (w p) x = some (Sum.inl ((home : Int), (tray : Int), room, alS (d 75) w room home (p + 1), mnS w room (p + 1), (stF (FFs w room) (p + 1) : Int), ((p + 1 : Nat) : Int), x')) ∧ (∀ k, k ≠ 76 → x' k = d k) ∧ ∀ q, q < p + 1 → x' 76 q = rst w room q := by
        unfold L_Mo_coaches_b164
        by_cases q : room < w p
        · have e : ful w room p = idiv (w p) room := by
            unfold ful; rw [if_pos q, idiv_e room (by omega) (by omega) (by omega) (by omega)]
          rw [if_pos q, ck_pos (by omega), ← e]; exact b180
        · have e : ful w room p = 0 := by unfold ful; rw [if_neg q]
          rw [if_neg q]
          rw [e] at b180
          exact b180
      dsimp only
      unfold L_Mo_coaches_y134
      rw [if_pos (by omega)]
      by_cases q : p = home
      · have e : w p = 0 := by rw [hwd]; unfold wtW; rw [if_pos q]
        rw [if_pos (by omega)]
        rw [e] at b164
        exact b164
      · have e : w p = d 3 (tray * 60 + p) := by rw [hwd]; unfold wtW; rw [if_neg q]
        rw [if_neg (by omega), ix60B tray p ht (by omega), ck_pos ⟨by omega, by omega⟩, tn_i, f1 3 (by decide), w32_s (x := d 3 (tray * 60 + p)) (by omega) (by omega), ← e]
        exact b164)
    (by
      rintro x _
      dsimp only
      unfold L_Mo_coaches_y134
      rw [if_neg (by omega)]) (by omega) d ⟨fun _ _ => rfl, fun q h => by omega⟩
  refine ⟨d', ?_, e2, e3⟩
  unfold L_Mo_coaches_l134
  exact e1
/-- the least way through a set to its last, over all places -/
def EqW (x : Dt) (home : Nat) (mi : Nat → Int) (s l : Nat) : Prop := x 77 (s * 7 + l) = if s.testBit l = true ∧ l ≠ home then fm (fun k => (dif s (2 ^ l)).testBit k && decide (x 77 (dif s (2 ^ l) * 7 + k) < 100000000)) (fun k => x 77 (dif s (2 ^ l) * 7 + k) + mi (k * 7 + l)) (if dif s (2 ^ l) = 0 then mi (home * 7 + l) else 100000000) 7 else 100000000
def tabW (x : Dt) (home : Nat) (mi : Nat → Int) (s l : Nat) : Prop := EqW x home mi s l ∧ 0 ≤ x 77 (s * 7 + l) ∧ x 77 (s * 7 + l) ≤ 100000000
def rdB (x : Dt) (home : Nat) (mi : Nat → Int) (s : Nat) : Nat → Int := fm (fun l => s.testBit l && decide (l ≠ home)) (fun l => x 77 (s * 7 + l) + mi (l * 7 + home)) 100000000
theorem EqW.cg {x x' : Dt} {home : Nat} {mi : Nat → Int} {s l : Nat} (h : EqW x home mi s l) (h1 : x' 77 (s * 7 + l) = x 77 (s * 7 + l)) (h2 : s.testBit l = true → ∀ k, k < 7 → x' 77 (dif s (2 ^ l) * 7 + k) = x 77 (dif s (2 ^ l) * 7 + k)) : EqW x' home mi s l := by
  unfold EqW at h ⊢
  rw [h1, h]
  by_cases q : s.testBit l = true ∧ l ≠ home
  · rw [if_pos q, if_pos q]
    exact fm_cg _ _ _ _ _ 7 (fun k hk => ⟨by rw [h2 q.1 k hk], fun _ => by rw [h2 q.1 k hk]⟩)
  · rw [if_neg q, if_neg q]
