/-! COACHES: the reference's least miles and coaches -/
theorem walk_e {d : Dt} {home : Nat} {mi : Nat → Int} (hh : home < 7) (hmi : ∀ q, q < 49 → 0 ≤ mi q ∧ mi q ≤ 1000) (h75 : d 75 = mi) : ∃ d', L_Mo_walk (home : Int) d = some (0, d') ∧ (∀ k, k ≠ 77 → k ≠ 78 → d' k = d k) ∧ (∀ s l, 1 ≤ s → s < 128 → l < 7 → tabW d' home mi s l) ∧ ∀ s, 1 ≤ s → s < 128 → d' 78 s = rdB d' home mi s 7 := by
  obtain ⟨d', e1, e2, e3, e4⟩ := lp_inv (f := fun q : Int × Int × Dt => L_Mo_walk_y2 q.1 q.2.1 q.2.2) (fun t x => ((home : Int), ((t + 1 : Nat) : Int), x)) (fun x => x)
    (fun t x => (∀ k, k ≠ 77 → k ≠ 78 → x k = d k) ∧ (∀ s l, 1 ≤ s → s < t + 1 → l < 7 → tabW x home mi s l) ∧ ∀ s, 1 ≤ s → s < t + 1 → x 78 s = rdB x home mi s 7) 127
    (by
      rintro t x ht ⟨f1, f2, f3⟩
      obtain ⟨x', g1, g2, g3, g4, g5, g6⟩ := walk_l hh hmi (t + 1) (by omega) (by omega) (by rw [f1 75 (by decide) (by decide)]; exact h75) f2
      refine ⟨x', ?_, ?_, ?_, ?_⟩
      · dsimp only
        unfold L_Mo_walk_y2
        rw [if_pos (by omega), ck_pos ⟨by omega, by omega⟩, tn_i, g1, lb_e, u2_q, w32_i (show t + 1 < 2147483647 by omega)]
      · intro k h1 h2; rw [g2 k h1 h2]; exact f1 k h1 h2
      · intro s l h1 h2 h3
        by_cases e : s = t + 1
        · subst e; exact g5 l h3
        · obtain ⟨t1, t2⟩ := f2 s l h1 (by omega) h3
          refine ⟨t1.cg (g3 _ (by omega)) (fun hb k hk => g3 _ (by have := dif_lt s l (by omega) hb; omega)), ?_⟩
          rw [g3 _ (by omega)]; exact t2
      · intro s h1 h2
        by_cases e : s = t + 1
        · subst e; exact g6
        · rw [g4 s e, f3 s h1 (by omega)]
          unfold rdB
          exact fm_cg _ _ _ _ _ 7 (fun k hk => ⟨rfl, fun _ => by rw [g3 _ (by omega)]⟩))
    (by
      rintro x _
      dsimp only
      unfold L_Mo_walk_y2
      rw [if_neg (by omega)]) (by omega) d ⟨fun _ _ _ => rfl, fun s l h1 h2 => by omega, fun s h1 h2 => by omega⟩
  refine ⟨d', ?_, e2, fun s l h1 h2 h3 => e3 s l h1 (by omega) h3, fun s h1 h2 => e4 s h1 (by omega)⟩
  unfold L_Mo_walk L_Mo_walk_l2
  rw [show lpF (fun q : Int × Int × Dt => L_Mo_walk_y2 q.1 q.2.1 q.2.2) FU ((home : Int), 1, d) = _ from e1, lb_e, u0_q]
def ldB (rs : Nat → Int) (s : Nat) : Nat → Int
  | 0 => 0
  | p + 1 => ldB rs s p + (if s.testBit p = true then rs p else 0)
theorem ldB_b (rs : Nat → Int) (s : Nat) : ∀ i : Nat, (∀ j, j < i → 0 ≤ rs j ∧ rs j ≤ 20) → 0 ≤ ldB rs s i ∧ ldB rs s i ≤ 20 * i
  | 0, _ => by simp only [ldB]; omega
  | i + 1, h => by
    have ih := ldB_b rs s i (fun j hj => h j (by omega))
    have := h i (by omega)
    simp only [ldB]; split <;> omega
theorem load_e {x : Dt} (rs : Nat → Int) (s : Nat) (hs : s < 128) (h76 : ∀ p, p < 7 → x 76 p = rs p ∧ 0 ≤ rs p ∧ rs p ≤ 20) : L_Mo_load (s : Int) x = some (ldB rs s 7, x) := by
  have e1 := lp_seq (f := fun q : Int × Int × Int × Dt => L_Mo_load_y4 q.1 q.2.1 q.2.2.1 q.2.2.2) (fun p => ((s : Int), ldB rs s p, (p : Int), x)) 7 (r := (ldB rs s 7, x))
    (by
      intro p hp
      have hb := ldB_b rs s p (fun j hj => (h76 j (by omega)).2)
      have hr := h76 p hp
      dsimp only
      unfold L_Mo_load_y4 L_Mo_load_b30
      rw [if_pos (by omega), ibit s p (by omega) (by omega), ck_pos ⟨by omega, by omega⟩, tn_i, hr.1, w32_i (show p < 2147483647 by omega), lt_e, lt_e]
      simp only [ldB]
      by_cases q : s.testBit p = true
      · rw [if_pos q, if_pos rfl, if_pos q, w32_s (by omega) (by omega)]
      · rw [if_neg q, if_neg (by decide), if_neg q, w32_s (by omega) (by omega)])
    (by
      dsimp only
      unfold L_Mo_load_y4
      rw [if_neg (by omega)]) (by omega)
  unfold L_Mo_load L_Mo_load_l4
  rw [show lpF (fun q : Int × Int × Int × Dt => L_Mo_load_y4 q.1 q.2.1 q.2.2.1 q.2.2.2) FU ((s : Int), 0, 0, x) = _ from e1, lb_e, u1_q]
theorem dif0 (s set : Nat) (hs : s < 128) (hset : set < 128) : dif s set = 0 ↔ s &&& set = s := by
  have hd : dif s set < 128 := by have := dif_le s set; omega
  constructor
  · intro h
    apply (sub_t set s hset hs).2
    intro i hi hb
    have h2 := dif_t s set i (by omega)
    rw [h, Nat.zero_testBit, hb] at h2
    cases hc : set.testBit i
    · rw [hc] at h2; cases h2
    · rfl
  · intro h
    apply ext7 _ _ hd (by decide)
    intro i hi
    rw [dif_t s set i (by omega), Nat.zero_testBit]
    cases hb : s.testBit i
    · rfl
    · rw [(sub_t set s hset hs).1 h i hi hb]; rfl
theorem sub_dif (s T set : Nat) (hs : s < 128) (hset : set < 128) (h : s &&& set = s) : dif s T &&& set = dif s T := by
  have hd : dif s T < 128 := by have := dif_le s T; omega
  apply (sub_t set _ hset hd).2
  intro i hi hb
  rw [dif_t s T i (by omega), Bool.and_eq_true] at hb
  exact (sub_t set s hset hs).1 h i hi hb.1
theorem sub_tr (T s set : Nat) (h1 : T &&& s = T) (h2 : s &&& set = s) : T &&& set = T := by
  rw [← h1, Nat.and_assoc, h2]
theorem one_vis (s : Nat) (h0 : s ≠ 0) (hs : s < 128) : 2 ^ lowI 7 s ∈ visS s ∧ lowI 7 s < 7 ∧ s.testBit (lowI 7 s) = true := by
  rcases lowI_p ⟨s, hs⟩ with h | ⟨h, h2, h3, _⟩
  · dsimp only at h; omega
  · dsimp only at h h2 h3
    have h5 : 2 ^ lowI 7 s < 2 ^ 7 := Nat.pow_lt_pow_right (by decide) h3
    have h6 : 0 < 2 ^ lowI 7 s := Nat.two_pow_pos _
    refine ⟨(visS_m s _ hs).2 ⟨by omega, by omega, (sub_t s _ hs (by omega)).2 (fun i hi hb => ?_)⟩, h3, h2⟩
    rw [Nat.testBit_two_pow, decide_eq_true_eq] at hb
    rw [← hb]; exact h2
def EqB (x : Dt) (ld rd : Nat → Int) (room : Int) (s : Nat) : Prop := ∃ T, T ∈ visS s ∧ okT ld room s T = true ∧ x 79 s = rd T + x 79 (dif s T) ∧ x 80 s = 1 + x 80 (dif s T) ∧ ∀ U, U ∈ visS s → okT ld room s U = true → (rd T + x 79 (dif s T) < rd U + x 79 (dif s U) ∨ (rd T + x 79 (dif s T) = rd U + x 79 (dif s U) ∧ x 80 (dif s T) ≤ x 80 (dif s U)))
theorem shareB_e {d : Dt} (ld rd rs : Nat → Int) (room all full : Int) (set : Nat) (hset : set < 128) (h76 : ∀ p, p < 7 → d 76 p = rs p ∧ 0 ≤ rs p ∧ rs p ≤ 20) (hld : ∀ T, ld T = ldB rs T 7) (h78 : ∀ T, T ≠ 0 → T < 128 → T &&& set = T → d 78 T = rd T ∧ 0 ≤ rd T ∧ rd T ≤ 200000) (hsing : ∀ s, s ≠ 0 → s < 128 → s &&& set = s → okT ld room s (2 ^ lowI 7 s) = true) (h790 : d 79 0 = 0) (h800 : d 80 0 = 0) : ∃ d', L_Mo_coaches_l272 room all full (set : Int) 1 d = some (all, full, (set : Int), d') ∧ (∀ k, k ≠ 79 → k ≠ 80 → d' k = d k) ∧ d' 79 0 = 0 ∧ d' 80 0 = 0 ∧ (∀ s, s < 128 → s &&& set = s → (0 ≤ d' 79 s ∧ d' 79 s ≤ 200000 * s) ∧ 0 ≤ d' 80 s ∧ d' 80 s ≤ s) ∧ ∀ s, s ≠ 0 → s < 128 → s &&& set = s → EqB d' ld rd room s := by
  obtain ⟨d', e1, e2, e3, e4, e5, e6⟩ := lp_inv (f := fun q : Int × Int × Int × Int × Int × Dt => L_Mo_coaches_y272 q.1 q.2.1 q.2.2.1 q.2.2.2.1 q.2.2.2.2.1 q.2.2.2.2.2) (fun t x => (room, all, full, (set : Int), ((t + 1 : Nat) : Int), x)) (fun x => (all, full, (set : Int), x))
    (fun t x => (∀ k, k ≠ 79 → k ≠ 80 → x k = d k) ∧ x 79 0 = 0 ∧ x 80 0 = 0 ∧ (∀ s, s < t + 1 → s &&& set = s → (0 ≤ x 79 s ∧ x 79 s ≤ 200000 * s) ∧ 0 ≤ x 80 s ∧ x 80 s ≤ s) ∧ ∀ s, s ≠ 0 → s < t + 1 → s &&& set = s → EqB x ld rd room s) 127
    (by
      rintro t x ht ⟨f1, f2, f3, f4, f5⟩
      obtain ⟨s, hs⟩ : ∃ s, s = t + 1 := ⟨_, rfl⟩
      rw [← hs] at f4 f5 ⊢
      dsimp only
      unfold L_Mo_coaches_y272 L_Mo_coaches_b448
      rw [if_pos (by omega), iand_dif s set (by omega) (by omega), w32_i (show s < 2147483647 by omega)]
      by_cases q : dif s set = 0
      · have hsub := (dif0 s set (by omega) hset).1 q
        have hs0 : s ≠ 0 := by omega
        obtain ⟨x', k1, k2, k3, k4, k5⟩ := lp_vis (f := fun q : Int × Int × Int × Int × Int × Int × Int × Dt => L_Mo_coaches_y315 q.1 q.2.1 q.2.2.1 q.2.2.2.1 q.2.2.2.2.1 q.2.2.2.2.2.1 q.2.2.2.2.2.2.1 q.2.2.2.2.2.2.2) s (by omega) (fun T y => (room, all, full, (set : Int), (s : Int), ((2 ^ lowI 7 s : Nat) : Int), (T : Int), y)) (fun y => (room, all, full, (set : Int), (s : Int), y))
          (fun P y => (∀ k, k ≠ 79 → k ≠ 80 → y k = x k) ∧ (∀ q, q ≠ s → y 79 q = x 79 q) ∧ (∀ q, q ≠ s → y 80 q = x 80 q) ∧ (((∀ T, T ∈ P → ¬ okT ld room s T = true) ∧ y 79 s = 100000000) ∨ ∃ T, T ∈ P ∧ okT ld room s T = true ∧ T ∈ visS s ∧ y 79 s = rd T + x 79 (dif s T) ∧ y 80 s = 1 + x 80 (dif s T) ∧ ∀ U, U ∈ P → okT ld room s U = true → (rd T + x 79 (dif s T) < rd U + x 79 (dif s U) ∨ (rd T + x 79 (dif s T) = rd U + x 79 (dif s U) ∧ x 80 (dif s T) ≤ x 80 (dif s U)))))
          (by
            rintro P T y hT0 hT hTs ⟨l1, l2, l3, l4⟩
            have hTS : T ≤ s := by have : T &&& s ≤ s := Nat.and_le_right; omega
            have hdl := dif_lt2 s T (by omega) hT hT0 hTs
            have hTset := sub_tr T s set hTs hsub
            obtain ⟨t1, t2, t3⟩ := h78 T hT0 hT hTset
            have hc := f4 (dif s T) hdl (sub_dif s T set (by omega) hset hsub)
            have hlow := (one_vis s hs0 (by omega)).2.1
            have hle : (T - 1) &&& s ≤ T - 1 := Nat.and_le_left
            have hTv : T ∈ visS s := (visS_m s T (by omega)).2 ⟨hT0, hT, hTs⟩
            have b436 : ∀ y', L_Mo_coaches_b436 room all full (set : Int) (s : Int) ((2 ^ lowI 7 s : Nat) : Int) (T : Int) y' = some (Sum.inl (room, all, full, (set : Int), (s : Int), ((2 ^ lowI 7 s : Nat) : Int), (((T - 1) &&& s : Nat) : Int), y')) := by
              intro y'
              unfold L_Mo_coaches_b436
              rw [w32_s (x := (T : Int) - 1) (by omega) (by omega), show (T : Int) - 1 = ((T - 1 : Nat) : Int) by omega, iand_n (T - 1) s (by omega) (by omega), lt_e]
            have notok : ¬ okT ld room s T = true → (((∀ U, U ∈ P ++ [T] → ¬ okT ld room s U = true) ∧ y 79 s = 100000000) ∨ ∃ V, V ∈ P ++ [T] ∧ okT ld room s V = true ∧ V ∈ visS s ∧ y 79 s = rd V + x 79 (dif s V) ∧ y 80 s = 1 + x 80 (dif s V) ∧ ∀ U, U ∈ P ++ [T] → okT ld room s U = true → (rd V + x 79 (dif s V) < rd U + x 79 (dif s U) ∨ (rd V + x 79 (dif s V) = rd U + x 79 (dif s U) ∧ x 80 (dif s V) ≤ x 80 (dif s U)))) := by
              intro hn
              rcases l4 with ⟨g1, g2⟩ | ⟨V, g1, g2, g3, g4, g5, g6⟩
              · left
                refine ⟨fun U hU => ?_, g2⟩
                rcases List.mem_append.mp hU with hU | hU
                · exact g1 U hU
                · rw [List.mem_singleton] at hU; subst hU; exact hn
              · right
                refine ⟨V, List.mem_append_left _ g1, g2, g3, g4, g5, fun U hU hok => ?_⟩
                rcases List.mem_append.mp hU with hU | hU
                · exact g6 U hU hok
                · rw [List.mem_singleton] at hU; subst hU; exact absurd hok hn
            dsimp only
            unfold L_Mo_coaches_y315
            rw [if_pos (by omega)]
            by_cases q1 : T.testBit (lowI 7 s) = true
            · rw [if_neg (fun z => (andlow T (lowI 7 s) (by omega) (by omega)).1 z q1), load_e rs T hT (fun p hp => by rw [l1 76 (by decide) (by decide), f1 76 (by decide) (by decide)]; exact h76 p hp), bd_e, ← hld T]
              by_cases q2 : room < ld T
              · rw [if_pos q2, b436]
                exact ⟨y, rfl, l1, l2, l3, notok (by unfold okT; rw [Bool.and_eq_true, decide_eq_true_eq]; omega)⟩
              · have hok : okT ld room s T = true := by unfold okT; rw [Bool.and_eq_true, decide_eq_true_eq]; exact ⟨q1, by omega⟩
                rw [if_neg q2, iand_dif s T (by omega) (by omega), ck_pos ⟨by omega, by omega⟩, ck_pos ⟨by omega, by omega⟩, tn_i, tn_i, l1 78 (by decide) (by decide), f1 78 (by decide) (by decide), t1, l2 _ (by omega), l3 _ (by omega), w32_s (x := rd T + x 79 (dif s T)) (by omega) (by omega), lt_e, ck_pos ⟨by omega, by omega⟩, w32_s (x := 1 + x 80 (dif s T)) (by omega) (by omega), lt_e, ck_pos ⟨by omega, by omega⟩, ck_pos ⟨by omega, by omega⟩, ck_pos ⟨by omega, by omega⟩, tn_i, b436]
                have take : ((∀ U, U ∈ P → ¬ okT ld room s U = true) ∨ ∃ V, V ∈ P ∧ okT ld room s V = true ∧ (rd T + x 79 (dif s T) < rd V + x 79 (dif s V) ∨ (rd T + x 79 (dif s T) = rd V + x 79 (dif s V) ∧ x 80 (dif s T) ≤ x 80 (dif s V))) ∧ ∀ U, U ∈ P → okT ld room s U = true → (rd V + x 79 (dif s V) < rd U + x 79 (dif s U) ∨ (rd V + x 79 (dif s V) = rd U + x 79 (dif s U) ∧ x 80 (dif s V) ≤ x 80 (dif s U)))) → ∃ d', L_Mo_coaches_b418 room all full (set : Int) (s : Int) ((2 ^ lowI 7 s : Nat) : Int) (T : Int) (rd T + x 79 (dif s T)) (1 + x 80 (dif s T)) y = some (Sum.inl (room, all, full, (set : Int), (s : Int), ((2 ^ lowI 7 s : Nat) : Int), (((T - 1) &&& s : Nat) : Int), d')) ∧ (∀ k, k ≠ 79 → k ≠ 80 → d' k = x k) ∧ (∀ q, q ≠ s → d' 79 q = x 79 q) ∧ (∀ q, q ≠ s → d' 80 q = x 80 q) ∧ (((∀ U, U ∈ P ++ [T] → ¬ okT ld room s U = true) ∧ d' 79 s = 100000000) ∨ ∃ V, V ∈ P ++ [T] ∧ okT ld room s V = true ∧ V ∈ visS s ∧ d' 79 s = rd V + x 79 (dif s V) ∧ d' 80 s = 1 + x 80 (dif s V) ∧ ∀ U, U ∈ P ++ [T] → okT ld room s U = true → (rd V + x 79 (dif s V) < rd U + x 79 (dif s U) ∨ (rd V + x 79 (dif s V) = rd U + x 79 (dif s U) ∧ x 80 (dif s V) ≤ x 80 (dif s U)))) := by
                  intro hcase
                  unfold L_Mo_coaches_b418
                  rw [ck_pos ⟨by omega, by omega⟩, ck_pos ⟨by omega, by omega⟩, tn_i, b436]
                  refine ⟨_, rfl, ?_, ?_, ?_, Or.inr ⟨T, List.mem_append_right _ List.mem_cons_self, hok, hTv, ?_, ?_, ?_⟩⟩
                  · intro k h1 h2; rw [up2_K _ _ _ h2, up2_K _ _ _ h1]; exact l1 k h1 h2
                  · intro r hr; rw [up2_K _ _ _ (by decide), up2_j _ _ _ hr]; exact l2 r hr
                  · intro r hr; rw [up2_j _ _ _ hr, up2_K _ _ _ (by decide)]; exact l3 r hr
                  · rw [up2_K _ _ _ (by decide), up2_s]
                  · rw [up2_s]
                  · intro U hU hokU
                    rcases List.mem_append.mp hU with hU | hU
                    · rcases hcase with hc1 | ⟨V, v1, v2, v3, v4⟩
                      · exact absurd hokU (hc1 U hU)
                      · have := v4 U hU hokU; omega
                    · rw [List.mem_singleton] at hU; subst hU; exact Or.inr ⟨rfl, Int.le_refl _⟩
                have keep : (∃ V, V ∈ P ∧ okT ld room s V = true ∧ V ∈ visS s ∧ y 79 s = rd V + x 79 (dif s V) ∧ y 80 s = 1 + x 80 (dif s V) ∧ (rd V + x 79 (dif s V) < rd T + x 79 (dif s T) ∨ (rd V + x 79 (dif s V) = rd T + x 79 (dif s T) ∧ x 80 (dif s V) ≤ x 80 (dif s T))) ∧ ∀ U, U ∈ P → okT ld room s U = true → (rd V + x 79 (dif s V) < rd U + x 79 (dif s U) ∨ (rd V + x 79 (dif s V) = rd U + x 79 (dif s U) ∧ x 80 (dif s V) ≤ x 80 (dif s U)))) → (((∀ U, U ∈ P ++ [T] → ¬ okT ld room s U = true) ∧ y 79 s = 100000000) ∨ ∃ V, V ∈ P ++ [T] ∧ okT ld room s V = true ∧ V ∈ visS s ∧ y 79 s = rd V + x 79 (dif s V) ∧ y 80 s = 1 + x 80 (dif s V) ∧ ∀ U, U ∈ P ++ [T] → okT ld room s U = true → (rd V + x 79 (dif s V) < rd U + x 79 (dif s U) ∨ (rd V + x 79 (dif s V) = rd U + x 79 (dif s U) ∧ x 80 (dif s V) ≤ x 80 (dif s U)))) := by
                  rintro ⟨V, v1, v2, v3, v4, v5, v6, v7⟩
                  right
                  refine ⟨V, List.mem_append_left _ v1, v2, v3, v4, v5, fun U hU hokU => ?_⟩
                  rcases List.mem_append.mp hU with hU | hU
                  · exact v7 U hU hokU
                  · rw [List.mem_singleton] at hU; subst hU; exact v6
                rcases l4 with ⟨g1, g2⟩ | ⟨V, g1, g2, g3, g4, g5, g6⟩
                · rw [g2, if_neg (by omega), if_neg (by omega)]
                  exact take (Or.inl g1)
                · rw [g4, g5]
                  by_cases r1 : rd V + x 79 (dif s V) < rd T + x 79 (dif s T)
                  · rw [if_pos r1]
                    exact ⟨y, rfl, l1, l2, l3, keep ⟨V, g1, g2, g3, g4, g5, Or.inl r1, g6⟩⟩
                  · rw [if_neg r1]
                    by_cases r2 : rd T + x 79 (dif s T) = rd V + x 79 (dif s V)
                    · rw [if_pos r2]
                      by_cases r3 : 1 + x 80 (dif s T) < 1 + x 80 (dif s V)
                      · rw [if_pos r3]
                        exact take (Or.inr ⟨V, g1, g2, Or.inr ⟨r2, by omega⟩, g6⟩)
                      · rw [if_neg r3]
                        exact ⟨y, rfl, l1, l2, l3, keep ⟨V, g1, g2, g3, g4, g5, Or.inr ⟨r2.symm, by omega⟩, g6⟩⟩
                    · rw [if_neg r2]
                      exact take (Or.inr ⟨V, g1, g2, Or.inl (by omega), g6⟩)
            · rw [if_pos ((andlow T (lowI 7 s) (by omega) (by omega)).2 q1), b436]
              exact ⟨y, rfl, l1, l2, l3, notok (by unfold okT; rw [Bool.and_eq_true]; exact fun z => q1 z.1)⟩)
          (by
            intro y
            dsimp only
            unfold L_Mo_coaches_y315
            rw [if_neg (by decide)]) (up2 x 79 s 100000000) ⟨fun k h1 _ => up2_K _ _ _ h1, fun q hq => up2_j _ _ _ hq, fun q _ => by rw [up2_K _ _ _ (by decide)], Or.inl ⟨fun T h => absurd h List.not_mem_nil, up2_s _ _ _ _⟩⟩
        unfold L_Mo_coaches_l315
        rw [if_pos (by omega), low_e s (by omega) (by omega), lt_e, ck_pos ⟨by omega, by omega⟩, tn_i, k1, lb_e, u5_q, w32_i (show s < 2147483647 by omega)]
        have hone := one_vis s hs0 (by omega)
        obtain ⟨T, g2, g3, g4, g5, g6⟩ : ∃ T, okT ld room s T = true ∧ T ∈ visS s ∧ x' 79 s = rd T + x 79 (dif s T) ∧ x' 80 s = 1 + x 80 (dif s T) ∧ ∀ U, U ∈ visS s → okT ld room s U = true → (rd T + x 79 (dif s T) < rd U + x 79 (dif s U) ∨ (rd T + x 79 (dif s T) = rd U + x 79 (dif s U) ∧ x 80 (dif s T) ≤ x 80 (dif s U))) := by
          rcases k5 with ⟨g1, _⟩ | ⟨T, _, g2, g3, g4, g5, g6⟩
          · exact absurd (hsing s hs0 (by omega) hsub) (g1 _ hone.1)
          · exact ⟨T, g2, g3, g4, g5, g6⟩
        obtain ⟨v1, v2, v3⟩ := (visS_m s T (by omega)).1 g3
        have hdT := dif_lt2 s T (by omega) v2 v1 v3
        have hoT := h78 T v1 v2 (sub_tr T s set v3 hsub)
        have hcT := f4 (dif s T) hdT (sub_dif s T set (by omega) hset hsub)
        refine ⟨x', rfl, ?_, ?_, ?_, ?_, ?_⟩
        · intro k h1 h2; rw [k2 k h1 h2]; exact f1 k h1 h2
        · rw [k3 0 (by omega)]; exact f2
        · rw [k4 0 (by omega)]; exact f3
        · intro s' h1 h2
          by_cases e : s' = s
          · subst e
            rw [g4, g5]; omega
          · rw [k3 s' e, k4 s' e]; exact f4 s' (by omega) h2
        · intro s' h0 h1 h2
          by_cases e : s' = s
          · subst e
            refine ⟨T, g3, g2, ?_, ?_, ?_⟩
            · rw [g4, k3 _ (by omega)]
            · rw [g5, k4 _ (by omega)]
            · intro U hU hokU
              obtain ⟨u1, u2, u3⟩ := (visS_m s' U (by omega)).1 hU
              have hdU := dif_lt2 s' U (by omega) u2 u1 u3
              rw [k3 _ (by omega), k3 _ (by omega), k4 _ (by omega), k4 _ (by omega)]
              exact g6 U hU hokU
          · obtain ⟨V, w1, w2, w3, w4, w5⟩ := f5 s' h0 (by omega) h2
            have hdV := dif_le s' V
            refine ⟨V, w1, w2, ?_, ?_, ?_⟩
            · rw [k3 s' e, k3 _ (by omega)]; exact w3
            · rw [k4 s' e, k4 _ (by omega)]; exact w4
            · intro U hU hokU
              have hdU := dif_le s' U
              rw [k3 _ (by omega), k3 _ (by omega), k4 _ (by omega), k4 _ (by omega)]
              exact w5 U hU hokU
      · rw [if_neg (by omega)]
        have hns : ¬ s &&& set = s := fun z => q ((dif0 s set (by omega) hset).2 z)
        refine ⟨x, rfl, f1, f2, f3, fun s' h1 h2 => ?_, fun s' h0 h1 h2 => ?_⟩
        · by_cases e : s' = s
          · subst e; exact absurd h2 hns
          · exact f4 s' (by omega) h2
        · by_cases e : s' = s
          · subst e; exact absurd h2 hns
          · exact f5 s' h0 (by omega) h2)
    (by
      rintro x _
      dsimp only
      unfold L_Mo_coaches_y272
      rw [if_neg (by omega)]) (by omega) d ⟨fun _ _ _ => rfl, h790, h800, fun s h1 _ => by
        have : s = 0 := by omega
        subst this; rw [h790, h800]; omega, fun s h0 h1 _ => by omega⟩
  refine ⟨d', ?_, e2, e3, e4, fun s h1 h2 => e5 s (by omega) h2, fun s h0 h1 h2 => e6 s h0 (by omega) h2⟩
  unfold L_Mo_coaches_l272
  exact e1
