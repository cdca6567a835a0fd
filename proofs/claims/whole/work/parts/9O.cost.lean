/-! COACHES: least costs are one -/
theorem ok_eq (F : Nat → Bool) (lA lB : Nat → Int) (room : Int) (hK : cF F 7 ≤ 6) (S T : Nat) (hS : S < 2 ^ cF F 7) (h0 : S ≠ 0) (hT : lA T = lB (sgm F T)) : okT lA room S T = okT lB room (sgm F S) (sgm F T) := by
  obtain ⟨h1, h2⟩ := sgm_low F S hK hS h0
  unfold okT
  rw [h1, sgm_ps F T _ h2, hT]
theorem costs_eq {F : Nat → Bool} {z y : Dt} {lA lB tr rd : Nat → Int} {room : Int} (hK : cF F 7 ≤ 6) (hl : ∀ T, lA T = lB (sgm F T)) (htr : ∀ T, 1 ≤ T → T < 2 ^ cF F 7 → tr T = rd (sgm F T) ∧ 0 ≤ tr T ∧ tr T ≤ 65000) (htr1 : ∀ i, i < cF F 7 → tr (2 ^ i) ≤ 2000) (hz0 : z 78 0 = 0) (hC : ∀ S, 1 ≤ S → S < 2 ^ cF F 7 → EqC z lA tr room S) (hy0 : y 79 0 = 0 ∧ y 80 0 = 0) (hE : ∀ s, s ≠ 0 → s < 128 → s &&& stF F 7 = s → EqB y lB rd room s) (hsing : ∀ s, s ≠ 0 → s < 128 → s &&& stF F 7 = s → okT lB room s (2 ^ lowI 7 s) = true) : ∀ S, S < 2 ^ cF F 7 → z 78 S = 64 * y 79 (sgm F S) + y 80 (sgm F S) ∧ (0 ≤ y 79 (sgm F S) ∧ y 79 (sgm F S) ≤ 2000 * S) ∧ 0 ≤ y 80 (sgm F S) ∧ y 80 (sgm F S) ≤ S := by
  intro S
  have h64 := p64 _ hK
  induction S using Nat.strongRecOn with
  | ind S ih =>
    intro hS
    by_cases h0 : S = 0
    · subst h0; rw [sgm_0, hz0, hy0.1, hy0.2]; omega
    have hn0 := sgm_n0 F S hS h0
    have hsb := sgm_b F S
    have hset := sgm_set F S
    obtain ⟨T', v1, v2, v3, v4, v5⟩ := hE _ hn0 hsb hset
    have val : ∀ U', U' ∈ visS (sgm F S) → ∃ U, sgm F U = U' ∧ U ∈ visS S ∧ 1 ≤ U ∧ U < 2 ^ cF F 7 ∧ dif S U < S ∧ sgm F (dif S U) = dif (sgm F S) U' ∧ okT lA room S U = okT lB room (sgm F S) U' := by
      intro U' hU'
      obtain ⟨a1, a2, a3⟩ := (visS_m _ U' hsb).1 hU'
      obtain ⟨U, u1, u2, u3⟩ := sgm_sur F S U' hK hS a2 a3
      have hU0 : U ≠ 0 := by intro e; subst e; rw [sgm_0] at u2; exact a1 u2.symm
      refine ⟨U, u2, (visS_m S U (by omega)).2 ⟨hU0, by omega, u3⟩, by omega, u1, dif_lt2 S U (by omega) (by omega) hU0 u3, ?_, ?_⟩
      · rw [sgm_d F S U (by omega), u2]
      · rw [ok_eq F lA lB room hK S U hS h0 (hl U), u2]
    have back : ∀ U, U ∈ visS S → sgm F U ∈ visS (sgm F S) ∧ 1 ≤ U ∧ U < 2 ^ cF F 7 ∧ dif S U < S ∧ sgm F (dif S U) = dif (sgm F S) (sgm F U) ∧ okT lA room S U = okT lB room (sgm F S) (sgm F U) := by
      intro U hU
      obtain ⟨a1, a2, a3⟩ := (visS_m S U (by omega)).1 hU
      have hUS : U ≤ S := by have : U &&& S ≤ S := Nat.and_le_right; omega
      refine ⟨(visS_m _ _ hsb).2 ⟨sgm_n0 F U (by omega) a1, sgm_b F U, sgm_sub F S U (by omega) a2 a3⟩, by omega, by omega, dif_lt2 S U (by omega) a2 a1 a3, sgm_d F S U (by omega), ok_eq F lA lB room hK S U hS h0 (hl U)⟩
    obtain ⟨T, t1, t2, t3, t4, t5, t6, t7⟩ := val T' v1
    obtain ⟨i1, i2, i3⟩ := ih _ t5 (by omega)
    obtain ⟨r1, r2, r3⟩ := htr T t3 t4
    rw [t6] at i1 i2 i3
    rw [t1] at r1
    -- the one coach for the lowest alone
    obtain ⟨o1, o2, o3⟩ := one_vis _ hn0 hsb
    have lowv := v5 _ o1 (hsing _ hn0 hsb hset)
    obtain ⟨L, l1, l2, l3, l4, l5, l6, l7⟩ := val _ o1
    obtain ⟨j1, j2, j3⟩ := ih _ l5 (by omega)
    rw [l6] at j1 j2 j3
    have hLow := sgm_low F S hK hS h0
    have hL : L = 2 ^ lowI 7 S := by
      have hp : 2 ^ lowI 7 S < 2 ^ cF F 7 := Nat.pow_lt_pow_right (by decide) hLow.2
      apply ext7 _ _ (by omega) (by omega)
      intro i hi
      by_cases hiK : i < cF F 7
      · rw [← sgm_ps F L i hiK, l1, hLow.1, ← sgm_1 F _ hLow.2, sgm_ps F _ i hiK]
      · rw [Nat.testBit_lt_two_pow (Nat.lt_of_lt_of_le l4 (Nat.pow_le_pow_right (by decide) (by omega))), Nat.testBit_lt_two_pow (Nat.lt_of_lt_of_le hp (Nat.pow_le_pow_right (by decide) (by omega)))]
    have rL := (htr L l3 l4).1
    rw [l1] at rL
    have rL2 := htr1 _ hLow.2
    rw [← hL] at rL2
    have hT' : (T : Int) ≤ S := by
      obtain ⟨_, _, a3⟩ := (visS_m S T (by omega)).1 t2
      have : T &&& S ≤ S := Nat.and_le_right
      omega
    have bm : y 79 (sgm F S) ≤ 2000 * S := by
      rw [v3]
      rcases lowv with q | ⟨q, _⟩ <;> omega
    refine ⟨?_, ⟨by omega, bm⟩, by omega, by omega⟩
    have eC := hC S (by omega) hS
    unfold EqC at eC
    obtain ⟨m1, m2, m3⟩ := fmL_e (okT lA room S) (fun T => tr T * 64 + 1 + z 78 (dif S T)) (visS S) 64000000
    rw [← eC] at m1 m2 m3
    have le1 := m2 T t2 (by rw [t7]; exact v2)
    rw [i1] at le1
    rcases m3 with m3 | ⟨U, u1, u2, u3⟩
    · omega
    · obtain ⟨w1, w2, w3, w4, w5, w6⟩ := back U u1
      obtain ⟨k1, k2, k3⟩ := ih _ w4 (by omega)
      rw [w5] at k1 k2 k3
      obtain ⟨q1, q2, q3⟩ := htr U w2 w3
      rw [k1] at u3
      have lex := v5 _ w1 (by rw [← w6]; exact u2)
      rw [u3]
      rw [v3, v4]
      rw [u3] at le1
      omega
theorem alS_cg (m1 m2 w : Nat → Int) (room : Int) (home : Nat) (hh : home < 7) (h : ∀ q, q < 49 → m1 q = m2 q) : ∀ p : Nat, p ≤ 7 → alS m1 w room home p = alS m2 w room home p
  | 0, _ => rfl
  | p + 1, hp => by simp only [alS, alS_cg m1 m2 w room home hh h p (by omega), h (home * 7 + p) (by omega)]
/-! the class's statuses and waiting -/
theorem waitA_e {d : Dt} (w4 : Nat → Int) (home tray : Nat) (room : Int) (hh : home < 7) (ht : tray < 4) (h4 : ∀ p, p < 7 → d 4 (tray * 60 + p) = w4 (tray * 60 + p) ∧ 0 ≤ w4 (tray * 60 + p) ∧ w4 (tray * 60 + p) ≤ 100) : ∃ d', L_PB_coaches_l23 (home : Int) (tray : Int) room 0 d = some ((home : Int), room, d') ∧ (∀ k, k ≠ 73 → d' k = d k) ∧ ∀ p, p < 7 → d' 73 p = wtW w4 tray home p := by
  obtain ⟨d', e1, e2, e3⟩ := lp_inv (f := fun q : Int × Int × Int × Int × Dt => L_PB_coaches_y23 q.1 q.2.1 q.2.2.1 q.2.2.2.1 q.2.2.2.2) (fun p x => ((home : Int), (tray : Int), room, (p : Int), x)) (fun x => ((home : Int), room, x))
    (fun p x => (∀ k, k ≠ 73 → x k = d k) ∧ ∀ q, q < p → x 73 q = wtW w4 tray home q) 7
    (by
      rintro p x hp ⟨f1, f2⟩
      obtain ⟨a1, a2, a3⟩ := h4 p hp
      have fin : ∀ v : Int, v = wtW w4 tray home p → ∃ x', L_PB_coaches_b57 (home : Int) (tray : Int) room (p : Int) (p : Int) v x = some (Sum.inl ((home : Int), (tray : Int), room, ((p + 1 : Nat) : Int), x')) ∧ (∀ k, k ≠ 73 → x' k = d k) ∧ ∀ q, q < p + 1 → x' 73 q = wtW w4 tray home q := by
        intro v hv
        unfold L_PB_coaches_b57 L_Ro_setWaiting
        rw [ck_pos ⟨by omega, by omega⟩, bd_e, tn_i, w32_i (show p < 2147483647 by omega)]
        refine ⟨_, rfl, ?_, ?_⟩
        · intro k hk; rw [up2_K _ _ _ hk]; exact f1 k hk
        · intro q hq
          by_cases e : q = p
          · rw [e, up2_s]; exact hv
          · rw [up2_j _ _ _ e]; exact f2 q (by omega)
      dsimp only
      unfold L_PB_coaches_y23
      rw [if_pos (by omega)]
      by_cases q : p = home
      · rw [if_pos (by omega)]
        exact fin 0 (by unfold wtW; rw [if_pos q])
      · unfold L_Tr_at
        rw [if_neg (by omega), ix60 tray p ht (by omega), ck_pos ⟨by omega, by omega⟩, bd_e, tn_i, f1 4 (by decide), a1, w32_s (x := w4 (tray * 60 + p)) (by omega) (by omega)]
        exact fin _ (by unfold wtW; rw [if_neg q]))
    (by
      rintro x _
      dsimp only
      unfold L_PB_coaches_y23
      rw [if_neg (by omega)]) (by omega) d ⟨fun _ _ => rfl, fun q h => by omega⟩
  refine ⟨d', ?_, e2, e3⟩
  unfold L_PB_coaches_l23
  exact e1
theorem statA {d : Dt} (tray : Nat) (ht : tray < 4) : ∃ r, L_PB_coachStatus_l64 (tray : Int) 0 d = some r ∧ ((r = Sum.inl d ∧ ∀ p, p < 7 → 0 ≤ d 4 (tray * 60 + p) ∧ d 4 (tray * 60 + p) ≤ 100) ∨ (r = Sum.inr d ∧ ∃ p, p < 7 ∧ ¬ (0 ≤ d 4 (tray * 60 + p) ∧ d 4 (tray * 60 + p) ≤ 100))) := by
  obtain ⟨d', rfl, a2⟩ := lp_find (f := fun q : Int × Int × Dt => L_PB_coachStatus_y64 q.1 q.2.1 q.2.2) (fun p x => ((tray : Int), (p : Int), x)) (fun _ x => Sum.inr x) (fun x => Sum.inl x) (fun x => x = d) (fun p => ¬ (0 ≤ d 4 (tray * 60 + p) ∧ d 4 (tray * 60 + p) ≤ 100)) 7
    (by
      rintro p x hp rfl
      dsimp only
      unfold L_PB_coachStatus_y64 L_Tr_at
      rw [if_pos (by omega), ix60 tray p ht (by omega), ck_pos ⟨by omega, by omega⟩, bd_e, tn_i, within_e, bd_e, w32_i (show p < 2147483647 by omega)]
      by_cases q : 0 ≤ x 4 (tray * 60 + p) ∧ x 4 (tray * 60 + p) ≤ 100
      · right; rw [if_pos q, if_neg (by decide)]; exact ⟨fun z => z q, _, rfl, rfl⟩
      · left; rw [if_neg q, if_pos rfl]; exact ⟨q, _, rfl, rfl⟩)
    (by
      rintro x rfl
      dsimp only
      unfold L_PB_coachStatus_y64
      rw [if_neg (by omega)]
      exact ⟨_, rfl, rfl⟩) (by omega) d rfl
  unfold L_PB_coachStatus_l64
  rcases a2 with ⟨p, b1, b2, b3, b4⟩ | ⟨b1, b2⟩
  · exact ⟨_, b4, Or.inr ⟨rfl, p, b1, b2⟩⟩
  · refine ⟨_, b2, Or.inl ⟨rfl, fun p hp => ?_⟩⟩
    exact Classical.not_not.mp (b1 p hp)
theorem statB {d : Dt} (tray : Nat) (x1 x3 : Int) (ht : tray < 4) : ∃ r, L_Mo_coaches_l67 x1 (tray : Int) x3 0 d = some r ∧ ((r = Sum.inl (x1, (tray : Int), x3, d) ∧ ∀ p, p < 7 → 0 ≤ d 3 (tray * 60 + p) ∧ d 3 (tray * 60 + p) ≤ 100) ∨ (r = Sum.inr d ∧ ∃ p, p < 7 ∧ ¬ (0 ≤ d 3 (tray * 60 + p) ∧ d 3 (tray * 60 + p) ≤ 100))) := by
  obtain ⟨d', rfl, a2⟩ := lp_find (f := fun q : Int × Int × Int × Int × Dt => L_Mo_coaches_y67 q.1 q.2.1 q.2.2.1 q.2.2.2.1 q.2.2.2.2) (fun p x => (x1, (tray : Int), x3, (p : Int), x)) (fun _ x => Sum.inr x) (fun x => Sum.inl (x1, (tray : Int), x3, x)) (fun x => x = d) (fun p => ¬ (0 ≤ d 3 (tray * 60 + p) ∧ d 3 (tray * 60 + p) ≤ 100)) 7
    (by
      rintro p x hp rfl
      dsimp only
      unfold L_Mo_coaches_y67
      rw [if_pos (by omega), ix60B tray p ht (by omega), ck_pos ⟨by omega, by omega⟩, ck_pos ⟨by omega, by omega⟩, tn_i, w32_i (show p < 2147483647 by omega)]
      by_cases q : x 3 (tray * 60 + p) < 0
      · left; rw [if_pos q]; exact ⟨fun z => by omega, _, rfl, rfl⟩
      · rw [if_neg q]
        by_cases q2 : 100 < x 3 (tray * 60 + p)
        · left; rw [if_pos q2]; exact ⟨fun z => by omega, _, rfl, rfl⟩
        · right; rw [if_neg q2]; exact ⟨fun z => z ⟨by omega, by omega⟩, _, rfl, rfl⟩)
    (by
      rintro x rfl
      dsimp only
      unfold L_Mo_coaches_y67
      rw [if_neg (by omega)]
      exact ⟨_, rfl, rfl⟩) (by omega) d rfl
  unfold L_Mo_coaches_l67
  rcases a2 with ⟨p, b1, b2, b3, b4⟩ | ⟨b1, b2⟩
  · exact ⟨_, b4, Or.inr ⟨rfl, p, b1, b2⟩⟩
  · refine ⟨_, b2, Or.inl ⟨rfl, fun p hp => ?_⟩⟩
    exact Classical.not_not.mp (b1 p hp)
