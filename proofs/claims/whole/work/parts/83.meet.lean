/-! meetPerson, meetEntry; person -/
theorem n_cg {d d' : Dt} (e : Nat) (h1 : d' 57 e = d 57 e) (h2 : d' 53 e = d 53 e) : ∀ n : Nat, (∀ p, p < n → d' 7 p = d 7 p ∧ d' 8 p = d 8 p) → nF d' e n = nF d e n ∧ nP d' e n = nP d e n ∧ nS d' e n = nS d e n
  | 0, _ => ⟨rfl, rfl, rfl⟩
  | n + 1, h => by
    obtain ⟨a, b, c⟩ := n_cg e h1 h2 n (fun p hp => h p (by omega))
    have hd : dB_ d' e n = dB_ d e n := by unfold dB_; rw [h1, h2, (h n (by omega)).1, (h n (by omega)).2]
    simp only [nF, nP, nS, hd, a, b, c, and_self]
theorem meetPerson_e (n : Nat) (d dB : Dt) (hn : n < 40) (c0 : 0 ≤ d 42 0 ∧ d 42 0 ≤ 30) (hbk : ∀ e : Nat, (e : Int) < d 42 0 → d 38 e = dB 57 e ∧ d 39 e = dB 53 e ∧ isNm (dB 57 e)) (hper : d 8 n = dB 7 n ∧ d 9 n = dB 8 n ∧ isNm (dB 7 n)) (hold : ∀ e : Nat, (e : Int) < d 42 0 → d 50 e = nP dB e n ∧ d 51 e = nF dB e n ∧ (nF dB e n < 31 → d 52 e = nS dB e n)) : ∃ d', L_Po_meetPerson (n : Int) d = some (0, d') ∧ (∀ k, k ≠ 50 → k ≠ 51 → k ≠ 52 → k ≠ 53 → d' k = d k) ∧ ∀ e : Nat, (e : Int) < d 42 0 → d' 50 e = nP dB e (n + 1) ∧ d' 51 e = nF dB e (n + 1) ∧ (nF dB e (n + 1) < 31 → d' 52 e = nS dB e (n + 1)) := by
  obtain ⟨d', e1, e2, e3⟩ := lp_inv (f := fun q : Int × Int × Dt => L_Po_meetPerson_y2 q.1 q.2.1 q.2.2) (fun i x => ((n : Int), (i : Int), x)) (fun x => x)
    (fun i x => (∀ k, k ≠ 50 → k ≠ 51 → k ≠ 52 → k ≠ 53 → x k = d k) ∧ ∀ e : Nat, (e : Int) < d 42 0 → if e < i then x 50 e = nP dB e (n + 1) ∧ x 51 e = nF dB e (n + 1) ∧ (nF dB e (n + 1) < 31 → x 52 e = nS dB e (n + 1)) else x 50 e = nP dB e n ∧ x 51 e = nF dB e n ∧ (nF dB e n < 31 → x 52 e = nS dB e n)) (d 42 0).toNat
    (by
      rintro i x hi ⟨f1, f2⟩
      obtain ⟨b1, b2, b3⟩ := hbk i (by omega)
      obtain ⟨p1, p2, p3⟩ := hper
      obtain ⟨x', g1, g2, g3, g4, g5, g6⟩ := compare_e i n x (by omega) hn (by rw [f1 38 (by decide) (by decide) (by decide) (by decide), b1]; exact b3) (by rw [f1 8 (by decide) (by decide) (by decide) (by decide), p1]; exact p3)
      refine ⟨x', ?_, ?_, ?_⟩
      · dsimp only
        unfold L_Po_meetPerson_y2
        rw [f1 42 (by decide) (by decide) (by decide) (by decide), if_pos (by omega), g1, bd_s, w32_i (by omega)]
      · intro k h1 h2 h3 h4
        rw [g2 k h1 h2 h3 h4, f1 k h1 h2 h3 h4]
      · intro e he
        have hold' := f2 e he
        by_cases hei : e = i
        · subst hei
          rw [if_neg (by omega)] at hold'
          rw [if_pos (by omega), g4, g5, g6, f1 38 (by decide) (by decide) (by decide) (by decide), f1 39 (by decide) (by decide) (by decide) (by decide), f1 8 (by decide) (by decide) (by decide) (by decide), f1 9 (by decide) (by decide) (by decide) (by decide), b1, b2, p1, p2, hold'.1, hold'.2.1]
          rw [show distV (dB 57 e) (dB 53 e) (dB 7 n) (dB 8 n) = dB_ dB e n from rfl]
          simp only [nP, nF, nS]
          refine ⟨trivial, trivial, fun hlt => ?_⟩
          by_cases q1 : dB_ dB e n < nF dB e n
          · rw [if_pos q1, if_pos q1]
          · rw [if_neg q1] at hlt
            rw [if_neg q1, if_neg q1]
            rw [hold'.2.2 hlt]
        · obtain ⟨u1, u2, u3⟩ := g3 e hei
          rw [u1, u2, u3]
          by_cases hlt : e < i
          · rw [if_pos hlt] at hold'; rw [if_pos (by omega)]; exact hold'
          · rw [if_neg hlt] at hold'; rw [if_neg (by omega)]; exact hold')
    (by
      rintro x ⟨f1, f2⟩
      dsimp only
      unfold L_Po_meetPerson_y2
      rw [f1 42 (by decide) (by decide) (by decide) (by decide), if_neg (by omega)]) (by omega) d ⟨fun _ _ _ _ _ => rfl, fun e he => by rw [if_neg (by omega)]; exact hold e he⟩
  refine ⟨d', ?_, e2, fun e he => ?_⟩
  · unfold L_Po_meetPerson L_Po_meetPerson_l2
    rw [show lpF (fun q : Int × Int × Dt => L_Po_meetPerson_y2 q.1 q.2.1 q.2.2) FU ((n : Int), 0, d) = _ from e1, lb_s]
    rfl
  · have := e3 e he
    rw [if_pos (by omega)] at this
    exact this
theorem meetEntry_e (e : Nat) (d dB : Dt) (he : e < 30) (c0 : 0 ≤ d 7 3 ∧ d 7 3 ≤ 40) (hbk : d 38 e = dB 57 e ∧ d 39 e = dB 53 e ∧ isNm (dB 57 e)) (hper : ∀ n : Nat, (n : Int) < d 7 3 → d 8 n = dB 7 n ∧ d 9 n = dB 8 n ∧ isNm (dB 7 n)) : ∃ d', L_Po_meetEntry (e : Int) d = some (0, d') ∧ (∀ k, k ≠ 50 → k ≠ 51 → k ≠ 52 → k ≠ 53 → d' k = d k) ∧ (∀ j, j ≠ e → d' 50 j = d 50 j ∧ d' 51 j = d 51 j ∧ d' 52 j = d 52 j) ∧ d' 50 e = nP dB e (d 7 3).toNat ∧ d' 51 e = nF dB e (d 7 3).toNat ∧ (nF dB e (d 7 3).toNat < 31 → d' 52 e = nS dB e (d 7 3).toNat) := by
  obtain ⟨d', e1, e2, e3⟩ := lp_inv (f := fun q : Int × Int × Dt => L_Po_meetEntry_y17 q.1 q.2.1 q.2.2) (fun i x => ((e : Int), (i : Int), x)) (fun x => x)
    (fun i x => (∀ k, k ≠ 50 → k ≠ 51 → k ≠ 52 → k ≠ 53 → x k = d k) ∧ (∀ j, j ≠ e → x 50 j = d 50 j ∧ x 51 j = d 51 j ∧ x 52 j = d 52 j) ∧ x 50 e = nP dB e i ∧ x 51 e = nF dB e i ∧ (nF dB e i < 31 → x 52 e = nS dB e i)) (d 7 3).toNat
    (by
      rintro i x hi ⟨f1, f2, f3, f4, f5⟩
      obtain ⟨b1, b2, b3⟩ := hbk
      obtain ⟨p1, p2, p3⟩ := hper i (by omega)
      obtain ⟨x', g1, g2, g3, g4, g5, g6⟩ := compare_e e i x (by omega) (by omega) (by rw [f1 38 (by decide) (by decide) (by decide) (by decide), b1]; exact b3) (by rw [f1 8 (by decide) (by decide) (by decide) (by decide), p1]; exact p3)
      refine ⟨x', ?_, ?_, ?_, ?_⟩
      · dsimp only
        unfold L_Po_meetEntry_y17
        rw [f1 7 (by decide) (by decide) (by decide) (by decide), if_pos (by omega), g1, bd_s, w32_i (by omega)]
      · intro k h1 h2 h3 h4
        rw [g2 k h1 h2 h3 h4, f1 k h1 h2 h3 h4]
      · intro j hj
        obtain ⟨u1, u2, u3⟩ := g3 j hj
        rw [u1, u2, u3]; exact f2 j hj
      · rw [g4, g5, g6, f1 38 (by decide) (by decide) (by decide) (by decide), f1 39 (by decide) (by decide) (by decide) (by decide), f1 8 (by decide) (by decide) (by decide) (by decide), f1 9 (by decide) (by decide) (by decide) (by decide), b1, b2, p1, p2, f3, f4]
        rw [show distV (dB 57 e) (dB 53 e) (dB 7 i) (dB 8 i) = dB_ dB e i from rfl]
        simp only [nP, nF, nS]
        refine ⟨trivial, trivial, fun hlt => ?_⟩
        by_cases q1 : dB_ dB e i < nF dB e i
        · rw [if_pos q1, if_pos q1]
        · rw [if_neg q1] at hlt
          rw [if_neg q1, if_neg q1]
          rw [f5 hlt])
    (by
      rintro x ⟨f1, f2⟩
      dsimp only
      unfold L_Po_meetEntry_y17
      rw [f1 7 (by decide) (by decide) (by decide) (by decide), if_neg (by omega)]) (by omega) (up2 (up2 d 50 e (-1)) 51 e 31) (by
      refine ⟨fun k h1 h2 _ _ => by rw [up2_K _ _ _ h2, up2_K _ _ _ h1], fun j hj => ?_, ?_, ?_, ?_⟩
      · simp (disch := decide) only [up2_j _ _ _ hj, up2_K, and_self]
      · simp (disch := decide) only [up2_s, up2_K, nP]
      · simp (disch := decide) only [up2_s, up2_K, nF]
      · simp only [nF]; omega)
  refine ⟨d', ?_, e2, e3⟩
  unfold L_Po_meetEntry L_Po_meetEntry_l17
  simp only [tn_i, ck_pos (show (0 : Int) ≤ (e : Int) ∧ (e : Int) < 30 by omega)]
  rw [show lpF (fun q : Int × Int × Dt => L_Po_meetEntry_y17 q.1 q.2.1 q.2.2) FU ((e : Int), 0, up2 (up2 d 50 e (-1)) 51 e 31) = _ from e1, lb_s]
  rfl
theorem T_person {p1 p2 p3 : Int} {dA dB : Dt} (k1 : c64 p1) (hP : RP dA dB) (hH : RH dA dB) (hB : RB dA dB) (hN : RN dA dB) : ∃ (r : Int) (dA' dB' : Dt), L_PB_person p1 p2 p3 dA = some (r, dA') ∧ L_Mo_person p1 p2 p3 dB = some (r, dB') ∧ RS dA' dB' ∧ RP dA' dB' ∧ RH dA' dB' ∧ RN dA' dB' ∧ (dB 0 7 ≤ dB' 0 7) := by
  have keep : ∀ v : Int, RP (up2 dA 0 0 v) (up2 dB 0 0 v) ∧ RH (up2 dA 0 0 v) (up2 dB 0 0 v) ∧ RN (up2 dA 0 0 v) (up2 dB 0 0 v) ∧ dB 0 7 ≤ up2 dB 0 0 v 0 7 := by
    intro v
    refine ⟨?_, ?_, ?_, ?_⟩
    · unfold RP at hP ⊢; simp (disch := decide) only [up2_j, up2_K]; exact hP
    · unfold RH at hH ⊢; simp (disch := decide) only [up2_j, up2_K]; exact hH
    · unfold RN at hN ⊢; simp (disch := decide) only [up2_j, up2_K]
      intro e he
      obtain ⟨a, b, c⟩ := n_cg (d := dB) (d' := up2 dB 0 0 v) e (by rw [up2_K _ _ _ (by decide)]) (by rw [up2_K _ _ _ (by decide)]) (dB 0 7).toNat (fun p _ => ⟨by rw [up2_K _ _ _ (by decide)], by rw [up2_K _ _ _ (by decide)]⟩)
      rw [a, b, c]; exact hN e he
    · rw [up2_j _ _ _ (by decide)]; omega
  have bad : ∃ (r : Int) (dA' dB' : Dt), L_PB_person_b32 p1 p2 p3 0 dA = some (r, dA') ∧ L_Mo_person_b22 dB = some (r, dB') ∧ RS dA' dB' ∧ RP dA' dB' ∧ RH dA' dB' ∧ RN dA' dB' ∧ (dB 0 7 ≤ dB' 0 7) := by
    unfold L_PB_person_b32 L_PB_person_b59 L_Mo_person_b22
    simp only [if_true, i10, if_false, e_ref, bd_s]
    exact ⟨_, _, _, rfl, rfl, RS.of, keep 1⟩
  unfold L_PB_person L_Mo_person
  by_cases c0 : isNm p1
  · simp only [nmA1 _ k1 c0, nmB1 _ k1 c0, bd_s, i10, if_false, within_e, e_Mo_isTrade]
    by_cases c1 : 0 ≤ p2 ∧ p2 ≤ 19
    · simp only [if_pos c1, if_pos (show 0 ≤ p2 ∧ p2 < 20 by omega), i10, if_false, e_PB_isPlace, e_Mo_isPlace, bd_s]
      by_cases c2 : 0 ≤ p3 ∧ p3 ≤ 6
      · simp only [if_pos c2, if_pos (show 0 ≤ p3 ∧ p3 < 7 by omega), i10, if_false]
        unfold L_PB_person_b32 L_PB_person_b59 L_Pe_isFull
        simp only [i10, i40, if_false, if_true, hP.1]
        by_cases hf : dB 0 7 = 40
        · simp only [if_pos hf, if_neg (show ¬ dB 0 7 < 40 by omega), i10, if_false, if_true, bd_s, e_ref]
          exact ⟨_, _, _, rfl, rfl, RS.of, keep 4⟩
        · have hc : 0 ≤ dB 0 7 ∧ dB 0 7 < 40 := by have := hP.2; omega
          have hA7 : up2 dA 0 0 0 7 3 = dB 0 7 := by rw [up2_K _ _ _ (by decide)]; exact hP.1
          obtain ⟨n, hn⟩ : ∃ n : Nat, dB 0 7 = (n : Int) := ⟨(dB 0 7).toNat, by omega⟩
          unfold L_Pe_add
          simp only [hn, if_neg (show ¬ (n : Int) = 40 by omega), if_pos (show (n : Int) < 40 by omega), bd_s, if_true, hA7, tn_i, ck_pos (show (0 : Int) ≤ (n : Int) ∧ (n : Int) < 40 by omega), w32_i (show n < 2147483647 by omega), e_giv]
          have hw : w32 (((n + 1 : Nat) : Int) - 1) = (n : Int) := by rw [w32_s (by omega) (by omega)]; omega
          rw [hw]
          obtain ⟨dA1, hdA1⟩ : ∃ x, x = up2 (up2 (up2 (up2 (up2 dA 0 0 0) 8 n p1) 9 n p2) 10 n p3) 7 3 ((n + 1 : Nat) : Int) := ⟨_, rfl⟩
          obtain ⟨dB1, hdB1⟩ : ∃ x, x = up2 (up2 (up2 (up2 (up2 dB 7 n p1) 8 n p2) 9 n p3) 0 7 ((n + 1 : Nat) : Int)) 0 0 0 := ⟨_, rfl⟩
          rw [← hdA1, ← hdB1]
          have old : ∀ e : Nat, nF dB1 e n = nF dB e n ∧ nP dB1 e n = nP dB e n ∧ nS dB1 e n = nS dB e n := fun e => n_cg e (by rw [hdB1]; simp (disch := decide) only [up2_j, up2_K]) (by rw [hdB1]; simp (disch := decide) only [up2_j, up2_K]) n (fun p hp => by
            have hpn : p ≠ n := by omega
            rw [hdB1]; simp (disch := decide) only [up2_j, up2_K, up2_j _ _ _ hpn, and_self])
          have h42 : dA1 42 = dA 42 := by rw [hdA1]; simp (disch := decide) only [up2_K]
          have h42' : dA1 42 0 = dB 52 0 := by rw [h42]; exact (hB.1 0 (by decide)).1
          obtain ⟨_, z1, z2⟩ := hB.1 0 (by decide)
          obtain ⟨d', m1, m2, m3⟩ := meetPerson_e n dA1 dB1 (by omega) (by rw [h42']; exact ⟨z1, z2⟩) (by
              intro e he
              rw [h42'] at he
              obtain ⟨a1, a2, _, _, a3, _⟩ := hB.2 0 e (by decide) he
              rw [Nat.mul_zero, Nat.zero_add] at a1 a2 a3
              rw [hdA1, hdB1]; simp (disch := decide) only [up2_j, up2_K]
              exact ⟨a1, a2, a3⟩)
            (by rw [hdA1, hdB1]; simp (disch := decide) only [up2_s, up2_j, up2_K]; exact ⟨trivial, trivial, c0⟩)
            (by
              intro e he
              rw [h42'] at he
              obtain ⟨a1, a2, a3⟩ := hN e he
              obtain ⟨o1, o2, o3⟩ := old e
              rw [o1, o2, o3]
              rw [hn, tn_i] at a1 a2 a3
              rw [hdA1]; simp (disch := decide) only [up2_j, up2_K]
              exact ⟨a1, a2, a3⟩)
          rw [m1, bd_s]
          have hB07 : dB1 0 7 = ((n + 1 : Nat) : Int) := by rw [hdB1]; simp (disch := decide) only [up2_s, up2_j, up2_K]
          refine ⟨_, _, _, rfl, rfl, ?_, ?_, ?_, ?_, ?_⟩
          · unfold RS; rw [m2 0 (by decide) (by decide) (by decide) (by decide), hdA1, hdB1]; simp (disch := decide) only [up2_s, up2_j, up2_K]
          · unfold RP; rw [m2 7 (by decide) (by decide) (by decide) (by decide), hB07, hdA1]; simp (disch := decide) only [up2_s, up2_j, up2_K]; exact ⟨trivial, by omega, by omega⟩
          · unfold RH; rw [hB07, m2 8 (by decide) (by decide) (by decide) (by decide), m2 9 (by decide) (by decide) (by decide) (by decide), m2 10 (by decide) (by decide) (by decide) (by decide), hdA1, hdB1]
            simp (disch := decide) only [up2_s, up2_j, up2_K]
            intro i hi
            by_cases hin : i = n
            · subst hin
              simp only [up2_s]
              exact ⟨trivial, trivial, trivial, c0, by omega, by omega, by omega, by omega⟩
            · simp only [up2_j _ _ _ hin]
              exact hH i (by omega)
          · unfold RN
            have h52 : dB1 52 0 = dB 52 0 := by rw [hdB1]; simp (disch := decide) only [up2_j, up2_K]
            rw [h52, hB07, tn_i]
            intro e he
            exact m3 e (by rw [h42']; exact he)
          · rw [hB07]; omega
      · simp only [if_neg c2, if_neg (show ¬ (0 ≤ p3 ∧ p3 < 7) by omega), if_true]; exact bad
    · simp only [if_neg c1, if_neg (show ¬ (0 ≤ p2 ∧ p2 < 20) by omega), if_true, bd_s]; exact bad
  · simp only [nmA0 _ k1 c0, nmB0 _ k1 c0, bd_s, if_true]; exact bad
