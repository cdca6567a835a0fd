/-! COACHES: stops packed, and as places -/
theorem cF_mono (F : Nat → Bool) (p : Nat) (hp : F p = true) : ∀ n : Nat, p < n → cF F p < cF F n
  | 0, h => by omega
  | n + 1, h => by
    simp only [cF]
    by_cases e : p = n
    · subst e; rw [if_pos hp]; omega
    · have := cF_mono F p hp n (by omega); split <;> omega
theorem aF_cF (F : Nat → Bool) (p : Nat) (hp : F p = true) : ∀ n : Nat, p < n → aF F n (cF F p) = p
  | 0, h => by omega
  | n + 1, h => by
    simp only [aF]
    by_cases e : p = n
    · subst e; rw [if_pos ⟨hp, rfl⟩]
    · have := cF_mono F p hp n (by omega)
      rw [if_neg (fun z => by omega)]
      exact aF_cF F p hp n (by omega)
theorem cF_aF (F : Nat → Bool) : ∀ n i : Nat, i < cF F n → F (aF F n i) = true ∧ cF F (aF F n i) = i
  | 0, i, h => by simp only [cF] at h; omega
  | n + 1, i, h => by
    simp only [aF]
    by_cases q : F n = true ∧ i = cF F n
    · rw [if_pos q]; exact ⟨q.1, q.2.symm⟩
    · rw [if_neg q]
      simp only [cF] at h
      refine cF_aF F n i ?_
      by_cases q2 : F n = true
      · rw [if_pos q2] at h
        have : i ≠ cF F n := fun e => q ⟨q2, e⟩
        omega
      · rw [if_neg q2] at h; exact h
def sgm (F : Nat → Bool) (S : Nat) : Nat := stF (fun p => F p && S.testBit (cF F p)) 7
theorem sgm_b (F : Nat → Bool) (S : Nat) : sgm F S < 128 := stF_b _ 7
theorem sgm_t (F : Nat → Bool) (S p : Nat) (hp : p < 7) : (sgm F S).testBit p = (F p && S.testBit (cF F p)) := by
  unfold sgm; rw [stF_t, decide_eq_true hp, Bool.true_and]
theorem sgm_ps (F : Nat → Bool) (S i : Nat) (hi : i < cF F 7) : (sgm F S).testBit (aF F 7 i) = S.testBit i := by
  obtain ⟨h1, h2⟩ := cF_aF F 7 i hi
  rw [sgm_t F S _ (aF_lt F 7 i hi), h1, h2, Bool.true_and]
theorem sgm_inv (F : Nat → Bool) (S p : Nat) (hp : p < 7) (h : (sgm F S).testBit p = true) : F p = true ∧ S.testBit (cF F p) = true ∧ cF F p < cF F 7 ∧ aF F 7 (cF F p) = p := by
  rw [sgm_t F S p hp, Bool.and_eq_true] at h
  exact ⟨h.1, h.2, cF_mono F p h.1 7 hp, aF_cF F p h.1 7 hp⟩
theorem sgm_d (F : Nat → Bool) (S T : Nat) (hS : S < 128) : sgm F (dif S T) = dif (sgm F S) (sgm F T) := by
  have h1 := sgm_b F S
  have h2 := dif_le (sgm F S) (sgm F T)
  apply ext7 _ _ (sgm_b F _) (by omega)
  intro p hp
  have hc := cF_le F p
  rw [sgm_t F _ p hp, dif_t _ _ _ (by omega), dif_t _ _ _ (by omega), sgm_t F S p hp, sgm_t F T p hp]
  cases F p <;> simp
theorem sgm_1 (F : Nat → Bool) (l : Nat) (hl : l < cF F 7) : sgm F (2 ^ l) = 2 ^ aF F 7 l := by
  have h0 := aF_lt F 7 l hl
  have h1 : 2 ^ aF F 7 l < 2 ^ 7 := Nat.pow_lt_pow_right (by decide) h0
  obtain ⟨c1, c2⟩ := cF_aF F 7 l hl
  apply ext7 _ _ (sgm_b F _) (by omega)
  intro p hp
  rw [sgm_t F _ p hp, Nat.testBit_two_pow, Nat.testBit_two_pow]
  by_cases e : aF F 7 l = p
  · subst e; rw [c1, c2, decide_eq_true rfl, decide_eq_true rfl]; rfl
  · rw [decide_eq_false e]
    cases hF : F p
    · rfl
    · rw [Bool.true_and, decide_eq_false]
      intro z
      have := aF_cF F p hF 7 hp
      rw [← z] at this
      exact e this
theorem sgm_0 (F : Nat → Bool) : sgm F 0 = 0 := by
  apply ext7 _ _ (sgm_b F _) (by decide)
  intro p hp
  rw [sgm_t F _ p hp, Nat.zero_testBit, Nat.zero_testBit, Bool.and_false]
theorem sgm_n0 (F : Nat → Bool) (S : Nat) (hS : S < 2 ^ cF F 7) (h0 : S ≠ 0) : sgm F S ≠ 0 := by
  obtain ⟨i, hi, hb⟩ := ex_bit S _ h0 hS
  intro e
  have := sgm_ps F S i hi
  rw [e, Nat.zero_testBit, hb] at this; cases this
theorem sgm_all (F : Nat → Bool) : sgm F (2 ^ cF F 7 - 1) = stF F 7 := by
  apply ext7 _ _ (sgm_b F _) (stF_b F 7)
  intro p hp
  rw [sgm_t F _ p hp, stF_t, decide_eq_true hp, Bool.true_and, Nat.testBit_two_pow_sub_one]
  cases hF : F p
  · rfl
  · rw [decide_eq_true (cF_mono F p hF 7 hp)]; rfl
theorem sgm_set (F : Nat → Bool) (S : Nat) : sgm F S &&& stF F 7 = sgm F S := by
  apply (sub_t _ _ (stF_b F 7) (sgm_b F S)).2
  intro p hp hb
  rw [stF_t, decide_eq_true hp, Bool.true_and]
  exact (sgm_inv F S p hp hb).1
/-- every set of places within a packed one is packed -/
theorem sgm_sur (F : Nat → Bool) (S U : Nat) (hK : cF F 7 ≤ 6) (hS : S < 2 ^ cF F 7) (hU : U < 128) (hsub : U &&& sgm F S = U) : ∃ T, T < 2 ^ cF F 7 ∧ sgm F T = U ∧ T &&& S = T := by
  have h64 := p64 _ hK
  have hb := stF_b (fun i => U.testBit (aF F 7 i)) (cF F 7)
  refine ⟨stF (fun i => U.testBit (aF F 7 i)) (cF F 7), hb, ?_, ?_⟩
  · apply ext7 _ _ (sgm_b F _) hU
    intro p hp
    rw [sgm_t F _ p hp, stF_t]
    cases hF : F p
    · cases hc : U.testBit p
      · rfl
      · have := (sub_t _ _ (sgm_b F S) hU).1 hsub p hp hc
        rw [sgm_t F S p hp, hF] at this; cases this
    · rw [Bool.true_and, decide_eq_true (cF_mono F p hF 7 hp), Bool.true_and, aF_cF F p hF 7 hp]
  · apply (sub_t _ _ (by omega) (by omega)).2
    intro i hi hbit
    rw [stF_t, Bool.and_eq_true, decide_eq_true_eq] at hbit
    have := (sub_t _ _ (sgm_b F S) hU).1 hsub (aF F 7 i) (aF_lt F 7 i hbit.1) hbit.2
    rw [sgm_ps F S i hbit.1] at this
    exact this
theorem sgm_sub (F : Nat → Bool) (S T : Nat) (hS : S < 128) (hT : T < 128) (h : T &&& S = T) : sgm F T &&& sgm F S = sgm F T := by
  apply (sub_t _ _ (sgm_b F S) (sgm_b F T)).2
  intro p hp hb
  obtain ⟨h1, h2, h3, h4⟩ := sgm_inv F T p hp hb
  have hc := cF_le F p
  rw [sgm_t F S p hp, h1, (sub_t _ _ hS hT).1 h _ (by omega) h2]; rfl
theorem lowI_u (S i : Nat) (h0 : S ≠ 0) (hS : S < 128) (h1 : S.testBit i = true) (h2 : ∀ j, j < i → S.testBit j = false) : lowI 7 S = i := by
  rcases lowI_p ⟨S, hS⟩ with h | ⟨_, a2, _, a4⟩
  · dsimp only at h; omega
  · dsimp only at a2 a4
    rcases Nat.lt_trichotomy (lowI 7 S) i with h | h | h
    · rw [h2 _ h] at a2; cases a2
    · exact h
    · have := List.all_eq_true.mp a4 i (List.mem_range.mpr h)
      rw [h1] at this; cases this
theorem lowI_f (S j : Nat) (h0 : S ≠ 0) (hS : S < 128) (hj : j < lowI 7 S) : S.testBit j = false := by
  rcases lowI_p ⟨S, hS⟩ with h | ⟨_, _, _, a4⟩
  · dsimp only at h; omega
  · dsimp only at a4
    have := List.all_eq_true.mp a4 j (List.mem_range.mpr hj)
    cases hc : S.testBit j
    · rfl
    · rw [hc] at this; cases this
theorem sgm_low (F : Nat → Bool) (S : Nat) (hK : cF F 7 ≤ 6) (hS : S < 2 ^ cF F 7) (h0 : S ≠ 0) : lowI 7 (sgm F S) = aF F 7 (lowI 7 S) ∧ lowI 7 S < cF F 7 := by
  have h64 := p64 _ hK
  obtain ⟨_, _, hb⟩ := one_vis S h0 (by omega)
  have hi : lowI 7 S < cF F 7 := by
    by_cases q : lowI 7 S < cF F 7
    · exact q
    · have : S.testBit (lowI 7 S) = false := Nat.testBit_lt_two_pow (Nat.lt_of_lt_of_le hS (Nat.pow_le_pow_right (by decide) (by omega)))
      rw [this] at hb; cases hb
  refine ⟨lowI_u _ _ (sgm_n0 F S hS h0) (sgm_b F S) (by rw [sgm_ps F S _ hi]; exact hb) (fun j hj => ?_), hi⟩
  have hlt := aF_lt F 7 _ hi
  cases hc : (sgm F S).testBit j
  · rfl
  · obtain ⟨c1, c2, c3, c4⟩ := sgm_inv F S j (by omega) hc
    have hm := cF_mono F j c1 (aF F 7 (lowI 7 S)) hj
    rw [(cF_aF F 7 _ hi).2] at hm
    rw [lowI_f S _ h0 (by omega) hm] at c2; cases c2
theorem sgm_ld (F : Nat → Bool) (rs : Nat → Int) (S : Nat) : ∀ n : Nat, n ≤ 7 → ldA (aF F 7) rs S (cF F n) = ldB rs (sgm F S) n
  | 0, _ => rfl
  | n + 1, hn => by
    have ih := sgm_ld F rs S n (by omega)
    simp only [cF, ldB]
    rw [sgm_t F S n (by omega)]
    by_cases q : F n = true
    · rw [if_pos q, q, Bool.true_and]
      simp only [ldA]
      rw [ih, aF_cF F n q 7 (by omega)]
    · rw [if_neg q, ih]
      have : F n = false := by
        cases hF : F n
        · rfl
        · exact absurd hF q
      rw [this, Bool.false_and, if_neg (by decide), Int.add_zero]
/-! the tables are one -/
section EQ
variable {F : Nat → Bool} {x y : Dt} {home : Nat} {rs ma mb : Nat → Int} {room : Int}
theorem ways_eq (hK : cF F 7 ≤ 6) (hh : home < 7) (hFh : F home = false) (hb : BC (cF F 7) (aF F 7) rs ma) (hm : ∀ q, q < 49 → ma q = mb q) (hO : ∀ S l, 1 ≤ S → S < 2 ^ cF F 7 → l < cF F 7 → S.testBit l = true → tabO x (cF F 7) home (aF F 7) ma S l) (hW : ∀ s l, 1 ≤ s → s < 128 → l < 7 → tabW y home mb s l) : ∀ S, 1 ≤ S → S < 2 ^ cF F 7 → ∀ l, l < cF F 7 → S.testBit l = true → x 76 (S * 6 + l) = y 77 (sgm F S * 7 + aF F 7 l) := by
  intro S
  induction S using Nat.strongRecOn with
  | ind S ih =>
    intro h1 hS l hl hbit
    obtain ⟨b1, b2, b3, b4⟩ := id hb
    have h64 := p64 _ hK
    have hpl := aF_lt F 7 l hl
    have hFl := (cF_aF F 7 l hl).1
    have hne : aF F 7 l ≠ home := by intro e; rw [e, hFh] at hFl; cases hFl
    have hs0 := sgm_n0 F S hS (by omega)
    have hsb := sgm_b F S
    obtain ⟨t1, _⟩ := hO S l h1 hS hl hbit
    obtain ⟨w1, _⟩ := hW (sgm F S) (aF F 7 l) (by omega) hsb hpl
    have hdl := dif_lt S l (by omega) hbit
    have hdd : dif (sgm F S) (2 ^ aF F 7 l) = sgm F (dif S (2 ^ l)) := by rw [sgm_d F S _ (by omega), sgm_1 F l hl]
    unfold EqO at t1
    unfold EqW at w1
    rw [if_pos ⟨by rw [sgm_ps F S l hl]; exact hbit, hne⟩, hdd] at w1
    rw [t1, w1]
    have step : ∀ k, k < cF F 7 → (dif S (2 ^ l)).testBit k = true → x 76 (dif S (2 ^ l) * 6 + k) = y 77 (sgm F (dif S (2 ^ l)) * 7 + aF F 7 k) ∧ 0 ≤ x 76 (dif S (2 ^ l) * 6 + k) ∧ x 76 (dif S (2 ^ l) * 6 + k) ≤ 64000 := by
      intro k hk hc
      have hd1 : 1 ≤ dif S (2 ^ l) := by
        by_cases z : dif S (2 ^ l) = 0
        · rw [z, Nat.zero_testBit] at hc; cases hc
        · omega
      obtain ⟨_, o1, o2⟩ := hO _ k hd1 (by omega) hk hc
      exact ⟨ih _ hdl hd1 (by omega) k hk hc, o1, by omega⟩
    refine fm_eq _ _ _ _ _ _ _ _ ?_ ?_ ?_
    · intro k hk hc
      obtain ⟨e1, e2, e3⟩ := step k hk hc
      have hpk := aF_lt F 7 k hk
      refine ⟨aF F 7 k, hpk, ?_, ?_⟩
      · rw [sgm_ps F _ k hk, hc, ← e1, decide_eq_true (by omega)]; rfl
      · rw [← e1, hm _ (by omega)]
    · intro k hk hc
      rw [Bool.and_eq_true] at hc
      obtain ⟨c1, c2, c3, c4⟩ := sgm_inv F _ k hk hc.1
      obtain ⟨e1, e2, e3⟩ := step (cF F k) c3 c2
      rw [c4] at e1
      refine ⟨cF F k, c3, c2, ?_⟩
      rw [c4, e1, hm _ (by omega)]
    · by_cases z : dif S (2 ^ l) = 0
      · left; rw [z, sgm_0, if_pos rfl, if_pos rfl, hm _ (by omega)]
      · right
        obtain ⟨k, hk, hc⟩ := ex_bit _ _ z (show dif S (2 ^ l) < 2 ^ cF F 7 by omega)
        obtain ⟨e1, e2, e3⟩ := step k hk hc
        have hpk := aF_lt F 7 k hk
        have hmk := b4 (aF F 7 k * 7 + aF F 7 l) (by omega)
        have hn := sgm_n0 F _ (show dif S (2 ^ l) < 2 ^ cF F 7 by omega) z
        refine ⟨k, hk, hc, ?_, ?_⟩
        · rw [if_neg z]; omega
        · rw [if_neg hn]; omega
theorem tours_eq (hK : cF F 7 ≤ 6) (hh : home < 7) (hFh : F home = false) (hb : BC (cF F 7) (aF F 7) rs ma) (hm : ∀ q, q < 49 → ma q = mb q) (hO : ∀ S l, 1 ≤ S → S < 2 ^ cF F 7 → l < cF F 7 → S.testBit l = true → tabO x (cF F 7) home (aF F 7) ma S l) (hW : ∀ s l, 1 ≤ s → s < 128 → l < 7 → tabW y home mb s l) (S : Nat) (h1 : 1 ≤ S) (hS : S < 2 ^ cF F 7) : trA x (cF F 7) home (aF F 7) ma S = rdB y home mb (sgm F S) 7 ∧ trA x (cF F 7) home (aF F 7) ma S ≤ 65000 := by
  obtain ⟨b1, b2, b3, b4⟩ := id hb
  have h64 := p64 _ hK
  obtain ⟨k, hk, hc⟩ := ex_bit S _ (by omega) hS
  have hw := ways_eq hK hh hFh hb hm hO hW S h1 hS
  have tb : x 76 (S * 6 + k) + ma (aF F 7 k * 7 + home) ≤ 65000 := by
    obtain ⟨_, o1, o2⟩ := hO S k h1 hS hk hc
    have hpk := aF_lt F 7 k hk
    have := b4 (aF F 7 k * 7 + home) (by omega)
    omega
  constructor
  · unfold trA rdB
    refine fm_eq _ _ _ _ _ _ _ _ ?_ ?_ (Or.inr ⟨k, hk, hc, by omega, by omega⟩)
    · intro l hl hc
      have hpl := aF_lt F 7 l hl
      have hFl := (cF_aF F 7 l hl).1
      have hne : aF F 7 l ≠ home := by intro e; rw [e, hFh] at hFl; cases hFl
      refine ⟨aF F 7 l, hpl, ?_, ?_⟩
      · rw [sgm_ps F _ l hl, hc, decide_eq_true hne]; rfl
      · rw [← hw l hl hc, hm _ (by omega)]
    · intro l hl hc
      rw [Bool.and_eq_true] at hc
      obtain ⟨c1, c2, c3, c4⟩ := sgm_inv F _ l hl hc.1
      have e1 := hw (cF F l) c3 c2
      rw [c4] at e1
      refine ⟨cF F l, c3, c2, ?_⟩
      rw [c4, e1, hm _ (by omega)]
  · unfold trA
    have := fm_k (fun l => S.testBit l) (fun l => x 76 (S * 6 + l) + ma (aF F 7 l * 7 + home)) 1000000 k hc _ hk
    omega
end EQ
