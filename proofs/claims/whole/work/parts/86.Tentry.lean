/-! entry -/
theorem costB_cg {d d' : Dt} (a b : Nat) (h1 : d' 57 a = d 57 a ∧ d' 53 a = d 53 a ∧ d' 54 a = d 54 a ∧ d' 55 a = d 55 a) (h2 : d' 57 b = d 57 b ∧ d' 53 b = d 53 b ∧ d' 54 b = d 54 b ∧ d' 55 b = d 55 b) : costB d' a b = costB d a b := by
  unfold costB; rw [h1.1, h1.2.1, h1.2.2.1, h1.2.2.2, h2.1, h2.2.1, h2.2.2.1, h2.2.2.2]
theorem slotA (b n : Nat) (hb : b < 3) (hn : n < 31) : w32 (w32 ((b : Int) * 30) + (n : Int)) = ((30 * b + n : Nat) : Int) := by rw [w32_s (x := (b : Int) * 30) (by omega) (by omega), w32_s (by omega) (by omega)]; omega
theorem slotB (b n : Nat) (hb : b < 3) (hn : n < 31) : w32 (w32 (30 * (b : Int)) + (n : Int)) = ((30 * b + n : Nat) : Int) := by rw [w32_s (x := 30 * (b : Int)) (by omega) (by omega), w32_s (by omega) (by omega)]; omega
theorem w32_p (n : Nat) (h : n < 2147483647) : w32 (((n + 1 : Nat) : Int) - 1) = (n : Int) := by rw [w32_s (by omega) (by omega)]; omega
def enA (dA : Dt) (b n s : Nat) (p2 p3 p4 p5 : Int) : Dt := up2 (up2 (up2 (up2 (up2 (up2 (up2 dA 0 0 0) 38 s p2) 39 s p3) 40 s p4) 41 s p5) 42 b ((n + 1 : Nat) : Int)) 37 10 0
def enB (dB : Dt) (b n s : Nat) (p2 p3 p4 p5 : Int) : Dt := up2 (up2 (up2 (up2 (up2 (up2 dB 57 s p2) 53 s p3) 54 s p4) 55 s p5) 52 b ((n + 1 : Nat) : Int)) 0 0 0
theorem ent_RB {dA dB : Dt} (hB : RB dA dB) (b n : Nat) (p2 p3 p4 p5 : Int) (hb : b < 3) (hn : dB 52 b = (n : Int)) (hn30 : n < 30) (c2 : isNm p2) (c3 : -1 ≤ p3 ∧ p3 ≤ 19) (c4 : 0 ≤ p4 ∧ p4 ≤ 1439) (c5 : 1 ≤ p5 ∧ p5 ≤ 15) : RB (enA dA b n (30 * b + n) p2 p3 p4 p5) (enB dB b n (30 * b + n) p2 p3 p4 p5) := by
  unfold RB enA enB
  simp (disch := decide) only [up2_j, up2_K]
  constructor
  · intro b' hb'
    by_cases e : b' = b
    · subst e; rw [up2_s, up2_s]; omega
    · rw [up2_j _ _ _ e, up2_j _ _ _ e]; simp (disch := decide) only [up2_K]; exact hB.1 b' hb'
  · intro b' i hb' hi
    by_cases e : 30 * b' + i = 30 * b + n
    · rw [e]; simp only [up2_s]
      exact ⟨trivial, trivial, trivial, trivial, c2, c3, c4, c5⟩
    · simp (disch := decide) only [up2_j _ _ _ e, up2_K]
      refine hB.2 b' i hb' ?_
      by_cases eb : b' = b
      · subst eb; rw [up2_s] at hi; omega
      · rw [up2_j _ _ _ eb] at hi; simp (disch := decide) only [up2_K] at hi; exact hi
theorem enB_o (dB : Dt) (b n s : Nat) (p2 p3 p4 p5 : Int) (t : Nat) (h : t ≠ s) : enB dB b n s p2 p3 p4 p5 57 t = dB 57 t ∧ enB dB b n s p2 p3 p4 p5 53 t = dB 53 t ∧ enB dB b n s p2 p3 p4 p5 54 t = dB 54 t ∧ enB dB b n s p2 p3 p4 p5 55 t = dB 55 t := by
  unfold enB
  simp (disch := decide) only [up2_K, up2_j _ _ _ h, and_self]
theorem enB_n (dB : Dt) (b n s : Nat) (p2 p3 p4 p5 : Int) (b' : Nat) : enB dB b n s p2 p3 p4 p5 52 b' = if b' = b then ((n + 1 : Nat) : Int) else dB 52 b' := by
  unfold enB
  simp (disch := decide) only [up2_K]
  by_cases e : b' = b
  · subst e; rw [up2_s, if_pos rfl]
  · rw [up2_j _ _ _ e, if_neg e]; simp (disch := decide) only [up2_K]
theorem enA_n (dA : Dt) (b n s : Nat) (p2 p3 p4 p5 : Int) (k : Nat) (h : k < 37 ∨ 43 ≤ k) (h0 : k ≠ 0) : enA dA b n s p2 p3 p4 p5 k = dA k := by
  unfold enA
  rw [up2_K _ _ _ (by omega), up2_K _ _ _ (by omega), up2_K _ _ _ (by omega), up2_K _ _ _ (by omega), up2_K _ _ _ (by omega), up2_K _ _ _ (by omega), up2_K _ _ _ (by omega)]
theorem T_entry {p1 p2 p3 p4 p5 : Int} {dA dB : Dt} (k2 : c64 p2) (hP : RP dA dB) (hH : RH dA dB) (hB : RB dA dB) (hC : RC dA dB) (hN : RN dA dB) : ∃ (r : Int) (dA' dB' : Dt), L_PB_entry p1 p2 p3 p4 p5 dA = some (r, dA') ∧ L_Mo_entry p1 p2 p3 p4 p5 dB = some (r, dB') ∧ RS dA' dB' ∧ RB dA' dB' ∧ RC dA' dB' ∧ RN dA' dB' ∧ dB 52 0 ≤ dB' 52 0 ∧ (dA' 37 10 = 0 ∨ ((∀ k, k ≠ 0 → dA' k = dA k) ∧ ∀ k, k ≠ 0 → dB' k = dB k)) := by
  have keep : ∀ v : Int, RB (up2 dA 0 0 v) (up2 dB 0 0 v) ∧ RC (up2 dA 0 0 v) (up2 dB 0 0 v) ∧ RN (up2 dA 0 0 v) (up2 dB 0 0 v) ∧ dB 52 0 ≤ up2 dB 0 0 v 52 0 ∧ (up2 dA 0 0 v 37 10 = 0 ∨ ((∀ k, k ≠ 0 → up2 dA 0 0 v k = dA k) ∧ ∀ k, k ≠ 0 → up2 dB 0 0 v k = dB k)) := by
    intro v
    refine ⟨?_, ?_, ?_, ?_, Or.inr ⟨fun k hk => up2_K _ _ _ hk, fun k hk => up2_K _ _ _ hk⟩⟩
    · unfold RB at hB ⊢; simp (disch := decide) only [up2_j, up2_K]; exact hB
    · unfold RC at hC ⊢; unfold costB at hC ⊢; simp (disch := decide) only [up2_j, up2_K]; exact hC
    · unfold RN at hN ⊢; simp (disch := decide) only [up2_j, up2_K]
      intro e he
      obtain ⟨a, b, c⟩ := n_cg (d := dB) (d' := up2 dB 0 0 v) e (by rw [up2_K _ _ _ (by decide)]) (by rw [up2_K _ _ _ (by decide)]) (dB 0 7).toNat (fun p _ => ⟨by rw [up2_K _ _ _ (by decide)], by rw [up2_K _ _ _ (by decide)]⟩)
      rw [a, b, c]; exact hN e he
    · rw [up2_K _ _ _ (by decide)]; omega
  have bad : ∃ (r : Int) (dA' dB' : Dt), L_PB_entry_b55 p1 p2 p3 p4 p5 0 dA = some (r, dA') ∧ L_Mo_entry_b46 dB = some (r, dB') ∧ RS dA' dB' ∧ RB dA' dB' ∧ RC dA' dB' ∧ RN dA' dB' ∧ dB 52 0 ≤ dB' 52 0 ∧ (dA' 37 10 = 0 ∨ ((∀ k, k ≠ 0 → dA' k = dA k) ∧ ∀ k, k ≠ 0 → dB' k = dB k)) := by
    unfold L_PB_entry_b55 L_PB_entry_b83 L_Mo_entry_b46
    simp only [if_true, i10, if_false, e_ref, bd_s]
    exact ⟨_, _, _, rfl, rfl, RS.of, keep 1⟩
  unfold L_PB_entry L_Mo_entry
  simp only [within_e, bd_s]
  rcases (Classical.em (0 ≤ p1 ∧ p1 ≤ 2)).symm with c0 | c0
  · simp only [if_neg c0, if_true]
    by_cases c01 : p1 < 0
    · simp only [if_pos c01]; exact bad
    · simp only [if_neg c01, if_pos (show 2 < p1 by omega)]; exact bad
  simp only [if_pos c0, if_neg (show ¬ p1 < 0 by omega), if_neg (show ¬ 2 < p1 by omega), i10, if_false]
  rcases (Classical.em (isNm p2)).symm with c1 | c1
  · simp only [nmA0 _ k2 c1, nmB0 _ k2 c1, bd_s, if_true]; exact bad
  simp only [nmA1 _ k2 c1, nmB1 _ k2 c1, bd_s, i10, if_false, within_e, e_Mo_isTrade]
  rcases (Classical.em (-1 ≤ p3 ∧ p3 ≤ 19)).symm with c2 | c2
  · simp only [if_neg c2, if_neg (show ¬ p3 = -1 by omega), if_neg (show ¬ (0 ≤ p3 ∧ p3 < 20) by omega), if_true]; exact bad
  have e30 : ∀ X : Option (Int × Dt), (if p3 = -1 then L_Mo_entry_b30 p1 p2 p3 p4 p5 dB else if (if 0 ≤ p3 ∧ p3 < 20 then (1 : Int) else 0) = 0 then X else L_Mo_entry_b30 p1 p2 p3 p4 p5 dB) = L_Mo_entry_b30 p1 p2 p3 p4 p5 dB := by
    intro X
    by_cases q : p3 = -1
    · rw [if_pos q]
    · rw [if_neg q, if_pos (show 0 ≤ p3 ∧ p3 < 20 by omega), if_neg (by decide)]
  rw [e30]
  unfold L_Mo_entry_b30
  simp only [if_pos c2, i10, if_false, e_PB_isMinute, e_Mo_isMinute, bd_s]
  rcases (Classical.em (0 ≤ p4 ∧ p4 ≤ 1439)).symm with c3 | c3
  · simp only [if_neg c3, if_true]; exact bad
  simp only [if_pos c3, i10, if_false, e_PB_isSet, e_Mo_isSet, bd_s]
  rcases (Classical.em (1 ≤ p5 ∧ p5 ≤ 15)).symm with c4 | c4
  · simp only [if_neg c4, if_true]; exact bad
  obtain ⟨b, rfl⟩ : ∃ b : Nat, p1 = (b : Int) := ⟨p1.toNat, by omega⟩
  have hb : b < 3 := by omega
  obtain ⟨z1, z2, z3⟩ := hB.1 b hb
  obtain ⟨n, hn⟩ : ∃ n : Nat, dB 52 b = (n : Int) := ⟨(dB 52 b).toNat, by omega⟩
  unfold L_PB_entry_b55 L_PB_entry_b83 L_Bo_isFull
  simp only [if_pos c4, i10, i40, if_false, tn_i, ck_pos (show (0 : Int) ≤ (b : Int) ∧ (b : Int) < 3 by omega), z1, hn]
  by_cases hf : (n : Int) = 30
  · simp only [if_pos hf, if_neg (show ¬ (n : Int) < 30 by omega), i10, if_false, bd_s, e_ref]
    exact ⟨_, _, _, rfl, rfl, RS.of, keep 4⟩
  have hn30 : n < 30 := by omega
  obtain ⟨s, hs⟩ : ∃ s : Nat, s = 30 * b + n := ⟨_, rfl⟩
  have cs : (0 : Int) ≤ (s : Int) ∧ (s : Int) < 90 := by omega
  have hA42 : up2 dA 0 0 0 42 b = (n : Int) := by rw [up2_K _ _ _ (by decide), z1, hn]
  unfold L_Bo_add
  simp only [if_neg hf, if_pos (show (n : Int) < 30 by omega), bd_e, if_true, tn_i, ck_pos (show (0 : Int) ≤ (b : Int) ∧ (b : Int) < 3 by omega)]
  rw [hA42, lt_e, slotA b n hb (by omega), slotB b n hb (by omega), lt_e, lt_e, ← hs]
  simp only [ck_pos cs, tn_i, e_giv, up2_s, bd_e]
  rw [w32_i (show n < 2147483647 by omega), w32_p n (show n < 2147483647 by omega)]
  have hEA : up2 (up2 (up2 (up2 (up2 (up2 (up2 dA 0 0 0) 38 s p2) 39 s p3) 40 s p4) 41 s p5) 42 b ((n + 1 : Nat) : Int)) 37 10 0 = enA dA b n s p2 p3 p4 p5 := rfl
  have hEB : up2 (up2 (up2 (up2 (up2 (up2 dB 57 s p2) 53 s p3) 54 s p4) 55 s p5) 52 b ((n + 1 : Nat) : Int)) 0 0 0 = enB dB b n s p2 p3 p4 p5 := rfl
  rw [hEA, hEB]
  have hRB := ent_RB hB b n p2 p3 p4 p5 hb hn hn30 c1 c2 c3 c4
  rw [← hs] at hRB
  obtain ⟨eA, heA⟩ : ∃ x, x = enA dA b n s p2 p3 p4 p5 := ⟨_, rfl⟩
  obtain ⟨eB, heB⟩ : ∃ x, x = enB dB b n s p2 p3 p4 p5 := ⟨_, rfl⟩
  have o1 : ∀ t, t ≠ s → eB 57 t = dB 57 t ∧ eB 53 t = dB 53 t ∧ eB 54 t = dB 54 t ∧ eB 55 t = dB 55 t := fun t ht => by rw [heB]; exact enB_o dB b n s p2 p3 p4 p5 t ht
  have o2 : ∀ b', eB 52 b' = if b' = b then ((n + 1 : Nat) : Int) else dB 52 b' := fun b' => by rw [heB]; exact enB_n dB b n s p2 p3 p4 p5 b'
  have o3 : ∀ k, (k < 37 ∨ 43 ≤ k) → k ≠ 0 → eA k = dA k := fun k h h0 => by rw [heA]; exact enA_n dA b n s p2 p3 p4 p5 k h h0
  have o4 : eA 0 0 = 0 := by rw [heA]; unfold enA; simp (disch := decide) only [up2_s, up2_j, up2_K]
  have o5 : eA 37 10 = 0 := by rw [heA]; unfold enA; simp only [up2_s]
  have o6 : eB 0 0 = 0 ∧ eB 0 7 = dB 0 7 ∧ eB 7 = dB 7 ∧ eB 8 = dB 8 := by rw [heB]; unfold enB; simp (disch := decide) only [up2_s, up2_j, up2_K, and_self]
  rw [← heA, ← heB] at hRB ⊢
  clear hEA hEB heA heB
  have s0 : ∀ b', b' < 3 → dB 52 b' ≤ 30 := fun b' h => (hB.1 b' h).2.2
  have mono : dB 52 0 ≤ eB 52 0 := by
    rw [o2]
    by_cases h : 0 = b
    · rw [if_pos h]; subst h; omega
    · rw [if_neg h]; omega
  have old : ∀ e : Nat, e ≠ s → nF eB e (dB 0 7).toNat = nF dB e (dB 0 7).toNat ∧ nP eB e (dB 0 7).toNat = nP dB e (dB 0 7).toNat ∧ nS eB e (dB 0 7).toNat = nS dB e (dB 0 7).toNat := fun e he => n_cg e (o1 e he).1 (o1 e he).2.1 _ (fun p _ => ⟨by rw [o6.2.2.1], by rw [o6.2.2.2]⟩)
  by_cases hb0 : b = 0
  · subst hb0
    have hsn : s = n := by omega
    subst hsn
    obtain ⟨x, y1, y2, y3, y4⟩ := cAO_e hRB s (by rw [o2, if_pos rfl]; omega)
    obtain ⟨x', m1, m2, m3, m4, m5, m6⟩ := meetEntry_e s x eB hn30 (by rw [y2 7 (by decide) (by decide), o3 7 (by decide) (by decide), hP.1]; exact hP.2)
      (by
        obtain ⟨u1, u2, _, _, u3, _⟩ := hRB.e0 s (by rw [o2, if_pos rfl]; omega)
        rw [y2 38 (by decide) (by decide), y2 39 (by decide) (by decide)]
        exact ⟨u1, u2, u3⟩)
      (by
        intro p hp
        rw [y2 7 (by decide) (by decide), o3 7 (by decide) (by decide), hP.1] at hp
        obtain ⟨u1, u2, _, u3, _⟩ := hH p hp
        rw [y2 8 (by decide) (by decide), y2 9 (by decide) (by decide), o3 8 (by decide) (by decide), o3 9 (by decide) (by decide), o6.2.2.1, o6.2.2.2]
        exact ⟨u1, u2, u3⟩)
    have h73 : x 7 3 = dB 0 7 := by rw [y2 7 (by decide) (by decide), o3 7 (by decide) (by decide), hP.1]
    rw [h73] at m4 m5 m6
    simp only [show ((0 : Nat) : Int) = 0 by rfl, if_true, y1, bd_s, m1]
    refine ⟨_, _, _, rfl, rfl, ?_, ?_, ?_, ?_, mono, Or.inl ?_⟩
    · unfold RS; rw [m2 0 (by decide) (by decide) (by decide) (by decide), y2 0 (by decide) (by decide), o4, o6.1]
    · exact hRB.cgA (fun k h1 h2 => by rw [m2 k (by omega) (by omega) (by omega) (by omega), y2 k (by omega) (by omega)])
    · intro b' i j hb' hi hj
      rw [o2, if_pos rfl] at hi
      rw [o2, if_neg (by omega)] at hj
      have hj30 := s0 (b' + 1) (by omega)
      rw [m2 43 (by decide) (by decide) (by decide) (by decide)]
      by_cases his : i = s
      · subst his
        exact y4 b' j hb' (by rw [o2, if_neg (by omega)]; exact hj)
      · rw [y3 _ (fun b2 j2 h1 h2 => by omega), o3 43 (by decide) (by decide), costB_cg i _ (o1 i his) (o1 _ (by omega))]
        exact hC b' i j hb' (by omega) hj
    · intro e he
      rw [o2, if_pos rfl] at he
      rw [o6.2.1]
      by_cases hes : e = s
      · subst hes; exact ⟨m4, m5, m6⟩
      · obtain ⟨u1, u2, u3⟩ := m3 e hes
        obtain ⟨v1, v2, v3⟩ := old e hes
        rw [u1, u2, u3, v1, v2, v3, y2 50 (by decide) (by decide), y2 51 (by decide) (by decide), y2 52 (by decide) (by decide), o3 50 (by decide) (by decide), o3 51 (by decide) (by decide), o3 52 (by decide) (by decide)]
        exact hN e (by omega)
    · rw [m2 37 (by decide) (by decide) (by decide) (by decide), y2 37 (by decide) (by decide), o5]
  · obtain ⟨c, rfl⟩ : ∃ c, b = c + 1 := ⟨b - 1, by omega⟩
    obtain ⟨x, y1, y2, y3, y4⟩ := add83_e hRB c n (by omega) (by rw [o2, if_pos rfl]; omega)
    simp only [if_neg (show ¬ (((c + 1 : Nat) : Int) = 0) by omega), y1, lb_s, u1, bd_s]
    have e52 : eB 52 0 = dB 52 0 := by rw [o2, if_neg (by omega)]
    refine ⟨_, _, _, rfl, rfl, ?_, ?_, ?_, ?_, mono, Or.inl ?_⟩
    · unfold RS; rw [y2 0 (by decide) (by decide), o4, o6.1]
    · exact hRB.cgA (fun k h1 h2 => by rw [y2 k (by omega) (by omega)])
    · intro b' i j hb' hi hj
      have hi0 := s0 0 (by omega)
      rw [e52] at hi
      have hj30 := s0 (b' + 1) (by omega)
      by_cases hbc : b' = c ∧ j = n
      · obtain ⟨rfl, rfl⟩ := hbc
        exact y4 i (by rw [e52]; exact hi)
      · rw [o2] at hj
        have hjd : (j : Int) < dB 52 (b' + 1) := by
          by_cases q : b' = c
          · subst q; rw [if_pos rfl] at hj; omega
          · rw [if_neg (by omega)] at hj; exact hj
        rw [y3 _ (fun i2 h1 => by omega), o3 43 (by decide) (by decide), costB_cg i _ (o1 i (by omega)) (o1 _ (by omega))]
        exact hC b' i j hb' hi hjd
    · intro e he
      rw [e52] at he
      have hi0 := s0 0 (by omega)
      rw [o6.2.1]
      obtain ⟨v1, v2, v3⟩ := old e (by omega)
      rw [v1, v2, v3, y2 50 (by decide) (by decide), y2 51 (by decide) (by decide), y2 52 (by decide) (by decide), o3 50 (by decide) (by decide), o3 51 (by decide) (by decide), o3 52 (by decide) (by decide)]
      exact hN e he
    · rw [y2 37 (by decide) (by decide), o5]
