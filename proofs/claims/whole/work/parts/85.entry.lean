/-! entry: costs kept as ENTRIES come -/
theorem RB.e0 {dA dB : Dt} (h : RB dA dB) (i : Nat) (hi : (i : Int) < dB 52 0) : dA 38 i = dB 57 i ∧ dA 39 i = dB 53 i ∧ dA 40 i = dB 54 i ∧ dA 41 i = dB 55 i ∧ isNm (dB 57 i) ∧ (-1 ≤ dB 53 i ∧ dB 53 i ≤ 19) ∧ (0 ≤ dB 54 i ∧ dB 54 i ≤ 1439) ∧ 1 ≤ dB 55 i ∧ dB 55 i ≤ 15 := by
  have := h.2 0 i (by decide) hi
  rw [Nat.mul_zero, Nat.zero_add] at this
  exact this
theorem RB.cgA {dA dB dA' : Dt} (h : RB dA dB) (hk : ∀ k, 38 ≤ k → k ≤ 42 → dA' k = dA k) : RB dA' dB := by
  unfold RB at h ⊢
  rw [hk 38 (by decide) (by decide), hk 39 (by decide) (by decide), hk 40 (by decide) (by decide), hk 41 (by decide) (by decide), hk 42 (by decide) (by decide)]
  exact h
theorem setCost_r {d dB : Dt} (h : RB d dB) (b i j : Nat) (hb : b < 2) (hi : (i : Int) < dB 52 0) (hj : (j : Int) < dB 52 (b + 1)) : ∃ d', L_Bo_setCost ((b + 1 : Nat) : Int) (i : Int) (j : Int) d = some (0, d') ∧ (∀ k, k ≠ 43 → k ≠ 48 → d' k = d k) ∧ (∀ q, q ≠ (b * 30 + i) * 30 + j → d' 43 q = d 43 q) ∧ d' 43 ((b * 30 + i) * 30 + j) = costB dB i (30 * (b + 1) + j) := by
  obtain ⟨a1, a2, a3, a4, a5, a6, a7, a8⟩ := h.e0 i hi
  obtain ⟨b1, b2, b3, b4, b5, b6, b7, b8⟩ := h.2 (b + 1) j (by omega) hj
  have z0 := h.1 0 (by decide)
  have z1 := h.1 (b + 1) (by omega)
  obtain ⟨d', e1, e2, e3, e4⟩ := setCost_e b i j d hb (by omega) (by omega) (by rw [a1]; exact a5) (by rw [b1]; exact b5) (by rw [a3]; exact a7) (by rw [b3]; exact b7)
  refine ⟨d', e1, e2, e3, ?_⟩
  rw [e4, a1, a2, a3, a4, b1, b2, b3, b4]; rfl
theorem cAO_in {d dB : Dt} (h : RB d dB) (b e : Nat) (hb : b < 2) (he : (e : Int) < dB 52 0) : ∃ d', L_Bo_costAgainstOthers_l9 (e : Int) ((b + 1 : Nat) : Int) 0 d = some ((e : Int), ((b + 1 : Nat) : Int), d') ∧ (∀ k, k ≠ 43 → k ≠ 48 → d' k = d k) ∧ (∀ q, (∀ j, j < 30 → q ≠ (b * 30 + e) * 30 + j) → d' 43 q = d 43 q) ∧ ∀ j : Nat, (j : Int) < dB 52 (b + 1) → d' 43 ((b * 30 + e) * 30 + j) = costB dB e (30 * (b + 1) + j) := by
  have z0 := h.1 0 (by decide)
  have z1 := h.1 (b + 1) (by omega)
  obtain ⟨d', e1, e2, e3, e4⟩ := lp_inv (f := fun q : Int × Int × Int × Dt => L_Bo_costAgainstOthers_y9 q.1 q.2.1 q.2.2.1 q.2.2.2) (fun i x => ((e : Int), ((b + 1 : Nat) : Int), (i : Int), x)) (fun x => ((e : Int), ((b + 1 : Nat) : Int), x))
    (fun i x => (∀ k, k ≠ 43 → k ≠ 48 → x k = d k) ∧ (∀ q, (∀ j, j < 30 → q ≠ (b * 30 + e) * 30 + j) → x 43 q = d 43 q) ∧ ∀ j : Nat, j < i → x 43 ((b * 30 + e) * 30 + j) = costB dB e (30 * (b + 1) + j)) (dB 52 (b + 1)).toNat
    (by
      rintro i x hi ⟨f1, f2, f3⟩
      have hx : RB x dB := h.cgA (fun k h1 h2 => f1 k (by omega) (by omega))
      obtain ⟨x', g1, g2, g3, g4⟩ := setCost_r hx b e i hb he (by omega)
      refine ⟨x', ?_, ?_, ?_, ?_⟩
      · dsimp only
        unfold L_Bo_costAgainstOthers_y9
        rw [ck_pos ⟨by omega, by omega⟩, tn_i, f1 42 (by decide) (by decide), z1.1, if_pos (by omega), g1, bd_s, w32_i (by omega)]
      · intro k h1 h2; rw [g2 k h1 h2, f1 k h1 h2]
      · intro q hq; rw [g3 q (hq i (by omega)), f2 q hq]
      · intro j hj
        by_cases hji : j = i
        · subst hji; exact g4
        · rw [g3 _ (by omega)]; exact f3 j (by omega))
    (by
      rintro x ⟨f1, f2, f3⟩
      dsimp only
      unfold L_Bo_costAgainstOthers_y9
      rw [ck_pos ⟨by omega, by omega⟩, tn_i, f1 42 (by decide) (by decide), z1.1, if_neg (by omega)]) (by omega) d ⟨fun _ _ _ => rfl, fun _ _ => rfl, fun j hj => by omega⟩
  exact ⟨d', e1, e2, e3, fun j hj => e4 j (by omega)⟩
theorem cAO_e {d dB : Dt} (h : RB d dB) (e : Nat) (he : (e : Int) < dB 52 0) : ∃ d', L_Bo_costAgainstOthers (e : Int) d = some (0, d') ∧ (∀ k, k ≠ 43 → k ≠ 48 → d' k = d k) ∧ (∀ q, (∀ b j, b < 2 → j < 30 → q ≠ (b * 30 + e) * 30 + j) → d' 43 q = d 43 q) ∧ ∀ b j : Nat, b < 2 → (j : Int) < dB 52 (b + 1) → d' 43 ((b * 30 + e) * 30 + j) = costB dB e (30 * (b + 1) + j) := by
  have z0 := h.1 0 (by decide)
  obtain ⟨d', e1, e2, e3, e4⟩ := lp_inv (f := fun q : Int × Int × Dt => L_Bo_costAgainstOthers_y2 q.1 q.2.1 q.2.2) (fun i x => ((e : Int), ((i + 1 : Nat) : Int), x)) (fun x => x)
    (fun i x => (∀ k, k ≠ 43 → k ≠ 48 → x k = d k) ∧ (∀ q, (∀ b j, b < 2 → j < 30 → q ≠ (b * 30 + e) * 30 + j) → x 43 q = d 43 q) ∧ ∀ b j : Nat, b < i → (j : Int) < dB 52 (b + 1) → x 43 ((b * 30 + e) * 30 + j) = costB dB e (30 * (b + 1) + j)) 2
    (by
      rintro i x hi ⟨f1, f2, f3⟩
      have hx : RB x dB := h.cgA (fun k h1 h2 => f1 k (by omega) (by omega))
      obtain ⟨x', g1, g2, g3, g4⟩ := cAO_in hx i e hi he
      refine ⟨x', ?_, ?_, ?_, ?_⟩
      · dsimp only
        unfold L_Bo_costAgainstOthers_y2
        rw [if_pos (by omega), g1, lb_s]
        dsimp only [u2]
        rw [w32_i (by omega)]
      · intro k h1 h2; rw [g2 k h1 h2, f1 k h1 h2]
      · intro q hq; rw [g3 q (fun j hj => hq i j hi hj), f2 q hq]
      · intro b j hb hj
        by_cases hbi : b = i
        · subst hbi; exact g4 j hj
        · have hj30 : j < 30 := by have := h.1 (b + 1) (by omega); omega
          rw [g3 _ (fun j' hj' => by omega)]; exact f3 b j (by omega) hj)
    (by
      rintro x ⟨f1, f2, f3⟩
      dsimp only
      unfold L_Bo_costAgainstOthers_y2
      rw [if_neg (by omega)]) (by omega) d ⟨fun _ _ _ => rfl, fun _ _ => rfl, fun b j hb => by omega⟩
  refine ⟨d', ?_, e2, e3, e4⟩
  unfold L_Bo_costAgainstOthers L_Bo_costAgainstOthers_l2
  rw [show lpF (fun q : Int × Int × Dt => L_Bo_costAgainstOthers_y2 q.1 q.2.1 q.2.2) FU ((e : Int), 1, d) = _ from e1, lb_s]
  rfl
theorem add83_e {d dB : Dt} (h : RB d dB) (b e : Nat) (hb : b < 2) (he : (e : Int) < dB 52 (b + 1)) : ∃ d', L_Bo_add_l83 ((b + 1 : Nat) : Int) (e : Int) 0 d = some ((e : Int), d') ∧ (∀ k, k ≠ 43 → k ≠ 48 → d' k = d k) ∧ (∀ q, (∀ i, i < 30 → q ≠ (b * 30 + i) * 30 + e) → d' 43 q = d 43 q) ∧ ∀ i : Nat, (i : Int) < dB 52 0 → d' 43 ((b * 30 + i) * 30 + e) = costB dB i (30 * (b + 1) + e) := by
  have z0 := h.1 0 (by decide)
  have z1 := h.1 (b + 1) (by omega)
  obtain ⟨d', e1, e2, e3, e4⟩ := lp_inv (f := fun q : Int × Int × Int × Dt => L_Bo_add_y83 q.1 q.2.1 q.2.2.1 q.2.2.2) (fun i x => (((b + 1 : Nat) : Int), (e : Int), (i : Int), x)) (fun x => ((e : Int), x))
    (fun i x => (∀ k, k ≠ 43 → k ≠ 48 → x k = d k) ∧ (∀ q, (∀ i, i < 30 → q ≠ (b * 30 + i) * 30 + e) → x 43 q = d 43 q) ∧ ∀ j : Nat, j < i → x 43 ((b * 30 + j) * 30 + e) = costB dB j (30 * (b + 1) + e)) (dB 52 0).toNat
    (by
      rintro i x hi ⟨f1, f2, f3⟩
      have hx : RB x dB := h.cgA (fun k h1 h2 => f1 k (by omega) (by omega))
      obtain ⟨x', g1, g2, g3, g4⟩ := setCost_r hx b i e hb (by omega) he
      refine ⟨x', ?_, ?_, ?_, ?_⟩
      · dsimp only
        unfold L_Bo_add_y83
        rw [f1 42 (by decide) (by decide), z0.1, if_pos (by omega), g1, bd_s, w32_i (by omega)]
      · intro k h1 h2; rw [g2 k h1 h2, f1 k h1 h2]
      · intro q hq; rw [g3 q (hq i (by omega)), f2 q hq]
      · intro j hj
        by_cases hji : j = i
        · subst hji; exact g4
        · rw [g3 _ (by omega)]; exact f3 j (by omega))
    (by
      rintro x ⟨f1, f2, f3⟩
      dsimp only
      unfold L_Bo_add_y83
      rw [f1 42 (by decide) (by decide), z0.1, if_neg (by omega)]) (by omega) d ⟨fun _ _ _ => rfl, fun _ _ => rfl, fun j hj => by omega⟩
  exact ⟨d', e1, e2, e3, fun j hj => e4 j (by omega)⟩
