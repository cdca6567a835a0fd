/-! far -/
theorem farA (arr : Nat) {p1 p2 : Int} (h1 : 0 ≤ p1 ∧ p1 < 1099511627776) (h2 : 0 ≤ p2 ∧ p2 < 1099511627776) (d : Dt) : ∃ d', L_PB_lettersApart arr 9 p1 p2 d = some (DD (fun i => shN i p1 % 32) (fun j => shN j p2 % 32) (dgN 8 p1) (dgN 8 p2), d') ∧ ∀ k, k ≠ arr → d' k = d k := by
  have l1 := dgN_le 8 p1
  have l2 := dgN_le 8 p2
  obtain ⟨d3, c1, c2, c3⟩ := initA arr p1 p2 (dgN 8 p1 : Int) (dgN 8 p2 : Int) ⟨by omega, by omega⟩ d
  obtain ⟨d4, o1, o2, o3⟩ := outA arr h1 h2 (dgN 8 p1) (dgN 8 p2) l1 l2 d3 c3
  refine ⟨d4, ?_, fun k hk => by rw [o2 k hk, c2 k hk]⟩
  unfold L_PB_lettersApart
  have hj : jmin (dgN 8 p2 : Int) (w32 (((9 : Nat) : Int) - 1)) = (dgN 8 p2 : Int) := by
    rw [w32_s (x := ((9 : Nat) : Int) - 1) (by decide) (by decide), jmin_e]; omega
  rw [e_PB_lettersOf h1.1 h1.2, bd_s, e_PB_lettersOf h2.1 h2.2, bd_s, ck_pos (show (9 : Nat) < 100000 by decide), hj]
  clear hj
  dsimp only [lt_]
  rw [c1, lb_s]
  dsimp only [u4]
  rw [o1, lb_s]
  dsimp only [u1]
  rw [ck_pos ⟨by omega, by omega⟩, show ((dgN 8 p2 : Nat) : Int).toNat = dgN 8 p2 by omega, o3]
  have hr := DD_rev (fun i => shN i p1 % 32) (fun j => shN j p2 % 32) (dgN 8 p1) (dgN 8 p2)
  rw [hr]
