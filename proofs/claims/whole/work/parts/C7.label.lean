/-! TOKENS: the reference's label -/
theorem pk8_b : ∀ (m : Nat) (w : List Int), w.length = m → (∀ x, x ∈ w → 1 ≤ x ∧ x ≤ 26) → 0 ≤ pk8 w ∧ 2 * pk8 w < 256 ^ m := by
  intro m
  induction m with
  | zero => intro w hw _; rw [List.length_eq_zero_iff.mp hw]; decide
  | succ m ih =>
    intro w hw hx
    have hne : w ≠ [] := by intro h; rw [h] at hw; simp at hw
    obtain ⟨u, x, rfl⟩ : ∃ u x, w = u ++ [x] := ⟨w.dropLast, w.getLast hne, (List.dropLast_concat_getLast hne).symm⟩
    rw [List.length_append] at hw
    have hu := ih u (by have : u.length + 1 = m + 1 := hw; omega) (fun y hy => hx y (List.mem_append_left _ hy))
    have hxx := hx x (List.mem_append_right _ List.mem_cons_self)
    rw [pk8_s, Int.pow_succ]
    omega
theorem lor8 (a c : Nat) (ha : a * 2 ^ 8 < 9223372036854775808) (hc : c < 256) : lor (lshl (a : Int) 8) (c : Int) = (a : Int) * 256 + (c : Int) := by
  have h1 := lshl_n a 8 (by decide) ha
  rw [show lshl (a : Int) 8 = ((a * 2 ^ 8 : Nat) : Int) from h1, lor_n (a * 2 ^ 8) c ha (by omega)]
  have h2 : a * 2 ^ 8 ||| c = a * 2 ^ 8 + c := by
    have := Nat.two_pow_add_eq_or_of_lt (i := 8) (b := c) (by omega) a
    rw [Nat.mul_comm a]; exact this.symm
  rw [h2]; omega
theorem labelHere_e {x : Dt} {f : Nat → Int} {n p : Nat} (h : tkB x f n p) (hn : n ≤ 600) : L_Mo_labelHere x = some (if kd f n p = 3 then pk8 (wd f p (en f n p)) else -1, x) := by
  obtain ⟨_, _, _, _, _, _, _, _, e9, e10⟩ := tok_e f n p h.1.2.2
  have i3 := inWords_e h hn 1000003 (Or.inl rfl)
  have i4 := inWords_e h hn 1000004 (Or.inr rfl)
  unfold L_Mo_labelHere L_Mo_labelHere_b44
  rw [h.2.2.2.1]
  by_cases c2 : tyB f n p = 2
  · rw [if_pos c2] at i3 i4
    have hp : p < n := by
      unfold tyB at c2
      rcases (Classical.em (p < n)).symm with q | q
      · rw [if_neg q] at c2; exact absurd c2 (by decide)
      · exact q
    obtain ⟨g1, g2⟩ := en_b f n p hp
    obtain ⟨m, hm⟩ : ∃ m, en f n p = p + m := ⟨en f n p - p, by omega⟩
    rw [if_pos c2, h.2.2.1, h.2.1, show (en f n p : Int) - (p : Int) = (m : Int) by omega, w32_s (x := (m : Int)) (by omega) (by omega)]
    by_cases c8 : 8 < m
    · rw [if_pos (by omega), if_neg (fun z => by have := (e9.1 z).2.1; omega)]
    · rw [if_neg (by omega), show (1000003 : Int) = ((1000003 : Nat) : Int) from rfl, i3, bd_e]
      by_cases q3 : ixB f 1000003 p (en f n p) = -1
      · rw [if_pos q3, show (1000004 : Int) = ((1000004 : Nat) : Int) from rfl, i4, bd_e]
        by_cases q4 : ixB f 1000004 p (en f n p) = -1
        · have k3 := e9.2 ⟨c2, by omega, q3, q4⟩
          obtain ⟨v1, hW⟩ := e10 k3
          rw [if_pos q4, if_pos k3, h.2.1, lt_e]
          have hx : ∀ i, i < m → 1 ≤ f (p + i) - 96 ∧ f (p + i) - 96 ≤ 26 := by
            intro i hi
            apply hW.2.2
            unfold wd
            rw [List.mem_map]
            exact ⟨i, List.mem_range.mpr (by omega), rfl⟩
          have hbd : ∀ i, i ≤ m → 0 ≤ pk8 (wd f p (p + i)) ∧ 2 * pk8 (wd f p (p + i)) < 256 ^ i := by
            intro i hi
            refine pk8_b i _ (by rw [wd_len]; omega) (fun y hy => ?_)
            unfold wd at hy
            rw [List.mem_map] at hy
            obtain ⟨j, hj, rfl⟩ := hy
            have := List.mem_range.mp hj
            exact hx j (by omega)
          have e1 := lp_seq (f := fun q : Int × Int × Dt => L_Mo_labelHere_y55 q.1 q.2.1 q.2.2) (fun i => (pk8 (wd f p (p + i)), ((p + i : Nat) : Int), x)) m (r := (pk8 (wd f p (p + m)), x))
            (by
              intro i hi
              obtain ⟨b1, b2⟩ := hbd i (by omega)
              have hc := hx i hi
              have hpw : (256 : Int) ^ i ≤ 256 ^ 7 := by
                have : i = 0 ∨ i = 1 ∨ i = 2 ∨ i = 3 ∨ i = 4 ∨ i = 5 ∨ i = 6 ∨ i = 7 := by omega
                rcases this with rfl | rfl | rfl | rfl | rfl | rfl | rfl | rfl <;> decide
              have h7 : (256 : Int) ^ 7 = 72057594037927936 := by decide
              obtain ⟨a, ha⟩ : ∃ a : Nat, pk8 (wd f p (p + i)) = (a : Int) := ⟨(pk8 (wd f p (p + i))).toNat, by omega⟩
              have hat : aB f n (p + i) = f (p + i) := by unfold aB; rw [if_pos (by omega)]; omega
              obtain ⟨cc, hcc⟩ : ∃ cc : Nat, f (p + i) = (cc : Int) := ⟨(f (p + i)).toNat, by omega⟩
              dsimp only
              unfold L_Mo_labelHere_y55
              rw [h.2.2.1, hm, if_pos (by omega), at_e h.1 hn, bd_e, hat, lt_e, ha, hcc, lor8 a cc (by omega) (by omega), w32_i (show p + i < 2147483647 by omega), wd_s, pk8_s, ha, hcc, show (cc : Int) - 96 + 96 = (cc : Int) by omega]
              rfl)
            (by
              dsimp only
              unfold L_Mo_labelHere_y55
              rw [h.2.2.1, hm, if_neg (by omega)]) (by omega)
          rw [show p + 0 = p from rfl, wd_0] at e1
          unfold L_Mo_labelHere_l55
          rw [show lpF (fun q : Int × Int × Dt => L_Mo_labelHere_y55 q.1 q.2.1 q.2.2) FU (0, (p : Int), x) = _ from e1, lb_e, u1_q, hm]
        · rw [if_neg q4, if_neg (fun z => q4 (e9.1 z).2.2.2)]
      · rw [if_neg q3, if_neg (fun z => q3 (e9.1 z).2.2.1)]
  · rw [if_neg c2, if_neg (fun z => c2 (e9.1 z).1)]
/-! what the parser asks -/
theorem isKey_e {x : Dt} {f : Nat → Int} {n p : Nat} (h : tkB x f n p) (hn : n ≤ 600) (k : Int) : L_Mo_isKey k x = some (if kB (kd f n p) = k then 1 else 0, x) := by
  have i3 := inWords_e h hn 1000003 (Or.inl rfl)
  rw [(tok_e f n p h.1.2.2).1] at i3
  unfold L_Mo_isKey
  rw [show (1000003 : Int) = ((1000003 : Nat) : Int) from rfl, i3, bd_e]
  by_cases q : kB (kd f n p) = k
  · rw [if_pos q, if_pos q]
  · rw [if_neg q, if_neg q]
theorem isSign_e {x : Dt} {f : Nat → Int} {n p : Nat} (h : tkB x f n p) (c : Int) (h1 : 40 ≤ c) (h2 : c ≤ 62) : L_Mo_isSign c x = some (if kd f n p = c then 1 else 0, x) := by
  obtain ⟨_, _, _, _, _, _, e7, _⟩ := tok_e f n p h.1.2.2
  unfold L_Mo_isSign
  rw [h.2.2.2.1, h.2.2.2.2]
  by_cases q : kd f n p = c
  · obtain ⟨a, b⟩ := (e7 c h1 h2).2 q
    rw [if_pos a, if_pos b, if_pos q]
  · rw [if_neg q]
    by_cases a : tyB f n p = 4
    · rw [if_pos a, if_neg (fun b => q ((e7 c h1 h2).1 ⟨a, b⟩))]
    · rw [if_neg a]
def ftK (f : Nat → Int) (n p : Nat) (k : Int) : Int := if kd f n p = 1 then 1 else k
theorem fails_e {x : Dt} {f : Nat → Int} {n p : Nat} (h : tkB x f n p) (h40 : x 0 40 = 0) (k : Int) : L_Mo_fails k x = some (0, up2 (up2 x 0 40 (ftK f n p k)) 0 39 (p : Int)) := by
  obtain ⟨_, _, e3, _⟩ := tok_e f n p h.1.2.2
  unfold L_Mo_fails L_Mo_fails_b21 ftK
  rw [if_pos h40, h.2.2.2.1, h.2.1]
  by_cases q : kd f n p = 1
  · rw [if_pos (e3.2 q), if_pos q]
  · rw [if_neg (fun z => q (e3.1 z)), if_neg q]
