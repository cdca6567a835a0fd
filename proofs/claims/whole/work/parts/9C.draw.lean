/-! DRAW: lots -/
theorem land31b (a : Int) : land a 2147483647 = a % 2147483648 := by
  show (Int64.ofInt a &&& Int64.ofInt 2147483647).toBitVec.toInt = a % 2147483648
  have h : (Int64.ofInt a &&& Int64.ofInt 2147483647).toBitVec.toNat = (a % 18446744073709551616).toNat % 2147483648 := by
    rw [Int64.toBitVec_and, BitVec.toNat_and, ofL_nat]
    exact Nat.and_two_pow_sub_one_eq_mod _ 31
  rw [BitVec.toInt_eq_toNat_of_lt (by rw [h]; omega), h]
  omega
theorem ldiv_e {a : Int} (b : Int) (h0 : 0 ≤ a) (h1 : a < 9223372036854775808) (hb : 0 < b) (hb2 : b < 9223372036854775808) : ldiv a b = a / b := by
  show (Int64.ofInt a / Int64.ofInt b).toInt = _
  have hne : Int64.ofInt b ≠ -1 := by
    intro h
    have := congrArg Int64.toInt h
    rw [l_t ⟨by omega, hb2⟩] at this
    have h2 : (-1 : Int64).toInt = -1 := by decide
    omega
  rw [Int64.toInt_div_of_ne_right _ _ hne, l_t ⟨by omega, h1⟩, l_t ⟨by omega, hb2⟩]
  exact Int.tdiv_eq_ediv_of_nonneg h0
theorem lrem_e {a : Int} (b : Int) (h0 : 0 ≤ a) (h1 : a < 9223372036854775808) (hb : 0 < b) (hb2 : b < 9223372036854775808) : lrem a b = a % b := by
  show (Int64.ofInt a - Int64.ofInt a / Int64.ofInt b * Int64.ofInt b).toInt = _
  have hq : Int64.ofInt a / Int64.ofInt b = Int64.ofInt (a / b) := by
    apply Int64.toInt_inj.mp
    have h2 : a / b ≤ a := Int.ediv_le_self b h0
    have h3 : 0 ≤ a / b := Int.ediv_nonneg h0 (by omega)
    rw [l_t ⟨by omega, by omega⟩]
    exact ldiv_e b h0 h1 hb hb2
  have hm : a / b * b = a - a % b := by have := Int.mul_ediv_add_emod a b; rw [Int.mul_comm] at this; omega
  have h4 := Int.emod_nonneg a (show b ≠ 0 by omega)
  have h5 := Int.emod_lt_of_pos a hb
  rw [hq, ← Int64.ofInt_mul, ← Int64.ofInt_sub, hm, show a - (a - a % b) = a % b by omega, l_t ⟨by omega, by omega⟩]
theorem irem_e {a : Int} (b : Int) (h0 : 0 ≤ a) (h1 : a < 2147483648) (hb : 0 < b) (hb2 : b < 2147483648) : irem a b = a % b := by
  show (Int32.ofInt a - Int32.ofInt a / Int32.ofInt b * Int32.ofInt b).toInt = _
  have hq : Int32.ofInt a / Int32.ofInt b = Int32.ofInt (a / b) := by
    apply Int32.toInt_inj.mp
    have h2 : a / b ≤ a := Int.ediv_le_self b h0
    have h3 : 0 ≤ a / b := Int.ediv_nonneg h0 (by omega)
    rw [i_t ⟨by omega, by omega⟩]
    exact idiv_e b h0 h1 hb hb2
  have hm : a / b * b = a - a % b := by have := Int.mul_ediv_add_emod a b; rw [Int.mul_comm] at this; omega
  have h4 := Int.emod_nonneg a (show b ≠ 0 by omega)
  have h5 := Int.emod_lt_of_pos a hb
  rw [hq, ← Int32.ofInt_mul, ← Int32.ofInt_sub, hm, show a - (a - a % b) = a % b by omega, i_t ⟨by omega, by omega⟩]
def lotS (seed : Int) : Nat → Int
  | 0 => seed
  | i + 1 => land (w64 (w64 (1103515245 * lotS seed i) + 12345)) 2147483647
def atS (seed : Int) (L i : Nat) : Nat := (lotS seed (i + 1) / 65536 % ((L - i : Nat) : Int)).toNat
theorem atS_e (seed : Int) (L i : Nat) (h : i < L) (hL : L ≤ 30) : w32 (lrem (ldiv (lotS seed (i + 1)) 65536) ((L : Int) - (i : Int))) = (atS seed L i : Int) ∧ atS seed L i < L - i := by
  have h1 : 0 ≤ lotS seed (i + 1) ∧ lotS seed (i + 1) < 2147483648 := by
    simp only [lotS]; rw [land31b]; omega
  rw [ldiv_e 65536 h1.1 (by omega) (by decide) (by decide), show (L : Int) - (i : Int) = ((L - i : Nat) : Int) by omega, lrem_e ((L - i : Nat) : Int) (by omega) (by omega) (by omega) (by omega)]
  have h4 := Int.emod_nonneg (lotS seed (i + 1) / 65536) (show ((L - i : Nat) : Int) ≠ 0 by omega)
  have h5 := Int.emod_lt_of_pos (lotS seed (i + 1) / 65536) (show (0 : Int) < ((L - i : Nat) : Int) by omega)
  unfold atS
  rw [w32_s (by omega) (by omega)]
  omega
def poS (P0 : Nat → Nat) (seed : Int) (L : Nat) : Nat → Nat → Nat
  | 0 => P0
  | i + 1 => fun j => if atS seed L i ≤ j ∧ j + 1 < L - i then poS P0 seed L i (j + 1) else poS P0 seed L i j
def xsS (P0 : Nat → Nat) (seed : Int) (L i : Nat) : Nat := poS P0 seed L i (atS seed L i)
theorem poS_f (P0 : Nat → Nat) (seed : Int) (L M : Nat) (hL : L ≤ 30) (h0 : ∀ j, j < L → P0 j < M) (h1 : ∀ i j, i < L → j < L → P0 i = P0 j → i = j) : ∀ i : Nat, i ≤ L → (∀ j, j < L - i → poS P0 seed L i j < M) ∧ (∀ j j', j < L - i → j' < L - i → poS P0 seed L i j = poS P0 seed L i j' → j = j') ∧ ∀ i' j, i' < i → j < L - i → poS P0 seed L i j ≠ xsS P0 seed L i'
  | 0, _ => ⟨fun j h => h0 j (by omega), fun j j' h h' e => h1 j j' (by omega) (by omega) e, fun i' j h => by omega⟩
  | i + 1, hi => by
    obtain ⟨a1, a2, a3⟩ := poS_f P0 seed L M hL h0 h1 i (by omega)
    have hat := (atS_e seed L i (by omega) hL).2
    have key : ∀ j, j < L - (i + 1) → ∃ j2, j2 < L - i ∧ j2 ≠ atS seed L i ∧ poS P0 seed L (i + 1) j = poS P0 seed L i j2 ∧ (if atS seed L i ≤ j then j2 = j + 1 else j2 = j) := by
      intro j hj
      simp only [poS]
      by_cases q : atS seed L i ≤ j
      · rw [if_pos ⟨q, by omega⟩]
        refine ⟨j + 1, by omega, by omega, rfl, ?_⟩
        rw [if_pos q]
      · rw [if_neg (fun z => q z.1)]
        refine ⟨j, by omega, by omega, rfl, ?_⟩
        rw [if_neg q]
    refine ⟨?_, ?_, ?_⟩
    · intro j hj
      obtain ⟨j2, b1, b2, b3, b4⟩ := key j hj
      rw [b3]; exact a1 j2 b1
    · intro j j' hj hj' e
      obtain ⟨j2, b1, b2, b3, b4⟩ := key j hj
      obtain ⟨j3, c1, c2, c3, c4⟩ := key j' hj'
      rw [b3, c3] at e
      have := a2 j2 j3 b1 c1 e
      by_cases q : atS seed L i ≤ j
      · rw [if_pos q] at b4
        by_cases q' : atS seed L i ≤ j'
        · rw [if_pos q'] at c4; omega
        · rw [if_neg q'] at c4; omega
      · rw [if_neg q] at b4
        by_cases q' : atS seed L i ≤ j'
        · rw [if_pos q'] at c4; omega
        · rw [if_neg q'] at c4; omega
    · intro i' j hi' hj
      obtain ⟨j2, b1, b2, b3, b4⟩ := key j hj
      rw [b3]
      by_cases q : i' = i
      · subst q
        intro e
        exact b2 (a2 j2 (atS seed L i') b1 (by omega) e)
      · exact a3 i' j2 (by omega) b1
theorem xsS_f (P0 : Nat → Nat) (seed : Int) (L M : Nat) (hL : L ≤ 30) (h0 : ∀ j, j < L → P0 j < M) (h1 : ∀ i j, i < L → j < L → P0 i = P0 j → i = j) : (∀ i, i < L → xsS P0 seed L i < M) ∧ ∀ i i', i < L → i' < L → xsS P0 seed L i = xsS P0 seed L i' → i = i' := by
  constructor
  · intro i hi
    exact (poS_f P0 seed L M hL h0 h1 i (by omega)).1 _ (atS_e seed L i hi hL).2
  · intro i i' hi hi' e
    by_cases q : i = i'
    · exact q
    · exfalso
      by_cases q2 : i' < i
      · exact (poS_f P0 seed L M hL h0 h1 i (by omega)).2.2 i' _ q2 (atS_e seed L i hi hL).2 e
      · exact (poS_f P0 seed L M hL h0 h1 i' (by omega)).2.2 i _ (by omega) (atS_e seed L i' hi' hL).2 e.symm
/-! the class draws -/
theorem lotw (L i a : Nat) (hL : L ≤ 30) (hi : i < L) (ha : a < L - i) : w32 (w32 ((L : Int) - (i : Int) - (a : Int)) - 1) = ((L - i - a - 1 : Nat) : Int) := by
  rw [w32_s (x := (L : Int) - (i : Int) - (a : Int)) (by omega) (by omega), w32_s (by omega) (by omega)]; omega
def wasD (P0 : Nat → Nat) (seed : Int) (L i y : Nat) : Prop := ∃ i', i' < i ∧ xsS P0 seed L i' = y
theorem drawA_e {d : Dt} (P0 : Nat → Nat) (seed : Int) (L M n : Nat) (m : Int) (hL : L ≤ 30) (hM : M ≤ 30) (hn : n ≤ L) (h0 : ∀ j, j < L → P0 j < M) (h1 : ∀ i j, i < L → j < L → P0 i = P0 j → i = j) (h68 : ∀ j, j < L → d 68 j = (P0 j : Int)) (h69 : ∀ y, y < M → d 69 y = 0) : ∃ d', L_Ju_form_l47 (n : Int) m (L : Int) seed 0 d = some ((n : Int), m, d') ∧ (∀ k, k ≠ 68 → k ≠ 69 → d' k = d k) ∧ ∀ y, y < M → (d' 69 y = 1 ∧ wasD P0 seed L n y) ∨ (d' 69 y = 0 ∧ ¬ wasD P0 seed L n y) := by
  obtain ⟨d', e1, e2, e3, e4⟩ := lp_inv (f := fun q : Int × Int × Int × Int × Int × Dt => L_Ju_form_y47 q.1 q.2.1 q.2.2.1 q.2.2.2.1 q.2.2.2.2.1 q.2.2.2.2.2) (fun i y => ((n : Int), m, (L : Int) - (i : Int), lotS seed i, (i : Int), y)) (fun y => ((n : Int), m, y))
    (fun i x => (∀ k, k ≠ 68 → k ≠ 69 → x k = d k) ∧ (∀ j, j < L - i → x 68 j = (poS P0 seed L i j : Int)) ∧ ∀ y, y < M → (x 69 y = 1 ∧ wasD P0 seed L i y) ∨ (x 69 y = 0 ∧ ¬ wasD P0 seed L i y)) n
    (by
      rintro i x hi ⟨f1, f2, f3⟩
      have ha2 := (atS_e seed L i (by omega) hL).2
      obtain ⟨p1, p2, p3⟩ := poS_f P0 seed L M hL h0 h1 i (by omega)
      have hx := f2 _ ha2
      have hxl := p1 _ ha2
      refine ⟨cp2 (up2 x 69 (poS P0 seed L i (atS seed L i)) 1) 68 (atS seed L i + 1) 68 (atS seed L i) (L - i - atS seed L i - 1), ?_, ?_, ?_, ?_⟩
      · dsimp only
        unfold L_Ju_form_y47 L_Ju_drawFromPool
        rw [if_pos (by omega), if_pos (by omega), lt_e, ck_pos (by omega), show land (w64 (w64 (1103515245 * lotS seed i) + 12345)) 2147483647 = lotS seed (i + 1) from rfl, (atS_e seed L i (by omega) hL).1, tn_i, hx, ck_pos ⟨by omega, by omega⟩, ck_pos ⟨by omega, by omega⟩, w32_i (show atS seed L i < 2147483647 by omega), lotw L i (atS seed L i) (by omega) (by omega) ha2, tn_i, tn_i, tn_i, ck_pos (by omega), bd_e, w32_i (show i < 2147483647 by omega), w32_s (x := (L : Int) - (i : Int) + -1) (by omega) (by omega), show (L : Int) - (i : Int) + -1 = (L : Int) - ((i + 1 : Nat) : Int) by omega]
      · intro k h2 h3; rw [cp2_K _ h2, up2_K _ _ _ h3]; exact f1 k h2 h3
      · intro j hj
        rw [cp2_a]
        simp only [poS]
        by_cases q : atS seed L i ≤ j
        · rw [if_pos ⟨q, by omega⟩, if_pos ⟨q, by omega⟩, up2_K _ _ _ (by decide), show atS seed L i + 1 + (j - atS seed L i) = j + 1 by omega]; exact f2 (j + 1) (by omega)
        · rw [if_neg (fun z => q z.1), if_neg (fun z => q z.1), up2_K _ _ _ (by decide)]; exact f2 j (by omega)
      · intro y hy
        rw [cp2_K _ (by decide)]
        by_cases q : y = poS P0 seed L i (atS seed L i)
        · left
          rw [q, up2_s]
          exact ⟨rfl, i, by omega, rfl⟩
        · rw [up2_j _ _ _ q]
          rcases f3 y hy with ⟨g1, i', g2, g3⟩ | ⟨g1, g2⟩
          · left; exact ⟨g1, i', by omega, g3⟩
          · right
            refine ⟨g1, ?_⟩
            rintro ⟨i', g3, g4⟩
            by_cases q2 : i' = i
            · subst q2; exact q g4.symm
            · exact g2 ⟨i', by omega, g4⟩)
    (by
      rintro x _
      dsimp only
      unfold L_Ju_form_y47
      rw [if_neg (by omega)]) (by omega) d ⟨fun _ _ _ => rfl, fun j hj => h68 j (by omega), fun y hy => Or.inr ⟨h69 y hy, fun ⟨i', h, _⟩ => by omega⟩⟩
  refine ⟨d', ?_, e2, e4⟩
  unfold L_Ju_form_l47
  rw [show (L : Int) - ((0 : Nat) : Int) = (L : Int) by omega] at e1
  exact e1
