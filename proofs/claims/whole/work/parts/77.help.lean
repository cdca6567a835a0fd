/-! loops told by their states; bits of small numbers -/
theorem lp_seq {σ ρ : Type} {f : σ → Option (σ ⊕ ρ)} (S : Nat → σ) (n : Nat) {r : ρ} (hs : ∀ i, i < n → f (S i) = some (.inl (S (i + 1)))) (he : f (S n) = some (.inr r)) (hn : n < 1000000) : lpF f FU (S 0) = some r := by
  have key : ∀ (k m : Nat), m + k = n → ∀ fuel, k < fuel → lpF f fuel (S m) = some r := by
    intro k
    induction k with
    | zero =>
      intro m hm fuel hf
      obtain ⟨g, rfl⟩ : ∃ g, fuel = g + 1 := ⟨fuel - 1, by omega⟩
      have : m = n := by omega
      subst this
      unfold lpF; rw [he]
    | succ k ih =>
      intro m hm fuel hf
      obtain ⟨g, rfl⟩ : ∃ g, fuel = g + 1 := ⟨fuel - 1, by omega⟩
      unfold lpF; rw [hs m (by omega)]
      exact ih (m + 1) (by omega) g (by omega)
  exact key n 0 (by omega) FU (by show n < 1000000; omega)
/-! steps of the lifted functions, told as equations (not by rfl: the kernel must not compare conditions with words in them) -/
theorem lt_e {β : Type} (x : Int) (f : Int → Option β) : lt_ x f = f x := by simp only [lt_]
theorem bd_e {β : Type} (r : Int) (d : Dt) (f : Int → Dt → Option β) : bd (some (r, d)) f = f r d := by simp only [bd]
theorem lb_e {α β : Type} (a : α) (f : α → Option β) : lb (some a) f = f a := by simp only [lb]
theorem sml_ {α β γ : Type} (a : α) (f : α → Option γ) (g : β → Option γ) : sm (Sum.inl a) f g = f a := by simp only [sm]
theorem smr_ {α β γ : Type} (b : β) (f : α → Option γ) (g : β → Option γ) : sm (Sum.inr b) f g = g b := by simp only [sm]
theorem u0_q {β : Type} (d : Dt) (f : Dt → Option β) : u0 (d) f = f  d := by simp only [u0]
theorem u1_q {β : Type} (a0 : Int) (d : Dt) (f : Int → Dt → Option β) : u1 (a0, d) f = f a0 d := by simp only [u1]
theorem u2_q {β : Type} (a0 a1 : Int) (d : Dt) (f : Int → Int → Dt → Option β) : u2 (a0, a1, d) f = f a0 a1 d := by simp only [u2]
theorem u3_q {β : Type} (a0 a1 a2 : Int) (d : Dt) (f : Int → Int → Int → Dt → Option β) : u3 (a0, a1, a2, d) f = f a0 a1 a2 d := by simp only [u3]
theorem u4_q {β : Type} (a0 a1 a2 a3 : Int) (d : Dt) (f : Int → Int → Int → Int → Dt → Option β) : u4 (a0, a1, a2, a3, d) f = f a0 a1 a2 a3 d := by simp only [u4]
theorem u5_q {β : Type} (a0 a1 a2 a3 a4 : Int) (d : Dt) (f : Int → Int → Int → Int → Int → Dt → Option β) : u5 (a0, a1, a2, a3, a4, d) f = f a0 a1 a2 a3 a4 d := by simp only [u5]
theorem u6_q {β : Type} (a0 a1 a2 a3 a4 a5 : Int) (d : Dt) (f : Int → Int → Int → Int → Int → Int → Dt → Option β) : u6 (a0, a1, a2, a3, a4, a5, d) f = f a0 a1 a2 a3 a4 a5 d := by simp only [u6]
theorem u7_q {β : Type} (a0 a1 a2 a3 a4 a5 a6 : Int) (d : Dt) (f : Int → Int → Int → Int → Int → Int → Int → Dt → Option β) : u7 (a0, a1, a2, a3, a4, a5, a6, d) f = f a0 a1 a2 a3 a4 a5 a6 d := by simp only [u7]
theorem u8_q {β : Type} (a0 a1 a2 a3 a4 a5 a6 a7 : Int) (d : Dt) (f : Int → Int → Int → Int → Int → Int → Int → Int → Dt → Option β) : u8 (a0, a1, a2, a3, a4, a5, a6, a7, d) f = f a0 a1 a2 a3 a4 a5 a6 a7 d := by simp only [u8]
theorem u9_q {β : Type} (a0 a1 a2 a3 a4 a5 a6 a7 a8 : Int) (d : Dt) (f : Int → Int → Int → Int → Int → Int → Int → Int → Int → Dt → Option β) : u9 (a0, a1, a2, a3, a4, a5, a6, a7, a8, d) f = f a0 a1 a2 a3 a4 a5 a6 a7 a8 d := by simp only [u9]
theorem w32_i {i : Nat} (h : i < 2147483647) : w32 ((i : Int) + 1) = ((i + 1 : Nat) : Int) := by
  rw [w32_s (by omega) (by omega)]; omega
theorem tn_i (i : Nat) : (i : Int).toNat = i := by omega
theorem jmax_e (x y : Int) : jmax x y = max x y := by unfold jmax; split <;> omega
theorem jmaxl_e (x y : Int) : jmaxl x y = max x y := by unfold jmaxl; split <;> omega
theorem lor_n (a b : Nat) (ha : a < 9223372036854775808) (hb : b < 9223372036854775808) : lor (a : Int) (b : Int) = ((a ||| b : Nat) : Int) := by
  show (Int64.ofInt (a : Int) ||| Int64.ofInt (b : Int)).toBitVec.toInt = _
  have h : (Int64.ofInt (a : Int) ||| Int64.ofInt (b : Int)).toBitVec.toNat = a ||| b := by
    rw [Int64.toBitVec_or, BitVec.toNat_or, ofL_nat, ofL_nat, show ((a : Int) % 18446744073709551616).toNat = a by omega, show ((b : Int) % 18446744073709551616).toNat = b by omega]
  have h2 : a ||| b < 2 ^ 63 := Nat.or_lt_two_pow (by omega) (by omega)
  rw [BitVec.toInt_eq_toNat_of_lt (by rw [h]; omega), h]
theorem land1 (a : Int) : land a 1 = a % 2 := by
  show (Int64.ofInt a &&& Int64.ofInt 1).toBitVec.toInt = a % 2
  have h : (Int64.ofInt a &&& Int64.ofInt 1).toBitVec.toNat = (a % 18446744073709551616).toNat % 2 := by
    rw [Int64.toBitVec_and, BitVec.toNat_and, ofL_nat]
    exact Nat.and_two_pow_sub_one_eq_mod _ 1
  rw [BitVec.toInt_eq_toNat_of_lt (by rw [h]; omega), h]
  omega
theorem lshl1_key : ∀ n : Fin 63, lshl 1 (n.val : Int) = ((2 ^ n.val : Nat) : Int) := by decide +kernel
theorem lshl1 (n : Nat) (h : n < 63) : lshl 1 (n : Int) = ((2 ^ n : Nat) : Int) := lshl1_key ⟨n, h⟩
/-- the bit of a long -/
theorem lbit (a n : Nat) (ha : a < 9223372036854775808) (hn : n < 64) : land (lshr (a : Int) (n : Int)) 1 = if a.testBit n then 1 else 0 := by
  rw [lshr_n n hn ⟨by omega, by omega⟩, land1, Nat.testBit_eq_decide_div_mod_eq]
  have e : (a : Int) / 2 ^ n % 2 = ((a / 2 ^ n % 2 : Nat) : Int) := by
    rw [Int.natCast_emod, Int.natCast_ediv, Int.natCast_pow]; rfl
  rw [e]
  by_cases h : a / 2 ^ n % 2 = 1
  · rw [h, if_pos (by simp)]; rfl
  · rw [if_neg (by simpa using h), show a / 2 ^ n % 2 = 0 by omega]; rfl
theorem ofI_nat (a : Int) : (Int32.ofInt a).toBitVec.toNat = (a % 4294967296).toNat := by
  show (BitVec.ofInt 32 a).toNat = _
  rw [BitVec.toNat_ofInt]; rfl
theorem iand_n (a b : Nat) (ha : a < 2147483648) (hb : b < 2147483648) : iand (a : Int) (b : Int) = ((a &&& b : Nat) : Int) := by
  show (Int32.ofInt (a : Int) &&& Int32.ofInt (b : Int)).toBitVec.toInt = _
  have h : (Int32.ofInt (a : Int) &&& Int32.ofInt (b : Int)).toBitVec.toNat = a &&& b := by
    rw [Int32.toBitVec_and, BitVec.toNat_and, ofI_nat, ofI_nat, show ((a : Int) % 4294967296).toNat = a by omega, show ((b : Int) % 4294967296).toNat = b by omega]
  have h2 : a &&& b ≤ a := Nat.and_le_left
  rw [BitVec.toInt_eq_toNat_of_lt (by rw [h]; omega), h]
theorem ior_n (a b : Nat) (ha : a < 2147483648) (hb : b < 2147483648) : ior (a : Int) (b : Int) = ((a ||| b : Nat) : Int) := by
  show (Int32.ofInt (a : Int) ||| Int32.ofInt (b : Int)).toBitVec.toInt = _
  have h : (Int32.ofInt (a : Int) ||| Int32.ofInt (b : Int)).toBitVec.toNat = a ||| b := by
    rw [Int32.toBitVec_or, BitVec.toNat_or, ofI_nat, ofI_nat, show ((a : Int) % 4294967296).toNat = a by omega, show ((b : Int) % 4294967296).toNat = b by omega]
  have h2 : a ||| b < 2 ^ 31 := Nat.or_lt_two_pow (by omega) (by omega)
  rw [BitVec.toInt_eq_toNat_of_lt (by rw [h]; omega), h]
theorem iand_1 (a : Int) : iand a 1 = a % 2 := by
  show (Int32.ofInt a &&& Int32.ofInt 1).toBitVec.toInt = a % 2
  have h : (Int32.ofInt a &&& Int32.ofInt 1).toBitVec.toNat = (a % 4294967296).toNat % 2 := by
    rw [Int32.toBitVec_and, BitVec.toNat_and, ofI_nat]
    exact Nat.and_two_pow_sub_one_eq_mod _ 1
  rw [BitVec.toInt_eq_toNat_of_lt (by rw [h]; omega), h]
  omega
theorem sh_key2 : ∀ n : Fin 32, ((Int32.ofInt (n.val : Int) &&& 31).toBitVec.smod 32#32).toNat = n.val := by decide
theorem ishr_n {a : Int} (n : Nat) (hn : n < 32) (ha : c32 a) : ishr a (n : Int) = a / 2 ^ n := by
  show (Int32.ofInt a >>> (Int32.ofInt (n : Int) &&& 31)).toBitVec.toInt = _
  rw [Int32.toBitVec_shiftRight]
  show ((Int32.ofInt a).toBitVec.sshiftRight ((Int32.ofInt (n : Int) &&& 31).toBitVec.smod 32#32).toNat).toInt = _
  rw [sh_key2 ⟨n, hn⟩, BitVec.toInt_sshiftRight]
  show (Int32.ofInt a).toInt >>> n = _
  rw [i_t ha, Int.shiftRight_eq_div_pow]
  norm_cast
theorem ishl1_key : ∀ n : Fin 31, ishl 1 (n.val : Int) = ((2 ^ n.val : Nat) : Int) := by decide +kernel
theorem ishl1 (n : Nat) (h : n < 31) : ishl 1 (n : Int) = ((2 ^ n : Nat) : Int) := ishl1_key ⟨n, h⟩
/-- the bit of an int -/
theorem ibit (a n : Nat) (ha : a < 2147483648) (hn : n < 32) : iand (ishr (a : Int) (n : Int)) 1 = if a.testBit n then 1 else 0 := by
  rw [ishr_n n hn ⟨by omega, by omega⟩, iand_1, Nat.testBit_eq_decide_div_mod_eq]
  have e : (a : Int) / 2 ^ n % 2 = ((a / 2 ^ n % 2 : Nat) : Int) := by
    rw [Int.natCast_emod, Int.natCast_ediv, Int.natCast_pow]; rfl
  rw [e]
  by_cases h : a / 2 ^ n % 2 = 1
  · rw [h, if_pos (by simp)]; rfl
  · rw [if_neg (by simpa using h), show a / 2 ^ n % 2 = 0 by omega]; rfl
