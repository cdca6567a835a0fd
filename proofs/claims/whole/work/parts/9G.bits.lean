/-! COACHES: small sets as numbers -/
def dif (S T : Nat) : Nat := S &&& (T ^^^ 4294967295)
theorem dif_t (S T i : Nat) (hi : i < 32) : (dif S T).testBit i = (S.testBit i && !T.testBit i) := by
  unfold dif
  rw [Nat.testBit_and, Nat.testBit_xor, show (4294967295 : Nat) = 2 ^ 32 - 1 by decide, Nat.testBit_two_pow_sub_one, decide_eq_true hi, Bool.xor_true]
theorem dif_le (S T : Nat) : dif S T ≤ S := Nat.and_le_left
theorem ofI_toInt (x : Int32) : Int32.ofInt x.toInt = x := by
  apply Int32.toInt_inj.mp; rw [i_t (i_c x)]
theorem iand_dif (S T : Nat) (hS : S < 2147483648) (hT : T < 2147483648) : iand (S : Int) (ixor (T : Int) (-1)) = (dif S T : Int) := by
  show (Int32.ofInt (S : Int) &&& Int32.ofInt (Int32.ofInt (T : Int) ^^^ Int32.ofInt (-1)).toInt).toBitVec.toInt = _
  rw [ofI_toInt]
  have h : (Int32.ofInt (S : Int) &&& (Int32.ofInt (T : Int) ^^^ Int32.ofInt (-1))).toBitVec.toNat = dif S T := by
    rw [Int32.toBitVec_and, BitVec.toNat_and, Int32.toBitVec_xor, BitVec.toNat_xor, ofI_nat, ofI_nat, ofI_nat, show ((S : Int) % 4294967296).toNat = S by omega, show ((T : Int) % 4294967296).toNat = T by omega, show ((-1 : Int) % 4294967296).toNat = 4294967295 by decide]
    rfl
  have h2 := dif_le S T
  rw [BitVec.toInt_eq_toNat_of_lt (by rw [h]; omega), h]
def lowI : Nat → Nat → Nat
  | 0, _ => 0
  | f + 1, S => if S % 2 = 1 then 0 else 1 + lowI f (S / 2)
theorem lowI_p : ∀ S : Fin 128, S.val = 0 ∨ (S.val &&& (4294967296 - S.val) = 2 ^ lowI 7 S.val ∧ S.val.testBit (lowI 7 S.val) = true ∧ lowI 7 S.val < 7 ∧ (List.range (lowI 7 S.val)).all (fun j => !S.val.testBit j) = true) := by decide +kernel
theorem low_e (S : Nat) (h0 : 0 < S) (hS : S < 128) : iand (S : Int) (w32 (-(S : Int))) = ((2 ^ lowI 7 S : Nat) : Int) := by
  rcases lowI_p ⟨S, hS⟩ with h | ⟨h, _, h3, _⟩
  · dsimp only at h; omega
  · dsimp only at h h3
    show (Int32.ofInt (S : Int) &&& Int32.ofInt (w32 (-(S : Int)))).toBitVec.toInt = _
    rw [i_w]
    have h4 : (Int32.ofInt (S : Int) &&& Int32.ofInt (-(S : Int))).toBitVec.toNat = 2 ^ lowI 7 S := by
      rw [Int32.toBitVec_and, BitVec.toNat_and, ofI_nat, ofI_nat, show ((S : Int) % 4294967296).toNat = S by omega, show ((-(S : Int)) % 4294967296).toNat = 4294967296 - S by omega]
      exact h
    have h5 : 2 ^ lowI 7 S < 2 ^ 7 := Nat.pow_lt_pow_right (by decide) h3
    rw [BitVec.toInt_eq_toNat_of_lt (by rw [h4]; omega), h4]
theorem andlow (T i : Nat) (hT : T < 2147483648) (hi : i < 31) : iand (T : Int) ((2 ^ i : Nat) : Int) = 0 ↔ ¬ T.testBit i = true := by
  have hp : 2 ^ i < 2 ^ 31 := Nat.pow_lt_pow_right (by decide) hi
  rw [iand_n T (2 ^ i) hT (by omega)]
  constructor
  · intro h hb
    have h2 : T &&& 2 ^ i = 0 := by omega
    have := congrArg (fun z => z.testBit i) h2
    simp only [Nat.testBit_and, hb, Nat.testBit_two_pow, decide_true, Bool.and_self, Nat.zero_testBit] at this
    cases this
  · intro hb
    have h2 : T &&& 2 ^ i = 0 := by
      apply Nat.eq_of_testBit_eq
      intro j
      rw [Nat.testBit_and, Nat.testBit_two_pow, Nat.zero_testBit]
      by_cases e : i = j
      · subst e
        cases hc : T.testBit i
        · rfl
        · exact absurd hc hb
      · rw [decide_eq_false e, Bool.and_false]
    rw [h2]; rfl
/-! the sets within a set, from itself down -/
def goS (S : Nat) : Nat → Nat → List Nat
  | 0, _ => []
  | f + 1, T => if T = 0 then [] else T :: goS S f ((T - 1) &&& S)
def visS (S : Nat) : List Nat := goS S 128 S
theorem visS_p : ∀ S : Fin 128, visS S.val = (List.range 128).reverse.filter (fun T => decide (T ≠ 0) && decide (T &&& S.val = T)) := by decide +kernel
theorem visS_m (S T : Nat) (hS : S < 128) : T ∈ visS S ↔ T ≠ 0 ∧ T < 128 ∧ T &&& S = T := by
  rw [visS_p ⟨S, hS⟩, List.mem_filter, List.mem_reverse, List.mem_range, Bool.and_eq_true, decide_eq_true_eq, decide_eq_true_eq]
  constructor
  · rintro ⟨h1, h2, h3⟩; exact ⟨h2, h1, h3⟩
  · rintro ⟨h1, h2, h3⟩; exact ⟨h2, h1, h3⟩
theorem sub_t (S T : Nat) (hS : S < 128) (hT : T < 128) : T &&& S = T ↔ ∀ i, i < 7 → T.testBit i = true → S.testBit i = true := by
  constructor
  · intro h i _ h2
    have := congrArg (fun z => z.testBit i) h
    simp only [Nat.testBit_and, h2, Bool.true_and] at this
    exact this
  · intro h
    apply Nat.eq_of_testBit_eq
    intro i
    rw [Nat.testBit_and]
    by_cases hi : i < 7
    · cases hb : T.testBit i
      · rfl
      · rw [h i hi hb]; rfl
    · have : T.testBit i = false := Nat.testBit_lt_two_pow (Nat.lt_of_lt_of_le hT (show 2 ^ 7 ≤ 2 ^ i from Nat.pow_le_pow_right (by decide) (by omega)))
      rw [this]; rfl
theorem hib (T i : Nat) (hT : T < 128) (hi : 7 ≤ i) : T.testBit i = false := Nat.testBit_lt_two_pow (Nat.lt_of_lt_of_le hT (show 2 ^ 7 ≤ 2 ^ i from Nat.pow_le_pow_right (by decide) hi))
theorem ext7 (S T : Nat) (hS : S < 128) (hT : T < 128) (h : ∀ i, i < 7 → S.testBit i = T.testBit i) : S = T := by
  apply Nat.eq_of_testBit_eq
  intro i
  by_cases hi : i < 7
  · exact h i hi
  · rw [hib S i hS (by omega), hib T i hT (by omega)]
/-- a loop over the sets within a set -/
theorem lp_vis {σ ρ : Type} {f : σ → Option (σ ⊕ ρ)} (S : Nat) (hS : S < 128) (St : Nat → Dt → σ) (R : Dt → ρ) (Inv : List Nat → Dt → Prop)
    (hs : ∀ P T d, T ≠ 0 → T < 128 → T &&& S = T → Inv P d → ∃ d', f (St T d) = some (.inl (St ((T - 1) &&& S) d')) ∧ Inv (P ++ [T]) d')
    (he : ∀ d, f (St 0 d) = some (.inr (R d))) (d0 : Dt) (h0 : Inv [] d0) : ∃ d', lpF f FU (St S d0) = some (R d') ∧ Inv (visS S) d' := by
  have key : ∀ (g T : Nat), T < g → T < 128 → T &&& S = T → ∀ (P : List Nat) (d : Dt), Inv P d → ∀ fuel, T < fuel → ∃ d', lpF f fuel (St T d) = some (R d') ∧ Inv (P ++ goS S g T) d' := by
    intro g
    induction g with
    | zero => intro T h; omega
    | succ g ih =>
      intro T hTg hT hsub P d hI fuel hf
      obtain ⟨u, rfl⟩ : ∃ u, fuel = u + 1 := ⟨fuel - 1, by omega⟩
      by_cases q : T = 0
      · subst q
        refine ⟨d, ?_, ?_⟩
        · unfold lpF; rw [he d]
        · simp only [goS, if_true, List.append_nil]; exact hI
      · obtain ⟨d1, e1, e2⟩ := hs P T d q hT hsub hI
        have hle : (T - 1) &&& S ≤ T - 1 := Nat.and_le_left
        have hsub2 : ((T - 1) &&& S) &&& S = (T - 1) &&& S := by rw [Nat.and_assoc, Nat.and_self]
        obtain ⟨d2, e3, e4⟩ := ih ((T - 1) &&& S) (by omega) (by omega) hsub2 (P ++ [T]) d1 e2 u (by omega)
        refine ⟨d2, ?_, ?_⟩
        · unfold lpF; rw [e1]; exact e3
        · simp only [goS, if_neg q]
          rw [List.append_assoc] at e4
          exact e4
  obtain ⟨d', e1, e2⟩ := key 128 S hS hS (Nat.and_self S) [] d0 h0 FU (by show S < 1000000; omega)
  exact ⟨d', e1, by rw [List.nil_append] at e2; exact e2⟩
/-! least of some numbers -/
def fm (c : Nat → Bool) (t : Nat → Int) (z : Int) : Nat → Int
  | 0 => z
  | k + 1 => if c k = true then min (fm c t z k) (t k) else fm c t z k
theorem fm_0 (c : Nat → Bool) (t : Nat → Int) (z : Int) : ∀ n : Nat, fm c t z n ≤ z
  | 0 => Int.le_refl z
  | n + 1 => by have := fm_0 c t z n; simp only [fm]; split <;> omega
theorem fm_k (c : Nat → Bool) (t : Nat → Int) (z : Int) (k : Nat) (hk : c k = true) : ∀ n : Nat, k < n → fm c t z n ≤ t k
  | 0, h => by omega
  | n + 1, h => by
    simp only [fm]
    by_cases e : k = n
    · subst e; rw [if_pos hk]; omega
    · have := fm_k c t z k hk n (by omega); split <;> omega
theorem fm_at (c : Nat → Bool) (t : Nat → Int) (z : Int) : ∀ n : Nat, fm c t z n = z ∨ ∃ k, k < n ∧ c k = true ∧ fm c t z n = t k
  | 0 => Or.inl rfl
  | n + 1 => by
    have ih := fm_at c t z n
    simp only [fm]
    by_cases q : c n = true
    · rw [if_pos q]
      by_cases q2 : fm c t z n ≤ t n
      · rcases ih with h | ⟨k, h1, h2, h3⟩
        · left; omega
        · right; exact ⟨k, by omega, h2, by omega⟩
      · right; exact ⟨n, by omega, q, by omega⟩
    · rw [if_neg q]
      rcases ih with h | ⟨k, h1, h2, h3⟩
      · exact Or.inl h
      · right; exact ⟨k, by omega, h2, h3⟩
theorem fm_cg (c c' : Nat → Bool) (t t' : Nat → Int) (z : Int) : ∀ n : Nat, (∀ k, k < n → c k = c' k ∧ (c' k = true → t k = t' k)) → fm c t z n = fm c' t' z n
  | 0, _ => rfl
  | n + 1, h => by
    have ih := fm_cg c c' t t' z n (fun k hk => h k (by omega))
    obtain ⟨h1, h2⟩ := h n (by omega)
    simp only [fm, h1, ih]
    by_cases q : c' n = true
    · rw [if_pos q, if_pos q, h2 q]
    · rw [if_neg q, if_neg q]
/-- two leasts over numbers that go over into each other -/
theorem fm_eq (c1 c2 : Nat → Bool) (t1 t2 : Nat → Int) (z1 z2 : Int) (n1 n2 : Nat) (h12 : ∀ k, k < n1 → c1 k = true → ∃ k', k' < n2 ∧ c2 k' = true ∧ t2 k' = t1 k) (h21 : ∀ k, k < n2 → c2 k = true → ∃ k', k' < n1 ∧ c1 k' = true ∧ t1 k' = t2 k) (hz : z1 = z2 ∨ ∃ k, k < n1 ∧ c1 k = true ∧ t1 k ≤ z1 ∧ t1 k ≤ z2) : fm c1 t1 z1 n1 = fm c2 t2 z2 n2 := by
  have ex : (z1 = z2) ∨ ((∃ k, k < n1 ∧ c1 k = true ∧ fm c1 t1 z1 n1 = t1 k) ∧ ∃ k, k < n2 ∧ c2 k = true ∧ fm c2 t2 z2 n2 = t2 k) := by
    rcases hz with h | ⟨k, h1, h2, h3, h4⟩
    · exact Or.inl h
    · right
      obtain ⟨k', g1, g2, g3⟩ := h12 k h1 h2
      constructor
      · rcases fm_at c1 t1 z1 n1 with h | h
        · have := fm_k c1 t1 z1 k h2 n1 h1
          exact ⟨k, h1, h2, by omega⟩
        · exact h
      · rcases fm_at c2 t2 z2 n2 with h | h
        · have := fm_k c2 t2 z2 k' g2 n2 g1
          exact ⟨k', g1, g2, by omega⟩
        · exact h
  have le1 : ∀ k, k < n2 → c2 k = true → fm c1 t1 z1 n1 ≤ t2 k := fun k hk hc => by
    obtain ⟨k', g1, g2, g3⟩ := h21 k hk hc
    have := fm_k c1 t1 z1 k' g2 n1 g1; omega
  have le2 : ∀ k, k < n1 → c1 k = true → fm c2 t2 z2 n2 ≤ t1 k := fun k hk hc => by
    obtain ⟨k', g1, g2, g3⟩ := h12 k hk hc
    have := fm_k c2 t2 z2 k' g2 n2 g1; omega
  rcases ex with h | ⟨⟨k, a1, a2, a3⟩, k', b1, b2, b3⟩
  · subst h
    have u1 := fm_0 c1 t1 z1 n1
    have u2 := fm_0 c2 t2 z1 n2
    rcases fm_at c1 t1 z1 n1 with e1 | ⟨k, e1, e2, e3⟩
    · rcases fm_at c2 t2 z1 n2 with e4 | ⟨k', e4, e5, e6⟩
      · omega
      · have := le1 k' e4 e5; omega
    · have v1 := le2 k e1 e2
      rcases fm_at c2 t2 z1 n2 with e4 | ⟨k', e4, e5, e6⟩
      · omega
      · have := le1 k' e4 e5; omega
  · have v1 := le2 k a1 a2
    have v2 := le1 k' b1 b2
    omega
