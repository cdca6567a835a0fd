/-! the nearest PERSON: compare, meetPerson, meetEntry -/
theorem lp_inv {σ ρ : Type} {f : σ → Option (σ ⊕ ρ)} (S : Nat → Dt → σ) (R : Dt → ρ) (Inv : Nat → Dt → Prop) (n : Nat) (hs : ∀ i d, i < n → Inv i d → ∃ d', f (S i d) = some (.inl (S (i + 1) d')) ∧ Inv (i + 1) d') (he : ∀ d, Inv n d → f (S n d) = some (.inr (R d))) (hn : n < 1000000) (d0 : Dt) (h0 : Inv 0 d0) : ∃ d', lpF f FU (S 0 d0) = some (R d') ∧ Inv n d' := by
  have key : ∀ (k m : Nat), m + k = n → ∀ fuel, k < fuel → ∀ d, Inv m d → ∃ d', lpF f fuel (S m d) = some (R d') ∧ Inv n d' := by
    intro k
    induction k with
    | zero =>
      intro m hm fuel hf d hI
      obtain ⟨g, rfl⟩ : ∃ g, fuel = g + 1 := ⟨fuel - 1, by omega⟩
      have : m = n := by omega
      subst this
      refine ⟨d, ?_, hI⟩
      unfold lpF; rw [he d hI]
    | succ k ih =>
      intro m hm fuel hf d hI
      obtain ⟨g, rfl⟩ : ∃ g, fuel = g + 1 := ⟨fuel - 1, by omega⟩
      obtain ⟨d1, e1, e2⟩ := hs m d (by omega) hI
      obtain ⟨d2, e3, e4⟩ := ih (m + 1) (by omega) g (by omega) d1 e2
      refine ⟨d2, ?_, e4⟩
      unfold lpF; rw [e1]; exact e3
  exact key n 0 (by omega) FU (by show n < 1000000; omega) d0 h0
def farV (a b : Int) : Int := DD (fun i => shN i a % 32) (fun j => shN j b % 32) (dgN 8 a) (dgN 8 b)
theorem farV_b (a b : Int) : 0 ≤ farV a b ∧ farV a b ≤ 16 := by
  have h := DD_b (fun i => shN i a % 32) (fun j => shN j b % 32) (dgN 8 a) (dgN 8 b)
  have h1 := dgN_le 8 a
  have h2 := dgN_le 8 b
  unfold farV; omega
theorem nm_rg {p : Int} (h : isNm p) : 0 ≤ p ∧ p < 1099511627776 := ⟨by have := h.1; omega, h.2.1⟩
theorem farA' (arr : Nat) {p1 p2 : Int} (h1 : isNm p1) (h2 : isNm p2) (d : Dt) : ∃ d', L_PB_lettersApart arr 9 p1 p2 d = some (farV p1 p2, d') ∧ ∀ k, k ≠ arr → d' k = d k := farA arr (nm_rg h1) (nm_rg h2) d
theorem farB' {p1 p2 : Int} (h1 : isNm p1) (h2 : isNm p2) (d : Dt) : ∃ d', L_Mo_farOf p1 p2 d = some (farV p1 p2, d') ∧ ∀ k, k ≠ 4 → k ≠ 5 → k ≠ 6 → d' k = d k := farB (nm_rg h1) (nm_rg h2) d
/-- how far an ENTRY's name and trade are from a PERSON's -/
def distV (n1 t1 n2 t2 : Int) : Int := 3 * farV n1 n2 + if t1 ≠ -1 ∧ t1 ≠ t2 then 2 else 0
theorem distV_b (n1 t1 n2 t2 : Int) : 0 ≤ distV n1 t1 n2 t2 ∧ distV n1 t1 n2 t2 ≤ 50 := by
  have h := farV_b n1 n2
  unfold distV; split <;> omega
theorem distance_e (e p : Nat) (d : Dt) (he : e < 90) (hp : p < 40) (n1 : isNm (d 38 e)) (n2 : isNm (d 8 p)) : ∃ d', L_Po_distance (e : Int) (p : Int) d = some (distV (d 38 e) (d 39 e) (d 8 p) (d 9 p), d') ∧ ∀ k, k ≠ 53 → d' k = d k := by
  obtain ⟨d1, a1, a2⟩ := farA' 53 n1 n2 d
  have hb := farV_b (d 38 e) (d 8 p)
  refine ⟨d1, ?_, a2⟩
  unfold L_Po_distance L_Po_distance_b62 L_Po_distance_b77 distV
  simp only [tn_i, ck_pos (show (0 : Int) ≤ (e : Int) ∧ (e : Int) < 90 by omega), ck_pos (show (0 : Int) ≤ (p : Int) ∧ (p : Int) < 40 by omega), a1, bd_s, lt_, a2 39 (by decide), a2 9 (by decide), w32_s (x := 3 * farV (d 38 e) (d 8 p)) (by omega) (by omega), i10, if_true, if_false, w32_s (x := 3 * farV (d 38 e) (d 8 p) + 0) (by omega) (by omega), w32_s (x := 3 * farV (d 38 e) (d 8 p) + 2) (by omega) (by omega)]
  by_cases h1 : d 39 e = -1
  · rw [if_pos h1, if_neg (fun q => q.1 h1)]
  · rw [if_neg h1]
    by_cases h2 : d 39 e = d 9 p
    · rw [if_pos h2, if_neg (fun q => q.2 h2)]
    · rw [if_neg h2, if_pos ⟨h1, h2⟩]
theorem compare_e (e p : Nat) (d : Dt) (he : e < 30) (hp : p < 40) (n1 : isNm (d 38 e)) (n2 : isNm (d 8 p)) : ∃ d', L_Po_compare (e : Int) (p : Int) d = some (0, d') ∧ (∀ k, k ≠ 50 → k ≠ 51 → k ≠ 52 → k ≠ 53 → d' k = d k) ∧ (∀ j, j ≠ e → d' 50 j = d 50 j ∧ d' 51 j = d 51 j ∧ d' 52 j = d 52 j)
    ∧ d' 50 e = (if distV (d 38 e) (d 39 e) (d 8 p) (d 9 p) < d 51 e then (p : Int) else d 50 e)
    ∧ d' 51 e = (if distV (d 38 e) (d 39 e) (d 8 p) (d 9 p) < d 51 e then distV (d 38 e) (d 39 e) (d 8 p) (d 9 p) else d 51 e)
    ∧ d' 52 e = (if distV (d 38 e) (d 39 e) (d 8 p) (d 9 p) < d 51 e then 1 else if distV (d 38 e) (d 39 e) (d 8 p) (d 9 p) = d 51 e then 0 else d 52 e) := by
  obtain ⟨d1, a1, a2⟩ := distance_e e p d (by omega) hp n1 n2
  unfold L_Po_compare
  simp only [tn_i, a1, bd_s, ck_pos (show (0 : Int) ≤ (e : Int) ∧ (e : Int) < 30 by omega), a2 51 (by decide)]
  by_cases h1 : distV (d 38 e) (d 39 e) (d 8 p) (d 9 p) < d 51 e
  · simp only [if_pos h1]
    refine ⟨_, rfl, ?_, ?_, ?_, ?_, ?_⟩
    · intro k h2 h3 h4 h5
      rw [up2_K _ _ _ h4, up2_K _ _ _ h2, up2_K _ _ _ h3, a2 k h5]
    · intro j hj
      simp (disch := decide) only [up2_j _ _ _ hj, up2_K, a2 50 (by decide), a2 51 (by decide), a2 52 (by decide), and_self]
    · simp (disch := decide) only [up2_s, up2_K]
    · simp (disch := decide) only [up2_s, up2_K]
    · simp (disch := decide) only [up2_s, up2_K]
  · simp only [if_neg h1]
    by_cases h2 : distV (d 38 e) (d 39 e) (d 8 p) (d 9 p) = d 51 e
    · simp only [if_pos h2]
      refine ⟨_, rfl, ?_, ?_, ?_, ?_, ?_⟩
      · intro k h2 h3 h4 h5
        rw [up2_K _ _ _ h4, a2 k h5]
      · intro j hj
        simp (disch := decide) only [up2_j _ _ _ hj, up2_K, a2 50 (by decide), a2 51 (by decide), a2 52 (by decide), and_self]
      · simp (disch := decide) only [up2_s, up2_K, a2 50 (by decide)]
      · simp (disch := decide) only [up2_s, up2_K, a2 51 (by decide)]
      · simp (disch := decide) only [up2_s, up2_K]
    · simp only [if_neg h2]
      refine ⟨_, rfl, fun k _ _ _ h5 => a2 k h5, fun j _ => ⟨by rw [a2 50 (by decide)], by rw [a2 51 (by decide)], by rw [a2 52 (by decide)]⟩, by rw [a2 50 (by decide)], by rw [a2 51 (by decide)], by rw [a2 52 (by decide)]⟩
/-! what both know: the nearest of the first n PERSONS -/
def dB_ (d : Dt) (e p : Nat) : Int := distV (d 57 e) (d 53 e) (d 7 p) (d 8 p)
def nF (d : Dt) (e : Nat) : Nat → Int
  | 0 => 31
  | p + 1 => if dB_ d e p < nF d e p then dB_ d e p else nF d e p
def nP (d : Dt) (e : Nat) : Nat → Int
  | 0 => -1
  | p + 1 => if dB_ d e p < nF d e p then (p : Int) else nP d e p
def nS (d : Dt) (e : Nat) : Nat → Int
  | 0 => 0
  | p + 1 => if dB_ d e p < nF d e p then 1 else if dB_ d e p = nF d e p then 0 else nS d e p
theorem nF_b (d : Dt) (e : Nat) : ∀ n : Nat, 0 ≤ nF d e n ∧ nF d e n ≤ 31
  | 0 => by simp only [nF]; omega
  | n + 1 => by
    have ih := nF_b d e n
    have h := distV_b (d 57 e) (d 53 e) (d 7 n) (d 8 n)
    simp only [nF]
    have h2 : dB_ d e n = distV (d 57 e) (d 53 e) (d 7 n) (d 8 n) := rfl
    rw [← h2] at h
    by_cases q : dB_ d e n < nF d e n
    · rw [if_pos q]; omega
    · rw [if_neg q]; omega
theorem nP_b (d : Dt) (e : Nat) : ∀ n : Nat, (nF d e n < 31 → 0 ≤ nP d e n) ∧ -1 ≤ nP d e n ∧ nP d e n < n
  | 0 => by simp only [nP, nF]; omega
  | n + 1 => by
    have ih := nP_b d e n
    simp only [nP, nF]; split <;> omega
/-- books, and the nearest -/
def RB (dA dB : Dt) : Prop := (∀ b : Nat, b < 3 → dA 42 b = dB 52 b ∧ 0 ≤ dB 52 b ∧ dB 52 b ≤ 30) ∧ ∀ b i : Nat, b < 3 → (i : Int) < dB 52 b → dA 38 (30 * b + i) = dB 57 (30 * b + i) ∧ dA 39 (30 * b + i) = dB 53 (30 * b + i) ∧ dA 40 (30 * b + i) = dB 54 (30 * b + i) ∧ dA 41 (30 * b + i) = dB 55 (30 * b + i) ∧ isNm (dB 57 (30 * b + i)) ∧ (-1 ≤ dB 53 (30 * b + i) ∧ dB 53 (30 * b + i) ≤ 19) ∧ (0 ≤ dB 54 (30 * b + i) ∧ dB 54 (30 * b + i) ≤ 1439) ∧ 1 ≤ dB 55 (30 * b + i) ∧ dB 55 (30 * b + i) ≤ 15
def RN (dA dB : Dt) : Prop := ∀ e : Nat, (e : Int) < dB 52 0 → dA 50 e = nP dB e (dB 0 7).toNat ∧ dA 51 e = nF dB e (dB 0 7).toNat ∧ (nF dB e (dB 0 7).toNat < 31 → dA 52 e = nS dB e (dB 0 7).toNat)
