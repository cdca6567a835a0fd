/-! FACTS: what both sides tell of a PERSON -/
def fLand (d : Dt) (p day : Int) : Nat → Int
  | 0 => 0
  | i + 1 => if d 10 i = p ∧ d 13 i ≤ day ∧ day ≤ d 14 i ∧ d 15 i ≤ d 0 12 then fLand d p day i + d 12 i else fLand d p day i
def fMany (d : Dt) (p day : Int) : Nat → Int
  | 0 => 0
  | i + 1 => if d 10 i = p ∧ d 13 i ≤ day ∧ day ≤ d 14 i ∧ d 15 i ≤ d 0 12 then fMany d p day i + 1 else fMany d p day i
def fHeld (d : Dt) (p day : Int) : Nat → Int
  | 0 => 0
  | i + 1 => if d 10 i = p ∧ d 13 i ≤ day ∧ day ≤ d 14 i ∧ d 15 i ≤ d 0 12 then max (fHeld d p day i) (day - d 13 i) else fHeld d p day i
def fBits (d : Dt) (p day : Int) : Nat → Nat
  | 0 => 0
  | i + 1 => if d 10 i = p ∧ d 13 i ≤ day ∧ day ≤ d 14 i ∧ d 15 i ≤ d 0 12 then fBits d p day i ||| 2 ^ (d 11 i).toNat else fBits d p day i
def sSin (d : Dt) (plot day : Int) : Nat → Int
  | 0 => 9999
  | k + 1 => if d 16 k = plot ∧ d 17 k ≤ day ∧ d 18 k ≤ d 0 12 then min (sSin d plot day k) (day - d 17 k) else sSin d plot day k
def fSpl (d : Dt) (p day : Int) : Nat → Int
  | 0 => 9999
  | i + 1 => if d 10 i = p ∧ d 13 i ≤ day ∧ day ≤ d 14 i ∧ d 15 i ≤ d 0 12 then min (fSpl d p day i) (sSin d (d 11 i) day (d 0 9).toNat) else fSpl d p day i
def aSpl (d : Dt) (bits : Nat) (day : Int) : Nat → Int
  | 0 => 9999
  | k + 1 => if bits.testBit (d 16 k).toNat = true ∧ d 17 k ≤ day ∧ d 18 k ≤ d 0 12 then min (aSpl d bits day k) (day - d 17 k) else aSpl d bits day k
def fPay (d : Dt) (p day : Int) : Nat → Int
  | 0 => 0
  | k + 1 => if d 19 k = p ∧ ¬ d 23 k = 0 ∧ d 21 k ≤ day ∧ d 22 k ≤ d 0 12 then fPay d p day k + d 20 k else fPay d p day k
theorem fLand_b (d : Dt) (p day : Int) : ∀ n : Nat, (∀ i, i < n → 1 ≤ d 12 i ∧ d 12 i ≤ 1000) → 0 ≤ fLand d p day n ∧ fLand d p day n ≤ 1000 * n
  | 0, _ => by simp only [fLand]; omega
  | n + 1, h => by
    have ih := fLand_b d p day n (fun i hi => h i (by omega))
    have h1 := h n (by omega)
    simp only [fLand]; split <;> omega
theorem fMany_b (d : Dt) (p day : Int) : ∀ n : Nat, 0 ≤ fMany d p day n ∧ fMany d p day n ≤ n
  | 0 => by simp only [fMany]; omega
  | n + 1 => by
    have ih := fMany_b d p day n
    simp only [fMany]; split <;> omega
theorem fHeld_b (d : Dt) (p day : Int) (hd : 0 ≤ day ∧ day ≤ 9999) : ∀ n : Nat, (∀ i, i < n → 0 ≤ d 13 i ∧ d 13 i ≤ 9999) → 0 ≤ fHeld d p day n ∧ fHeld d p day n ≤ 9999
  | 0, _ => by simp only [fHeld]; omega
  | n + 1, h => by
    have ih := fHeld_b d p day hd n (fun i hi => h i (by omega))
    have h1 := h n (by omega)
    simp only [fHeld]; split <;> omega
theorem fBits_b (d : Dt) (p day : Int) : ∀ n : Nat, (∀ i, i < n → 0 ≤ d 11 i ∧ d 11 i < 40) → fBits d p day n < 2 ^ 40
  | 0, _ => by simp only [fBits]; omega
  | n + 1, h => by
    have ih := fBits_b d p day n (fun i hi => h i (by omega))
    have h1 := h n (by omega)
    simp only [fBits]; split
    · exact Nat.or_lt_two_pow ih (Nat.pow_lt_pow_right (by decide) (by omega))
    · exact ih
theorem sSin_b (d : Dt) (plot day : Int) (hd : 0 ≤ day ∧ day ≤ 9999) : ∀ n : Nat, 0 ≤ sSin d plot day n ∧ sSin d plot day n ≤ 9999
  | 0 => by simp only [sSin]; omega
  | n + 1 => by
    have ih := sSin_b d plot day hd n
    simp only [sSin]; split <;> omega
theorem fSpl_b (d : Dt) (p day : Int) (hd : 0 ≤ day ∧ day ≤ 9999) : ∀ n : Nat, 0 ≤ fSpl d p day n ∧ fSpl d p day n ≤ 9999
  | 0 => by simp only [fSpl]; omega
  | n + 1 => by
    have ih := fSpl_b d p day hd n
    have h2 := sSin_b d (d 11 n) day hd (d 0 9).toNat
    simp only [fSpl]; split <;> omega
theorem aSpl_b (d : Dt) (b : Nat) (day : Int) (hd : 0 ≤ day ∧ day ≤ 9999) : ∀ n : Nat, 0 ≤ aSpl d b day n ∧ aSpl d b day n ≤ 9999
  | 0 => by simp only [aSpl]; omega
  | n + 1 => by
    have ih := aSpl_b d b day hd n
    simp only [aSpl]; split <;> omega
theorem fPay_b (d : Dt) (p day : Int) : ∀ n : Nat, (∀ i, i < n → 1 ≤ d 20 i ∧ d 20 i ≤ 1000) → 0 ≤ fPay d p day n ∧ fPay d p day n ≤ 1000 * n
  | 0, _ => by simp only [fPay]; omega
  | n + 1, h => by
    have ih := fPay_b d p day n (fun i hi => h i (by omega))
    have h1 := h n (by omega)
    simp only [fPay]; split <;> omega
theorem fBits_t (d : Dt) (p day : Int) (q : Nat) : ∀ n : Nat, (fBits d p day n).testBit q = true ↔ ∃ i, i < n ∧ (d 10 i = p ∧ d 13 i ≤ day ∧ day ≤ d 14 i ∧ d 15 i ≤ d 0 12) ∧ (d 11 i).toNat = q
  | 0 => by
    simp only [fBits]
    constructor
    · intro h; simp at h
    · rintro ⟨i, hi, _⟩; omega
  | n + 1 => by
    have ih := fBits_t d p day q n
    simp only [fBits]
    by_cases hc : d 10 n = p ∧ d 13 n ≤ day ∧ day ≤ d 14 n ∧ d 15 n ≤ d 0 12
    · rw [if_pos hc, Nat.testBit_or, Nat.testBit_two_pow, Bool.or_eq_true, ih, decide_eq_true_eq]
      constructor
      · rintro (⟨i, h1, h2, h3⟩ | h)
        · exact ⟨i, by omega, h2, h3⟩
        · exact ⟨n, by omega, hc, h⟩
      · rintro ⟨i, h1, h2, h3⟩
        by_cases hi : i = n
        · subst hi; exact Or.inr h3
        · exact Or.inl ⟨i, by omega, h2, h3⟩
    · rw [if_neg hc, ih]
      constructor
      · rintro ⟨i, h1, h2, h3⟩; exact ⟨i, by omega, h2, h3⟩
      · rintro ⟨i, h1, h2, h3⟩
        by_cases hi : i = n
        · subst hi; exact absurd h2 hc
        · exact ⟨i, by omega, h2, h3⟩
theorem sSin_le (d : Dt) (plot day : Int) (k : Nat) (hc : d 16 k = plot ∧ d 17 k ≤ day ∧ d 18 k ≤ d 0 12) : ∀ n : Nat, k < n → sSin d plot day n ≤ day - d 17 k
  | 0, h => by omega
  | n + 1, h => by
    simp only [sSin]
    by_cases hk : k = n
    · subst hk; rw [if_pos hc]; omega
    · have ih := sSin_le d plot day k hc n (by omega)
      split <;> omega
theorem fSpl_le (d : Dt) (p day : Int) (i : Nat) (hc : d 10 i = p ∧ d 13 i ≤ day ∧ day ≤ d 14 i ∧ d 15 i ≤ d 0 12) : ∀ n : Nat, i < n → fSpl d p day n ≤ sSin d (d 11 i) day (d 0 9).toNat
  | 0, h => by omega
  | n + 1, h => by
    simp only [fSpl]
    by_cases hk : i = n
    · subst hk; rw [if_pos hc]; omega
    · have ih := fSpl_le d p day i hc n (by omega)
      split <;> omega
theorem aSpl_lo (d : Dt) (p day : Int) (N : Nat) (hp : ∀ k, k < (d 0 9).toNat → 0 ≤ d 16 k) (hq : ∀ i, i < N → 0 ≤ d 11 i) : ∀ n : Nat, n ≤ (d 0 9).toNat → fSpl d p day N ≤ aSpl d (fBits d p day N) day n
  | 0, _ => by
    have key : ∀ m : Nat, fSpl d p day m ≤ 9999 := by
      intro m
      induction m with
      | zero => simp only [fSpl]; omega
      | succ m ih => simp only [fSpl]; split <;> omega
    simp only [aSpl]; exact key N
  | n + 1, h => by
    have ih := aSpl_lo d p day N hp hq n (by omega)
    simp only [aSpl]
    split
    · rename_i hc
      obtain ⟨i, h1, h2, h3⟩ := (fBits_t d p day (d 16 n).toNat N).1 hc.1
      have h4 := fSpl_le d p day i h2 N h1
      have h5 := sSin_le d (d 11 i) day n ⟨by have := hp n (by omega); have := hq i h1; omega, hc.2⟩ (d 0 9).toNat (by omega)
      omega
    · exact ih
theorem aSpl_hi1 (d : Dt) (p day : Int) (N i : Nat) (hi : i < N) (hc : d 10 i = p ∧ d 13 i ≤ day ∧ day ≤ d 14 i ∧ d 15 i ≤ d 0 12) : ∀ n : Nat, aSpl d (fBits d p day N) day n ≤ sSin d (d 11 i) day n
  | 0 => by simp only [aSpl, sSin]; omega
  | n + 1 => by
    have ih := aSpl_hi1 d p day N i hi hc n
    simp only [aSpl, sSin]
    by_cases h : d 16 n = d 11 i ∧ d 17 n ≤ day ∧ d 18 n ≤ d 0 12
    · have hb : (fBits d p day N).testBit (d 16 n).toNat = true := (fBits_t d p day _ N).2 ⟨i, hi, hc, by rw [h.1]⟩
      rw [if_pos ⟨hb, h.2⟩, if_pos h]; omega
    · rw [if_neg h]; split <;> omega
theorem aSpl_hi (d : Dt) (p day : Int) (N : Nat) : ∀ n : Nat, n ≤ N → aSpl d (fBits d p day N) day (d 0 9).toNat ≤ fSpl d p day n
  | 0, _ => by
    have key : ∀ m : Nat, aSpl d (fBits d p day N) day m ≤ 9999 := by
      intro m
      induction m with
      | zero => simp only [aSpl]; omega
      | succ m ih => simp only [aSpl]; split <;> omega
    simp only [fSpl]; exact key _
  | n + 1, h => by
    have ih := aSpl_hi d p day N n (by omega)
    simp only [fSpl]
    split
    · rename_i hc
      have h1 := aSpl_hi1 d p day N n (by omega) hc (d 0 9).toNat
      omega
    · exact ih
theorem aSpl_e (d : Dt) (p day : Int) (N : Nat) (hp : ∀ k, k < (d 0 9).toNat → 0 ≤ d 16 k) (hq : ∀ i, i < N → 0 ≤ d 11 i) : aSpl d (fBits d p day N) day (d 0 9).toNat = fSpl d p day N := by
  have h1 := aSpl_lo d p day N hp hq (d 0 9).toNat (by omega)
  have h2 := aSpl_hi d p day N N (by omega)
  omega
/-- what a FACT is -/
def factB (d : Dt) (p place day : Int) (w : Nat) : Int :=
  if w = 0 then fLand d p day (d 0 8).toNat else if w = 1 then fMany d p day (d 0 8).toNat else if w = 2 then fHeld d p day (d 0 8).toNat else if w = 3 then fSpl d p day (d 0 8).toNat else if w = 4 then d 8 p.toNat else if w = 5 then (if d 9 p.toNat = place then 1 else 0) else fPay d p day (d 0 10).toNat
