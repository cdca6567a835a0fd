/-! LETTERS APART: one word for both directions -/
theorem okN_lt : ∀ (k : Nat) (n : Int), 0 ≤ n → okN k n = true → n < 32 ^ k
  | 0, n, _, h => by
    have hn : n = 0 := of_decide_eq_true h
    rw [hn]; decide
  | k + 1, n, h0, h => by
    rw [okN_s] at h
    rw [Int.pow_succ]
    have hp : (0 : Int) < 32 ^ k := Int.pow_pos (by decide)
    by_cases hz : n = 0
    · omega
    · rw [if_neg hz] at h
      by_cases hl : 1 ≤ n % 32 ∧ n % 32 ≤ 26
      · rw [if_pos hl] at h
        have ih := okN_lt k (n / 32) (by omega) h
        omega
      · rw [if_neg hl] at h; cases h
/-- a NAME -/
def isNm (p : Int) : Prop := 1 ≤ p ∧ p < 1099511627776 ∧ okN 8 p = true
theorem isNm_A {p : Int} (hp : c64 p) : (p ≠ 0 ∧ okN 8 (p % 18446744073709551616) = true) ↔ isNm p := by
  obtain ⟨g1, g2⟩ := hp
  have q8 : (32 : Int) ^ 8 = 1099511627776 := by decide
  constructor
  · rintro ⟨h1, h2⟩
    have h3 := okN_lt 8 _ (by omega) h2
    rw [q8] at h3
    have h4 : p % 18446744073709551616 = p := by omega
    rw [h4] at h2 h3
    exact ⟨by omega, h3, h2⟩
  · rintro ⟨h1, h2, h3⟩
    have h4 : p % 18446744073709551616 = p := by omega
    rw [h4]
    exact ⟨by omega, h3⟩
def levR (x : Int) (f : List Int → Nat) : List Int → Nat
  | [] => f [] + 1
  | y :: b => min (f b + if x = y then 0 else 1) (min (f (y :: b)) (levR x f b) + 1)
def lev : List Int → List Int → Nat
  | [] => fun b => b.length
  | x :: a => levR x (lev a)
theorem lev_nn (b : List Int) : lev [] b = b.length := rfl
theorem lev_cn (x : Int) (a : List Int) : lev (x :: a) [] = lev a [] + 1 := rfl
theorem lev_cc (x y : Int) (a b : List Int) : lev (x :: a) (y :: b) = min (lev a b + if x = y then 0 else 1) (min (lev a (y :: b)) (lev (x :: a) b) + 1) := rfl
/-! an alignment: pairs of letters, either may be missing -/
def pj1 : List (Option Int × Option Int) → List Int
  | [] => []
  | (some x, _) :: l => x :: pj1 l
  | (none, _) :: l => pj1 l
def pj2 : List (Option Int × Option Int) → List Int
  | [] => []
  | (_, some y) :: l => y :: pj2 l
  | (_, none) :: l => pj2 l
def cst1 : Option Int × Option Int → Nat
  | (some x, some y) => if x = y then 0 else 1
  | (some _, none) => 1
  | (none, _) => 1
def cst : List (Option Int × Option Int) → Nat
  | [] => 0
  | o :: l => cst l + cst1 o
theorem al_nb : ∀ b : List Int, ∃ l, pj1 l = [] ∧ pj2 l = b ∧ cst l = b.length
  | [] => ⟨[], rfl, rfl, rfl⟩
  | y :: b => by
    obtain ⟨l, h1, h2, h3⟩ := al_nb b
    refine ⟨(none, some y) :: l, h1, ?_, ?_⟩
    · show y :: pj2 l = y :: b
      rw [h2]
    · show cst l + 1 = b.length + 1
      rw [h3]
theorem al_lev (n : Nat) : ∀ a b : List Int, a.length + b.length ≤ n → ∃ l, pj1 l = a ∧ pj2 l = b ∧ cst l = lev a b := by
  induction n with
  | zero =>
    intro a b h
    cases a with
    | nil => exact al_nb b
    | cons x a => simp only [List.length_cons] at h; omega
  | succ n ih =>
    intro a b h
    cases a with
    | nil => exact al_nb b
    | cons x a =>
      simp only [List.length_cons] at h
      cases b with
      | nil =>
        obtain ⟨l, h1, h2, h3⟩ := ih a [] (by simp only [List.length_nil] at h ⊢; omega)
        refine ⟨(some x, none) :: l, ?_, h2, ?_⟩
        · show x :: pj1 l = x :: a
          rw [h1]
        · rw [lev_cn, ← h3]; rfl
      | cons y b =>
        simp only [List.length_cons] at h
        obtain ⟨l1, p1, p2, p3⟩ := ih a b (by omega)
        obtain ⟨l2, q1, q2, q3⟩ := ih a (y :: b) (by simp only [List.length_cons]; omega)
        obtain ⟨l3, r1, r2, r3⟩ := ih (x :: a) b (by simp only [List.length_cons]; omega)
        rw [lev_cc]
        rcases Nat.le_total (lev a b + if x = y then 0 else 1) (min (lev a (y :: b)) (lev (x :: a) b) + 1) with g | g
        · rw [Nat.min_eq_left g]
          refine ⟨(some x, some y) :: l1, ?_, ?_, ?_⟩
          · show x :: pj1 l1 = x :: a
            rw [p1]
          · show y :: pj2 l1 = y :: b
            rw [p2]
          · rw [← p3]; rfl
        · rw [Nat.min_eq_right g]
          rcases Nat.le_total (lev a (y :: b)) (lev (x :: a) b) with k | k
          · rw [Nat.min_eq_left k]
            refine ⟨(some x, none) :: l2, ?_, q2, ?_⟩
            · show x :: pj1 l2 = x :: a
              rw [q1]
            · rw [← q3]; rfl
          · rw [Nat.min_eq_right k]
            refine ⟨(none, some y) :: l3, r1, ?_, ?_⟩
            · show y :: pj2 l3 = y :: b
              rw [r2]
            · rw [← r3]; rfl
theorem al_le : ∀ l : List (Option Int × Option Int), lev (pj1 l) (pj2 l) ≤ cst l
  | [] => Nat.le_refl 0
  | (some x, some y) :: l => by
    have ih := al_le l
    show lev (x :: pj1 l) (y :: pj2 l) ≤ cst l + (if x = y then 0 else 1)
    rw [lev_cc]; omega
  | (some x, none) :: l => by
    have ih := al_le l
    show lev (x :: pj1 l) (pj2 l) ≤ cst l + 1
    cases hb : pj2 l with
    | nil => rw [hb] at ih; rw [lev_cn]; omega
    | cons y b => rw [hb] at ih; rw [lev_cc]; omega
  | (none, some y) :: l => by
    have ih := al_le l
    show lev (pj1 l) (y :: pj2 l) ≤ cst l + 1
    cases ha : pj1 l with
    | nil => rw [ha, lev_nn] at ih; rw [lev_nn]; simp only [List.length_cons]; omega
    | cons x a => rw [ha] at ih; rw [lev_cc]; omega
  | (none, none) :: l => by
    have ih := al_le l
    show lev (pj1 l) (pj2 l) ≤ cst l + 1
    omega
theorem pj1_app : ∀ l k : List (Option Int × Option Int), pj1 (l ++ k) = pj1 l ++ pj1 k
  | [], _ => rfl
  | (some x, _) :: l, k => by show x :: pj1 (l ++ k) = x :: (pj1 l ++ pj1 k); rw [pj1_app l k]
  | (none, _) :: l, k => pj1_app l k
theorem pj2_app : ∀ l k : List (Option Int × Option Int), pj2 (l ++ k) = pj2 l ++ pj2 k
  | [], _ => rfl
  | (_, some y) :: l, k => by show y :: pj2 (l ++ k) = y :: (pj2 l ++ pj2 k); rw [pj2_app l k]
  | (_, none) :: l, k => pj2_app l k
theorem cst_app : ∀ l k : List (Option Int × Option Int), cst (l ++ k) = cst l + cst k
  | [], k => by show cst k = 0 + cst k; omega
  | o :: l, k => by show cst (l ++ k) + cst1 o = cst l + cst1 o + cst k; rw [cst_app l k]; omega
theorem al_rev : ∀ l : List (Option Int × Option Int), pj1 l.reverse = (pj1 l).reverse ∧ pj2 l.reverse = (pj2 l).reverse ∧ cst l.reverse = cst l
  | [] => ⟨rfl, rfl, rfl⟩
  | (o1, o2) :: l => by
    obtain ⟨h1, h2, h3⟩ := al_rev l
    rw [List.reverse_cons, pj1_app, pj2_app, cst_app, h1, h2, h3]
    refine ⟨?_, ?_, ?_⟩
    · cases o1 with
      | none => exact List.append_nil _
      | some x => show _ = (x :: pj1 l).reverse; rw [List.reverse_cons]; rfl
    · cases o2 with
      | none => exact List.append_nil _
      | some y => show _ = (y :: pj2 l).reverse; rw [List.reverse_cons]; rfl
    · show cst l + (0 + cst1 (o1, o2)) = cst l + cst1 (o1, o2)
      omega
theorem lev_rle (a b : List Int) : lev a.reverse b.reverse ≤ lev a b := by
  obtain ⟨l, h1, h2, h3⟩ := al_lev _ a b (Nat.le_refl _)
  obtain ⟨r1, r2, r3⟩ := al_rev l
  have h := al_le l.reverse
  rw [r1, r2, r3, h1, h2, h3] at h
  exact h
theorem lev_rev (a b : List Int) : lev a.reverse b.reverse = lev a b := by
  apply Nat.le_antisymm
  · exact lev_rle a b
  · have h := lev_rle a.reverse b.reverse
    rwa [List.reverse_reverse, List.reverse_reverse] at h
