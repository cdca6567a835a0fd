/-! far: the table of both sides -/
def LL (f : Nat → Int) : Nat → List Int
  | 0 => []
  | i + 1 => f i :: LL f i
def DD (f g : Nat → Int) (i j : Nat) : Int := (lev (LL f i) (LL g j) : Int)
theorem LL_len (f : Nat → Int) : ∀ i, (LL f i).length = i
  | 0 => rfl
  | i + 1 => by show (LL f i).length + 1 = i + 1; rw [LL_len f i]
theorem DD_0 (f g : Nat → Int) (j : Nat) : DD f g 0 j = (j : Int) := by
  unfold DD
  show ((LL g j).length : Int) = j
  rw [LL_len]
theorem DD_n (f g : Nat → Int) : ∀ i : Nat, DD f g i 0 = (i : Int)
  | 0 => rfl
  | i + 1 => by
    have ih := DD_n f g i
    unfold DD at ih ⊢
    show ((lev (LL f i) (LL g 0) + 1 : Nat) : Int) = ((i + 1 : Nat) : Int)
    omega
theorem DD_s (f g : Nat → Int) (i j : Nat) : DD f g (i + 1) (j + 1) = min (DD f g i j + if f i = g j then 0 else 1) (min (DD f g i (j + 1)) (DD f g (i + 1) j) + 1) := by
  unfold DD
  have h : lev (LL f (i + 1)) (LL g (j + 1)) = min (lev (LL f i) (LL g j) + if f i = g j then 0 else 1) (min (lev (LL f i) (LL g (j + 1))) (lev (LL f (i + 1)) (LL g j)) + 1) := lev_cc _ _ _ _
  rw [h]
  by_cases e : f i = g j
  · rw [if_pos e, if_pos e]; omega
  · rw [if_neg e, if_neg e]; omega
theorem DD_b (f g : Nat → Int) : ∀ i j : Nat, 0 ≤ DD f g i j ∧ DD f g i j ≤ (i : Int) + j
  | 0, j => by rw [DD_0]; omega
  | i + 1, 0 => by rw [DD_n]; omega
  | i + 1, j + 1 => by
    have h1 := DD_b f g i (j + 1)
    rw [DD_s]
    have h2 : 0 ≤ DD f g i j := by unfold DD; omega
    have h3 : 0 ≤ DD f g (i + 1) j := by unfold DD; omega
    by_cases e : f i = g j
    · rw [if_pos e]; omega
    · rw [if_neg e]; omega
theorem LL_app (f : Nat → Int) : ∀ n : Nat, LL (fun i => f (n - 1 - i)) n = (LL f n).reverse
  | 0 => rfl
  | n + 1 => by
    have key : ∀ m : Nat, m ≤ n → LL (fun i => f (n + 1 - 1 - i)) (m + 1) = LL (fun i => f (n - 1 - i)) m ++ [f n] := by
      intro m
      induction m with
      | zero => intro _; rfl
      | succ m ih =>
        intro hm
        show f (n + 1 - 1 - (m + 1)) :: LL (fun i => f (n + 1 - 1 - i)) (m + 1) = f (n - 1 - m) :: LL (fun i => f (n - 1 - i)) m ++ [f n]
        rw [ih (by omega), show n + 1 - 1 - (m + 1) = n - 1 - m by omega]
        rfl
    rw [key n (Nat.le_refl n), LL_app f n]
    show _ = (f n :: LL f n).reverse
    rw [List.reverse_cons]
theorem DD_rev (f g : Nat → Int) (n m : Nat) : DD (fun i => f (n - 1 - i)) (fun j => g (m - 1 - j)) n m = DD f g n m := by
  unfold DD
  rw [LL_app, LL_app, lev_rev]
