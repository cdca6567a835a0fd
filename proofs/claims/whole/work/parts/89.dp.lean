/-! JOIN: the table of least costs, told in both ways -/
def gR (c : Nat → Int) (z : Int) (prev : Nat → Int) (m : Nat) : Nat → Int
  | 0 => z
  | k + 1 => min (10 + min (prev (k + 1)) (gR c z prev m k)) (c (m - (k + 1)) + prev k)
def gL (c : Nat → Nat → Int) (n m : Nat) : Nat → Nat → Int
  | 0 => fun k => 10 * (k : Int)
  | a + 1 => gR (c (n - (a + 1))) (10 * ((a : Int) + 1)) (gL c n m a) m
theorem gL_z (c : Nat → Nat → Int) (n m k : Nat) : gL c n m 0 k = 10 * (k : Int) := rfl
theorem gL_n (c : Nat → Nat → Int) (n m a : Nat) : gL c n m (a + 1) 0 = 10 * ((a : Int) + 1) := rfl
theorem gL_s (c : Nat → Nat → Int) (n m a k : Nat) : gL c n m (a + 1) (k + 1) = min (10 + min (gL c n m a (k + 1)) (gL c n m (a + 1) k)) (c (n - (a + 1)) (m - (k + 1)) + gL c n m a k) := rfl
theorem gL_0 (c : Nat → Nat → Int) (n m : Nat) : ∀ a : Nat, gL c n m a 0 = 10 * (a : Int)
  | 0 => rfl
  | a + 1 => by rw [gL_n]; omega
theorem gL_up (c : Nat → Nat → Int) (n m k : Nat) : ∀ a : Nat, gL c n m a (k + 1) ≤ 10 + gL c n m a k
  | 0 => by rw [gL_z, gL_z]; omega
  | a + 1 => by rw [gL_s]; omega
theorem gL_b (c : Nat → Nat → Int) (n m : Nat) (hc : ∀ i j, 0 ≤ c i j) : ∀ a k : Nat, 0 ≤ gL c n m a k ∧ gL c n m a k ≤ 10 * ((a : Int) + k)
  | 0, k => by rw [gL_z]; omega
  | a + 1, 0 => by rw [gL_n]; omega
  | a + 1, k + 1 => by
    have h1 := gL_b c n m hc a (k + 1)
    have h2 := gL_b c n m hc a k
    have h3 := gL_b c n m hc (a + 1) k
    have h4 := hc (n - (a + 1)) (m - (k + 1))
    rw [gL_s]; omega
def pm (c : Nat → Int) (prev : Nat → Int) (j K : Nat) : Nat → Int
  | 0 => 10 + prev K
  | t + 1 => min (pm c prev j K t) (10 * (t : Int) + c (j + t) + prev (K - t - 1))
theorem pm_0 (c : Nat → Int) (prev : Nat → Int) (j K : Nat) : ∀ T : Nat, pm c prev j K T ≤ 10 + prev K
  | 0 => by simp only [pm]; omega
  | T + 1 => by have := pm_0 c prev j K T; simp only [pm]; omega
theorem pm_t (c : Nat → Int) (prev : Nat → Int) (j K t : Nat) : ∀ T : Nat, t < T → pm c prev j K T ≤ 10 * (t : Int) + c (j + t) + prev (K - t - 1)
  | 0, h => by omega
  | T + 1, h => by
    simp only [pm]
    by_cases e : t = T
    · subst e; omega
    · have := pm_t c prev j K t T (by omega); omega
theorem pm_ge (c : Nat → Int) (prev : Nat → Int) (j K : Nat) (X : Int) (h0 : X ≤ 10 + prev K) : ∀ T : Nat, (∀ t, t < T → X ≤ 10 * (t : Int) + c (j + t) + prev (K - t - 1)) → X ≤ pm c prev j K T
  | 0, _ => by simp only [pm]; exact h0
  | T + 1, h => by
    have h1 := pm_ge c prev j K X h0 T (fun t ht => h t (by omega))
    have h2 := h T (by omega)
    simp only [pm]; omega
theorem pm_e (c : Nat → Int) (z : Int) (prev : Nat → Int) (m : Nat) (hz : z = 10 + prev 0) (hp : ∀ k, prev (k + 1) ≤ 10 + prev k) : ∀ K : Nat, K ≤ m → pm c prev (m - K) K K = gR c z prev m K
  | 0, _ => by simp only [pm, gR]; omega
  | K + 1, hK => by
    have ih := pm_e c z prev m hz hp K (by omega)
    have s : gR c z prev m (K + 1) = min (10 + min (prev (K + 1)) (gR c z prev m K)) (c (m - (K + 1)) + prev K) := rfl
    rw [s, ← ih]
    have hpk := hp K
    have a1 := pm_0 c prev (m - (K + 1)) (K + 1) (K + 1)
    have a2 := pm_t c prev (m - (K + 1)) (K + 1) 0 (K + 1) (by omega)
    have a3 : pm c prev (m - (K + 1)) (K + 1) (K + 1) - 10 ≤ pm c prev (m - K) K K := by
      refine pm_ge c prev (m - K) K _ (by omega) K (fun t ht => ?_)
      have b := pm_t c prev (m - (K + 1)) (K + 1) (t + 1) (K + 1) (by omega)
      rw [show m - (K + 1) + (t + 1) = m - K + t by omega, show K + 1 - (t + 1) - 1 = K - t - 1 by omega] at b
      omega
    have a4 : min (10 + min (prev (K + 1)) (pm c prev (m - K) K K)) (c (m - (K + 1)) + prev K) ≤ pm c prev (m - (K + 1)) (K + 1) (K + 1) := by
      refine pm_ge c prev (m - (K + 1)) (K + 1) _ (by omega) (K + 1) (fun t ht => ?_)
      cases t with
      | zero =>
        rw [show m - (K + 1) + 0 = m - (K + 1) by omega, show K + 1 - 0 - 1 = K by omega]
        omega
      | succ t =>
        have b := pm_t c prev (m - K) K t K (by omega)
        rw [show m - (K + 1) + (t + 1) = m - K + t by omega, show K + 1 - (t + 1) - 1 = K - t - 1 by omega]
        omega
    rw [show m - (K + 1) + 0 = m - (K + 1) by omega, show K + 1 - 0 - 1 = K by omega] at a2
    omega
/-- the first of k places from s on where P holds -/
def sf (P : Nat → Bool) : Nat → Nat → Int
  | _, 0 => -1
  | s, k + 1 => if P s = true then (s : Int) else sf P (s + 1) k
theorem sf_b (P : Nat → Bool) : ∀ k s : Nat, sf P s k = -1 ∨ ((s : Int) ≤ sf P s k ∧ sf P s k < (s : Int) + k)
  | 0, s => Or.inl rfl
  | k + 1, s => by
    have ih := sf_b P k (s + 1)
    simp only [sf]
    by_cases h : P s = true
    · rw [if_pos h]; omega
    · rw [if_neg h]; omega
theorem sf_cg (P Q : Nat → Bool) : ∀ k s : Nat, (∀ i, s ≤ i → i < s + k → P i = Q i) → sf P s k = sf Q s k
  | 0, s, _ => rfl
  | k + 1, s, h => by
    have ih := sf_cg P Q k (s + 1) (fun i h1 h2 => h i (by omega) (by omega))
    simp only [sf, h s (by omega) (by omega), ih]
theorem lp_srch {σ ρ : Type} {f : σ → Option (σ ⊕ ρ)} (S : Int → Nat → Dt → σ) (R : Int → Dt → ρ) (I : Dt → Prop) (P : Nat → Bool) (s m : Nat) (hsm : s ≤ m)
    (h1 : ∀ j d, s ≤ j → j < m → I d → ∃ d', I d' ∧ f (S (-1) j d) = some (.inl (S (if P j = true then (j : Int) else -1) (j + 1) d')))
    (h2 : ∀ d, I d → f (S (-1) m d) = some (.inr (R (-1) d))) (h3 : ∀ j d, s ≤ j → j < m → I d → f (S (j : Int) (j + 1) d) = some (.inr (R (j : Int) d))) (hn : m < 900000) (d0 : Dt) (h0 : I d0) : ∃ d', I d' ∧ lpF f FU (S (-1) s d0) = some (R (sf P s (m - s)) d') := by
  have key : ∀ (k j : Nat), j + k = m → s ≤ j → ∀ fuel, k + 1 < fuel → ∀ d, I d → ∃ d', I d' ∧ lpF f fuel (S (-1) j d) = some (R (sf P j k) d') := by
    intro k
    induction k with
    | zero =>
      intro j hj hs fuel hf d hI
      obtain ⟨g, rfl⟩ : ∃ g, fuel = g + 1 := ⟨fuel - 1, by omega⟩
      have : j = m := by omega
      subst this
      refine ⟨d, hI, ?_⟩
      unfold lpF; rw [h2 d hI]; rfl
    | succ k ih =>
      intro j hj hs fuel hf d hI
      obtain ⟨g, rfl⟩ : ∃ g, fuel = g + 1 := ⟨fuel - 1, by omega⟩
      obtain ⟨d1, e1, e2⟩ := h1 j d hs (by omega) hI
      by_cases hp : P j = true
      · rw [if_pos hp] at e2
        refine ⟨d1, e1, ?_⟩
        obtain ⟨g2, rfl⟩ : ∃ g2, g = g2 + 1 := ⟨g - 1, by omega⟩
        unfold lpF; rw [e2]; dsimp only
        unfold lpF; rw [h3 j d1 hs (by omega) e1]
        simp only [sf, if_pos hp]
      · rw [if_neg hp] at e2
        obtain ⟨d2, e3, e4⟩ := ih (j + 1) (by omega) (by omega) g (by omega) d1 e1
        refine ⟨d2, e3, ?_⟩
        unfold lpF; rw [e2]; dsimp only; rw [e4]
        simp only [sf, if_neg hp]
  exact key (m - s) s (by omega) (Nat.le_refl s) FU (by show m - s + 1 < 1000000; omega) d0 h0
/-- where the search for a mate begins, and the mate -/
def mP (c : Nat → Nat → Int) (n m i fr k : Nat) : Bool := decide (10 * ((k : Int) - fr) + c i k + gL c n m (n - (i + 1)) (m - (k + 1)) = gL c n m (n - i) (m - fr))
def mF (c : Nat → Nat → Int) (n m : Nat) : Nat → Nat
  | 0 => 0
  | i + 1 => if sf (mP c n m i (mF c n m i)) (mF c n m i) (m - mF c n m i) = -1 then mF c n m i else (sf (mP c n m i (mF c n m i)) (mF c n m i) (m - mF c n m i)).toNat + 1
def mM (c : Nat → Nat → Int) (n m i : Nat) : Int := sf (mP c n m i (mF c n m i)) (mF c n m i) (m - mF c n m i)
theorem mF_b (c : Nat → Nat → Int) (n m : Nat) : ∀ i : Nat, mF c n m i ≤ m
  | 0 => Nat.zero_le m
  | i + 1 => by
    have ih := mF_b c n m i
    have h := sf_b (mP c n m i (mF c n m i)) (m - mF c n m i) (mF c n m i)
    simp only [mF]
    by_cases q : sf (mP c n m i (mF c n m i)) (mF c n m i) (m - mF c n m i) = -1
    · rw [if_pos q]; exact ih
    · rw [if_neg q]; omega
theorem mM_b (c : Nat → Nat → Int) (n m i : Nat) : mM c n m i = -1 ∨ (0 ≤ mM c n m i ∧ mM c n m i < m) := by
  have h := sf_b (mP c n m i (mF c n m i)) (m - mF c n m i) (mF c n m i)
  have h2 := mF_b c n m i
  unfold mM; omega
theorem mF_s (c : Nat → Nat → Int) (n m i : Nat) : mF c n m (i + 1) = if mM c n m i = -1 then mF c n m i else (mM c n m i).toNat + 1 := rfl
