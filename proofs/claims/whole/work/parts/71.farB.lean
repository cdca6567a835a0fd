/-! far: the reference's table -/
theorem jmin_e (x y : Int) : jmin x y = min x y := by
  unfold jmin
  by_cases h : y < x
  · rw [if_pos h]; omega
  · rw [if_neg h]; omega
theorem inB (f g : Nat → Int) (n m : Int) (i : Nat) (d : Dt) (hi : i < 8) (hm : 0 ≤ m ∧ m ≤ 8) (h4 : d 4 i = f i) (h5 : ∀ j : Nat, (j : Int) < m → d 5 j = g j) (h6 : ∀ k : Nat, (k : Int) ≤ m → d 6 k = DD f g i k) : ∃ d', L_Mo_farOf_l74 n m ((i : Int) + 1) (d 6 0) 1 (up2 d 6 0 ((i : Int) + 1)) = some (n, m, (i : Int) + 1, d') ∧ (∀ k, k ≠ 6 → d' k = d k) ∧ ∀ k : Nat, (k : Int) ≤ m → d' 6 k = DD f g (i + 1) k := by
  unfold L_Mo_farOf_l74
  obtain ⟨r, e1, e2, e3, e4, e5, e6⟩ := lpF_FU (f := fun q : Int × Int × Int × Int × Int × Dt => L_Mo_farOf_y74 q.1 q.2.1 q.2.2.1 q.2.2.2.1 q.2.2.2.2.1 q.2.2.2.2.2)
    (fun q => q.1 = n ∧ q.2.1 = m ∧ q.2.2.1 = (i : Int) + 1 ∧ (1 ≤ q.2.2.2.2.1 ∧ q.2.2.2.2.1 ≤ m + 1) ∧ q.2.2.2.1 = DD f g i (q.2.2.2.2.1 - 1).toNat ∧ (∀ k, k ≠ 6 → q.2.2.2.2.2 k = d k) ∧ ∀ k : Nat, (k : Int) ≤ m → q.2.2.2.2.2 6 k = if (k : Int) < q.2.2.2.2.1 then DD f g (i + 1) k else DD f g i k)
    (fun q => (m + 1 - q.2.2.2.2.1).toNat)
    (fun r => r.1 = n ∧ r.2.1 = m ∧ r.2.2.1 = (i : Int) + 1 ∧ (∀ k, k ≠ 6 → r.2.2.2 k = d k) ∧ ∀ k : Nat, (k : Int) ≤ m → r.2.2.2 6 k = DD f g (i + 1) k)
    (by
      rintro ⟨y5, y6, y7, y8, y9, e⟩ ⟨i1, i2, i3, i4, i5, i6, i7⟩
      dsimp only at i1 i2 i3 i4 i5 i6 i7 ⊢
      subst i1
      subst i2
      subst i3
      unfold L_Mo_farOf_y74
      by_cases h : y6 < y9
      · right
        rw [if_pos h]
        refine ⟨_, rfl, rfl, rfl, rfl, i6, fun k hk => ?_⟩
        dsimp only
        rw [i7 k hk, if_pos (by omega)]
      · left
        obtain ⟨j, hj⟩ : ∃ j : Nat, y9 = (j : Int) + 1 := ⟨(y9 - 1).toNat, by omega⟩
        subst hj
        have t1 : ((j : Int) + 1).toNat = j + 1 := by omega
        have t2 : ((j : Int) + 1 - 1).toNat = j := by omega
        have t3 : ((i : Int) + 1 - 1).toNat = i := by omega
        have v1 : e 6 (j + 1) = DD f g i (j + 1) := by rw [i7 (j + 1) (by omega), if_neg (by omega)]
        have v2 : e 6 j = DD f g (i + 1) j := by rw [i7 j (by omega), if_pos (by omega)]
        have v3 : e 4 i = f i := by rw [i6 4 (by decide)]; exact h4
        have v4 : e 5 j = g j := by rw [i6 5 (by decide)]; exact h5 j (by omega)
        rw [t2] at i5
        have b1 := DD_b f g i j
        have b2 := DD_b f g i (j + 1)
        have b3 := DD_b f g (i + 1) j
        have hx : ∀ s : Int, (s = if f i = g j then 0 else 1) → jmin (w32 (y8 + s)) (w32 (1 + jmin (e 6 (j + 1)) (e 6 j))) = DD f g (i + 1) (j + 1) := by
          intro s hs
          rw [DD_s, jmin_e, jmin_e, v1, v2, i5, ← hs]
          have hs2 : s = 0 ∨ s = 1 := by
            rw [hs]
            by_cases q : f i = g j
            · rw [if_pos q]; left; rfl
            · rw [if_neg q]; right; rfl
          rw [w32_s (x := DD f g i j + s) (by omega) (by omega), w32_s (by omega) (by omega)]
          omega
        have c9 : 0 ≤ (j : Int) + 1 ∧ (j : Int) + 1 < 9 := by omega
        have c8 : 0 ≤ (j : Int) + 1 - 1 ∧ (j : Int) + 1 - 1 < 8 := by omega
        have c7 : 0 ≤ (j : Int) + 1 - 1 ∧ (j : Int) + 1 - 1 < 9 := by omega
        have a8 : 0 ≤ (i : Int) + 1 - 1 ∧ (i : Int) + 1 - 1 < 8 := by omega
        have go : ∀ s : Int, (s = if f i = g j then 0 else 1) → ∃ s', L_Mo_farOf_b118 y5 y6 ((i : Int) + 1) ((j : Int) + 1) (e 6 (j + 1)) y8 s e = some (Sum.inl s') ∧ (s'.1 = y5 ∧ s'.2.1 = y6 ∧ s'.2.2.1 = (i : Int) + 1 ∧ (1 ≤ s'.2.2.2.2.1 ∧ s'.2.2.2.2.1 ≤ y6 + 1) ∧ s'.2.2.2.1 = DD f g i (s'.2.2.2.2.1 - 1).toNat ∧ (∀ k, k ≠ 6 → s'.2.2.2.2.2 k = d k) ∧ ∀ k : Nat, (k : Int) ≤ y6 → s'.2.2.2.2.2 6 k = if (k : Int) < s'.2.2.2.2.1 then DD f g (i + 1) k else DD f g i k) ∧ (y6 + 1 - s'.2.2.2.2.1).toNat < (y6 + 1 - ((j : Int) + 1)).toNat := by
          intro s hs
          unfold L_Mo_farOf_b118
          dsimp only [lt_]
          rw [w32_s (x := (j : Int) + 1 - 1) (by omega) (by omega), w32_s (x := (j : Int) + 1 + 1) (by omega) (by omega), t2, t1, ck_pos c7, ck_pos c9, hx s hs]
          refine ⟨_, rfl, ⟨rfl, rfl, rfl, ⟨by dsimp only; omega, by dsimp only; omega⟩, ?_, fun k hk => ?_, fun k hk => ?_⟩, by dsimp only; omega⟩
          · dsimp only
            rw [v1, show ((j : Int) + 1 + 1 - 1).toNat = j + 1 by omega]
          · dsimp only
            rw [up2_K _ _ _ hk]; exact i6 k hk
          · dsimp only
            by_cases hp : k = j + 1
            · subst hp
              rw [up2_s, if_pos (by omega)]
            · rw [up2_j _ _ _ hp, i7 k hk]
              by_cases hq : (k : Int) < (j : Int) + 1
              · rw [if_pos hq, if_pos (by omega)]
              · rw [if_neg hq, if_neg (by omega)]
        dsimp only [lt_]
        rw [if_neg h, ck_pos c9, w32_s (x := (i : Int) + 1 - 1) (by omega) (by omega), w32_s (x := (j : Int) + 1 - 1) (by omega) (by omega), ck_pos a8, ck_pos c8, t1, t2, t3, v3, v4]
        by_cases q : f i = g j
        · rw [if_pos q]
          exact go 0 (by rw [if_pos q])
        · rw [if_neg q]
          exact go 1 (by rw [if_neg q]))
    (n, m, (i : Int) + 1, d 6 0, 1, up2 d 6 0 ((i : Int) + 1)) ⟨rfl, rfl, rfl, ⟨(show (1 : Int) ≤ 1 by decide), by dsimp only; omega⟩, h6 0 (by omega), fun k hk => up2_K _ _ _ hk, fun k hk => by
      dsimp only
      by_cases hz : k = 0
      · subst hz
        rw [up2_s, if_pos (by decide), DD_n]; omega
      · rw [up2_j _ _ _ hz, if_neg (by omega)]; exact h6 k hk⟩ (by dsimp only; omega)
  obtain ⟨r1, r2, r3, r4⟩ := r
  dsimp only at e2 e3 e4 e5 e6
  subst e2
  subst e3
  subst e4
  exact ⟨r4, e1, e5, e6⟩
