/-! far: the class's row -/
theorem let_k {p : Int} (h0 : 0 ≤ p) (h1 : p < 1099511627776) (k : Nat) (hk : k < 8) : land (lshr p (5 * (k : Int))) 31 = shN k p % 32 := by
  rw [lshr_k h0 h1 k hk, land31]
theorem inA (arr : Nat) (f : Nat → Int) (p1 p2 : Int) (h2 : 0 ≤ p2 ∧ p2 < 1099511627776) (n : Int) (m i : Nat) (d : Dt) (hi : i < 8) (hm : m ≤ 8) (h6 : ∀ k : Nat, (k : Int) ≤ (m : Int) → d arr k = DD f (fun j => shN (m - 1 - j) p2 % 32) i k) : ∃ d', L_PB_lettersApart_l83 arr 9 p1 p2 n (m : Int) ((i : Int) + 1) (f i) (d arr 0) 1 (up2 d arr 0 ((i : Int) + 1)) = some (p1, p2, n, (m : Int), (i : Int) + 1, d') ∧ (∀ k, k ≠ arr → d' k = d k) ∧ ∀ k : Nat, (k : Int) ≤ (m : Int) → d' arr k = DD f (fun j => shN (m - 1 - j) p2 % 32) (i + 1) k := by
  generalize hg : (fun j => shN (m - 1 - j) p2 % 32) = g at h6 ⊢
  unfold L_PB_lettersApart_l83
  obtain ⟨r, e1, e2, e3, e4, e5, e6, e7, e8⟩ := lpF_FU (f := fun q : Int × Int × Int × Int × Int × Int × Int × Int × Dt => L_PB_lettersApart_y83 arr 9 q.1 q.2.1 q.2.2.1 q.2.2.2.1 q.2.2.2.2.1 q.2.2.2.2.2.1 q.2.2.2.2.2.2.1 q.2.2.2.2.2.2.2.1 q.2.2.2.2.2.2.2.2)
    (fun q => (q.1 = p1 ∧ q.2.1 = p2 ∧ q.2.2.1 = n ∧ q.2.2.2.1 = (m : Int) ∧ q.2.2.2.2.1 = (i : Int) + 1 ∧ q.2.2.2.2.2.1 = f i) ∧ (1 ≤ q.2.2.2.2.2.2.2.1 ∧ q.2.2.2.2.2.2.2.1 ≤ (m : Int) + 1) ∧ q.2.2.2.2.2.2.1 = DD f g i (q.2.2.2.2.2.2.2.1 - 1).toNat ∧ (∀ k, k ≠ arr → q.2.2.2.2.2.2.2.2 k = d k) ∧ ∀ k : Nat, (k : Int) ≤ (m : Int) → q.2.2.2.2.2.2.2.2 arr k = if (k : Int) < q.2.2.2.2.2.2.2.1 then DD f g (i + 1) k else DD f g i k)
    (fun q => ((m : Int) + 1 - q.2.2.2.2.2.2.2.1).toNat)
    (fun r => r.1 = p1 ∧ r.2.1 = p2 ∧ r.2.2.1 = n ∧ r.2.2.2.1 = (m : Int) ∧ r.2.2.2.2.1 = (i : Int) + 1 ∧ (∀ k, k ≠ arr → r.2.2.2.2.2 k = d k) ∧ ∀ k : Nat, (k : Int) ≤ (m : Int) → r.2.2.2.2.2 arr k = DD f g (i + 1) k)
    (by
      rintro ⟨y0, y2, y5, y6, y7, y8, y10, y11, e⟩ ⟨⟨j1, j2, j3, j4, j5, j6⟩, i4, i5, i6, i7⟩
      dsimp only at j1 j2 j3 j4 j5 j6 i4 i5 i6 i7 ⊢
      subst j1
      subst j2
      subst j3
      subst j4
      subst j5
      subst j6
      unfold L_PB_lettersApart_y83
      by_cases h : (m : Int) < y11
      · right
        rw [if_pos h]
        refine ⟨_, rfl, rfl, rfl, rfl, rfl, rfl, i6, fun k hk => ?_⟩
        dsimp only
        rw [i7 k hk, if_pos (by omega)]
      · left
        obtain ⟨j, hj⟩ : ∃ j : Nat, y11 = (j : Int) + 1 := ⟨(y11 - 1).toNat, by omega⟩
        subst hj
        have t1 : ((j : Int) + 1).toNat = j + 1 := by omega
        have t2 : ((j : Int) + 1 - 1).toNat = j := by omega
        have v1 : e arr (j + 1) = DD f g i (j + 1) := by rw [i7 (j + 1) (by omega), if_neg (by omega)]
        have v2 : e arr j = DD f g (i + 1) j := by rw [i7 j (by omega), if_pos (by omega)]
        rw [t2] at i5
        have b1 := DD_b f g i j
        have b2 := DD_b f g i (j + 1)
        have b3 := DD_b f g (i + 1) j
        have hx : ∀ s : Int, (s = if f i = g j then 0 else 1) → jmin (w32 (y10 + s)) (w32 (jmin (e arr (j + 1)) (e arr j) + 1)) = DD f g (i + 1) (j + 1) := by
          intro s hs
          rw [DD_s, jmin_e, jmin_e, v1, v2, i5, ← hs]
          have hs2 : s = 0 ∨ s = 1 := by
            rw [hs]
            by_cases q : f i = g j
            · rw [if_pos q]; left; rfl
            · rw [if_neg q]; right; rfl
          rw [w32_s (x := DD f g i j + s) (by omega) (by omega), w32_s (by omega) (by omega)]
        have c9 : 0 ≤ (j : Int) + 1 ∧ (j : Int) + 1 < ((9 : Nat) : Int) := by omega
        have c7 : 0 ≤ (j : Int) + 1 - 1 ∧ (j : Int) + 1 - 1 < ((9 : Nat) : Int) := by omega
        have go : ∀ s : Int, (s = if f i = g j then 0 else 1) → ∃ s', L_PB_lettersApart_b128 arr 9 y0 y2 y5 (m : Int) ((i : Int) + 1) (f i) ((j : Int) + 1) y10 s e = some (Sum.inl s') ∧ ((s'.1 = y0 ∧ s'.2.1 = y2 ∧ s'.2.2.1 = y5 ∧ s'.2.2.2.1 = (m : Int) ∧ s'.2.2.2.2.1 = (i : Int) + 1 ∧ s'.2.2.2.2.2.1 = f i) ∧ (1 ≤ s'.2.2.2.2.2.2.2.1 ∧ s'.2.2.2.2.2.2.2.1 ≤ (m : Int) + 1) ∧ s'.2.2.2.2.2.2.1 = DD f g i (s'.2.2.2.2.2.2.2.1 - 1).toNat ∧ (∀ k, k ≠ arr → s'.2.2.2.2.2.2.2.2 k = d k) ∧ ∀ k : Nat, (k : Int) ≤ (m : Int) → s'.2.2.2.2.2.2.2.2 arr k = if (k : Int) < s'.2.2.2.2.2.2.2.1 then DD f g (i + 1) k else DD f g i k) ∧ ((m : Int) + 1 - s'.2.2.2.2.2.2.2.1).toNat < ((m : Int) + 1 - ((j : Int) + 1)).toNat := by
          intro s hs
          unfold L_PB_lettersApart_b128
          dsimp only [lt_]
          rw [w32_s (x := (j : Int) + 1 - 1) (by omega) (by omega), w32_s (x := (j : Int) + 1 + 1) (by omega) (by omega), t2, t1, ck_pos c9, ck_pos c9, ck_pos c7, ck_pos c9, hx s hs]
          refine ⟨_, rfl, ⟨⟨rfl, rfl, rfl, rfl, rfl, rfl⟩, ⟨by dsimp only; omega, by dsimp only; omega⟩, ?_, fun k hk => ?_, fun k hk => ?_⟩, by dsimp only; omega⟩
          · dsimp only
            rw [v1, show ((j : Int) + 1 + 1 - 1).toNat = j + 1 by omega]
          · dsimp only
            rw [up2_K _ _ _ hk]; exact i6 k hk
          · dsimp only
            by_cases hp : k = j + 1
            · subst hp
              rw [up2_s, if_pos (by omega)]
            · rw [up2_j _ _ _ hp, i7 k hk]
              by_cases hq : (k : Int) < (j : Int) + 1
              · rw [if_pos hq, if_pos (by omega)]
              · rw [if_neg hq, if_neg (by omega)]
        have hl : land (lshr y2 (w32 (5 * w32 ((m : Int) - ((j : Int) + 1))))) 31 = g j := by
          rw [w32_s (x := (m : Int) - ((j : Int) + 1)) (by omega) (by omega), w32_s (x := 5 * ((m : Int) - ((j : Int) + 1))) (by omega) (by omega), show (m : Int) - ((j : Int) + 1) = ((m - 1 - j : Nat) : Int) by omega, let_k h2.1 h2.2 (m - 1 - j) (by omega), ← hg]
        rw [if_neg h, hl]
        unfold L_PB_lettersApart_b114
        by_cases q : f i = g j
        · rw [if_pos q, if_neg (show ¬ (1 : Int) = 0 by decide)]
          exact go 0 (by rw [if_pos q])
        · rw [if_neg q, if_pos (show (0 : Int) = 0 by rfl)]
          exact go 1 (by rw [if_neg q]))
    (p1, p2, n, (m : Int), (i : Int) + 1, f i, d arr 0, 1, up2 d arr 0 ((i : Int) + 1)) ⟨⟨rfl, rfl, rfl, rfl, rfl, rfl⟩, ⟨(show (1 : Int) ≤ 1 by decide), by dsimp only; omega⟩, h6 0 (by omega), fun k hk => up2_K _ _ _ hk, fun k hk => by
      dsimp only
      by_cases hz : k = 0
      · subst hz
        rw [up2_s, if_pos (by decide), DD_n]; omega
      · rw [up2_j _ _ _ hz, if_neg (by omega)]; exact h6 k hk⟩ (by dsimp only; omega)
  obtain ⟨r1, r2, r3, r4, r5, r6⟩ := r
  dsimp only at e2 e3 e4 e5 e6 e7 e8
  subst e2
  subst e3
  subst e4
  subst e5
  subst e6
  exact ⟨r6, e1, e7, e8⟩
