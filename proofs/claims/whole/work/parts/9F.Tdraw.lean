/-! DRAW: the BENCH, and both -/
def cF (F : Nat → Bool) : Nat → Nat
  | 0 => 0
  | k + 1 => if F k = true then cF F k + 1 else cF F k
def aF (F : Nat → Bool) : Nat → Nat → Nat
  | 0 => fun _ => 0
  | k + 1 => fun i => if F k = true ∧ i = cF F k then k else aF F k i
def sLF (F : Nat → Bool) (ln : Nat → Int) : Nat → Int
  | 0 => 0
  | k + 1 => if F k = true then sLF F ln k + ln k else sLF F ln k
def sumA (g : Nat → Int) : Nat → Int
  | 0 => 0
  | i + 1 => sumA g i + g i
theorem sumA_cg (g h : Nat → Int) : ∀ n : Nat, (∀ i, i < n → g i = h i) → sumA g n = sumA h n
  | 0, _ => rfl
  | n + 1, e => by simp only [sumA, sumA_cg g h n (fun i hi => e i (by omega)), e n (by omega)]
theorem cF_le (F : Nat → Bool) : ∀ k : Nat, cF F k ≤ k
  | 0 => Nat.le_refl 0
  | k + 1 => by
    have := cF_le F k
    simp only [cF]; split <;> omega
theorem aF_lt (F : Nat → Bool) : ∀ k i : Nat, i < cF F k → aF F k i < k
  | 0, i, h => by simp only [cF] at h; omega
  | k + 1, i, h => by
    simp only [aF]
    by_cases q : F k = true ∧ i = cF F k
    · rw [if_pos q]; omega
    · rw [if_neg q]
      simp only [cF] at h
      have : i < cF F k := by
        by_cases q2 : F k = true
        · rw [if_pos q2] at h
          have : i ≠ cF F k := fun e => q ⟨q2, e⟩
          omega
        · rw [if_neg q2] at h; exact h
      have := aF_lt F k i this
      omega
theorem sLF_e (F : Nat → Bool) (ln : Nat → Int) : ∀ k : Nat, sumA (fun j => ln (aF F k j)) (cF F k) = sLF F ln k
  | 0 => rfl
  | k + 1 => by
    have ih := sLF_e F ln k
    simp only [cF, sLF]
    by_cases q : F k = true
    · rw [if_pos q, if_pos q]
      simp only [sumA, aF]
      rw [if_pos ⟨q, trivial⟩, ← ih]
      congr 1
      refine sumA_cg _ _ _ (fun i hi => ?_)
      rw [if_neg (fun z => by omega)]
    · rw [if_neg q, if_neg q, ← ih]
      refine sumA_cg _ _ _ (fun i hi => ?_)
      dsimp only [aF]
      rw [if_neg (fun z => q z.1)]
theorem sLF_b (F : Nat → Bool) (ln : Nat → Int) (h : ∀ i, i < 30 → -9 ≤ ln i ∧ ln i ≤ 9) : ∀ k : Nat, k ≤ 30 → -9 * (k : Int) ≤ sLF F ln k ∧ sLF F ln k ≤ 9 * k
  | 0, _ => by simp only [sLF]; omega
  | k + 1, hk => by
    have ih := sLF_b F ln h k (by omega)
    have := h k (by omega)
    simp only [sLF]; split <;> omega
theorem sumA_b (g : Nat → Int) : ∀ k : Nat, (∀ i, i < k → -9 ≤ g i ∧ g i ≤ 9) → -9 * (k : Int) ≤ sumA g k ∧ sumA g k ≤ 9 * k
  | 0, _ => by simp only [sumA]; omega
  | k + 1, h => by
    have ih := sumA_b g k (fun i hi => h i (by omega))
    have := h k (by omega)
    simp only [sumA]; omega
theorem clearA_e {d : Dt} (M : Nat) (x1 x2 x3 x4 : Int) (hM : M ≤ 30) (h64 : d 64 2 = (M : Int)) : ∃ d', L_Ju_form_l17 x1 x2 x3 x4 0 d = some (x1, x2, x3, x4, d') ∧ (∀ k, k ≠ 69 → d' k = d k) ∧ ∀ j, j < M → d' 69 j = 0 := by
  obtain ⟨d', e1, e2, e3⟩ := lp_inv (f := fun q : Int × Int × Int × Int × Int × Dt => L_Ju_form_y17 q.1 q.2.1 q.2.2.1 q.2.2.2.1 q.2.2.2.2.1 q.2.2.2.2.2) (fun i x => (x1, x2, x3, x4, (i : Int), x)) (fun x => (x1, x2, x3, x4, x))
    (fun i x => (∀ k, k ≠ 69 → x k = d k) ∧ ∀ j, j < i → x 69 j = 0) M
    (by
      rintro i x hi ⟨f1, f2⟩
      refine ⟨up2 x 69 i 0, ?_, ?_, ?_⟩
      · dsimp only
        unfold L_Ju_form_y17
        rw [f1 64 (by decide), h64, if_pos (by omega), ck_pos ⟨by omega, by omega⟩, tn_i, w32_i (show i < 2147483647 by omega)]
      · intro k hk; rw [up2_K _ _ _ hk]; exact f1 k hk
      · intro j hj
        by_cases q : j = i
        · subst q; rw [up2_s]
        · rw [up2_j _ _ _ q]; exact f2 j (by omega))
    (by
      rintro x ⟨f1, _⟩
      dsimp only
      unfold L_Ju_form_y17
      rw [f1 64 (by decide), h64, if_neg (by omega)]) (by omega) d ⟨fun _ _ => rfl, fun j h => by omega⟩
  exact ⟨d', e1, e2, e3⟩
theorem fillBench_e {d : Dt} (F : Nat → Bool) (M : Nat) (hM : M ≤ 30) (h64 : d 64 2 = (M : Int)) (h69 : ∀ y, y < M → d 69 y = if F y = true then 1 else 0) : ∃ d', L_Ju_fillBench d = some (0, d') ∧ (∀ k, k ≠ 64 → k ≠ 70 → d' k = d k) ∧ (∀ j, j ≠ 7 → d' 64 j = d 64 j) ∧ d' 64 7 = (cF F M : Int) ∧ ∀ q, q < cF F M → d' 70 q = (aF F M q : Int) := by
  obtain ⟨d', e1, e2, e3, e4, e5⟩ := lp_inv (f := fun q : Int × Dt => L_Ju_fillBench_y7 q.1 q.2) (fun i x => ((i : Int), x)) (fun x => x)
    (fun i x => (∀ k, k ≠ 64 → k ≠ 70 → x k = d k) ∧ (∀ j, j ≠ 7 → x 64 j = d 64 j) ∧ x 64 7 = (cF F i : Int) ∧ ∀ q, q < cF F i → x 70 q = (aF F i q : Int)) M
    (by
      rintro i x hi ⟨f1, f2, f3, f4⟩
      have hc := cF_le F i
      dsimp only
      unfold L_Ju_fillBench_y7 L_Ju_fillBench_b44
      rw [f2 2 (by decide), h64, if_pos (by omega), ck_pos ⟨by omega, by omega⟩, tn_i, f1 69 (by decide) (by decide), h69 i (by omega), f3, w32_i (show i < 2147483647 by omega)]
      by_cases q : F i = true
      · refine ⟨up2 (up2 x 70 (cF F i) (i : Int)) 64 7 ((cF F i + 1 : Nat) : Int), ?_, ?_, ?_, ?_, ?_⟩
        · rw [if_pos q, if_neg (by decide), ck_pos ⟨by omega, by omega⟩, tn_i, w32_i (show cF F i < 2147483647 by omega)]
        · intro k h1 h2; rw [up2_K _ _ _ h1, up2_K _ _ _ h2]; exact f1 k h1 h2
        · intro j hj; rw [up2_j _ _ _ hj, up2_K _ _ _ (by decide)]; exact f2 j hj
        · rw [up2_s]; simp only [cF]; rw [if_pos q]
        · intro p hp
          simp only [cF] at hp; rw [if_pos q] at hp
          simp only [aF]
          rw [up2_K _ _ _ (by decide)]
          by_cases e : p = cF F i
          · rw [if_pos ⟨q, e⟩, e, up2_s]
          · rw [if_neg (fun z => e z.2), up2_j _ _ _ e]; exact f4 p (by omega)
      · refine ⟨x, ?_, f1, f2, ?_, ?_⟩
        · rw [if_neg q, if_pos rfl]
        · simp only [cF]; rw [if_neg q]; exact f3
        · intro p hp
          simp only [cF] at hp; rw [if_neg q] at hp
          simp only [aF]
          rw [if_neg (fun z => q z.1)]; exact f4 p hp)
    (by
      rintro x ⟨f1, f2, _⟩
      dsimp only
      unfold L_Ju_fillBench_y7
      rw [f2 2 (by decide), h64, if_neg (by omega)]) (by omega) (up2 d 64 7 0) ⟨fun k h1 _ => up2_K _ _ _ h1, fun j hj => up2_j _ _ _ hj, by rw [up2_s]; rfl, fun q h => by simp only [cF] at h; omega⟩
  refine ⟨d', ?_, e2, e3, e4, e5⟩
  unfold L_Ju_fillBench L_Ju_fillBench_l7
  rw [show lpF (fun q : Int × Dt => L_Ju_fillBench_y7 q.1 q.2) FU (0, up2 d 64 7 0) = _ from e1, lb_e, u0_q]
theorem leanOf_e {d : Dt} (F : Nat → Bool) (ln : Nat → Int) (M : Nat) (hM : M ≤ 30) (hl : ∀ i, i < 30 → d 65 i = ln i ∧ -9 ≤ ln i ∧ ln i ≤ 9) (h7 : d 64 7 = (cF F M : Int)) (h70 : ∀ q, q < cF F M → d 70 q = (aF F M q : Int)) : L_Ju_leanOfBench d = some (sLF F ln M, d) := by
  have hc := cF_le F M
  have e1 := lp_seq (f := fun q : Int × Int × Dt => L_Ju_leanOfBench_y4 q.1 q.2.1 q.2.2) (fun i => (sumA (fun j => ln (aF F M j)) i, (i : Int), d)) (cF F M) (r := (sumA (fun j => ln (aF F M j)) (cF F M), d))
    (by
      intro i hi
      have ha := aF_lt F M i hi
      have hb := sumA_b (fun j => ln (aF F M j)) i (fun j hj => (hl _ (by have := aF_lt F M j (by omega); omega)).2)
      have hbi := hl (aF F M i) (by omega)
      dsimp only
      unfold L_Ju_leanOfBench_y4
      rw [h7, if_pos (by omega), ck_pos ⟨by omega, by omega⟩, tn_i, h70 i hi, ck_pos ⟨by omega, by omega⟩, tn_i, hbi.1, w32_s (x := sumA (fun j => ln (aF F M j)) i + ln (aF F M i)) (by omega) (by omega), lt_e, w32_i (show i < 2147483647 by omega)]
      simp only [sumA])
    (by
      dsimp only
      unfold L_Ju_leanOfBench_y4
      rw [h7, if_neg (by omega)]) (by omega)
  unfold L_Ju_leanOfBench L_Ju_leanOfBench_l4
  rw [show lpF (fun q : Int × Int × Dt => L_Ju_leanOfBench_y4 q.1 q.2.1 q.2.2) FU (0, 0, d) = _ from e1, lb_e, u1_q, sLF_e F ln M]
def flS (v : Nat → Int) (k : Int) : Nat → Int
  | 0 => 0
  | i + 1 => if flS v k i = 0 then (if v i = k then 1 else 0) else 1
theorem flS_e (v : Nat → Int) (k : Int) : ∀ i : Nat, (flS v k i = 0 ∧ ∀ j, j < i → v j ≠ k) ∨ (flS v k i = 1 ∧ ∃ j, j < i ∧ v j = k)
  | 0 => Or.inl ⟨rfl, fun j h => by omega⟩
  | i + 1 => by
    rcases flS_e v k i with ⟨h1, h2⟩ | ⟨h1, j, h2, h3⟩
    · by_cases q : v i = k
      · right; refine ⟨?_, i, by omega, q⟩
        simp only [flS]; rw [if_pos h1, if_pos q]
      · left; refine ⟨?_, fun j hj => ?_⟩
        · simp only [flS]; rw [if_pos h1, if_neg q]
        · by_cases e : j = i
          · subst e; exact q
          · exact h2 j (by omega)
    · right; refine ⟨?_, j, by omega, h3⟩
      simp only [flS]; rw [if_neg (by omega)]
theorem benchB_e {d : Dt} (F : Nat → Bool) (v : Nat → Nat) (M m : Nat) (hM : M ≤ 30) (hm : m ≤ 30) (h99 : d 0 99 = (M : Int)) (h100 : d 0 100 = 0) (h73 : ∀ j, j < m → d 73 j = (v j : Int)) (hln : ∀ i, i < 30 → -9 ≤ d 69 i ∧ d 69 i ≤ 9) (hF : ∀ y, F y = true ↔ ∃ j, j < m ∧ v j = y) : ∃ d', L_Mo_draw_l424 (m : Int) 0 0 d = some (sLF F (d 69) M, d') ∧ (∀ k, k ≠ 0 → k ≠ 74 → d' k = d k) ∧ (∀ j, j ≠ 100 → d' 0 j = d 0 j) ∧ d' 0 100 = (cF F M : Int) ∧ ∀ q, q < cF F M → d' 74 q = (aF F M q : Int) := by
  obtain ⟨d', e1, e2, e3, e4, e5⟩ := lp_inv (f := fun q : Int × Int × Int × Dt => L_Mo_draw_y424 q.1 q.2.1 q.2.2.1 q.2.2.2) (fun k x => ((m : Int), sLF F (d 69) k, (k : Int), x)) (fun x => (sLF F (d 69) M, x))
    (fun i x => (∀ k, k ≠ 0 → k ≠ 74 → x k = d k) ∧ (∀ j, j ≠ 100 → x 0 j = d 0 j) ∧ x 0 100 = (cF F i : Int) ∧ ∀ q, q < cF F i → x 74 q = (aF F i q : Int)) M
    (by
      rintro k x hk ⟨f1, f2, f3, f4⟩
      have hc := cF_le F k
      have hsb := sLF_b F (d 69) hln k (by omega)
      have hlk := hln k (by omega)
      have hin := lp_seq (f := fun q : Int × Int × Int × Int × Int × Dt => L_Mo_draw_y439 q.1 q.2.1 q.2.2.1 q.2.2.2.1 q.2.2.2.2.1 q.2.2.2.2.2) (fun i => ((m : Int), sLF F (d 69) k, (k : Int), flS (fun j => (v j : Int)) (k : Int) i, (i : Int), x)) m (r := ((m : Int), sLF F (d 69) k, (k : Int), flS (fun j => (v j : Int)) (k : Int) m, x))
        (by
          intro i hi
          dsimp only
          unfold L_Mo_draw_y439 L_Mo_draw_b468
          rw [if_pos (by omega), w32_i (show i < 2147483647 by omega), ck_pos ⟨by omega, by omega⟩, tn_i, f1 73 (by decide) (by decide), h73 i hi]
          simp only [flS]
          by_cases q1 : flS (fun j => (v j : Int)) (k : Int) i = 0
          · rw [if_pos q1, if_pos q1]
            by_cases q2 : ((v i : Nat) : Int) = (k : Int)
            · rw [if_pos q2, if_pos q2]
            · rw [if_neg q2, if_neg q2]
          · rw [if_neg q1, if_neg q1])
        (by
          dsimp only
          unfold L_Mo_draw_y439
          rw [if_neg (by omega)]) (by omega)
      dsimp only
      unfold L_Mo_draw_y424 L_Mo_draw_b517 L_Mo_draw_l439
      rw [f2 99 (by decide), h99, if_pos (by omega), show lpF (fun q : Int × Int × Int × Int × Int × Dt => L_Mo_draw_y439 q.1 q.2.1 q.2.2.1 q.2.2.2.1 q.2.2.2.2.1 q.2.2.2.2.2) FU ((m : Int), sLF F (d 69) k, (k : Int), 0, 0, x) = _ from hin, lb_e, u4_q, w32_i (show k < 2147483647 by omega), f3]
      rcases flS_e (fun j => (v j : Int)) (k : Int) m with ⟨h1, h2⟩ | ⟨h1, j, h2, h3⟩
      · have q : ¬ F k = true := by
          intro z
          obtain ⟨j, z1, z2⟩ := (hF k).1 z
          exact h2 j z1 (by omega)
        rw [if_pos h1]
        refine ⟨x, ?_, f1, f2, ?_, ?_⟩
        · simp only [sLF]; rw [if_neg q]
        · simp only [cF]; rw [if_neg q]; exact f3
        · intro p hp
          simp only [cF] at hp; rw [if_neg q] at hp
          simp only [aF]
          rw [if_neg (fun z => q z.1)]; exact f4 p hp
      · have q : F k = true := (hF k).2 ⟨j, h2, by omega⟩
        rw [if_neg (by omega), ck_pos ⟨by omega, by omega⟩, ck_pos ⟨by omega, by omega⟩, tn_i, tn_i, f1 69 (by decide) (by decide), w32_s (x := sLF F (d 69) k + d 69 k) (by omega) (by omega), lt_e, w32_i (show cF F k < 2147483647 by omega)]
        refine ⟨up2 (up2 x 74 (cF F k) (k : Int)) 0 100 ((cF F k + 1 : Nat) : Int), ?_, ?_, ?_, ?_, ?_⟩
        · simp only [sLF]; rw [if_pos q]
        · intro k h1 h2; rw [up2_K _ _ _ h1, up2_K _ _ _ h2]; exact f1 k h1 h2
        · intro j hj; rw [up2_j _ _ _ hj, up2_K _ _ _ (by decide)]; exact f2 j hj
        · rw [up2_s]; simp only [cF]; rw [if_pos q]
        · intro p hp
          simp only [cF] at hp; rw [if_pos q] at hp
          simp only [aF]
          rw [up2_K _ _ _ (by decide)]
          by_cases e : p = cF F k
          · rw [if_pos ⟨q, e⟩, e, up2_s]
          · rw [if_neg (fun z => e z.2), up2_j _ _ _ e]; exact f4 p (by omega))
    (by
      rintro x ⟨f1, f2, _⟩
      dsimp only
      unfold L_Mo_draw_y424
      rw [f2 99 (by decide), h99, if_neg (by omega)]) (by omega) d ⟨fun _ _ _ => rfl, fun _ _ => rfl, by rw [h100]; rfl, fun q h => by simp only [cF] at h; omega⟩
  refine ⟨d', ?_, e2, e3, e4, e5⟩
  unfold L_Mo_draw_l424
  exact e1
theorem fsS_cg (F : Nat → Bool) (l1 l2 : Nat → Int) (M : Nat) (h : ∀ i, i < M → l1 i = l2 i) : ∀ t : Nat, fsS F l1 M t = fsS F l2 M t
  | 0 => rfl
  | t + 1 => by
    have ih := fsS_cg F l1 l2 M h t
    have key : ∀ (G : Nat → Bool) (lst : Bool) (k : Nat), k ≤ M → bsF G l1 lst k = bsF G l2 lst k := by
      intro G lst k
      induction k with
      | zero => intro _; rfl
      | succ k ihk =>
        intro hk
        have e := ihk (by omega)
        simp only [bsF]
        rw [e]
        rcases bsF_e G l2 lst k with ⟨h1, _⟩ | ⟨x, h1, h2, _⟩
        · rw [h1]; rfl
        · rw [h1, tn_i, h k (by omega), h x (by omega)]
    funext y
    simp only [fsS, ih, key _ _ M (Nat.le_refl M)]
theorem T_draw {p1 p2 p3 : Int} {dA dB : Dt} (hR : RJ dA dB) : ∃ (r : Int) (dA' dB' : Dt), L_PB_draw p1 p2 p3 dA = some (r, dA') ∧ L_Mo_draw p1 p2 p3 dB = some (r, dB') ∧ RS dA' dB' ∧ RJ dA' dB' := by
  have bad : ∃ (r : Int) (dA' dB' : Dt), L_PB_draw_b32 p1 p2 p3 0 dA = some (r, dA') ∧ L_Mo_draw_b24 dB = some (r, dB') ∧ RS dA' dB' ∧ RJ dA' dB' := by
    unfold L_PB_draw_b32 L_PB_draw_b57 L_PB_draw_b80 L_Mo_draw_b24
    simp only [i10, if_true, if_false, e_ref, bd_e]
    exact ⟨_, _, _, rfl, rfl, RS.of, hR.st⟩
  obtain ⟨r1, r2, r3, r4, r5, r6, r7, r8, r9⟩ := id hR
  unfold L_PB_draw L_Mo_draw
  simp only [within_e, bd_e]
  rcases (Classical.em (1 ≤ p1 ∧ p1 ≤ 30)).symm with c0 | c0
  · simp only [if_neg c0, if_true]
    by_cases q : p1 < 1
    · simp only [if_pos q]; exact bad
    · simp only [if_neg q, if_pos (show 30 < p1 by omega)]; exact bad
  simp only [if_pos c0, i10, if_false, if_neg (show ¬ p1 < 1 by omega), if_neg (show ¬ 30 < p1 by omega)]
  rcases (Classical.em (0 ≤ p2 ∧ p2 ≤ p1)).symm with c1 | c1
  · simp only [if_neg c1, if_true]
    by_cases q : p2 < 0
    · simp only [if_pos q]; exact bad
    · simp only [if_neg q, if_pos (show p1 < p2 by omega)]; exact bad
  simp only [if_pos c1, i10, if_false, if_neg (show ¬ p2 < 0 by omega), if_neg (show ¬ p1 < p2 by omega)]
  by_cases c2 : p3 < 0
  · simp only [if_pos c2]; exact bad
  simp only [if_neg c2]
  obtain ⟨n, rfl⟩ : ∃ n : Nat, p1 = (n : Int) := ⟨p1.toNat, by omega⟩
  obtain ⟨m, rfl⟩ : ∃ m : Nat, p2 = (m : Int) := ⟨p2.toNat, by omega⟩
  obtain ⟨M, hM⟩ : ∃ M : Nat, dB 0 99 = (M : Int) := ⟨(dB 0 99).toNat, by omega⟩
  have hMt : (dB 0 99).toNat = M := by omega
  obtain ⟨a1, ea1, ea2, ea3⟩ := fillPool_e hR
  obtain ⟨b1, eb1, eb2, eb3⟩ := poolB_e hR (n : Int) (m : Int) p3
  rw [hMt] at ea1 ea3 eb1 eb3
  obtain ⟨L, hL⟩ : ∃ L, L = pc dB M := ⟨_, rfl⟩
  have hLM := pc_le dB M
  rw [← hL] at ea1 ea3 eb1 eb3 hLM
  unfold L_PB_draw_b32 L_Ju_form
  simp only [i10, if_false, ea1, eb1, bd_e, lb_e, u4_q]
  by_cases c3 : (L : Int) < (n : Int)
  · unfold L_PB_draw_b57 L_PB_draw_b80
    simp only [if_pos c3, bd_e, if_true, i10, i60, if_false, e_ref]
    refine ⟨_, _, _, rfl, rfl, RS.of, ?_⟩
    have h9 := (hR.cgA (dA' := a1) (ea2 64 (by decide)) (fun k h1 h2 => ea2 k (by omega)) (ea2 70 (by decide))).st (u := 6) (v := 6)
    unfold RJ at h9 ⊢
    simp (disch := decide) only [up2_j, up2_K] at h9 ⊢
    rw [eb2 0 (by decide), eb2 69 (by decide), eb2 70 (by decide), eb2 71 (by decide), eb2 74 (by decide)]
    exact h9
  obtain ⟨a2, ea4, ea5, ea6⟩ := clearA_e (d := a1) M (n : Int) (m : Int) p3 (L : Int) (by omega) (by rw [ea2 64 (by decide), r1, hM])
  have P0lt : ∀ j, j < L → pa dB M j < M := fun j hj => pa_lt dB M j (by omega)
  have P0inj : ∀ i j, i < L → j < L → pa dB M i = pa dB M j → i = j := fun i j hi hj => pa_inj dB M i j (by omega) (by omega)
  obtain ⟨a3, ea7, ea8, ea9⟩ := drawA_e (d := a2) (pa dB M) p3 L M n (m : Int) (by omega) (by omega) (by omega) P0lt P0inj (fun j hj => by rw [ea5 68 (by decide)]; exact ea3 j hj) ea6
  obtain ⟨b2, eb4, eb5, eb6⟩ := drawB_e (d := b1) (pa dB M) p3 L M n (m : Int) (by omega) (by omega) (by omega) P0lt P0inj eb3
  obtain ⟨xf1, xf2⟩ := xsS_f (pa dB M) p3 L M (by omega) P0lt P0inj
  obtain ⟨F, hF⟩ : ∃ F : Nat → Bool, F = fun y => (List.range n).any (fun i => xsS (pa dB M) p3 L i == y) := ⟨_, rfl⟩
  have hFe : ∀ y, F y = true ↔ ∃ j, j < n ∧ xsS (pa dB M) p3 L j = y := by
    intro y
    rw [hF]
    dsimp only
    rw [List.any_eq_true]
    constructor
    · rintro ⟨j, h1, h2⟩; exact ⟨j, List.mem_range.mp h1, by simpa using h2⟩
    · rintro ⟨j, h1, h2⟩; exact ⟨j, List.mem_range.mpr h1, by simpa using h2⟩
  have k64 : a3 64 = dA 64 := by rw [ea8 64 (by decide) (by decide), ea5 64 (by decide), ea2 64 (by decide)]
  have k65 : a3 65 = dA 65 := by rw [ea8 65 (by decide) (by decide), ea5 65 (by decide), ea2 65 (by decide)]
  obtain ⟨a4, ea10, ea11, ea12⟩ := strikesA (d := a3) F M n m (by omega) (by omega) (by omega) (by rw [k64, r1, hM]) (by
    intro y hy
    rcases ea9 y hy with ⟨g1, g2⟩ | ⟨g1, g2⟩
    · rw [g1, if_pos ((hFe y).2 g2)]
    · rw [g1, if_neg (fun z => g2 ((hFe y).1 z))])
  have j69 : b2 69 = dB 69 := by rw [eb5 69 (by decide) (by decide), eb2 69 (by decide)]
  obtain ⟨b3, eb7, eb8, v, eb9, eb10, eb11, eb12⟩ := strikesB (d := b2) F (xsS (pa dB M) p3 L) M n m (by omega) (by omega) (by omega) eb6 (fun j hj => xf1 j (by omega)) (fun i j hi hj => xf2 i j (by omega) (by omega)) hFe
  obtain ⟨G, hG⟩ : ∃ G, G = fsS F (dB 69) M (n - m) := ⟨_, rfl⟩
  rw [j69, ← hG] at eb12
  rw [k65, fsS_cg F (dA 65) (dB 69) M (fun i hi => (r4 i (by omega)).1), ← hG] at ea12
  obtain ⟨a5, ea13, ea14, ea15, ea16, ea17⟩ := fillBench_e (d := a4) G M (by omega) (by rw [ea11 64 (by decide), k64, r1, hM]) ea12
  have q65 : a5 65 = dA 65 := by rw [ea14 65 (by decide) (by decide), ea11 65 (by decide), k65]
  have hlean := leanOf_e (d := up2 a5 0 0 0) G (dB 69) M (by omega) (fun i hi => by
      rw [up2_K _ _ _ (by decide), q65]
      exact ⟨(r4 i hi).1, (r4 i hi).2.2.1, (r4 i hi).2.2.2.1⟩) (by rw [up2_K _ _ _ (by decide)]; exact ea16) (by rw [up2_K _ _ _ (by decide)]; exact ea17)
  have s0 : ∀ j, b3 0 j = dB 0 j := fun j => by rw [eb8 0 (by decide), eb5 0 (by decide) (by decide), eb2 0 (by decide)]
  have s69 : b3 69 = dB 69 := by rw [eb8 69 (by decide), j69]
  obtain ⟨b4, eb13, eb14, eb15, eb16, eb17⟩ := benchB_e (d := up2 b3 0 100 0) G v M m (by omega) (by omega) (by rw [up2_j _ _ _ (by decide), s0, hM]) (by rw [up2_s]) (fun j hj => by rw [up2_K _ _ _ (by decide)]; exact eb9 j hj) (fun i hi => by rw [up2_K _ _ _ (by decide), s69]; exact ⟨(r4 i hi).2.2.1, (r4 i hi).2.2.2.1⟩) eb12
  rw [up2_K _ _ _ (by decide), s69] at eb13
  unfold L_Ju_form_b100 L_PB_draw_b57 L_PB_draw_b80
  simp only [if_neg c3, ea4, bd_e, ea7, lb_e, u4_q, u2_q, ea10, u0_q, ea13, i10, if_true, if_false, hlean, eb4, eb7, u1_q, eb13, e_giv]
  have hcM := cF_le G M
  refine ⟨_, _, _, rfl, rfl, ?_, ?_⟩
  · unfold RS; rw [up2_s, up2_s]
  · have b4k : ∀ k, k ≠ 0 → k ≠ 72 → k ≠ 73 → k ≠ 74 → b4 k = dB k := fun k h0 h1 h2 h3 => by rw [eb14 k h0 h3, up2_K _ _ _ h0, eb8 k h2, eb5 k h1 h2, eb2 k h1]
    have a5k : ∀ k, k ≠ 64 → k ≠ 68 → k ≠ 69 → k ≠ 70 → a5 k = dA k := fun k h0 h1 h2 h3 => by rw [ea14 k h0 h3, ea11 k h2, ea8 k h1 h2, ea5 k h2, ea2 k h1]
    unfold RJ
    simp (disch := decide) only [up2_s, up2_j, up2_K]
    rw [a5k 65 (by decide) (by decide) (by decide) (by decide), a5k 66 (by decide) (by decide) (by decide) (by decide), a5k 67 (by decide) (by decide) (by decide) (by decide), b4k 69 (by decide) (by decide) (by decide) (by decide), b4k 70 (by decide) (by decide) (by decide) (by decide), b4k 71 (by decide) (by decide) (by decide) (by decide), ea15 2 (by decide), ea11 64 (by decide), k64, eb15 99 (by decide), up2_j _ _ _ (by decide), s0, ea16, eb16]
    refine ⟨r1, r2, r3, r4, r5, rfl, by omega, by omega, fun i hi => ?_⟩
    rw [ea17 i (by omega), eb17 i (by omega)]
