/-! DRAW: the pool -/
def bfK (d : Dt) (k : Nat) : Nat → Int
  | 0 => 0
  | c + 1 => if bfK d k c = 0 then (if 0 < d 70 k ∧ d 70 k = d 71 c then 1 else 0) else 1
theorem bfK_e (d : Dt) (k : Nat) : ∀ c : Nat, (bfK d k c = 0 ∧ ∀ c', c' < c → ¬ (0 < d 70 k ∧ d 70 k = d 71 c')) ∨ (bfK d k c = 1 ∧ ∃ c', c' < c ∧ 0 < d 70 k ∧ d 70 k = d 71 c')
  | 0 => Or.inl ⟨rfl, fun c' h => by omega⟩
  | c + 1 => by
    rcases bfK_e d k c with ⟨h1, h2⟩ | ⟨h1, c', h2, h3⟩
    · by_cases q : 0 < d 70 k ∧ d 70 k = d 71 c
      · right
        refine ⟨?_, c, by omega, q⟩
        simp only [bfK]; rw [if_pos h1, if_pos q]
      · left
        refine ⟨?_, fun c' hc => ?_⟩
        · simp only [bfK]; rw [if_pos h1, if_neg q]
        · by_cases e : c' = c
          · subst e; exact q
          · exact h2 c' (by omega)
    · right
      refine ⟨?_, c', by omega, h3⟩
      simp only [bfK]; rw [if_neg (by omega)]
def pc (d : Dt) : Nat → Nat
  | 0 => 0
  | k + 1 => if bfK d k 4 = 0 then pc d k + 1 else pc d k
def pa (d : Dt) : Nat → Nat → Nat
  | 0 => fun _ => 0
  | k + 1 => fun i => if bfK d k 4 = 0 ∧ i = pc d k then k else pa d k i
theorem pc_le (d : Dt) : ∀ k : Nat, pc d k ≤ k
  | 0 => Nat.le_refl 0
  | k + 1 => by
    have := pc_le d k
    simp only [pc]; split <;> omega
theorem pa_lt (d : Dt) : ∀ k i : Nat, i < pc d k → pa d k i < k
  | 0, i, h => by simp only [pc] at h; omega
  | k + 1, i, h => by
    simp only [pa]
    by_cases q : bfK d k 4 = 0 ∧ i = pc d k
    · rw [if_pos q]; omega
    · rw [if_neg q]
      simp only [pc] at h
      have : i < pc d k := by
        by_cases q2 : bfK d k 4 = 0
        · rw [if_pos q2] at h
          have : i ≠ pc d k := fun e => q ⟨q2, e⟩
          omega
        · rw [if_neg q2] at h; exact h
      have := pa_lt d k i this
      omega
theorem pa_inj (d : Dt) : ∀ k i j : Nat, i < pc d k → j < pc d k → pa d k i = pa d k j → i = j
  | 0, i, j, h, _, _ => by simp only [pc] at h; omega
  | k + 1, i, j, hi, hj, he => by
    have hpi := pa_lt d k
    simp only [pa] at he
    simp only [pc] at hi hj
    by_cases q2 : bfK d k 4 = 0
    · rw [if_pos q2] at hi hj
      by_cases q3 : i = pc d k
      · by_cases q4 : j = pc d k
        · omega
        · rw [if_pos ⟨q2, q3⟩, if_neg (fun q => q4 q.2)] at he
          have := hpi j (by omega); omega
      · by_cases q4 : j = pc d k
        · rw [if_neg (fun q => q3 q.2), if_pos ⟨q2, q4⟩] at he
          have := hpi i (by omega); omega
        · rw [if_neg (fun q => q3 q.2), if_neg (fun q => q4 q.2)] at he
          exact pa_inj d k i j (by omega) (by omega) he
    · rw [if_neg q2] at hi hj
      rw [if_neg (fun q => q2 q.1), if_neg (fun q => q2 q.1)] at he
      exact pa_inj d k i j hi hj he
theorem isKinA {d dB : Dt} (hJ : RJ d dB) (k : Nat) (hk : k < 30) : L_Ju_isKin (dB 70 k) d = some (if bfK dB k 4 = 0 then 0 else 1, d) := by
  obtain ⟨r1, r2, r3, r4, r5, r6, r7, r8, r9⟩ := id hJ
  have hkb := r4 k hk
  obtain ⟨d', rfl, a2⟩ := lp_find (f := fun q : Int × Int × Dt => L_Ju_isKin_y2 q.1 q.2.1 q.2.2) (fun i x => (dB 70 k, (i : Int), x)) (fun _ x => Sum.inr x) (fun x => Sum.inl x) (fun x => x = d) (fun c => 0 < dB 70 k ∧ dB 70 k = dB 71 c) 4
    (by
      rintro c x hc rfl
      dsimp only
      unfold L_Ju_isKin_y2 L_Ju_isKin_b23
      rw [if_pos (by omega), w32_i (show c < 2147483647 by omega), ck_pos ⟨by omega, by omega⟩, tn_i, (r5 c hc).1]
      by_cases q1 : dB 70 k = 0
      · right; rw [if_pos q1]; exact ⟨fun q => by omega, _, rfl, rfl⟩
      · rw [if_neg q1]
        by_cases q2 : dB 71 c = dB 70 k
        · left; rw [if_pos q2]; exact ⟨⟨by omega, q2.symm⟩, _, rfl, rfl⟩
        · right; rw [if_neg q2]; exact ⟨fun q => q2 q.2.symm, _, rfl, rfl⟩)
    (by
      rintro x rfl
      dsimp only
      unfold L_Ju_isKin_y2
      rw [if_neg (by omega)]
      exact ⟨_, rfl, rfl⟩) (by omega) d rfl
  unfold L_Ju_isKin L_Ju_isKin_l2
  rcases a2 with ⟨i, b1, b2, b3, b4⟩ | ⟨b1, b2⟩
  · rw [show lpF (fun q : Int × Int × Dt => L_Ju_isKin_y2 q.1 q.2.1 q.2.2) FU (dB 70 k, 0, d') = _ from b4, lb_e, smr_, u0_q]
    rcases bfK_e dB k 4 with ⟨h1, h2⟩ | ⟨h1, _⟩
    · exact absurd b2 (h2 i b1)
    · rw [if_neg (by omega)]
  · rw [show lpF (fun q : Int × Int × Dt => L_Ju_isKin_y2 q.1 q.2.1 q.2.2) FU (dB 70 k, 0, d') = _ from b2, lb_e, sml_, u0_q]
    rcases bfK_e dB k 4 with ⟨h1, h2⟩ | ⟨_, c, h1, h2⟩
    · rw [if_pos h1]
    · exact absurd h2 (b1 c h1)
theorem RJ.cgA {dA dB dA' : Dt} (h : RJ dA dB) (h2 : dA' 64 = dA 64) (hk : ∀ k, 65 ≤ k → k ≤ 67 → dA' k = dA k) (h70 : dA' 70 = dA 70) : RJ dA' dB := by
  unfold RJ at h ⊢
  rw [h2, hk 65 (by decide) (by decide), hk 66 (by decide) (by decide), hk 67 (by decide) (by decide), h70]
  exact h
theorem fillPool_e {d dB : Dt} (hJ : RJ d dB) : ∃ d', L_Ju_fillPool d = some ((pc dB (dB 0 99).toNat : Int), d') ∧ (∀ k, k ≠ 68 → d' k = d k) ∧ ∀ i, i < pc dB (dB 0 99).toNat → d' 68 i = (pa dB (dB 0 99).toNat i : Int) := by
  obtain ⟨r1, r2, r3, r4, r5, r6, r7, r8, r9⟩ := id hJ
  obtain ⟨d', e1, e2, e3⟩ := lp_inv (f := fun q : Int × Int × Dt => L_Ju_fillPool_y4 q.1 q.2.1 q.2.2) (fun k y => ((pc dB k : Int), (k : Int), y)) (fun y => ((pc dB (dB 0 99).toNat : Int), y))
    (fun k y => (∀ k, k ≠ 68 → y k = d k) ∧ ∀ i, i < pc dB k → y 68 i = (pa dB k i : Int)) (dB 0 99).toNat
    (by
      rintro k y hk ⟨f1, f2⟩
      have hJy : RJ y dB := hJ.cgA (f1 64 (by decide)) (fun k h1 h2 => f1 k (by omega)) (f1 70 (by decide))
      have hp := pc_le dB k
      dsimp only
      unfold L_Ju_fillPool_y4 L_Ju_fillPool_b35
      rw [f1 64 (by decide), r1, if_pos (by omega), ck_pos ⟨by omega, by omega⟩, tn_i, f1 66 (by decide), (r4 k (by omega)).2.1, isKinA hJy k (by omega), bd_e, w32_i (show k < 2147483647 by omega)]
      by_cases q : bfK dB k 4 = 0
      · refine ⟨up2 y 68 (pc dB k) (k : Int), ?_, ?_, ?_⟩
        · rw [if_pos q, if_pos rfl, ck_pos ⟨by omega, by omega⟩, tn_i, w32_i (show pc dB k < 2147483647 by omega)]
          simp only [pc]; rw [if_pos q]
        · intro k hk; rw [up2_K _ _ _ hk]; exact f1 k hk
        · intro i hi
          simp only [pc] at hi; rw [if_pos q] at hi
          simp only [pa]
          by_cases e : i = pc dB k
          · rw [if_pos ⟨q, e⟩, e, up2_s]
          · rw [if_neg (fun z => e z.2), up2_j _ _ _ e]; exact f2 i (by omega)
      · refine ⟨y, ?_, f1, ?_⟩
        · rw [if_neg q, if_neg (by decide)]
          simp only [pc]; rw [if_neg q]
        · intro i hi
          simp only [pc] at hi; rw [if_neg q] at hi
          simp only [pa]
          rw [if_neg (fun z => q z.1)]; exact f2 i hi)
    (by
      rintro y ⟨f1, _⟩
      dsimp only
      unfold L_Ju_fillPool_y4
      rw [f1 64 (by decide), r1, if_neg (by omega)]) (by omega) d ⟨fun _ _ => rfl, fun i h => by simp only [pc] at h; omega⟩
  refine ⟨d', ?_, e2, e3⟩
  unfold L_Ju_fillPool L_Ju_fillPool_l4
  rw [show lpF (fun q : Int × Int × Dt => L_Ju_fillPool_y4 q.1 q.2.1 q.2.2) FU (0, 0, d) = _ from e1, lb_e, u1_q]
theorem poolB_e {dA dB : Dt} (hJ : RJ dA dB) (x1 x2 x3 : Int) : ∃ d', L_Mo_draw_l36 x1 x2 x3 0 0 dB = some (x1, x2, x3, (pc dB (dB 0 99).toNat : Int), d') ∧ (∀ k, k ≠ 72 → d' k = dB k) ∧ ∀ i, i < pc dB (dB 0 99).toNat → d' 72 i = (pa dB (dB 0 99).toNat i : Int) := by
  obtain ⟨r1, r2, r3, r4, r5, r6, r7, r8, r9⟩ := id hJ
  obtain ⟨d', e1, e2, e3⟩ := lp_inv (f := fun q : Int × Int × Int × Int × Int × Dt => L_Mo_draw_y36 q.1 q.2.1 q.2.2.1 q.2.2.2.1 q.2.2.2.2.1 q.2.2.2.2.2) (fun k y => (x1, x2, x3, (pc dB k : Int), (k : Int), y)) (fun y => (x1, x2, x3, (pc dB (dB 0 99).toNat : Int), y))
    (fun k y => (∀ k, k ≠ 72 → y k = dB k) ∧ ∀ i, i < pc dB k → y 72 i = (pa dB k i : Int)) (dB 0 99).toNat
    (by
      rintro k y hk ⟨f1, f2⟩
      have hp := pc_le dB k
      have hin := lp_seq (f := fun q : Int × Int × Int × Int × Int × Int × Int × Dt => L_Mo_draw_y51 q.1 q.2.1 q.2.2.1 q.2.2.2.1 q.2.2.2.2.1 q.2.2.2.2.2.1 q.2.2.2.2.2.2.1 q.2.2.2.2.2.2.2) (fun c => (x1, x2, x3, (pc dB k : Int), (k : Int), bfK dB k c, (c : Int), y)) 4 (r := (x1, x2, x3, (pc dB k : Int), (k : Int), bfK dB k 4, y))
        (by
          intro c hc
          dsimp only
          unfold L_Mo_draw_y51 L_Mo_draw_b94
          rw [if_pos (by omega), w32_i (show c < 2147483647 by omega), ck_pos ⟨by omega, by omega⟩, ck_pos ⟨by omega, by omega⟩, ck_pos ⟨by omega, by omega⟩, tn_i, tn_i, f1 70 (by decide), f1 71 (by decide)]
          simp only [bfK]
          by_cases q1 : bfK dB k c = 0
          · rw [if_pos q1, if_pos q1]
            by_cases q2 : 0 < dB 70 k
            · rw [if_pos q2]
              by_cases q3 : dB 70 k = dB 71 c
              · rw [if_pos q3, if_pos ⟨q2, q3⟩]
              · rw [if_neg q3, if_neg (fun q => q3 q.2)]
            · rw [if_neg q2, if_neg (fun q => q2 q.1)]
          · rw [if_neg q1, if_neg q1])
        (by
          dsimp only
          unfold L_Mo_draw_y51
          rw [if_neg (by omega)]) (by omega)
      dsimp only
      unfold L_Mo_draw_y36 L_Mo_draw_b122 L_Mo_draw_l51
      rw [f1 0 (by decide), if_pos (by omega), show lpF (fun q : Int × Int × Int × Int × Int × Int × Int × Dt => L_Mo_draw_y51 q.1 q.2.1 q.2.2.1 q.2.2.2.1 q.2.2.2.2.1 q.2.2.2.2.2.1 q.2.2.2.2.2.2.1 q.2.2.2.2.2.2.2) FU (x1, x2, x3, (pc dB k : Int), (k : Int), 0, 0, y) = _ from hin, lb_e, u6_q, w32_i (show k < 2147483647 by omega)]
      by_cases q : bfK dB k 4 = 0
      · refine ⟨up2 y 72 (pc dB k) (k : Int), ?_, ?_, ?_⟩
        · rw [if_pos q, ck_pos ⟨by omega, by omega⟩, tn_i, w32_i (show pc dB k < 2147483647 by omega)]
          simp only [pc]; rw [if_pos q]
        · intro k hk; rw [up2_K _ _ _ hk]; exact f1 k hk
        · intro i hi
          simp only [pc] at hi; rw [if_pos q] at hi
          simp only [pa]
          by_cases e : i = pc dB k
          · rw [if_pos ⟨q, e⟩, e, up2_s]
          · rw [if_neg (fun z => e z.2), up2_j _ _ _ e]; exact f2 i (by omega)
      · refine ⟨y, ?_, f1, ?_⟩
        · rw [if_neg q]
          simp only [pc]; rw [if_neg q]
        · intro i hi
          simp only [pc] at hi; rw [if_neg q] at hi
          simp only [pa]
          rw [if_neg (fun z => q z.1)]; exact f2 i hi)
    (by
      rintro y ⟨f1, _⟩
      dsimp only
      unfold L_Mo_draw_y36
      rw [f1 0 (by decide), if_neg (by omega)]) (by omega) dB ⟨fun _ _ => rfl, fun i h => by simp only [pc] at h; omega⟩
  refine ⟨d', ?_, e2, e3⟩
  unfold L_Mo_draw_l36
  exact e1
