/-! LAWS: what is struck; gather as a whole -/
theorem rl_mem {dA dB : Dt} (hL : RL0 dA dB) (place : Nat) (day : Int) (r : Nat) (h : r ∈ rlL dB place day) : ∃ t i : Nat, r = 20 * t + i ∧ (t : Int) < dB 0 41 ∧ (i : Int) < dB 28 t ∧ i < 20 ∧ r / 20 = t ∧ r % 20 = i ∧ r < 100 ∧ ruR dA dB t i := by
  obtain ⟨hT, hg, h25, h30, htx, h31⟩ := hL
  unfold rlL at h
  rw [List.mem_flatMap] at h
  obtain ⟨t, h1, h2⟩ := h
  have ht := (ord_mem _ _ _ _ h1).1
  unfold rul at h2
  rw [List.mem_map] at h2
  obtain ⟨i, h3, rfl⟩ := h2
  have hi := List.mem_range.mp h3
  obtain ⟨_, _, x3, x4⟩ := htx t (by omega)
  exact ⟨t, i, rfl, by omega, by omega, by omega, by omega, by omega, by omega, x4 i (by omega)⟩
theorem rl_len {dA dB : Dt} (hL : RL0 dA dB) (place : Nat) (day : Int) : (rlL dB place day).length ≤ 100 := by
  obtain ⟨hT, hg, h25, h30, htx, h31⟩ := hL
  rw [← rl_out]
  have hol : (ordA dB).length = (dB 0 41).toNat := ord_all_len _ _
  have ho : ∀ i, i < (dB 0 41).toNat → (ordA dB).getD i 0 < (dB 0 41).toNat := fun i hi => (ord_mem _ _ _ _ (getD_mem (ordA dB) i (by omega))).1
  have key : ∀ i, i ≤ (dB 0 41).toNat → (outF dB (inF dB place day) (fun j => (ordA dB).getD j 0) i).length ≤ 20 * i := by
    intro i
    induction i with
    | zero => intro _; simp [outF]
    | succ i ih =>
      intro hi
      have := ih (by omega)
      have hc := (htx ((ordA dB).getD i 0) (by have := ho i (by omega); omega)).2.2.1
      simp only [outF]
      by_cases q : inF dB place day ((ordA dB).getD i 0) = true
      · rw [if_pos q, List.length_append, rul_len]; omega
      · rw [if_neg q]; omega
  have := key _ (Nat.le_refl _)
  omega
theorem behind_e {x dA dB : Dt} (hL : RL0 dA dB) (place : Nat) (day : Int) (hx : ∀ k, k ≠ 30 → k ≠ 32 → k ≠ 33 → k ≠ 34 → x k = dA k) (ha : arrA x (rlL dB place day)) (m : Nat) (hm : m < (rlL dB place day).length) : L_La_isStruckFromBehind (m : Int) x = some (b2i (stkB dB (rlL dB place day) m), x) := by
  have hlen := rl_len hL place day
  obtain ⟨L, hLd⟩ : ∃ L, L = rlL dB place day := ⟨_, rfl⟩
  rw [← hLd] at hm ha hlen ⊢
  have hmem : ∀ j, j < L.length → ∃ t i : Nat, L.getD j 0 = 20 * t + i ∧ (t : Int) < dB 0 41 ∧ i < 20 ∧ x 32 j = 79 + 7 * (t : Int) ∧ x 33 j = (i : Int) ∧ ruR dA dB t i := by
    intro j hj
    have hin : L.getD j 0 ∈ rlL dB place day := by rw [← hLd]; exact getD_mem L j hj
    obtain ⟨t, i, q1, q2, q3, q4, q5, q6, q7, q8⟩ := rl_mem hL place day _ hin
    obtain ⟨a1, a2⟩ := ha.2 j hj
    rw [q5] at a1
    rw [q6] at a2
    exact ⟨t, i, q1, q2, q4, a1, a2, q8⟩
  have hgx : x GH 0 = dB 0 41 + 1 := by rw [hx GH (by decide) (by decide) (by decide) (by decide)]; exact hL.2.1
  have hcell : ∀ t o j : Nat, x (79 + 7 * t + o) j = dA (79 + 7 * t + o) j := fun t o j => by rw [hx _ (by omega) (by omega) (by omega) (by omega)]
  obtain ⟨t, i, q1, q2, q3, q4, q5, q6⟩ := hmem m hm
  obtain ⟨d', rfl, a2⟩ := lp_find (f := fun q : Int × Int × Dt => L_La_isStruckFromBehind_y30 q.1 q.2.1 q.2.2) (fun j y => (dA (79 + 7 * t + 1) i, ((m + 1 + j : Nat) : Int), y)) (fun _ y => Sum.inr y) (fun y => Sum.inl y) (fun y => y = x) (fun j => dB 36 (L.getD (m + 1 + j) 0) = dB 35 (L.getD m 0)) (L.length - (m + 1))
    (by
      rintro j y hj rfl
      obtain ⟨t2, i2, r1, r2, r3, r4, r5, r6⟩ := hmem (m + 1 + j) (by omega)
      have hst := stt_t hgx t2 (by omega)
      have hc : (0 : Int) ≤ ((m + 1 + j : Nat) : Int) ∧ ((m + 1 + j : Nat) : Int) < 100 := by omega
      have htg := tg_lb r6.2.1 q6.1
      dsimp only
      unfold L_La_isStruckFromBehind_y30 L_La_isStruckFromBehind_b73
      rw [ha.1, if_pos (by omega), ck_pos hc, tn_i, r4, if_neg (by omega), ck_pos hst, ck_pos hc, ck_pos hst, r5, ck_pos ⟨by omega, by omega⟩, tn79, tn_i, hcell, w32_i (show m + 1 + j < 2147483647 by omega)]
      by_cases q : dA (79 + 7 * t2 + 2) i2 = dA (79 + 7 * t + 1) i
      · left
        rw [if_pos q]
        exact ⟨by rw [r1, q1]; exact htg.1 q, _, rfl, rfl⟩
      · right
        rw [if_neg q]
        exact ⟨fun z => q (htg.2 (by rw [r1, q1] at z; exact z)), _, rfl, rfl⟩)
    (by
      rintro y rfl
      dsimp only
      unfold L_La_isStruckFromBehind_y30
      rw [ha.1, if_neg (by omega)]
      exact ⟨_, rfl, rfl⟩) (by omega) x rfl
  have hst := stt_t hgx t (by omega)
  have hc : (0 : Int) ≤ (m : Int) ∧ (m : Int) < 100 := by omega
  unfold L_La_isStruckFromBehind L_La_isStruckFromBehind_l30
  rw [ck_pos hc, tn_i, q4, if_neg (by omega), ck_pos hst, ck_pos hc, ck_pos hst, q5, ck_pos ⟨by omega, by omega⟩, tn79, tn_i, hcell, lt_e, w32_i (show m < 2147483647 by omega), lt_e]
  rcases a2 with ⟨j, b1, b2, b3, b4⟩ | ⟨b1, b2⟩
  · rw [show lpF (fun q : Int × Int × Dt => L_La_isStruckFromBehind_y30 q.1 q.2.1 q.2.2) FU (dA (79 + 7 * t + 1) i, ((m + 1 : Nat) : Int), d') = _ from b4, lb_e, smr_, u0_q]
    rw [(stkB_e dB L m).2 ⟨m + 1 + j, by omega, by omega, b2⟩]; rfl
  · rw [show lpF (fun q : Int × Int × Dt => L_La_isStruckFromBehind_y30 q.1 q.2.1 q.2.2) FU (dA (79 + 7 * t + 1) i, ((m + 1 : Nat) : Int), d') = _ from b2, lb_e, sml_, u0_q]
    have : stkB dB L m = false := by
      cases hs : stkB dB L m
      · rfl
      · obtain ⟨j, s1, s2, s3⟩ := (stkB_e dB L m).1 hs
        exact absurd (by rw [show m + 1 + (j - (m + 1)) = j by omega]; exact s3) (b1 (j - (m + 1)) (by omega))
    rw [this]; rfl
theorem arrA.cg {x x' : Dt} {L : List Nat} (h : arrA x L) (h30 : x' 30 6 = x 30 6) (h32 : x' 32 = x 32) (h33 : x' 33 = x 33) : arrA x' L := by
  unfold arrA at h ⊢; rw [h30, h32, h33]; exact h
theorem gather_e {d dB : Dt} (hL : RL0 d dB) (hk : RLk d dB) (place : Nat) (day : Int) (hp : place < 7) : ∃ d', L_La_gather (place : Int) day d = some (0, d') ∧ (∀ k, k ≠ 30 → k ≠ 32 → k ≠ 33 → k ≠ 34 → d' k = d k) ∧ d' 30 2 = d 30 2 ∧ d' 30 7 = (place : Int) ∧ d' 30 8 = day ∧ gthR d' dB place day := by
  have hlen := rl_len hL place day
  have anew : ∃ d', L_La_gather_b17 (place : Int) day d = some (0, d') ∧ (∀ k, k ≠ 30 → k ≠ 32 → k ≠ 33 → k ≠ 34 → d' k = d k) ∧ d' 30 2 = d 30 2 ∧ d' 30 7 = (place : Int) ∧ d' 30 8 = day ∧ gthR d' dB place day := by
    obtain ⟨d0, hd0⟩ : ∃ z, z = up2 (up2 (up2 d 30 7 (place : Int)) 30 8 day) 30 6 0 := ⟨_, rfl⟩
    obtain ⟨d1, e1, e2, e3, e4⟩ := gath_A hL place day hp d0 (fun k hk => by rw [hd0, up2_K _ _ _ hk, up2_K _ _ _ hk, up2_K _ _ _ hk]) (by rw [hd0]; simp (disch := decide) only [up2_j]) (by rw [hd0, up2_s])
    have h7 : d0 30 7 = (place : Int) := by rw [hd0]; simp (disch := decide) only [up2_s, up2_j]
    have h8 : d0 30 8 = day := by rw [hd0]; simp (disch := decide) only [up2_s, up2_j]
    have h2 : d0 30 2 = d 30 2 := by rw [hd0]; simp (disch := decide) only [up2_j]
    obtain ⟨d2, k1, k2, k3⟩ := lp_inv (f := fun q : Int × Dt => L_La_gather_y133 q.1 q.2) (fun m x => ((m : Int), x)) (fun x => x)
      (fun m x => (∀ k, k ≠ 34 → x k = d1 k) ∧ ∀ m', m' < m → x 34 m' = b2i (stkB dB (rlL dB place day) m')) (rlL dB place day).length
      (by
        rintro m x hm ⟨f1, f2⟩
        have hax : arrA x (rlL dB place day) := e4.cg (by rw [f1 30 (by decide)]) (f1 32 (by decide)) (f1 33 (by decide))
        have hb := behind_e (x := x) hL place day (fun k h1 h2 h3 h4 => by rw [f1 k h4, e2 k h1 h2 h3]) hax m hm
        refine ⟨up2 x 34 m (b2i (stkB dB (rlL dB place day) m)), ?_, fun k hk => by rw [up2_K _ _ _ hk]; exact f1 k hk, fun m' hm' => ?_⟩
        · dsimp only
          unfold L_La_gather_y133
          rw [hax.1, if_pos (by omega), hb, bd_e, ck_pos ⟨by omega, by omega⟩, tn_i, w32_i (show m < 2147483647 by omega)]
        · by_cases q : m' = m
          · rw [q, up2_s]
          · rw [up2_j _ _ _ q]; exact f2 m' (by omega))
      (by
        rintro x ⟨f1, f2⟩
        dsimp only
        unfold L_La_gather_y133
        rw [f1 30 (by decide), e4.1, if_neg (by omega)]) (by omega) d1 ⟨fun _ _ => rfl, fun m' h => by omega⟩
    refine ⟨d2, ?_, ?_, ?_, ?_, ?_, ?_⟩
    · unfold L_La_gather_b17 L_La_gather_l133
      rw [← hd0, e1, lb_e, u0_q, show lpF (fun q : Int × Dt => L_La_gather_y133 q.1 q.2) FU (0, d1) = _ from k1, lb_e, u0_q]
    · intro k h1 h2 h3 h4; rw [k2 k h4]; exact e2 k h1 h2 h3
    · rw [k2 30 (by decide), e3 2 (by decide)]; exact h2
    · rw [k2 30 (by decide), e3 7 (by decide)]; exact h7
    · rw [k2 30 (by decide), e3 8 (by decide)]; exact h8
    · refine ⟨by rw [k2 30 (by decide)]; exact e4.1, fun m hm => ?_⟩
      rw [k2 32 (by decide), k2 33 (by decide)]
      exact ⟨(e4.2 m hm).1, (e4.2 m hm).2, k3 m hm⟩
  unfold L_La_gather
  by_cases q1 : (place : Int) = d 30 7
  · rw [if_pos q1]
    by_cases q2 : day = d 30 8
    · rw [if_pos q2]
      rcases hk with h | ⟨p, h1, h2, h3⟩
      · omega
      · have : p = place := by omega
        subst this
        rw [← q2] at h3
        exact ⟨d, rfl, fun _ _ _ _ _ => rfl, rfl, q1.symm, q2.symm, h3⟩
    · rw [if_neg q2]; exact anew
  · rw [if_neg q1]; exact anew
