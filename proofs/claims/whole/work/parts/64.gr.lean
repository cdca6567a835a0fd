/-! ground, against, feed -/
theorem iand1 (x : Int) : iand x 1 = 0 ∨ iand x 1 = 1 := by
  show (Int32.ofInt x &&& Int32.ofInt 1).toInt = 0 ∨ (Int32.ofInt x &&& Int32.ofInt 1).toInt = 1
  have h : (Int32.ofInt x &&& Int32.ofInt 1).toBitVec.toNat = (Int32.ofInt x).toBitVec.toNat % 2 := by
    rw [Int32.toBitVec_and, BitVec.toNat_and]
    exact Nat.and_one_is_mod _
  rcases Nat.mod_two_eq_zero_or_one (Int32.ofInt x).toBitVec.toNat with e | e
  · left
    have h2 : Int32.ofInt x &&& Int32.ofInt 1 = 0 := by
      apply Int32.toBitVec_inj.1
      apply BitVec.eq_of_toNat_eq
      rw [h, e]; rfl
    rw [h2]; rfl
  · right
    have h2 : Int32.ofInt x &&& Int32.ofInt 1 = 1 := by
      apply Int32.toBitVec_inj.1
      apply BitVec.eq_of_toNat_eq
      rw [h, e]; rfl
    rw [h2]; rfl
theorem told_A (x1 x2 : Int) (d : Dt) (hc : 0 ≤ d 58 5 ∧ d 58 5 ≤ 10) : ∃ r, lpF (fun q : Int × Int × Int × Dt => L_Gr_isTold_y2 q.1 q.2.1 q.2.2.1 q.2.2.2) FU (x1, x2, 0, d) = some r ∧ ((r = Sum.inr d ∧ ∃ i : Nat, (i : Int) < d 58 5 ∧ d 59 i = x1 ∧ d 60 i = x2) ∨ (r = Sum.inl d ∧ ∀ i : Nat, (i : Int) < d 58 5 → ¬ (d 59 i = x1 ∧ d 60 i = x2))) := by
  exact lpF_FU (f := fun q : Int × Int × Int × Dt => L_Gr_isTold_y2 q.1 q.2.1 q.2.2.1 q.2.2.2)
    (fun q => q.1 = x1 ∧ q.2.1 = x2 ∧ 0 ≤ q.2.2.1 ∧ q.2.2.1 ≤ d 58 5 ∧ q.2.2.2 = d ∧ ∀ i : Nat, (i : Int) < q.2.2.1 → ¬ (d 59 i = x1 ∧ d 60 i = x2))
    (fun q => (d 58 5 - q.2.2.1).toNat)
    (fun r => (r = Sum.inr d ∧ ∃ i : Nat, (i : Int) < d 58 5 ∧ d 59 i = x1 ∧ d 60 i = x2) ∨ (r = Sum.inl d ∧ ∀ i : Nat, (i : Int) < d 58 5 → ¬ (d 59 i = x1 ∧ d 60 i = x2)))
    (by
      rintro ⟨y1, y2, y3, e⟩ ⟨i1, i2, i3, i4, i5, i6⟩
      dsimp only at i1 i2 i3 i4 i5 i6 ⊢
      subst i1
      subst i2
      subst i5
      unfold L_Gr_isTold_y2 L_Gr_isTold_b32
      by_cases h : y3 < e 58 5
      · have h10 : 0 ≤ y3 ∧ y3 < 10 := by omega
        have hw : w32 (y3 + 1) = y3 + 1 := w32_s (by omega) (by omega)
        by_cases h1 : e 59 y3.toNat = y1
        · by_cases h2 : e 60 y3.toNat = y2
          · right
            rw [if_pos h, ck_pos h10, if_pos h1, ck_pos h10, if_pos h2]
            exact ⟨_, rfl, Or.inl ⟨rfl, y3.toNat, by omega, h1, h2⟩⟩
          · left
            rw [if_pos h, ck_pos h10, if_pos h1, ck_pos h10, if_neg h2, hw]
            refine ⟨_, rfl, ⟨rfl, rfl, by dsimp only; omega, by dsimp only; omega, rfl, fun i hi => ?_⟩, by dsimp only; omega⟩
            dsimp only at hi
            by_cases hp : i = y3.toNat
            · subst hp; exact fun q => h2 q.2
            · exact i6 i (by omega)
        · left
          rw [if_pos h, ck_pos h10, if_neg h1, hw]
          refine ⟨_, rfl, ⟨rfl, rfl, by dsimp only; omega, by dsimp only; omega, rfl, fun i hi => ?_⟩, by dsimp only; omega⟩
          dsimp only at hi
          by_cases hp : i = y3.toNat
          · subst hp; exact fun q => h1 q.1
          · exact i6 i (by omega)
      · right
        rw [if_neg h]
        exact ⟨_, rfl, Or.inr ⟨rfl, fun i hi => i6 i (by omega)⟩⟩)
    (x1, x2, 0, d) ⟨rfl, rfl, (show (0 : Int) ≤ 0 by decide), hc.1, rfl, fun i hi => by dsimp only at hi; omega⟩ (by dsimp only; omega)
theorem told_B (x1 x2 : Int) (d : Dt) (hc : 0 ≤ d 0 92 ∧ d 0 92 ≤ 10) : ∃ r, lpF (fun q : Int × Int × Int × Dt => L_Mo_ground_y46 q.1 q.2.1 q.2.2.1 q.2.2.2) FU (x1, x2, 0, d) = some r ∧ ((r = Sum.inr d ∧ ∃ i : Nat, (i : Int) < d 0 92 ∧ d 68 i = x1 ∧ d 65 i = x2) ∨ (r = Sum.inl (x1, x2, d) ∧ ∀ i : Nat, (i : Int) < d 0 92 → ¬ (d 68 i = x1 ∧ d 65 i = x2))) := by
  exact lpF_FU (f := fun q : Int × Int × Int × Dt => L_Mo_ground_y46 q.1 q.2.1 q.2.2.1 q.2.2.2)
    (fun q => q.1 = x1 ∧ q.2.1 = x2 ∧ 0 ≤ q.2.2.1 ∧ q.2.2.1 ≤ d 0 92 ∧ q.2.2.2 = d ∧ ∀ i : Nat, (i : Int) < q.2.2.1 → ¬ (d 68 i = x1 ∧ d 65 i = x2))
    (fun q => (d 0 92 - q.2.2.1).toNat)
    (fun r => (r = Sum.inr d ∧ ∃ i : Nat, (i : Int) < d 0 92 ∧ d 68 i = x1 ∧ d 65 i = x2) ∨ (r = Sum.inl (x1, x2, d) ∧ ∀ i : Nat, (i : Int) < d 0 92 → ¬ (d 68 i = x1 ∧ d 65 i = x2)))
    (by
      rintro ⟨y1, y2, y3, e⟩ ⟨i1, i2, i3, i4, i5, i6⟩
      dsimp only at i1 i2 i3 i4 i5 i6 ⊢
      subst i1
      subst i2
      subst i5
      unfold L_Mo_ground_y46 L_Mo_ground_b81
      by_cases h : y3 < e 0 92
      · have h10 : 0 ≤ y3 ∧ y3 < 10 := by omega
        have hw : w32 (y3 + 1) = y3 + 1 := w32_s (by omega) (by omega)
        by_cases h1 : e 68 y3.toNat = y1
        · by_cases h2 : e 65 y3.toNat = y2
          · right
            rw [if_pos h, ck_pos h10, if_pos h1, ck_pos h10, if_pos h2]
            exact ⟨_, rfl, Or.inl ⟨rfl, y3.toNat, by omega, h1, h2⟩⟩
          · left
            rw [if_pos h, ck_pos h10, if_pos h1, ck_pos h10, if_neg h2, hw]
            refine ⟨_, rfl, ⟨rfl, rfl, by dsimp only; omega, by dsimp only; omega, rfl, fun i hi => ?_⟩, by dsimp only; omega⟩
            dsimp only at hi
            by_cases hp : i = y3.toNat
            · subst hp; exact fun q => h2 q.2
            · exact i6 i (by omega)
        · left
          rw [if_pos h, ck_pos h10, if_neg h1, hw]
          refine ⟨_, rfl, ⟨rfl, rfl, by dsimp only; omega, by dsimp only; omega, rfl, fun i hi => ?_⟩, by dsimp only; omega⟩
          dsimp only at hi
          by_cases hp : i = y3.toNat
          · subst hp; exact fun q => h1 q.1
          · exact i6 i (by omega)
      · right
        rw [if_neg h]
        exact ⟨_, rfl, Or.inr ⟨rfl, fun i hi => i6 i (by omega)⟩⟩)
    (x1, x2, 0, d) ⟨rfl, rfl, (show (0 : Int) ≤ 0 by decide), hc.1, rfl, fun i hi => by dsimp only at hi; omega⟩ (by dsimp only; omega)
def RG (dA dB : Dt) : Prop := dA 58 5 = dB 0 92 ∧ (0 ≤ dB 0 92 ∧ dB 0 92 ≤ 10) ∧ (∀ i : Nat, (i : Int) < dB 0 92 → dA 59 i = dB 68 i ∧ dA 60 i = dB 65 i ∧ 0 ≤ dB 65 i ∧ (dB 68 i = 0 → dB 65 i < dB 52 0) ∧ (dB 68 i ≠ 0 → dB 65 i < dB 0 87)) ∧ (∀ i : Nat, i < 10 → dA 61 i = dB 66 i) ∧ ∀ i : Nat, dB 0 92 ≤ (i : Int) → i < 10 → dA 61 i = 0
theorem RG.st {dA dB : Dt} {u v : Int} (h : RG dA dB) : RG (up2 dA 0 0 u) (up2 dB 0 0 v) := by
  unfold RG at h ⊢
  simp (disch := decide) only [up2_s, up2_j, up2_K]
  exact h
theorem e_gFull (d : Dt) : L_Gr_isFull d = some (if d 58 5 < 10 then 0 else 1, d) := by unfold L_Gr_isFull; split <;> rfl
theorem e_Bo_has0 (p : Int) (d : Dt) : L_Bo_has 0 p d = some (if 0 ≤ p ∧ p < d 42 0 then 1 else 0, d) := by
  unfold L_Bo_has
  by_cases h : p < 0
  · rw [if_pos h, if_neg (by omega)]
  · rw [if_neg h, ck_pos (show (0 : Int) ≤ 0 ∧ (0 : Int) < 3 by decide)]
    show (if p < d 42 0 then some ((1 : Int), d) else some (0, d)) = _
    by_cases h2 : p < d 42 0
    · rw [if_pos h2, if_pos (by omega)]
    · rw [if_neg h2, if_neg (by omega)]
theorem e_Po_hasOffer (p : Int) (d : Dt) : L_Po_hasOffer p d = some (if 0 ≤ p ∧ p < d 49 11 then 1 else 0, d) := by
  unfold L_Po_hasOffer
  by_cases h : p < 0
  · rw [if_pos h, if_neg (by omega)]
  · rw [if_neg h]
    by_cases h2 : p < d 49 11
    · rw [if_pos h2, if_pos (by omega)]
    · rw [if_neg h2, if_neg (by omega)]
theorem e_Mo_isEntry (p : Int) (d : Dt) : L_Mo_isEntry p d = some (if 0 ≤ p ∧ p < d 52 0 then 1 else 0, d) := by
  unfold L_Mo_isEntry
  by_cases h : p < 0
  · rw [if_pos h, if_neg (by omega)]
  · rw [if_neg h]
    by_cases h2 : p < d 52 0
    · rw [if_pos h2, if_pos (by omega)]
    · rw [if_neg h2, if_neg (by omega)]
theorem e_Mo_isOffer (p : Int) (d : Dt) : L_Mo_isOffer p d = some (if 0 ≤ p ∧ p < d 0 87 then 1 else 0, d) := by
  unfold L_Mo_isOffer
  by_cases h : p < 0
  · rw [if_pos h, if_neg (by omega)]
  · rw [if_neg h]
    by_cases h2 : p < d 0 87
    · rw [if_pos h2, if_pos (by omega)]
    · rw [if_neg h2, if_neg (by omega)]
theorem e_Gr_has (p : Int) (d : Dt) : L_Gr_has p d = some (if 0 ≤ p ∧ p < d 58 5 then 1 else 0, d) := by
  unfold L_Gr_has
  by_cases h : p < 0
  · rw [if_pos h, if_neg (by omega)]
  · rw [if_neg h]
    by_cases h2 : p < d 58 5
    · rw [if_pos h2, if_pos (by omega)]
    · rw [if_neg h2, if_neg (by omega)]
theorem T_ground {p1 p2 : Int} {dA dB : Dt} (hE : dA 42 0 = dB 52 0) (hV : dA 49 11 = dB 0 87) (hR : RG dA dB) : ∃ (r : Int) (dA' dB' : Dt), L_PB_ground p1 p2 dA = some (r, dA') ∧ L_Mo_ground p1 p2 dB = some (r, dB') ∧ RS dA' dB' ∧ RG dA' dB' := by
  have bad : ∃ (r : Int) (dA' dB' : Dt), L_PB_ground_b30 p1 p2 dA = some (r, dA') ∧ L_Mo_ground_b23 dB = some (r, dB') ∧ RS dA' dB' ∧ RG dA' dB' := by
    unfold L_PB_ground_b30 L_PB_ground_b78 L_Mo_ground_b23
    simp only [e_ref, bd_s, i10, i20, i30, i40, i50, i60, i70, if_true, if_false, up2_s, up2_j, up2_K]
    exact ⟨_, _, _, rfl, rfl, RS.of, hR.st⟩
  obtain ⟨r1, r2, r3, r4, r5⟩ := id hR
  have go : (0 ≤ p2 ∧ (p1 = 0 → p2 < dB 52 0) ∧ (p1 ≠ 0 → p2 < dB 0 87)) → ∃ (r : Int) (dA' dB' : Dt), L_PB_ground_b38 p1 p2 dA = some (r, dA') ∧ L_Mo_ground_b29 p1 p2 dB = some (r, dB') ∧ RS dA' dB' ∧ RG dA' dB' := by
    intro hb
    unfold L_PB_ground_b38 L_Mo_ground_b29 L_Mo_ground_l46
    by_cases hf : dB 0 92 = 10
    · rw [e_gFull, bd_s, r1, if_pos hf, if_neg (show ¬ dB 0 92 < 10 by omega), if_neg (show ¬ (1 : Int) = 0 by decide), e_ref, bd_s]
      unfold L_PB_ground_b78
      rw [up2_s, if_neg (show ¬ (4 : Int) = 0 by decide)]
      exact ⟨_, _, _, rfl, rfl, RS.of, hR.st⟩
    · have hc : 0 ≤ dB 0 92 ∧ dB 0 92 < 10 := by omega
      obtain ⟨qa, a1, a2⟩ := told_A p1 p2 dA (by omega)
      obtain ⟨qb, b1, b2⟩ := told_B p1 p2 dB (by omega)
      rw [e_gFull, bd_s, r1, if_neg hf, if_pos hc.2, if_pos (show (0 : Int) = 0 by rfl), b1, lb_s]
      unfold L_Gr_isTold L_Gr_isTold_l2
      rw [a1, lb_s]
      rcases a2 with ⟨rfl, i, t1, t2, t3⟩ | ⟨rfl, t1⟩
      · rcases b2 with ⟨rfl, j, s1, s2, s3⟩ | ⟨rfl, s1⟩
        · unfold sm u0
          dsimp only
          rw [bd_s, if_neg (show ¬ (1 : Int) = 0 by decide), e_ref, bd_s]
          unfold L_PB_ground_b75 L_PB_ground_b78
          rw [up2_s, if_neg (show ¬ (7 : Int) = 0 by decide)]
          exact ⟨_, _, _, rfl, rfl, RS.of, hR.st⟩
        · exfalso
          have hi := r3 i (by omega)
          exact s1 i (by omega) ⟨by rw [← hi.1]; exact t2, by rw [← hi.2.1]; exact t3⟩
      · rcases b2 with ⟨rfl, j, s1, s2, s3⟩ | ⟨rfl, s1⟩
        · exfalso
          have hi := r3 j s1
          exact t1 j (by omega) ⟨by rw [hi.1]; exact s2, by rw [hi.2.1]; exact s3⟩
        · unfold sm u0 u2
          dsimp only
          rw [bd_s, if_pos (show (0 : Int) = 0 by rfl)]
          unfold L_PB_ground_b75 L_PB_ground_b78 L_Gr_add
          have w1 : w32 (dB 0 92 + 1) = dB 0 92 + 1 := w32_s (by omega) (by omega)
          have w2 : w32 (dB 0 92 + 1 - 1) = dB 0 92 := by rw [w32_s (by omega) (by omega)]; omega
          simp (disch := decide) only [r1, ck_pos hc, w1, w2, e_giv, bd_s, i10, i20, i30, i40, i50, i60, i70, if_true, if_false, up2_s, up2_j, up2_K]
          refine ⟨_, _, _, rfl, rfl, ?_, ?_⟩
          · unfold RS; simp (disch := decide) only [up2_s, up2_j, up2_K]
          · unfold RG
            simp (disch := decide) only [up2_s, up2_j, up2_K]
            refine ⟨by trivial, by omega, fun i hi => ?_, fun i hi => ?_, fun i hi hj => ?_⟩
            · by_cases hp : i = (dB 0 92).toNat
              · subst hp
                simp only [up2_s]
                exact ⟨by trivial, by trivial, hb⟩
              · simp only [up2_j _ _ _ hp]
                exact r3 i (by omega)
            · by_cases hp : i = (dB 0 92).toNat
              · subst hp
                simp only [up2_s]
                exact r5 _ (by omega) hi
              · simp only [up2_j _ _ _ hp]
                exact r4 i hi
            · exact r5 i (by omega) hj
  unfold L_PB_ground L_Mo_ground
  by_cases h0 : p1 = 0
  · rw [if_pos h0, if_pos h0, e_Bo_has0, e_Mo_isEntry, bd_s, bd_s, hE]
    by_cases h : 0 ≤ p2 ∧ p2 < dB 52 0
    · rw [if_pos h, if_neg (show ¬ (1 : Int) = 0 by decide), if_neg (show ¬ (1 : Int) = 0 by decide)]
      exact go ⟨h.1, fun _ => h.2, fun q => absurd h0 q⟩
    · rw [if_neg h, if_pos rfl, if_pos rfl]; exact bad
  · rw [if_neg h0, if_neg h0, e_Po_hasOffer, e_Mo_isOffer, bd_s, bd_s, hV]
    by_cases h : 0 ≤ p2 ∧ p2 < dB 0 87
    · rw [if_pos h, if_neg (show ¬ (1 : Int) = 0 by decide), if_neg (show ¬ (1 : Int) = 0 by decide)]
      exact go ⟨h.1, fun q => absurd q h0, fun _ => h.2⟩
    · rw [if_neg h, if_pos rfl, if_pos rfl]; exact bad
theorem T_against {p1 p2 : Int} {dA dB : Dt} (hR : RG dA dB) : ∃ (r : Int) (dA' dB' : Dt), L_PB_against p1 p2 dA = some (r, dA') ∧ L_Mo_against p1 p2 dB = some (r, dB') ∧ RS dA' dB' ∧ RG dA' dB' := by
  have bad : ∃ (r : Int) (dA' dB' : Dt), L_PB_against_b32 p1 p2 0 dA = some (r, dA') ∧ L_Mo_against_b29 dB = some (r, dB') ∧ RS dA' dB' ∧ RG dA' dB' := by
    unfold L_PB_against_b32 L_PB_against_b60 L_PB_against_b79 L_Mo_against_b29
    simp only [e_is, bd_s, i10, i20, i30, i40, i50, i60, i70, if_true, if_false, up2_s, up2_j, up2_K]
    exact ⟨_, _, _, rfl, rfl, RS.of, hR.st⟩
  obtain ⟨r1, r2, r3, r4, r5⟩ := id hR
  unfold L_PB_against L_Mo_against
  rw [e_Gr_has, bd_s, r1]
  by_cases h1 : 0 ≤ p1 ∧ p1 < dB 0 92
  · rw [if_pos h1, if_neg (show ¬ (1 : Int) = 0 by decide), if_neg (show ¬ p1 < 0 by omega), if_pos h1.2, e_Gr_has, bd_s, r1]
    by_cases h2 : 0 ≤ p2 ∧ p2 < dB 0 92
    · rw [if_pos h2, if_neg (show ¬ (1 : Int) = 0 by decide), if_neg (show ¬ p2 < 0 by omega), if_pos h2.2]
      by_cases h3 : p1 = p2
      · rw [if_pos h3, if_pos h3]; exact bad
      · have c1 : 0 ≤ p1 ∧ p1 < 10 := by omega
        have c2 : 0 ≤ p2 ∧ p2 < 10 := by omega
        rw [if_neg h3, if_neg h3, ck_pos c1]
        unfold L_PB_against_b32 L_Gr_areRivals
        rw [if_neg (show ¬ (1 : Int) = 0 by decide), ck_pos c1, r4 p1.toNat (by omega)]
        rcases iand1 (ishr (dB 66 p1.toNat) p2) with hz | hz
        · rw [hz, if_pos (show (0 : Int) = 0 by rfl), bd_s, if_pos (show (0 : Int) = 0 by rfl), if_neg (show ¬ (0 : Int) = 1 by decide), ck_pos c1, ck_pos c1, ck_pos c2, ck_pos c2, e_is, bd_s]
          unfold L_PB_against_b60 L_Gr_setRivals L_PB_against_b79
          have hn : p2.toNat ≠ p1.toNat := by omega
          have hn1 : p1.toNat ≠ p2.toNat := by omega
          rw [up2_j dB 66 _ hn]
          rw [if_pos (show (0 : Int) = 0 by rfl), ck_pos c1, ck_pos c1, ck_pos c2, ck_pos c2, bd_s, up2_j _ 61 _ hn, up2_K dA _ _ (show (61 : Nat) ≠ 0 by decide), r4 p1.toNat (by omega), r4 p2.toNat (by omega)]
          rw [up2_k _ _ _ _ (show (0 : Nat) ≠ 61 by decide), up2_k _ _ _ _ (show (0 : Nat) ≠ 61 by decide), up2_s, if_pos (show (0 : Int) = 0 by rfl), if_pos (show (0 : Int) = 0 by rfl)]
          refine ⟨_, _, _, rfl, rfl, ?_, ?_⟩
          · unfold RS; simp (disch := decide) only [up2_s, up2_j, up2_K]
          · unfold RG
            simp (disch := decide) only [up2_s, up2_j, up2_K]
            refine ⟨r1, r2, r3, fun i hi => ?_, fun i hi hj => ?_⟩
            · by_cases q2 : i = p2.toNat
              · subst q2
                simp only [up2_s]
              · simp only [up2_j _ _ _ q2]
                by_cases q1 : i = p1.toNat
                · subst q1
                  simp only [up2_s]
                · simp (disch := decide) only [up2_j _ _ _ q1, up2_K]
                  exact r4 i hi
            · rw [up2_j _ _ _ (show i ≠ p2.toNat by omega), up2_j _ _ _ (show i ≠ p1.toNat by omega), up2_k _ _ _ _ (show (61 : Nat) ≠ 0 by decide)]
              exact r5 i hi hj
        · rw [hz, if_neg (show ¬ (1 : Int) = 0 by decide), bd_s, if_neg (show ¬ (1 : Int) = 0 by decide), if_pos (show (1 : Int) = 1 by rfl), e_is, bd_s]
          unfold L_PB_against_b60 L_PB_against_b79
          rw [if_neg (show ¬ (7 : Int) = 0 by decide), up2_s, if_neg (show ¬ (7 : Int) = 0 by decide), if_neg (show ¬ (7 : Int) = 0 by decide)]
          exact ⟨_, _, _, rfl, rfl, RS.of, hR.st⟩
    · rw [if_neg h2, if_pos rfl]
      by_cases q : p2 < 0
      · rw [if_pos q]; exact bad
      · rw [if_neg q, if_neg (show ¬ p2 < dB 0 92 by omega)]; exact bad
  · rw [if_neg h1, if_pos rfl]
    by_cases q : p1 < 0
    · rw [if_pos q]; exact bad
    · rw [if_neg q, if_neg (show ¬ p1 < dB 0 92 by omega)]; exact bad
