/-! GROUNDS: the class -/
theorem addSet_e (arr : Nat) (set much : Int) (d : Dt) (hm : much = 1 ∨ much = -1) (hb : ∀ c, c < 4 → -1000 ≤ d arr c ∧ d arr c ≤ 1000) : ∃ d', L_PB_addSet arr 4 set much d = some (0, d') ∧ (∀ k, k ≠ arr → d' k = d k) ∧ (∀ c, c < 4 → d' arr c = d arr c + bitI set c * much) := by
  obtain ⟨d', e1, e2, e3, e4⟩ := lp_inv (f := fun q : Int × Int × Int × Dt => L_PB_addSet_y2 arr 4 q.1 q.2.1 q.2.2.1 q.2.2.2) (fun c x => (set, much, (c : Int), x)) (fun x => x)
    (fun c x => (∀ k, k ≠ arr → x k = d k) ∧ (∀ c', c' < c → x arr c' = d arr c' + bitI set c' * much) ∧ ∀ c', c ≤ c' → x arr c' = d arr c') 4
    (by
      rintro c x hc ⟨f1, f2, f3⟩
      have h1 := hb c hc
      have h2 := bitI_b set c
      have h3 : -1 ≤ bitI set c * much ∧ bitI set c * much ≤ 1 := by
        rcases h2 with h2 | h2 <;> rcases hm with hm | hm <;> rw [h2, hm] <;> decide
      refine ⟨up2 x arr c (d arr c + bitI set c * much), ?_, ?_, ?_, ?_⟩
      · dsimp only
        unfold L_PB_addSet_y2
        rw [if_pos (by omega), ck_pos ⟨by omega, by omega⟩, ck_pos ⟨by omega, by omega⟩, tn_i, show iand (ishr set (c : Int)) 1 = bitI set c from rfl, f3 c (by omega), w32_s (x := bitI set c * much) (by omega) (by omega), w32_s (x := d arr c + bitI set c * much) (by omega) (by omega), w32_i (show c < 2147483647 by omega)]
      · intro k hk; rw [up2_K _ _ _ hk]; exact f1 k hk
      · intro c' hc'
        by_cases q : c' = c
        · subst q; rw [up2_s]
        · rw [up2_j _ _ _ q]; exact f2 c' (by omega)
      · intro c' hc'
        rw [up2_j _ _ _ (by omega)]; exact f3 c' (by omega))
    (by
      rintro x _
      dsimp only
      unfold L_PB_addSet_y2
      rw [if_neg (by omega)]) (by omega) d ⟨fun _ _ => rfl, fun c' h => by omega, fun _ _ => rfl⟩
  refine ⟨d', ?_, e2, e3⟩
  unfold L_PB_addSet L_PB_addSet_l2
  rw [show lpF (fun q : Int × Int × Int × Dt => L_PB_addSet_y2 arr 4 q.1 q.2.1 q.2.2.1 q.2.2.2) FU (set, much, 0, d) = _ from e1, lb_e, u0_q]
theorem jset_e {x dB : Dt} (hB : RB x dB) (hC : RC x dB) (hM : RM x dB) (e : Nat) (he : (e : Int) < dB 52 0) : ∃ x', L_Bo_joinedSet (e : Int) x = some ((sett dB e : Int), x') ∧ (∀ k, k ≠ 37 → k ≠ 44 → k ≠ 45 → k ≠ 46 → k ≠ 47 → x' k = x k) ∧ RM x' dB := by
  obtain ⟨z0, z1, z2⟩ := hB.1 0 (by decide)
  obtain ⟨x', a1, a2, a3, a4⟩ := settle_e hB hC hM
  refine ⟨x', ?_, a2, Or.inr a4⟩
  unfold L_Bo_joinedSet
  rw [a1, bd_e, ck_pos ⟨by omega, by omega⟩, tn_i, a4.2.2 e he]
theorem cwA_e {x dB : Dt} (hB : RB x dB) (hC : RC x dB) (hM : RM x dB) : ∃ x', L_Gr_countWritten x = some (0, x') ∧ (∀ k, k ≠ 37 → k ≠ 44 → k ≠ 45 → k ≠ 46 → k ≠ 47 → k ≠ 63 → x' k = x k) ∧ RM x' dB ∧ ∀ c, c < 4 → x' 63 c = sumB (fun e => (sett dB e : Int)) c (dB 52 0).toNat := by
  obtain ⟨d', e1, e2, e3, e4⟩ := lp_inv (f := fun q : Int × Dt => L_Gr_countWritten_y2 q.1 q.2) (fun c y => ((c : Int), y)) (fun y => y)
    (fun c y => (∀ k, k ≠ 37 → k ≠ 44 → k ≠ 45 → k ≠ 46 → k ≠ 47 → k ≠ 63 → y k = x k) ∧ RM y dB ∧ ∀ c', c' < c → y 63 c' = sumB (fun e => (sett dB e : Int)) c' (dB 52 0).toNat) 4
    (by
      rintro c y hc ⟨f1, f2, f3⟩
      have hBy : RB y dB := hB.cgA (fun k h1 h2 => f1 k (by omega) (by omega) (by omega) (by omega) (by omega) (by omega))
      obtain ⟨y', a1, a2, a3, a4⟩ := settle_e hBy (hC.cgA (f1 43 (by decide) (by decide) (by decide) (by decide) (by decide) (by decide))) f2
      have hBy' : RB y' dB := hBy.cgA (fun k h1 h2 => a2 k (by omega) (by omega) (by omega) (by omega) (by omega))
      refine ⟨up2 y' 63 c (sumB (fun e => (sett dB e : Int)) c (dB 52 0).toNat), ?_, ?_, ?_, ?_⟩
      · dsimp only
        unfold L_Gr_countWritten_y2 L_Bo_countJoined
        rw [if_pos (by omega), a1, bd_e, cJ_in hBy' a4, lb_e, u1_q, bd_e, ck_pos ⟨by omega, by omega⟩, tn_i, w32_i (show c < 2147483647 by omega)]
      · intro k h1 h2 h3 h4 h5 h6; rw [up2_K _ _ _ h6, a2 k h1 h2 h3 h4 h5]; exact f1 k h1 h2 h3 h4 h5 h6
      · exact (show RM y' dB from Or.inr a4).cgA (by rw [up2_K _ _ _ (by decide)]) (fun k h1 h2 => up2_K _ _ _ (by omega))
      · intro c' hc'
        by_cases q : c' = c
        · subst q; rw [up2_s]
        · rw [up2_j _ _ _ q, a2 63 (by decide) (by decide) (by decide) (by decide) (by decide)]; exact f3 c' (by omega))
    (by
      rintro y _
      dsimp only
      unfold L_Gr_countWritten_y2
      rw [if_neg (by omega)]) (by omega) x ⟨fun _ _ _ _ _ _ _ => rfl, hM, fun c' h => by omega⟩
  refine ⟨d', ?_, e2, e3, e4⟩
  unfold L_Gr_countWritten L_Gr_countWritten_l2
  rw [show lpF (fun q : Int × Dt => L_Gr_countWritten_y2 q.1 q.2) FU (0, x) = _ from e1, lb_e, u0_q]
theorem RG.cgA {dA dB dA' : Dt} (h : RG dA dB) (h5 : dA' 58 5 = dA 58 5) (hk : ∀ k, 59 ≤ k → k ≤ 61 → dA' k = dA k) : RG dA' dB := by
  unfold RG at h ⊢
  rw [h5, hk 59 (by decide) (by decide), hk 60 (by decide) (by decide), hk 61 (by decide) (by decide)]
  exact h
theorem RV.cgA {dA dB dA' : Dt} (h : RV dA dB) (h5 : dA' 49 = dA 49) (hk : ∀ k, 54 ≤ k → k ≤ 56 → dA' k = dA k) : RV dA' dB := by
  unfold RV at h ⊢
  rw [h5, hk 54 (by decide) (by decide), hk 55 (by decide) (by decide), hk 56 (by decide) (by decide)]
  exact h
theorem addGr_e {d dB : Dt} (hB : RB d dB) (hC : RC d dB) (hM : RM d dB) (hG : RG d dB) (hV : RV d dB) (set : Int) (h63 : ∀ c, c < 4 → d 63 c = sumB (fun e => (sett dB e : Int)) c (dB 52 0).toNat) : ∃ d', L_Gr_addGrounds set d = some (0, d') ∧ (∀ k, k ≠ 37 → k ≠ 44 → k ≠ 45 → k ≠ 46 → k ≠ 47 → k ≠ 62 → d' k = d k) ∧ RM d' dB ∧ ∀ c, c < 4 → d' 62 c = gV dB set c (dB 0 92).toNat := by
  obtain ⟨g1, g2, g3, g4, g5⟩ := id hG
  obtain ⟨v1, v2, v3⟩ := id hV
  obtain ⟨d', e1, e2, e3, e4⟩ := lp_inv (f := fun q : Int × Int × Dt => L_Gr_addGrounds_y16 q.1 q.2.1 q.2.2) (fun g y => (set, (g : Int), y)) (fun y => y)
    (fun g y => (∀ k, k ≠ 37 → k ≠ 44 → k ≠ 45 → k ≠ 46 → k ≠ 47 → k ≠ 62 → y k = d k) ∧ RM y dB ∧ ∀ c, c < 4 → y 62 c = gV dB set c g) (dB 0 92).toNat
    (by
      rintro g y hg ⟨f1, f2, f3⟩
      obtain ⟨a1, a2, a3, a4, a5⟩ := g3 g (by omega)
      have hBy : RB y dB := hB.cgA (fun k h1 h2 => f1 k (by omega) (by omega) (by omega) (by omega) (by omega) (by omega))
      have hCy : RC y dB := hC.cgA (f1 43 (by decide) (by decide) (by decide) (by decide) (by decide) (by decide))
      have ck10 : (0 : Int) ≤ (g : Int) ∧ (g : Int) < 10 := by omega
      have y58 : y 58 = d 58 := f1 58 (by decide) (by decide) (by decide) (by decide) (by decide) (by decide)
      have y59 : y 59 = d 59 := f1 59 (by decide) (by decide) (by decide) (by decide) (by decide) (by decide)
      have y60 : y 60 = d 60 := f1 60 (by decide) (by decide) (by decide) (by decide) (by decide) (by decide)
      have y55 : y 55 = d 55 := f1 55 (by decide) (by decide) (by decide) (by decide) (by decide) (by decide)
      dsimp only
      unfold L_Gr_addGrounds_y16
      rw [y58, y59, y60, g1, if_pos (by omega), show iand (ishr set (g : Int)) 1 = bitI set g from rfl]
      by_cases q : bitI set g = 0
      · refine ⟨y, ?_, f1, f2, fun c hc => ?_⟩
        · rw [if_pos q]; unfold L_Gr_addGrounds_b92; rw [w32_i (show g < 2147483647 by omega)]
        · simp only [gV]; rw [if_pos q]; exact f3 c hc
      · rw [if_neg q, ck_pos ck10, tn_i, a2, lt_e, ck_pos ck10, a1]
        obtain ⟨w, hw⟩ : ∃ w : Nat, dB 65 g = (w : Int) := ⟨(dB 65 g).toNat, by omega⟩
        have hgb : ∀ c, c < 4 → -1000 ≤ y 62 c ∧ y 62 c ≤ 1000 := fun c hc => by
          have := gV_b hB set c g
          rw [f3 c hc]; omega
        have hgv : ∀ c, gV dB set c (g + 1) = gV dB set c g + bitI (vtG dB g) c * sgG dB g := fun c => by
          simp only [gV]; rw [if_neg q]
        by_cases q2 : dB 68 g = 0
        · rw [if_pos q2, hw]
          obtain ⟨y1, b1, b2, b3⟩ := jset_e hBy hCy f2 w (by have := a4 q2; omega)
          obtain ⟨y2, c1, c2, c3⟩ := addSet_e 62 (sett dB w : Int) (-1) y1 (Or.inr rfl) (by rw [b2 62 (by decide) (by decide) (by decide) (by decide) (by decide)]; exact hgb)
          rw [b1, bd_e]
          unfold L_Gr_addGrounds_b67 L_Gr_addGrounds_b89 L_Gr_addGrounds_b92
          rw [ck_pos ck10, tn_i, b2 59 (by decide) (by decide) (by decide) (by decide) (by decide), y59, a1, if_pos q2, c1, bd_e, w32_i (show g < 2147483647 by omega)]
          refine ⟨y2, rfl, ?_, ?_, ?_⟩
          · intro k h1 h2 h3 h4 h5 h6; rw [c2 k h6, b2 k h1 h2 h3 h4 h5]; exact f1 k h1 h2 h3 h4 h5 h6
          · exact b3.cgA (by rw [c2 37 (by decide)]) (fun k h1 h2 => c2 k (by omega))
          · intro c hc
            rw [c3 c hc, b2 62 (by decide) (by decide) (by decide) (by decide) (by decide), f3 c hc, hgv]
            unfold vtG sgG
            rw [if_pos q2, if_pos q2, hw, tn_i]
        · rw [if_neg q2, hw]
          obtain ⟨u1, u2, u3, u4⟩ := v3 w (by have := a5 q2; omega)
          obtain ⟨y2, c1, c2, c3⟩ := addSet_e 62 (dB 60 w) 1 y (Or.inl rfl) hgb
          unfold L_Po_offerSet
          rw [tn_i, ck_pos ⟨by omega, by have := a5 q2; omega⟩, bd_e, y55, u2]
          unfold L_Gr_addGrounds_b67 L_Gr_addGrounds_b89 L_Gr_addGrounds_b92
          rw [ck_pos ck10, tn_i, y59, a1, if_neg q2, c1, bd_e, w32_i (show g < 2147483647 by omega)]
          refine ⟨y2, rfl, ?_, ?_, ?_⟩
          · intro k h1 h2 h3 h4 h5 h6; rw [c2 k h6]; exact f1 k h1 h2 h3 h4 h5 h6
          · exact f2.cgA (by rw [c2 37 (by decide)]) (fun k h1 h2 => c2 k (by omega))
          · intro c hc
            rw [c3 c hc, f3 c hc, hgv]
            unfold vtG sgG
            rw [if_neg q2, if_neg q2, hw, tn_i])
    (by
      rintro y ⟨f1, _⟩
      dsimp only
      unfold L_Gr_addGrounds_y16
      rw [f1 58 (by decide) (by decide) (by decide) (by decide) (by decide) (by decide), g1, if_neg (by omega)]) (by omega) (cp2 d 63 0 62 0 4) (by
      refine ⟨fun k h1 h2 h3 h4 h5 h6 => cp2_K d h6, ?_, fun c hc => ?_⟩
      · exact hM.cgA (by rw [cp2_K d (by decide)]) (fun k h1 h2 => cp2_K d (by omega))
      · rw [cp2_a, if_pos (by omega), show 0 + (c - 0) = c by omega, h63 c hc]; rfl)
  refine ⟨d', ?_, e2, e3, e4⟩
  unfold L_Gr_addGrounds L_Gr_addGrounds_l16
  rw [ck_pos (by decide), show lpF (fun q : Int × Int × Dt => L_Gr_addGrounds_y16 q.1 q.2.1 q.2.2) FU (set, 0, cp2 d 63 0 62 0 4) = _ from e1, lb_e, u0_q]
/-- two GROUNDS of a set cannot both be -/
def clash (d : Dt) (set : Int) (g : Nat) : Prop := ¬ bitI set g = 0 ∧ ¬ iand (d 66 g) set = 0
theorem canAllBe_e {d dB : Dt} (hG : RG d dB) (set : Int) : ∃ r, L_Gr_canAllBe set d = some (r, d) ∧ ((r = 0 ∧ ∃ g, g < (dB 0 92).toNat ∧ clash dB set g) ∨ (r = 1 ∧ ∀ g, g < (dB 0 92).toNat → ¬ clash dB set g)) := by
  obtain ⟨g1, g2, g3, g4, g5⟩ := id hG
  obtain ⟨d', rfl, a2⟩ := lp_find (f := fun q : Int × Int × Dt => L_Gr_canAllBe_y2 q.1 q.2.1 q.2.2) (fun i x => (set, (i : Int), x)) (fun _ x => Sum.inr x) (fun x => Sum.inl x) (fun x => x = d) (clash dB set) (dB 0 92).toNat
    (by
      rintro i x hi rfl
      dsimp only
      unfold L_Gr_canAllBe_y2 L_Gr_canAllBe_b31
      rw [g1, if_pos (by omega), w32_i (show i < 2147483647 by omega), show iand (ishr set (i : Int)) 1 = bitI set i from rfl, ck_pos ⟨by omega, by omega⟩, tn_i, g4 i (by omega)]
      by_cases q1 : bitI set i = 0
      · right; rw [if_pos q1]; exact ⟨fun q => q.1 q1, _, rfl, rfl⟩
      · rw [if_neg q1]
        by_cases q2 : iand (dB 66 i) set = 0
        · right; rw [if_pos q2]; exact ⟨fun q => q.2 q2, _, rfl, rfl⟩
        · left; rw [if_neg q2]; exact ⟨⟨q1, q2⟩, _, rfl, rfl⟩)
    (by
      rintro x rfl
      dsimp only
      unfold L_Gr_canAllBe_y2
      rw [g1, if_neg (by omega)]
      exact ⟨_, rfl, rfl⟩) (by omega) d rfl
  unfold L_Gr_canAllBe L_Gr_canAllBe_l2
  rcases a2 with ⟨i, b1, b2, b3, b4⟩ | ⟨b1, b2⟩
  · rw [show lpF (fun q : Int × Int × Dt => L_Gr_canAllBe_y2 q.1 q.2.1 q.2.2) FU (set, 0, d') = _ from b4, lb_e, smr_, u0_q]
    exact ⟨_, rfl, Or.inl ⟨rfl, i, b1, b2⟩⟩
  · rw [show lpF (fun q : Int × Int × Dt => L_Gr_canAllBe_y2 q.1 q.2.1 q.2.2) FU (set, 0, d') = _ from b2, lb_e, sml_, u0_q]
    exact ⟨_, rfl, Or.inr ⟨rfl, b1⟩⟩
