/-! GROUNDS: the reference -/
theorem canBe_Be {dA dB d : Dt} (hG : RG dA dB) (hd : Core dB d) (set : Int) : ∃ r, L_Mo_canBe set d = some (r, d) ∧ ((r = 0 ∧ ∃ g, g < (dB 0 92).toNat ∧ clash dB set g) ∨ (r = 1 ∧ ∀ g, g < (dB 0 92).toNat → ¬ clash dB set g)) := by
  obtain ⟨g1, g2, g3, g4, g5⟩ := id hG
  obtain ⟨d', rfl, a2⟩ := lp_find (f := fun q : Int × Int × Dt => L_Mo_canBe_y2 q.1 q.2.1 q.2.2) (fun i x => (set, (i : Int), x)) (fun _ x => Sum.inr x) (fun x => Sum.inl x) (fun x => x = d) (clash dB set) (dB 0 92).toNat
    (by
      rintro i x hi rfl
      have hbb := bitI_b set i
      dsimp only
      unfold L_Mo_canBe_y2 L_Mo_canBe_b32
      rw [hd.2 92 (by decide), if_pos (by omega), w32_i (show i < 2147483647 by omega), show iand (ishr set (i : Int)) 1 = bitI set i from rfl, ck_pos ⟨by omega, by omega⟩, tn_i, hd.1 66 (by decide) (by decide)]
      by_cases q1 : bitI set i = 0
      · right; rw [if_neg (by omega)]; exact ⟨fun q => q.1 q1, _, rfl, rfl⟩
      · rw [if_pos (by omega)]
        by_cases q2 : iand (dB 66 i) set = 0
        · right; rw [if_pos q2]; exact ⟨fun q => q.2 q2, _, rfl, rfl⟩
        · left; rw [if_neg q2]; exact ⟨⟨q1, q2⟩, _, rfl, rfl⟩)
    (by
      rintro x rfl
      dsimp only
      unfold L_Mo_canBe_y2
      rw [hd.2 92 (by decide), if_neg (by omega)]
      exact ⟨_, rfl, rfl⟩) (by omega) d rfl
  unfold L_Mo_canBe L_Mo_canBe_l2
  rcases a2 with ⟨i, b1, b2, b3, b4⟩ | ⟨b1, b2⟩
  · rw [show lpF (fun q : Int × Int × Dt => L_Mo_canBe_y2 q.1 q.2.1 q.2.2) FU (set, 0, d') = _ from b4, lb_e, smr_, u0_q]
    exact ⟨_, rfl, Or.inl ⟨rfl, i, b1, b2⟩⟩
  · rw [show lpF (fun q : Int × Int × Dt => L_Mo_canBe_y2 q.1 q.2.1 q.2.2) FU (set, 0, d') = _ from b2, lb_e, sml_, u0_q]
    exact ⟨_, rfl, Or.inr ⟨rfl, b1⟩⟩
/-- what the reference has read: mates and written votes -/
def Rd (dB d : Dt) : Prop := Core dB d ∧ (∀ b i : Nat, b < 2 → (i : Int) < dB 52 0 → d 56 (30 * b + i) = mtB dB b i) ∧ ∀ c, c < 4 → d 67 c = sumB (fun e => (sett dB e : Int)) c (dB 52 0).toNat
theorem readW_e {dA dB d : Dt} (hB : RB dA dB) (hd : Core dB d) : ∃ d', L_Mo_readWritten d = some (0, d') ∧ Rd dB d' := by
  obtain ⟨z0, z1, z2⟩ := hB.1 0 (by decide)
  obtain ⟨x, g1, g2, g3⟩ := joinAll_e hB hd
  obtain ⟨d', e1, e2, e3, e4⟩ := lp_inv (f := fun q : Int × Dt => L_Mo_readWritten_y6 q.1 q.2) (fun c y => ((c : Int), y)) (fun y => y)
    (fun c y => Core dB y ∧ y 56 = x 56 ∧ ∀ c', c' < c → y 67 c' = sumB (fun e => (sett dB e : Int)) c' (dB 52 0).toNat) 4
    (by
      rintro c y hc ⟨f1, f2, f3⟩
      obtain ⟨y', k1, k2, k3, k4⟩ := lp_inv (f := fun q : Int × Int × Dt => L_Mo_readWritten_y20 q.1 q.2.1 q.2.2) (fun e w => ((c : Int), (e : Int), w)) (fun w => ((c : Int), w))
        (fun e w => (∀ k, k ≠ 67 → w k = y k) ∧ (∀ c', c' ≠ c → w 67 c' = y 67 c') ∧ w 67 c = sumB (fun e => (sett dB e : Int)) c e) (dB 52 0).toNat
        (by
          rintro e w he ⟨l1, l2, l3⟩
          have hw : Core dB w := ⟨fun k h0 hs => by rw [l1 k (by intro q; subst q; revert hs; decide)]; exact f1.1 k h0 hs, fun j hj => by rw [l1 0 (by decide)]; exact f1.2 j hj⟩
          have h1 := sumB_b (fun e => (sett dB e : Int)) c e
          have h2 := bitI_b (sett dB e : Int) c
          refine ⟨up2 w 67 c (sumB (fun e => (sett dB e : Int)) c e + bitI (sett dB e : Int) c), ?_, ?_, ?_, ?_⟩
          · dsimp only
            unfold L_Mo_readWritten_y20
            rw [hw.1 52 (by decide) (by decide), if_pos (by omega), ck_pos ⟨by omega, by omega⟩, setOf_e hB hw e (by omega) (fun b hb => by rw [l1 56 (by decide), f2]; exact g3 b e hb (by omega)), bd_e, ck_pos ⟨by omega, by omega⟩, tn_i, l3, show iand (ishr (sett dB e : Int) (c : Int)) 1 = bitI (sett dB e : Int) c from rfl, w32_s (x := sumB (fun e => (sett dB e : Int)) c e + bitI (sett dB e : Int) c) (by omega) (by omega), w32_i (show e < 2147483647 by omega)]
          · intro k hk; rw [up2_K _ _ _ hk]; exact l1 k hk
          · intro c' hc'; rw [up2_j _ _ _ hc']; exact l2 c' hc'
          · rw [up2_s]; simp only [sumB])
        (by
          rintro w ⟨l1, l2, l3⟩
          dsimp only
          unfold L_Mo_readWritten_y20
          rw [l1 52 (by decide), f1.1 52 (by decide) (by decide), if_neg (by omega)]) (by omega) (up2 y 67 c 0) ⟨fun k hk => up2_K _ _ _ hk, fun c' hc' => up2_j _ _ _ hc', by rw [up2_s]; rfl⟩
      refine ⟨y', ?_, ?_, ?_, ?_⟩
      · dsimp only
        unfold L_Mo_readWritten_y6 L_Mo_readWritten_l20
        rw [if_pos (by omega), ck_pos ⟨by omega, by omega⟩, tn_i, show lpF (fun q : Int × Int × Dt => L_Mo_readWritten_y20 q.1 q.2.1 q.2.2) FU ((c : Int), 0, up2 y 67 c 0) = _ from k1, lb_e, u1_q, w32_i (show c < 2147483647 by omega)]
      · exact ⟨fun k h0 hs => by rw [k2 k (by intro q; subst q; revert hs; decide)]; exact f1.1 k h0 hs, fun j hj => by rw [k2 0 (by decide)]; exact f1.2 j hj⟩
      · rw [k2 56 (by decide)]; exact f2
      · intro c' hc'
        by_cases q : c' = c
        · subst q; exact k4
        · rw [k3 c' q]; exact f3 c' (by omega))
    (by
      rintro y _
      dsimp only
      unfold L_Mo_readWritten_y6
      rw [if_neg (by omega)]) (by omega) x ⟨g2, rfl, fun c' h => by omega⟩
  refine ⟨d', ?_, e2, ?_, e4⟩
  · unfold L_Mo_readWritten L_Mo_readWritten_l6
    rw [g1, bd_e, show lpF (fun q : Int × Dt => L_Mo_readWritten_y6 q.1 q.2) FU (0, x) = _ from e1, lb_e, u0_q]
  · intro b i hb hi; rw [e3]; exact g3 b i hb hi
theorem Rd.s64 {dB d d' : Dt} (h : Rd dB d) (hk : ∀ k, k ≠ 64 → d' k = d k) : Rd dB d' := by
  obtain ⟨h1, h2, h3⟩ := h
  refine ⟨⟨fun k h0 hs => by rw [hk k (by intro q; subst q; revert hs; decide)]; exact h1.1 k h0 hs, fun j hj => by rw [hk 0 (by decide)]; exact h1.2 j hj⟩, ?_, ?_⟩
  · rw [hk 56 (by decide)]; exact h2
  · rw [hk 67 (by decide)]; exact h3
theorem cwB_e {dA dB d : Dt} (hB : RB dA dB) (hG : RG dA dB) (hV : RV dA dB) (hd : Rd dB d) (set : Int) : ∃ d', L_Mo_countWritten set d = some (0, d') ∧ (∀ k, k ≠ 64 → d' k = d k) ∧ ∀ c, c < 4 → d' 64 c = gV dB set c (dB 0 92).toNat := by
  obtain ⟨g1, g2, g3, g4, g5⟩ := id hG
  obtain ⟨v1, v2, v3⟩ := id hV
  obtain ⟨d', e1, e2, e3⟩ := lp_inv (f := fun q : Int × Int × Dt => L_Mo_countWritten_y2 q.1 q.2.1 q.2.2) (fun c y => (set, (c : Int), y)) (fun y => y)
    (fun c y => (∀ k, k ≠ 64 → y k = d k) ∧ ∀ c', c' < c → y 64 c' = gV dB set c' (dB 0 92).toNat) 4
    (by
      rintro c y hc ⟨f1, f3⟩
      have hy := hd.s64 f1
      obtain ⟨y', k1, k2, k3, k4⟩ := lp_inv (f := fun q : Int × Int × Int × Dt => L_Mo_countWritten_y21 q.1 q.2.1 q.2.2.1 q.2.2.2) (fun g w => (set, (c : Int), (g : Int), w)) (fun w => (set, (c : Int), w))
        (fun g w => (∀ k, k ≠ 64 → w k = y k) ∧ (∀ c', c' ≠ c → w 64 c' = y 64 c') ∧ w 64 c = gV dB set c g) (dB 0 92).toNat
        (by
          rintro g w hg ⟨l1, l2, l3⟩
          have hw := hy.s64 l1
          have hwc := hw.1
          obtain ⟨a1, a2, a3, a4, a5⟩ := g3 g (by omega)
          have ck10 : (0 : Int) ≤ (g : Int) ∧ (g : Int) < 10 := by omega
          have ck4 : (0 : Int) ≤ (c : Int) ∧ (c : Int) < 4 := by omega
          have hgb := gV_b hB set c g
          have hbs := bs_b dB g (vtG dB g) c
          have hbb := bitI_b set g
          have fin : ∀ v : Int, v = bitI (vtG dB g) c * sgG dB g → ¬ bitI set g = 0 → ∃ w', L_Mo_countWritten_b87 set (c : Int) (g : Int) (c : Int) (gV dB set c g) v w = some (Sum.inl (set, (c : Int), ((g + 1 : Nat) : Int), w')) ∧ (∀ k, k ≠ 64 → w' k = y k) ∧ (∀ c', c' ≠ c → w' 64 c' = y 64 c') ∧ w' 64 c = gV dB set c (g + 1) := by
            intro v hv q
            unfold L_Mo_countWritten_b87 L_Mo_countWritten_b89
            rw [ck_pos ck4, tn_i, hv, w32_s (x := gV dB set c g + bitI (vtG dB g) c * sgG dB g) (by omega) (by omega), w32_i (show g < 2147483647 by omega)]
            refine ⟨_, rfl, ?_, ?_, ?_⟩
            · intro k hk; rw [up2_K _ _ _ hk]; exact l1 k hk
            · intro c' hc'; rw [up2_j _ _ _ hc']; exact l2 c' hc'
            · rw [up2_s]; simp only [gV]; rw [if_neg q]
          dsimp only
          unfold L_Mo_countWritten_y21
          rw [hwc.2 92 (by decide), if_pos (by omega), show iand (ishr set (g : Int)) 1 = bitI set g from rfl]
          by_cases q : bitI set g = 0
          · rw [if_neg (by omega)]
            unfold L_Mo_countWritten_b89
            rw [w32_i (show g < 2147483647 by omega)]
            refine ⟨_, rfl, l1, l2, ?_⟩
            simp only [gV]; rw [if_pos q]; exact l3
          · rw [if_pos (by omega), ck_pos ck4, ck_pos ck10, tn_i, hwc.1 68 (by decide) (by decide), hwc.1 65 (by decide) (by decide), ck_pos ck10, ck_pos ck10, tn_i, l3]
            obtain ⟨u, hu⟩ : ∃ u : Nat, dB 65 g = (u : Int) := ⟨(dB 65 g).toNat, by omega⟩
            rw [hu]
            by_cases q2 : dB 68 g = 0
            · rw [if_pos q2, setOf_e hB hwc u (by have := a4 q2; omega) (fun b hb => hw.2.1 b u hb (by have := a4 q2; omega)), bd_e]
              have hx := bitI_b (sett dB u : Int) c
              rw [show iand (ishr (sett dB u : Int) (c : Int)) 1 = bitI (sett dB u : Int) c from rfl, w32_s (x := -(bitI (sett dB u : Int) c)) (by omega) (by omega)]
              refine fin _ ?_ q
              unfold vtG sgG
              rw [if_pos q2, if_pos q2, hu, tn_i]; omega
            · rw [if_neg q2, ck_pos ⟨by omega, by have := a5 q2; omega⟩, tn_i, hwc.1 60 (by decide) (by decide), show iand (ishr (dB 60 u) (c : Int)) 1 = bitI (dB 60 u) c from rfl]
              refine fin _ ?_ q
              unfold vtG sgG
              rw [if_neg q2, if_neg q2, hu, tn_i]; omega)
        (by
          rintro w ⟨l1, l2, l3⟩
          dsimp only
          unfold L_Mo_countWritten_y21
          rw [(hy.s64 l1).1.2 92 (by decide), if_neg (by omega)]) (by omega) (up2 y 64 c (sumB (fun e => (sett dB e : Int)) c (dB 52 0).toNat)) ⟨fun k hk => up2_K _ _ _ hk, fun c' hc' => up2_j _ _ _ hc', by rw [up2_s]; rfl⟩
      refine ⟨y', ?_, ?_, ?_⟩
      · dsimp only
        unfold L_Mo_countWritten_y2 L_Mo_countWritten_l21
        rw [if_pos (by omega), ck_pos ⟨by omega, by omega⟩, ck_pos ⟨by omega, by omega⟩, tn_i, hy.2.2 c hc, show lpF (fun q : Int × Int × Int × Dt => L_Mo_countWritten_y21 q.1 q.2.1 q.2.2.1 q.2.2.2) FU (set, (c : Int), 0, up2 y 64 c (sumB (fun e => (sett dB e : Int)) c (dB 52 0).toNat)) = _ from k1, lb_e, u2_q, w32_i (show c < 2147483647 by omega)]
      · intro k hk; rw [k2 k hk]; exact f1 k hk
      · intro c' hc'
        by_cases q : c' = c
        · subst q; exact k4
        · rw [k3 c' q]; exact f3 c' (by omega))
    (by
      rintro y _
      dsimp only
      unfold L_Mo_countWritten_y2
      rw [if_neg (by omega)]) (by omega) d ⟨fun _ _ => rfl, fun c' h => by omega⟩
  refine ⟨d', ?_, e2, e3⟩
  unfold L_Mo_countWritten L_Mo_countWritten_l2
  rw [show lpF (fun q : Int × Int × Dt => L_Mo_countWritten_y2 q.1 q.2.1 q.2.2) FU (set, 0, d) = _ from e1, lb_e, u0_q]
