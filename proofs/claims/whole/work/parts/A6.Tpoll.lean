/-! POLL: T_ of STANDING, STANDS, POLL, SEATED -/
def pV (W : Int → Int → Nat → Int) (dB : Dt) (p3 : Int) (c : Nat) : Int := sE W dB c (dB 52 0).toNat + (if p3 = 0 then 0 else sO W dB c (dB 0 87).toNat)
def jdB (W : Int → Int → Nat → Int) (dB y : Dt) : Prop := Core dB y ∧ (∀ b i : Nat, b < 2 → (i : Int) < dB 52 0 → y 56 (30 * b + i) = mtB dB b i) ∧ (∀ e : Nat, (e : Int) < dB 52 0 → y 62 e = eV W dB e) ∧ ∀ i : Nat, (i : Int) < dB 0 87 → y 63 i = oV W dB i
theorem jdB.cg {W : Int → Int → Nat → Int} {dB y y' : Dt} (h : jdB W dB y) (hk : ∀ k, k ≠ 64 → y' k = y k) : jdB W dB y' := by
  obtain ⟨h1, h2, h3, h4⟩ := h
  refine ⟨⟨fun k k0 ks => ?_, fun j hj => by rw [hk 0 (by decide)]; exact h1.2 j hj⟩, ?_, ?_, ?_⟩
  · rw [hk k (fun e => by rw [e] at ks; exact absurd ks (by decide))]; exact h1.1 k k0 ks
  · rw [hk 56 (by decide)]; exact h2
  · rw [hk 62 (by decide)]; exact h3
  · rw [hk 63 (by decide)]; exact h4
theorem cntB1 {dA dB y : Dt} {W : Int → Int → Nat → Int} (hB : RB dA dB) (h : jdB W dB y) (p3 : Int) (c : Nat) (hc : c < 4) : ∃ z, L_Mo_count_l26 p3 (c : Int) 0 (up2 y 64 c 0) = some (p3, (c : Int), z) ∧ (∀ k, k ≠ 64 → z k = y k) ∧ (∀ c', c' ≠ c → z 64 c' = y 64 c') ∧ z 64 c = sE W dB c (dB 52 0).toNat := by
  obtain ⟨z0, z1, z2⟩ := hB.1 0 (by decide)
  obtain ⟨u, e1, e2⟩ := lp_inv (f := fun q : Int × Int × Int × Dt => L_Mo_count_y26 q.1 q.2.1 q.2.2.1 q.2.2.2) (fun e z => (p3, (c : Int), (e : Int), z)) (fun z => (p3, (c : Int), z))
    (fun e z => (∀ k, k ≠ 64 → z k = y k) ∧ (∀ c', c' ≠ c → z 64 c' = y 64 c') ∧ z 64 c = sE W dB c e) (dB 52 0).toNat
    (by
      rintro e z he ⟨f1, f2, f3⟩
      have he' : (e : Int) < dB 52 0 := by omega
      obtain ⟨hz1, hz2, hz3, hz4⟩ := h.cg f1
      have hb := sE_b W dB c e
      have hbi := bitI_b ((sett dB e : Nat) : Int) c
      have cc4 : (0 : Int) ≤ (c : Int) ∧ (c : Int) < 4 := by omega
      have ce : (0 : Int) ≤ (e : Int) ∧ (e : Int) < 30 := by omega
      dsimp only
      unfold L_Mo_count_y26 L_Mo_count_b70
      rw [hz1.1 52 (by decide) (by decide), if_pos (by omega), ck_pos cc4, ck_pos ce, tn_i, tn_i, hz3 e he', f3, ck_pos cc4, w32_i (show e < 2147483647 by omega), setOf_e hB hz1 e he' (fun b hb => hz2 b e hb he'), bd_e, show iand (ishr ((sett dB e : Nat) : Int) (c : Int)) 1 = bitI ((sett dB e : Nat) : Int) c from rfl]
      have fin : ∀ v : Int, v = sE W dB c (e + 1) → (∀ k, k ≠ 64 → (up2 z 64 c v) k = y k) ∧ (∀ c', c' ≠ c → (up2 z 64 c v) 64 c' = y 64 c') ∧ (up2 z 64 c v) 64 c = sE W dB c (e + 1) := fun v hv => ⟨fun k hk => by rw [up2_K _ _ _ hk]; exact f1 k hk, fun c' hc' => by rw [up2_j _ _ _ hc']; exact f2 c' hc', by rw [up2_s]; exact hv⟩
      by_cases q : eV W dB e = 0
      · rw [if_pos q, ck_pos cc4, w32_s (x := sE W dB c e + bitI ((sett dB e : Nat) : Int) c) (by omega) (by omega)]
        exact ⟨_, rfl, fin _ (by simp only [sE, if_pos q])⟩
      · rw [if_neg q, w32_s (x := sE W dB c e + 0) (by omega) (by omega)]
        exact ⟨_, rfl, fin _ (by simp only [sE, if_neg q])⟩)
    (by
      rintro z ⟨f1, f2, f3⟩
      dsimp only
      unfold L_Mo_count_y26
      rw [(h.cg f1).1.1 52 (by decide) (by decide), if_neg (by omega)]) (by omega) (up2 y 64 c 0) ⟨fun k hk => up2_K _ _ _ hk, fun c' hc' => up2_j _ _ _ hc', by rw [up2_s]; rfl⟩
  exact ⟨u, e1, e2⟩
theorem cntB2 {dA dB y : Dt} {W : Int → Int → Nat → Int} (hB : RB dA dB) (hV : RV dA dB) (h : jdB W dB y) (p3 : Int) (c : Nat) (hc : c < 4) (hy : y 64 c = sE W dB c (dB 52 0).toNat) : ∃ z, L_Mo_count_l81 p3 (c : Int) 0 y = some (p3, (c : Int), z) ∧ (∀ k, k ≠ 64 → z k = y k) ∧ (∀ c', c' ≠ c → z 64 c' = y 64 c') ∧ z 64 c = pV W dB p3 c := by
  obtain ⟨z0, z1, z2⟩ := hB.1 0 (by decide)
  have h20 := hV.2.1
  have hE := sE_b W dB c (dB 52 0).toNat
  unfold pV
  by_cases hp : p3 = 0
  · have e1 := lp_seq (f := fun q : Int × Int × Int × Dt => L_Mo_count_y81 q.1 q.2.1 q.2.2.1 q.2.2.2) (fun _ => (p3, (c : Int), (0 : Int), y)) 0 (r := (p3, (c : Int), y)) (fun i hi => by omega)
      (by
        dsimp only
        unfold L_Mo_count_y81
        rw [h.1.2 87 (by decide), if_pos hp]
        split <;> rfl) (by omega)
    rw [if_pos hp]
    exact ⟨y, e1, fun _ _ => rfl, fun _ _ => rfl, by rw [hy]; omega⟩
  · rw [if_neg hp]
    obtain ⟨u, e1, e2⟩ := lp_inv (f := fun q : Int × Int × Int × Dt => L_Mo_count_y81 q.1 q.2.1 q.2.2.1 q.2.2.2) (fun e z => (p3, (c : Int), (e : Int), z)) (fun z => (p3, (c : Int), z))
      (fun e z => (∀ k, k ≠ 64 → z k = y k) ∧ (∀ c', c' ≠ c → z 64 c' = y 64 c') ∧ z 64 c = sE W dB c (dB 52 0).toNat + sO W dB c e) (dB 0 87).toNat
      (by
        rintro e z he ⟨f1, f2, f3⟩
        have he' : (e : Int) < dB 0 87 := by omega
        obtain ⟨hz1, hz2, hz3, hz4⟩ := h.cg f1
        have hb := sO_b W dB c e
        have hbi := bitI_b (dB 60 e) c
        have cc4 : (0 : Int) ≤ (c : Int) ∧ (c : Int) < 4 := by omega
        have ce : (0 : Int) ≤ (e : Int) ∧ (e : Int) < 20 := by omega
        dsimp only
        unfold L_Mo_count_y81 L_Mo_count_b128
        rw [hz1.2 87 (by decide), if_pos he', if_neg hp, ck_pos cc4, ck_pos ce, tn_i, tn_i, hz4 e he', f3, ck_pos ce, hz1.1 60 (by decide) (by decide), ck_pos cc4, w32_i (show e < 2147483647 by omega), show iand (ishr (dB 60 e) (c : Int)) 1 = bitI (dB 60 e) c from rfl]
        have fin : ∀ v : Int, v = sE W dB c (dB 52 0).toNat + sO W dB c (e + 1) → (∀ k, k ≠ 64 → (up2 z 64 c v) k = y k) ∧ (∀ c', c' ≠ c → (up2 z 64 c v) 64 c' = y 64 c') ∧ (up2 z 64 c v) 64 c = sE W dB c (dB 52 0).toNat + sO W dB c (e + 1) := fun v hv => ⟨fun k hk => by rw [up2_K _ _ _ hk]; exact f1 k hk, fun c' hc' => by rw [up2_j _ _ _ hc']; exact f2 c' hc', by rw [up2_s]; exact hv⟩
        by_cases q : oV W dB e = 0
        · rw [if_pos q, w32_s (x := sE W dB c (dB 52 0).toNat + sO W dB c e + bitI (dB 60 e) c) (by omega) (by omega)]
          exact ⟨_, rfl, fin _ (by simp only [sO, if_pos q]; omega)⟩
        · rw [if_neg q, ck_pos cc4, w32_s (x := sE W dB c (dB 52 0).toNat + sO W dB c e + 0) (by omega) (by omega)]
          exact ⟨_, rfl, fin _ (by simp only [sO, if_neg q]; omega)⟩)
      (by
        rintro z ⟨f1, f2, f3⟩
        dsimp only
        unfold L_Mo_count_y81
        rw [(h.cg f1).1.2 87 (by decide), if_neg (by omega)]) (by omega) y ⟨fun _ _ => rfl, fun _ _ => rfl, by rw [hy]; simp only [sO]; omega⟩
    exact ⟨u, e1, e2⟩
theorem countB_e {dA dB y0 : Dt} {place : Nat} {day p3 : Int} {W : Int → Int → Nat → Int} (hg : dB GH 0 ≤ 6) (hW : WW dA dB place day W) (hP : RP dA dB) (hH : RH dA dB) (hB : RB dA dB) (hQ : RQ dA dB) (hV : RV dA dB) (h0 : Core dB y0) : ∃ y, L_Mo_count (place : Int) day p3 y0 = some (0, y) ∧ Core dB y ∧ ∀ c, c < 4 → y 64 c = pV W dB p3 c := by
  obtain ⟨y1, a1, a2⟩ := judgeB_e hg hW hP hH hB hQ hV h0
  have hj : jdB W dB y1 := a2
  obtain ⟨u, e1, e2, e3⟩ := lp_inv (f := fun q : Int × Int × Dt => L_Mo_count_y9 q.1 q.2.1 q.2.2) (fun c z => (p3, (c : Int), z)) (fun z => z)
    (fun c z => (∀ k, k ≠ 64 → z k = y1 k) ∧ ∀ c', c' < c → z 64 c' = pV W dB p3 c') 4
    (by
      rintro c z hc ⟨f1, f2⟩
      obtain ⟨z1, b1, b2, b3, b4⟩ := cntB1 hB (hj.cg f1) p3 c hc
      obtain ⟨z2, c1, c2, c3, c4⟩ := cntB2 hB hV ((hj.cg f1).cg b2) p3 c hc b4
      refine ⟨z2, ?_, fun k hk => by rw [c2 k hk, b2 k hk]; exact f1 k hk, fun c' hc' => ?_⟩
      · dsimp only
        unfold L_Mo_count_y9 L_Mo_count_b136
        rw [if_pos (by omega), ck_pos ⟨by omega, by omega⟩, tn_i, b1, lb_e, u2_q, c1, lb_e, u2_q, w32_i (show c < 2147483647 by omega)]
      · by_cases q : c' = c
        · rw [q]; exact c4
        · rw [c3 c' q, b3 c' q]; exact f2 c' (by omega))
    (by
      rintro z _
      dsimp only
      unfold L_Mo_count_y9
      rw [if_neg (by decide)]) (by omega) y1 ⟨fun _ _ => rfl, fun c' h => by omega⟩
  refine ⟨u, ?_, (hj.cg e2).1, e3⟩
  unfold L_Mo_count L_Mo_count_l9
  rw [a1, bd_e, show lpF (fun q : Int × Int × Dt => L_Mo_count_y9 q.1 q.2.1 q.2.2) FU (p3, 0, y1) = _ from e1, lb_e, u0_q]
theorem EA.st {dA dB : Dt} (h : EA dA dB dA) (v : Int) : EA dA dB (up2 dA 0 0 v) := h.cg (fun k q => up2_K _ _ _ (by omega)) (by rw [up2_K _ _ _ (by decide)]) (h.1.2.1.st v) (h.2.2.2.2.2.1.cgA (by rw [up2_K _ _ _ (by decide)]) (fun k q1 q2 => up2_K _ _ _ (by omega)))
theorem EA.of {dA dB : Dt} (hL : RL0 dA dB) (hk : RLk dA dB) (hR : RR dA dB) (hP : RP dA dB) (hH : RH dA dB) (hB : RB dA dB) (hQ : RQ dA dB) (hN : RN dA dB) (hC : RC dA dB) (hM : RM dA dB) (hV : RV dA dB) : EA dA dB dA := ⟨⟨hL, hk, hR, hP, hH, fun _ _ => rfl⟩, hB, hQ, hN, hC, hM, hV⟩
theorem EA.out {dA dB x y : Dt} (h : EA dA dB x) (hy : Core dB y) (v : Int) : RLk x (up2 y 0 0 v) ∧ RM x (up2 y 0 0 v) := ⟨(h.1.2.1.core hy).stB v, h.2.2.2.2.2.1.cgB (hy.bk.up 0 v)⟩
theorem T_standing {p1 p2 p3 : Int} {dA dB : Dt} (hg : dB GH 0 ≤ 6) (hL : RL0 dA dB) (hk : RLk dA dB) (hR : RR dA dB) (hP : RP dA dB) (hH : RH dA dB) (hB : RB dA dB) (hQ : RQ dA dB) (hN : RN dA dB) (hC : RC dA dB) (hM : RM dA dB) (hV : RV dA dB) : ∃ (r : Int) (dA' dB' : Dt), L_PB_standing p1 p2 p3 dA = some (r, dA') ∧ L_Mo_standing p1 p2 p3 dB = some (r, dB') ∧ RS dA' dB' ∧ RLk dA' dB' ∧ RM dA' dB' := by
  have hE := EA.of hL hk hR hP hH hB hQ hN hC hM hV
  obtain ⟨z0, z1, z2⟩ := hB.1 0 (by decide)
  unfold L_PB_standing L_Mo_standing L_PB_standing_b32 L_Mo_standing_b22
  simp only [e_Bo_has0, e_Mo_isEntry, e_PB_isPlace, e_Mo_isPlace, e_PB_isDay, e_Mo_isDay, bd_e, z0, e_ref]
  have bad : ∃ (r : Int) (dA' dB' : Dt), (some ((-1), (up2 dA 0 0 1)) : Option (Int × Dt)) = some (r, dA') ∧ (some ((-1), (up2 dB 0 0 1)) : Option (Int × Dt)) = some (r, dB') ∧ RS dA' dB' ∧ RLk dA' dB' ∧ RM dA' dB' := ⟨_, _, _, rfl, rfl, RS.of, (hE.st 1).out (Core.rf dB) 1⟩
  by_cases h1 : 0 ≤ p1 ∧ p1 < dB 52 0
  · by_cases h2 : 0 ≤ p2 ∧ p2 ≤ 6
    · by_cases h3 : 0 ≤ p3 ∧ p3 ≤ 9999
      · obtain ⟨e, rfl⟩ : ∃ e : Nat, p1 = (e : Int) := ⟨p1.toNat, by omega⟩
        obtain ⟨n, rfl⟩ : ∃ n : Nat, p2 = (n : Int) := ⟨p2.toNat, by omega⟩
        simp only [if_pos h1, if_pos h2, if_pos (show (0 : Int) ≤ (n : Int) ∧ (n : Int) < 7 by omega), if_pos h3, if_neg n10, if_pos (rfl : (0 : Int) = 0)]
        obtain ⟨W, hW⟩ := law_ex hL hR hP n p3 (by omega) h3
        obtain ⟨x, a1, a2, a3, a4⟩ := entryA_e hW (hE.st 0) e h1.2
        obtain ⟨y, b1, b2, b3, b4, b5⟩ := judgeB_e hg hW hP hH hB hQ hV (Core.rf dB)
        rw [a1, bd_e, b1, bd_e, ck_pos ⟨by omega, by omega⟩, tn_i, b4 e h1.2, e_giv, bd_e]
        refine ⟨_, _, _, rfl, rfl, RS.mk ?_, a2.out b2 0⟩
        rw [a3 0 (by decide) (by decide) (by decide) (by decide) (by decide) (by decide) (by decide) (by decide) (by decide) (by decide) (by decide), up2_s]
      · simp only [if_pos h1, if_pos h2, if_pos (show 0 ≤ p2 ∧ p2 < 7 by omega), if_neg h3, if_neg n10, if_pos (rfl : (0 : Int) = 0)]; exact bad
    · simp only [if_pos h1, if_neg h2, if_neg (show ¬ (0 ≤ p2 ∧ p2 < 7) by omega), if_neg n10, if_pos (rfl : (0 : Int) = 0)]; exact bad
  · simp only [if_neg h1, if_neg n10, if_pos (rfl : (0 : Int) = 0)]; exact bad
theorem T_stands {p1 p2 p3 : Int} {dA dB : Dt} (hg : dB GH 0 ≤ 6) (hL : RL0 dA dB) (hk : RLk dA dB) (hR : RR dA dB) (hP : RP dA dB) (hH : RH dA dB) (hB : RB dA dB) (hQ : RQ dA dB) (hN : RN dA dB) (hC : RC dA dB) (hM : RM dA dB) (hV : RV dA dB) : ∃ (r : Int) (dA' dB' : Dt), L_PB_stands p1 p2 p3 dA = some (r, dA') ∧ L_Mo_stands p1 p2 p3 dB = some (r, dB') ∧ RS dA' dB' ∧ RLk dA' dB' ∧ RM dA' dB' := by
  have hE := EA.of hL hk hR hP hH hB hQ hN hC hM hV
  have h20 := hV.2.1
  unfold L_PB_stands L_Mo_stands L_PB_stands_b31 L_Mo_stands_b22
  simp only [e_Po_hasOffer, e_Mo_isOffer, e_PB_isPlace, e_Mo_isPlace, e_PB_isDay, e_Mo_isDay, bd_e, hV.1, e_ref]
  have bad : ∃ (r : Int) (dA' dB' : Dt), (some ((-1), (up2 dA 0 0 1)) : Option (Int × Dt)) = some (r, dA') ∧ (some ((-1), (up2 dB 0 0 1)) : Option (Int × Dt)) = some (r, dB') ∧ RS dA' dB' ∧ RLk dA' dB' ∧ RM dA' dB' := ⟨_, _, _, rfl, rfl, RS.of, (hE.st 1).out (Core.rf dB) 1⟩
  by_cases h1 : 0 ≤ p1 ∧ p1 < dB 0 87
  · by_cases h2 : 0 ≤ p2 ∧ p2 ≤ 6
    · by_cases h3 : 0 ≤ p3 ∧ p3 ≤ 9999
      · obtain ⟨i, rfl⟩ : ∃ i : Nat, p1 = (i : Int) := ⟨p1.toNat, by omega⟩
        obtain ⟨n, rfl⟩ : ∃ n : Nat, p2 = (n : Int) := ⟨p2.toNat, by omega⟩
        simp only [if_pos h1, if_pos h2, if_pos (show (0 : Int) ≤ (n : Int) ∧ (n : Int) < 7 by omega), if_pos h3, if_neg n10, if_pos (rfl : (0 : Int) = 0)]
        obtain ⟨W, hW⟩ := law_ex hL hR hP n p3 (by omega) h3
        obtain ⟨x, a1, a2, a3, a4⟩ := countEA hW (hE.st 0)
        obtain ⟨u, c1, c2, c3, c4⟩ := countOA hW a2 (i + 1) (by omega) a4
        obtain ⟨y, b1, b2, b3, b4, b5⟩ := judgeB_e hg hW hP hH hB hQ hV (Core.rf dB)
        rw [a1, bd_e, w32_i (show i < 2147483647 by omega), c1, bd_e, b1, bd_e, ck_pos ⟨by omega, by omega⟩, tn_i, b5 i h1.2, e_giv, bd_e]
        refine ⟨_, _, _, rfl, rfl, RS.mk ?_, c2.out b2 0⟩
        rw [c3, a3, up2_s]
      · simp only [if_pos h1, if_pos h2, if_pos (show 0 ≤ p2 ∧ p2 < 7 by omega), if_neg h3, if_neg n10, if_pos (rfl : (0 : Int) = 0)]; exact bad
    · simp only [if_pos h1, if_neg h2, if_neg (show ¬ (0 ≤ p2 ∧ p2 < 7) by omega), if_neg n10, if_pos (rfl : (0 : Int) = 0)]; exact bad
  · simp only [if_neg h1, if_neg n10, if_pos (rfl : (0 : Int) = 0)]; exact bad
/-- the class's sums of a poll -/
theorem pollA {dA dB x : Dt} {place : Nat} {day p4 : Int} {W : Int → Int → Nat → Int} (hW : WW dA dB place day W) (h : EA dA dB x) : ∃ (v : Int) (y : Dt) (z : Int × Dt), L_Po_countEntries (place : Int) day x = some (v, y) ∧ y 49 11 = dB 0 87 ∧ L_Po_countOffers v (if p4 = 0 then 0 else dB 0 87) (place : Int) day y = some (z.1, z.2) ∧ EA dA dB z.2 ∧ z.2 0 = x 0 ∧ ∀ c, c < 4 → z.2 57 c = pV W dB p4 c := by
  obtain ⟨y, a1, a2, a3, a4⟩ := countEA hW h
  have hV := a2.2.2.2.2.2.2
  have h20 := hV.2.1
  by_cases q : p4 = 0
  · obtain ⟨u, c1, c2, c3, c4⟩ := countOA hW a2 0 (by omega) a4
    refine ⟨_, y, (_, u), a1, hV.1, by rw [if_pos q]; exact c1, c2, c3.trans a3, fun c hc => ?_⟩
    show u 57 c = _
    rw [c4 c hc]; unfold pV; rw [if_pos q]; rfl
  · obtain ⟨m, hm⟩ : ∃ m : Nat, dB 0 87 = (m : Int) := ⟨(dB 0 87).toNat, by omega⟩
    obtain ⟨u, c1, c2, c3, c4⟩ := countOA hW a2 m (by omega) a4
    refine ⟨_, y, (_, u), a1, hV.1, by rw [if_neg q, hm]; exact c1, c2, c3.trans a3, fun c hc => ?_⟩
    show u 57 c = _
    rw [c4 c hc]; unfold pV; rw [if_neg q, hm, tn_i]
theorem T_poll {p1 p2 p3 p4 : Int} {dA dB : Dt} (hg : dB GH 0 ≤ 6) (hL : RL0 dA dB) (hk : RLk dA dB) (hR : RR dA dB) (hP : RP dA dB) (hH : RH dA dB) (hB : RB dA dB) (hQ : RQ dA dB) (hN : RN dA dB) (hC : RC dA dB) (hM : RM dA dB) (hV : RV dA dB) : ∃ (r : Int) (dA' dB' : Dt), L_PB_poll p1 p2 p3 p4 dA = some (r, dA') ∧ L_Mo_poll p1 p2 p3 p4 dB = some (r, dB') ∧ RS dA' dB' ∧ RLk dA' dB' ∧ RM dA' dB' := by
  have hE := EA.of hL hk hR hP hH hB hQ hN hC hM hV
  unfold L_PB_poll L_Mo_poll L_PB_poll_b27 L_PB_poll_b72 L_Mo_poll_b21
  simp only [e_PB_isCandidate, e_Mo_isCandidate, e_PB_isPlace, e_Mo_isPlace, e_PB_isDay, e_Mo_isDay, bd_e, e_ref]
  have bad : ∃ (r : Int) (dA' dB' : Dt), (some ((-1), (up2 dA 0 0 1)) : Option (Int × Dt)) = some (r, dA') ∧ (some ((-1), (up2 dB 0 0 1)) : Option (Int × Dt)) = some (r, dB') ∧ RS dA' dB' ∧ RLk dA' dB' ∧ RM dA' dB' := ⟨_, _, _, rfl, rfl, RS.of, (hE.st 1).out (Core.rf dB) 1⟩
  by_cases h1 : 0 ≤ p1 ∧ p1 ≤ 3
  · by_cases h2 : 0 ≤ p2 ∧ p2 ≤ 6
    · by_cases h3 : 0 ≤ p3 ∧ p3 ≤ 9999
      · obtain ⟨i, rfl⟩ : ∃ i : Nat, p1 = (i : Int) := ⟨p1.toNat, by omega⟩
        obtain ⟨n, rfl⟩ : ∃ n : Nat, p2 = (n : Int) := ⟨p2.toNat, by omega⟩
        simp only [if_pos h1, if_pos (show (0 : Int) ≤ (i : Int) ∧ (i : Int) < 4 by omega), if_pos h2, if_pos (show (0 : Int) ≤ (n : Int) ∧ (n : Int) < 7 by omega), if_pos h3, if_neg n10, if_pos (rfl : (0 : Int) = 0)]
        obtain ⟨W, hW⟩ := law_ex hL hR hP n p3 (by omega) h3
        obtain ⟨v, x, z, a1, a2, a3, a4, a5, a6⟩ := pollA (p4 := p4) hW (hE.st 0)
        obtain ⟨y, b1, b2, b3⟩ := countB_e (p3 := p4) hg hW hP hH hB hQ hV (Core.rf dB)
        rw [a1, bd_e, a2, b1, bd_e]
        have ci : (0 : Int) ≤ (i : Int) ∧ (i : Int) < 4 := by omega
        rw [ck_pos ci, tn_i, b3 i (by omega), e_giv, bd_e]
        have hA : (if p4 = 0 then bd (L_Po_countOffers v 0 (n : Int) p3 x) (fun r2_ d1_ => ck ((0 : Int) ≤ (i : Int) ∧ (i : Int) < 4) (some ((d1_ 57 i), d1_))) else bd (L_Po_countOffers v (dB 0 87) (n : Int) p3 x) (fun r2_ d1_ => ck ((0 : Int) ≤ (i : Int) ∧ (i : Int) < 4) (some ((d1_ 57 i), d1_)))) = some (pV W dB p4 i, z.2) := by
          by_cases q : p4 = 0
          · rw [if_pos q] at a3
            rw [if_pos q, a3, bd_e, ck_pos ci, a6 i (by omega)]
          · rw [if_neg q] at a3
            rw [if_neg q, a3, bd_e, ck_pos ci, a6 i (by omega)]
        refine ⟨_, _, _, hA, rfl, RS.mk ?_, a4.out b2 0⟩
        rw [a5, up2_s]
      · simp only [if_pos h1, if_pos (show 0 ≤ p1 ∧ p1 < 4 by omega), if_pos h2, if_pos (show 0 ≤ p2 ∧ p2 < 7 by omega), if_neg h3, if_neg n10, if_pos (rfl : (0 : Int) = 0)]; exact bad
    · simp only [if_pos h1, if_pos (show 0 ≤ p1 ∧ p1 < 4 by omega), if_neg h2, if_neg (show ¬ (0 ≤ p2 ∧ p2 < 7) by omega), if_neg n10, if_pos (rfl : (0 : Int) = 0)]; exact bad
  · simp only [if_neg h1, if_neg (show ¬ (0 ≤ p1 ∧ p1 < 4) by omega), if_neg n10, if_pos (rfl : (0 : Int) = 0)]; exact bad
