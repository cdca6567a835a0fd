/-! SUMS: the reference follows -/
theorem sumB_lp {f : Nat → Int} {n N s : Nat} {y0 : Dt} (hN : tN f n N) (B : Nat) (hB : B ≤ 3000) : ∀ (fu dl dp t : Nat) (times : Bool) (op : Int) (acc : List (Int × Int)) (y : Dt) (g : Nat), dp + dl = 6 → (op = 0 ∨ op = 43 ∨ op = 45) → PB f n N s y0 y t acc → y 45 dp = op → y 46 dp = (if times = true then 42 else 0) → s + acc.length + hO times op ≤ B + t → N - t < fu → N - t < g → ouS f n N s y0 g ((dp : Int), 1, y) dp y (sS (KK f n) (VV f n) fu dl t times op acc) := by
  intro fu
  induction fu with
  | zero => intro dl dp t times op acc y g _ _ _ _ _ _ h _; omega
  | succ fu ih =>
    intro dl dp t times op acc y g hd hop h w5 w6 hl hfu hg
    have htN : t ≤ N := h.2.2.2.2
    have hn := hN.1
    have hn2 := hN.2.1
    have hv := vOk_e f n hN.2.2.2
    have n10 : ¬ ((1 : Int) = 0) := by decide
    have A := atomB hN (fun t' a => sS (KK f n) (VV f n) fu (dl - 1) t' false 0 a) hd h (by omega) hg
      (by
        intro d0 y1 g1 p z1 z2 hg1
        have : t + 1 ≤ N := p.2.2.2.2
        have h0 : hO false 0 = 0 := rfl
        exact ih (dl - 1) (dp + 1) (t + 1) false 0 acc y1 g1 (by omega) (Or.inl rfl) p z1 (by rw [if_neg (by decide)]; exact z2) (by rw [h0]; omega) (by omega) hg1)
    simp only [sS]
    cases ha : atmS (KK f n) (VV f n) (fun t' a => sS (KK f n) (VV f n) fu (dl - 1) t' false 0 a) dl t acc with
    | inr e => rw [ha] at A; exact A
    | inl r =>
      rw [ha] at A
      obtain ⟨y1, g1, A1, A2, A3, A4⟩ := A
      obtain ⟨o1, o2⟩ := atm_ok _ _ hv fu dl t acc r ha
      rw [Sum.elim_inl]
      refine ouS.tr (g1 := g1) (st1 := ((dp : Int), 0, y1)) (yw1 := y1) ?_ A1 (fun j hj => A3 j (by omega))
      obtain ⟨g2, rfl⟩ : ∃ g2, g1 = g2 + 1 := ⟨g1 - 1, by omega⟩
      have hr1 : r.1 ≤ N := A2.2.2.2.2
      have v5 : y1 45 dp = op := by rw [(A3 dp (by omega)).1]; exact w5
      have v6 : y1 46 dp = (if times = true then 42 else 0) := by rw [(A3 dp (by omega)).2]; exact w6
      have cd8 : (0 : Int) ≤ (dp : Int) ∧ (dp : Int) < 8 := by omega
      have hO1 : hO times op = (if times = true then 1 else 0) + (if op = 0 then 0 else 1) := rfl
      obtain ⟨a1l, ha1l⟩ : ∃ l, l = (if times = true then r.2 ++ [((42 : Int), (0 : Int))] else r.2) := ⟨_, rfl⟩
      have len1 : a1l.length = r.2.length + (if times = true then 1 else 0) := by
        rw [ha1l]; cases times <;> simp
      have star : ∃ y2, stB ((dp : Int), 0, y1) = L_Mo_sum_b153 (dp : Int) 0 y2 ∧ PB f n N s y0 y2 r.1 a1l ∧ y2 45 = y1 45 ∧ y2 46 = y1 46 := by
        have e0 : stB ((dp : Int), 0, y1) = (if y1 46 dp = 0 then L_Mo_sum_b153 (dp : Int) 0 y1 else bd (L_Mo_puts 42 0 y1) (fun r62_ d61_ => L_Mo_sum_b153 (dp : Int) 0 d61_)) := by
          show L_Mo_sum_y18 (dp : Int) 0 y1 = _
          unfold L_Mo_sum_y18
          rw [if_pos A2.2.1.1, if_pos rfl, ck_pos cd8, tn_i]
        rw [e0, v6]
        cases times
        · rw [if_neg (by decide)] at ha1l
          rw [if_pos (by decide)]
          exact ⟨y1, rfl, by rw [ha1l]; exact A2, rfl, rfl⟩
        · rw [if_pos rfl] at ha1l hO1
          rw [if_pos rfl, if_neg (by decide)]
          obtain ⟨y2, b1, b2, b3, b4⟩ := A2.pt (by omega) 42 0
          rw [b1, bd_e]
          exact ⟨y2, rfl, by rw [ha1l]; exact b2, b3, b4⟩
      obtain ⟨y2, s1, s2, s3, s4⟩ := star
      rw [← ha1l]
      have q1 := s2.uw 46 dp 0 (Or.inr rfl)
      by_cases k42 : KK f n r.1 = 42
      · rw [if_pos k42]
        have hlt := hN.lt hr1 (show ¬ KK f n r.1 = 0 by omega)
        have q2 := q1.uw 46 dp 42 (Or.inr rfl)
        obtain ⟨y3, c1, c2, c3, c4⟩ := q2.nx hN (by omega)
        have hs : stB ((dp : Int), 0, y1) = some (Sum.inl ((dp : Int), 1, y3)) := by
          rw [s1]
          unfold L_Mo_sum_b153
          rw [ck_pos cd8, tn_i, (q1.s1 (c := 42) (by omega) k42).1, bd_e, if_neg n10, ck_pos cd8, c1, bd_e]
        have e1 : hO true op = 1 + (if op = 0 then 0 else 1) := rfl
        refine ouS.tr (ih dl dp (r.1 + 1) true op a1l y3 g2 hd hop c2 ?_ ?_ (by rw [e1]; omega) (by omega) (by omega)) (lp_l g2 hs) (fun j hj => ?_)
        · rw [c3, up2_K _ _ _ (by decide), up2_K _ _ _ (by decide), s3]; exact v5
        · rw [c4, up2_s, if_pos rfl]
        · rw [c3, c4, up2_K _ _ _ (by decide), up2_K _ _ _ (by decide), up2_j _ _ _ (by omega), up2_j _ _ _ (by omega), s3, s4]
          exact ⟨rfl, rfl⟩
      · rw [if_neg k42]
        obtain ⟨a2l, ha2l⟩ : ∃ l, l = a1l ++ (if op = 0 then [] else [(op, (0 : Int))]) := ⟨_, rfl⟩
        have len2 : a2l.length = a1l.length + (if op = 0 then 0 else 1) := by
          rw [ha2l, List.length_append]; by_cases z : op = 0 <;> simp [z]
        rw [← ha2l]
        have plus : ∃ y3, L_Mo_sum_b153 (dp : Int) 0 y2 = L_Mo_sum_b206 (dp : Int) 0 y3 ∧ PB f n N s y0 y3 r.1 a2l ∧ y3 45 = y1 45 ∧ (∀ j, j < dp → y3 46 j = y1 46 j) ∧ y3 46 dp = 0 := by
          have w46 : ∀ j, j < dp → up2 y2 46 dp 0 46 j = y1 46 j := fun j hj => by rw [up2_j _ _ _ (by omega), s4]
          have w45 : up2 y2 46 dp 0 45 = y1 45 := by rw [up2_K _ _ _ (by decide), s3]
          have e0 : L_Mo_sum_b153 (dp : Int) 0 y2 = (if op = 0 then L_Mo_sum_b206 (dp : Int) 0 (up2 y2 46 dp 0) else bd (L_Mo_puts op 0 (up2 y2 46 dp 0)) (fun r36_ d35_ => L_Mo_sum_b206 (dp : Int) 0 d35_)) := by
            unfold L_Mo_sum_b153
            rw [ck_pos cd8, tn_i, q1.s0 (c := 42) (by omega) k42, bd_e, if_pos rfl, ck_pos cd8, w45, v5, ck_pos cd8]
          rw [e0]
          by_cases z : op = 0
          · rw [if_pos z]
            rw [if_pos z, List.append_nil] at ha2l
            exact ⟨_, rfl, by rw [ha2l]; exact q1, w45, w46, up2_s _ _ _ _⟩
          · rw [if_neg z]
            rw [if_neg z] at ha2l hO1
            obtain ⟨y3, b1, b2, b3, b4⟩ := q1.pt (by omega) op 0
            rw [b1, bd_e]
            exact ⟨y3, rfl, by rw [ha2l]; exact b2, by rw [b3]; exact w45, fun j hj => by rw [b4]; exact w46 j hj, by rw [b4]; exact up2_s _ _ _ _⟩
        obtain ⟨y3, p1, p2, p3, p4, p5⟩ := plus
        have u1 := p2.uw 45 dp 0 (Or.inl rfl)
        by_cases kp : KK f n r.1 = 43 ∨ KK f n r.1 = 45
        · rw [if_pos kp]
          have hlt := hN.lt hr1 (show ¬ KK f n r.1 = 0 by omega)
          have v37 : up2 y3 45 dp 0 0 37 = KK f n r.1 := by
            rcases kp with z | z
            · rw [(u1.s1 (c := 43) (by omega) z).2, z]
            · rw [(u1.s1 (c := 45) (by omega) z).2, z]
          have u2' := u1.uw 45 dp (KK f n r.1) (Or.inl rfl)
          obtain ⟨y4, c1, c2, c3, c4⟩ := u2'.nx hN (by omega)
          have e231 : L_Mo_sum_b231 (dp : Int) (up2 y3 45 dp 0) = some (Sum.inl ((dp : Int), 1, y4)) := by
            unfold L_Mo_sum_b231
            rw [ck_pos cd8, tn_i, v37, c1, bd_e]
          have hs : stB ((dp : Int), 0, y1) = some (Sum.inl ((dp : Int), 1, y4)) := by
            rw [s1, p1]
            unfold L_Mo_sum_b206
            rw [ck_pos cd8, tn_i]
            by_cases z : KK f n r.1 = 43
            · rw [(u1.s1 (c := 43) (by omega) z).1, bd_e, if_neg n10, e231]
            · rw [u1.s0 (c := 43) (by omega) z, bd_e, if_pos rfl, (u1.s1 (c := 45) (by omega) (by omega)).1, bd_e, if_neg n10, e231]
          have e1 : hO false (KK f n r.1) = 1 := by unfold hO; rw [if_neg (show ¬ KK f n r.1 = 0 by omega)]; rfl
          refine ouS.tr (ih dl dp (r.1 + 1) false (KK f n r.1) a2l y4 g2 hd (Or.inr kp) c2 ?_ ?_ (by rw [e1]; omega) (by omega) (by omega)) (lp_l g2 hs) (fun j hj => ?_)
          · rw [c3, up2_s]
          · rw [c4, up2_K _ _ _ (by decide), up2_K _ _ _ (by decide), if_neg (by decide)]; exact p5
          · rw [c3, c4, up2_j _ _ _ (by omega), up2_j _ _ _ (by omega), up2_K _ _ _ (by decide), up2_K _ _ _ (by decide), p3]
            exact ⟨rfl, p4 j hj⟩
        · rw [if_neg kp]
          unfold ouS
          rw [Sum.elim_inl]
          have e206 : ∀ (o : Option ((Int × Int × Dt) ⊕ (Dt ⊕ Dt ⊕ Dt ⊕ Dt ⊕ Dt))), (if (dp : Int) = 0 then some (Sum.inr (Sum.inr (Sum.inr (Sum.inr (Sum.inl (up2 y3 45 dp 0)))))) else bd (L_Mo_want 41 (up2 y3 45 dp 0)) (fun r20_ d19_ => if r20_ = 0 then some (Sum.inr (Sum.inr (Sum.inr (Sum.inr (Sum.inr (d19_)))))) else some (Sum.inl ((w32 ((dp : Int) + (-1))), 0, d19_)))) = o → stB ((dp : Int), 0, y1) = o := by
            intro o ho
            rw [s1, p1]
            unfold L_Mo_sum_b206
            rw [ck_pos cd8, tn_i, u1.s0 (c := 43) (by omega) (fun z => kp (Or.inl z)), bd_e, if_pos rfl, u1.s0 (c := 45) (by omega) (fun z => kp (Or.inr z)), bd_e, if_pos rfl]
            exact ho
          by_cases d0 : dp = 0
          · rw [if_pos d0]
            have hs := e206 _ (by rw [if_pos (by omega)])
            exact ⟨_, lp_r g2 hs, u1⟩
          · rw [if_neg d0]
            by_cases k41 : KK f n r.1 = 41
            · rw [if_pos k41]
              have hlt := hN.lt hr1 (show ¬ KK f n r.1 = 0 by omega)
              obtain ⟨y4, c1, c2, c3, c4⟩ := u1.nx hN (by omega)
              have ew : L_Mo_want 41 (up2 y3 45 dp 0) = some (1, y4) := by
                unfold L_Mo_want
                rw [(u1.s1 (c := 41) (by omega) k41).1, bd_e, if_neg n10, c1, bd_e]
              have hs := e206 (some (Sum.inl (((dp - 1 : Nat) : Int), 0, y4))) (by rw [if_neg (by omega), ew, bd_e, if_neg n10, w32_s (x := (dp : Int) + (-1)) (by omega) (by omega), show (dp : Int) + (-1) = ((dp - 1 : Nat) : Int) by omega])
              refine ⟨y4, g2, lp_l g2 hs, c2, fun j hj => ?_, by omega⟩
              rw [c3, c4, up2_j _ _ _ (by omega), up2_K _ _ _ (by decide), p3]
              exact ⟨rfl, p4 j hj⟩
            · rw [if_neg k41]
              obtain ⟨y4, c1, c2⟩ := u1.fl 2
              have ew : L_Mo_want 41 (up2 y3 45 dp 0) = some (0, y4) := by
                unfold L_Mo_want
                rw [u1.s0 (c := 41) (by omega) k41, bd_e, if_pos rfl, c1, bd_e]
              have hs := e206 _ (by rw [if_neg (by omega), ew, bd_e, if_pos rfl])
              refine ⟨_, y4, lp_r g2 hs, ?_, c2⟩
              unfold fiB
              rw [smr_, smr_, smr_, smr_, u0_q]
/-- the reference's sum, whole -/
theorem sum_e {f : Nat → Int} {n N s t : Nat} {y0 y : Dt} (hN : tN f n N) (h : PB f n N s y0 y t []) (B : Nat) (hB : B ≤ 3000) (hs : s ≤ B + t) : ∃ r y', L_Mo_sum y = some (r, y') ∧ Sum.elim (fun q => r = 1 ∧ PB f n N s y0 y' q.1 q.2) (fun e => r = 0 ∧ PBE f n s y0 y' e) (sS (KK f n) (VV f n) 601 6 t false 0 []) := by
  have hn := hN.1
  have hn2 := hN.2.1
  have p := (h.uw 45 0 0 (Or.inl rfl)).uw 46 0 0 (Or.inr rfl)
  have h0 : hO false 0 = 0 := rfl
  have o := sumB_lp hN B hB 601 6 0 t false 0 [] _ FU (by omega) (Or.inl rfl) p (by rw [up2_K _ _ _ (by decide), up2_s]) (by rw [up2_s, if_neg (by decide)]) (by rw [h0]; show s + 0 + 0 ≤ B + t; omega) (by omega) (by show N - t < 1000000; omega)
  have e0 : L_Mo_sum y = lb (lpF stB FU (((0 : Nat) : Int), 1, up2 (up2 y 45 0 0) 46 0 0)) fiB := rfl
  rw [e0]
  cases hr : sS (KK f n) (VV f n) 601 6 t false 0 [] with
  | inl q =>
    rw [hr] at o
    unfold ouS at o
    rw [Sum.elim_inl, if_pos rfl] at o
    obtain ⟨y', a, b⟩ := o
    refine ⟨1, y', ?_, rfl, b⟩
    rw [a, lb_e]
    unfold fiB
    rw [smr_, smr_, smr_, sml_, u0_q]
  | inr e =>
    rw [hr] at o
    obtain ⟨ρ, y', a, b, c⟩ := (show flB f n s y0 FU _ e from o)
    refine ⟨0, y', ?_, rfl, c⟩
    rw [a, lb_e]; exact b
