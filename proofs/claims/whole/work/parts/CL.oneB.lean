/-! TESTS: the reference's ONE -/
theorem one_e {f : Nat → Int} {n N O B t k s : Nat} {y : Dt} (hN : tN f n N) (hB : B ≤ 3000) (hO1 : O ≤ 1200) (h : QB f n N O B y t k s) (b : Bool) : ∃ r y', L_Mo_one (b2i b) y = some (r, y') ∧ Sum.elim (fun q => r = 1 ∧ ∃ s', s ≤ s' ∧ QB f n N O B y' q.1 (k + 1) s' ∧ onesR y' k (b, q.2) ∧ mG k s y y') (fun e => r = 0 ∧ QE f n y' e ∧ mG k s y y') (oneS (KK f n) (VV f n) t) := by
  have hv := vOk_e f n hN.2.2.2
  have n10 : ¬ ((1 : Int) = 0) := by decide
  have hNn := hN.1
  have hn6 := hN.2.1
  obtain ⟨htN, hk3, hsB⟩ := h.2.2.2.1
  have h43 : y 0 43 = (k : Int) := h.2.2.1.1
  have ckk : (0 : Int) ≤ (k : Int) ∧ (k : Int) < 1500 := by omega
  obtain ⟨t1, ht1⟩ : ∃ t1, t1 = (if KK f n t = 26 then t + 1 else t) := ⟨_, rfl⟩
  have hle : t ≤ t1 := by rw [ht1]; split <;> omega
  obtain ⟨yb, hyb⟩ : ∃ yb, yb = up2 (up2 y 42 k (b2i b)) 41 k (b2i (decide (KK f n t = 26))) := ⟨_, rfl⟩
  have qa := h.uc 42 k (b2i b) (by decide)
  have qb : QB f n N O B yb t k s := by rw [hyb]; exact qa.uc 41 k _ (by decide)
  have gb : mG k s y yb := by rw [hyb]; exact ((mG.rf k s y).uc 42 k _ (by decide) (by omega)).uc 41 k _ (by decide) (by omega)
  have b42 : yb 42 k = b2i b := by rw [hyb, up2_K _ _ _ (by decide), up2_s]
  have b41 : yb 41 k = b2i (decide (KK f n t = 26)) := by rw [hyb, up2_s]
  have not : ∃ yc, L_Mo_one (b2i b) y = L_Mo_one_b37 (k : Int) yc ∧ QB f n N O B yc t1 k s ∧ nxF yb yc := by
    unfold L_Mo_one
    rw [lt_e, h43, ck_pos ckk, tn_i, qa.ky hN 10, bd_e, ck_pos ckk, ck_pos ckk]
    by_cases kk : KK f n t = 26
    · rw [decide_eq_true kk] at hyb
      obtain ⟨yc, c1, c2, c3⟩ := qb.nx hN (by omega)
      rw [if_pos ((kB_i _).2.2.2.2.2.2 kk), up2_s, if_neg n10, show (1 : Int) = b2i true from rfl, ← hyb, c1, bd_e]
      rw [if_pos kk] at ht1
      exact ⟨yc, rfl, by rw [ht1]; exact c2, c3⟩
    · rw [decide_eq_false kk] at hyb
      rw [if_neg (fun z => kk ((kB_i _).2.2.2.2.2.1 z)), up2_s, if_pos rfl, show (0 : Int) = b2i false from rfl, ← hyb]
      rw [if_neg kk] at ht1
      exact ⟨yb, rfl, by rw [ht1]; exact qb, nxF.rf yb⟩
  obtain ⟨yc, s1, qc, nc⟩ := not
  rw [s1]
  have gc : mG k s y yc := gb.tr (nc.g k s)
  obtain ⟨yd, hyd⟩ : ∃ yd, yd = up2 yc 37 k (s : Int) := ⟨_, rfl⟩
  have qd : QB f n N O B yd t1 k s := by rw [hyd]; exact qc.uc 37 k _ (by decide)
  have gd : mG k s y yd := by rw [hyd]; exact gc.uc 37 k _ (by decide) (by omega)
  have d42 : yd 42 k = b2i b := by rw [hyd, up2_K _ _ _ (by decide), nc.1 42 (by decide)]; exact b42
  have d41 : yd 41 k = b2i (decide (KK f n t = 26)) := by rw [hyd, up2_K _ _ _ (by decide), nc.1 41 (by decide)]; exact b41
  have d37 : yd 37 k = (s : Int) := by rw [hyd, up2_s]
  obtain ⟨r, ye, e1, e2⟩ := sum_q hN hB qd
  unfold L_Mo_one_b37 oneS
  rw [← ht1, ck_pos ckk, tn_i, qc.2.2.1.2, ← hyd, e1, bd_e]
  cases h1 : sS (KK f n) (VV f n) 601 6 t1 false 0 [] with
  | inr e =>
    rw [h1] at e2
    obtain ⟨rfl, e3, e4⟩ := e2
    rw [if_pos rfl, Sum.elim_inr]
    exact ⟨0, ye, rfl, rfl, e3, gd.tr (e4.g k)⟩
  | inl q =>
    rw [h1] at e2
    obtain ⟨rfl, qe, me, se⟩ := e2
    obtain ⟨a1, a2, a3⟩ := sS_top _ _ hv h1
    have ge : mG k s y ye := gd.tr (me.g k)
    obtain ⟨yf, hyf⟩ : ∃ yf, yf = up2 ye 38 k ((s + q.2.length : Nat) : Int) := ⟨_, rfl⟩
    have qf : QB f n N O B yf q.1 k (s + q.2.length) := by rw [hyf]; exact qe.uc 38 k _ (by decide)
    have gf : mG k s y yf := by rw [hyf]; exact ge.uc 38 k _ (by decide) (by omega)
    have hc : ∀ c, 37 ≤ c → c ≤ 42 → c ≠ 38 → yf c = yd c := fun c z1 z2 z3 => by rw [hyf, up2_K _ _ _ z3]; exact me.1 c (by omega) (by omega) (by omega) (by omega) (by omega)
    have f38 : yf 38 k = ((s + q.2.length : Nat) : Int) := by rw [hyf, up2_s]
    have fsg : segP (yf 43) (yf 44) s q.2.length = q.2 := by rw [hyf, up2_K _ _ _ (by decide), up2_K _ _ _ (by decide)]; exact se
    rw [if_neg n10, ck_pos ckk, qe.2.2.1.2, ← hyf, Sum.elim_inl]
    try dsimp only
    by_cases c : KK f n q.1 = 60 ∨ KK f n q.1 = 61 ∨ KK f n q.1 = 62
    · rw [if_pos c]
      have v37 : yf 0 37 = KK f n q.1 := by
        rcases c with w | w | w
        · rw [(qf.s1 (c := 60) (by omega) w).2, w]
        · rw [(qf.s1 (c := 61) (by omega) w).2, w]
        · rw [(qf.s1 (c := 62) (by omega) w).2, w]
      have pick : bd (L_Mo_isSign 60 yf) (fun r25_ d24_ => if r25_ = 0 then bd (L_Mo_isSign 62 d24_) (fun r30_ d29_ => if r30_ = 0 then bd (L_Mo_isSign 61 d29_) (fun r35_ d34_ => if r35_ = 0 then bd (L_Mo_fails 2 d34_) (fun r40_ d39_ => some (r40_, d39_)) else L_Mo_one_b99 (k : Int) d34_) else L_Mo_one_b99 (k : Int) d29_) else L_Mo_one_b99 (k : Int) d24_) = L_Mo_one_b99 (k : Int) yf := by
        rcases c with w | w | w
        · rw [(qf.s1 (c := 60) (by omega) w).1, bd_e, if_neg n10]
        · rw [qf.s0 (c := 60) (by omega) (by omega), bd_e, if_pos rfl, qf.s0 (c := 62) (by omega) (by omega), bd_e, if_pos rfl, (qf.s1 (c := 61) (by omega) w).1, bd_e, if_neg n10]
        · rw [qf.s0 (c := 60) (by omega) (by omega), bd_e, if_pos rfl, (qf.s1 (c := 62) (by omega) w).1, bd_e, if_neg n10]
      rw [pick]
      obtain ⟨yg, hyg⟩ : ∃ yg, yg = up2 yf 40 k (KK f n q.1) := ⟨_, rfl⟩
      have qg : QB f n N O B yg q.1 k (s + q.2.length) := by rw [hyg]; exact qf.uc 40 k _ (by decide)
      have gg : mG k s y yg := by rw [hyg]; exact gf.uc 40 k _ (by decide) (by omega)
      obtain ⟨yh, c1, qh, nh⟩ := qg.nx hN (by omega)
      have hlt := qh.2.2.2.1.1
      obtain ⟨r2, yi, i1, i2⟩ := sum_q hN hB qh
      unfold L_Mo_one_b99
      rw [ck_pos ckk, tn_i, v37, ← hyg, c1, bd_e, i1, bd_e]
      cases h2 : sS (KK f n) (VV f n) 601 6 (q.1 + 1) false 0 [] with
      | inr e =>
        rw [h2] at i2
        obtain ⟨rfl, i3, i4⟩ := i2
        rw [if_pos rfl, Sum.elim_inr]
        exact ⟨0, yi, rfl, rfl, i3, (gg.tr (nh.g k s)).tr ((i4.mo (by omega)).g k)⟩
      | inl u =>
        rw [h2] at i2
        obtain ⟨rfl, qi, mi, si⟩ := i2
        obtain ⟨b1, b2, b3⟩ := sS_top _ _ hv h2
        have gi : mG k s y yi := (gg.tr (nh.g k s)).tr ((mi.mo (by omega)).g k)
        rw [if_neg n10, ck_pos ckk, qi.2.2.1.2, qi.2.2.1.1, w32_i (show k < 2147483647 by omega), Sum.elim_inl]
        have hu1 := qi.2.2.2.1
        refine ⟨1, _, rfl, rfl, s + q.2.length + u.2.length, by omega, ?_, ?_, (gi.uc 39 k _ (by decide) (by omega)).uf 43 _ (by omega)⟩
        · obtain ⟨j1, j2, ⟨j3, j3'⟩, ⟨j4, j4', j4''⟩, j5⟩ := qi
          refine ⟨j1.cg (fun j hj => by rw [up2_j _ _ _ (by omega), up2_K _ _ _ (by decide)]) (by rw [up2_K _ _ _ (by decide), up2_K _ _ _ (by decide)]), ⟨by rw [up2_j _ _ _ (by decide), up2_K _ _ _ (by decide)]; exact j2.1, by rw [up2_j _ _ _ (by decide), up2_K _ _ _ (by decide)]; exact j2.2⟩, ⟨up2_s _ _ _ _, by rw [up2_j _ _ _ (by decide), up2_K _ _ _ (by decide)]; exact j3'⟩, ⟨j4, by omega, j4''⟩, fun i hi => ?_⟩
          rw [up2_K _ _ _ (by decide)]
          by_cases z : i = k
          · rw [z, up2_s]; omega
          · rw [up2_j _ _ _ z]; exact j5 i (by omega)
        · have hc2 : ∀ c, 37 ≤ c → c ≤ 42 → c ≠ 39 → (up2 (up2 yi 39 k ((s + q.2.length + u.2.length : Nat) : Int)) 0 43 ((k + 1 : Nat) : Int)) c = yg c := fun c z1 z2 z3 => by
            rw [up2_K _ _ _ (by omega), up2_K _ _ _ z3, mi.1 c (by omega) (by omega) (by omega) (by omega) (by omega)]; exact nh.1 c (by omega)
          have hc3 : ∀ c, 37 ≤ c → c ≤ 42 → c ≠ 40 → yg c = yf c := fun c z1 z2 z3 => by rw [hyg, up2_K _ _ _ z3]
          refine ⟨?_, ?_, ?_, s, q.2.length, u.2.length, ?_, ?_, ?_, by omega, ?_, ?_⟩
          · rw [hc2 42 (by decide) (by decide) (by decide), hc3 42 (by decide) (by decide) (by decide), hc 42 (by decide) (by decide) (by decide)]; exact d42
          · rw [hc2 41 (by decide) (by decide) (by decide), hc3 41 (by decide) (by decide) (by decide), hc 41 (by decide) (by decide) (by decide)]; exact d41
          · rw [hc2 40 (by decide) (by decide) (by decide), hyg, up2_s]
          · rw [hc2 37 (by decide) (by decide) (by decide), hc3 37 (by decide) (by decide) (by decide), hc 37 (by decide) (by decide) (by decide)]; exact d37
          · rw [hc2 38 (by decide) (by decide) (by decide), hc3 38 (by decide) (by decide) (by decide)]; exact f38
          · rw [up2_K _ _ _ (by decide), up2_s]
          · rw [up2_K _ _ _ (by decide), up2_K _ _ _ (by decide), up2_K _ _ _ (by decide), up2_K _ _ _ (by decide)]
            rw [segP_cg (yf 43) (yf 44) (yi 43) (yi 44) q.2.length s (fun j _ hj => ?_)]
            · exact fsg
            · rw [(mi.2.2 j hj).1, (mi.2.2 j hj).2, nh.1 43 (by decide), nh.1 44 (by decide), hyg, up2_K _ _ _ (by decide), up2_K _ _ _ (by decide)]
              exact ⟨rfl, rfl⟩
          · rw [up2_K _ _ _ (by decide), up2_K _ _ _ (by decide), up2_K _ _ _ (by decide), up2_K _ _ _ (by decide)]
            exact si
    · rw [if_neg c, qf.s0 (c := 60) (by omega) (by omega), bd_e, if_pos rfl, qf.s0 (c := 62) (by omega) (by omega), bd_e, if_pos rfl, qf.s0 (c := 61) (by omega) (by omega), bd_e, if_pos rfl]
      obtain ⟨yg, c1, c2, c3⟩ := qf.fl 2
      rw [c1, bd_e]
      exact ⟨0, yg, rfl, rfl, c2, gf.tr (c3 k s)⟩
/-! TESTS: the reference's loop -/
theorem testB_lp {f : Nat → Int} {n N O B : Nat} (hN : tN f n N) (hB : B ≤ 3000) (hO1 : O ≤ 1200) : ∀ (fu t : Nat) (b : Bool) (k s : Nat) (y : Dt) (g : Nat), QB f n N O B y t k s → N - t < fu → fu ≤ g → ∃ r1 y1 r y', L_Mo_one (b2i b) y = some (r1, y1) ∧ lpF (fun q : Int × Dt => L_Mo_test_y6 q.1 q.2) g (r1, y1) = some (r, y') ∧ Sum.elim (fun q => r = 1 ∧ ∃ s', s ≤ s' ∧ QB f n N O B y' q.1 (k + q.2.length) s' ∧ onesL y' k q.2 ∧ mG k s y y') (fun e => r = 0 ∧ QE f n y' e ∧ mG k s y y') (tsS (KK f n) (VV f n) fu t b) := by
  intro fu
  induction fu with
  | zero => intro t b k s y g _ h _; omega
  | succ fu ih =>
    intro t b k s y g h hfu hg
    obtain ⟨g', rfl⟩ : ∃ g', g = g' + 1 := ⟨g - 1, by omega⟩
    have n10 : ¬ ((1 : Int) = 0) := by decide
    have hv := vOk_e f n hN.2.2.2
    obtain ⟨r1, y1, e1, e2⟩ := one_e hN hB hO1 h b
    simp only [tsS]
    cases h1 : oneS (KK f n) (VV f n) t with
    | inr e =>
      rw [h1] at e2
      obtain ⟨rfl, e3, e4⟩ := e2
      rw [Sum.elim_inr]
      refine ⟨0, y1, 0, y1, e1, lp_r g' ?_, rfl, e3, e4⟩
      show L_Mo_test_y6 0 y1 = _
      unfold L_Mo_test_y6
      rw [if_pos rfl]
    | inl q =>
      rw [h1] at e2
      obtain ⟨rfl, s1, le1, q1, o1, m1⟩ := e2
      obtain ⟨w1, _, _⟩ := oneS_ok _ _ hv h1
      rw [Sum.elim_inl]
      try dsimp only
      have hq1 := q1.2.2.2.1.1
      have go : ∀ b' : Bool, (KK f n q.1 = (if b' = true then 24 else 25)) → ∃ r1' y1' r y', L_Mo_one (b2i b) y = some (r1', y1') ∧ lpF (fun q : Int × Dt => L_Mo_test_y6 q.1 q.2) (g' + 1) (r1', y1') = some (r, y') ∧ Sum.elim (fun q => r = 1 ∧ ∃ s', s ≤ s' ∧ QB f n N O B y' q.1 (k + q.2.length) s' ∧ onesL y' k q.2 ∧ mG k s y y') (fun e => r = 0 ∧ QE f n y' e ∧ mG k s y y') (Sum.elim (fun u => Sum.inl (u.1, (b, q.2) :: u.2)) (fun e => Sum.inr e) (tsS (KK f n) (VV f n) fu (q.1 + 1) b')) := by
        intro b' hk
        have hk0 : ¬ KK f n q.1 = 0 := by cases b' <;> simp at hk <;> omega
        obtain ⟨y2, c1, c2, c3⟩ := q1.nx hN hk0
        have hc2 := c2.2.2.2.1.1
        obtain ⟨r3, y3, r, y', d1, d2, d3⟩ := ih (q.1 + 1) b' (k + 1) s1 y2 g' c2 (by omega) (by omega)
        have b28 : L_Mo_test_b28 y1 = some (Sum.inl (r3, y3)) := by
          unfold L_Mo_test_b28
          rw [q1.ky hN 8, bd_e, c1, bd_e]
          cases b'
          · rw [if_neg (by decide)] at hk
            rw [if_neg (fun z => by have := (kB_i _).2.2.2.1.1 z; omega), show (0 : Int) = b2i false from rfl, d1, bd_e]
          · rw [if_pos rfl] at hk
            rw [if_pos ((kB_i _).2.2.2.1.2 hk), show (1 : Int) = b2i true from rfl, d1, bd_e]
        have hs : L_Mo_test_y6 1 y1 = some (Sum.inl (r3, y3)) := by
          unfold L_Mo_test_y6
          rw [if_neg n10, q1.ky hN 8, bd_e]
          cases b'
          · rw [if_neg (by decide)] at hk
            rw [if_neg (show ¬ kB (KK f n q.1) = 8 from fun z => by have := (kB_i _).2.2.2.1.1 z; omega), if_pos rfl, q1.ky hN 9, bd_e, if_pos ((kB_i _).2.2.2.2.1.2 hk), if_neg n10]
            exact b28
          · rw [if_pos rfl] at hk
            rw [if_pos ((kB_i _).2.2.2.1.2 hk), if_neg n10]
            exact b28
        refine ⟨1, y1, r, y', e1, (lp_l g' hs).trans d2, ?_⟩
        cases h2 : tsS (KK f n) (VV f n) fu (q.1 + 1) b' with
        | inr e =>
          rw [h2] at d3
          obtain ⟨rfl, d4, d5⟩ := d3
          exact ⟨rfl, d4, (m1.tr (c3.g k s)).tr (d5.mo (by omega) le1)⟩
        | inl u =>
          rw [h2] at d3
          obtain ⟨rfl, s2, le2, d4, d5, d6⟩ := d3
          have m2 : mG (k + 1) s1 y1 y' := (c3.g (k + 1) s1).tr d6
          refine ⟨rfl, s2, by omega, ?_, ⟨onesR_mG o1 (by omega) (q1.2.2.2.2 k (by omega)) m2.2.2.1 m2.2.2.2, d5⟩, m1.tr (m2.mo (by omega) le1)⟩
          show QB f n N O B y' u.1 (k + ((b, q.2) :: u.2).length) s2
          rw [List.length_cons, show k + (u.2.length + 1) = k + 1 + u.2.length by omega]
          exact d4
      by_cases k25 : KK f n q.1 = 25
      · rw [if_pos k25]; exact go false k25
      · rw [if_neg k25]
        by_cases k24 : KK f n q.1 = 24
        · rw [if_pos k24]; exact go true k24
        · rw [if_neg k24]
          refine ⟨1, y1, 1, y1, e1, lp_r g' ?_, rfl, s1, le1, q1, ⟨o1, trivial⟩, m1⟩
          show L_Mo_test_y6 1 y1 = _
          unfold L_Mo_test_y6
          rw [if_neg n10, q1.ky hN 8, bd_e, if_neg (fun z => k24 ((kB_i _).2.2.2.1.1 z)), if_pos rfl, q1.ky hN 9, bd_e, if_neg (fun z => k25 ((kB_i _).2.2.2.2.1.1 z)), if_pos rfl]
theorem test_e {f : Nat → Int} {n N O B t k s : Nat} {y : Dt} (hN : tN f n N) (hB : B ≤ 3000) (hO1 : O ≤ 1200) (h : QB f n N O B y t k s) : ∃ r y', L_Mo_test y = some (r, y') ∧ Sum.elim (fun q => r = 1 ∧ ∃ s', s ≤ s' ∧ QB f n N O B y' q.1 (k + q.2.length) s' ∧ onesL y' k q.2 ∧ mG k s y y') (fun e => r = 0 ∧ QE f n y' e ∧ mG k s y y') (tsS (KK f n) (VV f n) 601 t true) := by
  have hNn := hN.1
  have hn6 := hN.2.1
  obtain ⟨r1, y1, r, y', e1, e2, e3⟩ := testB_lp hN hB hO1 601 t true k s y FU h (by omega) (by show 601 ≤ 1000000; omega)
  refine ⟨r, y', ?_, e3⟩
  unfold L_Mo_test L_Mo_test_l6
  rw [show (1 : Int) = b2i true from rfl, e1, bd_e, e2, lb_e, u1_q]
