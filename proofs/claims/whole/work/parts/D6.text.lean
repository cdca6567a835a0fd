/-! text: both sides -/
theorem b170_bad {y : Dt} {p2 p3 s0 k0 : Int} (h : 0 < y 0 40) : L_Mo_text_b170 p2 p3 s0 k0 y = some (-1, up2 (up2 (up2 (up2 y 0 38 (y 0 40)) 0 42 s0) 0 43 k0) 0 0 9) := by
  unfold L_Mo_text_b170 L_Mo_refuse
  rw [if_pos h, bd_e]
theorem b170_ok {y : Dt} {p2 p3 s0 k0 : Int} {T : Nat} (hT : T ≤ 4) (h : y 0 40 = 0) (h41 : y 0 41 = (T : Int)) : L_Mo_text_b170 p2 p3 s0 k0 y = some (y 28 T, up2 (up2 (up2 (up2 (up2 y 0 38 0) 26 T p2) 27 T p3) 0 41 ((T + 1 : Nat) : Int)) 0 0 0) := by
  unfold L_Mo_text_b170 L_Mo_gives
  rw [h, if_neg (by decide), h41, ck_pos ⟨by omega, by omega⟩, ck_pos ⟨by omega, by omega⟩, w32_i (show T < 2147483647 by omega), w32_s (x := ((T + 1 : Nat) : Int) - 1) (by omega) (by omega), show ((T + 1 : Nat) : Int) - 1 = (T : Int) by omega, ck_pos ⟨by omega, by omega⟩, tn_i, bd_e]
theorem T_text {n : Nat} {p2 p3 : Int} {dA dB : Dt} {T : Nat} (hb : ∀ k, -128 ≤ dA 26 k ∧ dA 26 k ≤ 127) (h : RelZ dA dB) (h41 : dB 0 41 = (T : Int)) (hT : T ≤ 4) (hn2 : (n : Int) ≤ dB 0 32) (c2 : 0 ≤ p2 ∧ p2 ≤ 9999) (c3 : 1 ≤ p3 ∧ p3 ≤ 127) : ∃ (r : Int) (dA' dB' : Dt), bd (L_Pa_take (n : Int) (up2 dA 0 0 0)) (pbE p2 p3) = some (r, dA') ∧ L_Mo_text (n : Int) p2 p3 dB = some (r, dB') ∧ RelZ dA' dB' := by
  have n10 : ¬ ((1 : Int) = 0) := by decide
  obtain ⟨hW, hz⟩ := h
  obtain ⟨gS, gT, gQ, gJ, gP, gR, gH, gF, gO, gV, gG, gA, gB, gN, gC, gM, gL, gk, gX, gg⟩ := id hW
  obtain ⟨l1, l2, l3, l4, l5, l6⟩ := gL
  obtain ⟨⟨⟨x1, x2⟩, x3, x4⟩, x5, x6⟩ := gX
  obtain ⟨q1, q2, q3⟩ := gA
  have hn : n ≤ 600 := by omega
  have hG : dA GH 0 = (T : Int) + 1 := by rw [l2, h41]
  have h25 : dA 25 6 = 79 + 7 * (T : Int) := by rw [l3, h41]
  obtain ⟨k0, hk0⟩ : ∃ k0 : Nat, dB 0 43 = (k0 : Int) := ⟨(dB 0 43).toNat, by omega⟩
  obtain ⟨s0, hs0⟩ : ∃ s0 : Nat, dB 0 42 = (s0 : Int) := ⟨(dB 0 42).toNat, by omega⟩
  have hK : k0 ≤ 1200 := by omega
  have hS : s0 ≤ 3000 := by omega
  obtain ⟨xs, hxs⟩ : ∃ xs, xs = up2 dA 0 0 0 := ⟨_, rfl⟩
  have ks : ∀ k, k ≠ 0 → xs k = dA k := fun k hk => by rw [hxs, up2_K _ _ _ hk]
  have ks0 : ∀ j, j ≠ 0 → xs 0 j = dA 0 j := fun j hj => by rw [hxs, up2_j _ _ _ hj]
  rw [← hxs]
  obtain ⟨x0, N, a1, a2, a3, a4, ⟨a5, a6, a7, a8⟩, a9, a10, a11⟩ := takeHead (xs := xs) (T := T) (n := n) hT (by rw [ks GH (by decide)]; exact hG) (by rw [ks 25 (by decide)]; exact h25) hn
  rw [ks 26 (by decide)] at a2
  obtain ⟨f, hf⟩ : ∃ f, f = dA 26 := ⟨_, rfl⟩
  rw [← hf] at a2
  have hbf : ∀ k, k < n → -128 ≤ f k ∧ f k ≤ 127 := fun k _ => by rw [hf]; exact hb k
  obtain ⟨y0, b1, b2, ⟨b3, b4, b5, b6⟩, b7, b8, b9⟩ := textHead (f := f) (T := T) (n := n) (p2 := p2) (p3 := p3) hT h41 hn hn2 c2 c3 (fun k hk => by rw [hf]; exact (q3 k (by omega)).symm) hbf
  have hN : tN f n N := ⟨a2.1, hn, kdN a2, hbf⟩
  have gx0 : x0 GH = dA GH := by rw [a3 GH (by decide) (by decide) (by decide) (by decide) (by show 1000000 ≠ _; omega), ks GH (by decide)]
  have hc0 : CS f n N T x0 0 [] 0 := by
    refine ⟨⟨a2, a6, by omega, hn, a7, a8⟩, ⟨?_, ⟨by rw [gx0]; exact hG, by omega⟩, a11, fun i hi => absurd hi (by simp)⟩, a10⟩
    rw [a4 6 (by decide) (by decide) (by decide) (by decide), ks 25 (by decide)]; exact h25
  have hq0 : QB f n N k0 s0 y0 0 k0 s0 := by
    refine ⟨b2, ⟨b3, b4⟩, ⟨by rw [b9 43 (by decide)]; exact hk0, by rw [b9 42 (by decide)]; exact hs0⟩, ⟨by omega, by omega, by omega⟩, fun i hi => ?_⟩
    rw [b7 39 (by decide) (by decide) (by decide), ← hs0]
    exact x6 i (by omega)
  have hj0 : JJ f n N k0 s0 T x0 y0 k0 s0 x0 y0 0 0 k0 s0 [] := ⟨hc0, hq0, ⟨by rw [b9 41 (by decide)]; exact h41, b6⟩, ⟨by omega, by simp, Nat.le_refl _, Nat.le_refl _⟩, fun i hi => by omega, rF.rf _ _ _ _, mQ.rf _ _ _ _ _⟩
  have hN601 : N - 0 < 601 := by have := hN.1; omega
  have b6' : dB 28 T = dB 28 T := rfl
  -- the older TEXTS
  have old28 : ∀ t, t < T → dB 28 t ≤ 20 := fun t ht => (l5 t (by omega)).2.2.1.2.2
  have old34 : ∀ t i : Nat, t < T → (i : Int) < dB 28 t → dB 34 (20 * t + i) ≤ (k0 : Int) := fun t i ht hi => by rw [← hk0]; exact x5 t i (by omega) hi
  have old39 : ∀ j, j < k0 → dB 39 j ≤ (s0 : Int) := fun j hj => by rw [← hs0]; exact x6 j (by omega)
  rw [a1, b1]
  rcases loopJ hN hS hK hT p2 p3 (dB 0 42) (dB 0 43) 601 x0 y0 0 0 k0 s0 [] FU FU hj0 hN601 (by show 603 ≤ 1000000; omega) (by show 603 ≤ 1000000; omega) with ⟨e, x', y', i1, i2, i3, i4, i5, i6, i7⟩ | ⟨x', y', t', m', k', s', C', i1, i2, i3⟩
  · -- a FAULT
    have f40 : 0 < y' 0 40 := by
      rw [i4.1]; unfold ftK
      by_cases z : kd f n (ps f n e.2) = 1
      · rw [if_pos z]; decide
      · rw [if_neg z]; omega
    obtain ⟨dA', hdA⟩ : ∃ dA', dA' = up2 x' 0 0 9 := ⟨_, rfl⟩
    obtain ⟨dB', hdB⟩ : ∃ dB', dB' = up2 (up2 (up2 (up2 y' 0 38 (y' 0 40)) 0 42 (dB 0 42)) 0 43 (dB 0 43)) 0 0 9 := ⟨_, rfl⟩
    refine ⟨-1, dA', dB', ?_, ?_, ?_⟩
    · rw [show lpF stK FU (1, 0, x0) = some (0, x') from i1, lb_e]
      unfold tkE
      rw [u1_q, if_pos rfl, bd_e]
      unfold pbE
      rw [if_pos (by decide), ← hdA]
    · rw [i2, lb_e]
      unfold txE
      rw [u4_q, b170_bad f40, ← hdB]
    · have dAk : ∀ k, k ≠ 0 → dA' k = x' k := fun k hk => by rw [hdA, up2_K _ _ _ hk]
      have dA0' : ∀ j, j ≠ 0 → dA' 0 j = x' 0 j := fun j hj => by rw [hdA, up2_j _ _ _ hj]
      have dBk : ∀ c, c ≠ 0 → dB' c = y' c := fun c hc => by rw [hdB, up2_K _ _ _ hc, up2_K _ _ _ hc, up2_K _ _ _ hc, up2_K _ _ _ hc]
      have dBf : ∀ j, j ≠ 0 → j ≠ 43 → j ≠ 42 → j ≠ 38 → dB' 0 j = y' 0 j := fun j z1 z2 z3 z4 => by rw [hdB, up2_j _ _ _ z1, up2_j _ _ _ z2, up2_j _ _ _ z3, up2_j _ _ _ z4]
      have xk : ∀ k, k ≠ 0 → k ≠ 25 → k ≠ 27 → k ≠ 28 → k ≠ 29 → (k < 79 + 7 * T ∨ 79 + 7 * T + 6 < k) → dA' k = dA k := fun k z0 z1 z2 z3 z4 z5 => by rw [dAk k z0, i5.1 k z1 z5, a3 k z1 z2 z3 z4 (by omega), ks k z0]
      have x25 : ∀ j, j ≠ 1 → j ≠ 5 → j ≠ 7 → j ≠ 8 → dA' 25 j = dA 25 j := fun j z1 z2 z3 z4 => by rw [dAk 25 (by decide), i5.2.1 j z2 z3 z4, a4 j z1 z2 z3 z4, ks 25 (by decide)]
      have yk : ∀ c, c ≠ 0 → c ≠ 25 → (c < 28 ∨ 46 < c) → dB' c = dB c := fun c z0 z1 z2 => by rw [dBk c z0, i6.1 c z0 z2, b7 c z0 z1 (by omega)]
      have y28 : ∀ j, j ≠ T → dB' 28 j = dB 28 j := fun j hj => by rw [dBk 28 (by decide), i6.2.2.1 j hj, b8 j hj]
      have y29 : ∀ c i, 29 ≤ c → c ≤ 36 → i < 20 * T → dB' c i = dB c i := fun c i z1 z2 z3 => by rw [dBk c (by omega), i6.2.2.2.1 c i z1 z2 z3, b7 c (by omega) (by omega) (by omega)]
      have y37 : ∀ c i, 37 ≤ c → c ≤ 42 → i < k0 → dB' c i = dB c i := fun c i z1 z2 z3 => by rw [dBk c (by omega), i6.2.2.2.2.1 c i z1 z2 z3, b7 c (by omega) (by omega) (by omega)]
      have y43 : ∀ i, i < s0 → dB' 43 i = dB 43 i ∧ dB' 44 i = dB 44 i := fun i hi => by
        obtain ⟨w1, w2⟩ := i6.2.2.2.2.2 i hi
        rw [dBk 43 (by decide), dBk 44 (by decide), w1, w2, b7 43 (by decide) (by decide) (by decide), b7 44 (by decide) (by decide) (by decide)]
        exact ⟨rfl, rfl⟩
      have yf : ∀ j, j ≠ 0 → (j < 32 ∨ 40 < j) → j ≠ 42 → j ≠ 43 → dB' 0 j = dB 0 j := fun j z0 z1 z2 z3 => by rw [dBf j z0 z3 z2 (by omega), i6.2.1 j (by omega) (by omega) (by omega) z2 z3, b9 j (by omega)]
      have e41 : dB' 0 41 = (T : Int) := by rw [yf 41 (by decide) (by decide) (by decide) (by decide)]; exact h41
      have e42 : dB' 0 42 = dB 0 42 := by rw [hdB, up2_j _ _ _ (by decide), up2_j _ _ _ (by decide), up2_s]
      have e43 : dB' 0 43 = dB 0 43 := by rw [hdB, up2_j _ _ _ (by decide), up2_s]
      have e26 : dB' 26 = dB 26 := yk 26 (by decide) (by decide) (by decide)
      have e27 : dB' 27 = dB 27 := yk 27 (by decide) (by decide) (by decide)
      have gGH : dA' GH = dA GH := xk GH (by decide) (by decide) (by decide) (by decide) (by decide) (by right; show _ < 1000000; omega)
      have k30 : dA' 30 = dA 30 := xk 30 (by decide) (by decide) (by decide) (by decide) (by decide) (by left; omega)
      have k31 : dA' 31 = dA 31 := xk 31 (by decide) (by decide) (by decide) (by decide) (by decide) (by left; omega)
      have k32 : dA' 32 = dA 32 := xk 32 (by decide) (by decide) (by decide) (by decide) (by decide) (by left; omega)
      have fA : Fr oT aT false dA (zG dA' dA) := frA_t (fun j hj => by rw [dA0' j hj, i5.1 0 (by decide) (by left; omega), a3 0 (by decide) (by decide) (by decide) (by decide) (by omega), ks0 j hj]) (fun j z1 z2 z3 z4 z5 => x25 j z1 z2 z4 z5) (fun j _ _ => by rw [k30]) (fun k z0 z1 z2 z3 z4 z5 z6 z7 z8 => xk k z0 z1 z2 z3 z4 (by omega))
      have fB : Fr oU aU false dB dB' := frB_t (fun j z0 z1 => yf j z0 (by omega) (by omega) (by omega)) (fun c z0 z1 => yk c z0 (by omega) (by omega))
      refine ⟨keep_t hW fA fB ?_ ?_ ?_ ?_ ?_ ?_, ?_⟩
      · show dA' 0 0 = dB' 0 0
        rw [hdA, hdB, up2_s, up2_s]
      · refine ⟨?_, ?_⟩
        · rw [dAk 25 (by decide), i3.1, hdB, up2_j _ _ _ (by decide), up2_j _ _ _ (by decide), up2_j _ _ _ (by decide), up2_s, i4.1]
        · rw [dAk 25 (by decide), i3.2, dBf 39 (by decide) (by decide) (by decide) (by decide), i4.2]
      · have z32 : dB' 0 32 = 0 := by rw [dBf 32 (by decide) (by decide) (by decide) (by decide), i6.2.1 32 (by decide) (by decide) (by decide) (by decide) (by decide)]; exact b5
        refine ⟨?_, ⟨by omega, by omega⟩, fun i hi => by omega⟩
        rw [dAk 25 (by decide), i5.2.1 1 (by decide) (by decide) (by decide), a5, z32]
      · refine ⟨⟨by omega, by omega⟩, by rw [gGH, l2, h41, e41], by rw [x25 6 (by decide) (by decide) (by decide) (by decide), l3, h41, e41], by rw [k30, l4, h41, e41], fun t ht => ?_, fun i hi => ?_⟩
        · have ht' : t < T := by omega
          exact txR_t (l5 t (by omega)) ht' (fun a ha => xk _ (by omega) (by omega) (by omega) (by omega) (by omega) (by omega)) (by rw [e26]) (by rw [e27]) (y28 t (by omega)) y29 (fun i hi => old34 t i ht' hi) old39 y37 y43
        · have eo : ordA dB' = ordA dB := by unfold ordA; rw [e26, e41, h41]
          rw [k31, eo]; exact l6 i (by omega)
      · have gk' := gk.cgA (dA' := dA') k30 k32 (xk 33 (by decide) (by decide) (by decide) (by decide) (by decide) (by left; omega)) (xk 34 (by decide) (by decide) (by decide) (by decide) (by decide) (by left; omega))
        rcases gk' with z | ⟨p, z1, z2, z3⟩
        · exact Or.inl z
        · exact Or.inr ⟨p, z1, z2, gth_t z3 h41 e41 e26 e27 (fun t ht => ⟨y28 t (by omega), old28 t ht⟩) (fun i hi => ⟨y29 35 i (by decide) (by decide) hi, y29 36 i (by decide) (by decide) hi⟩)⟩
      · unfold RX
        rw [e41, e42, e43]
        refine ⟨by omega, fun t i ht hi => ?_, fun k hk => ?_⟩
        · have ht' : t < T := by omega
          rw [y28 t (by omega)] at hi
          have := old28 t ht'
          rw [y29 34 _ (by decide) (by decide) (by omega)]
          exact x5 t i (by omega) hi
        · rw [y37 39 k (by decide) (by decide) (by omega)]
          exact x6 k hk
      · intro k j hk
        have ek : dA' k = dA k := by
          rcases hk with z | z
          · rw [z]; exact k31
          · rw [z]; exact k32
        rw [ek]
        rcases hz k j hk with z | z
        · exact Or.inl z
        · exact Or.inr (stt_up z gGH)
  · -- a TEXT
    obtain ⟨jx, jy, ⟨j41, j28⟩, ⟨jm, jl, jk, js⟩, jr, jfx, jfy⟩ := i3
    have hx25 : x' 25 6 = 79 + 7 * (T : Int) := jx.2.1.1
    have hxG : x' GH 0 = (T : Int) + 1 := jx.2.1.2.1.1
    have xk : ∀ k, k ≠ 0 → k ≠ 25 → k ≠ 27 → k ≠ 28 → k ≠ 29 → (k < 79 + 7 * T ∨ 79 + 7 * T + 6 < k) → x' k = dA k := fun k z0 z1 z2 z3 z4 z5 => by rw [jfx.1 k z1 z5, a3 k z1 z2 z3 z4 (by omega), ks k z0]
    have x25 : ∀ j, j ≠ 1 → j ≠ 5 → j ≠ 7 → j ≠ 8 → x' 25 j = dA 25 j := fun j z1 z2 z3 z4 => by rw [jfx.2.1 j z2 z3 z4, a4 j z1 z2 z3 z4, ks 25 (by decide)]
    have x31 : x' 31 = dA 31 := xk 31 (by decide) (by decide) (by decide) (by decide) (by decide) (by left; omega)
    have x32 : x' 32 = dA 32 := xk 32 (by decide) (by decide) (by decide) (by decide) (by decide) (by left; omega)
    have x30 : x' 30 = dA 30 := xk 30 (by decide) (by decide) (by decide) (by decide) (by decide) (by left; omega)
    have ok : okRI x' := by
      refine okRI_e (G := T + 1) (by rw [hxG]; omega) (Or.inr (by rw [hx25, tn79]; omega)) (fun k j hk => ?_)
      have ek : x' k = dA k := by
        rcases hk with z | z
        · rw [z]; exact x31
        · rw [z]; exact x32
      rw [ek]
      rcases hz k j hk with z | z
      · exact Or.inl z
      · right
        have z1 := z.1
        have z2 := z.2.1
        rw [hG] at z2
        omega
    obtain ⟨xm, hxm⟩ : ∃ xm, xm = mkst x' := ⟨_, rfl⟩
    have mk : ∀ k, k ≠ 25 → (k < 79 + 7 * (T + 1) ∨ 79 + 7 * (T + 1) + 7 ≤ k) → k ≠ GH → xm k = x' k := fun k z1 z2 z3 => by rw [hxm]; exact mk_k hxG z1 z2 z3
    have m25 : ∀ j, j ≠ 6 → xm 25 j = x' 25 j := fun j hj => by rw [hxm]; exact mk_25 hxG hT hj
    obtain ⟨m6, mG'⟩ := mk_6 hxG
    rw [← hxm] at m6 mG'
    have gsm : ∀ k : Nat, k < 1000 → k ≠ GH := fun k hk => by show k ≠ 1000000; omega
    obtain ⟨dy, hdy⟩ : ∃ dy : Nat → Int, dy = fun t => if t = T then p2 else dB 26 t := ⟨_, rfl⟩
    have dyT : dy T = p2 := by rw [hdy]; exact if_pos rfl
    have dyt : ∀ t, t ≠ T → dy t = dB 26 t := fun t ht => by rw [hdy]; exact if_neg ht
    have eL : ordF (fun _ => true) dy T = ordA dB := by
      unfold ordA
      rw [h41, tn_i]
      exact ord_cg _ _ _ T (fun t ht => dyt t (by omega))
    obtain ⟨dA', e1, e2, e3, ⟨e4, e5, e6⟩, ⟨e7, e8, e8'⟩, e9⟩ := enactA_e (x := xm) (dy := dy) (T := T) (G := T + 2) (L := ordF (fun _ => true) dy T) hT (by rw [mG']; omega) (by omega) (ord_sorted _ dy T) (ord_all_len dy T) (fun t ht => (ord_mem _ _ _ _ ht).1) (fun m hm => by rw [mk 31 (by decide) (by omega) (by decide), x31, eL]; exact l6 m (by omega)) (fun t ht => by rw [mk _ (by omega) (by omega) (gsm _ (by omega)), xk _ (by omega) (by omega) (by omega) (by omega) (by omega) (by omega), dyt t (by omega)]; exact (l5 t (by omega)).1.1) (by rw [mk 30 (by decide) (by omega) (by decide), x30, l4, h41]) p3
    rw [dyT] at e1 e4
    obtain ⟨dB', hdB⟩ : ∃ dB', dB' = up2 (up2 (up2 (up2 (up2 y' 0 38 0) 26 T p2) 27 T p3) 0 41 ((T + 1 : Nat) : Int)) 0 0 0 := ⟨_, rfl⟩
    have gA' : dA' GH 0 = ((T + 1 : Nat) : Int) + 1 := by rw [e9 GH (by decide) (by decide) (by show 1000000 ≠ _; omega)]; exact mG'
    have v2 : dA' (79 + 7 * T) 2 = (m' : Int) := by rw [e6 2 (by decide) (by decide), mk _ (by omega) (by omega) (gsm _ (by omega))]; exact jx.2.2
    refine ⟨(m' : Int), dA', dB', ?_, ?_, ?_⟩
    · rw [show lpF stK FU (1, 0, x0) = some (1, x') from i1, lb_e]
      unfold tkE
      rw [u1_q, if_neg n10, ck_pos ⟨by rw [ks GH (by decide), hG]; exact hxG, by rw [ks GH (by decide), hG]; omega⟩, ck_pos (by rw [hx25]; exact stt_t hxG T (by omega)), ckP_pos ok, bd_e]
      unfold pbE
      rw [hx25, if_neg (by omega), ← hxm, e1, bd_e, ck_pos (stt_t (T := ((T + 1 : Nat) : Int)) gA' T (by omega)), tn79, Nat.add_zero, v2]
    · rw [i2, lb_e]
      unfold txE
      rw [u4_q, b170_ok hT jy.2.1.1 j41, j28, ← hdB]
    · have dBk : ∀ c, c ≠ 0 → c ≠ 26 → c ≠ 27 → dB' c = y' c := fun c z0 z1 z2 => by rw [hdB, up2_K _ _ _ z0, up2_K _ _ _ z0, up2_K _ _ _ z2, up2_K _ _ _ z1, up2_K _ _ _ z0]
      have dBf : ∀ j, j ≠ 0 → j ≠ 41 → j ≠ 38 → dB' 0 j = y' 0 j := fun j z1 z2 z3 => by rw [hdB, up2_j _ _ _ z1, up2_j _ _ _ z2, up2_K _ _ _ (by decide), up2_K _ _ _ (by decide), up2_j _ _ _ z3]
      have yk : ∀ c, c ≠ 0 → c ≠ 25 → (c < 28 ∨ 46 < c) → y' c = dB c := fun c z0 z1 z2 => by rw [jfy.1 c z0 z2, b7 c z0 z1 (by omega)]
      have y28 : ∀ j, j ≠ T → dB' 28 j = dB 28 j := fun j hj => by rw [dBk 28 (by decide) (by decide) (by decide), jfy.2.2.1 j hj, b8 j hj]
      have y29 : ∀ c i, 29 ≤ c → c ≤ 36 → i < 20 * T → dB' c i = dB c i := fun c i z1 z2 z3 => by rw [dBk c (by omega) (by omega) (by omega), jfy.2.2.2.1 c i z1 z2 z3, b7 c (by omega) (by omega) (by omega)]
      have y37 : ∀ c i, 37 ≤ c → c ≤ 42 → i < k0 → dB' c i = dB c i := fun c i z1 z2 z3 => by rw [dBk c (by omega) (by omega) (by omega), jfy.2.2.2.2.1 c i z1 z2 z3, b7 c (by omega) (by omega) (by omega)]
      have y43 : ∀ i, i < s0 → dB' 43 i = dB 43 i ∧ dB' 44 i = dB 44 i := fun i hi => by
        obtain ⟨w1, w2⟩ := jfy.2.2.2.2.2 i hi
        rw [dBk 43 (by decide) (by decide) (by decide), dBk 44 (by decide) (by decide) (by decide), w1, w2, b7 43 (by decide) (by decide) (by decide), b7 44 (by decide) (by decide) (by decide)]
        exact ⟨rfl, rfl⟩
      have e41 : dB' 0 41 = ((T + 1 : Nat) : Int) := by rw [hdB, up2_j _ _ _ (by decide), up2_s]
      have e42 : dB' 0 42 = (s' : Int) := by rw [dBf 42 (by decide) (by decide) (by decide)]; exact jy.2.2.1.2
      have e43 : dB' 0 43 = (k' : Int) := by rw [dBf 43 (by decide) (by decide) (by decide)]; exact jy.2.2.1.1
      have y26 : ∀ t, dB' 26 t = dy t := fun t => by
        rw [hdB, up2_K _ _ _ (by decide), up2_K _ _ _ (by decide), up2_K _ _ _ (by decide)]
        by_cases z : t = T
        · rw [z, up2_s, dyT]
        · rw [up2_j _ _ _ z, up2_K _ _ _ (by decide), yk 26 (by decide) (by decide) (by decide), dyt t z]
      have y27 : ∀ t, t ≠ T → dB' 27 t = dB 27 t := fun t z => by rw [hdB, up2_K _ _ _ (by decide), up2_K _ _ _ (by decide), up2_j _ _ _ z, up2_K _ _ _ (by decide), up2_K _ _ _ (by decide), yk 27 (by decide) (by decide) (by decide)]
      have y27T : dB' 27 T = p3 := by rw [hdB, up2_K _ _ _ (by decide), up2_K _ _ _ (by decide), up2_s]
      have dAk : ∀ k, k ≠ 0 → k ≠ 25 → k ≠ 27 → k ≠ 28 → k ≠ 29 → k ≠ 30 → k ≠ 31 → (k < 79 + 7 * T ∨ 79 + 7 * (T + 1) + 7 ≤ k) → k ≠ GH → dA' k = dA k := fun k z0 z1 z2 z3 z4 z5 z6 z7 z8 => by rw [e9 k z5 z6 (by omega), mk k z1 (by omega) z8, xk k z0 z1 z2 z3 z4 (by omega)]
      have hQ := jy.2.2.2.1
      have hNn := hN.1
      have fA : Fr oT aT false dA (zG dA' dA) := frA_t (fun j hj => by rw [e9 0 (by decide) (by decide) (by omega), mk 0 (by decide) (by omega) (by decide), jfx.1 0 (by decide) (by left; omega), a3 0 (by decide) (by decide) (by decide) (by decide) (by omega), ks0 j hj]) (fun j z1 z2 z3 z4 z5 => by rw [e9 25 (by decide) (by decide) (by omega), m25 j z3, x25 j z1 z2 z4 z5]) (fun j z1 z2 => by rw [e8' j z1 z2, mk 30 (by decide) (by omega) (by decide), x30]) (fun k z0 z1 z2 z3 z4 z5 z6 z7 z8 => dAk k z0 z1 z2 z3 z4 z5 z6 (by omega) z8)
      have fB : Fr oU aU false dB dB' := frB_t (fun j z0 z1 => by rw [dBf j z0 (by omega) (by omega), jfy.2.1 j (by omega) (by omega) (by omega) (by omega) (by omega), b9 j (by omega)]) (fun c z0 z1 => by rw [dBk c z0 (by omega) (by omega), yk c z0 (by omega) (by omega)])
      have f25 : ∀ j, j ≠ 6 → dA' 25 j = x' 25 j := fun j hj => by rw [e9 25 (by decide) (by decide) (by omega), m25 j hj]
      have dAT : ∀ a, 1 ≤ a → a < 7 → dA' (79 + 7 * T + a) = x' (79 + 7 * T + a) := fun a z1 z2 => by rw [e9 _ (by omega) (by omega) (by omega), mk _ (by omega) (by omega) (gsm _ (by omega))]
      refine ⟨keep_t hW fA fB ?_ ?_ ?_ ?_ ?_ ?_, ?_⟩
      · show dA' 0 0 = dB' 0 0
        rw [hdB, up2_s, e9 0 (by decide) (by decide) (by omega), mk 0 (by decide) (by omega) (by decide), jfx.1 0 (by decide) (by left; omega), a3 0 (by decide) (by decide) (by decide) (by decide) (by omega), hxs, up2_s]
      · refine ⟨?_, ?_⟩
        · rw [f25 7 (by decide), jx.1.2.2.2.2.1, hdB, up2_j _ _ _ (by decide), up2_j _ _ _ (by decide), up2_K _ _ _ (by decide), up2_K _ _ _ (by decide), up2_s]
        · rw [f25 8 (by decide), jx.1.2.2.2.2.2, dBf 39 (by decide) (by decide) (by decide), jy.2.1.2]
      · have z32 : dB' 0 32 = 0 := by rw [dBf 32 (by decide) (by decide) (by decide), jfy.2.1 32 (by decide) (by decide) (by decide) (by decide) (by decide)]; exact b5
        refine ⟨?_, ⟨by omega, by omega⟩, fun i hi => by omega⟩
        rw [f25 1 (by decide), jfx.2.1 1 (by decide) (by decide) (by decide), a5, z32]
      · refine ⟨⟨by omega, by omega⟩, by rw [gA', e41], by rw [e9 25 (by decide) (by decide) (by omega), m6, e41], by rw [e7, e41], fun t ht => ?_, fun i hi => ?_⟩
        · by_cases tT : t = T
          · subst tT
            unfold txR
            rw [e4, e5, v2, y26, dyT, y27T, dBk 28 (by decide) (by decide) (by decide), j28]
            refine ⟨⟨rfl, c2⟩, ⟨rfl, c3⟩, ⟨rfl, by omega, by omega⟩, fun i hi => ?_⟩
            obtain ⟨g1, g2, g3⟩ := jr i (by omega)
            exact ru_trB (ru_trA g1 (fun a z1 z2 => by rw [dAT a z1 (by omega)]) g2 (fun j _ => by rw [dAT 6 (by decide) (by decide)])) (fun c z1 z2 => by rw [dBk c (by omega) (by omega) (by omega)]) g3 jy.2.2.2.2 (fun c i z1 z2 _ => by rw [dBk c (by omega) (by omega) (by omega)]) (fun i _ => ⟨by rw [dBk 43 (by decide) (by decide) (by decide)], by rw [dBk 44 (by decide) (by decide) (by decide)]⟩)
          · have ht' : t < T := by omega
            exact txR_t (l5 t (by omega)) ht' (fun a ha => dAk _ (by omega) (by omega) (by omega) (by omega) (by omega) (by omega) (by omega) (by omega) (gsm _ (by omega))) (by rw [y26, dyt t tT]) (y27 t tT) (y28 t tT) y29 (fun i hi => old34 t i ht' hi) old39 y37 y43
        · have eo : ordA dB' = insD dy T (ordF (fun _ => true) dy T) := by
            unfold ordA
            rw [e41, tn_i, show dB' 26 = dy from funext y26]
            simp only [ordF, if_true]
          rw [eo]; exact e2 i (by omega)
      · exact Or.inl e8
      · unfold RX
        rw [e41, e42, e43]
        refine ⟨by omega, fun t i ht hi => ?_, fun k hk => ?_⟩
        · by_cases tT : t = T
          · subst tT
            rw [dBk 28 (by decide) (by decide) (by decide), j28] at hi
            rw [dBk 34 (by decide) (by decide) (by decide)]
            exact (jr i (by omega)).2.2
          · have ht' : t < T := by omega
            rw [y28 t tT] at hi
            have := old28 t ht'
            rw [y29 34 _ (by decide) (by decide) (by omega)]
            have := old34 t i ht' hi
            omega
        · rw [dBk 39 (by decide) (by decide) (by decide)]
          exact jy.2.2.2.2 k (by omega)
      · intro k j hk
        have grow : ∀ v : Int, stt dA v → stt dA' v := fun v hv => by
          refine ⟨hv.1, ?_, hv.2.2⟩
          have := hv.2.1
          rw [hG] at this
          rw [gA']; omega
        have old : dA k j < 0 ∨ stt dA' (dA k j) := by
          rcases hz k j hk with z | z
          · exact Or.inl z
          · exact Or.inr (grow _ z)
        rcases hk with z | z
        · rw [z] at old ⊢
          by_cases jT : j < T + 1
          · right
            rw [e2 j jT]
            have hmem : (insD dy T (ordF (fun _ => true) dy T)).getD j 0 < T + 1 := by
              have hm : (insD dy T (ordF (fun _ => true) dy T)).getD j 0 ∈ ordF (fun _ => true) dy (T + 1) := by
                simp only [ordF, if_true]
                refine getD_mem _ j ?_
                rw [ins_len dy T _ (ord_sorted _ dy T), ord_all_len]
                exact jT
              exact (ord_mem _ _ _ _ hm).1
            refine ⟨by omega, ?_, by omega⟩
            rw [gA']; omega
          · rw [e3 j (by omega), mk 31 (by decide) (by omega) (by decide), x31]; exact old
        · rw [z] at old ⊢
          rw [e9 32 (by decide) (by decide) (by omega), mk 32 (by decide) (by omega) (by decide), x32]; exact old
