/-! RULES: their body, both sides -/
def kyB (x3 : Int) (d18_ : Dt) : Option (Int × Dt) := bd (L_Mo_inWords 1000003 d18_) (fun r24_ d23_ => ck ((0 : Int) ≤ x3 ∧ x3 < 120) (ck ((0 : Int) ≤ x3 ∧ x3 < 120) (if ((up2 d23_ 29 x3.toNat r24_) 29 x3.toNat) < 1 then L_Mo_rule_b205 (up2 d23_ 29 x3.toNat r24_) else ck ((0 : Int) ≤ x3 ∧ x3 < 120) (if 5 < ((up2 d23_ 29 x3.toNat r24_) 29 x3.toNat) then L_Mo_rule_b205 (up2 d23_ 29 x3.toNat r24_) else bd (L_Mo_next (up2 d23_ 29 x3.toNat r24_)) (fun r35_ d34_ => ck ((0 : Int) ≤ x3 ∧ x3 < 120) (ck ((0 : Int) ≤ x3 ∧ x3 < 120) (ck ((0 : Int) ≤ x3 ∧ x3 < 120) (ck ((0 : Int) ≤ x3 ∧ x3 < 120) (if (d34_ 29 x3.toNat) = 4 then bd (L_Mo_readNames x3 (up2 (up2 (up2 d34_ 32 x3.toNat (d34_ 0 43)) 33 x3.toNat (d34_ 0 43)) 34 x3.toNat (d34_ 0 43))) (fun r48_ d47_ => L_Mo_rule_b286 r48_ d47_) else ck ((0 : Int) ≤ x3 ∧ x3 < 120) (if (d34_ 29 x3.toNat) = 5 then bd (L_Mo_readHours x3 (up2 (up2 (up2 d34_ 32 x3.toNat (d34_ 0 43)) 33 x3.toNat (d34_ 0 43)) 34 x3.toNat (d34_ 0 43))) (fun r55_ d54_ => L_Mo_rule_b286 r55_ d54_) else bd (L_Mo_tests x3 (up2 (up2 (up2 d34_ 32 x3.toNat (d34_ 0 43)) 33 x3.toNat (d34_ 0 43)) 34 x3.toNat (d34_ 0 43))) (fun r59_ d58_ => L_Mo_rule_b286 r59_ d58_)))))))))))
theorem b161_e (x3 : Int) (d : Dt) : L_Mo_rule_b161 x3 d = bd (L_Mo_want 58 d) (fun r19_ d18_ => if r19_ = 0 then some (0, d18_) else kyB x3 d18_) := rfl
theorem QB.iw {f : Nat → Int} {n N O B t k s : Nat} {y : Dt} (hN : tN f n N) (h : QB f n N O B y t k s) : L_Mo_inWords 1000003 y = some (kB (KK f n t), y) := by
  have i3 := inWords_e h.1 hN.2.1 1000003 (Or.inl rfl)
  rw [(tok_e f n (ps f n t) h.1.1.2.2).1] at i3
  exact i3
theorem kB_o (k : Int) (h : ¬ (k = 17 ∨ k = 19 ∨ k = 20 ∨ k = 21 ∨ k = 22)) : kB k < 1 ∨ 5 < kB k := by
  unfold kB
  by_cases h16 : k = 16
  · subst h16; decide
  by_cases h18 : k = 18
  · subst h18; decide
  rw [if_neg h16, if_neg (by omega), if_neg h18, if_neg (by omega), if_neg (by omega), if_neg (by omega), if_neg (by omega)]
  by_cases z : 23 ≤ k ∧ k ≤ 26
  · rw [if_pos z]; omega
  · rw [if_neg z]; omega
def mid (f : Nat → Int) (n N O B T m k s : Nat) (x2 y2 x3 y6 : Dt) (C : List Int) (t2 : Nat) : Prop := ∃ (tq k' s' : Nat) (D : List Int), CS f n N T x3 tq (C ++ D) (m + 1) ∧ QB f n N O B y6 tq k' s' ∧ y6 28 = y2 28 ∧ y6 0 41 = y2 0 41 ∧ ruR x3 y6 T m ∧ (x3 (79 + 7 * T + 3) m ≤ 20 → x3 (79 + 7 * T + 5) m ≤ ((C ++ D).length : Int)) ∧ y6 34 (20 * T + m) ≤ (k' : Int) ∧ rF T m C.length x2 x3 ∧ mQ T (20 * T + m) k s y2 y6 ∧ t2 < tq ∧ (C ++ D).length ≤ tq ∧ k ≤ k' ∧ s ≤ s'
theorem bodyJ {f : Nat → Int} {n N O B T t m k s : Nat} {x y : Dt} {C : List Int} (hN : tN f n N) (hB : B ≤ 3000) (hO1 : O ≤ 1200) (hT : T ≤ 4) (hm : m < 20) (hx : CS f n N T x t C m) (hy : QB f n N O B y t k s) (hl : C.length ≤ t) (hlb : lbR (x (79 + 7 * T + 1) m) (y 35 (20 * T + m))) (htg : tgR (x (79 + 7 * T + 2) m) (y 36 (20 * T + m))) :
    bad f n T (20 * T + m) k s x y (dsp (KK f n t) x) (kyB ((20 * T + m : Nat) : Int) y) ∨ ∃ x3 y6, dsp (KK f n t) x = e59 x3 ∧ kyB ((20 * T + m : Nat) : Int) y = L_Mo_rule_b286 1 y6 ∧ mid f n N O B T m k s x y x3 y6 C t := by
  have n10 : ¬ ((1 : Int) = 0) := by decide
  have hb := hN.2.2.2
  have hv := vOk_e f n hb
  have hNn := hN.1
  have hn6 := hN.2.1
  obtain ⟨r, hr⟩ : ∃ r, r = 20 * T + m := ⟨_, rfl⟩
  have hr120 : r < 120 := by omega
  have cr : (0 : Int) ≤ (r : Int) ∧ (r : Int) < 120 := by omega
  rw [← hr] at hlb htg
  rw [← hr]
  by_cases ks : KK f n t = 17 ∨ KK f n t = 19 ∨ KK f n t = 20 ∨ KK f n t = 21 ∨ KK f n t = 22
  · have hk0 : ¬ KK f n t = 0 := by omega
    have kb15 : ¬ kB (KK f n t) < 1 ∧ ¬ 5 < kB (KK f n t) := by
      rcases ks with z | z | z | z | z <;> rw [z] <;> decide
    have qa := hy.uc 29 r (kB (KK f n t)) (by decide)
    obtain ⟨y4, c1, c2, c3⟩ := qa.nx hN hk0
    have k4 : ∀ c, c ≠ 0 → c ≠ 29 → y4 c = y c := fun c a b => by rw [c3.1 c a, up2_K _ _ _ b]
    have v29 : y4 29 r = kB (KK f n t) := by rw [c3.1 29 (by decide), up2_s]
    have f41 : y4 0 41 = y 0 41 := by rw [c3.2 41 (by decide) (by decide) (by decide) (by decide), up2_K _ _ _ (by decide)]
    have m4 : mQ T r k s y y4 := ((mQ.rf T r k s y).uc 29 r _ (by decide) (by omega)).tr ((c3.g k s).q T r)
    obtain ⟨y5, hy5⟩ : ∃ y5, y5 = up2 (up2 (up2 y4 32 r (k : Int)) 33 r (k : Int)) 34 r (k : Int) := ⟨_, rfl⟩
    have q5 : QB f n N O B y5 (t + 1) k s := by rw [hy5]; exact ((c2.uc 32 r _ (by decide)).uc 33 r _ (by decide)).uc 34 r _ (by decide)
    have m5 : mQ T r k s y y5 := by rw [hy5]; exact ((m4.uc 32 r _ (by decide) (by omega)).uc 33 r _ (by decide) (by omega)).uc 34 r _ (by decide) (by omega)
    have k5 : ∀ c, c ≠ 32 → c ≠ 33 → c ≠ 34 → y5 c = y4 c := fun c a b d => by rw [hy5, up2_K _ _ _ d, up2_K _ _ _ b, up2_K _ _ _ a]
    have v32 : y5 32 r = (k : Int) := by rw [hy5, up2_K _ _ _ (by decide), up2_K _ _ _ (by decide), up2_s]
    have v34 : y5 34 r = (k : Int) := by rw [hy5, up2_s]
    have w29 : y5 29 r = kB (KK f n t) := by rw [k5 29 (by decide) (by decide) (by decide)]; exact v29
    have w35 : y5 35 r = y 35 r := by rw [k5 35 (by decide) (by decide) (by decide), k4 35 (by decide) (by decide)]
    have w36 : y5 36 r = y 36 r := by rw [k5 36 (by decide) (by decide) (by decide), k4 36 (by decide) (by decide)]
    have w28 : y5 28 = y 28 := by rw [k5 28 (by decide) (by decide) (by decide), k4 28 (by decide) (by decide)]
    have w41 : y5 0 41 = y 0 41 := by rw [k5 0 (by decide) (by decide) (by decide)]; exact f41
    have head : kyB (r : Int) y = (if kB (KK f n t) = 4 then bd (L_Mo_readNames (r : Int) y5) (fun r48_ d47_ => L_Mo_rule_b286 r48_ d47_) else if kB (KK f n t) = 5 then bd (L_Mo_readHours (r : Int) y5) (fun r55_ d54_ => L_Mo_rule_b286 r55_ d54_) else bd (L_Mo_tests (r : Int) y5) (fun r59_ d58_ => L_Mo_rule_b286 r59_ d58_)) := by
      unfold kyB
      rw [hy.iw hN, bd_e, ck_pos cr, ck_pos cr, tn_i, up2_s, if_neg kb15.1, ck_pos cr, if_neg kb15.2, c1, bd_e, ck_pos cr, ck_pos cr, ck_pos cr, ck_pos cr, v29, c2.2.2.1.1, ck_pos cr, ← hy5]
    by_cases kt : KK f n t = 17 ∨ KK f n t = 19 ∨ KK f n t = 20
    · have hdsp : dsp (KK f n t) x = bd (L_Pa_takeTests x) (fun r17_ d16_ => if r17_ = 0 then some (0, d16_) else e59 d16_) := by
        unfold dsp
        rcases kt with z | z | z
        · rw [z, if_pos rfl]
        · rw [z, if_neg (by decide), if_neg (by decide), if_pos rfl]
        · rw [z, if_neg (by decide), if_neg (by decide), if_neg (by decide), if_pos rfl]
      have h45 : ¬ kB (KK f n t) = 4 ∧ ¬ kB (KK f n t) = 5 := by rcases kt with z | z | z <;> rw [z] <;> decide
      obtain ⟨r1, x3, a1, a2⟩ := takeTests_e hb hx hk0 hm hl
      obtain ⟨r2, y6, b1, b2⟩ := tests_e hN hB hO1 q5 hr120 T
      rw [hdsp, head, if_neg h45.1, if_neg h45.2, a1, bd_e, b1, bd_e]
      cases h1 : ttS (KK f n) (VV f n) (t + 1) with
      | inr e =>
        rw [h1] at a2 b2
        obtain ⟨rfl, a3, a4⟩ := a2
        obtain ⟨rfl, b3, b4⟩ := b2
        left
        refine ⟨e, x3, y6, by rw [if_pos rfl], ?_, a3, b3, a4, m5.tr b4, ttS_f _ _ h1⟩
        unfold L_Mo_rule_b286
        rw [if_pos rfl]
      | inl q =>
        rw [h1] at a2 b2
        obtain ⟨rfl, a3, a4, a5, a6, a7, a8⟩ := a2
        obtain ⟨rfl, s', b3, b4, b5, b6, b7, b8, b9, b10⟩ := b2
        obtain ⟨t1, t2, t3, t4, t5⟩ := ttS_ok (o1 := q.2.1) (o2 := q.2.2) (t' := q.1) _ _ hv h1
        have hq := b4.2.2.2.1
        right
        refine ⟨x3, y6, by rw [if_neg n10], rfl, q.1, k + q.2.1.length + q.2.2.length, s', codeT q.2.1 q.2.2, a3, b4, by rw [b9 28 (by decide) (by decide) (by decide) (by decide)]; exact w28, by rw [b10.2.1 41 (by decide) (by decide) (by decide) (by decide) (by decide)]; exact w41, ?_, fun _ => by rw [a8, List.length_append]; exact Int.le_refl _, ?_, a4, by rw [← hr]; exact m5.tr b10, by omega, by rw [List.length_append]; omega, by omega, b3⟩
        · unfold ruR
          rw [← hr, a5.1, a5.2, a6, a7, a8, b9 29 (by decide) (by decide) (by decide) (by decide), b9 35 (by decide) (by decide) (by decide) (by decide), b9 36 (by decide) (by decide) (by decide) (by decide), w29, w35, w36]
          refine ⟨hlb, htg, Or.inl ⟨?_, q.2.1, q.2.2, C.length, (codeT q.2.1 q.2.2).length, rfl, rfl, by omega, ?_, t1, t2, k, ?_, b7, b8, by omega, b5, b6⟩⟩
          · rcases kt with z | z | z <;> rw [z] <;> decide
          · refine segF_of _ _ _ (fun i hi => ?_)
            rw [a3.2.1.2.2.2 (C.length + i) (by rw [List.length_append]; omega), getD_app', if_neg (by omega), show C.length + i - C.length = i by omega]
          · rw [b9 32 (by decide) (by decide) (by decide) (by decide)]; exact v32
        · rw [← hr, b8]; exact Int.le_refl _
    · by_cases kn : KK f n t = 21
      · have hdsp : dsp (KK f n t) x = bd (L_Pa_takeNames x) (fun r17_ d16_ => if r17_ = 0 then some (0, d16_) else e59 d16_) := by
          unfold dsp
          rw [kn, if_neg (by decide), if_neg (by decide), if_neg (by decide), if_neg (by decide), if_pos rfl]
        have h4 : kB (KK f n t) = 4 := by rw [kn]; decide
        obtain ⟨r1, x3, a1, a2⟩ := takeNames_e hb hx hk0 hm
        obtain ⟨r2, y6, b1, b2⟩ := readNames_e hN q5 hr120 T
        rw [hdsp, head, if_pos h4, a1, bd_e, b1, bd_e]
        cases h1 : numS (KK f n) (VV f n) (t + 1) 1 4 with
        | inr e =>
          rw [h1] at a2 b2
          obtain ⟨rfl, a3, a4⟩ := a2
          obtain ⟨rfl, b3, b4⟩ := b2
          left
          refine ⟨e, x3, y6, by rw [if_pos rfl], ?_, a3, b3, a4, m5.tr b4, numS_f _ _ h1⟩
          unfold L_Mo_rule_b286
          rw [if_pos rfl]
        | inl v =>
          rw [h1] at a2 b2
          obtain ⟨rfl, a3, a4, a5, a6, a7, a8⟩ := a2
          obtain ⟨rfl, b3, b4, b5, b6, b7⟩ := b2
          right
          refine ⟨x3, y6, by rw [if_neg n10], rfl, t + 2, k, s, [], by rw [List.append_nil]; exact a3, b3, by rw [b6 28 (by decide) (by decide)]; exact w28, by rw [b7.2.1 41 (by decide) (by decide) (by decide) (by decide) (by decide)]; exact w41, ?_, fun z => by rw [a6] at z; exact absurd z (by decide), ?_, a4, by rw [← hr]; exact m5.tr b7, by omega, by rw [List.append_nil]; omega, by omega, by omega⟩
          · unfold ruR
            rw [← hr, a5.1, a5.2, a6, a7, a8, b6 29 (by decide) (by decide), b6 35 (by decide) (by decide), b6 36 (by decide) (by decide), b4, w29, w35, w36]
            exact ⟨hlb, htg, Or.inr (Or.inl ⟨rfl, h4, rfl, b5⟩)⟩
          · rw [← hr, b6 34 (by decide) (by decide), v34]; exact Int.le_refl _
      · have kh : KK f n t = 22 := by omega
        have hdsp : dsp (KK f n t) x = bd (L_Pa_takeHours x) (fun r17_ d16_ => if r17_ = 0 then some (0, d16_) else e59 d16_) := by
          unfold dsp
          rw [kh, if_neg (by decide), if_neg (by decide), if_neg (by decide), if_neg (by decide), if_neg (by decide), if_pos rfl]
        have h5 : kB (KK f n t) = 5 := by rw [kh]; decide
        obtain ⟨r1, x3, a1, a2⟩ := takeHours_e hb hx hk0 hm
        obtain ⟨r2, y6, b1, b2⟩ := readHours_e hN q5 hr120 T
        rw [hdsp, head, if_neg (by omega), if_pos h5, a1, bd_e, b1, bd_e]
        cases h1 : hrS (KK f n) (VV f n) (t + 1) with
        | inr e =>
          rw [h1] at a2 b2
          obtain ⟨rfl, a3, a4⟩ := a2
          obtain ⟨rfl, b3, b4⟩ := b2
          left
          refine ⟨e, x3, y6, by rw [if_pos rfl], ?_, a3, b3, a4, m5.tr b4, hrS_f _ _ h1⟩
          unfold L_Mo_rule_b286
          rw [if_pos rfl]
        | inl v =>
          rw [h1] at a2 b2
          obtain ⟨rfl, a3, a4, a5, a6, a7, a8⟩ := a2
          obtain ⟨rfl, b3, b4, b5, b6, b7⟩ := b2
          right
          refine ⟨x3, y6, by rw [if_neg n10], rfl, t + 4, k, s, [], by rw [List.append_nil]; exact a3, b3, by rw [b6 28 (by decide) (by decide) (by decide)]; exact w28, by rw [b7.2.1 41 (by decide) (by decide) (by decide) (by decide) (by decide)]; exact w41, ?_, fun z => by rw [a6] at z; exact absurd z (by decide), ?_, a4, by rw [← hr]; exact m5.tr b7, by omega, by rw [List.append_nil]; omega, by omega, by omega⟩
          · unfold ruR
            rw [← hr, a5.1, a5.2, a6, a7, a8, b6 29 (by decide) (by decide) (by decide), b6 35 (by decide) (by decide) (by decide), b6 36 (by decide) (by decide) (by decide), b4, b5, w29, w35, w36]
            exact ⟨hlb, htg, Or.inr (Or.inr ⟨rfl, h5, rfl, rfl⟩)⟩
          · rw [← hr, b6 34 (by decide) (by decide) (by decide), v34]; exact Int.le_refl _
  · left
    obtain ⟨x', c1, c2, c3, _⟩ := hx.rf 2
    have qa := hy.uc 29 r (kB (KK f n t)) (by decide)
    obtain ⟨y', d1, d2, d3⟩ := qa.fl 2
    refine ⟨(2, t), x', y', ?_, ?_, c2, d2, c3, ((mQ.rf T r k s y).uc 29 r _ (by decide) (by omega)).tr ((d3 k s).q T r), (by decide : (1 : Int) ≤ 2)⟩
    · unfold dsp
      by_cases z : KK f n t = 18
      · rw [if_neg (by omega), if_pos z, c1, bd_e]
      · rw [if_neg (by omega), if_neg z, if_neg (by omega), if_neg (by omega), if_neg (by omega), if_neg (by omega), c1, bd_e]
    · unfold kyB L_Mo_rule_b205
      rw [hy.iw hN, bd_e, ck_pos cr, ck_pos cr, tn_i, up2_s, ck_pos cr, d1, bd_e]
      by_cases z : kB (KK f n t) < 1
      · rw [if_pos z]
      · rw [if_neg z, if_pos (by have := kB_o (KK f n t) ks; omega)]
