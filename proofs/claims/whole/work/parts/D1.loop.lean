/-! a RULE, both sides -/
theorem ruleJ {f : Nat → Int} {n N O B T t m k s : Nat} {x y : Dt} {C : List Int} (hN : tN f n N) (hB : B ≤ 3000) (hO1 : O ≤ 1200) (hT : T ≤ 4) (hx : CS f n N T x t C m) (hy : QB f n N O B y t k s) (h41 : y 0 41 = (T : Int)) (h28 : y 28 T = (m : Int)) (hm : m ≤ 20) (hl : C.length ≤ t) (hlb : ∀ i, i < m → lbR (x (79 + 7 * T + 1) i) (y 35 (20 * T + i))) :
    bad f n T (20 * T + m) k s x y (L_Pa_takeRule x) (L_Mo_rule y) ∨ ∃ (x' y' : Dt) (t' k' s' : Nat) (D : List Int), L_Pa_takeRule x = some (1, x') ∧ L_Mo_rule y = some (1, y') ∧ m < 20 ∧ t < t' ∧ k ≤ k' ∧ s ≤ s' ∧ (C ++ D).length ≤ t' ∧ CS f n N T x' t' (C ++ D) (m + 1) ∧ QB f n N O B y' t' k' s' ∧ (y' 0 41 = (T : Int) ∧ y' 28 T = ((m + 1 : Nat) : Int)) ∧ ruR x' y' T m ∧ (x' (79 + 7 * T + 3) m ≤ 20 → x' (79 + 7 * T + 5) m ≤ ((C ++ D).length : Int)) ∧ y' 34 (20 * T + m) ≤ (k' : Int) ∧ rF T m C.length x x' ∧ mQ T (20 * T + m) k s y y' := by
  have n10 : ¬ ((1 : Int) = 0) := by decide
  rcases labJ hN hT hx hy h41 h28 hm hlb with ⟨e, x', y', l1, l2, l3⟩ | ⟨x1, y1, t1, l1, l2, m20, lt1, hx1, hy1, ⟨k28, k41⟩, lb, tg, fr1, mq1⟩
  · left
    exact ⟨e, x', y', by rw [tkR_e, l1, bd_e, if_pos rfl], l2, l3⟩
  · obtain ⟨r2, x2, p1, p2⟩ := hx1.pz 58 (by decide)
    rcases hy1.wt hN (c := 58) (by decide) with ⟨q, y2, w1, hy2, w3⟩ | ⟨q, y2, w1, w2, w3⟩
    · rw [if_pos q] at p2
      obtain ⟨rfl, hx2, fr2, lb2'⟩ := p2
      have LA : L_Pa_takeRule x = dsp (KK f n (t1 + 1)) x2 := by rw [tkR_e, l1, bd_e, if_neg n10, p1, bd_e, if_neg n10, hx2.kn, bd_e]
      have LB : L_Mo_rule y = kyB ((20 * T + m : Nat) : Int) y2 := by rw [l2, b161_e, w1, bd_e, if_neg n10]
      have mq2 : mQ T (20 * T + m) k s y y2 := mq1.tr ((w3.g k s).q T _)
      have fr2' : rF T m C.length x x2 := fr1.tr (fr2 m)
      rw [LA, LB]
      rcases bodyJ hN hB hO1 hT m20 hx2 hy2 (by omega) (by rw [lb2' 1 (by decide) (by decide), w3.1 35 (by decide)]; exact lb) (by rw [lb2' 2 (by decide) (by decide), w3.1 36 (by decide)]; exact tg) with ⟨e, x', y', b1, b2, b3, b4, b5, b6, b7⟩ | ⟨x3, y6, b1, b2, tq, k', s', D, c1, c2, c3, c4, c5, c6, c7, c8, c9, c10, c11, c12, c13⟩
      · left
        exact ⟨e, x', y', b1, b2, b3, b4, (fr2'.mo (by omega) (by omega)).tr b5, mq2.tr b6, b7⟩
      · have v28 : y6 28 T = (m : Int) := by rw [c3, w3.1 28 (by decide), k28]; exact h28
        have v41 : y6 0 41 = (T : Int) := by rw [c4, w3.2 41 (by decide) (by decide) (by decide) (by decide)]; exact k41
        rw [b1, b2]
        rcases endJ hN hT m20 c1 c2 v41 v28 (20 * T + m) with ⟨e, x', y', d1, d2, d3, d4, d5, d6, d7⟩ | ⟨x', y', d1, d2, d3, d4, d5, d6, d7, d8, d9⟩
        · left
          exact ⟨e, x', y', d1, d2, d3, d4, ((fr2'.mo (by omega) (by omega)).tr (c8.mo (by omega) (by omega))).tr d5, (mq2.tr c9).tr (d6.mo (Nat.le_refl _) c12 c13), d7⟩
        · right
          refine ⟨x', y', tq + 1, k', s', D, d1, d2, m20, by omega, c12, c13, by omega, d3, d4, d5, ?_, ?_, ?_, (fr2'.tr c8).tr ((d8 m).mo (Nat.le_refl m) (by rw [List.length_append]; omega)), (mq2.tr c9).tr (d7.mo (Nat.le_refl _) c12 c13)⟩
          · refine ru_trB (ru_trA c5 (fun a a1 a2 => by rw [d9 a a1 a2]) c6 (d8 0).2.2.2) (fun c a b => by rw [d6 c (by omega) (by omega)]) c7 c2.2.2.2.2 (fun c i a b _ => by rw [d6 c (by omega) (by omega)]) (fun i _ => ⟨by rw [d6 43 (by decide) (by decide)], by rw [d6 44 (by decide) (by decide)]⟩)
          · rw [d9 3 (by decide) (by decide), d9 5 (by decide) (by decide)]; exact c6
          · rw [d6 34 (by decide) (by decide)]; exact c7
    · rw [if_neg q] at p2
      obtain ⟨rfl, p3, p4⟩ := p2
      left
      refine ⟨(2, t1), x2, y2, ?_, ?_, p3, w2, (fr1.mo (by omega) (by omega)).tr p4, mq1.tr ((w3 k s).q T _), (by decide : (1 : Int) ≤ 2)⟩
      · rw [tkR_e, l1, bd_e, if_neg n10, p1, bd_e, if_pos rfl]
      · rw [l2, b161_e, w1, bd_e, if_pos rfl]
/-! all RULES of a TEXT, both sides -/
def JJ (f : Nat → Int) (n N O B T : Nat) (x0 y0 : Dt) (k0 s0 : Nat) (x y : Dt) (t m k s : Nat) (C : List Int) : Prop := CS f n N T x t C m ∧ QB f n N O B y t k s ∧ (y 0 41 = (T : Int) ∧ y 28 T = (m : Int)) ∧ (m ≤ 20 ∧ C.length ≤ t ∧ k0 ≤ k ∧ s0 ≤ s) ∧ (∀ i, i < m → ruR x y T i ∧ (x (79 + 7 * T + 3) i ≤ 20 → x (79 + 7 * T + 5) i ≤ (C.length : Int)) ∧ y 34 (20 * T + i) ≤ (k : Int)) ∧ rF T 0 0 x0 x ∧ mQ T (20 * T) k0 s0 y0 y
def stK (q : Int × Int × Dt) : Option ((Int × Int × Dt) ⊕ (Int × Dt)) := L_Pa_take_y36 q.1 q.2.1 q.2.2
def stX (q : Int × Int × Int × Int × Dt) : Option ((Int × Int × Int × Int × Dt) ⊕ (Int × Int × Int × Int × Dt)) := L_Mo_text_y130 q.1 q.2.1 q.2.2.1 q.2.2.2.1 q.2.2.2.2
theorem nlt_ {N t t' fu : Nat} (h1 : N - t < fu + 1) (h2 : t < t') (h3 : t' ≤ N) : N - t' < fu := by omega
theorem nle_ {fu g : Nat} (h : fu + 1 + 2 ≤ g + 1) : fu + 2 ≤ g := by omega
theorem loopJ {f : Nat → Int} {n N O B T : Nat} {x0 y0 : Dt} {k0 s0 : Nat} (hN : tN f n N) (hB : B ≤ 3000) (hO1 : O ≤ 1200) (hT : T ≤ 4) (a2 a3 a4 a5 : Int) : ∀ (fu : Nat) (x y : Dt) (t m k s : Nat) (C : List Int) (gA gB : Nat), JJ f n N O B T x0 y0 k0 s0 x y t m k s C → N - t < fu → fu + 2 ≤ gA → fu + 2 ≤ gB →
    (∃ e x' y', lpF stK gA (1, (m : Int), x) = some (0, x') ∧ lpF stX gB (a2, a3, a4, a5, y) = some (a2, a3, a4, a5, y') ∧ FA f n x' e ∧ QE f n y' e ∧ rF T 0 0 x0 x' ∧ mQ T (20 * T) k0 s0 y0 y' ∧ 1 ≤ e.1) ∨
    ∃ (x' y' : Dt) (t' m' k' s' : Nat) (C' : List Int), lpF stK gA (1, (m : Int), x) = some (1, x') ∧ lpF stX gB (a2, a3, a4, a5, y) = some (a2, a3, a4, a5, y') ∧ JJ f n N O B T x0 y0 k0 s0 x' y' t' m' k' s' C' := by
  have n10 : ¬ ((1 : Int) = 0) := by decide
  intro fu
  induction fu with
  | zero => intro x y t m k s C gA gB _ h _ _; omega
  | succ fu ih =>
    intro x y t m k s C gA gB h hfu hgA hgB
    obtain ⟨ga, rfl⟩ : ∃ g, gA = g + 1 := ⟨gA - 1, by omega⟩
    obtain ⟨gb, rfl⟩ : ∃ g, gB = g + 1 := ⟨gB - 1, by omega⟩
    obtain ⟨hx, hy, ⟨h41, h28⟩, ⟨hm, hl, hk0, hs0⟩, hr, fx, fy⟩ := id h
    have h34 : y 0 34 = tyB f n (ps f n t) := hy.1.2.2.2.1
    obtain ⟨_, _, _, e4, _⟩ := tok_e f n (ps f n t) hN.2.2.2
    by_cases k00 : KK f n t = 0
    · right
      refine ⟨x, y, t, m, k, s, C, lp_r ga ?_, lp_r gb ?_, h⟩
      · show L_Pa_take_y36 1 (m : Int) x = _
        unfold L_Pa_take_y36
        rw [if_neg (by omega), if_neg n10, hx.kn, bd_e, if_pos k00]
      · show L_Mo_text_y130 a2 a3 a4 a5 y = _
        unfold L_Mo_text_y130
        rw [h34, if_pos (e4.2 k00)]
    · have sA : stK (1, (m : Int), x) = bd (L_Pa_takeRule x) (fun r9_ d8_ => some (Sum.inl (r9_, ((m + 1 : Nat) : Int), d8_))) := by
        show L_Pa_take_y36 1 (m : Int) x = _
        unfold L_Pa_take_y36
        rw [if_neg (by omega), if_neg n10, hx.kn, bd_e, if_neg k00, w32_i (show m < 2147483647 by omega)]
      have sB : stX (a2, a3, a4, a5, y) = bd (L_Mo_rule y) (fun r10_ d9_ => if r10_ = 0 then some (Sum.inl (a2, a3, a4, a5, (up2 d9_ 0 40 (jmax 1 (d9_ 0 40))))) else some (Sum.inl (a2, a3, a4, a5, d9_))) := by
        show L_Mo_text_y130 a2 a3 a4 a5 y = _
        unfold L_Mo_text_y130
        rw [h34, if_neg (fun z => k00 (e4.1 z)), if_pos hy.2.1.1]
      rcases ruleJ hN hB hO1 hT hx hy h41 h28 hm hl (fun i hi => (hr i hi).1.1) with ⟨e, x', y', r1, r2, r3, r4, r5, r6, r7⟩ | ⟨x', y', t', k', s', D, r1, r2, r3, r4, r5, r6, r7, r8, r9, r10, r11, r12, r13, r14, r15⟩
      · left
        rw [r1, bd_e] at sA
        rw [r2, bd_e, if_pos rfl] at sB
        have f40 : 1 ≤ y' 0 40 := by
          rw [r4.1]; unfold ftK
          by_cases z : kd f n (ps f n e.2) = 1
          · rw [if_pos z]; exact Int.le_refl 1
          · rw [if_neg z]; exact r7
        have j40 : jmax 1 (y' 0 40) = y' 0 40 := by
          unfold jmax
          split <;> omega
        rw [j40] at sB
        obtain ⟨y2, hy2⟩ : ∃ y2, y2 = up2 y' 0 40 (y' 0 40) := ⟨_, rfl⟩
        rw [← hy2] at sB
        have e40 : y2 0 40 = y' 0 40 := by rw [hy2, up2_s]
        have e39 : y2 0 39 = y' 0 39 := by rw [hy2, up2_j _ _ _ (by decide)]
        obtain ⟨ga', rfl⟩ : ∃ g, ga = g + 1 := ⟨ga - 1, by omega⟩
        obtain ⟨gb', rfl⟩ : ∃ g, gb = g + 1 := ⟨gb - 1, by omega⟩
        have sA2 : stK (0, ((m + 1 : Nat) : Int), x') = some (Sum.inr (0, x')) := by
          show L_Pa_take_y36 0 ((m + 1 : Nat) : Int) x' = _
          unfold L_Pa_take_y36
          by_cases z : (20 : Int) < ((m + 1 : Nat) : Int)
          · rw [if_pos z]
          · rw [if_neg z, if_pos rfl]
        have sB2 : stX (a2, a3, a4, a5, y2) = some (Sum.inr (a2, a3, a4, a5, y2)) := by
          show L_Mo_text_y130 a2 a3 a4 a5 y2 = _
          unfold L_Mo_text_y130
          by_cases z : y2 0 34 = 0
          · rw [if_pos z]
          · rw [if_neg z, if_neg (by omega)]
        have m2 : mQ T (20 * T) k0 s0 y' y2 := by rw [hy2]; exact ((mG.rf k0 s0 y').uf 40 _ (by omega)).q T _
        exact ⟨e, x', y2, (lp_l (ga' + 1) sA).trans (lp_r ga' sA2), (lp_l (gb' + 1) sB).trans (lp_r gb' sB2), r3, ⟨by rw [e40]; exact r4.1, by rw [e39]; exact r4.2⟩, fx.tr r5, (fy.tr (r6.mo (by omega) hk0 hs0)).tr m2, r7⟩
      · rw [r1, bd_e] at sA
        rw [r2, bd_e, if_neg n10] at sB
        have ht' : t' ≤ N := r8.1.2.2.1
        have hj : JJ f n N O B T x0 y0 k0 s0 x' y' t' (m + 1) k' s' (C ++ D) := by
          refine ⟨r8, r9, r10, ⟨by omega, r7, by omega, by omega⟩, fun i hi => ?_, fx.tr (r14.mo (by omega) (by omega)), fy.tr (r15.mo (by omega) hk0 hs0)⟩
          by_cases z : i = m
          · rw [z]; exact ⟨r11, r12, r13⟩
          · have hi' : i < m := by omega
            obtain ⟨g1, g2, g3⟩ := hr i hi'
            have ea : ∀ a, 1 ≤ a → a ≤ 5 → x' (79 + 7 * T + a) i = x (79 + 7 * T + a) i := fun a q1 q2 => r14.2.2.1 a i q1 q2 hi'
            have eb : ∀ c, 29 ≤ c → c ≤ 36 → y' c (20 * T + i) = y c (20 * T + i) := fun c q1 q2 => r15.2.2.2.1 c _ q1 q2 (by omega)
            refine ⟨ru_trB (ru_trA g1 ea g2 r14.2.2.2) eb g3 hy.2.2.2.2 r15.2.2.2.2.1 r15.2.2.2.2.2, ?_, by rw [eb 34 (by decide) (by decide)]; omega⟩
            rw [ea 3 (by decide) (by decide), ea 5 (by decide) (by decide)]
            intro q
            have := g2 q
            rw [List.length_append]; omega
        rcases ih x' y' t' (m + 1) k' s' (C ++ D) ga gb hj (nlt_ hfu r4 ht') (nle_ hgA) (nle_ hgB) with ⟨e, x2, y2, i1, i2, i3⟩ | ⟨x2, y2, t2, m2, k2, s2, C2, i1, i2, i3⟩
        · exact Or.inl ⟨e, x2, y2, (lp_l ga sA).trans i1, (lp_l gb sB).trans i2, i3⟩
        · exact Or.inr ⟨x2, y2, t2, m2, k2, s2, C2, (lp_l ga sA).trans i1, (lp_l gb sB).trans i2, i3⟩
