/-! SUMS: the reference's loop -/
def stB (q : Int × Int × Dt) : Option ((Int × Int × Dt) ⊕ (Dt ⊕ Dt ⊕ Dt ⊕ Dt ⊕ Dt)) := L_Mo_sum_y18 q.1 q.2.1 q.2.2
def fiB (q : Dt ⊕ Dt ⊕ Dt ⊕ Dt ⊕ Dt) : Option (Int × Dt) := sm q (fun q105_ => u0 q105_ (fun d86_ => some (0, d86_))) (fun q106_ => sm q106_ (fun q107_ => u0 q107_ (fun d88_ => bd (L_Mo_fails 2 d88_) (fun r91_ d90_ => some (r91_, d90_)))) (fun q108_ => sm q108_ (fun q109_ => u0 q109_ (fun d94_ => bd (L_Mo_fails 5 d94_) (fun r97_ d96_ => some (r97_, d96_)))) (fun q110_ => sm q110_ (fun q111_ => u0 q111_ (fun d100_ => some (1, d100_))) (fun q112_ => u0 q112_ (fun d102_ => some (0, d102_))))))
def flB (f : Nat → Int) (n s : Nat) (y0 : Dt) (g : Nat) (st : Int × Int × Dt) (e : Int × Nat) : Prop := ∃ ρ y', lpF stB g st = some ρ ∧ fiB ρ = some (0, y') ∧ PBE f n s y0 y' e
def ouS (f : Nat → Int) (n N s : Nat) (y0 : Dt) (g : Nat) (st : Int × Int × Dt) (dp : Nat) (yw : Dt) (res : (Nat × List (Int × Int)) ⊕ (Int × Nat)) : Prop :=
  Sum.elim (fun q => if dp = 0 then ∃ y', lpF stB g st = some (Sum.inr (Sum.inr (Sum.inr (Sum.inl y')))) ∧ PB f n N s y0 y' q.1 q.2 else if KK f n q.1 = 41 then ∃ y' g', lpF stB g st = lpF stB g' (((dp - 1 : Nat) : Int), 0, y') ∧ PB f n N s y0 y' (q.1 + 1) q.2 ∧ (∀ j, j < dp → y' 45 j = yw 45 j ∧ y' 46 j = yw 46 j) ∧ N - (q.1 + 1) < g' else flB f n s y0 g st (2, q.1)) (fun e => flB f n s y0 g st e) res
theorem flB.tr {f : Nat → Int} {n s : Nat} {y0 : Dt} {g g1 : Nat} {st st1 : Int × Int × Dt} {e : Int × Nat} (h : flB f n s y0 g1 st1 e) (he : lpF stB g st = lpF stB g1 st1) : flB f n s y0 g st e := by
  obtain ⟨ρ, y', a, b⟩ := h
  exact ⟨ρ, y', by rw [he]; exact a, b⟩
theorem ouS.tr {f : Nat → Int} {n N s : Nat} {y0 : Dt} {g g1 : Nat} {st st1 : Int × Int × Dt} {dp : Nat} {yw yw1 : Dt} {res : (Nat × List (Int × Int)) ⊕ (Int × Nat)} (h : ouS f n N s y0 g1 st1 dp yw1 res) (he : lpF stB g st = lpF stB g1 st1) (hw : ∀ j, j < dp → yw1 45 j = yw 45 j ∧ yw1 46 j = yw 46 j) : ouS f n N s y0 g st dp yw res := by
  cases res with
  | inr e => exact flB.tr (show flB f n s y0 g1 st1 e from h) he
  | inl q =>
    unfold ouS at h ⊢
    rw [Sum.elim_inl] at h ⊢
    by_cases d0 : dp = 0
    · rw [if_pos d0] at h ⊢
      obtain ⟨y', a, b⟩ := h
      exact ⟨y', by rw [he]; exact a, b⟩
    · rw [if_neg d0] at h ⊢
      by_cases k : KK f n q.1 = 41
      · rw [if_pos k] at h ⊢
        obtain ⟨y', g', a, b, c, d⟩ := h
        exact ⟨y', g', by rw [he]; exact a, b, fun j hj => ⟨by rw [(c j hj).1]; exact (hw j hj).1, by rw [(c j hj).2]; exact (hw j hj).2⟩, d⟩
      · rw [if_neg k] at h ⊢
        exact h.tr he
theorem atomB {f : Nat → Int} {n N s : Nat} {y0 : Dt} (hN : tN f n N) (inner : Nat → List (Int × Int) → (Nat × List (Int × Int)) ⊕ (Int × Nat)) {dl dp t : Nat} {acc : List (Int × Int)} {y : Dt} {g : Nat} (hd : dp + dl = 6) (h : PB f n N s y0 y t acc) (hl : s + acc.length < 4000) (hg : N - t < g)
    (hin : dl ≠ 0 → ∀ y1 g1, PB f n N s y0 y1 (t + 1) acc → y1 45 (dp + 1) = 0 → y1 46 (dp + 1) = 0 → N - (t + 1) < g1 → ouS f n N s y0 g1 (((dp + 1 : Nat) : Int), 1, y1) (dp + 1) y1 (inner (t + 1) acc)) :
    Sum.elim (fun r => ∃ y1 g1, lpF stB g ((dp : Int), 1, y) = lpF stB g1 ((dp : Int), 0, y1) ∧ PB f n N s y0 y1 r.1 r.2 ∧ (∀ j, j ≤ dp → y1 45 j = y 45 j ∧ y1 46 j = y 46 j) ∧ N - r.1 < g1) (fun e => flB f n s y0 g ((dp : Int), 1, y) e) (atmS (KK f n) (VV f n) inner dl t acc) := by
  obtain ⟨g', rfl⟩ : ∃ g', g = g' + 1 := ⟨g - 1, by omega⟩
  have hv := PB.va hN h
  have h34 : y 0 34 = tyB f n (ps f n t) := h.1.2.2.2.1
  have h37 : y 0 37 = vB f n (ps f n t) := h.1.2.2.2.2
  have htN : t ≤ N := h.2.2.2.2
  obtain ⟨_, _, _, _, e5, e6, _, e8, _⟩ := tok_e f n (ps f n t) h.1.1.2.2
  have n10 : ¬ ((1 : Int) = 0) := by decide
  have lit : ¬ KK f n t = 0 → ∀ a b, ∃ y1, L_Mo_sum_b74 (dp : Int) a b y = some (Sum.inl ((dp : Int), 0, y1)) ∧ PB f n N s y0 y1 (t + 1) (acc ++ [(a, b)]) ∧ y1 45 = y 45 ∧ y1 46 = y 46 := by
    intro hk a b
    obtain ⟨y1, a1, a2, a3, a4⟩ := h.pt hl a b
    obtain ⟨y2, b1, b2, b3, b4⟩ := a2.nx hN hk
    refine ⟨y2, ?_, b2, by rw [b3, a3], by rw [b4, a4]⟩
    unfold L_Mo_sum_b74
    rw [a1, bd_e, b1, bd_e]
  unfold atmS
  by_cases k2 : KK f n t = 2
  · have k2' : kd f n (ps f n t) = 2 := k2
    have hk0 : ¬ KK f n t = 0 := by omega
    obtain ⟨v1, _, _⟩ := e6 k2'
    obtain ⟨y1, a1, a2, a3, a4⟩ := lit hk0 0 (VV f n t)
    have hs : stB ((dp : Int), 1, y) = some (Sum.inl ((dp : Int), 0, y1)) := by
      show L_Mo_sum_y18 (dp : Int) 1 y = _
      unfold L_Mo_sum_y18
      rw [if_pos h.2.1.1, if_neg n10, hv, bd_e, h34, if_pos (e5.2 k2'), if_neg (show ¬ KK f n t = 4 by omega)]
      unfold L_Mo_sum_b50 L_Mo_sum_b61
      rw [if_pos rfl, if_pos rfl, h37, v1]
      exact a1
    rw [if_pos k2]
    exact ⟨y1, g', lp_l g' hs, a2, fun j _ => ⟨by rw [a3], by rw [a4]⟩, by have := hN.lt htN hk0; show N - (t + 1) < g'; omega⟩
  · rw [if_neg k2]
    have n3 : ¬ tyB f n (ps f n t) = 3 := fun z => k2 (e5.1 z)
    by_cases k4 : KK f n t = 4
    · have k4' : kd f n (ps f n t) = 4 := k4
      have hk0 : ¬ KK f n t = 0 := by omega
      obtain ⟨v1, _⟩ := e8 k4'
      have nv : ¬ VV f n t = -1 := by show ¬ vl f n (ps f n t) = -1; omega
      obtain ⟨y1, a1, a2, a3, a4⟩ := lit hk0 1 (VV f n t)
      have hs : stB ((dp : Int), 1, y) = some (Sum.inl ((dp : Int), 0, y1)) := by
        show L_Mo_sum_y18 (dp : Int) 1 y = _
        unfold L_Mo_sum_y18
        rw [if_pos h.2.1.1, if_neg n10, hv, bd_e, h34, if_neg n3, if_pos k4, if_neg nv]
        unfold L_Mo_sum_b50 L_Mo_sum_b61
        rw [if_neg nv, if_neg nv]
        exact a1
      rw [if_pos k4]
      exact ⟨y1, g', lp_l g' hs, a2, fun j _ => ⟨by rw [a3], by rw [a4]⟩, by have := hN.lt htN hk0; show N - (t + 1) < g'; omega⟩
    · rw [if_neg k4]
      rw [if_neg k4] at hv
      by_cases k40 : KK f n t = 40
      · have hk0 : ¬ KK f n t = 0 := by omega
        rw [if_pos k40]
        obtain ⟨i1, _⟩ := h.s1 (c := 40) (by omega) k40
        by_cases d0 : dl = 0
        · rw [if_pos d0]
          obtain ⟨y', b1, b2⟩ := h.fl 5
          have hs : stB ((dp : Int), 1, y) = some (Sum.inr (Sum.inr (Sum.inr (Sum.inl y)))) := by
            show L_Mo_sum_y18 (dp : Int) 1 y = _
            unfold L_Mo_sum_y18
            rw [if_pos h.2.1.1, if_neg n10, hv, bd_e, h34, if_neg n3, if_pos rfl, i1, bd_e, if_neg n10, if_pos (by omega)]
          refine ⟨_, y', lp_r g' hs, ?_, b2⟩
          unfold fiB
          rw [smr_, smr_, sml_, u0_q, b1, bd_e]
        · rw [if_neg d0]
          obtain ⟨y1, b1, b2, b3, b4⟩ := h.nx hN hk0
          have cd8 : (0 : Int) ≤ ((dp + 1 : Nat) : Int) ∧ ((dp + 1 : Nat) : Int) < 8 := by omega
          have hs : stB ((dp : Int), 1, y) = some (Sum.inl (((dp + 1 : Nat) : Int), 1, up2 (up2 y1 45 (dp + 1) 0) 46 (dp + 1) 0)) := by
            show L_Mo_sum_y18 (dp : Int) 1 y = _
            unfold L_Mo_sum_y18
            rw [if_pos h.2.1.1, if_neg n10, hv, bd_e, h34, if_neg n3, if_pos rfl, i1, bd_e, if_neg n10, if_neg (by omega), b1, bd_e, w32_i (show dp < 2147483647 by omega), ck_pos cd8, ck_pos cd8, tn_i]
          have p1 := (b2.uw 45 (dp + 1) 0 (Or.inl rfl)).uw 46 (dp + 1) 0 (Or.inr rfl)
          have hlt := hN.lt htN hk0
          have o := hin d0 _ g' p1 (by rw [up2_K _ _ _ (by decide), up2_s]) (up2_s _ _ _ _) (by omega)
          have w : ∀ j, j ≤ dp → (up2 (up2 y1 45 (dp + 1) 0) 46 (dp + 1) 0) 45 j = y 45 j ∧ (up2 (up2 y1 45 (dp + 1) 0) 46 (dp + 1) 0) 46 j = y 46 j := by
            intro j hj
            refine ⟨?_, ?_⟩
            · rw [up2_K _ _ _ (by decide), up2_j _ _ _ (by omega), b3]
            · rw [up2_j _ _ _ (by omega), up2_K _ _ _ (by decide), b4]
          cases hi : inner (t + 1) acc with
          | inr e =>
            rw [hi] at o
            exact flB.tr (show flB f n s y0 g' _ e from o) (lp_l g' hs)
          | inl q =>
            rw [hi] at o
            unfold ouS at o
            rw [Sum.elim_inl, if_neg (by omega)] at o
            rw [Sum.elim_inl]
            by_cases k41 : KK f n q.1 = 41
            · rw [if_pos k41] at o ⊢
              obtain ⟨y2, g2, c1, c2, c3, c4⟩ := o
              refine ⟨y2, g2, by rw [lp_l g' hs]; exact c1, c2, fun j hj => ?_, c4⟩
              obtain ⟨z1, z2⟩ := c3 j (by omega)
              rw [z1, z2]; exact w j hj
            · rw [if_neg k41] at o ⊢
              exact o.tr (lp_l g' hs)
      · rw [if_neg k40]
        obtain ⟨y', b1, b2⟩ := h.fl 2
        have hs : stB ((dp : Int), 1, y) = some (Sum.inr (Sum.inr (Sum.inl y))) := by
          show L_Mo_sum_y18 (dp : Int) 1 y = _
          unfold L_Mo_sum_y18
          rw [if_pos h.2.1.1, if_neg n10, hv, bd_e, h34, if_neg n3, if_pos rfl, h.s0 (c := 40) (by omega) k40, bd_e, if_pos rfl]
        refine ⟨_, y', lp_r g' hs, ?_, b2⟩
        unfold fiB
        rw [smr_, sml_, u0_q, b1, bd_e]
