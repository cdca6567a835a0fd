/-! SUMS: the class's loop -/
theorem atm_ok (K V : Nat → Int) (hv : vOk K V) (fu dl t : Nat) (acc : List (Int × Int)) (r : Nat × List (Int × Int)) (hr : atmS K V (fun t' a => sS K V fu (dl - 1) t' false 0 a) dl t acc = Sum.inl r) : t < r.1 ∧ r.2.length ≤ acc.length + (r.1 - t) := by
  unfold atmS at hr
  by_cases k2 : K t = 2
  · rw [if_pos k2] at hr
    rw [← Sum.inl.inj hr]
    exact ⟨by show t < t + 1; omega, by show (acc ++ [(0, V t)]).length ≤ acc.length + (t + 1 - t); rw [List.length_append]; show acc.length + 1 ≤ _; omega⟩
  · rw [if_neg k2] at hr
    by_cases k4 : K t = 4
    · rw [if_pos k4] at hr
      rw [← Sum.inl.inj hr]
      exact ⟨by show t < t + 1; omega, by show (acc ++ [(1, V t)]).length ≤ acc.length + (t + 1 - t); rw [List.length_append]; show acc.length + 1 ≤ _; omega⟩
    · rw [if_neg k4] at hr
      by_cases k40 : K t = 40
      · rw [if_pos k40] at hr
        by_cases d0 : dl = 0
        · rw [if_pos d0] at hr; cases hr
        · rw [if_neg d0] at hr
          dsimp only at hr
          cases hi : sS K V fu (dl - 1) (t + 1) false 0 acc with
          | inr e => rw [hi] at hr; simp only [Sum.elim_inr] at hr; cases hr
          | inl q =>
            rw [hi] at hr
            simp only [Sum.elim_inl] at hr
            obtain ⟨a1, seg, a2, a3, a4⟩ := sS_ok K V hv fu (dl - 1) (t + 1) false 0 acc q.1 q.2 (Or.inl rfl) hi
            have h0 : hO false 0 = 0 := rfl
            by_cases k41 : K q.1 = 41
            · rw [if_pos k41] at hr
              rw [← Sum.inl.inj hr]
              exact ⟨by show t < q.1 + 1; omega, by show q.2.length ≤ acc.length + (q.1 + 1 - t); rw [a2, List.length_append]; omega⟩
            · rw [if_neg k41] at hr; cases hr
      · rw [if_neg k40] at hr; cases hr
theorem sumA_lp {f : Nat → Int} {n N T : Nat} {x0 : Dt} {C : List Int} (hb : ∀ k, k < n → -128 ≤ f k ∧ f k ≤ 127) : ∀ (fu dl m t i : Nat) (times : Bool) (op : Int) (acc : List (Int × Int)) (x : Dt) (fuel : Nat), dl ≤ 6 → dl ≤ m → (op = 0 ∨ op = 43 ∨ op = 45) → PA f n N T x0 x t (C ++ codeS acc) → C.length + acc.length + hO times op ≤ t → 2 * i ≤ t → N - t < fu → fu ≤ fuel → fu ≤ 1000 → ∃ r x', lpF (fun q : Int × Int × Int × Int × Dt => L_Pa_takeSum_y7 (TS m) q.1 q.2.1 q.2.2.1 q.2.2.2.1 q.2.2.2.2) fuel (((6 - dl : Nat) : Int), b2i times, (if op = 0 then -1 else op), (i : Int), x) = some r ∧ Sum.elim (fun q => r = Sum.inr (Sum.inr x') ∧ PA f n N T x0 x' q.1 (C ++ codeS q.2)) (fun e => r = Sum.inr (Sum.inl x') ∧ PE f n T x0 x' e) (sS (KK f n) (VV f n) fu dl t times op acc) := by
  intro fu
  induction fu with
  | zero => intro dl m t i times op acc x fuel _ _ _ _ _ _ h _ _; omega
  | succ fu ih =>
    intro dl m t i times op acc x fuel hdl hm hop h hl hi hfu hfuel h1000
    obtain ⟨g, rfl⟩ : ∃ g, fuel = g + 1 := ⟨fuel - 1, by omega⟩
    have hN := h.1.1.1
    have hn := h.1.2.2.2
    have htN := h.1.2.2.1
    have hv := vOk_e f n hb
    obtain ⟨r, x1, a1, a2⟩ := atomA_e hb h (by omega) (TS m) dl hdl (fun t' a => sS (KK f n) (VV f n) fu (dl - 1) t' false 0 a)
      (by
        intro d0 y hy
        obtain ⟨m', rfl⟩ : ∃ m', m = m' + 1 := ⟨m - 1, by omega⟩
        have htl : t + 1 ≤ N := hy.1.2.2.1
        obtain ⟨r, y', b1, b2⟩ := ih (dl - 1) m' (t + 1) 0 false 0 acc y FU (by omega) (by omega) (Or.inl rfl) hy (by show C.length + acc.length + 0 ≤ t + 1; omega) (by omega) (by omega) (by show fu ≤ 1000000; omega) (by omega)
        show ∃ r x2, L_Pa_takeSum (TS m') ((6 - dl + 1 : Nat) : Int) y = some (r, x2) ∧ _
        unfold L_Pa_takeSum L_Pa_takeSum_l7
        rw [show 6 - dl + 1 = 6 - (dl - 1) by omega]
        rw [show lpF (fun q : Int × Int × Int × Int × Dt => L_Pa_takeSum_y7 (TS m') q.1 q.2.1 q.2.2.1 q.2.2.2.1 q.2.2.2.2) FU (((6 - (dl - 1) : Nat) : Int), 0, -1, 0, y) = _ from b1, lb_e]
        cases hs : sS (KK f n) (VV f n) fu (dl - 1) (t + 1) false 0 acc with
        | inl q =>
          rw [hs] at b2
          obtain ⟨rfl, b3⟩ := b2
          rw [smr_, smr_, u0_q]
          exact ⟨_, _, rfl, rfl, b3⟩
        | inr e =>
          rw [hs] at b2
          obtain ⟨rfl, b3⟩ := b2
          rw [smr_, sml_, u0_q]
          exact ⟨_, _, rfl, rfl, b3⟩)
    unfold lpF
    simp only [sS]
    unfold L_Pa_takeSum_y7
    rw [if_pos (by omega), a1, bd_e]
    cases ha : atmS (KK f n) (VV f n) (fun t' a => sS (KK f n) (VV f n) fu (dl - 1) t' false 0 a) dl t acc with
    | inr e =>
      rw [ha] at a2
      obtain ⟨rfl, a3⟩ := a2
      rw [if_pos rfl]
      exact ⟨_, x1, rfl, rfl, a3⟩
    | inl q =>
      rw [ha] at a2
      obtain ⟨rfl, a3⟩ := a2
      obtain ⟨o1, o2⟩ := atm_ok _ _ hv fu dl t acc q ha
      rw [if_neg (by decide)]
      have kk : ∀ u, KK f n u = kd f n (ps f n u) := fun u => rfl
      have hcl : ∀ (l : List (Int × Int)), (C ++ codeS l).length = C.length + l.length := fun l => by unfold codeS; rw [List.length_append, List.length_map]
      have hq1 : q.1 ≤ N := a3.1.2.2.1
      have hO1 : hO times op = (if times = true then 1 else 0) + (if op = 0 then 0 else 1) := rfl
      -- the open *
      obtain ⟨a1l, ha1l⟩ : ∃ l, l = (if times = true then q.2 ++ [((42 : Int), (0 : Int))] else q.2) := ⟨_, rfl⟩
      have len1 : a1l.length ≤ q.2.length + (if times = true then 1 else 0) := by
        rw [ha1l]; cases times <;> simp
      have star : ∃ x2, (if b2i times = 0 then L_Pa_takeSum_b38 (TS m) ((6 - dl : Nat) : Int) (if op = 0 then -1 else op) (i : Int) x1 else ck (stt x1 (x1 25 6)) (bd (L_St_addCode (x1 25 6) 42 x1) (fun r31_ d30_ => L_Pa_takeSum_b38 (TS m) ((6 - dl : Nat) : Int) (if op = 0 then -1 else op) (i : Int) d30_))) = L_Pa_takeSum_b38 (TS m) ((6 - dl : Nat) : Int) (if op = 0 then -1 else op) (i : Int) x2 ∧ PA f n N T x0 x2 q.1 (C ++ codeS a1l) := by
        cases times
        · rw [if_pos (by decide)]
          rw [if_neg (by decide)] at ha1l
          exact ⟨x1, rfl, by rw [ha1l]; exact a3⟩
        · rw [if_neg (by decide)]
          rw [if_pos rfl] at ha1l
          rw [if_pos rfl] at hO1
          obtain ⟨x2, b1, b2, b3⟩ := a3.ad (by rw [hcl]; omega) 42
          rw [ck_pos b2, b1, bd_e]
          exact ⟨x2, rfl, by rw [ha1l, codeS_app, ← List.append_assoc]; exact b3⟩
      obtain ⟨x2, s1, s2⟩ := star
      rw [s1]
      show ∃ r x', _ ∧ Sum.elim _ _ (if KK f n q.1 = 42 then _ else _)
      rw [← ha1l]
      unfold L_Pa_takeSum_b38 L_Pa_takeSum_b52 L_Pa_takeSum_b89
      rw [kind_e s2.1, bd_e, kk]
      by_cases k42 : kd f n (ps f n q.1) = 42
      · obtain ⟨x3, c1, c2⟩ := s2.nx (by omega)
        have e1 : hO true op = 1 + (if op = 0 then 0 else 1) := rfl
        rw [if_pos k42, if_pos k42, if_neg (by decide), c1, bd_e, w32_i (show i < 2147483647 by omega)]
        exact ih dl m (q.1 + 1) (i + 1) true op a1l x3 g hdl hm hop c2 (by rw [e1]; omega) (by omega) (by have := c2.1.2.2.1; omega) (by omega) (by omega)
      · rw [if_neg k42, if_neg k42, if_pos rfl]
        obtain ⟨a2l, ha2l⟩ : ∃ l, l = a1l ++ (if op = 0 then [] else [(op, (0 : Int))]) := ⟨_, rfl⟩
        have len2 : a2l.length = a1l.length + (if op = 0 then 0 else 1) := by
          rw [ha2l, List.length_append]; by_cases z : op = 0 <;> simp [z]
        have plus : ∃ x3, (if (if op = 0 then (-1 : Int) else op) = -1 then L_Pa_takeSum_b70 (TS m) ((6 - dl : Nat) : Int) 0 (i : Int) x2 else ck (stt x2 (x2 25 6)) (bd (L_St_addCode (x2 25 6) (if op = 0 then -1 else op) x2) (fun r14_ d13_ => L_Pa_takeSum_b70 (TS m) ((6 - dl : Nat) : Int) 0 (i : Int) d13_))) = L_Pa_takeSum_b70 (TS m) ((6 - dl : Nat) : Int) 0 (i : Int) x3 ∧ PA f n N T x0 x3 q.1 (C ++ codeS a2l) := by
          by_cases z : op = 0
          · rw [if_pos z, if_pos rfl]
            rw [if_pos z, List.append_nil] at ha2l
            exact ⟨x2, rfl, by rw [ha2l]; exact s2⟩
          · rw [if_neg z, if_neg (by omega)]
            rw [if_neg z] at ha2l hO1
            obtain ⟨x3, b1, b2, b3⟩ := s2.ad (by rw [hcl]; omega) op
            rw [ck_pos b2, b1, bd_e]
            refine ⟨x3, rfl, ?_⟩
            rw [ha2l, codeS_app, ← List.append_assoc]
            have : codeS [(op, (0 : Int))] = [op] := by unfold codeS encS; simp; omega
            rw [this]; exact b3
        obtain ⟨x3, p1, p2⟩ := plus
        rw [p1, ← ha2l]
        unfold L_Pa_takeSum_b70 L_Pa_takeSum_b89
        rw [kind_e p2.1, bd_e]
        have fin : (kd f n (ps f n q.1) = 43 ∨ kd f n (ps f n q.1) = 45) → ∃ x4, L_Pa_next x3 = some (0, x4) ∧ PA f n N T x0 x4 (q.1 + 1) (C ++ codeS a2l) := fun hz => p2.nx (by omega)
        have e1 : (kd f n (ps f n q.1) = 43 ∨ kd f n (ps f n q.1) = 45) → hO false (kd f n (ps f n q.1)) = 1 := fun hz => by unfold hO; rw [if_neg (show ¬ kd f n (ps f n q.1) = 0 by omega)]; rfl
        by_cases kp : kd f n (ps f n q.1) = 43 ∨ kd f n (ps f n q.1) = 45
        · obtain ⟨x4, c1, c2⟩ := fin kp
          have ee := ih dl m (q.1 + 1) (i + 1) false (kd f n (ps f n q.1)) a2l x4 g hdl hm (Or.inr kp) c2 (by rw [e1 kp]; omega) (by omega) (by have := c2.1.2.2.1; omega) (by omega) (by omega)
          rw [if_neg (show ¬ kd f n (ps f n q.1) = 0 by omega)] at ee
          rw [if_pos kp, c1, bd_e, w32_i (show i < 2147483647 by omega)]
          rcases kp with z | z
          · rw [if_pos z]; exact ee
          · rw [if_neg (by omega), if_pos z]; exact ee
        · rw [if_neg kp, if_neg (fun z => kp (Or.inl z)), if_neg (fun z => kp (Or.inr z))]
          exact ⟨_, x3, rfl, rfl, p2⟩
