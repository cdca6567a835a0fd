/-! TESTS: the class's loop -/
theorem codeO_len (o : One) : (codeO o).length = o.2.2.2.1.length + o.2.2.2.2.length + 1 + (if o.2.1 = true then 1 else 0) := by
  unfold codeO codeS
  simp only [List.length_append, List.length_map, List.length_cons, List.length_nil]
  split <;> simp <;> omega
def stT (q : Int × Int × Int × Dt) : Option ((Int × Int × Int × Dt) ⊕ (Dt ⊕ Dt ⊕ Dt ⊕ Dt ⊕ Dt)) := L_Pa_takeTest_y6 q.1 q.2.1 q.2.2.1 q.2.2.2
theorem testA_lp {f : Nat → Int} {n N T : Nat} {x0 : Dt} (hb : ∀ k, k < n → -128 ≤ f k ∧ f k ≤ 127) : ∀ (fu t i : Nat) (b orO : Bool) (C : List Int) (x : Dt) (g : Nat), PA f n N T x0 x t C → C.length + (if b = true then 0 else 1) + (if orO = true then 1 else 0) ≤ t → 2 * i ≤ t → N - t < fu → fu ≤ g → ∃ ρ r x', lpF stT g (b2i (!b), b2i orO, (i : Int), x) = some ρ ∧ fiT ρ = some (r, x') ∧ Sum.elim (fun q => r = 1 ∧ PA f n N T x0 x' q.1 (C ++ cgo orO q.2)) (fun e => r = 0 ∧ PE f n T x0 x' e) (tsS (KK f n) (VV f n) fu t b) := by
  intro fu
  induction fu with
  | zero => intro t i b orO C x g _ _ _ h _; omega
  | succ fu ih =>
    intro t i b orO C x g h hl hi hfu hg
    obtain ⟨g', rfl⟩ : ∃ g', g = g' + 1 := ⟨g - 1, by omega⟩
    have hv := vOk_e f n hb
    have n10 : ¬ ((1 : Int) = 0) := by decide
    have hNn := h.1.1.1
    have hn6 := h.1.2.2.2
    have htN := h.1.2.2.1
    have A := oneA_e hb h (by omega) (b2i (!b)) (b2i orO) i (by omega) b
    simp only [tsS]
    cases h1 : oneS (KK f n) (VV f n) t with
    | inr e =>
      rw [h1] at A
      obtain ⟨ρ, x', a1, a2, a3⟩ := A
      rw [Sum.elim_inr]
      exact ⟨ρ, 0, x', lp_r g' (show stT (b2i (!b), b2i orO, (i : Int), x) = _ from a1), a2, rfl, a3⟩
    | inl q =>
      rw [h1] at A
      obtain ⟨xa, a1, a2⟩ := A
      obtain ⟨o1, o2, t1, t2, o3, o4, o5, o6, o7, o8, o9, o10, o11, o12⟩ := oneS_ok _ _ hv h1
      have hcl := codeO_len (b, q.2)
      dsimp only at hcl
      have hnot : t1 = t + (if q.2.1 = true then 1 else 0) := by
        rw [o3, o7]
        by_cases k : KK f n t = 26
        · rw [if_pos k, decide_eq_true k, if_pos rfl]
        · rw [if_neg k, decide_eq_false k, if_neg (by decide), Nat.add_zero]
      have hq1 : q.1 ≤ N := a2.1.2.2.1
      rw [Sum.elim_inl]
      try dsimp only
      obtain ⟨C1, hC1⟩ : ∃ C1, C1 = C ++ codeO (b, q.2) := ⟨_, rfl⟩
      have l1 : C1.length = C.length + (codeO (b, q.2)).length := by rw [hC1, List.length_append]
      rw [← hC1] at a2
      obtain ⟨C2, hC2⟩ : ∃ C2, C2 = C1 ++ (if b = true then [] else [(25 : Int)]) := ⟨_, rfl⟩
      have l2 : C2.length = C1.length + (if b = true then 0 else 1) := by rw [hC2, List.length_append]; cases b <;> simp
      have st1 : ∃ xb, L_Pa_takeTest_b118 (b2i (!b)) (b2i orO) (i : Int) xa = L_Pa_takeTest_b131 (b2i orO) (i : Int) xb ∧ PA f n N T x0 xb q.1 C2 := by
        unfold L_Pa_takeTest_b118
        cases b
        · rw [if_neg (by decide)] at hC2 hl
          rw [if_neg (by decide)]
          obtain ⟨xb, c1, c2, c3⟩ := a2.ad (by omega) 25
          rw [ck_pos c2, c1, bd_e]
          exact ⟨xb, rfl, by rw [hC2]; exact c3⟩
        · rw [if_pos rfl, List.append_nil] at hC2
          rw [if_pos (by decide)]
          exact ⟨xa, rfl, by rw [hC2]; exact a2⟩
      obtain ⟨xb, b1, b2⟩ := st1
      have hC2' : C2 = C ++ (codeO (b, q.2) ++ (if b = true then [] else [25])) := by rw [hC2, hC1, List.append_assoc]
      by_cases k25 : KK f n q.1 = 25
      · have k25' : kd f n (ps f n q.1) = 25 := k25
        rw [if_pos k25]
        obtain ⟨xc, c1, c2⟩ := b2.nx (by omega)
        have hs : stT (b2i (!b), b2i orO, (i : Int), x) = some (Sum.inl (b2i (!false), b2i orO, ((i + 1 : Nat) : Int), xc)) := by
          show L_Pa_takeTest_y6 (b2i (!b)) (b2i orO) (i : Int) x = _
          rw [a1, b1]
          unfold L_Pa_takeTest_b131
          rw [kind_e b2.1, bd_e, if_pos k25']
          unfold L_Pa_takeTest_b145
          rw [if_neg n10]
          unfold L_Pa_takeTest_b184
          rw [c1, bd_e, w32_i (show i < 2147483647 by omega)]
          rfl
        have hc2 : q.1 + 1 ≤ N := c2.1.2.2.1
        obtain ⟨ρ, r, x', d1, d2, d3⟩ := ih (q.1 + 1) (i + 1) false orO C2 xc g' c2 (by rw [if_neg (by decide)]; omega) (by omega) (by omega) (by omega)
        refine ⟨ρ, r, x', (lp_l g' hs).trans d1, d2, ?_⟩
        cases h2 : tsS (KK f n) (VV f n) fu (q.1 + 1) false with
        | inr e => rw [h2] at d3; exact d3
        | inl u =>
          rw [h2] at d3
          obtain ⟨rfl, d4⟩ := d3
          have hnb := (tsS_ok _ _ hv fu (q.1 + 1) false u.1 u.2 h2).2.1
          refine ⟨rfl, ?_⟩
          show PA f n N T x0 x' u.1 (C ++ cgo orO ((b, q.2) :: u.2))
          simp only [cgo]
          rw [hnb, Bool.false_and, if_neg (show ¬ (false = true) by decide), Bool.or_false, List.nil_append, ← List.append_assoc (codeO (b, q.2)), ← List.append_assoc C, ← hC2']
          exact d4
      · have k25' : ¬ kd f n (ps f n q.1) = 25 := k25
        rw [if_neg k25]
        obtain ⟨C3, hC3⟩ : ∃ C3, C3 = C2 ++ (if orO = true then [(24 : Int)] else []) := ⟨_, rfl⟩
        have l3 : C3.length = C2.length + (if orO = true then 1 else 0) := by rw [hC3, List.length_append]; cases orO <;> simp
        have st2 : ∃ xc, L_Pa_takeTest_b131 (b2i orO) (i : Int) xb = L_Pa_takeTest_b163 0 (i : Int) xc ∧ PA f n N T x0 xc q.1 C3 := by
          unfold L_Pa_takeTest_b131
          rw [kind_e b2.1, bd_e, if_neg k25']
          unfold L_Pa_takeTest_b145
          rw [if_pos rfl]
          cases orO
          · rw [if_neg (by decide), List.append_nil] at hC3
            rw [if_pos (by decide)]
            exact ⟨xb, rfl, by rw [hC3]; exact b2⟩
          · rw [if_pos rfl] at hC3 hl l3
            rw [if_neg (by decide)]
            obtain ⟨xc, c1, c2, c3⟩ := b2.ad (by omega) 24
            rw [ck_pos c2, c1, bd_e]
            exact ⟨xc, rfl, by rw [hC3]; exact c3⟩
        obtain ⟨xc, c1, c2⟩ := st2
        by_cases k24 : KK f n q.1 = 24
        · have k24' : kd f n (ps f n q.1) = 24 := k24
          rw [if_pos k24]
          obtain ⟨xd, d1, d2⟩ := c2.nx (by omega)
          have hs : stT (b2i (!b), b2i orO, (i : Int), x) = some (Sum.inl (b2i (!true), b2i true, ((i + 1 : Nat) : Int), xd)) := by
            show L_Pa_takeTest_y6 (b2i (!b)) (b2i orO) (i : Int) x = _
            rw [a1, b1, c1]
            unfold L_Pa_takeTest_b163
            rw [kind_e c2.1, bd_e, if_pos k24']
            unfold L_Pa_takeTest_b177
            rw [if_neg n10]
            unfold L_Pa_takeTest_b184
            rw [d1, bd_e, w32_i (show i < 2147483647 by omega)]
            rfl
          have hd2 : q.1 + 1 ≤ N := d2.1.2.2.1
          obtain ⟨ρ, r, x', e1, e2, e3⟩ := ih (q.1 + 1) (i + 1) true true C3 xd g' d2 (by rw [if_pos rfl, if_pos rfl]; omega) (by omega) (by omega) (by omega)
          refine ⟨ρ, r, x', (lp_l g' hs).trans e1, e2, ?_⟩
          cases h2 : tsS (KK f n) (VV f n) fu (q.1 + 1) true with
          | inr e => rw [h2] at e3; exact e3
          | inl u =>
            rw [h2] at e3
            obtain ⟨rfl, e4⟩ := e3
            have hnb := (tsS_ok _ _ hv fu (q.1 + 1) true u.1 u.2 h2).2.1
            refine ⟨rfl, ?_⟩
            show PA f n N T x0 x' u.1 (C ++ cgo orO ((b, q.2) :: u.2))
            simp only [cgo]
            rw [hnb, Bool.true_and, Bool.or_true, ← List.append_assoc (codeO (b, q.2)), ← List.append_assoc C, ← hC2', ← List.append_assoc C2, ← hC3]
            exact e4
        · have k24' : ¬ kd f n (ps f n q.1) = 24 := k24
          rw [if_neg k24]
          have hs : stT (b2i (!b), b2i orO, (i : Int), x) = some (Sum.inr (Sum.inr (Sum.inr (Sum.inr (Sum.inr xc))))) := by
            show L_Pa_takeTest_y6 (b2i (!b)) (b2i orO) (i : Int) x = _
            rw [a1, b1, c1]
            unfold L_Pa_takeTest_b163
            rw [kind_e c2.1, bd_e, if_neg k24']
            unfold L_Pa_takeTest_b177
            rw [if_pos rfl]
          refine ⟨_, 1, xc, lp_r g' hs, ?_, rfl, ?_⟩
          · unfold fiT
            rw [smr_, smr_, smr_, smr_, u0_q]
          · show PA f n N T x0 xc q.1 (C ++ cgo orO [(b, q.2)])
            rw [show cgo orO [(b, q.2)] = codeO (b, q.2) ++ ((if b = true then [] else [25]) ++ ((if orO = true then [24] else []) ++ [])) by cases orO <;> rfl, List.append_nil, ← List.append_assoc (codeO (b, q.2)), ← List.append_assoc C, ← hC2', ← hC3]
            exact c2
theorem takeTest_e {f : Nat → Int} {n N T t : Nat} {x0 x : Dt} {C : List Int} (hb : ∀ k, k < n → -128 ≤ f k ∧ f k ≤ 127) (h : PA f n N T x0 x t C) (hl : C.length ≤ t) : ∃ r x', L_Pa_takeTest x = some (r, x') ∧ Sum.elim (fun q => r = 1 ∧ PA f n N T x0 x' q.1 (C ++ cgo false q.2)) (fun e => r = 0 ∧ PE f n T x0 x' e) (tsS (KK f n) (VV f n) 601 t true) := by
  have hNn := h.1.1.1
  have hn6 := h.1.2.2.2
  obtain ⟨ρ, r, x', a1, a2, a3⟩ := testA_lp hb 601 t 0 true false C x FU h (by rw [if_pos rfl, if_neg (by decide)]; omega) (by omega) (by omega) (by show 601 ≤ 1000000; omega)
  refine ⟨r, x', ?_, a3⟩
  have e0 : L_Pa_takeTest x = lb (lpF stT FU (b2i (!true), b2i false, ((0 : Nat) : Int), x)) fiT := rfl
  rw [e0, a1, lb_e]; exact a2
