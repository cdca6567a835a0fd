/-! TESTS: what both parsers do -/
def oneS (K V : Nat → Int) (t : Nat) : (Nat × Bool × Int × List (Int × Int) × List (Int × Int)) ⊕ (Int × Nat) :=
  Sum.elim (fun q => if K q.1 = 60 ∨ K q.1 = 61 ∨ K q.1 = 62 then Sum.elim (fun u => Sum.inl (u.1, decide (K t = 26), K q.1, q.2, u.2)) (fun e => Sum.inr e) (sS K V 601 6 (q.1 + 1) false 0 []) else Sum.inr (2, q.1)) (fun e => Sum.inr e) (sS K V 601 6 (if K t = 26 then t + 1 else t) false 0 [])
def tsS (K V : Nat → Int) : Nat → Nat → Bool → (Nat × List One) ⊕ (Int × Nat)
  | 0, t, _ => Sum.inr (2, t)
  | fu + 1, t, b => Sum.elim (fun q => if K q.1 = 25 then Sum.elim (fun u => Sum.inl (u.1, (b, q.2) :: u.2)) (fun e => Sum.inr e) (tsS K V fu (q.1 + 1) false) else if K q.1 = 24 then Sum.elim (fun u => Sum.inl (u.1, (b, q.2) :: u.2)) (fun e => Sum.inr e) (tsS K V fu (q.1 + 1) true) else Sum.inl (q.1, [(b, q.2)])) (fun e => Sum.inr e) (oneS K V t)
theorem sS_top (K V : Nat → Int) (hv : vOk K V) {t t' : Nat} {l : List (Int × Int)} (h : sS K V 601 6 t false 0 [] = Sum.inl (t', l)) : t < t' ∧ hk 15 l 0 1 ∧ l.length ≤ t' - t := by
  obtain ⟨a1, seg, a2, a3, a4⟩ := sS_ok K V hv 601 6 t false 0 [] t' l (Or.inl rfl) h
  rw [List.nil_append] at a2
  have h0 : hO false 0 = 0 := rfl
  rw [h0] at a3 a4
  rw [a2]
  exact ⟨a1, a3, by omega⟩
theorem oneS_ok (K V : Nat → Int) (hv : vOk K V) {t t' : Nat} {o : Bool × Int × List (Int × Int) × List (Int × Int)} (h : oneS K V t = Sum.inl (t', o)) : t + 3 ≤ t' ∧ (∀ b : Bool, wfO (b, o)) ∧ ∃ t1 t2, t1 = (if K t = 26 then t + 1 else t) ∧ sS K V 601 6 t1 false 0 [] = Sum.inl (t2, o.2.2.1) ∧ (K t2 = 60 ∨ K t2 = 61 ∨ K t2 = 62) ∧ sS K V 601 6 (t2 + 1) false 0 [] = Sum.inl (t', o.2.2.2) ∧ o.1 = decide (K t = 26) ∧ o.2.1 = K t2 ∧ t1 < t2 ∧ t2 + 1 < t' ∧ o.2.2.1.length ≤ t2 - t1 ∧ o.2.2.2.length ≤ t' - (t2 + 1) := by
  unfold oneS at h
  obtain ⟨t1, ht1⟩ : ∃ t1, t1 = (if K t = 26 then t + 1 else t) := ⟨_, rfl⟩
  rw [← ht1] at h
  have hle : t ≤ t1 := by rw [ht1]; split <;> omega
  cases h1 : sS K V 601 6 t1 false 0 [] with
  | inr e => rw [h1] at h; simp only [Sum.elim_inr] at h; cases h
  | inl q =>
    rw [h1] at h
    simp only [Sum.elim_inl] at h
    by_cases c : K q.1 = 60 ∨ K q.1 = 61 ∨ K q.1 = 62
    · rw [if_pos c] at h
      cases h2 : sS K V 601 6 (q.1 + 1) false 0 [] with
      | inr e => rw [h2] at h; simp only [Sum.elim_inr] at h; cases h
      | inl u =>
        rw [h2] at h
        simp only [Sum.elim_inl] at h
        have e := Sum.inl.inj h
        have e1 : u.1 = t' := congrArg Prod.fst e
        have e2 : (decide (K t = 26), K q.1, q.2, u.2) = o := congrArg Prod.snd e
        obtain ⟨a1, a2, a3⟩ := sS_top K V hv h1
        obtain ⟨b1, b2, b3⟩ := sS_top K V hv h2
        subst e2
        subst e1
        exact ⟨by omega, fun b => ⟨c, a2, b2⟩, t1, q.1, ht1, h1, c, h2, rfl, rfl, a1, b1, a3, b3⟩
    · rw [if_neg c] at h; cases h
theorem tsS_ok (K V : Nat → Int) (hv : vOk K V) : ∀ (fu t : Nat) (b : Bool) (t' : Nat) (l : List One), tsS K V fu t b = Sum.inl (t', l) → l ≠ [] ∧ nb l = b ∧ (∀ x, x ∈ l → wfO x) ∧ t + 3 * l.length ≤ t'
  | 0, t, b, t', l, h => by simp only [tsS] at h; cases h
  | fu + 1, t, b, t', l, h => by
    simp only [tsS] at h
    cases h1 : oneS K V t with
    | inr e => rw [h1] at h; simp only [Sum.elim_inr] at h; cases h
    | inl q =>
      rw [h1] at h
      simp only [Sum.elim_inl] at h
      obtain ⟨a1, a2, _⟩ := oneS_ok K V hv h1
      have rcx : ∀ b', Sum.elim (fun u : Nat × List One => (Sum.inl (u.1, (b, q.2) :: u.2) : (Nat × List One) ⊕ (Int × Nat))) (fun e => Sum.inr e) (tsS K V fu (q.1 + 1) b') = Sum.inl (t', l) → l ≠ [] ∧ nb l = b ∧ (∀ x, x ∈ l → wfO x) ∧ t + 3 * l.length ≤ t' := by
        intro b' h'
        cases h2 : tsS K V fu (q.1 + 1) b' with
        | inr e => rw [h2] at h'; simp only [Sum.elim_inr] at h'; cases h'
        | inl u =>
          rw [h2] at h'
          simp only [Sum.elim_inl] at h'
          have e := Sum.inl.inj h'
          have e1 : u.1 = t' := congrArg Prod.fst e
          have e2 : (b, q.2) :: u.2 = l := congrArg Prod.snd e
          obtain ⟨c1, c2, c3, c4⟩ := tsS_ok K V hv fu (q.1 + 1) b' u.1 u.2 h2
          rw [← e2]
          refine ⟨List.cons_ne_nil _ _, rfl, fun x hx => ?_, by rw [List.length_cons]; omega⟩
          rcases List.mem_cons.mp hx with rfl | hx
          · exact a2 b
          · exact c3 x hx
      by_cases k25 : K q.1 = 25
      · rw [if_pos k25] at h; exact rcx false h
      · rw [if_neg k25] at h
        by_cases k24 : K q.1 = 24
        · rw [if_pos k24] at h; exact rcx true h
        · rw [if_neg k24] at h
          have e := Sum.inl.inj h
          have e1 : q.1 = t' := congrArg Prod.fst e
          have e2 : [(b, q.2)] = l := congrArg Prod.snd e
          rw [← e2]
          refine ⟨List.cons_ne_nil _ _, rfl, fun x hx => ?_, by show t + 3 * 1 ≤ t'; omega⟩
          rcases List.mem_cons.mp hx with rfl | hx
          · exact a2 b
          · exact absurd hx List.not_mem_nil
/-! TESTS: the class's ONE -/
def fiT (q : Dt ⊕ Dt ⊕ Dt ⊕ Dt ⊕ Dt) : Option (Int × Dt) := sm q (fun q93_ => u0 q93_ (fun d74_ => bd (L_Pa_refuse 2 d74_) (fun r77_ d76_ => some (r77_, d76_)))) (fun q94_ => sm q94_ (fun q95_ => u0 q95_ (fun d80_ => some (0, d80_))) (fun q96_ => sm q96_ (fun q97_ => u0 q97_ (fun d82_ => bd (L_Pa_refuse 2 d82_) (fun r85_ d84_ => some (r85_, d84_)))) (fun q98_ => sm q98_ (fun q99_ => u0 q99_ (fun d88_ => some (0, d88_))) (fun q100_ => u0 q100_ (fun d90_ => some (1, d90_))))))
theorem oneA_e {f : Nat → Int} {n N T t : Nat} {x0 x : Dt} {C : List Int} (hb : ∀ k, k < n → -128 ≤ f k ∧ f k ≤ 127) (h : PA f n N T x0 x t C) (hl : C.length ≤ t) (x1 x2 : Int) (i : Nat) (hi : i < 600) (b : Bool) :
    Sum.elim (fun q => ∃ x', L_Pa_takeTest_y6 x1 x2 (i : Int) x = L_Pa_takeTest_b118 x1 x2 (i : Int) x' ∧ PA f n N T x0 x' q.1 (C ++ codeO (b, q.2))) (fun e => ∃ ρ x', L_Pa_takeTest_y6 x1 x2 (i : Int) x = some (Sum.inr ρ) ∧ fiT ρ = some (0, x') ∧ PE f n T x0 x' e) (oneS (KK f n) (VV f n) t) := by
  have hv := vOk_e f n hb
  have n10 : ¬ ((1 : Int) = 0) := by decide
  obtain ⟨t1, ht1⟩ : ∃ t1, t1 = (if KK f n t = 26 then t + 1 else t) := ⟨_, rfl⟩
  have not : ∃ x1', L_Pa_takeTest_y6 x1 x2 (i : Int) x = L_Pa_takeTest_b38 x1 x2 (i : Int) (b2i (decide (KK f n t = 26))) x1' ∧ PA f n N T x0 x1' t1 C := by
    unfold L_Pa_takeTest_y6
    rw [if_pos (by omega), kind_e h.1, bd_e]
    unfold L_Pa_takeTest_b27
    by_cases k : KK f n t = 26
    · have k' : kd f n (ps f n t) = 26 := k
      obtain ⟨xa, c1, c2⟩ := h.nx (by omega)
      rw [if_pos k', if_neg n10, c1, bd_e, decide_eq_true k]
      rw [if_pos k] at ht1
      exact ⟨xa, rfl, by rw [ht1]; exact c2⟩
    · have k' : ¬ kd f n (ps f n t) = 26 := k
      rw [if_neg k', if_pos rfl, decide_eq_false k]
      rw [if_neg k] at ht1
      exact ⟨x, rfl, by rw [ht1]; exact h⟩
  obtain ⟨xa, s1, s2⟩ := not
  rw [s1]
  have hle : t ≤ t1 := by rw [ht1]; split <;> omega
  unfold oneS
  rw [← ht1]
  obtain ⟨r, xb, c1, c2⟩ := takeSum_e hb s2 (by omega)
  unfold L_Pa_takeTest_b38
  rw [c1, bd_e]
  cases h1 : sS (KK f n) (VV f n) 601 6 t1 false 0 [] with
  | inr e =>
    rw [h1] at c2
    obtain ⟨rfl, c3⟩ := c2
    rw [if_pos rfl, Sum.elim_inr]
    refine ⟨_, xb, rfl, ?_, c3⟩
    unfold fiT
    rw [smr_, sml_, u0_q]
  | inl q =>
    rw [h1] at c2
    obtain ⟨rfl, c3⟩ := c2
    obtain ⟨a1, a2, a3⟩ := sS_top _ _ hv h1
    rw [if_neg n10, kind_e c3.1, bd_e, Sum.elim_inl]
    try dsimp only
    by_cases c : KK f n q.1 = 60 ∨ KK f n q.1 = 61 ∨ KK f n q.1 = 62
    · rw [if_pos c]
      have c' : kd f n (ps f n q.1) = 60 ∨ kd f n (ps f n q.1) = 61 ∨ kd f n (ps f n q.1) = 62 := c
      have pick : ∀ z : Option ((Int × Int × Int × Dt) ⊕ (Dt ⊕ Dt ⊕ Dt ⊕ Dt ⊕ Dt)), (if kd f n (ps f n q.1) = 60 then L_Pa_takeTest_b81 x1 x2 (i : Int) (b2i (decide (KK f n t = 26))) (kd f n (ps f n q.1)) xb else if kd f n (ps f n q.1) = 62 then L_Pa_takeTest_b81 x1 x2 (i : Int) (b2i (decide (KK f n t = 26))) (kd f n (ps f n q.1)) xb else if kd f n (ps f n q.1) = 61 then L_Pa_takeTest_b81 x1 x2 (i : Int) (b2i (decide (KK f n t = 26))) (kd f n (ps f n q.1)) xb else z) = L_Pa_takeTest_b81 x1 x2 (i : Int) (b2i (decide (KK f n t = 26))) (kd f n (ps f n q.1)) xb := by
        intro z
        rcases c' with w | w | w
        · rw [if_pos w]
        · rw [if_neg (by omega), if_neg (by omega), if_pos w]
        · rw [if_neg (by omega), if_pos w]
      rw [pick]
      obtain ⟨xc, d1, d2⟩ := c3.nx (by omega)
      have hc0 : (C ++ codeS q.2).length = C.length + q.2.length := by unfold codeS; rw [List.length_append, List.length_map]
      obtain ⟨r2, xd, e1, e2⟩ := takeSum_e hb d2 (by rw [hc0]; omega)
      unfold L_Pa_takeTest_b81
      rw [d1, bd_e, e1, bd_e]
      cases h2 : sS (KK f n) (VV f n) 601 6 (q.1 + 1) false 0 [] with
      | inr e =>
        rw [h2] at e2
        obtain ⟨rfl, e3⟩ := e2
        rw [if_pos rfl, Sum.elim_inr]
        refine ⟨_, xd, rfl, ?_, e3⟩
        unfold fiT
        rw [smr_, smr_, smr_, sml_, u0_q]
      | inl u =>
        rw [h2] at e2
        obtain ⟨rfl, e3⟩ := e2
        obtain ⟨b1, b2, b3⟩ := sS_top _ _ hv h2
        have hu : u.1 ≤ N := e3.1.2.2.1
        have hNn := e3.1.1.1
        have hn6 := e3.1.2.2.2
        have hc1 : (C ++ codeS q.2 ++ codeS u.2).length = C.length + q.2.length + u.2.length := by unfold codeS; rw [List.length_append, List.length_append, List.length_map, List.length_map]
        obtain ⟨xe, g1, g2, g3⟩ := e3.ad (by rw [hc1]; omega) (kd f n (ps f n q.1))
        rw [if_neg n10, Sum.elim_inl, ck_pos g2, g1, bd_e]
        show ∃ x', _ ∧ PA f n N T x0 x' u.1 (C ++ codeO (b, decide (KK f n t = 26), KK f n q.1, q.2, u.2))
        by_cases k : KK f n t = 26
        · rw [if_pos k] at ht1
          obtain ⟨xg, j1, j2, j3⟩ := g3.ad (by rw [List.length_append, hc1]; show C.length + q.2.length + u.2.length + 1 < 600; omega) 26
          rw [decide_eq_true k, if_neg (show ¬ b2i true = 0 by decide), ck_pos j2, j1, bd_e]
          refine ⟨xg, rfl, ?_⟩
          unfold codeO
          try dsimp only
          rw [if_pos rfl]
          have e : C ++ codeS q.2 ++ codeS u.2 ++ [kd f n (ps f n q.1)] ++ [26] = C ++ (codeS q.2 ++ (codeS u.2 ++ ([KK f n q.1] ++ [26]))) := by simp only [List.append_assoc]; rfl
          rw [← e]; exact j3
        · rw [decide_eq_false k, if_pos (show b2i false = 0 by decide)]
          refine ⟨xe, rfl, ?_⟩
          unfold codeO
          try dsimp only
          rw [if_neg (by decide)]
          have e : C ++ codeS q.2 ++ codeS u.2 ++ [kd f n (ps f n q.1)] = C ++ (codeS q.2 ++ (codeS u.2 ++ ([KK f n q.1] ++ []))) := by simp only [List.append_assoc, List.append_nil]; rfl
          rw [← e]; exact g3
    · rw [if_neg c]
      have c' : ¬ (kd f n (ps f n q.1) = 60 ∨ kd f n (ps f n q.1) = 61 ∨ kd f n (ps f n q.1) = 62) := c
      obtain ⟨xc, d1, d2⟩ := c3.rf 2
      rw [if_neg (by omega), if_neg (by omega), if_neg (by omega), Sum.elim_inr]
      refine ⟨_, xc, rfl, ?_, d2⟩
      unfold fiT
      rw [smr_, smr_, sml_, u0_q, d1, bd_e]
