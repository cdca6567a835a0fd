/-! RULES: the class's small steps -/
theorem least_ (P : Nat → Prop) : ∀ m : Nat, (∀ i, i < m → ¬ P i) ∨ ∃ i, i < m ∧ P i ∧ ∀ j, j < i → ¬ P j
  | 0 => Or.inl (fun _ h => absurd h (by omega))
  | m + 1 => by
    rcases least_ P m with h | ⟨i, a, b, c⟩
    · by_cases q : P m
      · exact Or.inr ⟨m, by omega, q, h⟩
      · refine Or.inl (fun i hi => ?_)
        by_cases z : i = m
        · rw [z]; exact q
        · exact h i (by omega)
    · exact Or.inr ⟨i, by omega, b, c⟩
def rF (T m c : Nat) (x0 x : Dt) : Prop := (∀ k, k ≠ 25 → (k < 79 + 7 * T ∨ 79 + 7 * T + 6 < k) → x k = x0 k) ∧ (∀ j, j ≠ 5 → j ≠ 7 → j ≠ 8 → x 25 j = x0 25 j) ∧ (∀ a i, 1 ≤ a → a ≤ 5 → i < m → x (79 + 7 * T + a) i = x0 (79 + 7 * T + a) i) ∧ ∀ j, j < c → x (79 + 7 * T + 6) j = x0 (79 + 7 * T + 6) j
theorem rF.rf (T m c : Nat) (x : Dt) : rF T m c x x := ⟨fun _ _ _ => rfl, fun _ _ _ _ => rfl, fun _ _ _ _ _ => rfl, fun _ _ => rfl⟩
theorem rF.tr {T m c : Nat} {x y z : Dt} (h : rF T m c x y) (h2 : rF T m c y z) : rF T m c x z := ⟨fun k a b => by rw [h2.1 k a b]; exact h.1 k a b, fun j a b d => by rw [h2.2.1 j a b d]; exact h.2.1 j a b d, fun a i b d e => by rw [h2.2.2.1 a i b d e]; exact h.2.2.1 a i b d e, fun j hj => by rw [h2.2.2.2 j hj]; exact h.2.2.2 j hj⟩
theorem rF.mo {T m c m' c' : Nat} {x y : Dt} (h : rF T m c x y) (hm : m' ≤ m) (hc : c' ≤ c) : rF T m' c' x y := ⟨h.1, h.2.1, fun a i b d e => h.2.2.1 a i b d (by omega), fun j hj => h.2.2.2 j (by omega)⟩
def CS (f : Nat → Int) (n N T : Nat) (x : Dt) (t : Nat) (C : List Int) (m : Nat) : Prop := atA x f n N t ∧ drA x T C ∧ x (79 + 7 * T) 2 = (m : Int)
def FA (f : Nat → Int) (n : Nat) (x : Dt) (e : Int × Nat) : Prop := x 25 7 = ftK f n (ps f n e.2) e.1 ∧ x 25 8 = (ps f n e.2 : Int)
def lbE (T : Nat) (x x' : Dt) : Prop := ∀ a, 1 ≤ a → a ≤ 5 → x' (79 + 7 * T + a) = x (79 + 7 * T + a)
theorem CS.pa {f : Nat → Int} {n N T t m : Nat} {x : Dt} {C : List Int} (h : CS f n N T x t C m) : PA f n N T x x t C := ⟨h.1, h.2.1, paF.rf T x⟩
theorem CS.of {f : Nat → Int} {n N T t t' m : Nat} {x x' : Dt} {C D : List Int} (h : CS f n N T x t C m) (p : PA f n N T x x' t' (C ++ D)) : CS f n N T x' t' (C ++ D) m ∧ (∀ m', rF T m' C.length x x') ∧ lbE T x x' := by
  obtain ⟨p1, p2, p3⟩ := p
  have hl : lbE T x x' := fun a h1 h2 => p3.1 _ (by omega) (by omega) (by omega)
  refine ⟨⟨p1, p2, by rw [p3.2.2 2 (by decide)]; exact h.2.2⟩, fun m' => ⟨fun k a b => p3.1 k a (by omega) (by omega), p3.2.1, fun a i h1 h2 _ => by rw [hl a h1 h2], fun j hj => ?_⟩, hl⟩
  rw [p2.2.2.2 j (by rw [List.length_append]; omega), h.2.1.2.2.2 j hj, getD_app', if_pos hj]
theorem PE.fa {f : Nat → Int} {n T : Nat} {x x' : Dt} {e : Int × Nat} (h : PE f n T x x' e) : FA f n x' e ∧ rF T 0 0 x x' := ⟨⟨h.1, h.2.1⟩, fun k a b => h.2.2.1 k a (by omega) (by omega), h.2.2.2.1, fun a i _ _ z => absurd z (by omega), fun j z => absurd z (by omega)⟩
theorem CS.nx {f : Nat → Int} {n N T t m : Nat} {x : Dt} {C : List Int} (h : CS f n N T x t C m) (hk : ¬ KK f n t = 0) : ∃ x', L_Pa_next x = some (0, x') ∧ CS f n N T x' (t + 1) C m ∧ (∀ m', rF T m' C.length x x') ∧ lbE T x x' := by
  obtain ⟨x', e1, e2⟩ := h.pa.nx hk
  have := h.of (D := []) (by rw [List.append_nil]; exact e2)
  rw [List.append_nil] at this
  exact ⟨x', e1, this⟩
theorem CS.rf {f : Nat → Int} {n N T t m : Nat} {x : Dt} {C : List Int} (h : CS f n N T x t C m) (k : Int) : ∃ x', L_Pa_refuse k x = some (0, x') ∧ FA f n x' (k, t) ∧ rF T 0 0 x x' ∧ drA x' T C ∧ x' (79 + 7 * T) 2 = (m : Int) := by
  obtain ⟨x', e1, e2⟩ := h.pa.rf k
  have e3 := refuseA_e h.1 k
  rw [e1] at e3
  have e4 : x' = _ := congrArg Prod.snd (Option.some.inj e3)
  refine ⟨x', e1, e2.fa.1, e2.fa.2, ?_, ?_⟩
  · rw [e4]; exact (h.2.1.u5 7 _ (by omega)).u5 8 _ (by omega)
  · rw [e2.2.2.2.2 2 (by decide)]; exact h.2.2
theorem CS.kn {f : Nat → Int} {n N T t m : Nat} {x : Dt} {C : List Int} (h : CS f n N T x t C m) : L_Pa_kind x = some (KK f n t, x) := kind_e h.1
theorem CS.pz {f : Nat → Int} {n N T t m : Nat} {x : Dt} {C : List Int} (h : CS f n N T x t C m) (c : Int) (hc : c ≠ 0) : ∃ r x', L_Pa_passes c x = some (r, x') ∧ (if KK f n t = c then r = 1 ∧ CS f n N T x' (t + 1) C m ∧ (∀ m', rF T m' C.length x x') ∧ lbE T x x' else r = 0 ∧ FA f n x' (2, t) ∧ rF T 0 0 x x') := by
  obtain ⟨a1, a2, a3, a4⟩ := h.1
  have hN := a1.1
  have e27 : x 27 t = KK f n t := (a1.2.2.2.1 t a3).1
  unfold L_Pa_passes
  rw [a2, ck_pos ⟨by omega, by omega⟩, tn_i, e27]
  by_cases k : KK f n t = c
  · obtain ⟨x', e1, e2⟩ := h.nx (by omega)
    rw [if_pos k, e1, bd_e]
    refine ⟨_, _, rfl, ?_⟩
    rw [if_pos k]
    exact ⟨rfl, e2⟩
  · obtain ⟨x', e1, e2, e3, _⟩ := h.rf 2
    rw [if_neg k, e1, bd_e]
    refine ⟨_, _, rfl, ?_⟩
    rw [if_neg k]
    exact ⟨rfl, e2, e3⟩
theorem CS.lt {f : Nat → Int} {n N T t m : Nat} {x : Dt} {C : List Int} (h : CS f n N T x t C m) (hk : ¬ KK f n t = 0) : t < N ∧ x 28 t = VV f n t := by
  obtain ⟨a1, a2, a3, a4⟩ := h.1
  have htN : t < N := by
    rcases (Classical.em (t < N)).symm with q | q
    · have e : t = N := by omega
      rw [e] at hk; exact absurd (kdN a1) hk
    · exact q
  exact ⟨htN, a1.2.2.2.2 t htN⟩
def numS (K V : Nat → Int) (t : Nat) (lo hi : Int) : Int ⊕ (Int × Nat) := if K t = 2 then (if lo ≤ V t ∧ V t ≤ hi then Sum.inl (V t) else Sum.inr (6, t)) else Sum.inr (2, t)
theorem CS.tn {f : Nat → Int} {n N T t m : Nat} {x : Dt} {C : List Int} (hb : ∀ k, k < n → -128 ≤ f k ∧ f k ≤ 127) (h : CS f n N T x t C m) (lo hi : Int) : ∃ r x', L_Pa_takeNumber lo hi x = some (r, x') ∧ Sum.elim (fun v => r = v ∧ 0 ≤ v ∧ CS f n N T x' (t + 1) C m ∧ (∀ m', rF T m' C.length x x') ∧ lbE T x x') (fun e => r = -1 ∧ FA f n x' e ∧ rF T 0 0 x x' ∧ drA x' T C ∧ x' (79 + 7 * T) 2 = (m : Int)) (numS (KK f n) (VV f n) t lo hi) := by
  obtain ⟨a1, a2, a3, a4⟩ := id h.1
  have hN := a1.1
  have e27 : x 27 t = KK f n t := (a1.2.2.2.1 t a3).1
  obtain ⟨_, _, _, _, _, e6, _⟩ := tok_e f n (ps f n t) hb
  unfold L_Pa_takeNumber L_Pa_takeNumber_b45 numS
  rw [a2, ck_pos ⟨by omega, by omega⟩, lt_e, ck_pos ⟨by omega, by omega⟩, tn_i, e27]
  by_cases k : KK f n t = 2
  · rw [if_pos k, if_pos k, (h.lt (by omega)).2]
    obtain ⟨_, v1, v2⟩ := e6 k
    have v1' : 0 ≤ VV f n t := v1
    have v2' : VV f n t ≤ 99999 := v2
    by_cases w : lo ≤ VV f n t ∧ VV f n t ≤ hi
    · obtain ⟨x', e1, e2⟩ := h.nx (by omega)
      rw [if_pos w, if_neg (by omega), if_neg (by omega), e1, bd_e, w32_s (x := VV f n t) (by omega) (by omega)]
      exact ⟨_, _, rfl, rfl, v1', e2⟩
    · obtain ⟨x', e1, e2⟩ := h.rf 6
      rw [if_neg w]
      by_cases z : VV f n t < lo
      · rw [if_pos z, e1, bd_e]; exact ⟨_, _, rfl, rfl, e2⟩
      · rw [if_neg z, if_pos (by omega), e1, bd_e]; exact ⟨_, _, rfl, rfl, e2⟩
  · obtain ⟨x', e1, e2⟩ := h.rf 2
    rw [if_neg k, if_neg k, e1, bd_e]
    exact ⟨_, _, rfl, rfl, e2⟩
theorem closeRule_e {x : Dt} {T m : Nat} (hG : x GH 0 = (T : Int) + 1) (hT : T ≤ 5) (h2 : x (79 + 7 * T) 2 = (m : Int)) (hm : m < 20) (p1 p2 p3 : Int) : L_St_closeRule (79 + 7 * (T : Int)) p1 p2 p3 x = some (0, up2 (up2 (up2 (up2 x (79 + 7 * T + 3) m p1) (79 + 7 * T + 4) m p2) (79 + 7 * T + 5) m p3) (79 + 7 * T) 2 ((m + 1 : Nat) : Int)) := by
  have st : ∀ x' : Dt, x' GH = x GH → stt x' (79 + 7 * (T : Int)) := fun x' e => stt_up (stt_t hG T (by omega)) e
  have g : ∀ (k j : Nat) (v : Int) (x' : Dt), k < 1000000 → up2 x' k j v GH = x' GH := fun k j v x' hk => up2_K _ _ _ (by show 1000000 ≠ k; omega)
  have s0 := st x rfl
  have s1 := st (up2 x (79 + 7 * T + 3) m p1) (g _ _ _ _ (by omega))
  have s2 := st (up2 (up2 x (79 + 7 * T + 3) m p1) (79 + 7 * T + 4) m p2) (by rw [g _ _ _ _ (by omega), g _ _ _ _ (by omega)])
  have s3 := st (up2 (up2 (up2 x (79 + 7 * T + 3) m p1) (79 + 7 * T + 4) m p2) (79 + 7 * T + 5) m p3) (by rw [g _ _ _ _ (by omega), g _ _ _ _ (by omega), g _ _ _ _ (by omega)])
  have r1 : up2 x (79 + 7 * T + 3) m p1 (79 + 7 * T) 2 = (m : Int) := by rw [up2_K _ _ _ (by omega)]; exact h2
  have r2 : up2 (up2 x (79 + 7 * T + 3) m p1) (79 + 7 * T + 4) m p2 (79 + 7 * T) 2 = (m : Int) := by rw [up2_K _ _ _ (by omega)]; exact r1
  have r3 : up2 (up2 (up2 x (79 + 7 * T + 3) m p1) (79 + 7 * T + 4) m p2) (79 + 7 * T + 5) m p3 (79 + 7 * T) 2 = (m : Int) := by rw [up2_K _ _ _ (by omega)]; exact r2
  have cm : (0 : Int) ≤ (m : Int) ∧ (m : Int) < 20 := by omega
  unfold L_St_closeRule
  simp only [tn79, Nat.add_zero, h2, tn_i, r1, r2, r3, ck_pos s0, ck_pos s1, ck_pos s2, ck_pos s3, ck_pos cm, if_pos cm.2, w32_i (show m < 2147483647 by omega)]
theorem openRule_e {x : Dt} {T m : Nat} (hG : x GH 0 = (T : Int) + 1) (hT : T ≤ 5) (h2 : x (79 + 7 * T) 2 = (m : Int)) (hm : m < 20) (p1 p2 : Int) : L_St_openRule (79 + 7 * (T : Int)) p1 p2 x = some (0, up2 (up2 x (79 + 7 * T + 1) m p1) (79 + 7 * T + 2) m p2) := by
  have st : ∀ x' : Dt, x' GH = x GH → stt x' (79 + 7 * (T : Int)) := fun x' e => stt_up (stt_t hG T (by omega)) e
  have g : ∀ (k j : Nat) (v : Int) (x' : Dt), k < 1000000 → up2 x' k j v GH = x' GH := fun k j v x' hk => up2_K _ _ _ (by show 1000000 ≠ k; omega)
  have s0 := st x rfl
  have s1 := st (up2 x (79 + 7 * T + 1) m p1) (g _ _ _ _ (by omega))
  have r1 : up2 x (79 + 7 * T + 1) m p1 (79 + 7 * T) 2 = (m : Int) := by rw [up2_K _ _ _ (by omega)]; exact h2
  have cm : (0 : Int) ≤ (m : Int) ∧ (m : Int) < 20 := by omega
  unfold L_St_openRule
  simp only [tn79, Nat.add_zero, h2, tn_i, r1, ck_pos s0, ck_pos s1, ck_pos cm, if_pos cm.2]
theorem hasLabel_e {x : Dt} {T m : Nat} (hG : x GH 0 = (T : Int) + 1) (hT : T ≤ 5) (h2 : x (79 + 7 * T) 2 = (m : Int)) (hm : m ≤ 20) (v : Int) : ((∀ i, i < m → ¬ x (79 + 7 * T + 1) i = v) ∧ L_St_hasLabel (79 + 7 * (T : Int)) v x = some (0, x)) ∨ ((∃ i, i < m ∧ x (79 + 7 * T + 1) i = v) ∧ L_St_hasLabel (79 + 7 * (T : Int)) v x = some (1, x)) := by
  have s0 : stt x (79 + 7 * (T : Int)) := stt_t hG T (by omega)
  have step : ∀ i, i < m → ¬ x (79 + 7 * T + 1) i = v → L_St_hasLabel_y2 (79 + 7 * (T : Int)) v (i : Int) x = some (Sum.inl (79 + 7 * (T : Int), v, ((i + 1 : Nat) : Int), x)) := by
    intro i hi hv
    have ci : (0 : Int) ≤ (i : Int) ∧ (i : Int) < 20 := by omega
    unfold L_St_hasLabel_y2
    simp only [tn79, Nat.add_zero, h2, tn_i, ck_pos s0, ck_pos ci]
    rw [if_pos (by omega), if_neg hv, w32_i (show i < 2147483647 by omega)]
  rcases least_ (fun i => x (79 + 7 * T + 1) i = v) m with h | ⟨i, hi, h, hj⟩
  · refine Or.inl ⟨h, ?_⟩
    have e := lp_seq (f := fun q : Int × Int × Int × Dt => L_St_hasLabel_y2 q.1 q.2.1 q.2.2.1 q.2.2.2) (fun i => (79 + 7 * (T : Int), v, (i : Int), x)) m (r := Sum.inl x) (fun i hi => step i hi (h i hi))
      (by
        show L_St_hasLabel_y2 (79 + 7 * (T : Int)) v (m : Int) x = _
        unfold L_St_hasLabel_y2
        simp only [tn79, Nat.add_zero, h2, ck_pos s0]
        rw [if_neg (by omega)]) (by omega)
    unfold L_St_hasLabel L_St_hasLabel_l2
    rw [show lpF (fun q : Int × Int × Int × Dt => L_St_hasLabel_y2 q.1 q.2.1 q.2.2.1 q.2.2.2) FU (79 + 7 * (T : Int), v, 0, x) = _ from e, lb_e, sml_, u0_q]
  · refine Or.inr ⟨⟨i, hi, h⟩, ?_⟩
    have e := lp_seq (f := fun q : Int × Int × Int × Dt => L_St_hasLabel_y2 q.1 q.2.1 q.2.2.1 q.2.2.2) (fun i => (79 + 7 * (T : Int), v, (i : Int), x)) i (r := Sum.inr x) (fun j hj' => step j (by omega) (hj j hj'))
      (by
        have ci : (0 : Int) ≤ (i : Int) ∧ (i : Int) < 20 := by omega
        show L_St_hasLabel_y2 (79 + 7 * (T : Int)) v (i : Int) x = _
        unfold L_St_hasLabel_y2
        simp only [tn79, Nat.add_zero, h2, tn_i, ck_pos s0, ck_pos ci]
        rw [if_pos (by omega), if_pos h]) (by omega)
    unfold L_St_hasLabel L_St_hasLabel_l2
    rw [show lpF (fun q : Int × Int × Int × Dt => L_St_hasLabel_y2 q.1 q.2.1 q.2.2.1 q.2.2.2) FU (79 + 7 * (T : Int), v, 0, x) = _ from e, lb_e, smr_, u0_q]
