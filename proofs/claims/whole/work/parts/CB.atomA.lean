/-! SUMS: the class's atom -/
def KK (f : Nat → Int) (n t : Nat) : Int := kd f n (ps f n t)
def VV (f : Nat → Int) (n t : Nat) : Int := vl f n (ps f n t)
theorem vOk_e (f : Nat → Int) (n : Nat) (hb : ∀ k, k < n → -128 ≤ f k ∧ f k ≤ 127) : vOk (KK f n) (VV f n) := by
  intro t
  obtain ⟨_, _, _, _, _, e6, _, e8, _⟩ := tok_e f n (ps f n t) hb
  exact ⟨fun h => (e6 h).2, fun h => e8 h⟩
def ouA (f : Nat → Int) (n N T : Nat) (x0 : Dt) (C : List Int) (res : (Nat × List (Int × Int)) ⊕ (Int × Nat)) (r : Int) (x' : Dt) : Prop := Sum.elim (fun q => r = 1 ∧ PA f n N T x0 x' q.1 (C ++ codeS q.2)) (fun e => r = 0 ∧ PE f n T x0 x' e) res
theorem atomA_e {f : Nat → Int} {n N T t : Nat} {x0 x : Dt} {C : List Int} {acc : List (Int × Int)} (hb : ∀ k, k < n → -128 ≤ f k ∧ f k ≤ 127) (h : PA f n N T x0 x t (C ++ codeS acc)) (hl : C.length + acc.length ≤ t) (rec : Int → Dt → Option (Int × Dt)) (dl : Nat) (hdl : dl ≤ 6) (inner : Nat → List (Int × Int) → (Nat × List (Int × Int)) ⊕ (Int × Nat))
    (hrec : dl ≠ 0 → ∀ x1, PA f n N T x0 x1 (t + 1) (C ++ codeS acc) → ∃ r x2, rec ((6 - dl + 1 : Nat) : Int) x1 = some (r, x2) ∧ ouA f n N T x0 C (inner (t + 1) acc) r x2) : ∃ r x', L_Pa_takeAtom rec ((6 - dl : Nat) : Int) x = some (r, x') ∧ ouA f n N T x0 C (atmS (KK f n) (VV f n) inner dl t acc) r x' := by
  have hk := kind_e h.1
  obtain ⟨a1, a2, a3, a4⟩ := id h.1
  have hN := a1.1
  have hlen : (C ++ codeS acc).length = C.length + acc.length := by unfold codeS; rw [List.length_append, List.length_map]
  have lit : ∀ v : Int, ¬ kd f n (ps f n t) = 0 → ∃ x', L_Pa_takeAtom_b44 rec (x 25 6) v x = some (1, x') ∧ PA f n N T x0 x' (t + 1) ((C ++ codeS acc) ++ [v]) := by
    intro v hk0
    have htN : t < N := by
      rcases (Classical.em (t < N)).symm with q | q
      · have : t = N := by omega
        rw [this] at hk0; exact absurd (kdN a1) hk0
      · exact q
    obtain ⟨x1, b1, b2, b3⟩ := h.ad (by rw [hlen]; omega) v
    obtain ⟨x2, c1, c2⟩ := b3.nx hk0
    refine ⟨x2, ?_, c2⟩
    unfold L_Pa_takeAtom_b44
    rw [ck_pos b2, b1, bd_e, c1, bd_e]
  have ct : (0 : Int) ≤ (t : Int) ∧ (t : Int) < 601 := by omega
  obtain ⟨_, _, _, _, _, e6, _, e8, _⟩ := tok_e f n (ps f n t) hb
  have h28 : ¬ kd f n (ps f n t) = 0 → x 28 t = vl f n (ps f n t) := by
    intro hk0
    have htN : t < N := by
      rcases (Classical.em (t < N)).symm with q | q
      · have : t = N := by omega
        rw [this] at hk0; exact absurd (kdN a1) hk0
      · exact q
    exact a1.2.2.2.2 t htN
  unfold L_Pa_takeAtom L_Pa_takeAtom_b15 atmS KK VV
  rw [hk, bd_e, a2, ck_pos ct, tn_i, lt_e]
  by_cases k2 : kd f n (ps f n t) = 2
  · obtain ⟨_, v1, v2⟩ := e6 k2
    have hk0 : ¬ kd f n (ps f n t) = 0 := by omega
    obtain ⟨x', c1, c2⟩ := lit (128 + vl f n (ps f n t)) hk0
    rw [if_pos k2, if_pos k2, if_pos k2, h28 hk0, w32_s (x := vl f n (ps f n t)) (by omega) (by omega), w32_s (x := 128 + vl f n (ps f n t)) (by omega) (by omega), c1]
    refine ⟨_, _, rfl, rfl, ?_⟩
    show PA f n N T x0 x' (t + 1) (C ++ codeS (acc ++ [(0, vl f n (ps f n t))]))
    rw [codeS_app, ← List.append_assoc]; exact c2
  · rw [if_neg k2, if_neg k2, if_neg k2]
    by_cases k4 : kd f n (ps f n t) = 4
    · obtain ⟨v1, v2⟩ := e8 k4
      have hk0 : ¬ kd f n (ps f n t) = 0 := by omega
      obtain ⟨x', c1, c2⟩ := lit (vl f n (ps f n t)) hk0
      rw [if_pos k4, if_pos k4, h28 hk0, w32_s (x := vl f n (ps f n t)) (by omega) (by omega), c1]
      refine ⟨_, _, rfl, rfl, ?_⟩
      show PA f n N T x0 x' (t + 1) (C ++ codeS (acc ++ [(1, vl f n (ps f n t))]))
      rw [codeS_app, ← List.append_assoc]; exact c2
    · rw [if_neg k4, if_neg k4]
      by_cases k40 : kd f n (ps f n t) = 40
      · rw [if_pos k40, if_pos k40]
        by_cases d0 : dl = 0
        · obtain ⟨x', c1, c2⟩ := h.rf 5
          rw [if_neg (by omega), if_pos d0, c1, bd_e]
          exact ⟨_, _, rfl, rfl, c2⟩
        · obtain ⟨x1, c1, c2⟩ := h.nx (by omega)
          obtain ⟨r, x2, g1, g2⟩ := hrec d0 x1 c2
          rw [if_pos (by omega), if_neg d0, c1, bd_e, w32_i (show 6 - dl < 2147483647 by omega), g1, bd_e]
          cases hi : inner (t + 1) acc with
          | inr e =>
            rw [hi] at g2
            obtain ⟨rfl, g3⟩ := g2
            rw [if_pos rfl]
            exact ⟨_, _, rfl, rfl, g3⟩
          | inl q =>
            rw [hi] at g2
            obtain ⟨rfl, g3⟩ := g2
            rw [if_neg (by decide), kind_e g3.1, bd_e]
            show ∃ r x', _ ∧ ouA f n N T x0 C (if kd f n (ps f n q.1) = 41 then Sum.inl (q.1 + 1, q.2) else Sum.inr (2, q.1)) r x'
            by_cases k41 : kd f n (ps f n q.1) = 41
            · obtain ⟨x3, j1, j2⟩ := g3.nx (by omega)
              rw [if_pos k41, if_pos k41, j1, bd_e]
              exact ⟨_, _, rfl, rfl, j2⟩
            · obtain ⟨x3, j1, j2⟩ := g3.rf 2
              rw [if_neg k41, if_neg k41, j1, bd_e]
              exact ⟨_, _, rfl, rfl, j2⟩
      · rw [if_neg k40, if_neg k40]
        obtain ⟨x', c1, c2⟩ := h.rf 2
        rw [c1, bd_e]
        exact ⟨_, _, rfl, rfl, c2⟩
