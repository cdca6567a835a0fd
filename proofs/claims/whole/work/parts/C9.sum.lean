/-! SUMS: what both parsers do -/
def atmS (K V : Nat → Int) (inner : Nat → List (Int × Int) → (Nat × List (Int × Int)) ⊕ (Int × Nat)) (dl t : Nat) (acc : List (Int × Int)) : (Nat × List (Int × Int)) ⊕ (Int × Nat) :=
  if K t = 2 then Sum.inl (t + 1, acc ++ [(0, V t)]) else if K t = 4 then Sum.inl (t + 1, acc ++ [(1, V t)]) else if K t = 40 then (if dl = 0 then Sum.inr (5, t) else Sum.elim (fun r => if K r.1 = 41 then Sum.inl (r.1 + 1, r.2) else Sum.inr (2, r.1)) (fun e => Sum.inr e) (inner (t + 1) acc)) else Sum.inr (2, t)
def sS (K V : Nat → Int) : Nat → Nat → Nat → Bool → Int → List (Int × Int) → (Nat × List (Int × Int)) ⊕ (Int × Nat)
  | 0, _, t, _, _, _ => Sum.inr (2, t)
  | fu + 1, dl, t, times, op, acc => Sum.elim (fun r => if K r.1 = 42 then sS K V fu dl (r.1 + 1) true op (if times = true then r.2 ++ [(42, 0)] else r.2) else if K r.1 = 43 ∨ K r.1 = 45 then sS K V fu dl (r.1 + 1) false (K r.1) ((if times = true then r.2 ++ [(42, 0)] else r.2) ++ (if op = 0 then [] else [(op, 0)])) else Sum.inl (r.1, (if times = true then r.2 ++ [(42, 0)] else r.2) ++ (if op = 0 then [] else [(op, 0)]))) (fun e => Sum.inr e) (atmS K V (fun t' a => sS K V fu (dl - 1) t' false 0 a) dl t acc)
def hO (times : Bool) (op : Int) : Nat := (if times = true then 1 else 0) + (if op = 0 then 0 else 1)
theorem hO_b (times : Bool) (op : Int) : hO times op ≤ 2 := by unfold hO; split <;> split <;> omega
theorem hk_1 (cap h : Nat) (s : Int × Int) (hc : h < cap) (hs : (s.1 = 0 ∧ 0 ≤ s.2 ∧ s.2 ≤ 99999) ∨ (s.1 = 1 ∧ 0 ≤ s.2 ∧ s.2 < 9)) : hk cap [s] h (h + 1) := by
  simp only [hk]
  rw [if_pos (by omega)]
  exact ⟨hs, hc, trivial⟩
theorem hk_2 (cap h : Nat) (c : Int) (hc : c = 42 ∨ c = 43 ∨ c = 45) (h2 : 2 ≤ h) : hk cap [(c, 0)] h (h - 1) := by
  simp only [hk]
  rw [if_neg (by omega)]
  exact ⟨hc, h2, trivial⟩
/-- the signs behind an atom -/
theorem tail_hk (cap : Nat) (times : Bool) (op : Int) (hop : op = 0 ∨ op = 43 ∨ op = 45) (h : Nat) (hh : h = hO times op + 1) : (hk cap (if times = true then [(42, 0)] else []) h (hO false op + 1)) ∧ hk cap (if op = 0 then [] else [(op, 0)]) (hO false op + 1) 1 := by
  subst hh
  constructor
  · cases times
    · rw [if_neg (by decide)]; show hO false op + 1 = hO false op + 1; rfl
    · rw [if_pos rfl]
      have := hk_2 cap (hO true op + 1) 42 (by omega) (by unfold hO; simp)
      rw [show hO true op + 1 - 1 = hO false op + 1 by unfold hO; simp; omega] at this
      exact this
  · by_cases q : op = 0
    · rw [if_pos q]; unfold hO; rw [if_pos q]; simp [hk]
    · rw [if_neg q]
      have := hk_2 cap (hO false op + 1) op (by omega) (by unfold hO; rw [if_neg q]; simp)
      rw [show hO false op + 1 - 1 = 1 by unfold hO; rw [if_neg q]; simp] at this
      exact this
def vOk (K V : Nat → Int) : Prop := ∀ t, (K t = 2 → 0 ≤ V t ∧ V t ≤ 99999) ∧ (K t = 4 → 0 ≤ V t ∧ V t < 9)
theorem t_app (times : Bool) (l : List (Int × Int)) : (if times = true then l ++ [((42 : Int), (0 : Int))] else l) = l ++ (if times = true then [(42, 0)] else []) := by cases times <;> simp
theorem sS_ok (K V : Nat → Int) (hv : vOk K V) : ∀ (fu dl t : Nat) (times : Bool) (op : Int) (acc : List (Int × Int)) (t' : Nat) (acc' : List (Int × Int)), (op = 0 ∨ op = 43 ∨ op = 45) → sS K V fu dl t times op acc = Sum.inl (t', acc') → t < t' ∧ ∃ seg, acc' = acc ++ seg ∧ hk (3 + 2 * dl) seg (hO times op) 1 ∧ seg.length ≤ (t' - t) + hO times op := by
  intro fu
  induction fu with
  | zero => intro dl t times op acc t' acc' _ h; simp only [sS] at h; cases h
  | succ fu ih =>
    intro dl t times op acc t' acc' hop h
    have hb := hO_b times op
    simp only [sS] at h
    have atom : ∀ (r : Nat × List (Int × Int)), atmS K V (fun t' a => sS K V fu (dl - 1) t' false 0 a) dl t acc = Sum.inl r → t < r.1 ∧ ∃ s1, r.2 = acc ++ s1 ∧ hk (3 + 2 * dl) s1 (hO times op) (hO times op + 1) ∧ s1.length ≤ r.1 - t := by
      intro r hr
      unfold atmS at hr
      by_cases k2 : K t = 2
      · rw [if_pos k2] at hr
        have := Sum.inl.inj hr
        rw [← this]
        exact ⟨by show t < t + 1; omega, [(0, V t)], rfl, hk_1 _ _ _ (by omega) (Or.inl ⟨rfl, (hv t).1 k2⟩), by show 1 ≤ t + 1 - t; omega⟩
      · rw [if_neg k2] at hr
        by_cases k4 : K t = 4
        · rw [if_pos k4] at hr
          have := Sum.inl.inj hr
          rw [← this]
          exact ⟨by show t < t + 1; omega, [(1, V t)], rfl, hk_1 _ _ _ (by omega) (Or.inr ⟨rfl, (hv t).2 k4⟩), by show 1 ≤ t + 1 - t; omega⟩
        · rw [if_neg k4] at hr
          by_cases k40 : K t = 40
          · rw [if_pos k40] at hr
            by_cases d0 : dl = 0
            · rw [if_pos d0] at hr; cases hr
            · rw [if_neg d0] at hr
              dsimp only at hr
              cases hi : sS K V fu (dl - 1) (t + 1) false 0 acc with
              | inr e => rw [hi] at hr; simp only [Sum.elim_inr] at hr; cases hr
              | inl q =>
                rw [hi] at hr
                simp only [Sum.elim_inl] at hr
                obtain ⟨a1, seg, a2, a3, a4⟩ := ih (dl - 1) (t + 1) false 0 acc q.1 q.2 (Or.inl rfl) hi
                by_cases k41 : K q.1 = 41
                · rw [if_pos k41] at hr
                  have := Sum.inl.inj hr
                  rw [← this]
                  have h0 : hO false 0 = 0 := rfl
                  rw [h0] at a3 a4
                  have hu := hk_up _ (hO times op) seg 0 1 a3
                  rw [Nat.zero_add, Nat.add_comm 1] at hu
                  exact ⟨by show t < q.1 + 1; omega, seg, a2, hk_le _ _ (by omega) seg _ _ hu, by show seg.length ≤ q.1 + 1 - t; omega⟩
                · rw [if_neg k41] at hr; cases hr
          · rw [if_neg k40] at hr; cases hr
    cases ha : atmS K V (fun t' a => sS K V fu (dl - 1) t' false 0 a) dl t acc with
    | inr e => rw [ha] at h; simp only [Sum.elim_inr] at h; cases h
    | inl r =>
      obtain ⟨b1, s1, b2, b3, b4⟩ := atom r ha
      rw [ha] at h
      simp only [Sum.elim_inl] at h
      rw [t_app, b2] at h
      obtain ⟨tl1, tl2⟩ := tail_hk (3 + 2 * dl) times op hop _ rfl
      have h1 := hk_app _ _ _ _ _ _ b3 tl1
      have hl1 : (if times = true then [((42 : Int), (0 : Int))] else []).length + hO false op = hO times op := by cases times <;> simp [hO]
      have hl2 : (if op = 0 then [] else [(op, (0 : Int))]).length = hO false op := by by_cases q : op = 0 <;> simp [hO, q]
      by_cases k42 : K r.1 = 42
      · rw [if_pos k42] at h
        obtain ⟨c1, seg, c2, c3, c4⟩ := ih dl (r.1 + 1) true op _ t' acc' hop h
        have e1 : hO true op = hO false op + 1 := by simp [hO]; omega
        rw [e1] at c3 c4
        refine ⟨by omega, (s1 ++ (if times = true then [(42, 0)] else [])) ++ seg, by rw [c2]; simp only [List.append_assoc], hk_app _ _ _ _ _ _ h1 c3, ?_⟩
        rw [List.length_append, List.length_append]; omega
      · rw [if_neg k42] at h
        have h2 := hk_app _ _ _ _ _ _ h1 tl2
        by_cases kp : K r.1 = 43 ∨ K r.1 = 45
        · rw [if_pos kp] at h
          obtain ⟨c1, seg, c2, c3, c4⟩ := ih dl (r.1 + 1) false (K r.1) _ t' acc' (Or.inr kp) h
          have e1 : hO false (K r.1) = 1 := by unfold hO; rw [if_neg (show ¬ K r.1 = 0 by omega)]; rfl
          rw [e1] at c3 c4
          refine ⟨by omega, ((s1 ++ (if times = true then [(42, 0)] else [])) ++ (if op = 0 then [] else [(op, 0)])) ++ seg, by rw [c2]; simp only [List.append_assoc], hk_app _ _ _ _ _ _ h2 c3, ?_⟩
          rw [List.length_append, List.length_append, List.length_append]; omega
        · rw [if_neg kp] at h
          have hh := Sum.inl.inj h
          have e1 : r.1 = t' := congrArg Prod.fst hh
          have e2 := congrArg Prod.snd hh
          dsimp only at e2
          refine ⟨by omega, (s1 ++ (if times = true then [(42, 0)] else [])) ++ (if op = 0 then [] else [(op, 0)]), by rw [← e2]; simp only [List.append_assoc], h2, ?_⟩
          rw [List.length_append, List.length_append]; omega
