/-! TESTS: the reference reads its arrays -/
def onesR (d : Dt) (k : Nat) (o : One) : Prop := d 42 k = b2i o.1 ∧ d 41 k = b2i o.2.1 ∧ d 40 k = o.2.2.1 ∧ ∃ lf nl nr : Nat, d 37 k = (lf : Int) ∧ d 38 k = ((lf + nl : Nat) : Int) ∧ d 39 k = ((lf + nl + nr : Nat) : Int) ∧ lf + nl + nr ≤ 4000 ∧ segP (d 43) (d 44) lf nl = o.2.2.2.1 ∧ segP (d 43) (d 44) (lf + nl) nr = o.2.2.2.2
def onesL (d : Dt) : Nat → List One → Prop
  | _, [] => True
  | k, o :: l => onesR d k o ∧ onesL d (k + 1) l
theorem onesR_cg {d d' : Dt} {k : Nat} {o : One} (h : onesR d k o) (hk : ∀ c, 37 ≤ c → c ≤ 44 → d' c = d c) : onesR d' k o := by
  unfold onesR at h ⊢
  rw [hk 37 (by decide) (by decide), hk 38 (by decide) (by decide), hk 39 (by decide) (by decide), hk 40 (by decide) (by decide), hk 41 (by decide) (by decide), hk 42 (by decide) (by decide), hk 43 (by decide) (by decide), hk 44 (by decide) (by decide)]
  exact h
theorem onesL_cg {d d' : Dt} (hk : ∀ c, 37 ≤ c → c ≤ 44 → d' c = d c) : ∀ (l : List One) (k : Nat), onesL d k l → onesL d' k l
  | [], _, _ => trivial
  | _ :: l, k, h => ⟨onesR_cg h.1 hk, onesL_cg hk l (k + 1) h.2⟩
theorem b2i_i (a b : Bool) : b2i a = b2i b ↔ a = b := by cases a <;> cases b <;> decide
theorem b35_e (d : Dt) (a b k : Nat) (part : Bool) (o : One) (hk : k < 1500) (ho : onesR d k o) (hw : wfO o) : ∃ d', L_Mo_holds_b35 (a : Int) (b : Int) (b2i part) (k : Int) d = some (Sum.inl ((a : Int), (b : Int), b2i (part && bO (d 50) o), ((k + 1 : Nat) : Int), d')) ∧ ∀ c, c ≠ 51 → d' c = d c := by
  obtain ⟨o1, o2, o3, lf, nl, nr, p1, p2, p3, p4, p5, p6⟩ := ho
  obtain ⟨w1, w2, w3⟩ := hw
  obtain ⟨d1, e1, e2⟩ := work_e d lf nl (by omega) (by rw [p5]; exact w2)
  obtain ⟨d2, e3, e4⟩ := work_e d1 (lf + nl) nr (by omega) (by rw [e2 43 (by decide), e2 44 (by decide), p6]; exact w3)
  rw [p5] at e1
  rw [e2 43 (by decide), e2 44 (by decide), e2 50 (by decide), p6] at e3
  have hd : ∀ c, c ≠ 51 → d2 c = d c := fun c hc => by rw [e4 c hc, e2 c hc]
  refine ⟨d2, ?_, hd⟩
  have ck15 : (0 : Int) ≤ (k : Int) ∧ (k : Int) < 1500 := by omega
  have b144 : ∀ x : Bool, L_Mo_holds_b144 (a : Int) (b : Int) (b2i part) (k : Int) (b2i x) d2 = some (Sum.inl ((a : Int), (b : Int), b2i (part && (x != o.2.1)), ((k + 1 : Nat) : Int), d2)) := by
    intro x
    unfold L_Mo_holds_b144 L_Mo_holds_b167
    rw [w32_i (show k < 2147483647 by omega), ck_pos ck15, tn_i, hd 41 (by decide), o2]
    cases part
    · rw [if_pos (by decide)]; rfl
    · rw [if_neg (by decide)]
      by_cases q : x = o.2.1
      · rw [if_pos (by rw [q]), q, bne_self_eq_false]; rfl
      · rw [if_neg (fun z => q ((b2i_i _ _).1 z))]
        have : (x != o.2.1) = true := by
          cases x <;> cases hn : o.2.1
          · rw [hn] at q; exact absurd rfl q
          · rfl
          · rfl
          · rw [hn] at q; exact absurd rfl q
        rw [this]; rfl
  unfold L_Mo_holds_b35
  rw [ck_pos ck15, ck_pos ck15, tn_i, p1, p2, e1, bd_e, ck_pos ck15, ck_pos ck15, e2 38 (by decide), e2 39 (by decide), p2, p3, e3, bd_e, ck_pos ck15, hd 40 (by decide), o3, ck_pos ck15]
  unfold bO cmpV
  have t1 := b144 true
  have t0 := b144 false
  rw [show b2i true = 1 from rfl] at t1
  rw [show b2i false = 0 from rfl] at t0
  by_cases c60 : o.2.2.1 = 60
  · rw [if_pos c60, if_pos c60]
    by_cases q : vlS (d 50) o.2.2.2.1 < vlS (d 50) o.2.2.2.2
    · rw [if_pos q, decide_eq_true q]; exact t1
    · rw [if_neg q, decide_eq_false q]; exact t0
  · rw [if_neg c60, if_neg c60]
    by_cases c62 : o.2.2.1 = 62
    · rw [if_pos c62, if_pos c62]
      by_cases q : vlS (d 50) o.2.2.2.2 < vlS (d 50) o.2.2.2.1
      · rw [if_pos q, decide_eq_true q]; exact t1
      · rw [if_neg q, decide_eq_false q]; exact t0
    · rw [if_neg c62, if_neg c62]
      by_cases q : vlS (d 50) o.2.2.2.1 = vlS (d 50) o.2.2.2.2
      · rw [if_pos q, decide_eq_true q]; exact t1
      · rw [if_neg q, decide_eq_false q]; exact t0
theorem hBLoop (a b : Nat) (hb : b ≤ 1500) : ∀ (l : List One) (k : Nat) (d : Dt) (part : Bool), k + l.length = b → a < k → onesL d k l → (∀ x, x ∈ l → wfO x) → ∀ fuel, l.length < fuel → ∃ r d', lpF (fun q : Int × Int × Int × Int × Dt => L_Mo_holds_y5 q.1 q.2.1 q.2.2.1 q.2.2.2.1 q.2.2.2.2) fuel ((a : Int), (b : Int), b2i part, (k : Int), d) = some r ∧ (∀ c, c ≠ 51 → d' c = d c) ∧ (r = Sum.inl (b2i (hgo (d 50) part l), d') ∨ (r = Sum.inr d' ∧ hgo (d 50) part l = true))
  | [], k, d, part, hk, hak, ho, hw, fuel, hf => by
    obtain ⟨g, rfl⟩ : ∃ g, fuel = g + 1 := ⟨fuel - 1, by omega⟩
    refine ⟨_, d, ?_, fun _ _ => rfl, Or.inl rfl⟩
    unfold lpF L_Mo_holds_y5
    dsimp only
    rw [if_neg (by simp only [List.length_nil] at hk; omega)]
    rfl
  | o :: l, k, d, part, hk, hak, ho, hw, fuel, hf => by
    obtain ⟨g, rfl⟩ : ∃ g, fuel = g + 1 := ⟨fuel - 1, by omega⟩
    simp only [List.length_cons] at hk hf
    have step : ∀ p : Bool, ∃ st r d', L_Mo_holds_b35 (a : Int) (b : Int) (b2i p) (k : Int) d = some (Sum.inl st) ∧ lpF (fun q : Int × Int × Int × Int × Dt => L_Mo_holds_y5 q.1 q.2.1 q.2.2.1 q.2.2.2.1 q.2.2.2.2) g st = some r ∧ (∀ c, c ≠ 51 → d' c = d c) ∧ (r = Sum.inl (b2i (hgo (d 50) (p && bO (d 50) o) l), d') ∨ (r = Sum.inr d' ∧ hgo (d 50) (p && bO (d 50) o) l = true)) := by
      intro p
      obtain ⟨d1, e1, e2⟩ := b35_e d a b k p o (by omega) ho.1 (hw o List.mem_cons_self)
      obtain ⟨r, d2, f1, f2, f3⟩ := hBLoop a b hb l (k + 1) d1 (p && bO (d 50) o) (by omega) (by omega) (onesL_cg (fun c h1 h2 => e2 c (by omega)) l _ ho.2) (fun x hx => hw x (List.mem_cons_of_mem _ hx)) g (by omega)
      rw [e2 50 (by decide)] at f3
      exact ⟨_, r, d2, e1, f1, fun c hc => by rw [f2 c hc, e2 c hc], f3⟩
    have hbeg := ho.1.1
    unfold lpF
    dsimp only
    have hy : L_Mo_holds_y5 (a : Int) (b : Int) (b2i part) (k : Int) d = if o.1 = true then (if part = true then some (Sum.inr (Sum.inr d)) else L_Mo_holds_b35 (a : Int) (b : Int) (b2i true) (k : Int) d) else L_Mo_holds_b35 (a : Int) (b : Int) (b2i part) (k : Int) d := by
      unfold L_Mo_holds_y5
      rw [if_pos (by omega), ck_pos ⟨by omega, by omega⟩, tn_i, hbeg, if_pos (show (a : Int) < (k : Int) by omega)]
      cases o.1
      · rw [if_pos (by decide), if_neg (by decide)]
      · rw [if_neg (by decide), if_pos rfl]
        cases part
        · rw [if_pos (by decide), if_neg (by decide)]; rfl
        · rw [if_neg (by decide), if_pos rfl]
    rw [hy]
    simp only [hgo]
    by_cases q : o.1 = true
    · rw [if_pos q, if_pos q]
      by_cases q2 : part = true
      · rw [if_pos q2, if_pos q2]
        exact ⟨_, d, rfl, fun _ _ => rfl, Or.inr ⟨rfl, rfl⟩⟩
      · rw [if_neg q2, if_neg q2]
        obtain ⟨st, r, d', g1, g2, g3, g4⟩ := step true
        rw [Bool.true_and] at g4
        rw [g1]
        exact ⟨r, d', g2, g3, g4⟩
    · rw [if_neg q, if_neg q]
      obtain ⟨st, r, d', g1, g2, g3, g4⟩ := step part
      rw [g1]
      exact ⟨r, d', g2, g3, g4⟩
theorem holdsB_e (d : Dt) (a : Nat) (l : List One) (hb : a + l.length ≤ 1500) (ho : onesL d a l) (hw : wfT l) : ∃ d', L_Mo_holds (a : Int) ((a + l.length : Nat) : Int) d = some (b2i (hT (d 50) l), d') ∧ ∀ c, c ≠ 51 → d' c = d c := by
  match l, hb, ho, hw with
  | o :: l, hb, ho, hw =>
    simp only [List.length_cons] at hb
    obtain ⟨d1, e1, e2⟩ := b35_e d a (a + (l.length + 1)) a true o (by omega) ho.1 (hw.2.2 o List.mem_cons_self)
    rw [Bool.true_and] at e1
    obtain ⟨r, d2, f1, f2, f3⟩ := hBLoop a (a + (l.length + 1)) (by omega) l (a + 1) d1 (bO (d 50) o) (by omega) (by omega) (onesL_cg (fun c h1 h2 => e2 c (by omega)) l _ ho.2) (fun x hx => hw.2.2 x (List.mem_cons_of_mem _ hx)) 999999 (by omega)
    rw [e2 50 (by decide)] at f3
    refine ⟨d2, ?_, fun c hc => by rw [f2 c hc, e2 c hc]⟩
    have hy : L_Mo_holds_y5 (a : Int) ((a + (l.length + 1) : Nat) : Int) 1 (a : Int) d = L_Mo_holds_b35 (a : Int) ((a + (l.length + 1) : Nat) : Int) (b2i true) (a : Int) d := by
      unfold L_Mo_holds_y5
      rw [if_pos (by omega), ck_pos ⟨by omega, by omega⟩, tn_i, if_neg (show ¬ (a : Int) < (a : Int) by omega)]
      split <;> rfl
    have hl : L_Mo_holds_l5 (a : Int) ((a + (l.length + 1) : Nat) : Int) 1 (a : Int) d = some r := by
      unfold L_Mo_holds_l5
      rw [show FU = 999999 + 1 from rfl]
      unfold lpF
      dsimp only
      rw [hy, e1]
      exact f1
    unfold L_Mo_holds
    rw [show (o :: l).length = l.length + 1 from rfl, hl, lb_e]
    show _ = some (b2i (hgo (d 50) (bO (d 50) o) l), d2)
    rcases f3 with rfl | ⟨rfl, h⟩
    · rw [sml_, u1_q]
    · rw [smr_, u0_q, h]; rfl
/-- a RULE's TESTS as the reference keeps them -/
def tstB (d : Dt) (r : Nat) (o1 o2 : List One) : Prop := ∃ a : Nat, d 32 r = (a : Int) ∧ d 33 r = ((a + o1.length : Nat) : Int) ∧ d 34 r = ((a + o1.length + o2.length : Nat) : Int) ∧ a + o1.length + o2.length ≤ 1500 ∧ onesL d a o1 ∧ onesL d (a + o1.length) o2
theorem doesHold_e (d : Dt) (r : Nat) (hr : r < 120) (o1 o2 : List One) (ht : tstB d r o1 o2) (h1 : wfT o1) (h2 : o2 = [] ∨ wfT o2) : ∃ d', L_Mo_doesHold (r : Int) d = some (b2i (hT (d 50) o1 && (decide (o2 = []) || !(hT (d 50) o2))), d') ∧ ∀ c, c ≠ 51 → d' c = d c := by
  obtain ⟨a, t1, t2, t3, t4, t5, t6⟩ := ht
  obtain ⟨d1, e1, e2⟩ := holdsB_e d a o1 (by omega) t5 h1
  have cr : (0 : Int) ≤ (r : Int) ∧ (r : Int) < 120 := by omega
  unfold L_Mo_doesHold
  rw [ck_pos cr, ck_pos cr, tn_i, t1, t2, e1, bd_e]
  cases hv : hT (d 50) o1
  · rw [if_pos (by decide)]
    exact ⟨d1, rfl, e2⟩
  · rw [if_neg (by decide), ck_pos cr, ck_pos cr, e2 34 (by decide), e2 33 (by decide), t2, t3]
    rcases h2 with h2 | h2
    · rw [h2, if_pos (by simp)]
      exact ⟨d1, rfl, e2⟩
    · have hlen : o2.length ≠ 0 := by
        intro z; exact h2.2.1 (List.length_eq_zero_iff.mp z)
      obtain ⟨d2, e3, e4⟩ := holdsB_e d1 (a + o1.length) o2 (by omega) (onesL_cg (fun c h1 h2 => e2 c (by omega)) o2 _ t6) h2
      rw [e2 50 (by decide)] at e3
      rw [if_neg (by omega), ck_pos cr, ck_pos cr, e3, bd_e, decide_eq_false h2.2.1, Bool.false_or, Bool.true_and]
      refine ⟨d2, ?_, fun c hc => by rw [e4 c hc, e2 c hc]⟩
      cases hT (d 50) o2
      · rw [if_pos (by decide)]; rfl
      · rw [if_neg (by decide)]; rfl
