/-! TESTS: the reference's sums, and the class's code of the same -/
def stepB (v : Nat → Int) (s : Int × Int) (st : List Int) : List Int := if s.1 < 2 then (if s.1 = 0 then s.2 :: st else v s.2.toNat :: st) else (match st with | y :: x :: r => (if s.1 = 43 then w64 (x + y) else if s.1 = 45 then w64 (x - y) else w64 (x * y)) :: r | z => z)
def eB (v : Nat → Int) : List (Int × Int) → List Int → List Int
  | [], st => st
  | s :: l, st => eB v l (stepB v s st)
theorem eB_app (v : Nat → Int) : ∀ (l k : List (Int × Int)) (st : List Int), eB v (l ++ k) st = eB v k (eB v l st)
  | [], _, _ => rfl
  | c :: l, k, st => eB_app v l k (stepB v c st)
def hk (cap : Nat) : List (Int × Int) → Nat → Nat → Prop
  | [], h, e => h = e
  | s :: l, h, e => if s.1 < 2 then (s.1 = 0 ∧ 0 ≤ s.2 ∧ s.2 ≤ 99999 ∨ s.1 = 1 ∧ 0 ≤ s.2 ∧ s.2 < 9) ∧ h < cap ∧ hk cap l (h + 1) e else (s.1 = 42 ∨ s.1 = 43 ∨ s.1 = 45) ∧ 2 ≤ h ∧ hk cap l (h - 1) e
theorem hk_app (cap : Nat) : ∀ (l k : List (Int × Int)) (h m e : Nat), hk cap l h m → hk cap k m e → hk cap (l ++ k) h e
  | [], k, h, m, e, h1, h2 => by
    have : h = m := h1
    subst this; exact h2
  | s :: l, k, h, m, e, h1, h2 => by
    simp only [hk, List.cons_append] at h1 ⊢
    by_cases q : s.1 < 2
    · rw [if_pos q] at h1 ⊢; exact ⟨h1.1, h1.2.1, hk_app cap l k _ m e h1.2.2 h2⟩
    · rw [if_neg q] at h1 ⊢; exact ⟨h1.1, h1.2.1, hk_app cap l k _ m e h1.2.2 h2⟩
theorem hk_up (cap b : Nat) : ∀ (l : List (Int × Int)) (h e : Nat), hk cap l h e → hk (cap + b) l (h + b) (e + b)
  | [], h, e, h1 => by
    have : h = e := h1
    subst this; rfl
  | s :: l, h, e, h1 => by
    simp only [hk] at h1 ⊢
    by_cases q : s.1 < 2
    · rw [if_pos q] at h1 ⊢
      refine ⟨h1.1, by omega, ?_⟩
      have := hk_up cap b l (h + 1) e h1.2.2
      rw [show h + 1 + b = h + b + 1 by omega] at this; exact this
    · rw [if_neg q] at h1 ⊢
      refine ⟨h1.1, by omega, ?_⟩
      have := hk_up cap b l (h - 1) e h1.2.2
      rw [show h - 1 + b = h + b - 1 by omega] at this; exact this
theorem hk_le (cap cap2 : Nat) (hc : cap ≤ cap2) : ∀ (l : List (Int × Int)) (h e : Nat), hk cap l h e → hk cap2 l h e
  | [], _, _, h1 => h1
  | s :: l, h, e, h1 => by
    simp only [hk] at h1 ⊢
    by_cases q : s.1 < 2
    · rw [if_pos q] at h1 ⊢; exact ⟨h1.1, by omega, hk_le cap cap2 hc l _ e h1.2.2⟩
    · rw [if_neg q] at h1 ⊢; exact ⟨h1.1, h1.2.1, hk_le cap cap2 hc l _ e h1.2.2⟩
/-- what lies below is not touched -/
theorem eB_base (cap : Nat) (v : Nat → Int) : ∀ (l : List (Int × Int)) (h e : Nat) (s base : List Int), hk cap l h e → s.length = h → eB v l (s ++ base) = eB v l s ++ base ∧ (eB v l s).length = e
  | [], h, e, s, base, h1, h2 => ⟨rfl, by have : h = e := h1; show s.length = e; omega⟩
  | c :: l, h, e, s, base, h1, h2 => by
    simp only [hk] at h1
    by_cases q : c.1 < 2
    · rw [if_pos q] at h1
      have e1 : ∀ st : List Int, stepB v c st = (if c.1 = 0 then c.2 else v c.2.toNat) :: st := by
        intro st; unfold stepB; rw [if_pos q]; split <;> rfl
      simp only [eB]
      rw [e1, e1]
      have := eB_base cap v l (h + 1) e ((if c.1 = 0 then c.2 else v c.2.toNat) :: s) base h1.2.2 (by simp only [List.length_cons]; omega)
      rw [List.cons_append] at this; exact this
    · rw [if_neg q] at h1
      match s, h2 with
      | [], h2 => exact absurd h1.2.1 (by simp only [List.length_nil] at h2; omega)
      | [a], h2 => exact absurd h1.2.1 (by simp only [List.length_cons, List.length_nil] at h2; omega)
      | y :: x :: r, h2 =>
        have e1 : ∀ b : List Int, stepB v c (y :: x :: b) = (if c.1 = 43 then w64 (x + y) else if c.1 = 45 then w64 (x - y) else w64 (x * y)) :: b := by
          intro b; unfold stepB; rw [if_neg q]
        simp only [eB]
        rw [show (y :: x :: r) ++ base = y :: x :: (r ++ base) from rfl, e1, e1]
        have := eB_base cap v l (h - 1) e ((if c.1 = 43 then w64 (x + y) else if c.1 = 45 then w64 (x - y) else w64 (x * y)) :: r) base h1.2.2 (by simp only [List.length_cons] at h2 ⊢; omega)
        rw [List.cons_append] at this; exact this
def encS (s : Int × Int) : Int := if s.1 = 0 then 128 + s.2 else if s.1 = 1 then s.2 else s.1
def codeS (l : List (Int × Int)) : List Int := l.map encS
theorem codeS_app (l k : List (Int × Int)) : codeS (l ++ k) = codeS l ++ codeS k := List.map_append
theorem enc_e (cap : Nat) (v : Nat → Int) : ∀ (l : List (Int × Int)) (h e : Nat) (st : List Int), hk cap l h e → h ≤ st.length → eA v (codeS l) st = eB v l st
  | [], _, _, _, _, _ => rfl
  | c :: l, h, e, st, h1, h2 => by
    show eA v (codeS l) (stepA v (encS c) st) = eB v l (stepB v c st)
    simp only [hk] at h1
    by_cases q : c.1 < 2
    · rw [if_pos q] at h1
      have e1 : stepA v (encS c) st = stepB v c st := by
        unfold stepA stepB encS
        rw [if_pos q]
        rcases h1.1 with ⟨a1, a2, a3⟩ | ⟨a1, a2, a3⟩
        · rw [if_pos a1, if_pos a1, if_neg (by omega), if_pos (by omega), show 128 + c.2 - 128 = c.2 by omega]
        · rw [if_neg (show ¬ c.1 = 0 by omega), if_pos a1, if_pos (show c.2 < 9 by omega), if_neg (show ¬ c.1 = 0 by omega)]
      rw [e1]
      have e2 : (stepB v c st).length = st.length + 1 := by
        unfold stepB; rw [if_pos q]; split <;> rfl
      exact enc_e cap v l (h + 1) e _ h1.2.2 (by omega)
    · rw [if_neg q] at h1
      match st, h2 with
      | [], h2 => exact absurd h1.2.1 (by simp only [List.length_nil] at h2; omega)
      | [a], h2 => exact absurd h1.2.1 (by simp only [List.length_cons, List.length_nil] at h2; omega)
      | y :: x :: r, h2 =>
        have e0 : encS c = c.1 := by unfold encS; rw [if_neg (by omega), if_neg (by omega)]
        have e1 : stepA v (encS c) (y :: x :: r) = stepB v c (y :: x :: r) := by
          rw [e0]
          unfold stepA stepB rckn
          rw [if_neg (by omega), if_neg (by omega), if_neg (by omega), if_neg q]
          dsimp only
          rcases h1.1 with a | a | a
          · rw [if_neg (by omega), if_pos a, if_neg (by omega), if_neg (by omega)]
          · rw [if_neg (by omega), if_neg (by omega), if_pos a, if_pos a]
          · rw [if_neg (by omega), if_neg (by omega), if_neg (by omega), if_pos a, if_neg (by omega), if_pos a]
        rw [e1]
        have e2 : (stepB v c (y :: x :: r)).length = r.length + 1 := by unfold stepB; rw [if_neg q]; rfl
        exact enc_e cap v l (h - 1) e _ h1.2.2 (by simp only [List.length_cons] at h2; omega)
theorem enc_h (cap b : Nat) (hc : cap + b ≤ 32) : ∀ (l : List (Int × Int)) (h e : Nat), hk cap l h e → hC (codeS l) (h + b) (e + b)
  | [], h, e, h1 => by
    have : h = e := h1
    subst this; rfl
  | c :: l, h, e, h1 => by
    show hC (encS c :: codeS l) (h + b) (e + b)
    simp only [hk] at h1
    simp only [hC]
    by_cases q : c.1 < 2
    · rw [if_pos q] at h1
      have ih := enc_h cap b hc l (h + 1) e h1.2.2
      rw [show h + 1 + b = h + b + 1 by omega] at ih
      unfold encS
      rcases h1.1 with ⟨a1, a2, a3⟩ | ⟨a1, a2, a3⟩
      · rw [if_pos a1, if_pos (by omega)]; exact ⟨by omega, by omega, by omega, ih⟩
      · rw [if_neg (show ¬ c.1 = 0 by omega), if_pos a1, if_pos (by omega)]; exact ⟨by omega, by omega, by omega, ih⟩
    · rw [if_neg q] at h1
      have ih := enc_h cap b hc l (h - 1) e h1.2.2
      rw [show h - 1 + b = h + b - 1 by omega] at ih
      have e0 : encS c = c.1 := by unfold encS; rw [if_neg (by omega), if_neg (by omega)]
      rw [e0, if_neg (by omega), if_neg (by omega)]
      exact ⟨by omega, ih⟩
/-- the value of a sum -/
def vlS (v : Nat → Int) (l : List (Int × Int)) : Int := (eB v l []).headD 0
theorem vlS_e (cap : Nat) (v : Nat → Int) (l : List (Int × Int)) (base : List Int) (h : hk cap l 0 1) : eB v l base = vlS v l :: base := by
  obtain ⟨h1, h2⟩ := eB_base cap v l 0 1 [] base h rfl
  rw [List.nil_append] at h1
  rw [h1]
  unfold vlS
  match hE : eB v l [], h2 with
  | [x], _ => rfl
/-! the reference's work -/
def segP (f g : Nat → Int) : Nat → Nat → List (Int × Int)
  | _, 0 => []
  | a, n + 1 => (f a, g a) :: segP f g (a + 1) n
theorem workLoop (en : Nat) (hen : en ≤ 4000) : ∀ (n i : Nat) (d : Dt) (st : List Int) (e : Nat), i + n = en → hk 600 (segP (d 43) (d 44) i n) st.length e → stk d 51 st → st.length ≤ 600 → ∀ fuel, n < fuel → ∃ d', lpF (fun q : Int × Int × Int × Dt => L_Mo_work_y5 q.1 q.2.1 q.2.2.1 q.2.2.2) fuel ((en : Int), (st.length : Int), (i : Int), d) = some d' ∧ (∀ k, k ≠ 51 → d' k = d k) ∧ stk d' 51 (eB (d 50) (segP (d 43) (d 44) i n) st)
  | 0, i, d, st, e, hi, hh, hs, hcap, fuel, hf => by
    obtain ⟨g, rfl⟩ : ∃ g, fuel = g + 1 := ⟨fuel - 1, by omega⟩
    refine ⟨d, ?_, fun _ _ => rfl, hs⟩
    unfold lpF L_Mo_work_y5
    dsimp only
    rw [if_neg (by omega)]
  | n + 1, i, d, st, e, hi, hh, hs, hcap, fuel, hf => by
    obtain ⟨g, rfl⟩ : ∃ g, fuel = g + 1 := ⟨fuel - 1, by omega⟩
    have step : ∃ d1, L_Mo_work_y5 (en : Int) (st.length : Int) (i : Int) d = some (Sum.inl ((en : Int), ((stepB (d 50) (d 43 i, d 44 i) st).length : Int), ((i + 1 : Nat) : Int), d1)) ∧ (∀ k, k ≠ 51 → d1 k = d k) ∧ stk d1 51 (stepB (d 50) (d 43 i, d 44 i) st) ∧ hk 600 (segP (d 43) (d 44) (i + 1) n) (stepB (d 50) (d 43 i, d 44 i) st).length e ∧ (stepB (d 50) (d 43 i, d 44 i) st).length ≤ 600 := by
      simp only [segP, hk] at hh
      unfold L_Mo_work_y5 L_Mo_work_b59 L_Mo_work_b131 L_Mo_work_b132
      rw [if_pos (by omega), ck_pos ⟨by omega, by omega⟩, tn_i, lt_e, w32_i (show i < 2147483647 by omega), w32_i (show st.length < 2147483647 by omega)]
      by_cases q : d 43 i < 2
      · rw [if_pos q] at hh
        have e1 : stepB (d 50) (d 43 i, d 44 i) st = (if d 43 i = 0 then d 44 i else d 50 (d 44 i).toNat) :: st := by
          unfold stepB; dsimp only; rw [if_pos q]; split <;> rfl
        rw [e1, if_pos q]
        refine ⟨up2 d 51 st.length (if d 43 i = 0 then d 44 i else d 50 (d 44 i).toNat), ?_, fun k hk => up2_K _ _ _ hk, ⟨up2_s _ _ _ _, stk_cg hs (fun j hj => up2_j _ _ _ (by omega))⟩, by simpa using hh.2.2, by simp only [List.length_cons]; omega⟩
        rcases hh.1 with ⟨a1, a2, a3⟩ | ⟨a1, a2, a3⟩
        · rw [if_pos a1, if_pos a1, ck_pos ⟨by omega, by omega⟩, ck_pos ⟨by omega, by omega⟩, tn_i]; rfl
        · rw [if_neg (by omega), if_neg (by omega), ck_pos ⟨by omega, by omega⟩, ck_pos ⟨by omega, by omega⟩, ck_pos ⟨by omega, by omega⟩, tn_i]; rfl
      · rw [if_neg q] at hh
        match st, hh, hs, hcap with
        | [], hh, _, _ => exact absurd hh.2.1 (by simp)
        | [a], hh, _, _ => exact absurd hh.2.1 (by simp)
        | y :: x :: r, hh, hs, hcap =>
          have e1 : stepB (d 50) (d 43 i, d 44 i) (y :: x :: r) = (if d 43 i = 43 then w64 (x + y) else if d 43 i = 45 then w64 (x - y) else w64 (x * y)) :: r := by
            unfold stepB; dsimp only; rw [if_neg q]
          have hl : (y :: x :: r).length = r.length + 2 := rfl
          have hd1 : d 51 (r.length + 1) = y := hs.1
          have hd2 : d 51 r.length = x := hs.2.1
          rw [hl] at hcap hh
          rw [e1, hl, if_neg q]
          refine ⟨up2 d 51 r.length (if d 43 i = 43 then w64 (x + y) else if d 43 i = 45 then w64 (x - y) else w64 (x * y)), ?_, fun k hk => up2_K _ _ _ hk, ⟨up2_s _ _ _ _, stk_cg hs.2.2 (fun j hj => up2_j _ _ _ (by omega))⟩, by simpa using hh.2.2, by simp only [List.length_cons]; omega⟩
          rw [show w32 (((r.length + 2 : Nat) : Int) - 2) = ((r.length : Nat) : Int) from w32d (r.length + 2) 2 (by omega) (by omega), ck_pos ⟨by omega, by omega⟩, tn_i, hd2, lt_e, w32s1 (r.length + 2) (by omega) (by omega), show r.length + 2 - 1 = r.length + 1 by omega, ck_pos ⟨by omega, by omega⟩, tn_i, hd1, lt_e, w32m1 (r.length + 2) (by omega) (by omega), show r.length + 2 - 1 = r.length + 1 by omega, w32s1 (r.length + 1) (by omega) (by omega), show r.length + 1 - 1 = r.length by omega, ck_pos ⟨by omega, by omega⟩, ck_pos ⟨by omega, by omega⟩, ck_pos ⟨by omega, by omega⟩, tn_i]
          by_cases q3 : d 43 i = 43
          · rw [if_pos q3, if_pos q3]; rfl
          · rw [if_neg q3, if_neg q3]
            by_cases q4 : d 43 i = 45
            · rw [if_pos q4, if_pos q4]; rfl
            · rw [if_neg q4, if_neg q4]; rfl
    obtain ⟨d1, s1, s2, s3, s4, s5⟩ := step
    have s4' : hk 600 (segP (d1 43) (d1 44) (i + 1) n) (stepB (d 50) (d 43 i, d 44 i) st).length e := by rw [s2 43 (by decide), s2 44 (by decide)]; exact s4
    obtain ⟨d2, t1, t2, t3⟩ := workLoop en hen n (i + 1) d1 _ e (by omega) s4' s3 s5 g (by omega)
    rw [s2 43 (by decide), s2 44 (by decide), s2 50 (by decide)] at t3
    refine ⟨d2, ?_, fun k hk => by rw [t2 k hk, s2 k hk], t3⟩
    unfold lpF
    dsimp only
    rw [s1]
    exact t1
theorem work_e (d : Dt) (a n : Nat) (han : a + n ≤ 4000) (hh : hk 15 (segP (d 43) (d 44) a n) 0 1) : ∃ d', L_Mo_work (a : Int) ((a + n : Nat) : Int) d = some (vlS (d 50) (segP (d 43) (d 44) a n), d') ∧ ∀ k, k ≠ 51 → d' k = d k := by
  obtain ⟨d', t1, t2, t3⟩ := workLoop (a + n) han n a d [] 1 rfl (hk_le 15 600 (by decide) _ _ _ hh) trivial (by decide) FU (by show n < 1000000; omega)
  refine ⟨d', ?_, t2⟩
  rw [vlS_e 15 (d 50) _ [] hh] at t3
  unfold L_Mo_work L_Mo_work_l5
  rw [show lpF (fun q : Int × Int × Int × Dt => L_Mo_work_y5 q.1 q.2.1 q.2.2.1 q.2.2.2) FU (((a + n : Nat) : Int), 0, (a : Int), d) = _ from t1, lb_e, u0_q, show d' 51 0 = _ from t3.1]
