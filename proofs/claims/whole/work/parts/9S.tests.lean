/-! TESTS: ones, parts, whole; both sides -/
def b2i (b : Bool) : Int := if b = true then 1 else 0
def wfO (o : One) : Prop := (o.2.2.1 = 60 ∨ o.2.2.1 = 61 ∨ o.2.2.1 = 62) ∧ hk 15 o.2.2.2.1 0 1 ∧ hk 15 o.2.2.2.2 0 1
def cmpV (c a b : Int) : Bool := if c = 60 then decide (a < b) else if c = 62 then decide (b < a) else decide (a = b)
def bO (v : Nat → Int) (o : One) : Bool := cmpV o.2.2.1 (vlS v o.2.2.2.1) (vlS v o.2.2.2.2) != o.2.1
def codeO (o : One) : List Int := codeS o.2.2.2.1 ++ (codeS o.2.2.2.2 ++ ([o.2.2.1] ++ (if o.2.1 = true then [26] else [])))
theorem l01 (a b : Bool) : land (b2i a) (b2i b) = b2i (a && b) ∧ lor (b2i a) (b2i b) = b2i (a || b) ∧ w64 (1 - b2i a) = b2i (!a) := by
  cases a <;> cases b <;> decide +kernel
theorem rc_c (c a b : Int) (h : c = 60 ∨ c = 61 ∨ c = 62) : rckn c a b = b2i (cmpV c a b) := by
  unfold rckn cmpV b2i
  rcases h with rfl | rfl | rfl
  · by_cases q : a < b
    · simp [q]
    · simp [q]
  · by_cases q : a = b
    · simp [q]
    · simp [q]
  · by_cases q : b < a
    · simp [q]
    · simp [q]
theorem codeO_e (v : Nat → Int) (o : One) (hw : wfO o) (st : List Int) : eA v (codeO o) st = b2i (bO v o) :: st := by
  obtain ⟨h1, h2, h3⟩ := hw
  unfold codeO
  rw [eA_app, enc_e 15 v _ 0 1 st h2 (by omega), vlS_e 15 v _ st h2, eA_app, enc_e 15 v _ 0 1 _ h3 (by omega), vlS_e 15 v _ _ h3, eA_app]
  have e1 : eA v [o.2.2.1] (vlS v o.2.2.2.2 :: vlS v o.2.2.2.1 :: st) = b2i (cmpV o.2.2.1 (vlS v o.2.2.2.1) (vlS v o.2.2.2.2)) :: st := by
    show stepA v o.2.2.1 _ = _
    unfold stepA
    rw [if_neg (by omega), if_neg (by omega), if_neg (by omega)]
    dsimp only
    rw [rc_c _ _ _ h1]
  rw [e1]
  unfold bO
  cases hn : o.2.1
  · simp only [Bool.false_eq_true, if_false, eA]
    cases cmpV o.2.2.1 (vlS v o.2.2.2.1) (vlS v o.2.2.2.2) <;> rfl
  · simp only [if_true]
    simp only [eA]
    unfold stepA
    rw [if_neg (by decide), if_neg (by decide), if_pos rfl]
    dsimp only
    rw [(l01 _ false).2.2]
    cases cmpV o.2.2.1 (vlS v o.2.2.2.1) (vlS v o.2.2.2.2) <;> rfl
theorem codeO_h (o : One) (hw : wfO o) (h : Nat) (hh : h ≤ 16) : hC (codeO o) h (h + 1) := by
  obtain ⟨h1, h2, h3⟩ := hw
  unfold codeO
  have a1 := enc_h 15 h (by omega) _ 0 1 h2
  have a2 := enc_h 15 (h + 1) (by omega) _ 0 1 h3
  rw [Nat.zero_add] at a1 a2
  refine hC_app _ _ h (1 + h) _ a1 (hC_app _ _ (1 + h) (1 + (h + 1)) _ (by rw [show 1 + h = h + 1 by omega]; exact a2) (hC_app _ _ _ (h + 1) _ ?_ ?_))
  · simp only [hC]
    rw [if_neg (by omega), if_neg (by omega)]
    exact ⟨by omega, by omega⟩
  · cases hn : o.2.1
    · simp only [Bool.false_eq_true, if_false]; rfl
    · simp only [if_true, hC]
      rw [if_neg (by decide)]
      exact ⟨by omega, trivial⟩
def nb : List One → Bool
  | [] => true
  | o :: _ => o.1
def cgo : Bool → List One → List Int
  | _, [] => []
  | orO, o :: l => codeO o ++ ((if o.1 = true then [] else [25]) ++ ((if (nb l && orO) = true then [24] else []) ++ cgo (orO || nb l) l))
def hgo (v : Nat → Int) : Bool → List One → Bool
  | part, [] => part
  | part, o :: l => if o.1 = true then (if part = true then true else hgo v (bO v o) l) else hgo v (part && bO v o) l
def accS (orO acc : Bool) (base : List Int) : List Int := if orO = true then b2i acc :: base else base
theorem and25 (v : Nat → Int) (a b : Bool) (r : List Int) : eA v [25] (b2i a :: b2i b :: r) = b2i (b && a) :: r := by
  simp only [eA]
  unfold stepA
  rw [if_neg (by decide), if_neg (by decide), if_neg (by decide)]
  dsimp only
  unfold rckn
  rw [if_pos rfl, (l01 b a).1]
theorem or24 (v : Nat → Int) (a b : Bool) (r : List Int) : eA v [24] (b2i a :: b2i b :: r) = b2i (b || a) :: r := by
  simp only [eA]
  unfold stepA
  rw [if_neg (by decide), if_neg (by decide), if_neg (by decide)]
  dsimp only
  unfold rckn
  rw [if_neg (by decide), if_neg (by decide), if_neg (by decide), if_neg (by decide), if_neg (by decide), if_neg (by decide), if_neg (by decide), (l01 b a).2.1]
theorem not26 (v : Nat → Int) (a : Bool) (r : List Int) : eA v [26] (b2i a :: r) = b2i (!a) :: r := by
  simp only [eA]
  unfold stepA
  rw [if_neg (by decide), if_neg (by decide), if_pos rfl]
  dsimp only
  rw [(l01 a false).2.2]
theorem cgo_e (v : Nat → Int) : ∀ (l : List One) (o : One) (orO acc part : Bool) (base : List Int), (∀ x, x ∈ o :: l → wfO x) → eA v (cgo orO (o :: l)) (if o.1 = true then accS orO acc base else b2i part :: accS orO acc base) = b2i ((orO && acc) || hgo v (if o.1 = true then bO v o else part && bO v o) l) :: base := by
  intro l
  induction l with
  | nil =>
    intro o orO acc part base hw
    simp only [cgo, nb, Bool.true_and, hgo, Bool.or_true]
    rw [eA_app, codeO_e v o (hw o List.mem_cons_self), eA_app]
    have e1 : eA v (if o.1 = true then [] else [25]) (b2i (bO v o) :: (if o.1 = true then accS orO acc base else b2i part :: accS orO acc base)) = b2i (if o.1 = true then bO v o else part && bO v o) :: accS orO acc base := by
      cases o.1
      · simp only [Bool.false_eq_true, if_false]; exact and25 v _ _ _
      · simp only [if_true]; rfl
    rw [e1, List.append_nil]
    unfold accS
    cases orO
    · simp only [Bool.false_eq_true, if_false, Bool.false_and, Bool.false_or]; rfl
    · simp only [if_true, Bool.true_and]; exact or24 v _ _ _
  | cons o2 l ih =>
    intro o orO acc part base hw
    have ih' := fun a b c => ih o2 a b c base (fun x hx => hw x (List.mem_cons_of_mem _ hx))
    rw [show cgo orO (o :: o2 :: l) = codeO o ++ ((if o.1 = true then [] else [25]) ++ ((if (o2.1 && orO) = true then [24] else []) ++ cgo (orO || o2.1) (o2 :: l))) from rfl]
    rw [eA_app, codeO_e v o (hw o List.mem_cons_self), eA_app]
    have e1 : eA v (if o.1 = true then [] else [25]) (b2i (bO v o) :: (if o.1 = true then accS orO acc base else b2i part :: accS orO acc base)) = b2i (if o.1 = true then bO v o else part && bO v o) :: accS orO acc base := by
      cases o.1
      · simp only [Bool.false_eq_true, if_false]; exact and25 v _ _ _
      · simp only [if_true]; rfl
    rw [e1, eA_app]
    obtain ⟨p, hp⟩ : ∃ p, p = (if o.1 = true then bO v o else part && bO v o) := ⟨_, rfl⟩
    rw [← hp]
    simp only [hgo]
    cases h2 : o2.1
    · simp only [Bool.false_and, Bool.false_eq_true, if_false, Bool.or_false]
      have := ih' orO acc p
      rw [h2] at this
      simp only [Bool.false_eq_true, if_false] at this
      exact this
    · simp only [Bool.true_and, if_true, Bool.or_true]
      have e3 : eA v (if orO = true then [24] else []) (b2i p :: accS orO acc base) = accS true ((orO && acc) || p) base := by
        unfold accS
        cases orO
        · simp only [Bool.false_eq_true, if_false, Bool.false_and, Bool.false_or, if_true]; rfl
        · simp only [if_true, Bool.true_and]; exact or24 v _ _ _
      rw [e3]
      have := ih' true ((orO && acc) || p) p
      rw [h2] at this
      simp only [if_true, Bool.true_and] at this
      rw [this]
      cases p <;> simp
theorem cgo_h : ∀ (l : List One) (o : One) (orO : Bool) (b : Nat), b ≤ 2 → (∀ x, x ∈ o :: l → wfO x) → hC (cgo orO (o :: l)) (b + (if orO = true then 1 else 0) + (if o.1 = true then 0 else 1)) (b + 1) := by
  intro l
  induction l with
  | nil =>
    intro o orO b hb hw
    simp only [cgo, nb, Bool.true_and, List.append_nil]
    refine hC_app _ _ _ _ _ (codeO_h o (hw o List.mem_cons_self) _ (by split <;> split <;> omega)) (hC_app _ _ _ (b + (if orO = true then 1 else 0) + 1) _ ?_ ?_)
    · cases o.1
      · simp only [Bool.false_eq_true, if_false, hC]
        rw [if_neg (by decide), if_neg (by decide)]; omega
      · simp only [if_true, hC]
    · cases orO
      · simp only [Bool.false_eq_true, if_false, hC]
      · simp only [if_true, hC]
        rw [if_neg (by decide), if_neg (by decide)]; omega
  | cons o2 l ih =>
    intro o orO b hb hw
    rw [show cgo orO (o :: o2 :: l) = codeO o ++ ((if o.1 = true then [] else [25]) ++ ((if (o2.1 && orO) = true then [24] else []) ++ cgo (orO || o2.1) (o2 :: l))) from rfl]
    have ih' := ih o2 (orO || o2.1) b hb (fun x hx => hw x (List.mem_cons_of_mem _ hx))
    refine hC_app _ _ _ _ _ (codeO_h o (hw o List.mem_cons_self) _ (by split <;> split <;> omega)) (hC_app _ _ _ (b + (if orO = true then 1 else 0) + 1) _ ?_ (hC_app _ _ _ (b + (if (orO || o2.1) = true then 1 else 0) + (if o2.1 = true then 0 else 1)) _ ?_ ih'))
    · cases o.1
      · simp only [Bool.false_eq_true, if_false, hC]
        rw [if_neg (by decide), if_neg (by decide)]; omega
      · simp only [if_true, hC]
    · cases o2.1
      · cases orO
        · simp only [Bool.false_and, Bool.false_eq_true, if_false, Bool.or_false, hC]
        · simp only [Bool.false_and, Bool.false_eq_true, if_false, Bool.or_false, if_true, hC]
      · cases orO
        · simp only [Bool.true_and, Bool.false_eq_true, if_false, Bool.or_true, if_true, hC]
        · simp only [Bool.true_and, Bool.or_true, if_true, hC]
          rw [if_neg (by decide), if_neg (by decide)]; omega
/-- a TEST: the first one begins a part -/
def wfT (l : List One) : Prop := nb l = true ∧ l ≠ [] ∧ ∀ x, x ∈ l → wfO x
def hT (v : Nat → Int) : List One → Bool
  | [] => true
  | o :: l => hgo v (bO v o) l
def codeT (o1 o2 : List One) : List Int := cgo false o1 ++ (if o2 = [] then [] else cgo false o2 ++ [26, 25])
theorem codeT_e (v : Nat → Int) (o1 o2 : List One) (h1 : wfT o1) (h2 : o2 = [] ∨ wfT o2) : eA v (codeT o1 o2) [] = [b2i (hT v o1 && (decide (o2 = []) || !(hT v o2)))] ∧ hC (codeT o1 o2) 0 1 := by
  have one : ∀ (l : List One) (base : List Int), wfT l → eA v (cgo false l) base = b2i (hT v l) :: base := by
    intro l base hw
    match l, hw with
    | o :: l, hw =>
      have hb : o.1 = true := hw.1
      have := cgo_e v l o false false false base hw.2.2
      rw [hb] at this
      simp only [if_true, accS, Bool.false_eq_true, if_false, Bool.false_and, Bool.false_or] at this
      exact this
  have hgt : ∀ (l : List One) (b : Nat), b ≤ 2 → wfT l → hC (cgo false l) b (b + 1) := by
    intro l b hb hw
    match l, hw with
    | o :: l, hw =>
      have hbo : o.1 = true := hw.1
      have := cgo_h l o false b hb hw.2.2
      rw [hbo] at this
      simp only [if_true, Bool.false_eq_true, if_false, Nat.add_zero] at this
      exact this
  unfold codeT
  rcases h2 with h2 | h2
  · rw [if_pos h2, List.append_nil, one o1 [] h1, decide_eq_true h2, Bool.true_or, Bool.and_true]
    exact ⟨rfl, hgt o1 0 (by decide) h1⟩
  · rw [if_neg h2.2.1, decide_eq_false h2.2.1, Bool.false_or]
    constructor
    · rw [eA_app, one o1 [] h1, eA_app, one o2 _ h2]
      rw [show ([26, 25] : List Int) = [26] ++ [25] from rfl, eA_app, not26, and25]
    · refine hC_app _ _ 0 1 1 (hgt o1 0 (by decide) h1) (hC_app _ _ 1 2 1 (hgt o2 1 (by decide) h2) ?_)
      simp only [hC]
      decide
