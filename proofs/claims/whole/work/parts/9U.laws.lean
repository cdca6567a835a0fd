/-! LAWS: how both keep TEXTS and RULES -/
def pk5 (w : List Int) : Int := w.foldl (fun a x => a * 32 + x) 0
def pk8 (w : List Int) : Int := w.foldl (fun a x => a * 256 + (x + 96)) 0
theorem pk_app (m c : Int) (w : List Int) (x : Int) : (w ++ [x]).foldl (fun a x => a * m + (x + c)) 0 = w.foldl (fun a x => a * m + (x + c)) 0 * m + (x + c) := by
  rw [List.foldl_append]; rfl
def isW (w : List Int) : Prop := w ≠ [] ∧ w.length ≤ 8 ∧ ∀ x, x ∈ w → 1 ≤ x ∧ x ≤ 26
/-- packed words of letters are told apart -/
theorem pk_inj (m c : Int) (hm : 26 + c < m) (hc : 0 ≤ c) : ∀ (n : Nat) (w u : List Int), w.length = n → (∀ x, x ∈ w → 1 ≤ x ∧ x ≤ 26) → (∀ x, x ∈ u → 1 ≤ x ∧ x ≤ 26) → w.foldl (fun a x => a * m + (x + c)) 0 = u.foldl (fun a x => a * m + (x + c)) 0 → w = u := by
  have pos : ∀ (n : Nat) (w : List Int), w.length = n → (∀ x, x ∈ w → 1 ≤ x ∧ x ≤ 26) → 0 ≤ w.foldl (fun a x => a * m + (x + c)) 0 ∧ (w ≠ [] → 0 < w.foldl (fun a x => a * m + (x + c)) 0) := by
    intro n
    induction n with
    | zero =>
      intro w hw _
      have : w = [] := List.length_eq_zero_iff.mp hw
      subst this
      exact ⟨Int.le_refl 0, fun z => absurd rfl z⟩
    | succ n ih =>
      intro w hw hx
      have hne : w ≠ [] := by intro z; rw [z] at hw; cases hw
      obtain ⟨v, x, hvx⟩ : ∃ v x, w = v ++ [x] := ⟨w.dropLast, w.getLast hne, (List.dropLast_concat_getLast hne).symm⟩
      subst hvx
      rw [pk_app]
      have h1 := ih v (by simp only [List.length_append, List.length_cons, List.length_nil] at hw; omega) (fun y hy => hx y (List.mem_append_left _ hy))
      have h2 := hx x (List.mem_append_right _ List.mem_cons_self)
      have h3 : 0 ≤ v.foldl (fun a x => a * m + (x + c)) 0 * m := Int.mul_nonneg h1.1 (by omega)
      exact ⟨by omega, fun _ => by omega⟩
  intro n
  induction n with
  | zero =>
    intro w u hw _ hu e
    have : w = [] := List.length_eq_zero_iff.mp hw
    subst this
    by_cases hue : u = []
    · exact hue.symm
    · have := (pos u.length u rfl hu).2 hue
      rw [← e] at this
      exact absurd this (by show ¬ (0 : Int) < 0; omega)
  | succ n ih =>
    intro w u hw hx hu e
    have hne : w ≠ [] := by intro z; rw [z] at hw; cases hw
    have hue : u ≠ [] := by
      intro z; subst z
      have := (pos w.length w rfl hx).2 hne
      rw [e] at this
      exact absurd this (by show ¬ (0 : Int) < 0; omega)
    obtain ⟨v, x, hvx⟩ : ∃ v x, w = v ++ [x] := ⟨w.dropLast, w.getLast hne, (List.dropLast_concat_getLast hne).symm⟩
    obtain ⟨q, y, hqy⟩ : ∃ q y, u = q ++ [y] := ⟨u.dropLast, u.getLast hue, (List.dropLast_concat_getLast hue).symm⟩
    subst hvx
    subst hqy
    rw [pk_app, pk_app] at e
    have h2 := hx x (List.mem_append_right _ List.mem_cons_self)
    have h3 := hu y (List.mem_append_right _ List.mem_cons_self)
    obtain ⟨a, ha⟩ : ∃ a, a = v.foldl (fun a x => a * m + (x + c)) 0 := ⟨_, rfl⟩
    obtain ⟨b, hb⟩ : ∃ b, b = q.foldl (fun a x => a * m + (x + c)) 0 := ⟨_, rfl⟩
    rw [← ha, ← hb] at e
    have hab : a = b := by
      rcases Int.lt_trichotomy a b with h | h | h
      · have : (a + 1) * m ≤ b * m := Int.mul_le_mul_of_nonneg_right (by omega) (by omega)
        rw [Int.add_mul, Int.one_mul] at this
        omega
      · exact h
      · have : (b + 1) * m ≤ a * m := Int.mul_le_mul_of_nonneg_right (by omega) (by omega)
        rw [Int.add_mul, Int.one_mul] at this
        omega
    have hxy : x = y := by rw [hab] at e; omega
    rw [ha, hb] at hab
    have hvq := ih v q (by simp only [List.length_append, List.length_cons, List.length_nil] at hw; omega) (fun y hy => hx y (List.mem_append_left _ hy)) (fun y hy => hu y (List.mem_append_left _ hy)) hab
    rw [hvq, hxy]
theorem pk5_e (w : List Int) : pk5 w = w.foldl (fun a x => a * 32 + (x + 0)) 0 := by unfold pk5; simp only [Int.add_zero]
theorem pk5_inj (w u : List Int) (hw : isW w) (hu : isW u) : pk5 w = pk5 u ↔ w = u := by
  constructor
  · intro e; rw [pk5_e, pk5_e] at e; exact pk_inj 32 0 (by decide) (by decide) _ w u rfl hw.2.2 hu.2.2 e
  · intro e; rw [e]
theorem pk8_inj (w u : List Int) (hw : isW w) (hu : isW u) : pk8 w = pk8 u ↔ w = u := by
  constructor
  · intro e; exact pk_inj 256 96 (by decide) (by decide) _ w u rfl hw.2.2 hu.2.2 e
  · intro e; rw [e]
theorem pk_pos (w : List Int) (hw : isW w) : 0 < pk5 w ∧ 0 < pk8 w := by
  have key : ∀ (m c : Int), 0 ≤ c → 0 < m → ∀ (n : Nat) (w : List Int), w.length = n → (∀ x, x ∈ w → 1 ≤ x ∧ x ≤ 26) → 0 ≤ w.foldl (fun a x => a * m + (x + c)) 0 ∧ (w ≠ [] → 0 < w.foldl (fun a x => a * m + (x + c)) 0) := by
    intro m c hc hm n
    induction n with
    | zero =>
      intro w hw _
      have : w = [] := List.length_eq_zero_iff.mp hw
      subst this
      exact ⟨Int.le_refl 0, fun z => absurd rfl z⟩
    | succ n ih =>
      intro w hw hx
      have hne : w ≠ [] := by intro z; rw [z] at hw; cases hw
      obtain ⟨v, x, hvx⟩ : ∃ v x, w = v ++ [x] := ⟨w.dropLast, w.getLast hne, (List.dropLast_concat_getLast hne).symm⟩
      subst hvx
      rw [pk_app]
      have h1 := ih v (by simp only [List.length_append, List.length_cons, List.length_nil] at hw; omega) (fun y hy => hx y (List.mem_append_left _ hy))
      have h2 := hx x (List.mem_append_right _ List.mem_cons_self)
      have h3 : 0 ≤ v.foldl (fun a x => a * m + (x + c)) 0 * m := Int.mul_nonneg h1.1 (by omega)
      exact ⟨by omega, fun _ => by omega⟩
  refine ⟨?_, (key 256 96 (by decide) (by decide) _ w rfl hw.2.2).2 hw.1⟩
  rw [pk5_e]; exact (key 32 0 (by decide) (by decide) _ w rfl hw.2.2).2 hw.1
def lbR (a b : Int) : Prop := ∃ w, isW w ∧ a = pk5 w ∧ b = pk8 w
def tgR (a b : Int) : Prop := (a = 0 ∧ b = -1) ∨ lbR a b
theorem tg_lb {a b c e : Int} (h1 : tgR a b) (h2 : lbR c e) : a = c ↔ b = e := by
  obtain ⟨u, hu, rfl, rfl⟩ := h2
  have hp := pk_pos u hu
  rcases h1 with ⟨rfl, rfl⟩ | ⟨w, hw, rfl, rfl⟩
  · constructor <;> intro h <;> omega
  · rw [pk5_inj w u hw hu, pk8_inj w u hw hu]
/-- a RULE of a TEXT -/
def ruR (dA dB : Dt) (t i : Nat) : Prop := lbR (dA (79 + 7 * t + 1) i) (dB 35 (20 * t + i)) ∧ tgR (dA (79 + 7 * t + 2) i) (dB 36 (20 * t + i)) ∧
  ((((dA (79 + 7 * t + 3) i = 17 ∧ dB 29 (20 * t + i) = 1) ∨ (dA (79 + 7 * t + 3) i = 19 ∧ dB 29 (20 * t + i) = 2) ∨ (dA (79 + 7 * t + 3) i = 20 ∧ dB 29 (20 * t + i) = 3)) ∧ ∃ (o1 o2 : List One) (fi n : Nat), dA (79 + 7 * t + 4) i = (fi : Int) ∧ dA (79 + 7 * t + 5) i = ((fi + n : Nat) : Int) ∧ fi + n ≤ 600 ∧ segF (dA (79 + 7 * t + 6)) fi n = codeT o1 o2 ∧ wfT o1 ∧ (o2 = [] ∨ wfT o2) ∧ tstB dB (20 * t + i) o1 o2)
  ∨ (dA (79 + 7 * t + 3) i = 21 ∧ dB 29 (20 * t + i) = 4 ∧ dA (79 + 7 * t + 4) i = dB 30 (20 * t + i) ∧ 1 ≤ dB 30 (20 * t + i) ∧ dB 30 (20 * t + i) ≤ 4)
  ∨ (dA (79 + 7 * t + 3) i = 22 ∧ dB 29 (20 * t + i) = 5 ∧ dA (79 + 7 * t + 4) i = dB 30 (20 * t + i) ∧ dA (79 + 7 * t + 5) i = dB 31 (20 * t + i)))
def txR (dA dB : Dt) (t : Nat) : Prop := (dA (79 + 7 * t) 0 = dB 26 t ∧ 0 ≤ dB 26 t ∧ dB 26 t ≤ 9999) ∧ (dA (79 + 7 * t) 1 = dB 27 t ∧ 1 ≤ dB 27 t ∧ dB 27 t ≤ 127) ∧ (dA (79 + 7 * t) 2 = dB 28 t ∧ 0 ≤ dB 28 t ∧ dB 28 t ≤ 20) ∧ ∀ i : Nat, (i : Int) < dB 28 t → ruR dA dB t i
/-! TEXTS by days -/
def insD (dy : Nat → Int) (x : Nat) (L : List Nat) : List Nat := L.filter (fun y => decide (dy y ≤ dy x)) ++ x :: L.filter (fun y => decide (dy x < dy y))
def ordF (P : Nat → Bool) (dy : Nat → Int) : Nat → List Nat
  | 0 => []
  | k + 1 => if P k = true then insD dy k (ordF P dy k) else ordF P dy k
def srt (dy : Nat → Int) : List Nat → Prop
  | [] => True
  | a :: l => (∀ b, b ∈ l → dy a ≤ dy b) ∧ srt dy l
theorem srt_app (dy : Nat → Int) : ∀ (l k : List Nat), srt dy l → srt dy k → (∀ a b, a ∈ l → b ∈ k → dy a ≤ dy b) → srt dy (l ++ k)
  | [], _, _, hk, _ => hk
  | a :: l, k, hl, hk, h => ⟨fun b hb => by
      rcases List.mem_append.mp hb with hb | hb
      · exact hl.1 b hb
      · exact h a b List.mem_cons_self hb, srt_app dy l k hl.2 hk (fun x y hx hy => h x y (List.mem_cons_of_mem _ hx) hy)⟩
theorem srt_filter (dy : Nat → Int) (P : Nat → Bool) : ∀ l : List Nat, srt dy l → srt dy (l.filter P)
  | [], _ => trivial
  | a :: l, h => by
    rw [List.filter_cons]
    by_cases q : P a = true
    · rw [if_pos q]
      exact ⟨fun b hb => h.1 b (List.mem_filter.mp hb).1, srt_filter dy P l h.2⟩
    · rw [if_neg q]; exact srt_filter dy P l h.2
theorem ord_split (dy : Nat → Int) (x : Nat) : ∀ l : List Nat, srt dy l → l.filter (fun y => decide (dy y ≤ dy x)) ++ l.filter (fun y => decide (dy x < dy y)) = l
  | [], _ => rfl
  | a :: l, h => by
    have ih := ord_split dy x l h.2
    rw [List.filter_cons, List.filter_cons]
    by_cases q : dy a ≤ dy x
    · rw [if_pos (decide_eq_true q), if_neg (by rw [decide_eq_true_eq]; omega), List.cons_append, ih]
    · rw [if_neg (by rw [decide_eq_true_eq]; omega), if_pos (decide_eq_true (by omega))]
      have e1 : l.filter (fun y => decide (dy y ≤ dy x)) = [] := by
        rw [List.filter_eq_nil_iff]
        intro b hb
        have := h.1 b hb
        rw [decide_eq_true_eq]; omega
      rw [e1, List.nil_append] at ih
      rw [e1, List.nil_append, ih]
theorem ord_sorted (P : Nat → Bool) (dy : Nat → Int) : ∀ k : Nat, srt dy (ordF P dy k)
  | 0 => trivial
  | k + 1 => by
    have ih := ord_sorted P dy k
    simp only [ordF]
    by_cases q : P k = true
    · rw [if_pos q]
      unfold insD
      refine srt_app dy _ _ (srt_filter dy _ _ ih) ⟨fun b hb => ?_, srt_filter dy _ _ ih⟩ (fun a b ha hb => ?_)
      · have := (List.mem_filter.mp hb).2
        rw [decide_eq_true_eq] at this; omega
      · have h1 := (List.mem_filter.mp ha).2
        rw [decide_eq_true_eq] at h1
        rcases List.mem_cons.mp hb with rfl | hb
        · exact h1
        · have := (List.mem_filter.mp hb).2
          rw [decide_eq_true_eq] at this; omega
    · rw [if_neg q]; exact ih
theorem ord_mem (P : Nat → Bool) (dy : Nat → Int) : ∀ k x : Nat, x ∈ ordF P dy k → x < k ∧ P x = true
  | 0, x, h => absurd h List.not_mem_nil
  | k + 1, x, h => by
    have ih := ord_mem P dy k x
    simp only [ordF] at h
    by_cases q : P k = true
    · rw [if_pos q] at h
      unfold insD at h
      rcases List.mem_append.mp h with h | h
      · have := ih (List.mem_filter.mp h).1; exact ⟨by omega, this.2⟩
      · rcases List.mem_cons.mp h with rfl | h
        · exact ⟨by omega, q⟩
        · have := ih (List.mem_filter.mp h).1; exact ⟨by omega, this.2⟩
    · rw [if_neg q] at h
      have := ih h; exact ⟨by omega, this.2⟩
theorem ins_len (dy : Nat → Int) (x : Nat) (L : List Nat) (h : srt dy L) : (insD dy x L).length = L.length + 1 := by
  have := congrArg List.length (ord_split dy x L h)
  unfold insD
  simp only [List.length_append, List.length_cons] at this ⊢
  omega
theorem ord_len (P : Nat → Bool) (dy : Nat → Int) : ∀ k : Nat, (ordF P dy k).length ≤ k
  | 0 => Nat.le_refl 0
  | k + 1 => by
    have ih := ord_len P dy k
    simp only [ordF]
    by_cases q : P k = true
    · rw [if_pos q, ins_len dy k _ (ord_sorted P dy k)]; omega
    · rw [if_neg q]; omega
theorem ord_filter (P : Nat → Bool) (dy : Nat → Int) : ∀ k : Nat, (ordF (fun _ => true) dy k).filter P = ordF P dy k
  | 0 => rfl
  | k + 1 => by
    have ih := ord_filter P dy k
    simp only [ordF, if_true, insD]
    rw [List.filter_append, List.filter_cons, List.filter_filter, List.filter_filter]
    have e1 : ∀ Q : Nat → Bool, (ordF (fun _ => true) dy k).filter (fun a => P a && Q a) = (ordF P dy k).filter Q := by
      intro Q
      rw [← ih, List.filter_filter]
      congr 1
      funext a
      exact Bool.and_comm _ _
    rw [e1, e1]
    by_cases q : P k = true
    · rw [if_pos q, if_pos q]
    · rw [if_neg q, if_neg q]
      exact ord_split dy k (ordF P dy k) (ord_sorted P dy k)
