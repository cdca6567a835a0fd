/-! TESTS: what their code means; the class's stack -/
abbrev One : Type := Bool × Bool × Int × List (Int × Int) × List (Int × Int)
def rckn (c a b : Int) : Int := if c = 25 then land a b else if c = 42 then w64 (a * b) else if c = 43 then w64 (a + b) else if c = 45 then w64 (a - b) else if c = 60 then (if a < b then 1 else 0) else if c = 61 then (if a = b then 1 else 0) else if c = 62 then (if b < a then 1 else 0) else lor a b
theorem reckon_e (c a b : Int) (d : Dt) : L_La_reckon c a b d = some (rckn c a b, d) := by
  unfold L_La_reckon rckn
  repeat' split
  all_goals rfl
/-- one step of the class's code on a stack, its top first -/
def stepA (v : Nat → Int) (c : Int) (st : List Int) : List Int := if c < 9 then v c.toNat :: st else if 128 ≤ c then (c - 128) :: st else if c = 26 then (match st with | [] => [] | a :: r => w64 (1 - a) :: r) else (match st with | b :: a :: r => rckn c a b :: r | s => s)
def eA (v : Nat → Int) : List Int → List Int → List Int
  | [], st => st
  | c :: l, st => eA v l (stepA v c st)
theorem eA_app (v : Nat → Int) : ∀ (l k st : List Int), eA v (l ++ k) st = eA v k (eA v l st)
  | [], _, _ => rfl
  | c :: l, k, st => eA_app v l k (stepA v c st)
/-- heights of the stack: never below what is asked, never above 32 -/
def hC : List Int → Nat → Nat → Prop
  | [], h, e => h = e
  | c :: l, h, e => if c < 9 ∨ 128 ≤ c then 0 ≤ c ∧ c < 100200 ∧ h < 32 ∧ hC l (h + 1) e else if c = 26 then 1 ≤ h ∧ hC l h e else 2 ≤ h ∧ hC l (h - 1) e
theorem hC_app : ∀ (l k : List Int) (h m e : Nat), hC l h m → hC k m e → hC (l ++ k) h e
  | [], k, h, m, e, h1, h2 => by
    have : h = m := h1
    subst this; exact h2
  | c :: l, k, h, m, e, h1, h2 => by
    simp only [hC, List.cons_append] at h1 ⊢
    by_cases q : c < 9 ∨ 128 ≤ c
    · rw [if_pos q] at h1 ⊢
      exact ⟨h1.1, h1.2.1, h1.2.2.1, hC_app l k _ m e h1.2.2.2 h2⟩
    · rw [if_neg q] at h1 ⊢
      by_cases q2 : c = 26
      · rw [if_pos q2] at h1 ⊢; exact ⟨h1.1, hC_app l k _ m e h1.2 h2⟩
      · rw [if_neg q2] at h1 ⊢; exact ⟨h1.1, hC_app l k _ m e h1.2 h2⟩
def stk (d : Dt) (k : Nat) : List Int → Prop
  | [] => True
  | v :: st => d k st.length = v ∧ stk d k st
theorem stk_cg {d d' : Dt} {k : Nat} : ∀ {st : List Int}, stk d k st → (∀ j, j < st.length → d' k j = d k j) → stk d' k st
  | [], _, _ => trivial
  | v :: st, h, hj => ⟨by rw [hj st.length (by simp only [List.length_cons]; omega)]; exact h.1, stk_cg h.2 (fun j hj2 => hj j (by simp only [List.length_cons]; omega))⟩
theorem w32d (a b : Nat) (h : b ≤ a) (ha : a < 1000) : w32 ((a : Int) - (b : Int)) = ((a - b : Nat) : Int) := by rw [w32_s (by omega) (by omega)]; omega
theorem w32m1 (a : Nat) (h : 1 ≤ a) (ha : a < 1000) : w32 ((a : Int) + -1) = ((a - 1 : Nat) : Int) := by rw [w32_s (by omega) (by omega)]; omega
theorem w32s1 (a : Nat) (h : 1 ≤ a) (ha : a < 1000) : w32 ((a : Int) - 1) = ((a - 1 : Nat) : Int) := by rw [w32_s (by omega) (by omega)]; omega
theorem holdStep (d : Dt) (b : Int) (en i : Nat) (c : Int) (st : List Int) (e : Nat) (l : List Int) (hi : i < en) (hen : en ≤ 600) (hb : stt d b) (hcode : d (b.toNat + 6) i = c) (hh : hC (c :: l) st.length e) (hs : stk d 36 st) (hcap : st.length ≤ 32) : ∃ d', L_La_holds_y40 (b + 6) (en : Int) (st.length : Int) (i : Int) d = some (Sum.inl (b + 6, (en : Int), ((stepA (d 35) c st).length : Int), ((i + 1 : Nat) : Int), d')) ∧ (∀ k, k ≠ 36 → d' k = d k) ∧ stk d' 36 (stepA (d 35) c st) ∧ hC l (stepA (d 35) c st).length e ∧ (stepA (d 35) c st).length ≤ 32 := by
  have hst : stt d (b + 6 - 6) := by rw [show b + 6 - 6 = b by omega]; exact hb
  unfold L_La_holds_y40 L_La_holds_b68 L_La_holds_b105 L_La_holds_b187
  rw [if_pos (by omega), ck_pos hst, ck_pos ⟨by omega, by omega⟩, show b + 6 - 6 = b by omega, tn_i, hcode, lt_e, w32_i (show i < 2147483647 by omega)]
  simp only [hC] at hh
  by_cases q : c < 9 ∨ 128 ≤ c
  · rw [if_pos q] at hh
    obtain ⟨h0, h1, h2, h3⟩ := hh
    rw [if_pos (show (st.length : Int) < 32 by omega), w32_i (show st.length < 2147483647 by omega)]
    by_cases q2 : c < 9
    · have e1 : stepA (d 35) c st = d 35 c.toNat :: st := by unfold stepA; rw [if_pos q2]
      rw [e1]
      refine ⟨up2 d 36 st.length (d 35 c.toNat), ?_, fun k hk => up2_K _ _ _ hk, ?_, by simpa using h3, by simp only [List.length_cons]; omega⟩
      · rw [if_pos (show c < 128 by omega), if_pos q2, if_pos q2, ck_pos ⟨h0, q2⟩, ck_pos ⟨by omega, by omega⟩, tn_i]; rfl
      · exact ⟨up2_s _ _ _ _, stk_cg hs (fun j hj => up2_j _ _ _ (by omega))⟩
    · have q3 : 128 ≤ c := by omega
      have e1 : stepA (d 35) c st = (c - 128) :: st := by unfold stepA; rw [if_neg q2, if_pos q3]
      rw [e1]
      refine ⟨up2 d 36 st.length (c - 128), ?_, fun k hk => up2_K _ _ _ hk, ?_, by simpa using h3, by simp only [List.length_cons]; omega⟩
      · rw [if_neg (show ¬ c < 128 by omega), if_neg q2, w32_s (x := c - 128) (by omega) (by omega), ck_pos ⟨by omega, by omega⟩, tn_i]; rfl
      · exact ⟨up2_s _ _ _ _, stk_cg hs (fun j hj => up2_j _ _ _ (by omega))⟩
  · rw [if_neg q] at hh
    rw [if_pos (show c < 128 by omega), if_neg (show ¬ c < 9 by omega)]
    by_cases q2 : c = 26
    · rw [if_pos q2] at hh
      obtain ⟨h1, h2⟩ := hh
      match st, h1, h2, hs, hcap with
      | a :: r, h1, h2, hs, hcap =>
        have e1 : stepA (d 35) c (a :: r) = w64 (1 - a) :: r := by unfold stepA; rw [if_neg (by omega), if_neg (by omega), if_pos q2]
        have hl : (a :: r).length = r.length + 1 := rfl
        rw [e1]
        rw [hl] at h2 ⊢
        refine ⟨up2 d 36 r.length (w64 (1 - a)), ?_, fun k hk => up2_K _ _ _ hk, ⟨up2_s _ _ _ _, stk_cg hs.2 (fun j hj => up2_j _ _ _ (by omega))⟩, h2, hcap⟩
        rw [hl] at hcap
        rw [if_pos q2, if_neg (by omega), w32s1 (r.length + 1) (by omega) (by omega), ck_pos ⟨by omega, by omega⟩, ck_pos ⟨by omega, by omega⟩, tn_i, show r.length + 1 - 1 = r.length by omega, hs.1]
        rfl
    · rw [if_neg q2] at hh
      obtain ⟨h1, h2⟩ := hh
      match st, h1, h2, hs, hcap with
      | x :: a :: r, h1, h2, hs, hcap =>
        have e1 : stepA (d 35) c (x :: a :: r) = rckn c a x :: r := by unfold stepA; rw [if_neg (by omega), if_neg (by omega), if_neg q2]
        have hl : (x :: a :: r).length = r.length + 2 := rfl
        rw [e1]
        rw [hl] at h2 ⊢
        have hd1 : d 36 (r.length + 1) = x := hs.1
        have hd2 : d 36 r.length = a := hs.2.1
        rw [hl] at hcap
        refine ⟨up2 d 36 r.length (rckn c a x), ?_, fun k hk => up2_K _ _ _ hk, ⟨up2_s _ _ _ _, stk_cg hs.2.2 (fun j hj => up2_j _ _ _ (by omega))⟩, by simpa using h2, by simp only [List.length_cons]; omega⟩
        rw [if_neg q2, if_neg (by omega), w32m1 (r.length + 2) (by omega) (by omega), w32s1 (r.length + 2 - 1) (by omega) (by omega), ck_pos ⟨by omega, by omega⟩, ck_pos ⟨by omega, by omega⟩, tn_i, tn_i, show r.length + 2 - 1 - 1 = r.length by omega, show r.length + 2 - 1 = r.length + 1 by omega, hd1, hd2, reckon_e, bd_e, ck_pos ⟨by omega, by omega⟩]
        rfl
def segF (f : Nat → Int) : Nat → Nat → List Int
  | _, 0 => []
  | a, n + 1 => f a :: segF f (a + 1) n
theorem segF_len (f : Nat → Int) : ∀ n a : Nat, (segF f a n).length = n
  | 0, _ => rfl
  | n + 1, a => by simp only [segF, List.length_cons, segF_len f n (a + 1)]
theorem holdLoop (b : Int) (en : Nat) (hen : en ≤ 600) : ∀ (n i : Nat) (d : Dt) (st : List Int) (e : Nat), i + n = en → stt d b → hC (segF (d (b.toNat + 6)) i n) st.length e → stk d 36 st → st.length ≤ 32 → ∀ fuel, n < fuel → ∃ d', lpF (fun q : Int × Int × Int × Int × Dt => L_La_holds_y40 q.1 q.2.1 q.2.2.1 q.2.2.2.1 q.2.2.2.2) fuel (b + 6, (en : Int), (st.length : Int), (i : Int), d) = some (((eA (d 35) (segF (d (b.toNat + 6)) i n) st).length : Int), d') ∧ (∀ k, k ≠ 36 → d' k = d k) ∧ stk d' 36 (eA (d 35) (segF (d (b.toNat + 6)) i n) st) ∧ (eA (d 35) (segF (d (b.toNat + 6)) i n) st).length = e ∧ e ≤ 32
  | 0, i, d, st, e, hi, hb, hh, hs, hcap, fuel, hf => by
    obtain ⟨g, rfl⟩ : ∃ g, fuel = g + 1 := ⟨fuel - 1, by omega⟩
    have hle : st.length = e := hh
    refine ⟨d, ?_, fun _ _ => rfl, hs, hle, by omega⟩
    unfold lpF L_La_holds_y40
    dsimp only
    rw [if_neg (by omega)]
    rfl
  | n + 1, i, d, st, e, hi, hb, hh, hs, hcap, fuel, hf => by
    obtain ⟨g, rfl⟩ : ∃ g, fuel = g + 1 := ⟨fuel - 1, by omega⟩
    obtain ⟨d1, s1, s2, s3, s4, s5⟩ := holdStep d b en i (d (b.toNat + 6) i) st e (segF (d (b.toNat + 6)) (i + 1) n) (by omega) hen hb rfl hh hs hcap
    have hne : b.toNat + 6 ≠ 36 := by have := hb.1; omega
    have hb1 : stt d1 b := by unfold stt at hb ⊢; rw [s2 GH (by decide)]; exact hb
    have s4' : hC (segF (d1 (b.toNat + 6)) (i + 1) n) (stepA (d 35) (d (b.toNat + 6) i) st).length e := by rw [s2 _ hne]; exact s4
    obtain ⟨d2, t1, t2, t3, t4, t5⟩ := holdLoop b en hen n (i + 1) d1 _ e (by omega) hb1 s4' s3 s5 g (by omega)
    rw [s2 35 (by decide), s2 (b.toNat + 6) hne] at t1 t3 t4
    refine ⟨d2, ?_, fun k hk => by rw [t2 k hk, s2 k hk], t3, t4, t5⟩
    unfold lpF
    dsimp only
    rw [s1]
    exact t1
theorem num1_e (d : Dt) (m : Nat) (hm : m < 100) (hb : stt d (d 32 m)) (hr : 0 ≤ d 33 m ∧ d 33 m < 20) : L_La_firstNumber (m : Int) d = some (d ((d 32 m).toNat + 4) (d 33 m).toNat, d) := by
  have hneg : ¬ d 32 m < 0 := by have := hb.1; omega
  have cm : (0 : Int) ≤ (m : Int) ∧ (m : Int) < 100 := by omega
  unfold L_La_firstNumber
  rw [tn_i, ck_pos cm, if_neg hneg, ck_pos hb, ck_pos cm, ck_pos hb, ck_pos hr]
theorem num2_e (d : Dt) (m : Nat) (hm : m < 100) (hb : stt d (d 32 m)) (hr : 0 ≤ d 33 m ∧ d 33 m < 20) : L_La_secondNumber (m : Int) d = some (d ((d 32 m).toNat + 5) (d 33 m).toNat, d) := by
  have hneg : ¬ d 32 m < 0 := by have := hb.1; omega
  have cm : (0 : Int) ≤ (m : Int) ∧ (m : Int) < 100 := by omega
  unfold L_La_secondNumber
  rw [tn_i, ck_pos cm, if_neg hneg, ck_pos hb, ck_pos cm, ck_pos hb, ck_pos hr]
theorem holdsA_e (d : Dt) (m : Nat) (hm : m < 100) (hb : stt d (d 32 m)) (hr : 0 ≤ d 33 m ∧ d 33 m < 20) (fi n : Nat) (h1 : d ((d 32 m).toNat + 4) (d 33 m).toNat = (fi : Int)) (h2 : d ((d 32 m).toNat + 5) (d 33 m).toNat = ((fi + n : Nat) : Int)) (h600 : fi + n ≤ 600) (hh : hC (segF (d ((d 32 m).toNat + 6)) fi n) 0 1) : ∃ d' x, L_La_holds (m : Int) d = some (if x = 0 then 0 else 1, d') ∧ eA (d 35) (segF (d ((d 32 m).toNat + 6)) fi n) [] = [x] ∧ ∀ k, k ≠ 36 → d' k = d k := by
  obtain ⟨d', t1, t2, t3, t4, t5⟩ := holdLoop (d 32 m) (fi + n) h600 n fi d [] 1 rfl hb hh trivial (by decide) FU (by show n < 1000000; omega)
  match hE : eA (d 35) (segF (d ((d 32 m).toNat + 6)) fi n) [], t4 with
  | [x], _ =>
    rw [hE] at t1 t3
    refine ⟨d', x, ?_, rfl, t2⟩
    have hneg : ¬ d 32 m < 0 := by have := hb.1; omega
    unfold L_La_holds L_La_holds_l40
    have cm : (0 : Int) ≤ (m : Int) ∧ (m : Int) < 100 := by omega
    rw [tn_i, ck_pos cm, if_neg hneg, ck_pos hb, num2_e d m hm hb hr, bd_e, ck_pos hb, h2, jmin_e, show min (((fi + n : Nat) : Int)) 600 = ((fi + n : Nat) : Int) by omega, lt_e, num1_e d m hm hb hr, bd_e, h1]
    rw [show lpF (fun q : Int × Int × Int × Int × Dt => L_La_holds_y40 q.1 q.2.1 q.2.2.1 q.2.2.2.1 q.2.2.2.2) FU (d 32 m + 6, ((fi + n : Nat) : Int), 0, (fi : Int), d) = _ from t1, lb_e, u1_q]
    have hd : d' 36 0 = x := t3.1
    have w0 : w32 (((([x] : List Int).length : Nat) : Int) - 1) = 0 := by
      rw [show ((([x] : List Int).length : Nat) : Int) = 1 from rfl]; decide
    rw [if_pos (show (0 : Int) < ((([x] : List Int).length : Nat) : Int) by simp), w0, ck_pos ⟨by decide, by decide⟩, show (0 : Int).toNat = 0 from rfl, hd]
    split <;> rfl
