/-! rows of references, copies, the static words and texts -/
theorem stt_kq {d : Dt} {x : Int} (o : Nat) (h : stt d (x - (o : Int))) : x = (((x - (o : Int)).toNat + o : Nat) : Int) := by have := h.1; omega
theorem stt_ne {d : Dt} {x : Int} (h : stt d x) : ¬ x < 0 := by have := h.1; omega
theorem kw_c64 : ∀ (id j : Nat), c64 (kw id j) := by
  intro id j
  unfold kw
  have h : ∀ x ∈ kwT id, c64 x := by
    unfold kwT
    split <;> (unfold c64; decide)
  by_cases hj : j < (kwT id).length
  · rw [List.getD_eq_getElem?_getD, List.getElem?_eq_getElem hj]
    exact h _ (List.getElem_mem hj)
  · rw [List.getD_eq_getElem?_getD, List.getElem?_eq_none (by omega)]
    unfold c64; decide
theorem kw_b : ∀ (id j : Nat), id = 1000005 ∨ id = 1000006 → -128 ≤ kw id j ∧ kw id j < 128 := by
  intro id j hid
  unfold kw
  have h : ∀ x ∈ kwT id, -128 ≤ x ∧ x < 128 := by
    rcases hid with rfl | rfl <;> (unfold kwT; decide)
  by_cases hj : j < (kwT id).length
  · rw [List.getD_eq_getElem?_getD, List.getElem?_eq_getElem hj]
    exact h _ (List.getElem_mem hj)
  · rw [List.getD_eq_getElem?_getD, List.getElem?_eq_none (by omega)]
    decide
theorem cv_lit (ad : Nat → Nat) {k : Nat} {x : Int} (h : x = (k : Int)) : cv ad (2, x) = .ref (ad k) := by subst h; exact cv_r ad k
/-! small words of the walk -/
theorem ite_t {α : Type} {c : Prop} [Decidable c] {x y : Option α} {o : Option α} (hc : c) (h : (if c then x else y) = o) : x = o := by rw [if_pos hc] at h; exact h
theorem ite_f {α : Type} {c : Prop} [Decidable c] {x y : Option α} {o : Option α} (hc : ¬ c) (h : (if c then x else y) = o) : y = o := by rw [if_neg hc] at h; exact h
theorem ret_inj {a b : Int} {d e : Dt} (h : some (a, d) = some (b, e)) : a = b ∧ d = e := by cases h; exact ⟨rfl, rfl⟩
theorem stt_ko0 {d : Dt} {x : Int} (h : stt d x) : x = ((x.toNat + 0 : Nat) : Int) := by have := h.1; omega
/-- locals that are known less well -/
def lsb : List AV → List AV → Prop
  | lo, [] => True
  | [], b :: bs => ¬ b.1 < 3 ∧ lsb [] bs
  | a :: as, b :: bs => (b.1 < 3 → a = b) ∧ lsb as bs
theorem lsb_at : ∀ {lo lo2 : List AV} {i : Nat} {v : AV}, lsb lo lo2 → lo2[i]? = some v → v.1 < 3 → lo[i]? = some v
  | _, [], _, _, _, h, _ => by simp at h
  | [], b :: bs, 0, v, hs, h, hv => by cases h; exact absurd hv hs.1
  | [], b :: bs, i + 1, v, hs, h, hv => by
    have h1 := lsb_at (lo := []) (i := i) hs.2 h hv
    simp at h1
  | a :: as, b :: bs, 0, v, hs, h, hv => by
    cases h
    exact congrArg some (hs.1 hv)
  | a :: as, b :: bs, i + 1, v, hs, h, hv => lsb_at (lo := as) (i := i) hs.2 h hv
theorem lsb_e {lo : List AV} : lsb lo [] := by cases lo <;> trivial
theorem lsb_v {a : AV} {lo lo2 : List AV} (h : lsb lo lo2) : lsb (a :: lo) (a :: lo2) := ⟨fun _ => rfl, h⟩
theorem lsb_c {a : AV} {lo lo2 : List AV} (h : lsb lo lo2) : lsb (a :: lo) ((9, 0) :: lo2) := ⟨fun h => absurd h (by decide), h⟩
theorem lsb_n {lo2 : List AV} (h : lsb [] lo2) : lsb [] ((9, 0) :: lo2) := ⟨by decide, h⟩
theorem nar_ch {x : Int} (h : 0 ≤ x ∧ x < 65536) : narrow .char (.int (Int32.ofInt x)) = .int (Int32.ofInt x) := by
  obtain ⟨q, rfl⟩ : ∃ q : Nat, x = (q : Int) := ⟨x.toNat, by omega⟩
  have h2 := (pk_charN (q := q) (by omega)).1
  rw [Int32.ofInt_eq_ofNat]; exact h2
/-- the locals behind a store, told place by place -/
def sto1 : List AV → Nat → AV → List AV → Prop
  | _ :: lo, 0, v, b :: lo' => b = v ∧ lo' = lo
  | a :: lo, i + 1, v, b :: lo' => (b = a ∧ (i = 0 → a.1 ≠ 1) ∨ b = (9, 0)) ∧ sto1 lo i v lo'
  | _, _, _, _ => False
def sto2 : List AV → Nat → AV → List AV → Prop
  | _ :: lo, 0, v, b :: lo' => b = v ∧ ∃ (c : AV) (l1 : List AV), lo = c :: l1 ∧ lo' = (9, 0) :: l1
  | a :: lo, i + 1, v, b :: lo' => (b = a ∧ (i = 0 → a.1 ≠ 1) ∨ b = (9, 0)) ∧ sto2 lo i v lo'
  | _, _, _, _ => False
theorem s1z {a v : AV} {lo : List AV} : sto1 (a :: lo) 0 v (v :: lo) := ⟨rfl, rfl⟩
theorem s1k {a v : AV} {lo lo' : List AV} {i : Nat} (h : sto1 lo (i + 1) v lo') : sto1 (a :: lo) (i + 1 + 1) v (a :: lo') := ⟨Or.inl ⟨rfl, fun h => absurd h (Nat.succ_ne_zero _)⟩, h⟩
theorem s1n {t : Nat} {x : Int} {v : AV} {lo lo' : List AV} (ha : t ≠ 1) (h : sto1 lo 0 v lo') : sto1 ((t, x) :: lo) (0 + 1) v ((t, x) :: lo') := ⟨Or.inl ⟨rfl, fun _ => ha⟩, h⟩
theorem s1f {a v : AV} {lo lo' : List AV} {i : Nat} (h : sto1 lo i v lo') : sto1 (a :: lo) (i + 1) v ((9, 0) :: lo') := ⟨Or.inr rfl, h⟩
theorem s2z {a b v : AV} {lo : List AV} : sto2 (a :: b :: lo) 0 v (v :: (9, 0) :: lo) := ⟨rfl, b, lo, rfl, rfl⟩
theorem s2k {a v : AV} {lo lo' : List AV} {i : Nat} (h : sto2 lo (i + 1) v lo') : sto2 (a :: lo) (i + 1 + 1) v (a :: lo') := ⟨Or.inl ⟨rfl, fun h => absurd h (Nat.succ_ne_zero _)⟩, h⟩
theorem s2n {t : Nat} {x : Int} {v : AV} {lo lo' : List AV} (ha : t ≠ 1) (h : sto2 lo 0 v lo') : sto2 ((t, x) :: lo) (0 + 1) v ((t, x) :: lo') := ⟨Or.inl ⟨rfl, fun _ => ha⟩, h⟩
theorem s2f {a v : AV} {lo lo' : List AV} {i : Nat} (h : sto2 lo i v lo') : sto2 (a :: lo) (i + 1) v ((9, 0) :: lo') := ⟨Or.inr rfl, h⟩
theorem sto1_at : ∀ {lo : List AV} {i : Nat} {v : AV} {lo' : List AV}, sto1 lo i v lo' → i < lo.length ∧ ∀ (j : Nat) (x : AV), lo'[j]? = some x → x.1 < 3 → (j = i ∧ x = v) ∨ (j ≠ i ∧ lo[j]? = some x ∧ ¬ (j + 1 = i ∧ x.1 = 1))
  | [], 0, _, [], h => h.elim
  | [], 0, _, _ :: _, h => h.elim
  | [], _ + 1, _, [], h => h.elim
  | [], _ + 1, _, _ :: _, h => h.elim
  | _ :: _, 0, _, [], h => h.elim
  | _ :: _, _ + 1, _, [], h => h.elim
  | a :: lo, 0, v, b :: lo', h => by
    obtain ⟨rfl, rfl⟩ := h
    refine ⟨Nat.zero_lt_succ _, fun j x hj hx => ?_⟩
    cases j with
    | zero => exact Or.inl ⟨rfl, (Option.some.inj hj).symm⟩
    | succ j => exact Or.inr ⟨Nat.succ_ne_zero _, hj, fun z => by omega⟩
  | a :: lo, i + 1, v, b :: lo', h => by
    have ih := sto1_at h.2
    refine ⟨Nat.succ_lt_succ ih.1, fun j x hj hx => ?_⟩
    cases j with
    | zero =>
      have e : b = x := Option.some.inj hj
      subst e
      rcases h.1 with ⟨rfl, h1⟩ | rfl
      · exact Or.inr ⟨fun z => by omega, rfl, fun z => h1 (by omega) z.2⟩
      · exact absurd hx (by decide)
    | succ j =>
      rcases ih.2 j x hj hx with ⟨rfl, rfl⟩ | ⟨h1, h2, h3⟩
      · exact Or.inl ⟨rfl, rfl⟩
      · exact Or.inr ⟨fun z => h1 (by omega), h2, fun z => h3 ⟨by omega, z.2⟩⟩
theorem sto2_at : ∀ {lo : List AV} {i : Nat} {v : AV} {lo' : List AV}, sto2 lo i v lo' → i < lo.length ∧ ∀ (j : Nat) (x : AV), lo'[j]? = some x → x.1 < 3 → (j = i ∧ x = v) ∨ (j ≠ i ∧ j ≠ i + 1 ∧ lo[j]? = some x ∧ ¬ (j + 1 = i ∧ x.1 = 1))
  | [], 0, _, [], h => h.elim
  | [], 0, _, _ :: _, h => h.elim
  | [], _ + 1, _, [], h => h.elim
  | [], _ + 1, _, _ :: _, h => h.elim
  | _ :: _, 0, _, [], h => h.elim
  | _ :: _, _ + 1, _, [], h => h.elim
  | a :: lo, 0, v, b :: lo', h => by
    obtain ⟨rfl, c, l1, rfl, rfl⟩ := h
    refine ⟨Nat.zero_lt_succ _, fun j x hj hx => ?_⟩
    match j, hj with
    | 0, hj => exact Or.inl ⟨rfl, (Option.some.inj hj).symm⟩
    | 1, hj => have e : ((9, 0) : AV) = x := Option.some.inj hj; subst e; exact absurd hx (by decide)
    | j + 2, hj => exact Or.inr ⟨fun z => by omega, fun z => by omega, hj, fun z => by omega⟩
  | a :: lo, i + 1, v, b :: lo', h => by
    have ih := sto2_at h.2
    refine ⟨Nat.succ_lt_succ ih.1, fun j x hj hx => ?_⟩
    cases j with
    | zero =>
      have e : b = x := Option.some.inj hj
      subst e
      rcases h.1 with ⟨rfl, h1⟩ | rfl
      · exact Or.inr ⟨fun z => by omega, fun z => by omega, rfl, fun z => h1 (by omega) z.2⟩
      · exact absurd hx (by decide)
    | succ j =>
      rcases ih.2 j x hj hx with ⟨rfl, rfl⟩ | ⟨h1, h4, h2, h3⟩
      · exact Or.inl ⟨rfl, rfl⟩
      · exact Or.inr ⟨fun z => h1 (by omega), fun z => h4 (by omega), h2, fun z => h3 ⟨by omega, z.2⟩⟩
theorem sto1_st {lo lo' : List AV} {i : Nat} {v : AV} (h : sto1 lo i v lo') : ∀ (j : Nat) (x : AV), lo'[j]? = some x → x.1 < 3 → (st1 lo i v)[j]? = some x := by
  intro j x hj hx
  obtain ⟨h0, h1⟩ := sto1_at h
  unfold st1
  rw [List.getElem?_set]
  rcases h1 j x hj hx with ⟨rfl, rfl⟩ | ⟨h2, h3, h4⟩
  · rw [if_pos rfl, if_pos (by rw [List.length_mapIdx]; exact h0)]
  · rw [if_neg (fun z => h2 z.symm), List.getElem?_mapIdx, h3, Option.map_some, if_neg h4]
theorem sto2_st {lo lo' : List AV} {i : Nat} {v : AV} (h : sto2 lo i v lo') : ∀ (j : Nat) (x : AV), lo'[j]? = some x → x.1 < 3 → (st2 lo i v)[j]? = some x := by
  intro j x hj hx
  obtain ⟨h0, h1⟩ := sto2_at h
  unfold st2
  rw [List.getElem?_set]
  rcases h1 j x hj hx with ⟨rfl, rfl⟩ | ⟨h2, h5, h3, h4⟩
  · rw [if_pos rfl, if_pos (by rw [List.length_mapIdx]; exact h0)]
  · rw [if_neg (fun z => h2 z.symm), List.getElem?_mapIdx, h3, Option.map_some, if_neg (fun z => z.elim h4 h5)]
theorem tg0 {x : Int} : ((0, x) : AV).1 ≠ 1 := fun h => absurd (show (0 : Nat) = 1 from h) (by decide)
theorem tg2 {x : Int} : ((2, x) : AV).1 ≠ 1 := fun h => absurd (show (2 : Nat) = 1 from h) (by decide)
theorem c32_n {n : Nat} (h : n < 100000) : c32 (n : Int) := by unfold c32; omega
theorem lcmp_c (a b : Int) : c32 (lcmp a b) := by unfold lcmp c32; split <;> (try split) <;> omega
theorem lcmp_lt (a b : Int) : lcmp a b < 0 ↔ a < b := by unfold lcmp; split <;> (try split) <;> omega
theorem lcmp_gt (a b : Int) : 0 < lcmp a b ↔ b < a := by unfold lcmp; split <;> (try split) <;> omega
theorem lcmp_eq (a b : Int) : lcmp a b = 0 ↔ a = b := by unfold lcmp; split <;> (try split) <;> omega
def jmin (x y : Int) : Int := if y < x then y else x
def jmax (x y : Int) : Int := if x < y then y else x
def jmaxl (x y : Int) : Int := if y < x then x else y
def jabs (x : Int) : Int := if 0 ≤ x then x else w32 (0 - x)
theorem jmin_c {x y : Int} (hx : c32 x) (hy : c32 y) : c32 (jmin x y) := by unfold jmin; split <;> assumption
theorem jmax_c {x y : Int} (hx : c32 x) (hy : c32 y) : c32 (jmax x y) := by unfold jmax; split <;> assumption
theorem jmaxl_c {x y : Int} (hx : c64 x) (hy : c64 y) : c64 (jmaxl x y) := by unfold jmaxl; split <;> assumption
theorem jabs_c {x : Int} (hx : c32 x) : c32 (jabs x) := by unfold jabs; split; exact hx; exact w32_c _
section MACH3
variable {p : Program} {l : Launch} {e : Env} {R : Room} {s : State} {m : MethodId} {args : Array Value} {below : List Frame} {meth : Method} {c : Code} {cells slots : Nat} {Q : State → Prop} {cc : ByteArray} {nL : Nat} {own : String} {D : va_G} {cA : Nat → ClassId} {ad : Nat → Nat} {wd : Nat} {A : Nat → Prop}
variable {pc : Nat} {lo rest : List AV} {d : Dt}
theorem g_val {v : Int} {y : Int} {t : Nat} (hv : v = y) (k : G p l e R s m args below meth c cells slots Q nL D cA ad wd A pc lo ((t, y) :: rest) d) : G p l e R s m args below meth c cells slots Q nL D cA ad wd A pc lo ((t, v) :: rest) d := by subst hv; exact k
theorem g_st {st st2 : List AV} (h : st = st2) (k : G p l e R s m args below meth c cells slots Q nL D cA ad wd A pc lo st2 d) : G p l e R s m args below meth c cells slots Q nL D cA ad wd A pc lo st d := by subst h; exact k
theorem g_sub {lo2 : List AV} (h : lsb lo lo2) (k : G p l e R s m args below meth c cells slots Q nL D cA ad wd A pc lo2 rest d) : G p l e R s m args below meth c cells slots Q nL D cA ad wd A pc lo rest d :=
  fun ls H locs hl hH hS => k ls H locs ⟨hl.1, hl.2.1, fun i v h1 h2 => hl.2.2 i v (lsb_at h h1 h2) h2⟩ hH hS
theorem g_subI {lo2 : List AV} (h : ∀ (j : Nat) (x : AV), lo2[j]? = some x → x.1 < 3 → lo[j]? = some x) (k : G p l e R s m args below meth c cells slots Q nL D cA ad wd A pc lo2 rest d) : G p l e R s m args below meth c cells slots Q nL D cA ad wd A pc lo rest d :=
  fun ls H locs hl hH hS => k ls H locs ⟨hl.1, hl.2.1, fun i v h1 h2 => hl.2.2 i v (h i v h1 h2) h2⟩ hH hS
theorem s_istore_n (C : Cx p s m args c cc nL own D cA ad wd A) (i : Fin 4) {x : Int} {lo' : List AV} (hi : (i : Nat) < nL) (hl' : sto1 lo (i : Nat) (0, x) lo') (hd : decode cc pc = .ok (.istore_n i, 1)) (k : G p l e R s m args below meth c cells slots Q nL D cA ad wd A (pc + 1) lo' rest d) : G p l e R s m args below meth c cells slots Q nL D cA ad wd A pc lo ((0, x) :: rest) d :=
  g_istore_n C i hi rfl hd (g_subI (sto1_st hl') k)
theorem s_istore (C : Cx p s m args c cc nL own D cA ad wd A) (i : Nat) {x : Int} {lo' : List AV} (hi : (i : Nat) < nL) (hl' : sto1 lo (i : Nat) (0, x) lo') (hd : decode cc pc = .ok (.istore i, 2)) (k : G p l e R s m args below meth c cells slots Q nL D cA ad wd A (pc + 2) lo' rest d) : G p l e R s m args below meth c cells slots Q nL D cA ad wd A pc lo ((0, x) :: rest) d :=
  g_istore C i hi rfl hd (g_subI (sto1_st hl') k)
theorem s_lstore_n (C : Cx p s m args c cc nL own D cA ad wd A) (i : Fin 4) {x : Int} {lo' : List AV} (hi : (i : Nat) + 1 < nL) (hl' : sto2 lo (i : Nat) (1, x) lo') (hd : decode cc pc = .ok (.lstore_n i, 1)) (k : G p l e R s m args below meth c cells slots Q nL D cA ad wd A (pc + 1) lo' rest d) : G p l e R s m args below meth c cells slots Q nL D cA ad wd A pc lo ((1, x) :: rest) d :=
  g_lstore_n C i hi rfl hd (g_subI (sto2_st hl') k)
theorem s_lstore (C : Cx p s m args c cc nL own D cA ad wd A) (i : Nat) {x : Int} {lo' : List AV} (hi : (i : Nat) + 1 < nL) (hl' : sto2 lo (i : Nat) (1, x) lo') (hd : decode cc pc = .ok (.lstore i, 2)) (k : G p l e R s m args below meth c cells slots Q nL D cA ad wd A (pc + 2) lo' rest d) : G p l e R s m args below meth c cells slots Q nL D cA ad wd A pc lo ((1, x) :: rest) d :=
  g_lstore C i hi rfl hd (g_subI (sto2_st hl') k)
theorem s_astore_n (C : Cx p s m args c cc nL own D cA ad wd A) (i : Fin 4) {x : Int} {lo' : List AV} (hi : (i : Nat) < nL) (hl' : sto1 lo (i : Nat) (2, x) lo') (hd : decode cc pc = .ok (.astore_n i, 1)) (k : G p l e R s m args below meth c cells slots Q nL D cA ad wd A (pc + 1) lo' rest d) : G p l e R s m args below meth c cells slots Q nL D cA ad wd A pc lo ((2, x) :: rest) d :=
  g_astore_n C i hi rfl hd (g_subI (sto1_st hl') k)
theorem s_astore (C : Cx p s m args c cc nL own D cA ad wd A) (i : Nat) {x : Int} {lo' : List AV} (hi : (i : Nat) < nL) (hl' : sto1 lo (i : Nat) (2, x) lo') (hd : decode cc pc = .ok (.astore i, 2)) (k : G p l e R s m args below meth c cells slots Q nL D cA ad wd A (pc + 2) lo' rest d) : G p l e R s m args below meth c cells slots Q nL D cA ad wd A pc lo ((2, x) :: rest) d :=
  g_astore C i hi rfl hd (g_subI (sto1_st hl') k)
theorem s_iinc (C : Cx p s m args c cc nL own D cA ad wd A) (i : Nat) (n : Int) {x : Int} {lo' : List AV} (h : lo[i]? = some (0, x)) (hi : i < nL) (hl' : sto1 lo i (0, w32 (x + n)) lo') (hd : decode cc pc = .ok (.iinc i n, 3)) (k : G p l e R s m args below meth c cells slots Q nL D cA ad wd A (pc + 3) lo' rest d) : G p l e R s m args below meth c cells slots Q nL D cA ad wd A pc lo rest d :=
  g_iinc C i n h hi rfl hd (g_subI (sto1_st hl') k)
theorem g_lcmp (C : Cx p s m args c cc nL own D cA ad wd A) {a b : Int} (ha : c64 a) (hb : c64 b) (hd : decode cc pc = .ok (.lcmp, 1)) (k : G p l e R s m args below meth c cells slots Q nL D cA ad wd A (pc + 1) lo ((0, lcmp a b) :: rest) d) : G p l e R s m args below meth c cells slots Q nL D cA ad wd A pc lo ((1, b) :: (1, a) :: rest) d := by
  intro ls H locs hl hH hS
  have h2 : W p l e R s m args below meth c H locs cells slots Q (F0 m (pc + 1) ls (.int (Int32.ofInt (lcmp a b)) :: rest.map (cv ad))) := k ls H locs hl hH hS
  have e1 : Int32.ofInt (lcmp a b) = lg_cmp (Int64.ofInt a) (Int64.ofInt b) := by
    unfold lg_cmp lcmp
    simp only [gt_iff_lt, l_lt hb ha, l_inj ha hb]
    split
    · rfl
    · split <;> rfl
  rw [e1] at h2
  exact W.lcmp C.1 C.2.1 hd h2
theorem g_lc_eq (C : Cx p s m args c cc nL own D cA ad wd A) {a b off : Int} {tgt : Nat} (ha : c64 a) (hb : c64 b) (hd0 : decode cc pc = .ok (.lcmp, 1)) (hd : decode cc (pc + 1) = .ok (.ifCond .eq off, 3)) (ht : ((pc + 1 : Nat) : Int) + off = (tgt : Int)) (kt : a = b → G p l e R s m args below meth c cells slots Q nL D cA ad wd A tgt lo rest d) (kf : ¬ (a = b) → G p l e R s m args below meth c cells slots Q nL D cA ad wd A (pc + 1 + 3) lo rest d) : G p l e R s m args below meth c cells slots Q nL D cA ad wd A pc lo ((1, b) :: (1, a) :: rest) d :=
  g_lcmp C ha hb hd0 (g_if_eq C (lcmp_c a b) hd ht (fun h => kt ((lcmp_eq a b).mp h)) (fun h => kf (fun z => h ((lcmp_eq a b).mpr z))))
theorem g_lc_ne (C : Cx p s m args c cc nL own D cA ad wd A) {a b off : Int} {tgt : Nat} (ha : c64 a) (hb : c64 b) (hd0 : decode cc pc = .ok (.lcmp, 1)) (hd : decode cc (pc + 1) = .ok (.ifCond .ne off, 3)) (ht : ((pc + 1 : Nat) : Int) + off = (tgt : Int)) (kt : a = b → G p l e R s m args below meth c cells slots Q nL D cA ad wd A (pc + 1 + 3) lo rest d) (kf : ¬ (a = b) → G p l e R s m args below meth c cells slots Q nL D cA ad wd A tgt lo rest d) : G p l e R s m args below meth c cells slots Q nL D cA ad wd A pc lo ((1, b) :: (1, a) :: rest) d :=
  g_lcmp C ha hb hd0 (g_if_ne C (lcmp_c a b) hd ht (fun h => kt ((lcmp_eq a b).mp h)) (fun h => kf (fun z => h ((lcmp_eq a b).mpr z))))
theorem g_lc_lt (C : Cx p s m args c cc nL own D cA ad wd A) {a b off : Int} {tgt : Nat} (ha : c64 a) (hb : c64 b) (hd0 : decode cc pc = .ok (.lcmp, 1)) (hd : decode cc (pc + 1) = .ok (.ifCond .lt off, 3)) (ht : ((pc + 1 : Nat) : Int) + off = (tgt : Int)) (kt : a < b → G p l e R s m args below meth c cells slots Q nL D cA ad wd A tgt lo rest d) (kf : ¬ (a < b) → G p l e R s m args below meth c cells slots Q nL D cA ad wd A (pc + 1 + 3) lo rest d) : G p l e R s m args below meth c cells slots Q nL D cA ad wd A pc lo ((1, b) :: (1, a) :: rest) d :=
  g_lcmp C ha hb hd0 (g_if_lt C (lcmp_c a b) hd ht (fun h => kt ((lcmp_lt a b).mp h)) (fun h => kf (fun z => h ((lcmp_lt a b).mpr z))))
theorem g_lc_ge (C : Cx p s m args c cc nL own D cA ad wd A) {a b off : Int} {tgt : Nat} (ha : c64 a) (hb : c64 b) (hd0 : decode cc pc = .ok (.lcmp, 1)) (hd : decode cc (pc + 1) = .ok (.ifCond .ge off, 3)) (ht : ((pc + 1 : Nat) : Int) + off = (tgt : Int)) (kt : a < b → G p l e R s m args below meth c cells slots Q nL D cA ad wd A (pc + 1 + 3) lo rest d) (kf : ¬ (a < b) → G p l e R s m args below meth c cells slots Q nL D cA ad wd A tgt lo rest d) : G p l e R s m args below meth c cells slots Q nL D cA ad wd A pc lo ((1, b) :: (1, a) :: rest) d :=
  g_lcmp C ha hb hd0 (g_if_ge C (lcmp_c a b) hd ht (fun h => kt ((lcmp_lt a b).mp h)) (fun h => kf (fun z => h ((lcmp_lt a b).mpr z))))
theorem g_lc_gt (C : Cx p s m args c cc nL own D cA ad wd A) {a b off : Int} {tgt : Nat} (ha : c64 a) (hb : c64 b) (hd0 : decode cc pc = .ok (.lcmp, 1)) (hd : decode cc (pc + 1) = .ok (.ifCond .gt off, 3)) (ht : ((pc + 1 : Nat) : Int) + off = (tgt : Int)) (kt : b < a → G p l e R s m args below meth c cells slots Q nL D cA ad wd A tgt lo rest d) (kf : ¬ (b < a) → G p l e R s m args below meth c cells slots Q nL D cA ad wd A (pc + 1 + 3) lo rest d) : G p l e R s m args below meth c cells slots Q nL D cA ad wd A pc lo ((1, b) :: (1, a) :: rest) d :=
  g_lcmp C ha hb hd0 (g_if_gt C (lcmp_c a b) hd ht (fun h => kt ((lcmp_gt a b).mp h)) (fun h => kf (fun z => h ((lcmp_gt a b).mpr z))))
theorem g_lc_le (C : Cx p s m args c cc nL own D cA ad wd A) {a b off : Int} {tgt : Nat} (ha : c64 a) (hb : c64 b) (hd0 : decode cc pc = .ok (.lcmp, 1)) (hd : decode cc (pc + 1) = .ok (.ifCond .le off, 3)) (ht : ((pc + 1 : Nat) : Int) + off = (tgt : Int)) (kt : b < a → G p l e R s m args below meth c cells slots Q nL D cA ad wd A (pc + 1 + 3) lo rest d) (kf : ¬ (b < a) → G p l e R s m args below meth c cells slots Q nL D cA ad wd A tgt lo rest d) : G p l e R s m args below meth c cells slots Q nL D cA ad wd A pc lo ((1, b) :: (1, a) :: rest) d :=
  g_lcmp C ha hb hd0 (g_if_le C (lcmp_c a b) hd ht (fun h => kt ((lcmp_gt a b).mp h)) (fun h => kf (fun z => h ((lcmp_gt a b).mpr z))))
theorem g_mmin (C : Cx p s m args c cc nL own D cA ad wd A) {a b : Int} (ha : c32 a) (hb : c32 b) {ix : Nat} (hlk : Cond.methodLink own ix Lib.Math.min.name ∈ lw_ok) (hst : Cond.static Lib.Math.min.name ∈ lw_ok) (hini : Cond.initialized "java/lang/Math" ∈ lw_ok) (hco : Cond.code Lib.Math.min.name Lib.Math.min.code 2 (some .int) ∈ lw_ok) (hR : 1 ≤ R.frames ∧ 8 + 13 ≤ R.locals ∧ cells ≤ R.cells ∧ slots ≤ R.slots) (hw : (rest.map (fun v => if v.1 = 1 then 2 else 1)).sum ≤ 8) (hd : decode cc pc = .ok (.invokestatic ix, 3)) (kk : G p l e R s m args below meth c cells slots Q nL D cA ad wd A (pc + 3) lo ((0, jmin a b) :: rest) d) : G p l e R s m args below meth c cells slots Q nL D cA ad wd A pc lo ((0, b) :: (0, a) :: rest) d := by
  intro ls H locs hl hH hS
  have hts := C.2.2.2.2.1.at (args := args)
  have h2 : W p l e R s m args below meth c H locs cells slots Q (F0 m (pc + 3) ls (.int (Int32.ofInt (jmin a b)) :: rest.map (cv ad))) := kk ls H locs hl hH hS
  unfold jmin at h2
  rw [apply_ite Int32.ofInt] at h2
  simp only [← i_lt hb ha] at h2
  exact va_mmin C.1 C.2.1 (by rw [C.2.2.1]; exact hl.1.symm) C.2.2.2.1 (hts _ hlk) (hts _ hst) (hts _ hini) (hts _ hco) hR.1 (Nat.le_trans (Nat.add_le_add_right (cat_le hw) _) hR.2.1) hR.2.2.1 hR.2.2.2 hd h2
theorem g_mmax (C : Cx p s m args c cc nL own D cA ad wd A) {a b : Int} (ha : c32 a) (hb : c32 b) {ix : Nat} (hlk : Cond.methodLink own ix Lib.Math.max.name ∈ lw_ok) (hst : Cond.static Lib.Math.max.name ∈ lw_ok) (hini : Cond.initialized "java/lang/Math" ∈ lw_ok) (hco : Cond.code Lib.Math.max.name Lib.Math.max.code 2 (some .int) ∈ lw_ok) (hR : 1 ≤ R.frames ∧ 8 + 13 ≤ R.locals ∧ cells ≤ R.cells ∧ slots ≤ R.slots) (hw : (rest.map (fun v => if v.1 = 1 then 2 else 1)).sum ≤ 8) (hd : decode cc pc = .ok (.invokestatic ix, 3)) (kk : G p l e R s m args below meth c cells slots Q nL D cA ad wd A (pc + 3) lo ((0, jmax a b) :: rest) d) : G p l e R s m args below meth c cells slots Q nL D cA ad wd A pc lo ((0, b) :: (0, a) :: rest) d := by
  intro ls H locs hl hH hS
  have hts := C.2.2.2.2.1.at (args := args)
  have h2 : W p l e R s m args below meth c H locs cells slots Q (F0 m (pc + 3) ls (.int (Int32.ofInt (jmax a b)) :: rest.map (cv ad))) := kk ls H locs hl hH hS
  unfold jmax at h2
  rw [apply_ite Int32.ofInt] at h2
  simp only [← i_lt ha hb] at h2
  exact va_mmax C.1 C.2.1 (by rw [C.2.2.1]; exact hl.1.symm) C.2.2.2.1 (hts _ hlk) (hts _ hst) (hts _ hini) (hts _ hco) hR.1 (Nat.le_trans (Nat.add_le_add_right (cat_le hw) _) hR.2.1) hR.2.2.1 hR.2.2.2 hd h2
theorem g_mabs (C : Cx p s m args c cc nL own D cA ad wd A) {a : Int} (ha : c32 a) {ix : Nat} (hlk : Cond.methodLink own ix Lib.Math.abs.name ∈ lw_ok) (hst : Cond.static Lib.Math.abs.name ∈ lw_ok) (hini : Cond.initialized "java/lang/Math" ∈ lw_ok) (hco : Cond.code Lib.Math.abs.name Lib.Math.abs.code 1 (some .int) ∈ lw_ok) (hR : 1 ≤ R.frames ∧ 8 + 13 ≤ R.locals ∧ cells ≤ R.cells ∧ slots ≤ R.slots) (hw : (rest.map (fun v => if v.1 = 1 then 2 else 1)).sum ≤ 8) (hd : decode cc pc = .ok (.invokestatic ix, 3)) (kk : G p l e R s m args below meth c cells slots Q nL D cA ad wd A (pc + 3) lo ((0, jabs a) :: rest) d) : G p l e R s m args below meth c cells slots Q nL D cA ad wd A pc lo ((0, a) :: rest) d := by
  intro ls H locs hl hH hS
  have hts := C.2.2.2.2.1.at (args := args)
  have h2 : W p l e R s m args below meth c H locs cells slots Q (F0 m (pc + 3) ls (.int (Int32.ofInt (jabs a)) :: rest.map (cv ad))) := kk ls H locs hl hH hS
  have e1 : Int32.ofInt (jabs a) = if 0 ≤ Int32.ofInt a then Int32.ofInt a else 0 - Int32.ofInt a := by
    unfold jabs
    rw [apply_ite Int32.ofInt]
    have h0 : (0 : Int32) = Int32.ofInt 0 := rfl
    simp only [h0, i_le (show c32 0 by unfold c32; omega) ha, i_w, Int32.ofInt_sub]
  rw [e1] at h2
  exact va_mabs C.1 C.2.1 (by rw [C.2.2.1]; exact hl.1.symm) C.2.2.2.1 (hts _ hlk) (hts _ hst) (hts _ hini) (hts _ hco) hR.1 (Nat.le_trans (Nat.add_le_add_right (cat_le hw) _) hR.2.1) hR.2.2.1 hR.2.2.2 hd h2
theorem g_mmaxl (C : Cx p s m args c cc nL own D cA ad wd A) {a b : Int} (ha : c64 a) (hb : c64 b) {ix : Nat} (hlk : Cond.methodLink own ix Lib.MathLoose.max_long.x ∈ lw_ok) (hst : Cond.static Lib.MathLoose.max_long.x ∈ lw_ok) (hini : Cond.initialized "java/lang/Math" ∈ lw_ok) (hco : Cond.code Lib.MathLoose.max_long.x Lib.MathLoose.max_long.code 4 (some .long) ∈ lw_ok) (hR : 1 ≤ R.frames ∧ 8 + 15 ≤ R.locals ∧ cells ≤ R.cells ∧ slots ≤ R.slots) (hw : (rest.map (fun v => if v.1 = 1 then 2 else 1)).sum ≤ 8) (hd : decode cc pc = .ok (.invokestatic ix, 3)) (kk : G p l e R s m args below meth c cells slots Q nL D cA ad wd A (pc + 3) lo ((1, jmaxl a b) :: rest) d) : G p l e R s m args below meth c cells slots Q nL D cA ad wd A pc lo ((1, b) :: (1, a) :: rest) d := by
  intro ls H locs hl hH hS
  have hts := C.2.2.2.2.1.at (args := args)
  have h2 : W p l e R s m args below meth c H locs cells slots Q (F0 m (pc + 3) ls (.long (Int64.ofInt (jmaxl a b)) :: rest.map (cv ad))) := kk ls H locs hl hH hS
  unfold jmaxl at h2
  rw [apply_ite Int64.ofInt] at h2
  simp only [← l_lt hb ha] at h2
  exact va_mmax_long C.1 C.2.1 (by rw [C.2.2.1]; exact hl.1.symm) C.2.2.2.1 (hts _ hlk) (hts _ hst) (hts _ hini) (hts _ hco) hR.1 (Nat.le_trans (Nat.add_le_add_right (cat_le hw) _) hR.2.1) hR.2.2.1 hR.2.2.2 hd h2
theorem g_aald (C : Cx p s m args c cc nL own D cA ad wd A) (k : Nat) {n : Nat} {x i : Int} (hi : c32 i) (hk : x = (k : Int)) (hcd : cd wd k = (24, n)) (hn : k < nOf wd d) (hin : 0 ≤ i ∧ i < (n : Int)) (hd : decode cc pc = .ok (.aaload, 1)) (kk : G p l e R s m args below meth c cells slots Q nL D cA ad wd A (pc + 1) lo ((2, d k i.toNat) :: rest) d) : G p l e R s m args below meth c cells slots Q nL D cA ad wd A pc lo ((0, i) :: (2, x) :: rest) d := by
  intro ls H locs hl hH hS
  subst hk
  have hat := wld_at (cA := cA) (ad := ad) hn
  rw [ent_arr hcd (by omega)] at hat
  show W p l e R s m args below meth c H locs cells slots Q (F0 m pc ls (cv ad (0, i) :: cv ad (2, (k : Int)) :: rest.map (cv ad)))
  rw [cv_r]
  refine va_aldq C.1 C.2.1 C.2.2.2.2.2.1 hH.1 k 4 hat rfl (i_in hi hin) hd ?_
  rw [i_cl hi]
  exact kk ls H locs hl hH hS
theorem g_aast (C : Cx p s m args c cc nL own D cA ad wd A) (k k2 : Nat) {n n9 : Nat} {x i v : Int} (hi : c32 i) (hk : x = (k : Int)) (hv : v = (k2 : Int)) (hcd : cd wd k = (24, n)) (hcd2 : cd wd k2 = (9, n9)) (hn : k < nOf wd d) (hn2 : k2 < nOf wd d) (hin : 0 ≤ i ∧ i < (n : Int)) (hd : decode cc pc = .ok (.aastore, 1)) (kk : G p l e R s m args below meth c cells slots Q nL D cA ad wd A (pc + 1) lo rest (up2 d k i.toNat v)) : G p l e R s m args below meth c cells slots Q nL D cA ad wd A pc lo ((2, v) :: (0, i) :: (2, x) :: rest) d := by
  intro ls H locs hl hH hS
  subst hk
  subst hv
  have hat := wld_at (cA := cA) (ad := ad) hn
  rw [ent_arr hcd (by omega)] at hat
  have hat2 := wld_at (cA := cA) (ad := ad) hn2
  rw [ent_obj hcd2 (by decide)] at hat2
  show W p l e R s m args below meth c H locs cells slots Q (F0 m pc ls (cv ad (2, (k2 : Int)) :: cv ad (0, i) :: cv ad (2, (k : Int)) :: rest.map (cv ad)))
  rw [cv_r, cv_r]
  refine va_astq C.1 C.2.1 C.2.2.2.2.2.1 hH.1 hH.2.1 hS k 4 k2 9 hat rfl hat2 cl9.2.2.2 (i_in hi hin) hd (fun H1 locs1 hP hD hS1 => ?_)
  rw [i_cl hi] at hP hD
  have e1 : (wld wd cA ad d).set k (ad k, .inl (cA 4, n, .inr (.inr (.inr (.inr (va_up (fun j => orf ad (d k j)) i.toNat (some (ad k2)))))))) = wld wd cA ad (up2 d k i.toNat (k2 : Int)) := by
    rw [← wld_set (d' := up2 d k i.toNat (k2 : Int)) (nOf_up hH.2.2 hn) (fun q hq => up2_K d _ _ hq), ent_arr hcd (by omega)]
    congr 2
    show Sum.inl _ = Sum.inl (cA 4, n, _)
    congr 7
    funext j
    have hz : ¬ ((k2 : Int) < 0) := by omega
    unfold va_up up2
    simp only [if_true]
    by_cases hj : j = i.toNat
    · rw [if_pos hj, if_pos hj]; simp [orf, hz]
    · rw [if_neg hj, if_neg hj]
  have hP : va_P D classes ((wld wd cA ad d).set k (ad k, .inl (cA 4, n, .inr (.inr (.inr (.inr (va_up (fun j => orf ad (d k j)) i.toNat (some (ad k2))))))))) H1 := hP
  have hD : va_D A ((wld wd cA ad d).set k (ad k, .inl (cA 4, n, .inr (.inr (.inr (.inr (va_up (fun j => orf ad (d k j)) i.toNat (some (ad k2))))))))) := hD
  rw [e1] at hP hD
  exact kk ls H1 locs1 hl ⟨hP, hD, hH.2.2.up hn (by rw [hcd]; trivial)⟩ hS1
theorem GH_ne {k : Nat} (hC : CN wd d) (h : k < nOf wd d) : GH ≠ k := by
  intro e
  unfold nOf at h
  have h1 := hC.2.1
  have h2 := hC.2.2
  have h4 : GH = 1000000 := rfl
  subst e
  split at h
  · omega
  · split at h <;> omega
theorem nOf_cp {k k1 sp dp n : Nat} (hC : CN wd d) (h : k1 < nOf wd d) : nOf wd (cp2 d k sp k1 dp n) = nOf wd d := by
  have hk := GH_ne hC h
  have e : cp2 d k sp k1 dp n GH = d GH := by unfold cp2; rw [if_neg hk]
  unfold nOf
  rw [e]
theorem CN.cp {k k1 sp dp n t n0 n1 : Nat} (hC : CN wd d) (h : k1 < nOf wd d) (h0 : cd wd k = (t, n0)) (h1 : cd wd k1 = (t, n1)) (ht : t = 20 ∨ t = 21) : CN wd (cp2 d k sp k1 dp n) := by
  have hk := GH_ne hC h
  have e : cp2 d k sp k1 dp n GH = d GH := by unfold cp2; rw [if_neg hk]
  refine ⟨fun q j => ?_, by rw [e]; exact hC.2⟩
  unfold cp2
  by_cases hq : q = k1
  · subst hq
    rw [if_pos rfl]
    by_cases hj : dp ≤ j ∧ j < dp + n
    · simp only [hj, and_self, if_true]
      have h3 := hC.1 k (sp + (j - dp))
      rw [h0] at h3
      rw [h1]
      rcases ht with rfl | rfl <;> exact h3
    · simp only [hj, if_false]; exact hC.1 q j
  · rw [if_neg hq]; exact hC.1 q j
theorem i_nn {x : Int} (h : c32 x) (h0 : 0 ≤ x) : ¬ Int32.ofInt x < 0 := by
  rw [show (0 : Int32) = Int32.ofInt 0 from rfl, i_lt h (by unfold c32; omega)]; omega
theorem g_copyi (C : Cx p s m args c cc nL own D cA ad wd A) (k0 k1 : Nat) {n0 n1 : Nat} {x0 x1 sp dp n : Int} (h0 : x0 = (k0 : Int)) (h1 : x1 = (k1 : Int)) (c0 : cd wd k0 = (20, n0)) (c1 : cd wd k1 = (20, n1)) (l0 : k0 < nOf wd d) (l1 : k1 < nOf wd d) (hsp : c32 sp) (hdp : c32 dp) (hn : c32 n) (hb : 0 ≤ sp ∧ 0 ≤ dp ∧ 0 ≤ n ∧ sp + n ≤ (n0 : Int) ∧ dp + n ≤ (n1 : Int)) {ix : Nat} (hlk : Cond.methodLink own ix arraycopyName ∈ lw_ok) (hnat : Cond.native arraycopyName ∈ lw_ok) (hst : Cond.static arraycopyName ∈ lw_ok) (hini : Cond.initialized "java/lang/System" ∈ lw_ok) (hR : 1 ≤ R.frames ∧ 8 + (nativeFrameWords "java/lang/System" "arraycopy" 5 + 11) ≤ R.locals) (hw : (rest.map (fun v => if v.1 = 1 then 2 else 1)).sum ≤ 8) (hd : decode cc pc = .ok (.invokestatic ix, 3)) (kk : G p l e R s m args below meth c cells slots Q nL D cA ad wd A (pc + 3) lo rest (cp2 d k0 sp.toNat k1 dp.toNat n.toNat)) : G p l e R s m args below meth c cells slots Q nL D cA ad wd A pc lo ((0, n) :: (0, dp) :: (2, x1) :: (0, sp) :: (2, x0) :: rest) d := by
  intro ls H locs hl hH hS
  subst h0
  subst h1
  have hat0 := wld_at (cA := cA) (ad := ad) l0
  rw [ent_arr c0 (by omega)] at hat0
  have hat1 := wld_at (cA := cA) (ad := ad) l1
  rw [ent_arr c1 (by omega)] at hat1
  have hts := C.2.2.2.2.1.at (args := args)
  show W p l e R s m args below meth c H locs cells slots Q (F0 m pc ls (cv ad (0, n) :: cv ad (0, dp) :: cv ad (2, (k1 : Int)) :: cv ad (0, sp) :: cv ad (2, (k0 : Int)) :: rest.map (cv ad)))
  rw [cv_r, cv_r]
  obtain ⟨b1, b2, b3, b4, b5⟩ := hb
  refine va_copyi C.1 C.2.1 (by rw [C.2.2.1]; exact hl.1.symm) C.2.2.2.1 (hts _ hlk) (hts _ hnat) (hts _ hst) (hts _ hini) C.2.2.2.2.2.1 hH.1 hH.2.1 hS k0 k1 0 0 hat0 hat1 rfl rfl rfl (i_nn hsp b1) (i_nn hdp b2) (i_nn hn b3) (by rw [i_cl hsp, i_cl hn]; omega) (by rw [i_cl hdp, i_cl hn]; omega) (fun _ _ => rfl) hR.1 (Nat.le_trans (Nat.add_le_add_right (cat_le hw) _) hR.2) hd (fun H1 locs1 hP hD hS1 => ?_)
  rw [i_cl hsp, i_cl hdp, i_cl hn] at hP hD
  have e1 : (wld wd cA ad d).set k1 (ad k1, .inl (cA 0, n1, .inl (va_cpy (fun j => Int32.ofInt (d k0 j)) (fun j => Int32.ofInt (d k1 j)) sp.toNat dp.toNat n.toNat))) = wld wd cA ad (cp2 d k0 sp.toNat k1 dp.toNat n.toNat) := by
    rw [← wld_set (d' := cp2 d k0 sp.toNat k1 dp.toNat n.toNat) (nOf_cp hH.2.2 l1) (fun q hq => by unfold cp2; rw [if_neg hq]), ent_arr c1 (by omega)]
    congr 2
    show Sum.inl _ = Sum.inl (cA 0, n1, _)
    congr 4
    funext j
    unfold va_cpy cp2
    simp only [if_true]
    split <;> rfl
  rw [e1] at hP hD
  exact kk ls H1 locs1 hl ⟨hP, hD, hH.2.2.cp l1 c0 c1 (by decide)⟩ hS1
theorem g_copyl (C : Cx p s m args c cc nL own D cA ad wd A) (k0 k1 : Nat) {n0 n1 : Nat} {x0 x1 sp dp n : Int} (h0 : x0 = (k0 : Int)) (h1 : x1 = (k1 : Int)) (c0 : cd wd k0 = (21, n0)) (c1 : cd wd k1 = (21, n1)) (l0 : k0 < nOf wd d) (l1 : k1 < nOf wd d) (hsp : c32 sp) (hdp : c32 dp) (hn : c32 n) (hb : 0 ≤ sp ∧ 0 ≤ dp ∧ 0 ≤ n ∧ sp + n ≤ (n0 : Int) ∧ dp + n ≤ (n1 : Int)) {ix : Nat} (hlk : Cond.methodLink own ix arraycopyName ∈ lw_ok) (hnat : Cond.native arraycopyName ∈ lw_ok) (hst : Cond.static arraycopyName ∈ lw_ok) (hini : Cond.initialized "java/lang/System" ∈ lw_ok) (hR : 1 ≤ R.frames ∧ 8 + (nativeFrameWords "java/lang/System" "arraycopy" 5 + 11) ≤ R.locals) (hw : (rest.map (fun v => if v.1 = 1 then 2 else 1)).sum ≤ 8) (hd : decode cc pc = .ok (.invokestatic ix, 3)) (kk : G p l e R s m args below meth c cells slots Q nL D cA ad wd A (pc + 3) lo rest (cp2 d k0 sp.toNat k1 dp.toNat n.toNat)) : G p l e R s m args below meth c cells slots Q nL D cA ad wd A pc lo ((0, n) :: (0, dp) :: (2, x1) :: (0, sp) :: (2, x0) :: rest) d := by
  intro ls H locs hl hH hS
  subst h0
  subst h1
  have hat0 := wld_at (cA := cA) (ad := ad) l0
  rw [ent_arr c0 (by omega)] at hat0
  have hat1 := wld_at (cA := cA) (ad := ad) l1
  rw [ent_arr c1 (by omega)] at hat1
  have hts := C.2.2.2.2.1.at (args := args)
  show W p l e R s m args below meth c H locs cells slots Q (F0 m pc ls (cv ad (0, n) :: cv ad (0, dp) :: cv ad (2, (k1 : Int)) :: cv ad (0, sp) :: cv ad (2, (k0 : Int)) :: rest.map (cv ad)))
  rw [cv_r, cv_r]
  obtain ⟨b1, b2, b3, b4, b5⟩ := hb
  refine va_copyl C.1 C.2.1 (by rw [C.2.2.1]; exact hl.1.symm) C.2.2.2.1 (hts _ hlk) (hts _ hnat) (hts _ hst) (hts _ hini) C.2.2.2.2.2.1 hH.1 hH.2.1 hS k0 k1 1 1 hat0 hat1 rfl rfl rfl (i_nn hsp b1) (i_nn hdp b2) (i_nn hn b3) (by rw [i_cl hsp, i_cl hn]; omega) (by rw [i_cl hdp, i_cl hn]; omega) (fun _ _ => rfl) hR.1 (Nat.le_trans (Nat.add_le_add_right (cat_le hw) _) hR.2) hd (fun H1 locs1 hP hD hS1 => ?_)
  rw [i_cl hsp, i_cl hdp, i_cl hn] at hP hD
  have e1 : (wld wd cA ad d).set k1 (ad k1, .inl (cA 1, n1, .inr (.inl (va_cpy (fun j => Int64.ofInt (d k0 j)) (fun j => Int64.ofInt (d k1 j)) sp.toNat dp.toNat n.toNat)))) = wld wd cA ad (cp2 d k0 sp.toNat k1 dp.toNat n.toNat) := by
    rw [← wld_set (d' := cp2 d k0 sp.toNat k1 dp.toNat n.toNat) (nOf_cp hH.2.2 l1) (fun q hq => by unfold cp2; rw [if_neg hq]), ent_arr c1 (by omega)]
    congr 2
    show Sum.inl _ = Sum.inl (cA 1, n1, _)
    congr 5
    funext j
    unfold va_cpy cp2
    simp only [if_true]
    split <;> rfl
  rw [e1] at hP hD
  exact kk ls H1 locs1 hl ⟨hP, hD, hH.2.2.cp l1 c0 c1 (by decide)⟩ hS1

/-! the words of the class -/
theorem g_kwK (C : Cx p s m args c cc nL own D cA ad 0 A) {ix : Nat} (hlk : Cond.fieldLink own ix "PollBooks$Parser" "KEYWORDS" "[J" ∈ lw_ok) (hd : decode cc pc = .ok (.getstatic ix, 3)) (k : G p l e R s m args below meth c cells slots Q nL D cA ad 0 A (pc + 3) lo ((2, 1000001) :: rest) d) : G p l e R s m args below meth c cells slots Q nL D cA ad 0 A pc lo rest d := by
  intro ls H locs hl hH hS
  have hX := (C.2.2.2.2.2.2.2.1 rfl).1.1
  have h2 : W p l e R s m args below meth c H locs cells slots Q (F0 m (pc + 3) ls (cv ad (2, 1000001) :: rest.map (cv ad))) := k ls H locs hl hH hS
  rw [cv_lit ad (k := 1000001) (x := 1000001) rfl] at h2
  exact va_gets C.1 C.2.1 hX hS C.2.2.2.1 (C.2.2.2.2.1.at _ hlk) (fun _ h => h) hd h2
theorem g_kwV (C : Cx p s m args c cc nL own D cA ad 0 A) {ix : Nat} (hlk : Cond.fieldLink own ix "PollBooks$Parser" "VARIABLES" "[J" ∈ lw_ok) (hd : decode cc pc = .ok (.getstatic ix, 3)) (k : G p l e R s m args below meth c cells slots Q nL D cA ad 0 A (pc + 3) lo ((2, 1000002) :: rest) d) : G p l e R s m args below meth c cells slots Q nL D cA ad 0 A pc lo rest d := by
  intro ls H locs hl hH hS
  have hX := (C.2.2.2.2.2.2.2.1 rfl).2.1
  have h2 : W p l e R s m args below meth c H locs cells slots Q (F0 m (pc + 3) ls (cv ad (2, 1000002) :: rest.map (cv ad))) := k ls H locs hl hH hS
  rw [cv_lit ad (k := 1000002) (x := 1000002) rfl] at h2
  exact va_gets C.1 C.2.1 hX hS C.2.2.2.1 (C.2.2.2.2.1.at _ hlk) (fun _ h => h) hd h2
theorem g_kwld (C : Cx p s m args c cc nL own D cA ad 0 A) {x i : Int} (hx : x = 1000001 ∨ x = 1000002) (hi : c32 i) (hin : 0 ≤ i ∧ i < ((kwT x.toNat).length : Int)) (hd : decode cc pc = .ok (.laload, 1)) (kk : c64 (kw x.toNat i.toNat) → G p l e R s m args below meth c cells slots Q nL D cA ad 0 A (pc + 1) lo ((1, kw x.toNat i.toNat) :: rest) d) : G p l e R s m args below meth c cells slots Q nL D cA ad 0 A pc lo ((0, i) :: (2, x) :: rest) d := by
  intro ls H locs hl hH hS
  have hX := C.2.2.2.2.2.2.2.1 rfl
  show W p l e R s m args below meth c H locs cells slots Q (F0 m pc ls (cv ad (0, i) :: cv ad (2, x) :: rest.map (cv ad)))
  rcases hx with rfl | rfl
  · rw [cv_lit ad (k := 1000001) (x := 1000001) rfl]
    exact va_tl C.1 C.2.1 hX.1.2 hS (i_in hi hin) (v := .long (Int64.ofInt (kw 1000001 i.toNat))) (by rw [i_cl hi]) hd (kk (kw_c64 _ _) ls H locs hl hH hS)
  · rw [cv_lit ad (k := 1000002) (x := 1000002) rfl]
    exact va_tl C.1 C.2.1 hX.2.2 hS (i_in hi hin) (v := .long (Int64.ofInt (kw 1000002 i.toNat))) (by rw [i_cl hi]) hd (kk (kw_c64 _ _) ls H locs hl hH hS)
theorem kwl {x : Int} (hx : x = 1000001 ∨ x = 1000002) : c32 ((kwT x.toNat).length : Int) := by rcases hx with rfl | rfl <;> exact cK rfl
theorem g_kwlen (C : Cx p s m args c cc nL own D cA ad 0 A) {x : Int} (hx : x = 1000001 ∨ x = 1000002) (hd : decode cc pc = .ok (.arraylength, 1)) (kk : G p l e R s m args below meth c cells slots Q nL D cA ad 0 A (pc + 1) lo ((0, ((kwT x.toNat).length : Int)) :: rest) d) : G p l e R s m args below meth c cells slots Q nL D cA ad 0 A pc lo ((2, x) :: rest) d := by
  intro ls H locs hl hH hS
  have hX := C.2.2.2.2.2.2.2.1 rfl
  show W p l e R s m args below meth c H locs cells slots Q (F0 m pc ls (cv ad (2, x) :: rest.map (cv ad)))
  rcases hx with rfl | rfl
  · rw [cv_lit ad (k := 1000001) (x := 1000001) rfl]
    exact va_tlen C.1 C.2.1 hX.1.2 hS (v := Int32.ofInt 11) rfl hd (kk ls H locs hl hH hS)
  · rw [cv_lit ad (k := 1000002) (x := 1000002) rfl]
    exact va_tlen C.1 C.2.1 hX.2.2 hS (v := Int32.ofInt 9) rfl hd (kk ls H locs hl hH hS)
/-! the texts of the reference -/
theorem g_strK (C : Cx p s m args c cc nL own D cA ad 1 A) (hown : own = "PollBooksModel") (hd : decode cc pc = .ok (.ldc_w 408, 3)) (k : G p l e R s m args below meth c cells slots Q nL D cA ad 1 A (pc + 3) lo ((2, 1000003) :: rest) d) : G p l e R s m args below meth c cells slots Q nL D cA ad 1 A pc lo rest d := by
  intro ls H locs hl hH hS T hT X
  subst hown
  have hX := (C.2.2.2.2.2.2.2.2 rfl).1.1
  obtain ⟨t, a1, b1⟩ := k ls H locs hl hH hS T hT X
  have e1 : (((2, 1000003) :: rest : List AV)).map (cv ad) = .ref (ad 1000003) :: rest.map (cv ad) := by rw [List.map_cons, cv_lit ad (k := 1000003) (x := 1000003) rfl]
  rw [e1] at a1
  exact ⟨t, X.ldcStringW C.1 C.2.2.2.1 (text := " strikes may bar void names hours unless to or and not ") (a := ad 1000003) hX.1 hX.2 (g := F0 m pc ls (rest.map (cv ad))) rfl (by rw [C.2.1]; exact hd) t a1, b1⟩
theorem g_strV (C : Cx p s m args c cc nL own D cA ad 1 A) (hown : own = "PollBooksModel") (hd : decode cc pc = .ok (.ldc_w 429, 3)) (k : G p l e R s m args below meth c cells slots Q nL D cA ad 1 A (pc + 3) lo ((2, 1000004) :: rest) d) : G p l e R s m args below meth c cells slots Q nL D cA ad 1 A pc lo rest d := by
  intro ls H locs hl hH hS T hT X
  subst hown
  have hX := (C.2.2.2.2.2.2.2.2 rfl).2.1.1
  obtain ⟨t, a1, b1⟩ := k ls H locs hl hH hS T hT X
  have e1 : (((2, 1000004) :: rest : List AV)).map (cv ad) = .ref (ad 1000004) :: rest.map (cv ad) := by rw [List.map_cons, cv_lit ad (k := 1000004) (x := 1000004) rfl]
  rw [e1] at a1
  exact ⟨t, X.ldcStringW C.1 C.2.2.2.1 (text := " land plots held split trade home paid minute day ") (a := ad 1000004) hX.1 hX.2 (g := F0 m pc ls (rest.map (cv ad))) rfl (by rw [C.2.1]; exact hd) t a1, b1⟩
abbrev isStr (x : Int) : Prop := x = 1000003 ∨ x = 1000004
theorem g_strval (C : Cx p s m args c cc nL own D cA ad 1 A) {x : Int} {ix : Nat} (hx : isStr x) (hlk : Cond.fieldLink own ix "java/lang/String" "value" "[B" ∈ lw_ok) (hd : decode cc pc = .ok (.getfield ix, 3)) (k : G p l e R s m args below meth c cells slots Q nL D cA ad 1 A (pc + 3) lo ((2, x + 2) :: rest) d) : G p l e R s m args below meth c cells slots Q nL D cA ad 1 A pc lo ((2, x) :: rest) d := by
  intro ls H locs hl hH hS
  have hX := C.2.2.2.2.2.2.2.2 rfl
  have h2 : W p l e R s m args below meth c H locs cells slots Q (F0 m (pc + 3) ls (cv ad (2, x + 2) :: rest.map (cv ad))) := k ls H locs hl hH hS
  show W p l e R s m args below meth c H locs cells slots Q (F0 m pc ls (cv ad (2, x) :: rest.map (cv ad)))
  rcases hx with rfl | rfl
  · rw [cv_lit ad (k := 1000005) (x := 1000003 + 2) rfl] at h2
    rw [cv_lit ad (k := 1000003) (x := 1000003) rfl]
    exact vk_getf C.1 C.2.1 hX.1.2.2.2.1 hS C.2.2.2.1 (C.2.2.2.2.1.at _ hlk) (fun _ h => h) hd h2
  · rw [cv_lit ad (k := 1000006) (x := 1000004 + 2) rfl] at h2
    rw [cv_lit ad (k := 1000004) (x := 1000004) rfl]
    exact vk_getf C.1 C.2.1 hX.2.1.2.2.2.1 hS C.2.2.2.1 (C.2.2.2.2.1.at _ hlk) (fun _ h => h) hd h2
theorem g_strcod (C : Cx p s m args c cc nL own D cA ad 1 A) {x : Int} {ix : Nat} (hx : isStr x) (hlk : Cond.fieldLink own ix "java/lang/String" "coder" "B" ∈ lw_ok) (hd : decode cc pc = .ok (.getfield ix, 3)) (k : G p l e R s m args below meth c cells slots Q nL D cA ad 1 A (pc + 3) lo ((0, 0) :: rest) d) : G p l e R s m args below meth c cells slots Q nL D cA ad 1 A pc lo ((2, x) :: rest) d := by
  intro ls H locs hl hH hS
  have hX := C.2.2.2.2.2.2.2.2 rfl
  have h2 := k ls H locs hl hH hS
  show W p l e R s m args below meth c H locs cells slots Q (F0 m pc ls (cv ad (2, x) :: rest.map (cv ad)))
  rcases hx with rfl | rfl
  · rw [cv_lit ad (k := 1000003) (x := 1000003) rfl]
    exact vk_getf C.1 C.2.1 hX.1.2.2.1 hS C.2.2.2.1 (C.2.2.2.2.1.at _ hlk) (fun _ h => h) hd h2
  · rw [cv_lit ad (k := 1000004) (x := 1000004) rfl]
    exact vk_getf C.1 C.2.1 hX.2.1.2.2.1 hS C.2.2.2.1 (C.2.2.2.2.1.at _ hlk) (fun _ h => h) hd h2
theorem g_strcs (C : Cx p s m args c cc nL own D cA ad 1 A) {ix : Nat} (hlk : Cond.fieldLink own ix "java/lang/String" "COMPACT_STRINGS" "Z" ∈ lw_ok) (hd : decode cc pc = .ok (.getstatic ix, 3)) (k : G p l e R s m args below meth c cells slots Q nL D cA ad 1 A (pc + 3) lo ((0, 1) :: rest) d) : G p l e R s m args below meth c cells slots Q nL D cA ad 1 A pc lo rest d := by
  intro ls H locs hl hH hS
  exact va_gets C.1 C.2.1 (C.2.2.2.2.2.2.2.2 rfl).2.2.1 hS C.2.2.2.1 (C.2.2.2.2.1.at _ hlk) (fun _ h => h) hd (k ls H locs hl hH hS)
theorem g_strfm (C : Cx p s m args c cc nL own D cA ad 1 A) {ix : Nat} (hlk : Cond.fieldLink own ix "jdk/internal/util/Preconditions" "SIOOBE_FORMATTER" "Ljava/util/function/BiFunction;" ∈ lw_ok) (hd : decode cc pc = .ok (.getstatic ix, 3)) (k : ∀ x : Int, G p l e R s m args below meth c cells slots Q nL D cA ad 1 A (pc + 3) lo ((2, x) :: rest) d) : G p l e R s m args below meth c cells slots Q nL D cA ad 1 A pc lo rest d := by
  intro ls H locs hl hH hS
  rcases (C.2.2.2.2.2.2.2.2 rfl).2.2.2 with h | h
  · have h2 : W p l e R s m args below meth c H locs cells slots Q (F0 m (pc + 3) ls (cv ad (2, -1) :: rest.map (cv ad))) := k (-1) ls H locs hl hH hS
    have e0 : cv ad (2, -1) = .null := by show va_rf (orf ad (-1)) = _; simp [orf, va_rf]
    rw [e0] at h2
    exact va_gets C.1 C.2.1 h hS C.2.2.2.1 (C.2.2.2.2.1.at _ hlk) (fun _ h => h) hd h2
  · have h2 : W p l e R s m args below meth c H locs cells slots Q (F0 m (pc + 3) ls (cv ad (2, 1000007) :: rest.map (cv ad))) := k 1000007 ls H locs hl hH hS
    rw [cv_lit ad (k := 1000007) (x := 1000007) rfl] at h2
    exact va_gets C.1 C.2.1 h hS C.2.2.2.1 (C.2.2.2.2.1.at _ hlk) (fun _ h => h) hd h2
abbrev isByt (x : Int) : Prop := x = 1000005 ∨ x = 1000006
theorem bytl {x : Int} (hx : isByt x) : c32 ((kwT x.toNat).length : Int) := by rcases hx with rfl | rfl <;> exact cK rfl
theorem g_strlen (C : Cx p s m args c cc nL own D cA ad 1 A) {x : Int} (hx : isByt x) (hd : decode cc pc = .ok (.arraylength, 1)) (kk : G p l e R s m args below meth c cells slots Q nL D cA ad 1 A (pc + 1) lo ((0, ((kwT x.toNat).length : Int)) :: rest) d) : G p l e R s m args below meth c cells slots Q nL D cA ad 1 A pc lo ((2, x) :: rest) d := by
  intro ls H locs hl hH hS
  have hX := C.2.2.2.2.2.2.2.2 rfl
  show W p l e R s m args below meth c H locs cells slots Q (F0 m pc ls (cv ad (2, x) :: rest.map (cv ad)))
  rcases hx with rfl | rfl
  · rw [cv_lit ad (k := 1000005) (x := 1000005) rfl]
    exact va_tlen C.1 C.2.1 hX.1.2.2.2.2 hS (v := Int32.ofInt 55) rfl hd (kk ls H locs hl hH hS)
  · rw [cv_lit ad (k := 1000006) (x := 1000006) rfl]
    exact va_tlen C.1 C.2.1 hX.2.1.2.2.2.2 hS (v := Int32.ofInt 50) rfl hd (kk ls H locs hl hH hS)
theorem g_strld (C : Cx p s m args c cc nL own D cA ad 1 A) {x i : Int} (hx : isByt x) (hi : c32 i) (hin : 0 ≤ i ∧ i < ((kwT x.toNat).length : Int)) (hd : decode cc pc = .ok (.baload, 1)) (kk : -128 ≤ kw x.toNat i.toNat ∧ kw x.toNat i.toNat < 128 → G p l e R s m args below meth c cells slots Q nL D cA ad 1 A (pc + 1) lo ((0, kw x.toNat i.toNat) :: rest) d) : G p l e R s m args below meth c cells slots Q nL D cA ad 1 A pc lo ((0, i) :: (2, x) :: rest) d := by
  intro ls H locs hl hH hS
  have hX := C.2.2.2.2.2.2.2.2 rfl
  show W p l e R s m args below meth c H locs cells slots Q (F0 m pc ls (cv ad (0, i) :: cv ad (2, x) :: rest.map (cv ad)))
  rcases hx with rfl | rfl
  · rw [cv_lit ad (k := 1000005) (x := 1000005) rfl]
    exact va_tb C.1 C.2.1 hX.1.2.2.2.2 hS (i_in hi hin) (v := .int (Int32.ofInt (kw 1000005 i.toNat))) (by rw [i_cl hi]) hd (kk (kw_b _ _ (Or.inl rfl)) ls H locs hl hH hS)
  · rw [cv_lit ad (k := 1000006) (x := 1000006) rfl]
    exact va_tb C.1 C.2.1 hX.2.1.2.2.2.2 hS (i_in hi hin) (v := .int (Int32.ofInt (kw 1000006 i.toNat))) (by rw [i_cl hi]) hd (kk (kw_b _ _ (Or.inr rfl)) ls H locs hl hH hS)
/-- a call of a method of a text -/
theorem g_callT (C : Cx p s m args c cc nL own D cA ad 1 A) {y : MethodName} {cy : ByteArray} {mL : Nat} {rt : Option FieldType} {rm : Room} {n : Nat} (W : MW y cy mL rt n) (As : List AV) {x : Int} (hx : isStr x) {r : Option AV} {d' : Dt} (hM : MC l y cy mL rt rm 1 ((2, x) :: As) d r d') {ix : Nat}
    (hlk : Cond.methodLink own ix y ∈ lw_ok) (hin : Cond.instanceMethod y ∈ lw_ok) (hse : Cond.selects "java/lang/String" y y ∈ lw_ok) (hR : rm.cells = 0 ∧ rm.slots = 0 ∧ rm.frames + 1 ≤ R.frames ∧ 8 + (mL + 11) + rm.locals ≤ R.locals) (hA : As.length = n) {st : List AV} (hst : st = As.reverse ++ (2, x) :: rest) (hw : (rest.map (fun v => if v.1 = 1 then 2 else 1)).sum ≤ 8) (hcs : cells ≤ R.cells ∧ slots ≤ R.slots) (hd : decode cc pc = .ok (.invokevirtual ix, 3)) (kk : CN 1 d' → cnr rt r → G p l e R s m args below meth c cells slots Q nL D cA ad 1 A (pc + 3) lo (r.toList ++ rest) d') : G p l e R s m args below meth c cells slots Q nL D cA ad 1 A pc lo st d := by
  intro ls H locs hl hH hS
  subst hst
  have hX := C.2.2.2.2.2.2.2.2 rfl
  obtain ⟨k, hk, hrec⟩ : ∃ k : Nat, x = (k : Int) ∧ ∃ cell : Cell, H[ad k]? = some cell ∧ cell.vm.isStatics = false ∧ s.vm.findClass "java/lang/String" = some cell.cls := by
    rcases hx with rfl | rfl
    · obtain ⟨cell, h1, h2, h3, -⟩ := hX.1.2.1.kept hS.2.1
      exact ⟨1000003, rfl, cell, h1, h2, h3⟩
    · obtain ⟨cell, h1, h2, h3, -⟩ := hX.2.1.2.1.kept hS.2.1
      exact ⟨1000004, rfl, cell, h1, h2, h3⟩
  have hts := C.2.2.2.2.1.at (args := args)
  refine run_go C hl hH hS (va_runV (Ts := lw_ok) (C := "java/lang/String") (b := ad k) (As := As.map (cv ad)) (bytes := cy) (maxL := mL) (ret := rt) (n := n) ⟨C.1, C.2.1, C.2.2.1, C.2.2.2.1, hts⟩ (hM D cA ad H.size) ⟨callB_of n hts (goodIn_1 W.1 rfl) rfl hR.1 hR.2.1 (hts _ W.2.1) (hts _ hlk) W.2.2 hR.2.2, hts _ hin, hts _ hse⟩ ⟨blind, hrec, fun U hU hW => ⟨?_, pre_of C hH hS hU hW⟩⟩ rfl (by rw [List.length_map]; exact hA) hl.1 ?_ (by show 2 * 0 + _ ≤ 8; rw [Nat.mul_zero, Nat.zero_add]; exact cat_le hw) hd hcs) kk
  · rw [List.map_cons, cv_lit ad hk]
  · show (As.reverse ++ (2, x) :: rest).map (cv ad) = _
    rw [List.map_append, List.map_cons, cv_lit ad hk, List.map_reverse]
end MACH3
