/-! RULES: the class's TESTS, NAMES, HOURS -/
def ttS (K V : Nat → Int) (t : Nat) : (Nat × List One × List One) ⊕ (Int × Nat) := Sum.elim (fun q => if K q.1 = 18 then Sum.elim (fun u => Sum.inl (u.1, q.2, u.2)) (fun e => Sum.inr e) (tsS K V 601 (q.1 + 1) true) else Sum.inl (q.1, q.2, [])) (fun e => Sum.inr e) (tsS K V 601 t true)
def hrS (K V : Nat → Int) (t : Nat) : (Int × Int) ⊕ (Int × Nat) := Sum.elim (fun a => if K (t + 1) = 23 then Sum.elim (fun b => Sum.inl (a, b)) (fun e => Sum.inr e) (numS K V (t + 2) a 1439) else Sum.inr (2, t + 1)) (fun e => Sum.inr e) (numS K V t 0 1439)
theorem tsS_len (K V : Nat → Int) (hv : vOk K V) : ∀ (fu t : Nat) (b orO : Bool) (t' : Nat) (l : List One), tsS K V fu t b = Sum.inl (t', l) → (cgo orO l).length ≤ (t' - t) + (if b = true then 0 else 1) + (if orO = true then 1 else 0)
  | 0, t, b, orO, t', l, h => by simp only [tsS] at h; cases h
  | fu + 1, t, b, orO, t', l, h => by
    simp only [tsS] at h
    cases h1 : oneS K V t with
    | inr e => rw [h1] at h; simp only [Sum.elim_inr] at h; cases h
    | inl q =>
      rw [h1] at h
      simp only [Sum.elim_inl] at h
      obtain ⟨o1, o2, t1, t2, o3, o4, o5, o6, o7, o8, o9, o10, o11, o12⟩ := oneS_ok K V hv h1
      have hcl := codeO_len (b, q.2)
      dsimp only at hcl
      have hnot : t1 = t + (if q.2.1 = true then 1 else 0) := by
        rw [o3, o7]
        by_cases k : K t = 26
        · rw [if_pos k, decide_eq_true k, if_pos rfl]
        · rw [if_neg k, decide_eq_false k, if_neg (by decide), Nat.add_zero]
      have h25 : (if b = true then [] else [(25 : Int)]).length = (if b = true then 0 else 1) := by cases b <;> rfl
      have h24 : ∀ z : Bool, (if z = true then [(24 : Int)] else []).length = (if z = true then 1 else 0) := by intro z; cases z <;> rfl
      have rcx : ∀ b', Sum.elim (fun u : Nat × List One => (Sum.inl (u.1, (b, q.2) :: u.2) : (Nat × List One) ⊕ (Int × Nat))) (fun e => Sum.inr e) (tsS K V fu (q.1 + 1) b') = Sum.inl (t', l) → (cgo orO l).length ≤ (t' - t) + (if b = true then 0 else 1) + (if orO = true then 1 else 0) := by
        intro b' h'
        cases h2 : tsS K V fu (q.1 + 1) b' with
        | inr e => rw [h2] at h'; simp only [Sum.elim_inr] at h'; cases h'
        | inl u =>
          rw [h2] at h'
          simp only [Sum.elim_inl] at h'
          have e := Sum.inl.inj h'
          have e1 : u.1 = t' := congrArg Prod.fst e
          have e2 : (b, q.2) :: u.2 = l := congrArg Prod.snd e
          obtain ⟨c1, c2, c3, c4⟩ := tsS_ok K V hv fu (q.1 + 1) b' u.1 u.2 h2
          have ih := tsS_len K V hv fu (q.1 + 1) b' (orO || nb u.2) u.1 u.2 h2
          rw [← e2]
          simp only [cgo, List.length_append]
          rw [h25, h24, c2]
          rw [c2] at ih
          have hlt : u.2.length ≠ 0 := fun z => c1 (List.length_eq_zero_iff.mp z)
          cases b' <;> cases orO <;> simp at ih ⊢ <;> omega
      by_cases k25 : K q.1 = 25
      · rw [if_pos k25] at h; exact rcx false h
      · rw [if_neg k25] at h
        by_cases k24 : K q.1 = 24
        · rw [if_pos k24] at h; exact rcx true h
        · rw [if_neg k24] at h
          have e := Sum.inl.inj h
          have e1 : q.1 = t' := congrArg Prod.fst e
          have e2 : [(b, q.2)] = l := congrArg Prod.snd e
          rw [← e2]
          rw [show cgo orO [(b, q.2)] = codeO (b, q.2) ++ ((if b = true then [] else [25]) ++ ((if orO = true then [24] else []) ++ [])) by cases orO <;> rfl, List.append_nil, List.length_append, List.length_append, h25, h24]
          omega
theorem ttS_ok (K V : Nat → Int) (hv : vOk K V) {t t' : Nat} {o1 o2 : List One} (h : ttS K V t = Sum.inl (t', o1, o2)) : wfT o1 ∧ (o2 = [] ∨ wfT o2) ∧ t + 3 * (o1.length + o2.length) ≤ t' ∧ t < t' ∧ (codeT o1 o2).length ≤ t' - t + 1 := by
  unfold ttS at h
  cases h1 : tsS K V 601 t true with
  | inr e => rw [h1] at h; simp only [Sum.elim_inr] at h; cases h
  | inl q =>
    rw [h1] at h
    simp only [Sum.elim_inl] at h
    obtain ⟨a1, a2, a3, a4⟩ := tsS_ok K V hv 601 t true q.1 q.2 h1
    have a5 := tsS_len K V hv 601 t true false q.1 q.2 h1
    simp at a5
    have al : q.2.length ≠ 0 := fun z => a1 (List.length_eq_zero_iff.mp z)
    by_cases k : K q.1 = 18
    · rw [if_pos k] at h
      cases h2 : tsS K V 601 (q.1 + 1) true with
      | inr e => rw [h2] at h; simp only [Sum.elim_inr] at h; cases h
      | inl u =>
        rw [h2] at h
        simp only [Sum.elim_inl] at h
        have e := Sum.inl.inj h
        have e1 : u.1 = t' := congrArg Prod.fst e
        have e2 : q.2 = o1 := congrArg (fun z => z.2.1) e
        have e3 : u.2 = o2 := congrArg (fun z => z.2.2) e
        obtain ⟨b1, b2, b3, b4⟩ := tsS_ok K V hv 601 (q.1 + 1) true u.1 u.2 h2
        have b5 := tsS_len K V hv 601 (q.1 + 1) true false u.1 u.2 h2
        simp at b5
        have bl : u.2.length ≠ 0 := fun z => b1 (List.length_eq_zero_iff.mp z)
        rw [← e1, ← e2, ← e3]
        refine ⟨⟨a2, a1, a3⟩, Or.inr ⟨b2, b1, b3⟩, by omega, by omega, ?_⟩
        unfold codeT
        rw [if_neg b1, List.length_append, List.length_append]
        show _ + (_ + 2) ≤ _
        omega
    · rw [if_neg k] at h
      have e := Sum.inl.inj h
      have e1 : q.1 = t' := congrArg Prod.fst e
      have e2 : q.2 = o1 := congrArg (fun z => z.2.1) e
      have e3 : [] = o2 := congrArg (fun z => z.2.2) e
      rw [← e1, ← e2, ← e3]
      refine ⟨⟨a2, a1, a3⟩, Or.inl rfl, by simp only [List.length_nil]; omega, by omega, ?_⟩
      unfold codeT
      rw [if_pos rfl, List.append_nil]; omega
theorem CS.cl {f : Nat → Int} {n N T t m : Nat} {x : Dt} {C : List Int} (h : CS f n N T x t C m) (hm : m < 20) (p1 p2 p3 : Int) : ∃ z, L_St_closeRule (x 25 6) p1 p2 p3 x = some (0, z) ∧ stt x (x 25 6) ∧ CS f n N T z t C (m + 1) ∧ rF T m C.length x z ∧ (z (79 + 7 * T + 1) = x (79 + 7 * T + 1) ∧ z (79 + 7 * T + 2) = x (79 + 7 * T + 2)) ∧ z (79 + 7 * T + 3) m = p1 ∧ z (79 + 7 * T + 4) m = p2 ∧ z (79 + 7 * T + 5) m = p3 := by
  obtain ⟨⟨a1, a2, a3, a4⟩, ⟨d1, ⟨d2, d2'⟩, d3, d4⟩, h2⟩ := h
  have e := closeRule_e d2 d2' h2 hm p1 p2 p3
  obtain ⟨z, hz⟩ : ∃ z, z = up2 (up2 (up2 (up2 x (79 + 7 * T + 3) m p1) (79 + 7 * T + 4) m p2) (79 + 7 * T + 5) m p3) (79 + 7 * T) 2 ((m + 1 : Nat) : Int) := ⟨_, rfl⟩
  rw [← hz] at e
  have zk : ∀ k, k ≠ 79 + 7 * T → k ≠ 79 + 7 * T + 3 → k ≠ 79 + 7 * T + 4 → k ≠ 79 + 7 * T + 5 → z k = x k := fun k k0 k3 k4 k5 => by rw [hz, up2_K _ _ _ k0, up2_K _ _ _ k5, up2_K _ _ _ k4, up2_K _ _ _ k3]
  have hGH : z GH = x GH := zk GH (by show 1000000 ≠ _; omega) (by show 1000000 ≠ _; omega) (by show 1000000 ≠ _; omega) (by show 1000000 ≠ _; omega)
  have z25 : z 25 = x 25 := zk 25 (by omega) (by omega) (by omega) (by omega)
  have z79 : ∀ j, j ≠ 2 → z (79 + 7 * T) j = x (79 + 7 * T) j := fun j hj => by rw [hz, up2_j _ _ _ hj, up2_K _ _ _ (by omega), up2_K _ _ _ (by omega), up2_K _ _ _ (by omega)]
  have z3 : ∀ j, j ≠ m → z (79 + 7 * T + 3) j = x (79 + 7 * T + 3) j := fun j hj => by rw [hz, up2_K _ _ _ (by omega), up2_K _ _ _ (by omega), up2_K _ _ _ (by omega), up2_j _ _ _ hj]
  have z4 : ∀ j, j ≠ m → z (79 + 7 * T + 4) j = x (79 + 7 * T + 4) j := fun j hj => by rw [hz, up2_K _ _ _ (by omega), up2_K _ _ _ (by omega), up2_j _ _ _ hj, up2_K _ _ _ (by omega)]
  have z5 : ∀ j, j ≠ m → z (79 + 7 * T + 5) j = x (79 + 7 * T + 5) j := fun j hj => by rw [hz, up2_K _ _ _ (by omega), up2_j _ _ _ hj, up2_K _ _ _ (by omega), up2_K _ _ _ (by omega)]
  have z1' := zk (79 + 7 * T + 1) (by omega) (by omega) (by omega) (by omega)
  have z2' := zk (79 + 7 * T + 2) (by omega) (by omega) (by omega) (by omega)
  have z6' := zk (79 + 7 * T + 6) (by omega) (by omega) (by omega) (by omega)
  refine ⟨z, by rw [d1]; exact e, by rw [d1]; exact stt_t d2 T (by omega), ⟨⟨a1.cg (zk 27 (by omega) (by omega) (by omega) (by omega)) (zk 28 (by omega) (by omega) (by omega) (by omega)) (zk 29 (by omega) (by omega) (by omega) (by omega)), by rw [z25]; exact a2, a3, by rw [z25]; exact a4⟩, ⟨by rw [z25]; exact d1, ⟨by rw [hGH]; exact d2, d2'⟩, by rw [z79 3 (by decide)]; exact d3, fun i hi => by rw [z6']; exact d4 i hi⟩, by rw [hz, up2_s]⟩, ⟨fun k _ b => zk k (by omega) (by omega) (by omega) (by omega), fun j _ _ _ => by rw [z25], fun a i h1 h2 hi => ?_, fun j _ => by rw [z6']⟩, ⟨z1', z2'⟩, ?_, ?_, ?_⟩
  · have : a = 1 ∨ a = 2 ∨ a = 3 ∨ a = 4 ∨ a = 5 := by omega
    rcases this with rfl | rfl | rfl | rfl | rfl
    · rw [z1']
    · rw [z2']
    · exact z3 i (by omega)
    · exact z4 i (by omega)
    · exact z5 i (by omega)
  · rw [hz, up2_K _ _ _ (by omega), up2_K _ _ _ (by omega), up2_K _ _ _ (by omega), up2_s]
  · rw [hz, up2_K _ _ _ (by omega), up2_K _ _ _ (by omega), up2_s]
  · rw [hz, up2_K _ _ _ (by omega), up2_s]
theorem FA.cl {f : Nat → Int} {n T m : Nat} {x : Dt} {C : List Int} {e : Int × Nat} (h : FA f n x e) (hd : drA x T C) (h2 : x (79 + 7 * T) 2 = (m : Int)) (hm : m < 20) (p1 p2 p3 : Int) : ∃ z, L_St_closeRule (x 25 6) p1 p2 p3 x = some (0, z) ∧ stt x (x 25 6) ∧ FA f n z e ∧ rF T 0 0 x z := by
  obtain ⟨d1, ⟨d2, d2'⟩, d3, d4⟩ := hd
  have e := closeRule_e d2 d2' h2 hm p1 p2 p3
  obtain ⟨z, hz⟩ : ∃ z, z = up2 (up2 (up2 (up2 x (79 + 7 * T + 3) m p1) (79 + 7 * T + 4) m p2) (79 + 7 * T + 5) m p3) (79 + 7 * T) 2 ((m + 1 : Nat) : Int) := ⟨_, rfl⟩
  rw [← hz] at e
  have zk : ∀ k, k ≠ 79 + 7 * T → k ≠ 79 + 7 * T + 3 → k ≠ 79 + 7 * T + 4 → k ≠ 79 + 7 * T + 5 → z k = x k := fun k k0 k3 k4 k5 => by rw [hz, up2_K _ _ _ k0, up2_K _ _ _ k5, up2_K _ _ _ k4, up2_K _ _ _ k3]
  have z25 : z 25 = x 25 := zk 25 (by omega) (by omega) (by omega) (by omega)
  exact ⟨z, by rw [d1]; exact e, by rw [d1]; exact stt_t d2 T (by omega), ⟨by rw [z25]; exact h.1, by rw [z25]; exact h.2⟩, fun k _ b => zk k (by omega) (by omega) (by omega) (by omega), fun j _ _ _ => by rw [z25], fun a i _ _ z => absurd z (by omega), fun j z => absurd z (by omega)⟩
def ruA (T m : Nat) (x' : Dt) (a b c : Int) : Prop := x' (79 + 7 * T + 3) m = a ∧ x' (79 + 7 * T + 4) m = b ∧ x' (79 + 7 * T + 5) m = c
def lb2 (T : Nat) (x x' : Dt) : Prop := x' (79 + 7 * T + 1) = x (79 + 7 * T + 1) ∧ x' (79 + 7 * T + 2) = x (79 + 7 * T + 2)
theorem lb2.tr {T : Nat} {x y z : Dt} (h : lb2 T x y) (h2 : lb2 T y z) : lb2 T x z := ⟨by rw [h2.1, h.1], by rw [h2.2, h.2]⟩
theorem lbE.l2 {T : Nat} {x x' : Dt} (h : lbE T x x') : lb2 T x x' := ⟨h 1 (by decide) (by decide), h 2 (by decide) (by decide)⟩
theorem takeTests_e {f : Nat → Int} {n N T t m : Nat} {x : Dt} {C : List Int} (hb : ∀ k, k < n → -128 ≤ f k ∧ f k ≤ 127) (h : CS f n N T x t C m) (hk : ¬ KK f n t = 0) (hm : m < 20) (hl : C.length ≤ t) : ∃ r x', L_Pa_takeTests x = some (r, x') ∧ Sum.elim (fun q => r = 1 ∧ CS f n N T x' q.1 (C ++ codeT q.2.1 q.2.2) (m + 1) ∧ rF T m C.length x x' ∧ lb2 T x x' ∧ ruA T m x' (KK f n t) (C.length : Int) ((C.length + (codeT q.2.1 q.2.2).length : Nat) : Int)) (fun e => r = 0 ∧ FA f n x' e ∧ rF T 0 0 x x') (ttS (KK f n) (VV f n) (t + 1)) := by
  have hv := vOk_e f n hb
  have n10 : ¬ ((1 : Int) = 0) := by decide
  obtain ⟨xa, a1, a2, a3, a4⟩ := h.nx hk
  have hst : ∀ {x' : Dt} {t' : Nat} {C' : List Int} {m' : Nat}, CS f n N T x' t' C' m' → stt x' (x' 25 6) := fun q => by rw [q.2.1.1]; exact stt_t q.2.1.2.1.1 T (by omega)
  have h3 : ∀ {x' : Dt} {t' : Nat} {C' : List Int} {m' : Nat}, CS f n N T x' t' C' m' → x' ((x' 25 6).toNat + 0) 3 = (C'.length : Int) := fun q => by rw [q.2.1.1, tn79, Nat.add_zero]; exact q.2.1.2.2.1
  have b66 : ∀ (x' : Dt) (t' : Nat) (D : List Int), CS f n N T x' t' (C ++ D) m → rF T m C.length x x' → lb2 T x x' → ∃ z, L_Pa_takeTests_b66 (KK f n t) (C.length : Int) x' = some (1, z) ∧ CS f n N T z t' (C ++ D) (m + 1) ∧ rF T m C.length x z ∧ lb2 T x z ∧ ruA T m z (KK f n t) (C.length : Int) ((C.length + D.length : Nat) : Int) := by
    intro x' t' D q qr ql
    obtain ⟨z, z1, z2, z3, z4, z5, z6, z7, z8⟩ := q.cl hm (KK f n t) (C.length : Int) ((C.length + D.length : Nat) : Int)
    refine ⟨z, ?_, z3, qr.tr (z4.mo (by omega) (by rw [List.length_append]; omega)), ql.tr z5, z6, z7, z8⟩
    unfold L_Pa_takeTests_b66
    rw [ck_pos (hst q), ck_pos (hst q), h3 q, List.length_append, z1, bd_e]
  obtain ⟨r1, xb, b1, b2⟩ := takeTest_e hb a2.pa (by omega)
  unfold L_Pa_takeTests ttS
  rw [h.kn, bd_e, ck_pos (hst h), h3 h, lt_e, a1, bd_e, b1, bd_e]
  cases h1 : tsS (KK f n) (VV f n) 601 (t + 1) true with
  | inr e =>
    rw [h1] at b2
    obtain ⟨rfl, b3⟩ := b2
    rw [if_pos rfl, Sum.elim_inr]
    exact ⟨0, xb, rfl, rfl, b3.fa.1, ((a3 m).mo (by omega) (by omega)).tr b3.fa.2⟩
  | inl q =>
    rw [h1] at b2
    obtain ⟨rfl, b3⟩ := b2
    obtain ⟨c1, c2, c3⟩ := a2.of b3
    have l1 := tsS_len _ _ hv 601 (t + 1) true false q.1 q.2 h1
    simp at l1
    have o1 := (tsS_ok _ _ hv 601 (t + 1) true q.1 q.2 h1)
    have hq1 := c1.1.2.2.1
    have hNn := c1.1.1.1
    have hn6 := c1.1.2.2.2
    rw [if_neg n10, c1.kn, bd_e, Sum.elim_inl]
    try dsimp only
    by_cases k : KK f n q.1 = 18
    · rw [if_pos k, if_pos k]
      obtain ⟨xc, d1, d2, d3, d4⟩ := c1.nx (by omega)
      have hlc : (C ++ cgo false q.2).length ≤ q.1 + 1 := by rw [List.length_append]; omega
      obtain ⟨r2, xd, e1, e2⟩ := takeTest_e hb d2.pa hlc
      rw [d1, bd_e, e1, bd_e]
      cases h2 : tsS (KK f n) (VV f n) 601 (q.1 + 1) true with
      | inr e =>
        rw [h2] at e2
        obtain ⟨rfl, e3⟩ := e2
        rw [if_pos rfl, Sum.elim_inr]
        exact ⟨0, xd, rfl, rfl, e3.fa.1, ((((a3 m).mo (by omega) (by omega)).tr ((c2 m).mo (by omega) (by omega))).tr ((d3 m).mo (by omega) (by omega))).tr e3.fa.2⟩
      | inl u =>
        rw [h2] at e2
        obtain ⟨rfl, e3⟩ := e2
        obtain ⟨g1, g2, g3⟩ := d2.of e3
        have l2 := tsS_len _ _ hv 601 (q.1 + 1) true false u.1 u.2 h2
        simp at l2
        have o2 := (tsS_ok _ _ hv 601 (q.1 + 1) true u.1 u.2 h2)
        have hu2 : u.2 ≠ [] := o2.1
        have hul : u.2.length ≠ 0 := fun z => hu2 (List.length_eq_zero_iff.mp z)
        have hu1 := g1.1.2.2.1
        have lc : (C ++ cgo false q.2 ++ cgo false u.2).length + 2 ≤ u.1 := by rw [List.length_append, List.length_append]; omega
        obtain ⟨xe, i1, i2, i3⟩ := g1.pa.ad (by omega) 26
        obtain ⟨j1, j2, j3⟩ := g1.of i3
        obtain ⟨xg, i4, i5, i6⟩ := j1.pa.ad (by rw [List.length_append]; show _ + 1 < 600; omega) 25
        obtain ⟨j4, j5, j6⟩ := j1.of i6
        have eC : C ++ cgo false q.2 ++ cgo false u.2 ++ [26] ++ [25] = C ++ codeT q.2 u.2 := by
          unfold codeT
          rw [if_neg hu2]
          simp only [List.append_assoc]
          rfl
        rw [eC] at j4
        have fr : rF T m C.length x xg := (((((a3 m).tr ((c2 m))).tr ((d3 m).mo (by omega) (by rw [List.length_append]; omega))).tr ((g2 m).mo (by omega) (by rw [List.length_append]; omega))).tr ((j2 m).mo (by omega) (by rw [List.length_append, List.length_append]; omega))).tr ((j5 m).mo (by omega) (by rw [List.length_append, List.length_append, List.length_append]; omega))
        have fl : lb2 T x xg := ((((a4.l2.tr c3.l2).tr d4.l2).tr g3.l2).tr j3.l2).tr j6.l2
        obtain ⟨z, z1, z2⟩ := b66 xg u.1 (codeT q.2 u.2) j4 fr fl
        rw [if_neg n10, ck_pos i2, i1, bd_e, ck_pos i5, i4, bd_e, z1, Sum.elim_inl]
        exact ⟨1, z, rfl, rfl, z2⟩
    · rw [if_neg k, if_neg k]
      have eC : codeT q.2 [] = cgo false q.2 := by unfold codeT; rw [if_pos rfl, List.append_nil]
      obtain ⟨z, z1, z2⟩ := b66 xb q.1 (cgo false q.2) c1 ((a3 m).tr (c2 m)) (a4.l2.tr c3.l2)
      rw [z1]
      refine ⟨1, z, rfl, rfl, ?_⟩
      show CS f n N T z q.1 (C ++ codeT q.2 []) (m + 1) ∧ _
      rw [eC]; exact z2
theorem takeNames_e {f : Nat → Int} {n N T t m : Nat} {x : Dt} {C : List Int} (hb : ∀ k, k < n → -128 ≤ f k ∧ f k ≤ 127) (h : CS f n N T x t C m) (hk : ¬ KK f n t = 0) (hm : m < 20) : ∃ r x', L_Pa_takeNames x = some (r, x') ∧ Sum.elim (fun v => r = 1 ∧ CS f n N T x' (t + 2) C (m + 1) ∧ rF T m C.length x x' ∧ lb2 T x x' ∧ ruA T m x' 21 v (-1)) (fun e => r = 0 ∧ FA f n x' e ∧ rF T 0 0 x x') (numS (KK f n) (VV f n) (t + 1) 1 4) := by
  obtain ⟨xa, a1, a2, a3, a4⟩ := h.nx hk
  obtain ⟨r1, xb, b1, b2⟩ := a2.tn hb 1 4
  unfold L_Pa_takeNames
  rw [a1, bd_e, b1, bd_e]
  cases h1 : numS (KK f n) (VV f n) (t + 1) 1 4 with
  | inr e =>
    rw [h1] at b2
    obtain ⟨rfl, b3, b4, b5, b6⟩ := b2
    obtain ⟨z, z1, z2, z3, z4⟩ := b3.cl b5 b6 hm 21 (-1) (-1)
    rw [ck_pos z2, z1, bd_e, if_pos rfl]
    exact ⟨0, z, rfl, rfl, z3, (((a3 m).mo (by omega) (by omega)).tr b4).tr z4⟩
  | inl v =>
    rw [h1] at b2
    obtain ⟨rfl, v0, b3, b4, b5⟩ := b2
    obtain ⟨z, z1, z2, z3, z4, z5, z6, z7, z8⟩ := b3.cl hm 21 r1 (-1)
    rw [ck_pos z2, z1, bd_e, if_neg (by omega)]
    exact ⟨1, z, rfl, rfl, z3, ((a3 m).tr (b4 m)).tr z4, (a4.l2.tr b5.l2).tr z5, z6, z7, z8⟩
theorem takeHours_e {f : Nat → Int} {n N T t m : Nat} {x : Dt} {C : List Int} (hb : ∀ k, k < n → -128 ≤ f k ∧ f k ≤ 127) (h : CS f n N T x t C m) (hk : ¬ KK f n t = 0) (hm : m < 20) : ∃ r x', L_Pa_takeHours x = some (r, x') ∧ Sum.elim (fun v => r = 1 ∧ CS f n N T x' (t + 4) C (m + 1) ∧ rF T m C.length x x' ∧ lb2 T x x' ∧ ruA T m x' 22 v.1 v.2) (fun e => r = 0 ∧ FA f n x' e ∧ rF T 0 0 x x') (hrS (KK f n) (VV f n) (t + 1)) := by
  have n10 : ¬ ((1 : Int) = 0) := by decide
  obtain ⟨xa, a1, a2, a3, a4⟩ := h.nx hk
  obtain ⟨r1, xb, b1, b2⟩ := a2.tn hb 0 1439
  unfold L_Pa_takeHours hrS
  rw [a1, bd_e, b1, bd_e]
  cases h1 : numS (KK f n) (VV f n) (t + 1) 0 1439 with
  | inr e =>
    rw [h1] at b2
    obtain ⟨rfl, b3, b4, b5, b6⟩ := b2
    rw [if_pos rfl, Sum.elim_inr]
    exact ⟨0, xb, rfl, rfl, b3, ((a3 m).mo (by omega) (by omega)).tr b4⟩
  | inl v =>
    rw [h1] at b2
    obtain ⟨rfl, v0, b3, b4, b5⟩ := b2
    obtain ⟨r2, xc, c1, c2⟩ := b3.pz 23 (by decide)
    rw [if_neg (by omega), c1, bd_e, Sum.elim_inl]
    by_cases k : KK f n (t + 1 + 1) = 23
    · rw [if_pos k] at c2
      obtain ⟨rfl, c3, c4, c5⟩ := c2
      obtain ⟨r3, xd, d1, d2⟩ := c3.tn hb r1 1439
      rw [if_neg n10, d1, bd_e, if_pos k]
      show ∃ r x', _ ∧ Sum.elim _ _ (Sum.elim _ _ (numS (KK f n) (VV f n) (t + 1 + 1 + 1) r1 1439))
      cases h2 : numS (KK f n) (VV f n) (t + 1 + 1 + 1) r1 1439 with
      | inr e =>
        rw [h2] at d2
        obtain ⟨rfl, d3, d4, d5, d6⟩ := d2
        obtain ⟨z, z1, z2, z3, z4⟩ := d3.cl d5 d6 hm 22 r1 (-1)
        rw [ck_pos z2, z1, bd_e, if_pos rfl, Sum.elim_inr]
        exact ⟨0, z, rfl, rfl, z3, (((((a3 m).mo (by omega) (by omega)).tr ((b4 m).mo (by omega) (by omega))).tr ((c4 m).mo (by omega) (by omega))).tr d4).tr z4⟩
      | inl w =>
        rw [h2] at d2
        obtain ⟨rfl, w0, d3, d4, d5⟩ := d2
        obtain ⟨z, z1, z2, z3, z4, z5, z6, z7, z8⟩ := d3.cl hm 22 r1 r3
        rw [ck_pos z2, z1, bd_e, if_neg (by omega), Sum.elim_inl]
        exact ⟨1, z, rfl, rfl, z3, ((((a3 m).tr (b4 m)).tr (c4 m)).tr (d4 m)).tr z4, (((a4.l2.tr b5.l2).tr c5.l2).tr d5.l2).tr z5, z6, z7, z8⟩
    · rw [if_neg k] at c2
      obtain ⟨rfl, c3, c4⟩ := c2
      rw [if_pos rfl, if_neg k]
      exact ⟨0, xc, rfl, rfl, c3, (((a3 m).mo (by omega) (by omega)).tr ((b4 m).mo (by omega) (by omega))).tr c4⟩
