/-! a TEXT is made: its references; it is put among the others by its day -/
theorem tabRI : ∀ k : Fin 79, ∀ j : Fin 20, isRf 0 k.val j.val = true → (((cd 0 k.val).1 < 20 ∧ ft (cd 0 k.val).1 j.val = 3) ∧ rf (cd 0 k.val).1 k.val j.val < 79) ∨ ((k.val = 25 ∧ j.val = 6) ∧ ¬ ((cd 0 k.val).1 < 20 ∧ ft (cd 0 k.val).1 j.val = 3)) ∨ ((k.val = 31 ∨ k.val = 32) ∧ ¬ (cd 0 k.val).1 < 20) := by decide +kernel
theorem tabRI2 : ∀ k : Fin 79, (cd 0 k.val).1 ≤ 11 ∨ ((20 ≤ (cd 0 k.val).1) ∧ (24 ≤ (cd 0 k.val).1 → k.val = 31 ∨ k.val = 32)) := by decide +kernel
theorem tabRI3 : ∀ j : Fin 10, 3 ≤ ft 9 j.val → ft 9 j.val = 3 ∧ 4 ≤ j.val := by decide +kernel
theorem tabRI4 : ∀ j : Fin 10, 4 ≤ j.val → ∀ k : Nat, rf 9 k j.val = k + (j.val - 3) := by
  intro j hj k
  have : j.val = 4 ∨ j.val = 5 ∨ j.val = 6 ∨ j.val = 7 ∨ j.val = 8 ∨ j.val = 9 := by omega
  rcases this with h | h | h | h | h | h <;> rw [h] <;> rfl
theorem ft_far (c j : Nat) (hc : c ≤ 11) (hj : 20 ≤ j) : ft c j = 0 := by
  have : c = 0 ∨ c = 1 ∨ c = 2 ∨ c = 3 ∨ c = 4 ∨ c = 5 ∨ c = 6 ∨ c = 7 ∨ c = 8 ∨ c = 9 ∨ c = 10 ∨ c = 11 := by omega
  rcases this with h | h | h | h | h | h | h | h | h | h | h | h <;> rw [h] <;> simp only [ft] <;> rw [List.getD_eq_getElem?_getD, List.getElem?_eq_none (by simp only [List.length_cons, List.length_nil]; omega)] <;> rfl
theorem okRI_e {d : Dt} {G : Nat} (hG : d GH 0 = (G : Int)) (h25 : d 25 6 < 0 ∨ (d 25 6).toNat < 79 + 7 * G) (hz : ∀ k j, (k = 31 ∨ k = 32) → d k j < 0 ∨ (d k j).toNat < 79 + 7 * G) : okRI d := by
  have hn : nOf 0 d = 79 + 7 * G := by unfold nOf; rw [if_pos rfl, hG, tn_i]
  have ok : ∀ v : Int, (v < 0 ∨ v.toNat < 79 + 7 * G) → okr [] (List.range (nOf 0 d)) v := fun v hv => by
    rcases hv with q | q
    · exact Or.inl q
    · exact Or.inr (Or.inl (List.mem_range.mpr (by rw [hn]; exact q)))
  intro k hk j hj
  have hk' : k < 79 + 7 * G := by rw [← hn]; exact List.mem_range.mp hk
  apply ok
  by_cases k79 : k < 79
  · have fin : (k = 31 ∨ k = 32) → ¬ (cd 0 k).1 < 20 → rfd 0 d k j < 0 ∨ (rfd 0 d k j).toNat < 79 + 7 * G := by
      intro h1 h2
      unfold rfd
      rw [if_neg (fun z => h2 z.1)]; exact hz k j h1
    by_cases j20 : j < 20
    · rcases tabRI ⟨k, k79⟩ ⟨j, j20⟩ hj with ⟨h1, h2⟩ | ⟨⟨h1, h1'⟩, h2⟩ | ⟨h1, h2⟩
      · right
        unfold rfd
        rw [if_pos h1, tn_i]
        have : rf (cd 0 k).1 k j < 79 := h2
        omega
      · have e1 : k = 25 := h1
        have e2 : j = 6 := h1'
        unfold rfd
        rw [if_neg h2, e1, e2]; exact h25
      · exact fin h1 h2
    · rcases tabRI2 ⟨k, k79⟩ with h1 | ⟨h1, h2⟩
      · have h1' : (cd 0 k).1 ≤ 11 := h1
        unfold isRf at hj
        rw [if_pos (by omega), ft_far _ j h1' (by omega)] at hj
        exact absurd hj (by decide)
      · have h1' : 20 ≤ (cd 0 k).1 := h1
        unfold isRf at hj
        rw [if_neg (by omega), decide_eq_true_eq] at hj
        exact fin (h2 hj) (by omega)
  · obtain ⟨q, o, ho, hq⟩ : ∃ q o, o < 7 ∧ k = 79 + 7 * q + o := ⟨(k - 79) / 7, (k - 79) % 7, by omega, by omega⟩
    have hcd : cd 0 k = cdA1.getD o (99, 0) := by rw [hq]; exact cd_new ho
    have hqG : q < G := by omega
    unfold isRf at hj
    rw [hcd] at hj
    unfold rfd
    rw [hcd]
    have : o = 0 ∨ o = 1 ∨ o = 2 ∨ o = 3 ∨ o = 4 ∨ o = 5 ∨ o = 6 := by omega
    rcases this with h | h | h | h | h | h | h
    · rw [h] at hj ⊢
      have e9 : (cdA1.getD 0 (99, 0)).1 = 9 := rfl
      rw [e9] at hj ⊢
      rw [if_pos (by decide), decide_eq_true_eq] at hj
      by_cases j10 : j < 10
      · obtain ⟨f1, f2⟩ := tabRI3 ⟨j, j10⟩ hj
        have f2' : 4 ≤ j := f2
        have f3 := tabRI4 ⟨j, j10⟩ f2 k
        right
        rw [if_pos ⟨by decide, f1⟩, show rf 9 k j = k + (j - 3) from f3, tn_i]
        omega
      · exfalso
        simp only [ft] at hj
        rw [List.getD_eq_getElem?_getD, List.getElem?_eq_none (by simp only [List.length_cons, List.length_nil]; omega)] at hj
        exact absurd hj (by decide)
    all_goals (rw [h, if_neg (by decide)] at hj; exact absurd hj (by decide))
theorem enactA_e {x : Dt} {dy : Nat → Int} {T G : Nat} {L : List Nat} (hT : T ≤ 4) (hG : x GH 0 = (G : Int)) (hTG : T < G) (hs : srt dy L) (hl : L.length = T) (hLm : ∀ y, y ∈ L → y < T) (h31 : ∀ m, m < T → x 31 m = 79 + 7 * ((L.getD m 0 : Nat) : Int)) (hdy : ∀ y, y < T → x (79 + 7 * y) 0 = dy y) (h30 : x 30 2 = (T : Int)) (p3 : Int) :
    ∃ x', L_La_enact (79 + 7 * (T : Int)) (dy T) p3 x = some (0, x') ∧ (∀ m, m < T + 1 → x' 31 m = 79 + 7 * (((insD dy T L).getD m 0 : Nat) : Int)) ∧ (∀ m, T < m → x' 31 m = x 31 m) ∧ (x' (79 + 7 * T) 0 = dy T ∧ x' (79 + 7 * T) 1 = p3 ∧ ∀ j, j ≠ 0 → j ≠ 1 → x' (79 + 7 * T) j = x (79 + 7 * T) j) ∧ (x' 30 2 = ((T + 1 : Nat) : Int) ∧ x' 30 7 = -1 ∧ ∀ j, j ≠ 2 → j ≠ 7 → x' 30 j = x 30 j) ∧ ∀ k, k ≠ 30 → k ≠ 31 → k ≠ 79 + 7 * T → x' k = x k := by
  have hgh : ∀ k : Nat, k < 1000000 → GH ≠ k := fun k hk => by show 1000000 ≠ k; omega
  obtain ⟨x1, hx1⟩ : ∃ x1, x1 = up2 (up2 x (79 + 7 * T) 0 (dy T)) (79 + 7 * T) 1 p3 := ⟨_, rfl⟩
  have k1 : ∀ k, k ≠ 79 + 7 * T → x1 k = x k := fun k hk => by rw [hx1, up2_K _ _ _ hk, up2_K _ _ _ hk]
  have g1 : x1 GH = x GH := k1 GH (hgh _ (by omega))
  have st : ∀ (x' : Dt), x' GH = x GH → ∀ y : Nat, y < G → stt x' (79 + 7 * (y : Int)) := fun x' e y hy => by
    refine ⟨by omega, ?_, by omega⟩
    rw [e, hG]; omega
  obtain ⟨a, hA⟩ : ∃ a, a = (L.filter (fun y => decide (dy y ≤ dy T))).length := ⟨_, rfl⟩
  have haL : a ≤ L.length := by rw [hA]; exact List.length_filter_le _ _
  have sg := split_get dy T L hs
  rw [← hA] at sg
  have ig := ins_get dy T L hs
  rw [← hA] at ig
  have hLl : ∀ m, m < T → L.getD m 0 < T := fun m hm => hLm _ (getD_mem L m (by omega))
  obtain ⟨x2, e1, e2, e3, e4, e5⟩ := lp_inv (f := fun q : Int × Int × Int × Dt => L_La_enact_y16 q.1 q.2.1 q.2.2.1 q.2.2.2) (fun j y => (79 + 7 * (T : Int), dy T, (T : Int) - (j : Int), y)) (fun y => (79 + 7 * (T : Int), (a : Int), y))
    (fun j y => (∀ k, k ≠ 31 → y k = x1 k) ∧ (∀ m, m < T - j → y 31 m = 79 + 7 * ((L.getD m 0 : Nat) : Int)) ∧ (∀ m, T - j < m → m ≤ T → y 31 m = 79 + 7 * ((L.getD (m - 1) 0 : Nat) : Int)) ∧ ∀ m, T < m → y 31 m = x 31 m) (T - a)
    (by
      rintro j y hj ⟨f1, f2, f3, f4⟩
      have hk := f2 (T - j - 1) (by omega)
      have hb := hLl (T - j - 1) (by omega)
      have hgt := (sg (T - j - 1) (by omega)).2 (by omega)
      have gy : y GH = x GH := by rw [f1 GH (hgh 31 (by decide))]; exact g1
      have s1 := st y gy (L.getD (T - j - 1) 0) (by omega)
      have hday : y (79 + 7 * (L.getD (T - j - 1) 0)) 0 = dy (L.getD (T - j - 1) 0) := by rw [f1 _ (by omega), k1 _ (by omega)]; exact hdy _ hb
      refine ⟨up2 y 31 (T - j) (79 + 7 * ((L.getD (T - j - 1) 0 : Nat) : Int)), ?_, fun k hk => by rw [up2_K _ _ _ hk]; exact f1 k hk, ?_, ?_, fun m hm => by rw [up2_j _ _ _ (by omega)]; exact f4 m hm⟩
      · dsimp only
        unfold L_La_enact_y16 L_La_beginsBehind
        rw [show (T : Int) - (j : Int) = ((T - j : Nat) : Int) by omega, if_pos (by omega), w32s1 (T - j) (by omega) (by omega), ck_pos ⟨by omega, by omega⟩, tn_i, hk, if_neg (by omega), ck_pos s1, tn79, Nat.add_zero, hday, if_pos hgt, bd_e, if_neg (by decide), ck_pos ⟨by omega, by omega⟩, ck_pos ⟨by omega, by omega⟩, hk, ck_pos s1, tn_i, w32m1 (T - j) (by omega) (by omega), show ((T - j - 1 : Nat) : Int) = (T : Int) - ((j + 1 : Nat) : Int) by omega]
      · intro m hm; rw [up2_j _ _ _ (by omega)]; exact f2 m (by omega)
      · intro m h1 h2
        by_cases q : m = T - j
        · rw [q, up2_s]
        · rw [up2_j _ _ _ q]; exact f3 m (by omega) h2)
    (by
      rintro y ⟨f1, f2, f3, f4⟩
      dsimp only
      unfold L_La_enact_y16 L_La_beginsBehind
      rw [show (T : Int) - ((T - a : Nat) : Int) = (a : Int) by omega]
      by_cases q : a = 0
      · rw [if_neg (by omega)]
      · have hk := f2 (a - 1) (by omega)
        have hb := hLl (a - 1) (by omega)
        have hle := (sg (a - 1) (by omega)).1 (by omega)
        have gy : y GH = x GH := by rw [f1 GH (hgh 31 (by decide))]; exact g1
        have s1 := st y gy (L.getD (a - 1) 0) (by omega)
        have hday : y (79 + 7 * (L.getD (a - 1) 0)) 0 = dy (L.getD (a - 1) 0) := by rw [f1 _ (by omega), k1 _ (by omega)]; exact hdy _ hb
        rw [if_pos (by omega), w32s1 a (by omega) (by omega), ck_pos ⟨by omega, by omega⟩, tn_i, hk, if_neg (by omega), ck_pos s1, tn79, Nat.add_zero, hday, if_neg (by omega), bd_e, if_pos rfl]) (by omega) x1 ⟨fun _ _ => rfl, fun m hm => by rw [k1 31 (by omega)]; exact h31 m (by omega), fun m h1 h2 => by omega, fun m _ => by rw [k1 31 (by omega)]⟩
  have g2 : x2 GH = x GH := by rw [e2 GH (hgh 31 (by decide))]; exact g1
  have v30 : x2 30 2 = (T : Int) := by rw [e2 30 (by decide), k1 30 (by omega)]; exact h30
  have x1d : x1 30 2 = (T : Int) := by rw [k1 30 (by omega)]; exact h30
  have s0 := st x rfl T hTG
  have s0' := st (up2 x (79 + 7 * T) 0 (dy T)) (up2_K _ _ _ (hgh _ (by omega))) T hTG
  have s2 := st x2 g2 T hTG
  refine ⟨up2 (up2 (up2 x2 31 a (79 + 7 * (T : Int))) 30 2 ((T + 1 : Nat) : Int)) 30 7 (-1), ?_, ?_, ?_, ⟨?_, ?_, ?_⟩, ⟨?_, ?_, ?_⟩, ?_⟩
  · unfold L_La_enact L_La_enact_l16
    rw [ck_pos s0, tn79, Nat.add_zero, ck_pos s0', lt_e, ← hx1, x1d]
    rw [show (T : Int) - ((0 : Nat) : Int) = (T : Int) by omega] at e1
    rw [show lpF (fun q : Int × Int × Int × Dt => L_La_enact_y16 q.1 q.2.1 q.2.2.1 q.2.2.2) FU (79 + 7 * (T : Int), dy T, (T : Int), x1) = _ from e1, lb_e, u2_q]
    unfold L_La_enact_b59
    rw [ck_pos ⟨by omega, by omega⟩, ck_pos s2, tn_i, v30, w32_i (show T < 2147483647 by omega)]
  · intro m hm
    rw [up2_K _ _ _ (by decide), up2_K _ _ _ (by decide), ig m]
    by_cases q : m < a
    · rw [if_pos q, up2_j _ _ _ (by omega)]; exact e3 m (by omega)
    · rw [if_neg q]
      by_cases q2 : m = a
      · rw [if_pos q2, q2, up2_s]
      · rw [if_neg q2, up2_j _ _ _ q2]; exact e4 m (by omega) (by omega)
  · intro m hm
    rw [up2_K _ _ _ (by decide), up2_K _ _ _ (by decide), up2_j _ _ _ (by omega)]; exact e5 m hm
  · rw [up2_K _ _ _ (by omega), up2_K _ _ _ (by omega), up2_K _ _ _ (by omega), e2 _ (by omega), hx1, up2_j _ _ _ (by decide), up2_s]
  · rw [up2_K _ _ _ (by omega), up2_K _ _ _ (by omega), up2_K _ _ _ (by omega), e2 _ (by omega), hx1, up2_s]
  · intro j j0 j1
    rw [up2_K _ _ _ (by omega), up2_K _ _ _ (by omega), up2_K _ _ _ (by omega), e2 _ (by omega), hx1, up2_j _ _ _ j1, up2_j _ _ _ j0]
  · rw [up2_j _ _ _ (by decide), up2_s]
  · rw [up2_s]
  · intro j j2 j7
    rw [up2_j _ _ _ j7, up2_j _ _ _ j2, up2_K _ _ _ (by decide), e2 30 (by decide), k1 30 (by omega)]
  · intro k h30' h31' h79
    rw [up2_K _ _ _ h30', up2_K _ _ _ h30', up2_K _ _ _ h31', e2 k h31', k1 k h79]
