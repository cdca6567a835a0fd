/-! LAWS: the reference's RULES that stand -/
theorem ins_get (dy : Nat → Int) (x : Nat) (L : List Nat) (h : srt dy L) (m : Nat) : (insD dy x L).getD m 0 = if m < (L.filter (fun y => decide (dy y ≤ dy x))).length then L.getD m 0 else if m = (L.filter (fun y => decide (dy y ≤ dy x))).length then x else L.getD (m - 1) 0 := by
  obtain ⟨A, hA⟩ : ∃ A, A = L.filter (fun y => decide (dy y ≤ dy x)) := ⟨_, rfl⟩
  obtain ⟨B, hB⟩ : ∃ B, B = L.filter (fun y => decide (dy x < dy y)) := ⟨_, rfl⟩
  have hs := ord_split dy x L h
  unfold insD
  rw [← hA, ← hB] at hs ⊢
  rw [getD_app]
  by_cases q : m < A.length
  · rw [if_pos q, if_pos q, ← hs, getD_app, if_pos q]
  · rw [if_neg q, if_neg q]
    by_cases q2 : m = A.length
    · rw [if_pos q2, q2, Nat.sub_self]; rfl
    · rw [if_neg q2, ← hs, getD_app, if_neg (by omega), show m - A.length = (m - 1 - A.length) + 1 by omega]
      rfl
theorem split_get (dy : Nat → Int) (x : Nat) (L : List Nat) (h : srt dy L) (m : Nat) (hm : m < L.length) : (m < (L.filter (fun y => decide (dy y ≤ dy x))).length → dy (L.getD m 0) ≤ dy x) ∧ ((L.filter (fun y => decide (dy y ≤ dy x))).length ≤ m → dy x < dy (L.getD m 0)) := by
  obtain ⟨A, hA⟩ : ∃ A, A = L.filter (fun y => decide (dy y ≤ dy x)) := ⟨_, rfl⟩
  obtain ⟨B, hB⟩ : ∃ B, B = L.filter (fun y => decide (dy x < dy y)) := ⟨_, rfl⟩
  have hs := ord_split dy x L h
  have hl := congrArg List.length hs
  rw [← hA, ← hB, List.length_append] at hl
  rw [← hA]
  rw [← hA, ← hB] at hs
  have eg : L.getD m 0 = (A ++ B).getD m 0 := by rw [hs]
  rw [eg, getD_app]
  constructor
  · intro q
    rw [if_pos q]
    have := getD_mem A m q
    rw [hA] at this
    have := (List.mem_filter.mp this).2
    rw [decide_eq_true_eq, ← hA] at this; exact this
  · intro q
    rw [if_neg (by omega)]
    have := getD_mem B (m - A.length) (by omega)
    rw [hB] at this
    have := (List.mem_filter.mp this).2
    rw [decide_eq_true_eq, ← hB] at this; exact this
def arrO (x : Dt) (L : List Nat) : Prop := ∀ m, m < L.length → x 48 m = ((L.getD m 0 : Nat) : Int)
theorem insB_e {x dB : Dt} (p day : Int) (t : Nat) (L : List Nat) (ht : t < 6) (hs : srt (dB 26) L) (hl : L.length ≤ 4) (hLm : ∀ y, y ∈ L → y < 6) (h26 : x 26 = dB 26) (ha : arrO x L) : ∃ x', L_Mo_stand_l45 p day (L.length : Int) (t : Int) (L.length : Int) x = some (p, day, (L.length : Int), (t : Int), ((L.filter (fun y => decide (dB 26 y ≤ dB 26 t))).length : Int), x') ∧ (∀ k, k ≠ 48 → x' k = x k) ∧ arrO (up2 x' 48 (L.filter (fun y => decide (dB 26 y ≤ dB 26 t))).length (t : Int)) (insD (dB 26) t L) := by
  obtain ⟨a, hA⟩ : ∃ a, a = (L.filter (fun y => decide (dB 26 y ≤ dB 26 t))).length := ⟨_, rfl⟩
  have haL : a ≤ L.length := by rw [hA]; exact List.length_filter_le _ _
  have sg := split_get (dB 26) t L hs
  rw [← hA] at sg
  have ig := ins_get (dB 26) t L hs
  rw [← hA] at ig ⊢
  obtain ⟨x', e1, e2, e3, e4⟩ := lp_inv (f := fun q : Int × Int × Int × Int × Int × Dt => L_Mo_stand_y45 q.1 q.2.1 q.2.2.1 q.2.2.2.1 q.2.2.2.2.1 q.2.2.2.2.2) (fun j y => (p, day, (L.length : Int), (t : Int), (L.length : Int) - (j : Int), y)) (fun y => (p, day, (L.length : Int), (t : Int), (a : Int), y))
    (fun j y => (∀ k, k ≠ 48 → y k = x k) ∧ (∀ m, m < L.length - j → y 48 m = ((L.getD m 0 : Nat) : Int)) ∧ ∀ m, L.length - j < m → m ≤ L.length → y 48 m = ((L.getD (m - 1) 0 : Nat) : Int)) (L.length - a)
    (by
      rintro j y hj ⟨f1, f2, f3⟩
      have hk := f2 (L.length - j - 1) (by omega)
      have hb := hLm _ (getD_mem L (L.length - j - 1) (by omega))
      have hgt := (sg (L.length - j - 1) (by omega)).2 (by omega)
      refine ⟨up2 y 48 (L.length - j) ((L.getD (L.length - j - 1) 0 : Nat) : Int), ?_, fun k hk => by rw [up2_K _ _ _ hk]; exact f1 k hk, ?_, ?_⟩
      · dsimp only
        unfold L_Mo_stand_y45
        rw [show (L.length : Int) - (j : Int) = ((L.length - j : Nat) : Int) by omega, if_pos (by omega), w32s1 (L.length - j) (by omega) (by omega), ck_pos ⟨by omega, by omega⟩, tn_i, hk, ck_pos ⟨by omega, by omega⟩, ck_pos ⟨by omega, by omega⟩, tn_i, tn_i, f1 26 (by decide), h26, if_pos hgt, ck_pos ⟨by omega, by omega⟩, ck_pos ⟨by omega, by omega⟩, tn_i, w32m1 (L.length - j) (by omega) (by omega), show ((L.length - j - 1 : Nat) : Int) = (L.length : Int) - ((j + 1 : Nat) : Int) by omega]
      · intro m hm; rw [up2_j _ _ _ (by omega)]; exact f2 m (by omega)
      · intro m h1 h2
        by_cases q : m = L.length - j
        · rw [q, up2_s]
        · rw [up2_j _ _ _ q]; exact f3 m (by omega) h2)
    (by
      rintro y ⟨f1, f2, f3⟩
      dsimp only
      unfold L_Mo_stand_y45
      rw [show (L.length : Int) - ((L.length - a : Nat) : Int) = (a : Int) by omega]
      by_cases q : a = 0
      · rw [if_neg (by omega)]
      · have hk := f2 (a - 1) (by omega)
        have hb := hLm _ (getD_mem L (a - 1) (by omega))
        have hle := (sg (a - 1) (by omega)).1 (by omega)
        rw [if_pos (by omega), w32s1 a (by omega) (by omega), ck_pos ⟨by omega, by omega⟩, tn_i, hk, ck_pos ⟨by omega, by omega⟩, ck_pos ⟨by omega, by omega⟩, tn_i, tn_i, f1 26 (by decide), h26, if_neg (by omega)]) (by omega) x ⟨fun _ _ => rfl, fun m hm => ha m (by omega), fun m h1 h2 => by omega⟩
  refine ⟨x', ?_, e2, ?_⟩
  · unfold L_Mo_stand_l45
    rw [show (L.length : Int) - ((0 : Nat) : Int) = (L.length : Int) by omega] at e1
    exact e1
  · intro m hm
    rw [ins_len (dB 26) t L hs] at hm
    rw [ig m]
    by_cases q : m < a
    · rw [if_pos q, up2_j _ _ _ (by omega)]; exact e3 m (by omega)
    · rw [if_neg q]
      by_cases q2 : m = a
      · rw [if_pos q2, q2, up2_s]
      · rw [if_neg q2, up2_j _ _ _ q2]; exact e4 m (by omega) (by omega)
theorem ordB_e {dA dB x : Dt} (hL : RL0 dA dB) (hx : Core dB x) (place : Nat) (day : Int) : ∃ x', L_Mo_stand_l5 (place : Int) day 0 0 x = some (((txs dB place day).length : Int), x') ∧ (∀ k, k ≠ 48 → x' k = x k) ∧ arrO x' (txs dB place day) := by
  obtain ⟨hT, _, _, _, htx, _⟩ := hL
  obtain ⟨x', e1, e2, e3⟩ := lp_inv (f := fun q : Int × Int × Int × Int × Dt => L_Mo_stand_y5 q.1 q.2.1 q.2.2.1 q.2.2.2.1 q.2.2.2.2) (fun t y => ((place : Int), day, ((ordF (inF dB place day) (dB 26) t).length : Int), (t : Int), y)) (fun y => (((txs dB place day).length : Int), y))
    (fun t y => (∀ k, k ≠ 48 → y k = x k) ∧ arrO y (ordF (inF dB place day) (dB 26) t)) (dB 0 41).toNat
    (by
      rintro t y ht ⟨f1, f2⟩
      have hlen := ord_len (inF dB place day) (dB 26) t
      have y0 : y 0 41 = dB 0 41 := by rw [f1 0 (by decide)]; exact hx.2 41 (by decide)
      have y26 : y 26 = dB 26 := by rw [f1 26 (by decide)]; exact hx.1 26 (by decide) (by decide)
      have y27 : y 27 = dB 27 := by rw [f1 27 (by decide)]; exact hx.1 27 (by decide) (by decide)
      dsimp only
      unfold L_Mo_stand_y5 L_Mo_stand_b96 L_Mo_stand_b108
      rw [y0, if_pos (by omega), ck_pos ⟨by omega, by omega⟩, ck_pos ⟨by omega, by omega⟩, tn_i, y26, y27, show iand (ishr (dB 27 t) (place : Int)) 1 = bitI (dB 27 t) place from rfl, w32_i (show t < 2147483647 by omega)]
      simp only [ordF]
      by_cases q : inF dB place day t = true
      · unfold inF at q
        rw [Bool.and_eq_true, decide_eq_true_eq, decide_eq_true_eq] at q
        obtain ⟨y', g1, g2, g3⟩ := insB_e (x := y) (place : Int) day t _ (by omega) (ord_sorted (inF dB place day) (dB 26) t) (by omega) (fun z hz => by have := (ord_mem _ _ _ _ hz).1; omega) y26 f2
        have hfl : ((ordF (inF dB place day) (dB 26) t).filter (fun z => decide (dB 26 z ≤ dB 26 t))).length ≤ (ordF (inF dB place day) (dB 26) t).length := List.length_filter_le _ _
        have hq : inF dB place day t = true := by unfold inF; rw [Bool.and_eq_true, decide_eq_true_eq, decide_eq_true_eq]; exact q
        rw [if_neg (by omega), if_neg q.2, g1, lb_e, u5_q, ck_pos ⟨by omega, by omega⟩, tn_i, w32_i (show (ordF (inF dB place day) (dB 26) t).length < 2147483647 by omega), w32_i (show t < 2147483647 by omega), if_pos hq, ins_len (dB 26) t _ (ord_sorted (inF dB place day) (dB 26) t)]
        exact ⟨_, rfl, fun k hk => by rw [up2_K _ _ _ hk, g2 k hk]; exact f1 k hk, g3⟩
      · rw [if_neg q]
        unfold inF at q
        rw [Bool.and_eq_true, decide_eq_true_eq, decide_eq_true_eq] at q
        by_cases q1 : day < dB 26 t
        · rw [if_pos q1]; exact ⟨y, rfl, f1, f2⟩
        · rw [if_neg q1]
          by_cases q2 : bitI (dB 27 t) place = 0
          · rw [if_pos q2]; exact ⟨y, rfl, f1, f2⟩
          · exact absurd ⟨by omega, q2⟩ q)
    (by
      rintro y ⟨f1, f2⟩
      dsimp only
      unfold L_Mo_stand_y5
      rw [f1 0 (by decide), hx.2 41 (by decide), if_neg (by omega)]; rfl) (by omega) x ⟨fun _ _ => rfl, fun m hm => absurd hm (by simp [ordF])⟩
  refine ⟨x', ?_, e2, e3⟩
  unfold L_Mo_stand_l5
  exact e1
def arrB (x : Dt) (L : List Nat) : Prop := x 0 68 = (L.length : Int) ∧ ∀ m, m < L.length → x 47 m = ((L.getD m 0 : Nat) : Int)
theorem arrB_app {x : Dt} {L : List Nat} (h : arrB x L) (r : Nat) : arrB (up2 (up2 x 47 L.length (r : Int)) 0 68 ((L.length + 1 : Nat) : Int)) (L ++ [r]) := by
  obtain ⟨h1, h2⟩ := h
  refine ⟨?_, ?_⟩
  · rw [up2_s, List.length_append]; rfl
  · intro m hm
    rw [List.length_append] at hm
    have hm' : m < L.length + 1 := hm
    rw [getD_app, up2_K _ _ _ (by decide)]
    by_cases q : m < L.length
    · rw [if_pos q, up2_j _ _ _ (by omega)]; exact h2 m q
    · have e : m = L.length := by omega
      rw [if_neg q, e, up2_s, Nat.sub_self]; rfl
theorem flat_len {dA dB : Dt} (hL : RL0 dA dB) : ∀ K : List Nat, (∀ t, t ∈ K → (t : Int) < dB 0 41) → (K.flatMap (rul dB)).length ≤ 20 * K.length
  | [], _ => by simp
  | t :: K, h => by
    have ih := flat_len hL K (fun y hy => h y (List.mem_cons_of_mem _ hy))
    have := (hL.2.2.2.2.1 t (h t List.mem_cons_self)).2.2.1
    rw [List.flatMap_cons, List.length_append, rul_len, List.length_cons]; omega
theorem fillB_e {dA dB x : Dt} (hL : RL0 dA dB) (hx : Core dB x) (place : Nat) (day : Int) (ha : arrO x (txs dB place day)) : ∃ x', L_Mo_stand_l122 ((txs dB place day).length : Int) 0 (up2 x 0 68 0) = some x' ∧ (∀ k, k ≠ 0 → k ≠ 47 → x' k = x k) ∧ (∀ j, j ≠ 68 → x' 0 j = x 0 j) ∧ arrB x' (rlL dB place day) := by
  obtain ⟨hT, _, _, _, htx, _⟩ := id hL
  obtain ⟨K, hK⟩ : ∃ K, K = txs dB place day := ⟨_, rfl⟩
  have hKl : K.length ≤ 5 := by rw [hK]; have := ord_len (inF dB place day) (dB 26) (dB 0 41).toNat; unfold txs; omega
  have hKm : ∀ t, t ∈ K → (t : Int) < dB 0 41 := fun t ht => by rw [hK] at ht; have := (ord_mem _ _ _ _ ht).1; omega
  rw [← hK] at ha ⊢
  have hrl : rlL dB place day = (K.take K.length).flatMap (rul dB) := by rw [List.take_length, hK]; rfl
  obtain ⟨x', e1, e2, e3, e4⟩ := lp_inv (f := fun q : Int × Int × Dt => L_Mo_stand_y122 q.1 q.2.1 q.2.2) (fun i y => ((K.length : Int), (i : Int), y)) (fun y => y)
    (fun i y => (∀ k, k ≠ 0 → k ≠ 47 → y k = x k) ∧ (∀ j, j ≠ 68 → y 0 j = x 0 j) ∧ arrB y ((K.take i).flatMap (rul dB))) K.length
    (by
      rintro i y hi ⟨f1, f2, f3⟩
      obtain ⟨t, ht⟩ : ∃ t, t = K.getD i 0 := ⟨_, rfl⟩
      have htT := hKm t (by rw [ht]; exact getD_mem K i hi)
      obtain ⟨_, _, x3, _⟩ := htx t htT
      obtain ⟨c, hcn⟩ : ∃ c : Nat, dB 28 t = (c : Int) := ⟨(dB 28 t).toNat, by omega⟩
      have y48 : y 48 i = (t : Int) := by rw [f1 48 (by decide) (by decide), ha i hi, ht]
      obtain ⟨O, hO⟩ : ∃ O, O = (K.take i).flatMap (rul dB) := ⟨_, rfl⟩
      have hOl : O.length ≤ 80 := by
        have := flat_len hL (K.take i) (fun z hz => hKm z (List.mem_of_mem_take hz))
        rw [← hO, List.length_take] at this; omega
      rw [← hO] at f3
      obtain ⟨y', k1, k2, k3, k4⟩ := lp_inv (f := fun q : Int × Int × Int × Dt => L_Mo_stand_y140 q.1 q.2.1 q.2.2.1 q.2.2.2) (fun r z => ((K.length : Int), (i : Int), ((20 * t + r : Nat) : Int), z)) (fun z => ((K.length : Int), (i : Int), z))
        (fun r z => (∀ k, k ≠ 0 → k ≠ 47 → z k = x k) ∧ (∀ j, j ≠ 68 → z 0 j = x 0 j) ∧ arrB z (O ++ (List.range r).map (fun i => 20 * t + i))) c
        (by
          rintro r z hr ⟨l1, l2, l3⟩
          have hlen : (O ++ (List.range r).map (fun i => 20 * t + i)).length = O.length + r := by rw [List.length_append, List.length_map, List.length_range]
          have h68 : z 0 68 = ((O.length + r : Nat) : Int) := by rw [l3.1, hlen]
          have happ := arrB_app l3 (20 * t + r)
          rw [hlen] at happ
          have z48 : z 48 i = (t : Int) := by rw [l1 48 (by decide) (by decide), ← f1 48 (by decide) (by decide)]; exact y48
          have z28 : z 28 t = (c : Int) := by rw [l1 28 (by decide) (by decide), hx.1 28 (by decide) (by decide), hcn]
          refine ⟨up2 (up2 z 47 (O.length + r) ((20 * t + r : Nat) : Int)) 0 68 ((O.length + r + 1 : Nat) : Int), ?_, ?_, ?_, ?_⟩
          · dsimp only
            unfold L_Mo_stand_y140
            rw [ck_pos ⟨by omega, by omega⟩, ck_pos ⟨by omega, by omega⟩, tn_i, z48, ck_pos ⟨by omega, by omega⟩, tn_i, z28, w32_s (x := 20 * (t : Int)) (by omega) (by omega), w32_s (x := 20 * (t : Int) + (c : Int)) (by omega) (by omega), if_pos (by omega), h68, ck_pos ⟨by omega, by omega⟩, tn_i, w32_i (show O.length + r < 2147483647 by omega), w32_i (show 20 * t + r < 2147483647 by omega)]
            rfl
          · intro k h1 h2; rw [up2_K _ _ _ h1, up2_K _ _ _ h2]; exact l1 k h1 h2
          · intro j hj; rw [up2_j _ _ _ hj, up2_K _ _ _ (by decide)]; exact l2 j hj
          · rw [List.range_succ, List.map_append, ← List.append_assoc]; exact happ)
        (by
          rintro z ⟨l1, l2, l3⟩
          have z48 : z 48 i = (t : Int) := by rw [l1 48 (by decide) (by decide), ← f1 48 (by decide) (by decide)]; exact y48
          have z28 : z 28 t = (c : Int) := by rw [l1 28 (by decide) (by decide), hx.1 28 (by decide) (by decide), hcn]
          dsimp only
          unfold L_Mo_stand_y140
          rw [ck_pos ⟨by omega, by omega⟩, ck_pos ⟨by omega, by omega⟩, tn_i, z48, ck_pos ⟨by omega, by omega⟩, tn_i, z28, w32_s (x := 20 * (t : Int)) (by omega) (by omega), w32_s (x := 20 * (t : Int) + (c : Int)) (by omega) (by omega), if_neg (by omega)]) (by omega) y ⟨f1, f2, by simpa using f3⟩
      refine ⟨y', ?_, k2, k3, ?_⟩
      · dsimp only
        unfold L_Mo_stand_y122 L_Mo_stand_l140
        rw [if_pos (by omega), ck_pos ⟨by omega, by omega⟩, tn_i, y48, w32_s (x := 20 * (t : Int)) (by omega) (by omega), lt_e, show (20 * (t : Int)) = ((20 * t + 0 : Nat) : Int) by omega, k1, lb_e, u2_q, w32_i (show i < 2147483647 by omega)]
      · have e : K.take (i + 1) = K.take i ++ [t] := by
          rw [List.take_succ, ht, List.getD_eq_getElem?_getD, List.getElem?_eq_getElem (show i < K.length by omega)]; rfl
        have er : rul dB t = (List.range c).map (fun i => 20 * t + i) := by unfold rul; rw [hcn, tn_i]
        rw [e, List.flatMap_append, ← hO, List.flatMap_singleton, er]
        exact k4)
    (by
      rintro y _
      dsimp only
      unfold L_Mo_stand_y122
      rw [if_neg (by omega)]) (by omega) (up2 x 0 68 0) ⟨fun k h1 _ => up2_K _ _ _ h1, fun j hj => up2_j _ _ _ hj, ⟨by rw [up2_s]; rfl, fun m hm => absurd hm (by simp)⟩⟩
  rw [← hrl] at e4
  refine ⟨x', ?_, e2, e3, e4⟩
  unfold L_Mo_stand_l122
  exact e1
