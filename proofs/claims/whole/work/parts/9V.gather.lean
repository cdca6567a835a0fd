/-! LAWS: the class gathers the RULES -/
def inF (d : Dt) (place : Nat) (day : Int) (t : Nat) : Bool := decide (d 26 t ≤ day) && decide (bitI (d 27 t) place ≠ 0)
def ordA (d : Dt) : List Nat := ordF (fun _ => true) (d 26) (d 0 41).toNat
def txs (d : Dt) (place : Nat) (day : Int) : List Nat := ordF (inF d place day) (d 26) (d 0 41).toNat
def rul (d : Dt) (t : Nat) : List Nat := (List.range (d 28 t).toNat).map (fun i => 20 * t + i)
def rlL (d : Dt) (place : Nat) (day : Int) : List Nat := (txs d place day).flatMap (rul d)
def stkB (d : Dt) (L : List Nat) (m : Nat) : Bool := (List.range L.length).any (fun j => decide (m < j) && decide (d 36 (L.getD j 0) = d 35 (L.getD m 0)))
theorem stkB_e (d : Dt) (L : List Nat) (m : Nat) : stkB d L m = true ↔ ∃ j, m < j ∧ j < L.length ∧ d 36 (L.getD j 0) = d 35 (L.getD m 0) := by
  unfold stkB
  rw [List.any_eq_true]
  constructor
  · rintro ⟨j, h1, h2⟩
    rw [Bool.and_eq_true, decide_eq_true_eq, decide_eq_true_eq] at h2
    exact ⟨j, h2.1, List.mem_range.mp h1, h2.2⟩
  · rintro ⟨j, h1, h2, h3⟩
    refine ⟨j, List.mem_range.mpr h2, ?_⟩
    rw [Bool.and_eq_true, decide_eq_true_eq, decide_eq_true_eq]
    exact ⟨h1, h3⟩
theorem ord_all_len (dy : Nat → Int) : ∀ k : Nat, (ordF (fun _ => true) dy k).length = k
  | 0 => rfl
  | k + 1 => by
    have ih := ord_all_len dy k
    simp only [ordF, if_true]
    rw [ins_len dy k _ (ord_sorted _ dy k), ih]
theorem getD_app (L K : List Nat) (m : Nat) : (L ++ K).getD m 0 = if m < L.length then L.getD m 0 else K.getD (m - L.length) 0 := by
  rw [List.getD_eq_getElem?_getD, List.getElem?_append]
  by_cases q : m < L.length
  · rw [if_pos q, if_pos q, List.getD_eq_getElem?_getD]
  · rw [if_neg q, if_neg q, List.getD_eq_getElem?_getD]
theorem getD_mem (L : List Nat) (m : Nat) (h : m < L.length) : L.getD m 0 ∈ L := by
  rw [List.getD_eq_getElem?_getD, List.getElem?_eq_getElem h]
  exact List.getElem_mem h
def outF (d : Dt) (P : Nat → Bool) (f : Nat → Nat) : Nat → List Nat
  | 0 => []
  | i + 1 => if P (f i) = true then outF d P f i ++ rul d (f i) else outF d P f i
theorem outF_e (d : Dt) (P : Nat → Bool) (L : List Nat) : ∀ i : Nat, i ≤ L.length → outF d P (fun j => L.getD j 0) i = ((L.take i).filter P).flatMap (rul d)
  | 0, _ => by simp [outF]
  | i + 1, h => by
    have ih := outF_e d P L i (by omega)
    have e : L.take (i + 1) = L.take i ++ [L.getD i 0] := by
      rw [List.take_succ, List.getD_eq_getElem?_getD, List.getElem?_eq_getElem (show i < L.length by omega)]; rfl
    simp only [outF]
    rw [e, List.filter_append, List.flatMap_append, ih]
    by_cases q : P (L.getD i 0) = true
    · rw [if_pos q, List.filter_cons, if_pos q, List.filter_nil]; simp
    · rw [if_neg q, List.filter_cons, if_neg q, List.filter_nil]; simp
theorem rl_out (d : Dt) (place : Nat) (day : Int) : outF d (inF d place day) (fun j => (ordA d).getD j 0) (d 0 41).toNat = rlL d place day := by
  have hl : (ordA d).length = (d 0 41).toNat := ord_all_len _ _
  rw [outF_e d _ (ordA d) _ (by omega), ← hl, List.take_length]
  unfold ordA rlL txs
  rw [ord_filter]
theorem rul_len (d : Dt) (t : Nat) : (rul d t).length = (d 28 t).toNat := by unfold rul; rw [List.length_map, List.length_range]
/-- without what is kept of the last question -/
def RL0 (dA dB : Dt) : Prop := (0 ≤ dB 0 41 ∧ dB 0 41 ≤ 5) ∧ dA GH 0 = dB 0 41 + 1 ∧ dA 25 6 = 79 + 7 * dB 0 41 ∧ dA 30 2 = dB 0 41 ∧ (∀ t : Nat, (t : Int) < dB 0 41 → txR dA dB t) ∧ ∀ i : Nat, (i : Int) < dB 0 41 → dA 31 i = 79 + 7 * (((ordA dB).getD i 0 : Nat) : Int)
def gthR (dA dB : Dt) (place : Nat) (day : Int) : Prop := dA 30 6 = ((rlL dB place day).length : Int) ∧ ∀ m, m < (rlL dB place day).length → dA 32 m = 79 + 7 * (((rlL dB place day).getD m 0 / 20 : Nat) : Int) ∧ dA 33 m = (((rlL dB place day).getD m 0 % 20 : Nat) : Int) ∧ dA 34 m = b2i (stkB dB (rlL dB place day) m)
def RLk (dA dB : Dt) : Prop := dA 30 7 = -1 ∨ ∃ place : Nat, place < 7 ∧ dA 30 7 = (place : Int) ∧ gthR dA dB place (dA 30 8)
def arrA (x : Dt) (L : List Nat) : Prop := x 30 6 = (L.length : Int) ∧ ∀ m, m < L.length → x 32 m = 79 + 7 * ((L.getD m 0 / 20 : Nat) : Int) ∧ x 33 m = ((L.getD m 0 % 20 : Nat) : Int)
theorem arrA_app {x : Dt} {L : List Nat} (h : arrA x L) (t r : Nat) (hr : r < 20) : arrA (up2 (up2 (up2 x 32 L.length (79 + 7 * (t : Int))) 33 L.length (r : Int)) 30 6 ((L.length + 1 : Nat) : Int)) (L ++ [20 * t + r]) := by
  obtain ⟨h1, h2⟩ := h
  refine ⟨?_, ?_⟩
  · rw [up2_s, List.length_append]; rfl
  · intro m hm
    rw [List.length_append] at hm
    have hm' : m < L.length + 1 := hm
    rw [getD_app]
    simp (disch := decide) only [up2_K]
    by_cases q : m < L.length
    · rw [if_pos q, up2_j _ _ _ (by omega), up2_j _ _ _ (by omega)]
      simp (disch := decide) only [up2_K]
      exact h2 m q
    · have e : m = L.length := by omega
      rw [if_neg q, e, up2_s, up2_s, Nat.sub_self]
      show 79 + 7 * (t : Int) = 79 + 7 * (((20 * t + r) / 20 : Nat) : Int) ∧ (r : Int) = (((20 * t + r) % 20 : Nat) : Int)
      rw [show (20 * t + r) / 20 = t by omega, show (20 * t + r) % 20 = r by omega]
      exact ⟨rfl, rfl⟩
theorem stt_t {d : Dt} {T : Int} (hg : d GH 0 = T + 1) (t : Nat) (ht : (t : Int) ≤ T) : stt d (79 + 7 * (t : Int)) := ⟨by omega, by omega, by omega⟩
theorem tn79 (t : Nat) : (79 + 7 * (t : Int)).toNat = 79 + 7 * t := by omega
theorem stt_up {d d' : Dt} {x : Int} (h : stt d x) (hg : d' GH = d GH) : stt d' x := by unfold stt at h ⊢; rw [hg]; exact h
theorem gather_in {d dB : Dt} (p day i : Int) (t : Nat) (O : List Nat) (T : Int) (hg : d GH 0 = T + 1) (ht : (t : Int) ≤ T) (hc : d (79 + 7 * t) 2 = dB 28 t) (hcb : 0 ≤ dB 28 t ∧ dB 28 t ≤ 20) (hO : O.length + 20 ≤ 100) (ha : arrA d O) : ∃ d', L_La_gather_l68 p day i (79 + 7 * (t : Int)) 0 d = some (p, day, i, d') ∧ (∀ k, k ≠ 30 → k ≠ 32 → k ≠ 33 → d' k = d k) ∧ (∀ j, j ≠ 6 → d' 30 j = d 30 j) ∧ arrA d' (O ++ rul dB t) := by
  obtain ⟨c, hcn⟩ : ∃ c : Nat, dB 28 t = (c : Int) := ⟨(dB 28 t).toNat, by omega⟩
  obtain ⟨d', e1, e2, e3, e4⟩ := lp_inv (f := fun q : Int × Int × Int × Int × Int × Dt => L_La_gather_y68 q.1 q.2.1 q.2.2.1 q.2.2.2.1 q.2.2.2.2.1 q.2.2.2.2.2) (fun r x => (p, day, i, 79 + 7 * (t : Int), (r : Int), x)) (fun x => (p, day, i, x))
    (fun r x => (∀ k, k ≠ 30 → k ≠ 32 → k ≠ 33 → x k = d k) ∧ (∀ j, j ≠ 6 → x 30 j = d 30 j) ∧ arrA x (O ++ (List.range r).map (fun i => 20 * t + i))) c
    (by
      rintro r x hr ⟨f1, f2, f3⟩
      have hst : stt x (79 + 7 * (t : Int)) := stt_up (stt_t hg t ht) (f1 GH (by decide) (by decide) (by decide))
      have hlen : (O ++ (List.range r).map (fun i => 20 * t + i)).length = O.length + r := by rw [List.length_append, List.length_map, List.length_range]
      have h6 : x 30 6 = ((O.length + r : Nat) : Int) := by rw [f3.1, hlen]
      have happ := arrA_app f3 t r (by omega)
      rw [hlen] at happ
      refine ⟨up2 (up2 (up2 x 32 (O.length + r) (79 + 7 * (t : Int))) 33 (O.length + r) (r : Int)) 30 6 ((O.length + r + 1 : Nat) : Int), ?_, ?_, ?_, ?_⟩
      · dsimp only
        unfold L_La_gather_y68
        rw [ck_pos hst, tn79, Nat.add_zero, f1 (79 + 7 * t) (by omega) (by omega) (by omega), hc, hcn, if_pos (by omega), h6, if_pos (by omega), ck_pos ⟨by omega, by omega⟩, ck_pos hst, ck_pos ⟨by omega, by omega⟩, tn_i, w32_i (show O.length + r < 2147483647 by omega), w32_i (show r < 2147483647 by omega)]
      · intro k h1 h2 h3
        rw [up2_K _ _ _ h1, up2_K _ _ _ h3, up2_K _ _ _ h2]; exact f1 k h1 h2 h3
      · intro j hj; rw [up2_j _ _ _ hj, up2_K _ _ _ (by decide), up2_K _ _ _ (by decide)]; exact f2 j hj
      · rw [List.range_succ, List.map_append, ← List.append_assoc]; exact happ)
    (by
      rintro x ⟨f1, f2, f3⟩
      have hst : stt x (79 + 7 * (t : Int)) := stt_up (stt_t hg t ht) (f1 GH (by decide) (by decide) (by decide))
      dsimp only
      unfold L_La_gather_y68
      rw [ck_pos hst, tn79, Nat.add_zero, f1 (79 + 7 * t) (by omega) (by omega) (by omega), hc, hcn, if_neg (by omega)]) (by omega) d ⟨fun _ _ _ _ => rfl, fun _ _ => rfl, by simpa using ha⟩
  refine ⟨d', e1, e2, e3, ?_⟩
  unfold rul
  rw [hcn, tn_i]; exact e4
theorem isInForce_e {d dB : Dt} (place t : Nat) (day : Int) (T : Int) (hg : d GH 0 = T + 1) (ht : (t : Int) ≤ T) (h0 : d (79 + 7 * t) 0 = dB 26 t) (h1 : d (79 + 7 * t) 1 = dB 27 t) : L_St_isInForce (79 + 7 * (t : Int)) (place : Int) day d = some (b2i (inF dB place day t), d) := by
  unfold L_St_isInForce inF
  have hst := stt_t hg t ht
  rw [ck_pos hst, ck_pos hst, tn79, Nat.add_zero, h0, h1, show iand (ishr (dB 27 t) (place : Int)) 1 = bitI (dB 27 t) place from rfl]
  by_cases q : day < dB 26 t
  · rw [if_pos q, decide_eq_false (by omega)]; rfl
  · rw [if_neg q, decide_eq_true (by omega)]
    by_cases q2 : bitI (dB 27 t) place = 0
    · rw [if_pos q2, decide_eq_false (fun z => z q2)]; rfl
    · rw [if_neg q2, decide_eq_true q2]; rfl
theorem out_len (dB : Dt) (P : Nat → Bool) (f : Nat → Nat) (h : ∀ t, t < 1000 → 0 ≤ dB 28 t ∧ dB 28 t ≤ 20) : ∀ i : Nat, (∀ j, j < i → f j < 1000) → (outF dB P f i).length ≤ 20 * i
  | 0, _ => by simp [outF]
  | i + 1, hf => by
    have ih := out_len dB P f h i (fun j hj => hf j (by omega))
    have := h (f i) (hf i (by omega))
    simp only [outF]
    by_cases q : P (f i) = true
    · rw [if_pos q, List.length_append, rul_len]; omega
    · rw [if_neg q]; omega
theorem gath_A {d dB : Dt} (hL : RL0 d dB) (place : Nat) (day : Int) (hp : place < 7) (d0 : Dt) (hd0 : ∀ k, k ≠ 30 → d0 k = d k) (h302 : d0 30 2 = d 30 2) (h306 : d0 30 6 = 0) : ∃ d', L_La_gather_l34 (place : Int) day 0 d0 = some d' ∧ (∀ k, k ≠ 30 → k ≠ 32 → k ≠ 33 → d' k = d k) ∧ (∀ j, j ≠ 6 → d' 30 j = d0 30 j) ∧ arrA d' (rlL dB place day) := by
  obtain ⟨hT, hg, h25, h30, htx, h31⟩ := hL
  have hol : (ordA dB).length = (dB 0 41).toNat := ord_all_len _ _
  have ho : ∀ i, i < (dB 0 41).toNat → (ordA dB).getD i 0 < (dB 0 41).toNat := fun i hi => (ord_mem _ _ _ _ (getD_mem (ordA dB) i (by omega))).1
  have hol2 : ∀ i, i ≤ (dB 0 41).toNat → (outF dB (inF dB place day) (fun j => (ordA dB).getD j 0) i).length ≤ 20 * i := by
    intro i
    induction i with
    | zero => intro _; simp [outF]
    | succ i ih =>
      intro hi
      have := ih (by omega)
      have hc := (htx ((ordA dB).getD i 0) (by have := ho i (by omega); omega)).2.2.1
      simp only [outF]
      by_cases q : inF dB place day ((ordA dB).getD i 0) = true
      · rw [if_pos q, List.length_append, rul_len]; omega
      · rw [if_neg q]; omega
  obtain ⟨d', e1, e2, e3, e4⟩ := lp_inv (f := fun q : Int × Int × Int × Dt => L_La_gather_y34 q.1 q.2.1 q.2.2.1 q.2.2.2) (fun i x => ((place : Int), day, (i : Int), x)) (fun x => x)
    (fun i x => (∀ k, k ≠ 30 → k ≠ 32 → k ≠ 33 → x k = d k) ∧ (∀ j, j ≠ 6 → x 30 j = d0 30 j) ∧ arrA x (outF dB (inF dB place day) (fun j => (ordA dB).getD j 0) i)) (dB 0 41).toNat
    (by
      rintro i x hi ⟨f1, f2, f3⟩
      obtain ⟨t, ht⟩ : ∃ t, t = (ordA dB).getD i 0 := ⟨_, rfl⟩
      have htT : t < (dB 0 41).toNat := by rw [ht]; exact ho i hi
      obtain ⟨x1, x2, x3, _⟩ := htx t (by omega)
      have hgx : x GH 0 = dB 0 41 + 1 := by rw [f1 GH (by decide) (by decide) (by decide)]; exact hg
      have hst := stt_t hgx t (by omega)
      have x31 : x 31 i = 79 + 7 * (t : Int) := by rw [f1 31 (by decide) (by decide) (by decide), h31 i (by omega), ht]
      have xb : x (79 + 7 * t) = d (79 + 7 * t) := f1 _ (by omega) (by omega) (by omega)
      dsimp only
      unfold L_La_gather_y34 L_La_gather_b125
      rw [f2 2 (by decide), h302, h30, if_pos (by omega), ck_pos ⟨by omega, by omega⟩, tn_i, x31, if_neg (by omega), ck_pos hst, isInForce_e (dB := dB) place t day (dB 0 41) hgx (by omega) (by rw [xb]; exact x1.1) (by rw [xb]; exact x2.1), bd_e, w32_i (show i < 2147483647 by omega)]
      simp only [outF]
      rw [← ht]
      by_cases q : inF dB place day t = true
      · obtain ⟨x', g1, g2, g3, g4⟩ := gather_in (d := x) (dB := dB) (place : Int) day (i : Int) t _ (dB 0 41) hgx (by omega) (by rw [xb]; exact x3.1) x3.2 (by have := hol2 i (by omega); omega) f3
        rw [q, if_neg (by decide), g1, lb_e, u3_q, if_pos rfl, w32_i (show i < 2147483647 by omega)]
        exact ⟨x', rfl, fun k h1 h2 h3 => by rw [g2 k h1 h2 h3]; exact f1 k h1 h2 h3, fun j hj => by rw [g3 j hj]; exact f2 j hj, g4⟩
      · have qf : inF dB place day t = false := by
          cases hc : inF dB place day t
          · rfl
          · exact absurd hc q
        rw [qf, if_pos (by decide), if_neg (by decide)]
        exact ⟨x, rfl, f1, f2, f3⟩)
    (by
      rintro x ⟨f1, f2, f3⟩
      dsimp only
      unfold L_La_gather_y34
      rw [f2 2 (by decide), h302, h30, if_neg (by omega)]) (by omega) d0 ⟨fun k h1 _ _ => hd0 k h1, fun _ _ => rfl, ⟨by rw [h306]; rfl, fun m hm => absurd hm (by simp [outF])⟩⟩
  rw [rl_out] at e4
  exact ⟨d', e1, e2, e3, e4⟩
