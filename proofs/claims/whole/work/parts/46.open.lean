/-! more words -/
theorem lk_22 : (Jvm.Cond.classLink "PollBooksLaw" (7 : Nat) "PollBooks") ∈ lw_ok := in_t1 (List.mem_of_getElem? (i := 22) (by rfl)) rfl
theorem lk_23 : (Jvm.Cond.instantiable "PollBooks" (13 : Nat)) ∈ lw_ok := in_t1 (List.mem_of_getElem? (i := 23) (by rfl)) rfl
theorem lk_24 : (Jvm.Cond.methodLink "PollBooksLaw" (9 : Nat) ({ cls := "PollBooks", name := "<init>", desc := "()V" } : Jvm.MethodName)) ∈ lw_ok := in_t1 (List.mem_of_getElem? (i := 24) (by rfl)) rfl
theorem lk_25 : (Jvm.Cond.instanceMethod ({ cls := "PollBooks", name := "<init>", desc := "()V" } : Jvm.MethodName)) ∈ lw_ok := in_t1 (List.mem_of_getElem? (i := 25) (by rfl)) rfl
theorem lk_1396 : (Jvm.Cond.classLink "PollBooksLaw" (10 : Nat) "PollBooksModel") ∈ lw_ok := in_t6 (List.mem_of_getElem? (i := 196) (by rfl)) rfl
theorem lk_1397 : (Jvm.Cond.instantiable "PollBooksModel" (109 : Nat)) ∈ lw_ok := in_t6 (List.mem_of_getElem? (i := 197) (by rfl)) rfl
theorem lk_1398 : (Jvm.Cond.methodLink "PollBooksLaw" (12 : Nat) ({ cls := "PollBooksModel", name := "<init>", desc := "()V" } : Jvm.MethodName)) ∈ lw_ok := in_t6 (List.mem_of_getElem? (i := 198) (by rfl)) rfl
theorem lk_1399 : (Jvm.Cond.instanceMethod ({ cls := "PollBooksModel", name := "<init>", desc := "()V" } : Jvm.MethodName)) ∈ lw_ok := in_t6 (List.mem_of_getElem? (i := 199) (by rfl)) rfl
/-! the data at the start -/
def CK (wd : Nat) (d : Dt) : Prop := ∀ k j, cnk (cd wd k) j (d k j)
theorem ck_up {wd : Nat} {d : Dt} {k j : Nat} {v : Int} (h : CK wd d) (hv : cnk (cd wd k) j v) : CK wd (up2 d k j v) := by
  intro k' j'
  unfold up2
  by_cases h1 : k' = k
  · subst h1
    rw [if_pos rfl]
    by_cases h2 : j' = j
    · subst h2; simp only [if_true]; exact hv
    · simp only [h2, if_false]; exact h k' j'
  · rw [if_neg h1]; exact h k' j'
theorem ck_fill {wd : Nat} {d : Dt} {k n N : Nat} {v : Int} (h : CK wd d) (hcd : cd wd k = (20, N)) (hv : c32 v) : CK wd (fun q => if q = k then (fun j => if j < n then v else d k j) else d q) := by
  intro k' j'
  by_cases h1 : k' = k
  · subst h1
    show cnk (cd wd k') j' ((if k' = k' then (fun j => if j < n then v else d k' j) else d k') j')
    rw [if_pos rfl]
    by_cases h2 : j' < n
    · rw [if_pos h2, hcd]; exact hv
    · rw [if_neg h2]; exact h k' j'
  · show cnk (cd wd k') j' ((if k' = k then (fun j => if j < n then v else d k j) else d k') j')
    rw [if_neg h1]; exact h k' j'
theorem ck_dz {wd : Nat} : CK wd (fun k j => dzv wd k j) := by
  intro k j
  show cnk (cd wd k) j (dzv wd k j)
  have hcb : cb 0 := Or.inl rfl
  have h32 : c32 0 := cK rfl
  have h64 : c64 0 := cL rfl
  have hd : isRf wd k j = true ∨ dzv wd k j = 0 := by
    by_cases h : isRf wd k j = true
    · exact Or.inl h
    · right; unfold dzv; rw [if_neg h]
  unfold cnk
  rcases hd with h | h
  · unfold isRf at h
    split
    all_goals first | trivial | skip
    · rename_i e; rw [e] at h; exact absurd h (by simp)
    · rename_i e; rw [e] at h; exact absurd h (by simp)
    · rename_i e; rw [e] at h; exact absurd h (by simp)
    · rename_i e; rw [e] at h; exact absurd h (by simp)
    · by_cases hc : (cd wd k).1 < 20
      · rw [if_pos hc, decide_eq_true_eq] at h
        split
        · rename_i e; rw [e] at h; exact absurd h (by decide)
        · rename_i e; rw [e] at h; exact absurd h (by decide)
        · rename_i e; rw [e] at h; exact absurd h (by decide)
        · trivial
      · split
        · rename_i e; unfold ft at e; split at e <;> first | omega | skip
          all_goals (unfold dzv; split; all_goals (unfold c32; decide))
        · unfold dzv; split; all_goals (unfold c64; decide)
        · rename_i e; exfalso; unfold ft at e; split at e <;> first | omega | cases e
        · trivial
  · rw [h]
    split
    · exact h32
    · exact h64
    · decide
    · exact hcb
    · trivial
    · split
      · exact h32
      · exact h64
      · exact hcb
      · trivial
theorem ck_St_init (b : Nat) (hb : cd 0 b = (9, 10)) {d : Dt} (h : CK 0 d) : CK 0 (mk_St_init b d) := by
  unfold mk_St_init
  refine ck_up ?_ (by rw [hb]; trivial)
  refine ck_up ?_ (by rw [hb]; trivial)
  refine ck_up ?_ (by rw [hb]; trivial)
  refine ck_up ?_ (by rw [hb]; trivial)
  refine ck_up ?_ (by rw [hb]; trivial)
  refine ck_up ?_ (by rw [hb]; trivial)
  exact h
theorem ck_Pe_init {d : Dt} (h : CK 0 d) : CK 0 (mk_Pe_init d) := by
  unfold mk_Pe_init
  refine ck_up ?_ trivial
  refine ck_up ?_ trivial
  refine ck_up ?_ trivial
  exact h
theorem ck_Re_init {d : Dt} (h : CK 0 d) : CK 0 (mk_Re_init d) := by
  unfold mk_Re_init
  refine ck_up ?_ trivial
  refine ck_up ?_ trivial
  refine ck_up ?_ trivial
  refine ck_up ?_ trivial
  refine ck_up ?_ trivial
  refine ck_up ?_ trivial
  refine ck_up ?_ trivial
  refine ck_up ?_ trivial
  refine ck_up ?_ trivial
  refine ck_up ?_ trivial
  refine ck_up ?_ trivial
  refine ck_up ?_ trivial
  refine ck_up ?_ trivial
  refine ck_up ?_ trivial
  refine ck_up ?_ (cK rfl : c32 _)
  exact h
theorem ck_La_init {d : Dt} (h : CK 0 d) : CK 0 (mk_La_init d) := by
  unfold mk_La_init
  refine ck_up ?_ trivial
  refine ck_up ?_ trivial
  refine ck_up ?_ trivial
  refine ck_up ?_ (cK rfl : c32 _)
  refine ck_up ?_ (cK rfl : c32 _)
  refine ck_up ?_ trivial
  refine ck_up ?_ trivial
  refine ck_up ?_ trivial
  refine ck_up ?_ trivial
  exact h
theorem ck_Bo_init {d : Dt} (h : CK 0 d) : CK 0 (mk_Bo_init d) := by
  unfold mk_Bo_init
  refine ck_up ?_ trivial
  refine ck_up ?_ (show cb _ by unfold cb; decide)
  refine ck_up ?_ trivial
  refine ck_up ?_ trivial
  refine ck_up ?_ trivial
  refine ck_up ?_ trivial
  refine ck_up ?_ trivial
  refine ck_up ?_ trivial
  refine ck_up ?_ trivial
  refine ck_up ?_ trivial
  refine ck_up ?_ trivial
  refine ck_up ?_ trivial
  exact h
theorem ck_Po_init {d : Dt} (h : CK 0 d) : CK 0 (mk_Po_init d) := by
  unfold mk_Po_init
  refine ck_up ?_ trivial
  refine ck_up ?_ trivial
  refine ck_up ?_ trivial
  refine ck_up ?_ trivial
  refine ck_up ?_ trivial
  refine ck_up ?_ trivial
  refine ck_up ?_ trivial
  refine ck_up ?_ trivial
  refine ck_up ?_ trivial
  refine ck_up ?_ trivial
  refine ck_up ?_ trivial
  refine ck_up ?_ (cK rfl : c32 _)
  exact h
theorem ck_Gr_init {d : Dt} (h : CK 0 d) : CK 0 (mk_Gr_init d) := by
  unfold mk_Gr_init
  refine ck_up ?_ trivial
  refine ck_up ?_ trivial
  refine ck_up ?_ trivial
  refine ck_up ?_ trivial
  refine ck_up ?_ trivial
  refine ck_up ?_ trivial
  refine ck_up ?_ trivial
  exact h
theorem ck_Ju_init {d : Dt} (h : CK 0 d) : CK 0 (mk_Ju_init d) := by
  unfold mk_Ju_init
  refine ck_up ?_ trivial
  refine ck_up ?_ trivial
  refine ck_up ?_ trivial
  refine ck_up ?_ trivial
  refine ck_up ?_ trivial
  refine ck_up ?_ trivial
  exact h
theorem ck_Pa_init {d : Dt} (h : CK 0 d) : CK 0 (mk_Pa_init d) := by
  unfold mk_Pa_init
  refine ck_up ?_ (cK rfl : c32 _)
  refine ck_up ?_ (cK rfl : c32 _)
  refine ck_up ?_ trivial
  refine ck_St_init 79 cd_S79 ?_
  refine ck_up ?_ trivial
  refine ck_up ?_ trivial
  refine ck_up ?_ trivial
  refine ck_up ?_ trivial
  exact h
theorem ck_Mo_init {d : Dt} (h : CK 1 d) : CK 1 (mk_Mo_init d) := by
  unfold mk_Mo_init
  refine ck_up ?_ (cK rfl : c32 _)
  refine ck_up ?_ trivial
  refine ck_up ?_ trivial
  refine ck_up ?_ trivial
  refine ck_up ?_ trivial
  refine ck_up ?_ trivial
  refine ck_up ?_ trivial
  refine ck_up ?_ (cK rfl : c32 _)
  refine ck_up ?_ (cK rfl : c32 _)
  refine ck_up ?_ (cK rfl : c32 _)
  refine ck_up ?_ (cK rfl : c32 _)
  refine ck_up ?_ (cK rfl : c32 _)
  refine ck_up ?_ (cK rfl : c32 _)
  refine ck_up ?_ (cK rfl : c32 _)
  refine ck_up ?_ (cK rfl : c32 _)
  refine ck_up ?_ (cK rfl : c32 _)
  refine ck_up ?_ (cK rfl : c32 _)
  refine ck_up ?_ (cK rfl : c32 _)
  refine ck_up ?_ (cK rfl : c32 _)
  refine ck_up ?_ (cK rfl : c32 _)
  refine ck_up ?_ (cK rfl : c32 _)
  refine ck_up ?_ (cK rfl : c32 _)
  refine ck_up ?_ (cK rfl : c32 _)
  refine ck_up ?_ (cK rfl : c32 _)
  refine ck_up ?_ (cK rfl : c32 _)
  refine ck_up ?_ (cK rfl : c32 _)
  refine ck_up ?_ (cK rfl : c32 _)
  refine ck_up ?_ (cK rfl : c32 _)
  refine ck_up ?_ (cK rfl : c32 _)
  refine ck_up ?_ (cK rfl : c32 _)
  refine ck_up ?_ (cK rfl : c32 _)
  refine ck_up ?_ (cK rfl : c32 _)
  refine ck_up ?_ (cK rfl : c32 _)
  refine ck_up ?_ (cK rfl : c32 _)
  refine ck_up ?_ (cK rfl : c32 _)
  refine ck_up ?_ (cK rfl : c32 _)
  refine ck_up ?_ (cK rfl : c32 _)
  refine ck_up ?_ (cK rfl : c32 _)
  refine ck_up ?_ (cK rfl : c32 _)
  refine ck_up ?_ (cK rfl : c32 _)
  refine ck_up ?_ (cK rfl : c32 _)
  refine ck_up ?_ (cK rfl : c32 _)
  refine ck_up ?_ (cK rfl : c32 _)
  refine ck_up ?_ (cK rfl : c32 _)
  refine ck_up ?_ (cK rfl : c32 _)
  refine ck_up ?_ (cK rfl : c32 _)
  refine ck_up ?_ (cK rfl : c32 _)
  refine ck_up ?_ (cK rfl : c32 _)
  refine ck_up ?_ (cK rfl : c32 _)
  refine ck_up ?_ (cK rfl : c32 _)
  refine ck_up ?_ (cK rfl : c32 _)
  refine ck_up ?_ (cK rfl : c32 _)
  refine ck_up ?_ (cK rfl : c32 _)
  refine ck_up ?_ (cK rfl : c32 _)
  refine ck_up ?_ (cK rfl : c32 _)
  refine ck_up ?_ (cK rfl : c32 _)
  refine ck_up ?_ trivial
  refine ck_up ?_ trivial
  refine ck_up ?_ trivial
  refine ck_up ?_ trivial
  refine ck_up ?_ trivial
  refine ck_up ?_ trivial
  refine ck_up ?_ trivial
  refine ck_up ?_ trivial
  refine ck_up ?_ trivial
  refine ck_up ?_ trivial
  refine ck_up ?_ trivial
  refine ck_up ?_ trivial
  refine ck_up ?_ trivial
  refine ck_up ?_ trivial
  refine ck_up ?_ trivial
  refine ck_up ?_ trivial
  refine ck_up ?_ (cK rfl : c32 _)
  refine ck_up ?_ trivial
  refine ck_up ?_ trivial
  refine ck_up ?_ trivial
  refine ck_up ?_ trivial
  refine ck_up ?_ trivial
  refine ck_up ?_ trivial
  refine ck_up ?_ trivial
  refine ck_up ?_ trivial
  refine ck_up ?_ trivial
  refine ck_up ?_ trivial
  refine ck_up ?_ trivial
  refine ck_up ?_ trivial
  refine ck_up ?_ trivial
  refine ck_up ?_ trivial
  refine ck_up ?_ trivial
  refine ck_up ?_ trivial
  refine ck_up ?_ trivial
  refine ck_up ?_ trivial
  refine ck_up ?_ trivial
  refine ck_up ?_ trivial
  refine ck_up ?_ trivial
  refine ck_up ?_ trivial
  refine ck_up ?_ trivial
  refine ck_up ?_ trivial
  refine ck_up ?_ trivial
  refine ck_up ?_ trivial
  refine ck_up ?_ trivial
  refine ck_up ?_ trivial
  refine ck_up ?_ trivial
  refine ck_up ?_ trivial
  refine ck_up ?_ trivial
  refine ck_up ?_ trivial
  refine ck_up ?_ trivial
  refine ck_up ?_ (cK rfl : c32 _)
  refine ck_up ?_ (cK rfl : c32 _)
  refine ck_up ?_ trivial
  refine ck_up ?_ trivial
  refine ck_up ?_ trivial
  refine ck_up ?_ trivial
  refine ck_up ?_ trivial
  refine ck_up ?_ trivial
  refine ck_up ?_ trivial
  refine ck_up ?_ trivial
  refine ck_up ?_ trivial
  refine ck_up ?_ trivial
  refine ck_up ?_ trivial
  refine ck_up ?_ trivial
  refine ck_up ?_ trivial
  refine ck_up ?_ trivial
  refine ck_up ?_ trivial
  refine ck_up ?_ trivial
  refine ck_up ?_ trivial
  refine ck_up ?_ trivial
  refine ck_up ?_ trivial
  refine ck_up ?_ (cK rfl : c32 _)
  refine ck_up ?_ trivial
  refine ck_up ?_ trivial
  refine ck_up ?_ trivial
  refine ck_up ?_ trivial
  refine ck_up ?_ trivial
  refine ck_up ?_ (cK rfl : c32 _)
  refine ck_up ?_ (cK rfl : c32 _)
  refine ck_up ?_ (cK rfl : c32 _)
  refine ck_up ?_ (cK rfl : c32 _)
  refine ck_up ?_ trivial
  exact h
theorem ck_Tr_init {d : Dt} (h : CK 0 d) : CK 0 (mk_Tr_init d) := by
  unfold mk_Tr_init
  refine ck_fill ?_ cd_A6 (cK rfl)
  refine ck_up ?_ trivial
  refine ck_up ?_ trivial
  refine ck_up ?_ trivial
  exact h
theorem ck_Ro_init {d : Dt} (h : CK 0 d) : CK 0 (mk_Ro_init d) := by
  unfold mk_Ro_init
  refine ck_fill ?_ cd_A72 (cK rfl)
  refine ck_up ?_ (cK rfl : c32 _)
  refine ck_up ?_ trivial
  refine ck_up ?_ trivial
  refine ck_up ?_ trivial
  refine ck_up ?_ trivial
  refine ck_up ?_ trivial
  refine ck_up ?_ trivial
  refine ck_up ?_ trivial
  exact h
theorem ck_PB_init {d : Dt} (h : CK 0 d) : CK 0 (mk_PB_init d) := by
  unfold mk_PB_init
  refine ck_up ?_ trivial
  refine ck_up ?_ trivial
  refine ck_up ?_ trivial
  refine ck_Ro_init  ?_
  refine ck_up ?_ trivial
  refine ck_Ju_init  ?_
  refine ck_up ?_ trivial
  refine ck_Gr_init  ?_
  refine ck_up ?_ trivial
  refine ck_Po_init  ?_
  refine ck_up ?_ trivial
  refine ck_Bo_init  ?_
  refine ck_up ?_ trivial
  refine ck_La_init  ?_
  refine ck_up ?_ trivial
  refine ck_Pa_init  ?_
  refine ck_up ?_ trivial
  refine ck_Re_init  ?_
  refine ck_up ?_ trivial
  refine ck_Pe_init  ?_
  refine ck_up ?_ trivial
  refine ck_Tr_init  ?_
  refine ck_up ?_ (cK rfl : c32 _)
  exact h
def dA0 : Dt := up2 (mk_PB_init (fun k j => dzv 0 k j)) GH 0 1
def dB0 : Dt := up2 (mk_Mo_init (fun k j => dzv 1 k j)) GH 0 0
theorem two_at {wd1 wd2 : Nat} {cA : Nat → ClassId} {ad bd : Nat → Nat} {d1 d2 : Dt} {k1 k2 j1 j2 : List Nat} (hs1 : ∀ x ∈ j1, x ∈ k1) (hs2 : ∀ x ∈ j2, x ∈ k2) {i : Nat} {q : Nat × va_E} (h : (wq wd1 j1 cA ad d1 ++ wq wd2 j2 cA bd d2)[i]? = some q) : ∃ (n x : Nat), (wq wd1 k1 cA ad d1 ++ wq wd2 k2 cA bd d2)[n]? = some q ∧ (i < j1.length ∧ j1[i]? = some x ∧ n < k1.length ∧ k1[n]? = some x ∨ j1.length ≤ i ∧ j2[i - j1.length]? = some x ∧ k1.length ≤ n ∧ k2[n - k1.length]? = some x) := by
  have l1 : (wq wd1 j1 cA ad d1).length = j1.length := by unfold wq; rw [List.length_map]
  have l2 : (wq wd1 k1 cA ad d1).length = k1.length := by unfold wq; rw [List.length_map]
  by_cases hi : i < j1.length
  · rw [List.getElem?_append_left (by omega)] at h
    unfold wq at h
    rw [List.getElem?_map] at h
    cases hx : j1[i]? with
    | none => rw [hx] at h; cases h
    | some x =>
      rw [hx] at h
      obtain ⟨n, hn⟩ := List.getElem?_of_mem (hs1 x (List.mem_of_getElem? hx))
      have hnl := (List.getElem?_eq_some_iff.mp hn).1
      refine ⟨n, x, ?_, Or.inl ⟨hi, rfl, hnl, hn⟩⟩
      rw [List.getElem?_append_left (by omega), wq_at hn]; exact h
  · rw [List.getElem?_append_right (by omega), l1] at h
    unfold wq at h
    rw [List.getElem?_map] at h
    cases hx : j2[i - j1.length]? with
    | none => rw [hx] at h; cases h
    | some x =>
      rw [hx] at h
      obtain ⟨n, hn⟩ := List.getElem?_of_mem (hs2 x (List.mem_of_getElem? hx))
      refine ⟨k1.length + n, x, ?_, Or.inr ⟨by omega, rfl, by omega, by rw [Nat.add_sub_cancel_left]; exact hn⟩⟩
      rw [List.getElem?_append_right (by omega), l2, Nat.add_sub_cancel_left, wq_at hn]; exact h
theorem two_perm {D : va_G} {wd1 wd2 : Nat} {cA : Nat → ClassId} {ad bd : Nat → Nat} {d1 d2 : Dt} {k1 k2 j1 j2 : List Nat} {A : Nat → Prop} {H : Heap} (hn1 : j1.Nodup) (hs1 : ∀ x ∈ j1, x ∈ k1) (hn2 : j2.Nodup) (hs2 : ∀ x ∈ j2, x ∈ k2) (hP : va_P D classes (wq wd1 k1 cA ad d1 ++ wq wd2 k2 cA bd d2) H) (hD : va_D A (wq wd1 k1 cA ad d1 ++ wq wd2 k2 cA bd d2)) (hk1 : k1.Nodup) (hk2 : k2.Nodup) : va_P D classes (wq wd1 j1 cA ad d1 ++ wq wd2 j2 cA bd d2) H ∧ va_D A (wq wd1 j1 cA ad d1 ++ wq wd2 j2 cA bd d2) := by
  refine ⟨fun i q h => ?_, fun i i' q q' h h' e => ?_, fun i q h => ?_⟩
  · obtain ⟨n, x, hn, -⟩ := two_at hs1 hs2 h
    exact hP n q hn
  · obtain ⟨n, x, hn, hc⟩ := two_at hs1 hs2 h
    obtain ⟨n', x', hn', hc'⟩ := two_at hs1 hs2 h'
    have hnn := hD.1 n n' q q' hn hn' e
    subst hnn
    rcases hc with ⟨a1, a2, a3, a4⟩ | ⟨a1, a2, a3, a4⟩ <;> rcases hc' with ⟨b1, b2, b3, b4⟩ | ⟨b1, b2, b3, b4⟩
    · rw [a4] at b4; cases b4; exact nd_inj hn1 a2 b2
    · omega
    · omega
    · rw [a4] at b4; cases b4
      have := nd_inj hn2 a2 b2
      omega
  · obtain ⟨n, x, hn, -⟩ := two_at hs1 hs2 h
    exact hD.2 n q hn
theorem ft_big : ∀ (c j : Nat), 110 ≤ j → ft c j = 0 := by
  intro c j hj
  unfold ft
  split <;> first | rfl | (rw [List.getD_eq_getElem?_getD, List.getElem?_eq_none (by simp only [List.length_cons, List.length_nil]; omega)]; rfl)
set_option maxRecDepth 1000000 in
theorem rf_A : ∀ k, k < 86 → ∀ j, j < 20 → (cd 0 k).1 < 20 → ft (cd 0 k).1 j = 3 → mk_PB_init (fun k j => dzv 0 k j) k j = ((rf (cd 0 k).1 k j : Nat) : Int) := by decide +kernel
set_option maxRecDepth 1000000 in
theorem rf_A2 : ∀ k, k < 86 → ∀ j, j < 110 → 20 ≤ j → (cd 0 k).1 < 20 → ft (cd 0 k).1 j ≠ 3 := by decide +kernel
set_option maxRecDepth 1000000 in
theorem rf_B0 : ∀ j, j < 110 → ft 12 j = 3 → mk_Mo_init (fun k j => dzv 1 k j) 0 j = ((rf 12 0 j : Nat) : Int) := by decide +kernel
theorem rf_B1 : ∀ k, k < 81 → k ≠ 0 → ¬ (cd 1 k).1 < 20 := by decide +kernel
theorem GH_A : mk_PB_init (fun k j => dzv 0 k j) GH = fun j => dzv 0 GH j := mk_PB_init_out _ _ (by decide)
theorem CN_A0 : CN 0 dA0 := by
  refine ⟨ck_up (ck_PB_init ck_dz) ?_, ?_, ?_⟩
  · have e2 : cd 0 GH = (20, 600) := by decide +kernel
    rw [e2]; exact (cK rfl : c32 1)
  · unfold dA0; rw [up2_s]; decide
  · unfold dA0; rw [up2_s]; decide
theorem CN_B0 : CN 1 dB0 := by
  refine ⟨ck_up (ck_Mo_init ck_dz) ?_, ?_, ?_⟩
  · have e2 : cd 1 GH = (99, 0) := by decide +kernel
    rw [e2]; exact (cK rfl : c32 0)
  · unfold dB0; rw [up2_s]; decide
  · unfold dB0; rw [up2_s]; decide
theorem nA0 : nOf 0 dA0 = 86 := by
  unfold nOf dA0
  rw [if_pos rfl, up2_s]; rfl
theorem wld_A0 {cA : Nat → ClassId} {ad : Nat → Nat} : wld 0 cA ad dA0 = wq 0 (List.range 86) cA ad (mk_PB_init (fun k j => dzv 0 k j)) := by
  rw [wld_wq, nA0]
  refine wq_congr (fun k hk => ?_)
  have hk := List.mem_range.mp hk
  have hG : k ≠ GH := by have : GH = 1000000 := rfl; omega
  funext j
  unfold rfd
  by_cases h : (cd 0 k).1 < 20 ∧ ft (cd 0 k).1 j = 3
  · rw [if_pos h]
    by_cases hj : j < 20
    · exact (rf_A k hk j hj h.1 h.2).symm
    · by_cases hj2 : j < 110
      · exact absurd h.2 (rf_A2 k hk j hj2 (by omega) h.1)
      · have h2 := h.2; rw [ft_big _ j (by omega)] at h2; cases h2
  · rw [if_neg h]
    unfold dA0
    rw [up2_k _ _ _ _ hG]
theorem wld_B0 {cA : Nat → ClassId} {ad : Nat → Nat} : wld 1 cA ad dB0 = wq 1 (List.range 81) cA ad (mk_Mo_init (fun k j => dzv 1 k j)) := by
  rw [wld_wq, show nOf 1 dB0 = 81 from rfl]
  refine wq_congr (fun k hk => ?_)
  have hk := List.mem_range.mp hk
  funext j
  unfold rfd
  by_cases h : (cd 1 k).1 < 20 ∧ ft (cd 1 k).1 j = 3
  · rw [if_pos h]
    by_cases h0 : k = 0
    · subst h0
      by_cases hj : j < 110
      · exact (rf_B0 j hj h.2).symm
      · have h2 := h.2; rw [ft_big _ j (by omega)] at h2; cases h2
    · exact absurd h.1 (rf_B1 k hk h0)
  · rw [if_neg h]
    unfold dB0
    rw [up2_k _ _ _ _ (by have : GH = 1000000 := rfl; omega)]
set_option maxHeartbeats 8000000 in
set_option maxRecDepth 100000 in
/-- the whole out of the pure: a relation that holds at the start and is kept by every call, answers alike -/
theorem whole_open {Rel : Dt → Dt → Prop} (h0 : Rel dA0 dB0) (hsim : Sims Rel) {p : Program} {e : Env} {s : State} {m : MethodId} {below : List Frame} {meth : Method} {c : Code} (l : Launch) {b L : Nat} {xs : Nat → Int32} (hL : L ≤ 3584) (C0 : lw_At p s m meth c b L xs) : W p l e room_1 s m #[Value.ref b] below meth c s.heap [] 0 0 (lw_Z below #[Value.ref b] s) (entryFrame m ([Value.ref b] : List Value).toArray 4) := by
  obtain ⟨hx, hb, hr, hml, hown, hts, hX, hbl, hlocks, hgv⟩ := id C0
  obtain ⟨D, cA, hK, hAO⟩ := start_K hts
  obtain ⟨st0, hSX⟩ := start_X hts hgv
  have C : LC p s m meth c b L xs D cA st0 := ⟨hx, hb, hml, hown, TB_of hts, hK, hAO, hSX, hX, hbl, hL, hr, hlocks⟩
  have hP : va_P D classes [] s.heap := fun k q h => by simp at h
  have hD : va_D (AL s) [] := ⟨fun i j p q h => by simp at h, fun k q h => by simp at h⟩
  have hl := lv_entry ([.ref b]) (n := 4) (Nat.le_of_ble_eq_true rfl)
  rw [lg_entry_eq]
  generalize (lg_sl ([.ref b]) ++ List.replicate (4 - (lg_sl ([.ref b])).length) Slot.unset).toArray = ls at hl ⊢
  have hl : lv_has ls 4 [(0, .ref b)] := hl
  refine l_make C cl11 mw_PB_init (d := fun k j => dzv 0 k j) cd_A0 ⟨by decide, rfl⟩ (fun _ => rfl) (ok_PB_init _ (fun _ _ _ _ => rfl)) (by decide) (by decide +kernel) (ix1 := 7) (ix2 := 9) lk_22 lk_23 lk_1 lk_24 lk_25 rfl ⟨rfl, rfl, Nat.le_of_ble_eq_true rfl, Nat.le_of_ble_eq_true rfl⟩ ⟨Nat.le_of_ble_eq_true rfl, Nat.le_of_ble_eq_true rfl⟩ (by decide +kernel) (by decide +kernel) (by decide +kernel) hl.1 hP hD va_S.rf (fun ad H1 locs1 hag hP1 hD1 hn1 hS1 => ?_)
  refine lv_astore_n (lv' := [(1, .ref (ad 0)), (0, .ref b)]) hx hb (show decode code 7 = .ok (.astore_n 1, 1) by decide +kernel) rfl hl (by decide) rfl (fun ls hl => ?_)
  refine l_make C cl12 mw_Mo_init (d := fun k j => dzv 1 k j) cd_B0 ⟨by decide, rfl⟩ (fun _ => rfl) (ok_Mo_init _ (fun _ _ _ _ => rfl)) (by decide) (by decide +kernel) (ix1 := 10) (ix2 := 12) lk_1396 lk_1397 lk_14 lk_1398 lk_1399 rfl ⟨rfl, rfl, Nat.le_of_ble_eq_true rfl, Nat.le_of_ble_eq_true rfl⟩ ⟨Nat.le_of_ble_eq_true rfl, Nat.le_of_ble_eq_true rfl⟩ (show decode code 8 = .ok (.new 10, 3) by decide +kernel) (by decide +kernel) (by decide +kernel) hl.1 hP1 hD1 hS1 (fun bd H2 locs2 hbg hP2 hD2 hn2 hS2 => ?_)
  refine lv_astore_n (lv' := [(2, .ref (bd 0)), (1, .ref (ad 0)), (0, .ref b)]) hx hb (show decode code 15 = .ok (.astore_n 2, 1) by decide +kernel) rfl hl (by decide) rfl (fun ls hl => ?_)
  refine lv_iconst (v := 0) hx hb (show decode code 16 = .ok (.iconst 0, 1) by decide +kernel) (by decide) ?_
  refine lv_istore_n (lv' := [(3, .int 0), (2, .ref (bd 0)), (1, .ref (ad 0)), (0, .ref b)]) hx hb (show decode code 17 = .ok (.istore_n 3, 1) by decide +kernel) rfl hl (by decide) rfl (fun ls hl => ?_)
  have hgo := law_loop (p := p) (l := l) (e := e) (m := m) (below := below) (meth := meth) (c := c) C hsim (L + 1) 0 dA0 dB0 (by omega) (by omega) h0
  have hW : va_P D classes (WA cA ad bd dA0 dB0) H2 ∧ va_D (AL s) (WA cA ad bd dA0 dB0) := by
    unfold WA
    rw [wld_A0, wld_B0]
    exact two_perm (by decide) (by decide +kernel) (by decide) (by decide +kernel) hP2 hD2 hn1 hn2
  refine hgo ad bd (fun k hk => hag k (by unfold F_PB_init; rw [decide_eq_false_iff_not]; have : GH = 1000000 := rfl; omega) (by have : GH = 1000000 := rfl; omega)) (fun k hk => hbg k (by unfold F_Mo_init; rw [decide_eq_false_iff_not]; have : GH = 1000000 := rfl; omega) (by have : GH = 1000000 := rfl; omega)) ls H2 locs2 (lv_sub hl [3, 2, 1, 0] rfl) hW.1 hW.2 CN_A0 CN_B0 hS2
