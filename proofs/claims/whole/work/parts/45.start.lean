/-! the start: classes, arrays, the static words and texts -/
theorem arr_of {args : Array Value} {s : State} {ty : FieldType} (h : (Cond.arrayClass ty).before args s = true) : ∃ cA : ClassId, ArrOfT s cA ty ∧ s.vm.findClass ("[" ++ ty.toString) = some cA := by
  obtain ⟨cA, kA, comp, hname, hkA, hkind⟩ := Cond.arrayClass_spec h
  exact ⟨cA, fun n z => ⟨fun k h => (by cases h), kA, hkA, comp, hkind⟩, hname⟩
theorem TB_of {args : Array Value} {s : State} (h : ∀ w ∈ lw_tbl, w.before args s = true) : TB s := by
  intro w hw
  have h1 := h w (List.mem_filter.mp hw).1
  have h2 := (List.mem_filter.mp hw).2
  cases w <;> first | exact va_Nw.of rfl h1 | exact h1 | (exfalso; revert h2; simp [okw, goodWord, nest, Cond.onTables]; done)
theorem mem_tbl {w : Cond} (i : Nat) (h : lw_tbl[i]? = some w) : w ∈ lw_tbl := List.mem_of_getElem? h
set_option maxHeartbeats 8000000 in
set_option maxRecDepth 100000 in
theorem start_K {args : Array Value} {s : State} (hts : ∀ w ∈ lw_tbl, w.before args s = true) : ∃ (D : va_G) (cA : Nat → ClassId), va_K D classes (tysOf cA) s ∧ va_AO "PollBooks$Statute" s := by
  have hok : ∀ w ∈ lw_ok, w.before args s = true := fun w hw => hts w (List.mem_filter.mp hw).1
  have hAO : va_AO "PollBooks$Statute" s := va_AO.of (hts _ (mem_tbl 343 (by decide +kernel)))
  obtain ⟨c0, i0, k0⟩ := u_known (C := R0) (T := T0) (N := 12) (n := 12) hok cl0.1 (hts _ (mem_tbl 380 (by decide +kernel)))
  obtain ⟨c1, i1, k1⟩ := u_known (C := R1) (T := T1) (N := 11) (n := 11) hok cl1.1 (hts _ (mem_tbl 475 (by decide +kernel)))
  obtain ⟨c2, i2, k2⟩ := u_known (C := R2) (T := T2) (N := 8) (n := 8) hok cl2.1 (hts _ (mem_tbl 515 (by decide +kernel)))
  obtain ⟨c3, i3, k3⟩ := u_known (C := R3) (T := T3) (N := 11) (n := 11) hok cl3.1 (hts _ (mem_tbl 337 (by decide +kernel)))
  obtain ⟨c4, i4, k4⟩ := u_known (C := R4) (T := T4) (N := 9) (n := 9) hok cl4.1 (hts _ (mem_tbl 253 (by decide +kernel)))
  obtain ⟨c5, i5, k5⟩ := u_known (C := R5) (T := T5) (N := 4) (n := 4) hok cl5.1 (hts _ (mem_tbl 165 (by decide +kernel)))
  obtain ⟨c6, i6, k6⟩ := u_known (C := R6) (T := T6) (N := 13) (n := 13) hok cl6.1 (hts _ (mem_tbl 427 (by decide +kernel)))
  obtain ⟨c7, i7, k7⟩ := u_known (C := R7) (T := T7) (N := 19) (n := 19) hok cl7.1 (hts _ (mem_tbl 189 (by decide +kernel)))
  obtain ⟨c8, i8, k8⟩ := u_known (C := R8) (T := T8) (N := 9) (n := 9) hok cl8.1 (hts _ (mem_tbl 546 (by decide +kernel)))
  obtain ⟨c9, i9, k9⟩ := u_known (C := R9) (T := T9) (N := 10) (n := 10) hok cl9.1 (hts _ (mem_tbl 259 (by decide +kernel)))
  obtain ⟨c10, i10, k10⟩ := u_known (C := R10) (T := T10) (N := 3) (n := 3) hok cl10.1 (hts _ (mem_tbl 144 (by decide +kernel)))
  obtain ⟨c11, i11, k11⟩ := u_known (C := R11) (T := T11) (N := 13) (n := 13) hok cl11.1 (hts _ (mem_tbl 136 (by decide +kernel)))
  obtain ⟨c12, i12, k12⟩ := u_known (C := R12) (T := T12) (N := 109) (n := 109) hok cl12.1 (hts _ (mem_tbl 1510 (by decide +kernel)))
  obtain ⟨a0, b0, e0⟩ := arr_of (ty := .int) (hts _ (mem_tbl 163 (by decide +kernel)))
  obtain ⟨a1, b1, e1⟩ := arr_of (ty := .long) (hts _ (mem_tbl 162 (by decide +kernel)))
  obtain ⟨a2, b2, e2⟩ := arr_of (ty := .byte) (hts _ (mem_tbl 307 (by decide +kernel)))
  obtain ⟨a3, b3, e3⟩ := arr_of (ty := .boolean) (hts _ (mem_tbl 378 (by decide +kernel)))
  obtain ⟨comp, a4, kk, f1, -, f3, f4, f5⟩ := Cond.arrayOver_spec hAO
  refine ⟨(fun k => ([c0, c1, c2, c3, c4, c5, c6, c7, c8, c9, c10, c11, c12] : List ClassId).getD k c0, fun k => ([i0, i1, i2, i3, i4, i5, i6, i7, i8, i9, i10, i11, i12] : List (Nat → Nat)).getD k i0), fun k => ([a0, a1, a2, a3, a4] : List ClassId).getD k a0, ⟨?_, ?_⟩, hAO⟩
  · intro k q hq
    match k, hq with
    | 0, hq => cases hq; exact k0
    | 1, hq => cases hq; exact k1
    | 2, hq => cases hq; exact k2
    | 3, hq => cases hq; exact k3
    | 4, hq => cases hq; exact k4
    | 5, hq => cases hq; exact k5
    | 6, hq => cases hq; exact k6
    | 7, hq => cases hq; exact k7
    | 8, hq => cases hq; exact k8
    | 9, hq => cases hq; exact k9
    | 10, hq => cases hq; exact k10
    | 11, hq => cases hq; exact k11
    | 12, hq => cases hq; exact k12
    | k + 13, hq => simp [classes] at hq
  · intro k q hq
    match k, hq with
    | 0, hq => cases hq; exact ⟨b0, e0⟩
    | 1, hq => cases hq; exact ⟨b1, e1⟩
    | 2, hq => cases hq; exact ⟨b2, e2⟩
    | 3, hq => cases hq; exact ⟨b3, e3⟩
    | 4, hq => cases hq; exact ⟨fun n z => ⟨fun k h => (by cases h), kk, f3, comp, f4⟩, ⟨kk, comp, f3, f4, f1, f5⟩⟩
    | k + 5, hq => simp [tysOf] at hq
def txt : List (List Int32) := [[32, 115, 116, 114, 105, 107, 101, 115, 32, 109, 97, 121, 32, 98, 97, 114, 32, 118, 111, 105, 100, 32, 110, 97, 109, 101, 115, 32, 104, 111, 117, 114, 115, 32, 117, 110, 108, 101, 115, 115, 32, 116, 111, 32, 111, 114, 32, 97, 110, 100, 32, 110, 111, 116, 32], [32, 108, 97, 110, 100, 32, 112, 108, 111, 116, 115, 32, 104, 101, 108, 100, 32, 115, 112, 108, 105, 116, 32, 116, 114, 97, 100, 101, 32, 104, 111, 109, 101, 32, 112, 97, 105, 100, 32, 109, 105, 110, 117, 116, 101, 32, 100, 97, 121, 32]]
set_option maxRecDepth 100000 in
theorem tx0 : ∀ j : Nat, j < 55 → Cond.eq (.elem (.field (.string "PollBooksModel" 408) "java/lang/String" "value" "[B") (.int (Int32.ofNat j))) (.int ((txt.getD 0 []).getD j 0)) ∈ flatC (Jvm.Cond.and given_1 narrow_1) := by decide +kernel
set_option maxRecDepth 100000 in
theorem tx1 : ∀ j : Nat, j < 50 → Cond.eq (.elem (.field (.string "PollBooksModel" 429) "java/lang/String" "value" "[B") (.int (Int32.ofNat j))) (.int ((txt.getD 1 []).getD j 0)) ∈ flatC (Jvm.Cond.and given_1 narrow_1) := by decide +kernel
set_option maxHeartbeats 8000000 in
set_option maxRecDepth 100000 in
theorem start_X {b : Nat} {s : State} (hts : ∀ w ∈ lw_tbl, w.before #[Value.ref b] s = true) (hgv : (Jvm.Cond.and given_1 narrow_1).before #[Value.ref b] s = true) : ∃ st0 : Nat → Nat, SX st0 (AL s) s := by
  have hs := flat_of_before _ hgv
  have hA : ∀ a : Nat, a < s.heap.size → ¬ AL s a := fun a h => Nat.not_le.mpr h
  obtain ⟨t1, g1, T1'⟩ := va_Tof (A := AL s) (N := 11) (ty := .long) (tm := (.static "PollBooks$Parser" "KEYWORDS" "[J")) (f := fun j => .long (Int64.ofInt (kw 1000001 j))) (by decide) (hs (Cond.arrayOf (.static "PollBooks$Parser" "KEYWORDS" "[J") .long) (by decide +kernel)) (va_eqt (hs (Cond.eq (.length (.static "PollBooks$Parser" "KEYWORDS" "[J")) (.int 11)) (by decide +kernel))) (fun j hj => by
    match j, hj with
    | 0, _ => exact va_eqtl (z := 21091364019) (hs (Cond.eq (.elem (.static "PollBooks$Parser" "KEYWORDS" "[J") (.int 0)) (.long 21091364019)) (by decide +kernel))
    | 1, _ => exact va_eqtl (z := 13369) (hs (Cond.eq (.elem (.static "PollBooks$Parser" "KEYWORDS" "[J") (.int 1)) (.long 13369)) (by decide +kernel))
    | 2, _ => exact va_eqtl (z := 719722099) (hs (Cond.eq (.elem (.static "PollBooks$Parser" "KEYWORDS" "[J") (.int 2)) (.long 719722099)) (by decide +kernel))
    | 3, _ => exact va_eqtl (z := 2098) (hs (Cond.eq (.elem (.static "PollBooks$Parser" "KEYWORDS" "[J") (.int 3)) (.long 2098)) (by decide +kernel))
    | 4, _ => exact va_eqtl (z := 736548) (hs (Cond.eq (.elem (.static "PollBooks$Parser" "KEYWORDS" "[J") (.int 4)) (.long 736548)) (by decide +kernel))
    | 5, _ => exact va_eqtl (z := 14726323) (hs (Cond.eq (.elem (.static "PollBooks$Parser" "KEYWORDS" "[J") (.int 5)) (.long 14726323)) (by decide +kernel))
    | 6, _ => exact va_eqtl (z := 8902227) (hs (Cond.eq (.elem (.static "PollBooks$Parser" "KEYWORDS" "[J") (.int 6)) (.long 8902227)) (by decide +kernel))
    | 7, _ => exact va_eqtl (z := 655) (hs (Cond.eq (.elem (.static "PollBooks$Parser" "KEYWORDS" "[J") (.int 7)) (.long 655)) (by decide +kernel))
    | 8, _ => exact va_eqtl (z := 498) (hs (Cond.eq (.elem (.static "PollBooks$Parser" "KEYWORDS" "[J") (.int 8)) (.long 498)) (by decide +kernel))
    | 9, _ => exact va_eqtl (z := 1476) (hs (Cond.eq (.elem (.static "PollBooks$Parser" "KEYWORDS" "[J") (.int 9)) (.long 1476)) (by decide +kernel))
    | 10, _ => exact va_eqtl (z := 14836) (hs (Cond.eq (.elem (.static "PollBooks$Parser" "KEYWORDS" "[J") (.int 10)) (.long 14836)) (by decide +kernel))
    | j + 11, h => exact absurd h (by omega)) hA
  obtain ⟨t2, g2, T2'⟩ := va_Tof (A := AL s) (N := 9) (ty := .long) (tm := (.static "PollBooks$Parser" "VARIABLES" "[J")) (f := fun j => .long (Int64.ofInt (kw 1000002 j))) (by decide) (hs (Cond.arrayOf (.static "PollBooks$Parser" "VARIABLES" "[J") .long) (by decide +kernel)) (va_eqt (hs (Cond.eq (.length (.static "PollBooks$Parser" "VARIABLES" "[J")) (.int 9)) (by decide +kernel))) (fun j hj => by
    match j, hj with
    | 0, _ => exact va_eqtl (z := 394692) (hs (Cond.eq (.elem (.static "PollBooks$Parser" "VARIABLES" "[J") (.int 0)) (.long 394692)) (by decide +kernel))
    | 1, _ => exact va_eqtl (z := 17186451) (hs (Cond.eq (.elem (.static "PollBooks$Parser" "VARIABLES" "[J") (.int 1)) (.long 17186451)) (by decide +kernel))
    | 2, _ => exact va_eqtl (z := 267652) (hs (Cond.eq (.elem (.static "PollBooks$Parser" "VARIABLES" "[J") (.int 2)) (.long 267652)) (by decide +kernel))
    | 3, _ => exact va_eqtl (z := 20459828) (hs (Cond.eq (.elem (.static "PollBooks$Parser" "VARIABLES" "[J") (.int 3)) (.long 20459828)) (by decide +kernel))
    | 4, _ => exact va_eqtl (z := 21562501) (hs (Cond.eq (.elem (.static "PollBooks$Parser" "VARIABLES" "[J") (.int 4)) (.long 21562501)) (by decide +kernel))
    | 5, _ => exact va_eqtl (z := 277925) (hs (Cond.eq (.elem (.static "PollBooks$Parser" "VARIABLES" "[J") (.int 5)) (.long 277925)) (by decide +kernel))
    | 6, _ => exact va_eqtl (z := 525604) (hs (Cond.eq (.elem (.static "PollBooks$Parser" "VARIABLES" "[J") (.int 6)) (.long 525604)) (by decide +kernel))
    | 7, _ => exact va_eqtl (z := 446125701) (hs (Cond.eq (.elem (.static "PollBooks$Parser" "VARIABLES" "[J") (.int 7)) (.long 446125701)) (by decide +kernel))
    | 8, _ => exact va_eqtl (z := 4153) (hs (Cond.eq (.elem (.static "PollBooks$Parser" "VARIABLES" "[J") (.int 8)) (.long 4153)) (by decide +kernel))
    | j + 9, h => exact absurd h (by omega)) hA
  have z1 := va_Zof (A := AL s) (hts _ (mem_tbl 892 (by decide +kernel))) (hts _ (mem_tbl 119 (by decide +kernel))) g1 hA
  have z2 := va_Zof (A := AL s) (hts _ (mem_tbl 897 (by decide +kernel))) (hts _ (mem_tbl 119 (by decide +kernel))) g2 hA
  have z3 := va_Zof (A := AL s) (hts _ (mem_tbl 2011 (by decide +kernel))) (hts _ (mem_tbl 130 (by decide +kernel))) (va_eqt (hs (Cond.eq (.static "java/lang/String" "COMPACT_STRINGS" "Z") (.int 1)) (by decide +kernel))) hA
  have z4 := va_Zqof (A := AL s) (hts _ (mem_tbl 2027 (by decide +kernel))) (hts _ (mem_tbl 132 (by decide +kernel))) (hs (Cond.isRef (.static "jdk/internal/util/Preconditions" "SIOOBE_FORMATTER" "Ljava/util/function/BiFunction;")) (by decide +kernel)) hA
  obtain ⟨adK, adV, hS, hE⟩ := vk_Sof (args := #[Value.ref b]) (s := s) (A := AL s) (N := 2) (tm := fun i => .string "PollBooksModel" (if i = 0 then 408 else 429)) (len := [55, 50]) (byt := txt) (by decide)
    (fun i hi => by
      match i, hi with
      | 0, _ => exact hs (Cond.exactly (.string "PollBooksModel" 408) "java/lang/String") (by decide +kernel)
      | 1, _ => exact hs (Cond.exactly (.string "PollBooksModel" 429) "java/lang/String") (by decide +kernel)
      | i + 2, h => exact absurd h (by omega))
    (fun i hi => by
      match i, hi with
      | 0, _ => exact hs (Cond.eq (.field (.string "PollBooksModel" 408) "java/lang/String" "coder" "B") (.int 0)) (by decide +kernel)
      | 1, _ => exact hs (Cond.eq (.field (.string "PollBooksModel" 429) "java/lang/String" "coder" "B") (.int 0)) (by decide +kernel)
      | i + 2, h => exact absurd h (by omega))
    (fun i hi => by
      match i, hi with
      | 0, _ => exact hs (Cond.arrayOf (.field (.string "PollBooksModel" 408) "java/lang/String" "value" "[B") .byte) (by decide +kernel)
      | 1, _ => exact hs (Cond.arrayOf (.field (.string "PollBooksModel" 429) "java/lang/String" "value" "[B") .byte) (by decide +kernel)
      | i + 2, h => exact absurd h (by omega))
    (fun i hi => by
      match i, hi with
      | 0, _ => exact hs (Cond.eq (.length (.field (.string "PollBooksModel" 408) "java/lang/String" "value" "[B")) (.int 55)) (by decide +kernel)
      | 1, _ => exact hs (Cond.eq (.length (.field (.string "PollBooksModel" 429) "java/lang/String" "value" "[B")) (.int 50)) (by decide +kernel)
      | i + 2, h => exact absurd h (by omega))
    (fun i hi j hj => by
      match i, hi, hj with
      | 0, _, hj => exact hs _ (tx0 j hj)
      | 1, _, hj => exact hs _ (tx1 j hj)
      | i + 2, h, _ => exact absurd h (by omega))
    (fun i j hi hj hij => by
      match i, j, hi, hj, hij with
      | 0, 0, _, _, h => exact absurd rfl h
      | 0, 1, _, _, _ => exact Or.inl (hs (Cond.not (Cond.eq (.string "PollBooksModel" 408) (.string "PollBooksModel" 429))) (by decide +kernel))
      | 1, 0, _, _, _ => exact Or.inr (hs (Cond.not (Cond.eq (.string "PollBooksModel" 408) (.string "PollBooksModel" 429))) (by decide +kernel))
      | 1, 1, _, _, h => exact absurd rfl h
      | i + 2, _, h, _, _ => exact absurd h (by omega)
      | 0, j + 2, _, h, _ => exact absurd h (by omega)
      | 1, j + 2, _, h, _ => exact absurd h (by omega)) hA
  obtain ⟨t7, h7⟩ : ∃ t7 : Nat, va_Z "jdk/internal/util/Preconditions" "SIOOBE_FORMATTER" "Ljava/util/function/BiFunction;" .null (AL s) s s.heap ∨ va_Z "jdk/internal/util/Preconditions" "SIOOBE_FORMATTER" "Ljava/util/function/BiFunction;" (.ref t7) (AL s) s s.heap := by
    rcases z4 with h | ⟨t, h⟩
    · exact ⟨0, Or.inl h⟩
    · exact ⟨t, Or.inr h⟩
  have hk : ∀ (i L : Nat) (bs : List Int32) (id : Nat), (∀ j, j < L → bs.getD j 0 = Int32.ofInt (kw id j)) → ∀ t, va_T .byte t L (fun j => .int (bs.getD j 0)) (AL s) s s.heap → va_T .byte t L (fun j => .int (Int32.ofInt (kw id j))) (AL s) s s.heap := by
    intro i L bs id he t ht
    obtain ⟨cell, h1, h2, h3, h4, h5, h6, h7⟩ := ht
    exact ⟨cell, h1, h2, h3, h4, h5, fun j hj => by rw [h6 j hj]; show some (Value.int (bs.getD j 0)) = _; rw [he j hj], h7⟩
  refine ⟨fun k => ([t1, t2, adK 0, adK 1, adV 0, adV 1, t7] : List Nat).getD (k - 1000001) 0, ⟨⟨z1, T1'⟩, ⟨z2, T2'⟩⟩, ?_, ?_, z3, h7⟩
  · have h0 := hS.1 0 (by decide)
    exact ⟨vk_R.of (hts _ (mem_tbl 1997 (by decide +kernel))) (hE 0 (by decide)), h0.1, h0.2.1, h0.2.2.1, hk 0 55 _ 1000005 (by decide +kernel) _ h0.2.2.2⟩
  · have h1 := hS.1 1 (by decide)
    exact ⟨vk_R.of (hts _ (mem_tbl 2050 (by decide +kernel))) (hE 1 (by decide)), h1.1, h1.2.1, h1.2.2.1, hk 1 50 _ 1000006 (by decide +kernel) _ h1.2.2.2⟩
