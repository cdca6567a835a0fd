/-! PollBooksModel.bits(I)I -/
def y_Mo_bits : MethodName := ⟨"PollBooksModel", "bits", "(I)I"⟩
def rm_Mo_bits : Room := { frames := 0, cells := 0, slots := 0, locals := 0 }
theorem mw_Mo_bits : MW y_Mo_bits prog_14_method_94_code 3 (some .int) 1 := ⟨lk_2154, lk_14, by decide +kernel⟩
def L_Mo_bits_y4 (x1 x2 : Int) (d : Dt) : Option ((Int × Int × Dt) ⊕ ((Int × Dt))) :=
  if x2 = 0 then some (Sum.inr (x1, d)) else lt_ (iand x2 (w32 (x2 - 1))) (fun v2_ => some (Sum.inl ((w32 (x1 + 1)), v2_, d)))
def L_Mo_bits_l4 (x1 x2 : Int) (d : Dt) : Option ((Int × Dt)) := lpF (fun q : Int × Int × Dt => L_Mo_bits_y4 q.1 q.2.1 q.2.2) FU (x1, x2, d)
def L_Mo_bits (p1 : Int) (d : Dt) : Option (Int × Dt) :=
  lb (L_Mo_bits_l4 0 p1 d) (fun q10_ => u1 q10_ (fun v7_ d8_ => some (v7_, d8_)))
set_option maxHeartbeats 4000000 in
theorem ok_Mo_bits_y4 {p : Program} {l : Launch} {e : Env} {s : State} {m : MethodId} {args : Array Value} {below : List Frame} {meth : Method} {c : Code} {D : va_G} {cA : Nat → ClassId} {ad : Nat → Nat} {A : Nat → Prop} (C : Cx p s m args c prog_14_method_94_code 3 "PollBooksModel" D cA ad 1 A) {Q : State → Prop} {o : (Int × Int × Dt) ⊕ ((Int × Dt))} (x1 x2 : Int) (d : Dt) (hx1 : c32 x1) (hx2 : c32 x2) (h : L_Mo_bits_y4 x1 x2 d = some o) (kb : ∀ (y0 y1 : Int) (e' : Dt), o = .inl (y0, y1, e') → c32 y0 → c32 y1 → G p l e rm_Mo_bits s m args below meth c 0 0 Q 3 D cA ad 1 A 4 [(9, 0), (0, y0), (0, y1)] [] e') (k0 : ∀ (y0 : Int) (e' : Dt), o = .inr (y0, e') → c32 y0 → G p l e rm_Mo_bits s m args below meth c 0 0 Q 3 D cA ad 1 A 20 [(9, 0), (0, y0), (9, 0)] [] e') : G p l e rm_Mo_bits s m args below meth c 0 0 Q 3 D cA ad 1 A 4 [(9, 0), (0, x1), (0, x2)] [] d := by
  unfold L_Mo_bits_y4 at h
  refine g_iload_n C 2 rfl (by decide +kernel) ?_
  refine g_if_eq C (off := 15) (tgt := 20) hx2 (by decide +kernel) (by decide) (fun hc1_ => ?_) (fun hc1_ => ?_)
  · replace h := ite_t hc1_ h
    refine g_sub (lo2 := [(9, 0), (0, x1), (9, 0)]) (lsb_c (lsb_v (lsb_c lsb_e))) ?_
    obtain rfl := Option.some.inj h
    exact k0 x1 d rfl hx1
  · replace h := ite_f hc1_ h
    refine s_iinc C 1 1 (lo' := [(9, 0), (0, (w32 (x1 + 1))), (0, x2)]) rfl (by decide) (s1n (by decide) s1z) (by decide +kernel) ?_
    refine g_iload_n C 2 rfl (by decide +kernel) ?_
    refine g_iload_n C 2 rfl (by decide +kernel) ?_
    refine g_iconst C 1 (cK rfl) (by decide +kernel) ?_
    refine g_isub C (by decide +kernel) ?_
    refine g_iand C (by decide +kernel) ?_
    obtain ⟨v2_, ev3_, h⟩ := lt_some h
    refine g_val ev3_.symm ?_
    have hv4_ : c32 v2_ := by rw [ev3_]; exact (i_c _)
    refine s_istore_n C 2 (lo' := [(9, 0), (0, (w32 (x1 + 1))), (0, v2_)]) (by decide) (s1k (s1n (by decide) s1z)) (by decide +kernel) ?_
    refine g_goto C 4 (off := (-13)) (by decide +kernel) (by decide) ?_
    refine g_sub (lo2 := [(9, 0), (0, (w32 (x1 + 1))), (0, v2_)]) (lsb_c (lsb_v (lsb_v lsb_e))) ?_
    obtain rfl := Option.some.inj h
    exact kb (w32 (x1 + 1)) v2_ d rfl (w32_c _) hv4_
set_option maxHeartbeats 4000000 in
theorem ok_Mo_bits_n4 {p : Program} {l : Launch} {e : Env} {s : State} {m : MethodId} {args : Array Value} {below : List Frame} {meth : Method} {c : Code} {D : va_G} {cA : Nat → ClassId} {ad : Nat → Nat} {A : Nat → Prop} (C : Cx p s m args c prog_14_method_94_code 3 "PollBooksModel" D cA ad 1 A) {Q : State → Prop} {x : (Int × Dt)} : ∀ (n : Nat) (x1 x2 : Int) (d : Dt), c32 x1 → c32 x2 → lpF (fun q : Int × Int × Dt => L_Mo_bits_y4 q.1 q.2.1 q.2.2) n (x1, x2, d) = some x → (∀ (y0 : Int) (e' : Dt), x = (y0, e') → c32 y0 → G p l e rm_Mo_bits s m args below meth c 0 0 Q 3 D cA ad 1 A 20 [(9, 0), (0, y0), (9, 0)] [] e') → G p l e rm_Mo_bits s m args below meth c 0 0 Q 3 D cA ad 1 A 4 [(9, 0), (0, x1), (0, x2)] [] d := by
  intro n
  induction n with
  | zero => intro x1 x2 d g0 g1 h k0; cases h
  | succ n ih =>
    intro x1 x2 d g0 g1 h k0
    rcases lpF_some h with h | ⟨⟨v0_, v1_, e0_⟩, h1, h⟩
    · exact ok_Mo_bits_y4 C x1 x2 d g0 g1 h (fun z0_ z1_ e1_ eq w0_ w1_ => by cases eq) (fun z0_ e1_ eq w0_ => k0 _ _ (by cases eq; rfl) w0_)
    · exact ok_Mo_bits_y4 C x1 x2 d g0 g1 h1 (fun z0_ z1_ e1_ eq w0_ w1_ => by cases eq; exact ih _ _ _ w0_ w1_ h k0) (fun z0_ e1_ eq w0_ => by cases eq)
set_option maxHeartbeats 4000000 in
theorem ok_Mo_bits_l4 {p : Program} {l : Launch} {e : Env} {s : State} {m : MethodId} {args : Array Value} {below : List Frame} {meth : Method} {c : Code} {D : va_G} {cA : Nat → ClassId} {ad : Nat → Nat} {A : Nat → Prop} (C : Cx p s m args c prog_14_method_94_code 3 "PollBooksModel" D cA ad 1 A) {Q : State → Prop} {x : (Int × Dt)} (x1 x2 : Int) (d : Dt) (hx1 : c32 x1) (hx2 : c32 x2) (h : L_Mo_bits_l4 x1 x2 d = some x) (k0 : ∀ (y0 : Int) (e' : Dt), x = (y0, e') → c32 y0 → G p l e rm_Mo_bits s m args below meth c 0 0 Q 3 D cA ad 1 A 20 [(9, 0), (0, y0), (9, 0)] [] e') : G p l e rm_Mo_bits s m args below meth c 0 0 Q 3 D cA ad 1 A 4 [(9, 0), (0, x1), (0, x2)] [] d :=
  ok_Mo_bits_n4 C FU x1 x2 d hx1 hx2 h k0
set_option maxHeartbeats 4000000 in
theorem ok_Mo_bits {l : Launch} {r : Int} {d' : Dt} (p1 : Int) (d : Dt) (hp1 : c32 p1) (h : L_Mo_bits p1 d = some (r, d')) : MC l y_Mo_bits prog_14_method_94_code 3 (some .int) rm_Mo_bits 1 [(0, p1)] d (some (0, r)) d' := by
  refine MC.of (by decide) (Nat.le_of_ble_eq_true rfl) ?_
  intro p e s m args below meth c D cA ad A C hlk hr
  replace C : Cx p s m args c prog_14_method_94_code 3 "PollBooksModel" D cA ad 1 A := C
  show G p l e rm_Mo_bits s m args below meth c 0 0 (MQ below (fun _ => QC D cA ad 1 A (some .int) (some (0, r)) d') args s 0 0 A) 3 D cA ad 1 A 0 [(0, p1)] [] d
  refine g_sub (lo2 := [(0, p1), (9, 0), (9, 0)]) (lsb_v (lsb_n (lsb_n lsb_e))) ?_
  unfold L_Mo_bits at h
  refine g_iconst C 0 (cK rfl) (by decide +kernel) ?_
  refine s_istore_n C 1 (lo' := [(0, p1), (0, 0), (9, 0)]) (by decide) (s1n (by decide) s1z) (by decide +kernel) ?_
  refine g_iload_n C 0 rfl (by decide +kernel) ?_
  refine s_istore_n C 2 (lo' := [(0, p1), (0, 0), (0, p1)]) (by decide) (s1k (s1n (by decide) s1z)) (by decide +kernel) ?_
  refine g_sub (lo2 := [(9, 0), (0, 0), (0, p1)]) (lsb_c (lsb_v (lsb_v lsb_e))) ?_
  obtain ⟨x5_, hx6_, h⟩ := lb_some h
  refine ok_Mo_bits_l4 C 0 p1 d (c32_cb (Or.inl rfl)) hp1 hx6_ (fun v7_ d8_ eq9_ hv7_ => ?_)
  subst eq9_
  replace h := u1_e h
  refine g_iload_n C 1 rfl (by decide +kernel) ?_
  obtain ⟨rfl, rfl⟩ := ret_inj h
  exact g_iret C hv7_ hlk hr (by decide +kernel)
/-! PollBooksModel.byLaw(IIIII)I -/
def y_Mo_byLaw : MethodName := ⟨"PollBooksModel", "byLaw", "(IIIII)I"⟩
def rm_Mo_byLaw : Room := { frames := 5, cells := 0, slots := 0, locals := 125 }
theorem mw_Mo_byLaw : MW y_Mo_byLaw prog_14_method_93_code 7 (some .int) 5 := ⟨lk_2151, lk_14, by decide +kernel⟩
def L_Mo_byLaw (p1 p2 p3 p4 p5 : Int) (d : Dt) : Option (Int × Dt) :=
  bd (L_Mo_rightOf p1 p2 p3 p4 d) (fun r2_ d1_ => if 0 < r2_ then some ((w32 (2 + r2_)), d1_) else bd (L_Mo_isVoid p1 p2 p3 p4 d1_) (fun r7_ d6_ => if r7_ = 0 then if p5 = 0 then some (7, d6_) else bd (L_Mo_bits p5 d6_) (fun r13_ d12_ => bd (L_Mo_namesAt p2 p3 d12_) (fun r17_ d16_ => if r17_ < r13_ then some (7, d16_) else some (0, d16_))) else some (6, d6_)))
set_option maxHeartbeats 4000000 in
theorem ok_Mo_byLaw {l : Launch} {r : Int} {d' : Dt} (p1 p2 p3 p4 p5 : Int) (d : Dt) (hp1 : c32 p1) (hp2 : c32 p2) (hp3 : c32 p3) (hp4 : c32 p4) (hp5 : c32 p5) (h : L_Mo_byLaw p1 p2 p3 p4 p5 d = some (r, d')) : MC l y_Mo_byLaw prog_14_method_93_code 7 (some .int) rm_Mo_byLaw 1 [(2, 0), (0, p1), (0, p2), (0, p3), (0, p4), (0, p5)] d (some (0, r)) d' := by
  refine MC.of (by decide) (Nat.le_of_ble_eq_true rfl) ?_
  intro p e s m args below meth c D cA ad A C hlk hr
  replace C : Cx p s m args c prog_14_method_93_code 7 "PollBooksModel" D cA ad 1 A := C
  show G p l e rm_Mo_byLaw s m args below meth c 0 0 (MQ below (fun _ => QC D cA ad 1 A (some .int) (some (0, r)) d') args s 0 0 A) 7 D cA ad 1 A 0 [(2, 0), (0, p1), (0, p2), (0, p3), (0, p4), (0, p5)] [] d
  refine g_sub (lo2 := [(2, 0), (0, p1), (0, p2), (0, p3), (0, p4), (0, p5), (9, 0)]) (lsb_v (lsb_v (lsb_v (lsb_v (lsb_v (lsb_v (lsb_n lsb_e))))))) ?_
  unfold L_Mo_byLaw at h
  refine g_aload_n C 0 rfl (by decide +kernel) ?_
  refine g_iload_n C 1 rfl (by decide +kernel) ?_
  refine g_iload_n C 2 rfl (by decide +kernel) ?_
  refine g_iload_n C 3 rfl (by decide +kernel) ?_
  refine g_iload C 4 rfl (by decide +kernel) ?_
  obtain ⟨r2_, d1_, hr3_, h⟩ := bd_some h
  refine g_callV C mw_Mo_rightOf [(0, p1), (0, p2), (0, p3), (0, p4)] 0 cl12 rfl (ok_Mo_rightOf p1 p2 p3 p4 d hp1 hp2 hp3 hp4 hr3_) cd_B0 (by decide) (nB (by decide)) (ix := 514) lk_2013 lk_2015 lkp_86 ⟨rfl, rfl, Nat.le_of_ble_eq_true rfl, Nat.le_of_ble_eq_true rfl⟩ rfl (rest := []) rfl (Nat.le_of_ble_eq_true rfl) ⟨Nat.zero_le _, Nat.zero_le _⟩ (by decide +kernel) (fun _ hc4_ => ?_)
  replace hc4_ : c32 r2_ := hc4_
  refine g_st (st2 := [(0, r2_)]) rfl ?_
  refine s_istore C 6 (lo' := [(2, 0), (0, p1), (0, p2), (0, p3), (0, p4), (0, p5), (0, r2_)]) (by decide) (s1k (s1k (s1k (s1k (s1k (s1n (by decide) s1z)))))) (by decide +kernel) ?_
  refine g_iload C 6 rfl (by decide +kernel) ?_
  refine g_if_le C (off := 8) (tgt := 21) hc4_ (by decide +kernel) (by decide) (fun hc5_ => ?_) (fun hc5_ => ?_)
  · replace h := ite_t hc5_ h
    refine g_iconst C 2 (cK rfl) (by decide +kernel) ?_
    refine g_iload C 6 rfl (by decide +kernel) ?_
    refine g_iadd C (by decide +kernel) ?_
    obtain ⟨rfl, rfl⟩ := ret_inj h
    exact g_iret C (w32_c _) hlk hr (by decide +kernel)
  · replace h := ite_f hc5_ h
    refine g_aload_n C 0 rfl (by decide +kernel) ?_
    refine g_iload_n C 1 rfl (by decide +kernel) ?_
    refine g_iload_n C 2 rfl (by decide +kernel) ?_
    refine g_iload_n C 3 rfl (by decide +kernel) ?_
    refine g_iload C 4 rfl (by decide +kernel) ?_
    obtain ⟨r7_, d6_, hr8_, h⟩ := bd_some h
    refine g_callV C mw_Mo_isVoid [(0, p1), (0, p2), (0, p3), (0, p4)] 0 cl12 rfl (ok_Mo_isVoid p1 p2 p3 p4 d1_ hp1 hp2 hp3 hp4 hr8_) cd_B0 (by decide) (nB (by decide)) (ix := 517) lk_2049 lk_2051 lkp_93 ⟨rfl, rfl, Nat.le_of_ble_eq_true rfl, Nat.le_of_ble_eq_true rfl⟩ rfl (rest := []) rfl (Nat.le_of_ble_eq_true rfl) ⟨Nat.zero_le _, Nat.zero_le _⟩ (by decide +kernel) (fun _ hc9_ => ?_)
    replace hc9_ : cb r7_ := hc9_
    refine g_st (st2 := [(0, r7_)]) rfl ?_
    refine g_if_eq C (off := 6) (tgt := 36) (c32_cb hc9_) (by decide +kernel) (by decide) (fun hc10_ => ?_) (fun hc10_ => ?_)
    · replace h := ite_t hc10_ h
      refine g_iload C 5 rfl (by decide +kernel) ?_
      refine g_if_eq C (off := 17) (tgt := 55) hp5 (by decide +kernel) (by decide) (fun hc11_ => ?_) (fun hc11_ => ?_)
      · replace h := ite_t hc11_ h
        refine g_bipush C 7 (by decide) (by decide +kernel) ?_
        refine g_goto C 61 (off := 4) (by decide +kernel) (by decide) ?_
        obtain ⟨rfl, rfl⟩ := ret_inj h
        exact g_iret C (cK rfl) hlk hr (by decide +kernel)
      · replace h := ite_f hc11_ h
        refine g_iload C 5 rfl (by decide +kernel) ?_
        obtain ⟨r13_, d12_, hr14_, h⟩ := bd_some h
        refine g_callS C mw_Mo_bits [(0, p5)] (ok_Mo_bits p5 d6_ hp5 hr14_) (ix := 567) lk_2152 lk_2153 ⟨rfl, rfl, Nat.le_of_ble_eq_true rfl, Nat.le_of_ble_eq_true rfl⟩ rfl (rest := []) rfl (Nat.le_of_ble_eq_true rfl) ⟨Nat.zero_le _, Nat.zero_le _⟩ (by decide +kernel) (fun _ hc15_ => ?_)
        replace hc15_ : c32 r13_ := hc15_
        refine g_st (st2 := [(0, r13_)]) rfl ?_
        refine g_aload_n C 0 rfl (by decide +kernel) ?_
        refine g_iload_n C 2 rfl (by decide +kernel) ?_
        refine g_iload_n C 3 rfl (by decide +kernel) ?_
        obtain ⟨r17_, d16_, hr18_, h⟩ := bd_some h
        refine g_callV C mw_Mo_namesAt [(0, p2), (0, p3)] 0 cl12 rfl (ok_Mo_namesAt p2 p3 d12_ hp2 hp3 hr18_) cd_B0 (by decide) (nB (by decide)) (ix := 520) lk_2057 lk_2059 lkp_94 ⟨rfl, rfl, Nat.le_of_ble_eq_true rfl, Nat.le_of_ble_eq_true rfl⟩ rfl (rest := [(0, r13_)]) rfl (Nat.le_of_ble_eq_true rfl) ⟨Nat.zero_le _, Nat.zero_le _⟩ (by decide +kernel) (fun _ hc19_ => ?_)
        replace hc19_ : c32 r17_ := hc19_
        refine g_st (st2 := [(0, r17_), (0, r13_)]) rfl ?_
        refine g_icmp_le C (off := 8) (tgt := 60) hc15_ hc19_ (by decide +kernel) (by decide) (fun hc20_ => ?_) (fun hc20_ => ?_)
        · replace h := ite_t hc20_ h
          refine g_bipush C 7 (by decide) (by decide +kernel) ?_
          refine g_goto C 61 (off := 4) (by decide +kernel) (by decide) ?_
          obtain ⟨rfl, rfl⟩ := ret_inj h
          exact g_iret C (cK rfl) hlk hr (by decide +kernel)
        · replace h := ite_f hc20_ h
          refine g_iconst C 0 (cK rfl) (by decide +kernel) ?_
          obtain ⟨rfl, rfl⟩ := ret_inj h
          exact g_iret C (c32_cb (Or.inl rfl)) hlk hr (by decide +kernel)
    · replace h := ite_f hc10_ h
      refine g_bipush C 6 (by decide) (by decide +kernel) ?_
      obtain ⟨rfl, rfl⟩ := ret_inj h
      exact g_iret C (cK rfl) hlk hr (by decide +kernel)
/-! PollBooksModel.judge(II)V -/
def y_Mo_judge : MethodName := ⟨"PollBooksModel", "judge", "(II)V"⟩
def rm_Mo_judge : Room := { frames := 6, cells := 0, slots := 0, locals := 156 }
theorem mw_Mo_judge : MW y_Mo_judge prog_14_method_95_code 6 none 2 := ⟨lk_2147, lk_14, by decide +kernel⟩
def L_Mo_judge_b71 (x1 x2 x3 s1 s2 : Int) (d : Dt) : Option ((Int × Int × Int × Dt) ⊕ ((Int × Int × Dt))) :=
  ck ((0 : Int) ≤ s1 ∧ s1 < 30) (some (Sum.inl (x1, x2, (w32 (x3 + 1)), (up2 d 62 s1.toNat s2))))
def L_Mo_judge_y6 (x1 x2 x3 : Int) (d : Dt) : Option ((Int × Int × Int × Dt) ⊕ ((Int × Int × Dt))) :=
  if x3 < (d 52 0) then bd (L_Mo_whoIs x3 d) (fun r5_ d4_ => if r5_ = (-1) then L_Mo_judge_b71 x1 x2 x3 x3 1 d4_ else bd (L_Mo_isTwice x3 r5_ d4_) (fun r10_ d9_ => if r10_ = 0 then ck ((0 : Int) ≤ x3 ∧ x3 < 90) (bd (L_Mo_setOf x3 d9_) (fun r17_ d16_ => bd (L_Mo_byLaw r5_ x1 x2 (d9_ 54 x3.toNat) r17_ d16_) (fun r21_ d20_ => L_Mo_judge_b71 x1 x2 x3 x3 r21_ d20_))) else L_Mo_judge_b71 x1 x2 x3 x3 2 d9_)) else some (Sum.inr (x1, x2, d))
def L_Mo_judge_l6 (x1 x2 x3 : Int) (d : Dt) : Option ((Int × Int × Dt)) := lpF (fun q : Int × Int × Int × Dt => L_Mo_judge_y6 q.1 q.2.1 q.2.2.1 q.2.2.2) FU (x1, x2, x3, d)
def L_Mo_judge_b140 (x1 x2 x3 x5 s0 : Int) (d : Dt) : Option ((Int × Int × Int × Int × Int × Dt) ⊕ ((Int × Int × Int × Int × Dt))) :=
  some (Sum.inl (x1, x2, x3, s0, (w32 (x5 + 1)), d))
def L_Mo_judge_y94 (x1 x2 x3 x4 x5 : Int) (d : Dt) : Option ((Int × Int × Int × Int × Int × Dt) ⊕ ((Int × Int × Int × Int × Dt))) :=
  if x5 < (d 52 0) then if x4 = 0 then ck ((0 : Int) ≤ x5 ∧ x5 < 30) (if (d 62 x5.toNat) = 0 then bd (L_Mo_whoIs x5 d) (fun r31_ d30_ => ck ((0 : Int) ≤ x3 ∧ x3 < 20) (if r31_ = (d30_ 59 x3.toNat) then L_Mo_judge_b140 x1 x2 x3 x5 1 d30_ else L_Mo_judge_b140 x1 x2 x3 x5 0 d30_)) else L_Mo_judge_b140 x1 x2 x3 x5 0 d) else L_Mo_judge_b140 x1 x2 x3 x5 1 d else some (Sum.inr (x1, x2, x3, x4, d))
def L_Mo_judge_l94 (x1 x2 x3 x4 x5 : Int) (d : Dt) : Option ((Int × Int × Int × Int × Dt)) := lpF (fun q : Int × Int × Int × Int × Int × Dt => L_Mo_judge_y94 q.1 q.2.1 q.2.2.1 q.2.2.2.1 q.2.2.2.2.1 q.2.2.2.2.2) FU (x1, x2, x3, x4, x5, d)
def L_Mo_judge_b193 (x1 x2 x3 x5 s0 : Int) (d : Dt) : Option ((Int × Int × Int × Int × Int × Dt) ⊕ ((Int × Int × Int × Int × Dt))) :=
  some (Sum.inl (x1, x2, x3, s0, (w32 (x5 + 1)), d))
def L_Mo_judge_y151 (x1 x2 x3 x4 x5 : Int) (d : Dt) : Option ((Int × Int × Int × Int × Int × Dt) ⊕ ((Int × Int × Int × Int × Dt))) :=
  if x5 < x3 then if x4 = 0 then ck ((0 : Int) ≤ x5 ∧ x5 < 20) (if (d 63 x5.toNat) = 0 then ck ((0 : Int) ≤ x5 ∧ x5 < 20) (ck ((0 : Int) ≤ x3 ∧ x3 < 20) (if (d 59 x5.toNat) = (d 59 x3.toNat) then L_Mo_judge_b193 x1 x2 x3 x5 1 d else L_Mo_judge_b193 x1 x2 x3 x5 0 d)) else L_Mo_judge_b193 x1 x2 x3 x5 0 d) else L_Mo_judge_b193 x1 x2 x3 x5 1 d else some (Sum.inr (x1, x2, x3, x4, d))
def L_Mo_judge_l151 (x1 x2 x3 x4 x5 : Int) (d : Dt) : Option ((Int × Int × Int × Int × Dt)) := lpF (fun q : Int × Int × Int × Int × Int × Dt => L_Mo_judge_y151 q.1 q.2.1 q.2.2.1 q.2.2.2.1 q.2.2.2.2.1 q.2.2.2.2.2) FU (x1, x2, x3, x4, x5, d)
def L_Mo_judge_b239 (x1 x2 x3 s1 s2 : Int) (d : Dt) : Option ((Int × Int × Int × Dt) ⊕ ((Dt))) :=
  ck ((0 : Int) ≤ s1 ∧ s1 < 20) (some (Sum.inl (x1, x2, (w32 (x3 + 1)), (up2 d 63 s1.toNat s2))))
def L_Mo_judge_y80 (x1 x2 x3 : Int) (d : Dt) : Option ((Int × Int × Int × Dt) ⊕ ((Dt))) :=
  if x3 < (d 0 87) then lb (L_Mo_judge_l94 x1 x2 x3 0 0 d) (fun q78_ => u4 q78_ (fun v52_ v53_ v54_ v55_ d56_ => lb (L_Mo_judge_l151 v52_ v53_ v54_ v55_ 0 d56_) (fun q77_ => u4 q77_ (fun v60_ v61_ v62_ v63_ d64_ => if v63_ = 0 then ck ((0 : Int) ≤ v62_ ∧ v62_ < 20) (ck ((0 : Int) ≤ v62_ ∧ v62_ < 20) (ck ((0 : Int) ≤ v62_ ∧ v62_ < 20) (bd (L_Mo_byLaw (d64_ 59 v62_.toNat) v60_ v61_ (d64_ 61 v62_.toNat) (d64_ 60 v62_.toNat) d64_) (fun r74_ d73_ => L_Mo_judge_b239 v60_ v61_ v62_ v62_ r74_ d73_)))) else L_Mo_judge_b239 v60_ v61_ v62_ v62_ 2 d64_)))) else some (Sum.inr (d))
def L_Mo_judge_l80 (x1 x2 x3 : Int) (d : Dt) : Option ((Dt)) := lpF (fun q : Int × Int × Int × Dt => L_Mo_judge_y80 q.1 q.2.1 q.2.2.1 q.2.2.2) FU (x1, x2, x3, d)
def L_Mo_judge (p1 p2 : Int) (d : Dt) : Option (Int × Dt) :=
  bd (L_Mo_joinAll d) (fun r80_ d79_ => lb (L_Mo_judge_l6 p1 p2 0 d79_) (fun q94_ => u2 q94_ (fun v85_ v86_ d87_ => lb (L_Mo_judge_l80 v85_ v86_ 0 d87_) (fun q93_ => u0 q93_ (fun d91_ => some (0, d91_))))))
set_option maxHeartbeats 4000000 in
theorem ok_Mo_judge_b71 {p : Program} {l : Launch} {e : Env} {s : State} {m : MethodId} {args : Array Value} {below : List Frame} {meth : Method} {c : Code} {D : va_G} {cA : Nat → ClassId} {ad : Nat → Nat} {A : Nat → Prop} (C : Cx p s m args c prog_14_method_95_code 6 "PollBooksModel" D cA ad 1 A) {Q : State → Prop} {o : (Int × Int × Int × Dt) ⊕ ((Int × Int × Dt))} (x1 x2 x3 s1 s2 : Int) (d : Dt) (hx1 : c32 x1) (hx2 : c32 x2) (hx3 : c32 x3) (hs1 : c32 s1) (hs2 : c32 s2) (h : L_Mo_judge_b71 x1 x2 x3 s1 s2 d = some o) (kb : ∀ (y0 y1 y2 : Int) (e' : Dt), o = .inl (y0, y1, y2, e') → c32 y0 → c32 y1 → c32 y2 → G p l e rm_Mo_judge s m args below meth c 0 0 Q 6 D cA ad 1 A 6 [(2, 0), (0, y0), (0, y1), (0, y2), (9, 0), (9, 0)] [] e') (k0 : ∀ (y0 y1 : Int) (e' : Dt), o = .inr (y0, y1, e') → c32 y0 → c32 y1 → G p l e rm_Mo_judge s m args below meth c 0 0 Q 6 D cA ad 1 A 78 [(2, 0), (0, y0), (0, y1), (9, 0), (9, 0), (9, 0)] [] e') : G p l e rm_Mo_judge s m args below meth c 0 0 Q 6 D cA ad 1 A 71 [(2, 0), (0, x1), (0, x2), (0, x3), (9, 0), (9, 0)] [(0, s2), (0, s1), (2, 62)] d := by
  unfold L_Mo_judge_b71 at h
  obtain ⟨hb1_, h⟩ := ck_some h
  refine g_iast C 62 hs2 hs1 rfl cd_B62 (nB (by decide)) hb1_ (by decide +kernel) ?_
  refine s_iinc C 3 1 (lo' := [(2, 0), (0, x1), (0, x2), (0, (w32 (x3 + 1))), (9, 0), (9, 0)]) rfl (by decide) (s1k (s1k (s1n (by decide) s1z))) (by decide +kernel) ?_
  refine g_goto C 6 (off := (-69)) (by decide +kernel) (by decide) ?_
  refine g_sub (lo2 := [(2, 0), (0, x1), (0, x2), (0, (w32 (x3 + 1))), (9, 0), (9, 0)]) (lsb_v (lsb_v (lsb_v (lsb_v (lsb_c (lsb_c lsb_e)))))) ?_
  obtain rfl := Option.some.inj h
  exact kb x1 x2 (w32 (x3 + 1)) (up2 d 62 s1.toNat s2) rfl hx1 hx2 (w32_c _)
set_option maxHeartbeats 4000000 in
theorem ok_Mo_judge_y6 {p : Program} {l : Launch} {e : Env} {s : State} {m : MethodId} {args : Array Value} {below : List Frame} {meth : Method} {c : Code} {D : va_G} {cA : Nat → ClassId} {ad : Nat → Nat} {A : Nat → Prop} (C : Cx p s m args c prog_14_method_95_code 6 "PollBooksModel" D cA ad 1 A) {Q : State → Prop} {o : (Int × Int × Int × Dt) ⊕ ((Int × Int × Dt))} (x1 x2 x3 : Int) (d : Dt) (hx1 : c32 x1) (hx2 : c32 x2) (hx3 : c32 x3) (h : L_Mo_judge_y6 x1 x2 x3 d = some o) (kb : ∀ (y0 y1 y2 : Int) (e' : Dt), o = .inl (y0, y1, y2, e') → c32 y0 → c32 y1 → c32 y2 → G p l e rm_Mo_judge s m args below meth c 0 0 Q 6 D cA ad 1 A 6 [(2, 0), (0, y0), (0, y1), (0, y2), (9, 0), (9, 0)] [] e') (k0 : ∀ (y0 y1 : Int) (e' : Dt), o = .inr (y0, y1, e') → c32 y0 → c32 y1 → G p l e rm_Mo_judge s m args below meth c 0 0 Q 6 D cA ad 1 A 78 [(2, 0), (0, y0), (0, y1), (9, 0), (9, 0), (9, 0)] [] e') : G p l e rm_Mo_judge s m args below meth c 0 0 Q 6 D cA ad 1 A 6 [(2, 0), (0, x1), (0, x2), (0, x3), (9, 0), (9, 0)] [] d := by
  unfold L_Mo_judge_y6 at h
  refine g_iload_n C 3 rfl (by decide +kernel) ?_
  refine g_aload_n C 0 rfl (by decide +kernel) ?_
  refine g_getR C cl12 0 72 52 rfl cd_B0 ⟨by decide, rfl, by decide⟩ rfl rfl (nB (by decide)) (ix := 176) lk_1474 (by decide +kernel) ?_
  refine g_iconst C 0 (cK rfl) (by decide +kernel) ?_
  refine g_iald C 52 (c32_cb (Or.inl rfl)) rfl cd_B52 (nB (by decide)) (by decide) (by decide +kernel) (fun hc2_ => ?_)
  refine g_val (y := (d 52 0)) rfl ?_
  replace hc2_ : c32 (d 52 0) := hc2_
  refine g_icmp_ge C (off := 65) (tgt := 78) hx3 hc2_ (by decide +kernel) (by decide) (fun hc3_ => ?_) (fun hc3_ => ?_)
  · replace h := ite_t hc3_ h
    refine g_aload_n C 0 rfl (by decide +kernel) ?_
    refine g_iload_n C 3 rfl (by decide +kernel) ?_
    obtain ⟨r5_, d4_, hr6_, h⟩ := bd_some h
    refine g_callV C mw_Mo_whoIs [(0, x3)] 0 cl12 rfl (ok_Mo_whoIs x3 d hx3 hr6_) cd_B0 (by decide) (nB (by decide)) (ix := 558) lk_2123 lk_2125 lkp_101 ⟨rfl, rfl, Nat.le_of_ble_eq_true rfl, Nat.le_of_ble_eq_true rfl⟩ rfl (rest := []) rfl (Nat.le_of_ble_eq_true rfl) ⟨Nat.zero_le _, Nat.zero_le _⟩ (by decide +kernel) (fun _ hc7_ => ?_)
    replace hc7_ : c32 r5_ := hc7_
    refine g_st (st2 := [(0, r5_)]) rfl ?_
    refine s_istore C 4 (lo' := [(2, 0), (0, x1), (0, x2), (0, x3), (0, r5_), (9, 0)]) (by decide) (s1k (s1k (s1k (s1n (by decide) s1z)))) (by decide +kernel) ?_
    refine g_aload_n C 0 rfl (by decide +kernel) ?_
    refine g_getR C cl12 0 84 62 rfl cd_B0 ⟨by decide, rfl, by decide⟩ rfl rfl (nB (by decide)) (ix := 209) lk_1486 (by decide +kernel) ?_
    refine g_iload_n C 3 rfl (by decide +kernel) ?_
    refine g_iload C 4 rfl (by decide +kernel) ?_
    refine g_iconst C (-1) (cK rfl) (by decide +kernel) ?_
    refine g_icmp_ne C (off := 7) (tgt := 38) hc7_ (cK rfl) (by decide +kernel) (by decide) (fun hc8_ => ?_) (fun hc8_ => ?_)
    · replace h := ite_t hc8_ h
      refine g_iconst C 1 (cK rfl) (by decide +kernel) ?_
      refine g_goto C 71 (off := 36) (by decide +kernel) (by decide) ?_
      refine g_sub (lo2 := [(2, 0), (0, x1), (0, x2), (0, x3), (9, 0), (9, 0)]) (lsb_v (lsb_v (lsb_v (lsb_v (lsb_c (lsb_c lsb_e)))))) ?_
      exact ok_Mo_judge_b71 C x1 x2 x3 x3 1 d4_ hx1 hx2 hx3 hx3 (c32_cb (Or.inr rfl)) h kb k0
    · replace h := ite_f hc8_ h
      refine g_aload_n C 0 rfl (by decide +kernel) ?_
      refine g_iload_n C 3 rfl (by decide +kernel) ?_
      refine g_iload C 4 rfl (by decide +kernel) ?_
      obtain ⟨r10_, d9_, hr11_, h⟩ := bd_some h
      refine g_callV C mw_Mo_isTwice [(0, x3), (0, r5_)] 0 cl12 rfl (ok_Mo_isTwice x3 r5_ d4_ hx3 hc7_ hr11_) cd_B0 (by decide) (nB (by decide)) (ix := 561) lk_2132 lk_2134 lkp_102 ⟨rfl, rfl, Nat.le_of_ble_eq_true rfl, Nat.le_of_ble_eq_true rfl⟩ rfl (rest := [(0, x3), (2, 62)]) rfl (Nat.le_of_ble_eq_true rfl) ⟨Nat.zero_le _, Nat.zero_le _⟩ (by decide +kernel) (fun _ hc12_ => ?_)
      replace hc12_ : cb r10_ := hc12_
      refine g_st (st2 := [(0, r10_), (0, x3), (2, 62)]) rfl ?_
      refine g_if_eq C (off := 7) (tgt := 52) (c32_cb hc12_) (by decide +kernel) (by decide) (fun hc13_ => ?_) (fun hc13_ => ?_)
      · replace h := ite_t hc13_ h
        refine g_aload_n C 0 rfl (by decide +kernel) ?_
        refine g_iload C 4 rfl (by decide +kernel) ?_
        refine g_iload_n C 1 rfl (by decide +kernel) ?_
        refine g_iload_n C 2 rfl (by decide +kernel) ?_
        refine g_aload_n C 0 rfl (by decide +kernel) ?_
        refine g_getR C cl12 0 74 54 rfl cd_B0 ⟨by decide, rfl, by decide⟩ rfl rfl (nB (by decide)) (ix := 182) lk_1476 (by decide +kernel) ?_
        refine g_iload_n C 3 rfl (by decide +kernel) ?_
        obtain ⟨hb14_, h⟩ := ck_some h
        refine g_iald C 54 hx3 rfl cd_B54 (nB (by decide)) hb14_ (by decide +kernel) (fun hc15_ => ?_)
        refine g_aload_n C 0 rfl (by decide +kernel) ?_
        refine g_iload_n C 3 rfl (by decide +kernel) ?_
        obtain ⟨r17_, d16_, hr18_, h⟩ := bd_some h
        refine g_callV C mw_Mo_setOf [(0, x3)] 0 cl12 rfl (ok_Mo_setOf x3 d9_ hx3 hr18_) cd_B0 (by decide) (nB (by decide)) (ix := 547) lk_2104 lk_2106 lkp_100 ⟨rfl, rfl, Nat.le_of_ble_eq_true rfl, Nat.le_of_ble_eq_true rfl⟩ rfl (rest := [(0, (d9_ 54 x3.toNat)), (0, x2), (0, x1), (0, r5_), (2, 0), (0, x3), (2, 62)]) rfl (Nat.le_of_ble_eq_true rfl) ⟨Nat.zero_le _, Nat.zero_le _⟩ (by decide +kernel) (fun _ hc19_ => ?_)
        replace hc19_ : c32 r17_ := hc19_
        refine g_st (st2 := [(0, r17_), (0, (d9_ 54 x3.toNat)), (0, x2), (0, x1), (0, r5_), (2, 0), (0, x3), (2, 62)]) rfl ?_
        obtain ⟨r21_, d20_, hr22_, h⟩ := bd_some h
        refine g_callV C mw_Mo_byLaw [(0, r5_), (0, x1), (0, x2), (0, (d9_ 54 x3.toNat)), (0, r17_)] 0 cl12 rfl (ok_Mo_byLaw r5_ x1 x2 (d9_ 54 x3.toNat) r17_ d16_ hc7_ hx1 hx2 hc15_ hc19_ hr22_) cd_B0 (by decide) (nB (by decide)) (ix := 570) lk_2148 lk_2150 lkp_104 ⟨rfl, rfl, Nat.le_of_ble_eq_true rfl, Nat.le_of_ble_eq_true rfl⟩ rfl (rest := [(0, x3), (2, 62)]) rfl (Nat.le_of_ble_eq_true rfl) ⟨Nat.zero_le _, Nat.zero_le _⟩ (by decide +kernel) (fun _ hc23_ => ?_)
        replace hc23_ : c32 r21_ := hc23_
        refine g_st (st2 := [(0, r21_), (0, x3), (2, 62)]) rfl ?_
        refine g_sub (lo2 := [(2, 0), (0, x1), (0, x2), (0, x3), (9, 0), (9, 0)]) (lsb_v (lsb_v (lsb_v (lsb_v (lsb_c (lsb_c lsb_e)))))) ?_
        exact ok_Mo_judge_b71 C x1 x2 x3 x3 r21_ d20_ hx1 hx2 hx3 hx3 hc23_ h kb k0
      · replace h := ite_f hc13_ h
        refine g_iconst C 2 (cK rfl) (by decide +kernel) ?_
        refine g_goto C 71 (off := 22) (by decide +kernel) (by decide) ?_
        refine g_sub (lo2 := [(2, 0), (0, x1), (0, x2), (0, x3), (9, 0), (9, 0)]) (lsb_v (lsb_v (lsb_v (lsb_v (lsb_c (lsb_c lsb_e)))))) ?_
        exact ok_Mo_judge_b71 C x1 x2 x3 x3 2 d9_ hx1 hx2 hx3 hx3 (cK rfl) h kb k0
  · replace h := ite_f hc3_ h
    refine g_sub (lo2 := [(2, 0), (0, x1), (0, x2), (9, 0), (9, 0), (9, 0)]) (lsb_v (lsb_v (lsb_v (lsb_c (lsb_c (lsb_c lsb_e)))))) ?_
    obtain rfl := Option.some.inj h
    exact k0 x1 x2 d rfl hx1 hx2
set_option maxHeartbeats 4000000 in
theorem ok_Mo_judge_n6 {p : Program} {l : Launch} {e : Env} {s : State} {m : MethodId} {args : Array Value} {below : List Frame} {meth : Method} {c : Code} {D : va_G} {cA : Nat → ClassId} {ad : Nat → Nat} {A : Nat → Prop} (C : Cx p s m args c prog_14_method_95_code 6 "PollBooksModel" D cA ad 1 A) {Q : State → Prop} {x : (Int × Int × Dt)} : ∀ (n : Nat) (x1 x2 x3 : Int) (d : Dt), c32 x1 → c32 x2 → c32 x3 → lpF (fun q : Int × Int × Int × Dt => L_Mo_judge_y6 q.1 q.2.1 q.2.2.1 q.2.2.2) n (x1, x2, x3, d) = some x → (∀ (y0 y1 : Int) (e' : Dt), x = (y0, y1, e') → c32 y0 → c32 y1 → G p l e rm_Mo_judge s m args below meth c 0 0 Q 6 D cA ad 1 A 78 [(2, 0), (0, y0), (0, y1), (9, 0), (9, 0), (9, 0)] [] e') → G p l e rm_Mo_judge s m args below meth c 0 0 Q 6 D cA ad 1 A 6 [(2, 0), (0, x1), (0, x2), (0, x3), (9, 0), (9, 0)] [] d := by
  intro n
  induction n with
  | zero => intro x1 x2 x3 d g0 g1 g2 h k0; cases h
  | succ n ih =>
    intro x1 x2 x3 d g0 g1 g2 h k0
    rcases lpF_some h with h | ⟨⟨v0_, v1_, v2_, e0_⟩, h1, h⟩
    · exact ok_Mo_judge_y6 C x1 x2 x3 d g0 g1 g2 h (fun z0_ z1_ z2_ e1_ eq w0_ w1_ w2_ => by cases eq) (fun z0_ z1_ e1_ eq w0_ w1_ => k0 _ _ _ (by cases eq; rfl) w0_ w1_)
    · exact ok_Mo_judge_y6 C x1 x2 x3 d g0 g1 g2 h1 (fun z0_ z1_ z2_ e1_ eq w0_ w1_ w2_ => by cases eq; exact ih _ _ _ _ w0_ w1_ w2_ h k0) (fun z0_ z1_ e1_ eq w0_ w1_ => by cases eq)
set_option maxHeartbeats 4000000 in
theorem ok_Mo_judge_l6 {p : Program} {l : Launch} {e : Env} {s : State} {m : MethodId} {args : Array Value} {below : List Frame} {meth : Method} {c : Code} {D : va_G} {cA : Nat → ClassId} {ad : Nat → Nat} {A : Nat → Prop} (C : Cx p s m args c prog_14_method_95_code 6 "PollBooksModel" D cA ad 1 A) {Q : State → Prop} {x : (Int × Int × Dt)} (x1 x2 x3 : Int) (d : Dt) (hx1 : c32 x1) (hx2 : c32 x2) (hx3 : c32 x3) (h : L_Mo_judge_l6 x1 x2 x3 d = some x) (k0 : ∀ (y0 y1 : Int) (e' : Dt), x = (y0, y1, e') → c32 y0 → c32 y1 → G p l e rm_Mo_judge s m args below meth c 0 0 Q 6 D cA ad 1 A 78 [(2, 0), (0, y0), (0, y1), (9, 0), (9, 0), (9, 0)] [] e') : G p l e rm_Mo_judge s m args below meth c 0 0 Q 6 D cA ad 1 A 6 [(2, 0), (0, x1), (0, x2), (0, x3), (9, 0), (9, 0)] [] d :=
  ok_Mo_judge_n6 C FU x1 x2 x3 d hx1 hx2 hx3 h k0
set_option maxHeartbeats 4000000 in
theorem ok_Mo_judge_b140 {p : Program} {l : Launch} {e : Env} {s : State} {m : MethodId} {args : Array Value} {below : List Frame} {meth : Method} {c : Code} {D : va_G} {cA : Nat → ClassId} {ad : Nat → Nat} {A : Nat → Prop} (C : Cx p s m args c prog_14_method_95_code 6 "PollBooksModel" D cA ad 1 A) {Q : State → Prop} {o : (Int × Int × Int × Int × Int × Dt) ⊕ ((Int × Int × Int × Int × Dt))} (x1 x2 x3 x5 s0 : Int) (d : Dt) (hx1 : c32 x1) (hx2 : c32 x2) (hx3 : c32 x3) (hx5 : c32 x5) (hs0 : cb s0) (h : L_Mo_judge_b140 x1 x2 x3 x5 s0 d = some o) (kb : ∀ (y0 y1 y2 y3 y4 : Int) (e' : Dt), o = .inl (y0, y1, y2, y3, y4, e') → c32 y0 → c32 y1 → c32 y2 → cb y3 → c32 y4 → G p l e rm_Mo_judge s m args below meth c 0 0 Q 6 D cA ad 1 A 94 [(2, 0), (0, y0), (0, y1), (0, y2), (0, y3), (0, y4)] [] e') (k0 : ∀ (y0 y1 y2 y3 : Int) (e' : Dt), o = .inr (y0, y1, y2, y3, e') → c32 y0 → c32 y1 → c32 y2 → cb y3 → G p l e rm_Mo_judge s m args below meth c 0 0 Q 6 D cA ad 1 A 148 [(2, 0), (0, y0), (0, y1), (0, y2), (0, y3), (9, 0)] [] e') : G p l e rm_Mo_judge s m args below meth c 0 0 Q 6 D cA ad 1 A 140 [(2, 0), (0, x1), (0, x2), (0, x3), (9, 0), (0, x5)] [(0, s0)] d := by
  unfold L_Mo_judge_b140 at h
  refine s_istore C 4 (lo' := [(2, 0), (0, x1), (0, x2), (0, x3), (0, s0), (0, x5)]) (by decide) (s1k (s1k (s1k (s1n (by decide) s1z)))) (by decide +kernel) ?_
  refine s_iinc C 5 1 (lo' := [(2, 0), (0, x1), (0, x2), (0, x3), (0, s0), (0, (w32 (x5 + 1)))]) rfl (by decide) (s1k (s1k (s1k (s1k (s1n (by decide) s1z))))) (by decide +kernel) ?_
  refine g_goto C 94 (off := (-51)) (by decide +kernel) (by decide) ?_
  refine g_sub (lo2 := [(2, 0), (0, x1), (0, x2), (0, x3), (0, s0), (0, (w32 (x5 + 1)))]) (lsb_v (lsb_v (lsb_v (lsb_v (lsb_v (lsb_v lsb_e)))))) ?_
  obtain rfl := Option.some.inj h
  exact kb x1 x2 x3 s0 (w32 (x5 + 1)) d rfl hx1 hx2 hx3 hs0 (w32_c _)
set_option maxHeartbeats 4000000 in
theorem ok_Mo_judge_y94 {p : Program} {l : Launch} {e : Env} {s : State} {m : MethodId} {args : Array Value} {below : List Frame} {meth : Method} {c : Code} {D : va_G} {cA : Nat → ClassId} {ad : Nat → Nat} {A : Nat → Prop} (C : Cx p s m args c prog_14_method_95_code 6 "PollBooksModel" D cA ad 1 A) {Q : State → Prop} {o : (Int × Int × Int × Int × Int × Dt) ⊕ ((Int × Int × Int × Int × Dt))} (x1 x2 x3 x4 x5 : Int) (d : Dt) (hx1 : c32 x1) (hx2 : c32 x2) (hx3 : c32 x3) (hx4 : cb x4) (hx5 : c32 x5) (h : L_Mo_judge_y94 x1 x2 x3 x4 x5 d = some o) (kb : ∀ (y0 y1 y2 y3 y4 : Int) (e' : Dt), o = .inl (y0, y1, y2, y3, y4, e') → c32 y0 → c32 y1 → c32 y2 → cb y3 → c32 y4 → G p l e rm_Mo_judge s m args below meth c 0 0 Q 6 D cA ad 1 A 94 [(2, 0), (0, y0), (0, y1), (0, y2), (0, y3), (0, y4)] [] e') (k0 : ∀ (y0 y1 y2 y3 : Int) (e' : Dt), o = .inr (y0, y1, y2, y3, e') → c32 y0 → c32 y1 → c32 y2 → cb y3 → G p l e rm_Mo_judge s m args below meth c 0 0 Q 6 D cA ad 1 A 148 [(2, 0), (0, y0), (0, y1), (0, y2), (0, y3), (9, 0)] [] e') : G p l e rm_Mo_judge s m args below meth c 0 0 Q 6 D cA ad 1 A 94 [(2, 0), (0, x1), (0, x2), (0, x3), (0, x4), (0, x5)] [] d := by
  unfold L_Mo_judge_y94 at h
  refine g_iload C 5 rfl (by decide +kernel) ?_
  refine g_aload_n C 0 rfl (by decide +kernel) ?_
  refine g_getR C cl12 0 72 52 rfl cd_B0 ⟨by decide, rfl, by decide⟩ rfl rfl (nB (by decide)) (ix := 176) lk_1474 (by decide +kernel) ?_
  refine g_iconst C 0 (cK rfl) (by decide +kernel) ?_
  refine g_iald C 52 (c32_cb (Or.inl rfl)) rfl cd_B52 (nB (by decide)) (by decide) (by decide +kernel) (fun hc24_ => ?_)
  refine g_val (y := (d 52 0)) rfl ?_
  replace hc24_ : c32 (d 52 0) := hc24_
  refine g_icmp_ge C (off := 46) (tgt := 148) hx5 hc24_ (by decide +kernel) (by decide) (fun hc25_ => ?_) (fun hc25_ => ?_)
  · replace h := ite_t hc25_ h
    refine g_iload C 4 rfl (by decide +kernel) ?_
    refine g_if_ne C (off := 28) (tgt := 135) (c32_cb hx4) (by decide +kernel) (by decide) (fun hc26_ => ?_) (fun hc26_ => ?_)
    · replace h := ite_t hc26_ h
      refine g_aload_n C 0 rfl (by decide +kernel) ?_
      refine g_getR C cl12 0 84 62 rfl cd_B0 ⟨by decide, rfl, by decide⟩ rfl rfl (nB (by decide)) (ix := 209) lk_1486 (by decide +kernel) ?_
      refine g_iload C 5 rfl (by decide +kernel) ?_
      obtain ⟨hb27_, h⟩ := ck_some h
      refine g_iald C 62 hx5 rfl cd_B62 (nB (by decide)) hb27_ (by decide +kernel) (fun hc28_ => ?_)
      refine g_if_ne C (off := 22) (tgt := 139) hc28_ (by decide +kernel) (by decide) (fun hc29_ => ?_) (fun hc29_ => ?_)
      · replace h := ite_t hc29_ h
        refine g_aload_n C 0 rfl (by decide +kernel) ?_
        refine g_iload C 5 rfl (by decide +kernel) ?_
        obtain ⟨r31_, d30_, hr32_, h⟩ := bd_some h
        refine g_callV C mw_Mo_whoIs [(0, x5)] 0 cl12 rfl (ok_Mo_whoIs x5 d hx5 hr32_) cd_B0 (by decide) (nB (by decide)) (ix := 558) lk_2123 lk_2125 lkp_101 ⟨rfl, rfl, Nat.le_of_ble_eq_true rfl, Nat.le_of_ble_eq_true rfl⟩ rfl (rest := []) rfl (Nat.le_of_ble_eq_true rfl) ⟨Nat.zero_le _, Nat.zero_le _⟩ (by decide +kernel) (fun _ hc33_ => ?_)
        replace hc33_ : c32 r31_ := hc33_
        refine g_st (st2 := [(0, r31_)]) rfl ?_
        refine g_aload_n C 0 rfl (by decide +kernel) ?_
        refine g_getR C cl12 0 81 59 rfl cd_B0 ⟨by decide, rfl, by decide⟩ rfl rfl (nB (by decide)) (ix := 200) lk_1483 (by decide +kernel) ?_
        refine g_iload_n C 3 rfl (by decide +kernel) ?_
        obtain ⟨hb34_, h⟩ := ck_some h
        refine g_iald C 59 hx3 rfl cd_B59 (nB (by decide)) hb34_ (by decide +kernel) (fun hc35_ => ?_)
        refine g_icmp_ne C (off := 7) (tgt := 139) hc33_ hc35_ (by decide +kernel) (by decide) (fun hc36_ => ?_) (fun hc36_ => ?_)
        · replace h := ite_t hc36_ h
          refine g_iconst C 1 (cK rfl) (by decide +kernel) ?_
          refine g_goto C 140 (off := 4) (by decide +kernel) (by decide) ?_
          refine g_sub (lo2 := [(2, 0), (0, x1), (0, x2), (0, x3), (9, 0), (0, x5)]) (lsb_v (lsb_v (lsb_v (lsb_v (lsb_c (lsb_v lsb_e)))))) ?_
          exact ok_Mo_judge_b140 C x1 x2 x3 x5 1 d30_ hx1 hx2 hx3 hx5 (Or.inr rfl) h kb k0
        · replace h := ite_f hc36_ h
          refine g_iconst C 0 (cK rfl) (by decide +kernel) ?_
          refine g_sub (lo2 := [(2, 0), (0, x1), (0, x2), (0, x3), (9, 0), (0, x5)]) (lsb_v (lsb_v (lsb_v (lsb_v (lsb_c (lsb_v lsb_e)))))) ?_
          exact ok_Mo_judge_b140 C x1 x2 x3 x5 0 d30_ hx1 hx2 hx3 hx5 (Or.inl rfl) h kb k0
      · replace h := ite_f hc29_ h
        refine g_iconst C 0 (cK rfl) (by decide +kernel) ?_
        refine g_sub (lo2 := [(2, 0), (0, x1), (0, x2), (0, x3), (9, 0), (0, x5)]) (lsb_v (lsb_v (lsb_v (lsb_v (lsb_c (lsb_v lsb_e)))))) ?_
        exact ok_Mo_judge_b140 C x1 x2 x3 x5 0 d hx1 hx2 hx3 hx5 (Or.inl rfl) h kb k0
    · replace h := ite_f hc26_ h
      refine g_iconst C 1 (cK rfl) (by decide +kernel) ?_
      refine g_goto C 140 (off := 4) (by decide +kernel) (by decide) ?_
      refine g_sub (lo2 := [(2, 0), (0, x1), (0, x2), (0, x3), (9, 0), (0, x5)]) (lsb_v (lsb_v (lsb_v (lsb_v (lsb_c (lsb_v lsb_e)))))) ?_
      exact ok_Mo_judge_b140 C x1 x2 x3 x5 1 d hx1 hx2 hx3 hx5 (Or.inr rfl) h kb k0
  · replace h := ite_f hc25_ h
    refine g_sub (lo2 := [(2, 0), (0, x1), (0, x2), (0, x3), (0, x4), (9, 0)]) (lsb_v (lsb_v (lsb_v (lsb_v (lsb_v (lsb_c lsb_e)))))) ?_
    obtain rfl := Option.some.inj h
    exact k0 x1 x2 x3 x4 d rfl hx1 hx2 hx3 hx4
set_option maxHeartbeats 4000000 in
theorem ok_Mo_judge_n94 {p : Program} {l : Launch} {e : Env} {s : State} {m : MethodId} {args : Array Value} {below : List Frame} {meth : Method} {c : Code} {D : va_G} {cA : Nat → ClassId} {ad : Nat → Nat} {A : Nat → Prop} (C : Cx p s m args c prog_14_method_95_code 6 "PollBooksModel" D cA ad 1 A) {Q : State → Prop} {x : (Int × Int × Int × Int × Dt)} : ∀ (n : Nat) (x1 x2 x3 x4 x5 : Int) (d : Dt), c32 x1 → c32 x2 → c32 x3 → cb x4 → c32 x5 → lpF (fun q : Int × Int × Int × Int × Int × Dt => L_Mo_judge_y94 q.1 q.2.1 q.2.2.1 q.2.2.2.1 q.2.2.2.2.1 q.2.2.2.2.2) n (x1, x2, x3, x4, x5, d) = some x → (∀ (y0 y1 y2 y3 : Int) (e' : Dt), x = (y0, y1, y2, y3, e') → c32 y0 → c32 y1 → c32 y2 → cb y3 → G p l e rm_Mo_judge s m args below meth c 0 0 Q 6 D cA ad 1 A 148 [(2, 0), (0, y0), (0, y1), (0, y2), (0, y3), (9, 0)] [] e') → G p l e rm_Mo_judge s m args below meth c 0 0 Q 6 D cA ad 1 A 94 [(2, 0), (0, x1), (0, x2), (0, x3), (0, x4), (0, x5)] [] d := by
  intro n
  induction n with
  | zero => intro x1 x2 x3 x4 x5 d g0 g1 g2 g3 g4 h k0; cases h
  | succ n ih =>
    intro x1 x2 x3 x4 x5 d g0 g1 g2 g3 g4 h k0
    rcases lpF_some h with h | ⟨⟨v0_, v1_, v2_, v3_, v4_, e0_⟩, h1, h⟩
    · exact ok_Mo_judge_y94 C x1 x2 x3 x4 x5 d g0 g1 g2 g3 g4 h (fun z0_ z1_ z2_ z3_ z4_ e1_ eq w0_ w1_ w2_ w3_ w4_ => by cases eq) (fun z0_ z1_ z2_ z3_ e1_ eq w0_ w1_ w2_ w3_ => k0 _ _ _ _ _ (by cases eq; rfl) w0_ w1_ w2_ w3_)
    · exact ok_Mo_judge_y94 C x1 x2 x3 x4 x5 d g0 g1 g2 g3 g4 h1 (fun z0_ z1_ z2_ z3_ z4_ e1_ eq w0_ w1_ w2_ w3_ w4_ => by cases eq; exact ih _ _ _ _ _ _ w0_ w1_ w2_ w3_ w4_ h k0) (fun z0_ z1_ z2_ z3_ e1_ eq w0_ w1_ w2_ w3_ => by cases eq)
set_option maxHeartbeats 4000000 in
theorem ok_Mo_judge_l94 {p : Program} {l : Launch} {e : Env} {s : State} {m : MethodId} {args : Array Value} {below : List Frame} {meth : Method} {c : Code} {D : va_G} {cA : Nat → ClassId} {ad : Nat → Nat} {A : Nat → Prop} (C : Cx p s m args c prog_14_method_95_code 6 "PollBooksModel" D cA ad 1 A) {Q : State → Prop} {x : (Int × Int × Int × Int × Dt)} (x1 x2 x3 x4 x5 : Int) (d : Dt) (hx1 : c32 x1) (hx2 : c32 x2) (hx3 : c32 x3) (hx4 : cb x4) (hx5 : c32 x5) (h : L_Mo_judge_l94 x1 x2 x3 x4 x5 d = some x) (k0 : ∀ (y0 y1 y2 y3 : Int) (e' : Dt), x = (y0, y1, y2, y3, e') → c32 y0 → c32 y1 → c32 y2 → cb y3 → G p l e rm_Mo_judge s m args below meth c 0 0 Q 6 D cA ad 1 A 148 [(2, 0), (0, y0), (0, y1), (0, y2), (0, y3), (9, 0)] [] e') : G p l e rm_Mo_judge s m args below meth c 0 0 Q 6 D cA ad 1 A 94 [(2, 0), (0, x1), (0, x2), (0, x3), (0, x4), (0, x5)] [] d :=
  ok_Mo_judge_n94 C FU x1 x2 x3 x4 x5 d hx1 hx2 hx3 hx4 hx5 h k0
set_option maxHeartbeats 4000000 in
theorem ok_Mo_judge_b193 {p : Program} {l : Launch} {e : Env} {s : State} {m : MethodId} {args : Array Value} {below : List Frame} {meth : Method} {c : Code} {D : va_G} {cA : Nat → ClassId} {ad : Nat → Nat} {A : Nat → Prop} (C : Cx p s m args c prog_14_method_95_code 6 "PollBooksModel" D cA ad 1 A) {Q : State → Prop} {o : (Int × Int × Int × Int × Int × Dt) ⊕ ((Int × Int × Int × Int × Dt))} (x1 x2 x3 x5 s0 : Int) (d : Dt) (hx1 : c32 x1) (hx2 : c32 x2) (hx3 : c32 x3) (hx5 : c32 x5) (hs0 : cb s0) (h : L_Mo_judge_b193 x1 x2 x3 x5 s0 d = some o) (kb : ∀ (y0 y1 y2 y3 y4 : Int) (e' : Dt), o = .inl (y0, y1, y2, y3, y4, e') → c32 y0 → c32 y1 → c32 y2 → cb y3 → c32 y4 → G p l e rm_Mo_judge s m args below meth c 0 0 Q 6 D cA ad 1 A 151 [(2, 0), (0, y0), (0, y1), (0, y2), (0, y3), (0, y4)] [] e') (k0 : ∀ (y0 y1 y2 y3 : Int) (e' : Dt), o = .inr (y0, y1, y2, y3, e') → c32 y0 → c32 y1 → c32 y2 → cb y3 → G p l e rm_Mo_judge s m args below meth c 0 0 Q 6 D cA ad 1 A 201 [(2, 0), (0, y0), (0, y1), (0, y2), (0, y3), (9, 0)] [] e') : G p l e rm_Mo_judge s m args below meth c 0 0 Q 6 D cA ad 1 A 193 [(2, 0), (0, x1), (0, x2), (0, x3), (9, 0), (0, x5)] [(0, s0)] d := by
  unfold L_Mo_judge_b193 at h
  refine s_istore C 4 (lo' := [(2, 0), (0, x1), (0, x2), (0, x3), (0, s0), (0, x5)]) (by decide) (s1k (s1k (s1k (s1n (by decide) s1z)))) (by decide +kernel) ?_
  refine s_iinc C 5 1 (lo' := [(2, 0), (0, x1), (0, x2), (0, x3), (0, s0), (0, (w32 (x5 + 1)))]) rfl (by decide) (s1k (s1k (s1k (s1k (s1n (by decide) s1z))))) (by decide +kernel) ?_
  refine g_goto C 151 (off := (-47)) (by decide +kernel) (by decide) ?_
  refine g_sub (lo2 := [(2, 0), (0, x1), (0, x2), (0, x3), (0, s0), (0, (w32 (x5 + 1)))]) (lsb_v (lsb_v (lsb_v (lsb_v (lsb_v (lsb_v lsb_e)))))) ?_
  obtain rfl := Option.some.inj h
  exact kb x1 x2 x3 s0 (w32 (x5 + 1)) d rfl hx1 hx2 hx3 hs0 (w32_c _)
set_option maxHeartbeats 4000000 in
theorem ok_Mo_judge_y151 {p : Program} {l : Launch} {e : Env} {s : State} {m : MethodId} {args : Array Value} {below : List Frame} {meth : Method} {c : Code} {D : va_G} {cA : Nat → ClassId} {ad : Nat → Nat} {A : Nat → Prop} (C : Cx p s m args c prog_14_method_95_code 6 "PollBooksModel" D cA ad 1 A) {Q : State → Prop} {o : (Int × Int × Int × Int × Int × Dt) ⊕ ((Int × Int × Int × Int × Dt))} (x1 x2 x3 x4 x5 : Int) (d : Dt) (hx1 : c32 x1) (hx2 : c32 x2) (hx3 : c32 x3) (hx4 : cb x4) (hx5 : c32 x5) (h : L_Mo_judge_y151 x1 x2 x3 x4 x5 d = some o) (kb : ∀ (y0 y1 y2 y3 y4 : Int) (e' : Dt), o = .inl (y0, y1, y2, y3, y4, e') → c32 y0 → c32 y1 → c32 y2 → cb y3 → c32 y4 → G p l e rm_Mo_judge s m args below meth c 0 0 Q 6 D cA ad 1 A 151 [(2, 0), (0, y0), (0, y1), (0, y2), (0, y3), (0, y4)] [] e') (k0 : ∀ (y0 y1 y2 y3 : Int) (e' : Dt), o = .inr (y0, y1, y2, y3, e') → c32 y0 → c32 y1 → c32 y2 → cb y3 → G p l e rm_Mo_judge s m args below meth c 0 0 Q 6 D cA ad 1 A 201 [(2, 0), (0, y0), (0, y1), (0, y2), (0, y3), (9, 0)] [] e') : G p l e rm_Mo_judge s m args below meth c 0 0 Q 6 D cA ad 1 A 151 [(2, 0), (0, x1), (0, x2), (0, x3), (0, x4), (0, x5)] [] d := by
  unfold L_Mo_judge_y151 at h
  refine g_iload C 5 rfl (by decide +kernel) ?_
  refine g_iload_n C 3 rfl (by decide +kernel) ?_
  refine g_icmp_ge C (off := 47) (tgt := 201) hx5 hx3 (by decide +kernel) (by decide) (fun hc37_ => ?_) (fun hc37_ => ?_)
  · replace h := ite_t hc37_ h
    refine g_iload C 4 rfl (by decide +kernel) ?_
    refine g_if_ne C (off := 29) (tgt := 188) (c32_cb hx4) (by decide +kernel) (by decide) (fun hc38_ => ?_) (fun hc38_ => ?_)
    · replace h := ite_t hc38_ h
      refine g_aload_n C 0 rfl (by decide +kernel) ?_
      refine g_getR C cl12 0 85 63 rfl cd_B0 ⟨by decide, rfl, by decide⟩ rfl rfl (nB (by decide)) (ix := 212) lk_1487 (by decide +kernel) ?_
      refine g_iload C 5 rfl (by decide +kernel) ?_
      obtain ⟨hb39_, h⟩ := ck_some h
      refine g_iald C 63 hx5 rfl cd_B63 (nB (by decide)) hb39_ (by decide +kernel) (fun hc40_ => ?_)
      refine g_if_ne C (off := 23) (tgt := 192) hc40_ (by decide +kernel) (by decide) (fun hc41_ => ?_) (fun hc41_ => ?_)
      · replace h := ite_t hc41_ h
        refine g_aload_n C 0 rfl (by decide +kernel) ?_
        refine g_getR C cl12 0 81 59 rfl cd_B0 ⟨by decide, rfl, by decide⟩ rfl rfl (nB (by decide)) (ix := 200) lk_1483 (by decide +kernel) ?_
        refine g_iload C 5 rfl (by decide +kernel) ?_
        obtain ⟨hb42_, h⟩ := ck_some h
        refine g_iald C 59 hx5 rfl cd_B59 (nB (by decide)) hb42_ (by decide +kernel) (fun hc43_ => ?_)
        refine g_aload_n C 0 rfl (by decide +kernel) ?_
        refine g_getR C cl12 0 81 59 rfl cd_B0 ⟨by decide, rfl, by decide⟩ rfl rfl (nB (by decide)) (ix := 200) lk_1483 (by decide +kernel) ?_
        refine g_iload_n C 3 rfl (by decide +kernel) ?_
        obtain ⟨hb44_, h⟩ := ck_some h
        refine g_iald C 59 hx3 rfl cd_B59 (nB (by decide)) hb44_ (by decide +kernel) (fun hc45_ => ?_)
        refine g_icmp_ne C (off := 7) (tgt := 192) hc43_ hc45_ (by decide +kernel) (by decide) (fun hc46_ => ?_) (fun hc46_ => ?_)
        · replace h := ite_t hc46_ h
          refine g_iconst C 1 (cK rfl) (by decide +kernel) ?_
          refine g_goto C 193 (off := 4) (by decide +kernel) (by decide) ?_
          refine g_sub (lo2 := [(2, 0), (0, x1), (0, x2), (0, x3), (9, 0), (0, x5)]) (lsb_v (lsb_v (lsb_v (lsb_v (lsb_c (lsb_v lsb_e)))))) ?_
          exact ok_Mo_judge_b193 C x1 x2 x3 x5 1 d hx1 hx2 hx3 hx5 (Or.inr rfl) h kb k0
        · replace h := ite_f hc46_ h
          refine g_iconst C 0 (cK rfl) (by decide +kernel) ?_
          refine g_sub (lo2 := [(2, 0), (0, x1), (0, x2), (0, x3), (9, 0), (0, x5)]) (lsb_v (lsb_v (lsb_v (lsb_v (lsb_c (lsb_v lsb_e)))))) ?_
          exact ok_Mo_judge_b193 C x1 x2 x3 x5 0 d hx1 hx2 hx3 hx5 (Or.inl rfl) h kb k0
      · replace h := ite_f hc41_ h
        refine g_iconst C 0 (cK rfl) (by decide +kernel) ?_
        refine g_sub (lo2 := [(2, 0), (0, x1), (0, x2), (0, x3), (9, 0), (0, x5)]) (lsb_v (lsb_v (lsb_v (lsb_v (lsb_c (lsb_v lsb_e)))))) ?_
        exact ok_Mo_judge_b193 C x1 x2 x3 x5 0 d hx1 hx2 hx3 hx5 (Or.inl rfl) h kb k0
    · replace h := ite_f hc38_ h
      refine g_iconst C 1 (cK rfl) (by decide +kernel) ?_
      refine g_goto C 193 (off := 4) (by decide +kernel) (by decide) ?_
      refine g_sub (lo2 := [(2, 0), (0, x1), (0, x2), (0, x3), (9, 0), (0, x5)]) (lsb_v (lsb_v (lsb_v (lsb_v (lsb_c (lsb_v lsb_e)))))) ?_
      exact ok_Mo_judge_b193 C x1 x2 x3 x5 1 d hx1 hx2 hx3 hx5 (Or.inr rfl) h kb k0
  · replace h := ite_f hc37_ h
    refine g_sub (lo2 := [(2, 0), (0, x1), (0, x2), (0, x3), (0, x4), (9, 0)]) (lsb_v (lsb_v (lsb_v (lsb_v (lsb_v (lsb_c lsb_e)))))) ?_
    obtain rfl := Option.some.inj h
    exact k0 x1 x2 x3 x4 d rfl hx1 hx2 hx3 hx4
set_option maxHeartbeats 4000000 in
theorem ok_Mo_judge_n151 {p : Program} {l : Launch} {e : Env} {s : State} {m : MethodId} {args : Array Value} {below : List Frame} {meth : Method} {c : Code} {D : va_G} {cA : Nat → ClassId} {ad : Nat → Nat} {A : Nat → Prop} (C : Cx p s m args c prog_14_method_95_code 6 "PollBooksModel" D cA ad 1 A) {Q : State → Prop} {x : (Int × Int × Int × Int × Dt)} : ∀ (n : Nat) (x1 x2 x3 x4 x5 : Int) (d : Dt), c32 x1 → c32 x2 → c32 x3 → cb x4 → c32 x5 → lpF (fun q : Int × Int × Int × Int × Int × Dt => L_Mo_judge_y151 q.1 q.2.1 q.2.2.1 q.2.2.2.1 q.2.2.2.2.1 q.2.2.2.2.2) n (x1, x2, x3, x4, x5, d) = some x → (∀ (y0 y1 y2 y3 : Int) (e' : Dt), x = (y0, y1, y2, y3, e') → c32 y0 → c32 y1 → c32 y2 → cb y3 → G p l e rm_Mo_judge s m args below meth c 0 0 Q 6 D cA ad 1 A 201 [(2, 0), (0, y0), (0, y1), (0, y2), (0, y3), (9, 0)] [] e') → G p l e rm_Mo_judge s m args below meth c 0 0 Q 6 D cA ad 1 A 151 [(2, 0), (0, x1), (0, x2), (0, x3), (0, x4), (0, x5)] [] d := by
  intro n
  induction n with
  | zero => intro x1 x2 x3 x4 x5 d g0 g1 g2 g3 g4 h k0; cases h
  | succ n ih =>
    intro x1 x2 x3 x4 x5 d g0 g1 g2 g3 g4 h k0
    rcases lpF_some h with h | ⟨⟨v0_, v1_, v2_, v3_, v4_, e0_⟩, h1, h⟩
    · exact ok_Mo_judge_y151 C x1 x2 x3 x4 x5 d g0 g1 g2 g3 g4 h (fun z0_ z1_ z2_ z3_ z4_ e1_ eq w0_ w1_ w2_ w3_ w4_ => by cases eq) (fun z0_ z1_ z2_ z3_ e1_ eq w0_ w1_ w2_ w3_ => k0 _ _ _ _ _ (by cases eq; rfl) w0_ w1_ w2_ w3_)
    · exact ok_Mo_judge_y151 C x1 x2 x3 x4 x5 d g0 g1 g2 g3 g4 h1 (fun z0_ z1_ z2_ z3_ z4_ e1_ eq w0_ w1_ w2_ w3_ w4_ => by cases eq; exact ih _ _ _ _ _ _ w0_ w1_ w2_ w3_ w4_ h k0) (fun z0_ z1_ z2_ z3_ e1_ eq w0_ w1_ w2_ w3_ => by cases eq)
set_option maxHeartbeats 4000000 in
theorem ok_Mo_judge_l151 {p : Program} {l : Launch} {e : Env} {s : State} {m : MethodId} {args : Array Value} {below : List Frame} {meth : Method} {c : Code} {D : va_G} {cA : Nat → ClassId} {ad : Nat → Nat} {A : Nat → Prop} (C : Cx p s m args c prog_14_method_95_code 6 "PollBooksModel" D cA ad 1 A) {Q : State → Prop} {x : (Int × Int × Int × Int × Dt)} (x1 x2 x3 x4 x5 : Int) (d : Dt) (hx1 : c32 x1) (hx2 : c32 x2) (hx3 : c32 x3) (hx4 : cb x4) (hx5 : c32 x5) (h : L_Mo_judge_l151 x1 x2 x3 x4 x5 d = some x) (k0 : ∀ (y0 y1 y2 y3 : Int) (e' : Dt), x = (y0, y1, y2, y3, e') → c32 y0 → c32 y1 → c32 y2 → cb y3 → G p l e rm_Mo_judge s m args below meth c 0 0 Q 6 D cA ad 1 A 201 [(2, 0), (0, y0), (0, y1), (0, y2), (0, y3), (9, 0)] [] e') : G p l e rm_Mo_judge s m args below meth c 0 0 Q 6 D cA ad 1 A 151 [(2, 0), (0, x1), (0, x2), (0, x3), (0, x4), (0, x5)] [] d :=
  ok_Mo_judge_n151 C FU x1 x2 x3 x4 x5 d hx1 hx2 hx3 hx4 hx5 h k0
set_option maxHeartbeats 4000000 in
theorem ok_Mo_judge_b239 {p : Program} {l : Launch} {e : Env} {s : State} {m : MethodId} {args : Array Value} {below : List Frame} {meth : Method} {c : Code} {D : va_G} {cA : Nat → ClassId} {ad : Nat → Nat} {A : Nat → Prop} (C : Cx p s m args c prog_14_method_95_code 6 "PollBooksModel" D cA ad 1 A) {Q : State → Prop} {o : (Int × Int × Int × Dt) ⊕ ((Dt))} (x1 x2 x3 s1 s2 : Int) (d : Dt) (hx1 : c32 x1) (hx2 : c32 x2) (hx3 : c32 x3) (hs1 : c32 s1) (hs2 : c32 s2) (h : L_Mo_judge_b239 x1 x2 x3 s1 s2 d = some o) (kb : ∀ (y0 y1 y2 : Int) (e' : Dt), o = .inl (y0, y1, y2, e') → c32 y0 → c32 y1 → c32 y2 → G p l e rm_Mo_judge s m args below meth c 0 0 Q 6 D cA ad 1 A 80 [(2, 0), (0, y0), (0, y1), (0, y2), (9, 0), (9, 0)] [] e') (k0 : ∀ (e' : Dt), o = .inr (e') → G p l e rm_Mo_judge s m args below meth c 0 0 Q 6 D cA ad 1 A 246 [(9, 0), (9, 0), (9, 0), (9, 0), (9, 0), (9, 0)] [] e') : G p l e rm_Mo_judge s m args below meth c 0 0 Q 6 D cA ad 1 A 239 [(2, 0), (0, x1), (0, x2), (0, x3), (9, 0), (9, 0)] [(0, s2), (0, s1), (2, 63)] d := by
  unfold L_Mo_judge_b239 at h
  obtain ⟨hb47_, h⟩ := ck_some h
  refine g_iast C 63 hs2 hs1 rfl cd_B63 (nB (by decide)) hb47_ (by decide +kernel) ?_
  refine s_iinc C 3 1 (lo' := [(2, 0), (0, x1), (0, x2), (0, (w32 (x3 + 1))), (9, 0), (9, 0)]) rfl (by decide) (s1k (s1k (s1n (by decide) s1z))) (by decide +kernel) ?_
  refine g_goto C 80 (off := (-163)) (by decide +kernel) (by decide) ?_
  refine g_sub (lo2 := [(2, 0), (0, x1), (0, x2), (0, (w32 (x3 + 1))), (9, 0), (9, 0)]) (lsb_v (lsb_v (lsb_v (lsb_v (lsb_c (lsb_c lsb_e)))))) ?_
  obtain rfl := Option.some.inj h
  exact kb x1 x2 (w32 (x3 + 1)) (up2 d 63 s1.toNat s2) rfl hx1 hx2 (w32_c _)
set_option maxHeartbeats 4000000 in
theorem ok_Mo_judge_y80 {p : Program} {l : Launch} {e : Env} {s : State} {m : MethodId} {args : Array Value} {below : List Frame} {meth : Method} {c : Code} {D : va_G} {cA : Nat → ClassId} {ad : Nat → Nat} {A : Nat → Prop} (C : Cx p s m args c prog_14_method_95_code 6 "PollBooksModel" D cA ad 1 A) {Q : State → Prop} {o : (Int × Int × Int × Dt) ⊕ ((Dt))} (x1 x2 x3 : Int) (d : Dt) (hx1 : c32 x1) (hx2 : c32 x2) (hx3 : c32 x3) (h : L_Mo_judge_y80 x1 x2 x3 d = some o) (kb : ∀ (y0 y1 y2 : Int) (e' : Dt), o = .inl (y0, y1, y2, e') → c32 y0 → c32 y1 → c32 y2 → G p l e rm_Mo_judge s m args below meth c 0 0 Q 6 D cA ad 1 A 80 [(2, 0), (0, y0), (0, y1), (0, y2), (9, 0), (9, 0)] [] e') (k0 : ∀ (e' : Dt), o = .inr (e') → G p l e rm_Mo_judge s m args below meth c 0 0 Q 6 D cA ad 1 A 246 [(9, 0), (9, 0), (9, 0), (9, 0), (9, 0), (9, 0)] [] e') : G p l e rm_Mo_judge s m args below meth c 0 0 Q 6 D cA ad 1 A 80 [(2, 0), (0, x1), (0, x2), (0, x3), (9, 0), (9, 0)] [] d := by
  unfold L_Mo_judge_y80 at h
  refine g_iload_n C 3 rfl (by decide +kernel) ?_
  refine g_aload_n C 0 rfl (by decide +kernel) ?_
  refine g_getI C cl12 0 87 rfl cd_B0 ⟨by decide, rfl, by decide⟩ rfl (nB (by decide)) (ix := 564) lk_1489 (by decide +kernel) (fun hc48_ => ?_)
  refine g_icmp_ge C (off := 161) (tgt := 246) hx3 hc48_ (by decide +kernel) (by decide) (fun hc49_ => ?_) (fun hc49_ => ?_)
  · replace h := ite_t hc49_ h
    refine g_iconst C 0 (cK rfl) (by decide +kernel) ?_
    refine s_istore C 4 (lo' := [(2, 0), (0, x1), (0, x2), (0, x3), (0, 0), (9, 0)]) (by decide) (s1k (s1k (s1k (s1n (by decide) s1z)))) (by decide +kernel) ?_
    refine g_iconst C 0 (cK rfl) (by decide +kernel) ?_
    refine s_istore C 5 (lo' := [(2, 0), (0, x1), (0, x2), (0, x3), (0, 0), (0, 0)]) (by decide) (s1k (s1k (s1k (s1k (s1n (by decide) s1z))))) (by decide +kernel) ?_
    refine g_sub (lo2 := [(2, 0), (0, x1), (0, x2), (0, x3), (0, 0), (0, 0)]) (lsb_v (lsb_v (lsb_v (lsb_v (lsb_v (lsb_v lsb_e)))))) ?_
    obtain ⟨x50_, hx51_, h⟩ := lb_some h
    refine ok_Mo_judge_l94 C x1 x2 x3 0 0 d hx1 hx2 hx3 (Or.inl rfl) (c32_cb (Or.inl rfl)) hx51_ (fun v52_ v53_ v54_ v55_ d56_ eq57_ hv52_ hv53_ hv54_ hv55_ => ?_)
    subst eq57_
    replace h := u4_e h
    refine g_iconst C 0 (cK rfl) (by decide +kernel) ?_
    refine s_istore C 5 (lo' := [(2, 0), (0, v52_), (0, v53_), (0, v54_), (0, v55_), (0, 0)]) (by decide) (s1k (s1k (s1k (s1k (s1n (by decide) s1z))))) (by decide +kernel) ?_
    refine g_sub (lo2 := [(2, 0), (0, v52_), (0, v53_), (0, v54_), (0, v55_), (0, 0)]) (lsb_v (lsb_v (lsb_v (lsb_v (lsb_v (lsb_v lsb_e)))))) ?_
    obtain ⟨x58_, hx59_, h⟩ := lb_some h
    refine ok_Mo_judge_l151 C v52_ v53_ v54_ v55_ 0 d56_ hv52_ hv53_ hv54_ hv55_ (c32_cb (Or.inl rfl)) hx59_ (fun v60_ v61_ v62_ v63_ d64_ eq65_ hv60_ hv61_ hv62_ hv63_ => ?_)
    subst eq65_
    replace h := u4_e h
    refine g_aload_n C 0 rfl (by decide +kernel) ?_
    refine g_getR C cl12 0 85 63 rfl cd_B0 ⟨by decide, rfl, by decide⟩ rfl rfl (nB (by decide)) (ix := 212) lk_1487 (by decide +kernel) ?_
    refine g_iload_n C 3 rfl (by decide +kernel) ?_
    refine g_iload C 4 rfl (by decide +kernel) ?_
    refine g_if_eq C (off := 7) (tgt := 215) (c32_cb hv63_) (by decide +kernel) (by decide) (fun hc66_ => ?_) (fun hc66_ => ?_)
    · replace h := ite_t hc66_ h
      refine g_aload_n C 0 rfl (by decide +kernel) ?_
      refine g_aload_n C 0 rfl (by decide +kernel) ?_
      refine g_getR C cl12 0 81 59 rfl cd_B0 ⟨by decide, rfl, by decide⟩ rfl rfl (nB (by decide)) (ix := 200) lk_1483 (by decide +kernel) ?_
      refine g_iload_n C 3 rfl (by decide +kernel) ?_
      obtain ⟨hb67_, h⟩ := ck_some h
      refine g_iald C 59 hv62_ rfl cd_B59 (nB (by decide)) hb67_ (by decide +kernel) (fun hc68_ => ?_)
      refine g_iload_n C 1 rfl (by decide +kernel) ?_
      refine g_iload_n C 2 rfl (by decide +kernel) ?_
      refine g_aload_n C 0 rfl (by decide +kernel) ?_
      refine g_getR C cl12 0 83 61 rfl cd_B0 ⟨by decide, rfl, by decide⟩ rfl rfl (nB (by decide)) (ix := 206) lk_1485 (by decide +kernel) ?_
      refine g_iload_n C 3 rfl (by decide +kernel) ?_
      obtain ⟨hb69_, h⟩ := ck_some h
      refine g_iald C 61 hv62_ rfl cd_B61 (nB (by decide)) hb69_ (by decide +kernel) (fun hc70_ => ?_)
      refine g_aload_n C 0 rfl (by decide +kernel) ?_
      refine g_getR C cl12 0 82 60 rfl cd_B0 ⟨by decide, rfl, by decide⟩ rfl rfl (nB (by decide)) (ix := 203) lk_1484 (by decide +kernel) ?_
      refine g_iload_n C 3 rfl (by decide +kernel) ?_
      obtain ⟨hb71_, h⟩ := ck_some h
      refine g_iald C 60 hv62_ rfl cd_B60 (nB (by decide)) hb71_ (by decide +kernel) (fun hc72_ => ?_)
      obtain ⟨r74_, d73_, hr75_, h⟩ := bd_some h
      refine g_callV C mw_Mo_byLaw [(0, (d64_ 59 v62_.toNat)), (0, v60_), (0, v61_), (0, (d64_ 61 v62_.toNat)), (0, (d64_ 60 v62_.toNat))] 0 cl12 rfl (ok_Mo_byLaw (d64_ 59 v62_.toNat) v60_ v61_ (d64_ 61 v62_.toNat) (d64_ 60 v62_.toNat) d64_ hc68_ hv60_ hv61_ hc70_ hc72_ hr75_) cd_B0 (by decide) (nB (by decide)) (ix := 570) lk_2148 lk_2150 lkp_104 ⟨rfl, rfl, Nat.le_of_ble_eq_true rfl, Nat.le_of_ble_eq_true rfl⟩ rfl (rest := [(0, v62_), (2, 63)]) rfl (Nat.le_of_ble_eq_true rfl) ⟨Nat.zero_le _, Nat.zero_le _⟩ (by decide +kernel) (fun _ hc76_ => ?_)
      replace hc76_ : c32 r74_ := hc76_
      refine g_st (st2 := [(0, r74_), (0, v62_), (2, 63)]) rfl ?_
      refine g_sub (lo2 := [(2, 0), (0, v60_), (0, v61_), (0, v62_), (9, 0), (9, 0)]) (lsb_v (lsb_v (lsb_v (lsb_v (lsb_c (lsb_c lsb_e)))))) ?_
      exact ok_Mo_judge_b239 C v60_ v61_ v62_ v62_ r74_ d73_ hv60_ hv61_ hv62_ hv62_ hc76_ h kb k0
    · replace h := ite_f hc66_ h
      refine g_iconst C 2 (cK rfl) (by decide +kernel) ?_
      refine g_goto C 239 (off := 27) (by decide +kernel) (by decide) ?_
      refine g_sub (lo2 := [(2, 0), (0, v60_), (0, v61_), (0, v62_), (9, 0), (9, 0)]) (lsb_v (lsb_v (lsb_v (lsb_v (lsb_c (lsb_c lsb_e)))))) ?_
      exact ok_Mo_judge_b239 C v60_ v61_ v62_ v62_ 2 d64_ hv60_ hv61_ hv62_ hv62_ (cK rfl) h kb k0
  · replace h := ite_f hc49_ h
    refine g_sub (lo2 := [(9, 0), (9, 0), (9, 0), (9, 0), (9, 0), (9, 0)]) (lsb_c (lsb_c (lsb_c (lsb_c (lsb_c (lsb_c lsb_e)))))) ?_
    obtain rfl := Option.some.inj h
    exact k0 d rfl 
set_option maxHeartbeats 4000000 in
theorem ok_Mo_judge_n80 {p : Program} {l : Launch} {e : Env} {s : State} {m : MethodId} {args : Array Value} {below : List Frame} {meth : Method} {c : Code} {D : va_G} {cA : Nat → ClassId} {ad : Nat → Nat} {A : Nat → Prop} (C : Cx p s m args c prog_14_method_95_code 6 "PollBooksModel" D cA ad 1 A) {Q : State → Prop} {x : (Dt)} : ∀ (n : Nat) (x1 x2 x3 : Int) (d : Dt), c32 x1 → c32 x2 → c32 x3 → lpF (fun q : Int × Int × Int × Dt => L_Mo_judge_y80 q.1 q.2.1 q.2.2.1 q.2.2.2) n (x1, x2, x3, d) = some x → (∀ (e' : Dt), x = (e') → G p l e rm_Mo_judge s m args below meth c 0 0 Q 6 D cA ad 1 A 246 [(9, 0), (9, 0), (9, 0), (9, 0), (9, 0), (9, 0)] [] e') → G p l e rm_Mo_judge s m args below meth c 0 0 Q 6 D cA ad 1 A 80 [(2, 0), (0, x1), (0, x2), (0, x3), (9, 0), (9, 0)] [] d := by
  intro n
  induction n with
  | zero => intro x1 x2 x3 d g0 g1 g2 h k0; cases h
  | succ n ih =>
    intro x1 x2 x3 d g0 g1 g2 h k0
    rcases lpF_some h with h | ⟨⟨v0_, v1_, v2_, e0_⟩, h1, h⟩
    · exact ok_Mo_judge_y80 C x1 x2 x3 d g0 g1 g2 h (fun z0_ z1_ z2_ e1_ eq w0_ w1_ w2_ => by cases eq) (fun e1_ eq => k0 _ (by cases eq; rfl) )
    · exact ok_Mo_judge_y80 C x1 x2 x3 d g0 g1 g2 h1 (fun z0_ z1_ z2_ e1_ eq w0_ w1_ w2_ => by cases eq; exact ih _ _ _ _ w0_ w1_ w2_ h k0) (fun e1_ eq => by cases eq)
set_option maxHeartbeats 4000000 in
theorem ok_Mo_judge_l80 {p : Program} {l : Launch} {e : Env} {s : State} {m : MethodId} {args : Array Value} {below : List Frame} {meth : Method} {c : Code} {D : va_G} {cA : Nat → ClassId} {ad : Nat → Nat} {A : Nat → Prop} (C : Cx p s m args c prog_14_method_95_code 6 "PollBooksModel" D cA ad 1 A) {Q : State → Prop} {x : (Dt)} (x1 x2 x3 : Int) (d : Dt) (hx1 : c32 x1) (hx2 : c32 x2) (hx3 : c32 x3) (h : L_Mo_judge_l80 x1 x2 x3 d = some x) (k0 : ∀ (e' : Dt), x = (e') → G p l e rm_Mo_judge s m args below meth c 0 0 Q 6 D cA ad 1 A 246 [(9, 0), (9, 0), (9, 0), (9, 0), (9, 0), (9, 0)] [] e') : G p l e rm_Mo_judge s m args below meth c 0 0 Q 6 D cA ad 1 A 80 [(2, 0), (0, x1), (0, x2), (0, x3), (9, 0), (9, 0)] [] d :=
  ok_Mo_judge_n80 C FU x1 x2 x3 d hx1 hx2 hx3 h k0
set_option maxHeartbeats 4000000 in
theorem ok_Mo_judge {l : Launch} {r : Int} {d' : Dt} (p1 p2 : Int) (d : Dt) (hp1 : c32 p1) (hp2 : c32 p2) (h : L_Mo_judge p1 p2 d = some (r, d')) : MC l y_Mo_judge prog_14_method_95_code 6 none rm_Mo_judge 1 [(2, 0), (0, p1), (0, p2)] d none d' := by
  refine MC.of (by decide) (Nat.le_of_ble_eq_true rfl) ?_
  intro p e s m args below meth c D cA ad A C hlk hr
  replace C : Cx p s m args c prog_14_method_95_code 6 "PollBooksModel" D cA ad 1 A := C
  show G p l e rm_Mo_judge s m args below meth c 0 0 (MQ below (fun _ => QC D cA ad 1 A none none d') args s 0 0 A) 6 D cA ad 1 A 0 [(2, 0), (0, p1), (0, p2)] [] d
  refine g_sub (lo2 := [(2, 0), (0, p1), (0, p2), (9, 0), (9, 0), (9, 0)]) (lsb_v (lsb_v (lsb_v (lsb_n (lsb_n (lsb_n lsb_e)))))) ?_
  unfold L_Mo_judge at h
  refine g_aload_n C 0 rfl (by decide +kernel) ?_
  obtain ⟨r80_, d79_, hr81_, h⟩ := bd_some h
  refine g_callV C mw_Mo_joinAll [] 0 cl12 rfl (ok_Mo_joinAll  d  hr81_) cd_B0 (by decide) (nB (by decide)) (ix := 544) lk_2096 lk_2098 lkp_99 ⟨rfl, rfl, Nat.le_of_ble_eq_true rfl, Nat.le_of_ble_eq_true rfl⟩ rfl (rest := []) rfl (Nat.le_of_ble_eq_true rfl) ⟨Nat.zero_le _, Nat.zero_le _⟩ (by decide +kernel) (fun _ hc82_ => ?_)
  refine g_st (st2 := []) rfl ?_
  refine g_iconst C 0 (cK rfl) (by decide +kernel) ?_
  refine s_istore_n C 3 (lo' := [(2, 0), (0, p1), (0, p2), (0, 0), (9, 0), (9, 0)]) (by decide) (s1k (s1k (s1n (by decide) s1z))) (by decide +kernel) ?_
  refine g_sub (lo2 := [(2, 0), (0, p1), (0, p2), (0, 0), (9, 0), (9, 0)]) (lsb_v (lsb_v (lsb_v (lsb_v (lsb_c (lsb_c lsb_e)))))) ?_
  obtain ⟨x83_, hx84_, h⟩ := lb_some h
  refine ok_Mo_judge_l6 C p1 p2 0 d79_ hp1 hp2 (c32_cb (Or.inl rfl)) hx84_ (fun v85_ v86_ d87_ eq88_ hv85_ hv86_ => ?_)
  subst eq88_
  replace h := u2_e h
  refine g_iconst C 0 (cK rfl) (by decide +kernel) ?_
  refine s_istore_n C 3 (lo' := [(2, 0), (0, v85_), (0, v86_), (0, 0), (9, 0), (9, 0)]) (by decide) (s1k (s1k (s1n (by decide) s1z))) (by decide +kernel) ?_
  refine g_sub (lo2 := [(2, 0), (0, v85_), (0, v86_), (0, 0), (9, 0), (9, 0)]) (lsb_v (lsb_v (lsb_v (lsb_v (lsb_c (lsb_c lsb_e)))))) ?_
  obtain ⟨x89_, hx90_, h⟩ := lb_some h
  refine ok_Mo_judge_l80 C v85_ v86_ 0 d87_ hv85_ hv86_ (c32_cb (Or.inl rfl)) hx90_ (fun d91_ eq92_ => ?_)
  replace eq92_ := eq92_.symm
  subst eq92_
  replace h := u0_e h
  obtain ⟨rfl, rfl⟩ := ret_inj h
  exact g_vret C hlk hr (by decide +kernel)
/-! PollBooksModel.standing(III)I -/
def y_Mo_standing : MethodName := ⟨"PollBooksModel", "standing", "(III)I"⟩
def rm_Mo_standing : Room := { frames := 7, cells := 0, slots := 0, locals := 181 }
theorem mw_Mo_standing : MW y_Mo_standing prog_14_method_96_code 4 (some .int) 3 := ⟨lk_2143, lk_14, by decide +kernel⟩
def L_Mo_standing_b22 (d : Dt) : Option (Int × Dt) :=
  bd (L_Mo_refuse 1 d) (fun r2_ d1_ => some (r2_, d1_))
def L_Mo_standing (p1 p2 p3 : Int) (d : Dt) : Option (Int × Dt) :=
  bd (L_Mo_isEntry p1 d) (fun r6_ d5_ => if r6_ = 0 then L_Mo_standing_b22 d5_ else bd (L_Mo_isPlace p2 d5_) (fun r11_ d10_ => if r11_ = 0 then L_Mo_standing_b22 d10_ else bd (L_Mo_isDay p3 d10_) (fun r16_ d15_ => if r16_ = 0 then L_Mo_standing_b22 d15_ else bd (L_Mo_judge p2 p3 d15_) (fun r21_ d20_ => ck ((0 : Int) ≤ p1 ∧ p1 < 30) (bd (L_Mo_gives (d20_ 62 p1.toNat) d20_) (fun r27_ d26_ => some (r27_, d26_)))))))
set_option maxHeartbeats 4000000 in
theorem ok_Mo_standing_b22 {p : Program} {l : Launch} {e : Env} {s : State} {m : MethodId} {args : Array Value} {below : List Frame} {meth : Method} {c : Code} {D : va_G} {cA : Nat → ClassId} {ad : Nat → Nat} {A : Nat → Prop} (C : Cx p s m args c prog_14_method_96_code 4 "PollBooksModel" D cA ad 1 A) (hlk : meth.locks = false) (hr : meth.sig.returnType = (some .int)) {r : Int} {d' : Dt} (d : Dt)  (h : L_Mo_standing_b22 d = some (r, d')) : G p l e rm_Mo_standing s m args below meth c 0 0 (MQ below (fun _ => QC D cA ad 1 A (some .int) (some (0, r)) d') args s 0 0 A) 4 D cA ad 1 A 22 [(2, 0), (9, 0), (9, 0), (9, 0)] [] d := by
  unfold L_Mo_standing_b22 at h
  refine g_aload_n C 0 rfl (by decide +kernel) ?_
  refine g_iconst C 1 (cK rfl) (by decide +kernel) ?_
  obtain ⟨r2_, d1_, hr3_, h⟩ := bd_some h
  refine g_callV C mw_Mo_refuse [(0, 1)] 0 cl12 rfl (ok_Mo_refuse 1 d (c32_cb (Or.inr rfl)) hr3_) cd_B0 (by decide) (nB (by decide)) (ix := 316) lk_1787 lk_1789 lkp_61 ⟨rfl, rfl, Nat.le_of_ble_eq_true rfl, Nat.le_of_ble_eq_true rfl⟩ rfl (rest := []) rfl (Nat.le_of_ble_eq_true rfl) ⟨Nat.zero_le _, Nat.zero_le _⟩ (by decide +kernel) (fun _ hc4_ => ?_)
  replace hc4_ : c32 r2_ := hc4_
  refine g_st (st2 := [(0, r2_)]) rfl ?_
  obtain ⟨rfl, rfl⟩ := ret_inj h
  exact g_iret C hc4_ hlk hr (by decide +kernel)
set_option maxHeartbeats 4000000 in
theorem ok_Mo_standing {l : Launch} {r : Int} {d' : Dt} (p1 p2 p3 : Int) (d : Dt) (hp1 : c32 p1) (hp2 : c32 p2) (hp3 : c32 p3) (h : L_Mo_standing p1 p2 p3 d = some (r, d')) : MC l y_Mo_standing prog_14_method_96_code 4 (some .int) rm_Mo_standing 1 [(2, 0), (0, p1), (0, p2), (0, p3)] d (some (0, r)) d' := by
  refine MC.of (by decide) (Nat.le_of_ble_eq_true rfl) ?_
  intro p e s m args below meth c D cA ad A C hlk hr
  replace C : Cx p s m args c prog_14_method_96_code 4 "PollBooksModel" D cA ad 1 A := C
  show G p l e rm_Mo_standing s m args below meth c 0 0 (MQ below (fun _ => QC D cA ad 1 A (some .int) (some (0, r)) d') args s 0 0 A) 4 D cA ad 1 A 0 [(2, 0), (0, p1), (0, p2), (0, p3)] [] d
  refine g_sub (lo2 := [(2, 0), (0, p1), (0, p2), (0, p3)]) (lsb_v (lsb_v (lsb_v (lsb_v lsb_e)))) ?_
  unfold L_Mo_standing at h
  refine g_aload_n C 0 rfl (by decide +kernel) ?_
  refine g_iload_n C 1 rfl (by decide +kernel) ?_
  obtain ⟨r6_, d5_, hr7_, h⟩ := bd_some h
  refine g_callV C mw_Mo_isEntry [(0, p1)] 0 cl12 rfl (ok_Mo_isEntry p1 d hp1 hr7_) cd_B0 (by decide) (nB (by decide)) (ix := 541) lk_2092 lk_2094 lkp_98 ⟨rfl, rfl, Nat.le_of_ble_eq_true rfl, Nat.le_of_ble_eq_true rfl⟩ rfl (rest := []) rfl (Nat.le_of_ble_eq_true rfl) ⟨Nat.zero_le _, Nat.zero_le _⟩ (by decide +kernel) (fun _ hc8_ => ?_)
  replace hc8_ : cb r6_ := hc8_
  refine g_st (st2 := [(0, r6_)]) rfl ?_
  refine g_if_eq C (off := 17) (tgt := 22) (c32_cb hc8_) (by decide +kernel) (by decide) (fun hc9_ => ?_) (fun hc9_ => ?_)
  · replace h := ite_t hc9_ h
    refine g_sub (lo2 := [(2, 0), (9, 0), (9, 0), (9, 0)]) (lsb_v (lsb_c (lsb_c (lsb_c lsb_e)))) ?_
    exact ok_Mo_standing_b22 C hlk hr d5_  h
  · replace h := ite_f hc9_ h
    refine g_iload_n C 2 rfl (by decide +kernel) ?_
    obtain ⟨r11_, d10_, hr12_, h⟩ := bd_some h
    refine g_callS C mw_Mo_isPlace [(0, p2)] (ok_Mo_isPlace p2 d5_ hp2 hr12_) (ix := 325) lk_1798 lk_1799 ⟨rfl, rfl, Nat.le_of_ble_eq_true rfl, Nat.le_of_ble_eq_true rfl⟩ rfl (rest := []) rfl (Nat.le_of_ble_eq_true rfl) ⟨Nat.zero_le _, Nat.zero_le _⟩ (by decide +kernel) (fun _ hc13_ => ?_)
    replace hc13_ : cb r11_ := hc13_
    refine g_st (st2 := [(0, r11_)]) rfl ?_
    refine g_if_eq C (off := 10) (tgt := 22) (c32_cb hc13_) (by decide +kernel) (by decide) (fun hc14_ => ?_) (fun hc14_ => ?_)
    · replace h := ite_t hc14_ h
      refine g_sub (lo2 := [(2, 0), (9, 0), (9, 0), (9, 0)]) (lsb_v (lsb_c (lsb_c (lsb_c lsb_e)))) ?_
      exact ok_Mo_standing_b22 C hlk hr d10_  h
    · replace h := ite_f hc14_ h
      refine g_iload_n C 3 rfl (by decide +kernel) ?_
      obtain ⟨r16_, d15_, hr17_, h⟩ := bd_some h
      refine g_callS C mw_Mo_isDay [(0, p3)] (ok_Mo_isDay p3 d10_ hp3 hr17_) (ix := 340) lk_1815 lk_1816 ⟨rfl, rfl, Nat.le_of_ble_eq_true rfl, Nat.le_of_ble_eq_true rfl⟩ rfl (rest := []) rfl (Nat.le_of_ble_eq_true rfl) ⟨Nat.zero_le _, Nat.zero_le _⟩ (by decide +kernel) (fun _ hc18_ => ?_)
      replace hc18_ : cb r16_ := hc18_
      refine g_st (st2 := [(0, r16_)]) rfl ?_
      refine g_if_ne C (off := 9) (tgt := 28) (c32_cb hc18_) (by decide +kernel) (by decide) (fun hc19_ => ?_) (fun hc19_ => ?_)
      · replace h := ite_t hc19_ h
        refine g_sub (lo2 := [(2, 0), (9, 0), (9, 0), (9, 0)]) (lsb_v (lsb_c (lsb_c (lsb_c lsb_e)))) ?_
        exact ok_Mo_standing_b22 C hlk hr d15_  h
      · replace h := ite_f hc19_ h
        refine g_aload_n C 0 rfl (by decide +kernel) ?_
        refine g_iload_n C 2 rfl (by decide +kernel) ?_
        refine g_iload_n C 3 rfl (by decide +kernel) ?_
        obtain ⟨r21_, d20_, hr22_, h⟩ := bd_some h
        refine g_callV C mw_Mo_judge [(0, p2), (0, p3)] 0 cl12 rfl (ok_Mo_judge p2 p3 d15_ hp2 hp3 hr22_) cd_B0 (by decide) (nB (by decide)) (ix := 574) lk_2144 lk_2146 lkp_103 ⟨rfl, rfl, Nat.le_of_ble_eq_true rfl, Nat.le_of_ble_eq_true rfl⟩ rfl (rest := []) rfl (Nat.le_of_ble_eq_true rfl) ⟨Nat.zero_le _, Nat.zero_le _⟩ (by decide +kernel) (fun _ hc23_ => ?_)
        refine g_st (st2 := []) rfl ?_
        refine g_aload_n C 0 rfl (by decide +kernel) ?_
        refine g_aload_n C 0 rfl (by decide +kernel) ?_
        refine g_getR C cl12 0 84 62 rfl cd_B0 ⟨by decide, rfl, by decide⟩ rfl rfl (nB (by decide)) (ix := 209) lk_1486 (by decide +kernel) ?_
        refine g_iload_n C 1 rfl (by decide +kernel) ?_
        obtain ⟨hb24_, h⟩ := ck_some h
        refine g_iald C 62 hp1 rfl cd_B62 (nB (by decide)) hb24_ (by decide +kernel) (fun hc25_ => ?_)
        obtain ⟨r27_, d26_, hr28_, h⟩ := bd_some h
        refine g_callV C mw_Mo_gives [(0, (d20_ 62 p1.toNat))] 0 cl12 rfl (ok_Mo_gives (d20_ 62 p1.toNat) d20_ hc25_ hr28_) cd_B0 (by decide) (nB (by decide)) (ix := 312) lk_1783 lk_1785 lkp_60 ⟨rfl, rfl, Nat.le_of_ble_eq_true rfl, Nat.le_of_ble_eq_true rfl⟩ rfl (rest := []) rfl (Nat.le_of_ble_eq_true rfl) ⟨Nat.zero_le _, Nat.zero_le _⟩ (by decide +kernel) (fun _ hc29_ => ?_)
        replace hc29_ : c32 r27_ := hc29_
        refine g_st (st2 := [(0, r27_)]) rfl ?_
        obtain ⟨rfl, rfl⟩ := ret_inj h
        exact g_iret C hc29_ hlk hr (by decide +kernel)
/-! PollBooksModel.isOffer(I)Z -/
def y_Mo_isOffer : MethodName := ⟨"PollBooksModel", "isOffer", "(I)Z"⟩
def rm_Mo_isOffer : Room := { frames := 0, cells := 0, slots := 0, locals := 0 }
theorem mw_Mo_isOffer : MW y_Mo_isOffer prog_14_method_97_code 2 (some .boolean) 1 := ⟨lk_2162, lk_14, by decide +kernel⟩
def L_Mo_isOffer (p1 : Int) (d : Dt) : Option (Int × Dt) :=
  if p1 < 0 then some (0, d) else if p1 < (d 0 87) then some (1, d) else some (0, d)
set_option maxHeartbeats 4000000 in
theorem ok_Mo_isOffer {l : Launch} {r : Int} {d' : Dt} (p1 : Int) (d : Dt) (hp1 : c32 p1) (h : L_Mo_isOffer p1 d = some (r, d')) : MC l y_Mo_isOffer prog_14_method_97_code 2 (some .boolean) rm_Mo_isOffer 1 [(2, 0), (0, p1)] d (some (0, r)) d' := by
  refine MC.of (by decide) (Nat.le_of_ble_eq_true rfl) ?_
  intro p e s m args below meth c D cA ad A C hlk hr
  replace C : Cx p s m args c prog_14_method_97_code 2 "PollBooksModel" D cA ad 1 A := C
  show G p l e rm_Mo_isOffer s m args below meth c 0 0 (MQ below (fun _ => QC D cA ad 1 A (some .boolean) (some (0, r)) d') args s 0 0 A) 2 D cA ad 1 A 0 [(2, 0), (0, p1)] [] d
  refine g_sub (lo2 := [(2, 0), (0, p1)]) (lsb_v (lsb_v lsb_e)) ?_
  unfold L_Mo_isOffer at h
  refine g_iload_n C 1 rfl (by decide +kernel) ?_
  refine g_if_lt C (off := 15) (tgt := 16) hp1 (by decide +kernel) (by decide) (fun hc1_ => ?_) (fun hc1_ => ?_)
  · replace h := ite_t hc1_ h
    refine g_iconst C 0 (cK rfl) (by decide +kernel) ?_
    obtain ⟨rfl, rfl⟩ := ret_inj h
    exact g_zret C (Or.inl rfl) hlk hr (by decide +kernel)
  · replace h := ite_f hc1_ h
    refine g_iload_n C 1 rfl (by decide +kernel) ?_
    refine g_aload_n C 0 rfl (by decide +kernel) ?_
    refine g_getI C cl12 0 87 rfl cd_B0 ⟨by decide, rfl, by decide⟩ rfl (nB (by decide)) (ix := 564) lk_1489 (by decide +kernel) (fun hc2_ => ?_)
    refine g_icmp_ge C (off := 7) (tgt := 16) hp1 hc2_ (by decide +kernel) (by decide) (fun hc3_ => ?_) (fun hc3_ => ?_)
    · replace h := ite_t hc3_ h
      refine g_iconst C 1 (cK rfl) (by decide +kernel) ?_
      refine g_goto C 17 (off := 4) (by decide +kernel) (by decide) ?_
      obtain ⟨rfl, rfl⟩ := ret_inj h
      exact g_zret C (Or.inr rfl) hlk hr (by decide +kernel)
    · replace h := ite_f hc3_ h
      refine g_iconst C 0 (cK rfl) (by decide +kernel) ?_
      obtain ⟨rfl, rfl⟩ := ret_inj h
      exact g_zret C (Or.inl rfl) hlk hr (by decide +kernel)
/-! PollBooksModel.stands(III)I -/
def y_Mo_stands : MethodName := ⟨"PollBooksModel", "stands", "(III)I"⟩
def rm_Mo_stands : Room := { frames := 7, cells := 0, slots := 0, locals := 181 }
theorem mw_Mo_stands : MW y_Mo_stands prog_14_method_98_code 4 (some .int) 3 := ⟨lk_2158, lk_14, by decide +kernel⟩
def L_Mo_stands_b22 (d : Dt) : Option (Int × Dt) :=
  bd (L_Mo_refuse 1 d) (fun r2_ d1_ => some (r2_, d1_))
def L_Mo_stands (p1 p2 p3 : Int) (d : Dt) : Option (Int × Dt) :=
  bd (L_Mo_isOffer p1 d) (fun r6_ d5_ => if r6_ = 0 then L_Mo_stands_b22 d5_ else bd (L_Mo_isPlace p2 d5_) (fun r11_ d10_ => if r11_ = 0 then L_Mo_stands_b22 d10_ else bd (L_Mo_isDay p3 d10_) (fun r16_ d15_ => if r16_ = 0 then L_Mo_stands_b22 d15_ else bd (L_Mo_judge p2 p3 d15_) (fun r21_ d20_ => ck ((0 : Int) ≤ p1 ∧ p1 < 20) (bd (L_Mo_gives (d20_ 63 p1.toNat) d20_) (fun r27_ d26_ => some (r27_, d26_)))))))
set_option maxHeartbeats 4000000 in
theorem ok_Mo_stands_b22 {p : Program} {l : Launch} {e : Env} {s : State} {m : MethodId} {args : Array Value} {below : List Frame} {meth : Method} {c : Code} {D : va_G} {cA : Nat → ClassId} {ad : Nat → Nat} {A : Nat → Prop} (C : Cx p s m args c prog_14_method_98_code 4 "PollBooksModel" D cA ad 1 A) (hlk : meth.locks = false) (hr : meth.sig.returnType = (some .int)) {r : Int} {d' : Dt} (d : Dt)  (h : L_Mo_stands_b22 d = some (r, d')) : G p l e rm_Mo_stands s m args below meth c 0 0 (MQ below (fun _ => QC D cA ad 1 A (some .int) (some (0, r)) d') args s 0 0 A) 4 D cA ad 1 A 22 [(2, 0), (9, 0), (9, 0), (9, 0)] [] d := by
  unfold L_Mo_stands_b22 at h
  refine g_aload_n C 0 rfl (by decide +kernel) ?_
  refine g_iconst C 1 (cK rfl) (by decide +kernel) ?_
  obtain ⟨r2_, d1_, hr3_, h⟩ := bd_some h
  refine g_callV C mw_Mo_refuse [(0, 1)] 0 cl12 rfl (ok_Mo_refuse 1 d (c32_cb (Or.inr rfl)) hr3_) cd_B0 (by decide) (nB (by decide)) (ix := 316) lk_1787 lk_1789 lkp_61 ⟨rfl, rfl, Nat.le_of_ble_eq_true rfl, Nat.le_of_ble_eq_true rfl⟩ rfl (rest := []) rfl (Nat.le_of_ble_eq_true rfl) ⟨Nat.zero_le _, Nat.zero_le _⟩ (by decide +kernel) (fun _ hc4_ => ?_)
  replace hc4_ : c32 r2_ := hc4_
  refine g_st (st2 := [(0, r2_)]) rfl ?_
  obtain ⟨rfl, rfl⟩ := ret_inj h
  exact g_iret C hc4_ hlk hr (by decide +kernel)
set_option maxHeartbeats 4000000 in
theorem ok_Mo_stands {l : Launch} {r : Int} {d' : Dt} (p1 p2 p3 : Int) (d : Dt) (hp1 : c32 p1) (hp2 : c32 p2) (hp3 : c32 p3) (h : L_Mo_stands p1 p2 p3 d = some (r, d')) : MC l y_Mo_stands prog_14_method_98_code 4 (some .int) rm_Mo_stands 1 [(2, 0), (0, p1), (0, p2), (0, p3)] d (some (0, r)) d' := by
  refine MC.of (by decide) (Nat.le_of_ble_eq_true rfl) ?_
  intro p e s m args below meth c D cA ad A C hlk hr
  replace C : Cx p s m args c prog_14_method_98_code 4 "PollBooksModel" D cA ad 1 A := C
  show G p l e rm_Mo_stands s m args below meth c 0 0 (MQ below (fun _ => QC D cA ad 1 A (some .int) (some (0, r)) d') args s 0 0 A) 4 D cA ad 1 A 0 [(2, 0), (0, p1), (0, p2), (0, p3)] [] d
  refine g_sub (lo2 := [(2, 0), (0, p1), (0, p2), (0, p3)]) (lsb_v (lsb_v (lsb_v (lsb_v lsb_e)))) ?_
  unfold L_Mo_stands at h
  refine g_aload_n C 0 rfl (by decide +kernel) ?_
  refine g_iload_n C 1 rfl (by decide +kernel) ?_
  obtain ⟨r6_, d5_, hr7_, h⟩ := bd_some h
  refine g_callV C mw_Mo_isOffer [(0, p1)] 0 cl12 rfl (ok_Mo_isOffer p1 d hp1 hr7_) cd_B0 (by decide) (nB (by decide)) (ix := 577) lk_2159 lk_2161 lkp_105 ⟨rfl, rfl, Nat.le_of_ble_eq_true rfl, Nat.le_of_ble_eq_true rfl⟩ rfl (rest := []) rfl (Nat.le_of_ble_eq_true rfl) ⟨Nat.zero_le _, Nat.zero_le _⟩ (by decide +kernel) (fun _ hc8_ => ?_)
  replace hc8_ : cb r6_ := hc8_
  refine g_st (st2 := [(0, r6_)]) rfl ?_
  refine g_if_eq C (off := 17) (tgt := 22) (c32_cb hc8_) (by decide +kernel) (by decide) (fun hc9_ => ?_) (fun hc9_ => ?_)
  · replace h := ite_t hc9_ h
    refine g_sub (lo2 := [(2, 0), (9, 0), (9, 0), (9, 0)]) (lsb_v (lsb_c (lsb_c (lsb_c lsb_e)))) ?_
    exact ok_Mo_stands_b22 C hlk hr d5_  h
  · replace h := ite_f hc9_ h
    refine g_iload_n C 2 rfl (by decide +kernel) ?_
    obtain ⟨r11_, d10_, hr12_, h⟩ := bd_some h
    refine g_callS C mw_Mo_isPlace [(0, p2)] (ok_Mo_isPlace p2 d5_ hp2 hr12_) (ix := 325) lk_1798 lk_1799 ⟨rfl, rfl, Nat.le_of_ble_eq_true rfl, Nat.le_of_ble_eq_true rfl⟩ rfl (rest := []) rfl (Nat.le_of_ble_eq_true rfl) ⟨Nat.zero_le _, Nat.zero_le _⟩ (by decide +kernel) (fun _ hc13_ => ?_)
    replace hc13_ : cb r11_ := hc13_
    refine g_st (st2 := [(0, r11_)]) rfl ?_
    refine g_if_eq C (off := 10) (tgt := 22) (c32_cb hc13_) (by decide +kernel) (by decide) (fun hc14_ => ?_) (fun hc14_ => ?_)
    · replace h := ite_t hc14_ h
      refine g_sub (lo2 := [(2, 0), (9, 0), (9, 0), (9, 0)]) (lsb_v (lsb_c (lsb_c (lsb_c lsb_e)))) ?_
      exact ok_Mo_stands_b22 C hlk hr d10_  h
    · replace h := ite_f hc14_ h
      refine g_iload_n C 3 rfl (by decide +kernel) ?_
      obtain ⟨r16_, d15_, hr17_, h⟩ := bd_some h
      refine g_callS C mw_Mo_isDay [(0, p3)] (ok_Mo_isDay p3 d10_ hp3 hr17_) (ix := 340) lk_1815 lk_1816 ⟨rfl, rfl, Nat.le_of_ble_eq_true rfl, Nat.le_of_ble_eq_true rfl⟩ rfl (rest := []) rfl (Nat.le_of_ble_eq_true rfl) ⟨Nat.zero_le _, Nat.zero_le _⟩ (by decide +kernel) (fun _ hc18_ => ?_)
      replace hc18_ : cb r16_ := hc18_
      refine g_st (st2 := [(0, r16_)]) rfl ?_
      refine g_if_ne C (off := 9) (tgt := 28) (c32_cb hc18_) (by decide +kernel) (by decide) (fun hc19_ => ?_) (fun hc19_ => ?_)
      · replace h := ite_t hc19_ h
        refine g_sub (lo2 := [(2, 0), (9, 0), (9, 0), (9, 0)]) (lsb_v (lsb_c (lsb_c (lsb_c lsb_e)))) ?_
        exact ok_Mo_stands_b22 C hlk hr d15_  h
      · replace h := ite_f hc19_ h
        refine g_aload_n C 0 rfl (by decide +kernel) ?_
        refine g_iload_n C 2 rfl (by decide +kernel) ?_
        refine g_iload_n C 3 rfl (by decide +kernel) ?_
        obtain ⟨r21_, d20_, hr22_, h⟩ := bd_some h
        refine g_callV C mw_Mo_judge [(0, p2), (0, p3)] 0 cl12 rfl (ok_Mo_judge p2 p3 d15_ hp2 hp3 hr22_) cd_B0 (by decide) (nB (by decide)) (ix := 574) lk_2144 lk_2146 lkp_103 ⟨rfl, rfl, Nat.le_of_ble_eq_true rfl, Nat.le_of_ble_eq_true rfl⟩ rfl (rest := []) rfl (Nat.le_of_ble_eq_true rfl) ⟨Nat.zero_le _, Nat.zero_le _⟩ (by decide +kernel) (fun _ hc23_ => ?_)
        refine g_st (st2 := []) rfl ?_
        refine g_aload_n C 0 rfl (by decide +kernel) ?_
        refine g_aload_n C 0 rfl (by decide +kernel) ?_
        refine g_getR C cl12 0 85 63 rfl cd_B0 ⟨by decide, rfl, by decide⟩ rfl rfl (nB (by decide)) (ix := 212) lk_1487 (by decide +kernel) ?_
        refine g_iload_n C 1 rfl (by decide +kernel) ?_
        obtain ⟨hb24_, h⟩ := ck_some h
        refine g_iald C 63 hp1 rfl cd_B63 (nB (by decide)) hb24_ (by decide +kernel) (fun hc25_ => ?_)
        obtain ⟨r27_, d26_, hr28_, h⟩ := bd_some h
        refine g_callV C mw_Mo_gives [(0, (d20_ 63 p1.toNat))] 0 cl12 rfl (ok_Mo_gives (d20_ 63 p1.toNat) d20_ hc25_ hr28_) cd_B0 (by decide) (nB (by decide)) (ix := 312) lk_1783 lk_1785 lkp_60 ⟨rfl, rfl, Nat.le_of_ble_eq_true rfl, Nat.le_of_ble_eq_true rfl⟩ rfl (rest := []) rfl (Nat.le_of_ble_eq_true rfl) ⟨Nat.zero_le _, Nat.zero_le _⟩ (by decide +kernel) (fun _ hc29_ => ?_)
        replace hc29_ : c32 r27_ := hc29_
        refine g_st (st2 := [(0, r27_)]) rfl ?_
        obtain ⟨rfl, rfl⟩ := ret_inj h
        exact g_iret C hc29_ hlk hr (by decide +kernel)
/-! PollBooksModel.count(IIZ)V -/
def y_Mo_count : MethodName := ⟨"PollBooksModel", "count", "(IIZ)V"⟩
def rm_Mo_count : Room := { frames := 7, cells := 0, slots := 0, locals := 181 }
theorem mw_Mo_count : MW y_Mo_count prog_14_method_99_code 6 none 3 := ⟨lk_2170, lk_14, by decide +kernel⟩
def L_Mo_count_b70 (x3 x4 x5 s1 s2 s3 : Int) (d : Dt) : Option ((Int × Int × Int × Dt) ⊕ ((Int × Int × Dt))) :=
  ck ((0 : Int) ≤ s1 ∧ s1 < 4) (some (Sum.inl (x3, x4, (w32 (x5 + 1)), (up2 d 64 s1.toNat (w32 (s2 + s3))))))
def L_Mo_count_y26 (x3 x4 x5 : Int) (d : Dt) : Option ((Int × Int × Int × Dt) ⊕ ((Int × Int × Dt))) :=
  if x5 < (d 52 0) then ck ((0 : Int) ≤ x4 ∧ x4 < 4) (ck ((0 : Int) ≤ x5 ∧ x5 < 30) (if (d 62 x5.toNat) = 0 then bd (L_Mo_setOf x5 d) (fun r10_ d9_ => L_Mo_count_b70 x3 x4 x5 x4 (d 64 x4.toNat) (iand (ishr r10_ x4) 1) d9_) else L_Mo_count_b70 x3 x4 x5 x4 (d 64 x4.toNat) 0 d)) else some (Sum.inr (x3, x4, d))
def L_Mo_count_l26 (x3 x4 x5 : Int) (d : Dt) : Option ((Int × Int × Dt)) := lpF (fun q : Int × Int × Int × Dt => L_Mo_count_y26 q.1 q.2.1 q.2.2.1 q.2.2.2) FU (x3, x4, x5, d)
def L_Mo_count_b128 (x3 x4 x5 s1 s2 s3 : Int) (d : Dt) : Option ((Int × Int × Int × Dt) ⊕ ((Int × Int × Dt))) :=
  ck ((0 : Int) ≤ s1 ∧ s1 < 4) (some (Sum.inl (x3, x4, (w32 (x5 + 1)), (up2 d 64 s1.toNat (w32 (s2 + s3))))))
def L_Mo_count_y81 (x3 x4 x5 : Int) (d : Dt) : Option ((Int × Int × Int × Dt) ⊕ ((Int × Int × Dt))) :=
  if x5 < (d 0 87) then if x3 = 0 then some (Sum.inr (x3, x4, d)) else ck ((0 : Int) ≤ x4 ∧ x4 < 4) (ck ((0 : Int) ≤ x5 ∧ x5 < 20) (if (d 63 x5.toNat) = 0 then ck ((0 : Int) ≤ x5 ∧ x5 < 20) (L_Mo_count_b128 x3 x4 x5 x4 (d 64 x4.toNat) (iand (ishr (d 60 x5.toNat) x4) 1) d) else L_Mo_count_b128 x3 x4 x5 x4 (d 64 x4.toNat) 0 d)) else some (Sum.inr (x3, x4, d))
def L_Mo_count_l81 (x3 x4 x5 : Int) (d : Dt) : Option ((Int × Int × Dt)) := lpF (fun q : Int × Int × Int × Dt => L_Mo_count_y81 q.1 q.2.1 q.2.2.1 q.2.2.2) FU (x3, x4, x5, d)
def L_Mo_count_b136 (x3 x4 : Int) (d : Dt) : Option ((Int × Int × Dt) ⊕ ((Dt))) :=
  some (Sum.inl (x3, (w32 (x4 + 1)), d))
def L_Mo_count_y9 (x3 x4 : Int) (d : Dt) : Option ((Int × Int × Dt) ⊕ ((Dt))) :=
  if x4 < 4 then ck ((0 : Int) ≤ x4 ∧ x4 < 4) (lb (L_Mo_count_l26 x3 x4 0 (up2 d 64 x4.toNat 0)) (fun q39_ => u2 q39_ (fun v28_ v29_ d30_ => lb (L_Mo_count_l81 v28_ v29_ 0 d30_) (fun q38_ => u2 q38_ (fun v34_ v35_ d36_ => L_Mo_count_b136 v34_ v35_ d36_))))) else some (Sum.inr (d))
def L_Mo_count_l9 (x3 x4 : Int) (d : Dt) : Option ((Dt)) := lpF (fun q : Int × Int × Dt => L_Mo_count_y9 q.1 q.2.1 q.2.2) FU (x3, x4, d)
def L_Mo_count (p1 p2 p3 : Int) (d : Dt) : Option (Int × Dt) :=
  bd (L_Mo_judge p1 p2 d) (fun r41_ d40_ => lb (L_Mo_count_l9 p3 0 d40_) (fun q48_ => u0 q48_ (fun d46_ => some (0, d46_))))
set_option maxHeartbeats 4000000 in
theorem ok_Mo_count_b70 {p : Program} {l : Launch} {e : Env} {s : State} {m : MethodId} {args : Array Value} {below : List Frame} {meth : Method} {c : Code} {D : va_G} {cA : Nat → ClassId} {ad : Nat → Nat} {A : Nat → Prop} (C : Cx p s m args c prog_14_method_99_code 6 "PollBooksModel" D cA ad 1 A) {Q : State → Prop} {o : (Int × Int × Int × Dt) ⊕ ((Int × Int × Dt))} (x3 x4 x5 s1 s2 s3 : Int) (d : Dt) (hx3 : cb x3) (hx4 : c32 x4) (hx5 : c32 x5) (hs1 : c32 s1) (hs2 : c32 s2) (hs3 : c32 s3) (h : L_Mo_count_b70 x3 x4 x5 s1 s2 s3 d = some o) (kb : ∀ (y0 y1 y2 : Int) (e' : Dt), o = .inl (y0, y1, y2, e') → cb y0 → c32 y1 → c32 y2 → G p l e rm_Mo_count s m args below meth c 0 0 Q 6 D cA ad 1 A 26 [(2, 0), (9, 0), (9, 0), (0, y0), (0, y1), (0, y2)] [] e') (k0 : ∀ (y0 y1 : Int) (e' : Dt), o = .inr (y0, y1, e') → cb y0 → c32 y1 → G p l e rm_Mo_count s m args below meth c 0 0 Q 6 D cA ad 1 A 78 [(2, 0), (9, 0), (9, 0), (0, y0), (0, y1), (9, 0)] [] e') : G p l e rm_Mo_count s m args below meth c 0 0 Q 6 D cA ad 1 A 70 [(2, 0), (9, 0), (9, 0), (0, x3), (0, x4), (0, x5)] [(0, s3), (0, s2), (0, s1), (2, 64)] d := by
  unfold L_Mo_count_b70 at h
  refine g_iadd C (by decide +kernel) ?_
  obtain ⟨hb1_, h⟩ := ck_some h
  refine g_iast C 64 (w32_c _) hs1 rfl cd_B64 (nB (by decide)) hb1_ (by decide +kernel) ?_
  refine s_iinc C 5 1 (lo' := [(2, 0), (9, 0), (9, 0), (0, x3), (0, x4), (0, (w32 (x5 + 1)))]) rfl (by decide) (s1k (s1k (s1k (s1k (s1n (by decide) s1z))))) (by decide +kernel) ?_
  refine g_goto C 26 (off := (-49)) (by decide +kernel) (by decide) ?_
  refine g_sub (lo2 := [(2, 0), (9, 0), (9, 0), (0, x3), (0, x4), (0, (w32 (x5 + 1)))]) (lsb_v (lsb_c (lsb_c (lsb_v (lsb_v (lsb_v lsb_e)))))) ?_
  obtain rfl := Option.some.inj h
  exact kb x3 x4 (w32 (x5 + 1)) (up2 d 64 s1.toNat (w32 (s2 + s3))) rfl hx3 hx4 (w32_c _)
set_option maxHeartbeats 4000000 in
theorem ok_Mo_count_y26 {p : Program} {l : Launch} {e : Env} {s : State} {m : MethodId} {args : Array Value} {below : List Frame} {meth : Method} {c : Code} {D : va_G} {cA : Nat → ClassId} {ad : Nat → Nat} {A : Nat → Prop} (C : Cx p s m args c prog_14_method_99_code 6 "PollBooksModel" D cA ad 1 A) {Q : State → Prop} {o : (Int × Int × Int × Dt) ⊕ ((Int × Int × Dt))} (x3 x4 x5 : Int) (d : Dt) (hx3 : cb x3) (hx4 : c32 x4) (hx5 : c32 x5) (h : L_Mo_count_y26 x3 x4 x5 d = some o) (kb : ∀ (y0 y1 y2 : Int) (e' : Dt), o = .inl (y0, y1, y2, e') → cb y0 → c32 y1 → c32 y2 → G p l e rm_Mo_count s m args below meth c 0 0 Q 6 D cA ad 1 A 26 [(2, 0), (9, 0), (9, 0), (0, y0), (0, y1), (0, y2)] [] e') (k0 : ∀ (y0 y1 : Int) (e' : Dt), o = .inr (y0, y1, e') → cb y0 → c32 y1 → G p l e rm_Mo_count s m args below meth c 0 0 Q 6 D cA ad 1 A 78 [(2, 0), (9, 0), (9, 0), (0, y0), (0, y1), (9, 0)] [] e') : G p l e rm_Mo_count s m args below meth c 0 0 Q 6 D cA ad 1 A 26 [(2, 0), (9, 0), (9, 0), (0, x3), (0, x4), (0, x5)] [] d := by
  unfold L_Mo_count_y26 at h
  refine g_iload C 5 rfl (by decide +kernel) ?_
  refine g_aload_n C 0 rfl (by decide +kernel) ?_
  refine g_getR C cl12 0 72 52 rfl cd_B0 ⟨by decide, rfl, by decide⟩ rfl rfl (nB (by decide)) (ix := 176) lk_1474 (by decide +kernel) ?_
  refine g_iconst C 0 (cK rfl) (by decide +kernel) ?_
  refine g_iald C 52 (c32_cb (Or.inl rfl)) rfl cd_B52 (nB (by decide)) (by decide) (by decide +kernel) (fun hc2_ => ?_)
  refine g_val (y := (d 52 0)) rfl ?_
  replace hc2_ : c32 (d 52 0) := hc2_
  refine g_icmp_ge C (off := 44) (tgt := 78) hx5 hc2_ (by decide +kernel) (by decide) (fun hc3_ => ?_) (fun hc3_ => ?_)
  · replace h := ite_t hc3_ h
    refine g_aload_n C 0 rfl (by decide +kernel) ?_
    refine g_getR C cl12 0 86 64 rfl cd_B0 ⟨by decide, rfl, by decide⟩ rfl rfl (nB (by decide)) (ix := 215) lk_1488 (by decide +kernel) ?_
    refine g_iload C 4 rfl (by decide +kernel) ?_
    refine g_dup2 C tg0 tg2 (by decide +kernel) ?_
    obtain ⟨hb4_, h⟩ := ck_some h
    refine g_iald C 64 hx4 rfl cd_B64 (nB (by decide)) hb4_ (by decide +kernel) (fun hc5_ => ?_)
    refine g_aload_n C 0 rfl (by decide +kernel) ?_
    refine g_getR C cl12 0 84 62 rfl cd_B0 ⟨by decide, rfl, by decide⟩ rfl rfl (nB (by decide)) (ix := 209) lk_1486 (by decide +kernel) ?_
    refine g_iload C 5 rfl (by decide +kernel) ?_
    obtain ⟨hb6_, h⟩ := ck_some h
    refine g_iald C 62 hx5 rfl cd_B62 (nB (by decide)) hb6_ (by decide +kernel) (fun hc7_ => ?_)
    refine g_if_ne C (off := 17) (tgt := 69) hc7_ (by decide +kernel) (by decide) (fun hc8_ => ?_) (fun hc8_ => ?_)
    · replace h := ite_t hc8_ h
      refine g_aload_n C 0 rfl (by decide +kernel) ?_
      refine g_iload C 5 rfl (by decide +kernel) ?_
      obtain ⟨r10_, d9_, hr11_, h⟩ := bd_some h
      refine g_callV C mw_Mo_setOf [(0, x5)] 0 cl12 rfl (ok_Mo_setOf x5 d hx5 hr11_) cd_B0 (by decide) (nB (by decide)) (ix := 547) lk_2104 lk_2106 lkp_100 ⟨rfl, rfl, Nat.le_of_ble_eq_true rfl, Nat.le_of_ble_eq_true rfl⟩ rfl (rest := [(0, (d 64 x4.toNat)), (0, x4), (2, 64)]) rfl (Nat.le_of_ble_eq_true rfl) ⟨Nat.zero_le _, Nat.zero_le _⟩ (by decide +kernel) (fun _ hc12_ => ?_)
      replace hc12_ : c32 r10_ := hc12_
      refine g_st (st2 := [(0, r10_), (0, (d 64 x4.toNat)), (0, x4), (2, 64)]) rfl ?_
      refine g_iload C 4 rfl (by decide +kernel) ?_
      refine g_ishr C (by decide +kernel) ?_
      refine g_iconst C 1 (cK rfl) (by decide +kernel) ?_
      refine g_iand C (by decide +kernel) ?_
      refine g_goto C 70 (off := 4) (by decide +kernel) (by decide) ?_
      refine g_sub (lo2 := [(2, 0), (9, 0), (9, 0), (0, x3), (0, x4), (0, x5)]) (lsb_v (lsb_c (lsb_c (lsb_v (lsb_v (lsb_v lsb_e)))))) ?_
      exact ok_Mo_count_b70 C x3 x4 x5 x4 (d 64 x4.toNat) (iand (ishr r10_ x4) 1) d9_ hx3 hx4 hx5 hx4 hc5_ (i_c _) h kb k0
    · replace h := ite_f hc8_ h
      refine g_iconst C 0 (cK rfl) (by decide +kernel) ?_
      refine g_sub (lo2 := [(2, 0), (9, 0), (9, 0), (0, x3), (0, x4), (0, x5)]) (lsb_v (lsb_c (lsb_c (lsb_v (lsb_v (lsb_v lsb_e)))))) ?_
      exact ok_Mo_count_b70 C x3 x4 x5 x4 (d 64 x4.toNat) 0 d hx3 hx4 hx5 hx4 hc5_ (c32_cb (Or.inl rfl)) h kb k0
  · replace h := ite_f hc3_ h
    refine g_sub (lo2 := [(2, 0), (9, 0), (9, 0), (0, x3), (0, x4), (9, 0)]) (lsb_v (lsb_c (lsb_c (lsb_v (lsb_v (lsb_c lsb_e)))))) ?_
    obtain rfl := Option.some.inj h
    exact k0 x3 x4 d rfl hx3 hx4
set_option maxHeartbeats 4000000 in
theorem ok_Mo_count_n26 {p : Program} {l : Launch} {e : Env} {s : State} {m : MethodId} {args : Array Value} {below : List Frame} {meth : Method} {c : Code} {D : va_G} {cA : Nat → ClassId} {ad : Nat → Nat} {A : Nat → Prop} (C : Cx p s m args c prog_14_method_99_code 6 "PollBooksModel" D cA ad 1 A) {Q : State → Prop} {x : (Int × Int × Dt)} : ∀ (n : Nat) (x3 x4 x5 : Int) (d : Dt), cb x3 → c32 x4 → c32 x5 → lpF (fun q : Int × Int × Int × Dt => L_Mo_count_y26 q.1 q.2.1 q.2.2.1 q.2.2.2) n (x3, x4, x5, d) = some x → (∀ (y0 y1 : Int) (e' : Dt), x = (y0, y1, e') → cb y0 → c32 y1 → G p l e rm_Mo_count s m args below meth c 0 0 Q 6 D cA ad 1 A 78 [(2, 0), (9, 0), (9, 0), (0, y0), (0, y1), (9, 0)] [] e') → G p l e rm_Mo_count s m args below meth c 0 0 Q 6 D cA ad 1 A 26 [(2, 0), (9, 0), (9, 0), (0, x3), (0, x4), (0, x5)] [] d := by
  intro n
  induction n with
  | zero => intro x3 x4 x5 d g0 g1 g2 h k0; cases h
  | succ n ih =>
    intro x3 x4 x5 d g0 g1 g2 h k0
    rcases lpF_some h with h | ⟨⟨v0_, v1_, v2_, e0_⟩, h1, h⟩
    · exact ok_Mo_count_y26 C x3 x4 x5 d g0 g1 g2 h (fun z0_ z1_ z2_ e1_ eq w0_ w1_ w2_ => by cases eq) (fun z0_ z1_ e1_ eq w0_ w1_ => k0 _ _ _ (by cases eq; rfl) w0_ w1_)
    · exact ok_Mo_count_y26 C x3 x4 x5 d g0 g1 g2 h1 (fun z0_ z1_ z2_ e1_ eq w0_ w1_ w2_ => by cases eq; exact ih _ _ _ _ w0_ w1_ w2_ h k0) (fun z0_ z1_ e1_ eq w0_ w1_ => by cases eq)
set_option maxHeartbeats 4000000 in
theorem ok_Mo_count_l26 {p : Program} {l : Launch} {e : Env} {s : State} {m : MethodId} {args : Array Value} {below : List Frame} {meth : Method} {c : Code} {D : va_G} {cA : Nat → ClassId} {ad : Nat → Nat} {A : Nat → Prop} (C : Cx p s m args c prog_14_method_99_code 6 "PollBooksModel" D cA ad 1 A) {Q : State → Prop} {x : (Int × Int × Dt)} (x3 x4 x5 : Int) (d : Dt) (hx3 : cb x3) (hx4 : c32 x4) (hx5 : c32 x5) (h : L_Mo_count_l26 x3 x4 x5 d = some x) (k0 : ∀ (y0 y1 : Int) (e' : Dt), x = (y0, y1, e') → cb y0 → c32 y1 → G p l e rm_Mo_count s m args below meth c 0 0 Q 6 D cA ad 1 A 78 [(2, 0), (9, 0), (9, 0), (0, y0), (0, y1), (9, 0)] [] e') : G p l e rm_Mo_count s m args below meth c 0 0 Q 6 D cA ad 1 A 26 [(2, 0), (9, 0), (9, 0), (0, x3), (0, x4), (0, x5)] [] d :=
  ok_Mo_count_n26 C FU x3 x4 x5 d hx3 hx4 hx5 h k0
set_option maxHeartbeats 4000000 in
theorem ok_Mo_count_b128 {p : Program} {l : Launch} {e : Env} {s : State} {m : MethodId} {args : Array Value} {below : List Frame} {meth : Method} {c : Code} {D : va_G} {cA : Nat → ClassId} {ad : Nat → Nat} {A : Nat → Prop} (C : Cx p s m args c prog_14_method_99_code 6 "PollBooksModel" D cA ad 1 A) {Q : State → Prop} {o : (Int × Int × Int × Dt) ⊕ ((Int × Int × Dt))} (x3 x4 x5 s1 s2 s3 : Int) (d : Dt) (hx3 : cb x3) (hx4 : c32 x4) (hx5 : c32 x5) (hs1 : c32 s1) (hs2 : c32 s2) (hs3 : c32 s3) (h : L_Mo_count_b128 x3 x4 x5 s1 s2 s3 d = some o) (kb : ∀ (y0 y1 y2 : Int) (e' : Dt), o = .inl (y0, y1, y2, e') → cb y0 → c32 y1 → c32 y2 → G p l e rm_Mo_count s m args below meth c 0 0 Q 6 D cA ad 1 A 81 [(2, 0), (9, 0), (9, 0), (0, y0), (0, y1), (0, y2)] [] e') (k0 : ∀ (y0 y1 : Int) (e' : Dt), o = .inr (y0, y1, e') → cb y0 → c32 y1 → G p l e rm_Mo_count s m args below meth c 0 0 Q 6 D cA ad 1 A 136 [(2, 0), (9, 0), (9, 0), (0, y0), (0, y1), (9, 0)] [] e') : G p l e rm_Mo_count s m args below meth c 0 0 Q 6 D cA ad 1 A 128 [(2, 0), (9, 0), (9, 0), (0, x3), (0, x4), (0, x5)] [(0, s3), (0, s2), (0, s1), (2, 64)] d := by
  unfold L_Mo_count_b128 at h
  refine g_iadd C (by decide +kernel) ?_
  obtain ⟨hb13_, h⟩ := ck_some h
  refine g_iast C 64 (w32_c _) hs1 rfl cd_B64 (nB (by decide)) hb13_ (by decide +kernel) ?_
  refine s_iinc C 5 1 (lo' := [(2, 0), (9, 0), (9, 0), (0, x3), (0, x4), (0, (w32 (x5 + 1)))]) rfl (by decide) (s1k (s1k (s1k (s1k (s1n (by decide) s1z))))) (by decide +kernel) ?_
  refine g_goto C 81 (off := (-52)) (by decide +kernel) (by decide) ?_
  refine g_sub (lo2 := [(2, 0), (9, 0), (9, 0), (0, x3), (0, x4), (0, (w32 (x5 + 1)))]) (lsb_v (lsb_c (lsb_c (lsb_v (lsb_v (lsb_v lsb_e)))))) ?_
  obtain rfl := Option.some.inj h
  exact kb x3 x4 (w32 (x5 + 1)) (up2 d 64 s1.toNat (w32 (s2 + s3))) rfl hx3 hx4 (w32_c _)
set_option maxHeartbeats 4000000 in
theorem ok_Mo_count_y81 {p : Program} {l : Launch} {e : Env} {s : State} {m : MethodId} {args : Array Value} {below : List Frame} {meth : Method} {c : Code} {D : va_G} {cA : Nat → ClassId} {ad : Nat → Nat} {A : Nat → Prop} (C : Cx p s m args c prog_14_method_99_code 6 "PollBooksModel" D cA ad 1 A) {Q : State → Prop} {o : (Int × Int × Int × Dt) ⊕ ((Int × Int × Dt))} (x3 x4 x5 : Int) (d : Dt) (hx3 : cb x3) (hx4 : c32 x4) (hx5 : c32 x5) (h : L_Mo_count_y81 x3 x4 x5 d = some o) (kb : ∀ (y0 y1 y2 : Int) (e' : Dt), o = .inl (y0, y1, y2, e') → cb y0 → c32 y1 → c32 y2 → G p l e rm_Mo_count s m args below meth c 0 0 Q 6 D cA ad 1 A 81 [(2, 0), (9, 0), (9, 0), (0, y0), (0, y1), (0, y2)] [] e') (k0 : ∀ (y0 y1 : Int) (e' : Dt), o = .inr (y0, y1, e') → cb y0 → c32 y1 → G p l e rm_Mo_count s m args below meth c 0 0 Q 6 D cA ad 1 A 136 [(2, 0), (9, 0), (9, 0), (0, y0), (0, y1), (9, 0)] [] e') : G p l e rm_Mo_count s m args below meth c 0 0 Q 6 D cA ad 1 A 81 [(2, 0), (9, 0), (9, 0), (0, x3), (0, x4), (0, x5)] [] d := by
  unfold L_Mo_count_y81 at h
  refine g_iload C 5 rfl (by decide +kernel) ?_
  refine g_aload_n C 0 rfl (by decide +kernel) ?_
  refine g_getI C cl12 0 87 rfl cd_B0 ⟨by decide, rfl, by decide⟩ rfl (nB (by decide)) (ix := 564) lk_1489 (by decide +kernel) (fun hc14_ => ?_)
  refine g_icmp_ge C (off := 49) (tgt := 136) hx5 hc14_ (by decide +kernel) (by decide) (fun hc15_ => ?_) (fun hc15_ => ?_)
  · replace h := ite_t hc15_ h
    refine g_iload_n C 3 rfl (by decide +kernel) ?_
    refine g_if_eq C (off := 45) (tgt := 136) (c32_cb hx3) (by decide +kernel) (by decide) (fun hc16_ => ?_) (fun hc16_ => ?_)
    · replace h := ite_t hc16_ h
      refine g_sub (lo2 := [(2, 0), (9, 0), (9, 0), (0, x3), (0, x4), (9, 0)]) (lsb_v (lsb_c (lsb_c (lsb_v (lsb_v (lsb_c lsb_e)))))) ?_
      obtain rfl := Option.some.inj h
      exact k0 x3 x4 d rfl hx3 hx4
    · replace h := ite_f hc16_ h
      refine g_aload_n C 0 rfl (by decide +kernel) ?_
      refine g_getR C cl12 0 86 64 rfl cd_B0 ⟨by decide, rfl, by decide⟩ rfl rfl (nB (by decide)) (ix := 215) lk_1488 (by decide +kernel) ?_
      refine g_iload C 4 rfl (by decide +kernel) ?_
      refine g_dup2 C tg0 tg2 (by decide +kernel) ?_
      obtain ⟨hb17_, h⟩ := ck_some h
      refine g_iald C 64 hx4 rfl cd_B64 (nB (by decide)) hb17_ (by decide +kernel) (fun hc18_ => ?_)
      refine g_aload_n C 0 rfl (by decide +kernel) ?_
      refine g_getR C cl12 0 85 63 rfl cd_B0 ⟨by decide, rfl, by decide⟩ rfl rfl (nB (by decide)) (ix := 212) lk_1487 (by decide +kernel) ?_
      refine g_iload C 5 rfl (by decide +kernel) ?_
      obtain ⟨hb19_, h⟩ := ck_some h
      refine g_iald C 63 hx5 rfl cd_B63 (nB (by decide)) hb19_ (by decide +kernel) (fun hc20_ => ?_)
      refine g_if_ne C (off := 18) (tgt := 127) hc20_ (by decide +kernel) (by decide) (fun hc21_ => ?_) (fun hc21_ => ?_)
      · replace h := ite_t hc21_ h
        refine g_aload_n C 0 rfl (by decide +kernel) ?_
        refine g_getR C cl12 0 82 60 rfl cd_B0 ⟨by decide, rfl, by decide⟩ rfl rfl (nB (by decide)) (ix := 203) lk_1484 (by decide +kernel) ?_
        refine g_iload C 5 rfl (by decide +kernel) ?_
        obtain ⟨hb22_, h⟩ := ck_some h
        refine g_iald C 60 hx5 rfl cd_B60 (nB (by decide)) hb22_ (by decide +kernel) (fun hc23_ => ?_)
        refine g_iload C 4 rfl (by decide +kernel) ?_
        refine g_ishr C (by decide +kernel) ?_
        refine g_iconst C 1 (cK rfl) (by decide +kernel) ?_
        refine g_iand C (by decide +kernel) ?_
        refine g_goto C 128 (off := 4) (by decide +kernel) (by decide) ?_
        refine g_sub (lo2 := [(2, 0), (9, 0), (9, 0), (0, x3), (0, x4), (0, x5)]) (lsb_v (lsb_c (lsb_c (lsb_v (lsb_v (lsb_v lsb_e)))))) ?_
        exact ok_Mo_count_b128 C x3 x4 x5 x4 (d 64 x4.toNat) (iand (ishr (d 60 x5.toNat) x4) 1) d hx3 hx4 hx5 hx4 hc18_ (i_c _) h kb k0
      · replace h := ite_f hc21_ h
        refine g_iconst C 0 (cK rfl) (by decide +kernel) ?_
        refine g_sub (lo2 := [(2, 0), (9, 0), (9, 0), (0, x3), (0, x4), (0, x5)]) (lsb_v (lsb_c (lsb_c (lsb_v (lsb_v (lsb_v lsb_e)))))) ?_
        exact ok_Mo_count_b128 C x3 x4 x5 x4 (d 64 x4.toNat) 0 d hx3 hx4 hx5 hx4 hc18_ (c32_cb (Or.inl rfl)) h kb k0
  · replace h := ite_f hc15_ h
    refine g_sub (lo2 := [(2, 0), (9, 0), (9, 0), (0, x3), (0, x4), (9, 0)]) (lsb_v (lsb_c (lsb_c (lsb_v (lsb_v (lsb_c lsb_e)))))) ?_
    obtain rfl := Option.some.inj h
    exact k0 x3 x4 d rfl hx3 hx4
set_option maxHeartbeats 4000000 in
theorem ok_Mo_count_n81 {p : Program} {l : Launch} {e : Env} {s : State} {m : MethodId} {args : Array Value} {below : List Frame} {meth : Method} {c : Code} {D : va_G} {cA : Nat → ClassId} {ad : Nat → Nat} {A : Nat → Prop} (C : Cx p s m args c prog_14_method_99_code 6 "PollBooksModel" D cA ad 1 A) {Q : State → Prop} {x : (Int × Int × Dt)} : ∀ (n : Nat) (x3 x4 x5 : Int) (d : Dt), cb x3 → c32 x4 → c32 x5 → lpF (fun q : Int × Int × Int × Dt => L_Mo_count_y81 q.1 q.2.1 q.2.2.1 q.2.2.2) n (x3, x4, x5, d) = some x → (∀ (y0 y1 : Int) (e' : Dt), x = (y0, y1, e') → cb y0 → c32 y1 → G p l e rm_Mo_count s m args below meth c 0 0 Q 6 D cA ad 1 A 136 [(2, 0), (9, 0), (9, 0), (0, y0), (0, y1), (9, 0)] [] e') → G p l e rm_Mo_count s m args below meth c 0 0 Q 6 D cA ad 1 A 81 [(2, 0), (9, 0), (9, 0), (0, x3), (0, x4), (0, x5)] [] d := by
  intro n
  induction n with
  | zero => intro x3 x4 x5 d g0 g1 g2 h k0; cases h
  | succ n ih =>
    intro x3 x4 x5 d g0 g1 g2 h k0
    rcases lpF_some h with h | ⟨⟨v0_, v1_, v2_, e0_⟩, h1, h⟩
    · exact ok_Mo_count_y81 C x3 x4 x5 d g0 g1 g2 h (fun z0_ z1_ z2_ e1_ eq w0_ w1_ w2_ => by cases eq) (fun z0_ z1_ e1_ eq w0_ w1_ => k0 _ _ _ (by cases eq; rfl) w0_ w1_)
    · exact ok_Mo_count_y81 C x3 x4 x5 d g0 g1 g2 h1 (fun z0_ z1_ z2_ e1_ eq w0_ w1_ w2_ => by cases eq; exact ih _ _ _ _ w0_ w1_ w2_ h k0) (fun z0_ z1_ e1_ eq w0_ w1_ => by cases eq)
set_option maxHeartbeats 4000000 in
theorem ok_Mo_count_l81 {p : Program} {l : Launch} {e : Env} {s : State} {m : MethodId} {args : Array Value} {below : List Frame} {meth : Method} {c : Code} {D : va_G} {cA : Nat → ClassId} {ad : Nat → Nat} {A : Nat → Prop} (C : Cx p s m args c prog_14_method_99_code 6 "PollBooksModel" D cA ad 1 A) {Q : State → Prop} {x : (Int × Int × Dt)} (x3 x4 x5 : Int) (d : Dt) (hx3 : cb x3) (hx4 : c32 x4) (hx5 : c32 x5) (h : L_Mo_count_l81 x3 x4 x5 d = some x) (k0 : ∀ (y0 y1 : Int) (e' : Dt), x = (y0, y1, e') → cb y0 → c32 y1 → G p l e rm_Mo_count s m args below meth c 0 0 Q 6 D cA ad 1 A 136 [(2, 0), (9, 0), (9, 0), (0, y0), (0, y1), (9, 0)] [] e') : G p l e rm_Mo_count s m args below meth c 0 0 Q 6 D cA ad 1 A 81 [(2, 0), (9, 0), (9, 0), (0, x3), (0, x4), (0, x5)] [] d :=
  ok_Mo_count_n81 C FU x3 x4 x5 d hx3 hx4 hx5 h k0
set_option maxHeartbeats 4000000 in
theorem ok_Mo_count_b136 {p : Program} {l : Launch} {e : Env} {s : State} {m : MethodId} {args : Array Value} {below : List Frame} {meth : Method} {c : Code} {D : va_G} {cA : Nat → ClassId} {ad : Nat → Nat} {A : Nat → Prop} (C : Cx p s m args c prog_14_method_99_code 6 "PollBooksModel" D cA ad 1 A) {Q : State → Prop} {o : (Int × Int × Dt) ⊕ ((Dt))} (x3 x4 : Int) (d : Dt) (hx3 : cb x3) (hx4 : c32 x4) (h : L_Mo_count_b136 x3 x4 d = some o) (kb : ∀ (y0 y1 : Int) (e' : Dt), o = .inl (y0, y1, e') → cb y0 → c32 y1 → G p l e rm_Mo_count s m args below meth c 0 0 Q 6 D cA ad 1 A 9 [(2, 0), (9, 0), (9, 0), (0, y0), (0, y1), (9, 0)] [] e') (k0 : ∀ (e' : Dt), o = .inr (e') → G p l e rm_Mo_count s m args below meth c 0 0 Q 6 D cA ad 1 A 142 [(9, 0), (9, 0), (9, 0), (9, 0), (9, 0), (9, 0)] [] e') : G p l e rm_Mo_count s m args below meth c 0 0 Q 6 D cA ad 1 A 136 [(2, 0), (9, 0), (9, 0), (0, x3), (0, x4), (9, 0)] [] d := by
  unfold L_Mo_count_b136 at h
  refine s_iinc C 4 1 (lo' := [(2, 0), (9, 0), (9, 0), (0, x3), (0, (w32 (x4 + 1))), (9, 0)]) rfl (by decide) (s1k (s1k (s1k (s1n (by decide) s1z)))) (by decide +kernel) ?_
  refine g_goto C 9 (off := (-130)) (by decide +kernel) (by decide) ?_
  refine g_sub (lo2 := [(2, 0), (9, 0), (9, 0), (0, x3), (0, (w32 (x4 + 1))), (9, 0)]) (lsb_v (lsb_c (lsb_c (lsb_v (lsb_v (lsb_c lsb_e)))))) ?_
  obtain rfl := Option.some.inj h
  exact kb x3 (w32 (x4 + 1)) d rfl hx3 (w32_c _)
set_option maxHeartbeats 4000000 in
theorem ok_Mo_count_y9 {p : Program} {l : Launch} {e : Env} {s : State} {m : MethodId} {args : Array Value} {below : List Frame} {meth : Method} {c : Code} {D : va_G} {cA : Nat → ClassId} {ad : Nat → Nat} {A : Nat → Prop} (C : Cx p s m args c prog_14_method_99_code 6 "PollBooksModel" D cA ad 1 A) {Q : State → Prop} {o : (Int × Int × Dt) ⊕ ((Dt))} (x3 x4 : Int) (d : Dt) (hx3 : cb x3) (hx4 : c32 x4) (h : L_Mo_count_y9 x3 x4 d = some o) (kb : ∀ (y0 y1 : Int) (e' : Dt), o = .inl (y0, y1, e') → cb y0 → c32 y1 → G p l e rm_Mo_count s m args below meth c 0 0 Q 6 D cA ad 1 A 9 [(2, 0), (9, 0), (9, 0), (0, y0), (0, y1), (9, 0)] [] e') (k0 : ∀ (e' : Dt), o = .inr (e') → G p l e rm_Mo_count s m args below meth c 0 0 Q 6 D cA ad 1 A 142 [(9, 0), (9, 0), (9, 0), (9, 0), (9, 0), (9, 0)] [] e') : G p l e rm_Mo_count s m args below meth c 0 0 Q 6 D cA ad 1 A 9 [(2, 0), (9, 0), (9, 0), (0, x3), (0, x4), (9, 0)] [] d := by
  unfold L_Mo_count_y9 at h
  refine g_iload C 4 rfl (by decide +kernel) ?_
  refine g_iconst C 4 (cK rfl) (by decide +kernel) ?_
  refine g_icmp_ge C (off := 130) (tgt := 142) hx4 (cK rfl) (by decide +kernel) (by decide) (fun hc24_ => ?_) (fun hc24_ => ?_)
  · replace h := ite_t hc24_ h
    refine g_aload_n C 0 rfl (by decide +kernel) ?_
    refine g_getR C cl12 0 86 64 rfl cd_B0 ⟨by decide, rfl, by decide⟩ rfl rfl (nB (by decide)) (ix := 215) lk_1488 (by decide +kernel) ?_
    refine g_iload C 4 rfl (by decide +kernel) ?_
    refine g_iconst C 0 (cK rfl) (by decide +kernel) ?_
    obtain ⟨hb25_, h⟩ := ck_some h
    refine g_iast C 64 (c32_cb (Or.inl rfl)) hx4 rfl cd_B64 (nB (by decide)) hb25_ (by decide +kernel) ?_
    refine g_iconst C 0 (cK rfl) (by decide +kernel) ?_
    refine s_istore C 5 (lo' := [(2, 0), (9, 0), (9, 0), (0, x3), (0, x4), (0, 0)]) (by decide) (s1k (s1k (s1k (s1k (s1n (by decide) s1z))))) (by decide +kernel) ?_
    refine g_sub (lo2 := [(2, 0), (9, 0), (9, 0), (0, x3), (0, x4), (0, 0)]) (lsb_v (lsb_c (lsb_c (lsb_v (lsb_v (lsb_v lsb_e)))))) ?_
    obtain ⟨x26_, hx27_, h⟩ := lb_some h
    refine ok_Mo_count_l26 C x3 x4 0 (up2 d 64 x4.toNat 0) hx3 hx4 (c32_cb (Or.inl rfl)) hx27_ (fun v28_ v29_ d30_ eq31_ hv28_ hv29_ => ?_)
    subst eq31_
    replace h := u2_e h
    refine g_iconst C 0 (cK rfl) (by decide +kernel) ?_
    refine s_istore C 5 (lo' := [(2, 0), (9, 0), (9, 0), (0, v28_), (0, v29_), (0, 0)]) (by decide) (s1k (s1k (s1k (s1k (s1n (by decide) s1z))))) (by decide +kernel) ?_
    refine g_sub (lo2 := [(2, 0), (9, 0), (9, 0), (0, v28_), (0, v29_), (0, 0)]) (lsb_v (lsb_c (lsb_c (lsb_v (lsb_v (lsb_v lsb_e)))))) ?_
    obtain ⟨x32_, hx33_, h⟩ := lb_some h
    refine ok_Mo_count_l81 C v28_ v29_ 0 d30_ hv28_ hv29_ (c32_cb (Or.inl rfl)) hx33_ (fun v34_ v35_ d36_ eq37_ hv34_ hv35_ => ?_)
    subst eq37_
    replace h := u2_e h
    refine g_sub (lo2 := [(2, 0), (9, 0), (9, 0), (0, v34_), (0, v35_), (9, 0)]) (lsb_v (lsb_c (lsb_c (lsb_v (lsb_v (lsb_c lsb_e)))))) ?_
    exact ok_Mo_count_b136 C v34_ v35_ d36_ hv34_ hv35_ h kb k0
  · replace h := ite_f hc24_ h
    refine g_sub (lo2 := [(9, 0), (9, 0), (9, 0), (9, 0), (9, 0), (9, 0)]) (lsb_c (lsb_c (lsb_c (lsb_c (lsb_c (lsb_c lsb_e)))))) ?_
    obtain rfl := Option.some.inj h
    exact k0 d rfl 
set_option maxHeartbeats 4000000 in
theorem ok_Mo_count_n9 {p : Program} {l : Launch} {e : Env} {s : State} {m : MethodId} {args : Array Value} {below : List Frame} {meth : Method} {c : Code} {D : va_G} {cA : Nat → ClassId} {ad : Nat → Nat} {A : Nat → Prop} (C : Cx p s m args c prog_14_method_99_code 6 "PollBooksModel" D cA ad 1 A) {Q : State → Prop} {x : (Dt)} : ∀ (n : Nat) (x3 x4 : Int) (d : Dt), cb x3 → c32 x4 → lpF (fun q : Int × Int × Dt => L_Mo_count_y9 q.1 q.2.1 q.2.2) n (x3, x4, d) = some x → (∀ (e' : Dt), x = (e') → G p l e rm_Mo_count s m args below meth c 0 0 Q 6 D cA ad 1 A 142 [(9, 0), (9, 0), (9, 0), (9, 0), (9, 0), (9, 0)] [] e') → G p l e rm_Mo_count s m args below meth c 0 0 Q 6 D cA ad 1 A 9 [(2, 0), (9, 0), (9, 0), (0, x3), (0, x4), (9, 0)] [] d := by
  intro n
  induction n with
  | zero => intro x3 x4 d g0 g1 h k0; cases h
  | succ n ih =>
    intro x3 x4 d g0 g1 h k0
    rcases lpF_some h with h | ⟨⟨v0_, v1_, e0_⟩, h1, h⟩
    · exact ok_Mo_count_y9 C x3 x4 d g0 g1 h (fun z0_ z1_ e1_ eq w0_ w1_ => by cases eq) (fun e1_ eq => k0 _ (by cases eq; rfl) )
    · exact ok_Mo_count_y9 C x3 x4 d g0 g1 h1 (fun z0_ z1_ e1_ eq w0_ w1_ => by cases eq; exact ih _ _ _ w0_ w1_ h k0) (fun e1_ eq => by cases eq)
set_option maxHeartbeats 4000000 in
theorem ok_Mo_count_l9 {p : Program} {l : Launch} {e : Env} {s : State} {m : MethodId} {args : Array Value} {below : List Frame} {meth : Method} {c : Code} {D : va_G} {cA : Nat → ClassId} {ad : Nat → Nat} {A : Nat → Prop} (C : Cx p s m args c prog_14_method_99_code 6 "PollBooksModel" D cA ad 1 A) {Q : State → Prop} {x : (Dt)} (x3 x4 : Int) (d : Dt) (hx3 : cb x3) (hx4 : c32 x4) (h : L_Mo_count_l9 x3 x4 d = some x) (k0 : ∀ (e' : Dt), x = (e') → G p l e rm_Mo_count s m args below meth c 0 0 Q 6 D cA ad 1 A 142 [(9, 0), (9, 0), (9, 0), (9, 0), (9, 0), (9, 0)] [] e') : G p l e rm_Mo_count s m args below meth c 0 0 Q 6 D cA ad 1 A 9 [(2, 0), (9, 0), (9, 0), (0, x3), (0, x4), (9, 0)] [] d :=
  ok_Mo_count_n9 C FU x3 x4 d hx3 hx4 h k0
set_option maxHeartbeats 4000000 in
theorem ok_Mo_count {l : Launch} {r : Int} {d' : Dt} (p1 p2 p3 : Int) (d : Dt) (hp1 : c32 p1) (hp2 : c32 p2) (hp3 : cb p3) (h : L_Mo_count p1 p2 p3 d = some (r, d')) : MC l y_Mo_count prog_14_method_99_code 6 none rm_Mo_count 1 [(2, 0), (0, p1), (0, p2), (0, p3)] d none d' := by
  refine MC.of (by decide) (Nat.le_of_ble_eq_true rfl) ?_
  intro p e s m args below meth c D cA ad A C hlk hr
  replace C : Cx p s m args c prog_14_method_99_code 6 "PollBooksModel" D cA ad 1 A := C
  show G p l e rm_Mo_count s m args below meth c 0 0 (MQ below (fun _ => QC D cA ad 1 A none none d') args s 0 0 A) 6 D cA ad 1 A 0 [(2, 0), (0, p1), (0, p2), (0, p3)] [] d
  refine g_sub (lo2 := [(2, 0), (0, p1), (0, p2), (0, p3), (9, 0), (9, 0)]) (lsb_v (lsb_v (lsb_v (lsb_v (lsb_n (lsb_n lsb_e)))))) ?_
  unfold L_Mo_count at h
  refine g_aload_n C 0 rfl (by decide +kernel) ?_
  refine g_iload_n C 1 rfl (by decide +kernel) ?_
  refine g_iload_n C 2 rfl (by decide +kernel) ?_
  obtain ⟨r41_, d40_, hr42_, h⟩ := bd_some h
  refine g_callV C mw_Mo_judge [(0, p1), (0, p2)] 0 cl12 rfl (ok_Mo_judge p1 p2 d hp1 hp2 hr42_) cd_B0 (by decide) (nB (by decide)) (ix := 574) lk_2144 lk_2146 lkp_103 ⟨rfl, rfl, Nat.le_of_ble_eq_true rfl, Nat.le_of_ble_eq_true rfl⟩ rfl (rest := []) rfl (Nat.le_of_ble_eq_true rfl) ⟨Nat.zero_le _, Nat.zero_le _⟩ (by decide +kernel) (fun _ hc43_ => ?_)
  refine g_st (st2 := []) rfl ?_
  refine g_iconst C 0 (cK rfl) (by decide +kernel) ?_
  refine s_istore C 4 (lo' := [(2, 0), (0, p1), (0, p2), (0, p3), (0, 0), (9, 0)]) (by decide) (s1k (s1k (s1k (s1n (by decide) s1z)))) (by decide +kernel) ?_
  refine g_sub (lo2 := [(2, 0), (9, 0), (9, 0), (0, p3), (0, 0), (9, 0)]) (lsb_v (lsb_c (lsb_c (lsb_v (lsb_v (lsb_c lsb_e)))))) ?_
  obtain ⟨x44_, hx45_, h⟩ := lb_some h
  refine ok_Mo_count_l9 C p3 0 d40_ hp3 (c32_cb (Or.inl rfl)) hx45_ (fun d46_ eq47_ => ?_)
  replace eq47_ := eq47_.symm
  subst eq47_
  replace h := u0_e h
  obtain ⟨rfl, rfl⟩ := ret_inj h
  exact g_vret C hlk hr (by decide +kernel)
/-! PollBooksModel.poll(IIIZ)I -/
def y_Mo_poll : MethodName := ⟨"PollBooksModel", "poll", "(IIIZ)I"⟩
def rm_Mo_poll : Room := { frames := 8, cells := 0, slots := 0, locals := 206 }
theorem mw_Mo_poll : MW y_Mo_poll prog_14_method_100_code 5 (some .int) 4 := ⟨lk_2166, lk_14, by decide +kernel⟩
def L_Mo_poll_b21 (d : Dt) : Option (Int × Dt) :=
  bd (L_Mo_refuse 1 d) (fun r2_ d1_ => some (r2_, d1_))
def L_Mo_poll (p1 p2 p3 p4 : Int) (d : Dt) : Option (Int × Dt) :=
  bd (L_Mo_isCandidate p1 d) (fun r6_ d5_ => if r6_ = 0 then L_Mo_poll_b21 d5_ else bd (L_Mo_isPlace p2 d5_) (fun r11_ d10_ => if r11_ = 0 then L_Mo_poll_b21 d10_ else bd (L_Mo_isDay p3 d10_) (fun r16_ d15_ => if r16_ = 0 then L_Mo_poll_b21 d15_ else bd (L_Mo_count p2 p3 p4 d15_) (fun r21_ d20_ => ck ((0 : Int) ≤ p1 ∧ p1 < 4) (bd (L_Mo_gives (d20_ 64 p1.toNat) d20_) (fun r27_ d26_ => some (r27_, d26_)))))))
set_option maxHeartbeats 4000000 in
theorem ok_Mo_poll_b21 {p : Program} {l : Launch} {e : Env} {s : State} {m : MethodId} {args : Array Value} {below : List Frame} {meth : Method} {c : Code} {D : va_G} {cA : Nat → ClassId} {ad : Nat → Nat} {A : Nat → Prop} (C : Cx p s m args c prog_14_method_100_code 5 "PollBooksModel" D cA ad 1 A) (hlk : meth.locks = false) (hr : meth.sig.returnType = (some .int)) {r : Int} {d' : Dt} (d : Dt)  (h : L_Mo_poll_b21 d = some (r, d')) : G p l e rm_Mo_poll s m args below meth c 0 0 (MQ below (fun _ => QC D cA ad 1 A (some .int) (some (0, r)) d') args s 0 0 A) 5 D cA ad 1 A 21 [(2, 0), (9, 0), (9, 0), (9, 0), (9, 0)] [] d := by
  unfold L_Mo_poll_b21 at h
  refine g_aload_n C 0 rfl (by decide +kernel) ?_
  refine g_iconst C 1 (cK rfl) (by decide +kernel) ?_
  obtain ⟨r2_, d1_, hr3_, h⟩ := bd_some h
  refine g_callV C mw_Mo_refuse [(0, 1)] 0 cl12 rfl (ok_Mo_refuse 1 d (c32_cb (Or.inr rfl)) hr3_) cd_B0 (by decide) (nB (by decide)) (ix := 316) lk_1787 lk_1789 lkp_61 ⟨rfl, rfl, Nat.le_of_ble_eq_true rfl, Nat.le_of_ble_eq_true rfl⟩ rfl (rest := []) rfl (Nat.le_of_ble_eq_true rfl) ⟨Nat.zero_le _, Nat.zero_le _⟩ (by decide +kernel) (fun _ hc4_ => ?_)
  replace hc4_ : c32 r2_ := hc4_
  refine g_st (st2 := [(0, r2_)]) rfl ?_
  obtain ⟨rfl, rfl⟩ := ret_inj h
  exact g_iret C hc4_ hlk hr (by decide +kernel)
set_option maxHeartbeats 4000000 in
theorem ok_Mo_poll {l : Launch} {r : Int} {d' : Dt} (p1 p2 p3 p4 : Int) (d : Dt) (hp1 : c32 p1) (hp2 : c32 p2) (hp3 : c32 p3) (hp4 : cb p4) (h : L_Mo_poll p1 p2 p3 p4 d = some (r, d')) : MC l y_Mo_poll prog_14_method_100_code 5 (some .int) rm_Mo_poll 1 [(2, 0), (0, p1), (0, p2), (0, p3), (0, p4)] d (some (0, r)) d' := by
  refine MC.of (by decide) (Nat.le_of_ble_eq_true rfl) ?_
  intro p e s m args below meth c D cA ad A C hlk hr
  replace C : Cx p s m args c prog_14_method_100_code 5 "PollBooksModel" D cA ad 1 A := C
  show G p l e rm_Mo_poll s m args below meth c 0 0 (MQ below (fun _ => QC D cA ad 1 A (some .int) (some (0, r)) d') args s 0 0 A) 5 D cA ad 1 A 0 [(2, 0), (0, p1), (0, p2), (0, p3), (0, p4)] [] d
  refine g_sub (lo2 := [(2, 0), (0, p1), (0, p2), (0, p3), (0, p4)]) (lsb_v (lsb_v (lsb_v (lsb_v (lsb_v lsb_e))))) ?_
  unfold L_Mo_poll at h
  refine g_iload_n C 1 rfl (by decide +kernel) ?_
  obtain ⟨r6_, d5_, hr7_, h⟩ := bd_some h
  refine g_callS C mw_Mo_isCandidate [(0, p1)] (ok_Mo_isCandidate p1 d hp1 hr7_) (ix := 550) lk_2112 lk_2113 ⟨rfl, rfl, Nat.le_of_ble_eq_true rfl, Nat.le_of_ble_eq_true rfl⟩ rfl (rest := []) rfl (Nat.le_of_ble_eq_true rfl) ⟨Nat.zero_le _, Nat.zero_le _⟩ (by decide +kernel) (fun _ hc8_ => ?_)
  replace hc8_ : cb r6_ := hc8_
  refine g_st (st2 := [(0, r6_)]) rfl ?_
  refine g_if_eq C (off := 17) (tgt := 21) (c32_cb hc8_) (by decide +kernel) (by decide) (fun hc9_ => ?_) (fun hc9_ => ?_)
  · replace h := ite_t hc9_ h
    refine g_sub (lo2 := [(2, 0), (9, 0), (9, 0), (9, 0), (9, 0)]) (lsb_v (lsb_c (lsb_c (lsb_c (lsb_c lsb_e))))) ?_
    exact ok_Mo_poll_b21 C hlk hr d5_  h
  · replace h := ite_f hc9_ h
    refine g_iload_n C 2 rfl (by decide +kernel) ?_
    obtain ⟨r11_, d10_, hr12_, h⟩ := bd_some h
    refine g_callS C mw_Mo_isPlace [(0, p2)] (ok_Mo_isPlace p2 d5_ hp2 hr12_) (ix := 325) lk_1798 lk_1799 ⟨rfl, rfl, Nat.le_of_ble_eq_true rfl, Nat.le_of_ble_eq_true rfl⟩ rfl (rest := []) rfl (Nat.le_of_ble_eq_true rfl) ⟨Nat.zero_le _, Nat.zero_le _⟩ (by decide +kernel) (fun _ hc13_ => ?_)
    replace hc13_ : cb r11_ := hc13_
    refine g_st (st2 := [(0, r11_)]) rfl ?_
    refine g_if_eq C (off := 10) (tgt := 21) (c32_cb hc13_) (by decide +kernel) (by decide) (fun hc14_ => ?_) (fun hc14_ => ?_)
    · replace h := ite_t hc14_ h
      refine g_sub (lo2 := [(2, 0), (9, 0), (9, 0), (9, 0), (9, 0)]) (lsb_v (lsb_c (lsb_c (lsb_c (lsb_c lsb_e))))) ?_
      exact ok_Mo_poll_b21 C hlk hr d10_  h
    · replace h := ite_f hc14_ h
      refine g_iload_n C 3 rfl (by decide +kernel) ?_
      obtain ⟨r16_, d15_, hr17_, h⟩ := bd_some h
      refine g_callS C mw_Mo_isDay [(0, p3)] (ok_Mo_isDay p3 d10_ hp3 hr17_) (ix := 340) lk_1815 lk_1816 ⟨rfl, rfl, Nat.le_of_ble_eq_true rfl, Nat.le_of_ble_eq_true rfl⟩ rfl (rest := []) rfl (Nat.le_of_ble_eq_true rfl) ⟨Nat.zero_le _, Nat.zero_le _⟩ (by decide +kernel) (fun _ hc18_ => ?_)
      replace hc18_ : cb r16_ := hc18_
      refine g_st (st2 := [(0, r16_)]) rfl ?_
      refine g_if_ne C (off := 9) (tgt := 27) (c32_cb hc18_) (by decide +kernel) (by decide) (fun hc19_ => ?_) (fun hc19_ => ?_)
      · replace h := ite_t hc19_ h
        refine g_sub (lo2 := [(2, 0), (9, 0), (9, 0), (9, 0), (9, 0)]) (lsb_v (lsb_c (lsb_c (lsb_c (lsb_c lsb_e))))) ?_
        exact ok_Mo_poll_b21 C hlk hr d15_  h
      · replace h := ite_f hc19_ h
        refine g_aload_n C 0 rfl (by decide +kernel) ?_
        refine g_iload_n C 2 rfl (by decide +kernel) ?_
        refine g_iload_n C 3 rfl (by decide +kernel) ?_
        refine g_iload C 4 rfl (by decide +kernel) ?_
        obtain ⟨r21_, d20_, hr22_, h⟩ := bd_some h
        refine g_callV C mw_Mo_count [(0, p2), (0, p3), (0, p4)] 0 cl12 rfl (ok_Mo_count p2 p3 p4 d15_ hp2 hp3 hp4 hr22_) cd_B0 (by decide) (nB (by decide)) (ix := 580) lk_2167 lk_2169 lkp_106 ⟨rfl, rfl, Nat.le_of_ble_eq_true rfl, Nat.le_of_ble_eq_true rfl⟩ rfl (rest := []) rfl (Nat.le_of_ble_eq_true rfl) ⟨Nat.zero_le _, Nat.zero_le _⟩ (by decide +kernel) (fun _ hc23_ => ?_)
        refine g_st (st2 := []) rfl ?_
        refine g_aload_n C 0 rfl (by decide +kernel) ?_
        refine g_aload_n C 0 rfl (by decide +kernel) ?_
        refine g_getR C cl12 0 86 64 rfl cd_B0 ⟨by decide, rfl, by decide⟩ rfl rfl (nB (by decide)) (ix := 215) lk_1488 (by decide +kernel) ?_
        refine g_iload_n C 1 rfl (by decide +kernel) ?_
        obtain ⟨hb24_, h⟩ := ck_some h
        refine g_iald C 64 hp1 rfl cd_B64 (nB (by decide)) hb24_ (by decide +kernel) (fun hc25_ => ?_)
        obtain ⟨r27_, d26_, hr28_, h⟩ := bd_some h
        refine g_callV C mw_Mo_gives [(0, (d20_ 64 p1.toNat))] 0 cl12 rfl (ok_Mo_gives (d20_ 64 p1.toNat) d20_ hc25_ hr28_) cd_B0 (by decide) (nB (by decide)) (ix := 312) lk_1783 lk_1785 lkp_60 ⟨rfl, rfl, Nat.le_of_ble_eq_true rfl, Nat.le_of_ble_eq_true rfl⟩ rfl (rest := []) rfl (Nat.le_of_ble_eq_true rfl) ⟨Nat.zero_le _, Nat.zero_le _⟩ (by decide +kernel) (fun _ hc29_ => ?_)
        replace hc29_ : c32 r27_ := hc29_
        refine g_st (st2 := [(0, r27_)]) rfl ?_
        obtain ⟨rfl, rfl⟩ := ret_inj h
        exact g_iret C hc29_ hlk hr (by decide +kernel)
/-! PollBooksModel.ahead(I)I -/
def y_Mo_ahead : MethodName := ⟨"PollBooksModel", "ahead", "(I)I"⟩
def rm_Mo_ahead : Room := { frames := 0, cells := 0, slots := 0, locals := 0 }
theorem mw_Mo_ahead : MW y_Mo_ahead prog_14_method_101_code 4 (some .int) 1 := ⟨lk_2178, lk_14, by decide +kernel⟩
def L_Mo_ahead_b50 (x1 x3 s0 s1 : Int) (d : Dt) : Option ((Int × Int × Int × Dt) ⊕ ((Int × Dt))) :=
  lt_ (w32 (s0 + s1)) (fun v1_ => some (Sum.inl (x1, v1_, (w32 (x3 + 1)), d)))
def L_Mo_ahead_y4 (x1 x2 x3 : Int) (d : Dt) : Option ((Int × Int × Int × Dt) ⊕ ((Int × Dt))) :=
  if x3 < 4 then ck ((0 : Int) ≤ x3 ∧ x3 < 4) (ck ((0 : Int) ≤ x1 ∧ x1 < 4) (if (d 64 x1.toNat) < (d 64 x3.toNat) then L_Mo_ahead_b50 x1 x3 x2 1 d else ck ((0 : Int) ≤ x3 ∧ x3 < 4) (ck ((0 : Int) ≤ x1 ∧ x1 < 4) (if (d 64 x3.toNat) = (d 64 x1.toNat) then if x3 < x1 then L_Mo_ahead_b50 x1 x3 x2 1 d else L_Mo_ahead_b50 x1 x3 x2 0 d else L_Mo_ahead_b50 x1 x3 x2 0 d)))) else some (Sum.inr (x2, d))
def L_Mo_ahead_l4 (x1 x2 x3 : Int) (d : Dt) : Option ((Int × Dt)) := lpF (fun q : Int × Int × Int × Dt => L_Mo_ahead_y4 q.1 q.2.1 q.2.2.1 q.2.2.2) FU (x1, x2, x3, d)
def L_Mo_ahead (p1 : Int) (d : Dt) : Option (Int × Dt) :=
  lb (L_Mo_ahead_l4 p1 0 0 d) (fun q21_ => u1 q21_ (fun v18_ d19_ => some (v18_, d19_)))
set_option maxHeartbeats 4000000 in
theorem ok_Mo_ahead_b50 {p : Program} {l : Launch} {e : Env} {s : State} {m : MethodId} {args : Array Value} {below : List Frame} {meth : Method} {c : Code} {D : va_G} {cA : Nat → ClassId} {ad : Nat → Nat} {A : Nat → Prop} (C : Cx p s m args c prog_14_method_101_code 4 "PollBooksModel" D cA ad 1 A) {Q : State → Prop} {o : (Int × Int × Int × Dt) ⊕ ((Int × Dt))} (x1 x3 s0 s1 : Int) (d : Dt) (hx1 : c32 x1) (hx3 : c32 x3) (hs0 : c32 s0) (hs1 : cb s1) (h : L_Mo_ahead_b50 x1 x3 s0 s1 d = some o) (kb : ∀ (y0 y1 y2 : Int) (e' : Dt), o = .inl (y0, y1, y2, e') → c32 y0 → c32 y1 → c32 y2 → G p l e rm_Mo_ahead s m args below meth c 0 0 Q 4 D cA ad 1 A 4 [(2, 0), (0, y0), (0, y1), (0, y2)] [] e') (k0 : ∀ (y0 : Int) (e' : Dt), o = .inr (y0, e') → c32 y0 → G p l e rm_Mo_ahead s m args below meth c 0 0 Q 4 D cA ad 1 A 58 [(9, 0), (9, 0), (0, y0), (9, 0)] [] e') : G p l e rm_Mo_ahead s m args below meth c 0 0 Q 4 D cA ad 1 A 50 [(2, 0), (0, x1), (9, 0), (0, x3)] [(0, s1), (0, s0)] d := by
  unfold L_Mo_ahead_b50 at h
  refine g_iadd C (by decide +kernel) ?_
  obtain ⟨v1_, ev2_, h⟩ := lt_some h
  refine g_val ev2_.symm ?_
  have hv3_ : c32 v1_ := by rw [ev2_]; exact (w32_c _)
  refine s_istore_n C 2 (lo' := [(2, 0), (0, x1), (0, v1_), (0, x3)]) (by decide) (s1k (s1n (by decide) s1z)) (by decide +kernel) ?_
  refine s_iinc C 3 1 (lo' := [(2, 0), (0, x1), (0, v1_), (0, (w32 (x3 + 1)))]) rfl (by decide) (s1k (s1k (s1n (by decide) s1z))) (by decide +kernel) ?_
  refine g_goto C 4 (off := (-51)) (by decide +kernel) (by decide) ?_
  refine g_sub (lo2 := [(2, 0), (0, x1), (0, v1_), (0, (w32 (x3 + 1)))]) (lsb_v (lsb_v (lsb_v (lsb_v lsb_e)))) ?_
  obtain rfl := Option.some.inj h
  exact kb x1 v1_ (w32 (x3 + 1)) d rfl hx1 hv3_ (w32_c _)
set_option maxHeartbeats 4000000 in
theorem ok_Mo_ahead_y4 {p : Program} {l : Launch} {e : Env} {s : State} {m : MethodId} {args : Array Value} {below : List Frame} {meth : Method} {c : Code} {D : va_G} {cA : Nat → ClassId} {ad : Nat → Nat} {A : Nat → Prop} (C : Cx p s m args c prog_14_method_101_code 4 "PollBooksModel" D cA ad 1 A) {Q : State → Prop} {o : (Int × Int × Int × Dt) ⊕ ((Int × Dt))} (x1 x2 x3 : Int) (d : Dt) (hx1 : c32 x1) (hx2 : c32 x2) (hx3 : c32 x3) (h : L_Mo_ahead_y4 x1 x2 x3 d = some o) (kb : ∀ (y0 y1 y2 : Int) (e' : Dt), o = .inl (y0, y1, y2, e') → c32 y0 → c32 y1 → c32 y2 → G p l e rm_Mo_ahead s m args below meth c 0 0 Q 4 D cA ad 1 A 4 [(2, 0), (0, y0), (0, y1), (0, y2)] [] e') (k0 : ∀ (y0 : Int) (e' : Dt), o = .inr (y0, e') → c32 y0 → G p l e rm_Mo_ahead s m args below meth c 0 0 Q 4 D cA ad 1 A 58 [(9, 0), (9, 0), (0, y0), (9, 0)] [] e') : G p l e rm_Mo_ahead s m args below meth c 0 0 Q 4 D cA ad 1 A 4 [(2, 0), (0, x1), (0, x2), (0, x3)] [] d := by
  unfold L_Mo_ahead_y4 at h
  refine g_iload_n C 3 rfl (by decide +kernel) ?_
  refine g_iconst C 4 (cK rfl) (by decide +kernel) ?_
  refine g_icmp_ge C (off := 52) (tgt := 58) hx3 (cK rfl) (by decide +kernel) (by decide) (fun hc4_ => ?_) (fun hc4_ => ?_)
  · replace h := ite_t hc4_ h
    refine g_iload_n C 2 rfl (by decide +kernel) ?_
    refine g_aload_n C 0 rfl (by decide +kernel) ?_
    refine g_getR C cl12 0 86 64 rfl cd_B0 ⟨by decide, rfl, by decide⟩ rfl rfl (nB (by decide)) (ix := 215) lk_1488 (by decide +kernel) ?_
    refine g_iload_n C 3 rfl (by decide +kernel) ?_
    obtain ⟨hb5_, h⟩ := ck_some h
    refine g_iald C 64 hx3 rfl cd_B64 (nB (by decide)) hb5_ (by decide +kernel) (fun hc6_ => ?_)
    refine g_aload_n C 0 rfl (by decide +kernel) ?_
    refine g_getR C cl12 0 86 64 rfl cd_B0 ⟨by decide, rfl, by decide⟩ rfl rfl (nB (by decide)) (ix := 215) lk_1488 (by decide +kernel) ?_
    refine g_iload_n C 1 rfl (by decide +kernel) ?_
    obtain ⟨hb7_, h⟩ := ck_some h
    refine g_iald C 64 hx1 rfl cd_B64 (nB (by decide)) hb7_ (by decide +kernel) (fun hc8_ => ?_)
    refine g_icmp_gt C (off := 23) (tgt := 45) hc6_ hc8_ (by decide +kernel) (by decide) (fun hc9_ => ?_) (fun hc9_ => ?_)
    · replace h := ite_t hc9_ h
      refine g_iconst C 1 (cK rfl) (by decide +kernel) ?_
      refine g_goto C 50 (off := 4) (by decide +kernel) (by decide) ?_
      refine g_sub (lo2 := [(2, 0), (0, x1), (9, 0), (0, x3)]) (lsb_v (lsb_v (lsb_c (lsb_v lsb_e)))) ?_
      exact ok_Mo_ahead_b50 C x1 x3 x2 1 d hx1 hx3 hx2 (Or.inr rfl) h kb k0
    · replace h := ite_f hc9_ h
      refine g_aload_n C 0 rfl (by decide +kernel) ?_
      refine g_getR C cl12 0 86 64 rfl cd_B0 ⟨by decide, rfl, by decide⟩ rfl rfl (nB (by decide)) (ix := 215) lk_1488 (by decide +kernel) ?_
      refine g_iload_n C 3 rfl (by decide +kernel) ?_
      obtain ⟨hb10_, h⟩ := ck_some h
      refine g_iald C 64 hx3 rfl cd_B64 (nB (by decide)) hb10_ (by decide +kernel) (fun hc11_ => ?_)
      refine g_aload_n C 0 rfl (by decide +kernel) ?_
      refine g_getR C cl12 0 86 64 rfl cd_B0 ⟨by decide, rfl, by decide⟩ rfl rfl (nB (by decide)) (ix := 215) lk_1488 (by decide +kernel) ?_
      refine g_iload_n C 1 rfl (by decide +kernel) ?_
      obtain ⟨hb12_, h⟩ := ck_some h
      refine g_iald C 64 hx1 rfl cd_B64 (nB (by decide)) hb12_ (by decide +kernel) (fun hc13_ => ?_)
      refine g_icmp_ne C (off := 12) (tgt := 49) hc11_ hc13_ (by decide +kernel) (by decide) (fun hc14_ => ?_) (fun hc14_ => ?_)
      · replace h := ite_t hc14_ h
        refine g_iload_n C 3 rfl (by decide +kernel) ?_
        refine g_iload_n C 1 rfl (by decide +kernel) ?_
        refine g_icmp_ge C (off := 7) (tgt := 49) hx3 hx1 (by decide +kernel) (by decide) (fun hc15_ => ?_) (fun hc15_ => ?_)
        · replace h := ite_t hc15_ h
          refine g_iconst C 1 (cK rfl) (by decide +kernel) ?_
          refine g_goto C 50 (off := 4) (by decide +kernel) (by decide) ?_
          refine g_sub (lo2 := [(2, 0), (0, x1), (9, 0), (0, x3)]) (lsb_v (lsb_v (lsb_c (lsb_v lsb_e)))) ?_
          exact ok_Mo_ahead_b50 C x1 x3 x2 1 d hx1 hx3 hx2 (Or.inr rfl) h kb k0
        · replace h := ite_f hc15_ h
          refine g_iconst C 0 (cK rfl) (by decide +kernel) ?_
          refine g_sub (lo2 := [(2, 0), (0, x1), (9, 0), (0, x3)]) (lsb_v (lsb_v (lsb_c (lsb_v lsb_e)))) ?_
          exact ok_Mo_ahead_b50 C x1 x3 x2 0 d hx1 hx3 hx2 (Or.inl rfl) h kb k0
      · replace h := ite_f hc14_ h
        refine g_iconst C 0 (cK rfl) (by decide +kernel) ?_
        refine g_sub (lo2 := [(2, 0), (0, x1), (9, 0), (0, x3)]) (lsb_v (lsb_v (lsb_c (lsb_v lsb_e)))) ?_
        exact ok_Mo_ahead_b50 C x1 x3 x2 0 d hx1 hx3 hx2 (Or.inl rfl) h kb k0
  · replace h := ite_f hc4_ h
    refine g_sub (lo2 := [(9, 0), (9, 0), (0, x2), (9, 0)]) (lsb_c (lsb_c (lsb_v (lsb_c lsb_e)))) ?_
    obtain rfl := Option.some.inj h
    exact k0 x2 d rfl hx2
set_option maxHeartbeats 4000000 in
theorem ok_Mo_ahead_n4 {p : Program} {l : Launch} {e : Env} {s : State} {m : MethodId} {args : Array Value} {below : List Frame} {meth : Method} {c : Code} {D : va_G} {cA : Nat → ClassId} {ad : Nat → Nat} {A : Nat → Prop} (C : Cx p s m args c prog_14_method_101_code 4 "PollBooksModel" D cA ad 1 A) {Q : State → Prop} {x : (Int × Dt)} : ∀ (n : Nat) (x1 x2 x3 : Int) (d : Dt), c32 x1 → c32 x2 → c32 x3 → lpF (fun q : Int × Int × Int × Dt => L_Mo_ahead_y4 q.1 q.2.1 q.2.2.1 q.2.2.2) n (x1, x2, x3, d) = some x → (∀ (y0 : Int) (e' : Dt), x = (y0, e') → c32 y0 → G p l e rm_Mo_ahead s m args below meth c 0 0 Q 4 D cA ad 1 A 58 [(9, 0), (9, 0), (0, y0), (9, 0)] [] e') → G p l e rm_Mo_ahead s m args below meth c 0 0 Q 4 D cA ad 1 A 4 [(2, 0), (0, x1), (0, x2), (0, x3)] [] d := by
  intro n
  induction n with
  | zero => intro x1 x2 x3 d g0 g1 g2 h k0; cases h
  | succ n ih =>
    intro x1 x2 x3 d g0 g1 g2 h k0
    rcases lpF_some h with h | ⟨⟨v0_, v1_, v2_, e0_⟩, h1, h⟩
    · exact ok_Mo_ahead_y4 C x1 x2 x3 d g0 g1 g2 h (fun z0_ z1_ z2_ e1_ eq w0_ w1_ w2_ => by cases eq) (fun z0_ e1_ eq w0_ => k0 _ _ (by cases eq; rfl) w0_)
    · exact ok_Mo_ahead_y4 C x1 x2 x3 d g0 g1 g2 h1 (fun z0_ z1_ z2_ e1_ eq w0_ w1_ w2_ => by cases eq; exact ih _ _ _ _ w0_ w1_ w2_ h k0) (fun z0_ e1_ eq w0_ => by cases eq)
set_option maxHeartbeats 4000000 in
theorem ok_Mo_ahead_l4 {p : Program} {l : Launch} {e : Env} {s : State} {m : MethodId} {args : Array Value} {below : List Frame} {meth : Method} {c : Code} {D : va_G} {cA : Nat → ClassId} {ad : Nat → Nat} {A : Nat → Prop} (C : Cx p s m args c prog_14_method_101_code 4 "PollBooksModel" D cA ad 1 A) {Q : State → Prop} {x : (Int × Dt)} (x1 x2 x3 : Int) (d : Dt) (hx1 : c32 x1) (hx2 : c32 x2) (hx3 : c32 x3) (h : L_Mo_ahead_l4 x1 x2 x3 d = some x) (k0 : ∀ (y0 : Int) (e' : Dt), x = (y0, e') → c32 y0 → G p l e rm_Mo_ahead s m args below meth c 0 0 Q 4 D cA ad 1 A 58 [(9, 0), (9, 0), (0, y0), (9, 0)] [] e') : G p l e rm_Mo_ahead s m args below meth c 0 0 Q 4 D cA ad 1 A 4 [(2, 0), (0, x1), (0, x2), (0, x3)] [] d :=
  ok_Mo_ahead_n4 C FU x1 x2 x3 d hx1 hx2 hx3 h k0
set_option maxHeartbeats 4000000 in
theorem ok_Mo_ahead {l : Launch} {r : Int} {d' : Dt} (p1 : Int) (d : Dt) (hp1 : c32 p1) (h : L_Mo_ahead p1 d = some (r, d')) : MC l y_Mo_ahead prog_14_method_101_code 4 (some .int) rm_Mo_ahead 1 [(2, 0), (0, p1)] d (some (0, r)) d' := by
  refine MC.of (by decide) (Nat.le_of_ble_eq_true rfl) ?_
  intro p e s m args below meth c D cA ad A C hlk hr
  replace C : Cx p s m args c prog_14_method_101_code 4 "PollBooksModel" D cA ad 1 A := C
  show G p l e rm_Mo_ahead s m args below meth c 0 0 (MQ below (fun _ => QC D cA ad 1 A (some .int) (some (0, r)) d') args s 0 0 A) 4 D cA ad 1 A 0 [(2, 0), (0, p1)] [] d
  refine g_sub (lo2 := [(2, 0), (0, p1), (9, 0), (9, 0)]) (lsb_v (lsb_v (lsb_n (lsb_n lsb_e)))) ?_
  unfold L_Mo_ahead at h
  refine g_iconst C 0 (cK rfl) (by decide +kernel) ?_
  refine s_istore_n C 2 (lo' := [(2, 0), (0, p1), (0, 0), (9, 0)]) (by decide) (s1k (s1n (by decide) s1z)) (by decide +kernel) ?_
  refine g_iconst C 0 (cK rfl) (by decide +kernel) ?_
  refine s_istore_n C 3 (lo' := [(2, 0), (0, p1), (0, 0), (0, 0)]) (by decide) (s1k (s1k (s1n (by decide) s1z))) (by decide +kernel) ?_
  refine g_sub (lo2 := [(2, 0), (0, p1), (0, 0), (0, 0)]) (lsb_v (lsb_v (lsb_v (lsb_v lsb_e)))) ?_
  obtain ⟨x16_, hx17_, h⟩ := lb_some h
  refine ok_Mo_ahead_l4 C p1 0 0 d hp1 (c32_cb (Or.inl rfl)) (c32_cb (Or.inl rfl)) hx17_ (fun v18_ d19_ eq20_ hv18_ => ?_)
  subst eq20_
  replace h := u1_e h
  refine g_iload_n C 2 rfl (by decide +kernel) ?_
  obtain ⟨rfl, rfl⟩ := ret_inj h
  exact g_iret C hv18_ hlk hr (by decide +kernel)
/-! PollBooksModel.seated(IIIZ)I -/
def y_Mo_seated : MethodName := ⟨"PollBooksModel", "seated", "(IIIZ)I"⟩
def rm_Mo_seated : Room := { frames := 8, cells := 0, slots := 0, locals := 206 }
theorem mw_Mo_seated : MW y_Mo_seated prog_14_method_102_code 7 (some .int) 4 := ⟨lk_2174, lk_14, by decide +kernel⟩
def L_Mo_seated_b63 (x1 x5 x6 : Int) (d : Dt) : Option ((Int × Int × Int × Dt) ⊕ ((Int × Dt))) :=
  some (Sum.inl (x1, x5, (w32 (x6 + 1)), d))
def L_Mo_seated_y43 (x1 x5 x6 : Int) (d : Dt) : Option ((Int × Int × Int × Dt) ⊕ ((Int × Dt))) :=
  if x6 < 4 then bd (L_Mo_ahead x6 d) (fun r3_ d2_ => if r3_ = x1 then L_Mo_seated_b63 x1 x6 x6 d2_ else L_Mo_seated_b63 x1 x5 x6 d2_) else some (Sum.inr (x5, d))
def L_Mo_seated_l43 (x1 x5 x6 : Int) (d : Dt) : Option ((Int × Dt)) := lpF (fun q : Int × Int × Int × Dt => L_Mo_seated_y43 q.1 q.2.1 q.2.2.1 q.2.2.2) FU (x1, x5, x6, d)
def L_Mo_seated_b23 (d : Dt) : Option (Int × Dt) :=
  bd (L_Mo_refuse 1 d) (fun r8_ d7_ => some (r8_, d7_))
def L_Mo_seated (p1 p2 p3 p4 : Int) (d : Dt) : Option (Int × Dt) :=
  if p1 < 0 then L_Mo_seated_b23 d else if 1 < p1 then L_Mo_seated_b23 d else bd (L_Mo_isPlace p2 d) (fun r14_ d13_ => if r14_ = 0 then L_Mo_seated_b23 d13_ else bd (L_Mo_isDay p3 d13_) (fun r19_ d18_ => if r19_ = 0 then L_Mo_seated_b23 d18_ else bd (L_Mo_count p2 p3 p4 d18_) (fun r24_ d23_ => lb (L_Mo_seated_l43 p1 0 0 d23_) (fun q36_ => u1 q36_ (fun v29_ d30_ => bd (L_Mo_gives v29_ d30_) (fun r33_ d32_ => some (r33_, d32_)))))))
set_option maxHeartbeats 4000000 in
theorem ok_Mo_seated_b63 {p : Program} {l : Launch} {e : Env} {s : State} {m : MethodId} {args : Array Value} {below : List Frame} {meth : Method} {c : Code} {D : va_G} {cA : Nat → ClassId} {ad : Nat → Nat} {A : Nat → Prop} (C : Cx p s m args c prog_14_method_102_code 7 "PollBooksModel" D cA ad 1 A) {Q : State → Prop} {o : (Int × Int × Int × Dt) ⊕ ((Int × Dt))} (x1 x5 x6 : Int) (d : Dt) (hx1 : c32 x1) (hx5 : c32 x5) (hx6 : c32 x6) (h : L_Mo_seated_b63 x1 x5 x6 d = some o) (kb : ∀ (y0 y1 y2 : Int) (e' : Dt), o = .inl (y0, y1, y2, e') → c32 y0 → c32 y1 → c32 y2 → G p l e rm_Mo_seated s m args below meth c 0 0 Q 7 D cA ad 1 A 43 [(2, 0), (0, y0), (9, 0), (9, 0), (9, 0), (0, y1), (0, y2)] [] e') (k0 : ∀ (y0 : Int) (e' : Dt), o = .inr (y0, e') → c32 y0 → G p l e rm_Mo_seated s m args below meth c 0 0 Q 7 D cA ad 1 A 69 [(2, 0), (9, 0), (9, 0), (9, 0), (9, 0), (0, y0), (9, 0)] [] e') : G p l e rm_Mo_seated s m args below meth c 0 0 Q 7 D cA ad 1 A 63 [(2, 0), (0, x1), (9, 0), (9, 0), (9, 0), (0, x5), (0, x6)] [] d := by
  unfold L_Mo_seated_b63 at h
  refine s_iinc C 6 1 (lo' := [(2, 0), (0, x1), (9, 0), (9, 0), (9, 0), (0, x5), (0, (w32 (x6 + 1)))]) rfl (by decide) (s1k (s1k (s1k (s1k (s1k (s1n (by decide) s1z)))))) (by decide +kernel) ?_
  refine g_goto C 43 (off := (-23)) (by decide +kernel) (by decide) ?_
  refine g_sub (lo2 := [(2, 0), (0, x1), (9, 0), (9, 0), (9, 0), (0, x5), (0, (w32 (x6 + 1)))]) (lsb_v (lsb_v (lsb_c (lsb_c (lsb_c (lsb_v (lsb_v lsb_e))))))) ?_
  obtain rfl := Option.some.inj h
  exact kb x1 x5 (w32 (x6 + 1)) d rfl hx1 hx5 (w32_c _)
set_option maxHeartbeats 4000000 in
theorem ok_Mo_seated_y43 {p : Program} {l : Launch} {e : Env} {s : State} {m : MethodId} {args : Array Value} {below : List Frame} {meth : Method} {c : Code} {D : va_G} {cA : Nat → ClassId} {ad : Nat → Nat} {A : Nat → Prop} (C : Cx p s m args c prog_14_method_102_code 7 "PollBooksModel" D cA ad 1 A) {Q : State → Prop} {o : (Int × Int × Int × Dt) ⊕ ((Int × Dt))} (x1 x5 x6 : Int) (d : Dt) (hx1 : c32 x1) (hx5 : c32 x5) (hx6 : c32 x6) (h : L_Mo_seated_y43 x1 x5 x6 d = some o) (kb : ∀ (y0 y1 y2 : Int) (e' : Dt), o = .inl (y0, y1, y2, e') → c32 y0 → c32 y1 → c32 y2 → G p l e rm_Mo_seated s m args below meth c 0 0 Q 7 D cA ad 1 A 43 [(2, 0), (0, y0), (9, 0), (9, 0), (9, 0), (0, y1), (0, y2)] [] e') (k0 : ∀ (y0 : Int) (e' : Dt), o = .inr (y0, e') → c32 y0 → G p l e rm_Mo_seated s m args below meth c 0 0 Q 7 D cA ad 1 A 69 [(2, 0), (9, 0), (9, 0), (9, 0), (9, 0), (0, y0), (9, 0)] [] e') : G p l e rm_Mo_seated s m args below meth c 0 0 Q 7 D cA ad 1 A 43 [(2, 0), (0, x1), (9, 0), (9, 0), (9, 0), (0, x5), (0, x6)] [] d := by
  unfold L_Mo_seated_y43 at h
  refine g_iload C 6 rfl (by decide +kernel) ?_
  refine g_iconst C 4 (cK rfl) (by decide +kernel) ?_
  refine g_icmp_ge C (off := 23) (tgt := 69) hx6 (cK rfl) (by decide +kernel) (by decide) (fun hc1_ => ?_) (fun hc1_ => ?_)
  · replace h := ite_t hc1_ h
    refine g_aload_n C 0 rfl (by decide +kernel) ?_
    refine g_iload C 6 rfl (by decide +kernel) ?_
    obtain ⟨r3_, d2_, hr4_, h⟩ := bd_some h
    refine g_callV C mw_Mo_ahead [(0, x6)] 0 cl12 rfl (ok_Mo_ahead x6 d hx6 hr4_) cd_B0 (by decide) (nB (by decide)) (ix := 584) lk_2175 lk_2177 lkp_107 ⟨rfl, rfl, Nat.le_of_ble_eq_true rfl, Nat.le_of_ble_eq_true rfl⟩ rfl (rest := []) rfl (Nat.le_of_ble_eq_true rfl) ⟨Nat.zero_le _, Nat.zero_le _⟩ (by decide +kernel) (fun _ hc5_ => ?_)
    replace hc5_ : c32 r3_ := hc5_
    refine g_st (st2 := [(0, r3_)]) rfl ?_
    refine g_iload_n C 1 rfl (by decide +kernel) ?_
    refine g_icmp_ne C (off := 7) (tgt := 63) hc5_ hx1 (by decide +kernel) (by decide) (fun hc6_ => ?_) (fun hc6_ => ?_)
    · replace h := ite_t hc6_ h
      refine g_iload C 6 rfl (by decide +kernel) ?_
      refine s_istore C 5 (lo' := [(2, 0), (0, x1), (9, 0), (9, 0), (9, 0), (0, x6), (0, x6)]) (by decide) (s1k (s1k (s1k (s1k (s1n (by decide) s1z))))) (by decide +kernel) ?_
      refine g_sub (lo2 := [(2, 0), (0, x1), (9, 0), (9, 0), (9, 0), (0, x6), (0, x6)]) (lsb_v (lsb_v (lsb_c (lsb_c (lsb_c (lsb_v (lsb_v lsb_e))))))) ?_
      exact ok_Mo_seated_b63 C x1 x6 x6 d2_ hx1 hx6 hx6 h kb k0
    · replace h := ite_f hc6_ h
      refine g_sub (lo2 := [(2, 0), (0, x1), (9, 0), (9, 0), (9, 0), (0, x5), (0, x6)]) (lsb_v (lsb_v (lsb_c (lsb_c (lsb_c (lsb_v (lsb_v lsb_e))))))) ?_
      exact ok_Mo_seated_b63 C x1 x5 x6 d2_ hx1 hx5 hx6 h kb k0
  · replace h := ite_f hc1_ h
    refine g_sub (lo2 := [(2, 0), (9, 0), (9, 0), (9, 0), (9, 0), (0, x5), (9, 0)]) (lsb_v (lsb_c (lsb_c (lsb_c (lsb_c (lsb_v (lsb_c lsb_e))))))) ?_
    obtain rfl := Option.some.inj h
    exact k0 x5 d rfl hx5
set_option maxHeartbeats 4000000 in
theorem ok_Mo_seated_n43 {p : Program} {l : Launch} {e : Env} {s : State} {m : MethodId} {args : Array Value} {below : List Frame} {meth : Method} {c : Code} {D : va_G} {cA : Nat → ClassId} {ad : Nat → Nat} {A : Nat → Prop} (C : Cx p s m args c prog_14_method_102_code 7 "PollBooksModel" D cA ad 1 A) {Q : State → Prop} {x : (Int × Dt)} : ∀ (n : Nat) (x1 x5 x6 : Int) (d : Dt), c32 x1 → c32 x5 → c32 x6 → lpF (fun q : Int × Int × Int × Dt => L_Mo_seated_y43 q.1 q.2.1 q.2.2.1 q.2.2.2) n (x1, x5, x6, d) = some x → (∀ (y0 : Int) (e' : Dt), x = (y0, e') → c32 y0 → G p l e rm_Mo_seated s m args below meth c 0 0 Q 7 D cA ad 1 A 69 [(2, 0), (9, 0), (9, 0), (9, 0), (9, 0), (0, y0), (9, 0)] [] e') → G p l e rm_Mo_seated s m args below meth c 0 0 Q 7 D cA ad 1 A 43 [(2, 0), (0, x1), (9, 0), (9, 0), (9, 0), (0, x5), (0, x6)] [] d := by
  intro n
  induction n with
  | zero => intro x1 x5 x6 d g0 g1 g2 h k0; cases h
  | succ n ih =>
    intro x1 x5 x6 d g0 g1 g2 h k0
    rcases lpF_some h with h | ⟨⟨v0_, v1_, v2_, e0_⟩, h1, h⟩
    · exact ok_Mo_seated_y43 C x1 x5 x6 d g0 g1 g2 h (fun z0_ z1_ z2_ e1_ eq w0_ w1_ w2_ => by cases eq) (fun z0_ e1_ eq w0_ => k0 _ _ (by cases eq; rfl) w0_)
    · exact ok_Mo_seated_y43 C x1 x5 x6 d g0 g1 g2 h1 (fun z0_ z1_ z2_ e1_ eq w0_ w1_ w2_ => by cases eq; exact ih _ _ _ _ w0_ w1_ w2_ h k0) (fun z0_ e1_ eq w0_ => by cases eq)
set_option maxHeartbeats 4000000 in
theorem ok_Mo_seated_l43 {p : Program} {l : Launch} {e : Env} {s : State} {m : MethodId} {args : Array Value} {below : List Frame} {meth : Method} {c : Code} {D : va_G} {cA : Nat → ClassId} {ad : Nat → Nat} {A : Nat → Prop} (C : Cx p s m args c prog_14_method_102_code 7 "PollBooksModel" D cA ad 1 A) {Q : State → Prop} {x : (Int × Dt)} (x1 x5 x6 : Int) (d : Dt) (hx1 : c32 x1) (hx5 : c32 x5) (hx6 : c32 x6) (h : L_Mo_seated_l43 x1 x5 x6 d = some x) (k0 : ∀ (y0 : Int) (e' : Dt), x = (y0, e') → c32 y0 → G p l e rm_Mo_seated s m args below meth c 0 0 Q 7 D cA ad 1 A 69 [(2, 0), (9, 0), (9, 0), (9, 0), (9, 0), (0, y0), (9, 0)] [] e') : G p l e rm_Mo_seated s m args below meth c 0 0 Q 7 D cA ad 1 A 43 [(2, 0), (0, x1), (9, 0), (9, 0), (9, 0), (0, x5), (0, x6)] [] d :=
  ok_Mo_seated_n43 C FU x1 x5 x6 d hx1 hx5 hx6 h k0
set_option maxHeartbeats 4000000 in
theorem ok_Mo_seated_b23 {p : Program} {l : Launch} {e : Env} {s : State} {m : MethodId} {args : Array Value} {below : List Frame} {meth : Method} {c : Code} {D : va_G} {cA : Nat → ClassId} {ad : Nat → Nat} {A : Nat → Prop} (C : Cx p s m args c prog_14_method_102_code 7 "PollBooksModel" D cA ad 1 A) (hlk : meth.locks = false) (hr : meth.sig.returnType = (some .int)) {r : Int} {d' : Dt} (d : Dt)  (h : L_Mo_seated_b23 d = some (r, d')) : G p l e rm_Mo_seated s m args below meth c 0 0 (MQ below (fun _ => QC D cA ad 1 A (some .int) (some (0, r)) d') args s 0 0 A) 7 D cA ad 1 A 23 [(2, 0), (9, 0), (9, 0), (9, 0), (9, 0), (9, 0), (9, 0)] [] d := by
  unfold L_Mo_seated_b23 at h
  refine g_aload_n C 0 rfl (by decide +kernel) ?_
  refine g_iconst C 1 (cK rfl) (by decide +kernel) ?_
  obtain ⟨r8_, d7_, hr9_, h⟩ := bd_some h
  refine g_callV C mw_Mo_refuse [(0, 1)] 0 cl12 rfl (ok_Mo_refuse 1 d (c32_cb (Or.inr rfl)) hr9_) cd_B0 (by decide) (nB (by decide)) (ix := 316) lk_1787 lk_1789 lkp_61 ⟨rfl, rfl, Nat.le_of_ble_eq_true rfl, Nat.le_of_ble_eq_true rfl⟩ rfl (rest := []) rfl (Nat.le_of_ble_eq_true rfl) ⟨Nat.zero_le _, Nat.zero_le _⟩ (by decide +kernel) (fun _ hc10_ => ?_)
  replace hc10_ : c32 r8_ := hc10_
  refine g_st (st2 := [(0, r8_)]) rfl ?_
  obtain ⟨rfl, rfl⟩ := ret_inj h
  exact g_iret C hc10_ hlk hr (by decide +kernel)
set_option maxHeartbeats 4000000 in
theorem ok_Mo_seated {l : Launch} {r : Int} {d' : Dt} (p1 p2 p3 p4 : Int) (d : Dt) (hp1 : c32 p1) (hp2 : c32 p2) (hp3 : c32 p3) (hp4 : cb p4) (h : L_Mo_seated p1 p2 p3 p4 d = some (r, d')) : MC l y_Mo_seated prog_14_method_102_code 7 (some .int) rm_Mo_seated 1 [(2, 0), (0, p1), (0, p2), (0, p3), (0, p4)] d (some (0, r)) d' := by
  refine MC.of (by decide) (Nat.le_of_ble_eq_true rfl) ?_
  intro p e s m args below meth c D cA ad A C hlk hr
  replace C : Cx p s m args c prog_14_method_102_code 7 "PollBooksModel" D cA ad 1 A := C
  show G p l e rm_Mo_seated s m args below meth c 0 0 (MQ below (fun _ => QC D cA ad 1 A (some .int) (some (0, r)) d') args s 0 0 A) 7 D cA ad 1 A 0 [(2, 0), (0, p1), (0, p2), (0, p3), (0, p4)] [] d
  refine g_sub (lo2 := [(2, 0), (0, p1), (0, p2), (0, p3), (0, p4), (9, 0), (9, 0)]) (lsb_v (lsb_v (lsb_v (lsb_v (lsb_v (lsb_n (lsb_n lsb_e))))))) ?_
  unfold L_Mo_seated at h
  refine g_iload_n C 1 rfl (by decide +kernel) ?_
  refine g_if_lt C (off := 22) (tgt := 23) hp1 (by decide +kernel) (by decide) (fun hc11_ => ?_) (fun hc11_ => ?_)
  · replace h := ite_t hc11_ h
    refine g_sub (lo2 := [(2, 0), (9, 0), (9, 0), (9, 0), (9, 0), (9, 0), (9, 0)]) (lsb_v (lsb_c (lsb_c (lsb_c (lsb_c (lsb_c (lsb_c lsb_e))))))) ?_
    exact ok_Mo_seated_b23 C hlk hr d  h
  · replace h := ite_f hc11_ h
    refine g_iload_n C 1 rfl (by decide +kernel) ?_
    refine g_iconst C 1 (cK rfl) (by decide +kernel) ?_
    refine g_icmp_gt C (off := 17) (tgt := 23) hp1 (c32_cb (Or.inr rfl)) (by decide +kernel) (by decide) (fun hc12_ => ?_) (fun hc12_ => ?_)
    · replace h := ite_t hc12_ h
      refine g_sub (lo2 := [(2, 0), (9, 0), (9, 0), (9, 0), (9, 0), (9, 0), (9, 0)]) (lsb_v (lsb_c (lsb_c (lsb_c (lsb_c (lsb_c (lsb_c lsb_e))))))) ?_
      exact ok_Mo_seated_b23 C hlk hr d  h
    · replace h := ite_f hc12_ h
      refine g_iload_n C 2 rfl (by decide +kernel) ?_
      obtain ⟨r14_, d13_, hr15_, h⟩ := bd_some h
      refine g_callS C mw_Mo_isPlace [(0, p2)] (ok_Mo_isPlace p2 d hp2 hr15_) (ix := 325) lk_1798 lk_1799 ⟨rfl, rfl, Nat.le_of_ble_eq_true rfl, Nat.le_of_ble_eq_true rfl⟩ rfl (rest := []) rfl (Nat.le_of_ble_eq_true rfl) ⟨Nat.zero_le _, Nat.zero_le _⟩ (by decide +kernel) (fun _ hc16_ => ?_)
      replace hc16_ : cb r14_ := hc16_
      refine g_st (st2 := [(0, r14_)]) rfl ?_
      refine g_if_eq C (off := 10) (tgt := 23) (c32_cb hc16_) (by decide +kernel) (by decide) (fun hc17_ => ?_) (fun hc17_ => ?_)
      · replace h := ite_t hc17_ h
        refine g_sub (lo2 := [(2, 0), (9, 0), (9, 0), (9, 0), (9, 0), (9, 0), (9, 0)]) (lsb_v (lsb_c (lsb_c (lsb_c (lsb_c (lsb_c (lsb_c lsb_e))))))) ?_
        exact ok_Mo_seated_b23 C hlk hr d13_  h
      · replace h := ite_f hc17_ h
        refine g_iload_n C 3 rfl (by decide +kernel) ?_
        obtain ⟨r19_, d18_, hr20_, h⟩ := bd_some h
        refine g_callS C mw_Mo_isDay [(0, p3)] (ok_Mo_isDay p3 d13_ hp3 hr20_) (ix := 340) lk_1815 lk_1816 ⟨rfl, rfl, Nat.le_of_ble_eq_true rfl, Nat.le_of_ble_eq_true rfl⟩ rfl (rest := []) rfl (Nat.le_of_ble_eq_true rfl) ⟨Nat.zero_le _, Nat.zero_le _⟩ (by decide +kernel) (fun _ hc21_ => ?_)
        replace hc21_ : cb r19_ := hc21_
        refine g_st (st2 := [(0, r19_)]) rfl ?_
        refine g_if_ne C (off := 9) (tgt := 29) (c32_cb hc21_) (by decide +kernel) (by decide) (fun hc22_ => ?_) (fun hc22_ => ?_)
        · replace h := ite_t hc22_ h
          refine g_sub (lo2 := [(2, 0), (9, 0), (9, 0), (9, 0), (9, 0), (9, 0), (9, 0)]) (lsb_v (lsb_c (lsb_c (lsb_c (lsb_c (lsb_c (lsb_c lsb_e))))))) ?_
          exact ok_Mo_seated_b23 C hlk hr d18_  h
        · replace h := ite_f hc22_ h
          refine g_aload_n C 0 rfl (by decide +kernel) ?_
          refine g_iload_n C 2 rfl (by decide +kernel) ?_
          refine g_iload_n C 3 rfl (by decide +kernel) ?_
          refine g_iload C 4 rfl (by decide +kernel) ?_
          obtain ⟨r24_, d23_, hr25_, h⟩ := bd_some h
          refine g_callV C mw_Mo_count [(0, p2), (0, p3), (0, p4)] 0 cl12 rfl (ok_Mo_count p2 p3 p4 d18_ hp2 hp3 hp4 hr25_) cd_B0 (by decide) (nB (by decide)) (ix := 580) lk_2167 lk_2169 lkp_106 ⟨rfl, rfl, Nat.le_of_ble_eq_true rfl, Nat.le_of_ble_eq_true rfl⟩ rfl (rest := []) rfl (Nat.le_of_ble_eq_true rfl) ⟨Nat.zero_le _, Nat.zero_le _⟩ (by decide +kernel) (fun _ hc26_ => ?_)
          refine g_st (st2 := []) rfl ?_
          refine g_iconst C 0 (cK rfl) (by decide +kernel) ?_
          refine s_istore C 5 (lo' := [(2, 0), (0, p1), (0, p2), (0, p3), (0, p4), (0, 0), (9, 0)]) (by decide) (s1k (s1k (s1k (s1k (s1n (by decide) s1z))))) (by decide +kernel) ?_
          refine g_iconst C 0 (cK rfl) (by decide +kernel) ?_
          refine s_istore C 6 (lo' := [(2, 0), (0, p1), (0, p2), (0, p3), (0, p4), (0, 0), (0, 0)]) (by decide) (s1k (s1k (s1k (s1k (s1k (s1n (by decide) s1z)))))) (by decide +kernel) ?_
          refine g_sub (lo2 := [(2, 0), (0, p1), (9, 0), (9, 0), (9, 0), (0, 0), (0, 0)]) (lsb_v (lsb_v (lsb_c (lsb_c (lsb_c (lsb_v (lsb_v lsb_e))))))) ?_
          obtain ⟨x27_, hx28_, h⟩ := lb_some h
          refine ok_Mo_seated_l43 C p1 0 0 d23_ hp1 (c32_cb (Or.inl rfl)) (c32_cb (Or.inl rfl)) hx28_ (fun v29_ d30_ eq31_ hv29_ => ?_)
          subst eq31_
          replace h := u1_e h
          refine g_aload_n C 0 rfl (by decide +kernel) ?_
          refine g_iload C 5 rfl (by decide +kernel) ?_
          obtain ⟨r33_, d32_, hr34_, h⟩ := bd_some h
          refine g_callV C mw_Mo_gives [(0, v29_)] 0 cl12 rfl (ok_Mo_gives v29_ d30_ hv29_ hr34_) cd_B0 (by decide) (nB (by decide)) (ix := 312) lk_1783 lk_1785 lkp_60 ⟨rfl, rfl, Nat.le_of_ble_eq_true rfl, Nat.le_of_ble_eq_true rfl⟩ rfl (rest := []) rfl (Nat.le_of_ble_eq_true rfl) ⟨Nat.zero_le _, Nat.zero_le _⟩ (by decide +kernel) (fun _ hc35_ => ?_)
          replace hc35_ : c32 r33_ := hc35_
          refine g_st (st2 := [(0, r33_)]) rfl ?_
          obtain ⟨rfl, rfl⟩ := ret_inj h
          exact g_iret C hc35_ hlk hr (by decide +kernel)
/-! PollBooksModel.ground(ZI)I -/
def y_Mo_ground : MethodName := ⟨"PollBooksModel", "ground", "(ZI)I"⟩
def rm_Mo_ground : Room := { frames := 1, cells := 0, slots := 0, locals := 21 }
theorem mw_Mo_ground : MW y_Mo_ground prog_14_method_103_code 4 (some .int) 2 := ⟨lk_2182, lk_14, by decide +kernel⟩
def L_Mo_ground_b81 (x1 x2 x3 : Int) (d : Dt) : Option ((Int × Int × Int × Dt) ⊕ ((Int × Int × Dt) ⊕ (Dt))) :=
  some (Sum.inl (x1, x2, (w32 (x3 + 1)), d))
def L_Mo_ground_y46 (x1 x2 x3 : Int) (d : Dt) : Option ((Int × Int × Int × Dt) ⊕ ((Int × Int × Dt) ⊕ (Dt))) :=
  if x3 < (d 0 92) then ck ((0 : Int) ≤ x3 ∧ x3 < 10) (if (d 68 x3.toNat) = x1 then ck ((0 : Int) ≤ x3 ∧ x3 < 10) (if (d 65 x3.toNat) = x2 then some (Sum.inr (Sum.inr (d))) else L_Mo_ground_b81 x1 x2 x3 d) else L_Mo_ground_b81 x1 x2 x3 d) else some (Sum.inr (Sum.inl (x1, x2, d)))
def L_Mo_ground_l46 (x1 x2 x3 : Int) (d : Dt) : Option ((Int × Int × Dt) ⊕ (Dt)) := lpF (fun q : Int × Int × Int × Dt => L_Mo_ground_y46 q.1 q.2.1 q.2.2.1 q.2.2.2) FU (x1, x2, x3, d)
def L_Mo_ground_b29 (x1 x2 : Int) (d : Dt) : Option (Int × Dt) :=
  if (d 0 92) = 10 then bd (L_Mo_refuse 4 d) (fun r12_ d11_ => some (r12_, d11_)) else lb (L_Mo_ground_l46 x1 x2 0 d) (fun q39_ => sm q39_ (fun q40_ => u2 q40_ (fun v17_ v18_ d19_ => ck ((0 : Int) ≤ (d19_ 0 92) ∧ (d19_ 0 92) < 10) (ck ((0 : Int) ≤ (d19_ 0 92) ∧ (d19_ 0 92) < 10) (ck ((0 : Int) ≤ (d19_ 0 92) ∧ (d19_ 0 92) < 10) (bd (L_Mo_gives (w32 ((w32 ((d19_ 0 92) + 1)) - 1)) (up2 (up2 (up2 (up2 d19_ 68 ((d19_ 0 92)).toNat v17_) 65 ((d19_ 0 92)).toNat v18_) 66 ((d19_ 0 92)).toNat 0) 0 92 (w32 ((d19_ 0 92) + 1)))) (fun r30_ d29_ => some (r30_, d29_))))))) (fun q41_ => u0 q41_ (fun d33_ => bd (L_Mo_refuse 7 d33_) (fun r36_ d35_ => some (r36_, d35_)))))
def L_Mo_ground_b23 (d : Dt) : Option (Int × Dt) :=
  bd (L_Mo_refuse 1 d) (fun r43_ d42_ => some (r43_, d42_))
def L_Mo_ground (p1 p2 : Int) (d : Dt) : Option (Int × Dt) :=
  if p1 = 0 then bd (L_Mo_isEntry p2 d) (fun r48_ d47_ => if r48_ = 0 then L_Mo_ground_b23 d47_ else L_Mo_ground_b29 p1 p2 d47_) else bd (L_Mo_isOffer p2 d) (fun r53_ d52_ => if r53_ = 0 then L_Mo_ground_b23 d52_ else L_Mo_ground_b29 p1 p2 d52_)
set_option maxHeartbeats 4000000 in
theorem ok_Mo_ground_b81 {p : Program} {l : Launch} {e : Env} {s : State} {m : MethodId} {args : Array Value} {below : List Frame} {meth : Method} {c : Code} {D : va_G} {cA : Nat → ClassId} {ad : Nat → Nat} {A : Nat → Prop} (C : Cx p s m args c prog_14_method_103_code 4 "PollBooksModel" D cA ad 1 A) {Q : State → Prop} {o : (Int × Int × Int × Dt) ⊕ ((Int × Int × Dt) ⊕ (Dt))} (x1 x2 x3 : Int) (d : Dt) (hx1 : cb x1) (hx2 : c32 x2) (hx3 : c32 x3) (h : L_Mo_ground_b81 x1 x2 x3 d = some o) (kb : ∀ (y0 y1 y2 : Int) (e' : Dt), o = .inl (y0, y1, y2, e') → cb y0 → c32 y1 → c32 y2 → G p l e rm_Mo_ground s m args below meth c 0 0 Q 4 D cA ad 1 A 46 [(2, 0), (0, y0), (0, y1), (0, y2)] [] e') (k0 : ∀ (y0 y1 : Int) (e' : Dt), o = .inr (Sum.inl (y0, y1, e')) → cb y0 → c32 y1 → G p l e rm_Mo_ground s m args below meth c 0 0 Q 4 D cA ad 1 A 87 [(2, 0), (0, y0), (0, y1), (9, 0)] [] e') (k1 : ∀ (e' : Dt), o = .inr (Sum.inr (e')) → G p l e rm_Mo_ground s m args below meth c 0 0 Q 4 D cA ad 1 A 74 [(2, 0), (9, 0), (9, 0), (9, 0)] [] e') : G p l e rm_Mo_ground s m args below meth c 0 0 Q 4 D cA ad 1 A 81 [(2, 0), (0, x1), (0, x2), (0, x3)] [] d := by
  unfold L_Mo_ground_b81 at h
  refine s_iinc C 3 1 (lo' := [(2, 0), (0, x1), (0, x2), (0, (w32 (x3 + 1)))]) rfl (by decide) (s1k (s1k (s1n (by decide) s1z))) (by decide +kernel) ?_
  refine g_goto C 46 (off := (-38)) (by decide +kernel) (by decide) ?_
  refine g_sub (lo2 := [(2, 0), (0, x1), (0, x2), (0, (w32 (x3 + 1)))]) (lsb_v (lsb_v (lsb_v (lsb_v lsb_e)))) ?_
  obtain rfl := Option.some.inj h
  exact kb x1 x2 (w32 (x3 + 1)) d rfl hx1 hx2 (w32_c _)
set_option maxHeartbeats 4000000 in
theorem ok_Mo_ground_y46 {p : Program} {l : Launch} {e : Env} {s : State} {m : MethodId} {args : Array Value} {below : List Frame} {meth : Method} {c : Code} {D : va_G} {cA : Nat → ClassId} {ad : Nat → Nat} {A : Nat → Prop} (C : Cx p s m args c prog_14_method_103_code 4 "PollBooksModel" D cA ad 1 A) {Q : State → Prop} {o : (Int × Int × Int × Dt) ⊕ ((Int × Int × Dt) ⊕ (Dt))} (x1 x2 x3 : Int) (d : Dt) (hx1 : cb x1) (hx2 : c32 x2) (hx3 : c32 x3) (h : L_Mo_ground_y46 x1 x2 x3 d = some o) (kb : ∀ (y0 y1 y2 : Int) (e' : Dt), o = .inl (y0, y1, y2, e') → cb y0 → c32 y1 → c32 y2 → G p l e rm_Mo_ground s m args below meth c 0 0 Q 4 D cA ad 1 A 46 [(2, 0), (0, y0), (0, y1), (0, y2)] [] e') (k0 : ∀ (y0 y1 : Int) (e' : Dt), o = .inr (Sum.inl (y0, y1, e')) → cb y0 → c32 y1 → G p l e rm_Mo_ground s m args below meth c 0 0 Q 4 D cA ad 1 A 87 [(2, 0), (0, y0), (0, y1), (9, 0)] [] e') (k1 : ∀ (e' : Dt), o = .inr (Sum.inr (e')) → G p l e rm_Mo_ground s m args below meth c 0 0 Q 4 D cA ad 1 A 74 [(2, 0), (9, 0), (9, 0), (9, 0)] [] e') : G p l e rm_Mo_ground s m args below meth c 0 0 Q 4 D cA ad 1 A 46 [(2, 0), (0, x1), (0, x2), (0, x3)] [] d := by
  unfold L_Mo_ground_y46 at h
  refine g_iload_n C 3 rfl (by decide +kernel) ?_
  refine g_aload_n C 0 rfl (by decide +kernel) ?_
  refine g_getI C cl12 0 92 rfl cd_B0 ⟨by decide, rfl, by decide⟩ rfl (nB (by decide)) (ix := 587) lk_1494 (by decide +kernel) (fun hc1_ => ?_)
  refine g_icmp_ge C (off := 36) (tgt := 87) hx3 hc1_ (by decide +kernel) (by decide) (fun hc2_ => ?_) (fun hc2_ => ?_)
  · replace h := ite_t hc2_ h
    refine g_aload_n C 0 rfl (by decide +kernel) ?_
    refine g_getR C cl12 0 91 68 rfl cd_B0 ⟨by decide, rfl, by decide⟩ rfl rfl (nB (by decide)) (ix := 227) lk_1493 (by decide +kernel) ?_
    refine g_iload_n C 3 rfl (by decide +kernel) ?_
    obtain ⟨hb3_, h⟩ := ck_some h
    refine g_zald C 68 hx3 rfl cd_B68 (nB (by decide)) hb3_ (by decide +kernel) (fun hc4_ => ?_)
    refine g_iload_n C 1 rfl (by decide +kernel) ?_
    refine g_icmp_ne C (off := 20) (tgt := 81) (c32_cb hc4_) (c32_cb hx1) (by decide +kernel) (by decide) (fun hc5_ => ?_) (fun hc5_ => ?_)
    · replace h := ite_t hc5_ h
      refine g_aload_n C 0 rfl (by decide +kernel) ?_
      refine g_getR C cl12 0 88 65 rfl cd_B0 ⟨by decide, rfl, by decide⟩ rfl rfl (nB (by decide)) (ix := 218) lk_1490 (by decide +kernel) ?_
      refine g_iload_n C 3 rfl (by decide +kernel) ?_
      obtain ⟨hb6_, h⟩ := ck_some h
      refine g_iald C 65 hx3 rfl cd_B65 (nB (by decide)) hb6_ (by decide +kernel) (fun hc7_ => ?_)
      refine g_iload_n C 2 rfl (by decide +kernel) ?_
      refine g_icmp_ne C (off := 10) (tgt := 81) hc7_ hx2 (by decide +kernel) (by decide) (fun hc8_ => ?_) (fun hc8_ => ?_)
      · replace h := ite_t hc8_ h
        refine g_sub (lo2 := [(2, 0), (9, 0), (9, 0), (9, 0)]) (lsb_v (lsb_c (lsb_c (lsb_c lsb_e)))) ?_
        obtain rfl := Option.some.inj h
        exact k1 d rfl 
      · replace h := ite_f hc8_ h
        refine g_sub (lo2 := [(2, 0), (0, x1), (0, x2), (0, x3)]) (lsb_v (lsb_v (lsb_v (lsb_v lsb_e)))) ?_
        exact ok_Mo_ground_b81 C x1 x2 x3 d hx1 hx2 hx3 h kb k0 k1
    · replace h := ite_f hc5_ h
      refine g_sub (lo2 := [(2, 0), (0, x1), (0, x2), (0, x3)]) (lsb_v (lsb_v (lsb_v (lsb_v lsb_e)))) ?_
      exact ok_Mo_ground_b81 C x1 x2 x3 d hx1 hx2 hx3 h kb k0 k1
  · replace h := ite_f hc2_ h
    refine g_sub (lo2 := [(2, 0), (0, x1), (0, x2), (9, 0)]) (lsb_v (lsb_v (lsb_v (lsb_c lsb_e)))) ?_
    obtain rfl := Option.some.inj h
    exact k0 x1 x2 d rfl hx1 hx2
set_option maxHeartbeats 4000000 in
theorem ok_Mo_ground_n46 {p : Program} {l : Launch} {e : Env} {s : State} {m : MethodId} {args : Array Value} {below : List Frame} {meth : Method} {c : Code} {D : va_G} {cA : Nat → ClassId} {ad : Nat → Nat} {A : Nat → Prop} (C : Cx p s m args c prog_14_method_103_code 4 "PollBooksModel" D cA ad 1 A) {Q : State → Prop} {x : (Int × Int × Dt) ⊕ (Dt)} : ∀ (n : Nat) (x1 x2 x3 : Int) (d : Dt), cb x1 → c32 x2 → c32 x3 → lpF (fun q : Int × Int × Int × Dt => L_Mo_ground_y46 q.1 q.2.1 q.2.2.1 q.2.2.2) n (x1, x2, x3, d) = some x → (∀ (y0 y1 : Int) (e' : Dt), x = (Sum.inl (y0, y1, e')) → cb y0 → c32 y1 → G p l e rm_Mo_ground s m args below meth c 0 0 Q 4 D cA ad 1 A 87 [(2, 0), (0, y0), (0, y1), (9, 0)] [] e') → (∀ (e' : Dt), x = (Sum.inr (e')) → G p l e rm_Mo_ground s m args below meth c 0 0 Q 4 D cA ad 1 A 74 [(2, 0), (9, 0), (9, 0), (9, 0)] [] e') → G p l e rm_Mo_ground s m args below meth c 0 0 Q 4 D cA ad 1 A 46 [(2, 0), (0, x1), (0, x2), (0, x3)] [] d := by
  intro n
  induction n with
  | zero => intro x1 x2 x3 d g0 g1 g2 h k0 k1; cases h
  | succ n ih =>
    intro x1 x2 x3 d g0 g1 g2 h k0 k1
    rcases lpF_some h with h | ⟨⟨v0_, v1_, v2_, e0_⟩, h1, h⟩
    · exact ok_Mo_ground_y46 C x1 x2 x3 d g0 g1 g2 h (fun z0_ z1_ z2_ e1_ eq w0_ w1_ w2_ => by cases eq) (fun z0_ z1_ e1_ eq w0_ w1_ => k0 _ _ _ (by cases eq; rfl) w0_ w1_) (fun e1_ eq => k1 _ (by cases eq; rfl) )
    · exact ok_Mo_ground_y46 C x1 x2 x3 d g0 g1 g2 h1 (fun z0_ z1_ z2_ e1_ eq w0_ w1_ w2_ => by cases eq; exact ih _ _ _ _ w0_ w1_ w2_ h k0 k1) (fun z0_ z1_ e1_ eq w0_ w1_ => by cases eq) (fun e1_ eq => by cases eq)
set_option maxHeartbeats 4000000 in
theorem ok_Mo_ground_l46 {p : Program} {l : Launch} {e : Env} {s : State} {m : MethodId} {args : Array Value} {below : List Frame} {meth : Method} {c : Code} {D : va_G} {cA : Nat → ClassId} {ad : Nat → Nat} {A : Nat → Prop} (C : Cx p s m args c prog_14_method_103_code 4 "PollBooksModel" D cA ad 1 A) {Q : State → Prop} {x : (Int × Int × Dt) ⊕ (Dt)} (x1 x2 x3 : Int) (d : Dt) (hx1 : cb x1) (hx2 : c32 x2) (hx3 : c32 x3) (h : L_Mo_ground_l46 x1 x2 x3 d = some x) (k0 : ∀ (y0 y1 : Int) (e' : Dt), x = (Sum.inl (y0, y1, e')) → cb y0 → c32 y1 → G p l e rm_Mo_ground s m args below meth c 0 0 Q 4 D cA ad 1 A 87 [(2, 0), (0, y0), (0, y1), (9, 0)] [] e') (k1 : ∀ (e' : Dt), x = (Sum.inr (e')) → G p l e rm_Mo_ground s m args below meth c 0 0 Q 4 D cA ad 1 A 74 [(2, 0), (9, 0), (9, 0), (9, 0)] [] e') : G p l e rm_Mo_ground s m args below meth c 0 0 Q 4 D cA ad 1 A 46 [(2, 0), (0, x1), (0, x2), (0, x3)] [] d :=
  ok_Mo_ground_n46 C FU x1 x2 x3 d hx1 hx2 hx3 h k0 k1
set_option maxHeartbeats 4000000 in
theorem ok_Mo_ground_b29 {p : Program} {l : Launch} {e : Env} {s : State} {m : MethodId} {args : Array Value} {below : List Frame} {meth : Method} {c : Code} {D : va_G} {cA : Nat → ClassId} {ad : Nat → Nat} {A : Nat → Prop} (C : Cx p s m args c prog_14_method_103_code 4 "PollBooksModel" D cA ad 1 A) (hlk : meth.locks = false) (hr : meth.sig.returnType = (some .int)) {r : Int} {d' : Dt} (x1 x2 : Int) (d : Dt) (hx1 : cb x1) (hx2 : c32 x2) (h : L_Mo_ground_b29 x1 x2 d = some (r, d')) : G p l e rm_Mo_ground s m args below meth c 0 0 (MQ below (fun _ => QC D cA ad 1 A (some .int) (some (0, r)) d') args s 0 0 A) 4 D cA ad 1 A 29 [(2, 0), (0, x1), (0, x2), (9, 0)] [] d := by
  unfold L_Mo_ground_b29 at h
  refine g_aload_n C 0 rfl (by decide +kernel) ?_
  refine g_getI C cl12 0 92 rfl cd_B0 ⟨by decide, rfl, by decide⟩ rfl (nB (by decide)) (ix := 587) lk_1494 (by decide +kernel) (fun hc9_ => ?_)
  refine g_bipush C 10 (by decide) (by decide +kernel) ?_
  refine g_icmp_ne C (off := 9) (tgt := 44) hc9_ (cK rfl) (by decide +kernel) (by decide) (fun hc10_ => ?_) (fun hc10_ => ?_)
  · replace h := ite_t hc10_ h
    refine g_aload_n C 0 rfl (by decide +kernel) ?_
    refine g_iconst C 4 (cK rfl) (by decide +kernel) ?_
    obtain ⟨r12_, d11_, hr13_, h⟩ := bd_some h
    refine g_callV C mw_Mo_refuse [(0, 4)] 0 cl12 rfl (ok_Mo_refuse 4 d (cK rfl) hr13_) cd_B0 (by decide) (nB (by decide)) (ix := 316) lk_1787 lk_1789 lkp_61 ⟨rfl, rfl, Nat.le_of_ble_eq_true rfl, Nat.le_of_ble_eq_true rfl⟩ rfl (rest := []) rfl (Nat.le_of_ble_eq_true rfl) ⟨Nat.zero_le _, Nat.zero_le _⟩ (by decide +kernel) (fun _ hc14_ => ?_)
    replace hc14_ : c32 r12_ := hc14_
    refine g_st (st2 := [(0, r12_)]) rfl ?_
    obtain ⟨rfl, rfl⟩ := ret_inj h
    exact g_iret C hc14_ hlk hr (by decide +kernel)
  · replace h := ite_f hc10_ h
    refine g_iconst C 0 (cK rfl) (by decide +kernel) ?_
    refine s_istore_n C 3 (lo' := [(2, 0), (0, x1), (0, x2), (0, 0)]) (by decide) (s1k (s1k (s1n (by decide) s1z))) (by decide +kernel) ?_
    refine g_sub (lo2 := [(2, 0), (0, x1), (0, x2), (0, 0)]) (lsb_v (lsb_v (lsb_v (lsb_v lsb_e)))) ?_
    obtain ⟨x15_, hx16_, h⟩ := lb_some h
    refine ok_Mo_ground_l46 C x1 x2 0 d hx1 hx2 (c32_cb (Or.inl rfl)) hx16_ (fun v17_ v18_ d19_ eq20_ hv17_ hv18_ => ?_) (fun d33_ eq34_ => ?_)
    · subst eq20_
      replace h := sml_e h
      replace h := u2_e h
      refine g_aload_n C 0 rfl (by decide +kernel) ?_
      refine g_getR C cl12 0 91 68 rfl cd_B0 ⟨by decide, rfl, by decide⟩ rfl rfl (nB (by decide)) (ix := 227) lk_1493 (by decide +kernel) ?_
      refine g_aload_n C 0 rfl (by decide +kernel) ?_
      refine g_getI C cl12 0 92 rfl cd_B0 ⟨by decide, rfl, by decide⟩ rfl (nB (by decide)) (ix := 587) lk_1494 (by decide +kernel) (fun hc21_ => ?_)
      refine g_iload_n C 1 rfl (by decide +kernel) ?_
      obtain ⟨hb22_, h⟩ := ck_some h
      refine g_zast C 68 hv17_ hc21_ rfl cd_B68 (nB (by decide)) hb22_ (by decide +kernel) ?_
      refine g_aload_n C 0 rfl (by decide +kernel) ?_
      refine g_getR C cl12 0 88 65 rfl cd_B0 ⟨by decide, rfl, by decide⟩ rfl rfl (nB (by decide)) (ix := 218) lk_1490 (by decide +kernel) ?_
      refine g_aload_n C 0 rfl (by decide +kernel) ?_
      refine g_getI C cl12 0 92 rfl cd_B0 ⟨by decide, rfl, by decide⟩ rfl (nB (by decide)) (ix := 587) lk_1494 (by decide +kernel) (fun hc23_ => ?_)
      refine g_val (y := (d19_ 0 92)) rfl ?_
      replace hc23_ : c32 (d19_ 0 92) := hc23_
      refine g_iload_n C 2 rfl (by decide +kernel) ?_
      obtain ⟨hb24_, h⟩ := ck_some h
      refine g_iast C 65 hv18_ hc23_ rfl cd_B65 (nB (by decide)) hb24_ (by decide +kernel) ?_
      refine g_aload_n C 0 rfl (by decide +kernel) ?_
      refine g_getR C cl12 0 89 66 rfl cd_B0 ⟨by decide, rfl, by decide⟩ rfl rfl (nB (by decide)) (ix := 221) lk_1491 (by decide +kernel) ?_
      refine g_aload_n C 0 rfl (by decide +kernel) ?_
      refine g_getI C cl12 0 92 rfl cd_B0 ⟨by decide, rfl, by decide⟩ rfl (nB (by decide)) (ix := 587) lk_1494 (by decide +kernel) (fun hc25_ => ?_)
      refine g_val (y := (d19_ 0 92)) rfl ?_
      replace hc25_ : c32 (d19_ 0 92) := hc25_
      refine g_iconst C 0 (cK rfl) (by decide +kernel) ?_
      obtain ⟨hb26_, h⟩ := ck_some h
      refine g_iast C 66 (c32_cb (Or.inl rfl)) hc25_ rfl cd_B66 (nB (by decide)) hb26_ (by decide +kernel) ?_
      refine g_aload_n C 0 rfl (by decide +kernel) ?_
      refine g_dup C tg2 (by decide +kernel) ?_
      refine g_getI C cl12 0 92 rfl cd_B0 ⟨by decide, rfl, by decide⟩ rfl (nB (by decide)) (ix := 587) lk_1494 (by decide +kernel) (fun hc27_ => ?_)
      refine g_val (y := (d19_ 0 92)) rfl ?_
      replace hc27_ : c32 (d19_ 0 92) := hc27_
      refine g_iconst C 1 (cK rfl) (by decide +kernel) ?_
      refine g_iadd C (by decide +kernel) ?_
      refine g_putI C cl12 0 92 (w32_c _) rfl cd_B0 ⟨by decide, rfl, by decide⟩ rfl (nB (by decide)) (ix := 587) lk_1494 rfl rfl (by decide +kernel) ?_
      refine g_aload_n C 0 rfl (by decide +kernel) ?_
      refine g_aload_n C 0 rfl (by decide +kernel) ?_
      refine g_getI C cl12 0 92 rfl cd_B0 ⟨by decide, rfl, by decide⟩ rfl (nB (by decide)) (ix := 587) lk_1494 (by decide +kernel) (fun hc28_ => ?_)
      refine g_val (y := (w32 ((d19_ 0 92) + 1))) rfl ?_
      replace hc28_ : c32 (w32 ((d19_ 0 92) + 1)) := hc28_
      refine g_iconst C 1 (cK rfl) (by decide +kernel) ?_
      refine g_isub C (by decide +kernel) ?_
      obtain ⟨r30_, d29_, hr31_, h⟩ := bd_some h
      refine g_callV C mw_Mo_gives [(0, (w32 ((w32 ((d19_ 0 92) + 1)) - 1)))] 0 cl12 rfl (ok_Mo_gives (w32 ((w32 ((d19_ 0 92) + 1)) - 1)) (up2 (up2 (up2 (up2 d19_ 68 ((d19_ 0 92)).toNat v17_) 65 ((d19_ 0 92)).toNat v18_) 66 ((d19_ 0 92)).toNat 0) 0 92 (w32 ((d19_ 0 92) + 1))) (w32_c _) hr31_) cd_B0 (by decide) (nB (by decide)) (ix := 312) lk_1783 lk_1785 lkp_60 ⟨rfl, rfl, Nat.le_of_ble_eq_true rfl, Nat.le_of_ble_eq_true rfl⟩ rfl (rest := []) rfl (Nat.le_of_ble_eq_true rfl) ⟨Nat.zero_le _, Nat.zero_le _⟩ (by decide +kernel) (fun _ hc32_ => ?_)
      replace hc32_ : c32 r30_ := hc32_
      refine g_st (st2 := [(0, r30_)]) rfl ?_
      obtain ⟨rfl, rfl⟩ := ret_inj h
      exact g_iret C hc32_ hlk hr (by decide +kernel)
    · subst eq34_
      replace h := smr_e h
      replace h := u0_e h
      refine g_aload_n C 0 rfl (by decide +kernel) ?_
      refine g_bipush C 7 (by decide) (by decide +kernel) ?_
      obtain ⟨r36_, d35_, hr37_, h⟩ := bd_some h
      refine g_callV C mw_Mo_refuse [(0, 7)] 0 cl12 rfl (ok_Mo_refuse 7 d33_ (cK rfl) hr37_) cd_B0 (by decide) (nB (by decide)) (ix := 316) lk_1787 lk_1789 lkp_61 ⟨rfl, rfl, Nat.le_of_ble_eq_true rfl, Nat.le_of_ble_eq_true rfl⟩ rfl (rest := []) rfl (Nat.le_of_ble_eq_true rfl) ⟨Nat.zero_le _, Nat.zero_le _⟩ (by decide +kernel) (fun _ hc38_ => ?_)
      replace hc38_ : c32 r36_ := hc38_
      refine g_st (st2 := [(0, r36_)]) rfl ?_
      obtain ⟨rfl, rfl⟩ := ret_inj h
      exact g_iret C hc38_ hlk hr (by decide +kernel)
set_option maxHeartbeats 4000000 in
theorem ok_Mo_ground_b23 {p : Program} {l : Launch} {e : Env} {s : State} {m : MethodId} {args : Array Value} {below : List Frame} {meth : Method} {c : Code} {D : va_G} {cA : Nat → ClassId} {ad : Nat → Nat} {A : Nat → Prop} (C : Cx p s m args c prog_14_method_103_code 4 "PollBooksModel" D cA ad 1 A) (hlk : meth.locks = false) (hr : meth.sig.returnType = (some .int)) {r : Int} {d' : Dt} (d : Dt)  (h : L_Mo_ground_b23 d = some (r, d')) : G p l e rm_Mo_ground s m args below meth c 0 0 (MQ below (fun _ => QC D cA ad 1 A (some .int) (some (0, r)) d') args s 0 0 A) 4 D cA ad 1 A 23 [(2, 0), (9, 0), (9, 0), (9, 0)] [] d := by
  unfold L_Mo_ground_b23 at h
  refine g_aload_n C 0 rfl (by decide +kernel) ?_
  refine g_iconst C 1 (cK rfl) (by decide +kernel) ?_
  obtain ⟨r43_, d42_, hr44_, h⟩ := bd_some h
  refine g_callV C mw_Mo_refuse [(0, 1)] 0 cl12 rfl (ok_Mo_refuse 1 d (c32_cb (Or.inr rfl)) hr44_) cd_B0 (by decide) (nB (by decide)) (ix := 316) lk_1787 lk_1789 lkp_61 ⟨rfl, rfl, Nat.le_of_ble_eq_true rfl, Nat.le_of_ble_eq_true rfl⟩ rfl (rest := []) rfl (Nat.le_of_ble_eq_true rfl) ⟨Nat.zero_le _, Nat.zero_le _⟩ (by decide +kernel) (fun _ hc45_ => ?_)
  replace hc45_ : c32 r43_ := hc45_
  refine g_st (st2 := [(0, r43_)]) rfl ?_
  obtain ⟨rfl, rfl⟩ := ret_inj h
  exact g_iret C hc45_ hlk hr (by decide +kernel)
set_option maxHeartbeats 4000000 in
theorem ok_Mo_ground {l : Launch} {r : Int} {d' : Dt} (p1 p2 : Int) (d : Dt) (hp1 : cb p1) (hp2 : c32 p2) (h : L_Mo_ground p1 p2 d = some (r, d')) : MC l y_Mo_ground prog_14_method_103_code 4 (some .int) rm_Mo_ground 1 [(2, 0), (0, p1), (0, p2)] d (some (0, r)) d' := by
  refine MC.of (by decide) (Nat.le_of_ble_eq_true rfl) ?_
  intro p e s m args below meth c D cA ad A C hlk hr
  replace C : Cx p s m args c prog_14_method_103_code 4 "PollBooksModel" D cA ad 1 A := C
  show G p l e rm_Mo_ground s m args below meth c 0 0 (MQ below (fun _ => QC D cA ad 1 A (some .int) (some (0, r)) d') args s 0 0 A) 4 D cA ad 1 A 0 [(2, 0), (0, p1), (0, p2)] [] d
  refine g_sub (lo2 := [(2, 0), (0, p1), (0, p2), (9, 0)]) (lsb_v (lsb_v (lsb_v (lsb_n lsb_e)))) ?_
  unfold L_Mo_ground at h
  refine g_iload_n C 1 rfl (by decide +kernel) ?_
  refine g_if_eq C (off := 14) (tgt := 15) (c32_cb hp1) (by decide +kernel) (by decide) (fun hc46_ => ?_) (fun hc46_ => ?_)
  · replace h := ite_t hc46_ h
    refine g_aload_n C 0 rfl (by decide +kernel) ?_
    refine g_iload_n C 2 rfl (by decide +kernel) ?_
    obtain ⟨r48_, d47_, hr49_, h⟩ := bd_some h
    refine g_callV C mw_Mo_isEntry [(0, p2)] 0 cl12 rfl (ok_Mo_isEntry p2 d hp2 hr49_) cd_B0 (by decide) (nB (by decide)) (ix := 541) lk_2092 lk_2094 lkp_98 ⟨rfl, rfl, Nat.le_of_ble_eq_true rfl, Nat.le_of_ble_eq_true rfl⟩ rfl (rest := []) rfl (Nat.le_of_ble_eq_true rfl) ⟨Nat.zero_le _, Nat.zero_le _⟩ (by decide +kernel) (fun _ hc50_ => ?_)
    replace hc50_ : cb r48_ := hc50_
    refine g_st (st2 := [(0, r48_)]) rfl ?_
    refine g_if_ne C (off := 9) (tgt := 29) (c32_cb hc50_) (by decide +kernel) (by decide) (fun hc51_ => ?_) (fun hc51_ => ?_)
    · replace h := ite_t hc51_ h
      refine g_sub (lo2 := [(2, 0), (9, 0), (9, 0), (9, 0)]) (lsb_v (lsb_c (lsb_c (lsb_c lsb_e)))) ?_
      exact ok_Mo_ground_b23 C hlk hr d47_  h
    · replace h := ite_f hc51_ h
      refine g_sub (lo2 := [(2, 0), (0, p1), (0, p2), (9, 0)]) (lsb_v (lsb_v (lsb_v (lsb_c lsb_e)))) ?_
      exact ok_Mo_ground_b29 C hlk hr p1 p2 d47_ hp1 hp2 h
  · replace h := ite_f hc46_ h
    refine g_aload_n C 0 rfl (by decide +kernel) ?_
    refine g_iload_n C 2 rfl (by decide +kernel) ?_
    obtain ⟨r53_, d52_, hr54_, h⟩ := bd_some h
    refine g_callV C mw_Mo_isOffer [(0, p2)] 0 cl12 rfl (ok_Mo_isOffer p2 d hp2 hr54_) cd_B0 (by decide) (nB (by decide)) (ix := 577) lk_2159 lk_2161 lkp_105 ⟨rfl, rfl, Nat.le_of_ble_eq_true rfl, Nat.le_of_ble_eq_true rfl⟩ rfl (rest := []) rfl (Nat.le_of_ble_eq_true rfl) ⟨Nat.zero_le _, Nat.zero_le _⟩ (by decide +kernel) (fun _ hc55_ => ?_)
    replace hc55_ : cb r53_ := hc55_
    refine g_st (st2 := [(0, r53_)]) rfl ?_
    refine g_if_ne C (off := 20) (tgt := 29) (c32_cb hc55_) (by decide +kernel) (by decide) (fun hc56_ => ?_) (fun hc56_ => ?_)
    · replace h := ite_t hc56_ h
      refine g_goto C 23 (off := 11) (by decide +kernel) (by decide) ?_
      refine g_sub (lo2 := [(2, 0), (9, 0), (9, 0), (9, 0)]) (lsb_v (lsb_c (lsb_c (lsb_c lsb_e)))) ?_
      exact ok_Mo_ground_b23 C hlk hr d52_  h
    · replace h := ite_f hc56_ h
      refine g_sub (lo2 := [(2, 0), (0, p1), (0, p2), (9, 0)]) (lsb_v (lsb_v (lsb_v (lsb_c lsb_e)))) ?_
      exact ok_Mo_ground_b29 C hlk hr p1 p2 d52_ hp1 hp2 h
/-! PollBooksModel.against(II)Z -/
def y_Mo_against : MethodName := ⟨"PollBooksModel", "against", "(II)Z"⟩
def rm_Mo_against : Room := { frames := 1, cells := 0, slots := 0, locals := 21 }
theorem mw_Mo_against : MW y_Mo_against prog_14_method_104_code 3 (some .boolean) 2 := ⟨lk_2186, lk_14, by decide +kernel⟩
def L_Mo_against_b29 (d : Dt) : Option (Int × Dt) :=
  bd (L_Mo_is 1 d) (fun r2_ d1_ => some (r2_, d1_))
def L_Mo_against (p1 p2 : Int) (d : Dt) : Option (Int × Dt) :=
  if p1 < 0 then L_Mo_against_b29 d else if p1 < (d 0 92) then if p2 < 0 then L_Mo_against_b29 d else if p2 < (d 0 92) then if p1 = p2 then L_Mo_against_b29 d else ck ((0 : Int) ≤ p1 ∧ p1 < 10) (if (iand (ishr (d 66 p1.toNat) p2) 1) = 1 then bd (L_Mo_is 7 d) (fun r16_ d15_ => some (r16_, d15_)) else ck ((0 : Int) ≤ p1 ∧ p1 < 10) (ck ((0 : Int) ≤ p1 ∧ p1 < 10) (ck ((0 : Int) ≤ p2 ∧ p2 < 10) (ck ((0 : Int) ≤ p2 ∧ p2 < 10) (bd (L_Mo_is 0 (up2 (up2 d 66 p1.toNat (ior (d 66 p1.toNat) (ishl 1 p2))) 66 p2.toNat (ior ((up2 d 66 p1.toNat (ior (d 66 p1.toNat) (ishl 1 p2))) 66 p2.toNat) (ishl 1 p1)))) (fun r26_ d25_ => some (r26_, d25_))))))) else L_Mo_against_b29 d else L_Mo_against_b29 d
set_option maxHeartbeats 4000000 in
theorem ok_Mo_against_b29 {p : Program} {l : Launch} {e : Env} {s : State} {m : MethodId} {args : Array Value} {below : List Frame} {meth : Method} {c : Code} {D : va_G} {cA : Nat → ClassId} {ad : Nat → Nat} {A : Nat → Prop} (C : Cx p s m args c prog_14_method_104_code 3 "PollBooksModel" D cA ad 1 A) (hlk : meth.locks = false) (hr : meth.sig.returnType = (some .boolean)) {r : Int} {d' : Dt} (d : Dt)  (h : L_Mo_against_b29 d = some (r, d')) : G p l e rm_Mo_against s m args below meth c 0 0 (MQ below (fun _ => QC D cA ad 1 A (some .boolean) (some (0, r)) d') args s 0 0 A) 3 D cA ad 1 A 29 [(2, 0), (9, 0), (9, 0)] [] d := by
  unfold L_Mo_against_b29 at h
  refine g_aload_n C 0 rfl (by decide +kernel) ?_
  refine g_iconst C 1 (cK rfl) (by decide +kernel) ?_
  obtain ⟨r2_, d1_, hr3_, h⟩ := bd_some h
  refine g_callV C mw_Mo_is [(0, 1)] 0 cl12 rfl (ok_Mo_is 1 d (c32_cb (Or.inr rfl)) hr3_) cd_B0 (by decide) (nB (by decide)) (ix := 276) lk_1741 lk_1743 lkp_57 ⟨rfl, rfl, Nat.le_of_ble_eq_true rfl, Nat.le_of_ble_eq_true rfl⟩ rfl (rest := []) rfl (Nat.le_of_ble_eq_true rfl) ⟨Nat.zero_le _, Nat.zero_le _⟩ (by decide +kernel) (fun _ hc4_ => ?_)
  replace hc4_ : cb r2_ := hc4_
  refine g_st (st2 := [(0, r2_)]) rfl ?_
  obtain ⟨rfl, rfl⟩ := ret_inj h
  exact g_zret C hc4_ hlk hr (by decide +kernel)
set_option maxHeartbeats 4000000 in
theorem ok_Mo_against {l : Launch} {r : Int} {d' : Dt} (p1 p2 : Int) (d : Dt) (hp1 : c32 p1) (hp2 : c32 p2) (h : L_Mo_against p1 p2 d = some (r, d')) : MC l y_Mo_against prog_14_method_104_code 3 (some .boolean) rm_Mo_against 1 [(2, 0), (0, p1), (0, p2)] d (some (0, r)) d' := by
  refine MC.of (by decide) (Nat.le_of_ble_eq_true rfl) ?_
  intro p e s m args below meth c D cA ad A C hlk hr
  replace C : Cx p s m args c prog_14_method_104_code 3 "PollBooksModel" D cA ad 1 A := C
  show G p l e rm_Mo_against s m args below meth c 0 0 (MQ below (fun _ => QC D cA ad 1 A (some .boolean) (some (0, r)) d') args s 0 0 A) 3 D cA ad 1 A 0 [(2, 0), (0, p1), (0, p2)] [] d
  refine g_sub (lo2 := [(2, 0), (0, p1), (0, p2)]) (lsb_v (lsb_v (lsb_v lsb_e))) ?_
  unfold L_Mo_against at h
  refine g_iload_n C 1 rfl (by decide +kernel) ?_
  refine g_if_lt C (off := 28) (tgt := 29) hp1 (by decide +kernel) (by decide) (fun hc5_ => ?_) (fun hc5_ => ?_)
  · replace h := ite_t hc5_ h
    refine g_sub (lo2 := [(2, 0), (9, 0), (9, 0)]) (lsb_v (lsb_c (lsb_c lsb_e))) ?_
    exact ok_Mo_against_b29 C hlk hr d  h
  · replace h := ite_f hc5_ h
    refine g_iload_n C 1 rfl (by decide +kernel) ?_
    refine g_aload_n C 0 rfl (by decide +kernel) ?_
    refine g_getI C cl12 0 92 rfl cd_B0 ⟨by decide, rfl, by decide⟩ rfl (nB (by decide)) (ix := 587) lk_1494 (by decide +kernel) (fun hc6_ => ?_)
    refine g_icmp_ge C (off := 20) (tgt := 29) hp1 hc6_ (by decide +kernel) (by decide) (fun hc7_ => ?_) (fun hc7_ => ?_)
    · replace h := ite_t hc7_ h
      refine g_iload_n C 2 rfl (by decide +kernel) ?_
      refine g_if_lt C (off := 16) (tgt := 29) hp2 (by decide +kernel) (by decide) (fun hc8_ => ?_) (fun hc8_ => ?_)
      · replace h := ite_t hc8_ h
        refine g_sub (lo2 := [(2, 0), (9, 0), (9, 0)]) (lsb_v (lsb_c (lsb_c lsb_e))) ?_
        exact ok_Mo_against_b29 C hlk hr d  h
      · replace h := ite_f hc8_ h
        refine g_iload_n C 2 rfl (by decide +kernel) ?_
        refine g_aload_n C 0 rfl (by decide +kernel) ?_
        refine g_getI C cl12 0 92 rfl cd_B0 ⟨by decide, rfl, by decide⟩ rfl (nB (by decide)) (ix := 587) lk_1494 (by decide +kernel) (fun hc9_ => ?_)
        refine g_icmp_ge C (off := 8) (tgt := 29) hp2 hc9_ (by decide +kernel) (by decide) (fun hc10_ => ?_) (fun hc10_ => ?_)
        · replace h := ite_t hc10_ h
          refine g_iload_n C 1 rfl (by decide +kernel) ?_
          refine g_iload_n C 2 rfl (by decide +kernel) ?_
          refine g_icmp_ne C (off := 9) (tgt := 35) hp1 hp2 (by decide +kernel) (by decide) (fun hc11_ => ?_) (fun hc11_ => ?_)
          · replace h := ite_t hc11_ h
            refine g_sub (lo2 := [(2, 0), (9, 0), (9, 0)]) (lsb_v (lsb_c (lsb_c lsb_e))) ?_
            exact ok_Mo_against_b29 C hlk hr d  h
          · replace h := ite_f hc11_ h
            refine g_aload_n C 0 rfl (by decide +kernel) ?_
            refine g_getR C cl12 0 89 66 rfl cd_B0 ⟨by decide, rfl, by decide⟩ rfl rfl (nB (by decide)) (ix := 221) lk_1491 (by decide +kernel) ?_
            refine g_iload_n C 1 rfl (by decide +kernel) ?_
            obtain ⟨hb12_, h⟩ := ck_some h
            refine g_iald C 66 hp1 rfl cd_B66 (nB (by decide)) hb12_ (by decide +kernel) (fun hc13_ => ?_)
            refine g_iload_n C 2 rfl (by decide +kernel) ?_
            refine g_ishr C (by decide +kernel) ?_
            refine g_iconst C 1 (cK rfl) (by decide +kernel) ?_
            refine g_iand C (by decide +kernel) ?_
            refine g_iconst C 1 (cK rfl) (by decide +kernel) ?_
            refine g_icmp_ne C (off := 10) (tgt := 56) (i_c _) (c32_cb (Or.inr rfl)) (by decide +kernel) (by decide) (fun hc14_ => ?_) (fun hc14_ => ?_)
            · replace h := ite_t hc14_ h
              refine g_aload_n C 0 rfl (by decide +kernel) ?_
              refine g_bipush C 7 (by decide) (by decide +kernel) ?_
              obtain ⟨r16_, d15_, hr17_, h⟩ := bd_some h
              refine g_callV C mw_Mo_is [(0, 7)] 0 cl12 rfl (ok_Mo_is 7 d (cK rfl) hr17_) cd_B0 (by decide) (nB (by decide)) (ix := 276) lk_1741 lk_1743 lkp_57 ⟨rfl, rfl, Nat.le_of_ble_eq_true rfl, Nat.le_of_ble_eq_true rfl⟩ rfl (rest := []) rfl (Nat.le_of_ble_eq_true rfl) ⟨Nat.zero_le _, Nat.zero_le _⟩ (by decide +kernel) (fun _ hc18_ => ?_)
              replace hc18_ : cb r16_ := hc18_
              refine g_st (st2 := [(0, r16_)]) rfl ?_
              obtain ⟨rfl, rfl⟩ := ret_inj h
              exact g_zret C hc18_ hlk hr (by decide +kernel)
            · replace h := ite_f hc14_ h
              refine g_aload_n C 0 rfl (by decide +kernel) ?_
              refine g_getR C cl12 0 89 66 rfl cd_B0 ⟨by decide, rfl, by decide⟩ rfl rfl (nB (by decide)) (ix := 221) lk_1491 (by decide +kernel) ?_
              refine g_iload_n C 1 rfl (by decide +kernel) ?_
              refine g_dup2 C tg0 tg2 (by decide +kernel) ?_
              obtain ⟨hb19_, h⟩ := ck_some h
              refine g_iald C 66 hp1 rfl cd_B66 (nB (by decide)) hb19_ (by decide +kernel) (fun hc20_ => ?_)
              refine g_iconst C 1 (cK rfl) (by decide +kernel) ?_
              refine g_iload_n C 2 rfl (by decide +kernel) ?_
              refine g_ishl C (by decide +kernel) ?_
              refine g_ior C (by decide +kernel) ?_
              obtain ⟨hb21_, h⟩ := ck_some h
              refine g_iast C 66 (i_c _) hp1 rfl cd_B66 (nB (by decide)) hb21_ (by decide +kernel) ?_
              refine g_aload_n C 0 rfl (by decide +kernel) ?_
              refine g_getR C cl12 0 89 66 rfl cd_B0 ⟨by decide, rfl, by decide⟩ rfl rfl (nB (by decide)) (ix := 221) lk_1491 (by decide +kernel) ?_
              refine g_iload_n C 2 rfl (by decide +kernel) ?_
              refine g_dup2 C tg0 tg2 (by decide +kernel) ?_
              obtain ⟨hb22_, h⟩ := ck_some h
              refine g_iald C 66 hp2 rfl cd_B66 (nB (by decide)) hb22_ (by decide +kernel) (fun hc23_ => ?_)
              refine g_iconst C 1 (cK rfl) (by decide +kernel) ?_
              refine g_iload_n C 1 rfl (by decide +kernel) ?_
              refine g_ishl C (by decide +kernel) ?_
              refine g_ior C (by decide +kernel) ?_
              obtain ⟨hb24_, h⟩ := ck_some h
              refine g_iast C 66 (i_c _) hp2 rfl cd_B66 (nB (by decide)) hb24_ (by decide +kernel) ?_
              refine g_aload_n C 0 rfl (by decide +kernel) ?_
              refine g_iconst C 0 (cK rfl) (by decide +kernel) ?_
              obtain ⟨r26_, d25_, hr27_, h⟩ := bd_some h
              refine g_callV C mw_Mo_is [(0, 0)] 0 cl12 rfl (ok_Mo_is 0 (up2 (up2 d 66 p1.toNat (ior (d 66 p1.toNat) (ishl 1 p2))) 66 p2.toNat (ior ((up2 d 66 p1.toNat (ior (d 66 p1.toNat) (ishl 1 p2))) 66 p2.toNat) (ishl 1 p1))) (c32_cb (Or.inl rfl)) hr27_) cd_B0 (by decide) (nB (by decide)) (ix := 276) lk_1741 lk_1743 lkp_57 ⟨rfl, rfl, Nat.le_of_ble_eq_true rfl, Nat.le_of_ble_eq_true rfl⟩ rfl (rest := []) rfl (Nat.le_of_ble_eq_true rfl) ⟨Nat.zero_le _, Nat.zero_le _⟩ (by decide +kernel) (fun _ hc28_ => ?_)
              replace hc28_ : cb r26_ := hc28_
              refine g_st (st2 := [(0, r26_)]) rfl ?_
              obtain ⟨rfl, rfl⟩ := ret_inj h
              exact g_zret C hc28_ hlk hr (by decide +kernel)
        · replace h := ite_f hc10_ h
          refine g_sub (lo2 := [(2, 0), (9, 0), (9, 0)]) (lsb_v (lsb_c (lsb_c lsb_e))) ?_
          exact ok_Mo_against_b29 C hlk hr d  h
    · replace h := ite_f hc7_ h
      refine g_sub (lo2 := [(2, 0), (9, 0), (9, 0)]) (lsb_v (lsb_c (lsb_c lsb_e))) ?_
      exact ok_Mo_against_b29 C hlk hr d  h
/-! PollBooksModel.readWritten()V -/
def y_Mo_readWritten : MethodName := ⟨"PollBooksModel", "readWritten", "()V"⟩
def rm_Mo_readWritten : Room := { frames := 6, cells := 0, slots := 0, locals := 156 }
theorem mw_Mo_readWritten : MW y_Mo_readWritten prog_14_method_106_code 3 none 0 := ⟨lk_2194, lk_14, by decide +kernel⟩
def L_Mo_readWritten_y20 (x1 x2 : Int) (d : Dt) : Option ((Int × Int × Dt) ⊕ ((Int × Dt))) :=
  if x2 < (d 52 0) then ck ((0 : Int) ≤ x1 ∧ x1 < 4) (bd (L_Mo_setOf x2 d) (fun r6_ d5_ => ck ((0 : Int) ≤ x1 ∧ x1 < 4) (some (Sum.inl (x1, (w32 (x2 + 1)), (up2 d5_ 67 x1.toNat (w32 ((d 67 x1.toNat) + (iand (ishr r6_ x1) 1))))))))) else some (Sum.inr (x1, d))
def L_Mo_readWritten_l20 (x1 x2 : Int) (d : Dt) : Option ((Int × Dt)) := lpF (fun q : Int × Int × Dt => L_Mo_readWritten_y20 q.1 q.2.1 q.2.2) FU (x1, x2, d)
def L_Mo_readWritten_y6 (x1 : Int) (d : Dt) : Option ((Int × Dt) ⊕ ((Dt))) :=
  if x1 < 4 then ck ((0 : Int) ≤ x1 ∧ x1 < 4) (lb (L_Mo_readWritten_l20 x1 0 (up2 d 67 x1.toNat 0)) (fun q17_ => u1 q17_ (fun v14_ d15_ => some (Sum.inl ((w32 (v14_ + 1)), d15_))))) else some (Sum.inr (d))
def L_Mo_readWritten_l6 (x1 : Int) (d : Dt) : Option ((Dt)) := lpF (fun q : Int × Dt => L_Mo_readWritten_y6 q.1 q.2) FU (x1, d)
def L_Mo_readWritten (d : Dt) : Option (Int × Dt) :=
  bd (L_Mo_joinAll d) (fun r19_ d18_ => lb (L_Mo_readWritten_l6 0 d18_) (fun q26_ => u0 q26_ (fun d24_ => some (0, d24_))))
set_option maxHeartbeats 4000000 in
theorem ok_Mo_readWritten_y20 {p : Program} {l : Launch} {e : Env} {s : State} {m : MethodId} {args : Array Value} {below : List Frame} {meth : Method} {c : Code} {D : va_G} {cA : Nat → ClassId} {ad : Nat → Nat} {A : Nat → Prop} (C : Cx p s m args c prog_14_method_106_code 3 "PollBooksModel" D cA ad 1 A) {Q : State → Prop} {o : (Int × Int × Dt) ⊕ ((Int × Dt))} (x1 x2 : Int) (d : Dt) (hx1 : c32 x1) (hx2 : c32 x2) (h : L_Mo_readWritten_y20 x1 x2 d = some o) (kb : ∀ (y0 y1 : Int) (e' : Dt), o = .inl (y0, y1, e') → c32 y0 → c32 y1 → G p l e rm_Mo_readWritten s m args below meth c 0 0 Q 3 D cA ad 1 A 20 [(2, 0), (0, y0), (0, y1)] [] e') (k0 : ∀ (y0 : Int) (e' : Dt), o = .inr (y0, e') → c32 y0 → G p l e rm_Mo_readWritten s m args below meth c 0 0 Q 3 D cA ad 1 A 54 [(2, 0), (0, y0), (9, 0)] [] e') : G p l e rm_Mo_readWritten s m args below meth c 0 0 Q 3 D cA ad 1 A 20 [(2, 0), (0, x1), (0, x2)] [] d := by
  unfold L_Mo_readWritten_y20 at h
  refine g_iload_n C 2 rfl (by decide +kernel) ?_
  refine g_aload_n C 0 rfl (by decide +kernel) ?_
  refine g_getR C cl12 0 72 52 rfl cd_B0 ⟨by decide, rfl, by decide⟩ rfl rfl (nB (by decide)) (ix := 176) lk_1474 (by decide +kernel) ?_
  refine g_iconst C 0 (cK rfl) (by decide +kernel) ?_
  refine g_iald C 52 (c32_cb (Or.inl rfl)) rfl cd_B52 (nB (by decide)) (by decide) (by decide +kernel) (fun hc1_ => ?_)
  refine g_val (y := (d 52 0)) rfl ?_
  replace hc1_ : c32 (d 52 0) := hc1_
  refine g_icmp_ge C (off := 27) (tgt := 54) hx2 hc1_ (by decide +kernel) (by decide) (fun hc2_ => ?_) (fun hc2_ => ?_)
  · replace h := ite_t hc2_ h
    refine g_aload_n C 0 rfl (by decide +kernel) ?_
    refine g_getR C cl12 0 90 67 rfl cd_B0 ⟨by decide, rfl, by decide⟩ rfl rfl (nB (by decide)) (ix := 224) lk_1492 (by decide +kernel) ?_
    refine g_iload_n C 1 rfl (by decide +kernel) ?_
    refine g_dup2 C tg0 tg2 (by decide +kernel) ?_
    obtain ⟨hb3_, h⟩ := ck_some h
    refine g_iald C 67 hx1 rfl cd_B67 (nB (by decide)) hb3_ (by decide +kernel) (fun hc4_ => ?_)
    refine g_aload_n C 0 rfl (by decide +kernel) ?_
    refine g_iload_n C 2 rfl (by decide +kernel) ?_
    obtain ⟨r6_, d5_, hr7_, h⟩ := bd_some h
    refine g_callV C mw_Mo_setOf [(0, x2)] 0 cl12 rfl (ok_Mo_setOf x2 d hx2 hr7_) cd_B0 (by decide) (nB (by decide)) (ix := 547) lk_2104 lk_2106 lkp_100 ⟨rfl, rfl, Nat.le_of_ble_eq_true rfl, Nat.le_of_ble_eq_true rfl⟩ rfl (rest := [(0, (d 67 x1.toNat)), (0, x1), (2, 67)]) rfl (Nat.le_of_ble_eq_true rfl) ⟨Nat.zero_le _, Nat.zero_le _⟩ (by decide +kernel) (fun _ hc8_ => ?_)
    replace hc8_ : c32 r6_ := hc8_
    refine g_st (st2 := [(0, r6_), (0, (d 67 x1.toNat)), (0, x1), (2, 67)]) rfl ?_
    refine g_iload_n C 1 rfl (by decide +kernel) ?_
    refine g_ishr C (by decide +kernel) ?_
    refine g_iconst C 1 (cK rfl) (by decide +kernel) ?_
    refine g_iand C (by decide +kernel) ?_
    refine g_iadd C (by decide +kernel) ?_
    obtain ⟨hb9_, h⟩ := ck_some h
    refine g_iast C 67 (w32_c _) hx1 rfl cd_B67 (nB (by decide)) hb9_ (by decide +kernel) ?_
    refine s_iinc C 2 1 (lo' := [(2, 0), (0, x1), (0, (w32 (x2 + 1)))]) rfl (by decide) (s1k (s1n (by decide) s1z)) (by decide +kernel) ?_
    refine g_goto C 20 (off := (-31)) (by decide +kernel) (by decide) ?_
    refine g_sub (lo2 := [(2, 0), (0, x1), (0, (w32 (x2 + 1)))]) (lsb_v (lsb_v (lsb_v lsb_e))) ?_
    obtain rfl := Option.some.inj h
    exact kb x1 (w32 (x2 + 1)) (up2 d5_ 67 x1.toNat (w32 ((d 67 x1.toNat) + (iand (ishr r6_ x1) 1)))) rfl hx1 (w32_c _)
  · replace h := ite_f hc2_ h
    refine g_sub (lo2 := [(2, 0), (0, x1), (9, 0)]) (lsb_v (lsb_v (lsb_c lsb_e))) ?_
    obtain rfl := Option.some.inj h
    exact k0 x1 d rfl hx1
set_option maxHeartbeats 4000000 in
theorem ok_Mo_readWritten_n20 {p : Program} {l : Launch} {e : Env} {s : State} {m : MethodId} {args : Array Value} {below : List Frame} {meth : Method} {c : Code} {D : va_G} {cA : Nat → ClassId} {ad : Nat → Nat} {A : Nat → Prop} (C : Cx p s m args c prog_14_method_106_code 3 "PollBooksModel" D cA ad 1 A) {Q : State → Prop} {x : (Int × Dt)} : ∀ (n : Nat) (x1 x2 : Int) (d : Dt), c32 x1 → c32 x2 → lpF (fun q : Int × Int × Dt => L_Mo_readWritten_y20 q.1 q.2.1 q.2.2) n (x1, x2, d) = some x → (∀ (y0 : Int) (e' : Dt), x = (y0, e') → c32 y0 → G p l e rm_Mo_readWritten s m args below meth c 0 0 Q 3 D cA ad 1 A 54 [(2, 0), (0, y0), (9, 0)] [] e') → G p l e rm_Mo_readWritten s m args below meth c 0 0 Q 3 D cA ad 1 A 20 [(2, 0), (0, x1), (0, x2)] [] d := by
  intro n
  induction n with
  | zero => intro x1 x2 d g0 g1 h k0; cases h
  | succ n ih =>
    intro x1 x2 d g0 g1 h k0
    rcases lpF_some h with h | ⟨⟨v0_, v1_, e0_⟩, h1, h⟩
    · exact ok_Mo_readWritten_y20 C x1 x2 d g0 g1 h (fun z0_ z1_ e1_ eq w0_ w1_ => by cases eq) (fun z0_ e1_ eq w0_ => k0 _ _ (by cases eq; rfl) w0_)
    · exact ok_Mo_readWritten_y20 C x1 x2 d g0 g1 h1 (fun z0_ z1_ e1_ eq w0_ w1_ => by cases eq; exact ih _ _ _ w0_ w1_ h k0) (fun z0_ e1_ eq w0_ => by cases eq)
set_option maxHeartbeats 4000000 in
theorem ok_Mo_readWritten_l20 {p : Program} {l : Launch} {e : Env} {s : State} {m : MethodId} {args : Array Value} {below : List Frame} {meth : Method} {c : Code} {D : va_G} {cA : Nat → ClassId} {ad : Nat → Nat} {A : Nat → Prop} (C : Cx p s m args c prog_14_method_106_code 3 "PollBooksModel" D cA ad 1 A) {Q : State → Prop} {x : (Int × Dt)} (x1 x2 : Int) (d : Dt) (hx1 : c32 x1) (hx2 : c32 x2) (h : L_Mo_readWritten_l20 x1 x2 d = some x) (k0 : ∀ (y0 : Int) (e' : Dt), x = (y0, e') → c32 y0 → G p l e rm_Mo_readWritten s m args below meth c 0 0 Q 3 D cA ad 1 A 54 [(2, 0), (0, y0), (9, 0)] [] e') : G p l e rm_Mo_readWritten s m args below meth c 0 0 Q 3 D cA ad 1 A 20 [(2, 0), (0, x1), (0, x2)] [] d :=
  ok_Mo_readWritten_n20 C FU x1 x2 d hx1 hx2 h k0
set_option maxHeartbeats 4000000 in
theorem ok_Mo_readWritten_y6 {p : Program} {l : Launch} {e : Env} {s : State} {m : MethodId} {args : Array Value} {below : List Frame} {meth : Method} {c : Code} {D : va_G} {cA : Nat → ClassId} {ad : Nat → Nat} {A : Nat → Prop} (C : Cx p s m args c prog_14_method_106_code 3 "PollBooksModel" D cA ad 1 A) {Q : State → Prop} {o : (Int × Dt) ⊕ ((Dt))} (x1 : Int) (d : Dt) (hx1 : c32 x1) (h : L_Mo_readWritten_y6 x1 d = some o) (kb : ∀ (y0 : Int) (e' : Dt), o = .inl (y0, e') → c32 y0 → G p l e rm_Mo_readWritten s m args below meth c 0 0 Q 3 D cA ad 1 A 6 [(2, 0), (0, y0), (9, 0)] [] e') (k0 : ∀ (e' : Dt), o = .inr (e') → G p l e rm_Mo_readWritten s m args below meth c 0 0 Q 3 D cA ad 1 A 60 [(9, 0), (9, 0), (9, 0)] [] e') : G p l e rm_Mo_readWritten s m args below meth c 0 0 Q 3 D cA ad 1 A 6 [(2, 0), (0, x1), (9, 0)] [] d := by
  unfold L_Mo_readWritten_y6 at h
  refine g_iload_n C 1 rfl (by decide +kernel) ?_
  refine g_iconst C 4 (cK rfl) (by decide +kernel) ?_
  refine g_icmp_ge C (off := 52) (tgt := 60) hx1 (cK rfl) (by decide +kernel) (by decide) (fun hc10_ => ?_) (fun hc10_ => ?_)
  · replace h := ite_t hc10_ h
    refine g_aload_n C 0 rfl (by decide +kernel) ?_
    refine g_getR C cl12 0 90 67 rfl cd_B0 ⟨by decide, rfl, by decide⟩ rfl rfl (nB (by decide)) (ix := 224) lk_1492 (by decide +kernel) ?_
    refine g_iload_n C 1 rfl (by decide +kernel) ?_
    refine g_iconst C 0 (cK rfl) (by decide +kernel) ?_
    obtain ⟨hb11_, h⟩ := ck_some h
    refine g_iast C 67 (c32_cb (Or.inl rfl)) hx1 rfl cd_B67 (nB (by decide)) hb11_ (by decide +kernel) ?_
    refine g_iconst C 0 (cK rfl) (by decide +kernel) ?_
    refine s_istore_n C 2 (lo' := [(2, 0), (0, x1), (0, 0)]) (by decide) (s1k (s1n (by decide) s1z)) (by decide +kernel) ?_
    refine g_sub (lo2 := [(2, 0), (0, x1), (0, 0)]) (lsb_v (lsb_v (lsb_v lsb_e))) ?_
    obtain ⟨x12_, hx13_, h⟩ := lb_some h
    refine ok_Mo_readWritten_l20 C x1 0 (up2 d 67 x1.toNat 0) hx1 (c32_cb (Or.inl rfl)) hx13_ (fun v14_ d15_ eq16_ hv14_ => ?_)
    subst eq16_
    replace h := u1_e h
    refine s_iinc C 1 1 (lo' := [(2, 0), (0, (w32 (v14_ + 1))), (9, 0)]) rfl (by decide) (s1n (by decide) s1z) (by decide +kernel) ?_
    refine g_goto C 6 (off := (-51)) (by decide +kernel) (by decide) ?_
    refine g_sub (lo2 := [(2, 0), (0, (w32 (v14_ + 1))), (9, 0)]) (lsb_v (lsb_v (lsb_c lsb_e))) ?_
    obtain rfl := Option.some.inj h
    exact kb (w32 (v14_ + 1)) d15_ rfl (w32_c _)
  · replace h := ite_f hc10_ h
    refine g_sub (lo2 := [(9, 0), (9, 0), (9, 0)]) (lsb_c (lsb_c (lsb_c lsb_e))) ?_
    obtain rfl := Option.some.inj h
    exact k0 d rfl 
set_option maxHeartbeats 4000000 in
theorem ok_Mo_readWritten_n6 {p : Program} {l : Launch} {e : Env} {s : State} {m : MethodId} {args : Array Value} {below : List Frame} {meth : Method} {c : Code} {D : va_G} {cA : Nat → ClassId} {ad : Nat → Nat} {A : Nat → Prop} (C : Cx p s m args c prog_14_method_106_code 3 "PollBooksModel" D cA ad 1 A) {Q : State → Prop} {x : (Dt)} : ∀ (n : Nat) (x1 : Int) (d : Dt), c32 x1 → lpF (fun q : Int × Dt => L_Mo_readWritten_y6 q.1 q.2) n (x1, d) = some x → (∀ (e' : Dt), x = (e') → G p l e rm_Mo_readWritten s m args below meth c 0 0 Q 3 D cA ad 1 A 60 [(9, 0), (9, 0), (9, 0)] [] e') → G p l e rm_Mo_readWritten s m args below meth c 0 0 Q 3 D cA ad 1 A 6 [(2, 0), (0, x1), (9, 0)] [] d := by
  intro n
  induction n with
  | zero => intro x1 d g0 h k0; cases h
  | succ n ih =>
    intro x1 d g0 h k0
    rcases lpF_some h with h | ⟨⟨v0_, e0_⟩, h1, h⟩
    · exact ok_Mo_readWritten_y6 C x1 d g0 h (fun z0_ e1_ eq w0_ => by cases eq) (fun e1_ eq => k0 _ (by cases eq; rfl) )
    · exact ok_Mo_readWritten_y6 C x1 d g0 h1 (fun z0_ e1_ eq w0_ => by cases eq; exact ih _ _ w0_ h k0) (fun e1_ eq => by cases eq)
set_option maxHeartbeats 4000000 in
theorem ok_Mo_readWritten_l6 {p : Program} {l : Launch} {e : Env} {s : State} {m : MethodId} {args : Array Value} {below : List Frame} {meth : Method} {c : Code} {D : va_G} {cA : Nat → ClassId} {ad : Nat → Nat} {A : Nat → Prop} (C : Cx p s m args c prog_14_method_106_code 3 "PollBooksModel" D cA ad 1 A) {Q : State → Prop} {x : (Dt)} (x1 : Int) (d : Dt) (hx1 : c32 x1) (h : L_Mo_readWritten_l6 x1 d = some x) (k0 : ∀ (e' : Dt), x = (e') → G p l e rm_Mo_readWritten s m args below meth c 0 0 Q 3 D cA ad 1 A 60 [(9, 0), (9, 0), (9, 0)] [] e') : G p l e rm_Mo_readWritten s m args below meth c 0 0 Q 3 D cA ad 1 A 6 [(2, 0), (0, x1), (9, 0)] [] d :=
  ok_Mo_readWritten_n6 C FU x1 d hx1 h k0
set_option maxHeartbeats 4000000 in
theorem ok_Mo_readWritten {l : Launch} {r : Int} {d' : Dt} (d : Dt)  (h : L_Mo_readWritten d = some (r, d')) : MC l y_Mo_readWritten prog_14_method_106_code 3 none rm_Mo_readWritten 1 [(2, 0)] d none d' := by
  refine MC.of (by decide) (Nat.le_of_ble_eq_true rfl) ?_
  intro p e s m args below meth c D cA ad A C hlk hr
  replace C : Cx p s m args c prog_14_method_106_code 3 "PollBooksModel" D cA ad 1 A := C
  show G p l e rm_Mo_readWritten s m args below meth c 0 0 (MQ below (fun _ => QC D cA ad 1 A none none d') args s 0 0 A) 3 D cA ad 1 A 0 [(2, 0)] [] d
  refine g_sub (lo2 := [(2, 0), (9, 0), (9, 0)]) (lsb_v (lsb_n (lsb_n lsb_e))) ?_
  unfold L_Mo_readWritten at h
  refine g_aload_n C 0 rfl (by decide +kernel) ?_
  obtain ⟨r19_, d18_, hr20_, h⟩ := bd_some h
  refine g_callV C mw_Mo_joinAll [] 0 cl12 rfl (ok_Mo_joinAll  d  hr20_) cd_B0 (by decide) (nB (by decide)) (ix := 544) lk_2096 lk_2098 lkp_99 ⟨rfl, rfl, Nat.le_of_ble_eq_true rfl, Nat.le_of_ble_eq_true rfl⟩ rfl (rest := []) rfl (Nat.le_of_ble_eq_true rfl) ⟨Nat.zero_le _, Nat.zero_le _⟩ (by decide +kernel) (fun _ hc21_ => ?_)
  refine g_st (st2 := []) rfl ?_
  refine g_iconst C 0 (cK rfl) (by decide +kernel) ?_
  refine s_istore_n C 1 (lo' := [(2, 0), (0, 0), (9, 0)]) (by decide) (s1n (by decide) s1z) (by decide +kernel) ?_
  refine g_sub (lo2 := [(2, 0), (0, 0), (9, 0)]) (lsb_v (lsb_v (lsb_c lsb_e))) ?_
  obtain ⟨x22_, hx23_, h⟩ := lb_some h
  refine ok_Mo_readWritten_l6 C 0 d18_ (c32_cb (Or.inl rfl)) hx23_ (fun d24_ eq25_ => ?_)
  replace eq25_ := eq25_.symm
  subst eq25_
  replace h := u0_e h
  obtain ⟨rfl, rfl⟩ := ret_inj h
  exact g_vret C hlk hr (by decide +kernel)
/-! PollBooksModel.countWritten(I)V -/
def y_Mo_countWritten : MethodName := ⟨"PollBooksModel", "countWritten", "(I)V"⟩
def rm_Mo_countWritten : Room := { frames := 1, cells := 0, slots := 0, locals := 27 }
theorem mw_Mo_countWritten : MW y_Mo_countWritten prog_14_method_105_code 4 none 1 := ⟨lk_2198, lk_14, by decide +kernel⟩
def L_Mo_countWritten_b89 (x1 x2 x3 : Int) (d : Dt) : Option ((Int × Int × Int × Dt) ⊕ ((Int × Int × Dt))) :=
  some (Sum.inl (x1, x2, (w32 (x3 + 1)), d))
def L_Mo_countWritten_b87 (x1 x2 x3 s1 s2 s3 : Int) (d : Dt) : Option ((Int × Int × Int × Dt) ⊕ ((Int × Int × Dt))) :=
  ck ((0 : Int) ≤ s1 ∧ s1 < 4) (L_Mo_countWritten_b89 x1 x2 x3 (up2 d 64 s1.toNat (w32 (s2 + s3))))
def L_Mo_countWritten_y21 (x1 x2 x3 : Int) (d : Dt) : Option ((Int × Int × Int × Dt) ⊕ ((Int × Int × Dt))) :=
  if x3 < (d 0 92) then if (iand (ishr x1 x3) 1) = 1 then ck ((0 : Int) ≤ x2 ∧ x2 < 4) (ck ((0 : Int) ≤ x3 ∧ x3 < 10) (if (d 68 x3.toNat) = 0 then ck ((0 : Int) ≤ x3 ∧ x3 < 10) (bd (L_Mo_setOf (d 65 x3.toNat) d) (fun r13_ d12_ => L_Mo_countWritten_b87 x1 x2 x3 x2 (d 64 x2.toNat) (w32 (-(iand (ishr r13_ x2) 1))) d12_)) else ck ((0 : Int) ≤ x3 ∧ x3 < 10) (ck ((0 : Int) ≤ (d 65 x3.toNat) ∧ (d 65 x3.toNat) < 20) (L_Mo_countWritten_b87 x1 x2 x3 x2 (d 64 x2.toNat) (iand (ishr (d 60 ((d 65 x3.toNat)).toNat) x2) 1) d)))) else L_Mo_countWritten_b89 x1 x2 x3 d else some (Sum.inr (x1, x2, d))
def L_Mo_countWritten_l21 (x1 x2 x3 : Int) (d : Dt) : Option ((Int × Int × Dt)) := lpF (fun q : Int × Int × Int × Dt => L_Mo_countWritten_y21 q.1 q.2.1 q.2.2.1 q.2.2.2) FU (x1, x2, x3, d)
def L_Mo_countWritten_y2 (x1 x2 : Int) (d : Dt) : Option ((Int × Int × Dt) ⊕ ((Dt))) :=
  if x2 < 4 then ck ((0 : Int) ≤ x2 ∧ x2 < 4) (ck ((0 : Int) ≤ x2 ∧ x2 < 4) (lb (L_Mo_countWritten_l21 x1 x2 0 (up2 d 64 x2.toNat (d 67 x2.toNat))) (fun q30_ => u2 q30_ (fun v26_ v27_ d28_ => some (Sum.inl (v26_, (w32 (v27_ + 1)), d28_)))))) else some (Sum.inr (d))
def L_Mo_countWritten_l2 (x1 x2 : Int) (d : Dt) : Option ((Dt)) := lpF (fun q : Int × Int × Dt => L_Mo_countWritten_y2 q.1 q.2.1 q.2.2) FU (x1, x2, d)
def L_Mo_countWritten (p1 : Int) (d : Dt) : Option (Int × Dt) :=
  lb (L_Mo_countWritten_l2 p1 0 d) (fun q35_ => u0 q35_ (fun d33_ => some (0, d33_)))
set_option maxHeartbeats 4000000 in
theorem ok_Mo_countWritten_b89 {p : Program} {l : Launch} {e : Env} {s : State} {m : MethodId} {args : Array Value} {below : List Frame} {meth : Method} {c : Code} {D : va_G} {cA : Nat → ClassId} {ad : Nat → Nat} {A : Nat → Prop} (C : Cx p s m args c prog_14_method_105_code 4 "PollBooksModel" D cA ad 1 A) {Q : State → Prop} {o : (Int × Int × Int × Dt) ⊕ ((Int × Int × Dt))} (x1 x2 x3 : Int) (d : Dt) (hx1 : c32 x1) (hx2 : c32 x2) (hx3 : c32 x3) (h : L_Mo_countWritten_b89 x1 x2 x3 d = some o) (kb : ∀ (y0 y1 y2 : Int) (e' : Dt), o = .inl (y0, y1, y2, e') → c32 y0 → c32 y1 → c32 y2 → G p l e rm_Mo_countWritten s m args below meth c 0 0 Q 4 D cA ad 1 A 21 [(2, 0), (0, y0), (0, y1), (0, y2)] [] e') (k0 : ∀ (y0 y1 : Int) (e' : Dt), o = .inr (y0, y1, e') → c32 y0 → c32 y1 → G p l e rm_Mo_countWritten s m args below meth c 0 0 Q 4 D cA ad 1 A 95 [(2, 0), (0, y0), (0, y1), (9, 0)] [] e') : G p l e rm_Mo_countWritten s m args below meth c 0 0 Q 4 D cA ad 1 A 89 [(2, 0), (0, x1), (0, x2), (0, x3)] [] d := by
  unfold L_Mo_countWritten_b89 at h
  refine s_iinc C 3 1 (lo' := [(2, 0), (0, x1), (0, x2), (0, (w32 (x3 + 1)))]) rfl (by decide) (s1k (s1k (s1n (by decide) s1z))) (by decide +kernel) ?_
  refine g_goto C 21 (off := (-71)) (by decide +kernel) (by decide) ?_
  refine g_sub (lo2 := [(2, 0), (0, x1), (0, x2), (0, (w32 (x3 + 1)))]) (lsb_v (lsb_v (lsb_v (lsb_v lsb_e)))) ?_
  obtain rfl := Option.some.inj h
  exact kb x1 x2 (w32 (x3 + 1)) d rfl hx1 hx2 (w32_c _)
set_option maxHeartbeats 4000000 in
theorem ok_Mo_countWritten_b87 {p : Program} {l : Launch} {e : Env} {s : State} {m : MethodId} {args : Array Value} {below : List Frame} {meth : Method} {c : Code} {D : va_G} {cA : Nat → ClassId} {ad : Nat → Nat} {A : Nat → Prop} (C : Cx p s m args c prog_14_method_105_code 4 "PollBooksModel" D cA ad 1 A) {Q : State → Prop} {o : (Int × Int × Int × Dt) ⊕ ((Int × Int × Dt))} (x1 x2 x3 s1 s2 s3 : Int) (d : Dt) (hx1 : c32 x1) (hx2 : c32 x2) (hx3 : c32 x3) (hs1 : c32 s1) (hs2 : c32 s2) (hs3 : c32 s3) (h : L_Mo_countWritten_b87 x1 x2 x3 s1 s2 s3 d = some o) (kb : ∀ (y0 y1 y2 : Int) (e' : Dt), o = .inl (y0, y1, y2, e') → c32 y0 → c32 y1 → c32 y2 → G p l e rm_Mo_countWritten s m args below meth c 0 0 Q 4 D cA ad 1 A 21 [(2, 0), (0, y0), (0, y1), (0, y2)] [] e') (k0 : ∀ (y0 y1 : Int) (e' : Dt), o = .inr (y0, y1, e') → c32 y0 → c32 y1 → G p l e rm_Mo_countWritten s m args below meth c 0 0 Q 4 D cA ad 1 A 95 [(2, 0), (0, y0), (0, y1), (9, 0)] [] e') : G p l e rm_Mo_countWritten s m args below meth c 0 0 Q 4 D cA ad 1 A 87 [(2, 0), (0, x1), (0, x2), (0, x3)] [(0, s3), (0, s2), (0, s1), (2, 64)] d := by
  unfold L_Mo_countWritten_b87 at h
  refine g_iadd C (by decide +kernel) ?_
  obtain ⟨hb1_, h⟩ := ck_some h
  refine g_iast C 64 (w32_c _) hs1 rfl cd_B64 (nB (by decide)) hb1_ (by decide +kernel) ?_
  refine g_sub (lo2 := [(2, 0), (0, x1), (0, x2), (0, x3)]) (lsb_v (lsb_v (lsb_v (lsb_v lsb_e)))) ?_
  exact ok_Mo_countWritten_b89 C x1 x2 x3 (up2 d 64 s1.toNat (w32 (s2 + s3))) hx1 hx2 hx3 h kb k0
set_option maxHeartbeats 4000000 in
theorem ok_Mo_countWritten_y21 {p : Program} {l : Launch} {e : Env} {s : State} {m : MethodId} {args : Array Value} {below : List Frame} {meth : Method} {c : Code} {D : va_G} {cA : Nat → ClassId} {ad : Nat → Nat} {A : Nat → Prop} (C : Cx p s m args c prog_14_method_105_code 4 "PollBooksModel" D cA ad 1 A) {Q : State → Prop} {o : (Int × Int × Int × Dt) ⊕ ((Int × Int × Dt))} (x1 x2 x3 : Int) (d : Dt) (hx1 : c32 x1) (hx2 : c32 x2) (hx3 : c32 x3) (h : L_Mo_countWritten_y21 x1 x2 x3 d = some o) (kb : ∀ (y0 y1 y2 : Int) (e' : Dt), o = .inl (y0, y1, y2, e') → c32 y0 → c32 y1 → c32 y2 → G p l e rm_Mo_countWritten s m args below meth c 0 0 Q 4 D cA ad 1 A 21 [(2, 0), (0, y0), (0, y1), (0, y2)] [] e') (k0 : ∀ (y0 y1 : Int) (e' : Dt), o = .inr (y0, y1, e') → c32 y0 → c32 y1 → G p l e rm_Mo_countWritten s m args below meth c 0 0 Q 4 D cA ad 1 A 95 [(2, 0), (0, y0), (0, y1), (9, 0)] [] e') : G p l e rm_Mo_countWritten s m args below meth c 0 0 Q 4 D cA ad 1 A 21 [(2, 0), (0, x1), (0, x2), (0, x3)] [] d := by
  unfold L_Mo_countWritten_y21 at h
  refine g_iload_n C 3 rfl (by decide +kernel) ?_
  refine g_aload_n C 0 rfl (by decide +kernel) ?_
  refine g_getI C cl12 0 92 rfl cd_B0 ⟨by decide, rfl, by decide⟩ rfl (nB (by decide)) (ix := 587) lk_1494 (by decide +kernel) (fun hc2_ => ?_)
  refine g_icmp_ge C (off := 69) (tgt := 95) hx3 hc2_ (by decide +kernel) (by decide) (fun hc3_ => ?_) (fun hc3_ => ?_)
  · replace h := ite_t hc3_ h
    refine g_iload_n C 1 rfl (by decide +kernel) ?_
    refine g_iload_n C 3 rfl (by decide +kernel) ?_
    refine g_ishr C (by decide +kernel) ?_
    refine g_iconst C 1 (cK rfl) (by decide +kernel) ?_
    refine g_iand C (by decide +kernel) ?_
    refine g_iconst C 1 (cK rfl) (by decide +kernel) ?_
    refine g_icmp_ne C (off := 54) (tgt := 89) (i_c _) (c32_cb (Or.inr rfl)) (by decide +kernel) (by decide) (fun hc4_ => ?_) (fun hc4_ => ?_)
    · replace h := ite_t hc4_ h
      refine g_aload_n C 0 rfl (by decide +kernel) ?_
      refine g_getR C cl12 0 86 64 rfl cd_B0 ⟨by decide, rfl, by decide⟩ rfl rfl (nB (by decide)) (ix := 215) lk_1488 (by decide +kernel) ?_
      refine g_iload_n C 2 rfl (by decide +kernel) ?_
      refine g_dup2 C tg0 tg2 (by decide +kernel) ?_
      obtain ⟨hb5_, h⟩ := ck_some h
      refine g_iald C 64 hx2 rfl cd_B64 (nB (by decide)) hb5_ (by decide +kernel) (fun hc6_ => ?_)
      refine g_aload_n C 0 rfl (by decide +kernel) ?_
      refine g_getR C cl12 0 91 68 rfl cd_B0 ⟨by decide, rfl, by decide⟩ rfl rfl (nB (by decide)) (ix := 227) lk_1493 (by decide +kernel) ?_
      refine g_iload_n C 3 rfl (by decide +kernel) ?_
      obtain ⟨hb7_, h⟩ := ck_some h
      refine g_zald C 68 hx3 rfl cd_B68 (nB (by decide)) hb7_ (by decide +kernel) (fun hc8_ => ?_)
      refine g_if_eq C (off := 21) (tgt := 72) (c32_cb hc8_) (by decide +kernel) (by decide) (fun hc9_ => ?_) (fun hc9_ => ?_)
      · replace h := ite_t hc9_ h
        refine g_aload_n C 0 rfl (by decide +kernel) ?_
        refine g_aload_n C 0 rfl (by decide +kernel) ?_
        refine g_getR C cl12 0 88 65 rfl cd_B0 ⟨by decide, rfl, by decide⟩ rfl rfl (nB (by decide)) (ix := 218) lk_1490 (by decide +kernel) ?_
        refine g_iload_n C 3 rfl (by decide +kernel) ?_
        obtain ⟨hb10_, h⟩ := ck_some h
        refine g_iald C 65 hx3 rfl cd_B65 (nB (by decide)) hb10_ (by decide +kernel) (fun hc11_ => ?_)
        obtain ⟨r13_, d12_, hr14_, h⟩ := bd_some h
        refine g_callV C mw_Mo_setOf [(0, (d 65 x3.toNat))] 0 cl12 rfl (ok_Mo_setOf (d 65 x3.toNat) d hc11_ hr14_) cd_B0 (by decide) (nB (by decide)) (ix := 547) lk_2104 lk_2106 lkp_100 ⟨rfl, rfl, Nat.le_of_ble_eq_true rfl, Nat.le_of_ble_eq_true rfl⟩ rfl (rest := [(0, (d 64 x2.toNat)), (0, x2), (2, 64)]) rfl (Nat.le_of_ble_eq_true rfl) ⟨Nat.zero_le _, Nat.zero_le _⟩ (by decide +kernel) (fun _ hc15_ => ?_)
        replace hc15_ : c32 r13_ := hc15_
        refine g_st (st2 := [(0, r13_), (0, (d 64 x2.toNat)), (0, x2), (2, 64)]) rfl ?_
        refine g_iload_n C 2 rfl (by decide +kernel) ?_
        refine g_ishr C (by decide +kernel) ?_
        refine g_iconst C 1 (cK rfl) (by decide +kernel) ?_
        refine g_iand C (by decide +kernel) ?_
        refine g_ineg C (by decide +kernel) ?_
        refine g_sub (lo2 := [(2, 0), (0, x1), (0, x2), (0, x3)]) (lsb_v (lsb_v (lsb_v (lsb_v lsb_e)))) ?_
        exact ok_Mo_countWritten_b87 C x1 x2 x3 x2 (d 64 x2.toNat) (w32 (-(iand (ishr r13_ x2) 1))) d12_ hx1 hx2 hx3 hx2 hc6_ (w32_c _) h kb k0
      · replace h := ite_f hc9_ h
        refine g_aload_n C 0 rfl (by decide +kernel) ?_
        refine g_getR C cl12 0 82 60 rfl cd_B0 ⟨by decide, rfl, by decide⟩ rfl rfl (nB (by decide)) (ix := 203) lk_1484 (by decide +kernel) ?_
        refine g_aload_n C 0 rfl (by decide +kernel) ?_
        refine g_getR C cl12 0 88 65 rfl cd_B0 ⟨by decide, rfl, by decide⟩ rfl rfl (nB (by decide)) (ix := 218) lk_1490 (by decide +kernel) ?_
        refine g_iload_n C 3 rfl (by decide +kernel) ?_
        obtain ⟨hb16_, h⟩ := ck_some h
        refine g_iald C 65 hx3 rfl cd_B65 (nB (by decide)) hb16_ (by decide +kernel) (fun hc17_ => ?_)
        obtain ⟨hb18_, h⟩ := ck_some h
        refine g_iald C 60 hc17_ rfl cd_B60 (nB (by decide)) hb18_ (by decide +kernel) (fun hc19_ => ?_)
        refine g_iload_n C 2 rfl (by decide +kernel) ?_
        refine g_ishr C (by decide +kernel) ?_
        refine g_iconst C 1 (cK rfl) (by decide +kernel) ?_
        refine g_iand C (by decide +kernel) ?_
        refine g_goto C 87 (off := 18) (by decide +kernel) (by decide) ?_
        refine g_sub (lo2 := [(2, 0), (0, x1), (0, x2), (0, x3)]) (lsb_v (lsb_v (lsb_v (lsb_v lsb_e)))) ?_
        exact ok_Mo_countWritten_b87 C x1 x2 x3 x2 (d 64 x2.toNat) (iand (ishr (d 60 ((d 65 x3.toNat)).toNat) x2) 1) d hx1 hx2 hx3 hx2 hc6_ (i_c _) h kb k0
    · replace h := ite_f hc4_ h
      refine g_sub (lo2 := [(2, 0), (0, x1), (0, x2), (0, x3)]) (lsb_v (lsb_v (lsb_v (lsb_v lsb_e)))) ?_
      exact ok_Mo_countWritten_b89 C x1 x2 x3 d hx1 hx2 hx3 h kb k0
  · replace h := ite_f hc3_ h
    refine g_sub (lo2 := [(2, 0), (0, x1), (0, x2), (9, 0)]) (lsb_v (lsb_v (lsb_v (lsb_c lsb_e)))) ?_
    obtain rfl := Option.some.inj h
    exact k0 x1 x2 d rfl hx1 hx2
set_option maxHeartbeats 4000000 in
theorem ok_Mo_countWritten_n21 {p : Program} {l : Launch} {e : Env} {s : State} {m : MethodId} {args : Array Value} {below : List Frame} {meth : Method} {c : Code} {D : va_G} {cA : Nat → ClassId} {ad : Nat → Nat} {A : Nat → Prop} (C : Cx p s m args c prog_14_method_105_code 4 "PollBooksModel" D cA ad 1 A) {Q : State → Prop} {x : (Int × Int × Dt)} : ∀ (n : Nat) (x1 x2 x3 : Int) (d : Dt), c32 x1 → c32 x2 → c32 x3 → lpF (fun q : Int × Int × Int × Dt => L_Mo_countWritten_y21 q.1 q.2.1 q.2.2.1 q.2.2.2) n (x1, x2, x3, d) = some x → (∀ (y0 y1 : Int) (e' : Dt), x = (y0, y1, e') → c32 y0 → c32 y1 → G p l e rm_Mo_countWritten s m args below meth c 0 0 Q 4 D cA ad 1 A 95 [(2, 0), (0, y0), (0, y1), (9, 0)] [] e') → G p l e rm_Mo_countWritten s m args below meth c 0 0 Q 4 D cA ad 1 A 21 [(2, 0), (0, x1), (0, x2), (0, x3)] [] d := by
  intro n
  induction n with
  | zero => intro x1 x2 x3 d g0 g1 g2 h k0; cases h
  | succ n ih =>
    intro x1 x2 x3 d g0 g1 g2 h k0
    rcases lpF_some h with h | ⟨⟨v0_, v1_, v2_, e0_⟩, h1, h⟩
    · exact ok_Mo_countWritten_y21 C x1 x2 x3 d g0 g1 g2 h (fun z0_ z1_ z2_ e1_ eq w0_ w1_ w2_ => by cases eq) (fun z0_ z1_ e1_ eq w0_ w1_ => k0 _ _ _ (by cases eq; rfl) w0_ w1_)
    · exact ok_Mo_countWritten_y21 C x1 x2 x3 d g0 g1 g2 h1 (fun z0_ z1_ z2_ e1_ eq w0_ w1_ w2_ => by cases eq; exact ih _ _ _ _ w0_ w1_ w2_ h k0) (fun z0_ z1_ e1_ eq w0_ w1_ => by cases eq)
set_option maxHeartbeats 4000000 in
theorem ok_Mo_countWritten_l21 {p : Program} {l : Launch} {e : Env} {s : State} {m : MethodId} {args : Array Value} {below : List Frame} {meth : Method} {c : Code} {D : va_G} {cA : Nat → ClassId} {ad : Nat → Nat} {A : Nat → Prop} (C : Cx p s m args c prog_14_method_105_code 4 "PollBooksModel" D cA ad 1 A) {Q : State → Prop} {x : (Int × Int × Dt)} (x1 x2 x3 : Int) (d : Dt) (hx1 : c32 x1) (hx2 : c32 x2) (hx3 : c32 x3) (h : L_Mo_countWritten_l21 x1 x2 x3 d = some x) (k0 : ∀ (y0 y1 : Int) (e' : Dt), x = (y0, y1, e') → c32 y0 → c32 y1 → G p l e rm_Mo_countWritten s m args below meth c 0 0 Q 4 D cA ad 1 A 95 [(2, 0), (0, y0), (0, y1), (9, 0)] [] e') : G p l e rm_Mo_countWritten s m args below meth c 0 0 Q 4 D cA ad 1 A 21 [(2, 0), (0, x1), (0, x2), (0, x3)] [] d :=
  ok_Mo_countWritten_n21 C FU x1 x2 x3 d hx1 hx2 hx3 h k0
set_option maxHeartbeats 4000000 in
theorem ok_Mo_countWritten_y2 {p : Program} {l : Launch} {e : Env} {s : State} {m : MethodId} {args : Array Value} {below : List Frame} {meth : Method} {c : Code} {D : va_G} {cA : Nat → ClassId} {ad : Nat → Nat} {A : Nat → Prop} (C : Cx p s m args c prog_14_method_105_code 4 "PollBooksModel" D cA ad 1 A) {Q : State → Prop} {o : (Int × Int × Dt) ⊕ ((Dt))} (x1 x2 : Int) (d : Dt) (hx1 : c32 x1) (hx2 : c32 x2) (h : L_Mo_countWritten_y2 x1 x2 d = some o) (kb : ∀ (y0 y1 : Int) (e' : Dt), o = .inl (y0, y1, e') → c32 y0 → c32 y1 → G p l e rm_Mo_countWritten s m args below meth c 0 0 Q 4 D cA ad 1 A 2 [(2, 0), (0, y0), (0, y1), (9, 0)] [] e') (k0 : ∀ (e' : Dt), o = .inr (e') → G p l e rm_Mo_countWritten s m args below meth c 0 0 Q 4 D cA ad 1 A 101 [(9, 0), (9, 0), (9, 0), (9, 0)] [] e') : G p l e rm_Mo_countWritten s m args below meth c 0 0 Q 4 D cA ad 1 A 2 [(2, 0), (0, x1), (0, x2), (9, 0)] [] d := by
  unfold L_Mo_countWritten_y2 at h
  refine g_iload_n C 2 rfl (by decide +kernel) ?_
  refine g_iconst C 4 (cK rfl) (by decide +kernel) ?_
  refine g_icmp_ge C (off := 97) (tgt := 101) hx2 (cK rfl) (by decide +kernel) (by decide) (fun hc20_ => ?_) (fun hc20_ => ?_)
  · replace h := ite_t hc20_ h
    refine g_aload_n C 0 rfl (by decide +kernel) ?_
    refine g_getR C cl12 0 86 64 rfl cd_B0 ⟨by decide, rfl, by decide⟩ rfl rfl (nB (by decide)) (ix := 215) lk_1488 (by decide +kernel) ?_
    refine g_iload_n C 2 rfl (by decide +kernel) ?_
    refine g_aload_n C 0 rfl (by decide +kernel) ?_
    refine g_getR C cl12 0 90 67 rfl cd_B0 ⟨by decide, rfl, by decide⟩ rfl rfl (nB (by decide)) (ix := 224) lk_1492 (by decide +kernel) ?_
    refine g_iload_n C 2 rfl (by decide +kernel) ?_
    obtain ⟨hb21_, h⟩ := ck_some h
    refine g_iald C 67 hx2 rfl cd_B67 (nB (by decide)) hb21_ (by decide +kernel) (fun hc22_ => ?_)
    obtain ⟨hb23_, h⟩ := ck_some h
    refine g_iast C 64 hc22_ hx2 rfl cd_B64 (nB (by decide)) hb23_ (by decide +kernel) ?_
    refine g_iconst C 0 (cK rfl) (by decide +kernel) ?_
    refine s_istore_n C 3 (lo' := [(2, 0), (0, x1), (0, x2), (0, 0)]) (by decide) (s1k (s1k (s1n (by decide) s1z))) (by decide +kernel) ?_
    refine g_sub (lo2 := [(2, 0), (0, x1), (0, x2), (0, 0)]) (lsb_v (lsb_v (lsb_v (lsb_v lsb_e)))) ?_
    obtain ⟨x24_, hx25_, h⟩ := lb_some h
    refine ok_Mo_countWritten_l21 C x1 x2 0 (up2 d 64 x2.toNat (d 67 x2.toNat)) hx1 hx2 (c32_cb (Or.inl rfl)) hx25_ (fun v26_ v27_ d28_ eq29_ hv26_ hv27_ => ?_)
    subst eq29_
    replace h := u2_e h
    refine s_iinc C 2 1 (lo' := [(2, 0), (0, v26_), (0, (w32 (v27_ + 1))), (9, 0)]) rfl (by decide) (s1k (s1n (by decide) s1z)) (by decide +kernel) ?_
    refine g_goto C 2 (off := (-96)) (by decide +kernel) (by decide) ?_
    refine g_sub (lo2 := [(2, 0), (0, v26_), (0, (w32 (v27_ + 1))), (9, 0)]) (lsb_v (lsb_v (lsb_v (lsb_c lsb_e)))) ?_
    obtain rfl := Option.some.inj h
    exact kb v26_ (w32 (v27_ + 1)) d28_ rfl hv26_ (w32_c _)
  · replace h := ite_f hc20_ h
    refine g_sub (lo2 := [(9, 0), (9, 0), (9, 0), (9, 0)]) (lsb_c (lsb_c (lsb_c (lsb_c lsb_e)))) ?_
    obtain rfl := Option.some.inj h
    exact k0 d rfl 
set_option maxHeartbeats 4000000 in
theorem ok_Mo_countWritten_n2 {p : Program} {l : Launch} {e : Env} {s : State} {m : MethodId} {args : Array Value} {below : List Frame} {meth : Method} {c : Code} {D : va_G} {cA : Nat → ClassId} {ad : Nat → Nat} {A : Nat → Prop} (C : Cx p s m args c prog_14_method_105_code 4 "PollBooksModel" D cA ad 1 A) {Q : State → Prop} {x : (Dt)} : ∀ (n : Nat) (x1 x2 : Int) (d : Dt), c32 x1 → c32 x2 → lpF (fun q : Int × Int × Dt => L_Mo_countWritten_y2 q.1 q.2.1 q.2.2) n (x1, x2, d) = some x → (∀ (e' : Dt), x = (e') → G p l e rm_Mo_countWritten s m args below meth c 0 0 Q 4 D cA ad 1 A 101 [(9, 0), (9, 0), (9, 0), (9, 0)] [] e') → G p l e rm_Mo_countWritten s m args below meth c 0 0 Q 4 D cA ad 1 A 2 [(2, 0), (0, x1), (0, x2), (9, 0)] [] d := by
  intro n
  induction n with
  | zero => intro x1 x2 d g0 g1 h k0; cases h
  | succ n ih =>
    intro x1 x2 d g0 g1 h k0
    rcases lpF_some h with h | ⟨⟨v0_, v1_, e0_⟩, h1, h⟩
    · exact ok_Mo_countWritten_y2 C x1 x2 d g0 g1 h (fun z0_ z1_ e1_ eq w0_ w1_ => by cases eq) (fun e1_ eq => k0 _ (by cases eq; rfl) )
    · exact ok_Mo_countWritten_y2 C x1 x2 d g0 g1 h1 (fun z0_ z1_ e1_ eq w0_ w1_ => by cases eq; exact ih _ _ _ w0_ w1_ h k0) (fun e1_ eq => by cases eq)
set_option maxHeartbeats 4000000 in
theorem ok_Mo_countWritten_l2 {p : Program} {l : Launch} {e : Env} {s : State} {m : MethodId} {args : Array Value} {below : List Frame} {meth : Method} {c : Code} {D : va_G} {cA : Nat → ClassId} {ad : Nat → Nat} {A : Nat → Prop} (C : Cx p s m args c prog_14_method_105_code 4 "PollBooksModel" D cA ad 1 A) {Q : State → Prop} {x : (Dt)} (x1 x2 : Int) (d : Dt) (hx1 : c32 x1) (hx2 : c32 x2) (h : L_Mo_countWritten_l2 x1 x2 d = some x) (k0 : ∀ (e' : Dt), x = (e') → G p l e rm_Mo_countWritten s m args below meth c 0 0 Q 4 D cA ad 1 A 101 [(9, 0), (9, 0), (9, 0), (9, 0)] [] e') : G p l e rm_Mo_countWritten s m args below meth c 0 0 Q 4 D cA ad 1 A 2 [(2, 0), (0, x1), (0, x2), (9, 0)] [] d :=
  ok_Mo_countWritten_n2 C FU x1 x2 d hx1 hx2 h k0
set_option maxHeartbeats 4000000 in
theorem ok_Mo_countWritten {l : Launch} {r : Int} {d' : Dt} (p1 : Int) (d : Dt) (hp1 : c32 p1) (h : L_Mo_countWritten p1 d = some (r, d')) : MC l y_Mo_countWritten prog_14_method_105_code 4 none rm_Mo_countWritten 1 [(2, 0), (0, p1)] d none d' := by
  refine MC.of (by decide) (Nat.le_of_ble_eq_true rfl) ?_
  intro p e s m args below meth c D cA ad A C hlk hr
  replace C : Cx p s m args c prog_14_method_105_code 4 "PollBooksModel" D cA ad 1 A := C
  show G p l e rm_Mo_countWritten s m args below meth c 0 0 (MQ below (fun _ => QC D cA ad 1 A none none d') args s 0 0 A) 4 D cA ad 1 A 0 [(2, 0), (0, p1)] [] d
  refine g_sub (lo2 := [(2, 0), (0, p1), (9, 0), (9, 0)]) (lsb_v (lsb_v (lsb_n (lsb_n lsb_e)))) ?_
  unfold L_Mo_countWritten at h
  refine g_iconst C 0 (cK rfl) (by decide +kernel) ?_
  refine s_istore_n C 2 (lo' := [(2, 0), (0, p1), (0, 0), (9, 0)]) (by decide) (s1k (s1n (by decide) s1z)) (by decide +kernel) ?_
  refine g_sub (lo2 := [(2, 0), (0, p1), (0, 0), (9, 0)]) (lsb_v (lsb_v (lsb_v (lsb_c lsb_e)))) ?_
  obtain ⟨x31_, hx32_, h⟩ := lb_some h
  refine ok_Mo_countWritten_l2 C p1 0 d hp1 (c32_cb (Or.inl rfl)) hx32_ (fun d33_ eq34_ => ?_)
  replace eq34_ := eq34_.symm
  subst eq34_
  replace h := u0_e h
  obtain ⟨rfl, rfl⟩ := ret_inj h
  exact g_vret C hlk hr (by decide +kernel)
/-! PollBooksModel.written(II)I -/
def y_Mo_written : MethodName := ⟨"PollBooksModel", "written", "(II)I"⟩
def rm_Mo_written : Room := { frames := 7, cells := 0, slots := 0, locals := 178 }
theorem mw_Mo_written : MW y_Mo_written prog_14_method_107_code 3 (some .int) 2 := ⟨lk_2190, lk_14, by decide +kernel⟩
def L_Mo_written_b21 (d : Dt) : Option (Int × Dt) :=
  bd (L_Mo_refuse 1 d) (fun r2_ d1_ => some (r2_, d1_))
def L_Mo_written (p1 p2 : Int) (d : Dt) : Option (Int × Dt) :=
  bd (L_Mo_isCandidate p1 d) (fun r6_ d5_ => if r6_ = 0 then L_Mo_written_b21 d5_ else if p2 < 0 then L_Mo_written_b21 d5_ else if p2 < (ishl 1 (d5_ 0 92)) then bd (L_Mo_readWritten d5_) (fun r14_ d13_ => bd (L_Mo_countWritten p2 d13_) (fun r18_ d17_ => ck ((0 : Int) ≤ p1 ∧ p1 < 4) (bd (L_Mo_gives (d17_ 64 p1.toNat) d17_) (fun r24_ d23_ => some (r24_, d23_))))) else L_Mo_written_b21 d5_)
set_option maxHeartbeats 4000000 in
theorem ok_Mo_written_b21 {p : Program} {l : Launch} {e : Env} {s : State} {m : MethodId} {args : Array Value} {below : List Frame} {meth : Method} {c : Code} {D : va_G} {cA : Nat → ClassId} {ad : Nat → Nat} {A : Nat → Prop} (C : Cx p s m args c prog_14_method_107_code 3 "PollBooksModel" D cA ad 1 A) (hlk : meth.locks = false) (hr : meth.sig.returnType = (some .int)) {r : Int} {d' : Dt} (d : Dt)  (h : L_Mo_written_b21 d = some (r, d')) : G p l e rm_Mo_written s m args below meth c 0 0 (MQ below (fun _ => QC D cA ad 1 A (some .int) (some (0, r)) d') args s 0 0 A) 3 D cA ad 1 A 21 [(2, 0), (9, 0), (9, 0)] [] d := by
  unfold L_Mo_written_b21 at h
  refine g_aload_n C 0 rfl (by decide +kernel) ?_
  refine g_iconst C 1 (cK rfl) (by decide +kernel) ?_
  obtain ⟨r2_, d1_, hr3_, h⟩ := bd_some h
  refine g_callV C mw_Mo_refuse [(0, 1)] 0 cl12 rfl (ok_Mo_refuse 1 d (c32_cb (Or.inr rfl)) hr3_) cd_B0 (by decide) (nB (by decide)) (ix := 316) lk_1787 lk_1789 lkp_61 ⟨rfl, rfl, Nat.le_of_ble_eq_true rfl, Nat.le_of_ble_eq_true rfl⟩ rfl (rest := []) rfl (Nat.le_of_ble_eq_true rfl) ⟨Nat.zero_le _, Nat.zero_le _⟩ (by decide +kernel) (fun _ hc4_ => ?_)
  replace hc4_ : c32 r2_ := hc4_
  refine g_st (st2 := [(0, r2_)]) rfl ?_
  obtain ⟨rfl, rfl⟩ := ret_inj h
  exact g_iret C hc4_ hlk hr (by decide +kernel)
set_option maxHeartbeats 4000000 in
theorem ok_Mo_written {l : Launch} {r : Int} {d' : Dt} (p1 p2 : Int) (d : Dt) (hp1 : c32 p1) (hp2 : c32 p2) (h : L_Mo_written p1 p2 d = some (r, d')) : MC l y_Mo_written prog_14_method_107_code 3 (some .int) rm_Mo_written 1 [(2, 0), (0, p1), (0, p2)] d (some (0, r)) d' := by
  refine MC.of (by decide) (Nat.le_of_ble_eq_true rfl) ?_
  intro p e s m args below meth c D cA ad A C hlk hr
  replace C : Cx p s m args c prog_14_method_107_code 3 "PollBooksModel" D cA ad 1 A := C
  show G p l e rm_Mo_written s m args below meth c 0 0 (MQ below (fun _ => QC D cA ad 1 A (some .int) (some (0, r)) d') args s 0 0 A) 3 D cA ad 1 A 0 [(2, 0), (0, p1), (0, p2)] [] d
  refine g_sub (lo2 := [(2, 0), (0, p1), (0, p2)]) (lsb_v (lsb_v (lsb_v lsb_e))) ?_
  unfold L_Mo_written at h
  refine g_iload_n C 1 rfl (by decide +kernel) ?_
  obtain ⟨r6_, d5_, hr7_, h⟩ := bd_some h
  refine g_callS C mw_Mo_isCandidate [(0, p1)] (ok_Mo_isCandidate p1 d hp1 hr7_) (ix := 550) lk_2112 lk_2113 ⟨rfl, rfl, Nat.le_of_ble_eq_true rfl, Nat.le_of_ble_eq_true rfl⟩ rfl (rest := []) rfl (Nat.le_of_ble_eq_true rfl) ⟨Nat.zero_le _, Nat.zero_le _⟩ (by decide +kernel) (fun _ hc8_ => ?_)
  replace hc8_ : cb r6_ := hc8_
  refine g_st (st2 := [(0, r6_)]) rfl ?_
  refine g_if_eq C (off := 17) (tgt := 21) (c32_cb hc8_) (by decide +kernel) (by decide) (fun hc9_ => ?_) (fun hc9_ => ?_)
  · replace h := ite_t hc9_ h
    refine g_sub (lo2 := [(2, 0), (9, 0), (9, 0)]) (lsb_v (lsb_c (lsb_c lsb_e))) ?_
    exact ok_Mo_written_b21 C hlk hr d5_  h
  · replace h := ite_f hc9_ h
    refine g_iload_n C 2 rfl (by decide +kernel) ?_
    refine g_if_lt C (off := 13) (tgt := 21) hp2 (by decide +kernel) (by decide) (fun hc10_ => ?_) (fun hc10_ => ?_)
    · replace h := ite_t hc10_ h
      refine g_sub (lo2 := [(2, 0), (9, 0), (9, 0)]) (lsb_v (lsb_c (lsb_c lsb_e))) ?_
      exact ok_Mo_written_b21 C hlk hr d5_  h
    · replace h := ite_f hc10_ h
      refine g_iload_n C 2 rfl (by decide +kernel) ?_
      refine g_iconst C 1 (cK rfl) (by decide +kernel) ?_
      refine g_aload_n C 0 rfl (by decide +kernel) ?_
      refine g_getI C cl12 0 92 rfl cd_B0 ⟨by decide, rfl, by decide⟩ rfl (nB (by decide)) (ix := 587) lk_1494 (by decide +kernel) (fun hc11_ => ?_)
      refine g_ishl C (by decide +kernel) ?_
      refine g_icmp_lt C (off := 9) (tgt := 27) hp2 (i_c _) (by decide +kernel) (by decide) (fun hc12_ => ?_) (fun hc12_ => ?_)
      · replace h := ite_t hc12_ h
        refine g_aload_n C 0 rfl (by decide +kernel) ?_
        obtain ⟨r14_, d13_, hr15_, h⟩ := bd_some h
        refine g_callV C mw_Mo_readWritten [] 0 cl12 rfl (ok_Mo_readWritten  d5_  hr15_) cd_B0 (by decide) (nB (by decide)) (ix := 590) lk_2191 lk_2193 lkp_108 ⟨rfl, rfl, Nat.le_of_ble_eq_true rfl, Nat.le_of_ble_eq_true rfl⟩ rfl (rest := []) rfl (Nat.le_of_ble_eq_true rfl) ⟨Nat.zero_le _, Nat.zero_le _⟩ (by decide +kernel) (fun _ hc16_ => ?_)
        refine g_st (st2 := []) rfl ?_
        refine g_aload_n C 0 rfl (by decide +kernel) ?_
        refine g_iload_n C 2 rfl (by decide +kernel) ?_
        obtain ⟨r18_, d17_, hr19_, h⟩ := bd_some h
        refine g_callV C mw_Mo_countWritten [(0, p2)] 0 cl12 rfl (ok_Mo_countWritten p2 d13_ hp2 hr19_) cd_B0 (by decide) (nB (by decide)) (ix := 593) lk_2195 lk_2197 lkp_109 ⟨rfl, rfl, Nat.le_of_ble_eq_true rfl, Nat.le_of_ble_eq_true rfl⟩ rfl (rest := []) rfl (Nat.le_of_ble_eq_true rfl) ⟨Nat.zero_le _, Nat.zero_le _⟩ (by decide +kernel) (fun _ hc20_ => ?_)
        refine g_st (st2 := []) rfl ?_
        refine g_aload_n C 0 rfl (by decide +kernel) ?_
        refine g_aload_n C 0 rfl (by decide +kernel) ?_
        refine g_getR C cl12 0 86 64 rfl cd_B0 ⟨by decide, rfl, by decide⟩ rfl rfl (nB (by decide)) (ix := 215) lk_1488 (by decide +kernel) ?_
        refine g_iload_n C 1 rfl (by decide +kernel) ?_
        obtain ⟨hb21_, h⟩ := ck_some h
        refine g_iald C 64 hp1 rfl cd_B64 (nB (by decide)) hb21_ (by decide +kernel) (fun hc22_ => ?_)
        obtain ⟨r24_, d23_, hr25_, h⟩ := bd_some h
        refine g_callV C mw_Mo_gives [(0, (d17_ 64 p1.toNat))] 0 cl12 rfl (ok_Mo_gives (d17_ 64 p1.toNat) d17_ hc22_ hr25_) cd_B0 (by decide) (nB (by decide)) (ix := 312) lk_1783 lk_1785 lkp_60 ⟨rfl, rfl, Nat.le_of_ble_eq_true rfl, Nat.le_of_ble_eq_true rfl⟩ rfl (rest := []) rfl (Nat.le_of_ble_eq_true rfl) ⟨Nat.zero_le _, Nat.zero_le _⟩ (by decide +kernel) (fun _ hc26_ => ?_)
        replace hc26_ : c32 r24_ := hc26_
        refine g_st (st2 := [(0, r24_)]) rfl ?_
        obtain ⟨rfl, rfl⟩ := ret_inj h
        exact g_iret C hc26_ hlk hr (by decide +kernel)
      · replace h := ite_f hc12_ h
        refine g_sub (lo2 := [(2, 0), (9, 0), (9, 0)]) (lsb_v (lsb_c (lsb_c lsb_e))) ?_
        exact ok_Mo_written_b21 C hlk hr d5_  h
/-! PollBooksModel.canBe(I)Z -/
def y_Mo_canBe : MethodName := ⟨"PollBooksModel", "canBe", "(I)Z"⟩
def rm_Mo_canBe : Room := { frames := 0, cells := 0, slots := 0, locals := 0 }
theorem mw_Mo_canBe : MW y_Mo_canBe prog_14_method_108_code 3 (some .boolean) 1 := ⟨lk_2206, lk_14, by decide +kernel⟩
def L_Mo_canBe_b32 (x1 x2 : Int) (d : Dt) : Option ((Int × Int × Dt) ⊕ ((Dt) ⊕ (Dt))) :=
  some (Sum.inl (x1, (w32 (x2 + 1)), d))
def L_Mo_canBe_y2 (x1 x2 : Int) (d : Dt) : Option ((Int × Int × Dt) ⊕ ((Dt) ⊕ (Dt))) :=
  if x2 < (d 0 92) then if (iand (ishr x1 x2) 1) = 1 then ck ((0 : Int) ≤ x2 ∧ x2 < 10) (if (iand (d 66 x2.toNat) x1) = 0 then L_Mo_canBe_b32 x1 x2 d else some (Sum.inr (Sum.inr (d)))) else L_Mo_canBe_b32 x1 x2 d else some (Sum.inr (Sum.inl (d)))
def L_Mo_canBe_l2 (x1 x2 : Int) (d : Dt) : Option ((Dt) ⊕ (Dt)) := lpF (fun q : Int × Int × Dt => L_Mo_canBe_y2 q.1 q.2.1 q.2.2) FU (x1, x2, d)
def L_Mo_canBe (p1 : Int) (d : Dt) : Option (Int × Dt) :=
  lb (L_Mo_canBe_l2 p1 0 d) (fun q13_ => sm q13_ (fun q14_ => u0 q14_ (fun d9_ => some (1, d9_))) (fun q15_ => u0 q15_ (fun d11_ => some (0, d11_))))
set_option maxHeartbeats 4000000 in
theorem ok_Mo_canBe_b32 {p : Program} {l : Launch} {e : Env} {s : State} {m : MethodId} {args : Array Value} {below : List Frame} {meth : Method} {c : Code} {D : va_G} {cA : Nat → ClassId} {ad : Nat → Nat} {A : Nat → Prop} (C : Cx p s m args c prog_14_method_108_code 3 "PollBooksModel" D cA ad 1 A) {Q : State → Prop} {o : (Int × Int × Dt) ⊕ ((Dt) ⊕ (Dt))} (x1 x2 : Int) (d : Dt) (hx1 : c32 x1) (hx2 : c32 x2) (h : L_Mo_canBe_b32 x1 x2 d = some o) (kb : ∀ (y0 y1 : Int) (e' : Dt), o = .inl (y0, y1, e') → c32 y0 → c32 y1 → G p l e rm_Mo_canBe s m args below meth c 0 0 Q 3 D cA ad 1 A 2 [(2, 0), (0, y0), (0, y1)] [] e') (k0 : ∀ (e' : Dt), o = .inr (Sum.inl (e')) → G p l e rm_Mo_canBe s m args below meth c 0 0 Q 3 D cA ad 1 A 38 [(9, 0), (9, 0), (9, 0)] [] e') (k1 : ∀ (e' : Dt), o = .inr (Sum.inr (e')) → G p l e rm_Mo_canBe s m args below meth c 0 0 Q 3 D cA ad 1 A 30 [(9, 0), (9, 0), (9, 0)] [] e') : G p l e rm_Mo_canBe s m args below meth c 0 0 Q 3 D cA ad 1 A 32 [(2, 0), (0, x1), (0, x2)] [] d := by
  unfold L_Mo_canBe_b32 at h
  refine s_iinc C 2 1 (lo' := [(2, 0), (0, x1), (0, (w32 (x2 + 1)))]) rfl (by decide) (s1k (s1n (by decide) s1z)) (by decide +kernel) ?_
  refine g_goto C 2 (off := (-33)) (by decide +kernel) (by decide) ?_
  refine g_sub (lo2 := [(2, 0), (0, x1), (0, (w32 (x2 + 1)))]) (lsb_v (lsb_v (lsb_v lsb_e))) ?_
  obtain rfl := Option.some.inj h
  exact kb x1 (w32 (x2 + 1)) d rfl hx1 (w32_c _)
set_option maxHeartbeats 4000000 in
theorem ok_Mo_canBe_y2 {p : Program} {l : Launch} {e : Env} {s : State} {m : MethodId} {args : Array Value} {below : List Frame} {meth : Method} {c : Code} {D : va_G} {cA : Nat → ClassId} {ad : Nat → Nat} {A : Nat → Prop} (C : Cx p s m args c prog_14_method_108_code 3 "PollBooksModel" D cA ad 1 A) {Q : State → Prop} {o : (Int × Int × Dt) ⊕ ((Dt) ⊕ (Dt))} (x1 x2 : Int) (d : Dt) (hx1 : c32 x1) (hx2 : c32 x2) (h : L_Mo_canBe_y2 x1 x2 d = some o) (kb : ∀ (y0 y1 : Int) (e' : Dt), o = .inl (y0, y1, e') → c32 y0 → c32 y1 → G p l e rm_Mo_canBe s m args below meth c 0 0 Q 3 D cA ad 1 A 2 [(2, 0), (0, y0), (0, y1)] [] e') (k0 : ∀ (e' : Dt), o = .inr (Sum.inl (e')) → G p l e rm_Mo_canBe s m args below meth c 0 0 Q 3 D cA ad 1 A 38 [(9, 0), (9, 0), (9, 0)] [] e') (k1 : ∀ (e' : Dt), o = .inr (Sum.inr (e')) → G p l e rm_Mo_canBe s m args below meth c 0 0 Q 3 D cA ad 1 A 30 [(9, 0), (9, 0), (9, 0)] [] e') : G p l e rm_Mo_canBe s m args below meth c 0 0 Q 3 D cA ad 1 A 2 [(2, 0), (0, x1), (0, x2)] [] d := by
  unfold L_Mo_canBe_y2 at h
  refine g_iload_n C 2 rfl (by decide +kernel) ?_
  refine g_aload_n C 0 rfl (by decide +kernel) ?_
  refine g_getI C cl12 0 92 rfl cd_B0 ⟨by decide, rfl, by decide⟩ rfl (nB (by decide)) (ix := 587) lk_1494 (by decide +kernel) (fun hc1_ => ?_)
  refine g_icmp_ge C (off := 31) (tgt := 38) hx2 hc1_ (by decide +kernel) (by decide) (fun hc2_ => ?_) (fun hc2_ => ?_)
  · replace h := ite_t hc2_ h
    refine g_iload_n C 1 rfl (by decide +kernel) ?_
    refine g_iload_n C 2 rfl (by decide +kernel) ?_
    refine g_ishr C (by decide +kernel) ?_
    refine g_iconst C 1 (cK rfl) (by decide +kernel) ?_
    refine g_iand C (by decide +kernel) ?_
    refine g_iconst C 1 (cK rfl) (by decide +kernel) ?_
    refine g_icmp_ne C (off := 16) (tgt := 32) (i_c _) (c32_cb (Or.inr rfl)) (by decide +kernel) (by decide) (fun hc3_ => ?_) (fun hc3_ => ?_)
    · replace h := ite_t hc3_ h
      refine g_aload_n C 0 rfl (by decide +kernel) ?_
      refine g_getR C cl12 0 89 66 rfl cd_B0 ⟨by decide, rfl, by decide⟩ rfl rfl (nB (by decide)) (ix := 221) lk_1491 (by decide +kernel) ?_
      refine g_iload_n C 2 rfl (by decide +kernel) ?_
      obtain ⟨hb4_, h⟩ := ck_some h
      refine g_iald C 66 hx2 rfl cd_B66 (nB (by decide)) hb4_ (by decide +kernel) (fun hc5_ => ?_)
      refine g_iload_n C 1 rfl (by decide +kernel) ?_
      refine g_iand C (by decide +kernel) ?_
      refine g_if_eq C (off := 5) (tgt := 32) (i_c _) (by decide +kernel) (by decide) (fun hc6_ => ?_) (fun hc6_ => ?_)
      · replace h := ite_t hc6_ h
        refine g_sub (lo2 := [(2, 0), (0, x1), (0, x2)]) (lsb_v (lsb_v (lsb_v lsb_e))) ?_
        exact ok_Mo_canBe_b32 C x1 x2 d hx1 hx2 h kb k0 k1
      · replace h := ite_f hc6_ h
        refine g_sub (lo2 := [(9, 0), (9, 0), (9, 0)]) (lsb_c (lsb_c (lsb_c lsb_e))) ?_
        obtain rfl := Option.some.inj h
        exact k1 d rfl 
    · replace h := ite_f hc3_ h
      refine g_sub (lo2 := [(2, 0), (0, x1), (0, x2)]) (lsb_v (lsb_v (lsb_v lsb_e))) ?_
      exact ok_Mo_canBe_b32 C x1 x2 d hx1 hx2 h kb k0 k1
  · replace h := ite_f hc2_ h
    refine g_sub (lo2 := [(9, 0), (9, 0), (9, 0)]) (lsb_c (lsb_c (lsb_c lsb_e))) ?_
    obtain rfl := Option.some.inj h
    exact k0 d rfl 
set_option maxHeartbeats 4000000 in
theorem ok_Mo_canBe_n2 {p : Program} {l : Launch} {e : Env} {s : State} {m : MethodId} {args : Array Value} {below : List Frame} {meth : Method} {c : Code} {D : va_G} {cA : Nat → ClassId} {ad : Nat → Nat} {A : Nat → Prop} (C : Cx p s m args c prog_14_method_108_code 3 "PollBooksModel" D cA ad 1 A) {Q : State → Prop} {x : (Dt) ⊕ (Dt)} : ∀ (n : Nat) (x1 x2 : Int) (d : Dt), c32 x1 → c32 x2 → lpF (fun q : Int × Int × Dt => L_Mo_canBe_y2 q.1 q.2.1 q.2.2) n (x1, x2, d) = some x → (∀ (e' : Dt), x = (Sum.inl (e')) → G p l e rm_Mo_canBe s m args below meth c 0 0 Q 3 D cA ad 1 A 38 [(9, 0), (9, 0), (9, 0)] [] e') → (∀ (e' : Dt), x = (Sum.inr (e')) → G p l e rm_Mo_canBe s m args below meth c 0 0 Q 3 D cA ad 1 A 30 [(9, 0), (9, 0), (9, 0)] [] e') → G p l e rm_Mo_canBe s m args below meth c 0 0 Q 3 D cA ad 1 A 2 [(2, 0), (0, x1), (0, x2)] [] d := by
  intro n
  induction n with
  | zero => intro x1 x2 d g0 g1 h k0 k1; cases h
  | succ n ih =>
    intro x1 x2 d g0 g1 h k0 k1
    rcases lpF_some h with h | ⟨⟨v0_, v1_, e0_⟩, h1, h⟩
    · exact ok_Mo_canBe_y2 C x1 x2 d g0 g1 h (fun z0_ z1_ e1_ eq w0_ w1_ => by cases eq) (fun e1_ eq => k0 _ (by cases eq; rfl) ) (fun e1_ eq => k1 _ (by cases eq; rfl) )
    · exact ok_Mo_canBe_y2 C x1 x2 d g0 g1 h1 (fun z0_ z1_ e1_ eq w0_ w1_ => by cases eq; exact ih _ _ _ w0_ w1_ h k0 k1) (fun e1_ eq => by cases eq) (fun e1_ eq => by cases eq)
set_option maxHeartbeats 4000000 in
theorem ok_Mo_canBe_l2 {p : Program} {l : Launch} {e : Env} {s : State} {m : MethodId} {args : Array Value} {below : List Frame} {meth : Method} {c : Code} {D : va_G} {cA : Nat → ClassId} {ad : Nat → Nat} {A : Nat → Prop} (C : Cx p s m args c prog_14_method_108_code 3 "PollBooksModel" D cA ad 1 A) {Q : State → Prop} {x : (Dt) ⊕ (Dt)} (x1 x2 : Int) (d : Dt) (hx1 : c32 x1) (hx2 : c32 x2) (h : L_Mo_canBe_l2 x1 x2 d = some x) (k0 : ∀ (e' : Dt), x = (Sum.inl (e')) → G p l e rm_Mo_canBe s m args below meth c 0 0 Q 3 D cA ad 1 A 38 [(9, 0), (9, 0), (9, 0)] [] e') (k1 : ∀ (e' : Dt), x = (Sum.inr (e')) → G p l e rm_Mo_canBe s m args below meth c 0 0 Q 3 D cA ad 1 A 30 [(9, 0), (9, 0), (9, 0)] [] e') : G p l e rm_Mo_canBe s m args below meth c 0 0 Q 3 D cA ad 1 A 2 [(2, 0), (0, x1), (0, x2)] [] d :=
  ok_Mo_canBe_n2 C FU x1 x2 d hx1 hx2 h k0 k1
set_option maxHeartbeats 4000000 in
theorem ok_Mo_canBe {l : Launch} {r : Int} {d' : Dt} (p1 : Int) (d : Dt) (hp1 : c32 p1) (h : L_Mo_canBe p1 d = some (r, d')) : MC l y_Mo_canBe prog_14_method_108_code 3 (some .boolean) rm_Mo_canBe 1 [(2, 0), (0, p1)] d (some (0, r)) d' := by
  refine MC.of (by decide) (Nat.le_of_ble_eq_true rfl) ?_
  intro p e s m args below meth c D cA ad A C hlk hr
  replace C : Cx p s m args c prog_14_method_108_code 3 "PollBooksModel" D cA ad 1 A := C
  show G p l e rm_Mo_canBe s m args below meth c 0 0 (MQ below (fun _ => QC D cA ad 1 A (some .boolean) (some (0, r)) d') args s 0 0 A) 3 D cA ad 1 A 0 [(2, 0), (0, p1)] [] d
  refine g_sub (lo2 := [(2, 0), (0, p1), (9, 0)]) (lsb_v (lsb_v (lsb_n lsb_e))) ?_
  unfold L_Mo_canBe at h
  refine g_iconst C 0 (cK rfl) (by decide +kernel) ?_
  refine s_istore_n C 2 (lo' := [(2, 0), (0, p1), (0, 0)]) (by decide) (s1k (s1n (by decide) s1z)) (by decide +kernel) ?_
  refine g_sub (lo2 := [(2, 0), (0, p1), (0, 0)]) (lsb_v (lsb_v (lsb_v lsb_e))) ?_
  obtain ⟨x7_, hx8_, h⟩ := lb_some h
  refine ok_Mo_canBe_l2 C p1 0 d hp1 (c32_cb (Or.inl rfl)) hx8_ (fun d9_ eq10_ => ?_) (fun d11_ eq12_ => ?_)
  · subst eq10_
    replace h := sml_e h
    replace h := u0_e h
    refine g_iconst C 1 (cK rfl) (by decide +kernel) ?_
    obtain ⟨rfl, rfl⟩ := ret_inj h
    exact g_zret C (Or.inr rfl) hlk hr (by decide +kernel)
  · subst eq12_
    replace h := smr_e h
    replace h := u0_e h
    refine g_iconst C 0 (cK rfl) (by decide +kernel) ?_
    obtain ⟨rfl, rfl⟩ := ret_inj h
    exact g_zret C (Or.inl rfl) hlk hr (by decide +kernel)
/-! PollBooksModel.turns(II)I -/
def y_Mo_turns : MethodName := ⟨"PollBooksModel", "turns", "(II)I"⟩
def rm_Mo_turns : Room := { frames := 7, cells := 0, slots := 0, locals := 178 }
theorem mw_Mo_turns : MW y_Mo_turns prog_14_method_109_code 7 (some .int) 2 := ⟨lk_2202, lk_14, by decide +kernel⟩
def L_Mo_turns_b122 (x1 x2 x3 x4 x5 x6 : Int) (d : Dt) : Option ((Int × Int × Int × Int × Int × Int × Dt) ⊕ ((Int × Int × Int × Int × Dt))) :=
  some (Sum.inl (x1, x2, x3, x4, x5, (w32 (x6 + 1)), d))
def L_Mo_turns_b119 (x1 x2 x3 x4 x5 x6 : Int) (d : Dt) : Option ((Int × Int × Int × Int × Int × Int × Dt) ⊕ ((Int × Int × Int × Int × Dt))) :=
  L_Mo_turns_b122 x1 x2 x3 (w32 (x4 + 1)) x5 x6 d
def L_Mo_turns_b106 (x1 x2 x6 : Int) (d : Dt) : Option ((Int × Int × Int × Int × Int × Int × Dt) ⊕ ((Int × Int × Int × Int × Dt))) :=
  bd (L_Mo_bits x6 d) (fun r2_ d1_ => L_Mo_turns_b119 x1 x2 r2_ 0 x6 x6 d1_)
def L_Mo_turns_b62 (x1 x2 x3 x4 x5 x6 : Int) (d : Dt) : Option ((Int × Int × Int × Int × Int × Int × Dt) ⊕ ((Int × Int × Int × Int × Dt))) :=
  bd (L_Mo_canBe x6 d) (fun r6_ d5_ => if r6_ = 0 then L_Mo_turns_b122 x1 x2 x3 x4 x5 x6 d5_ else bd (L_Mo_countWritten x6 d5_) (fun r11_ d10_ => bd (L_Mo_ahead x1 d10_) (fun r15_ d14_ => if 1 < r15_ then L_Mo_turns_b122 x1 x2 x3 x4 x5 x6 d14_ else if x3 = (-1) then L_Mo_turns_b106 x1 x2 x6 d14_ else bd (L_Mo_bits x6 d14_) (fun r21_ d20_ => if r21_ < x3 then L_Mo_turns_b106 x1 x2 x6 d20_ else L_Mo_turns_b119 x1 x2 x3 x4 x5 x6 d20_))))
def L_Mo_turns_y37 (x1 x2 x3 x4 x5 x6 : Int) (d : Dt) : Option ((Int × Int × Int × Int × Int × Int × Dt) ⊕ ((Int × Int × Int × Int × Dt))) :=
  if x6 < (ishl 1 (d 0 92)) then if x3 = (-1) then L_Mo_turns_b62 x1 x2 x3 x4 x5 x6 d else bd (L_Mo_bits x6 d) (fun r29_ d28_ => if x3 < r29_ then L_Mo_turns_b122 x1 x2 x3 x4 x5 x6 d28_ else L_Mo_turns_b62 x1 x2 x3 x4 x5 x6 d28_) else some (Sum.inr (x2, x3, x4, x5, d))
def L_Mo_turns_l37 (x1 x2 x3 x4 x5 x6 : Int) (d : Dt) : Option ((Int × Int × Int × Int × Dt)) := lpF (fun q : Int × Int × Int × Int × Int × Int × Dt => L_Mo_turns_y37 q.1 q.2.1 q.2.2.1 q.2.2.2.1 q.2.2.2.2.1 q.2.2.2.2.2.1 q.2.2.2.2.2.2) FU (x1, x2, x3, x4, x5, x6, d)
def L_Mo_turns_b16 (d : Dt) : Option (Int × Dt) :=
  bd (L_Mo_refuse 1 d) (fun r34_ d33_ => some (r34_, d33_))
def L_Mo_turns_b161 (s1 : Int) (d : Dt) : Option (Int × Dt) :=
  bd (L_Mo_gives s1 d) (fun r38_ d37_ => some (r38_, d37_))
def L_Mo_turns (p1 p2 : Int) (d : Dt) : Option (Int × Dt) :=
  bd (L_Mo_isCandidate p1 d) (fun r42_ d41_ => if r42_ = 0 then L_Mo_turns_b16 d41_ else if p2 < 0 then L_Mo_turns_b16 d41_ else if 2 < p2 then L_Mo_turns_b16 d41_ else bd (L_Mo_readWritten d41_) (fun r49_ d48_ => lb (L_Mo_turns_l37 p1 p2 (-1) 0 0 0 d48_) (fun q67_ => u4 q67_ (fun v54_ v55_ v56_ v57_ d58_ => if v55_ = (-1) then bd (L_Mo_refuse 6 d58_) (fun r62_ d61_ => some (r62_, d61_)) else if v54_ = 0 then L_Mo_turns_b161 v55_ d58_ else if v54_ = 1 then L_Mo_turns_b161 v56_ d58_ else L_Mo_turns_b161 v57_ d58_))))
set_option maxHeartbeats 4000000 in
theorem ok_Mo_turns_b122 {p : Program} {l : Launch} {e : Env} {s : State} {m : MethodId} {args : Array Value} {below : List Frame} {meth : Method} {c : Code} {D : va_G} {cA : Nat → ClassId} {ad : Nat → Nat} {A : Nat → Prop} (C : Cx p s m args c prog_14_method_109_code 7 "PollBooksModel" D cA ad 1 A) {Q : State → Prop} {o : (Int × Int × Int × Int × Int × Int × Dt) ⊕ ((Int × Int × Int × Int × Dt))} (x1 x2 x3 x4 x5 x6 : Int) (d : Dt) (hx1 : c32 x1) (hx2 : c32 x2) (hx3 : c32 x3) (hx4 : c32 x4) (hx5 : c32 x5) (hx6 : c32 x6) (h : L_Mo_turns_b122 x1 x2 x3 x4 x5 x6 d = some o) (kb : ∀ (y0 y1 y2 y3 y4 y5 : Int) (e' : Dt), o = .inl (y0, y1, y2, y3, y4, y5, e') → c32 y0 → c32 y1 → c32 y2 → c32 y3 → c32 y4 → c32 y5 → G p l e rm_Mo_turns s m args below meth c 0 0 Q 7 D cA ad 1 A 37 [(2, 0), (0, y0), (0, y1), (0, y2), (0, y3), (0, y4), (0, y5)] [] e') (k0 : ∀ (y0 y1 y2 y3 : Int) (e' : Dt), o = .inr (y0, y1, y2, y3, e') → c32 y0 → c32 y1 → c32 y2 → c32 y3 → G p l e rm_Mo_turns s m args below meth c 0 0 Q 7 D cA ad 1 A 128 [(2, 0), (9, 0), (0, y0), (0, y1), (0, y2), (0, y3), (9, 0)] [] e') : G p l e rm_Mo_turns s m args below meth c 0 0 Q 7 D cA ad 1 A 122 [(2, 0), (0, x1), (0, x2), (0, x3), (0, x4), (0, x5), (0, x6)] [] d := by
  unfold L_Mo_turns_b122 at h
  refine s_iinc C 6 1 (lo' := [(2, 0), (0, x1), (0, x2), (0, x3), (0, x4), (0, x5), (0, (w32 (x6 + 1)))]) rfl (by decide) (s1k (s1k (s1k (s1k (s1k (s1n (by decide) s1z)))))) (by decide +kernel) ?_
  refine g_goto C 37 (off := (-88)) (by decide +kernel) (by decide) ?_
  refine g_sub (lo2 := [(2, 0), (0, x1), (0, x2), (0, x3), (0, x4), (0, x5), (0, (w32 (x6 + 1)))]) (lsb_v (lsb_v (lsb_v (lsb_v (lsb_v (lsb_v (lsb_v lsb_e))))))) ?_
  obtain rfl := Option.some.inj h
  exact kb x1 x2 x3 x4 x5 (w32 (x6 + 1)) d rfl hx1 hx2 hx3 hx4 hx5 (w32_c _)
set_option maxHeartbeats 4000000 in
theorem ok_Mo_turns_b119 {p : Program} {l : Launch} {e : Env} {s : State} {m : MethodId} {args : Array Value} {below : List Frame} {meth : Method} {c : Code} {D : va_G} {cA : Nat → ClassId} {ad : Nat → Nat} {A : Nat → Prop} (C : Cx p s m args c prog_14_method_109_code 7 "PollBooksModel" D cA ad 1 A) {Q : State → Prop} {o : (Int × Int × Int × Int × Int × Int × Dt) ⊕ ((Int × Int × Int × Int × Dt))} (x1 x2 x3 x4 x5 x6 : Int) (d : Dt) (hx1 : c32 x1) (hx2 : c32 x2) (hx3 : c32 x3) (hx4 : c32 x4) (hx5 : c32 x5) (hx6 : c32 x6) (h : L_Mo_turns_b119 x1 x2 x3 x4 x5 x6 d = some o) (kb : ∀ (y0 y1 y2 y3 y4 y5 : Int) (e' : Dt), o = .inl (y0, y1, y2, y3, y4, y5, e') → c32 y0 → c32 y1 → c32 y2 → c32 y3 → c32 y4 → c32 y5 → G p l e rm_Mo_turns s m args below meth c 0 0 Q 7 D cA ad 1 A 37 [(2, 0), (0, y0), (0, y1), (0, y2), (0, y3), (0, y4), (0, y5)] [] e') (k0 : ∀ (y0 y1 y2 y3 : Int) (e' : Dt), o = .inr (y0, y1, y2, y3, e') → c32 y0 → c32 y1 → c32 y2 → c32 y3 → G p l e rm_Mo_turns s m args below meth c 0 0 Q 7 D cA ad 1 A 128 [(2, 0), (9, 0), (0, y0), (0, y1), (0, y2), (0, y3), (9, 0)] [] e') : G p l e rm_Mo_turns s m args below meth c 0 0 Q 7 D cA ad 1 A 119 [(2, 0), (0, x1), (0, x2), (0, x3), (0, x4), (0, x5), (0, x6)] [] d := by
  unfold L_Mo_turns_b119 at h
  refine s_iinc C 4 1 (lo' := [(2, 0), (0, x1), (0, x2), (0, x3), (0, (w32 (x4 + 1))), (0, x5), (0, x6)]) rfl (by decide) (s1k (s1k (s1k (s1n (by decide) s1z)))) (by decide +kernel) ?_
  refine g_sub (lo2 := [(2, 0), (0, x1), (0, x2), (0, x3), (0, (w32 (x4 + 1))), (0, x5), (0, x6)]) (lsb_v (lsb_v (lsb_v (lsb_v (lsb_v (lsb_v (lsb_v lsb_e))))))) ?_
  exact ok_Mo_turns_b122 C x1 x2 x3 (w32 (x4 + 1)) x5 x6 d hx1 hx2 hx3 (w32_c _) hx5 hx6 h kb k0
set_option maxHeartbeats 4000000 in
theorem ok_Mo_turns_b106 {p : Program} {l : Launch} {e : Env} {s : State} {m : MethodId} {args : Array Value} {below : List Frame} {meth : Method} {c : Code} {D : va_G} {cA : Nat → ClassId} {ad : Nat → Nat} {A : Nat → Prop} (C : Cx p s m args c prog_14_method_109_code 7 "PollBooksModel" D cA ad 1 A) {Q : State → Prop} {o : (Int × Int × Int × Int × Int × Int × Dt) ⊕ ((Int × Int × Int × Int × Dt))} (x1 x2 x6 : Int) (d : Dt) (hx1 : c32 x1) (hx2 : c32 x2) (hx6 : c32 x6) (h : L_Mo_turns_b106 x1 x2 x6 d = some o) (kb : ∀ (y0 y1 y2 y3 y4 y5 : Int) (e' : Dt), o = .inl (y0, y1, y2, y3, y4, y5, e') → c32 y0 → c32 y1 → c32 y2 → c32 y3 → c32 y4 → c32 y5 → G p l e rm_Mo_turns s m args below meth c 0 0 Q 7 D cA ad 1 A 37 [(2, 0), (0, y0), (0, y1), (0, y2), (0, y3), (0, y4), (0, y5)] [] e') (k0 : ∀ (y0 y1 y2 y3 : Int) (e' : Dt), o = .inr (y0, y1, y2, y3, e') → c32 y0 → c32 y1 → c32 y2 → c32 y3 → G p l e rm_Mo_turns s m args below meth c 0 0 Q 7 D cA ad 1 A 128 [(2, 0), (9, 0), (0, y0), (0, y1), (0, y2), (0, y3), (9, 0)] [] e') : G p l e rm_Mo_turns s m args below meth c 0 0 Q 7 D cA ad 1 A 106 [(2, 0), (0, x1), (0, x2), (9, 0), (9, 0), (9, 0), (0, x6)] [] d := by
  unfold L_Mo_turns_b106 at h
  refine g_iload C 6 rfl (by decide +kernel) ?_
  obtain ⟨r2_, d1_, hr3_, h⟩ := bd_some h
  refine g_callS C mw_Mo_bits [(0, x6)] (ok_Mo_bits x6 d hx6 hr3_) (ix := 567) lk_2152 lk_2153 ⟨rfl, rfl, Nat.le_of_ble_eq_true rfl, Nat.le_of_ble_eq_true rfl⟩ rfl (rest := []) rfl (Nat.le_of_ble_eq_true rfl) ⟨Nat.zero_le _, Nat.zero_le _⟩ (by decide +kernel) (fun _ hc4_ => ?_)
  replace hc4_ : c32 r2_ := hc4_
  refine g_st (st2 := [(0, r2_)]) rfl ?_
  refine s_istore_n C 3 (lo' := [(2, 0), (0, x1), (0, x2), (0, r2_), (9, 0), (9, 0), (0, x6)]) (by decide) (s1k (s1k (s1n (by decide) s1z))) (by decide +kernel) ?_
  refine g_iconst C 0 (cK rfl) (by decide +kernel) ?_
  refine s_istore C 4 (lo' := [(2, 0), (0, x1), (0, x2), (0, r2_), (0, 0), (9, 0), (0, x6)]) (by decide) (s1k (s1k (s1k (s1n (by decide) s1z)))) (by decide +kernel) ?_
  refine g_iload C 6 rfl (by decide +kernel) ?_
  refine s_istore C 5 (lo' := [(2, 0), (0, x1), (0, x2), (0, r2_), (0, 0), (0, x6), (0, x6)]) (by decide) (s1k (s1k (s1k (s1k (s1n (by decide) s1z))))) (by decide +kernel) ?_
  refine g_sub (lo2 := [(2, 0), (0, x1), (0, x2), (0, r2_), (0, 0), (0, x6), (0, x6)]) (lsb_v (lsb_v (lsb_v (lsb_v (lsb_v (lsb_v (lsb_v lsb_e))))))) ?_
  exact ok_Mo_turns_b119 C x1 x2 r2_ 0 x6 x6 d1_ hx1 hx2 hc4_ (c32_cb (Or.inl rfl)) hx6 hx6 h kb k0
set_option maxHeartbeats 4000000 in
theorem ok_Mo_turns_b62 {p : Program} {l : Launch} {e : Env} {s : State} {m : MethodId} {args : Array Value} {below : List Frame} {meth : Method} {c : Code} {D : va_G} {cA : Nat → ClassId} {ad : Nat → Nat} {A : Nat → Prop} (C : Cx p s m args c prog_14_method_109_code 7 "PollBooksModel" D cA ad 1 A) {Q : State → Prop} {o : (Int × Int × Int × Int × Int × Int × Dt) ⊕ ((Int × Int × Int × Int × Dt))} (x1 x2 x3 x4 x5 x6 : Int) (d : Dt) (hx1 : c32 x1) (hx2 : c32 x2) (hx3 : c32 x3) (hx4 : c32 x4) (hx5 : c32 x5) (hx6 : c32 x6) (h : L_Mo_turns_b62 x1 x2 x3 x4 x5 x6 d = some o) (kb : ∀ (y0 y1 y2 y3 y4 y5 : Int) (e' : Dt), o = .inl (y0, y1, y2, y3, y4, y5, e') → c32 y0 → c32 y1 → c32 y2 → c32 y3 → c32 y4 → c32 y5 → G p l e rm_Mo_turns s m args below meth c 0 0 Q 7 D cA ad 1 A 37 [(2, 0), (0, y0), (0, y1), (0, y2), (0, y3), (0, y4), (0, y5)] [] e') (k0 : ∀ (y0 y1 y2 y3 : Int) (e' : Dt), o = .inr (y0, y1, y2, y3, e') → c32 y0 → c32 y1 → c32 y2 → c32 y3 → G p l e rm_Mo_turns s m args below meth c 0 0 Q 7 D cA ad 1 A 128 [(2, 0), (9, 0), (0, y0), (0, y1), (0, y2), (0, y3), (9, 0)] [] e') : G p l e rm_Mo_turns s m args below meth c 0 0 Q 7 D cA ad 1 A 62 [(2, 0), (0, x1), (0, x2), (0, x3), (0, x4), (0, x5), (0, x6)] [] d := by
  unfold L_Mo_turns_b62 at h
  refine g_aload_n C 0 rfl (by decide +kernel) ?_
  refine g_iload C 6 rfl (by decide +kernel) ?_
  obtain ⟨r6_, d5_, hr7_, h⟩ := bd_some h
  refine g_callV C mw_Mo_canBe [(0, x6)] 0 cl12 rfl (ok_Mo_canBe x6 d hx6 hr7_) cd_B0 (by decide) (nB (by decide)) (ix := 596) lk_2203 lk_2205 lkp_110 ⟨rfl, rfl, Nat.le_of_ble_eq_true rfl, Nat.le_of_ble_eq_true rfl⟩ rfl (rest := []) rfl (Nat.le_of_ble_eq_true rfl) ⟨Nat.zero_le _, Nat.zero_le _⟩ (by decide +kernel) (fun _ hc8_ => ?_)
  replace hc8_ : cb r6_ := hc8_
  refine g_st (st2 := [(0, r6_)]) rfl ?_
  refine g_if_ne C (off := 6) (tgt := 74) (c32_cb hc8_) (by decide +kernel) (by decide) (fun hc9_ => ?_) (fun hc9_ => ?_)
  · replace h := ite_t hc9_ h
    refine g_goto C 122 (off := 51) (by decide +kernel) (by decide) ?_
    refine g_sub (lo2 := [(2, 0), (0, x1), (0, x2), (0, x3), (0, x4), (0, x5), (0, x6)]) (lsb_v (lsb_v (lsb_v (lsb_v (lsb_v (lsb_v (lsb_v lsb_e))))))) ?_
    exact ok_Mo_turns_b122 C x1 x2 x3 x4 x5 x6 d5_ hx1 hx2 hx3 hx4 hx5 hx6 h kb k0
  · replace h := ite_f hc9_ h
    refine g_aload_n C 0 rfl (by decide +kernel) ?_
    refine g_iload C 6 rfl (by decide +kernel) ?_
    obtain ⟨r11_, d10_, hr12_, h⟩ := bd_some h
    refine g_callV C mw_Mo_countWritten [(0, x6)] 0 cl12 rfl (ok_Mo_countWritten x6 d5_ hx6 hr12_) cd_B0 (by decide) (nB (by decide)) (ix := 593) lk_2195 lk_2197 lkp_109 ⟨rfl, rfl, Nat.le_of_ble_eq_true rfl, Nat.le_of_ble_eq_true rfl⟩ rfl (rest := []) rfl (Nat.le_of_ble_eq_true rfl) ⟨Nat.zero_le _, Nat.zero_le _⟩ (by decide +kernel) (fun _ hc13_ => ?_)
    refine g_st (st2 := []) rfl ?_
    refine g_aload_n C 0 rfl (by decide +kernel) ?_
    refine g_iload_n C 1 rfl (by decide +kernel) ?_
    obtain ⟨r15_, d14_, hr16_, h⟩ := bd_some h
    refine g_callV C mw_Mo_ahead [(0, x1)] 0 cl12 rfl (ok_Mo_ahead x1 d10_ hx1 hr16_) cd_B0 (by decide) (nB (by decide)) (ix := 584) lk_2175 lk_2177 lkp_107 ⟨rfl, rfl, Nat.le_of_ble_eq_true rfl, Nat.le_of_ble_eq_true rfl⟩ rfl (rest := []) rfl (Nat.le_of_ble_eq_true rfl) ⟨Nat.zero_le _, Nat.zero_le _⟩ (by decide +kernel) (fun _ hc17_ => ?_)
    replace hc17_ : c32 r15_ := hc17_
    refine g_st (st2 := [(0, r15_)]) rfl ?_
    refine g_iconst C 1 (cK rfl) (by decide +kernel) ?_
    refine g_icmp_le C (off := 6) (tgt := 92) hc17_ (c32_cb (Or.inr rfl)) (by decide +kernel) (by decide) (fun hc18_ => ?_) (fun hc18_ => ?_)
    · replace h := ite_t hc18_ h
      refine g_goto C 122 (off := 33) (by decide +kernel) (by decide) ?_
      refine g_sub (lo2 := [(2, 0), (0, x1), (0, x2), (0, x3), (0, x4), (0, x5), (0, x6)]) (lsb_v (lsb_v (lsb_v (lsb_v (lsb_v (lsb_v (lsb_v lsb_e))))))) ?_
      exact ok_Mo_turns_b122 C x1 x2 x3 x4 x5 x6 d14_ hx1 hx2 hx3 hx4 hx5 hx6 h kb k0
    · replace h := ite_f hc18_ h
      refine g_iload_n C 3 rfl (by decide +kernel) ?_
      refine g_iconst C (-1) (cK rfl) (by decide +kernel) ?_
      refine g_icmp_eq C (off := 12) (tgt := 106) hx3 (cK rfl) (by decide +kernel) (by decide) (fun hc19_ => ?_) (fun hc19_ => ?_)
      · replace h := ite_t hc19_ h
        refine g_sub (lo2 := [(2, 0), (0, x1), (0, x2), (9, 0), (9, 0), (9, 0), (0, x6)]) (lsb_v (lsb_v (lsb_v (lsb_c (lsb_c (lsb_c (lsb_v lsb_e))))))) ?_
        exact ok_Mo_turns_b106 C x1 x2 x6 d14_ hx1 hx2 hx6 h kb k0
      · replace h := ite_f hc19_ h
        refine g_iload C 6 rfl (by decide +kernel) ?_
        obtain ⟨r21_, d20_, hr22_, h⟩ := bd_some h
        refine g_callS C mw_Mo_bits [(0, x6)] (ok_Mo_bits x6 d14_ hx6 hr22_) (ix := 567) lk_2152 lk_2153 ⟨rfl, rfl, Nat.le_of_ble_eq_true rfl, Nat.le_of_ble_eq_true rfl⟩ rfl (rest := []) rfl (Nat.le_of_ble_eq_true rfl) ⟨Nat.zero_le _, Nat.zero_le _⟩ (by decide +kernel) (fun _ hc23_ => ?_)
        replace hc23_ : c32 r21_ := hc23_
        refine g_st (st2 := [(0, r21_)]) rfl ?_
        refine g_iload_n C 3 rfl (by decide +kernel) ?_
        refine g_icmp_ge C (off := 16) (tgt := 119) hc23_ hx3 (by decide +kernel) (by decide) (fun hc24_ => ?_) (fun hc24_ => ?_)
        · replace h := ite_t hc24_ h
          refine g_sub (lo2 := [(2, 0), (0, x1), (0, x2), (9, 0), (9, 0), (9, 0), (0, x6)]) (lsb_v (lsb_v (lsb_v (lsb_c (lsb_c (lsb_c (lsb_v lsb_e))))))) ?_
          exact ok_Mo_turns_b106 C x1 x2 x6 d20_ hx1 hx2 hx6 h kb k0
        · replace h := ite_f hc24_ h
          refine g_sub (lo2 := [(2, 0), (0, x1), (0, x2), (0, x3), (0, x4), (0, x5), (0, x6)]) (lsb_v (lsb_v (lsb_v (lsb_v (lsb_v (lsb_v (lsb_v lsb_e))))))) ?_
          exact ok_Mo_turns_b119 C x1 x2 x3 x4 x5 x6 d20_ hx1 hx2 hx3 hx4 hx5 hx6 h kb k0
set_option maxHeartbeats 4000000 in
theorem ok_Mo_turns_y37 {p : Program} {l : Launch} {e : Env} {s : State} {m : MethodId} {args : Array Value} {below : List Frame} {meth : Method} {c : Code} {D : va_G} {cA : Nat → ClassId} {ad : Nat → Nat} {A : Nat → Prop} (C : Cx p s m args c prog_14_method_109_code 7 "PollBooksModel" D cA ad 1 A) {Q : State → Prop} {o : (Int × Int × Int × Int × Int × Int × Dt) ⊕ ((Int × Int × Int × Int × Dt))} (x1 x2 x3 x4 x5 x6 : Int) (d : Dt) (hx1 : c32 x1) (hx2 : c32 x2) (hx3 : c32 x3) (hx4 : c32 x4) (hx5 : c32 x5) (hx6 : c32 x6) (h : L_Mo_turns_y37 x1 x2 x3 x4 x5 x6 d = some o) (kb : ∀ (y0 y1 y2 y3 y4 y5 : Int) (e' : Dt), o = .inl (y0, y1, y2, y3, y4, y5, e') → c32 y0 → c32 y1 → c32 y2 → c32 y3 → c32 y4 → c32 y5 → G p l e rm_Mo_turns s m args below meth c 0 0 Q 7 D cA ad 1 A 37 [(2, 0), (0, y0), (0, y1), (0, y2), (0, y3), (0, y4), (0, y5)] [] e') (k0 : ∀ (y0 y1 y2 y3 : Int) (e' : Dt), o = .inr (y0, y1, y2, y3, e') → c32 y0 → c32 y1 → c32 y2 → c32 y3 → G p l e rm_Mo_turns s m args below meth c 0 0 Q 7 D cA ad 1 A 128 [(2, 0), (9, 0), (0, y0), (0, y1), (0, y2), (0, y3), (9, 0)] [] e') : G p l e rm_Mo_turns s m args below meth c 0 0 Q 7 D cA ad 1 A 37 [(2, 0), (0, x1), (0, x2), (0, x3), (0, x4), (0, x5), (0, x6)] [] d := by
  unfold L_Mo_turns_y37 at h
  refine g_iload C 6 rfl (by decide +kernel) ?_
  refine g_iconst C 1 (cK rfl) (by decide +kernel) ?_
  refine g_aload_n C 0 rfl (by decide +kernel) ?_
  refine g_getI C cl12 0 92 rfl cd_B0 ⟨by decide, rfl, by decide⟩ rfl (nB (by decide)) (ix := 587) lk_1494 (by decide +kernel) (fun hc25_ => ?_)
  refine g_ishl C (by decide +kernel) ?_
  refine g_icmp_ge C (off := 83) (tgt := 128) hx6 (i_c _) (by decide +kernel) (by decide) (fun hc26_ => ?_) (fun hc26_ => ?_)
  · replace h := ite_t hc26_ h
    refine g_iload_n C 3 rfl (by decide +kernel) ?_
    refine g_iconst C (-1) (cK rfl) (by decide +kernel) ?_
    refine g_icmp_eq C (off := 12) (tgt := 62) hx3 (cK rfl) (by decide +kernel) (by decide) (fun hc27_ => ?_) (fun hc27_ => ?_)
    · replace h := ite_t hc27_ h
      refine g_sub (lo2 := [(2, 0), (0, x1), (0, x2), (0, x3), (0, x4), (0, x5), (0, x6)]) (lsb_v (lsb_v (lsb_v (lsb_v (lsb_v (lsb_v (lsb_v lsb_e))))))) ?_
      exact ok_Mo_turns_b62 C x1 x2 x3 x4 x5 x6 d hx1 hx2 hx3 hx4 hx5 hx6 h kb k0
    · replace h := ite_f hc27_ h
      refine g_iload C 6 rfl (by decide +kernel) ?_
      obtain ⟨r29_, d28_, hr30_, h⟩ := bd_some h
      refine g_callS C mw_Mo_bits [(0, x6)] (ok_Mo_bits x6 d hx6 hr30_) (ix := 567) lk_2152 lk_2153 ⟨rfl, rfl, Nat.le_of_ble_eq_true rfl, Nat.le_of_ble_eq_true rfl⟩ rfl (rest := []) rfl (Nat.le_of_ble_eq_true rfl) ⟨Nat.zero_le _, Nat.zero_le _⟩ (by decide +kernel) (fun _ hc31_ => ?_)
      replace hc31_ : c32 r29_ := hc31_
      refine g_st (st2 := [(0, r29_)]) rfl ?_
      refine g_iload_n C 3 rfl (by decide +kernel) ?_
      refine g_icmp_gt C (off := 63) (tgt := 122) hc31_ hx3 (by decide +kernel) (by decide) (fun hc32_ => ?_) (fun hc32_ => ?_)
      · replace h := ite_t hc32_ h
        refine g_sub (lo2 := [(2, 0), (0, x1), (0, x2), (0, x3), (0, x4), (0, x5), (0, x6)]) (lsb_v (lsb_v (lsb_v (lsb_v (lsb_v (lsb_v (lsb_v lsb_e))))))) ?_
        exact ok_Mo_turns_b122 C x1 x2 x3 x4 x5 x6 d28_ hx1 hx2 hx3 hx4 hx5 hx6 h kb k0
      · replace h := ite_f hc32_ h
        refine g_sub (lo2 := [(2, 0), (0, x1), (0, x2), (0, x3), (0, x4), (0, x5), (0, x6)]) (lsb_v (lsb_v (lsb_v (lsb_v (lsb_v (lsb_v (lsb_v lsb_e))))))) ?_
        exact ok_Mo_turns_b62 C x1 x2 x3 x4 x5 x6 d28_ hx1 hx2 hx3 hx4 hx5 hx6 h kb k0
  · replace h := ite_f hc26_ h
    refine g_sub (lo2 := [(2, 0), (9, 0), (0, x2), (0, x3), (0, x4), (0, x5), (9, 0)]) (lsb_v (lsb_c (lsb_v (lsb_v (lsb_v (lsb_v (lsb_c lsb_e))))))) ?_
    obtain rfl := Option.some.inj h
    exact k0 x2 x3 x4 x5 d rfl hx2 hx3 hx4 hx5
set_option maxHeartbeats 4000000 in
theorem ok_Mo_turns_n37 {p : Program} {l : Launch} {e : Env} {s : State} {m : MethodId} {args : Array Value} {below : List Frame} {meth : Method} {c : Code} {D : va_G} {cA : Nat → ClassId} {ad : Nat → Nat} {A : Nat → Prop} (C : Cx p s m args c prog_14_method_109_code 7 "PollBooksModel" D cA ad 1 A) {Q : State → Prop} {x : (Int × Int × Int × Int × Dt)} : ∀ (n : Nat) (x1 x2 x3 x4 x5 x6 : Int) (d : Dt), c32 x1 → c32 x2 → c32 x3 → c32 x4 → c32 x5 → c32 x6 → lpF (fun q : Int × Int × Int × Int × Int × Int × Dt => L_Mo_turns_y37 q.1 q.2.1 q.2.2.1 q.2.2.2.1 q.2.2.2.2.1 q.2.2.2.2.2.1 q.2.2.2.2.2.2) n (x1, x2, x3, x4, x5, x6, d) = some x → (∀ (y0 y1 y2 y3 : Int) (e' : Dt), x = (y0, y1, y2, y3, e') → c32 y0 → c32 y1 → c32 y2 → c32 y3 → G p l e rm_Mo_turns s m args below meth c 0 0 Q 7 D cA ad 1 A 128 [(2, 0), (9, 0), (0, y0), (0, y1), (0, y2), (0, y3), (9, 0)] [] e') → G p l e rm_Mo_turns s m args below meth c 0 0 Q 7 D cA ad 1 A 37 [(2, 0), (0, x1), (0, x2), (0, x3), (0, x4), (0, x5), (0, x6)] [] d := by
  intro n
  induction n with
  | zero => intro x1 x2 x3 x4 x5 x6 d g0 g1 g2 g3 g4 g5 h k0; cases h
  | succ n ih =>
    intro x1 x2 x3 x4 x5 x6 d g0 g1 g2 g3 g4 g5 h k0
    rcases lpF_some h with h | ⟨⟨v0_, v1_, v2_, v3_, v4_, v5_, e0_⟩, h1, h⟩
    · exact ok_Mo_turns_y37 C x1 x2 x3 x4 x5 x6 d g0 g1 g2 g3 g4 g5 h (fun z0_ z1_ z2_ z3_ z4_ z5_ e1_ eq w0_ w1_ w2_ w3_ w4_ w5_ => by cases eq) (fun z0_ z1_ z2_ z3_ e1_ eq w0_ w1_ w2_ w3_ => k0 _ _ _ _ _ (by cases eq; rfl) w0_ w1_ w2_ w3_)
    · exact ok_Mo_turns_y37 C x1 x2 x3 x4 x5 x6 d g0 g1 g2 g3 g4 g5 h1 (fun z0_ z1_ z2_ z3_ z4_ z5_ e1_ eq w0_ w1_ w2_ w3_ w4_ w5_ => by cases eq; exact ih _ _ _ _ _ _ _ w0_ w1_ w2_ w3_ w4_ w5_ h k0) (fun z0_ z1_ z2_ z3_ e1_ eq w0_ w1_ w2_ w3_ => by cases eq)
set_option maxHeartbeats 4000000 in
theorem ok_Mo_turns_l37 {p : Program} {l : Launch} {e : Env} {s : State} {m : MethodId} {args : Array Value} {below : List Frame} {meth : Method} {c : Code} {D : va_G} {cA : Nat → ClassId} {ad : Nat → Nat} {A : Nat → Prop} (C : Cx p s m args c prog_14_method_109_code 7 "PollBooksModel" D cA ad 1 A) {Q : State → Prop} {x : (Int × Int × Int × Int × Dt)} (x1 x2 x3 x4 x5 x6 : Int) (d : Dt) (hx1 : c32 x1) (hx2 : c32 x2) (hx3 : c32 x3) (hx4 : c32 x4) (hx5 : c32 x5) (hx6 : c32 x6) (h : L_Mo_turns_l37 x1 x2 x3 x4 x5 x6 d = some x) (k0 : ∀ (y0 y1 y2 y3 : Int) (e' : Dt), x = (y0, y1, y2, y3, e') → c32 y0 → c32 y1 → c32 y2 → c32 y3 → G p l e rm_Mo_turns s m args below meth c 0 0 Q 7 D cA ad 1 A 128 [(2, 0), (9, 0), (0, y0), (0, y1), (0, y2), (0, y3), (9, 0)] [] e') : G p l e rm_Mo_turns s m args below meth c 0 0 Q 7 D cA ad 1 A 37 [(2, 0), (0, x1), (0, x2), (0, x3), (0, x4), (0, x5), (0, x6)] [] d :=
  ok_Mo_turns_n37 C FU x1 x2 x3 x4 x5 x6 d hx1 hx2 hx3 hx4 hx5 hx6 h k0
set_option maxHeartbeats 4000000 in
theorem ok_Mo_turns_b16 {p : Program} {l : Launch} {e : Env} {s : State} {m : MethodId} {args : Array Value} {below : List Frame} {meth : Method} {c : Code} {D : va_G} {cA : Nat → ClassId} {ad : Nat → Nat} {A : Nat → Prop} (C : Cx p s m args c prog_14_method_109_code 7 "PollBooksModel" D cA ad 1 A) (hlk : meth.locks = false) (hr : meth.sig.returnType = (some .int)) {r : Int} {d' : Dt} (d : Dt)  (h : L_Mo_turns_b16 d = some (r, d')) : G p l e rm_Mo_turns s m args below meth c 0 0 (MQ below (fun _ => QC D cA ad 1 A (some .int) (some (0, r)) d') args s 0 0 A) 7 D cA ad 1 A 16 [(2, 0), (9, 0), (9, 0), (9, 0), (9, 0), (9, 0), (9, 0)] [] d := by
  unfold L_Mo_turns_b16 at h
  refine g_aload_n C 0 rfl (by decide +kernel) ?_
  refine g_iconst C 1 (cK rfl) (by decide +kernel) ?_
  obtain ⟨r34_, d33_, hr35_, h⟩ := bd_some h
  refine g_callV C mw_Mo_refuse [(0, 1)] 0 cl12 rfl (ok_Mo_refuse 1 d (c32_cb (Or.inr rfl)) hr35_) cd_B0 (by decide) (nB (by decide)) (ix := 316) lk_1787 lk_1789 lkp_61 ⟨rfl, rfl, Nat.le_of_ble_eq_true rfl, Nat.le_of_ble_eq_true rfl⟩ rfl (rest := []) rfl (Nat.le_of_ble_eq_true rfl) ⟨Nat.zero_le _, Nat.zero_le _⟩ (by decide +kernel) (fun _ hc36_ => ?_)
  replace hc36_ : c32 r34_ := hc36_
  refine g_st (st2 := [(0, r34_)]) rfl ?_
  obtain ⟨rfl, rfl⟩ := ret_inj h
  exact g_iret C hc36_ hlk hr (by decide +kernel)
set_option maxHeartbeats 4000000 in
theorem ok_Mo_turns_b161 {p : Program} {l : Launch} {e : Env} {s : State} {m : MethodId} {args : Array Value} {below : List Frame} {meth : Method} {c : Code} {D : va_G} {cA : Nat → ClassId} {ad : Nat → Nat} {A : Nat → Prop} (C : Cx p s m args c prog_14_method_109_code 7 "PollBooksModel" D cA ad 1 A) (hlk : meth.locks = false) (hr : meth.sig.returnType = (some .int)) {r : Int} {d' : Dt} (s1 : Int) (d : Dt) (hs1 : c32 s1) (h : L_Mo_turns_b161 s1 d = some (r, d')) : G p l e rm_Mo_turns s m args below meth c 0 0 (MQ below (fun _ => QC D cA ad 1 A (some .int) (some (0, r)) d') args s 0 0 A) 7 D cA ad 1 A 161 [(9, 0), (9, 0), (9, 0), (9, 0), (9, 0), (9, 0), (9, 0)] [(0, s1), (2, 0)] d := by
  unfold L_Mo_turns_b161 at h
  obtain ⟨r38_, d37_, hr39_, h⟩ := bd_some h
  refine g_callV C mw_Mo_gives [(0, s1)] 0 cl12 rfl (ok_Mo_gives s1 d hs1 hr39_) cd_B0 (by decide) (nB (by decide)) (ix := 312) lk_1783 lk_1785 lkp_60 ⟨rfl, rfl, Nat.le_of_ble_eq_true rfl, Nat.le_of_ble_eq_true rfl⟩ rfl (rest := []) rfl (Nat.le_of_ble_eq_true rfl) ⟨Nat.zero_le _, Nat.zero_le _⟩ (by decide +kernel) (fun _ hc40_ => ?_)
  replace hc40_ : c32 r38_ := hc40_
  refine g_st (st2 := [(0, r38_)]) rfl ?_
  obtain ⟨rfl, rfl⟩ := ret_inj h
  exact g_iret C hc40_ hlk hr (by decide +kernel)
set_option maxHeartbeats 4000000 in
theorem ok_Mo_turns {l : Launch} {r : Int} {d' : Dt} (p1 p2 : Int) (d : Dt) (hp1 : c32 p1) (hp2 : c32 p2) (h : L_Mo_turns p1 p2 d = some (r, d')) : MC l y_Mo_turns prog_14_method_109_code 7 (some .int) rm_Mo_turns 1 [(2, 0), (0, p1), (0, p2)] d (some (0, r)) d' := by
  refine MC.of (by decide) (Nat.le_of_ble_eq_true rfl) ?_
  intro p e s m args below meth c D cA ad A C hlk hr
  replace C : Cx p s m args c prog_14_method_109_code 7 "PollBooksModel" D cA ad 1 A := C
  show G p l e rm_Mo_turns s m args below meth c 0 0 (MQ below (fun _ => QC D cA ad 1 A (some .int) (some (0, r)) d') args s 0 0 A) 7 D cA ad 1 A 0 [(2, 0), (0, p1), (0, p2)] [] d
  refine g_sub (lo2 := [(2, 0), (0, p1), (0, p2), (9, 0), (9, 0), (9, 0), (9, 0)]) (lsb_v (lsb_v (lsb_v (lsb_n (lsb_n (lsb_n (lsb_n lsb_e))))))) ?_
  unfold L_Mo_turns at h
  refine g_iload_n C 1 rfl (by decide +kernel) ?_
  obtain ⟨r42_, d41_, hr43_, h⟩ := bd_some h
  refine g_callS C mw_Mo_isCandidate [(0, p1)] (ok_Mo_isCandidate p1 d hp1 hr43_) (ix := 550) lk_2112 lk_2113 ⟨rfl, rfl, Nat.le_of_ble_eq_true rfl, Nat.le_of_ble_eq_true rfl⟩ rfl (rest := []) rfl (Nat.le_of_ble_eq_true rfl) ⟨Nat.zero_le _, Nat.zero_le _⟩ (by decide +kernel) (fun _ hc44_ => ?_)
  replace hc44_ : cb r42_ := hc44_
  refine g_st (st2 := [(0, r42_)]) rfl ?_
  refine g_if_eq C (off := 12) (tgt := 16) (c32_cb hc44_) (by decide +kernel) (by decide) (fun hc45_ => ?_) (fun hc45_ => ?_)
  · replace h := ite_t hc45_ h
    refine g_sub (lo2 := [(2, 0), (9, 0), (9, 0), (9, 0), (9, 0), (9, 0), (9, 0)]) (lsb_v (lsb_c (lsb_c (lsb_c (lsb_c (lsb_c (lsb_c lsb_e))))))) ?_
    exact ok_Mo_turns_b16 C hlk hr d41_  h
  · replace h := ite_f hc45_ h
    refine g_iload_n C 2 rfl (by decide +kernel) ?_
    refine g_if_lt C (off := 8) (tgt := 16) hp2 (by decide +kernel) (by decide) (fun hc46_ => ?_) (fun hc46_ => ?_)
    · replace h := ite_t hc46_ h
      refine g_sub (lo2 := [(2, 0), (9, 0), (9, 0), (9, 0), (9, 0), (9, 0), (9, 0)]) (lsb_v (lsb_c (lsb_c (lsb_c (lsb_c (lsb_c (lsb_c lsb_e))))))) ?_
      exact ok_Mo_turns_b16 C hlk hr d41_  h
    · replace h := ite_f hc46_ h
      refine g_iload_n C 2 rfl (by decide +kernel) ?_
      refine g_iconst C 2 (cK rfl) (by decide +kernel) ?_
      refine g_icmp_le C (off := 9) (tgt := 22) hp2 (cK rfl) (by decide +kernel) (by decide) (fun hc47_ => ?_) (fun hc47_ => ?_)
      · replace h := ite_t hc47_ h
        refine g_sub (lo2 := [(2, 0), (9, 0), (9, 0), (9, 0), (9, 0), (9, 0), (9, 0)]) (lsb_v (lsb_c (lsb_c (lsb_c (lsb_c (lsb_c (lsb_c lsb_e))))))) ?_
        exact ok_Mo_turns_b16 C hlk hr d41_  h
      · replace h := ite_f hc47_ h
        refine g_aload_n C 0 rfl (by decide +kernel) ?_
        obtain ⟨r49_, d48_, hr50_, h⟩ := bd_some h
        refine g_callV C mw_Mo_readWritten [] 0 cl12 rfl (ok_Mo_readWritten  d41_  hr50_) cd_B0 (by decide) (nB (by decide)) (ix := 590) lk_2191 lk_2193 lkp_108 ⟨rfl, rfl, Nat.le_of_ble_eq_true rfl, Nat.le_of_ble_eq_true rfl⟩ rfl (rest := []) rfl (Nat.le_of_ble_eq_true rfl) ⟨Nat.zero_le _, Nat.zero_le _⟩ (by decide +kernel) (fun _ hc51_ => ?_)
        refine g_st (st2 := []) rfl ?_
        refine g_iconst C (-1) (cK rfl) (by decide +kernel) ?_
        refine s_istore_n C 3 (lo' := [(2, 0), (0, p1), (0, p2), (0, (-1)), (9, 0), (9, 0), (9, 0)]) (by decide) (s1k (s1k (s1n (by decide) s1z))) (by decide +kernel) ?_
        refine g_iconst C 0 (cK rfl) (by decide +kernel) ?_
        refine s_istore C 4 (lo' := [(2, 0), (0, p1), (0, p2), (0, (-1)), (0, 0), (9, 0), (9, 0)]) (by decide) (s1k (s1k (s1k (s1n (by decide) s1z)))) (by decide +kernel) ?_
        refine g_iconst C 0 (cK rfl) (by decide +kernel) ?_
        refine s_istore C 5 (lo' := [(2, 0), (0, p1), (0, p2), (0, (-1)), (0, 0), (0, 0), (9, 0)]) (by decide) (s1k (s1k (s1k (s1k (s1n (by decide) s1z))))) (by decide +kernel) ?_
        refine g_iconst C 0 (cK rfl) (by decide +kernel) ?_
        refine s_istore C 6 (lo' := [(2, 0), (0, p1), (0, p2), (0, (-1)), (0, 0), (0, 0), (0, 0)]) (by decide) (s1k (s1k (s1k (s1k (s1k (s1n (by decide) s1z)))))) (by decide +kernel) ?_
        refine g_sub (lo2 := [(2, 0), (0, p1), (0, p2), (0, (-1)), (0, 0), (0, 0), (0, 0)]) (lsb_v (lsb_v (lsb_v (lsb_v (lsb_v (lsb_v (lsb_v lsb_e))))))) ?_
        obtain ⟨x52_, hx53_, h⟩ := lb_some h
        refine ok_Mo_turns_l37 C p1 p2 (-1) 0 0 0 d48_ hp1 hp2 (cK rfl) (c32_cb (Or.inl rfl)) (c32_cb (Or.inl rfl)) (c32_cb (Or.inl rfl)) hx53_ (fun v54_ v55_ v56_ v57_ d58_ eq59_ hv54_ hv55_ hv56_ hv57_ => ?_)
        subst eq59_
        replace h := u4_e h
        refine g_iload_n C 3 rfl (by decide +kernel) ?_
        refine g_iconst C (-1) (cK rfl) (by decide +kernel) ?_
        refine g_icmp_ne C (off := 10) (tgt := 140) hv55_ (cK rfl) (by decide +kernel) (by decide) (fun hc60_ => ?_) (fun hc60_ => ?_)
        · replace h := ite_t hc60_ h
          refine g_aload_n C 0 rfl (by decide +kernel) ?_
          refine g_bipush C 6 (by decide) (by decide +kernel) ?_
          obtain ⟨r62_, d61_, hr63_, h⟩ := bd_some h
          refine g_callV C mw_Mo_refuse [(0, 6)] 0 cl12 rfl (ok_Mo_refuse 6 d58_ (cK rfl) hr63_) cd_B0 (by decide) (nB (by decide)) (ix := 316) lk_1787 lk_1789 lkp_61 ⟨rfl, rfl, Nat.le_of_ble_eq_true rfl, Nat.le_of_ble_eq_true rfl⟩ rfl (rest := []) rfl (Nat.le_of_ble_eq_true rfl) ⟨Nat.zero_le _, Nat.zero_le _⟩ (by decide +kernel) (fun _ hc64_ => ?_)
          replace hc64_ : c32 r62_ := hc64_
          refine g_st (st2 := [(0, r62_)]) rfl ?_
          obtain ⟨rfl, rfl⟩ := ret_inj h
          exact g_iret C hc64_ hlk hr (by decide +kernel)
        · replace h := ite_f hc60_ h
          refine g_aload_n C 0 rfl (by decide +kernel) ?_
          refine g_iload_n C 2 rfl (by decide +kernel) ?_
          refine g_if_ne C (off := 7) (tgt := 149) hv54_ (by decide +kernel) (by decide) (fun hc65_ => ?_) (fun hc65_ => ?_)
          · replace h := ite_t hc65_ h
            refine g_iload_n C 3 rfl (by decide +kernel) ?_
            refine g_goto C 161 (off := 15) (by decide +kernel) (by decide) ?_
            refine g_sub (lo2 := [(9, 0), (9, 0), (9, 0), (9, 0), (9, 0), (9, 0), (9, 0)]) (lsb_c (lsb_c (lsb_c (lsb_c (lsb_c (lsb_c (lsb_c lsb_e))))))) ?_
            exact ok_Mo_turns_b161 C hlk hr v55_ d58_ hv55_ h
          · replace h := ite_f hc65_ h
            refine g_iload_n C 2 rfl (by decide +kernel) ?_
            refine g_iconst C 1 (cK rfl) (by decide +kernel) ?_
            refine g_icmp_ne C (off := 8) (tgt := 159) hv54_ (c32_cb (Or.inr rfl)) (by decide +kernel) (by decide) (fun hc66_ => ?_) (fun hc66_ => ?_)
            · replace h := ite_t hc66_ h
              refine g_iload C 4 rfl (by decide +kernel) ?_
              refine g_goto C 161 (off := 5) (by decide +kernel) (by decide) ?_
              refine g_sub (lo2 := [(9, 0), (9, 0), (9, 0), (9, 0), (9, 0), (9, 0), (9, 0)]) (lsb_c (lsb_c (lsb_c (lsb_c (lsb_c (lsb_c (lsb_c lsb_e))))))) ?_
              exact ok_Mo_turns_b161 C hlk hr v56_ d58_ hv56_ h
            · replace h := ite_f hc66_ h
              refine g_iload C 5 rfl (by decide +kernel) ?_
              refine g_sub (lo2 := [(9, 0), (9, 0), (9, 0), (9, 0), (9, 0), (9, 0), (9, 0)]) (lsb_c (lsb_c (lsb_c (lsb_c (lsb_c (lsb_c (lsb_c lsb_e))))))) ?_
              exact ok_Mo_turns_b161 C hlk hr v57_ d58_ hv57_ h
/-! PollBooksModel.isKin(I)Z -/
def y_Mo_isKin : MethodName := ⟨"PollBooksModel", "isKin", "(I)Z"⟩
def rm_Mo_isKin : Room := { frames := 0, cells := 0, slots := 0, locals := 0 }
theorem mw_Mo_isKin : MW y_Mo_isKin prog_14_method_110_code 1 (some .boolean) 1 := ⟨lk_2213, lk_14, by decide +kernel⟩
def L_Mo_isKin (p1 : Int) (d : Dt) : Option (Int × Dt) :=
  if p1 < 0 then some (0, d) else if 20 < p1 then some (0, d) else some (1, d)
set_option maxHeartbeats 4000000 in
theorem ok_Mo_isKin {l : Launch} {r : Int} {d' : Dt} (p1 : Int) (d : Dt) (hp1 : c32 p1) (h : L_Mo_isKin p1 d = some (r, d')) : MC l y_Mo_isKin prog_14_method_110_code 1 (some .boolean) rm_Mo_isKin 1 [(0, p1)] d (some (0, r)) d' := by
  refine MC.of (by decide) (Nat.le_of_ble_eq_true rfl) ?_
  intro p e s m args below meth c D cA ad A C hlk hr
  replace C : Cx p s m args c prog_14_method_110_code 1 "PollBooksModel" D cA ad 1 A := C
  show G p l e rm_Mo_isKin s m args below meth c 0 0 (MQ below (fun _ => QC D cA ad 1 A (some .boolean) (some (0, r)) d') args s 0 0 A) 1 D cA ad 1 A 0 [(0, p1)] [] d
  refine g_sub (lo2 := [(0, p1)]) (lsb_v lsb_e) ?_
  unfold L_Mo_isKin at h
  refine g_iload_n C 0 rfl (by decide +kernel) ?_
  refine g_if_lt C (off := 13) (tgt := 14) hp1 (by decide +kernel) (by decide) (fun hc1_ => ?_) (fun hc1_ => ?_)
  · replace h := ite_t hc1_ h
    refine g_iconst C 0 (cK rfl) (by decide +kernel) ?_
    obtain ⟨rfl, rfl⟩ := ret_inj h
    exact g_zret C (Or.inl rfl) hlk hr (by decide +kernel)
  · replace h := ite_f hc1_ h
    refine g_iload_n C 0 rfl (by decide +kernel) ?_
    refine g_bipush C 20 (by decide) (by decide +kernel) ?_
    refine g_icmp_gt C (off := 7) (tgt := 14) hp1 (cK rfl) (by decide +kernel) (by decide) (fun hc2_ => ?_) (fun hc2_ => ?_)
    · replace h := ite_t hc2_ h
      refine g_iconst C 0 (cK rfl) (by decide +kernel) ?_
      obtain ⟨rfl, rfl⟩ := ret_inj h
      exact g_zret C (Or.inl rfl) hlk hr (by decide +kernel)
    · replace h := ite_f hc2_ h
      refine g_iconst C 1 (cK rfl) (by decide +kernel) ?_
      refine g_goto C 15 (off := 4) (by decide +kernel) (by decide) ?_
      obtain ⟨rfl, rfl⟩ := ret_inj h
      exact g_zret C (Or.inr rfl) hlk hr (by decide +kernel)
/-! PollBooksModel.member(II)I -/
def y_Mo_member : MethodName := ⟨"PollBooksModel", "member", "(II)I"⟩
def rm_Mo_member : Room := { frames := 1, cells := 0, slots := 0, locals := 21 }
theorem mw_Mo_member : MW y_Mo_member prog_14_method_111_code 3 (some .int) 2 := ⟨lk_2210, lk_14, by decide +kernel⟩
def L_Mo_member_b19 (d : Dt) : Option (Int × Dt) :=
  bd (L_Mo_refuse 1 d) (fun r2_ d1_ => some (r2_, d1_))
def L_Mo_member (p1 p2 : Int) (d : Dt) : Option (Int × Dt) :=
  if p1 < (-9) then L_Mo_member_b19 d else if 9 < p1 then L_Mo_member_b19 d else bd (L_Mo_isKin p2 d) (fun r8_ d7_ => if r8_ = 0 then L_Mo_member_b19 d7_ else if (d7_ 0 99) = 30 then bd (L_Mo_refuse 4 d7_) (fun r15_ d14_ => some (r15_, d14_)) else ck ((0 : Int) ≤ (d7_ 0 99) ∧ (d7_ 0 99) < 30) (ck ((0 : Int) ≤ (d7_ 0 99) ∧ (d7_ 0 99) < 30) (bd (L_Mo_gives (w32 ((w32 ((d7_ 0 99) + 1)) - 1)) (up2 (up2 (up2 d7_ 69 ((d7_ 0 99)).toNat p1) 70 ((d7_ 0 99)).toNat p2) 0 99 (w32 ((d7_ 0 99) + 1)))) (fun r25_ d24_ => some (r25_, d24_)))))
set_option maxHeartbeats 4000000 in
theorem ok_Mo_member_b19 {p : Program} {l : Launch} {e : Env} {s : State} {m : MethodId} {args : Array Value} {below : List Frame} {meth : Method} {c : Code} {D : va_G} {cA : Nat → ClassId} {ad : Nat → Nat} {A : Nat → Prop} (C : Cx p s m args c prog_14_method_111_code 3 "PollBooksModel" D cA ad 1 A) (hlk : meth.locks = false) (hr : meth.sig.returnType = (some .int)) {r : Int} {d' : Dt} (d : Dt)  (h : L_Mo_member_b19 d = some (r, d')) : G p l e rm_Mo_member s m args below meth c 0 0 (MQ below (fun _ => QC D cA ad 1 A (some .int) (some (0, r)) d') args s 0 0 A) 3 D cA ad 1 A 19 [(2, 0), (9, 0), (9, 0)] [] d := by
  unfold L_Mo_member_b19 at h
  refine g_aload_n C 0 rfl (by decide +kernel) ?_
  refine g_iconst C 1 (cK rfl) (by decide +kernel) ?_
  obtain ⟨r2_, d1_, hr3_, h⟩ := bd_some h
  refine g_callV C mw_Mo_refuse [(0, 1)] 0 cl12 rfl (ok_Mo_refuse 1 d (c32_cb (Or.inr rfl)) hr3_) cd_B0 (by decide) (nB (by decide)) (ix := 316) lk_1787 lk_1789 lkp_61 ⟨rfl, rfl, Nat.le_of_ble_eq_true rfl, Nat.le_of_ble_eq_true rfl⟩ rfl (rest := []) rfl (Nat.le_of_ble_eq_true rfl) ⟨Nat.zero_le _, Nat.zero_le _⟩ (by decide +kernel) (fun _ hc4_ => ?_)
  replace hc4_ : c32 r2_ := hc4_
  refine g_st (st2 := [(0, r2_)]) rfl ?_
  obtain ⟨rfl, rfl⟩ := ret_inj h
  exact g_iret C hc4_ hlk hr (by decide +kernel)
set_option maxHeartbeats 4000000 in
theorem ok_Mo_member {l : Launch} {r : Int} {d' : Dt} (p1 p2 : Int) (d : Dt) (hp1 : c32 p1) (hp2 : c32 p2) (h : L_Mo_member p1 p2 d = some (r, d')) : MC l y_Mo_member prog_14_method_111_code 3 (some .int) rm_Mo_member 1 [(2, 0), (0, p1), (0, p2)] d (some (0, r)) d' := by
  refine MC.of (by decide) (Nat.le_of_ble_eq_true rfl) ?_
  intro p e s m args below meth c D cA ad A C hlk hr
  replace C : Cx p s m args c prog_14_method_111_code 3 "PollBooksModel" D cA ad 1 A := C
  show G p l e rm_Mo_member s m args below meth c 0 0 (MQ below (fun _ => QC D cA ad 1 A (some .int) (some (0, r)) d') args s 0 0 A) 3 D cA ad 1 A 0 [(2, 0), (0, p1), (0, p2)] [] d
  refine g_sub (lo2 := [(2, 0), (0, p1), (0, p2)]) (lsb_v (lsb_v (lsb_v lsb_e))) ?_
  unfold L_Mo_member at h
  refine g_iload_n C 1 rfl (by decide +kernel) ?_
  refine g_bipush C (-9) (by decide) (by decide +kernel) ?_
  refine g_icmp_lt C (off := 16) (tgt := 19) hp1 (cK rfl) (by decide +kernel) (by decide) (fun hc5_ => ?_) (fun hc5_ => ?_)
  · replace h := ite_t hc5_ h
    refine g_sub (lo2 := [(2, 0), (9, 0), (9, 0)]) (lsb_v (lsb_c (lsb_c lsb_e))) ?_
    exact ok_Mo_member_b19 C hlk hr d  h
  · replace h := ite_f hc5_ h
    refine g_iload_n C 1 rfl (by decide +kernel) ?_
    refine g_bipush C 9 (by decide) (by decide +kernel) ?_
    refine g_icmp_gt C (off := 10) (tgt := 19) hp1 (cK rfl) (by decide +kernel) (by decide) (fun hc6_ => ?_) (fun hc6_ => ?_)
    · replace h := ite_t hc6_ h
      refine g_sub (lo2 := [(2, 0), (9, 0), (9, 0)]) (lsb_v (lsb_c (lsb_c lsb_e))) ?_
      exact ok_Mo_member_b19 C hlk hr d  h
    · replace h := ite_f hc6_ h
      refine g_iload_n C 2 rfl (by decide +kernel) ?_
      obtain ⟨r8_, d7_, hr9_, h⟩ := bd_some h
      refine g_callS C mw_Mo_isKin [(0, p2)] (ok_Mo_isKin p2 d hp2 hr9_) (ix := 599) lk_2211 lk_2212 ⟨rfl, rfl, Nat.le_of_ble_eq_true rfl, Nat.le_of_ble_eq_true rfl⟩ rfl (rest := []) rfl (Nat.le_of_ble_eq_true rfl) ⟨Nat.zero_le _, Nat.zero_le _⟩ (by decide +kernel) (fun _ hc10_ => ?_)
      replace hc10_ : cb r8_ := hc10_
      refine g_st (st2 := [(0, r8_)]) rfl ?_
      refine g_if_ne C (off := 9) (tgt := 25) (c32_cb hc10_) (by decide +kernel) (by decide) (fun hc11_ => ?_) (fun hc11_ => ?_)
      · replace h := ite_t hc11_ h
        refine g_sub (lo2 := [(2, 0), (9, 0), (9, 0)]) (lsb_v (lsb_c (lsb_c lsb_e))) ?_
        exact ok_Mo_member_b19 C hlk hr d7_  h
      · replace h := ite_f hc11_ h
        refine g_aload_n C 0 rfl (by decide +kernel) ?_
        refine g_getI C cl12 0 99 rfl cd_B0 ⟨by decide, rfl, by decide⟩ rfl (nB (by decide)) (ix := 602) lk_1501 (by decide +kernel) (fun hc12_ => ?_)
        refine g_bipush C 30 (by decide) (by decide +kernel) ?_
        refine g_icmp_ne C (off := 9) (tgt := 40) hc12_ (cK rfl) (by decide +kernel) (by decide) (fun hc13_ => ?_) (fun hc13_ => ?_)
        · replace h := ite_t hc13_ h
          refine g_aload_n C 0 rfl (by decide +kernel) ?_
          refine g_iconst C 4 (cK rfl) (by decide +kernel) ?_
          obtain ⟨r15_, d14_, hr16_, h⟩ := bd_some h
          refine g_callV C mw_Mo_refuse [(0, 4)] 0 cl12 rfl (ok_Mo_refuse 4 d7_ (cK rfl) hr16_) cd_B0 (by decide) (nB (by decide)) (ix := 316) lk_1787 lk_1789 lkp_61 ⟨rfl, rfl, Nat.le_of_ble_eq_true rfl, Nat.le_of_ble_eq_true rfl⟩ rfl (rest := []) rfl (Nat.le_of_ble_eq_true rfl) ⟨Nat.zero_le _, Nat.zero_le _⟩ (by decide +kernel) (fun _ hc17_ => ?_)
          replace hc17_ : c32 r15_ := hc17_
          refine g_st (st2 := [(0, r15_)]) rfl ?_
          obtain ⟨rfl, rfl⟩ := ret_inj h
          exact g_iret C hc17_ hlk hr (by decide +kernel)
        · replace h := ite_f hc13_ h
          refine g_aload_n C 0 rfl (by decide +kernel) ?_
          refine g_getR C cl12 0 93 69 rfl cd_B0 ⟨by decide, rfl, by decide⟩ rfl rfl (nB (by decide)) (ix := 230) lk_1495 (by decide +kernel) ?_
          refine g_aload_n C 0 rfl (by decide +kernel) ?_
          refine g_getI C cl12 0 99 rfl cd_B0 ⟨by decide, rfl, by decide⟩ rfl (nB (by decide)) (ix := 602) lk_1501 (by decide +kernel) (fun hc18_ => ?_)
          refine g_iload_n C 1 rfl (by decide +kernel) ?_
          obtain ⟨hb19_, h⟩ := ck_some h
          refine g_iast C 69 hp1 hc18_ rfl cd_B69 (nB (by decide)) hb19_ (by decide +kernel) ?_
          refine g_aload_n C 0 rfl (by decide +kernel) ?_
          refine g_getR C cl12 0 94 70 rfl cd_B0 ⟨by decide, rfl, by decide⟩ rfl rfl (nB (by decide)) (ix := 233) lk_1496 (by decide +kernel) ?_
          refine g_aload_n C 0 rfl (by decide +kernel) ?_
          refine g_getI C cl12 0 99 rfl cd_B0 ⟨by decide, rfl, by decide⟩ rfl (nB (by decide)) (ix := 602) lk_1501 (by decide +kernel) (fun hc20_ => ?_)
          refine g_val (y := (d7_ 0 99)) rfl ?_
          replace hc20_ : c32 (d7_ 0 99) := hc20_
          refine g_iload_n C 2 rfl (by decide +kernel) ?_
          obtain ⟨hb21_, h⟩ := ck_some h
          refine g_iast C 70 hp2 hc20_ rfl cd_B70 (nB (by decide)) hb21_ (by decide +kernel) ?_
          refine g_aload_n C 0 rfl (by decide +kernel) ?_
          refine g_dup C tg2 (by decide +kernel) ?_
          refine g_getI C cl12 0 99 rfl cd_B0 ⟨by decide, rfl, by decide⟩ rfl (nB (by decide)) (ix := 602) lk_1501 (by decide +kernel) (fun hc22_ => ?_)
          refine g_val (y := (d7_ 0 99)) rfl ?_
          replace hc22_ : c32 (d7_ 0 99) := hc22_
          refine g_iconst C 1 (cK rfl) (by decide +kernel) ?_
          refine g_iadd C (by decide +kernel) ?_
          refine g_putI C cl12 0 99 (w32_c _) rfl cd_B0 ⟨by decide, rfl, by decide⟩ rfl (nB (by decide)) (ix := 602) lk_1501 rfl rfl (by decide +kernel) ?_
          refine g_aload_n C 0 rfl (by decide +kernel) ?_
          refine g_aload_n C 0 rfl (by decide +kernel) ?_
          refine g_getI C cl12 0 99 rfl cd_B0 ⟨by decide, rfl, by decide⟩ rfl (nB (by decide)) (ix := 602) lk_1501 (by decide +kernel) (fun hc23_ => ?_)
          refine g_val (y := (w32 ((d7_ 0 99) + 1))) rfl ?_
          replace hc23_ : c32 (w32 ((d7_ 0 99) + 1)) := hc23_
          refine g_iconst C 1 (cK rfl) (by decide +kernel) ?_
          refine g_isub C (by decide +kernel) ?_
          obtain ⟨r25_, d24_, hr26_, h⟩ := bd_some h
          refine g_callV C mw_Mo_gives [(0, (w32 ((w32 ((d7_ 0 99) + 1)) - 1)))] 0 cl12 rfl (ok_Mo_gives (w32 ((w32 ((d7_ 0 99) + 1)) - 1)) (up2 (up2 (up2 d7_ 69 ((d7_ 0 99)).toNat p1) 70 ((d7_ 0 99)).toNat p2) 0 99 (w32 ((d7_ 0 99) + 1))) (w32_c _) hr26_) cd_B0 (by decide) (nB (by decide)) (ix := 312) lk_1783 lk_1785 lkp_60 ⟨rfl, rfl, Nat.le_of_ble_eq_true rfl, Nat.le_of_ble_eq_true rfl⟩ rfl (rest := []) rfl (Nat.le_of_ble_eq_true rfl) ⟨Nat.zero_le _, Nat.zero_le _⟩ (by decide +kernel) (fun _ hc27_ => ?_)
          replace hc27_ : c32 r25_ := hc27_
          refine g_st (st2 := [(0, r25_)]) rfl ?_
          obtain ⟨rfl, rfl⟩ := ret_inj h
          exact g_iret C hc27_ hlk hr (by decide +kernel)
/-! PollBooksModel.kin(II)Z -/
def y_Mo_kin : MethodName := ⟨"PollBooksModel", "kin", "(II)Z"⟩
def rm_Mo_kin : Room := { frames := 1, cells := 0, slots := 0, locals := 21 }
theorem mw_Mo_kin : MW y_Mo_kin prog_14_method_112_code 3 (some .boolean) 2 := ⟨lk_2217, lk_14, by decide +kernel⟩
def L_Mo_kin_b14 (d : Dt) : Option (Int × Dt) :=
  bd (L_Mo_is 1 d) (fun r2_ d1_ => some (r2_, d1_))
def L_Mo_kin (p1 p2 : Int) (d : Dt) : Option (Int × Dt) :=
  bd (L_Mo_isCandidate p1 d) (fun r6_ d5_ => if r6_ = 0 then L_Mo_kin_b14 d5_ else bd (L_Mo_isKin p2 d5_) (fun r11_ d10_ => if r11_ = 0 then L_Mo_kin_b14 d10_ else ck ((0 : Int) ≤ p1 ∧ p1 < 4) (bd (L_Mo_is 0 (up2 d10_ 71 p1.toNat p2)) (fun r17_ d16_ => some (r17_, d16_)))))
set_option maxHeartbeats 4000000 in
theorem ok_Mo_kin_b14 {p : Program} {l : Launch} {e : Env} {s : State} {m : MethodId} {args : Array Value} {below : List Frame} {meth : Method} {c : Code} {D : va_G} {cA : Nat → ClassId} {ad : Nat → Nat} {A : Nat → Prop} (C : Cx p s m args c prog_14_method_112_code 3 "PollBooksModel" D cA ad 1 A) (hlk : meth.locks = false) (hr : meth.sig.returnType = (some .boolean)) {r : Int} {d' : Dt} (d : Dt)  (h : L_Mo_kin_b14 d = some (r, d')) : G p l e rm_Mo_kin s m args below meth c 0 0 (MQ below (fun _ => QC D cA ad 1 A (some .boolean) (some (0, r)) d') args s 0 0 A) 3 D cA ad 1 A 14 [(2, 0), (9, 0), (9, 0)] [] d := by
  unfold L_Mo_kin_b14 at h
  refine g_aload_n C 0 rfl (by decide +kernel) ?_
  refine g_iconst C 1 (cK rfl) (by decide +kernel) ?_
  obtain ⟨r2_, d1_, hr3_, h⟩ := bd_some h
  refine g_callV C mw_Mo_is [(0, 1)] 0 cl12 rfl (ok_Mo_is 1 d (c32_cb (Or.inr rfl)) hr3_) cd_B0 (by decide) (nB (by decide)) (ix := 276) lk_1741 lk_1743 lkp_57 ⟨rfl, rfl, Nat.le_of_ble_eq_true rfl, Nat.le_of_ble_eq_true rfl⟩ rfl (rest := []) rfl (Nat.le_of_ble_eq_true rfl) ⟨Nat.zero_le _, Nat.zero_le _⟩ (by decide +kernel) (fun _ hc4_ => ?_)
  replace hc4_ : cb r2_ := hc4_
  refine g_st (st2 := [(0, r2_)]) rfl ?_
  obtain ⟨rfl, rfl⟩ := ret_inj h
  exact g_zret C hc4_ hlk hr (by decide +kernel)
set_option maxHeartbeats 4000000 in
theorem ok_Mo_kin {l : Launch} {r : Int} {d' : Dt} (p1 p2 : Int) (d : Dt) (hp1 : c32 p1) (hp2 : c32 p2) (h : L_Mo_kin p1 p2 d = some (r, d')) : MC l y_Mo_kin prog_14_method_112_code 3 (some .boolean) rm_Mo_kin 1 [(2, 0), (0, p1), (0, p2)] d (some (0, r)) d' := by
  refine MC.of (by decide) (Nat.le_of_ble_eq_true rfl) ?_
  intro p e s m args below meth c D cA ad A C hlk hr
  replace C : Cx p s m args c prog_14_method_112_code 3 "PollBooksModel" D cA ad 1 A := C
  show G p l e rm_Mo_kin s m args below meth c 0 0 (MQ below (fun _ => QC D cA ad 1 A (some .boolean) (some (0, r)) d') args s 0 0 A) 3 D cA ad 1 A 0 [(2, 0), (0, p1), (0, p2)] [] d
  refine g_sub (lo2 := [(2, 0), (0, p1), (0, p2)]) (lsb_v (lsb_v (lsb_v lsb_e))) ?_
  unfold L_Mo_kin at h
  refine g_iload_n C 1 rfl (by decide +kernel) ?_
  obtain ⟨r6_, d5_, hr7_, h⟩ := bd_some h
  refine g_callS C mw_Mo_isCandidate [(0, p1)] (ok_Mo_isCandidate p1 d hp1 hr7_) (ix := 550) lk_2112 lk_2113 ⟨rfl, rfl, Nat.le_of_ble_eq_true rfl, Nat.le_of_ble_eq_true rfl⟩ rfl (rest := []) rfl (Nat.le_of_ble_eq_true rfl) ⟨Nat.zero_le _, Nat.zero_le _⟩ (by decide +kernel) (fun _ hc8_ => ?_)
  replace hc8_ : cb r6_ := hc8_
  refine g_st (st2 := [(0, r6_)]) rfl ?_
  refine g_if_eq C (off := 10) (tgt := 14) (c32_cb hc8_) (by decide +kernel) (by decide) (fun hc9_ => ?_) (fun hc9_ => ?_)
  · replace h := ite_t hc9_ h
    refine g_sub (lo2 := [(2, 0), (9, 0), (9, 0)]) (lsb_v (lsb_c (lsb_c lsb_e))) ?_
    exact ok_Mo_kin_b14 C hlk hr d5_  h
  · replace h := ite_f hc9_ h
    refine g_iload_n C 2 rfl (by decide +kernel) ?_
    obtain ⟨r11_, d10_, hr12_, h⟩ := bd_some h
    refine g_callS C mw_Mo_isKin [(0, p2)] (ok_Mo_isKin p2 d5_ hp2 hr12_) (ix := 599) lk_2211 lk_2212 ⟨rfl, rfl, Nat.le_of_ble_eq_true rfl, Nat.le_of_ble_eq_true rfl⟩ rfl (rest := []) rfl (Nat.le_of_ble_eq_true rfl) ⟨Nat.zero_le _, Nat.zero_le _⟩ (by decide +kernel) (fun _ hc13_ => ?_)
    replace hc13_ : cb r11_ := hc13_
    refine g_st (st2 := [(0, r11_)]) rfl ?_
    refine g_if_ne C (off := 9) (tgt := 20) (c32_cb hc13_) (by decide +kernel) (by decide) (fun hc14_ => ?_) (fun hc14_ => ?_)
    · replace h := ite_t hc14_ h
      refine g_sub (lo2 := [(2, 0), (9, 0), (9, 0)]) (lsb_v (lsb_c (lsb_c lsb_e))) ?_
      exact ok_Mo_kin_b14 C hlk hr d10_  h
    · replace h := ite_f hc14_ h
      refine g_aload_n C 0 rfl (by decide +kernel) ?_
      refine g_getR C cl12 0 95 71 rfl cd_B0 ⟨by decide, rfl, by decide⟩ rfl rfl (nB (by decide)) (ix := 236) lk_1497 (by decide +kernel) ?_
      refine g_iload_n C 1 rfl (by decide +kernel) ?_
      refine g_iload_n C 2 rfl (by decide +kernel) ?_
      obtain ⟨hb15_, h⟩ := ck_some h
      refine g_iast C 71 hp2 hp1 rfl cd_B71 (nB (by decide)) hb15_ (by decide +kernel) ?_
      refine g_aload_n C 0 rfl (by decide +kernel) ?_
      refine g_iconst C 0 (cK rfl) (by decide +kernel) ?_
      obtain ⟨r17_, d16_, hr18_, h⟩ := bd_some h
      refine g_callV C mw_Mo_is [(0, 0)] 0 cl12 rfl (ok_Mo_is 0 (up2 d10_ 71 p1.toNat p2) (c32_cb (Or.inl rfl)) hr18_) cd_B0 (by decide) (nB (by decide)) (ix := 276) lk_1741 lk_1743 lkp_57 ⟨rfl, rfl, Nat.le_of_ble_eq_true rfl, Nat.le_of_ble_eq_true rfl⟩ rfl (rest := []) rfl (Nat.le_of_ble_eq_true rfl) ⟨Nat.zero_le _, Nat.zero_le _⟩ (by decide +kernel) (fun _ hc19_ => ?_)
      replace hc19_ : cb r17_ := hc19_
      refine g_st (st2 := [(0, r17_)]) rfl ?_
      obtain ⟨rfl, rfl⟩ := ret_inj h
      exact g_zret C hc19_ hlk hr (by decide +kernel)
/-! PollBooksModel.draw(III)I -/
def y_Mo_draw : MethodName := ⟨"PollBooksModel", "draw", "(III)I"⟩
def rm_Mo_draw : Room := { frames := 1, cells := 0, slots := 0, locals := 21 }
theorem mw_Mo_draw : MW y_Mo_draw prog_14_method_113_code 14 (some .int) 3 := ⟨lk_2221, lk_14, by decide +kernel⟩
def L_Mo_draw_y201 (x1 x2 x4 x5 x7 x9 : Int) (d : Dt) : Option ((Int × Int × Int × Int × Int × Int × Dt) ⊕ ((Int × Int × Int × Int × Int × Dt))) :=
  if (w32 (x9 + 1)) < x4 then ck ((0 : Int) ≤ (w32 (x9 + 1)) ∧ (w32 (x9 + 1)) < 30) (ck ((0 : Int) ≤ x9 ∧ x9 < 30) (some (Sum.inl (x1, x2, x4, x5, x7, (w32 (x9 + 1)), (up2 d 72 x9.toNat (d 72 ((w32 (x9 + 1))).toNat)))))) else some (Sum.inr (x1, x2, x4, x5, x7, d))
def L_Mo_draw_l201 (x1 x2 x4 x5 x7 x9 : Int) (d : Dt) : Option ((Int × Int × Int × Int × Int × Dt)) := lpF (fun q : Int × Int × Int × Int × Int × Int × Dt => L_Mo_draw_y201 q.1 q.2.1 q.2.2.1 q.2.2.2.1 q.2.2.2.2.1 q.2.2.2.2.2.1 q.2.2.2.2.2.2) FU (x1, x2, x4, x5, x7, x9, d)
def L_Mo_draw_y373 (x2 x7 x8 x10 : Int) (d : Dt) : Option ((Int × Int × Int × Int × Dt) ⊕ ((Int × Int × Int × Dt))) :=
  if (w32 (x10 + 1)) < x7 then ck ((0 : Int) ≤ (w32 (x10 + 1)) ∧ (w32 (x10 + 1)) < 30) (ck ((0 : Int) ≤ x10 ∧ x10 < 30) (some (Sum.inl (x2, x7, x8, (w32 (x10 + 1)), (up2 d 73 x10.toNat (d 73 ((w32 (x10 + 1))).toNat)))))) else some (Sum.inr (x2, x7, x8, d))
def L_Mo_draw_l373 (x2 x7 x8 x10 : Int) (d : Dt) : Option ((Int × Int × Int × Dt)) := lpF (fun q : Int × Int × Int × Int × Dt => L_Mo_draw_y373 q.1 q.2.1 q.2.2.1 q.2.2.2.1 q.2.2.2.2) FU (x2, x7, x8, x10, d)
def L_Mo_draw_y148 (x1 x2 x4 x5 x7 : Int) (d : Dt) : Option ((Int × Int × Int × Int × Int × Dt) ⊕ ((Int × Int × Dt))) :=
  if x7 < x1 then lt_ (land (w64 ((w64 (1103515245 * x5)) + 12345)) 2147483647) (fun v10_ => ck (¬ x4 = 0) (lt_ (w32 (lrem (ldiv v10_ 65536) x4)) (fun v14_ => ck ((0 : Int) ≤ v14_ ∧ v14_ < 30) (ck ((0 : Int) ≤ x7 ∧ x7 < 30) (lb (L_Mo_draw_l201 x1 x2 x4 v10_ x7 v14_ (up2 d 73 x7.toNat (d 72 v14_.toNat))) (fun q29_ => u5 q29_ (fun v22_ v23_ v24_ v25_ v26_ d27_ => some (Sum.inl (v22_, v23_, (w32 (v24_ + (-1))), v25_, (w32 (v26_ + 1)), d27_))))))))) else some (Sum.inr (x1, x2, d))
def L_Mo_draw_l148 (x1 x2 x4 x5 x7 : Int) (d : Dt) : Option ((Int × Int × Dt)) := lpF (fun q : Int × Int × Int × Int × Int × Dt => L_Mo_draw_y148 q.1 q.2.1 q.2.2.1 q.2.2.2.1 q.2.2.2.2.1 q.2.2.2.2.2) FU (x1, x2, x4, x5, x7, d)
def L_Mo_draw_b468 (x7 x8 x9 x11 s0 : Int) (d : Dt) : Option ((Int × Int × Int × Int × Int × Dt) ⊕ ((Int × Int × Int × Int × Dt))) :=
  some (Sum.inl (x7, x8, x9, s0, (w32 (x11 + 1)), d))
def L_Mo_draw_y439 (x7 x8 x9 x10 x11 : Int) (d : Dt) : Option ((Int × Int × Int × Int × Int × Dt) ⊕ ((Int × Int × Int × Int × Dt))) :=
  if x11 < x7 then if x10 = 0 then ck ((0 : Int) ≤ x11 ∧ x11 < 30) (if (d 73 x11.toNat) = x9 then L_Mo_draw_b468 x7 x8 x9 x11 1 d else L_Mo_draw_b468 x7 x8 x9 x11 0 d) else L_Mo_draw_b468 x7 x8 x9 x11 1 d else some (Sum.inr (x7, x8, x9, x10, d))
def L_Mo_draw_l439 (x7 x8 x9 x10 x11 : Int) (d : Dt) : Option ((Int × Int × Int × Int × Dt)) := lpF (fun q : Int × Int × Int × Int × Int × Dt => L_Mo_draw_y439 q.1 q.2.1 q.2.2.1 q.2.2.2.1 q.2.2.2.2.1 q.2.2.2.2.2) FU (x7, x8, x9, x10, x11, d)
def L_Mo_draw_b94 (x1 x2 x3 x4 x5 x7 s0 : Int) (d : Dt) : Option ((Int × Int × Int × Int × Int × Int × Int × Dt) ⊕ ((Int × Int × Int × Int × Int × Int × Dt))) :=
  some (Sum.inl (x1, x2, x3, x4, x5, s0, (w32 (x7 + 1)), d))
def L_Mo_draw_y51 (x1 x2 x3 x4 x5 x6 x7 : Int) (d : Dt) : Option ((Int × Int × Int × Int × Int × Int × Int × Dt) ⊕ ((Int × Int × Int × Int × Int × Int × Dt))) :=
  if x7 < 4 then if x6 = 0 then ck ((0 : Int) ≤ x5 ∧ x5 < 30) (if 0 < (d 70 x5.toNat) then ck ((0 : Int) ≤ x5 ∧ x5 < 30) (ck ((0 : Int) ≤ x7 ∧ x7 < 4) (if (d 70 x5.toNat) = (d 71 x7.toNat) then L_Mo_draw_b94 x1 x2 x3 x4 x5 x7 1 d else L_Mo_draw_b94 x1 x2 x3 x4 x5 x7 0 d)) else L_Mo_draw_b94 x1 x2 x3 x4 x5 x7 0 d) else L_Mo_draw_b94 x1 x2 x3 x4 x5 x7 1 d else some (Sum.inr (x1, x2, x3, x4, x5, x6, d))
def L_Mo_draw_l51 (x1 x2 x3 x4 x5 x6 x7 : Int) (d : Dt) : Option ((Int × Int × Int × Int × Int × Int × Dt)) := lpF (fun q : Int × Int × Int × Int × Int × Int × Int × Dt => L_Mo_draw_y51 q.1 q.2.1 q.2.2.1 q.2.2.2.1 q.2.2.2.2.1 q.2.2.2.2.2.1 q.2.2.2.2.2.2.1 q.2.2.2.2.2.2.2) FU (x1, x2, x3, x4, x5, x6, x7, d)
def L_Mo_draw_b517 (x7 x8 x9 : Int) (d : Dt) : Option ((Int × Int × Int × Dt) ⊕ ((Int × Dt))) :=
  some (Sum.inl (x7, x8, (w32 (x9 + 1)), d))
def L_Mo_draw_y424 (x7 x8 x9 : Int) (d : Dt) : Option ((Int × Int × Int × Dt) ⊕ ((Int × Dt))) :=
  if x9 < (d 0 99) then lb (L_Mo_draw_l439 x7 x8 x9 0 0 d) (fun q64_ => u4 q64_ (fun v49_ v50_ v51_ v52_ d53_ => if v52_ = 0 then L_Mo_draw_b517 v49_ v50_ v51_ d53_ else ck ((0 : Int) ≤ (d53_ 0 100) ∧ (d53_ 0 100) < 30) (ck ((0 : Int) ≤ v51_ ∧ v51_ < 30) (lt_ (w32 (v50_ + (d53_ 69 v51_.toNat))) (fun v61_ => L_Mo_draw_b517 v49_ v61_ v51_ (up2 (up2 d53_ 74 ((d53_ 0 100)).toNat v51_) 0 100 (w32 ((d53_ 0 100) + 1)))))))) else some (Sum.inr (x8, d))
def L_Mo_draw_l424 (x7 x8 x9 : Int) (d : Dt) : Option ((Int × Dt)) := lpF (fun q : Int × Int × Int × Dt => L_Mo_draw_y424 q.1 q.2.1 q.2.2.1 q.2.2.2) FU (x7, x8, x9, d)
def L_Mo_draw_b122 (x1 x2 x3 x4 x5 : Int) (d : Dt) : Option ((Int × Int × Int × Int × Int × Dt) ⊕ ((Int × Int × Int × Int × Dt))) :=
  some (Sum.inl (x1, x2, x3, x4, (w32 (x5 + 1)), d))
def L_Mo_draw_y36 (x1 x2 x3 x4 x5 : Int) (d : Dt) : Option ((Int × Int × Int × Int × Int × Dt) ⊕ ((Int × Int × Int × Int × Dt))) :=
  if x5 < (d 0 99) then lb (L_Mo_draw_l51 x1 x2 x3 x4 x5 0 0 d) (fun q79_ => u6 q79_ (fun v69_ v70_ v71_ v72_ v73_ v74_ d75_ => if v74_ = 0 then ck ((0 : Int) ≤ v72_ ∧ v72_ < 30) (L_Mo_draw_b122 v69_ v70_ v71_ (w32 (v72_ + 1)) v73_ (up2 d75_ 72 v72_.toNat v73_)) else L_Mo_draw_b122 v69_ v70_ v71_ v72_ v73_ d75_)) else some (Sum.inr (x1, x2, x3, x4, d))
def L_Mo_draw_l36 (x1 x2 x3 x4 x5 : Int) (d : Dt) : Option ((Int × Int × Int × Int × Dt)) := lpF (fun q : Int × Int × Int × Int × Int × Dt => L_Mo_draw_y36 q.1 q.2.1 q.2.2.1 q.2.2.2.1 q.2.2.2.2.1 q.2.2.2.2.2) FU (x1, x2, x3, x4, x5, d)
def L_Mo_draw_b363 (x2 x7 x8 x9 x10 : Int) (d : Dt) : Option ((Int × Int × Int × Int × Int × Dt) ⊕ ((Int × Int × Int × Int × Dt))) :=
  some (Sum.inl (x2, x7, x8, x9, (w32 (x10 + 1)), d))
def L_Mo_draw_b359 (x2 x7 x8 x10 : Int) (d : Dt) : Option ((Int × Int × Int × Int × Int × Dt) ⊕ ((Int × Int × Int × Int × Dt))) :=
  L_Mo_draw_b363 x2 x7 x8 x10 x10 d
def L_Mo_draw_b328 (x2 x7 x8 x9 x10 x11 x12 s0 : Int) (d : Dt) : Option ((Int × Int × Int × Int × Int × Dt) ⊕ ((Int × Int × Int × Int × Dt))) :=
  if s0 = 0 then if x11 = x12 then ck ((0 : Int) ≤ x10 ∧ x10 < 30) (ck ((0 : Int) ≤ x9 ∧ x9 < 30) (if (d 73 x10.toNat) < (d 73 x9.toNat) then L_Mo_draw_b359 x2 x7 x8 x10 d else L_Mo_draw_b363 x2 x7 x8 x9 x10 d)) else L_Mo_draw_b363 x2 x7 x8 x9 x10 d else L_Mo_draw_b359 x2 x7 x8 x10 d
def L_Mo_draw_y259 (x2 x7 x8 x9 x10 : Int) (d : Dt) : Option ((Int × Int × Int × Int × Int × Dt) ⊕ ((Int × Int × Int × Int × Dt))) :=
  if x10 < x7 then ck ((0 : Int) ≤ x10 ∧ x10 < 30) (ck ((0 : Int) ≤ (d 73 x10.toNat) ∧ (d 73 x10.toNat) < 30) (lt_ (d 69 ((d 73 x10.toNat)).toNat) (fun v92_ => ck ((0 : Int) ≤ x9 ∧ x9 < 30) (ck ((0 : Int) ≤ (d 73 x9.toNat) ∧ (d 73 x9.toNat) < 30) (lt_ (d 69 ((d 73 x9.toNat)).toNat) (fun v99_ => if (irem x8 2) = 0 then if v92_ < v99_ then L_Mo_draw_b328 x2 x7 x8 x9 x10 v92_ v99_ 1 d else L_Mo_draw_b328 x2 x7 x8 x9 x10 v92_ v99_ 0 d else if v99_ < v92_ then L_Mo_draw_b328 x2 x7 x8 x9 x10 v92_ v99_ 1 d else L_Mo_draw_b328 x2 x7 x8 x9 x10 v92_ v99_ 0 d)))))) else some (Sum.inr (x2, x7, x8, x9, d))
def L_Mo_draw_l259 (x2 x7 x8 x9 x10 : Int) (d : Dt) : Option ((Int × Int × Int × Int × Dt)) := lpF (fun q : Int × Int × Int × Int × Int × Dt => L_Mo_draw_y259 q.1 q.2.1 q.2.2.1 q.2.2.2.1 q.2.2.2.2.1 q.2.2.2.2.2) FU (x2, x7, x8, x9, x10, d)
def L_Mo_draw_y247 (x2 x7 x8 : Int) (d : Dt) : Option ((Int × Int × Int × Dt) ⊕ ((Int × Dt))) :=
  if x2 < x7 then lb (L_Mo_draw_l259 x2 x7 x8 0 1 d) (fun q122_ => u4 q122_ (fun v108_ v109_ v110_ v111_ d112_ => lb (L_Mo_draw_l373 v108_ v109_ v110_ v111_ d112_) (fun q121_ => u3 q121_ (fun v116_ v117_ v118_ d119_ => some (Sum.inl (v116_, (w32 (v117_ + (-1))), (w32 (v118_ + 1)), d119_)))))) else some (Sum.inr (x7, d))
def L_Mo_draw_l247 (x2 x7 x8 : Int) (d : Dt) : Option ((Int × Dt)) := lpF (fun q : Int × Int × Int × Dt => L_Mo_draw_y247 q.1 q.2.1 q.2.2.1 q.2.2.2) FU (x2, x7, x8, d)
def L_Mo_draw_b24 (d : Dt) : Option (Int × Dt) :=
  bd (L_Mo_refuse 1 d) (fun r124_ d123_ => some (r124_, d123_))
def L_Mo_draw (p1 p2 p3 : Int) (d : Dt) : Option (Int × Dt) :=
  if p1 < 1 then L_Mo_draw_b24 d else if 30 < p1 then L_Mo_draw_b24 d else if p2 < 0 then L_Mo_draw_b24 d else if p1 < p2 then L_Mo_draw_b24 d else if p3 < 0 then L_Mo_draw_b24 d else lb (L_Mo_draw_l36 p1 p2 p3 0 0 d) (fun q168_ => u4 q168_ (fun v134_ v135_ v136_ v137_ d138_ => if v137_ < v134_ then bd (L_Mo_refuse 6 d138_) (fun r142_ d141_ => some (r142_, d141_)) else lb (L_Mo_draw_l148 v134_ v135_ v137_ v136_ 0 d138_) (fun q167_ => u2 q167_ (fun v147_ v148_ d149_ => lb (L_Mo_draw_l247 v148_ v147_ 0 d149_) (fun q166_ => u1 q166_ (fun v153_ d154_ => lb (L_Mo_draw_l424 v153_ 0 0 (up2 d154_ 0 100 0)) (fun q165_ => u1 q165_ (fun v158_ d159_ => bd (L_Mo_gives v158_ (up2 d159_ 0 101 1)) (fun r162_ d161_ => some (r162_, d161_))))))))))
set_option maxHeartbeats 4000000 in
theorem ok_Mo_draw_y201 {p : Program} {l : Launch} {e : Env} {s : State} {m : MethodId} {args : Array Value} {below : List Frame} {meth : Method} {c : Code} {D : va_G} {cA : Nat → ClassId} {ad : Nat → Nat} {A : Nat → Prop} (C : Cx p s m args c prog_14_method_113_code 14 "PollBooksModel" D cA ad 1 A) {Q : State → Prop} {o : (Int × Int × Int × Int × Int × Int × Dt) ⊕ ((Int × Int × Int × Int × Int × Dt))} (x1 x2 x4 x5 x7 x9 : Int) (d : Dt) (hx1 : c32 x1) (hx2 : c32 x2) (hx4 : c32 x4) (hx5 : c64 x5) (hx7 : c32 x7) (hx9 : c32 x9) (h : L_Mo_draw_y201 x1 x2 x4 x5 x7 x9 d = some o) (kb : ∀ (y0 y1 y2 y3 y4 y5 : Int) (e' : Dt), o = .inl (y0, y1, y2, y3, y4, y5, e') → c32 y0 → c32 y1 → c32 y2 → c64 y3 → c32 y4 → c32 y5 → G p l e rm_Mo_draw s m args below meth c 0 0 Q 14 D cA ad 1 A 201 [(2, 0), (0, y0), (0, y1), (9, 0), (0, y2), (1, y3), (9, 0), (0, y4), (9, 0), (0, y5), (9, 0), (9, 0), (9, 0), (9, 0)] [] e') (k0 : ∀ (y0 y1 y2 y3 y4 : Int) (e' : Dt), o = .inr (y0, y1, y2, y3, y4, e') → c32 y0 → c32 y1 → c32 y2 → c64 y3 → c32 y4 → G p l e rm_Mo_draw s m args below meth c 0 0 Q 14 D cA ad 1 A 232 [(2, 0), (0, y0), (0, y1), (9, 0), (0, y2), (1, y3), (9, 0), (0, y4), (9, 0), (9, 0), (9, 0), (9, 0), (9, 0), (9, 0)] [] e') : G p l e rm_Mo_draw s m args below meth c 0 0 Q 14 D cA ad 1 A 201 [(2, 0), (0, x1), (0, x2), (9, 0), (0, x4), (1, x5), (9, 0), (0, x7), (9, 0), (0, x9), (9, 0), (9, 0), (9, 0), (9, 0)] [] d := by
  unfold L_Mo_draw_y201 at h
  refine g_iload C 9 rfl (by decide +kernel) ?_
  refine g_iconst C 1 (cK rfl) (by decide +kernel) ?_
  refine g_iadd C (by decide +kernel) ?_
  refine g_iload C 4 rfl (by decide +kernel) ?_
  refine g_icmp_ge C (off := 25) (tgt := 232) (w32_c _) hx4 (by decide +kernel) (by decide) (fun hc1_ => ?_) (fun hc1_ => ?_)
  · replace h := ite_t hc1_ h
    refine g_aload_n C 0 rfl (by decide +kernel) ?_
    refine g_getR C cl12 0 96 72 rfl cd_B0 ⟨by decide, rfl, by decide⟩ rfl rfl (nB (by decide)) (ix := 239) lk_1498 (by decide +kernel) ?_
    refine g_iload C 9 rfl (by decide +kernel) ?_
    refine g_aload_n C 0 rfl (by decide +kernel) ?_
    refine g_getR C cl12 0 96 72 rfl cd_B0 ⟨by decide, rfl, by decide⟩ rfl rfl (nB (by decide)) (ix := 239) lk_1498 (by decide +kernel) ?_
    refine g_iload C 9 rfl (by decide +kernel) ?_
    refine g_iconst C 1 (cK rfl) (by decide +kernel) ?_
    refine g_iadd C (by decide +kernel) ?_
    obtain ⟨hb2_, h⟩ := ck_some h
    refine g_iald C 72 (w32_c _) rfl cd_B72 (nB (by decide)) hb2_ (by decide +kernel) (fun hc3_ => ?_)
    obtain ⟨hb4_, h⟩ := ck_some h
    refine g_iast C 72 hc3_ hx9 rfl cd_B72 (nB (by decide)) hb4_ (by decide +kernel) ?_
    refine s_iinc C 9 1 (lo' := [(2, 0), (0, x1), (0, x2), (9, 0), (0, x4), (1, x5), (9, 0), (0, x7), (9, 0), (0, (w32 (x9 + 1))), (9, 0), (9, 0), (9, 0), (9, 0)]) rfl (by decide) (s1k (s1k (s1k (s1k (s1k (s1k (s1k (s1k (s1n (by decide) s1z))))))))) (by decide +kernel) ?_
    refine g_goto C 201 (off := (-28)) (by decide +kernel) (by decide) ?_
    refine g_sub (lo2 := [(2, 0), (0, x1), (0, x2), (9, 0), (0, x4), (1, x5), (9, 0), (0, x7), (9, 0), (0, (w32 (x9 + 1))), (9, 0), (9, 0), (9, 0), (9, 0)]) (lsb_v (lsb_v (lsb_v (lsb_c (lsb_v (lsb_v (lsb_c (lsb_v (lsb_c (lsb_v (lsb_c (lsb_c (lsb_c (lsb_c lsb_e)))))))))))))) ?_
    obtain rfl := Option.some.inj h
    exact kb x1 x2 x4 x5 x7 (w32 (x9 + 1)) (up2 d 72 x9.toNat (d 72 ((w32 (x9 + 1))).toNat)) rfl hx1 hx2 hx4 hx5 hx7 (w32_c _)
  · replace h := ite_f hc1_ h
    refine g_sub (lo2 := [(2, 0), (0, x1), (0, x2), (9, 0), (0, x4), (1, x5), (9, 0), (0, x7), (9, 0), (9, 0), (9, 0), (9, 0), (9, 0), (9, 0)]) (lsb_v (lsb_v (lsb_v (lsb_c (lsb_v (lsb_v (lsb_c (lsb_v (lsb_c (lsb_c (lsb_c (lsb_c (lsb_c (lsb_c lsb_e)))))))))))))) ?_
    obtain rfl := Option.some.inj h
    exact k0 x1 x2 x4 x5 x7 d rfl hx1 hx2 hx4 hx5 hx7
set_option maxHeartbeats 4000000 in
theorem ok_Mo_draw_n201 {p : Program} {l : Launch} {e : Env} {s : State} {m : MethodId} {args : Array Value} {below : List Frame} {meth : Method} {c : Code} {D : va_G} {cA : Nat → ClassId} {ad : Nat → Nat} {A : Nat → Prop} (C : Cx p s m args c prog_14_method_113_code 14 "PollBooksModel" D cA ad 1 A) {Q : State → Prop} {x : (Int × Int × Int × Int × Int × Dt)} : ∀ (n : Nat) (x1 x2 x4 x5 x7 x9 : Int) (d : Dt), c32 x1 → c32 x2 → c32 x4 → c64 x5 → c32 x7 → c32 x9 → lpF (fun q : Int × Int × Int × Int × Int × Int × Dt => L_Mo_draw_y201 q.1 q.2.1 q.2.2.1 q.2.2.2.1 q.2.2.2.2.1 q.2.2.2.2.2.1 q.2.2.2.2.2.2) n (x1, x2, x4, x5, x7, x9, d) = some x → (∀ (y0 y1 y2 y3 y4 : Int) (e' : Dt), x = (y0, y1, y2, y3, y4, e') → c32 y0 → c32 y1 → c32 y2 → c64 y3 → c32 y4 → G p l e rm_Mo_draw s m args below meth c 0 0 Q 14 D cA ad 1 A 232 [(2, 0), (0, y0), (0, y1), (9, 0), (0, y2), (1, y3), (9, 0), (0, y4), (9, 0), (9, 0), (9, 0), (9, 0), (9, 0), (9, 0)] [] e') → G p l e rm_Mo_draw s m args below meth c 0 0 Q 14 D cA ad 1 A 201 [(2, 0), (0, x1), (0, x2), (9, 0), (0, x4), (1, x5), (9, 0), (0, x7), (9, 0), (0, x9), (9, 0), (9, 0), (9, 0), (9, 0)] [] d := by
  intro n
  induction n with
  | zero => intro x1 x2 x4 x5 x7 x9 d g0 g1 g2 g3 g4 g5 h k0; cases h
  | succ n ih =>
    intro x1 x2 x4 x5 x7 x9 d g0 g1 g2 g3 g4 g5 h k0
    rcases lpF_some h with h | ⟨⟨v0_, v1_, v2_, v3_, v4_, v5_, e0_⟩, h1, h⟩
    · exact ok_Mo_draw_y201 C x1 x2 x4 x5 x7 x9 d g0 g1 g2 g3 g4 g5 h (fun z0_ z1_ z2_ z3_ z4_ z5_ e1_ eq w0_ w1_ w2_ w3_ w4_ w5_ => by cases eq) (fun z0_ z1_ z2_ z3_ z4_ e1_ eq w0_ w1_ w2_ w3_ w4_ => k0 _ _ _ _ _ _ (by cases eq; rfl) w0_ w1_ w2_ w3_ w4_)
    · exact ok_Mo_draw_y201 C x1 x2 x4 x5 x7 x9 d g0 g1 g2 g3 g4 g5 h1 (fun z0_ z1_ z2_ z3_ z4_ z5_ e1_ eq w0_ w1_ w2_ w3_ w4_ w5_ => by cases eq; exact ih _ _ _ _ _ _ _ w0_ w1_ w2_ w3_ w4_ w5_ h k0) (fun z0_ z1_ z2_ z3_ z4_ e1_ eq w0_ w1_ w2_ w3_ w4_ => by cases eq)
set_option maxHeartbeats 4000000 in
theorem ok_Mo_draw_l201 {p : Program} {l : Launch} {e : Env} {s : State} {m : MethodId} {args : Array Value} {below : List Frame} {meth : Method} {c : Code} {D : va_G} {cA : Nat → ClassId} {ad : Nat → Nat} {A : Nat → Prop} (C : Cx p s m args c prog_14_method_113_code 14 "PollBooksModel" D cA ad 1 A) {Q : State → Prop} {x : (Int × Int × Int × Int × Int × Dt)} (x1 x2 x4 x5 x7 x9 : Int) (d : Dt) (hx1 : c32 x1) (hx2 : c32 x2) (hx4 : c32 x4) (hx5 : c64 x5) (hx7 : c32 x7) (hx9 : c32 x9) (h : L_Mo_draw_l201 x1 x2 x4 x5 x7 x9 d = some x) (k0 : ∀ (y0 y1 y2 y3 y4 : Int) (e' : Dt), x = (y0, y1, y2, y3, y4, e') → c32 y0 → c32 y1 → c32 y2 → c64 y3 → c32 y4 → G p l e rm_Mo_draw s m args below meth c 0 0 Q 14 D cA ad 1 A 232 [(2, 0), (0, y0), (0, y1), (9, 0), (0, y2), (1, y3), (9, 0), (0, y4), (9, 0), (9, 0), (9, 0), (9, 0), (9, 0), (9, 0)] [] e') : G p l e rm_Mo_draw s m args below meth c 0 0 Q 14 D cA ad 1 A 201 [(2, 0), (0, x1), (0, x2), (9, 0), (0, x4), (1, x5), (9, 0), (0, x7), (9, 0), (0, x9), (9, 0), (9, 0), (9, 0), (9, 0)] [] d :=
  ok_Mo_draw_n201 C FU x1 x2 x4 x5 x7 x9 d hx1 hx2 hx4 hx5 hx7 hx9 h k0
set_option maxHeartbeats 4000000 in
theorem ok_Mo_draw_y373 {p : Program} {l : Launch} {e : Env} {s : State} {m : MethodId} {args : Array Value} {below : List Frame} {meth : Method} {c : Code} {D : va_G} {cA : Nat → ClassId} {ad : Nat → Nat} {A : Nat → Prop} (C : Cx p s m args c prog_14_method_113_code 14 "PollBooksModel" D cA ad 1 A) {Q : State → Prop} {o : (Int × Int × Int × Int × Dt) ⊕ ((Int × Int × Int × Dt))} (x2 x7 x8 x10 : Int) (d : Dt) (hx2 : c32 x2) (hx7 : c32 x7) (hx8 : c32 x8) (hx10 : c32 x10) (h : L_Mo_draw_y373 x2 x7 x8 x10 d = some o) (kb : ∀ (y0 y1 y2 y3 : Int) (e' : Dt), o = .inl (y0, y1, y2, y3, e') → c32 y0 → c32 y1 → c32 y2 → c32 y3 → G p l e rm_Mo_draw s m args below meth c 0 0 Q 14 D cA ad 1 A 373 [(2, 0), (9, 0), (0, y0), (9, 0), (9, 0), (9, 0), (9, 0), (0, y1), (0, y2), (9, 0), (0, y3), (9, 0), (9, 0), (9, 0)] [] e') (k0 : ∀ (y0 y1 y2 : Int) (e' : Dt), o = .inr (y0, y1, y2, e') → c32 y0 → c32 y1 → c32 y2 → G p l e rm_Mo_draw s m args below meth c 0 0 Q 14 D cA ad 1 A 404 [(2, 0), (9, 0), (0, y0), (9, 0), (9, 0), (9, 0), (9, 0), (0, y1), (0, y2), (9, 0), (9, 0), (9, 0), (9, 0), (9, 0)] [] e') : G p l e rm_Mo_draw s m args below meth c 0 0 Q 14 D cA ad 1 A 373 [(2, 0), (9, 0), (0, x2), (9, 0), (9, 0), (9, 0), (9, 0), (0, x7), (0, x8), (9, 0), (0, x10), (9, 0), (9, 0), (9, 0)] [] d := by
  unfold L_Mo_draw_y373 at h
  refine g_iload C 10 rfl (by decide +kernel) ?_
  refine g_iconst C 1 (cK rfl) (by decide +kernel) ?_
  refine g_iadd C (by decide +kernel) ?_
  refine g_iload C 7 rfl (by decide +kernel) ?_
  refine g_icmp_ge C (off := 25) (tgt := 404) (w32_c _) hx7 (by decide +kernel) (by decide) (fun hc5_ => ?_) (fun hc5_ => ?_)
  · replace h := ite_t hc5_ h
    refine g_aload_n C 0 rfl (by decide +kernel) ?_
    refine g_getR C cl12 0 97 73 rfl cd_B0 ⟨by decide, rfl, by decide⟩ rfl rfl (nB (by decide)) (ix := 242) lk_1499 (by decide +kernel) ?_
    refine g_iload C 10 rfl (by decide +kernel) ?_
    refine g_aload_n C 0 rfl (by decide +kernel) ?_
    refine g_getR C cl12 0 97 73 rfl cd_B0 ⟨by decide, rfl, by decide⟩ rfl rfl (nB (by decide)) (ix := 242) lk_1499 (by decide +kernel) ?_
    refine g_iload C 10 rfl (by decide +kernel) ?_
    refine g_iconst C 1 (cK rfl) (by decide +kernel) ?_
    refine g_iadd C (by decide +kernel) ?_
    obtain ⟨hb6_, h⟩ := ck_some h
    refine g_iald C 73 (w32_c _) rfl cd_B73 (nB (by decide)) hb6_ (by decide +kernel) (fun hc7_ => ?_)
    obtain ⟨hb8_, h⟩ := ck_some h
    refine g_iast C 73 hc7_ hx10 rfl cd_B73 (nB (by decide)) hb8_ (by decide +kernel) ?_
    refine s_iinc C 10 1 (lo' := [(2, 0), (9, 0), (0, x2), (9, 0), (9, 0), (9, 0), (9, 0), (0, x7), (0, x8), (9, 0), (0, (w32 (x10 + 1))), (9, 0), (9, 0), (9, 0)]) rfl (by decide) (s1k (s1k (s1k (s1k (s1k (s1k (s1k (s1k (s1k (s1n (by decide) s1z)))))))))) (by decide +kernel) ?_
    refine g_goto C 373 (off := (-28)) (by decide +kernel) (by decide) ?_
    refine g_sub (lo2 := [(2, 0), (9, 0), (0, x2), (9, 0), (9, 0), (9, 0), (9, 0), (0, x7), (0, x8), (9, 0), (0, (w32 (x10 + 1))), (9, 0), (9, 0), (9, 0)]) (lsb_v (lsb_c (lsb_v (lsb_c (lsb_c (lsb_c (lsb_c (lsb_v (lsb_v (lsb_c (lsb_v (lsb_c (lsb_c (lsb_c lsb_e)))))))))))))) ?_
    obtain rfl := Option.some.inj h
    exact kb x2 x7 x8 (w32 (x10 + 1)) (up2 d 73 x10.toNat (d 73 ((w32 (x10 + 1))).toNat)) rfl hx2 hx7 hx8 (w32_c _)
  · replace h := ite_f hc5_ h
    refine g_sub (lo2 := [(2, 0), (9, 0), (0, x2), (9, 0), (9, 0), (9, 0), (9, 0), (0, x7), (0, x8), (9, 0), (9, 0), (9, 0), (9, 0), (9, 0)]) (lsb_v (lsb_c (lsb_v (lsb_c (lsb_c (lsb_c (lsb_c (lsb_v (lsb_v (lsb_c (lsb_c (lsb_c (lsb_c (lsb_c lsb_e)))))))))))))) ?_
    obtain rfl := Option.some.inj h
    exact k0 x2 x7 x8 d rfl hx2 hx7 hx8
set_option maxHeartbeats 4000000 in
theorem ok_Mo_draw_n373 {p : Program} {l : Launch} {e : Env} {s : State} {m : MethodId} {args : Array Value} {below : List Frame} {meth : Method} {c : Code} {D : va_G} {cA : Nat → ClassId} {ad : Nat → Nat} {A : Nat → Prop} (C : Cx p s m args c prog_14_method_113_code 14 "PollBooksModel" D cA ad 1 A) {Q : State → Prop} {x : (Int × Int × Int × Dt)} : ∀ (n : Nat) (x2 x7 x8 x10 : Int) (d : Dt), c32 x2 → c32 x7 → c32 x8 → c32 x10 → lpF (fun q : Int × Int × Int × Int × Dt => L_Mo_draw_y373 q.1 q.2.1 q.2.2.1 q.2.2.2.1 q.2.2.2.2) n (x2, x7, x8, x10, d) = some x → (∀ (y0 y1 y2 : Int) (e' : Dt), x = (y0, y1, y2, e') → c32 y0 → c32 y1 → c32 y2 → G p l e rm_Mo_draw s m args below meth c 0 0 Q 14 D cA ad 1 A 404 [(2, 0), (9, 0), (0, y0), (9, 0), (9, 0), (9, 0), (9, 0), (0, y1), (0, y2), (9, 0), (9, 0), (9, 0), (9, 0), (9, 0)] [] e') → G p l e rm_Mo_draw s m args below meth c 0 0 Q 14 D cA ad 1 A 373 [(2, 0), (9, 0), (0, x2), (9, 0), (9, 0), (9, 0), (9, 0), (0, x7), (0, x8), (9, 0), (0, x10), (9, 0), (9, 0), (9, 0)] [] d := by
  intro n
  induction n with
  | zero => intro x2 x7 x8 x10 d g0 g1 g2 g3 h k0; cases h
  | succ n ih =>
    intro x2 x7 x8 x10 d g0 g1 g2 g3 h k0
    rcases lpF_some h with h | ⟨⟨v0_, v1_, v2_, v3_, e0_⟩, h1, h⟩
    · exact ok_Mo_draw_y373 C x2 x7 x8 x10 d g0 g1 g2 g3 h (fun z0_ z1_ z2_ z3_ e1_ eq w0_ w1_ w2_ w3_ => by cases eq) (fun z0_ z1_ z2_ e1_ eq w0_ w1_ w2_ => k0 _ _ _ _ (by cases eq; rfl) w0_ w1_ w2_)
    · exact ok_Mo_draw_y373 C x2 x7 x8 x10 d g0 g1 g2 g3 h1 (fun z0_ z1_ z2_ z3_ e1_ eq w0_ w1_ w2_ w3_ => by cases eq; exact ih _ _ _ _ _ w0_ w1_ w2_ w3_ h k0) (fun z0_ z1_ z2_ e1_ eq w0_ w1_ w2_ => by cases eq)
set_option maxHeartbeats 4000000 in
theorem ok_Mo_draw_l373 {p : Program} {l : Launch} {e : Env} {s : State} {m : MethodId} {args : Array Value} {below : List Frame} {meth : Method} {c : Code} {D : va_G} {cA : Nat → ClassId} {ad : Nat → Nat} {A : Nat → Prop} (C : Cx p s m args c prog_14_method_113_code 14 "PollBooksModel" D cA ad 1 A) {Q : State → Prop} {x : (Int × Int × Int × Dt)} (x2 x7 x8 x10 : Int) (d : Dt) (hx2 : c32 x2) (hx7 : c32 x7) (hx8 : c32 x8) (hx10 : c32 x10) (h : L_Mo_draw_l373 x2 x7 x8 x10 d = some x) (k0 : ∀ (y0 y1 y2 : Int) (e' : Dt), x = (y0, y1, y2, e') → c32 y0 → c32 y1 → c32 y2 → G p l e rm_Mo_draw s m args below meth c 0 0 Q 14 D cA ad 1 A 404 [(2, 0), (9, 0), (0, y0), (9, 0), (9, 0), (9, 0), (9, 0), (0, y1), (0, y2), (9, 0), (9, 0), (9, 0), (9, 0), (9, 0)] [] e') : G p l e rm_Mo_draw s m args below meth c 0 0 Q 14 D cA ad 1 A 373 [(2, 0), (9, 0), (0, x2), (9, 0), (9, 0), (9, 0), (9, 0), (0, x7), (0, x8), (9, 0), (0, x10), (9, 0), (9, 0), (9, 0)] [] d :=
  ok_Mo_draw_n373 C FU x2 x7 x8 x10 d hx2 hx7 hx8 hx10 h k0
set_option maxHeartbeats 4000000 in
theorem ok_Mo_draw_y148 {p : Program} {l : Launch} {e : Env} {s : State} {m : MethodId} {args : Array Value} {below : List Frame} {meth : Method} {c : Code} {D : va_G} {cA : Nat → ClassId} {ad : Nat → Nat} {A : Nat → Prop} (C : Cx p s m args c prog_14_method_113_code 14 "PollBooksModel" D cA ad 1 A) {Q : State → Prop} {o : (Int × Int × Int × Int × Int × Dt) ⊕ ((Int × Int × Dt))} (x1 x2 x4 x5 x7 : Int) (d : Dt) (hx1 : c32 x1) (hx2 : c32 x2) (hx4 : c32 x4) (hx5 : c64 x5) (hx7 : c32 x7) (h : L_Mo_draw_y148 x1 x2 x4 x5 x7 d = some o) (kb : ∀ (y0 y1 y2 y3 y4 : Int) (e' : Dt), o = .inl (y0, y1, y2, y3, y4, e') → c32 y0 → c32 y1 → c32 y2 → c64 y3 → c32 y4 → G p l e rm_Mo_draw s m args below meth c 0 0 Q 14 D cA ad 1 A 148 [(2, 0), (0, y0), (0, y1), (9, 0), (0, y2), (1, y3), (9, 0), (0, y4), (9, 0), (9, 0), (9, 0), (9, 0), (9, 0), (9, 0)] [] e') (k0 : ∀ (y0 y1 : Int) (e' : Dt), o = .inr (y0, y1, e') → c32 y0 → c32 y1 → G p l e rm_Mo_draw s m args below meth c 0 0 Q 14 D cA ad 1 A 241 [(2, 0), (0, y0), (0, y1), (9, 0), (9, 0), (9, 0), (9, 0), (9, 0), (9, 0), (9, 0), (9, 0), (9, 0), (9, 0), (9, 0)] [] e') : G p l e rm_Mo_draw s m args below meth c 0 0 Q 14 D cA ad 1 A 148 [(2, 0), (0, x1), (0, x2), (9, 0), (0, x4), (1, x5), (9, 0), (0, x7), (9, 0), (9, 0), (9, 0), (9, 0), (9, 0), (9, 0)] [] d := by
  unfold L_Mo_draw_y148 at h
  refine g_iload C 7 rfl (by decide +kernel) ?_
  refine g_iload_n C 1 rfl (by decide +kernel) ?_
  refine g_icmp_ge C (off := 90) (tgt := 241) hx7 hx1 (by decide +kernel) (by decide) (fun hc9_ => ?_) (fun hc9_ => ?_)
  · replace h := ite_t hc9_ h
    refine g_ldc2 C (ix := 605) (v := 1103515245) lk_2222 (by decide +kernel) ?_
    refine g_lload C 5 rfl (by decide +kernel) ?_
    refine g_lmul C (by decide +kernel) ?_
    refine g_ldc2 C (ix := 607) (v := 12345) lk_2223 (by decide +kernel) ?_
    refine g_ladd C (by decide +kernel) ?_
    refine g_ldc2 C (ix := 609) (v := 2147483647) lk_2224 (by decide +kernel) ?_
    refine g_land C (by decide +kernel) ?_
    obtain ⟨v10_, ev11_, h⟩ := lt_some h
    refine g_val ev11_.symm ?_
    have hv12_ : c64 v10_ := by rw [ev11_]; exact (l_c _)
    refine s_lstore C 5 (lo' := [(2, 0), (0, x1), (0, x2), (9, 0), (0, x4), (1, v10_), (9, 0), (0, x7), (9, 0), (9, 0), (9, 0), (9, 0), (9, 0), (9, 0)]) (by decide) (s2k (s2k (s2k (s2k (s2n (by decide) s2z))))) (by decide +kernel) ?_
    refine g_lload C 5 rfl (by decide +kernel) ?_
    refine g_ldc2 C (ix := 611) (v := 65536) lk_2225 (by decide +kernel) ?_
    refine g_ldiv C (cL rfl) (by decide) (by decide +kernel) ?_
    refine g_iload C 4 rfl (by decide +kernel) ?_
    refine g_i2l C hx4 (by decide +kernel) ?_
    obtain ⟨hc13_, h⟩ := ck_some h
    refine g_lrem C (c64_32 hx4) hc13_ (by decide +kernel) ?_
    refine g_l2i C (by decide +kernel) ?_
    obtain ⟨v14_, ev15_, h⟩ := lt_some h
    refine g_val ev15_.symm ?_
    have hv16_ : c32 v14_ := by rw [ev15_]; exact (w32_c _)
    refine s_istore C 8 (lo' := [(2, 0), (0, x1), (0, x2), (9, 0), (0, x4), (1, v10_), (9, 0), (0, x7), (0, v14_), (9, 0), (9, 0), (9, 0), (9, 0), (9, 0)]) (by decide) (s1k (s1k (s1k (s1k (s1k (s1k (s1k (s1n (by decide) s1z)))))))) (by decide +kernel) ?_
    refine g_aload_n C 0 rfl (by decide +kernel) ?_
    refine g_getR C cl12 0 97 73 rfl cd_B0 ⟨by decide, rfl, by decide⟩ rfl rfl (nB (by decide)) (ix := 242) lk_1499 (by decide +kernel) ?_
    refine g_iload C 7 rfl (by decide +kernel) ?_
    refine g_aload_n C 0 rfl (by decide +kernel) ?_
    refine g_getR C cl12 0 96 72 rfl cd_B0 ⟨by decide, rfl, by decide⟩ rfl rfl (nB (by decide)) (ix := 239) lk_1498 (by decide +kernel) ?_
    refine g_iload C 8 rfl (by decide +kernel) ?_
    obtain ⟨hb17_, h⟩ := ck_some h
    refine g_iald C 72 hv16_ rfl cd_B72 (nB (by decide)) hb17_ (by decide +kernel) (fun hc18_ => ?_)
    obtain ⟨hb19_, h⟩ := ck_some h
    refine g_iast C 73 hc18_ hx7 rfl cd_B73 (nB (by decide)) hb19_ (by decide +kernel) ?_
    refine g_iload C 8 rfl (by decide +kernel) ?_
    refine s_istore C 9 (lo' := [(2, 0), (0, x1), (0, x2), (9, 0), (0, x4), (1, v10_), (9, 0), (0, x7), (0, v14_), (0, v14_), (9, 0), (9, 0), (9, 0), (9, 0)]) (by decide) (s1k (s1k (s1k (s1k (s1k (s1k (s1k (s1k (s1n (by decide) s1z))))))))) (by decide +kernel) ?_
    refine g_sub (lo2 := [(2, 0), (0, x1), (0, x2), (9, 0), (0, x4), (1, v10_), (9, 0), (0, x7), (9, 0), (0, v14_), (9, 0), (9, 0), (9, 0), (9, 0)]) (lsb_v (lsb_v (lsb_v (lsb_c (lsb_v (lsb_v (lsb_c (lsb_v (lsb_c (lsb_v (lsb_c (lsb_c (lsb_c (lsb_c lsb_e)))))))))))))) ?_
    obtain ⟨x20_, hx21_, h⟩ := lb_some h
    refine ok_Mo_draw_l201 C x1 x2 x4 v10_ x7 v14_ (up2 d 73 x7.toNat (d 72 v14_.toNat)) hx1 hx2 hx4 hv12_ hx7 hv16_ hx21_ (fun v22_ v23_ v24_ v25_ v26_ d27_ eq28_ hv22_ hv23_ hv24_ hv25_ hv26_ => ?_)
    subst eq28_
    replace h := u5_e h
    refine s_iinc C 4 (-1) (lo' := [(2, 0), (0, v22_), (0, v23_), (9, 0), (0, (w32 (v24_ + (-1)))), (1, v25_), (9, 0), (0, v26_), (9, 0), (9, 0), (9, 0), (9, 0), (9, 0), (9, 0)]) rfl (by decide) (s1k (s1k (s1k (s1n (by decide) s1z)))) (by decide +kernel) ?_
    refine s_iinc C 7 1 (lo' := [(2, 0), (0, v22_), (0, v23_), (9, 0), (0, (w32 (v24_ + (-1)))), (1, v25_), (9, 0), (0, (w32 (v26_ + 1))), (9, 0), (9, 0), (9, 0), (9, 0), (9, 0), (9, 0)]) rfl (by decide) (s1k (s1k (s1k (s1k (s1k (s1k (s1n (by decide) s1z))))))) (by decide +kernel) ?_
    refine g_goto C 148 (off := (-90)) (by decide +kernel) (by decide) ?_
    refine g_sub (lo2 := [(2, 0), (0, v22_), (0, v23_), (9, 0), (0, (w32 (v24_ + (-1)))), (1, v25_), (9, 0), (0, (w32 (v26_ + 1))), (9, 0), (9, 0), (9, 0), (9, 0), (9, 0), (9, 0)]) (lsb_v (lsb_v (lsb_v (lsb_c (lsb_v (lsb_v (lsb_c (lsb_v (lsb_c (lsb_c (lsb_c (lsb_c (lsb_c (lsb_c lsb_e)))))))))))))) ?_
    obtain rfl := Option.some.inj h
    exact kb v22_ v23_ (w32 (v24_ + (-1))) v25_ (w32 (v26_ + 1)) d27_ rfl hv22_ hv23_ (w32_c _) hv25_ (w32_c _)
  · replace h := ite_f hc9_ h
    refine g_sub (lo2 := [(2, 0), (0, x1), (0, x2), (9, 0), (9, 0), (9, 0), (9, 0), (9, 0), (9, 0), (9, 0), (9, 0), (9, 0), (9, 0), (9, 0)]) (lsb_v (lsb_v (lsb_v (lsb_c (lsb_c (lsb_c (lsb_c (lsb_c (lsb_c (lsb_c (lsb_c (lsb_c (lsb_c (lsb_c lsb_e)))))))))))))) ?_
    obtain rfl := Option.some.inj h
    exact k0 x1 x2 d rfl hx1 hx2
set_option maxHeartbeats 4000000 in
theorem ok_Mo_draw_n148 {p : Program} {l : Launch} {e : Env} {s : State} {m : MethodId} {args : Array Value} {below : List Frame} {meth : Method} {c : Code} {D : va_G} {cA : Nat → ClassId} {ad : Nat → Nat} {A : Nat → Prop} (C : Cx p s m args c prog_14_method_113_code 14 "PollBooksModel" D cA ad 1 A) {Q : State → Prop} {x : (Int × Int × Dt)} : ∀ (n : Nat) (x1 x2 x4 x5 x7 : Int) (d : Dt), c32 x1 → c32 x2 → c32 x4 → c64 x5 → c32 x7 → lpF (fun q : Int × Int × Int × Int × Int × Dt => L_Mo_draw_y148 q.1 q.2.1 q.2.2.1 q.2.2.2.1 q.2.2.2.2.1 q.2.2.2.2.2) n (x1, x2, x4, x5, x7, d) = some x → (∀ (y0 y1 : Int) (e' : Dt), x = (y0, y1, e') → c32 y0 → c32 y1 → G p l e rm_Mo_draw s m args below meth c 0 0 Q 14 D cA ad 1 A 241 [(2, 0), (0, y0), (0, y1), (9, 0), (9, 0), (9, 0), (9, 0), (9, 0), (9, 0), (9, 0), (9, 0), (9, 0), (9, 0), (9, 0)] [] e') → G p l e rm_Mo_draw s m args below meth c 0 0 Q 14 D cA ad 1 A 148 [(2, 0), (0, x1), (0, x2), (9, 0), (0, x4), (1, x5), (9, 0), (0, x7), (9, 0), (9, 0), (9, 0), (9, 0), (9, 0), (9, 0)] [] d := by
  intro n
  induction n with
  | zero => intro x1 x2 x4 x5 x7 d g0 g1 g2 g3 g4 h k0; cases h
  | succ n ih =>
    intro x1 x2 x4 x5 x7 d g0 g1 g2 g3 g4 h k0
    rcases lpF_some h with h | ⟨⟨v0_, v1_, v2_, v3_, v4_, e0_⟩, h1, h⟩
    · exact ok_Mo_draw_y148 C x1 x2 x4 x5 x7 d g0 g1 g2 g3 g4 h (fun z0_ z1_ z2_ z3_ z4_ e1_ eq w0_ w1_ w2_ w3_ w4_ => by cases eq) (fun z0_ z1_ e1_ eq w0_ w1_ => k0 _ _ _ (by cases eq; rfl) w0_ w1_)
    · exact ok_Mo_draw_y148 C x1 x2 x4 x5 x7 d g0 g1 g2 g3 g4 h1 (fun z0_ z1_ z2_ z3_ z4_ e1_ eq w0_ w1_ w2_ w3_ w4_ => by cases eq; exact ih _ _ _ _ _ _ w0_ w1_ w2_ w3_ w4_ h k0) (fun z0_ z1_ e1_ eq w0_ w1_ => by cases eq)
set_option maxHeartbeats 4000000 in
theorem ok_Mo_draw_l148 {p : Program} {l : Launch} {e : Env} {s : State} {m : MethodId} {args : Array Value} {below : List Frame} {meth : Method} {c : Code} {D : va_G} {cA : Nat → ClassId} {ad : Nat → Nat} {A : Nat → Prop} (C : Cx p s m args c prog_14_method_113_code 14 "PollBooksModel" D cA ad 1 A) {Q : State → Prop} {x : (Int × Int × Dt)} (x1 x2 x4 x5 x7 : Int) (d : Dt) (hx1 : c32 x1) (hx2 : c32 x2) (hx4 : c32 x4) (hx5 : c64 x5) (hx7 : c32 x7) (h : L_Mo_draw_l148 x1 x2 x4 x5 x7 d = some x) (k0 : ∀ (y0 y1 : Int) (e' : Dt), x = (y0, y1, e') → c32 y0 → c32 y1 → G p l e rm_Mo_draw s m args below meth c 0 0 Q 14 D cA ad 1 A 241 [(2, 0), (0, y0), (0, y1), (9, 0), (9, 0), (9, 0), (9, 0), (9, 0), (9, 0), (9, 0), (9, 0), (9, 0), (9, 0), (9, 0)] [] e') : G p l e rm_Mo_draw s m args below meth c 0 0 Q 14 D cA ad 1 A 148 [(2, 0), (0, x1), (0, x2), (9, 0), (0, x4), (1, x5), (9, 0), (0, x7), (9, 0), (9, 0), (9, 0), (9, 0), (9, 0), (9, 0)] [] d :=
  ok_Mo_draw_n148 C FU x1 x2 x4 x5 x7 d hx1 hx2 hx4 hx5 hx7 h k0
set_option maxHeartbeats 4000000 in
theorem ok_Mo_draw_b468 {p : Program} {l : Launch} {e : Env} {s : State} {m : MethodId} {args : Array Value} {below : List Frame} {meth : Method} {c : Code} {D : va_G} {cA : Nat → ClassId} {ad : Nat → Nat} {A : Nat → Prop} (C : Cx p s m args c prog_14_method_113_code 14 "PollBooksModel" D cA ad 1 A) {Q : State → Prop} {o : (Int × Int × Int × Int × Int × Dt) ⊕ ((Int × Int × Int × Int × Dt))} (x7 x8 x9 x11 s0 : Int) (d : Dt) (hx7 : c32 x7) (hx8 : c32 x8) (hx9 : c32 x9) (hx11 : c32 x11) (hs0 : cb s0) (h : L_Mo_draw_b468 x7 x8 x9 x11 s0 d = some o) (kb : ∀ (y0 y1 y2 y3 y4 : Int) (e' : Dt), o = .inl (y0, y1, y2, y3, y4, e') → c32 y0 → c32 y1 → c32 y2 → cb y3 → c32 y4 → G p l e rm_Mo_draw s m args below meth c 0 0 Q 14 D cA ad 1 A 439 [(2, 0), (9, 0), (9, 0), (9, 0), (9, 0), (9, 0), (9, 0), (0, y0), (0, y1), (0, y2), (0, y3), (0, y4), (9, 0), (9, 0)] [] e') (k0 : ∀ (y0 y1 y2 y3 : Int) (e' : Dt), o = .inr (y0, y1, y2, y3, e') → c32 y0 → c32 y1 → c32 y2 → cb y3 → G p l e rm_Mo_draw s m args below meth c 0 0 Q 14 D cA ad 1 A 476 [(2, 0), (9, 0), (9, 0), (9, 0), (9, 0), (9, 0), (9, 0), (0, y0), (0, y1), (0, y2), (0, y3), (9, 0), (9, 0), (9, 0)] [] e') : G p l e rm_Mo_draw s m args below meth c 0 0 Q 14 D cA ad 1 A 468 [(2, 0), (9, 0), (9, 0), (9, 0), (9, 0), (9, 0), (9, 0), (0, x7), (0, x8), (0, x9), (9, 0), (0, x11), (9, 0), (9, 0)] [(0, s0)] d := by
  unfold L_Mo_draw_b468 at h
  refine s_istore C 10 (lo' := [(2, 0), (9, 0), (9, 0), (9, 0), (9, 0), (9, 0), (9, 0), (0, x7), (0, x8), (0, x9), (0, s0), (0, x11), (9, 0), (9, 0)]) (by decide) (s1k (s1k (s1k (s1k (s1k (s1k (s1k (s1k (s1k (s1n (by decide) s1z)))))))))) (by decide +kernel) ?_
  refine s_iinc C 11 1 (lo' := [(2, 0), (9, 0), (9, 0), (9, 0), (9, 0), (9, 0), (9, 0), (0, x7), (0, x8), (0, x9), (0, s0), (0, (w32 (x11 + 1))), (9, 0), (9, 0)]) rfl (by decide) (s1k (s1k (s1k (s1k (s1k (s1k (s1k (s1k (s1k (s1k (s1n (by decide) s1z))))))))))) (by decide +kernel) ?_
  refine g_goto C 439 (off := (-34)) (by decide +kernel) (by decide) ?_
  refine g_sub (lo2 := [(2, 0), (9, 0), (9, 0), (9, 0), (9, 0), (9, 0), (9, 0), (0, x7), (0, x8), (0, x9), (0, s0), (0, (w32 (x11 + 1))), (9, 0), (9, 0)]) (lsb_v (lsb_c (lsb_c (lsb_c (lsb_c (lsb_c (lsb_c (lsb_v (lsb_v (lsb_v (lsb_v (lsb_v (lsb_c (lsb_c lsb_e)))))))))))))) ?_
  obtain rfl := Option.some.inj h
  exact kb x7 x8 x9 s0 (w32 (x11 + 1)) d rfl hx7 hx8 hx9 hs0 (w32_c _)
set_option maxHeartbeats 4000000 in
theorem ok_Mo_draw_y439 {p : Program} {l : Launch} {e : Env} {s : State} {m : MethodId} {args : Array Value} {below : List Frame} {meth : Method} {c : Code} {D : va_G} {cA : Nat → ClassId} {ad : Nat → Nat} {A : Nat → Prop} (C : Cx p s m args c prog_14_method_113_code 14 "PollBooksModel" D cA ad 1 A) {Q : State → Prop} {o : (Int × Int × Int × Int × Int × Dt) ⊕ ((Int × Int × Int × Int × Dt))} (x7 x8 x9 x10 x11 : Int) (d : Dt) (hx7 : c32 x7) (hx8 : c32 x8) (hx9 : c32 x9) (hx10 : cb x10) (hx11 : c32 x11) (h : L_Mo_draw_y439 x7 x8 x9 x10 x11 d = some o) (kb : ∀ (y0 y1 y2 y3 y4 : Int) (e' : Dt), o = .inl (y0, y1, y2, y3, y4, e') → c32 y0 → c32 y1 → c32 y2 → cb y3 → c32 y4 → G p l e rm_Mo_draw s m args below meth c 0 0 Q 14 D cA ad 1 A 439 [(2, 0), (9, 0), (9, 0), (9, 0), (9, 0), (9, 0), (9, 0), (0, y0), (0, y1), (0, y2), (0, y3), (0, y4), (9, 0), (9, 0)] [] e') (k0 : ∀ (y0 y1 y2 y3 : Int) (e' : Dt), o = .inr (y0, y1, y2, y3, e') → c32 y0 → c32 y1 → c32 y2 → cb y3 → G p l e rm_Mo_draw s m args below meth c 0 0 Q 14 D cA ad 1 A 476 [(2, 0), (9, 0), (9, 0), (9, 0), (9, 0), (9, 0), (9, 0), (0, y0), (0, y1), (0, y2), (0, y3), (9, 0), (9, 0), (9, 0)] [] e') : G p l e rm_Mo_draw s m args below meth c 0 0 Q 14 D cA ad 1 A 439 [(2, 0), (9, 0), (9, 0), (9, 0), (9, 0), (9, 0), (9, 0), (0, x7), (0, x8), (0, x9), (0, x10), (0, x11), (9, 0), (9, 0)] [] d := by
  unfold L_Mo_draw_y439 at h
  refine g_iload C 11 rfl (by decide +kernel) ?_
  refine g_iload C 7 rfl (by decide +kernel) ?_
  refine g_icmp_ge C (off := 33) (tgt := 476) hx11 hx7 (by decide +kernel) (by decide) (fun hc30_ => ?_) (fun hc30_ => ?_)
  · replace h := ite_t hc30_ h
    refine g_iload C 10 rfl (by decide +kernel) ?_
    refine g_if_ne C (off := 15) (tgt := 463) (c32_cb hx10) (by decide +kernel) (by decide) (fun hc31_ => ?_) (fun hc31_ => ?_)
    · replace h := ite_t hc31_ h
      refine g_aload_n C 0 rfl (by decide +kernel) ?_
      refine g_getR C cl12 0 97 73 rfl cd_B0 ⟨by decide, rfl, by decide⟩ rfl rfl (nB (by decide)) (ix := 242) lk_1499 (by decide +kernel) ?_
      refine g_iload C 11 rfl (by decide +kernel) ?_
      obtain ⟨hb32_, h⟩ := ck_some h
      refine g_iald C 73 hx11 rfl cd_B73 (nB (by decide)) hb32_ (by decide +kernel) (fun hc33_ => ?_)
      refine g_iload C 9 rfl (by decide +kernel) ?_
      refine g_icmp_ne C (off := 7) (tgt := 467) hc33_ hx9 (by decide +kernel) (by decide) (fun hc34_ => ?_) (fun hc34_ => ?_)
      · replace h := ite_t hc34_ h
        refine g_iconst C 1 (cK rfl) (by decide +kernel) ?_
        refine g_goto C 468 (off := 4) (by decide +kernel) (by decide) ?_
        refine g_sub (lo2 := [(2, 0), (9, 0), (9, 0), (9, 0), (9, 0), (9, 0), (9, 0), (0, x7), (0, x8), (0, x9), (9, 0), (0, x11), (9, 0), (9, 0)]) (lsb_v (lsb_c (lsb_c (lsb_c (lsb_c (lsb_c (lsb_c (lsb_v (lsb_v (lsb_v (lsb_c (lsb_v (lsb_c (lsb_c lsb_e)))))))))))))) ?_
        exact ok_Mo_draw_b468 C x7 x8 x9 x11 1 d hx7 hx8 hx9 hx11 (Or.inr rfl) h kb k0
      · replace h := ite_f hc34_ h
        refine g_iconst C 0 (cK rfl) (by decide +kernel) ?_
        refine g_sub (lo2 := [(2, 0), (9, 0), (9, 0), (9, 0), (9, 0), (9, 0), (9, 0), (0, x7), (0, x8), (0, x9), (9, 0), (0, x11), (9, 0), (9, 0)]) (lsb_v (lsb_c (lsb_c (lsb_c (lsb_c (lsb_c (lsb_c (lsb_v (lsb_v (lsb_v (lsb_c (lsb_v (lsb_c (lsb_c lsb_e)))))))))))))) ?_
        exact ok_Mo_draw_b468 C x7 x8 x9 x11 0 d hx7 hx8 hx9 hx11 (Or.inl rfl) h kb k0
    · replace h := ite_f hc31_ h
      refine g_iconst C 1 (cK rfl) (by decide +kernel) ?_
      refine g_goto C 468 (off := 4) (by decide +kernel) (by decide) ?_
      refine g_sub (lo2 := [(2, 0), (9, 0), (9, 0), (9, 0), (9, 0), (9, 0), (9, 0), (0, x7), (0, x8), (0, x9), (9, 0), (0, x11), (9, 0), (9, 0)]) (lsb_v (lsb_c (lsb_c (lsb_c (lsb_c (lsb_c (lsb_c (lsb_v (lsb_v (lsb_v (lsb_c (lsb_v (lsb_c (lsb_c lsb_e)))))))))))))) ?_
      exact ok_Mo_draw_b468 C x7 x8 x9 x11 1 d hx7 hx8 hx9 hx11 (Or.inr rfl) h kb k0
  · replace h := ite_f hc30_ h
    refine g_sub (lo2 := [(2, 0), (9, 0), (9, 0), (9, 0), (9, 0), (9, 0), (9, 0), (0, x7), (0, x8), (0, x9), (0, x10), (9, 0), (9, 0), (9, 0)]) (lsb_v (lsb_c (lsb_c (lsb_c (lsb_c (lsb_c (lsb_c (lsb_v (lsb_v (lsb_v (lsb_v (lsb_c (lsb_c (lsb_c lsb_e)))))))))))))) ?_
    obtain rfl := Option.some.inj h
    exact k0 x7 x8 x9 x10 d rfl hx7 hx8 hx9 hx10
set_option maxHeartbeats 4000000 in
theorem ok_Mo_draw_n439 {p : Program} {l : Launch} {e : Env} {s : State} {m : MethodId} {args : Array Value} {below : List Frame} {meth : Method} {c : Code} {D : va_G} {cA : Nat → ClassId} {ad : Nat → Nat} {A : Nat → Prop} (C : Cx p s m args c prog_14_method_113_code 14 "PollBooksModel" D cA ad 1 A) {Q : State → Prop} {x : (Int × Int × Int × Int × Dt)} : ∀ (n : Nat) (x7 x8 x9 x10 x11 : Int) (d : Dt), c32 x7 → c32 x8 → c32 x9 → cb x10 → c32 x11 → lpF (fun q : Int × Int × Int × Int × Int × Dt => L_Mo_draw_y439 q.1 q.2.1 q.2.2.1 q.2.2.2.1 q.2.2.2.2.1 q.2.2.2.2.2) n (x7, x8, x9, x10, x11, d) = some x → (∀ (y0 y1 y2 y3 : Int) (e' : Dt), x = (y0, y1, y2, y3, e') → c32 y0 → c32 y1 → c32 y2 → cb y3 → G p l e rm_Mo_draw s m args below meth c 0 0 Q 14 D cA ad 1 A 476 [(2, 0), (9, 0), (9, 0), (9, 0), (9, 0), (9, 0), (9, 0), (0, y0), (0, y1), (0, y2), (0, y3), (9, 0), (9, 0), (9, 0)] [] e') → G p l e rm_Mo_draw s m args below meth c 0 0 Q 14 D cA ad 1 A 439 [(2, 0), (9, 0), (9, 0), (9, 0), (9, 0), (9, 0), (9, 0), (0, x7), (0, x8), (0, x9), (0, x10), (0, x11), (9, 0), (9, 0)] [] d := by
  intro n
  induction n with
  | zero => intro x7 x8 x9 x10 x11 d g0 g1 g2 g3 g4 h k0; cases h
  | succ n ih =>
    intro x7 x8 x9 x10 x11 d g0 g1 g2 g3 g4 h k0
    rcases lpF_some h with h | ⟨⟨v0_, v1_, v2_, v3_, v4_, e0_⟩, h1, h⟩
    · exact ok_Mo_draw_y439 C x7 x8 x9 x10 x11 d g0 g1 g2 g3 g4 h (fun z0_ z1_ z2_ z3_ z4_ e1_ eq w0_ w1_ w2_ w3_ w4_ => by cases eq) (fun z0_ z1_ z2_ z3_ e1_ eq w0_ w1_ w2_ w3_ => k0 _ _ _ _ _ (by cases eq; rfl) w0_ w1_ w2_ w3_)
    · exact ok_Mo_draw_y439 C x7 x8 x9 x10 x11 d g0 g1 g2 g3 g4 h1 (fun z0_ z1_ z2_ z3_ z4_ e1_ eq w0_ w1_ w2_ w3_ w4_ => by cases eq; exact ih _ _ _ _ _ _ w0_ w1_ w2_ w3_ w4_ h k0) (fun z0_ z1_ z2_ z3_ e1_ eq w0_ w1_ w2_ w3_ => by cases eq)
set_option maxHeartbeats 4000000 in
theorem ok_Mo_draw_l439 {p : Program} {l : Launch} {e : Env} {s : State} {m : MethodId} {args : Array Value} {below : List Frame} {meth : Method} {c : Code} {D : va_G} {cA : Nat → ClassId} {ad : Nat → Nat} {A : Nat → Prop} (C : Cx p s m args c prog_14_method_113_code 14 "PollBooksModel" D cA ad 1 A) {Q : State → Prop} {x : (Int × Int × Int × Int × Dt)} (x7 x8 x9 x10 x11 : Int) (d : Dt) (hx7 : c32 x7) (hx8 : c32 x8) (hx9 : c32 x9) (hx10 : cb x10) (hx11 : c32 x11) (h : L_Mo_draw_l439 x7 x8 x9 x10 x11 d = some x) (k0 : ∀ (y0 y1 y2 y3 : Int) (e' : Dt), x = (y0, y1, y2, y3, e') → c32 y0 → c32 y1 → c32 y2 → cb y3 → G p l e rm_Mo_draw s m args below meth c 0 0 Q 14 D cA ad 1 A 476 [(2, 0), (9, 0), (9, 0), (9, 0), (9, 0), (9, 0), (9, 0), (0, y0), (0, y1), (0, y2), (0, y3), (9, 0), (9, 0), (9, 0)] [] e') : G p l e rm_Mo_draw s m args below meth c 0 0 Q 14 D cA ad 1 A 439 [(2, 0), (9, 0), (9, 0), (9, 0), (9, 0), (9, 0), (9, 0), (0, x7), (0, x8), (0, x9), (0, x10), (0, x11), (9, 0), (9, 0)] [] d :=
  ok_Mo_draw_n439 C FU x7 x8 x9 x10 x11 d hx7 hx8 hx9 hx10 hx11 h k0
set_option maxHeartbeats 4000000 in
theorem ok_Mo_draw_b94 {p : Program} {l : Launch} {e : Env} {s : State} {m : MethodId} {args : Array Value} {below : List Frame} {meth : Method} {c : Code} {D : va_G} {cA : Nat → ClassId} {ad : Nat → Nat} {A : Nat → Prop} (C : Cx p s m args c prog_14_method_113_code 14 "PollBooksModel" D cA ad 1 A) {Q : State → Prop} {o : (Int × Int × Int × Int × Int × Int × Int × Dt) ⊕ ((Int × Int × Int × Int × Int × Int × Dt))} (x1 x2 x3 x4 x5 x7 s0 : Int) (d : Dt) (hx1 : c32 x1) (hx2 : c32 x2) (hx3 : c32 x3) (hx4 : c32 x4) (hx5 : c32 x5) (hx7 : c32 x7) (hs0 : cb s0) (h : L_Mo_draw_b94 x1 x2 x3 x4 x5 x7 s0 d = some o) (kb : ∀ (y0 y1 y2 y3 y4 y5 y6 : Int) (e' : Dt), o = .inl (y0, y1, y2, y3, y4, y5, y6, e') → c32 y0 → c32 y1 → c32 y2 → c32 y3 → c32 y4 → cb y5 → c32 y6 → G p l e rm_Mo_draw s m args below meth c 0 0 Q 14 D cA ad 1 A 51 [(2, 0), (0, y0), (0, y1), (0, y2), (0, y3), (0, y4), (0, y5), (0, y6), (9, 0), (9, 0), (9, 0), (9, 0), (9, 0), (9, 0)] [] e') (k0 : ∀ (y0 y1 y2 y3 y4 y5 : Int) (e' : Dt), o = .inr (y0, y1, y2, y3, y4, y5, e') → c32 y0 → c32 y1 → c32 y2 → c32 y3 → c32 y4 → cb y5 → G p l e rm_Mo_draw s m args below meth c 0 0 Q 14 D cA ad 1 A 102 [(2, 0), (0, y0), (0, y1), (0, y2), (0, y3), (0, y4), (0, y5), (9, 0), (9, 0), (9, 0), (9, 0), (9, 0), (9, 0), (9, 0)] [] e') : G p l e rm_Mo_draw s m args below meth c 0 0 Q 14 D cA ad 1 A 94 [(2, 0), (0, x1), (0, x2), (0, x3), (0, x4), (0, x5), (9, 0), (0, x7), (9, 0), (9, 0), (9, 0), (9, 0), (9, 0), (9, 0)] [(0, s0)] d := by
  unfold L_Mo_draw_b94 at h
  refine s_istore C 6 (lo' := [(2, 0), (0, x1), (0, x2), (0, x3), (0, x4), (0, x5), (0, s0), (0, x7), (9, 0), (9, 0), (9, 0), (9, 0), (9, 0), (9, 0)]) (by decide) (s1k (s1k (s1k (s1k (s1k (s1n (by decide) s1z)))))) (by decide +kernel) ?_
  refine s_iinc C 7 1 (lo' := [(2, 0), (0, x1), (0, x2), (0, x3), (0, x4), (0, x5), (0, s0), (0, (w32 (x7 + 1))), (9, 0), (9, 0), (9, 0), (9, 0), (9, 0), (9, 0)]) rfl (by decide) (s1k (s1k (s1k (s1k (s1k (s1k (s1n (by decide) s1z))))))) (by decide +kernel) ?_
  refine g_goto C 51 (off := (-48)) (by decide +kernel) (by decide) ?_
  refine g_sub (lo2 := [(2, 0), (0, x1), (0, x2), (0, x3), (0, x4), (0, x5), (0, s0), (0, (w32 (x7 + 1))), (9, 0), (9, 0), (9, 0), (9, 0), (9, 0), (9, 0)]) (lsb_v (lsb_v (lsb_v (lsb_v (lsb_v (lsb_v (lsb_v (lsb_v (lsb_c (lsb_c (lsb_c (lsb_c (lsb_c (lsb_c lsb_e)))))))))))))) ?_
  obtain rfl := Option.some.inj h
  exact kb x1 x2 x3 x4 x5 s0 (w32 (x7 + 1)) d rfl hx1 hx2 hx3 hx4 hx5 hs0 (w32_c _)
set_option maxHeartbeats 4000000 in
theorem ok_Mo_draw_y51 {p : Program} {l : Launch} {e : Env} {s : State} {m : MethodId} {args : Array Value} {below : List Frame} {meth : Method} {c : Code} {D : va_G} {cA : Nat → ClassId} {ad : Nat → Nat} {A : Nat → Prop} (C : Cx p s m args c prog_14_method_113_code 14 "PollBooksModel" D cA ad 1 A) {Q : State → Prop} {o : (Int × Int × Int × Int × Int × Int × Int × Dt) ⊕ ((Int × Int × Int × Int × Int × Int × Dt))} (x1 x2 x3 x4 x5 x6 x7 : Int) (d : Dt) (hx1 : c32 x1) (hx2 : c32 x2) (hx3 : c32 x3) (hx4 : c32 x4) (hx5 : c32 x5) (hx6 : cb x6) (hx7 : c32 x7) (h : L_Mo_draw_y51 x1 x2 x3 x4 x5 x6 x7 d = some o) (kb : ∀ (y0 y1 y2 y3 y4 y5 y6 : Int) (e' : Dt), o = .inl (y0, y1, y2, y3, y4, y5, y6, e') → c32 y0 → c32 y1 → c32 y2 → c32 y3 → c32 y4 → cb y5 → c32 y6 → G p l e rm_Mo_draw s m args below meth c 0 0 Q 14 D cA ad 1 A 51 [(2, 0), (0, y0), (0, y1), (0, y2), (0, y3), (0, y4), (0, y5), (0, y6), (9, 0), (9, 0), (9, 0), (9, 0), (9, 0), (9, 0)] [] e') (k0 : ∀ (y0 y1 y2 y3 y4 y5 : Int) (e' : Dt), o = .inr (y0, y1, y2, y3, y4, y5, e') → c32 y0 → c32 y1 → c32 y2 → c32 y3 → c32 y4 → cb y5 → G p l e rm_Mo_draw s m args below meth c 0 0 Q 14 D cA ad 1 A 102 [(2, 0), (0, y0), (0, y1), (0, y2), (0, y3), (0, y4), (0, y5), (9, 0), (9, 0), (9, 0), (9, 0), (9, 0), (9, 0), (9, 0)] [] e') : G p l e rm_Mo_draw s m args below meth c 0 0 Q 14 D cA ad 1 A 51 [(2, 0), (0, x1), (0, x2), (0, x3), (0, x4), (0, x5), (0, x6), (0, x7), (9, 0), (9, 0), (9, 0), (9, 0), (9, 0), (9, 0)] [] d := by
  unfold L_Mo_draw_y51 at h
  refine g_iload C 7 rfl (by decide +kernel) ?_
  refine g_iconst C 4 (cK rfl) (by decide +kernel) ?_
  refine g_icmp_ge C (off := 48) (tgt := 102) hx7 (cK rfl) (by decide +kernel) (by decide) (fun hc35_ => ?_) (fun hc35_ => ?_)
  · replace h := ite_t hc35_ h
    refine g_iload C 6 rfl (by decide +kernel) ?_
    refine g_if_ne C (off := 30) (tgt := 89) (c32_cb hx6) (by decide +kernel) (by decide) (fun hc36_ => ?_) (fun hc36_ => ?_)
    · replace h := ite_t hc36_ h
      refine g_aload_n C 0 rfl (by decide +kernel) ?_
      refine g_getR C cl12 0 94 70 rfl cd_B0 ⟨by decide, rfl, by decide⟩ rfl rfl (nB (by decide)) (ix := 233) lk_1496 (by decide +kernel) ?_
      refine g_iload C 5 rfl (by decide +kernel) ?_
      obtain ⟨hb37_, h⟩ := ck_some h
      refine g_iald C 70 hx5 rfl cd_B70 (nB (by decide)) hb37_ (by decide +kernel) (fun hc38_ => ?_)
      refine g_if_le C (off := 24) (tgt := 93) hc38_ (by decide +kernel) (by decide) (fun hc39_ => ?_) (fun hc39_ => ?_)
      · replace h := ite_t hc39_ h
        refine g_aload_n C 0 rfl (by decide +kernel) ?_
        refine g_getR C cl12 0 94 70 rfl cd_B0 ⟨by decide, rfl, by decide⟩ rfl rfl (nB (by decide)) (ix := 233) lk_1496 (by decide +kernel) ?_
        refine g_iload C 5 rfl (by decide +kernel) ?_
        obtain ⟨hb40_, h⟩ := ck_some h
        refine g_iald C 70 hx5 rfl cd_B70 (nB (by decide)) hb40_ (by decide +kernel) (fun hc41_ => ?_)
        refine g_aload_n C 0 rfl (by decide +kernel) ?_
        refine g_getR C cl12 0 95 71 rfl cd_B0 ⟨by decide, rfl, by decide⟩ rfl rfl (nB (by decide)) (ix := 236) lk_1497 (by decide +kernel) ?_
        refine g_iload C 7 rfl (by decide +kernel) ?_
        obtain ⟨hb42_, h⟩ := ck_some h
        refine g_iald C 71 hx7 rfl cd_B71 (nB (by decide)) hb42_ (by decide +kernel) (fun hc43_ => ?_)
        refine g_icmp_ne C (off := 7) (tgt := 93) hc41_ hc43_ (by decide +kernel) (by decide) (fun hc44_ => ?_) (fun hc44_ => ?_)
        · replace h := ite_t hc44_ h
          refine g_iconst C 1 (cK rfl) (by decide +kernel) ?_
          refine g_goto C 94 (off := 4) (by decide +kernel) (by decide) ?_
          refine g_sub (lo2 := [(2, 0), (0, x1), (0, x2), (0, x3), (0, x4), (0, x5), (9, 0), (0, x7), (9, 0), (9, 0), (9, 0), (9, 0), (9, 0), (9, 0)]) (lsb_v (lsb_v (lsb_v (lsb_v (lsb_v (lsb_v (lsb_c (lsb_v (lsb_c (lsb_c (lsb_c (lsb_c (lsb_c (lsb_c lsb_e)))))))))))))) ?_
          exact ok_Mo_draw_b94 C x1 x2 x3 x4 x5 x7 1 d hx1 hx2 hx3 hx4 hx5 hx7 (Or.inr rfl) h kb k0
        · replace h := ite_f hc44_ h
          refine g_iconst C 0 (cK rfl) (by decide +kernel) ?_
          refine g_sub (lo2 := [(2, 0), (0, x1), (0, x2), (0, x3), (0, x4), (0, x5), (9, 0), (0, x7), (9, 0), (9, 0), (9, 0), (9, 0), (9, 0), (9, 0)]) (lsb_v (lsb_v (lsb_v (lsb_v (lsb_v (lsb_v (lsb_c (lsb_v (lsb_c (lsb_c (lsb_c (lsb_c (lsb_c (lsb_c lsb_e)))))))))))))) ?_
          exact ok_Mo_draw_b94 C x1 x2 x3 x4 x5 x7 0 d hx1 hx2 hx3 hx4 hx5 hx7 (Or.inl rfl) h kb k0
      · replace h := ite_f hc39_ h
        refine g_iconst C 0 (cK rfl) (by decide +kernel) ?_
        refine g_sub (lo2 := [(2, 0), (0, x1), (0, x2), (0, x3), (0, x4), (0, x5), (9, 0), (0, x7), (9, 0), (9, 0), (9, 0), (9, 0), (9, 0), (9, 0)]) (lsb_v (lsb_v (lsb_v (lsb_v (lsb_v (lsb_v (lsb_c (lsb_v (lsb_c (lsb_c (lsb_c (lsb_c (lsb_c (lsb_c lsb_e)))))))))))))) ?_
        exact ok_Mo_draw_b94 C x1 x2 x3 x4 x5 x7 0 d hx1 hx2 hx3 hx4 hx5 hx7 (Or.inl rfl) h kb k0
    · replace h := ite_f hc36_ h
      refine g_iconst C 1 (cK rfl) (by decide +kernel) ?_
      refine g_goto C 94 (off := 4) (by decide +kernel) (by decide) ?_
      refine g_sub (lo2 := [(2, 0), (0, x1), (0, x2), (0, x3), (0, x4), (0, x5), (9, 0), (0, x7), (9, 0), (9, 0), (9, 0), (9, 0), (9, 0), (9, 0)]) (lsb_v (lsb_v (lsb_v (lsb_v (lsb_v (lsb_v (lsb_c (lsb_v (lsb_c (lsb_c (lsb_c (lsb_c (lsb_c (lsb_c lsb_e)))))))))))))) ?_
      exact ok_Mo_draw_b94 C x1 x2 x3 x4 x5 x7 1 d hx1 hx2 hx3 hx4 hx5 hx7 (Or.inr rfl) h kb k0
  · replace h := ite_f hc35_ h
    refine g_sub (lo2 := [(2, 0), (0, x1), (0, x2), (0, x3), (0, x4), (0, x5), (0, x6), (9, 0), (9, 0), (9, 0), (9, 0), (9, 0), (9, 0), (9, 0)]) (lsb_v (lsb_v (lsb_v (lsb_v (lsb_v (lsb_v (lsb_v (lsb_c (lsb_c (lsb_c (lsb_c (lsb_c (lsb_c (lsb_c lsb_e)))))))))))))) ?_
    obtain rfl := Option.some.inj h
    exact k0 x1 x2 x3 x4 x5 x6 d rfl hx1 hx2 hx3 hx4 hx5 hx6
set_option maxHeartbeats 4000000 in
theorem ok_Mo_draw_n51 {p : Program} {l : Launch} {e : Env} {s : State} {m : MethodId} {args : Array Value} {below : List Frame} {meth : Method} {c : Code} {D : va_G} {cA : Nat → ClassId} {ad : Nat → Nat} {A : Nat → Prop} (C : Cx p s m args c prog_14_method_113_code 14 "PollBooksModel" D cA ad 1 A) {Q : State → Prop} {x : (Int × Int × Int × Int × Int × Int × Dt)} : ∀ (n : Nat) (x1 x2 x3 x4 x5 x6 x7 : Int) (d : Dt), c32 x1 → c32 x2 → c32 x3 → c32 x4 → c32 x5 → cb x6 → c32 x7 → lpF (fun q : Int × Int × Int × Int × Int × Int × Int × Dt => L_Mo_draw_y51 q.1 q.2.1 q.2.2.1 q.2.2.2.1 q.2.2.2.2.1 q.2.2.2.2.2.1 q.2.2.2.2.2.2.1 q.2.2.2.2.2.2.2) n (x1, x2, x3, x4, x5, x6, x7, d) = some x → (∀ (y0 y1 y2 y3 y4 y5 : Int) (e' : Dt), x = (y0, y1, y2, y3, y4, y5, e') → c32 y0 → c32 y1 → c32 y2 → c32 y3 → c32 y4 → cb y5 → G p l e rm_Mo_draw s m args below meth c 0 0 Q 14 D cA ad 1 A 102 [(2, 0), (0, y0), (0, y1), (0, y2), (0, y3), (0, y4), (0, y5), (9, 0), (9, 0), (9, 0), (9, 0), (9, 0), (9, 0), (9, 0)] [] e') → G p l e rm_Mo_draw s m args below meth c 0 0 Q 14 D cA ad 1 A 51 [(2, 0), (0, x1), (0, x2), (0, x3), (0, x4), (0, x5), (0, x6), (0, x7), (9, 0), (9, 0), (9, 0), (9, 0), (9, 0), (9, 0)] [] d := by
  intro n
  induction n with
  | zero => intro x1 x2 x3 x4 x5 x6 x7 d g0 g1 g2 g3 g4 g5 g6 h k0; cases h
  | succ n ih =>
    intro x1 x2 x3 x4 x5 x6 x7 d g0 g1 g2 g3 g4 g5 g6 h k0
    rcases lpF_some h with h | ⟨⟨v0_, v1_, v2_, v3_, v4_, v5_, v6_, e0_⟩, h1, h⟩
    · exact ok_Mo_draw_y51 C x1 x2 x3 x4 x5 x6 x7 d g0 g1 g2 g3 g4 g5 g6 h (fun z0_ z1_ z2_ z3_ z4_ z5_ z6_ e1_ eq w0_ w1_ w2_ w3_ w4_ w5_ w6_ => by cases eq) (fun z0_ z1_ z2_ z3_ z4_ z5_ e1_ eq w0_ w1_ w2_ w3_ w4_ w5_ => k0 _ _ _ _ _ _ _ (by cases eq; rfl) w0_ w1_ w2_ w3_ w4_ w5_)
    · exact ok_Mo_draw_y51 C x1 x2 x3 x4 x5 x6 x7 d g0 g1 g2 g3 g4 g5 g6 h1 (fun z0_ z1_ z2_ z3_ z4_ z5_ z6_ e1_ eq w0_ w1_ w2_ w3_ w4_ w5_ w6_ => by cases eq; exact ih _ _ _ _ _ _ _ _ w0_ w1_ w2_ w3_ w4_ w5_ w6_ h k0) (fun z0_ z1_ z2_ z3_ z4_ z5_ e1_ eq w0_ w1_ w2_ w3_ w4_ w5_ => by cases eq)
set_option maxHeartbeats 4000000 in
theorem ok_Mo_draw_l51 {p : Program} {l : Launch} {e : Env} {s : State} {m : MethodId} {args : Array Value} {below : List Frame} {meth : Method} {c : Code} {D : va_G} {cA : Nat → ClassId} {ad : Nat → Nat} {A : Nat → Prop} (C : Cx p s m args c prog_14_method_113_code 14 "PollBooksModel" D cA ad 1 A) {Q : State → Prop} {x : (Int × Int × Int × Int × Int × Int × Dt)} (x1 x2 x3 x4 x5 x6 x7 : Int) (d : Dt) (hx1 : c32 x1) (hx2 : c32 x2) (hx3 : c32 x3) (hx4 : c32 x4) (hx5 : c32 x5) (hx6 : cb x6) (hx7 : c32 x7) (h : L_Mo_draw_l51 x1 x2 x3 x4 x5 x6 x7 d = some x) (k0 : ∀ (y0 y1 y2 y3 y4 y5 : Int) (e' : Dt), x = (y0, y1, y2, y3, y4, y5, e') → c32 y0 → c32 y1 → c32 y2 → c32 y3 → c32 y4 → cb y5 → G p l e rm_Mo_draw s m args below meth c 0 0 Q 14 D cA ad 1 A 102 [(2, 0), (0, y0), (0, y1), (0, y2), (0, y3), (0, y4), (0, y5), (9, 0), (9, 0), (9, 0), (9, 0), (9, 0), (9, 0), (9, 0)] [] e') : G p l e rm_Mo_draw s m args below meth c 0 0 Q 14 D cA ad 1 A 51 [(2, 0), (0, x1), (0, x2), (0, x3), (0, x4), (0, x5), (0, x6), (0, x7), (9, 0), (9, 0), (9, 0), (9, 0), (9, 0), (9, 0)] [] d :=
  ok_Mo_draw_n51 C FU x1 x2 x3 x4 x5 x6 x7 d hx1 hx2 hx3 hx4 hx5 hx6 hx7 h k0
set_option maxHeartbeats 4000000 in
theorem ok_Mo_draw_b517 {p : Program} {l : Launch} {e : Env} {s : State} {m : MethodId} {args : Array Value} {below : List Frame} {meth : Method} {c : Code} {D : va_G} {cA : Nat → ClassId} {ad : Nat → Nat} {A : Nat → Prop} (C : Cx p s m args c prog_14_method_113_code 14 "PollBooksModel" D cA ad 1 A) {Q : State → Prop} {o : (Int × Int × Int × Dt) ⊕ ((Int × Dt))} (x7 x8 x9 : Int) (d : Dt) (hx7 : c32 x7) (hx8 : c32 x8) (hx9 : c32 x9) (h : L_Mo_draw_b517 x7 x8 x9 d = some o) (kb : ∀ (y0 y1 y2 : Int) (e' : Dt), o = .inl (y0, y1, y2, e') → c32 y0 → c32 y1 → c32 y2 → G p l e rm_Mo_draw s m args below meth c 0 0 Q 14 D cA ad 1 A 424 [(2, 0), (9, 0), (9, 0), (9, 0), (9, 0), (9, 0), (9, 0), (0, y0), (0, y1), (0, y2), (9, 0), (9, 0), (9, 0), (9, 0)] [] e') (k0 : ∀ (y0 : Int) (e' : Dt), o = .inr (y0, e') → c32 y0 → G p l e rm_Mo_draw s m args below meth c 0 0 Q 14 D cA ad 1 A 523 [(2, 0), (9, 0), (9, 0), (9, 0), (9, 0), (9, 0), (9, 0), (9, 0), (0, y0), (9, 0), (9, 0), (9, 0), (9, 0), (9, 0)] [] e') : G p l e rm_Mo_draw s m args below meth c 0 0 Q 14 D cA ad 1 A 517 [(2, 0), (9, 0), (9, 0), (9, 0), (9, 0), (9, 0), (9, 0), (0, x7), (0, x8), (0, x9), (9, 0), (9, 0), (9, 0), (9, 0)] [] d := by
  unfold L_Mo_draw_b517 at h
  refine s_iinc C 9 1 (lo' := [(2, 0), (9, 0), (9, 0), (9, 0), (9, 0), (9, 0), (9, 0), (0, x7), (0, x8), (0, (w32 (x9 + 1))), (9, 0), (9, 0), (9, 0), (9, 0)]) rfl (by decide) (s1k (s1k (s1k (s1k (s1k (s1k (s1k (s1k (s1n (by decide) s1z))))))))) (by decide +kernel) ?_
  refine g_goto C 424 (off := (-96)) (by decide +kernel) (by decide) ?_
  refine g_sub (lo2 := [(2, 0), (9, 0), (9, 0), (9, 0), (9, 0), (9, 0), (9, 0), (0, x7), (0, x8), (0, (w32 (x9 + 1))), (9, 0), (9, 0), (9, 0), (9, 0)]) (lsb_v (lsb_c (lsb_c (lsb_c (lsb_c (lsb_c (lsb_c (lsb_v (lsb_v (lsb_v (lsb_c (lsb_c (lsb_c (lsb_c lsb_e)))))))))))))) ?_
  obtain rfl := Option.some.inj h
  exact kb x7 x8 (w32 (x9 + 1)) d rfl hx7 hx8 (w32_c _)
set_option maxHeartbeats 4000000 in
theorem ok_Mo_draw_y424 {p : Program} {l : Launch} {e : Env} {s : State} {m : MethodId} {args : Array Value} {below : List Frame} {meth : Method} {c : Code} {D : va_G} {cA : Nat → ClassId} {ad : Nat → Nat} {A : Nat → Prop} (C : Cx p s m args c prog_14_method_113_code 14 "PollBooksModel" D cA ad 1 A) {Q : State → Prop} {o : (Int × Int × Int × Dt) ⊕ ((Int × Dt))} (x7 x8 x9 : Int) (d : Dt) (hx7 : c32 x7) (hx8 : c32 x8) (hx9 : c32 x9) (h : L_Mo_draw_y424 x7 x8 x9 d = some o) (kb : ∀ (y0 y1 y2 : Int) (e' : Dt), o = .inl (y0, y1, y2, e') → c32 y0 → c32 y1 → c32 y2 → G p l e rm_Mo_draw s m args below meth c 0 0 Q 14 D cA ad 1 A 424 [(2, 0), (9, 0), (9, 0), (9, 0), (9, 0), (9, 0), (9, 0), (0, y0), (0, y1), (0, y2), (9, 0), (9, 0), (9, 0), (9, 0)] [] e') (k0 : ∀ (y0 : Int) (e' : Dt), o = .inr (y0, e') → c32 y0 → G p l e rm_Mo_draw s m args below meth c 0 0 Q 14 D cA ad 1 A 523 [(2, 0), (9, 0), (9, 0), (9, 0), (9, 0), (9, 0), (9, 0), (9, 0), (0, y0), (9, 0), (9, 0), (9, 0), (9, 0), (9, 0)] [] e') : G p l e rm_Mo_draw s m args below meth c 0 0 Q 14 D cA ad 1 A 424 [(2, 0), (9, 0), (9, 0), (9, 0), (9, 0), (9, 0), (9, 0), (0, x7), (0, x8), (0, x9), (9, 0), (9, 0), (9, 0), (9, 0)] [] d := by
  unfold L_Mo_draw_y424 at h
  refine g_iload C 9 rfl (by decide +kernel) ?_
  refine g_aload_n C 0 rfl (by decide +kernel) ?_
  refine g_getI C cl12 0 99 rfl cd_B0 ⟨by decide, rfl, by decide⟩ rfl (nB (by decide)) (ix := 602) lk_1501 (by decide +kernel) (fun hc45_ => ?_)
  refine g_icmp_ge C (off := 93) (tgt := 523) hx9 hc45_ (by decide +kernel) (by decide) (fun hc46_ => ?_) (fun hc46_ => ?_)
  · replace h := ite_t hc46_ h
    refine g_iconst C 0 (cK rfl) (by decide +kernel) ?_
    refine s_istore C 10 (lo' := [(2, 0), (9, 0), (9, 0), (9, 0), (9, 0), (9, 0), (9, 0), (0, x7), (0, x8), (0, x9), (0, 0), (9, 0), (9, 0), (9, 0)]) (by decide) (s1k (s1k (s1k (s1k (s1k (s1k (s1k (s1k (s1k (s1n (by decide) s1z)))))))))) (by decide +kernel) ?_
    refine g_iconst C 0 (cK rfl) (by decide +kernel) ?_
    refine s_istore C 11 (lo' := [(2, 0), (9, 0), (9, 0), (9, 0), (9, 0), (9, 0), (9, 0), (0, x7), (0, x8), (0, x9), (0, 0), (0, 0), (9, 0), (9, 0)]) (by decide) (s1k (s1k (s1k (s1k (s1k (s1k (s1k (s1k (s1k (s1k (s1n (by decide) s1z))))))))))) (by decide +kernel) ?_
    refine g_sub (lo2 := [(2, 0), (9, 0), (9, 0), (9, 0), (9, 0), (9, 0), (9, 0), (0, x7), (0, x8), (0, x9), (0, 0), (0, 0), (9, 0), (9, 0)]) (lsb_v (lsb_c (lsb_c (lsb_c (lsb_c (lsb_c (lsb_c (lsb_v (lsb_v (lsb_v (lsb_v (lsb_v (lsb_c (lsb_c lsb_e)))))))))))))) ?_
    obtain ⟨x47_, hx48_, h⟩ := lb_some h
    refine ok_Mo_draw_l439 C x7 x8 x9 0 0 d hx7 hx8 hx9 (Or.inl rfl) (c32_cb (Or.inl rfl)) hx48_ (fun v49_ v50_ v51_ v52_ d53_ eq54_ hv49_ hv50_ hv51_ hv52_ => ?_)
    subst eq54_
    replace h := u4_e h
    refine g_iload C 10 rfl (by decide +kernel) ?_
    refine g_if_ne C (off := 6) (tgt := 484) (c32_cb hv52_) (by decide +kernel) (by decide) (fun hc55_ => ?_) (fun hc55_ => ?_)
    · replace h := ite_t hc55_ h
      refine g_goto C 517 (off := 36) (by decide +kernel) (by decide) ?_
      refine g_sub (lo2 := [(2, 0), (9, 0), (9, 0), (9, 0), (9, 0), (9, 0), (9, 0), (0, v49_), (0, v50_), (0, v51_), (9, 0), (9, 0), (9, 0), (9, 0)]) (lsb_v (lsb_c (lsb_c (lsb_c (lsb_c (lsb_c (lsb_c (lsb_v (lsb_v (lsb_v (lsb_c (lsb_c (lsb_c (lsb_c lsb_e)))))))))))))) ?_
      exact ok_Mo_draw_b517 C v49_ v50_ v51_ d53_ hv49_ hv50_ hv51_ h kb k0
    · replace h := ite_f hc55_ h
      refine g_aload_n C 0 rfl (by decide +kernel) ?_
      refine g_getR C cl12 0 98 74 rfl cd_B0 ⟨by decide, rfl, by decide⟩ rfl rfl (nB (by decide)) (ix := 245) lk_1500 (by decide +kernel) ?_
      refine g_aload_n C 0 rfl (by decide +kernel) ?_
      refine g_getI C cl12 0 100 rfl cd_B0 ⟨by decide, rfl, by decide⟩ rfl (nB (by decide)) (ix := 613) lk_1502 (by decide +kernel) (fun hc56_ => ?_)
      refine g_iload C 9 rfl (by decide +kernel) ?_
      obtain ⟨hb57_, h⟩ := ck_some h
      refine g_iast C 74 hv51_ hc56_ rfl cd_B74 (nB (by decide)) hb57_ (by decide +kernel) ?_
      refine g_aload_n C 0 rfl (by decide +kernel) ?_
      refine g_dup C tg2 (by decide +kernel) ?_
      refine g_getI C cl12 0 100 rfl cd_B0 ⟨by decide, rfl, by decide⟩ rfl (nB (by decide)) (ix := 613) lk_1502 (by decide +kernel) (fun hc58_ => ?_)
      refine g_val (y := (d53_ 0 100)) rfl ?_
      replace hc58_ : c32 (d53_ 0 100) := hc58_
      refine g_iconst C 1 (cK rfl) (by decide +kernel) ?_
      refine g_iadd C (by decide +kernel) ?_
      refine g_putI C cl12 0 100 (w32_c _) rfl cd_B0 ⟨by decide, rfl, by decide⟩ rfl (nB (by decide)) (ix := 613) lk_1502 rfl rfl (by decide +kernel) ?_
      refine g_iload C 8 rfl (by decide +kernel) ?_
      refine g_aload_n C 0 rfl (by decide +kernel) ?_
      refine g_getR C cl12 0 93 69 rfl cd_B0 ⟨by decide, rfl, by decide⟩ rfl rfl (nB (by decide)) (ix := 230) lk_1495 (by decide +kernel) ?_
      refine g_iload C 9 rfl (by decide +kernel) ?_
      obtain ⟨hb59_, h⟩ := ck_some h
      refine g_iald C 69 hv51_ rfl cd_B69 (nB (by decide)) hb59_ (by decide +kernel) (fun hc60_ => ?_)
      refine g_val (y := (d53_ 69 v51_.toNat)) rfl ?_
      replace hc60_ : c32 (d53_ 69 v51_.toNat) := hc60_
      refine g_iadd C (by decide +kernel) ?_
      obtain ⟨v61_, ev62_, h⟩ := lt_some h
      refine g_val ev62_.symm ?_
      have hv63_ : c32 v61_ := by rw [ev62_]; exact (w32_c _)
      refine s_istore C 8 (lo' := [(2, 0), (9, 0), (9, 0), (9, 0), (9, 0), (9, 0), (9, 0), (0, v49_), (0, v61_), (0, v51_), (0, v52_), (9, 0), (9, 0), (9, 0)]) (by decide) (s1k (s1k (s1k (s1k (s1k (s1k (s1k (s1n (by decide) s1z)))))))) (by decide +kernel) ?_
      refine g_sub (lo2 := [(2, 0), (9, 0), (9, 0), (9, 0), (9, 0), (9, 0), (9, 0), (0, v49_), (0, v61_), (0, v51_), (9, 0), (9, 0), (9, 0), (9, 0)]) (lsb_v (lsb_c (lsb_c (lsb_c (lsb_c (lsb_c (lsb_c (lsb_v (lsb_v (lsb_v (lsb_c (lsb_c (lsb_c (lsb_c lsb_e)))))))))))))) ?_
      exact ok_Mo_draw_b517 C v49_ v61_ v51_ (up2 (up2 d53_ 74 ((d53_ 0 100)).toNat v51_) 0 100 (w32 ((d53_ 0 100) + 1))) hv49_ hv63_ hv51_ h kb k0
  · replace h := ite_f hc46_ h
    refine g_sub (lo2 := [(2, 0), (9, 0), (9, 0), (9, 0), (9, 0), (9, 0), (9, 0), (9, 0), (0, x8), (9, 0), (9, 0), (9, 0), (9, 0), (9, 0)]) (lsb_v (lsb_c (lsb_c (lsb_c (lsb_c (lsb_c (lsb_c (lsb_c (lsb_v (lsb_c (lsb_c (lsb_c (lsb_c (lsb_c lsb_e)))))))))))))) ?_
    obtain rfl := Option.some.inj h
    exact k0 x8 d rfl hx8
set_option maxHeartbeats 4000000 in
theorem ok_Mo_draw_n424 {p : Program} {l : Launch} {e : Env} {s : State} {m : MethodId} {args : Array Value} {below : List Frame} {meth : Method} {c : Code} {D : va_G} {cA : Nat → ClassId} {ad : Nat → Nat} {A : Nat → Prop} (C : Cx p s m args c prog_14_method_113_code 14 "PollBooksModel" D cA ad 1 A) {Q : State → Prop} {x : (Int × Dt)} : ∀ (n : Nat) (x7 x8 x9 : Int) (d : Dt), c32 x7 → c32 x8 → c32 x9 → lpF (fun q : Int × Int × Int × Dt => L_Mo_draw_y424 q.1 q.2.1 q.2.2.1 q.2.2.2) n (x7, x8, x9, d) = some x → (∀ (y0 : Int) (e' : Dt), x = (y0, e') → c32 y0 → G p l e rm_Mo_draw s m args below meth c 0 0 Q 14 D cA ad 1 A 523 [(2, 0), (9, 0), (9, 0), (9, 0), (9, 0), (9, 0), (9, 0), (9, 0), (0, y0), (9, 0), (9, 0), (9, 0), (9, 0), (9, 0)] [] e') → G p l e rm_Mo_draw s m args below meth c 0 0 Q 14 D cA ad 1 A 424 [(2, 0), (9, 0), (9, 0), (9, 0), (9, 0), (9, 0), (9, 0), (0, x7), (0, x8), (0, x9), (9, 0), (9, 0), (9, 0), (9, 0)] [] d := by
  intro n
  induction n with
  | zero => intro x7 x8 x9 d g0 g1 g2 h k0; cases h
  | succ n ih =>
    intro x7 x8 x9 d g0 g1 g2 h k0
    rcases lpF_some h with h | ⟨⟨v0_, v1_, v2_, e0_⟩, h1, h⟩
    · exact ok_Mo_draw_y424 C x7 x8 x9 d g0 g1 g2 h (fun z0_ z1_ z2_ e1_ eq w0_ w1_ w2_ => by cases eq) (fun z0_ e1_ eq w0_ => k0 _ _ (by cases eq; rfl) w0_)
    · exact ok_Mo_draw_y424 C x7 x8 x9 d g0 g1 g2 h1 (fun z0_ z1_ z2_ e1_ eq w0_ w1_ w2_ => by cases eq; exact ih _ _ _ _ w0_ w1_ w2_ h k0) (fun z0_ e1_ eq w0_ => by cases eq)
set_option maxHeartbeats 4000000 in
theorem ok_Mo_draw_l424 {p : Program} {l : Launch} {e : Env} {s : State} {m : MethodId} {args : Array Value} {below : List Frame} {meth : Method} {c : Code} {D : va_G} {cA : Nat → ClassId} {ad : Nat → Nat} {A : Nat → Prop} (C : Cx p s m args c prog_14_method_113_code 14 "PollBooksModel" D cA ad 1 A) {Q : State → Prop} {x : (Int × Dt)} (x7 x8 x9 : Int) (d : Dt) (hx7 : c32 x7) (hx8 : c32 x8) (hx9 : c32 x9) (h : L_Mo_draw_l424 x7 x8 x9 d = some x) (k0 : ∀ (y0 : Int) (e' : Dt), x = (y0, e') → c32 y0 → G p l e rm_Mo_draw s m args below meth c 0 0 Q 14 D cA ad 1 A 523 [(2, 0), (9, 0), (9, 0), (9, 0), (9, 0), (9, 0), (9, 0), (9, 0), (0, y0), (9, 0), (9, 0), (9, 0), (9, 0), (9, 0)] [] e') : G p l e rm_Mo_draw s m args below meth c 0 0 Q 14 D cA ad 1 A 424 [(2, 0), (9, 0), (9, 0), (9, 0), (9, 0), (9, 0), (9, 0), (0, x7), (0, x8), (0, x9), (9, 0), (9, 0), (9, 0), (9, 0)] [] d :=
  ok_Mo_draw_n424 C FU x7 x8 x9 d hx7 hx8 hx9 h k0
set_option maxHeartbeats 4000000 in
theorem ok_Mo_draw_b122 {p : Program} {l : Launch} {e : Env} {s : State} {m : MethodId} {args : Array Value} {below : List Frame} {meth : Method} {c : Code} {D : va_G} {cA : Nat → ClassId} {ad : Nat → Nat} {A : Nat → Prop} (C : Cx p s m args c prog_14_method_113_code 14 "PollBooksModel" D cA ad 1 A) {Q : State → Prop} {o : (Int × Int × Int × Int × Int × Dt) ⊕ ((Int × Int × Int × Int × Dt))} (x1 x2 x3 x4 x5 : Int) (d : Dt) (hx1 : c32 x1) (hx2 : c32 x2) (hx3 : c32 x3) (hx4 : c32 x4) (hx5 : c32 x5) (h : L_Mo_draw_b122 x1 x2 x3 x4 x5 d = some o) (kb : ∀ (y0 y1 y2 y3 y4 : Int) (e' : Dt), o = .inl (y0, y1, y2, y3, y4, e') → c32 y0 → c32 y1 → c32 y2 → c32 y3 → c32 y4 → G p l e rm_Mo_draw s m args below meth c 0 0 Q 14 D cA ad 1 A 36 [(2, 0), (0, y0), (0, y1), (0, y2), (0, y3), (0, y4), (9, 0), (9, 0), (9, 0), (9, 0), (9, 0), (9, 0), (9, 0), (9, 0)] [] e') (k0 : ∀ (y0 y1 y2 y3 : Int) (e' : Dt), o = .inr (y0, y1, y2, y3, e') → c32 y0 → c32 y1 → c32 y2 → c32 y3 → G p l e rm_Mo_draw s m args below meth c 0 0 Q 14 D cA ad 1 A 128 [(2, 0), (0, y0), (0, y1), (0, y2), (0, y3), (9, 0), (9, 0), (9, 0), (9, 0), (9, 0), (9, 0), (9, 0), (9, 0), (9, 0)] [] e') : G p l e rm_Mo_draw s m args below meth c 0 0 Q 14 D cA ad 1 A 122 [(2, 0), (0, x1), (0, x2), (0, x3), (0, x4), (0, x5), (9, 0), (9, 0), (9, 0), (9, 0), (9, 0), (9, 0), (9, 0), (9, 0)] [] d := by
  unfold L_Mo_draw_b122 at h
  refine s_iinc C 5 1 (lo' := [(2, 0), (0, x1), (0, x2), (0, x3), (0, x4), (0, (w32 (x5 + 1))), (9, 0), (9, 0), (9, 0), (9, 0), (9, 0), (9, 0), (9, 0), (9, 0)]) rfl (by decide) (s1k (s1k (s1k (s1k (s1n (by decide) s1z))))) (by decide +kernel) ?_
  refine g_goto C 36 (off := (-89)) (by decide +kernel) (by decide) ?_
  refine g_sub (lo2 := [(2, 0), (0, x1), (0, x2), (0, x3), (0, x4), (0, (w32 (x5 + 1))), (9, 0), (9, 0), (9, 0), (9, 0), (9, 0), (9, 0), (9, 0), (9, 0)]) (lsb_v (lsb_v (lsb_v (lsb_v (lsb_v (lsb_v (lsb_c (lsb_c (lsb_c (lsb_c (lsb_c (lsb_c (lsb_c (lsb_c lsb_e)))))))))))))) ?_
  obtain rfl := Option.some.inj h
  exact kb x1 x2 x3 x4 (w32 (x5 + 1)) d rfl hx1 hx2 hx3 hx4 (w32_c _)
set_option maxHeartbeats 4000000 in
theorem ok_Mo_draw_y36 {p : Program} {l : Launch} {e : Env} {s : State} {m : MethodId} {args : Array Value} {below : List Frame} {meth : Method} {c : Code} {D : va_G} {cA : Nat → ClassId} {ad : Nat → Nat} {A : Nat → Prop} (C : Cx p s m args c prog_14_method_113_code 14 "PollBooksModel" D cA ad 1 A) {Q : State → Prop} {o : (Int × Int × Int × Int × Int × Dt) ⊕ ((Int × Int × Int × Int × Dt))} (x1 x2 x3 x4 x5 : Int) (d : Dt) (hx1 : c32 x1) (hx2 : c32 x2) (hx3 : c32 x3) (hx4 : c32 x4) (hx5 : c32 x5) (h : L_Mo_draw_y36 x1 x2 x3 x4 x5 d = some o) (kb : ∀ (y0 y1 y2 y3 y4 : Int) (e' : Dt), o = .inl (y0, y1, y2, y3, y4, e') → c32 y0 → c32 y1 → c32 y2 → c32 y3 → c32 y4 → G p l e rm_Mo_draw s m args below meth c 0 0 Q 14 D cA ad 1 A 36 [(2, 0), (0, y0), (0, y1), (0, y2), (0, y3), (0, y4), (9, 0), (9, 0), (9, 0), (9, 0), (9, 0), (9, 0), (9, 0), (9, 0)] [] e') (k0 : ∀ (y0 y1 y2 y3 : Int) (e' : Dt), o = .inr (y0, y1, y2, y3, e') → c32 y0 → c32 y1 → c32 y2 → c32 y3 → G p l e rm_Mo_draw s m args below meth c 0 0 Q 14 D cA ad 1 A 128 [(2, 0), (0, y0), (0, y1), (0, y2), (0, y3), (9, 0), (9, 0), (9, 0), (9, 0), (9, 0), (9, 0), (9, 0), (9, 0), (9, 0)] [] e') : G p l e rm_Mo_draw s m args below meth c 0 0 Q 14 D cA ad 1 A 36 [(2, 0), (0, x1), (0, x2), (0, x3), (0, x4), (0, x5), (9, 0), (9, 0), (9, 0), (9, 0), (9, 0), (9, 0), (9, 0), (9, 0)] [] d := by
  unfold L_Mo_draw_y36 at h
  refine g_iload C 5 rfl (by decide +kernel) ?_
  refine g_aload_n C 0 rfl (by decide +kernel) ?_
  refine g_getI C cl12 0 99 rfl cd_B0 ⟨by decide, rfl, by decide⟩ rfl (nB (by decide)) (ix := 602) lk_1501 (by decide +kernel) (fun hc65_ => ?_)
  refine g_icmp_ge C (off := 86) (tgt := 128) hx5 hc65_ (by decide +kernel) (by decide) (fun hc66_ => ?_) (fun hc66_ => ?_)
  · replace h := ite_t hc66_ h
    refine g_iconst C 0 (cK rfl) (by decide +kernel) ?_
    refine s_istore C 6 (lo' := [(2, 0), (0, x1), (0, x2), (0, x3), (0, x4), (0, x5), (0, 0), (9, 0), (9, 0), (9, 0), (9, 0), (9, 0), (9, 0), (9, 0)]) (by decide) (s1k (s1k (s1k (s1k (s1k (s1n (by decide) s1z)))))) (by decide +kernel) ?_
    refine g_iconst C 0 (cK rfl) (by decide +kernel) ?_
    refine s_istore C 7 (lo' := [(2, 0), (0, x1), (0, x2), (0, x3), (0, x4), (0, x5), (0, 0), (0, 0), (9, 0), (9, 0), (9, 0), (9, 0), (9, 0), (9, 0)]) (by decide) (s1k (s1k (s1k (s1k (s1k (s1k (s1n (by decide) s1z))))))) (by decide +kernel) ?_
    refine g_sub (lo2 := [(2, 0), (0, x1), (0, x2), (0, x3), (0, x4), (0, x5), (0, 0), (0, 0), (9, 0), (9, 0), (9, 0), (9, 0), (9, 0), (9, 0)]) (lsb_v (lsb_v (lsb_v (lsb_v (lsb_v (lsb_v (lsb_v (lsb_v (lsb_c (lsb_c (lsb_c (lsb_c (lsb_c (lsb_c lsb_e)))))))))))))) ?_
    obtain ⟨x67_, hx68_, h⟩ := lb_some h
    refine ok_Mo_draw_l51 C x1 x2 x3 x4 x5 0 0 d hx1 hx2 hx3 hx4 hx5 (Or.inl rfl) (c32_cb (Or.inl rfl)) hx68_ (fun v69_ v70_ v71_ v72_ v73_ v74_ d75_ eq76_ hv69_ hv70_ hv71_ hv72_ hv73_ hv74_ => ?_)
    subst eq76_
    replace h := u6_e h
    refine g_iload C 6 rfl (by decide +kernel) ?_
    refine g_if_eq C (off := 6) (tgt := 110) (c32_cb hv74_) (by decide +kernel) (by decide) (fun hc77_ => ?_) (fun hc77_ => ?_)
    · replace h := ite_t hc77_ h
      refine g_aload_n C 0 rfl (by decide +kernel) ?_
      refine g_getR C cl12 0 96 72 rfl cd_B0 ⟨by decide, rfl, by decide⟩ rfl rfl (nB (by decide)) (ix := 239) lk_1498 (by decide +kernel) ?_
      refine g_iload C 4 rfl (by decide +kernel) ?_
      refine g_iload C 5 rfl (by decide +kernel) ?_
      obtain ⟨hb78_, h⟩ := ck_some h
      refine g_iast C 72 hv73_ hv72_ rfl cd_B72 (nB (by decide)) hb78_ (by decide +kernel) ?_
      refine s_iinc C 4 1 (lo' := [(2, 0), (0, v69_), (0, v70_), (0, v71_), (0, (w32 (v72_ + 1))), (0, v73_), (0, v74_), (9, 0), (9, 0), (9, 0), (9, 0), (9, 0), (9, 0), (9, 0)]) rfl (by decide) (s1k (s1k (s1k (s1n (by decide) s1z)))) (by decide +kernel) ?_
      refine g_sub (lo2 := [(2, 0), (0, v69_), (0, v70_), (0, v71_), (0, (w32 (v72_ + 1))), (0, v73_), (9, 0), (9, 0), (9, 0), (9, 0), (9, 0), (9, 0), (9, 0), (9, 0)]) (lsb_v (lsb_v (lsb_v (lsb_v (lsb_v (lsb_v (lsb_c (lsb_c (lsb_c (lsb_c (lsb_c (lsb_c (lsb_c (lsb_c lsb_e)))))))))))))) ?_
      exact ok_Mo_draw_b122 C v69_ v70_ v71_ (w32 (v72_ + 1)) v73_ (up2 d75_ 72 v72_.toNat v73_) hv69_ hv70_ hv71_ (w32_c _) hv73_ h kb k0
    · replace h := ite_f hc77_ h
      refine g_goto C 122 (off := 15) (by decide +kernel) (by decide) ?_
      refine g_sub (lo2 := [(2, 0), (0, v69_), (0, v70_), (0, v71_), (0, v72_), (0, v73_), (9, 0), (9, 0), (9, 0), (9, 0), (9, 0), (9, 0), (9, 0), (9, 0)]) (lsb_v (lsb_v (lsb_v (lsb_v (lsb_v (lsb_v (lsb_c (lsb_c (lsb_c (lsb_c (lsb_c (lsb_c (lsb_c (lsb_c lsb_e)))))))))))))) ?_
      exact ok_Mo_draw_b122 C v69_ v70_ v71_ v72_ v73_ d75_ hv69_ hv70_ hv71_ hv72_ hv73_ h kb k0
  · replace h := ite_f hc66_ h
    refine g_sub (lo2 := [(2, 0), (0, x1), (0, x2), (0, x3), (0, x4), (9, 0), (9, 0), (9, 0), (9, 0), (9, 0), (9, 0), (9, 0), (9, 0), (9, 0)]) (lsb_v (lsb_v (lsb_v (lsb_v (lsb_v (lsb_c (lsb_c (lsb_c (lsb_c (lsb_c (lsb_c (lsb_c (lsb_c (lsb_c lsb_e)))))))))))))) ?_
    obtain rfl := Option.some.inj h
    exact k0 x1 x2 x3 x4 d rfl hx1 hx2 hx3 hx4
set_option maxHeartbeats 4000000 in
theorem ok_Mo_draw_n36 {p : Program} {l : Launch} {e : Env} {s : State} {m : MethodId} {args : Array Value} {below : List Frame} {meth : Method} {c : Code} {D : va_G} {cA : Nat → ClassId} {ad : Nat → Nat} {A : Nat → Prop} (C : Cx p s m args c prog_14_method_113_code 14 "PollBooksModel" D cA ad 1 A) {Q : State → Prop} {x : (Int × Int × Int × Int × Dt)} : ∀ (n : Nat) (x1 x2 x3 x4 x5 : Int) (d : Dt), c32 x1 → c32 x2 → c32 x3 → c32 x4 → c32 x5 → lpF (fun q : Int × Int × Int × Int × Int × Dt => L_Mo_draw_y36 q.1 q.2.1 q.2.2.1 q.2.2.2.1 q.2.2.2.2.1 q.2.2.2.2.2) n (x1, x2, x3, x4, x5, d) = some x → (∀ (y0 y1 y2 y3 : Int) (e' : Dt), x = (y0, y1, y2, y3, e') → c32 y0 → c32 y1 → c32 y2 → c32 y3 → G p l e rm_Mo_draw s m args below meth c 0 0 Q 14 D cA ad 1 A 128 [(2, 0), (0, y0), (0, y1), (0, y2), (0, y3), (9, 0), (9, 0), (9, 0), (9, 0), (9, 0), (9, 0), (9, 0), (9, 0), (9, 0)] [] e') → G p l e rm_Mo_draw s m args below meth c 0 0 Q 14 D cA ad 1 A 36 [(2, 0), (0, x1), (0, x2), (0, x3), (0, x4), (0, x5), (9, 0), (9, 0), (9, 0), (9, 0), (9, 0), (9, 0), (9, 0), (9, 0)] [] d := by
  intro n
  induction n with
  | zero => intro x1 x2 x3 x4 x5 d g0 g1 g2 g3 g4 h k0; cases h
  | succ n ih =>
    intro x1 x2 x3 x4 x5 d g0 g1 g2 g3 g4 h k0
    rcases lpF_some h with h | ⟨⟨v0_, v1_, v2_, v3_, v4_, e0_⟩, h1, h⟩
    · exact ok_Mo_draw_y36 C x1 x2 x3 x4 x5 d g0 g1 g2 g3 g4 h (fun z0_ z1_ z2_ z3_ z4_ e1_ eq w0_ w1_ w2_ w3_ w4_ => by cases eq) (fun z0_ z1_ z2_ z3_ e1_ eq w0_ w1_ w2_ w3_ => k0 _ _ _ _ _ (by cases eq; rfl) w0_ w1_ w2_ w3_)
    · exact ok_Mo_draw_y36 C x1 x2 x3 x4 x5 d g0 g1 g2 g3 g4 h1 (fun z0_ z1_ z2_ z3_ z4_ e1_ eq w0_ w1_ w2_ w3_ w4_ => by cases eq; exact ih _ _ _ _ _ _ w0_ w1_ w2_ w3_ w4_ h k0) (fun z0_ z1_ z2_ z3_ e1_ eq w0_ w1_ w2_ w3_ => by cases eq)
set_option maxHeartbeats 4000000 in
theorem ok_Mo_draw_l36 {p : Program} {l : Launch} {e : Env} {s : State} {m : MethodId} {args : Array Value} {below : List Frame} {meth : Method} {c : Code} {D : va_G} {cA : Nat → ClassId} {ad : Nat → Nat} {A : Nat → Prop} (C : Cx p s m args c prog_14_method_113_code 14 "PollBooksModel" D cA ad 1 A) {Q : State → Prop} {x : (Int × Int × Int × Int × Dt)} (x1 x2 x3 x4 x5 : Int) (d : Dt) (hx1 : c32 x1) (hx2 : c32 x2) (hx3 : c32 x3) (hx4 : c32 x4) (hx5 : c32 x5) (h : L_Mo_draw_l36 x1 x2 x3 x4 x5 d = some x) (k0 : ∀ (y0 y1 y2 y3 : Int) (e' : Dt), x = (y0, y1, y2, y3, e') → c32 y0 → c32 y1 → c32 y2 → c32 y3 → G p l e rm_Mo_draw s m args below meth c 0 0 Q 14 D cA ad 1 A 128 [(2, 0), (0, y0), (0, y1), (0, y2), (0, y3), (9, 0), (9, 0), (9, 0), (9, 0), (9, 0), (9, 0), (9, 0), (9, 0), (9, 0)] [] e') : G p l e rm_Mo_draw s m args below meth c 0 0 Q 14 D cA ad 1 A 36 [(2, 0), (0, x1), (0, x2), (0, x3), (0, x4), (0, x5), (9, 0), (9, 0), (9, 0), (9, 0), (9, 0), (9, 0), (9, 0), (9, 0)] [] d :=
  ok_Mo_draw_n36 C FU x1 x2 x3 x4 x5 d hx1 hx2 hx3 hx4 hx5 h k0
set_option maxHeartbeats 4000000 in
theorem ok_Mo_draw_b363 {p : Program} {l : Launch} {e : Env} {s : State} {m : MethodId} {args : Array Value} {below : List Frame} {meth : Method} {c : Code} {D : va_G} {cA : Nat → ClassId} {ad : Nat → Nat} {A : Nat → Prop} (C : Cx p s m args c prog_14_method_113_code 14 "PollBooksModel" D cA ad 1 A) {Q : State → Prop} {o : (Int × Int × Int × Int × Int × Dt) ⊕ ((Int × Int × Int × Int × Dt))} (x2 x7 x8 x9 x10 : Int) (d : Dt) (hx2 : c32 x2) (hx7 : c32 x7) (hx8 : c32 x8) (hx9 : c32 x9) (hx10 : c32 x10) (h : L_Mo_draw_b363 x2 x7 x8 x9 x10 d = some o) (kb : ∀ (y0 y1 y2 y3 y4 : Int) (e' : Dt), o = .inl (y0, y1, y2, y3, y4, e') → c32 y0 → c32 y1 → c32 y2 → c32 y3 → c32 y4 → G p l e rm_Mo_draw s m args below meth c 0 0 Q 14 D cA ad 1 A 259 [(2, 0), (9, 0), (0, y0), (9, 0), (9, 0), (9, 0), (9, 0), (0, y1), (0, y2), (0, y3), (0, y4), (9, 0), (9, 0), (9, 0)] [] e') (k0 : ∀ (y0 y1 y2 y3 : Int) (e' : Dt), o = .inr (y0, y1, y2, y3, e') → c32 y0 → c32 y1 → c32 y2 → c32 y3 → G p l e rm_Mo_draw s m args below meth c 0 0 Q 14 D cA ad 1 A 369 [(2, 0), (9, 0), (0, y0), (9, 0), (9, 0), (9, 0), (9, 0), (0, y1), (0, y2), (0, y3), (9, 0), (9, 0), (9, 0), (9, 0)] [] e') : G p l e rm_Mo_draw s m args below meth c 0 0 Q 14 D cA ad 1 A 363 [(2, 0), (9, 0), (0, x2), (9, 0), (9, 0), (9, 0), (9, 0), (0, x7), (0, x8), (0, x9), (0, x10), (9, 0), (9, 0), (9, 0)] [] d := by
  unfold L_Mo_draw_b363 at h
  refine s_iinc C 10 1 (lo' := [(2, 0), (9, 0), (0, x2), (9, 0), (9, 0), (9, 0), (9, 0), (0, x7), (0, x8), (0, x9), (0, (w32 (x10 + 1))), (9, 0), (9, 0), (9, 0)]) rfl (by decide) (s1k (s1k (s1k (s1k (s1k (s1k (s1k (s1k (s1k (s1n (by decide) s1z)))))))))) (by decide +kernel) ?_
  refine g_goto C 259 (off := (-107)) (by decide +kernel) (by decide) ?_
  refine g_sub (lo2 := [(2, 0), (9, 0), (0, x2), (9, 0), (9, 0), (9, 0), (9, 0), (0, x7), (0, x8), (0, x9), (0, (w32 (x10 + 1))), (9, 0), (9, 0), (9, 0)]) (lsb_v (lsb_c (lsb_v (lsb_c (lsb_c (lsb_c (lsb_c (lsb_v (lsb_v (lsb_v (lsb_v (lsb_c (lsb_c (lsb_c lsb_e)))))))))))))) ?_
  obtain rfl := Option.some.inj h
  exact kb x2 x7 x8 x9 (w32 (x10 + 1)) d rfl hx2 hx7 hx8 hx9 (w32_c _)
set_option maxHeartbeats 4000000 in
theorem ok_Mo_draw_b359 {p : Program} {l : Launch} {e : Env} {s : State} {m : MethodId} {args : Array Value} {below : List Frame} {meth : Method} {c : Code} {D : va_G} {cA : Nat → ClassId} {ad : Nat → Nat} {A : Nat → Prop} (C : Cx p s m args c prog_14_method_113_code 14 "PollBooksModel" D cA ad 1 A) {Q : State → Prop} {o : (Int × Int × Int × Int × Int × Dt) ⊕ ((Int × Int × Int × Int × Dt))} (x2 x7 x8 x10 : Int) (d : Dt) (hx2 : c32 x2) (hx7 : c32 x7) (hx8 : c32 x8) (hx10 : c32 x10) (h : L_Mo_draw_b359 x2 x7 x8 x10 d = some o) (kb : ∀ (y0 y1 y2 y3 y4 : Int) (e' : Dt), o = .inl (y0, y1, y2, y3, y4, e') → c32 y0 → c32 y1 → c32 y2 → c32 y3 → c32 y4 → G p l e rm_Mo_draw s m args below meth c 0 0 Q 14 D cA ad 1 A 259 [(2, 0), (9, 0), (0, y0), (9, 0), (9, 0), (9, 0), (9, 0), (0, y1), (0, y2), (0, y3), (0, y4), (9, 0), (9, 0), (9, 0)] [] e') (k0 : ∀ (y0 y1 y2 y3 : Int) (e' : Dt), o = .inr (y0, y1, y2, y3, e') → c32 y0 → c32 y1 → c32 y2 → c32 y3 → G p l e rm_Mo_draw s m args below meth c 0 0 Q 14 D cA ad 1 A 369 [(2, 0), (9, 0), (0, y0), (9, 0), (9, 0), (9, 0), (9, 0), (0, y1), (0, y2), (0, y3), (9, 0), (9, 0), (9, 0), (9, 0)] [] e') : G p l e rm_Mo_draw s m args below meth c 0 0 Q 14 D cA ad 1 A 359 [(2, 0), (9, 0), (0, x2), (9, 0), (9, 0), (9, 0), (9, 0), (0, x7), (0, x8), (9, 0), (0, x10), (9, 0), (9, 0), (9, 0)] [] d := by
  unfold L_Mo_draw_b359 at h
  refine g_iload C 10 rfl (by decide +kernel) ?_
  refine s_istore C 9 (lo' := [(2, 0), (9, 0), (0, x2), (9, 0), (9, 0), (9, 0), (9, 0), (0, x7), (0, x8), (0, x10), (0, x10), (9, 0), (9, 0), (9, 0)]) (by decide) (s1k (s1k (s1k (s1k (s1k (s1k (s1k (s1k (s1n (by decide) s1z))))))))) (by decide +kernel) ?_
  refine g_sub (lo2 := [(2, 0), (9, 0), (0, x2), (9, 0), (9, 0), (9, 0), (9, 0), (0, x7), (0, x8), (0, x10), (0, x10), (9, 0), (9, 0), (9, 0)]) (lsb_v (lsb_c (lsb_v (lsb_c (lsb_c (lsb_c (lsb_c (lsb_v (lsb_v (lsb_v (lsb_v (lsb_c (lsb_c (lsb_c lsb_e)))))))))))))) ?_
  exact ok_Mo_draw_b363 C x2 x7 x8 x10 x10 d hx2 hx7 hx8 hx10 hx10 h kb k0
set_option maxHeartbeats 4000000 in
theorem ok_Mo_draw_b328 {p : Program} {l : Launch} {e : Env} {s : State} {m : MethodId} {args : Array Value} {below : List Frame} {meth : Method} {c : Code} {D : va_G} {cA : Nat → ClassId} {ad : Nat → Nat} {A : Nat → Prop} (C : Cx p s m args c prog_14_method_113_code 14 "PollBooksModel" D cA ad 1 A) {Q : State → Prop} {o : (Int × Int × Int × Int × Int × Dt) ⊕ ((Int × Int × Int × Int × Dt))} (x2 x7 x8 x9 x10 x11 x12 s0 : Int) (d : Dt) (hx2 : c32 x2) (hx7 : c32 x7) (hx8 : c32 x8) (hx9 : c32 x9) (hx10 : c32 x10) (hx11 : c32 x11) (hx12 : c32 x12) (hs0 : cb s0) (h : L_Mo_draw_b328 x2 x7 x8 x9 x10 x11 x12 s0 d = some o) (kb : ∀ (y0 y1 y2 y3 y4 : Int) (e' : Dt), o = .inl (y0, y1, y2, y3, y4, e') → c32 y0 → c32 y1 → c32 y2 → c32 y3 → c32 y4 → G p l e rm_Mo_draw s m args below meth c 0 0 Q 14 D cA ad 1 A 259 [(2, 0), (9, 0), (0, y0), (9, 0), (9, 0), (9, 0), (9, 0), (0, y1), (0, y2), (0, y3), (0, y4), (9, 0), (9, 0), (9, 0)] [] e') (k0 : ∀ (y0 y1 y2 y3 : Int) (e' : Dt), o = .inr (y0, y1, y2, y3, e') → c32 y0 → c32 y1 → c32 y2 → c32 y3 → G p l e rm_Mo_draw s m args below meth c 0 0 Q 14 D cA ad 1 A 369 [(2, 0), (9, 0), (0, y0), (9, 0), (9, 0), (9, 0), (9, 0), (0, y1), (0, y2), (0, y3), (9, 0), (9, 0), (9, 0), (9, 0)] [] e') : G p l e rm_Mo_draw s m args below meth c 0 0 Q 14 D cA ad 1 A 328 [(2, 0), (9, 0), (0, x2), (9, 0), (9, 0), (9, 0), (9, 0), (0, x7), (0, x8), (0, x9), (0, x10), (0, x11), (0, x12), (9, 0)] [(0, s0)] d := by
  unfold L_Mo_draw_b328 at h
  refine s_istore C 13 (lo' := [(2, 0), (9, 0), (0, x2), (9, 0), (9, 0), (9, 0), (9, 0), (0, x7), (0, x8), (0, x9), (0, x10), (0, x11), (0, x12), (0, s0)]) (by decide) (s1k (s1k (s1k (s1k (s1k (s1k (s1k (s1k (s1k (s1k (s1k (s1k (s1n (by decide) s1z))))))))))))) (by decide +kernel) ?_
  refine g_iload C 13 rfl (by decide +kernel) ?_
  refine g_if_ne C (off := 27) (tgt := 359) (c32_cb hs0) (by decide +kernel) (by decide) (fun hc80_ => ?_) (fun hc80_ => ?_)
  · replace h := ite_t hc80_ h
    refine g_iload C 11 rfl (by decide +kernel) ?_
    refine g_iload C 12 rfl (by decide +kernel) ?_
    refine g_icmp_ne C (off := 24) (tgt := 363) hx11 hx12 (by decide +kernel) (by decide) (fun hc81_ => ?_) (fun hc81_ => ?_)
    · replace h := ite_t hc81_ h
      refine g_aload_n C 0 rfl (by decide +kernel) ?_
      refine g_getR C cl12 0 97 73 rfl cd_B0 ⟨by decide, rfl, by decide⟩ rfl rfl (nB (by decide)) (ix := 242) lk_1499 (by decide +kernel) ?_
      refine g_iload C 10 rfl (by decide +kernel) ?_
      obtain ⟨hb82_, h⟩ := ck_some h
      refine g_iald C 73 hx10 rfl cd_B73 (nB (by decide)) hb82_ (by decide +kernel) (fun hc83_ => ?_)
      refine g_aload_n C 0 rfl (by decide +kernel) ?_
      refine g_getR C cl12 0 97 73 rfl cd_B0 ⟨by decide, rfl, by decide⟩ rfl rfl (nB (by decide)) (ix := 242) lk_1499 (by decide +kernel) ?_
      refine g_iload C 9 rfl (by decide +kernel) ?_
      obtain ⟨hb84_, h⟩ := ck_some h
      refine g_iald C 73 hx9 rfl cd_B73 (nB (by decide)) hb84_ (by decide +kernel) (fun hc85_ => ?_)
      refine g_icmp_ge C (off := 7) (tgt := 363) hc83_ hc85_ (by decide +kernel) (by decide) (fun hc86_ => ?_) (fun hc86_ => ?_)
      · replace h := ite_t hc86_ h
        refine g_sub (lo2 := [(2, 0), (9, 0), (0, x2), (9, 0), (9, 0), (9, 0), (9, 0), (0, x7), (0, x8), (9, 0), (0, x10), (9, 0), (9, 0), (9, 0)]) (lsb_v (lsb_c (lsb_v (lsb_c (lsb_c (lsb_c (lsb_c (lsb_v (lsb_v (lsb_c (lsb_v (lsb_c (lsb_c (lsb_c lsb_e)))))))))))))) ?_
        exact ok_Mo_draw_b359 C x2 x7 x8 x10 d hx2 hx7 hx8 hx10 h kb k0
      · replace h := ite_f hc86_ h
        refine g_sub (lo2 := [(2, 0), (9, 0), (0, x2), (9, 0), (9, 0), (9, 0), (9, 0), (0, x7), (0, x8), (0, x9), (0, x10), (9, 0), (9, 0), (9, 0)]) (lsb_v (lsb_c (lsb_v (lsb_c (lsb_c (lsb_c (lsb_c (lsb_v (lsb_v (lsb_v (lsb_v (lsb_c (lsb_c (lsb_c lsb_e)))))))))))))) ?_
        exact ok_Mo_draw_b363 C x2 x7 x8 x9 x10 d hx2 hx7 hx8 hx9 hx10 h kb k0
    · replace h := ite_f hc81_ h
      refine g_sub (lo2 := [(2, 0), (9, 0), (0, x2), (9, 0), (9, 0), (9, 0), (9, 0), (0, x7), (0, x8), (0, x9), (0, x10), (9, 0), (9, 0), (9, 0)]) (lsb_v (lsb_c (lsb_v (lsb_c (lsb_c (lsb_c (lsb_c (lsb_v (lsb_v (lsb_v (lsb_v (lsb_c (lsb_c (lsb_c lsb_e)))))))))))))) ?_
      exact ok_Mo_draw_b363 C x2 x7 x8 x9 x10 d hx2 hx7 hx8 hx9 hx10 h kb k0
  · replace h := ite_f hc80_ h
    refine g_sub (lo2 := [(2, 0), (9, 0), (0, x2), (9, 0), (9, 0), (9, 0), (9, 0), (0, x7), (0, x8), (9, 0), (0, x10), (9, 0), (9, 0), (9, 0)]) (lsb_v (lsb_c (lsb_v (lsb_c (lsb_c (lsb_c (lsb_c (lsb_v (lsb_v (lsb_c (lsb_v (lsb_c (lsb_c (lsb_c lsb_e)))))))))))))) ?_
    exact ok_Mo_draw_b359 C x2 x7 x8 x10 d hx2 hx7 hx8 hx10 h kb k0
set_option maxHeartbeats 4000000 in
theorem ok_Mo_draw_y259 {p : Program} {l : Launch} {e : Env} {s : State} {m : MethodId} {args : Array Value} {below : List Frame} {meth : Method} {c : Code} {D : va_G} {cA : Nat → ClassId} {ad : Nat → Nat} {A : Nat → Prop} (C : Cx p s m args c prog_14_method_113_code 14 "PollBooksModel" D cA ad 1 A) {Q : State → Prop} {o : (Int × Int × Int × Int × Int × Dt) ⊕ ((Int × Int × Int × Int × Dt))} (x2 x7 x8 x9 x10 : Int) (d : Dt) (hx2 : c32 x2) (hx7 : c32 x7) (hx8 : c32 x8) (hx9 : c32 x9) (hx10 : c32 x10) (h : L_Mo_draw_y259 x2 x7 x8 x9 x10 d = some o) (kb : ∀ (y0 y1 y2 y3 y4 : Int) (e' : Dt), o = .inl (y0, y1, y2, y3, y4, e') → c32 y0 → c32 y1 → c32 y2 → c32 y3 → c32 y4 → G p l e rm_Mo_draw s m args below meth c 0 0 Q 14 D cA ad 1 A 259 [(2, 0), (9, 0), (0, y0), (9, 0), (9, 0), (9, 0), (9, 0), (0, y1), (0, y2), (0, y3), (0, y4), (9, 0), (9, 0), (9, 0)] [] e') (k0 : ∀ (y0 y1 y2 y3 : Int) (e' : Dt), o = .inr (y0, y1, y2, y3, e') → c32 y0 → c32 y1 → c32 y2 → c32 y3 → G p l e rm_Mo_draw s m args below meth c 0 0 Q 14 D cA ad 1 A 369 [(2, 0), (9, 0), (0, y0), (9, 0), (9, 0), (9, 0), (9, 0), (0, y1), (0, y2), (0, y3), (9, 0), (9, 0), (9, 0), (9, 0)] [] e') : G p l e rm_Mo_draw s m args below meth c 0 0 Q 14 D cA ad 1 A 259 [(2, 0), (9, 0), (0, x2), (9, 0), (9, 0), (9, 0), (9, 0), (0, x7), (0, x8), (0, x9), (0, x10), (9, 0), (9, 0), (9, 0)] [] d := by
  unfold L_Mo_draw_y259 at h
  refine g_iload C 10 rfl (by decide +kernel) ?_
  refine g_iload C 7 rfl (by decide +kernel) ?_
  refine g_icmp_ge C (off := 106) (tgt := 369) hx10 hx7 (by decide +kernel) (by decide) (fun hc87_ => ?_) (fun hc87_ => ?_)
  · replace h := ite_t hc87_ h
    refine g_aload_n C 0 rfl (by decide +kernel) ?_
    refine g_getR C cl12 0 93 69 rfl cd_B0 ⟨by decide, rfl, by decide⟩ rfl rfl (nB (by decide)) (ix := 230) lk_1495 (by decide +kernel) ?_
    refine g_aload_n C 0 rfl (by decide +kernel) ?_
    refine g_getR C cl12 0 97 73 rfl cd_B0 ⟨by decide, rfl, by decide⟩ rfl rfl (nB (by decide)) (ix := 242) lk_1499 (by decide +kernel) ?_
    refine g_iload C 10 rfl (by decide +kernel) ?_
    obtain ⟨hb88_, h⟩ := ck_some h
    refine g_iald C 73 hx10 rfl cd_B73 (nB (by decide)) hb88_ (by decide +kernel) (fun hc89_ => ?_)
    obtain ⟨hb90_, h⟩ := ck_some h
    refine g_iald C 69 hc89_ rfl cd_B69 (nB (by decide)) hb90_ (by decide +kernel) (fun hc91_ => ?_)
    obtain ⟨v92_, ev93_, h⟩ := lt_some h
    refine g_val ev93_.symm ?_
    have hv94_ : c32 v92_ := by rw [ev93_]; exact hc91_
    refine s_istore C 11 (lo' := [(2, 0), (9, 0), (0, x2), (9, 0), (9, 0), (9, 0), (9, 0), (0, x7), (0, x8), (0, x9), (0, x10), (0, v92_), (9, 0), (9, 0)]) (by decide) (s1k (s1k (s1k (s1k (s1k (s1k (s1k (s1k (s1k (s1k (s1n (by decide) s1z))))))))))) (by decide +kernel) ?_
    refine g_aload_n C 0 rfl (by decide +kernel) ?_
    refine g_getR C cl12 0 93 69 rfl cd_B0 ⟨by decide, rfl, by decide⟩ rfl rfl (nB (by decide)) (ix := 230) lk_1495 (by decide +kernel) ?_
    refine g_aload_n C 0 rfl (by decide +kernel) ?_
    refine g_getR C cl12 0 97 73 rfl cd_B0 ⟨by decide, rfl, by decide⟩ rfl rfl (nB (by decide)) (ix := 242) lk_1499 (by decide +kernel) ?_
    refine g_iload C 9 rfl (by decide +kernel) ?_
    obtain ⟨hb95_, h⟩ := ck_some h
    refine g_iald C 73 hx9 rfl cd_B73 (nB (by decide)) hb95_ (by decide +kernel) (fun hc96_ => ?_)
    obtain ⟨hb97_, h⟩ := ck_some h
    refine g_iald C 69 hc96_ rfl cd_B69 (nB (by decide)) hb97_ (by decide +kernel) (fun hc98_ => ?_)
    obtain ⟨v99_, ev100_, h⟩ := lt_some h
    refine g_val ev100_.symm ?_
    have hv101_ : c32 v99_ := by rw [ev100_]; exact hc98_
    refine s_istore C 12 (lo' := [(2, 0), (9, 0), (0, x2), (9, 0), (9, 0), (9, 0), (9, 0), (0, x7), (0, x8), (0, x9), (0, x10), (0, v92_), (0, v99_), (9, 0)]) (by decide) (s1k (s1k (s1k (s1k (s1k (s1k (s1k (s1k (s1k (s1k (s1k (s1n (by decide) s1z)))))))))))) (by decide +kernel) ?_
    refine g_iload C 8 rfl (by decide +kernel) ?_
    refine g_iconst C 2 (cK rfl) (by decide +kernel) ?_
    refine g_irem C (cK rfl) (by decide) (by decide +kernel) ?_
    refine g_if_ne C (off := 18) (tgt := 316) (i_c _) (by decide +kernel) (by decide) (fun hc102_ => ?_) (fun hc102_ => ?_)
    · replace h := ite_t hc102_ h
      refine g_iload C 11 rfl (by decide +kernel) ?_
      refine g_iload C 12 rfl (by decide +kernel) ?_
      refine g_icmp_ge C (off := 7) (tgt := 312) hv94_ hv101_ (by decide +kernel) (by decide) (fun hc103_ => ?_) (fun hc103_ => ?_)
      · replace h := ite_t hc103_ h
        refine g_iconst C 1 (cK rfl) (by decide +kernel) ?_
        refine g_goto C 328 (off := 19) (by decide +kernel) (by decide) ?_
        refine g_sub (lo2 := [(2, 0), (9, 0), (0, x2), (9, 0), (9, 0), (9, 0), (9, 0), (0, x7), (0, x8), (0, x9), (0, x10), (0, v92_), (0, v99_), (9, 0)]) (lsb_v (lsb_c (lsb_v (lsb_c (lsb_c (lsb_c (lsb_c (lsb_v (lsb_v (lsb_v (lsb_v (lsb_v (lsb_v (lsb_c lsb_e)))))))))))))) ?_
        exact ok_Mo_draw_b328 C x2 x7 x8 x9 x10 v92_ v99_ 1 d hx2 hx7 hx8 hx9 hx10 hv94_ hv101_ (Or.inr rfl) h kb k0
      · replace h := ite_f hc103_ h
        refine g_iconst C 0 (cK rfl) (by decide +kernel) ?_
        refine g_goto C 328 (off := 15) (by decide +kernel) (by decide) ?_
        refine g_sub (lo2 := [(2, 0), (9, 0), (0, x2), (9, 0), (9, 0), (9, 0), (9, 0), (0, x7), (0, x8), (0, x9), (0, x10), (0, v92_), (0, v99_), (9, 0)]) (lsb_v (lsb_c (lsb_v (lsb_c (lsb_c (lsb_c (lsb_c (lsb_v (lsb_v (lsb_v (lsb_v (lsb_v (lsb_v (lsb_c lsb_e)))))))))))))) ?_
        exact ok_Mo_draw_b328 C x2 x7 x8 x9 x10 v92_ v99_ 0 d hx2 hx7 hx8 hx9 hx10 hv94_ hv101_ (Or.inl rfl) h kb k0
    · replace h := ite_f hc102_ h
      refine g_iload C 11 rfl (by decide +kernel) ?_
      refine g_iload C 12 rfl (by decide +kernel) ?_
      refine g_icmp_le C (off := 7) (tgt := 327) hv94_ hv101_ (by decide +kernel) (by decide) (fun hc104_ => ?_) (fun hc104_ => ?_)
      · replace h := ite_t hc104_ h
        refine g_iconst C 1 (cK rfl) (by decide +kernel) ?_
        refine g_goto C 328 (off := 4) (by decide +kernel) (by decide) ?_
        refine g_sub (lo2 := [(2, 0), (9, 0), (0, x2), (9, 0), (9, 0), (9, 0), (9, 0), (0, x7), (0, x8), (0, x9), (0, x10), (0, v92_), (0, v99_), (9, 0)]) (lsb_v (lsb_c (lsb_v (lsb_c (lsb_c (lsb_c (lsb_c (lsb_v (lsb_v (lsb_v (lsb_v (lsb_v (lsb_v (lsb_c lsb_e)))))))))))))) ?_
        exact ok_Mo_draw_b328 C x2 x7 x8 x9 x10 v92_ v99_ 1 d hx2 hx7 hx8 hx9 hx10 hv94_ hv101_ (Or.inr rfl) h kb k0
      · replace h := ite_f hc104_ h
        refine g_iconst C 0 (cK rfl) (by decide +kernel) ?_
        refine g_sub (lo2 := [(2, 0), (9, 0), (0, x2), (9, 0), (9, 0), (9, 0), (9, 0), (0, x7), (0, x8), (0, x9), (0, x10), (0, v92_), (0, v99_), (9, 0)]) (lsb_v (lsb_c (lsb_v (lsb_c (lsb_c (lsb_c (lsb_c (lsb_v (lsb_v (lsb_v (lsb_v (lsb_v (lsb_v (lsb_c lsb_e)))))))))))))) ?_
        exact ok_Mo_draw_b328 C x2 x7 x8 x9 x10 v92_ v99_ 0 d hx2 hx7 hx8 hx9 hx10 hv94_ hv101_ (Or.inl rfl) h kb k0
  · replace h := ite_f hc87_ h
    refine g_sub (lo2 := [(2, 0), (9, 0), (0, x2), (9, 0), (9, 0), (9, 0), (9, 0), (0, x7), (0, x8), (0, x9), (9, 0), (9, 0), (9, 0), (9, 0)]) (lsb_v (lsb_c (lsb_v (lsb_c (lsb_c (lsb_c (lsb_c (lsb_v (lsb_v (lsb_v (lsb_c (lsb_c (lsb_c (lsb_c lsb_e)))))))))))))) ?_
    obtain rfl := Option.some.inj h
    exact k0 x2 x7 x8 x9 d rfl hx2 hx7 hx8 hx9
set_option maxHeartbeats 4000000 in
theorem ok_Mo_draw_n259 {p : Program} {l : Launch} {e : Env} {s : State} {m : MethodId} {args : Array Value} {below : List Frame} {meth : Method} {c : Code} {D : va_G} {cA : Nat → ClassId} {ad : Nat → Nat} {A : Nat → Prop} (C : Cx p s m args c prog_14_method_113_code 14 "PollBooksModel" D cA ad 1 A) {Q : State → Prop} {x : (Int × Int × Int × Int × Dt)} : ∀ (n : Nat) (x2 x7 x8 x9 x10 : Int) (d : Dt), c32 x2 → c32 x7 → c32 x8 → c32 x9 → c32 x10 → lpF (fun q : Int × Int × Int × Int × Int × Dt => L_Mo_draw_y259 q.1 q.2.1 q.2.2.1 q.2.2.2.1 q.2.2.2.2.1 q.2.2.2.2.2) n (x2, x7, x8, x9, x10, d) = some x → (∀ (y0 y1 y2 y3 : Int) (e' : Dt), x = (y0, y1, y2, y3, e') → c32 y0 → c32 y1 → c32 y2 → c32 y3 → G p l e rm_Mo_draw s m args below meth c 0 0 Q 14 D cA ad 1 A 369 [(2, 0), (9, 0), (0, y0), (9, 0), (9, 0), (9, 0), (9, 0), (0, y1), (0, y2), (0, y3), (9, 0), (9, 0), (9, 0), (9, 0)] [] e') → G p l e rm_Mo_draw s m args below meth c 0 0 Q 14 D cA ad 1 A 259 [(2, 0), (9, 0), (0, x2), (9, 0), (9, 0), (9, 0), (9, 0), (0, x7), (0, x8), (0, x9), (0, x10), (9, 0), (9, 0), (9, 0)] [] d := by
  intro n
  induction n with
  | zero => intro x2 x7 x8 x9 x10 d g0 g1 g2 g3 g4 h k0; cases h
  | succ n ih =>
    intro x2 x7 x8 x9 x10 d g0 g1 g2 g3 g4 h k0
    rcases lpF_some h with h | ⟨⟨v0_, v1_, v2_, v3_, v4_, e0_⟩, h1, h⟩
    · exact ok_Mo_draw_y259 C x2 x7 x8 x9 x10 d g0 g1 g2 g3 g4 h (fun z0_ z1_ z2_ z3_ z4_ e1_ eq w0_ w1_ w2_ w3_ w4_ => by cases eq) (fun z0_ z1_ z2_ z3_ e1_ eq w0_ w1_ w2_ w3_ => k0 _ _ _ _ _ (by cases eq; rfl) w0_ w1_ w2_ w3_)
    · exact ok_Mo_draw_y259 C x2 x7 x8 x9 x10 d g0 g1 g2 g3 g4 h1 (fun z0_ z1_ z2_ z3_ z4_ e1_ eq w0_ w1_ w2_ w3_ w4_ => by cases eq; exact ih _ _ _ _ _ _ w0_ w1_ w2_ w3_ w4_ h k0) (fun z0_ z1_ z2_ z3_ e1_ eq w0_ w1_ w2_ w3_ => by cases eq)
set_option maxHeartbeats 4000000 in
theorem ok_Mo_draw_l259 {p : Program} {l : Launch} {e : Env} {s : State} {m : MethodId} {args : Array Value} {below : List Frame} {meth : Method} {c : Code} {D : va_G} {cA : Nat → ClassId} {ad : Nat → Nat} {A : Nat → Prop} (C : Cx p s m args c prog_14_method_113_code 14 "PollBooksModel" D cA ad 1 A) {Q : State → Prop} {x : (Int × Int × Int × Int × Dt)} (x2 x7 x8 x9 x10 : Int) (d : Dt) (hx2 : c32 x2) (hx7 : c32 x7) (hx8 : c32 x8) (hx9 : c32 x9) (hx10 : c32 x10) (h : L_Mo_draw_l259 x2 x7 x8 x9 x10 d = some x) (k0 : ∀ (y0 y1 y2 y3 : Int) (e' : Dt), x = (y0, y1, y2, y3, e') → c32 y0 → c32 y1 → c32 y2 → c32 y3 → G p l e rm_Mo_draw s m args below meth c 0 0 Q 14 D cA ad 1 A 369 [(2, 0), (9, 0), (0, y0), (9, 0), (9, 0), (9, 0), (9, 0), (0, y1), (0, y2), (0, y3), (9, 0), (9, 0), (9, 0), (9, 0)] [] e') : G p l e rm_Mo_draw s m args below meth c 0 0 Q 14 D cA ad 1 A 259 [(2, 0), (9, 0), (0, x2), (9, 0), (9, 0), (9, 0), (9, 0), (0, x7), (0, x8), (0, x9), (0, x10), (9, 0), (9, 0), (9, 0)] [] d :=
  ok_Mo_draw_n259 C FU x2 x7 x8 x9 x10 d hx2 hx7 hx8 hx9 hx10 h k0
set_option maxHeartbeats 4000000 in
theorem ok_Mo_draw_y247 {p : Program} {l : Launch} {e : Env} {s : State} {m : MethodId} {args : Array Value} {below : List Frame} {meth : Method} {c : Code} {D : va_G} {cA : Nat → ClassId} {ad : Nat → Nat} {A : Nat → Prop} (C : Cx p s m args c prog_14_method_113_code 14 "PollBooksModel" D cA ad 1 A) {Q : State → Prop} {o : (Int × Int × Int × Dt) ⊕ ((Int × Dt))} (x2 x7 x8 : Int) (d : Dt) (hx2 : c32 x2) (hx7 : c32 x7) (hx8 : c32 x8) (h : L_Mo_draw_y247 x2 x7 x8 d = some o) (kb : ∀ (y0 y1 y2 : Int) (e' : Dt), o = .inl (y0, y1, y2, e') → c32 y0 → c32 y1 → c32 y2 → G p l e rm_Mo_draw s m args below meth c 0 0 Q 14 D cA ad 1 A 247 [(2, 0), (9, 0), (0, y0), (9, 0), (9, 0), (9, 0), (9, 0), (0, y1), (0, y2), (9, 0), (9, 0), (9, 0), (9, 0), (9, 0)] [] e') (k0 : ∀ (y0 : Int) (e' : Dt), o = .inr (y0, e') → c32 y0 → G p l e rm_Mo_draw s m args below meth c 0 0 Q 14 D cA ad 1 A 413 [(2, 0), (9, 0), (9, 0), (9, 0), (9, 0), (9, 0), (9, 0), (0, y0), (9, 0), (9, 0), (9, 0), (9, 0), (9, 0), (9, 0)] [] e') : G p l e rm_Mo_draw s m args below meth c 0 0 Q 14 D cA ad 1 A 247 [(2, 0), (9, 0), (0, x2), (9, 0), (9, 0), (9, 0), (9, 0), (0, x7), (0, x8), (9, 0), (9, 0), (9, 0), (9, 0), (9, 0)] [] d := by
  unfold L_Mo_draw_y247 at h
  refine g_iload C 7 rfl (by decide +kernel) ?_
  refine g_iload_n C 2 rfl (by decide +kernel) ?_
  refine g_icmp_le C (off := 163) (tgt := 413) hx7 hx2 (by decide +kernel) (by decide) (fun hc105_ => ?_) (fun hc105_ => ?_)
  · replace h := ite_t hc105_ h
    refine g_iconst C 0 (cK rfl) (by decide +kernel) ?_
    refine s_istore C 9 (lo' := [(2, 0), (9, 0), (0, x2), (9, 0), (9, 0), (9, 0), (9, 0), (0, x7), (0, x8), (0, 0), (9, 0), (9, 0), (9, 0), (9, 0)]) (by decide) (s1k (s1k (s1k (s1k (s1k (s1k (s1k (s1k (s1n (by decide) s1z))))))))) (by decide +kernel) ?_
    refine g_iconst C 1 (cK rfl) (by decide +kernel) ?_
    refine s_istore C 10 (lo' := [(2, 0), (9, 0), (0, x2), (9, 0), (9, 0), (9, 0), (9, 0), (0, x7), (0, x8), (0, 0), (0, 1), (9, 0), (9, 0), (9, 0)]) (by decide) (s1k (s1k (s1k (s1k (s1k (s1k (s1k (s1k (s1k (s1n (by decide) s1z)))))))))) (by decide +kernel) ?_
    refine g_sub (lo2 := [(2, 0), (9, 0), (0, x2), (9, 0), (9, 0), (9, 0), (9, 0), (0, x7), (0, x8), (0, 0), (0, 1), (9, 0), (9, 0), (9, 0)]) (lsb_v (lsb_c (lsb_v (lsb_c (lsb_c (lsb_c (lsb_c (lsb_v (lsb_v (lsb_v (lsb_v (lsb_c (lsb_c (lsb_c lsb_e)))))))))))))) ?_
    obtain ⟨x106_, hx107_, h⟩ := lb_some h
    refine ok_Mo_draw_l259 C x2 x7 x8 0 1 d hx2 hx7 hx8 (c32_cb (Or.inl rfl)) (c32_cb (Or.inr rfl)) hx107_ (fun v108_ v109_ v110_ v111_ d112_ eq113_ hv108_ hv109_ hv110_ hv111_ => ?_)
    subst eq113_
    replace h := u4_e h
    refine g_iload C 9 rfl (by decide +kernel) ?_
    refine s_istore C 10 (lo' := [(2, 0), (9, 0), (0, v108_), (9, 0), (9, 0), (9, 0), (9, 0), (0, v109_), (0, v110_), (0, v111_), (0, v111_), (9, 0), (9, 0), (9, 0)]) (by decide) (s1k (s1k (s1k (s1k (s1k (s1k (s1k (s1k (s1k (s1n (by decide) s1z)))))))))) (by decide +kernel) ?_
    refine g_sub (lo2 := [(2, 0), (9, 0), (0, v108_), (9, 0), (9, 0), (9, 0), (9, 0), (0, v109_), (0, v110_), (9, 0), (0, v111_), (9, 0), (9, 0), (9, 0)]) (lsb_v (lsb_c (lsb_v (lsb_c (lsb_c (lsb_c (lsb_c (lsb_v (lsb_v (lsb_c (lsb_v (lsb_c (lsb_c (lsb_c lsb_e)))))))))))))) ?_
    obtain ⟨x114_, hx115_, h⟩ := lb_some h
    refine ok_Mo_draw_l373 C v108_ v109_ v110_ v111_ d112_ hv108_ hv109_ hv110_ hv111_ hx115_ (fun v116_ v117_ v118_ d119_ eq120_ hv116_ hv117_ hv118_ => ?_)
    subst eq120_
    replace h := u3_e h
    refine s_iinc C 7 (-1) (lo' := [(2, 0), (9, 0), (0, v116_), (9, 0), (9, 0), (9, 0), (9, 0), (0, (w32 (v117_ + (-1)))), (0, v118_), (9, 0), (9, 0), (9, 0), (9, 0), (9, 0)]) rfl (by decide) (s1k (s1k (s1k (s1k (s1k (s1k (s1n (by decide) s1z))))))) (by decide +kernel) ?_
    refine s_iinc C 8 1 (lo' := [(2, 0), (9, 0), (0, v116_), (9, 0), (9, 0), (9, 0), (9, 0), (0, (w32 (v117_ + (-1)))), (0, (w32 (v118_ + 1))), (9, 0), (9, 0), (9, 0), (9, 0), (9, 0)]) rfl (by decide) (s1k (s1k (s1k (s1k (s1k (s1k (s1k (s1n (by decide) s1z)))))))) (by decide +kernel) ?_
    refine g_goto C 247 (off := (-163)) (by decide +kernel) (by decide) ?_
    refine g_sub (lo2 := [(2, 0), (9, 0), (0, v116_), (9, 0), (9, 0), (9, 0), (9, 0), (0, (w32 (v117_ + (-1)))), (0, (w32 (v118_ + 1))), (9, 0), (9, 0), (9, 0), (9, 0), (9, 0)]) (lsb_v (lsb_c (lsb_v (lsb_c (lsb_c (lsb_c (lsb_c (lsb_v (lsb_v (lsb_c (lsb_c (lsb_c (lsb_c (lsb_c lsb_e)))))))))))))) ?_
    obtain rfl := Option.some.inj h
    exact kb v116_ (w32 (v117_ + (-1))) (w32 (v118_ + 1)) d119_ rfl hv116_ (w32_c _) (w32_c _)
  · replace h := ite_f hc105_ h
    refine g_sub (lo2 := [(2, 0), (9, 0), (9, 0), (9, 0), (9, 0), (9, 0), (9, 0), (0, x7), (9, 0), (9, 0), (9, 0), (9, 0), (9, 0), (9, 0)]) (lsb_v (lsb_c (lsb_c (lsb_c (lsb_c (lsb_c (lsb_c (lsb_v (lsb_c (lsb_c (lsb_c (lsb_c (lsb_c (lsb_c lsb_e)))))))))))))) ?_
    obtain rfl := Option.some.inj h
    exact k0 x7 d rfl hx7
set_option maxHeartbeats 4000000 in
theorem ok_Mo_draw_n247 {p : Program} {l : Launch} {e : Env} {s : State} {m : MethodId} {args : Array Value} {below : List Frame} {meth : Method} {c : Code} {D : va_G} {cA : Nat → ClassId} {ad : Nat → Nat} {A : Nat → Prop} (C : Cx p s m args c prog_14_method_113_code 14 "PollBooksModel" D cA ad 1 A) {Q : State → Prop} {x : (Int × Dt)} : ∀ (n : Nat) (x2 x7 x8 : Int) (d : Dt), c32 x2 → c32 x7 → c32 x8 → lpF (fun q : Int × Int × Int × Dt => L_Mo_draw_y247 q.1 q.2.1 q.2.2.1 q.2.2.2) n (x2, x7, x8, d) = some x → (∀ (y0 : Int) (e' : Dt), x = (y0, e') → c32 y0 → G p l e rm_Mo_draw s m args below meth c 0 0 Q 14 D cA ad 1 A 413 [(2, 0), (9, 0), (9, 0), (9, 0), (9, 0), (9, 0), (9, 0), (0, y0), (9, 0), (9, 0), (9, 0), (9, 0), (9, 0), (9, 0)] [] e') → G p l e rm_Mo_draw s m args below meth c 0 0 Q 14 D cA ad 1 A 247 [(2, 0), (9, 0), (0, x2), (9, 0), (9, 0), (9, 0), (9, 0), (0, x7), (0, x8), (9, 0), (9, 0), (9, 0), (9, 0), (9, 0)] [] d := by
  intro n
  induction n with
  | zero => intro x2 x7 x8 d g0 g1 g2 h k0; cases h
  | succ n ih =>
    intro x2 x7 x8 d g0 g1 g2 h k0
    rcases lpF_some h with h | ⟨⟨v0_, v1_, v2_, e0_⟩, h1, h⟩
    · exact ok_Mo_draw_y247 C x2 x7 x8 d g0 g1 g2 h (fun z0_ z1_ z2_ e1_ eq w0_ w1_ w2_ => by cases eq) (fun z0_ e1_ eq w0_ => k0 _ _ (by cases eq; rfl) w0_)
    · exact ok_Mo_draw_y247 C x2 x7 x8 d g0 g1 g2 h1 (fun z0_ z1_ z2_ e1_ eq w0_ w1_ w2_ => by cases eq; exact ih _ _ _ _ w0_ w1_ w2_ h k0) (fun z0_ e1_ eq w0_ => by cases eq)
set_option maxHeartbeats 4000000 in
theorem ok_Mo_draw_l247 {p : Program} {l : Launch} {e : Env} {s : State} {m : MethodId} {args : Array Value} {below : List Frame} {meth : Method} {c : Code} {D : va_G} {cA : Nat → ClassId} {ad : Nat → Nat} {A : Nat → Prop} (C : Cx p s m args c prog_14_method_113_code 14 "PollBooksModel" D cA ad 1 A) {Q : State → Prop} {x : (Int × Dt)} (x2 x7 x8 : Int) (d : Dt) (hx2 : c32 x2) (hx7 : c32 x7) (hx8 : c32 x8) (h : L_Mo_draw_l247 x2 x7 x8 d = some x) (k0 : ∀ (y0 : Int) (e' : Dt), x = (y0, e') → c32 y0 → G p l e rm_Mo_draw s m args below meth c 0 0 Q 14 D cA ad 1 A 413 [(2, 0), (9, 0), (9, 0), (9, 0), (9, 0), (9, 0), (9, 0), (0, y0), (9, 0), (9, 0), (9, 0), (9, 0), (9, 0), (9, 0)] [] e') : G p l e rm_Mo_draw s m args below meth c 0 0 Q 14 D cA ad 1 A 247 [(2, 0), (9, 0), (0, x2), (9, 0), (9, 0), (9, 0), (9, 0), (0, x7), (0, x8), (9, 0), (9, 0), (9, 0), (9, 0), (9, 0)] [] d :=
  ok_Mo_draw_n247 C FU x2 x7 x8 d hx2 hx7 hx8 h k0
set_option maxHeartbeats 4000000 in
theorem ok_Mo_draw_b24 {p : Program} {l : Launch} {e : Env} {s : State} {m : MethodId} {args : Array Value} {below : List Frame} {meth : Method} {c : Code} {D : va_G} {cA : Nat → ClassId} {ad : Nat → Nat} {A : Nat → Prop} (C : Cx p s m args c prog_14_method_113_code 14 "PollBooksModel" D cA ad 1 A) (hlk : meth.locks = false) (hr : meth.sig.returnType = (some .int)) {r : Int} {d' : Dt} (d : Dt)  (h : L_Mo_draw_b24 d = some (r, d')) : G p l e rm_Mo_draw s m args below meth c 0 0 (MQ below (fun _ => QC D cA ad 1 A (some .int) (some (0, r)) d') args s 0 0 A) 14 D cA ad 1 A 24 [(2, 0), (9, 0), (9, 0), (9, 0), (9, 0), (9, 0), (9, 0), (9, 0), (9, 0), (9, 0), (9, 0), (9, 0), (9, 0), (9, 0)] [] d := by
  unfold L_Mo_draw_b24 at h
  refine g_aload_n C 0 rfl (by decide +kernel) ?_
  refine g_iconst C 1 (cK rfl) (by decide +kernel) ?_
  obtain ⟨r124_, d123_, hr125_, h⟩ := bd_some h
  refine g_callV C mw_Mo_refuse [(0, 1)] 0 cl12 rfl (ok_Mo_refuse 1 d (c32_cb (Or.inr rfl)) hr125_) cd_B0 (by decide) (nB (by decide)) (ix := 316) lk_1787 lk_1789 lkp_61 ⟨rfl, rfl, Nat.le_of_ble_eq_true rfl, Nat.le_of_ble_eq_true rfl⟩ rfl (rest := []) rfl (Nat.le_of_ble_eq_true rfl) ⟨Nat.zero_le _, Nat.zero_le _⟩ (by decide +kernel) (fun _ hc126_ => ?_)
  replace hc126_ : c32 r124_ := hc126_
  refine g_st (st2 := [(0, r124_)]) rfl ?_
  obtain ⟨rfl, rfl⟩ := ret_inj h
  exact g_iret C hc126_ hlk hr (by decide +kernel)
set_option maxHeartbeats 4000000 in
theorem ok_Mo_draw {l : Launch} {r : Int} {d' : Dt} (p1 p2 p3 : Int) (d : Dt) (hp1 : c32 p1) (hp2 : c32 p2) (hp3 : c32 p3) (h : L_Mo_draw p1 p2 p3 d = some (r, d')) : MC l y_Mo_draw prog_14_method_113_code 14 (some .int) rm_Mo_draw 1 [(2, 0), (0, p1), (0, p2), (0, p3)] d (some (0, r)) d' := by
  refine MC.of (by decide) (Nat.le_of_ble_eq_true rfl) ?_
  intro p e s m args below meth c D cA ad A C hlk hr
  replace C : Cx p s m args c prog_14_method_113_code 14 "PollBooksModel" D cA ad 1 A := C
  show G p l e rm_Mo_draw s m args below meth c 0 0 (MQ below (fun _ => QC D cA ad 1 A (some .int) (some (0, r)) d') args s 0 0 A) 14 D cA ad 1 A 0 [(2, 0), (0, p1), (0, p2), (0, p3)] [] d
  refine g_sub (lo2 := [(2, 0), (0, p1), (0, p2), (0, p3), (9, 0), (9, 0), (9, 0), (9, 0), (9, 0), (9, 0), (9, 0), (9, 0), (9, 0), (9, 0)]) (lsb_v (lsb_v (lsb_v (lsb_v (lsb_n (lsb_n (lsb_n (lsb_n (lsb_n (lsb_n (lsb_n (lsb_n (lsb_n (lsb_n lsb_e)))))))))))))) ?_
  unfold L_Mo_draw at h
  refine g_iload_n C 1 rfl (by decide +kernel) ?_
  refine g_iconst C 1 (cK rfl) (by decide +kernel) ?_
  refine g_icmp_lt C (off := 22) (tgt := 24) hp1 (c32_cb (Or.inr rfl)) (by decide +kernel) (by decide) (fun hc127_ => ?_) (fun hc127_ => ?_)
  · replace h := ite_t hc127_ h
    refine g_sub (lo2 := [(2, 0), (9, 0), (9, 0), (9, 0), (9, 0), (9, 0), (9, 0), (9, 0), (9, 0), (9, 0), (9, 0), (9, 0), (9, 0), (9, 0)]) (lsb_v (lsb_c (lsb_c (lsb_c (lsb_c (lsb_c (lsb_c (lsb_c (lsb_c (lsb_c (lsb_c (lsb_c (lsb_c (lsb_c lsb_e)))))))))))))) ?_
    exact ok_Mo_draw_b24 C hlk hr d  h
  · replace h := ite_f hc127_ h
    refine g_iload_n C 1 rfl (by decide +kernel) ?_
    refine g_bipush C 30 (by decide) (by decide +kernel) ?_
    refine g_icmp_gt C (off := 16) (tgt := 24) hp1 (cK rfl) (by decide +kernel) (by decide) (fun hc128_ => ?_) (fun hc128_ => ?_)
    · replace h := ite_t hc128_ h
      refine g_sub (lo2 := [(2, 0), (9, 0), (9, 0), (9, 0), (9, 0), (9, 0), (9, 0), (9, 0), (9, 0), (9, 0), (9, 0), (9, 0), (9, 0), (9, 0)]) (lsb_v (lsb_c (lsb_c (lsb_c (lsb_c (lsb_c (lsb_c (lsb_c (lsb_c (lsb_c (lsb_c (lsb_c (lsb_c (lsb_c lsb_e)))))))))))))) ?_
      exact ok_Mo_draw_b24 C hlk hr d  h
    · replace h := ite_f hc128_ h
      refine g_iload_n C 2 rfl (by decide +kernel) ?_
      refine g_if_lt C (off := 12) (tgt := 24) hp2 (by decide +kernel) (by decide) (fun hc129_ => ?_) (fun hc129_ => ?_)
      · replace h := ite_t hc129_ h
        refine g_sub (lo2 := [(2, 0), (9, 0), (9, 0), (9, 0), (9, 0), (9, 0), (9, 0), (9, 0), (9, 0), (9, 0), (9, 0), (9, 0), (9, 0), (9, 0)]) (lsb_v (lsb_c (lsb_c (lsb_c (lsb_c (lsb_c (lsb_c (lsb_c (lsb_c (lsb_c (lsb_c (lsb_c (lsb_c (lsb_c lsb_e)))))))))))))) ?_
        exact ok_Mo_draw_b24 C hlk hr d  h
      · replace h := ite_f hc129_ h
        refine g_iload_n C 2 rfl (by decide +kernel) ?_
        refine g_iload_n C 1 rfl (by decide +kernel) ?_
        refine g_icmp_gt C (off := 7) (tgt := 24) hp2 hp1 (by decide +kernel) (by decide) (fun hc130_ => ?_) (fun hc130_ => ?_)
        · replace h := ite_t hc130_ h
          refine g_sub (lo2 := [(2, 0), (9, 0), (9, 0), (9, 0), (9, 0), (9, 0), (9, 0), (9, 0), (9, 0), (9, 0), (9, 0), (9, 0), (9, 0), (9, 0)]) (lsb_v (lsb_c (lsb_c (lsb_c (lsb_c (lsb_c (lsb_c (lsb_c (lsb_c (lsb_c (lsb_c (lsb_c (lsb_c (lsb_c lsb_e)))))))))))))) ?_
          exact ok_Mo_draw_b24 C hlk hr d  h
        · replace h := ite_f hc130_ h
          refine g_iload_n C 3 rfl (by decide +kernel) ?_
          refine g_if_ge C (off := 9) (tgt := 30) hp3 (by decide +kernel) (by decide) (fun hc131_ => ?_) (fun hc131_ => ?_)
          · replace h := ite_t hc131_ h
            refine g_sub (lo2 := [(2, 0), (9, 0), (9, 0), (9, 0), (9, 0), (9, 0), (9, 0), (9, 0), (9, 0), (9, 0), (9, 0), (9, 0), (9, 0), (9, 0)]) (lsb_v (lsb_c (lsb_c (lsb_c (lsb_c (lsb_c (lsb_c (lsb_c (lsb_c (lsb_c (lsb_c (lsb_c (lsb_c (lsb_c lsb_e)))))))))))))) ?_
            exact ok_Mo_draw_b24 C hlk hr d  h
          · replace h := ite_f hc131_ h
            refine g_iconst C 0 (cK rfl) (by decide +kernel) ?_
            refine s_istore C 4 (lo' := [(2, 0), (0, p1), (0, p2), (0, p3), (0, 0), (9, 0), (9, 0), (9, 0), (9, 0), (9, 0), (9, 0), (9, 0), (9, 0), (9, 0)]) (by decide) (s1k (s1k (s1k (s1n (by decide) s1z)))) (by decide +kernel) ?_
            refine g_iconst C 0 (cK rfl) (by decide +kernel) ?_
            refine s_istore C 5 (lo' := [(2, 0), (0, p1), (0, p2), (0, p3), (0, 0), (0, 0), (9, 0), (9, 0), (9, 0), (9, 0), (9, 0), (9, 0), (9, 0), (9, 0)]) (by decide) (s1k (s1k (s1k (s1k (s1n (by decide) s1z))))) (by decide +kernel) ?_
            refine g_sub (lo2 := [(2, 0), (0, p1), (0, p2), (0, p3), (0, 0), (0, 0), (9, 0), (9, 0), (9, 0), (9, 0), (9, 0), (9, 0), (9, 0), (9, 0)]) (lsb_v (lsb_v (lsb_v (lsb_v (lsb_v (lsb_v (lsb_c (lsb_c (lsb_c (lsb_c (lsb_c (lsb_c (lsb_c (lsb_c lsb_e)))))))))))))) ?_
            obtain ⟨x132_, hx133_, h⟩ := lb_some h
            refine ok_Mo_draw_l36 C p1 p2 p3 0 0 d hp1 hp2 hp3 (c32_cb (Or.inl rfl)) (c32_cb (Or.inl rfl)) hx133_ (fun v134_ v135_ v136_ v137_ d138_ eq139_ hv134_ hv135_ hv136_ hv137_ => ?_)
            subst eq139_
            replace h := u4_e h
            refine g_iload C 4 rfl (by decide +kernel) ?_
            refine g_iload_n C 1 rfl (by decide +kernel) ?_
            refine g_icmp_ge C (off := 10) (tgt := 141) hv137_ hv134_ (by decide +kernel) (by decide) (fun hc140_ => ?_) (fun hc140_ => ?_)
            · replace h := ite_t hc140_ h
              refine g_aload_n C 0 rfl (by decide +kernel) ?_
              refine g_bipush C 6 (by decide) (by decide +kernel) ?_
              obtain ⟨r142_, d141_, hr143_, h⟩ := bd_some h
              refine g_callV C mw_Mo_refuse [(0, 6)] 0 cl12 rfl (ok_Mo_refuse 6 d138_ (cK rfl) hr143_) cd_B0 (by decide) (nB (by decide)) (ix := 316) lk_1787 lk_1789 lkp_61 ⟨rfl, rfl, Nat.le_of_ble_eq_true rfl, Nat.le_of_ble_eq_true rfl⟩ rfl (rest := []) rfl (Nat.le_of_ble_eq_true rfl) ⟨Nat.zero_le _, Nat.zero_le _⟩ (by decide +kernel) (fun _ hc144_ => ?_)
              replace hc144_ : c32 r142_ := hc144_
              refine g_st (st2 := [(0, r142_)]) rfl ?_
              obtain ⟨rfl, rfl⟩ := ret_inj h
              exact g_iret C hc144_ hlk hr (by decide +kernel)
            · replace h := ite_f hc140_ h
              refine g_iload_n C 3 rfl (by decide +kernel) ?_
              refine g_i2l C hv136_ (by decide +kernel) ?_
              refine s_lstore C 5 (lo' := [(2, 0), (0, v134_), (0, v135_), (0, v136_), (0, v137_), (1, v136_), (9, 0), (9, 0), (9, 0), (9, 0), (9, 0), (9, 0), (9, 0), (9, 0)]) (by decide) (s2k (s2k (s2k (s2k (s2n (by decide) s2z))))) (by decide +kernel) ?_
              refine g_iconst C 0 (cK rfl) (by decide +kernel) ?_
              refine s_istore C 7 (lo' := [(2, 0), (0, v134_), (0, v135_), (0, v136_), (0, v137_), (1, v136_), (9, 0), (0, 0), (9, 0), (9, 0), (9, 0), (9, 0), (9, 0), (9, 0)]) (by decide) (s1k (s1k (s1k (s1k (s1k (s1k (s1n (by decide) s1z))))))) (by decide +kernel) ?_
              refine g_sub (lo2 := [(2, 0), (0, v134_), (0, v135_), (9, 0), (0, v137_), (1, v136_), (9, 0), (0, 0), (9, 0), (9, 0), (9, 0), (9, 0), (9, 0), (9, 0)]) (lsb_v (lsb_v (lsb_v (lsb_c (lsb_v (lsb_v (lsb_c (lsb_v (lsb_c (lsb_c (lsb_c (lsb_c (lsb_c (lsb_c lsb_e)))))))))))))) ?_
              obtain ⟨x145_, hx146_, h⟩ := lb_some h
              refine ok_Mo_draw_l148 C v134_ v135_ v137_ v136_ 0 d138_ hv134_ hv135_ hv137_ (c64_32 hv136_) (c32_cb (Or.inl rfl)) hx146_ (fun v147_ v148_ d149_ eq150_ hv147_ hv148_ => ?_)
              subst eq150_
              replace h := u2_e h
              refine g_iload_n C 1 rfl (by decide +kernel) ?_
              refine s_istore C 7 (lo' := [(2, 0), (0, v147_), (0, v148_), (9, 0), (9, 0), (9, 0), (9, 0), (0, v147_), (9, 0), (9, 0), (9, 0), (9, 0), (9, 0), (9, 0)]) (by decide) (s1k (s1k (s1k (s1k (s1k (s1k (s1n (by decide) s1z))))))) (by decide +kernel) ?_
              refine g_iconst C 0 (cK rfl) (by decide +kernel) ?_
              refine s_istore C 8 (lo' := [(2, 0), (0, v147_), (0, v148_), (9, 0), (9, 0), (9, 0), (9, 0), (0, v147_), (0, 0), (9, 0), (9, 0), (9, 0), (9, 0), (9, 0)]) (by decide) (s1k (s1k (s1k (s1k (s1k (s1k (s1k (s1n (by decide) s1z)))))))) (by decide +kernel) ?_
              refine g_sub (lo2 := [(2, 0), (9, 0), (0, v148_), (9, 0), (9, 0), (9, 0), (9, 0), (0, v147_), (0, 0), (9, 0), (9, 0), (9, 0), (9, 0), (9, 0)]) (lsb_v (lsb_c (lsb_v (lsb_c (lsb_c (lsb_c (lsb_c (lsb_v (lsb_v (lsb_c (lsb_c (lsb_c (lsb_c (lsb_c lsb_e)))))))))))))) ?_
              obtain ⟨x151_, hx152_, h⟩ := lb_some h
              refine ok_Mo_draw_l247 C v148_ v147_ 0 d149_ hv148_ hv147_ (c32_cb (Or.inl rfl)) hx152_ (fun v153_ d154_ eq155_ hv153_ => ?_)
              subst eq155_
              replace h := u1_e h
              refine g_iconst C 0 (cK rfl) (by decide +kernel) ?_
              refine s_istore C 8 (lo' := [(2, 0), (9, 0), (9, 0), (9, 0), (9, 0), (9, 0), (9, 0), (0, v153_), (0, 0), (9, 0), (9, 0), (9, 0), (9, 0), (9, 0)]) (by decide) (s1k (s1k (s1k (s1k (s1k (s1k (s1k (s1n (by decide) s1z)))))))) (by decide +kernel) ?_
              refine g_aload_n C 0 rfl (by decide +kernel) ?_
              refine g_iconst C 0 (cK rfl) (by decide +kernel) ?_
              refine g_putI C cl12 0 100 (c32_cb (Or.inl rfl)) rfl cd_B0 ⟨by decide, rfl, by decide⟩ rfl (nB (by decide)) (ix := 613) lk_1502 rfl rfl (by decide +kernel) ?_
              refine g_iconst C 0 (cK rfl) (by decide +kernel) ?_
              refine s_istore C 9 (lo' := [(2, 0), (9, 0), (9, 0), (9, 0), (9, 0), (9, 0), (9, 0), (0, v153_), (0, 0), (0, 0), (9, 0), (9, 0), (9, 0), (9, 0)]) (by decide) (s1k (s1k (s1k (s1k (s1k (s1k (s1k (s1k (s1n (by decide) s1z))))))))) (by decide +kernel) ?_
              refine g_sub (lo2 := [(2, 0), (9, 0), (9, 0), (9, 0), (9, 0), (9, 0), (9, 0), (0, v153_), (0, 0), (0, 0), (9, 0), (9, 0), (9, 0), (9, 0)]) (lsb_v (lsb_c (lsb_c (lsb_c (lsb_c (lsb_c (lsb_c (lsb_v (lsb_v (lsb_v (lsb_c (lsb_c (lsb_c (lsb_c lsb_e)))))))))))))) ?_
              obtain ⟨x156_, hx157_, h⟩ := lb_some h
              refine ok_Mo_draw_l424 C v153_ 0 0 (up2 d154_ 0 100 0) hv153_ (c32_cb (Or.inl rfl)) (c32_cb (Or.inl rfl)) hx157_ (fun v158_ d159_ eq160_ hv158_ => ?_)
              subst eq160_
              replace h := u1_e h
              refine g_aload_n C 0 rfl (by decide +kernel) ?_
              refine g_iconst C 1 (cK rfl) (by decide +kernel) ?_
              refine g_putZ C cl12 0 101 (Or.inr rfl) rfl cd_B0 ⟨by decide, rfl, by decide⟩ rfl (nB (by decide)) (ix := 616) lk_1503 rfl rfl (by decide +kernel) ?_
              refine g_aload_n C 0 rfl (by decide +kernel) ?_
              refine g_iload C 8 rfl (by decide +kernel) ?_
              obtain ⟨r162_, d161_, hr163_, h⟩ := bd_some h
              refine g_callV C mw_Mo_gives [(0, v158_)] 0 cl12 rfl (ok_Mo_gives v158_ (up2 d159_ 0 101 1) hv158_ hr163_) cd_B0 (by decide) (nB (by decide)) (ix := 312) lk_1783 lk_1785 lkp_60 ⟨rfl, rfl, Nat.le_of_ble_eq_true rfl, Nat.le_of_ble_eq_true rfl⟩ rfl (rest := []) rfl (Nat.le_of_ble_eq_true rfl) ⟨Nat.zero_le _, Nat.zero_le _⟩ (by decide +kernel) (fun _ hc164_ => ?_)
              replace hc164_ : c32 r162_ := hc164_
              refine g_st (st2 := [(0, r162_)]) rfl ?_
              obtain ⟨rfl, rfl⟩ := ret_inj h
              exact g_iret C hc164_ hlk hr (by decide +kernel)
