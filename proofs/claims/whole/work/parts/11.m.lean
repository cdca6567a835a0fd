/-! PollBooks.fact(IIII)I -/
def y_PB_fact : MethodName := ⟨"PollBooks", "fact", "(IIII)I"⟩
def rm_PB_fact : Room := { frames := 3, cells := 0, slots := 0, locals := 80 }
theorem mw_PB_fact : MW y_PB_fact prog_1_method_15_code 6 (some .int) 4 := ⟨lk_698, lk_1, by decide +kernel⟩
def L_PB_fact_b56 (x1 x2 x3 x4 x5 s1 : Int) (d : Dt) : Option (Int × Dt) :=
  if x5 = 0 then some ((-1), (up2 d 0 0 s1)) else bd (L_Re_tell 2 7 x1 x2 x3 (up2 d 0 0 s1)) (fun r3_ d2_ => ck ((0 : Int) ≤ x4 ∧ x4 < 7) (some ((w32 (d2_ 2 x4.toNat)), d2_)))
def L_PB_fact_b43 (x1 x2 x3 x4 s0 : Int) (d : Dt) : Option (Int × Dt) :=
  if s0 = 0 then L_PB_fact_b56 x1 x2 x3 x4 s0 1 d else L_PB_fact_b56 x1 x2 x3 x4 s0 0 d
def L_PB_fact (p1 p2 p3 p4 : Int) (d : Dt) : Option (Int × Dt) :=
  bd (L_Pe_has p1 d) (fun r10_ d9_ => if r10_ = 0 then L_PB_fact_b43 p1 p2 p3 p4 0 d9_ else bd (L_PB_isPlace p2 d9_) (fun r15_ d14_ => if r15_ = 0 then L_PB_fact_b43 p1 p2 p3 p4 0 d14_ else bd (L_PB_isDay p3 d14_) (fun r20_ d19_ => if r20_ = 0 then L_PB_fact_b43 p1 p2 p3 p4 0 d19_ else bd (L_PB_within p4 0 6 d19_) (fun r25_ d24_ => if r25_ = 0 then L_PB_fact_b43 p1 p2 p3 p4 0 d24_ else L_PB_fact_b43 p1 p2 p3 p4 1 d24_))))
set_option maxHeartbeats 4000000 in
theorem ok_PB_fact_b56 {p : Program} {l : Launch} {e : Env} {s : State} {m : MethodId} {args : Array Value} {below : List Frame} {meth : Method} {c : Code} {D : va_G} {cA : Nat → ClassId} {ad : Nat → Nat} {A : Nat → Prop} (C : Cx p s m args c prog_1_method_15_code 6 "PollBooks" D cA ad 0 A) (hlk : meth.locks = false) (hr : meth.sig.returnType = (some .int)) {r : Int} {d' : Dt} (x1 x2 x3 x4 x5 s1 : Int) (d : Dt) (hx1 : c32 x1) (hx2 : c32 x2) (hx3 : c32 x3) (hx4 : c32 x4) (hx5 : cb x5) (hs1 : cb s1) (h : L_PB_fact_b56 x1 x2 x3 x4 x5 s1 d = some (r, d')) : G p l e rm_PB_fact s m args below meth c 0 0 (MQ below (fun _ => QC D cA ad 0 A (some .int) (some (0, r)) d') args s 0 0 A) 6 D cA ad 0 A 56 [(2, 0), (0, x1), (0, x2), (0, x3), (0, x4), (0, x5)] [(0, s1), (2, 0)] d := by
  unfold L_PB_fact_b56 at h
  refine g_putI C cl11 0 0 (c32_cb hs1) rfl cd_A0 ⟨by decide, rfl, by decide⟩ rfl (nA (by decide)) (ix := 9) lk_467 rfl rfl (by decide +kernel) ?_
  refine g_iload C 5 rfl (by decide +kernel) ?_
  refine g_if_ne C (off := 5) (tgt := 66) (c32_cb hx5) (by decide +kernel) (by decide) (fun hc1_ => ?_) (fun hc1_ => ?_)
  · replace h := ite_t hc1_ h
    refine g_iconst C (-1) (cK rfl) (by decide +kernel) ?_
    obtain ⟨rfl, rfl⟩ := ret_inj h
    exact g_iret C (cK rfl) hlk hr (by decide +kernel)
  · replace h := ite_f hc1_ h
    refine g_aload_n C 0 rfl (by decide +kernel) ?_
    refine g_getR C cl11 0 3 11 rfl cd_A0 ⟨by decide, rfl, by decide⟩ rfl rfl (nA (by decide)) (ix := 32) lk_470 (by decide +kernel) ?_
    refine g_iload_n C 1 rfl (by decide +kernel) ?_
    refine g_iload_n C 2 rfl (by decide +kernel) ?_
    refine g_iload_n C 3 rfl (by decide +kernel) ?_
    refine g_aload_n C 0 rfl (by decide +kernel) ?_
    refine g_getR C cl11 0 12 2 rfl cd_A0 ⟨by decide, rfl, by decide⟩ rfl rfl (nA (by decide)) (ix := 95) lk_479 (by decide +kernel) ?_
    obtain ⟨r3_, d2_, hr4_, h⟩ := bd_some h
    refine g_callV C mw_Re_tell [(0, x1), (0, x2), (0, x3), (2, 2)] 11 cl7 rfl (ok_Re_tell 2 7 cd_A2 (by decide) x1 x2 x3 (up2 d 0 0 s1) hx1 hx2 hx3 hr4_) cd_A11 (by decide) (nA (by decide)) (ix := 212) lk_699 lk_700 lk_701 ⟨rfl, rfl, Nat.le_of_ble_eq_true rfl, Nat.le_of_ble_eq_true rfl⟩ rfl (rest := []) rfl (Nat.le_of_ble_eq_true rfl) ⟨Nat.zero_le _, Nat.zero_le _⟩ (by decide +kernel) (fun _ hc5_ => ?_)
    refine g_st (st2 := []) rfl ?_
    refine g_aload_n C 0 rfl (by decide +kernel) ?_
    refine g_getR C cl11 0 12 2 rfl cd_A0 ⟨by decide, rfl, by decide⟩ rfl rfl (nA (by decide)) (ix := 95) lk_479 (by decide +kernel) ?_
    refine g_iload C 4 rfl (by decide +kernel) ?_
    obtain ⟨hb6_, h⟩ := ck_some h
    refine g_lald C 2 hx4 rfl cd_A2 (nA (by decide)) hb6_ (by decide +kernel) (fun hc7_ => ?_)
    refine g_l2i C (by decide +kernel) ?_
    obtain ⟨rfl, rfl⟩ := ret_inj h
    exact g_iret C (w32_c _) hlk hr (by decide +kernel)
set_option maxHeartbeats 4000000 in
theorem ok_PB_fact_b43 {p : Program} {l : Launch} {e : Env} {s : State} {m : MethodId} {args : Array Value} {below : List Frame} {meth : Method} {c : Code} {D : va_G} {cA : Nat → ClassId} {ad : Nat → Nat} {A : Nat → Prop} (C : Cx p s m args c prog_1_method_15_code 6 "PollBooks" D cA ad 0 A) (hlk : meth.locks = false) (hr : meth.sig.returnType = (some .int)) {r : Int} {d' : Dt} (x1 x2 x3 x4 s0 : Int) (d : Dt) (hx1 : c32 x1) (hx2 : c32 x2) (hx3 : c32 x3) (hx4 : c32 x4) (hs0 : cb s0) (h : L_PB_fact_b43 x1 x2 x3 x4 s0 d = some (r, d')) : G p l e rm_PB_fact s m args below meth c 0 0 (MQ below (fun _ => QC D cA ad 0 A (some .int) (some (0, r)) d') args s 0 0 A) 6 D cA ad 0 A 43 [(2, 0), (0, x1), (0, x2), (0, x3), (0, x4), (9, 0)] [(0, s0)] d := by
  unfold L_PB_fact_b43 at h
  refine s_istore C 5 (lo' := [(2, 0), (0, x1), (0, x2), (0, x3), (0, x4), (0, s0)]) (by decide) (s1k (s1k (s1k (s1k (s1n (by decide) s1z))))) (by decide +kernel) ?_
  refine g_aload_n C 0 rfl (by decide +kernel) ?_
  refine g_iload C 5 rfl (by decide +kernel) ?_
  refine g_if_eq C (off := 7) (tgt := 55) (c32_cb hs0) (by decide +kernel) (by decide) (fun hc8_ => ?_) (fun hc8_ => ?_)
  · replace h := ite_t hc8_ h
    refine g_iconst C 1 (cK rfl) (by decide +kernel) ?_
    refine g_sub (lo2 := [(2, 0), (0, x1), (0, x2), (0, x3), (0, x4), (0, s0)]) (lsb_v (lsb_v (lsb_v (lsb_v (lsb_v (lsb_v lsb_e)))))) ?_
    exact ok_PB_fact_b56 C hlk hr x1 x2 x3 x4 s0 1 d hx1 hx2 hx3 hx4 hs0 (Or.inr rfl) h
  · replace h := ite_f hc8_ h
    refine g_iconst C 0 (cK rfl) (by decide +kernel) ?_
    refine g_goto C 56 (off := 4) (by decide +kernel) (by decide) ?_
    refine g_sub (lo2 := [(2, 0), (0, x1), (0, x2), (0, x3), (0, x4), (0, s0)]) (lsb_v (lsb_v (lsb_v (lsb_v (lsb_v (lsb_v lsb_e)))))) ?_
    exact ok_PB_fact_b56 C hlk hr x1 x2 x3 x4 s0 0 d hx1 hx2 hx3 hx4 hs0 (Or.inl rfl) h
set_option maxHeartbeats 4000000 in
theorem ok_PB_fact {l : Launch} {r : Int} {d' : Dt} (p1 p2 p3 p4 : Int) (d : Dt) (hp1 : c32 p1) (hp2 : c32 p2) (hp3 : c32 p3) (hp4 : c32 p4) (h : L_PB_fact p1 p2 p3 p4 d = some (r, d')) : MC l y_PB_fact prog_1_method_15_code 6 (some .int) rm_PB_fact 0 [(2, 0), (0, p1), (0, p2), (0, p3), (0, p4)] d (some (0, r)) d' := by
  refine MC.of (by decide) (Nat.le_of_ble_eq_true rfl) ?_
  intro p e s m args below meth c D cA ad A C hlk hr
  replace C : Cx p s m args c prog_1_method_15_code 6 "PollBooks" D cA ad 0 A := C
  show G p l e rm_PB_fact s m args below meth c 0 0 (MQ below (fun _ => QC D cA ad 0 A (some .int) (some (0, r)) d') args s 0 0 A) 6 D cA ad 0 A 0 [(2, 0), (0, p1), (0, p2), (0, p3), (0, p4)] [] d
  refine g_sub (lo2 := [(2, 0), (0, p1), (0, p2), (0, p3), (0, p4), (9, 0)]) (lsb_v (lsb_v (lsb_v (lsb_v (lsb_v (lsb_n lsb_e)))))) ?_
  unfold L_PB_fact at h
  refine g_aload_n C 0 rfl (by decide +kernel) ?_
  refine g_getR C cl11 0 2 7 rfl cd_A0 ⟨by decide, rfl, by decide⟩ rfl rfl (nA (by decide)) (ix := 23) lk_469 (by decide +kernel) ?_
  refine g_iload_n C 1 rfl (by decide +kernel) ?_
  obtain ⟨r10_, d9_, hr11_, h⟩ := bd_some h
  refine g_callV C mw_Pe_has [(0, p1)] 7 cl5 rfl (ok_Pe_has p1 d hp1 hr11_) cd_A7 (by decide) (nA (by decide)) (ix := 173) lk_637 lk_638 lk_639 ⟨rfl, rfl, Nat.le_of_ble_eq_true rfl, Nat.le_of_ble_eq_true rfl⟩ rfl (rest := []) rfl (Nat.le_of_ble_eq_true rfl) ⟨Nat.zero_le _, Nat.zero_le _⟩ (by decide +kernel) (fun _ hc12_ => ?_)
  replace hc12_ : cb r10_ := hc12_
  refine g_st (st2 := [(0, r10_)]) rfl ?_
  refine g_if_eq C (off := 34) (tgt := 42) (c32_cb hc12_) (by decide +kernel) (by decide) (fun hc13_ => ?_) (fun hc13_ => ?_)
  · replace h := ite_t hc13_ h
    refine g_iconst C 0 (cK rfl) (by decide +kernel) ?_
    refine g_sub (lo2 := [(2, 0), (0, p1), (0, p2), (0, p3), (0, p4), (9, 0)]) (lsb_v (lsb_v (lsb_v (lsb_v (lsb_v (lsb_c lsb_e)))))) ?_
    exact ok_PB_fact_b43 C hlk hr p1 p2 p3 p4 0 d9_ hp1 hp2 hp3 hp4 (Or.inl rfl) h
  · replace h := ite_f hc13_ h
    refine g_iload_n C 2 rfl (by decide +kernel) ?_
    obtain ⟨r15_, d14_, hr16_, h⟩ := bd_some h
    refine g_callS C mw_PB_isPlace [(0, p2)] (ok_PB_isPlace p2 d9_ hp2 hr16_) (ix := 158) lk_608 lk_609 ⟨rfl, rfl, Nat.le_of_ble_eq_true rfl, Nat.le_of_ble_eq_true rfl⟩ rfl (rest := []) rfl (Nat.le_of_ble_eq_true rfl) ⟨Nat.zero_le _, Nat.zero_le _⟩ (by decide +kernel) (fun _ hc17_ => ?_)
    replace hc17_ : cb r15_ := hc17_
    refine g_st (st2 := [(0, r15_)]) rfl ?_
    refine g_if_eq C (off := 27) (tgt := 42) (c32_cb hc17_) (by decide +kernel) (by decide) (fun hc18_ => ?_) (fun hc18_ => ?_)
    · replace h := ite_t hc18_ h
      refine g_iconst C 0 (cK rfl) (by decide +kernel) ?_
      refine g_sub (lo2 := [(2, 0), (0, p1), (0, p2), (0, p3), (0, p4), (9, 0)]) (lsb_v (lsb_v (lsb_v (lsb_v (lsb_v (lsb_c lsb_e)))))) ?_
      exact ok_PB_fact_b43 C hlk hr p1 p2 p3 p4 0 d14_ hp1 hp2 hp3 hp4 (Or.inl rfl) h
    · replace h := ite_f hc18_ h
      refine g_iload_n C 3 rfl (by decide +kernel) ?_
      obtain ⟨r20_, d19_, hr21_, h⟩ := bd_some h
      refine g_callS C mw_PB_isDay [(0, p3)] (ok_PB_isDay p3 d14_ hp3 hr21_) (ix := 180) lk_643 lk_644 ⟨rfl, rfl, Nat.le_of_ble_eq_true rfl, Nat.le_of_ble_eq_true rfl⟩ rfl (rest := []) rfl (Nat.le_of_ble_eq_true rfl) ⟨Nat.zero_le _, Nat.zero_le _⟩ (by decide +kernel) (fun _ hc22_ => ?_)
      replace hc22_ : cb r20_ := hc22_
      refine g_st (st2 := [(0, r20_)]) rfl ?_
      refine g_if_eq C (off := 20) (tgt := 42) (c32_cb hc22_) (by decide +kernel) (by decide) (fun hc23_ => ?_) (fun hc23_ => ?_)
      · replace h := ite_t hc23_ h
        refine g_iconst C 0 (cK rfl) (by decide +kernel) ?_
        refine g_sub (lo2 := [(2, 0), (0, p1), (0, p2), (0, p3), (0, p4), (9, 0)]) (lsb_v (lsb_v (lsb_v (lsb_v (lsb_v (lsb_c lsb_e)))))) ?_
        exact ok_PB_fact_b43 C hlk hr p1 p2 p3 p4 0 d19_ hp1 hp2 hp3 hp4 (Or.inl rfl) h
      · replace h := ite_f hc23_ h
        refine g_iload C 4 rfl (by decide +kernel) ?_
        refine g_i2l C hp4 (by decide +kernel) ?_
        refine g_lconst C 0 (v := 0) (by decide) (by decide +kernel) ?_
        refine g_ldc2 C (ix := 210) (v := 6) lk_611 (by decide +kernel) ?_
        obtain ⟨r25_, d24_, hr26_, h⟩ := bd_some h
        refine g_callS C mw_PB_within [(1, p4), (1, 0), (1, 6)] (ok_PB_within p4 0 6 d19_ (c64_32 hp4) (cL rfl) (cL rfl) hr26_) (ix := 105) lk_520 lk_521 ⟨rfl, rfl, Nat.le_of_ble_eq_true rfl, Nat.le_of_ble_eq_true rfl⟩ rfl (rest := []) rfl (Nat.le_of_ble_eq_true rfl) ⟨Nat.zero_le _, Nat.zero_le _⟩ (by decide +kernel) (fun _ hc27_ => ?_)
        replace hc27_ : cb r25_ := hc27_
        refine g_st (st2 := [(0, r25_)]) rfl ?_
        refine g_if_eq C (off := 7) (tgt := 42) (c32_cb hc27_) (by decide +kernel) (by decide) (fun hc28_ => ?_) (fun hc28_ => ?_)
        · replace h := ite_t hc28_ h
          refine g_iconst C 0 (cK rfl) (by decide +kernel) ?_
          refine g_sub (lo2 := [(2, 0), (0, p1), (0, p2), (0, p3), (0, p4), (9, 0)]) (lsb_v (lsb_v (lsb_v (lsb_v (lsb_v (lsb_c lsb_e)))))) ?_
          exact ok_PB_fact_b43 C hlk hr p1 p2 p3 p4 0 d24_ hp1 hp2 hp3 hp4 (Or.inl rfl) h
        · replace h := ite_f hc28_ h
          refine g_iconst C 1 (cK rfl) (by decide +kernel) ?_
          refine g_goto C 43 (off := 4) (by decide +kernel) (by decide) ?_
          refine g_sub (lo2 := [(2, 0), (0, p1), (0, p2), (0, p3), (0, p4), (9, 0)]) (lsb_v (lsb_v (lsb_v (lsb_v (lsb_v (lsb_c lsb_e)))))) ?_
          exact ok_PB_fact_b43 C hlk hr p1 p2 p3 p4 1 d24_ hp1 hp2 hp3 hp4 (Or.inr rfl) h
/-! PollBooks$Parser.hasRoom()Z -/
def y_Pa_hasRoom : MethodName := ⟨"PollBooks$Parser", "hasRoom", "()Z"⟩
def rm_Pa_hasRoom : Room := { frames := 0, cells := 0, slots := 0, locals := 0 }
theorem mw_Pa_hasRoom : MW y_Pa_hasRoom prog_6_method_2_code 1 (some .boolean) 0 := ⟨lk_729, lk_6, by decide +kernel⟩
def L_Pa_hasRoom (d : Dt) : Option (Int × Dt) :=
  if 600 < (w32 ((d 25 1) + 20)) then some (0, d) else some (1, d)
set_option maxHeartbeats 4000000 in
theorem ok_Pa_hasRoom {l : Launch} {r : Int} {d' : Dt} (d : Dt)  (h : L_Pa_hasRoom d = some (r, d')) : MC l y_Pa_hasRoom prog_6_method_2_code 1 (some .boolean) rm_Pa_hasRoom 0 [(2, 25)] d (some (0, r)) d' := by
  refine MC.of (by decide) (Nat.le_of_ble_eq_true rfl) ?_
  intro p e s m args below meth c D cA ad A C hlk hr
  replace C : Cx p s m args c prog_6_method_2_code 1 "PollBooks$Parser" D cA ad 0 A := C
  show G p l e rm_Pa_hasRoom s m args below meth c 0 0 (MQ below (fun _ => QC D cA ad 0 A (some .boolean) (some (0, r)) d') args s 0 0 A) 1 D cA ad 0 A 0 [(2, 25)] [] d
  refine g_sub (lo2 := [(2, 25)]) (lsb_v lsb_e) ?_
  unfold L_Pa_hasRoom at h
  refine g_aload_n C 0 rfl (by decide +kernel) ?_
  refine g_getI C cl4 25 1 rfl cd_A25 ⟨by decide, rfl, by decide⟩ rfl (nA (by decide)) (ix := 40) lk_196 (by decide +kernel) (fun hc1_ => ?_)
  refine g_bipush C 20 (by decide) (by decide +kernel) ?_
  refine g_iadd C (by decide +kernel) ?_
  refine g_sipush C 600 (by decide) (by decide +kernel) ?_
  refine g_icmp_gt C (off := 7) (tgt := 17) (w32_c _) (cK rfl) (by decide +kernel) (by decide) (fun hc2_ => ?_) (fun hc2_ => ?_)
  · replace h := ite_t hc2_ h
    refine g_iconst C 0 (cK rfl) (by decide +kernel) ?_
    obtain ⟨rfl, rfl⟩ := ret_inj h
    exact g_zret C (Or.inl rfl) hlk hr (by decide +kernel)
  · replace h := ite_f hc2_ h
    refine g_iconst C 1 (cK rfl) (by decide +kernel) ?_
    refine g_goto C 18 (off := 4) (by decide +kernel) (by decide) ?_
    obtain ⟨rfl, rfl⟩ := ret_inj h
    exact g_zret C (Or.inr rfl) hlk hr (by decide +kernel)
/-! PollBooks$Parser.append(I)V -/
def y_Pa_append : MethodName := ⟨"PollBooks$Parser", "append", "(I)V"⟩
def rm_Pa_append : Room := { frames := 0, cells := 0, slots := 0, locals := 0 }
theorem mw_Pa_append : MW y_Pa_append prog_6_method_3_code 3 none 1 := ⟨lk_733, lk_6, by decide +kernel⟩
def L_Pa_append_y3 (x1 x2 : Int) (d : Dt) : Option ((Int × Int × Dt) ⊕ ((Dt))) :=
  if x2 < 0 then some (Sum.inr (d)) else if (d 25 1) < 600 then ck ((0 : Int) ≤ (d 25 1) ∧ (d 25 1) < 600) (some (Sum.inl (x1, (w32 (x2 + (-8))), (up2 (up2 d 26 ((d 25 1)).toNat (w8 (w8 (ishr x1 x2)))) 25 1 (w32 ((d 25 1) + 1)))))) else some (Sum.inr (d))
def L_Pa_append_l3 (x1 x2 : Int) (d : Dt) : Option ((Dt)) := lpF (fun q : Int × Int × Dt => L_Pa_append_y3 q.1 q.2.1 q.2.2) FU (x1, x2, d)
def L_Pa_append (p1 : Int) (d : Dt) : Option (Int × Dt) :=
  lb (L_Pa_append_l3 p1 24 d) (fun q11_ => u0 q11_ (fun d9_ => some (0, d9_)))
set_option maxHeartbeats 4000000 in
theorem ok_Pa_append_y3 {p : Program} {l : Launch} {e : Env} {s : State} {m : MethodId} {args : Array Value} {below : List Frame} {meth : Method} {c : Code} {D : va_G} {cA : Nat → ClassId} {ad : Nat → Nat} {A : Nat → Prop} (C : Cx p s m args c prog_6_method_3_code 3 "PollBooks$Parser" D cA ad 0 A) {Q : State → Prop} {o : (Int × Int × Dt) ⊕ ((Dt))} (x1 x2 : Int) (d : Dt) (hx1 : c32 x1) (hx2 : c32 x2) (h : L_Pa_append_y3 x1 x2 d = some o) (kb : ∀ (y0 y1 : Int) (e' : Dt), o = .inl (y0, y1, e') → c32 y0 → c32 y1 → G p l e rm_Pa_append s m args below meth c 0 0 Q 3 D cA ad 0 A 3 [(2, 25), (0, y0), (0, y1)] [] e') (k0 : ∀ (e' : Dt), o = .inr (e') → G p l e rm_Pa_append s m args below meth c 0 0 Q 3 D cA ad 0 A 46 [(9, 0), (9, 0), (9, 0)] [] e') : G p l e rm_Pa_append s m args below meth c 0 0 Q 3 D cA ad 0 A 3 [(2, 25), (0, x1), (0, x2)] [] d := by
  unfold L_Pa_append_y3 at h
  refine g_iload_n C 2 rfl (by decide +kernel) ?_
  refine g_if_lt C (off := 42) (tgt := 46) hx2 (by decide +kernel) (by decide) (fun hc1_ => ?_) (fun hc1_ => ?_)
  · replace h := ite_t hc1_ h
    refine g_sub (lo2 := [(9, 0), (9, 0), (9, 0)]) (lsb_c (lsb_c (lsb_c lsb_e))) ?_
    obtain rfl := Option.some.inj h
    exact k0 d rfl 
  · replace h := ite_f hc1_ h
    refine g_aload_n C 0 rfl (by decide +kernel) ?_
    refine g_getI C cl4 25 1 rfl cd_A25 ⟨by decide, rfl, by decide⟩ rfl (nA (by decide)) (ix := 40) lk_196 (by decide +kernel) (fun hc2_ => ?_)
    refine g_sipush C 600 (by decide) (by decide +kernel) ?_
    refine g_icmp_ge C (off := 32) (tgt := 46) hc2_ (cK rfl) (by decide +kernel) (by decide) (fun hc3_ => ?_) (fun hc3_ => ?_)
    · replace h := ite_t hc3_ h
      refine g_aload_n C 0 rfl (by decide +kernel) ?_
      refine g_getR C cl4 25 0 26 rfl cd_A25 ⟨by decide, rfl, by decide⟩ rfl rfl (nA (by decide)) (ix := 11) lk_195 (by decide +kernel) ?_
      refine g_aload_n C 0 rfl (by decide +kernel) ?_
      refine g_getI C cl4 25 1 rfl cd_A25 ⟨by decide, rfl, by decide⟩ rfl (nA (by decide)) (ix := 40) lk_196 (by decide +kernel) (fun hc4_ => ?_)
      refine g_iload_n C 1 rfl (by decide +kernel) ?_
      refine g_iload_n C 2 rfl (by decide +kernel) ?_
      refine g_ishr C (by decide +kernel) ?_
      refine g_i2b C (i_c _) (by decide +kernel) ?_
      obtain ⟨hb5_, h⟩ := ck_some h
      refine g_bast C 26 (c32_8 _) hc4_ rfl cd_A26 (nA (by decide)) hb5_ (by decide +kernel) ?_
      refine g_aload_n C 0 rfl (by decide +kernel) ?_
      refine g_dup C tg2 (by decide +kernel) ?_
      refine g_getI C cl4 25 1 rfl cd_A25 ⟨by decide, rfl, by decide⟩ rfl (nA (by decide)) (ix := 40) lk_196 (by decide +kernel) (fun hc6_ => ?_)
      refine g_val (y := (d 25 1)) rfl ?_
      replace hc6_ : c32 (d 25 1) := hc6_
      refine g_iconst C 1 (cK rfl) (by decide +kernel) ?_
      refine g_iadd C (by decide +kernel) ?_
      refine g_putI C cl4 25 1 (w32_c _) rfl cd_A25 ⟨by decide, rfl, by decide⟩ rfl (nA (by decide)) (ix := 40) lk_196 rfl rfl (by decide +kernel) ?_
      refine s_iinc C 2 (-8) (lo' := [(2, 25), (0, x1), (0, (w32 (x2 + (-8))))]) rfl (by decide) (s1k (s1n (by decide) s1z)) (by decide +kernel) ?_
      refine g_goto C 3 (off := (-40)) (by decide +kernel) (by decide) ?_
      refine g_sub (lo2 := [(2, 25), (0, x1), (0, (w32 (x2 + (-8))))]) (lsb_v (lsb_v (lsb_v lsb_e))) ?_
      obtain rfl := Option.some.inj h
      exact kb x1 (w32 (x2 + (-8))) (up2 (up2 d 26 ((d 25 1)).toNat (w8 (w8 (ishr x1 x2)))) 25 1 (w32 ((d 25 1) + 1))) rfl hx1 (w32_c _)
    · replace h := ite_f hc3_ h
      refine g_sub (lo2 := [(9, 0), (9, 0), (9, 0)]) (lsb_c (lsb_c (lsb_c lsb_e))) ?_
      obtain rfl := Option.some.inj h
      exact k0 d rfl 
set_option maxHeartbeats 4000000 in
theorem ok_Pa_append_n3 {p : Program} {l : Launch} {e : Env} {s : State} {m : MethodId} {args : Array Value} {below : List Frame} {meth : Method} {c : Code} {D : va_G} {cA : Nat → ClassId} {ad : Nat → Nat} {A : Nat → Prop} (C : Cx p s m args c prog_6_method_3_code 3 "PollBooks$Parser" D cA ad 0 A) {Q : State → Prop} {x : (Dt)} : ∀ (n : Nat) (x1 x2 : Int) (d : Dt), c32 x1 → c32 x2 → lpF (fun q : Int × Int × Dt => L_Pa_append_y3 q.1 q.2.1 q.2.2) n (x1, x2, d) = some x → (∀ (e' : Dt), x = (e') → G p l e rm_Pa_append s m args below meth c 0 0 Q 3 D cA ad 0 A 46 [(9, 0), (9, 0), (9, 0)] [] e') → G p l e rm_Pa_append s m args below meth c 0 0 Q 3 D cA ad 0 A 3 [(2, 25), (0, x1), (0, x2)] [] d := by
  intro n
  induction n with
  | zero => intro x1 x2 d g0 g1 h k0; cases h
  | succ n ih =>
    intro x1 x2 d g0 g1 h k0
    rcases lpF_some h with h | ⟨⟨v0_, v1_, e0_⟩, h1, h⟩
    · exact ok_Pa_append_y3 C x1 x2 d g0 g1 h (fun z0_ z1_ e1_ eq w0_ w1_ => by cases eq) (fun e1_ eq => k0 _ (by cases eq; rfl) )
    · exact ok_Pa_append_y3 C x1 x2 d g0 g1 h1 (fun z0_ z1_ e1_ eq w0_ w1_ => by cases eq; exact ih _ _ _ w0_ w1_ h k0) (fun e1_ eq => by cases eq)
set_option maxHeartbeats 4000000 in
theorem ok_Pa_append_l3 {p : Program} {l : Launch} {e : Env} {s : State} {m : MethodId} {args : Array Value} {below : List Frame} {meth : Method} {c : Code} {D : va_G} {cA : Nat → ClassId} {ad : Nat → Nat} {A : Nat → Prop} (C : Cx p s m args c prog_6_method_3_code 3 "PollBooks$Parser" D cA ad 0 A) {Q : State → Prop} {x : (Dt)} (x1 x2 : Int) (d : Dt) (hx1 : c32 x1) (hx2 : c32 x2) (h : L_Pa_append_l3 x1 x2 d = some x) (k0 : ∀ (e' : Dt), x = (e') → G p l e rm_Pa_append s m args below meth c 0 0 Q 3 D cA ad 0 A 46 [(9, 0), (9, 0), (9, 0)] [] e') : G p l e rm_Pa_append s m args below meth c 0 0 Q 3 D cA ad 0 A 3 [(2, 25), (0, x1), (0, x2)] [] d :=
  ok_Pa_append_n3 C FU x1 x2 d hx1 hx2 h k0
set_option maxHeartbeats 4000000 in
theorem ok_Pa_append {l : Launch} {r : Int} {d' : Dt} (p1 : Int) (d : Dt) (hp1 : c32 p1) (h : L_Pa_append p1 d = some (r, d')) : MC l y_Pa_append prog_6_method_3_code 3 none rm_Pa_append 0 [(2, 25), (0, p1)] d none d' := by
  refine MC.of (by decide) (Nat.le_of_ble_eq_true rfl) ?_
  intro p e s m args below meth c D cA ad A C hlk hr
  replace C : Cx p s m args c prog_6_method_3_code 3 "PollBooks$Parser" D cA ad 0 A := C
  show G p l e rm_Pa_append s m args below meth c 0 0 (MQ below (fun _ => QC D cA ad 0 A none none d') args s 0 0 A) 3 D cA ad 0 A 0 [(2, 25), (0, p1)] [] d
  refine g_sub (lo2 := [(2, 25), (0, p1), (9, 0)]) (lsb_v (lsb_v (lsb_n lsb_e))) ?_
  unfold L_Pa_append at h
  refine g_bipush C 24 (by decide) (by decide +kernel) ?_
  refine s_istore_n C 2 (lo' := [(2, 25), (0, p1), (0, 24)]) (by decide) (s1k (s1n (by decide) s1z)) (by decide +kernel) ?_
  refine g_sub (lo2 := [(2, 25), (0, p1), (0, 24)]) (lsb_v (lsb_v (lsb_v lsb_e))) ?_
  obtain ⟨x7_, hx8_, h⟩ := lb_some h
  refine ok_Pa_append_l3 C p1 24 d hp1 (cK rfl) hx8_ (fun d9_ eq10_ => ?_)
  replace eq10_ := eq10_.symm
  subst eq10_
  replace h := u0_e h
  obtain ⟨rfl, rfl⟩ := ret_inj h
  exact g_vret C hlk hr (by decide +kernel)
/-! PollBooks$Parser.taped()I -/
def y_Pa_taped : MethodName := ⟨"PollBooks$Parser", "taped", "()I"⟩
def rm_Pa_taped : Room := { frames := 0, cells := 0, slots := 0, locals := 0 }
theorem mw_Pa_taped : MW y_Pa_taped prog_6_method_4_code 1 (some .int) 0 := ⟨lk_737, lk_6, by decide +kernel⟩
def L_Pa_taped (d : Dt) : Option (Int × Dt) :=
  some ((d 25 1), d)
set_option maxHeartbeats 4000000 in
theorem ok_Pa_taped {l : Launch} {r : Int} {d' : Dt} (d : Dt)  (h : L_Pa_taped d = some (r, d')) : MC l y_Pa_taped prog_6_method_4_code 1 (some .int) rm_Pa_taped 0 [(2, 25)] d (some (0, r)) d' := by
  refine MC.of (by decide) (Nat.le_of_ble_eq_true rfl) ?_
  intro p e s m args below meth c D cA ad A C hlk hr
  replace C : Cx p s m args c prog_6_method_4_code 1 "PollBooks$Parser" D cA ad 0 A := C
  show G p l e rm_Pa_taped s m args below meth c 0 0 (MQ below (fun _ => QC D cA ad 0 A (some .int) (some (0, r)) d') args s 0 0 A) 1 D cA ad 0 A 0 [(2, 25)] [] d
  refine g_sub (lo2 := [(2, 25)]) (lsb_v lsb_e) ?_
  unfold L_Pa_taped at h
  refine g_aload_n C 0 rfl (by decide +kernel) ?_
  refine g_getI C cl4 25 1 rfl cd_A25 ⟨by decide, rfl, by decide⟩ rfl (nA (by decide)) (ix := 40) lk_196 (by decide +kernel) (fun hc1_ => ?_)
  obtain ⟨rfl, rfl⟩ := ret_inj h
  exact g_iret C hc1_ hlk hr (by decide +kernel)
/-! PollBooks.feed(IIIII)I -/
def y_PB_feed : MethodName := ⟨"PollBooks", "feed", "(IIIII)I"⟩
def rm_PB_feed : Room := { frames := 1, cells := 0, slots := 0, locals := 22 }
theorem mw_PB_feed : MW y_PB_feed prog_1_method_17_code 6 (some .int) 5 := ⟨lk_725, lk_1, by decide +kernel⟩
def L_PB_feed (p1 p2 p3 p4 p5 : Int) (d : Dt) : Option (Int × Dt) :=
  bd (L_Pa_hasRoom d) (fun r2_ d1_ => if r2_ = 0 then some ((-1), d1_) else bd (L_Pa_append p1 d1_) (fun r7_ d6_ => bd (L_Pa_append p2 d6_) (fun r11_ d10_ => bd (L_Pa_append p3 d10_) (fun r15_ d14_ => bd (L_Pa_append p4 d14_) (fun r19_ d18_ => bd (L_Pa_append p5 d18_) (fun r23_ d22_ => bd (L_Pa_taped d22_) (fun r27_ d26_ => some (r27_, d26_))))))))
set_option maxHeartbeats 4000000 in
theorem ok_PB_feed {l : Launch} {r : Int} {d' : Dt} (p1 p2 p3 p4 p5 : Int) (d : Dt) (hp1 : c32 p1) (hp2 : c32 p2) (hp3 : c32 p3) (hp4 : c32 p4) (hp5 : c32 p5) (h : L_PB_feed p1 p2 p3 p4 p5 d = some (r, d')) : MC l y_PB_feed prog_1_method_17_code 6 (some .int) rm_PB_feed 0 [(2, 0), (0, p1), (0, p2), (0, p3), (0, p4), (0, p5)] d (some (0, r)) d' := by
  refine MC.of (by decide) (Nat.le_of_ble_eq_true rfl) ?_
  intro p e s m args below meth c D cA ad A C hlk hr
  replace C : Cx p s m args c prog_1_method_17_code 6 "PollBooks" D cA ad 0 A := C
  show G p l e rm_PB_feed s m args below meth c 0 0 (MQ below (fun _ => QC D cA ad 0 A (some .int) (some (0, r)) d') args s 0 0 A) 6 D cA ad 0 A 0 [(2, 0), (0, p1), (0, p2), (0, p3), (0, p4), (0, p5)] [] d
  refine g_sub (lo2 := [(2, 0), (0, p1), (0, p2), (0, p3), (0, p4), (0, p5)]) (lsb_v (lsb_v (lsb_v (lsb_v (lsb_v (lsb_v lsb_e)))))) ?_
  unfold L_PB_feed at h
  refine g_aload_n C 0 rfl (by decide +kernel) ?_
  refine g_getR C cl11 0 4 25 rfl cd_A0 ⟨by decide, rfl, by decide⟩ rfl rfl (nA (by decide)) (ix := 39) lk_471 (by decide +kernel) ?_
  obtain ⟨r2_, d1_, hr3_, h⟩ := bd_some h
  refine g_callV C mw_Pa_hasRoom [] 25 cl4 rfl (ok_Pa_hasRoom  d  hr3_) cd_A25 (by decide) (nA (by decide)) (ix := 219) lk_726 lk_727 lk_728 ⟨rfl, rfl, Nat.le_of_ble_eq_true rfl, Nat.le_of_ble_eq_true rfl⟩ rfl (rest := []) rfl (Nat.le_of_ble_eq_true rfl) ⟨Nat.zero_le _, Nat.zero_le _⟩ (by decide +kernel) (fun _ hc4_ => ?_)
  replace hc4_ : cb r2_ := hc4_
  refine g_st (st2 := [(0, r2_)]) rfl ?_
  refine g_if_ne C (off := 5) (tgt := 12) (c32_cb hc4_) (by decide +kernel) (by decide) (fun hc5_ => ?_) (fun hc5_ => ?_)
  · replace h := ite_t hc5_ h
    refine g_iconst C (-1) (cK rfl) (by decide +kernel) ?_
    obtain ⟨rfl, rfl⟩ := ret_inj h
    exact g_iret C (cK rfl) hlk hr (by decide +kernel)
  · replace h := ite_f hc5_ h
    refine g_aload_n C 0 rfl (by decide +kernel) ?_
    refine g_getR C cl11 0 4 25 rfl cd_A0 ⟨by decide, rfl, by decide⟩ rfl rfl (nA (by decide)) (ix := 39) lk_471 (by decide +kernel) ?_
    refine g_iload_n C 1 rfl (by decide +kernel) ?_
    obtain ⟨r7_, d6_, hr8_, h⟩ := bd_some h
    refine g_callV C mw_Pa_append [(0, p1)] 25 cl4 rfl (ok_Pa_append p1 d1_ hp1 hr8_) cd_A25 (by decide) (nA (by decide)) (ix := 222) lk_730 lk_731 lk_732 ⟨rfl, rfl, Nat.le_of_ble_eq_true rfl, Nat.le_of_ble_eq_true rfl⟩ rfl (rest := []) rfl (Nat.le_of_ble_eq_true rfl) ⟨Nat.zero_le _, Nat.zero_le _⟩ (by decide +kernel) (fun _ hc9_ => ?_)
    refine g_st (st2 := []) rfl ?_
    refine g_aload_n C 0 rfl (by decide +kernel) ?_
    refine g_getR C cl11 0 4 25 rfl cd_A0 ⟨by decide, rfl, by decide⟩ rfl rfl (nA (by decide)) (ix := 39) lk_471 (by decide +kernel) ?_
    refine g_iload_n C 2 rfl (by decide +kernel) ?_
    obtain ⟨r11_, d10_, hr12_, h⟩ := bd_some h
    refine g_callV C mw_Pa_append [(0, p2)] 25 cl4 rfl (ok_Pa_append p2 d6_ hp2 hr12_) cd_A25 (by decide) (nA (by decide)) (ix := 222) lk_730 lk_731 lk_732 ⟨rfl, rfl, Nat.le_of_ble_eq_true rfl, Nat.le_of_ble_eq_true rfl⟩ rfl (rest := []) rfl (Nat.le_of_ble_eq_true rfl) ⟨Nat.zero_le _, Nat.zero_le _⟩ (by decide +kernel) (fun _ hc13_ => ?_)
    refine g_st (st2 := []) rfl ?_
    refine g_aload_n C 0 rfl (by decide +kernel) ?_
    refine g_getR C cl11 0 4 25 rfl cd_A0 ⟨by decide, rfl, by decide⟩ rfl rfl (nA (by decide)) (ix := 39) lk_471 (by decide +kernel) ?_
    refine g_iload_n C 3 rfl (by decide +kernel) ?_
    obtain ⟨r15_, d14_, hr16_, h⟩ := bd_some h
    refine g_callV C mw_Pa_append [(0, p3)] 25 cl4 rfl (ok_Pa_append p3 d10_ hp3 hr16_) cd_A25 (by decide) (nA (by decide)) (ix := 222) lk_730 lk_731 lk_732 ⟨rfl, rfl, Nat.le_of_ble_eq_true rfl, Nat.le_of_ble_eq_true rfl⟩ rfl (rest := []) rfl (Nat.le_of_ble_eq_true rfl) ⟨Nat.zero_le _, Nat.zero_le _⟩ (by decide +kernel) (fun _ hc17_ => ?_)
    refine g_st (st2 := []) rfl ?_
    refine g_aload_n C 0 rfl (by decide +kernel) ?_
    refine g_getR C cl11 0 4 25 rfl cd_A0 ⟨by decide, rfl, by decide⟩ rfl rfl (nA (by decide)) (ix := 39) lk_471 (by decide +kernel) ?_
    refine g_iload C 4 rfl (by decide +kernel) ?_
    obtain ⟨r19_, d18_, hr20_, h⟩ := bd_some h
    refine g_callV C mw_Pa_append [(0, p4)] 25 cl4 rfl (ok_Pa_append p4 d14_ hp4 hr20_) cd_A25 (by decide) (nA (by decide)) (ix := 222) lk_730 lk_731 lk_732 ⟨rfl, rfl, Nat.le_of_ble_eq_true rfl, Nat.le_of_ble_eq_true rfl⟩ rfl (rest := []) rfl (Nat.le_of_ble_eq_true rfl) ⟨Nat.zero_le _, Nat.zero_le _⟩ (by decide +kernel) (fun _ hc21_ => ?_)
    refine g_st (st2 := []) rfl ?_
    refine g_aload_n C 0 rfl (by decide +kernel) ?_
    refine g_getR C cl11 0 4 25 rfl cd_A0 ⟨by decide, rfl, by decide⟩ rfl rfl (nA (by decide)) (ix := 39) lk_471 (by decide +kernel) ?_
    refine g_iload C 5 rfl (by decide +kernel) ?_
    obtain ⟨r23_, d22_, hr24_, h⟩ := bd_some h
    refine g_callV C mw_Pa_append [(0, p5)] 25 cl4 rfl (ok_Pa_append p5 d18_ hp5 hr24_) cd_A25 (by decide) (nA (by decide)) (ix := 222) lk_730 lk_731 lk_732 ⟨rfl, rfl, Nat.le_of_ble_eq_true rfl, Nat.le_of_ble_eq_true rfl⟩ rfl (rest := []) rfl (Nat.le_of_ble_eq_true rfl) ⟨Nat.zero_le _, Nat.zero_le _⟩ (by decide +kernel) (fun _ hc25_ => ?_)
    refine g_st (st2 := []) rfl ?_
    refine g_aload_n C 0 rfl (by decide +kernel) ?_
    refine g_getR C cl11 0 4 25 rfl cd_A0 ⟨by decide, rfl, by decide⟩ rfl rfl (nA (by decide)) (ix := 39) lk_471 (by decide +kernel) ?_
    obtain ⟨r27_, d26_, hr28_, h⟩ := bd_some h
    refine g_callV C mw_Pa_taped [] 25 cl4 rfl (ok_Pa_taped  d22_  hr28_) cd_A25 (by decide) (nA (by decide)) (ix := 225) lk_734 lk_735 lk_736 ⟨rfl, rfl, Nat.le_of_ble_eq_true rfl, Nat.le_of_ble_eq_true rfl⟩ rfl (rest := []) rfl (Nat.le_of_ble_eq_true rfl) ⟨Nat.zero_le _, Nat.zero_le _⟩ (by decide +kernel) (fun _ hc29_ => ?_)
    replace hc29_ : c32 r27_ := hc29_
    refine g_st (st2 := [(0, r27_)]) rfl ?_
    obtain ⟨rfl, rfl⟩ := ret_inj h
    exact g_iret C hc29_ hlk hr (by decide +kernel)
/-! PollBooks$Laws.isFull()Z -/
def y_La_isFull : MethodName := ⟨"PollBooks$Laws", "isFull", "()Z"⟩
def rm_La_isFull : Room := { frames := 0, cells := 0, slots := 0, locals := 0 }
theorem mw_La_isFull : MW y_La_isFull prog_5_method_2_code 1 (some .boolean) 0 := ⟨lk_746, lk_8, by decide +kernel⟩
def L_La_isFull (d : Dt) : Option (Int × Dt) :=
  if (d 30 2) < 5 then some (0, d) else some (1, d)
set_option maxHeartbeats 4000000 in
theorem ok_La_isFull {l : Launch} {r : Int} {d' : Dt} (d : Dt)  (h : L_La_isFull d = some (r, d')) : MC l y_La_isFull prog_5_method_2_code 1 (some .boolean) rm_La_isFull 0 [(2, 30)] d (some (0, r)) d' := by
  refine MC.of (by decide) (Nat.le_of_ble_eq_true rfl) ?_
  intro p e s m args below meth c D cA ad A C hlk hr
  replace C : Cx p s m args c prog_5_method_2_code 1 "PollBooks$Laws" D cA ad 0 A := C
  show G p l e rm_La_isFull s m args below meth c 0 0 (MQ below (fun _ => QC D cA ad 0 A (some .boolean) (some (0, r)) d') args s 0 0 A) 1 D cA ad 0 A 0 [(2, 30)] [] d
  refine g_sub (lo2 := [(2, 30)]) (lsb_v lsb_e) ?_
  unfold L_La_isFull at h
  refine g_aload_n C 0 rfl (by decide +kernel) ?_
  refine g_getI C cl3 30 2 rfl cd_A30 ⟨by decide, rfl, by decide⟩ rfl (nA (by decide)) (ix := 46) lk_233 (by decide +kernel) (fun hc1_ => ?_)
  refine g_iconst C 5 (cK rfl) (by decide +kernel) ?_
  refine g_icmp_lt C (off := 7) (tgt := 12) hc1_ (cK rfl) (by decide +kernel) (by decide) (fun hc2_ => ?_) (fun hc2_ => ?_)
  · replace h := ite_t hc2_ h
    refine g_iconst C 0 (cK rfl) (by decide +kernel) ?_
    obtain ⟨rfl, rfl⟩ := ret_inj h
    exact g_zret C (Or.inl rfl) hlk hr (by decide +kernel)
  · replace h := ite_f hc2_ h
    refine g_iconst C 1 (cK rfl) (by decide +kernel) ?_
    refine g_goto C 13 (off := 4) (by decide +kernel) (by decide) ?_
    obtain ⟨rfl, rfl⟩ := ret_inj h
    exact g_zret C (Or.inr rfl) hlk hr (by decide +kernel)
/-! PollBooks$Statute.clear()V -/
def y_St_clear : MethodName := ⟨"PollBooks$Statute", "clear", "()V"⟩
def rm_St_clear : Room := { frames := 0, cells := 0, slots := 0, locals := 0 }
theorem mw_St_clear : MW y_St_clear prog_11_method_2_code 1 none 0 := ⟨lk_754, lk_7, by decide +kernel⟩
def L_St_clear (this : Int) (d : Dt) : Option (Int × Dt) :=
  ck (stt d this) (ck (stt (up2 d (this.toNat + 0) 2 0) this) (some (0, (up2 (up2 d (this.toNat + 0) 2 0) (this.toNat + 0) 3 0))))
set_option maxHeartbeats 4000000 in
theorem ok_St_clear {l : Launch} {r : Int} {d' : Dt} (this : Int) (d : Dt)  (h : L_St_clear this d = some (r, d')) : MC l y_St_clear prog_11_method_2_code 1 none rm_St_clear 0 [(2, this)] d none d' := by
  refine MC.of (by decide) (Nat.le_of_ble_eq_true rfl) ?_
  intro p e s m args below meth c D cA ad A C hlk hr
  replace C : Cx p s m args c prog_11_method_2_code 1 "PollBooks$Statute" D cA ad 0 A := C
  show G p l e rm_St_clear s m args below meth c 0 0 (MQ below (fun _ => QC D cA ad 0 A none none d') args s 0 0 A) 1 D cA ad 0 A 0 [(2, this)] [] d
  refine g_sub (lo2 := [(2, this)]) (lsb_v lsb_e) ?_
  unfold L_St_clear at h
  refine g_aload_n C 0 rfl (by decide +kernel) ?_
  refine g_iconst C 0 (cK rfl) (by decide +kernel) ?_
  obtain ⟨hs1_, h⟩ := ck_some h
  refine g_putI C cl9 (this.toNat + 0) 2 (c32_cb (Or.inl rfl)) (stt_ko0 hs1_) (stt_cd hs1_ 0 (by decide)) ⟨by decide, rfl, by decide⟩ rfl (stt_n hs1_ 0 (by decide)) (ix := 31) lk_155 rfl rfl (by decide +kernel) ?_
  refine g_aload_n C 0 rfl (by decide +kernel) ?_
  refine g_iconst C 0 (cK rfl) (by decide +kernel) ?_
  obtain ⟨hs2_, h⟩ := ck_some h
  refine g_putI C cl9 (this.toNat + 0) 3 (c32_cb (Or.inl rfl)) (stt_ko0 hs2_) (stt_cd hs2_ 0 (by decide)) ⟨by decide, rfl, by decide⟩ rfl (stt_n hs2_ 0 (by decide)) (ix := 35) lk_159 rfl rfl (by decide +kernel) ?_
  obtain ⟨rfl, rfl⟩ := ret_inj h
  exact g_vret C hlk hr (by decide +kernel)
/-! PollBooks$Parser.isLetter(I)Z -/
def y_Pa_isLetter : MethodName := ⟨"PollBooks$Parser", "isLetter", "(I)Z"⟩
def rm_Pa_isLetter : Room := { frames := 0, cells := 0, slots := 0, locals := 0 }
theorem mw_Pa_isLetter : MW y_Pa_isLetter prog_6_method_9_code 1 (some .boolean) 1 := ⟨lk_765, lk_6, by decide +kernel⟩
def L_Pa_isLetter (p1 : Int) (d : Dt) : Option (Int × Dt) :=
  if p1 < 97 then some (0, d) else if 122 < p1 then some (0, d) else some (1, d)
set_option maxHeartbeats 4000000 in
theorem ok_Pa_isLetter {l : Launch} {r : Int} {d' : Dt} (p1 : Int) (d : Dt) (hp1 : c32 p1) (h : L_Pa_isLetter p1 d = some (r, d')) : MC l y_Pa_isLetter prog_6_method_9_code 1 (some .boolean) rm_Pa_isLetter 0 [(0, p1)] d (some (0, r)) d' := by
  refine MC.of (by decide) (Nat.le_of_ble_eq_true rfl) ?_
  intro p e s m args below meth c D cA ad A C hlk hr
  replace C : Cx p s m args c prog_6_method_9_code 1 "PollBooks$Parser" D cA ad 0 A := C
  show G p l e rm_Pa_isLetter s m args below meth c 0 0 (MQ below (fun _ => QC D cA ad 0 A (some .boolean) (some (0, r)) d') args s 0 0 A) 1 D cA ad 0 A 0 [(0, p1)] [] d
  refine g_sub (lo2 := [(0, p1)]) (lsb_v lsb_e) ?_
  unfold L_Pa_isLetter at h
  refine g_iload_n C 0 rfl (by decide +kernel) ?_
  refine g_bipush C 97 (by decide) (by decide +kernel) ?_
  refine g_icmp_lt C (off := 13) (tgt := 16) hp1 (cK rfl) (by decide +kernel) (by decide) (fun hc1_ => ?_) (fun hc1_ => ?_)
  · replace h := ite_t hc1_ h
    refine g_iconst C 0 (cK rfl) (by decide +kernel) ?_
    obtain ⟨rfl, rfl⟩ := ret_inj h
    exact g_zret C (Or.inl rfl) hlk hr (by decide +kernel)
  · replace h := ite_f hc1_ h
    refine g_iload_n C 0 rfl (by decide +kernel) ?_
    refine g_bipush C 122 (by decide) (by decide +kernel) ?_
    refine g_icmp_gt C (off := 7) (tgt := 16) hp1 (cK rfl) (by decide +kernel) (by decide) (fun hc2_ => ?_) (fun hc2_ => ?_)
    · replace h := ite_t hc2_ h
      refine g_iconst C 0 (cK rfl) (by decide +kernel) ?_
      obtain ⟨rfl, rfl⟩ := ret_inj h
      exact g_zret C (Or.inl rfl) hlk hr (by decide +kernel)
    · replace h := ite_f hc2_ h
      refine g_iconst C 1 (cK rfl) (by decide +kernel) ?_
      refine g_goto C 17 (off := 4) (by decide +kernel) (by decide) ?_
      obtain ⟨rfl, rfl⟩ := ret_inj h
      exact g_zret C (Or.inr rfl) hlk hr (by decide +kernel)
/-! PollBooks$Parser.isDigit(I)Z -/
def y_Pa_isDigit : MethodName := ⟨"PollBooks$Parser", "isDigit", "(I)Z"⟩
def rm_Pa_isDigit : Room := { frames := 0, cells := 0, slots := 0, locals := 0 }
theorem mw_Pa_isDigit : MW y_Pa_isDigit prog_6_method_10_code 1 (some .boolean) 1 := ⟨lk_768, lk_6, by decide +kernel⟩
def L_Pa_isDigit (p1 : Int) (d : Dt) : Option (Int × Dt) :=
  if p1 < 48 then some (0, d) else if 57 < p1 then some (0, d) else some (1, d)
set_option maxHeartbeats 4000000 in
theorem ok_Pa_isDigit {l : Launch} {r : Int} {d' : Dt} (p1 : Int) (d : Dt) (hp1 : c32 p1) (h : L_Pa_isDigit p1 d = some (r, d')) : MC l y_Pa_isDigit prog_6_method_10_code 1 (some .boolean) rm_Pa_isDigit 0 [(0, p1)] d (some (0, r)) d' := by
  refine MC.of (by decide) (Nat.le_of_ble_eq_true rfl) ?_
  intro p e s m args below meth c D cA ad A C hlk hr
  replace C : Cx p s m args c prog_6_method_10_code 1 "PollBooks$Parser" D cA ad 0 A := C
  show G p l e rm_Pa_isDigit s m args below meth c 0 0 (MQ below (fun _ => QC D cA ad 0 A (some .boolean) (some (0, r)) d') args s 0 0 A) 1 D cA ad 0 A 0 [(0, p1)] [] d
  refine g_sub (lo2 := [(0, p1)]) (lsb_v lsb_e) ?_
  unfold L_Pa_isDigit at h
  refine g_iload_n C 0 rfl (by decide +kernel) ?_
  refine g_bipush C 48 (by decide) (by decide +kernel) ?_
  refine g_icmp_lt C (off := 13) (tgt := 16) hp1 (cK rfl) (by decide +kernel) (by decide) (fun hc1_ => ?_) (fun hc1_ => ?_)
  · replace h := ite_t hc1_ h
    refine g_iconst C 0 (cK rfl) (by decide +kernel) ?_
    obtain ⟨rfl, rfl⟩ := ret_inj h
    exact g_zret C (Or.inl rfl) hlk hr (by decide +kernel)
  · replace h := ite_f hc1_ h
    refine g_iload_n C 0 rfl (by decide +kernel) ?_
    refine g_bipush C 57 (by decide) (by decide +kernel) ?_
    refine g_icmp_gt C (off := 7) (tgt := 16) hp1 (cK rfl) (by decide +kernel) (by decide) (fun hc2_ => ?_) (fun hc2_ => ?_)
    · replace h := ite_t hc2_ h
      refine g_iconst C 0 (cK rfl) (by decide +kernel) ?_
      obtain ⟨rfl, rfl⟩ := ret_inj h
      exact g_zret C (Or.inl rfl) hlk hr (by decide +kernel)
    · replace h := ite_f hc2_ h
      refine g_iconst C 1 (cK rfl) (by decide +kernel) ?_
      refine g_goto C 17 (off := 4) (by decide +kernel) (by decide) ?_
      obtain ⟨rfl, rfl⟩ := ret_inj h
      exact g_zret C (Or.inr rfl) hlk hr (by decide +kernel)
/-! PollBooks$Parser.endOfRun(II)I -/
def y_Pa_endOfRun : MethodName := ⟨"PollBooks$Parser", "endOfRun", "(II)I"⟩
def rm_Pa_endOfRun : Room := { frames := 1, cells := 0, slots := 0, locals := 20 }
theorem mw_Pa_endOfRun : MW y_Pa_endOfRun prog_6_method_11_code 5 (some .int) 2 := ⟨lk_762, lk_6, by decide +kernel⟩
def L_Pa_endOfRun_b70 (x2 x3 x4 : Int) (d : Dt) : Option ((Int × Int × Int × Dt) ⊕ ((Int × Dt))) :=
  some (Sum.inl (x2, x3, (w32 (x4 + 1)), d))
def L_Pa_endOfRun_y31 (x2 x3 x4 : Int) (d : Dt) : Option ((Int × Int × Int × Dt) ⊕ ((Int × Dt))) :=
  if x4 < x2 then if x3 = 0 then ck ((0 : Int) ≤ x4 ∧ x4 < 600) (bd (L_Pa_isDigit (d 26 x4.toNat) d) (fun r6_ d5_ => if r6_ = 0 then some (Sum.inr (x4, d5_)) else L_Pa_endOfRun_b70 x2 x3 x4 d5_)) else ck ((0 : Int) ≤ x4 ∧ x4 < 600) (bd (L_Pa_isLetter (d 26 x4.toNat) d) (fun r13_ d12_ => if r13_ = 0 then some (Sum.inr (x4, d12_)) else L_Pa_endOfRun_b70 x2 x3 x4 d12_)) else some (Sum.inr (x4, d))
def L_Pa_endOfRun_l31 (x2 x3 x4 : Int) (d : Dt) : Option ((Int × Dt)) := lpF (fun q : Int × Int × Int × Dt => L_Pa_endOfRun_y31 q.1 q.2.1 q.2.2.1 q.2.2.2) FU (x2, x3, x4, d)
def L_Pa_endOfRun (p1 p2 : Int) (d : Dt) : Option (Int × Dt) :=
  ck ((0 : Int) ≤ p1 ∧ p1 < 600) (bd (L_Pa_isLetter (d 26 p1.toNat) d) (fun r20_ d19_ => lt_ (w32 (p1 + 1)) (fun v23_ => if r20_ = 0 then ck ((0 : Int) ≤ p1 ∧ p1 < 600) (bd (L_Pa_isDigit (d19_ 26 p1.toNat) d19_) (fun r30_ d29_ => if r30_ = 0 then some (v23_, d29_) else lb (L_Pa_endOfRun_l31 p2 r20_ v23_ d29_) (fun q39_ => u1 q39_ (fun v36_ d37_ => some (v36_, d37_))))) else lb (L_Pa_endOfRun_l31 p2 r20_ v23_ d19_) (fun q45_ => u1 q45_ (fun v42_ d43_ => some (v42_, d43_))))))
set_option maxHeartbeats 4000000 in
theorem ok_Pa_endOfRun_b70 {p : Program} {l : Launch} {e : Env} {s : State} {m : MethodId} {args : Array Value} {below : List Frame} {meth : Method} {c : Code} {D : va_G} {cA : Nat → ClassId} {ad : Nat → Nat} {A : Nat → Prop} (C : Cx p s m args c prog_6_method_11_code 5 "PollBooks$Parser" D cA ad 0 A) {Q : State → Prop} {o : (Int × Int × Int × Dt) ⊕ ((Int × Dt))} (x2 x3 x4 : Int) (d : Dt) (hx2 : c32 x2) (hx3 : cb x3) (hx4 : c32 x4) (h : L_Pa_endOfRun_b70 x2 x3 x4 d = some o) (kb : ∀ (y0 y1 y2 : Int) (e' : Dt), o = .inl (y0, y1, y2, e') → c32 y0 → cb y1 → c32 y2 → G p l e rm_Pa_endOfRun s m args below meth c 0 0 Q 5 D cA ad 0 A 31 [(2, 25), (9, 0), (0, y0), (0, y1), (0, y2)] [] e') (k0 : ∀ (y0 : Int) (e' : Dt), o = .inr (y0, e') → c32 y0 → G p l e rm_Pa_endOfRun s m args below meth c 0 0 Q 5 D cA ad 0 A 76 [(9, 0), (9, 0), (9, 0), (9, 0), (0, y0)] [] e') : G p l e rm_Pa_endOfRun s m args below meth c 0 0 Q 5 D cA ad 0 A 70 [(2, 25), (9, 0), (0, x2), (0, x3), (0, x4)] [] d := by
  unfold L_Pa_endOfRun_b70 at h
  refine s_iinc C 4 1 (lo' := [(2, 25), (9, 0), (0, x2), (0, x3), (0, (w32 (x4 + 1)))]) rfl (by decide) (s1k (s1k (s1k (s1n (by decide) s1z)))) (by decide +kernel) ?_
  refine g_goto C 31 (off := (-42)) (by decide +kernel) (by decide) ?_
  refine g_sub (lo2 := [(2, 25), (9, 0), (0, x2), (0, x3), (0, (w32 (x4 + 1)))]) (lsb_v (lsb_c (lsb_v (lsb_v (lsb_v lsb_e))))) ?_
  obtain rfl := Option.some.inj h
  exact kb x2 x3 (w32 (x4 + 1)) d rfl hx2 hx3 (w32_c _)
set_option maxHeartbeats 4000000 in
theorem ok_Pa_endOfRun_y31 {p : Program} {l : Launch} {e : Env} {s : State} {m : MethodId} {args : Array Value} {below : List Frame} {meth : Method} {c : Code} {D : va_G} {cA : Nat → ClassId} {ad : Nat → Nat} {A : Nat → Prop} (C : Cx p s m args c prog_6_method_11_code 5 "PollBooks$Parser" D cA ad 0 A) {Q : State → Prop} {o : (Int × Int × Int × Dt) ⊕ ((Int × Dt))} (x2 x3 x4 : Int) (d : Dt) (hx2 : c32 x2) (hx3 : cb x3) (hx4 : c32 x4) (h : L_Pa_endOfRun_y31 x2 x3 x4 d = some o) (kb : ∀ (y0 y1 y2 : Int) (e' : Dt), o = .inl (y0, y1, y2, e') → c32 y0 → cb y1 → c32 y2 → G p l e rm_Pa_endOfRun s m args below meth c 0 0 Q 5 D cA ad 0 A 31 [(2, 25), (9, 0), (0, y0), (0, y1), (0, y2)] [] e') (k0 : ∀ (y0 : Int) (e' : Dt), o = .inr (y0, e') → c32 y0 → G p l e rm_Pa_endOfRun s m args below meth c 0 0 Q 5 D cA ad 0 A 76 [(9, 0), (9, 0), (9, 0), (9, 0), (0, y0)] [] e') : G p l e rm_Pa_endOfRun s m args below meth c 0 0 Q 5 D cA ad 0 A 31 [(2, 25), (9, 0), (0, x2), (0, x3), (0, x4)] [] d := by
  unfold L_Pa_endOfRun_y31 at h
  refine g_iload C 4 rfl (by decide +kernel) ?_
  refine g_iload_n C 2 rfl (by decide +kernel) ?_
  refine g_icmp_ge C (off := 42) (tgt := 76) hx4 hx2 (by decide +kernel) (by decide) (fun hc1_ => ?_) (fun hc1_ => ?_)
  · replace h := ite_t hc1_ h
    refine g_iload_n C 3 rfl (by decide +kernel) ?_
    refine g_if_eq C (off := 19) (tgt := 57) (c32_cb hx3) (by decide +kernel) (by decide) (fun hc2_ => ?_) (fun hc2_ => ?_)
    · replace h := ite_t hc2_ h
      refine g_aload_n C 0 rfl (by decide +kernel) ?_
      refine g_getR C cl4 25 0 26 rfl cd_A25 ⟨by decide, rfl, by decide⟩ rfl rfl (nA (by decide)) (ix := 11) lk_195 (by decide +kernel) ?_
      refine g_iload C 4 rfl (by decide +kernel) ?_
      obtain ⟨hb3_, h⟩ := ck_some h
      refine g_bald C 26 hx4 rfl cd_A26 (nA (by decide)) hb3_ (by decide +kernel) (fun hc4_ => ?_)
      obtain ⟨r6_, d5_, hr7_, h⟩ := bd_some h
      refine g_callS C mw_Pa_isDigit [(0, (d 26 x4.toNat))] (ok_Pa_isDigit (d 26 x4.toNat) d (c32_b hc4_) hr7_) (ix := 73) lk_766 lk_767 ⟨rfl, rfl, Nat.le_of_ble_eq_true rfl, Nat.le_of_ble_eq_true rfl⟩ rfl (rest := []) rfl (Nat.le_of_ble_eq_true rfl) ⟨Nat.zero_le _, Nat.zero_le _⟩ (by decide +kernel) (fun _ hc8_ => ?_)
      replace hc8_ : cb r6_ := hc8_
      refine g_st (st2 := [(0, r6_)]) rfl ?_
      refine g_if_eq C (off := 9) (tgt := 76) (c32_cb hc8_) (by decide +kernel) (by decide) (fun hc9_ => ?_) (fun hc9_ => ?_)
      · replace h := ite_t hc9_ h
        refine g_sub (lo2 := [(9, 0), (9, 0), (9, 0), (9, 0), (0, x4)]) (lsb_c (lsb_c (lsb_c (lsb_c (lsb_v lsb_e))))) ?_
        obtain rfl := Option.some.inj h
        exact k0 x4 d5_ rfl hx4
      · replace h := ite_f hc9_ h
        refine g_sub (lo2 := [(2, 25), (9, 0), (0, x2), (0, x3), (0, x4)]) (lsb_v (lsb_c (lsb_v (lsb_v (lsb_v lsb_e))))) ?_
        exact ok_Pa_endOfRun_b70 C x2 x3 x4 d5_ hx2 hx3 hx4 h kb k0
    · replace h := ite_f hc2_ h
      refine g_aload_n C 0 rfl (by decide +kernel) ?_
      refine g_getR C cl4 25 0 26 rfl cd_A25 ⟨by decide, rfl, by decide⟩ rfl rfl (nA (by decide)) (ix := 11) lk_195 (by decide +kernel) ?_
      refine g_iload C 4 rfl (by decide +kernel) ?_
      obtain ⟨hb10_, h⟩ := ck_some h
      refine g_bald C 26 hx4 rfl cd_A26 (nA (by decide)) hb10_ (by decide +kernel) (fun hc11_ => ?_)
      obtain ⟨r13_, d12_, hr14_, h⟩ := bd_some h
      refine g_callS C mw_Pa_isLetter [(0, (d 26 x4.toNat))] (ok_Pa_isLetter (d 26 x4.toNat) d (c32_b hc11_) hr14_) (ix := 69) lk_763 lk_764 ⟨rfl, rfl, Nat.le_of_ble_eq_true rfl, Nat.le_of_ble_eq_true rfl⟩ rfl (rest := []) rfl (Nat.le_of_ble_eq_true rfl) ⟨Nat.zero_le _, Nat.zero_le _⟩ (by decide +kernel) (fun _ hc15_ => ?_)
      replace hc15_ : cb r13_ := hc15_
      refine g_st (st2 := [(0, r13_)]) rfl ?_
      refine g_if_eq C (off := 25) (tgt := 76) (c32_cb hc15_) (by decide +kernel) (by decide) (fun hc16_ => ?_) (fun hc16_ => ?_)
      · replace h := ite_t hc16_ h
        refine g_sub (lo2 := [(9, 0), (9, 0), (9, 0), (9, 0), (0, x4)]) (lsb_c (lsb_c (lsb_c (lsb_c (lsb_v lsb_e))))) ?_
        obtain rfl := Option.some.inj h
        exact k0 x4 d12_ rfl hx4
      · replace h := ite_f hc16_ h
        refine g_goto C 70 (off := 16) (by decide +kernel) (by decide) ?_
        refine g_sub (lo2 := [(2, 25), (9, 0), (0, x2), (0, x3), (0, x4)]) (lsb_v (lsb_c (lsb_v (lsb_v (lsb_v lsb_e))))) ?_
        exact ok_Pa_endOfRun_b70 C x2 x3 x4 d12_ hx2 hx3 hx4 h kb k0
  · replace h := ite_f hc1_ h
    refine g_sub (lo2 := [(9, 0), (9, 0), (9, 0), (9, 0), (0, x4)]) (lsb_c (lsb_c (lsb_c (lsb_c (lsb_v lsb_e))))) ?_
    obtain rfl := Option.some.inj h
    exact k0 x4 d rfl hx4
set_option maxHeartbeats 4000000 in
theorem ok_Pa_endOfRun_n31 {p : Program} {l : Launch} {e : Env} {s : State} {m : MethodId} {args : Array Value} {below : List Frame} {meth : Method} {c : Code} {D : va_G} {cA : Nat → ClassId} {ad : Nat → Nat} {A : Nat → Prop} (C : Cx p s m args c prog_6_method_11_code 5 "PollBooks$Parser" D cA ad 0 A) {Q : State → Prop} {x : (Int × Dt)} : ∀ (n : Nat) (x2 x3 x4 : Int) (d : Dt), c32 x2 → cb x3 → c32 x4 → lpF (fun q : Int × Int × Int × Dt => L_Pa_endOfRun_y31 q.1 q.2.1 q.2.2.1 q.2.2.2) n (x2, x3, x4, d) = some x → (∀ (y0 : Int) (e' : Dt), x = (y0, e') → c32 y0 → G p l e rm_Pa_endOfRun s m args below meth c 0 0 Q 5 D cA ad 0 A 76 [(9, 0), (9, 0), (9, 0), (9, 0), (0, y0)] [] e') → G p l e rm_Pa_endOfRun s m args below meth c 0 0 Q 5 D cA ad 0 A 31 [(2, 25), (9, 0), (0, x2), (0, x3), (0, x4)] [] d := by
  intro n
  induction n with
  | zero => intro x2 x3 x4 d g0 g1 g2 h k0; cases h
  | succ n ih =>
    intro x2 x3 x4 d g0 g1 g2 h k0
    rcases lpF_some h with h | ⟨⟨v0_, v1_, v2_, e0_⟩, h1, h⟩
    · exact ok_Pa_endOfRun_y31 C x2 x3 x4 d g0 g1 g2 h (fun z0_ z1_ z2_ e1_ eq w0_ w1_ w2_ => by cases eq) (fun z0_ e1_ eq w0_ => k0 _ _ (by cases eq; rfl) w0_)
    · exact ok_Pa_endOfRun_y31 C x2 x3 x4 d g0 g1 g2 h1 (fun z0_ z1_ z2_ e1_ eq w0_ w1_ w2_ => by cases eq; exact ih _ _ _ _ w0_ w1_ w2_ h k0) (fun z0_ e1_ eq w0_ => by cases eq)
set_option maxHeartbeats 4000000 in
theorem ok_Pa_endOfRun_l31 {p : Program} {l : Launch} {e : Env} {s : State} {m : MethodId} {args : Array Value} {below : List Frame} {meth : Method} {c : Code} {D : va_G} {cA : Nat → ClassId} {ad : Nat → Nat} {A : Nat → Prop} (C : Cx p s m args c prog_6_method_11_code 5 "PollBooks$Parser" D cA ad 0 A) {Q : State → Prop} {x : (Int × Dt)} (x2 x3 x4 : Int) (d : Dt) (hx2 : c32 x2) (hx3 : cb x3) (hx4 : c32 x4) (h : L_Pa_endOfRun_l31 x2 x3 x4 d = some x) (k0 : ∀ (y0 : Int) (e' : Dt), x = (y0, e') → c32 y0 → G p l e rm_Pa_endOfRun s m args below meth c 0 0 Q 5 D cA ad 0 A 76 [(9, 0), (9, 0), (9, 0), (9, 0), (0, y0)] [] e') : G p l e rm_Pa_endOfRun s m args below meth c 0 0 Q 5 D cA ad 0 A 31 [(2, 25), (9, 0), (0, x2), (0, x3), (0, x4)] [] d :=
  ok_Pa_endOfRun_n31 C FU x2 x3 x4 d hx2 hx3 hx4 h k0
set_option maxHeartbeats 4000000 in
theorem ok_Pa_endOfRun {l : Launch} {r : Int} {d' : Dt} (p1 p2 : Int) (d : Dt) (hp1 : c32 p1) (hp2 : c32 p2) (h : L_Pa_endOfRun p1 p2 d = some (r, d')) : MC l y_Pa_endOfRun prog_6_method_11_code 5 (some .int) rm_Pa_endOfRun 0 [(2, 25), (0, p1), (0, p2)] d (some (0, r)) d' := by
  refine MC.of (by decide) (Nat.le_of_ble_eq_true rfl) ?_
  intro p e s m args below meth c D cA ad A C hlk hr
  replace C : Cx p s m args c prog_6_method_11_code 5 "PollBooks$Parser" D cA ad 0 A := C
  show G p l e rm_Pa_endOfRun s m args below meth c 0 0 (MQ below (fun _ => QC D cA ad 0 A (some .int) (some (0, r)) d') args s 0 0 A) 5 D cA ad 0 A 0 [(2, 25), (0, p1), (0, p2)] [] d
  refine g_sub (lo2 := [(2, 25), (0, p1), (0, p2), (9, 0), (9, 0)]) (lsb_v (lsb_v (lsb_v (lsb_n (lsb_n lsb_e))))) ?_
  unfold L_Pa_endOfRun at h
  refine g_aload_n C 0 rfl (by decide +kernel) ?_
  refine g_getR C cl4 25 0 26 rfl cd_A25 ⟨by decide, rfl, by decide⟩ rfl rfl (nA (by decide)) (ix := 11) lk_195 (by decide +kernel) ?_
  refine g_iload_n C 1 rfl (by decide +kernel) ?_
  obtain ⟨hb17_, h⟩ := ck_some h
  refine g_bald C 26 hp1 rfl cd_A26 (nA (by decide)) hb17_ (by decide +kernel) (fun hc18_ => ?_)
  obtain ⟨r20_, d19_, hr21_, h⟩ := bd_some h
  refine g_callS C mw_Pa_isLetter [(0, (d 26 p1.toNat))] (ok_Pa_isLetter (d 26 p1.toNat) d (c32_b hc18_) hr21_) (ix := 69) lk_763 lk_764 ⟨rfl, rfl, Nat.le_of_ble_eq_true rfl, Nat.le_of_ble_eq_true rfl⟩ rfl (rest := []) rfl (Nat.le_of_ble_eq_true rfl) ⟨Nat.zero_le _, Nat.zero_le _⟩ (by decide +kernel) (fun _ hc22_ => ?_)
  replace hc22_ : cb r20_ := hc22_
  refine g_st (st2 := [(0, r20_)]) rfl ?_
  refine s_istore_n C 3 (lo' := [(2, 25), (0, p1), (0, p2), (0, r20_), (9, 0)]) (by decide) (s1k (s1k (s1n (by decide) s1z))) (by decide +kernel) ?_
  refine g_iload_n C 1 rfl (by decide +kernel) ?_
  refine g_iconst C 1 (cK rfl) (by decide +kernel) ?_
  refine g_iadd C (by decide +kernel) ?_
  obtain ⟨v23_, ev24_, h⟩ := lt_some h
  refine g_val ev24_.symm ?_
  have hv25_ : c32 v23_ := by rw [ev24_]; exact (w32_c _)
  refine s_istore C 4 (lo' := [(2, 25), (0, p1), (0, p2), (0, r20_), (0, v23_)]) (by decide) (s1k (s1k (s1k (s1n (by decide) s1z)))) (by decide +kernel) ?_
  refine g_iload_n C 3 rfl (by decide +kernel) ?_
  refine g_if_ne C (off := 15) (tgt := 31) (c32_cb hc22_) (by decide +kernel) (by decide) (fun hc26_ => ?_) (fun hc26_ => ?_)
  · replace h := ite_t hc26_ h
    refine g_aload_n C 0 rfl (by decide +kernel) ?_
    refine g_getR C cl4 25 0 26 rfl cd_A25 ⟨by decide, rfl, by decide⟩ rfl rfl (nA (by decide)) (ix := 11) lk_195 (by decide +kernel) ?_
    refine g_iload_n C 1 rfl (by decide +kernel) ?_
    obtain ⟨hb27_, h⟩ := ck_some h
    refine g_bald C 26 hp1 rfl cd_A26 (nA (by decide)) hb27_ (by decide +kernel) (fun hc28_ => ?_)
    obtain ⟨r30_, d29_, hr31_, h⟩ := bd_some h
    refine g_callS C mw_Pa_isDigit [(0, (d19_ 26 p1.toNat))] (ok_Pa_isDigit (d19_ 26 p1.toNat) d19_ (c32_b hc28_) hr31_) (ix := 73) lk_766 lk_767 ⟨rfl, rfl, Nat.le_of_ble_eq_true rfl, Nat.le_of_ble_eq_true rfl⟩ rfl (rest := []) rfl (Nat.le_of_ble_eq_true rfl) ⟨Nat.zero_le _, Nat.zero_le _⟩ (by decide +kernel) (fun _ hc32_ => ?_)
    replace hc32_ : cb r30_ := hc32_
    refine g_st (st2 := [(0, r30_)]) rfl ?_
    refine g_if_eq C (off := 48) (tgt := 76) (c32_cb hc32_) (by decide +kernel) (by decide) (fun hc33_ => ?_) (fun hc33_ => ?_)
    · replace h := ite_t hc33_ h
      refine g_iload C 4 rfl (by decide +kernel) ?_
      obtain ⟨rfl, rfl⟩ := ret_inj h
      exact g_iret C hv25_ hlk hr (by decide +kernel)
    · replace h := ite_f hc33_ h
      refine g_sub (lo2 := [(2, 25), (9, 0), (0, p2), (0, r20_), (0, v23_)]) (lsb_v (lsb_c (lsb_v (lsb_v (lsb_v lsb_e))))) ?_
      obtain ⟨x34_, hx35_, h⟩ := lb_some h
      refine ok_Pa_endOfRun_l31 C p2 r20_ v23_ d29_ hp2 hc22_ hv25_ hx35_ (fun v36_ d37_ eq38_ hv36_ => ?_)
      subst eq38_
      replace h := u1_e h
      refine g_iload C 4 rfl (by decide +kernel) ?_
      obtain ⟨rfl, rfl⟩ := ret_inj h
      exact g_iret C hv36_ hlk hr (by decide +kernel)
  · replace h := ite_f hc26_ h
    refine g_sub (lo2 := [(2, 25), (9, 0), (0, p2), (0, r20_), (0, v23_)]) (lsb_v (lsb_c (lsb_v (lsb_v (lsb_v lsb_e))))) ?_
    obtain ⟨x40_, hx41_, h⟩ := lb_some h
    refine ok_Pa_endOfRun_l31 C p2 r20_ v23_ d19_ hp2 hc22_ hv25_ hx41_ (fun v42_ d43_ eq44_ hv42_ => ?_)
    subst eq44_
    replace h := u1_e h
    refine g_iload C 4 rfl (by decide +kernel) ?_
    obtain ⟨rfl, rfl⟩ := ret_inj h
    exact g_iret C hv42_ hlk hr (by decide +kernel)
/-! PollBooks$Parser.indexIn([JJ)I -/
def y_Pa_indexIn : MethodName := ⟨"PollBooks$Parser", "indexIn", "([JJ)I"⟩
def rm_Pa_indexIn : Room := { frames := 0, cells := 0, slots := 0, locals := 0 }
theorem mw_Pa_indexIn : MW y_Pa_indexIn prog_6_method_14_code 4 (some .int) 2 := ⟨lk_782, lk_6, by decide +kernel⟩
def L_Pa_indexIn_y2 (x0 x1 x3 : Int) (d : Dt) : Option ((Int × Int × Int × Dt) ⊕ ((Dt) ⊕ (Int × Dt))) :=
  ck (x0 = 1000001 ∨ x0 = 1000002) (if x3 < ((kwT x0.toNat).length : Int) then ck (x0 = 1000001 ∨ x0 = 1000002) (ck (0 ≤ x3 ∧ x3 < ((kwT x0.toNat).length : Int)) (if (kw x0.toNat x3.toNat) = x1 then some (Sum.inr (Sum.inr (x3, d))) else some (Sum.inl (x0, x1, (w32 (x3 + 1)), d)))) else some (Sum.inr (Sum.inl (d))))
def L_Pa_indexIn_l2 (x0 x1 x3 : Int) (d : Dt) : Option ((Dt) ⊕ (Int × Dt)) := lpF (fun q : Int × Int × Int × Dt => L_Pa_indexIn_y2 q.1 q.2.1 q.2.2.1 q.2.2.2) FU (x0, x1, x3, d)
def L_Pa_indexIn (p1 p2 : Int) (d : Dt) : Option (Int × Dt) :=
  lb (L_Pa_indexIn_l2 p1 p2 0 d) (fun q14_ => sm q14_ (fun q15_ => u0 q15_ (fun d9_ => some ((-1), d9_))) (fun q16_ => u1 q16_ (fun v11_ d12_ => some (v11_, d12_))))
set_option maxHeartbeats 4000000 in
theorem ok_Pa_indexIn_y2 {p : Program} {l : Launch} {e : Env} {s : State} {m : MethodId} {args : Array Value} {below : List Frame} {meth : Method} {c : Code} {D : va_G} {cA : Nat → ClassId} {ad : Nat → Nat} {A : Nat → Prop} (C : Cx p s m args c prog_6_method_14_code 4 "PollBooks$Parser" D cA ad 0 A) {Q : State → Prop} {o : (Int × Int × Int × Dt) ⊕ ((Dt) ⊕ (Int × Dt))} (x0 x1 x3 : Int) (d : Dt) (hx1 : c64 x1) (hx3 : c32 x3) (h : L_Pa_indexIn_y2 x0 x1 x3 d = some o) (kb : ∀ (y0 y1 y2 : Int) (e' : Dt), o = .inl (y0, y1, y2, e') → c64 y1 → c32 y2 → G p l e rm_Pa_indexIn s m args below meth c 0 0 Q 4 D cA ad 0 A 2 [(2, y0), (1, y1), (9, 0), (0, y2)] [] e') (k0 : ∀ (e' : Dt), o = .inr (Sum.inl (e')) → G p l e rm_Pa_indexIn s m args below meth c 0 0 Q 4 D cA ad 0 A 24 [(9, 0), (9, 0), (9, 0), (9, 0)] [] e') (k1 : ∀ (y0 : Int) (e' : Dt), o = .inr (Sum.inr (y0, e')) → c32 y0 → G p l e rm_Pa_indexIn s m args below meth c 0 0 Q 4 D cA ad 0 A 16 [(9, 0), (9, 0), (9, 0), (0, y0)] [] e') : G p l e rm_Pa_indexIn s m args below meth c 0 0 Q 4 D cA ad 0 A 2 [(2, x0), (1, x1), (9, 0), (0, x3)] [] d := by
  unfold L_Pa_indexIn_y2 at h
  refine g_iload_n C 3 rfl (by decide +kernel) ?_
  refine g_aload_n C 0 rfl (by decide +kernel) ?_
  obtain ⟨hs1_, h⟩ := ck_some h
  refine g_kwlen C hs1_ (by decide +kernel) ?_
  refine g_icmp_ge C (off := 19) (tgt := 24) hx3 (kwl hs1_) (by decide +kernel) (by decide) (fun hc2_ => ?_) (fun hc2_ => ?_)
  · replace h := ite_t hc2_ h
    refine g_aload_n C 0 rfl (by decide +kernel) ?_
    refine g_iload_n C 3 rfl (by decide +kernel) ?_
    obtain ⟨hs3_, h⟩ := ck_some h
    obtain ⟨hb4_, h⟩ := ck_some h
    refine g_kwld C hs3_ hx3 hb4_ (by decide +kernel) (fun hc5_ => ?_)
    refine g_lload_n C 1 rfl (by decide +kernel) ?_
    refine g_lc_ne C (off := 5) (tgt := 18) hc5_ hx1 (by decide +kernel) (by decide +kernel) (by decide) (fun hc6_ => ?_) (fun hc6_ => ?_)
    · replace h := ite_t hc6_ h
      refine g_sub (lo2 := [(9, 0), (9, 0), (9, 0), (0, x3)]) (lsb_c (lsb_c (lsb_c (lsb_v lsb_e)))) ?_
      obtain rfl := Option.some.inj h
      exact k1 x3 d rfl hx3
    · replace h := ite_f hc6_ h
      refine s_iinc C 3 1 (lo' := [(2, x0), (1, x1), (9, 0), (0, (w32 (x3 + 1)))]) rfl (by decide) (s1k (s1k (s1n (by decide) s1z))) (by decide +kernel) ?_
      refine g_goto C 2 (off := (-19)) (by decide +kernel) (by decide) ?_
      refine g_sub (lo2 := [(2, x0), (1, x1), (9, 0), (0, (w32 (x3 + 1)))]) (lsb_v (lsb_v (lsb_c (lsb_v lsb_e)))) ?_
      obtain rfl := Option.some.inj h
      exact kb x0 x1 (w32 (x3 + 1)) d rfl hx1 (w32_c _)
  · replace h := ite_f hc2_ h
    refine g_sub (lo2 := [(9, 0), (9, 0), (9, 0), (9, 0)]) (lsb_c (lsb_c (lsb_c (lsb_c lsb_e)))) ?_
    obtain rfl := Option.some.inj h
    exact k0 d rfl 
set_option maxHeartbeats 4000000 in
theorem ok_Pa_indexIn_n2 {p : Program} {l : Launch} {e : Env} {s : State} {m : MethodId} {args : Array Value} {below : List Frame} {meth : Method} {c : Code} {D : va_G} {cA : Nat → ClassId} {ad : Nat → Nat} {A : Nat → Prop} (C : Cx p s m args c prog_6_method_14_code 4 "PollBooks$Parser" D cA ad 0 A) {Q : State → Prop} {x : (Dt) ⊕ (Int × Dt)} : ∀ (n : Nat) (x0 x1 x3 : Int) (d : Dt), c64 x1 → c32 x3 → lpF (fun q : Int × Int × Int × Dt => L_Pa_indexIn_y2 q.1 q.2.1 q.2.2.1 q.2.2.2) n (x0, x1, x3, d) = some x → (∀ (e' : Dt), x = (Sum.inl (e')) → G p l e rm_Pa_indexIn s m args below meth c 0 0 Q 4 D cA ad 0 A 24 [(9, 0), (9, 0), (9, 0), (9, 0)] [] e') → (∀ (y0 : Int) (e' : Dt), x = (Sum.inr (y0, e')) → c32 y0 → G p l e rm_Pa_indexIn s m args below meth c 0 0 Q 4 D cA ad 0 A 16 [(9, 0), (9, 0), (9, 0), (0, y0)] [] e') → G p l e rm_Pa_indexIn s m args below meth c 0 0 Q 4 D cA ad 0 A 2 [(2, x0), (1, x1), (9, 0), (0, x3)] [] d := by
  intro n
  induction n with
  | zero => intro x0 x1 x3 d g0 g1 h k0 k1; cases h
  | succ n ih =>
    intro x0 x1 x3 d g0 g1 h k0 k1
    rcases lpF_some h with h | ⟨⟨v0_, v1_, v2_, e0_⟩, h1, h⟩
    · exact ok_Pa_indexIn_y2 C x0 x1 x3 d g0 g1 h (fun z0_ z1_ z2_ e1_ eq w0_ w1_ => by cases eq) (fun e1_ eq => k0 _ (by cases eq; rfl) ) (fun z0_ e1_ eq w0_ => k1 _ _ (by cases eq; rfl) w0_)
    · exact ok_Pa_indexIn_y2 C x0 x1 x3 d g0 g1 h1 (fun z0_ z1_ z2_ e1_ eq w0_ w1_ => by cases eq; exact ih _ _ _ _ w0_ w1_ h k0 k1) (fun e1_ eq => by cases eq) (fun z0_ e1_ eq w0_ => by cases eq)
set_option maxHeartbeats 4000000 in
theorem ok_Pa_indexIn_l2 {p : Program} {l : Launch} {e : Env} {s : State} {m : MethodId} {args : Array Value} {below : List Frame} {meth : Method} {c : Code} {D : va_G} {cA : Nat → ClassId} {ad : Nat → Nat} {A : Nat → Prop} (C : Cx p s m args c prog_6_method_14_code 4 "PollBooks$Parser" D cA ad 0 A) {Q : State → Prop} {x : (Dt) ⊕ (Int × Dt)} (x0 x1 x3 : Int) (d : Dt) (hx1 : c64 x1) (hx3 : c32 x3) (h : L_Pa_indexIn_l2 x0 x1 x3 d = some x) (k0 : ∀ (e' : Dt), x = (Sum.inl (e')) → G p l e rm_Pa_indexIn s m args below meth c 0 0 Q 4 D cA ad 0 A 24 [(9, 0), (9, 0), (9, 0), (9, 0)] [] e') (k1 : ∀ (y0 : Int) (e' : Dt), x = (Sum.inr (y0, e')) → c32 y0 → G p l e rm_Pa_indexIn s m args below meth c 0 0 Q 4 D cA ad 0 A 16 [(9, 0), (9, 0), (9, 0), (0, y0)] [] e') : G p l e rm_Pa_indexIn s m args below meth c 0 0 Q 4 D cA ad 0 A 2 [(2, x0), (1, x1), (9, 0), (0, x3)] [] d :=
  ok_Pa_indexIn_n2 C FU x0 x1 x3 d hx1 hx3 h k0 k1
set_option maxHeartbeats 4000000 in
theorem ok_Pa_indexIn {l : Launch} {r : Int} {d' : Dt} (p1 p2 : Int) (d : Dt) (hp2 : c64 p2) (h : L_Pa_indexIn p1 p2 d = some (r, d')) : MC l y_Pa_indexIn prog_6_method_14_code 4 (some .int) rm_Pa_indexIn 0 [(2, p1), (1, p2)] d (some (0, r)) d' := by
  refine MC.of (by decide) (Nat.le_of_ble_eq_true rfl) ?_
  intro p e s m args below meth c D cA ad A C hlk hr
  replace C : Cx p s m args c prog_6_method_14_code 4 "PollBooks$Parser" D cA ad 0 A := C
  show G p l e rm_Pa_indexIn s m args below meth c 0 0 (MQ below (fun _ => QC D cA ad 0 A (some .int) (some (0, r)) d') args s 0 0 A) 4 D cA ad 0 A 0 [(2, p1), (1, p2), (9, 0)] [] d
  refine g_sub (lo2 := [(2, p1), (1, p2), (9, 0), (9, 0)]) (lsb_v (lsb_v (lsb_c (lsb_n lsb_e)))) ?_
  unfold L_Pa_indexIn at h
  refine g_iconst C 0 (cK rfl) (by decide +kernel) ?_
  refine s_istore_n C 3 (lo' := [(2, p1), (1, p2), (9, 0), (0, 0)]) (by decide) (s1k (s1k (s1n (by decide) s1z))) (by decide +kernel) ?_
  refine g_sub (lo2 := [(2, p1), (1, p2), (9, 0), (0, 0)]) (lsb_v (lsb_v (lsb_c (lsb_v lsb_e)))) ?_
  obtain ⟨x7_, hx8_, h⟩ := lb_some h
  refine ok_Pa_indexIn_l2 C p1 p2 0 d hp2 (c32_cb (Or.inl rfl)) hx8_ (fun d9_ eq10_ => ?_) (fun v11_ d12_ eq13_ hv11_ => ?_)
  · subst eq10_
    replace h := sml_e h
    replace h := u0_e h
    refine g_iconst C (-1) (cK rfl) (by decide +kernel) ?_
    obtain ⟨rfl, rfl⟩ := ret_inj h
    exact g_iret C (cK rfl) hlk hr (by decide +kernel)
  · subst eq13_
    replace h := smr_e h
    replace h := u1_e h
    refine g_iload_n C 3 rfl (by decide +kernel) ?_
    obtain ⟨rfl, rfl⟩ := ret_inj h
    exact g_iret C hv11_ hlk hr (by decide +kernel)
/-! PollBooks$Parser.scanWord(III)V -/
def y_Pa_scanWord : MethodName := ⟨"PollBooks$Parser", "scanWord", "(III)V"⟩
def rm_Pa_scanWord : Room := { frames := 1, cells := 0, slots := 0, locals := 23 }
theorem mw_Pa_scanWord : MW y_Pa_scanWord prog_6_method_13_code 8 none 3 := ⟨lk_776, lk_6, by decide +kernel⟩
def L_Pa_scanWord_y22 (x1 x3 x4 x6 : Int) (d : Dt) : Option ((Int × Int × Int × Int × Dt) ⊕ ((Int × Int × Dt))) :=
  if x6 < x3 then ck ((0 : Int) ≤ x6 ∧ x6 < 600) (lt_ (w64 ((w64 ((w64 ((lshl x4 5) + (d 26 x6.toNat))) - 97)) + 1)) (fun v4_ => some (Sum.inl (x1, x3, v4_, (w32 (x6 + 1)), d)))) else some (Sum.inr (x1, x4, d))
def L_Pa_scanWord_l22 (x1 x3 x4 x6 : Int) (d : Dt) : Option ((Int × Int × Dt)) := lpF (fun q : Int × Int × Int × Int × Dt => L_Pa_scanWord_y22 q.1 q.2.1 q.2.2.1 q.2.2.2.1 q.2.2.2.2) FU (x1, x3, x4, x6, d)
def L_Pa_scanWord_b131 (s1 s2 : Int) (d : Dt) : Option (Int × Dt) :=
  ck ((0 : Int) ≤ s1 ∧ s1 < 601) (some (0, (up2 d 28 s1.toNat s2)))
def L_Pa_scanWord_b111 (x1 x4 x7 s1 s2 : Int) (d : Dt) : Option (Int × Dt) :=
  ck ((0 : Int) ≤ s1 ∧ s1 < 601) (if x7 = (-1) then L_Pa_scanWord_b131 x1 x4 (up2 d 27 s1.toNat s2) else L_Pa_scanWord_b131 x1 x7 (up2 d 27 s1.toNat s2))
def L_Pa_scanWord (p1 p2 p3 : Int) (d : Dt) : Option (Int × Dt) :=
  if 8 < (w32 (p3 - p2)) then ck ((0 : Int) ≤ p1 ∧ p1 < 601) (some (0, (up2 d 27 p1.toNat 5))) else lb (L_Pa_scanWord_l22 p1 p3 0 p2 d) (fun q29_ => u2 q29_ (fun v14_ v15_ d16_ => bd (L_Pa_indexIn 1000001 v15_ d16_) (fun r19_ d18_ => bd (L_Pa_indexIn 1000002 v15_ d18_) (fun r23_ d22_ => if r19_ = (-1) then if r23_ = (-1) then L_Pa_scanWord_b111 v14_ v15_ r23_ v14_ 3 d22_ else L_Pa_scanWord_b111 v14_ v15_ r23_ v14_ 4 d22_ else ck ((0 : Int) ≤ v14_ ∧ v14_ < 601) (some (0, (up2 d22_ 27 v14_.toNat (w32 (16 + r19_)))))))))
set_option maxHeartbeats 4000000 in
theorem ok_Pa_scanWord_y22 {p : Program} {l : Launch} {e : Env} {s : State} {m : MethodId} {args : Array Value} {below : List Frame} {meth : Method} {c : Code} {D : va_G} {cA : Nat → ClassId} {ad : Nat → Nat} {A : Nat → Prop} (C : Cx p s m args c prog_6_method_13_code 8 "PollBooks$Parser" D cA ad 0 A) {Q : State → Prop} {o : (Int × Int × Int × Int × Dt) ⊕ ((Int × Int × Dt))} (x1 x3 x4 x6 : Int) (d : Dt) (hx1 : c32 x1) (hx3 : c32 x3) (hx4 : c64 x4) (hx6 : c32 x6) (h : L_Pa_scanWord_y22 x1 x3 x4 x6 d = some o) (kb : ∀ (y0 y1 y2 y3 : Int) (e' : Dt), o = .inl (y0, y1, y2, y3, e') → c32 y0 → c32 y1 → c64 y2 → c32 y3 → G p l e rm_Pa_scanWord s m args below meth c 0 0 Q 8 D cA ad 0 A 22 [(2, 25), (0, y0), (9, 0), (0, y1), (1, y2), (9, 0), (0, y3), (9, 0)] [] e') (k0 : ∀ (y0 y1 : Int) (e' : Dt), o = .inr (y0, y1, e') → c32 y0 → c64 y1 → G p l e rm_Pa_scanWord s m args below meth c 0 0 Q 8 D cA ad 0 A 55 [(2, 25), (0, y0), (9, 0), (9, 0), (1, y1), (9, 0), (9, 0), (9, 0)] [] e') : G p l e rm_Pa_scanWord s m args below meth c 0 0 Q 8 D cA ad 0 A 22 [(2, 25), (0, x1), (9, 0), (0, x3), (1, x4), (9, 0), (0, x6), (9, 0)] [] d := by
  unfold L_Pa_scanWord_y22 at h
  refine g_iload C 6 rfl (by decide +kernel) ?_
  refine g_iload_n C 3 rfl (by decide +kernel) ?_
  refine g_icmp_ge C (off := 30) (tgt := 55) hx6 hx3 (by decide +kernel) (by decide) (fun hc1_ => ?_) (fun hc1_ => ?_)
  · replace h := ite_t hc1_ h
    refine g_lload C 4 rfl (by decide +kernel) ?_
    refine g_iconst C 5 (cK rfl) (by decide +kernel) ?_
    refine g_lshl C (by decide +kernel) ?_
    refine g_aload_n C 0 rfl (by decide +kernel) ?_
    refine g_getR C cl4 25 0 26 rfl cd_A25 ⟨by decide, rfl, by decide⟩ rfl rfl (nA (by decide)) (ix := 11) lk_195 (by decide +kernel) ?_
    refine g_iload C 6 rfl (by decide +kernel) ?_
    obtain ⟨hb2_, h⟩ := ck_some h
    refine g_bald C 26 hx6 rfl cd_A26 (nA (by decide)) hb2_ (by decide +kernel) (fun hc3_ => ?_)
    refine g_i2l C (c32_b hc3_) (by decide +kernel) ?_
    refine g_ladd C (by decide +kernel) ?_
    refine g_ldc2 C (ix := 83) (v := 97) lk_777 (by decide +kernel) ?_
    refine g_lsub C (by decide +kernel) ?_
    refine g_lconst C 1 (v := 1) (by decide) (by decide +kernel) ?_
    refine g_ladd C (by decide +kernel) ?_
    obtain ⟨v4_, ev5_, h⟩ := lt_some h
    refine g_val ev5_.symm ?_
    have hv6_ : c64 v4_ := by rw [ev5_]; exact (w64_c _)
    refine s_lstore C 4 (lo' := [(2, 25), (0, x1), (9, 0), (0, x3), (1, v4_), (9, 0), (0, x6), (9, 0)]) (by decide) (s2k (s2k (s2k (s2n (by decide) s2z)))) (by decide +kernel) ?_
    refine s_iinc C 6 1 (lo' := [(2, 25), (0, x1), (9, 0), (0, x3), (1, v4_), (9, 0), (0, (w32 (x6 + 1))), (9, 0)]) rfl (by decide) (s1k (s1k (s1k (s1k (s1k (s1n (by decide) s1z)))))) (by decide +kernel) ?_
    refine g_goto C 22 (off := (-30)) (by decide +kernel) (by decide) ?_
    refine g_sub (lo2 := [(2, 25), (0, x1), (9, 0), (0, x3), (1, v4_), (9, 0), (0, (w32 (x6 + 1))), (9, 0)]) (lsb_v (lsb_v (lsb_c (lsb_v (lsb_v (lsb_c (lsb_v (lsb_c lsb_e)))))))) ?_
    obtain rfl := Option.some.inj h
    exact kb x1 x3 v4_ (w32 (x6 + 1)) d rfl hx1 hx3 hv6_ (w32_c _)
  · replace h := ite_f hc1_ h
    refine g_sub (lo2 := [(2, 25), (0, x1), (9, 0), (9, 0), (1, x4), (9, 0), (9, 0), (9, 0)]) (lsb_v (lsb_v (lsb_c (lsb_c (lsb_v (lsb_c (lsb_c (lsb_c lsb_e)))))))) ?_
    obtain rfl := Option.some.inj h
    exact k0 x1 x4 d rfl hx1 hx4
set_option maxHeartbeats 4000000 in
theorem ok_Pa_scanWord_n22 {p : Program} {l : Launch} {e : Env} {s : State} {m : MethodId} {args : Array Value} {below : List Frame} {meth : Method} {c : Code} {D : va_G} {cA : Nat → ClassId} {ad : Nat → Nat} {A : Nat → Prop} (C : Cx p s m args c prog_6_method_13_code 8 "PollBooks$Parser" D cA ad 0 A) {Q : State → Prop} {x : (Int × Int × Dt)} : ∀ (n : Nat) (x1 x3 x4 x6 : Int) (d : Dt), c32 x1 → c32 x3 → c64 x4 → c32 x6 → lpF (fun q : Int × Int × Int × Int × Dt => L_Pa_scanWord_y22 q.1 q.2.1 q.2.2.1 q.2.2.2.1 q.2.2.2.2) n (x1, x3, x4, x6, d) = some x → (∀ (y0 y1 : Int) (e' : Dt), x = (y0, y1, e') → c32 y0 → c64 y1 → G p l e rm_Pa_scanWord s m args below meth c 0 0 Q 8 D cA ad 0 A 55 [(2, 25), (0, y0), (9, 0), (9, 0), (1, y1), (9, 0), (9, 0), (9, 0)] [] e') → G p l e rm_Pa_scanWord s m args below meth c 0 0 Q 8 D cA ad 0 A 22 [(2, 25), (0, x1), (9, 0), (0, x3), (1, x4), (9, 0), (0, x6), (9, 0)] [] d := by
  intro n
  induction n with
  | zero => intro x1 x3 x4 x6 d g0 g1 g2 g3 h k0; cases h
  | succ n ih =>
    intro x1 x3 x4 x6 d g0 g1 g2 g3 h k0
    rcases lpF_some h with h | ⟨⟨v0_, v1_, v2_, v3_, e0_⟩, h1, h⟩
    · exact ok_Pa_scanWord_y22 C x1 x3 x4 x6 d g0 g1 g2 g3 h (fun z0_ z1_ z2_ z3_ e1_ eq w0_ w1_ w2_ w3_ => by cases eq) (fun z0_ z1_ e1_ eq w0_ w1_ => k0 _ _ _ (by cases eq; rfl) w0_ w1_)
    · exact ok_Pa_scanWord_y22 C x1 x3 x4 x6 d g0 g1 g2 g3 h1 (fun z0_ z1_ z2_ z3_ e1_ eq w0_ w1_ w2_ w3_ => by cases eq; exact ih _ _ _ _ _ w0_ w1_ w2_ w3_ h k0) (fun z0_ z1_ e1_ eq w0_ w1_ => by cases eq)
set_option maxHeartbeats 4000000 in
theorem ok_Pa_scanWord_l22 {p : Program} {l : Launch} {e : Env} {s : State} {m : MethodId} {args : Array Value} {below : List Frame} {meth : Method} {c : Code} {D : va_G} {cA : Nat → ClassId} {ad : Nat → Nat} {A : Nat → Prop} (C : Cx p s m args c prog_6_method_13_code 8 "PollBooks$Parser" D cA ad 0 A) {Q : State → Prop} {x : (Int × Int × Dt)} (x1 x3 x4 x6 : Int) (d : Dt) (hx1 : c32 x1) (hx3 : c32 x3) (hx4 : c64 x4) (hx6 : c32 x6) (h : L_Pa_scanWord_l22 x1 x3 x4 x6 d = some x) (k0 : ∀ (y0 y1 : Int) (e' : Dt), x = (y0, y1, e') → c32 y0 → c64 y1 → G p l e rm_Pa_scanWord s m args below meth c 0 0 Q 8 D cA ad 0 A 55 [(2, 25), (0, y0), (9, 0), (9, 0), (1, y1), (9, 0), (9, 0), (9, 0)] [] e') : G p l e rm_Pa_scanWord s m args below meth c 0 0 Q 8 D cA ad 0 A 22 [(2, 25), (0, x1), (9, 0), (0, x3), (1, x4), (9, 0), (0, x6), (9, 0)] [] d :=
  ok_Pa_scanWord_n22 C FU x1 x3 x4 x6 d hx1 hx3 hx4 hx6 h k0
set_option maxHeartbeats 4000000 in
theorem ok_Pa_scanWord_b131 {p : Program} {l : Launch} {e : Env} {s : State} {m : MethodId} {args : Array Value} {below : List Frame} {meth : Method} {c : Code} {D : va_G} {cA : Nat → ClassId} {ad : Nat → Nat} {A : Nat → Prop} (C : Cx p s m args c prog_6_method_13_code 8 "PollBooks$Parser" D cA ad 0 A) (hlk : meth.locks = false) (hr : meth.sig.returnType = none) {r : Int} {d' : Dt} (s1 s2 : Int) (d : Dt) (hs1 : c32 s1) (hs2 : c64 s2) (h : L_Pa_scanWord_b131 s1 s2 d = some (r, d')) : G p l e rm_Pa_scanWord s m args below meth c 0 0 (MQ below (fun _ => QC D cA ad 0 A none none d') args s 0 0 A) 8 D cA ad 0 A 131 [(9, 0), (9, 0), (9, 0), (9, 0), (9, 0), (9, 0), (9, 0), (9, 0)] [(1, s2), (0, s1), (2, 28)] d := by
  unfold L_Pa_scanWord_b131 at h
  obtain ⟨hb7_, h⟩ := ck_some h
  refine g_last C 28 hs2 hs1 rfl cd_A28 (nA (by decide)) hb7_ (by decide +kernel) ?_
  obtain ⟨rfl, rfl⟩ := ret_inj h
  exact g_vret C hlk hr (by decide +kernel)
set_option maxHeartbeats 4000000 in
theorem ok_Pa_scanWord_b111 {p : Program} {l : Launch} {e : Env} {s : State} {m : MethodId} {args : Array Value} {below : List Frame} {meth : Method} {c : Code} {D : va_G} {cA : Nat → ClassId} {ad : Nat → Nat} {A : Nat → Prop} (C : Cx p s m args c prog_6_method_13_code 8 "PollBooks$Parser" D cA ad 0 A) (hlk : meth.locks = false) (hr : meth.sig.returnType = none) {r : Int} {d' : Dt} (x1 x4 x7 s1 s2 : Int) (d : Dt) (hx1 : c32 x1) (hx4 : c64 x4) (hx7 : c32 x7) (hs1 : c32 s1) (hs2 : c32 s2) (h : L_Pa_scanWord_b111 x1 x4 x7 s1 s2 d = some (r, d')) : G p l e rm_Pa_scanWord s m args below meth c 0 0 (MQ below (fun _ => QC D cA ad 0 A none none d') args s 0 0 A) 8 D cA ad 0 A 111 [(2, 25), (0, x1), (9, 0), (9, 0), (1, x4), (9, 0), (9, 0), (0, x7)] [(0, s2), (0, s1), (2, 27)] d := by
  unfold L_Pa_scanWord_b111 at h
  obtain ⟨hb8_, h⟩ := ck_some h
  refine g_iast C 27 hs2 hs1 rfl cd_A27 (nA (by decide)) hb8_ (by decide +kernel) ?_
  refine g_aload_n C 0 rfl (by decide +kernel) ?_
  refine g_getR C cl4 25 3 28 rfl cd_A25 ⟨by decide, rfl, by decide⟩ rfl rfl (nA (by decide)) (ix := 19) lk_198 (by decide +kernel) ?_
  refine g_iload_n C 1 rfl (by decide +kernel) ?_
  refine g_iload C 7 rfl (by decide +kernel) ?_
  refine g_iconst C (-1) (cK rfl) (by decide +kernel) ?_
  refine g_icmp_eq C (off := 9) (tgt := 129) hx7 (cK rfl) (by decide +kernel) (by decide) (fun hc9_ => ?_) (fun hc9_ => ?_)
  · replace h := ite_t hc9_ h
    refine g_lload C 4 rfl (by decide +kernel) ?_
    refine g_sub (lo2 := [(9, 0), (9, 0), (9, 0), (9, 0), (9, 0), (9, 0), (9, 0), (9, 0)]) (lsb_c (lsb_c (lsb_c (lsb_c (lsb_c (lsb_c (lsb_c (lsb_c lsb_e)))))))) ?_
    exact ok_Pa_scanWord_b131 C hlk hr x1 x4 (up2 d 27 s1.toNat s2) hx1 hx4 h
  · replace h := ite_f hc9_ h
    refine g_iload C 7 rfl (by decide +kernel) ?_
    refine g_i2l C hx7 (by decide +kernel) ?_
    refine g_goto C 131 (off := 5) (by decide +kernel) (by decide) ?_
    refine g_sub (lo2 := [(9, 0), (9, 0), (9, 0), (9, 0), (9, 0), (9, 0), (9, 0), (9, 0)]) (lsb_c (lsb_c (lsb_c (lsb_c (lsb_c (lsb_c (lsb_c (lsb_c lsb_e)))))))) ?_
    exact ok_Pa_scanWord_b131 C hlk hr x1 x7 (up2 d 27 s1.toNat s2) hx1 (c64_32 hx7) h
set_option maxHeartbeats 4000000 in
theorem ok_Pa_scanWord {l : Launch} {r : Int} {d' : Dt} (p1 p2 p3 : Int) (d : Dt) (hp1 : c32 p1) (hp2 : c32 p2) (hp3 : c32 p3) (h : L_Pa_scanWord p1 p2 p3 d = some (r, d')) : MC l y_Pa_scanWord prog_6_method_13_code 8 none rm_Pa_scanWord 0 [(2, 25), (0, p1), (0, p2), (0, p3)] d none d' := by
  refine MC.of (by decide) (Nat.le_of_ble_eq_true rfl) ?_
  intro p e s m args below meth c D cA ad A C hlk hr
  replace C : Cx p s m args c prog_6_method_13_code 8 "PollBooks$Parser" D cA ad 0 A := C
  show G p l e rm_Pa_scanWord s m args below meth c 0 0 (MQ below (fun _ => QC D cA ad 0 A none none d') args s 0 0 A) 8 D cA ad 0 A 0 [(2, 25), (0, p1), (0, p2), (0, p3)] [] d
  refine g_sub (lo2 := [(2, 25), (0, p1), (0, p2), (0, p3), (9, 0), (9, 0), (9, 0), (9, 0)]) (lsb_v (lsb_v (lsb_v (lsb_v (lsb_n (lsb_n (lsb_n (lsb_n lsb_e)))))))) ?_
  unfold L_Pa_scanWord at h
  refine g_iload_n C 3 rfl (by decide +kernel) ?_
  refine g_iload_n C 2 rfl (by decide +kernel) ?_
  refine g_isub C (by decide +kernel) ?_
  refine g_bipush C 8 (by decide) (by decide +kernel) ?_
  refine g_icmp_le C (off := 11) (tgt := 16) (w32_c _) (cK rfl) (by decide +kernel) (by decide) (fun hc10_ => ?_) (fun hc10_ => ?_)
  · replace h := ite_t hc10_ h
    refine g_aload_n C 0 rfl (by decide +kernel) ?_
    refine g_getR C cl4 25 2 27 rfl cd_A25 ⟨by decide, rfl, by decide⟩ rfl rfl (nA (by decide)) (ix := 15) lk_197 (by decide +kernel) ?_
    refine g_iload_n C 1 rfl (by decide +kernel) ?_
    refine g_iconst C 5 (cK rfl) (by decide +kernel) ?_
    obtain ⟨hb11_, h⟩ := ck_some h
    refine g_iast C 27 (cK rfl) hp1 rfl cd_A27 (nA (by decide)) hb11_ (by decide +kernel) ?_
    obtain ⟨rfl, rfl⟩ := ret_inj h
    exact g_vret C hlk hr (by decide +kernel)
  · replace h := ite_f hc10_ h
    refine g_lconst C 0 (v := 0) (by decide) (by decide +kernel) ?_
    refine s_lstore C 4 (lo' := [(2, 25), (0, p1), (0, p2), (0, p3), (1, 0), (9, 0), (9, 0), (9, 0)]) (by decide) (s2k (s2k (s2k (s2n (by decide) s2z)))) (by decide +kernel) ?_
    refine g_iload_n C 2 rfl (by decide +kernel) ?_
    refine s_istore C 6 (lo' := [(2, 25), (0, p1), (0, p2), (0, p3), (1, 0), (9, 0), (0, p2), (9, 0)]) (by decide) (s1k (s1k (s1k (s1k (s1k (s1n (by decide) s1z)))))) (by decide +kernel) ?_
    refine g_sub (lo2 := [(2, 25), (0, p1), (9, 0), (0, p3), (1, 0), (9, 0), (0, p2), (9, 0)]) (lsb_v (lsb_v (lsb_c (lsb_v (lsb_v (lsb_c (lsb_v (lsb_c lsb_e)))))))) ?_
    obtain ⟨x12_, hx13_, h⟩ := lb_some h
    refine ok_Pa_scanWord_l22 C p1 p3 0 p2 d hp1 hp3 (cL rfl) hp2 hx13_ (fun v14_ v15_ d16_ eq17_ hv14_ hv15_ => ?_)
    subst eq17_
    replace h := u2_e h
    refine g_kwK C (ix := 85) lk_778 (by decide +kernel) ?_
    refine g_lload C 4 rfl (by decide +kernel) ?_
    obtain ⟨r19_, d18_, hr20_, h⟩ := bd_some h
    refine g_callS C mw_Pa_indexIn [(2, 1000001), (1, v15_)] (ok_Pa_indexIn 1000001 v15_ d16_ hv15_ hr20_) (ix := 88) lk_780 lk_781 ⟨rfl, rfl, Nat.le_of_ble_eq_true rfl, Nat.le_of_ble_eq_true rfl⟩ rfl (rest := []) rfl (Nat.le_of_ble_eq_true rfl) ⟨Nat.zero_le _, Nat.zero_le _⟩ (by decide +kernel) (fun _ hc21_ => ?_)
    replace hc21_ : c32 r19_ := hc21_
    refine g_st (st2 := [(0, r19_)]) rfl ?_
    refine s_istore C 6 (lo' := [(2, 25), (0, v14_), (9, 0), (9, 0), (1, v15_), (9, 0), (0, r19_), (9, 0)]) (by decide) (s1k (s1k (s1k (s1k (s1k (s1n (by decide) s1z)))))) (by decide +kernel) ?_
    refine g_kwV C (ix := 92) lk_783 (by decide +kernel) ?_
    refine g_lload C 4 rfl (by decide +kernel) ?_
    obtain ⟨r23_, d22_, hr24_, h⟩ := bd_some h
    refine g_callS C mw_Pa_indexIn [(2, 1000002), (1, v15_)] (ok_Pa_indexIn 1000002 v15_ d18_ hv15_ hr24_) (ix := 88) lk_780 lk_781 ⟨rfl, rfl, Nat.le_of_ble_eq_true rfl, Nat.le_of_ble_eq_true rfl⟩ rfl (rest := []) rfl (Nat.le_of_ble_eq_true rfl) ⟨Nat.zero_le _, Nat.zero_le _⟩ (by decide +kernel) (fun _ hc25_ => ?_)
    replace hc25_ : c32 r23_ := hc25_
    refine g_st (st2 := [(0, r23_)]) rfl ?_
    refine s_istore C 7 (lo' := [(2, 25), (0, v14_), (9, 0), (9, 0), (1, v15_), (9, 0), (0, r19_), (0, r23_)]) (by decide) (s1k (s1k (s1k (s1k (s1k (s1k (s1n (by decide) s1z))))))) (by decide +kernel) ?_
    refine g_iload C 6 rfl (by decide +kernel) ?_
    refine g_iconst C (-1) (cK rfl) (by decide +kernel) ?_
    refine g_icmp_eq C (off := 17) (tgt := 95) hc21_ (cK rfl) (by decide +kernel) (by decide) (fun hc26_ => ?_) (fun hc26_ => ?_)
    · replace h := ite_t hc26_ h
      refine g_aload_n C 0 rfl (by decide +kernel) ?_
      refine g_getR C cl4 25 2 27 rfl cd_A25 ⟨by decide, rfl, by decide⟩ rfl rfl (nA (by decide)) (ix := 15) lk_197 (by decide +kernel) ?_
      refine g_iload_n C 1 rfl (by decide +kernel) ?_
      refine g_iload C 7 rfl (by decide +kernel) ?_
      refine g_iconst C (-1) (cK rfl) (by decide +kernel) ?_
      refine g_icmp_eq C (off := 7) (tgt := 110) hc25_ (cK rfl) (by decide +kernel) (by decide) (fun hc27_ => ?_) (fun hc27_ => ?_)
      · replace h := ite_t hc27_ h
        refine g_iconst C 3 (cK rfl) (by decide +kernel) ?_
        refine g_sub (lo2 := [(2, 25), (0, v14_), (9, 0), (9, 0), (1, v15_), (9, 0), (9, 0), (0, r23_)]) (lsb_v (lsb_v (lsb_c (lsb_c (lsb_v (lsb_c (lsb_c (lsb_v lsb_e)))))))) ?_
        exact ok_Pa_scanWord_b111 C hlk hr v14_ v15_ r23_ v14_ 3 d22_ hv14_ hv15_ hc25_ hv14_ (cK rfl) h
      · replace h := ite_f hc27_ h
        refine g_iconst C 4 (cK rfl) (by decide +kernel) ?_
        refine g_goto C 111 (off := 4) (by decide +kernel) (by decide) ?_
        refine g_sub (lo2 := [(2, 25), (0, v14_), (9, 0), (9, 0), (1, v15_), (9, 0), (9, 0), (0, r23_)]) (lsb_v (lsb_v (lsb_c (lsb_c (lsb_v (lsb_c (lsb_c (lsb_v lsb_e)))))))) ?_
        exact ok_Pa_scanWord_b111 C hlk hr v14_ v15_ r23_ v14_ 4 d22_ hv14_ hv15_ hc25_ hv14_ (cK rfl) h
    · replace h := ite_f hc26_ h
      refine g_aload_n C 0 rfl (by decide +kernel) ?_
      refine g_getR C cl4 25 2 27 rfl cd_A25 ⟨by decide, rfl, by decide⟩ rfl rfl (nA (by decide)) (ix := 15) lk_197 (by decide +kernel) ?_
      refine g_iload_n C 1 rfl (by decide +kernel) ?_
      refine g_bipush C 16 (by decide) (by decide +kernel) ?_
      refine g_iload C 6 rfl (by decide +kernel) ?_
      refine g_iadd C (by decide +kernel) ?_
      obtain ⟨hb28_, h⟩ := ck_some h
      refine g_iast C 27 (w32_c _) hv14_ rfl cd_A27 (nA (by decide)) hb28_ (by decide +kernel) ?_
      refine g_goto C 132 (off := 40) (by decide +kernel) (by decide) ?_
      obtain ⟨rfl, rfl⟩ := ret_inj h
      exact g_vret C hlk hr (by decide +kernel)
/-! PollBooks$Parser.scanToken(III)V -/
def y_Pa_scanToken : MethodName := ⟨"PollBooks$Parser", "scanToken", "(III)V"⟩
def rm_Pa_scanToken : Room := { frames := 2, cells := 0, slots := 0, locals := 50 }
theorem mw_Pa_scanToken : MW y_Pa_scanToken prog_6_method_12_code 6 none 3 := ⟨lk_772, lk_6, by decide +kernel⟩
def L_Pa_scanToken_y62 (x1 x3 x5 : Int) (d : Dt) : Option ((Int × Int × Int × Dt) ⊕ ((Dt))) :=
  if x5 < x3 then ck ((0 : Int) ≤ x1 ∧ x1 < 601) (ck ((0 : Int) ≤ x5 ∧ x5 < 600) (ck ((0 : Int) ≤ x1 ∧ x1 < 601) (some (Sum.inl (x1, x3, (w32 (x5 + 1)), (up2 d 28 x1.toNat (w64 ((w64 ((w64 ((d 28 x1.toNat) * 10)) + (d 26 x5.toNat))) - 48)))))))) else some (Sum.inr (d))
def L_Pa_scanToken_l62 (x1 x3 x5 : Int) (d : Dt) : Option ((Dt)) := lpF (fun q : Int × Int × Int × Dt => L_Pa_scanToken_y62 q.1 q.2.1 q.2.2.1 q.2.2.2) FU (x1, x3, x5, d)
def L_Pa_scanToken_b164 (s1 s2 : Int) (d : Dt) : Option (Int × Dt) :=
  ck ((0 : Int) ≤ s1 ∧ s1 < 601) (some (0, (up2 d 27 s1.toNat s2)))
def L_Pa_scanToken_b146 (x1 x4 s0 : Int) (d : Dt) : Option (Int × Dt) :=
  if s0 = 0 then L_Pa_scanToken_b164 x1 1 d else L_Pa_scanToken_b164 x1 x4 d
def L_Pa_scanToken_b120 (x1 x4 : Int) (d : Dt) : Option (Int × Dt) :=
  if x4 = 45 then L_Pa_scanToken_b146 x1 x4 1 d else if x4 < 58 then L_Pa_scanToken_b146 x1 x4 0 d else if 62 < x4 then L_Pa_scanToken_b146 x1 x4 0 d else L_Pa_scanToken_b146 x1 x4 1 d
def L_Pa_scanToken_b58 (x1 x2 x3 s1 s2 : Int) (d : Dt) : Option (Int × Dt) :=
  ck ((0 : Int) ≤ s1 ∧ s1 < 601) (lb (L_Pa_scanToken_l62 x1 x3 x2 (up2 d 27 s1.toNat s2)) (fun q17_ => u0 q17_ (fun d15_ => some (0, d15_))))
def L_Pa_scanToken (p1 p2 p3 : Int) (d : Dt) : Option (Int × Dt) :=
  ck ((0 : Int) ≤ p2 ∧ p2 < 600) (lt_ (d 26 p2.toNat) (fun v20_ => ck ((0 : Int) ≤ p1 ∧ p1 < 601) (bd (L_Pa_isLetter v20_ (up2 d 28 p1.toNat 0)) (fun r25_ d24_ => if r25_ = 0 then bd (L_Pa_isDigit v20_ d24_) (fun r30_ d29_ => if r30_ = 0 then if v20_ < 40 then L_Pa_scanToken_b120 p1 v20_ d29_ else if 43 < v20_ then L_Pa_scanToken_b120 p1 v20_ d29_ else L_Pa_scanToken_b146 p1 v20_ 1 d29_ else if 5 < (w32 (p3 - p2)) then L_Pa_scanToken_b58 p1 p2 p3 p1 1 d29_ else L_Pa_scanToken_b58 p1 p2 p3 p1 2 d29_) else bd (L_Pa_scanWord p1 p2 p3 d24_) (fun r38_ d37_ => some (0, d37_))))))
set_option maxHeartbeats 4000000 in
theorem ok_Pa_scanToken_y62 {p : Program} {l : Launch} {e : Env} {s : State} {m : MethodId} {args : Array Value} {below : List Frame} {meth : Method} {c : Code} {D : va_G} {cA : Nat → ClassId} {ad : Nat → Nat} {A : Nat → Prop} (C : Cx p s m args c prog_6_method_12_code 6 "PollBooks$Parser" D cA ad 0 A) {Q : State → Prop} {o : (Int × Int × Int × Dt) ⊕ ((Dt))} (x1 x3 x5 : Int) (d : Dt) (hx1 : c32 x1) (hx3 : c32 x3) (hx5 : c32 x5) (h : L_Pa_scanToken_y62 x1 x3 x5 d = some o) (kb : ∀ (y0 y1 y2 : Int) (e' : Dt), o = .inl (y0, y1, y2, e') → c32 y0 → c32 y1 → c32 y2 → G p l e rm_Pa_scanToken s m args below meth c 0 0 Q 6 D cA ad 0 A 62 [(2, 25), (0, y0), (9, 0), (0, y1), (9, 0), (0, y2)] [] e') (k0 : ∀ (e' : Dt), o = .inr (e') → G p l e rm_Pa_scanToken s m args below meth c 0 0 Q 6 D cA ad 0 A 103 [(9, 0), (9, 0), (9, 0), (9, 0), (9, 0), (9, 0)] [] e') : G p l e rm_Pa_scanToken s m args below meth c 0 0 Q 6 D cA ad 0 A 62 [(2, 25), (0, x1), (9, 0), (0, x3), (9, 0), (0, x5)] [] d := by
  unfold L_Pa_scanToken_y62 at h
  refine g_iload C 5 rfl (by decide +kernel) ?_
  refine g_iload_n C 3 rfl (by decide +kernel) ?_
  refine g_icmp_ge C (off := 38) (tgt := 103) hx5 hx3 (by decide +kernel) (by decide) (fun hc1_ => ?_) (fun hc1_ => ?_)
  · replace h := ite_t hc1_ h
    refine g_aload_n C 0 rfl (by decide +kernel) ?_
    refine g_getR C cl4 25 3 28 rfl cd_A25 ⟨by decide, rfl, by decide⟩ rfl rfl (nA (by decide)) (ix := 19) lk_198 (by decide +kernel) ?_
    refine g_iload_n C 1 rfl (by decide +kernel) ?_
    refine g_aload_n C 0 rfl (by decide +kernel) ?_
    refine g_getR C cl4 25 3 28 rfl cd_A25 ⟨by decide, rfl, by decide⟩ rfl rfl (nA (by decide)) (ix := 19) lk_198 (by decide +kernel) ?_
    refine g_iload_n C 1 rfl (by decide +kernel) ?_
    obtain ⟨hb2_, h⟩ := ck_some h
    refine g_lald C 28 hx1 rfl cd_A28 (nA (by decide)) hb2_ (by decide +kernel) (fun hc3_ => ?_)
    refine g_ldc2 C (ix := 79) (v := 10) lk_785 (by decide +kernel) ?_
    refine g_lmul C (by decide +kernel) ?_
    refine g_aload_n C 0 rfl (by decide +kernel) ?_
    refine g_getR C cl4 25 0 26 rfl cd_A25 ⟨by decide, rfl, by decide⟩ rfl rfl (nA (by decide)) (ix := 11) lk_195 (by decide +kernel) ?_
    refine g_iload C 5 rfl (by decide +kernel) ?_
    obtain ⟨hb4_, h⟩ := ck_some h
    refine g_bald C 26 hx5 rfl cd_A26 (nA (by decide)) hb4_ (by decide +kernel) (fun hc5_ => ?_)
    refine g_i2l C (c32_b hc5_) (by decide +kernel) ?_
    refine g_ladd C (by decide +kernel) ?_
    refine g_ldc2 C (ix := 81) (v := 48) lk_786 (by decide +kernel) ?_
    refine g_lsub C (by decide +kernel) ?_
    obtain ⟨hb6_, h⟩ := ck_some h
    refine g_last C 28 (w64_c _) hx1 rfl cd_A28 (nA (by decide)) hb6_ (by decide +kernel) ?_
    refine s_iinc C 5 1 (lo' := [(2, 25), (0, x1), (9, 0), (0, x3), (9, 0), (0, (w32 (x5 + 1)))]) rfl (by decide) (s1k (s1k (s1k (s1k (s1n (by decide) s1z))))) (by decide +kernel) ?_
    refine g_goto C 62 (off := (-38)) (by decide +kernel) (by decide) ?_
    refine g_sub (lo2 := [(2, 25), (0, x1), (9, 0), (0, x3), (9, 0), (0, (w32 (x5 + 1)))]) (lsb_v (lsb_v (lsb_c (lsb_v (lsb_c (lsb_v lsb_e)))))) ?_
    obtain rfl := Option.some.inj h
    exact kb x1 x3 (w32 (x5 + 1)) (up2 d 28 x1.toNat (w64 ((w64 ((w64 ((d 28 x1.toNat) * 10)) + (d 26 x5.toNat))) - 48))) rfl hx1 hx3 (w32_c _)
  · replace h := ite_f hc1_ h
    refine g_sub (lo2 := [(9, 0), (9, 0), (9, 0), (9, 0), (9, 0), (9, 0)]) (lsb_c (lsb_c (lsb_c (lsb_c (lsb_c (lsb_c lsb_e)))))) ?_
    obtain rfl := Option.some.inj h
    exact k0 d rfl 
set_option maxHeartbeats 4000000 in
theorem ok_Pa_scanToken_n62 {p : Program} {l : Launch} {e : Env} {s : State} {m : MethodId} {args : Array Value} {below : List Frame} {meth : Method} {c : Code} {D : va_G} {cA : Nat → ClassId} {ad : Nat → Nat} {A : Nat → Prop} (C : Cx p s m args c prog_6_method_12_code 6 "PollBooks$Parser" D cA ad 0 A) {Q : State → Prop} {x : (Dt)} : ∀ (n : Nat) (x1 x3 x5 : Int) (d : Dt), c32 x1 → c32 x3 → c32 x5 → lpF (fun q : Int × Int × Int × Dt => L_Pa_scanToken_y62 q.1 q.2.1 q.2.2.1 q.2.2.2) n (x1, x3, x5, d) = some x → (∀ (e' : Dt), x = (e') → G p l e rm_Pa_scanToken s m args below meth c 0 0 Q 6 D cA ad 0 A 103 [(9, 0), (9, 0), (9, 0), (9, 0), (9, 0), (9, 0)] [] e') → G p l e rm_Pa_scanToken s m args below meth c 0 0 Q 6 D cA ad 0 A 62 [(2, 25), (0, x1), (9, 0), (0, x3), (9, 0), (0, x5)] [] d := by
  intro n
  induction n with
  | zero => intro x1 x3 x5 d g0 g1 g2 h k0; cases h
  | succ n ih =>
    intro x1 x3 x5 d g0 g1 g2 h k0
    rcases lpF_some h with h | ⟨⟨v0_, v1_, v2_, e0_⟩, h1, h⟩
    · exact ok_Pa_scanToken_y62 C x1 x3 x5 d g0 g1 g2 h (fun z0_ z1_ z2_ e1_ eq w0_ w1_ w2_ => by cases eq) (fun e1_ eq => k0 _ (by cases eq; rfl) )
    · exact ok_Pa_scanToken_y62 C x1 x3 x5 d g0 g1 g2 h1 (fun z0_ z1_ z2_ e1_ eq w0_ w1_ w2_ => by cases eq; exact ih _ _ _ _ w0_ w1_ w2_ h k0) (fun e1_ eq => by cases eq)
set_option maxHeartbeats 4000000 in
theorem ok_Pa_scanToken_l62 {p : Program} {l : Launch} {e : Env} {s : State} {m : MethodId} {args : Array Value} {below : List Frame} {meth : Method} {c : Code} {D : va_G} {cA : Nat → ClassId} {ad : Nat → Nat} {A : Nat → Prop} (C : Cx p s m args c prog_6_method_12_code 6 "PollBooks$Parser" D cA ad 0 A) {Q : State → Prop} {x : (Dt)} (x1 x3 x5 : Int) (d : Dt) (hx1 : c32 x1) (hx3 : c32 x3) (hx5 : c32 x5) (h : L_Pa_scanToken_l62 x1 x3 x5 d = some x) (k0 : ∀ (e' : Dt), x = (e') → G p l e rm_Pa_scanToken s m args below meth c 0 0 Q 6 D cA ad 0 A 103 [(9, 0), (9, 0), (9, 0), (9, 0), (9, 0), (9, 0)] [] e') : G p l e rm_Pa_scanToken s m args below meth c 0 0 Q 6 D cA ad 0 A 62 [(2, 25), (0, x1), (9, 0), (0, x3), (9, 0), (0, x5)] [] d :=
  ok_Pa_scanToken_n62 C FU x1 x3 x5 d hx1 hx3 hx5 h k0
set_option maxHeartbeats 4000000 in
theorem ok_Pa_scanToken_b164 {p : Program} {l : Launch} {e : Env} {s : State} {m : MethodId} {args : Array Value} {below : List Frame} {meth : Method} {c : Code} {D : va_G} {cA : Nat → ClassId} {ad : Nat → Nat} {A : Nat → Prop} (C : Cx p s m args c prog_6_method_12_code 6 "PollBooks$Parser" D cA ad 0 A) (hlk : meth.locks = false) (hr : meth.sig.returnType = none) {r : Int} {d' : Dt} (s1 s2 : Int) (d : Dt) (hs1 : c32 s1) (hs2 : c32 s2) (h : L_Pa_scanToken_b164 s1 s2 d = some (r, d')) : G p l e rm_Pa_scanToken s m args below meth c 0 0 (MQ below (fun _ => QC D cA ad 0 A none none d') args s 0 0 A) 6 D cA ad 0 A 164 [(9, 0), (9, 0), (9, 0), (9, 0), (9, 0), (9, 0)] [(0, s2), (0, s1), (2, 27)] d := by
  unfold L_Pa_scanToken_b164 at h
  obtain ⟨hb7_, h⟩ := ck_some h
  refine g_iast C 27 hs2 hs1 rfl cd_A27 (nA (by decide)) hb7_ (by decide +kernel) ?_
  obtain ⟨rfl, rfl⟩ := ret_inj h
  exact g_vret C hlk hr (by decide +kernel)
set_option maxHeartbeats 4000000 in
theorem ok_Pa_scanToken_b146 {p : Program} {l : Launch} {e : Env} {s : State} {m : MethodId} {args : Array Value} {below : List Frame} {meth : Method} {c : Code} {D : va_G} {cA : Nat → ClassId} {ad : Nat → Nat} {A : Nat → Prop} (C : Cx p s m args c prog_6_method_12_code 6 "PollBooks$Parser" D cA ad 0 A) (hlk : meth.locks = false) (hr : meth.sig.returnType = none) {r : Int} {d' : Dt} (x1 x4 s0 : Int) (d : Dt) (hx1 : c32 x1) (hx4 : c32 x4) (hs0 : cb s0) (h : L_Pa_scanToken_b146 x1 x4 s0 d = some (r, d')) : G p l e rm_Pa_scanToken s m args below meth c 0 0 (MQ below (fun _ => QC D cA ad 0 A none none d') args s 0 0 A) 6 D cA ad 0 A 146 [(2, 25), (0, x1), (9, 0), (9, 0), (0, x4), (9, 0)] [(0, s0)] d := by
  unfold L_Pa_scanToken_b146 at h
  refine s_istore C 5 (lo' := [(2, 25), (0, x1), (9, 0), (9, 0), (0, x4), (0, s0)]) (by decide) (s1k (s1k (s1k (s1k (s1n (by decide) s1z))))) (by decide +kernel) ?_
  refine g_aload_n C 0 rfl (by decide +kernel) ?_
  refine g_getR C cl4 25 2 27 rfl cd_A25 ⟨by decide, rfl, by decide⟩ rfl rfl (nA (by decide)) (ix := 15) lk_197 (by decide +kernel) ?_
  refine g_iload_n C 1 rfl (by decide +kernel) ?_
  refine g_iload C 5 rfl (by decide +kernel) ?_
  refine g_if_eq C (off := 8) (tgt := 163) (c32_cb hs0) (by decide +kernel) (by decide) (fun hc8_ => ?_) (fun hc8_ => ?_)
  · replace h := ite_t hc8_ h
    refine g_iconst C 1 (cK rfl) (by decide +kernel) ?_
    refine g_sub (lo2 := [(9, 0), (9, 0), (9, 0), (9, 0), (9, 0), (9, 0)]) (lsb_c (lsb_c (lsb_c (lsb_c (lsb_c (lsb_c lsb_e)))))) ?_
    exact ok_Pa_scanToken_b164 C hlk hr x1 1 d hx1 (c32_cb (Or.inr rfl)) h
  · replace h := ite_f hc8_ h
    refine g_iload C 4 rfl (by decide +kernel) ?_
    refine g_goto C 164 (off := 4) (by decide +kernel) (by decide) ?_
    refine g_sub (lo2 := [(9, 0), (9, 0), (9, 0), (9, 0), (9, 0), (9, 0)]) (lsb_c (lsb_c (lsb_c (lsb_c (lsb_c (lsb_c lsb_e)))))) ?_
    exact ok_Pa_scanToken_b164 C hlk hr x1 x4 d hx1 hx4 h
set_option maxHeartbeats 4000000 in
theorem ok_Pa_scanToken_b120 {p : Program} {l : Launch} {e : Env} {s : State} {m : MethodId} {args : Array Value} {below : List Frame} {meth : Method} {c : Code} {D : va_G} {cA : Nat → ClassId} {ad : Nat → Nat} {A : Nat → Prop} (C : Cx p s m args c prog_6_method_12_code 6 "PollBooks$Parser" D cA ad 0 A) (hlk : meth.locks = false) (hr : meth.sig.returnType = none) {r : Int} {d' : Dt} (x1 x4 : Int) (d : Dt) (hx1 : c32 x1) (hx4 : c32 x4) (h : L_Pa_scanToken_b120 x1 x4 d = some (r, d')) : G p l e rm_Pa_scanToken s m args below meth c 0 0 (MQ below (fun _ => QC D cA ad 0 A none none d') args s 0 0 A) 6 D cA ad 0 A 120 [(2, 25), (0, x1), (9, 0), (9, 0), (0, x4), (9, 0)] [] d := by
  unfold L_Pa_scanToken_b120 at h
  refine g_iload C 4 rfl (by decide +kernel) ?_
  refine g_bipush C 45 (by decide) (by decide +kernel) ?_
  refine g_icmp_eq C (off := 17) (tgt := 141) hx4 (cK rfl) (by decide +kernel) (by decide) (fun hc9_ => ?_) (fun hc9_ => ?_)
  · replace h := ite_t hc9_ h
    refine g_iconst C 1 (cK rfl) (by decide +kernel) ?_
    refine g_goto C 146 (off := 4) (by decide +kernel) (by decide) ?_
    refine g_sub (lo2 := [(2, 25), (0, x1), (9, 0), (9, 0), (0, x4), (9, 0)]) (lsb_v (lsb_v (lsb_c (lsb_c (lsb_v (lsb_c lsb_e)))))) ?_
    exact ok_Pa_scanToken_b146 C hlk hr x1 x4 1 d hx1 hx4 (Or.inr rfl) h
  · replace h := ite_f hc9_ h
    refine g_iload C 4 rfl (by decide +kernel) ?_
    refine g_bipush C 58 (by decide) (by decide +kernel) ?_
    refine g_icmp_lt C (off := 14) (tgt := 145) hx4 (cK rfl) (by decide +kernel) (by decide) (fun hc10_ => ?_) (fun hc10_ => ?_)
    · replace h := ite_t hc10_ h
      refine g_iconst C 0 (cK rfl) (by decide +kernel) ?_
      refine g_sub (lo2 := [(2, 25), (0, x1), (9, 0), (9, 0), (0, x4), (9, 0)]) (lsb_v (lsb_v (lsb_c (lsb_c (lsb_v (lsb_c lsb_e)))))) ?_
      exact ok_Pa_scanToken_b146 C hlk hr x1 x4 0 d hx1 hx4 (Or.inl rfl) h
    · replace h := ite_f hc10_ h
      refine g_iload C 4 rfl (by decide +kernel) ?_
      refine g_bipush C 62 (by decide) (by decide +kernel) ?_
      refine g_icmp_gt C (off := 7) (tgt := 145) hx4 (cK rfl) (by decide +kernel) (by decide) (fun hc11_ => ?_) (fun hc11_ => ?_)
      · replace h := ite_t hc11_ h
        refine g_iconst C 0 (cK rfl) (by decide +kernel) ?_
        refine g_sub (lo2 := [(2, 25), (0, x1), (9, 0), (9, 0), (0, x4), (9, 0)]) (lsb_v (lsb_v (lsb_c (lsb_c (lsb_v (lsb_c lsb_e)))))) ?_
        exact ok_Pa_scanToken_b146 C hlk hr x1 x4 0 d hx1 hx4 (Or.inl rfl) h
      · replace h := ite_f hc11_ h
        refine g_iconst C 1 (cK rfl) (by decide +kernel) ?_
        refine g_goto C 146 (off := 4) (by decide +kernel) (by decide) ?_
        refine g_sub (lo2 := [(2, 25), (0, x1), (9, 0), (9, 0), (0, x4), (9, 0)]) (lsb_v (lsb_v (lsb_c (lsb_c (lsb_v (lsb_c lsb_e)))))) ?_
        exact ok_Pa_scanToken_b146 C hlk hr x1 x4 1 d hx1 hx4 (Or.inr rfl) h
set_option maxHeartbeats 4000000 in
theorem ok_Pa_scanToken_b58 {p : Program} {l : Launch} {e : Env} {s : State} {m : MethodId} {args : Array Value} {below : List Frame} {meth : Method} {c : Code} {D : va_G} {cA : Nat → ClassId} {ad : Nat → Nat} {A : Nat → Prop} (C : Cx p s m args c prog_6_method_12_code 6 "PollBooks$Parser" D cA ad 0 A) (hlk : meth.locks = false) (hr : meth.sig.returnType = none) {r : Int} {d' : Dt} (x1 x2 x3 s1 s2 : Int) (d : Dt) (hx1 : c32 x1) (hx2 : c32 x2) (hx3 : c32 x3) (hs1 : c32 s1) (hs2 : c32 s2) (h : L_Pa_scanToken_b58 x1 x2 x3 s1 s2 d = some (r, d')) : G p l e rm_Pa_scanToken s m args below meth c 0 0 (MQ below (fun _ => QC D cA ad 0 A none none d') args s 0 0 A) 6 D cA ad 0 A 58 [(2, 25), (0, x1), (0, x2), (0, x3), (9, 0), (9, 0)] [(0, s2), (0, s1), (2, 27)] d := by
  unfold L_Pa_scanToken_b58 at h
  obtain ⟨hb12_, h⟩ := ck_some h
  refine g_iast C 27 hs2 hs1 rfl cd_A27 (nA (by decide)) hb12_ (by decide +kernel) ?_
  refine g_iload_n C 2 rfl (by decide +kernel) ?_
  refine s_istore C 5 (lo' := [(2, 25), (0, x1), (0, x2), (0, x3), (9, 0), (0, x2)]) (by decide) (s1k (s1k (s1k (s1k (s1n (by decide) s1z))))) (by decide +kernel) ?_
  refine g_sub (lo2 := [(2, 25), (0, x1), (9, 0), (0, x3), (9, 0), (0, x2)]) (lsb_v (lsb_v (lsb_c (lsb_v (lsb_c (lsb_v lsb_e)))))) ?_
  obtain ⟨x13_, hx14_, h⟩ := lb_some h
  refine ok_Pa_scanToken_l62 C x1 x3 x2 (up2 d 27 s1.toNat s2) hx1 hx3 hx2 hx14_ (fun d15_ eq16_ => ?_)
  replace eq16_ := eq16_.symm
  subst eq16_
  replace h := u0_e h
  refine g_goto C 165 (off := 62) (by decide +kernel) (by decide) ?_
  obtain ⟨rfl, rfl⟩ := ret_inj h
  exact g_vret C hlk hr (by decide +kernel)
set_option maxHeartbeats 4000000 in
theorem ok_Pa_scanToken {l : Launch} {r : Int} {d' : Dt} (p1 p2 p3 : Int) (d : Dt) (hp1 : c32 p1) (hp2 : c32 p2) (hp3 : c32 p3) (h : L_Pa_scanToken p1 p2 p3 d = some (r, d')) : MC l y_Pa_scanToken prog_6_method_12_code 6 none rm_Pa_scanToken 0 [(2, 25), (0, p1), (0, p2), (0, p3)] d none d' := by
  refine MC.of (by decide) (Nat.le_of_ble_eq_true rfl) ?_
  intro p e s m args below meth c D cA ad A C hlk hr
  replace C : Cx p s m args c prog_6_method_12_code 6 "PollBooks$Parser" D cA ad 0 A := C
  show G p l e rm_Pa_scanToken s m args below meth c 0 0 (MQ below (fun _ => QC D cA ad 0 A none none d') args s 0 0 A) 6 D cA ad 0 A 0 [(2, 25), (0, p1), (0, p2), (0, p3)] [] d
  refine g_sub (lo2 := [(2, 25), (0, p1), (0, p2), (0, p3), (9, 0), (9, 0)]) (lsb_v (lsb_v (lsb_v (lsb_v (lsb_n (lsb_n lsb_e)))))) ?_
  unfold L_Pa_scanToken at h
  refine g_aload_n C 0 rfl (by decide +kernel) ?_
  refine g_getR C cl4 25 0 26 rfl cd_A25 ⟨by decide, rfl, by decide⟩ rfl rfl (nA (by decide)) (ix := 11) lk_195 (by decide +kernel) ?_
  refine g_iload_n C 2 rfl (by decide +kernel) ?_
  obtain ⟨hb18_, h⟩ := ck_some h
  refine g_bald C 26 hp2 rfl cd_A26 (nA (by decide)) hb18_ (by decide +kernel) (fun hc19_ => ?_)
  obtain ⟨v20_, ev21_, h⟩ := lt_some h
  refine g_val ev21_.symm ?_
  have hv22_ : c32 v20_ := by rw [ev21_]; exact (c32_b hc19_)
  refine s_istore C 4 (lo' := [(2, 25), (0, p1), (0, p2), (0, p3), (0, v20_), (9, 0)]) (by decide) (s1k (s1k (s1k (s1n (by decide) s1z)))) (by decide +kernel) ?_
  refine g_aload_n C 0 rfl (by decide +kernel) ?_
  refine g_getR C cl4 25 3 28 rfl cd_A25 ⟨by decide, rfl, by decide⟩ rfl rfl (nA (by decide)) (ix := 19) lk_198 (by decide +kernel) ?_
  refine g_iload_n C 1 rfl (by decide +kernel) ?_
  refine g_lconst C 0 (v := 0) (by decide) (by decide +kernel) ?_
  obtain ⟨hb23_, h⟩ := ck_some h
  refine g_last C 28 (cL rfl) hp1 rfl cd_A28 (nA (by decide)) hb23_ (by decide +kernel) ?_
  refine g_iload C 4 rfl (by decide +kernel) ?_
  obtain ⟨r25_, d24_, hr26_, h⟩ := bd_some h
  refine g_callS C mw_Pa_isLetter [(0, v20_)] (ok_Pa_isLetter v20_ (up2 d 28 p1.toNat 0) hv22_ hr26_) (ix := 69) lk_763 lk_764 ⟨rfl, rfl, Nat.le_of_ble_eq_true rfl, Nat.le_of_ble_eq_true rfl⟩ rfl (rest := []) rfl (Nat.le_of_ble_eq_true rfl) ⟨Nat.zero_le _, Nat.zero_le _⟩ (by decide +kernel) (fun _ hc27_ => ?_)
  replace hc27_ : cb r25_ := hc27_
  refine g_st (st2 := [(0, r25_)]) rfl ?_
  refine g_if_eq C (off := 13) (tgt := 33) (c32_cb hc27_) (by decide +kernel) (by decide) (fun hc28_ => ?_) (fun hc28_ => ?_)
  · replace h := ite_t hc28_ h
    refine g_iload C 4 rfl (by decide +kernel) ?_
    obtain ⟨r30_, d29_, hr31_, h⟩ := bd_some h
    refine g_callS C mw_Pa_isDigit [(0, v20_)] (ok_Pa_isDigit v20_ d24_ hv22_ hr31_) (ix := 73) lk_766 lk_767 ⟨rfl, rfl, Nat.le_of_ble_eq_true rfl, Nat.le_of_ble_eq_true rfl⟩ rfl (rest := []) rfl (Nat.le_of_ble_eq_true rfl) ⟨Nat.zero_le _, Nat.zero_le _⟩ (by decide +kernel) (fun _ hc32_ => ?_)
    replace hc32_ : cb r30_ := hc32_
    refine g_st (st2 := [(0, r30_)]) rfl ?_
    refine g_if_eq C (off := 68) (tgt := 106) (c32_cb hc32_) (by decide +kernel) (by decide) (fun hc33_ => ?_) (fun hc33_ => ?_)
    · replace h := ite_t hc33_ h
      refine g_iload C 4 rfl (by decide +kernel) ?_
      refine g_bipush C 40 (by decide) (by decide +kernel) ?_
      refine g_icmp_lt C (off := 10) (tgt := 120) hv22_ (cK rfl) (by decide +kernel) (by decide) (fun hc34_ => ?_) (fun hc34_ => ?_)
      · replace h := ite_t hc34_ h
        refine g_sub (lo2 := [(2, 25), (0, p1), (9, 0), (9, 0), (0, v20_), (9, 0)]) (lsb_v (lsb_v (lsb_c (lsb_c (lsb_v (lsb_c lsb_e)))))) ?_
        exact ok_Pa_scanToken_b120 C hlk hr p1 v20_ d29_ hp1 hv22_ h
      · replace h := ite_f hc34_ h
        refine g_iload C 4 rfl (by decide +kernel) ?_
        refine g_bipush C 43 (by decide) (by decide +kernel) ?_
        refine g_icmp_le C (off := 24) (tgt := 141) hv22_ (cK rfl) (by decide +kernel) (by decide) (fun hc35_ => ?_) (fun hc35_ => ?_)
        · replace h := ite_t hc35_ h
          refine g_sub (lo2 := [(2, 25), (0, p1), (9, 0), (9, 0), (0, v20_), (9, 0)]) (lsb_v (lsb_v (lsb_c (lsb_c (lsb_v (lsb_c lsb_e)))))) ?_
          exact ok_Pa_scanToken_b120 C hlk hr p1 v20_ d29_ hp1 hv22_ h
        · replace h := ite_f hc35_ h
          refine g_iconst C 1 (cK rfl) (by decide +kernel) ?_
          refine g_goto C 146 (off := 4) (by decide +kernel) (by decide) ?_
          refine g_sub (lo2 := [(2, 25), (0, p1), (9, 0), (9, 0), (0, v20_), (9, 0)]) (lsb_v (lsb_v (lsb_c (lsb_c (lsb_v (lsb_c lsb_e)))))) ?_
          exact ok_Pa_scanToken_b146 C hlk hr p1 v20_ 1 d29_ hp1 hv22_ (Or.inr rfl) h
    · replace h := ite_f hc33_ h
      refine g_aload_n C 0 rfl (by decide +kernel) ?_
      refine g_getR C cl4 25 2 27 rfl cd_A25 ⟨by decide, rfl, by decide⟩ rfl rfl (nA (by decide)) (ix := 15) lk_197 (by decide +kernel) ?_
      refine g_iload_n C 1 rfl (by decide +kernel) ?_
      refine g_iload_n C 3 rfl (by decide +kernel) ?_
      refine g_iload_n C 2 rfl (by decide +kernel) ?_
      refine g_isub C (by decide +kernel) ?_
      refine g_iconst C 5 (cK rfl) (by decide +kernel) ?_
      refine g_icmp_le C (off := 7) (tgt := 57) (w32_c _) (cK rfl) (by decide +kernel) (by decide) (fun hc36_ => ?_) (fun hc36_ => ?_)
      · replace h := ite_t hc36_ h
        refine g_iconst C 1 (cK rfl) (by decide +kernel) ?_
        refine g_goto C 58 (off := 4) (by decide +kernel) (by decide) ?_
        refine g_sub (lo2 := [(2, 25), (0, p1), (0, p2), (0, p3), (9, 0), (9, 0)]) (lsb_v (lsb_v (lsb_v (lsb_v (lsb_c (lsb_c lsb_e)))))) ?_
        exact ok_Pa_scanToken_b58 C hlk hr p1 p2 p3 p1 1 d29_ hp1 hp2 hp3 hp1 (c32_cb (Or.inr rfl)) h
      · replace h := ite_f hc36_ h
        refine g_iconst C 2 (cK rfl) (by decide +kernel) ?_
        refine g_sub (lo2 := [(2, 25), (0, p1), (0, p2), (0, p3), (9, 0), (9, 0)]) (lsb_v (lsb_v (lsb_v (lsb_v (lsb_c (lsb_c lsb_e)))))) ?_
        exact ok_Pa_scanToken_b58 C hlk hr p1 p2 p3 p1 2 d29_ hp1 hp2 hp3 hp1 (cK rfl) h
  · replace h := ite_f hc28_ h
    refine g_aload_n C 0 rfl (by decide +kernel) ?_
    refine g_iload_n C 1 rfl (by decide +kernel) ?_
    refine g_iload_n C 2 rfl (by decide +kernel) ?_
    refine g_iload_n C 3 rfl (by decide +kernel) ?_
    obtain ⟨r38_, d37_, hr39_, h⟩ := bd_some h
    refine g_callV C mw_Pa_scanWord [(0, p1), (0, p2), (0, p3)] 25 cl4 rfl (ok_Pa_scanWord p1 p2 p3 d24_ hp1 hp2 hp3 hr39_) cd_A25 (by decide) (nA (by decide)) (ix := 76) lk_773 lk_775 lkp_11 ⟨rfl, rfl, Nat.le_of_ble_eq_true rfl, Nat.le_of_ble_eq_true rfl⟩ rfl (rest := []) rfl (Nat.le_of_ble_eq_true rfl) ⟨Nat.zero_le _, Nat.zero_le _⟩ (by decide +kernel) (fun _ hc40_ => ?_)
    refine g_st (st2 := []) rfl ?_
    refine g_goto C 165 (off := 135) (by decide +kernel) (by decide) ?_
    obtain ⟨rfl, rfl⟩ := ret_inj h
    exact g_vret C hlk hr (by decide +kernel)
/-! PollBooks$Parser.scan(I)V -/
def y_Pa_scan : MethodName := ⟨"PollBooks$Parser", "scan", "(I)V"⟩
def rm_Pa_scan : Room := { frames := 3, cells := 0, slots := 0, locals := 75 }
theorem mw_Pa_scan : MW y_Pa_scan prog_6_method_8_code 7 none 1 := ⟨lk_758, lk_6, by decide +kernel⟩
def L_Pa_scan_b75 (x1 x2 x3 x4 : Int) (d : Dt) : Option ((Int × Int × Int × Int × Dt) ⊕ ((Int × Int × Dt))) :=
  some (Sum.inl (x1, x2, x3, (w32 (x4 + 1)), d))
def L_Pa_scan_b40 (x1 x2 x3 x4 : Int) (d : Dt) : Option ((Int × Int × Int × Int × Dt) ⊕ ((Int × Int × Dt))) :=
  L_Pa_scan_b75 x1 x2 (w32 (x3 + 1)) x4 d
def L_Pa_scan_y7 (x1 x2 x3 x4 : Int) (d : Dt) : Option ((Int × Int × Int × Int × Dt) ⊕ ((Int × Int × Dt))) :=
  if x4 < x1 then if x3 < x1 then ck ((0 : Int) ≤ x3 ∧ x3 < 600) (lt_ (d 26 x3.toNat) (fun v5_ => if v5_ = 10 then L_Pa_scan_b40 x1 x2 x3 x4 d else if v5_ = 32 then L_Pa_scan_b40 x1 x2 x3 x4 d else bd (L_Pa_endOfRun x3 x1 d) (fun r11_ d10_ => ck ((0 : Int) ≤ x2 ∧ x2 < 601) (bd (L_Pa_scanToken x2 x3 r11_ (up2 d10_ 29 x2.toNat x3)) (fun r16_ d15_ => L_Pa_scan_b75 x1 (w32 (x2 + 1)) r11_ x4 d15_))))) else some (Sum.inr (x1, x2, d)) else some (Sum.inr (x1, x2, d))
def L_Pa_scan_l7 (x1 x2 x3 x4 : Int) (d : Dt) : Option ((Int × Int × Dt)) := lpF (fun q : Int × Int × Int × Int × Dt => L_Pa_scan_y7 q.1 q.2.1 q.2.2.1 q.2.2.2.1 q.2.2.2.2) FU (x1, x2, x3, x4, d)
def L_Pa_scan_b81 (x1 x2 : Int) (d : Dt) : Option (Int × Dt) :=
  ck ((0 : Int) ≤ x2 ∧ x2 < 601) (ck ((0 : Int) ≤ x2 ∧ x2 < 601) (some (0, (up2 (up2 d 27 x2.toNat 0) 29 x2.toNat x1))))
def L_Pa_scan (p1 : Int) (d : Dt) : Option (Int × Dt) :=
  lb (L_Pa_scan_l7 p1 0 0 0 d) (fun q27_ => u2 q27_ (fun v23_ v24_ d25_ => L_Pa_scan_b81 v23_ v24_ d25_))
set_option maxHeartbeats 4000000 in
theorem ok_Pa_scan_b75 {p : Program} {l : Launch} {e : Env} {s : State} {m : MethodId} {args : Array Value} {below : List Frame} {meth : Method} {c : Code} {D : va_G} {cA : Nat → ClassId} {ad : Nat → Nat} {A : Nat → Prop} (C : Cx p s m args c prog_6_method_8_code 7 "PollBooks$Parser" D cA ad 0 A) {Q : State → Prop} {o : (Int × Int × Int × Int × Dt) ⊕ ((Int × Int × Dt))} (x1 x2 x3 x4 : Int) (d : Dt) (hx1 : c32 x1) (hx2 : c32 x2) (hx3 : c32 x3) (hx4 : c32 x4) (h : L_Pa_scan_b75 x1 x2 x3 x4 d = some o) (kb : ∀ (y0 y1 y2 y3 : Int) (e' : Dt), o = .inl (y0, y1, y2, y3, e') → c32 y0 → c32 y1 → c32 y2 → c32 y3 → G p l e rm_Pa_scan s m args below meth c 0 0 Q 7 D cA ad 0 A 7 [(2, 25), (0, y0), (0, y1), (0, y2), (0, y3), (9, 0), (9, 0)] [] e') (k0 : ∀ (y0 y1 : Int) (e' : Dt), o = .inr (y0, y1, e') → c32 y0 → c32 y1 → G p l e rm_Pa_scan s m args below meth c 0 0 Q 7 D cA ad 0 A 81 [(2, 25), (0, y0), (0, y1), (9, 0), (9, 0), (9, 0), (9, 0)] [] e') : G p l e rm_Pa_scan s m args below meth c 0 0 Q 7 D cA ad 0 A 75 [(2, 25), (0, x1), (0, x2), (0, x3), (0, x4), (9, 0), (9, 0)] [] d := by
  unfold L_Pa_scan_b75 at h
  refine s_iinc C 4 1 (lo' := [(2, 25), (0, x1), (0, x2), (0, x3), (0, (w32 (x4 + 1))), (9, 0), (9, 0)]) rfl (by decide) (s1k (s1k (s1k (s1n (by decide) s1z)))) (by decide +kernel) ?_
  refine g_goto C 7 (off := (-71)) (by decide +kernel) (by decide) ?_
  refine g_sub (lo2 := [(2, 25), (0, x1), (0, x2), (0, x3), (0, (w32 (x4 + 1))), (9, 0), (9, 0)]) (lsb_v (lsb_v (lsb_v (lsb_v (lsb_v (lsb_c (lsb_c lsb_e))))))) ?_
  obtain rfl := Option.some.inj h
  exact kb x1 x2 x3 (w32 (x4 + 1)) d rfl hx1 hx2 hx3 (w32_c _)
set_option maxHeartbeats 4000000 in
theorem ok_Pa_scan_b40 {p : Program} {l : Launch} {e : Env} {s : State} {m : MethodId} {args : Array Value} {below : List Frame} {meth : Method} {c : Code} {D : va_G} {cA : Nat → ClassId} {ad : Nat → Nat} {A : Nat → Prop} (C : Cx p s m args c prog_6_method_8_code 7 "PollBooks$Parser" D cA ad 0 A) {Q : State → Prop} {o : (Int × Int × Int × Int × Dt) ⊕ ((Int × Int × Dt))} (x1 x2 x3 x4 : Int) (d : Dt) (hx1 : c32 x1) (hx2 : c32 x2) (hx3 : c32 x3) (hx4 : c32 x4) (h : L_Pa_scan_b40 x1 x2 x3 x4 d = some o) (kb : ∀ (y0 y1 y2 y3 : Int) (e' : Dt), o = .inl (y0, y1, y2, y3, e') → c32 y0 → c32 y1 → c32 y2 → c32 y3 → G p l e rm_Pa_scan s m args below meth c 0 0 Q 7 D cA ad 0 A 7 [(2, 25), (0, y0), (0, y1), (0, y2), (0, y3), (9, 0), (9, 0)] [] e') (k0 : ∀ (y0 y1 : Int) (e' : Dt), o = .inr (y0, y1, e') → c32 y0 → c32 y1 → G p l e rm_Pa_scan s m args below meth c 0 0 Q 7 D cA ad 0 A 81 [(2, 25), (0, y0), (0, y1), (9, 0), (9, 0), (9, 0), (9, 0)] [] e') : G p l e rm_Pa_scan s m args below meth c 0 0 Q 7 D cA ad 0 A 40 [(2, 25), (0, x1), (0, x2), (0, x3), (0, x4), (9, 0), (9, 0)] [] d := by
  unfold L_Pa_scan_b40 at h
  refine s_iinc C 3 1 (lo' := [(2, 25), (0, x1), (0, x2), (0, (w32 (x3 + 1))), (0, x4), (9, 0), (9, 0)]) rfl (by decide) (s1k (s1k (s1n (by decide) s1z))) (by decide +kernel) ?_
  refine g_goto C 75 (off := 32) (by decide +kernel) (by decide) ?_
  refine g_sub (lo2 := [(2, 25), (0, x1), (0, x2), (0, (w32 (x3 + 1))), (0, x4), (9, 0), (9, 0)]) (lsb_v (lsb_v (lsb_v (lsb_v (lsb_v (lsb_c (lsb_c lsb_e))))))) ?_
  exact ok_Pa_scan_b75 C x1 x2 (w32 (x3 + 1)) x4 d hx1 hx2 (w32_c _) hx4 h kb k0
set_option maxHeartbeats 4000000 in
theorem ok_Pa_scan_y7 {p : Program} {l : Launch} {e : Env} {s : State} {m : MethodId} {args : Array Value} {below : List Frame} {meth : Method} {c : Code} {D : va_G} {cA : Nat → ClassId} {ad : Nat → Nat} {A : Nat → Prop} (C : Cx p s m args c prog_6_method_8_code 7 "PollBooks$Parser" D cA ad 0 A) {Q : State → Prop} {o : (Int × Int × Int × Int × Dt) ⊕ ((Int × Int × Dt))} (x1 x2 x3 x4 : Int) (d : Dt) (hx1 : c32 x1) (hx2 : c32 x2) (hx3 : c32 x3) (hx4 : c32 x4) (h : L_Pa_scan_y7 x1 x2 x3 x4 d = some o) (kb : ∀ (y0 y1 y2 y3 : Int) (e' : Dt), o = .inl (y0, y1, y2, y3, e') → c32 y0 → c32 y1 → c32 y2 → c32 y3 → G p l e rm_Pa_scan s m args below meth c 0 0 Q 7 D cA ad 0 A 7 [(2, 25), (0, y0), (0, y1), (0, y2), (0, y3), (9, 0), (9, 0)] [] e') (k0 : ∀ (y0 y1 : Int) (e' : Dt), o = .inr (y0, y1, e') → c32 y0 → c32 y1 → G p l e rm_Pa_scan s m args below meth c 0 0 Q 7 D cA ad 0 A 81 [(2, 25), (0, y0), (0, y1), (9, 0), (9, 0), (9, 0), (9, 0)] [] e') : G p l e rm_Pa_scan s m args below meth c 0 0 Q 7 D cA ad 0 A 7 [(2, 25), (0, x1), (0, x2), (0, x3), (0, x4), (9, 0), (9, 0)] [] d := by
  unfold L_Pa_scan_y7 at h
  refine g_iload C 4 rfl (by decide +kernel) ?_
  refine g_iload_n C 1 rfl (by decide +kernel) ?_
  refine g_icmp_ge C (off := 71) (tgt := 81) hx4 hx1 (by decide +kernel) (by decide) (fun hc1_ => ?_) (fun hc1_ => ?_)
  · replace h := ite_t hc1_ h
    refine g_iload_n C 3 rfl (by decide +kernel) ?_
    refine g_iload_n C 1 rfl (by decide +kernel) ?_
    refine g_icmp_ge C (off := 66) (tgt := 81) hx3 hx1 (by decide +kernel) (by decide) (fun hc2_ => ?_) (fun hc2_ => ?_)
    · replace h := ite_t hc2_ h
      refine g_aload_n C 0 rfl (by decide +kernel) ?_
      refine g_getR C cl4 25 0 26 rfl cd_A25 ⟨by decide, rfl, by decide⟩ rfl rfl (nA (by decide)) (ix := 11) lk_195 (by decide +kernel) ?_
      refine g_iload_n C 3 rfl (by decide +kernel) ?_
      obtain ⟨hb3_, h⟩ := ck_some h
      refine g_bald C 26 hx3 rfl cd_A26 (nA (by decide)) hb3_ (by decide +kernel) (fun hc4_ => ?_)
      obtain ⟨v5_, ev6_, h⟩ := lt_some h
      refine g_val ev6_.symm ?_
      have hv7_ : c32 v5_ := by rw [ev6_]; exact (c32_b hc4_)
      refine s_istore C 5 (lo' := [(2, 25), (0, x1), (0, x2), (0, x3), (0, x4), (0, v5_), (9, 0)]) (by decide) (s1k (s1k (s1k (s1k (s1n (by decide) s1z))))) (by decide +kernel) ?_
      refine g_iload C 5 rfl (by decide +kernel) ?_
      refine g_bipush C 10 (by decide) (by decide +kernel) ?_
      refine g_icmp_eq C (off := 10) (tgt := 40) hv7_ (cK rfl) (by decide +kernel) (by decide) (fun hc8_ => ?_) (fun hc8_ => ?_)
      · replace h := ite_t hc8_ h
        refine g_sub (lo2 := [(2, 25), (0, x1), (0, x2), (0, x3), (0, x4), (9, 0), (9, 0)]) (lsb_v (lsb_v (lsb_v (lsb_v (lsb_v (lsb_c (lsb_c lsb_e))))))) ?_
        exact ok_Pa_scan_b40 C x1 x2 x3 x4 d hx1 hx2 hx3 hx4 h kb k0
      · replace h := ite_f hc8_ h
        refine g_iload C 5 rfl (by decide +kernel) ?_
        refine g_bipush C 32 (by decide) (by decide +kernel) ?_
        refine g_icmp_ne C (off := 9) (tgt := 46) hv7_ (cK rfl) (by decide +kernel) (by decide) (fun hc9_ => ?_) (fun hc9_ => ?_)
        · replace h := ite_t hc9_ h
          refine g_sub (lo2 := [(2, 25), (0, x1), (0, x2), (0, x3), (0, x4), (9, 0), (9, 0)]) (lsb_v (lsb_v (lsb_v (lsb_v (lsb_v (lsb_c (lsb_c lsb_e))))))) ?_
          exact ok_Pa_scan_b40 C x1 x2 x3 x4 d hx1 hx2 hx3 hx4 h kb k0
        · replace h := ite_f hc9_ h
          refine g_aload_n C 0 rfl (by decide +kernel) ?_
          refine g_iload_n C 3 rfl (by decide +kernel) ?_
          refine g_iload_n C 1 rfl (by decide +kernel) ?_
          obtain ⟨r11_, d10_, hr12_, h⟩ := bd_some h
          refine g_callV C mw_Pa_endOfRun [(0, x3), (0, x1)] 25 cl4 rfl (ok_Pa_endOfRun x3 x1 d hx3 hx1 hr12_) cd_A25 (by decide) (nA (by decide)) (ix := 61) lk_759 lk_761 lkp_9 ⟨rfl, rfl, Nat.le_of_ble_eq_true rfl, Nat.le_of_ble_eq_true rfl⟩ rfl (rest := []) rfl (Nat.le_of_ble_eq_true rfl) ⟨Nat.zero_le _, Nat.zero_le _⟩ (by decide +kernel) (fun _ hc13_ => ?_)
          replace hc13_ : c32 r11_ := hc13_
          refine g_st (st2 := [(0, r11_)]) rfl ?_
          refine s_istore C 6 (lo' := [(2, 25), (0, x1), (0, x2), (0, x3), (0, x4), (0, v5_), (0, r11_)]) (by decide) (s1k (s1k (s1k (s1k (s1k (s1n (by decide) s1z)))))) (by decide +kernel) ?_
          refine g_aload_n C 0 rfl (by decide +kernel) ?_
          refine g_getR C cl4 25 4 29 rfl cd_A25 ⟨by decide, rfl, by decide⟩ rfl rfl (nA (by decide)) (ix := 23) lk_199 (by decide +kernel) ?_
          refine g_iload_n C 2 rfl (by decide +kernel) ?_
          refine g_iload_n C 3 rfl (by decide +kernel) ?_
          obtain ⟨hb14_, h⟩ := ck_some h
          refine g_iast C 29 hx3 hx2 rfl cd_A29 (nA (by decide)) hb14_ (by decide +kernel) ?_
          refine g_aload_n C 0 rfl (by decide +kernel) ?_
          refine g_iload_n C 2 rfl (by decide +kernel) ?_
          refine g_iload_n C 3 rfl (by decide +kernel) ?_
          refine g_iload C 6 rfl (by decide +kernel) ?_
          obtain ⟨r16_, d15_, hr17_, h⟩ := bd_some h
          refine g_callV C mw_Pa_scanToken [(0, x2), (0, x3), (0, r11_)] 25 cl4 rfl (ok_Pa_scanToken x2 x3 r11_ (up2 d10_ 29 x2.toNat x3) hx2 hx3 hc13_ hr17_) cd_A25 (by decide) (nA (by decide)) (ix := 65) lk_769 lk_771 lkp_10 ⟨rfl, rfl, Nat.le_of_ble_eq_true rfl, Nat.le_of_ble_eq_true rfl⟩ rfl (rest := []) rfl (Nat.le_of_ble_eq_true rfl) ⟨Nat.zero_le _, Nat.zero_le _⟩ (by decide +kernel) (fun _ hc18_ => ?_)
          refine g_st (st2 := []) rfl ?_
          refine g_iload C 6 rfl (by decide +kernel) ?_
          refine s_istore_n C 3 (lo' := [(2, 25), (0, x1), (0, x2), (0, r11_), (0, x4), (0, v5_), (0, r11_)]) (by decide) (s1k (s1k (s1n (by decide) s1z))) (by decide +kernel) ?_
          refine s_iinc C 2 1 (lo' := [(2, 25), (0, x1), (0, (w32 (x2 + 1))), (0, r11_), (0, x4), (0, v5_), (0, r11_)]) rfl (by decide) (s1k (s1n (by decide) s1z)) (by decide +kernel) ?_
          refine g_sub (lo2 := [(2, 25), (0, x1), (0, (w32 (x2 + 1))), (0, r11_), (0, x4), (9, 0), (9, 0)]) (lsb_v (lsb_v (lsb_v (lsb_v (lsb_v (lsb_c (lsb_c lsb_e))))))) ?_
          exact ok_Pa_scan_b75 C x1 (w32 (x2 + 1)) r11_ x4 d15_ hx1 (w32_c _) hc13_ hx4 h kb k0
    · replace h := ite_f hc2_ h
      refine g_sub (lo2 := [(2, 25), (0, x1), (0, x2), (9, 0), (9, 0), (9, 0), (9, 0)]) (lsb_v (lsb_v (lsb_v (lsb_c (lsb_c (lsb_c (lsb_c lsb_e))))))) ?_
      obtain rfl := Option.some.inj h
      exact k0 x1 x2 d rfl hx1 hx2
  · replace h := ite_f hc1_ h
    refine g_sub (lo2 := [(2, 25), (0, x1), (0, x2), (9, 0), (9, 0), (9, 0), (9, 0)]) (lsb_v (lsb_v (lsb_v (lsb_c (lsb_c (lsb_c (lsb_c lsb_e))))))) ?_
    obtain rfl := Option.some.inj h
    exact k0 x1 x2 d rfl hx1 hx2
set_option maxHeartbeats 4000000 in
theorem ok_Pa_scan_n7 {p : Program} {l : Launch} {e : Env} {s : State} {m : MethodId} {args : Array Value} {below : List Frame} {meth : Method} {c : Code} {D : va_G} {cA : Nat → ClassId} {ad : Nat → Nat} {A : Nat → Prop} (C : Cx p s m args c prog_6_method_8_code 7 "PollBooks$Parser" D cA ad 0 A) {Q : State → Prop} {x : (Int × Int × Dt)} : ∀ (n : Nat) (x1 x2 x3 x4 : Int) (d : Dt), c32 x1 → c32 x2 → c32 x3 → c32 x4 → lpF (fun q : Int × Int × Int × Int × Dt => L_Pa_scan_y7 q.1 q.2.1 q.2.2.1 q.2.2.2.1 q.2.2.2.2) n (x1, x2, x3, x4, d) = some x → (∀ (y0 y1 : Int) (e' : Dt), x = (y0, y1, e') → c32 y0 → c32 y1 → G p l e rm_Pa_scan s m args below meth c 0 0 Q 7 D cA ad 0 A 81 [(2, 25), (0, y0), (0, y1), (9, 0), (9, 0), (9, 0), (9, 0)] [] e') → G p l e rm_Pa_scan s m args below meth c 0 0 Q 7 D cA ad 0 A 7 [(2, 25), (0, x1), (0, x2), (0, x3), (0, x4), (9, 0), (9, 0)] [] d := by
  intro n
  induction n with
  | zero => intro x1 x2 x3 x4 d g0 g1 g2 g3 h k0; cases h
  | succ n ih =>
    intro x1 x2 x3 x4 d g0 g1 g2 g3 h k0
    rcases lpF_some h with h | ⟨⟨v0_, v1_, v2_, v3_, e0_⟩, h1, h⟩
    · exact ok_Pa_scan_y7 C x1 x2 x3 x4 d g0 g1 g2 g3 h (fun z0_ z1_ z2_ z3_ e1_ eq w0_ w1_ w2_ w3_ => by cases eq) (fun z0_ z1_ e1_ eq w0_ w1_ => k0 _ _ _ (by cases eq; rfl) w0_ w1_)
    · exact ok_Pa_scan_y7 C x1 x2 x3 x4 d g0 g1 g2 g3 h1 (fun z0_ z1_ z2_ z3_ e1_ eq w0_ w1_ w2_ w3_ => by cases eq; exact ih _ _ _ _ _ w0_ w1_ w2_ w3_ h k0) (fun z0_ z1_ e1_ eq w0_ w1_ => by cases eq)
set_option maxHeartbeats 4000000 in
theorem ok_Pa_scan_l7 {p : Program} {l : Launch} {e : Env} {s : State} {m : MethodId} {args : Array Value} {below : List Frame} {meth : Method} {c : Code} {D : va_G} {cA : Nat → ClassId} {ad : Nat → Nat} {A : Nat → Prop} (C : Cx p s m args c prog_6_method_8_code 7 "PollBooks$Parser" D cA ad 0 A) {Q : State → Prop} {x : (Int × Int × Dt)} (x1 x2 x3 x4 : Int) (d : Dt) (hx1 : c32 x1) (hx2 : c32 x2) (hx3 : c32 x3) (hx4 : c32 x4) (h : L_Pa_scan_l7 x1 x2 x3 x4 d = some x) (k0 : ∀ (y0 y1 : Int) (e' : Dt), x = (y0, y1, e') → c32 y0 → c32 y1 → G p l e rm_Pa_scan s m args below meth c 0 0 Q 7 D cA ad 0 A 81 [(2, 25), (0, y0), (0, y1), (9, 0), (9, 0), (9, 0), (9, 0)] [] e') : G p l e rm_Pa_scan s m args below meth c 0 0 Q 7 D cA ad 0 A 7 [(2, 25), (0, x1), (0, x2), (0, x3), (0, x4), (9, 0), (9, 0)] [] d :=
  ok_Pa_scan_n7 C FU x1 x2 x3 x4 d hx1 hx2 hx3 hx4 h k0
set_option maxHeartbeats 4000000 in
theorem ok_Pa_scan_b81 {p : Program} {l : Launch} {e : Env} {s : State} {m : MethodId} {args : Array Value} {below : List Frame} {meth : Method} {c : Code} {D : va_G} {cA : Nat → ClassId} {ad : Nat → Nat} {A : Nat → Prop} (C : Cx p s m args c prog_6_method_8_code 7 "PollBooks$Parser" D cA ad 0 A) (hlk : meth.locks = false) (hr : meth.sig.returnType = none) {r : Int} {d' : Dt} (x1 x2 : Int) (d : Dt) (hx1 : c32 x1) (hx2 : c32 x2) (h : L_Pa_scan_b81 x1 x2 d = some (r, d')) : G p l e rm_Pa_scan s m args below meth c 0 0 (MQ below (fun _ => QC D cA ad 0 A none none d') args s 0 0 A) 7 D cA ad 0 A 81 [(2, 25), (0, x1), (0, x2), (9, 0), (9, 0), (9, 0), (9, 0)] [] d := by
  unfold L_Pa_scan_b81 at h
  refine g_aload_n C 0 rfl (by decide +kernel) ?_
  refine g_getR C cl4 25 2 27 rfl cd_A25 ⟨by decide, rfl, by decide⟩ rfl rfl (nA (by decide)) (ix := 15) lk_197 (by decide +kernel) ?_
  refine g_iload_n C 2 rfl (by decide +kernel) ?_
  refine g_iconst C 0 (cK rfl) (by decide +kernel) ?_
  obtain ⟨hb19_, h⟩ := ck_some h
  refine g_iast C 27 (c32_cb (Or.inl rfl)) hx2 rfl cd_A27 (nA (by decide)) hb19_ (by decide +kernel) ?_
  refine g_aload_n C 0 rfl (by decide +kernel) ?_
  refine g_getR C cl4 25 4 29 rfl cd_A25 ⟨by decide, rfl, by decide⟩ rfl rfl (nA (by decide)) (ix := 23) lk_199 (by decide +kernel) ?_
  refine g_iload_n C 2 rfl (by decide +kernel) ?_
  refine g_iload_n C 1 rfl (by decide +kernel) ?_
  obtain ⟨hb20_, h⟩ := ck_some h
  refine g_iast C 29 hx1 hx2 rfl cd_A29 (nA (by decide)) hb20_ (by decide +kernel) ?_
  obtain ⟨rfl, rfl⟩ := ret_inj h
  exact g_vret C hlk hr (by decide +kernel)
set_option maxHeartbeats 4000000 in
theorem ok_Pa_scan {l : Launch} {r : Int} {d' : Dt} (p1 : Int) (d : Dt) (hp1 : c32 p1) (h : L_Pa_scan p1 d = some (r, d')) : MC l y_Pa_scan prog_6_method_8_code 7 none rm_Pa_scan 0 [(2, 25), (0, p1)] d none d' := by
  refine MC.of (by decide) (Nat.le_of_ble_eq_true rfl) ?_
  intro p e s m args below meth c D cA ad A C hlk hr
  replace C : Cx p s m args c prog_6_method_8_code 7 "PollBooks$Parser" D cA ad 0 A := C
  show G p l e rm_Pa_scan s m args below meth c 0 0 (MQ below (fun _ => QC D cA ad 0 A none none d') args s 0 0 A) 7 D cA ad 0 A 0 [(2, 25), (0, p1)] [] d
  refine g_sub (lo2 := [(2, 25), (0, p1), (9, 0), (9, 0), (9, 0), (9, 0), (9, 0)]) (lsb_v (lsb_v (lsb_n (lsb_n (lsb_n (lsb_n (lsb_n lsb_e))))))) ?_
  unfold L_Pa_scan at h
  refine g_iconst C 0 (cK rfl) (by decide +kernel) ?_
  refine s_istore_n C 2 (lo' := [(2, 25), (0, p1), (0, 0), (9, 0), (9, 0), (9, 0), (9, 0)]) (by decide) (s1k (s1n (by decide) s1z)) (by decide +kernel) ?_
  refine g_iconst C 0 (cK rfl) (by decide +kernel) ?_
  refine s_istore_n C 3 (lo' := [(2, 25), (0, p1), (0, 0), (0, 0), (9, 0), (9, 0), (9, 0)]) (by decide) (s1k (s1k (s1n (by decide) s1z))) (by decide +kernel) ?_
  refine g_iconst C 0 (cK rfl) (by decide +kernel) ?_
  refine s_istore C 4 (lo' := [(2, 25), (0, p1), (0, 0), (0, 0), (0, 0), (9, 0), (9, 0)]) (by decide) (s1k (s1k (s1k (s1n (by decide) s1z)))) (by decide +kernel) ?_
  refine g_sub (lo2 := [(2, 25), (0, p1), (0, 0), (0, 0), (0, 0), (9, 0), (9, 0)]) (lsb_v (lsb_v (lsb_v (lsb_v (lsb_v (lsb_c (lsb_c lsb_e))))))) ?_
  obtain ⟨x21_, hx22_, h⟩ := lb_some h
  refine ok_Pa_scan_l7 C p1 0 0 0 d hp1 (c32_cb (Or.inl rfl)) (c32_cb (Or.inl rfl)) (c32_cb (Or.inl rfl)) hx22_ (fun v23_ v24_ d25_ eq26_ hv23_ hv24_ => ?_)
  subst eq26_
  replace h := u2_e h
  refine g_sub (lo2 := [(2, 25), (0, v23_), (0, v24_), (9, 0), (9, 0), (9, 0), (9, 0)]) (lsb_v (lsb_v (lsb_v (lsb_c (lsb_c (lsb_c (lsb_c lsb_e))))))) ?_
  exact ok_Pa_scan_b81 C hlk hr v23_ v24_ d25_ hv23_ hv24_ h
/-! PollBooks$Parser.kind()I -/
def y_Pa_kind : MethodName := ⟨"PollBooks$Parser", "kind", "()I"⟩
def rm_Pa_kind : Room := { frames := 0, cells := 0, slots := 0, locals := 0 }
theorem mw_Pa_kind : MW y_Pa_kind prog_6_method_15_code 1 (some .int) 0 := ⟨lk_790, lk_6, by decide +kernel⟩
def L_Pa_kind (d : Dt) : Option (Int × Dt) :=
  ck ((0 : Int) ≤ (d 25 5) ∧ (d 25 5) < 601) (some ((d 27 ((d 25 5)).toNat), d))
set_option maxHeartbeats 4000000 in
theorem ok_Pa_kind {l : Launch} {r : Int} {d' : Dt} (d : Dt)  (h : L_Pa_kind d = some (r, d')) : MC l y_Pa_kind prog_6_method_15_code 1 (some .int) rm_Pa_kind 0 [(2, 25)] d (some (0, r)) d' := by
  refine MC.of (by decide) (Nat.le_of_ble_eq_true rfl) ?_
  intro p e s m args below meth c D cA ad A C hlk hr
  replace C : Cx p s m args c prog_6_method_15_code 1 "PollBooks$Parser" D cA ad 0 A := C
  show G p l e rm_Pa_kind s m args below meth c 0 0 (MQ below (fun _ => QC D cA ad 0 A (some .int) (some (0, r)) d') args s 0 0 A) 1 D cA ad 0 A 0 [(2, 25)] [] d
  refine g_sub (lo2 := [(2, 25)]) (lsb_v lsb_e) ?_
  unfold L_Pa_kind at h
  refine g_aload_n C 0 rfl (by decide +kernel) ?_
  refine g_getR C cl4 25 2 27 rfl cd_A25 ⟨by decide, rfl, by decide⟩ rfl rfl (nA (by decide)) (ix := 15) lk_197 (by decide +kernel) ?_
  refine g_aload_n C 0 rfl (by decide +kernel) ?_
  refine g_getI C cl4 25 5 rfl cd_A25 ⟨by decide, rfl, by decide⟩ rfl (nA (by decide)) (ix := 46) lk_200 (by decide +kernel) (fun hc1_ => ?_)
  obtain ⟨hb2_, h⟩ := ck_some h
  refine g_iald C 27 hc1_ rfl cd_A27 (nA (by decide)) hb2_ (by decide +kernel) (fun hc3_ => ?_)
  obtain ⟨rfl, rfl⟩ := ret_inj h
  exact g_iret C hc3_ hlk hr (by decide +kernel)
/-! PollBooks$Parser.refuse(I)Z -/
def y_Pa_refuse : MethodName := ⟨"PollBooks$Parser", "refuse", "(I)Z"⟩
def rm_Pa_refuse : Room := { frames := 0, cells := 0, slots := 0, locals := 0 }
theorem mw_Pa_refuse : MW y_Pa_refuse prog_6_method_17_code 2 (some .boolean) 1 := ⟨lk_802, lk_6, by decide +kernel⟩
def L_Pa_refuse_b19 (s1 : Int) (d : Dt) : Option (Int × Dt) :=
  ck ((0 : Int) ≤ (d 25 5) ∧ (d 25 5) < 601) (some (0, (up2 (up2 d 25 7 s1) 25 8 (d 29 ((d 25 5)).toNat))))
def L_Pa_refuse (p1 : Int) (d : Dt) : Option (Int × Dt) :=
  ck ((0 : Int) ≤ (d 25 5) ∧ (d 25 5) < 601) (if (d 27 ((d 25 5)).toNat) = 1 then L_Pa_refuse_b19 1 d else L_Pa_refuse_b19 p1 d)
set_option maxHeartbeats 4000000 in
theorem ok_Pa_refuse_b19 {p : Program} {l : Launch} {e : Env} {s : State} {m : MethodId} {args : Array Value} {below : List Frame} {meth : Method} {c : Code} {D : va_G} {cA : Nat → ClassId} {ad : Nat → Nat} {A : Nat → Prop} (C : Cx p s m args c prog_6_method_17_code 2 "PollBooks$Parser" D cA ad 0 A) (hlk : meth.locks = false) (hr : meth.sig.returnType = (some .boolean)) {r : Int} {d' : Dt} (s1 : Int) (d : Dt) (hs1 : c32 s1) (h : L_Pa_refuse_b19 s1 d = some (r, d')) : G p l e rm_Pa_refuse s m args below meth c 0 0 (MQ below (fun _ => QC D cA ad 0 A (some .boolean) (some (0, r)) d') args s 0 0 A) 2 D cA ad 0 A 19 [(2, 25), (9, 0)] [(0, s1), (2, 25)] d := by
  unfold L_Pa_refuse_b19 at h
  refine g_putI C cl4 25 7 hs1 rfl cd_A25 ⟨by decide, rfl, by decide⟩ rfl (nA (by decide)) (ix := 33) lk_202 rfl rfl (by decide +kernel) ?_
  refine g_aload_n C 0 rfl (by decide +kernel) ?_
  refine g_aload_n C 0 rfl (by decide +kernel) ?_
  refine g_getR C cl4 25 4 29 rfl cd_A25 ⟨by decide, rfl, by decide⟩ rfl rfl (nA (by decide)) (ix := 23) lk_199 (by decide +kernel) ?_
  refine g_aload_n C 0 rfl (by decide +kernel) ?_
  refine g_getI C cl4 25 5 rfl cd_A25 ⟨by decide, rfl, by decide⟩ rfl (nA (by decide)) (ix := 46) lk_200 (by decide +kernel) (fun hc1_ => ?_)
  refine g_val (y := (d 25 5)) rfl ?_
  replace hc1_ : c32 (d 25 5) := hc1_
  obtain ⟨hb2_, h⟩ := ck_some h
  refine g_iald C 29 hc1_ rfl cd_A29 (nA (by decide)) hb2_ (by decide +kernel) (fun hc3_ => ?_)
  refine g_val (y := (d 29 ((d 25 5)).toNat)) rfl ?_
  replace hc3_ : c32 (d 29 ((d 25 5)).toNat) := hc3_
  refine g_putI C cl4 25 8 hc3_ rfl cd_A25 ⟨by decide, rfl, by decide⟩ rfl (nA (by decide)) (ix := 37) lk_203 rfl rfl (by decide +kernel) ?_
  refine g_iconst C 0 (cK rfl) (by decide +kernel) ?_
  obtain ⟨rfl, rfl⟩ := ret_inj h
  exact g_zret C (Or.inl rfl) hlk hr (by decide +kernel)
set_option maxHeartbeats 4000000 in
theorem ok_Pa_refuse {l : Launch} {r : Int} {d' : Dt} (p1 : Int) (d : Dt) (hp1 : c32 p1) (h : L_Pa_refuse p1 d = some (r, d')) : MC l y_Pa_refuse prog_6_method_17_code 2 (some .boolean) rm_Pa_refuse 0 [(2, 25), (0, p1)] d (some (0, r)) d' := by
  refine MC.of (by decide) (Nat.le_of_ble_eq_true rfl) ?_
  intro p e s m args below meth c D cA ad A C hlk hr
  replace C : Cx p s m args c prog_6_method_17_code 2 "PollBooks$Parser" D cA ad 0 A := C
  show G p l e rm_Pa_refuse s m args below meth c 0 0 (MQ below (fun _ => QC D cA ad 0 A (some .boolean) (some (0, r)) d') args s 0 0 A) 2 D cA ad 0 A 0 [(2, 25), (0, p1)] [] d
  refine g_sub (lo2 := [(2, 25), (0, p1)]) (lsb_v (lsb_v lsb_e)) ?_
  unfold L_Pa_refuse at h
  refine g_aload_n C 0 rfl (by decide +kernel) ?_
  refine g_aload_n C 0 rfl (by decide +kernel) ?_
  refine g_getR C cl4 25 2 27 rfl cd_A25 ⟨by decide, rfl, by decide⟩ rfl rfl (nA (by decide)) (ix := 15) lk_197 (by decide +kernel) ?_
  refine g_aload_n C 0 rfl (by decide +kernel) ?_
  refine g_getI C cl4 25 5 rfl cd_A25 ⟨by decide, rfl, by decide⟩ rfl (nA (by decide)) (ix := 46) lk_200 (by decide +kernel) (fun hc4_ => ?_)
  obtain ⟨hb5_, h⟩ := ck_some h
  refine g_iald C 27 hc4_ rfl cd_A27 (nA (by decide)) hb5_ (by decide +kernel) (fun hc6_ => ?_)
  refine g_iconst C 1 (cK rfl) (by decide +kernel) ?_
  refine g_icmp_ne C (off := 7) (tgt := 18) hc6_ (c32_cb (Or.inr rfl)) (by decide +kernel) (by decide) (fun hc7_ => ?_) (fun hc7_ => ?_)
  · replace h := ite_t hc7_ h
    refine g_iconst C 1 (cK rfl) (by decide +kernel) ?_
    refine g_goto C 19 (off := 4) (by decide +kernel) (by decide) ?_
    refine g_sub (lo2 := [(2, 25), (9, 0)]) (lsb_v (lsb_c lsb_e)) ?_
    exact ok_Pa_refuse_b19 C hlk hr 1 d (c32_cb (Or.inr rfl)) h
  · replace h := ite_f hc7_ h
    refine g_iload_n C 1 rfl (by decide +kernel) ?_
    refine g_sub (lo2 := [(2, 25), (9, 0)]) (lsb_v (lsb_c lsb_e)) ?_
    exact ok_Pa_refuse_b19 C hlk hr p1 d hp1 h
/-! PollBooks$Statute.hasLabel(J)Z -/
def y_St_hasLabel : MethodName := ⟨"PollBooks$Statute", "hasLabel", "(J)Z"⟩
def rm_St_hasLabel : Room := { frames := 0, cells := 0, slots := 0, locals := 0 }
theorem mw_St_hasLabel : MW y_St_hasLabel prog_11_method_3_code 4 (some .boolean) 1 := ⟨lk_806, lk_7, by decide +kernel⟩
def L_St_hasLabel_y2 (x0 x1 x3 : Int) (d : Dt) : Option ((Int × Int × Int × Dt) ⊕ ((Dt) ⊕ (Dt))) :=
  ck (stt d x0) (if x3 < (d (x0.toNat + 0) 2) then ck (stt d x0) (ck (stt d x0) (ck ((0 : Int) ≤ x3 ∧ x3 < 20) (if (d (x0.toNat + 1) x3.toNat) = x1 then some (Sum.inr (Sum.inr (d))) else some (Sum.inl (x0, x1, (w32 (x3 + 1)), d))))) else some (Sum.inr (Sum.inl (d))))
def L_St_hasLabel_l2 (x0 x1 x3 : Int) (d : Dt) : Option ((Dt) ⊕ (Dt)) := lpF (fun q : Int × Int × Int × Dt => L_St_hasLabel_y2 q.1 q.2.1 q.2.2.1 q.2.2.2) FU (x0, x1, x3, d)
def L_St_hasLabel (this p1 : Int) (d : Dt) : Option (Int × Dt) :=
  lb (L_St_hasLabel_l2 this p1 0 d) (fun q15_ => sm q15_ (fun q16_ => u0 q16_ (fun d11_ => some (0, d11_))) (fun q17_ => u0 q17_ (fun d13_ => some (1, d13_))))
set_option maxHeartbeats 4000000 in
theorem ok_St_hasLabel_y2 {p : Program} {l : Launch} {e : Env} {s : State} {m : MethodId} {args : Array Value} {below : List Frame} {meth : Method} {c : Code} {D : va_G} {cA : Nat → ClassId} {ad : Nat → Nat} {A : Nat → Prop} (C : Cx p s m args c prog_11_method_3_code 4 "PollBooks$Statute" D cA ad 0 A) {Q : State → Prop} {o : (Int × Int × Int × Dt) ⊕ ((Dt) ⊕ (Dt))} (x0 x1 x3 : Int) (d : Dt) (hx1 : c64 x1) (hx3 : c32 x3) (h : L_St_hasLabel_y2 x0 x1 x3 d = some o) (kb : ∀ (y0 y1 y2 : Int) (e' : Dt), o = .inl (y0, y1, y2, e') → c64 y1 → c32 y2 → G p l e rm_St_hasLabel s m args below meth c 0 0 Q 4 D cA ad 0 A 2 [(2, y0), (1, y1), (9, 0), (0, y2)] [] e') (k0 : ∀ (e' : Dt), o = .inr (Sum.inl (e')) → G p l e rm_St_hasLabel s m args below meth c 0 0 Q 4 D cA ad 0 A 29 [(9, 0), (9, 0), (9, 0), (9, 0)] [] e') (k1 : ∀ (e' : Dt), o = .inr (Sum.inr (e')) → G p l e rm_St_hasLabel s m args below meth c 0 0 Q 4 D cA ad 0 A 21 [(9, 0), (9, 0), (9, 0), (9, 0)] [] e') : G p l e rm_St_hasLabel s m args below meth c 0 0 Q 4 D cA ad 0 A 2 [(2, x0), (1, x1), (9, 0), (0, x3)] [] d := by
  unfold L_St_hasLabel_y2 at h
  refine g_iload_n C 3 rfl (by decide +kernel) ?_
  refine g_aload_n C 0 rfl (by decide +kernel) ?_
  obtain ⟨hs1_, h⟩ := ck_some h
  refine g_getI C cl9 (x0.toNat + 0) 2 (stt_ko0 hs1_) (stt_cd hs1_ 0 (by decide)) ⟨by decide, rfl, by decide⟩ rfl (stt_n hs1_ 0 (by decide)) (ix := 31) lk_155 (by decide +kernel) (fun hc2_ => ?_)
  refine g_icmp_ge C (off := 22) (tgt := 29) hx3 hc2_ (by decide +kernel) (by decide) (fun hc3_ => ?_) (fun hc3_ => ?_)
  · replace h := ite_t hc3_ h
    refine g_aload_n C 0 rfl (by decide +kernel) ?_
    obtain ⟨hs4_, h⟩ := ck_some h
    refine g_getR C cl9 (x0.toNat + 0) 4 (x0 + 1) (stt_ko0 hs4_) (stt_cd hs4_ 0 (by decide)) ⟨by decide, rfl, by decide⟩ rfl (stt_ko hs4_ 1).symm (stt_n hs4_ 0 (by decide)) (ix := 9) lk_161 (by decide +kernel) ?_
    refine g_iload_n C 3 rfl (by decide +kernel) ?_
    obtain ⟨hs5_, h⟩ := ck_some h
    obtain ⟨hb6_, h⟩ := ck_some h
    refine g_lald C (x0.toNat + 1) hx3 (stt_ko hs5_ 1) (stt_cd hs5_ 1 (by decide)) (stt_n hs5_ 1 (by decide)) hb6_ (by decide +kernel) (fun hc7_ => ?_)
    refine g_lload_n C 1 rfl (by decide +kernel) ?_
    refine g_lc_ne C (off := 5) (tgt := 23) hc7_ hx1 (by decide +kernel) (by decide +kernel) (by decide) (fun hc8_ => ?_) (fun hc8_ => ?_)
    · replace h := ite_t hc8_ h
      refine g_sub (lo2 := [(9, 0), (9, 0), (9, 0), (9, 0)]) (lsb_c (lsb_c (lsb_c (lsb_c lsb_e)))) ?_
      obtain rfl := Option.some.inj h
      exact k1 d rfl 
    · replace h := ite_f hc8_ h
      refine s_iinc C 3 1 (lo' := [(2, x0), (1, x1), (9, 0), (0, (w32 (x3 + 1)))]) rfl (by decide) (s1k (s1k (s1n (by decide) s1z))) (by decide +kernel) ?_
      refine g_goto C 2 (off := (-24)) (by decide +kernel) (by decide) ?_
      refine g_sub (lo2 := [(2, x0), (1, x1), (9, 0), (0, (w32 (x3 + 1)))]) (lsb_v (lsb_v (lsb_c (lsb_v lsb_e)))) ?_
      obtain rfl := Option.some.inj h
      exact kb x0 x1 (w32 (x3 + 1)) d rfl hx1 (w32_c _)
  · replace h := ite_f hc3_ h
    refine g_sub (lo2 := [(9, 0), (9, 0), (9, 0), (9, 0)]) (lsb_c (lsb_c (lsb_c (lsb_c lsb_e)))) ?_
    obtain rfl := Option.some.inj h
    exact k0 d rfl 
set_option maxHeartbeats 4000000 in
theorem ok_St_hasLabel_n2 {p : Program} {l : Launch} {e : Env} {s : State} {m : MethodId} {args : Array Value} {below : List Frame} {meth : Method} {c : Code} {D : va_G} {cA : Nat → ClassId} {ad : Nat → Nat} {A : Nat → Prop} (C : Cx p s m args c prog_11_method_3_code 4 "PollBooks$Statute" D cA ad 0 A) {Q : State → Prop} {x : (Dt) ⊕ (Dt)} : ∀ (n : Nat) (x0 x1 x3 : Int) (d : Dt), c64 x1 → c32 x3 → lpF (fun q : Int × Int × Int × Dt => L_St_hasLabel_y2 q.1 q.2.1 q.2.2.1 q.2.2.2) n (x0, x1, x3, d) = some x → (∀ (e' : Dt), x = (Sum.inl (e')) → G p l e rm_St_hasLabel s m args below meth c 0 0 Q 4 D cA ad 0 A 29 [(9, 0), (9, 0), (9, 0), (9, 0)] [] e') → (∀ (e' : Dt), x = (Sum.inr (e')) → G p l e rm_St_hasLabel s m args below meth c 0 0 Q 4 D cA ad 0 A 21 [(9, 0), (9, 0), (9, 0), (9, 0)] [] e') → G p l e rm_St_hasLabel s m args below meth c 0 0 Q 4 D cA ad 0 A 2 [(2, x0), (1, x1), (9, 0), (0, x3)] [] d := by
  intro n
  induction n with
  | zero => intro x0 x1 x3 d g0 g1 h k0 k1; cases h
  | succ n ih =>
    intro x0 x1 x3 d g0 g1 h k0 k1
    rcases lpF_some h with h | ⟨⟨v0_, v1_, v2_, e0_⟩, h1, h⟩
    · exact ok_St_hasLabel_y2 C x0 x1 x3 d g0 g1 h (fun z0_ z1_ z2_ e1_ eq w0_ w1_ => by cases eq) (fun e1_ eq => k0 _ (by cases eq; rfl) ) (fun e1_ eq => k1 _ (by cases eq; rfl) )
    · exact ok_St_hasLabel_y2 C x0 x1 x3 d g0 g1 h1 (fun z0_ z1_ z2_ e1_ eq w0_ w1_ => by cases eq; exact ih _ _ _ _ w0_ w1_ h k0 k1) (fun e1_ eq => by cases eq) (fun e1_ eq => by cases eq)
set_option maxHeartbeats 4000000 in
theorem ok_St_hasLabel_l2 {p : Program} {l : Launch} {e : Env} {s : State} {m : MethodId} {args : Array Value} {below : List Frame} {meth : Method} {c : Code} {D : va_G} {cA : Nat → ClassId} {ad : Nat → Nat} {A : Nat → Prop} (C : Cx p s m args c prog_11_method_3_code 4 "PollBooks$Statute" D cA ad 0 A) {Q : State → Prop} {x : (Dt) ⊕ (Dt)} (x0 x1 x3 : Int) (d : Dt) (hx1 : c64 x1) (hx3 : c32 x3) (h : L_St_hasLabel_l2 x0 x1 x3 d = some x) (k0 : ∀ (e' : Dt), x = (Sum.inl (e')) → G p l e rm_St_hasLabel s m args below meth c 0 0 Q 4 D cA ad 0 A 29 [(9, 0), (9, 0), (9, 0), (9, 0)] [] e') (k1 : ∀ (e' : Dt), x = (Sum.inr (e')) → G p l e rm_St_hasLabel s m args below meth c 0 0 Q 4 D cA ad 0 A 21 [(9, 0), (9, 0), (9, 0), (9, 0)] [] e') : G p l e rm_St_hasLabel s m args below meth c 0 0 Q 4 D cA ad 0 A 2 [(2, x0), (1, x1), (9, 0), (0, x3)] [] d :=
  ok_St_hasLabel_n2 C FU x0 x1 x3 d hx1 hx3 h k0 k1
set_option maxHeartbeats 4000000 in
theorem ok_St_hasLabel {l : Launch} {r : Int} {d' : Dt} (this p1 : Int) (d : Dt) (hp1 : c64 p1) (h : L_St_hasLabel this p1 d = some (r, d')) : MC l y_St_hasLabel prog_11_method_3_code 4 (some .boolean) rm_St_hasLabel 0 [(2, this), (1, p1)] d (some (0, r)) d' := by
  refine MC.of (by decide) (Nat.le_of_ble_eq_true rfl) ?_
  intro p e s m args below meth c D cA ad A C hlk hr
  replace C : Cx p s m args c prog_11_method_3_code 4 "PollBooks$Statute" D cA ad 0 A := C
  show G p l e rm_St_hasLabel s m args below meth c 0 0 (MQ below (fun _ => QC D cA ad 0 A (some .boolean) (some (0, r)) d') args s 0 0 A) 4 D cA ad 0 A 0 [(2, this), (1, p1), (9, 0)] [] d
  refine g_sub (lo2 := [(2, this), (1, p1), (9, 0), (9, 0)]) (lsb_v (lsb_v (lsb_c (lsb_n lsb_e)))) ?_
  unfold L_St_hasLabel at h
  refine g_iconst C 0 (cK rfl) (by decide +kernel) ?_
  refine s_istore_n C 3 (lo' := [(2, this), (1, p1), (9, 0), (0, 0)]) (by decide) (s1k (s1k (s1n (by decide) s1z))) (by decide +kernel) ?_
  refine g_sub (lo2 := [(2, this), (1, p1), (9, 0), (0, 0)]) (lsb_v (lsb_v (lsb_c (lsb_v lsb_e)))) ?_
  obtain ⟨x9_, hx10_, h⟩ := lb_some h
  refine ok_St_hasLabel_l2 C this p1 0 d hp1 (c32_cb (Or.inl rfl)) hx10_ (fun d11_ eq12_ => ?_) (fun d13_ eq14_ => ?_)
  · subst eq12_
    replace h := sml_e h
    replace h := u0_e h
    refine g_iconst C 0 (cK rfl) (by decide +kernel) ?_
    obtain ⟨rfl, rfl⟩ := ret_inj h
    exact g_zret C (Or.inl rfl) hlk hr (by decide +kernel)
  · subst eq14_
    replace h := smr_e h
    replace h := u0_e h
    refine g_iconst C 1 (cK rfl) (by decide +kernel) ?_
    obtain ⟨rfl, rfl⟩ := ret_inj h
    exact g_zret C (Or.inr rfl) hlk hr (by decide +kernel)
/-! PollBooks$Parser.next()V -/
def y_Pa_next : MethodName := ⟨"PollBooks$Parser", "next", "()V"⟩
def rm_Pa_next : Room := { frames := 0, cells := 0, slots := 0, locals := 0 }
theorem mw_Pa_next : MW y_Pa_next prog_6_method_16_code 1 none 0 := ⟨lk_810, lk_6, by decide +kernel⟩
def L_Pa_next (d : Dt) : Option (Int × Dt) :=
  ck ((0 : Int) ≤ (d 25 5) ∧ (d 25 5) < 601) (if (d 27 ((d 25 5)).toNat) = 0 then some (0, d) else if (d 25 5) < 600 then some (0, (up2 d 25 5 (w32 ((d 25 5) + 1)))) else some (0, d))
set_option maxHeartbeats 4000000 in
theorem ok_Pa_next {l : Launch} {r : Int} {d' : Dt} (d : Dt)  (h : L_Pa_next d = some (r, d')) : MC l y_Pa_next prog_6_method_16_code 1 none rm_Pa_next 0 [(2, 25)] d none d' := by
  refine MC.of (by decide) (Nat.le_of_ble_eq_true rfl) ?_
  intro p e s m args below meth c D cA ad A C hlk hr
  replace C : Cx p s m args c prog_6_method_16_code 1 "PollBooks$Parser" D cA ad 0 A := C
  show G p l e rm_Pa_next s m args below meth c 0 0 (MQ below (fun _ => QC D cA ad 0 A none none d') args s 0 0 A) 1 D cA ad 0 A 0 [(2, 25)] [] d
  refine g_sub (lo2 := [(2, 25)]) (lsb_v lsb_e) ?_
  unfold L_Pa_next at h
  refine g_aload_n C 0 rfl (by decide +kernel) ?_
  refine g_getR C cl4 25 2 27 rfl cd_A25 ⟨by decide, rfl, by decide⟩ rfl rfl (nA (by decide)) (ix := 15) lk_197 (by decide +kernel) ?_
  refine g_aload_n C 0 rfl (by decide +kernel) ?_
  refine g_getI C cl4 25 5 rfl cd_A25 ⟨by decide, rfl, by decide⟩ rfl (nA (by decide)) (ix := 46) lk_200 (by decide +kernel) (fun hc1_ => ?_)
  obtain ⟨hb2_, h⟩ := ck_some h
  refine g_iald C 27 hc1_ rfl cd_A27 (nA (by decide)) hb2_ (by decide +kernel) (fun hc3_ => ?_)
  refine g_if_eq C (off := 23) (tgt := 32) hc3_ (by decide +kernel) (by decide) (fun hc4_ => ?_) (fun hc4_ => ?_)
  · replace h := ite_t hc4_ h
    obtain ⟨rfl, rfl⟩ := ret_inj h
    exact g_vret C hlk hr (by decide +kernel)
  · replace h := ite_f hc4_ h
    refine g_aload_n C 0 rfl (by decide +kernel) ?_
    refine g_getI C cl4 25 5 rfl cd_A25 ⟨by decide, rfl, by decide⟩ rfl (nA (by decide)) (ix := 46) lk_200 (by decide +kernel) (fun hc5_ => ?_)
    refine g_sipush C 600 (by decide) (by decide +kernel) ?_
    refine g_icmp_ge C (off := 13) (tgt := 32) hc5_ (cK rfl) (by decide +kernel) (by decide) (fun hc6_ => ?_) (fun hc6_ => ?_)
    · replace h := ite_t hc6_ h
      refine g_aload_n C 0 rfl (by decide +kernel) ?_
      refine g_dup C tg2 (by decide +kernel) ?_
      refine g_getI C cl4 25 5 rfl cd_A25 ⟨by decide, rfl, by decide⟩ rfl (nA (by decide)) (ix := 46) lk_200 (by decide +kernel) (fun hc7_ => ?_)
      refine g_iconst C 1 (cK rfl) (by decide +kernel) ?_
      refine g_iadd C (by decide +kernel) ?_
      refine g_putI C cl4 25 5 (w32_c _) rfl cd_A25 ⟨by decide, rfl, by decide⟩ rfl (nA (by decide)) (ix := 46) lk_200 rfl rfl (by decide +kernel) ?_
      obtain ⟨rfl, rfl⟩ := ret_inj h
      exact g_vret C hlk hr (by decide +kernel)
    · replace h := ite_f hc6_ h
      obtain ⟨rfl, rfl⟩ := ret_inj h
      exact g_vret C hlk hr (by decide +kernel)
/-! PollBooks$Parser.passes(I)Z -/
def y_Pa_passes : MethodName := ⟨"PollBooks$Parser", "passes", "(I)Z"⟩
def rm_Pa_passes : Room := { frames := 1, cells := 0, slots := 0, locals := 21 }
theorem mw_Pa_passes : MW y_Pa_passes prog_6_method_18_code 2 (some .boolean) 1 := ⟨lk_814, lk_6, by decide +kernel⟩
def L_Pa_passes (p1 : Int) (d : Dt) : Option (Int × Dt) :=
  ck ((0 : Int) ≤ (d 25 5) ∧ (d 25 5) < 601) (if (d 27 ((d 25 5)).toNat) = p1 then bd (L_Pa_next d) (fun r6_ d5_ => some (1, d5_)) else bd (L_Pa_refuse 2 d) (fun r10_ d9_ => some (r10_, d9_)))
set_option maxHeartbeats 4000000 in
theorem ok_Pa_passes {l : Launch} {r : Int} {d' : Dt} (p1 : Int) (d : Dt) (hp1 : c32 p1) (h : L_Pa_passes p1 d = some (r, d')) : MC l y_Pa_passes prog_6_method_18_code 2 (some .boolean) rm_Pa_passes 0 [(2, 25), (0, p1)] d (some (0, r)) d' := by
  refine MC.of (by decide) (Nat.le_of_ble_eq_true rfl) ?_
  intro p e s m args below meth c D cA ad A C hlk hr
  replace C : Cx p s m args c prog_6_method_18_code 2 "PollBooks$Parser" D cA ad 0 A := C
  show G p l e rm_Pa_passes s m args below meth c 0 0 (MQ below (fun _ => QC D cA ad 0 A (some .boolean) (some (0, r)) d') args s 0 0 A) 2 D cA ad 0 A 0 [(2, 25), (0, p1)] [] d
  refine g_sub (lo2 := [(2, 25), (0, p1)]) (lsb_v (lsb_v lsb_e)) ?_
  unfold L_Pa_passes at h
  refine g_aload_n C 0 rfl (by decide +kernel) ?_
  refine g_getR C cl4 25 2 27 rfl cd_A25 ⟨by decide, rfl, by decide⟩ rfl rfl (nA (by decide)) (ix := 15) lk_197 (by decide +kernel) ?_
  refine g_aload_n C 0 rfl (by decide +kernel) ?_
  refine g_getI C cl4 25 5 rfl cd_A25 ⟨by decide, rfl, by decide⟩ rfl (nA (by decide)) (ix := 46) lk_200 (by decide +kernel) (fun hc1_ => ?_)
  obtain ⟨hb2_, h⟩ := ck_some h
  refine g_iald C 27 hc1_ rfl cd_A27 (nA (by decide)) hb2_ (by decide +kernel) (fun hc3_ => ?_)
  refine g_iload_n C 1 rfl (by decide +kernel) ?_
  refine g_icmp_eq C (off := 9) (tgt := 19) hc3_ hp1 (by decide +kernel) (by decide) (fun hc4_ => ?_) (fun hc4_ => ?_)
  · replace h := ite_t hc4_ h
    refine g_aload_n C 0 rfl (by decide +kernel) ?_
    obtain ⟨r6_, d5_, hr7_, h⟩ := bd_some h
    refine g_callV C mw_Pa_next [] 25 cl4 rfl (ok_Pa_next  d  hr7_) cd_A25 (by decide) (nA (by decide)) (ix := 98) lk_807 lk_809 lkp_16 ⟨rfl, rfl, Nat.le_of_ble_eq_true rfl, Nat.le_of_ble_eq_true rfl⟩ rfl (rest := []) rfl (Nat.le_of_ble_eq_true rfl) ⟨Nat.zero_le _, Nat.zero_le _⟩ (by decide +kernel) (fun _ hc8_ => ?_)
    refine g_st (st2 := []) rfl ?_
    refine g_iconst C 1 (cK rfl) (by decide +kernel) ?_
    obtain ⟨rfl, rfl⟩ := ret_inj h
    exact g_zret C (Or.inr rfl) hlk hr (by decide +kernel)
  · replace h := ite_f hc4_ h
    refine g_aload_n C 0 rfl (by decide +kernel) ?_
    refine g_iconst C 2 (cK rfl) (by decide +kernel) ?_
    obtain ⟨r10_, d9_, hr11_, h⟩ := bd_some h
    refine g_callV C mw_Pa_refuse [(0, 2)] 25 cl4 rfl (ok_Pa_refuse 2 d (cK rfl) hr11_) cd_A25 (by decide) (nA (by decide)) (ix := 95) lk_799 lk_801 lkp_15 ⟨rfl, rfl, Nat.le_of_ble_eq_true rfl, Nat.le_of_ble_eq_true rfl⟩ rfl (rest := []) rfl (Nat.le_of_ble_eq_true rfl) ⟨Nat.zero_le _, Nat.zero_le _⟩ (by decide +kernel) (fun _ hc12_ => ?_)
    replace hc12_ : cb r10_ := hc12_
    refine g_st (st2 := [(0, r10_)]) rfl ?_
    obtain ⟨rfl, rfl⟩ := ret_inj h
    exact g_zret C hc12_ hlk hr (by decide +kernel)
/-! PollBooks$Statute.openRule(JJ)V -/
def y_St_openRule : MethodName := ⟨"PollBooks$Statute", "openRule", "(JJ)V"⟩
def rm_St_openRule : Room := { frames := 0, cells := 0, slots := 0, locals := 0 }
theorem mw_St_openRule : MW y_St_openRule prog_11_method_4_code 5 none 2 := ⟨lk_818, lk_7, by decide +kernel⟩
def L_St_openRule (this p1 p2 : Int) (d : Dt) : Option (Int × Dt) :=
  ck (stt d this) (if (d (this.toNat + 0) 2) < 20 then ck (stt d this) (ck (stt d this) (ck (stt d this) (ck ((0 : Int) ≤ (d (this.toNat + 0) 2) ∧ (d (this.toNat + 0) 2) < 20) (ck (stt (up2 d (this.toNat + 1) ((d (this.toNat + 0) 2)).toNat p1) this) (ck (stt (up2 d (this.toNat + 1) ((d (this.toNat + 0) 2)).toNat p1) this) (ck (stt (up2 d (this.toNat + 1) ((d (this.toNat + 0) 2)).toNat p1) this) (ck ((0 : Int) ≤ ((up2 d (this.toNat + 1) ((d (this.toNat + 0) 2)).toNat p1) (this.toNat + 0) 2) ∧ ((up2 d (this.toNat + 1) ((d (this.toNat + 0) 2)).toNat p1) (this.toNat + 0) 2) < 20) (some (0, (up2 (up2 d (this.toNat + 1) ((d (this.toNat + 0) 2)).toNat p1) (this.toNat + 2) (((up2 d (this.toNat + 1) ((d (this.toNat + 0) 2)).toNat p1) (this.toNat + 0) 2)).toNat p2)))))))))) else some (0, d))
set_option maxHeartbeats 4000000 in
theorem ok_St_openRule {l : Launch} {r : Int} {d' : Dt} (this p1 p2 : Int) (d : Dt) (hp1 : c64 p1) (hp2 : c64 p2) (h : L_St_openRule this p1 p2 d = some (r, d')) : MC l y_St_openRule prog_11_method_4_code 5 none rm_St_openRule 0 [(2, this), (1, p1), (1, p2)] d none d' := by
  refine MC.of (by decide) (Nat.le_of_ble_eq_true rfl) ?_
  intro p e s m args below meth c D cA ad A C hlk hr
  replace C : Cx p s m args c prog_11_method_4_code 5 "PollBooks$Statute" D cA ad 0 A := C
  show G p l e rm_St_openRule s m args below meth c 0 0 (MQ below (fun _ => QC D cA ad 0 A none none d') args s 0 0 A) 5 D cA ad 0 A 0 [(2, this), (1, p1), (9, 0), (1, p2), (9, 0)] [] d
  refine g_sub (lo2 := [(2, this), (1, p1), (9, 0), (1, p2), (9, 0)]) (lsb_v (lsb_v (lsb_c (lsb_v (lsb_c lsb_e))))) ?_
  unfold L_St_openRule at h
  refine g_aload_n C 0 rfl (by decide +kernel) ?_
  obtain ⟨hs1_, h⟩ := ck_some h
  refine g_getI C cl9 (this.toNat + 0) 2 (stt_ko0 hs1_) (stt_cd hs1_ 0 (by decide)) ⟨by decide, rfl, by decide⟩ rfl (stt_n hs1_ 0 (by decide)) (ix := 31) lk_155 (by decide +kernel) (fun hc2_ => ?_)
  refine g_bipush C 20 (by decide) (by decide +kernel) ?_
  refine g_icmp_ge C (off := 23) (tgt := 29) hc2_ (cK rfl) (by decide +kernel) (by decide) (fun hc3_ => ?_) (fun hc3_ => ?_)
  · replace h := ite_t hc3_ h
    refine g_aload_n C 0 rfl (by decide +kernel) ?_
    obtain ⟨hs4_, h⟩ := ck_some h
    refine g_getR C cl9 (this.toNat + 0) 4 (this + 1) (stt_ko0 hs4_) (stt_cd hs4_ 0 (by decide)) ⟨by decide, rfl, by decide⟩ rfl (stt_ko hs4_ 1).symm (stt_n hs4_ 0 (by decide)) (ix := 9) lk_161 (by decide +kernel) ?_
    refine g_aload_n C 0 rfl (by decide +kernel) ?_
    obtain ⟨hs5_, h⟩ := ck_some h
    refine g_getI C cl9 (this.toNat + 0) 2 (stt_ko0 hs5_) (stt_cd hs5_ 0 (by decide)) ⟨by decide, rfl, by decide⟩ rfl (stt_n hs5_ 0 (by decide)) (ix := 31) lk_155 (by decide +kernel) (fun hc6_ => ?_)
    refine g_lload_n C 1 rfl (by decide +kernel) ?_
    obtain ⟨hs7_, h⟩ := ck_some h
    obtain ⟨hb8_, h⟩ := ck_some h
    refine g_last C (this.toNat + 1) hp1 hc6_ (stt_ko hs7_ 1) (stt_cd hs7_ 1 (by decide)) (stt_n hs7_ 1 (by decide)) hb8_ (by decide +kernel) ?_
    refine g_aload_n C 0 rfl (by decide +kernel) ?_
    obtain ⟨hs9_, h⟩ := ck_some h
    refine g_getR C cl9 (this.toNat + 0) 5 (this + 2) (stt_ko0 hs9_) (stt_cd hs9_ 0 (by decide)) ⟨by decide, rfl, by decide⟩ rfl (stt_ko hs9_ 2).symm (stt_n hs9_ 0 (by decide)) (ix := 13) lk_163 (by decide +kernel) ?_
    refine g_aload_n C 0 rfl (by decide +kernel) ?_
    obtain ⟨hs10_, h⟩ := ck_some h
    refine g_getI C cl9 (this.toNat + 0) 2 (stt_ko0 hs10_) (stt_cd hs10_ 0 (by decide)) ⟨by decide, rfl, by decide⟩ rfl (stt_n hs10_ 0 (by decide)) (ix := 31) lk_155 (by decide +kernel) (fun hc11_ => ?_)
    refine g_lload_n C 3 rfl (by decide +kernel) ?_
    obtain ⟨hs12_, h⟩ := ck_some h
    obtain ⟨hb13_, h⟩ := ck_some h
    refine g_last C (this.toNat + 2) hp2 hc11_ (stt_ko hs12_ 2) (stt_cd hs12_ 2 (by decide)) (stt_n hs12_ 2 (by decide)) hb13_ (by decide +kernel) ?_
    obtain ⟨rfl, rfl⟩ := ret_inj h
    exact g_vret C hlk hr (by decide +kernel)
  · replace h := ite_f hc3_ h
    obtain ⟨rfl, rfl⟩ := ret_inj h
    exact g_vret C hlk hr (by decide +kernel)
/-! PollBooks$Parser.takeLabels()Z -/
def y_Pa_takeLabels : MethodName := ⟨"PollBooks$Parser", "takeLabels", "()Z"⟩
def rm_Pa_takeLabels : Room := { frames := 2, cells := 0, slots := 0, locals := 42 }
theorem mw_Pa_takeLabels : MW y_Pa_takeLabels prog_6_method_21_code 5 (some .boolean) 0 := ⟨lk_798, lk_6, by decide +kernel⟩
def L_Pa_takeLabels_b98 (x1 x3 : Int) (d : Dt) : Option (Int × Dt) :=
  ck (stt d (d 25 6)) (bd (L_St_openRule (d 25 6) x1 x3 d) (fun r2_ d1_ => some (1, d1_)))
def L_Pa_takeLabels (d : Dt) : Option (Int × Dt) :=
  ck ((0 : Int) ≤ (d 25 5) ∧ (d 25 5) < 601) (lt_ (d 28 ((d 25 5)).toNat) (fun v9_ => bd (L_Pa_kind d) (fun r13_ d12_ => if r13_ = 3 then ck (stt d12_ (d12_ 25 6)) (if (d12_ ((d12_ 25 6).toNat + 0) 2) < 20 then ck (stt d12_ (d12_ 25 6)) (bd (L_St_hasLabel (d12_ 25 6) v9_ d12_) (fun r21_ d20_ => if r21_ = 0 then bd (L_Pa_next d20_) (fun r27_ d26_ => bd (L_Pa_kind d26_) (fun r31_ d30_ => if r31_ = 16 then bd (L_Pa_next d30_) (fun r36_ d35_ => ck ((0 : Int) ≤ (d35_ 25 5) ∧ (d35_ 25 5) < 601) (lt_ (d35_ 28 ((d35_ 25 5)).toNat) (fun v42_ => bd (L_Pa_passes 3 d35_) (fun r46_ d45_ => if r46_ = 0 then some (0, d45_) else L_Pa_takeLabels_b98 v9_ v42_ d45_)))) else L_Pa_takeLabels_b98 v9_ 0 d30_)) else bd (L_Pa_refuse 4 d20_) (fun r51_ d50_ => some (r51_, d50_)))) else bd (L_Pa_refuse 3 d12_) (fun r55_ d54_ => some (r55_, d54_))) else bd (L_Pa_refuse 2 d12_) (fun r59_ d58_ => some (r59_, d58_)))))
set_option maxHeartbeats 4000000 in
theorem ok_Pa_takeLabels_b98 {p : Program} {l : Launch} {e : Env} {s : State} {m : MethodId} {args : Array Value} {below : List Frame} {meth : Method} {c : Code} {D : va_G} {cA : Nat → ClassId} {ad : Nat → Nat} {A : Nat → Prop} (C : Cx p s m args c prog_6_method_21_code 5 "PollBooks$Parser" D cA ad 0 A) (hlk : meth.locks = false) (hr : meth.sig.returnType = (some .boolean)) {r : Int} {d' : Dt} (x1 x3 : Int) (d : Dt) (hx1 : c64 x1) (hx3 : c64 x3) (h : L_Pa_takeLabels_b98 x1 x3 d = some (r, d')) : G p l e rm_Pa_takeLabels s m args below meth c 0 0 (MQ below (fun _ => QC D cA ad 0 A (some .boolean) (some (0, r)) d') args s 0 0 A) 5 D cA ad 0 A 98 [(2, 25), (1, x1), (9, 0), (1, x3), (9, 0)] [] d := by
  unfold L_Pa_takeLabels_b98 at h
  refine g_aload_n C 0 rfl (by decide +kernel) ?_
  refine g_getM C cl4 25 6 rfl cd_A25 ⟨by decide, rfl, by decide⟩ rfl (nA (by decide)) (ix := 29) lk_201 (by decide +kernel) ?_
  refine g_lload_n C 1 rfl (by decide +kernel) ?_
  refine g_lload_n C 3 rfl (by decide +kernel) ?_
  obtain ⟨hs4_, h⟩ := ck_some h
  obtain ⟨r2_, d1_, hr3_, h⟩ := bd_some h
  refine g_callV C mw_St_openRule [(1, x1), (1, x3)] ((d 25 6).toNat + 0) cl9 (stt_ko0 hs4_) (ok_St_openRule (d 25 6) x1 x3 d hx1 hx3 hr3_) (stt_cd hs4_ 0 (by decide)) (by decide) (stt_n hs4_ 0 (by decide)) (ix := 123) lk_815 lk_816 lk_817 ⟨rfl, rfl, Nat.le_of_ble_eq_true rfl, Nat.le_of_ble_eq_true rfl⟩ rfl (rest := []) rfl (Nat.le_of_ble_eq_true rfl) ⟨Nat.zero_le _, Nat.zero_le _⟩ (by decide +kernel) (fun _ hc5_ => ?_)
  refine g_st (st2 := []) rfl ?_
  refine g_iconst C 1 (cK rfl) (by decide +kernel) ?_
  obtain ⟨rfl, rfl⟩ := ret_inj h
  exact g_zret C (Or.inr rfl) hlk hr (by decide +kernel)
set_option maxHeartbeats 4000000 in
theorem ok_Pa_takeLabels {l : Launch} {r : Int} {d' : Dt} (d : Dt)  (h : L_Pa_takeLabels d = some (r, d')) : MC l y_Pa_takeLabels prog_6_method_21_code 5 (some .boolean) rm_Pa_takeLabels 0 [(2, 25)] d (some (0, r)) d' := by
  refine MC.of (by decide) (Nat.le_of_ble_eq_true rfl) ?_
  intro p e s m args below meth c D cA ad A C hlk hr
  replace C : Cx p s m args c prog_6_method_21_code 5 "PollBooks$Parser" D cA ad 0 A := C
  show G p l e rm_Pa_takeLabels s m args below meth c 0 0 (MQ below (fun _ => QC D cA ad 0 A (some .boolean) (some (0, r)) d') args s 0 0 A) 5 D cA ad 0 A 0 [(2, 25)] [] d
  refine g_sub (lo2 := [(2, 25), (9, 0), (9, 0), (9, 0), (9, 0)]) (lsb_v (lsb_n (lsb_n (lsb_n (lsb_n lsb_e))))) ?_
  unfold L_Pa_takeLabels at h
  refine g_aload_n C 0 rfl (by decide +kernel) ?_
  refine g_getR C cl4 25 3 28 rfl cd_A25 ⟨by decide, rfl, by decide⟩ rfl rfl (nA (by decide)) (ix := 19) lk_198 (by decide +kernel) ?_
  refine g_aload_n C 0 rfl (by decide +kernel) ?_
  refine g_getI C cl4 25 5 rfl cd_A25 ⟨by decide, rfl, by decide⟩ rfl (nA (by decide)) (ix := 46) lk_200 (by decide +kernel) (fun hc6_ => ?_)
  obtain ⟨hb7_, h⟩ := ck_some h
  refine g_lald C 28 hc6_ rfl cd_A28 (nA (by decide)) hb7_ (by decide +kernel) (fun hc8_ => ?_)
  obtain ⟨v9_, ev10_, h⟩ := lt_some h
  refine g_val ev10_.symm ?_
  have hv11_ : c64 v9_ := by rw [ev10_]; exact hc8_
  refine s_lstore_n C 1 (lo' := [(2, 25), (1, v9_), (9, 0), (9, 0), (9, 0)]) (by decide) (s2n (by decide) s2z) (by decide +kernel) ?_
  refine g_aload_n C 0 rfl (by decide +kernel) ?_
  obtain ⟨r13_, d12_, hr14_, h⟩ := bd_some h
  refine g_callV C mw_Pa_kind [] 25 cl4 rfl (ok_Pa_kind  d  hr14_) cd_A25 (by decide) (nA (by decide)) (ix := 53) lk_787 lk_789 lkp_12 ⟨rfl, rfl, Nat.le_of_ble_eq_true rfl, Nat.le_of_ble_eq_true rfl⟩ rfl (rest := []) rfl (Nat.le_of_ble_eq_true rfl) ⟨Nat.zero_le _, Nat.zero_le _⟩ (by decide +kernel) (fun _ hc15_ => ?_)
  replace hc15_ : c32 r13_ := hc15_
  refine g_st (st2 := [(0, r13_)]) rfl ?_
  refine g_iconst C 3 (cK rfl) (by decide +kernel) ?_
  refine g_icmp_eq C (off := 9) (tgt := 24) hc15_ (cK rfl) (by decide +kernel) (by decide) (fun hc16_ => ?_) (fun hc16_ => ?_)
  · replace h := ite_t hc16_ h
    refine g_aload_n C 0 rfl (by decide +kernel) ?_
    refine g_getM C cl4 25 6 rfl cd_A25 ⟨by decide, rfl, by decide⟩ rfl (nA (by decide)) (ix := 29) lk_201 (by decide +kernel) ?_
    obtain ⟨hs17_, h⟩ := ck_some h
    refine g_getIN C cl9 ((d12_ 25 6).toNat + 0) 2 (stt_ko0 hs17_) (stt_cd hs17_ 0 (by decide)) ⟨by decide, rfl, by decide⟩ rfl (stt_n hs17_ 0 (by decide)) (ix := 116) lk_158 (by decide +kernel) (fun hc18_ => ?_)
    refine g_bipush C 20 (by decide) (by decide +kernel) ?_
    refine g_icmp_lt C (off := 9) (tgt := 42) hc18_ (cK rfl) (by decide +kernel) (by decide) (fun hc19_ => ?_) (fun hc19_ => ?_)
    · replace h := ite_t hc19_ h
      refine g_aload_n C 0 rfl (by decide +kernel) ?_
      refine g_getM C cl4 25 6 rfl cd_A25 ⟨by decide, rfl, by decide⟩ rfl (nA (by decide)) (ix := 29) lk_201 (by decide +kernel) ?_
      refine g_lload_n C 1 rfl (by decide +kernel) ?_
      obtain ⟨hs23_, h⟩ := ck_some h
      obtain ⟨r21_, d20_, hr22_, h⟩ := bd_some h
      refine g_callV C mw_St_hasLabel [(1, v9_)] ((d12_ 25 6).toNat + 0) cl9 (stt_ko0 hs23_) (ok_St_hasLabel (d12_ 25 6) v9_ d12_ hv11_ hr22_) (stt_cd hs23_ 0 (by decide)) (by decide) (stt_n hs23_ 0 (by decide)) (ix := 119) lk_803 lk_804 lk_805 ⟨rfl, rfl, Nat.le_of_ble_eq_true rfl, Nat.le_of_ble_eq_true rfl⟩ rfl (rest := []) rfl (Nat.le_of_ble_eq_true rfl) ⟨Nat.zero_le _, Nat.zero_le _⟩ (by decide +kernel) (fun _ hc24_ => ?_)
      replace hc24_ : cb r21_ := hc24_
      refine g_st (st2 := [(0, r21_)]) rfl ?_
      refine g_if_eq C (off := 9) (tgt := 59) (c32_cb hc24_) (by decide +kernel) (by decide) (fun hc25_ => ?_) (fun hc25_ => ?_)
      · replace h := ite_t hc25_ h
        refine g_aload_n C 0 rfl (by decide +kernel) ?_
        obtain ⟨r27_, d26_, hr28_, h⟩ := bd_some h
        refine g_callV C mw_Pa_next [] 25 cl4 rfl (ok_Pa_next  d20_  hr28_) cd_A25 (by decide) (nA (by decide)) (ix := 98) lk_807 lk_809 lkp_16 ⟨rfl, rfl, Nat.le_of_ble_eq_true rfl, Nat.le_of_ble_eq_true rfl⟩ rfl (rest := []) rfl (Nat.le_of_ble_eq_true rfl) ⟨Nat.zero_le _, Nat.zero_le _⟩ (by decide +kernel) (fun _ hc29_ => ?_)
        refine g_st (st2 := []) rfl ?_
        refine g_lconst C 0 (v := 0) (by decide) (by decide +kernel) ?_
        refine s_lstore_n C 3 (lo' := [(2, 25), (1, v9_), (9, 0), (1, 0), (9, 0)]) (by decide) (s2k (s2k (s2n (by decide) s2z))) (by decide +kernel) ?_
        refine g_aload_n C 0 rfl (by decide +kernel) ?_
        obtain ⟨r31_, d30_, hr32_, h⟩ := bd_some h
        refine g_callV C mw_Pa_kind [] 25 cl4 rfl (ok_Pa_kind  d26_  hr32_) cd_A25 (by decide) (nA (by decide)) (ix := 53) lk_787 lk_789 lkp_12 ⟨rfl, rfl, Nat.le_of_ble_eq_true rfl, Nat.le_of_ble_eq_true rfl⟩ rfl (rest := []) rfl (Nat.le_of_ble_eq_true rfl) ⟨Nat.zero_le _, Nat.zero_le _⟩ (by decide +kernel) (fun _ hc33_ => ?_)
        replace hc33_ : c32 r31_ := hc33_
        refine g_st (st2 := [(0, r31_)]) rfl ?_
        refine g_bipush C 16 (by decide) (by decide +kernel) ?_
        refine g_icmp_ne C (off := 27) (tgt := 98) hc33_ (cK rfl) (by decide +kernel) (by decide) (fun hc34_ => ?_) (fun hc34_ => ?_)
        · replace h := ite_t hc34_ h
          refine g_aload_n C 0 rfl (by decide +kernel) ?_
          obtain ⟨r36_, d35_, hr37_, h⟩ := bd_some h
          refine g_callV C mw_Pa_next [] 25 cl4 rfl (ok_Pa_next  d30_  hr37_) cd_A25 (by decide) (nA (by decide)) (ix := 98) lk_807 lk_809 lkp_16 ⟨rfl, rfl, Nat.le_of_ble_eq_true rfl, Nat.le_of_ble_eq_true rfl⟩ rfl (rest := []) rfl (Nat.le_of_ble_eq_true rfl) ⟨Nat.zero_le _, Nat.zero_le _⟩ (by decide +kernel) (fun _ hc38_ => ?_)
          refine g_st (st2 := []) rfl ?_
          refine g_aload_n C 0 rfl (by decide +kernel) ?_
          refine g_getR C cl4 25 3 28 rfl cd_A25 ⟨by decide, rfl, by decide⟩ rfl rfl (nA (by decide)) (ix := 19) lk_198 (by decide +kernel) ?_
          refine g_aload_n C 0 rfl (by decide +kernel) ?_
          refine g_getI C cl4 25 5 rfl cd_A25 ⟨by decide, rfl, by decide⟩ rfl (nA (by decide)) (ix := 46) lk_200 (by decide +kernel) (fun hc39_ => ?_)
          obtain ⟨hb40_, h⟩ := ck_some h
          refine g_lald C 28 hc39_ rfl cd_A28 (nA (by decide)) hb40_ (by decide +kernel) (fun hc41_ => ?_)
          obtain ⟨v42_, ev43_, h⟩ := lt_some h
          refine g_val ev43_.symm ?_
          have hv44_ : c64 v42_ := by rw [ev43_]; exact hc41_
          refine s_lstore_n C 3 (lo' := [(2, 25), (1, v9_), (9, 0), (1, v42_), (9, 0)]) (by decide) (s2k (s2k (s2n (by decide) s2z))) (by decide +kernel) ?_
          refine g_aload_n C 0 rfl (by decide +kernel) ?_
          refine g_iconst C 3 (cK rfl) (by decide +kernel) ?_
          obtain ⟨r46_, d45_, hr47_, h⟩ := bd_some h
          refine g_callV C mw_Pa_passes [(0, 3)] 25 cl4 rfl (ok_Pa_passes 3 d35_ (cK rfl) hr47_) cd_A25 (by decide) (nA (by decide)) (ix := 104) lk_811 lk_813 lkp_17 ⟨rfl, rfl, Nat.le_of_ble_eq_true rfl, Nat.le_of_ble_eq_true rfl⟩ rfl (rest := []) rfl (Nat.le_of_ble_eq_true rfl) ⟨Nat.zero_le _, Nat.zero_le _⟩ (by decide +kernel) (fun _ hc48_ => ?_)
          replace hc48_ : cb r46_ := hc48_
          refine g_st (st2 := [(0, r46_)]) rfl ?_
          refine g_if_ne C (off := 5) (tgt := 98) (c32_cb hc48_) (by decide +kernel) (by decide) (fun hc49_ => ?_) (fun hc49_ => ?_)
          · replace h := ite_t hc49_ h
            refine g_iconst C 0 (cK rfl) (by decide +kernel) ?_
            obtain ⟨rfl, rfl⟩ := ret_inj h
            exact g_zret C (Or.inl rfl) hlk hr (by decide +kernel)
          · replace h := ite_f hc49_ h
            refine g_sub (lo2 := [(2, 25), (1, v9_), (9, 0), (1, v42_), (9, 0)]) (lsb_v (lsb_v (lsb_c (lsb_v (lsb_c lsb_e))))) ?_
            exact ok_Pa_takeLabels_b98 C hlk hr v9_ v42_ d45_ hv11_ hv44_ h
        · replace h := ite_f hc34_ h
          refine g_sub (lo2 := [(2, 25), (1, v9_), (9, 0), (1, 0), (9, 0)]) (lsb_v (lsb_v (lsb_c (lsb_v (lsb_c lsb_e))))) ?_
          exact ok_Pa_takeLabels_b98 C hlk hr v9_ 0 d30_ hv11_ (cL rfl) h
      · replace h := ite_f hc25_ h
        refine g_aload_n C 0 rfl (by decide +kernel) ?_
        refine g_iconst C 4 (cK rfl) (by decide +kernel) ?_
        obtain ⟨r51_, d50_, hr52_, h⟩ := bd_some h
        refine g_callV C mw_Pa_refuse [(0, 4)] 25 cl4 rfl (ok_Pa_refuse 4 d20_ (cK rfl) hr52_) cd_A25 (by decide) (nA (by decide)) (ix := 95) lk_799 lk_801 lkp_15 ⟨rfl, rfl, Nat.le_of_ble_eq_true rfl, Nat.le_of_ble_eq_true rfl⟩ rfl (rest := []) rfl (Nat.le_of_ble_eq_true rfl) ⟨Nat.zero_le _, Nat.zero_le _⟩ (by decide +kernel) (fun _ hc53_ => ?_)
        replace hc53_ : cb r51_ := hc53_
        refine g_st (st2 := [(0, r51_)]) rfl ?_
        obtain ⟨rfl, rfl⟩ := ret_inj h
        exact g_zret C hc53_ hlk hr (by decide +kernel)
    · replace h := ite_f hc19_ h
      refine g_aload_n C 0 rfl (by decide +kernel) ?_
      refine g_iconst C 3 (cK rfl) (by decide +kernel) ?_
      obtain ⟨r55_, d54_, hr56_, h⟩ := bd_some h
      refine g_callV C mw_Pa_refuse [(0, 3)] 25 cl4 rfl (ok_Pa_refuse 3 d12_ (cK rfl) hr56_) cd_A25 (by decide) (nA (by decide)) (ix := 95) lk_799 lk_801 lkp_15 ⟨rfl, rfl, Nat.le_of_ble_eq_true rfl, Nat.le_of_ble_eq_true rfl⟩ rfl (rest := []) rfl (Nat.le_of_ble_eq_true rfl) ⟨Nat.zero_le _, Nat.zero_le _⟩ (by decide +kernel) (fun _ hc57_ => ?_)
      replace hc57_ : cb r55_ := hc57_
      refine g_st (st2 := [(0, r55_)]) rfl ?_
      obtain ⟨rfl, rfl⟩ := ret_inj h
      exact g_zret C hc57_ hlk hr (by decide +kernel)
  · replace h := ite_f hc16_ h
    refine g_aload_n C 0 rfl (by decide +kernel) ?_
    refine g_iconst C 2 (cK rfl) (by decide +kernel) ?_
    obtain ⟨r59_, d58_, hr60_, h⟩ := bd_some h
    refine g_callV C mw_Pa_refuse [(0, 2)] 25 cl4 rfl (ok_Pa_refuse 2 d12_ (cK rfl) hr60_) cd_A25 (by decide) (nA (by decide)) (ix := 95) lk_799 lk_801 lkp_15 ⟨rfl, rfl, Nat.le_of_ble_eq_true rfl, Nat.le_of_ble_eq_true rfl⟩ rfl (rest := []) rfl (Nat.le_of_ble_eq_true rfl) ⟨Nat.zero_le _, Nat.zero_le _⟩ (by decide +kernel) (fun _ hc61_ => ?_)
    replace hc61_ : cb r59_ := hc61_
    refine g_st (st2 := [(0, r59_)]) rfl ?_
    obtain ⟨rfl, rfl⟩ := ret_inj h
    exact g_zret C hc61_ hlk hr (by decide +kernel)
/-! PollBooks$Statute.addCode(I)V -/
def y_St_addCode : MethodName := ⟨"PollBooks$Statute", "addCode", "(I)V"⟩
def rm_St_addCode : Room := { frames := 0, cells := 0, slots := 0, locals := 0 }
theorem mw_St_addCode : MW y_St_addCode prog_11_method_6_code 2 none 1 := ⟨lk_838, lk_7, by decide +kernel⟩
def L_St_addCode (this p1 : Int) (d : Dt) : Option (Int × Dt) :=
  ck (stt d this) (ck (stt d this) (ck (stt d this) (if (d (this.toNat + 0) 3) < 600 then ck (stt d this) (ck (stt d this) (ck (stt d this) (ck ((0 : Int) ≤ (d (this.toNat + 0) 3) ∧ (d (this.toNat + 0) 3) < 600) (ck (stt (up2 d (this.toNat + 6) ((d (this.toNat + 0) 3)).toNat p1) this) (ck (stt (up2 d (this.toNat + 6) ((d (this.toNat + 0) 3)).toNat p1) this) (some (0, (up2 (up2 d (this.toNat + 6) ((d (this.toNat + 0) 3)).toNat p1) (this.toNat + 0) 3 (w32 (((up2 d (this.toNat + 6) ((d (this.toNat + 0) 3)).toNat p1) (this.toNat + 0) 3) + 1)))))))))) else some (0, d))))
set_option maxHeartbeats 4000000 in
theorem ok_St_addCode {l : Launch} {r : Int} {d' : Dt} (this p1 : Int) (d : Dt) (hp1 : c32 p1) (h : L_St_addCode this p1 d = some (r, d')) : MC l y_St_addCode prog_11_method_6_code 2 none rm_St_addCode 0 [(2, this), (0, p1)] d none d' := by
  refine MC.of (by decide) (Nat.le_of_ble_eq_true rfl) ?_
  intro p e s m args below meth c D cA ad A C hlk hr
  replace C : Cx p s m args c prog_11_method_6_code 2 "PollBooks$Statute" D cA ad 0 A := C
  show G p l e rm_St_addCode s m args below meth c 0 0 (MQ below (fun _ => QC D cA ad 0 A none none d') args s 0 0 A) 2 D cA ad 0 A 0 [(2, this), (0, p1)] [] d
  refine g_sub (lo2 := [(2, this), (0, p1)]) (lsb_v (lsb_v lsb_e)) ?_
  unfold L_St_addCode at h
  refine g_aload_n C 0 rfl (by decide +kernel) ?_
  obtain ⟨hs1_, h⟩ := ck_some h
  refine g_getI C cl9 (this.toNat + 0) 3 (stt_ko0 hs1_) (stt_cd hs1_ 0 (by decide)) ⟨by decide, rfl, by decide⟩ rfl (stt_n hs1_ 0 (by decide)) (ix := 35) lk_159 (by decide +kernel) (fun hc2_ => ?_)
  refine g_aload_n C 0 rfl (by decide +kernel) ?_
  obtain ⟨hs3_, h⟩ := ck_some h
  refine g_getR C cl9 (this.toNat + 0) 9 (this + 6) (stt_ko0 hs3_) (stt_cd hs3_ 0 (by decide)) ⟨by decide, rfl, by decide⟩ rfl (stt_ko hs3_ 6).symm (stt_n hs3_ 0 (by decide)) (ix := 28) lk_171 (by decide +kernel) ?_
  obtain ⟨hs4_, h⟩ := ck_some h
  refine g_alen C (this.toNat + 6) (stt_ko hs4_ 6) (stt_cd hs4_ 6 (by decide)) (by decide) (stt_n hs4_ 6 (by decide)) (v := 600) rfl (by decide +kernel) ?_
  refine g_icmp_ge C (off := 23) (tgt := 32) hc2_ (cK rfl) (by decide +kernel) (by decide) (fun hc5_ => ?_) (fun hc5_ => ?_)
  · replace h := ite_t hc5_ h
    refine g_aload_n C 0 rfl (by decide +kernel) ?_
    obtain ⟨hs6_, h⟩ := ck_some h
    refine g_getR C cl9 (this.toNat + 0) 9 (this + 6) (stt_ko0 hs6_) (stt_cd hs6_ 0 (by decide)) ⟨by decide, rfl, by decide⟩ rfl (stt_ko hs6_ 6).symm (stt_n hs6_ 0 (by decide)) (ix := 28) lk_171 (by decide +kernel) ?_
    refine g_aload_n C 0 rfl (by decide +kernel) ?_
    obtain ⟨hs7_, h⟩ := ck_some h
    refine g_getI C cl9 (this.toNat + 0) 3 (stt_ko0 hs7_) (stt_cd hs7_ 0 (by decide)) ⟨by decide, rfl, by decide⟩ rfl (stt_n hs7_ 0 (by decide)) (ix := 35) lk_159 (by decide +kernel) (fun hc8_ => ?_)
    refine g_iload_n C 1 rfl (by decide +kernel) ?_
    obtain ⟨hs9_, h⟩ := ck_some h
    obtain ⟨hb10_, h⟩ := ck_some h
    refine g_iast C (this.toNat + 6) hp1 hc8_ (stt_ko hs9_ 6) (stt_cd hs9_ 6 (by decide)) (stt_n hs9_ 6 (by decide)) hb10_ (by decide +kernel) ?_
    refine g_aload_n C 0 rfl (by decide +kernel) ?_
    refine g_dup C tg2 (by decide +kernel) ?_
    obtain ⟨hs11_, h⟩ := ck_some h
    refine g_getI C cl9 (this.toNat + 0) 3 (stt_ko0 hs11_) (stt_cd hs11_ 0 (by decide)) ⟨by decide, rfl, by decide⟩ rfl (stt_n hs11_ 0 (by decide)) (ix := 35) lk_159 (by decide +kernel) (fun hc12_ => ?_)
    refine g_iconst C 1 (cK rfl) (by decide +kernel) ?_
    refine g_iadd C (by decide +kernel) ?_
    obtain ⟨hs13_, h⟩ := ck_some h
    refine g_putI C cl9 (this.toNat + 0) 3 (w32_c _) (stt_ko0 hs13_) (stt_cd hs13_ 0 (by decide)) ⟨by decide, rfl, by decide⟩ rfl (stt_n hs13_ 0 (by decide)) (ix := 35) lk_159 rfl rfl (by decide +kernel) ?_
    obtain ⟨rfl, rfl⟩ := ret_inj h
    exact g_vret C hlk hr (by decide +kernel)
  · replace h := ite_f hc5_ h
    obtain ⟨rfl, rfl⟩ := ret_inj h
    exact g_vret C hlk hr (by decide +kernel)
def y_Pa_takeSum : MethodName := ⟨"PollBooks$Parser", "takeSum", "(I)Z"⟩
theorem mw_Pa_takeSum : MW y_Pa_takeSum prog_6_method_26_code 5 (some .boolean) 1 := ⟨lk_830, lk_6, by decide +kernel⟩
def y_Pa_takeAtom : MethodName := ⟨"PollBooks$Parser", "takeAtom", "(I)Z"⟩
theorem mw_Pa_takeAtom : MW y_Pa_takeAtom prog_6_method_27_code 4 (some .boolean) 1 := ⟨lk_834, lk_6, by decide +kernel⟩
def rm_Pa_takeAtom (rmr : Room) : Room := { frames := max 1 (rmr.frames + 1), cells := 0, slots := 0, locals := max 21 (8 + (5 + 11) + rmr.locals) }
def L_Pa_takeAtom_b44 (rec : Int → Dt → Option (Int × Dt)) (s0 s1 : Int) (d : Dt) : Option (Int × Dt) :=
  ck (stt d s0) (bd (L_St_addCode s0 s1 d) (fun r2_ d1_ => bd (L_Pa_next d1_) (fun r7_ d6_ => some (1, d6_))))
def L_Pa_takeAtom_b15 (rec : Int → Dt → Option (Int × Dt)) (x2 : Int) (d : Dt) : Option (Int × Dt) :=
  ck ((0 : Int) ≤ (d 25 5) ∧ (d 25 5) < 601) (lt_ (w32 (d 28 ((d 25 5)).toNat)) (fun v13_ => if x2 = 2 then L_Pa_takeAtom_b44 rec (d 25 6) (w32 (128 + v13_)) d else L_Pa_takeAtom_b44 rec (d 25 6) v13_ d))
def L_Pa_takeAtom (rec : Int → Dt → Option (Int × Dt)) (p1 : Int) (d : Dt) : Option (Int × Dt) :=
  bd (L_Pa_kind d) (fun r18_ d17_ => if r18_ = 2 then L_Pa_takeAtom_b15 rec r18_ d17_ else if r18_ = 4 then L_Pa_takeAtom_b15 rec r18_ d17_ else if r18_ = 40 then if p1 < 6 then bd (L_Pa_next d17_) (fun r26_ d25_ => bd (rec (w32 (p1 + 1)) d25_) (fun r30_ d29_ => if r30_ = 0 then some (0, d29_) else bd (L_Pa_kind d29_) (fun r35_ d34_ => if r35_ = 41 then bd (L_Pa_next d34_) (fun r40_ d39_ => some (1, d39_)) else bd (L_Pa_refuse 2 d34_) (fun r44_ d43_ => some (r44_, d43_))))) else bd (L_Pa_refuse 5 d17_) (fun r48_ d47_ => some (r48_, d47_)) else bd (L_Pa_refuse 2 d17_) (fun r52_ d51_ => some (r52_, d51_)))
set_option maxHeartbeats 4000000 in
theorem ok_Pa_takeAtom_b44 {p : Program} {l : Launch} {e : Env} {s : State} {m : MethodId} {args : Array Value} {below : List Frame} {meth : Method} {c : Code} {D : va_G} {cA : Nat → ClassId} {ad : Nat → Nat} {A : Nat → Prop} (C : Cx p s m args c prog_6_method_27_code 4 "PollBooks$Parser" D cA ad 0 A) (hlk : meth.locks = false) (hr : meth.sig.returnType = (some .boolean)) (rec : Int → Dt → Option (Int × Dt)) (rmr : Room) (hrm : rmr.cells = 0 ∧ rmr.slots = 0) (hrec : ∀ (q : Int) (e : Dt) (r : Int) (e' : Dt), c32 q → rec q e = some (r, e') → MC l y_Pa_takeSum prog_6_method_26_code 5 (some .boolean) rmr 0 [(2, 25), (0, q)] e (some (0, r)) e') {r : Int} {d' : Dt} (s0 s1 : Int) (d : Dt) (hs1 : c32 s1) (h : L_Pa_takeAtom_b44 rec s0 s1 d = some (r, d')) : G p l e (rm_Pa_takeAtom rmr) s m args below meth c 0 0 (MQ below (fun _ => QC D cA ad 0 A (some .boolean) (some (0, r)) d') args s 0 0 A) 4 D cA ad 0 A 44 [(2, 25), (9, 0), (9, 0), (9, 0)] [(0, s1), (2, s0)] d := by
  unfold L_Pa_takeAtom_b44 at h
  obtain ⟨hs4_, h⟩ := ck_some h
  obtain ⟨r2_, d1_, hr3_, h⟩ := bd_some h
  refine g_callV C mw_St_addCode [(0, s1)] (s0.toNat + 0) cl9 (stt_ko0 hs4_) (ok_St_addCode s0 s1 d hs1 hr3_) (stt_cd hs4_ 0 (by decide)) (by decide) (stt_n hs4_ 0 (by decide)) (ix := 139) lk_835 lk_836 lk_837 ⟨rfl, rfl, Nat.le_trans (Nat.le_of_ble_eq_true rfl) (Nat.le_max_left _ _), Nat.le_trans (Nat.le_of_ble_eq_true rfl) (Nat.le_max_left _ _)⟩ rfl (rest := []) rfl (Nat.le_of_ble_eq_true rfl) ⟨Nat.zero_le _, Nat.zero_le _⟩ (by decide +kernel) (fun _ hc5_ => ?_)
  refine g_st (st2 := []) rfl ?_
  refine g_aload_n C 0 rfl (by decide +kernel) ?_
  obtain ⟨r7_, d6_, hr8_, h⟩ := bd_some h
  refine g_callV C mw_Pa_next [] 25 cl4 rfl (ok_Pa_next  d1_  hr8_) cd_A25 (by decide) (nA (by decide)) (ix := 98) lk_807 lk_809 lkp_16 ⟨rfl, rfl, Nat.le_trans (Nat.le_of_ble_eq_true rfl) (Nat.le_max_left _ _), Nat.le_trans (Nat.le_of_ble_eq_true rfl) (Nat.le_max_left _ _)⟩ rfl (rest := []) rfl (Nat.le_of_ble_eq_true rfl) ⟨Nat.zero_le _, Nat.zero_le _⟩ (by decide +kernel) (fun _ hc9_ => ?_)
  refine g_st (st2 := []) rfl ?_
  refine g_iconst C 1 (cK rfl) (by decide +kernel) ?_
  obtain ⟨rfl, rfl⟩ := ret_inj h
  exact g_zret C (Or.inr rfl) hlk hr (by decide +kernel)
set_option maxHeartbeats 4000000 in
theorem ok_Pa_takeAtom_b15 {p : Program} {l : Launch} {e : Env} {s : State} {m : MethodId} {args : Array Value} {below : List Frame} {meth : Method} {c : Code} {D : va_G} {cA : Nat → ClassId} {ad : Nat → Nat} {A : Nat → Prop} (C : Cx p s m args c prog_6_method_27_code 4 "PollBooks$Parser" D cA ad 0 A) (hlk : meth.locks = false) (hr : meth.sig.returnType = (some .boolean)) (rec : Int → Dt → Option (Int × Dt)) (rmr : Room) (hrm : rmr.cells = 0 ∧ rmr.slots = 0) (hrec : ∀ (q : Int) (e : Dt) (r : Int) (e' : Dt), c32 q → rec q e = some (r, e') → MC l y_Pa_takeSum prog_6_method_26_code 5 (some .boolean) rmr 0 [(2, 25), (0, q)] e (some (0, r)) e') {r : Int} {d' : Dt} (x2 : Int) (d : Dt) (hx2 : c32 x2) (h : L_Pa_takeAtom_b15 rec x2 d = some (r, d')) : G p l e (rm_Pa_takeAtom rmr) s m args below meth c 0 0 (MQ below (fun _ => QC D cA ad 0 A (some .boolean) (some (0, r)) d') args s 0 0 A) 4 D cA ad 0 A 15 [(2, 25), (9, 0), (0, x2), (9, 0)] [] d := by
  unfold L_Pa_takeAtom_b15 at h
  refine g_aload_n C 0 rfl (by decide +kernel) ?_
  refine g_getR C cl4 25 3 28 rfl cd_A25 ⟨by decide, rfl, by decide⟩ rfl rfl (nA (by decide)) (ix := 19) lk_198 (by decide +kernel) ?_
  refine g_aload_n C 0 rfl (by decide +kernel) ?_
  refine g_getI C cl4 25 5 rfl cd_A25 ⟨by decide, rfl, by decide⟩ rfl (nA (by decide)) (ix := 46) lk_200 (by decide +kernel) (fun hc10_ => ?_)
  obtain ⟨hb11_, h⟩ := ck_some h
  refine g_lald C 28 hc10_ rfl cd_A28 (nA (by decide)) hb11_ (by decide +kernel) (fun hc12_ => ?_)
  refine g_l2i C (by decide +kernel) ?_
  obtain ⟨v13_, ev14_, h⟩ := lt_some h
  refine g_val ev14_.symm ?_
  have hv15_ : c32 v13_ := by rw [ev14_]; exact (w32_c _)
  refine s_istore_n C 3 (lo' := [(2, 25), (9, 0), (0, x2), (0, v13_)]) (by decide) (s1k (s1k (s1n (by decide) s1z))) (by decide +kernel) ?_
  refine g_aload_n C 0 rfl (by decide +kernel) ?_
  refine g_getM C cl4 25 6 rfl cd_A25 ⟨by decide, rfl, by decide⟩ rfl (nA (by decide)) (ix := 29) lk_201 (by decide +kernel) ?_
  refine g_iload_n C 2 rfl (by decide +kernel) ?_
  refine g_iconst C 2 (cK rfl) (by decide +kernel) ?_
  refine g_icmp_ne C (off := 11) (tgt := 43) hx2 (cK rfl) (by decide +kernel) (by decide) (fun hc16_ => ?_) (fun hc16_ => ?_)
  · replace h := ite_t hc16_ h
    refine g_sipush C 128 (by decide) (by decide +kernel) ?_
    refine g_iload_n C 3 rfl (by decide +kernel) ?_
    refine g_iadd C (by decide +kernel) ?_
    refine g_goto C 44 (off := 4) (by decide +kernel) (by decide) ?_
    refine g_sub (lo2 := [(2, 25), (9, 0), (9, 0), (9, 0)]) (lsb_v (lsb_c (lsb_c (lsb_c lsb_e)))) ?_
    exact ok_Pa_takeAtom_b44 C hlk hr rec rmr hrm hrec (d 25 6) (w32 (128 + v13_)) d (w32_c _) h
  · replace h := ite_f hc16_ h
    refine g_iload_n C 3 rfl (by decide +kernel) ?_
    refine g_sub (lo2 := [(2, 25), (9, 0), (9, 0), (9, 0)]) (lsb_v (lsb_c (lsb_c (lsb_c lsb_e)))) ?_
    exact ok_Pa_takeAtom_b44 C hlk hr rec rmr hrm hrec (d 25 6) v13_ d hv15_ h
set_option maxHeartbeats 4000000 in
theorem ok_Pa_takeAtom {l : Launch} (rec : Int → Dt → Option (Int × Dt)) (rmr : Room) (hrm : rmr.cells = 0 ∧ rmr.slots = 0) (hrec : ∀ (q : Int) (e : Dt) (r : Int) (e' : Dt), c32 q → rec q e = some (r, e') → MC l y_Pa_takeSum prog_6_method_26_code 5 (some .boolean) rmr 0 [(2, 25), (0, q)] e (some (0, r)) e') {r : Int} {d' : Dt} (p1 : Int) (d : Dt) (hp1 : c32 p1) (h : L_Pa_takeAtom rec p1 d = some (r, d')) : MC l y_Pa_takeAtom prog_6_method_27_code 4 (some .boolean) (rm_Pa_takeAtom rmr) 0 [(2, 25), (0, p1)] d (some (0, r)) d' := by
  refine MC.of (by decide) (Nat.le_of_ble_eq_true rfl) ?_
  intro p e s m args below meth c D cA ad A C hlk hr
  replace C : Cx p s m args c prog_6_method_27_code 4 "PollBooks$Parser" D cA ad 0 A := C
  show G p l e (rm_Pa_takeAtom rmr) s m args below meth c 0 0 (MQ below (fun _ => QC D cA ad 0 A (some .boolean) (some (0, r)) d') args s 0 0 A) 4 D cA ad 0 A 0 [(2, 25), (0, p1)] [] d
  refine g_sub (lo2 := [(2, 25), (0, p1), (9, 0), (9, 0)]) (lsb_v (lsb_v (lsb_n (lsb_n lsb_e)))) ?_
  unfold L_Pa_takeAtom at h
  refine g_aload_n C 0 rfl (by decide +kernel) ?_
  obtain ⟨r18_, d17_, hr19_, h⟩ := bd_some h
  refine g_callV C mw_Pa_kind [] 25 cl4 rfl (ok_Pa_kind  d  hr19_) cd_A25 (by decide) (nA (by decide)) (ix := 53) lk_787 lk_789 lkp_12 ⟨rfl, rfl, Nat.le_trans (Nat.le_of_ble_eq_true rfl) (Nat.le_max_left _ _), Nat.le_trans (Nat.le_of_ble_eq_true rfl) (Nat.le_max_left _ _)⟩ rfl (rest := []) rfl (Nat.le_of_ble_eq_true rfl) ⟨Nat.zero_le _, Nat.zero_le _⟩ (by decide +kernel) (fun _ hc20_ => ?_)
  replace hc20_ : c32 r18_ := hc20_
  refine g_st (st2 := [(0, r18_)]) rfl ?_
  refine s_istore_n C 2 (lo' := [(2, 25), (0, p1), (0, r18_), (9, 0)]) (by decide) (s1k (s1n (by decide) s1z)) (by decide +kernel) ?_
  refine g_iload_n C 2 rfl (by decide +kernel) ?_
  refine g_iconst C 2 (cK rfl) (by decide +kernel) ?_
  refine g_icmp_eq C (off := 8) (tgt := 15) hc20_ (cK rfl) (by decide +kernel) (by decide) (fun hc21_ => ?_) (fun hc21_ => ?_)
  · replace h := ite_t hc21_ h
    refine g_sub (lo2 := [(2, 25), (9, 0), (0, r18_), (9, 0)]) (lsb_v (lsb_c (lsb_v (lsb_c lsb_e)))) ?_
    exact ok_Pa_takeAtom_b15 C hlk hr rec rmr hrm hrec r18_ d17_ hc20_ h
  · replace h := ite_f hc21_ h
    refine g_iload_n C 2 rfl (by decide +kernel) ?_
    refine g_iconst C 4 (cK rfl) (by decide +kernel) ?_
    refine g_icmp_ne C (off := 41) (tgt := 53) hc20_ (cK rfl) (by decide +kernel) (by decide) (fun hc22_ => ?_) (fun hc22_ => ?_)
    · replace h := ite_t hc22_ h
      refine g_sub (lo2 := [(2, 25), (9, 0), (0, r18_), (9, 0)]) (lsb_v (lsb_c (lsb_v (lsb_c lsb_e)))) ?_
      exact ok_Pa_takeAtom_b15 C hlk hr rec rmr hrm hrec r18_ d17_ hc20_ h
    · replace h := ite_f hc22_ h
      refine g_iload_n C 2 rfl (by decide +kernel) ?_
      refine g_bipush C 40 (by decide) (by decide +kernel) ?_
      refine g_icmp_eq C (off := 9) (tgt := 65) hc20_ (cK rfl) (by decide +kernel) (by decide) (fun hc23_ => ?_) (fun hc23_ => ?_)
      · replace h := ite_t hc23_ h
        refine g_iload_n C 1 rfl (by decide +kernel) ?_
        refine g_bipush C 6 (by decide) (by decide +kernel) ?_
        refine g_icmp_lt C (off := 9) (tgt := 77) hp1 (cK rfl) (by decide +kernel) (by decide) (fun hc24_ => ?_) (fun hc24_ => ?_)
        · replace h := ite_t hc24_ h
          refine g_aload_n C 0 rfl (by decide +kernel) ?_
          obtain ⟨r26_, d25_, hr27_, h⟩ := bd_some h
          refine g_callV C mw_Pa_next [] 25 cl4 rfl (ok_Pa_next  d17_  hr27_) cd_A25 (by decide) (nA (by decide)) (ix := 98) lk_807 lk_809 lkp_16 ⟨rfl, rfl, Nat.le_trans (Nat.le_of_ble_eq_true rfl) (Nat.le_max_left _ _), Nat.le_trans (Nat.le_of_ble_eq_true rfl) (Nat.le_max_left _ _)⟩ rfl (rest := []) rfl (Nat.le_of_ble_eq_true rfl) ⟨Nat.zero_le _, Nat.zero_le _⟩ (by decide +kernel) (fun _ hc28_ => ?_)
          refine g_st (st2 := []) rfl ?_
          refine g_aload_n C 0 rfl (by decide +kernel) ?_
          refine g_iload_n C 1 rfl (by decide +kernel) ?_
          refine g_iconst C 1 (cK rfl) (by decide +kernel) ?_
          refine g_iadd C (by decide +kernel) ?_
          obtain ⟨r30_, d29_, hr31_, h⟩ := bd_some h
          refine g_callV C mw_Pa_takeSum [(0, (w32 (p1 + 1)))] 25 cl4 rfl (hrec (w32 (p1 + 1)) d25_ _ _ (w32_c _) hr31_) cd_A25 (by decide) (nA (by decide)) (ix := 142) lk_827 lk_829 lkp_20 ⟨hrm.1, hrm.2, Nat.le_max_right _ _, Nat.le_max_right _ _⟩ rfl (rest := []) rfl (Nat.le_of_ble_eq_true rfl) ⟨Nat.zero_le _, Nat.zero_le _⟩ (by decide +kernel) (fun _ hc32_ => ?_)
          replace hc32_ : cb r30_ := hc32_
          refine g_st (st2 := [(0, r30_)]) rfl ?_
          refine g_if_ne C (off := 5) (tgt := 93) (c32_cb hc32_) (by decide +kernel) (by decide) (fun hc33_ => ?_) (fun hc33_ => ?_)
          · replace h := ite_t hc33_ h
            refine g_iconst C 0 (cK rfl) (by decide +kernel) ?_
            obtain ⟨rfl, rfl⟩ := ret_inj h
            exact g_zret C (Or.inl rfl) hlk hr (by decide +kernel)
          · replace h := ite_f hc33_ h
            refine g_aload_n C 0 rfl (by decide +kernel) ?_
            obtain ⟨r35_, d34_, hr36_, h⟩ := bd_some h
            refine g_callV C mw_Pa_kind [] 25 cl4 rfl (ok_Pa_kind  d29_  hr36_) cd_A25 (by decide) (nA (by decide)) (ix := 53) lk_787 lk_789 lkp_12 ⟨rfl, rfl, Nat.le_trans (Nat.le_of_ble_eq_true rfl) (Nat.le_max_left _ _), Nat.le_trans (Nat.le_of_ble_eq_true rfl) (Nat.le_max_left _ _)⟩ rfl (rest := []) rfl (Nat.le_of_ble_eq_true rfl) ⟨Nat.zero_le _, Nat.zero_le _⟩ (by decide +kernel) (fun _ hc37_ => ?_)
            replace hc37_ : c32 r35_ := hc37_
            refine g_st (st2 := [(0, r35_)]) rfl ?_
            refine g_bipush C 41 (by decide) (by decide +kernel) ?_
            refine g_icmp_eq C (off := 9) (tgt := 108) hc37_ (cK rfl) (by decide +kernel) (by decide) (fun hc38_ => ?_) (fun hc38_ => ?_)
            · replace h := ite_t hc38_ h
              refine g_aload_n C 0 rfl (by decide +kernel) ?_
              obtain ⟨r40_, d39_, hr41_, h⟩ := bd_some h
              refine g_callV C mw_Pa_next [] 25 cl4 rfl (ok_Pa_next  d34_  hr41_) cd_A25 (by decide) (nA (by decide)) (ix := 98) lk_807 lk_809 lkp_16 ⟨rfl, rfl, Nat.le_trans (Nat.le_of_ble_eq_true rfl) (Nat.le_max_left _ _), Nat.le_trans (Nat.le_of_ble_eq_true rfl) (Nat.le_max_left _ _)⟩ rfl (rest := []) rfl (Nat.le_of_ble_eq_true rfl) ⟨Nat.zero_le _, Nat.zero_le _⟩ (by decide +kernel) (fun _ hc42_ => ?_)
              refine g_st (st2 := []) rfl ?_
              refine g_iconst C 1 (cK rfl) (by decide +kernel) ?_
              obtain ⟨rfl, rfl⟩ := ret_inj h
              exact g_zret C (Or.inr rfl) hlk hr (by decide +kernel)
            · replace h := ite_f hc38_ h
              refine g_aload_n C 0 rfl (by decide +kernel) ?_
              refine g_iconst C 2 (cK rfl) (by decide +kernel) ?_
              obtain ⟨r44_, d43_, hr45_, h⟩ := bd_some h
              refine g_callV C mw_Pa_refuse [(0, 2)] 25 cl4 rfl (ok_Pa_refuse 2 d34_ (cK rfl) hr45_) cd_A25 (by decide) (nA (by decide)) (ix := 95) lk_799 lk_801 lkp_15 ⟨rfl, rfl, Nat.le_trans (Nat.le_of_ble_eq_true rfl) (Nat.le_max_left _ _), Nat.le_trans (Nat.le_of_ble_eq_true rfl) (Nat.le_max_left _ _)⟩ rfl (rest := []) rfl (Nat.le_of_ble_eq_true rfl) ⟨Nat.zero_le _, Nat.zero_le _⟩ (by decide +kernel) (fun _ hc46_ => ?_)
              replace hc46_ : cb r44_ := hc46_
              refine g_st (st2 := [(0, r44_)]) rfl ?_
              obtain ⟨rfl, rfl⟩ := ret_inj h
              exact g_zret C hc46_ hlk hr (by decide +kernel)
        · replace h := ite_f hc24_ h
          refine g_aload_n C 0 rfl (by decide +kernel) ?_
          refine g_iconst C 5 (cK rfl) (by decide +kernel) ?_
          obtain ⟨r48_, d47_, hr49_, h⟩ := bd_some h
          refine g_callV C mw_Pa_refuse [(0, 5)] 25 cl4 rfl (ok_Pa_refuse 5 d17_ (cK rfl) hr49_) cd_A25 (by decide) (nA (by decide)) (ix := 95) lk_799 lk_801 lkp_15 ⟨rfl, rfl, Nat.le_trans (Nat.le_of_ble_eq_true rfl) (Nat.le_max_left _ _), Nat.le_trans (Nat.le_of_ble_eq_true rfl) (Nat.le_max_left _ _)⟩ rfl (rest := []) rfl (Nat.le_of_ble_eq_true rfl) ⟨Nat.zero_le _, Nat.zero_le _⟩ (by decide +kernel) (fun _ hc50_ => ?_)
          replace hc50_ : cb r48_ := hc50_
          refine g_st (st2 := [(0, r48_)]) rfl ?_
          obtain ⟨rfl, rfl⟩ := ret_inj h
          exact g_zret C hc50_ hlk hr (by decide +kernel)
      · replace h := ite_f hc23_ h
        refine g_aload_n C 0 rfl (by decide +kernel) ?_
        refine g_iconst C 2 (cK rfl) (by decide +kernel) ?_
        obtain ⟨r52_, d51_, hr53_, h⟩ := bd_some h
        refine g_callV C mw_Pa_refuse [(0, 2)] 25 cl4 rfl (ok_Pa_refuse 2 d17_ (cK rfl) hr53_) cd_A25 (by decide) (nA (by decide)) (ix := 95) lk_799 lk_801 lkp_15 ⟨rfl, rfl, Nat.le_trans (Nat.le_of_ble_eq_true rfl) (Nat.le_max_left _ _), Nat.le_trans (Nat.le_of_ble_eq_true rfl) (Nat.le_max_left _ _)⟩ rfl (rest := []) rfl (Nat.le_of_ble_eq_true rfl) ⟨Nat.zero_le _, Nat.zero_le _⟩ (by decide +kernel) (fun _ hc54_ => ?_)
        replace hc54_ : cb r52_ := hc54_
        refine g_st (st2 := [(0, r52_)]) rfl ?_
        obtain ⟨rfl, rfl⟩ := ret_inj h
        exact g_zret C hc54_ hlk hr (by decide +kernel)
def rm_Pa_takeSum (rmr : Room) : Room := { frames := max 1 ((rm_Pa_takeAtom rmr).frames + 1), cells := 0, slots := 0, locals := max 21 (8 + (4 + 11) + (rm_Pa_takeAtom rmr).locals) }
def L_Pa_takeSum_b89 (rec : Int → Dt → Option (Int × Dt)) (x1 x2 x3 x4 : Int) (d : Dt) : Option ((Int × Int × Int × Int × Dt) ⊕ ((Dt) ⊕ (Dt) ⊕ (Dt))) :=
  bd (L_Pa_next d) (fun r2_ d1_ => some (Sum.inl (x1, x2, x3, (w32 (x4 + 1)), d1_)))
def L_Pa_takeSum_b70 (rec : Int → Dt → Option (Int × Dt)) (x1 x2 x4 : Int) (d : Dt) : Option ((Int × Int × Int × Int × Dt) ⊕ ((Dt) ⊕ (Dt) ⊕ (Dt))) :=
  bd (L_Pa_kind d) (fun r6_ d5_ => if r6_ = 43 then L_Pa_takeSum_b89 rec x1 x2 r6_ x4 d5_ else if r6_ = 45 then L_Pa_takeSum_b89 rec x1 x2 r6_ x4 d5_ else some (Sum.inr (Sum.inr (Sum.inr (d5_)))))
def L_Pa_takeSum_b52 (rec : Int → Dt → Option (Int × Dt)) (x1 x3 x4 s0 : Int) (d : Dt) : Option ((Int × Int × Int × Int × Dt) ⊕ ((Dt) ⊕ (Dt) ⊕ (Dt))) :=
  if s0 = 0 then if x3 = (-1) then L_Pa_takeSum_b70 rec x1 s0 x4 d else ck (stt d (d 25 6)) (bd (L_St_addCode (d 25 6) x3 d) (fun r14_ d13_ => L_Pa_takeSum_b70 rec x1 s0 x4 d13_)) else L_Pa_takeSum_b89 rec x1 s0 x3 x4 d
def L_Pa_takeSum_b38 (rec : Int → Dt → Option (Int × Dt)) (x1 x3 x4 : Int) (d : Dt) : Option ((Int × Int × Int × Int × Dt) ⊕ ((Dt) ⊕ (Dt) ⊕ (Dt))) :=
  bd (L_Pa_kind d) (fun r19_ d18_ => if r19_ = 42 then L_Pa_takeSum_b52 rec x1 x3 x4 1 d18_ else L_Pa_takeSum_b52 rec x1 x3 x4 0 d18_)
def L_Pa_takeSum_y7 (rec : Int → Dt → Option (Int × Dt)) (x1 x2 x3 x4 : Int) (d : Dt) : Option ((Int × Int × Int × Int × Dt) ⊕ ((Dt) ⊕ (Dt) ⊕ (Dt))) :=
  if x4 < 600 then bd (L_Pa_takeAtom rec x1 d) (fun r25_ d24_ => if r25_ = 0 then some (Sum.inr (Sum.inr (Sum.inl (d24_)))) else if x2 = 0 then L_Pa_takeSum_b38 rec x1 x3 x4 d24_ else ck (stt d24_ (d24_ 25 6)) (bd (L_St_addCode (d24_ 25 6) 42 d24_) (fun r31_ d30_ => L_Pa_takeSum_b38 rec x1 x3 x4 d30_))) else some (Sum.inr (Sum.inl (d)))
def L_Pa_takeSum_l7 (rec : Int → Dt → Option (Int × Dt)) (x1 x2 x3 x4 : Int) (d : Dt) : Option ((Dt) ⊕ (Dt) ⊕ (Dt)) := lpF (fun q : Int × Int × Int × Int × Dt => L_Pa_takeSum_y7 rec q.1 q.2.1 q.2.2.1 q.2.2.2.1 q.2.2.2.2) FU (x1, x2, x3, x4, d)
def L_Pa_takeSum (rec : Int → Dt → Option (Int × Dt)) (p1 : Int) (d : Dt) : Option (Int × Dt) :=
  lb (L_Pa_takeSum_l7 rec p1 0 (-1) 0 d) (fun q47_ => sm q47_ (fun q48_ => u0 q48_ (fun d37_ => bd (L_Pa_refuse 2 d37_) (fun r40_ d39_ => some (r40_, d39_)))) (fun q49_ => sm q49_ (fun q50_ => u0 q50_ (fun d43_ => some (0, d43_))) (fun q51_ => u0 q51_ (fun d45_ => some (1, d45_)))))
set_option maxHeartbeats 4000000 in
theorem ok_Pa_takeSum_b89 {p : Program} {l : Launch} {e : Env} {s : State} {m : MethodId} {args : Array Value} {below : List Frame} {meth : Method} {c : Code} {D : va_G} {cA : Nat → ClassId} {ad : Nat → Nat} {A : Nat → Prop} (C : Cx p s m args c prog_6_method_26_code 5 "PollBooks$Parser" D cA ad 0 A) {Q : State → Prop} (rec : Int → Dt → Option (Int × Dt)) (rmr : Room) (hrm : rmr.cells = 0 ∧ rmr.slots = 0) (hrec : ∀ (q : Int) (e : Dt) (r : Int) (e' : Dt), c32 q → rec q e = some (r, e') → MC l y_Pa_takeSum prog_6_method_26_code 5 (some .boolean) rmr 0 [(2, 25), (0, q)] e (some (0, r)) e') {o : (Int × Int × Int × Int × Dt) ⊕ ((Dt) ⊕ (Dt) ⊕ (Dt))} (x1 x2 x3 x4 : Int) (d : Dt) (hx1 : c32 x1) (hx2 : cb x2) (hx3 : c32 x3) (hx4 : c32 x4) (h : L_Pa_takeSum_b89 rec x1 x2 x3 x4 d = some o) (kb : ∀ (y0 y1 y2 y3 : Int) (e' : Dt), o = .inl (y0, y1, y2, y3, e') → c32 y0 → cb y1 → c32 y2 → c32 y3 → G p l e (rm_Pa_takeSum rmr) s m args below meth c 0 0 Q 5 D cA ad 0 A 7 [(2, 25), (0, y0), (0, y1), (0, y2), (0, y3)] [] e') (k0 : ∀ (e' : Dt), o = .inr (Sum.inl (e')) → G p l e (rm_Pa_takeSum rmr) s m args below meth c 0 0 Q 5 D cA ad 0 A 99 [(2, 25), (9, 0), (9, 0), (9, 0), (9, 0)] [] e') (k1 : ∀ (e' : Dt), o = .inr (Sum.inr (Sum.inl (e'))) → G p l e (rm_Pa_takeSum rmr) s m args below meth c 0 0 Q 5 D cA ad 0 A 23 [(9, 0), (9, 0), (9, 0), (9, 0), (9, 0)] [] e') (k2 : ∀ (e' : Dt), o = .inr (Sum.inr (Sum.inr (e'))) → G p l e (rm_Pa_takeSum rmr) s m args below meth c 0 0 Q 5 D cA ad 0 A 87 [(9, 0), (9, 0), (9, 0), (9, 0), (9, 0)] [] e') : G p l e (rm_Pa_takeSum rmr) s m args below meth c 0 0 Q 5 D cA ad 0 A 89 [(2, 25), (0, x1), (0, x2), (0, x3), (0, x4)] [] d := by
  unfold L_Pa_takeSum_b89 at h
  refine g_aload_n C 0 rfl (by decide +kernel) ?_
  obtain ⟨r2_, d1_, hr3_, h⟩ := bd_some h
  refine g_callV C mw_Pa_next [] 25 cl4 rfl (ok_Pa_next  d  hr3_) cd_A25 (by decide) (nA (by decide)) (ix := 98) lk_807 lk_809 lkp_16 ⟨rfl, rfl, Nat.le_trans (Nat.le_of_ble_eq_true rfl) (Nat.le_max_left _ _), Nat.le_trans (Nat.le_of_ble_eq_true rfl) (Nat.le_max_left _ _)⟩ rfl (rest := []) rfl (Nat.le_of_ble_eq_true rfl) ⟨Nat.zero_le _, Nat.zero_le _⟩ (by decide +kernel) (fun _ hc4_ => ?_)
  refine g_st (st2 := []) rfl ?_
  refine s_iinc C 4 1 (lo' := [(2, 25), (0, x1), (0, x2), (0, x3), (0, (w32 (x4 + 1)))]) rfl (by decide) (s1k (s1k (s1k (s1n (by decide) s1z)))) (by decide +kernel) ?_
  refine g_goto C 7 (off := (-89)) (by decide +kernel) (by decide) ?_
  refine g_sub (lo2 := [(2, 25), (0, x1), (0, x2), (0, x3), (0, (w32 (x4 + 1)))]) (lsb_v (lsb_v (lsb_v (lsb_v (lsb_v lsb_e))))) ?_
  obtain rfl := Option.some.inj h
  exact kb x1 x2 x3 (w32 (x4 + 1)) d1_ rfl hx1 hx2 hx3 (w32_c _)
set_option maxHeartbeats 4000000 in
theorem ok_Pa_takeSum_b70 {p : Program} {l : Launch} {e : Env} {s : State} {m : MethodId} {args : Array Value} {below : List Frame} {meth : Method} {c : Code} {D : va_G} {cA : Nat → ClassId} {ad : Nat → Nat} {A : Nat → Prop} (C : Cx p s m args c prog_6_method_26_code 5 "PollBooks$Parser" D cA ad 0 A) {Q : State → Prop} (rec : Int → Dt → Option (Int × Dt)) (rmr : Room) (hrm : rmr.cells = 0 ∧ rmr.slots = 0) (hrec : ∀ (q : Int) (e : Dt) (r : Int) (e' : Dt), c32 q → rec q e = some (r, e') → MC l y_Pa_takeSum prog_6_method_26_code 5 (some .boolean) rmr 0 [(2, 25), (0, q)] e (some (0, r)) e') {o : (Int × Int × Int × Int × Dt) ⊕ ((Dt) ⊕ (Dt) ⊕ (Dt))} (x1 x2 x4 : Int) (d : Dt) (hx1 : c32 x1) (hx2 : cb x2) (hx4 : c32 x4) (h : L_Pa_takeSum_b70 rec x1 x2 x4 d = some o) (kb : ∀ (y0 y1 y2 y3 : Int) (e' : Dt), o = .inl (y0, y1, y2, y3, e') → c32 y0 → cb y1 → c32 y2 → c32 y3 → G p l e (rm_Pa_takeSum rmr) s m args below meth c 0 0 Q 5 D cA ad 0 A 7 [(2, 25), (0, y0), (0, y1), (0, y2), (0, y3)] [] e') (k0 : ∀ (e' : Dt), o = .inr (Sum.inl (e')) → G p l e (rm_Pa_takeSum rmr) s m args below meth c 0 0 Q 5 D cA ad 0 A 99 [(2, 25), (9, 0), (9, 0), (9, 0), (9, 0)] [] e') (k1 : ∀ (e' : Dt), o = .inr (Sum.inr (Sum.inl (e'))) → G p l e (rm_Pa_takeSum rmr) s m args below meth c 0 0 Q 5 D cA ad 0 A 23 [(9, 0), (9, 0), (9, 0), (9, 0), (9, 0)] [] e') (k2 : ∀ (e' : Dt), o = .inr (Sum.inr (Sum.inr (e'))) → G p l e (rm_Pa_takeSum rmr) s m args below meth c 0 0 Q 5 D cA ad 0 A 87 [(9, 0), (9, 0), (9, 0), (9, 0), (9, 0)] [] e') : G p l e (rm_Pa_takeSum rmr) s m args below meth c 0 0 Q 5 D cA ad 0 A 70 [(2, 25), (0, x1), (0, x2), (9, 0), (0, x4)] [] d := by
  unfold L_Pa_takeSum_b70 at h
  refine g_aload_n C 0 rfl (by decide +kernel) ?_
  obtain ⟨r6_, d5_, hr7_, h⟩ := bd_some h
  refine g_callV C mw_Pa_kind [] 25 cl4 rfl (ok_Pa_kind  d  hr7_) cd_A25 (by decide) (nA (by decide)) (ix := 53) lk_787 lk_789 lkp_12 ⟨rfl, rfl, Nat.le_trans (Nat.le_of_ble_eq_true rfl) (Nat.le_max_left _ _), Nat.le_trans (Nat.le_of_ble_eq_true rfl) (Nat.le_max_left _ _)⟩ rfl (rest := []) rfl (Nat.le_of_ble_eq_true rfl) ⟨Nat.zero_le _, Nat.zero_le _⟩ (by decide +kernel) (fun _ hc8_ => ?_)
  replace hc8_ : c32 r6_ := hc8_
  refine g_st (st2 := [(0, r6_)]) rfl ?_
  refine s_istore_n C 3 (lo' := [(2, 25), (0, x1), (0, x2), (0, r6_), (0, x4)]) (by decide) (s1k (s1k (s1n (by decide) s1z))) (by decide +kernel) ?_
  refine g_iload_n C 3 rfl (by decide +kernel) ?_
  refine g_bipush C 43 (by decide) (by decide +kernel) ?_
  refine g_icmp_eq C (off := 11) (tgt := 89) hc8_ (cK rfl) (by decide +kernel) (by decide) (fun hc9_ => ?_) (fun hc9_ => ?_)
  · replace h := ite_t hc9_ h
    refine g_sub (lo2 := [(2, 25), (0, x1), (0, x2), (0, r6_), (0, x4)]) (lsb_v (lsb_v (lsb_v (lsb_v (lsb_v lsb_e))))) ?_
    exact ok_Pa_takeSum_b89 C rec rmr hrm hrec x1 x2 r6_ x4 d5_ hx1 hx2 hc8_ hx4 h kb k0 k1 k2
  · replace h := ite_f hc9_ h
    refine g_iload_n C 3 rfl (by decide +kernel) ?_
    refine g_bipush C 45 (by decide) (by decide +kernel) ?_
    refine g_icmp_eq C (off := 5) (tgt := 89) hc8_ (cK rfl) (by decide +kernel) (by decide) (fun hc10_ => ?_) (fun hc10_ => ?_)
    · replace h := ite_t hc10_ h
      refine g_sub (lo2 := [(2, 25), (0, x1), (0, x2), (0, r6_), (0, x4)]) (lsb_v (lsb_v (lsb_v (lsb_v (lsb_v lsb_e))))) ?_
      exact ok_Pa_takeSum_b89 C rec rmr hrm hrec x1 x2 r6_ x4 d5_ hx1 hx2 hc8_ hx4 h kb k0 k1 k2
    · replace h := ite_f hc10_ h
      refine g_sub (lo2 := [(9, 0), (9, 0), (9, 0), (9, 0), (9, 0)]) (lsb_c (lsb_c (lsb_c (lsb_c (lsb_c lsb_e))))) ?_
      obtain rfl := Option.some.inj h
      exact k2 d5_ rfl 
set_option maxHeartbeats 4000000 in
theorem ok_Pa_takeSum_b52 {p : Program} {l : Launch} {e : Env} {s : State} {m : MethodId} {args : Array Value} {below : List Frame} {meth : Method} {c : Code} {D : va_G} {cA : Nat → ClassId} {ad : Nat → Nat} {A : Nat → Prop} (C : Cx p s m args c prog_6_method_26_code 5 "PollBooks$Parser" D cA ad 0 A) {Q : State → Prop} (rec : Int → Dt → Option (Int × Dt)) (rmr : Room) (hrm : rmr.cells = 0 ∧ rmr.slots = 0) (hrec : ∀ (q : Int) (e : Dt) (r : Int) (e' : Dt), c32 q → rec q e = some (r, e') → MC l y_Pa_takeSum prog_6_method_26_code 5 (some .boolean) rmr 0 [(2, 25), (0, q)] e (some (0, r)) e') {o : (Int × Int × Int × Int × Dt) ⊕ ((Dt) ⊕ (Dt) ⊕ (Dt))} (x1 x3 x4 s0 : Int) (d : Dt) (hx1 : c32 x1) (hx3 : c32 x3) (hx4 : c32 x4) (hs0 : cb s0) (h : L_Pa_takeSum_b52 rec x1 x3 x4 s0 d = some o) (kb : ∀ (y0 y1 y2 y3 : Int) (e' : Dt), o = .inl (y0, y1, y2, y3, e') → c32 y0 → cb y1 → c32 y2 → c32 y3 → G p l e (rm_Pa_takeSum rmr) s m args below meth c 0 0 Q 5 D cA ad 0 A 7 [(2, 25), (0, y0), (0, y1), (0, y2), (0, y3)] [] e') (k0 : ∀ (e' : Dt), o = .inr (Sum.inl (e')) → G p l e (rm_Pa_takeSum rmr) s m args below meth c 0 0 Q 5 D cA ad 0 A 99 [(2, 25), (9, 0), (9, 0), (9, 0), (9, 0)] [] e') (k1 : ∀ (e' : Dt), o = .inr (Sum.inr (Sum.inl (e'))) → G p l e (rm_Pa_takeSum rmr) s m args below meth c 0 0 Q 5 D cA ad 0 A 23 [(9, 0), (9, 0), (9, 0), (9, 0), (9, 0)] [] e') (k2 : ∀ (e' : Dt), o = .inr (Sum.inr (Sum.inr (e'))) → G p l e (rm_Pa_takeSum rmr) s m args below meth c 0 0 Q 5 D cA ad 0 A 87 [(9, 0), (9, 0), (9, 0), (9, 0), (9, 0)] [] e') : G p l e (rm_Pa_takeSum rmr) s m args below meth c 0 0 Q 5 D cA ad 0 A 52 [(2, 25), (0, x1), (9, 0), (0, x3), (0, x4)] [(0, s0)] d := by
  unfold L_Pa_takeSum_b52 at h
  refine s_istore_n C 2 (lo' := [(2, 25), (0, x1), (0, s0), (0, x3), (0, x4)]) (by decide) (s1k (s1n (by decide) s1z)) (by decide +kernel) ?_
  refine g_iload_n C 2 rfl (by decide +kernel) ?_
  refine g_if_ne C (off := 35) (tgt := 89) (c32_cb hs0) (by decide +kernel) (by decide) (fun hc11_ => ?_) (fun hc11_ => ?_)
  · replace h := ite_t hc11_ h
    refine g_iload_n C 3 rfl (by decide +kernel) ?_
    refine g_iconst C (-1) (cK rfl) (by decide +kernel) ?_
    refine g_icmp_eq C (off := 11) (tgt := 70) hx3 (cK rfl) (by decide +kernel) (by decide) (fun hc12_ => ?_) (fun hc12_ => ?_)
    · replace h := ite_t hc12_ h
      refine g_sub (lo2 := [(2, 25), (0, x1), (0, s0), (9, 0), (0, x4)]) (lsb_v (lsb_v (lsb_v (lsb_c (lsb_v lsb_e))))) ?_
      exact ok_Pa_takeSum_b70 C rec rmr hrm hrec x1 s0 x4 d hx1 hs0 hx4 h kb k0 k1 k2
    · replace h := ite_f hc12_ h
      refine g_aload_n C 0 rfl (by decide +kernel) ?_
      refine g_getM C cl4 25 6 rfl cd_A25 ⟨by decide, rfl, by decide⟩ rfl (nA (by decide)) (ix := 29) lk_201 (by decide +kernel) ?_
      refine g_iload_n C 3 rfl (by decide +kernel) ?_
      obtain ⟨hs16_, h⟩ := ck_some h
      obtain ⟨r14_, d13_, hr15_, h⟩ := bd_some h
      refine g_callV C mw_St_addCode [(0, x3)] ((d 25 6).toNat + 0) cl9 (stt_ko0 hs16_) (ok_St_addCode (d 25 6) x3 d hx3 hr15_) (stt_cd hs16_ 0 (by decide)) (by decide) (stt_n hs16_ 0 (by decide)) (ix := 139) lk_835 lk_836 lk_837 ⟨rfl, rfl, Nat.le_trans (Nat.le_of_ble_eq_true rfl) (Nat.le_max_left _ _), Nat.le_trans (Nat.le_of_ble_eq_true rfl) (Nat.le_max_left _ _)⟩ rfl (rest := []) rfl (Nat.le_of_ble_eq_true rfl) ⟨Nat.zero_le _, Nat.zero_le _⟩ (by decide +kernel) (fun _ hc17_ => ?_)
      refine g_st (st2 := []) rfl ?_
      refine g_sub (lo2 := [(2, 25), (0, x1), (0, s0), (9, 0), (0, x4)]) (lsb_v (lsb_v (lsb_v (lsb_c (lsb_v lsb_e))))) ?_
      exact ok_Pa_takeSum_b70 C rec rmr hrm hrec x1 s0 x4 d13_ hx1 hs0 hx4 h kb k0 k1 k2
  · replace h := ite_f hc11_ h
    refine g_sub (lo2 := [(2, 25), (0, x1), (0, s0), (0, x3), (0, x4)]) (lsb_v (lsb_v (lsb_v (lsb_v (lsb_v lsb_e))))) ?_
    exact ok_Pa_takeSum_b89 C rec rmr hrm hrec x1 s0 x3 x4 d hx1 hs0 hx3 hx4 h kb k0 k1 k2
set_option maxHeartbeats 4000000 in
theorem ok_Pa_takeSum_b38 {p : Program} {l : Launch} {e : Env} {s : State} {m : MethodId} {args : Array Value} {below : List Frame} {meth : Method} {c : Code} {D : va_G} {cA : Nat → ClassId} {ad : Nat → Nat} {A : Nat → Prop} (C : Cx p s m args c prog_6_method_26_code 5 "PollBooks$Parser" D cA ad 0 A) {Q : State → Prop} (rec : Int → Dt → Option (Int × Dt)) (rmr : Room) (hrm : rmr.cells = 0 ∧ rmr.slots = 0) (hrec : ∀ (q : Int) (e : Dt) (r : Int) (e' : Dt), c32 q → rec q e = some (r, e') → MC l y_Pa_takeSum prog_6_method_26_code 5 (some .boolean) rmr 0 [(2, 25), (0, q)] e (some (0, r)) e') {o : (Int × Int × Int × Int × Dt) ⊕ ((Dt) ⊕ (Dt) ⊕ (Dt))} (x1 x3 x4 : Int) (d : Dt) (hx1 : c32 x1) (hx3 : c32 x3) (hx4 : c32 x4) (h : L_Pa_takeSum_b38 rec x1 x3 x4 d = some o) (kb : ∀ (y0 y1 y2 y3 : Int) (e' : Dt), o = .inl (y0, y1, y2, y3, e') → c32 y0 → cb y1 → c32 y2 → c32 y3 → G p l e (rm_Pa_takeSum rmr) s m args below meth c 0 0 Q 5 D cA ad 0 A 7 [(2, 25), (0, y0), (0, y1), (0, y2), (0, y3)] [] e') (k0 : ∀ (e' : Dt), o = .inr (Sum.inl (e')) → G p l e (rm_Pa_takeSum rmr) s m args below meth c 0 0 Q 5 D cA ad 0 A 99 [(2, 25), (9, 0), (9, 0), (9, 0), (9, 0)] [] e') (k1 : ∀ (e' : Dt), o = .inr (Sum.inr (Sum.inl (e'))) → G p l e (rm_Pa_takeSum rmr) s m args below meth c 0 0 Q 5 D cA ad 0 A 23 [(9, 0), (9, 0), (9, 0), (9, 0), (9, 0)] [] e') (k2 : ∀ (e' : Dt), o = .inr (Sum.inr (Sum.inr (e'))) → G p l e (rm_Pa_takeSum rmr) s m args below meth c 0 0 Q 5 D cA ad 0 A 87 [(9, 0), (9, 0), (9, 0), (9, 0), (9, 0)] [] e') : G p l e (rm_Pa_takeSum rmr) s m args below meth c 0 0 Q 5 D cA ad 0 A 38 [(2, 25), (0, x1), (9, 0), (0, x3), (0, x4)] [] d := by
  unfold L_Pa_takeSum_b38 at h
  refine g_aload_n C 0 rfl (by decide +kernel) ?_
  obtain ⟨r19_, d18_, hr20_, h⟩ := bd_some h
  refine g_callV C mw_Pa_kind [] 25 cl4 rfl (ok_Pa_kind  d  hr20_) cd_A25 (by decide) (nA (by decide)) (ix := 53) lk_787 lk_789 lkp_12 ⟨rfl, rfl, Nat.le_trans (Nat.le_of_ble_eq_true rfl) (Nat.le_max_left _ _), Nat.le_trans (Nat.le_of_ble_eq_true rfl) (Nat.le_max_left _ _)⟩ rfl (rest := []) rfl (Nat.le_of_ble_eq_true rfl) ⟨Nat.zero_le _, Nat.zero_le _⟩ (by decide +kernel) (fun _ hc21_ => ?_)
  replace hc21_ : c32 r19_ := hc21_
  refine g_st (st2 := [(0, r19_)]) rfl ?_
  refine g_bipush C 42 (by decide) (by decide +kernel) ?_
  refine g_icmp_ne C (off := 7) (tgt := 51) hc21_ (cK rfl) (by decide +kernel) (by decide) (fun hc22_ => ?_) (fun hc22_ => ?_)
  · replace h := ite_t hc22_ h
    refine g_iconst C 1 (cK rfl) (by decide +kernel) ?_
    refine g_goto C 52 (off := 4) (by decide +kernel) (by decide) ?_
    refine g_sub (lo2 := [(2, 25), (0, x1), (9, 0), (0, x3), (0, x4)]) (lsb_v (lsb_v (lsb_c (lsb_v (lsb_v lsb_e))))) ?_
    exact ok_Pa_takeSum_b52 C rec rmr hrm hrec x1 x3 x4 1 d18_ hx1 hx3 hx4 (Or.inr rfl) h kb k0 k1 k2
  · replace h := ite_f hc22_ h
    refine g_iconst C 0 (cK rfl) (by decide +kernel) ?_
    refine g_sub (lo2 := [(2, 25), (0, x1), (9, 0), (0, x3), (0, x4)]) (lsb_v (lsb_v (lsb_c (lsb_v (lsb_v lsb_e))))) ?_
    exact ok_Pa_takeSum_b52 C rec rmr hrm hrec x1 x3 x4 0 d18_ hx1 hx3 hx4 (Or.inl rfl) h kb k0 k1 k2
set_option maxHeartbeats 4000000 in
theorem ok_Pa_takeSum_y7 {p : Program} {l : Launch} {e : Env} {s : State} {m : MethodId} {args : Array Value} {below : List Frame} {meth : Method} {c : Code} {D : va_G} {cA : Nat → ClassId} {ad : Nat → Nat} {A : Nat → Prop} (C : Cx p s m args c prog_6_method_26_code 5 "PollBooks$Parser" D cA ad 0 A) {Q : State → Prop} (rec : Int → Dt → Option (Int × Dt)) (rmr : Room) (hrm : rmr.cells = 0 ∧ rmr.slots = 0) (hrec : ∀ (q : Int) (e : Dt) (r : Int) (e' : Dt), c32 q → rec q e = some (r, e') → MC l y_Pa_takeSum prog_6_method_26_code 5 (some .boolean) rmr 0 [(2, 25), (0, q)] e (some (0, r)) e') {o : (Int × Int × Int × Int × Dt) ⊕ ((Dt) ⊕ (Dt) ⊕ (Dt))} (x1 x2 x3 x4 : Int) (d : Dt) (hx1 : c32 x1) (hx2 : cb x2) (hx3 : c32 x3) (hx4 : c32 x4) (h : L_Pa_takeSum_y7 rec x1 x2 x3 x4 d = some o) (kb : ∀ (y0 y1 y2 y3 : Int) (e' : Dt), o = .inl (y0, y1, y2, y3, e') → c32 y0 → cb y1 → c32 y2 → c32 y3 → G p l e (rm_Pa_takeSum rmr) s m args below meth c 0 0 Q 5 D cA ad 0 A 7 [(2, 25), (0, y0), (0, y1), (0, y2), (0, y3)] [] e') (k0 : ∀ (e' : Dt), o = .inr (Sum.inl (e')) → G p l e (rm_Pa_takeSum rmr) s m args below meth c 0 0 Q 5 D cA ad 0 A 99 [(2, 25), (9, 0), (9, 0), (9, 0), (9, 0)] [] e') (k1 : ∀ (e' : Dt), o = .inr (Sum.inr (Sum.inl (e'))) → G p l e (rm_Pa_takeSum rmr) s m args below meth c 0 0 Q 5 D cA ad 0 A 23 [(9, 0), (9, 0), (9, 0), (9, 0), (9, 0)] [] e') (k2 : ∀ (e' : Dt), o = .inr (Sum.inr (Sum.inr (e'))) → G p l e (rm_Pa_takeSum rmr) s m args below meth c 0 0 Q 5 D cA ad 0 A 87 [(9, 0), (9, 0), (9, 0), (9, 0), (9, 0)] [] e') : G p l e (rm_Pa_takeSum rmr) s m args below meth c 0 0 Q 5 D cA ad 0 A 7 [(2, 25), (0, x1), (0, x2), (0, x3), (0, x4)] [] d := by
  unfold L_Pa_takeSum_y7 at h
  refine g_iload C 4 rfl (by decide +kernel) ?_
  refine g_sipush C 600 (by decide) (by decide +kernel) ?_
  refine g_icmp_ge C (off := 87) (tgt := 99) hx4 (cK rfl) (by decide +kernel) (by decide) (fun hc23_ => ?_) (fun hc23_ => ?_)
  · replace h := ite_t hc23_ h
    refine g_aload_n C 0 rfl (by decide +kernel) ?_
    refine g_iload_n C 1 rfl (by decide +kernel) ?_
    obtain ⟨r25_, d24_, hr26_, h⟩ := bd_some h
    refine g_callV C mw_Pa_takeAtom [(0, x1)] 25 cl4 rfl (ok_Pa_takeAtom rec rmr hrm hrec x1 d hx1 hr26_) cd_A25 (by decide) (nA (by decide)) (ix := 145) lk_831 lk_833 lkp_21 ⟨rfl, rfl, Nat.le_max_right _ _, Nat.le_max_right _ _⟩ rfl (rest := []) rfl (Nat.le_of_ble_eq_true rfl) ⟨Nat.zero_le _, Nat.zero_le _⟩ (by decide +kernel) (fun _ hc27_ => ?_)
    replace hc27_ : cb r25_ := hc27_
    refine g_st (st2 := [(0, r25_)]) rfl ?_
    refine g_if_ne C (off := 5) (tgt := 25) (c32_cb hc27_) (by decide +kernel) (by decide) (fun hc28_ => ?_) (fun hc28_ => ?_)
    · replace h := ite_t hc28_ h
      refine g_sub (lo2 := [(9, 0), (9, 0), (9, 0), (9, 0), (9, 0)]) (lsb_c (lsb_c (lsb_c (lsb_c (lsb_c lsb_e))))) ?_
      obtain rfl := Option.some.inj h
      exact k1 d24_ rfl 
    · replace h := ite_f hc28_ h
      refine g_iload_n C 2 rfl (by decide +kernel) ?_
      refine g_if_eq C (off := 12) (tgt := 38) (c32_cb hx2) (by decide +kernel) (by decide) (fun hc29_ => ?_) (fun hc29_ => ?_)
      · replace h := ite_t hc29_ h
        refine g_sub (lo2 := [(2, 25), (0, x1), (9, 0), (0, x3), (0, x4)]) (lsb_v (lsb_v (lsb_c (lsb_v (lsb_v lsb_e))))) ?_
        exact ok_Pa_takeSum_b38 C rec rmr hrm hrec x1 x3 x4 d24_ hx1 hx3 hx4 h kb k0 k1 k2
      · replace h := ite_f hc29_ h
        refine g_aload_n C 0 rfl (by decide +kernel) ?_
        refine g_getM C cl4 25 6 rfl cd_A25 ⟨by decide, rfl, by decide⟩ rfl (nA (by decide)) (ix := 29) lk_201 (by decide +kernel) ?_
        refine g_bipush C 42 (by decide) (by decide +kernel) ?_
        obtain ⟨hs33_, h⟩ := ck_some h
        obtain ⟨r31_, d30_, hr32_, h⟩ := bd_some h
        refine g_callV C mw_St_addCode [(0, 42)] ((d24_ 25 6).toNat + 0) cl9 (stt_ko0 hs33_) (ok_St_addCode (d24_ 25 6) 42 d24_ (cK rfl) hr32_) (stt_cd hs33_ 0 (by decide)) (by decide) (stt_n hs33_ 0 (by decide)) (ix := 139) lk_835 lk_836 lk_837 ⟨rfl, rfl, Nat.le_trans (Nat.le_of_ble_eq_true rfl) (Nat.le_max_left _ _), Nat.le_trans (Nat.le_of_ble_eq_true rfl) (Nat.le_max_left _ _)⟩ rfl (rest := []) rfl (Nat.le_of_ble_eq_true rfl) ⟨Nat.zero_le _, Nat.zero_le _⟩ (by decide +kernel) (fun _ hc34_ => ?_)
        refine g_st (st2 := []) rfl ?_
        refine g_sub (lo2 := [(2, 25), (0, x1), (9, 0), (0, x3), (0, x4)]) (lsb_v (lsb_v (lsb_c (lsb_v (lsb_v lsb_e))))) ?_
        exact ok_Pa_takeSum_b38 C rec rmr hrm hrec x1 x3 x4 d30_ hx1 hx3 hx4 h kb k0 k1 k2
  · replace h := ite_f hc23_ h
    refine g_sub (lo2 := [(2, 25), (9, 0), (9, 0), (9, 0), (9, 0)]) (lsb_v (lsb_c (lsb_c (lsb_c (lsb_c lsb_e))))) ?_
    obtain rfl := Option.some.inj h
    exact k0 d rfl 
set_option maxHeartbeats 4000000 in
theorem ok_Pa_takeSum_n7 {p : Program} {l : Launch} {e : Env} {s : State} {m : MethodId} {args : Array Value} {below : List Frame} {meth : Method} {c : Code} {D : va_G} {cA : Nat → ClassId} {ad : Nat → Nat} {A : Nat → Prop} (C : Cx p s m args c prog_6_method_26_code 5 "PollBooks$Parser" D cA ad 0 A) {Q : State → Prop} (rec : Int → Dt → Option (Int × Dt)) (rmr : Room) (hrm : rmr.cells = 0 ∧ rmr.slots = 0) (hrec : ∀ (q : Int) (e : Dt) (r : Int) (e' : Dt), c32 q → rec q e = some (r, e') → MC l y_Pa_takeSum prog_6_method_26_code 5 (some .boolean) rmr 0 [(2, 25), (0, q)] e (some (0, r)) e') {x : (Dt) ⊕ (Dt) ⊕ (Dt)} : ∀ (n : Nat) (x1 x2 x3 x4 : Int) (d : Dt), c32 x1 → cb x2 → c32 x3 → c32 x4 → lpF (fun q : Int × Int × Int × Int × Dt => L_Pa_takeSum_y7 rec q.1 q.2.1 q.2.2.1 q.2.2.2.1 q.2.2.2.2) n (x1, x2, x3, x4, d) = some x → (∀ (e' : Dt), x = (Sum.inl (e')) → G p l e (rm_Pa_takeSum rmr) s m args below meth c 0 0 Q 5 D cA ad 0 A 99 [(2, 25), (9, 0), (9, 0), (9, 0), (9, 0)] [] e') → (∀ (e' : Dt), x = (Sum.inr (Sum.inl (e'))) → G p l e (rm_Pa_takeSum rmr) s m args below meth c 0 0 Q 5 D cA ad 0 A 23 [(9, 0), (9, 0), (9, 0), (9, 0), (9, 0)] [] e') → (∀ (e' : Dt), x = (Sum.inr (Sum.inr (e'))) → G p l e (rm_Pa_takeSum rmr) s m args below meth c 0 0 Q 5 D cA ad 0 A 87 [(9, 0), (9, 0), (9, 0), (9, 0), (9, 0)] [] e') → G p l e (rm_Pa_takeSum rmr) s m args below meth c 0 0 Q 5 D cA ad 0 A 7 [(2, 25), (0, x1), (0, x2), (0, x3), (0, x4)] [] d := by
  intro n
  induction n with
  | zero => intro x1 x2 x3 x4 d g0 g1 g2 g3 h k0 k1 k2; cases h
  | succ n ih =>
    intro x1 x2 x3 x4 d g0 g1 g2 g3 h k0 k1 k2
    rcases lpF_some h with h | ⟨⟨v0_, v1_, v2_, v3_, e0_⟩, h1, h⟩
    · exact ok_Pa_takeSum_y7 C rec rmr hrm hrec x1 x2 x3 x4 d g0 g1 g2 g3 h (fun z0_ z1_ z2_ z3_ e1_ eq w0_ w1_ w2_ w3_ => by cases eq) (fun e1_ eq => k0 _ (by cases eq; rfl) ) (fun e1_ eq => k1 _ (by cases eq; rfl) ) (fun e1_ eq => k2 _ (by cases eq; rfl) )
    · exact ok_Pa_takeSum_y7 C rec rmr hrm hrec x1 x2 x3 x4 d g0 g1 g2 g3 h1 (fun z0_ z1_ z2_ z3_ e1_ eq w0_ w1_ w2_ w3_ => by cases eq; exact ih _ _ _ _ _ w0_ w1_ w2_ w3_ h k0 k1 k2) (fun e1_ eq => by cases eq) (fun e1_ eq => by cases eq) (fun e1_ eq => by cases eq)
set_option maxHeartbeats 4000000 in
theorem ok_Pa_takeSum_l7 {p : Program} {l : Launch} {e : Env} {s : State} {m : MethodId} {args : Array Value} {below : List Frame} {meth : Method} {c : Code} {D : va_G} {cA : Nat → ClassId} {ad : Nat → Nat} {A : Nat → Prop} (C : Cx p s m args c prog_6_method_26_code 5 "PollBooks$Parser" D cA ad 0 A) {Q : State → Prop} (rec : Int → Dt → Option (Int × Dt)) (rmr : Room) (hrm : rmr.cells = 0 ∧ rmr.slots = 0) (hrec : ∀ (q : Int) (e : Dt) (r : Int) (e' : Dt), c32 q → rec q e = some (r, e') → MC l y_Pa_takeSum prog_6_method_26_code 5 (some .boolean) rmr 0 [(2, 25), (0, q)] e (some (0, r)) e') {x : (Dt) ⊕ (Dt) ⊕ (Dt)} (x1 x2 x3 x4 : Int) (d : Dt) (hx1 : c32 x1) (hx2 : cb x2) (hx3 : c32 x3) (hx4 : c32 x4) (h : L_Pa_takeSum_l7 rec x1 x2 x3 x4 d = some x) (k0 : ∀ (e' : Dt), x = (Sum.inl (e')) → G p l e (rm_Pa_takeSum rmr) s m args below meth c 0 0 Q 5 D cA ad 0 A 99 [(2, 25), (9, 0), (9, 0), (9, 0), (9, 0)] [] e') (k1 : ∀ (e' : Dt), x = (Sum.inr (Sum.inl (e'))) → G p l e (rm_Pa_takeSum rmr) s m args below meth c 0 0 Q 5 D cA ad 0 A 23 [(9, 0), (9, 0), (9, 0), (9, 0), (9, 0)] [] e') (k2 : ∀ (e' : Dt), x = (Sum.inr (Sum.inr (e'))) → G p l e (rm_Pa_takeSum rmr) s m args below meth c 0 0 Q 5 D cA ad 0 A 87 [(9, 0), (9, 0), (9, 0), (9, 0), (9, 0)] [] e') : G p l e (rm_Pa_takeSum rmr) s m args below meth c 0 0 Q 5 D cA ad 0 A 7 [(2, 25), (0, x1), (0, x2), (0, x3), (0, x4)] [] d :=
  ok_Pa_takeSum_n7 C rec rmr hrm hrec FU x1 x2 x3 x4 d hx1 hx2 hx3 hx4 h k0 k1 k2
set_option maxHeartbeats 4000000 in
theorem ok_Pa_takeSum {l : Launch} (rec : Int → Dt → Option (Int × Dt)) (rmr : Room) (hrm : rmr.cells = 0 ∧ rmr.slots = 0) (hrec : ∀ (q : Int) (e : Dt) (r : Int) (e' : Dt), c32 q → rec q e = some (r, e') → MC l y_Pa_takeSum prog_6_method_26_code 5 (some .boolean) rmr 0 [(2, 25), (0, q)] e (some (0, r)) e') {r : Int} {d' : Dt} (p1 : Int) (d : Dt) (hp1 : c32 p1) (h : L_Pa_takeSum rec p1 d = some (r, d')) : MC l y_Pa_takeSum prog_6_method_26_code 5 (some .boolean) (rm_Pa_takeSum rmr) 0 [(2, 25), (0, p1)] d (some (0, r)) d' := by
  refine MC.of (by decide) (Nat.le_of_ble_eq_true rfl) ?_
  intro p e s m args below meth c D cA ad A C hlk hr
  replace C : Cx p s m args c prog_6_method_26_code 5 "PollBooks$Parser" D cA ad 0 A := C
  show G p l e (rm_Pa_takeSum rmr) s m args below meth c 0 0 (MQ below (fun _ => QC D cA ad 0 A (some .boolean) (some (0, r)) d') args s 0 0 A) 5 D cA ad 0 A 0 [(2, 25), (0, p1)] [] d
  refine g_sub (lo2 := [(2, 25), (0, p1), (9, 0), (9, 0), (9, 0)]) (lsb_v (lsb_v (lsb_n (lsb_n (lsb_n lsb_e))))) ?_
  unfold L_Pa_takeSum at h
  refine g_iconst C 0 (cK rfl) (by decide +kernel) ?_
  refine s_istore_n C 2 (lo' := [(2, 25), (0, p1), (0, 0), (9, 0), (9, 0)]) (by decide) (s1k (s1n (by decide) s1z)) (by decide +kernel) ?_
  refine g_iconst C (-1) (cK rfl) (by decide +kernel) ?_
  refine s_istore_n C 3 (lo' := [(2, 25), (0, p1), (0, 0), (0, (-1)), (9, 0)]) (by decide) (s1k (s1k (s1n (by decide) s1z))) (by decide +kernel) ?_
  refine g_iconst C 0 (cK rfl) (by decide +kernel) ?_
  refine s_istore C 4 (lo' := [(2, 25), (0, p1), (0, 0), (0, (-1)), (0, 0)]) (by decide) (s1k (s1k (s1k (s1n (by decide) s1z)))) (by decide +kernel) ?_
  refine g_sub (lo2 := [(2, 25), (0, p1), (0, 0), (0, (-1)), (0, 0)]) (lsb_v (lsb_v (lsb_v (lsb_v (lsb_v lsb_e))))) ?_
  obtain ⟨x35_, hx36_, h⟩ := lb_some h
  refine ok_Pa_takeSum_l7 C rec rmr hrm hrec p1 0 (-1) 0 d hp1 (Or.inl rfl) (cK rfl) (c32_cb (Or.inl rfl)) hx36_ (fun d37_ eq38_ => ?_) (fun d43_ eq44_ => ?_) (fun d45_ eq46_ => ?_)
  · subst eq38_
    replace h := sml_e h
    replace h := u0_e h
    refine g_aload_n C 0 rfl (by decide +kernel) ?_
    refine g_iconst C 2 (cK rfl) (by decide +kernel) ?_
    obtain ⟨r40_, d39_, hr41_, h⟩ := bd_some h
    refine g_callV C mw_Pa_refuse [(0, 2)] 25 cl4 rfl (ok_Pa_refuse 2 d37_ (cK rfl) hr41_) cd_A25 (by decide) (nA (by decide)) (ix := 95) lk_799 lk_801 lkp_15 ⟨rfl, rfl, Nat.le_trans (Nat.le_of_ble_eq_true rfl) (Nat.le_max_left _ _), Nat.le_trans (Nat.le_of_ble_eq_true rfl) (Nat.le_max_left _ _)⟩ rfl (rest := []) rfl (Nat.le_of_ble_eq_true rfl) ⟨Nat.zero_le _, Nat.zero_le _⟩ (by decide +kernel) (fun _ hc42_ => ?_)
    replace hc42_ : cb r40_ := hc42_
    refine g_st (st2 := [(0, r40_)]) rfl ?_
    obtain ⟨rfl, rfl⟩ := ret_inj h
    exact g_zret C hc42_ hlk hr (by decide +kernel)
  · subst eq44_
    replace h := smr_e h
    replace h := sml_e h
    replace h := u0_e h
    refine g_iconst C 0 (cK rfl) (by decide +kernel) ?_
    obtain ⟨rfl, rfl⟩ := ret_inj h
    exact g_zret C (Or.inl rfl) hlk hr (by decide +kernel)
  · subst eq46_
    replace h := smr_e h
    replace h := smr_e h
    replace h := u0_e h
    refine g_iconst C 1 (cK rfl) (by decide +kernel) ?_
    obtain ⟨rfl, rfl⟩ := ret_inj h
    exact g_zret C (Or.inr rfl) hlk hr (by decide +kernel)
/-! takeSum, by depth -/
def TS : Nat → Int → Dt → Option (Int × Dt)
  | 0 => fun _ _ => none
  | n + 1 => L_Pa_takeSum (TS n)
def rmTS : Nat → Room
  | 0 => { frames := 0, cells := 0, slots := 0, locals := 0 }
  | n + 1 => rm_Pa_takeSum (rmTS n)
theorem rmTS_0 : ∀ n, (rmTS n).cells = 0 ∧ (rmTS n).slots = 0
  | 0 => ⟨rfl, rfl⟩
  | _ + 1 => ⟨rfl, rfl⟩
theorem ok_TS {l : Launch} : ∀ (n : Nat) (q : Int) (e : Dt) (r : Int) (e' : Dt), c32 q → TS n q e = some (r, e') → MC l y_Pa_takeSum prog_6_method_26_code 5 (some .boolean) (rmTS n) 0 [(2, 25), (0, q)] e (some (0, r)) e'
  | 0, _, _, _, _, _, h => by cases h
  | n + 1, q, e, r, e', hq, h => ok_Pa_takeSum (TS n) (rmTS n) (rmTS_0 n) (ok_TS n) q e hq h
def L_Pa_TS (p1 : Int) (d : Dt) : Option (Int × Dt) := TS 8 p1 d
def rm_Pa_TS : Room := { frames := 16, cells := 0, slots := 0, locals := 376 }
theorem ok_Pa_TS {l : Launch} {r : Int} {e' : Dt} (q : Int) (e : Dt) (hq : c32 q) (h : L_Pa_TS q e = some (r, e')) : MC l y_Pa_takeSum prog_6_method_26_code 5 (some .boolean) rm_Pa_TS 0 [(2, 25), (0, q)] e (some (0, r)) e' := by
  have h1 := ok_TS (l := l) 8 q e r e' hq h
  have e1 : rmTS 8 = rm_Pa_TS := by decide +kernel
  rw [e1] at h1
  exact h1
/-! PollBooks$Parser.takeTest()Z -/
def y_Pa_takeTest : MethodName := ⟨"PollBooks$Parser", "takeTest", "()Z"⟩
def rm_Pa_takeTest : Room := { frames := 17, cells := 0, slots := 0, locals := 400 }
theorem mw_Pa_takeTest : MW y_Pa_takeTest prog_6_method_25_code 6 (some .boolean) 0 := ⟨lk_826, lk_6, by decide +kernel⟩
def L_Pa_takeTest_b184 (x1 x2 x3 : Int) (d : Dt) : Option ((Int × Int × Int × Dt) ⊕ ((Dt) ⊕ (Dt) ⊕ (Dt) ⊕ (Dt) ⊕ (Dt))) :=
  bd (L_Pa_next d) (fun r2_ d1_ => some (Sum.inl (x1, x2, (w32 (x3 + 1)), d1_)))
def L_Pa_takeTest_b177 (x1 x3 s0 : Int) (d : Dt) : Option ((Int × Int × Int × Dt) ⊕ ((Dt) ⊕ (Dt) ⊕ (Dt) ⊕ (Dt) ⊕ (Dt))) :=
  if s0 = 0 then some (Sum.inr (Sum.inr (Sum.inr (Sum.inr (Sum.inr (d)))))) else L_Pa_takeTest_b184 x1 s0 x3 d
def L_Pa_takeTest_b163 (x1 x3 : Int) (d : Dt) : Option ((Int × Int × Int × Dt) ⊕ ((Dt) ⊕ (Dt) ⊕ (Dt) ⊕ (Dt) ⊕ (Dt))) :=
  bd (L_Pa_kind d) (fun r7_ d6_ => if r7_ = 24 then L_Pa_takeTest_b177 x1 x3 1 d6_ else L_Pa_takeTest_b177 x1 x3 0 d6_)
def L_Pa_takeTest_b145 (x2 x3 s0 : Int) (d : Dt) : Option ((Int × Int × Int × Dt) ⊕ ((Dt) ⊕ (Dt) ⊕ (Dt) ⊕ (Dt) ⊕ (Dt))) :=
  if s0 = 0 then if x2 = 0 then L_Pa_takeTest_b163 s0 x3 d else ck (stt d (d 25 6)) (bd (L_St_addCode (d 25 6) 24 d) (fun r14_ d13_ => L_Pa_takeTest_b163 s0 x3 d13_)) else L_Pa_takeTest_b184 s0 x2 x3 d
def L_Pa_takeTest_b131 (x2 x3 : Int) (d : Dt) : Option ((Int × Int × Int × Dt) ⊕ ((Dt) ⊕ (Dt) ⊕ (Dt) ⊕ (Dt) ⊕ (Dt))) :=
  bd (L_Pa_kind d) (fun r19_ d18_ => if r19_ = 25 then L_Pa_takeTest_b145 x2 x3 1 d18_ else L_Pa_takeTest_b145 x2 x3 0 d18_)
def L_Pa_takeTest_b118 (x1 x2 x3 : Int) (d : Dt) : Option ((Int × Int × Int × Dt) ⊕ ((Dt) ⊕ (Dt) ⊕ (Dt) ⊕ (Dt) ⊕ (Dt))) :=
  if x1 = 0 then L_Pa_takeTest_b131 x2 x3 d else ck (stt d (d 25 6)) (bd (L_St_addCode (d 25 6) 25 d) (fun r25_ d24_ => L_Pa_takeTest_b131 x2 x3 d24_))
def L_Pa_takeTest_b81 (x1 x2 x3 x4 x5 : Int) (d : Dt) : Option ((Int × Int × Int × Dt) ⊕ ((Dt) ⊕ (Dt) ⊕ (Dt) ⊕ (Dt) ⊕ (Dt))) :=
  bd (L_Pa_next d) (fun r30_ d29_ => bd (L_Pa_TS 0 d29_) (fun r34_ d33_ => if r34_ = 0 then some (Sum.inr (Sum.inr (Sum.inr (Sum.inr (Sum.inl (d33_)))))) else ck (stt d33_ (d33_ 25 6)) (bd (L_St_addCode (d33_ 25 6) x5 d33_) (fun r39_ d38_ => if x4 = 0 then L_Pa_takeTest_b118 x1 x2 x3 d38_ else ck (stt d38_ (d38_ 25 6)) (bd (L_St_addCode (d38_ 25 6) 26 d38_) (fun r45_ d44_ => L_Pa_takeTest_b118 x1 x2 x3 d44_))))))
def L_Pa_takeTest_b38 (x1 x2 x3 x4 : Int) (d : Dt) : Option ((Int × Int × Int × Dt) ⊕ ((Dt) ⊕ (Dt) ⊕ (Dt) ⊕ (Dt) ⊕ (Dt))) :=
  bd (L_Pa_TS 0 d) (fun r50_ d49_ => if r50_ = 0 then some (Sum.inr (Sum.inr (Sum.inl (d49_)))) else bd (L_Pa_kind d49_) (fun r55_ d54_ => if r55_ = 60 then L_Pa_takeTest_b81 x1 x2 x3 x4 r55_ d54_ else if r55_ = 62 then L_Pa_takeTest_b81 x1 x2 x3 x4 r55_ d54_ else if r55_ = 61 then L_Pa_takeTest_b81 x1 x2 x3 x4 r55_ d54_ else some (Sum.inr (Sum.inr (Sum.inr (Sum.inl (d54_)))))))
def L_Pa_takeTest_b27 (x1 x2 x3 s0 : Int) (d : Dt) : Option ((Int × Int × Int × Dt) ⊕ ((Dt) ⊕ (Dt) ⊕ (Dt) ⊕ (Dt) ⊕ (Dt))) :=
  if s0 = 0 then L_Pa_takeTest_b38 x1 x2 x3 s0 d else bd (L_Pa_next d) (fun r63_ d62_ => L_Pa_takeTest_b38 x1 x2 x3 s0 d62_)
def L_Pa_takeTest_y6 (x1 x2 x3 : Int) (d : Dt) : Option ((Int × Int × Int × Dt) ⊕ ((Dt) ⊕ (Dt) ⊕ (Dt) ⊕ (Dt) ⊕ (Dt))) :=
  if x3 < 600 then bd (L_Pa_kind d) (fun r68_ d67_ => if r68_ = 26 then L_Pa_takeTest_b27 x1 x2 x3 1 d67_ else L_Pa_takeTest_b27 x1 x2 x3 0 d67_) else some (Sum.inr (Sum.inl (d)))
def L_Pa_takeTest_l6 (x1 x2 x3 : Int) (d : Dt) : Option ((Dt) ⊕ (Dt) ⊕ (Dt) ⊕ (Dt) ⊕ (Dt)) := lpF (fun q : Int × Int × Int × Dt => L_Pa_takeTest_y6 q.1 q.2.1 q.2.2.1 q.2.2.2) FU (x1, x2, x3, d)
def L_Pa_takeTest (d : Dt) : Option (Int × Dt) :=
  lb (L_Pa_takeTest_l6 0 0 0 d) (fun q92_ => sm q92_ (fun q93_ => u0 q93_ (fun d74_ => bd (L_Pa_refuse 2 d74_) (fun r77_ d76_ => some (r77_, d76_)))) (fun q94_ => sm q94_ (fun q95_ => u0 q95_ (fun d80_ => some (0, d80_))) (fun q96_ => sm q96_ (fun q97_ => u0 q97_ (fun d82_ => bd (L_Pa_refuse 2 d82_) (fun r85_ d84_ => some (r85_, d84_)))) (fun q98_ => sm q98_ (fun q99_ => u0 q99_ (fun d88_ => some (0, d88_))) (fun q100_ => u0 q100_ (fun d90_ => some (1, d90_)))))))
set_option maxHeartbeats 4000000 in
theorem ok_Pa_takeTest_b184 {p : Program} {l : Launch} {e : Env} {s : State} {m : MethodId} {args : Array Value} {below : List Frame} {meth : Method} {c : Code} {D : va_G} {cA : Nat → ClassId} {ad : Nat → Nat} {A : Nat → Prop} (C : Cx p s m args c prog_6_method_25_code 6 "PollBooks$Parser" D cA ad 0 A) {Q : State → Prop} {o : (Int × Int × Int × Dt) ⊕ ((Dt) ⊕ (Dt) ⊕ (Dt) ⊕ (Dt) ⊕ (Dt))} (x1 x2 x3 : Int) (d : Dt) (hx1 : cb x1) (hx2 : cb x2) (hx3 : c32 x3) (h : L_Pa_takeTest_b184 x1 x2 x3 d = some o) (kb : ∀ (y0 y1 y2 : Int) (e' : Dt), o = .inl (y0, y1, y2, e') → cb y0 → cb y1 → c32 y2 → G p l e rm_Pa_takeTest s m args below meth c 0 0 Q 6 D cA ad 0 A 6 [(2, 25), (0, y0), (0, y1), (0, y2), (9, 0), (9, 0)] [] e') (k0 : ∀ (e' : Dt), o = .inr (Sum.inl (e')) → G p l e rm_Pa_takeTest s m args below meth c 0 0 Q 6 D cA ad 0 A 194 [(2, 25), (9, 0), (9, 0), (9, 0), (9, 0), (9, 0)] [] e') (k1 : ∀ (e' : Dt), o = .inr (Sum.inr (Sum.inl (e'))) → G p l e rm_Pa_takeTest s m args below meth c 0 0 Q 6 D cA ad 0 A 46 [(9, 0), (9, 0), (9, 0), (9, 0), (9, 0), (9, 0)] [] e') (k2 : ∀ (e' : Dt), o = .inr (Sum.inr (Sum.inr (Sum.inl (e')))) → G p l e rm_Pa_takeTest s m args below meth c 0 0 Q 6 D cA ad 0 A 75 [(2, 25), (9, 0), (9, 0), (9, 0), (9, 0), (9, 0)] [] e') (k3 : ∀ (e' : Dt), o = .inr (Sum.inr (Sum.inr (Sum.inr (Sum.inl (e'))))) → G p l e rm_Pa_takeTest s m args below meth c 0 0 Q 6 D cA ad 0 A 93 [(9, 0), (9, 0), (9, 0), (9, 0), (9, 0), (9, 0)] [] e') (k4 : ∀ (e' : Dt), o = .inr (Sum.inr (Sum.inr (Sum.inr (Sum.inr (e'))))) → G p l e rm_Pa_takeTest s m args below meth c 0 0 Q 6 D cA ad 0 A 182 [(9, 0), (9, 0), (9, 0), (9, 0), (9, 0), (9, 0)] [] e') : G p l e rm_Pa_takeTest s m args below meth c 0 0 Q 6 D cA ad 0 A 184 [(2, 25), (0, x1), (0, x2), (0, x3), (9, 0), (9, 0)] [] d := by
  unfold L_Pa_takeTest_b184 at h
  refine g_aload_n C 0 rfl (by decide +kernel) ?_
  obtain ⟨r2_, d1_, hr3_, h⟩ := bd_some h
  refine g_callV C mw_Pa_next [] 25 cl4 rfl (ok_Pa_next  d  hr3_) cd_A25 (by decide) (nA (by decide)) (ix := 98) lk_807 lk_809 lkp_16 ⟨rfl, rfl, Nat.le_of_ble_eq_true rfl, Nat.le_of_ble_eq_true rfl⟩ rfl (rest := []) rfl (Nat.le_of_ble_eq_true rfl) ⟨Nat.zero_le _, Nat.zero_le _⟩ (by decide +kernel) (fun _ hc4_ => ?_)
  refine g_st (st2 := []) rfl ?_
  refine s_iinc C 3 1 (lo' := [(2, 25), (0, x1), (0, x2), (0, (w32 (x3 + 1))), (9, 0), (9, 0)]) rfl (by decide) (s1k (s1k (s1n (by decide) s1z))) (by decide +kernel) ?_
  refine g_goto C 6 (off := (-185)) (by decide +kernel) (by decide) ?_
  refine g_sub (lo2 := [(2, 25), (0, x1), (0, x2), (0, (w32 (x3 + 1))), (9, 0), (9, 0)]) (lsb_v (lsb_v (lsb_v (lsb_v (lsb_c (lsb_c lsb_e)))))) ?_
  obtain rfl := Option.some.inj h
  exact kb x1 x2 (w32 (x3 + 1)) d1_ rfl hx1 hx2 (w32_c _)
set_option maxHeartbeats 4000000 in
theorem ok_Pa_takeTest_b177 {p : Program} {l : Launch} {e : Env} {s : State} {m : MethodId} {args : Array Value} {below : List Frame} {meth : Method} {c : Code} {D : va_G} {cA : Nat → ClassId} {ad : Nat → Nat} {A : Nat → Prop} (C : Cx p s m args c prog_6_method_25_code 6 "PollBooks$Parser" D cA ad 0 A) {Q : State → Prop} {o : (Int × Int × Int × Dt) ⊕ ((Dt) ⊕ (Dt) ⊕ (Dt) ⊕ (Dt) ⊕ (Dt))} (x1 x3 s0 : Int) (d : Dt) (hx1 : cb x1) (hx3 : c32 x3) (hs0 : cb s0) (h : L_Pa_takeTest_b177 x1 x3 s0 d = some o) (kb : ∀ (y0 y1 y2 : Int) (e' : Dt), o = .inl (y0, y1, y2, e') → cb y0 → cb y1 → c32 y2 → G p l e rm_Pa_takeTest s m args below meth c 0 0 Q 6 D cA ad 0 A 6 [(2, 25), (0, y0), (0, y1), (0, y2), (9, 0), (9, 0)] [] e') (k0 : ∀ (e' : Dt), o = .inr (Sum.inl (e')) → G p l e rm_Pa_takeTest s m args below meth c 0 0 Q 6 D cA ad 0 A 194 [(2, 25), (9, 0), (9, 0), (9, 0), (9, 0), (9, 0)] [] e') (k1 : ∀ (e' : Dt), o = .inr (Sum.inr (Sum.inl (e'))) → G p l e rm_Pa_takeTest s m args below meth c 0 0 Q 6 D cA ad 0 A 46 [(9, 0), (9, 0), (9, 0), (9, 0), (9, 0), (9, 0)] [] e') (k2 : ∀ (e' : Dt), o = .inr (Sum.inr (Sum.inr (Sum.inl (e')))) → G p l e rm_Pa_takeTest s m args below meth c 0 0 Q 6 D cA ad 0 A 75 [(2, 25), (9, 0), (9, 0), (9, 0), (9, 0), (9, 0)] [] e') (k3 : ∀ (e' : Dt), o = .inr (Sum.inr (Sum.inr (Sum.inr (Sum.inl (e'))))) → G p l e rm_Pa_takeTest s m args below meth c 0 0 Q 6 D cA ad 0 A 93 [(9, 0), (9, 0), (9, 0), (9, 0), (9, 0), (9, 0)] [] e') (k4 : ∀ (e' : Dt), o = .inr (Sum.inr (Sum.inr (Sum.inr (Sum.inr (e'))))) → G p l e rm_Pa_takeTest s m args below meth c 0 0 Q 6 D cA ad 0 A 182 [(9, 0), (9, 0), (9, 0), (9, 0), (9, 0), (9, 0)] [] e') : G p l e rm_Pa_takeTest s m args below meth c 0 0 Q 6 D cA ad 0 A 177 [(2, 25), (0, x1), (9, 0), (0, x3), (9, 0), (9, 0)] [(0, s0)] d := by
  unfold L_Pa_takeTest_b177 at h
  refine s_istore_n C 2 (lo' := [(2, 25), (0, x1), (0, s0), (0, x3), (9, 0), (9, 0)]) (by decide) (s1k (s1n (by decide) s1z)) (by decide +kernel) ?_
  refine g_iload_n C 2 rfl (by decide +kernel) ?_
  refine g_if_ne C (off := 5) (tgt := 184) (c32_cb hs0) (by decide +kernel) (by decide) (fun hc5_ => ?_) (fun hc5_ => ?_)
  · replace h := ite_t hc5_ h
    refine g_sub (lo2 := [(9, 0), (9, 0), (9, 0), (9, 0), (9, 0), (9, 0)]) (lsb_c (lsb_c (lsb_c (lsb_c (lsb_c (lsb_c lsb_e)))))) ?_
    obtain rfl := Option.some.inj h
    exact k4 d rfl 
  · replace h := ite_f hc5_ h
    refine g_sub (lo2 := [(2, 25), (0, x1), (0, s0), (0, x3), (9, 0), (9, 0)]) (lsb_v (lsb_v (lsb_v (lsb_v (lsb_c (lsb_c lsb_e)))))) ?_
    exact ok_Pa_takeTest_b184 C x1 s0 x3 d hx1 hs0 hx3 h kb k0 k1 k2 k3 k4
set_option maxHeartbeats 4000000 in
theorem ok_Pa_takeTest_b163 {p : Program} {l : Launch} {e : Env} {s : State} {m : MethodId} {args : Array Value} {below : List Frame} {meth : Method} {c : Code} {D : va_G} {cA : Nat → ClassId} {ad : Nat → Nat} {A : Nat → Prop} (C : Cx p s m args c prog_6_method_25_code 6 "PollBooks$Parser" D cA ad 0 A) {Q : State → Prop} {o : (Int × Int × Int × Dt) ⊕ ((Dt) ⊕ (Dt) ⊕ (Dt) ⊕ (Dt) ⊕ (Dt))} (x1 x3 : Int) (d : Dt) (hx1 : cb x1) (hx3 : c32 x3) (h : L_Pa_takeTest_b163 x1 x3 d = some o) (kb : ∀ (y0 y1 y2 : Int) (e' : Dt), o = .inl (y0, y1, y2, e') → cb y0 → cb y1 → c32 y2 → G p l e rm_Pa_takeTest s m args below meth c 0 0 Q 6 D cA ad 0 A 6 [(2, 25), (0, y0), (0, y1), (0, y2), (9, 0), (9, 0)] [] e') (k0 : ∀ (e' : Dt), o = .inr (Sum.inl (e')) → G p l e rm_Pa_takeTest s m args below meth c 0 0 Q 6 D cA ad 0 A 194 [(2, 25), (9, 0), (9, 0), (9, 0), (9, 0), (9, 0)] [] e') (k1 : ∀ (e' : Dt), o = .inr (Sum.inr (Sum.inl (e'))) → G p l e rm_Pa_takeTest s m args below meth c 0 0 Q 6 D cA ad 0 A 46 [(9, 0), (9, 0), (9, 0), (9, 0), (9, 0), (9, 0)] [] e') (k2 : ∀ (e' : Dt), o = .inr (Sum.inr (Sum.inr (Sum.inl (e')))) → G p l e rm_Pa_takeTest s m args below meth c 0 0 Q 6 D cA ad 0 A 75 [(2, 25), (9, 0), (9, 0), (9, 0), (9, 0), (9, 0)] [] e') (k3 : ∀ (e' : Dt), o = .inr (Sum.inr (Sum.inr (Sum.inr (Sum.inl (e'))))) → G p l e rm_Pa_takeTest s m args below meth c 0 0 Q 6 D cA ad 0 A 93 [(9, 0), (9, 0), (9, 0), (9, 0), (9, 0), (9, 0)] [] e') (k4 : ∀ (e' : Dt), o = .inr (Sum.inr (Sum.inr (Sum.inr (Sum.inr (e'))))) → G p l e rm_Pa_takeTest s m args below meth c 0 0 Q 6 D cA ad 0 A 182 [(9, 0), (9, 0), (9, 0), (9, 0), (9, 0), (9, 0)] [] e') : G p l e rm_Pa_takeTest s m args below meth c 0 0 Q 6 D cA ad 0 A 163 [(2, 25), (0, x1), (9, 0), (0, x3), (9, 0), (9, 0)] [] d := by
  unfold L_Pa_takeTest_b163 at h
  refine g_aload_n C 0 rfl (by decide +kernel) ?_
  obtain ⟨r7_, d6_, hr8_, h⟩ := bd_some h
  refine g_callV C mw_Pa_kind [] 25 cl4 rfl (ok_Pa_kind  d  hr8_) cd_A25 (by decide) (nA (by decide)) (ix := 53) lk_787 lk_789 lkp_12 ⟨rfl, rfl, Nat.le_of_ble_eq_true rfl, Nat.le_of_ble_eq_true rfl⟩ rfl (rest := []) rfl (Nat.le_of_ble_eq_true rfl) ⟨Nat.zero_le _, Nat.zero_le _⟩ (by decide +kernel) (fun _ hc9_ => ?_)
  replace hc9_ : c32 r7_ := hc9_
  refine g_st (st2 := [(0, r7_)]) rfl ?_
  refine g_bipush C 24 (by decide) (by decide +kernel) ?_
  refine g_icmp_ne C (off := 7) (tgt := 176) hc9_ (cK rfl) (by decide +kernel) (by decide) (fun hc10_ => ?_) (fun hc10_ => ?_)
  · replace h := ite_t hc10_ h
    refine g_iconst C 1 (cK rfl) (by decide +kernel) ?_
    refine g_goto C 177 (off := 4) (by decide +kernel) (by decide) ?_
    refine g_sub (lo2 := [(2, 25), (0, x1), (9, 0), (0, x3), (9, 0), (9, 0)]) (lsb_v (lsb_v (lsb_c (lsb_v (lsb_c (lsb_c lsb_e)))))) ?_
    exact ok_Pa_takeTest_b177 C x1 x3 1 d6_ hx1 hx3 (Or.inr rfl) h kb k0 k1 k2 k3 k4
  · replace h := ite_f hc10_ h
    refine g_iconst C 0 (cK rfl) (by decide +kernel) ?_
    refine g_sub (lo2 := [(2, 25), (0, x1), (9, 0), (0, x3), (9, 0), (9, 0)]) (lsb_v (lsb_v (lsb_c (lsb_v (lsb_c (lsb_c lsb_e)))))) ?_
    exact ok_Pa_takeTest_b177 C x1 x3 0 d6_ hx1 hx3 (Or.inl rfl) h kb k0 k1 k2 k3 k4
set_option maxHeartbeats 4000000 in
theorem ok_Pa_takeTest_b145 {p : Program} {l : Launch} {e : Env} {s : State} {m : MethodId} {args : Array Value} {below : List Frame} {meth : Method} {c : Code} {D : va_G} {cA : Nat → ClassId} {ad : Nat → Nat} {A : Nat → Prop} (C : Cx p s m args c prog_6_method_25_code 6 "PollBooks$Parser" D cA ad 0 A) {Q : State → Prop} {o : (Int × Int × Int × Dt) ⊕ ((Dt) ⊕ (Dt) ⊕ (Dt) ⊕ (Dt) ⊕ (Dt))} (x2 x3 s0 : Int) (d : Dt) (hx2 : cb x2) (hx3 : c32 x3) (hs0 : cb s0) (h : L_Pa_takeTest_b145 x2 x3 s0 d = some o) (kb : ∀ (y0 y1 y2 : Int) (e' : Dt), o = .inl (y0, y1, y2, e') → cb y0 → cb y1 → c32 y2 → G p l e rm_Pa_takeTest s m args below meth c 0 0 Q 6 D cA ad 0 A 6 [(2, 25), (0, y0), (0, y1), (0, y2), (9, 0), (9, 0)] [] e') (k0 : ∀ (e' : Dt), o = .inr (Sum.inl (e')) → G p l e rm_Pa_takeTest s m args below meth c 0 0 Q 6 D cA ad 0 A 194 [(2, 25), (9, 0), (9, 0), (9, 0), (9, 0), (9, 0)] [] e') (k1 : ∀ (e' : Dt), o = .inr (Sum.inr (Sum.inl (e'))) → G p l e rm_Pa_takeTest s m args below meth c 0 0 Q 6 D cA ad 0 A 46 [(9, 0), (9, 0), (9, 0), (9, 0), (9, 0), (9, 0)] [] e') (k2 : ∀ (e' : Dt), o = .inr (Sum.inr (Sum.inr (Sum.inl (e')))) → G p l e rm_Pa_takeTest s m args below meth c 0 0 Q 6 D cA ad 0 A 75 [(2, 25), (9, 0), (9, 0), (9, 0), (9, 0), (9, 0)] [] e') (k3 : ∀ (e' : Dt), o = .inr (Sum.inr (Sum.inr (Sum.inr (Sum.inl (e'))))) → G p l e rm_Pa_takeTest s m args below meth c 0 0 Q 6 D cA ad 0 A 93 [(9, 0), (9, 0), (9, 0), (9, 0), (9, 0), (9, 0)] [] e') (k4 : ∀ (e' : Dt), o = .inr (Sum.inr (Sum.inr (Sum.inr (Sum.inr (e'))))) → G p l e rm_Pa_takeTest s m args below meth c 0 0 Q 6 D cA ad 0 A 182 [(9, 0), (9, 0), (9, 0), (9, 0), (9, 0), (9, 0)] [] e') : G p l e rm_Pa_takeTest s m args below meth c 0 0 Q 6 D cA ad 0 A 145 [(2, 25), (9, 0), (0, x2), (0, x3), (9, 0), (9, 0)] [(0, s0)] d := by
  unfold L_Pa_takeTest_b145 at h
  refine s_istore_n C 1 (lo' := [(2, 25), (0, s0), (0, x2), (0, x3), (9, 0), (9, 0)]) (by decide) (s1n (by decide) s1z) (by decide +kernel) ?_
  refine g_iload_n C 1 rfl (by decide +kernel) ?_
  refine g_if_ne C (off := 37) (tgt := 184) (c32_cb hs0) (by decide +kernel) (by decide) (fun hc11_ => ?_) (fun hc11_ => ?_)
  · replace h := ite_t hc11_ h
    refine g_iload_n C 2 rfl (by decide +kernel) ?_
    refine g_if_eq C (off := 12) (tgt := 163) (c32_cb hx2) (by decide +kernel) (by decide) (fun hc12_ => ?_) (fun hc12_ => ?_)
    · replace h := ite_t hc12_ h
      refine g_sub (lo2 := [(2, 25), (0, s0), (9, 0), (0, x3), (9, 0), (9, 0)]) (lsb_v (lsb_v (lsb_c (lsb_v (lsb_c (lsb_c lsb_e)))))) ?_
      exact ok_Pa_takeTest_b163 C s0 x3 d hs0 hx3 h kb k0 k1 k2 k3 k4
    · replace h := ite_f hc12_ h
      refine g_aload_n C 0 rfl (by decide +kernel) ?_
      refine g_getM C cl4 25 6 rfl cd_A25 ⟨by decide, rfl, by decide⟩ rfl (nA (by decide)) (ix := 29) lk_201 (by decide +kernel) ?_
      refine g_bipush C 24 (by decide) (by decide +kernel) ?_
      obtain ⟨hs16_, h⟩ := ck_some h
      obtain ⟨r14_, d13_, hr15_, h⟩ := bd_some h
      refine g_callV C mw_St_addCode [(0, 24)] ((d 25 6).toNat + 0) cl9 (stt_ko0 hs16_) (ok_St_addCode (d 25 6) 24 d (cK rfl) hr15_) (stt_cd hs16_ 0 (by decide)) (by decide) (stt_n hs16_ 0 (by decide)) (ix := 139) lk_835 lk_836 lk_837 ⟨rfl, rfl, Nat.le_of_ble_eq_true rfl, Nat.le_of_ble_eq_true rfl⟩ rfl (rest := []) rfl (Nat.le_of_ble_eq_true rfl) ⟨Nat.zero_le _, Nat.zero_le _⟩ (by decide +kernel) (fun _ hc17_ => ?_)
      refine g_st (st2 := []) rfl ?_
      refine g_sub (lo2 := [(2, 25), (0, s0), (9, 0), (0, x3), (9, 0), (9, 0)]) (lsb_v (lsb_v (lsb_c (lsb_v (lsb_c (lsb_c lsb_e)))))) ?_
      exact ok_Pa_takeTest_b163 C s0 x3 d13_ hs0 hx3 h kb k0 k1 k2 k3 k4
  · replace h := ite_f hc11_ h
    refine g_sub (lo2 := [(2, 25), (0, s0), (0, x2), (0, x3), (9, 0), (9, 0)]) (lsb_v (lsb_v (lsb_v (lsb_v (lsb_c (lsb_c lsb_e)))))) ?_
    exact ok_Pa_takeTest_b184 C s0 x2 x3 d hs0 hx2 hx3 h kb k0 k1 k2 k3 k4
set_option maxHeartbeats 4000000 in
theorem ok_Pa_takeTest_b131 {p : Program} {l : Launch} {e : Env} {s : State} {m : MethodId} {args : Array Value} {below : List Frame} {meth : Method} {c : Code} {D : va_G} {cA : Nat → ClassId} {ad : Nat → Nat} {A : Nat → Prop} (C : Cx p s m args c prog_6_method_25_code 6 "PollBooks$Parser" D cA ad 0 A) {Q : State → Prop} {o : (Int × Int × Int × Dt) ⊕ ((Dt) ⊕ (Dt) ⊕ (Dt) ⊕ (Dt) ⊕ (Dt))} (x2 x3 : Int) (d : Dt) (hx2 : cb x2) (hx3 : c32 x3) (h : L_Pa_takeTest_b131 x2 x3 d = some o) (kb : ∀ (y0 y1 y2 : Int) (e' : Dt), o = .inl (y0, y1, y2, e') → cb y0 → cb y1 → c32 y2 → G p l e rm_Pa_takeTest s m args below meth c 0 0 Q 6 D cA ad 0 A 6 [(2, 25), (0, y0), (0, y1), (0, y2), (9, 0), (9, 0)] [] e') (k0 : ∀ (e' : Dt), o = .inr (Sum.inl (e')) → G p l e rm_Pa_takeTest s m args below meth c 0 0 Q 6 D cA ad 0 A 194 [(2, 25), (9, 0), (9, 0), (9, 0), (9, 0), (9, 0)] [] e') (k1 : ∀ (e' : Dt), o = .inr (Sum.inr (Sum.inl (e'))) → G p l e rm_Pa_takeTest s m args below meth c 0 0 Q 6 D cA ad 0 A 46 [(9, 0), (9, 0), (9, 0), (9, 0), (9, 0), (9, 0)] [] e') (k2 : ∀ (e' : Dt), o = .inr (Sum.inr (Sum.inr (Sum.inl (e')))) → G p l e rm_Pa_takeTest s m args below meth c 0 0 Q 6 D cA ad 0 A 75 [(2, 25), (9, 0), (9, 0), (9, 0), (9, 0), (9, 0)] [] e') (k3 : ∀ (e' : Dt), o = .inr (Sum.inr (Sum.inr (Sum.inr (Sum.inl (e'))))) → G p l e rm_Pa_takeTest s m args below meth c 0 0 Q 6 D cA ad 0 A 93 [(9, 0), (9, 0), (9, 0), (9, 0), (9, 0), (9, 0)] [] e') (k4 : ∀ (e' : Dt), o = .inr (Sum.inr (Sum.inr (Sum.inr (Sum.inr (e'))))) → G p l e rm_Pa_takeTest s m args below meth c 0 0 Q 6 D cA ad 0 A 182 [(9, 0), (9, 0), (9, 0), (9, 0), (9, 0), (9, 0)] [] e') : G p l e rm_Pa_takeTest s m args below meth c 0 0 Q 6 D cA ad 0 A 131 [(2, 25), (9, 0), (0, x2), (0, x3), (9, 0), (9, 0)] [] d := by
  unfold L_Pa_takeTest_b131 at h
  refine g_aload_n C 0 rfl (by decide +kernel) ?_
  obtain ⟨r19_, d18_, hr20_, h⟩ := bd_some h
  refine g_callV C mw_Pa_kind [] 25 cl4 rfl (ok_Pa_kind  d  hr20_) cd_A25 (by decide) (nA (by decide)) (ix := 53) lk_787 lk_789 lkp_12 ⟨rfl, rfl, Nat.le_of_ble_eq_true rfl, Nat.le_of_ble_eq_true rfl⟩ rfl (rest := []) rfl (Nat.le_of_ble_eq_true rfl) ⟨Nat.zero_le _, Nat.zero_le _⟩ (by decide +kernel) (fun _ hc21_ => ?_)
  replace hc21_ : c32 r19_ := hc21_
  refine g_st (st2 := [(0, r19_)]) rfl ?_
  refine g_bipush C 25 (by decide) (by decide +kernel) ?_
  refine g_icmp_ne C (off := 7) (tgt := 144) hc21_ (cK rfl) (by decide +kernel) (by decide) (fun hc22_ => ?_) (fun hc22_ => ?_)
  · replace h := ite_t hc22_ h
    refine g_iconst C 1 (cK rfl) (by decide +kernel) ?_
    refine g_goto C 145 (off := 4) (by decide +kernel) (by decide) ?_
    refine g_sub (lo2 := [(2, 25), (9, 0), (0, x2), (0, x3), (9, 0), (9, 0)]) (lsb_v (lsb_c (lsb_v (lsb_v (lsb_c (lsb_c lsb_e)))))) ?_
    exact ok_Pa_takeTest_b145 C x2 x3 1 d18_ hx2 hx3 (Or.inr rfl) h kb k0 k1 k2 k3 k4
  · replace h := ite_f hc22_ h
    refine g_iconst C 0 (cK rfl) (by decide +kernel) ?_
    refine g_sub (lo2 := [(2, 25), (9, 0), (0, x2), (0, x3), (9, 0), (9, 0)]) (lsb_v (lsb_c (lsb_v (lsb_v (lsb_c (lsb_c lsb_e)))))) ?_
    exact ok_Pa_takeTest_b145 C x2 x3 0 d18_ hx2 hx3 (Or.inl rfl) h kb k0 k1 k2 k3 k4
set_option maxHeartbeats 4000000 in
theorem ok_Pa_takeTest_b118 {p : Program} {l : Launch} {e : Env} {s : State} {m : MethodId} {args : Array Value} {below : List Frame} {meth : Method} {c : Code} {D : va_G} {cA : Nat → ClassId} {ad : Nat → Nat} {A : Nat → Prop} (C : Cx p s m args c prog_6_method_25_code 6 "PollBooks$Parser" D cA ad 0 A) {Q : State → Prop} {o : (Int × Int × Int × Dt) ⊕ ((Dt) ⊕ (Dt) ⊕ (Dt) ⊕ (Dt) ⊕ (Dt))} (x1 x2 x3 : Int) (d : Dt) (hx1 : cb x1) (hx2 : cb x2) (hx3 : c32 x3) (h : L_Pa_takeTest_b118 x1 x2 x3 d = some o) (kb : ∀ (y0 y1 y2 : Int) (e' : Dt), o = .inl (y0, y1, y2, e') → cb y0 → cb y1 → c32 y2 → G p l e rm_Pa_takeTest s m args below meth c 0 0 Q 6 D cA ad 0 A 6 [(2, 25), (0, y0), (0, y1), (0, y2), (9, 0), (9, 0)] [] e') (k0 : ∀ (e' : Dt), o = .inr (Sum.inl (e')) → G p l e rm_Pa_takeTest s m args below meth c 0 0 Q 6 D cA ad 0 A 194 [(2, 25), (9, 0), (9, 0), (9, 0), (9, 0), (9, 0)] [] e') (k1 : ∀ (e' : Dt), o = .inr (Sum.inr (Sum.inl (e'))) → G p l e rm_Pa_takeTest s m args below meth c 0 0 Q 6 D cA ad 0 A 46 [(9, 0), (9, 0), (9, 0), (9, 0), (9, 0), (9, 0)] [] e') (k2 : ∀ (e' : Dt), o = .inr (Sum.inr (Sum.inr (Sum.inl (e')))) → G p l e rm_Pa_takeTest s m args below meth c 0 0 Q 6 D cA ad 0 A 75 [(2, 25), (9, 0), (9, 0), (9, 0), (9, 0), (9, 0)] [] e') (k3 : ∀ (e' : Dt), o = .inr (Sum.inr (Sum.inr (Sum.inr (Sum.inl (e'))))) → G p l e rm_Pa_takeTest s m args below meth c 0 0 Q 6 D cA ad 0 A 93 [(9, 0), (9, 0), (9, 0), (9, 0), (9, 0), (9, 0)] [] e') (k4 : ∀ (e' : Dt), o = .inr (Sum.inr (Sum.inr (Sum.inr (Sum.inr (e'))))) → G p l e rm_Pa_takeTest s m args below meth c 0 0 Q 6 D cA ad 0 A 182 [(9, 0), (9, 0), (9, 0), (9, 0), (9, 0), (9, 0)] [] e') : G p l e rm_Pa_takeTest s m args below meth c 0 0 Q 6 D cA ad 0 A 118 [(2, 25), (0, x1), (0, x2), (0, x3), (9, 0), (9, 0)] [] d := by
  unfold L_Pa_takeTest_b118 at h
  refine g_iload_n C 1 rfl (by decide +kernel) ?_
  refine g_if_eq C (off := 12) (tgt := 131) (c32_cb hx1) (by decide +kernel) (by decide) (fun hc23_ => ?_) (fun hc23_ => ?_)
  · replace h := ite_t hc23_ h
    refine g_sub (lo2 := [(2, 25), (9, 0), (0, x2), (0, x3), (9, 0), (9, 0)]) (lsb_v (lsb_c (lsb_v (lsb_v (lsb_c (lsb_c lsb_e)))))) ?_
    exact ok_Pa_takeTest_b131 C x2 x3 d hx2 hx3 h kb k0 k1 k2 k3 k4
  · replace h := ite_f hc23_ h
    refine g_aload_n C 0 rfl (by decide +kernel) ?_
    refine g_getM C cl4 25 6 rfl cd_A25 ⟨by decide, rfl, by decide⟩ rfl (nA (by decide)) (ix := 29) lk_201 (by decide +kernel) ?_
    refine g_bipush C 25 (by decide) (by decide +kernel) ?_
    obtain ⟨hs27_, h⟩ := ck_some h
    obtain ⟨r25_, d24_, hr26_, h⟩ := bd_some h
    refine g_callV C mw_St_addCode [(0, 25)] ((d 25 6).toNat + 0) cl9 (stt_ko0 hs27_) (ok_St_addCode (d 25 6) 25 d (cK rfl) hr26_) (stt_cd hs27_ 0 (by decide)) (by decide) (stt_n hs27_ 0 (by decide)) (ix := 139) lk_835 lk_836 lk_837 ⟨rfl, rfl, Nat.le_of_ble_eq_true rfl, Nat.le_of_ble_eq_true rfl⟩ rfl (rest := []) rfl (Nat.le_of_ble_eq_true rfl) ⟨Nat.zero_le _, Nat.zero_le _⟩ (by decide +kernel) (fun _ hc28_ => ?_)
    refine g_st (st2 := []) rfl ?_
    refine g_sub (lo2 := [(2, 25), (9, 0), (0, x2), (0, x3), (9, 0), (9, 0)]) (lsb_v (lsb_c (lsb_v (lsb_v (lsb_c (lsb_c lsb_e)))))) ?_
    exact ok_Pa_takeTest_b131 C x2 x3 d24_ hx2 hx3 h kb k0 k1 k2 k3 k4
set_option maxHeartbeats 4000000 in
theorem ok_Pa_takeTest_b81 {p : Program} {l : Launch} {e : Env} {s : State} {m : MethodId} {args : Array Value} {below : List Frame} {meth : Method} {c : Code} {D : va_G} {cA : Nat → ClassId} {ad : Nat → Nat} {A : Nat → Prop} (C : Cx p s m args c prog_6_method_25_code 6 "PollBooks$Parser" D cA ad 0 A) {Q : State → Prop} {o : (Int × Int × Int × Dt) ⊕ ((Dt) ⊕ (Dt) ⊕ (Dt) ⊕ (Dt) ⊕ (Dt))} (x1 x2 x3 x4 x5 : Int) (d : Dt) (hx1 : cb x1) (hx2 : cb x2) (hx3 : c32 x3) (hx4 : cb x4) (hx5 : c32 x5) (h : L_Pa_takeTest_b81 x1 x2 x3 x4 x5 d = some o) (kb : ∀ (y0 y1 y2 : Int) (e' : Dt), o = .inl (y0, y1, y2, e') → cb y0 → cb y1 → c32 y2 → G p l e rm_Pa_takeTest s m args below meth c 0 0 Q 6 D cA ad 0 A 6 [(2, 25), (0, y0), (0, y1), (0, y2), (9, 0), (9, 0)] [] e') (k0 : ∀ (e' : Dt), o = .inr (Sum.inl (e')) → G p l e rm_Pa_takeTest s m args below meth c 0 0 Q 6 D cA ad 0 A 194 [(2, 25), (9, 0), (9, 0), (9, 0), (9, 0), (9, 0)] [] e') (k1 : ∀ (e' : Dt), o = .inr (Sum.inr (Sum.inl (e'))) → G p l e rm_Pa_takeTest s m args below meth c 0 0 Q 6 D cA ad 0 A 46 [(9, 0), (9, 0), (9, 0), (9, 0), (9, 0), (9, 0)] [] e') (k2 : ∀ (e' : Dt), o = .inr (Sum.inr (Sum.inr (Sum.inl (e')))) → G p l e rm_Pa_takeTest s m args below meth c 0 0 Q 6 D cA ad 0 A 75 [(2, 25), (9, 0), (9, 0), (9, 0), (9, 0), (9, 0)] [] e') (k3 : ∀ (e' : Dt), o = .inr (Sum.inr (Sum.inr (Sum.inr (Sum.inl (e'))))) → G p l e rm_Pa_takeTest s m args below meth c 0 0 Q 6 D cA ad 0 A 93 [(9, 0), (9, 0), (9, 0), (9, 0), (9, 0), (9, 0)] [] e') (k4 : ∀ (e' : Dt), o = .inr (Sum.inr (Sum.inr (Sum.inr (Sum.inr (e'))))) → G p l e rm_Pa_takeTest s m args below meth c 0 0 Q 6 D cA ad 0 A 182 [(9, 0), (9, 0), (9, 0), (9, 0), (9, 0), (9, 0)] [] e') : G p l e rm_Pa_takeTest s m args below meth c 0 0 Q 6 D cA ad 0 A 81 [(2, 25), (0, x1), (0, x2), (0, x3), (0, x4), (0, x5)] [] d := by
  unfold L_Pa_takeTest_b81 at h
  refine g_aload_n C 0 rfl (by decide +kernel) ?_
  obtain ⟨r30_, d29_, hr31_, h⟩ := bd_some h
  refine g_callV C mw_Pa_next [] 25 cl4 rfl (ok_Pa_next  d  hr31_) cd_A25 (by decide) (nA (by decide)) (ix := 98) lk_807 lk_809 lkp_16 ⟨rfl, rfl, Nat.le_of_ble_eq_true rfl, Nat.le_of_ble_eq_true rfl⟩ rfl (rest := []) rfl (Nat.le_of_ble_eq_true rfl) ⟨Nat.zero_le _, Nat.zero_le _⟩ (by decide +kernel) (fun _ hc32_ => ?_)
  refine g_st (st2 := []) rfl ?_
  refine g_aload_n C 0 rfl (by decide +kernel) ?_
  refine g_iconst C 0 (cK rfl) (by decide +kernel) ?_
  obtain ⟨r34_, d33_, hr35_, h⟩ := bd_some h
  refine g_callV C mw_Pa_takeSum [(0, 0)] 25 cl4 rfl (ok_Pa_TS 0 d29_ (c32_cb (Or.inl rfl)) hr35_) cd_A25 (by decide) (nA (by decide)) (ix := 142) lk_827 lk_829 lkp_20 ⟨rfl, rfl, Nat.le_of_ble_eq_true rfl, Nat.le_of_ble_eq_true rfl⟩ rfl (rest := []) rfl (Nat.le_of_ble_eq_true rfl) ⟨Nat.zero_le _, Nat.zero_le _⟩ (by decide +kernel) (fun _ hc36_ => ?_)
  replace hc36_ : cb r34_ := hc36_
  refine g_st (st2 := [(0, r34_)]) rfl ?_
  refine g_if_ne C (off := 5) (tgt := 95) (c32_cb hc36_) (by decide +kernel) (by decide) (fun hc37_ => ?_) (fun hc37_ => ?_)
  · replace h := ite_t hc37_ h
    refine g_sub (lo2 := [(9, 0), (9, 0), (9, 0), (9, 0), (9, 0), (9, 0)]) (lsb_c (lsb_c (lsb_c (lsb_c (lsb_c (lsb_c lsb_e)))))) ?_
    obtain rfl := Option.some.inj h
    exact k3 d33_ rfl 
  · replace h := ite_f hc37_ h
    refine g_aload_n C 0 rfl (by decide +kernel) ?_
    refine g_getM C cl4 25 6 rfl cd_A25 ⟨by decide, rfl, by decide⟩ rfl (nA (by decide)) (ix := 29) lk_201 (by decide +kernel) ?_
    refine g_iload C 5 rfl (by decide +kernel) ?_
    obtain ⟨hs41_, h⟩ := ck_some h
    obtain ⟨r39_, d38_, hr40_, h⟩ := bd_some h
    refine g_callV C mw_St_addCode [(0, x5)] ((d33_ 25 6).toNat + 0) cl9 (stt_ko0 hs41_) (ok_St_addCode (d33_ 25 6) x5 d33_ hx5 hr40_) (stt_cd hs41_ 0 (by decide)) (by decide) (stt_n hs41_ 0 (by decide)) (ix := 139) lk_835 lk_836 lk_837 ⟨rfl, rfl, Nat.le_of_ble_eq_true rfl, Nat.le_of_ble_eq_true rfl⟩ rfl (rest := []) rfl (Nat.le_of_ble_eq_true rfl) ⟨Nat.zero_le _, Nat.zero_le _⟩ (by decide +kernel) (fun _ hc42_ => ?_)
    refine g_st (st2 := []) rfl ?_
    refine g_iload C 4 rfl (by decide +kernel) ?_
    refine g_if_eq C (off := 12) (tgt := 118) (c32_cb hx4) (by decide +kernel) (by decide) (fun hc43_ => ?_) (fun hc43_ => ?_)
    · replace h := ite_t hc43_ h
      refine g_sub (lo2 := [(2, 25), (0, x1), (0, x2), (0, x3), (9, 0), (9, 0)]) (lsb_v (lsb_v (lsb_v (lsb_v (lsb_c (lsb_c lsb_e)))))) ?_
      exact ok_Pa_takeTest_b118 C x1 x2 x3 d38_ hx1 hx2 hx3 h kb k0 k1 k2 k3 k4
    · replace h := ite_f hc43_ h
      refine g_aload_n C 0 rfl (by decide +kernel) ?_
      refine g_getM C cl4 25 6 rfl cd_A25 ⟨by decide, rfl, by decide⟩ rfl (nA (by decide)) (ix := 29) lk_201 (by decide +kernel) ?_
      refine g_bipush C 26 (by decide) (by decide +kernel) ?_
      obtain ⟨hs47_, h⟩ := ck_some h
      obtain ⟨r45_, d44_, hr46_, h⟩ := bd_some h
      refine g_callV C mw_St_addCode [(0, 26)] ((d38_ 25 6).toNat + 0) cl9 (stt_ko0 hs47_) (ok_St_addCode (d38_ 25 6) 26 d38_ (cK rfl) hr46_) (stt_cd hs47_ 0 (by decide)) (by decide) (stt_n hs47_ 0 (by decide)) (ix := 139) lk_835 lk_836 lk_837 ⟨rfl, rfl, Nat.le_of_ble_eq_true rfl, Nat.le_of_ble_eq_true rfl⟩ rfl (rest := []) rfl (Nat.le_of_ble_eq_true rfl) ⟨Nat.zero_le _, Nat.zero_le _⟩ (by decide +kernel) (fun _ hc48_ => ?_)
      refine g_st (st2 := []) rfl ?_
      refine g_sub (lo2 := [(2, 25), (0, x1), (0, x2), (0, x3), (9, 0), (9, 0)]) (lsb_v (lsb_v (lsb_v (lsb_v (lsb_c (lsb_c lsb_e)))))) ?_
      exact ok_Pa_takeTest_b118 C x1 x2 x3 d44_ hx1 hx2 hx3 h kb k0 k1 k2 k3 k4
set_option maxHeartbeats 4000000 in
theorem ok_Pa_takeTest_b38 {p : Program} {l : Launch} {e : Env} {s : State} {m : MethodId} {args : Array Value} {below : List Frame} {meth : Method} {c : Code} {D : va_G} {cA : Nat → ClassId} {ad : Nat → Nat} {A : Nat → Prop} (C : Cx p s m args c prog_6_method_25_code 6 "PollBooks$Parser" D cA ad 0 A) {Q : State → Prop} {o : (Int × Int × Int × Dt) ⊕ ((Dt) ⊕ (Dt) ⊕ (Dt) ⊕ (Dt) ⊕ (Dt))} (x1 x2 x3 x4 : Int) (d : Dt) (hx1 : cb x1) (hx2 : cb x2) (hx3 : c32 x3) (hx4 : cb x4) (h : L_Pa_takeTest_b38 x1 x2 x3 x4 d = some o) (kb : ∀ (y0 y1 y2 : Int) (e' : Dt), o = .inl (y0, y1, y2, e') → cb y0 → cb y1 → c32 y2 → G p l e rm_Pa_takeTest s m args below meth c 0 0 Q 6 D cA ad 0 A 6 [(2, 25), (0, y0), (0, y1), (0, y2), (9, 0), (9, 0)] [] e') (k0 : ∀ (e' : Dt), o = .inr (Sum.inl (e')) → G p l e rm_Pa_takeTest s m args below meth c 0 0 Q 6 D cA ad 0 A 194 [(2, 25), (9, 0), (9, 0), (9, 0), (9, 0), (9, 0)] [] e') (k1 : ∀ (e' : Dt), o = .inr (Sum.inr (Sum.inl (e'))) → G p l e rm_Pa_takeTest s m args below meth c 0 0 Q 6 D cA ad 0 A 46 [(9, 0), (9, 0), (9, 0), (9, 0), (9, 0), (9, 0)] [] e') (k2 : ∀ (e' : Dt), o = .inr (Sum.inr (Sum.inr (Sum.inl (e')))) → G p l e rm_Pa_takeTest s m args below meth c 0 0 Q 6 D cA ad 0 A 75 [(2, 25), (9, 0), (9, 0), (9, 0), (9, 0), (9, 0)] [] e') (k3 : ∀ (e' : Dt), o = .inr (Sum.inr (Sum.inr (Sum.inr (Sum.inl (e'))))) → G p l e rm_Pa_takeTest s m args below meth c 0 0 Q 6 D cA ad 0 A 93 [(9, 0), (9, 0), (9, 0), (9, 0), (9, 0), (9, 0)] [] e') (k4 : ∀ (e' : Dt), o = .inr (Sum.inr (Sum.inr (Sum.inr (Sum.inr (e'))))) → G p l e rm_Pa_takeTest s m args below meth c 0 0 Q 6 D cA ad 0 A 182 [(9, 0), (9, 0), (9, 0), (9, 0), (9, 0), (9, 0)] [] e') : G p l e rm_Pa_takeTest s m args below meth c 0 0 Q 6 D cA ad 0 A 38 [(2, 25), (0, x1), (0, x2), (0, x3), (0, x4), (9, 0)] [] d := by
  unfold L_Pa_takeTest_b38 at h
  refine g_aload_n C 0 rfl (by decide +kernel) ?_
  refine g_iconst C 0 (cK rfl) (by decide +kernel) ?_
  obtain ⟨r50_, d49_, hr51_, h⟩ := bd_some h
  refine g_callV C mw_Pa_takeSum [(0, 0)] 25 cl4 rfl (ok_Pa_TS 0 d (c32_cb (Or.inl rfl)) hr51_) cd_A25 (by decide) (nA (by decide)) (ix := 142) lk_827 lk_829 lkp_20 ⟨rfl, rfl, Nat.le_of_ble_eq_true rfl, Nat.le_of_ble_eq_true rfl⟩ rfl (rest := []) rfl (Nat.le_of_ble_eq_true rfl) ⟨Nat.zero_le _, Nat.zero_le _⟩ (by decide +kernel) (fun _ hc52_ => ?_)
  replace hc52_ : cb r50_ := hc52_
  refine g_st (st2 := [(0, r50_)]) rfl ?_
  refine g_if_ne C (off := 5) (tgt := 48) (c32_cb hc52_) (by decide +kernel) (by decide) (fun hc53_ => ?_) (fun hc53_ => ?_)
  · replace h := ite_t hc53_ h
    refine g_sub (lo2 := [(9, 0), (9, 0), (9, 0), (9, 0), (9, 0), (9, 0)]) (lsb_c (lsb_c (lsb_c (lsb_c (lsb_c (lsb_c lsb_e)))))) ?_
    obtain rfl := Option.some.inj h
    exact k1 d49_ rfl 
  · replace h := ite_f hc53_ h
    refine g_aload_n C 0 rfl (by decide +kernel) ?_
    obtain ⟨r55_, d54_, hr56_, h⟩ := bd_some h
    refine g_callV C mw_Pa_kind [] 25 cl4 rfl (ok_Pa_kind  d49_  hr56_) cd_A25 (by decide) (nA (by decide)) (ix := 53) lk_787 lk_789 lkp_12 ⟨rfl, rfl, Nat.le_of_ble_eq_true rfl, Nat.le_of_ble_eq_true rfl⟩ rfl (rest := []) rfl (Nat.le_of_ble_eq_true rfl) ⟨Nat.zero_le _, Nat.zero_le _⟩ (by decide +kernel) (fun _ hc57_ => ?_)
    replace hc57_ : c32 r55_ := hc57_
    refine g_st (st2 := [(0, r55_)]) rfl ?_
    refine s_istore C 5 (lo' := [(2, 25), (0, x1), (0, x2), (0, x3), (0, x4), (0, r55_)]) (by decide) (s1k (s1k (s1k (s1k (s1n (by decide) s1z))))) (by decide +kernel) ?_
    refine g_iload C 5 rfl (by decide +kernel) ?_
    refine g_bipush C 60 (by decide) (by decide +kernel) ?_
    refine g_icmp_eq C (off := 23) (tgt := 81) hc57_ (cK rfl) (by decide +kernel) (by decide) (fun hc58_ => ?_) (fun hc58_ => ?_)
    · replace h := ite_t hc58_ h
      refine g_sub (lo2 := [(2, 25), (0, x1), (0, x2), (0, x3), (0, x4), (0, r55_)]) (lsb_v (lsb_v (lsb_v (lsb_v (lsb_v (lsb_v lsb_e)))))) ?_
      exact ok_Pa_takeTest_b81 C x1 x2 x3 x4 r55_ d54_ hx1 hx2 hx3 hx4 hc57_ h kb k0 k1 k2 k3 k4
    · replace h := ite_f hc58_ h
      refine g_iload C 5 rfl (by decide +kernel) ?_
      refine g_bipush C 62 (by decide) (by decide +kernel) ?_
      refine g_icmp_eq C (off := 16) (tgt := 81) hc57_ (cK rfl) (by decide +kernel) (by decide) (fun hc59_ => ?_) (fun hc59_ => ?_)
      · replace h := ite_t hc59_ h
        refine g_sub (lo2 := [(2, 25), (0, x1), (0, x2), (0, x3), (0, x4), (0, r55_)]) (lsb_v (lsb_v (lsb_v (lsb_v (lsb_v (lsb_v lsb_e)))))) ?_
        exact ok_Pa_takeTest_b81 C x1 x2 x3 x4 r55_ d54_ hx1 hx2 hx3 hx4 hc57_ h kb k0 k1 k2 k3 k4
      · replace h := ite_f hc59_ h
        refine g_iload C 5 rfl (by decide +kernel) ?_
        refine g_bipush C 61 (by decide) (by decide +kernel) ?_
        refine g_icmp_eq C (off := 9) (tgt := 81) hc57_ (cK rfl) (by decide +kernel) (by decide) (fun hc60_ => ?_) (fun hc60_ => ?_)
        · replace h := ite_t hc60_ h
          refine g_sub (lo2 := [(2, 25), (0, x1), (0, x2), (0, x3), (0, x4), (0, r55_)]) (lsb_v (lsb_v (lsb_v (lsb_v (lsb_v (lsb_v lsb_e)))))) ?_
          exact ok_Pa_takeTest_b81 C x1 x2 x3 x4 r55_ d54_ hx1 hx2 hx3 hx4 hc57_ h kb k0 k1 k2 k3 k4
        · replace h := ite_f hc60_ h
          refine g_sub (lo2 := [(2, 25), (9, 0), (9, 0), (9, 0), (9, 0), (9, 0)]) (lsb_v (lsb_c (lsb_c (lsb_c (lsb_c (lsb_c lsb_e)))))) ?_
          obtain rfl := Option.some.inj h
          exact k2 d54_ rfl 
set_option maxHeartbeats 4000000 in
theorem ok_Pa_takeTest_b27 {p : Program} {l : Launch} {e : Env} {s : State} {m : MethodId} {args : Array Value} {below : List Frame} {meth : Method} {c : Code} {D : va_G} {cA : Nat → ClassId} {ad : Nat → Nat} {A : Nat → Prop} (C : Cx p s m args c prog_6_method_25_code 6 "PollBooks$Parser" D cA ad 0 A) {Q : State → Prop} {o : (Int × Int × Int × Dt) ⊕ ((Dt) ⊕ (Dt) ⊕ (Dt) ⊕ (Dt) ⊕ (Dt))} (x1 x2 x3 s0 : Int) (d : Dt) (hx1 : cb x1) (hx2 : cb x2) (hx3 : c32 x3) (hs0 : cb s0) (h : L_Pa_takeTest_b27 x1 x2 x3 s0 d = some o) (kb : ∀ (y0 y1 y2 : Int) (e' : Dt), o = .inl (y0, y1, y2, e') → cb y0 → cb y1 → c32 y2 → G p l e rm_Pa_takeTest s m args below meth c 0 0 Q 6 D cA ad 0 A 6 [(2, 25), (0, y0), (0, y1), (0, y2), (9, 0), (9, 0)] [] e') (k0 : ∀ (e' : Dt), o = .inr (Sum.inl (e')) → G p l e rm_Pa_takeTest s m args below meth c 0 0 Q 6 D cA ad 0 A 194 [(2, 25), (9, 0), (9, 0), (9, 0), (9, 0), (9, 0)] [] e') (k1 : ∀ (e' : Dt), o = .inr (Sum.inr (Sum.inl (e'))) → G p l e rm_Pa_takeTest s m args below meth c 0 0 Q 6 D cA ad 0 A 46 [(9, 0), (9, 0), (9, 0), (9, 0), (9, 0), (9, 0)] [] e') (k2 : ∀ (e' : Dt), o = .inr (Sum.inr (Sum.inr (Sum.inl (e')))) → G p l e rm_Pa_takeTest s m args below meth c 0 0 Q 6 D cA ad 0 A 75 [(2, 25), (9, 0), (9, 0), (9, 0), (9, 0), (9, 0)] [] e') (k3 : ∀ (e' : Dt), o = .inr (Sum.inr (Sum.inr (Sum.inr (Sum.inl (e'))))) → G p l e rm_Pa_takeTest s m args below meth c 0 0 Q 6 D cA ad 0 A 93 [(9, 0), (9, 0), (9, 0), (9, 0), (9, 0), (9, 0)] [] e') (k4 : ∀ (e' : Dt), o = .inr (Sum.inr (Sum.inr (Sum.inr (Sum.inr (e'))))) → G p l e rm_Pa_takeTest s m args below meth c 0 0 Q 6 D cA ad 0 A 182 [(9, 0), (9, 0), (9, 0), (9, 0), (9, 0), (9, 0)] [] e') : G p l e rm_Pa_takeTest s m args below meth c 0 0 Q 6 D cA ad 0 A 27 [(2, 25), (0, x1), (0, x2), (0, x3), (9, 0), (9, 0)] [(0, s0)] d := by
  unfold L_Pa_takeTest_b27 at h
  refine s_istore C 4 (lo' := [(2, 25), (0, x1), (0, x2), (0, x3), (0, s0), (9, 0)]) (by decide) (s1k (s1k (s1k (s1n (by decide) s1z)))) (by decide +kernel) ?_
  refine g_iload C 4 rfl (by decide +kernel) ?_
  refine g_if_eq C (off := 7) (tgt := 38) (c32_cb hs0) (by decide +kernel) (by decide) (fun hc61_ => ?_) (fun hc61_ => ?_)
  · replace h := ite_t hc61_ h
    refine g_sub (lo2 := [(2, 25), (0, x1), (0, x2), (0, x3), (0, s0), (9, 0)]) (lsb_v (lsb_v (lsb_v (lsb_v (lsb_v (lsb_c lsb_e)))))) ?_
    exact ok_Pa_takeTest_b38 C x1 x2 x3 s0 d hx1 hx2 hx3 hs0 h kb k0 k1 k2 k3 k4
  · replace h := ite_f hc61_ h
    refine g_aload_n C 0 rfl (by decide +kernel) ?_
    obtain ⟨r63_, d62_, hr64_, h⟩ := bd_some h
    refine g_callV C mw_Pa_next [] 25 cl4 rfl (ok_Pa_next  d  hr64_) cd_A25 (by decide) (nA (by decide)) (ix := 98) lk_807 lk_809 lkp_16 ⟨rfl, rfl, Nat.le_of_ble_eq_true rfl, Nat.le_of_ble_eq_true rfl⟩ rfl (rest := []) rfl (Nat.le_of_ble_eq_true rfl) ⟨Nat.zero_le _, Nat.zero_le _⟩ (by decide +kernel) (fun _ hc65_ => ?_)
    refine g_st (st2 := []) rfl ?_
    refine g_sub (lo2 := [(2, 25), (0, x1), (0, x2), (0, x3), (0, s0), (9, 0)]) (lsb_v (lsb_v (lsb_v (lsb_v (lsb_v (lsb_c lsb_e)))))) ?_
    exact ok_Pa_takeTest_b38 C x1 x2 x3 s0 d62_ hx1 hx2 hx3 hs0 h kb k0 k1 k2 k3 k4
set_option maxHeartbeats 4000000 in
theorem ok_Pa_takeTest_y6 {p : Program} {l : Launch} {e : Env} {s : State} {m : MethodId} {args : Array Value} {below : List Frame} {meth : Method} {c : Code} {D : va_G} {cA : Nat → ClassId} {ad : Nat → Nat} {A : Nat → Prop} (C : Cx p s m args c prog_6_method_25_code 6 "PollBooks$Parser" D cA ad 0 A) {Q : State → Prop} {o : (Int × Int × Int × Dt) ⊕ ((Dt) ⊕ (Dt) ⊕ (Dt) ⊕ (Dt) ⊕ (Dt))} (x1 x2 x3 : Int) (d : Dt) (hx1 : cb x1) (hx2 : cb x2) (hx3 : c32 x3) (h : L_Pa_takeTest_y6 x1 x2 x3 d = some o) (kb : ∀ (y0 y1 y2 : Int) (e' : Dt), o = .inl (y0, y1, y2, e') → cb y0 → cb y1 → c32 y2 → G p l e rm_Pa_takeTest s m args below meth c 0 0 Q 6 D cA ad 0 A 6 [(2, 25), (0, y0), (0, y1), (0, y2), (9, 0), (9, 0)] [] e') (k0 : ∀ (e' : Dt), o = .inr (Sum.inl (e')) → G p l e rm_Pa_takeTest s m args below meth c 0 0 Q 6 D cA ad 0 A 194 [(2, 25), (9, 0), (9, 0), (9, 0), (9, 0), (9, 0)] [] e') (k1 : ∀ (e' : Dt), o = .inr (Sum.inr (Sum.inl (e'))) → G p l e rm_Pa_takeTest s m args below meth c 0 0 Q 6 D cA ad 0 A 46 [(9, 0), (9, 0), (9, 0), (9, 0), (9, 0), (9, 0)] [] e') (k2 : ∀ (e' : Dt), o = .inr (Sum.inr (Sum.inr (Sum.inl (e')))) → G p l e rm_Pa_takeTest s m args below meth c 0 0 Q 6 D cA ad 0 A 75 [(2, 25), (9, 0), (9, 0), (9, 0), (9, 0), (9, 0)] [] e') (k3 : ∀ (e' : Dt), o = .inr (Sum.inr (Sum.inr (Sum.inr (Sum.inl (e'))))) → G p l e rm_Pa_takeTest s m args below meth c 0 0 Q 6 D cA ad 0 A 93 [(9, 0), (9, 0), (9, 0), (9, 0), (9, 0), (9, 0)] [] e') (k4 : ∀ (e' : Dt), o = .inr (Sum.inr (Sum.inr (Sum.inr (Sum.inr (e'))))) → G p l e rm_Pa_takeTest s m args below meth c 0 0 Q 6 D cA ad 0 A 182 [(9, 0), (9, 0), (9, 0), (9, 0), (9, 0), (9, 0)] [] e') : G p l e rm_Pa_takeTest s m args below meth c 0 0 Q 6 D cA ad 0 A 6 [(2, 25), (0, x1), (0, x2), (0, x3), (9, 0), (9, 0)] [] d := by
  unfold L_Pa_takeTest_y6 at h
  refine g_iload_n C 3 rfl (by decide +kernel) ?_
  refine g_sipush C 600 (by decide) (by decide +kernel) ?_
  refine g_icmp_ge C (off := 184) (tgt := 194) hx3 (cK rfl) (by decide +kernel) (by decide) (fun hc66_ => ?_) (fun hc66_ => ?_)
  · replace h := ite_t hc66_ h
    refine g_aload_n C 0 rfl (by decide +kernel) ?_
    obtain ⟨r68_, d67_, hr69_, h⟩ := bd_some h
    refine g_callV C mw_Pa_kind [] 25 cl4 rfl (ok_Pa_kind  d  hr69_) cd_A25 (by decide) (nA (by decide)) (ix := 53) lk_787 lk_789 lkp_12 ⟨rfl, rfl, Nat.le_of_ble_eq_true rfl, Nat.le_of_ble_eq_true rfl⟩ rfl (rest := []) rfl (Nat.le_of_ble_eq_true rfl) ⟨Nat.zero_le _, Nat.zero_le _⟩ (by decide +kernel) (fun _ hc70_ => ?_)
    replace hc70_ : c32 r68_ := hc70_
    refine g_st (st2 := [(0, r68_)]) rfl ?_
    refine g_bipush C 26 (by decide) (by decide +kernel) ?_
    refine g_icmp_ne C (off := 7) (tgt := 26) hc70_ (cK rfl) (by decide +kernel) (by decide) (fun hc71_ => ?_) (fun hc71_ => ?_)
    · replace h := ite_t hc71_ h
      refine g_iconst C 1 (cK rfl) (by decide +kernel) ?_
      refine g_goto C 27 (off := 4) (by decide +kernel) (by decide) ?_
      refine g_sub (lo2 := [(2, 25), (0, x1), (0, x2), (0, x3), (9, 0), (9, 0)]) (lsb_v (lsb_v (lsb_v (lsb_v (lsb_c (lsb_c lsb_e)))))) ?_
      exact ok_Pa_takeTest_b27 C x1 x2 x3 1 d67_ hx1 hx2 hx3 (Or.inr rfl) h kb k0 k1 k2 k3 k4
    · replace h := ite_f hc71_ h
      refine g_iconst C 0 (cK rfl) (by decide +kernel) ?_
      refine g_sub (lo2 := [(2, 25), (0, x1), (0, x2), (0, x3), (9, 0), (9, 0)]) (lsb_v (lsb_v (lsb_v (lsb_v (lsb_c (lsb_c lsb_e)))))) ?_
      exact ok_Pa_takeTest_b27 C x1 x2 x3 0 d67_ hx1 hx2 hx3 (Or.inl rfl) h kb k0 k1 k2 k3 k4
  · replace h := ite_f hc66_ h
    refine g_sub (lo2 := [(2, 25), (9, 0), (9, 0), (9, 0), (9, 0), (9, 0)]) (lsb_v (lsb_c (lsb_c (lsb_c (lsb_c (lsb_c lsb_e)))))) ?_
    obtain rfl := Option.some.inj h
    exact k0 d rfl 
set_option maxHeartbeats 4000000 in
theorem ok_Pa_takeTest_n6 {p : Program} {l : Launch} {e : Env} {s : State} {m : MethodId} {args : Array Value} {below : List Frame} {meth : Method} {c : Code} {D : va_G} {cA : Nat → ClassId} {ad : Nat → Nat} {A : Nat → Prop} (C : Cx p s m args c prog_6_method_25_code 6 "PollBooks$Parser" D cA ad 0 A) {Q : State → Prop} {x : (Dt) ⊕ (Dt) ⊕ (Dt) ⊕ (Dt) ⊕ (Dt)} : ∀ (n : Nat) (x1 x2 x3 : Int) (d : Dt), cb x1 → cb x2 → c32 x3 → lpF (fun q : Int × Int × Int × Dt => L_Pa_takeTest_y6 q.1 q.2.1 q.2.2.1 q.2.2.2) n (x1, x2, x3, d) = some x → (∀ (e' : Dt), x = (Sum.inl (e')) → G p l e rm_Pa_takeTest s m args below meth c 0 0 Q 6 D cA ad 0 A 194 [(2, 25), (9, 0), (9, 0), (9, 0), (9, 0), (9, 0)] [] e') → (∀ (e' : Dt), x = (Sum.inr (Sum.inl (e'))) → G p l e rm_Pa_takeTest s m args below meth c 0 0 Q 6 D cA ad 0 A 46 [(9, 0), (9, 0), (9, 0), (9, 0), (9, 0), (9, 0)] [] e') → (∀ (e' : Dt), x = (Sum.inr (Sum.inr (Sum.inl (e')))) → G p l e rm_Pa_takeTest s m args below meth c 0 0 Q 6 D cA ad 0 A 75 [(2, 25), (9, 0), (9, 0), (9, 0), (9, 0), (9, 0)] [] e') → (∀ (e' : Dt), x = (Sum.inr (Sum.inr (Sum.inr (Sum.inl (e'))))) → G p l e rm_Pa_takeTest s m args below meth c 0 0 Q 6 D cA ad 0 A 93 [(9, 0), (9, 0), (9, 0), (9, 0), (9, 0), (9, 0)] [] e') → (∀ (e' : Dt), x = (Sum.inr (Sum.inr (Sum.inr (Sum.inr (e'))))) → G p l e rm_Pa_takeTest s m args below meth c 0 0 Q 6 D cA ad 0 A 182 [(9, 0), (9, 0), (9, 0), (9, 0), (9, 0), (9, 0)] [] e') → G p l e rm_Pa_takeTest s m args below meth c 0 0 Q 6 D cA ad 0 A 6 [(2, 25), (0, x1), (0, x2), (0, x3), (9, 0), (9, 0)] [] d := by
  intro n
  induction n with
  | zero => intro x1 x2 x3 d g0 g1 g2 h k0 k1 k2 k3 k4; cases h
  | succ n ih =>
    intro x1 x2 x3 d g0 g1 g2 h k0 k1 k2 k3 k4
    rcases lpF_some h with h | ⟨⟨v0_, v1_, v2_, e0_⟩, h1, h⟩
    · exact ok_Pa_takeTest_y6 C x1 x2 x3 d g0 g1 g2 h (fun z0_ z1_ z2_ e1_ eq w0_ w1_ w2_ => by cases eq) (fun e1_ eq => k0 _ (by cases eq; rfl) ) (fun e1_ eq => k1 _ (by cases eq; rfl) ) (fun e1_ eq => k2 _ (by cases eq; rfl) ) (fun e1_ eq => k3 _ (by cases eq; rfl) ) (fun e1_ eq => k4 _ (by cases eq; rfl) )
    · exact ok_Pa_takeTest_y6 C x1 x2 x3 d g0 g1 g2 h1 (fun z0_ z1_ z2_ e1_ eq w0_ w1_ w2_ => by cases eq; exact ih _ _ _ _ w0_ w1_ w2_ h k0 k1 k2 k3 k4) (fun e1_ eq => by cases eq) (fun e1_ eq => by cases eq) (fun e1_ eq => by cases eq) (fun e1_ eq => by cases eq) (fun e1_ eq => by cases eq)
set_option maxHeartbeats 4000000 in
theorem ok_Pa_takeTest_l6 {p : Program} {l : Launch} {e : Env} {s : State} {m : MethodId} {args : Array Value} {below : List Frame} {meth : Method} {c : Code} {D : va_G} {cA : Nat → ClassId} {ad : Nat → Nat} {A : Nat → Prop} (C : Cx p s m args c prog_6_method_25_code 6 "PollBooks$Parser" D cA ad 0 A) {Q : State → Prop} {x : (Dt) ⊕ (Dt) ⊕ (Dt) ⊕ (Dt) ⊕ (Dt)} (x1 x2 x3 : Int) (d : Dt) (hx1 : cb x1) (hx2 : cb x2) (hx3 : c32 x3) (h : L_Pa_takeTest_l6 x1 x2 x3 d = some x) (k0 : ∀ (e' : Dt), x = (Sum.inl (e')) → G p l e rm_Pa_takeTest s m args below meth c 0 0 Q 6 D cA ad 0 A 194 [(2, 25), (9, 0), (9, 0), (9, 0), (9, 0), (9, 0)] [] e') (k1 : ∀ (e' : Dt), x = (Sum.inr (Sum.inl (e'))) → G p l e rm_Pa_takeTest s m args below meth c 0 0 Q 6 D cA ad 0 A 46 [(9, 0), (9, 0), (9, 0), (9, 0), (9, 0), (9, 0)] [] e') (k2 : ∀ (e' : Dt), x = (Sum.inr (Sum.inr (Sum.inl (e')))) → G p l e rm_Pa_takeTest s m args below meth c 0 0 Q 6 D cA ad 0 A 75 [(2, 25), (9, 0), (9, 0), (9, 0), (9, 0), (9, 0)] [] e') (k3 : ∀ (e' : Dt), x = (Sum.inr (Sum.inr (Sum.inr (Sum.inl (e'))))) → G p l e rm_Pa_takeTest s m args below meth c 0 0 Q 6 D cA ad 0 A 93 [(9, 0), (9, 0), (9, 0), (9, 0), (9, 0), (9, 0)] [] e') (k4 : ∀ (e' : Dt), x = (Sum.inr (Sum.inr (Sum.inr (Sum.inr (e'))))) → G p l e rm_Pa_takeTest s m args below meth c 0 0 Q 6 D cA ad 0 A 182 [(9, 0), (9, 0), (9, 0), (9, 0), (9, 0), (9, 0)] [] e') : G p l e rm_Pa_takeTest s m args below meth c 0 0 Q 6 D cA ad 0 A 6 [(2, 25), (0, x1), (0, x2), (0, x3), (9, 0), (9, 0)] [] d :=
  ok_Pa_takeTest_n6 C FU x1 x2 x3 d hx1 hx2 hx3 h k0 k1 k2 k3 k4
set_option maxHeartbeats 4000000 in
theorem ok_Pa_takeTest {l : Launch} {r : Int} {d' : Dt} (d : Dt)  (h : L_Pa_takeTest d = some (r, d')) : MC l y_Pa_takeTest prog_6_method_25_code 6 (some .boolean) rm_Pa_takeTest 0 [(2, 25)] d (some (0, r)) d' := by
  refine MC.of (by decide) (Nat.le_of_ble_eq_true rfl) ?_
  intro p e s m args below meth c D cA ad A C hlk hr
  replace C : Cx p s m args c prog_6_method_25_code 6 "PollBooks$Parser" D cA ad 0 A := C
  show G p l e rm_Pa_takeTest s m args below meth c 0 0 (MQ below (fun _ => QC D cA ad 0 A (some .boolean) (some (0, r)) d') args s 0 0 A) 6 D cA ad 0 A 0 [(2, 25)] [] d
  refine g_sub (lo2 := [(2, 25), (9, 0), (9, 0), (9, 0), (9, 0), (9, 0)]) (lsb_v (lsb_n (lsb_n (lsb_n (lsb_n (lsb_n lsb_e)))))) ?_
  unfold L_Pa_takeTest at h
  refine g_iconst C 0 (cK rfl) (by decide +kernel) ?_
  refine s_istore_n C 1 (lo' := [(2, 25), (0, 0), (9, 0), (9, 0), (9, 0), (9, 0)]) (by decide) (s1n (by decide) s1z) (by decide +kernel) ?_
  refine g_iconst C 0 (cK rfl) (by decide +kernel) ?_
  refine s_istore_n C 2 (lo' := [(2, 25), (0, 0), (0, 0), (9, 0), (9, 0), (9, 0)]) (by decide) (s1k (s1n (by decide) s1z)) (by decide +kernel) ?_
  refine g_iconst C 0 (cK rfl) (by decide +kernel) ?_
  refine s_istore_n C 3 (lo' := [(2, 25), (0, 0), (0, 0), (0, 0), (9, 0), (9, 0)]) (by decide) (s1k (s1k (s1n (by decide) s1z))) (by decide +kernel) ?_
  refine g_sub (lo2 := [(2, 25), (0, 0), (0, 0), (0, 0), (9, 0), (9, 0)]) (lsb_v (lsb_v (lsb_v (lsb_v (lsb_c (lsb_c lsb_e)))))) ?_
  obtain ⟨x72_, hx73_, h⟩ := lb_some h
  refine ok_Pa_takeTest_l6 C 0 0 0 d (Or.inl rfl) (Or.inl rfl) (c32_cb (Or.inl rfl)) hx73_ (fun d74_ eq75_ => ?_) (fun d80_ eq81_ => ?_) (fun d82_ eq83_ => ?_) (fun d88_ eq89_ => ?_) (fun d90_ eq91_ => ?_)
  · subst eq75_
    replace h := sml_e h
    replace h := u0_e h
    refine g_aload_n C 0 rfl (by decide +kernel) ?_
    refine g_iconst C 2 (cK rfl) (by decide +kernel) ?_
    obtain ⟨r77_, d76_, hr78_, h⟩ := bd_some h
    refine g_callV C mw_Pa_refuse [(0, 2)] 25 cl4 rfl (ok_Pa_refuse 2 d74_ (cK rfl) hr78_) cd_A25 (by decide) (nA (by decide)) (ix := 95) lk_799 lk_801 lkp_15 ⟨rfl, rfl, Nat.le_of_ble_eq_true rfl, Nat.le_of_ble_eq_true rfl⟩ rfl (rest := []) rfl (Nat.le_of_ble_eq_true rfl) ⟨Nat.zero_le _, Nat.zero_le _⟩ (by decide +kernel) (fun _ hc79_ => ?_)
    replace hc79_ : cb r77_ := hc79_
    refine g_st (st2 := [(0, r77_)]) rfl ?_
    obtain ⟨rfl, rfl⟩ := ret_inj h
    exact g_zret C hc79_ hlk hr (by decide +kernel)
  · subst eq81_
    replace h := smr_e h
    replace h := sml_e h
    replace h := u0_e h
    refine g_iconst C 0 (cK rfl) (by decide +kernel) ?_
    obtain ⟨rfl, rfl⟩ := ret_inj h
    exact g_zret C (Or.inl rfl) hlk hr (by decide +kernel)
  · subst eq83_
    replace h := smr_e h
    replace h := smr_e h
    replace h := sml_e h
    replace h := u0_e h
    refine g_aload_n C 0 rfl (by decide +kernel) ?_
    refine g_iconst C 2 (cK rfl) (by decide +kernel) ?_
    obtain ⟨r85_, d84_, hr86_, h⟩ := bd_some h
    refine g_callV C mw_Pa_refuse [(0, 2)] 25 cl4 rfl (ok_Pa_refuse 2 d82_ (cK rfl) hr86_) cd_A25 (by decide) (nA (by decide)) (ix := 95) lk_799 lk_801 lkp_15 ⟨rfl, rfl, Nat.le_of_ble_eq_true rfl, Nat.le_of_ble_eq_true rfl⟩ rfl (rest := []) rfl (Nat.le_of_ble_eq_true rfl) ⟨Nat.zero_le _, Nat.zero_le _⟩ (by decide +kernel) (fun _ hc87_ => ?_)
    replace hc87_ : cb r85_ := hc87_
    refine g_st (st2 := [(0, r85_)]) rfl ?_
    obtain ⟨rfl, rfl⟩ := ret_inj h
    exact g_zret C hc87_ hlk hr (by decide +kernel)
  · subst eq89_
    replace h := smr_e h
    replace h := smr_e h
    replace h := smr_e h
    replace h := sml_e h
    replace h := u0_e h
    refine g_iconst C 0 (cK rfl) (by decide +kernel) ?_
    obtain ⟨rfl, rfl⟩ := ret_inj h
    exact g_zret C (Or.inl rfl) hlk hr (by decide +kernel)
  · subst eq91_
    replace h := smr_e h
    replace h := smr_e h
    replace h := smr_e h
    replace h := smr_e h
    replace h := u0_e h
    refine g_iconst C 1 (cK rfl) (by decide +kernel) ?_
    obtain ⟨rfl, rfl⟩ := ret_inj h
    exact g_zret C (Or.inr rfl) hlk hr (by decide +kernel)
/-! PollBooks$Statute.closeRule(III)V -/
def y_St_closeRule : MethodName := ⟨"PollBooks$Statute", "closeRule", "(III)V"⟩
def rm_St_closeRule : Room := { frames := 0, cells := 0, slots := 0, locals := 0 }
theorem mw_St_closeRule : MW y_St_closeRule prog_11_method_5_code 4 none 3 := ⟨lk_842, lk_7, by decide +kernel⟩
def L_St_closeRule (this p1 p2 p3 : Int) (d : Dt) : Option (Int × Dt) :=
  ck (stt d this) (if (d (this.toNat + 0) 2) < 20 then ck (stt d this) (ck (stt d this) (ck (stt d this) (ck ((0 : Int) ≤ (d (this.toNat + 0) 2) ∧ (d (this.toNat + 0) 2) < 20) (ck (stt (up2 d (this.toNat + 3) ((d (this.toNat + 0) 2)).toNat p1) this) (ck (stt (up2 d (this.toNat + 3) ((d (this.toNat + 0) 2)).toNat p1) this) (ck (stt (up2 d (this.toNat + 3) ((d (this.toNat + 0) 2)).toNat p1) this) (ck ((0 : Int) ≤ ((up2 d (this.toNat + 3) ((d (this.toNat + 0) 2)).toNat p1) (this.toNat + 0) 2) ∧ ((up2 d (this.toNat + 3) ((d (this.toNat + 0) 2)).toNat p1) (this.toNat + 0) 2) < 20) (ck (stt (up2 (up2 d (this.toNat + 3) ((d (this.toNat + 0) 2)).toNat p1) (this.toNat + 4) (((up2 d (this.toNat + 3) ((d (this.toNat + 0) 2)).toNat p1) (this.toNat + 0) 2)).toNat p2) this) (ck (stt (up2 (up2 d (this.toNat + 3) ((d (this.toNat + 0) 2)).toNat p1) (this.toNat + 4) (((up2 d (this.toNat + 3) ((d (this.toNat + 0) 2)).toNat p1) (this.toNat + 0) 2)).toNat p2) this) (ck (stt (up2 (up2 d (this.toNat + 3) ((d (this.toNat + 0) 2)).toNat p1) (this.toNat + 4) (((up2 d (this.toNat + 3) ((d (this.toNat + 0) 2)).toNat p1) (this.toNat + 0) 2)).toNat p2) this) (ck ((0 : Int) ≤ ((up2 (up2 d (this.toNat + 3) ((d (this.toNat + 0) 2)).toNat p1) (this.toNat + 4) (((up2 d (this.toNat + 3) ((d (this.toNat + 0) 2)).toNat p1) (this.toNat + 0) 2)).toNat p2) (this.toNat + 0) 2) ∧ ((up2 (up2 d (this.toNat + 3) ((d (this.toNat + 0) 2)).toNat p1) (this.toNat + 4) (((up2 d (this.toNat + 3) ((d (this.toNat + 0) 2)).toNat p1) (this.toNat + 0) 2)).toNat p2) (this.toNat + 0) 2) < 20) (ck (stt (up2 (up2 (up2 d (this.toNat + 3) ((d (this.toNat + 0) 2)).toNat p1) (this.toNat + 4) (((up2 d (this.toNat + 3) ((d (this.toNat + 0) 2)).toNat p1) (this.toNat + 0) 2)).toNat p2) (this.toNat + 5) (((up2 (up2 d (this.toNat + 3) ((d (this.toNat + 0) 2)).toNat p1) (this.toNat + 4) (((up2 d (this.toNat + 3) ((d (this.toNat + 0) 2)).toNat p1) (this.toNat + 0) 2)).toNat p2) (this.toNat + 0) 2)).toNat p3) this) (ck (stt (up2 (up2 (up2 d (this.toNat + 3) ((d (this.toNat + 0) 2)).toNat p1) (this.toNat + 4) (((up2 d (this.toNat + 3) ((d (this.toNat + 0) 2)).toNat p1) (this.toNat + 0) 2)).toNat p2) (this.toNat + 5) (((up2 (up2 d (this.toNat + 3) ((d (this.toNat + 0) 2)).toNat p1) (this.toNat + 4) (((up2 d (this.toNat + 3) ((d (this.toNat + 0) 2)).toNat p1) (this.toNat + 0) 2)).toNat p2) (this.toNat + 0) 2)).toNat p3) this) (some (0, (up2 (up2 (up2 (up2 d (this.toNat + 3) ((d (this.toNat + 0) 2)).toNat p1) (this.toNat + 4) (((up2 d (this.toNat + 3) ((d (this.toNat + 0) 2)).toNat p1) (this.toNat + 0) 2)).toNat p2) (this.toNat + 5) (((up2 (up2 d (this.toNat + 3) ((d (this.toNat + 0) 2)).toNat p1) (this.toNat + 4) (((up2 d (this.toNat + 3) ((d (this.toNat + 0) 2)).toNat p1) (this.toNat + 0) 2)).toNat p2) (this.toNat + 0) 2)).toNat p3) (this.toNat + 0) 2 (w32 (((up2 (up2 (up2 d (this.toNat + 3) ((d (this.toNat + 0) 2)).toNat p1) (this.toNat + 4) (((up2 d (this.toNat + 3) ((d (this.toNat + 0) 2)).toNat p1) (this.toNat + 0) 2)).toNat p2) (this.toNat + 5) (((up2 (up2 d (this.toNat + 3) ((d (this.toNat + 0) 2)).toNat p1) (this.toNat + 4) (((up2 d (this.toNat + 3) ((d (this.toNat + 0) 2)).toNat p1) (this.toNat + 0) 2)).toNat p2) (this.toNat + 0) 2)).toNat p3) (this.toNat + 0) 2) + 1)))))))))))))))))) else some (0, d))
set_option maxHeartbeats 4000000 in
theorem ok_St_closeRule {l : Launch} {r : Int} {d' : Dt} (this p1 p2 p3 : Int) (d : Dt) (hp1 : c32 p1) (hp2 : c32 p2) (hp3 : c32 p3) (h : L_St_closeRule this p1 p2 p3 d = some (r, d')) : MC l y_St_closeRule prog_11_method_5_code 4 none rm_St_closeRule 0 [(2, this), (0, p1), (0, p2), (0, p3)] d none d' := by
  refine MC.of (by decide) (Nat.le_of_ble_eq_true rfl) ?_
  intro p e s m args below meth c D cA ad A C hlk hr
  replace C : Cx p s m args c prog_11_method_5_code 4 "PollBooks$Statute" D cA ad 0 A := C
  show G p l e rm_St_closeRule s m args below meth c 0 0 (MQ below (fun _ => QC D cA ad 0 A none none d') args s 0 0 A) 4 D cA ad 0 A 0 [(2, this), (0, p1), (0, p2), (0, p3)] [] d
  refine g_sub (lo2 := [(2, this), (0, p1), (0, p2), (0, p3)]) (lsb_v (lsb_v (lsb_v (lsb_v lsb_e)))) ?_
  unfold L_St_closeRule at h
  refine g_aload_n C 0 rfl (by decide +kernel) ?_
  obtain ⟨hs1_, h⟩ := ck_some h
  refine g_getI C cl9 (this.toNat + 0) 2 (stt_ko0 hs1_) (stt_cd hs1_ 0 (by decide)) ⟨by decide, rfl, by decide⟩ rfl (stt_n hs1_ 0 (by decide)) (ix := 31) lk_155 (by decide +kernel) (fun hc2_ => ?_)
  refine g_bipush C 20 (by decide) (by decide +kernel) ?_
  refine g_icmp_ge C (off := 43) (tgt := 49) hc2_ (cK rfl) (by decide +kernel) (by decide) (fun hc3_ => ?_) (fun hc3_ => ?_)
  · replace h := ite_t hc3_ h
    refine g_aload_n C 0 rfl (by decide +kernel) ?_
    obtain ⟨hs4_, h⟩ := ck_some h
    refine g_getR C cl9 (this.toNat + 0) 6 (this + 3) (stt_ko0 hs4_) (stt_cd hs4_ 0 (by decide)) ⟨by decide, rfl, by decide⟩ rfl (stt_ko hs4_ 3).symm (stt_n hs4_ 0 (by decide)) (ix := 16) lk_165 (by decide +kernel) ?_
    refine g_aload_n C 0 rfl (by decide +kernel) ?_
    obtain ⟨hs5_, h⟩ := ck_some h
    refine g_getI C cl9 (this.toNat + 0) 2 (stt_ko0 hs5_) (stt_cd hs5_ 0 (by decide)) ⟨by decide, rfl, by decide⟩ rfl (stt_n hs5_ 0 (by decide)) (ix := 31) lk_155 (by decide +kernel) (fun hc6_ => ?_)
    refine g_iload_n C 1 rfl (by decide +kernel) ?_
    obtain ⟨hs7_, h⟩ := ck_some h
    obtain ⟨hb8_, h⟩ := ck_some h
    refine g_iast C (this.toNat + 3) hp1 hc6_ (stt_ko hs7_ 3) (stt_cd hs7_ 3 (by decide)) (stt_n hs7_ 3 (by decide)) hb8_ (by decide +kernel) ?_
    refine g_aload_n C 0 rfl (by decide +kernel) ?_
    obtain ⟨hs9_, h⟩ := ck_some h
    refine g_getR C cl9 (this.toNat + 0) 7 (this + 4) (stt_ko0 hs9_) (stt_cd hs9_ 0 (by decide)) ⟨by decide, rfl, by decide⟩ rfl (stt_ko hs9_ 4).symm (stt_n hs9_ 0 (by decide)) (ix := 20) lk_167 (by decide +kernel) ?_
    refine g_aload_n C 0 rfl (by decide +kernel) ?_
    obtain ⟨hs10_, h⟩ := ck_some h
    refine g_getI C cl9 (this.toNat + 0) 2 (stt_ko0 hs10_) (stt_cd hs10_ 0 (by decide)) ⟨by decide, rfl, by decide⟩ rfl (stt_n hs10_ 0 (by decide)) (ix := 31) lk_155 (by decide +kernel) (fun hc11_ => ?_)
    refine g_iload_n C 2 rfl (by decide +kernel) ?_
    obtain ⟨hs12_, h⟩ := ck_some h
    obtain ⟨hb13_, h⟩ := ck_some h
    refine g_iast C (this.toNat + 4) hp2 hc11_ (stt_ko hs12_ 4) (stt_cd hs12_ 4 (by decide)) (stt_n hs12_ 4 (by decide)) hb13_ (by decide +kernel) ?_
    refine g_aload_n C 0 rfl (by decide +kernel) ?_
    obtain ⟨hs14_, h⟩ := ck_some h
    refine g_getR C cl9 (this.toNat + 0) 8 (this + 5) (stt_ko0 hs14_) (stt_cd hs14_ 0 (by decide)) ⟨by decide, rfl, by decide⟩ rfl (stt_ko hs14_ 5).symm (stt_n hs14_ 0 (by decide)) (ix := 23) lk_169 (by decide +kernel) ?_
    refine g_aload_n C 0 rfl (by decide +kernel) ?_
    obtain ⟨hs15_, h⟩ := ck_some h
    refine g_getI C cl9 (this.toNat + 0) 2 (stt_ko0 hs15_) (stt_cd hs15_ 0 (by decide)) ⟨by decide, rfl, by decide⟩ rfl (stt_n hs15_ 0 (by decide)) (ix := 31) lk_155 (by decide +kernel) (fun hc16_ => ?_)
    refine g_iload_n C 3 rfl (by decide +kernel) ?_
    obtain ⟨hs17_, h⟩ := ck_some h
    obtain ⟨hb18_, h⟩ := ck_some h
    refine g_iast C (this.toNat + 5) hp3 hc16_ (stt_ko hs17_ 5) (stt_cd hs17_ 5 (by decide)) (stt_n hs17_ 5 (by decide)) hb18_ (by decide +kernel) ?_
    refine g_aload_n C 0 rfl (by decide +kernel) ?_
    refine g_dup C tg2 (by decide +kernel) ?_
    obtain ⟨hs19_, h⟩ := ck_some h
    refine g_getI C cl9 (this.toNat + 0) 2 (stt_ko0 hs19_) (stt_cd hs19_ 0 (by decide)) ⟨by decide, rfl, by decide⟩ rfl (stt_n hs19_ 0 (by decide)) (ix := 31) lk_155 (by decide +kernel) (fun hc20_ => ?_)
    refine g_iconst C 1 (cK rfl) (by decide +kernel) ?_
    refine g_iadd C (by decide +kernel) ?_
    obtain ⟨hs21_, h⟩ := ck_some h
    refine g_putI C cl9 (this.toNat + 0) 2 (w32_c _) (stt_ko0 hs21_) (stt_cd hs21_ 0 (by decide)) ⟨by decide, rfl, by decide⟩ rfl (stt_n hs21_ 0 (by decide)) (ix := 31) lk_155 rfl rfl (by decide +kernel) ?_
    obtain ⟨rfl, rfl⟩ := ret_inj h
    exact g_vret C hlk hr (by decide +kernel)
  · replace h := ite_f hc3_ h
    obtain ⟨rfl, rfl⟩ := ret_inj h
    exact g_vret C hlk hr (by decide +kernel)
/-! PollBooks$Parser.takeTests()Z -/
def y_Pa_takeTests : MethodName := ⟨"PollBooks$Parser", "takeTests", "()Z"⟩
def rm_Pa_takeTests : Room := { frames := 18, cells := 0, slots := 0, locals := 425 }
theorem mw_Pa_takeTests : MW y_Pa_takeTests prog_6_method_24_code 3 (some .boolean) 0 := ⟨lk_822, lk_6, by decide +kernel⟩
def L_Pa_takeTests_b66 (x1 x2 : Int) (d : Dt) : Option (Int × Dt) :=
  ck (stt d (d 25 6)) (ck (stt d (d 25 6)) (bd (L_St_closeRule (d 25 6) x1 x2 (d ((d 25 6).toNat + 0) 3) d) (fun r4_ d3_ => some (1, d3_))))
def L_Pa_takeTests (d : Dt) : Option (Int × Dt) :=
  bd (L_Pa_kind d) (fun r9_ d8_ => ck (stt d8_ (d8_ 25 6)) (lt_ (d8_ ((d8_ 25 6).toNat + 0) 3) (fun v14_ => bd (L_Pa_next d8_) (fun r18_ d17_ => bd (L_Pa_takeTest d17_) (fun r22_ d21_ => if r22_ = 0 then some (0, d21_) else bd (L_Pa_kind d21_) (fun r27_ d26_ => if r27_ = 18 then bd (L_Pa_next d26_) (fun r32_ d31_ => bd (L_Pa_takeTest d31_) (fun r36_ d35_ => if r36_ = 0 then some (0, d35_) else ck (stt d35_ (d35_ 25 6)) (bd (L_St_addCode (d35_ 25 6) 26 d35_) (fun r41_ d40_ => ck (stt d40_ (d40_ 25 6)) (bd (L_St_addCode (d40_ 25 6) 25 d40_) (fun r46_ d45_ => L_Pa_takeTests_b66 r9_ v14_ d45_)))))) else L_Pa_takeTests_b66 r9_ v14_ d26_))))))
set_option maxHeartbeats 4000000 in
theorem ok_Pa_takeTests_b66 {p : Program} {l : Launch} {e : Env} {s : State} {m : MethodId} {args : Array Value} {below : List Frame} {meth : Method} {c : Code} {D : va_G} {cA : Nat → ClassId} {ad : Nat → Nat} {A : Nat → Prop} (C : Cx p s m args c prog_6_method_24_code 3 "PollBooks$Parser" D cA ad 0 A) (hlk : meth.locks = false) (hr : meth.sig.returnType = (some .boolean)) {r : Int} {d' : Dt} (x1 x2 : Int) (d : Dt) (hx1 : c32 x1) (hx2 : c32 x2) (h : L_Pa_takeTests_b66 x1 x2 d = some (r, d')) : G p l e rm_Pa_takeTests s m args below meth c 0 0 (MQ below (fun _ => QC D cA ad 0 A (some .boolean) (some (0, r)) d') args s 0 0 A) 3 D cA ad 0 A 66 [(2, 25), (0, x1), (0, x2)] [] d := by
  unfold L_Pa_takeTests_b66 at h
  refine g_aload_n C 0 rfl (by decide +kernel) ?_
  refine g_getM C cl4 25 6 rfl cd_A25 ⟨by decide, rfl, by decide⟩ rfl (nA (by decide)) (ix := 29) lk_201 (by decide +kernel) ?_
  refine g_iload_n C 1 rfl (by decide +kernel) ?_
  refine g_iload_n C 2 rfl (by decide +kernel) ?_
  refine g_aload_n C 0 rfl (by decide +kernel) ?_
  refine g_getM C cl4 25 6 rfl cd_A25 ⟨by decide, rfl, by decide⟩ rfl (nA (by decide)) (ix := 29) lk_201 (by decide +kernel) ?_
  obtain ⟨hs1_, h⟩ := ck_some h
  refine g_getIN C cl9 ((d 25 6).toNat + 0) 3 (stt_ko0 hs1_) (stt_cd hs1_ 0 (by decide)) ⟨by decide, rfl, by decide⟩ rfl (stt_n hs1_ 0 (by decide)) (ix := 133) lk_160 (by decide +kernel) (fun hc2_ => ?_)
  obtain ⟨hs6_, h⟩ := ck_some h
  obtain ⟨r4_, d3_, hr5_, h⟩ := bd_some h
  refine g_callV C mw_St_closeRule [(0, x1), (0, x2), (0, (d ((d 25 6).toNat + 0) 3))] ((d 25 6).toNat + 0) cl9 (stt_ko0 hs6_) (ok_St_closeRule (d 25 6) x1 x2 (d ((d 25 6).toNat + 0) 3) d hx1 hx2 hc2_ hr5_) (stt_cd hs6_ 0 (by decide)) (by decide) (stt_n hs6_ 0 (by decide)) (ix := 130) lk_839 lk_840 lk_841 ⟨rfl, rfl, Nat.le_of_ble_eq_true rfl, Nat.le_of_ble_eq_true rfl⟩ rfl (rest := []) rfl (Nat.le_of_ble_eq_true rfl) ⟨Nat.zero_le _, Nat.zero_le _⟩ (by decide +kernel) (fun _ hc7_ => ?_)
  refine g_st (st2 := []) rfl ?_
  refine g_iconst C 1 (cK rfl) (by decide +kernel) ?_
  obtain ⟨rfl, rfl⟩ := ret_inj h
  exact g_zret C (Or.inr rfl) hlk hr (by decide +kernel)
set_option maxHeartbeats 4000000 in
theorem ok_Pa_takeTests {l : Launch} {r : Int} {d' : Dt} (d : Dt)  (h : L_Pa_takeTests d = some (r, d')) : MC l y_Pa_takeTests prog_6_method_24_code 3 (some .boolean) rm_Pa_takeTests 0 [(2, 25)] d (some (0, r)) d' := by
  refine MC.of (by decide) (Nat.le_of_ble_eq_true rfl) ?_
  intro p e s m args below meth c D cA ad A C hlk hr
  replace C : Cx p s m args c prog_6_method_24_code 3 "PollBooks$Parser" D cA ad 0 A := C
  show G p l e rm_Pa_takeTests s m args below meth c 0 0 (MQ below (fun _ => QC D cA ad 0 A (some .boolean) (some (0, r)) d') args s 0 0 A) 3 D cA ad 0 A 0 [(2, 25)] [] d
  refine g_sub (lo2 := [(2, 25), (9, 0), (9, 0)]) (lsb_v (lsb_n (lsb_n lsb_e))) ?_
  unfold L_Pa_takeTests at h
  refine g_aload_n C 0 rfl (by decide +kernel) ?_
  obtain ⟨r9_, d8_, hr10_, h⟩ := bd_some h
  refine g_callV C mw_Pa_kind [] 25 cl4 rfl (ok_Pa_kind  d  hr10_) cd_A25 (by decide) (nA (by decide)) (ix := 53) lk_787 lk_789 lkp_12 ⟨rfl, rfl, Nat.le_of_ble_eq_true rfl, Nat.le_of_ble_eq_true rfl⟩ rfl (rest := []) rfl (Nat.le_of_ble_eq_true rfl) ⟨Nat.zero_le _, Nat.zero_le _⟩ (by decide +kernel) (fun _ hc11_ => ?_)
  replace hc11_ : c32 r9_ := hc11_
  refine g_st (st2 := [(0, r9_)]) rfl ?_
  refine s_istore_n C 1 (lo' := [(2, 25), (0, r9_), (9, 0)]) (by decide) (s1n (by decide) s1z) (by decide +kernel) ?_
  refine g_aload_n C 0 rfl (by decide +kernel) ?_
  refine g_getM C cl4 25 6 rfl cd_A25 ⟨by decide, rfl, by decide⟩ rfl (nA (by decide)) (ix := 29) lk_201 (by decide +kernel) ?_
  obtain ⟨hs12_, h⟩ := ck_some h
  refine g_getIN C cl9 ((d8_ 25 6).toNat + 0) 3 (stt_ko0 hs12_) (stt_cd hs12_ 0 (by decide)) ⟨by decide, rfl, by decide⟩ rfl (stt_n hs12_ 0 (by decide)) (ix := 133) lk_160 (by decide +kernel) (fun hc13_ => ?_)
  obtain ⟨v14_, ev15_, h⟩ := lt_some h
  refine g_val ev15_.symm ?_
  have hv16_ : c32 v14_ := by rw [ev15_]; exact hc13_
  refine s_istore_n C 2 (lo' := [(2, 25), (0, r9_), (0, v14_)]) (by decide) (s1k (s1n (by decide) s1z)) (by decide +kernel) ?_
  refine g_aload_n C 0 rfl (by decide +kernel) ?_
  obtain ⟨r18_, d17_, hr19_, h⟩ := bd_some h
  refine g_callV C mw_Pa_next [] 25 cl4 rfl (ok_Pa_next  d8_  hr19_) cd_A25 (by decide) (nA (by decide)) (ix := 98) lk_807 lk_809 lkp_16 ⟨rfl, rfl, Nat.le_of_ble_eq_true rfl, Nat.le_of_ble_eq_true rfl⟩ rfl (rest := []) rfl (Nat.le_of_ble_eq_true rfl) ⟨Nat.zero_le _, Nat.zero_le _⟩ (by decide +kernel) (fun _ hc20_ => ?_)
  refine g_st (st2 := []) rfl ?_
  refine g_aload_n C 0 rfl (by decide +kernel) ?_
  obtain ⟨r22_, d21_, hr23_, h⟩ := bd_some h
  refine g_callV C mw_Pa_takeTest [] 25 cl4 rfl (ok_Pa_takeTest  d17_  hr23_) cd_A25 (by decide) (nA (by decide)) (ix := 136) lk_823 lk_825 lkp_19 ⟨rfl, rfl, Nat.le_of_ble_eq_true rfl, Nat.le_of_ble_eq_true rfl⟩ rfl (rest := []) rfl (Nat.le_of_ble_eq_true rfl) ⟨Nat.zero_le _, Nat.zero_le _⟩ (by decide +kernel) (fun _ hc24_ => ?_)
  replace hc24_ : cb r22_ := hc24_
  refine g_st (st2 := [(0, r22_)]) rfl ?_
  refine g_if_ne C (off := 5) (tgt := 26) (c32_cb hc24_) (by decide +kernel) (by decide) (fun hc25_ => ?_) (fun hc25_ => ?_)
  · replace h := ite_t hc25_ h
    refine g_iconst C 0 (cK rfl) (by decide +kernel) ?_
    obtain ⟨rfl, rfl⟩ := ret_inj h
    exact g_zret C (Or.inl rfl) hlk hr (by decide +kernel)
  · replace h := ite_f hc25_ h
    refine g_aload_n C 0 rfl (by decide +kernel) ?_
    obtain ⟨r27_, d26_, hr28_, h⟩ := bd_some h
    refine g_callV C mw_Pa_kind [] 25 cl4 rfl (ok_Pa_kind  d21_  hr28_) cd_A25 (by decide) (nA (by decide)) (ix := 53) lk_787 lk_789 lkp_12 ⟨rfl, rfl, Nat.le_of_ble_eq_true rfl, Nat.le_of_ble_eq_true rfl⟩ rfl (rest := []) rfl (Nat.le_of_ble_eq_true rfl) ⟨Nat.zero_le _, Nat.zero_le _⟩ (by decide +kernel) (fun _ hc29_ => ?_)
    replace hc29_ : c32 r27_ := hc29_
    refine g_st (st2 := [(0, r27_)]) rfl ?_
    refine g_bipush C 18 (by decide) (by decide +kernel) ?_
    refine g_icmp_ne C (off := 34) (tgt := 66) hc29_ (cK rfl) (by decide +kernel) (by decide) (fun hc30_ => ?_) (fun hc30_ => ?_)
    · replace h := ite_t hc30_ h
      refine g_aload_n C 0 rfl (by decide +kernel) ?_
      obtain ⟨r32_, d31_, hr33_, h⟩ := bd_some h
      refine g_callV C mw_Pa_next [] 25 cl4 rfl (ok_Pa_next  d26_  hr33_) cd_A25 (by decide) (nA (by decide)) (ix := 98) lk_807 lk_809 lkp_16 ⟨rfl, rfl, Nat.le_of_ble_eq_true rfl, Nat.le_of_ble_eq_true rfl⟩ rfl (rest := []) rfl (Nat.le_of_ble_eq_true rfl) ⟨Nat.zero_le _, Nat.zero_le _⟩ (by decide +kernel) (fun _ hc34_ => ?_)
      refine g_st (st2 := []) rfl ?_
      refine g_aload_n C 0 rfl (by decide +kernel) ?_
      obtain ⟨r36_, d35_, hr37_, h⟩ := bd_some h
      refine g_callV C mw_Pa_takeTest [] 25 cl4 rfl (ok_Pa_takeTest  d31_  hr37_) cd_A25 (by decide) (nA (by decide)) (ix := 136) lk_823 lk_825 lkp_19 ⟨rfl, rfl, Nat.le_of_ble_eq_true rfl, Nat.le_of_ble_eq_true rfl⟩ rfl (rest := []) rfl (Nat.le_of_ble_eq_true rfl) ⟨Nat.zero_le _, Nat.zero_le _⟩ (by decide +kernel) (fun _ hc38_ => ?_)
      replace hc38_ : cb r36_ := hc38_
      refine g_st (st2 := [(0, r36_)]) rfl ?_
      refine g_if_ne C (off := 5) (tgt := 48) (c32_cb hc38_) (by decide +kernel) (by decide) (fun hc39_ => ?_) (fun hc39_ => ?_)
      · replace h := ite_t hc39_ h
        refine g_iconst C 0 (cK rfl) (by decide +kernel) ?_
        obtain ⟨rfl, rfl⟩ := ret_inj h
        exact g_zret C (Or.inl rfl) hlk hr (by decide +kernel)
      · replace h := ite_f hc39_ h
        refine g_aload_n C 0 rfl (by decide +kernel) ?_
        refine g_getM C cl4 25 6 rfl cd_A25 ⟨by decide, rfl, by decide⟩ rfl (nA (by decide)) (ix := 29) lk_201 (by decide +kernel) ?_
        refine g_bipush C 26 (by decide) (by decide +kernel) ?_
        obtain ⟨hs43_, h⟩ := ck_some h
        obtain ⟨r41_, d40_, hr42_, h⟩ := bd_some h
        refine g_callV C mw_St_addCode [(0, 26)] ((d35_ 25 6).toNat + 0) cl9 (stt_ko0 hs43_) (ok_St_addCode (d35_ 25 6) 26 d35_ (cK rfl) hr42_) (stt_cd hs43_ 0 (by decide)) (by decide) (stt_n hs43_ 0 (by decide)) (ix := 139) lk_835 lk_836 lk_837 ⟨rfl, rfl, Nat.le_of_ble_eq_true rfl, Nat.le_of_ble_eq_true rfl⟩ rfl (rest := []) rfl (Nat.le_of_ble_eq_true rfl) ⟨Nat.zero_le _, Nat.zero_le _⟩ (by decide +kernel) (fun _ hc44_ => ?_)
        refine g_st (st2 := []) rfl ?_
        refine g_aload_n C 0 rfl (by decide +kernel) ?_
        refine g_getM C cl4 25 6 rfl cd_A25 ⟨by decide, rfl, by decide⟩ rfl (nA (by decide)) (ix := 29) lk_201 (by decide +kernel) ?_
        refine g_bipush C 25 (by decide) (by decide +kernel) ?_
        obtain ⟨hs48_, h⟩ := ck_some h
        obtain ⟨r46_, d45_, hr47_, h⟩ := bd_some h
        refine g_callV C mw_St_addCode [(0, 25)] ((d40_ 25 6).toNat + 0) cl9 (stt_ko0 hs48_) (ok_St_addCode (d40_ 25 6) 25 d40_ (cK rfl) hr47_) (stt_cd hs48_ 0 (by decide)) (by decide) (stt_n hs48_ 0 (by decide)) (ix := 139) lk_835 lk_836 lk_837 ⟨rfl, rfl, Nat.le_of_ble_eq_true rfl, Nat.le_of_ble_eq_true rfl⟩ rfl (rest := []) rfl (Nat.le_of_ble_eq_true rfl) ⟨Nat.zero_le _, Nat.zero_le _⟩ (by decide +kernel) (fun _ hc49_ => ?_)
        refine g_st (st2 := []) rfl ?_
        refine g_sub (lo2 := [(2, 25), (0, r9_), (0, v14_)]) (lsb_v (lsb_v (lsb_v lsb_e))) ?_
        exact ok_Pa_takeTests_b66 C hlk hr r9_ v14_ d45_ hc11_ hv16_ h
    · replace h := ite_f hc30_ h
      refine g_sub (lo2 := [(2, 25), (0, r9_), (0, v14_)]) (lsb_v (lsb_v (lsb_v lsb_e))) ?_
      exact ok_Pa_takeTests_b66 C hlk hr r9_ v14_ d26_ hc11_ hv16_ h
/-! PollBooks$Parser.takeNumber(II)I -/
def y_Pa_takeNumber : MethodName := ⟨"PollBooks$Parser", "takeNumber", "(II)I"⟩
def rm_Pa_takeNumber : Room := { frames := 1, cells := 0, slots := 0, locals := 21 }
theorem mw_Pa_takeNumber : MW y_Pa_takeNumber prog_6_method_19_code 5 (some .int) 2 := ⟨lk_850, lk_6, by decide +kernel⟩
def L_Pa_takeNumber_b45 (d : Dt) : Option (Int × Dt) :=
  bd (L_Pa_refuse 6 d) (fun r2_ d1_ => some ((-1), d1_))
def L_Pa_takeNumber (p1 p2 : Int) (d : Dt) : Option (Int × Dt) :=
  ck ((0 : Int) ≤ (d 25 5) ∧ (d 25 5) < 601) (lt_ (d 28 ((d 25 5)).toNat) (fun v8_ => ck ((0 : Int) ≤ (d 25 5) ∧ (d 25 5) < 601) (if (d 27 ((d 25 5)).toNat) = 2 then if v8_ < p1 then L_Pa_takeNumber_b45 d else if p2 < v8_ then L_Pa_takeNumber_b45 d else bd (L_Pa_next d) (fun r18_ d17_ => some ((w32 v8_), d17_)) else bd (L_Pa_refuse 2 d) (fun r22_ d21_ => some ((-1), d21_)))))
set_option maxHeartbeats 4000000 in
theorem ok_Pa_takeNumber_b45 {p : Program} {l : Launch} {e : Env} {s : State} {m : MethodId} {args : Array Value} {below : List Frame} {meth : Method} {c : Code} {D : va_G} {cA : Nat → ClassId} {ad : Nat → Nat} {A : Nat → Prop} (C : Cx p s m args c prog_6_method_19_code 5 "PollBooks$Parser" D cA ad 0 A) (hlk : meth.locks = false) (hr : meth.sig.returnType = (some .int)) {r : Int} {d' : Dt} (d : Dt)  (h : L_Pa_takeNumber_b45 d = some (r, d')) : G p l e rm_Pa_takeNumber s m args below meth c 0 0 (MQ below (fun _ => QC D cA ad 0 A (some .int) (some (0, r)) d') args s 0 0 A) 5 D cA ad 0 A 45 [(2, 25), (9, 0), (9, 0), (9, 0), (9, 0)] [] d := by
  unfold L_Pa_takeNumber_b45 at h
  refine g_aload_n C 0 rfl (by decide +kernel) ?_
  refine g_bipush C 6 (by decide) (by decide +kernel) ?_
  obtain ⟨r2_, d1_, hr3_, h⟩ := bd_some h
  refine g_callV C mw_Pa_refuse [(0, 6)] 25 cl4 rfl (ok_Pa_refuse 6 d (cK rfl) hr3_) cd_A25 (by decide) (nA (by decide)) (ix := 95) lk_799 lk_801 lkp_15 ⟨rfl, rfl, Nat.le_of_ble_eq_true rfl, Nat.le_of_ble_eq_true rfl⟩ rfl (rest := []) rfl (Nat.le_of_ble_eq_true rfl) ⟨Nat.zero_le _, Nat.zero_le _⟩ (by decide +kernel) (fun _ hc4_ => ?_)
  replace hc4_ : cb r2_ := hc4_
  refine g_st (st2 := [(0, r2_)]) rfl ?_
  refine g_pop C tg0 (by decide +kernel) ?_
  refine g_iconst C (-1) (cK rfl) (by decide +kernel) ?_
  obtain ⟨rfl, rfl⟩ := ret_inj h
  exact g_iret C (cK rfl) hlk hr (by decide +kernel)
set_option maxHeartbeats 4000000 in
theorem ok_Pa_takeNumber {l : Launch} {r : Int} {d' : Dt} (p1 p2 : Int) (d : Dt) (hp1 : c32 p1) (hp2 : c32 p2) (h : L_Pa_takeNumber p1 p2 d = some (r, d')) : MC l y_Pa_takeNumber prog_6_method_19_code 5 (some .int) rm_Pa_takeNumber 0 [(2, 25), (0, p1), (0, p2)] d (some (0, r)) d' := by
  refine MC.of (by decide) (Nat.le_of_ble_eq_true rfl) ?_
  intro p e s m args below meth c D cA ad A C hlk hr
  replace C : Cx p s m args c prog_6_method_19_code 5 "PollBooks$Parser" D cA ad 0 A := C
  show G p l e rm_Pa_takeNumber s m args below meth c 0 0 (MQ below (fun _ => QC D cA ad 0 A (some .int) (some (0, r)) d') args s 0 0 A) 5 D cA ad 0 A 0 [(2, 25), (0, p1), (0, p2)] [] d
  refine g_sub (lo2 := [(2, 25), (0, p1), (0, p2), (9, 0), (9, 0)]) (lsb_v (lsb_v (lsb_v (lsb_n (lsb_n lsb_e))))) ?_
  unfold L_Pa_takeNumber at h
  refine g_aload_n C 0 rfl (by decide +kernel) ?_
  refine g_getR C cl4 25 3 28 rfl cd_A25 ⟨by decide, rfl, by decide⟩ rfl rfl (nA (by decide)) (ix := 19) lk_198 (by decide +kernel) ?_
  refine g_aload_n C 0 rfl (by decide +kernel) ?_
  refine g_getI C cl4 25 5 rfl cd_A25 ⟨by decide, rfl, by decide⟩ rfl (nA (by decide)) (ix := 46) lk_200 (by decide +kernel) (fun hc5_ => ?_)
  obtain ⟨hb6_, h⟩ := ck_some h
  refine g_lald C 28 hc5_ rfl cd_A28 (nA (by decide)) hb6_ (by decide +kernel) (fun hc7_ => ?_)
  obtain ⟨v8_, ev9_, h⟩ := lt_some h
  refine g_val ev9_.symm ?_
  have hv10_ : c64 v8_ := by rw [ev9_]; exact hc7_
  refine s_lstore_n C 3 (lo' := [(2, 25), (0, p1), (0, p2), (1, v8_), (9, 0)]) (by decide) (s2k (s2k (s2n (by decide) s2z))) (by decide +kernel) ?_
  refine g_aload_n C 0 rfl (by decide +kernel) ?_
  refine g_getR C cl4 25 2 27 rfl cd_A25 ⟨by decide, rfl, by decide⟩ rfl rfl (nA (by decide)) (ix := 15) lk_197 (by decide +kernel) ?_
  refine g_aload_n C 0 rfl (by decide +kernel) ?_
  refine g_getI C cl4 25 5 rfl cd_A25 ⟨by decide, rfl, by decide⟩ rfl (nA (by decide)) (ix := 46) lk_200 (by decide +kernel) (fun hc11_ => ?_)
  obtain ⟨hb12_, h⟩ := ck_some h
  refine g_iald C 27 hc11_ rfl cd_A27 (nA (by decide)) hb12_ (by decide +kernel) (fun hc13_ => ?_)
  refine g_iconst C 2 (cK rfl) (by decide +kernel) ?_
  refine g_icmp_eq C (off := 11) (tgt := 31) hc13_ (cK rfl) (by decide +kernel) (by decide) (fun hc14_ => ?_) (fun hc14_ => ?_)
  · replace h := ite_t hc14_ h
    refine g_lload_n C 3 rfl (by decide +kernel) ?_
    refine g_iload_n C 1 rfl (by decide +kernel) ?_
    refine g_i2l C hp1 (by decide +kernel) ?_
    refine g_lc_lt C (off := 10) (tgt := 45) hv10_ (c64_32 hp1) (by decide +kernel) (by decide +kernel) (by decide) (fun hc15_ => ?_) (fun hc15_ => ?_)
    · replace h := ite_t hc15_ h
      refine g_sub (lo2 := [(2, 25), (9, 0), (9, 0), (9, 0), (9, 0)]) (lsb_v (lsb_c (lsb_c (lsb_c (lsb_c lsb_e))))) ?_
      exact ok_Pa_takeNumber_b45 C hlk hr d  h
    · replace h := ite_f hc15_ h
      refine g_lload_n C 3 rfl (by decide +kernel) ?_
      refine g_iload_n C 2 rfl (by decide +kernel) ?_
      refine g_i2l C hp2 (by decide +kernel) ?_
      refine g_lc_le C (off := 12) (tgt := 54) hv10_ (c64_32 hp2) (by decide +kernel) (by decide +kernel) (by decide) (fun hc16_ => ?_) (fun hc16_ => ?_)
      · replace h := ite_t hc16_ h
        refine g_sub (lo2 := [(2, 25), (9, 0), (9, 0), (9, 0), (9, 0)]) (lsb_v (lsb_c (lsb_c (lsb_c (lsb_c lsb_e))))) ?_
        exact ok_Pa_takeNumber_b45 C hlk hr d  h
      · replace h := ite_f hc16_ h
        refine g_aload_n C 0 rfl (by decide +kernel) ?_
        obtain ⟨r18_, d17_, hr19_, h⟩ := bd_some h
        refine g_callV C mw_Pa_next [] 25 cl4 rfl (ok_Pa_next  d  hr19_) cd_A25 (by decide) (nA (by decide)) (ix := 98) lk_807 lk_809 lkp_16 ⟨rfl, rfl, Nat.le_of_ble_eq_true rfl, Nat.le_of_ble_eq_true rfl⟩ rfl (rest := []) rfl (Nat.le_of_ble_eq_true rfl) ⟨Nat.zero_le _, Nat.zero_le _⟩ (by decide +kernel) (fun _ hc20_ => ?_)
        refine g_st (st2 := []) rfl ?_
        refine g_lload_n C 3 rfl (by decide +kernel) ?_
        refine g_l2i C (by decide +kernel) ?_
        obtain ⟨rfl, rfl⟩ := ret_inj h
        exact g_iret C (w32_c _) hlk hr (by decide +kernel)
  · replace h := ite_f hc14_ h
    refine g_aload_n C 0 rfl (by decide +kernel) ?_
    refine g_iconst C 2 (cK rfl) (by decide +kernel) ?_
    obtain ⟨r22_, d21_, hr23_, h⟩ := bd_some h
    refine g_callV C mw_Pa_refuse [(0, 2)] 25 cl4 rfl (ok_Pa_refuse 2 d (cK rfl) hr23_) cd_A25 (by decide) (nA (by decide)) (ix := 95) lk_799 lk_801 lkp_15 ⟨rfl, rfl, Nat.le_of_ble_eq_true rfl, Nat.le_of_ble_eq_true rfl⟩ rfl (rest := []) rfl (Nat.le_of_ble_eq_true rfl) ⟨Nat.zero_le _, Nat.zero_le _⟩ (by decide +kernel) (fun _ hc24_ => ?_)
    replace hc24_ : cb r22_ := hc24_
    refine g_st (st2 := [(0, r22_)]) rfl ?_
    refine g_pop C tg0 (by decide +kernel) ?_
    refine g_iconst C (-1) (cK rfl) (by decide +kernel) ?_
    obtain ⟨rfl, rfl⟩ := ret_inj h
    exact g_iret C (cK rfl) hlk hr (by decide +kernel)
/-! PollBooks$Parser.takeNames()Z -/
def y_Pa_takeNames : MethodName := ⟨"PollBooks$Parser", "takeNames", "()Z"⟩
def rm_Pa_takeNames : Room := { frames := 2, cells := 0, slots := 0, locals := 45 }
theorem mw_Pa_takeNames : MW y_Pa_takeNames prog_6_method_22_code 2 (some .boolean) 0 := ⟨lk_846, lk_6, by decide +kernel⟩
def L_Pa_takeNames (d : Dt) : Option (Int × Dt) :=
  bd (L_Pa_next d) (fun r2_ d1_ => bd (L_Pa_takeNumber 1 4 d1_) (fun r6_ d5_ => ck (stt d5_ (d5_ 25 6)) (bd (L_St_closeRule (d5_ 25 6) 21 r6_ (-1) d5_) (fun r10_ d9_ => if r6_ = (-1) then some (0, d9_) else some (1, d9_)))))
set_option maxHeartbeats 4000000 in
theorem ok_Pa_takeNames {l : Launch} {r : Int} {d' : Dt} (d : Dt)  (h : L_Pa_takeNames d = some (r, d')) : MC l y_Pa_takeNames prog_6_method_22_code 2 (some .boolean) rm_Pa_takeNames 0 [(2, 25)] d (some (0, r)) d' := by
  refine MC.of (by decide) (Nat.le_of_ble_eq_true rfl) ?_
  intro p e s m args below meth c D cA ad A C hlk hr
  replace C : Cx p s m args c prog_6_method_22_code 2 "PollBooks$Parser" D cA ad 0 A := C
  show G p l e rm_Pa_takeNames s m args below meth c 0 0 (MQ below (fun _ => QC D cA ad 0 A (some .boolean) (some (0, r)) d') args s 0 0 A) 2 D cA ad 0 A 0 [(2, 25)] [] d
  refine g_sub (lo2 := [(2, 25), (9, 0)]) (lsb_v (lsb_n lsb_e)) ?_
  unfold L_Pa_takeNames at h
  refine g_aload_n C 0 rfl (by decide +kernel) ?_
  obtain ⟨r2_, d1_, hr3_, h⟩ := bd_some h
  refine g_callV C mw_Pa_next [] 25 cl4 rfl (ok_Pa_next  d  hr3_) cd_A25 (by decide) (nA (by decide)) (ix := 98) lk_807 lk_809 lkp_16 ⟨rfl, rfl, Nat.le_of_ble_eq_true rfl, Nat.le_of_ble_eq_true rfl⟩ rfl (rest := []) rfl (Nat.le_of_ble_eq_true rfl) ⟨Nat.zero_le _, Nat.zero_le _⟩ (by decide +kernel) (fun _ hc4_ => ?_)
  refine g_st (st2 := []) rfl ?_
  refine g_aload_n C 0 rfl (by decide +kernel) ?_
  refine g_iconst C 1 (cK rfl) (by decide +kernel) ?_
  refine g_iconst C 4 (cK rfl) (by decide +kernel) ?_
  obtain ⟨r6_, d5_, hr7_, h⟩ := bd_some h
  refine g_callV C mw_Pa_takeNumber [(0, 1), (0, 4)] 25 cl4 rfl (ok_Pa_takeNumber 1 4 d1_ (c32_cb (Or.inr rfl)) (cK rfl) hr7_) cd_A25 (by decide) (nA (by decide)) (ix := 127) lk_847 lk_849 lkp_23 ⟨rfl, rfl, Nat.le_of_ble_eq_true rfl, Nat.le_of_ble_eq_true rfl⟩ rfl (rest := []) rfl (Nat.le_of_ble_eq_true rfl) ⟨Nat.zero_le _, Nat.zero_le _⟩ (by decide +kernel) (fun _ hc8_ => ?_)
  replace hc8_ : c32 r6_ := hc8_
  refine g_st (st2 := [(0, r6_)]) rfl ?_
  refine s_istore_n C 1 (lo' := [(2, 25), (0, r6_)]) (by decide) (s1n (by decide) s1z) (by decide +kernel) ?_
  refine g_aload_n C 0 rfl (by decide +kernel) ?_
  refine g_getM C cl4 25 6 rfl cd_A25 ⟨by decide, rfl, by decide⟩ rfl (nA (by decide)) (ix := 29) lk_201 (by decide +kernel) ?_
  refine g_bipush C 21 (by decide) (by decide +kernel) ?_
  refine g_iload_n C 1 rfl (by decide +kernel) ?_
  refine g_iconst C (-1) (cK rfl) (by decide +kernel) ?_
  obtain ⟨hs12_, h⟩ := ck_some h
  obtain ⟨r10_, d9_, hr11_, h⟩ := bd_some h
  refine g_callV C mw_St_closeRule [(0, 21), (0, r6_), (0, (-1))] ((d5_ 25 6).toNat + 0) cl9 (stt_ko0 hs12_) (ok_St_closeRule (d5_ 25 6) 21 r6_ (-1) d5_ (cK rfl) hc8_ (cK rfl) hr11_) (stt_cd hs12_ 0 (by decide)) (by decide) (stt_n hs12_ 0 (by decide)) (ix := 130) lk_839 lk_840 lk_841 ⟨rfl, rfl, Nat.le_of_ble_eq_true rfl, Nat.le_of_ble_eq_true rfl⟩ rfl (rest := []) rfl (Nat.le_of_ble_eq_true rfl) ⟨Nat.zero_le _, Nat.zero_le _⟩ (by decide +kernel) (fun _ hc13_ => ?_)
  refine g_st (st2 := []) rfl ?_
  refine g_iload_n C 1 rfl (by decide +kernel) ?_
  refine g_iconst C (-1) (cK rfl) (by decide +kernel) ?_
  refine g_icmp_eq C (off := 7) (tgt := 31) hc8_ (cK rfl) (by decide +kernel) (by decide) (fun hc14_ => ?_) (fun hc14_ => ?_)
  · replace h := ite_t hc14_ h
    refine g_iconst C 0 (cK rfl) (by decide +kernel) ?_
    obtain ⟨rfl, rfl⟩ := ret_inj h
    exact g_zret C (Or.inl rfl) hlk hr (by decide +kernel)
  · replace h := ite_f hc14_ h
    refine g_iconst C 1 (cK rfl) (by decide +kernel) ?_
    refine g_goto C 32 (off := 4) (by decide +kernel) (by decide) ?_
    obtain ⟨rfl, rfl⟩ := ret_inj h
    exact g_zret C (Or.inr rfl) hlk hr (by decide +kernel)
/-! PollBooks$Parser.takeHours()Z -/
def y_Pa_takeHours : MethodName := ⟨"PollBooks$Parser", "takeHours", "()Z"⟩
def rm_Pa_takeHours : Room := { frames := 2, cells := 0, slots := 0, locals := 45 }
theorem mw_Pa_takeHours : MW y_Pa_takeHours prog_6_method_23_code 3 (some .boolean) 0 := ⟨lk_854, lk_6, by decide +kernel⟩
def L_Pa_takeHours (d : Dt) : Option (Int × Dt) :=
  bd (L_Pa_next d) (fun r2_ d1_ => bd (L_Pa_takeNumber 0 1439 d1_) (fun r6_ d5_ => if r6_ = (-1) then some (0, d5_) else bd (L_Pa_passes 23 d5_) (fun r11_ d10_ => if r11_ = 0 then some (0, d10_) else bd (L_Pa_takeNumber r6_ 1439 d10_) (fun r16_ d15_ => ck (stt d15_ (d15_ 25 6)) (bd (L_St_closeRule (d15_ 25 6) 22 r6_ r16_ d15_) (fun r20_ d19_ => if r16_ = (-1) then some (0, d19_) else some (1, d19_)))))))
set_option maxHeartbeats 4000000 in
theorem ok_Pa_takeHours {l : Launch} {r : Int} {d' : Dt} (d : Dt)  (h : L_Pa_takeHours d = some (r, d')) : MC l y_Pa_takeHours prog_6_method_23_code 3 (some .boolean) rm_Pa_takeHours 0 [(2, 25)] d (some (0, r)) d' := by
  refine MC.of (by decide) (Nat.le_of_ble_eq_true rfl) ?_
  intro p e s m args below meth c D cA ad A C hlk hr
  replace C : Cx p s m args c prog_6_method_23_code 3 "PollBooks$Parser" D cA ad 0 A := C
  show G p l e rm_Pa_takeHours s m args below meth c 0 0 (MQ below (fun _ => QC D cA ad 0 A (some .boolean) (some (0, r)) d') args s 0 0 A) 3 D cA ad 0 A 0 [(2, 25)] [] d
  refine g_sub (lo2 := [(2, 25), (9, 0), (9, 0)]) (lsb_v (lsb_n (lsb_n lsb_e))) ?_
  unfold L_Pa_takeHours at h
  refine g_aload_n C 0 rfl (by decide +kernel) ?_
  obtain ⟨r2_, d1_, hr3_, h⟩ := bd_some h
  refine g_callV C mw_Pa_next [] 25 cl4 rfl (ok_Pa_next  d  hr3_) cd_A25 (by decide) (nA (by decide)) (ix := 98) lk_807 lk_809 lkp_16 ⟨rfl, rfl, Nat.le_of_ble_eq_true rfl, Nat.le_of_ble_eq_true rfl⟩ rfl (rest := []) rfl (Nat.le_of_ble_eq_true rfl) ⟨Nat.zero_le _, Nat.zero_le _⟩ (by decide +kernel) (fun _ hc4_ => ?_)
  refine g_st (st2 := []) rfl ?_
  refine g_aload_n C 0 rfl (by decide +kernel) ?_
  refine g_iconst C 0 (cK rfl) (by decide +kernel) ?_
  refine g_sipush C 1439 (by decide) (by decide +kernel) ?_
  obtain ⟨r6_, d5_, hr7_, h⟩ := bd_some h
  refine g_callV C mw_Pa_takeNumber [(0, 0), (0, 1439)] 25 cl4 rfl (ok_Pa_takeNumber 0 1439 d1_ (c32_cb (Or.inl rfl)) (cK rfl) hr7_) cd_A25 (by decide) (nA (by decide)) (ix := 127) lk_847 lk_849 lkp_23 ⟨rfl, rfl, Nat.le_of_ble_eq_true rfl, Nat.le_of_ble_eq_true rfl⟩ rfl (rest := []) rfl (Nat.le_of_ble_eq_true rfl) ⟨Nat.zero_le _, Nat.zero_le _⟩ (by decide +kernel) (fun _ hc8_ => ?_)
  replace hc8_ : c32 r6_ := hc8_
  refine g_st (st2 := [(0, r6_)]) rfl ?_
  refine s_istore_n C 1 (lo' := [(2, 25), (0, r6_), (9, 0)]) (by decide) (s1n (by decide) s1z) (by decide +kernel) ?_
  refine g_iload_n C 1 rfl (by decide +kernel) ?_
  refine g_iconst C (-1) (cK rfl) (by decide +kernel) ?_
  refine g_icmp_eq C (off := 12) (tgt := 27) hc8_ (cK rfl) (by decide +kernel) (by decide) (fun hc9_ => ?_) (fun hc9_ => ?_)
  · replace h := ite_t hc9_ h
    refine g_iconst C 0 (cK rfl) (by decide +kernel) ?_
    obtain ⟨rfl, rfl⟩ := ret_inj h
    exact g_zret C (Or.inl rfl) hlk hr (by decide +kernel)
  · replace h := ite_f hc9_ h
    refine g_aload_n C 0 rfl (by decide +kernel) ?_
    refine g_bipush C 23 (by decide) (by decide +kernel) ?_
    obtain ⟨r11_, d10_, hr12_, h⟩ := bd_some h
    refine g_callV C mw_Pa_passes [(0, 23)] 25 cl4 rfl (ok_Pa_passes 23 d5_ (cK rfl) hr12_) cd_A25 (by decide) (nA (by decide)) (ix := 104) lk_811 lk_813 lkp_17 ⟨rfl, rfl, Nat.le_of_ble_eq_true rfl, Nat.le_of_ble_eq_true rfl⟩ rfl (rest := []) rfl (Nat.le_of_ble_eq_true rfl) ⟨Nat.zero_le _, Nat.zero_le _⟩ (by decide +kernel) (fun _ hc13_ => ?_)
    replace hc13_ : cb r11_ := hc13_
    refine g_st (st2 := [(0, r11_)]) rfl ?_
    refine g_if_ne C (off := 5) (tgt := 29) (c32_cb hc13_) (by decide +kernel) (by decide) (fun hc14_ => ?_) (fun hc14_ => ?_)
    · replace h := ite_t hc14_ h
      refine g_iconst C 0 (cK rfl) (by decide +kernel) ?_
      obtain ⟨rfl, rfl⟩ := ret_inj h
      exact g_zret C (Or.inl rfl) hlk hr (by decide +kernel)
    · replace h := ite_f hc14_ h
      refine g_aload_n C 0 rfl (by decide +kernel) ?_
      refine g_iload_n C 1 rfl (by decide +kernel) ?_
      refine g_sipush C 1439 (by decide) (by decide +kernel) ?_
      obtain ⟨r16_, d15_, hr17_, h⟩ := bd_some h
      refine g_callV C mw_Pa_takeNumber [(0, r6_), (0, 1439)] 25 cl4 rfl (ok_Pa_takeNumber r6_ 1439 d10_ hc8_ (cK rfl) hr17_) cd_A25 (by decide) (nA (by decide)) (ix := 127) lk_847 lk_849 lkp_23 ⟨rfl, rfl, Nat.le_of_ble_eq_true rfl, Nat.le_of_ble_eq_true rfl⟩ rfl (rest := []) rfl (Nat.le_of_ble_eq_true rfl) ⟨Nat.zero_le _, Nat.zero_le _⟩ (by decide +kernel) (fun _ hc18_ => ?_)
      replace hc18_ : c32 r16_ := hc18_
      refine g_st (st2 := [(0, r16_)]) rfl ?_
      refine s_istore_n C 2 (lo' := [(2, 25), (0, r6_), (0, r16_)]) (by decide) (s1k (s1n (by decide) s1z)) (by decide +kernel) ?_
      refine g_aload_n C 0 rfl (by decide +kernel) ?_
      refine g_getM C cl4 25 6 rfl cd_A25 ⟨by decide, rfl, by decide⟩ rfl (nA (by decide)) (ix := 29) lk_201 (by decide +kernel) ?_
      refine g_bipush C 22 (by decide) (by decide +kernel) ?_
      refine g_iload_n C 1 rfl (by decide +kernel) ?_
      refine g_iload_n C 2 rfl (by decide +kernel) ?_
      obtain ⟨hs22_, h⟩ := ck_some h
      obtain ⟨r20_, d19_, hr21_, h⟩ := bd_some h
      refine g_callV C mw_St_closeRule [(0, 22), (0, r6_), (0, r16_)] ((d15_ 25 6).toNat + 0) cl9 (stt_ko0 hs22_) (ok_St_closeRule (d15_ 25 6) 22 r6_ r16_ d15_ (cK rfl) hc8_ hc18_ hr21_) (stt_cd hs22_ 0 (by decide)) (by decide) (stt_n hs22_ 0 (by decide)) (ix := 130) lk_839 lk_840 lk_841 ⟨rfl, rfl, Nat.le_of_ble_eq_true rfl, Nat.le_of_ble_eq_true rfl⟩ rfl (rest := []) rfl (Nat.le_of_ble_eq_true rfl) ⟨Nat.zero_le _, Nat.zero_le _⟩ (by decide +kernel) (fun _ hc23_ => ?_)
      refine g_st (st2 := []) rfl ?_
      refine g_iload_n C 2 rfl (by decide +kernel) ?_
      refine g_iconst C (-1) (cK rfl) (by decide +kernel) ?_
      refine g_icmp_eq C (off := 7) (tgt := 58) hc18_ (cK rfl) (by decide +kernel) (by decide) (fun hc24_ => ?_) (fun hc24_ => ?_)
      · replace h := ite_t hc24_ h
        refine g_iconst C 0 (cK rfl) (by decide +kernel) ?_
        obtain ⟨rfl, rfl⟩ := ret_inj h
        exact g_zret C (Or.inl rfl) hlk hr (by decide +kernel)
      · replace h := ite_f hc24_ h
        refine g_iconst C 1 (cK rfl) (by decide +kernel) ?_
        refine g_goto C 59 (off := 4) (by decide +kernel) (by decide) ?_
        obtain ⟨rfl, rfl⟩ := ret_inj h
        exact g_zret C (Or.inr rfl) hlk hr (by decide +kernel)
/-! PollBooks$Parser.takeRule()Z -/
def y_Pa_takeRule : MethodName := ⟨"PollBooks$Parser", "takeRule", "()Z"⟩
def rm_Pa_takeRule : Room := { frames := 19, cells := 0, slots := 0, locals := 447 }
theorem mw_Pa_takeRule : MW y_Pa_takeRule prog_6_method_20_code 1 (some .boolean) 0 := ⟨lk_794, lk_6, by decide +kernel⟩
def L_Pa_takeRule (d : Dt) : Option (Int × Dt) :=
  bd (L_Pa_takeLabels d) (fun r2_ d1_ => if r2_ = 0 then some (0, d1_) else bd (L_Pa_passes 58 d1_) (fun r7_ d6_ => if r7_ = 0 then some (0, d6_) else bd (L_Pa_kind d6_) (fun r12_ d11_ => if r12_ = 17 then bd (L_Pa_takeTests d11_) (fun r17_ d16_ => if r17_ = 0 then some (0, d16_) else bd (L_Pa_passes 59 d16_) (fun r22_ d21_ => if r22_ = 0 then some (0, d21_) else some (1, d21_))) else if r12_ = 18 then bd (L_Pa_refuse 2 d11_) (fun r28_ d27_ => some (r28_, d27_)) else if r12_ = 19 then bd (L_Pa_takeTests d11_) (fun r33_ d32_ => if r33_ = 0 then some (0, d32_) else bd (L_Pa_passes 59 d32_) (fun r38_ d37_ => if r38_ = 0 then some (0, d37_) else some (1, d37_))) else if r12_ = 20 then bd (L_Pa_takeTests d11_) (fun r44_ d43_ => if r44_ = 0 then some (0, d43_) else bd (L_Pa_passes 59 d43_) (fun r49_ d48_ => if r49_ = 0 then some (0, d48_) else some (1, d48_))) else if r12_ = 21 then bd (L_Pa_takeNames d11_) (fun r55_ d54_ => if r55_ = 0 then some (0, d54_) else bd (L_Pa_passes 59 d54_) (fun r60_ d59_ => if r60_ = 0 then some (0, d59_) else some (1, d59_))) else if r12_ = 22 then bd (L_Pa_takeHours d11_) (fun r66_ d65_ => if r66_ = 0 then some (0, d65_) else bd (L_Pa_passes 59 d65_) (fun r71_ d70_ => if r71_ = 0 then some (0, d70_) else some (1, d70_))) else bd (L_Pa_refuse 2 d11_) (fun r76_ d75_ => some (r76_, d75_)))))
set_option maxHeartbeats 4000000 in
theorem ok_Pa_takeRule {l : Launch} {r : Int} {d' : Dt} (d : Dt)  (h : L_Pa_takeRule d = some (r, d')) : MC l y_Pa_takeRule prog_6_method_20_code 1 (some .boolean) rm_Pa_takeRule 0 [(2, 25)] d (some (0, r)) d' := by
  refine MC.of (by decide) (Nat.le_of_ble_eq_true rfl) ?_
  intro p e s m args below meth c D cA ad A C hlk hr
  replace C : Cx p s m args c prog_6_method_20_code 1 "PollBooks$Parser" D cA ad 0 A := C
  show G p l e rm_Pa_takeRule s m args below meth c 0 0 (MQ below (fun _ => QC D cA ad 0 A (some .boolean) (some (0, r)) d') args s 0 0 A) 1 D cA ad 0 A 0 [(2, 25)] [] d
  refine g_sub (lo2 := [(2, 25)]) (lsb_v lsb_e) ?_
  unfold L_Pa_takeRule at h
  refine g_aload_n C 0 rfl (by decide +kernel) ?_
  obtain ⟨r2_, d1_, hr3_, h⟩ := bd_some h
  refine g_callV C mw_Pa_takeLabels [] 25 cl4 rfl (ok_Pa_takeLabels  d  hr3_) cd_A25 (by decide) (nA (by decide)) (ix := 101) lk_795 lk_797 lkp_14 ⟨rfl, rfl, Nat.le_of_ble_eq_true rfl, Nat.le_of_ble_eq_true rfl⟩ rfl (rest := []) rfl (Nat.le_of_ble_eq_true rfl) ⟨Nat.zero_le _, Nat.zero_le _⟩ (by decide +kernel) (fun _ hc4_ => ?_)
  replace hc4_ : cb r2_ := hc4_
  refine g_st (st2 := [(0, r2_)]) rfl ?_
  refine g_if_eq C (off := 12) (tgt := 16) (c32_cb hc4_) (by decide +kernel) (by decide) (fun hc5_ => ?_) (fun hc5_ => ?_)
  · replace h := ite_t hc5_ h
    refine g_iconst C 0 (cK rfl) (by decide +kernel) ?_
    obtain ⟨rfl, rfl⟩ := ret_inj h
    exact g_zret C (Or.inl rfl) hlk hr (by decide +kernel)
  · replace h := ite_f hc5_ h
    refine g_aload_n C 0 rfl (by decide +kernel) ?_
    refine g_bipush C 58 (by decide) (by decide +kernel) ?_
    obtain ⟨r7_, d6_, hr8_, h⟩ := bd_some h
    refine g_callV C mw_Pa_passes [(0, 58)] 25 cl4 rfl (ok_Pa_passes 58 d1_ (cK rfl) hr8_) cd_A25 (by decide) (nA (by decide)) (ix := 104) lk_811 lk_813 lkp_17 ⟨rfl, rfl, Nat.le_of_ble_eq_true rfl, Nat.le_of_ble_eq_true rfl⟩ rfl (rest := []) rfl (Nat.le_of_ble_eq_true rfl) ⟨Nat.zero_le _, Nat.zero_le _⟩ (by decide +kernel) (fun _ hc9_ => ?_)
    replace hc9_ : cb r7_ := hc9_
    refine g_st (st2 := [(0, r7_)]) rfl ?_
    refine g_if_ne C (off := 5) (tgt := 18) (c32_cb hc9_) (by decide +kernel) (by decide) (fun hc10_ => ?_) (fun hc10_ => ?_)
    · replace h := ite_t hc10_ h
      refine g_iconst C 0 (cK rfl) (by decide +kernel) ?_
      obtain ⟨rfl, rfl⟩ := ret_inj h
      exact g_zret C (Or.inl rfl) hlk hr (by decide +kernel)
    · replace h := ite_f hc10_ h
      refine g_aload_n C 0 rfl (by decide +kernel) ?_
      obtain ⟨r12_, d11_, hr13_, h⟩ := bd_some h
      refine g_callV C mw_Pa_kind [] 25 cl4 rfl (ok_Pa_kind  d6_  hr13_) cd_A25 (by decide) (nA (by decide)) (ix := 53) lk_787 lk_789 lkp_12 ⟨rfl, rfl, Nat.le_of_ble_eq_true rfl, Nat.le_of_ble_eq_true rfl⟩ rfl (rest := []) rfl (Nat.le_of_ble_eq_true rfl) ⟨Nat.zero_le _, Nat.zero_le _⟩ (by decide +kernel) (fun _ hc14_ => ?_)
      replace hc14_ : c32 r12_ := hc14_
      refine g_st (st2 := [(0, r12_)]) rfl ?_
      rcases ite_some h with ⟨hc15_, h⟩ | ⟨hc15_, h⟩
      · refine g_tableIn C (dflt := 104) (lw := 17) (hg := 22) (off := 38) (offs := #[38, 104, 38, 38, 60, 82]) (len := 38) 17 (tgt := 60) hc14_ (by decide +kernel) hc15_ (by decide) (by decide) ?_
        refine g_aload_n C 0 rfl (by decide +kernel) ?_
        obtain ⟨r17_, d16_, hr18_, h⟩ := bd_some h
        refine g_callV C mw_Pa_takeTests [] 25 cl4 rfl (ok_Pa_takeTests  d11_  hr18_) cd_A25 (by decide) (nA (by decide)) (ix := 107) lk_819 lk_821 lkp_18 ⟨rfl, rfl, Nat.le_of_ble_eq_true rfl, Nat.le_of_ble_eq_true rfl⟩ rfl (rest := []) rfl (Nat.le_of_ble_eq_true rfl) ⟨Nat.zero_le _, Nat.zero_le _⟩ (by decide +kernel) (fun _ hc19_ => ?_)
        replace hc19_ : cb r17_ := hc19_
        refine g_st (st2 := [(0, r17_)]) rfl ?_
        refine g_if_eq C (off := 16) (tgt := 80) (c32_cb hc19_) (by decide +kernel) (by decide) (fun hc20_ => ?_) (fun hc20_ => ?_)
        · replace h := ite_t hc20_ h
          refine g_iconst C 0 (cK rfl) (by decide +kernel) ?_
          obtain ⟨rfl, rfl⟩ := ret_inj h
          exact g_zret C (Or.inl rfl) hlk hr (by decide +kernel)
        · replace h := ite_f hc20_ h
          refine g_aload_n C 0 rfl (by decide +kernel) ?_
          refine g_bipush C 59 (by decide) (by decide +kernel) ?_
          obtain ⟨r22_, d21_, hr23_, h⟩ := bd_some h
          refine g_callV C mw_Pa_passes [(0, 59)] 25 cl4 rfl (ok_Pa_passes 59 d16_ (cK rfl) hr23_) cd_A25 (by decide) (nA (by decide)) (ix := 104) lk_811 lk_813 lkp_17 ⟨rfl, rfl, Nat.le_of_ble_eq_true rfl, Nat.le_of_ble_eq_true rfl⟩ rfl (rest := []) rfl (Nat.le_of_ble_eq_true rfl) ⟨Nat.zero_le _, Nat.zero_le _⟩ (by decide +kernel) (fun _ hc24_ => ?_)
          replace hc24_ : cb r22_ := hc24_
          refine g_st (st2 := [(0, r22_)]) rfl ?_
          refine g_if_eq C (off := 7) (tgt := 80) (c32_cb hc24_) (by decide +kernel) (by decide) (fun hc25_ => ?_) (fun hc25_ => ?_)
          · replace h := ite_t hc25_ h
            refine g_iconst C 0 (cK rfl) (by decide +kernel) ?_
            obtain ⟨rfl, rfl⟩ := ret_inj h
            exact g_zret C (Or.inl rfl) hlk hr (by decide +kernel)
          · replace h := ite_f hc25_ h
            refine g_iconst C 1 (cK rfl) (by decide +kernel) ?_
            refine g_goto C 81 (off := 4) (by decide +kernel) (by decide) ?_
            obtain ⟨rfl, rfl⟩ := ret_inj h
            exact g_zret C (Or.inr rfl) hlk hr (by decide +kernel)
      · rcases ite_some h with ⟨hc26_, h⟩ | ⟨hc26_, h⟩
        · refine g_tableIn C (dflt := 104) (lw := 17) (hg := 22) (off := 104) (offs := #[38, 104, 38, 38, 60, 82]) (len := 38) 18 (tgt := 126) hc14_ (by decide +kernel) hc26_ (by decide) (by decide) ?_
          refine g_aload_n C 0 rfl (by decide +kernel) ?_
          refine g_iconst C 2 (cK rfl) (by decide +kernel) ?_
          obtain ⟨r28_, d27_, hr29_, h⟩ := bd_some h
          refine g_callV C mw_Pa_refuse [(0, 2)] 25 cl4 rfl (ok_Pa_refuse 2 d11_ (cK rfl) hr29_) cd_A25 (by decide) (nA (by decide)) (ix := 95) lk_799 lk_801 lkp_15 ⟨rfl, rfl, Nat.le_of_ble_eq_true rfl, Nat.le_of_ble_eq_true rfl⟩ rfl (rest := []) rfl (Nat.le_of_ble_eq_true rfl) ⟨Nat.zero_le _, Nat.zero_le _⟩ (by decide +kernel) (fun _ hc30_ => ?_)
          replace hc30_ : cb r28_ := hc30_
          refine g_st (st2 := [(0, r28_)]) rfl ?_
          obtain ⟨rfl, rfl⟩ := ret_inj h
          exact g_zret C hc30_ hlk hr (by decide +kernel)
        · rcases ite_some h with ⟨hc31_, h⟩ | ⟨hc31_, h⟩
          · refine g_tableIn C (dflt := 104) (lw := 17) (hg := 22) (off := 38) (offs := #[38, 104, 38, 38, 60, 82]) (len := 38) 19 (tgt := 60) hc14_ (by decide +kernel) hc31_ (by decide) (by decide) ?_
            refine g_aload_n C 0 rfl (by decide +kernel) ?_
            obtain ⟨r33_, d32_, hr34_, h⟩ := bd_some h
            refine g_callV C mw_Pa_takeTests [] 25 cl4 rfl (ok_Pa_takeTests  d11_  hr34_) cd_A25 (by decide) (nA (by decide)) (ix := 107) lk_819 lk_821 lkp_18 ⟨rfl, rfl, Nat.le_of_ble_eq_true rfl, Nat.le_of_ble_eq_true rfl⟩ rfl (rest := []) rfl (Nat.le_of_ble_eq_true rfl) ⟨Nat.zero_le _, Nat.zero_le _⟩ (by decide +kernel) (fun _ hc35_ => ?_)
            replace hc35_ : cb r33_ := hc35_
            refine g_st (st2 := [(0, r33_)]) rfl ?_
            refine g_if_eq C (off := 16) (tgt := 80) (c32_cb hc35_) (by decide +kernel) (by decide) (fun hc36_ => ?_) (fun hc36_ => ?_)
            · replace h := ite_t hc36_ h
              refine g_iconst C 0 (cK rfl) (by decide +kernel) ?_
              obtain ⟨rfl, rfl⟩ := ret_inj h
              exact g_zret C (Or.inl rfl) hlk hr (by decide +kernel)
            · replace h := ite_f hc36_ h
              refine g_aload_n C 0 rfl (by decide +kernel) ?_
              refine g_bipush C 59 (by decide) (by decide +kernel) ?_
              obtain ⟨r38_, d37_, hr39_, h⟩ := bd_some h
              refine g_callV C mw_Pa_passes [(0, 59)] 25 cl4 rfl (ok_Pa_passes 59 d32_ (cK rfl) hr39_) cd_A25 (by decide) (nA (by decide)) (ix := 104) lk_811 lk_813 lkp_17 ⟨rfl, rfl, Nat.le_of_ble_eq_true rfl, Nat.le_of_ble_eq_true rfl⟩ rfl (rest := []) rfl (Nat.le_of_ble_eq_true rfl) ⟨Nat.zero_le _, Nat.zero_le _⟩ (by decide +kernel) (fun _ hc40_ => ?_)
              replace hc40_ : cb r38_ := hc40_
              refine g_st (st2 := [(0, r38_)]) rfl ?_
              refine g_if_eq C (off := 7) (tgt := 80) (c32_cb hc40_) (by decide +kernel) (by decide) (fun hc41_ => ?_) (fun hc41_ => ?_)
              · replace h := ite_t hc41_ h
                refine g_iconst C 0 (cK rfl) (by decide +kernel) ?_
                obtain ⟨rfl, rfl⟩ := ret_inj h
                exact g_zret C (Or.inl rfl) hlk hr (by decide +kernel)
              · replace h := ite_f hc41_ h
                refine g_iconst C 1 (cK rfl) (by decide +kernel) ?_
                refine g_goto C 81 (off := 4) (by decide +kernel) (by decide) ?_
                obtain ⟨rfl, rfl⟩ := ret_inj h
                exact g_zret C (Or.inr rfl) hlk hr (by decide +kernel)
          · rcases ite_some h with ⟨hc42_, h⟩ | ⟨hc42_, h⟩
            · refine g_tableIn C (dflt := 104) (lw := 17) (hg := 22) (off := 38) (offs := #[38, 104, 38, 38, 60, 82]) (len := 38) 20 (tgt := 60) hc14_ (by decide +kernel) hc42_ (by decide) (by decide) ?_
              refine g_aload_n C 0 rfl (by decide +kernel) ?_
              obtain ⟨r44_, d43_, hr45_, h⟩ := bd_some h
              refine g_callV C mw_Pa_takeTests [] 25 cl4 rfl (ok_Pa_takeTests  d11_  hr45_) cd_A25 (by decide) (nA (by decide)) (ix := 107) lk_819 lk_821 lkp_18 ⟨rfl, rfl, Nat.le_of_ble_eq_true rfl, Nat.le_of_ble_eq_true rfl⟩ rfl (rest := []) rfl (Nat.le_of_ble_eq_true rfl) ⟨Nat.zero_le _, Nat.zero_le _⟩ (by decide +kernel) (fun _ hc46_ => ?_)
              replace hc46_ : cb r44_ := hc46_
              refine g_st (st2 := [(0, r44_)]) rfl ?_
              refine g_if_eq C (off := 16) (tgt := 80) (c32_cb hc46_) (by decide +kernel) (by decide) (fun hc47_ => ?_) (fun hc47_ => ?_)
              · replace h := ite_t hc47_ h
                refine g_iconst C 0 (cK rfl) (by decide +kernel) ?_
                obtain ⟨rfl, rfl⟩ := ret_inj h
                exact g_zret C (Or.inl rfl) hlk hr (by decide +kernel)
              · replace h := ite_f hc47_ h
                refine g_aload_n C 0 rfl (by decide +kernel) ?_
                refine g_bipush C 59 (by decide) (by decide +kernel) ?_
                obtain ⟨r49_, d48_, hr50_, h⟩ := bd_some h
                refine g_callV C mw_Pa_passes [(0, 59)] 25 cl4 rfl (ok_Pa_passes 59 d43_ (cK rfl) hr50_) cd_A25 (by decide) (nA (by decide)) (ix := 104) lk_811 lk_813 lkp_17 ⟨rfl, rfl, Nat.le_of_ble_eq_true rfl, Nat.le_of_ble_eq_true rfl⟩ rfl (rest := []) rfl (Nat.le_of_ble_eq_true rfl) ⟨Nat.zero_le _, Nat.zero_le _⟩ (by decide +kernel) (fun _ hc51_ => ?_)
                replace hc51_ : cb r49_ := hc51_
                refine g_st (st2 := [(0, r49_)]) rfl ?_
                refine g_if_eq C (off := 7) (tgt := 80) (c32_cb hc51_) (by decide +kernel) (by decide) (fun hc52_ => ?_) (fun hc52_ => ?_)
                · replace h := ite_t hc52_ h
                  refine g_iconst C 0 (cK rfl) (by decide +kernel) ?_
                  obtain ⟨rfl, rfl⟩ := ret_inj h
                  exact g_zret C (Or.inl rfl) hlk hr (by decide +kernel)
                · replace h := ite_f hc52_ h
                  refine g_iconst C 1 (cK rfl) (by decide +kernel) ?_
                  refine g_goto C 81 (off := 4) (by decide +kernel) (by decide) ?_
                  obtain ⟨rfl, rfl⟩ := ret_inj h
                  exact g_zret C (Or.inr rfl) hlk hr (by decide +kernel)
            · rcases ite_some h with ⟨hc53_, h⟩ | ⟨hc53_, h⟩
              · refine g_tableIn C (dflt := 104) (lw := 17) (hg := 22) (off := 60) (offs := #[38, 104, 38, 38, 60, 82]) (len := 38) 21 (tgt := 82) hc14_ (by decide +kernel) hc53_ (by decide) (by decide) ?_
                refine g_aload_n C 0 rfl (by decide +kernel) ?_
                obtain ⟨r55_, d54_, hr56_, h⟩ := bd_some h
                refine g_callV C mw_Pa_takeNames [] 25 cl4 rfl (ok_Pa_takeNames  d11_  hr56_) cd_A25 (by decide) (nA (by decide)) (ix := 110) lk_843 lk_845 lkp_22 ⟨rfl, rfl, Nat.le_of_ble_eq_true rfl, Nat.le_of_ble_eq_true rfl⟩ rfl (rest := []) rfl (Nat.le_of_ble_eq_true rfl) ⟨Nat.zero_le _, Nat.zero_le _⟩ (by decide +kernel) (fun _ hc57_ => ?_)
                replace hc57_ : cb r55_ := hc57_
                refine g_st (st2 := [(0, r55_)]) rfl ?_
                refine g_if_eq C (off := 16) (tgt := 102) (c32_cb hc57_) (by decide +kernel) (by decide) (fun hc58_ => ?_) (fun hc58_ => ?_)
                · replace h := ite_t hc58_ h
                  refine g_iconst C 0 (cK rfl) (by decide +kernel) ?_
                  obtain ⟨rfl, rfl⟩ := ret_inj h
                  exact g_zret C (Or.inl rfl) hlk hr (by decide +kernel)
                · replace h := ite_f hc58_ h
                  refine g_aload_n C 0 rfl (by decide +kernel) ?_
                  refine g_bipush C 59 (by decide) (by decide +kernel) ?_
                  obtain ⟨r60_, d59_, hr61_, h⟩ := bd_some h
                  refine g_callV C mw_Pa_passes [(0, 59)] 25 cl4 rfl (ok_Pa_passes 59 d54_ (cK rfl) hr61_) cd_A25 (by decide) (nA (by decide)) (ix := 104) lk_811 lk_813 lkp_17 ⟨rfl, rfl, Nat.le_of_ble_eq_true rfl, Nat.le_of_ble_eq_true rfl⟩ rfl (rest := []) rfl (Nat.le_of_ble_eq_true rfl) ⟨Nat.zero_le _, Nat.zero_le _⟩ (by decide +kernel) (fun _ hc62_ => ?_)
                  replace hc62_ : cb r60_ := hc62_
                  refine g_st (st2 := [(0, r60_)]) rfl ?_
                  refine g_if_eq C (off := 7) (tgt := 102) (c32_cb hc62_) (by decide +kernel) (by decide) (fun hc63_ => ?_) (fun hc63_ => ?_)
                  · replace h := ite_t hc63_ h
                    refine g_iconst C 0 (cK rfl) (by decide +kernel) ?_
                    obtain ⟨rfl, rfl⟩ := ret_inj h
                    exact g_zret C (Or.inl rfl) hlk hr (by decide +kernel)
                  · replace h := ite_f hc63_ h
                    refine g_iconst C 1 (cK rfl) (by decide +kernel) ?_
                    refine g_goto C 103 (off := 4) (by decide +kernel) (by decide) ?_
                    obtain ⟨rfl, rfl⟩ := ret_inj h
                    exact g_zret C (Or.inr rfl) hlk hr (by decide +kernel)
              · rcases ite_some h with ⟨hc64_, h⟩ | ⟨hc64_, h⟩
                · refine g_tableIn C (dflt := 104) (lw := 17) (hg := 22) (off := 82) (offs := #[38, 104, 38, 38, 60, 82]) (len := 38) 22 (tgt := 104) hc14_ (by decide +kernel) hc64_ (by decide) (by decide) ?_
                  refine g_aload_n C 0 rfl (by decide +kernel) ?_
                  obtain ⟨r66_, d65_, hr67_, h⟩ := bd_some h
                  refine g_callV C mw_Pa_takeHours [] 25 cl4 rfl (ok_Pa_takeHours  d11_  hr67_) cd_A25 (by decide) (nA (by decide)) (ix := 113) lk_851 lk_853 lkp_24 ⟨rfl, rfl, Nat.le_of_ble_eq_true rfl, Nat.le_of_ble_eq_true rfl⟩ rfl (rest := []) rfl (Nat.le_of_ble_eq_true rfl) ⟨Nat.zero_le _, Nat.zero_le _⟩ (by decide +kernel) (fun _ hc68_ => ?_)
                  replace hc68_ : cb r66_ := hc68_
                  refine g_st (st2 := [(0, r66_)]) rfl ?_
                  refine g_if_eq C (off := 16) (tgt := 124) (c32_cb hc68_) (by decide +kernel) (by decide) (fun hc69_ => ?_) (fun hc69_ => ?_)
                  · replace h := ite_t hc69_ h
                    refine g_iconst C 0 (cK rfl) (by decide +kernel) ?_
                    obtain ⟨rfl, rfl⟩ := ret_inj h
                    exact g_zret C (Or.inl rfl) hlk hr (by decide +kernel)
                  · replace h := ite_f hc69_ h
                    refine g_aload_n C 0 rfl (by decide +kernel) ?_
                    refine g_bipush C 59 (by decide) (by decide +kernel) ?_
                    obtain ⟨r71_, d70_, hr72_, h⟩ := bd_some h
                    refine g_callV C mw_Pa_passes [(0, 59)] 25 cl4 rfl (ok_Pa_passes 59 d65_ (cK rfl) hr72_) cd_A25 (by decide) (nA (by decide)) (ix := 104) lk_811 lk_813 lkp_17 ⟨rfl, rfl, Nat.le_of_ble_eq_true rfl, Nat.le_of_ble_eq_true rfl⟩ rfl (rest := []) rfl (Nat.le_of_ble_eq_true rfl) ⟨Nat.zero_le _, Nat.zero_le _⟩ (by decide +kernel) (fun _ hc73_ => ?_)
                    replace hc73_ : cb r71_ := hc73_
                    refine g_st (st2 := [(0, r71_)]) rfl ?_
                    refine g_if_eq C (off := 7) (tgt := 124) (c32_cb hc73_) (by decide +kernel) (by decide) (fun hc74_ => ?_) (fun hc74_ => ?_)
                    · replace h := ite_t hc74_ h
                      refine g_iconst C 0 (cK rfl) (by decide +kernel) ?_
                      obtain ⟨rfl, rfl⟩ := ret_inj h
                      exact g_zret C (Or.inl rfl) hlk hr (by decide +kernel)
                    · replace h := ite_f hc74_ h
                      refine g_iconst C 1 (cK rfl) (by decide +kernel) ?_
                      refine g_goto C 125 (off := 4) (by decide +kernel) (by decide) ?_
                      obtain ⟨rfl, rfl⟩ := ret_inj h
                      exact g_zret C (Or.inr rfl) hlk hr (by decide +kernel)
                · refine g_tableOut C (dflt := 104) (lw := 17) (hg := 22) (offs := #[38, 104, 38, 38, 60, 82]) (len := 38) (tgt := 126) hc14_ (by decide +kernel) (by omega) (by decide) ?_
                  refine g_aload_n C 0 rfl (by decide +kernel) ?_
                  refine g_iconst C 2 (cK rfl) (by decide +kernel) ?_
                  obtain ⟨r76_, d75_, hr77_, h⟩ := bd_some h
                  refine g_callV C mw_Pa_refuse [(0, 2)] 25 cl4 rfl (ok_Pa_refuse 2 d11_ (cK rfl) hr77_) cd_A25 (by decide) (nA (by decide)) (ix := 95) lk_799 lk_801 lkp_15 ⟨rfl, rfl, Nat.le_of_ble_eq_true rfl, Nat.le_of_ble_eq_true rfl⟩ rfl (rest := []) rfl (Nat.le_of_ble_eq_true rfl) ⟨Nat.zero_le _, Nat.zero_le _⟩ (by decide +kernel) (fun _ hc78_ => ?_)
                  replace hc78_ : cb r76_ := hc78_
                  refine g_st (st2 := [(0, r76_)]) rfl ?_
                  obtain ⟨rfl, rfl⟩ := ret_inj h
                  exact g_zret C hc78_ hlk hr (by decide +kernel)
/-! PollBooks$Laws.beginsBehind(LPollBooks$Statute;I)Z -/
def y_La_beginsBehind : MethodName := ⟨"PollBooks$Laws", "beginsBehind", "(LPollBooks$Statute;I)Z"⟩
def rm_La_beginsBehind : Room := { frames := 0, cells := 0, slots := 0, locals := 0 }
theorem mw_La_beginsBehind : MW y_La_beginsBehind prog_5_method_4_code 2 (some .boolean) 2 := ⟨lk_861, lk_8, by decide +kernel⟩
def L_La_beginsBehind (p1 p2 : Int) (d : Dt) : Option (Int × Dt) :=
  if p1 < 0 then some (0, d) else ck (stt d p1) (if p2 < (d (p1.toNat + 0) 0) then some (1, d) else some (0, d))
set_option maxHeartbeats 4000000 in
theorem ok_La_beginsBehind {l : Launch} {r : Int} {d' : Dt} (p1 p2 : Int) (d : Dt) (hp2 : c32 p2) (h : L_La_beginsBehind p1 p2 d = some (r, d')) : MC l y_La_beginsBehind prog_5_method_4_code 2 (some .boolean) rm_La_beginsBehind 0 [(2, p1), (0, p2)] d (some (0, r)) d' := by
  refine MC.of (by decide) (Nat.le_of_ble_eq_true rfl) ?_
  intro p e s m args below meth c D cA ad A C hlk hr
  replace C : Cx p s m args c prog_5_method_4_code 2 "PollBooks$Laws" D cA ad 0 A := C
  show G p l e rm_La_beginsBehind s m args below meth c 0 0 (MQ below (fun _ => QC D cA ad 0 A (some .boolean) (some (0, r)) d') args s 0 0 A) 2 D cA ad 0 A 0 [(2, p1), (0, p2)] [] d
  refine g_sub (lo2 := [(2, p1), (0, p2)]) (lsb_v (lsb_v lsb_e)) ?_
  unfold L_La_beginsBehind at h
  refine g_aload_n C 0 rfl (by decide +kernel) ?_
  refine g_ifnull C (off := 15) (tgt := 16) (by decide +kernel) (by decide) (fun hc1_ => ?_) (fun hc1_ => ?_)
  · replace h := ite_t hc1_ h
    refine g_iconst C 0 (cK rfl) (by decide +kernel) ?_
    obtain ⟨rfl, rfl⟩ := ret_inj h
    exact g_zret C (Or.inl rfl) hlk hr (by decide +kernel)
  · replace h := ite_f hc1_ h
    refine g_aload_n C 0 rfl (by decide +kernel) ?_
    obtain ⟨hs2_, h⟩ := ck_some h
    refine g_getIN C cl9 (p1.toNat + 0) 0 (stt_ko0 hs2_) (stt_cd hs2_ 0 (by decide)) ⟨by decide, rfl, by decide⟩ rfl (stt_n hs2_ 0 (by decide)) (ix := 49) lk_151 (by decide +kernel) (fun hc3_ => ?_)
    refine g_iload_n C 1 rfl (by decide +kernel) ?_
    refine g_icmp_le C (off := 7) (tgt := 16) hc3_ hp2 (by decide +kernel) (by decide) (fun hc4_ => ?_) (fun hc4_ => ?_)
    · replace h := ite_t hc4_ h
      refine g_iconst C 1 (cK rfl) (by decide +kernel) ?_
      refine g_goto C 17 (off := 4) (by decide +kernel) (by decide) ?_
      obtain ⟨rfl, rfl⟩ := ret_inj h
      exact g_zret C (Or.inr rfl) hlk hr (by decide +kernel)
    · replace h := ite_f hc4_ h
      refine g_iconst C 0 (cK rfl) (by decide +kernel) ?_
      obtain ⟨rfl, rfl⟩ := ret_inj h
      exact g_zret C (Or.inl rfl) hlk hr (by decide +kernel)
/-! PollBooks$Laws.enact(LPollBooks$Statute;II)V -/
def y_La_enact : MethodName := ⟨"PollBooks$Laws", "enact", "(LPollBooks$Statute;II)V"⟩
def rm_La_enact : Room := { frames := 1, cells := 0, slots := 0, locals := 21 }
theorem mw_La_enact : MW y_La_enact prog_5_method_3_code 5 none 3 := ⟨lk_858, lk_8, by decide +kernel⟩
def L_La_enact_y16 (x1 x2 x4 : Int) (d : Dt) : Option ((Int × Int × Int × Dt) ⊕ ((Int × Int × Dt))) :=
  if 0 < x4 then ck ((0 : Int) ≤ (w32 (x4 - 1)) ∧ (w32 (x4 - 1)) < 5) (bd (L_La_beginsBehind (d 31 ((w32 (x4 - 1))).toNat) x2 d) (fun r4_ d3_ => if r4_ = 0 then some (Sum.inr (x1, x4, d3_)) else ck ((0 : Int) ≤ (w32 (x4 - 1)) ∧ (w32 (x4 - 1)) < 5) (ck ((0 : Int) ≤ x4 ∧ x4 < 5) (ck (stt d3_ (d3_ 31 ((w32 (x4 - 1))).toNat)) (some (Sum.inl (x1, x2, (w32 (x4 + (-1))), (up2 d3_ 31 x4.toNat (d3_ 31 ((w32 (x4 - 1))).toNat))))))))) else some (Sum.inr (x1, x4, d))
def L_La_enact_l16 (x1 x2 x4 : Int) (d : Dt) : Option ((Int × Int × Dt)) := lpF (fun q : Int × Int × Int × Dt => L_La_enact_y16 q.1 q.2.1 q.2.2.1 q.2.2.2) FU (x1, x2, x4, d)
def L_La_enact_b59 (x1 x4 : Int) (d : Dt) : Option (Int × Dt) :=
  ck ((0 : Int) ≤ x4 ∧ x4 < 5) (ck (stt d x1) (some (0, (up2 (up2 (up2 d 31 x4.toNat x1) 30 2 (w32 ((d 30 2) + 1))) 30 7 (-1)))))
def L_La_enact (p1 p2 p3 : Int) (d : Dt) : Option (Int × Dt) :=
  ck (stt d p1) (ck (stt (up2 d (p1.toNat + 0) 0 p2) p1) (lt_ ((up2 (up2 d (p1.toNat + 0) 0 p2) (p1.toNat + 0) 1 p3) 30 2) (fun v17_ => lb (L_La_enact_l16 p1 p2 v17_ (up2 (up2 d (p1.toNat + 0) 0 p2) (p1.toNat + 0) 1 p3)) (fun q26_ => u2 q26_ (fun v22_ v23_ d24_ => L_La_enact_b59 v22_ v23_ d24_)))))
set_option maxHeartbeats 4000000 in
theorem ok_La_enact_y16 {p : Program} {l : Launch} {e : Env} {s : State} {m : MethodId} {args : Array Value} {below : List Frame} {meth : Method} {c : Code} {D : va_G} {cA : Nat → ClassId} {ad : Nat → Nat} {A : Nat → Prop} (C : Cx p s m args c prog_5_method_3_code 5 "PollBooks$Laws" D cA ad 0 A) {Q : State → Prop} {o : (Int × Int × Int × Dt) ⊕ ((Int × Int × Dt))} (x1 x2 x4 : Int) (d : Dt) (hx2 : c32 x2) (hx4 : c32 x4) (h : L_La_enact_y16 x1 x2 x4 d = some o) (kb : ∀ (y0 y1 y2 : Int) (e' : Dt), o = .inl (y0, y1, y2, e') → c32 y1 → c32 y2 → G p l e rm_La_enact s m args below meth c 0 0 Q 5 D cA ad 0 A 16 [(2, 30), (2, y0), (0, y1), (9, 0), (0, y2)] [] e') (k0 : ∀ (y0 y1 : Int) (e' : Dt), o = .inr (y0, y1, e') → c32 y1 → G p l e rm_La_enact s m args below meth c 0 0 Q 5 D cA ad 0 A 59 [(2, 30), (2, y0), (9, 0), (9, 0), (0, y1)] [] e') : G p l e rm_La_enact s m args below meth c 0 0 Q 5 D cA ad 0 A 16 [(2, 30), (2, x1), (0, x2), (9, 0), (0, x4)] [] d := by
  unfold L_La_enact_y16 at h
  refine g_iload C 4 rfl (by decide +kernel) ?_
  refine g_if_le C (off := 41) (tgt := 59) hx4 (by decide +kernel) (by decide) (fun hc1_ => ?_) (fun hc1_ => ?_)
  · replace h := ite_t hc1_ h
    refine g_aload_n C 0 rfl (by decide +kernel) ?_
    refine g_getR C cl3 30 1 31 rfl cd_A30 ⟨by decide, rfl, by decide⟩ rfl rfl (nA (by decide)) (ix := 13) lk_232 (by decide +kernel) ?_
    refine g_iload C 4 rfl (by decide +kernel) ?_
    refine g_iconst C 1 (cK rfl) (by decide +kernel) ?_
    refine g_isub C (by decide +kernel) ?_
    obtain ⟨hb2_, h⟩ := ck_some h
    refine g_aald C 31 (w32_c _) rfl cd_A31 (nA (by decide)) hb2_ (by decide +kernel) ?_
    refine g_iload_n C 2 rfl (by decide +kernel) ?_
    obtain ⟨r4_, d3_, hr5_, h⟩ := bd_some h
    refine g_callS C mw_La_beginsBehind [(2, (d 31 ((w32 (x4 - 1))).toNat)), (0, x2)] (ok_La_beginsBehind (d 31 ((w32 (x4 - 1))).toNat) x2 d hx2 hr5_) (ix := 55) lk_859 lk_860 ⟨rfl, rfl, Nat.le_of_ble_eq_true rfl, Nat.le_of_ble_eq_true rfl⟩ rfl (rest := []) rfl (Nat.le_of_ble_eq_true rfl) ⟨Nat.zero_le _, Nat.zero_le _⟩ (by decide +kernel) (fun _ hc6_ => ?_)
    replace hc6_ : cb r4_ := hc6_
    refine g_st (st2 := [(0, r4_)]) rfl ?_
    refine g_if_eq C (off := 25) (tgt := 59) (c32_cb hc6_) (by decide +kernel) (by decide) (fun hc7_ => ?_) (fun hc7_ => ?_)
    · replace h := ite_t hc7_ h
      refine g_sub (lo2 := [(2, 30), (2, x1), (9, 0), (9, 0), (0, x4)]) (lsb_v (lsb_v (lsb_c (lsb_c (lsb_v lsb_e))))) ?_
      obtain rfl := Option.some.inj h
      exact k0 x1 x4 d3_ rfl hx4
    · replace h := ite_f hc7_ h
      refine g_aload_n C 0 rfl (by decide +kernel) ?_
      refine g_getR C cl3 30 1 31 rfl cd_A30 ⟨by decide, rfl, by decide⟩ rfl rfl (nA (by decide)) (ix := 13) lk_232 (by decide +kernel) ?_
      refine g_iload C 4 rfl (by decide +kernel) ?_
      refine g_aload_n C 0 rfl (by decide +kernel) ?_
      refine g_getR C cl3 30 1 31 rfl cd_A30 ⟨by decide, rfl, by decide⟩ rfl rfl (nA (by decide)) (ix := 13) lk_232 (by decide +kernel) ?_
      refine g_iload C 4 rfl (by decide +kernel) ?_
      refine g_iconst C 1 (cK rfl) (by decide +kernel) ?_
      refine g_isub C (by decide +kernel) ?_
      obtain ⟨hb8_, h⟩ := ck_some h
      refine g_aald C 31 (w32_c _) rfl cd_A31 (nA (by decide)) hb8_ (by decide +kernel) ?_
      obtain ⟨hb9_, h⟩ := ck_some h
      obtain ⟨hs10_, h⟩ := ck_some h
      refine g_aast C 31 ((d3_ 31 ((w32 (x4 - 1))).toNat).toNat + 0) hx4 rfl (stt_ko0 hs10_) cd_A31 (stt_cd hs10_ 0 (by decide)) (nA (by decide)) (stt_n hs10_ 0 (by decide)) hb9_ (by decide +kernel) ?_
      refine s_iinc C 4 (-1) (lo' := [(2, 30), (2, x1), (0, x2), (9, 0), (0, (w32 (x4 + (-1))))]) rfl (by decide) (s1k (s1k (s1k (s1n (by decide) s1z)))) (by decide +kernel) ?_
      refine g_goto C 16 (off := (-40)) (by decide +kernel) (by decide) ?_
      refine g_sub (lo2 := [(2, 30), (2, x1), (0, x2), (9, 0), (0, (w32 (x4 + (-1))))]) (lsb_v (lsb_v (lsb_v (lsb_c (lsb_v lsb_e))))) ?_
      obtain rfl := Option.some.inj h
      exact kb x1 x2 (w32 (x4 + (-1))) (up2 d3_ 31 x4.toNat (d3_ 31 ((w32 (x4 - 1))).toNat)) rfl hx2 (w32_c _)
  · replace h := ite_f hc1_ h
    refine g_sub (lo2 := [(2, 30), (2, x1), (9, 0), (9, 0), (0, x4)]) (lsb_v (lsb_v (lsb_c (lsb_c (lsb_v lsb_e))))) ?_
    obtain rfl := Option.some.inj h
    exact k0 x1 x4 d rfl hx4
set_option maxHeartbeats 4000000 in
theorem ok_La_enact_n16 {p : Program} {l : Launch} {e : Env} {s : State} {m : MethodId} {args : Array Value} {below : List Frame} {meth : Method} {c : Code} {D : va_G} {cA : Nat → ClassId} {ad : Nat → Nat} {A : Nat → Prop} (C : Cx p s m args c prog_5_method_3_code 5 "PollBooks$Laws" D cA ad 0 A) {Q : State → Prop} {x : (Int × Int × Dt)} : ∀ (n : Nat) (x1 x2 x4 : Int) (d : Dt), c32 x2 → c32 x4 → lpF (fun q : Int × Int × Int × Dt => L_La_enact_y16 q.1 q.2.1 q.2.2.1 q.2.2.2) n (x1, x2, x4, d) = some x → (∀ (y0 y1 : Int) (e' : Dt), x = (y0, y1, e') → c32 y1 → G p l e rm_La_enact s m args below meth c 0 0 Q 5 D cA ad 0 A 59 [(2, 30), (2, y0), (9, 0), (9, 0), (0, y1)] [] e') → G p l e rm_La_enact s m args below meth c 0 0 Q 5 D cA ad 0 A 16 [(2, 30), (2, x1), (0, x2), (9, 0), (0, x4)] [] d := by
  intro n
  induction n with
  | zero => intro x1 x2 x4 d g0 g1 h k0; cases h
  | succ n ih =>
    intro x1 x2 x4 d g0 g1 h k0
    rcases lpF_some h with h | ⟨⟨v0_, v1_, v2_, e0_⟩, h1, h⟩
    · exact ok_La_enact_y16 C x1 x2 x4 d g0 g1 h (fun z0_ z1_ z2_ e1_ eq w0_ w1_ => by cases eq) (fun z0_ z1_ e1_ eq w0_ => k0 _ _ _ (by cases eq; rfl) w0_)
    · exact ok_La_enact_y16 C x1 x2 x4 d g0 g1 h1 (fun z0_ z1_ z2_ e1_ eq w0_ w1_ => by cases eq; exact ih _ _ _ _ w0_ w1_ h k0) (fun z0_ z1_ e1_ eq w0_ => by cases eq)
set_option maxHeartbeats 4000000 in
theorem ok_La_enact_l16 {p : Program} {l : Launch} {e : Env} {s : State} {m : MethodId} {args : Array Value} {below : List Frame} {meth : Method} {c : Code} {D : va_G} {cA : Nat → ClassId} {ad : Nat → Nat} {A : Nat → Prop} (C : Cx p s m args c prog_5_method_3_code 5 "PollBooks$Laws" D cA ad 0 A) {Q : State → Prop} {x : (Int × Int × Dt)} (x1 x2 x4 : Int) (d : Dt) (hx2 : c32 x2) (hx4 : c32 x4) (h : L_La_enact_l16 x1 x2 x4 d = some x) (k0 : ∀ (y0 y1 : Int) (e' : Dt), x = (y0, y1, e') → c32 y1 → G p l e rm_La_enact s m args below meth c 0 0 Q 5 D cA ad 0 A 59 [(2, 30), (2, y0), (9, 0), (9, 0), (0, y1)] [] e') : G p l e rm_La_enact s m args below meth c 0 0 Q 5 D cA ad 0 A 16 [(2, 30), (2, x1), (0, x2), (9, 0), (0, x4)] [] d :=
  ok_La_enact_n16 C FU x1 x2 x4 d hx2 hx4 h k0
set_option maxHeartbeats 4000000 in
theorem ok_La_enact_b59 {p : Program} {l : Launch} {e : Env} {s : State} {m : MethodId} {args : Array Value} {below : List Frame} {meth : Method} {c : Code} {D : va_G} {cA : Nat → ClassId} {ad : Nat → Nat} {A : Nat → Prop} (C : Cx p s m args c prog_5_method_3_code 5 "PollBooks$Laws" D cA ad 0 A) (hlk : meth.locks = false) (hr : meth.sig.returnType = none) {r : Int} {d' : Dt} (x1 x4 : Int) (d : Dt) (hx4 : c32 x4) (h : L_La_enact_b59 x1 x4 d = some (r, d')) : G p l e rm_La_enact s m args below meth c 0 0 (MQ below (fun _ => QC D cA ad 0 A none none d') args s 0 0 A) 5 D cA ad 0 A 59 [(2, 30), (2, x1), (9, 0), (9, 0), (0, x4)] [] d := by
  unfold L_La_enact_b59 at h
  refine g_aload_n C 0 rfl (by decide +kernel) ?_
  refine g_getR C cl3 30 1 31 rfl cd_A30 ⟨by decide, rfl, by decide⟩ rfl rfl (nA (by decide)) (ix := 13) lk_232 (by decide +kernel) ?_
  refine g_iload C 4 rfl (by decide +kernel) ?_
  refine g_aload_n C 1 rfl (by decide +kernel) ?_
  obtain ⟨hb11_, h⟩ := ck_some h
  obtain ⟨hs12_, h⟩ := ck_some h
  refine g_aast C 31 (x1.toNat + 0) hx4 rfl (stt_ko0 hs12_) cd_A31 (stt_cd hs12_ 0 (by decide)) (nA (by decide)) (stt_n hs12_ 0 (by decide)) hb11_ (by decide +kernel) ?_
  refine g_aload_n C 0 rfl (by decide +kernel) ?_
  refine g_dup C tg2 (by decide +kernel) ?_
  refine g_getI C cl3 30 2 rfl cd_A30 ⟨by decide, rfl, by decide⟩ rfl (nA (by decide)) (ix := 46) lk_233 (by decide +kernel) (fun hc13_ => ?_)
  refine g_val (y := (d 30 2)) rfl ?_
  replace hc13_ : c32 (d 30 2) := hc13_
  refine g_iconst C 1 (cK rfl) (by decide +kernel) ?_
  refine g_iadd C (by decide +kernel) ?_
  refine g_putI C cl3 30 2 (w32_c _) rfl cd_A30 ⟨by decide, rfl, by decide⟩ rfl (nA (by decide)) (ix := 46) lk_233 rfl rfl (by decide +kernel) ?_
  refine g_aload_n C 0 rfl (by decide +kernel) ?_
  refine g_iconst C (-1) (cK rfl) (by decide +kernel) ?_
  refine g_putI C cl3 30 7 (cK rfl) rfl cd_A30 ⟨by decide, rfl, by decide⟩ rfl (nA (by decide)) (ix := 28) lk_238 rfl rfl (by decide +kernel) ?_
  obtain ⟨rfl, rfl⟩ := ret_inj h
  exact g_vret C hlk hr (by decide +kernel)
set_option maxHeartbeats 4000000 in
theorem ok_La_enact {l : Launch} {r : Int} {d' : Dt} (p1 p2 p3 : Int) (d : Dt) (hp2 : c32 p2) (hp3 : c32 p3) (h : L_La_enact p1 p2 p3 d = some (r, d')) : MC l y_La_enact prog_5_method_3_code 5 none rm_La_enact 0 [(2, 30), (2, p1), (0, p2), (0, p3)] d none d' := by
  refine MC.of (by decide) (Nat.le_of_ble_eq_true rfl) ?_
  intro p e s m args below meth c D cA ad A C hlk hr
  replace C : Cx p s m args c prog_5_method_3_code 5 "PollBooks$Laws" D cA ad 0 A := C
  show G p l e rm_La_enact s m args below meth c 0 0 (MQ below (fun _ => QC D cA ad 0 A none none d') args s 0 0 A) 5 D cA ad 0 A 0 [(2, 30), (2, p1), (0, p2), (0, p3)] [] d
  refine g_sub (lo2 := [(2, 30), (2, p1), (0, p2), (0, p3), (9, 0)]) (lsb_v (lsb_v (lsb_v (lsb_v (lsb_n lsb_e))))) ?_
  unfold L_La_enact at h
  refine g_aload_n C 1 rfl (by decide +kernel) ?_
  refine g_iload_n C 2 rfl (by decide +kernel) ?_
  obtain ⟨hs14_, h⟩ := ck_some h
  refine g_putIN C cl9 (p1.toNat + 0) 0 hp2 (stt_ko0 hs14_) (stt_cd hs14_ 0 (by decide)) ⟨by decide, rfl, by decide⟩ rfl (stt_n hs14_ 0 (by decide)) (ix := 49) lk_151 rfl rfl (by decide +kernel) ?_
  refine g_aload_n C 1 rfl (by decide +kernel) ?_
  refine g_iload_n C 3 rfl (by decide +kernel) ?_
  obtain ⟨hs15_, h⟩ := ck_some h
  refine g_putIN C cl9 (p1.toNat + 0) 1 hp3 (stt_ko0 hs15_) (stt_cd hs15_ 0 (by decide)) ⟨by decide, rfl, by decide⟩ rfl (stt_n hs15_ 0 (by decide)) (ix := 52) lk_153 rfl rfl (by decide +kernel) ?_
  refine g_aload_n C 0 rfl (by decide +kernel) ?_
  refine g_getI C cl3 30 2 rfl cd_A30 ⟨by decide, rfl, by decide⟩ rfl (nA (by decide)) (ix := 46) lk_233 (by decide +kernel) (fun hc16_ => ?_)
  obtain ⟨v17_, ev18_, h⟩ := lt_some h
  refine g_val ev18_.symm ?_
  have hv19_ : c32 v17_ := by rw [ev18_]; exact hc16_
  refine s_istore C 4 (lo' := [(2, 30), (2, p1), (0, p2), (0, p3), (0, v17_)]) (by decide) (s1k (s1k (s1k (s1n (by decide) s1z)))) (by decide +kernel) ?_
  refine g_sub (lo2 := [(2, 30), (2, p1), (0, p2), (9, 0), (0, v17_)]) (lsb_v (lsb_v (lsb_v (lsb_c (lsb_v lsb_e))))) ?_
  obtain ⟨x20_, hx21_, h⟩ := lb_some h
  refine ok_La_enact_l16 C p1 p2 v17_ (up2 (up2 d (p1.toNat + 0) 0 p2) (p1.toNat + 0) 1 p3) hp2 hv19_ hx21_ (fun v22_ v23_ d24_ eq25_ hv23_ => ?_)
  subst eq25_
  replace h := u2_e h
  refine g_sub (lo2 := [(2, 30), (2, v22_), (9, 0), (9, 0), (0, v23_)]) (lsb_v (lsb_v (lsb_c (lsb_c (lsb_v lsb_e))))) ?_
  exact ok_La_enact_b59 C hlk hr v22_ v23_ d24_ hv23_ h
/-! PollBooks$Parser.faultKind()I -/
def y_Pa_faultKind : MethodName := ⟨"PollBooks$Parser", "faultKind", "()I"⟩
def rm_Pa_faultKind : Room := { frames := 0, cells := 0, slots := 0, locals := 0 }
theorem mw_Pa_faultKind : MW y_Pa_faultKind prog_6_method_5_code 1 (some .int) 0 := ⟨lk_869, lk_6, by decide +kernel⟩
def L_Pa_faultKind (d : Dt) : Option (Int × Dt) :=
  some ((d 25 7), d)
set_option maxHeartbeats 4000000 in
theorem ok_Pa_faultKind {l : Launch} {r : Int} {d' : Dt} (d : Dt)  (h : L_Pa_faultKind d = some (r, d')) : MC l y_Pa_faultKind prog_6_method_5_code 1 (some .int) rm_Pa_faultKind 0 [(2, 25)] d (some (0, r)) d' := by
  refine MC.of (by decide) (Nat.le_of_ble_eq_true rfl) ?_
  intro p e s m args below meth c D cA ad A C hlk hr
  replace C : Cx p s m args c prog_6_method_5_code 1 "PollBooks$Parser" D cA ad 0 A := C
  show G p l e rm_Pa_faultKind s m args below meth c 0 0 (MQ below (fun _ => QC D cA ad 0 A (some .int) (some (0, r)) d') args s 0 0 A) 1 D cA ad 0 A 0 [(2, 25)] [] d
  refine g_sub (lo2 := [(2, 25)]) (lsb_v lsb_e) ?_
  unfold L_Pa_faultKind at h
  refine g_aload_n C 0 rfl (by decide +kernel) ?_
  refine g_getI C cl4 25 7 rfl cd_A25 ⟨by decide, rfl, by decide⟩ rfl (nA (by decide)) (ix := 33) lk_202 (by decide +kernel) (fun hc1_ => ?_)
  obtain ⟨rfl, rfl⟩ := ret_inj h
  exact g_iret C hc1_ hlk hr (by decide +kernel)
/-! PollBooks$Parser.faultPlace()I -/
def y_Pa_faultPlace : MethodName := ⟨"PollBooks$Parser", "faultPlace", "()I"⟩
def rm_Pa_faultPlace : Room := { frames := 0, cells := 0, slots := 0, locals := 0 }
theorem mw_Pa_faultPlace : MW y_Pa_faultPlace prog_6_method_6_code 1 (some .int) 0 := ⟨lk_873, lk_6, by decide +kernel⟩
def L_Pa_faultPlace (d : Dt) : Option (Int × Dt) :=
  some ((d 25 8), d)
set_option maxHeartbeats 4000000 in
theorem ok_Pa_faultPlace {l : Launch} {r : Int} {d' : Dt} (d : Dt)  (h : L_Pa_faultPlace d = some (r, d')) : MC l y_Pa_faultPlace prog_6_method_6_code 1 (some .int) rm_Pa_faultPlace 0 [(2, 25)] d (some (0, r)) d' := by
  refine MC.of (by decide) (Nat.le_of_ble_eq_true rfl) ?_
  intro p e s m args below meth c D cA ad A C hlk hr
  replace C : Cx p s m args c prog_6_method_6_code 1 "PollBooks$Parser" D cA ad 0 A := C
  show G p l e rm_Pa_faultPlace s m args below meth c 0 0 (MQ below (fun _ => QC D cA ad 0 A (some .int) (some (0, r)) d') args s 0 0 A) 1 D cA ad 0 A 0 [(2, 25)] [] d
  refine g_sub (lo2 := [(2, 25)]) (lsb_v lsb_e) ?_
  unfold L_Pa_faultPlace at h
  refine g_aload_n C 0 rfl (by decide +kernel) ?_
  refine g_getI C cl4 25 8 rfl cd_A25 ⟨by decide, rfl, by decide⟩ rfl (nA (by decide)) (ix := 37) lk_203 (by decide +kernel) (fun hc1_ => ?_)
  obtain ⟨rfl, rfl⟩ := ret_inj h
  exact g_iret C hc1_ hlk hr (by decide +kernel)
