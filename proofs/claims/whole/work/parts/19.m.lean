/-! PollBooksModel.bench(I)I -/
def y_Mo_bench : MethodName := ⟨"PollBooksModel", "bench", "(I)I"⟩
def rm_Mo_bench : Room := { frames := 1, cells := 0, slots := 0, locals := 21 }
theorem mw_Mo_bench : MW y_Mo_bench prog_14_method_114_code 2 (some .int) 1 := ⟨lk_2229, lk_14, by decide +kernel⟩
def L_Mo_bench_b27 (d : Dt) : Option (Int × Dt) :=
  bd (L_Mo_refuse 6 d) (fun r2_ d1_ => some (r2_, d1_))
def L_Mo_bench (p1 : Int) (d : Dt) : Option (Int × Dt) :=
  if p1 < 0 then bd (L_Mo_refuse 1 d) (fun r7_ d6_ => some (r7_, d6_)) else if (d 0 101) = 0 then L_Mo_bench_b27 d else if p1 < (d 0 100) then ck ((0 : Int) ≤ p1 ∧ p1 < 30) (bd (L_Mo_gives (d 74 p1.toNat) d) (fun r17_ d16_ => some (r17_, d16_))) else L_Mo_bench_b27 d
set_option maxHeartbeats 4000000 in
theorem ok_Mo_bench_b27 {p : Program} {l : Launch} {e : Env} {s : State} {m : MethodId} {args : Array Value} {below : List Frame} {meth : Method} {c : Code} {D : va_G} {cA : Nat → ClassId} {ad : Nat → Nat} {A : Nat → Prop} (C : Cx p s m args c prog_14_method_114_code 2 "PollBooksModel" D cA ad 1 A) (hlk : meth.locks = false) (hr : meth.sig.returnType = (some .int)) {r : Int} {d' : Dt} (d : Dt)  (h : L_Mo_bench_b27 d = some (r, d')) : G p l e rm_Mo_bench s m args below meth c 0 0 (MQ below (fun _ => QC D cA ad 1 A (some .int) (some (0, r)) d') args s 0 0 A) 2 D cA ad 1 A 27 [(2, 0), (9, 0)] [] d := by
  unfold L_Mo_bench_b27 at h
  refine g_aload_n C 0 rfl (by decide +kernel) ?_
  refine g_bipush C 6 (by decide) (by decide +kernel) ?_
  obtain ⟨r2_, d1_, hr3_, h⟩ := bd_some h
  refine g_callV C mw_Mo_refuse [(0, 6)] 0 cl12 rfl (ok_Mo_refuse 6 d (cK rfl) hr3_) cd_B0 (by decide) (nB (by decide)) (ix := 316) lk_1787 lk_1789 lkp_61 ⟨rfl, rfl, Nat.le_of_ble_eq_true rfl, Nat.le_of_ble_eq_true rfl⟩ rfl (rest := []) rfl (Nat.le_of_ble_eq_true rfl) ⟨Nat.zero_le _, Nat.zero_le _⟩ (by decide +kernel) (fun _ hc4_ => ?_)
  replace hc4_ : c32 r2_ := hc4_
  refine g_st (st2 := [(0, r2_)]) rfl ?_
  refine g_goto C 46 (off := 13) (by decide +kernel) (by decide) ?_
  obtain ⟨rfl, rfl⟩ := ret_inj h
  exact g_iret C hc4_ hlk hr (by decide +kernel)
set_option maxHeartbeats 4000000 in
theorem ok_Mo_bench {l : Launch} {r : Int} {d' : Dt} (p1 : Int) (d : Dt) (hp1 : c32 p1) (h : L_Mo_bench p1 d = some (r, d')) : MC l y_Mo_bench prog_14_method_114_code 2 (some .int) rm_Mo_bench 1 [(2, 0), (0, p1)] d (some (0, r)) d' := by
  refine MC.of (by decide) (Nat.le_of_ble_eq_true rfl) ?_
  intro p e s m args below meth c D cA ad A C hlk hr
  replace C : Cx p s m args c prog_14_method_114_code 2 "PollBooksModel" D cA ad 1 A := C
  show G p l e rm_Mo_bench s m args below meth c 0 0 (MQ below (fun _ => QC D cA ad 1 A (some .int) (some (0, r)) d') args s 0 0 A) 2 D cA ad 1 A 0 [(2, 0), (0, p1)] [] d
  refine g_sub (lo2 := [(2, 0), (0, p1)]) (lsb_v (lsb_v lsb_e)) ?_
  unfold L_Mo_bench at h
  refine g_iload_n C 1 rfl (by decide +kernel) ?_
  refine g_if_ge C (off := 11) (tgt := 12) hp1 (by decide +kernel) (by decide) (fun hc5_ => ?_) (fun hc5_ => ?_)
  · replace h := ite_t hc5_ h
    refine g_aload_n C 0 rfl (by decide +kernel) ?_
    refine g_iconst C 1 (cK rfl) (by decide +kernel) ?_
    obtain ⟨r7_, d6_, hr8_, h⟩ := bd_some h
    refine g_callV C mw_Mo_refuse [(0, 1)] 0 cl12 rfl (ok_Mo_refuse 1 d (c32_cb (Or.inr rfl)) hr8_) cd_B0 (by decide) (nB (by decide)) (ix := 316) lk_1787 lk_1789 lkp_61 ⟨rfl, rfl, Nat.le_of_ble_eq_true rfl, Nat.le_of_ble_eq_true rfl⟩ rfl (rest := []) rfl (Nat.le_of_ble_eq_true rfl) ⟨Nat.zero_le _, Nat.zero_le _⟩ (by decide +kernel) (fun _ hc9_ => ?_)
    replace hc9_ : c32 r7_ := hc9_
    refine g_st (st2 := [(0, r7_)]) rfl ?_
    refine g_goto C 46 (off := 37) (by decide +kernel) (by decide) ?_
    obtain ⟨rfl, rfl⟩ := ret_inj h
    exact g_iret C hc9_ hlk hr (by decide +kernel)
  · replace h := ite_f hc5_ h
    refine g_aload_n C 0 rfl (by decide +kernel) ?_
    refine g_getZ C cl12 0 101 rfl cd_B0 ⟨by decide, rfl, by decide⟩ rfl (nB (by decide)) (ix := 616) lk_1503 (by decide +kernel) (fun hc10_ => ?_)
    refine g_if_eq C (off := 11) (tgt := 27) (c32_cb hc10_) (by decide +kernel) (by decide) (fun hc11_ => ?_) (fun hc11_ => ?_)
    · replace h := ite_t hc11_ h
      refine g_sub (lo2 := [(2, 0), (9, 0)]) (lsb_v (lsb_c lsb_e)) ?_
      exact ok_Mo_bench_b27 C hlk hr d  h
    · replace h := ite_f hc11_ h
      refine g_iload_n C 1 rfl (by decide +kernel) ?_
      refine g_aload_n C 0 rfl (by decide +kernel) ?_
      refine g_getI C cl12 0 100 rfl cd_B0 ⟨by decide, rfl, by decide⟩ rfl (nB (by decide)) (ix := 613) lk_1502 (by decide +kernel) (fun hc12_ => ?_)
      refine g_icmp_lt C (off := 12) (tgt := 36) hp1 hc12_ (by decide +kernel) (by decide) (fun hc13_ => ?_) (fun hc13_ => ?_)
      · replace h := ite_t hc13_ h
        refine g_aload_n C 0 rfl (by decide +kernel) ?_
        refine g_aload_n C 0 rfl (by decide +kernel) ?_
        refine g_getR C cl12 0 98 74 rfl cd_B0 ⟨by decide, rfl, by decide⟩ rfl rfl (nB (by decide)) (ix := 245) lk_1500 (by decide +kernel) ?_
        refine g_iload_n C 1 rfl (by decide +kernel) ?_
        obtain ⟨hb14_, h⟩ := ck_some h
        refine g_iald C 74 hp1 rfl cd_B74 (nB (by decide)) hb14_ (by decide +kernel) (fun hc15_ => ?_)
        obtain ⟨r17_, d16_, hr18_, h⟩ := bd_some h
        refine g_callV C mw_Mo_gives [(0, (d 74 p1.toNat))] 0 cl12 rfl (ok_Mo_gives (d 74 p1.toNat) d hc15_ hr18_) cd_B0 (by decide) (nB (by decide)) (ix := 312) lk_1783 lk_1785 lkp_60 ⟨rfl, rfl, Nat.le_of_ble_eq_true rfl, Nat.le_of_ble_eq_true rfl⟩ rfl (rest := []) rfl (Nat.le_of_ble_eq_true rfl) ⟨Nat.zero_le _, Nat.zero_le _⟩ (by decide +kernel) (fun _ hc19_ => ?_)
        replace hc19_ : c32 r17_ := hc19_
        refine g_st (st2 := [(0, r17_)]) rfl ?_
        obtain ⟨rfl, rfl⟩ := ret_inj h
        exact g_iret C hc19_ hlk hr (by decide +kernel)
      · replace h := ite_f hc13_ h
        refine g_sub (lo2 := [(2, 0), (9, 0)]) (lsb_v (lsb_c lsb_e)) ?_
        exact ok_Mo_bench_b27 C hlk hr d  h
/-! PollBooksModel.miles(III)Z -/
def y_Mo_miles : MethodName := ⟨"PollBooksModel", "miles", "(III)Z"⟩
def rm_Mo_miles : Room := { frames := 1, cells := 0, slots := 0, locals := 21 }
theorem mw_Mo_miles : MW y_Mo_miles prog_14_method_115_code 4 (some .boolean) 3 := ⟨lk_2233, lk_14, by decide +kernel⟩
def L_Mo_miles_b31 (d : Dt) : Option (Int × Dt) :=
  bd (L_Mo_is 1 d) (fun r2_ d1_ => some (r2_, d1_))
def L_Mo_miles (p1 p2 p3 : Int) (d : Dt) : Option (Int × Dt) :=
  bd (L_Mo_isPlace p1 d) (fun r6_ d5_ => if r6_ = 0 then L_Mo_miles_b31 d5_ else bd (L_Mo_isPlace p2 d5_) (fun r11_ d10_ => if r11_ = 0 then L_Mo_miles_b31 d10_ else if p1 = p2 then L_Mo_miles_b31 d10_ else if p3 < 1 then L_Mo_miles_b31 d10_ else if 1000 < p3 then L_Mo_miles_b31 d10_ else ck ((0 : Int) ≤ (w32 ((w32 (7 * p1)) + p2)) ∧ (w32 ((w32 (7 * p1)) + p2)) < 49) (ck ((0 : Int) ≤ (w32 ((w32 (7 * p2)) + p1)) ∧ (w32 ((w32 (7 * p2)) + p1)) < 49) (bd (L_Mo_is 0 (up2 (up2 d10_ 75 ((w32 ((w32 (7 * p1)) + p2))).toNat p3) 75 ((w32 ((w32 (7 * p2)) + p1))).toNat p3)) (fun r21_ d20_ => some (r21_, d20_))))))
set_option maxHeartbeats 4000000 in
theorem ok_Mo_miles_b31 {p : Program} {l : Launch} {e : Env} {s : State} {m : MethodId} {args : Array Value} {below : List Frame} {meth : Method} {c : Code} {D : va_G} {cA : Nat → ClassId} {ad : Nat → Nat} {A : Nat → Prop} (C : Cx p s m args c prog_14_method_115_code 4 "PollBooksModel" D cA ad 1 A) (hlk : meth.locks = false) (hr : meth.sig.returnType = (some .boolean)) {r : Int} {d' : Dt} (d : Dt)  (h : L_Mo_miles_b31 d = some (r, d')) : G p l e rm_Mo_miles s m args below meth c 0 0 (MQ below (fun _ => QC D cA ad 1 A (some .boolean) (some (0, r)) d') args s 0 0 A) 4 D cA ad 1 A 31 [(2, 0), (9, 0), (9, 0), (9, 0)] [] d := by
  unfold L_Mo_miles_b31 at h
  refine g_aload_n C 0 rfl (by decide +kernel) ?_
  refine g_iconst C 1 (cK rfl) (by decide +kernel) ?_
  obtain ⟨r2_, d1_, hr3_, h⟩ := bd_some h
  refine g_callV C mw_Mo_is [(0, 1)] 0 cl12 rfl (ok_Mo_is 1 d (c32_cb (Or.inr rfl)) hr3_) cd_B0 (by decide) (nB (by decide)) (ix := 276) lk_1741 lk_1743 lkp_57 ⟨rfl, rfl, Nat.le_of_ble_eq_true rfl, Nat.le_of_ble_eq_true rfl⟩ rfl (rest := []) rfl (Nat.le_of_ble_eq_true rfl) ⟨Nat.zero_le _, Nat.zero_le _⟩ (by decide +kernel) (fun _ hc4_ => ?_)
  replace hc4_ : cb r2_ := hc4_
  refine g_st (st2 := [(0, r2_)]) rfl ?_
  obtain ⟨rfl, rfl⟩ := ret_inj h
  exact g_zret C hc4_ hlk hr (by decide +kernel)
set_option maxHeartbeats 4000000 in
theorem ok_Mo_miles {l : Launch} {r : Int} {d' : Dt} (p1 p2 p3 : Int) (d : Dt) (hp1 : c32 p1) (hp2 : c32 p2) (hp3 : c32 p3) (h : L_Mo_miles p1 p2 p3 d = some (r, d')) : MC l y_Mo_miles prog_14_method_115_code 4 (some .boolean) rm_Mo_miles 1 [(2, 0), (0, p1), (0, p2), (0, p3)] d (some (0, r)) d' := by
  refine MC.of (by decide) (Nat.le_of_ble_eq_true rfl) ?_
  intro p e s m args below meth c D cA ad A C hlk hr
  replace C : Cx p s m args c prog_14_method_115_code 4 "PollBooksModel" D cA ad 1 A := C
  show G p l e rm_Mo_miles s m args below meth c 0 0 (MQ below (fun _ => QC D cA ad 1 A (some .boolean) (some (0, r)) d') args s 0 0 A) 4 D cA ad 1 A 0 [(2, 0), (0, p1), (0, p2), (0, p3)] [] d
  refine g_sub (lo2 := [(2, 0), (0, p1), (0, p2), (0, p3)]) (lsb_v (lsb_v (lsb_v (lsb_v lsb_e)))) ?_
  unfold L_Mo_miles at h
  refine g_iload_n C 1 rfl (by decide +kernel) ?_
  obtain ⟨r6_, d5_, hr7_, h⟩ := bd_some h
  refine g_callS C mw_Mo_isPlace [(0, p1)] (ok_Mo_isPlace p1 d hp1 hr7_) (ix := 325) lk_1798 lk_1799 ⟨rfl, rfl, Nat.le_of_ble_eq_true rfl, Nat.le_of_ble_eq_true rfl⟩ rfl (rest := []) rfl (Nat.le_of_ble_eq_true rfl) ⟨Nat.zero_le _, Nat.zero_le _⟩ (by decide +kernel) (fun _ hc8_ => ?_)
  replace hc8_ : cb r6_ := hc8_
  refine g_st (st2 := [(0, r6_)]) rfl ?_
  refine g_if_eq C (off := 27) (tgt := 31) (c32_cb hc8_) (by decide +kernel) (by decide) (fun hc9_ => ?_) (fun hc9_ => ?_)
  · replace h := ite_t hc9_ h
    refine g_sub (lo2 := [(2, 0), (9, 0), (9, 0), (9, 0)]) (lsb_v (lsb_c (lsb_c (lsb_c lsb_e)))) ?_
    exact ok_Mo_miles_b31 C hlk hr d5_  h
  · replace h := ite_f hc9_ h
    refine g_iload_n C 2 rfl (by decide +kernel) ?_
    obtain ⟨r11_, d10_, hr12_, h⟩ := bd_some h
    refine g_callS C mw_Mo_isPlace [(0, p2)] (ok_Mo_isPlace p2 d5_ hp2 hr12_) (ix := 325) lk_1798 lk_1799 ⟨rfl, rfl, Nat.le_of_ble_eq_true rfl, Nat.le_of_ble_eq_true rfl⟩ rfl (rest := []) rfl (Nat.le_of_ble_eq_true rfl) ⟨Nat.zero_le _, Nat.zero_le _⟩ (by decide +kernel) (fun _ hc13_ => ?_)
    replace hc13_ : cb r11_ := hc13_
    refine g_st (st2 := [(0, r11_)]) rfl ?_
    refine g_if_eq C (off := 20) (tgt := 31) (c32_cb hc13_) (by decide +kernel) (by decide) (fun hc14_ => ?_) (fun hc14_ => ?_)
    · replace h := ite_t hc14_ h
      refine g_sub (lo2 := [(2, 0), (9, 0), (9, 0), (9, 0)]) (lsb_v (lsb_c (lsb_c (lsb_c lsb_e)))) ?_
      exact ok_Mo_miles_b31 C hlk hr d10_  h
    · replace h := ite_f hc14_ h
      refine g_iload_n C 1 rfl (by decide +kernel) ?_
      refine g_iload_n C 2 rfl (by decide +kernel) ?_
      refine g_icmp_eq C (off := 15) (tgt := 31) hp1 hp2 (by decide +kernel) (by decide) (fun hc15_ => ?_) (fun hc15_ => ?_)
      · replace h := ite_t hc15_ h
        refine g_sub (lo2 := [(2, 0), (9, 0), (9, 0), (9, 0)]) (lsb_v (lsb_c (lsb_c (lsb_c lsb_e)))) ?_
        exact ok_Mo_miles_b31 C hlk hr d10_  h
      · replace h := ite_f hc15_ h
        refine g_iload_n C 3 rfl (by decide +kernel) ?_
        refine g_iconst C 1 (cK rfl) (by decide +kernel) ?_
        refine g_icmp_lt C (off := 10) (tgt := 31) hp3 (c32_cb (Or.inr rfl)) (by decide +kernel) (by decide) (fun hc16_ => ?_) (fun hc16_ => ?_)
        · replace h := ite_t hc16_ h
          refine g_sub (lo2 := [(2, 0), (9, 0), (9, 0), (9, 0)]) (lsb_v (lsb_c (lsb_c (lsb_c lsb_e)))) ?_
          exact ok_Mo_miles_b31 C hlk hr d10_  h
        · replace h := ite_f hc16_ h
          refine g_iload_n C 3 rfl (by decide +kernel) ?_
          refine g_sipush C 1000 (by decide) (by decide +kernel) ?_
          refine g_icmp_le C (off := 9) (tgt := 37) hp3 (cK rfl) (by decide +kernel) (by decide) (fun hc17_ => ?_) (fun hc17_ => ?_)
          · replace h := ite_t hc17_ h
            refine g_sub (lo2 := [(2, 0), (9, 0), (9, 0), (9, 0)]) (lsb_v (lsb_c (lsb_c (lsb_c lsb_e)))) ?_
            exact ok_Mo_miles_b31 C hlk hr d10_  h
          · replace h := ite_f hc17_ h
            refine g_aload_n C 0 rfl (by decide +kernel) ?_
            refine g_getR C cl12 0 102 75 rfl cd_B0 ⟨by decide, rfl, by decide⟩ rfl rfl (nB (by decide)) (ix := 248) lk_1504 (by decide +kernel) ?_
            refine g_bipush C 7 (by decide) (by decide +kernel) ?_
            refine g_iload_n C 1 rfl (by decide +kernel) ?_
            refine g_imul C (by decide +kernel) ?_
            refine g_iload_n C 2 rfl (by decide +kernel) ?_
            refine g_iadd C (by decide +kernel) ?_
            refine g_iload_n C 3 rfl (by decide +kernel) ?_
            obtain ⟨hb18_, h⟩ := ck_some h
            refine g_iast C 75 hp3 (w32_c _) rfl cd_B75 (nB (by decide)) hb18_ (by decide +kernel) ?_
            refine g_aload_n C 0 rfl (by decide +kernel) ?_
            refine g_getR C cl12 0 102 75 rfl cd_B0 ⟨by decide, rfl, by decide⟩ rfl rfl (nB (by decide)) (ix := 248) lk_1504 (by decide +kernel) ?_
            refine g_bipush C 7 (by decide) (by decide +kernel) ?_
            refine g_iload_n C 2 rfl (by decide +kernel) ?_
            refine g_imul C (by decide +kernel) ?_
            refine g_iload_n C 1 rfl (by decide +kernel) ?_
            refine g_iadd C (by decide +kernel) ?_
            refine g_iload_n C 3 rfl (by decide +kernel) ?_
            obtain ⟨hb19_, h⟩ := ck_some h
            refine g_iast C 75 hp3 (w32_c _) rfl cd_B75 (nB (by decide)) hb19_ (by decide +kernel) ?_
            refine g_aload_n C 0 rfl (by decide +kernel) ?_
            refine g_iconst C 0 (cK rfl) (by decide +kernel) ?_
            obtain ⟨r21_, d20_, hr22_, h⟩ := bd_some h
            refine g_callV C mw_Mo_is [(0, 0)] 0 cl12 rfl (ok_Mo_is 0 (up2 (up2 d10_ 75 ((w32 ((w32 (7 * p1)) + p2))).toNat p3) 75 ((w32 ((w32 (7 * p2)) + p1))).toNat p3) (c32_cb (Or.inl rfl)) hr22_) cd_B0 (by decide) (nB (by decide)) (ix := 276) lk_1741 lk_1743 lkp_57 ⟨rfl, rfl, Nat.le_of_ble_eq_true rfl, Nat.le_of_ble_eq_true rfl⟩ rfl (rest := []) rfl (Nat.le_of_ble_eq_true rfl) ⟨Nat.zero_le _, Nat.zero_le _⟩ (by decide +kernel) (fun _ hc23_ => ?_)
            replace hc23_ : cb r21_ := hc23_
            refine g_st (st2 := [(0, r21_)]) rfl ?_
            obtain ⟨rfl, rfl⟩ := ret_inj h
            exact g_zret C hc23_ hlk hr (by decide +kernel)
/-! PollBooksModel.walk(I)V -/
def y_Mo_walk : MethodName := ⟨"PollBooksModel", "walk", "(I)V"⟩
def rm_Mo_walk : Room := { frames := 1, cells := 0, slots := 0, locals := 21 }
theorem mw_Mo_walk : MW y_Mo_walk prog_14_method_116_code 6 none 1 := ⟨lk_2242, lk_14, by decide +kernel⟩
def L_Mo_walk_b183 (x1 x2 x3 x4 x5 : Int) (d : Dt) : Option ((Int × Int × Int × Int × Int × Dt) ⊕ ((Int × Int × Int × Dt))) :=
  some (Sum.inl (x1, x2, x3, x4, (w32 (x5 + 1)), d))
def L_Mo_walk_y95 (x1 x2 x3 x4 x5 : Int) (d : Dt) : Option ((Int × Int × Int × Int × Int × Dt) ⊕ ((Int × Int × Int × Dt))) :=
  if x5 < 7 then if (iand (ishr x4 x5) 1) = 1 then ck ((0 : Int) ≤ (w32 ((w32 (7 * x4)) + x5)) ∧ (w32 ((w32 (7 * x4)) + x5)) < 896) (if (d 77 ((w32 ((w32 (7 * x4)) + x5))).toNat) < 100000000 then ck ((0 : Int) ≤ (w32 ((w32 (7 * x2)) + x3)) ∧ (w32 ((w32 (7 * x2)) + x3)) < 896) (ck ((0 : Int) ≤ (w32 ((w32 (7 * x4)) + x5)) ∧ (w32 ((w32 (7 * x4)) + x5)) < 896) (ck ((0 : Int) ≤ (w32 ((w32 (7 * x5)) + x3)) ∧ (w32 ((w32 (7 * x5)) + x3)) < 49) (ck ((0 : Int) ≤ (w32 ((w32 (7 * x2)) + x3)) ∧ (w32 ((w32 (7 * x2)) + x3)) < 896) (L_Mo_walk_b183 x1 x2 x3 x4 x5 (up2 d 77 ((w32 ((w32 (7 * x2)) + x3))).toNat (jmin (d 77 ((w32 ((w32 (7 * x2)) + x3))).toNat) (w32 ((d 77 ((w32 ((w32 (7 * x4)) + x5))).toNat) + (d 75 ((w32 ((w32 (7 * x5)) + x3))).toNat))))))))) else L_Mo_walk_b183 x1 x2 x3 x4 x5 d) else L_Mo_walk_b183 x1 x2 x3 x4 x5 d else some (Sum.inr (x1, x2, x3, d))
def L_Mo_walk_l95 (x1 x2 x3 x4 x5 : Int) (d : Dt) : Option ((Int × Int × Int × Dt)) := lpF (fun q : Int × Int × Int × Int × Int × Dt => L_Mo_walk_y95 q.1 q.2.1 q.2.2.1 q.2.2.2.1 q.2.2.2.2.1 q.2.2.2.2.2) FU (x1, x2, x3, x4, x5, d)
def L_Mo_walk_b227 (x1 x2 x3 : Int) (d : Dt) : Option ((Int × Int × Int × Dt) ⊕ ((Int × Int × Dt))) :=
  some (Sum.inl (x1, x2, (w32 (x3 + 1)), d))
def L_Mo_walk_b92 (x1 x2 x3 x4 : Int) (d : Dt) : Option ((Int × Int × Int × Dt) ⊕ ((Int × Int × Dt))) :=
  lb (L_Mo_walk_l95 x1 x2 x3 x4 0 d) (fun q27_ => u3 q27_ (fun v15_ v16_ v17_ d18_ => ck ((0 : Int) ≤ v16_ ∧ v16_ < 128) (ck ((0 : Int) ≤ (w32 ((w32 (7 * v16_)) + v17_)) ∧ (w32 ((w32 (7 * v16_)) + v17_)) < 896) (ck ((0 : Int) ≤ (w32 ((w32 (7 * v17_)) + v15_)) ∧ (w32 ((w32 (7 * v17_)) + v15_)) < 49) (ck ((0 : Int) ≤ v16_ ∧ v16_ < 128) (L_Mo_walk_b227 v15_ v16_ v17_ (up2 d18_ 78 v16_.toNat (jmin (d18_ 78 v16_.toNat) (w32 ((d18_ 77 ((w32 ((w32 (7 * v16_)) + v17_))).toNat) + (d18_ 75 ((w32 ((w32 (7 * v17_)) + v15_))).toNat)))))))))))
def L_Mo_walk_y20 (x1 x2 x3 : Int) (d : Dt) : Option ((Int × Int × Int × Dt) ⊕ ((Int × Int × Dt))) :=
  if x3 < 7 then ck ((0 : Int) ≤ (w32 ((w32 (7 * x2)) + x3)) ∧ (w32 ((w32 (7 * x2)) + x3)) < 896) (if (iand (ishr x2 x3) 1) = 0 then L_Mo_walk_b227 x1 x2 x3 (up2 d 77 ((w32 ((w32 (7 * x2)) + x3))).toNat 100000000) else if x3 = x1 then L_Mo_walk_b227 x1 x2 x3 (up2 d 77 ((w32 ((w32 (7 * x2)) + x3))).toNat 100000000) else lt_ (iand x2 (ixor (ishl 1 x3) (-1))) (fun v32_ => if v32_ = 0 then ck ((0 : Int) ≤ (w32 ((w32 (7 * x1)) + x3)) ∧ (w32 ((w32 (7 * x1)) + x3)) < 49) (ck ((0 : Int) ≤ (w32 ((w32 (7 * x2)) + x3)) ∧ (w32 ((w32 (7 * x2)) + x3)) < 896) (L_Mo_walk_b92 x1 x2 x3 v32_ (up2 (up2 d 77 ((w32 ((w32 (7 * x2)) + x3))).toNat 100000000) 77 ((w32 ((w32 (7 * x2)) + x3))).toNat (d 75 ((w32 ((w32 (7 * x1)) + x3))).toNat)))) else L_Mo_walk_b92 x1 x2 x3 v32_ (up2 d 77 ((w32 ((w32 (7 * x2)) + x3))).toNat 100000000))) else some (Sum.inr (x1, x2, d))
def L_Mo_walk_l20 (x1 x2 x3 : Int) (d : Dt) : Option ((Int × Int × Dt)) := lpF (fun q : Int × Int × Int × Dt => L_Mo_walk_y20 q.1 q.2.1 q.2.2.1 q.2.2.2) FU (x1, x2, x3, d)
def L_Mo_walk_y2 (x1 x2 : Int) (d : Dt) : Option ((Int × Int × Dt) ⊕ ((Dt))) :=
  if x2 < 128 then ck ((0 : Int) ≤ x2 ∧ x2 < 128) (lb (L_Mo_walk_l20 x1 x2 0 (up2 d 78 x2.toNat 100000000)) (fun q47_ => u2 q47_ (fun v43_ v44_ d45_ => some (Sum.inl (v43_, (w32 (v44_ + 1)), d45_))))) else some (Sum.inr (d))
def L_Mo_walk_l2 (x1 x2 : Int) (d : Dt) : Option ((Dt)) := lpF (fun q : Int × Int × Dt => L_Mo_walk_y2 q.1 q.2.1 q.2.2) FU (x1, x2, d)
def L_Mo_walk (p1 : Int) (d : Dt) : Option (Int × Dt) :=
  lb (L_Mo_walk_l2 p1 1 d) (fun q52_ => u0 q52_ (fun d50_ => some (0, d50_)))
set_option maxHeartbeats 4000000 in
theorem ok_Mo_walk_b183 {p : Program} {l : Launch} {e : Env} {s : State} {m : MethodId} {args : Array Value} {below : List Frame} {meth : Method} {c : Code} {D : va_G} {cA : Nat → ClassId} {ad : Nat → Nat} {A : Nat → Prop} (C : Cx p s m args c prog_14_method_116_code 6 "PollBooksModel" D cA ad 1 A) {Q : State → Prop} {o : (Int × Int × Int × Int × Int × Dt) ⊕ ((Int × Int × Int × Dt))} (x1 x2 x3 x4 x5 : Int) (d : Dt) (hx1 : c32 x1) (hx2 : c32 x2) (hx3 : c32 x3) (hx4 : c32 x4) (hx5 : c32 x5) (h : L_Mo_walk_b183 x1 x2 x3 x4 x5 d = some o) (kb : ∀ (y0 y1 y2 y3 y4 : Int) (e' : Dt), o = .inl (y0, y1, y2, y3, y4, e') → c32 y0 → c32 y1 → c32 y2 → c32 y3 → c32 y4 → G p l e rm_Mo_walk s m args below meth c 0 0 Q 6 D cA ad 1 A 95 [(2, 0), (0, y0), (0, y1), (0, y2), (0, y3), (0, y4)] [] e') (k0 : ∀ (y0 y1 y2 : Int) (e' : Dt), o = .inr (y0, y1, y2, e') → c32 y0 → c32 y1 → c32 y2 → G p l e rm_Mo_walk s m args below meth c 0 0 Q 6 D cA ad 1 A 189 [(2, 0), (0, y0), (0, y1), (0, y2), (9, 0), (9, 0)] [] e') : G p l e rm_Mo_walk s m args below meth c 0 0 Q 6 D cA ad 1 A 183 [(2, 0), (0, x1), (0, x2), (0, x3), (0, x4), (0, x5)] [] d := by
  unfold L_Mo_walk_b183 at h
  refine s_iinc C 5 1 (lo' := [(2, 0), (0, x1), (0, x2), (0, x3), (0, x4), (0, (w32 (x5 + 1)))]) rfl (by decide) (s1k (s1k (s1k (s1k (s1n (by decide) s1z))))) (by decide +kernel) ?_
  refine g_goto C 95 (off := (-91)) (by decide +kernel) (by decide) ?_
  refine g_sub (lo2 := [(2, 0), (0, x1), (0, x2), (0, x3), (0, x4), (0, (w32 (x5 + 1)))]) (lsb_v (lsb_v (lsb_v (lsb_v (lsb_v (lsb_v lsb_e)))))) ?_
  obtain rfl := Option.some.inj h
  exact kb x1 x2 x3 x4 (w32 (x5 + 1)) d rfl hx1 hx2 hx3 hx4 (w32_c _)
set_option maxHeartbeats 4000000 in
theorem ok_Mo_walk_y95 {p : Program} {l : Launch} {e : Env} {s : State} {m : MethodId} {args : Array Value} {below : List Frame} {meth : Method} {c : Code} {D : va_G} {cA : Nat → ClassId} {ad : Nat → Nat} {A : Nat → Prop} (C : Cx p s m args c prog_14_method_116_code 6 "PollBooksModel" D cA ad 1 A) {Q : State → Prop} {o : (Int × Int × Int × Int × Int × Dt) ⊕ ((Int × Int × Int × Dt))} (x1 x2 x3 x4 x5 : Int) (d : Dt) (hx1 : c32 x1) (hx2 : c32 x2) (hx3 : c32 x3) (hx4 : c32 x4) (hx5 : c32 x5) (h : L_Mo_walk_y95 x1 x2 x3 x4 x5 d = some o) (kb : ∀ (y0 y1 y2 y3 y4 : Int) (e' : Dt), o = .inl (y0, y1, y2, y3, y4, e') → c32 y0 → c32 y1 → c32 y2 → c32 y3 → c32 y4 → G p l e rm_Mo_walk s m args below meth c 0 0 Q 6 D cA ad 1 A 95 [(2, 0), (0, y0), (0, y1), (0, y2), (0, y3), (0, y4)] [] e') (k0 : ∀ (y0 y1 y2 : Int) (e' : Dt), o = .inr (y0, y1, y2, e') → c32 y0 → c32 y1 → c32 y2 → G p l e rm_Mo_walk s m args below meth c 0 0 Q 6 D cA ad 1 A 189 [(2, 0), (0, y0), (0, y1), (0, y2), (9, 0), (9, 0)] [] e') : G p l e rm_Mo_walk s m args below meth c 0 0 Q 6 D cA ad 1 A 95 [(2, 0), (0, x1), (0, x2), (0, x3), (0, x4), (0, x5)] [] d := by
  unfold L_Mo_walk_y95 at h
  refine g_iload C 5 rfl (by decide +kernel) ?_
  refine g_bipush C 7 (by decide) (by decide +kernel) ?_
  refine g_icmp_ge C (off := 90) (tgt := 189) hx5 (cK rfl) (by decide +kernel) (by decide) (fun hc1_ => ?_) (fun hc1_ => ?_)
  · replace h := ite_t hc1_ h
    refine g_iload C 4 rfl (by decide +kernel) ?_
    refine g_iload C 5 rfl (by decide +kernel) ?_
    refine g_ishr C (by decide +kernel) ?_
    refine g_iconst C 1 (cK rfl) (by decide +kernel) ?_
    refine g_iand C (by decide +kernel) ?_
    refine g_iconst C 1 (cK rfl) (by decide +kernel) ?_
    refine g_icmp_ne C (off := 73) (tgt := 183) (i_c _) (c32_cb (Or.inr rfl)) (by decide +kernel) (by decide) (fun hc2_ => ?_) (fun hc2_ => ?_)
    · replace h := ite_t hc2_ h
      refine g_aload_n C 0 rfl (by decide +kernel) ?_
      refine g_getR C cl12 0 104 77 rfl cd_B0 ⟨by decide, rfl, by decide⟩ rfl rfl (nB (by decide)) (ix := 254) lk_1506 (by decide +kernel) ?_
      refine g_bipush C 7 (by decide) (by decide +kernel) ?_
      refine g_iload C 4 rfl (by decide +kernel) ?_
      refine g_imul C (by decide +kernel) ?_
      refine g_iload C 5 rfl (by decide +kernel) ?_
      refine g_iadd C (by decide +kernel) ?_
      obtain ⟨hb3_, h⟩ := ck_some h
      refine g_iald C 77 (w32_c _) rfl cd_B77 (nB (by decide)) hb3_ (by decide +kernel) (fun hc4_ => ?_)
      refine g_ldcw C (ix := 553) (v := 100000000) lk_2127 (by decide +kernel) ?_
      refine g_icmp_ge C (off := 54) (tgt := 183) hc4_ (cK rfl) (by decide +kernel) (by decide) (fun hc5_ => ?_) (fun hc5_ => ?_)
      · replace h := ite_t hc5_ h
        refine g_aload_n C 0 rfl (by decide +kernel) ?_
        refine g_getR C cl12 0 104 77 rfl cd_B0 ⟨by decide, rfl, by decide⟩ rfl rfl (nB (by decide)) (ix := 254) lk_1506 (by decide +kernel) ?_
        refine g_bipush C 7 (by decide) (by decide +kernel) ?_
        refine g_iload_n C 2 rfl (by decide +kernel) ?_
        refine g_imul C (by decide +kernel) ?_
        refine g_iload_n C 3 rfl (by decide +kernel) ?_
        refine g_iadd C (by decide +kernel) ?_
        refine g_aload_n C 0 rfl (by decide +kernel) ?_
        refine g_getR C cl12 0 104 77 rfl cd_B0 ⟨by decide, rfl, by decide⟩ rfl rfl (nB (by decide)) (ix := 254) lk_1506 (by decide +kernel) ?_
        refine g_bipush C 7 (by decide) (by decide +kernel) ?_
        refine g_iload_n C 2 rfl (by decide +kernel) ?_
        refine g_imul C (by decide +kernel) ?_
        refine g_iload_n C 3 rfl (by decide +kernel) ?_
        refine g_iadd C (by decide +kernel) ?_
        obtain ⟨hb6_, h⟩ := ck_some h
        refine g_iald C 77 (w32_c _) rfl cd_B77 (nB (by decide)) hb6_ (by decide +kernel) (fun hc7_ => ?_)
        refine g_aload_n C 0 rfl (by decide +kernel) ?_
        refine g_getR C cl12 0 104 77 rfl cd_B0 ⟨by decide, rfl, by decide⟩ rfl rfl (nB (by decide)) (ix := 254) lk_1506 (by decide +kernel) ?_
        refine g_bipush C 7 (by decide) (by decide +kernel) ?_
        refine g_iload C 4 rfl (by decide +kernel) ?_
        refine g_imul C (by decide +kernel) ?_
        refine g_iload C 5 rfl (by decide +kernel) ?_
        refine g_iadd C (by decide +kernel) ?_
        obtain ⟨hb8_, h⟩ := ck_some h
        refine g_iald C 77 (w32_c _) rfl cd_B77 (nB (by decide)) hb8_ (by decide +kernel) (fun hc9_ => ?_)
        refine g_aload_n C 0 rfl (by decide +kernel) ?_
        refine g_getR C cl12 0 102 75 rfl cd_B0 ⟨by decide, rfl, by decide⟩ rfl rfl (nB (by decide)) (ix := 248) lk_1504 (by decide +kernel) ?_
        refine g_bipush C 7 (by decide) (by decide +kernel) ?_
        refine g_iload C 5 rfl (by decide +kernel) ?_
        refine g_imul C (by decide +kernel) ?_
        refine g_iload_n C 3 rfl (by decide +kernel) ?_
        refine g_iadd C (by decide +kernel) ?_
        obtain ⟨hb10_, h⟩ := ck_some h
        refine g_iald C 75 (w32_c _) rfl cd_B75 (nB (by decide)) hb10_ (by decide +kernel) (fun hc11_ => ?_)
        refine g_iadd C (by decide +kernel) ?_
        refine g_mmin C hc7_ (w32_c _) (ix := 299) lk_1782 lk_601 lk_16 lk_602 ⟨Nat.le_of_ble_eq_true rfl, Nat.le_of_ble_eq_true rfl, Nat.zero_le _, Nat.zero_le _⟩ (Nat.le_of_ble_eq_true rfl) (by decide +kernel) ?_
        obtain ⟨hb12_, h⟩ := ck_some h
        refine g_iast C 77 (jmin_c hc7_ (w32_c _)) (w32_c _) rfl cd_B77 (nB (by decide)) hb12_ (by decide +kernel) ?_
        refine g_sub (lo2 := [(2, 0), (0, x1), (0, x2), (0, x3), (0, x4), (0, x5)]) (lsb_v (lsb_v (lsb_v (lsb_v (lsb_v (lsb_v lsb_e)))))) ?_
        exact ok_Mo_walk_b183 C x1 x2 x3 x4 x5 (up2 d 77 ((w32 ((w32 (7 * x2)) + x3))).toNat (jmin (d 77 ((w32 ((w32 (7 * x2)) + x3))).toNat) (w32 ((d 77 ((w32 ((w32 (7 * x4)) + x5))).toNat) + (d 75 ((w32 ((w32 (7 * x5)) + x3))).toNat))))) hx1 hx2 hx3 hx4 hx5 h kb k0
      · replace h := ite_f hc5_ h
        refine g_sub (lo2 := [(2, 0), (0, x1), (0, x2), (0, x3), (0, x4), (0, x5)]) (lsb_v (lsb_v (lsb_v (lsb_v (lsb_v (lsb_v lsb_e)))))) ?_
        exact ok_Mo_walk_b183 C x1 x2 x3 x4 x5 d hx1 hx2 hx3 hx4 hx5 h kb k0
    · replace h := ite_f hc2_ h
      refine g_sub (lo2 := [(2, 0), (0, x1), (0, x2), (0, x3), (0, x4), (0, x5)]) (lsb_v (lsb_v (lsb_v (lsb_v (lsb_v (lsb_v lsb_e)))))) ?_
      exact ok_Mo_walk_b183 C x1 x2 x3 x4 x5 d hx1 hx2 hx3 hx4 hx5 h kb k0
  · replace h := ite_f hc1_ h
    refine g_sub (lo2 := [(2, 0), (0, x1), (0, x2), (0, x3), (9, 0), (9, 0)]) (lsb_v (lsb_v (lsb_v (lsb_v (lsb_c (lsb_c lsb_e)))))) ?_
    obtain rfl := Option.some.inj h
    exact k0 x1 x2 x3 d rfl hx1 hx2 hx3
set_option maxHeartbeats 4000000 in
theorem ok_Mo_walk_n95 {p : Program} {l : Launch} {e : Env} {s : State} {m : MethodId} {args : Array Value} {below : List Frame} {meth : Method} {c : Code} {D : va_G} {cA : Nat → ClassId} {ad : Nat → Nat} {A : Nat → Prop} (C : Cx p s m args c prog_14_method_116_code 6 "PollBooksModel" D cA ad 1 A) {Q : State → Prop} {x : (Int × Int × Int × Dt)} : ∀ (n : Nat) (x1 x2 x3 x4 x5 : Int) (d : Dt), c32 x1 → c32 x2 → c32 x3 → c32 x4 → c32 x5 → lpF (fun q : Int × Int × Int × Int × Int × Dt => L_Mo_walk_y95 q.1 q.2.1 q.2.2.1 q.2.2.2.1 q.2.2.2.2.1 q.2.2.2.2.2) n (x1, x2, x3, x4, x5, d) = some x → (∀ (y0 y1 y2 : Int) (e' : Dt), x = (y0, y1, y2, e') → c32 y0 → c32 y1 → c32 y2 → G p l e rm_Mo_walk s m args below meth c 0 0 Q 6 D cA ad 1 A 189 [(2, 0), (0, y0), (0, y1), (0, y2), (9, 0), (9, 0)] [] e') → G p l e rm_Mo_walk s m args below meth c 0 0 Q 6 D cA ad 1 A 95 [(2, 0), (0, x1), (0, x2), (0, x3), (0, x4), (0, x5)] [] d := by
  intro n
  induction n with
  | zero => intro x1 x2 x3 x4 x5 d g0 g1 g2 g3 g4 h k0; cases h
  | succ n ih =>
    intro x1 x2 x3 x4 x5 d g0 g1 g2 g3 g4 h k0
    rcases lpF_some h with h | ⟨⟨v0_, v1_, v2_, v3_, v4_, e0_⟩, h1, h⟩
    · exact ok_Mo_walk_y95 C x1 x2 x3 x4 x5 d g0 g1 g2 g3 g4 h (fun z0_ z1_ z2_ z3_ z4_ e1_ eq w0_ w1_ w2_ w3_ w4_ => by cases eq) (fun z0_ z1_ z2_ e1_ eq w0_ w1_ w2_ => k0 _ _ _ _ (by cases eq; rfl) w0_ w1_ w2_)
    · exact ok_Mo_walk_y95 C x1 x2 x3 x4 x5 d g0 g1 g2 g3 g4 h1 (fun z0_ z1_ z2_ z3_ z4_ e1_ eq w0_ w1_ w2_ w3_ w4_ => by cases eq; exact ih _ _ _ _ _ _ w0_ w1_ w2_ w3_ w4_ h k0) (fun z0_ z1_ z2_ e1_ eq w0_ w1_ w2_ => by cases eq)
set_option maxHeartbeats 4000000 in
theorem ok_Mo_walk_l95 {p : Program} {l : Launch} {e : Env} {s : State} {m : MethodId} {args : Array Value} {below : List Frame} {meth : Method} {c : Code} {D : va_G} {cA : Nat → ClassId} {ad : Nat → Nat} {A : Nat → Prop} (C : Cx p s m args c prog_14_method_116_code 6 "PollBooksModel" D cA ad 1 A) {Q : State → Prop} {x : (Int × Int × Int × Dt)} (x1 x2 x3 x4 x5 : Int) (d : Dt) (hx1 : c32 x1) (hx2 : c32 x2) (hx3 : c32 x3) (hx4 : c32 x4) (hx5 : c32 x5) (h : L_Mo_walk_l95 x1 x2 x3 x4 x5 d = some x) (k0 : ∀ (y0 y1 y2 : Int) (e' : Dt), x = (y0, y1, y2, e') → c32 y0 → c32 y1 → c32 y2 → G p l e rm_Mo_walk s m args below meth c 0 0 Q 6 D cA ad 1 A 189 [(2, 0), (0, y0), (0, y1), (0, y2), (9, 0), (9, 0)] [] e') : G p l e rm_Mo_walk s m args below meth c 0 0 Q 6 D cA ad 1 A 95 [(2, 0), (0, x1), (0, x2), (0, x3), (0, x4), (0, x5)] [] d :=
  ok_Mo_walk_n95 C FU x1 x2 x3 x4 x5 d hx1 hx2 hx3 hx4 hx5 h k0
set_option maxHeartbeats 4000000 in
theorem ok_Mo_walk_b227 {p : Program} {l : Launch} {e : Env} {s : State} {m : MethodId} {args : Array Value} {below : List Frame} {meth : Method} {c : Code} {D : va_G} {cA : Nat → ClassId} {ad : Nat → Nat} {A : Nat → Prop} (C : Cx p s m args c prog_14_method_116_code 6 "PollBooksModel" D cA ad 1 A) {Q : State → Prop} {o : (Int × Int × Int × Dt) ⊕ ((Int × Int × Dt))} (x1 x2 x3 : Int) (d : Dt) (hx1 : c32 x1) (hx2 : c32 x2) (hx3 : c32 x3) (h : L_Mo_walk_b227 x1 x2 x3 d = some o) (kb : ∀ (y0 y1 y2 : Int) (e' : Dt), o = .inl (y0, y1, y2, e') → c32 y0 → c32 y1 → c32 y2 → G p l e rm_Mo_walk s m args below meth c 0 0 Q 6 D cA ad 1 A 20 [(2, 0), (0, y0), (0, y1), (0, y2), (9, 0), (9, 0)] [] e') (k0 : ∀ (y0 y1 : Int) (e' : Dt), o = .inr (y0, y1, e') → c32 y0 → c32 y1 → G p l e rm_Mo_walk s m args below meth c 0 0 Q 6 D cA ad 1 A 233 [(2, 0), (0, y0), (0, y1), (9, 0), (9, 0), (9, 0)] [] e') : G p l e rm_Mo_walk s m args below meth c 0 0 Q 6 D cA ad 1 A 227 [(2, 0), (0, x1), (0, x2), (0, x3), (9, 0), (9, 0)] [] d := by
  unfold L_Mo_walk_b227 at h
  refine s_iinc C 3 1 (lo' := [(2, 0), (0, x1), (0, x2), (0, (w32 (x3 + 1))), (9, 0), (9, 0)]) rfl (by decide) (s1k (s1k (s1n (by decide) s1z))) (by decide +kernel) ?_
  refine g_goto C 20 (off := (-210)) (by decide +kernel) (by decide) ?_
  refine g_sub (lo2 := [(2, 0), (0, x1), (0, x2), (0, (w32 (x3 + 1))), (9, 0), (9, 0)]) (lsb_v (lsb_v (lsb_v (lsb_v (lsb_c (lsb_c lsb_e)))))) ?_
  obtain rfl := Option.some.inj h
  exact kb x1 x2 (w32 (x3 + 1)) d rfl hx1 hx2 (w32_c _)
set_option maxHeartbeats 4000000 in
theorem ok_Mo_walk_b92 {p : Program} {l : Launch} {e : Env} {s : State} {m : MethodId} {args : Array Value} {below : List Frame} {meth : Method} {c : Code} {D : va_G} {cA : Nat → ClassId} {ad : Nat → Nat} {A : Nat → Prop} (C : Cx p s m args c prog_14_method_116_code 6 "PollBooksModel" D cA ad 1 A) {Q : State → Prop} {o : (Int × Int × Int × Dt) ⊕ ((Int × Int × Dt))} (x1 x2 x3 x4 : Int) (d : Dt) (hx1 : c32 x1) (hx2 : c32 x2) (hx3 : c32 x3) (hx4 : c32 x4) (h : L_Mo_walk_b92 x1 x2 x3 x4 d = some o) (kb : ∀ (y0 y1 y2 : Int) (e' : Dt), o = .inl (y0, y1, y2, e') → c32 y0 → c32 y1 → c32 y2 → G p l e rm_Mo_walk s m args below meth c 0 0 Q 6 D cA ad 1 A 20 [(2, 0), (0, y0), (0, y1), (0, y2), (9, 0), (9, 0)] [] e') (k0 : ∀ (y0 y1 : Int) (e' : Dt), o = .inr (y0, y1, e') → c32 y0 → c32 y1 → G p l e rm_Mo_walk s m args below meth c 0 0 Q 6 D cA ad 1 A 233 [(2, 0), (0, y0), (0, y1), (9, 0), (9, 0), (9, 0)] [] e') : G p l e rm_Mo_walk s m args below meth c 0 0 Q 6 D cA ad 1 A 92 [(2, 0), (0, x1), (0, x2), (0, x3), (0, x4), (9, 0)] [] d := by
  unfold L_Mo_walk_b92 at h
  refine g_iconst C 0 (cK rfl) (by decide +kernel) ?_
  refine s_istore C 5 (lo' := [(2, 0), (0, x1), (0, x2), (0, x3), (0, x4), (0, 0)]) (by decide) (s1k (s1k (s1k (s1k (s1n (by decide) s1z))))) (by decide +kernel) ?_
  refine g_sub (lo2 := [(2, 0), (0, x1), (0, x2), (0, x3), (0, x4), (0, 0)]) (lsb_v (lsb_v (lsb_v (lsb_v (lsb_v (lsb_v lsb_e)))))) ?_
  obtain ⟨x13_, hx14_, h⟩ := lb_some h
  refine ok_Mo_walk_l95 C x1 x2 x3 x4 0 d hx1 hx2 hx3 hx4 (c32_cb (Or.inl rfl)) hx14_ (fun v15_ v16_ v17_ d18_ eq19_ hv15_ hv16_ hv17_ => ?_)
  subst eq19_
  replace h := u3_e h
  refine g_aload_n C 0 rfl (by decide +kernel) ?_
  refine g_getR C cl12 0 105 78 rfl cd_B0 ⟨by decide, rfl, by decide⟩ rfl rfl (nB (by decide)) (ix := 257) lk_1507 (by decide +kernel) ?_
  refine g_iload_n C 2 rfl (by decide +kernel) ?_
  refine g_aload_n C 0 rfl (by decide +kernel) ?_
  refine g_getR C cl12 0 105 78 rfl cd_B0 ⟨by decide, rfl, by decide⟩ rfl rfl (nB (by decide)) (ix := 257) lk_1507 (by decide +kernel) ?_
  refine g_iload_n C 2 rfl (by decide +kernel) ?_
  obtain ⟨hb20_, h⟩ := ck_some h
  refine g_iald C 78 hv16_ rfl cd_B78 (nB (by decide)) hb20_ (by decide +kernel) (fun hc21_ => ?_)
  refine g_aload_n C 0 rfl (by decide +kernel) ?_
  refine g_getR C cl12 0 104 77 rfl cd_B0 ⟨by decide, rfl, by decide⟩ rfl rfl (nB (by decide)) (ix := 254) lk_1506 (by decide +kernel) ?_
  refine g_bipush C 7 (by decide) (by decide +kernel) ?_
  refine g_iload_n C 2 rfl (by decide +kernel) ?_
  refine g_imul C (by decide +kernel) ?_
  refine g_iload_n C 3 rfl (by decide +kernel) ?_
  refine g_iadd C (by decide +kernel) ?_
  obtain ⟨hb22_, h⟩ := ck_some h
  refine g_iald C 77 (w32_c _) rfl cd_B77 (nB (by decide)) hb22_ (by decide +kernel) (fun hc23_ => ?_)
  refine g_aload_n C 0 rfl (by decide +kernel) ?_
  refine g_getR C cl12 0 102 75 rfl cd_B0 ⟨by decide, rfl, by decide⟩ rfl rfl (nB (by decide)) (ix := 248) lk_1504 (by decide +kernel) ?_
  refine g_bipush C 7 (by decide) (by decide +kernel) ?_
  refine g_iload_n C 3 rfl (by decide +kernel) ?_
  refine g_imul C (by decide +kernel) ?_
  refine g_iload_n C 1 rfl (by decide +kernel) ?_
  refine g_iadd C (by decide +kernel) ?_
  obtain ⟨hb24_, h⟩ := ck_some h
  refine g_iald C 75 (w32_c _) rfl cd_B75 (nB (by decide)) hb24_ (by decide +kernel) (fun hc25_ => ?_)
  refine g_iadd C (by decide +kernel) ?_
  refine g_mmin C hc21_ (w32_c _) (ix := 299) lk_1782 lk_601 lk_16 lk_602 ⟨Nat.le_of_ble_eq_true rfl, Nat.le_of_ble_eq_true rfl, Nat.zero_le _, Nat.zero_le _⟩ (Nat.le_of_ble_eq_true rfl) (by decide +kernel) ?_
  obtain ⟨hb26_, h⟩ := ck_some h
  refine g_iast C 78 (jmin_c hc21_ (w32_c _)) hv16_ rfl cd_B78 (nB (by decide)) hb26_ (by decide +kernel) ?_
  refine g_sub (lo2 := [(2, 0), (0, v15_), (0, v16_), (0, v17_), (9, 0), (9, 0)]) (lsb_v (lsb_v (lsb_v (lsb_v (lsb_c (lsb_c lsb_e)))))) ?_
  exact ok_Mo_walk_b227 C v15_ v16_ v17_ (up2 d18_ 78 v16_.toNat (jmin (d18_ 78 v16_.toNat) (w32 ((d18_ 77 ((w32 ((w32 (7 * v16_)) + v17_))).toNat) + (d18_ 75 ((w32 ((w32 (7 * v17_)) + v15_))).toNat))))) hv15_ hv16_ hv17_ h kb k0
set_option maxHeartbeats 4000000 in
theorem ok_Mo_walk_y20 {p : Program} {l : Launch} {e : Env} {s : State} {m : MethodId} {args : Array Value} {below : List Frame} {meth : Method} {c : Code} {D : va_G} {cA : Nat → ClassId} {ad : Nat → Nat} {A : Nat → Prop} (C : Cx p s m args c prog_14_method_116_code 6 "PollBooksModel" D cA ad 1 A) {Q : State → Prop} {o : (Int × Int × Int × Dt) ⊕ ((Int × Int × Dt))} (x1 x2 x3 : Int) (d : Dt) (hx1 : c32 x1) (hx2 : c32 x2) (hx3 : c32 x3) (h : L_Mo_walk_y20 x1 x2 x3 d = some o) (kb : ∀ (y0 y1 y2 : Int) (e' : Dt), o = .inl (y0, y1, y2, e') → c32 y0 → c32 y1 → c32 y2 → G p l e rm_Mo_walk s m args below meth c 0 0 Q 6 D cA ad 1 A 20 [(2, 0), (0, y0), (0, y1), (0, y2), (9, 0), (9, 0)] [] e') (k0 : ∀ (y0 y1 : Int) (e' : Dt), o = .inr (y0, y1, e') → c32 y0 → c32 y1 → G p l e rm_Mo_walk s m args below meth c 0 0 Q 6 D cA ad 1 A 233 [(2, 0), (0, y0), (0, y1), (9, 0), (9, 0), (9, 0)] [] e') : G p l e rm_Mo_walk s m args below meth c 0 0 Q 6 D cA ad 1 A 20 [(2, 0), (0, x1), (0, x2), (0, x3), (9, 0), (9, 0)] [] d := by
  unfold L_Mo_walk_y20 at h
  refine g_iload_n C 3 rfl (by decide +kernel) ?_
  refine g_bipush C 7 (by decide) (by decide +kernel) ?_
  refine g_icmp_ge C (off := 210) (tgt := 233) hx3 (cK rfl) (by decide +kernel) (by decide) (fun hc28_ => ?_) (fun hc28_ => ?_)
  · replace h := ite_t hc28_ h
    refine g_aload_n C 0 rfl (by decide +kernel) ?_
    refine g_getR C cl12 0 104 77 rfl cd_B0 ⟨by decide, rfl, by decide⟩ rfl rfl (nB (by decide)) (ix := 254) lk_1506 (by decide +kernel) ?_
    refine g_bipush C 7 (by decide) (by decide +kernel) ?_
    refine g_iload_n C 2 rfl (by decide +kernel) ?_
    refine g_imul C (by decide +kernel) ?_
    refine g_iload_n C 3 rfl (by decide +kernel) ?_
    refine g_iadd C (by decide +kernel) ?_
    refine g_ldcw C (ix := 553) (v := 100000000) lk_2127 (by decide +kernel) ?_
    obtain ⟨hb29_, h⟩ := ck_some h
    refine g_iast C 77 (cK rfl) (w32_c _) rfl cd_B77 (nB (by decide)) hb29_ (by decide +kernel) ?_
    refine g_iload_n C 2 rfl (by decide +kernel) ?_
    refine g_iload_n C 3 rfl (by decide +kernel) ?_
    refine g_ishr C (by decide +kernel) ?_
    refine g_iconst C 1 (cK rfl) (by decide +kernel) ?_
    refine g_iand C (by decide +kernel) ?_
    refine g_if_eq C (off := 182) (tgt := 227) (i_c _) (by decide +kernel) (by decide) (fun hc30_ => ?_) (fun hc30_ => ?_)
    · replace h := ite_t hc30_ h
      refine g_sub (lo2 := [(2, 0), (0, x1), (0, x2), (0, x3), (9, 0), (9, 0)]) (lsb_v (lsb_v (lsb_v (lsb_v (lsb_c (lsb_c lsb_e)))))) ?_
      exact ok_Mo_walk_b227 C x1 x2 x3 (up2 d 77 ((w32 ((w32 (7 * x2)) + x3))).toNat 100000000) hx1 hx2 hx3 h kb k0
    · replace h := ite_f hc30_ h
      refine g_iload_n C 3 rfl (by decide +kernel) ?_
      refine g_iload_n C 1 rfl (by decide +kernel) ?_
      refine g_icmp_ne C (off := 6) (tgt := 56) hx3 hx1 (by decide +kernel) (by decide) (fun hc31_ => ?_) (fun hc31_ => ?_)
      · replace h := ite_t hc31_ h
        refine g_goto C 227 (off := 174) (by decide +kernel) (by decide) ?_
        refine g_sub (lo2 := [(2, 0), (0, x1), (0, x2), (0, x3), (9, 0), (9, 0)]) (lsb_v (lsb_v (lsb_v (lsb_v (lsb_c (lsb_c lsb_e)))))) ?_
        exact ok_Mo_walk_b227 C x1 x2 x3 (up2 d 77 ((w32 ((w32 (7 * x2)) + x3))).toNat 100000000) hx1 hx2 hx3 h kb k0
      · replace h := ite_f hc31_ h
        refine g_iload_n C 2 rfl (by decide +kernel) ?_
        refine g_iconst C 1 (cK rfl) (by decide +kernel) ?_
        refine g_iload_n C 3 rfl (by decide +kernel) ?_
        refine g_ishl C (by decide +kernel) ?_
        refine g_iconst C (-1) (cK rfl) (by decide +kernel) ?_
        refine g_ixor C (by decide +kernel) ?_
        refine g_iand C (by decide +kernel) ?_
        obtain ⟨v32_, ev33_, h⟩ := lt_some h
        refine g_val ev33_.symm ?_
        have hv34_ : c32 v32_ := by rw [ev33_]; exact (i_c _)
        refine s_istore C 4 (lo' := [(2, 0), (0, x1), (0, x2), (0, x3), (0, v32_), (9, 0)]) (by decide) (s1k (s1k (s1k (s1n (by decide) s1z)))) (by decide +kernel) ?_
        refine g_iload C 4 rfl (by decide +kernel) ?_
        refine g_if_ne C (off := 25) (tgt := 92) hv34_ (by decide +kernel) (by decide) (fun hc35_ => ?_) (fun hc35_ => ?_)
        · replace h := ite_t hc35_ h
          refine g_aload_n C 0 rfl (by decide +kernel) ?_
          refine g_getR C cl12 0 104 77 rfl cd_B0 ⟨by decide, rfl, by decide⟩ rfl rfl (nB (by decide)) (ix := 254) lk_1506 (by decide +kernel) ?_
          refine g_bipush C 7 (by decide) (by decide +kernel) ?_
          refine g_iload_n C 2 rfl (by decide +kernel) ?_
          refine g_imul C (by decide +kernel) ?_
          refine g_iload_n C 3 rfl (by decide +kernel) ?_
          refine g_iadd C (by decide +kernel) ?_
          refine g_aload_n C 0 rfl (by decide +kernel) ?_
          refine g_getR C cl12 0 102 75 rfl cd_B0 ⟨by decide, rfl, by decide⟩ rfl rfl (nB (by decide)) (ix := 248) lk_1504 (by decide +kernel) ?_
          refine g_bipush C 7 (by decide) (by decide +kernel) ?_
          refine g_iload_n C 1 rfl (by decide +kernel) ?_
          refine g_imul C (by decide +kernel) ?_
          refine g_iload_n C 3 rfl (by decide +kernel) ?_
          refine g_iadd C (by decide +kernel) ?_
          obtain ⟨hb36_, h⟩ := ck_some h
          refine g_iald C 75 (w32_c _) rfl cd_B75 (nB (by decide)) hb36_ (by decide +kernel) (fun hc37_ => ?_)
          refine g_val (y := (d 75 ((w32 ((w32 (7 * x1)) + x3))).toNat)) rfl ?_
          replace hc37_ : c32 (d 75 ((w32 ((w32 (7 * x1)) + x3))).toNat) := hc37_
          obtain ⟨hb38_, h⟩ := ck_some h
          refine g_iast C 77 hc37_ (w32_c _) rfl cd_B77 (nB (by decide)) hb38_ (by decide +kernel) ?_
          refine g_sub (lo2 := [(2, 0), (0, x1), (0, x2), (0, x3), (0, v32_), (9, 0)]) (lsb_v (lsb_v (lsb_v (lsb_v (lsb_v (lsb_c lsb_e)))))) ?_
          exact ok_Mo_walk_b92 C x1 x2 x3 v32_ (up2 (up2 d 77 ((w32 ((w32 (7 * x2)) + x3))).toNat 100000000) 77 ((w32 ((w32 (7 * x2)) + x3))).toNat (d 75 ((w32 ((w32 (7 * x1)) + x3))).toNat)) hx1 hx2 hx3 hv34_ h kb k0
        · replace h := ite_f hc35_ h
          refine g_sub (lo2 := [(2, 0), (0, x1), (0, x2), (0, x3), (0, v32_), (9, 0)]) (lsb_v (lsb_v (lsb_v (lsb_v (lsb_v (lsb_c lsb_e)))))) ?_
          exact ok_Mo_walk_b92 C x1 x2 x3 v32_ (up2 d 77 ((w32 ((w32 (7 * x2)) + x3))).toNat 100000000) hx1 hx2 hx3 hv34_ h kb k0
  · replace h := ite_f hc28_ h
    refine g_sub (lo2 := [(2, 0), (0, x1), (0, x2), (9, 0), (9, 0), (9, 0)]) (lsb_v (lsb_v (lsb_v (lsb_c (lsb_c (lsb_c lsb_e)))))) ?_
    obtain rfl := Option.some.inj h
    exact k0 x1 x2 d rfl hx1 hx2
set_option maxHeartbeats 4000000 in
theorem ok_Mo_walk_n20 {p : Program} {l : Launch} {e : Env} {s : State} {m : MethodId} {args : Array Value} {below : List Frame} {meth : Method} {c : Code} {D : va_G} {cA : Nat → ClassId} {ad : Nat → Nat} {A : Nat → Prop} (C : Cx p s m args c prog_14_method_116_code 6 "PollBooksModel" D cA ad 1 A) {Q : State → Prop} {x : (Int × Int × Dt)} : ∀ (n : Nat) (x1 x2 x3 : Int) (d : Dt), c32 x1 → c32 x2 → c32 x3 → lpF (fun q : Int × Int × Int × Dt => L_Mo_walk_y20 q.1 q.2.1 q.2.2.1 q.2.2.2) n (x1, x2, x3, d) = some x → (∀ (y0 y1 : Int) (e' : Dt), x = (y0, y1, e') → c32 y0 → c32 y1 → G p l e rm_Mo_walk s m args below meth c 0 0 Q 6 D cA ad 1 A 233 [(2, 0), (0, y0), (0, y1), (9, 0), (9, 0), (9, 0)] [] e') → G p l e rm_Mo_walk s m args below meth c 0 0 Q 6 D cA ad 1 A 20 [(2, 0), (0, x1), (0, x2), (0, x3), (9, 0), (9, 0)] [] d := by
  intro n
  induction n with
  | zero => intro x1 x2 x3 d g0 g1 g2 h k0; cases h
  | succ n ih =>
    intro x1 x2 x3 d g0 g1 g2 h k0
    rcases lpF_some h with h | ⟨⟨v0_, v1_, v2_, e0_⟩, h1, h⟩
    · exact ok_Mo_walk_y20 C x1 x2 x3 d g0 g1 g2 h (fun z0_ z1_ z2_ e1_ eq w0_ w1_ w2_ => by cases eq) (fun z0_ z1_ e1_ eq w0_ w1_ => k0 _ _ _ (by cases eq; rfl) w0_ w1_)
    · exact ok_Mo_walk_y20 C x1 x2 x3 d g0 g1 g2 h1 (fun z0_ z1_ z2_ e1_ eq w0_ w1_ w2_ => by cases eq; exact ih _ _ _ _ w0_ w1_ w2_ h k0) (fun z0_ z1_ e1_ eq w0_ w1_ => by cases eq)
set_option maxHeartbeats 4000000 in
theorem ok_Mo_walk_l20 {p : Program} {l : Launch} {e : Env} {s : State} {m : MethodId} {args : Array Value} {below : List Frame} {meth : Method} {c : Code} {D : va_G} {cA : Nat → ClassId} {ad : Nat → Nat} {A : Nat → Prop} (C : Cx p s m args c prog_14_method_116_code 6 "PollBooksModel" D cA ad 1 A) {Q : State → Prop} {x : (Int × Int × Dt)} (x1 x2 x3 : Int) (d : Dt) (hx1 : c32 x1) (hx2 : c32 x2) (hx3 : c32 x3) (h : L_Mo_walk_l20 x1 x2 x3 d = some x) (k0 : ∀ (y0 y1 : Int) (e' : Dt), x = (y0, y1, e') → c32 y0 → c32 y1 → G p l e rm_Mo_walk s m args below meth c 0 0 Q 6 D cA ad 1 A 233 [(2, 0), (0, y0), (0, y1), (9, 0), (9, 0), (9, 0)] [] e') : G p l e rm_Mo_walk s m args below meth c 0 0 Q 6 D cA ad 1 A 20 [(2, 0), (0, x1), (0, x2), (0, x3), (9, 0), (9, 0)] [] d :=
  ok_Mo_walk_n20 C FU x1 x2 x3 d hx1 hx2 hx3 h k0
set_option maxHeartbeats 4000000 in
theorem ok_Mo_walk_y2 {p : Program} {l : Launch} {e : Env} {s : State} {m : MethodId} {args : Array Value} {below : List Frame} {meth : Method} {c : Code} {D : va_G} {cA : Nat → ClassId} {ad : Nat → Nat} {A : Nat → Prop} (C : Cx p s m args c prog_14_method_116_code 6 "PollBooksModel" D cA ad 1 A) {Q : State → Prop} {o : (Int × Int × Dt) ⊕ ((Dt))} (x1 x2 : Int) (d : Dt) (hx1 : c32 x1) (hx2 : c32 x2) (h : L_Mo_walk_y2 x1 x2 d = some o) (kb : ∀ (y0 y1 : Int) (e' : Dt), o = .inl (y0, y1, e') → c32 y0 → c32 y1 → G p l e rm_Mo_walk s m args below meth c 0 0 Q 6 D cA ad 1 A 2 [(2, 0), (0, y0), (0, y1), (9, 0), (9, 0), (9, 0)] [] e') (k0 : ∀ (e' : Dt), o = .inr (e') → G p l e rm_Mo_walk s m args below meth c 0 0 Q 6 D cA ad 1 A 239 [(9, 0), (9, 0), (9, 0), (9, 0), (9, 0), (9, 0)] [] e') : G p l e rm_Mo_walk s m args below meth c 0 0 Q 6 D cA ad 1 A 2 [(2, 0), (0, x1), (0, x2), (9, 0), (9, 0), (9, 0)] [] d := by
  unfold L_Mo_walk_y2 at h
  refine g_iload_n C 2 rfl (by decide +kernel) ?_
  refine g_sipush C 128 (by decide) (by decide +kernel) ?_
  refine g_icmp_ge C (off := 233) (tgt := 239) hx2 (cK rfl) (by decide +kernel) (by decide) (fun hc39_ => ?_) (fun hc39_ => ?_)
  · replace h := ite_t hc39_ h
    refine g_aload_n C 0 rfl (by decide +kernel) ?_
    refine g_getR C cl12 0 105 78 rfl cd_B0 ⟨by decide, rfl, by decide⟩ rfl rfl (nB (by decide)) (ix := 257) lk_1507 (by decide +kernel) ?_
    refine g_iload_n C 2 rfl (by decide +kernel) ?_
    refine g_ldcw C (ix := 553) (v := 100000000) lk_2127 (by decide +kernel) ?_
    obtain ⟨hb40_, h⟩ := ck_some h
    refine g_iast C 78 (cK rfl) hx2 rfl cd_B78 (nB (by decide)) hb40_ (by decide +kernel) ?_
    refine g_iconst C 0 (cK rfl) (by decide +kernel) ?_
    refine s_istore_n C 3 (lo' := [(2, 0), (0, x1), (0, x2), (0, 0), (9, 0), (9, 0)]) (by decide) (s1k (s1k (s1n (by decide) s1z))) (by decide +kernel) ?_
    refine g_sub (lo2 := [(2, 0), (0, x1), (0, x2), (0, 0), (9, 0), (9, 0)]) (lsb_v (lsb_v (lsb_v (lsb_v (lsb_c (lsb_c lsb_e)))))) ?_
    obtain ⟨x41_, hx42_, h⟩ := lb_some h
    refine ok_Mo_walk_l20 C x1 x2 0 (up2 d 78 x2.toNat 100000000) hx1 hx2 (c32_cb (Or.inl rfl)) hx42_ (fun v43_ v44_ d45_ eq46_ hv43_ hv44_ => ?_)
    subst eq46_
    replace h := u2_e h
    refine s_iinc C 2 1 (lo' := [(2, 0), (0, v43_), (0, (w32 (v44_ + 1))), (9, 0), (9, 0), (9, 0)]) rfl (by decide) (s1k (s1n (by decide) s1z)) (by decide +kernel) ?_
    refine g_goto C 2 (off := (-234)) (by decide +kernel) (by decide) ?_
    refine g_sub (lo2 := [(2, 0), (0, v43_), (0, (w32 (v44_ + 1))), (9, 0), (9, 0), (9, 0)]) (lsb_v (lsb_v (lsb_v (lsb_c (lsb_c (lsb_c lsb_e)))))) ?_
    obtain rfl := Option.some.inj h
    exact kb v43_ (w32 (v44_ + 1)) d45_ rfl hv43_ (w32_c _)
  · replace h := ite_f hc39_ h
    refine g_sub (lo2 := [(9, 0), (9, 0), (9, 0), (9, 0), (9, 0), (9, 0)]) (lsb_c (lsb_c (lsb_c (lsb_c (lsb_c (lsb_c lsb_e)))))) ?_
    obtain rfl := Option.some.inj h
    exact k0 d rfl 
set_option maxHeartbeats 4000000 in
theorem ok_Mo_walk_n2 {p : Program} {l : Launch} {e : Env} {s : State} {m : MethodId} {args : Array Value} {below : List Frame} {meth : Method} {c : Code} {D : va_G} {cA : Nat → ClassId} {ad : Nat → Nat} {A : Nat → Prop} (C : Cx p s m args c prog_14_method_116_code 6 "PollBooksModel" D cA ad 1 A) {Q : State → Prop} {x : (Dt)} : ∀ (n : Nat) (x1 x2 : Int) (d : Dt), c32 x1 → c32 x2 → lpF (fun q : Int × Int × Dt => L_Mo_walk_y2 q.1 q.2.1 q.2.2) n (x1, x2, d) = some x → (∀ (e' : Dt), x = (e') → G p l e rm_Mo_walk s m args below meth c 0 0 Q 6 D cA ad 1 A 239 [(9, 0), (9, 0), (9, 0), (9, 0), (9, 0), (9, 0)] [] e') → G p l e rm_Mo_walk s m args below meth c 0 0 Q 6 D cA ad 1 A 2 [(2, 0), (0, x1), (0, x2), (9, 0), (9, 0), (9, 0)] [] d := by
  intro n
  induction n with
  | zero => intro x1 x2 d g0 g1 h k0; cases h
  | succ n ih =>
    intro x1 x2 d g0 g1 h k0
    rcases lpF_some h with h | ⟨⟨v0_, v1_, e0_⟩, h1, h⟩
    · exact ok_Mo_walk_y2 C x1 x2 d g0 g1 h (fun z0_ z1_ e1_ eq w0_ w1_ => by cases eq) (fun e1_ eq => k0 _ (by cases eq; rfl) )
    · exact ok_Mo_walk_y2 C x1 x2 d g0 g1 h1 (fun z0_ z1_ e1_ eq w0_ w1_ => by cases eq; exact ih _ _ _ w0_ w1_ h k0) (fun e1_ eq => by cases eq)
set_option maxHeartbeats 4000000 in
theorem ok_Mo_walk_l2 {p : Program} {l : Launch} {e : Env} {s : State} {m : MethodId} {args : Array Value} {below : List Frame} {meth : Method} {c : Code} {D : va_G} {cA : Nat → ClassId} {ad : Nat → Nat} {A : Nat → Prop} (C : Cx p s m args c prog_14_method_116_code 6 "PollBooksModel" D cA ad 1 A) {Q : State → Prop} {x : (Dt)} (x1 x2 : Int) (d : Dt) (hx1 : c32 x1) (hx2 : c32 x2) (h : L_Mo_walk_l2 x1 x2 d = some x) (k0 : ∀ (e' : Dt), x = (e') → G p l e rm_Mo_walk s m args below meth c 0 0 Q 6 D cA ad 1 A 239 [(9, 0), (9, 0), (9, 0), (9, 0), (9, 0), (9, 0)] [] e') : G p l e rm_Mo_walk s m args below meth c 0 0 Q 6 D cA ad 1 A 2 [(2, 0), (0, x1), (0, x2), (9, 0), (9, 0), (9, 0)] [] d :=
  ok_Mo_walk_n2 C FU x1 x2 d hx1 hx2 h k0
set_option maxHeartbeats 4000000 in
theorem ok_Mo_walk {l : Launch} {r : Int} {d' : Dt} (p1 : Int) (d : Dt) (hp1 : c32 p1) (h : L_Mo_walk p1 d = some (r, d')) : MC l y_Mo_walk prog_14_method_116_code 6 none rm_Mo_walk 1 [(2, 0), (0, p1)] d none d' := by
  refine MC.of (by decide) (Nat.le_of_ble_eq_true rfl) ?_
  intro p e s m args below meth c D cA ad A C hlk hr
  replace C : Cx p s m args c prog_14_method_116_code 6 "PollBooksModel" D cA ad 1 A := C
  show G p l e rm_Mo_walk s m args below meth c 0 0 (MQ below (fun _ => QC D cA ad 1 A none none d') args s 0 0 A) 6 D cA ad 1 A 0 [(2, 0), (0, p1)] [] d
  refine g_sub (lo2 := [(2, 0), (0, p1), (9, 0), (9, 0), (9, 0), (9, 0)]) (lsb_v (lsb_v (lsb_n (lsb_n (lsb_n (lsb_n lsb_e)))))) ?_
  unfold L_Mo_walk at h
  refine g_iconst C 1 (cK rfl) (by decide +kernel) ?_
  refine s_istore_n C 2 (lo' := [(2, 0), (0, p1), (0, 1), (9, 0), (9, 0), (9, 0)]) (by decide) (s1k (s1n (by decide) s1z)) (by decide +kernel) ?_
  refine g_sub (lo2 := [(2, 0), (0, p1), (0, 1), (9, 0), (9, 0), (9, 0)]) (lsb_v (lsb_v (lsb_v (lsb_c (lsb_c (lsb_c lsb_e)))))) ?_
  obtain ⟨x48_, hx49_, h⟩ := lb_some h
  refine ok_Mo_walk_l2 C p1 1 d hp1 (c32_cb (Or.inr rfl)) hx49_ (fun d50_ eq51_ => ?_)
  replace eq51_ := eq51_.symm
  subst eq51_
  replace h := u0_e h
  obtain ⟨rfl, rfl⟩ := ret_inj h
  exact g_vret C hlk hr (by decide +kernel)
/-! PollBooksModel.load(I)I -/
def y_Mo_load : MethodName := ⟨"PollBooksModel", "load", "(I)I"⟩
def rm_Mo_load : Room := { frames := 0, cells := 0, slots := 0, locals := 0 }
theorem mw_Mo_load : MW y_Mo_load prog_14_method_118_code 4 (some .int) 1 := ⟨lk_2246, lk_14, by decide +kernel⟩
def L_Mo_load_b30 (x1 x3 s0 s1 : Int) (d : Dt) : Option ((Int × Int × Int × Dt) ⊕ ((Int × Dt))) :=
  lt_ (w32 (s0 + s1)) (fun v1_ => some (Sum.inl (x1, v1_, (w32 (x3 + 1)), d)))
def L_Mo_load_y4 (x1 x2 x3 : Int) (d : Dt) : Option ((Int × Int × Int × Dt) ⊕ ((Int × Dt))) :=
  if x3 < 7 then if (iand (ishr x1 x3) 1) = 1 then ck ((0 : Int) ≤ x3 ∧ x3 < 7) (L_Mo_load_b30 x1 x3 x2 (d 76 x3.toNat) d) else L_Mo_load_b30 x1 x3 x2 0 d else some (Sum.inr (x2, d))
def L_Mo_load_l4 (x1 x2 x3 : Int) (d : Dt) : Option ((Int × Dt)) := lpF (fun q : Int × Int × Int × Dt => L_Mo_load_y4 q.1 q.2.1 q.2.2.1 q.2.2.2) FU (x1, x2, x3, d)
def L_Mo_load (p1 : Int) (d : Dt) : Option (Int × Dt) :=
  lb (L_Mo_load_l4 p1 0 0 d) (fun q13_ => u1 q13_ (fun v10_ d11_ => some (v10_, d11_)))
set_option maxHeartbeats 4000000 in
theorem ok_Mo_load_b30 {p : Program} {l : Launch} {e : Env} {s : State} {m : MethodId} {args : Array Value} {below : List Frame} {meth : Method} {c : Code} {D : va_G} {cA : Nat → ClassId} {ad : Nat → Nat} {A : Nat → Prop} (C : Cx p s m args c prog_14_method_118_code 4 "PollBooksModel" D cA ad 1 A) {Q : State → Prop} {o : (Int × Int × Int × Dt) ⊕ ((Int × Dt))} (x1 x3 s0 s1 : Int) (d : Dt) (hx1 : c32 x1) (hx3 : c32 x3) (hs0 : c32 s0) (hs1 : c32 s1) (h : L_Mo_load_b30 x1 x3 s0 s1 d = some o) (kb : ∀ (y0 y1 y2 : Int) (e' : Dt), o = .inl (y0, y1, y2, e') → c32 y0 → c32 y1 → c32 y2 → G p l e rm_Mo_load s m args below meth c 0 0 Q 4 D cA ad 1 A 4 [(2, 0), (0, y0), (0, y1), (0, y2)] [] e') (k0 : ∀ (y0 : Int) (e' : Dt), o = .inr (y0, e') → c32 y0 → G p l e rm_Mo_load s m args below meth c 0 0 Q 4 D cA ad 1 A 38 [(9, 0), (9, 0), (0, y0), (9, 0)] [] e') : G p l e rm_Mo_load s m args below meth c 0 0 Q 4 D cA ad 1 A 30 [(2, 0), (0, x1), (9, 0), (0, x3)] [(0, s1), (0, s0)] d := by
  unfold L_Mo_load_b30 at h
  refine g_iadd C (by decide +kernel) ?_
  obtain ⟨v1_, ev2_, h⟩ := lt_some h
  refine g_val ev2_.symm ?_
  have hv3_ : c32 v1_ := by rw [ev2_]; exact (w32_c _)
  refine s_istore_n C 2 (lo' := [(2, 0), (0, x1), (0, v1_), (0, x3)]) (by decide) (s1k (s1n (by decide) s1z)) (by decide +kernel) ?_
  refine s_iinc C 3 1 (lo' := [(2, 0), (0, x1), (0, v1_), (0, (w32 (x3 + 1)))]) rfl (by decide) (s1k (s1k (s1n (by decide) s1z))) (by decide +kernel) ?_
  refine g_goto C 4 (off := (-31)) (by decide +kernel) (by decide) ?_
  refine g_sub (lo2 := [(2, 0), (0, x1), (0, v1_), (0, (w32 (x3 + 1)))]) (lsb_v (lsb_v (lsb_v (lsb_v lsb_e)))) ?_
  obtain rfl := Option.some.inj h
  exact kb x1 v1_ (w32 (x3 + 1)) d rfl hx1 hv3_ (w32_c _)
set_option maxHeartbeats 4000000 in
theorem ok_Mo_load_y4 {p : Program} {l : Launch} {e : Env} {s : State} {m : MethodId} {args : Array Value} {below : List Frame} {meth : Method} {c : Code} {D : va_G} {cA : Nat → ClassId} {ad : Nat → Nat} {A : Nat → Prop} (C : Cx p s m args c prog_14_method_118_code 4 "PollBooksModel" D cA ad 1 A) {Q : State → Prop} {o : (Int × Int × Int × Dt) ⊕ ((Int × Dt))} (x1 x2 x3 : Int) (d : Dt) (hx1 : c32 x1) (hx2 : c32 x2) (hx3 : c32 x3) (h : L_Mo_load_y4 x1 x2 x3 d = some o) (kb : ∀ (y0 y1 y2 : Int) (e' : Dt), o = .inl (y0, y1, y2, e') → c32 y0 → c32 y1 → c32 y2 → G p l e rm_Mo_load s m args below meth c 0 0 Q 4 D cA ad 1 A 4 [(2, 0), (0, y0), (0, y1), (0, y2)] [] e') (k0 : ∀ (y0 : Int) (e' : Dt), o = .inr (y0, e') → c32 y0 → G p l e rm_Mo_load s m args below meth c 0 0 Q 4 D cA ad 1 A 38 [(9, 0), (9, 0), (0, y0), (9, 0)] [] e') : G p l e rm_Mo_load s m args below meth c 0 0 Q 4 D cA ad 1 A 4 [(2, 0), (0, x1), (0, x2), (0, x3)] [] d := by
  unfold L_Mo_load_y4 at h
  refine g_iload_n C 3 rfl (by decide +kernel) ?_
  refine g_bipush C 7 (by decide) (by decide +kernel) ?_
  refine g_icmp_ge C (off := 31) (tgt := 38) hx3 (cK rfl) (by decide +kernel) (by decide) (fun hc4_ => ?_) (fun hc4_ => ?_)
  · replace h := ite_t hc4_ h
    refine g_iload_n C 2 rfl (by decide +kernel) ?_
    refine g_iload_n C 1 rfl (by decide +kernel) ?_
    refine g_iload_n C 3 rfl (by decide +kernel) ?_
    refine g_ishr C (by decide +kernel) ?_
    refine g_iconst C 1 (cK rfl) (by decide +kernel) ?_
    refine g_iand C (by decide +kernel) ?_
    refine g_iconst C 1 (cK rfl) (by decide +kernel) ?_
    refine g_icmp_ne C (off := 12) (tgt := 29) (i_c _) (c32_cb (Or.inr rfl)) (by decide +kernel) (by decide) (fun hc5_ => ?_) (fun hc5_ => ?_)
    · replace h := ite_t hc5_ h
      refine g_aload_n C 0 rfl (by decide +kernel) ?_
      refine g_getR C cl12 0 103 76 rfl cd_B0 ⟨by decide, rfl, by decide⟩ rfl rfl (nB (by decide)) (ix := 251) lk_1505 (by decide +kernel) ?_
      refine g_iload_n C 3 rfl (by decide +kernel) ?_
      obtain ⟨hb6_, h⟩ := ck_some h
      refine g_iald C 76 hx3 rfl cd_B76 (nB (by decide)) hb6_ (by decide +kernel) (fun hc7_ => ?_)
      refine g_goto C 30 (off := 4) (by decide +kernel) (by decide) ?_
      refine g_sub (lo2 := [(2, 0), (0, x1), (9, 0), (0, x3)]) (lsb_v (lsb_v (lsb_c (lsb_v lsb_e)))) ?_
      exact ok_Mo_load_b30 C x1 x3 x2 (d 76 x3.toNat) d hx1 hx3 hx2 hc7_ h kb k0
    · replace h := ite_f hc5_ h
      refine g_iconst C 0 (cK rfl) (by decide +kernel) ?_
      refine g_sub (lo2 := [(2, 0), (0, x1), (9, 0), (0, x3)]) (lsb_v (lsb_v (lsb_c (lsb_v lsb_e)))) ?_
      exact ok_Mo_load_b30 C x1 x3 x2 0 d hx1 hx3 hx2 (c32_cb (Or.inl rfl)) h kb k0
  · replace h := ite_f hc4_ h
    refine g_sub (lo2 := [(9, 0), (9, 0), (0, x2), (9, 0)]) (lsb_c (lsb_c (lsb_v (lsb_c lsb_e)))) ?_
    obtain rfl := Option.some.inj h
    exact k0 x2 d rfl hx2
set_option maxHeartbeats 4000000 in
theorem ok_Mo_load_n4 {p : Program} {l : Launch} {e : Env} {s : State} {m : MethodId} {args : Array Value} {below : List Frame} {meth : Method} {c : Code} {D : va_G} {cA : Nat → ClassId} {ad : Nat → Nat} {A : Nat → Prop} (C : Cx p s m args c prog_14_method_118_code 4 "PollBooksModel" D cA ad 1 A) {Q : State → Prop} {x : (Int × Dt)} : ∀ (n : Nat) (x1 x2 x3 : Int) (d : Dt), c32 x1 → c32 x2 → c32 x3 → lpF (fun q : Int × Int × Int × Dt => L_Mo_load_y4 q.1 q.2.1 q.2.2.1 q.2.2.2) n (x1, x2, x3, d) = some x → (∀ (y0 : Int) (e' : Dt), x = (y0, e') → c32 y0 → G p l e rm_Mo_load s m args below meth c 0 0 Q 4 D cA ad 1 A 38 [(9, 0), (9, 0), (0, y0), (9, 0)] [] e') → G p l e rm_Mo_load s m args below meth c 0 0 Q 4 D cA ad 1 A 4 [(2, 0), (0, x1), (0, x2), (0, x3)] [] d := by
  intro n
  induction n with
  | zero => intro x1 x2 x3 d g0 g1 g2 h k0; cases h
  | succ n ih =>
    intro x1 x2 x3 d g0 g1 g2 h k0
    rcases lpF_some h with h | ⟨⟨v0_, v1_, v2_, e0_⟩, h1, h⟩
    · exact ok_Mo_load_y4 C x1 x2 x3 d g0 g1 g2 h (fun z0_ z1_ z2_ e1_ eq w0_ w1_ w2_ => by cases eq) (fun z0_ e1_ eq w0_ => k0 _ _ (by cases eq; rfl) w0_)
    · exact ok_Mo_load_y4 C x1 x2 x3 d g0 g1 g2 h1 (fun z0_ z1_ z2_ e1_ eq w0_ w1_ w2_ => by cases eq; exact ih _ _ _ _ w0_ w1_ w2_ h k0) (fun z0_ e1_ eq w0_ => by cases eq)
set_option maxHeartbeats 4000000 in
theorem ok_Mo_load_l4 {p : Program} {l : Launch} {e : Env} {s : State} {m : MethodId} {args : Array Value} {below : List Frame} {meth : Method} {c : Code} {D : va_G} {cA : Nat → ClassId} {ad : Nat → Nat} {A : Nat → Prop} (C : Cx p s m args c prog_14_method_118_code 4 "PollBooksModel" D cA ad 1 A) {Q : State → Prop} {x : (Int × Dt)} (x1 x2 x3 : Int) (d : Dt) (hx1 : c32 x1) (hx2 : c32 x2) (hx3 : c32 x3) (h : L_Mo_load_l4 x1 x2 x3 d = some x) (k0 : ∀ (y0 : Int) (e' : Dt), x = (y0, e') → c32 y0 → G p l e rm_Mo_load s m args below meth c 0 0 Q 4 D cA ad 1 A 38 [(9, 0), (9, 0), (0, y0), (9, 0)] [] e') : G p l e rm_Mo_load s m args below meth c 0 0 Q 4 D cA ad 1 A 4 [(2, 0), (0, x1), (0, x2), (0, x3)] [] d :=
  ok_Mo_load_n4 C FU x1 x2 x3 d hx1 hx2 hx3 h k0
set_option maxHeartbeats 4000000 in
theorem ok_Mo_load {l : Launch} {r : Int} {d' : Dt} (p1 : Int) (d : Dt) (hp1 : c32 p1) (h : L_Mo_load p1 d = some (r, d')) : MC l y_Mo_load prog_14_method_118_code 4 (some .int) rm_Mo_load 1 [(2, 0), (0, p1)] d (some (0, r)) d' := by
  refine MC.of (by decide) (Nat.le_of_ble_eq_true rfl) ?_
  intro p e s m args below meth c D cA ad A C hlk hr
  replace C : Cx p s m args c prog_14_method_118_code 4 "PollBooksModel" D cA ad 1 A := C
  show G p l e rm_Mo_load s m args below meth c 0 0 (MQ below (fun _ => QC D cA ad 1 A (some .int) (some (0, r)) d') args s 0 0 A) 4 D cA ad 1 A 0 [(2, 0), (0, p1)] [] d
  refine g_sub (lo2 := [(2, 0), (0, p1), (9, 0), (9, 0)]) (lsb_v (lsb_v (lsb_n (lsb_n lsb_e)))) ?_
  unfold L_Mo_load at h
  refine g_iconst C 0 (cK rfl) (by decide +kernel) ?_
  refine s_istore_n C 2 (lo' := [(2, 0), (0, p1), (0, 0), (9, 0)]) (by decide) (s1k (s1n (by decide) s1z)) (by decide +kernel) ?_
  refine g_iconst C 0 (cK rfl) (by decide +kernel) ?_
  refine s_istore_n C 3 (lo' := [(2, 0), (0, p1), (0, 0), (0, 0)]) (by decide) (s1k (s1k (s1n (by decide) s1z))) (by decide +kernel) ?_
  refine g_sub (lo2 := [(2, 0), (0, p1), (0, 0), (0, 0)]) (lsb_v (lsb_v (lsb_v (lsb_v lsb_e)))) ?_
  obtain ⟨x8_, hx9_, h⟩ := lb_some h
  refine ok_Mo_load_l4 C p1 0 0 d hp1 (c32_cb (Or.inl rfl)) (c32_cb (Or.inl rfl)) hx9_ (fun v10_ d11_ eq12_ hv10_ => ?_)
  subst eq12_
  replace h := u1_e h
  refine g_iload_n C 2 rfl (by decide +kernel) ?_
  obtain ⟨rfl, rfl⟩ := ret_inj h
  exact g_iret C hv10_ hlk hr (by decide +kernel)
/-! PollBooksModel.coaches(III)I -/
def y_Mo_coaches : MethodName := ⟨"PollBooksModel", "coaches", "(III)I"⟩
def rm_Mo_coaches : Room := { frames := 2, cells := 0, slots := 0, locals := 46 }
theorem mw_Mo_coaches : MW y_Mo_coaches prog_14_method_117_code 12 (some .int) 3 := ⟨lk_2237, lk_14, by decide +kernel⟩
def L_Mo_coaches_y67 (x1 x2 x3 x4 : Int) (d : Dt) : Option ((Int × Int × Int × Int × Dt) ⊕ ((Int × Int × Int × Dt) ⊕ (Dt))) :=
  if x4 < 7 then ck ((0 : Int) ≤ (w32 ((w32 (60 * x2)) + x4)) ∧ (w32 ((w32 (60 * x2)) + x4)) < 240) (if (d 3 ((w32 ((w32 (60 * x2)) + x4))).toNat) < 0 then some (Sum.inr (Sum.inr (d))) else ck ((0 : Int) ≤ (w32 ((w32 (60 * x2)) + x4)) ∧ (w32 ((w32 (60 * x2)) + x4)) < 240) (if 100 < (d 3 ((w32 ((w32 (60 * x2)) + x4))).toNat) then some (Sum.inr (Sum.inr (d))) else some (Sum.inl (x1, x2, x3, (w32 (x4 + 1)), d)))) else some (Sum.inr (Sum.inl (x1, x2, x3, d)))
def L_Mo_coaches_l67 (x1 x2 x3 x4 : Int) (d : Dt) : Option ((Int × Int × Int × Dt) ⊕ (Dt)) := lpF (fun q : Int × Int × Int × Int × Dt => L_Mo_coaches_y67 q.1 q.2.1 q.2.2.1 q.2.2.2.1 q.2.2.2.2) FU (x1, x2, x3, x4, d)
def L_Mo_coaches_b244 (x1 x2 x3 x4 x5 x6 x7 : Int) (d : Dt) : Option ((Int × Int × Int × Int × Int × Int × Int × Dt) ⊕ ((Int × Int × Int × Int × Int × Dt))) :=
  some (Sum.inl (x1, x2, x3, x4, x5, x6, (w32 (x7 + 1)), d))
def L_Mo_coaches_b180 (x1 x2 x3 x4 x5 x6 x7 x8 s0 : Int) (d : Dt) : Option ((Int × Int × Int × Int × Int × Int × Int × Dt) ⊕ ((Int × Int × Int × Int × Int × Dt))) :=
  lt_ (w32 (x5 + s0)) (fun v8_ => ck ((0 : Int) ≤ (w32 ((w32 (7 * x1)) + x7)) ∧ (w32 ((w32 (7 * x1)) + x7)) < 49) (lt_ (w32 (x4 + (w32 ((w32 (s0 * 2)) * (d 75 ((w32 ((w32 (7 * x1)) + x7))).toNat))))) (fun v13_ => ck ((0 : Int) ≤ x7 ∧ x7 < 7) (ck ((0 : Int) ≤ x7 ∧ x7 < 7) (if 0 < ((up2 d 76 x7.toNat (w32 (x8 - (w32 (s0 * x3))))) 76 x7.toNat) then lt_ (ior x6 (ishl 1 x7)) (fun v20_ => L_Mo_coaches_b244 x1 x2 x3 v13_ v8_ v20_ x7 (up2 d 76 x7.toNat (w32 (x8 - (w32 (s0 * x3)))))) else L_Mo_coaches_b244 x1 x2 x3 v13_ v8_ x6 x7 (up2 d 76 x7.toNat (w32 (x8 - (w32 (s0 * x3))))))))))
def L_Mo_coaches_b164 (x1 x2 x3 x4 x5 x6 x7 s0 : Int) (d : Dt) : Option ((Int × Int × Int × Int × Int × Int × Int × Dt) ⊕ ((Int × Int × Int × Int × Int × Dt))) :=
  if x3 < s0 then ck (¬ x3 = 0) (L_Mo_coaches_b180 x1 x2 x3 x4 x5 x6 x7 s0 (idiv s0 x3) d) else L_Mo_coaches_b180 x1 x2 x3 x4 x5 x6 x7 s0 0 d
def L_Mo_coaches_y134 (x1 x2 x3 x4 x5 x6 x7 : Int) (d : Dt) : Option ((Int × Int × Int × Int × Int × Int × Int × Dt) ⊕ ((Int × Int × Int × Int × Int × Dt))) :=
  if x7 < 7 then if x7 = x1 then L_Mo_coaches_b164 x1 x2 x3 x4 x5 x6 x7 0 d else ck ((0 : Int) ≤ (w32 ((w32 (60 * x2)) + x7)) ∧ (w32 ((w32 (60 * x2)) + x7)) < 240) (L_Mo_coaches_b164 x1 x2 x3 x4 x5 x6 x7 (w32 (d 3 ((w32 ((w32 (60 * x2)) + x7))).toNat)) d) else some (Sum.inr (x1, x3, x4, x5, x6, d))
def L_Mo_coaches_l134 (x1 x2 x3 x4 x5 x6 x7 : Int) (d : Dt) : Option ((Int × Int × Int × Int × Int × Dt)) := lpF (fun q : Int × Int × Int × Int × Int × Int × Int × Dt => L_Mo_coaches_y134 q.1 q.2.1 q.2.2.1 q.2.2.2.1 q.2.2.2.2.1 q.2.2.2.2.2.1 q.2.2.2.2.2.2.1 q.2.2.2.2.2.2.2) FU (x1, x2, x3, x4, x5, x6, x7, d)
def L_Mo_coaches_b436 (x3 x4 x5 x6 x7 x8 x9 : Int) (d : Dt) : Option ((Int × Int × Int × Int × Int × Int × Int × Dt) ⊕ ((Int × Int × Int × Int × Int × Dt))) :=
  lt_ (iand (w32 (x9 - 1)) x7) (fun v29_ => some (Sum.inl (x3, x4, x5, x6, x7, x8, v29_, d)))
def L_Mo_coaches_b418 (x3 x4 x5 x6 x7 x8 x9 x10 x11 : Int) (d : Dt) : Option ((Int × Int × Int × Int × Int × Int × Int × Dt) ⊕ ((Int × Int × Int × Int × Int × Dt))) :=
  ck ((0 : Int) ≤ x7 ∧ x7 < 128) (ck ((0 : Int) ≤ x7 ∧ x7 < 128) (L_Mo_coaches_b436 x3 x4 x5 x6 x7 x8 x9 (up2 (up2 d 79 x7.toNat x10) 80 x7.toNat x11)))
def L_Mo_coaches_y315 (x3 x4 x5 x6 x7 x8 x9 : Int) (d : Dt) : Option ((Int × Int × Int × Int × Int × Int × Int × Dt) ⊕ ((Int × Int × Int × Int × Int × Dt))) :=
  if 0 < x9 then if (iand x9 x8) = 0 then L_Mo_coaches_b436 x3 x4 x5 x6 x7 x8 x9 d else bd (L_Mo_load x9 d) (fun r37_ d36_ => if x3 < r37_ then L_Mo_coaches_b436 x3 x4 x5 x6 x7 x8 x9 d36_ else ck ((0 : Int) ≤ x9 ∧ x9 < 128) (ck ((0 : Int) ≤ (iand x7 (ixor x9 (-1))) ∧ (iand x7 (ixor x9 (-1))) < 128) (lt_ (w32 ((d36_ 78 x9.toNat) + (d36_ 79 ((iand x7 (ixor x9 (-1)))).toNat))) (fun v45_ => ck ((0 : Int) ≤ (iand x7 (ixor x9 (-1))) ∧ (iand x7 (ixor x9 (-1))) < 128) (lt_ (w32 (1 + (d36_ 80 ((iand x7 (ixor x9 (-1)))).toNat))) (fun v50_ => ck ((0 : Int) ≤ x7 ∧ x7 < 128) (if (d36_ 79 x7.toNat) < v45_ then L_Mo_coaches_b436 x3 x4 x5 x6 x7 x8 x9 d36_ else ck ((0 : Int) ≤ x7 ∧ x7 < 128) (if v45_ = (d36_ 79 x7.toNat) then ck ((0 : Int) ≤ x7 ∧ x7 < 128) (if v50_ < (d36_ 80 x7.toNat) then L_Mo_coaches_b418 x3 x4 x5 x6 x7 x8 x9 v45_ v50_ d36_ else L_Mo_coaches_b436 x3 x4 x5 x6 x7 x8 x9 d36_) else L_Mo_coaches_b418 x3 x4 x5 x6 x7 x8 x9 v45_ v50_ d36_)))))))) else some (Sum.inr (x3, x4, x5, x6, x7, d))
def L_Mo_coaches_l315 (x3 x4 x5 x6 x7 x8 x9 : Int) (d : Dt) : Option ((Int × Int × Int × Int × Int × Dt)) := lpF (fun q : Int × Int × Int × Int × Int × Int × Int × Dt => L_Mo_coaches_y315 q.1 q.2.1 q.2.2.1 q.2.2.2.1 q.2.2.2.2.1 q.2.2.2.2.2.1 q.2.2.2.2.2.2.1 q.2.2.2.2.2.2.2) FU (x3, x4, x5, x6, x7, x8, x9, d)
def L_Mo_coaches_b448 (x3 x4 x5 x6 x7 : Int) (d : Dt) : Option ((Int × Int × Int × Int × Int × Dt) ⊕ ((Int × Int × Int × Dt))) :=
  some (Sum.inl (x3, x4, x5, x6, (w32 (x7 + 1)), d))
def L_Mo_coaches_y272 (x3 x4 x5 x6 x7 : Int) (d : Dt) : Option ((Int × Int × Int × Int × Int × Dt) ⊕ ((Int × Int × Int × Dt))) :=
  if x7 < 128 then if (iand x7 (ixor x6 (-1))) = 0 then lt_ (iand x7 (w32 (-x7))) (fun v64_ => ck ((0 : Int) ≤ x7 ∧ x7 < 128) (lb (L_Mo_coaches_l315 x3 x4 x5 x6 x7 v64_ x7 (up2 d 79 x7.toNat 100000000)) (fun q77_ => u5 q77_ (fun v70_ v71_ v72_ v73_ v74_ d75_ => L_Mo_coaches_b448 v70_ v71_ v72_ v73_ v74_ d75_)))) else L_Mo_coaches_b448 x3 x4 x5 x6 x7 d else some (Sum.inr (x4, x5, x6, d))
def L_Mo_coaches_l272 (x3 x4 x5 x6 x7 : Int) (d : Dt) : Option ((Int × Int × Int × Dt)) := lpF (fun q : Int × Int × Int × Int × Int × Dt => L_Mo_coaches_y272 q.1 q.2.1 q.2.2.1 q.2.2.2.1 q.2.2.2.2.1 q.2.2.2.2.2) FU (x3, x4, x5, x6, x7, d)
def L_Mo_coaches_b25 (d : Dt) : Option (Int × Dt) :=
  bd (L_Mo_refuse 1 d) (fun r79_ d78_ => some (r79_, d78_))
def L_Mo_coaches_b110 (d : Dt) : Option (Int × Dt) :=
  bd (L_Mo_refuse 1 d) (fun r83_ d82_ => some (r83_, d82_))
def L_Mo_coaches (p1 p2 p3 : Int) (d : Dt) : Option (Int × Dt) :=
  bd (L_Mo_isPlace p1 d) (fun r87_ d86_ => if r87_ = 0 then L_Mo_coaches_b25 d86_ else bd (L_Mo_isTray p2 d86_) (fun r92_ d91_ => if r92_ = 0 then L_Mo_coaches_b25 d91_ else if p3 < 1 then L_Mo_coaches_b25 d91_ else if 20 < p3 then L_Mo_coaches_b25 d91_ else ck ((0 : Int) ≤ p2 ∧ p2 < 4) (if (d91_ 2 p2.toNat) = (-1) then bd (L_Mo_refuse 2 d91_) (fun r102_ d101_ => some (r102_, d101_)) else ck ((0 : Int) ≤ p2 ∧ p2 < 4) (if (d91_ 2 p2.toNat) < 7 then bd (L_Mo_refuse 3 d91_) (fun r109_ d108_ => some (r109_, d108_)) else lb (L_Mo_coaches_l67 p1 p2 p3 0 d91_) (fun q151_ => sm q151_ (fun q152_ => u3 q152_ (fun v114_ v115_ v116_ d117_ => lb (L_Mo_coaches_l134 v114_ v115_ v116_ 0 0 0 0 d117_) (fun q148_ => u5 q148_ (fun v121_ v122_ v123_ v124_ v125_ d126_ => bd (L_Mo_walk v121_ d126_) (fun r129_ d128_ => lb (L_Mo_coaches_l272 v122_ v123_ v124_ v125_ 1 (up2 (up2 d128_ 79 0 0) 80 0 0)) (fun q147_ => u3 q147_ (fun v134_ v135_ v136_ d137_ => ck ((0 : Int) ≤ v136_ ∧ v136_ < 128) (ck ((0 : Int) ≤ v136_ ∧ v136_ < 128) (bd (L_Mo_gives (w32 (v134_ + (d137_ 79 v136_.toNat))) (up2 d137_ 0 108 (w32 (v135_ + (d137_ 80 v136_.toNat))))) (fun r144_ d143_ => some (r144_, d143_))))))))))) (fun q153_ => u0 q153_ (fun d149_ => L_Mo_coaches_b110 d149_)))))))
set_option maxHeartbeats 4000000 in
theorem ok_Mo_coaches_y67 {p : Program} {l : Launch} {e : Env} {s : State} {m : MethodId} {args : Array Value} {below : List Frame} {meth : Method} {c : Code} {D : va_G} {cA : Nat → ClassId} {ad : Nat → Nat} {A : Nat → Prop} (C : Cx p s m args c prog_14_method_117_code 12 "PollBooksModel" D cA ad 1 A) {Q : State → Prop} {o : (Int × Int × Int × Int × Dt) ⊕ ((Int × Int × Int × Dt) ⊕ (Dt))} (x1 x2 x3 x4 : Int) (d : Dt) (hx1 : c32 x1) (hx2 : c32 x2) (hx3 : c32 x3) (hx4 : c32 x4) (h : L_Mo_coaches_y67 x1 x2 x3 x4 d = some o) (kb : ∀ (y0 y1 y2 y3 : Int) (e' : Dt), o = .inl (y0, y1, y2, y3, e') → c32 y0 → c32 y1 → c32 y2 → c32 y3 → G p l e rm_Mo_coaches s m args below meth c 0 0 Q 12 D cA ad 1 A 67 [(2, 0), (0, y0), (0, y1), (0, y2), (0, y3), (9, 0), (9, 0), (9, 0), (9, 0), (9, 0), (9, 0), (9, 0)] [] e') (k0 : ∀ (y0 y1 y2 : Int) (e' : Dt), o = .inr (Sum.inl (y0, y1, y2, e')) → c32 y0 → c32 y1 → c32 y2 → G p l e rm_Mo_coaches s m args below meth c 0 0 Q 12 D cA ad 1 A 122 [(2, 0), (0, y0), (0, y1), (0, y2), (9, 0), (9, 0), (9, 0), (9, 0), (9, 0), (9, 0), (9, 0), (9, 0)] [] e') (k1 : ∀ (e' : Dt), o = .inr (Sum.inr (e')) → G p l e rm_Mo_coaches s m args below meth c 0 0 Q 12 D cA ad 1 A 110 [(2, 0), (9, 0), (9, 0), (9, 0), (9, 0), (9, 0), (9, 0), (9, 0), (9, 0), (9, 0), (9, 0), (9, 0)] [] e') : G p l e rm_Mo_coaches s m args below meth c 0 0 Q 12 D cA ad 1 A 67 [(2, 0), (0, x1), (0, x2), (0, x3), (0, x4), (9, 0), (9, 0), (9, 0), (9, 0), (9, 0), (9, 0), (9, 0)] [] d := by
  unfold L_Mo_coaches_y67 at h
  refine g_iload C 4 rfl (by decide +kernel) ?_
  refine g_bipush C 7 (by decide) (by decide +kernel) ?_
  refine g_icmp_ge C (off := 51) (tgt := 122) hx4 (cK rfl) (by decide +kernel) (by decide) (fun hc1_ => ?_) (fun hc1_ => ?_)
  · replace h := ite_t hc1_ h
    refine g_aload_n C 0 rfl (by decide +kernel) ?_
    refine g_getR C cl12 0 3 3 rfl cd_B0 ⟨by decide, rfl, by decide⟩ rfl rfl (nB (by decide)) (ix := 16) lk_1405 (by decide +kernel) ?_
    refine g_bipush C 60 (by decide) (by decide +kernel) ?_
    refine g_iload_n C 2 rfl (by decide +kernel) ?_
    refine g_imul C (by decide +kernel) ?_
    refine g_iload C 4 rfl (by decide +kernel) ?_
    refine g_iadd C (by decide +kernel) ?_
    obtain ⟨hb2_, h⟩ := ck_some h
    refine g_lald C 3 (w32_c _) rfl cd_B3 (nB (by decide)) hb2_ (by decide +kernel) (fun hc3_ => ?_)
    refine g_lconst C 0 (v := 0) (by decide) (by decide +kernel) ?_
    refine g_lc_lt C (off := 22) (tgt := 110) hc3_ (cL rfl) (by decide +kernel) (by decide +kernel) (by decide) (fun hc4_ => ?_) (fun hc4_ => ?_)
    · replace h := ite_t hc4_ h
      refine g_sub (lo2 := [(2, 0), (9, 0), (9, 0), (9, 0), (9, 0), (9, 0), (9, 0), (9, 0), (9, 0), (9, 0), (9, 0), (9, 0)]) (lsb_v (lsb_c (lsb_c (lsb_c (lsb_c (lsb_c (lsb_c (lsb_c (lsb_c (lsb_c (lsb_c (lsb_c lsb_e)))))))))))) ?_
      obtain rfl := Option.some.inj h
      exact k1 d rfl 
    · replace h := ite_f hc4_ h
      refine g_aload_n C 0 rfl (by decide +kernel) ?_
      refine g_getR C cl12 0 3 3 rfl cd_B0 ⟨by decide, rfl, by decide⟩ rfl rfl (nB (by decide)) (ix := 16) lk_1405 (by decide +kernel) ?_
      refine g_bipush C 60 (by decide) (by decide +kernel) ?_
      refine g_iload_n C 2 rfl (by decide +kernel) ?_
      refine g_imul C (by decide +kernel) ?_
      refine g_iload C 4 rfl (by decide +kernel) ?_
      refine g_iadd C (by decide +kernel) ?_
      obtain ⟨hb5_, h⟩ := ck_some h
      refine g_lald C 3 (w32_c _) rfl cd_B3 (nB (by decide)) hb5_ (by decide +kernel) (fun hc6_ => ?_)
      refine g_ldc2 C (ix := 619) (v := 100) lk_2238 (by decide +kernel) ?_
      refine g_lc_le C (off := 9) (tgt := 116) hc6_ (cL rfl) (by decide +kernel) (by decide +kernel) (by decide) (fun hc7_ => ?_) (fun hc7_ => ?_)
      · replace h := ite_t hc7_ h
        refine g_sub (lo2 := [(2, 0), (9, 0), (9, 0), (9, 0), (9, 0), (9, 0), (9, 0), (9, 0), (9, 0), (9, 0), (9, 0), (9, 0)]) (lsb_v (lsb_c (lsb_c (lsb_c (lsb_c (lsb_c (lsb_c (lsb_c (lsb_c (lsb_c (lsb_c (lsb_c lsb_e)))))))))))) ?_
        obtain rfl := Option.some.inj h
        exact k1 d rfl 
      · replace h := ite_f hc7_ h
        refine s_iinc C 4 1 (lo' := [(2, 0), (0, x1), (0, x2), (0, x3), (0, (w32 (x4 + 1))), (9, 0), (9, 0), (9, 0), (9, 0), (9, 0), (9, 0), (9, 0)]) rfl (by decide) (s1k (s1k (s1k (s1n (by decide) s1z)))) (by decide +kernel) ?_
        refine g_goto C 67 (off := (-52)) (by decide +kernel) (by decide) ?_
        refine g_sub (lo2 := [(2, 0), (0, x1), (0, x2), (0, x3), (0, (w32 (x4 + 1))), (9, 0), (9, 0), (9, 0), (9, 0), (9, 0), (9, 0), (9, 0)]) (lsb_v (lsb_v (lsb_v (lsb_v (lsb_v (lsb_c (lsb_c (lsb_c (lsb_c (lsb_c (lsb_c (lsb_c lsb_e)))))))))))) ?_
        obtain rfl := Option.some.inj h
        exact kb x1 x2 x3 (w32 (x4 + 1)) d rfl hx1 hx2 hx3 (w32_c _)
  · replace h := ite_f hc1_ h
    refine g_sub (lo2 := [(2, 0), (0, x1), (0, x2), (0, x3), (9, 0), (9, 0), (9, 0), (9, 0), (9, 0), (9, 0), (9, 0), (9, 0)]) (lsb_v (lsb_v (lsb_v (lsb_v (lsb_c (lsb_c (lsb_c (lsb_c (lsb_c (lsb_c (lsb_c (lsb_c lsb_e)))))))))))) ?_
    obtain rfl := Option.some.inj h
    exact k0 x1 x2 x3 d rfl hx1 hx2 hx3
set_option maxHeartbeats 4000000 in
theorem ok_Mo_coaches_n67 {p : Program} {l : Launch} {e : Env} {s : State} {m : MethodId} {args : Array Value} {below : List Frame} {meth : Method} {c : Code} {D : va_G} {cA : Nat → ClassId} {ad : Nat → Nat} {A : Nat → Prop} (C : Cx p s m args c prog_14_method_117_code 12 "PollBooksModel" D cA ad 1 A) {Q : State → Prop} {x : (Int × Int × Int × Dt) ⊕ (Dt)} : ∀ (n : Nat) (x1 x2 x3 x4 : Int) (d : Dt), c32 x1 → c32 x2 → c32 x3 → c32 x4 → lpF (fun q : Int × Int × Int × Int × Dt => L_Mo_coaches_y67 q.1 q.2.1 q.2.2.1 q.2.2.2.1 q.2.2.2.2) n (x1, x2, x3, x4, d) = some x → (∀ (y0 y1 y2 : Int) (e' : Dt), x = (Sum.inl (y0, y1, y2, e')) → c32 y0 → c32 y1 → c32 y2 → G p l e rm_Mo_coaches s m args below meth c 0 0 Q 12 D cA ad 1 A 122 [(2, 0), (0, y0), (0, y1), (0, y2), (9, 0), (9, 0), (9, 0), (9, 0), (9, 0), (9, 0), (9, 0), (9, 0)] [] e') → (∀ (e' : Dt), x = (Sum.inr (e')) → G p l e rm_Mo_coaches s m args below meth c 0 0 Q 12 D cA ad 1 A 110 [(2, 0), (9, 0), (9, 0), (9, 0), (9, 0), (9, 0), (9, 0), (9, 0), (9, 0), (9, 0), (9, 0), (9, 0)] [] e') → G p l e rm_Mo_coaches s m args below meth c 0 0 Q 12 D cA ad 1 A 67 [(2, 0), (0, x1), (0, x2), (0, x3), (0, x4), (9, 0), (9, 0), (9, 0), (9, 0), (9, 0), (9, 0), (9, 0)] [] d := by
  intro n
  induction n with
  | zero => intro x1 x2 x3 x4 d g0 g1 g2 g3 h k0 k1; cases h
  | succ n ih =>
    intro x1 x2 x3 x4 d g0 g1 g2 g3 h k0 k1
    rcases lpF_some h with h | ⟨⟨v0_, v1_, v2_, v3_, e0_⟩, h1, h⟩
    · exact ok_Mo_coaches_y67 C x1 x2 x3 x4 d g0 g1 g2 g3 h (fun z0_ z1_ z2_ z3_ e1_ eq w0_ w1_ w2_ w3_ => by cases eq) (fun z0_ z1_ z2_ e1_ eq w0_ w1_ w2_ => k0 _ _ _ _ (by cases eq; rfl) w0_ w1_ w2_) (fun e1_ eq => k1 _ (by cases eq; rfl) )
    · exact ok_Mo_coaches_y67 C x1 x2 x3 x4 d g0 g1 g2 g3 h1 (fun z0_ z1_ z2_ z3_ e1_ eq w0_ w1_ w2_ w3_ => by cases eq; exact ih _ _ _ _ _ w0_ w1_ w2_ w3_ h k0 k1) (fun z0_ z1_ z2_ e1_ eq w0_ w1_ w2_ => by cases eq) (fun e1_ eq => by cases eq)
set_option maxHeartbeats 4000000 in
theorem ok_Mo_coaches_l67 {p : Program} {l : Launch} {e : Env} {s : State} {m : MethodId} {args : Array Value} {below : List Frame} {meth : Method} {c : Code} {D : va_G} {cA : Nat → ClassId} {ad : Nat → Nat} {A : Nat → Prop} (C : Cx p s m args c prog_14_method_117_code 12 "PollBooksModel" D cA ad 1 A) {Q : State → Prop} {x : (Int × Int × Int × Dt) ⊕ (Dt)} (x1 x2 x3 x4 : Int) (d : Dt) (hx1 : c32 x1) (hx2 : c32 x2) (hx3 : c32 x3) (hx4 : c32 x4) (h : L_Mo_coaches_l67 x1 x2 x3 x4 d = some x) (k0 : ∀ (y0 y1 y2 : Int) (e' : Dt), x = (Sum.inl (y0, y1, y2, e')) → c32 y0 → c32 y1 → c32 y2 → G p l e rm_Mo_coaches s m args below meth c 0 0 Q 12 D cA ad 1 A 122 [(2, 0), (0, y0), (0, y1), (0, y2), (9, 0), (9, 0), (9, 0), (9, 0), (9, 0), (9, 0), (9, 0), (9, 0)] [] e') (k1 : ∀ (e' : Dt), x = (Sum.inr (e')) → G p l e rm_Mo_coaches s m args below meth c 0 0 Q 12 D cA ad 1 A 110 [(2, 0), (9, 0), (9, 0), (9, 0), (9, 0), (9, 0), (9, 0), (9, 0), (9, 0), (9, 0), (9, 0), (9, 0)] [] e') : G p l e rm_Mo_coaches s m args below meth c 0 0 Q 12 D cA ad 1 A 67 [(2, 0), (0, x1), (0, x2), (0, x3), (0, x4), (9, 0), (9, 0), (9, 0), (9, 0), (9, 0), (9, 0), (9, 0)] [] d :=
  ok_Mo_coaches_n67 C FU x1 x2 x3 x4 d hx1 hx2 hx3 hx4 h k0 k1
set_option maxHeartbeats 4000000 in
theorem ok_Mo_coaches_b244 {p : Program} {l : Launch} {e : Env} {s : State} {m : MethodId} {args : Array Value} {below : List Frame} {meth : Method} {c : Code} {D : va_G} {cA : Nat → ClassId} {ad : Nat → Nat} {A : Nat → Prop} (C : Cx p s m args c prog_14_method_117_code 12 "PollBooksModel" D cA ad 1 A) {Q : State → Prop} {o : (Int × Int × Int × Int × Int × Int × Int × Dt) ⊕ ((Int × Int × Int × Int × Int × Dt))} (x1 x2 x3 x4 x5 x6 x7 : Int) (d : Dt) (hx1 : c32 x1) (hx2 : c32 x2) (hx3 : c32 x3) (hx4 : c32 x4) (hx5 : c32 x5) (hx6 : c32 x6) (hx7 : c32 x7) (h : L_Mo_coaches_b244 x1 x2 x3 x4 x5 x6 x7 d = some o) (kb : ∀ (y0 y1 y2 y3 y4 y5 y6 : Int) (e' : Dt), o = .inl (y0, y1, y2, y3, y4, y5, y6, e') → c32 y0 → c32 y1 → c32 y2 → c32 y3 → c32 y4 → c32 y5 → c32 y6 → G p l e rm_Mo_coaches s m args below meth c 0 0 Q 12 D cA ad 1 A 134 [(2, 0), (0, y0), (0, y1), (0, y2), (0, y3), (0, y4), (0, y5), (0, y6), (9, 0), (9, 0), (9, 0), (9, 0)] [] e') (k0 : ∀ (y0 y1 y2 y3 y4 : Int) (e' : Dt), o = .inr (y0, y1, y2, y3, y4, e') → c32 y0 → c32 y1 → c32 y2 → c32 y3 → c32 y4 → G p l e rm_Mo_coaches s m args below meth c 0 0 Q 12 D cA ad 1 A 250 [(2, 0), (0, y0), (9, 0), (0, y1), (0, y2), (0, y3), (0, y4), (9, 0), (9, 0), (9, 0), (9, 0), (9, 0)] [] e') : G p l e rm_Mo_coaches s m args below meth c 0 0 Q 12 D cA ad 1 A 244 [(2, 0), (0, x1), (0, x2), (0, x3), (0, x4), (0, x5), (0, x6), (0, x7), (9, 0), (9, 0), (9, 0), (9, 0)] [] d := by
  unfold L_Mo_coaches_b244 at h
  refine s_iinc C 7 1 (lo' := [(2, 0), (0, x1), (0, x2), (0, x3), (0, x4), (0, x5), (0, x6), (0, (w32 (x7 + 1))), (9, 0), (9, 0), (9, 0), (9, 0)]) rfl (by decide) (s1k (s1k (s1k (s1k (s1k (s1k (s1n (by decide) s1z))))))) (by decide +kernel) ?_
  refine g_goto C 134 (off := (-113)) (by decide +kernel) (by decide) ?_
  refine g_sub (lo2 := [(2, 0), (0, x1), (0, x2), (0, x3), (0, x4), (0, x5), (0, x6), (0, (w32 (x7 + 1))), (9, 0), (9, 0), (9, 0), (9, 0)]) (lsb_v (lsb_v (lsb_v (lsb_v (lsb_v (lsb_v (lsb_v (lsb_v (lsb_c (lsb_c (lsb_c (lsb_c lsb_e)))))))))))) ?_
  obtain rfl := Option.some.inj h
  exact kb x1 x2 x3 x4 x5 x6 (w32 (x7 + 1)) d rfl hx1 hx2 hx3 hx4 hx5 hx6 (w32_c _)
set_option maxHeartbeats 4000000 in
theorem ok_Mo_coaches_b180 {p : Program} {l : Launch} {e : Env} {s : State} {m : MethodId} {args : Array Value} {below : List Frame} {meth : Method} {c : Code} {D : va_G} {cA : Nat → ClassId} {ad : Nat → Nat} {A : Nat → Prop} (C : Cx p s m args c prog_14_method_117_code 12 "PollBooksModel" D cA ad 1 A) {Q : State → Prop} {o : (Int × Int × Int × Int × Int × Int × Int × Dt) ⊕ ((Int × Int × Int × Int × Int × Dt))} (x1 x2 x3 x4 x5 x6 x7 x8 s0 : Int) (d : Dt) (hx1 : c32 x1) (hx2 : c32 x2) (hx3 : c32 x3) (hx4 : c32 x4) (hx5 : c32 x5) (hx6 : c32 x6) (hx7 : c32 x7) (hx8 : c32 x8) (hs0 : c32 s0) (h : L_Mo_coaches_b180 x1 x2 x3 x4 x5 x6 x7 x8 s0 d = some o) (kb : ∀ (y0 y1 y2 y3 y4 y5 y6 : Int) (e' : Dt), o = .inl (y0, y1, y2, y3, y4, y5, y6, e') → c32 y0 → c32 y1 → c32 y2 → c32 y3 → c32 y4 → c32 y5 → c32 y6 → G p l e rm_Mo_coaches s m args below meth c 0 0 Q 12 D cA ad 1 A 134 [(2, 0), (0, y0), (0, y1), (0, y2), (0, y3), (0, y4), (0, y5), (0, y6), (9, 0), (9, 0), (9, 0), (9, 0)] [] e') (k0 : ∀ (y0 y1 y2 y3 y4 : Int) (e' : Dt), o = .inr (y0, y1, y2, y3, y4, e') → c32 y0 → c32 y1 → c32 y2 → c32 y3 → c32 y4 → G p l e rm_Mo_coaches s m args below meth c 0 0 Q 12 D cA ad 1 A 250 [(2, 0), (0, y0), (9, 0), (0, y1), (0, y2), (0, y3), (0, y4), (9, 0), (9, 0), (9, 0), (9, 0), (9, 0)] [] e') : G p l e rm_Mo_coaches s m args below meth c 0 0 Q 12 D cA ad 1 A 180 [(2, 0), (0, x1), (0, x2), (0, x3), (0, x4), (0, x5), (0, x6), (0, x7), (0, x8), (9, 0), (9, 0), (9, 0)] [(0, s0)] d := by
  unfold L_Mo_coaches_b180 at h
  refine s_istore C 9 (lo' := [(2, 0), (0, x1), (0, x2), (0, x3), (0, x4), (0, x5), (0, x6), (0, x7), (0, x8), (0, s0), (9, 0), (9, 0)]) (by decide) (s1k (s1k (s1k (s1k (s1k (s1k (s1k (s1k (s1n (by decide) s1z))))))))) (by decide +kernel) ?_
  refine g_iload C 5 rfl (by decide +kernel) ?_
  refine g_iload C 9 rfl (by decide +kernel) ?_
  refine g_iadd C (by decide +kernel) ?_
  obtain ⟨v8_, ev9_, h⟩ := lt_some h
  refine g_val ev9_.symm ?_
  have hv10_ : c32 v8_ := by rw [ev9_]; exact (w32_c _)
  refine s_istore C 5 (lo' := [(2, 0), (0, x1), (0, x2), (0, x3), (0, x4), (0, v8_), (0, x6), (0, x7), (0, x8), (0, s0), (9, 0), (9, 0)]) (by decide) (s1k (s1k (s1k (s1k (s1n (by decide) s1z))))) (by decide +kernel) ?_
  refine g_iload C 4 rfl (by decide +kernel) ?_
  refine g_iload C 9 rfl (by decide +kernel) ?_
  refine g_iconst C 2 (cK rfl) (by decide +kernel) ?_
  refine g_imul C (by decide +kernel) ?_
  refine g_aload_n C 0 rfl (by decide +kernel) ?_
  refine g_getR C cl12 0 102 75 rfl cd_B0 ⟨by decide, rfl, by decide⟩ rfl rfl (nB (by decide)) (ix := 248) lk_1504 (by decide +kernel) ?_
  refine g_bipush C 7 (by decide) (by decide +kernel) ?_
  refine g_iload_n C 1 rfl (by decide +kernel) ?_
  refine g_imul C (by decide +kernel) ?_
  refine g_iload C 7 rfl (by decide +kernel) ?_
  refine g_iadd C (by decide +kernel) ?_
  obtain ⟨hb11_, h⟩ := ck_some h
  refine g_iald C 75 (w32_c _) rfl cd_B75 (nB (by decide)) hb11_ (by decide +kernel) (fun hc12_ => ?_)
  refine g_imul C (by decide +kernel) ?_
  refine g_iadd C (by decide +kernel) ?_
  obtain ⟨v13_, ev14_, h⟩ := lt_some h
  refine g_val ev14_.symm ?_
  have hv15_ : c32 v13_ := by rw [ev14_]; exact (w32_c _)
  refine s_istore C 4 (lo' := [(2, 0), (0, x1), (0, x2), (0, x3), (0, v13_), (0, v8_), (0, x6), (0, x7), (0, x8), (0, s0), (9, 0), (9, 0)]) (by decide) (s1k (s1k (s1k (s1n (by decide) s1z)))) (by decide +kernel) ?_
  refine g_aload_n C 0 rfl (by decide +kernel) ?_
  refine g_getR C cl12 0 103 76 rfl cd_B0 ⟨by decide, rfl, by decide⟩ rfl rfl (nB (by decide)) (ix := 251) lk_1505 (by decide +kernel) ?_
  refine g_iload C 7 rfl (by decide +kernel) ?_
  refine g_iload C 8 rfl (by decide +kernel) ?_
  refine g_iload C 9 rfl (by decide +kernel) ?_
  refine g_iload_n C 3 rfl (by decide +kernel) ?_
  refine g_imul C (by decide +kernel) ?_
  refine g_isub C (by decide +kernel) ?_
  obtain ⟨hb16_, h⟩ := ck_some h
  refine g_iast C 76 (w32_c _) hx7 rfl cd_B76 (nB (by decide)) hb16_ (by decide +kernel) ?_
  refine g_aload_n C 0 rfl (by decide +kernel) ?_
  refine g_getR C cl12 0 103 76 rfl cd_B0 ⟨by decide, rfl, by decide⟩ rfl rfl (nB (by decide)) (ix := 251) lk_1505 (by decide +kernel) ?_
  refine g_iload C 7 rfl (by decide +kernel) ?_
  obtain ⟨hb17_, h⟩ := ck_some h
  refine g_iald C 76 hx7 rfl cd_B76 (nB (by decide)) hb17_ (by decide +kernel) (fun hc18_ => ?_)
  refine g_if_le C (off := 12) (tgt := 244) hc18_ (by decide +kernel) (by decide) (fun hc19_ => ?_) (fun hc19_ => ?_)
  · replace h := ite_t hc19_ h
    refine g_iload C 6 rfl (by decide +kernel) ?_
    refine g_iconst C 1 (cK rfl) (by decide +kernel) ?_
    refine g_iload C 7 rfl (by decide +kernel) ?_
    refine g_ishl C (by decide +kernel) ?_
    refine g_ior C (by decide +kernel) ?_
    obtain ⟨v20_, ev21_, h⟩ := lt_some h
    refine g_val ev21_.symm ?_
    have hv22_ : c32 v20_ := by rw [ev21_]; exact (i_c _)
    refine s_istore C 6 (lo' := [(2, 0), (0, x1), (0, x2), (0, x3), (0, v13_), (0, v8_), (0, v20_), (0, x7), (0, x8), (0, s0), (9, 0), (9, 0)]) (by decide) (s1k (s1k (s1k (s1k (s1k (s1n (by decide) s1z)))))) (by decide +kernel) ?_
    refine g_sub (lo2 := [(2, 0), (0, x1), (0, x2), (0, x3), (0, v13_), (0, v8_), (0, v20_), (0, x7), (9, 0), (9, 0), (9, 0), (9, 0)]) (lsb_v (lsb_v (lsb_v (lsb_v (lsb_v (lsb_v (lsb_v (lsb_v (lsb_c (lsb_c (lsb_c (lsb_c lsb_e)))))))))))) ?_
    exact ok_Mo_coaches_b244 C x1 x2 x3 v13_ v8_ v20_ x7 (up2 d 76 x7.toNat (w32 (x8 - (w32 (s0 * x3))))) hx1 hx2 hx3 hv15_ hv10_ hv22_ hx7 h kb k0
  · replace h := ite_f hc19_ h
    refine g_sub (lo2 := [(2, 0), (0, x1), (0, x2), (0, x3), (0, v13_), (0, v8_), (0, x6), (0, x7), (9, 0), (9, 0), (9, 0), (9, 0)]) (lsb_v (lsb_v (lsb_v (lsb_v (lsb_v (lsb_v (lsb_v (lsb_v (lsb_c (lsb_c (lsb_c (lsb_c lsb_e)))))))))))) ?_
    exact ok_Mo_coaches_b244 C x1 x2 x3 v13_ v8_ x6 x7 (up2 d 76 x7.toNat (w32 (x8 - (w32 (s0 * x3))))) hx1 hx2 hx3 hv15_ hv10_ hx6 hx7 h kb k0
set_option maxHeartbeats 4000000 in
theorem ok_Mo_coaches_b164 {p : Program} {l : Launch} {e : Env} {s : State} {m : MethodId} {args : Array Value} {below : List Frame} {meth : Method} {c : Code} {D : va_G} {cA : Nat → ClassId} {ad : Nat → Nat} {A : Nat → Prop} (C : Cx p s m args c prog_14_method_117_code 12 "PollBooksModel" D cA ad 1 A) {Q : State → Prop} {o : (Int × Int × Int × Int × Int × Int × Int × Dt) ⊕ ((Int × Int × Int × Int × Int × Dt))} (x1 x2 x3 x4 x5 x6 x7 s0 : Int) (d : Dt) (hx1 : c32 x1) (hx2 : c32 x2) (hx3 : c32 x3) (hx4 : c32 x4) (hx5 : c32 x5) (hx6 : c32 x6) (hx7 : c32 x7) (hs0 : c32 s0) (h : L_Mo_coaches_b164 x1 x2 x3 x4 x5 x6 x7 s0 d = some o) (kb : ∀ (y0 y1 y2 y3 y4 y5 y6 : Int) (e' : Dt), o = .inl (y0, y1, y2, y3, y4, y5, y6, e') → c32 y0 → c32 y1 → c32 y2 → c32 y3 → c32 y4 → c32 y5 → c32 y6 → G p l e rm_Mo_coaches s m args below meth c 0 0 Q 12 D cA ad 1 A 134 [(2, 0), (0, y0), (0, y1), (0, y2), (0, y3), (0, y4), (0, y5), (0, y6), (9, 0), (9, 0), (9, 0), (9, 0)] [] e') (k0 : ∀ (y0 y1 y2 y3 y4 : Int) (e' : Dt), o = .inr (y0, y1, y2, y3, y4, e') → c32 y0 → c32 y1 → c32 y2 → c32 y3 → c32 y4 → G p l e rm_Mo_coaches s m args below meth c 0 0 Q 12 D cA ad 1 A 250 [(2, 0), (0, y0), (9, 0), (0, y1), (0, y2), (0, y3), (0, y4), (9, 0), (9, 0), (9, 0), (9, 0), (9, 0)] [] e') : G p l e rm_Mo_coaches s m args below meth c 0 0 Q 12 D cA ad 1 A 164 [(2, 0), (0, x1), (0, x2), (0, x3), (0, x4), (0, x5), (0, x6), (0, x7), (9, 0), (9, 0), (9, 0), (9, 0)] [(0, s0)] d := by
  unfold L_Mo_coaches_b164 at h
  refine s_istore C 8 (lo' := [(2, 0), (0, x1), (0, x2), (0, x3), (0, x4), (0, x5), (0, x6), (0, x7), (0, s0), (9, 0), (9, 0), (9, 0)]) (by decide) (s1k (s1k (s1k (s1k (s1k (s1k (s1k (s1n (by decide) s1z)))))))) (by decide +kernel) ?_
  refine g_iload C 8 rfl (by decide +kernel) ?_
  refine g_iload_n C 3 rfl (by decide +kernel) ?_
  refine g_icmp_le C (off := 10) (tgt := 179) hs0 hx3 (by decide +kernel) (by decide) (fun hc23_ => ?_) (fun hc23_ => ?_)
  · replace h := ite_t hc23_ h
    refine g_iload C 8 rfl (by decide +kernel) ?_
    refine g_iload_n C 3 rfl (by decide +kernel) ?_
    obtain ⟨hc24_, h⟩ := ck_some h
    refine g_idiv C hx3 hc24_ (by decide +kernel) ?_
    refine g_goto C 180 (off := 4) (by decide +kernel) (by decide) ?_
    refine g_sub (lo2 := [(2, 0), (0, x1), (0, x2), (0, x3), (0, x4), (0, x5), (0, x6), (0, x7), (0, s0), (9, 0), (9, 0), (9, 0)]) (lsb_v (lsb_v (lsb_v (lsb_v (lsb_v (lsb_v (lsb_v (lsb_v (lsb_v (lsb_c (lsb_c (lsb_c lsb_e)))))))))))) ?_
    exact ok_Mo_coaches_b180 C x1 x2 x3 x4 x5 x6 x7 s0 (idiv s0 x3) d hx1 hx2 hx3 hx4 hx5 hx6 hx7 hs0 (i_c _) h kb k0
  · replace h := ite_f hc23_ h
    refine g_iconst C 0 (cK rfl) (by decide +kernel) ?_
    refine g_sub (lo2 := [(2, 0), (0, x1), (0, x2), (0, x3), (0, x4), (0, x5), (0, x6), (0, x7), (0, s0), (9, 0), (9, 0), (9, 0)]) (lsb_v (lsb_v (lsb_v (lsb_v (lsb_v (lsb_v (lsb_v (lsb_v (lsb_v (lsb_c (lsb_c (lsb_c lsb_e)))))))))))) ?_
    exact ok_Mo_coaches_b180 C x1 x2 x3 x4 x5 x6 x7 s0 0 d hx1 hx2 hx3 hx4 hx5 hx6 hx7 hs0 (c32_cb (Or.inl rfl)) h kb k0
set_option maxHeartbeats 4000000 in
theorem ok_Mo_coaches_y134 {p : Program} {l : Launch} {e : Env} {s : State} {m : MethodId} {args : Array Value} {below : List Frame} {meth : Method} {c : Code} {D : va_G} {cA : Nat → ClassId} {ad : Nat → Nat} {A : Nat → Prop} (C : Cx p s m args c prog_14_method_117_code 12 "PollBooksModel" D cA ad 1 A) {Q : State → Prop} {o : (Int × Int × Int × Int × Int × Int × Int × Dt) ⊕ ((Int × Int × Int × Int × Int × Dt))} (x1 x2 x3 x4 x5 x6 x7 : Int) (d : Dt) (hx1 : c32 x1) (hx2 : c32 x2) (hx3 : c32 x3) (hx4 : c32 x4) (hx5 : c32 x5) (hx6 : c32 x6) (hx7 : c32 x7) (h : L_Mo_coaches_y134 x1 x2 x3 x4 x5 x6 x7 d = some o) (kb : ∀ (y0 y1 y2 y3 y4 y5 y6 : Int) (e' : Dt), o = .inl (y0, y1, y2, y3, y4, y5, y6, e') → c32 y0 → c32 y1 → c32 y2 → c32 y3 → c32 y4 → c32 y5 → c32 y6 → G p l e rm_Mo_coaches s m args below meth c 0 0 Q 12 D cA ad 1 A 134 [(2, 0), (0, y0), (0, y1), (0, y2), (0, y3), (0, y4), (0, y5), (0, y6), (9, 0), (9, 0), (9, 0), (9, 0)] [] e') (k0 : ∀ (y0 y1 y2 y3 y4 : Int) (e' : Dt), o = .inr (y0, y1, y2, y3, y4, e') → c32 y0 → c32 y1 → c32 y2 → c32 y3 → c32 y4 → G p l e rm_Mo_coaches s m args below meth c 0 0 Q 12 D cA ad 1 A 250 [(2, 0), (0, y0), (9, 0), (0, y1), (0, y2), (0, y3), (0, y4), (9, 0), (9, 0), (9, 0), (9, 0), (9, 0)] [] e') : G p l e rm_Mo_coaches s m args below meth c 0 0 Q 12 D cA ad 1 A 134 [(2, 0), (0, x1), (0, x2), (0, x3), (0, x4), (0, x5), (0, x6), (0, x7), (9, 0), (9, 0), (9, 0), (9, 0)] [] d := by
  unfold L_Mo_coaches_y134 at h
  refine g_iload C 7 rfl (by decide +kernel) ?_
  refine g_bipush C 7 (by decide) (by decide +kernel) ?_
  refine g_icmp_ge C (off := 112) (tgt := 250) hx7 (cK rfl) (by decide +kernel) (by decide) (fun hc25_ => ?_) (fun hc25_ => ?_)
  · replace h := ite_t hc25_ h
    refine g_iload C 7 rfl (by decide +kernel) ?_
    refine g_iload_n C 1 rfl (by decide +kernel) ?_
    refine g_icmp_ne C (off := 7) (tgt := 151) hx7 hx1 (by decide +kernel) (by decide) (fun hc26_ => ?_) (fun hc26_ => ?_)
    · replace h := ite_t hc26_ h
      refine g_iconst C 0 (cK rfl) (by decide +kernel) ?_
      refine g_goto C 164 (off := 16) (by decide +kernel) (by decide) ?_
      refine g_sub (lo2 := [(2, 0), (0, x1), (0, x2), (0, x3), (0, x4), (0, x5), (0, x6), (0, x7), (9, 0), (9, 0), (9, 0), (9, 0)]) (lsb_v (lsb_v (lsb_v (lsb_v (lsb_v (lsb_v (lsb_v (lsb_v (lsb_c (lsb_c (lsb_c (lsb_c lsb_e)))))))))))) ?_
      exact ok_Mo_coaches_b164 C x1 x2 x3 x4 x5 x6 x7 0 d hx1 hx2 hx3 hx4 hx5 hx6 hx7 (c32_cb (Or.inl rfl)) h kb k0
    · replace h := ite_f hc26_ h
      refine g_aload_n C 0 rfl (by decide +kernel) ?_
      refine g_getR C cl12 0 3 3 rfl cd_B0 ⟨by decide, rfl, by decide⟩ rfl rfl (nB (by decide)) (ix := 16) lk_1405 (by decide +kernel) ?_
      refine g_bipush C 60 (by decide) (by decide +kernel) ?_
      refine g_iload_n C 2 rfl (by decide +kernel) ?_
      refine g_imul C (by decide +kernel) ?_
      refine g_iload C 7 rfl (by decide +kernel) ?_
      refine g_iadd C (by decide +kernel) ?_
      obtain ⟨hb27_, h⟩ := ck_some h
      refine g_lald C 3 (w32_c _) rfl cd_B3 (nB (by decide)) hb27_ (by decide +kernel) (fun hc28_ => ?_)
      refine g_l2i C (by decide +kernel) ?_
      refine g_sub (lo2 := [(2, 0), (0, x1), (0, x2), (0, x3), (0, x4), (0, x5), (0, x6), (0, x7), (9, 0), (9, 0), (9, 0), (9, 0)]) (lsb_v (lsb_v (lsb_v (lsb_v (lsb_v (lsb_v (lsb_v (lsb_v (lsb_c (lsb_c (lsb_c (lsb_c lsb_e)))))))))))) ?_
      exact ok_Mo_coaches_b164 C x1 x2 x3 x4 x5 x6 x7 (w32 (d 3 ((w32 ((w32 (60 * x2)) + x7))).toNat)) d hx1 hx2 hx3 hx4 hx5 hx6 hx7 (w32_c _) h kb k0
  · replace h := ite_f hc25_ h
    refine g_sub (lo2 := [(2, 0), (0, x1), (9, 0), (0, x3), (0, x4), (0, x5), (0, x6), (9, 0), (9, 0), (9, 0), (9, 0), (9, 0)]) (lsb_v (lsb_v (lsb_c (lsb_v (lsb_v (lsb_v (lsb_v (lsb_c (lsb_c (lsb_c (lsb_c (lsb_c lsb_e)))))))))))) ?_
    obtain rfl := Option.some.inj h
    exact k0 x1 x3 x4 x5 x6 d rfl hx1 hx3 hx4 hx5 hx6
set_option maxHeartbeats 4000000 in
theorem ok_Mo_coaches_n134 {p : Program} {l : Launch} {e : Env} {s : State} {m : MethodId} {args : Array Value} {below : List Frame} {meth : Method} {c : Code} {D : va_G} {cA : Nat → ClassId} {ad : Nat → Nat} {A : Nat → Prop} (C : Cx p s m args c prog_14_method_117_code 12 "PollBooksModel" D cA ad 1 A) {Q : State → Prop} {x : (Int × Int × Int × Int × Int × Dt)} : ∀ (n : Nat) (x1 x2 x3 x4 x5 x6 x7 : Int) (d : Dt), c32 x1 → c32 x2 → c32 x3 → c32 x4 → c32 x5 → c32 x6 → c32 x7 → lpF (fun q : Int × Int × Int × Int × Int × Int × Int × Dt => L_Mo_coaches_y134 q.1 q.2.1 q.2.2.1 q.2.2.2.1 q.2.2.2.2.1 q.2.2.2.2.2.1 q.2.2.2.2.2.2.1 q.2.2.2.2.2.2.2) n (x1, x2, x3, x4, x5, x6, x7, d) = some x → (∀ (y0 y1 y2 y3 y4 : Int) (e' : Dt), x = (y0, y1, y2, y3, y4, e') → c32 y0 → c32 y1 → c32 y2 → c32 y3 → c32 y4 → G p l e rm_Mo_coaches s m args below meth c 0 0 Q 12 D cA ad 1 A 250 [(2, 0), (0, y0), (9, 0), (0, y1), (0, y2), (0, y3), (0, y4), (9, 0), (9, 0), (9, 0), (9, 0), (9, 0)] [] e') → G p l e rm_Mo_coaches s m args below meth c 0 0 Q 12 D cA ad 1 A 134 [(2, 0), (0, x1), (0, x2), (0, x3), (0, x4), (0, x5), (0, x6), (0, x7), (9, 0), (9, 0), (9, 0), (9, 0)] [] d := by
  intro n
  induction n with
  | zero => intro x1 x2 x3 x4 x5 x6 x7 d g0 g1 g2 g3 g4 g5 g6 h k0; cases h
  | succ n ih =>
    intro x1 x2 x3 x4 x5 x6 x7 d g0 g1 g2 g3 g4 g5 g6 h k0
    rcases lpF_some h with h | ⟨⟨v0_, v1_, v2_, v3_, v4_, v5_, v6_, e0_⟩, h1, h⟩
    · exact ok_Mo_coaches_y134 C x1 x2 x3 x4 x5 x6 x7 d g0 g1 g2 g3 g4 g5 g6 h (fun z0_ z1_ z2_ z3_ z4_ z5_ z6_ e1_ eq w0_ w1_ w2_ w3_ w4_ w5_ w6_ => by cases eq) (fun z0_ z1_ z2_ z3_ z4_ e1_ eq w0_ w1_ w2_ w3_ w4_ => k0 _ _ _ _ _ _ (by cases eq; rfl) w0_ w1_ w2_ w3_ w4_)
    · exact ok_Mo_coaches_y134 C x1 x2 x3 x4 x5 x6 x7 d g0 g1 g2 g3 g4 g5 g6 h1 (fun z0_ z1_ z2_ z3_ z4_ z5_ z6_ e1_ eq w0_ w1_ w2_ w3_ w4_ w5_ w6_ => by cases eq; exact ih _ _ _ _ _ _ _ _ w0_ w1_ w2_ w3_ w4_ w5_ w6_ h k0) (fun z0_ z1_ z2_ z3_ z4_ e1_ eq w0_ w1_ w2_ w3_ w4_ => by cases eq)
set_option maxHeartbeats 4000000 in
theorem ok_Mo_coaches_l134 {p : Program} {l : Launch} {e : Env} {s : State} {m : MethodId} {args : Array Value} {below : List Frame} {meth : Method} {c : Code} {D : va_G} {cA : Nat → ClassId} {ad : Nat → Nat} {A : Nat → Prop} (C : Cx p s m args c prog_14_method_117_code 12 "PollBooksModel" D cA ad 1 A) {Q : State → Prop} {x : (Int × Int × Int × Int × Int × Dt)} (x1 x2 x3 x4 x5 x6 x7 : Int) (d : Dt) (hx1 : c32 x1) (hx2 : c32 x2) (hx3 : c32 x3) (hx4 : c32 x4) (hx5 : c32 x5) (hx6 : c32 x6) (hx7 : c32 x7) (h : L_Mo_coaches_l134 x1 x2 x3 x4 x5 x6 x7 d = some x) (k0 : ∀ (y0 y1 y2 y3 y4 : Int) (e' : Dt), x = (y0, y1, y2, y3, y4, e') → c32 y0 → c32 y1 → c32 y2 → c32 y3 → c32 y4 → G p l e rm_Mo_coaches s m args below meth c 0 0 Q 12 D cA ad 1 A 250 [(2, 0), (0, y0), (9, 0), (0, y1), (0, y2), (0, y3), (0, y4), (9, 0), (9, 0), (9, 0), (9, 0), (9, 0)] [] e') : G p l e rm_Mo_coaches s m args below meth c 0 0 Q 12 D cA ad 1 A 134 [(2, 0), (0, x1), (0, x2), (0, x3), (0, x4), (0, x5), (0, x6), (0, x7), (9, 0), (9, 0), (9, 0), (9, 0)] [] d :=
  ok_Mo_coaches_n134 C FU x1 x2 x3 x4 x5 x6 x7 d hx1 hx2 hx3 hx4 hx5 hx6 hx7 h k0
set_option maxHeartbeats 4000000 in
theorem ok_Mo_coaches_b436 {p : Program} {l : Launch} {e : Env} {s : State} {m : MethodId} {args : Array Value} {below : List Frame} {meth : Method} {c : Code} {D : va_G} {cA : Nat → ClassId} {ad : Nat → Nat} {A : Nat → Prop} (C : Cx p s m args c prog_14_method_117_code 12 "PollBooksModel" D cA ad 1 A) {Q : State → Prop} {o : (Int × Int × Int × Int × Int × Int × Int × Dt) ⊕ ((Int × Int × Int × Int × Int × Dt))} (x3 x4 x5 x6 x7 x8 x9 : Int) (d : Dt) (hx3 : c32 x3) (hx4 : c32 x4) (hx5 : c32 x5) (hx6 : c32 x6) (hx7 : c32 x7) (hx8 : c32 x8) (hx9 : c32 x9) (h : L_Mo_coaches_b436 x3 x4 x5 x6 x7 x8 x9 d = some o) (kb : ∀ (y0 y1 y2 y3 y4 y5 y6 : Int) (e' : Dt), o = .inl (y0, y1, y2, y3, y4, y5, y6, e') → c32 y0 → c32 y1 → c32 y2 → c32 y3 → c32 y4 → c32 y5 → c32 y6 → G p l e rm_Mo_coaches s m args below meth c 0 0 Q 12 D cA ad 1 A 315 [(2, 0), (9, 0), (9, 0), (0, y0), (0, y1), (0, y2), (0, y3), (0, y4), (0, y5), (0, y6), (9, 0), (9, 0)] [] e') (k0 : ∀ (y0 y1 y2 y3 y4 : Int) (e' : Dt), o = .inr (y0, y1, y2, y3, y4, e') → c32 y0 → c32 y1 → c32 y2 → c32 y3 → c32 y4 → G p l e rm_Mo_coaches s m args below meth c 0 0 Q 12 D cA ad 1 A 448 [(2, 0), (9, 0), (9, 0), (0, y0), (0, y1), (0, y2), (0, y3), (0, y4), (9, 0), (9, 0), (9, 0), (9, 0)] [] e') : G p l e rm_Mo_coaches s m args below meth c 0 0 Q 12 D cA ad 1 A 436 [(2, 0), (9, 0), (9, 0), (0, x3), (0, x4), (0, x5), (0, x6), (0, x7), (0, x8), (0, x9), (9, 0), (9, 0)] [] d := by
  unfold L_Mo_coaches_b436 at h
  refine g_iload C 9 rfl (by decide +kernel) ?_
  refine g_iconst C 1 (cK rfl) (by decide +kernel) ?_
  refine g_isub C (by decide +kernel) ?_
  refine g_iload C 7 rfl (by decide +kernel) ?_
  refine g_iand C (by decide +kernel) ?_
  obtain ⟨v29_, ev30_, h⟩ := lt_some h
  refine g_val ev30_.symm ?_
  have hv31_ : c32 v29_ := by rw [ev30_]; exact (i_c _)
  refine s_istore C 9 (lo' := [(2, 0), (9, 0), (9, 0), (0, x3), (0, x4), (0, x5), (0, x6), (0, x7), (0, x8), (0, v29_), (9, 0), (9, 0)]) (by decide) (s1k (s1k (s1k (s1k (s1k (s1k (s1k (s1k (s1n (by decide) s1z))))))))) (by decide +kernel) ?_
  refine g_goto C 315 (off := (-130)) (by decide +kernel) (by decide) ?_
  refine g_sub (lo2 := [(2, 0), (9, 0), (9, 0), (0, x3), (0, x4), (0, x5), (0, x6), (0, x7), (0, x8), (0, v29_), (9, 0), (9, 0)]) (lsb_v (lsb_c (lsb_c (lsb_v (lsb_v (lsb_v (lsb_v (lsb_v (lsb_v (lsb_v (lsb_c (lsb_c lsb_e)))))))))))) ?_
  obtain rfl := Option.some.inj h
  exact kb x3 x4 x5 x6 x7 x8 v29_ d rfl hx3 hx4 hx5 hx6 hx7 hx8 hv31_
set_option maxHeartbeats 4000000 in
theorem ok_Mo_coaches_b418 {p : Program} {l : Launch} {e : Env} {s : State} {m : MethodId} {args : Array Value} {below : List Frame} {meth : Method} {c : Code} {D : va_G} {cA : Nat → ClassId} {ad : Nat → Nat} {A : Nat → Prop} (C : Cx p s m args c prog_14_method_117_code 12 "PollBooksModel" D cA ad 1 A) {Q : State → Prop} {o : (Int × Int × Int × Int × Int × Int × Int × Dt) ⊕ ((Int × Int × Int × Int × Int × Dt))} (x3 x4 x5 x6 x7 x8 x9 x10 x11 : Int) (d : Dt) (hx3 : c32 x3) (hx4 : c32 x4) (hx5 : c32 x5) (hx6 : c32 x6) (hx7 : c32 x7) (hx8 : c32 x8) (hx9 : c32 x9) (hx10 : c32 x10) (hx11 : c32 x11) (h : L_Mo_coaches_b418 x3 x4 x5 x6 x7 x8 x9 x10 x11 d = some o) (kb : ∀ (y0 y1 y2 y3 y4 y5 y6 : Int) (e' : Dt), o = .inl (y0, y1, y2, y3, y4, y5, y6, e') → c32 y0 → c32 y1 → c32 y2 → c32 y3 → c32 y4 → c32 y5 → c32 y6 → G p l e rm_Mo_coaches s m args below meth c 0 0 Q 12 D cA ad 1 A 315 [(2, 0), (9, 0), (9, 0), (0, y0), (0, y1), (0, y2), (0, y3), (0, y4), (0, y5), (0, y6), (9, 0), (9, 0)] [] e') (k0 : ∀ (y0 y1 y2 y3 y4 : Int) (e' : Dt), o = .inr (y0, y1, y2, y3, y4, e') → c32 y0 → c32 y1 → c32 y2 → c32 y3 → c32 y4 → G p l e rm_Mo_coaches s m args below meth c 0 0 Q 12 D cA ad 1 A 448 [(2, 0), (9, 0), (9, 0), (0, y0), (0, y1), (0, y2), (0, y3), (0, y4), (9, 0), (9, 0), (9, 0), (9, 0)] [] e') : G p l e rm_Mo_coaches s m args below meth c 0 0 Q 12 D cA ad 1 A 418 [(2, 0), (9, 0), (9, 0), (0, x3), (0, x4), (0, x5), (0, x6), (0, x7), (0, x8), (0, x9), (0, x10), (0, x11)] [] d := by
  unfold L_Mo_coaches_b418 at h
  refine g_aload_n C 0 rfl (by decide +kernel) ?_
  refine g_getR C cl12 0 106 79 rfl cd_B0 ⟨by decide, rfl, by decide⟩ rfl rfl (nB (by decide)) (ix := 260) lk_1508 (by decide +kernel) ?_
  refine g_iload C 7 rfl (by decide +kernel) ?_
  refine g_iload C 10 rfl (by decide +kernel) ?_
  obtain ⟨hb32_, h⟩ := ck_some h
  refine g_iast C 79 hx10 hx7 rfl cd_B79 (nB (by decide)) hb32_ (by decide +kernel) ?_
  refine g_aload_n C 0 rfl (by decide +kernel) ?_
  refine g_getR C cl12 0 107 80 rfl cd_B0 ⟨by decide, rfl, by decide⟩ rfl rfl (nB (by decide)) (ix := 263) lk_1509 (by decide +kernel) ?_
  refine g_iload C 7 rfl (by decide +kernel) ?_
  refine g_iload C 11 rfl (by decide +kernel) ?_
  obtain ⟨hb33_, h⟩ := ck_some h
  refine g_iast C 80 hx11 hx7 rfl cd_B80 (nB (by decide)) hb33_ (by decide +kernel) ?_
  refine g_sub (lo2 := [(2, 0), (9, 0), (9, 0), (0, x3), (0, x4), (0, x5), (0, x6), (0, x7), (0, x8), (0, x9), (9, 0), (9, 0)]) (lsb_v (lsb_c (lsb_c (lsb_v (lsb_v (lsb_v (lsb_v (lsb_v (lsb_v (lsb_v (lsb_c (lsb_c lsb_e)))))))))))) ?_
  exact ok_Mo_coaches_b436 C x3 x4 x5 x6 x7 x8 x9 (up2 (up2 d 79 x7.toNat x10) 80 x7.toNat x11) hx3 hx4 hx5 hx6 hx7 hx8 hx9 h kb k0
set_option maxHeartbeats 4000000 in
theorem ok_Mo_coaches_y315 {p : Program} {l : Launch} {e : Env} {s : State} {m : MethodId} {args : Array Value} {below : List Frame} {meth : Method} {c : Code} {D : va_G} {cA : Nat → ClassId} {ad : Nat → Nat} {A : Nat → Prop} (C : Cx p s m args c prog_14_method_117_code 12 "PollBooksModel" D cA ad 1 A) {Q : State → Prop} {o : (Int × Int × Int × Int × Int × Int × Int × Dt) ⊕ ((Int × Int × Int × Int × Int × Dt))} (x3 x4 x5 x6 x7 x8 x9 : Int) (d : Dt) (hx3 : c32 x3) (hx4 : c32 x4) (hx5 : c32 x5) (hx6 : c32 x6) (hx7 : c32 x7) (hx8 : c32 x8) (hx9 : c32 x9) (h : L_Mo_coaches_y315 x3 x4 x5 x6 x7 x8 x9 d = some o) (kb : ∀ (y0 y1 y2 y3 y4 y5 y6 : Int) (e' : Dt), o = .inl (y0, y1, y2, y3, y4, y5, y6, e') → c32 y0 → c32 y1 → c32 y2 → c32 y3 → c32 y4 → c32 y5 → c32 y6 → G p l e rm_Mo_coaches s m args below meth c 0 0 Q 12 D cA ad 1 A 315 [(2, 0), (9, 0), (9, 0), (0, y0), (0, y1), (0, y2), (0, y3), (0, y4), (0, y5), (0, y6), (9, 0), (9, 0)] [] e') (k0 : ∀ (y0 y1 y2 y3 y4 : Int) (e' : Dt), o = .inr (y0, y1, y2, y3, y4, e') → c32 y0 → c32 y1 → c32 y2 → c32 y3 → c32 y4 → G p l e rm_Mo_coaches s m args below meth c 0 0 Q 12 D cA ad 1 A 448 [(2, 0), (9, 0), (9, 0), (0, y0), (0, y1), (0, y2), (0, y3), (0, y4), (9, 0), (9, 0), (9, 0), (9, 0)] [] e') : G p l e rm_Mo_coaches s m args below meth c 0 0 Q 12 D cA ad 1 A 315 [(2, 0), (9, 0), (9, 0), (0, x3), (0, x4), (0, x5), (0, x6), (0, x7), (0, x8), (0, x9), (9, 0), (9, 0)] [] d := by
  unfold L_Mo_coaches_y315 at h
  refine g_iload C 9 rfl (by decide +kernel) ?_
  refine g_if_le C (off := 131) (tgt := 448) hx9 (by decide +kernel) (by decide) (fun hc34_ => ?_) (fun hc34_ => ?_)
  · replace h := ite_t hc34_ h
    refine g_iload C 9 rfl (by decide +kernel) ?_
    refine g_iload C 8 rfl (by decide +kernel) ?_
    refine g_iand C (by decide +kernel) ?_
    refine g_if_eq C (off := 111) (tgt := 436) (i_c _) (by decide +kernel) (by decide) (fun hc35_ => ?_) (fun hc35_ => ?_)
    · replace h := ite_t hc35_ h
      refine g_sub (lo2 := [(2, 0), (9, 0), (9, 0), (0, x3), (0, x4), (0, x5), (0, x6), (0, x7), (0, x8), (0, x9), (9, 0), (9, 0)]) (lsb_v (lsb_c (lsb_c (lsb_v (lsb_v (lsb_v (lsb_v (lsb_v (lsb_v (lsb_v (lsb_c (lsb_c lsb_e)))))))))))) ?_
      exact ok_Mo_coaches_b436 C x3 x4 x5 x6 x7 x8 x9 d hx3 hx4 hx5 hx6 hx7 hx8 hx9 h kb k0
    · replace h := ite_f hc35_ h
      refine g_aload_n C 0 rfl (by decide +kernel) ?_
      refine g_iload C 9 rfl (by decide +kernel) ?_
      obtain ⟨r37_, d36_, hr38_, h⟩ := bd_some h
      refine g_callV C mw_Mo_load [(0, x9)] 0 cl12 rfl (ok_Mo_load x9 d hx9 hr38_) cd_B0 (by decide) (nB (by decide)) (ix := 624) lk_2243 lk_2245 lkp_112 ⟨rfl, rfl, Nat.le_of_ble_eq_true rfl, Nat.le_of_ble_eq_true rfl⟩ rfl (rest := []) rfl (Nat.le_of_ble_eq_true rfl) ⟨Nat.zero_le _, Nat.zero_le _⟩ (by decide +kernel) (fun _ hc39_ => ?_)
      replace hc39_ : c32 r37_ := hc39_
      refine g_st (st2 := [(0, r37_)]) rfl ?_
      refine g_iload_n C 3 rfl (by decide +kernel) ?_
      refine g_icmp_le C (off := 6) (tgt := 341) hc39_ hx3 (by decide +kernel) (by decide) (fun hc40_ => ?_) (fun hc40_ => ?_)
      · replace h := ite_t hc40_ h
        refine g_goto C 436 (off := 98) (by decide +kernel) (by decide) ?_
        refine g_sub (lo2 := [(2, 0), (9, 0), (9, 0), (0, x3), (0, x4), (0, x5), (0, x6), (0, x7), (0, x8), (0, x9), (9, 0), (9, 0)]) (lsb_v (lsb_c (lsb_c (lsb_v (lsb_v (lsb_v (lsb_v (lsb_v (lsb_v (lsb_v (lsb_c (lsb_c lsb_e)))))))))))) ?_
        exact ok_Mo_coaches_b436 C x3 x4 x5 x6 x7 x8 x9 d36_ hx3 hx4 hx5 hx6 hx7 hx8 hx9 h kb k0
      · replace h := ite_f hc40_ h
        refine g_aload_n C 0 rfl (by decide +kernel) ?_
        refine g_getR C cl12 0 105 78 rfl cd_B0 ⟨by decide, rfl, by decide⟩ rfl rfl (nB (by decide)) (ix := 257) lk_1507 (by decide +kernel) ?_
        refine g_iload C 9 rfl (by decide +kernel) ?_
        obtain ⟨hb41_, h⟩ := ck_some h
        refine g_iald C 78 hx9 rfl cd_B78 (nB (by decide)) hb41_ (by decide +kernel) (fun hc42_ => ?_)
        refine g_aload_n C 0 rfl (by decide +kernel) ?_
        refine g_getR C cl12 0 106 79 rfl cd_B0 ⟨by decide, rfl, by decide⟩ rfl rfl (nB (by decide)) (ix := 260) lk_1508 (by decide +kernel) ?_
        refine g_iload C 7 rfl (by decide +kernel) ?_
        refine g_iload C 9 rfl (by decide +kernel) ?_
        refine g_iconst C (-1) (cK rfl) (by decide +kernel) ?_
        refine g_ixor C (by decide +kernel) ?_
        refine g_iand C (by decide +kernel) ?_
        obtain ⟨hb43_, h⟩ := ck_some h
        refine g_iald C 79 (i_c _) rfl cd_B79 (nB (by decide)) hb43_ (by decide +kernel) (fun hc44_ => ?_)
        refine g_iadd C (by decide +kernel) ?_
        obtain ⟨v45_, ev46_, h⟩ := lt_some h
        refine g_val ev46_.symm ?_
        have hv47_ : c32 v45_ := by rw [ev46_]; exact (w32_c _)
        refine s_istore C 10 (lo' := [(2, 0), (9, 0), (9, 0), (0, x3), (0, x4), (0, x5), (0, x6), (0, x7), (0, x8), (0, x9), (0, v45_), (9, 0)]) (by decide) (s1k (s1k (s1k (s1k (s1k (s1k (s1k (s1k (s1k (s1n (by decide) s1z)))))))))) (by decide +kernel) ?_
        refine g_iconst C 1 (cK rfl) (by decide +kernel) ?_
        refine g_aload_n C 0 rfl (by decide +kernel) ?_
        refine g_getR C cl12 0 107 80 rfl cd_B0 ⟨by decide, rfl, by decide⟩ rfl rfl (nB (by decide)) (ix := 263) lk_1509 (by decide +kernel) ?_
        refine g_iload C 7 rfl (by decide +kernel) ?_
        refine g_iload C 9 rfl (by decide +kernel) ?_
        refine g_iconst C (-1) (cK rfl) (by decide +kernel) ?_
        refine g_ixor C (by decide +kernel) ?_
        refine g_iand C (by decide +kernel) ?_
        obtain ⟨hb48_, h⟩ := ck_some h
        refine g_iald C 80 (i_c _) rfl cd_B80 (nB (by decide)) hb48_ (by decide +kernel) (fun hc49_ => ?_)
        refine g_iadd C (by decide +kernel) ?_
        obtain ⟨v50_, ev51_, h⟩ := lt_some h
        refine g_val ev51_.symm ?_
        have hv52_ : c32 v50_ := by rw [ev51_]; exact (w32_c _)
        refine s_istore C 11 (lo' := [(2, 0), (9, 0), (9, 0), (0, x3), (0, x4), (0, x5), (0, x6), (0, x7), (0, x8), (0, x9), (0, v45_), (0, v50_)]) (by decide) (s1k (s1k (s1k (s1k (s1k (s1k (s1k (s1k (s1k (s1k (s1n (by decide) s1z))))))))))) (by decide +kernel) ?_
        refine g_iload C 10 rfl (by decide +kernel) ?_
        refine g_aload_n C 0 rfl (by decide +kernel) ?_
        refine g_getR C cl12 0 106 79 rfl cd_B0 ⟨by decide, rfl, by decide⟩ rfl rfl (nB (by decide)) (ix := 260) lk_1508 (by decide +kernel) ?_
        refine g_iload C 7 rfl (by decide +kernel) ?_
        obtain ⟨hb53_, h⟩ := ck_some h
        refine g_iald C 79 hx7 rfl cd_B79 (nB (by decide)) hb53_ (by decide +kernel) (fun hc54_ => ?_)
        refine g_icmp_gt C (off := 48) (tgt := 436) hv47_ hc54_ (by decide +kernel) (by decide) (fun hc55_ => ?_) (fun hc55_ => ?_)
        · replace h := ite_t hc55_ h
          refine g_sub (lo2 := [(2, 0), (9, 0), (9, 0), (0, x3), (0, x4), (0, x5), (0, x6), (0, x7), (0, x8), (0, x9), (9, 0), (9, 0)]) (lsb_v (lsb_c (lsb_c (lsb_v (lsb_v (lsb_v (lsb_v (lsb_v (lsb_v (lsb_v (lsb_c (lsb_c lsb_e)))))))))))) ?_
          exact ok_Mo_coaches_b436 C x3 x4 x5 x6 x7 x8 x9 d36_ hx3 hx4 hx5 hx6 hx7 hx8 hx9 h kb k0
        · replace h := ite_f hc55_ h
          refine g_iload C 10 rfl (by decide +kernel) ?_
          refine g_aload_n C 0 rfl (by decide +kernel) ?_
          refine g_getR C cl12 0 106 79 rfl cd_B0 ⟨by decide, rfl, by decide⟩ rfl rfl (nB (by decide)) (ix := 260) lk_1508 (by decide +kernel) ?_
          refine g_iload C 7 rfl (by decide +kernel) ?_
          obtain ⟨hb56_, h⟩ := ck_some h
          refine g_iald C 79 hx7 rfl cd_B79 (nB (by decide)) hb56_ (by decide +kernel) (fun hc57_ => ?_)
          refine g_icmp_ne C (off := 18) (tgt := 418) hv47_ hc57_ (by decide +kernel) (by decide) (fun hc58_ => ?_) (fun hc58_ => ?_)
          · replace h := ite_t hc58_ h
            refine g_iload C 11 rfl (by decide +kernel) ?_
            refine g_aload_n C 0 rfl (by decide +kernel) ?_
            refine g_getR C cl12 0 107 80 rfl cd_B0 ⟨by decide, rfl, by decide⟩ rfl rfl (nB (by decide)) (ix := 263) lk_1509 (by decide +kernel) ?_
            refine g_iload C 7 rfl (by decide +kernel) ?_
            obtain ⟨hb59_, h⟩ := ck_some h
            refine g_iald C 80 hx7 rfl cd_B80 (nB (by decide)) hb59_ (by decide +kernel) (fun hc60_ => ?_)
            refine g_icmp_lt C (off := 6) (tgt := 418) hv52_ hc60_ (by decide +kernel) (by decide) (fun hc61_ => ?_) (fun hc61_ => ?_)
            · replace h := ite_t hc61_ h
              refine g_sub (lo2 := [(2, 0), (9, 0), (9, 0), (0, x3), (0, x4), (0, x5), (0, x6), (0, x7), (0, x8), (0, x9), (0, v45_), (0, v50_)]) (lsb_v (lsb_c (lsb_c (lsb_v (lsb_v (lsb_v (lsb_v (lsb_v (lsb_v (lsb_v (lsb_v (lsb_v lsb_e)))))))))))) ?_
              exact ok_Mo_coaches_b418 C x3 x4 x5 x6 x7 x8 x9 v45_ v50_ d36_ hx3 hx4 hx5 hx6 hx7 hx8 hx9 hv47_ hv52_ h kb k0
            · replace h := ite_f hc61_ h
              refine g_goto C 436 (off := 21) (by decide +kernel) (by decide) ?_
              refine g_sub (lo2 := [(2, 0), (9, 0), (9, 0), (0, x3), (0, x4), (0, x5), (0, x6), (0, x7), (0, x8), (0, x9), (9, 0), (9, 0)]) (lsb_v (lsb_c (lsb_c (lsb_v (lsb_v (lsb_v (lsb_v (lsb_v (lsb_v (lsb_v (lsb_c (lsb_c lsb_e)))))))))))) ?_
              exact ok_Mo_coaches_b436 C x3 x4 x5 x6 x7 x8 x9 d36_ hx3 hx4 hx5 hx6 hx7 hx8 hx9 h kb k0
          · replace h := ite_f hc58_ h
            refine g_sub (lo2 := [(2, 0), (9, 0), (9, 0), (0, x3), (0, x4), (0, x5), (0, x6), (0, x7), (0, x8), (0, x9), (0, v45_), (0, v50_)]) (lsb_v (lsb_c (lsb_c (lsb_v (lsb_v (lsb_v (lsb_v (lsb_v (lsb_v (lsb_v (lsb_v (lsb_v lsb_e)))))))))))) ?_
            exact ok_Mo_coaches_b418 C x3 x4 x5 x6 x7 x8 x9 v45_ v50_ d36_ hx3 hx4 hx5 hx6 hx7 hx8 hx9 hv47_ hv52_ h kb k0
  · replace h := ite_f hc34_ h
    refine g_sub (lo2 := [(2, 0), (9, 0), (9, 0), (0, x3), (0, x4), (0, x5), (0, x6), (0, x7), (9, 0), (9, 0), (9, 0), (9, 0)]) (lsb_v (lsb_c (lsb_c (lsb_v (lsb_v (lsb_v (lsb_v (lsb_v (lsb_c (lsb_c (lsb_c (lsb_c lsb_e)))))))))))) ?_
    obtain rfl := Option.some.inj h
    exact k0 x3 x4 x5 x6 x7 d rfl hx3 hx4 hx5 hx6 hx7
set_option maxHeartbeats 4000000 in
theorem ok_Mo_coaches_n315 {p : Program} {l : Launch} {e : Env} {s : State} {m : MethodId} {args : Array Value} {below : List Frame} {meth : Method} {c : Code} {D : va_G} {cA : Nat → ClassId} {ad : Nat → Nat} {A : Nat → Prop} (C : Cx p s m args c prog_14_method_117_code 12 "PollBooksModel" D cA ad 1 A) {Q : State → Prop} {x : (Int × Int × Int × Int × Int × Dt)} : ∀ (n : Nat) (x3 x4 x5 x6 x7 x8 x9 : Int) (d : Dt), c32 x3 → c32 x4 → c32 x5 → c32 x6 → c32 x7 → c32 x8 → c32 x9 → lpF (fun q : Int × Int × Int × Int × Int × Int × Int × Dt => L_Mo_coaches_y315 q.1 q.2.1 q.2.2.1 q.2.2.2.1 q.2.2.2.2.1 q.2.2.2.2.2.1 q.2.2.2.2.2.2.1 q.2.2.2.2.2.2.2) n (x3, x4, x5, x6, x7, x8, x9, d) = some x → (∀ (y0 y1 y2 y3 y4 : Int) (e' : Dt), x = (y0, y1, y2, y3, y4, e') → c32 y0 → c32 y1 → c32 y2 → c32 y3 → c32 y4 → G p l e rm_Mo_coaches s m args below meth c 0 0 Q 12 D cA ad 1 A 448 [(2, 0), (9, 0), (9, 0), (0, y0), (0, y1), (0, y2), (0, y3), (0, y4), (9, 0), (9, 0), (9, 0), (9, 0)] [] e') → G p l e rm_Mo_coaches s m args below meth c 0 0 Q 12 D cA ad 1 A 315 [(2, 0), (9, 0), (9, 0), (0, x3), (0, x4), (0, x5), (0, x6), (0, x7), (0, x8), (0, x9), (9, 0), (9, 0)] [] d := by
  intro n
  induction n with
  | zero => intro x3 x4 x5 x6 x7 x8 x9 d g0 g1 g2 g3 g4 g5 g6 h k0; cases h
  | succ n ih =>
    intro x3 x4 x5 x6 x7 x8 x9 d g0 g1 g2 g3 g4 g5 g6 h k0
    rcases lpF_some h with h | ⟨⟨v0_, v1_, v2_, v3_, v4_, v5_, v6_, e0_⟩, h1, h⟩
    · exact ok_Mo_coaches_y315 C x3 x4 x5 x6 x7 x8 x9 d g0 g1 g2 g3 g4 g5 g6 h (fun z0_ z1_ z2_ z3_ z4_ z5_ z6_ e1_ eq w0_ w1_ w2_ w3_ w4_ w5_ w6_ => by cases eq) (fun z0_ z1_ z2_ z3_ z4_ e1_ eq w0_ w1_ w2_ w3_ w4_ => k0 _ _ _ _ _ _ (by cases eq; rfl) w0_ w1_ w2_ w3_ w4_)
    · exact ok_Mo_coaches_y315 C x3 x4 x5 x6 x7 x8 x9 d g0 g1 g2 g3 g4 g5 g6 h1 (fun z0_ z1_ z2_ z3_ z4_ z5_ z6_ e1_ eq w0_ w1_ w2_ w3_ w4_ w5_ w6_ => by cases eq; exact ih _ _ _ _ _ _ _ _ w0_ w1_ w2_ w3_ w4_ w5_ w6_ h k0) (fun z0_ z1_ z2_ z3_ z4_ e1_ eq w0_ w1_ w2_ w3_ w4_ => by cases eq)
set_option maxHeartbeats 4000000 in
theorem ok_Mo_coaches_l315 {p : Program} {l : Launch} {e : Env} {s : State} {m : MethodId} {args : Array Value} {below : List Frame} {meth : Method} {c : Code} {D : va_G} {cA : Nat → ClassId} {ad : Nat → Nat} {A : Nat → Prop} (C : Cx p s m args c prog_14_method_117_code 12 "PollBooksModel" D cA ad 1 A) {Q : State → Prop} {x : (Int × Int × Int × Int × Int × Dt)} (x3 x4 x5 x6 x7 x8 x9 : Int) (d : Dt) (hx3 : c32 x3) (hx4 : c32 x4) (hx5 : c32 x5) (hx6 : c32 x6) (hx7 : c32 x7) (hx8 : c32 x8) (hx9 : c32 x9) (h : L_Mo_coaches_l315 x3 x4 x5 x6 x7 x8 x9 d = some x) (k0 : ∀ (y0 y1 y2 y3 y4 : Int) (e' : Dt), x = (y0, y1, y2, y3, y4, e') → c32 y0 → c32 y1 → c32 y2 → c32 y3 → c32 y4 → G p l e rm_Mo_coaches s m args below meth c 0 0 Q 12 D cA ad 1 A 448 [(2, 0), (9, 0), (9, 0), (0, y0), (0, y1), (0, y2), (0, y3), (0, y4), (9, 0), (9, 0), (9, 0), (9, 0)] [] e') : G p l e rm_Mo_coaches s m args below meth c 0 0 Q 12 D cA ad 1 A 315 [(2, 0), (9, 0), (9, 0), (0, x3), (0, x4), (0, x5), (0, x6), (0, x7), (0, x8), (0, x9), (9, 0), (9, 0)] [] d :=
  ok_Mo_coaches_n315 C FU x3 x4 x5 x6 x7 x8 x9 d hx3 hx4 hx5 hx6 hx7 hx8 hx9 h k0
set_option maxHeartbeats 4000000 in
theorem ok_Mo_coaches_b448 {p : Program} {l : Launch} {e : Env} {s : State} {m : MethodId} {args : Array Value} {below : List Frame} {meth : Method} {c : Code} {D : va_G} {cA : Nat → ClassId} {ad : Nat → Nat} {A : Nat → Prop} (C : Cx p s m args c prog_14_method_117_code 12 "PollBooksModel" D cA ad 1 A) {Q : State → Prop} {o : (Int × Int × Int × Int × Int × Dt) ⊕ ((Int × Int × Int × Dt))} (x3 x4 x5 x6 x7 : Int) (d : Dt) (hx3 : c32 x3) (hx4 : c32 x4) (hx5 : c32 x5) (hx6 : c32 x6) (hx7 : c32 x7) (h : L_Mo_coaches_b448 x3 x4 x5 x6 x7 d = some o) (kb : ∀ (y0 y1 y2 y3 y4 : Int) (e' : Dt), o = .inl (y0, y1, y2, y3, y4, e') → c32 y0 → c32 y1 → c32 y2 → c32 y3 → c32 y4 → G p l e rm_Mo_coaches s m args below meth c 0 0 Q 12 D cA ad 1 A 272 [(2, 0), (9, 0), (9, 0), (0, y0), (0, y1), (0, y2), (0, y3), (0, y4), (9, 0), (9, 0), (9, 0), (9, 0)] [] e') (k0 : ∀ (y0 y1 y2 : Int) (e' : Dt), o = .inr (y0, y1, y2, e') → c32 y0 → c32 y1 → c32 y2 → G p l e rm_Mo_coaches s m args below meth c 0 0 Q 12 D cA ad 1 A 454 [(2, 0), (9, 0), (9, 0), (9, 0), (0, y0), (0, y1), (0, y2), (9, 0), (9, 0), (9, 0), (9, 0), (9, 0)] [] e') : G p l e rm_Mo_coaches s m args below meth c 0 0 Q 12 D cA ad 1 A 448 [(2, 0), (9, 0), (9, 0), (0, x3), (0, x4), (0, x5), (0, x6), (0, x7), (9, 0), (9, 0), (9, 0), (9, 0)] [] d := by
  unfold L_Mo_coaches_b448 at h
  refine s_iinc C 7 1 (lo' := [(2, 0), (9, 0), (9, 0), (0, x3), (0, x4), (0, x5), (0, x6), (0, (w32 (x7 + 1))), (9, 0), (9, 0), (9, 0), (9, 0)]) rfl (by decide) (s1k (s1k (s1k (s1k (s1k (s1k (s1n (by decide) s1z))))))) (by decide +kernel) ?_
  refine g_goto C 272 (off := (-179)) (by decide +kernel) (by decide) ?_
  refine g_sub (lo2 := [(2, 0), (9, 0), (9, 0), (0, x3), (0, x4), (0, x5), (0, x6), (0, (w32 (x7 + 1))), (9, 0), (9, 0), (9, 0), (9, 0)]) (lsb_v (lsb_c (lsb_c (lsb_v (lsb_v (lsb_v (lsb_v (lsb_v (lsb_c (lsb_c (lsb_c (lsb_c lsb_e)))))))))))) ?_
  obtain rfl := Option.some.inj h
  exact kb x3 x4 x5 x6 (w32 (x7 + 1)) d rfl hx3 hx4 hx5 hx6 (w32_c _)
set_option maxHeartbeats 4000000 in
theorem ok_Mo_coaches_y272 {p : Program} {l : Launch} {e : Env} {s : State} {m : MethodId} {args : Array Value} {below : List Frame} {meth : Method} {c : Code} {D : va_G} {cA : Nat → ClassId} {ad : Nat → Nat} {A : Nat → Prop} (C : Cx p s m args c prog_14_method_117_code 12 "PollBooksModel" D cA ad 1 A) {Q : State → Prop} {o : (Int × Int × Int × Int × Int × Dt) ⊕ ((Int × Int × Int × Dt))} (x3 x4 x5 x6 x7 : Int) (d : Dt) (hx3 : c32 x3) (hx4 : c32 x4) (hx5 : c32 x5) (hx6 : c32 x6) (hx7 : c32 x7) (h : L_Mo_coaches_y272 x3 x4 x5 x6 x7 d = some o) (kb : ∀ (y0 y1 y2 y3 y4 : Int) (e' : Dt), o = .inl (y0, y1, y2, y3, y4, e') → c32 y0 → c32 y1 → c32 y2 → c32 y3 → c32 y4 → G p l e rm_Mo_coaches s m args below meth c 0 0 Q 12 D cA ad 1 A 272 [(2, 0), (9, 0), (9, 0), (0, y0), (0, y1), (0, y2), (0, y3), (0, y4), (9, 0), (9, 0), (9, 0), (9, 0)] [] e') (k0 : ∀ (y0 y1 y2 : Int) (e' : Dt), o = .inr (y0, y1, y2, e') → c32 y0 → c32 y1 → c32 y2 → G p l e rm_Mo_coaches s m args below meth c 0 0 Q 12 D cA ad 1 A 454 [(2, 0), (9, 0), (9, 0), (9, 0), (0, y0), (0, y1), (0, y2), (9, 0), (9, 0), (9, 0), (9, 0), (9, 0)] [] e') : G p l e rm_Mo_coaches s m args below meth c 0 0 Q 12 D cA ad 1 A 272 [(2, 0), (9, 0), (9, 0), (0, x3), (0, x4), (0, x5), (0, x6), (0, x7), (9, 0), (9, 0), (9, 0), (9, 0)] [] d := by
  unfold L_Mo_coaches_y272 at h
  refine g_iload C 7 rfl (by decide +kernel) ?_
  refine g_sipush C 128 (by decide) (by decide +kernel) ?_
  refine g_icmp_ge C (off := 177) (tgt := 454) hx7 (cK rfl) (by decide +kernel) (by decide) (fun hc62_ => ?_) (fun hc62_ => ?_)
  · replace h := ite_t hc62_ h
    refine g_iload C 7 rfl (by decide +kernel) ?_
    refine g_iload C 6 rfl (by decide +kernel) ?_
    refine g_iconst C (-1) (cK rfl) (by decide +kernel) ?_
    refine g_ixor C (by decide +kernel) ?_
    refine g_iand C (by decide +kernel) ?_
    refine g_if_eq C (off := 6) (tgt := 293) (i_c _) (by decide +kernel) (by decide) (fun hc63_ => ?_) (fun hc63_ => ?_)
    · replace h := ite_t hc63_ h
      refine g_iload C 7 rfl (by decide +kernel) ?_
      refine g_iload C 7 rfl (by decide +kernel) ?_
      refine g_ineg C (by decide +kernel) ?_
      refine g_iand C (by decide +kernel) ?_
      obtain ⟨v64_, ev65_, h⟩ := lt_some h
      refine g_val ev65_.symm ?_
      have hv66_ : c32 v64_ := by rw [ev65_]; exact (i_c _)
      refine s_istore C 8 (lo' := [(2, 0), (9, 0), (9, 0), (0, x3), (0, x4), (0, x5), (0, x6), (0, x7), (0, v64_), (9, 0), (9, 0), (9, 0)]) (by decide) (s1k (s1k (s1k (s1k (s1k (s1k (s1k (s1n (by decide) s1z)))))))) (by decide +kernel) ?_
      refine g_aload_n C 0 rfl (by decide +kernel) ?_
      refine g_getR C cl12 0 106 79 rfl cd_B0 ⟨by decide, rfl, by decide⟩ rfl rfl (nB (by decide)) (ix := 260) lk_1508 (by decide +kernel) ?_
      refine g_iload C 7 rfl (by decide +kernel) ?_
      refine g_ldcw C (ix := 553) (v := 100000000) lk_2127 (by decide +kernel) ?_
      obtain ⟨hb67_, h⟩ := ck_some h
      refine g_iast C 79 (cK rfl) hx7 rfl cd_B79 (nB (by decide)) hb67_ (by decide +kernel) ?_
      refine g_iload C 7 rfl (by decide +kernel) ?_
      refine s_istore C 9 (lo' := [(2, 0), (9, 0), (9, 0), (0, x3), (0, x4), (0, x5), (0, x6), (0, x7), (0, v64_), (0, x7), (9, 0), (9, 0)]) (by decide) (s1k (s1k (s1k (s1k (s1k (s1k (s1k (s1k (s1n (by decide) s1z))))))))) (by decide +kernel) ?_
      refine g_sub (lo2 := [(2, 0), (9, 0), (9, 0), (0, x3), (0, x4), (0, x5), (0, x6), (0, x7), (0, v64_), (0, x7), (9, 0), (9, 0)]) (lsb_v (lsb_c (lsb_c (lsb_v (lsb_v (lsb_v (lsb_v (lsb_v (lsb_v (lsb_v (lsb_c (lsb_c lsb_e)))))))))))) ?_
      obtain ⟨x68_, hx69_, h⟩ := lb_some h
      refine ok_Mo_coaches_l315 C x3 x4 x5 x6 x7 v64_ x7 (up2 d 79 x7.toNat 100000000) hx3 hx4 hx5 hx6 hx7 hv66_ hx7 hx69_ (fun v70_ v71_ v72_ v73_ v74_ d75_ eq76_ hv70_ hv71_ hv72_ hv73_ hv74_ => ?_)
      subst eq76_
      replace h := u5_e h
      refine g_sub (lo2 := [(2, 0), (9, 0), (9, 0), (0, v70_), (0, v71_), (0, v72_), (0, v73_), (0, v74_), (9, 0), (9, 0), (9, 0), (9, 0)]) (lsb_v (lsb_c (lsb_c (lsb_v (lsb_v (lsb_v (lsb_v (lsb_v (lsb_c (lsb_c (lsb_c (lsb_c lsb_e)))))))))))) ?_
      exact ok_Mo_coaches_b448 C v70_ v71_ v72_ v73_ v74_ d75_ hv70_ hv71_ hv72_ hv73_ hv74_ h kb k0
    · replace h := ite_f hc63_ h
      refine g_goto C 448 (off := 158) (by decide +kernel) (by decide) ?_
      refine g_sub (lo2 := [(2, 0), (9, 0), (9, 0), (0, x3), (0, x4), (0, x5), (0, x6), (0, x7), (9, 0), (9, 0), (9, 0), (9, 0)]) (lsb_v (lsb_c (lsb_c (lsb_v (lsb_v (lsb_v (lsb_v (lsb_v (lsb_c (lsb_c (lsb_c (lsb_c lsb_e)))))))))))) ?_
      exact ok_Mo_coaches_b448 C x3 x4 x5 x6 x7 d hx3 hx4 hx5 hx6 hx7 h kb k0
  · replace h := ite_f hc62_ h
    refine g_sub (lo2 := [(2, 0), (9, 0), (9, 0), (9, 0), (0, x4), (0, x5), (0, x6), (9, 0), (9, 0), (9, 0), (9, 0), (9, 0)]) (lsb_v (lsb_c (lsb_c (lsb_c (lsb_v (lsb_v (lsb_v (lsb_c (lsb_c (lsb_c (lsb_c (lsb_c lsb_e)))))))))))) ?_
    obtain rfl := Option.some.inj h
    exact k0 x4 x5 x6 d rfl hx4 hx5 hx6
set_option maxHeartbeats 4000000 in
theorem ok_Mo_coaches_n272 {p : Program} {l : Launch} {e : Env} {s : State} {m : MethodId} {args : Array Value} {below : List Frame} {meth : Method} {c : Code} {D : va_G} {cA : Nat → ClassId} {ad : Nat → Nat} {A : Nat → Prop} (C : Cx p s m args c prog_14_method_117_code 12 "PollBooksModel" D cA ad 1 A) {Q : State → Prop} {x : (Int × Int × Int × Dt)} : ∀ (n : Nat) (x3 x4 x5 x6 x7 : Int) (d : Dt), c32 x3 → c32 x4 → c32 x5 → c32 x6 → c32 x7 → lpF (fun q : Int × Int × Int × Int × Int × Dt => L_Mo_coaches_y272 q.1 q.2.1 q.2.2.1 q.2.2.2.1 q.2.2.2.2.1 q.2.2.2.2.2) n (x3, x4, x5, x6, x7, d) = some x → (∀ (y0 y1 y2 : Int) (e' : Dt), x = (y0, y1, y2, e') → c32 y0 → c32 y1 → c32 y2 → G p l e rm_Mo_coaches s m args below meth c 0 0 Q 12 D cA ad 1 A 454 [(2, 0), (9, 0), (9, 0), (9, 0), (0, y0), (0, y1), (0, y2), (9, 0), (9, 0), (9, 0), (9, 0), (9, 0)] [] e') → G p l e rm_Mo_coaches s m args below meth c 0 0 Q 12 D cA ad 1 A 272 [(2, 0), (9, 0), (9, 0), (0, x3), (0, x4), (0, x5), (0, x6), (0, x7), (9, 0), (9, 0), (9, 0), (9, 0)] [] d := by
  intro n
  induction n with
  | zero => intro x3 x4 x5 x6 x7 d g0 g1 g2 g3 g4 h k0; cases h
  | succ n ih =>
    intro x3 x4 x5 x6 x7 d g0 g1 g2 g3 g4 h k0
    rcases lpF_some h with h | ⟨⟨v0_, v1_, v2_, v3_, v4_, e0_⟩, h1, h⟩
    · exact ok_Mo_coaches_y272 C x3 x4 x5 x6 x7 d g0 g1 g2 g3 g4 h (fun z0_ z1_ z2_ z3_ z4_ e1_ eq w0_ w1_ w2_ w3_ w4_ => by cases eq) (fun z0_ z1_ z2_ e1_ eq w0_ w1_ w2_ => k0 _ _ _ _ (by cases eq; rfl) w0_ w1_ w2_)
    · exact ok_Mo_coaches_y272 C x3 x4 x5 x6 x7 d g0 g1 g2 g3 g4 h1 (fun z0_ z1_ z2_ z3_ z4_ e1_ eq w0_ w1_ w2_ w3_ w4_ => by cases eq; exact ih _ _ _ _ _ _ w0_ w1_ w2_ w3_ w4_ h k0) (fun z0_ z1_ z2_ e1_ eq w0_ w1_ w2_ => by cases eq)
set_option maxHeartbeats 4000000 in
theorem ok_Mo_coaches_l272 {p : Program} {l : Launch} {e : Env} {s : State} {m : MethodId} {args : Array Value} {below : List Frame} {meth : Method} {c : Code} {D : va_G} {cA : Nat → ClassId} {ad : Nat → Nat} {A : Nat → Prop} (C : Cx p s m args c prog_14_method_117_code 12 "PollBooksModel" D cA ad 1 A) {Q : State → Prop} {x : (Int × Int × Int × Dt)} (x3 x4 x5 x6 x7 : Int) (d : Dt) (hx3 : c32 x3) (hx4 : c32 x4) (hx5 : c32 x5) (hx6 : c32 x6) (hx7 : c32 x7) (h : L_Mo_coaches_l272 x3 x4 x5 x6 x7 d = some x) (k0 : ∀ (y0 y1 y2 : Int) (e' : Dt), x = (y0, y1, y2, e') → c32 y0 → c32 y1 → c32 y2 → G p l e rm_Mo_coaches s m args below meth c 0 0 Q 12 D cA ad 1 A 454 [(2, 0), (9, 0), (9, 0), (9, 0), (0, y0), (0, y1), (0, y2), (9, 0), (9, 0), (9, 0), (9, 0), (9, 0)] [] e') : G p l e rm_Mo_coaches s m args below meth c 0 0 Q 12 D cA ad 1 A 272 [(2, 0), (9, 0), (9, 0), (0, x3), (0, x4), (0, x5), (0, x6), (0, x7), (9, 0), (9, 0), (9, 0), (9, 0)] [] d :=
  ok_Mo_coaches_n272 C FU x3 x4 x5 x6 x7 d hx3 hx4 hx5 hx6 hx7 h k0
set_option maxHeartbeats 4000000 in
theorem ok_Mo_coaches_b25 {p : Program} {l : Launch} {e : Env} {s : State} {m : MethodId} {args : Array Value} {below : List Frame} {meth : Method} {c : Code} {D : va_G} {cA : Nat → ClassId} {ad : Nat → Nat} {A : Nat → Prop} (C : Cx p s m args c prog_14_method_117_code 12 "PollBooksModel" D cA ad 1 A) (hlk : meth.locks = false) (hr : meth.sig.returnType = (some .int)) {r : Int} {d' : Dt} (d : Dt)  (h : L_Mo_coaches_b25 d = some (r, d')) : G p l e rm_Mo_coaches s m args below meth c 0 0 (MQ below (fun _ => QC D cA ad 1 A (some .int) (some (0, r)) d') args s 0 0 A) 12 D cA ad 1 A 25 [(2, 0), (9, 0), (9, 0), (9, 0), (9, 0), (9, 0), (9, 0), (9, 0), (9, 0), (9, 0), (9, 0), (9, 0)] [] d := by
  unfold L_Mo_coaches_b25 at h
  refine g_aload_n C 0 rfl (by decide +kernel) ?_
  refine g_iconst C 1 (cK rfl) (by decide +kernel) ?_
  obtain ⟨r79_, d78_, hr80_, h⟩ := bd_some h
  refine g_callV C mw_Mo_refuse [(0, 1)] 0 cl12 rfl (ok_Mo_refuse 1 d (c32_cb (Or.inr rfl)) hr80_) cd_B0 (by decide) (nB (by decide)) (ix := 316) lk_1787 lk_1789 lkp_61 ⟨rfl, rfl, Nat.le_of_ble_eq_true rfl, Nat.le_of_ble_eq_true rfl⟩ rfl (rest := []) rfl (Nat.le_of_ble_eq_true rfl) ⟨Nat.zero_le _, Nat.zero_le _⟩ (by decide +kernel) (fun _ hc81_ => ?_)
  replace hc81_ : c32 r79_ := hc81_
  refine g_st (st2 := [(0, r79_)]) rfl ?_
  obtain ⟨rfl, rfl⟩ := ret_inj h
  exact g_iret C hc81_ hlk hr (by decide +kernel)
set_option maxHeartbeats 4000000 in
theorem ok_Mo_coaches_b110 {p : Program} {l : Launch} {e : Env} {s : State} {m : MethodId} {args : Array Value} {below : List Frame} {meth : Method} {c : Code} {D : va_G} {cA : Nat → ClassId} {ad : Nat → Nat} {A : Nat → Prop} (C : Cx p s m args c prog_14_method_117_code 12 "PollBooksModel" D cA ad 1 A) (hlk : meth.locks = false) (hr : meth.sig.returnType = (some .int)) {r : Int} {d' : Dt} (d : Dt)  (h : L_Mo_coaches_b110 d = some (r, d')) : G p l e rm_Mo_coaches s m args below meth c 0 0 (MQ below (fun _ => QC D cA ad 1 A (some .int) (some (0, r)) d') args s 0 0 A) 12 D cA ad 1 A 110 [(2, 0), (9, 0), (9, 0), (9, 0), (9, 0), (9, 0), (9, 0), (9, 0), (9, 0), (9, 0), (9, 0), (9, 0)] [] d := by
  unfold L_Mo_coaches_b110 at h
  refine g_aload_n C 0 rfl (by decide +kernel) ?_
  refine g_iconst C 1 (cK rfl) (by decide +kernel) ?_
  obtain ⟨r83_, d82_, hr84_, h⟩ := bd_some h
  refine g_callV C mw_Mo_refuse [(0, 1)] 0 cl12 rfl (ok_Mo_refuse 1 d (c32_cb (Or.inr rfl)) hr84_) cd_B0 (by decide) (nB (by decide)) (ix := 316) lk_1787 lk_1789 lkp_61 ⟨rfl, rfl, Nat.le_of_ble_eq_true rfl, Nat.le_of_ble_eq_true rfl⟩ rfl (rest := []) rfl (Nat.le_of_ble_eq_true rfl) ⟨Nat.zero_le _, Nat.zero_le _⟩ (by decide +kernel) (fun _ hc85_ => ?_)
  replace hc85_ : c32 r83_ := hc85_
  refine g_st (st2 := [(0, r83_)]) rfl ?_
  obtain ⟨rfl, rfl⟩ := ret_inj h
  exact g_iret C hc85_ hlk hr (by decide +kernel)
set_option maxHeartbeats 4000000 in
theorem ok_Mo_coaches {l : Launch} {r : Int} {d' : Dt} (p1 p2 p3 : Int) (d : Dt) (hp1 : c32 p1) (hp2 : c32 p2) (hp3 : c32 p3) (h : L_Mo_coaches p1 p2 p3 d = some (r, d')) : MC l y_Mo_coaches prog_14_method_117_code 12 (some .int) rm_Mo_coaches 1 [(2, 0), (0, p1), (0, p2), (0, p3)] d (some (0, r)) d' := by
  refine MC.of (by decide) (Nat.le_of_ble_eq_true rfl) ?_
  intro p e s m args below meth c D cA ad A C hlk hr
  replace C : Cx p s m args c prog_14_method_117_code 12 "PollBooksModel" D cA ad 1 A := C
  show G p l e rm_Mo_coaches s m args below meth c 0 0 (MQ below (fun _ => QC D cA ad 1 A (some .int) (some (0, r)) d') args s 0 0 A) 12 D cA ad 1 A 0 [(2, 0), (0, p1), (0, p2), (0, p3)] [] d
  refine g_sub (lo2 := [(2, 0), (0, p1), (0, p2), (0, p3), (9, 0), (9, 0), (9, 0), (9, 0), (9, 0), (9, 0), (9, 0), (9, 0)]) (lsb_v (lsb_v (lsb_v (lsb_v (lsb_n (lsb_n (lsb_n (lsb_n (lsb_n (lsb_n (lsb_n (lsb_n lsb_e)))))))))))) ?_
  unfold L_Mo_coaches at h
  refine g_iload_n C 1 rfl (by decide +kernel) ?_
  obtain ⟨r87_, d86_, hr88_, h⟩ := bd_some h
  refine g_callS C mw_Mo_isPlace [(0, p1)] (ok_Mo_isPlace p1 d hp1 hr88_) (ix := 325) lk_1798 lk_1799 ⟨rfl, rfl, Nat.le_of_ble_eq_true rfl, Nat.le_of_ble_eq_true rfl⟩ rfl (rest := []) rfl (Nat.le_of_ble_eq_true rfl) ⟨Nat.zero_le _, Nat.zero_le _⟩ (by decide +kernel) (fun _ hc89_ => ?_)
  replace hc89_ : cb r87_ := hc89_
  refine g_st (st2 := [(0, r87_)]) rfl ?_
  refine g_if_eq C (off := 21) (tgt := 25) (c32_cb hc89_) (by decide +kernel) (by decide) (fun hc90_ => ?_) (fun hc90_ => ?_)
  · replace h := ite_t hc90_ h
    refine g_sub (lo2 := [(2, 0), (9, 0), (9, 0), (9, 0), (9, 0), (9, 0), (9, 0), (9, 0), (9, 0), (9, 0), (9, 0), (9, 0)]) (lsb_v (lsb_c (lsb_c (lsb_c (lsb_c (lsb_c (lsb_c (lsb_c (lsb_c (lsb_c (lsb_c (lsb_c lsb_e)))))))))))) ?_
    exact ok_Mo_coaches_b25 C hlk hr d86_  h
  · replace h := ite_f hc90_ h
    refine g_iload_n C 2 rfl (by decide +kernel) ?_
    obtain ⟨r92_, d91_, hr93_, h⟩ := bd_some h
    refine g_callS C mw_Mo_isTray [(0, p2)] (ok_Mo_isTray p2 d86_ hp2 hr93_) (ix := 272) lk_1738 lk_1739 ⟨rfl, rfl, Nat.le_of_ble_eq_true rfl, Nat.le_of_ble_eq_true rfl⟩ rfl (rest := []) rfl (Nat.le_of_ble_eq_true rfl) ⟨Nat.zero_le _, Nat.zero_le _⟩ (by decide +kernel) (fun _ hc94_ => ?_)
    replace hc94_ : cb r92_ := hc94_
    refine g_st (st2 := [(0, r92_)]) rfl ?_
    refine g_if_eq C (off := 14) (tgt := 25) (c32_cb hc94_) (by decide +kernel) (by decide) (fun hc95_ => ?_) (fun hc95_ => ?_)
    · replace h := ite_t hc95_ h
      refine g_sub (lo2 := [(2, 0), (9, 0), (9, 0), (9, 0), (9, 0), (9, 0), (9, 0), (9, 0), (9, 0), (9, 0), (9, 0), (9, 0)]) (lsb_v (lsb_c (lsb_c (lsb_c (lsb_c (lsb_c (lsb_c (lsb_c (lsb_c (lsb_c (lsb_c (lsb_c lsb_e)))))))))))) ?_
      exact ok_Mo_coaches_b25 C hlk hr d91_  h
    · replace h := ite_f hc95_ h
      refine g_iload_n C 3 rfl (by decide +kernel) ?_
      refine g_iconst C 1 (cK rfl) (by decide +kernel) ?_
      refine g_icmp_lt C (off := 9) (tgt := 25) hp3 (c32_cb (Or.inr rfl)) (by decide +kernel) (by decide) (fun hc96_ => ?_) (fun hc96_ => ?_)
      · replace h := ite_t hc96_ h
        refine g_sub (lo2 := [(2, 0), (9, 0), (9, 0), (9, 0), (9, 0), (9, 0), (9, 0), (9, 0), (9, 0), (9, 0), (9, 0), (9, 0)]) (lsb_v (lsb_c (lsb_c (lsb_c (lsb_c (lsb_c (lsb_c (lsb_c (lsb_c (lsb_c (lsb_c (lsb_c lsb_e)))))))))))) ?_
        exact ok_Mo_coaches_b25 C hlk hr d91_  h
      · replace h := ite_f hc96_ h
        refine g_iload_n C 3 rfl (by decide +kernel) ?_
        refine g_bipush C 20 (by decide) (by decide +kernel) ?_
        refine g_icmp_le C (off := 9) (tgt := 31) hp3 (cK rfl) (by decide +kernel) (by decide) (fun hc97_ => ?_) (fun hc97_ => ?_)
        · replace h := ite_t hc97_ h
          refine g_sub (lo2 := [(2, 0), (9, 0), (9, 0), (9, 0), (9, 0), (9, 0), (9, 0), (9, 0), (9, 0), (9, 0), (9, 0), (9, 0)]) (lsb_v (lsb_c (lsb_c (lsb_c (lsb_c (lsb_c (lsb_c (lsb_c (lsb_c (lsb_c (lsb_c (lsb_c lsb_e)))))))))))) ?_
          exact ok_Mo_coaches_b25 C hlk hr d91_  h
        · replace h := ite_f hc97_ h
          refine g_aload_n C 0 rfl (by decide +kernel) ?_
          refine g_getR C cl12 0 2 2 rfl cd_B0 ⟨by decide, rfl, by decide⟩ rfl rfl (nB (by decide)) (ix := 13) lk_1404 (by decide +kernel) ?_
          refine g_iload_n C 2 rfl (by decide +kernel) ?_
          obtain ⟨hb98_, h⟩ := ck_some h
          refine g_iald C 2 hp2 rfl cd_B2 (nB (by decide)) hb98_ (by decide +kernel) (fun hc99_ => ?_)
          refine g_iconst C (-1) (cK rfl) (by decide +kernel) ?_
          refine g_icmp_ne C (off := 9) (tgt := 47) hc99_ (cK rfl) (by decide +kernel) (by decide) (fun hc100_ => ?_) (fun hc100_ => ?_)
          · replace h := ite_t hc100_ h
            refine g_aload_n C 0 rfl (by decide +kernel) ?_
            refine g_iconst C 2 (cK rfl) (by decide +kernel) ?_
            obtain ⟨r102_, d101_, hr103_, h⟩ := bd_some h
            refine g_callV C mw_Mo_refuse [(0, 2)] 0 cl12 rfl (ok_Mo_refuse 2 d91_ (cK rfl) hr103_) cd_B0 (by decide) (nB (by decide)) (ix := 316) lk_1787 lk_1789 lkp_61 ⟨rfl, rfl, Nat.le_of_ble_eq_true rfl, Nat.le_of_ble_eq_true rfl⟩ rfl (rest := []) rfl (Nat.le_of_ble_eq_true rfl) ⟨Nat.zero_le _, Nat.zero_le _⟩ (by decide +kernel) (fun _ hc104_ => ?_)
            replace hc104_ : c32 r102_ := hc104_
            refine g_st (st2 := [(0, r102_)]) rfl ?_
            obtain ⟨rfl, rfl⟩ := ret_inj h
            exact g_iret C hc104_ hlk hr (by decide +kernel)
          · replace h := ite_f hc100_ h
            refine g_aload_n C 0 rfl (by decide +kernel) ?_
            refine g_getR C cl12 0 2 2 rfl cd_B0 ⟨by decide, rfl, by decide⟩ rfl rfl (nB (by decide)) (ix := 13) lk_1404 (by decide +kernel) ?_
            refine g_iload_n C 2 rfl (by decide +kernel) ?_
            obtain ⟨hb105_, h⟩ := ck_some h
            refine g_iald C 2 hp2 rfl cd_B2 (nB (by decide)) hb105_ (by decide +kernel) (fun hc106_ => ?_)
            refine g_bipush C 7 (by decide) (by decide +kernel) ?_
            refine g_icmp_ge C (off := 9) (tgt := 64) hc106_ (cK rfl) (by decide +kernel) (by decide) (fun hc107_ => ?_) (fun hc107_ => ?_)
            · replace h := ite_t hc107_ h
              refine g_aload_n C 0 rfl (by decide +kernel) ?_
              refine g_iconst C 3 (cK rfl) (by decide +kernel) ?_
              obtain ⟨r109_, d108_, hr110_, h⟩ := bd_some h
              refine g_callV C mw_Mo_refuse [(0, 3)] 0 cl12 rfl (ok_Mo_refuse 3 d91_ (cK rfl) hr110_) cd_B0 (by decide) (nB (by decide)) (ix := 316) lk_1787 lk_1789 lkp_61 ⟨rfl, rfl, Nat.le_of_ble_eq_true rfl, Nat.le_of_ble_eq_true rfl⟩ rfl (rest := []) rfl (Nat.le_of_ble_eq_true rfl) ⟨Nat.zero_le _, Nat.zero_le _⟩ (by decide +kernel) (fun _ hc111_ => ?_)
              replace hc111_ : c32 r109_ := hc111_
              refine g_st (st2 := [(0, r109_)]) rfl ?_
              obtain ⟨rfl, rfl⟩ := ret_inj h
              exact g_iret C hc111_ hlk hr (by decide +kernel)
            · replace h := ite_f hc107_ h
              refine g_iconst C 0 (cK rfl) (by decide +kernel) ?_
              refine s_istore C 4 (lo' := [(2, 0), (0, p1), (0, p2), (0, p3), (0, 0), (9, 0), (9, 0), (9, 0), (9, 0), (9, 0), (9, 0), (9, 0)]) (by decide) (s1k (s1k (s1k (s1n (by decide) s1z)))) (by decide +kernel) ?_
              refine g_sub (lo2 := [(2, 0), (0, p1), (0, p2), (0, p3), (0, 0), (9, 0), (9, 0), (9, 0), (9, 0), (9, 0), (9, 0), (9, 0)]) (lsb_v (lsb_v (lsb_v (lsb_v (lsb_v (lsb_c (lsb_c (lsb_c (lsb_c (lsb_c (lsb_c (lsb_c lsb_e)))))))))))) ?_
              obtain ⟨x112_, hx113_, h⟩ := lb_some h
              refine ok_Mo_coaches_l67 C p1 p2 p3 0 d91_ hp1 hp2 hp3 (c32_cb (Or.inl rfl)) hx113_ (fun v114_ v115_ v116_ d117_ eq118_ hv114_ hv115_ hv116_ => ?_) (fun d149_ eq150_ => ?_)
              · subst eq118_
                replace h := sml_e h
                replace h := u3_e h
                refine g_iconst C 0 (cK rfl) (by decide +kernel) ?_
                refine s_istore C 4 (lo' := [(2, 0), (0, v114_), (0, v115_), (0, v116_), (0, 0), (9, 0), (9, 0), (9, 0), (9, 0), (9, 0), (9, 0), (9, 0)]) (by decide) (s1k (s1k (s1k (s1n (by decide) s1z)))) (by decide +kernel) ?_
                refine g_iconst C 0 (cK rfl) (by decide +kernel) ?_
                refine s_istore C 5 (lo' := [(2, 0), (0, v114_), (0, v115_), (0, v116_), (0, 0), (0, 0), (9, 0), (9, 0), (9, 0), (9, 0), (9, 0), (9, 0)]) (by decide) (s1k (s1k (s1k (s1k (s1n (by decide) s1z))))) (by decide +kernel) ?_
                refine g_iconst C 0 (cK rfl) (by decide +kernel) ?_
                refine s_istore C 6 (lo' := [(2, 0), (0, v114_), (0, v115_), (0, v116_), (0, 0), (0, 0), (0, 0), (9, 0), (9, 0), (9, 0), (9, 0), (9, 0)]) (by decide) (s1k (s1k (s1k (s1k (s1k (s1n (by decide) s1z)))))) (by decide +kernel) ?_
                refine g_iconst C 0 (cK rfl) (by decide +kernel) ?_
                refine s_istore C 7 (lo' := [(2, 0), (0, v114_), (0, v115_), (0, v116_), (0, 0), (0, 0), (0, 0), (0, 0), (9, 0), (9, 0), (9, 0), (9, 0)]) (by decide) (s1k (s1k (s1k (s1k (s1k (s1k (s1n (by decide) s1z))))))) (by decide +kernel) ?_
                refine g_sub (lo2 := [(2, 0), (0, v114_), (0, v115_), (0, v116_), (0, 0), (0, 0), (0, 0), (0, 0), (9, 0), (9, 0), (9, 0), (9, 0)]) (lsb_v (lsb_v (lsb_v (lsb_v (lsb_v (lsb_v (lsb_v (lsb_v (lsb_c (lsb_c (lsb_c (lsb_c lsb_e)))))))))))) ?_
                obtain ⟨x119_, hx120_, h⟩ := lb_some h
                refine ok_Mo_coaches_l134 C v114_ v115_ v116_ 0 0 0 0 d117_ hv114_ hv115_ hv116_ (c32_cb (Or.inl rfl)) (c32_cb (Or.inl rfl)) (c32_cb (Or.inl rfl)) (c32_cb (Or.inl rfl)) hx120_ (fun v121_ v122_ v123_ v124_ v125_ d126_ eq127_ hv121_ hv122_ hv123_ hv124_ hv125_ => ?_)
                subst eq127_
                replace h := u5_e h
                refine g_aload_n C 0 rfl (by decide +kernel) ?_
                refine g_iload_n C 1 rfl (by decide +kernel) ?_
                obtain ⟨r129_, d128_, hr130_, h⟩ := bd_some h
                refine g_callV C mw_Mo_walk [(0, v121_)] 0 cl12 rfl (ok_Mo_walk v121_ d126_ hv121_ hr130_) cd_B0 (by decide) (nB (by decide)) (ix := 621) lk_2239 lk_2241 lkp_111 ⟨rfl, rfl, Nat.le_of_ble_eq_true rfl, Nat.le_of_ble_eq_true rfl⟩ rfl (rest := []) rfl (Nat.le_of_ble_eq_true rfl) ⟨Nat.zero_le _, Nat.zero_le _⟩ (by decide +kernel) (fun _ hc131_ => ?_)
                refine g_st (st2 := []) rfl ?_
                refine g_aload_n C 0 rfl (by decide +kernel) ?_
                refine g_getR C cl12 0 106 79 rfl cd_B0 ⟨by decide, rfl, by decide⟩ rfl rfl (nB (by decide)) (ix := 260) lk_1508 (by decide +kernel) ?_
                refine g_iconst C 0 (cK rfl) (by decide +kernel) ?_
                refine g_iconst C 0 (cK rfl) (by decide +kernel) ?_
                refine g_iast C 79 (c32_cb (Or.inl rfl)) (c32_cb (Or.inl rfl)) rfl cd_B79 (nB (by decide)) (by decide) (by decide +kernel) ?_
                refine g_aload_n C 0 rfl (by decide +kernel) ?_
                refine g_getR C cl12 0 107 80 rfl cd_B0 ⟨by decide, rfl, by decide⟩ rfl rfl (nB (by decide)) (ix := 263) lk_1509 (by decide +kernel) ?_
                refine g_iconst C 0 (cK rfl) (by decide +kernel) ?_
                refine g_iconst C 0 (cK rfl) (by decide +kernel) ?_
                refine g_iast C 80 (c32_cb (Or.inl rfl)) (c32_cb (Or.inl rfl)) rfl cd_B80 (nB (by decide)) (by decide) (by decide +kernel) ?_
                refine g_iconst C 1 (cK rfl) (by decide +kernel) ?_
                refine s_istore C 7 (lo' := [(2, 0), (0, v121_), (9, 0), (0, v122_), (0, v123_), (0, v124_), (0, v125_), (0, 1), (9, 0), (9, 0), (9, 0), (9, 0)]) (by decide) (s1k (s1k (s1k (s1k (s1k (s1k (s1n (by decide) s1z))))))) (by decide +kernel) ?_
                refine g_sub (lo2 := [(2, 0), (9, 0), (9, 0), (0, v122_), (0, v123_), (0, v124_), (0, v125_), (0, 1), (9, 0), (9, 0), (9, 0), (9, 0)]) (lsb_v (lsb_c (lsb_c (lsb_v (lsb_v (lsb_v (lsb_v (lsb_v (lsb_c (lsb_c (lsb_c (lsb_c lsb_e)))))))))))) ?_
                obtain ⟨x132_, hx133_, h⟩ := lb_some h
                refine ok_Mo_coaches_l272 C v122_ v123_ v124_ v125_ 1 (up2 (up2 d128_ 79 0 0) 80 0 0) hv122_ hv123_ hv124_ hv125_ (c32_cb (Or.inr rfl)) hx133_ (fun v134_ v135_ v136_ d137_ eq138_ hv134_ hv135_ hv136_ => ?_)
                subst eq138_
                replace h := u3_e h
                refine g_aload_n C 0 rfl (by decide +kernel) ?_
                refine g_iload C 5 rfl (by decide +kernel) ?_
                refine g_aload_n C 0 rfl (by decide +kernel) ?_
                refine g_getR C cl12 0 107 80 rfl cd_B0 ⟨by decide, rfl, by decide⟩ rfl rfl (nB (by decide)) (ix := 263) lk_1509 (by decide +kernel) ?_
                refine g_iload C 6 rfl (by decide +kernel) ?_
                obtain ⟨hb139_, h⟩ := ck_some h
                refine g_iald C 80 hv136_ rfl cd_B80 (nB (by decide)) hb139_ (by decide +kernel) (fun hc140_ => ?_)
                refine g_iadd C (by decide +kernel) ?_
                refine g_putI C cl12 0 108 (w32_c _) rfl cd_B0 ⟨by decide, rfl, by decide⟩ rfl (nB (by decide)) (ix := 266) lk_1510 rfl rfl (by decide +kernel) ?_
                refine g_aload_n C 0 rfl (by decide +kernel) ?_
                refine g_iload C 4 rfl (by decide +kernel) ?_
                refine g_aload_n C 0 rfl (by decide +kernel) ?_
                refine g_getR C cl12 0 106 79 rfl cd_B0 ⟨by decide, rfl, by decide⟩ rfl rfl (nB (by decide)) (ix := 260) lk_1508 (by decide +kernel) ?_
                refine g_iload C 6 rfl (by decide +kernel) ?_
                obtain ⟨hb141_, h⟩ := ck_some h
                refine g_iald C 79 hv136_ rfl cd_B79 (nB (by decide)) hb141_ (by decide +kernel) (fun hc142_ => ?_)
                refine g_val (y := (d137_ 79 v136_.toNat)) rfl ?_
                replace hc142_ : c32 (d137_ 79 v136_.toNat) := hc142_
                refine g_iadd C (by decide +kernel) ?_
                obtain ⟨r144_, d143_, hr145_, h⟩ := bd_some h
                refine g_callV C mw_Mo_gives [(0, (w32 (v134_ + (d137_ 79 v136_.toNat))))] 0 cl12 rfl (ok_Mo_gives (w32 (v134_ + (d137_ 79 v136_.toNat))) (up2 d137_ 0 108 (w32 (v135_ + (d137_ 80 v136_.toNat)))) (w32_c _) hr145_) cd_B0 (by decide) (nB (by decide)) (ix := 312) lk_1783 lk_1785 lkp_60 ⟨rfl, rfl, Nat.le_of_ble_eq_true rfl, Nat.le_of_ble_eq_true rfl⟩ rfl (rest := []) rfl (Nat.le_of_ble_eq_true rfl) ⟨Nat.zero_le _, Nat.zero_le _⟩ (by decide +kernel) (fun _ hc146_ => ?_)
                replace hc146_ : c32 r144_ := hc146_
                refine g_st (st2 := [(0, r144_)]) rfl ?_
                obtain ⟨rfl, rfl⟩ := ret_inj h
                exact g_iret C hc146_ hlk hr (by decide +kernel)
              · subst eq150_
                replace h := smr_e h
                replace h := u0_e h
                refine g_sub (lo2 := [(2, 0), (9, 0), (9, 0), (9, 0), (9, 0), (9, 0), (9, 0), (9, 0), (9, 0), (9, 0), (9, 0), (9, 0)]) (lsb_v (lsb_c (lsb_c (lsb_c (lsb_c (lsb_c (lsb_c (lsb_c (lsb_c (lsb_c (lsb_c (lsb_c lsb_e)))))))))))) ?_
                exact ok_Mo_coaches_b110 C hlk hr d149_  h
/-! PollBooksModel.coachMany()I -/
def y_Mo_coachMany : MethodName := ⟨"PollBooksModel", "coachMany", "()I"⟩
def rm_Mo_coachMany : Room := { frames := 1, cells := 0, slots := 0, locals := 21 }
theorem mw_Mo_coachMany : MW y_Mo_coachMany prog_14_method_119_code 1 (some .int) 0 := ⟨lk_2250, lk_14, by decide +kernel⟩
def L_Mo_coachMany (d : Dt) : Option (Int × Dt) :=
  if (d 0 108) = (-1) then bd (L_Mo_refuse 6 d) (fun r4_ d3_ => some (r4_, d3_)) else bd (L_Mo_gives (d 0 108) d) (fun r9_ d8_ => some (r9_, d8_))
set_option maxHeartbeats 4000000 in
theorem ok_Mo_coachMany {l : Launch} {r : Int} {d' : Dt} (d : Dt)  (h : L_Mo_coachMany d = some (r, d')) : MC l y_Mo_coachMany prog_14_method_119_code 1 (some .int) rm_Mo_coachMany 1 [(2, 0)] d (some (0, r)) d' := by
  refine MC.of (by decide) (Nat.le_of_ble_eq_true rfl) ?_
  intro p e s m args below meth c D cA ad A C hlk hr
  replace C : Cx p s m args c prog_14_method_119_code 1 "PollBooksModel" D cA ad 1 A := C
  show G p l e rm_Mo_coachMany s m args below meth c 0 0 (MQ below (fun _ => QC D cA ad 1 A (some .int) (some (0, r)) d') args s 0 0 A) 1 D cA ad 1 A 0 [(2, 0)] [] d
  refine g_sub (lo2 := [(2, 0)]) (lsb_v lsb_e) ?_
  unfold L_Mo_coachMany at h
  refine g_aload_n C 0 rfl (by decide +kernel) ?_
  refine g_getI C cl12 0 108 rfl cd_B0 ⟨by decide, rfl, by decide⟩ rfl (nB (by decide)) (ix := 266) lk_1510 (by decide +kernel) (fun hc1_ => ?_)
  refine g_iconst C (-1) (cK rfl) (by decide +kernel) ?_
  refine g_icmp_ne C (off := 12) (tgt := 17) hc1_ (cK rfl) (by decide +kernel) (by decide) (fun hc2_ => ?_) (fun hc2_ => ?_)
  · replace h := ite_t hc2_ h
    refine g_aload_n C 0 rfl (by decide +kernel) ?_
    refine g_bipush C 6 (by decide) (by decide +kernel) ?_
    obtain ⟨r4_, d3_, hr5_, h⟩ := bd_some h
    refine g_callV C mw_Mo_refuse [(0, 6)] 0 cl12 rfl (ok_Mo_refuse 6 d (cK rfl) hr5_) cd_B0 (by decide) (nB (by decide)) (ix := 316) lk_1787 lk_1789 lkp_61 ⟨rfl, rfl, Nat.le_of_ble_eq_true rfl, Nat.le_of_ble_eq_true rfl⟩ rfl (rest := []) rfl (Nat.le_of_ble_eq_true rfl) ⟨Nat.zero_le _, Nat.zero_le _⟩ (by decide +kernel) (fun _ hc6_ => ?_)
    replace hc6_ : c32 r4_ := hc6_
    refine g_st (st2 := [(0, r4_)]) rfl ?_
    refine g_goto C 25 (off := 11) (by decide +kernel) (by decide) ?_
    obtain ⟨rfl, rfl⟩ := ret_inj h
    exact g_iret C hc6_ hlk hr (by decide +kernel)
  · replace h := ite_f hc2_ h
    refine g_aload_n C 0 rfl (by decide +kernel) ?_
    refine g_aload_n C 0 rfl (by decide +kernel) ?_
    refine g_getI C cl12 0 108 rfl cd_B0 ⟨by decide, rfl, by decide⟩ rfl (nB (by decide)) (ix := 266) lk_1510 (by decide +kernel) (fun hc7_ => ?_)
    obtain ⟨r9_, d8_, hr10_, h⟩ := bd_some h
    refine g_callV C mw_Mo_gives [(0, (d 0 108))] 0 cl12 rfl (ok_Mo_gives (d 0 108) d hc7_ hr10_) cd_B0 (by decide) (nB (by decide)) (ix := 312) lk_1783 lk_1785 lkp_60 ⟨rfl, rfl, Nat.le_of_ble_eq_true rfl, Nat.le_of_ble_eq_true rfl⟩ rfl (rest := []) rfl (Nat.le_of_ble_eq_true rfl) ⟨Nat.zero_le _, Nat.zero_le _⟩ (by decide +kernel) (fun _ hc11_ => ?_)
    replace hc11_ : c32 r9_ := hc11_
    refine g_st (st2 := [(0, r9_)]) rfl ?_
    obtain ⟨rfl, rfl⟩ := ret_inj h
    exact g_iret C hc11_ hlk hr (by decide +kernel)
