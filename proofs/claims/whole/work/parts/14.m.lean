/-! PollBooks$Grounds.countWith(I)[I -/
def y_Gr_countWith : MethodName := ⟨"PollBooks$Grounds", "countWith", "(I)[I"⟩
def rm_Gr_countWith : Room := { frames := 5, cells := 0, slots := 0, locals := 116 }
theorem mw_Gr_countWith : MW y_Gr_countWith prog_3_method_9_code 2 (some (.array .int)) 1 := ⟨lk_1221, lk_11, by decide +kernel⟩
def L_Gr_countWith (p1 : Int) (d : Dt) : Option (Int × Dt) :=
  bd (L_Gr_countWritten d) (fun r2_ d1_ => bd (L_Gr_addGrounds p1 d1_) (fun r6_ d5_ => some (62, d5_)))
set_option maxHeartbeats 4000000 in
theorem ok_Gr_countWith {l : Launch} {r : Int} {d' : Dt} (p1 : Int) (d : Dt) (hp1 : c32 p1) (h : L_Gr_countWith p1 d = some (r, d')) : MC l y_Gr_countWith prog_3_method_9_code 2 (some (.array .int)) rm_Gr_countWith 0 [(2, 58), (0, p1)] d (some (2, r)) d' := by
  refine MC.of (by decide) (Nat.le_of_ble_eq_true rfl) ?_
  intro p e s m args below meth c D cA ad A C hlk hr
  replace C : Cx p s m args c prog_3_method_9_code 2 "PollBooks$Grounds" D cA ad 0 A := C
  show G p l e rm_Gr_countWith s m args below meth c 0 0 (MQ below (fun _ => QC D cA ad 0 A (some (.array .int)) (some (2, r)) d') args s 0 0 A) 2 D cA ad 0 A 0 [(2, 58), (0, p1)] [] d
  refine g_sub (lo2 := [(2, 58), (0, p1)]) (lsb_v (lsb_v lsb_e)) ?_
  unfold L_Gr_countWith at h
  refine g_aload_n C 0 rfl (by decide +kernel) ?_
  obtain ⟨r2_, d1_, hr3_, h⟩ := bd_some h
  refine g_callV C mw_Gr_countWritten [] 58 cl1 rfl (ok_Gr_countWritten  d  hr3_) cd_A58 (by decide) (nA (by decide)) (ix := 40) lk_1222 lk_1224 lkp_42 ⟨rfl, rfl, Nat.le_of_ble_eq_true rfl, Nat.le_of_ble_eq_true rfl⟩ rfl (rest := []) rfl (Nat.le_of_ble_eq_true rfl) ⟨Nat.zero_le _, Nat.zero_le _⟩ (by decide +kernel) (fun _ hc4_ => ?_)
  refine g_st (st2 := []) rfl ?_
  refine g_aload_n C 0 rfl (by decide +kernel) ?_
  refine g_iload_n C 1 rfl (by decide +kernel) ?_
  obtain ⟨r6_, d5_, hr7_, h⟩ := bd_some h
  refine g_callV C mw_Gr_addGrounds [(0, p1)] 58 cl1 rfl (ok_Gr_addGrounds p1 d1_ hp1 hr7_) cd_A58 (by decide) (nA (by decide)) (ix := 43) lk_1227 lk_1229 lkp_43 ⟨rfl, rfl, Nat.le_of_ble_eq_true rfl, Nat.le_of_ble_eq_true rfl⟩ rfl (rest := []) rfl (Nat.le_of_ble_eq_true rfl) ⟨Nat.zero_le _, Nat.zero_le _⟩ (by decide +kernel) (fun _ hc8_ => ?_)
  refine g_st (st2 := []) rfl ?_
  refine g_aload_n C 0 rfl (by decide +kernel) ?_
  refine g_getR C cl1 58 6 62 rfl cd_A58 ⟨by decide, rfl, by decide⟩ rfl rfl (nA (by decide)) (ix := 22) lk_373 (by decide +kernel) ?_
  obtain ⟨rfl, rfl⟩ := ret_inj h
  exact g_aret C (Or.inr ⟨_, rfl⟩) hlk hr (by decide +kernel)
/-! PollBooks.written(II)I -/
def y_PB_written : MethodName := ⟨"PollBooks", "written", "(II)I"⟩
def rm_PB_written : Room := { frames := 6, cells := 0, slots := 0, locals := 137 }
theorem mw_PB_written : MW y_PB_written prog_1_method_42_code 3 (some .int) 2 := ⟨lk_1213, lk_1, by decide +kernel⟩
def L_PB_written_b24 (x1 x2 s1 : Int) (d : Dt) : Option (Int × Dt) :=
  if s1 = 0 then bd (L_Gr_countWith x2 (up2 d 0 0 s1)) (fun r4_ d3_ => ck (r4_ = 62) (ck ((0 : Int) ≤ x1 ∧ x1 < 4) (some ((d3_ 62 x1.toNat), d3_)))) else some ((-1), (up2 d 0 0 s1))
def L_PB_written (p1 p2 : Int) (d : Dt) : Option (Int × Dt) :=
  bd (L_PB_isCandidate p1 d) (fun r12_ d11_ => if r12_ = 0 then L_PB_written_b24 p1 p2 1 d11_ else bd (L_Gr_isSetOfThem p2 d11_) (fun r17_ d16_ => if r17_ = 0 then L_PB_written_b24 p1 p2 1 d16_ else L_PB_written_b24 p1 p2 0 d16_))
set_option maxHeartbeats 4000000 in
theorem ok_PB_written_b24 {p : Program} {l : Launch} {e : Env} {s : State} {m : MethodId} {args : Array Value} {below : List Frame} {meth : Method} {c : Code} {D : va_G} {cA : Nat → ClassId} {ad : Nat → Nat} {A : Nat → Prop} (C : Cx p s m args c prog_1_method_42_code 3 "PollBooks" D cA ad 0 A) (hlk : meth.locks = false) (hr : meth.sig.returnType = (some .int)) {r : Int} {d' : Dt} (x1 x2 s1 : Int) (d : Dt) (hx1 : c32 x1) (hx2 : c32 x2) (hs1 : cb s1) (h : L_PB_written_b24 x1 x2 s1 d = some (r, d')) : G p l e rm_PB_written s m args below meth c 0 0 (MQ below (fun _ => QC D cA ad 0 A (some .int) (some (0, r)) d') args s 0 0 A) 3 D cA ad 0 A 24 [(2, 0), (0, x1), (0, x2)] [(0, s1), (2, 0)] d := by
  unfold L_PB_written_b24 at h
  refine g_putI C cl11 0 0 (c32_cb hs1) rfl cd_A0 ⟨by decide, rfl, by decide⟩ rfl (nA (by decide)) (ix := 9) lk_467 rfl rfl (by decide +kernel) ?_
  refine g_aload_n C 0 rfl (by decide +kernel) ?_
  refine g_getI C cl11 0 0 rfl cd_A0 ⟨by decide, rfl, by decide⟩ rfl (nA (by decide)) (ix := 9) lk_467 (by decide +kernel) (fun hc1_ => ?_)
  refine g_val (y := s1) rfl ?_
  replace hc1_ : c32 s1 := hc1_
  refine g_if_ne C (off := 16) (tgt := 47) hc1_ (by decide +kernel) (by decide) (fun hc2_ => ?_) (fun hc2_ => ?_)
  · replace h := ite_t hc2_ h
    refine g_aload_n C 0 rfl (by decide +kernel) ?_
    refine g_getR C cl11 0 8 58 rfl cd_A0 ⟨by decide, rfl, by decide⟩ rfl rfl (nA (by decide)) (ix := 73) lk_475 (by decide +kernel) ?_
    refine g_iload_n C 2 rfl (by decide +kernel) ?_
    obtain ⟨r4_, d3_, hr5_, h⟩ := bd_some h
    refine g_callV C mw_Gr_countWith [(0, x2)] 58 cl1 rfl (ok_Gr_countWith x2 (up2 d 0 0 s1) hx2 hr5_) cd_A58 (by decide) (nA (by decide)) (ix := 381) lk_1218 lk_1219 lk_1220 ⟨rfl, rfl, Nat.le_of_ble_eq_true rfl, Nat.le_of_ble_eq_true rfl⟩ rfl (rest := []) rfl (Nat.le_of_ble_eq_true rfl) ⟨Nat.zero_le _, Nat.zero_le _⟩ (by decide +kernel) (fun _ hc6_ => ?_)
    obtain ⟨he7_, hh8_⟩ := ck_some h
    subst he7_
    replace h := hh8_
    refine g_st (st2 := [(2, 62)]) rfl ?_
    refine g_iload_n C 1 rfl (by decide +kernel) ?_
    obtain ⟨hb9_, h⟩ := ck_some h
    refine g_iald C 62 hx1 rfl cd_A62 (nA (by decide)) hb9_ (by decide +kernel) (fun hc10_ => ?_)
    refine g_goto C 48 (off := 4) (by decide +kernel) (by decide) ?_
    obtain ⟨rfl, rfl⟩ := ret_inj h
    exact g_iret C hc10_ hlk hr (by decide +kernel)
  · replace h := ite_f hc2_ h
    refine g_iconst C (-1) (cK rfl) (by decide +kernel) ?_
    obtain ⟨rfl, rfl⟩ := ret_inj h
    exact g_iret C (cK rfl) hlk hr (by decide +kernel)
set_option maxHeartbeats 4000000 in
theorem ok_PB_written {l : Launch} {r : Int} {d' : Dt} (p1 p2 : Int) (d : Dt) (hp1 : c32 p1) (hp2 : c32 p2) (h : L_PB_written p1 p2 d = some (r, d')) : MC l y_PB_written prog_1_method_42_code 3 (some .int) rm_PB_written 0 [(2, 0), (0, p1), (0, p2)] d (some (0, r)) d' := by
  refine MC.of (by decide) (Nat.le_of_ble_eq_true rfl) ?_
  intro p e s m args below meth c D cA ad A C hlk hr
  replace C : Cx p s m args c prog_1_method_42_code 3 "PollBooks" D cA ad 0 A := C
  show G p l e rm_PB_written s m args below meth c 0 0 (MQ below (fun _ => QC D cA ad 0 A (some .int) (some (0, r)) d') args s 0 0 A) 3 D cA ad 0 A 0 [(2, 0), (0, p1), (0, p2)] [] d
  refine g_sub (lo2 := [(2, 0), (0, p1), (0, p2)]) (lsb_v (lsb_v (lsb_v lsb_e))) ?_
  unfold L_PB_written at h
  refine g_aload_n C 0 rfl (by decide +kernel) ?_
  refine g_iload_n C 1 rfl (by decide +kernel) ?_
  obtain ⟨r12_, d11_, hr13_, h⟩ := bd_some h
  refine g_callS C mw_PB_isCandidate [(0, p1)] (ok_PB_isCandidate p1 d hp1 hr13_) (ix := 309) lk_1066 lk_1067 ⟨rfl, rfl, Nat.le_of_ble_eq_true rfl, Nat.le_of_ble_eq_true rfl⟩ rfl (rest := [(2, 0)]) rfl (Nat.le_of_ble_eq_true rfl) ⟨Nat.zero_le _, Nat.zero_le _⟩ (by decide +kernel) (fun _ hc14_ => ?_)
  replace hc14_ : cb r12_ := hc14_
  refine g_st (st2 := [(0, r12_), (2, 0)]) rfl ?_
  refine g_if_eq C (off := 18) (tgt := 23) (c32_cb hc14_) (by decide +kernel) (by decide) (fun hc15_ => ?_) (fun hc15_ => ?_)
  · replace h := ite_t hc15_ h
    refine g_iconst C 1 (cK rfl) (by decide +kernel) ?_
    refine g_sub (lo2 := [(2, 0), (0, p1), (0, p2)]) (lsb_v (lsb_v (lsb_v lsb_e))) ?_
    exact ok_PB_written_b24 C hlk hr p1 p2 1 d11_ hp1 hp2 (Or.inr rfl) h
  · replace h := ite_f hc15_ h
    refine g_aload_n C 0 rfl (by decide +kernel) ?_
    refine g_getR C cl11 0 8 58 rfl cd_A0 ⟨by decide, rfl, by decide⟩ rfl rfl (nA (by decide)) (ix := 73) lk_475 (by decide +kernel) ?_
    refine g_iload_n C 2 rfl (by decide +kernel) ?_
    obtain ⟨r17_, d16_, hr18_, h⟩ := bd_some h
    refine g_callV C mw_Gr_isSetOfThem [(0, p2)] 58 cl1 rfl (ok_Gr_isSetOfThem p2 d11_ hp2 hr18_) cd_A58 (by decide) (nA (by decide)) (ix := 378) lk_1214 lk_1215 lk_1216 ⟨rfl, rfl, Nat.le_of_ble_eq_true rfl, Nat.le_of_ble_eq_true rfl⟩ rfl (rest := [(2, 0)]) rfl (Nat.le_of_ble_eq_true rfl) ⟨Nat.zero_le _, Nat.zero_le _⟩ (by decide +kernel) (fun _ hc19_ => ?_)
    replace hc19_ : cb r17_ := hc19_
    refine g_st (st2 := [(0, r17_), (2, 0)]) rfl ?_
    refine g_if_eq C (off := 7) (tgt := 23) (c32_cb hc19_) (by decide +kernel) (by decide) (fun hc20_ => ?_) (fun hc20_ => ?_)
    · replace h := ite_t hc20_ h
      refine g_iconst C 1 (cK rfl) (by decide +kernel) ?_
      refine g_sub (lo2 := [(2, 0), (0, p1), (0, p2)]) (lsb_v (lsb_v (lsb_v lsb_e))) ?_
      exact ok_PB_written_b24 C hlk hr p1 p2 1 d16_ hp1 hp2 (Or.inr rfl) h
    · replace h := ite_f hc20_ h
      refine g_iconst C 0 (cK rfl) (by decide +kernel) ?_
      refine g_goto C 24 (off := 4) (by decide +kernel) (by decide) ?_
      refine g_sub (lo2 := [(2, 0), (0, p1), (0, p2)]) (lsb_v (lsb_v (lsb_v lsb_e))) ?_
      exact ok_PB_written_b24 C hlk hr p1 p2 0 d16_ hp1 hp2 (Or.inl rfl) h
/-! PollBooks$Grounds.canAllBe(I)Z -/
def y_Gr_canAllBe : MethodName := ⟨"PollBooks$Grounds", "canAllBe", "(I)Z"⟩
def rm_Gr_canAllBe : Room := { frames := 0, cells := 0, slots := 0, locals := 0 }
theorem mw_Gr_canAllBe : MW y_Gr_canAllBe prog_3_method_12_code 3 (some .boolean) 1 := ⟨lk_1250, lk_11, by decide +kernel⟩
def L_Gr_canAllBe_b31 (x1 x2 : Int) (d : Dt) : Option ((Int × Int × Dt) ⊕ ((Dt) ⊕ (Dt))) :=
  some (Sum.inl (x1, (w32 (x2 + 1)), d))
def L_Gr_canAllBe_y2 (x1 x2 : Int) (d : Dt) : Option ((Int × Int × Dt) ⊕ ((Dt) ⊕ (Dt))) :=
  if x2 < (d 58 5) then if (iand (ishr x1 x2) 1) = 0 then L_Gr_canAllBe_b31 x1 x2 d else ck ((0 : Int) ≤ x2 ∧ x2 < 10) (if (iand (d 61 x2.toNat) x1) = 0 then L_Gr_canAllBe_b31 x1 x2 d else some (Sum.inr (Sum.inr (d)))) else some (Sum.inr (Sum.inl (d)))
def L_Gr_canAllBe_l2 (x1 x2 : Int) (d : Dt) : Option ((Dt) ⊕ (Dt)) := lpF (fun q : Int × Int × Dt => L_Gr_canAllBe_y2 q.1 q.2.1 q.2.2) FU (x1, x2, d)
def L_Gr_canAllBe (p1 : Int) (d : Dt) : Option (Int × Dt) :=
  lb (L_Gr_canAllBe_l2 p1 0 d) (fun q13_ => sm q13_ (fun q14_ => u0 q14_ (fun d9_ => some (1, d9_))) (fun q15_ => u0 q15_ (fun d11_ => some (0, d11_))))
set_option maxHeartbeats 4000000 in
theorem ok_Gr_canAllBe_b31 {p : Program} {l : Launch} {e : Env} {s : State} {m : MethodId} {args : Array Value} {below : List Frame} {meth : Method} {c : Code} {D : va_G} {cA : Nat → ClassId} {ad : Nat → Nat} {A : Nat → Prop} (C : Cx p s m args c prog_3_method_12_code 3 "PollBooks$Grounds" D cA ad 0 A) {Q : State → Prop} {o : (Int × Int × Dt) ⊕ ((Dt) ⊕ (Dt))} (x1 x2 : Int) (d : Dt) (hx1 : c32 x1) (hx2 : c32 x2) (h : L_Gr_canAllBe_b31 x1 x2 d = some o) (kb : ∀ (y0 y1 : Int) (e' : Dt), o = .inl (y0, y1, e') → c32 y0 → c32 y1 → G p l e rm_Gr_canAllBe s m args below meth c 0 0 Q 3 D cA ad 0 A 2 [(2, 58), (0, y0), (0, y1)] [] e') (k0 : ∀ (e' : Dt), o = .inr (Sum.inl (e')) → G p l e rm_Gr_canAllBe s m args below meth c 0 0 Q 3 D cA ad 0 A 37 [(9, 0), (9, 0), (9, 0)] [] e') (k1 : ∀ (e' : Dt), o = .inr (Sum.inr (e')) → G p l e rm_Gr_canAllBe s m args below meth c 0 0 Q 3 D cA ad 0 A 29 [(9, 0), (9, 0), (9, 0)] [] e') : G p l e rm_Gr_canAllBe s m args below meth c 0 0 Q 3 D cA ad 0 A 31 [(2, 58), (0, x1), (0, x2)] [] d := by
  unfold L_Gr_canAllBe_b31 at h
  refine s_iinc C 2 1 (lo' := [(2, 58), (0, x1), (0, (w32 (x2 + 1)))]) rfl (by decide) (s1k (s1n (by decide) s1z)) (by decide +kernel) ?_
  refine g_goto C 2 (off := (-32)) (by decide +kernel) (by decide) ?_
  refine g_sub (lo2 := [(2, 58), (0, x1), (0, (w32 (x2 + 1)))]) (lsb_v (lsb_v (lsb_v lsb_e))) ?_
  obtain rfl := Option.some.inj h
  exact kb x1 (w32 (x2 + 1)) d rfl hx1 (w32_c _)
set_option maxHeartbeats 4000000 in
theorem ok_Gr_canAllBe_y2 {p : Program} {l : Launch} {e : Env} {s : State} {m : MethodId} {args : Array Value} {below : List Frame} {meth : Method} {c : Code} {D : va_G} {cA : Nat → ClassId} {ad : Nat → Nat} {A : Nat → Prop} (C : Cx p s m args c prog_3_method_12_code 3 "PollBooks$Grounds" D cA ad 0 A) {Q : State → Prop} {o : (Int × Int × Dt) ⊕ ((Dt) ⊕ (Dt))} (x1 x2 : Int) (d : Dt) (hx1 : c32 x1) (hx2 : c32 x2) (h : L_Gr_canAllBe_y2 x1 x2 d = some o) (kb : ∀ (y0 y1 : Int) (e' : Dt), o = .inl (y0, y1, e') → c32 y0 → c32 y1 → G p l e rm_Gr_canAllBe s m args below meth c 0 0 Q 3 D cA ad 0 A 2 [(2, 58), (0, y0), (0, y1)] [] e') (k0 : ∀ (e' : Dt), o = .inr (Sum.inl (e')) → G p l e rm_Gr_canAllBe s m args below meth c 0 0 Q 3 D cA ad 0 A 37 [(9, 0), (9, 0), (9, 0)] [] e') (k1 : ∀ (e' : Dt), o = .inr (Sum.inr (e')) → G p l e rm_Gr_canAllBe s m args below meth c 0 0 Q 3 D cA ad 0 A 29 [(9, 0), (9, 0), (9, 0)] [] e') : G p l e rm_Gr_canAllBe s m args below meth c 0 0 Q 3 D cA ad 0 A 2 [(2, 58), (0, x1), (0, x2)] [] d := by
  unfold L_Gr_canAllBe_y2 at h
  refine g_iload_n C 2 rfl (by decide +kernel) ?_
  refine g_aload_n C 0 rfl (by decide +kernel) ?_
  refine g_getI C cl1 58 5 rfl cd_A58 ⟨by decide, rfl, by decide⟩ rfl (nA (by decide)) (ix := 36) lk_372 (by decide +kernel) (fun hc1_ => ?_)
  refine g_icmp_ge C (off := 30) (tgt := 37) hx2 hc1_ (by decide +kernel) (by decide) (fun hc2_ => ?_) (fun hc2_ => ?_)
  · replace h := ite_t hc2_ h
    refine g_iload_n C 1 rfl (by decide +kernel) ?_
    refine g_iload_n C 2 rfl (by decide +kernel) ?_
    refine g_ishr C (by decide +kernel) ?_
    refine g_iconst C 1 (cK rfl) (by decide +kernel) ?_
    refine g_iand C (by decide +kernel) ?_
    refine g_if_eq C (off := 16) (tgt := 31) (i_c _) (by decide +kernel) (by decide) (fun hc3_ => ?_) (fun hc3_ => ?_)
    · replace h := ite_t hc3_ h
      refine g_sub (lo2 := [(2, 58), (0, x1), (0, x2)]) (lsb_v (lsb_v (lsb_v lsb_e))) ?_
      exact ok_Gr_canAllBe_b31 C x1 x2 d hx1 hx2 h kb k0 k1
    · replace h := ite_f hc3_ h
      refine g_aload_n C 0 rfl (by decide +kernel) ?_
      refine g_getR C cl1 58 4 61 rfl cd_A58 ⟨by decide, rfl, by decide⟩ rfl rfl (nA (by decide)) (ix := 19) lk_371 (by decide +kernel) ?_
      refine g_iload_n C 2 rfl (by decide +kernel) ?_
      obtain ⟨hb4_, h⟩ := ck_some h
      refine g_iald C 61 hx2 rfl cd_A61 (nA (by decide)) hb4_ (by decide +kernel) (fun hc5_ => ?_)
      refine g_iload_n C 1 rfl (by decide +kernel) ?_
      refine g_iand C (by decide +kernel) ?_
      refine g_if_eq C (off := 5) (tgt := 31) (i_c _) (by decide +kernel) (by decide) (fun hc6_ => ?_) (fun hc6_ => ?_)
      · replace h := ite_t hc6_ h
        refine g_sub (lo2 := [(2, 58), (0, x1), (0, x2)]) (lsb_v (lsb_v (lsb_v lsb_e))) ?_
        exact ok_Gr_canAllBe_b31 C x1 x2 d hx1 hx2 h kb k0 k1
      · replace h := ite_f hc6_ h
        refine g_sub (lo2 := [(9, 0), (9, 0), (9, 0)]) (lsb_c (lsb_c (lsb_c lsb_e))) ?_
        obtain rfl := Option.some.inj h
        exact k1 d rfl 
  · replace h := ite_f hc2_ h
    refine g_sub (lo2 := [(9, 0), (9, 0), (9, 0)]) (lsb_c (lsb_c (lsb_c lsb_e))) ?_
    obtain rfl := Option.some.inj h
    exact k0 d rfl 
set_option maxHeartbeats 4000000 in
theorem ok_Gr_canAllBe_n2 {p : Program} {l : Launch} {e : Env} {s : State} {m : MethodId} {args : Array Value} {below : List Frame} {meth : Method} {c : Code} {D : va_G} {cA : Nat → ClassId} {ad : Nat → Nat} {A : Nat → Prop} (C : Cx p s m args c prog_3_method_12_code 3 "PollBooks$Grounds" D cA ad 0 A) {Q : State → Prop} {x : (Dt) ⊕ (Dt)} : ∀ (n : Nat) (x1 x2 : Int) (d : Dt), c32 x1 → c32 x2 → lpF (fun q : Int × Int × Dt => L_Gr_canAllBe_y2 q.1 q.2.1 q.2.2) n (x1, x2, d) = some x → (∀ (e' : Dt), x = (Sum.inl (e')) → G p l e rm_Gr_canAllBe s m args below meth c 0 0 Q 3 D cA ad 0 A 37 [(9, 0), (9, 0), (9, 0)] [] e') → (∀ (e' : Dt), x = (Sum.inr (e')) → G p l e rm_Gr_canAllBe s m args below meth c 0 0 Q 3 D cA ad 0 A 29 [(9, 0), (9, 0), (9, 0)] [] e') → G p l e rm_Gr_canAllBe s m args below meth c 0 0 Q 3 D cA ad 0 A 2 [(2, 58), (0, x1), (0, x2)] [] d := by
  intro n
  induction n with
  | zero => intro x1 x2 d g0 g1 h k0 k1; cases h
  | succ n ih =>
    intro x1 x2 d g0 g1 h k0 k1
    rcases lpF_some h with h | ⟨⟨v0_, v1_, e0_⟩, h1, h⟩
    · exact ok_Gr_canAllBe_y2 C x1 x2 d g0 g1 h (fun z0_ z1_ e1_ eq w0_ w1_ => by cases eq) (fun e1_ eq => k0 _ (by cases eq; rfl) ) (fun e1_ eq => k1 _ (by cases eq; rfl) )
    · exact ok_Gr_canAllBe_y2 C x1 x2 d g0 g1 h1 (fun z0_ z1_ e1_ eq w0_ w1_ => by cases eq; exact ih _ _ _ w0_ w1_ h k0 k1) (fun e1_ eq => by cases eq) (fun e1_ eq => by cases eq)
set_option maxHeartbeats 4000000 in
theorem ok_Gr_canAllBe_l2 {p : Program} {l : Launch} {e : Env} {s : State} {m : MethodId} {args : Array Value} {below : List Frame} {meth : Method} {c : Code} {D : va_G} {cA : Nat → ClassId} {ad : Nat → Nat} {A : Nat → Prop} (C : Cx p s m args c prog_3_method_12_code 3 "PollBooks$Grounds" D cA ad 0 A) {Q : State → Prop} {x : (Dt) ⊕ (Dt)} (x1 x2 : Int) (d : Dt) (hx1 : c32 x1) (hx2 : c32 x2) (h : L_Gr_canAllBe_l2 x1 x2 d = some x) (k0 : ∀ (e' : Dt), x = (Sum.inl (e')) → G p l e rm_Gr_canAllBe s m args below meth c 0 0 Q 3 D cA ad 0 A 37 [(9, 0), (9, 0), (9, 0)] [] e') (k1 : ∀ (e' : Dt), x = (Sum.inr (e')) → G p l e rm_Gr_canAllBe s m args below meth c 0 0 Q 3 D cA ad 0 A 29 [(9, 0), (9, 0), (9, 0)] [] e') : G p l e rm_Gr_canAllBe s m args below meth c 0 0 Q 3 D cA ad 0 A 2 [(2, 58), (0, x1), (0, x2)] [] d :=
  ok_Gr_canAllBe_n2 C FU x1 x2 d hx1 hx2 h k0 k1
set_option maxHeartbeats 4000000 in
theorem ok_Gr_canAllBe {l : Launch} {r : Int} {d' : Dt} (p1 : Int) (d : Dt) (hp1 : c32 p1) (h : L_Gr_canAllBe p1 d = some (r, d')) : MC l y_Gr_canAllBe prog_3_method_12_code 3 (some .boolean) rm_Gr_canAllBe 0 [(2, 58), (0, p1)] d (some (0, r)) d' := by
  refine MC.of (by decide) (Nat.le_of_ble_eq_true rfl) ?_
  intro p e s m args below meth c D cA ad A C hlk hr
  replace C : Cx p s m args c prog_3_method_12_code 3 "PollBooks$Grounds" D cA ad 0 A := C
  show G p l e rm_Gr_canAllBe s m args below meth c 0 0 (MQ below (fun _ => QC D cA ad 0 A (some .boolean) (some (0, r)) d') args s 0 0 A) 3 D cA ad 0 A 0 [(2, 58), (0, p1)] [] d
  refine g_sub (lo2 := [(2, 58), (0, p1), (9, 0)]) (lsb_v (lsb_v (lsb_n lsb_e))) ?_
  unfold L_Gr_canAllBe at h
  refine g_iconst C 0 (cK rfl) (by decide +kernel) ?_
  refine s_istore_n C 2 (lo' := [(2, 58), (0, p1), (0, 0)]) (by decide) (s1k (s1n (by decide) s1z)) (by decide +kernel) ?_
  refine g_sub (lo2 := [(2, 58), (0, p1), (0, 0)]) (lsb_v (lsb_v (lsb_v lsb_e))) ?_
  obtain ⟨x7_, hx8_, h⟩ := lb_some h
  refine ok_Gr_canAllBe_l2 C p1 0 d hp1 (c32_cb (Or.inl rfl)) hx8_ (fun d9_ eq10_ => ?_) (fun d11_ eq12_ => ?_)
  · subst eq10_
    replace h := sml_e h
    replace h := u0_e h
    refine g_iconst C 1 (cK rfl) (by decide +kernel) ?_
    obtain ⟨rfl, rfl⟩ := ret_inj h
    exact g_zret C (Or.inr rfl) hlk hr (by decide +kernel)
  · subst eq12_
    replace h := smr_e h
    replace h := u0_e h
    refine g_iconst C 0 (cK rfl) (by decide +kernel) ?_
    obtain ⟨rfl, rfl⟩ := ret_inj h
    exact g_zret C (Or.inl rfl) hlk hr (by decide +kernel)
/-! PollBooks$Grounds.seats(II)Z -/
def y_Gr_seats : MethodName := ⟨"PollBooks$Grounds", "seats", "(II)Z"⟩
def rm_Gr_seats : Room := { frames := 5, cells := 0, slots := 0, locals := 116 }
theorem mw_Gr_seats : MW y_Gr_seats prog_3_method_14_code 3 (some .boolean) 2 := ⟨lk_1254, lk_11, by decide +kernel⟩
def L_Gr_seats (p1 p2 : Int) (d : Dt) : Option (Int × Dt) :=
  bd (L_Gr_addGrounds p2 d) (fun r2_ d1_ => bd (L_PB_rankOf 62 4 p1 d1_) (fun r6_ d5_ => if r6_ < 2 then some (1, d5_) else some (0, d5_)))
set_option maxHeartbeats 4000000 in
theorem ok_Gr_seats {l : Launch} {r : Int} {d' : Dt} (p1 p2 : Int) (d : Dt) (hp1 : c32 p1) (hp2 : c32 p2) (h : L_Gr_seats p1 p2 d = some (r, d')) : MC l y_Gr_seats prog_3_method_14_code 3 (some .boolean) rm_Gr_seats 0 [(2, 58), (0, p1), (0, p2)] d (some (0, r)) d' := by
  refine MC.of (by decide) (Nat.le_of_ble_eq_true rfl) ?_
  intro p e s m args below meth c D cA ad A C hlk hr
  replace C : Cx p s m args c prog_3_method_14_code 3 "PollBooks$Grounds" D cA ad 0 A := C
  show G p l e rm_Gr_seats s m args below meth c 0 0 (MQ below (fun _ => QC D cA ad 0 A (some .boolean) (some (0, r)) d') args s 0 0 A) 3 D cA ad 0 A 0 [(2, 58), (0, p1), (0, p2)] [] d
  refine g_sub (lo2 := [(2, 58), (0, p1), (0, p2)]) (lsb_v (lsb_v (lsb_v lsb_e))) ?_
  unfold L_Gr_seats at h
  refine g_aload_n C 0 rfl (by decide +kernel) ?_
  refine g_iload_n C 2 rfl (by decide +kernel) ?_
  obtain ⟨r2_, d1_, hr3_, h⟩ := bd_some h
  refine g_callV C mw_Gr_addGrounds [(0, p2)] 58 cl1 rfl (ok_Gr_addGrounds p2 d hp2 hr3_) cd_A58 (by decide) (nA (by decide)) (ix := 43) lk_1227 lk_1229 lkp_43 ⟨rfl, rfl, Nat.le_of_ble_eq_true rfl, Nat.le_of_ble_eq_true rfl⟩ rfl (rest := []) rfl (Nat.le_of_ble_eq_true rfl) ⟨Nat.zero_le _, Nat.zero_le _⟩ (by decide +kernel) (fun _ hc4_ => ?_)
  refine g_st (st2 := []) rfl ?_
  refine g_aload_n C 0 rfl (by decide +kernel) ?_
  refine g_getR C cl1 58 6 62 rfl cd_A58 ⟨by decide, rfl, by decide⟩ rfl rfl (nA (by decide)) (ix := 22) lk_373 (by decide +kernel) ?_
  refine g_iload_n C 1 rfl (by decide +kernel) ?_
  obtain ⟨r6_, d5_, hr7_, h⟩ := bd_some h
  refine g_callSN C mw_PB_rankOf [(2, 62), (0, p1)] (ok_PB_rankOf 62 4 cd_A62 (by decide) p1 d1_ hp1 hr7_) (ix := 93) lk_1255 lk_1176 ⟨rfl, rfl, Nat.le_of_ble_eq_true rfl, Nat.le_of_ble_eq_true rfl⟩ rfl (rest := []) rfl (Nat.le_of_ble_eq_true rfl) ⟨Nat.zero_le _, Nat.zero_le _⟩ (by decide +kernel) (fun _ hc8_ => ?_)
  replace hc8_ : c32 r6_ := hc8_
  refine g_st (st2 := [(0, r6_)]) rfl ?_
  refine g_iconst C 2 (cK rfl) (by decide +kernel) ?_
  refine g_icmp_ge C (off := 7) (tgt := 21) hc8_ (cK rfl) (by decide +kernel) (by decide) (fun hc9_ => ?_) (fun hc9_ => ?_)
  · replace h := ite_t hc9_ h
    refine g_iconst C 1 (cK rfl) (by decide +kernel) ?_
    refine g_goto C 22 (off := 4) (by decide +kernel) (by decide) ?_
    obtain ⟨rfl, rfl⟩ := ret_inj h
    exact g_zret C (Or.inr rfl) hlk hr (by decide +kernel)
  · replace h := ite_f hc9_ h
    refine g_iconst C 0 (cK rfl) (by decide +kernel) ?_
    obtain ⟨rfl, rfl⟩ := ret_inj h
    exact g_zret C (Or.inl rfl) hlk hr (by decide +kernel)
/-! PollBooks$Grounds.search(I)Z -/
def y_Gr_search : MethodName := ⟨"PollBooks$Grounds", "search", "(I)Z"⟩
def rm_Gr_search : Room := { frames := 6, cells := 0, slots := 0, locals := 138 }
theorem mw_Gr_search : MW y_Gr_search prog_3_method_13_code 4 (some .boolean) 1 := ⟨lk_1245, lk_11, by decide +kernel⟩
def L_Gr_search_b85 (x1 x2 : Int) (d : Dt) : Option ((Int × Int × Dt) ⊕ ((Dt))) :=
  some (Sum.inl (x1, (w32 (x2 + 1)), d))
def L_Gr_search_b75 (x1 x2 : Int) (d : Dt) : Option ((Int × Int × Dt) ⊕ ((Dt))) :=
  L_Gr_search_b85 x1 x2 (up2 d 58 9 (w32 ((d 58 9) + 1)))
def L_Gr_search_y12 (x1 x2 : Int) (d : Dt) : Option ((Int × Int × Dt) ⊕ ((Dt))) :=
  if x2 < (ishl 1 (d 58 5)) then bd (L_In_bitCount x2 d) (fun r5_ d4_ => if (d4_ 58 8) < r5_ then L_Gr_search_b85 x1 x2 d4_ else bd (L_Gr_canAllBe x2 d4_) (fun r11_ d10_ => if r11_ = 0 then L_Gr_search_b85 x1 x2 d10_ else bd (L_Gr_seats x1 x2 d10_) (fun r16_ d15_ => if r16_ = 0 then L_Gr_search_b85 x1 x2 d15_ else if r5_ < (d15_ 58 8) then L_Gr_search_b75 x1 x2 (up2 (up2 (up2 d15_ 58 8 r5_) 58 9 0) 58 10 x2) else L_Gr_search_b75 x1 x2 d15_))) else some (Sum.inr (d))
def L_Gr_search_l12 (x1 x2 : Int) (d : Dt) : Option ((Dt)) := lpF (fun q : Int × Int × Dt => L_Gr_search_y12 q.1 q.2.1 q.2.2) FU (x1, x2, d)
def L_Gr_search (p1 : Int) (d : Dt) : Option (Int × Dt) :=
  bd (L_Gr_countWritten d) (fun r23_ d22_ => lb (L_Gr_search_l12 p1 0 (up2 d22_ 58 8 11)) (fun q32_ => u0 q32_ (fun d28_ => if 10 < (d28_ 58 8) then some (0, d28_) else some (1, d28_))))
set_option maxHeartbeats 4000000 in
theorem ok_Gr_search_b85 {p : Program} {l : Launch} {e : Env} {s : State} {m : MethodId} {args : Array Value} {below : List Frame} {meth : Method} {c : Code} {D : va_G} {cA : Nat → ClassId} {ad : Nat → Nat} {A : Nat → Prop} (C : Cx p s m args c prog_3_method_13_code 4 "PollBooks$Grounds" D cA ad 0 A) {Q : State → Prop} {o : (Int × Int × Dt) ⊕ ((Dt))} (x1 x2 : Int) (d : Dt) (hx1 : c32 x1) (hx2 : c32 x2) (h : L_Gr_search_b85 x1 x2 d = some o) (kb : ∀ (y0 y1 : Int) (e' : Dt), o = .inl (y0, y1, e') → c32 y0 → c32 y1 → G p l e rm_Gr_search s m args below meth c 0 0 Q 4 D cA ad 0 A 12 [(2, 58), (0, y0), (0, y1), (9, 0)] [] e') (k0 : ∀ (e' : Dt), o = .inr (e') → G p l e rm_Gr_search s m args below meth c 0 0 Q 4 D cA ad 0 A 91 [(2, 58), (9, 0), (9, 0), (9, 0)] [] e') : G p l e rm_Gr_search s m args below meth c 0 0 Q 4 D cA ad 0 A 85 [(2, 58), (0, x1), (0, x2), (9, 0)] [] d := by
  unfold L_Gr_search_b85 at h
  refine s_iinc C 2 1 (lo' := [(2, 58), (0, x1), (0, (w32 (x2 + 1))), (9, 0)]) rfl (by decide) (s1k (s1n (by decide) s1z)) (by decide +kernel) ?_
  refine g_goto C 12 (off := (-76)) (by decide +kernel) (by decide) ?_
  refine g_sub (lo2 := [(2, 58), (0, x1), (0, (w32 (x2 + 1))), (9, 0)]) (lsb_v (lsb_v (lsb_v (lsb_c lsb_e)))) ?_
  obtain rfl := Option.some.inj h
  exact kb x1 (w32 (x2 + 1)) d rfl hx1 (w32_c _)
set_option maxHeartbeats 4000000 in
theorem ok_Gr_search_b75 {p : Program} {l : Launch} {e : Env} {s : State} {m : MethodId} {args : Array Value} {below : List Frame} {meth : Method} {c : Code} {D : va_G} {cA : Nat → ClassId} {ad : Nat → Nat} {A : Nat → Prop} (C : Cx p s m args c prog_3_method_13_code 4 "PollBooks$Grounds" D cA ad 0 A) {Q : State → Prop} {o : (Int × Int × Dt) ⊕ ((Dt))} (x1 x2 : Int) (d : Dt) (hx1 : c32 x1) (hx2 : c32 x2) (h : L_Gr_search_b75 x1 x2 d = some o) (kb : ∀ (y0 y1 : Int) (e' : Dt), o = .inl (y0, y1, e') → c32 y0 → c32 y1 → G p l e rm_Gr_search s m args below meth c 0 0 Q 4 D cA ad 0 A 12 [(2, 58), (0, y0), (0, y1), (9, 0)] [] e') (k0 : ∀ (e' : Dt), o = .inr (e') → G p l e rm_Gr_search s m args below meth c 0 0 Q 4 D cA ad 0 A 91 [(2, 58), (9, 0), (9, 0), (9, 0)] [] e') : G p l e rm_Gr_search s m args below meth c 0 0 Q 4 D cA ad 0 A 75 [(2, 58), (0, x1), (0, x2), (9, 0)] [] d := by
  unfold L_Gr_search_b75 at h
  refine g_aload_n C 0 rfl (by decide +kernel) ?_
  refine g_dup C tg2 (by decide +kernel) ?_
  refine g_getI C cl1 58 9 rfl cd_A58 ⟨by decide, rfl, by decide⟩ rfl (nA (by decide)) (ix := 87) lk_376 (by decide +kernel) (fun hc1_ => ?_)
  refine g_iconst C 1 (cK rfl) (by decide +kernel) ?_
  refine g_iadd C (by decide +kernel) ?_
  refine g_putI C cl1 58 9 (w32_c _) rfl cd_A58 ⟨by decide, rfl, by decide⟩ rfl (nA (by decide)) (ix := 87) lk_376 rfl rfl (by decide +kernel) ?_
  refine g_sub (lo2 := [(2, 58), (0, x1), (0, x2), (9, 0)]) (lsb_v (lsb_v (lsb_v (lsb_c lsb_e)))) ?_
  exact ok_Gr_search_b85 C x1 x2 (up2 d 58 9 (w32 ((d 58 9) + 1))) hx1 hx2 h kb k0
set_option maxHeartbeats 4000000 in
theorem ok_Gr_search_y12 {p : Program} {l : Launch} {e : Env} {s : State} {m : MethodId} {args : Array Value} {below : List Frame} {meth : Method} {c : Code} {D : va_G} {cA : Nat → ClassId} {ad : Nat → Nat} {A : Nat → Prop} (C : Cx p s m args c prog_3_method_13_code 4 "PollBooks$Grounds" D cA ad 0 A) {Q : State → Prop} {o : (Int × Int × Dt) ⊕ ((Dt))} (x1 x2 : Int) (d : Dt) (hx1 : c32 x1) (hx2 : c32 x2) (h : L_Gr_search_y12 x1 x2 d = some o) (kb : ∀ (y0 y1 : Int) (e' : Dt), o = .inl (y0, y1, e') → c32 y0 → c32 y1 → G p l e rm_Gr_search s m args below meth c 0 0 Q 4 D cA ad 0 A 12 [(2, 58), (0, y0), (0, y1), (9, 0)] [] e') (k0 : ∀ (e' : Dt), o = .inr (e') → G p l e rm_Gr_search s m args below meth c 0 0 Q 4 D cA ad 0 A 91 [(2, 58), (9, 0), (9, 0), (9, 0)] [] e') : G p l e rm_Gr_search s m args below meth c 0 0 Q 4 D cA ad 0 A 12 [(2, 58), (0, x1), (0, x2), (9, 0)] [] d := by
  unfold L_Gr_search_y12 at h
  refine g_iload_n C 2 rfl (by decide +kernel) ?_
  refine g_iconst C 1 (cK rfl) (by decide +kernel) ?_
  refine g_aload_n C 0 rfl (by decide +kernel) ?_
  refine g_getI C cl1 58 5 rfl cd_A58 ⟨by decide, rfl, by decide⟩ rfl (nA (by decide)) (ix := 36) lk_372 (by decide +kernel) (fun hc2_ => ?_)
  refine g_ishl C (by decide +kernel) ?_
  refine g_icmp_ge C (off := 72) (tgt := 91) hx2 (i_c _) (by decide +kernel) (by decide) (fun hc3_ => ?_) (fun hc3_ => ?_)
  · replace h := ite_t hc3_ h
    refine g_iload_n C 2 rfl (by decide +kernel) ?_
    obtain ⟨r5_, d4_, hr6_, h⟩ := bd_some h
    refine g_callS C mw_In_bitCount [(0, x2)] (ok_In_bitCount x2 d hx2 hr6_) (ix := 74) lk_1246 lk_1137 ⟨rfl, rfl, Nat.le_of_ble_eq_true rfl, Nat.le_of_ble_eq_true rfl⟩ rfl (rest := []) rfl (Nat.le_of_ble_eq_true rfl) ⟨Nat.zero_le _, Nat.zero_le _⟩ (by decide +kernel) (fun _ hc7_ => ?_)
    replace hc7_ : c32 r5_ := hc7_
    refine g_st (st2 := [(0, r5_)]) rfl ?_
    refine s_istore_n C 3 (lo' := [(2, 58), (0, x1), (0, x2), (0, r5_)]) (by decide) (s1k (s1k (s1n (by decide) s1z))) (by decide +kernel) ?_
    refine g_iload_n C 3 rfl (by decide +kernel) ?_
    refine g_aload_n C 0 rfl (by decide +kernel) ?_
    refine g_getI C cl1 58 8 rfl cd_A58 ⟨by decide, rfl, by decide⟩ rfl (nA (by decide)) (ix := 71) lk_375 (by decide +kernel) (fun hc8_ => ?_)
    refine g_icmp_gt C (off := 53) (tgt := 85) hc7_ hc8_ (by decide +kernel) (by decide) (fun hc9_ => ?_) (fun hc9_ => ?_)
    · replace h := ite_t hc9_ h
      refine g_sub (lo2 := [(2, 58), (0, x1), (0, x2), (9, 0)]) (lsb_v (lsb_v (lsb_v (lsb_c lsb_e)))) ?_
      exact ok_Gr_search_b85 C x1 x2 d4_ hx1 hx2 h kb k0
    · replace h := ite_f hc9_ h
      refine g_aload_n C 0 rfl (by decide +kernel) ?_
      refine g_iload_n C 2 rfl (by decide +kernel) ?_
      obtain ⟨r11_, d10_, hr12_, h⟩ := bd_some h
      refine g_callV C mw_Gr_canAllBe [(0, x2)] 58 cl1 rfl (ok_Gr_canAllBe x2 d4_ hx2 hr12_) cd_A58 (by decide) (nA (by decide)) (ix := 79) lk_1247 lk_1249 lkp_44 ⟨rfl, rfl, Nat.le_of_ble_eq_true rfl, Nat.le_of_ble_eq_true rfl⟩ rfl (rest := []) rfl (Nat.le_of_ble_eq_true rfl) ⟨Nat.zero_le _, Nat.zero_le _⟩ (by decide +kernel) (fun _ hc13_ => ?_)
      replace hc13_ : cb r11_ := hc13_
      refine g_st (st2 := [(0, r11_)]) rfl ?_
      refine g_if_eq C (off := 45) (tgt := 85) (c32_cb hc13_) (by decide +kernel) (by decide) (fun hc14_ => ?_) (fun hc14_ => ?_)
      · replace h := ite_t hc14_ h
        refine g_sub (lo2 := [(2, 58), (0, x1), (0, x2), (9, 0)]) (lsb_v (lsb_v (lsb_v (lsb_c lsb_e)))) ?_
        exact ok_Gr_search_b85 C x1 x2 d10_ hx1 hx2 h kb k0
      · replace h := ite_f hc14_ h
        refine g_aload_n C 0 rfl (by decide +kernel) ?_
        refine g_iload_n C 1 rfl (by decide +kernel) ?_
        refine g_iload_n C 2 rfl (by decide +kernel) ?_
        obtain ⟨r16_, d15_, hr17_, h⟩ := bd_some h
        refine g_callV C mw_Gr_seats [(0, x1), (0, x2)] 58 cl1 rfl (ok_Gr_seats x1 x2 d10_ hx1 hx2 hr17_) cd_A58 (by decide) (nA (by decide)) (ix := 83) lk_1251 lk_1253 lkp_45 ⟨rfl, rfl, Nat.le_of_ble_eq_true rfl, Nat.le_of_ble_eq_true rfl⟩ rfl (rest := []) rfl (Nat.le_of_ble_eq_true rfl) ⟨Nat.zero_le _, Nat.zero_le _⟩ (by decide +kernel) (fun _ hc18_ => ?_)
        replace hc18_ : cb r16_ := hc18_
        refine g_st (st2 := [(0, r16_)]) rfl ?_
        refine g_if_eq C (off := 36) (tgt := 85) (c32_cb hc18_) (by decide +kernel) (by decide) (fun hc19_ => ?_) (fun hc19_ => ?_)
        · replace h := ite_t hc19_ h
          refine g_sub (lo2 := [(2, 58), (0, x1), (0, x2), (9, 0)]) (lsb_v (lsb_v (lsb_v (lsb_c lsb_e)))) ?_
          exact ok_Gr_search_b85 C x1 x2 d15_ hx1 hx2 h kb k0
        · replace h := ite_f hc19_ h
          refine g_iload_n C 3 rfl (by decide +kernel) ?_
          refine g_aload_n C 0 rfl (by decide +kernel) ?_
          refine g_getI C cl1 58 8 rfl cd_A58 ⟨by decide, rfl, by decide⟩ rfl (nA (by decide)) (ix := 71) lk_375 (by decide +kernel) (fun hc20_ => ?_)
          refine g_icmp_ge C (off := 18) (tgt := 75) hc7_ hc20_ (by decide +kernel) (by decide) (fun hc21_ => ?_) (fun hc21_ => ?_)
          · replace h := ite_t hc21_ h
            refine g_aload_n C 0 rfl (by decide +kernel) ?_
            refine g_iload_n C 3 rfl (by decide +kernel) ?_
            refine g_putI C cl1 58 8 hc7_ rfl cd_A58 ⟨by decide, rfl, by decide⟩ rfl (nA (by decide)) (ix := 71) lk_375 rfl rfl (by decide +kernel) ?_
            refine g_aload_n C 0 rfl (by decide +kernel) ?_
            refine g_iconst C 0 (cK rfl) (by decide +kernel) ?_
            refine g_putI C cl1 58 9 (c32_cb (Or.inl rfl)) rfl cd_A58 ⟨by decide, rfl, by decide⟩ rfl (nA (by decide)) (ix := 87) lk_376 rfl rfl (by decide +kernel) ?_
            refine g_aload_n C 0 rfl (by decide +kernel) ?_
            refine g_iload_n C 2 rfl (by decide +kernel) ?_
            refine g_putI C cl1 58 10 hx2 rfl cd_A58 ⟨by decide, rfl, by decide⟩ rfl (nA (by decide)) (ix := 90) lk_377 rfl rfl (by decide +kernel) ?_
            refine g_sub (lo2 := [(2, 58), (0, x1), (0, x2), (9, 0)]) (lsb_v (lsb_v (lsb_v (lsb_c lsb_e)))) ?_
            exact ok_Gr_search_b75 C x1 x2 (up2 (up2 (up2 d15_ 58 8 r5_) 58 9 0) 58 10 x2) hx1 hx2 h kb k0
          · replace h := ite_f hc21_ h
            refine g_sub (lo2 := [(2, 58), (0, x1), (0, x2), (9, 0)]) (lsb_v (lsb_v (lsb_v (lsb_c lsb_e)))) ?_
            exact ok_Gr_search_b75 C x1 x2 d15_ hx1 hx2 h kb k0
  · replace h := ite_f hc3_ h
    refine g_sub (lo2 := [(2, 58), (9, 0), (9, 0), (9, 0)]) (lsb_v (lsb_c (lsb_c (lsb_c lsb_e)))) ?_
    obtain rfl := Option.some.inj h
    exact k0 d rfl 
set_option maxHeartbeats 4000000 in
theorem ok_Gr_search_n12 {p : Program} {l : Launch} {e : Env} {s : State} {m : MethodId} {args : Array Value} {below : List Frame} {meth : Method} {c : Code} {D : va_G} {cA : Nat → ClassId} {ad : Nat → Nat} {A : Nat → Prop} (C : Cx p s m args c prog_3_method_13_code 4 "PollBooks$Grounds" D cA ad 0 A) {Q : State → Prop} {x : (Dt)} : ∀ (n : Nat) (x1 x2 : Int) (d : Dt), c32 x1 → c32 x2 → lpF (fun q : Int × Int × Dt => L_Gr_search_y12 q.1 q.2.1 q.2.2) n (x1, x2, d) = some x → (∀ (e' : Dt), x = (e') → G p l e rm_Gr_search s m args below meth c 0 0 Q 4 D cA ad 0 A 91 [(2, 58), (9, 0), (9, 0), (9, 0)] [] e') → G p l e rm_Gr_search s m args below meth c 0 0 Q 4 D cA ad 0 A 12 [(2, 58), (0, x1), (0, x2), (9, 0)] [] d := by
  intro n
  induction n with
  | zero => intro x1 x2 d g0 g1 h k0; cases h
  | succ n ih =>
    intro x1 x2 d g0 g1 h k0
    rcases lpF_some h with h | ⟨⟨v0_, v1_, e0_⟩, h1, h⟩
    · exact ok_Gr_search_y12 C x1 x2 d g0 g1 h (fun z0_ z1_ e1_ eq w0_ w1_ => by cases eq) (fun e1_ eq => k0 _ (by cases eq; rfl) )
    · exact ok_Gr_search_y12 C x1 x2 d g0 g1 h1 (fun z0_ z1_ e1_ eq w0_ w1_ => by cases eq; exact ih _ _ _ w0_ w1_ h k0) (fun e1_ eq => by cases eq)
set_option maxHeartbeats 4000000 in
theorem ok_Gr_search_l12 {p : Program} {l : Launch} {e : Env} {s : State} {m : MethodId} {args : Array Value} {below : List Frame} {meth : Method} {c : Code} {D : va_G} {cA : Nat → ClassId} {ad : Nat → Nat} {A : Nat → Prop} (C : Cx p s m args c prog_3_method_13_code 4 "PollBooks$Grounds" D cA ad 0 A) {Q : State → Prop} {x : (Dt)} (x1 x2 : Int) (d : Dt) (hx1 : c32 x1) (hx2 : c32 x2) (h : L_Gr_search_l12 x1 x2 d = some x) (k0 : ∀ (e' : Dt), x = (e') → G p l e rm_Gr_search s m args below meth c 0 0 Q 4 D cA ad 0 A 91 [(2, 58), (9, 0), (9, 0), (9, 0)] [] e') : G p l e rm_Gr_search s m args below meth c 0 0 Q 4 D cA ad 0 A 12 [(2, 58), (0, x1), (0, x2), (9, 0)] [] d :=
  ok_Gr_search_n12 C FU x1 x2 d hx1 hx2 h k0
set_option maxHeartbeats 4000000 in
theorem ok_Gr_search {l : Launch} {r : Int} {d' : Dt} (p1 : Int) (d : Dt) (hp1 : c32 p1) (h : L_Gr_search p1 d = some (r, d')) : MC l y_Gr_search prog_3_method_13_code 4 (some .boolean) rm_Gr_search 0 [(2, 58), (0, p1)] d (some (0, r)) d' := by
  refine MC.of (by decide) (Nat.le_of_ble_eq_true rfl) ?_
  intro p e s m args below meth c D cA ad A C hlk hr
  replace C : Cx p s m args c prog_3_method_13_code 4 "PollBooks$Grounds" D cA ad 0 A := C
  show G p l e rm_Gr_search s m args below meth c 0 0 (MQ below (fun _ => QC D cA ad 0 A (some .boolean) (some (0, r)) d') args s 0 0 A) 4 D cA ad 0 A 0 [(2, 58), (0, p1)] [] d
  refine g_sub (lo2 := [(2, 58), (0, p1), (9, 0), (9, 0)]) (lsb_v (lsb_v (lsb_n (lsb_n lsb_e)))) ?_
  unfold L_Gr_search at h
  refine g_aload_n C 0 rfl (by decide +kernel) ?_
  obtain ⟨r23_, d22_, hr24_, h⟩ := bd_some h
  refine g_callV C mw_Gr_countWritten [] 58 cl1 rfl (ok_Gr_countWritten  d  hr24_) cd_A58 (by decide) (nA (by decide)) (ix := 40) lk_1222 lk_1224 lkp_42 ⟨rfl, rfl, Nat.le_of_ble_eq_true rfl, Nat.le_of_ble_eq_true rfl⟩ rfl (rest := []) rfl (Nat.le_of_ble_eq_true rfl) ⟨Nat.zero_le _, Nat.zero_le _⟩ (by decide +kernel) (fun _ hc25_ => ?_)
  refine g_st (st2 := []) rfl ?_
  refine g_aload_n C 0 rfl (by decide +kernel) ?_
  refine g_bipush C 11 (by decide) (by decide +kernel) ?_
  refine g_putI C cl1 58 8 (cK rfl) rfl cd_A58 ⟨by decide, rfl, by decide⟩ rfl (nA (by decide)) (ix := 71) lk_375 rfl rfl (by decide +kernel) ?_
  refine g_iconst C 0 (cK rfl) (by decide +kernel) ?_
  refine s_istore_n C 2 (lo' := [(2, 58), (0, p1), (0, 0), (9, 0)]) (by decide) (s1k (s1n (by decide) s1z)) (by decide +kernel) ?_
  refine g_sub (lo2 := [(2, 58), (0, p1), (0, 0), (9, 0)]) (lsb_v (lsb_v (lsb_v (lsb_c lsb_e)))) ?_
  obtain ⟨x26_, hx27_, h⟩ := lb_some h
  refine ok_Gr_search_l12 C p1 0 (up2 d22_ 58 8 11) hp1 (c32_cb (Or.inl rfl)) hx27_ (fun d28_ eq29_ => ?_)
  replace eq29_ := eq29_.symm
  subst eq29_
  replace h := u0_e h
  refine g_aload_n C 0 rfl (by decide +kernel) ?_
  refine g_getI C cl1 58 8 rfl cd_A58 ⟨by decide, rfl, by decide⟩ rfl (nA (by decide)) (ix := 71) lk_375 (by decide +kernel) (fun hc30_ => ?_)
  refine g_bipush C 10 (by decide) (by decide +kernel) ?_
  refine g_icmp_gt C (off := 7) (tgt := 104) hc30_ (cK rfl) (by decide +kernel) (by decide) (fun hc31_ => ?_) (fun hc31_ => ?_)
  · replace h := ite_t hc31_ h
    refine g_iconst C 0 (cK rfl) (by decide +kernel) ?_
    obtain ⟨rfl, rfl⟩ := ret_inj h
    exact g_zret C (Or.inl rfl) hlk hr (by decide +kernel)
  · replace h := ite_f hc31_ h
    refine g_iconst C 1 (cK rfl) (by decide +kernel) ?_
    refine g_goto C 105 (off := 4) (by decide +kernel) (by decide) ?_
    obtain ⟨rfl, rfl⟩ := ret_inj h
    exact g_zret C (Or.inr rfl) hlk hr (by decide +kernel)
/-! PollBooks$Grounds.fewest()I -/
def y_Gr_fewest : MethodName := ⟨"PollBooks$Grounds", "fewest", "()I"⟩
def rm_Gr_fewest : Room := { frames := 0, cells := 0, slots := 0, locals := 0 }
theorem mw_Gr_fewest : MW y_Gr_fewest prog_3_method_15_code 1 (some .int) 0 := ⟨lk_1259, lk_11, by decide +kernel⟩
def L_Gr_fewest (d : Dt) : Option (Int × Dt) :=
  some ((d 58 8), d)
set_option maxHeartbeats 4000000 in
theorem ok_Gr_fewest {l : Launch} {r : Int} {d' : Dt} (d : Dt)  (h : L_Gr_fewest d = some (r, d')) : MC l y_Gr_fewest prog_3_method_15_code 1 (some .int) rm_Gr_fewest 0 [(2, 58)] d (some (0, r)) d' := by
  refine MC.of (by decide) (Nat.le_of_ble_eq_true rfl) ?_
  intro p e s m args below meth c D cA ad A C hlk hr
  replace C : Cx p s m args c prog_3_method_15_code 1 "PollBooks$Grounds" D cA ad 0 A := C
  show G p l e rm_Gr_fewest s m args below meth c 0 0 (MQ below (fun _ => QC D cA ad 0 A (some .int) (some (0, r)) d') args s 0 0 A) 1 D cA ad 0 A 0 [(2, 58)] [] d
  refine g_sub (lo2 := [(2, 58)]) (lsb_v lsb_e) ?_
  unfold L_Gr_fewest at h
  refine g_aload_n C 0 rfl (by decide +kernel) ?_
  refine g_getI C cl1 58 8 rfl cd_A58 ⟨by decide, rfl, by decide⟩ rfl (nA (by decide)) (ix := 71) lk_375 (by decide +kernel) (fun hc1_ => ?_)
  obtain ⟨rfl, rfl⟩ := ret_inj h
  exact g_iret C hc1_ hlk hr (by decide +kernel)
/-! PollBooks$Grounds.rivals()I -/
def y_Gr_rivals : MethodName := ⟨"PollBooks$Grounds", "rivals", "()I"⟩
def rm_Gr_rivals : Room := { frames := 0, cells := 0, slots := 0, locals := 0 }
theorem mw_Gr_rivals : MW y_Gr_rivals prog_3_method_16_code 1 (some .int) 0 := ⟨lk_1263, lk_11, by decide +kernel⟩
def L_Gr_rivals (d : Dt) : Option (Int × Dt) :=
  some ((d 58 9), d)
set_option maxHeartbeats 4000000 in
theorem ok_Gr_rivals {l : Launch} {r : Int} {d' : Dt} (d : Dt)  (h : L_Gr_rivals d = some (r, d')) : MC l y_Gr_rivals prog_3_method_16_code 1 (some .int) rm_Gr_rivals 0 [(2, 58)] d (some (0, r)) d' := by
  refine MC.of (by decide) (Nat.le_of_ble_eq_true rfl) ?_
  intro p e s m args below meth c D cA ad A C hlk hr
  replace C : Cx p s m args c prog_3_method_16_code 1 "PollBooks$Grounds" D cA ad 0 A := C
  show G p l e rm_Gr_rivals s m args below meth c 0 0 (MQ below (fun _ => QC D cA ad 0 A (some .int) (some (0, r)) d') args s 0 0 A) 1 D cA ad 0 A 0 [(2, 58)] [] d
  refine g_sub (lo2 := [(2, 58)]) (lsb_v lsb_e) ?_
  unfold L_Gr_rivals at h
  refine g_aload_n C 0 rfl (by decide +kernel) ?_
  refine g_getI C cl1 58 9 rfl cd_A58 ⟨by decide, rfl, by decide⟩ rfl (nA (by decide)) (ix := 87) lk_376 (by decide +kernel) (fun hc1_ => ?_)
  obtain ⟨rfl, rfl⟩ := ret_inj h
  exact g_iret C hc1_ hlk hr (by decide +kernel)
/-! PollBooks$Grounds.first()I -/
def y_Gr_first : MethodName := ⟨"PollBooks$Grounds", "first", "()I"⟩
def rm_Gr_first : Room := { frames := 0, cells := 0, slots := 0, locals := 0 }
theorem mw_Gr_first : MW y_Gr_first prog_3_method_17_code 1 (some .int) 0 := ⟨lk_1267, lk_11, by decide +kernel⟩
def L_Gr_first (d : Dt) : Option (Int × Dt) :=
  some ((d 58 10), d)
set_option maxHeartbeats 4000000 in
theorem ok_Gr_first {l : Launch} {r : Int} {d' : Dt} (d : Dt)  (h : L_Gr_first d = some (r, d')) : MC l y_Gr_first prog_3_method_17_code 1 (some .int) rm_Gr_first 0 [(2, 58)] d (some (0, r)) d' := by
  refine MC.of (by decide) (Nat.le_of_ble_eq_true rfl) ?_
  intro p e s m args below meth c D cA ad A C hlk hr
  replace C : Cx p s m args c prog_3_method_17_code 1 "PollBooks$Grounds" D cA ad 0 A := C
  show G p l e rm_Gr_first s m args below meth c 0 0 (MQ below (fun _ => QC D cA ad 0 A (some .int) (some (0, r)) d') args s 0 0 A) 1 D cA ad 0 A 0 [(2, 58)] [] d
  refine g_sub (lo2 := [(2, 58)]) (lsb_v lsb_e) ?_
  unfold L_Gr_first at h
  refine g_aload_n C 0 rfl (by decide +kernel) ?_
  refine g_getI C cl1 58 10 rfl cd_A58 ⟨by decide, rfl, by decide⟩ rfl (nA (by decide)) (ix := 90) lk_377 (by decide +kernel) (fun hc1_ => ?_)
  obtain ⟨rfl, rfl⟩ := ret_inj h
  exact g_iret C hc1_ hlk hr (by decide +kernel)
/-! PollBooks.turns(II)I -/
def y_PB_turns : MethodName := ⟨"PollBooks", "turns", "(II)I"⟩
def rm_PB_turns : Room := { frames := 7, cells := 0, slots := 0, locals := 161 }
theorem mw_PB_turns : MW y_PB_turns prog_1_method_43_code 5 (some .int) 2 := ⟨lk_1241, lk_1, by decide +kernel⟩
def L_PB_turns_b67 (x2 s1 : Int) (d : Dt) : Option (Int × Dt) :=
  if s1 = 0 then if x2 = 0 then bd (L_Gr_fewest (up2 d 0 0 s1)) (fun r5_ d4_ => some (r5_, d4_)) else if x2 = 1 then bd (L_Gr_rivals (up2 d 0 0 s1)) (fun r10_ d9_ => some (r10_, d9_)) else bd (L_Gr_first (up2 d 0 0 s1)) (fun r14_ d13_ => some (r14_, d13_)) else some ((-1), (up2 d 0 0 s1))
def L_PB_turns_b45 (x2 x3 s0 : Int) (d : Dt) : Option (Int × Dt) :=
  if x3 = 0 then L_PB_turns_b67 x2 1 d else if s0 = 0 then L_PB_turns_b67 x2 6 d else L_PB_turns_b67 x2 0 d
def L_PB_turns_b24 (x1 x2 s0 : Int) (d : Dt) : Option (Int × Dt) :=
  if s0 = 0 then L_PB_turns_b45 x2 s0 0 d else bd (L_Gr_search x1 d) (fun r21_ d20_ => if r21_ = 0 then L_PB_turns_b45 x2 s0 0 d20_ else L_PB_turns_b45 x2 s0 1 d20_)
def L_PB_turns (p1 p2 : Int) (d : Dt) : Option (Int × Dt) :=
  bd (L_PB_isCandidate p1 d) (fun r26_ d25_ => if r26_ = 0 then L_PB_turns_b24 p1 p2 0 d25_ else bd (L_PB_within p2 0 2 d25_) (fun r31_ d30_ => if r31_ = 0 then L_PB_turns_b24 p1 p2 0 d30_ else L_PB_turns_b24 p1 p2 1 d30_))
set_option maxHeartbeats 4000000 in
theorem ok_PB_turns_b67 {p : Program} {l : Launch} {e : Env} {s : State} {m : MethodId} {args : Array Value} {below : List Frame} {meth : Method} {c : Code} {D : va_G} {cA : Nat → ClassId} {ad : Nat → Nat} {A : Nat → Prop} (C : Cx p s m args c prog_1_method_43_code 5 "PollBooks" D cA ad 0 A) (hlk : meth.locks = false) (hr : meth.sig.returnType = (some .int)) {r : Int} {d' : Dt} (x2 s1 : Int) (d : Dt) (hx2 : c32 x2) (hs1 : c32 s1) (h : L_PB_turns_b67 x2 s1 d = some (r, d')) : G p l e rm_PB_turns s m args below meth c 0 0 (MQ below (fun _ => QC D cA ad 0 A (some .int) (some (0, r)) d') args s 0 0 A) 5 D cA ad 0 A 67 [(2, 0), (9, 0), (0, x2), (9, 0), (9, 0)] [(0, s1), (2, 0)] d := by
  unfold L_PB_turns_b67 at h
  refine g_putI C cl11 0 0 hs1 rfl cd_A0 ⟨by decide, rfl, by decide⟩ rfl (nA (by decide)) (ix := 9) lk_467 rfl rfl (by decide +kernel) ?_
  refine g_aload_n C 0 rfl (by decide +kernel) ?_
  refine g_getI C cl11 0 0 rfl cd_A0 ⟨by decide, rfl, by decide⟩ rfl (nA (by decide)) (ix := 9) lk_467 (by decide +kernel) (fun hc1_ => ?_)
  refine g_val (y := s1) rfl ?_
  replace hc1_ : c32 s1 := hc1_
  refine g_if_eq C (off := 5) (tgt := 79) hc1_ (by decide +kernel) (by decide) (fun hc2_ => ?_) (fun hc2_ => ?_)
  · replace h := ite_t hc2_ h
    refine g_iload_n C 2 rfl (by decide +kernel) ?_
    refine g_if_ne C (off := 13) (tgt := 93) hx2 (by decide +kernel) (by decide) (fun hc3_ => ?_) (fun hc3_ => ?_)
    · replace h := ite_t hc3_ h
      refine g_aload_n C 0 rfl (by decide +kernel) ?_
      refine g_getR C cl11 0 8 58 rfl cd_A0 ⟨by decide, rfl, by decide⟩ rfl rfl (nA (by decide)) (ix := 73) lk_475 (by decide +kernel) ?_
      obtain ⟨r5_, d4_, hr6_, h⟩ := bd_some h
      refine g_callV C mw_Gr_fewest [] 58 cl1 rfl (ok_Gr_fewest  (up2 d 0 0 s1)  hr6_) cd_A58 (by decide) (nA (by decide)) (ix := 388) lk_1256 lk_1257 lk_1258 ⟨rfl, rfl, Nat.le_of_ble_eq_true rfl, Nat.le_of_ble_eq_true rfl⟩ rfl (rest := []) rfl (Nat.le_of_ble_eq_true rfl) ⟨Nat.zero_le _, Nat.zero_le _⟩ (by decide +kernel) (fun _ hc7_ => ?_)
      replace hc7_ : c32 r5_ := hc7_
      refine g_st (st2 := [(0, r5_)]) rfl ?_
      refine g_goto C 115 (off := 25) (by decide +kernel) (by decide) ?_
      obtain ⟨rfl, rfl⟩ := ret_inj h
      exact g_iret C hc7_ hlk hr (by decide +kernel)
    · replace h := ite_f hc3_ h
      refine g_iload_n C 2 rfl (by decide +kernel) ?_
      refine g_iconst C 1 (cK rfl) (by decide +kernel) ?_
      refine g_icmp_ne C (off := 13) (tgt := 108) hx2 (c32_cb (Or.inr rfl)) (by decide +kernel) (by decide) (fun hc8_ => ?_) (fun hc8_ => ?_)
      · replace h := ite_t hc8_ h
        refine g_aload_n C 0 rfl (by decide +kernel) ?_
        refine g_getR C cl11 0 8 58 rfl cd_A0 ⟨by decide, rfl, by decide⟩ rfl rfl (nA (by decide)) (ix := 73) lk_475 (by decide +kernel) ?_
        obtain ⟨r10_, d9_, hr11_, h⟩ := bd_some h
        refine g_callV C mw_Gr_rivals [] 58 cl1 rfl (ok_Gr_rivals  (up2 d 0 0 s1)  hr11_) cd_A58 (by decide) (nA (by decide)) (ix := 391) lk_1260 lk_1261 lk_1262 ⟨rfl, rfl, Nat.le_of_ble_eq_true rfl, Nat.le_of_ble_eq_true rfl⟩ rfl (rest := []) rfl (Nat.le_of_ble_eq_true rfl) ⟨Nat.zero_le _, Nat.zero_le _⟩ (by decide +kernel) (fun _ hc12_ => ?_)
        replace hc12_ : c32 r10_ := hc12_
        refine g_st (st2 := [(0, r10_)]) rfl ?_
        refine g_goto C 115 (off := 10) (by decide +kernel) (by decide) ?_
        obtain ⟨rfl, rfl⟩ := ret_inj h
        exact g_iret C hc12_ hlk hr (by decide +kernel)
      · replace h := ite_f hc8_ h
        refine g_aload_n C 0 rfl (by decide +kernel) ?_
        refine g_getR C cl11 0 8 58 rfl cd_A0 ⟨by decide, rfl, by decide⟩ rfl rfl (nA (by decide)) (ix := 73) lk_475 (by decide +kernel) ?_
        obtain ⟨r14_, d13_, hr15_, h⟩ := bd_some h
        refine g_callV C mw_Gr_first [] 58 cl1 rfl (ok_Gr_first  (up2 d 0 0 s1)  hr15_) cd_A58 (by decide) (nA (by decide)) (ix := 394) lk_1264 lk_1265 lk_1266 ⟨rfl, rfl, Nat.le_of_ble_eq_true rfl, Nat.le_of_ble_eq_true rfl⟩ rfl (rest := []) rfl (Nat.le_of_ble_eq_true rfl) ⟨Nat.zero_le _, Nat.zero_le _⟩ (by decide +kernel) (fun _ hc16_ => ?_)
        replace hc16_ : c32 r14_ := hc16_
        refine g_st (st2 := [(0, r14_)]) rfl ?_
        obtain ⟨rfl, rfl⟩ := ret_inj h
        exact g_iret C hc16_ hlk hr (by decide +kernel)
  · replace h := ite_f hc2_ h
    refine g_iconst C (-1) (cK rfl) (by decide +kernel) ?_
    obtain ⟨rfl, rfl⟩ := ret_inj h
    exact g_iret C (cK rfl) hlk hr (by decide +kernel)
set_option maxHeartbeats 4000000 in
theorem ok_PB_turns_b45 {p : Program} {l : Launch} {e : Env} {s : State} {m : MethodId} {args : Array Value} {below : List Frame} {meth : Method} {c : Code} {D : va_G} {cA : Nat → ClassId} {ad : Nat → Nat} {A : Nat → Prop} (C : Cx p s m args c prog_1_method_43_code 5 "PollBooks" D cA ad 0 A) (hlk : meth.locks = false) (hr : meth.sig.returnType = (some .int)) {r : Int} {d' : Dt} (x2 x3 s0 : Int) (d : Dt) (hx2 : c32 x2) (hx3 : cb x3) (hs0 : cb s0) (h : L_PB_turns_b45 x2 x3 s0 d = some (r, d')) : G p l e rm_PB_turns s m args below meth c 0 0 (MQ below (fun _ => QC D cA ad 0 A (some .int) (some (0, r)) d') args s 0 0 A) 5 D cA ad 0 A 45 [(2, 0), (9, 0), (0, x2), (0, x3), (9, 0)] [(0, s0)] d := by
  unfold L_PB_turns_b45 at h
  refine s_istore C 4 (lo' := [(2, 0), (9, 0), (0, x2), (0, x3), (0, s0)]) (by decide) (s1k (s1k (s1k (s1n (by decide) s1z)))) (by decide +kernel) ?_
  refine g_aload_n C 0 rfl (by decide +kernel) ?_
  refine g_iload_n C 3 rfl (by decide +kernel) ?_
  refine g_if_ne C (off := 7) (tgt := 56) (c32_cb hx3) (by decide +kernel) (by decide) (fun hc17_ => ?_) (fun hc17_ => ?_)
  · replace h := ite_t hc17_ h
    refine g_iconst C 1 (cK rfl) (by decide +kernel) ?_
    refine g_goto C 67 (off := 14) (by decide +kernel) (by decide) ?_
    refine g_sub (lo2 := [(2, 0), (9, 0), (0, x2), (9, 0), (9, 0)]) (lsb_v (lsb_c (lsb_v (lsb_c (lsb_c lsb_e))))) ?_
    exact ok_PB_turns_b67 C hlk hr x2 1 d hx2 (c32_cb (Or.inr rfl)) h
  · replace h := ite_f hc17_ h
    refine g_iload C 4 rfl (by decide +kernel) ?_
    refine g_if_eq C (off := 7) (tgt := 65) (c32_cb hs0) (by decide +kernel) (by decide) (fun hc18_ => ?_) (fun hc18_ => ?_)
    · replace h := ite_t hc18_ h
      refine g_bipush C 6 (by decide) (by decide +kernel) ?_
      refine g_sub (lo2 := [(2, 0), (9, 0), (0, x2), (9, 0), (9, 0)]) (lsb_v (lsb_c (lsb_v (lsb_c (lsb_c lsb_e))))) ?_
      exact ok_PB_turns_b67 C hlk hr x2 6 d hx2 (cK rfl) h
    · replace h := ite_f hc18_ h
      refine g_iconst C 0 (cK rfl) (by decide +kernel) ?_
      refine g_goto C 67 (off := 5) (by decide +kernel) (by decide) ?_
      refine g_sub (lo2 := [(2, 0), (9, 0), (0, x2), (9, 0), (9, 0)]) (lsb_v (lsb_c (lsb_v (lsb_c (lsb_c lsb_e))))) ?_
      exact ok_PB_turns_b67 C hlk hr x2 0 d hx2 (c32_cb (Or.inl rfl)) h
set_option maxHeartbeats 4000000 in
theorem ok_PB_turns_b24 {p : Program} {l : Launch} {e : Env} {s : State} {m : MethodId} {args : Array Value} {below : List Frame} {meth : Method} {c : Code} {D : va_G} {cA : Nat → ClassId} {ad : Nat → Nat} {A : Nat → Prop} (C : Cx p s m args c prog_1_method_43_code 5 "PollBooks" D cA ad 0 A) (hlk : meth.locks = false) (hr : meth.sig.returnType = (some .int)) {r : Int} {d' : Dt} (x1 x2 s0 : Int) (d : Dt) (hx1 : c32 x1) (hx2 : c32 x2) (hs0 : cb s0) (h : L_PB_turns_b24 x1 x2 s0 d = some (r, d')) : G p l e rm_PB_turns s m args below meth c 0 0 (MQ below (fun _ => QC D cA ad 0 A (some .int) (some (0, r)) d') args s 0 0 A) 5 D cA ad 0 A 24 [(2, 0), (0, x1), (0, x2), (9, 0), (9, 0)] [(0, s0)] d := by
  unfold L_PB_turns_b24 at h
  refine s_istore_n C 3 (lo' := [(2, 0), (0, x1), (0, x2), (0, s0), (9, 0)]) (by decide) (s1k (s1k (s1n (by decide) s1z))) (by decide +kernel) ?_
  refine g_iload_n C 3 rfl (by decide +kernel) ?_
  refine g_if_eq C (off := 18) (tgt := 44) (c32_cb hs0) (by decide +kernel) (by decide) (fun hc19_ => ?_) (fun hc19_ => ?_)
  · replace h := ite_t hc19_ h
    refine g_iconst C 0 (cK rfl) (by decide +kernel) ?_
    refine g_sub (lo2 := [(2, 0), (9, 0), (0, x2), (0, s0), (9, 0)]) (lsb_v (lsb_c (lsb_v (lsb_v (lsb_c lsb_e))))) ?_
    exact ok_PB_turns_b45 C hlk hr x2 s0 0 d hx2 hs0 (Or.inl rfl) h
  · replace h := ite_f hc19_ h
    refine g_aload_n C 0 rfl (by decide +kernel) ?_
    refine g_getR C cl11 0 8 58 rfl cd_A0 ⟨by decide, rfl, by decide⟩ rfl rfl (nA (by decide)) (ix := 73) lk_475 (by decide +kernel) ?_
    refine g_iload_n C 1 rfl (by decide +kernel) ?_
    obtain ⟨r21_, d20_, hr22_, h⟩ := bd_some h
    refine g_callV C mw_Gr_search [(0, x1)] 58 cl1 rfl (ok_Gr_search x1 d hx1 hr22_) cd_A58 (by decide) (nA (by decide)) (ix := 385) lk_1242 lk_1243 lk_1244 ⟨rfl, rfl, Nat.le_of_ble_eq_true rfl, Nat.le_of_ble_eq_true rfl⟩ rfl (rest := []) rfl (Nat.le_of_ble_eq_true rfl) ⟨Nat.zero_le _, Nat.zero_le _⟩ (by decide +kernel) (fun _ hc23_ => ?_)
    replace hc23_ : cb r21_ := hc23_
    refine g_st (st2 := [(0, r21_)]) rfl ?_
    refine g_if_eq C (off := 7) (tgt := 44) (c32_cb hc23_) (by decide +kernel) (by decide) (fun hc24_ => ?_) (fun hc24_ => ?_)
    · replace h := ite_t hc24_ h
      refine g_iconst C 0 (cK rfl) (by decide +kernel) ?_
      refine g_sub (lo2 := [(2, 0), (9, 0), (0, x2), (0, s0), (9, 0)]) (lsb_v (lsb_c (lsb_v (lsb_v (lsb_c lsb_e))))) ?_
      exact ok_PB_turns_b45 C hlk hr x2 s0 0 d20_ hx2 hs0 (Or.inl rfl) h
    · replace h := ite_f hc24_ h
      refine g_iconst C 1 (cK rfl) (by decide +kernel) ?_
      refine g_goto C 45 (off := 4) (by decide +kernel) (by decide) ?_
      refine g_sub (lo2 := [(2, 0), (9, 0), (0, x2), (0, s0), (9, 0)]) (lsb_v (lsb_c (lsb_v (lsb_v (lsb_c lsb_e))))) ?_
      exact ok_PB_turns_b45 C hlk hr x2 s0 1 d20_ hx2 hs0 (Or.inr rfl) h
set_option maxHeartbeats 4000000 in
theorem ok_PB_turns {l : Launch} {r : Int} {d' : Dt} (p1 p2 : Int) (d : Dt) (hp1 : c32 p1) (hp2 : c32 p2) (h : L_PB_turns p1 p2 d = some (r, d')) : MC l y_PB_turns prog_1_method_43_code 5 (some .int) rm_PB_turns 0 [(2, 0), (0, p1), (0, p2)] d (some (0, r)) d' := by
  refine MC.of (by decide) (Nat.le_of_ble_eq_true rfl) ?_
  intro p e s m args below meth c D cA ad A C hlk hr
  replace C : Cx p s m args c prog_1_method_43_code 5 "PollBooks" D cA ad 0 A := C
  show G p l e rm_PB_turns s m args below meth c 0 0 (MQ below (fun _ => QC D cA ad 0 A (some .int) (some (0, r)) d') args s 0 0 A) 5 D cA ad 0 A 0 [(2, 0), (0, p1), (0, p2)] [] d
  refine g_sub (lo2 := [(2, 0), (0, p1), (0, p2), (9, 0), (9, 0)]) (lsb_v (lsb_v (lsb_v (lsb_n (lsb_n lsb_e))))) ?_
  unfold L_PB_turns at h
  refine g_iload_n C 1 rfl (by decide +kernel) ?_
  obtain ⟨r26_, d25_, hr27_, h⟩ := bd_some h
  refine g_callS C mw_PB_isCandidate [(0, p1)] (ok_PB_isCandidate p1 d hp1 hr27_) (ix := 309) lk_1066 lk_1067 ⟨rfl, rfl, Nat.le_of_ble_eq_true rfl, Nat.le_of_ble_eq_true rfl⟩ rfl (rest := []) rfl (Nat.le_of_ble_eq_true rfl) ⟨Nat.zero_le _, Nat.zero_le _⟩ (by decide +kernel) (fun _ hc28_ => ?_)
  replace hc28_ : cb r26_ := hc28_
  refine g_st (st2 := [(0, r26_)]) rfl ?_
  refine g_if_eq C (off := 19) (tgt := 23) (c32_cb hc28_) (by decide +kernel) (by decide) (fun hc29_ => ?_) (fun hc29_ => ?_)
  · replace h := ite_t hc29_ h
    refine g_iconst C 0 (cK rfl) (by decide +kernel) ?_
    refine g_sub (lo2 := [(2, 0), (0, p1), (0, p2), (9, 0), (9, 0)]) (lsb_v (lsb_v (lsb_v (lsb_c (lsb_c lsb_e))))) ?_
    exact ok_PB_turns_b24 C hlk hr p1 p2 0 d25_ hp1 hp2 (Or.inl rfl) h
  · replace h := ite_f hc29_ h
    refine g_iload_n C 2 rfl (by decide +kernel) ?_
    refine g_i2l C hp2 (by decide +kernel) ?_
    refine g_lconst C 0 (v := 0) (by decide) (by decide +kernel) ?_
    refine g_ldc2 C (ix := 284) (v := 2) lk_985 (by decide +kernel) ?_
    obtain ⟨r31_, d30_, hr32_, h⟩ := bd_some h
    refine g_callS C mw_PB_within [(1, p2), (1, 0), (1, 2)] (ok_PB_within p2 0 2 d25_ (c64_32 hp2) (cL rfl) (cL rfl) hr32_) (ix := 105) lk_520 lk_521 ⟨rfl, rfl, Nat.le_of_ble_eq_true rfl, Nat.le_of_ble_eq_true rfl⟩ rfl (rest := []) rfl (Nat.le_of_ble_eq_true rfl) ⟨Nat.zero_le _, Nat.zero_le _⟩ (by decide +kernel) (fun _ hc33_ => ?_)
    replace hc33_ : cb r31_ := hc33_
    refine g_st (st2 := [(0, r31_)]) rfl ?_
    refine g_if_eq C (off := 7) (tgt := 23) (c32_cb hc33_) (by decide +kernel) (by decide) (fun hc34_ => ?_) (fun hc34_ => ?_)
    · replace h := ite_t hc34_ h
      refine g_iconst C 0 (cK rfl) (by decide +kernel) ?_
      refine g_sub (lo2 := [(2, 0), (0, p1), (0, p2), (9, 0), (9, 0)]) (lsb_v (lsb_v (lsb_v (lsb_c (lsb_c lsb_e))))) ?_
      exact ok_PB_turns_b24 C hlk hr p1 p2 0 d30_ hp1 hp2 (Or.inl rfl) h
    · replace h := ite_f hc34_ h
      refine g_iconst C 1 (cK rfl) (by decide +kernel) ?_
      refine g_goto C 24 (off := 4) (by decide +kernel) (by decide) ?_
      refine g_sub (lo2 := [(2, 0), (0, p1), (0, p2), (9, 0), (9, 0)]) (lsb_v (lsb_v (lsb_v (lsb_c (lsb_c lsb_e))))) ?_
      exact ok_PB_turns_b24 C hlk hr p1 p2 1 d30_ hp1 hp2 (Or.inr rfl) h
/-! PollBooks$Jury.isFull()Z -/
def y_Ju_isFull : MethodName := ⟨"PollBooks$Jury", "isFull", "()Z"⟩
def rm_Ju_isFull : Room := { frames := 0, cells := 0, slots := 0, locals := 0 }
theorem mw_Ju_isFull : MW y_Ju_isFull prog_4_method_2_code 1 (some .boolean) 0 := ⟨lk_1278, lk_12, by decide +kernel⟩
def L_Ju_isFull (d : Dt) : Option (Int × Dt) :=
  if (d 64 2) < 30 then some (0, d) else some (1, d)
set_option maxHeartbeats 4000000 in
theorem ok_Ju_isFull {l : Launch} {r : Int} {d' : Dt} (d : Dt)  (h : L_Ju_isFull d = some (r, d')) : MC l y_Ju_isFull prog_4_method_2_code 1 (some .boolean) rm_Ju_isFull 0 [(2, 64)] d (some (0, r)) d' := by
  refine MC.of (by decide) (Nat.le_of_ble_eq_true rfl) ?_
  intro p e s m args below meth c D cA ad A C hlk hr
  replace C : Cx p s m args c prog_4_method_2_code 1 "PollBooks$Jury" D cA ad 0 A := C
  show G p l e rm_Ju_isFull s m args below meth c 0 0 (MQ below (fun _ => QC D cA ad 0 A (some .boolean) (some (0, r)) d') args s 0 0 A) 1 D cA ad 0 A 0 [(2, 64)] [] d
  refine g_sub (lo2 := [(2, 64)]) (lsb_v lsb_e) ?_
  unfold L_Ju_isFull at h
  refine g_aload_n C 0 rfl (by decide +kernel) ?_
  refine g_getI C cl2 64 2 rfl cd_A64 ⟨by decide, rfl, by decide⟩ rfl (nA (by decide)) (ix := 31) lk_409 (by decide +kernel) (fun hc1_ => ?_)
  refine g_bipush C 30 (by decide) (by decide +kernel) ?_
  refine g_icmp_lt C (off := 7) (tgt := 13) hc1_ (cK rfl) (by decide +kernel) (by decide) (fun hc2_ => ?_) (fun hc2_ => ?_)
  · replace h := ite_t hc2_ h
    refine g_iconst C 0 (cK rfl) (by decide +kernel) ?_
    obtain ⟨rfl, rfl⟩ := ret_inj h
    exact g_zret C (Or.inl rfl) hlk hr (by decide +kernel)
  · replace h := ite_f hc2_ h
    refine g_iconst C 1 (cK rfl) (by decide +kernel) ?_
    refine g_goto C 14 (off := 4) (by decide +kernel) (by decide) ?_
    obtain ⟨rfl, rfl⟩ := ret_inj h
    exact g_zret C (Or.inr rfl) hlk hr (by decide +kernel)
/-! PollBooks$Jury.add(II)I -/
def y_Ju_add : MethodName := ⟨"PollBooks$Jury", "add", "(II)I"⟩
def rm_Ju_add : Room := { frames := 0, cells := 0, slots := 0, locals := 0 }
theorem mw_Ju_add : MW y_Ju_add prog_4_method_3_code 3 (some .int) 2 := ⟨lk_1282, lk_12, by decide +kernel⟩
def L_Ju_add (p1 p2 : Int) (d : Dt) : Option (Int × Dt) :=
  ck ((0 : Int) ≤ (d 64 2) ∧ (d 64 2) < 30) (ck ((0 : Int) ≤ (d 64 2) ∧ (d 64 2) < 30) (some ((w32 ((w32 ((d 64 2) + 1)) - 1)), (up2 (up2 (up2 d 65 ((d 64 2)).toNat p1) 66 ((d 64 2)).toNat p2) 64 2 (w32 ((d 64 2) + 1))))))
set_option maxHeartbeats 4000000 in
theorem ok_Ju_add {l : Launch} {r : Int} {d' : Dt} (p1 p2 : Int) (d : Dt) (hp1 : c32 p1) (hp2 : c32 p2) (h : L_Ju_add p1 p2 d = some (r, d')) : MC l y_Ju_add prog_4_method_3_code 3 (some .int) rm_Ju_add 0 [(2, 64), (0, p1), (0, p2)] d (some (0, r)) d' := by
  refine MC.of (by decide) (Nat.le_of_ble_eq_true rfl) ?_
  intro p e s m args below meth c D cA ad A C hlk hr
  replace C : Cx p s m args c prog_4_method_3_code 3 "PollBooks$Jury" D cA ad 0 A := C
  show G p l e rm_Ju_add s m args below meth c 0 0 (MQ below (fun _ => QC D cA ad 0 A (some .int) (some (0, r)) d') args s 0 0 A) 3 D cA ad 0 A 0 [(2, 64), (0, p1), (0, p2)] [] d
  refine g_sub (lo2 := [(2, 64), (0, p1), (0, p2)]) (lsb_v (lsb_v (lsb_v lsb_e))) ?_
  unfold L_Ju_add at h
  refine g_aload_n C 0 rfl (by decide +kernel) ?_
  refine g_getR C cl2 64 0 65 rfl cd_A64 ⟨by decide, rfl, by decide⟩ rfl rfl (nA (by decide)) (ix := 11) lk_407 (by decide +kernel) ?_
  refine g_aload_n C 0 rfl (by decide +kernel) ?_
  refine g_getI C cl2 64 2 rfl cd_A64 ⟨by decide, rfl, by decide⟩ rfl (nA (by decide)) (ix := 31) lk_409 (by decide +kernel) (fun hc1_ => ?_)
  refine g_iload_n C 1 rfl (by decide +kernel) ?_
  obtain ⟨hb2_, h⟩ := ck_some h
  refine g_iast C 65 hp1 hc1_ rfl cd_A65 (nA (by decide)) hb2_ (by decide +kernel) ?_
  refine g_aload_n C 0 rfl (by decide +kernel) ?_
  refine g_getR C cl2 64 1 66 rfl cd_A64 ⟨by decide, rfl, by decide⟩ rfl rfl (nA (by decide)) (ix := 15) lk_408 (by decide +kernel) ?_
  refine g_aload_n C 0 rfl (by decide +kernel) ?_
  refine g_getI C cl2 64 2 rfl cd_A64 ⟨by decide, rfl, by decide⟩ rfl (nA (by decide)) (ix := 31) lk_409 (by decide +kernel) (fun hc3_ => ?_)
  refine g_val (y := (d 64 2)) rfl ?_
  replace hc3_ : c32 (d 64 2) := hc3_
  refine g_iload_n C 2 rfl (by decide +kernel) ?_
  obtain ⟨hb4_, h⟩ := ck_some h
  refine g_iast C 66 hp2 hc3_ rfl cd_A66 (nA (by decide)) hb4_ (by decide +kernel) ?_
  refine g_aload_n C 0 rfl (by decide +kernel) ?_
  refine g_dup C tg2 (by decide +kernel) ?_
  refine g_getI C cl2 64 2 rfl cd_A64 ⟨by decide, rfl, by decide⟩ rfl (nA (by decide)) (ix := 31) lk_409 (by decide +kernel) (fun hc5_ => ?_)
  refine g_val (y := (d 64 2)) rfl ?_
  replace hc5_ : c32 (d 64 2) := hc5_
  refine g_iconst C 1 (cK rfl) (by decide +kernel) ?_
  refine g_iadd C (by decide +kernel) ?_
  refine g_putI C cl2 64 2 (w32_c _) rfl cd_A64 ⟨by decide, rfl, by decide⟩ rfl (nA (by decide)) (ix := 31) lk_409 rfl rfl (by decide +kernel) ?_
  refine g_aload_n C 0 rfl (by decide +kernel) ?_
  refine g_getI C cl2 64 2 rfl cd_A64 ⟨by decide, rfl, by decide⟩ rfl (nA (by decide)) (ix := 31) lk_409 (by decide +kernel) (fun hc6_ => ?_)
  refine g_val (y := (w32 ((d 64 2) + 1))) rfl ?_
  replace hc6_ : c32 (w32 ((d 64 2) + 1)) := hc6_
  refine g_iconst C 1 (cK rfl) (by decide +kernel) ?_
  refine g_isub C (by decide +kernel) ?_
  obtain ⟨rfl, rfl⟩ := ret_inj h
  exact g_iret C (w32_c _) hlk hr (by decide +kernel)
/-! PollBooks.member(II)I -/
def y_PB_member : MethodName := ⟨"PollBooks", "member", "(II)I"⟩
def rm_PB_member : Room := { frames := 1, cells := 0, slots := 0, locals := 25 }
theorem mw_PB_member : MW y_PB_member prog_1_method_44_code 4 (some .int) 2 := ⟨lk_1271, lk_1, by decide +kernel⟩
def L_PB_member_b56 (x1 x2 s1 : Int) (d : Dt) : Option (Int × Dt) :=
  if s1 = 0 then bd (L_Ju_add x1 x2 (up2 d 0 0 s1)) (fun r4_ d3_ => some (r4_, d3_)) else some ((-1), (up2 d 0 0 s1))
def L_PB_member_b31 (x1 x2 s0 : Int) (d : Dt) : Option (Int × Dt) :=
  if s0 = 0 then L_PB_member_b56 x1 x2 1 d else bd (L_Ju_isFull d) (fun r9_ d8_ => if r9_ = 0 then L_PB_member_b56 x1 x2 0 d8_ else L_PB_member_b56 x1 x2 4 d8_)
def L_PB_member (p1 p2 : Int) (d : Dt) : Option (Int × Dt) :=
  bd (L_PB_within p1 (-9) 9 d) (fun r14_ d13_ => if r14_ = 0 then L_PB_member_b31 p1 p2 0 d13_ else bd (L_PB_within p2 0 20 d13_) (fun r19_ d18_ => if r19_ = 0 then L_PB_member_b31 p1 p2 0 d18_ else L_PB_member_b31 p1 p2 1 d18_))
set_option maxHeartbeats 4000000 in
theorem ok_PB_member_b56 {p : Program} {l : Launch} {e : Env} {s : State} {m : MethodId} {args : Array Value} {below : List Frame} {meth : Method} {c : Code} {D : va_G} {cA : Nat → ClassId} {ad : Nat → Nat} {A : Nat → Prop} (C : Cx p s m args c prog_1_method_44_code 4 "PollBooks" D cA ad 0 A) (hlk : meth.locks = false) (hr : meth.sig.returnType = (some .int)) {r : Int} {d' : Dt} (x1 x2 s1 : Int) (d : Dt) (hx1 : c32 x1) (hx2 : c32 x2) (hs1 : c32 s1) (h : L_PB_member_b56 x1 x2 s1 d = some (r, d')) : G p l e rm_PB_member s m args below meth c 0 0 (MQ below (fun _ => QC D cA ad 0 A (some .int) (some (0, r)) d') args s 0 0 A) 4 D cA ad 0 A 56 [(2, 0), (0, x1), (0, x2), (9, 0)] [(0, s1), (2, 0)] d := by
  unfold L_PB_member_b56 at h
  refine g_putI C cl11 0 0 hs1 rfl cd_A0 ⟨by decide, rfl, by decide⟩ rfl (nA (by decide)) (ix := 9) lk_467 rfl rfl (by decide +kernel) ?_
  refine g_aload_n C 0 rfl (by decide +kernel) ?_
  refine g_getI C cl11 0 0 rfl cd_A0 ⟨by decide, rfl, by decide⟩ rfl (nA (by decide)) (ix := 9) lk_467 (by decide +kernel) (fun hc1_ => ?_)
  refine g_val (y := s1) rfl ?_
  replace hc1_ : c32 s1 := hc1_
  refine g_if_ne C (off := 15) (tgt := 78) hc1_ (by decide +kernel) (by decide) (fun hc2_ => ?_) (fun hc2_ => ?_)
  · replace h := ite_t hc2_ h
    refine g_aload_n C 0 rfl (by decide +kernel) ?_
    refine g_getR C cl11 0 9 64 rfl cd_A0 ⟨by decide, rfl, by decide⟩ rfl rfl (nA (by decide)) (ix := 80) lk_476 (by decide +kernel) ?_
    refine g_iload_n C 1 rfl (by decide +kernel) ?_
    refine g_iload_n C 2 rfl (by decide +kernel) ?_
    obtain ⟨r4_, d3_, hr5_, h⟩ := bd_some h
    refine g_callV C mw_Ju_add [(0, x1), (0, x2)] 64 cl2 rfl (ok_Ju_add x1 x2 (up2 d 0 0 s1) hx1 hx2 hr5_) cd_A64 (by decide) (nA (by decide)) (ix := 404) lk_1279 lk_1280 lk_1281 ⟨rfl, rfl, Nat.le_of_ble_eq_true rfl, Nat.le_of_ble_eq_true rfl⟩ rfl (rest := []) rfl (Nat.le_of_ble_eq_true rfl) ⟨Nat.zero_le _, Nat.zero_le _⟩ (by decide +kernel) (fun _ hc6_ => ?_)
    replace hc6_ : c32 r4_ := hc6_
    refine g_st (st2 := [(0, r4_)]) rfl ?_
    refine g_goto C 79 (off := 4) (by decide +kernel) (by decide) ?_
    obtain ⟨rfl, rfl⟩ := ret_inj h
    exact g_iret C hc6_ hlk hr (by decide +kernel)
  · replace h := ite_f hc2_ h
    refine g_iconst C (-1) (cK rfl) (by decide +kernel) ?_
    obtain ⟨rfl, rfl⟩ := ret_inj h
    exact g_iret C (cK rfl) hlk hr (by decide +kernel)
set_option maxHeartbeats 4000000 in
theorem ok_PB_member_b31 {p : Program} {l : Launch} {e : Env} {s : State} {m : MethodId} {args : Array Value} {below : List Frame} {meth : Method} {c : Code} {D : va_G} {cA : Nat → ClassId} {ad : Nat → Nat} {A : Nat → Prop} (C : Cx p s m args c prog_1_method_44_code 4 "PollBooks" D cA ad 0 A) (hlk : meth.locks = false) (hr : meth.sig.returnType = (some .int)) {r : Int} {d' : Dt} (x1 x2 s0 : Int) (d : Dt) (hx1 : c32 x1) (hx2 : c32 x2) (hs0 : cb s0) (h : L_PB_member_b31 x1 x2 s0 d = some (r, d')) : G p l e rm_PB_member s m args below meth c 0 0 (MQ below (fun _ => QC D cA ad 0 A (some .int) (some (0, r)) d') args s 0 0 A) 4 D cA ad 0 A 31 [(2, 0), (0, x1), (0, x2), (9, 0)] [(0, s0)] d := by
  unfold L_PB_member_b31 at h
  refine s_istore_n C 3 (lo' := [(2, 0), (0, x1), (0, x2), (0, s0)]) (by decide) (s1k (s1k (s1n (by decide) s1z))) (by decide +kernel) ?_
  refine g_aload_n C 0 rfl (by decide +kernel) ?_
  refine g_iload_n C 3 rfl (by decide +kernel) ?_
  refine g_if_ne C (off := 7) (tgt := 41) (c32_cb hs0) (by decide +kernel) (by decide) (fun hc7_ => ?_) (fun hc7_ => ?_)
  · replace h := ite_t hc7_ h
    refine g_iconst C 1 (cK rfl) (by decide +kernel) ?_
    refine g_goto C 56 (off := 18) (by decide +kernel) (by decide) ?_
    refine g_sub (lo2 := [(2, 0), (0, x1), (0, x2), (9, 0)]) (lsb_v (lsb_v (lsb_v (lsb_c lsb_e)))) ?_
    exact ok_PB_member_b56 C hlk hr x1 x2 1 d hx1 hx2 (c32_cb (Or.inr rfl)) h
  · replace h := ite_f hc7_ h
    refine g_aload_n C 0 rfl (by decide +kernel) ?_
    refine g_getR C cl11 0 9 64 rfl cd_A0 ⟨by decide, rfl, by decide⟩ rfl rfl (nA (by decide)) (ix := 80) lk_476 (by decide +kernel) ?_
    obtain ⟨r9_, d8_, hr10_, h⟩ := bd_some h
    refine g_callV C mw_Ju_isFull [] 64 cl2 rfl (ok_Ju_isFull  d  hr10_) cd_A64 (by decide) (nA (by decide)) (ix := 403) lk_1275 lk_1276 lk_1277 ⟨rfl, rfl, Nat.le_of_ble_eq_true rfl, Nat.le_of_ble_eq_true rfl⟩ rfl (rest := [(2, 0)]) rfl (Nat.le_of_ble_eq_true rfl) ⟨Nat.zero_le _, Nat.zero_le _⟩ (by decide +kernel) (fun _ hc11_ => ?_)
    replace hc11_ : cb r9_ := hc11_
    refine g_st (st2 := [(0, r9_), (2, 0)]) rfl ?_
    refine g_if_eq C (off := 7) (tgt := 55) (c32_cb hc11_) (by decide +kernel) (by decide) (fun hc12_ => ?_) (fun hc12_ => ?_)
    · replace h := ite_t hc12_ h
      refine g_iconst C 0 (cK rfl) (by decide +kernel) ?_
      refine g_sub (lo2 := [(2, 0), (0, x1), (0, x2), (9, 0)]) (lsb_v (lsb_v (lsb_v (lsb_c lsb_e)))) ?_
      exact ok_PB_member_b56 C hlk hr x1 x2 0 d8_ hx1 hx2 (c32_cb (Or.inl rfl)) h
    · replace h := ite_f hc12_ h
      refine g_iconst C 4 (cK rfl) (by decide +kernel) ?_
      refine g_goto C 56 (off := 4) (by decide +kernel) (by decide) ?_
      refine g_sub (lo2 := [(2, 0), (0, x1), (0, x2), (9, 0)]) (lsb_v (lsb_v (lsb_v (lsb_c lsb_e)))) ?_
      exact ok_PB_member_b56 C hlk hr x1 x2 4 d8_ hx1 hx2 (cK rfl) h
set_option maxHeartbeats 4000000 in
theorem ok_PB_member {l : Launch} {r : Int} {d' : Dt} (p1 p2 : Int) (d : Dt) (hp1 : c32 p1) (hp2 : c32 p2) (h : L_PB_member p1 p2 d = some (r, d')) : MC l y_PB_member prog_1_method_44_code 4 (some .int) rm_PB_member 0 [(2, 0), (0, p1), (0, p2)] d (some (0, r)) d' := by
  refine MC.of (by decide) (Nat.le_of_ble_eq_true rfl) ?_
  intro p e s m args below meth c D cA ad A C hlk hr
  replace C : Cx p s m args c prog_1_method_44_code 4 "PollBooks" D cA ad 0 A := C
  show G p l e rm_PB_member s m args below meth c 0 0 (MQ below (fun _ => QC D cA ad 0 A (some .int) (some (0, r)) d') args s 0 0 A) 4 D cA ad 0 A 0 [(2, 0), (0, p1), (0, p2)] [] d
  refine g_sub (lo2 := [(2, 0), (0, p1), (0, p2), (9, 0)]) (lsb_v (lsb_v (lsb_v (lsb_n lsb_e)))) ?_
  unfold L_PB_member at h
  refine g_iload_n C 1 rfl (by decide +kernel) ?_
  refine g_i2l C hp1 (by decide +kernel) ?_
  refine g_ldc2 C (ix := 397) (v := (-9)) lk_1272 (by decide +kernel) ?_
  refine g_ldc2 C (ix := 399) (v := 9) lk_1273 (by decide +kernel) ?_
  obtain ⟨r14_, d13_, hr15_, h⟩ := bd_some h
  refine g_callS C mw_PB_within [(1, p1), (1, (-9)), (1, 9)] (ok_PB_within p1 (-9) 9 d (c64_32 hp1) (cL rfl) (cL rfl) hr15_) (ix := 105) lk_520 lk_521 ⟨rfl, rfl, Nat.le_of_ble_eq_true rfl, Nat.le_of_ble_eq_true rfl⟩ rfl (rest := []) rfl (Nat.le_of_ble_eq_true rfl) ⟨Nat.zero_le _, Nat.zero_le _⟩ (by decide +kernel) (fun _ hc16_ => ?_)
  replace hc16_ : cb r14_ := hc16_
  refine g_st (st2 := [(0, r14_)]) rfl ?_
  refine g_if_eq C (off := 19) (tgt := 30) (c32_cb hc16_) (by decide +kernel) (by decide) (fun hc17_ => ?_) (fun hc17_ => ?_)
  · replace h := ite_t hc17_ h
    refine g_iconst C 0 (cK rfl) (by decide +kernel) ?_
    refine g_sub (lo2 := [(2, 0), (0, p1), (0, p2), (9, 0)]) (lsb_v (lsb_v (lsb_v (lsb_c lsb_e)))) ?_
    exact ok_PB_member_b31 C hlk hr p1 p2 0 d13_ hp1 hp2 (Or.inl rfl) h
  · replace h := ite_f hc17_ h
    refine g_iload_n C 2 rfl (by decide +kernel) ?_
    refine g_i2l C hp2 (by decide +kernel) ?_
    refine g_lconst C 0 (v := 0) (by decide) (by decide +kernel) ?_
    refine g_ldc2 C (ix := 401) (v := 20) lk_1274 (by decide +kernel) ?_
    obtain ⟨r19_, d18_, hr20_, h⟩ := bd_some h
    refine g_callS C mw_PB_within [(1, p2), (1, 0), (1, 20)] (ok_PB_within p2 0 20 d13_ (c64_32 hp2) (cL rfl) (cL rfl) hr20_) (ix := 105) lk_520 lk_521 ⟨rfl, rfl, Nat.le_of_ble_eq_true rfl, Nat.le_of_ble_eq_true rfl⟩ rfl (rest := []) rfl (Nat.le_of_ble_eq_true rfl) ⟨Nat.zero_le _, Nat.zero_le _⟩ (by decide +kernel) (fun _ hc21_ => ?_)
    replace hc21_ : cb r19_ := hc21_
    refine g_st (st2 := [(0, r19_)]) rfl ?_
    refine g_if_eq C (off := 7) (tgt := 30) (c32_cb hc21_) (by decide +kernel) (by decide) (fun hc22_ => ?_) (fun hc22_ => ?_)
    · replace h := ite_t hc22_ h
      refine g_iconst C 0 (cK rfl) (by decide +kernel) ?_
      refine g_sub (lo2 := [(2, 0), (0, p1), (0, p2), (9, 0)]) (lsb_v (lsb_v (lsb_v (lsb_c lsb_e)))) ?_
      exact ok_PB_member_b31 C hlk hr p1 p2 0 d18_ hp1 hp2 (Or.inl rfl) h
    · replace h := ite_f hc22_ h
      refine g_iconst C 1 (cK rfl) (by decide +kernel) ?_
      refine g_goto C 31 (off := 4) (by decide +kernel) (by decide) ?_
      refine g_sub (lo2 := [(2, 0), (0, p1), (0, p2), (9, 0)]) (lsb_v (lsb_v (lsb_v (lsb_c lsb_e)))) ?_
      exact ok_PB_member_b31 C hlk hr p1 p2 1 d18_ hp1 hp2 (Or.inr rfl) h
/-! PollBooks$Jury.tellKin(II)V -/
def y_Ju_tellKin : MethodName := ⟨"PollBooks$Jury", "tellKin", "(II)V"⟩
def rm_Ju_tellKin : Room := { frames := 0, cells := 0, slots := 0, locals := 0 }
theorem mw_Ju_tellKin : MW y_Ju_tellKin prog_4_method_4_code 3 none 2 := ⟨lk_1290, lk_12, by decide +kernel⟩
def L_Ju_tellKin (p1 p2 : Int) (d : Dt) : Option (Int × Dt) :=
  ck ((0 : Int) ≤ p1 ∧ p1 < 4) (some (0, (up2 d 67 p1.toNat p2)))
set_option maxHeartbeats 4000000 in
theorem ok_Ju_tellKin {l : Launch} {r : Int} {d' : Dt} (p1 p2 : Int) (d : Dt) (hp1 : c32 p1) (hp2 : c32 p2) (h : L_Ju_tellKin p1 p2 d = some (r, d')) : MC l y_Ju_tellKin prog_4_method_4_code 3 none rm_Ju_tellKin 0 [(2, 64), (0, p1), (0, p2)] d none d' := by
  refine MC.of (by decide) (Nat.le_of_ble_eq_true rfl) ?_
  intro p e s m args below meth c D cA ad A C hlk hr
  replace C : Cx p s m args c prog_4_method_4_code 3 "PollBooks$Jury" D cA ad 0 A := C
  show G p l e rm_Ju_tellKin s m args below meth c 0 0 (MQ below (fun _ => QC D cA ad 0 A none none d') args s 0 0 A) 3 D cA ad 0 A 0 [(2, 64), (0, p1), (0, p2)] [] d
  refine g_sub (lo2 := [(2, 64), (0, p1), (0, p2)]) (lsb_v (lsb_v (lsb_v lsb_e))) ?_
  unfold L_Ju_tellKin at h
  refine g_aload_n C 0 rfl (by decide +kernel) ?_
  refine g_getR C cl2 64 3 67 rfl cd_A64 ⟨by decide, rfl, by decide⟩ rfl rfl (nA (by decide)) (ix := 18) lk_410 (by decide +kernel) ?_
  refine g_iload_n C 1 rfl (by decide +kernel) ?_
  refine g_iload_n C 2 rfl (by decide +kernel) ?_
  obtain ⟨hb1_, h⟩ := ck_some h
  refine g_iast C 67 hp2 hp1 rfl cd_A67 (nA (by decide)) hb1_ (by decide +kernel) ?_
  obtain ⟨rfl, rfl⟩ := ret_inj h
  exact g_vret C hlk hr (by decide +kernel)
/-! PollBooks.kin(II)Z -/
def y_PB_kin : MethodName := ⟨"PollBooks", "kin", "(II)Z"⟩
def rm_PB_kin : Room := { frames := 2, cells := 0, slots := 0, locals := 45 }
theorem mw_PB_kin : MW y_PB_kin prog_1_method_45_code 3 (some .boolean) 2 := ⟨lk_1286, lk_1, by decide +kernel⟩
def L_PB_kin_b44 (d : Dt) : Option (Int × Dt) :=
  if (d 0 0) = 0 then some (1, d) else some (0, d)
def L_PB_kin_b25 (x1 x2 s1 : Int) (d : Dt) : Option (Int × Dt) :=
  if s1 = 0 then bd (L_Ju_tellKin x1 x2 (up2 d 0 0 s1)) (fun r6_ d5_ => L_PB_kin_b44 d5_) else L_PB_kin_b44 (up2 d 0 0 s1)
def L_PB_kin (p1 p2 : Int) (d : Dt) : Option (Int × Dt) :=
  bd (L_PB_isCandidate p1 d) (fun r10_ d9_ => if r10_ = 0 then L_PB_kin_b25 p1 p2 1 d9_ else bd (L_PB_within p2 0 20 d9_) (fun r15_ d14_ => if r15_ = 0 then L_PB_kin_b25 p1 p2 1 d14_ else L_PB_kin_b25 p1 p2 0 d14_))
set_option maxHeartbeats 4000000 in
theorem ok_PB_kin_b44 {p : Program} {l : Launch} {e : Env} {s : State} {m : MethodId} {args : Array Value} {below : List Frame} {meth : Method} {c : Code} {D : va_G} {cA : Nat → ClassId} {ad : Nat → Nat} {A : Nat → Prop} (C : Cx p s m args c prog_1_method_45_code 3 "PollBooks" D cA ad 0 A) (hlk : meth.locks = false) (hr : meth.sig.returnType = (some .boolean)) {r : Int} {d' : Dt} (d : Dt)  (h : L_PB_kin_b44 d = some (r, d')) : G p l e rm_PB_kin s m args below meth c 0 0 (MQ below (fun _ => QC D cA ad 0 A (some .boolean) (some (0, r)) d') args s 0 0 A) 3 D cA ad 0 A 44 [(2, 0), (9, 0), (9, 0)] [] d := by
  unfold L_PB_kin_b44 at h
  refine g_aload_n C 0 rfl (by decide +kernel) ?_
  refine g_getI C cl11 0 0 rfl cd_A0 ⟨by decide, rfl, by decide⟩ rfl (nA (by decide)) (ix := 9) lk_467 (by decide +kernel) (fun hc1_ => ?_)
  refine g_if_ne C (off := 7) (tgt := 55) hc1_ (by decide +kernel) (by decide) (fun hc2_ => ?_) (fun hc2_ => ?_)
  · replace h := ite_t hc2_ h
    refine g_iconst C 1 (cK rfl) (by decide +kernel) ?_
    refine g_goto C 56 (off := 4) (by decide +kernel) (by decide) ?_
    obtain ⟨rfl, rfl⟩ := ret_inj h
    exact g_zret C (Or.inr rfl) hlk hr (by decide +kernel)
  · replace h := ite_f hc2_ h
    refine g_iconst C 0 (cK rfl) (by decide +kernel) ?_
    obtain ⟨rfl, rfl⟩ := ret_inj h
    exact g_zret C (Or.inl rfl) hlk hr (by decide +kernel)
set_option maxHeartbeats 4000000 in
theorem ok_PB_kin_b25 {p : Program} {l : Launch} {e : Env} {s : State} {m : MethodId} {args : Array Value} {below : List Frame} {meth : Method} {c : Code} {D : va_G} {cA : Nat → ClassId} {ad : Nat → Nat} {A : Nat → Prop} (C : Cx p s m args c prog_1_method_45_code 3 "PollBooks" D cA ad 0 A) (hlk : meth.locks = false) (hr : meth.sig.returnType = (some .boolean)) {r : Int} {d' : Dt} (x1 x2 s1 : Int) (d : Dt) (hx1 : c32 x1) (hx2 : c32 x2) (hs1 : cb s1) (h : L_PB_kin_b25 x1 x2 s1 d = some (r, d')) : G p l e rm_PB_kin s m args below meth c 0 0 (MQ below (fun _ => QC D cA ad 0 A (some .boolean) (some (0, r)) d') args s 0 0 A) 3 D cA ad 0 A 25 [(2, 0), (0, x1), (0, x2)] [(0, s1), (2, 0)] d := by
  unfold L_PB_kin_b25 at h
  refine g_putI C cl11 0 0 (c32_cb hs1) rfl cd_A0 ⟨by decide, rfl, by decide⟩ rfl (nA (by decide)) (ix := 9) lk_467 rfl rfl (by decide +kernel) ?_
  refine g_aload_n C 0 rfl (by decide +kernel) ?_
  refine g_getI C cl11 0 0 rfl cd_A0 ⟨by decide, rfl, by decide⟩ rfl (nA (by decide)) (ix := 9) lk_467 (by decide +kernel) (fun hc3_ => ?_)
  refine g_val (y := s1) rfl ?_
  replace hc3_ : c32 s1 := hc3_
  refine g_if_ne C (off := 12) (tgt := 44) hc3_ (by decide +kernel) (by decide) (fun hc4_ => ?_) (fun hc4_ => ?_)
  · replace h := ite_t hc4_ h
    refine g_aload_n C 0 rfl (by decide +kernel) ?_
    refine g_getR C cl11 0 9 64 rfl cd_A0 ⟨by decide, rfl, by decide⟩ rfl rfl (nA (by decide)) (ix := 80) lk_476 (by decide +kernel) ?_
    refine g_iload_n C 1 rfl (by decide +kernel) ?_
    refine g_iload_n C 2 rfl (by decide +kernel) ?_
    obtain ⟨r6_, d5_, hr7_, h⟩ := bd_some h
    refine g_callV C mw_Ju_tellKin [(0, x1), (0, x2)] 64 cl2 rfl (ok_Ju_tellKin x1 x2 (up2 d 0 0 s1) hx1 hx2 hr7_) cd_A64 (by decide) (nA (by decide)) (ix := 406) lk_1287 lk_1288 lk_1289 ⟨rfl, rfl, Nat.le_of_ble_eq_true rfl, Nat.le_of_ble_eq_true rfl⟩ rfl (rest := []) rfl (Nat.le_of_ble_eq_true rfl) ⟨Nat.zero_le _, Nat.zero_le _⟩ (by decide +kernel) (fun _ hc8_ => ?_)
    refine g_st (st2 := []) rfl ?_
    refine g_sub (lo2 := [(2, 0), (9, 0), (9, 0)]) (lsb_v (lsb_c (lsb_c lsb_e))) ?_
    exact ok_PB_kin_b44 C hlk hr d5_  h
  · replace h := ite_f hc4_ h
    refine g_sub (lo2 := [(2, 0), (9, 0), (9, 0)]) (lsb_v (lsb_c (lsb_c lsb_e))) ?_
    exact ok_PB_kin_b44 C hlk hr (up2 d 0 0 s1)  h
set_option maxHeartbeats 4000000 in
theorem ok_PB_kin {l : Launch} {r : Int} {d' : Dt} (p1 p2 : Int) (d : Dt) (hp1 : c32 p1) (hp2 : c32 p2) (h : L_PB_kin p1 p2 d = some (r, d')) : MC l y_PB_kin prog_1_method_45_code 3 (some .boolean) rm_PB_kin 0 [(2, 0), (0, p1), (0, p2)] d (some (0, r)) d' := by
  refine MC.of (by decide) (Nat.le_of_ble_eq_true rfl) ?_
  intro p e s m args below meth c D cA ad A C hlk hr
  replace C : Cx p s m args c prog_1_method_45_code 3 "PollBooks" D cA ad 0 A := C
  show G p l e rm_PB_kin s m args below meth c 0 0 (MQ below (fun _ => QC D cA ad 0 A (some .boolean) (some (0, r)) d') args s 0 0 A) 3 D cA ad 0 A 0 [(2, 0), (0, p1), (0, p2)] [] d
  refine g_sub (lo2 := [(2, 0), (0, p1), (0, p2)]) (lsb_v (lsb_v (lsb_v lsb_e))) ?_
  unfold L_PB_kin at h
  refine g_aload_n C 0 rfl (by decide +kernel) ?_
  refine g_iload_n C 1 rfl (by decide +kernel) ?_
  obtain ⟨r10_, d9_, hr11_, h⟩ := bd_some h
  refine g_callS C mw_PB_isCandidate [(0, p1)] (ok_PB_isCandidate p1 d hp1 hr11_) (ix := 309) lk_1066 lk_1067 ⟨rfl, rfl, Nat.le_of_ble_eq_true rfl, Nat.le_of_ble_eq_true rfl⟩ rfl (rest := [(2, 0)]) rfl (Nat.le_of_ble_eq_true rfl) ⟨Nat.zero_le _, Nat.zero_le _⟩ (by decide +kernel) (fun _ hc12_ => ?_)
  replace hc12_ : cb r10_ := hc12_
  refine g_st (st2 := [(0, r10_), (2, 0)]) rfl ?_
  refine g_if_eq C (off := 19) (tgt := 24) (c32_cb hc12_) (by decide +kernel) (by decide) (fun hc13_ => ?_) (fun hc13_ => ?_)
  · replace h := ite_t hc13_ h
    refine g_iconst C 1 (cK rfl) (by decide +kernel) ?_
    refine g_sub (lo2 := [(2, 0), (0, p1), (0, p2)]) (lsb_v (lsb_v (lsb_v lsb_e))) ?_
    exact ok_PB_kin_b25 C hlk hr p1 p2 1 d9_ hp1 hp2 (Or.inr rfl) h
  · replace h := ite_f hc13_ h
    refine g_iload_n C 2 rfl (by decide +kernel) ?_
    refine g_i2l C hp2 (by decide +kernel) ?_
    refine g_lconst C 0 (v := 0) (by decide) (by decide +kernel) ?_
    refine g_ldc2 C (ix := 401) (v := 20) lk_1274 (by decide +kernel) ?_
    obtain ⟨r15_, d14_, hr16_, h⟩ := bd_some h
    refine g_callS C mw_PB_within [(1, p2), (1, 0), (1, 20)] (ok_PB_within p2 0 20 d9_ (c64_32 hp2) (cL rfl) (cL rfl) hr16_) (ix := 105) lk_520 lk_521 ⟨rfl, rfl, Nat.le_of_ble_eq_true rfl, Nat.le_of_ble_eq_true rfl⟩ rfl (rest := [(2, 0)]) rfl (Nat.le_of_ble_eq_true rfl) ⟨Nat.zero_le _, Nat.zero_le _⟩ (by decide +kernel) (fun _ hc17_ => ?_)
    replace hc17_ : cb r15_ := hc17_
    refine g_st (st2 := [(0, r15_), (2, 0)]) rfl ?_
    refine g_if_eq C (off := 7) (tgt := 24) (c32_cb hc17_) (by decide +kernel) (by decide) (fun hc18_ => ?_) (fun hc18_ => ?_)
    · replace h := ite_t hc18_ h
      refine g_iconst C 1 (cK rfl) (by decide +kernel) ?_
      refine g_sub (lo2 := [(2, 0), (0, p1), (0, p2)]) (lsb_v (lsb_v (lsb_v lsb_e))) ?_
      exact ok_PB_kin_b25 C hlk hr p1 p2 1 d14_ hp1 hp2 (Or.inr rfl) h
    · replace h := ite_f hc18_ h
      refine g_iconst C 0 (cK rfl) (by decide +kernel) ?_
      refine g_goto C 25 (off := 4) (by decide +kernel) (by decide) ?_
      refine g_sub (lo2 := [(2, 0), (0, p1), (0, p2)]) (lsb_v (lsb_v (lsb_v lsb_e))) ?_
      exact ok_PB_kin_b25 C hlk hr p1 p2 0 d14_ hp1 hp2 (Or.inl rfl) h
/-! PollBooks$Jury.isKin(I)Z -/
def y_Ju_isKin : MethodName := ⟨"PollBooks$Jury", "isKin", "(I)Z"⟩
def rm_Ju_isKin : Room := { frames := 0, cells := 0, slots := 0, locals := 0 }
theorem mw_Ju_isKin : MW y_Ju_isKin prog_4_method_10_code 3 (some .boolean) 1 := ⟨lk_1306, lk_12, by decide +kernel⟩
def L_Ju_isKin_b23 (x1 x2 : Int) (d : Dt) : Option ((Int × Int × Dt) ⊕ ((Dt) ⊕ (Dt))) :=
  some (Sum.inl (x1, (w32 (x2 + 1)), d))
def L_Ju_isKin_y2 (x1 x2 : Int) (d : Dt) : Option ((Int × Int × Dt) ⊕ ((Dt) ⊕ (Dt))) :=
  if x2 < 4 then if x1 = 0 then L_Ju_isKin_b23 x1 x2 d else ck ((0 : Int) ≤ x2 ∧ x2 < 4) (if (d 67 x2.toNat) = x1 then some (Sum.inr (Sum.inr (d))) else L_Ju_isKin_b23 x1 x2 d) else some (Sum.inr (Sum.inl (d)))
def L_Ju_isKin_l2 (x1 x2 : Int) (d : Dt) : Option ((Dt) ⊕ (Dt)) := lpF (fun q : Int × Int × Dt => L_Ju_isKin_y2 q.1 q.2.1 q.2.2) FU (x1, x2, d)
def L_Ju_isKin (p1 : Int) (d : Dt) : Option (Int × Dt) :=
  lb (L_Ju_isKin_l2 p1 0 d) (fun q12_ => sm q12_ (fun q13_ => u0 q13_ (fun d8_ => some (0, d8_))) (fun q14_ => u0 q14_ (fun d10_ => some (1, d10_))))
set_option maxHeartbeats 4000000 in
theorem ok_Ju_isKin_b23 {p : Program} {l : Launch} {e : Env} {s : State} {m : MethodId} {args : Array Value} {below : List Frame} {meth : Method} {c : Code} {D : va_G} {cA : Nat → ClassId} {ad : Nat → Nat} {A : Nat → Prop} (C : Cx p s m args c prog_4_method_10_code 3 "PollBooks$Jury" D cA ad 0 A) {Q : State → Prop} {o : (Int × Int × Dt) ⊕ ((Dt) ⊕ (Dt))} (x1 x2 : Int) (d : Dt) (hx1 : c32 x1) (hx2 : c32 x2) (h : L_Ju_isKin_b23 x1 x2 d = some o) (kb : ∀ (y0 y1 : Int) (e' : Dt), o = .inl (y0, y1, e') → c32 y0 → c32 y1 → G p l e rm_Ju_isKin s m args below meth c 0 0 Q 3 D cA ad 0 A 2 [(2, 64), (0, y0), (0, y1)] [] e') (k0 : ∀ (e' : Dt), o = .inr (Sum.inl (e')) → G p l e rm_Ju_isKin s m args below meth c 0 0 Q 3 D cA ad 0 A 29 [(9, 0), (9, 0), (9, 0)] [] e') (k1 : ∀ (e' : Dt), o = .inr (Sum.inr (e')) → G p l e rm_Ju_isKin s m args below meth c 0 0 Q 3 D cA ad 0 A 21 [(9, 0), (9, 0), (9, 0)] [] e') : G p l e rm_Ju_isKin s m args below meth c 0 0 Q 3 D cA ad 0 A 23 [(2, 64), (0, x1), (0, x2)] [] d := by
  unfold L_Ju_isKin_b23 at h
  refine s_iinc C 2 1 (lo' := [(2, 64), (0, x1), (0, (w32 (x2 + 1)))]) rfl (by decide) (s1k (s1n (by decide) s1z)) (by decide +kernel) ?_
  refine g_goto C 2 (off := (-24)) (by decide +kernel) (by decide) ?_
  refine g_sub (lo2 := [(2, 64), (0, x1), (0, (w32 (x2 + 1)))]) (lsb_v (lsb_v (lsb_v lsb_e))) ?_
  obtain rfl := Option.some.inj h
  exact kb x1 (w32 (x2 + 1)) d rfl hx1 (w32_c _)
set_option maxHeartbeats 4000000 in
theorem ok_Ju_isKin_y2 {p : Program} {l : Launch} {e : Env} {s : State} {m : MethodId} {args : Array Value} {below : List Frame} {meth : Method} {c : Code} {D : va_G} {cA : Nat → ClassId} {ad : Nat → Nat} {A : Nat → Prop} (C : Cx p s m args c prog_4_method_10_code 3 "PollBooks$Jury" D cA ad 0 A) {Q : State → Prop} {o : (Int × Int × Dt) ⊕ ((Dt) ⊕ (Dt))} (x1 x2 : Int) (d : Dt) (hx1 : c32 x1) (hx2 : c32 x2) (h : L_Ju_isKin_y2 x1 x2 d = some o) (kb : ∀ (y0 y1 : Int) (e' : Dt), o = .inl (y0, y1, e') → c32 y0 → c32 y1 → G p l e rm_Ju_isKin s m args below meth c 0 0 Q 3 D cA ad 0 A 2 [(2, 64), (0, y0), (0, y1)] [] e') (k0 : ∀ (e' : Dt), o = .inr (Sum.inl (e')) → G p l e rm_Ju_isKin s m args below meth c 0 0 Q 3 D cA ad 0 A 29 [(9, 0), (9, 0), (9, 0)] [] e') (k1 : ∀ (e' : Dt), o = .inr (Sum.inr (e')) → G p l e rm_Ju_isKin s m args below meth c 0 0 Q 3 D cA ad 0 A 21 [(9, 0), (9, 0), (9, 0)] [] e') : G p l e rm_Ju_isKin s m args below meth c 0 0 Q 3 D cA ad 0 A 2 [(2, 64), (0, x1), (0, x2)] [] d := by
  unfold L_Ju_isKin_y2 at h
  refine g_iload_n C 2 rfl (by decide +kernel) ?_
  refine g_iconst C 4 (cK rfl) (by decide +kernel) ?_
  refine g_icmp_ge C (off := 25) (tgt := 29) hx2 (cK rfl) (by decide +kernel) (by decide) (fun hc1_ => ?_) (fun hc1_ => ?_)
  · replace h := ite_t hc1_ h
    refine g_iload_n C 1 rfl (by decide +kernel) ?_
    refine g_if_eq C (off := 15) (tgt := 23) hx1 (by decide +kernel) (by decide) (fun hc2_ => ?_) (fun hc2_ => ?_)
    · replace h := ite_t hc2_ h
      refine g_sub (lo2 := [(2, 64), (0, x1), (0, x2)]) (lsb_v (lsb_v (lsb_v lsb_e))) ?_
      exact ok_Ju_isKin_b23 C x1 x2 d hx1 hx2 h kb k0 k1
    · replace h := ite_f hc2_ h
      refine g_aload_n C 0 rfl (by decide +kernel) ?_
      refine g_getR C cl2 64 3 67 rfl cd_A64 ⟨by decide, rfl, by decide⟩ rfl rfl (nA (by decide)) (ix := 18) lk_410 (by decide +kernel) ?_
      refine g_iload_n C 2 rfl (by decide +kernel) ?_
      obtain ⟨hb3_, h⟩ := ck_some h
      refine g_iald C 67 hx2 rfl cd_A67 (nA (by decide)) hb3_ (by decide +kernel) (fun hc4_ => ?_)
      refine g_iload_n C 1 rfl (by decide +kernel) ?_
      refine g_icmp_ne C (off := 5) (tgt := 23) hc4_ hx1 (by decide +kernel) (by decide) (fun hc5_ => ?_) (fun hc5_ => ?_)
      · replace h := ite_t hc5_ h
        refine g_sub (lo2 := [(9, 0), (9, 0), (9, 0)]) (lsb_c (lsb_c (lsb_c lsb_e))) ?_
        obtain rfl := Option.some.inj h
        exact k1 d rfl 
      · replace h := ite_f hc5_ h
        refine g_sub (lo2 := [(2, 64), (0, x1), (0, x2)]) (lsb_v (lsb_v (lsb_v lsb_e))) ?_
        exact ok_Ju_isKin_b23 C x1 x2 d hx1 hx2 h kb k0 k1
  · replace h := ite_f hc1_ h
    refine g_sub (lo2 := [(9, 0), (9, 0), (9, 0)]) (lsb_c (lsb_c (lsb_c lsb_e))) ?_
    obtain rfl := Option.some.inj h
    exact k0 d rfl 
set_option maxHeartbeats 4000000 in
theorem ok_Ju_isKin_n2 {p : Program} {l : Launch} {e : Env} {s : State} {m : MethodId} {args : Array Value} {below : List Frame} {meth : Method} {c : Code} {D : va_G} {cA : Nat → ClassId} {ad : Nat → Nat} {A : Nat → Prop} (C : Cx p s m args c prog_4_method_10_code 3 "PollBooks$Jury" D cA ad 0 A) {Q : State → Prop} {x : (Dt) ⊕ (Dt)} : ∀ (n : Nat) (x1 x2 : Int) (d : Dt), c32 x1 → c32 x2 → lpF (fun q : Int × Int × Dt => L_Ju_isKin_y2 q.1 q.2.1 q.2.2) n (x1, x2, d) = some x → (∀ (e' : Dt), x = (Sum.inl (e')) → G p l e rm_Ju_isKin s m args below meth c 0 0 Q 3 D cA ad 0 A 29 [(9, 0), (9, 0), (9, 0)] [] e') → (∀ (e' : Dt), x = (Sum.inr (e')) → G p l e rm_Ju_isKin s m args below meth c 0 0 Q 3 D cA ad 0 A 21 [(9, 0), (9, 0), (9, 0)] [] e') → G p l e rm_Ju_isKin s m args below meth c 0 0 Q 3 D cA ad 0 A 2 [(2, 64), (0, x1), (0, x2)] [] d := by
  intro n
  induction n with
  | zero => intro x1 x2 d g0 g1 h k0 k1; cases h
  | succ n ih =>
    intro x1 x2 d g0 g1 h k0 k1
    rcases lpF_some h with h | ⟨⟨v0_, v1_, e0_⟩, h1, h⟩
    · exact ok_Ju_isKin_y2 C x1 x2 d g0 g1 h (fun z0_ z1_ e1_ eq w0_ w1_ => by cases eq) (fun e1_ eq => k0 _ (by cases eq; rfl) ) (fun e1_ eq => k1 _ (by cases eq; rfl) )
    · exact ok_Ju_isKin_y2 C x1 x2 d g0 g1 h1 (fun z0_ z1_ e1_ eq w0_ w1_ => by cases eq; exact ih _ _ _ w0_ w1_ h k0 k1) (fun e1_ eq => by cases eq) (fun e1_ eq => by cases eq)
set_option maxHeartbeats 4000000 in
theorem ok_Ju_isKin_l2 {p : Program} {l : Launch} {e : Env} {s : State} {m : MethodId} {args : Array Value} {below : List Frame} {meth : Method} {c : Code} {D : va_G} {cA : Nat → ClassId} {ad : Nat → Nat} {A : Nat → Prop} (C : Cx p s m args c prog_4_method_10_code 3 "PollBooks$Jury" D cA ad 0 A) {Q : State → Prop} {x : (Dt) ⊕ (Dt)} (x1 x2 : Int) (d : Dt) (hx1 : c32 x1) (hx2 : c32 x2) (h : L_Ju_isKin_l2 x1 x2 d = some x) (k0 : ∀ (e' : Dt), x = (Sum.inl (e')) → G p l e rm_Ju_isKin s m args below meth c 0 0 Q 3 D cA ad 0 A 29 [(9, 0), (9, 0), (9, 0)] [] e') (k1 : ∀ (e' : Dt), x = (Sum.inr (e')) → G p l e rm_Ju_isKin s m args below meth c 0 0 Q 3 D cA ad 0 A 21 [(9, 0), (9, 0), (9, 0)] [] e') : G p l e rm_Ju_isKin s m args below meth c 0 0 Q 3 D cA ad 0 A 2 [(2, 64), (0, x1), (0, x2)] [] d :=
  ok_Ju_isKin_n2 C FU x1 x2 d hx1 hx2 h k0 k1
set_option maxHeartbeats 4000000 in
theorem ok_Ju_isKin {l : Launch} {r : Int} {d' : Dt} (p1 : Int) (d : Dt) (hp1 : c32 p1) (h : L_Ju_isKin p1 d = some (r, d')) : MC l y_Ju_isKin prog_4_method_10_code 3 (some .boolean) rm_Ju_isKin 0 [(2, 64), (0, p1)] d (some (0, r)) d' := by
  refine MC.of (by decide) (Nat.le_of_ble_eq_true rfl) ?_
  intro p e s m args below meth c D cA ad A C hlk hr
  replace C : Cx p s m args c prog_4_method_10_code 3 "PollBooks$Jury" D cA ad 0 A := C
  show G p l e rm_Ju_isKin s m args below meth c 0 0 (MQ below (fun _ => QC D cA ad 0 A (some .boolean) (some (0, r)) d') args s 0 0 A) 3 D cA ad 0 A 0 [(2, 64), (0, p1)] [] d
  refine g_sub (lo2 := [(2, 64), (0, p1), (9, 0)]) (lsb_v (lsb_v (lsb_n lsb_e))) ?_
  unfold L_Ju_isKin at h
  refine g_iconst C 0 (cK rfl) (by decide +kernel) ?_
  refine s_istore_n C 2 (lo' := [(2, 64), (0, p1), (0, 0)]) (by decide) (s1k (s1n (by decide) s1z)) (by decide +kernel) ?_
  refine g_sub (lo2 := [(2, 64), (0, p1), (0, 0)]) (lsb_v (lsb_v (lsb_v lsb_e))) ?_
  obtain ⟨x6_, hx7_, h⟩ := lb_some h
  refine ok_Ju_isKin_l2 C p1 0 d hp1 (c32_cb (Or.inl rfl)) hx7_ (fun d8_ eq9_ => ?_) (fun d10_ eq11_ => ?_)
  · subst eq9_
    replace h := sml_e h
    replace h := u0_e h
    refine g_iconst C 0 (cK rfl) (by decide +kernel) ?_
    obtain ⟨rfl, rfl⟩ := ret_inj h
    exact g_zret C (Or.inl rfl) hlk hr (by decide +kernel)
  · subst eq11_
    replace h := smr_e h
    replace h := u0_e h
    refine g_iconst C 1 (cK rfl) (by decide +kernel) ?_
    obtain ⟨rfl, rfl⟩ := ret_inj h
    exact g_zret C (Or.inr rfl) hlk hr (by decide +kernel)
/-! PollBooks$Jury.fillPool()I -/
def y_Ju_fillPool : MethodName := ⟨"PollBooks$Jury", "fillPool", "()I"⟩
def rm_Ju_fillPool : Room := { frames := 1, cells := 0, slots := 0, locals := 22 }
theorem mw_Ju_fillPool : MW y_Ju_fillPool prog_4_method_9_code 3 (some .int) 0 := ⟨lk_1302, lk_12, by decide +kernel⟩
def L_Ju_fillPool_b35 (x1 x2 : Int) (d : Dt) : Option ((Int × Int × Dt) ⊕ ((Int × Dt))) :=
  some (Sum.inl (x1, (w32 (x2 + 1)), d))
def L_Ju_fillPool_y4 (x1 x2 : Int) (d : Dt) : Option ((Int × Int × Dt) ⊕ ((Int × Dt))) :=
  if x2 < (d 64 2) then ck ((0 : Int) ≤ x2 ∧ x2 < 30) (bd (L_Ju_isKin (d 66 x2.toNat) d) (fun r6_ d5_ => if r6_ = 0 then ck ((0 : Int) ≤ x1 ∧ x1 < 30) (L_Ju_fillPool_b35 (w32 (x1 + 1)) x2 (up2 d5_ 68 x1.toNat x2)) else L_Ju_fillPool_b35 x1 x2 d5_)) else some (Sum.inr (x1, d))
def L_Ju_fillPool_l4 (x1 x2 : Int) (d : Dt) : Option ((Int × Dt)) := lpF (fun q : Int × Int × Dt => L_Ju_fillPool_y4 q.1 q.2.1 q.2.2) FU (x1, x2, d)
def L_Ju_fillPool (d : Dt) : Option (Int × Dt) :=
  lb (L_Ju_fillPool_l4 0 0 d) (fun q16_ => u1 q16_ (fun v13_ d14_ => some (v13_, d14_)))
set_option maxHeartbeats 4000000 in
theorem ok_Ju_fillPool_b35 {p : Program} {l : Launch} {e : Env} {s : State} {m : MethodId} {args : Array Value} {below : List Frame} {meth : Method} {c : Code} {D : va_G} {cA : Nat → ClassId} {ad : Nat → Nat} {A : Nat → Prop} (C : Cx p s m args c prog_4_method_9_code 3 "PollBooks$Jury" D cA ad 0 A) {Q : State → Prop} {o : (Int × Int × Dt) ⊕ ((Int × Dt))} (x1 x2 : Int) (d : Dt) (hx1 : c32 x1) (hx2 : c32 x2) (h : L_Ju_fillPool_b35 x1 x2 d = some o) (kb : ∀ (y0 y1 : Int) (e' : Dt), o = .inl (y0, y1, e') → c32 y0 → c32 y1 → G p l e rm_Ju_fillPool s m args below meth c 0 0 Q 3 D cA ad 0 A 4 [(2, 64), (0, y0), (0, y1)] [] e') (k0 : ∀ (y0 : Int) (e' : Dt), o = .inr (y0, e') → c32 y0 → G p l e rm_Ju_fillPool s m args below meth c 0 0 Q 3 D cA ad 0 A 41 [(9, 0), (0, y0), (9, 0)] [] e') : G p l e rm_Ju_fillPool s m args below meth c 0 0 Q 3 D cA ad 0 A 35 [(2, 64), (0, x1), (0, x2)] [] d := by
  unfold L_Ju_fillPool_b35 at h
  refine s_iinc C 2 1 (lo' := [(2, 64), (0, x1), (0, (w32 (x2 + 1)))]) rfl (by decide) (s1k (s1n (by decide) s1z)) (by decide +kernel) ?_
  refine g_goto C 4 (off := (-34)) (by decide +kernel) (by decide) ?_
  refine g_sub (lo2 := [(2, 64), (0, x1), (0, (w32 (x2 + 1)))]) (lsb_v (lsb_v (lsb_v lsb_e))) ?_
  obtain rfl := Option.some.inj h
  exact kb x1 (w32 (x2 + 1)) d rfl hx1 (w32_c _)
set_option maxHeartbeats 4000000 in
theorem ok_Ju_fillPool_y4 {p : Program} {l : Launch} {e : Env} {s : State} {m : MethodId} {args : Array Value} {below : List Frame} {meth : Method} {c : Code} {D : va_G} {cA : Nat → ClassId} {ad : Nat → Nat} {A : Nat → Prop} (C : Cx p s m args c prog_4_method_9_code 3 "PollBooks$Jury" D cA ad 0 A) {Q : State → Prop} {o : (Int × Int × Dt) ⊕ ((Int × Dt))} (x1 x2 : Int) (d : Dt) (hx1 : c32 x1) (hx2 : c32 x2) (h : L_Ju_fillPool_y4 x1 x2 d = some o) (kb : ∀ (y0 y1 : Int) (e' : Dt), o = .inl (y0, y1, e') → c32 y0 → c32 y1 → G p l e rm_Ju_fillPool s m args below meth c 0 0 Q 3 D cA ad 0 A 4 [(2, 64), (0, y0), (0, y1)] [] e') (k0 : ∀ (y0 : Int) (e' : Dt), o = .inr (y0, e') → c32 y0 → G p l e rm_Ju_fillPool s m args below meth c 0 0 Q 3 D cA ad 0 A 41 [(9, 0), (0, y0), (9, 0)] [] e') : G p l e rm_Ju_fillPool s m args below meth c 0 0 Q 3 D cA ad 0 A 4 [(2, 64), (0, x1), (0, x2)] [] d := by
  unfold L_Ju_fillPool_y4 at h
  refine g_iload_n C 2 rfl (by decide +kernel) ?_
  refine g_aload_n C 0 rfl (by decide +kernel) ?_
  refine g_getI C cl2 64 2 rfl cd_A64 ⟨by decide, rfl, by decide⟩ rfl (nA (by decide)) (ix := 31) lk_409 (by decide +kernel) (fun hc1_ => ?_)
  refine g_icmp_ge C (off := 32) (tgt := 41) hx2 hc1_ (by decide +kernel) (by decide) (fun hc2_ => ?_) (fun hc2_ => ?_)
  · replace h := ite_t hc2_ h
    refine g_aload_n C 0 rfl (by decide +kernel) ?_
    refine g_aload_n C 0 rfl (by decide +kernel) ?_
    refine g_getR C cl2 64 1 66 rfl cd_A64 ⟨by decide, rfl, by decide⟩ rfl rfl (nA (by decide)) (ix := 15) lk_408 (by decide +kernel) ?_
    refine g_iload_n C 2 rfl (by decide +kernel) ?_
    obtain ⟨hb3_, h⟩ := ck_some h
    refine g_iald C 66 hx2 rfl cd_A66 (nA (by decide)) hb3_ (by decide +kernel) (fun hc4_ => ?_)
    obtain ⟨r6_, d5_, hr7_, h⟩ := bd_some h
    refine g_callV C mw_Ju_isKin [(0, (d 66 x2.toNat))] 64 cl2 rfl (ok_Ju_isKin (d 66 x2.toNat) d hc4_ hr7_) cd_A64 (by decide) (nA (by decide)) (ix := 61) lk_1303 lk_1305 lkp_47 ⟨rfl, rfl, Nat.le_of_ble_eq_true rfl, Nat.le_of_ble_eq_true rfl⟩ rfl (rest := []) rfl (Nat.le_of_ble_eq_true rfl) ⟨Nat.zero_le _, Nat.zero_le _⟩ (by decide +kernel) (fun _ hc8_ => ?_)
    replace hc8_ : cb r6_ := hc8_
    refine g_st (st2 := [(0, r6_)]) rfl ?_
    refine g_if_ne C (off := 13) (tgt := 35) (c32_cb hc8_) (by decide +kernel) (by decide) (fun hc9_ => ?_) (fun hc9_ => ?_)
    · replace h := ite_t hc9_ h
      refine g_aload_n C 0 rfl (by decide +kernel) ?_
      refine g_getR C cl2 64 4 68 rfl cd_A64 ⟨by decide, rfl, by decide⟩ rfl rfl (nA (by decide)) (ix := 21) lk_411 (by decide +kernel) ?_
      refine g_iload_n C 1 rfl (by decide +kernel) ?_
      refine g_iload_n C 2 rfl (by decide +kernel) ?_
      obtain ⟨hb10_, h⟩ := ck_some h
      refine g_iast C 68 hx2 hx1 rfl cd_A68 (nA (by decide)) hb10_ (by decide +kernel) ?_
      refine s_iinc C 1 1 (lo' := [(2, 64), (0, (w32 (x1 + 1))), (0, x2)]) rfl (by decide) (s1n (by decide) s1z) (by decide +kernel) ?_
      refine g_sub (lo2 := [(2, 64), (0, (w32 (x1 + 1))), (0, x2)]) (lsb_v (lsb_v (lsb_v lsb_e))) ?_
      exact ok_Ju_fillPool_b35 C (w32 (x1 + 1)) x2 (up2 d5_ 68 x1.toNat x2) (w32_c _) hx2 h kb k0
    · replace h := ite_f hc9_ h
      refine g_sub (lo2 := [(2, 64), (0, x1), (0, x2)]) (lsb_v (lsb_v (lsb_v lsb_e))) ?_
      exact ok_Ju_fillPool_b35 C x1 x2 d5_ hx1 hx2 h kb k0
  · replace h := ite_f hc2_ h
    refine g_sub (lo2 := [(9, 0), (0, x1), (9, 0)]) (lsb_c (lsb_v (lsb_c lsb_e))) ?_
    obtain rfl := Option.some.inj h
    exact k0 x1 d rfl hx1
set_option maxHeartbeats 4000000 in
theorem ok_Ju_fillPool_n4 {p : Program} {l : Launch} {e : Env} {s : State} {m : MethodId} {args : Array Value} {below : List Frame} {meth : Method} {c : Code} {D : va_G} {cA : Nat → ClassId} {ad : Nat → Nat} {A : Nat → Prop} (C : Cx p s m args c prog_4_method_9_code 3 "PollBooks$Jury" D cA ad 0 A) {Q : State → Prop} {x : (Int × Dt)} : ∀ (n : Nat) (x1 x2 : Int) (d : Dt), c32 x1 → c32 x2 → lpF (fun q : Int × Int × Dt => L_Ju_fillPool_y4 q.1 q.2.1 q.2.2) n (x1, x2, d) = some x → (∀ (y0 : Int) (e' : Dt), x = (y0, e') → c32 y0 → G p l e rm_Ju_fillPool s m args below meth c 0 0 Q 3 D cA ad 0 A 41 [(9, 0), (0, y0), (9, 0)] [] e') → G p l e rm_Ju_fillPool s m args below meth c 0 0 Q 3 D cA ad 0 A 4 [(2, 64), (0, x1), (0, x2)] [] d := by
  intro n
  induction n with
  | zero => intro x1 x2 d g0 g1 h k0; cases h
  | succ n ih =>
    intro x1 x2 d g0 g1 h k0
    rcases lpF_some h with h | ⟨⟨v0_, v1_, e0_⟩, h1, h⟩
    · exact ok_Ju_fillPool_y4 C x1 x2 d g0 g1 h (fun z0_ z1_ e1_ eq w0_ w1_ => by cases eq) (fun z0_ e1_ eq w0_ => k0 _ _ (by cases eq; rfl) w0_)
    · exact ok_Ju_fillPool_y4 C x1 x2 d g0 g1 h1 (fun z0_ z1_ e1_ eq w0_ w1_ => by cases eq; exact ih _ _ _ w0_ w1_ h k0) (fun z0_ e1_ eq w0_ => by cases eq)
set_option maxHeartbeats 4000000 in
theorem ok_Ju_fillPool_l4 {p : Program} {l : Launch} {e : Env} {s : State} {m : MethodId} {args : Array Value} {below : List Frame} {meth : Method} {c : Code} {D : va_G} {cA : Nat → ClassId} {ad : Nat → Nat} {A : Nat → Prop} (C : Cx p s m args c prog_4_method_9_code 3 "PollBooks$Jury" D cA ad 0 A) {Q : State → Prop} {x : (Int × Dt)} (x1 x2 : Int) (d : Dt) (hx1 : c32 x1) (hx2 : c32 x2) (h : L_Ju_fillPool_l4 x1 x2 d = some x) (k0 : ∀ (y0 : Int) (e' : Dt), x = (y0, e') → c32 y0 → G p l e rm_Ju_fillPool s m args below meth c 0 0 Q 3 D cA ad 0 A 41 [(9, 0), (0, y0), (9, 0)] [] e') : G p l e rm_Ju_fillPool s m args below meth c 0 0 Q 3 D cA ad 0 A 4 [(2, 64), (0, x1), (0, x2)] [] d :=
  ok_Ju_fillPool_n4 C FU x1 x2 d hx1 hx2 h k0
set_option maxHeartbeats 4000000 in
theorem ok_Ju_fillPool {l : Launch} {r : Int} {d' : Dt} (d : Dt)  (h : L_Ju_fillPool d = some (r, d')) : MC l y_Ju_fillPool prog_4_method_9_code 3 (some .int) rm_Ju_fillPool 0 [(2, 64)] d (some (0, r)) d' := by
  refine MC.of (by decide) (Nat.le_of_ble_eq_true rfl) ?_
  intro p e s m args below meth c D cA ad A C hlk hr
  replace C : Cx p s m args c prog_4_method_9_code 3 "PollBooks$Jury" D cA ad 0 A := C
  show G p l e rm_Ju_fillPool s m args below meth c 0 0 (MQ below (fun _ => QC D cA ad 0 A (some .int) (some (0, r)) d') args s 0 0 A) 3 D cA ad 0 A 0 [(2, 64)] [] d
  refine g_sub (lo2 := [(2, 64), (9, 0), (9, 0)]) (lsb_v (lsb_n (lsb_n lsb_e))) ?_
  unfold L_Ju_fillPool at h
  refine g_iconst C 0 (cK rfl) (by decide +kernel) ?_
  refine s_istore_n C 1 (lo' := [(2, 64), (0, 0), (9, 0)]) (by decide) (s1n (by decide) s1z) (by decide +kernel) ?_
  refine g_iconst C 0 (cK rfl) (by decide +kernel) ?_
  refine s_istore_n C 2 (lo' := [(2, 64), (0, 0), (0, 0)]) (by decide) (s1k (s1n (by decide) s1z)) (by decide +kernel) ?_
  refine g_sub (lo2 := [(2, 64), (0, 0), (0, 0)]) (lsb_v (lsb_v (lsb_v lsb_e))) ?_
  obtain ⟨x11_, hx12_, h⟩ := lb_some h
  refine ok_Ju_fillPool_l4 C 0 0 d (c32_cb (Or.inl rfl)) (c32_cb (Or.inl rfl)) hx12_ (fun v13_ d14_ eq15_ hv13_ => ?_)
  subst eq15_
  replace h := u1_e h
  refine g_iload_n C 1 rfl (by decide +kernel) ?_
  obtain ⟨rfl, rfl⟩ := ret_inj h
  exact g_iret C hv13_ hlk hr (by decide +kernel)
/-! PollBooks$Jury.drawFromPool(II)V -/
def y_Ju_drawFromPool : MethodName := ⟨"PollBooks$Jury", "drawFromPool", "(II)V"⟩
def rm_Ju_drawFromPool : Room := { frames := 1, cells := 0, slots := 0, locals := 40 }
theorem mw_Ju_drawFromPool : MW y_Ju_drawFromPool prog_4_method_11_code 3 none 2 := ⟨lk_1314, lk_12, by decide +kernel⟩
def L_Ju_drawFromPool (p1 p2 : Int) (d : Dt) : Option (Int × Dt) :=
  ck ((0 : Int) ≤ p1 ∧ p1 < 30) (ck ((0 : Int) ≤ (d 68 p1.toNat) ∧ (d 68 p1.toNat) < 30) (ck ((0 : Int) ≤ (w32 (p1 + 1)) ∧ (0 : Int) ≤ p1 ∧ (0 : Int) ≤ (w32 ((w32 (p2 - p1)) - 1)) ∧ ((w32 (p1 + 1)) : Int) + (w32 ((w32 (p2 - p1)) - 1)) ≤ 30 ∧ (p1 : Int) + (w32 ((w32 (p2 - p1)) - 1)) ≤ 30) (some (0, (cp2 (up2 d 69 ((d 68 p1.toNat)).toNat 1) 68 ((w32 (p1 + 1))).toNat 68 p1.toNat ((w32 ((w32 (p2 - p1)) - 1))).toNat)))))
set_option maxHeartbeats 4000000 in
theorem ok_Ju_drawFromPool {l : Launch} {r : Int} {d' : Dt} (p1 p2 : Int) (d : Dt) (hp1 : c32 p1) (hp2 : c32 p2) (h : L_Ju_drawFromPool p1 p2 d = some (r, d')) : MC l y_Ju_drawFromPool prog_4_method_11_code 3 none rm_Ju_drawFromPool 0 [(2, 64), (0, p1), (0, p2)] d none d' := by
  refine MC.of (by decide) (Nat.le_of_ble_eq_true rfl) ?_
  intro p e s m args below meth c D cA ad A C hlk hr
  replace C : Cx p s m args c prog_4_method_11_code 3 "PollBooks$Jury" D cA ad 0 A := C
  show G p l e rm_Ju_drawFromPool s m args below meth c 0 0 (MQ below (fun _ => QC D cA ad 0 A none none d') args s 0 0 A) 3 D cA ad 0 A 0 [(2, 64), (0, p1), (0, p2)] [] d
  refine g_sub (lo2 := [(2, 64), (0, p1), (0, p2)]) (lsb_v (lsb_v (lsb_v lsb_e))) ?_
  unfold L_Ju_drawFromPool at h
  refine g_aload_n C 0 rfl (by decide +kernel) ?_
  refine g_getR C cl2 64 5 69 rfl cd_A64 ⟨by decide, rfl, by decide⟩ rfl rfl (nA (by decide)) (ix := 24) lk_412 (by decide +kernel) ?_
  refine g_aload_n C 0 rfl (by decide +kernel) ?_
  refine g_getR C cl2 64 4 68 rfl cd_A64 ⟨by decide, rfl, by decide⟩ rfl rfl (nA (by decide)) (ix := 21) lk_411 (by decide +kernel) ?_
  refine g_iload_n C 1 rfl (by decide +kernel) ?_
  obtain ⟨hb1_, h⟩ := ck_some h
  refine g_iald C 68 hp1 rfl cd_A68 (nA (by decide)) hb1_ (by decide +kernel) (fun hc2_ => ?_)
  refine g_iconst C 1 (cK rfl) (by decide +kernel) ?_
  obtain ⟨hb3_, h⟩ := ck_some h
  refine g_zast C 69 (Or.inr rfl) hc2_ rfl cd_A69 (nA (by decide)) hb3_ (by decide +kernel) ?_
  refine g_aload_n C 0 rfl (by decide +kernel) ?_
  refine g_getR C cl2 64 4 68 rfl cd_A64 ⟨by decide, rfl, by decide⟩ rfl rfl (nA (by decide)) (ix := 21) lk_411 (by decide +kernel) ?_
  refine g_iload_n C 1 rfl (by decide +kernel) ?_
  refine g_iconst C 1 (cK rfl) (by decide +kernel) ?_
  refine g_iadd C (by decide +kernel) ?_
  refine g_aload_n C 0 rfl (by decide +kernel) ?_
  refine g_getR C cl2 64 4 68 rfl cd_A64 ⟨by decide, rfl, by decide⟩ rfl rfl (nA (by decide)) (ix := 21) lk_411 (by decide +kernel) ?_
  refine g_iload_n C 1 rfl (by decide +kernel) ?_
  refine g_iload_n C 2 rfl (by decide +kernel) ?_
  refine g_iload_n C 1 rfl (by decide +kernel) ?_
  refine g_isub C (by decide +kernel) ?_
  refine g_iconst C 1 (cK rfl) (by decide +kernel) ?_
  refine g_isub C (by decide +kernel) ?_
  obtain ⟨hb4_, h⟩ := ck_some h
  refine g_copyi C 68 68 rfl rfl cd_A68 cd_A68 (nA (by decide)) (nA (by decide)) (w32_c _) hp1 (w32_c _) hb4_ (ix := 65) lk_1315 lk_584 lk_583 lk_15 ⟨Nat.le_of_ble_eq_true rfl, by decide +kernel⟩ (Nat.le_of_ble_eq_true rfl) (by decide +kernel) ?_
  obtain ⟨rfl, rfl⟩ := ret_inj h
  exact g_vret C hlk hr (by decide +kernel)
/-! PollBooks$Jury.strikeOne(Z)V -/
def y_Ju_strikeOne : MethodName := ⟨"PollBooks$Jury", "strikeOne", "(Z)V"⟩
def rm_Ju_strikeOne : Room := { frames := 0, cells := 0, slots := 0, locals := 0 }
theorem mw_Ju_strikeOne : MW y_Ju_strikeOne prog_4_method_12_code 5 none 1 := ⟨lk_1319, lk_12, by decide +kernel⟩
def L_Ju_strikeOne_b81 (x1 x2 x3 : Int) (d : Dt) : Option ((Int × Int × Int × Dt) ⊕ ((Int × Dt))) :=
  some (Sum.inl (x1, x2, (w32 (x3 + 1)), d))
def L_Ju_strikeOne_b80 (x1 x3 s0 : Int) (d : Dt) : Option ((Int × Int × Int × Dt) ⊕ ((Int × Dt))) :=
  L_Ju_strikeOne_b81 x1 s0 x3 d
def L_Ju_strikeOne_b68 (x1 x2 x3 s0 : Int) (d : Dt) : Option ((Int × Int × Int × Dt) ⊕ ((Int × Dt))) :=
  if s0 = 0 then L_Ju_strikeOne_b80 x1 x3 x2 d else L_Ju_strikeOne_b80 x1 x3 x3 d
def L_Ju_strikeOne_y4 (x1 x2 x3 : Int) (d : Dt) : Option ((Int × Int × Int × Dt) ⊕ ((Int × Dt))) :=
  if x3 < (d 64 2) then ck ((0 : Int) ≤ x3 ∧ x3 < 30) (if (d 69 x3.toNat) = 0 then L_Ju_strikeOne_b81 x1 x2 x3 d else if x2 = (-1) then L_Ju_strikeOne_b68 x1 x2 x3 1 d else if x1 = 0 then ck ((0 : Int) ≤ x3 ∧ x3 < 30) (ck ((0 : Int) ≤ x2 ∧ x2 < 30) (if (d 65 x2.toNat) < (d 65 x3.toNat) then L_Ju_strikeOne_b68 x1 x2 x3 1 d else L_Ju_strikeOne_b68 x1 x2 x3 0 d)) else ck ((0 : Int) ≤ x3 ∧ x3 < 30) (ck ((0 : Int) ≤ x2 ∧ x2 < 30) (if (d 65 x3.toNat) < (d 65 x2.toNat) then L_Ju_strikeOne_b68 x1 x2 x3 1 d else L_Ju_strikeOne_b68 x1 x2 x3 0 d))) else some (Sum.inr (x2, d))
def L_Ju_strikeOne_l4 (x1 x2 x3 : Int) (d : Dt) : Option ((Int × Dt)) := lpF (fun q : Int × Int × Int × Dt => L_Ju_strikeOne_y4 q.1 q.2.1 q.2.2.1 q.2.2.2) FU (x1, x2, x3, d)
def L_Ju_strikeOne (p1 : Int) (d : Dt) : Option (Int × Dt) :=
  lb (L_Ju_strikeOne_l4 p1 (-1) 0 d) (fun q26_ => u1 q26_ (fun v21_ d22_ => if v21_ = (-1) then some (0, d22_) else ck ((0 : Int) ≤ v21_ ∧ v21_ < 30) (some (0, (up2 d22_ 69 v21_.toNat 0)))))
set_option maxHeartbeats 4000000 in
theorem ok_Ju_strikeOne_b81 {p : Program} {l : Launch} {e : Env} {s : State} {m : MethodId} {args : Array Value} {below : List Frame} {meth : Method} {c : Code} {D : va_G} {cA : Nat → ClassId} {ad : Nat → Nat} {A : Nat → Prop} (C : Cx p s m args c prog_4_method_12_code 5 "PollBooks$Jury" D cA ad 0 A) {Q : State → Prop} {o : (Int × Int × Int × Dt) ⊕ ((Int × Dt))} (x1 x2 x3 : Int) (d : Dt) (hx1 : cb x1) (hx2 : c32 x2) (hx3 : c32 x3) (h : L_Ju_strikeOne_b81 x1 x2 x3 d = some o) (kb : ∀ (y0 y1 y2 : Int) (e' : Dt), o = .inl (y0, y1, y2, e') → cb y0 → c32 y1 → c32 y2 → G p l e rm_Ju_strikeOne s m args below meth c 0 0 Q 5 D cA ad 0 A 4 [(2, 64), (0, y0), (0, y1), (0, y2), (9, 0)] [] e') (k0 : ∀ (y0 : Int) (e' : Dt), o = .inr (y0, e') → c32 y0 → G p l e rm_Ju_strikeOne s m args below meth c 0 0 Q 5 D cA ad 0 A 87 [(2, 64), (9, 0), (0, y0), (9, 0), (9, 0)] [] e') : G p l e rm_Ju_strikeOne s m args below meth c 0 0 Q 5 D cA ad 0 A 81 [(2, 64), (0, x1), (0, x2), (0, x3), (9, 0)] [] d := by
  unfold L_Ju_strikeOne_b81 at h
  refine s_iinc C 3 1 (lo' := [(2, 64), (0, x1), (0, x2), (0, (w32 (x3 + 1))), (9, 0)]) rfl (by decide) (s1k (s1k (s1n (by decide) s1z))) (by decide +kernel) ?_
  refine g_goto C 4 (off := (-80)) (by decide +kernel) (by decide) ?_
  refine g_sub (lo2 := [(2, 64), (0, x1), (0, x2), (0, (w32 (x3 + 1))), (9, 0)]) (lsb_v (lsb_v (lsb_v (lsb_v (lsb_c lsb_e))))) ?_
  obtain rfl := Option.some.inj h
  exact kb x1 x2 (w32 (x3 + 1)) d rfl hx1 hx2 (w32_c _)
set_option maxHeartbeats 4000000 in
theorem ok_Ju_strikeOne_b80 {p : Program} {l : Launch} {e : Env} {s : State} {m : MethodId} {args : Array Value} {below : List Frame} {meth : Method} {c : Code} {D : va_G} {cA : Nat → ClassId} {ad : Nat → Nat} {A : Nat → Prop} (C : Cx p s m args c prog_4_method_12_code 5 "PollBooks$Jury" D cA ad 0 A) {Q : State → Prop} {o : (Int × Int × Int × Dt) ⊕ ((Int × Dt))} (x1 x3 s0 : Int) (d : Dt) (hx1 : cb x1) (hx3 : c32 x3) (hs0 : c32 s0) (h : L_Ju_strikeOne_b80 x1 x3 s0 d = some o) (kb : ∀ (y0 y1 y2 : Int) (e' : Dt), o = .inl (y0, y1, y2, e') → cb y0 → c32 y1 → c32 y2 → G p l e rm_Ju_strikeOne s m args below meth c 0 0 Q 5 D cA ad 0 A 4 [(2, 64), (0, y0), (0, y1), (0, y2), (9, 0)] [] e') (k0 : ∀ (y0 : Int) (e' : Dt), o = .inr (y0, e') → c32 y0 → G p l e rm_Ju_strikeOne s m args below meth c 0 0 Q 5 D cA ad 0 A 87 [(2, 64), (9, 0), (0, y0), (9, 0), (9, 0)] [] e') : G p l e rm_Ju_strikeOne s m args below meth c 0 0 Q 5 D cA ad 0 A 80 [(2, 64), (0, x1), (9, 0), (0, x3), (9, 0)] [(0, s0)] d := by
  unfold L_Ju_strikeOne_b80 at h
  refine s_istore_n C 2 (lo' := [(2, 64), (0, x1), (0, s0), (0, x3), (9, 0)]) (by decide) (s1k (s1n (by decide) s1z)) (by decide +kernel) ?_
  refine g_sub (lo2 := [(2, 64), (0, x1), (0, s0), (0, x3), (9, 0)]) (lsb_v (lsb_v (lsb_v (lsb_v (lsb_c lsb_e))))) ?_
  exact ok_Ju_strikeOne_b81 C x1 s0 x3 d hx1 hs0 hx3 h kb k0
set_option maxHeartbeats 4000000 in
theorem ok_Ju_strikeOne_b68 {p : Program} {l : Launch} {e : Env} {s : State} {m : MethodId} {args : Array Value} {below : List Frame} {meth : Method} {c : Code} {D : va_G} {cA : Nat → ClassId} {ad : Nat → Nat} {A : Nat → Prop} (C : Cx p s m args c prog_4_method_12_code 5 "PollBooks$Jury" D cA ad 0 A) {Q : State → Prop} {o : (Int × Int × Int × Dt) ⊕ ((Int × Dt))} (x1 x2 x3 s0 : Int) (d : Dt) (hx1 : cb x1) (hx2 : c32 x2) (hx3 : c32 x3) (hs0 : cb s0) (h : L_Ju_strikeOne_b68 x1 x2 x3 s0 d = some o) (kb : ∀ (y0 y1 y2 : Int) (e' : Dt), o = .inl (y0, y1, y2, e') → cb y0 → c32 y1 → c32 y2 → G p l e rm_Ju_strikeOne s m args below meth c 0 0 Q 5 D cA ad 0 A 4 [(2, 64), (0, y0), (0, y1), (0, y2), (9, 0)] [] e') (k0 : ∀ (y0 : Int) (e' : Dt), o = .inr (y0, e') → c32 y0 → G p l e rm_Ju_strikeOne s m args below meth c 0 0 Q 5 D cA ad 0 A 87 [(2, 64), (9, 0), (0, y0), (9, 0), (9, 0)] [] e') : G p l e rm_Ju_strikeOne s m args below meth c 0 0 Q 5 D cA ad 0 A 68 [(2, 64), (0, x1), (0, x2), (0, x3), (9, 0)] [(0, s0)] d := by
  unfold L_Ju_strikeOne_b68 at h
  refine s_istore C 4 (lo' := [(2, 64), (0, x1), (0, x2), (0, x3), (0, s0)]) (by decide) (s1k (s1k (s1k (s1n (by decide) s1z)))) (by decide +kernel) ?_
  refine g_iload C 4 rfl (by decide +kernel) ?_
  refine g_if_eq C (off := 7) (tgt := 79) (c32_cb hs0) (by decide +kernel) (by decide) (fun hc1_ => ?_) (fun hc1_ => ?_)
  · replace h := ite_t hc1_ h
    refine g_iload_n C 2 rfl (by decide +kernel) ?_
    refine g_sub (lo2 := [(2, 64), (0, x1), (9, 0), (0, x3), (9, 0)]) (lsb_v (lsb_v (lsb_c (lsb_v (lsb_c lsb_e))))) ?_
    exact ok_Ju_strikeOne_b80 C x1 x3 x2 d hx1 hx3 hx2 h kb k0
  · replace h := ite_f hc1_ h
    refine g_iload_n C 3 rfl (by decide +kernel) ?_
    refine g_goto C 80 (off := 4) (by decide +kernel) (by decide) ?_
    refine g_sub (lo2 := [(2, 64), (0, x1), (9, 0), (0, x3), (9, 0)]) (lsb_v (lsb_v (lsb_c (lsb_v (lsb_c lsb_e))))) ?_
    exact ok_Ju_strikeOne_b80 C x1 x3 x3 d hx1 hx3 hx3 h kb k0
set_option maxHeartbeats 4000000 in
theorem ok_Ju_strikeOne_y4 {p : Program} {l : Launch} {e : Env} {s : State} {m : MethodId} {args : Array Value} {below : List Frame} {meth : Method} {c : Code} {D : va_G} {cA : Nat → ClassId} {ad : Nat → Nat} {A : Nat → Prop} (C : Cx p s m args c prog_4_method_12_code 5 "PollBooks$Jury" D cA ad 0 A) {Q : State → Prop} {o : (Int × Int × Int × Dt) ⊕ ((Int × Dt))} (x1 x2 x3 : Int) (d : Dt) (hx1 : cb x1) (hx2 : c32 x2) (hx3 : c32 x3) (h : L_Ju_strikeOne_y4 x1 x2 x3 d = some o) (kb : ∀ (y0 y1 y2 : Int) (e' : Dt), o = .inl (y0, y1, y2, e') → cb y0 → c32 y1 → c32 y2 → G p l e rm_Ju_strikeOne s m args below meth c 0 0 Q 5 D cA ad 0 A 4 [(2, 64), (0, y0), (0, y1), (0, y2), (9, 0)] [] e') (k0 : ∀ (y0 : Int) (e' : Dt), o = .inr (y0, e') → c32 y0 → G p l e rm_Ju_strikeOne s m args below meth c 0 0 Q 5 D cA ad 0 A 87 [(2, 64), (9, 0), (0, y0), (9, 0), (9, 0)] [] e') : G p l e rm_Ju_strikeOne s m args below meth c 0 0 Q 5 D cA ad 0 A 4 [(2, 64), (0, x1), (0, x2), (0, x3), (9, 0)] [] d := by
  unfold L_Ju_strikeOne_y4 at h
  refine g_iload_n C 3 rfl (by decide +kernel) ?_
  refine g_aload_n C 0 rfl (by decide +kernel) ?_
  refine g_getI C cl2 64 2 rfl cd_A64 ⟨by decide, rfl, by decide⟩ rfl (nA (by decide)) (ix := 31) lk_409 (by decide +kernel) (fun hc2_ => ?_)
  refine g_icmp_ge C (off := 78) (tgt := 87) hx3 hc2_ (by decide +kernel) (by decide) (fun hc3_ => ?_) (fun hc3_ => ?_)
  · replace h := ite_t hc3_ h
    refine g_aload_n C 0 rfl (by decide +kernel) ?_
    refine g_getR C cl2 64 5 69 rfl cd_A64 ⟨by decide, rfl, by decide⟩ rfl rfl (nA (by decide)) (ix := 24) lk_412 (by decide +kernel) ?_
    refine g_iload_n C 3 rfl (by decide +kernel) ?_
    obtain ⟨hb4_, h⟩ := ck_some h
    refine g_zald C 69 hx3 rfl cd_A69 (nA (by decide)) hb4_ (by decide +kernel) (fun hc5_ => ?_)
    refine g_if_eq C (off := 63) (tgt := 81) (c32_cb hc5_) (by decide +kernel) (by decide) (fun hc6_ => ?_) (fun hc6_ => ?_)
    · replace h := ite_t hc6_ h
      refine g_sub (lo2 := [(2, 64), (0, x1), (0, x2), (0, x3), (9, 0)]) (lsb_v (lsb_v (lsb_v (lsb_v (lsb_c lsb_e))))) ?_
      exact ok_Ju_strikeOne_b81 C x1 x2 x3 d hx1 hx2 hx3 h kb k0
    · replace h := ite_f hc6_ h
      refine g_iload_n C 2 rfl (by decide +kernel) ?_
      refine g_iconst C (-1) (cK rfl) (by decide +kernel) ?_
      refine g_icmp_eq C (off := 40) (tgt := 63) hx2 (cK rfl) (by decide +kernel) (by decide) (fun hc7_ => ?_) (fun hc7_ => ?_)
      · replace h := ite_t hc7_ h
        refine g_iconst C 1 (cK rfl) (by decide +kernel) ?_
        refine g_goto C 68 (off := 4) (by decide +kernel) (by decide) ?_
        refine g_sub (lo2 := [(2, 64), (0, x1), (0, x2), (0, x3), (9, 0)]) (lsb_v (lsb_v (lsb_v (lsb_v (lsb_c lsb_e))))) ?_
        exact ok_Ju_strikeOne_b68 C x1 x2 x3 1 d hx1 hx2 hx3 (Or.inr rfl) h kb k0
      · replace h := ite_f hc7_ h
        refine g_iload_n C 1 rfl (by decide +kernel) ?_
        refine g_if_eq C (off := 21) (tgt := 48) (c32_cb hx1) (by decide +kernel) (by decide) (fun hc8_ => ?_) (fun hc8_ => ?_)
        · replace h := ite_t hc8_ h
          refine g_aload_n C 0 rfl (by decide +kernel) ?_
          refine g_getR C cl2 64 0 65 rfl cd_A64 ⟨by decide, rfl, by decide⟩ rfl rfl (nA (by decide)) (ix := 11) lk_407 (by decide +kernel) ?_
          refine g_iload_n C 3 rfl (by decide +kernel) ?_
          obtain ⟨hb9_, h⟩ := ck_some h
          refine g_iald C 65 hx3 rfl cd_A65 (nA (by decide)) hb9_ (by decide +kernel) (fun hc10_ => ?_)
          refine g_aload_n C 0 rfl (by decide +kernel) ?_
          refine g_getR C cl2 64 0 65 rfl cd_A64 ⟨by decide, rfl, by decide⟩ rfl rfl (nA (by decide)) (ix := 11) lk_407 (by decide +kernel) ?_
          refine g_iload_n C 2 rfl (by decide +kernel) ?_
          obtain ⟨hb11_, h⟩ := ck_some h
          refine g_iald C 65 hx2 rfl cd_A65 (nA (by decide)) hb11_ (by decide +kernel) (fun hc12_ => ?_)
          refine g_icmp_le C (off := 7) (tgt := 67) hc10_ hc12_ (by decide +kernel) (by decide) (fun hc13_ => ?_) (fun hc13_ => ?_)
          · replace h := ite_t hc13_ h
            refine g_iconst C 1 (cK rfl) (by decide +kernel) ?_
            refine g_goto C 68 (off := 4) (by decide +kernel) (by decide) ?_
            refine g_sub (lo2 := [(2, 64), (0, x1), (0, x2), (0, x3), (9, 0)]) (lsb_v (lsb_v (lsb_v (lsb_v (lsb_c lsb_e))))) ?_
            exact ok_Ju_strikeOne_b68 C x1 x2 x3 1 d hx1 hx2 hx3 (Or.inr rfl) h kb k0
          · replace h := ite_f hc13_ h
            refine g_iconst C 0 (cK rfl) (by decide +kernel) ?_
            refine g_sub (lo2 := [(2, 64), (0, x1), (0, x2), (0, x3), (9, 0)]) (lsb_v (lsb_v (lsb_v (lsb_v (lsb_c lsb_e))))) ?_
            exact ok_Ju_strikeOne_b68 C x1 x2 x3 0 d hx1 hx2 hx3 (Or.inl rfl) h kb k0
        · replace h := ite_f hc8_ h
          refine g_aload_n C 0 rfl (by decide +kernel) ?_
          refine g_getR C cl2 64 0 65 rfl cd_A64 ⟨by decide, rfl, by decide⟩ rfl rfl (nA (by decide)) (ix := 11) lk_407 (by decide +kernel) ?_
          refine g_iload_n C 3 rfl (by decide +kernel) ?_
          obtain ⟨hb14_, h⟩ := ck_some h
          refine g_iald C 65 hx3 rfl cd_A65 (nA (by decide)) hb14_ (by decide +kernel) (fun hc15_ => ?_)
          refine g_aload_n C 0 rfl (by decide +kernel) ?_
          refine g_getR C cl2 64 0 65 rfl cd_A64 ⟨by decide, rfl, by decide⟩ rfl rfl (nA (by decide)) (ix := 11) lk_407 (by decide +kernel) ?_
          refine g_iload_n C 2 rfl (by decide +kernel) ?_
          obtain ⟨hb16_, h⟩ := ck_some h
          refine g_iald C 65 hx2 rfl cd_A65 (nA (by decide)) hb16_ (by decide +kernel) (fun hc17_ => ?_)
          refine g_icmp_ge C (off := 25) (tgt := 67) hc15_ hc17_ (by decide +kernel) (by decide) (fun hc18_ => ?_) (fun hc18_ => ?_)
          · replace h := ite_t hc18_ h
            refine g_goto C 63 (off := 18) (by decide +kernel) (by decide) ?_
            refine g_iconst C 1 (cK rfl) (by decide +kernel) ?_
            refine g_goto C 68 (off := 4) (by decide +kernel) (by decide) ?_
            refine g_sub (lo2 := [(2, 64), (0, x1), (0, x2), (0, x3), (9, 0)]) (lsb_v (lsb_v (lsb_v (lsb_v (lsb_c lsb_e))))) ?_
            exact ok_Ju_strikeOne_b68 C x1 x2 x3 1 d hx1 hx2 hx3 (Or.inr rfl) h kb k0
          · replace h := ite_f hc18_ h
            refine g_iconst C 0 (cK rfl) (by decide +kernel) ?_
            refine g_sub (lo2 := [(2, 64), (0, x1), (0, x2), (0, x3), (9, 0)]) (lsb_v (lsb_v (lsb_v (lsb_v (lsb_c lsb_e))))) ?_
            exact ok_Ju_strikeOne_b68 C x1 x2 x3 0 d hx1 hx2 hx3 (Or.inl rfl) h kb k0
  · replace h := ite_f hc3_ h
    refine g_sub (lo2 := [(2, 64), (9, 0), (0, x2), (9, 0), (9, 0)]) (lsb_v (lsb_c (lsb_v (lsb_c (lsb_c lsb_e))))) ?_
    obtain rfl := Option.some.inj h
    exact k0 x2 d rfl hx2
set_option maxHeartbeats 4000000 in
theorem ok_Ju_strikeOne_n4 {p : Program} {l : Launch} {e : Env} {s : State} {m : MethodId} {args : Array Value} {below : List Frame} {meth : Method} {c : Code} {D : va_G} {cA : Nat → ClassId} {ad : Nat → Nat} {A : Nat → Prop} (C : Cx p s m args c prog_4_method_12_code 5 "PollBooks$Jury" D cA ad 0 A) {Q : State → Prop} {x : (Int × Dt)} : ∀ (n : Nat) (x1 x2 x3 : Int) (d : Dt), cb x1 → c32 x2 → c32 x3 → lpF (fun q : Int × Int × Int × Dt => L_Ju_strikeOne_y4 q.1 q.2.1 q.2.2.1 q.2.2.2) n (x1, x2, x3, d) = some x → (∀ (y0 : Int) (e' : Dt), x = (y0, e') → c32 y0 → G p l e rm_Ju_strikeOne s m args below meth c 0 0 Q 5 D cA ad 0 A 87 [(2, 64), (9, 0), (0, y0), (9, 0), (9, 0)] [] e') → G p l e rm_Ju_strikeOne s m args below meth c 0 0 Q 5 D cA ad 0 A 4 [(2, 64), (0, x1), (0, x2), (0, x3), (9, 0)] [] d := by
  intro n
  induction n with
  | zero => intro x1 x2 x3 d g0 g1 g2 h k0; cases h
  | succ n ih =>
    intro x1 x2 x3 d g0 g1 g2 h k0
    rcases lpF_some h with h | ⟨⟨v0_, v1_, v2_, e0_⟩, h1, h⟩
    · exact ok_Ju_strikeOne_y4 C x1 x2 x3 d g0 g1 g2 h (fun z0_ z1_ z2_ e1_ eq w0_ w1_ w2_ => by cases eq) (fun z0_ e1_ eq w0_ => k0 _ _ (by cases eq; rfl) w0_)
    · exact ok_Ju_strikeOne_y4 C x1 x2 x3 d g0 g1 g2 h1 (fun z0_ z1_ z2_ e1_ eq w0_ w1_ w2_ => by cases eq; exact ih _ _ _ _ w0_ w1_ w2_ h k0) (fun z0_ e1_ eq w0_ => by cases eq)
set_option maxHeartbeats 4000000 in
theorem ok_Ju_strikeOne_l4 {p : Program} {l : Launch} {e : Env} {s : State} {m : MethodId} {args : Array Value} {below : List Frame} {meth : Method} {c : Code} {D : va_G} {cA : Nat → ClassId} {ad : Nat → Nat} {A : Nat → Prop} (C : Cx p s m args c prog_4_method_12_code 5 "PollBooks$Jury" D cA ad 0 A) {Q : State → Prop} {x : (Int × Dt)} (x1 x2 x3 : Int) (d : Dt) (hx1 : cb x1) (hx2 : c32 x2) (hx3 : c32 x3) (h : L_Ju_strikeOne_l4 x1 x2 x3 d = some x) (k0 : ∀ (y0 : Int) (e' : Dt), x = (y0, e') → c32 y0 → G p l e rm_Ju_strikeOne s m args below meth c 0 0 Q 5 D cA ad 0 A 87 [(2, 64), (9, 0), (0, y0), (9, 0), (9, 0)] [] e') : G p l e rm_Ju_strikeOne s m args below meth c 0 0 Q 5 D cA ad 0 A 4 [(2, 64), (0, x1), (0, x2), (0, x3), (9, 0)] [] d :=
  ok_Ju_strikeOne_n4 C FU x1 x2 x3 d hx1 hx2 hx3 h k0
set_option maxHeartbeats 4000000 in
theorem ok_Ju_strikeOne {l : Launch} {r : Int} {d' : Dt} (p1 : Int) (d : Dt) (hp1 : cb p1) (h : L_Ju_strikeOne p1 d = some (r, d')) : MC l y_Ju_strikeOne prog_4_method_12_code 5 none rm_Ju_strikeOne 0 [(2, 64), (0, p1)] d none d' := by
  refine MC.of (by decide) (Nat.le_of_ble_eq_true rfl) ?_
  intro p e s m args below meth c D cA ad A C hlk hr
  replace C : Cx p s m args c prog_4_method_12_code 5 "PollBooks$Jury" D cA ad 0 A := C
  show G p l e rm_Ju_strikeOne s m args below meth c 0 0 (MQ below (fun _ => QC D cA ad 0 A none none d') args s 0 0 A) 5 D cA ad 0 A 0 [(2, 64), (0, p1)] [] d
  refine g_sub (lo2 := [(2, 64), (0, p1), (9, 0), (9, 0), (9, 0)]) (lsb_v (lsb_v (lsb_n (lsb_n (lsb_n lsb_e))))) ?_
  unfold L_Ju_strikeOne at h
  refine g_iconst C (-1) (cK rfl) (by decide +kernel) ?_
  refine s_istore_n C 2 (lo' := [(2, 64), (0, p1), (0, (-1)), (9, 0), (9, 0)]) (by decide) (s1k (s1n (by decide) s1z)) (by decide +kernel) ?_
  refine g_iconst C 0 (cK rfl) (by decide +kernel) ?_
  refine s_istore_n C 3 (lo' := [(2, 64), (0, p1), (0, (-1)), (0, 0), (9, 0)]) (by decide) (s1k (s1k (s1n (by decide) s1z))) (by decide +kernel) ?_
  refine g_sub (lo2 := [(2, 64), (0, p1), (0, (-1)), (0, 0), (9, 0)]) (lsb_v (lsb_v (lsb_v (lsb_v (lsb_c lsb_e))))) ?_
  obtain ⟨x19_, hx20_, h⟩ := lb_some h
  refine ok_Ju_strikeOne_l4 C p1 (-1) 0 d hp1 (cK rfl) (c32_cb (Or.inl rfl)) hx20_ (fun v21_ d22_ eq23_ hv21_ => ?_)
  subst eq23_
  replace h := u1_e h
  refine g_iload_n C 2 rfl (by decide +kernel) ?_
  refine g_iconst C (-1) (cK rfl) (by decide +kernel) ?_
  refine g_icmp_eq C (off := 10) (tgt := 99) hv21_ (cK rfl) (by decide +kernel) (by decide) (fun hc24_ => ?_) (fun hc24_ => ?_)
  · replace h := ite_t hc24_ h
    obtain ⟨rfl, rfl⟩ := ret_inj h
    exact g_vret C hlk hr (by decide +kernel)
  · replace h := ite_f hc24_ h
    refine g_aload_n C 0 rfl (by decide +kernel) ?_
    refine g_getR C cl2 64 5 69 rfl cd_A64 ⟨by decide, rfl, by decide⟩ rfl rfl (nA (by decide)) (ix := 24) lk_412 (by decide +kernel) ?_
    refine g_iload_n C 2 rfl (by decide +kernel) ?_
    refine g_iconst C 0 (cK rfl) (by decide +kernel) ?_
    obtain ⟨hb25_, h⟩ := ck_some h
    refine g_zast C 69 (Or.inl rfl) hv21_ rfl cd_A69 (nA (by decide)) hb25_ (by decide +kernel) ?_
    obtain ⟨rfl, rfl⟩ := ret_inj h
    exact g_vret C hlk hr (by decide +kernel)
/-! PollBooks$Jury.fillBench()V -/
def y_Ju_fillBench : MethodName := ⟨"PollBooks$Jury", "fillBench", "()V"⟩
def rm_Ju_fillBench : Room := { frames := 0, cells := 0, slots := 0, locals := 0 }
theorem mw_Ju_fillBench : MW y_Ju_fillBench prog_4_method_13_code 2 none 0 := ⟨lk_1323, lk_12, by decide +kernel⟩
def L_Ju_fillBench_b44 (x1 : Int) (d : Dt) : Option ((Int × Dt) ⊕ ((Dt))) :=
  some (Sum.inl ((w32 (x1 + 1)), d))
def L_Ju_fillBench_y7 (x1 : Int) (d : Dt) : Option ((Int × Dt) ⊕ ((Dt))) :=
  if x1 < (d 64 2) then ck ((0 : Int) ≤ x1 ∧ x1 < 30) (if (d 69 x1.toNat) = 0 then L_Ju_fillBench_b44 x1 d else ck ((0 : Int) ≤ (d 64 7) ∧ (d 64 7) < 30) (L_Ju_fillBench_b44 x1 (up2 (up2 d 70 ((d 64 7)).toNat x1) 64 7 (w32 ((d 64 7) + 1))))) else some (Sum.inr (d))
def L_Ju_fillBench_l7 (x1 : Int) (d : Dt) : Option ((Dt)) := lpF (fun q : Int × Dt => L_Ju_fillBench_y7 q.1 q.2) FU (x1, d)
def L_Ju_fillBench (d : Dt) : Option (Int × Dt) :=
  lb (L_Ju_fillBench_l7 0 (up2 d 64 7 0)) (fun q13_ => u0 q13_ (fun d11_ => some (0, d11_)))
set_option maxHeartbeats 4000000 in
theorem ok_Ju_fillBench_b44 {p : Program} {l : Launch} {e : Env} {s : State} {m : MethodId} {args : Array Value} {below : List Frame} {meth : Method} {c : Code} {D : va_G} {cA : Nat → ClassId} {ad : Nat → Nat} {A : Nat → Prop} (C : Cx p s m args c prog_4_method_13_code 2 "PollBooks$Jury" D cA ad 0 A) {Q : State → Prop} {o : (Int × Dt) ⊕ ((Dt))} (x1 : Int) (d : Dt) (hx1 : c32 x1) (h : L_Ju_fillBench_b44 x1 d = some o) (kb : ∀ (y0 : Int) (e' : Dt), o = .inl (y0, e') → c32 y0 → G p l e rm_Ju_fillBench s m args below meth c 0 0 Q 2 D cA ad 0 A 7 [(2, 64), (0, y0)] [] e') (k0 : ∀ (e' : Dt), o = .inr (e') → G p l e rm_Ju_fillBench s m args below meth c 0 0 Q 2 D cA ad 0 A 50 [(9, 0), (9, 0)] [] e') : G p l e rm_Ju_fillBench s m args below meth c 0 0 Q 2 D cA ad 0 A 44 [(2, 64), (0, x1)] [] d := by
  unfold L_Ju_fillBench_b44 at h
  refine s_iinc C 1 1 (lo' := [(2, 64), (0, (w32 (x1 + 1)))]) rfl (by decide) (s1n (by decide) s1z) (by decide +kernel) ?_
  refine g_goto C 7 (off := (-40)) (by decide +kernel) (by decide) ?_
  refine g_sub (lo2 := [(2, 64), (0, (w32 (x1 + 1)))]) (lsb_v (lsb_v lsb_e)) ?_
  obtain rfl := Option.some.inj h
  exact kb (w32 (x1 + 1)) d rfl (w32_c _)
set_option maxHeartbeats 4000000 in
theorem ok_Ju_fillBench_y7 {p : Program} {l : Launch} {e : Env} {s : State} {m : MethodId} {args : Array Value} {below : List Frame} {meth : Method} {c : Code} {D : va_G} {cA : Nat → ClassId} {ad : Nat → Nat} {A : Nat → Prop} (C : Cx p s m args c prog_4_method_13_code 2 "PollBooks$Jury" D cA ad 0 A) {Q : State → Prop} {o : (Int × Dt) ⊕ ((Dt))} (x1 : Int) (d : Dt) (hx1 : c32 x1) (h : L_Ju_fillBench_y7 x1 d = some o) (kb : ∀ (y0 : Int) (e' : Dt), o = .inl (y0, e') → c32 y0 → G p l e rm_Ju_fillBench s m args below meth c 0 0 Q 2 D cA ad 0 A 7 [(2, 64), (0, y0)] [] e') (k0 : ∀ (e' : Dt), o = .inr (e') → G p l e rm_Ju_fillBench s m args below meth c 0 0 Q 2 D cA ad 0 A 50 [(9, 0), (9, 0)] [] e') : G p l e rm_Ju_fillBench s m args below meth c 0 0 Q 2 D cA ad 0 A 7 [(2, 64), (0, x1)] [] d := by
  unfold L_Ju_fillBench_y7 at h
  refine g_iload_n C 1 rfl (by decide +kernel) ?_
  refine g_aload_n C 0 rfl (by decide +kernel) ?_
  refine g_getI C cl2 64 2 rfl cd_A64 ⟨by decide, rfl, by decide⟩ rfl (nA (by decide)) (ix := 31) lk_409 (by decide +kernel) (fun hc1_ => ?_)
  refine g_icmp_ge C (off := 38) (tgt := 50) hx1 hc1_ (by decide +kernel) (by decide) (fun hc2_ => ?_) (fun hc2_ => ?_)
  · replace h := ite_t hc2_ h
    refine g_aload_n C 0 rfl (by decide +kernel) ?_
    refine g_getR C cl2 64 5 69 rfl cd_A64 ⟨by decide, rfl, by decide⟩ rfl rfl (nA (by decide)) (ix := 24) lk_412 (by decide +kernel) ?_
    refine g_iload_n C 1 rfl (by decide +kernel) ?_
    obtain ⟨hb3_, h⟩ := ck_some h
    refine g_zald C 69 hx1 rfl cd_A69 (nA (by decide)) hb3_ (by decide +kernel) (fun hc4_ => ?_)
    refine g_if_eq C (off := 23) (tgt := 44) (c32_cb hc4_) (by decide +kernel) (by decide) (fun hc5_ => ?_) (fun hc5_ => ?_)
    · replace h := ite_t hc5_ h
      refine g_sub (lo2 := [(2, 64), (0, x1)]) (lsb_v (lsb_v lsb_e)) ?_
      exact ok_Ju_fillBench_b44 C x1 d hx1 h kb k0
    · replace h := ite_f hc5_ h
      refine g_aload_n C 0 rfl (by decide +kernel) ?_
      refine g_getR C cl2 64 6 70 rfl cd_A64 ⟨by decide, rfl, by decide⟩ rfl rfl (nA (by decide)) (ix := 28) lk_413 (by decide +kernel) ?_
      refine g_aload_n C 0 rfl (by decide +kernel) ?_
      refine g_getI C cl2 64 7 rfl cd_A64 ⟨by decide, rfl, by decide⟩ rfl (nA (by decide)) (ix := 35) lk_414 (by decide +kernel) (fun hc6_ => ?_)
      refine g_iload_n C 1 rfl (by decide +kernel) ?_
      obtain ⟨hb7_, h⟩ := ck_some h
      refine g_iast C 70 hx1 hc6_ rfl cd_A70 (nA (by decide)) hb7_ (by decide +kernel) ?_
      refine g_aload_n C 0 rfl (by decide +kernel) ?_
      refine g_dup C tg2 (by decide +kernel) ?_
      refine g_getI C cl2 64 7 rfl cd_A64 ⟨by decide, rfl, by decide⟩ rfl (nA (by decide)) (ix := 35) lk_414 (by decide +kernel) (fun hc8_ => ?_)
      refine g_val (y := (d 64 7)) rfl ?_
      replace hc8_ : c32 (d 64 7) := hc8_
      refine g_iconst C 1 (cK rfl) (by decide +kernel) ?_
      refine g_iadd C (by decide +kernel) ?_
      refine g_putI C cl2 64 7 (w32_c _) rfl cd_A64 ⟨by decide, rfl, by decide⟩ rfl (nA (by decide)) (ix := 35) lk_414 rfl rfl (by decide +kernel) ?_
      refine g_sub (lo2 := [(2, 64), (0, x1)]) (lsb_v (lsb_v lsb_e)) ?_
      exact ok_Ju_fillBench_b44 C x1 (up2 (up2 d 70 ((d 64 7)).toNat x1) 64 7 (w32 ((d 64 7) + 1))) hx1 h kb k0
  · replace h := ite_f hc2_ h
    refine g_sub (lo2 := [(9, 0), (9, 0)]) (lsb_c (lsb_c lsb_e)) ?_
    obtain rfl := Option.some.inj h
    exact k0 d rfl 
set_option maxHeartbeats 4000000 in
theorem ok_Ju_fillBench_n7 {p : Program} {l : Launch} {e : Env} {s : State} {m : MethodId} {args : Array Value} {below : List Frame} {meth : Method} {c : Code} {D : va_G} {cA : Nat → ClassId} {ad : Nat → Nat} {A : Nat → Prop} (C : Cx p s m args c prog_4_method_13_code 2 "PollBooks$Jury" D cA ad 0 A) {Q : State → Prop} {x : (Dt)} : ∀ (n : Nat) (x1 : Int) (d : Dt), c32 x1 → lpF (fun q : Int × Dt => L_Ju_fillBench_y7 q.1 q.2) n (x1, d) = some x → (∀ (e' : Dt), x = (e') → G p l e rm_Ju_fillBench s m args below meth c 0 0 Q 2 D cA ad 0 A 50 [(9, 0), (9, 0)] [] e') → G p l e rm_Ju_fillBench s m args below meth c 0 0 Q 2 D cA ad 0 A 7 [(2, 64), (0, x1)] [] d := by
  intro n
  induction n with
  | zero => intro x1 d g0 h k0; cases h
  | succ n ih =>
    intro x1 d g0 h k0
    rcases lpF_some h with h | ⟨⟨v0_, e0_⟩, h1, h⟩
    · exact ok_Ju_fillBench_y7 C x1 d g0 h (fun z0_ e1_ eq w0_ => by cases eq) (fun e1_ eq => k0 _ (by cases eq; rfl) )
    · exact ok_Ju_fillBench_y7 C x1 d g0 h1 (fun z0_ e1_ eq w0_ => by cases eq; exact ih _ _ w0_ h k0) (fun e1_ eq => by cases eq)
set_option maxHeartbeats 4000000 in
theorem ok_Ju_fillBench_l7 {p : Program} {l : Launch} {e : Env} {s : State} {m : MethodId} {args : Array Value} {below : List Frame} {meth : Method} {c : Code} {D : va_G} {cA : Nat → ClassId} {ad : Nat → Nat} {A : Nat → Prop} (C : Cx p s m args c prog_4_method_13_code 2 "PollBooks$Jury" D cA ad 0 A) {Q : State → Prop} {x : (Dt)} (x1 : Int) (d : Dt) (hx1 : c32 x1) (h : L_Ju_fillBench_l7 x1 d = some x) (k0 : ∀ (e' : Dt), x = (e') → G p l e rm_Ju_fillBench s m args below meth c 0 0 Q 2 D cA ad 0 A 50 [(9, 0), (9, 0)] [] e') : G p l e rm_Ju_fillBench s m args below meth c 0 0 Q 2 D cA ad 0 A 7 [(2, 64), (0, x1)] [] d :=
  ok_Ju_fillBench_n7 C FU x1 d hx1 h k0
set_option maxHeartbeats 4000000 in
theorem ok_Ju_fillBench {l : Launch} {r : Int} {d' : Dt} (d : Dt)  (h : L_Ju_fillBench d = some (r, d')) : MC l y_Ju_fillBench prog_4_method_13_code 2 none rm_Ju_fillBench 0 [(2, 64)] d none d' := by
  refine MC.of (by decide) (Nat.le_of_ble_eq_true rfl) ?_
  intro p e s m args below meth c D cA ad A C hlk hr
  replace C : Cx p s m args c prog_4_method_13_code 2 "PollBooks$Jury" D cA ad 0 A := C
  show G p l e rm_Ju_fillBench s m args below meth c 0 0 (MQ below (fun _ => QC D cA ad 0 A none none d') args s 0 0 A) 2 D cA ad 0 A 0 [(2, 64)] [] d
  refine g_sub (lo2 := [(2, 64), (9, 0)]) (lsb_v (lsb_n lsb_e)) ?_
  unfold L_Ju_fillBench at h
  refine g_aload_n C 0 rfl (by decide +kernel) ?_
  refine g_iconst C 0 (cK rfl) (by decide +kernel) ?_
  refine g_putI C cl2 64 7 (c32_cb (Or.inl rfl)) rfl cd_A64 ⟨by decide, rfl, by decide⟩ rfl (nA (by decide)) (ix := 35) lk_414 rfl rfl (by decide +kernel) ?_
  refine g_iconst C 0 (cK rfl) (by decide +kernel) ?_
  refine s_istore_n C 1 (lo' := [(2, 64), (0, 0)]) (by decide) (s1n (by decide) s1z) (by decide +kernel) ?_
  refine g_sub (lo2 := [(2, 64), (0, 0)]) (lsb_v (lsb_v lsb_e)) ?_
  obtain ⟨x9_, hx10_, h⟩ := lb_some h
  refine ok_Ju_fillBench_l7 C 0 (up2 d 64 7 0) (c32_cb (Or.inl rfl)) hx10_ (fun d11_ eq12_ => ?_)
  replace eq12_ := eq12_.symm
  subst eq12_
  replace h := u0_e h
  obtain ⟨rfl, rfl⟩ := ret_inj h
  exact g_vret C hlk hr (by decide +kernel)
/-! PollBooks$Jury.form(III)Z -/
def y_Ju_form : MethodName := ⟨"PollBooks$Jury", "form", "(III)Z"⟩
def rm_Ju_form : Room := { frames := 2, cells := 0, slots := 0, locals := 62 }
theorem mw_Ju_form : MW y_Ju_form prog_4_method_8_code 8 (some .boolean) 3 := ⟨lk_1298, lk_12, by decide +kernel⟩
def L_Ju_form_y17 (x1 x2 x3 x4 x5 : Int) (d : Dt) : Option ((Int × Int × Int × Int × Int × Dt) ⊕ ((Int × Int × Int × Int × Dt))) :=
  if x5 < (d 64 2) then ck ((0 : Int) ≤ x5 ∧ x5 < 30) (some (Sum.inl (x1, x2, x3, x4, (w32 (x5 + 1)), (up2 d 69 x5.toNat 0)))) else some (Sum.inr (x1, x2, x3, x4, d))
def L_Ju_form_l17 (x1 x2 x3 x4 x5 : Int) (d : Dt) : Option ((Int × Int × Int × Int × Dt)) := lpF (fun q : Int × Int × Int × Int × Int × Dt => L_Ju_form_y17 q.1 q.2.1 q.2.2.1 q.2.2.2.1 q.2.2.2.2.1 q.2.2.2.2.2) FU (x1, x2, x3, x4, x5, d)
def L_Ju_form_y47 (x1 x2 x4 x5 x7 : Int) (d : Dt) : Option ((Int × Int × Int × Int × Int × Dt) ⊕ ((Int × Int × Dt))) :=
  if x7 < x1 then if 0 < x4 then lt_ (land (w64 ((w64 (1103515245 * x5)) + 12345)) 2147483647) (fun v6_ => ck (¬ x4 = 0) (bd (L_Ju_drawFromPool (w32 (lrem (ldiv v6_ 65536) x4)) x4 d) (fun r11_ d10_ => some (Sum.inl (x1, x2, (w32 (x4 + (-1))), v6_, (w32 (x7 + 1)), d10_))))) else some (Sum.inr (x1, x2, d)) else some (Sum.inr (x1, x2, d))
def L_Ju_form_l47 (x1 x2 x4 x5 x7 : Int) (d : Dt) : Option ((Int × Int × Dt)) := lpF (fun q : Int × Int × Int × Int × Int × Dt => L_Ju_form_y47 q.1 q.2.1 q.2.2.1 q.2.2.2.1 q.2.2.2.2.1 q.2.2.2.2.2) FU (x1, x2, x4, x5, x7, d)
def L_Ju_form_b124 (x1 x2 x7 s1 : Int) (d : Dt) : Option ((Int × Int × Int × Dt) ⊕ ((Dt))) :=
  bd (L_Ju_strikeOne s1 d) (fun r15_ d14_ => some (Sum.inl (x1, x2, (w32 (x7 + 1)), d14_)))
def L_Ju_form_y103 (x1 x2 x7 : Int) (d : Dt) : Option ((Int × Int × Int × Dt) ⊕ ((Dt))) :=
  if x7 < (w32 (x1 - x2)) then if (irem x7 2) = 0 then L_Ju_form_b124 x1 x2 x7 1 d else L_Ju_form_b124 x1 x2 x7 0 d else some (Sum.inr (d))
def L_Ju_form_l103 (x1 x2 x7 : Int) (d : Dt) : Option ((Dt)) := lpF (fun q : Int × Int × Int × Dt => L_Ju_form_y103 q.1 q.2.1 q.2.2.1 q.2.2.2) FU (x1, x2, x7, d)
def L_Ju_form_b100 (x1 x2 : Int) (d : Dt) : Option (Int × Dt) :=
  lb (L_Ju_form_l103 x1 x2 0 d) (fun q28_ => u0 q28_ (fun d22_ => bd (L_Ju_fillBench d22_) (fun r25_ d24_ => some (1, d24_))))
def L_Ju_form (p1 p2 p3 : Int) (d : Dt) : Option (Int × Dt) :=
  bd (L_Ju_fillPool d) (fun r30_ d29_ => if r30_ < p1 then some (0, d29_) else lb (L_Ju_form_l17 p1 p2 p3 r30_ 0 d29_) (fun q49_ => u4 q49_ (fun v36_ v37_ v38_ v39_ d40_ => lb (L_Ju_form_l47 v36_ v37_ v39_ v38_ 0 d40_) (fun q48_ => u2 q48_ (fun v44_ v45_ d46_ => L_Ju_form_b100 v44_ v45_ d46_)))))
set_option maxHeartbeats 4000000 in
theorem ok_Ju_form_y17 {p : Program} {l : Launch} {e : Env} {s : State} {m : MethodId} {args : Array Value} {below : List Frame} {meth : Method} {c : Code} {D : va_G} {cA : Nat → ClassId} {ad : Nat → Nat} {A : Nat → Prop} (C : Cx p s m args c prog_4_method_8_code 8 "PollBooks$Jury" D cA ad 0 A) {Q : State → Prop} {o : (Int × Int × Int × Int × Int × Dt) ⊕ ((Int × Int × Int × Int × Dt))} (x1 x2 x3 x4 x5 : Int) (d : Dt) (hx1 : c32 x1) (hx2 : c32 x2) (hx3 : c32 x3) (hx4 : c32 x4) (hx5 : c32 x5) (h : L_Ju_form_y17 x1 x2 x3 x4 x5 d = some o) (kb : ∀ (y0 y1 y2 y3 y4 : Int) (e' : Dt), o = .inl (y0, y1, y2, y3, y4, e') → c32 y0 → c32 y1 → c32 y2 → c32 y3 → c32 y4 → G p l e rm_Ju_form s m args below meth c 0 0 Q 8 D cA ad 0 A 17 [(2, 64), (0, y0), (0, y1), (0, y2), (0, y3), (0, y4), (9, 0), (9, 0)] [] e') (k0 : ∀ (y0 y1 y2 y3 : Int) (e' : Dt), o = .inr (y0, y1, y2, y3, e') → c32 y0 → c32 y1 → c32 y2 → c32 y3 → G p l e rm_Ju_form s m args below meth c 0 0 Q 8 D cA ad 0 A 40 [(2, 64), (0, y0), (0, y1), (0, y2), (0, y3), (9, 0), (9, 0), (9, 0)] [] e') : G p l e rm_Ju_form s m args below meth c 0 0 Q 8 D cA ad 0 A 17 [(2, 64), (0, x1), (0, x2), (0, x3), (0, x4), (0, x5), (9, 0), (9, 0)] [] d := by
  unfold L_Ju_form_y17 at h
  refine g_iload C 5 rfl (by decide +kernel) ?_
  refine g_aload_n C 0 rfl (by decide +kernel) ?_
  refine g_getI C cl2 64 2 rfl cd_A64 ⟨by decide, rfl, by decide⟩ rfl (nA (by decide)) (ix := 31) lk_409 (by decide +kernel) (fun hc1_ => ?_)
  refine g_icmp_ge C (off := 17) (tgt := 40) hx5 hc1_ (by decide +kernel) (by decide) (fun hc2_ => ?_) (fun hc2_ => ?_)
  · replace h := ite_t hc2_ h
    refine g_aload_n C 0 rfl (by decide +kernel) ?_
    refine g_getR C cl2 64 5 69 rfl cd_A64 ⟨by decide, rfl, by decide⟩ rfl rfl (nA (by decide)) (ix := 24) lk_412 (by decide +kernel) ?_
    refine g_iload C 5 rfl (by decide +kernel) ?_
    refine g_iconst C 0 (cK rfl) (by decide +kernel) ?_
    obtain ⟨hb3_, h⟩ := ck_some h
    refine g_zast C 69 (Or.inl rfl) hx5 rfl cd_A69 (nA (by decide)) hb3_ (by decide +kernel) ?_
    refine s_iinc C 5 1 (lo' := [(2, 64), (0, x1), (0, x2), (0, x3), (0, x4), (0, (w32 (x5 + 1))), (9, 0), (9, 0)]) rfl (by decide) (s1k (s1k (s1k (s1k (s1n (by decide) s1z))))) (by decide +kernel) ?_
    refine g_goto C 17 (off := (-20)) (by decide +kernel) (by decide) ?_
    refine g_sub (lo2 := [(2, 64), (0, x1), (0, x2), (0, x3), (0, x4), (0, (w32 (x5 + 1))), (9, 0), (9, 0)]) (lsb_v (lsb_v (lsb_v (lsb_v (lsb_v (lsb_v (lsb_c (lsb_c lsb_e)))))))) ?_
    obtain rfl := Option.some.inj h
    exact kb x1 x2 x3 x4 (w32 (x5 + 1)) (up2 d 69 x5.toNat 0) rfl hx1 hx2 hx3 hx4 (w32_c _)
  · replace h := ite_f hc2_ h
    refine g_sub (lo2 := [(2, 64), (0, x1), (0, x2), (0, x3), (0, x4), (9, 0), (9, 0), (9, 0)]) (lsb_v (lsb_v (lsb_v (lsb_v (lsb_v (lsb_c (lsb_c (lsb_c lsb_e)))))))) ?_
    obtain rfl := Option.some.inj h
    exact k0 x1 x2 x3 x4 d rfl hx1 hx2 hx3 hx4
set_option maxHeartbeats 4000000 in
theorem ok_Ju_form_n17 {p : Program} {l : Launch} {e : Env} {s : State} {m : MethodId} {args : Array Value} {below : List Frame} {meth : Method} {c : Code} {D : va_G} {cA : Nat → ClassId} {ad : Nat → Nat} {A : Nat → Prop} (C : Cx p s m args c prog_4_method_8_code 8 "PollBooks$Jury" D cA ad 0 A) {Q : State → Prop} {x : (Int × Int × Int × Int × Dt)} : ∀ (n : Nat) (x1 x2 x3 x4 x5 : Int) (d : Dt), c32 x1 → c32 x2 → c32 x3 → c32 x4 → c32 x5 → lpF (fun q : Int × Int × Int × Int × Int × Dt => L_Ju_form_y17 q.1 q.2.1 q.2.2.1 q.2.2.2.1 q.2.2.2.2.1 q.2.2.2.2.2) n (x1, x2, x3, x4, x5, d) = some x → (∀ (y0 y1 y2 y3 : Int) (e' : Dt), x = (y0, y1, y2, y3, e') → c32 y0 → c32 y1 → c32 y2 → c32 y3 → G p l e rm_Ju_form s m args below meth c 0 0 Q 8 D cA ad 0 A 40 [(2, 64), (0, y0), (0, y1), (0, y2), (0, y3), (9, 0), (9, 0), (9, 0)] [] e') → G p l e rm_Ju_form s m args below meth c 0 0 Q 8 D cA ad 0 A 17 [(2, 64), (0, x1), (0, x2), (0, x3), (0, x4), (0, x5), (9, 0), (9, 0)] [] d := by
  intro n
  induction n with
  | zero => intro x1 x2 x3 x4 x5 d g0 g1 g2 g3 g4 h k0; cases h
  | succ n ih =>
    intro x1 x2 x3 x4 x5 d g0 g1 g2 g3 g4 h k0
    rcases lpF_some h with h | ⟨⟨v0_, v1_, v2_, v3_, v4_, e0_⟩, h1, h⟩
    · exact ok_Ju_form_y17 C x1 x2 x3 x4 x5 d g0 g1 g2 g3 g4 h (fun z0_ z1_ z2_ z3_ z4_ e1_ eq w0_ w1_ w2_ w3_ w4_ => by cases eq) (fun z0_ z1_ z2_ z3_ e1_ eq w0_ w1_ w2_ w3_ => k0 _ _ _ _ _ (by cases eq; rfl) w0_ w1_ w2_ w3_)
    · exact ok_Ju_form_y17 C x1 x2 x3 x4 x5 d g0 g1 g2 g3 g4 h1 (fun z0_ z1_ z2_ z3_ z4_ e1_ eq w0_ w1_ w2_ w3_ w4_ => by cases eq; exact ih _ _ _ _ _ _ w0_ w1_ w2_ w3_ w4_ h k0) (fun z0_ z1_ z2_ z3_ e1_ eq w0_ w1_ w2_ w3_ => by cases eq)
set_option maxHeartbeats 4000000 in
theorem ok_Ju_form_l17 {p : Program} {l : Launch} {e : Env} {s : State} {m : MethodId} {args : Array Value} {below : List Frame} {meth : Method} {c : Code} {D : va_G} {cA : Nat → ClassId} {ad : Nat → Nat} {A : Nat → Prop} (C : Cx p s m args c prog_4_method_8_code 8 "PollBooks$Jury" D cA ad 0 A) {Q : State → Prop} {x : (Int × Int × Int × Int × Dt)} (x1 x2 x3 x4 x5 : Int) (d : Dt) (hx1 : c32 x1) (hx2 : c32 x2) (hx3 : c32 x3) (hx4 : c32 x4) (hx5 : c32 x5) (h : L_Ju_form_l17 x1 x2 x3 x4 x5 d = some x) (k0 : ∀ (y0 y1 y2 y3 : Int) (e' : Dt), x = (y0, y1, y2, y3, e') → c32 y0 → c32 y1 → c32 y2 → c32 y3 → G p l e rm_Ju_form s m args below meth c 0 0 Q 8 D cA ad 0 A 40 [(2, 64), (0, y0), (0, y1), (0, y2), (0, y3), (9, 0), (9, 0), (9, 0)] [] e') : G p l e rm_Ju_form s m args below meth c 0 0 Q 8 D cA ad 0 A 17 [(2, 64), (0, x1), (0, x2), (0, x3), (0, x4), (0, x5), (9, 0), (9, 0)] [] d :=
  ok_Ju_form_n17 C FU x1 x2 x3 x4 x5 d hx1 hx2 hx3 hx4 hx5 h k0
set_option maxHeartbeats 4000000 in
theorem ok_Ju_form_y47 {p : Program} {l : Launch} {e : Env} {s : State} {m : MethodId} {args : Array Value} {below : List Frame} {meth : Method} {c : Code} {D : va_G} {cA : Nat → ClassId} {ad : Nat → Nat} {A : Nat → Prop} (C : Cx p s m args c prog_4_method_8_code 8 "PollBooks$Jury" D cA ad 0 A) {Q : State → Prop} {o : (Int × Int × Int × Int × Int × Dt) ⊕ ((Int × Int × Dt))} (x1 x2 x4 x5 x7 : Int) (d : Dt) (hx1 : c32 x1) (hx2 : c32 x2) (hx4 : c32 x4) (hx5 : c64 x5) (hx7 : c32 x7) (h : L_Ju_form_y47 x1 x2 x4 x5 x7 d = some o) (kb : ∀ (y0 y1 y2 y3 y4 : Int) (e' : Dt), o = .inl (y0, y1, y2, y3, y4, e') → c32 y0 → c32 y1 → c32 y2 → c64 y3 → c32 y4 → G p l e rm_Ju_form s m args below meth c 0 0 Q 8 D cA ad 0 A 47 [(2, 64), (0, y0), (0, y1), (9, 0), (0, y2), (1, y3), (9, 0), (0, y4)] [] e') (k0 : ∀ (y0 y1 : Int) (e' : Dt), o = .inr (y0, y1, e') → c32 y0 → c32 y1 → G p l e rm_Ju_form s m args below meth c 0 0 Q 8 D cA ad 0 A 100 [(2, 64), (0, y0), (0, y1), (9, 0), (9, 0), (9, 0), (9, 0), (9, 0)] [] e') : G p l e rm_Ju_form s m args below meth c 0 0 Q 8 D cA ad 0 A 47 [(2, 64), (0, x1), (0, x2), (9, 0), (0, x4), (1, x5), (9, 0), (0, x7)] [] d := by
  unfold L_Ju_form_y47 at h
  refine g_iload C 7 rfl (by decide +kernel) ?_
  refine g_iload_n C 1 rfl (by decide +kernel) ?_
  refine g_icmp_ge C (off := 50) (tgt := 100) hx7 hx1 (by decide +kernel) (by decide) (fun hc4_ => ?_) (fun hc4_ => ?_)
  · replace h := ite_t hc4_ h
    refine g_iload C 4 rfl (by decide +kernel) ?_
    refine g_if_le C (off := 45) (tgt := 100) hx4 (by decide +kernel) (by decide) (fun hc5_ => ?_) (fun hc5_ => ?_)
    · replace h := ite_t hc5_ h
      refine g_ldc2 C (ix := 42) (v := 1103515245) lk_1307 (by decide +kernel) ?_
      refine g_lload C 5 rfl (by decide +kernel) ?_
      refine g_lmul C (by decide +kernel) ?_
      refine g_ldc2 C (ix := 44) (v := 12345) lk_1308 (by decide +kernel) ?_
      refine g_ladd C (by decide +kernel) ?_
      refine g_ldc2 C (ix := 46) (v := 2147483647) lk_1309 (by decide +kernel) ?_
      refine g_land C (by decide +kernel) ?_
      obtain ⟨v6_, ev7_, h⟩ := lt_some h
      refine g_val ev7_.symm ?_
      have hv8_ : c64 v6_ := by rw [ev7_]; exact (l_c _)
      refine s_lstore C 5 (lo' := [(2, 64), (0, x1), (0, x2), (9, 0), (0, x4), (1, v6_), (9, 0), (0, x7)]) (by decide) (s2k (s2k (s2k (s2k (s2n (by decide) s2z))))) (by decide +kernel) ?_
      refine g_aload_n C 0 rfl (by decide +kernel) ?_
      refine g_lload C 5 rfl (by decide +kernel) ?_
      refine g_ldc2 C (ix := 48) (v := 65536) lk_1310 (by decide +kernel) ?_
      refine g_ldiv C (cL rfl) (by decide) (by decide +kernel) ?_
      refine g_iload C 4 rfl (by decide +kernel) ?_
      refine g_i2l C hx4 (by decide +kernel) ?_
      obtain ⟨hc9_, h⟩ := ck_some h
      refine g_lrem C (c64_32 hx4) hc9_ (by decide +kernel) ?_
      refine g_l2i C (by decide +kernel) ?_
      refine g_iload C 4 rfl (by decide +kernel) ?_
      obtain ⟨r11_, d10_, hr12_, h⟩ := bd_some h
      refine g_callV C mw_Ju_drawFromPool [(0, (w32 (lrem (ldiv v6_ 65536) x4))), (0, x4)] 64 cl2 rfl (ok_Ju_drawFromPool (w32 (lrem (ldiv v6_ 65536) x4)) x4 d (w32_c _) hx4 hr12_) cd_A64 (by decide) (nA (by decide)) (ix := 50) lk_1311 lk_1313 lkp_48 ⟨rfl, rfl, Nat.le_of_ble_eq_true rfl, Nat.le_of_ble_eq_true rfl⟩ rfl (rest := []) rfl (Nat.le_of_ble_eq_true rfl) ⟨Nat.zero_le _, Nat.zero_le _⟩ (by decide +kernel) (fun _ hc13_ => ?_)
      refine g_st (st2 := []) rfl ?_
      refine s_iinc C 4 (-1) (lo' := [(2, 64), (0, x1), (0, x2), (9, 0), (0, (w32 (x4 + (-1)))), (1, v6_), (9, 0), (0, x7)]) rfl (by decide) (s1k (s1k (s1k (s1n (by decide) s1z)))) (by decide +kernel) ?_
      refine s_iinc C 7 1 (lo' := [(2, 64), (0, x1), (0, x2), (9, 0), (0, (w32 (x4 + (-1)))), (1, v6_), (9, 0), (0, (w32 (x7 + 1)))]) rfl (by decide) (s1k (s1k (s1k (s1k (s1k (s1k (s1n (by decide) s1z))))))) (by decide +kernel) ?_
      refine g_goto C 47 (off := (-50)) (by decide +kernel) (by decide) ?_
      refine g_sub (lo2 := [(2, 64), (0, x1), (0, x2), (9, 0), (0, (w32 (x4 + (-1)))), (1, v6_), (9, 0), (0, (w32 (x7 + 1)))]) (lsb_v (lsb_v (lsb_v (lsb_c (lsb_v (lsb_v (lsb_c (lsb_v lsb_e)))))))) ?_
      obtain rfl := Option.some.inj h
      exact kb x1 x2 (w32 (x4 + (-1))) v6_ (w32 (x7 + 1)) d10_ rfl hx1 hx2 (w32_c _) hv8_ (w32_c _)
    · replace h := ite_f hc5_ h
      refine g_sub (lo2 := [(2, 64), (0, x1), (0, x2), (9, 0), (9, 0), (9, 0), (9, 0), (9, 0)]) (lsb_v (lsb_v (lsb_v (lsb_c (lsb_c (lsb_c (lsb_c (lsb_c lsb_e)))))))) ?_
      obtain rfl := Option.some.inj h
      exact k0 x1 x2 d rfl hx1 hx2
  · replace h := ite_f hc4_ h
    refine g_sub (lo2 := [(2, 64), (0, x1), (0, x2), (9, 0), (9, 0), (9, 0), (9, 0), (9, 0)]) (lsb_v (lsb_v (lsb_v (lsb_c (lsb_c (lsb_c (lsb_c (lsb_c lsb_e)))))))) ?_
    obtain rfl := Option.some.inj h
    exact k0 x1 x2 d rfl hx1 hx2
set_option maxHeartbeats 4000000 in
theorem ok_Ju_form_n47 {p : Program} {l : Launch} {e : Env} {s : State} {m : MethodId} {args : Array Value} {below : List Frame} {meth : Method} {c : Code} {D : va_G} {cA : Nat → ClassId} {ad : Nat → Nat} {A : Nat → Prop} (C : Cx p s m args c prog_4_method_8_code 8 "PollBooks$Jury" D cA ad 0 A) {Q : State → Prop} {x : (Int × Int × Dt)} : ∀ (n : Nat) (x1 x2 x4 x5 x7 : Int) (d : Dt), c32 x1 → c32 x2 → c32 x4 → c64 x5 → c32 x7 → lpF (fun q : Int × Int × Int × Int × Int × Dt => L_Ju_form_y47 q.1 q.2.1 q.2.2.1 q.2.2.2.1 q.2.2.2.2.1 q.2.2.2.2.2) n (x1, x2, x4, x5, x7, d) = some x → (∀ (y0 y1 : Int) (e' : Dt), x = (y0, y1, e') → c32 y0 → c32 y1 → G p l e rm_Ju_form s m args below meth c 0 0 Q 8 D cA ad 0 A 100 [(2, 64), (0, y0), (0, y1), (9, 0), (9, 0), (9, 0), (9, 0), (9, 0)] [] e') → G p l e rm_Ju_form s m args below meth c 0 0 Q 8 D cA ad 0 A 47 [(2, 64), (0, x1), (0, x2), (9, 0), (0, x4), (1, x5), (9, 0), (0, x7)] [] d := by
  intro n
  induction n with
  | zero => intro x1 x2 x4 x5 x7 d g0 g1 g2 g3 g4 h k0; cases h
  | succ n ih =>
    intro x1 x2 x4 x5 x7 d g0 g1 g2 g3 g4 h k0
    rcases lpF_some h with h | ⟨⟨v0_, v1_, v2_, v3_, v4_, e0_⟩, h1, h⟩
    · exact ok_Ju_form_y47 C x1 x2 x4 x5 x7 d g0 g1 g2 g3 g4 h (fun z0_ z1_ z2_ z3_ z4_ e1_ eq w0_ w1_ w2_ w3_ w4_ => by cases eq) (fun z0_ z1_ e1_ eq w0_ w1_ => k0 _ _ _ (by cases eq; rfl) w0_ w1_)
    · exact ok_Ju_form_y47 C x1 x2 x4 x5 x7 d g0 g1 g2 g3 g4 h1 (fun z0_ z1_ z2_ z3_ z4_ e1_ eq w0_ w1_ w2_ w3_ w4_ => by cases eq; exact ih _ _ _ _ _ _ w0_ w1_ w2_ w3_ w4_ h k0) (fun z0_ z1_ e1_ eq w0_ w1_ => by cases eq)
set_option maxHeartbeats 4000000 in
theorem ok_Ju_form_l47 {p : Program} {l : Launch} {e : Env} {s : State} {m : MethodId} {args : Array Value} {below : List Frame} {meth : Method} {c : Code} {D : va_G} {cA : Nat → ClassId} {ad : Nat → Nat} {A : Nat → Prop} (C : Cx p s m args c prog_4_method_8_code 8 "PollBooks$Jury" D cA ad 0 A) {Q : State → Prop} {x : (Int × Int × Dt)} (x1 x2 x4 x5 x7 : Int) (d : Dt) (hx1 : c32 x1) (hx2 : c32 x2) (hx4 : c32 x4) (hx5 : c64 x5) (hx7 : c32 x7) (h : L_Ju_form_l47 x1 x2 x4 x5 x7 d = some x) (k0 : ∀ (y0 y1 : Int) (e' : Dt), x = (y0, y1, e') → c32 y0 → c32 y1 → G p l e rm_Ju_form s m args below meth c 0 0 Q 8 D cA ad 0 A 100 [(2, 64), (0, y0), (0, y1), (9, 0), (9, 0), (9, 0), (9, 0), (9, 0)] [] e') : G p l e rm_Ju_form s m args below meth c 0 0 Q 8 D cA ad 0 A 47 [(2, 64), (0, x1), (0, x2), (9, 0), (0, x4), (1, x5), (9, 0), (0, x7)] [] d :=
  ok_Ju_form_n47 C FU x1 x2 x4 x5 x7 d hx1 hx2 hx4 hx5 hx7 h k0
set_option maxHeartbeats 4000000 in
theorem ok_Ju_form_b124 {p : Program} {l : Launch} {e : Env} {s : State} {m : MethodId} {args : Array Value} {below : List Frame} {meth : Method} {c : Code} {D : va_G} {cA : Nat → ClassId} {ad : Nat → Nat} {A : Nat → Prop} (C : Cx p s m args c prog_4_method_8_code 8 "PollBooks$Jury" D cA ad 0 A) {Q : State → Prop} {o : (Int × Int × Int × Dt) ⊕ ((Dt))} (x1 x2 x7 s1 : Int) (d : Dt) (hx1 : c32 x1) (hx2 : c32 x2) (hx7 : c32 x7) (hs1 : cb s1) (h : L_Ju_form_b124 x1 x2 x7 s1 d = some o) (kb : ∀ (y0 y1 y2 : Int) (e' : Dt), o = .inl (y0, y1, y2, e') → c32 y0 → c32 y1 → c32 y2 → G p l e rm_Ju_form s m args below meth c 0 0 Q 8 D cA ad 0 A 103 [(2, 64), (0, y0), (0, y1), (9, 0), (9, 0), (9, 0), (9, 0), (0, y2)] [] e') (k0 : ∀ (e' : Dt), o = .inr (e') → G p l e rm_Ju_form s m args below meth c 0 0 Q 8 D cA ad 0 A 133 [(2, 64), (9, 0), (9, 0), (9, 0), (9, 0), (9, 0), (9, 0), (9, 0)] [] e') : G p l e rm_Ju_form s m args below meth c 0 0 Q 8 D cA ad 0 A 124 [(2, 64), (0, x1), (0, x2), (9, 0), (9, 0), (9, 0), (9, 0), (0, x7)] [(0, s1), (2, 64)] d := by
  unfold L_Ju_form_b124 at h
  obtain ⟨r15_, d14_, hr16_, h⟩ := bd_some h
  refine g_callV C mw_Ju_strikeOne [(0, s1)] 64 cl2 rfl (ok_Ju_strikeOne s1 d hs1 hr16_) cd_A64 (by decide) (nA (by decide)) (ix := 54) lk_1316 lk_1318 lkp_49 ⟨rfl, rfl, Nat.le_of_ble_eq_true rfl, Nat.le_of_ble_eq_true rfl⟩ rfl (rest := []) rfl (Nat.le_of_ble_eq_true rfl) ⟨Nat.zero_le _, Nat.zero_le _⟩ (by decide +kernel) (fun _ hc17_ => ?_)
  refine g_st (st2 := []) rfl ?_
  refine s_iinc C 7 1 (lo' := [(2, 64), (0, x1), (0, x2), (9, 0), (9, 0), (9, 0), (9, 0), (0, (w32 (x7 + 1)))]) rfl (by decide) (s1k (s1k (s1k (s1k (s1k (s1k (s1n (by decide) s1z))))))) (by decide +kernel) ?_
  refine g_goto C 103 (off := (-27)) (by decide +kernel) (by decide) ?_
  refine g_sub (lo2 := [(2, 64), (0, x1), (0, x2), (9, 0), (9, 0), (9, 0), (9, 0), (0, (w32 (x7 + 1)))]) (lsb_v (lsb_v (lsb_v (lsb_c (lsb_c (lsb_c (lsb_c (lsb_v lsb_e)))))))) ?_
  obtain rfl := Option.some.inj h
  exact kb x1 x2 (w32 (x7 + 1)) d14_ rfl hx1 hx2 (w32_c _)
set_option maxHeartbeats 4000000 in
theorem ok_Ju_form_y103 {p : Program} {l : Launch} {e : Env} {s : State} {m : MethodId} {args : Array Value} {below : List Frame} {meth : Method} {c : Code} {D : va_G} {cA : Nat → ClassId} {ad : Nat → Nat} {A : Nat → Prop} (C : Cx p s m args c prog_4_method_8_code 8 "PollBooks$Jury" D cA ad 0 A) {Q : State → Prop} {o : (Int × Int × Int × Dt) ⊕ ((Dt))} (x1 x2 x7 : Int) (d : Dt) (hx1 : c32 x1) (hx2 : c32 x2) (hx7 : c32 x7) (h : L_Ju_form_y103 x1 x2 x7 d = some o) (kb : ∀ (y0 y1 y2 : Int) (e' : Dt), o = .inl (y0, y1, y2, e') → c32 y0 → c32 y1 → c32 y2 → G p l e rm_Ju_form s m args below meth c 0 0 Q 8 D cA ad 0 A 103 [(2, 64), (0, y0), (0, y1), (9, 0), (9, 0), (9, 0), (9, 0), (0, y2)] [] e') (k0 : ∀ (e' : Dt), o = .inr (e') → G p l e rm_Ju_form s m args below meth c 0 0 Q 8 D cA ad 0 A 133 [(2, 64), (9, 0), (9, 0), (9, 0), (9, 0), (9, 0), (9, 0), (9, 0)] [] e') : G p l e rm_Ju_form s m args below meth c 0 0 Q 8 D cA ad 0 A 103 [(2, 64), (0, x1), (0, x2), (9, 0), (9, 0), (9, 0), (9, 0), (0, x7)] [] d := by
  unfold L_Ju_form_y103 at h
  refine g_iload C 7 rfl (by decide +kernel) ?_
  refine g_iload_n C 1 rfl (by decide +kernel) ?_
  refine g_iload_n C 2 rfl (by decide +kernel) ?_
  refine g_isub C (by decide +kernel) ?_
  refine g_icmp_ge C (off := 25) (tgt := 133) hx7 (w32_c _) (by decide +kernel) (by decide) (fun hc18_ => ?_) (fun hc18_ => ?_)
  · replace h := ite_t hc18_ h
    refine g_aload_n C 0 rfl (by decide +kernel) ?_
    refine g_iload C 7 rfl (by decide +kernel) ?_
    refine g_iconst C 2 (cK rfl) (by decide +kernel) ?_
    refine g_irem C (cK rfl) (by decide) (by decide +kernel) ?_
    refine g_if_ne C (off := 7) (tgt := 123) (i_c _) (by decide +kernel) (by decide) (fun hc19_ => ?_) (fun hc19_ => ?_)
    · replace h := ite_t hc19_ h
      refine g_iconst C 1 (cK rfl) (by decide +kernel) ?_
      refine g_goto C 124 (off := 4) (by decide +kernel) (by decide) ?_
      refine g_sub (lo2 := [(2, 64), (0, x1), (0, x2), (9, 0), (9, 0), (9, 0), (9, 0), (0, x7)]) (lsb_v (lsb_v (lsb_v (lsb_c (lsb_c (lsb_c (lsb_c (lsb_v lsb_e)))))))) ?_
      exact ok_Ju_form_b124 C x1 x2 x7 1 d hx1 hx2 hx7 (Or.inr rfl) h kb k0
    · replace h := ite_f hc19_ h
      refine g_iconst C 0 (cK rfl) (by decide +kernel) ?_
      refine g_sub (lo2 := [(2, 64), (0, x1), (0, x2), (9, 0), (9, 0), (9, 0), (9, 0), (0, x7)]) (lsb_v (lsb_v (lsb_v (lsb_c (lsb_c (lsb_c (lsb_c (lsb_v lsb_e)))))))) ?_
      exact ok_Ju_form_b124 C x1 x2 x7 0 d hx1 hx2 hx7 (Or.inl rfl) h kb k0
  · replace h := ite_f hc18_ h
    refine g_sub (lo2 := [(2, 64), (9, 0), (9, 0), (9, 0), (9, 0), (9, 0), (9, 0), (9, 0)]) (lsb_v (lsb_c (lsb_c (lsb_c (lsb_c (lsb_c (lsb_c (lsb_c lsb_e)))))))) ?_
    obtain rfl := Option.some.inj h
    exact k0 d rfl 
set_option maxHeartbeats 4000000 in
theorem ok_Ju_form_n103 {p : Program} {l : Launch} {e : Env} {s : State} {m : MethodId} {args : Array Value} {below : List Frame} {meth : Method} {c : Code} {D : va_G} {cA : Nat → ClassId} {ad : Nat → Nat} {A : Nat → Prop} (C : Cx p s m args c prog_4_method_8_code 8 "PollBooks$Jury" D cA ad 0 A) {Q : State → Prop} {x : (Dt)} : ∀ (n : Nat) (x1 x2 x7 : Int) (d : Dt), c32 x1 → c32 x2 → c32 x7 → lpF (fun q : Int × Int × Int × Dt => L_Ju_form_y103 q.1 q.2.1 q.2.2.1 q.2.2.2) n (x1, x2, x7, d) = some x → (∀ (e' : Dt), x = (e') → G p l e rm_Ju_form s m args below meth c 0 0 Q 8 D cA ad 0 A 133 [(2, 64), (9, 0), (9, 0), (9, 0), (9, 0), (9, 0), (9, 0), (9, 0)] [] e') → G p l e rm_Ju_form s m args below meth c 0 0 Q 8 D cA ad 0 A 103 [(2, 64), (0, x1), (0, x2), (9, 0), (9, 0), (9, 0), (9, 0), (0, x7)] [] d := by
  intro n
  induction n with
  | zero => intro x1 x2 x7 d g0 g1 g2 h k0; cases h
  | succ n ih =>
    intro x1 x2 x7 d g0 g1 g2 h k0
    rcases lpF_some h with h | ⟨⟨v0_, v1_, v2_, e0_⟩, h1, h⟩
    · exact ok_Ju_form_y103 C x1 x2 x7 d g0 g1 g2 h (fun z0_ z1_ z2_ e1_ eq w0_ w1_ w2_ => by cases eq) (fun e1_ eq => k0 _ (by cases eq; rfl) )
    · exact ok_Ju_form_y103 C x1 x2 x7 d g0 g1 g2 h1 (fun z0_ z1_ z2_ e1_ eq w0_ w1_ w2_ => by cases eq; exact ih _ _ _ _ w0_ w1_ w2_ h k0) (fun e1_ eq => by cases eq)
set_option maxHeartbeats 4000000 in
theorem ok_Ju_form_l103 {p : Program} {l : Launch} {e : Env} {s : State} {m : MethodId} {args : Array Value} {below : List Frame} {meth : Method} {c : Code} {D : va_G} {cA : Nat → ClassId} {ad : Nat → Nat} {A : Nat → Prop} (C : Cx p s m args c prog_4_method_8_code 8 "PollBooks$Jury" D cA ad 0 A) {Q : State → Prop} {x : (Dt)} (x1 x2 x7 : Int) (d : Dt) (hx1 : c32 x1) (hx2 : c32 x2) (hx7 : c32 x7) (h : L_Ju_form_l103 x1 x2 x7 d = some x) (k0 : ∀ (e' : Dt), x = (e') → G p l e rm_Ju_form s m args below meth c 0 0 Q 8 D cA ad 0 A 133 [(2, 64), (9, 0), (9, 0), (9, 0), (9, 0), (9, 0), (9, 0), (9, 0)] [] e') : G p l e rm_Ju_form s m args below meth c 0 0 Q 8 D cA ad 0 A 103 [(2, 64), (0, x1), (0, x2), (9, 0), (9, 0), (9, 0), (9, 0), (0, x7)] [] d :=
  ok_Ju_form_n103 C FU x1 x2 x7 d hx1 hx2 hx7 h k0
set_option maxHeartbeats 4000000 in
theorem ok_Ju_form_b100 {p : Program} {l : Launch} {e : Env} {s : State} {m : MethodId} {args : Array Value} {below : List Frame} {meth : Method} {c : Code} {D : va_G} {cA : Nat → ClassId} {ad : Nat → Nat} {A : Nat → Prop} (C : Cx p s m args c prog_4_method_8_code 8 "PollBooks$Jury" D cA ad 0 A) (hlk : meth.locks = false) (hr : meth.sig.returnType = (some .boolean)) {r : Int} {d' : Dt} (x1 x2 : Int) (d : Dt) (hx1 : c32 x1) (hx2 : c32 x2) (h : L_Ju_form_b100 x1 x2 d = some (r, d')) : G p l e rm_Ju_form s m args below meth c 0 0 (MQ below (fun _ => QC D cA ad 0 A (some .boolean) (some (0, r)) d') args s 0 0 A) 8 D cA ad 0 A 100 [(2, 64), (0, x1), (0, x2), (9, 0), (9, 0), (9, 0), (9, 0), (9, 0)] [] d := by
  unfold L_Ju_form_b100 at h
  refine g_iconst C 0 (cK rfl) (by decide +kernel) ?_
  refine s_istore C 7 (lo' := [(2, 64), (0, x1), (0, x2), (9, 0), (9, 0), (9, 0), (9, 0), (0, 0)]) (by decide) (s1k (s1k (s1k (s1k (s1k (s1k (s1n (by decide) s1z))))))) (by decide +kernel) ?_
  refine g_sub (lo2 := [(2, 64), (0, x1), (0, x2), (9, 0), (9, 0), (9, 0), (9, 0), (0, 0)]) (lsb_v (lsb_v (lsb_v (lsb_c (lsb_c (lsb_c (lsb_c (lsb_v lsb_e)))))))) ?_
  obtain ⟨x20_, hx21_, h⟩ := lb_some h
  refine ok_Ju_form_l103 C x1 x2 0 d hx1 hx2 (c32_cb (Or.inl rfl)) hx21_ (fun d22_ eq23_ => ?_)
  replace eq23_ := eq23_.symm
  subst eq23_
  replace h := u0_e h
  refine g_aload_n C 0 rfl (by decide +kernel) ?_
  obtain ⟨r25_, d24_, hr26_, h⟩ := bd_some h
  refine g_callV C mw_Ju_fillBench [] 64 cl2 rfl (ok_Ju_fillBench  d22_  hr26_) cd_A64 (by decide) (nA (by decide)) (ix := 58) lk_1320 lk_1322 lkp_50 ⟨rfl, rfl, Nat.le_of_ble_eq_true rfl, Nat.le_of_ble_eq_true rfl⟩ rfl (rest := []) rfl (Nat.le_of_ble_eq_true rfl) ⟨Nat.zero_le _, Nat.zero_le _⟩ (by decide +kernel) (fun _ hc27_ => ?_)
  refine g_st (st2 := []) rfl ?_
  refine g_iconst C 1 (cK rfl) (by decide +kernel) ?_
  obtain ⟨rfl, rfl⟩ := ret_inj h
  exact g_zret C (Or.inr rfl) hlk hr (by decide +kernel)
set_option maxHeartbeats 4000000 in
theorem ok_Ju_form {l : Launch} {r : Int} {d' : Dt} (p1 p2 p3 : Int) (d : Dt) (hp1 : c32 p1) (hp2 : c32 p2) (hp3 : c32 p3) (h : L_Ju_form p1 p2 p3 d = some (r, d')) : MC l y_Ju_form prog_4_method_8_code 8 (some .boolean) rm_Ju_form 0 [(2, 64), (0, p1), (0, p2), (0, p3)] d (some (0, r)) d' := by
  refine MC.of (by decide) (Nat.le_of_ble_eq_true rfl) ?_
  intro p e s m args below meth c D cA ad A C hlk hr
  replace C : Cx p s m args c prog_4_method_8_code 8 "PollBooks$Jury" D cA ad 0 A := C
  show G p l e rm_Ju_form s m args below meth c 0 0 (MQ below (fun _ => QC D cA ad 0 A (some .boolean) (some (0, r)) d') args s 0 0 A) 8 D cA ad 0 A 0 [(2, 64), (0, p1), (0, p2), (0, p3)] [] d
  refine g_sub (lo2 := [(2, 64), (0, p1), (0, p2), (0, p3), (9, 0), (9, 0), (9, 0), (9, 0)]) (lsb_v (lsb_v (lsb_v (lsb_v (lsb_n (lsb_n (lsb_n (lsb_n lsb_e)))))))) ?_
  unfold L_Ju_form at h
  refine g_aload_n C 0 rfl (by decide +kernel) ?_
  obtain ⟨r30_, d29_, hr31_, h⟩ := bd_some h
  refine g_callV C mw_Ju_fillPool [] 64 cl2 rfl (ok_Ju_fillPool  d  hr31_) cd_A64 (by decide) (nA (by decide)) (ix := 38) lk_1299 lk_1301 lkp_46 ⟨rfl, rfl, Nat.le_of_ble_eq_true rfl, Nat.le_of_ble_eq_true rfl⟩ rfl (rest := []) rfl (Nat.le_of_ble_eq_true rfl) ⟨Nat.zero_le _, Nat.zero_le _⟩ (by decide +kernel) (fun _ hc32_ => ?_)
  replace hc32_ : c32 r30_ := hc32_
  refine g_st (st2 := [(0, r30_)]) rfl ?_
  refine s_istore C 4 (lo' := [(2, 64), (0, p1), (0, p2), (0, p3), (0, r30_), (9, 0), (9, 0), (9, 0)]) (by decide) (s1k (s1k (s1k (s1n (by decide) s1z)))) (by decide +kernel) ?_
  refine g_iload C 4 rfl (by decide +kernel) ?_
  refine g_iload_n C 1 rfl (by decide +kernel) ?_
  refine g_icmp_ge C (off := 5) (tgt := 14) hc32_ hp1 (by decide +kernel) (by decide) (fun hc33_ => ?_) (fun hc33_ => ?_)
  · replace h := ite_t hc33_ h
    refine g_iconst C 0 (cK rfl) (by decide +kernel) ?_
    obtain ⟨rfl, rfl⟩ := ret_inj h
    exact g_zret C (Or.inl rfl) hlk hr (by decide +kernel)
  · replace h := ite_f hc33_ h
    refine g_iconst C 0 (cK rfl) (by decide +kernel) ?_
    refine s_istore C 5 (lo' := [(2, 64), (0, p1), (0, p2), (0, p3), (0, r30_), (0, 0), (9, 0), (9, 0)]) (by decide) (s1k (s1k (s1k (s1k (s1n (by decide) s1z))))) (by decide +kernel) ?_
    refine g_sub (lo2 := [(2, 64), (0, p1), (0, p2), (0, p3), (0, r30_), (0, 0), (9, 0), (9, 0)]) (lsb_v (lsb_v (lsb_v (lsb_v (lsb_v (lsb_v (lsb_c (lsb_c lsb_e)))))))) ?_
    obtain ⟨x34_, hx35_, h⟩ := lb_some h
    refine ok_Ju_form_l17 C p1 p2 p3 r30_ 0 d29_ hp1 hp2 hp3 hc32_ (c32_cb (Or.inl rfl)) hx35_ (fun v36_ v37_ v38_ v39_ d40_ eq41_ hv36_ hv37_ hv38_ hv39_ => ?_)
    subst eq41_
    replace h := u4_e h
    refine g_iload_n C 3 rfl (by decide +kernel) ?_
    refine g_i2l C hv38_ (by decide +kernel) ?_
    refine s_lstore C 5 (lo' := [(2, 64), (0, v36_), (0, v37_), (0, v38_), (0, v39_), (1, v38_), (9, 0), (9, 0)]) (by decide) (s2k (s2k (s2k (s2k (s2n (by decide) s2z))))) (by decide +kernel) ?_
    refine g_iconst C 0 (cK rfl) (by decide +kernel) ?_
    refine s_istore C 7 (lo' := [(2, 64), (0, v36_), (0, v37_), (0, v38_), (0, v39_), (1, v38_), (9, 0), (0, 0)]) (by decide) (s1k (s1k (s1k (s1k (s1k (s1k (s1n (by decide) s1z))))))) (by decide +kernel) ?_
    refine g_sub (lo2 := [(2, 64), (0, v36_), (0, v37_), (9, 0), (0, v39_), (1, v38_), (9, 0), (0, 0)]) (lsb_v (lsb_v (lsb_v (lsb_c (lsb_v (lsb_v (lsb_c (lsb_v lsb_e)))))))) ?_
    obtain ⟨x42_, hx43_, h⟩ := lb_some h
    refine ok_Ju_form_l47 C v36_ v37_ v39_ v38_ 0 d40_ hv36_ hv37_ hv39_ (c64_32 hv38_) (c32_cb (Or.inl rfl)) hx43_ (fun v44_ v45_ d46_ eq47_ hv44_ hv45_ => ?_)
    subst eq47_
    replace h := u2_e h
    refine g_sub (lo2 := [(2, 64), (0, v44_), (0, v45_), (9, 0), (9, 0), (9, 0), (9, 0), (9, 0)]) (lsb_v (lsb_v (lsb_v (lsb_c (lsb_c (lsb_c (lsb_c (lsb_c lsb_e)))))))) ?_
    exact ok_Ju_form_b100 C hlk hr v44_ v45_ d46_ hv44_ hv45_ h
/-! PollBooks$Jury.leanOfBench()I -/
def y_Ju_leanOfBench : MethodName := ⟨"PollBooks$Jury", "leanOfBench", "()I"⟩
def rm_Ju_leanOfBench : Room := { frames := 0, cells := 0, slots := 0, locals := 0 }
theorem mw_Ju_leanOfBench : MW y_Ju_leanOfBench prog_4_method_7_code 3 (some .int) 0 := ⟨lk_1327, lk_12, by decide +kernel⟩
def L_Ju_leanOfBench_y4 (x1 x2 : Int) (d : Dt) : Option ((Int × Int × Dt) ⊕ ((Int × Dt))) :=
  if x2 < (d 64 7) then ck ((0 : Int) ≤ x2 ∧ x2 < 30) (ck ((0 : Int) ≤ (d 70 x2.toNat) ∧ (d 70 x2.toNat) < 30) (lt_ (w32 (x1 + (d 65 ((d 70 x2.toNat)).toNat))) (fun v7_ => some (Sum.inl (v7_, (w32 (x2 + 1)), d))))) else some (Sum.inr (x1, d))
def L_Ju_leanOfBench_l4 (x1 x2 : Int) (d : Dt) : Option ((Int × Dt)) := lpF (fun q : Int × Int × Dt => L_Ju_leanOfBench_y4 q.1 q.2.1 q.2.2) FU (x1, x2, d)
def L_Ju_leanOfBench (d : Dt) : Option (Int × Dt) :=
  lb (L_Ju_leanOfBench_l4 0 0 d) (fun q15_ => u1 q15_ (fun v12_ d13_ => some (v12_, d13_)))
set_option maxHeartbeats 4000000 in
theorem ok_Ju_leanOfBench_y4 {p : Program} {l : Launch} {e : Env} {s : State} {m : MethodId} {args : Array Value} {below : List Frame} {meth : Method} {c : Code} {D : va_G} {cA : Nat → ClassId} {ad : Nat → Nat} {A : Nat → Prop} (C : Cx p s m args c prog_4_method_7_code 3 "PollBooks$Jury" D cA ad 0 A) {Q : State → Prop} {o : (Int × Int × Dt) ⊕ ((Int × Dt))} (x1 x2 : Int) (d : Dt) (hx1 : c32 x1) (hx2 : c32 x2) (h : L_Ju_leanOfBench_y4 x1 x2 d = some o) (kb : ∀ (y0 y1 : Int) (e' : Dt), o = .inl (y0, y1, e') → c32 y0 → c32 y1 → G p l e rm_Ju_leanOfBench s m args below meth c 0 0 Q 3 D cA ad 0 A 4 [(2, 64), (0, y0), (0, y1)] [] e') (k0 : ∀ (y0 : Int) (e' : Dt), o = .inr (y0, e') → c32 y0 → G p l e rm_Ju_leanOfBench s m args below meth c 0 0 Q 3 D cA ad 0 A 32 [(9, 0), (0, y0), (9, 0)] [] e') : G p l e rm_Ju_leanOfBench s m args below meth c 0 0 Q 3 D cA ad 0 A 4 [(2, 64), (0, x1), (0, x2)] [] d := by
  unfold L_Ju_leanOfBench_y4 at h
  refine g_iload_n C 2 rfl (by decide +kernel) ?_
  refine g_aload_n C 0 rfl (by decide +kernel) ?_
  refine g_getI C cl2 64 7 rfl cd_A64 ⟨by decide, rfl, by decide⟩ rfl (nA (by decide)) (ix := 35) lk_414 (by decide +kernel) (fun hc1_ => ?_)
  refine g_icmp_ge C (off := 23) (tgt := 32) hx2 hc1_ (by decide +kernel) (by decide) (fun hc2_ => ?_) (fun hc2_ => ?_)
  · replace h := ite_t hc2_ h
    refine g_iload_n C 1 rfl (by decide +kernel) ?_
    refine g_aload_n C 0 rfl (by decide +kernel) ?_
    refine g_getR C cl2 64 0 65 rfl cd_A64 ⟨by decide, rfl, by decide⟩ rfl rfl (nA (by decide)) (ix := 11) lk_407 (by decide +kernel) ?_
    refine g_aload_n C 0 rfl (by decide +kernel) ?_
    refine g_getR C cl2 64 6 70 rfl cd_A64 ⟨by decide, rfl, by decide⟩ rfl rfl (nA (by decide)) (ix := 28) lk_413 (by decide +kernel) ?_
    refine g_iload_n C 2 rfl (by decide +kernel) ?_
    obtain ⟨hb3_, h⟩ := ck_some h
    refine g_iald C 70 hx2 rfl cd_A70 (nA (by decide)) hb3_ (by decide +kernel) (fun hc4_ => ?_)
    obtain ⟨hb5_, h⟩ := ck_some h
    refine g_iald C 65 hc4_ rfl cd_A65 (nA (by decide)) hb5_ (by decide +kernel) (fun hc6_ => ?_)
    refine g_iadd C (by decide +kernel) ?_
    obtain ⟨v7_, ev8_, h⟩ := lt_some h
    refine g_val ev8_.symm ?_
    have hv9_ : c32 v7_ := by rw [ev8_]; exact (w32_c _)
    refine s_istore_n C 1 (lo' := [(2, 64), (0, v7_), (0, x2)]) (by decide) (s1n (by decide) s1z) (by decide +kernel) ?_
    refine s_iinc C 2 1 (lo' := [(2, 64), (0, v7_), (0, (w32 (x2 + 1)))]) rfl (by decide) (s1k (s1n (by decide) s1z)) (by decide +kernel) ?_
    refine g_goto C 4 (off := (-25)) (by decide +kernel) (by decide) ?_
    refine g_sub (lo2 := [(2, 64), (0, v7_), (0, (w32 (x2 + 1)))]) (lsb_v (lsb_v (lsb_v lsb_e))) ?_
    obtain rfl := Option.some.inj h
    exact kb v7_ (w32 (x2 + 1)) d rfl hv9_ (w32_c _)
  · replace h := ite_f hc2_ h
    refine g_sub (lo2 := [(9, 0), (0, x1), (9, 0)]) (lsb_c (lsb_v (lsb_c lsb_e))) ?_
    obtain rfl := Option.some.inj h
    exact k0 x1 d rfl hx1
set_option maxHeartbeats 4000000 in
theorem ok_Ju_leanOfBench_n4 {p : Program} {l : Launch} {e : Env} {s : State} {m : MethodId} {args : Array Value} {below : List Frame} {meth : Method} {c : Code} {D : va_G} {cA : Nat → ClassId} {ad : Nat → Nat} {A : Nat → Prop} (C : Cx p s m args c prog_4_method_7_code 3 "PollBooks$Jury" D cA ad 0 A) {Q : State → Prop} {x : (Int × Dt)} : ∀ (n : Nat) (x1 x2 : Int) (d : Dt), c32 x1 → c32 x2 → lpF (fun q : Int × Int × Dt => L_Ju_leanOfBench_y4 q.1 q.2.1 q.2.2) n (x1, x2, d) = some x → (∀ (y0 : Int) (e' : Dt), x = (y0, e') → c32 y0 → G p l e rm_Ju_leanOfBench s m args below meth c 0 0 Q 3 D cA ad 0 A 32 [(9, 0), (0, y0), (9, 0)] [] e') → G p l e rm_Ju_leanOfBench s m args below meth c 0 0 Q 3 D cA ad 0 A 4 [(2, 64), (0, x1), (0, x2)] [] d := by
  intro n
  induction n with
  | zero => intro x1 x2 d g0 g1 h k0; cases h
  | succ n ih =>
    intro x1 x2 d g0 g1 h k0
    rcases lpF_some h with h | ⟨⟨v0_, v1_, e0_⟩, h1, h⟩
    · exact ok_Ju_leanOfBench_y4 C x1 x2 d g0 g1 h (fun z0_ z1_ e1_ eq w0_ w1_ => by cases eq) (fun z0_ e1_ eq w0_ => k0 _ _ (by cases eq; rfl) w0_)
    · exact ok_Ju_leanOfBench_y4 C x1 x2 d g0 g1 h1 (fun z0_ z1_ e1_ eq w0_ w1_ => by cases eq; exact ih _ _ _ w0_ w1_ h k0) (fun z0_ e1_ eq w0_ => by cases eq)
set_option maxHeartbeats 4000000 in
theorem ok_Ju_leanOfBench_l4 {p : Program} {l : Launch} {e : Env} {s : State} {m : MethodId} {args : Array Value} {below : List Frame} {meth : Method} {c : Code} {D : va_G} {cA : Nat → ClassId} {ad : Nat → Nat} {A : Nat → Prop} (C : Cx p s m args c prog_4_method_7_code 3 "PollBooks$Jury" D cA ad 0 A) {Q : State → Prop} {x : (Int × Dt)} (x1 x2 : Int) (d : Dt) (hx1 : c32 x1) (hx2 : c32 x2) (h : L_Ju_leanOfBench_l4 x1 x2 d = some x) (k0 : ∀ (y0 : Int) (e' : Dt), x = (y0, e') → c32 y0 → G p l e rm_Ju_leanOfBench s m args below meth c 0 0 Q 3 D cA ad 0 A 32 [(9, 0), (0, y0), (9, 0)] [] e') : G p l e rm_Ju_leanOfBench s m args below meth c 0 0 Q 3 D cA ad 0 A 4 [(2, 64), (0, x1), (0, x2)] [] d :=
  ok_Ju_leanOfBench_n4 C FU x1 x2 d hx1 hx2 h k0
set_option maxHeartbeats 4000000 in
theorem ok_Ju_leanOfBench {l : Launch} {r : Int} {d' : Dt} (d : Dt)  (h : L_Ju_leanOfBench d = some (r, d')) : MC l y_Ju_leanOfBench prog_4_method_7_code 3 (some .int) rm_Ju_leanOfBench 0 [(2, 64)] d (some (0, r)) d' := by
  refine MC.of (by decide) (Nat.le_of_ble_eq_true rfl) ?_
  intro p e s m args below meth c D cA ad A C hlk hr
  replace C : Cx p s m args c prog_4_method_7_code 3 "PollBooks$Jury" D cA ad 0 A := C
  show G p l e rm_Ju_leanOfBench s m args below meth c 0 0 (MQ below (fun _ => QC D cA ad 0 A (some .int) (some (0, r)) d') args s 0 0 A) 3 D cA ad 0 A 0 [(2, 64)] [] d
  refine g_sub (lo2 := [(2, 64), (9, 0), (9, 0)]) (lsb_v (lsb_n (lsb_n lsb_e))) ?_
  unfold L_Ju_leanOfBench at h
  refine g_iconst C 0 (cK rfl) (by decide +kernel) ?_
  refine s_istore_n C 1 (lo' := [(2, 64), (0, 0), (9, 0)]) (by decide) (s1n (by decide) s1z) (by decide +kernel) ?_
  refine g_iconst C 0 (cK rfl) (by decide +kernel) ?_
  refine s_istore_n C 2 (lo' := [(2, 64), (0, 0), (0, 0)]) (by decide) (s1k (s1n (by decide) s1z)) (by decide +kernel) ?_
  refine g_sub (lo2 := [(2, 64), (0, 0), (0, 0)]) (lsb_v (lsb_v (lsb_v lsb_e))) ?_
  obtain ⟨x10_, hx11_, h⟩ := lb_some h
  refine ok_Ju_leanOfBench_l4 C 0 0 d (c32_cb (Or.inl rfl)) (c32_cb (Or.inl rfl)) hx11_ (fun v12_ d13_ eq14_ hv12_ => ?_)
  subst eq14_
  replace h := u1_e h
  refine g_iload_n C 1 rfl (by decide +kernel) ?_
  obtain ⟨rfl, rfl⟩ := ret_inj h
  exact g_iret C hv12_ hlk hr (by decide +kernel)
/-! PollBooks.draw(III)I -/
def y_PB_draw : MethodName := ⟨"PollBooks", "draw", "(III)I"⟩
def rm_PB_draw : Room := { frames := 3, cells := 0, slots := 0, locals := 89 }
theorem mw_PB_draw : MW y_PB_draw prog_1_method_46_code 6 (some .int) 3 := ⟨lk_1294, lk_1, by decide +kernel⟩
def L_PB_draw_b80 (s1 : Int) (d : Dt) : Option (Int × Dt) :=
  if s1 = 0 then bd (L_Ju_leanOfBench (up2 d 0 0 s1)) (fun r4_ d3_ => some (r4_, d3_)) else some ((-1), (up2 d 0 0 s1))
def L_PB_draw_b57 (x4 s0 : Int) (d : Dt) : Option (Int × Dt) :=
  if x4 = 0 then L_PB_draw_b80 1 d else if s0 = 0 then L_PB_draw_b80 6 d else L_PB_draw_b80 0 d
def L_PB_draw_b32 (x1 x2 x3 s0 : Int) (d : Dt) : Option (Int × Dt) :=
  if s0 = 0 then L_PB_draw_b57 s0 0 d else bd (L_Ju_form x1 x2 x3 d) (fun r11_ d10_ => if r11_ = 0 then L_PB_draw_b57 s0 0 d10_ else L_PB_draw_b57 s0 1 d10_)
def L_PB_draw (p1 p2 p3 : Int) (d : Dt) : Option (Int × Dt) :=
  bd (L_PB_within p1 1 30 d) (fun r16_ d15_ => if r16_ = 0 then L_PB_draw_b32 p1 p2 p3 0 d15_ else bd (L_PB_within p2 0 p1 d15_) (fun r21_ d20_ => if r21_ = 0 then L_PB_draw_b32 p1 p2 p3 0 d20_ else if p3 < 0 then L_PB_draw_b32 p1 p2 p3 0 d20_ else L_PB_draw_b32 p1 p2 p3 1 d20_))
set_option maxHeartbeats 4000000 in
theorem ok_PB_draw_b80 {p : Program} {l : Launch} {e : Env} {s : State} {m : MethodId} {args : Array Value} {below : List Frame} {meth : Method} {c : Code} {D : va_G} {cA : Nat → ClassId} {ad : Nat → Nat} {A : Nat → Prop} (C : Cx p s m args c prog_1_method_46_code 6 "PollBooks" D cA ad 0 A) (hlk : meth.locks = false) (hr : meth.sig.returnType = (some .int)) {r : Int} {d' : Dt} (s1 : Int) (d : Dt) (hs1 : c32 s1) (h : L_PB_draw_b80 s1 d = some (r, d')) : G p l e rm_PB_draw s m args below meth c 0 0 (MQ below (fun _ => QC D cA ad 0 A (some .int) (some (0, r)) d') args s 0 0 A) 6 D cA ad 0 A 80 [(2, 0), (9, 0), (9, 0), (9, 0), (9, 0), (9, 0)] [(0, s1), (2, 0)] d := by
  unfold L_PB_draw_b80 at h
  refine g_putI C cl11 0 0 hs1 rfl cd_A0 ⟨by decide, rfl, by decide⟩ rfl (nA (by decide)) (ix := 9) lk_467 rfl rfl (by decide +kernel) ?_
  refine g_aload_n C 0 rfl (by decide +kernel) ?_
  refine g_getI C cl11 0 0 rfl cd_A0 ⟨by decide, rfl, by decide⟩ rfl (nA (by decide)) (ix := 9) lk_467 (by decide +kernel) (fun hc1_ => ?_)
  refine g_val (y := s1) rfl ?_
  replace hc1_ : c32 s1 := hc1_
  refine g_if_ne C (off := 13) (tgt := 100) hc1_ (by decide +kernel) (by decide) (fun hc2_ => ?_) (fun hc2_ => ?_)
  · replace h := ite_t hc2_ h
    refine g_aload_n C 0 rfl (by decide +kernel) ?_
    refine g_getR C cl11 0 9 64 rfl cd_A0 ⟨by decide, rfl, by decide⟩ rfl rfl (nA (by decide)) (ix := 80) lk_476 (by decide +kernel) ?_
    obtain ⟨r4_, d3_, hr5_, h⟩ := bd_some h
    refine g_callV C mw_Ju_leanOfBench [] 64 cl2 rfl (ok_Ju_leanOfBench  (up2 d 0 0 s1)  hr5_) cd_A64 (by decide) (nA (by decide)) (ix := 412) lk_1324 lk_1325 lk_1326 ⟨rfl, rfl, Nat.le_of_ble_eq_true rfl, Nat.le_of_ble_eq_true rfl⟩ rfl (rest := []) rfl (Nat.le_of_ble_eq_true rfl) ⟨Nat.zero_le _, Nat.zero_le _⟩ (by decide +kernel) (fun _ hc6_ => ?_)
    replace hc6_ : c32 r4_ := hc6_
    refine g_st (st2 := [(0, r4_)]) rfl ?_
    refine g_goto C 101 (off := 4) (by decide +kernel) (by decide) ?_
    obtain ⟨rfl, rfl⟩ := ret_inj h
    exact g_iret C hc6_ hlk hr (by decide +kernel)
  · replace h := ite_f hc2_ h
    refine g_iconst C (-1) (cK rfl) (by decide +kernel) ?_
    obtain ⟨rfl, rfl⟩ := ret_inj h
    exact g_iret C (cK rfl) hlk hr (by decide +kernel)
set_option maxHeartbeats 4000000 in
theorem ok_PB_draw_b57 {p : Program} {l : Launch} {e : Env} {s : State} {m : MethodId} {args : Array Value} {below : List Frame} {meth : Method} {c : Code} {D : va_G} {cA : Nat → ClassId} {ad : Nat → Nat} {A : Nat → Prop} (C : Cx p s m args c prog_1_method_46_code 6 "PollBooks" D cA ad 0 A) (hlk : meth.locks = false) (hr : meth.sig.returnType = (some .int)) {r : Int} {d' : Dt} (x4 s0 : Int) (d : Dt) (hx4 : cb x4) (hs0 : cb s0) (h : L_PB_draw_b57 x4 s0 d = some (r, d')) : G p l e rm_PB_draw s m args below meth c 0 0 (MQ below (fun _ => QC D cA ad 0 A (some .int) (some (0, r)) d') args s 0 0 A) 6 D cA ad 0 A 57 [(2, 0), (9, 0), (9, 0), (9, 0), (0, x4), (9, 0)] [(0, s0)] d := by
  unfold L_PB_draw_b57 at h
  refine s_istore C 5 (lo' := [(2, 0), (9, 0), (9, 0), (9, 0), (0, x4), (0, s0)]) (by decide) (s1k (s1k (s1k (s1k (s1n (by decide) s1z))))) (by decide +kernel) ?_
  refine g_aload_n C 0 rfl (by decide +kernel) ?_
  refine g_iload C 4 rfl (by decide +kernel) ?_
  refine g_if_ne C (off := 7) (tgt := 69) (c32_cb hx4) (by decide +kernel) (by decide) (fun hc7_ => ?_) (fun hc7_ => ?_)
  · replace h := ite_t hc7_ h
    refine g_iconst C 1 (cK rfl) (by decide +kernel) ?_
    refine g_goto C 80 (off := 14) (by decide +kernel) (by decide) ?_
    refine g_sub (lo2 := [(2, 0), (9, 0), (9, 0), (9, 0), (9, 0), (9, 0)]) (lsb_v (lsb_c (lsb_c (lsb_c (lsb_c (lsb_c lsb_e)))))) ?_
    exact ok_PB_draw_b80 C hlk hr 1 d (c32_cb (Or.inr rfl)) h
  · replace h := ite_f hc7_ h
    refine g_iload C 5 rfl (by decide +kernel) ?_
    refine g_if_eq C (off := 7) (tgt := 78) (c32_cb hs0) (by decide +kernel) (by decide) (fun hc8_ => ?_) (fun hc8_ => ?_)
    · replace h := ite_t hc8_ h
      refine g_bipush C 6 (by decide) (by decide +kernel) ?_
      refine g_sub (lo2 := [(2, 0), (9, 0), (9, 0), (9, 0), (9, 0), (9, 0)]) (lsb_v (lsb_c (lsb_c (lsb_c (lsb_c (lsb_c lsb_e)))))) ?_
      exact ok_PB_draw_b80 C hlk hr 6 d (cK rfl) h
    · replace h := ite_f hc8_ h
      refine g_iconst C 0 (cK rfl) (by decide +kernel) ?_
      refine g_goto C 80 (off := 5) (by decide +kernel) (by decide) ?_
      refine g_sub (lo2 := [(2, 0), (9, 0), (9, 0), (9, 0), (9, 0), (9, 0)]) (lsb_v (lsb_c (lsb_c (lsb_c (lsb_c (lsb_c lsb_e)))))) ?_
      exact ok_PB_draw_b80 C hlk hr 0 d (c32_cb (Or.inl rfl)) h
set_option maxHeartbeats 4000000 in
theorem ok_PB_draw_b32 {p : Program} {l : Launch} {e : Env} {s : State} {m : MethodId} {args : Array Value} {below : List Frame} {meth : Method} {c : Code} {D : va_G} {cA : Nat → ClassId} {ad : Nat → Nat} {A : Nat → Prop} (C : Cx p s m args c prog_1_method_46_code 6 "PollBooks" D cA ad 0 A) (hlk : meth.locks = false) (hr : meth.sig.returnType = (some .int)) {r : Int} {d' : Dt} (x1 x2 x3 s0 : Int) (d : Dt) (hx1 : c32 x1) (hx2 : c32 x2) (hx3 : c32 x3) (hs0 : cb s0) (h : L_PB_draw_b32 x1 x2 x3 s0 d = some (r, d')) : G p l e rm_PB_draw s m args below meth c 0 0 (MQ below (fun _ => QC D cA ad 0 A (some .int) (some (0, r)) d') args s 0 0 A) 6 D cA ad 0 A 32 [(2, 0), (0, x1), (0, x2), (0, x3), (9, 0), (9, 0)] [(0, s0)] d := by
  unfold L_PB_draw_b32 at h
  refine s_istore C 4 (lo' := [(2, 0), (0, x1), (0, x2), (0, x3), (0, s0), (9, 0)]) (by decide) (s1k (s1k (s1k (s1n (by decide) s1z)))) (by decide +kernel) ?_
  refine g_iload C 4 rfl (by decide +kernel) ?_
  refine g_if_eq C (off := 20) (tgt := 56) (c32_cb hs0) (by decide +kernel) (by decide) (fun hc9_ => ?_) (fun hc9_ => ?_)
  · replace h := ite_t hc9_ h
    refine g_iconst C 0 (cK rfl) (by decide +kernel) ?_
    refine g_sub (lo2 := [(2, 0), (9, 0), (9, 0), (9, 0), (0, s0), (9, 0)]) (lsb_v (lsb_c (lsb_c (lsb_c (lsb_v (lsb_c lsb_e)))))) ?_
    exact ok_PB_draw_b57 C hlk hr s0 0 d hs0 (Or.inl rfl) h
  · replace h := ite_f hc9_ h
    refine g_aload_n C 0 rfl (by decide +kernel) ?_
    refine g_getR C cl11 0 9 64 rfl cd_A0 ⟨by decide, rfl, by decide⟩ rfl rfl (nA (by decide)) (ix := 80) lk_476 (by decide +kernel) ?_
    refine g_iload_n C 1 rfl (by decide +kernel) ?_
    refine g_iload_n C 2 rfl (by decide +kernel) ?_
    refine g_iload_n C 3 rfl (by decide +kernel) ?_
    obtain ⟨r11_, d10_, hr12_, h⟩ := bd_some h
    refine g_callV C mw_Ju_form [(0, x1), (0, x2), (0, x3)] 64 cl2 rfl (ok_Ju_form x1 x2 x3 d hx1 hx2 hx3 hr12_) cd_A64 (by decide) (nA (by decide)) (ix := 409) lk_1295 lk_1296 lk_1297 ⟨rfl, rfl, Nat.le_of_ble_eq_true rfl, Nat.le_of_ble_eq_true rfl⟩ rfl (rest := []) rfl (Nat.le_of_ble_eq_true rfl) ⟨Nat.zero_le _, Nat.zero_le _⟩ (by decide +kernel) (fun _ hc13_ => ?_)
    replace hc13_ : cb r11_ := hc13_
    refine g_st (st2 := [(0, r11_)]) rfl ?_
    refine g_if_eq C (off := 7) (tgt := 56) (c32_cb hc13_) (by decide +kernel) (by decide) (fun hc14_ => ?_) (fun hc14_ => ?_)
    · replace h := ite_t hc14_ h
      refine g_iconst C 0 (cK rfl) (by decide +kernel) ?_
      refine g_sub (lo2 := [(2, 0), (9, 0), (9, 0), (9, 0), (0, s0), (9, 0)]) (lsb_v (lsb_c (lsb_c (lsb_c (lsb_v (lsb_c lsb_e)))))) ?_
      exact ok_PB_draw_b57 C hlk hr s0 0 d10_ hs0 (Or.inl rfl) h
    · replace h := ite_f hc14_ h
      refine g_iconst C 1 (cK rfl) (by decide +kernel) ?_
      refine g_goto C 57 (off := 4) (by decide +kernel) (by decide) ?_
      refine g_sub (lo2 := [(2, 0), (9, 0), (9, 0), (9, 0), (0, s0), (9, 0)]) (lsb_v (lsb_c (lsb_c (lsb_c (lsb_v (lsb_c lsb_e)))))) ?_
      exact ok_PB_draw_b57 C hlk hr s0 1 d10_ hs0 (Or.inr rfl) h
set_option maxHeartbeats 4000000 in
theorem ok_PB_draw {l : Launch} {r : Int} {d' : Dt} (p1 p2 p3 : Int) (d : Dt) (hp1 : c32 p1) (hp2 : c32 p2) (hp3 : c32 p3) (h : L_PB_draw p1 p2 p3 d = some (r, d')) : MC l y_PB_draw prog_1_method_46_code 6 (some .int) rm_PB_draw 0 [(2, 0), (0, p1), (0, p2), (0, p3)] d (some (0, r)) d' := by
  refine MC.of (by decide) (Nat.le_of_ble_eq_true rfl) ?_
  intro p e s m args below meth c D cA ad A C hlk hr
  replace C : Cx p s m args c prog_1_method_46_code 6 "PollBooks" D cA ad 0 A := C
  show G p l e rm_PB_draw s m args below meth c 0 0 (MQ below (fun _ => QC D cA ad 0 A (some .int) (some (0, r)) d') args s 0 0 A) 6 D cA ad 0 A 0 [(2, 0), (0, p1), (0, p2), (0, p3)] [] d
  refine g_sub (lo2 := [(2, 0), (0, p1), (0, p2), (0, p3), (9, 0), (9, 0)]) (lsb_v (lsb_v (lsb_v (lsb_v (lsb_n (lsb_n lsb_e)))))) ?_
  unfold L_PB_draw at h
  refine g_iload_n C 1 rfl (by decide +kernel) ?_
  refine g_i2l C hp1 (by decide +kernel) ?_
  refine g_lconst C 1 (v := 1) (by decide) (by decide +kernel) ?_
  refine g_ldc2 C (ix := 318) (v := 30) lk_1081 (by decide +kernel) ?_
  obtain ⟨r16_, d15_, hr17_, h⟩ := bd_some h
  refine g_callS C mw_PB_within [(1, p1), (1, 1), (1, 30)] (ok_PB_within p1 1 30 d (c64_32 hp1) (cL rfl) (cL rfl) hr17_) (ix := 105) lk_520 lk_521 ⟨rfl, rfl, Nat.le_of_ble_eq_true rfl, Nat.le_of_ble_eq_true rfl⟩ rfl (rest := []) rfl (Nat.le_of_ble_eq_true rfl) ⟨Nat.zero_le _, Nat.zero_le _⟩ (by decide +kernel) (fun _ hc18_ => ?_)
  replace hc18_ : cb r16_ := hc18_
  refine g_st (st2 := [(0, r16_)]) rfl ?_
  refine g_if_eq C (off := 22) (tgt := 31) (c32_cb hc18_) (by decide +kernel) (by decide) (fun hc19_ => ?_) (fun hc19_ => ?_)
  · replace h := ite_t hc19_ h
    refine g_iconst C 0 (cK rfl) (by decide +kernel) ?_
    refine g_sub (lo2 := [(2, 0), (0, p1), (0, p2), (0, p3), (9, 0), (9, 0)]) (lsb_v (lsb_v (lsb_v (lsb_v (lsb_c (lsb_c lsb_e)))))) ?_
    exact ok_PB_draw_b32 C hlk hr p1 p2 p3 0 d15_ hp1 hp2 hp3 (Or.inl rfl) h
  · replace h := ite_f hc19_ h
    refine g_iload_n C 2 rfl (by decide +kernel) ?_
    refine g_i2l C hp2 (by decide +kernel) ?_
    refine g_lconst C 0 (v := 0) (by decide) (by decide +kernel) ?_
    refine g_iload_n C 1 rfl (by decide +kernel) ?_
    refine g_i2l C hp1 (by decide +kernel) ?_
    obtain ⟨r21_, d20_, hr22_, h⟩ := bd_some h
    refine g_callS C mw_PB_within [(1, p2), (1, 0), (1, p1)] (ok_PB_within p2 0 p1 d15_ (c64_32 hp2) (cL rfl) (c64_32 hp1) hr22_) (ix := 105) lk_520 lk_521 ⟨rfl, rfl, Nat.le_of_ble_eq_true rfl, Nat.le_of_ble_eq_true rfl⟩ rfl (rest := []) rfl (Nat.le_of_ble_eq_true rfl) ⟨Nat.zero_le _, Nat.zero_le _⟩ (by decide +kernel) (fun _ hc23_ => ?_)
    replace hc23_ : cb r21_ := hc23_
    refine g_st (st2 := [(0, r21_)]) rfl ?_
    refine g_if_eq C (off := 11) (tgt := 31) (c32_cb hc23_) (by decide +kernel) (by decide) (fun hc24_ => ?_) (fun hc24_ => ?_)
    · replace h := ite_t hc24_ h
      refine g_iconst C 0 (cK rfl) (by decide +kernel) ?_
      refine g_sub (lo2 := [(2, 0), (0, p1), (0, p2), (0, p3), (9, 0), (9, 0)]) (lsb_v (lsb_v (lsb_v (lsb_v (lsb_c (lsb_c lsb_e)))))) ?_
      exact ok_PB_draw_b32 C hlk hr p1 p2 p3 0 d20_ hp1 hp2 hp3 (Or.inl rfl) h
    · replace h := ite_f hc24_ h
      refine g_iload_n C 3 rfl (by decide +kernel) ?_
      refine g_if_lt C (off := 7) (tgt := 31) hp3 (by decide +kernel) (by decide) (fun hc25_ => ?_) (fun hc25_ => ?_)
      · replace h := ite_t hc25_ h
        refine g_iconst C 0 (cK rfl) (by decide +kernel) ?_
        refine g_sub (lo2 := [(2, 0), (0, p1), (0, p2), (0, p3), (9, 0), (9, 0)]) (lsb_v (lsb_v (lsb_v (lsb_v (lsb_c (lsb_c lsb_e)))))) ?_
        exact ok_PB_draw_b32 C hlk hr p1 p2 p3 0 d20_ hp1 hp2 hp3 (Or.inl rfl) h
      · replace h := ite_f hc25_ h
        refine g_iconst C 1 (cK rfl) (by decide +kernel) ?_
        refine g_goto C 32 (off := 4) (by decide +kernel) (by decide) ?_
        refine g_sub (lo2 := [(2, 0), (0, p1), (0, p2), (0, p3), (9, 0), (9, 0)]) (lsb_v (lsb_v (lsb_v (lsb_v (lsb_c (lsb_c lsb_e)))))) ?_
        exact ok_PB_draw_b32 C hlk hr p1 p2 p3 1 d20_ hp1 hp2 hp3 (Or.inr rfl) h
/-! PollBooks$Jury.benchSize()I -/
def y_Ju_benchSize : MethodName := ⟨"PollBooks$Jury", "benchSize", "()I"⟩
def rm_Ju_benchSize : Room := { frames := 0, cells := 0, slots := 0, locals := 0 }
theorem mw_Ju_benchSize : MW y_Ju_benchSize prog_4_method_5_code 1 (some .int) 0 := ⟨lk_1335, lk_12, by decide +kernel⟩
def L_Ju_benchSize (d : Dt) : Option (Int × Dt) :=
  some ((d 64 7), d)
set_option maxHeartbeats 4000000 in
theorem ok_Ju_benchSize {l : Launch} {r : Int} {d' : Dt} (d : Dt)  (h : L_Ju_benchSize d = some (r, d')) : MC l y_Ju_benchSize prog_4_method_5_code 1 (some .int) rm_Ju_benchSize 0 [(2, 64)] d (some (0, r)) d' := by
  refine MC.of (by decide) (Nat.le_of_ble_eq_true rfl) ?_
  intro p e s m args below meth c D cA ad A C hlk hr
  replace C : Cx p s m args c prog_4_method_5_code 1 "PollBooks$Jury" D cA ad 0 A := C
  show G p l e rm_Ju_benchSize s m args below meth c 0 0 (MQ below (fun _ => QC D cA ad 0 A (some .int) (some (0, r)) d') args s 0 0 A) 1 D cA ad 0 A 0 [(2, 64)] [] d
  refine g_sub (lo2 := [(2, 64)]) (lsb_v lsb_e) ?_
  unfold L_Ju_benchSize at h
  refine g_aload_n C 0 rfl (by decide +kernel) ?_
  refine g_getI C cl2 64 7 rfl cd_A64 ⟨by decide, rfl, by decide⟩ rfl (nA (by decide)) (ix := 35) lk_414 (by decide +kernel) (fun hc1_ => ?_)
  obtain ⟨rfl, rfl⟩ := ret_inj h
  exact g_iret C hc1_ hlk hr (by decide +kernel)
/-! PollBooks$Jury.benchAt(I)I -/
def y_Ju_benchAt : MethodName := ⟨"PollBooks$Jury", "benchAt", "(I)I"⟩
def rm_Ju_benchAt : Room := { frames := 0, cells := 0, slots := 0, locals := 0 }
theorem mw_Ju_benchAt : MW y_Ju_benchAt prog_4_method_6_code 2 (some .int) 1 := ⟨lk_1339, lk_12, by decide +kernel⟩
def L_Ju_benchAt (p1 : Int) (d : Dt) : Option (Int × Dt) :=
  ck ((0 : Int) ≤ p1 ∧ p1 < 30) (some ((d 70 p1.toNat), d))
set_option maxHeartbeats 4000000 in
theorem ok_Ju_benchAt {l : Launch} {r : Int} {d' : Dt} (p1 : Int) (d : Dt) (hp1 : c32 p1) (h : L_Ju_benchAt p1 d = some (r, d')) : MC l y_Ju_benchAt prog_4_method_6_code 2 (some .int) rm_Ju_benchAt 0 [(2, 64), (0, p1)] d (some (0, r)) d' := by
  refine MC.of (by decide) (Nat.le_of_ble_eq_true rfl) ?_
  intro p e s m args below meth c D cA ad A C hlk hr
  replace C : Cx p s m args c prog_4_method_6_code 2 "PollBooks$Jury" D cA ad 0 A := C
  show G p l e rm_Ju_benchAt s m args below meth c 0 0 (MQ below (fun _ => QC D cA ad 0 A (some .int) (some (0, r)) d') args s 0 0 A) 2 D cA ad 0 A 0 [(2, 64), (0, p1)] [] d
  refine g_sub (lo2 := [(2, 64), (0, p1)]) (lsb_v (lsb_v lsb_e)) ?_
  unfold L_Ju_benchAt at h
  refine g_aload_n C 0 rfl (by decide +kernel) ?_
  refine g_getR C cl2 64 6 70 rfl cd_A64 ⟨by decide, rfl, by decide⟩ rfl rfl (nA (by decide)) (ix := 28) lk_413 (by decide +kernel) ?_
  refine g_iload_n C 1 rfl (by decide +kernel) ?_
  obtain ⟨hb1_, h⟩ := ck_some h
  refine g_iald C 70 hp1 rfl cd_A70 (nA (by decide)) hb1_ (by decide +kernel) (fun hc2_ => ?_)
  obtain ⟨rfl, rfl⟩ := ret_inj h
  exact g_iret C hc2_ hlk hr (by decide +kernel)
/-! PollBooks.bench(I)I -/
def y_PB_bench : MethodName := ⟨"PollBooks", "bench", "(I)I"⟩
def rm_PB_bench : Room := { frames := 1, cells := 0, slots := 0, locals := 21 }
theorem mw_PB_bench : MW y_PB_bench prog_1_method_47_code 2 (some .int) 1 := ⟨lk_1331, lk_1, by decide +kernel⟩
def L_PB_bench_b26 (x1 s1 : Int) (d : Dt) : Option (Int × Dt) :=
  if s1 = 0 then bd (L_Ju_benchAt x1 (up2 d 0 0 s1)) (fun r4_ d3_ => some (r4_, d3_)) else some ((-1), (up2 d 0 0 s1))
def L_PB_bench (p1 : Int) (d : Dt) : Option (Int × Dt) :=
  if p1 < 0 then L_PB_bench_b26 p1 1 d else bd (L_Ju_benchSize d) (fun r9_ d8_ => if p1 < r9_ then L_PB_bench_b26 p1 0 d8_ else L_PB_bench_b26 p1 6 d8_)
set_option maxHeartbeats 4000000 in
theorem ok_PB_bench_b26 {p : Program} {l : Launch} {e : Env} {s : State} {m : MethodId} {args : Array Value} {below : List Frame} {meth : Method} {c : Code} {D : va_G} {cA : Nat → ClassId} {ad : Nat → Nat} {A : Nat → Prop} (C : Cx p s m args c prog_1_method_47_code 2 "PollBooks" D cA ad 0 A) (hlk : meth.locks = false) (hr : meth.sig.returnType = (some .int)) {r : Int} {d' : Dt} (x1 s1 : Int) (d : Dt) (hx1 : c32 x1) (hs1 : c32 s1) (h : L_PB_bench_b26 x1 s1 d = some (r, d')) : G p l e rm_PB_bench s m args below meth c 0 0 (MQ below (fun _ => QC D cA ad 0 A (some .int) (some (0, r)) d') args s 0 0 A) 2 D cA ad 0 A 26 [(2, 0), (0, x1)] [(0, s1), (2, 0)] d := by
  unfold L_PB_bench_b26 at h
  refine g_putI C cl11 0 0 hs1 rfl cd_A0 ⟨by decide, rfl, by decide⟩ rfl (nA (by decide)) (ix := 9) lk_467 rfl rfl (by decide +kernel) ?_
  refine g_aload_n C 0 rfl (by decide +kernel) ?_
  refine g_getI C cl11 0 0 rfl cd_A0 ⟨by decide, rfl, by decide⟩ rfl (nA (by decide)) (ix := 9) lk_467 (by decide +kernel) (fun hc1_ => ?_)
  refine g_val (y := s1) rfl ?_
  replace hc1_ : c32 s1 := hc1_
  refine g_if_ne C (off := 14) (tgt := 47) hc1_ (by decide +kernel) (by decide) (fun hc2_ => ?_) (fun hc2_ => ?_)
  · replace h := ite_t hc2_ h
    refine g_aload_n C 0 rfl (by decide +kernel) ?_
    refine g_getR C cl11 0 9 64 rfl cd_A0 ⟨by decide, rfl, by decide⟩ rfl rfl (nA (by decide)) (ix := 80) lk_476 (by decide +kernel) ?_
    refine g_iload_n C 1 rfl (by decide +kernel) ?_
    obtain ⟨r4_, d3_, hr5_, h⟩ := bd_some h
    refine g_callV C mw_Ju_benchAt [(0, x1)] 64 cl2 rfl (ok_Ju_benchAt x1 (up2 d 0 0 s1) hx1 hr5_) cd_A64 (by decide) (nA (by decide)) (ix := 418) lk_1336 lk_1337 lk_1338 ⟨rfl, rfl, Nat.le_of_ble_eq_true rfl, Nat.le_of_ble_eq_true rfl⟩ rfl (rest := []) rfl (Nat.le_of_ble_eq_true rfl) ⟨Nat.zero_le _, Nat.zero_le _⟩ (by decide +kernel) (fun _ hc6_ => ?_)
    replace hc6_ : c32 r4_ := hc6_
    refine g_st (st2 := [(0, r4_)]) rfl ?_
    refine g_goto C 48 (off := 4) (by decide +kernel) (by decide) ?_
    obtain ⟨rfl, rfl⟩ := ret_inj h
    exact g_iret C hc6_ hlk hr (by decide +kernel)
  · replace h := ite_f hc2_ h
    refine g_iconst C (-1) (cK rfl) (by decide +kernel) ?_
    obtain ⟨rfl, rfl⟩ := ret_inj h
    exact g_iret C (cK rfl) hlk hr (by decide +kernel)
set_option maxHeartbeats 4000000 in
theorem ok_PB_bench {l : Launch} {r : Int} {d' : Dt} (p1 : Int) (d : Dt) (hp1 : c32 p1) (h : L_PB_bench p1 d = some (r, d')) : MC l y_PB_bench prog_1_method_47_code 2 (some .int) rm_PB_bench 0 [(2, 0), (0, p1)] d (some (0, r)) d' := by
  refine MC.of (by decide) (Nat.le_of_ble_eq_true rfl) ?_
  intro p e s m args below meth c D cA ad A C hlk hr
  replace C : Cx p s m args c prog_1_method_47_code 2 "PollBooks" D cA ad 0 A := C
  show G p l e rm_PB_bench s m args below meth c 0 0 (MQ below (fun _ => QC D cA ad 0 A (some .int) (some (0, r)) d') args s 0 0 A) 2 D cA ad 0 A 0 [(2, 0), (0, p1)] [] d
  refine g_sub (lo2 := [(2, 0), (0, p1)]) (lsb_v (lsb_v lsb_e)) ?_
  unfold L_PB_bench at h
  refine g_aload_n C 0 rfl (by decide +kernel) ?_
  refine g_iload_n C 1 rfl (by decide +kernel) ?_
  refine g_if_ge C (off := 7) (tgt := 9) hp1 (by decide +kernel) (by decide) (fun hc7_ => ?_) (fun hc7_ => ?_)
  · replace h := ite_t hc7_ h
    refine g_iconst C 1 (cK rfl) (by decide +kernel) ?_
    refine g_goto C 26 (off := 20) (by decide +kernel) (by decide) ?_
    refine g_sub (lo2 := [(2, 0), (0, p1)]) (lsb_v (lsb_v lsb_e)) ?_
    exact ok_PB_bench_b26 C hlk hr p1 1 d hp1 (c32_cb (Or.inr rfl)) h
  · replace h := ite_f hc7_ h
    refine g_iload_n C 1 rfl (by decide +kernel) ?_
    refine g_aload_n C 0 rfl (by decide +kernel) ?_
    refine g_getR C cl11 0 9 64 rfl cd_A0 ⟨by decide, rfl, by decide⟩ rfl rfl (nA (by decide)) (ix := 80) lk_476 (by decide +kernel) ?_
    obtain ⟨r9_, d8_, hr10_, h⟩ := bd_some h
    refine g_callV C mw_Ju_benchSize [] 64 cl2 rfl (ok_Ju_benchSize  d  hr10_) cd_A64 (by decide) (nA (by decide)) (ix := 415) lk_1332 lk_1333 lk_1334 ⟨rfl, rfl, Nat.le_of_ble_eq_true rfl, Nat.le_of_ble_eq_true rfl⟩ rfl (rest := [(0, p1), (2, 0)]) rfl (Nat.le_of_ble_eq_true rfl) ⟨Nat.zero_le _, Nat.zero_le _⟩ (by decide +kernel) (fun _ hc11_ => ?_)
    replace hc11_ : c32 r9_ := hc11_
    refine g_st (st2 := [(0, r9_), (0, p1), (2, 0)]) rfl ?_
    refine g_icmp_ge C (off := 7) (tgt := 24) hp1 hc11_ (by decide +kernel) (by decide) (fun hc12_ => ?_) (fun hc12_ => ?_)
    · replace h := ite_t hc12_ h
      refine g_iconst C 0 (cK rfl) (by decide +kernel) ?_
      refine g_goto C 26 (off := 5) (by decide +kernel) (by decide) ?_
      refine g_sub (lo2 := [(2, 0), (0, p1)]) (lsb_v (lsb_v lsb_e)) ?_
      exact ok_PB_bench_b26 C hlk hr p1 0 d8_ hp1 (c32_cb (Or.inl rfl)) h
    · replace h := ite_f hc12_ h
      refine g_bipush C 6 (by decide) (by decide +kernel) ?_
      refine g_sub (lo2 := [(2, 0), (0, p1)]) (lsb_v (lsb_v lsb_e)) ?_
      exact ok_PB_bench_b26 C hlk hr p1 6 d8_ hp1 (cK rfl) h
/-! PollBooks$Roads.setMiles(III)V -/
def y_Ro_setMiles : MethodName := ⟨"PollBooks$Roads", "setMiles", "(III)V"⟩
def rm_Ro_setMiles : Room := { frames := 0, cells := 0, slots := 0, locals := 0 }
theorem mw_Ro_setMiles : MW y_Ro_setMiles prog_10_method_2_code 4 none 3 := ⟨lk_1347, lk_13, by decide +kernel⟩
def L_Ro_setMiles (p1 p2 p3 : Int) (d : Dt) : Option (Int × Dt) :=
  ck ((0 : Int) ≤ (w32 ((w32 (p1 * 7)) + p2)) ∧ (w32 ((w32 (p1 * 7)) + p2)) < 49) (ck ((0 : Int) ≤ (w32 ((w32 (p2 * 7)) + p1)) ∧ (w32 ((w32 (p2 * 7)) + p1)) < 49) (some (0, (up2 (up2 d 72 ((w32 ((w32 (p1 * 7)) + p2))).toNat p3) 72 ((w32 ((w32 (p2 * 7)) + p1))).toNat p3))))
set_option maxHeartbeats 4000000 in
theorem ok_Ro_setMiles {l : Launch} {r : Int} {d' : Dt} (p1 p2 p3 : Int) (d : Dt) (hp1 : c32 p1) (hp2 : c32 p2) (hp3 : c32 p3) (h : L_Ro_setMiles p1 p2 p3 d = some (r, d')) : MC l y_Ro_setMiles prog_10_method_2_code 4 none rm_Ro_setMiles 0 [(2, 71), (0, p1), (0, p2), (0, p3)] d none d' := by
  refine MC.of (by decide) (Nat.le_of_ble_eq_true rfl) ?_
  intro p e s m args below meth c D cA ad A C hlk hr
  replace C : Cx p s m args c prog_10_method_2_code 4 "PollBooks$Roads" D cA ad 0 A := C
  show G p l e rm_Ro_setMiles s m args below meth c 0 0 (MQ below (fun _ => QC D cA ad 0 A none none d') args s 0 0 A) 4 D cA ad 0 A 0 [(2, 71), (0, p1), (0, p2), (0, p3)] [] d
  refine g_sub (lo2 := [(2, 71), (0, p1), (0, p2), (0, p3)]) (lsb_v (lsb_v (lsb_v (lsb_v lsb_e)))) ?_
  unfold L_Ro_setMiles at h
  refine g_aload_n C 0 rfl (by decide +kernel) ?_
  refine g_getR C cl8 71 0 72 rfl cd_A71 ⟨by decide, rfl, by decide⟩ rfl rfl (nA (by decide)) (ix := 11) lk_439 (by decide +kernel) ?_
  refine g_iload_n C 1 rfl (by decide +kernel) ?_
  refine g_bipush C 7 (by decide) (by decide +kernel) ?_
  refine g_imul C (by decide +kernel) ?_
  refine g_iload_n C 2 rfl (by decide +kernel) ?_
  refine g_iadd C (by decide +kernel) ?_
  refine g_iload_n C 3 rfl (by decide +kernel) ?_
  obtain ⟨hb1_, h⟩ := ck_some h
  refine g_iast C 72 hp3 (w32_c _) rfl cd_A72 (nA (by decide)) hb1_ (by decide +kernel) ?_
  refine g_aload_n C 0 rfl (by decide +kernel) ?_
  refine g_getR C cl8 71 0 72 rfl cd_A71 ⟨by decide, rfl, by decide⟩ rfl rfl (nA (by decide)) (ix := 11) lk_439 (by decide +kernel) ?_
  refine g_iload_n C 2 rfl (by decide +kernel) ?_
  refine g_bipush C 7 (by decide) (by decide +kernel) ?_
  refine g_imul C (by decide +kernel) ?_
  refine g_iload_n C 1 rfl (by decide +kernel) ?_
  refine g_iadd C (by decide +kernel) ?_
  refine g_iload_n C 3 rfl (by decide +kernel) ?_
  obtain ⟨hb2_, h⟩ := ck_some h
  refine g_iast C 72 hp3 (w32_c _) rfl cd_A72 (nA (by decide)) hb2_ (by decide +kernel) ?_
  obtain ⟨rfl, rfl⟩ := ret_inj h
  exact g_vret C hlk hr (by decide +kernel)
/-! PollBooks.miles(III)Z -/
def y_PB_miles : MethodName := ⟨"PollBooks", "miles", "(III)Z"⟩
def rm_PB_miles : Room := { frames := 2, cells := 0, slots := 0, locals := 45 }
theorem mw_PB_miles : MW y_PB_miles prog_1_method_48_code 5 (some .boolean) 3 := ⟨lk_1343, lk_1, by decide +kernel⟩
def L_PB_miles_b49 (x1 x2 x3 x4 s1 : Int) (d : Dt) : Option (Int × Dt) :=
  if x4 = 0 then some (x4, (up2 d 0 0 s1)) else bd (L_Ro_setMiles x1 x2 x3 (up2 d 0 0 s1)) (fun r3_ d2_ => some (x4, d2_))
def L_PB_miles_b36 (x1 x2 x3 s0 : Int) (d : Dt) : Option (Int × Dt) :=
  if s0 = 0 then L_PB_miles_b49 x1 x2 x3 s0 1 d else L_PB_miles_b49 x1 x2 x3 s0 0 d
def L_PB_miles (p1 p2 p3 : Int) (d : Dt) : Option (Int × Dt) :=
  bd (L_PB_isPlace p1 d) (fun r8_ d7_ => if r8_ = 0 then L_PB_miles_b36 p1 p2 p3 0 d7_ else bd (L_PB_isPlace p2 d7_) (fun r13_ d12_ => if r13_ = 0 then L_PB_miles_b36 p1 p2 p3 0 d12_ else if p1 = p2 then L_PB_miles_b36 p1 p2 p3 0 d12_ else bd (L_PB_within p3 1 1000 d12_) (fun r19_ d18_ => if r19_ = 0 then L_PB_miles_b36 p1 p2 p3 0 d18_ else L_PB_miles_b36 p1 p2 p3 1 d18_)))
set_option maxHeartbeats 4000000 in
theorem ok_PB_miles_b49 {p : Program} {l : Launch} {e : Env} {s : State} {m : MethodId} {args : Array Value} {below : List Frame} {meth : Method} {c : Code} {D : va_G} {cA : Nat → ClassId} {ad : Nat → Nat} {A : Nat → Prop} (C : Cx p s m args c prog_1_method_48_code 5 "PollBooks" D cA ad 0 A) (hlk : meth.locks = false) (hr : meth.sig.returnType = (some .boolean)) {r : Int} {d' : Dt} (x1 x2 x3 x4 s1 : Int) (d : Dt) (hx1 : c32 x1) (hx2 : c32 x2) (hx3 : c32 x3) (hx4 : cb x4) (hs1 : cb s1) (h : L_PB_miles_b49 x1 x2 x3 x4 s1 d = some (r, d')) : G p l e rm_PB_miles s m args below meth c 0 0 (MQ below (fun _ => QC D cA ad 0 A (some .boolean) (some (0, r)) d') args s 0 0 A) 5 D cA ad 0 A 49 [(2, 0), (0, x1), (0, x2), (0, x3), (0, x4)] [(0, s1), (2, 0)] d := by
  unfold L_PB_miles_b49 at h
  refine g_putI C cl11 0 0 (c32_cb hs1) rfl cd_A0 ⟨by decide, rfl, by decide⟩ rfl (nA (by decide)) (ix := 9) lk_467 rfl rfl (by decide +kernel) ?_
  refine g_iload C 4 rfl (by decide +kernel) ?_
  refine g_if_eq C (off := 13) (tgt := 67) (c32_cb hx4) (by decide +kernel) (by decide) (fun hc1_ => ?_) (fun hc1_ => ?_)
  · replace h := ite_t hc1_ h
    refine g_iload C 4 rfl (by decide +kernel) ?_
    obtain ⟨rfl, rfl⟩ := ret_inj h
    exact g_zret C hx4 hlk hr (by decide +kernel)
  · replace h := ite_f hc1_ h
    refine g_aload_n C 0 rfl (by decide +kernel) ?_
    refine g_getR C cl11 0 10 71 rfl cd_A0 ⟨by decide, rfl, by decide⟩ rfl rfl (nA (by decide)) (ix := 87) lk_477 (by decide +kernel) ?_
    refine g_iload_n C 1 rfl (by decide +kernel) ?_
    refine g_iload_n C 2 rfl (by decide +kernel) ?_
    refine g_iload_n C 3 rfl (by decide +kernel) ?_
    obtain ⟨r3_, d2_, hr4_, h⟩ := bd_some h
    refine g_callV C mw_Ro_setMiles [(0, x1), (0, x2), (0, x3)] 71 cl8 rfl (ok_Ro_setMiles x1 x2 x3 (up2 d 0 0 s1) hx1 hx2 hx3 hr4_) cd_A71 (by decide) (nA (by decide)) (ix := 421) lk_1344 lk_1345 lk_1346 ⟨rfl, rfl, Nat.le_of_ble_eq_true rfl, Nat.le_of_ble_eq_true rfl⟩ rfl (rest := []) rfl (Nat.le_of_ble_eq_true rfl) ⟨Nat.zero_le _, Nat.zero_le _⟩ (by decide +kernel) (fun _ hc5_ => ?_)
    refine g_st (st2 := []) rfl ?_
    refine g_iload C 4 rfl (by decide +kernel) ?_
    obtain ⟨rfl, rfl⟩ := ret_inj h
    exact g_zret C hx4 hlk hr (by decide +kernel)
set_option maxHeartbeats 4000000 in
theorem ok_PB_miles_b36 {p : Program} {l : Launch} {e : Env} {s : State} {m : MethodId} {args : Array Value} {below : List Frame} {meth : Method} {c : Code} {D : va_G} {cA : Nat → ClassId} {ad : Nat → Nat} {A : Nat → Prop} (C : Cx p s m args c prog_1_method_48_code 5 "PollBooks" D cA ad 0 A) (hlk : meth.locks = false) (hr : meth.sig.returnType = (some .boolean)) {r : Int} {d' : Dt} (x1 x2 x3 s0 : Int) (d : Dt) (hx1 : c32 x1) (hx2 : c32 x2) (hx3 : c32 x3) (hs0 : cb s0) (h : L_PB_miles_b36 x1 x2 x3 s0 d = some (r, d')) : G p l e rm_PB_miles s m args below meth c 0 0 (MQ below (fun _ => QC D cA ad 0 A (some .boolean) (some (0, r)) d') args s 0 0 A) 5 D cA ad 0 A 36 [(2, 0), (0, x1), (0, x2), (0, x3), (9, 0)] [(0, s0)] d := by
  unfold L_PB_miles_b36 at h
  refine s_istore C 4 (lo' := [(2, 0), (0, x1), (0, x2), (0, x3), (0, s0)]) (by decide) (s1k (s1k (s1k (s1n (by decide) s1z)))) (by decide +kernel) ?_
  refine g_aload_n C 0 rfl (by decide +kernel) ?_
  refine g_iload C 4 rfl (by decide +kernel) ?_
  refine g_if_eq C (off := 7) (tgt := 48) (c32_cb hs0) (by decide +kernel) (by decide) (fun hc6_ => ?_) (fun hc6_ => ?_)
  · replace h := ite_t hc6_ h
    refine g_iconst C 1 (cK rfl) (by decide +kernel) ?_
    refine g_sub (lo2 := [(2, 0), (0, x1), (0, x2), (0, x3), (0, s0)]) (lsb_v (lsb_v (lsb_v (lsb_v (lsb_v lsb_e))))) ?_
    exact ok_PB_miles_b49 C hlk hr x1 x2 x3 s0 1 d hx1 hx2 hx3 hs0 (Or.inr rfl) h
  · replace h := ite_f hc6_ h
    refine g_iconst C 0 (cK rfl) (by decide +kernel) ?_
    refine g_goto C 49 (off := 4) (by decide +kernel) (by decide) ?_
    refine g_sub (lo2 := [(2, 0), (0, x1), (0, x2), (0, x3), (0, s0)]) (lsb_v (lsb_v (lsb_v (lsb_v (lsb_v lsb_e))))) ?_
    exact ok_PB_miles_b49 C hlk hr x1 x2 x3 s0 0 d hx1 hx2 hx3 hs0 (Or.inl rfl) h
set_option maxHeartbeats 4000000 in
theorem ok_PB_miles {l : Launch} {r : Int} {d' : Dt} (p1 p2 p3 : Int) (d : Dt) (hp1 : c32 p1) (hp2 : c32 p2) (hp3 : c32 p3) (h : L_PB_miles p1 p2 p3 d = some (r, d')) : MC l y_PB_miles prog_1_method_48_code 5 (some .boolean) rm_PB_miles 0 [(2, 0), (0, p1), (0, p2), (0, p3)] d (some (0, r)) d' := by
  refine MC.of (by decide) (Nat.le_of_ble_eq_true rfl) ?_
  intro p e s m args below meth c D cA ad A C hlk hr
  replace C : Cx p s m args c prog_1_method_48_code 5 "PollBooks" D cA ad 0 A := C
  show G p l e rm_PB_miles s m args below meth c 0 0 (MQ below (fun _ => QC D cA ad 0 A (some .boolean) (some (0, r)) d') args s 0 0 A) 5 D cA ad 0 A 0 [(2, 0), (0, p1), (0, p2), (0, p3)] [] d
  refine g_sub (lo2 := [(2, 0), (0, p1), (0, p2), (0, p3), (9, 0)]) (lsb_v (lsb_v (lsb_v (lsb_v (lsb_n lsb_e))))) ?_
  unfold L_PB_miles at h
  refine g_iload_n C 1 rfl (by decide +kernel) ?_
  obtain ⟨r8_, d7_, hr9_, h⟩ := bd_some h
  refine g_callS C mw_PB_isPlace [(0, p1)] (ok_PB_isPlace p1 d hp1 hr9_) (ix := 158) lk_608 lk_609 ⟨rfl, rfl, Nat.le_of_ble_eq_true rfl, Nat.le_of_ble_eq_true rfl⟩ rfl (rest := []) rfl (Nat.le_of_ble_eq_true rfl) ⟨Nat.zero_le _, Nat.zero_le _⟩ (by decide +kernel) (fun _ hc10_ => ?_)
  replace hc10_ : cb r8_ := hc10_
  refine g_st (st2 := [(0, r8_)]) rfl ?_
  refine g_if_eq C (off := 31) (tgt := 35) (c32_cb hc10_) (by decide +kernel) (by decide) (fun hc11_ => ?_) (fun hc11_ => ?_)
  · replace h := ite_t hc11_ h
    refine g_iconst C 0 (cK rfl) (by decide +kernel) ?_
    refine g_sub (lo2 := [(2, 0), (0, p1), (0, p2), (0, p3), (9, 0)]) (lsb_v (lsb_v (lsb_v (lsb_v (lsb_c lsb_e))))) ?_
    exact ok_PB_miles_b36 C hlk hr p1 p2 p3 0 d7_ hp1 hp2 hp3 (Or.inl rfl) h
  · replace h := ite_f hc11_ h
    refine g_iload_n C 2 rfl (by decide +kernel) ?_
    obtain ⟨r13_, d12_, hr14_, h⟩ := bd_some h
    refine g_callS C mw_PB_isPlace [(0, p2)] (ok_PB_isPlace p2 d7_ hp2 hr14_) (ix := 158) lk_608 lk_609 ⟨rfl, rfl, Nat.le_of_ble_eq_true rfl, Nat.le_of_ble_eq_true rfl⟩ rfl (rest := []) rfl (Nat.le_of_ble_eq_true rfl) ⟨Nat.zero_le _, Nat.zero_le _⟩ (by decide +kernel) (fun _ hc15_ => ?_)
    replace hc15_ : cb r13_ := hc15_
    refine g_st (st2 := [(0, r13_)]) rfl ?_
    refine g_if_eq C (off := 24) (tgt := 35) (c32_cb hc15_) (by decide +kernel) (by decide) (fun hc16_ => ?_) (fun hc16_ => ?_)
    · replace h := ite_t hc16_ h
      refine g_iconst C 0 (cK rfl) (by decide +kernel) ?_
      refine g_sub (lo2 := [(2, 0), (0, p1), (0, p2), (0, p3), (9, 0)]) (lsb_v (lsb_v (lsb_v (lsb_v (lsb_c lsb_e))))) ?_
      exact ok_PB_miles_b36 C hlk hr p1 p2 p3 0 d12_ hp1 hp2 hp3 (Or.inl rfl) h
    · replace h := ite_f hc16_ h
      refine g_iload_n C 1 rfl (by decide +kernel) ?_
      refine g_iload_n C 2 rfl (by decide +kernel) ?_
      refine g_icmp_eq C (off := 19) (tgt := 35) hp1 hp2 (by decide +kernel) (by decide) (fun hc17_ => ?_) (fun hc17_ => ?_)
      · replace h := ite_t hc17_ h
        refine g_iconst C 0 (cK rfl) (by decide +kernel) ?_
        refine g_sub (lo2 := [(2, 0), (0, p1), (0, p2), (0, p3), (9, 0)]) (lsb_v (lsb_v (lsb_v (lsb_v (lsb_c lsb_e))))) ?_
        exact ok_PB_miles_b36 C hlk hr p1 p2 p3 0 d12_ hp1 hp2 hp3 (Or.inl rfl) h
      · replace h := ite_f hc17_ h
        refine g_iload_n C 3 rfl (by decide +kernel) ?_
        refine g_i2l C hp3 (by decide +kernel) ?_
        refine g_lconst C 1 (v := 1) (by decide) (by decide +kernel) ?_
        refine g_ldc2 C (ix := 178) (v := 1000) lk_642 (by decide +kernel) ?_
        obtain ⟨r19_, d18_, hr20_, h⟩ := bd_some h
        refine g_callS C mw_PB_within [(1, p3), (1, 1), (1, 1000)] (ok_PB_within p3 1 1000 d12_ (c64_32 hp3) (cL rfl) (cL rfl) hr20_) (ix := 105) lk_520 lk_521 ⟨rfl, rfl, Nat.le_of_ble_eq_true rfl, Nat.le_of_ble_eq_true rfl⟩ rfl (rest := []) rfl (Nat.le_of_ble_eq_true rfl) ⟨Nat.zero_le _, Nat.zero_le _⟩ (by decide +kernel) (fun _ hc21_ => ?_)
        replace hc21_ : cb r19_ := hc21_
        refine g_st (st2 := [(0, r19_)]) rfl ?_
        refine g_if_eq C (off := 7) (tgt := 35) (c32_cb hc21_) (by decide +kernel) (by decide) (fun hc22_ => ?_) (fun hc22_ => ?_)
        · replace h := ite_t hc22_ h
          refine g_iconst C 0 (cK rfl) (by decide +kernel) ?_
          refine g_sub (lo2 := [(2, 0), (0, p1), (0, p2), (0, p3), (9, 0)]) (lsb_v (lsb_v (lsb_v (lsb_v (lsb_c lsb_e))))) ?_
          exact ok_PB_miles_b36 C hlk hr p1 p2 p3 0 d18_ hp1 hp2 hp3 (Or.inl rfl) h
        · replace h := ite_f hc22_ h
          refine g_iconst C 1 (cK rfl) (by decide +kernel) ?_
          refine g_goto C 36 (off := 4) (by decide +kernel) (by decide) ?_
          refine g_sub (lo2 := [(2, 0), (0, p1), (0, p2), (0, p3), (9, 0)]) (lsb_v (lsb_v (lsb_v (lsb_v (lsb_c lsb_e))))) ?_
          exact ok_PB_miles_b36 C hlk hr p1 p2 p3 1 d18_ hp1 hp2 hp3 (Or.inr rfl) h
/-! PollBooks.coachStatus(III)I -/
def y_PB_coachStatus : MethodName := ⟨"PollBooks", "coachStatus", "(III)I"⟩
def rm_PB_coachStatus : Room := { frames := 2, cells := 0, slots := 0, locals := 45 }
theorem mw_PB_coachStatus : MW y_PB_coachStatus prog_1_method_51_code 5 (some .int) 3 := ⟨lk_1355, lk_1, by decide +kernel⟩
def L_PB_coachStatus_y64 (x2 x4 : Int) (d : Dt) : Option ((Int × Int × Dt) ⊕ ((Dt) ⊕ (Dt))) :=
  if x4 < 7 then bd (L_Tr_at x2 x4 d) (fun r3_ d2_ => bd (L_PB_within r3_ 0 100 d2_) (fun r7_ d6_ => if r7_ = 0 then some (Sum.inr (Sum.inr (d6_))) else some (Sum.inl (x2, (w32 (x4 + 1)), d6_)))) else some (Sum.inr (Sum.inl (d)))
def L_PB_coachStatus_l64 (x2 x4 : Int) (d : Dt) : Option ((Dt) ⊕ (Dt)) := lpF (fun q : Int × Int × Dt => L_PB_coachStatus_y64 q.1 q.2.1 q.2.2) FU (x2, x4, d)
def L_PB_coachStatus (p1 p2 p3 : Int) (d : Dt) : Option (Int × Dt) :=
  bd (L_PB_isPlace p1 d) (fun r12_ d11_ => if r12_ = 0 then some (1, d11_) else bd (L_Tr_canBe p2 d11_) (fun r17_ d16_ => if r17_ = 0 then some (1, d16_) else bd (L_PB_within p3 1 20 d16_) (fun r22_ d21_ => if r22_ = 0 then some (1, d21_) else bd (L_Tr_isThere p2 d21_) (fun r27_ d26_ => if r27_ = 0 then some (2, d26_) else bd (L_Tr_reaches p2 0 7 d26_) (fun r32_ d31_ => if r32_ = 0 then some (3, d31_) else lb (L_PB_coachStatus_l64 p2 0 d31_) (fun q42_ => sm q42_ (fun q43_ => u0 q43_ (fun d38_ => some (0, d38_))) (fun q44_ => u0 q44_ (fun d40_ => some (1, d40_)))))))))
set_option maxHeartbeats 4000000 in
theorem ok_PB_coachStatus_y64 {p : Program} {l : Launch} {e : Env} {s : State} {m : MethodId} {args : Array Value} {below : List Frame} {meth : Method} {c : Code} {D : va_G} {cA : Nat → ClassId} {ad : Nat → Nat} {A : Nat → Prop} (C : Cx p s m args c prog_1_method_51_code 5 "PollBooks" D cA ad 0 A) {Q : State → Prop} {o : (Int × Int × Dt) ⊕ ((Dt) ⊕ (Dt))} (x2 x4 : Int) (d : Dt) (hx2 : c32 x2) (hx4 : c32 x4) (h : L_PB_coachStatus_y64 x2 x4 d = some o) (kb : ∀ (y0 y1 : Int) (e' : Dt), o = .inl (y0, y1, e') → c32 y0 → c32 y1 → G p l e rm_PB_coachStatus s m args below meth c 0 0 Q 5 D cA ad 0 A 64 [(2, 0), (9, 0), (0, y0), (9, 0), (0, y1)] [] e') (k0 : ∀ (e' : Dt), o = .inr (Sum.inl (e')) → G p l e rm_PB_coachStatus s m args below meth c 0 0 Q 5 D cA ad 0 A 99 [(9, 0), (9, 0), (9, 0), (9, 0), (9, 0)] [] e') (k1 : ∀ (e' : Dt), o = .inr (Sum.inr (e')) → G p l e rm_PB_coachStatus s m args below meth c 0 0 Q 5 D cA ad 0 A 91 [(9, 0), (9, 0), (9, 0), (9, 0), (9, 0)] [] e') : G p l e rm_PB_coachStatus s m args below meth c 0 0 Q 5 D cA ad 0 A 64 [(2, 0), (9, 0), (0, x2), (9, 0), (0, x4)] [] d := by
  unfold L_PB_coachStatus_y64 at h
  refine g_iload C 4 rfl (by decide +kernel) ?_
  refine g_bipush C 7 (by decide) (by decide +kernel) ?_
  refine g_icmp_ge C (off := 31) (tgt := 99) hx4 (cK rfl) (by decide +kernel) (by decide) (fun hc1_ => ?_) (fun hc1_ => ?_)
  · replace h := ite_t hc1_ h
    refine g_aload_n C 0 rfl (by decide +kernel) ?_
    refine g_getR C cl11 0 1 3 rfl cd_A0 ⟨by decide, rfl, by decide⟩ rfl rfl (nA (by decide)) (ix := 16) lk_468 (by decide +kernel) ?_
    refine g_iload_n C 2 rfl (by decide +kernel) ?_
    refine g_iload C 4 rfl (by decide +kernel) ?_
    obtain ⟨r3_, d2_, hr4_, h⟩ := bd_some h
    refine g_callV C mw_Tr_at [(0, x2), (0, x4)] 3 cl10 rfl (ok_Tr_at x2 x4 d hx2 hx4 hr4_) cd_A3 (by decide) (nA (by decide)) (ix := 123) lk_561 lk_562 lk_563 ⟨rfl, rfl, Nat.le_of_ble_eq_true rfl, Nat.le_of_ble_eq_true rfl⟩ rfl (rest := []) rfl (Nat.le_of_ble_eq_true rfl) ⟨Nat.zero_le _, Nat.zero_le _⟩ (by decide +kernel) (fun _ hc5_ => ?_)
    replace hc5_ : c64 r3_ := hc5_
    refine g_st (st2 := [(1, r3_)]) rfl ?_
    refine g_lconst C 0 (v := 0) (by decide) (by decide +kernel) ?_
    refine g_ldc2 C (ix := 436) (v := 100) lk_1356 (by decide +kernel) ?_
    obtain ⟨r7_, d6_, hr8_, h⟩ := bd_some h
    refine g_callS C mw_PB_within [(1, r3_), (1, 0), (1, 100)] (ok_PB_within r3_ 0 100 d2_ hc5_ (cL rfl) (cL rfl) hr8_) (ix := 105) lk_520 lk_521 ⟨rfl, rfl, Nat.le_of_ble_eq_true rfl, Nat.le_of_ble_eq_true rfl⟩ rfl (rest := []) rfl (Nat.le_of_ble_eq_true rfl) ⟨Nat.zero_le _, Nat.zero_le _⟩ (by decide +kernel) (fun _ hc9_ => ?_)
    replace hc9_ : cb r7_ := hc9_
    refine g_st (st2 := [(0, r7_)]) rfl ?_
    refine g_if_ne C (off := 5) (tgt := 93) (c32_cb hc9_) (by decide +kernel) (by decide) (fun hc10_ => ?_) (fun hc10_ => ?_)
    · replace h := ite_t hc10_ h
      refine g_sub (lo2 := [(9, 0), (9, 0), (9, 0), (9, 0), (9, 0)]) (lsb_c (lsb_c (lsb_c (lsb_c (lsb_c lsb_e))))) ?_
      obtain rfl := Option.some.inj h
      exact k1 d6_ rfl 
    · replace h := ite_f hc10_ h
      refine s_iinc C 4 1 (lo' := [(2, 0), (9, 0), (0, x2), (9, 0), (0, (w32 (x4 + 1)))]) rfl (by decide) (s1k (s1k (s1k (s1n (by decide) s1z)))) (by decide +kernel) ?_
      refine g_goto C 64 (off := (-32)) (by decide +kernel) (by decide) ?_
      refine g_sub (lo2 := [(2, 0), (9, 0), (0, x2), (9, 0), (0, (w32 (x4 + 1)))]) (lsb_v (lsb_c (lsb_v (lsb_c (lsb_v lsb_e))))) ?_
      obtain rfl := Option.some.inj h
      exact kb x2 (w32 (x4 + 1)) d6_ rfl hx2 (w32_c _)
  · replace h := ite_f hc1_ h
    refine g_sub (lo2 := [(9, 0), (9, 0), (9, 0), (9, 0), (9, 0)]) (lsb_c (lsb_c (lsb_c (lsb_c (lsb_c lsb_e))))) ?_
    obtain rfl := Option.some.inj h
    exact k0 d rfl 
set_option maxHeartbeats 4000000 in
theorem ok_PB_coachStatus_n64 {p : Program} {l : Launch} {e : Env} {s : State} {m : MethodId} {args : Array Value} {below : List Frame} {meth : Method} {c : Code} {D : va_G} {cA : Nat → ClassId} {ad : Nat → Nat} {A : Nat → Prop} (C : Cx p s m args c prog_1_method_51_code 5 "PollBooks" D cA ad 0 A) {Q : State → Prop} {x : (Dt) ⊕ (Dt)} : ∀ (n : Nat) (x2 x4 : Int) (d : Dt), c32 x2 → c32 x4 → lpF (fun q : Int × Int × Dt => L_PB_coachStatus_y64 q.1 q.2.1 q.2.2) n (x2, x4, d) = some x → (∀ (e' : Dt), x = (Sum.inl (e')) → G p l e rm_PB_coachStatus s m args below meth c 0 0 Q 5 D cA ad 0 A 99 [(9, 0), (9, 0), (9, 0), (9, 0), (9, 0)] [] e') → (∀ (e' : Dt), x = (Sum.inr (e')) → G p l e rm_PB_coachStatus s m args below meth c 0 0 Q 5 D cA ad 0 A 91 [(9, 0), (9, 0), (9, 0), (9, 0), (9, 0)] [] e') → G p l e rm_PB_coachStatus s m args below meth c 0 0 Q 5 D cA ad 0 A 64 [(2, 0), (9, 0), (0, x2), (9, 0), (0, x4)] [] d := by
  intro n
  induction n with
  | zero => intro x2 x4 d g0 g1 h k0 k1; cases h
  | succ n ih =>
    intro x2 x4 d g0 g1 h k0 k1
    rcases lpF_some h with h | ⟨⟨v0_, v1_, e0_⟩, h1, h⟩
    · exact ok_PB_coachStatus_y64 C x2 x4 d g0 g1 h (fun z0_ z1_ e1_ eq w0_ w1_ => by cases eq) (fun e1_ eq => k0 _ (by cases eq; rfl) ) (fun e1_ eq => k1 _ (by cases eq; rfl) )
    · exact ok_PB_coachStatus_y64 C x2 x4 d g0 g1 h1 (fun z0_ z1_ e1_ eq w0_ w1_ => by cases eq; exact ih _ _ _ w0_ w1_ h k0 k1) (fun e1_ eq => by cases eq) (fun e1_ eq => by cases eq)
set_option maxHeartbeats 4000000 in
theorem ok_PB_coachStatus_l64 {p : Program} {l : Launch} {e : Env} {s : State} {m : MethodId} {args : Array Value} {below : List Frame} {meth : Method} {c : Code} {D : va_G} {cA : Nat → ClassId} {ad : Nat → Nat} {A : Nat → Prop} (C : Cx p s m args c prog_1_method_51_code 5 "PollBooks" D cA ad 0 A) {Q : State → Prop} {x : (Dt) ⊕ (Dt)} (x2 x4 : Int) (d : Dt) (hx2 : c32 x2) (hx4 : c32 x4) (h : L_PB_coachStatus_l64 x2 x4 d = some x) (k0 : ∀ (e' : Dt), x = (Sum.inl (e')) → G p l e rm_PB_coachStatus s m args below meth c 0 0 Q 5 D cA ad 0 A 99 [(9, 0), (9, 0), (9, 0), (9, 0), (9, 0)] [] e') (k1 : ∀ (e' : Dt), x = (Sum.inr (e')) → G p l e rm_PB_coachStatus s m args below meth c 0 0 Q 5 D cA ad 0 A 91 [(9, 0), (9, 0), (9, 0), (9, 0), (9, 0)] [] e') : G p l e rm_PB_coachStatus s m args below meth c 0 0 Q 5 D cA ad 0 A 64 [(2, 0), (9, 0), (0, x2), (9, 0), (0, x4)] [] d :=
  ok_PB_coachStatus_n64 C FU x2 x4 d hx2 hx4 h k0 k1
set_option maxHeartbeats 4000000 in
theorem ok_PB_coachStatus {l : Launch} {r : Int} {d' : Dt} (p1 p2 p3 : Int) (d : Dt) (hp1 : c32 p1) (hp2 : c32 p2) (hp3 : c32 p3) (h : L_PB_coachStatus p1 p2 p3 d = some (r, d')) : MC l y_PB_coachStatus prog_1_method_51_code 5 (some .int) rm_PB_coachStatus 0 [(2, 0), (0, p1), (0, p2), (0, p3)] d (some (0, r)) d' := by
  refine MC.of (by decide) (Nat.le_of_ble_eq_true rfl) ?_
  intro p e s m args below meth c D cA ad A C hlk hr
  replace C : Cx p s m args c prog_1_method_51_code 5 "PollBooks" D cA ad 0 A := C
  show G p l e rm_PB_coachStatus s m args below meth c 0 0 (MQ below (fun _ => QC D cA ad 0 A (some .int) (some (0, r)) d') args s 0 0 A) 5 D cA ad 0 A 0 [(2, 0), (0, p1), (0, p2), (0, p3)] [] d
  refine g_sub (lo2 := [(2, 0), (0, p1), (0, p2), (0, p3), (9, 0)]) (lsb_v (lsb_v (lsb_v (lsb_v (lsb_n lsb_e))))) ?_
  unfold L_PB_coachStatus at h
  refine g_iload_n C 1 rfl (by decide +kernel) ?_
  obtain ⟨r12_, d11_, hr13_, h⟩ := bd_some h
  refine g_callS C mw_PB_isPlace [(0, p1)] (ok_PB_isPlace p1 d hp1 hr13_) (ix := 158) lk_608 lk_609 ⟨rfl, rfl, Nat.le_of_ble_eq_true rfl, Nat.le_of_ble_eq_true rfl⟩ rfl (rest := []) rfl (Nat.le_of_ble_eq_true rfl) ⟨Nat.zero_le _, Nat.zero_le _⟩ (by decide +kernel) (fun _ hc14_ => ?_)
  replace hc14_ : cb r12_ := hc14_
  refine g_st (st2 := [(0, r12_)]) rfl ?_
  refine g_if_eq C (off := 26) (tgt := 30) (c32_cb hc14_) (by decide +kernel) (by decide) (fun hc15_ => ?_) (fun hc15_ => ?_)
  · replace h := ite_t hc15_ h
    refine g_iconst C 1 (cK rfl) (by decide +kernel) ?_
    obtain ⟨rfl, rfl⟩ := ret_inj h
    exact g_iret C (c32_cb (Or.inr rfl)) hlk hr (by decide +kernel)
  · replace h := ite_f hc15_ h
    refine g_aload_n C 0 rfl (by decide +kernel) ?_
    refine g_getR C cl11 0 1 3 rfl cd_A0 ⟨by decide, rfl, by decide⟩ rfl rfl (nA (by decide)) (ix := 16) lk_468 (by decide +kernel) ?_
    refine g_iload_n C 2 rfl (by decide +kernel) ?_
    obtain ⟨r17_, d16_, hr18_, h⟩ := bd_some h
    refine g_callV C mw_Tr_canBe [(0, p2)] 3 cl10 rfl (ok_Tr_canBe p2 d11_ hp2 hr18_) cd_A3 (by decide) (nA (by decide)) (ix := 99) lk_515 lk_516 lk_517 ⟨rfl, rfl, Nat.le_of_ble_eq_true rfl, Nat.le_of_ble_eq_true rfl⟩ rfl (rest := []) rfl (Nat.le_of_ble_eq_true rfl) ⟨Nat.zero_le _, Nat.zero_le _⟩ (by decide +kernel) (fun _ hc19_ => ?_)
    replace hc19_ : cb r17_ := hc19_
    refine g_st (st2 := [(0, r17_)]) rfl ?_
    refine g_if_eq C (off := 15) (tgt := 30) (c32_cb hc19_) (by decide +kernel) (by decide) (fun hc20_ => ?_) (fun hc20_ => ?_)
    · replace h := ite_t hc20_ h
      refine g_iconst C 1 (cK rfl) (by decide +kernel) ?_
      obtain ⟨rfl, rfl⟩ := ret_inj h
      exact g_iret C (c32_cb (Or.inr rfl)) hlk hr (by decide +kernel)
    · replace h := ite_f hc20_ h
      refine g_iload_n C 3 rfl (by decide +kernel) ?_
      refine g_i2l C hp3 (by decide +kernel) ?_
      refine g_lconst C 1 (v := 1) (by decide) (by decide +kernel) ?_
      refine g_ldc2 C (ix := 401) (v := 20) lk_1274 (by decide +kernel) ?_
      obtain ⟨r22_, d21_, hr23_, h⟩ := bd_some h
      refine g_callS C mw_PB_within [(1, p3), (1, 1), (1, 20)] (ok_PB_within p3 1 20 d16_ (c64_32 hp3) (cL rfl) (cL rfl) hr23_) (ix := 105) lk_520 lk_521 ⟨rfl, rfl, Nat.le_of_ble_eq_true rfl, Nat.le_of_ble_eq_true rfl⟩ rfl (rest := []) rfl (Nat.le_of_ble_eq_true rfl) ⟨Nat.zero_le _, Nat.zero_le _⟩ (by decide +kernel) (fun _ hc24_ => ?_)
      replace hc24_ : cb r22_ := hc24_
      refine g_st (st2 := [(0, r22_)]) rfl ?_
      refine g_if_ne C (off := 5) (tgt := 32) (c32_cb hc24_) (by decide +kernel) (by decide) (fun hc25_ => ?_) (fun hc25_ => ?_)
      · replace h := ite_t hc25_ h
        refine g_iconst C 1 (cK rfl) (by decide +kernel) ?_
        obtain ⟨rfl, rfl⟩ := ret_inj h
        exact g_iret C (c32_cb (Or.inr rfl)) hlk hr (by decide +kernel)
      · replace h := ite_f hc25_ h
        refine g_aload_n C 0 rfl (by decide +kernel) ?_
        refine g_getR C cl11 0 1 3 rfl cd_A0 ⟨by decide, rfl, by decide⟩ rfl rfl (nA (by decide)) (ix := 16) lk_468 (by decide +kernel) ?_
        refine g_iload_n C 2 rfl (by decide +kernel) ?_
        obtain ⟨r27_, d26_, hr28_, h⟩ := bd_some h
        refine g_callV C mw_Tr_isThere [(0, p2)] 3 cl10 rfl (ok_Tr_isThere p2 d21_ hp2 hr28_) cd_A3 (by decide) (nA (by decide)) (ix := 137) lk_542 lk_543 lk_544 ⟨rfl, rfl, Nat.le_of_ble_eq_true rfl, Nat.le_of_ble_eq_true rfl⟩ rfl (rest := []) rfl (Nat.le_of_ble_eq_true rfl) ⟨Nat.zero_le _, Nat.zero_le _⟩ (by decide +kernel) (fun _ hc29_ => ?_)
        replace hc29_ : cb r27_ := hc29_
        refine g_st (st2 := [(0, r27_)]) rfl ?_
        refine g_if_ne C (off := 5) (tgt := 45) (c32_cb hc29_) (by decide +kernel) (by decide) (fun hc30_ => ?_) (fun hc30_ => ?_)
        · replace h := ite_t hc30_ h
          refine g_iconst C 2 (cK rfl) (by decide +kernel) ?_
          obtain ⟨rfl, rfl⟩ := ret_inj h
          exact g_iret C (cK rfl) hlk hr (by decide +kernel)
        · replace h := ite_f hc30_ h
          refine g_aload_n C 0 rfl (by decide +kernel) ?_
          refine g_getR C cl11 0 1 3 rfl cd_A0 ⟨by decide, rfl, by decide⟩ rfl rfl (nA (by decide)) (ix := 16) lk_468 (by decide +kernel) ?_
          refine g_iload_n C 2 rfl (by decide +kernel) ?_
          refine g_iconst C 0 (cK rfl) (by decide +kernel) ?_
          refine g_bipush C 7 (by decide) (by decide +kernel) ?_
          obtain ⟨r32_, d31_, hr33_, h⟩ := bd_some h
          refine g_callV C mw_Tr_reaches [(0, p2), (0, 0), (0, 7)] 3 cl10 rfl (ok_Tr_reaches p2 0 7 d26_ hp2 (c32_cb (Or.inl rfl)) (cK rfl) hr33_) cd_A3 (by decide) (nA (by decide)) (ix := 140) lk_546 lk_547 lk_548 ⟨rfl, rfl, Nat.le_of_ble_eq_true rfl, Nat.le_of_ble_eq_true rfl⟩ rfl (rest := []) rfl (Nat.le_of_ble_eq_true rfl) ⟨Nat.zero_le _, Nat.zero_le _⟩ (by decide +kernel) (fun _ hc34_ => ?_)
          replace hc34_ : cb r32_ := hc34_
          refine g_st (st2 := [(0, r32_)]) rfl ?_
          refine g_if_ne C (off := 5) (tgt := 61) (c32_cb hc34_) (by decide +kernel) (by decide) (fun hc35_ => ?_) (fun hc35_ => ?_)
          · replace h := ite_t hc35_ h
            refine g_iconst C 3 (cK rfl) (by decide +kernel) ?_
            obtain ⟨rfl, rfl⟩ := ret_inj h
            exact g_iret C (cK rfl) hlk hr (by decide +kernel)
          · replace h := ite_f hc35_ h
            refine g_iconst C 0 (cK rfl) (by decide +kernel) ?_
            refine s_istore C 4 (lo' := [(2, 0), (0, p1), (0, p2), (0, p3), (0, 0)]) (by decide) (s1k (s1k (s1k (s1n (by decide) s1z)))) (by decide +kernel) ?_
            refine g_sub (lo2 := [(2, 0), (9, 0), (0, p2), (9, 0), (0, 0)]) (lsb_v (lsb_c (lsb_v (lsb_c (lsb_v lsb_e))))) ?_
            obtain ⟨x36_, hx37_, h⟩ := lb_some h
            refine ok_PB_coachStatus_l64 C p2 0 d31_ hp2 (c32_cb (Or.inl rfl)) hx37_ (fun d38_ eq39_ => ?_) (fun d40_ eq41_ => ?_)
            · subst eq39_
              replace h := sml_e h
              replace h := u0_e h
              refine g_iconst C 0 (cK rfl) (by decide +kernel) ?_
              obtain ⟨rfl, rfl⟩ := ret_inj h
              exact g_iret C (c32_cb (Or.inl rfl)) hlk hr (by decide +kernel)
            · subst eq41_
              replace h := smr_e h
              replace h := u0_e h
              refine g_iconst C 1 (cK rfl) (by decide +kernel) ?_
              obtain ⟨rfl, rfl⟩ := ret_inj h
              exact g_iret C (c32_cb (Or.inr rfl)) hlk hr (by decide +kernel)
/-! PollBooks$Roads.setWaiting(II)V -/
def y_Ro_setWaiting : MethodName := ⟨"PollBooks$Roads", "setWaiting", "(II)V"⟩
def rm_Ro_setWaiting : Room := { frames := 0, cells := 0, slots := 0, locals := 0 }
theorem mw_Ro_setWaiting : MW y_Ro_setWaiting prog_10_method_3_code 3 none 2 := ⟨lk_1360, lk_13, by decide +kernel⟩
def L_Ro_setWaiting (p1 p2 : Int) (d : Dt) : Option (Int × Dt) :=
  ck ((0 : Int) ≤ p1 ∧ p1 < 7) (some (0, (up2 d 73 p1.toNat p2)))
set_option maxHeartbeats 4000000 in
theorem ok_Ro_setWaiting {l : Launch} {r : Int} {d' : Dt} (p1 p2 : Int) (d : Dt) (hp1 : c32 p1) (hp2 : c32 p2) (h : L_Ro_setWaiting p1 p2 d = some (r, d')) : MC l y_Ro_setWaiting prog_10_method_3_code 3 none rm_Ro_setWaiting 0 [(2, 71), (0, p1), (0, p2)] d none d' := by
  refine MC.of (by decide) (Nat.le_of_ble_eq_true rfl) ?_
  intro p e s m args below meth c D cA ad A C hlk hr
  replace C : Cx p s m args c prog_10_method_3_code 3 "PollBooks$Roads" D cA ad 0 A := C
  show G p l e rm_Ro_setWaiting s m args below meth c 0 0 (MQ below (fun _ => QC D cA ad 0 A none none d') args s 0 0 A) 3 D cA ad 0 A 0 [(2, 71), (0, p1), (0, p2)] [] d
  refine g_sub (lo2 := [(2, 71), (0, p1), (0, p2)]) (lsb_v (lsb_v (lsb_v lsb_e))) ?_
  unfold L_Ro_setWaiting at h
  refine g_aload_n C 0 rfl (by decide +kernel) ?_
  refine g_getR C cl8 71 1 73 rfl cd_A71 ⟨by decide, rfl, by decide⟩ rfl rfl (nA (by decide)) (ix := 15) lk_440 (by decide +kernel) ?_
  refine g_iload_n C 1 rfl (by decide +kernel) ?_
  refine g_iload_n C 2 rfl (by decide +kernel) ?_
  obtain ⟨hb1_, h⟩ := ck_some h
  refine g_iast C 73 hp2 hp1 rfl cd_A73 (nA (by decide)) hb1_ (by decide +kernel) ?_
  obtain ⟨rfl, rfl⟩ := ret_inj h
  exact g_vret C hlk hr (by decide +kernel)
/-! PollBooks$Roads.fillLoads()V -/
def y_Ro_fillLoads : MethodName := ⟨"PollBooks$Roads", "fillLoads", "()V"⟩
def rm_Ro_fillLoads : Room := { frames := 0, cells := 0, slots := 0, locals := 0 }
theorem mw_Ro_fillLoads : MW y_Ro_fillLoads prog_10_method_6_code 3 none 0 := ⟨lk_1368, lk_13, by decide +kernel⟩
def L_Ro_fillLoads_y21 (x1 x2 : Int) (d : Dt) : Option ((Int × Int × Dt) ⊕ ((Int × Dt))) :=
  if x2 < (d 71 7) then ck ((0 : Int) ≤ x1 ∧ x1 < 64) (ck ((0 : Int) ≤ x2 ∧ x2 < 6) (ck ((0 : Int) ≤ (d 74 x2.toNat) ∧ (d 74 x2.toNat) < 7) (ck ((0 : Int) ≤ x1 ∧ x1 < 64) (some (Sum.inl (x1, (w32 (x2 + 1)), (up2 d 75 x1.toNat (w32 ((d 75 x1.toNat) + (w32 ((iand (ishr x1 x2) 1) * (d 73 ((d 74 x2.toNat)).toNat)))))))))))) else some (Sum.inr (x1, d))
def L_Ro_fillLoads_l21 (x1 x2 : Int) (d : Dt) : Option ((Int × Dt)) := lpF (fun q : Int × Int × Dt => L_Ro_fillLoads_y21 q.1 q.2.1 q.2.2) FU (x1, x2, d)
def L_Ro_fillLoads_y2 (x1 : Int) (d : Dt) : Option ((Int × Dt) ⊕ ((Dt))) :=
  if x1 < (ishl 1 (d 71 7)) then ck ((0 : Int) ≤ x1 ∧ x1 < 64) (lb (L_Ro_fillLoads_l21 x1 0 (up2 d 75 x1.toNat 0)) (fun q18_ => u1 q18_ (fun v15_ d16_ => some (Sum.inl ((w32 (v15_ + 1)), d16_))))) else some (Sum.inr (d))
def L_Ro_fillLoads_l2 (x1 : Int) (d : Dt) : Option ((Dt)) := lpF (fun q : Int × Dt => L_Ro_fillLoads_y2 q.1 q.2) FU (x1, d)
def L_Ro_fillLoads (d : Dt) : Option (Int × Dt) :=
  lb (L_Ro_fillLoads_l2 0 d) (fun q23_ => u0 q23_ (fun d21_ => some (0, d21_)))
set_option maxHeartbeats 4000000 in
theorem ok_Ro_fillLoads_y21 {p : Program} {l : Launch} {e : Env} {s : State} {m : MethodId} {args : Array Value} {below : List Frame} {meth : Method} {c : Code} {D : va_G} {cA : Nat → ClassId} {ad : Nat → Nat} {A : Nat → Prop} (C : Cx p s m args c prog_10_method_6_code 3 "PollBooks$Roads" D cA ad 0 A) {Q : State → Prop} {o : (Int × Int × Dt) ⊕ ((Int × Dt))} (x1 x2 : Int) (d : Dt) (hx1 : c32 x1) (hx2 : c32 x2) (h : L_Ro_fillLoads_y21 x1 x2 d = some o) (kb : ∀ (y0 y1 : Int) (e' : Dt), o = .inl (y0, y1, e') → c32 y0 → c32 y1 → G p l e rm_Ro_fillLoads s m args below meth c 0 0 Q 3 D cA ad 0 A 21 [(2, 71), (0, y0), (0, y1)] [] e') (k0 : ∀ (y0 : Int) (e' : Dt), o = .inr (y0, e') → c32 y0 → G p l e rm_Ro_fillLoads s m args below meth c 0 0 Q 3 D cA ad 0 A 61 [(2, 71), (0, y0), (9, 0)] [] e') : G p l e rm_Ro_fillLoads s m args below meth c 0 0 Q 3 D cA ad 0 A 21 [(2, 71), (0, x1), (0, x2)] [] d := by
  unfold L_Ro_fillLoads_y21 at h
  refine g_iload_n C 2 rfl (by decide +kernel) ?_
  refine g_aload_n C 0 rfl (by decide +kernel) ?_
  refine g_getI C cl8 71 7 rfl cd_A71 ⟨by decide, rfl, by decide⟩ rfl (nA (by decide)) (ix := 43) lk_446 (by decide +kernel) (fun hc1_ => ?_)
  refine g_icmp_ge C (off := 35) (tgt := 61) hx2 hc1_ (by decide +kernel) (by decide) (fun hc2_ => ?_) (fun hc2_ => ?_)
  · replace h := ite_t hc2_ h
    refine g_aload_n C 0 rfl (by decide +kernel) ?_
    refine g_getR C cl8 71 3 75 rfl cd_A71 ⟨by decide, rfl, by decide⟩ rfl rfl (nA (by decide)) (ix := 21) lk_442 (by decide +kernel) ?_
    refine g_iload_n C 1 rfl (by decide +kernel) ?_
    refine g_dup2 C tg0 tg2 (by decide +kernel) ?_
    obtain ⟨hb3_, h⟩ := ck_some h
    refine g_iald C 75 hx1 rfl cd_A75 (nA (by decide)) hb3_ (by decide +kernel) (fun hc4_ => ?_)
    refine g_iload_n C 1 rfl (by decide +kernel) ?_
    refine g_iload_n C 2 rfl (by decide +kernel) ?_
    refine g_ishr C (by decide +kernel) ?_
    refine g_iconst C 1 (cK rfl) (by decide +kernel) ?_
    refine g_iand C (by decide +kernel) ?_
    refine g_aload_n C 0 rfl (by decide +kernel) ?_
    refine g_getR C cl8 71 1 73 rfl cd_A71 ⟨by decide, rfl, by decide⟩ rfl rfl (nA (by decide)) (ix := 15) lk_440 (by decide +kernel) ?_
    refine g_aload_n C 0 rfl (by decide +kernel) ?_
    refine g_getR C cl8 71 2 74 rfl cd_A71 ⟨by decide, rfl, by decide⟩ rfl rfl (nA (by decide)) (ix := 18) lk_441 (by decide +kernel) ?_
    refine g_iload_n C 2 rfl (by decide +kernel) ?_
    obtain ⟨hb5_, h⟩ := ck_some h
    refine g_iald C 74 hx2 rfl cd_A74 (nA (by decide)) hb5_ (by decide +kernel) (fun hc6_ => ?_)
    obtain ⟨hb7_, h⟩ := ck_some h
    refine g_iald C 73 hc6_ rfl cd_A73 (nA (by decide)) hb7_ (by decide +kernel) (fun hc8_ => ?_)
    refine g_imul C (by decide +kernel) ?_
    refine g_iadd C (by decide +kernel) ?_
    obtain ⟨hb9_, h⟩ := ck_some h
    refine g_iast C 75 (w32_c _) hx1 rfl cd_A75 (nA (by decide)) hb9_ (by decide +kernel) ?_
    refine s_iinc C 2 1 (lo' := [(2, 71), (0, x1), (0, (w32 (x2 + 1)))]) rfl (by decide) (s1k (s1n (by decide) s1z)) (by decide +kernel) ?_
    refine g_goto C 21 (off := (-37)) (by decide +kernel) (by decide) ?_
    refine g_sub (lo2 := [(2, 71), (0, x1), (0, (w32 (x2 + 1)))]) (lsb_v (lsb_v (lsb_v lsb_e))) ?_
    obtain rfl := Option.some.inj h
    exact kb x1 (w32 (x2 + 1)) (up2 d 75 x1.toNat (w32 ((d 75 x1.toNat) + (w32 ((iand (ishr x1 x2) 1) * (d 73 ((d 74 x2.toNat)).toNat)))))) rfl hx1 (w32_c _)
  · replace h := ite_f hc2_ h
    refine g_sub (lo2 := [(2, 71), (0, x1), (9, 0)]) (lsb_v (lsb_v (lsb_c lsb_e))) ?_
    obtain rfl := Option.some.inj h
    exact k0 x1 d rfl hx1
set_option maxHeartbeats 4000000 in
theorem ok_Ro_fillLoads_n21 {p : Program} {l : Launch} {e : Env} {s : State} {m : MethodId} {args : Array Value} {below : List Frame} {meth : Method} {c : Code} {D : va_G} {cA : Nat → ClassId} {ad : Nat → Nat} {A : Nat → Prop} (C : Cx p s m args c prog_10_method_6_code 3 "PollBooks$Roads" D cA ad 0 A) {Q : State → Prop} {x : (Int × Dt)} : ∀ (n : Nat) (x1 x2 : Int) (d : Dt), c32 x1 → c32 x2 → lpF (fun q : Int × Int × Dt => L_Ro_fillLoads_y21 q.1 q.2.1 q.2.2) n (x1, x2, d) = some x → (∀ (y0 : Int) (e' : Dt), x = (y0, e') → c32 y0 → G p l e rm_Ro_fillLoads s m args below meth c 0 0 Q 3 D cA ad 0 A 61 [(2, 71), (0, y0), (9, 0)] [] e') → G p l e rm_Ro_fillLoads s m args below meth c 0 0 Q 3 D cA ad 0 A 21 [(2, 71), (0, x1), (0, x2)] [] d := by
  intro n
  induction n with
  | zero => intro x1 x2 d g0 g1 h k0; cases h
  | succ n ih =>
    intro x1 x2 d g0 g1 h k0
    rcases lpF_some h with h | ⟨⟨v0_, v1_, e0_⟩, h1, h⟩
    · exact ok_Ro_fillLoads_y21 C x1 x2 d g0 g1 h (fun z0_ z1_ e1_ eq w0_ w1_ => by cases eq) (fun z0_ e1_ eq w0_ => k0 _ _ (by cases eq; rfl) w0_)
    · exact ok_Ro_fillLoads_y21 C x1 x2 d g0 g1 h1 (fun z0_ z1_ e1_ eq w0_ w1_ => by cases eq; exact ih _ _ _ w0_ w1_ h k0) (fun z0_ e1_ eq w0_ => by cases eq)
set_option maxHeartbeats 4000000 in
theorem ok_Ro_fillLoads_l21 {p : Program} {l : Launch} {e : Env} {s : State} {m : MethodId} {args : Array Value} {below : List Frame} {meth : Method} {c : Code} {D : va_G} {cA : Nat → ClassId} {ad : Nat → Nat} {A : Nat → Prop} (C : Cx p s m args c prog_10_method_6_code 3 "PollBooks$Roads" D cA ad 0 A) {Q : State → Prop} {x : (Int × Dt)} (x1 x2 : Int) (d : Dt) (hx1 : c32 x1) (hx2 : c32 x2) (h : L_Ro_fillLoads_l21 x1 x2 d = some x) (k0 : ∀ (y0 : Int) (e' : Dt), x = (y0, e') → c32 y0 → G p l e rm_Ro_fillLoads s m args below meth c 0 0 Q 3 D cA ad 0 A 61 [(2, 71), (0, y0), (9, 0)] [] e') : G p l e rm_Ro_fillLoads s m args below meth c 0 0 Q 3 D cA ad 0 A 21 [(2, 71), (0, x1), (0, x2)] [] d :=
  ok_Ro_fillLoads_n21 C FU x1 x2 d hx1 hx2 h k0
set_option maxHeartbeats 4000000 in
theorem ok_Ro_fillLoads_y2 {p : Program} {l : Launch} {e : Env} {s : State} {m : MethodId} {args : Array Value} {below : List Frame} {meth : Method} {c : Code} {D : va_G} {cA : Nat → ClassId} {ad : Nat → Nat} {A : Nat → Prop} (C : Cx p s m args c prog_10_method_6_code 3 "PollBooks$Roads" D cA ad 0 A) {Q : State → Prop} {o : (Int × Dt) ⊕ ((Dt))} (x1 : Int) (d : Dt) (hx1 : c32 x1) (h : L_Ro_fillLoads_y2 x1 d = some o) (kb : ∀ (y0 : Int) (e' : Dt), o = .inl (y0, e') → c32 y0 → G p l e rm_Ro_fillLoads s m args below meth c 0 0 Q 3 D cA ad 0 A 2 [(2, 71), (0, y0), (9, 0)] [] e') (k0 : ∀ (e' : Dt), o = .inr (e') → G p l e rm_Ro_fillLoads s m args below meth c 0 0 Q 3 D cA ad 0 A 67 [(9, 0), (9, 0), (9, 0)] [] e') : G p l e rm_Ro_fillLoads s m args below meth c 0 0 Q 3 D cA ad 0 A 2 [(2, 71), (0, x1), (9, 0)] [] d := by
  unfold L_Ro_fillLoads_y2 at h
  refine g_iload_n C 1 rfl (by decide +kernel) ?_
  refine g_iconst C 1 (cK rfl) (by decide +kernel) ?_
  refine g_aload_n C 0 rfl (by decide +kernel) ?_
  refine g_getI C cl8 71 7 rfl cd_A71 ⟨by decide, rfl, by decide⟩ rfl (nA (by decide)) (ix := 43) lk_446 (by decide +kernel) (fun hc10_ => ?_)
  refine g_ishl C (by decide +kernel) ?_
  refine g_icmp_ge C (off := 58) (tgt := 67) hx1 (i_c _) (by decide +kernel) (by decide) (fun hc11_ => ?_) (fun hc11_ => ?_)
  · replace h := ite_t hc11_ h
    refine g_aload_n C 0 rfl (by decide +kernel) ?_
    refine g_getR C cl8 71 3 75 rfl cd_A71 ⟨by decide, rfl, by decide⟩ rfl rfl (nA (by decide)) (ix := 21) lk_442 (by decide +kernel) ?_
    refine g_iload_n C 1 rfl (by decide +kernel) ?_
    refine g_iconst C 0 (cK rfl) (by decide +kernel) ?_
    obtain ⟨hb12_, h⟩ := ck_some h
    refine g_iast C 75 (c32_cb (Or.inl rfl)) hx1 rfl cd_A75 (nA (by decide)) hb12_ (by decide +kernel) ?_
    refine g_iconst C 0 (cK rfl) (by decide +kernel) ?_
    refine s_istore_n C 2 (lo' := [(2, 71), (0, x1), (0, 0)]) (by decide) (s1k (s1n (by decide) s1z)) (by decide +kernel) ?_
    refine g_sub (lo2 := [(2, 71), (0, x1), (0, 0)]) (lsb_v (lsb_v (lsb_v lsb_e))) ?_
    obtain ⟨x13_, hx14_, h⟩ := lb_some h
    refine ok_Ro_fillLoads_l21 C x1 0 (up2 d 75 x1.toNat 0) hx1 (c32_cb (Or.inl rfl)) hx14_ (fun v15_ d16_ eq17_ hv15_ => ?_)
    subst eq17_
    replace h := u1_e h
    refine s_iinc C 1 1 (lo' := [(2, 71), (0, (w32 (v15_ + 1))), (9, 0)]) rfl (by decide) (s1n (by decide) s1z) (by decide +kernel) ?_
    refine g_goto C 2 (off := (-62)) (by decide +kernel) (by decide) ?_
    refine g_sub (lo2 := [(2, 71), (0, (w32 (v15_ + 1))), (9, 0)]) (lsb_v (lsb_v (lsb_c lsb_e))) ?_
    obtain rfl := Option.some.inj h
    exact kb (w32 (v15_ + 1)) d16_ rfl (w32_c _)
  · replace h := ite_f hc11_ h
    refine g_sub (lo2 := [(9, 0), (9, 0), (9, 0)]) (lsb_c (lsb_c (lsb_c lsb_e))) ?_
    obtain rfl := Option.some.inj h
    exact k0 d rfl 
set_option maxHeartbeats 4000000 in
theorem ok_Ro_fillLoads_n2 {p : Program} {l : Launch} {e : Env} {s : State} {m : MethodId} {args : Array Value} {below : List Frame} {meth : Method} {c : Code} {D : va_G} {cA : Nat → ClassId} {ad : Nat → Nat} {A : Nat → Prop} (C : Cx p s m args c prog_10_method_6_code 3 "PollBooks$Roads" D cA ad 0 A) {Q : State → Prop} {x : (Dt)} : ∀ (n : Nat) (x1 : Int) (d : Dt), c32 x1 → lpF (fun q : Int × Dt => L_Ro_fillLoads_y2 q.1 q.2) n (x1, d) = some x → (∀ (e' : Dt), x = (e') → G p l e rm_Ro_fillLoads s m args below meth c 0 0 Q 3 D cA ad 0 A 67 [(9, 0), (9, 0), (9, 0)] [] e') → G p l e rm_Ro_fillLoads s m args below meth c 0 0 Q 3 D cA ad 0 A 2 [(2, 71), (0, x1), (9, 0)] [] d := by
  intro n
  induction n with
  | zero => intro x1 d g0 h k0; cases h
  | succ n ih =>
    intro x1 d g0 h k0
    rcases lpF_some h with h | ⟨⟨v0_, e0_⟩, h1, h⟩
    · exact ok_Ro_fillLoads_y2 C x1 d g0 h (fun z0_ e1_ eq w0_ => by cases eq) (fun e1_ eq => k0 _ (by cases eq; rfl) )
    · exact ok_Ro_fillLoads_y2 C x1 d g0 h1 (fun z0_ e1_ eq w0_ => by cases eq; exact ih _ _ w0_ h k0) (fun e1_ eq => by cases eq)
set_option maxHeartbeats 4000000 in
theorem ok_Ro_fillLoads_l2 {p : Program} {l : Launch} {e : Env} {s : State} {m : MethodId} {args : Array Value} {below : List Frame} {meth : Method} {c : Code} {D : va_G} {cA : Nat → ClassId} {ad : Nat → Nat} {A : Nat → Prop} (C : Cx p s m args c prog_10_method_6_code 3 "PollBooks$Roads" D cA ad 0 A) {Q : State → Prop} {x : (Dt)} (x1 : Int) (d : Dt) (hx1 : c32 x1) (h : L_Ro_fillLoads_l2 x1 d = some x) (k0 : ∀ (e' : Dt), x = (e') → G p l e rm_Ro_fillLoads s m args below meth c 0 0 Q 3 D cA ad 0 A 67 [(9, 0), (9, 0), (9, 0)] [] e') : G p l e rm_Ro_fillLoads s m args below meth c 0 0 Q 3 D cA ad 0 A 2 [(2, 71), (0, x1), (9, 0)] [] d :=
  ok_Ro_fillLoads_n2 C FU x1 d hx1 h k0
set_option maxHeartbeats 4000000 in
theorem ok_Ro_fillLoads {l : Launch} {r : Int} {d' : Dt} (d : Dt)  (h : L_Ro_fillLoads d = some (r, d')) : MC l y_Ro_fillLoads prog_10_method_6_code 3 none rm_Ro_fillLoads 0 [(2, 71)] d none d' := by
  refine MC.of (by decide) (Nat.le_of_ble_eq_true rfl) ?_
  intro p e s m args below meth c D cA ad A C hlk hr
  replace C : Cx p s m args c prog_10_method_6_code 3 "PollBooks$Roads" D cA ad 0 A := C
  show G p l e rm_Ro_fillLoads s m args below meth c 0 0 (MQ below (fun _ => QC D cA ad 0 A none none d') args s 0 0 A) 3 D cA ad 0 A 0 [(2, 71)] [] d
  refine g_sub (lo2 := [(2, 71), (9, 0), (9, 0)]) (lsb_v (lsb_n (lsb_n lsb_e))) ?_
  unfold L_Ro_fillLoads at h
  refine g_iconst C 0 (cK rfl) (by decide +kernel) ?_
  refine s_istore_n C 1 (lo' := [(2, 71), (0, 0), (9, 0)]) (by decide) (s1n (by decide) s1z) (by decide +kernel) ?_
  refine g_sub (lo2 := [(2, 71), (0, 0), (9, 0)]) (lsb_v (lsb_v (lsb_c lsb_e))) ?_
  obtain ⟨x19_, hx20_, h⟩ := lb_some h
  refine ok_Ro_fillLoads_l2 C 0 d (c32_cb (Or.inl rfl)) hx20_ (fun d21_ eq22_ => ?_)
  replace eq22_ := eq22_.symm
  subst eq22_
  replace h := u0_e h
  obtain ⟨rfl, rfl⟩ := ret_inj h
  exact g_vret C hlk hr (by decide +kernel)
/-! PollBooks$Roads.shortestTo(III)I -/
def y_Ro_shortestTo : MethodName := ⟨"PollBooks$Roads", "shortestTo", "(III)I"⟩
def rm_Ro_shortestTo : Room := { frames := 1, cells := 0, slots := 0, locals := 21 }
theorem mw_Ro_shortestTo : MW y_Ro_shortestTo prog_10_method_8_code 8 (some .int) 3 := ⟨lk_1376, lk_13, by decide +kernel⟩
def L_Ro_shortestTo_b106 (x3 x4 x5 x6 : Int) (d : Dt) : Option ((Int × Int × Int × Int × Dt) ⊕ ((Int × Dt))) :=
  some (Sum.inl (x3, x4, x5, (w32 (x6 + 1)), d))
def L_Ro_shortestTo_y40 (x3 x4 x5 x6 : Int) (d : Dt) : Option ((Int × Int × Int × Int × Dt) ⊕ ((Int × Dt))) :=
  if x6 < (d 71 7) then if (iand (ishr x4 x6) 1) = 0 then L_Ro_shortestTo_b106 x3 x4 x5 x6 d else ck ((0 : Int) ≤ x6 ∧ x6 < 6) (ck ((0 : Int) ≤ x3 ∧ x3 < 6) (ck ((0 : Int) ≤ (w32 ((w32 ((d 74 x6.toNat) * 7)) + (d 74 x3.toNat))) ∧ (w32 ((w32 ((d 74 x6.toNat) * 7)) + (d 74 x3.toNat))) < 49) (lt_ (d 72 ((w32 ((w32 ((d 74 x6.toNat) * 7)) + (d 74 x3.toNat)))).toNat) (fun v10_ => ck ((0 : Int) ≤ (w32 ((w32 (x4 * 6)) + x6)) ∧ (w32 ((w32 (x4 * 6)) + x6)) < 384) (lt_ (jmin x5 (w32 ((d 76 ((w32 ((w32 (x4 * 6)) + x6))).toNat) + v10_))) (fun v15_ => L_Ro_shortestTo_b106 x3 x4 v15_ x6 d)))))) else some (Sum.inr (x5, d))
def L_Ro_shortestTo_l40 (x3 x4 x5 x6 : Int) (d : Dt) : Option ((Int × Dt)) := lpF (fun q : Int × Int × Int × Int × Dt => L_Ro_shortestTo_y40 q.1 q.2.1 q.2.2.1 q.2.2.2.1 q.2.2.2.2) FU (x3, x4, x5, x6, d)
def L_Ro_shortestTo_b35 (x3 x4 s0 : Int) (d : Dt) : Option (Int × Dt) :=
  lb (L_Ro_shortestTo_l40 x3 x4 s0 0 d) (fun q23_ => u1 q23_ (fun v20_ d21_ => some (v20_, d21_)))
def L_Ro_shortestTo (p1 p2 p3 : Int) (d : Dt) : Option (Int × Dt) :=
  lt_ (iand p2 (ixor (ishl 1 p3) (-1))) (fun v24_ => if v24_ = 0 then ck ((0 : Int) ≤ p3 ∧ p3 < 6) (ck ((0 : Int) ≤ (w32 ((w32 (p1 * 7)) + (d 74 p3.toNat))) ∧ (w32 ((w32 (p1 * 7)) + (d 74 p3.toNat))) < 49) (L_Ro_shortestTo_b35 p3 v24_ (d 72 ((w32 ((w32 (p1 * 7)) + (d 74 p3.toNat)))).toNat) d)) else L_Ro_shortestTo_b35 p3 v24_ 1000000 d)
set_option maxHeartbeats 4000000 in
theorem ok_Ro_shortestTo_b106 {p : Program} {l : Launch} {e : Env} {s : State} {m : MethodId} {args : Array Value} {below : List Frame} {meth : Method} {c : Code} {D : va_G} {cA : Nat → ClassId} {ad : Nat → Nat} {A : Nat → Prop} (C : Cx p s m args c prog_10_method_8_code 8 "PollBooks$Roads" D cA ad 0 A) {Q : State → Prop} {o : (Int × Int × Int × Int × Dt) ⊕ ((Int × Dt))} (x3 x4 x5 x6 : Int) (d : Dt) (hx3 : c32 x3) (hx4 : c32 x4) (hx5 : c32 x5) (hx6 : c32 x6) (h : L_Ro_shortestTo_b106 x3 x4 x5 x6 d = some o) (kb : ∀ (y0 y1 y2 y3 : Int) (e' : Dt), o = .inl (y0, y1, y2, y3, e') → c32 y0 → c32 y1 → c32 y2 → c32 y3 → G p l e rm_Ro_shortestTo s m args below meth c 0 0 Q 8 D cA ad 0 A 40 [(2, 71), (9, 0), (9, 0), (0, y0), (0, y1), (0, y2), (0, y3), (9, 0)] [] e') (k0 : ∀ (y0 : Int) (e' : Dt), o = .inr (y0, e') → c32 y0 → G p l e rm_Ro_shortestTo s m args below meth c 0 0 Q 8 D cA ad 0 A 112 [(9, 0), (9, 0), (9, 0), (9, 0), (9, 0), (0, y0), (9, 0), (9, 0)] [] e') : G p l e rm_Ro_shortestTo s m args below meth c 0 0 Q 8 D cA ad 0 A 106 [(2, 71), (9, 0), (9, 0), (0, x3), (0, x4), (0, x5), (0, x6), (9, 0)] [] d := by
  unfold L_Ro_shortestTo_b106 at h
  refine s_iinc C 6 1 (lo' := [(2, 71), (9, 0), (9, 0), (0, x3), (0, x4), (0, x5), (0, (w32 (x6 + 1))), (9, 0)]) rfl (by decide) (s1k (s1k (s1k (s1k (s1k (s1n (by decide) s1z)))))) (by decide +kernel) ?_
  refine g_goto C 40 (off := (-69)) (by decide +kernel) (by decide) ?_
  refine g_sub (lo2 := [(2, 71), (9, 0), (9, 0), (0, x3), (0, x4), (0, x5), (0, (w32 (x6 + 1))), (9, 0)]) (lsb_v (lsb_c (lsb_c (lsb_v (lsb_v (lsb_v (lsb_v (lsb_c lsb_e)))))))) ?_
  obtain rfl := Option.some.inj h
  exact kb x3 x4 x5 (w32 (x6 + 1)) d rfl hx3 hx4 hx5 (w32_c _)
set_option maxHeartbeats 4000000 in
theorem ok_Ro_shortestTo_y40 {p : Program} {l : Launch} {e : Env} {s : State} {m : MethodId} {args : Array Value} {below : List Frame} {meth : Method} {c : Code} {D : va_G} {cA : Nat → ClassId} {ad : Nat → Nat} {A : Nat → Prop} (C : Cx p s m args c prog_10_method_8_code 8 "PollBooks$Roads" D cA ad 0 A) {Q : State → Prop} {o : (Int × Int × Int × Int × Dt) ⊕ ((Int × Dt))} (x3 x4 x5 x6 : Int) (d : Dt) (hx3 : c32 x3) (hx4 : c32 x4) (hx5 : c32 x5) (hx6 : c32 x6) (h : L_Ro_shortestTo_y40 x3 x4 x5 x6 d = some o) (kb : ∀ (y0 y1 y2 y3 : Int) (e' : Dt), o = .inl (y0, y1, y2, y3, e') → c32 y0 → c32 y1 → c32 y2 → c32 y3 → G p l e rm_Ro_shortestTo s m args below meth c 0 0 Q 8 D cA ad 0 A 40 [(2, 71), (9, 0), (9, 0), (0, y0), (0, y1), (0, y2), (0, y3), (9, 0)] [] e') (k0 : ∀ (y0 : Int) (e' : Dt), o = .inr (y0, e') → c32 y0 → G p l e rm_Ro_shortestTo s m args below meth c 0 0 Q 8 D cA ad 0 A 112 [(9, 0), (9, 0), (9, 0), (9, 0), (9, 0), (0, y0), (9, 0), (9, 0)] [] e') : G p l e rm_Ro_shortestTo s m args below meth c 0 0 Q 8 D cA ad 0 A 40 [(2, 71), (9, 0), (9, 0), (0, x3), (0, x4), (0, x5), (0, x6), (9, 0)] [] d := by
  unfold L_Ro_shortestTo_y40 at h
  refine g_iload C 6 rfl (by decide +kernel) ?_
  refine g_aload_n C 0 rfl (by decide +kernel) ?_
  refine g_getI C cl8 71 7 rfl cd_A71 ⟨by decide, rfl, by decide⟩ rfl (nA (by decide)) (ix := 43) lk_446 (by decide +kernel) (fun hc1_ => ?_)
  refine g_icmp_ge C (off := 66) (tgt := 112) hx6 hc1_ (by decide +kernel) (by decide) (fun hc2_ => ?_) (fun hc2_ => ?_)
  · replace h := ite_t hc2_ h
    refine g_iload C 4 rfl (by decide +kernel) ?_
    refine g_iload C 6 rfl (by decide +kernel) ?_
    refine g_ishr C (by decide +kernel) ?_
    refine g_iconst C 1 (cK rfl) (by decide +kernel) ?_
    refine g_iand C (by decide +kernel) ?_
    refine g_if_eq C (off := 50) (tgt := 106) (i_c _) (by decide +kernel) (by decide) (fun hc3_ => ?_) (fun hc3_ => ?_)
    · replace h := ite_t hc3_ h
      refine g_sub (lo2 := [(2, 71), (9, 0), (9, 0), (0, x3), (0, x4), (0, x5), (0, x6), (9, 0)]) (lsb_v (lsb_c (lsb_c (lsb_v (lsb_v (lsb_v (lsb_v (lsb_c lsb_e)))))))) ?_
      exact ok_Ro_shortestTo_b106 C x3 x4 x5 x6 d hx3 hx4 hx5 hx6 h kb k0
    · replace h := ite_f hc3_ h
      refine g_aload_n C 0 rfl (by decide +kernel) ?_
      refine g_getR C cl8 71 0 72 rfl cd_A71 ⟨by decide, rfl, by decide⟩ rfl rfl (nA (by decide)) (ix := 11) lk_439 (by decide +kernel) ?_
      refine g_aload_n C 0 rfl (by decide +kernel) ?_
      refine g_getR C cl8 71 2 74 rfl cd_A71 ⟨by decide, rfl, by decide⟩ rfl rfl (nA (by decide)) (ix := 18) lk_441 (by decide +kernel) ?_
      refine g_iload C 6 rfl (by decide +kernel) ?_
      obtain ⟨hb4_, h⟩ := ck_some h
      refine g_iald C 74 hx6 rfl cd_A74 (nA (by decide)) hb4_ (by decide +kernel) (fun hc5_ => ?_)
      refine g_bipush C 7 (by decide) (by decide +kernel) ?_
      refine g_imul C (by decide +kernel) ?_
      refine g_aload_n C 0 rfl (by decide +kernel) ?_
      refine g_getR C cl8 71 2 74 rfl cd_A71 ⟨by decide, rfl, by decide⟩ rfl rfl (nA (by decide)) (ix := 18) lk_441 (by decide +kernel) ?_
      refine g_iload_n C 3 rfl (by decide +kernel) ?_
      obtain ⟨hb6_, h⟩ := ck_some h
      refine g_iald C 74 hx3 rfl cd_A74 (nA (by decide)) hb6_ (by decide +kernel) (fun hc7_ => ?_)
      refine g_iadd C (by decide +kernel) ?_
      obtain ⟨hb8_, h⟩ := ck_some h
      refine g_iald C 72 (w32_c _) rfl cd_A72 (nA (by decide)) hb8_ (by decide +kernel) (fun hc9_ => ?_)
      obtain ⟨v10_, ev11_, h⟩ := lt_some h
      refine g_val ev11_.symm ?_
      have hv12_ : c32 v10_ := by rw [ev11_]; exact hc9_
      refine s_istore C 7 (lo' := [(2, 71), (9, 0), (9, 0), (0, x3), (0, x4), (0, x5), (0, x6), (0, v10_)]) (by decide) (s1k (s1k (s1k (s1k (s1k (s1k (s1n (by decide) s1z))))))) (by decide +kernel) ?_
      refine g_iload C 5 rfl (by decide +kernel) ?_
      refine g_aload_n C 0 rfl (by decide +kernel) ?_
      refine g_getR C cl8 71 4 76 rfl cd_A71 ⟨by decide, rfl, by decide⟩ rfl rfl (nA (by decide)) (ix := 24) lk_443 (by decide +kernel) ?_
      refine g_iload C 4 rfl (by decide +kernel) ?_
      refine g_bipush C 6 (by decide) (by decide +kernel) ?_
      refine g_imul C (by decide +kernel) ?_
      refine g_iload C 6 rfl (by decide +kernel) ?_
      refine g_iadd C (by decide +kernel) ?_
      obtain ⟨hb13_, h⟩ := ck_some h
      refine g_iald C 76 (w32_c _) rfl cd_A76 (nA (by decide)) hb13_ (by decide +kernel) (fun hc14_ => ?_)
      refine g_iload C 7 rfl (by decide +kernel) ?_
      refine g_iadd C (by decide +kernel) ?_
      refine g_mmin C hx5 (w32_c _) (ix := 65) lk_1378 lk_601 lk_16 lk_602 ⟨Nat.le_of_ble_eq_true rfl, Nat.le_of_ble_eq_true rfl, Nat.zero_le _, Nat.zero_le _⟩ (Nat.le_of_ble_eq_true rfl) (by decide +kernel) ?_
      obtain ⟨v15_, ev16_, h⟩ := lt_some h
      refine g_val ev16_.symm ?_
      have hv17_ : c32 v15_ := by rw [ev16_]; exact (jmin_c hx5 (w32_c _))
      refine s_istore C 5 (lo' := [(2, 71), (9, 0), (9, 0), (0, x3), (0, x4), (0, v15_), (0, x6), (0, v10_)]) (by decide) (s1k (s1k (s1k (s1k (s1n (by decide) s1z))))) (by decide +kernel) ?_
      refine g_sub (lo2 := [(2, 71), (9, 0), (9, 0), (0, x3), (0, x4), (0, v15_), (0, x6), (9, 0)]) (lsb_v (lsb_c (lsb_c (lsb_v (lsb_v (lsb_v (lsb_v (lsb_c lsb_e)))))))) ?_
      exact ok_Ro_shortestTo_b106 C x3 x4 v15_ x6 d hx3 hx4 hv17_ hx6 h kb k0
  · replace h := ite_f hc2_ h
    refine g_sub (lo2 := [(9, 0), (9, 0), (9, 0), (9, 0), (9, 0), (0, x5), (9, 0), (9, 0)]) (lsb_c (lsb_c (lsb_c (lsb_c (lsb_c (lsb_v (lsb_c (lsb_c lsb_e)))))))) ?_
    obtain rfl := Option.some.inj h
    exact k0 x5 d rfl hx5
set_option maxHeartbeats 4000000 in
theorem ok_Ro_shortestTo_n40 {p : Program} {l : Launch} {e : Env} {s : State} {m : MethodId} {args : Array Value} {below : List Frame} {meth : Method} {c : Code} {D : va_G} {cA : Nat → ClassId} {ad : Nat → Nat} {A : Nat → Prop} (C : Cx p s m args c prog_10_method_8_code 8 "PollBooks$Roads" D cA ad 0 A) {Q : State → Prop} {x : (Int × Dt)} : ∀ (n : Nat) (x3 x4 x5 x6 : Int) (d : Dt), c32 x3 → c32 x4 → c32 x5 → c32 x6 → lpF (fun q : Int × Int × Int × Int × Dt => L_Ro_shortestTo_y40 q.1 q.2.1 q.2.2.1 q.2.2.2.1 q.2.2.2.2) n (x3, x4, x5, x6, d) = some x → (∀ (y0 : Int) (e' : Dt), x = (y0, e') → c32 y0 → G p l e rm_Ro_shortestTo s m args below meth c 0 0 Q 8 D cA ad 0 A 112 [(9, 0), (9, 0), (9, 0), (9, 0), (9, 0), (0, y0), (9, 0), (9, 0)] [] e') → G p l e rm_Ro_shortestTo s m args below meth c 0 0 Q 8 D cA ad 0 A 40 [(2, 71), (9, 0), (9, 0), (0, x3), (0, x4), (0, x5), (0, x6), (9, 0)] [] d := by
  intro n
  induction n with
  | zero => intro x3 x4 x5 x6 d g0 g1 g2 g3 h k0; cases h
  | succ n ih =>
    intro x3 x4 x5 x6 d g0 g1 g2 g3 h k0
    rcases lpF_some h with h | ⟨⟨v0_, v1_, v2_, v3_, e0_⟩, h1, h⟩
    · exact ok_Ro_shortestTo_y40 C x3 x4 x5 x6 d g0 g1 g2 g3 h (fun z0_ z1_ z2_ z3_ e1_ eq w0_ w1_ w2_ w3_ => by cases eq) (fun z0_ e1_ eq w0_ => k0 _ _ (by cases eq; rfl) w0_)
    · exact ok_Ro_shortestTo_y40 C x3 x4 x5 x6 d g0 g1 g2 g3 h1 (fun z0_ z1_ z2_ z3_ e1_ eq w0_ w1_ w2_ w3_ => by cases eq; exact ih _ _ _ _ _ w0_ w1_ w2_ w3_ h k0) (fun z0_ e1_ eq w0_ => by cases eq)
set_option maxHeartbeats 4000000 in
theorem ok_Ro_shortestTo_l40 {p : Program} {l : Launch} {e : Env} {s : State} {m : MethodId} {args : Array Value} {below : List Frame} {meth : Method} {c : Code} {D : va_G} {cA : Nat → ClassId} {ad : Nat → Nat} {A : Nat → Prop} (C : Cx p s m args c prog_10_method_8_code 8 "PollBooks$Roads" D cA ad 0 A) {Q : State → Prop} {x : (Int × Dt)} (x3 x4 x5 x6 : Int) (d : Dt) (hx3 : c32 x3) (hx4 : c32 x4) (hx5 : c32 x5) (hx6 : c32 x6) (h : L_Ro_shortestTo_l40 x3 x4 x5 x6 d = some x) (k0 : ∀ (y0 : Int) (e' : Dt), x = (y0, e') → c32 y0 → G p l e rm_Ro_shortestTo s m args below meth c 0 0 Q 8 D cA ad 0 A 112 [(9, 0), (9, 0), (9, 0), (9, 0), (9, 0), (0, y0), (9, 0), (9, 0)] [] e') : G p l e rm_Ro_shortestTo s m args below meth c 0 0 Q 8 D cA ad 0 A 40 [(2, 71), (9, 0), (9, 0), (0, x3), (0, x4), (0, x5), (0, x6), (9, 0)] [] d :=
  ok_Ro_shortestTo_n40 C FU x3 x4 x5 x6 d hx3 hx4 hx5 hx6 h k0
set_option maxHeartbeats 4000000 in
theorem ok_Ro_shortestTo_b35 {p : Program} {l : Launch} {e : Env} {s : State} {m : MethodId} {args : Array Value} {below : List Frame} {meth : Method} {c : Code} {D : va_G} {cA : Nat → ClassId} {ad : Nat → Nat} {A : Nat → Prop} (C : Cx p s m args c prog_10_method_8_code 8 "PollBooks$Roads" D cA ad 0 A) (hlk : meth.locks = false) (hr : meth.sig.returnType = (some .int)) {r : Int} {d' : Dt} (x3 x4 s0 : Int) (d : Dt) (hx3 : c32 x3) (hx4 : c32 x4) (hs0 : c32 s0) (h : L_Ro_shortestTo_b35 x3 x4 s0 d = some (r, d')) : G p l e rm_Ro_shortestTo s m args below meth c 0 0 (MQ below (fun _ => QC D cA ad 0 A (some .int) (some (0, r)) d') args s 0 0 A) 8 D cA ad 0 A 35 [(2, 71), (9, 0), (9, 0), (0, x3), (0, x4), (9, 0), (9, 0), (9, 0)] [(0, s0)] d := by
  unfold L_Ro_shortestTo_b35 at h
  refine s_istore C 5 (lo' := [(2, 71), (9, 0), (9, 0), (0, x3), (0, x4), (0, s0), (9, 0), (9, 0)]) (by decide) (s1k (s1k (s1k (s1k (s1n (by decide) s1z))))) (by decide +kernel) ?_
  refine g_iconst C 0 (cK rfl) (by decide +kernel) ?_
  refine s_istore C 6 (lo' := [(2, 71), (9, 0), (9, 0), (0, x3), (0, x4), (0, s0), (0, 0), (9, 0)]) (by decide) (s1k (s1k (s1k (s1k (s1k (s1n (by decide) s1z)))))) (by decide +kernel) ?_
  refine g_sub (lo2 := [(2, 71), (9, 0), (9, 0), (0, x3), (0, x4), (0, s0), (0, 0), (9, 0)]) (lsb_v (lsb_c (lsb_c (lsb_v (lsb_v (lsb_v (lsb_v (lsb_c lsb_e)))))))) ?_
  obtain ⟨x18_, hx19_, h⟩ := lb_some h
  refine ok_Ro_shortestTo_l40 C x3 x4 s0 0 d hx3 hx4 hs0 (c32_cb (Or.inl rfl)) hx19_ (fun v20_ d21_ eq22_ hv20_ => ?_)
  subst eq22_
  replace h := u1_e h
  refine g_iload C 5 rfl (by decide +kernel) ?_
  obtain ⟨rfl, rfl⟩ := ret_inj h
  exact g_iret C hv20_ hlk hr (by decide +kernel)
set_option maxHeartbeats 4000000 in
theorem ok_Ro_shortestTo {l : Launch} {r : Int} {d' : Dt} (p1 p2 p3 : Int) (d : Dt) (hp1 : c32 p1) (hp2 : c32 p2) (hp3 : c32 p3) (h : L_Ro_shortestTo p1 p2 p3 d = some (r, d')) : MC l y_Ro_shortestTo prog_10_method_8_code 8 (some .int) rm_Ro_shortestTo 0 [(2, 71), (0, p1), (0, p2), (0, p3)] d (some (0, r)) d' := by
  refine MC.of (by decide) (Nat.le_of_ble_eq_true rfl) ?_
  intro p e s m args below meth c D cA ad A C hlk hr
  replace C : Cx p s m args c prog_10_method_8_code 8 "PollBooks$Roads" D cA ad 0 A := C
  show G p l e rm_Ro_shortestTo s m args below meth c 0 0 (MQ below (fun _ => QC D cA ad 0 A (some .int) (some (0, r)) d') args s 0 0 A) 8 D cA ad 0 A 0 [(2, 71), (0, p1), (0, p2), (0, p3)] [] d
  refine g_sub (lo2 := [(2, 71), (0, p1), (0, p2), (0, p3), (9, 0), (9, 0), (9, 0), (9, 0)]) (lsb_v (lsb_v (lsb_v (lsb_v (lsb_n (lsb_n (lsb_n (lsb_n lsb_e)))))))) ?_
  unfold L_Ro_shortestTo at h
  refine g_iload_n C 2 rfl (by decide +kernel) ?_
  refine g_iconst C 1 (cK rfl) (by decide +kernel) ?_
  refine g_iload_n C 3 rfl (by decide +kernel) ?_
  refine g_ishl C (by decide +kernel) ?_
  refine g_iconst C (-1) (cK rfl) (by decide +kernel) ?_
  refine g_ixor C (by decide +kernel) ?_
  refine g_iand C (by decide +kernel) ?_
  obtain ⟨v24_, ev25_, h⟩ := lt_some h
  refine g_val ev25_.symm ?_
  have hv26_ : c32 v24_ := by rw [ev25_]; exact (i_c _)
  refine s_istore C 4 (lo' := [(2, 71), (0, p1), (0, p2), (0, p3), (0, v24_), (9, 0), (9, 0), (9, 0)]) (by decide) (s1k (s1k (s1k (s1n (by decide) s1z)))) (by decide +kernel) ?_
  refine g_iload C 4 rfl (by decide +kernel) ?_
  refine g_if_ne C (off := 22) (tgt := 33) hv26_ (by decide +kernel) (by decide) (fun hc27_ => ?_) (fun hc27_ => ?_)
  · replace h := ite_t hc27_ h
    refine g_aload_n C 0 rfl (by decide +kernel) ?_
    refine g_getR C cl8 71 0 72 rfl cd_A71 ⟨by decide, rfl, by decide⟩ rfl rfl (nA (by decide)) (ix := 11) lk_439 (by decide +kernel) ?_
    refine g_iload_n C 1 rfl (by decide +kernel) ?_
    refine g_bipush C 7 (by decide) (by decide +kernel) ?_
    refine g_imul C (by decide +kernel) ?_
    refine g_aload_n C 0 rfl (by decide +kernel) ?_
    refine g_getR C cl8 71 2 74 rfl cd_A71 ⟨by decide, rfl, by decide⟩ rfl rfl (nA (by decide)) (ix := 18) lk_441 (by decide +kernel) ?_
    refine g_iload_n C 3 rfl (by decide +kernel) ?_
    obtain ⟨hb28_, h⟩ := ck_some h
    refine g_iald C 74 hp3 rfl cd_A74 (nA (by decide)) hb28_ (by decide +kernel) (fun hc29_ => ?_)
    refine g_iadd C (by decide +kernel) ?_
    obtain ⟨hb30_, h⟩ := ck_some h
    refine g_iald C 72 (w32_c _) rfl cd_A72 (nA (by decide)) hb30_ (by decide +kernel) (fun hc31_ => ?_)
    refine g_goto C 35 (off := 5) (by decide +kernel) (by decide) ?_
    refine g_sub (lo2 := [(2, 71), (9, 0), (9, 0), (0, p3), (0, v24_), (9, 0), (9, 0), (9, 0)]) (lsb_v (lsb_c (lsb_c (lsb_v (lsb_v (lsb_c (lsb_c (lsb_c lsb_e)))))))) ?_
    exact ok_Ro_shortestTo_b35 C hlk hr p3 v24_ (d 72 ((w32 ((w32 (p1 * 7)) + (d 74 p3.toNat)))).toNat) d hp3 hv26_ hc31_ h
  · replace h := ite_f hc27_ h
    refine g_ldc C (ix := 64) (v := 1000000) lk_1377 (by decide +kernel) ?_
    refine g_sub (lo2 := [(2, 71), (9, 0), (9, 0), (0, p3), (0, v24_), (9, 0), (9, 0), (9, 0)]) (lsb_v (lsb_c (lsb_c (lsb_v (lsb_v (lsb_c (lsb_c (lsb_c lsb_e)))))))) ?_
    exact ok_Ro_shortestTo_b35 C hlk hr p3 v24_ 1000000 d hp3 hv26_ (cK rfl) h
/-! PollBooks$Roads.fillOutward(I)V -/
def y_Ro_fillOutward : MethodName := ⟨"PollBooks$Roads", "fillOutward", "(I)V"⟩
def rm_Ro_fillOutward : Room := { frames := 2, cells := 0, slots := 0, locals := 48 }
theorem mw_Ro_fillOutward : MW y_Ro_fillOutward prog_10_method_7_code 4 none 1 := ⟨lk_1372, lk_13, by decide +kernel⟩
def L_Ro_fillOutward_b48 (x1 x2 x3 : Int) (d : Dt) : Option ((Int × Int × Int × Dt) ⊕ ((Int × Int × Dt))) :=
  some (Sum.inl (x1, x2, (w32 (x3 + 1)), d))
def L_Ro_fillOutward_y14 (x1 x2 x3 : Int) (d : Dt) : Option ((Int × Int × Int × Dt) ⊕ ((Int × Int × Dt))) :=
  if x3 < (d 71 7) then if (iand (ishr x2 x3) 1) = 0 then L_Ro_fillOutward_b48 x1 x2 x3 d else bd (L_Ro_shortestTo x1 x2 x3 d) (fun r5_ d4_ => ck ((0 : Int) ≤ (w32 ((w32 (x2 * 6)) + x3)) ∧ (w32 ((w32 (x2 * 6)) + x3)) < 384) (L_Ro_fillOutward_b48 x1 x2 x3 (up2 d4_ 76 ((w32 ((w32 (x2 * 6)) + x3))).toNat r5_))) else some (Sum.inr (x1, x2, d))
def L_Ro_fillOutward_l14 (x1 x2 x3 : Int) (d : Dt) : Option ((Int × Int × Dt)) := lpF (fun q : Int × Int × Int × Dt => L_Ro_fillOutward_y14 q.1 q.2.1 q.2.2.1 q.2.2.2) FU (x1, x2, x3, d)
def L_Ro_fillOutward_y2 (x1 x2 : Int) (d : Dt) : Option ((Int × Int × Dt) ⊕ ((Dt))) :=
  if x2 < (ishl 1 (d 71 7)) then lb (L_Ro_fillOutward_l14 x1 x2 0 d) (fun q17_ => u2 q17_ (fun v13_ v14_ d15_ => some (Sum.inl (v13_, (w32 (v14_ + 1)), d15_)))) else some (Sum.inr (d))
def L_Ro_fillOutward_l2 (x1 x2 : Int) (d : Dt) : Option ((Dt)) := lpF (fun q : Int × Int × Dt => L_Ro_fillOutward_y2 q.1 q.2.1 q.2.2) FU (x1, x2, d)
def L_Ro_fillOutward (p1 : Int) (d : Dt) : Option (Int × Dt) :=
  lb (L_Ro_fillOutward_l2 p1 1 d) (fun q22_ => u0 q22_ (fun d20_ => some (0, d20_)))
set_option maxHeartbeats 4000000 in
theorem ok_Ro_fillOutward_b48 {p : Program} {l : Launch} {e : Env} {s : State} {m : MethodId} {args : Array Value} {below : List Frame} {meth : Method} {c : Code} {D : va_G} {cA : Nat → ClassId} {ad : Nat → Nat} {A : Nat → Prop} (C : Cx p s m args c prog_10_method_7_code 4 "PollBooks$Roads" D cA ad 0 A) {Q : State → Prop} {o : (Int × Int × Int × Dt) ⊕ ((Int × Int × Dt))} (x1 x2 x3 : Int) (d : Dt) (hx1 : c32 x1) (hx2 : c32 x2) (hx3 : c32 x3) (h : L_Ro_fillOutward_b48 x1 x2 x3 d = some o) (kb : ∀ (y0 y1 y2 : Int) (e' : Dt), o = .inl (y0, y1, y2, e') → c32 y0 → c32 y1 → c32 y2 → G p l e rm_Ro_fillOutward s m args below meth c 0 0 Q 4 D cA ad 0 A 14 [(2, 71), (0, y0), (0, y1), (0, y2)] [] e') (k0 : ∀ (y0 y1 : Int) (e' : Dt), o = .inr (y0, y1, e') → c32 y0 → c32 y1 → G p l e rm_Ro_fillOutward s m args below meth c 0 0 Q 4 D cA ad 0 A 54 [(2, 71), (0, y0), (0, y1), (9, 0)] [] e') : G p l e rm_Ro_fillOutward s m args below meth c 0 0 Q 4 D cA ad 0 A 48 [(2, 71), (0, x1), (0, x2), (0, x3)] [] d := by
  unfold L_Ro_fillOutward_b48 at h
  refine s_iinc C 3 1 (lo' := [(2, 71), (0, x1), (0, x2), (0, (w32 (x3 + 1)))]) rfl (by decide) (s1k (s1k (s1n (by decide) s1z))) (by decide +kernel) ?_
  refine g_goto C 14 (off := (-37)) (by decide +kernel) (by decide) ?_
  refine g_sub (lo2 := [(2, 71), (0, x1), (0, x2), (0, (w32 (x3 + 1)))]) (lsb_v (lsb_v (lsb_v (lsb_v lsb_e)))) ?_
  obtain rfl := Option.some.inj h
  exact kb x1 x2 (w32 (x3 + 1)) d rfl hx1 hx2 (w32_c _)
set_option maxHeartbeats 4000000 in
theorem ok_Ro_fillOutward_y14 {p : Program} {l : Launch} {e : Env} {s : State} {m : MethodId} {args : Array Value} {below : List Frame} {meth : Method} {c : Code} {D : va_G} {cA : Nat → ClassId} {ad : Nat → Nat} {A : Nat → Prop} (C : Cx p s m args c prog_10_method_7_code 4 "PollBooks$Roads" D cA ad 0 A) {Q : State → Prop} {o : (Int × Int × Int × Dt) ⊕ ((Int × Int × Dt))} (x1 x2 x3 : Int) (d : Dt) (hx1 : c32 x1) (hx2 : c32 x2) (hx3 : c32 x3) (h : L_Ro_fillOutward_y14 x1 x2 x3 d = some o) (kb : ∀ (y0 y1 y2 : Int) (e' : Dt), o = .inl (y0, y1, y2, e') → c32 y0 → c32 y1 → c32 y2 → G p l e rm_Ro_fillOutward s m args below meth c 0 0 Q 4 D cA ad 0 A 14 [(2, 71), (0, y0), (0, y1), (0, y2)] [] e') (k0 : ∀ (y0 y1 : Int) (e' : Dt), o = .inr (y0, y1, e') → c32 y0 → c32 y1 → G p l e rm_Ro_fillOutward s m args below meth c 0 0 Q 4 D cA ad 0 A 54 [(2, 71), (0, y0), (0, y1), (9, 0)] [] e') : G p l e rm_Ro_fillOutward s m args below meth c 0 0 Q 4 D cA ad 0 A 14 [(2, 71), (0, x1), (0, x2), (0, x3)] [] d := by
  unfold L_Ro_fillOutward_y14 at h
  refine g_iload_n C 3 rfl (by decide +kernel) ?_
  refine g_aload_n C 0 rfl (by decide +kernel) ?_
  refine g_getI C cl8 71 7 rfl cd_A71 ⟨by decide, rfl, by decide⟩ rfl (nA (by decide)) (ix := 43) lk_446 (by decide +kernel) (fun hc1_ => ?_)
  refine g_icmp_ge C (off := 35) (tgt := 54) hx3 hc1_ (by decide +kernel) (by decide) (fun hc2_ => ?_) (fun hc2_ => ?_)
  · replace h := ite_t hc2_ h
    refine g_iload_n C 2 rfl (by decide +kernel) ?_
    refine g_iload_n C 3 rfl (by decide +kernel) ?_
    refine g_ishr C (by decide +kernel) ?_
    refine g_iconst C 1 (cK rfl) (by decide +kernel) ?_
    refine g_iand C (by decide +kernel) ?_
    refine g_if_eq C (off := 21) (tgt := 48) (i_c _) (by decide +kernel) (by decide) (fun hc3_ => ?_) (fun hc3_ => ?_)
    · replace h := ite_t hc3_ h
      refine g_sub (lo2 := [(2, 71), (0, x1), (0, x2), (0, x3)]) (lsb_v (lsb_v (lsb_v (lsb_v lsb_e)))) ?_
      exact ok_Ro_fillOutward_b48 C x1 x2 x3 d hx1 hx2 hx3 h kb k0
    · replace h := ite_f hc3_ h
      refine g_aload_n C 0 rfl (by decide +kernel) ?_
      refine g_getR C cl8 71 4 76 rfl cd_A71 ⟨by decide, rfl, by decide⟩ rfl rfl (nA (by decide)) (ix := 24) lk_443 (by decide +kernel) ?_
      refine g_iload_n C 2 rfl (by decide +kernel) ?_
      refine g_bipush C 6 (by decide) (by decide +kernel) ?_
      refine g_imul C (by decide +kernel) ?_
      refine g_iload_n C 3 rfl (by decide +kernel) ?_
      refine g_iadd C (by decide +kernel) ?_
      refine g_aload_n C 0 rfl (by decide +kernel) ?_
      refine g_iload_n C 1 rfl (by decide +kernel) ?_
      refine g_iload_n C 2 rfl (by decide +kernel) ?_
      refine g_iload_n C 3 rfl (by decide +kernel) ?_
      obtain ⟨r5_, d4_, hr6_, h⟩ := bd_some h
      refine g_callV C mw_Ro_shortestTo [(0, x1), (0, x2), (0, x3)] 71 cl8 rfl (ok_Ro_shortestTo x1 x2 x3 d hx1 hx2 hx3 hr6_) cd_A71 (by decide) (nA (by decide)) (ix := 60) lk_1373 lk_1375 lkp_54 ⟨rfl, rfl, Nat.le_of_ble_eq_true rfl, Nat.le_of_ble_eq_true rfl⟩ rfl (rest := [(0, (w32 ((w32 (x2 * 6)) + x3))), (2, 76)]) rfl (Nat.le_of_ble_eq_true rfl) ⟨Nat.zero_le _, Nat.zero_le _⟩ (by decide +kernel) (fun _ hc7_ => ?_)
      replace hc7_ : c32 r5_ := hc7_
      refine g_st (st2 := [(0, r5_), (0, (w32 ((w32 (x2 * 6)) + x3))), (2, 76)]) rfl ?_
      obtain ⟨hb8_, h⟩ := ck_some h
      refine g_iast C 76 hc7_ (w32_c _) rfl cd_A76 (nA (by decide)) hb8_ (by decide +kernel) ?_
      refine g_sub (lo2 := [(2, 71), (0, x1), (0, x2), (0, x3)]) (lsb_v (lsb_v (lsb_v (lsb_v lsb_e)))) ?_
      exact ok_Ro_fillOutward_b48 C x1 x2 x3 (up2 d4_ 76 ((w32 ((w32 (x2 * 6)) + x3))).toNat r5_) hx1 hx2 hx3 h kb k0
  · replace h := ite_f hc2_ h
    refine g_sub (lo2 := [(2, 71), (0, x1), (0, x2), (9, 0)]) (lsb_v (lsb_v (lsb_v (lsb_c lsb_e)))) ?_
    obtain rfl := Option.some.inj h
    exact k0 x1 x2 d rfl hx1 hx2
set_option maxHeartbeats 4000000 in
theorem ok_Ro_fillOutward_n14 {p : Program} {l : Launch} {e : Env} {s : State} {m : MethodId} {args : Array Value} {below : List Frame} {meth : Method} {c : Code} {D : va_G} {cA : Nat → ClassId} {ad : Nat → Nat} {A : Nat → Prop} (C : Cx p s m args c prog_10_method_7_code 4 "PollBooks$Roads" D cA ad 0 A) {Q : State → Prop} {x : (Int × Int × Dt)} : ∀ (n : Nat) (x1 x2 x3 : Int) (d : Dt), c32 x1 → c32 x2 → c32 x3 → lpF (fun q : Int × Int × Int × Dt => L_Ro_fillOutward_y14 q.1 q.2.1 q.2.2.1 q.2.2.2) n (x1, x2, x3, d) = some x → (∀ (y0 y1 : Int) (e' : Dt), x = (y0, y1, e') → c32 y0 → c32 y1 → G p l e rm_Ro_fillOutward s m args below meth c 0 0 Q 4 D cA ad 0 A 54 [(2, 71), (0, y0), (0, y1), (9, 0)] [] e') → G p l e rm_Ro_fillOutward s m args below meth c 0 0 Q 4 D cA ad 0 A 14 [(2, 71), (0, x1), (0, x2), (0, x3)] [] d := by
  intro n
  induction n with
  | zero => intro x1 x2 x3 d g0 g1 g2 h k0; cases h
  | succ n ih =>
    intro x1 x2 x3 d g0 g1 g2 h k0
    rcases lpF_some h with h | ⟨⟨v0_, v1_, v2_, e0_⟩, h1, h⟩
    · exact ok_Ro_fillOutward_y14 C x1 x2 x3 d g0 g1 g2 h (fun z0_ z1_ z2_ e1_ eq w0_ w1_ w2_ => by cases eq) (fun z0_ z1_ e1_ eq w0_ w1_ => k0 _ _ _ (by cases eq; rfl) w0_ w1_)
    · exact ok_Ro_fillOutward_y14 C x1 x2 x3 d g0 g1 g2 h1 (fun z0_ z1_ z2_ e1_ eq w0_ w1_ w2_ => by cases eq; exact ih _ _ _ _ w0_ w1_ w2_ h k0) (fun z0_ z1_ e1_ eq w0_ w1_ => by cases eq)
set_option maxHeartbeats 4000000 in
theorem ok_Ro_fillOutward_l14 {p : Program} {l : Launch} {e : Env} {s : State} {m : MethodId} {args : Array Value} {below : List Frame} {meth : Method} {c : Code} {D : va_G} {cA : Nat → ClassId} {ad : Nat → Nat} {A : Nat → Prop} (C : Cx p s m args c prog_10_method_7_code 4 "PollBooks$Roads" D cA ad 0 A) {Q : State → Prop} {x : (Int × Int × Dt)} (x1 x2 x3 : Int) (d : Dt) (hx1 : c32 x1) (hx2 : c32 x2) (hx3 : c32 x3) (h : L_Ro_fillOutward_l14 x1 x2 x3 d = some x) (k0 : ∀ (y0 y1 : Int) (e' : Dt), x = (y0, y1, e') → c32 y0 → c32 y1 → G p l e rm_Ro_fillOutward s m args below meth c 0 0 Q 4 D cA ad 0 A 54 [(2, 71), (0, y0), (0, y1), (9, 0)] [] e') : G p l e rm_Ro_fillOutward s m args below meth c 0 0 Q 4 D cA ad 0 A 14 [(2, 71), (0, x1), (0, x2), (0, x3)] [] d :=
  ok_Ro_fillOutward_n14 C FU x1 x2 x3 d hx1 hx2 hx3 h k0
set_option maxHeartbeats 4000000 in
theorem ok_Ro_fillOutward_y2 {p : Program} {l : Launch} {e : Env} {s : State} {m : MethodId} {args : Array Value} {below : List Frame} {meth : Method} {c : Code} {D : va_G} {cA : Nat → ClassId} {ad : Nat → Nat} {A : Nat → Prop} (C : Cx p s m args c prog_10_method_7_code 4 "PollBooks$Roads" D cA ad 0 A) {Q : State → Prop} {o : (Int × Int × Dt) ⊕ ((Dt))} (x1 x2 : Int) (d : Dt) (hx1 : c32 x1) (hx2 : c32 x2) (h : L_Ro_fillOutward_y2 x1 x2 d = some o) (kb : ∀ (y0 y1 : Int) (e' : Dt), o = .inl (y0, y1, e') → c32 y0 → c32 y1 → G p l e rm_Ro_fillOutward s m args below meth c 0 0 Q 4 D cA ad 0 A 2 [(2, 71), (0, y0), (0, y1), (9, 0)] [] e') (k0 : ∀ (e' : Dt), o = .inr (e') → G p l e rm_Ro_fillOutward s m args below meth c 0 0 Q 4 D cA ad 0 A 60 [(9, 0), (9, 0), (9, 0), (9, 0)] [] e') : G p l e rm_Ro_fillOutward s m args below meth c 0 0 Q 4 D cA ad 0 A 2 [(2, 71), (0, x1), (0, x2), (9, 0)] [] d := by
  unfold L_Ro_fillOutward_y2 at h
  refine g_iload_n C 2 rfl (by decide +kernel) ?_
  refine g_iconst C 1 (cK rfl) (by decide +kernel) ?_
  refine g_aload_n C 0 rfl (by decide +kernel) ?_
  refine g_getI C cl8 71 7 rfl cd_A71 ⟨by decide, rfl, by decide⟩ rfl (nA (by decide)) (ix := 43) lk_446 (by decide +kernel) (fun hc9_ => ?_)
  refine g_ishl C (by decide +kernel) ?_
  refine g_icmp_ge C (off := 51) (tgt := 60) hx2 (i_c _) (by decide +kernel) (by decide) (fun hc10_ => ?_) (fun hc10_ => ?_)
  · replace h := ite_t hc10_ h
    refine g_iconst C 0 (cK rfl) (by decide +kernel) ?_
    refine s_istore_n C 3 (lo' := [(2, 71), (0, x1), (0, x2), (0, 0)]) (by decide) (s1k (s1k (s1n (by decide) s1z))) (by decide +kernel) ?_
    refine g_sub (lo2 := [(2, 71), (0, x1), (0, x2), (0, 0)]) (lsb_v (lsb_v (lsb_v (lsb_v lsb_e)))) ?_
    obtain ⟨x11_, hx12_, h⟩ := lb_some h
    refine ok_Ro_fillOutward_l14 C x1 x2 0 d hx1 hx2 (c32_cb (Or.inl rfl)) hx12_ (fun v13_ v14_ d15_ eq16_ hv13_ hv14_ => ?_)
    subst eq16_
    replace h := u2_e h
    refine s_iinc C 2 1 (lo' := [(2, 71), (0, v13_), (0, (w32 (v14_ + 1))), (9, 0)]) rfl (by decide) (s1k (s1n (by decide) s1z)) (by decide +kernel) ?_
    refine g_goto C 2 (off := (-55)) (by decide +kernel) (by decide) ?_
    refine g_sub (lo2 := [(2, 71), (0, v13_), (0, (w32 (v14_ + 1))), (9, 0)]) (lsb_v (lsb_v (lsb_v (lsb_c lsb_e)))) ?_
    obtain rfl := Option.some.inj h
    exact kb v13_ (w32 (v14_ + 1)) d15_ rfl hv13_ (w32_c _)
  · replace h := ite_f hc10_ h
    refine g_sub (lo2 := [(9, 0), (9, 0), (9, 0), (9, 0)]) (lsb_c (lsb_c (lsb_c (lsb_c lsb_e)))) ?_
    obtain rfl := Option.some.inj h
    exact k0 d rfl 
set_option maxHeartbeats 4000000 in
theorem ok_Ro_fillOutward_n2 {p : Program} {l : Launch} {e : Env} {s : State} {m : MethodId} {args : Array Value} {below : List Frame} {meth : Method} {c : Code} {D : va_G} {cA : Nat → ClassId} {ad : Nat → Nat} {A : Nat → Prop} (C : Cx p s m args c prog_10_method_7_code 4 "PollBooks$Roads" D cA ad 0 A) {Q : State → Prop} {x : (Dt)} : ∀ (n : Nat) (x1 x2 : Int) (d : Dt), c32 x1 → c32 x2 → lpF (fun q : Int × Int × Dt => L_Ro_fillOutward_y2 q.1 q.2.1 q.2.2) n (x1, x2, d) = some x → (∀ (e' : Dt), x = (e') → G p l e rm_Ro_fillOutward s m args below meth c 0 0 Q 4 D cA ad 0 A 60 [(9, 0), (9, 0), (9, 0), (9, 0)] [] e') → G p l e rm_Ro_fillOutward s m args below meth c 0 0 Q 4 D cA ad 0 A 2 [(2, 71), (0, x1), (0, x2), (9, 0)] [] d := by
  intro n
  induction n with
  | zero => intro x1 x2 d g0 g1 h k0; cases h
  | succ n ih =>
    intro x1 x2 d g0 g1 h k0
    rcases lpF_some h with h | ⟨⟨v0_, v1_, e0_⟩, h1, h⟩
    · exact ok_Ro_fillOutward_y2 C x1 x2 d g0 g1 h (fun z0_ z1_ e1_ eq w0_ w1_ => by cases eq) (fun e1_ eq => k0 _ (by cases eq; rfl) )
    · exact ok_Ro_fillOutward_y2 C x1 x2 d g0 g1 h1 (fun z0_ z1_ e1_ eq w0_ w1_ => by cases eq; exact ih _ _ _ w0_ w1_ h k0) (fun e1_ eq => by cases eq)
set_option maxHeartbeats 4000000 in
theorem ok_Ro_fillOutward_l2 {p : Program} {l : Launch} {e : Env} {s : State} {m : MethodId} {args : Array Value} {below : List Frame} {meth : Method} {c : Code} {D : va_G} {cA : Nat → ClassId} {ad : Nat → Nat} {A : Nat → Prop} (C : Cx p s m args c prog_10_method_7_code 4 "PollBooks$Roads" D cA ad 0 A) {Q : State → Prop} {x : (Dt)} (x1 x2 : Int) (d : Dt) (hx1 : c32 x1) (hx2 : c32 x2) (h : L_Ro_fillOutward_l2 x1 x2 d = some x) (k0 : ∀ (e' : Dt), x = (e') → G p l e rm_Ro_fillOutward s m args below meth c 0 0 Q 4 D cA ad 0 A 60 [(9, 0), (9, 0), (9, 0), (9, 0)] [] e') : G p l e rm_Ro_fillOutward s m args below meth c 0 0 Q 4 D cA ad 0 A 2 [(2, 71), (0, x1), (0, x2), (9, 0)] [] d :=
  ok_Ro_fillOutward_n2 C FU x1 x2 d hx1 hx2 h k0
set_option maxHeartbeats 4000000 in
theorem ok_Ro_fillOutward {l : Launch} {r : Int} {d' : Dt} (p1 : Int) (d : Dt) (hp1 : c32 p1) (h : L_Ro_fillOutward p1 d = some (r, d')) : MC l y_Ro_fillOutward prog_10_method_7_code 4 none rm_Ro_fillOutward 0 [(2, 71), (0, p1)] d none d' := by
  refine MC.of (by decide) (Nat.le_of_ble_eq_true rfl) ?_
  intro p e s m args below meth c D cA ad A C hlk hr
  replace C : Cx p s m args c prog_10_method_7_code 4 "PollBooks$Roads" D cA ad 0 A := C
  show G p l e rm_Ro_fillOutward s m args below meth c 0 0 (MQ below (fun _ => QC D cA ad 0 A none none d') args s 0 0 A) 4 D cA ad 0 A 0 [(2, 71), (0, p1)] [] d
  refine g_sub (lo2 := [(2, 71), (0, p1), (9, 0), (9, 0)]) (lsb_v (lsb_v (lsb_n (lsb_n lsb_e)))) ?_
  unfold L_Ro_fillOutward at h
  refine g_iconst C 1 (cK rfl) (by decide +kernel) ?_
  refine s_istore_n C 2 (lo' := [(2, 71), (0, p1), (0, 1), (9, 0)]) (by decide) (s1k (s1n (by decide) s1z)) (by decide +kernel) ?_
  refine g_sub (lo2 := [(2, 71), (0, p1), (0, 1), (9, 0)]) (lsb_v (lsb_v (lsb_v (lsb_c lsb_e)))) ?_
  obtain ⟨x18_, hx19_, h⟩ := lb_some h
  refine ok_Ro_fillOutward_l2 C p1 1 d hp1 (c32_cb (Or.inr rfl)) hx19_ (fun d20_ eq21_ => ?_)
  replace eq21_ := eq21_.symm
  subst eq21_
  replace h := u0_e h
  obtain ⟨rfl, rfl⟩ := ret_inj h
  exact g_vret C hlk hr (by decide +kernel)
/-! PollBooks$Roads.fillTours(I)V -/
def y_Ro_fillTours : MethodName := ⟨"PollBooks$Roads", "fillTours", "(I)V"⟩
def rm_Ro_fillTours : Room := { frames := 1, cells := 0, slots := 0, locals := 21 }
theorem mw_Ro_fillTours : MW y_Ro_fillTours prog_10_method_9_code 5 none 1 := ⟨lk_1382, lk_13, by decide +kernel⟩
def L_Ro_fillTours_b85 (x1 x2 x3 : Int) (d : Dt) : Option ((Int × Int × Int × Dt) ⊕ ((Int × Int × Dt))) :=
  some (Sum.inl (x1, x2, (w32 (x3 + 1)), d))
def L_Ro_fillTours_y22 (x1 x2 x3 : Int) (d : Dt) : Option ((Int × Int × Int × Dt) ⊕ ((Int × Int × Dt))) :=
  if x3 < (d 71 7) then if (iand (ishr x2 x3) 1) = 0 then L_Ro_fillTours_b85 x1 x2 x3 d else ck ((0 : Int) ≤ x3 ∧ x3 < 6) (ck ((0 : Int) ≤ (w32 ((w32 ((d 74 x3.toNat) * 7)) + x1)) ∧ (w32 ((w32 ((d 74 x3.toNat) * 7)) + x1)) < 49) (lt_ (d 72 ((w32 ((w32 ((d 74 x3.toNat) * 7)) + x1))).toNat) (fun v8_ => ck ((0 : Int) ≤ x2 ∧ x2 < 64) (ck ((0 : Int) ≤ (w32 ((w32 (x2 * 6)) + x3)) ∧ (w32 ((w32 (x2 * 6)) + x3)) < 384) (ck ((0 : Int) ≤ x2 ∧ x2 < 64) (L_Ro_fillTours_b85 x1 x2 x3 (up2 d 77 x2.toNat (jmin (d 77 x2.toNat) (w32 ((d 76 ((w32 ((w32 (x2 * 6)) + x3))).toNat) + v8_)))))))))) else some (Sum.inr (x1, x2, d))
def L_Ro_fillTours_l22 (x1 x2 x3 : Int) (d : Dt) : Option ((Int × Int × Dt)) := lpF (fun q : Int × Int × Int × Dt => L_Ro_fillTours_y22 q.1 q.2.1 q.2.2.1 q.2.2.2) FU (x1, x2, x3, d)
def L_Ro_fillTours_y2 (x1 x2 : Int) (d : Dt) : Option ((Int × Int × Dt) ⊕ ((Dt))) :=
  if x2 < (ishl 1 (d 71 7)) then ck ((0 : Int) ≤ x2 ∧ x2 < 64) (lb (L_Ro_fillTours_l22 x1 x2 0 (up2 d 77 x2.toNat 1000000)) (fun q25_ => u2 q25_ (fun v21_ v22_ d23_ => some (Sum.inl (v21_, (w32 (v22_ + 1)), d23_))))) else some (Sum.inr (d))
def L_Ro_fillTours_l2 (x1 x2 : Int) (d : Dt) : Option ((Dt)) := lpF (fun q : Int × Int × Dt => L_Ro_fillTours_y2 q.1 q.2.1 q.2.2) FU (x1, x2, d)
def L_Ro_fillTours (p1 : Int) (d : Dt) : Option (Int × Dt) :=
  lb (L_Ro_fillTours_l2 p1 1 d) (fun q30_ => u0 q30_ (fun d28_ => some (0, d28_)))
set_option maxHeartbeats 4000000 in
theorem ok_Ro_fillTours_b85 {p : Program} {l : Launch} {e : Env} {s : State} {m : MethodId} {args : Array Value} {below : List Frame} {meth : Method} {c : Code} {D : va_G} {cA : Nat → ClassId} {ad : Nat → Nat} {A : Nat → Prop} (C : Cx p s m args c prog_10_method_9_code 5 "PollBooks$Roads" D cA ad 0 A) {Q : State → Prop} {o : (Int × Int × Int × Dt) ⊕ ((Int × Int × Dt))} (x1 x2 x3 : Int) (d : Dt) (hx1 : c32 x1) (hx2 : c32 x2) (hx3 : c32 x3) (h : L_Ro_fillTours_b85 x1 x2 x3 d = some o) (kb : ∀ (y0 y1 y2 : Int) (e' : Dt), o = .inl (y0, y1, y2, e') → c32 y0 → c32 y1 → c32 y2 → G p l e rm_Ro_fillTours s m args below meth c 0 0 Q 5 D cA ad 0 A 22 [(2, 71), (0, y0), (0, y1), (0, y2), (9, 0)] [] e') (k0 : ∀ (y0 y1 : Int) (e' : Dt), o = .inr (y0, y1, e') → c32 y0 → c32 y1 → G p l e rm_Ro_fillTours s m args below meth c 0 0 Q 5 D cA ad 0 A 91 [(2, 71), (0, y0), (0, y1), (9, 0), (9, 0)] [] e') : G p l e rm_Ro_fillTours s m args below meth c 0 0 Q 5 D cA ad 0 A 85 [(2, 71), (0, x1), (0, x2), (0, x3), (9, 0)] [] d := by
  unfold L_Ro_fillTours_b85 at h
  refine s_iinc C 3 1 (lo' := [(2, 71), (0, x1), (0, x2), (0, (w32 (x3 + 1))), (9, 0)]) rfl (by decide) (s1k (s1k (s1n (by decide) s1z))) (by decide +kernel) ?_
  refine g_goto C 22 (off := (-66)) (by decide +kernel) (by decide) ?_
  refine g_sub (lo2 := [(2, 71), (0, x1), (0, x2), (0, (w32 (x3 + 1))), (9, 0)]) (lsb_v (lsb_v (lsb_v (lsb_v (lsb_c lsb_e))))) ?_
  obtain rfl := Option.some.inj h
  exact kb x1 x2 (w32 (x3 + 1)) d rfl hx1 hx2 (w32_c _)
set_option maxHeartbeats 4000000 in
theorem ok_Ro_fillTours_y22 {p : Program} {l : Launch} {e : Env} {s : State} {m : MethodId} {args : Array Value} {below : List Frame} {meth : Method} {c : Code} {D : va_G} {cA : Nat → ClassId} {ad : Nat → Nat} {A : Nat → Prop} (C : Cx p s m args c prog_10_method_9_code 5 "PollBooks$Roads" D cA ad 0 A) {Q : State → Prop} {o : (Int × Int × Int × Dt) ⊕ ((Int × Int × Dt))} (x1 x2 x3 : Int) (d : Dt) (hx1 : c32 x1) (hx2 : c32 x2) (hx3 : c32 x3) (h : L_Ro_fillTours_y22 x1 x2 x3 d = some o) (kb : ∀ (y0 y1 y2 : Int) (e' : Dt), o = .inl (y0, y1, y2, e') → c32 y0 → c32 y1 → c32 y2 → G p l e rm_Ro_fillTours s m args below meth c 0 0 Q 5 D cA ad 0 A 22 [(2, 71), (0, y0), (0, y1), (0, y2), (9, 0)] [] e') (k0 : ∀ (y0 y1 : Int) (e' : Dt), o = .inr (y0, y1, e') → c32 y0 → c32 y1 → G p l e rm_Ro_fillTours s m args below meth c 0 0 Q 5 D cA ad 0 A 91 [(2, 71), (0, y0), (0, y1), (9, 0), (9, 0)] [] e') : G p l e rm_Ro_fillTours s m args below meth c 0 0 Q 5 D cA ad 0 A 22 [(2, 71), (0, x1), (0, x2), (0, x3), (9, 0)] [] d := by
  unfold L_Ro_fillTours_y22 at h
  refine g_iload_n C 3 rfl (by decide +kernel) ?_
  refine g_aload_n C 0 rfl (by decide +kernel) ?_
  refine g_getI C cl8 71 7 rfl cd_A71 ⟨by decide, rfl, by decide⟩ rfl (nA (by decide)) (ix := 43) lk_446 (by decide +kernel) (fun hc1_ => ?_)
  refine g_icmp_ge C (off := 64) (tgt := 91) hx3 hc1_ (by decide +kernel) (by decide) (fun hc2_ => ?_) (fun hc2_ => ?_)
  · replace h := ite_t hc2_ h
    refine g_iload_n C 2 rfl (by decide +kernel) ?_
    refine g_iload_n C 3 rfl (by decide +kernel) ?_
    refine g_ishr C (by decide +kernel) ?_
    refine g_iconst C 1 (cK rfl) (by decide +kernel) ?_
    refine g_iand C (by decide +kernel) ?_
    refine g_if_eq C (off := 50) (tgt := 85) (i_c _) (by decide +kernel) (by decide) (fun hc3_ => ?_) (fun hc3_ => ?_)
    · replace h := ite_t hc3_ h
      refine g_sub (lo2 := [(2, 71), (0, x1), (0, x2), (0, x3), (9, 0)]) (lsb_v (lsb_v (lsb_v (lsb_v (lsb_c lsb_e))))) ?_
      exact ok_Ro_fillTours_b85 C x1 x2 x3 d hx1 hx2 hx3 h kb k0
    · replace h := ite_f hc3_ h
      refine g_aload_n C 0 rfl (by decide +kernel) ?_
      refine g_getR C cl8 71 0 72 rfl cd_A71 ⟨by decide, rfl, by decide⟩ rfl rfl (nA (by decide)) (ix := 11) lk_439 (by decide +kernel) ?_
      refine g_aload_n C 0 rfl (by decide +kernel) ?_
      refine g_getR C cl8 71 2 74 rfl cd_A71 ⟨by decide, rfl, by decide⟩ rfl rfl (nA (by decide)) (ix := 18) lk_441 (by decide +kernel) ?_
      refine g_iload_n C 3 rfl (by decide +kernel) ?_
      obtain ⟨hb4_, h⟩ := ck_some h
      refine g_iald C 74 hx3 rfl cd_A74 (nA (by decide)) hb4_ (by decide +kernel) (fun hc5_ => ?_)
      refine g_bipush C 7 (by decide) (by decide +kernel) ?_
      refine g_imul C (by decide +kernel) ?_
      refine g_iload_n C 1 rfl (by decide +kernel) ?_
      refine g_iadd C (by decide +kernel) ?_
      obtain ⟨hb6_, h⟩ := ck_some h
      refine g_iald C 72 (w32_c _) rfl cd_A72 (nA (by decide)) hb6_ (by decide +kernel) (fun hc7_ => ?_)
      obtain ⟨v8_, ev9_, h⟩ := lt_some h
      refine g_val ev9_.symm ?_
      have hv10_ : c32 v8_ := by rw [ev9_]; exact hc7_
      refine s_istore C 4 (lo' := [(2, 71), (0, x1), (0, x2), (0, x3), (0, v8_)]) (by decide) (s1k (s1k (s1k (s1n (by decide) s1z)))) (by decide +kernel) ?_
      refine g_aload_n C 0 rfl (by decide +kernel) ?_
      refine g_getR C cl8 71 5 77 rfl cd_A71 ⟨by decide, rfl, by decide⟩ rfl rfl (nA (by decide)) (ix := 27) lk_444 (by decide +kernel) ?_
      refine g_iload_n C 2 rfl (by decide +kernel) ?_
      refine g_aload_n C 0 rfl (by decide +kernel) ?_
      refine g_getR C cl8 71 5 77 rfl cd_A71 ⟨by decide, rfl, by decide⟩ rfl rfl (nA (by decide)) (ix := 27) lk_444 (by decide +kernel) ?_
      refine g_iload_n C 2 rfl (by decide +kernel) ?_
      obtain ⟨hb11_, h⟩ := ck_some h
      refine g_iald C 77 hx2 rfl cd_A77 (nA (by decide)) hb11_ (by decide +kernel) (fun hc12_ => ?_)
      refine g_aload_n C 0 rfl (by decide +kernel) ?_
      refine g_getR C cl8 71 4 76 rfl cd_A71 ⟨by decide, rfl, by decide⟩ rfl rfl (nA (by decide)) (ix := 24) lk_443 (by decide +kernel) ?_
      refine g_iload_n C 2 rfl (by decide +kernel) ?_
      refine g_bipush C 6 (by decide) (by decide +kernel) ?_
      refine g_imul C (by decide +kernel) ?_
      refine g_iload_n C 3 rfl (by decide +kernel) ?_
      refine g_iadd C (by decide +kernel) ?_
      obtain ⟨hb13_, h⟩ := ck_some h
      refine g_iald C 76 (w32_c _) rfl cd_A76 (nA (by decide)) hb13_ (by decide +kernel) (fun hc14_ => ?_)
      refine g_iload C 4 rfl (by decide +kernel) ?_
      refine g_iadd C (by decide +kernel) ?_
      refine g_mmin C hc12_ (w32_c _) (ix := 65) lk_1378 lk_601 lk_16 lk_602 ⟨Nat.le_of_ble_eq_true rfl, Nat.le_of_ble_eq_true rfl, Nat.zero_le _, Nat.zero_le _⟩ (Nat.le_of_ble_eq_true rfl) (by decide +kernel) ?_
      obtain ⟨hb15_, h⟩ := ck_some h
      refine g_iast C 77 (jmin_c hc12_ (w32_c _)) hx2 rfl cd_A77 (nA (by decide)) hb15_ (by decide +kernel) ?_
      refine g_sub (lo2 := [(2, 71), (0, x1), (0, x2), (0, x3), (9, 0)]) (lsb_v (lsb_v (lsb_v (lsb_v (lsb_c lsb_e))))) ?_
      exact ok_Ro_fillTours_b85 C x1 x2 x3 (up2 d 77 x2.toNat (jmin (d 77 x2.toNat) (w32 ((d 76 ((w32 ((w32 (x2 * 6)) + x3))).toNat) + v8_)))) hx1 hx2 hx3 h kb k0
  · replace h := ite_f hc2_ h
    refine g_sub (lo2 := [(2, 71), (0, x1), (0, x2), (9, 0), (9, 0)]) (lsb_v (lsb_v (lsb_v (lsb_c (lsb_c lsb_e))))) ?_
    obtain rfl := Option.some.inj h
    exact k0 x1 x2 d rfl hx1 hx2
set_option maxHeartbeats 4000000 in
theorem ok_Ro_fillTours_n22 {p : Program} {l : Launch} {e : Env} {s : State} {m : MethodId} {args : Array Value} {below : List Frame} {meth : Method} {c : Code} {D : va_G} {cA : Nat → ClassId} {ad : Nat → Nat} {A : Nat → Prop} (C : Cx p s m args c prog_10_method_9_code 5 "PollBooks$Roads" D cA ad 0 A) {Q : State → Prop} {x : (Int × Int × Dt)} : ∀ (n : Nat) (x1 x2 x3 : Int) (d : Dt), c32 x1 → c32 x2 → c32 x3 → lpF (fun q : Int × Int × Int × Dt => L_Ro_fillTours_y22 q.1 q.2.1 q.2.2.1 q.2.2.2) n (x1, x2, x3, d) = some x → (∀ (y0 y1 : Int) (e' : Dt), x = (y0, y1, e') → c32 y0 → c32 y1 → G p l e rm_Ro_fillTours s m args below meth c 0 0 Q 5 D cA ad 0 A 91 [(2, 71), (0, y0), (0, y1), (9, 0), (9, 0)] [] e') → G p l e rm_Ro_fillTours s m args below meth c 0 0 Q 5 D cA ad 0 A 22 [(2, 71), (0, x1), (0, x2), (0, x3), (9, 0)] [] d := by
  intro n
  induction n with
  | zero => intro x1 x2 x3 d g0 g1 g2 h k0; cases h
  | succ n ih =>
    intro x1 x2 x3 d g0 g1 g2 h k0
    rcases lpF_some h with h | ⟨⟨v0_, v1_, v2_, e0_⟩, h1, h⟩
    · exact ok_Ro_fillTours_y22 C x1 x2 x3 d g0 g1 g2 h (fun z0_ z1_ z2_ e1_ eq w0_ w1_ w2_ => by cases eq) (fun z0_ z1_ e1_ eq w0_ w1_ => k0 _ _ _ (by cases eq; rfl) w0_ w1_)
    · exact ok_Ro_fillTours_y22 C x1 x2 x3 d g0 g1 g2 h1 (fun z0_ z1_ z2_ e1_ eq w0_ w1_ w2_ => by cases eq; exact ih _ _ _ _ w0_ w1_ w2_ h k0) (fun z0_ z1_ e1_ eq w0_ w1_ => by cases eq)
set_option maxHeartbeats 4000000 in
theorem ok_Ro_fillTours_l22 {p : Program} {l : Launch} {e : Env} {s : State} {m : MethodId} {args : Array Value} {below : List Frame} {meth : Method} {c : Code} {D : va_G} {cA : Nat → ClassId} {ad : Nat → Nat} {A : Nat → Prop} (C : Cx p s m args c prog_10_method_9_code 5 "PollBooks$Roads" D cA ad 0 A) {Q : State → Prop} {x : (Int × Int × Dt)} (x1 x2 x3 : Int) (d : Dt) (hx1 : c32 x1) (hx2 : c32 x2) (hx3 : c32 x3) (h : L_Ro_fillTours_l22 x1 x2 x3 d = some x) (k0 : ∀ (y0 y1 : Int) (e' : Dt), x = (y0, y1, e') → c32 y0 → c32 y1 → G p l e rm_Ro_fillTours s m args below meth c 0 0 Q 5 D cA ad 0 A 91 [(2, 71), (0, y0), (0, y1), (9, 0), (9, 0)] [] e') : G p l e rm_Ro_fillTours s m args below meth c 0 0 Q 5 D cA ad 0 A 22 [(2, 71), (0, x1), (0, x2), (0, x3), (9, 0)] [] d :=
  ok_Ro_fillTours_n22 C FU x1 x2 x3 d hx1 hx2 hx3 h k0
set_option maxHeartbeats 4000000 in
theorem ok_Ro_fillTours_y2 {p : Program} {l : Launch} {e : Env} {s : State} {m : MethodId} {args : Array Value} {below : List Frame} {meth : Method} {c : Code} {D : va_G} {cA : Nat → ClassId} {ad : Nat → Nat} {A : Nat → Prop} (C : Cx p s m args c prog_10_method_9_code 5 "PollBooks$Roads" D cA ad 0 A) {Q : State → Prop} {o : (Int × Int × Dt) ⊕ ((Dt))} (x1 x2 : Int) (d : Dt) (hx1 : c32 x1) (hx2 : c32 x2) (h : L_Ro_fillTours_y2 x1 x2 d = some o) (kb : ∀ (y0 y1 : Int) (e' : Dt), o = .inl (y0, y1, e') → c32 y0 → c32 y1 → G p l e rm_Ro_fillTours s m args below meth c 0 0 Q 5 D cA ad 0 A 2 [(2, 71), (0, y0), (0, y1), (9, 0), (9, 0)] [] e') (k0 : ∀ (e' : Dt), o = .inr (e') → G p l e rm_Ro_fillTours s m args below meth c 0 0 Q 5 D cA ad 0 A 97 [(9, 0), (9, 0), (9, 0), (9, 0), (9, 0)] [] e') : G p l e rm_Ro_fillTours s m args below meth c 0 0 Q 5 D cA ad 0 A 2 [(2, 71), (0, x1), (0, x2), (9, 0), (9, 0)] [] d := by
  unfold L_Ro_fillTours_y2 at h
  refine g_iload_n C 2 rfl (by decide +kernel) ?_
  refine g_iconst C 1 (cK rfl) (by decide +kernel) ?_
  refine g_aload_n C 0 rfl (by decide +kernel) ?_
  refine g_getI C cl8 71 7 rfl cd_A71 ⟨by decide, rfl, by decide⟩ rfl (nA (by decide)) (ix := 43) lk_446 (by decide +kernel) (fun hc16_ => ?_)
  refine g_ishl C (by decide +kernel) ?_
  refine g_icmp_ge C (off := 88) (tgt := 97) hx2 (i_c _) (by decide +kernel) (by decide) (fun hc17_ => ?_) (fun hc17_ => ?_)
  · replace h := ite_t hc17_ h
    refine g_aload_n C 0 rfl (by decide +kernel) ?_
    refine g_getR C cl8 71 5 77 rfl cd_A71 ⟨by decide, rfl, by decide⟩ rfl rfl (nA (by decide)) (ix := 27) lk_444 (by decide +kernel) ?_
    refine g_iload_n C 2 rfl (by decide +kernel) ?_
    refine g_ldc C (ix := 64) (v := 1000000) lk_1377 (by decide +kernel) ?_
    obtain ⟨hb18_, h⟩ := ck_some h
    refine g_iast C 77 (cK rfl) hx2 rfl cd_A77 (nA (by decide)) hb18_ (by decide +kernel) ?_
    refine g_iconst C 0 (cK rfl) (by decide +kernel) ?_
    refine s_istore_n C 3 (lo' := [(2, 71), (0, x1), (0, x2), (0, 0), (9, 0)]) (by decide) (s1k (s1k (s1n (by decide) s1z))) (by decide +kernel) ?_
    refine g_sub (lo2 := [(2, 71), (0, x1), (0, x2), (0, 0), (9, 0)]) (lsb_v (lsb_v (lsb_v (lsb_v (lsb_c lsb_e))))) ?_
    obtain ⟨x19_, hx20_, h⟩ := lb_some h
    refine ok_Ro_fillTours_l22 C x1 x2 0 (up2 d 77 x2.toNat 1000000) hx1 hx2 (c32_cb (Or.inl rfl)) hx20_ (fun v21_ v22_ d23_ eq24_ hv21_ hv22_ => ?_)
    subst eq24_
    replace h := u2_e h
    refine s_iinc C 2 1 (lo' := [(2, 71), (0, v21_), (0, (w32 (v22_ + 1))), (9, 0), (9, 0)]) rfl (by decide) (s1k (s1n (by decide) s1z)) (by decide +kernel) ?_
    refine g_goto C 2 (off := (-92)) (by decide +kernel) (by decide) ?_
    refine g_sub (lo2 := [(2, 71), (0, v21_), (0, (w32 (v22_ + 1))), (9, 0), (9, 0)]) (lsb_v (lsb_v (lsb_v (lsb_c (lsb_c lsb_e))))) ?_
    obtain rfl := Option.some.inj h
    exact kb v21_ (w32 (v22_ + 1)) d23_ rfl hv21_ (w32_c _)
  · replace h := ite_f hc17_ h
    refine g_sub (lo2 := [(9, 0), (9, 0), (9, 0), (9, 0), (9, 0)]) (lsb_c (lsb_c (lsb_c (lsb_c (lsb_c lsb_e))))) ?_
    obtain rfl := Option.some.inj h
    exact k0 d rfl 
set_option maxHeartbeats 4000000 in
theorem ok_Ro_fillTours_n2 {p : Program} {l : Launch} {e : Env} {s : State} {m : MethodId} {args : Array Value} {below : List Frame} {meth : Method} {c : Code} {D : va_G} {cA : Nat → ClassId} {ad : Nat → Nat} {A : Nat → Prop} (C : Cx p s m args c prog_10_method_9_code 5 "PollBooks$Roads" D cA ad 0 A) {Q : State → Prop} {x : (Dt)} : ∀ (n : Nat) (x1 x2 : Int) (d : Dt), c32 x1 → c32 x2 → lpF (fun q : Int × Int × Dt => L_Ro_fillTours_y2 q.1 q.2.1 q.2.2) n (x1, x2, d) = some x → (∀ (e' : Dt), x = (e') → G p l e rm_Ro_fillTours s m args below meth c 0 0 Q 5 D cA ad 0 A 97 [(9, 0), (9, 0), (9, 0), (9, 0), (9, 0)] [] e') → G p l e rm_Ro_fillTours s m args below meth c 0 0 Q 5 D cA ad 0 A 2 [(2, 71), (0, x1), (0, x2), (9, 0), (9, 0)] [] d := by
  intro n
  induction n with
  | zero => intro x1 x2 d g0 g1 h k0; cases h
  | succ n ih =>
    intro x1 x2 d g0 g1 h k0
    rcases lpF_some h with h | ⟨⟨v0_, v1_, e0_⟩, h1, h⟩
    · exact ok_Ro_fillTours_y2 C x1 x2 d g0 g1 h (fun z0_ z1_ e1_ eq w0_ w1_ => by cases eq) (fun e1_ eq => k0 _ (by cases eq; rfl) )
    · exact ok_Ro_fillTours_y2 C x1 x2 d g0 g1 h1 (fun z0_ z1_ e1_ eq w0_ w1_ => by cases eq; exact ih _ _ _ w0_ w1_ h k0) (fun e1_ eq => by cases eq)
set_option maxHeartbeats 4000000 in
theorem ok_Ro_fillTours_l2 {p : Program} {l : Launch} {e : Env} {s : State} {m : MethodId} {args : Array Value} {below : List Frame} {meth : Method} {c : Code} {D : va_G} {cA : Nat → ClassId} {ad : Nat → Nat} {A : Nat → Prop} (C : Cx p s m args c prog_10_method_9_code 5 "PollBooks$Roads" D cA ad 0 A) {Q : State → Prop} {x : (Dt)} (x1 x2 : Int) (d : Dt) (hx1 : c32 x1) (hx2 : c32 x2) (h : L_Ro_fillTours_l2 x1 x2 d = some x) (k0 : ∀ (e' : Dt), x = (e') → G p l e rm_Ro_fillTours s m args below meth c 0 0 Q 5 D cA ad 0 A 97 [(9, 0), (9, 0), (9, 0), (9, 0), (9, 0)] [] e') : G p l e rm_Ro_fillTours s m args below meth c 0 0 Q 5 D cA ad 0 A 2 [(2, 71), (0, x1), (0, x2), (9, 0), (9, 0)] [] d :=
  ok_Ro_fillTours_n2 C FU x1 x2 d hx1 hx2 h k0
set_option maxHeartbeats 4000000 in
theorem ok_Ro_fillTours {l : Launch} {r : Int} {d' : Dt} (p1 : Int) (d : Dt) (hp1 : c32 p1) (h : L_Ro_fillTours p1 d = some (r, d')) : MC l y_Ro_fillTours prog_10_method_9_code 5 none rm_Ro_fillTours 0 [(2, 71), (0, p1)] d none d' := by
  refine MC.of (by decide) (Nat.le_of_ble_eq_true rfl) ?_
  intro p e s m args below meth c D cA ad A C hlk hr
  replace C : Cx p s m args c prog_10_method_9_code 5 "PollBooks$Roads" D cA ad 0 A := C
  show G p l e rm_Ro_fillTours s m args below meth c 0 0 (MQ below (fun _ => QC D cA ad 0 A none none d') args s 0 0 A) 5 D cA ad 0 A 0 [(2, 71), (0, p1)] [] d
  refine g_sub (lo2 := [(2, 71), (0, p1), (9, 0), (9, 0), (9, 0)]) (lsb_v (lsb_v (lsb_n (lsb_n (lsb_n lsb_e))))) ?_
  unfold L_Ro_fillTours at h
  refine g_iconst C 1 (cK rfl) (by decide +kernel) ?_
  refine s_istore_n C 2 (lo' := [(2, 71), (0, p1), (0, 1), (9, 0), (9, 0)]) (by decide) (s1k (s1n (by decide) s1z)) (by decide +kernel) ?_
  refine g_sub (lo2 := [(2, 71), (0, p1), (0, 1), (9, 0), (9, 0)]) (lsb_v (lsb_v (lsb_v (lsb_c (lsb_c lsb_e))))) ?_
  obtain ⟨x26_, hx27_, h⟩ := lb_some h
  refine ok_Ro_fillTours_l2 C p1 1 d hp1 (c32_cb (Or.inr rfl)) hx27_ (fun d28_ eq29_ => ?_)
  replace eq29_ := eq29_.symm
  subst eq29_
  replace h := u0_e h
  obtain ⟨rfl, rfl⟩ := ret_inj h
  exact g_vret C hlk hr (by decide +kernel)
/-! PollBooks$Roads.shareOut(I)I -/
def y_Ro_shareOut : MethodName := ⟨"PollBooks$Roads", "shareOut", "(I)I"⟩
def rm_Ro_shareOut : Room := { frames := 1, cells := 0, slots := 0, locals := 21 }
theorem mw_Ro_shareOut : MW y_Ro_shareOut prog_10_method_10_code 7 (some .int) 1 := ⟨lk_1386, lk_13, by decide +kernel⟩
def L_Ro_shareOut_b107 (x1 x2 x3 x4 x5 : Int) (d : Dt) : Option ((Int × Int × Int × Int × Int × Dt) ⊕ ((Int × Int × Int × Dt))) :=
  lt_ (iand (w32 (x5 - 1)) x3) (fun v1_ => some (Sum.inl (x1, x2, x3, x4, v1_, d)))
def L_Ro_shareOut_y40 (x1 x2 x3 x4 x5 : Int) (d : Dt) : Option ((Int × Int × Int × Int × Int × Dt) ⊕ ((Int × Int × Int × Dt))) :=
  if 0 < x5 then if (iand x5 x4) = 0 then L_Ro_shareOut_b107 x1 x2 x3 x4 x5 d else ck ((0 : Int) ≤ x5 ∧ x5 < 64) (if x1 < (d 75 x5.toNat) then L_Ro_shareOut_b107 x1 x2 x3 x4 x5 d else ck ((0 : Int) ≤ x5 ∧ x5 < 64) (ck ((0 : Int) ≤ (iand x3 (ixor x5 (-1))) ∧ (iand x3 (ixor x5 (-1))) < 64) (lt_ (w32 ((w32 ((w32 ((d 77 x5.toNat) * 64)) + 1)) + (d 78 ((iand x3 (ixor x5 (-1)))).toNat))) (fun v13_ => ck ((0 : Int) ≤ x3 ∧ x3 < 64) (ck ((0 : Int) ≤ x3 ∧ x3 < 64) (L_Ro_shareOut_b107 x1 x2 x3 x4 x5 (up2 d 78 x3.toNat (jmin (d 78 x3.toNat) v13_)))))))) else some (Sum.inr (x1, x2, x3, d))
def L_Ro_shareOut_l40 (x1 x2 x3 x4 x5 : Int) (d : Dt) : Option ((Int × Int × Int × Dt)) := lpF (fun q : Int × Int × Int × Int × Int × Dt => L_Ro_shareOut_y40 q.1 q.2.1 q.2.2.1 q.2.2.2.1 q.2.2.2.2.1 q.2.2.2.2.2) FU (x1, x2, x3, x4, x5, d)
def L_Ro_shareOut_y18 (x1 x2 x3 : Int) (d : Dt) : Option ((Int × Int × Int × Dt) ⊕ ((Int × Dt))) :=
  if x2 < x3 then some (Sum.inr (x2, d)) else lt_ (iand x3 (w32 (-x3))) (fun v20_ => ck ((0 : Int) ≤ x3 ∧ x3 < 64) (lb (L_Ro_shareOut_l40 x1 x2 x3 v20_ x3 (up2 d 78 x3.toNat 64000000)) (fun q31_ => u3 q31_ (fun v26_ v27_ v28_ d29_ => some (Sum.inl (v26_, v27_, (w32 (v28_ + 1)), d29_))))))
def L_Ro_shareOut_l18 (x1 x2 x3 : Int) (d : Dt) : Option ((Int × Dt)) := lpF (fun q : Int × Int × Int × Dt => L_Ro_shareOut_y18 q.1 q.2.1 q.2.2.1 q.2.2.2) FU (x1, x2, x3, d)
def L_Ro_shareOut (p1 : Int) (d : Dt) : Option (Int × Dt) :=
  lt_ (w32 ((ishl 1 (d 71 7)) - 1)) (fun v33_ => lb (L_Ro_shareOut_l18 p1 v33_ 1 (up2 d 78 0 0)) (fun q43_ => u1 q43_ (fun v38_ d39_ => ck ((0 : Int) ≤ v38_ ∧ v38_ < 64) (some ((d39_ 78 v38_.toNat), d39_)))))
set_option maxHeartbeats 4000000 in
theorem ok_Ro_shareOut_b107 {p : Program} {l : Launch} {e : Env} {s : State} {m : MethodId} {args : Array Value} {below : List Frame} {meth : Method} {c : Code} {D : va_G} {cA : Nat → ClassId} {ad : Nat → Nat} {A : Nat → Prop} (C : Cx p s m args c prog_10_method_10_code 7 "PollBooks$Roads" D cA ad 0 A) {Q : State → Prop} {o : (Int × Int × Int × Int × Int × Dt) ⊕ ((Int × Int × Int × Dt))} (x1 x2 x3 x4 x5 : Int) (d : Dt) (hx1 : c32 x1) (hx2 : c32 x2) (hx3 : c32 x3) (hx4 : c32 x4) (hx5 : c32 x5) (h : L_Ro_shareOut_b107 x1 x2 x3 x4 x5 d = some o) (kb : ∀ (y0 y1 y2 y3 y4 : Int) (e' : Dt), o = .inl (y0, y1, y2, y3, y4, e') → c32 y0 → c32 y1 → c32 y2 → c32 y3 → c32 y4 → G p l e rm_Ro_shareOut s m args below meth c 0 0 Q 7 D cA ad 0 A 40 [(2, 71), (0, y0), (0, y1), (0, y2), (0, y3), (0, y4), (9, 0)] [] e') (k0 : ∀ (y0 y1 y2 : Int) (e' : Dt), o = .inr (y0, y1, y2, e') → c32 y0 → c32 y1 → c32 y2 → G p l e rm_Ro_shareOut s m args below meth c 0 0 Q 7 D cA ad 0 A 118 [(2, 71), (0, y0), (0, y1), (0, y2), (9, 0), (9, 0), (9, 0)] [] e') : G p l e rm_Ro_shareOut s m args below meth c 0 0 Q 7 D cA ad 0 A 107 [(2, 71), (0, x1), (0, x2), (0, x3), (0, x4), (0, x5), (9, 0)] [] d := by
  unfold L_Ro_shareOut_b107 at h
  refine g_iload C 5 rfl (by decide +kernel) ?_
  refine g_iconst C 1 (cK rfl) (by decide +kernel) ?_
  refine g_isub C (by decide +kernel) ?_
  refine g_iload_n C 3 rfl (by decide +kernel) ?_
  refine g_iand C (by decide +kernel) ?_
  obtain ⟨v1_, ev2_, h⟩ := lt_some h
  refine g_val ev2_.symm ?_
  have hv3_ : c32 v1_ := by rw [ev2_]; exact (i_c _)
  refine s_istore C 5 (lo' := [(2, 71), (0, x1), (0, x2), (0, x3), (0, x4), (0, v1_), (9, 0)]) (by decide) (s1k (s1k (s1k (s1k (s1n (by decide) s1z))))) (by decide +kernel) ?_
  refine g_goto C 40 (off := (-75)) (by decide +kernel) (by decide) ?_
  refine g_sub (lo2 := [(2, 71), (0, x1), (0, x2), (0, x3), (0, x4), (0, v1_), (9, 0)]) (lsb_v (lsb_v (lsb_v (lsb_v (lsb_v (lsb_v (lsb_c lsb_e))))))) ?_
  obtain rfl := Option.some.inj h
  exact kb x1 x2 x3 x4 v1_ d rfl hx1 hx2 hx3 hx4 hv3_
set_option maxHeartbeats 4000000 in
theorem ok_Ro_shareOut_y40 {p : Program} {l : Launch} {e : Env} {s : State} {m : MethodId} {args : Array Value} {below : List Frame} {meth : Method} {c : Code} {D : va_G} {cA : Nat → ClassId} {ad : Nat → Nat} {A : Nat → Prop} (C : Cx p s m args c prog_10_method_10_code 7 "PollBooks$Roads" D cA ad 0 A) {Q : State → Prop} {o : (Int × Int × Int × Int × Int × Dt) ⊕ ((Int × Int × Int × Dt))} (x1 x2 x3 x4 x5 : Int) (d : Dt) (hx1 : c32 x1) (hx2 : c32 x2) (hx3 : c32 x3) (hx4 : c32 x4) (hx5 : c32 x5) (h : L_Ro_shareOut_y40 x1 x2 x3 x4 x5 d = some o) (kb : ∀ (y0 y1 y2 y3 y4 : Int) (e' : Dt), o = .inl (y0, y1, y2, y3, y4, e') → c32 y0 → c32 y1 → c32 y2 → c32 y3 → c32 y4 → G p l e rm_Ro_shareOut s m args below meth c 0 0 Q 7 D cA ad 0 A 40 [(2, 71), (0, y0), (0, y1), (0, y2), (0, y3), (0, y4), (9, 0)] [] e') (k0 : ∀ (y0 y1 y2 : Int) (e' : Dt), o = .inr (y0, y1, y2, e') → c32 y0 → c32 y1 → c32 y2 → G p l e rm_Ro_shareOut s m args below meth c 0 0 Q 7 D cA ad 0 A 118 [(2, 71), (0, y0), (0, y1), (0, y2), (9, 0), (9, 0), (9, 0)] [] e') : G p l e rm_Ro_shareOut s m args below meth c 0 0 Q 7 D cA ad 0 A 40 [(2, 71), (0, x1), (0, x2), (0, x3), (0, x4), (0, x5), (9, 0)] [] d := by
  unfold L_Ro_shareOut_y40 at h
  refine g_iload C 5 rfl (by decide +kernel) ?_
  refine g_if_le C (off := 76) (tgt := 118) hx5 (by decide +kernel) (by decide) (fun hc4_ => ?_) (fun hc4_ => ?_)
  · replace h := ite_t hc4_ h
    refine g_iload C 5 rfl (by decide +kernel) ?_
    refine g_iload C 4 rfl (by decide +kernel) ?_
    refine g_iand C (by decide +kernel) ?_
    refine g_if_eq C (off := 57) (tgt := 107) (i_c _) (by decide +kernel) (by decide) (fun hc5_ => ?_) (fun hc5_ => ?_)
    · replace h := ite_t hc5_ h
      refine g_sub (lo2 := [(2, 71), (0, x1), (0, x2), (0, x3), (0, x4), (0, x5), (9, 0)]) (lsb_v (lsb_v (lsb_v (lsb_v (lsb_v (lsb_v (lsb_c lsb_e))))))) ?_
      exact ok_Ro_shareOut_b107 C x1 x2 x3 x4 x5 d hx1 hx2 hx3 hx4 hx5 h kb k0
    · replace h := ite_f hc5_ h
      refine g_aload_n C 0 rfl (by decide +kernel) ?_
      refine g_getR C cl8 71 3 75 rfl cd_A71 ⟨by decide, rfl, by decide⟩ rfl rfl (nA (by decide)) (ix := 21) lk_442 (by decide +kernel) ?_
      refine g_iload C 5 rfl (by decide +kernel) ?_
      obtain ⟨hb6_, h⟩ := ck_some h
      refine g_iald C 75 hx5 rfl cd_A75 (nA (by decide)) hb6_ (by decide +kernel) (fun hc7_ => ?_)
      refine g_iload_n C 1 rfl (by decide +kernel) ?_
      refine g_icmp_gt C (off := 46) (tgt := 107) hc7_ hx1 (by decide +kernel) (by decide) (fun hc8_ => ?_) (fun hc8_ => ?_)
      · replace h := ite_t hc8_ h
        refine g_sub (lo2 := [(2, 71), (0, x1), (0, x2), (0, x3), (0, x4), (0, x5), (9, 0)]) (lsb_v (lsb_v (lsb_v (lsb_v (lsb_v (lsb_v (lsb_c lsb_e))))))) ?_
        exact ok_Ro_shareOut_b107 C x1 x2 x3 x4 x5 d hx1 hx2 hx3 hx4 hx5 h kb k0
      · replace h := ite_f hc8_ h
        refine g_aload_n C 0 rfl (by decide +kernel) ?_
        refine g_getR C cl8 71 5 77 rfl cd_A71 ⟨by decide, rfl, by decide⟩ rfl rfl (nA (by decide)) (ix := 27) lk_444 (by decide +kernel) ?_
        refine g_iload C 5 rfl (by decide +kernel) ?_
        obtain ⟨hb9_, h⟩ := ck_some h
        refine g_iald C 77 hx5 rfl cd_A77 (nA (by decide)) hb9_ (by decide +kernel) (fun hc10_ => ?_)
        refine g_bipush C 64 (by decide) (by decide +kernel) ?_
        refine g_imul C (by decide +kernel) ?_
        refine g_iconst C 1 (cK rfl) (by decide +kernel) ?_
        refine g_iadd C (by decide +kernel) ?_
        refine g_aload_n C 0 rfl (by decide +kernel) ?_
        refine g_getR C cl8 71 6 78 rfl cd_A71 ⟨by decide, rfl, by decide⟩ rfl rfl (nA (by decide)) (ix := 30) lk_445 (by decide +kernel) ?_
        refine g_iload_n C 3 rfl (by decide +kernel) ?_
        refine g_iload C 5 rfl (by decide +kernel) ?_
        refine g_iconst C (-1) (cK rfl) (by decide +kernel) ?_
        refine g_ixor C (by decide +kernel) ?_
        refine g_iand C (by decide +kernel) ?_
        obtain ⟨hb11_, h⟩ := ck_some h
        refine g_iald C 78 (i_c _) rfl cd_A78 (nA (by decide)) hb11_ (by decide +kernel) (fun hc12_ => ?_)
        refine g_iadd C (by decide +kernel) ?_
        obtain ⟨v13_, ev14_, h⟩ := lt_some h
        refine g_val ev14_.symm ?_
        have hv15_ : c32 v13_ := by rw [ev14_]; exact (w32_c _)
        refine s_istore C 6 (lo' := [(2, 71), (0, x1), (0, x2), (0, x3), (0, x4), (0, x5), (0, v13_)]) (by decide) (s1k (s1k (s1k (s1k (s1k (s1n (by decide) s1z)))))) (by decide +kernel) ?_
        refine g_aload_n C 0 rfl (by decide +kernel) ?_
        refine g_getR C cl8 71 6 78 rfl cd_A71 ⟨by decide, rfl, by decide⟩ rfl rfl (nA (by decide)) (ix := 30) lk_445 (by decide +kernel) ?_
        refine g_iload_n C 3 rfl (by decide +kernel) ?_
        refine g_aload_n C 0 rfl (by decide +kernel) ?_
        refine g_getR C cl8 71 6 78 rfl cd_A71 ⟨by decide, rfl, by decide⟩ rfl rfl (nA (by decide)) (ix := 30) lk_445 (by decide +kernel) ?_
        refine g_iload_n C 3 rfl (by decide +kernel) ?_
        obtain ⟨hb16_, h⟩ := ck_some h
        refine g_iald C 78 hx3 rfl cd_A78 (nA (by decide)) hb16_ (by decide +kernel) (fun hc17_ => ?_)
        refine g_iload C 6 rfl (by decide +kernel) ?_
        refine g_mmin C hc17_ hv15_ (ix := 65) lk_1378 lk_601 lk_16 lk_602 ⟨Nat.le_of_ble_eq_true rfl, Nat.le_of_ble_eq_true rfl, Nat.zero_le _, Nat.zero_le _⟩ (Nat.le_of_ble_eq_true rfl) (by decide +kernel) ?_
        obtain ⟨hb18_, h⟩ := ck_some h
        refine g_iast C 78 (jmin_c hc17_ hv15_) hx3 rfl cd_A78 (nA (by decide)) hb18_ (by decide +kernel) ?_
        refine g_sub (lo2 := [(2, 71), (0, x1), (0, x2), (0, x3), (0, x4), (0, x5), (9, 0)]) (lsb_v (lsb_v (lsb_v (lsb_v (lsb_v (lsb_v (lsb_c lsb_e))))))) ?_
        exact ok_Ro_shareOut_b107 C x1 x2 x3 x4 x5 (up2 d 78 x3.toNat (jmin (d 78 x3.toNat) v13_)) hx1 hx2 hx3 hx4 hx5 h kb k0
  · replace h := ite_f hc4_ h
    refine g_sub (lo2 := [(2, 71), (0, x1), (0, x2), (0, x3), (9, 0), (9, 0), (9, 0)]) (lsb_v (lsb_v (lsb_v (lsb_v (lsb_c (lsb_c (lsb_c lsb_e))))))) ?_
    obtain rfl := Option.some.inj h
    exact k0 x1 x2 x3 d rfl hx1 hx2 hx3
set_option maxHeartbeats 4000000 in
theorem ok_Ro_shareOut_n40 {p : Program} {l : Launch} {e : Env} {s : State} {m : MethodId} {args : Array Value} {below : List Frame} {meth : Method} {c : Code} {D : va_G} {cA : Nat → ClassId} {ad : Nat → Nat} {A : Nat → Prop} (C : Cx p s m args c prog_10_method_10_code 7 "PollBooks$Roads" D cA ad 0 A) {Q : State → Prop} {x : (Int × Int × Int × Dt)} : ∀ (n : Nat) (x1 x2 x3 x4 x5 : Int) (d : Dt), c32 x1 → c32 x2 → c32 x3 → c32 x4 → c32 x5 → lpF (fun q : Int × Int × Int × Int × Int × Dt => L_Ro_shareOut_y40 q.1 q.2.1 q.2.2.1 q.2.2.2.1 q.2.2.2.2.1 q.2.2.2.2.2) n (x1, x2, x3, x4, x5, d) = some x → (∀ (y0 y1 y2 : Int) (e' : Dt), x = (y0, y1, y2, e') → c32 y0 → c32 y1 → c32 y2 → G p l e rm_Ro_shareOut s m args below meth c 0 0 Q 7 D cA ad 0 A 118 [(2, 71), (0, y0), (0, y1), (0, y2), (9, 0), (9, 0), (9, 0)] [] e') → G p l e rm_Ro_shareOut s m args below meth c 0 0 Q 7 D cA ad 0 A 40 [(2, 71), (0, x1), (0, x2), (0, x3), (0, x4), (0, x5), (9, 0)] [] d := by
  intro n
  induction n with
  | zero => intro x1 x2 x3 x4 x5 d g0 g1 g2 g3 g4 h k0; cases h
  | succ n ih =>
    intro x1 x2 x3 x4 x5 d g0 g1 g2 g3 g4 h k0
    rcases lpF_some h with h | ⟨⟨v0_, v1_, v2_, v3_, v4_, e0_⟩, h1, h⟩
    · exact ok_Ro_shareOut_y40 C x1 x2 x3 x4 x5 d g0 g1 g2 g3 g4 h (fun z0_ z1_ z2_ z3_ z4_ e1_ eq w0_ w1_ w2_ w3_ w4_ => by cases eq) (fun z0_ z1_ z2_ e1_ eq w0_ w1_ w2_ => k0 _ _ _ _ (by cases eq; rfl) w0_ w1_ w2_)
    · exact ok_Ro_shareOut_y40 C x1 x2 x3 x4 x5 d g0 g1 g2 g3 g4 h1 (fun z0_ z1_ z2_ z3_ z4_ e1_ eq w0_ w1_ w2_ w3_ w4_ => by cases eq; exact ih _ _ _ _ _ _ w0_ w1_ w2_ w3_ w4_ h k0) (fun z0_ z1_ z2_ e1_ eq w0_ w1_ w2_ => by cases eq)
set_option maxHeartbeats 4000000 in
theorem ok_Ro_shareOut_l40 {p : Program} {l : Launch} {e : Env} {s : State} {m : MethodId} {args : Array Value} {below : List Frame} {meth : Method} {c : Code} {D : va_G} {cA : Nat → ClassId} {ad : Nat → Nat} {A : Nat → Prop} (C : Cx p s m args c prog_10_method_10_code 7 "PollBooks$Roads" D cA ad 0 A) {Q : State → Prop} {x : (Int × Int × Int × Dt)} (x1 x2 x3 x4 x5 : Int) (d : Dt) (hx1 : c32 x1) (hx2 : c32 x2) (hx3 : c32 x3) (hx4 : c32 x4) (hx5 : c32 x5) (h : L_Ro_shareOut_l40 x1 x2 x3 x4 x5 d = some x) (k0 : ∀ (y0 y1 y2 : Int) (e' : Dt), x = (y0, y1, y2, e') → c32 y0 → c32 y1 → c32 y2 → G p l e rm_Ro_shareOut s m args below meth c 0 0 Q 7 D cA ad 0 A 118 [(2, 71), (0, y0), (0, y1), (0, y2), (9, 0), (9, 0), (9, 0)] [] e') : G p l e rm_Ro_shareOut s m args below meth c 0 0 Q 7 D cA ad 0 A 40 [(2, 71), (0, x1), (0, x2), (0, x3), (0, x4), (0, x5), (9, 0)] [] d :=
  ok_Ro_shareOut_n40 C FU x1 x2 x3 x4 x5 d hx1 hx2 hx3 hx4 hx5 h k0
set_option maxHeartbeats 4000000 in
theorem ok_Ro_shareOut_y18 {p : Program} {l : Launch} {e : Env} {s : State} {m : MethodId} {args : Array Value} {below : List Frame} {meth : Method} {c : Code} {D : va_G} {cA : Nat → ClassId} {ad : Nat → Nat} {A : Nat → Prop} (C : Cx p s m args c prog_10_method_10_code 7 "PollBooks$Roads" D cA ad 0 A) {Q : State → Prop} {o : (Int × Int × Int × Dt) ⊕ ((Int × Dt))} (x1 x2 x3 : Int) (d : Dt) (hx1 : c32 x1) (hx2 : c32 x2) (hx3 : c32 x3) (h : L_Ro_shareOut_y18 x1 x2 x3 d = some o) (kb : ∀ (y0 y1 y2 : Int) (e' : Dt), o = .inl (y0, y1, y2, e') → c32 y0 → c32 y1 → c32 y2 → G p l e rm_Ro_shareOut s m args below meth c 0 0 Q 7 D cA ad 0 A 18 [(2, 71), (0, y0), (0, y1), (0, y2), (9, 0), (9, 0), (9, 0)] [] e') (k0 : ∀ (y0 : Int) (e' : Dt), o = .inr (y0, e') → c32 y0 → G p l e rm_Ro_shareOut s m args below meth c 0 0 Q 7 D cA ad 0 A 124 [(2, 71), (9, 0), (0, y0), (9, 0), (9, 0), (9, 0), (9, 0)] [] e') : G p l e rm_Ro_shareOut s m args below meth c 0 0 Q 7 D cA ad 0 A 18 [(2, 71), (0, x1), (0, x2), (0, x3), (9, 0), (9, 0), (9, 0)] [] d := by
  unfold L_Ro_shareOut_y18 at h
  refine g_iload_n C 3 rfl (by decide +kernel) ?_
  refine g_iload_n C 2 rfl (by decide +kernel) ?_
  refine g_icmp_gt C (off := 104) (tgt := 124) hx3 hx2 (by decide +kernel) (by decide) (fun hc19_ => ?_) (fun hc19_ => ?_)
  · replace h := ite_t hc19_ h
    refine g_sub (lo2 := [(2, 71), (9, 0), (0, x2), (9, 0), (9, 0), (9, 0), (9, 0)]) (lsb_v (lsb_c (lsb_v (lsb_c (lsb_c (lsb_c (lsb_c lsb_e))))))) ?_
    obtain rfl := Option.some.inj h
    exact k0 x2 d rfl hx2
  · replace h := ite_f hc19_ h
    refine g_iload_n C 3 rfl (by decide +kernel) ?_
    refine g_iload_n C 3 rfl (by decide +kernel) ?_
    refine g_ineg C (by decide +kernel) ?_
    refine g_iand C (by decide +kernel) ?_
    obtain ⟨v20_, ev21_, h⟩ := lt_some h
    refine g_val ev21_.symm ?_
    have hv22_ : c32 v20_ := by rw [ev21_]; exact (i_c _)
    refine s_istore C 4 (lo' := [(2, 71), (0, x1), (0, x2), (0, x3), (0, v20_), (9, 0), (9, 0)]) (by decide) (s1k (s1k (s1k (s1n (by decide) s1z)))) (by decide +kernel) ?_
    refine g_aload_n C 0 rfl (by decide +kernel) ?_
    refine g_getR C cl8 71 6 78 rfl cd_A71 ⟨by decide, rfl, by decide⟩ rfl rfl (nA (by decide)) (ix := 30) lk_445 (by decide +kernel) ?_
    refine g_iload_n C 3 rfl (by decide +kernel) ?_
    refine g_ldc C (ix := 71) (v := 64000000) lk_1387 (by decide +kernel) ?_
    obtain ⟨hb23_, h⟩ := ck_some h
    refine g_iast C 78 (cK rfl) hx3 rfl cd_A78 (nA (by decide)) hb23_ (by decide +kernel) ?_
    refine g_iload_n C 3 rfl (by decide +kernel) ?_
    refine s_istore C 5 (lo' := [(2, 71), (0, x1), (0, x2), (0, x3), (0, v20_), (0, x3), (9, 0)]) (by decide) (s1k (s1k (s1k (s1k (s1n (by decide) s1z))))) (by decide +kernel) ?_
    refine g_sub (lo2 := [(2, 71), (0, x1), (0, x2), (0, x3), (0, v20_), (0, x3), (9, 0)]) (lsb_v (lsb_v (lsb_v (lsb_v (lsb_v (lsb_v (lsb_c lsb_e))))))) ?_
    obtain ⟨x24_, hx25_, h⟩ := lb_some h
    refine ok_Ro_shareOut_l40 C x1 x2 x3 v20_ x3 (up2 d 78 x3.toNat 64000000) hx1 hx2 hx3 hv22_ hx3 hx25_ (fun v26_ v27_ v28_ d29_ eq30_ hv26_ hv27_ hv28_ => ?_)
    subst eq30_
    replace h := u3_e h
    refine s_iinc C 3 1 (lo' := [(2, 71), (0, v26_), (0, v27_), (0, (w32 (v28_ + 1))), (9, 0), (9, 0), (9, 0)]) rfl (by decide) (s1k (s1k (s1n (by decide) s1z))) (by decide +kernel) ?_
    refine g_goto C 18 (off := (-103)) (by decide +kernel) (by decide) ?_
    refine g_sub (lo2 := [(2, 71), (0, v26_), (0, v27_), (0, (w32 (v28_ + 1))), (9, 0), (9, 0), (9, 0)]) (lsb_v (lsb_v (lsb_v (lsb_v (lsb_c (lsb_c (lsb_c lsb_e))))))) ?_
    obtain rfl := Option.some.inj h
    exact kb v26_ v27_ (w32 (v28_ + 1)) d29_ rfl hv26_ hv27_ (w32_c _)
set_option maxHeartbeats 4000000 in
theorem ok_Ro_shareOut_n18 {p : Program} {l : Launch} {e : Env} {s : State} {m : MethodId} {args : Array Value} {below : List Frame} {meth : Method} {c : Code} {D : va_G} {cA : Nat → ClassId} {ad : Nat → Nat} {A : Nat → Prop} (C : Cx p s m args c prog_10_method_10_code 7 "PollBooks$Roads" D cA ad 0 A) {Q : State → Prop} {x : (Int × Dt)} : ∀ (n : Nat) (x1 x2 x3 : Int) (d : Dt), c32 x1 → c32 x2 → c32 x3 → lpF (fun q : Int × Int × Int × Dt => L_Ro_shareOut_y18 q.1 q.2.1 q.2.2.1 q.2.2.2) n (x1, x2, x3, d) = some x → (∀ (y0 : Int) (e' : Dt), x = (y0, e') → c32 y0 → G p l e rm_Ro_shareOut s m args below meth c 0 0 Q 7 D cA ad 0 A 124 [(2, 71), (9, 0), (0, y0), (9, 0), (9, 0), (9, 0), (9, 0)] [] e') → G p l e rm_Ro_shareOut s m args below meth c 0 0 Q 7 D cA ad 0 A 18 [(2, 71), (0, x1), (0, x2), (0, x3), (9, 0), (9, 0), (9, 0)] [] d := by
  intro n
  induction n with
  | zero => intro x1 x2 x3 d g0 g1 g2 h k0; cases h
  | succ n ih =>
    intro x1 x2 x3 d g0 g1 g2 h k0
    rcases lpF_some h with h | ⟨⟨v0_, v1_, v2_, e0_⟩, h1, h⟩
    · exact ok_Ro_shareOut_y18 C x1 x2 x3 d g0 g1 g2 h (fun z0_ z1_ z2_ e1_ eq w0_ w1_ w2_ => by cases eq) (fun z0_ e1_ eq w0_ => k0 _ _ (by cases eq; rfl) w0_)
    · exact ok_Ro_shareOut_y18 C x1 x2 x3 d g0 g1 g2 h1 (fun z0_ z1_ z2_ e1_ eq w0_ w1_ w2_ => by cases eq; exact ih _ _ _ _ w0_ w1_ w2_ h k0) (fun z0_ e1_ eq w0_ => by cases eq)
set_option maxHeartbeats 4000000 in
theorem ok_Ro_shareOut_l18 {p : Program} {l : Launch} {e : Env} {s : State} {m : MethodId} {args : Array Value} {below : List Frame} {meth : Method} {c : Code} {D : va_G} {cA : Nat → ClassId} {ad : Nat → Nat} {A : Nat → Prop} (C : Cx p s m args c prog_10_method_10_code 7 "PollBooks$Roads" D cA ad 0 A) {Q : State → Prop} {x : (Int × Dt)} (x1 x2 x3 : Int) (d : Dt) (hx1 : c32 x1) (hx2 : c32 x2) (hx3 : c32 x3) (h : L_Ro_shareOut_l18 x1 x2 x3 d = some x) (k0 : ∀ (y0 : Int) (e' : Dt), x = (y0, e') → c32 y0 → G p l e rm_Ro_shareOut s m args below meth c 0 0 Q 7 D cA ad 0 A 124 [(2, 71), (9, 0), (0, y0), (9, 0), (9, 0), (9, 0), (9, 0)] [] e') : G p l e rm_Ro_shareOut s m args below meth c 0 0 Q 7 D cA ad 0 A 18 [(2, 71), (0, x1), (0, x2), (0, x3), (9, 0), (9, 0), (9, 0)] [] d :=
  ok_Ro_shareOut_n18 C FU x1 x2 x3 d hx1 hx2 hx3 h k0
set_option maxHeartbeats 4000000 in
theorem ok_Ro_shareOut {l : Launch} {r : Int} {d' : Dt} (p1 : Int) (d : Dt) (hp1 : c32 p1) (h : L_Ro_shareOut p1 d = some (r, d')) : MC l y_Ro_shareOut prog_10_method_10_code 7 (some .int) rm_Ro_shareOut 0 [(2, 71), (0, p1)] d (some (0, r)) d' := by
  refine MC.of (by decide) (Nat.le_of_ble_eq_true rfl) ?_
  intro p e s m args below meth c D cA ad A C hlk hr
  replace C : Cx p s m args c prog_10_method_10_code 7 "PollBooks$Roads" D cA ad 0 A := C
  show G p l e rm_Ro_shareOut s m args below meth c 0 0 (MQ below (fun _ => QC D cA ad 0 A (some .int) (some (0, r)) d') args s 0 0 A) 7 D cA ad 0 A 0 [(2, 71), (0, p1)] [] d
  refine g_sub (lo2 := [(2, 71), (0, p1), (9, 0), (9, 0), (9, 0), (9, 0), (9, 0)]) (lsb_v (lsb_v (lsb_n (lsb_n (lsb_n (lsb_n (lsb_n lsb_e))))))) ?_
  unfold L_Ro_shareOut at h
  refine g_aload_n C 0 rfl (by decide +kernel) ?_
  refine g_getR C cl8 71 6 78 rfl cd_A71 ⟨by decide, rfl, by decide⟩ rfl rfl (nA (by decide)) (ix := 30) lk_445 (by decide +kernel) ?_
  refine g_iconst C 0 (cK rfl) (by decide +kernel) ?_
  refine g_iconst C 0 (cK rfl) (by decide +kernel) ?_
  refine g_iast C 78 (c32_cb (Or.inl rfl)) (c32_cb (Or.inl rfl)) rfl cd_A78 (nA (by decide)) (by decide) (by decide +kernel) ?_
  refine g_iconst C 1 (cK rfl) (by decide +kernel) ?_
  refine g_aload_n C 0 rfl (by decide +kernel) ?_
  refine g_getI C cl8 71 7 rfl cd_A71 ⟨by decide, rfl, by decide⟩ rfl (nA (by decide)) (ix := 43) lk_446 (by decide +kernel) (fun hc32_ => ?_)
  refine g_val (y := (d 71 7)) rfl ?_
  replace hc32_ : c32 (d 71 7) := hc32_
  refine g_ishl C (by decide +kernel) ?_
  refine g_iconst C 1 (cK rfl) (by decide +kernel) ?_
  refine g_isub C (by decide +kernel) ?_
  obtain ⟨v33_, ev34_, h⟩ := lt_some h
  refine g_val ev34_.symm ?_
  have hv35_ : c32 v33_ := by rw [ev34_]; exact (w32_c _)
  refine s_istore_n C 2 (lo' := [(2, 71), (0, p1), (0, v33_), (9, 0), (9, 0), (9, 0), (9, 0)]) (by decide) (s1k (s1n (by decide) s1z)) (by decide +kernel) ?_
  refine g_iconst C 1 (cK rfl) (by decide +kernel) ?_
  refine s_istore_n C 3 (lo' := [(2, 71), (0, p1), (0, v33_), (0, 1), (9, 0), (9, 0), (9, 0)]) (by decide) (s1k (s1k (s1n (by decide) s1z))) (by decide +kernel) ?_
  refine g_sub (lo2 := [(2, 71), (0, p1), (0, v33_), (0, 1), (9, 0), (9, 0), (9, 0)]) (lsb_v (lsb_v (lsb_v (lsb_v (lsb_c (lsb_c (lsb_c lsb_e))))))) ?_
  obtain ⟨x36_, hx37_, h⟩ := lb_some h
  refine ok_Ro_shareOut_l18 C p1 v33_ 1 (up2 d 78 0 0) hp1 hv35_ (c32_cb (Or.inr rfl)) hx37_ (fun v38_ d39_ eq40_ hv38_ => ?_)
  subst eq40_
  replace h := u1_e h
  refine g_aload_n C 0 rfl (by decide +kernel) ?_
  refine g_getR C cl8 71 6 78 rfl cd_A71 ⟨by decide, rfl, by decide⟩ rfl rfl (nA (by decide)) (ix := 30) lk_445 (by decide +kernel) ?_
  refine g_iload_n C 2 rfl (by decide +kernel) ?_
  obtain ⟨hb41_, h⟩ := ck_some h
  refine g_iald C 78 hv38_ rfl cd_A78 (nA (by decide)) hb41_ (by decide +kernel) (fun hc42_ => ?_)
  obtain ⟨rfl, rfl⟩ := ret_inj h
  exact g_iret C hc42_ hlk hr (by decide +kernel)
/-! PollBooks$Roads.send(II)I -/
def y_Ro_send : MethodName := ⟨"PollBooks$Roads", "send", "(II)I"⟩
def rm_Ro_send : Room := { frames := 3, cells := 0, slots := 0, locals := 71 }
theorem mw_Ro_send : MW y_Ro_send prog_10_method_5_code 7 (some .int) 2 := ⟨lk_1364, lk_13, by decide +kernel⟩
def L_Ro_send_b131 (x1 x2 x3 x4 x5 : Int) (d : Dt) : Option ((Int × Int × Int × Int × Int × Dt) ⊕ ((Int × Int × Int × Int × Dt))) :=
  some (Sum.inl (x1, x2, x3, x4, (w32 (x5 + 1)), d))
def L_Ro_send_b48 (x1 x2 x3 x4 x5 s0 : Int) (d : Dt) : Option ((Int × Int × Int × Int × Int × Dt) ⊕ ((Int × Int × Int × Int × Dt))) :=
  ck ((0 : Int) ≤ (w32 ((w32 (x1 * 7)) + x5)) ∧ (w32 ((w32 (x1 * 7)) + x5)) < 49) (lt_ (w32 (x3 + (w32 ((w32 (s0 * 2)) * (d 72 ((w32 ((w32 (x1 * 7)) + x5))).toNat))))) (fun v3_ => lt_ (w32 (x4 + s0)) (fun v6_ => ck ((0 : Int) ≤ x5 ∧ x5 < 7) (ck ((0 : Int) ≤ x5 ∧ x5 < 7) (ck ((0 : Int) ≤ x5 ∧ x5 < 7) (if 0 < ((up2 d 73 x5.toNat (w32 ((d 73 x5.toNat) - (w32 (s0 * x2))))) 73 x5.toNat) then if (d 71 7) < 6 then ck ((0 : Int) ≤ (d 71 7) ∧ (d 71 7) < 6) (L_Ro_send_b131 x1 x2 v3_ v6_ x5 (up2 (up2 (up2 d 73 x5.toNat (w32 ((d 73 x5.toNat) - (w32 (s0 * x2))))) 74 ((d 71 7)).toNat x5) 71 7 (w32 ((d 71 7) + 1)))) else L_Ro_send_b131 x1 x2 v3_ v6_ x5 (up2 d 73 x5.toNat (w32 ((d 73 x5.toNat) - (w32 (s0 * x2))))) else L_Ro_send_b131 x1 x2 v3_ v6_ x5 (up2 d 73 x5.toNat (w32 ((d 73 x5.toNat) - (w32 (s0 * x2)))))))))))
def L_Ro_send_y13 (x1 x2 x3 x4 x5 : Int) (d : Dt) : Option ((Int × Int × Int × Int × Int × Dt) ⊕ ((Int × Int × Int × Int × Dt))) :=
  if x5 < 7 then ck ((0 : Int) ≤ x5 ∧ x5 < 7) (if x2 < (d 73 x5.toNat) then if 0 < x2 then ck ((0 : Int) ≤ x5 ∧ x5 < 7) (ck (¬ x2 = 0) (L_Ro_send_b48 x1 x2 x3 x4 x5 (idiv (d 73 x5.toNat) x2) d)) else L_Ro_send_b48 x1 x2 x3 x4 x5 0 d else L_Ro_send_b48 x1 x2 x3 x4 x5 0 d) else some (Sum.inr (x1, x2, x3, x4, d))
def L_Ro_send_l13 (x1 x2 x3 x4 x5 : Int) (d : Dt) : Option ((Int × Int × Int × Int × Dt)) := lpF (fun q : Int × Int × Int × Int × Int × Dt => L_Ro_send_y13 q.1 q.2.1 q.2.2.1 q.2.2.2.1 q.2.2.2.2.1 q.2.2.2.2.2) FU (x1, x2, x3, x4, x5, d)
def L_Ro_send (p1 p2 : Int) (d : Dt) : Option (Int × Dt) :=
  lb (L_Ro_send_l13 p1 p2 0 0 0 (up2 d 71 7 0)) (fun q52_ => u4 q52_ (fun v30_ v31_ v32_ v33_ d34_ => bd (L_Ro_fillLoads d34_) (fun r37_ d36_ => bd (L_Ro_fillOutward v30_ d36_) (fun r41_ d40_ => bd (L_Ro_fillTours v30_ d40_) (fun r45_ d44_ => bd (L_Ro_shareOut v31_ d44_) (fun r49_ d48_ => some ((w32 (v32_ + (idiv r49_ 64))), (up2 d48_ 71 8 (w32 (v33_ + (irem r49_ 64)))))))))))
set_option maxHeartbeats 4000000 in
theorem ok_Ro_send_b131 {p : Program} {l : Launch} {e : Env} {s : State} {m : MethodId} {args : Array Value} {below : List Frame} {meth : Method} {c : Code} {D : va_G} {cA : Nat → ClassId} {ad : Nat → Nat} {A : Nat → Prop} (C : Cx p s m args c prog_10_method_5_code 7 "PollBooks$Roads" D cA ad 0 A) {Q : State → Prop} {o : (Int × Int × Int × Int × Int × Dt) ⊕ ((Int × Int × Int × Int × Dt))} (x1 x2 x3 x4 x5 : Int) (d : Dt) (hx1 : c32 x1) (hx2 : c32 x2) (hx3 : c32 x3) (hx4 : c32 x4) (hx5 : c32 x5) (h : L_Ro_send_b131 x1 x2 x3 x4 x5 d = some o) (kb : ∀ (y0 y1 y2 y3 y4 : Int) (e' : Dt), o = .inl (y0, y1, y2, y3, y4, e') → c32 y0 → c32 y1 → c32 y2 → c32 y3 → c32 y4 → G p l e rm_Ro_send s m args below meth c 0 0 Q 7 D cA ad 0 A 13 [(2, 71), (0, y0), (0, y1), (0, y2), (0, y3), (0, y4), (9, 0)] [] e') (k0 : ∀ (y0 y1 y2 y3 : Int) (e' : Dt), o = .inr (y0, y1, y2, y3, e') → c32 y0 → c32 y1 → c32 y2 → c32 y3 → G p l e rm_Ro_send s m args below meth c 0 0 Q 7 D cA ad 0 A 137 [(2, 71), (0, y0), (0, y1), (0, y2), (0, y3), (9, 0), (9, 0)] [] e') : G p l e rm_Ro_send s m args below meth c 0 0 Q 7 D cA ad 0 A 131 [(2, 71), (0, x1), (0, x2), (0, x3), (0, x4), (0, x5), (9, 0)] [] d := by
  unfold L_Ro_send_b131 at h
  refine s_iinc C 5 1 (lo' := [(2, 71), (0, x1), (0, x2), (0, x3), (0, x4), (0, (w32 (x5 + 1))), (9, 0)]) rfl (by decide) (s1k (s1k (s1k (s1k (s1n (by decide) s1z))))) (by decide +kernel) ?_
  refine g_goto C 13 (off := (-121)) (by decide +kernel) (by decide) ?_
  refine g_sub (lo2 := [(2, 71), (0, x1), (0, x2), (0, x3), (0, x4), (0, (w32 (x5 + 1))), (9, 0)]) (lsb_v (lsb_v (lsb_v (lsb_v (lsb_v (lsb_v (lsb_c lsb_e))))))) ?_
  obtain rfl := Option.some.inj h
  exact kb x1 x2 x3 x4 (w32 (x5 + 1)) d rfl hx1 hx2 hx3 hx4 (w32_c _)
set_option maxHeartbeats 4000000 in
theorem ok_Ro_send_b48 {p : Program} {l : Launch} {e : Env} {s : State} {m : MethodId} {args : Array Value} {below : List Frame} {meth : Method} {c : Code} {D : va_G} {cA : Nat → ClassId} {ad : Nat → Nat} {A : Nat → Prop} (C : Cx p s m args c prog_10_method_5_code 7 "PollBooks$Roads" D cA ad 0 A) {Q : State → Prop} {o : (Int × Int × Int × Int × Int × Dt) ⊕ ((Int × Int × Int × Int × Dt))} (x1 x2 x3 x4 x5 s0 : Int) (d : Dt) (hx1 : c32 x1) (hx2 : c32 x2) (hx3 : c32 x3) (hx4 : c32 x4) (hx5 : c32 x5) (hs0 : c32 s0) (h : L_Ro_send_b48 x1 x2 x3 x4 x5 s0 d = some o) (kb : ∀ (y0 y1 y2 y3 y4 : Int) (e' : Dt), o = .inl (y0, y1, y2, y3, y4, e') → c32 y0 → c32 y1 → c32 y2 → c32 y3 → c32 y4 → G p l e rm_Ro_send s m args below meth c 0 0 Q 7 D cA ad 0 A 13 [(2, 71), (0, y0), (0, y1), (0, y2), (0, y3), (0, y4), (9, 0)] [] e') (k0 : ∀ (y0 y1 y2 y3 : Int) (e' : Dt), o = .inr (y0, y1, y2, y3, e') → c32 y0 → c32 y1 → c32 y2 → c32 y3 → G p l e rm_Ro_send s m args below meth c 0 0 Q 7 D cA ad 0 A 137 [(2, 71), (0, y0), (0, y1), (0, y2), (0, y3), (9, 0), (9, 0)] [] e') : G p l e rm_Ro_send s m args below meth c 0 0 Q 7 D cA ad 0 A 48 [(2, 71), (0, x1), (0, x2), (0, x3), (0, x4), (0, x5), (9, 0)] [(0, s0)] d := by
  unfold L_Ro_send_b48 at h
  refine s_istore C 6 (lo' := [(2, 71), (0, x1), (0, x2), (0, x3), (0, x4), (0, x5), (0, s0)]) (by decide) (s1k (s1k (s1k (s1k (s1k (s1n (by decide) s1z)))))) (by decide +kernel) ?_
  refine g_iload_n C 3 rfl (by decide +kernel) ?_
  refine g_iload C 6 rfl (by decide +kernel) ?_
  refine g_iconst C 2 (cK rfl) (by decide +kernel) ?_
  refine g_imul C (by decide +kernel) ?_
  refine g_aload_n C 0 rfl (by decide +kernel) ?_
  refine g_getR C cl8 71 0 72 rfl cd_A71 ⟨by decide, rfl, by decide⟩ rfl rfl (nA (by decide)) (ix := 11) lk_439 (by decide +kernel) ?_
  refine g_iload_n C 1 rfl (by decide +kernel) ?_
  refine g_bipush C 7 (by decide) (by decide +kernel) ?_
  refine g_imul C (by decide +kernel) ?_
  refine g_iload C 5 rfl (by decide +kernel) ?_
  refine g_iadd C (by decide +kernel) ?_
  obtain ⟨hb1_, h⟩ := ck_some h
  refine g_iald C 72 (w32_c _) rfl cd_A72 (nA (by decide)) hb1_ (by decide +kernel) (fun hc2_ => ?_)
  refine g_imul C (by decide +kernel) ?_
  refine g_iadd C (by decide +kernel) ?_
  obtain ⟨v3_, ev4_, h⟩ := lt_some h
  refine g_val ev4_.symm ?_
  have hv5_ : c32 v3_ := by rw [ev4_]; exact (w32_c _)
  refine s_istore_n C 3 (lo' := [(2, 71), (0, x1), (0, x2), (0, v3_), (0, x4), (0, x5), (0, s0)]) (by decide) (s1k (s1k (s1n (by decide) s1z))) (by decide +kernel) ?_
  refine g_iload C 4 rfl (by decide +kernel) ?_
  refine g_iload C 6 rfl (by decide +kernel) ?_
  refine g_iadd C (by decide +kernel) ?_
  obtain ⟨v6_, ev7_, h⟩ := lt_some h
  refine g_val ev7_.symm ?_
  have hv8_ : c32 v6_ := by rw [ev7_]; exact (w32_c _)
  refine s_istore C 4 (lo' := [(2, 71), (0, x1), (0, x2), (0, v3_), (0, v6_), (0, x5), (0, s0)]) (by decide) (s1k (s1k (s1k (s1n (by decide) s1z)))) (by decide +kernel) ?_
  refine g_aload_n C 0 rfl (by decide +kernel) ?_
  refine g_getR C cl8 71 1 73 rfl cd_A71 ⟨by decide, rfl, by decide⟩ rfl rfl (nA (by decide)) (ix := 15) lk_440 (by decide +kernel) ?_
  refine g_iload C 5 rfl (by decide +kernel) ?_
  refine g_dup2 C tg0 tg2 (by decide +kernel) ?_
  obtain ⟨hb9_, h⟩ := ck_some h
  refine g_iald C 73 hx5 rfl cd_A73 (nA (by decide)) hb9_ (by decide +kernel) (fun hc10_ => ?_)
  refine g_iload C 6 rfl (by decide +kernel) ?_
  refine g_iload_n C 2 rfl (by decide +kernel) ?_
  refine g_imul C (by decide +kernel) ?_
  refine g_isub C (by decide +kernel) ?_
  obtain ⟨hb11_, h⟩ := ck_some h
  refine g_iast C 73 (w32_c _) hx5 rfl cd_A73 (nA (by decide)) hb11_ (by decide +kernel) ?_
  refine g_aload_n C 0 rfl (by decide +kernel) ?_
  refine g_getR C cl8 71 1 73 rfl cd_A71 ⟨by decide, rfl, by decide⟩ rfl rfl (nA (by decide)) (ix := 15) lk_440 (by decide +kernel) ?_
  refine g_iload C 5 rfl (by decide +kernel) ?_
  obtain ⟨hb12_, h⟩ := ck_some h
  refine g_iald C 73 hx5 rfl cd_A73 (nA (by decide)) hb12_ (by decide +kernel) (fun hc13_ => ?_)
  refine g_if_le C (off := 33) (tgt := 131) hc13_ (by decide +kernel) (by decide) (fun hc14_ => ?_) (fun hc14_ => ?_)
  · replace h := ite_t hc14_ h
    refine g_aload_n C 0 rfl (by decide +kernel) ?_
    refine g_getI C cl8 71 7 rfl cd_A71 ⟨by decide, rfl, by decide⟩ rfl (nA (by decide)) (ix := 43) lk_446 (by decide +kernel) (fun hc15_ => ?_)
    refine g_val (y := (d 71 7)) rfl ?_
    replace hc15_ : c32 (d 71 7) := hc15_
    refine g_bipush C 6 (by decide) (by decide +kernel) ?_
    refine g_icmp_ge C (off := 24) (tgt := 131) hc15_ (cK rfl) (by decide +kernel) (by decide) (fun hc16_ => ?_) (fun hc16_ => ?_)
    · replace h := ite_t hc16_ h
      refine g_aload_n C 0 rfl (by decide +kernel) ?_
      refine g_getR C cl8 71 2 74 rfl cd_A71 ⟨by decide, rfl, by decide⟩ rfl rfl (nA (by decide)) (ix := 18) lk_441 (by decide +kernel) ?_
      refine g_aload_n C 0 rfl (by decide +kernel) ?_
      refine g_getI C cl8 71 7 rfl cd_A71 ⟨by decide, rfl, by decide⟩ rfl (nA (by decide)) (ix := 43) lk_446 (by decide +kernel) (fun hc17_ => ?_)
      refine g_val (y := (d 71 7)) rfl ?_
      replace hc17_ : c32 (d 71 7) := hc17_
      refine g_iload C 5 rfl (by decide +kernel) ?_
      obtain ⟨hb18_, h⟩ := ck_some h
      refine g_iast C 74 hx5 hc17_ rfl cd_A74 (nA (by decide)) hb18_ (by decide +kernel) ?_
      refine g_aload_n C 0 rfl (by decide +kernel) ?_
      refine g_dup C tg2 (by decide +kernel) ?_
      refine g_getI C cl8 71 7 rfl cd_A71 ⟨by decide, rfl, by decide⟩ rfl (nA (by decide)) (ix := 43) lk_446 (by decide +kernel) (fun hc19_ => ?_)
      refine g_val (y := (d 71 7)) rfl ?_
      replace hc19_ : c32 (d 71 7) := hc19_
      refine g_iconst C 1 (cK rfl) (by decide +kernel) ?_
      refine g_iadd C (by decide +kernel) ?_
      refine g_putI C cl8 71 7 (w32_c _) rfl cd_A71 ⟨by decide, rfl, by decide⟩ rfl (nA (by decide)) (ix := 43) lk_446 rfl rfl (by decide +kernel) ?_
      refine g_sub (lo2 := [(2, 71), (0, x1), (0, x2), (0, v3_), (0, v6_), (0, x5), (9, 0)]) (lsb_v (lsb_v (lsb_v (lsb_v (lsb_v (lsb_v (lsb_c lsb_e))))))) ?_
      exact ok_Ro_send_b131 C x1 x2 v3_ v6_ x5 (up2 (up2 (up2 d 73 x5.toNat (w32 ((d 73 x5.toNat) - (w32 (s0 * x2))))) 74 ((d 71 7)).toNat x5) 71 7 (w32 ((d 71 7) + 1))) hx1 hx2 hv5_ hv8_ hx5 h kb k0
    · replace h := ite_f hc16_ h
      refine g_sub (lo2 := [(2, 71), (0, x1), (0, x2), (0, v3_), (0, v6_), (0, x5), (9, 0)]) (lsb_v (lsb_v (lsb_v (lsb_v (lsb_v (lsb_v (lsb_c lsb_e))))))) ?_
      exact ok_Ro_send_b131 C x1 x2 v3_ v6_ x5 (up2 d 73 x5.toNat (w32 ((d 73 x5.toNat) - (w32 (s0 * x2))))) hx1 hx2 hv5_ hv8_ hx5 h kb k0
  · replace h := ite_f hc14_ h
    refine g_sub (lo2 := [(2, 71), (0, x1), (0, x2), (0, v3_), (0, v6_), (0, x5), (9, 0)]) (lsb_v (lsb_v (lsb_v (lsb_v (lsb_v (lsb_v (lsb_c lsb_e))))))) ?_
    exact ok_Ro_send_b131 C x1 x2 v3_ v6_ x5 (up2 d 73 x5.toNat (w32 ((d 73 x5.toNat) - (w32 (s0 * x2))))) hx1 hx2 hv5_ hv8_ hx5 h kb k0
set_option maxHeartbeats 4000000 in
theorem ok_Ro_send_y13 {p : Program} {l : Launch} {e : Env} {s : State} {m : MethodId} {args : Array Value} {below : List Frame} {meth : Method} {c : Code} {D : va_G} {cA : Nat → ClassId} {ad : Nat → Nat} {A : Nat → Prop} (C : Cx p s m args c prog_10_method_5_code 7 "PollBooks$Roads" D cA ad 0 A) {Q : State → Prop} {o : (Int × Int × Int × Int × Int × Dt) ⊕ ((Int × Int × Int × Int × Dt))} (x1 x2 x3 x4 x5 : Int) (d : Dt) (hx1 : c32 x1) (hx2 : c32 x2) (hx3 : c32 x3) (hx4 : c32 x4) (hx5 : c32 x5) (h : L_Ro_send_y13 x1 x2 x3 x4 x5 d = some o) (kb : ∀ (y0 y1 y2 y3 y4 : Int) (e' : Dt), o = .inl (y0, y1, y2, y3, y4, e') → c32 y0 → c32 y1 → c32 y2 → c32 y3 → c32 y4 → G p l e rm_Ro_send s m args below meth c 0 0 Q 7 D cA ad 0 A 13 [(2, 71), (0, y0), (0, y1), (0, y2), (0, y3), (0, y4), (9, 0)] [] e') (k0 : ∀ (y0 y1 y2 y3 : Int) (e' : Dt), o = .inr (y0, y1, y2, y3, e') → c32 y0 → c32 y1 → c32 y2 → c32 y3 → G p l e rm_Ro_send s m args below meth c 0 0 Q 7 D cA ad 0 A 137 [(2, 71), (0, y0), (0, y1), (0, y2), (0, y3), (9, 0), (9, 0)] [] e') : G p l e rm_Ro_send s m args below meth c 0 0 Q 7 D cA ad 0 A 13 [(2, 71), (0, x1), (0, x2), (0, x3), (0, x4), (0, x5), (9, 0)] [] d := by
  unfold L_Ro_send_y13 at h
  refine g_iload C 5 rfl (by decide +kernel) ?_
  refine g_bipush C 7 (by decide) (by decide +kernel) ?_
  refine g_icmp_ge C (off := 120) (tgt := 137) hx5 (cK rfl) (by decide +kernel) (by decide) (fun hc20_ => ?_) (fun hc20_ => ?_)
  · replace h := ite_t hc20_ h
    refine g_aload_n C 0 rfl (by decide +kernel) ?_
    refine g_getR C cl8 71 1 73 rfl cd_A71 ⟨by decide, rfl, by decide⟩ rfl rfl (nA (by decide)) (ix := 15) lk_440 (by decide +kernel) ?_
    refine g_iload C 5 rfl (by decide +kernel) ?_
    obtain ⟨hb21_, h⟩ := ck_some h
    refine g_iald C 73 hx5 rfl cd_A73 (nA (by decide)) hb21_ (by decide +kernel) (fun hc22_ => ?_)
    refine g_iload_n C 2 rfl (by decide +kernel) ?_
    refine g_icmp_le C (off := 19) (tgt := 47) hc22_ hx2 (by decide +kernel) (by decide) (fun hc23_ => ?_) (fun hc23_ => ?_)
    · replace h := ite_t hc23_ h
      refine g_iload_n C 2 rfl (by decide +kernel) ?_
      refine g_if_le C (off := 15) (tgt := 47) hx2 (by decide +kernel) (by decide) (fun hc24_ => ?_) (fun hc24_ => ?_)
      · replace h := ite_t hc24_ h
        refine g_aload_n C 0 rfl (by decide +kernel) ?_
        refine g_getR C cl8 71 1 73 rfl cd_A71 ⟨by decide, rfl, by decide⟩ rfl rfl (nA (by decide)) (ix := 15) lk_440 (by decide +kernel) ?_
        refine g_iload C 5 rfl (by decide +kernel) ?_
        obtain ⟨hb25_, h⟩ := ck_some h
        refine g_iald C 73 hx5 rfl cd_A73 (nA (by decide)) hb25_ (by decide +kernel) (fun hc26_ => ?_)
        refine g_iload_n C 2 rfl (by decide +kernel) ?_
        obtain ⟨hc27_, h⟩ := ck_some h
        refine g_idiv C hx2 hc27_ (by decide +kernel) ?_
        refine g_goto C 48 (off := 4) (by decide +kernel) (by decide) ?_
        refine g_sub (lo2 := [(2, 71), (0, x1), (0, x2), (0, x3), (0, x4), (0, x5), (9, 0)]) (lsb_v (lsb_v (lsb_v (lsb_v (lsb_v (lsb_v (lsb_c lsb_e))))))) ?_
        exact ok_Ro_send_b48 C x1 x2 x3 x4 x5 (idiv (d 73 x5.toNat) x2) d hx1 hx2 hx3 hx4 hx5 (i_c _) h kb k0
      · replace h := ite_f hc24_ h
        refine g_iconst C 0 (cK rfl) (by decide +kernel) ?_
        refine g_sub (lo2 := [(2, 71), (0, x1), (0, x2), (0, x3), (0, x4), (0, x5), (9, 0)]) (lsb_v (lsb_v (lsb_v (lsb_v (lsb_v (lsb_v (lsb_c lsb_e))))))) ?_
        exact ok_Ro_send_b48 C x1 x2 x3 x4 x5 0 d hx1 hx2 hx3 hx4 hx5 (c32_cb (Or.inl rfl)) h kb k0
    · replace h := ite_f hc23_ h
      refine g_iconst C 0 (cK rfl) (by decide +kernel) ?_
      refine g_sub (lo2 := [(2, 71), (0, x1), (0, x2), (0, x3), (0, x4), (0, x5), (9, 0)]) (lsb_v (lsb_v (lsb_v (lsb_v (lsb_v (lsb_v (lsb_c lsb_e))))))) ?_
      exact ok_Ro_send_b48 C x1 x2 x3 x4 x5 0 d hx1 hx2 hx3 hx4 hx5 (c32_cb (Or.inl rfl)) h kb k0
  · replace h := ite_f hc20_ h
    refine g_sub (lo2 := [(2, 71), (0, x1), (0, x2), (0, x3), (0, x4), (9, 0), (9, 0)]) (lsb_v (lsb_v (lsb_v (lsb_v (lsb_v (lsb_c (lsb_c lsb_e))))))) ?_
    obtain rfl := Option.some.inj h
    exact k0 x1 x2 x3 x4 d rfl hx1 hx2 hx3 hx4
set_option maxHeartbeats 4000000 in
theorem ok_Ro_send_n13 {p : Program} {l : Launch} {e : Env} {s : State} {m : MethodId} {args : Array Value} {below : List Frame} {meth : Method} {c : Code} {D : va_G} {cA : Nat → ClassId} {ad : Nat → Nat} {A : Nat → Prop} (C : Cx p s m args c prog_10_method_5_code 7 "PollBooks$Roads" D cA ad 0 A) {Q : State → Prop} {x : (Int × Int × Int × Int × Dt)} : ∀ (n : Nat) (x1 x2 x3 x4 x5 : Int) (d : Dt), c32 x1 → c32 x2 → c32 x3 → c32 x4 → c32 x5 → lpF (fun q : Int × Int × Int × Int × Int × Dt => L_Ro_send_y13 q.1 q.2.1 q.2.2.1 q.2.2.2.1 q.2.2.2.2.1 q.2.2.2.2.2) n (x1, x2, x3, x4, x5, d) = some x → (∀ (y0 y1 y2 y3 : Int) (e' : Dt), x = (y0, y1, y2, y3, e') → c32 y0 → c32 y1 → c32 y2 → c32 y3 → G p l e rm_Ro_send s m args below meth c 0 0 Q 7 D cA ad 0 A 137 [(2, 71), (0, y0), (0, y1), (0, y2), (0, y3), (9, 0), (9, 0)] [] e') → G p l e rm_Ro_send s m args below meth c 0 0 Q 7 D cA ad 0 A 13 [(2, 71), (0, x1), (0, x2), (0, x3), (0, x4), (0, x5), (9, 0)] [] d := by
  intro n
  induction n with
  | zero => intro x1 x2 x3 x4 x5 d g0 g1 g2 g3 g4 h k0; cases h
  | succ n ih =>
    intro x1 x2 x3 x4 x5 d g0 g1 g2 g3 g4 h k0
    rcases lpF_some h with h | ⟨⟨v0_, v1_, v2_, v3_, v4_, e0_⟩, h1, h⟩
    · exact ok_Ro_send_y13 C x1 x2 x3 x4 x5 d g0 g1 g2 g3 g4 h (fun z0_ z1_ z2_ z3_ z4_ e1_ eq w0_ w1_ w2_ w3_ w4_ => by cases eq) (fun z0_ z1_ z2_ z3_ e1_ eq w0_ w1_ w2_ w3_ => k0 _ _ _ _ _ (by cases eq; rfl) w0_ w1_ w2_ w3_)
    · exact ok_Ro_send_y13 C x1 x2 x3 x4 x5 d g0 g1 g2 g3 g4 h1 (fun z0_ z1_ z2_ z3_ z4_ e1_ eq w0_ w1_ w2_ w3_ w4_ => by cases eq; exact ih _ _ _ _ _ _ w0_ w1_ w2_ w3_ w4_ h k0) (fun z0_ z1_ z2_ z3_ e1_ eq w0_ w1_ w2_ w3_ => by cases eq)
set_option maxHeartbeats 4000000 in
theorem ok_Ro_send_l13 {p : Program} {l : Launch} {e : Env} {s : State} {m : MethodId} {args : Array Value} {below : List Frame} {meth : Method} {c : Code} {D : va_G} {cA : Nat → ClassId} {ad : Nat → Nat} {A : Nat → Prop} (C : Cx p s m args c prog_10_method_5_code 7 "PollBooks$Roads" D cA ad 0 A) {Q : State → Prop} {x : (Int × Int × Int × Int × Dt)} (x1 x2 x3 x4 x5 : Int) (d : Dt) (hx1 : c32 x1) (hx2 : c32 x2) (hx3 : c32 x3) (hx4 : c32 x4) (hx5 : c32 x5) (h : L_Ro_send_l13 x1 x2 x3 x4 x5 d = some x) (k0 : ∀ (y0 y1 y2 y3 : Int) (e' : Dt), x = (y0, y1, y2, y3, e') → c32 y0 → c32 y1 → c32 y2 → c32 y3 → G p l e rm_Ro_send s m args below meth c 0 0 Q 7 D cA ad 0 A 137 [(2, 71), (0, y0), (0, y1), (0, y2), (0, y3), (9, 0), (9, 0)] [] e') : G p l e rm_Ro_send s m args below meth c 0 0 Q 7 D cA ad 0 A 13 [(2, 71), (0, x1), (0, x2), (0, x3), (0, x4), (0, x5), (9, 0)] [] d :=
  ok_Ro_send_n13 C FU x1 x2 x3 x4 x5 d hx1 hx2 hx3 hx4 hx5 h k0
set_option maxHeartbeats 4000000 in
theorem ok_Ro_send {l : Launch} {r : Int} {d' : Dt} (p1 p2 : Int) (d : Dt) (hp1 : c32 p1) (hp2 : c32 p2) (h : L_Ro_send p1 p2 d = some (r, d')) : MC l y_Ro_send prog_10_method_5_code 7 (some .int) rm_Ro_send 0 [(2, 71), (0, p1), (0, p2)] d (some (0, r)) d' := by
  refine MC.of (by decide) (Nat.le_of_ble_eq_true rfl) ?_
  intro p e s m args below meth c D cA ad A C hlk hr
  replace C : Cx p s m args c prog_10_method_5_code 7 "PollBooks$Roads" D cA ad 0 A := C
  show G p l e rm_Ro_send s m args below meth c 0 0 (MQ below (fun _ => QC D cA ad 0 A (some .int) (some (0, r)) d') args s 0 0 A) 7 D cA ad 0 A 0 [(2, 71), (0, p1), (0, p2)] [] d
  refine g_sub (lo2 := [(2, 71), (0, p1), (0, p2), (9, 0), (9, 0), (9, 0), (9, 0)]) (lsb_v (lsb_v (lsb_v (lsb_n (lsb_n (lsb_n (lsb_n lsb_e))))))) ?_
  unfold L_Ro_send at h
  refine g_iconst C 0 (cK rfl) (by decide +kernel) ?_
  refine s_istore_n C 3 (lo' := [(2, 71), (0, p1), (0, p2), (0, 0), (9, 0), (9, 0), (9, 0)]) (by decide) (s1k (s1k (s1n (by decide) s1z))) (by decide +kernel) ?_
  refine g_iconst C 0 (cK rfl) (by decide +kernel) ?_
  refine s_istore C 4 (lo' := [(2, 71), (0, p1), (0, p2), (0, 0), (0, 0), (9, 0), (9, 0)]) (by decide) (s1k (s1k (s1k (s1n (by decide) s1z)))) (by decide +kernel) ?_
  refine g_aload_n C 0 rfl (by decide +kernel) ?_
  refine g_iconst C 0 (cK rfl) (by decide +kernel) ?_
  refine g_putI C cl8 71 7 (c32_cb (Or.inl rfl)) rfl cd_A71 ⟨by decide, rfl, by decide⟩ rfl (nA (by decide)) (ix := 43) lk_446 rfl rfl (by decide +kernel) ?_
  refine g_iconst C 0 (cK rfl) (by decide +kernel) ?_
  refine s_istore C 5 (lo' := [(2, 71), (0, p1), (0, p2), (0, 0), (0, 0), (0, 0), (9, 0)]) (by decide) (s1k (s1k (s1k (s1k (s1n (by decide) s1z))))) (by decide +kernel) ?_
  refine g_sub (lo2 := [(2, 71), (0, p1), (0, p2), (0, 0), (0, 0), (0, 0), (9, 0)]) (lsb_v (lsb_v (lsb_v (lsb_v (lsb_v (lsb_v (lsb_c lsb_e))))))) ?_
  obtain ⟨x28_, hx29_, h⟩ := lb_some h
  refine ok_Ro_send_l13 C p1 p2 0 0 0 (up2 d 71 7 0) hp1 hp2 (c32_cb (Or.inl rfl)) (c32_cb (Or.inl rfl)) (c32_cb (Or.inl rfl)) hx29_ (fun v30_ v31_ v32_ v33_ d34_ eq35_ hv30_ hv31_ hv32_ hv33_ => ?_)
  subst eq35_
  replace h := u4_e h
  refine g_aload_n C 0 rfl (by decide +kernel) ?_
  obtain ⟨r37_, d36_, hr38_, h⟩ := bd_some h
  refine g_callV C mw_Ro_fillLoads [] 71 cl8 rfl (ok_Ro_fillLoads  d34_  hr38_) cd_A71 (by decide) (nA (by decide)) (ix := 46) lk_1365 lk_1367 lkp_52 ⟨rfl, rfl, Nat.le_of_ble_eq_true rfl, Nat.le_of_ble_eq_true rfl⟩ rfl (rest := []) rfl (Nat.le_of_ble_eq_true rfl) ⟨Nat.zero_le _, Nat.zero_le _⟩ (by decide +kernel) (fun _ hc39_ => ?_)
  refine g_st (st2 := []) rfl ?_
  refine g_aload_n C 0 rfl (by decide +kernel) ?_
  refine g_iload_n C 1 rfl (by decide +kernel) ?_
  obtain ⟨r41_, d40_, hr42_, h⟩ := bd_some h
  refine g_callV C mw_Ro_fillOutward [(0, v30_)] 71 cl8 rfl (ok_Ro_fillOutward v30_ d36_ hv30_ hr42_) cd_A71 (by decide) (nA (by decide)) (ix := 49) lk_1369 lk_1371 lkp_53 ⟨rfl, rfl, Nat.le_of_ble_eq_true rfl, Nat.le_of_ble_eq_true rfl⟩ rfl (rest := []) rfl (Nat.le_of_ble_eq_true rfl) ⟨Nat.zero_le _, Nat.zero_le _⟩ (by decide +kernel) (fun _ hc43_ => ?_)
  refine g_st (st2 := []) rfl ?_
  refine g_aload_n C 0 rfl (by decide +kernel) ?_
  refine g_iload_n C 1 rfl (by decide +kernel) ?_
  obtain ⟨r45_, d44_, hr46_, h⟩ := bd_some h
  refine g_callV C mw_Ro_fillTours [(0, v30_)] 71 cl8 rfl (ok_Ro_fillTours v30_ d40_ hv30_ hr46_) cd_A71 (by decide) (nA (by decide)) (ix := 53) lk_1379 lk_1381 lkp_55 ⟨rfl, rfl, Nat.le_of_ble_eq_true rfl, Nat.le_of_ble_eq_true rfl⟩ rfl (rest := []) rfl (Nat.le_of_ble_eq_true rfl) ⟨Nat.zero_le _, Nat.zero_le _⟩ (by decide +kernel) (fun _ hc47_ => ?_)
  refine g_st (st2 := []) rfl ?_
  refine g_aload_n C 0 rfl (by decide +kernel) ?_
  refine g_iload_n C 2 rfl (by decide +kernel) ?_
  obtain ⟨r49_, d48_, hr50_, h⟩ := bd_some h
  refine g_callV C mw_Ro_shareOut [(0, v31_)] 71 cl8 rfl (ok_Ro_shareOut v31_ d44_ hv31_ hr50_) cd_A71 (by decide) (nA (by decide)) (ix := 56) lk_1383 lk_1385 lkp_56 ⟨rfl, rfl, Nat.le_of_ble_eq_true rfl, Nat.le_of_ble_eq_true rfl⟩ rfl (rest := []) rfl (Nat.le_of_ble_eq_true rfl) ⟨Nat.zero_le _, Nat.zero_le _⟩ (by decide +kernel) (fun _ hc51_ => ?_)
  replace hc51_ : c32 r49_ := hc51_
  refine g_st (st2 := [(0, r49_)]) rfl ?_
  refine s_istore C 5 (lo' := [(2, 71), (0, v30_), (0, v31_), (0, v32_), (0, v33_), (0, r49_), (9, 0)]) (by decide) (s1k (s1k (s1k (s1k (s1n (by decide) s1z))))) (by decide +kernel) ?_
  refine g_aload_n C 0 rfl (by decide +kernel) ?_
  refine g_iload C 4 rfl (by decide +kernel) ?_
  refine g_iload C 5 rfl (by decide +kernel) ?_
  refine g_bipush C 64 (by decide) (by decide +kernel) ?_
  refine g_irem C (cK rfl) (by decide) (by decide +kernel) ?_
  refine g_iadd C (by decide +kernel) ?_
  refine g_putI C cl8 71 8 (w32_c _) rfl cd_A71 ⟨by decide, rfl, by decide⟩ rfl (nA (by decide)) (ix := 33) lk_447 rfl rfl (by decide +kernel) ?_
  refine g_iload_n C 3 rfl (by decide +kernel) ?_
  refine g_iload C 5 rfl (by decide +kernel) ?_
  refine g_bipush C 64 (by decide) (by decide +kernel) ?_
  refine g_idiv C (cK rfl) (by decide) (by decide +kernel) ?_
  refine g_iadd C (by decide +kernel) ?_
  obtain ⟨rfl, rfl⟩ := ret_inj h
  exact g_iret C (w32_c _) hlk hr (by decide +kernel)
/-! PollBooks.coaches(III)I -/
def y_PB_coaches : MethodName := ⟨"PollBooks", "coaches", "(III)I"⟩
def rm_PB_coaches : Room := { frames := 4, cells := 0, slots := 0, locals := 97 }
theorem mw_PB_coaches : MW y_PB_coaches prog_1_method_49_code 5 (some .int) 3 := ⟨lk_1351, lk_1, by decide +kernel⟩
def L_PB_coaches_b57 (x1 x2 x3 x4 s1 s2 : Int) (d : Dt) : Option ((Int × Int × Int × Int × Dt) ⊕ ((Int × Int × Dt))) :=
  bd (L_Ro_setWaiting s1 s2 d) (fun r2_ d1_ => some (Sum.inl (x1, x2, x3, (w32 (x4 + 1)), d1_)))
def L_PB_coaches_y23 (x1 x2 x3 x4 : Int) (d : Dt) : Option ((Int × Int × Int × Int × Dt) ⊕ ((Int × Int × Dt))) :=
  if x4 < 7 then if x4 = x1 then L_PB_coaches_b57 x1 x2 x3 x4 x4 0 d else bd (L_Tr_at x2 x4 d) (fun r8_ d7_ => L_PB_coaches_b57 x1 x2 x3 x4 x4 (w32 r8_) d7_) else some (Sum.inr (x1, x3, d))
def L_PB_coaches_l23 (x1 x2 x3 x4 : Int) (d : Dt) : Option ((Int × Int × Dt)) := lpF (fun q : Int × Int × Int × Int × Dt => L_PB_coaches_y23 q.1 q.2.1 q.2.2.1 q.2.2.2.1 q.2.2.2.2) FU (x1, x2, x3, x4, d)
def L_PB_coaches (p1 p2 p3 : Int) (d : Dt) : Option (Int × Dt) :=
  bd (L_PB_coachStatus p1 p2 p3 d) (fun r12_ d11_ => if r12_ = 0 then lb (L_PB_coaches_l23 p1 p2 p3 0 (up2 d11_ 0 0 r12_)) (fun q27_ => u2 q27_ (fun v19_ v20_ d21_ => bd (L_Ro_send v19_ v20_ d21_) (fun r24_ d23_ => some (r24_, d23_)))) else some ((-1), (up2 d11_ 0 0 r12_)))
set_option maxHeartbeats 4000000 in
theorem ok_PB_coaches_b57 {p : Program} {l : Launch} {e : Env} {s : State} {m : MethodId} {args : Array Value} {below : List Frame} {meth : Method} {c : Code} {D : va_G} {cA : Nat → ClassId} {ad : Nat → Nat} {A : Nat → Prop} (C : Cx p s m args c prog_1_method_49_code 5 "PollBooks" D cA ad 0 A) {Q : State → Prop} {o : (Int × Int × Int × Int × Dt) ⊕ ((Int × Int × Dt))} (x1 x2 x3 x4 s1 s2 : Int) (d : Dt) (hx1 : c32 x1) (hx2 : c32 x2) (hx3 : c32 x3) (hx4 : c32 x4) (hs1 : c32 s1) (hs2 : c32 s2) (h : L_PB_coaches_b57 x1 x2 x3 x4 s1 s2 d = some o) (kb : ∀ (y0 y1 y2 y3 : Int) (e' : Dt), o = .inl (y0, y1, y2, y3, e') → c32 y0 → c32 y1 → c32 y2 → c32 y3 → G p l e rm_PB_coaches s m args below meth c 0 0 Q 5 D cA ad 0 A 23 [(2, 0), (0, y0), (0, y1), (0, y2), (0, y3)] [] e') (k0 : ∀ (y0 y1 : Int) (e' : Dt), o = .inr (y0, y1, e') → c32 y0 → c32 y1 → G p l e rm_PB_coaches s m args below meth c 0 0 Q 5 D cA ad 0 A 66 [(2, 0), (0, y0), (9, 0), (0, y1), (9, 0)] [] e') : G p l e rm_PB_coaches s m args below meth c 0 0 Q 5 D cA ad 0 A 57 [(2, 0), (0, x1), (0, x2), (0, x3), (0, x4)] [(0, s2), (0, s1), (2, 71)] d := by
  unfold L_PB_coaches_b57 at h
  obtain ⟨r2_, d1_, hr3_, h⟩ := bd_some h
  refine g_callV C mw_Ro_setWaiting [(0, s1), (0, s2)] 71 cl8 rfl (ok_Ro_setWaiting s1 s2 d hs1 hs2 hr3_) cd_A71 (by decide) (nA (by decide)) (ix := 427) lk_1357 lk_1358 lk_1359 ⟨rfl, rfl, Nat.le_of_ble_eq_true rfl, Nat.le_of_ble_eq_true rfl⟩ rfl (rest := []) rfl (Nat.le_of_ble_eq_true rfl) ⟨Nat.zero_le _, Nat.zero_le _⟩ (by decide +kernel) (fun _ hc4_ => ?_)
  refine g_st (st2 := []) rfl ?_
  refine s_iinc C 4 1 (lo' := [(2, 0), (0, x1), (0, x2), (0, x3), (0, (w32 (x4 + 1)))]) rfl (by decide) (s1k (s1k (s1k (s1n (by decide) s1z)))) (by decide +kernel) ?_
  refine g_goto C 23 (off := (-40)) (by decide +kernel) (by decide) ?_
  refine g_sub (lo2 := [(2, 0), (0, x1), (0, x2), (0, x3), (0, (w32 (x4 + 1)))]) (lsb_v (lsb_v (lsb_v (lsb_v (lsb_v lsb_e))))) ?_
  obtain rfl := Option.some.inj h
  exact kb x1 x2 x3 (w32 (x4 + 1)) d1_ rfl hx1 hx2 hx3 (w32_c _)
set_option maxHeartbeats 4000000 in
theorem ok_PB_coaches_y23 {p : Program} {l : Launch} {e : Env} {s : State} {m : MethodId} {args : Array Value} {below : List Frame} {meth : Method} {c : Code} {D : va_G} {cA : Nat → ClassId} {ad : Nat → Nat} {A : Nat → Prop} (C : Cx p s m args c prog_1_method_49_code 5 "PollBooks" D cA ad 0 A) {Q : State → Prop} {o : (Int × Int × Int × Int × Dt) ⊕ ((Int × Int × Dt))} (x1 x2 x3 x4 : Int) (d : Dt) (hx1 : c32 x1) (hx2 : c32 x2) (hx3 : c32 x3) (hx4 : c32 x4) (h : L_PB_coaches_y23 x1 x2 x3 x4 d = some o) (kb : ∀ (y0 y1 y2 y3 : Int) (e' : Dt), o = .inl (y0, y1, y2, y3, e') → c32 y0 → c32 y1 → c32 y2 → c32 y3 → G p l e rm_PB_coaches s m args below meth c 0 0 Q 5 D cA ad 0 A 23 [(2, 0), (0, y0), (0, y1), (0, y2), (0, y3)] [] e') (k0 : ∀ (y0 y1 : Int) (e' : Dt), o = .inr (y0, y1, e') → c32 y0 → c32 y1 → G p l e rm_PB_coaches s m args below meth c 0 0 Q 5 D cA ad 0 A 66 [(2, 0), (0, y0), (9, 0), (0, y1), (9, 0)] [] e') : G p l e rm_PB_coaches s m args below meth c 0 0 Q 5 D cA ad 0 A 23 [(2, 0), (0, x1), (0, x2), (0, x3), (0, x4)] [] d := by
  unfold L_PB_coaches_y23 at h
  refine g_iload C 4 rfl (by decide +kernel) ?_
  refine g_bipush C 7 (by decide) (by decide +kernel) ?_
  refine g_icmp_ge C (off := 39) (tgt := 66) hx4 (cK rfl) (by decide +kernel) (by decide) (fun hc5_ => ?_) (fun hc5_ => ?_)
  · replace h := ite_t hc5_ h
    refine g_aload_n C 0 rfl (by decide +kernel) ?_
    refine g_getR C cl11 0 10 71 rfl cd_A0 ⟨by decide, rfl, by decide⟩ rfl rfl (nA (by decide)) (ix := 87) lk_477 (by decide +kernel) ?_
    refine g_iload C 4 rfl (by decide +kernel) ?_
    refine g_iload C 4 rfl (by decide +kernel) ?_
    refine g_iload_n C 1 rfl (by decide +kernel) ?_
    refine g_icmp_ne C (off := 7) (tgt := 46) hx4 hx1 (by decide +kernel) (by decide) (fun hc6_ => ?_) (fun hc6_ => ?_)
    · replace h := ite_t hc6_ h
      refine g_iconst C 0 (cK rfl) (by decide +kernel) ?_
      refine g_goto C 57 (off := 14) (by decide +kernel) (by decide) ?_
      refine g_sub (lo2 := [(2, 0), (0, x1), (0, x2), (0, x3), (0, x4)]) (lsb_v (lsb_v (lsb_v (lsb_v (lsb_v lsb_e))))) ?_
      exact ok_PB_coaches_b57 C x1 x2 x3 x4 x4 0 d hx1 hx2 hx3 hx4 hx4 (c32_cb (Or.inl rfl)) h kb k0
    · replace h := ite_f hc6_ h
      refine g_aload_n C 0 rfl (by decide +kernel) ?_
      refine g_getR C cl11 0 1 3 rfl cd_A0 ⟨by decide, rfl, by decide⟩ rfl rfl (nA (by decide)) (ix := 16) lk_468 (by decide +kernel) ?_
      refine g_iload_n C 2 rfl (by decide +kernel) ?_
      refine g_iload C 4 rfl (by decide +kernel) ?_
      obtain ⟨r8_, d7_, hr9_, h⟩ := bd_some h
      refine g_callV C mw_Tr_at [(0, x2), (0, x4)] 3 cl10 rfl (ok_Tr_at x2 x4 d hx2 hx4 hr9_) cd_A3 (by decide) (nA (by decide)) (ix := 123) lk_561 lk_562 lk_563 ⟨rfl, rfl, Nat.le_of_ble_eq_true rfl, Nat.le_of_ble_eq_true rfl⟩ rfl (rest := [(0, x4), (2, 71)]) rfl (Nat.le_of_ble_eq_true rfl) ⟨Nat.zero_le _, Nat.zero_le _⟩ (by decide +kernel) (fun _ hc10_ => ?_)
      replace hc10_ : c64 r8_ := hc10_
      refine g_st (st2 := [(1, r8_), (0, x4), (2, 71)]) rfl ?_
      refine g_l2i C (by decide +kernel) ?_
      refine g_sub (lo2 := [(2, 0), (0, x1), (0, x2), (0, x3), (0, x4)]) (lsb_v (lsb_v (lsb_v (lsb_v (lsb_v lsb_e))))) ?_
      exact ok_PB_coaches_b57 C x1 x2 x3 x4 x4 (w32 r8_) d7_ hx1 hx2 hx3 hx4 hx4 (w32_c _) h kb k0
  · replace h := ite_f hc5_ h
    refine g_sub (lo2 := [(2, 0), (0, x1), (9, 0), (0, x3), (9, 0)]) (lsb_v (lsb_v (lsb_c (lsb_v (lsb_c lsb_e))))) ?_
    obtain rfl := Option.some.inj h
    exact k0 x1 x3 d rfl hx1 hx3
set_option maxHeartbeats 4000000 in
theorem ok_PB_coaches_n23 {p : Program} {l : Launch} {e : Env} {s : State} {m : MethodId} {args : Array Value} {below : List Frame} {meth : Method} {c : Code} {D : va_G} {cA : Nat → ClassId} {ad : Nat → Nat} {A : Nat → Prop} (C : Cx p s m args c prog_1_method_49_code 5 "PollBooks" D cA ad 0 A) {Q : State → Prop} {x : (Int × Int × Dt)} : ∀ (n : Nat) (x1 x2 x3 x4 : Int) (d : Dt), c32 x1 → c32 x2 → c32 x3 → c32 x4 → lpF (fun q : Int × Int × Int × Int × Dt => L_PB_coaches_y23 q.1 q.2.1 q.2.2.1 q.2.2.2.1 q.2.2.2.2) n (x1, x2, x3, x4, d) = some x → (∀ (y0 y1 : Int) (e' : Dt), x = (y0, y1, e') → c32 y0 → c32 y1 → G p l e rm_PB_coaches s m args below meth c 0 0 Q 5 D cA ad 0 A 66 [(2, 0), (0, y0), (9, 0), (0, y1), (9, 0)] [] e') → G p l e rm_PB_coaches s m args below meth c 0 0 Q 5 D cA ad 0 A 23 [(2, 0), (0, x1), (0, x2), (0, x3), (0, x4)] [] d := by
  intro n
  induction n with
  | zero => intro x1 x2 x3 x4 d g0 g1 g2 g3 h k0; cases h
  | succ n ih =>
    intro x1 x2 x3 x4 d g0 g1 g2 g3 h k0
    rcases lpF_some h with h | ⟨⟨v0_, v1_, v2_, v3_, e0_⟩, h1, h⟩
    · exact ok_PB_coaches_y23 C x1 x2 x3 x4 d g0 g1 g2 g3 h (fun z0_ z1_ z2_ z3_ e1_ eq w0_ w1_ w2_ w3_ => by cases eq) (fun z0_ z1_ e1_ eq w0_ w1_ => k0 _ _ _ (by cases eq; rfl) w0_ w1_)
    · exact ok_PB_coaches_y23 C x1 x2 x3 x4 d g0 g1 g2 g3 h1 (fun z0_ z1_ z2_ z3_ e1_ eq w0_ w1_ w2_ w3_ => by cases eq; exact ih _ _ _ _ _ w0_ w1_ w2_ w3_ h k0) (fun z0_ z1_ e1_ eq w0_ w1_ => by cases eq)
set_option maxHeartbeats 4000000 in
theorem ok_PB_coaches_l23 {p : Program} {l : Launch} {e : Env} {s : State} {m : MethodId} {args : Array Value} {below : List Frame} {meth : Method} {c : Code} {D : va_G} {cA : Nat → ClassId} {ad : Nat → Nat} {A : Nat → Prop} (C : Cx p s m args c prog_1_method_49_code 5 "PollBooks" D cA ad 0 A) {Q : State → Prop} {x : (Int × Int × Dt)} (x1 x2 x3 x4 : Int) (d : Dt) (hx1 : c32 x1) (hx2 : c32 x2) (hx3 : c32 x3) (hx4 : c32 x4) (h : L_PB_coaches_l23 x1 x2 x3 x4 d = some x) (k0 : ∀ (y0 y1 : Int) (e' : Dt), x = (y0, y1, e') → c32 y0 → c32 y1 → G p l e rm_PB_coaches s m args below meth c 0 0 Q 5 D cA ad 0 A 66 [(2, 0), (0, y0), (9, 0), (0, y1), (9, 0)] [] e') : G p l e rm_PB_coaches s m args below meth c 0 0 Q 5 D cA ad 0 A 23 [(2, 0), (0, x1), (0, x2), (0, x3), (0, x4)] [] d :=
  ok_PB_coaches_n23 C FU x1 x2 x3 x4 d hx1 hx2 hx3 hx4 h k0
set_option maxHeartbeats 4000000 in
theorem ok_PB_coaches {l : Launch} {r : Int} {d' : Dt} (p1 p2 p3 : Int) (d : Dt) (hp1 : c32 p1) (hp2 : c32 p2) (hp3 : c32 p3) (h : L_PB_coaches p1 p2 p3 d = some (r, d')) : MC l y_PB_coaches prog_1_method_49_code 5 (some .int) rm_PB_coaches 0 [(2, 0), (0, p1), (0, p2), (0, p3)] d (some (0, r)) d' := by
  refine MC.of (by decide) (Nat.le_of_ble_eq_true rfl) ?_
  intro p e s m args below meth c D cA ad A C hlk hr
  replace C : Cx p s m args c prog_1_method_49_code 5 "PollBooks" D cA ad 0 A := C
  show G p l e rm_PB_coaches s m args below meth c 0 0 (MQ below (fun _ => QC D cA ad 0 A (some .int) (some (0, r)) d') args s 0 0 A) 5 D cA ad 0 A 0 [(2, 0), (0, p1), (0, p2), (0, p3)] [] d
  refine g_sub (lo2 := [(2, 0), (0, p1), (0, p2), (0, p3), (9, 0)]) (lsb_v (lsb_v (lsb_v (lsb_v (lsb_n lsb_e))))) ?_
  unfold L_PB_coaches at h
  refine g_aload_n C 0 rfl (by decide +kernel) ?_
  refine g_aload_n C 0 rfl (by decide +kernel) ?_
  refine g_iload_n C 1 rfl (by decide +kernel) ?_
  refine g_iload_n C 2 rfl (by decide +kernel) ?_
  refine g_iload_n C 3 rfl (by decide +kernel) ?_
  obtain ⟨r12_, d11_, hr13_, h⟩ := bd_some h
  refine g_callV C mw_PB_coachStatus [(0, p1), (0, p2), (0, p3)] 0 cl11 rfl (ok_PB_coachStatus p1 p2 p3 d hp1 hp2 hp3 hr13_) cd_A0 (by decide) (nA (by decide)) (ix := 424) lk_1352 lk_1354 lkp_51 ⟨rfl, rfl, Nat.le_of_ble_eq_true rfl, Nat.le_of_ble_eq_true rfl⟩ rfl (rest := [(2, 0)]) rfl (Nat.le_of_ble_eq_true rfl) ⟨Nat.zero_le _, Nat.zero_le _⟩ (by decide +kernel) (fun _ hc14_ => ?_)
  replace hc14_ : c32 r12_ := hc14_
  refine g_st (st2 := [(0, r12_), (2, 0)]) rfl ?_
  refine g_putI C cl11 0 0 hc14_ rfl cd_A0 ⟨by decide, rfl, by decide⟩ rfl (nA (by decide)) (ix := 9) lk_467 rfl rfl (by decide +kernel) ?_
  refine g_aload_n C 0 rfl (by decide +kernel) ?_
  refine g_getI C cl11 0 0 rfl cd_A0 ⟨by decide, rfl, by decide⟩ rfl (nA (by decide)) (ix := 9) lk_467 (by decide +kernel) (fun hc15_ => ?_)
  refine g_val (y := r12_) rfl ?_
  replace hc15_ : c32 r12_ := hc15_
  refine g_if_eq C (off := 5) (tgt := 20) hc15_ (by decide +kernel) (by decide) (fun hc16_ => ?_) (fun hc16_ => ?_)
  · replace h := ite_t hc16_ h
    refine g_iconst C 0 (cK rfl) (by decide +kernel) ?_
    refine s_istore C 4 (lo' := [(2, 0), (0, p1), (0, p2), (0, p3), (0, 0)]) (by decide) (s1k (s1k (s1k (s1n (by decide) s1z)))) (by decide +kernel) ?_
    refine g_sub (lo2 := [(2, 0), (0, p1), (0, p2), (0, p3), (0, 0)]) (lsb_v (lsb_v (lsb_v (lsb_v (lsb_v lsb_e))))) ?_
    obtain ⟨x17_, hx18_, h⟩ := lb_some h
    refine ok_PB_coaches_l23 C p1 p2 p3 0 (up2 d11_ 0 0 r12_) hp1 hp2 hp3 (c32_cb (Or.inl rfl)) hx18_ (fun v19_ v20_ d21_ eq22_ hv19_ hv20_ => ?_)
    subst eq22_
    replace h := u2_e h
    refine g_aload_n C 0 rfl (by decide +kernel) ?_
    refine g_getR C cl11 0 10 71 rfl cd_A0 ⟨by decide, rfl, by decide⟩ rfl rfl (nA (by decide)) (ix := 87) lk_477 (by decide +kernel) ?_
    refine g_iload_n C 1 rfl (by decide +kernel) ?_
    refine g_iload_n C 3 rfl (by decide +kernel) ?_
    obtain ⟨r24_, d23_, hr25_, h⟩ := bd_some h
    refine g_callV C mw_Ro_send [(0, v19_), (0, v20_)] 71 cl8 rfl (ok_Ro_send v19_ v20_ d21_ hv19_ hv20_ hr25_) cd_A71 (by decide) (nA (by decide)) (ix := 430) lk_1361 lk_1362 lk_1363 ⟨rfl, rfl, Nat.le_of_ble_eq_true rfl, Nat.le_of_ble_eq_true rfl⟩ rfl (rest := []) rfl (Nat.le_of_ble_eq_true rfl) ⟨Nat.zero_le _, Nat.zero_le _⟩ (by decide +kernel) (fun _ hc26_ => ?_)
    replace hc26_ : c32 r24_ := hc26_
    refine g_st (st2 := [(0, r24_)]) rfl ?_
    obtain ⟨rfl, rfl⟩ := ret_inj h
    exact g_iret C hc26_ hlk hr (by decide +kernel)
  · replace h := ite_f hc16_ h
    refine g_iconst C (-1) (cK rfl) (by decide +kernel) ?_
    obtain ⟨rfl, rfl⟩ := ret_inj h
    exact g_iret C (cK rfl) hlk hr (by decide +kernel)
