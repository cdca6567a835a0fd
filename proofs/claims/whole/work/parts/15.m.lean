/-! PollBooks$Roads.coachesSent()I -/
def y_Ro_coachesSent : MethodName := ⟨"PollBooks$Roads", "coachesSent", "()I"⟩
def rm_Ro_coachesSent : Room := { frames := 0, cells := 0, slots := 0, locals := 0 }
theorem mw_Ro_coachesSent : MW y_Ro_coachesSent prog_10_method_4_code 1 (some .int) 0 := ⟨lk_1395, lk_13, by decide +kernel⟩
def L_Ro_coachesSent (d : Dt) : Option (Int × Dt) :=
  some ((d 71 8), d)
set_option maxHeartbeats 4000000 in
theorem ok_Ro_coachesSent {l : Launch} {r : Int} {d' : Dt} (d : Dt)  (h : L_Ro_coachesSent d = some (r, d')) : MC l y_Ro_coachesSent prog_10_method_4_code 1 (some .int) rm_Ro_coachesSent 0 [(2, 71)] d (some (0, r)) d' := by
  refine MC.of (by decide) (Nat.le_of_ble_eq_true rfl) ?_
  intro p e s m args below meth c D cA ad A C hlk hr
  replace C : Cx p s m args c prog_10_method_4_code 1 "PollBooks$Roads" D cA ad 0 A := C
  show G p l e rm_Ro_coachesSent s m args below meth c 0 0 (MQ below (fun _ => QC D cA ad 0 A (some .int) (some (0, r)) d') args s 0 0 A) 1 D cA ad 0 A 0 [(2, 71)] [] d
  refine g_sub (lo2 := [(2, 71)]) (lsb_v lsb_e) ?_
  unfold L_Ro_coachesSent at h
  refine g_aload_n C 0 rfl (by decide +kernel) ?_
  refine g_getI C cl8 71 8 rfl cd_A71 ⟨by decide, rfl, by decide⟩ rfl (nA (by decide)) (ix := 33) lk_447 (by decide +kernel) (fun hc1_ => ?_)
  obtain ⟨rfl, rfl⟩ := ret_inj h
  exact g_iret C hc1_ hlk hr (by decide +kernel)
/-! PollBooks.coachMany()I -/
def y_PB_coachMany : MethodName := ⟨"PollBooks", "coachMany", "()I"⟩
def rm_PB_coachMany : Room := { frames := 1, cells := 0, slots := 0, locals := 20 }
theorem mw_PB_coachMany : MW y_PB_coachMany prog_1_method_50_code 2 (some .int) 0 := ⟨lk_1391, lk_1, by decide +kernel⟩
def L_PB_coachMany_b20 (x1 s1 : Int) (d : Dt) : Option (Int × Dt) :=
  some (x1, (up2 d 0 0 s1))
def L_PB_coachMany (d : Dt) : Option (Int × Dt) :=
  bd (L_Ro_coachesSent d) (fun r2_ d1_ => if r2_ = (-1) then L_PB_coachMany_b20 r2_ 6 d1_ else L_PB_coachMany_b20 r2_ 0 d1_)
set_option maxHeartbeats 4000000 in
theorem ok_PB_coachMany_b20 {p : Program} {l : Launch} {e : Env} {s : State} {m : MethodId} {args : Array Value} {below : List Frame} {meth : Method} {c : Code} {D : va_G} {cA : Nat → ClassId} {ad : Nat → Nat} {A : Nat → Prop} (C : Cx p s m args c prog_1_method_50_code 2 "PollBooks" D cA ad 0 A) (hlk : meth.locks = false) (hr : meth.sig.returnType = (some .int)) {r : Int} {d' : Dt} (x1 s1 : Int) (d : Dt) (hx1 : c32 x1) (hs1 : c32 s1) (h : L_PB_coachMany_b20 x1 s1 d = some (r, d')) : G p l e rm_PB_coachMany s m args below meth c 0 0 (MQ below (fun _ => QC D cA ad 0 A (some .int) (some (0, r)) d') args s 0 0 A) 2 D cA ad 0 A 20 [(9, 0), (0, x1)] [(0, s1), (2, 0)] d := by
  unfold L_PB_coachMany_b20 at h
  refine g_putI C cl11 0 0 hs1 rfl cd_A0 ⟨by decide, rfl, by decide⟩ rfl (nA (by decide)) (ix := 9) lk_467 rfl rfl (by decide +kernel) ?_
  refine g_iload_n C 1 rfl (by decide +kernel) ?_
  obtain ⟨rfl, rfl⟩ := ret_inj h
  exact g_iret C hx1 hlk hr (by decide +kernel)
set_option maxHeartbeats 4000000 in
theorem ok_PB_coachMany {l : Launch} {r : Int} {d' : Dt} (d : Dt)  (h : L_PB_coachMany d = some (r, d')) : MC l y_PB_coachMany prog_1_method_50_code 2 (some .int) rm_PB_coachMany 0 [(2, 0)] d (some (0, r)) d' := by
  refine MC.of (by decide) (Nat.le_of_ble_eq_true rfl) ?_
  intro p e s m args below meth c D cA ad A C hlk hr
  replace C : Cx p s m args c prog_1_method_50_code 2 "PollBooks" D cA ad 0 A := C
  show G p l e rm_PB_coachMany s m args below meth c 0 0 (MQ below (fun _ => QC D cA ad 0 A (some .int) (some (0, r)) d') args s 0 0 A) 2 D cA ad 0 A 0 [(2, 0)] [] d
  refine g_sub (lo2 := [(2, 0), (9, 0)]) (lsb_v (lsb_n lsb_e)) ?_
  unfold L_PB_coachMany at h
  refine g_aload_n C 0 rfl (by decide +kernel) ?_
  refine g_getR C cl11 0 10 71 rfl cd_A0 ⟨by decide, rfl, by decide⟩ rfl rfl (nA (by decide)) (ix := 87) lk_477 (by decide +kernel) ?_
  obtain ⟨r2_, d1_, hr3_, h⟩ := bd_some h
  refine g_callV C mw_Ro_coachesSent [] 71 cl8 rfl (ok_Ro_coachesSent  d  hr3_) cd_A71 (by decide) (nA (by decide)) (ix := 433) lk_1392 lk_1393 lk_1394 ⟨rfl, rfl, Nat.le_of_ble_eq_true rfl, Nat.le_of_ble_eq_true rfl⟩ rfl (rest := []) rfl (Nat.le_of_ble_eq_true rfl) ⟨Nat.zero_le _, Nat.zero_le _⟩ (by decide +kernel) (fun _ hc4_ => ?_)
  replace hc4_ : c32 r2_ := hc4_
  refine g_st (st2 := [(0, r2_)]) rfl ?_
  refine s_istore_n C 1 (lo' := [(2, 0), (0, r2_)]) (by decide) (s1n (by decide) s1z) (by decide +kernel) ?_
  refine g_aload_n C 0 rfl (by decide +kernel) ?_
  refine g_iload_n C 1 rfl (by decide +kernel) ?_
  refine g_iconst C (-1) (cK rfl) (by decide +kernel) ?_
  refine g_icmp_ne C (off := 8) (tgt := 19) hc4_ (cK rfl) (by decide +kernel) (by decide) (fun hc5_ => ?_) (fun hc5_ => ?_)
  · replace h := ite_t hc5_ h
    refine g_bipush C 6 (by decide) (by decide +kernel) ?_
    refine g_goto C 20 (off := 4) (by decide +kernel) (by decide) ?_
    refine g_sub (lo2 := [(9, 0), (0, r2_)]) (lsb_c (lsb_v lsb_e)) ?_
    exact ok_PB_coachMany_b20 C hlk hr r2_ 6 d1_ hc4_ (cK rfl) h
  · replace h := ite_f hc5_ h
    refine g_iconst C 0 (cK rfl) (by decide +kernel) ?_
    refine g_sub (lo2 := [(9, 0), (0, r2_)]) (lsb_c (lsb_v lsb_e)) ?_
    exact ok_PB_coachMany_b20 C hlk hr r2_ 0 d1_ hc4_ (c32_cb (Or.inl rfl)) h
/-! PollBooksModel.status()I -/
def y_Mo_status : MethodName := ⟨"PollBooksModel", "status", "()I"⟩
def rm_Mo_status : Room := { frames := 0, cells := 0, slots := 0, locals := 0 }
theorem mw_Mo_status : MW y_Mo_status prog_14_method_2_code 1 (some .int) 0 := ⟨lk_1733, lk_14, by decide +kernel⟩
def L_Mo_status (d : Dt) : Option (Int × Dt) :=
  some ((d 0 0), d)
set_option maxHeartbeats 4000000 in
theorem ok_Mo_status {l : Launch} {r : Int} {d' : Dt} (d : Dt)  (h : L_Mo_status d = some (r, d')) : MC l y_Mo_status prog_14_method_2_code 1 (some .int) rm_Mo_status 1 [(2, 0)] d (some (0, r)) d' := by
  refine MC.of (by decide) (Nat.le_of_ble_eq_true rfl) ?_
  intro p e s m args below meth c D cA ad A C hlk hr
  replace C : Cx p s m args c prog_14_method_2_code 1 "PollBooksModel" D cA ad 1 A := C
  show G p l e rm_Mo_status s m args below meth c 0 0 (MQ below (fun _ => QC D cA ad 1 A (some .int) (some (0, r)) d') args s 0 0 A) 1 D cA ad 1 A 0 [(2, 0)] [] d
  refine g_sub (lo2 := [(2, 0)]) (lsb_v lsb_e) ?_
  unfold L_Mo_status at h
  refine g_aload_n C 0 rfl (by decide +kernel) ?_
  refine g_getI C cl12 0 0 rfl cd_B0 ⟨by decide, rfl, by decide⟩ rfl (nB (by decide)) (ix := 269) lk_1402 (by decide +kernel) (fun hc1_ => ?_)
  obtain ⟨rfl, rfl⟩ := ret_inj h
  exact g_iret C hc1_ hlk hr (by decide +kernel)
/-! PollBooksModel.isTray(I)Z -/
def y_Mo_isTray : MethodName := ⟨"PollBooksModel", "isTray", "(I)Z"⟩
def rm_Mo_isTray : Room := { frames := 0, cells := 0, slots := 0, locals := 0 }
theorem mw_Mo_isTray : MW y_Mo_isTray prog_14_method_6_code 1 (some .boolean) 1 := ⟨lk_1740, lk_14, by decide +kernel⟩
def L_Mo_isTray (p1 : Int) (d : Dt) : Option (Int × Dt) :=
  if p1 < 0 then some (0, d) else if p1 < 4 then some (1, d) else some (0, d)
set_option maxHeartbeats 4000000 in
theorem ok_Mo_isTray {l : Launch} {r : Int} {d' : Dt} (p1 : Int) (d : Dt) (hp1 : c32 p1) (h : L_Mo_isTray p1 d = some (r, d')) : MC l y_Mo_isTray prog_14_method_6_code 1 (some .boolean) rm_Mo_isTray 1 [(0, p1)] d (some (0, r)) d' := by
  refine MC.of (by decide) (Nat.le_of_ble_eq_true rfl) ?_
  intro p e s m args below meth c D cA ad A C hlk hr
  replace C : Cx p s m args c prog_14_method_6_code 1 "PollBooksModel" D cA ad 1 A := C
  show G p l e rm_Mo_isTray s m args below meth c 0 0 (MQ below (fun _ => QC D cA ad 1 A (some .boolean) (some (0, r)) d') args s 0 0 A) 1 D cA ad 1 A 0 [(0, p1)] [] d
  refine g_sub (lo2 := [(0, p1)]) (lsb_v lsb_e) ?_
  unfold L_Mo_isTray at h
  refine g_iload_n C 0 rfl (by decide +kernel) ?_
  refine g_if_lt C (off := 12) (tgt := 13) hp1 (by decide +kernel) (by decide) (fun hc1_ => ?_) (fun hc1_ => ?_)
  · replace h := ite_t hc1_ h
    refine g_iconst C 0 (cK rfl) (by decide +kernel) ?_
    obtain ⟨rfl, rfl⟩ := ret_inj h
    exact g_zret C (Or.inl rfl) hlk hr (by decide +kernel)
  · replace h := ite_f hc1_ h
    refine g_iload_n C 0 rfl (by decide +kernel) ?_
    refine g_iconst C 4 (cK rfl) (by decide +kernel) ?_
    refine g_icmp_ge C (off := 7) (tgt := 13) hp1 (cK rfl) (by decide +kernel) (by decide) (fun hc2_ => ?_) (fun hc2_ => ?_)
    · replace h := ite_t hc2_ h
      refine g_iconst C 1 (cK rfl) (by decide +kernel) ?_
      refine g_goto C 14 (off := 4) (by decide +kernel) (by decide) ?_
      obtain ⟨rfl, rfl⟩ := ret_inj h
      exact g_zret C (Or.inr rfl) hlk hr (by decide +kernel)
    · replace h := ite_f hc2_ h
      refine g_iconst C 0 (cK rfl) (by decide +kernel) ?_
      obtain ⟨rfl, rfl⟩ := ret_inj h
      exact g_zret C (Or.inl rfl) hlk hr (by decide +kernel)
/-! PollBooksModel.is(I)Z -/
def y_Mo_is : MethodName := ⟨"PollBooksModel", "is", "(I)Z"⟩
def rm_Mo_is : Room := { frames := 0, cells := 0, slots := 0, locals := 0 }
theorem mw_Mo_is : MW y_Mo_is prog_14_method_3_code 2 (some .boolean) 1 := ⟨lk_1744, lk_14, by decide +kernel⟩
def L_Mo_is (p1 : Int) (d : Dt) : Option (Int × Dt) :=
  if p1 = 0 then some (1, (up2 d 0 0 p1)) else some (0, (up2 d 0 0 p1))
set_option maxHeartbeats 4000000 in
theorem ok_Mo_is {l : Launch} {r : Int} {d' : Dt} (p1 : Int) (d : Dt) (hp1 : c32 p1) (h : L_Mo_is p1 d = some (r, d')) : MC l y_Mo_is prog_14_method_3_code 2 (some .boolean) rm_Mo_is 1 [(2, 0), (0, p1)] d (some (0, r)) d' := by
  refine MC.of (by decide) (Nat.le_of_ble_eq_true rfl) ?_
  intro p e s m args below meth c D cA ad A C hlk hr
  replace C : Cx p s m args c prog_14_method_3_code 2 "PollBooksModel" D cA ad 1 A := C
  show G p l e rm_Mo_is s m args below meth c 0 0 (MQ below (fun _ => QC D cA ad 1 A (some .boolean) (some (0, r)) d') args s 0 0 A) 2 D cA ad 1 A 0 [(2, 0), (0, p1)] [] d
  refine g_sub (lo2 := [(2, 0), (0, p1)]) (lsb_v (lsb_v lsb_e)) ?_
  unfold L_Mo_is at h
  refine g_aload_n C 0 rfl (by decide +kernel) ?_
  refine g_iload_n C 1 rfl (by decide +kernel) ?_
  refine g_putI C cl12 0 0 hp1 rfl cd_B0 ⟨by decide, rfl, by decide⟩ rfl (nB (by decide)) (ix := 269) lk_1402 rfl rfl (by decide +kernel) ?_
  refine g_iload_n C 1 rfl (by decide +kernel) ?_
  refine g_if_ne C (off := 7) (tgt := 13) hp1 (by decide +kernel) (by decide) (fun hc1_ => ?_) (fun hc1_ => ?_)
  · replace h := ite_t hc1_ h
    refine g_iconst C 1 (cK rfl) (by decide +kernel) ?_
    refine g_goto C 14 (off := 4) (by decide +kernel) (by decide) ?_
    obtain ⟨rfl, rfl⟩ := ret_inj h
    exact g_zret C (Or.inr rfl) hlk hr (by decide +kernel)
  · replace h := ite_f hc1_ h
    refine g_iconst C 0 (cK rfl) (by decide +kernel) ?_
    obtain ⟨rfl, rfl⟩ := ret_inj h
    exact g_zret C (Or.inl rfl) hlk hr (by decide +kernel)
/-! PollBooksModel.tray(III)Z -/
def y_Mo_tray : MethodName := ⟨"PollBooksModel", "tray", "(III)Z"⟩
def rm_Mo_tray : Room := { frames := 1, cells := 0, slots := 0, locals := 21 }
theorem mw_Mo_tray : MW y_Mo_tray prog_14_method_8_code 5 (some .boolean) 3 := ⟨lk_1737, lk_14, by decide +kernel⟩
def L_Mo_tray_y49 (x1 x3 x4 : Int) (d : Dt) : Option ((Int × Int × Int × Dt) ⊕ ((Dt))) :=
  if x4 < x3 then ck ((0 : Int) ≤ (w32 ((w32 (60 * x1)) + x4)) ∧ (w32 ((w32 (60 * x1)) + x4)) < 240) (some (Sum.inl (x1, x3, (w32 (x4 + 1)), (up2 d 3 ((w32 ((w32 (60 * x1)) + x4))).toNat 0)))) else some (Sum.inr (d))
def L_Mo_tray_l49 (x1 x3 x4 : Int) (d : Dt) : Option ((Dt)) := lpF (fun q : Int × Int × Int × Dt => L_Mo_tray_y49 q.1 q.2.1 q.2.2.1 q.2.2.2) FU (x1, x3, x4, d)
def L_Mo_tray_b26 (d : Dt) : Option (Int × Dt) :=
  bd (L_Mo_is 1 d) (fun r4_ d3_ => some (r4_, d3_))
def L_Mo_tray (p1 p2 p3 : Int) (d : Dt) : Option (Int × Dt) :=
  bd (L_Mo_isTray p1 d) (fun r8_ d7_ => if r8_ = 0 then L_Mo_tray_b26 d7_ else if p2 < 0 then L_Mo_tray_b26 d7_ else if 3 < p2 then L_Mo_tray_b26 d7_ else if p3 < 0 then L_Mo_tray_b26 d7_ else if 60 < p3 then L_Mo_tray_b26 d7_ else ck ((0 : Int) ≤ p1 ∧ p1 < 4) (ck ((0 : Int) ≤ p1 ∧ p1 < 4) (lb (L_Mo_tray_l49 p1 p3 0 (up2 (up2 d7_ 1 p1.toNat p2) 2 p1.toNat p3)) (fun q26_ => u0 q26_ (fun d20_ => bd (L_Mo_is 0 d20_) (fun r23_ d22_ => some (r23_, d22_)))))))
set_option maxHeartbeats 4000000 in
theorem ok_Mo_tray_y49 {p : Program} {l : Launch} {e : Env} {s : State} {m : MethodId} {args : Array Value} {below : List Frame} {meth : Method} {c : Code} {D : va_G} {cA : Nat → ClassId} {ad : Nat → Nat} {A : Nat → Prop} (C : Cx p s m args c prog_14_method_8_code 5 "PollBooksModel" D cA ad 1 A) {Q : State → Prop} {o : (Int × Int × Int × Dt) ⊕ ((Dt))} (x1 x3 x4 : Int) (d : Dt) (hx1 : c32 x1) (hx3 : c32 x3) (hx4 : c32 x4) (h : L_Mo_tray_y49 x1 x3 x4 d = some o) (kb : ∀ (y0 y1 y2 : Int) (e' : Dt), o = .inl (y0, y1, y2, e') → c32 y0 → c32 y1 → c32 y2 → G p l e rm_Mo_tray s m args below meth c 0 0 Q 5 D cA ad 1 A 49 [(2, 0), (0, y0), (9, 0), (0, y1), (0, y2)] [] e') (k0 : ∀ (e' : Dt), o = .inr (e') → G p l e rm_Mo_tray s m args below meth c 0 0 Q 5 D cA ad 1 A 74 [(2, 0), (9, 0), (9, 0), (9, 0), (9, 0)] [] e') : G p l e rm_Mo_tray s m args below meth c 0 0 Q 5 D cA ad 1 A 49 [(2, 0), (0, x1), (9, 0), (0, x3), (0, x4)] [] d := by
  unfold L_Mo_tray_y49 at h
  refine g_iload C 4 rfl (by decide +kernel) ?_
  refine g_iload_n C 3 rfl (by decide +kernel) ?_
  refine g_icmp_ge C (off := 22) (tgt := 74) hx4 hx3 (by decide +kernel) (by decide) (fun hc1_ => ?_) (fun hc1_ => ?_)
  · replace h := ite_t hc1_ h
    refine g_aload_n C 0 rfl (by decide +kernel) ?_
    refine g_getR C cl12 0 3 3 rfl cd_B0 ⟨by decide, rfl, by decide⟩ rfl rfl (nB (by decide)) (ix := 16) lk_1405 (by decide +kernel) ?_
    refine g_bipush C 60 (by decide) (by decide +kernel) ?_
    refine g_iload_n C 1 rfl (by decide +kernel) ?_
    refine g_imul C (by decide +kernel) ?_
    refine g_iload C 4 rfl (by decide +kernel) ?_
    refine g_iadd C (by decide +kernel) ?_
    refine g_lconst C 0 (v := 0) (by decide) (by decide +kernel) ?_
    obtain ⟨hb2_, h⟩ := ck_some h
    refine g_last C 3 (cL rfl) (w32_c _) rfl cd_B3 (nB (by decide)) hb2_ (by decide +kernel) ?_
    refine s_iinc C 4 1 (lo' := [(2, 0), (0, x1), (9, 0), (0, x3), (0, (w32 (x4 + 1)))]) rfl (by decide) (s1k (s1k (s1k (s1n (by decide) s1z)))) (by decide +kernel) ?_
    refine g_goto C 49 (off := (-22)) (by decide +kernel) (by decide) ?_
    refine g_sub (lo2 := [(2, 0), (0, x1), (9, 0), (0, x3), (0, (w32 (x4 + 1)))]) (lsb_v (lsb_v (lsb_c (lsb_v (lsb_v lsb_e))))) ?_
    obtain rfl := Option.some.inj h
    exact kb x1 x3 (w32 (x4 + 1)) (up2 d 3 ((w32 ((w32 (60 * x1)) + x4))).toNat 0) rfl hx1 hx3 (w32_c _)
  · replace h := ite_f hc1_ h
    refine g_sub (lo2 := [(2, 0), (9, 0), (9, 0), (9, 0), (9, 0)]) (lsb_v (lsb_c (lsb_c (lsb_c (lsb_c lsb_e))))) ?_
    obtain rfl := Option.some.inj h
    exact k0 d rfl 
set_option maxHeartbeats 4000000 in
theorem ok_Mo_tray_n49 {p : Program} {l : Launch} {e : Env} {s : State} {m : MethodId} {args : Array Value} {below : List Frame} {meth : Method} {c : Code} {D : va_G} {cA : Nat → ClassId} {ad : Nat → Nat} {A : Nat → Prop} (C : Cx p s m args c prog_14_method_8_code 5 "PollBooksModel" D cA ad 1 A) {Q : State → Prop} {x : (Dt)} : ∀ (n : Nat) (x1 x3 x4 : Int) (d : Dt), c32 x1 → c32 x3 → c32 x4 → lpF (fun q : Int × Int × Int × Dt => L_Mo_tray_y49 q.1 q.2.1 q.2.2.1 q.2.2.2) n (x1, x3, x4, d) = some x → (∀ (e' : Dt), x = (e') → G p l e rm_Mo_tray s m args below meth c 0 0 Q 5 D cA ad 1 A 74 [(2, 0), (9, 0), (9, 0), (9, 0), (9, 0)] [] e') → G p l e rm_Mo_tray s m args below meth c 0 0 Q 5 D cA ad 1 A 49 [(2, 0), (0, x1), (9, 0), (0, x3), (0, x4)] [] d := by
  intro n
  induction n with
  | zero => intro x1 x3 x4 d g0 g1 g2 h k0; cases h
  | succ n ih =>
    intro x1 x3 x4 d g0 g1 g2 h k0
    rcases lpF_some h with h | ⟨⟨v0_, v1_, v2_, e0_⟩, h1, h⟩
    · exact ok_Mo_tray_y49 C x1 x3 x4 d g0 g1 g2 h (fun z0_ z1_ z2_ e1_ eq w0_ w1_ w2_ => by cases eq) (fun e1_ eq => k0 _ (by cases eq; rfl) )
    · exact ok_Mo_tray_y49 C x1 x3 x4 d g0 g1 g2 h1 (fun z0_ z1_ z2_ e1_ eq w0_ w1_ w2_ => by cases eq; exact ih _ _ _ _ w0_ w1_ w2_ h k0) (fun e1_ eq => by cases eq)
set_option maxHeartbeats 4000000 in
theorem ok_Mo_tray_l49 {p : Program} {l : Launch} {e : Env} {s : State} {m : MethodId} {args : Array Value} {below : List Frame} {meth : Method} {c : Code} {D : va_G} {cA : Nat → ClassId} {ad : Nat → Nat} {A : Nat → Prop} (C : Cx p s m args c prog_14_method_8_code 5 "PollBooksModel" D cA ad 1 A) {Q : State → Prop} {x : (Dt)} (x1 x3 x4 : Int) (d : Dt) (hx1 : c32 x1) (hx3 : c32 x3) (hx4 : c32 x4) (h : L_Mo_tray_l49 x1 x3 x4 d = some x) (k0 : ∀ (e' : Dt), x = (e') → G p l e rm_Mo_tray s m args below meth c 0 0 Q 5 D cA ad 1 A 74 [(2, 0), (9, 0), (9, 0), (9, 0), (9, 0)] [] e') : G p l e rm_Mo_tray s m args below meth c 0 0 Q 5 D cA ad 1 A 49 [(2, 0), (0, x1), (9, 0), (0, x3), (0, x4)] [] d :=
  ok_Mo_tray_n49 C FU x1 x3 x4 d hx1 hx3 hx4 h k0
set_option maxHeartbeats 4000000 in
theorem ok_Mo_tray_b26 {p : Program} {l : Launch} {e : Env} {s : State} {m : MethodId} {args : Array Value} {below : List Frame} {meth : Method} {c : Code} {D : va_G} {cA : Nat → ClassId} {ad : Nat → Nat} {A : Nat → Prop} (C : Cx p s m args c prog_14_method_8_code 5 "PollBooksModel" D cA ad 1 A) (hlk : meth.locks = false) (hr : meth.sig.returnType = (some .boolean)) {r : Int} {d' : Dt} (d : Dt)  (h : L_Mo_tray_b26 d = some (r, d')) : G p l e rm_Mo_tray s m args below meth c 0 0 (MQ below (fun _ => QC D cA ad 1 A (some .boolean) (some (0, r)) d') args s 0 0 A) 5 D cA ad 1 A 26 [(2, 0), (9, 0), (9, 0), (9, 0), (9, 0)] [] d := by
  unfold L_Mo_tray_b26 at h
  refine g_aload_n C 0 rfl (by decide +kernel) ?_
  refine g_iconst C 1 (cK rfl) (by decide +kernel) ?_
  obtain ⟨r4_, d3_, hr5_, h⟩ := bd_some h
  refine g_callV C mw_Mo_is [(0, 1)] 0 cl12 rfl (ok_Mo_is 1 d (c32_cb (Or.inr rfl)) hr5_) cd_B0 (by decide) (nB (by decide)) (ix := 276) lk_1741 lk_1743 lkp_57 ⟨rfl, rfl, Nat.le_of_ble_eq_true rfl, Nat.le_of_ble_eq_true rfl⟩ rfl (rest := []) rfl (Nat.le_of_ble_eq_true rfl) ⟨Nat.zero_le _, Nat.zero_le _⟩ (by decide +kernel) (fun _ hc6_ => ?_)
  replace hc6_ : cb r4_ := hc6_
  refine g_st (st2 := [(0, r4_)]) rfl ?_
  obtain ⟨rfl, rfl⟩ := ret_inj h
  exact g_zret C hc6_ hlk hr (by decide +kernel)
set_option maxHeartbeats 4000000 in
theorem ok_Mo_tray {l : Launch} {r : Int} {d' : Dt} (p1 p2 p3 : Int) (d : Dt) (hp1 : c32 p1) (hp2 : c32 p2) (hp3 : c32 p3) (h : L_Mo_tray p1 p2 p3 d = some (r, d')) : MC l y_Mo_tray prog_14_method_8_code 5 (some .boolean) rm_Mo_tray 1 [(2, 0), (0, p1), (0, p2), (0, p3)] d (some (0, r)) d' := by
  refine MC.of (by decide) (Nat.le_of_ble_eq_true rfl) ?_
  intro p e s m args below meth c D cA ad A C hlk hr
  replace C : Cx p s m args c prog_14_method_8_code 5 "PollBooksModel" D cA ad 1 A := C
  show G p l e rm_Mo_tray s m args below meth c 0 0 (MQ below (fun _ => QC D cA ad 1 A (some .boolean) (some (0, r)) d') args s 0 0 A) 5 D cA ad 1 A 0 [(2, 0), (0, p1), (0, p2), (0, p3)] [] d
  refine g_sub (lo2 := [(2, 0), (0, p1), (0, p2), (0, p3), (9, 0)]) (lsb_v (lsb_v (lsb_v (lsb_v (lsb_n lsb_e))))) ?_
  unfold L_Mo_tray at h
  refine g_iload_n C 1 rfl (by decide +kernel) ?_
  obtain ⟨r8_, d7_, hr9_, h⟩ := bd_some h
  refine g_callS C mw_Mo_isTray [(0, p1)] (ok_Mo_isTray p1 d hp1 hr9_) (ix := 272) lk_1738 lk_1739 ⟨rfl, rfl, Nat.le_of_ble_eq_true rfl, Nat.le_of_ble_eq_true rfl⟩ rfl (rest := []) rfl (Nat.le_of_ble_eq_true rfl) ⟨Nat.zero_le _, Nat.zero_le _⟩ (by decide +kernel) (fun _ hc10_ => ?_)
  replace hc10_ : cb r8_ := hc10_
  refine g_st (st2 := [(0, r8_)]) rfl ?_
  refine g_if_eq C (off := 22) (tgt := 26) (c32_cb hc10_) (by decide +kernel) (by decide) (fun hc11_ => ?_) (fun hc11_ => ?_)
  · replace h := ite_t hc11_ h
    refine g_sub (lo2 := [(2, 0), (9, 0), (9, 0), (9, 0), (9, 0)]) (lsb_v (lsb_c (lsb_c (lsb_c (lsb_c lsb_e))))) ?_
    exact ok_Mo_tray_b26 C hlk hr d7_  h
  · replace h := ite_f hc11_ h
    refine g_iload_n C 2 rfl (by decide +kernel) ?_
    refine g_if_lt C (off := 18) (tgt := 26) hp2 (by decide +kernel) (by decide) (fun hc12_ => ?_) (fun hc12_ => ?_)
    · replace h := ite_t hc12_ h
      refine g_sub (lo2 := [(2, 0), (9, 0), (9, 0), (9, 0), (9, 0)]) (lsb_v (lsb_c (lsb_c (lsb_c (lsb_c lsb_e))))) ?_
      exact ok_Mo_tray_b26 C hlk hr d7_  h
    · replace h := ite_f hc12_ h
      refine g_iload_n C 2 rfl (by decide +kernel) ?_
      refine g_iconst C 3 (cK rfl) (by decide +kernel) ?_
      refine g_icmp_gt C (off := 13) (tgt := 26) hp2 (cK rfl) (by decide +kernel) (by decide) (fun hc13_ => ?_) (fun hc13_ => ?_)
      · replace h := ite_t hc13_ h
        refine g_sub (lo2 := [(2, 0), (9, 0), (9, 0), (9, 0), (9, 0)]) (lsb_v (lsb_c (lsb_c (lsb_c (lsb_c lsb_e))))) ?_
        exact ok_Mo_tray_b26 C hlk hr d7_  h
      · replace h := ite_f hc13_ h
        refine g_iload_n C 3 rfl (by decide +kernel) ?_
        refine g_if_lt C (off := 9) (tgt := 26) hp3 (by decide +kernel) (by decide) (fun hc14_ => ?_) (fun hc14_ => ?_)
        · replace h := ite_t hc14_ h
          refine g_sub (lo2 := [(2, 0), (9, 0), (9, 0), (9, 0), (9, 0)]) (lsb_v (lsb_c (lsb_c (lsb_c (lsb_c lsb_e))))) ?_
          exact ok_Mo_tray_b26 C hlk hr d7_  h
        · replace h := ite_f hc14_ h
          refine g_iload_n C 3 rfl (by decide +kernel) ?_
          refine g_bipush C 60 (by decide) (by decide +kernel) ?_
          refine g_icmp_le C (off := 9) (tgt := 32) hp3 (cK rfl) (by decide +kernel) (by decide) (fun hc15_ => ?_) (fun hc15_ => ?_)
          · replace h := ite_t hc15_ h
            refine g_sub (lo2 := [(2, 0), (9, 0), (9, 0), (9, 0), (9, 0)]) (lsb_v (lsb_c (lsb_c (lsb_c (lsb_c lsb_e))))) ?_
            exact ok_Mo_tray_b26 C hlk hr d7_  h
          · replace h := ite_f hc15_ h
            refine g_aload_n C 0 rfl (by decide +kernel) ?_
            refine g_getR C cl12 0 1 1 rfl cd_B0 ⟨by decide, rfl, by decide⟩ rfl rfl (nB (by decide)) (ix := 7) lk_1403 (by decide +kernel) ?_
            refine g_iload_n C 1 rfl (by decide +kernel) ?_
            refine g_iload_n C 2 rfl (by decide +kernel) ?_
            obtain ⟨hb16_, h⟩ := ck_some h
            refine g_iast C 1 hp2 hp1 rfl cd_B1 (nB (by decide)) hb16_ (by decide +kernel) ?_
            refine g_aload_n C 0 rfl (by decide +kernel) ?_
            refine g_getR C cl12 0 2 2 rfl cd_B0 ⟨by decide, rfl, by decide⟩ rfl rfl (nB (by decide)) (ix := 13) lk_1404 (by decide +kernel) ?_
            refine g_iload_n C 1 rfl (by decide +kernel) ?_
            refine g_iload_n C 3 rfl (by decide +kernel) ?_
            obtain ⟨hb17_, h⟩ := ck_some h
            refine g_iast C 2 hp3 hp1 rfl cd_B2 (nB (by decide)) hb17_ (by decide +kernel) ?_
            refine g_iconst C 0 (cK rfl) (by decide +kernel) ?_
            refine s_istore C 4 (lo' := [(2, 0), (0, p1), (0, p2), (0, p3), (0, 0)]) (by decide) (s1k (s1k (s1k (s1n (by decide) s1z)))) (by decide +kernel) ?_
            refine g_sub (lo2 := [(2, 0), (0, p1), (9, 0), (0, p3), (0, 0)]) (lsb_v (lsb_v (lsb_c (lsb_v (lsb_v lsb_e))))) ?_
            obtain ⟨x18_, hx19_, h⟩ := lb_some h
            refine ok_Mo_tray_l49 C p1 p3 0 (up2 (up2 d7_ 1 p1.toNat p2) 2 p1.toNat p3) hp1 hp3 (c32_cb (Or.inl rfl)) hx19_ (fun d20_ eq21_ => ?_)
            replace eq21_ := eq21_.symm
            subst eq21_
            replace h := u0_e h
            refine g_aload_n C 0 rfl (by decide +kernel) ?_
            refine g_iconst C 0 (cK rfl) (by decide +kernel) ?_
            obtain ⟨r23_, d22_, hr24_, h⟩ := bd_some h
            refine g_callV C mw_Mo_is [(0, 0)] 0 cl12 rfl (ok_Mo_is 0 d20_ (c32_cb (Or.inl rfl)) hr24_) cd_B0 (by decide) (nB (by decide)) (ix := 276) lk_1741 lk_1743 lkp_57 ⟨rfl, rfl, Nat.le_of_ble_eq_true rfl, Nat.le_of_ble_eq_true rfl⟩ rfl (rest := []) rfl (Nat.le_of_ble_eq_true rfl) ⟨Nat.zero_le _, Nat.zero_le _⟩ (by decide +kernel) (fun _ hc25_ => ?_)
            replace hc25_ : cb r23_ := hc25_
            refine g_st (st2 := [(0, r23_)]) rfl ?_
            obtain ⟨rfl, rfl⟩ := ret_inj h
            exact g_zret C hc25_ hlk hr (by decide +kernel)
/-! PollBooksModel.wrongPlace(II)I -/
def y_Mo_wrongPlace : MethodName := ⟨"PollBooksModel", "wrongPlace", "(II)I"⟩
def rm_Mo_wrongPlace : Room := { frames := 1, cells := 0, slots := 0, locals := 20 }
theorem mw_Mo_wrongPlace : MW y_Mo_wrongPlace prog_14_method_9_code 3 (some .int) 2 := ⟨lk_1752, lk_14, by decide +kernel⟩
def L_Mo_wrongPlace (p1 p2 : Int) (d : Dt) : Option (Int × Dt) :=
  bd (L_Mo_isTray p1 d) (fun r2_ d1_ => if r2_ = 0 then some (1, d1_) else ck ((0 : Int) ≤ p1 ∧ p1 < 4) (if (d1_ 2 p1.toNat) = (-1) then some (2, d1_) else if p2 < 0 then some (3, d1_) else ck ((0 : Int) ≤ p1 ∧ p1 < 4) (if p2 < (d1_ 2 p1.toNat) then some (0, d1_) else some (3, d1_))))
set_option maxHeartbeats 4000000 in
theorem ok_Mo_wrongPlace {l : Launch} {r : Int} {d' : Dt} (p1 p2 : Int) (d : Dt) (hp1 : c32 p1) (hp2 : c32 p2) (h : L_Mo_wrongPlace p1 p2 d = some (r, d')) : MC l y_Mo_wrongPlace prog_14_method_9_code 3 (some .int) rm_Mo_wrongPlace 1 [(2, 0), (0, p1), (0, p2)] d (some (0, r)) d' := by
  refine MC.of (by decide) (Nat.le_of_ble_eq_true rfl) ?_
  intro p e s m args below meth c D cA ad A C hlk hr
  replace C : Cx p s m args c prog_14_method_9_code 3 "PollBooksModel" D cA ad 1 A := C
  show G p l e rm_Mo_wrongPlace s m args below meth c 0 0 (MQ below (fun _ => QC D cA ad 1 A (some .int) (some (0, r)) d') args s 0 0 A) 3 D cA ad 1 A 0 [(2, 0), (0, p1), (0, p2)] [] d
  refine g_sub (lo2 := [(2, 0), (0, p1), (0, p2)]) (lsb_v (lsb_v (lsb_v lsb_e))) ?_
  unfold L_Mo_wrongPlace at h
  refine g_iload_n C 1 rfl (by decide +kernel) ?_
  obtain ⟨r2_, d1_, hr3_, h⟩ := bd_some h
  refine g_callS C mw_Mo_isTray [(0, p1)] (ok_Mo_isTray p1 d hp1 hr3_) (ix := 272) lk_1738 lk_1739 ⟨rfl, rfl, Nat.le_of_ble_eq_true rfl, Nat.le_of_ble_eq_true rfl⟩ rfl (rest := []) rfl (Nat.le_of_ble_eq_true rfl) ⟨Nat.zero_le _, Nat.zero_le _⟩ (by decide +kernel) (fun _ hc4_ => ?_)
  replace hc4_ : cb r2_ := hc4_
  refine g_st (st2 := [(0, r2_)]) rfl ?_
  refine g_if_ne C (off := 7) (tgt := 11) (c32_cb hc4_) (by decide +kernel) (by decide) (fun hc5_ => ?_) (fun hc5_ => ?_)
  · replace h := ite_t hc5_ h
    refine g_iconst C 1 (cK rfl) (by decide +kernel) ?_
    refine g_goto C 44 (off := 36) (by decide +kernel) (by decide) ?_
    obtain ⟨rfl, rfl⟩ := ret_inj h
    exact g_iret C (c32_cb (Or.inr rfl)) hlk hr (by decide +kernel)
  · replace h := ite_f hc5_ h
    refine g_aload_n C 0 rfl (by decide +kernel) ?_
    refine g_getR C cl12 0 2 2 rfl cd_B0 ⟨by decide, rfl, by decide⟩ rfl rfl (nB (by decide)) (ix := 13) lk_1404 (by decide +kernel) ?_
    refine g_iload_n C 1 rfl (by decide +kernel) ?_
    obtain ⟨hb6_, h⟩ := ck_some h
    refine g_iald C 2 hp1 rfl cd_B2 (nB (by decide)) hb6_ (by decide +kernel) (fun hc7_ => ?_)
    refine g_iconst C (-1) (cK rfl) (by decide +kernel) ?_
    refine g_icmp_ne C (off := 7) (tgt := 25) hc7_ (cK rfl) (by decide +kernel) (by decide) (fun hc8_ => ?_) (fun hc8_ => ?_)
    · replace h := ite_t hc8_ h
      refine g_iconst C 2 (cK rfl) (by decide +kernel) ?_
      refine g_goto C 44 (off := 22) (by decide +kernel) (by decide) ?_
      obtain ⟨rfl, rfl⟩ := ret_inj h
      exact g_iret C (cK rfl) hlk hr (by decide +kernel)
    · replace h := ite_f hc8_ h
      refine g_iload_n C 2 rfl (by decide +kernel) ?_
      refine g_if_lt C (off := 13) (tgt := 39) hp2 (by decide +kernel) (by decide) (fun hc9_ => ?_) (fun hc9_ => ?_)
      · replace h := ite_t hc9_ h
        refine g_iconst C 3 (cK rfl) (by decide +kernel) ?_
        refine g_goto C 44 (off := 4) (by decide +kernel) (by decide) ?_
        obtain ⟨rfl, rfl⟩ := ret_inj h
        exact g_iret C (cK rfl) hlk hr (by decide +kernel)
      · replace h := ite_f hc9_ h
        refine g_iload_n C 2 rfl (by decide +kernel) ?_
        refine g_aload_n C 0 rfl (by decide +kernel) ?_
        refine g_getR C cl12 0 2 2 rfl cd_B0 ⟨by decide, rfl, by decide⟩ rfl rfl (nB (by decide)) (ix := 13) lk_1404 (by decide +kernel) ?_
        refine g_iload_n C 1 rfl (by decide +kernel) ?_
        obtain ⟨hb10_, h⟩ := ck_some h
        refine g_iald C 2 hp1 rfl cd_B2 (nB (by decide)) hb10_ (by decide +kernel) (fun hc11_ => ?_)
        refine g_icmp_lt C (off := 7) (tgt := 43) hp2 hc11_ (by decide +kernel) (by decide) (fun hc12_ => ?_) (fun hc12_ => ?_)
        · replace h := ite_t hc12_ h
          refine g_iconst C 0 (cK rfl) (by decide +kernel) ?_
          obtain ⟨rfl, rfl⟩ := ret_inj h
          exact g_iret C (c32_cb (Or.inl rfl)) hlk hr (by decide +kernel)
        · replace h := ite_f hc12_ h
          refine g_iconst C 3 (cK rfl) (by decide +kernel) ?_
          refine g_goto C 44 (off := 4) (by decide +kernel) (by decide) ?_
          obtain ⟨rfl, rfl⟩ := ret_inj h
          exact g_iret C (cK rfl) hlk hr (by decide +kernel)
/-! PollBooksModel.cut(JI)J -/
def y_Mo_cut : MethodName := ⟨"PollBooksModel", "cut", "(JI)J"⟩
def rm_Mo_cut : Room := { frames := 0, cells := 0, slots := 0, locals := 0 }
theorem mw_Mo_cut : MW y_Mo_cut prog_14_method_7_code 3 (some .long) 2 := ⟨lk_1755, lk_14, by decide +kernel⟩
def L_Mo_cut (p1 p2 : Int) (d : Dt) : Option (Int × Dt) :=
  if p2 = 0 then some ((w8 (w32 p1)), d) else if p2 = 1 then some ((w16 (w32 p1)), d) else if p2 = 2 then some ((w32 p1), d) else some (p1, d)
set_option maxHeartbeats 4000000 in
theorem ok_Mo_cut {l : Launch} {r : Int} {d' : Dt} (p1 p2 : Int) (d : Dt) (hp1 : c64 p1) (hp2 : c32 p2) (h : L_Mo_cut p1 p2 d = some (r, d')) : MC l y_Mo_cut prog_14_method_7_code 3 (some .long) rm_Mo_cut 1 [(1, p1), (0, p2)] d (some (1, r)) d' := by
  refine MC.of (by decide) (Nat.le_of_ble_eq_true rfl) ?_
  intro p e s m args below meth c D cA ad A C hlk hr
  replace C : Cx p s m args c prog_14_method_7_code 3 "PollBooksModel" D cA ad 1 A := C
  show G p l e rm_Mo_cut s m args below meth c 0 0 (MQ below (fun _ => QC D cA ad 1 A (some .long) (some (1, r)) d') args s 0 0 A) 3 D cA ad 1 A 0 [(1, p1), (9, 0), (0, p2)] [] d
  refine g_sub (lo2 := [(1, p1), (9, 0), (0, p2)]) (lsb_v (lsb_c (lsb_v lsb_e))) ?_
  unfold L_Mo_cut at h
  refine g_iload_n C 2 rfl (by decide +kernel) ?_
  refine g_if_ne C (off := 10) (tgt := 11) hp2 (by decide +kernel) (by decide) (fun hc1_ => ?_) (fun hc1_ => ?_)
  · replace h := ite_t hc1_ h
    refine g_lload_n C 0 rfl (by decide +kernel) ?_
    refine g_l2i C (by decide +kernel) ?_
    refine g_i2b C (w32_c _) (by decide +kernel) ?_
    refine g_i2l C (c32_8 _) (by decide +kernel) ?_
    refine g_goto C 35 (off := 27) (by decide +kernel) (by decide) ?_
    obtain ⟨rfl, rfl⟩ := ret_inj h
    exact g_lret C (c64_32 (c32_8 _)) hlk hr (by decide +kernel)
  · replace h := ite_f hc1_ h
    refine g_iload_n C 2 rfl (by decide +kernel) ?_
    refine g_iconst C 1 (cK rfl) (by decide +kernel) ?_
    refine g_icmp_ne C (off := 10) (tgt := 23) hp2 (c32_cb (Or.inr rfl)) (by decide +kernel) (by decide) (fun hc2_ => ?_) (fun hc2_ => ?_)
    · replace h := ite_t hc2_ h
      refine g_lload_n C 0 rfl (by decide +kernel) ?_
      refine g_l2i C (by decide +kernel) ?_
      refine g_i2s C (w32_c _) (by decide +kernel) ?_
      refine g_i2l C (c32_16 _) (by decide +kernel) ?_
      refine g_goto C 35 (off := 15) (by decide +kernel) (by decide) ?_
      obtain ⟨rfl, rfl⟩ := ret_inj h
      exact g_lret C (c64_32 (c32_16 _)) hlk hr (by decide +kernel)
    · replace h := ite_f hc2_ h
      refine g_iload_n C 2 rfl (by decide +kernel) ?_
      refine g_iconst C 2 (cK rfl) (by decide +kernel) ?_
      refine g_icmp_ne C (off := 9) (tgt := 34) hp2 (cK rfl) (by decide +kernel) (by decide) (fun hc3_ => ?_) (fun hc3_ => ?_)
      · replace h := ite_t hc3_ h
        refine g_lload_n C 0 rfl (by decide +kernel) ?_
        refine g_l2i C (by decide +kernel) ?_
        refine g_i2l C (w32_c _) (by decide +kernel) ?_
        refine g_goto C 35 (off := 4) (by decide +kernel) (by decide) ?_
        obtain ⟨rfl, rfl⟩ := ret_inj h
        exact g_lret C (c64_32 (w32_c _)) hlk hr (by decide +kernel)
      · replace h := ite_f hc3_ h
        refine g_lload_n C 0 rfl (by decide +kernel) ?_
        obtain ⟨rfl, rfl⟩ := ret_inj h
        exact g_lret C hp1 hlk hr (by decide +kernel)
/-! PollBooksModel.write(IIJ)Z -/
def y_Mo_write : MethodName := ⟨"PollBooksModel", "write", "(IIJ)Z"⟩
def rm_Mo_write : Room := { frames := 2, cells := 0, slots := 0, locals := 42 }
theorem mw_Mo_write : MW y_Mo_write prog_14_method_10_code 6 (some .boolean) 3 := ⟨lk_1748, lk_14, by decide +kernel⟩
def L_Mo_write_b34 (x5 : Int) (d : Dt) : Option (Int × Dt) :=
  bd (L_Mo_is x5 d) (fun r2_ d1_ => some (r2_, d1_))
def L_Mo_write (p1 p2 p3 : Int) (d : Dt) : Option (Int × Dt) :=
  bd (L_Mo_wrongPlace p1 p2 d) (fun r6_ d5_ => if r6_ = 0 then ck ((0 : Int) ≤ p1 ∧ p1 < 4) (bd (L_Mo_cut p3 (d5_ 1 p1.toNat) d5_) (fun r13_ d12_ => ck ((0 : Int) ≤ (w32 ((w32 (60 * p1)) + p2)) ∧ (w32 ((w32 (60 * p1)) + p2)) < 240) (L_Mo_write_b34 r6_ (up2 d12_ 3 ((w32 ((w32 (60 * p1)) + p2))).toNat r13_)))) else L_Mo_write_b34 r6_ d5_)
set_option maxHeartbeats 4000000 in
theorem ok_Mo_write_b34 {p : Program} {l : Launch} {e : Env} {s : State} {m : MethodId} {args : Array Value} {below : List Frame} {meth : Method} {c : Code} {D : va_G} {cA : Nat → ClassId} {ad : Nat → Nat} {A : Nat → Prop} (C : Cx p s m args c prog_14_method_10_code 6 "PollBooksModel" D cA ad 1 A) (hlk : meth.locks = false) (hr : meth.sig.returnType = (some .boolean)) {r : Int} {d' : Dt} (x5 : Int) (d : Dt) (hx5 : c32 x5) (h : L_Mo_write_b34 x5 d = some (r, d')) : G p l e rm_Mo_write s m args below meth c 0 0 (MQ below (fun _ => QC D cA ad 1 A (some .boolean) (some (0, r)) d') args s 0 0 A) 6 D cA ad 1 A 34 [(2, 0), (9, 0), (9, 0), (9, 0), (9, 0), (0, x5)] [] d := by
  unfold L_Mo_write_b34 at h
  refine g_aload_n C 0 rfl (by decide +kernel) ?_
  refine g_iload C 5 rfl (by decide +kernel) ?_
  obtain ⟨r2_, d1_, hr3_, h⟩ := bd_some h
  refine g_callV C mw_Mo_is [(0, x5)] 0 cl12 rfl (ok_Mo_is x5 d hx5 hr3_) cd_B0 (by decide) (nB (by decide)) (ix := 276) lk_1741 lk_1743 lkp_57 ⟨rfl, rfl, Nat.le_of_ble_eq_true rfl, Nat.le_of_ble_eq_true rfl⟩ rfl (rest := []) rfl (Nat.le_of_ble_eq_true rfl) ⟨Nat.zero_le _, Nat.zero_le _⟩ (by decide +kernel) (fun _ hc4_ => ?_)
  replace hc4_ : cb r2_ := hc4_
  refine g_st (st2 := [(0, r2_)]) rfl ?_
  obtain ⟨rfl, rfl⟩ := ret_inj h
  exact g_zret C hc4_ hlk hr (by decide +kernel)
set_option maxHeartbeats 4000000 in
theorem ok_Mo_write {l : Launch} {r : Int} {d' : Dt} (p1 p2 p3 : Int) (d : Dt) (hp1 : c32 p1) (hp2 : c32 p2) (hp3 : c64 p3) (h : L_Mo_write p1 p2 p3 d = some (r, d')) : MC l y_Mo_write prog_14_method_10_code 6 (some .boolean) rm_Mo_write 1 [(2, 0), (0, p1), (0, p2), (1, p3)] d (some (0, r)) d' := by
  refine MC.of (by decide) (Nat.le_of_ble_eq_true rfl) ?_
  intro p e s m args below meth c D cA ad A C hlk hr
  replace C : Cx p s m args c prog_14_method_10_code 6 "PollBooksModel" D cA ad 1 A := C
  show G p l e rm_Mo_write s m args below meth c 0 0 (MQ below (fun _ => QC D cA ad 1 A (some .boolean) (some (0, r)) d') args s 0 0 A) 6 D cA ad 1 A 0 [(2, 0), (0, p1), (0, p2), (1, p3), (9, 0)] [] d
  refine g_sub (lo2 := [(2, 0), (0, p1), (0, p2), (1, p3), (9, 0), (9, 0)]) (lsb_v (lsb_v (lsb_v (lsb_v (lsb_c (lsb_n lsb_e)))))) ?_
  unfold L_Mo_write at h
  refine g_aload_n C 0 rfl (by decide +kernel) ?_
  refine g_iload_n C 1 rfl (by decide +kernel) ?_
  refine g_iload_n C 2 rfl (by decide +kernel) ?_
  obtain ⟨r6_, d5_, hr7_, h⟩ := bd_some h
  refine g_callV C mw_Mo_wrongPlace [(0, p1), (0, p2)] 0 cl12 rfl (ok_Mo_wrongPlace p1 p2 d hp1 hp2 hr7_) cd_B0 (by decide) (nB (by decide)) (ix := 279) lk_1749 lk_1751 lkp_58 ⟨rfl, rfl, Nat.le_of_ble_eq_true rfl, Nat.le_of_ble_eq_true rfl⟩ rfl (rest := []) rfl (Nat.le_of_ble_eq_true rfl) ⟨Nat.zero_le _, Nat.zero_le _⟩ (by decide +kernel) (fun _ hc8_ => ?_)
  replace hc8_ : c32 r6_ := hc8_
  refine g_st (st2 := [(0, r6_)]) rfl ?_
  refine s_istore C 5 (lo' := [(2, 0), (0, p1), (0, p2), (1, p3), (9, 0), (0, r6_)]) (by decide) (s1k (s1k (s1k (s1k (s1n (by decide) s1z))))) (by decide +kernel) ?_
  refine g_iload C 5 rfl (by decide +kernel) ?_
  refine g_if_ne C (off := 24) (tgt := 34) hc8_ (by decide +kernel) (by decide) (fun hc9_ => ?_) (fun hc9_ => ?_)
  · replace h := ite_t hc9_ h
    refine g_aload_n C 0 rfl (by decide +kernel) ?_
    refine g_getR C cl12 0 3 3 rfl cd_B0 ⟨by decide, rfl, by decide⟩ rfl rfl (nB (by decide)) (ix := 16) lk_1405 (by decide +kernel) ?_
    refine g_bipush C 60 (by decide) (by decide +kernel) ?_
    refine g_iload_n C 1 rfl (by decide +kernel) ?_
    refine g_imul C (by decide +kernel) ?_
    refine g_iload_n C 2 rfl (by decide +kernel) ?_
    refine g_iadd C (by decide +kernel) ?_
    refine g_lload_n C 3 rfl (by decide +kernel) ?_
    refine g_aload_n C 0 rfl (by decide +kernel) ?_
    refine g_getR C cl12 0 1 1 rfl cd_B0 ⟨by decide, rfl, by decide⟩ rfl rfl (nB (by decide)) (ix := 7) lk_1403 (by decide +kernel) ?_
    refine g_iload_n C 1 rfl (by decide +kernel) ?_
    obtain ⟨hb10_, h⟩ := ck_some h
    refine g_iald C 1 hp1 rfl cd_B1 (nB (by decide)) hb10_ (by decide +kernel) (fun hc11_ => ?_)
    obtain ⟨r13_, d12_, hr14_, h⟩ := bd_some h
    refine g_callS C mw_Mo_cut [(1, p3), (0, (d5_ 1 p1.toNat))] (ok_Mo_cut p3 (d5_ 1 p1.toNat) d5_ hp3 hc11_ hr14_) (ix := 283) lk_1753 lk_1754 ⟨rfl, rfl, Nat.le_of_ble_eq_true rfl, Nat.le_of_ble_eq_true rfl⟩ rfl (rest := [(0, (w32 ((w32 (60 * p1)) + p2))), (2, 3)]) rfl (Nat.le_of_ble_eq_true rfl) ⟨Nat.zero_le _, Nat.zero_le _⟩ (by decide +kernel) (fun _ hc15_ => ?_)
    replace hc15_ : c64 r13_ := hc15_
    refine g_st (st2 := [(1, r13_), (0, (w32 ((w32 (60 * p1)) + p2))), (2, 3)]) rfl ?_
    obtain ⟨hb16_, h⟩ := ck_some h
    refine g_last C 3 hc15_ (w32_c _) rfl cd_B3 (nB (by decide)) hb16_ (by decide +kernel) ?_
    refine g_sub (lo2 := [(2, 0), (9, 0), (9, 0), (9, 0), (9, 0), (0, r6_)]) (lsb_v (lsb_c (lsb_c (lsb_c (lsb_c (lsb_v lsb_e)))))) ?_
    exact ok_Mo_write_b34 C hlk hr r6_ (up2 d12_ 3 ((w32 ((w32 (60 * p1)) + p2))).toNat r13_) hc8_ h
  · replace h := ite_f hc9_ h
    refine g_sub (lo2 := [(2, 0), (9, 0), (9, 0), (9, 0), (9, 0), (0, r6_)]) (lsb_v (lsb_c (lsb_c (lsb_c (lsb_c (lsb_v lsb_e)))))) ?_
    exact ok_Mo_write_b34 C hlk hr r6_ d5_ hc8_ h
/-! PollBooksModel.read(II)J -/
def y_Mo_read : MethodName := ⟨"PollBooksModel", "read", "(II)J"⟩
def rm_Mo_read : Room := { frames := 2, cells := 0, slots := 0, locals := 42 }
theorem mw_Mo_read : MW y_Mo_read prog_14_method_11_code 3 (some .long) 2 := ⟨lk_1759, lk_14, by decide +kernel⟩
def L_Mo_read (p1 p2 : Int) (d : Dt) : Option (Int × Dt) :=
  bd (L_Mo_wrongPlace p1 p2 d) (fun r2_ d1_ => if 0 < r2_ then some ((-1), (up2 d1_ 0 0 r2_)) else ck ((0 : Int) ≤ (w32 ((w32 (60 * p1)) + p2)) ∧ (w32 ((w32 (60 * p1)) + p2)) < 240) (some ((d1_ 3 ((w32 ((w32 (60 * p1)) + p2))).toNat), (up2 d1_ 0 0 r2_))))
set_option maxHeartbeats 4000000 in
theorem ok_Mo_read {l : Launch} {r : Int} {d' : Dt} (p1 p2 : Int) (d : Dt) (hp1 : c32 p1) (hp2 : c32 p2) (h : L_Mo_read p1 p2 d = some (r, d')) : MC l y_Mo_read prog_14_method_11_code 3 (some .long) rm_Mo_read 1 [(2, 0), (0, p1), (0, p2)] d (some (1, r)) d' := by
  refine MC.of (by decide) (Nat.le_of_ble_eq_true rfl) ?_
  intro p e s m args below meth c D cA ad A C hlk hr
  replace C : Cx p s m args c prog_14_method_11_code 3 "PollBooksModel" D cA ad 1 A := C
  show G p l e rm_Mo_read s m args below meth c 0 0 (MQ below (fun _ => QC D cA ad 1 A (some .long) (some (1, r)) d') args s 0 0 A) 3 D cA ad 1 A 0 [(2, 0), (0, p1), (0, p2)] [] d
  refine g_sub (lo2 := [(2, 0), (0, p1), (0, p2)]) (lsb_v (lsb_v (lsb_v lsb_e))) ?_
  unfold L_Mo_read at h
  refine g_aload_n C 0 rfl (by decide +kernel) ?_
  refine g_aload_n C 0 rfl (by decide +kernel) ?_
  refine g_iload_n C 1 rfl (by decide +kernel) ?_
  refine g_iload_n C 2 rfl (by decide +kernel) ?_
  obtain ⟨r2_, d1_, hr3_, h⟩ := bd_some h
  refine g_callV C mw_Mo_wrongPlace [(0, p1), (0, p2)] 0 cl12 rfl (ok_Mo_wrongPlace p1 p2 d hp1 hp2 hr3_) cd_B0 (by decide) (nB (by decide)) (ix := 279) lk_1749 lk_1751 lkp_58 ⟨rfl, rfl, Nat.le_of_ble_eq_true rfl, Nat.le_of_ble_eq_true rfl⟩ rfl (rest := [(2, 0)]) rfl (Nat.le_of_ble_eq_true rfl) ⟨Nat.zero_le _, Nat.zero_le _⟩ (by decide +kernel) (fun _ hc4_ => ?_)
  replace hc4_ : c32 r2_ := hc4_
  refine g_st (st2 := [(0, r2_), (2, 0)]) rfl ?_
  refine g_putI C cl12 0 0 hc4_ rfl cd_B0 ⟨by decide, rfl, by decide⟩ rfl (nB (by decide)) (ix := 269) lk_1402 rfl rfl (by decide +kernel) ?_
  refine g_aload_n C 0 rfl (by decide +kernel) ?_
  refine g_getI C cl12 0 0 rfl cd_B0 ⟨by decide, rfl, by decide⟩ rfl (nB (by decide)) (ix := 269) lk_1402 (by decide +kernel) (fun hc5_ => ?_)
  refine g_val (y := r2_) rfl ?_
  replace hc5_ : c32 r2_ := hc5_
  refine g_if_le C (off := 9) (tgt := 23) hc5_ (by decide +kernel) (by decide) (fun hc6_ => ?_) (fun hc6_ => ?_)
  · replace h := ite_t hc6_ h
    refine g_ldc2 C (ix := 287) (v := (-1)) lk_1760 (by decide +kernel) ?_
    refine g_goto C 34 (off := 14) (by decide +kernel) (by decide) ?_
    obtain ⟨rfl, rfl⟩ := ret_inj h
    exact g_lret C (cL rfl) hlk hr (by decide +kernel)
  · replace h := ite_f hc6_ h
    refine g_aload_n C 0 rfl (by decide +kernel) ?_
    refine g_getR C cl12 0 3 3 rfl cd_B0 ⟨by decide, rfl, by decide⟩ rfl rfl (nB (by decide)) (ix := 16) lk_1405 (by decide +kernel) ?_
    refine g_bipush C 60 (by decide) (by decide +kernel) ?_
    refine g_iload_n C 1 rfl (by decide +kernel) ?_
    refine g_imul C (by decide +kernel) ?_
    refine g_iload_n C 2 rfl (by decide +kernel) ?_
    refine g_iadd C (by decide +kernel) ?_
    obtain ⟨hb7_, h⟩ := ck_some h
    refine g_lald C 3 (w32_c _) rfl cd_B3 (nB (by decide)) hb7_ (by decide +kernel) (fun hc8_ => ?_)
    refine g_val (y := (d1_ 3 ((w32 ((w32 (60 * p1)) + p2))).toNat)) rfl ?_
    replace hc8_ : c64 (d1_ 3 ((w32 ((w32 (60 * p1)) + p2))).toNat) := hc8_
    obtain ⟨rfl, rfl⟩ := ret_inj h
    exact g_lret C hc8_ hlk hr (by decide +kernel)
/-! PollBooksModel.pour(IIIII)Z -/
def y_Mo_pour : MethodName := ⟨"PollBooksModel", "pour", "(IIIII)Z"⟩
def rm_Mo_pour : Room := { frames := 1, cells := 0, slots := 0, locals := 21 }
theorem mw_Mo_pour : MW y_Mo_pour prog_14_method_12_code 8 (some .boolean) 5 := ⟨lk_1764, lk_14, by decide +kernel⟩
def L_Mo_pour_b143 (x1 x2 x3 x4 x5 x6 s0 : Int) (d : Dt) : Option ((Int × Int × Int × Int × Int × Int × Dt) ⊕ ((Dt))) :=
  ck ((0 : Int) ≤ (w32 ((w32 ((w32 (60 * x1)) + x2)) + s0)) ∧ (w32 ((w32 ((w32 (60 * x1)) + x2)) + s0)) < 240) (ck ((0 : Int) ≤ (w32 ((w32 ((w32 (60 * x3)) + x4)) + s0)) ∧ (w32 ((w32 ((w32 (60 * x3)) + x4)) + s0)) < 240) (some (Sum.inl (x1, x2, x3, x4, x5, (w32 (x6 + 1)), (up2 d 3 ((w32 ((w32 ((w32 (60 * x3)) + x4)) + s0))).toNat (d 3 ((w32 ((w32 ((w32 (60 * x1)) + x2)) + s0))).toNat))))))
def L_Mo_pour_y118 (x1 x2 x3 x4 x5 x6 : Int) (d : Dt) : Option ((Int × Int × Int × Int × Int × Int × Dt) ⊕ ((Dt))) :=
  if x6 < x5 then if x2 < x4 then L_Mo_pour_b143 x1 x2 x3 x4 x5 x6 (w32 ((w32 (x5 - 1)) - x6)) d else L_Mo_pour_b143 x1 x2 x3 x4 x5 x6 x6 d else some (Sum.inr (d))
def L_Mo_pour_l118 (x1 x2 x3 x4 x5 x6 : Int) (d : Dt) : Option ((Dt)) := lpF (fun q : Int × Int × Int × Int × Int × Int × Dt => L_Mo_pour_y118 q.1 q.2.1 q.2.2.1 q.2.2.2.1 q.2.2.2.2.1 q.2.2.2.2.2.1 q.2.2.2.2.2.2) FU (x1, x2, x3, x4, x5, x6, d)
def L_Mo_pour_b28 (d : Dt) : Option (Int × Dt) :=
  bd (L_Mo_is 1 d) (fun r7_ d6_ => some (r7_, d6_))
def L_Mo_pour_b54 (d : Dt) : Option (Int × Dt) :=
  bd (L_Mo_is 2 d) (fun r11_ d10_ => some (r11_, d10_))
def L_Mo_pour_b109 (d : Dt) : Option (Int × Dt) :=
  bd (L_Mo_is 3 d) (fun r15_ d14_ => some (r15_, d14_))
def L_Mo_pour (p1 p2 p3 p4 p5 : Int) (d : Dt) : Option (Int × Dt) :=
  bd (L_Mo_isTray p1 d) (fun r19_ d18_ => if r19_ = 0 then L_Mo_pour_b28 d18_ else bd (L_Mo_isTray p3 d18_) (fun r24_ d23_ => if r24_ = 0 then L_Mo_pour_b28 d23_ else if p2 < 0 then L_Mo_pour_b28 d23_ else if p4 < 0 then L_Mo_pour_b28 d23_ else if p5 < 0 then L_Mo_pour_b28 d23_ else ck ((0 : Int) ≤ p1 ∧ p1 < 4) (if (d23_ 2 p1.toNat) = (-1) then L_Mo_pour_b54 d23_ else ck ((0 : Int) ≤ p3 ∧ p3 < 4) (if (d23_ 2 p3.toNat) = (-1) then L_Mo_pour_b54 d23_ else ck ((0 : Int) ≤ p1 ∧ p1 < 4) (ck ((0 : Int) ≤ p3 ∧ p3 < 4) (if (d23_ 1 p1.toNat) = (d23_ 1 p3.toNat) then ck ((0 : Int) ≤ p1 ∧ p1 < 4) (if (w32 ((d23_ 2 p1.toNat) - p2)) < p5 then L_Mo_pour_b109 d23_ else ck ((0 : Int) ≤ p3 ∧ p3 < 4) (if (w32 ((d23_ 2 p3.toNat) - p4)) < p5 then L_Mo_pour_b109 d23_ else lb (L_Mo_pour_l118 p1 p2 p3 p4 p5 0 d23_) (fun q56_ => u0 q56_ (fun d50_ => bd (L_Mo_is 0 d50_) (fun r53_ d52_ => some (r53_, d52_)))))) else bd (L_Mo_is 8 d23_) (fun r58_ d57_ => some (r58_, d57_))))))))
set_option maxHeartbeats 4000000 in
theorem ok_Mo_pour_b143 {p : Program} {l : Launch} {e : Env} {s : State} {m : MethodId} {args : Array Value} {below : List Frame} {meth : Method} {c : Code} {D : va_G} {cA : Nat → ClassId} {ad : Nat → Nat} {A : Nat → Prop} (C : Cx p s m args c prog_14_method_12_code 8 "PollBooksModel" D cA ad 1 A) {Q : State → Prop} {o : (Int × Int × Int × Int × Int × Int × Dt) ⊕ ((Dt))} (x1 x2 x3 x4 x5 x6 s0 : Int) (d : Dt) (hx1 : c32 x1) (hx2 : c32 x2) (hx3 : c32 x3) (hx4 : c32 x4) (hx5 : c32 x5) (hx6 : c32 x6) (hs0 : c32 s0) (h : L_Mo_pour_b143 x1 x2 x3 x4 x5 x6 s0 d = some o) (kb : ∀ (y0 y1 y2 y3 y4 y5 : Int) (e' : Dt), o = .inl (y0, y1, y2, y3, y4, y5, e') → c32 y0 → c32 y1 → c32 y2 → c32 y3 → c32 y4 → c32 y5 → G p l e rm_Mo_pour s m args below meth c 0 0 Q 8 D cA ad 1 A 118 [(2, 0), (0, y0), (0, y1), (0, y2), (0, y3), (0, y4), (0, y5), (9, 0)] [] e') (k0 : ∀ (e' : Dt), o = .inr (e') → G p l e rm_Mo_pour s m args below meth c 0 0 Q 8 D cA ad 1 A 180 [(2, 0), (9, 0), (9, 0), (9, 0), (9, 0), (9, 0), (9, 0), (9, 0)] [] e') : G p l e rm_Mo_pour s m args below meth c 0 0 Q 8 D cA ad 1 A 143 [(2, 0), (0, x1), (0, x2), (0, x3), (0, x4), (0, x5), (0, x6), (9, 0)] [(0, s0)] d := by
  unfold L_Mo_pour_b143 at h
  refine s_istore C 7 (lo' := [(2, 0), (0, x1), (0, x2), (0, x3), (0, x4), (0, x5), (0, x6), (0, s0)]) (by decide) (s1k (s1k (s1k (s1k (s1k (s1k (s1n (by decide) s1z))))))) (by decide +kernel) ?_
  refine g_aload_n C 0 rfl (by decide +kernel) ?_
  refine g_getR C cl12 0 3 3 rfl cd_B0 ⟨by decide, rfl, by decide⟩ rfl rfl (nB (by decide)) (ix := 16) lk_1405 (by decide +kernel) ?_
  refine g_bipush C 60 (by decide) (by decide +kernel) ?_
  refine g_iload_n C 3 rfl (by decide +kernel) ?_
  refine g_imul C (by decide +kernel) ?_
  refine g_iload C 4 rfl (by decide +kernel) ?_
  refine g_iadd C (by decide +kernel) ?_
  refine g_iload C 7 rfl (by decide +kernel) ?_
  refine g_iadd C (by decide +kernel) ?_
  refine g_aload_n C 0 rfl (by decide +kernel) ?_
  refine g_getR C cl12 0 3 3 rfl cd_B0 ⟨by decide, rfl, by decide⟩ rfl rfl (nB (by decide)) (ix := 16) lk_1405 (by decide +kernel) ?_
  refine g_bipush C 60 (by decide) (by decide +kernel) ?_
  refine g_iload_n C 1 rfl (by decide +kernel) ?_
  refine g_imul C (by decide +kernel) ?_
  refine g_iload_n C 2 rfl (by decide +kernel) ?_
  refine g_iadd C (by decide +kernel) ?_
  refine g_iload C 7 rfl (by decide +kernel) ?_
  refine g_iadd C (by decide +kernel) ?_
  obtain ⟨hb1_, h⟩ := ck_some h
  refine g_lald C 3 (w32_c _) rfl cd_B3 (nB (by decide)) hb1_ (by decide +kernel) (fun hc2_ => ?_)
  obtain ⟨hb3_, h⟩ := ck_some h
  refine g_last C 3 hc2_ (w32_c _) rfl cd_B3 (nB (by decide)) hb3_ (by decide +kernel) ?_
  refine s_iinc C 6 1 (lo' := [(2, 0), (0, x1), (0, x2), (0, x3), (0, x4), (0, x5), (0, (w32 (x6 + 1))), (0, s0)]) rfl (by decide) (s1k (s1k (s1k (s1k (s1k (s1n (by decide) s1z)))))) (by decide +kernel) ?_
  refine g_goto C 118 (off := (-59)) (by decide +kernel) (by decide) ?_
  refine g_sub (lo2 := [(2, 0), (0, x1), (0, x2), (0, x3), (0, x4), (0, x5), (0, (w32 (x6 + 1))), (9, 0)]) (lsb_v (lsb_v (lsb_v (lsb_v (lsb_v (lsb_v (lsb_v (lsb_c lsb_e)))))))) ?_
  obtain rfl := Option.some.inj h
  exact kb x1 x2 x3 x4 x5 (w32 (x6 + 1)) (up2 d 3 ((w32 ((w32 ((w32 (60 * x3)) + x4)) + s0))).toNat (d 3 ((w32 ((w32 ((w32 (60 * x1)) + x2)) + s0))).toNat)) rfl hx1 hx2 hx3 hx4 hx5 (w32_c _)
set_option maxHeartbeats 4000000 in
theorem ok_Mo_pour_y118 {p : Program} {l : Launch} {e : Env} {s : State} {m : MethodId} {args : Array Value} {below : List Frame} {meth : Method} {c : Code} {D : va_G} {cA : Nat → ClassId} {ad : Nat → Nat} {A : Nat → Prop} (C : Cx p s m args c prog_14_method_12_code 8 "PollBooksModel" D cA ad 1 A) {Q : State → Prop} {o : (Int × Int × Int × Int × Int × Int × Dt) ⊕ ((Dt))} (x1 x2 x3 x4 x5 x6 : Int) (d : Dt) (hx1 : c32 x1) (hx2 : c32 x2) (hx3 : c32 x3) (hx4 : c32 x4) (hx5 : c32 x5) (hx6 : c32 x6) (h : L_Mo_pour_y118 x1 x2 x3 x4 x5 x6 d = some o) (kb : ∀ (y0 y1 y2 y3 y4 y5 : Int) (e' : Dt), o = .inl (y0, y1, y2, y3, y4, y5, e') → c32 y0 → c32 y1 → c32 y2 → c32 y3 → c32 y4 → c32 y5 → G p l e rm_Mo_pour s m args below meth c 0 0 Q 8 D cA ad 1 A 118 [(2, 0), (0, y0), (0, y1), (0, y2), (0, y3), (0, y4), (0, y5), (9, 0)] [] e') (k0 : ∀ (e' : Dt), o = .inr (e') → G p l e rm_Mo_pour s m args below meth c 0 0 Q 8 D cA ad 1 A 180 [(2, 0), (9, 0), (9, 0), (9, 0), (9, 0), (9, 0), (9, 0), (9, 0)] [] e') : G p l e rm_Mo_pour s m args below meth c 0 0 Q 8 D cA ad 1 A 118 [(2, 0), (0, x1), (0, x2), (0, x3), (0, x4), (0, x5), (0, x6), (9, 0)] [] d := by
  unfold L_Mo_pour_y118 at h
  refine g_iload C 6 rfl (by decide +kernel) ?_
  refine g_iload C 5 rfl (by decide +kernel) ?_
  refine g_icmp_ge C (off := 58) (tgt := 180) hx6 hx5 (by decide +kernel) (by decide) (fun hc4_ => ?_) (fun hc4_ => ?_)
  · replace h := ite_t hc4_ h
    refine g_iload_n C 2 rfl (by decide +kernel) ?_
    refine g_iload C 4 rfl (by decide +kernel) ?_
    refine g_icmp_ge C (off := 13) (tgt := 141) hx2 hx4 (by decide +kernel) (by decide) (fun hc5_ => ?_) (fun hc5_ => ?_)
    · replace h := ite_t hc5_ h
      refine g_iload C 5 rfl (by decide +kernel) ?_
      refine g_iconst C 1 (cK rfl) (by decide +kernel) ?_
      refine g_isub C (by decide +kernel) ?_
      refine g_iload C 6 rfl (by decide +kernel) ?_
      refine g_isub C (by decide +kernel) ?_
      refine g_goto C 143 (off := 5) (by decide +kernel) (by decide) ?_
      refine g_sub (lo2 := [(2, 0), (0, x1), (0, x2), (0, x3), (0, x4), (0, x5), (0, x6), (9, 0)]) (lsb_v (lsb_v (lsb_v (lsb_v (lsb_v (lsb_v (lsb_v (lsb_c lsb_e)))))))) ?_
      exact ok_Mo_pour_b143 C x1 x2 x3 x4 x5 x6 (w32 ((w32 (x5 - 1)) - x6)) d hx1 hx2 hx3 hx4 hx5 hx6 (w32_c _) h kb k0
    · replace h := ite_f hc5_ h
      refine g_iload C 6 rfl (by decide +kernel) ?_
      refine g_sub (lo2 := [(2, 0), (0, x1), (0, x2), (0, x3), (0, x4), (0, x5), (0, x6), (9, 0)]) (lsb_v (lsb_v (lsb_v (lsb_v (lsb_v (lsb_v (lsb_v (lsb_c lsb_e)))))))) ?_
      exact ok_Mo_pour_b143 C x1 x2 x3 x4 x5 x6 x6 d hx1 hx2 hx3 hx4 hx5 hx6 hx6 h kb k0
  · replace h := ite_f hc4_ h
    refine g_sub (lo2 := [(2, 0), (9, 0), (9, 0), (9, 0), (9, 0), (9, 0), (9, 0), (9, 0)]) (lsb_v (lsb_c (lsb_c (lsb_c (lsb_c (lsb_c (lsb_c (lsb_c lsb_e)))))))) ?_
    obtain rfl := Option.some.inj h
    exact k0 d rfl 
set_option maxHeartbeats 4000000 in
theorem ok_Mo_pour_n118 {p : Program} {l : Launch} {e : Env} {s : State} {m : MethodId} {args : Array Value} {below : List Frame} {meth : Method} {c : Code} {D : va_G} {cA : Nat → ClassId} {ad : Nat → Nat} {A : Nat → Prop} (C : Cx p s m args c prog_14_method_12_code 8 "PollBooksModel" D cA ad 1 A) {Q : State → Prop} {x : (Dt)} : ∀ (n : Nat) (x1 x2 x3 x4 x5 x6 : Int) (d : Dt), c32 x1 → c32 x2 → c32 x3 → c32 x4 → c32 x5 → c32 x6 → lpF (fun q : Int × Int × Int × Int × Int × Int × Dt => L_Mo_pour_y118 q.1 q.2.1 q.2.2.1 q.2.2.2.1 q.2.2.2.2.1 q.2.2.2.2.2.1 q.2.2.2.2.2.2) n (x1, x2, x3, x4, x5, x6, d) = some x → (∀ (e' : Dt), x = (e') → G p l e rm_Mo_pour s m args below meth c 0 0 Q 8 D cA ad 1 A 180 [(2, 0), (9, 0), (9, 0), (9, 0), (9, 0), (9, 0), (9, 0), (9, 0)] [] e') → G p l e rm_Mo_pour s m args below meth c 0 0 Q 8 D cA ad 1 A 118 [(2, 0), (0, x1), (0, x2), (0, x3), (0, x4), (0, x5), (0, x6), (9, 0)] [] d := by
  intro n
  induction n with
  | zero => intro x1 x2 x3 x4 x5 x6 d g0 g1 g2 g3 g4 g5 h k0; cases h
  | succ n ih =>
    intro x1 x2 x3 x4 x5 x6 d g0 g1 g2 g3 g4 g5 h k0
    rcases lpF_some h with h | ⟨⟨v0_, v1_, v2_, v3_, v4_, v5_, e0_⟩, h1, h⟩
    · exact ok_Mo_pour_y118 C x1 x2 x3 x4 x5 x6 d g0 g1 g2 g3 g4 g5 h (fun z0_ z1_ z2_ z3_ z4_ z5_ e1_ eq w0_ w1_ w2_ w3_ w4_ w5_ => by cases eq) (fun e1_ eq => k0 _ (by cases eq; rfl) )
    · exact ok_Mo_pour_y118 C x1 x2 x3 x4 x5 x6 d g0 g1 g2 g3 g4 g5 h1 (fun z0_ z1_ z2_ z3_ z4_ z5_ e1_ eq w0_ w1_ w2_ w3_ w4_ w5_ => by cases eq; exact ih _ _ _ _ _ _ _ w0_ w1_ w2_ w3_ w4_ w5_ h k0) (fun e1_ eq => by cases eq)
set_option maxHeartbeats 4000000 in
theorem ok_Mo_pour_l118 {p : Program} {l : Launch} {e : Env} {s : State} {m : MethodId} {args : Array Value} {below : List Frame} {meth : Method} {c : Code} {D : va_G} {cA : Nat → ClassId} {ad : Nat → Nat} {A : Nat → Prop} (C : Cx p s m args c prog_14_method_12_code 8 "PollBooksModel" D cA ad 1 A) {Q : State → Prop} {x : (Dt)} (x1 x2 x3 x4 x5 x6 : Int) (d : Dt) (hx1 : c32 x1) (hx2 : c32 x2) (hx3 : c32 x3) (hx4 : c32 x4) (hx5 : c32 x5) (hx6 : c32 x6) (h : L_Mo_pour_l118 x1 x2 x3 x4 x5 x6 d = some x) (k0 : ∀ (e' : Dt), x = (e') → G p l e rm_Mo_pour s m args below meth c 0 0 Q 8 D cA ad 1 A 180 [(2, 0), (9, 0), (9, 0), (9, 0), (9, 0), (9, 0), (9, 0), (9, 0)] [] e') : G p l e rm_Mo_pour s m args below meth c 0 0 Q 8 D cA ad 1 A 118 [(2, 0), (0, x1), (0, x2), (0, x3), (0, x4), (0, x5), (0, x6), (9, 0)] [] d :=
  ok_Mo_pour_n118 C FU x1 x2 x3 x4 x5 x6 d hx1 hx2 hx3 hx4 hx5 hx6 h k0
set_option maxHeartbeats 4000000 in
theorem ok_Mo_pour_b28 {p : Program} {l : Launch} {e : Env} {s : State} {m : MethodId} {args : Array Value} {below : List Frame} {meth : Method} {c : Code} {D : va_G} {cA : Nat → ClassId} {ad : Nat → Nat} {A : Nat → Prop} (C : Cx p s m args c prog_14_method_12_code 8 "PollBooksModel" D cA ad 1 A) (hlk : meth.locks = false) (hr : meth.sig.returnType = (some .boolean)) {r : Int} {d' : Dt} (d : Dt)  (h : L_Mo_pour_b28 d = some (r, d')) : G p l e rm_Mo_pour s m args below meth c 0 0 (MQ below (fun _ => QC D cA ad 1 A (some .boolean) (some (0, r)) d') args s 0 0 A) 8 D cA ad 1 A 28 [(2, 0), (9, 0), (9, 0), (9, 0), (9, 0), (9, 0), (9, 0), (9, 0)] [] d := by
  unfold L_Mo_pour_b28 at h
  refine g_aload_n C 0 rfl (by decide +kernel) ?_
  refine g_iconst C 1 (cK rfl) (by decide +kernel) ?_
  obtain ⟨r7_, d6_, hr8_, h⟩ := bd_some h
  refine g_callV C mw_Mo_is [(0, 1)] 0 cl12 rfl (ok_Mo_is 1 d (c32_cb (Or.inr rfl)) hr8_) cd_B0 (by decide) (nB (by decide)) (ix := 276) lk_1741 lk_1743 lkp_57 ⟨rfl, rfl, Nat.le_of_ble_eq_true rfl, Nat.le_of_ble_eq_true rfl⟩ rfl (rest := []) rfl (Nat.le_of_ble_eq_true rfl) ⟨Nat.zero_le _, Nat.zero_le _⟩ (by decide +kernel) (fun _ hc9_ => ?_)
  replace hc9_ : cb r7_ := hc9_
  refine g_st (st2 := [(0, r7_)]) rfl ?_
  obtain ⟨rfl, rfl⟩ := ret_inj h
  exact g_zret C hc9_ hlk hr (by decide +kernel)
set_option maxHeartbeats 4000000 in
theorem ok_Mo_pour_b54 {p : Program} {l : Launch} {e : Env} {s : State} {m : MethodId} {args : Array Value} {below : List Frame} {meth : Method} {c : Code} {D : va_G} {cA : Nat → ClassId} {ad : Nat → Nat} {A : Nat → Prop} (C : Cx p s m args c prog_14_method_12_code 8 "PollBooksModel" D cA ad 1 A) (hlk : meth.locks = false) (hr : meth.sig.returnType = (some .boolean)) {r : Int} {d' : Dt} (d : Dt)  (h : L_Mo_pour_b54 d = some (r, d')) : G p l e rm_Mo_pour s m args below meth c 0 0 (MQ below (fun _ => QC D cA ad 1 A (some .boolean) (some (0, r)) d') args s 0 0 A) 8 D cA ad 1 A 54 [(2, 0), (9, 0), (9, 0), (9, 0), (9, 0), (9, 0), (9, 0), (9, 0)] [] d := by
  unfold L_Mo_pour_b54 at h
  refine g_aload_n C 0 rfl (by decide +kernel) ?_
  refine g_iconst C 2 (cK rfl) (by decide +kernel) ?_
  obtain ⟨r11_, d10_, hr12_, h⟩ := bd_some h
  refine g_callV C mw_Mo_is [(0, 2)] 0 cl12 rfl (ok_Mo_is 2 d (cK rfl) hr12_) cd_B0 (by decide) (nB (by decide)) (ix := 276) lk_1741 lk_1743 lkp_57 ⟨rfl, rfl, Nat.le_of_ble_eq_true rfl, Nat.le_of_ble_eq_true rfl⟩ rfl (rest := []) rfl (Nat.le_of_ble_eq_true rfl) ⟨Nat.zero_le _, Nat.zero_le _⟩ (by decide +kernel) (fun _ hc13_ => ?_)
  replace hc13_ : cb r11_ := hc13_
  refine g_st (st2 := [(0, r11_)]) rfl ?_
  obtain ⟨rfl, rfl⟩ := ret_inj h
  exact g_zret C hc13_ hlk hr (by decide +kernel)
set_option maxHeartbeats 4000000 in
theorem ok_Mo_pour_b109 {p : Program} {l : Launch} {e : Env} {s : State} {m : MethodId} {args : Array Value} {below : List Frame} {meth : Method} {c : Code} {D : va_G} {cA : Nat → ClassId} {ad : Nat → Nat} {A : Nat → Prop} (C : Cx p s m args c prog_14_method_12_code 8 "PollBooksModel" D cA ad 1 A) (hlk : meth.locks = false) (hr : meth.sig.returnType = (some .boolean)) {r : Int} {d' : Dt} (d : Dt)  (h : L_Mo_pour_b109 d = some (r, d')) : G p l e rm_Mo_pour s m args below meth c 0 0 (MQ below (fun _ => QC D cA ad 1 A (some .boolean) (some (0, r)) d') args s 0 0 A) 8 D cA ad 1 A 109 [(2, 0), (9, 0), (9, 0), (9, 0), (9, 0), (9, 0), (9, 0), (9, 0)] [] d := by
  unfold L_Mo_pour_b109 at h
  refine g_aload_n C 0 rfl (by decide +kernel) ?_
  refine g_iconst C 3 (cK rfl) (by decide +kernel) ?_
  obtain ⟨r15_, d14_, hr16_, h⟩ := bd_some h
  refine g_callV C mw_Mo_is [(0, 3)] 0 cl12 rfl (ok_Mo_is 3 d (cK rfl) hr16_) cd_B0 (by decide) (nB (by decide)) (ix := 276) lk_1741 lk_1743 lkp_57 ⟨rfl, rfl, Nat.le_of_ble_eq_true rfl, Nat.le_of_ble_eq_true rfl⟩ rfl (rest := []) rfl (Nat.le_of_ble_eq_true rfl) ⟨Nat.zero_le _, Nat.zero_le _⟩ (by decide +kernel) (fun _ hc17_ => ?_)
  replace hc17_ : cb r15_ := hc17_
  refine g_st (st2 := [(0, r15_)]) rfl ?_
  obtain ⟨rfl, rfl⟩ := ret_inj h
  exact g_zret C hc17_ hlk hr (by decide +kernel)
set_option maxHeartbeats 4000000 in
theorem ok_Mo_pour {l : Launch} {r : Int} {d' : Dt} (p1 p2 p3 p4 p5 : Int) (d : Dt) (hp1 : c32 p1) (hp2 : c32 p2) (hp3 : c32 p3) (hp4 : c32 p4) (hp5 : c32 p5) (h : L_Mo_pour p1 p2 p3 p4 p5 d = some (r, d')) : MC l y_Mo_pour prog_14_method_12_code 8 (some .boolean) rm_Mo_pour 1 [(2, 0), (0, p1), (0, p2), (0, p3), (0, p4), (0, p5)] d (some (0, r)) d' := by
  refine MC.of (by decide) (Nat.le_of_ble_eq_true rfl) ?_
  intro p e s m args below meth c D cA ad A C hlk hr
  replace C : Cx p s m args c prog_14_method_12_code 8 "PollBooksModel" D cA ad 1 A := C
  show G p l e rm_Mo_pour s m args below meth c 0 0 (MQ below (fun _ => QC D cA ad 1 A (some .boolean) (some (0, r)) d') args s 0 0 A) 8 D cA ad 1 A 0 [(2, 0), (0, p1), (0, p2), (0, p3), (0, p4), (0, p5)] [] d
  refine g_sub (lo2 := [(2, 0), (0, p1), (0, p2), (0, p3), (0, p4), (0, p5), (9, 0), (9, 0)]) (lsb_v (lsb_v (lsb_v (lsb_v (lsb_v (lsb_v (lsb_n (lsb_n lsb_e)))))))) ?_
  unfold L_Mo_pour at h
  refine g_iload_n C 1 rfl (by decide +kernel) ?_
  obtain ⟨r19_, d18_, hr20_, h⟩ := bd_some h
  refine g_callS C mw_Mo_isTray [(0, p1)] (ok_Mo_isTray p1 d hp1 hr20_) (ix := 272) lk_1738 lk_1739 ⟨rfl, rfl, Nat.le_of_ble_eq_true rfl, Nat.le_of_ble_eq_true rfl⟩ rfl (rest := []) rfl (Nat.le_of_ble_eq_true rfl) ⟨Nat.zero_le _, Nat.zero_le _⟩ (by decide +kernel) (fun _ hc21_ => ?_)
  replace hc21_ : cb r19_ := hc21_
  refine g_st (st2 := [(0, r19_)]) rfl ?_
  refine g_if_eq C (off := 24) (tgt := 28) (c32_cb hc21_) (by decide +kernel) (by decide) (fun hc22_ => ?_) (fun hc22_ => ?_)
  · replace h := ite_t hc22_ h
    refine g_sub (lo2 := [(2, 0), (9, 0), (9, 0), (9, 0), (9, 0), (9, 0), (9, 0), (9, 0)]) (lsb_v (lsb_c (lsb_c (lsb_c (lsb_c (lsb_c (lsb_c (lsb_c lsb_e)))))))) ?_
    exact ok_Mo_pour_b28 C hlk hr d18_  h
  · replace h := ite_f hc22_ h
    refine g_iload_n C 3 rfl (by decide +kernel) ?_
    obtain ⟨r24_, d23_, hr25_, h⟩ := bd_some h
    refine g_callS C mw_Mo_isTray [(0, p3)] (ok_Mo_isTray p3 d18_ hp3 hr25_) (ix := 272) lk_1738 lk_1739 ⟨rfl, rfl, Nat.le_of_ble_eq_true rfl, Nat.le_of_ble_eq_true rfl⟩ rfl (rest := []) rfl (Nat.le_of_ble_eq_true rfl) ⟨Nat.zero_le _, Nat.zero_le _⟩ (by decide +kernel) (fun _ hc26_ => ?_)
    replace hc26_ : cb r24_ := hc26_
    refine g_st (st2 := [(0, r24_)]) rfl ?_
    refine g_if_eq C (off := 17) (tgt := 28) (c32_cb hc26_) (by decide +kernel) (by decide) (fun hc27_ => ?_) (fun hc27_ => ?_)
    · replace h := ite_t hc27_ h
      refine g_sub (lo2 := [(2, 0), (9, 0), (9, 0), (9, 0), (9, 0), (9, 0), (9, 0), (9, 0)]) (lsb_v (lsb_c (lsb_c (lsb_c (lsb_c (lsb_c (lsb_c (lsb_c lsb_e)))))))) ?_
      exact ok_Mo_pour_b28 C hlk hr d23_  h
    · replace h := ite_f hc27_ h
      refine g_iload_n C 2 rfl (by decide +kernel) ?_
      refine g_if_lt C (off := 13) (tgt := 28) hp2 (by decide +kernel) (by decide) (fun hc28_ => ?_) (fun hc28_ => ?_)
      · replace h := ite_t hc28_ h
        refine g_sub (lo2 := [(2, 0), (9, 0), (9, 0), (9, 0), (9, 0), (9, 0), (9, 0), (9, 0)]) (lsb_v (lsb_c (lsb_c (lsb_c (lsb_c (lsb_c (lsb_c (lsb_c lsb_e)))))))) ?_
        exact ok_Mo_pour_b28 C hlk hr d23_  h
      · replace h := ite_f hc28_ h
        refine g_iload C 4 rfl (by decide +kernel) ?_
        refine g_if_lt C (off := 8) (tgt := 28) hp4 (by decide +kernel) (by decide) (fun hc29_ => ?_) (fun hc29_ => ?_)
        · replace h := ite_t hc29_ h
          refine g_sub (lo2 := [(2, 0), (9, 0), (9, 0), (9, 0), (9, 0), (9, 0), (9, 0), (9, 0)]) (lsb_v (lsb_c (lsb_c (lsb_c (lsb_c (lsb_c (lsb_c (lsb_c lsb_e)))))))) ?_
          exact ok_Mo_pour_b28 C hlk hr d23_  h
        · replace h := ite_f hc29_ h
          refine g_iload C 5 rfl (by decide +kernel) ?_
          refine g_if_ge C (off := 9) (tgt := 34) hp5 (by decide +kernel) (by decide) (fun hc30_ => ?_) (fun hc30_ => ?_)
          · replace h := ite_t hc30_ h
            refine g_sub (lo2 := [(2, 0), (9, 0), (9, 0), (9, 0), (9, 0), (9, 0), (9, 0), (9, 0)]) (lsb_v (lsb_c (lsb_c (lsb_c (lsb_c (lsb_c (lsb_c (lsb_c lsb_e)))))))) ?_
            exact ok_Mo_pour_b28 C hlk hr d23_  h
          · replace h := ite_f hc30_ h
            refine g_aload_n C 0 rfl (by decide +kernel) ?_
            refine g_getR C cl12 0 2 2 rfl cd_B0 ⟨by decide, rfl, by decide⟩ rfl rfl (nB (by decide)) (ix := 13) lk_1404 (by decide +kernel) ?_
            refine g_iload_n C 1 rfl (by decide +kernel) ?_
            obtain ⟨hb31_, h⟩ := ck_some h
            refine g_iald C 2 hp1 rfl cd_B2 (nB (by decide)) hb31_ (by decide +kernel) (fun hc32_ => ?_)
            refine g_iconst C (-1) (cK rfl) (by decide +kernel) ?_
            refine g_icmp_eq C (off := 13) (tgt := 54) hc32_ (cK rfl) (by decide +kernel) (by decide) (fun hc33_ => ?_) (fun hc33_ => ?_)
            · replace h := ite_t hc33_ h
              refine g_sub (lo2 := [(2, 0), (9, 0), (9, 0), (9, 0), (9, 0), (9, 0), (9, 0), (9, 0)]) (lsb_v (lsb_c (lsb_c (lsb_c (lsb_c (lsb_c (lsb_c (lsb_c lsb_e)))))))) ?_
              exact ok_Mo_pour_b54 C hlk hr d23_  h
            · replace h := ite_f hc33_ h
              refine g_aload_n C 0 rfl (by decide +kernel) ?_
              refine g_getR C cl12 0 2 2 rfl cd_B0 ⟨by decide, rfl, by decide⟩ rfl rfl (nB (by decide)) (ix := 13) lk_1404 (by decide +kernel) ?_
              refine g_iload_n C 3 rfl (by decide +kernel) ?_
              obtain ⟨hb34_, h⟩ := ck_some h
              refine g_iald C 2 hp3 rfl cd_B2 (nB (by decide)) hb34_ (by decide +kernel) (fun hc35_ => ?_)
              refine g_iconst C (-1) (cK rfl) (by decide +kernel) ?_
              refine g_icmp_ne C (off := 9) (tgt := 60) hc35_ (cK rfl) (by decide +kernel) (by decide) (fun hc36_ => ?_) (fun hc36_ => ?_)
              · replace h := ite_t hc36_ h
                refine g_sub (lo2 := [(2, 0), (9, 0), (9, 0), (9, 0), (9, 0), (9, 0), (9, 0), (9, 0)]) (lsb_v (lsb_c (lsb_c (lsb_c (lsb_c (lsb_c (lsb_c (lsb_c lsb_e)))))))) ?_
                exact ok_Mo_pour_b54 C hlk hr d23_  h
              · replace h := ite_f hc36_ h
                refine g_aload_n C 0 rfl (by decide +kernel) ?_
                refine g_getR C cl12 0 1 1 rfl cd_B0 ⟨by decide, rfl, by decide⟩ rfl rfl (nB (by decide)) (ix := 7) lk_1403 (by decide +kernel) ?_
                refine g_iload_n C 1 rfl (by decide +kernel) ?_
                obtain ⟨hb37_, h⟩ := ck_some h
                refine g_iald C 1 hp1 rfl cd_B1 (nB (by decide)) hb37_ (by decide +kernel) (fun hc38_ => ?_)
                refine g_aload_n C 0 rfl (by decide +kernel) ?_
                refine g_getR C cl12 0 1 1 rfl cd_B0 ⟨by decide, rfl, by decide⟩ rfl rfl (nB (by decide)) (ix := 7) lk_1403 (by decide +kernel) ?_
                refine g_iload_n C 3 rfl (by decide +kernel) ?_
                obtain ⟨hb39_, h⟩ := ck_some h
                refine g_iald C 1 hp3 rfl cd_B1 (nB (by decide)) hb39_ (by decide +kernel) (fun hc40_ => ?_)
                refine g_icmp_eq C (off := 10) (tgt := 82) hc38_ hc40_ (by decide +kernel) (by decide) (fun hc41_ => ?_) (fun hc41_ => ?_)
                · replace h := ite_t hc41_ h
                  refine g_iload C 5 rfl (by decide +kernel) ?_
                  refine g_aload_n C 0 rfl (by decide +kernel) ?_
                  refine g_getR C cl12 0 2 2 rfl cd_B0 ⟨by decide, rfl, by decide⟩ rfl rfl (nB (by decide)) (ix := 13) lk_1404 (by decide +kernel) ?_
                  refine g_iload_n C 1 rfl (by decide +kernel) ?_
                  obtain ⟨hb42_, h⟩ := ck_some h
                  refine g_iald C 2 hp1 rfl cd_B2 (nB (by decide)) hb42_ (by decide +kernel) (fun hc43_ => ?_)
                  refine g_iload_n C 2 rfl (by decide +kernel) ?_
                  refine g_isub C (by decide +kernel) ?_
                  refine g_icmp_gt C (off := 17) (tgt := 109) hp5 (w32_c _) (by decide +kernel) (by decide) (fun hc44_ => ?_) (fun hc44_ => ?_)
                  · replace h := ite_t hc44_ h
                    refine g_sub (lo2 := [(2, 0), (9, 0), (9, 0), (9, 0), (9, 0), (9, 0), (9, 0), (9, 0)]) (lsb_v (lsb_c (lsb_c (lsb_c (lsb_c (lsb_c (lsb_c (lsb_c lsb_e)))))))) ?_
                    exact ok_Mo_pour_b109 C hlk hr d23_  h
                  · replace h := ite_f hc44_ h
                    refine g_iload C 5 rfl (by decide +kernel) ?_
                    refine g_aload_n C 0 rfl (by decide +kernel) ?_
                    refine g_getR C cl12 0 2 2 rfl cd_B0 ⟨by decide, rfl, by decide⟩ rfl rfl (nB (by decide)) (ix := 13) lk_1404 (by decide +kernel) ?_
                    refine g_iload_n C 3 rfl (by decide +kernel) ?_
                    obtain ⟨hb45_, h⟩ := ck_some h
                    refine g_iald C 2 hp3 rfl cd_B2 (nB (by decide)) hb45_ (by decide +kernel) (fun hc46_ => ?_)
                    refine g_iload C 4 rfl (by decide +kernel) ?_
                    refine g_isub C (by decide +kernel) ?_
                    refine g_icmp_le C (off := 9) (tgt := 115) hp5 (w32_c _) (by decide +kernel) (by decide) (fun hc47_ => ?_) (fun hc47_ => ?_)
                    · replace h := ite_t hc47_ h
                      refine g_sub (lo2 := [(2, 0), (9, 0), (9, 0), (9, 0), (9, 0), (9, 0), (9, 0), (9, 0)]) (lsb_v (lsb_c (lsb_c (lsb_c (lsb_c (lsb_c (lsb_c (lsb_c lsb_e)))))))) ?_
                      exact ok_Mo_pour_b109 C hlk hr d23_  h
                    · replace h := ite_f hc47_ h
                      refine g_iconst C 0 (cK rfl) (by decide +kernel) ?_
                      refine s_istore C 6 (lo' := [(2, 0), (0, p1), (0, p2), (0, p3), (0, p4), (0, p5), (0, 0), (9, 0)]) (by decide) (s1k (s1k (s1k (s1k (s1k (s1n (by decide) s1z)))))) (by decide +kernel) ?_
                      refine g_sub (lo2 := [(2, 0), (0, p1), (0, p2), (0, p3), (0, p4), (0, p5), (0, 0), (9, 0)]) (lsb_v (lsb_v (lsb_v (lsb_v (lsb_v (lsb_v (lsb_v (lsb_c lsb_e)))))))) ?_
                      obtain ⟨x48_, hx49_, h⟩ := lb_some h
                      refine ok_Mo_pour_l118 C p1 p2 p3 p4 p5 0 d23_ hp1 hp2 hp3 hp4 hp5 (c32_cb (Or.inl rfl)) hx49_ (fun d50_ eq51_ => ?_)
                      replace eq51_ := eq51_.symm
                      subst eq51_
                      replace h := u0_e h
                      refine g_aload_n C 0 rfl (by decide +kernel) ?_
                      refine g_iconst C 0 (cK rfl) (by decide +kernel) ?_
                      obtain ⟨r53_, d52_, hr54_, h⟩ := bd_some h
                      refine g_callV C mw_Mo_is [(0, 0)] 0 cl12 rfl (ok_Mo_is 0 d50_ (c32_cb (Or.inl rfl)) hr54_) cd_B0 (by decide) (nB (by decide)) (ix := 276) lk_1741 lk_1743 lkp_57 ⟨rfl, rfl, Nat.le_of_ble_eq_true rfl, Nat.le_of_ble_eq_true rfl⟩ rfl (rest := []) rfl (Nat.le_of_ble_eq_true rfl) ⟨Nat.zero_le _, Nat.zero_le _⟩ (by decide +kernel) (fun _ hc55_ => ?_)
                      replace hc55_ : cb r53_ := hc55_
                      refine g_st (st2 := [(0, r53_)]) rfl ?_
                      obtain ⟨rfl, rfl⟩ := ret_inj h
                      exact g_zret C hc55_ hlk hr (by decide +kernel)
                · replace h := ite_f hc41_ h
                  refine g_aload_n C 0 rfl (by decide +kernel) ?_
                  refine g_bipush C 8 (by decide) (by decide +kernel) ?_
                  obtain ⟨r58_, d57_, hr59_, h⟩ := bd_some h
                  refine g_callV C mw_Mo_is [(0, 8)] 0 cl12 rfl (ok_Mo_is 8 d23_ (cK rfl) hr59_) cd_B0 (by decide) (nB (by decide)) (ix := 276) lk_1741 lk_1743 lkp_57 ⟨rfl, rfl, Nat.le_of_ble_eq_true rfl, Nat.le_of_ble_eq_true rfl⟩ rfl (rest := []) rfl (Nat.le_of_ble_eq_true rfl) ⟨Nat.zero_le _, Nat.zero_le _⟩ (by decide +kernel) (fun _ hc60_ => ?_)
                  replace hc60_ : cb r58_ := hc60_
                  refine g_st (st2 := [(0, r58_)]) rfl ?_
                  obtain ⟨rfl, rfl⟩ := ret_inj h
                  exact g_zret C hc60_ hlk hr (by decide +kernel)
/-! PollBooksModel.isName(J)Z -/
def y_Mo_isName : MethodName := ⟨"PollBooksModel", "isName", "(J)Z"⟩
def rm_Mo_isName : Room := { frames := 0, cells := 0, slots := 0, locals := 0 }
theorem mw_Mo_isName : MW y_Mo_isName prog_14_method_13_code 5 (some .boolean) 1 := ⟨lk_1771, lk_14, by decide +kernel⟩
def L_Mo_isName_b57 (x3 s0 : Int) (d : Dt) : Option ((Int × Int × Dt) ⊕ ((Int × Dt))) :=
  lt_ (lshr x3 5) (fun v1_ => some (Sum.inl (s0, v1_, d)))
def L_Mo_isName_y20 (x2 x3 : Int) (d : Dt) : Option ((Int × Int × Dt) ⊕ ((Int × Dt))) :=
  if 0 < x3 then if x2 = 0 then L_Mo_isName_b57 x3 0 d else if (land x3 31) < 1 then L_Mo_isName_b57 x3 0 d else if 26 < (land x3 31) then L_Mo_isName_b57 x3 0 d else L_Mo_isName_b57 x3 1 d else some (Sum.inr (x2, d))
def L_Mo_isName_l20 (x2 x3 : Int) (d : Dt) : Option ((Int × Dt)) := lpF (fun q : Int × Int × Dt => L_Mo_isName_y20 q.1 q.2.1 q.2.2) FU (x2, x3, d)
def L_Mo_isName (p1 : Int) (d : Dt) : Option (Int × Dt) :=
  if p1 < 1 then some (0, d) else if p1 < 1099511627776 then lb (L_Mo_isName_l20 1 p1 d) (fun q15_ => u1 q15_ (fun v12_ d13_ => some (v12_, d13_))) else some (0, d)
set_option maxHeartbeats 4000000 in
theorem ok_Mo_isName_b57 {p : Program} {l : Launch} {e : Env} {s : State} {m : MethodId} {args : Array Value} {below : List Frame} {meth : Method} {c : Code} {D : va_G} {cA : Nat → ClassId} {ad : Nat → Nat} {A : Nat → Prop} (C : Cx p s m args c prog_14_method_13_code 5 "PollBooksModel" D cA ad 1 A) {Q : State → Prop} {o : (Int × Int × Dt) ⊕ ((Int × Dt))} (x3 s0 : Int) (d : Dt) (hx3 : c64 x3) (hs0 : cb s0) (h : L_Mo_isName_b57 x3 s0 d = some o) (kb : ∀ (y0 y1 : Int) (e' : Dt), o = .inl (y0, y1, e') → cb y0 → c64 y1 → G p l e rm_Mo_isName s m args below meth c 0 0 Q 5 D cA ad 1 A 20 [(9, 0), (9, 0), (0, y0), (1, y1), (9, 0)] [] e') (k0 : ∀ (y0 : Int) (e' : Dt), o = .inr (y0, e') → cb y0 → G p l e rm_Mo_isName s m args below meth c 0 0 Q 5 D cA ad 1 A 65 [(9, 0), (9, 0), (0, y0), (9, 0), (9, 0)] [] e') : G p l e rm_Mo_isName s m args below meth c 0 0 Q 5 D cA ad 1 A 57 [(9, 0), (9, 0), (9, 0), (1, x3), (9, 0)] [(0, s0)] d := by
  unfold L_Mo_isName_b57 at h
  refine s_istore_n C 2 (lo' := [(9, 0), (9, 0), (0, s0), (1, x3), (9, 0)]) (by decide) (s1k (s1n (by decide) s1z)) (by decide +kernel) ?_
  refine g_lload_n C 3 rfl (by decide +kernel) ?_
  refine g_iconst C 5 (cK rfl) (by decide +kernel) ?_
  refine g_lshr C (by decide +kernel) ?_
  obtain ⟨v1_, ev2_, h⟩ := lt_some h
  refine g_val ev2_.symm ?_
  have hv3_ : c64 v1_ := by rw [ev2_]; exact (l_c _)
  refine s_lstore_n C 3 (lo' := [(9, 0), (9, 0), (0, s0), (1, v1_), (9, 0)]) (by decide) (s2k (s2k (s2n (by decide) s2z))) (by decide +kernel) ?_
  refine g_goto C 20 (off := (-42)) (by decide +kernel) (by decide) ?_
  refine g_sub (lo2 := [(9, 0), (9, 0), (0, s0), (1, v1_), (9, 0)]) (lsb_c (lsb_c (lsb_v (lsb_v (lsb_c lsb_e))))) ?_
  obtain rfl := Option.some.inj h
  exact kb s0 v1_ d rfl hs0 hv3_
set_option maxHeartbeats 4000000 in
theorem ok_Mo_isName_y20 {p : Program} {l : Launch} {e : Env} {s : State} {m : MethodId} {args : Array Value} {below : List Frame} {meth : Method} {c : Code} {D : va_G} {cA : Nat → ClassId} {ad : Nat → Nat} {A : Nat → Prop} (C : Cx p s m args c prog_14_method_13_code 5 "PollBooksModel" D cA ad 1 A) {Q : State → Prop} {o : (Int × Int × Dt) ⊕ ((Int × Dt))} (x2 x3 : Int) (d : Dt) (hx2 : cb x2) (hx3 : c64 x3) (h : L_Mo_isName_y20 x2 x3 d = some o) (kb : ∀ (y0 y1 : Int) (e' : Dt), o = .inl (y0, y1, e') → cb y0 → c64 y1 → G p l e rm_Mo_isName s m args below meth c 0 0 Q 5 D cA ad 1 A 20 [(9, 0), (9, 0), (0, y0), (1, y1), (9, 0)] [] e') (k0 : ∀ (y0 : Int) (e' : Dt), o = .inr (y0, e') → cb y0 → G p l e rm_Mo_isName s m args below meth c 0 0 Q 5 D cA ad 1 A 65 [(9, 0), (9, 0), (0, y0), (9, 0), (9, 0)] [] e') : G p l e rm_Mo_isName s m args below meth c 0 0 Q 5 D cA ad 1 A 20 [(9, 0), (9, 0), (0, x2), (1, x3), (9, 0)] [] d := by
  unfold L_Mo_isName_y20 at h
  refine g_lload_n C 3 rfl (by decide +kernel) ?_
  refine g_lconst C 0 (v := 0) (by decide) (by decide +kernel) ?_
  refine g_lc_le C (off := 42) (tgt := 65) hx3 (cL rfl) (by decide +kernel) (by decide +kernel) (by decide) (fun hc4_ => ?_) (fun hc4_ => ?_)
  · replace h := ite_t hc4_ h
    refine g_iload_n C 2 rfl (by decide +kernel) ?_
    refine g_if_eq C (off := 29) (tgt := 56) (c32_cb hx2) (by decide +kernel) (by decide) (fun hc5_ => ?_) (fun hc5_ => ?_)
    · replace h := ite_t hc5_ h
      refine g_iconst C 0 (cK rfl) (by decide +kernel) ?_
      refine g_sub (lo2 := [(9, 0), (9, 0), (9, 0), (1, x3), (9, 0)]) (lsb_c (lsb_c (lsb_c (lsb_v (lsb_c lsb_e))))) ?_
      exact ok_Mo_isName_b57 C x3 0 d hx3 (Or.inl rfl) h kb k0
    · replace h := ite_f hc5_ h
      refine g_lload_n C 3 rfl (by decide +kernel) ?_
      refine g_ldc2 C (ix := 291) (v := 31) lk_1773 (by decide +kernel) ?_
      refine g_land C (by decide +kernel) ?_
      refine g_lconst C 1 (v := 1) (by decide) (by decide +kernel) ?_
      refine g_lc_lt C (off := 19) (tgt := 56) (l_c _) (cL rfl) (by decide +kernel) (by decide +kernel) (by decide) (fun hc6_ => ?_) (fun hc6_ => ?_)
      · replace h := ite_t hc6_ h
        refine g_iconst C 0 (cK rfl) (by decide +kernel) ?_
        refine g_sub (lo2 := [(9, 0), (9, 0), (9, 0), (1, x3), (9, 0)]) (lsb_c (lsb_c (lsb_c (lsb_v (lsb_c lsb_e))))) ?_
        exact ok_Mo_isName_b57 C x3 0 d hx3 (Or.inl rfl) h kb k0
      · replace h := ite_f hc6_ h
        refine g_lload_n C 3 rfl (by decide +kernel) ?_
        refine g_ldc2 C (ix := 291) (v := 31) lk_1773 (by decide +kernel) ?_
        refine g_land C (by decide +kernel) ?_
        refine g_ldc2 C (ix := 293) (v := 26) lk_1774 (by decide +kernel) ?_
        refine g_lc_gt C (off := 7) (tgt := 56) (l_c _) (cL rfl) (by decide +kernel) (by decide +kernel) (by decide) (fun hc7_ => ?_) (fun hc7_ => ?_)
        · replace h := ite_t hc7_ h
          refine g_iconst C 0 (cK rfl) (by decide +kernel) ?_
          refine g_sub (lo2 := [(9, 0), (9, 0), (9, 0), (1, x3), (9, 0)]) (lsb_c (lsb_c (lsb_c (lsb_v (lsb_c lsb_e))))) ?_
          exact ok_Mo_isName_b57 C x3 0 d hx3 (Or.inl rfl) h kb k0
        · replace h := ite_f hc7_ h
          refine g_iconst C 1 (cK rfl) (by decide +kernel) ?_
          refine g_goto C 57 (off := 4) (by decide +kernel) (by decide) ?_
          refine g_sub (lo2 := [(9, 0), (9, 0), (9, 0), (1, x3), (9, 0)]) (lsb_c (lsb_c (lsb_c (lsb_v (lsb_c lsb_e))))) ?_
          exact ok_Mo_isName_b57 C x3 1 d hx3 (Or.inr rfl) h kb k0
  · replace h := ite_f hc4_ h
    refine g_sub (lo2 := [(9, 0), (9, 0), (0, x2), (9, 0), (9, 0)]) (lsb_c (lsb_c (lsb_v (lsb_c (lsb_c lsb_e))))) ?_
    obtain rfl := Option.some.inj h
    exact k0 x2 d rfl hx2
set_option maxHeartbeats 4000000 in
theorem ok_Mo_isName_n20 {p : Program} {l : Launch} {e : Env} {s : State} {m : MethodId} {args : Array Value} {below : List Frame} {meth : Method} {c : Code} {D : va_G} {cA : Nat → ClassId} {ad : Nat → Nat} {A : Nat → Prop} (C : Cx p s m args c prog_14_method_13_code 5 "PollBooksModel" D cA ad 1 A) {Q : State → Prop} {x : (Int × Dt)} : ∀ (n : Nat) (x2 x3 : Int) (d : Dt), cb x2 → c64 x3 → lpF (fun q : Int × Int × Dt => L_Mo_isName_y20 q.1 q.2.1 q.2.2) n (x2, x3, d) = some x → (∀ (y0 : Int) (e' : Dt), x = (y0, e') → cb y0 → G p l e rm_Mo_isName s m args below meth c 0 0 Q 5 D cA ad 1 A 65 [(9, 0), (9, 0), (0, y0), (9, 0), (9, 0)] [] e') → G p l e rm_Mo_isName s m args below meth c 0 0 Q 5 D cA ad 1 A 20 [(9, 0), (9, 0), (0, x2), (1, x3), (9, 0)] [] d := by
  intro n
  induction n with
  | zero => intro x2 x3 d g0 g1 h k0; cases h
  | succ n ih =>
    intro x2 x3 d g0 g1 h k0
    rcases lpF_some h with h | ⟨⟨v0_, v1_, e0_⟩, h1, h⟩
    · exact ok_Mo_isName_y20 C x2 x3 d g0 g1 h (fun z0_ z1_ e1_ eq w0_ w1_ => by cases eq) (fun z0_ e1_ eq w0_ => k0 _ _ (by cases eq; rfl) w0_)
    · exact ok_Mo_isName_y20 C x2 x3 d g0 g1 h1 (fun z0_ z1_ e1_ eq w0_ w1_ => by cases eq; exact ih _ _ _ w0_ w1_ h k0) (fun z0_ e1_ eq w0_ => by cases eq)
set_option maxHeartbeats 4000000 in
theorem ok_Mo_isName_l20 {p : Program} {l : Launch} {e : Env} {s : State} {m : MethodId} {args : Array Value} {below : List Frame} {meth : Method} {c : Code} {D : va_G} {cA : Nat → ClassId} {ad : Nat → Nat} {A : Nat → Prop} (C : Cx p s m args c prog_14_method_13_code 5 "PollBooksModel" D cA ad 1 A) {Q : State → Prop} {x : (Int × Dt)} (x2 x3 : Int) (d : Dt) (hx2 : cb x2) (hx3 : c64 x3) (h : L_Mo_isName_l20 x2 x3 d = some x) (k0 : ∀ (y0 : Int) (e' : Dt), x = (y0, e') → cb y0 → G p l e rm_Mo_isName s m args below meth c 0 0 Q 5 D cA ad 1 A 65 [(9, 0), (9, 0), (0, y0), (9, 0), (9, 0)] [] e') : G p l e rm_Mo_isName s m args below meth c 0 0 Q 5 D cA ad 1 A 20 [(9, 0), (9, 0), (0, x2), (1, x3), (9, 0)] [] d :=
  ok_Mo_isName_n20 C FU x2 x3 d hx2 hx3 h k0
set_option maxHeartbeats 4000000 in
theorem ok_Mo_isName {l : Launch} {r : Int} {d' : Dt} (p1 : Int) (d : Dt) (hp1 : c64 p1) (h : L_Mo_isName p1 d = some (r, d')) : MC l y_Mo_isName prog_14_method_13_code 5 (some .boolean) rm_Mo_isName 1 [(1, p1)] d (some (0, r)) d' := by
  refine MC.of (by decide) (Nat.le_of_ble_eq_true rfl) ?_
  intro p e s m args below meth c D cA ad A C hlk hr
  replace C : Cx p s m args c prog_14_method_13_code 5 "PollBooksModel" D cA ad 1 A := C
  show G p l e rm_Mo_isName s m args below meth c 0 0 (MQ below (fun _ => QC D cA ad 1 A (some .boolean) (some (0, r)) d') args s 0 0 A) 5 D cA ad 1 A 0 [(1, p1), (9, 0)] [] d
  refine g_sub (lo2 := [(1, p1), (9, 0), (9, 0), (9, 0), (9, 0)]) (lsb_v (lsb_c (lsb_n (lsb_n (lsb_n lsb_e))))) ?_
  unfold L_Mo_isName at h
  refine g_lload_n C 0 rfl (by decide +kernel) ?_
  refine g_lconst C 1 (v := 1) (by decide) (by decide +kernel) ?_
  refine g_lc_lt C (off := 11) (tgt := 14) hp1 (cL rfl) (by decide +kernel) (by decide +kernel) (by decide) (fun hc8_ => ?_) (fun hc8_ => ?_)
  · replace h := ite_t hc8_ h
    refine g_iconst C 0 (cK rfl) (by decide +kernel) ?_
    obtain ⟨rfl, rfl⟩ := ret_inj h
    exact g_zret C (Or.inl rfl) hlk hr (by decide +kernel)
  · replace h := ite_f hc8_ h
    refine g_lload_n C 0 rfl (by decide +kernel) ?_
    refine g_ldc2 C (ix := 289) (v := 1099511627776) lk_1772 (by decide +kernel) ?_
    refine g_lc_lt C (off := 5) (tgt := 16) hp1 (cL rfl) (by decide +kernel) (by decide +kernel) (by decide) (fun hc9_ => ?_) (fun hc9_ => ?_)
    · replace h := ite_t hc9_ h
      refine g_iconst C 1 (cK rfl) (by decide +kernel) ?_
      refine s_istore_n C 2 (lo' := [(1, p1), (9, 0), (0, 1), (9, 0), (9, 0)]) (by decide) (s1k (s1n (by decide) s1z)) (by decide +kernel) ?_
      refine g_lload_n C 0 rfl (by decide +kernel) ?_
      refine s_lstore_n C 3 (lo' := [(1, p1), (9, 0), (0, 1), (1, p1), (9, 0)]) (by decide) (s2k (s2k (s2n (by decide) s2z))) (by decide +kernel) ?_
      refine g_sub (lo2 := [(9, 0), (9, 0), (0, 1), (1, p1), (9, 0)]) (lsb_c (lsb_c (lsb_v (lsb_v (lsb_c lsb_e))))) ?_
      obtain ⟨x10_, hx11_, h⟩ := lb_some h
      refine ok_Mo_isName_l20 C 1 p1 d (Or.inr rfl) hp1 hx11_ (fun v12_ d13_ eq14_ hv12_ => ?_)
      subst eq14_
      replace h := u1_e h
      refine g_iload_n C 2 rfl (by decide +kernel) ?_
      obtain ⟨rfl, rfl⟩ := ret_inj h
      exact g_zret C hv12_ hlk hr (by decide +kernel)
    · replace h := ite_f hc9_ h
      refine g_iconst C 0 (cK rfl) (by decide +kernel) ?_
      obtain ⟨rfl, rfl⟩ := ret_inj h
      exact g_zret C (Or.inl rfl) hlk hr (by decide +kernel)
/-! PollBooksModel.lettersOf(J[I)I -/
def y_Mo_lettersOf : MethodName := ⟨"PollBooksModel", "lettersOf", "(J[I)I"⟩
def rm_Mo_lettersOf : Room := { frames := 0, cells := 0, slots := 0, locals := 0 }
theorem mw_Mo_lettersOf : MW y_Mo_lettersOf prog_14_method_14_code 6 (some .int) 2 := ⟨lk_1781, lk_14, by decide +kernel⟩
def L_Mo_lettersOf_y5 (arr1 len1 : Nat) (x3 x4 : Int) (d : Dt) : Option ((Int × Int × Dt) ⊕ ((Int × Dt))) :=
  if 0 < x4 then ck ((0 : Int) ≤ x3 ∧ x3 < (len1 : Int)) (lt_ (lshr x4 5) (fun v3_ => some (Sum.inl ((w32 (x3 + 1)), v3_, (up2 d arr1 x3.toNat (w32 (land x4 31))))))) else some (Sum.inr (x3, d))
def L_Mo_lettersOf_l5 (arr1 len1 : Nat) (x3 x4 : Int) (d : Dt) : Option ((Int × Dt)) := lpF (fun q : Int × Int × Dt => L_Mo_lettersOf_y5 arr1 len1 q.1 q.2.1 q.2.2) FU (x3, x4, d)
def L_Mo_lettersOf (arr1 len1 : Nat) (p1 : Int) (d : Dt) : Option (Int × Dt) :=
  lb (L_Mo_lettersOf_l5 arr1 len1 0 p1 d) (fun q11_ => u1 q11_ (fun v8_ d9_ => some (v8_, d9_)))
set_option maxHeartbeats 4000000 in
theorem ok_Mo_lettersOf_y5 {p : Program} {l : Launch} {e : Env} {s : State} {m : MethodId} {args : Array Value} {below : List Frame} {meth : Method} {c : Code} {D : va_G} {cA : Nat → ClassId} {ad : Nat → Nat} {A : Nat → Prop} (C : Cx p s m args c prog_14_method_14_code 6 "PollBooksModel" D cA ad 1 A) {Q : State → Prop} (arr1 len1 : Nat) (harr1 : cd 1 arr1 = (20, len1)) (barr1 : arr1 < 81) {o : (Int × Int × Dt) ⊕ ((Int × Dt))} (x3 x4 : Int) (d : Dt) (hx3 : c32 x3) (hx4 : c64 x4) (h : L_Mo_lettersOf_y5 arr1 len1 x3 x4 d = some o) (kb : ∀ (y0 y1 : Int) (e' : Dt), o = .inl (y0, y1, e') → c32 y0 → c64 y1 → G p l e rm_Mo_lettersOf s m args below meth c 0 0 Q 6 D cA ad 1 A 5 [(9, 0), (9, 0), (2, (arr1 : Int)), (0, y0), (1, y1), (9, 0)] [] e') (k0 : ∀ (y0 : Int) (e' : Dt), o = .inr (y0, e') → c32 y0 → G p l e rm_Mo_lettersOf s m args below meth c 0 0 Q 6 D cA ad 1 A 34 [(9, 0), (9, 0), (9, 0), (0, y0), (9, 0), (9, 0)] [] e') : G p l e rm_Mo_lettersOf s m args below meth c 0 0 Q 6 D cA ad 1 A 5 [(9, 0), (9, 0), (2, (arr1 : Int)), (0, x3), (1, x4), (9, 0)] [] d := by
  unfold L_Mo_lettersOf_y5 at h
  refine g_lload C 4 rfl (by decide +kernel) ?_
  refine g_lconst C 0 (v := 0) (by decide) (by decide +kernel) ?_
  refine g_lc_le C (off := 25) (tgt := 34) hx4 (cL rfl) (by decide +kernel) (by decide +kernel) (by decide) (fun hc1_ => ?_) (fun hc1_ => ?_)
  · replace h := ite_t hc1_ h
    refine g_aload_n C 2 rfl (by decide +kernel) ?_
    refine g_iload_n C 3 rfl (by decide +kernel) ?_
    refine g_lload C 4 rfl (by decide +kernel) ?_
    refine g_ldc2 C (ix := 291) (v := 31) lk_1773 (by decide +kernel) ?_
    refine g_land C (by decide +kernel) ?_
    refine g_l2i C (by decide +kernel) ?_
    obtain ⟨hb2_, h⟩ := ck_some h
    refine g_iast C arr1 (w32_c _) hx3 rfl harr1 (nB barr1) hb2_ (by decide +kernel) ?_
    refine s_iinc C 3 1 (lo' := [(9, 0), (9, 0), (2, (arr1 : Int)), (0, (w32 (x3 + 1))), (1, x4), (9, 0)]) rfl (by decide) (s1k (s1k (s1n (by decide) s1z))) (by decide +kernel) ?_
    refine g_lload C 4 rfl (by decide +kernel) ?_
    refine g_iconst C 5 (cK rfl) (by decide +kernel) ?_
    refine g_lshr C (by decide +kernel) ?_
    obtain ⟨v3_, ev4_, h⟩ := lt_some h
    refine g_val ev4_.symm ?_
    have hv5_ : c64 v3_ := by rw [ev4_]; exact (l_c _)
    refine s_lstore C 4 (lo' := [(9, 0), (9, 0), (2, (arr1 : Int)), (0, (w32 (x3 + 1))), (1, v3_), (9, 0)]) (by decide) (s2k (s2k (s2k (s2n (by decide) s2z)))) (by decide +kernel) ?_
    refine g_goto C 5 (off := (-26)) (by decide +kernel) (by decide) ?_
    refine g_sub (lo2 := [(9, 0), (9, 0), (2, (arr1 : Int)), (0, (w32 (x3 + 1))), (1, v3_), (9, 0)]) (lsb_c (lsb_c (lsb_v (lsb_v (lsb_v (lsb_c lsb_e)))))) ?_
    obtain rfl := Option.some.inj h
    exact kb (w32 (x3 + 1)) v3_ (up2 d arr1 x3.toNat (w32 (land x4 31))) rfl (w32_c _) hv5_
  · replace h := ite_f hc1_ h
    refine g_sub (lo2 := [(9, 0), (9, 0), (9, 0), (0, x3), (9, 0), (9, 0)]) (lsb_c (lsb_c (lsb_c (lsb_v (lsb_c (lsb_c lsb_e)))))) ?_
    obtain rfl := Option.some.inj h
    exact k0 x3 d rfl hx3
set_option maxHeartbeats 4000000 in
theorem ok_Mo_lettersOf_n5 {p : Program} {l : Launch} {e : Env} {s : State} {m : MethodId} {args : Array Value} {below : List Frame} {meth : Method} {c : Code} {D : va_G} {cA : Nat → ClassId} {ad : Nat → Nat} {A : Nat → Prop} (C : Cx p s m args c prog_14_method_14_code 6 "PollBooksModel" D cA ad 1 A) {Q : State → Prop} (arr1 len1 : Nat) (harr1 : cd 1 arr1 = (20, len1)) (barr1 : arr1 < 81) {x : (Int × Dt)} : ∀ (n : Nat) (x3 x4 : Int) (d : Dt), c32 x3 → c64 x4 → lpF (fun q : Int × Int × Dt => L_Mo_lettersOf_y5 arr1 len1 q.1 q.2.1 q.2.2) n (x3, x4, d) = some x → (∀ (y0 : Int) (e' : Dt), x = (y0, e') → c32 y0 → G p l e rm_Mo_lettersOf s m args below meth c 0 0 Q 6 D cA ad 1 A 34 [(9, 0), (9, 0), (9, 0), (0, y0), (9, 0), (9, 0)] [] e') → G p l e rm_Mo_lettersOf s m args below meth c 0 0 Q 6 D cA ad 1 A 5 [(9, 0), (9, 0), (2, (arr1 : Int)), (0, x3), (1, x4), (9, 0)] [] d := by
  intro n
  induction n with
  | zero => intro x3 x4 d g0 g1 h k0; cases h
  | succ n ih =>
    intro x3 x4 d g0 g1 h k0
    rcases lpF_some h with h | ⟨⟨v0_, v1_, e0_⟩, h1, h⟩
    · exact ok_Mo_lettersOf_y5 C arr1 len1 harr1 barr1 x3 x4 d g0 g1 h (fun z0_ z1_ e1_ eq w0_ w1_ => by cases eq) (fun z0_ e1_ eq w0_ => k0 _ _ (by cases eq; rfl) w0_)
    · exact ok_Mo_lettersOf_y5 C arr1 len1 harr1 barr1 x3 x4 d g0 g1 h1 (fun z0_ z1_ e1_ eq w0_ w1_ => by cases eq; exact ih _ _ _ w0_ w1_ h k0) (fun z0_ e1_ eq w0_ => by cases eq)
set_option maxHeartbeats 4000000 in
theorem ok_Mo_lettersOf_l5 {p : Program} {l : Launch} {e : Env} {s : State} {m : MethodId} {args : Array Value} {below : List Frame} {meth : Method} {c : Code} {D : va_G} {cA : Nat → ClassId} {ad : Nat → Nat} {A : Nat → Prop} (C : Cx p s m args c prog_14_method_14_code 6 "PollBooksModel" D cA ad 1 A) {Q : State → Prop} (arr1 len1 : Nat) (harr1 : cd 1 arr1 = (20, len1)) (barr1 : arr1 < 81) {x : (Int × Dt)} (x3 x4 : Int) (d : Dt) (hx3 : c32 x3) (hx4 : c64 x4) (h : L_Mo_lettersOf_l5 arr1 len1 x3 x4 d = some x) (k0 : ∀ (y0 : Int) (e' : Dt), x = (y0, e') → c32 y0 → G p l e rm_Mo_lettersOf s m args below meth c 0 0 Q 6 D cA ad 1 A 34 [(9, 0), (9, 0), (9, 0), (0, y0), (9, 0), (9, 0)] [] e') : G p l e rm_Mo_lettersOf s m args below meth c 0 0 Q 6 D cA ad 1 A 5 [(9, 0), (9, 0), (2, (arr1 : Int)), (0, x3), (1, x4), (9, 0)] [] d :=
  ok_Mo_lettersOf_n5 C arr1 len1 harr1 barr1 FU x3 x4 d hx3 hx4 h k0
set_option maxHeartbeats 4000000 in
theorem ok_Mo_lettersOf {l : Launch} (arr1 len1 : Nat) (harr1 : cd 1 arr1 = (20, len1)) (barr1 : arr1 < 81) {r : Int} {d' : Dt} (p1 : Int) (d : Dt) (hp1 : c64 p1) (h : L_Mo_lettersOf arr1 len1 p1 d = some (r, d')) : MC l y_Mo_lettersOf prog_14_method_14_code 6 (some .int) rm_Mo_lettersOf 1 [(1, p1), (2, (arr1 : Int))] d (some (0, r)) d' := by
  refine MC.of (by decide) (Nat.le_of_ble_eq_true rfl) ?_
  intro p e s m args below meth c D cA ad A C hlk hr
  replace C : Cx p s m args c prog_14_method_14_code 6 "PollBooksModel" D cA ad 1 A := C
  show G p l e rm_Mo_lettersOf s m args below meth c 0 0 (MQ below (fun _ => QC D cA ad 1 A (some .int) (some (0, r)) d') args s 0 0 A) 6 D cA ad 1 A 0 [(1, p1), (9, 0), (2, (arr1 : Int))] [] d
  refine g_sub (lo2 := [(1, p1), (9, 0), (2, (arr1 : Int)), (9, 0), (9, 0), (9, 0)]) (lsb_v (lsb_c (lsb_v (lsb_n (lsb_n (lsb_n lsb_e)))))) ?_
  unfold L_Mo_lettersOf at h
  refine g_iconst C 0 (cK rfl) (by decide +kernel) ?_
  refine s_istore_n C 3 (lo' := [(1, p1), (9, 0), (2, (arr1 : Int)), (0, 0), (9, 0), (9, 0)]) (by decide) (s1k (s1k (s1n (by decide) s1z))) (by decide +kernel) ?_
  refine g_lload_n C 0 rfl (by decide +kernel) ?_
  refine s_lstore C 4 (lo' := [(1, p1), (9, 0), (2, (arr1 : Int)), (0, 0), (1, p1), (9, 0)]) (by decide) (s2k (s2k (s2k (s2n (by decide) s2z)))) (by decide +kernel) ?_
  refine g_sub (lo2 := [(9, 0), (9, 0), (2, (arr1 : Int)), (0, 0), (1, p1), (9, 0)]) (lsb_c (lsb_c (lsb_v (lsb_v (lsb_v (lsb_c lsb_e)))))) ?_
  obtain ⟨x6_, hx7_, h⟩ := lb_some h
  refine ok_Mo_lettersOf_l5 C arr1 len1 harr1 barr1 0 p1 d (c32_cb (Or.inl rfl)) hp1 hx7_ (fun v8_ d9_ eq10_ hv8_ => ?_)
  subst eq10_
  replace h := u1_e h
  refine g_iload_n C 3 rfl (by decide +kernel) ?_
  obtain ⟨rfl, rfl⟩ := ret_inj h
  exact g_iret C hv8_ hlk hr (by decide +kernel)
/-! PollBooksModel.farOf(JJ)I -/
def y_Mo_farOf : MethodName := ⟨"PollBooksModel", "farOf", "(JJ)I"⟩
def rm_Mo_farOf : Room := { frames := 1, cells := 0, slots := 0, locals := 25 }
theorem mw_Mo_farOf : MW y_Mo_farOf prog_14_method_15_code 12 (some .int) 2 := ⟨lk_1778, lk_14, by decide +kernel⟩
def L_Mo_farOf_y23 (x5 x6 x7 : Int) (d : Dt) : Option ((Int × Int × Int × Dt) ⊕ ((Int × Int × Dt))) :=
  if x6 < x7 then some (Sum.inr (x5, x6, d)) else ck ((0 : Int) ≤ x7 ∧ x7 < 9) (some (Sum.inl (x5, x6, (w32 (x7 + 1)), (up2 d 6 x7.toNat x7))))
def L_Mo_farOf_l23 (x5 x6 x7 : Int) (d : Dt) : Option ((Int × Int × Dt)) := lpF (fun q : Int × Int × Int × Dt => L_Mo_farOf_y23 q.1 q.2.1 q.2.2.1 q.2.2.2) FU (x5, x6, x7, d)
def L_Mo_farOf_b118 (x5 x6 x7 x9 x10 s0 s1 : Int) (d : Dt) : Option ((Int × Int × Int × Int × Int × Dt) ⊕ ((Int × Int × Int × Dt))) :=
  lt_ (w32 (s0 + s1)) (fun v3_ => ck ((0 : Int) ≤ (w32 (x9 - 1)) ∧ (w32 (x9 - 1)) < 9) (ck ((0 : Int) ≤ x9 ∧ x9 < 9) (some (Sum.inl (x5, x6, x7, x10, (w32 (x9 + 1)), (up2 d 6 x9.toNat (jmin v3_ (w32 (1 + (jmin x10 (d 6 ((w32 (x9 - 1))).toNat)))))))))))
def L_Mo_farOf_y74 (x5 x6 x7 x8 x9 : Int) (d : Dt) : Option ((Int × Int × Int × Int × Int × Dt) ⊕ ((Int × Int × Int × Dt))) :=
  if x6 < x9 then some (Sum.inr (x5, x6, x7, d)) else ck ((0 : Int) ≤ x9 ∧ x9 < 9) (lt_ (d 6 x9.toNat) (fun v12_ => ck ((0 : Int) ≤ (w32 (x7 - 1)) ∧ (w32 (x7 - 1)) < 8) (ck ((0 : Int) ≤ (w32 (x9 - 1)) ∧ (w32 (x9 - 1)) < 8) (if (d 4 ((w32 (x7 - 1))).toNat) = (d 5 ((w32 (x9 - 1))).toNat) then L_Mo_farOf_b118 x5 x6 x7 x9 v12_ x8 0 d else L_Mo_farOf_b118 x5 x6 x7 x9 v12_ x8 1 d))))
def L_Mo_farOf_l74 (x5 x6 x7 x8 x9 : Int) (d : Dt) : Option ((Int × Int × Int × Dt)) := lpF (fun q : Int × Int × Int × Int × Int × Dt => L_Mo_farOf_y74 q.1 q.2.1 q.2.2.1 q.2.2.2.1 q.2.2.2.2.1 q.2.2.2.2.2) FU (x5, x6, x7, x8, x9, d)
def L_Mo_farOf_y48 (x5 x6 x7 : Int) (d : Dt) : Option ((Int × Int × Int × Dt) ⊕ ((Int × Dt))) :=
  if x5 < x7 then some (Sum.inr (x6, d)) else lt_ (d 6 0) (fun v22_ => lb (L_Mo_farOf_l74 x5 x6 x7 v22_ 1 (up2 d 6 0 x7)) (fun q32_ => u3 q32_ (fun v27_ v28_ v29_ d30_ => some (Sum.inl (v27_, v28_, (w32 (v29_ + 1)), d30_)))))
def L_Mo_farOf_l48 (x5 x6 x7 : Int) (d : Dt) : Option ((Int × Dt)) := lpF (fun q : Int × Int × Int × Dt => L_Mo_farOf_y48 q.1 q.2.1 q.2.2.1 q.2.2.2) FU (x5, x6, x7, d)
def L_Mo_farOf (p1 p2 : Int) (d : Dt) : Option (Int × Dt) :=
  bd (L_Mo_lettersOf 4 8 p1 d) (fun r34_ d33_ => bd (L_Mo_lettersOf 5 8 p2 d33_) (fun r38_ d37_ => lb (L_Mo_farOf_l23 r34_ r38_ 0 d37_) (fun q55_ => u2 q55_ (fun v43_ v44_ d45_ => lb (L_Mo_farOf_l48 v43_ v44_ 1 d45_) (fun q54_ => u1 q54_ (fun v49_ d50_ => ck ((0 : Int) ≤ v49_ ∧ v49_ < 9) (some ((d50_ 6 v49_.toNat), d50_))))))))
set_option maxHeartbeats 4000000 in
theorem ok_Mo_farOf_y23 {p : Program} {l : Launch} {e : Env} {s : State} {m : MethodId} {args : Array Value} {below : List Frame} {meth : Method} {c : Code} {D : va_G} {cA : Nat → ClassId} {ad : Nat → Nat} {A : Nat → Prop} (C : Cx p s m args c prog_14_method_15_code 12 "PollBooksModel" D cA ad 1 A) {Q : State → Prop} {o : (Int × Int × Int × Dt) ⊕ ((Int × Int × Dt))} (x5 x6 x7 : Int) (d : Dt) (hx5 : c32 x5) (hx6 : c32 x6) (hx7 : c32 x7) (h : L_Mo_farOf_y23 x5 x6 x7 d = some o) (kb : ∀ (y0 y1 y2 : Int) (e' : Dt), o = .inl (y0, y1, y2, e') → c32 y0 → c32 y1 → c32 y2 → G p l e rm_Mo_farOf s m args below meth c 0 0 Q 12 D cA ad 1 A 23 [(2, 0), (9, 0), (9, 0), (9, 0), (9, 0), (0, y0), (0, y1), (0, y2), (9, 0), (9, 0), (9, 0), (9, 0)] [] e') (k0 : ∀ (y0 y1 : Int) (e' : Dt), o = .inr (y0, y1, e') → c32 y0 → c32 y1 → G p l e rm_Mo_farOf s m args below meth c 0 0 Q 12 D cA ad 1 A 45 [(2, 0), (9, 0), (9, 0), (9, 0), (9, 0), (0, y0), (0, y1), (9, 0), (9, 0), (9, 0), (9, 0), (9, 0)] [] e') : G p l e rm_Mo_farOf s m args below meth c 0 0 Q 12 D cA ad 1 A 23 [(2, 0), (9, 0), (9, 0), (9, 0), (9, 0), (0, x5), (0, x6), (0, x7), (9, 0), (9, 0), (9, 0), (9, 0)] [] d := by
  unfold L_Mo_farOf_y23 at h
  refine g_iload C 7 rfl (by decide +kernel) ?_
  refine g_iload C 6 rfl (by decide +kernel) ?_
  refine g_icmp_gt C (off := 18) (tgt := 45) hx7 hx6 (by decide +kernel) (by decide) (fun hc1_ => ?_) (fun hc1_ => ?_)
  · replace h := ite_t hc1_ h
    refine g_sub (lo2 := [(2, 0), (9, 0), (9, 0), (9, 0), (9, 0), (0, x5), (0, x6), (9, 0), (9, 0), (9, 0), (9, 0), (9, 0)]) (lsb_v (lsb_c (lsb_c (lsb_c (lsb_c (lsb_v (lsb_v (lsb_c (lsb_c (lsb_c (lsb_c (lsb_c lsb_e)))))))))))) ?_
    obtain rfl := Option.some.inj h
    exact k0 x5 x6 d rfl hx5 hx6
  · replace h := ite_f hc1_ h
    refine g_aload_n C 0 rfl (by decide +kernel) ?_
    refine g_getR C cl12 0 6 6 rfl cd_B0 ⟨by decide, rfl, by decide⟩ rfl rfl (nB (by decide)) (ix := 26) lk_1408 (by decide +kernel) ?_
    refine g_iload C 7 rfl (by decide +kernel) ?_
    refine g_iload C 7 rfl (by decide +kernel) ?_
    obtain ⟨hb2_, h⟩ := ck_some h
    refine g_iast C 6 hx7 hx7 rfl cd_B6 (nB (by decide)) hb2_ (by decide +kernel) ?_
    refine s_iinc C 7 1 (lo' := [(2, 0), (9, 0), (9, 0), (9, 0), (9, 0), (0, x5), (0, x6), (0, (w32 (x7 + 1))), (9, 0), (9, 0), (9, 0), (9, 0)]) rfl (by decide) (s1k (s1k (s1k (s1k (s1k (s1k (s1n (by decide) s1z))))))) (by decide +kernel) ?_
    refine g_goto C 23 (off := (-19)) (by decide +kernel) (by decide) ?_
    refine g_sub (lo2 := [(2, 0), (9, 0), (9, 0), (9, 0), (9, 0), (0, x5), (0, x6), (0, (w32 (x7 + 1))), (9, 0), (9, 0), (9, 0), (9, 0)]) (lsb_v (lsb_c (lsb_c (lsb_c (lsb_c (lsb_v (lsb_v (lsb_v (lsb_c (lsb_c (lsb_c (lsb_c lsb_e)))))))))))) ?_
    obtain rfl := Option.some.inj h
    exact kb x5 x6 (w32 (x7 + 1)) (up2 d 6 x7.toNat x7) rfl hx5 hx6 (w32_c _)
set_option maxHeartbeats 4000000 in
theorem ok_Mo_farOf_n23 {p : Program} {l : Launch} {e : Env} {s : State} {m : MethodId} {args : Array Value} {below : List Frame} {meth : Method} {c : Code} {D : va_G} {cA : Nat → ClassId} {ad : Nat → Nat} {A : Nat → Prop} (C : Cx p s m args c prog_14_method_15_code 12 "PollBooksModel" D cA ad 1 A) {Q : State → Prop} {x : (Int × Int × Dt)} : ∀ (n : Nat) (x5 x6 x7 : Int) (d : Dt), c32 x5 → c32 x6 → c32 x7 → lpF (fun q : Int × Int × Int × Dt => L_Mo_farOf_y23 q.1 q.2.1 q.2.2.1 q.2.2.2) n (x5, x6, x7, d) = some x → (∀ (y0 y1 : Int) (e' : Dt), x = (y0, y1, e') → c32 y0 → c32 y1 → G p l e rm_Mo_farOf s m args below meth c 0 0 Q 12 D cA ad 1 A 45 [(2, 0), (9, 0), (9, 0), (9, 0), (9, 0), (0, y0), (0, y1), (9, 0), (9, 0), (9, 0), (9, 0), (9, 0)] [] e') → G p l e rm_Mo_farOf s m args below meth c 0 0 Q 12 D cA ad 1 A 23 [(2, 0), (9, 0), (9, 0), (9, 0), (9, 0), (0, x5), (0, x6), (0, x7), (9, 0), (9, 0), (9, 0), (9, 0)] [] d := by
  intro n
  induction n with
  | zero => intro x5 x6 x7 d g0 g1 g2 h k0; cases h
  | succ n ih =>
    intro x5 x6 x7 d g0 g1 g2 h k0
    rcases lpF_some h with h | ⟨⟨v0_, v1_, v2_, e0_⟩, h1, h⟩
    · exact ok_Mo_farOf_y23 C x5 x6 x7 d g0 g1 g2 h (fun z0_ z1_ z2_ e1_ eq w0_ w1_ w2_ => by cases eq) (fun z0_ z1_ e1_ eq w0_ w1_ => k0 _ _ _ (by cases eq; rfl) w0_ w1_)
    · exact ok_Mo_farOf_y23 C x5 x6 x7 d g0 g1 g2 h1 (fun z0_ z1_ z2_ e1_ eq w0_ w1_ w2_ => by cases eq; exact ih _ _ _ _ w0_ w1_ w2_ h k0) (fun z0_ z1_ e1_ eq w0_ w1_ => by cases eq)
set_option maxHeartbeats 4000000 in
theorem ok_Mo_farOf_l23 {p : Program} {l : Launch} {e : Env} {s : State} {m : MethodId} {args : Array Value} {below : List Frame} {meth : Method} {c : Code} {D : va_G} {cA : Nat → ClassId} {ad : Nat → Nat} {A : Nat → Prop} (C : Cx p s m args c prog_14_method_15_code 12 "PollBooksModel" D cA ad 1 A) {Q : State → Prop} {x : (Int × Int × Dt)} (x5 x6 x7 : Int) (d : Dt) (hx5 : c32 x5) (hx6 : c32 x6) (hx7 : c32 x7) (h : L_Mo_farOf_l23 x5 x6 x7 d = some x) (k0 : ∀ (y0 y1 : Int) (e' : Dt), x = (y0, y1, e') → c32 y0 → c32 y1 → G p l e rm_Mo_farOf s m args below meth c 0 0 Q 12 D cA ad 1 A 45 [(2, 0), (9, 0), (9, 0), (9, 0), (9, 0), (0, y0), (0, y1), (9, 0), (9, 0), (9, 0), (9, 0), (9, 0)] [] e') : G p l e rm_Mo_farOf s m args below meth c 0 0 Q 12 D cA ad 1 A 23 [(2, 0), (9, 0), (9, 0), (9, 0), (9, 0), (0, x5), (0, x6), (0, x7), (9, 0), (9, 0), (9, 0), (9, 0)] [] d :=
  ok_Mo_farOf_n23 C FU x5 x6 x7 d hx5 hx6 hx7 h k0
set_option maxHeartbeats 4000000 in
theorem ok_Mo_farOf_b118 {p : Program} {l : Launch} {e : Env} {s : State} {m : MethodId} {args : Array Value} {below : List Frame} {meth : Method} {c : Code} {D : va_G} {cA : Nat → ClassId} {ad : Nat → Nat} {A : Nat → Prop} (C : Cx p s m args c prog_14_method_15_code 12 "PollBooksModel" D cA ad 1 A) {Q : State → Prop} {o : (Int × Int × Int × Int × Int × Dt) ⊕ ((Int × Int × Int × Dt))} (x5 x6 x7 x9 x10 s0 s1 : Int) (d : Dt) (hx5 : c32 x5) (hx6 : c32 x6) (hx7 : c32 x7) (hx9 : c32 x9) (hx10 : c32 x10) (hs0 : c32 s0) (hs1 : cb s1) (h : L_Mo_farOf_b118 x5 x6 x7 x9 x10 s0 s1 d = some o) (kb : ∀ (y0 y1 y2 y3 y4 : Int) (e' : Dt), o = .inl (y0, y1, y2, y3, y4, e') → c32 y0 → c32 y1 → c32 y2 → c32 y3 → c32 y4 → G p l e rm_Mo_farOf s m args below meth c 0 0 Q 12 D cA ad 1 A 74 [(2, 0), (9, 0), (9, 0), (9, 0), (9, 0), (0, y0), (0, y1), (0, y2), (0, y3), (0, y4), (9, 0), (9, 0)] [] e') (k0 : ∀ (y0 y1 y2 : Int) (e' : Dt), o = .inr (y0, y1, y2, e') → c32 y0 → c32 y1 → c32 y2 → G p l e rm_Mo_farOf s m args below meth c 0 0 Q 12 D cA ad 1 A 159 [(2, 0), (9, 0), (9, 0), (9, 0), (9, 0), (0, y0), (0, y1), (0, y2), (9, 0), (9, 0), (9, 0), (9, 0)] [] e') : G p l e rm_Mo_farOf s m args below meth c 0 0 Q 12 D cA ad 1 A 118 [(2, 0), (9, 0), (9, 0), (9, 0), (9, 0), (0, x5), (0, x6), (0, x7), (9, 0), (0, x9), (0, x10), (9, 0)] [(0, s1), (0, s0)] d := by
  unfold L_Mo_farOf_b118 at h
  refine g_iadd C (by decide +kernel) ?_
  obtain ⟨v3_, ev4_, h⟩ := lt_some h
  refine g_val ev4_.symm ?_
  have hv5_ : c32 v3_ := by rw [ev4_]; exact (w32_c _)
  refine s_istore C 11 (lo' := [(2, 0), (9, 0), (9, 0), (9, 0), (9, 0), (0, x5), (0, x6), (0, x7), (9, 0), (0, x9), (0, x10), (0, v3_)]) (by decide) (s1k (s1k (s1k (s1k (s1k (s1k (s1k (s1k (s1k (s1k (s1n (by decide) s1z))))))))))) (by decide +kernel) ?_
  refine g_aload_n C 0 rfl (by decide +kernel) ?_
  refine g_getR C cl12 0 6 6 rfl cd_B0 ⟨by decide, rfl, by decide⟩ rfl rfl (nB (by decide)) (ix := 26) lk_1408 (by decide +kernel) ?_
  refine g_iload C 9 rfl (by decide +kernel) ?_
  refine g_iload C 11 rfl (by decide +kernel) ?_
  refine g_iconst C 1 (cK rfl) (by decide +kernel) ?_
  refine g_iload C 10 rfl (by decide +kernel) ?_
  refine g_aload_n C 0 rfl (by decide +kernel) ?_
  refine g_getR C cl12 0 6 6 rfl cd_B0 ⟨by decide, rfl, by decide⟩ rfl rfl (nB (by decide)) (ix := 26) lk_1408 (by decide +kernel) ?_
  refine g_iload C 9 rfl (by decide +kernel) ?_
  refine g_iconst C 1 (cK rfl) (by decide +kernel) ?_
  refine g_isub C (by decide +kernel) ?_
  obtain ⟨hb6_, h⟩ := ck_some h
  refine g_iald C 6 (w32_c _) rfl cd_B6 (nB (by decide)) hb6_ (by decide +kernel) (fun hc7_ => ?_)
  refine g_mmin C hx10 hc7_ (ix := 299) lk_1782 lk_601 lk_16 lk_602 ⟨Nat.le_of_ble_eq_true rfl, Nat.le_of_ble_eq_true rfl, Nat.zero_le _, Nat.zero_le _⟩ (Nat.le_of_ble_eq_true rfl) (by decide +kernel) ?_
  refine g_iadd C (by decide +kernel) ?_
  refine g_mmin C hv5_ (w32_c _) (ix := 299) lk_1782 lk_601 lk_16 lk_602 ⟨Nat.le_of_ble_eq_true rfl, Nat.le_of_ble_eq_true rfl, Nat.zero_le _, Nat.zero_le _⟩ (Nat.le_of_ble_eq_true rfl) (by decide +kernel) ?_
  obtain ⟨hb8_, h⟩ := ck_some h
  refine g_iast C 6 (jmin_c hv5_ (w32_c _)) hx9 rfl cd_B6 (nB (by decide)) hb8_ (by decide +kernel) ?_
  refine g_iload C 10 rfl (by decide +kernel) ?_
  refine s_istore C 8 (lo' := [(2, 0), (9, 0), (9, 0), (9, 0), (9, 0), (0, x5), (0, x6), (0, x7), (0, x10), (0, x9), (0, x10), (0, v3_)]) (by decide) (s1k (s1k (s1k (s1k (s1k (s1k (s1k (s1n (by decide) s1z)))))))) (by decide +kernel) ?_
  refine s_iinc C 9 1 (lo' := [(2, 0), (9, 0), (9, 0), (9, 0), (9, 0), (0, x5), (0, x6), (0, x7), (0, x10), (0, (w32 (x9 + 1))), (0, x10), (0, v3_)]) rfl (by decide) (s1k (s1k (s1k (s1k (s1k (s1k (s1k (s1k (s1n (by decide) s1z))))))))) (by decide +kernel) ?_
  refine g_goto C 74 (off := (-82)) (by decide +kernel) (by decide) ?_
  refine g_sub (lo2 := [(2, 0), (9, 0), (9, 0), (9, 0), (9, 0), (0, x5), (0, x6), (0, x7), (0, x10), (0, (w32 (x9 + 1))), (9, 0), (9, 0)]) (lsb_v (lsb_c (lsb_c (lsb_c (lsb_c (lsb_v (lsb_v (lsb_v (lsb_v (lsb_v (lsb_c (lsb_c lsb_e)))))))))))) ?_
  obtain rfl := Option.some.inj h
  exact kb x5 x6 x7 x10 (w32 (x9 + 1)) (up2 d 6 x9.toNat (jmin v3_ (w32 (1 + (jmin x10 (d 6 ((w32 (x9 - 1))).toNat)))))) rfl hx5 hx6 hx7 hx10 (w32_c _)
set_option maxHeartbeats 4000000 in
theorem ok_Mo_farOf_y74 {p : Program} {l : Launch} {e : Env} {s : State} {m : MethodId} {args : Array Value} {below : List Frame} {meth : Method} {c : Code} {D : va_G} {cA : Nat → ClassId} {ad : Nat → Nat} {A : Nat → Prop} (C : Cx p s m args c prog_14_method_15_code 12 "PollBooksModel" D cA ad 1 A) {Q : State → Prop} {o : (Int × Int × Int × Int × Int × Dt) ⊕ ((Int × Int × Int × Dt))} (x5 x6 x7 x8 x9 : Int) (d : Dt) (hx5 : c32 x5) (hx6 : c32 x6) (hx7 : c32 x7) (hx8 : c32 x8) (hx9 : c32 x9) (h : L_Mo_farOf_y74 x5 x6 x7 x8 x9 d = some o) (kb : ∀ (y0 y1 y2 y3 y4 : Int) (e' : Dt), o = .inl (y0, y1, y2, y3, y4, e') → c32 y0 → c32 y1 → c32 y2 → c32 y3 → c32 y4 → G p l e rm_Mo_farOf s m args below meth c 0 0 Q 12 D cA ad 1 A 74 [(2, 0), (9, 0), (9, 0), (9, 0), (9, 0), (0, y0), (0, y1), (0, y2), (0, y3), (0, y4), (9, 0), (9, 0)] [] e') (k0 : ∀ (y0 y1 y2 : Int) (e' : Dt), o = .inr (y0, y1, y2, e') → c32 y0 → c32 y1 → c32 y2 → G p l e rm_Mo_farOf s m args below meth c 0 0 Q 12 D cA ad 1 A 159 [(2, 0), (9, 0), (9, 0), (9, 0), (9, 0), (0, y0), (0, y1), (0, y2), (9, 0), (9, 0), (9, 0), (9, 0)] [] e') : G p l e rm_Mo_farOf s m args below meth c 0 0 Q 12 D cA ad 1 A 74 [(2, 0), (9, 0), (9, 0), (9, 0), (9, 0), (0, x5), (0, x6), (0, x7), (0, x8), (0, x9), (9, 0), (9, 0)] [] d := by
  unfold L_Mo_farOf_y74 at h
  refine g_iload C 9 rfl (by decide +kernel) ?_
  refine g_iload C 6 rfl (by decide +kernel) ?_
  refine g_icmp_gt C (off := 81) (tgt := 159) hx9 hx6 (by decide +kernel) (by decide) (fun hc9_ => ?_) (fun hc9_ => ?_)
  · replace h := ite_t hc9_ h
    refine g_sub (lo2 := [(2, 0), (9, 0), (9, 0), (9, 0), (9, 0), (0, x5), (0, x6), (0, x7), (9, 0), (9, 0), (9, 0), (9, 0)]) (lsb_v (lsb_c (lsb_c (lsb_c (lsb_c (lsb_v (lsb_v (lsb_v (lsb_c (lsb_c (lsb_c (lsb_c lsb_e)))))))))))) ?_
    obtain rfl := Option.some.inj h
    exact k0 x5 x6 x7 d rfl hx5 hx6 hx7
  · replace h := ite_f hc9_ h
    refine g_aload_n C 0 rfl (by decide +kernel) ?_
    refine g_getR C cl12 0 6 6 rfl cd_B0 ⟨by decide, rfl, by decide⟩ rfl rfl (nB (by decide)) (ix := 26) lk_1408 (by decide +kernel) ?_
    refine g_iload C 9 rfl (by decide +kernel) ?_
    obtain ⟨hb10_, h⟩ := ck_some h
    refine g_iald C 6 hx9 rfl cd_B6 (nB (by decide)) hb10_ (by decide +kernel) (fun hc11_ => ?_)
    obtain ⟨v12_, ev13_, h⟩ := lt_some h
    refine g_val ev13_.symm ?_
    have hv14_ : c32 v12_ := by rw [ev13_]; exact hc11_
    refine s_istore C 10 (lo' := [(2, 0), (9, 0), (9, 0), (9, 0), (9, 0), (0, x5), (0, x6), (0, x7), (0, x8), (0, x9), (0, v12_), (9, 0)]) (by decide) (s1k (s1k (s1k (s1k (s1k (s1k (s1k (s1k (s1k (s1n (by decide) s1z)))))))))) (by decide +kernel) ?_
    refine g_iload C 8 rfl (by decide +kernel) ?_
    refine g_aload_n C 0 rfl (by decide +kernel) ?_
    refine g_getR C cl12 0 4 4 rfl cd_B0 ⟨by decide, rfl, by decide⟩ rfl rfl (nB (by decide)) (ix := 20) lk_1406 (by decide +kernel) ?_
    refine g_iload C 7 rfl (by decide +kernel) ?_
    refine g_iconst C 1 (cK rfl) (by decide +kernel) ?_
    refine g_isub C (by decide +kernel) ?_
    obtain ⟨hb15_, h⟩ := ck_some h
    refine g_iald C 4 (w32_c _) rfl cd_B4 (nB (by decide)) hb15_ (by decide +kernel) (fun hc16_ => ?_)
    refine g_aload_n C 0 rfl (by decide +kernel) ?_
    refine g_getR C cl12 0 5 5 rfl cd_B0 ⟨by decide, rfl, by decide⟩ rfl rfl (nB (by decide)) (ix := 23) lk_1407 (by decide +kernel) ?_
    refine g_iload C 9 rfl (by decide +kernel) ?_
    refine g_iconst C 1 (cK rfl) (by decide +kernel) ?_
    refine g_isub C (by decide +kernel) ?_
    obtain ⟨hb17_, h⟩ := ck_some h
    refine g_iald C 5 (w32_c _) rfl cd_B5 (nB (by decide)) hb17_ (by decide +kernel) (fun hc18_ => ?_)
    refine g_icmp_ne C (off := 7) (tgt := 117) hc16_ hc18_ (by decide +kernel) (by decide) (fun hc19_ => ?_) (fun hc19_ => ?_)
    · replace h := ite_t hc19_ h
      refine g_iconst C 0 (cK rfl) (by decide +kernel) ?_
      refine g_goto C 118 (off := 4) (by decide +kernel) (by decide) ?_
      refine g_sub (lo2 := [(2, 0), (9, 0), (9, 0), (9, 0), (9, 0), (0, x5), (0, x6), (0, x7), (9, 0), (0, x9), (0, v12_), (9, 0)]) (lsb_v (lsb_c (lsb_c (lsb_c (lsb_c (lsb_v (lsb_v (lsb_v (lsb_c (lsb_v (lsb_v (lsb_c lsb_e)))))))))))) ?_
      exact ok_Mo_farOf_b118 C x5 x6 x7 x9 v12_ x8 0 d hx5 hx6 hx7 hx9 hv14_ hx8 (Or.inl rfl) h kb k0
    · replace h := ite_f hc19_ h
      refine g_iconst C 1 (cK rfl) (by decide +kernel) ?_
      refine g_sub (lo2 := [(2, 0), (9, 0), (9, 0), (9, 0), (9, 0), (0, x5), (0, x6), (0, x7), (9, 0), (0, x9), (0, v12_), (9, 0)]) (lsb_v (lsb_c (lsb_c (lsb_c (lsb_c (lsb_v (lsb_v (lsb_v (lsb_c (lsb_v (lsb_v (lsb_c lsb_e)))))))))))) ?_
      exact ok_Mo_farOf_b118 C x5 x6 x7 x9 v12_ x8 1 d hx5 hx6 hx7 hx9 hv14_ hx8 (Or.inr rfl) h kb k0
set_option maxHeartbeats 4000000 in
theorem ok_Mo_farOf_n74 {p : Program} {l : Launch} {e : Env} {s : State} {m : MethodId} {args : Array Value} {below : List Frame} {meth : Method} {c : Code} {D : va_G} {cA : Nat → ClassId} {ad : Nat → Nat} {A : Nat → Prop} (C : Cx p s m args c prog_14_method_15_code 12 "PollBooksModel" D cA ad 1 A) {Q : State → Prop} {x : (Int × Int × Int × Dt)} : ∀ (n : Nat) (x5 x6 x7 x8 x9 : Int) (d : Dt), c32 x5 → c32 x6 → c32 x7 → c32 x8 → c32 x9 → lpF (fun q : Int × Int × Int × Int × Int × Dt => L_Mo_farOf_y74 q.1 q.2.1 q.2.2.1 q.2.2.2.1 q.2.2.2.2.1 q.2.2.2.2.2) n (x5, x6, x7, x8, x9, d) = some x → (∀ (y0 y1 y2 : Int) (e' : Dt), x = (y0, y1, y2, e') → c32 y0 → c32 y1 → c32 y2 → G p l e rm_Mo_farOf s m args below meth c 0 0 Q 12 D cA ad 1 A 159 [(2, 0), (9, 0), (9, 0), (9, 0), (9, 0), (0, y0), (0, y1), (0, y2), (9, 0), (9, 0), (9, 0), (9, 0)] [] e') → G p l e rm_Mo_farOf s m args below meth c 0 0 Q 12 D cA ad 1 A 74 [(2, 0), (9, 0), (9, 0), (9, 0), (9, 0), (0, x5), (0, x6), (0, x7), (0, x8), (0, x9), (9, 0), (9, 0)] [] d := by
  intro n
  induction n with
  | zero => intro x5 x6 x7 x8 x9 d g0 g1 g2 g3 g4 h k0; cases h
  | succ n ih =>
    intro x5 x6 x7 x8 x9 d g0 g1 g2 g3 g4 h k0
    rcases lpF_some h with h | ⟨⟨v0_, v1_, v2_, v3_, v4_, e0_⟩, h1, h⟩
    · exact ok_Mo_farOf_y74 C x5 x6 x7 x8 x9 d g0 g1 g2 g3 g4 h (fun z0_ z1_ z2_ z3_ z4_ e1_ eq w0_ w1_ w2_ w3_ w4_ => by cases eq) (fun z0_ z1_ z2_ e1_ eq w0_ w1_ w2_ => k0 _ _ _ _ (by cases eq; rfl) w0_ w1_ w2_)
    · exact ok_Mo_farOf_y74 C x5 x6 x7 x8 x9 d g0 g1 g2 g3 g4 h1 (fun z0_ z1_ z2_ z3_ z4_ e1_ eq w0_ w1_ w2_ w3_ w4_ => by cases eq; exact ih _ _ _ _ _ _ w0_ w1_ w2_ w3_ w4_ h k0) (fun z0_ z1_ z2_ e1_ eq w0_ w1_ w2_ => by cases eq)
set_option maxHeartbeats 4000000 in
theorem ok_Mo_farOf_l74 {p : Program} {l : Launch} {e : Env} {s : State} {m : MethodId} {args : Array Value} {below : List Frame} {meth : Method} {c : Code} {D : va_G} {cA : Nat → ClassId} {ad : Nat → Nat} {A : Nat → Prop} (C : Cx p s m args c prog_14_method_15_code 12 "PollBooksModel" D cA ad 1 A) {Q : State → Prop} {x : (Int × Int × Int × Dt)} (x5 x6 x7 x8 x9 : Int) (d : Dt) (hx5 : c32 x5) (hx6 : c32 x6) (hx7 : c32 x7) (hx8 : c32 x8) (hx9 : c32 x9) (h : L_Mo_farOf_l74 x5 x6 x7 x8 x9 d = some x) (k0 : ∀ (y0 y1 y2 : Int) (e' : Dt), x = (y0, y1, y2, e') → c32 y0 → c32 y1 → c32 y2 → G p l e rm_Mo_farOf s m args below meth c 0 0 Q 12 D cA ad 1 A 159 [(2, 0), (9, 0), (9, 0), (9, 0), (9, 0), (0, y0), (0, y1), (0, y2), (9, 0), (9, 0), (9, 0), (9, 0)] [] e') : G p l e rm_Mo_farOf s m args below meth c 0 0 Q 12 D cA ad 1 A 74 [(2, 0), (9, 0), (9, 0), (9, 0), (9, 0), (0, x5), (0, x6), (0, x7), (0, x8), (0, x9), (9, 0), (9, 0)] [] d :=
  ok_Mo_farOf_n74 C FU x5 x6 x7 x8 x9 d hx5 hx6 hx7 hx8 hx9 h k0
set_option maxHeartbeats 4000000 in
theorem ok_Mo_farOf_y48 {p : Program} {l : Launch} {e : Env} {s : State} {m : MethodId} {args : Array Value} {below : List Frame} {meth : Method} {c : Code} {D : va_G} {cA : Nat → ClassId} {ad : Nat → Nat} {A : Nat → Prop} (C : Cx p s m args c prog_14_method_15_code 12 "PollBooksModel" D cA ad 1 A) {Q : State → Prop} {o : (Int × Int × Int × Dt) ⊕ ((Int × Dt))} (x5 x6 x7 : Int) (d : Dt) (hx5 : c32 x5) (hx6 : c32 x6) (hx7 : c32 x7) (h : L_Mo_farOf_y48 x5 x6 x7 d = some o) (kb : ∀ (y0 y1 y2 : Int) (e' : Dt), o = .inl (y0, y1, y2, e') → c32 y0 → c32 y1 → c32 y2 → G p l e rm_Mo_farOf s m args below meth c 0 0 Q 12 D cA ad 1 A 48 [(2, 0), (9, 0), (9, 0), (9, 0), (9, 0), (0, y0), (0, y1), (0, y2), (9, 0), (9, 0), (9, 0), (9, 0)] [] e') (k0 : ∀ (y0 : Int) (e' : Dt), o = .inr (y0, e') → c32 y0 → G p l e rm_Mo_farOf s m args below meth c 0 0 Q 12 D cA ad 1 A 165 [(2, 0), (9, 0), (9, 0), (9, 0), (9, 0), (9, 0), (0, y0), (9, 0), (9, 0), (9, 0), (9, 0), (9, 0)] [] e') : G p l e rm_Mo_farOf s m args below meth c 0 0 Q 12 D cA ad 1 A 48 [(2, 0), (9, 0), (9, 0), (9, 0), (9, 0), (0, x5), (0, x6), (0, x7), (9, 0), (9, 0), (9, 0), (9, 0)] [] d := by
  unfold L_Mo_farOf_y48 at h
  refine g_iload C 7 rfl (by decide +kernel) ?_
  refine g_iload C 5 rfl (by decide +kernel) ?_
  refine g_icmp_gt C (off := 113) (tgt := 165) hx7 hx5 (by decide +kernel) (by decide) (fun hc20_ => ?_) (fun hc20_ => ?_)
  · replace h := ite_t hc20_ h
    refine g_sub (lo2 := [(2, 0), (9, 0), (9, 0), (9, 0), (9, 0), (9, 0), (0, x6), (9, 0), (9, 0), (9, 0), (9, 0), (9, 0)]) (lsb_v (lsb_c (lsb_c (lsb_c (lsb_c (lsb_c (lsb_v (lsb_c (lsb_c (lsb_c (lsb_c (lsb_c lsb_e)))))))))))) ?_
    obtain rfl := Option.some.inj h
    exact k0 x6 d rfl hx6
  · replace h := ite_f hc20_ h
    refine g_aload_n C 0 rfl (by decide +kernel) ?_
    refine g_getR C cl12 0 6 6 rfl cd_B0 ⟨by decide, rfl, by decide⟩ rfl rfl (nB (by decide)) (ix := 26) lk_1408 (by decide +kernel) ?_
    refine g_iconst C 0 (cK rfl) (by decide +kernel) ?_
    refine g_iald C 6 (c32_cb (Or.inl rfl)) rfl cd_B6 (nB (by decide)) (by decide) (by decide +kernel) (fun hc21_ => ?_)
    refine g_val (y := (d 6 0)) rfl ?_
    replace hc21_ : c32 (d 6 0) := hc21_
    obtain ⟨v22_, ev23_, h⟩ := lt_some h
    refine g_val ev23_.symm ?_
    have hv24_ : c32 v22_ := by rw [ev23_]; exact hc21_
    refine s_istore C 8 (lo' := [(2, 0), (9, 0), (9, 0), (9, 0), (9, 0), (0, x5), (0, x6), (0, x7), (0, v22_), (9, 0), (9, 0), (9, 0)]) (by decide) (s1k (s1k (s1k (s1k (s1k (s1k (s1k (s1n (by decide) s1z)))))))) (by decide +kernel) ?_
    refine g_aload_n C 0 rfl (by decide +kernel) ?_
    refine g_getR C cl12 0 6 6 rfl cd_B0 ⟨by decide, rfl, by decide⟩ rfl rfl (nB (by decide)) (ix := 26) lk_1408 (by decide +kernel) ?_
    refine g_iconst C 0 (cK rfl) (by decide +kernel) ?_
    refine g_iload C 7 rfl (by decide +kernel) ?_
    refine g_iast C 6 hx7 (c32_cb (Or.inl rfl)) rfl cd_B6 (nB (by decide)) (by decide) (by decide +kernel) ?_
    refine g_iconst C 1 (cK rfl) (by decide +kernel) ?_
    refine s_istore C 9 (lo' := [(2, 0), (9, 0), (9, 0), (9, 0), (9, 0), (0, x5), (0, x6), (0, x7), (0, v22_), (0, 1), (9, 0), (9, 0)]) (by decide) (s1k (s1k (s1k (s1k (s1k (s1k (s1k (s1k (s1n (by decide) s1z))))))))) (by decide +kernel) ?_
    refine g_sub (lo2 := [(2, 0), (9, 0), (9, 0), (9, 0), (9, 0), (0, x5), (0, x6), (0, x7), (0, v22_), (0, 1), (9, 0), (9, 0)]) (lsb_v (lsb_c (lsb_c (lsb_c (lsb_c (lsb_v (lsb_v (lsb_v (lsb_v (lsb_v (lsb_c (lsb_c lsb_e)))))))))))) ?_
    obtain ⟨x25_, hx26_, h⟩ := lb_some h
    refine ok_Mo_farOf_l74 C x5 x6 x7 v22_ 1 (up2 d 6 0 x7) hx5 hx6 hx7 hv24_ (c32_cb (Or.inr rfl)) hx26_ (fun v27_ v28_ v29_ d30_ eq31_ hv27_ hv28_ hv29_ => ?_)
    subst eq31_
    replace h := u3_e h
    refine s_iinc C 7 1 (lo' := [(2, 0), (9, 0), (9, 0), (9, 0), (9, 0), (0, v27_), (0, v28_), (0, (w32 (v29_ + 1))), (9, 0), (9, 0), (9, 0), (9, 0)]) rfl (by decide) (s1k (s1k (s1k (s1k (s1k (s1k (s1n (by decide) s1z))))))) (by decide +kernel) ?_
    refine g_goto C 48 (off := (-114)) (by decide +kernel) (by decide) ?_
    refine g_sub (lo2 := [(2, 0), (9, 0), (9, 0), (9, 0), (9, 0), (0, v27_), (0, v28_), (0, (w32 (v29_ + 1))), (9, 0), (9, 0), (9, 0), (9, 0)]) (lsb_v (lsb_c (lsb_c (lsb_c (lsb_c (lsb_v (lsb_v (lsb_v (lsb_c (lsb_c (lsb_c (lsb_c lsb_e)))))))))))) ?_
    obtain rfl := Option.some.inj h
    exact kb v27_ v28_ (w32 (v29_ + 1)) d30_ rfl hv27_ hv28_ (w32_c _)
set_option maxHeartbeats 4000000 in
theorem ok_Mo_farOf_n48 {p : Program} {l : Launch} {e : Env} {s : State} {m : MethodId} {args : Array Value} {below : List Frame} {meth : Method} {c : Code} {D : va_G} {cA : Nat → ClassId} {ad : Nat → Nat} {A : Nat → Prop} (C : Cx p s m args c prog_14_method_15_code 12 "PollBooksModel" D cA ad 1 A) {Q : State → Prop} {x : (Int × Dt)} : ∀ (n : Nat) (x5 x6 x7 : Int) (d : Dt), c32 x5 → c32 x6 → c32 x7 → lpF (fun q : Int × Int × Int × Dt => L_Mo_farOf_y48 q.1 q.2.1 q.2.2.1 q.2.2.2) n (x5, x6, x7, d) = some x → (∀ (y0 : Int) (e' : Dt), x = (y0, e') → c32 y0 → G p l e rm_Mo_farOf s m args below meth c 0 0 Q 12 D cA ad 1 A 165 [(2, 0), (9, 0), (9, 0), (9, 0), (9, 0), (9, 0), (0, y0), (9, 0), (9, 0), (9, 0), (9, 0), (9, 0)] [] e') → G p l e rm_Mo_farOf s m args below meth c 0 0 Q 12 D cA ad 1 A 48 [(2, 0), (9, 0), (9, 0), (9, 0), (9, 0), (0, x5), (0, x6), (0, x7), (9, 0), (9, 0), (9, 0), (9, 0)] [] d := by
  intro n
  induction n with
  | zero => intro x5 x6 x7 d g0 g1 g2 h k0; cases h
  | succ n ih =>
    intro x5 x6 x7 d g0 g1 g2 h k0
    rcases lpF_some h with h | ⟨⟨v0_, v1_, v2_, e0_⟩, h1, h⟩
    · exact ok_Mo_farOf_y48 C x5 x6 x7 d g0 g1 g2 h (fun z0_ z1_ z2_ e1_ eq w0_ w1_ w2_ => by cases eq) (fun z0_ e1_ eq w0_ => k0 _ _ (by cases eq; rfl) w0_)
    · exact ok_Mo_farOf_y48 C x5 x6 x7 d g0 g1 g2 h1 (fun z0_ z1_ z2_ e1_ eq w0_ w1_ w2_ => by cases eq; exact ih _ _ _ _ w0_ w1_ w2_ h k0) (fun z0_ e1_ eq w0_ => by cases eq)
set_option maxHeartbeats 4000000 in
theorem ok_Mo_farOf_l48 {p : Program} {l : Launch} {e : Env} {s : State} {m : MethodId} {args : Array Value} {below : List Frame} {meth : Method} {c : Code} {D : va_G} {cA : Nat → ClassId} {ad : Nat → Nat} {A : Nat → Prop} (C : Cx p s m args c prog_14_method_15_code 12 "PollBooksModel" D cA ad 1 A) {Q : State → Prop} {x : (Int × Dt)} (x5 x6 x7 : Int) (d : Dt) (hx5 : c32 x5) (hx6 : c32 x6) (hx7 : c32 x7) (h : L_Mo_farOf_l48 x5 x6 x7 d = some x) (k0 : ∀ (y0 : Int) (e' : Dt), x = (y0, e') → c32 y0 → G p l e rm_Mo_farOf s m args below meth c 0 0 Q 12 D cA ad 1 A 165 [(2, 0), (9, 0), (9, 0), (9, 0), (9, 0), (9, 0), (0, y0), (9, 0), (9, 0), (9, 0), (9, 0), (9, 0)] [] e') : G p l e rm_Mo_farOf s m args below meth c 0 0 Q 12 D cA ad 1 A 48 [(2, 0), (9, 0), (9, 0), (9, 0), (9, 0), (0, x5), (0, x6), (0, x7), (9, 0), (9, 0), (9, 0), (9, 0)] [] d :=
  ok_Mo_farOf_n48 C FU x5 x6 x7 d hx5 hx6 hx7 h k0
set_option maxHeartbeats 4000000 in
theorem ok_Mo_farOf {l : Launch} {r : Int} {d' : Dt} (p1 p2 : Int) (d : Dt) (hp1 : c64 p1) (hp2 : c64 p2) (h : L_Mo_farOf p1 p2 d = some (r, d')) : MC l y_Mo_farOf prog_14_method_15_code 12 (some .int) rm_Mo_farOf 1 [(2, 0), (1, p1), (1, p2)] d (some (0, r)) d' := by
  refine MC.of (by decide) (Nat.le_of_ble_eq_true rfl) ?_
  intro p e s m args below meth c D cA ad A C hlk hr
  replace C : Cx p s m args c prog_14_method_15_code 12 "PollBooksModel" D cA ad 1 A := C
  show G p l e rm_Mo_farOf s m args below meth c 0 0 (MQ below (fun _ => QC D cA ad 1 A (some .int) (some (0, r)) d') args s 0 0 A) 12 D cA ad 1 A 0 [(2, 0), (1, p1), (9, 0), (1, p2), (9, 0)] [] d
  refine g_sub (lo2 := [(2, 0), (1, p1), (9, 0), (1, p2), (9, 0), (9, 0), (9, 0), (9, 0), (9, 0), (9, 0), (9, 0), (9, 0)]) (lsb_v (lsb_v (lsb_c (lsb_v (lsb_c (lsb_n (lsb_n (lsb_n (lsb_n (lsb_n (lsb_n (lsb_n lsb_e)))))))))))) ?_
  unfold L_Mo_farOf at h
  refine g_lload_n C 1 rfl (by decide +kernel) ?_
  refine g_aload_n C 0 rfl (by decide +kernel) ?_
  refine g_getR C cl12 0 4 4 rfl cd_B0 ⟨by decide, rfl, by decide⟩ rfl rfl (nB (by decide)) (ix := 20) lk_1406 (by decide +kernel) ?_
  obtain ⟨r34_, d33_, hr35_, h⟩ := bd_some h
  refine g_callS C mw_Mo_lettersOf [(1, p1), (2, 4)] (ok_Mo_lettersOf 4 8 cd_B4 (by decide) p1 d hp1 hr35_) (ix := 295) lk_1779 lk_1780 ⟨rfl, rfl, Nat.le_of_ble_eq_true rfl, Nat.le_of_ble_eq_true rfl⟩ rfl (rest := []) rfl (Nat.le_of_ble_eq_true rfl) ⟨Nat.zero_le _, Nat.zero_le _⟩ (by decide +kernel) (fun _ hc36_ => ?_)
  replace hc36_ : c32 r34_ := hc36_
  refine g_st (st2 := [(0, r34_)]) rfl ?_
  refine s_istore C 5 (lo' := [(2, 0), (1, p1), (9, 0), (1, p2), (9, 0), (0, r34_), (9, 0), (9, 0), (9, 0), (9, 0), (9, 0), (9, 0)]) (by decide) (s1k (s1k (s1k (s1k (s1n (by decide) s1z))))) (by decide +kernel) ?_
  refine g_lload_n C 3 rfl (by decide +kernel) ?_
  refine g_aload_n C 0 rfl (by decide +kernel) ?_
  refine g_getR C cl12 0 5 5 rfl cd_B0 ⟨by decide, rfl, by decide⟩ rfl rfl (nB (by decide)) (ix := 23) lk_1407 (by decide +kernel) ?_
  obtain ⟨r38_, d37_, hr39_, h⟩ := bd_some h
  refine g_callS C mw_Mo_lettersOf [(1, p2), (2, 5)] (ok_Mo_lettersOf 5 8 cd_B5 (by decide) p2 d33_ hp2 hr39_) (ix := 295) lk_1779 lk_1780 ⟨rfl, rfl, Nat.le_of_ble_eq_true rfl, Nat.le_of_ble_eq_true rfl⟩ rfl (rest := []) rfl (Nat.le_of_ble_eq_true rfl) ⟨Nat.zero_le _, Nat.zero_le _⟩ (by decide +kernel) (fun _ hc40_ => ?_)
  replace hc40_ : c32 r38_ := hc40_
  refine g_st (st2 := [(0, r38_)]) rfl ?_
  refine s_istore C 6 (lo' := [(2, 0), (1, p1), (9, 0), (1, p2), (9, 0), (0, r34_), (0, r38_), (9, 0), (9, 0), (9, 0), (9, 0), (9, 0)]) (by decide) (s1k (s1k (s1k (s1k (s1k (s1n (by decide) s1z)))))) (by decide +kernel) ?_
  refine g_iconst C 0 (cK rfl) (by decide +kernel) ?_
  refine s_istore C 7 (lo' := [(2, 0), (1, p1), (9, 0), (1, p2), (9, 0), (0, r34_), (0, r38_), (0, 0), (9, 0), (9, 0), (9, 0), (9, 0)]) (by decide) (s1k (s1k (s1k (s1k (s1k (s1k (s1n (by decide) s1z))))))) (by decide +kernel) ?_
  refine g_sub (lo2 := [(2, 0), (9, 0), (9, 0), (9, 0), (9, 0), (0, r34_), (0, r38_), (0, 0), (9, 0), (9, 0), (9, 0), (9, 0)]) (lsb_v (lsb_c (lsb_c (lsb_c (lsb_c (lsb_v (lsb_v (lsb_v (lsb_c (lsb_c (lsb_c (lsb_c lsb_e)))))))))))) ?_
  obtain ⟨x41_, hx42_, h⟩ := lb_some h
  refine ok_Mo_farOf_l23 C r34_ r38_ 0 d37_ hc36_ hc40_ (c32_cb (Or.inl rfl)) hx42_ (fun v43_ v44_ d45_ eq46_ hv43_ hv44_ => ?_)
  subst eq46_
  replace h := u2_e h
  refine g_iconst C 1 (cK rfl) (by decide +kernel) ?_
  refine s_istore C 7 (lo' := [(2, 0), (9, 0), (9, 0), (9, 0), (9, 0), (0, v43_), (0, v44_), (0, 1), (9, 0), (9, 0), (9, 0), (9, 0)]) (by decide) (s1k (s1k (s1k (s1k (s1k (s1k (s1n (by decide) s1z))))))) (by decide +kernel) ?_
  refine g_sub (lo2 := [(2, 0), (9, 0), (9, 0), (9, 0), (9, 0), (0, v43_), (0, v44_), (0, 1), (9, 0), (9, 0), (9, 0), (9, 0)]) (lsb_v (lsb_c (lsb_c (lsb_c (lsb_c (lsb_v (lsb_v (lsb_v (lsb_c (lsb_c (lsb_c (lsb_c lsb_e)))))))))))) ?_
  obtain ⟨x47_, hx48_, h⟩ := lb_some h
  refine ok_Mo_farOf_l48 C v43_ v44_ 1 d45_ hv43_ hv44_ (c32_cb (Or.inr rfl)) hx48_ (fun v49_ d50_ eq51_ hv49_ => ?_)
  subst eq51_
  replace h := u1_e h
  refine g_aload_n C 0 rfl (by decide +kernel) ?_
  refine g_getR C cl12 0 6 6 rfl cd_B0 ⟨by decide, rfl, by decide⟩ rfl rfl (nB (by decide)) (ix := 26) lk_1408 (by decide +kernel) ?_
  refine g_iload C 6 rfl (by decide +kernel) ?_
  obtain ⟨hb52_, h⟩ := ck_some h
  refine g_iald C 6 hv49_ rfl cd_B6 (nB (by decide)) hb52_ (by decide +kernel) (fun hc53_ => ?_)
  obtain ⟨rfl, rfl⟩ := ret_inj h
  exact g_iret C hc53_ hlk hr (by decide +kernel)
/-! PollBooksModel.gives(I)I -/
def y_Mo_gives : MethodName := ⟨"PollBooksModel", "gives", "(I)I"⟩
def rm_Mo_gives : Room := { frames := 0, cells := 0, slots := 0, locals := 0 }
theorem mw_Mo_gives : MW y_Mo_gives prog_14_method_5_code 2 (some .int) 1 := ⟨lk_1786, lk_14, by decide +kernel⟩
def L_Mo_gives (p1 : Int) (d : Dt) : Option (Int × Dt) :=
  some (p1, (up2 d 0 0 0))
set_option maxHeartbeats 4000000 in
theorem ok_Mo_gives {l : Launch} {r : Int} {d' : Dt} (p1 : Int) (d : Dt) (hp1 : c32 p1) (h : L_Mo_gives p1 d = some (r, d')) : MC l y_Mo_gives prog_14_method_5_code 2 (some .int) rm_Mo_gives 1 [(2, 0), (0, p1)] d (some (0, r)) d' := by
  refine MC.of (by decide) (Nat.le_of_ble_eq_true rfl) ?_
  intro p e s m args below meth c D cA ad A C hlk hr
  replace C : Cx p s m args c prog_14_method_5_code 2 "PollBooksModel" D cA ad 1 A := C
  show G p l e rm_Mo_gives s m args below meth c 0 0 (MQ below (fun _ => QC D cA ad 1 A (some .int) (some (0, r)) d') args s 0 0 A) 2 D cA ad 1 A 0 [(2, 0), (0, p1)] [] d
  refine g_sub (lo2 := [(2, 0), (0, p1)]) (lsb_v (lsb_v lsb_e)) ?_
  unfold L_Mo_gives at h
  refine g_aload_n C 0 rfl (by decide +kernel) ?_
  refine g_iconst C 0 (cK rfl) (by decide +kernel) ?_
  refine g_putI C cl12 0 0 (c32_cb (Or.inl rfl)) rfl cd_B0 ⟨by decide, rfl, by decide⟩ rfl (nB (by decide)) (ix := 269) lk_1402 rfl rfl (by decide +kernel) ?_
  refine g_iload_n C 1 rfl (by decide +kernel) ?_
  obtain ⟨rfl, rfl⟩ := ret_inj h
  exact g_iret C hp1 hlk hr (by decide +kernel)
/-! PollBooksModel.refuse(I)I -/
def y_Mo_refuse : MethodName := ⟨"PollBooksModel", "refuse", "(I)I"⟩
def rm_Mo_refuse : Room := { frames := 0, cells := 0, slots := 0, locals := 0 }
theorem mw_Mo_refuse : MW y_Mo_refuse prog_14_method_4_code 2 (some .int) 1 := ⟨lk_1790, lk_14, by decide +kernel⟩
def L_Mo_refuse (p1 : Int) (d : Dt) : Option (Int × Dt) :=
  some ((-1), (up2 d 0 0 p1))
set_option maxHeartbeats 4000000 in
theorem ok_Mo_refuse {l : Launch} {r : Int} {d' : Dt} (p1 : Int) (d : Dt) (hp1 : c32 p1) (h : L_Mo_refuse p1 d = some (r, d')) : MC l y_Mo_refuse prog_14_method_4_code 2 (some .int) rm_Mo_refuse 1 [(2, 0), (0, p1)] d (some (0, r)) d' := by
  refine MC.of (by decide) (Nat.le_of_ble_eq_true rfl) ?_
  intro p e s m args below meth c D cA ad A C hlk hr
  replace C : Cx p s m args c prog_14_method_4_code 2 "PollBooksModel" D cA ad 1 A := C
  show G p l e rm_Mo_refuse s m args below meth c 0 0 (MQ below (fun _ => QC D cA ad 1 A (some .int) (some (0, r)) d') args s 0 0 A) 2 D cA ad 1 A 0 [(2, 0), (0, p1)] [] d
  refine g_sub (lo2 := [(2, 0), (0, p1)]) (lsb_v (lsb_v lsb_e)) ?_
  unfold L_Mo_refuse at h
  refine g_aload_n C 0 rfl (by decide +kernel) ?_
  refine g_iload_n C 1 rfl (by decide +kernel) ?_
  refine g_putI C cl12 0 0 hp1 rfl cd_B0 ⟨by decide, rfl, by decide⟩ rfl (nB (by decide)) (ix := 269) lk_1402 rfl rfl (by decide +kernel) ?_
  refine g_iconst C (-1) (cK rfl) (by decide +kernel) ?_
  obtain ⟨rfl, rfl⟩ := ret_inj h
  exact g_iret C (cK rfl) hlk hr (by decide +kernel)
/-! PollBooksModel.far(JJ)I -/
def y_Mo_far : MethodName := ⟨"PollBooksModel", "far", "(JJ)I"⟩
def rm_Mo_far : Room := { frames := 2, cells := 0, slots := 0, locals := 56 }
theorem mw_Mo_far : MW y_Mo_far prog_14_method_16_code 5 (some .int) 2 := ⟨lk_1768, lk_14, by decide +kernel⟩
def L_Mo_far_b27 (d : Dt) : Option (Int × Dt) :=
  bd (L_Mo_refuse 1 d) (fun r2_ d1_ => some (r2_, d1_))
def L_Mo_far (p1 p2 : Int) (d : Dt) : Option (Int × Dt) :=
  bd (L_Mo_isName p1 d) (fun r6_ d5_ => if r6_ = 0 then L_Mo_far_b27 d5_ else bd (L_Mo_isName p2 d5_) (fun r11_ d10_ => if r11_ = 0 then L_Mo_far_b27 d10_ else bd (L_Mo_farOf p1 p2 d10_) (fun r16_ d15_ => bd (L_Mo_gives r16_ d15_) (fun r20_ d19_ => some (r20_, d19_)))))
set_option maxHeartbeats 4000000 in
theorem ok_Mo_far_b27 {p : Program} {l : Launch} {e : Env} {s : State} {m : MethodId} {args : Array Value} {below : List Frame} {meth : Method} {c : Code} {D : va_G} {cA : Nat → ClassId} {ad : Nat → Nat} {A : Nat → Prop} (C : Cx p s m args c prog_14_method_16_code 5 "PollBooksModel" D cA ad 1 A) (hlk : meth.locks = false) (hr : meth.sig.returnType = (some .int)) {r : Int} {d' : Dt} (d : Dt)  (h : L_Mo_far_b27 d = some (r, d')) : G p l e rm_Mo_far s m args below meth c 0 0 (MQ below (fun _ => QC D cA ad 1 A (some .int) (some (0, r)) d') args s 0 0 A) 5 D cA ad 1 A 27 [(2, 0), (9, 0), (9, 0), (9, 0), (9, 0)] [] d := by
  unfold L_Mo_far_b27 at h
  refine g_aload_n C 0 rfl (by decide +kernel) ?_
  refine g_iconst C 1 (cK rfl) (by decide +kernel) ?_
  obtain ⟨r2_, d1_, hr3_, h⟩ := bd_some h
  refine g_callV C mw_Mo_refuse [(0, 1)] 0 cl12 rfl (ok_Mo_refuse 1 d (c32_cb (Or.inr rfl)) hr3_) cd_B0 (by decide) (nB (by decide)) (ix := 316) lk_1787 lk_1789 lkp_61 ⟨rfl, rfl, Nat.le_of_ble_eq_true rfl, Nat.le_of_ble_eq_true rfl⟩ rfl (rest := []) rfl (Nat.le_of_ble_eq_true rfl) ⟨Nat.zero_le _, Nat.zero_le _⟩ (by decide +kernel) (fun _ hc4_ => ?_)
  replace hc4_ : c32 r2_ := hc4_
  refine g_st (st2 := [(0, r2_)]) rfl ?_
  obtain ⟨rfl, rfl⟩ := ret_inj h
  exact g_iret C hc4_ hlk hr (by decide +kernel)
set_option maxHeartbeats 4000000 in
theorem ok_Mo_far {l : Launch} {r : Int} {d' : Dt} (p1 p2 : Int) (d : Dt) (hp1 : c64 p1) (hp2 : c64 p2) (h : L_Mo_far p1 p2 d = some (r, d')) : MC l y_Mo_far prog_14_method_16_code 5 (some .int) rm_Mo_far 1 [(2, 0), (1, p1), (1, p2)] d (some (0, r)) d' := by
  refine MC.of (by decide) (Nat.le_of_ble_eq_true rfl) ?_
  intro p e s m args below meth c D cA ad A C hlk hr
  replace C : Cx p s m args c prog_14_method_16_code 5 "PollBooksModel" D cA ad 1 A := C
  show G p l e rm_Mo_far s m args below meth c 0 0 (MQ below (fun _ => QC D cA ad 1 A (some .int) (some (0, r)) d') args s 0 0 A) 5 D cA ad 1 A 0 [(2, 0), (1, p1), (9, 0), (1, p2), (9, 0)] [] d
  refine g_sub (lo2 := [(2, 0), (1, p1), (9, 0), (1, p2), (9, 0)]) (lsb_v (lsb_v (lsb_c (lsb_v (lsb_c lsb_e))))) ?_
  unfold L_Mo_far at h
  refine g_lload_n C 1 rfl (by decide +kernel) ?_
  obtain ⟨r6_, d5_, hr7_, h⟩ := bd_some h
  refine g_callS C mw_Mo_isName [(1, p1)] (ok_Mo_isName p1 d hp1 hr7_) (ix := 304) lk_1769 lk_1770 ⟨rfl, rfl, Nat.le_of_ble_eq_true rfl, Nat.le_of_ble_eq_true rfl⟩ rfl (rest := []) rfl (Nat.le_of_ble_eq_true rfl) ⟨Nat.zero_le _, Nat.zero_le _⟩ (by decide +kernel) (fun _ hc8_ => ?_)
  replace hc8_ : cb r6_ := hc8_
  refine g_st (st2 := [(0, r6_)]) rfl ?_
  refine g_if_eq C (off := 23) (tgt := 27) (c32_cb hc8_) (by decide +kernel) (by decide) (fun hc9_ => ?_) (fun hc9_ => ?_)
  · replace h := ite_t hc9_ h
    refine g_sub (lo2 := [(2, 0), (9, 0), (9, 0), (9, 0), (9, 0)]) (lsb_v (lsb_c (lsb_c (lsb_c (lsb_c lsb_e))))) ?_
    exact ok_Mo_far_b27 C hlk hr d5_  h
  · replace h := ite_f hc9_ h
    refine g_lload_n C 3 rfl (by decide +kernel) ?_
    obtain ⟨r11_, d10_, hr12_, h⟩ := bd_some h
    refine g_callS C mw_Mo_isName [(1, p2)] (ok_Mo_isName p2 d5_ hp2 hr12_) (ix := 304) lk_1769 lk_1770 ⟨rfl, rfl, Nat.le_of_ble_eq_true rfl, Nat.le_of_ble_eq_true rfl⟩ rfl (rest := []) rfl (Nat.le_of_ble_eq_true rfl) ⟨Nat.zero_le _, Nat.zero_le _⟩ (by decide +kernel) (fun _ hc13_ => ?_)
    replace hc13_ : cb r11_ := hc13_
    refine g_st (st2 := [(0, r11_)]) rfl ?_
    refine g_if_eq C (off := 16) (tgt := 27) (c32_cb hc13_) (by decide +kernel) (by decide) (fun hc14_ => ?_) (fun hc14_ => ?_)
    · replace h := ite_t hc14_ h
      refine g_sub (lo2 := [(2, 0), (9, 0), (9, 0), (9, 0), (9, 0)]) (lsb_v (lsb_c (lsb_c (lsb_c (lsb_c lsb_e))))) ?_
      exact ok_Mo_far_b27 C hlk hr d10_  h
    · replace h := ite_f hc14_ h
      refine g_aload_n C 0 rfl (by decide +kernel) ?_
      refine g_aload_n C 0 rfl (by decide +kernel) ?_
      refine g_lload_n C 1 rfl (by decide +kernel) ?_
      refine g_lload_n C 3 rfl (by decide +kernel) ?_
      obtain ⟨r16_, d15_, hr17_, h⟩ := bd_some h
      refine g_callV C mw_Mo_farOf [(1, p1), (1, p2)] 0 cl12 rfl (ok_Mo_farOf p1 p2 d10_ hp1 hp2 hr17_) cd_B0 (by decide) (nB (by decide)) (ix := 308) lk_1775 lk_1777 lkp_59 ⟨rfl, rfl, Nat.le_of_ble_eq_true rfl, Nat.le_of_ble_eq_true rfl⟩ rfl (rest := [(2, 0)]) rfl (Nat.le_of_ble_eq_true rfl) ⟨Nat.zero_le _, Nat.zero_le _⟩ (by decide +kernel) (fun _ hc18_ => ?_)
      replace hc18_ : c32 r16_ := hc18_
      refine g_st (st2 := [(0, r16_), (2, 0)]) rfl ?_
      obtain ⟨r20_, d19_, hr21_, h⟩ := bd_some h
      refine g_callV C mw_Mo_gives [(0, r16_)] 0 cl12 rfl (ok_Mo_gives r16_ d15_ hc18_ hr21_) cd_B0 (by decide) (nB (by decide)) (ix := 312) lk_1783 lk_1785 lkp_60 ⟨rfl, rfl, Nat.le_of_ble_eq_true rfl, Nat.le_of_ble_eq_true rfl⟩ rfl (rest := []) rfl (Nat.le_of_ble_eq_true rfl) ⟨Nat.zero_le _, Nat.zero_le _⟩ (by decide +kernel) (fun _ hc22_ => ?_)
      replace hc22_ : c32 r20_ := hc22_
      refine g_st (st2 := [(0, r20_)]) rfl ?_
      refine g_goto C 32 (off := 8) (by decide +kernel) (by decide) ?_
      obtain ⟨rfl, rfl⟩ := ret_inj h
      exact g_iret C hc22_ hlk hr (by decide +kernel)
/-! PollBooksModel.isTrade(I)Z -/
def y_Mo_isTrade : MethodName := ⟨"PollBooksModel", "isTrade", "(I)Z"⟩
def rm_Mo_isTrade : Room := { frames := 0, cells := 0, slots := 0, locals := 0 }
theorem mw_Mo_isTrade : MW y_Mo_isTrade prog_14_method_20_code 1 (some .boolean) 1 := ⟨lk_1797, lk_14, by decide +kernel⟩
def L_Mo_isTrade (p1 : Int) (d : Dt) : Option (Int × Dt) :=
  if p1 < 0 then some (0, d) else if p1 < 20 then some (1, d) else some (0, d)
set_option maxHeartbeats 4000000 in
theorem ok_Mo_isTrade {l : Launch} {r : Int} {d' : Dt} (p1 : Int) (d : Dt) (hp1 : c32 p1) (h : L_Mo_isTrade p1 d = some (r, d')) : MC l y_Mo_isTrade prog_14_method_20_code 1 (some .boolean) rm_Mo_isTrade 1 [(0, p1)] d (some (0, r)) d' := by
  refine MC.of (by decide) (Nat.le_of_ble_eq_true rfl) ?_
  intro p e s m args below meth c D cA ad A C hlk hr
  replace C : Cx p s m args c prog_14_method_20_code 1 "PollBooksModel" D cA ad 1 A := C
  show G p l e rm_Mo_isTrade s m args below meth c 0 0 (MQ below (fun _ => QC D cA ad 1 A (some .boolean) (some (0, r)) d') args s 0 0 A) 1 D cA ad 1 A 0 [(0, p1)] [] d
  refine g_sub (lo2 := [(0, p1)]) (lsb_v lsb_e) ?_
  unfold L_Mo_isTrade at h
  refine g_iload_n C 0 rfl (by decide +kernel) ?_
  refine g_if_lt C (off := 13) (tgt := 14) hp1 (by decide +kernel) (by decide) (fun hc1_ => ?_) (fun hc1_ => ?_)
  · replace h := ite_t hc1_ h
    refine g_iconst C 0 (cK rfl) (by decide +kernel) ?_
    obtain ⟨rfl, rfl⟩ := ret_inj h
    exact g_zret C (Or.inl rfl) hlk hr (by decide +kernel)
  · replace h := ite_f hc1_ h
    refine g_iload_n C 0 rfl (by decide +kernel) ?_
    refine g_bipush C 20 (by decide) (by decide +kernel) ?_
    refine g_icmp_ge C (off := 7) (tgt := 14) hp1 (cK rfl) (by decide +kernel) (by decide) (fun hc2_ => ?_) (fun hc2_ => ?_)
    · replace h := ite_t hc2_ h
      refine g_iconst C 1 (cK rfl) (by decide +kernel) ?_
      refine g_goto C 15 (off := 4) (by decide +kernel) (by decide) ?_
      obtain ⟨rfl, rfl⟩ := ret_inj h
      exact g_zret C (Or.inr rfl) hlk hr (by decide +kernel)
    · replace h := ite_f hc2_ h
      refine g_iconst C 0 (cK rfl) (by decide +kernel) ?_
      obtain ⟨rfl, rfl⟩ := ret_inj h
      exact g_zret C (Or.inl rfl) hlk hr (by decide +kernel)
/-! PollBooksModel.isPlace(I)Z -/
def y_Mo_isPlace : MethodName := ⟨"PollBooksModel", "isPlace", "(I)Z"⟩
def rm_Mo_isPlace : Room := { frames := 0, cells := 0, slots := 0, locals := 0 }
theorem mw_Mo_isPlace : MW y_Mo_isPlace prog_14_method_19_code 1 (some .boolean) 1 := ⟨lk_1800, lk_14, by decide +kernel⟩
def L_Mo_isPlace (p1 : Int) (d : Dt) : Option (Int × Dt) :=
  if p1 < 0 then some (0, d) else if p1 < 7 then some (1, d) else some (0, d)
set_option maxHeartbeats 4000000 in
theorem ok_Mo_isPlace {l : Launch} {r : Int} {d' : Dt} (p1 : Int) (d : Dt) (hp1 : c32 p1) (h : L_Mo_isPlace p1 d = some (r, d')) : MC l y_Mo_isPlace prog_14_method_19_code 1 (some .boolean) rm_Mo_isPlace 1 [(0, p1)] d (some (0, r)) d' := by
  refine MC.of (by decide) (Nat.le_of_ble_eq_true rfl) ?_
  intro p e s m args below meth c D cA ad A C hlk hr
  replace C : Cx p s m args c prog_14_method_19_code 1 "PollBooksModel" D cA ad 1 A := C
  show G p l e rm_Mo_isPlace s m args below meth c 0 0 (MQ below (fun _ => QC D cA ad 1 A (some .boolean) (some (0, r)) d') args s 0 0 A) 1 D cA ad 1 A 0 [(0, p1)] [] d
  refine g_sub (lo2 := [(0, p1)]) (lsb_v lsb_e) ?_
  unfold L_Mo_isPlace at h
  refine g_iload_n C 0 rfl (by decide +kernel) ?_
  refine g_if_lt C (off := 13) (tgt := 14) hp1 (by decide +kernel) (by decide) (fun hc1_ => ?_) (fun hc1_ => ?_)
  · replace h := ite_t hc1_ h
    refine g_iconst C 0 (cK rfl) (by decide +kernel) ?_
    obtain ⟨rfl, rfl⟩ := ret_inj h
    exact g_zret C (Or.inl rfl) hlk hr (by decide +kernel)
  · replace h := ite_f hc1_ h
    refine g_iload_n C 0 rfl (by decide +kernel) ?_
    refine g_bipush C 7 (by decide) (by decide +kernel) ?_
    refine g_icmp_ge C (off := 7) (tgt := 14) hp1 (cK rfl) (by decide +kernel) (by decide) (fun hc2_ => ?_) (fun hc2_ => ?_)
    · replace h := ite_t hc2_ h
      refine g_iconst C 1 (cK rfl) (by decide +kernel) ?_
      refine g_goto C 15 (off := 4) (by decide +kernel) (by decide) ?_
      obtain ⟨rfl, rfl⟩ := ret_inj h
      exact g_zret C (Or.inr rfl) hlk hr (by decide +kernel)
    · replace h := ite_f hc2_ h
      refine g_iconst C 0 (cK rfl) (by decide +kernel) ?_
      obtain ⟨rfl, rfl⟩ := ret_inj h
      exact g_zret C (Or.inl rfl) hlk hr (by decide +kernel)
/-! PollBooksModel.person(JII)I -/
def y_Mo_person : MethodName := ⟨"PollBooksModel", "person", "(JII)I"⟩
def rm_Mo_person : Room := { frames := 1, cells := 0, slots := 0, locals := 24 }
theorem mw_Mo_person : MW y_Mo_person prog_14_method_24_code 5 (some .int) 3 := ⟨lk_1794, lk_14, by decide +kernel⟩
def L_Mo_person_b22 (d : Dt) : Option (Int × Dt) :=
  bd (L_Mo_refuse 1 d) (fun r2_ d1_ => some (r2_, d1_))
def L_Mo_person (p1 p2 p3 : Int) (d : Dt) : Option (Int × Dt) :=
  bd (L_Mo_isName p1 d) (fun r6_ d5_ => if r6_ = 0 then L_Mo_person_b22 d5_ else bd (L_Mo_isTrade p2 d5_) (fun r11_ d10_ => if r11_ = 0 then L_Mo_person_b22 d10_ else bd (L_Mo_isPlace p3 d10_) (fun r16_ d15_ => if r16_ = 0 then L_Mo_person_b22 d15_ else if (d15_ 0 7) = 40 then bd (L_Mo_refuse 4 d15_) (fun r23_ d22_ => some (r23_, d22_)) else ck ((0 : Int) ≤ (d15_ 0 7) ∧ (d15_ 0 7) < 40) (ck ((0 : Int) ≤ (d15_ 0 7) ∧ (d15_ 0 7) < 40) (ck ((0 : Int) ≤ (d15_ 0 7) ∧ (d15_ 0 7) < 40) (bd (L_Mo_gives (w32 ((w32 ((d15_ 0 7) + 1)) - 1)) (up2 (up2 (up2 (up2 d15_ 7 ((d15_ 0 7)).toNat p1) 8 ((d15_ 0 7)).toNat p2) 9 ((d15_ 0 7)).toNat p3) 0 7 (w32 ((d15_ 0 7) + 1)))) (fun r35_ d34_ => some (r35_, d34_))))))))
set_option maxHeartbeats 4000000 in
theorem ok_Mo_person_b22 {p : Program} {l : Launch} {e : Env} {s : State} {m : MethodId} {args : Array Value} {below : List Frame} {meth : Method} {c : Code} {D : va_G} {cA : Nat → ClassId} {ad : Nat → Nat} {A : Nat → Prop} (C : Cx p s m args c prog_14_method_24_code 5 "PollBooksModel" D cA ad 1 A) (hlk : meth.locks = false) (hr : meth.sig.returnType = (some .int)) {r : Int} {d' : Dt} (d : Dt)  (h : L_Mo_person_b22 d = some (r, d')) : G p l e rm_Mo_person s m args below meth c 0 0 (MQ below (fun _ => QC D cA ad 1 A (some .int) (some (0, r)) d') args s 0 0 A) 5 D cA ad 1 A 22 [(2, 0), (9, 0), (9, 0), (9, 0), (9, 0)] [] d := by
  unfold L_Mo_person_b22 at h
  refine g_aload_n C 0 rfl (by decide +kernel) ?_
  refine g_iconst C 1 (cK rfl) (by decide +kernel) ?_
  obtain ⟨r2_, d1_, hr3_, h⟩ := bd_some h
  refine g_callV C mw_Mo_refuse [(0, 1)] 0 cl12 rfl (ok_Mo_refuse 1 d (c32_cb (Or.inr rfl)) hr3_) cd_B0 (by decide) (nB (by decide)) (ix := 316) lk_1787 lk_1789 lkp_61 ⟨rfl, rfl, Nat.le_of_ble_eq_true rfl, Nat.le_of_ble_eq_true rfl⟩ rfl (rest := []) rfl (Nat.le_of_ble_eq_true rfl) ⟨Nat.zero_le _, Nat.zero_le _⟩ (by decide +kernel) (fun _ hc4_ => ?_)
  replace hc4_ : c32 r2_ := hc4_
  refine g_st (st2 := [(0, r2_)]) rfl ?_
  obtain ⟨rfl, rfl⟩ := ret_inj h
  exact g_iret C hc4_ hlk hr (by decide +kernel)
set_option maxHeartbeats 4000000 in
theorem ok_Mo_person {l : Launch} {r : Int} {d' : Dt} (p1 p2 p3 : Int) (d : Dt) (hp1 : c64 p1) (hp2 : c32 p2) (hp3 : c32 p3) (h : L_Mo_person p1 p2 p3 d = some (r, d')) : MC l y_Mo_person prog_14_method_24_code 5 (some .int) rm_Mo_person 1 [(2, 0), (1, p1), (0, p2), (0, p3)] d (some (0, r)) d' := by
  refine MC.of (by decide) (Nat.le_of_ble_eq_true rfl) ?_
  intro p e s m args below meth c D cA ad A C hlk hr
  replace C : Cx p s m args c prog_14_method_24_code 5 "PollBooksModel" D cA ad 1 A := C
  show G p l e rm_Mo_person s m args below meth c 0 0 (MQ below (fun _ => QC D cA ad 1 A (some .int) (some (0, r)) d') args s 0 0 A) 5 D cA ad 1 A 0 [(2, 0), (1, p1), (9, 0), (0, p2), (0, p3)] [] d
  refine g_sub (lo2 := [(2, 0), (1, p1), (9, 0), (0, p2), (0, p3)]) (lsb_v (lsb_v (lsb_c (lsb_v (lsb_v lsb_e))))) ?_
  unfold L_Mo_person at h
  refine g_lload_n C 1 rfl (by decide +kernel) ?_
  obtain ⟨r6_, d5_, hr7_, h⟩ := bd_some h
  refine g_callS C mw_Mo_isName [(1, p1)] (ok_Mo_isName p1 d hp1 hr7_) (ix := 304) lk_1769 lk_1770 ⟨rfl, rfl, Nat.le_of_ble_eq_true rfl, Nat.le_of_ble_eq_true rfl⟩ rfl (rest := []) rfl (Nat.le_of_ble_eq_true rfl) ⟨Nat.zero_le _, Nat.zero_le _⟩ (by decide +kernel) (fun _ hc8_ => ?_)
  replace hc8_ : cb r6_ := hc8_
  refine g_st (st2 := [(0, r6_)]) rfl ?_
  refine g_if_eq C (off := 18) (tgt := 22) (c32_cb hc8_) (by decide +kernel) (by decide) (fun hc9_ => ?_) (fun hc9_ => ?_)
  · replace h := ite_t hc9_ h
    refine g_sub (lo2 := [(2, 0), (9, 0), (9, 0), (9, 0), (9, 0)]) (lsb_v (lsb_c (lsb_c (lsb_c (lsb_c lsb_e))))) ?_
    exact ok_Mo_person_b22 C hlk hr d5_  h
  · replace h := ite_f hc9_ h
    refine g_iload_n C 3 rfl (by decide +kernel) ?_
    obtain ⟨r11_, d10_, hr12_, h⟩ := bd_some h
    refine g_callS C mw_Mo_isTrade [(0, p2)] (ok_Mo_isTrade p2 d5_ hp2 hr12_) (ix := 322) lk_1795 lk_1796 ⟨rfl, rfl, Nat.le_of_ble_eq_true rfl, Nat.le_of_ble_eq_true rfl⟩ rfl (rest := []) rfl (Nat.le_of_ble_eq_true rfl) ⟨Nat.zero_le _, Nat.zero_le _⟩ (by decide +kernel) (fun _ hc13_ => ?_)
    replace hc13_ : cb r11_ := hc13_
    refine g_st (st2 := [(0, r11_)]) rfl ?_
    refine g_if_eq C (off := 11) (tgt := 22) (c32_cb hc13_) (by decide +kernel) (by decide) (fun hc14_ => ?_) (fun hc14_ => ?_)
    · replace h := ite_t hc14_ h
      refine g_sub (lo2 := [(2, 0), (9, 0), (9, 0), (9, 0), (9, 0)]) (lsb_v (lsb_c (lsb_c (lsb_c (lsb_c lsb_e))))) ?_
      exact ok_Mo_person_b22 C hlk hr d10_  h
    · replace h := ite_f hc14_ h
      refine g_iload C 4 rfl (by decide +kernel) ?_
      obtain ⟨r16_, d15_, hr17_, h⟩ := bd_some h
      refine g_callS C mw_Mo_isPlace [(0, p3)] (ok_Mo_isPlace p3 d10_ hp3 hr17_) (ix := 325) lk_1798 lk_1799 ⟨rfl, rfl, Nat.le_of_ble_eq_true rfl, Nat.le_of_ble_eq_true rfl⟩ rfl (rest := []) rfl (Nat.le_of_ble_eq_true rfl) ⟨Nat.zero_le _, Nat.zero_le _⟩ (by decide +kernel) (fun _ hc18_ => ?_)
      replace hc18_ : cb r16_ := hc18_
      refine g_st (st2 := [(0, r16_)]) rfl ?_
      refine g_if_ne C (off := 9) (tgt := 28) (c32_cb hc18_) (by decide +kernel) (by decide) (fun hc19_ => ?_) (fun hc19_ => ?_)
      · replace h := ite_t hc19_ h
        refine g_sub (lo2 := [(2, 0), (9, 0), (9, 0), (9, 0), (9, 0)]) (lsb_v (lsb_c (lsb_c (lsb_c (lsb_c lsb_e))))) ?_
        exact ok_Mo_person_b22 C hlk hr d15_  h
      · replace h := ite_f hc19_ h
        refine g_aload_n C 0 rfl (by decide +kernel) ?_
        refine g_getI C cl12 0 7 rfl cd_B0 ⟨by decide, rfl, by decide⟩ rfl (nB (by decide)) (ix := 319) lk_1409 (by decide +kernel) (fun hc20_ => ?_)
        refine g_bipush C 40 (by decide) (by decide +kernel) ?_
        refine g_icmp_ne C (off := 9) (tgt := 43) hc20_ (cK rfl) (by decide +kernel) (by decide) (fun hc21_ => ?_) (fun hc21_ => ?_)
        · replace h := ite_t hc21_ h
          refine g_aload_n C 0 rfl (by decide +kernel) ?_
          refine g_iconst C 4 (cK rfl) (by decide +kernel) ?_
          obtain ⟨r23_, d22_, hr24_, h⟩ := bd_some h
          refine g_callV C mw_Mo_refuse [(0, 4)] 0 cl12 rfl (ok_Mo_refuse 4 d15_ (cK rfl) hr24_) cd_B0 (by decide) (nB (by decide)) (ix := 316) lk_1787 lk_1789 lkp_61 ⟨rfl, rfl, Nat.le_of_ble_eq_true rfl, Nat.le_of_ble_eq_true rfl⟩ rfl (rest := []) rfl (Nat.le_of_ble_eq_true rfl) ⟨Nat.zero_le _, Nat.zero_le _⟩ (by decide +kernel) (fun _ hc25_ => ?_)
          replace hc25_ : c32 r23_ := hc25_
          refine g_st (st2 := [(0, r23_)]) rfl ?_
          obtain ⟨rfl, rfl⟩ := ret_inj h
          exact g_iret C hc25_ hlk hr (by decide +kernel)
        · replace h := ite_f hc21_ h
          refine g_aload_n C 0 rfl (by decide +kernel) ?_
          refine g_getR C cl12 0 13 7 rfl cd_B0 ⟨by decide, rfl, by decide⟩ rfl rfl (nB (by decide)) (ix := 33) lk_1415 (by decide +kernel) ?_
          refine g_aload_n C 0 rfl (by decide +kernel) ?_
          refine g_getI C cl12 0 7 rfl cd_B0 ⟨by decide, rfl, by decide⟩ rfl (nB (by decide)) (ix := 319) lk_1409 (by decide +kernel) (fun hc26_ => ?_)
          refine g_lload_n C 1 rfl (by decide +kernel) ?_
          obtain ⟨hb27_, h⟩ := ck_some h
          refine g_last C 7 hp1 hc26_ rfl cd_B7 (nB (by decide)) hb27_ (by decide +kernel) ?_
          refine g_aload_n C 0 rfl (by decide +kernel) ?_
          refine g_getR C cl12 0 14 8 rfl cd_B0 ⟨by decide, rfl, by decide⟩ rfl rfl (nB (by decide)) (ix := 36) lk_1416 (by decide +kernel) ?_
          refine g_aload_n C 0 rfl (by decide +kernel) ?_
          refine g_getI C cl12 0 7 rfl cd_B0 ⟨by decide, rfl, by decide⟩ rfl (nB (by decide)) (ix := 319) lk_1409 (by decide +kernel) (fun hc28_ => ?_)
          refine g_val (y := (d15_ 0 7)) rfl ?_
          replace hc28_ : c32 (d15_ 0 7) := hc28_
          refine g_iload_n C 3 rfl (by decide +kernel) ?_
          obtain ⟨hb29_, h⟩ := ck_some h
          refine g_iast C 8 hp2 hc28_ rfl cd_B8 (nB (by decide)) hb29_ (by decide +kernel) ?_
          refine g_aload_n C 0 rfl (by decide +kernel) ?_
          refine g_getR C cl12 0 15 9 rfl cd_B0 ⟨by decide, rfl, by decide⟩ rfl rfl (nB (by decide)) (ix := 39) lk_1417 (by decide +kernel) ?_
          refine g_aload_n C 0 rfl (by decide +kernel) ?_
          refine g_getI C cl12 0 7 rfl cd_B0 ⟨by decide, rfl, by decide⟩ rfl (nB (by decide)) (ix := 319) lk_1409 (by decide +kernel) (fun hc30_ => ?_)
          refine g_val (y := (d15_ 0 7)) rfl ?_
          replace hc30_ : c32 (d15_ 0 7) := hc30_
          refine g_iload C 4 rfl (by decide +kernel) ?_
          obtain ⟨hb31_, h⟩ := ck_some h
          refine g_iast C 9 hp3 hc30_ rfl cd_B9 (nB (by decide)) hb31_ (by decide +kernel) ?_
          refine g_aload_n C 0 rfl (by decide +kernel) ?_
          refine g_dup C tg2 (by decide +kernel) ?_
          refine g_getI C cl12 0 7 rfl cd_B0 ⟨by decide, rfl, by decide⟩ rfl (nB (by decide)) (ix := 319) lk_1409 (by decide +kernel) (fun hc32_ => ?_)
          refine g_val (y := (d15_ 0 7)) rfl ?_
          replace hc32_ : c32 (d15_ 0 7) := hc32_
          refine g_iconst C 1 (cK rfl) (by decide +kernel) ?_
          refine g_iadd C (by decide +kernel) ?_
          refine g_putI C cl12 0 7 (w32_c _) rfl cd_B0 ⟨by decide, rfl, by decide⟩ rfl (nB (by decide)) (ix := 319) lk_1409 rfl rfl (by decide +kernel) ?_
          refine g_aload_n C 0 rfl (by decide +kernel) ?_
          refine g_aload_n C 0 rfl (by decide +kernel) ?_
          refine g_getI C cl12 0 7 rfl cd_B0 ⟨by decide, rfl, by decide⟩ rfl (nB (by decide)) (ix := 319) lk_1409 (by decide +kernel) (fun hc33_ => ?_)
          refine g_val (y := (w32 ((d15_ 0 7) + 1))) rfl ?_
          replace hc33_ : c32 (w32 ((d15_ 0 7) + 1)) := hc33_
          refine g_iconst C 1 (cK rfl) (by decide +kernel) ?_
          refine g_isub C (by decide +kernel) ?_
          obtain ⟨r35_, d34_, hr36_, h⟩ := bd_some h
          refine g_callV C mw_Mo_gives [(0, (w32 ((w32 ((d15_ 0 7) + 1)) - 1)))] 0 cl12 rfl (ok_Mo_gives (w32 ((w32 ((d15_ 0 7) + 1)) - 1)) (up2 (up2 (up2 (up2 d15_ 7 ((d15_ 0 7)).toNat p1) 8 ((d15_ 0 7)).toNat p2) 9 ((d15_ 0 7)).toNat p3) 0 7 (w32 ((d15_ 0 7) + 1))) (w32_c _) hr36_) cd_B0 (by decide) (nB (by decide)) (ix := 312) lk_1783 lk_1785 lkp_60 ⟨rfl, rfl, Nat.le_of_ble_eq_true rfl, Nat.le_of_ble_eq_true rfl⟩ rfl (rest := []) rfl (Nat.le_of_ble_eq_true rfl) ⟨Nat.zero_le _, Nat.zero_le _⟩ (by decide +kernel) (fun _ hc37_ => ?_)
          replace hc37_ : c32 r35_ := hc37_
          refine g_st (st2 := [(0, r35_)]) rfl ?_
          obtain ⟨rfl, rfl⟩ := ret_inj h
          exact g_iret C hc37_ hlk hr (by decide +kernel)
/-! PollBooksModel.isPerson(I)Z -/
def y_Mo_isPerson : MethodName := ⟨"PollBooksModel", "isPerson", "(I)Z"⟩
def rm_Mo_isPerson : Room := { frames := 0, cells := 0, slots := 0, locals := 0 }
theorem mw_Mo_isPerson : MW y_Mo_isPerson prog_14_method_23_code 2 (some .boolean) 1 := ⟨lk_1808, lk_14, by decide +kernel⟩
def L_Mo_isPerson (p1 : Int) (d : Dt) : Option (Int × Dt) :=
  if p1 < 0 then some (0, d) else if p1 < (d 0 7) then some (1, d) else some (0, d)
set_option maxHeartbeats 4000000 in
theorem ok_Mo_isPerson {l : Launch} {r : Int} {d' : Dt} (p1 : Int) (d : Dt) (hp1 : c32 p1) (h : L_Mo_isPerson p1 d = some (r, d')) : MC l y_Mo_isPerson prog_14_method_23_code 2 (some .boolean) rm_Mo_isPerson 1 [(2, 0), (0, p1)] d (some (0, r)) d' := by
  refine MC.of (by decide) (Nat.le_of_ble_eq_true rfl) ?_
  intro p e s m args below meth c D cA ad A C hlk hr
  replace C : Cx p s m args c prog_14_method_23_code 2 "PollBooksModel" D cA ad 1 A := C
  show G p l e rm_Mo_isPerson s m args below meth c 0 0 (MQ below (fun _ => QC D cA ad 1 A (some .boolean) (some (0, r)) d') args s 0 0 A) 2 D cA ad 1 A 0 [(2, 0), (0, p1)] [] d
  refine g_sub (lo2 := [(2, 0), (0, p1)]) (lsb_v (lsb_v lsb_e)) ?_
  unfold L_Mo_isPerson at h
  refine g_iload_n C 1 rfl (by decide +kernel) ?_
  refine g_if_lt C (off := 15) (tgt := 16) hp1 (by decide +kernel) (by decide) (fun hc1_ => ?_) (fun hc1_ => ?_)
  · replace h := ite_t hc1_ h
    refine g_iconst C 0 (cK rfl) (by decide +kernel) ?_
    obtain ⟨rfl, rfl⟩ := ret_inj h
    exact g_zret C (Or.inl rfl) hlk hr (by decide +kernel)
  · replace h := ite_f hc1_ h
    refine g_iload_n C 1 rfl (by decide +kernel) ?_
    refine g_aload_n C 0 rfl (by decide +kernel) ?_
    refine g_getI C cl12 0 7 rfl cd_B0 ⟨by decide, rfl, by decide⟩ rfl (nB (by decide)) (ix := 319) lk_1409 (by decide +kernel) (fun hc2_ => ?_)
    refine g_icmp_ge C (off := 7) (tgt := 16) hp1 hc2_ (by decide +kernel) (by decide) (fun hc3_ => ?_) (fun hc3_ => ?_)
    · replace h := ite_t hc3_ h
      refine g_iconst C 1 (cK rfl) (by decide +kernel) ?_
      refine g_goto C 17 (off := 4) (by decide +kernel) (by decide) ?_
      obtain ⟨rfl, rfl⟩ := ret_inj h
      exact g_zret C (Or.inr rfl) hlk hr (by decide +kernel)
    · replace h := ite_f hc3_ h
      refine g_iconst C 0 (cK rfl) (by decide +kernel) ?_
      obtain ⟨rfl, rfl⟩ := ret_inj h
      exact g_zret C (Or.inl rfl) hlk hr (by decide +kernel)
/-! PollBooksModel.isPlot(I)Z -/
def y_Mo_isPlot : MethodName := ⟨"PollBooksModel", "isPlot", "(I)Z"⟩
def rm_Mo_isPlot : Room := { frames := 0, cells := 0, slots := 0, locals := 0 }
theorem mw_Mo_isPlot : MW y_Mo_isPlot prog_14_method_25_code 1 (some .boolean) 1 := ⟨lk_1811, lk_14, by decide +kernel⟩
def L_Mo_isPlot (p1 : Int) (d : Dt) : Option (Int × Dt) :=
  if p1 < 0 then some (0, d) else if p1 < 40 then some (1, d) else some (0, d)
set_option maxHeartbeats 4000000 in
theorem ok_Mo_isPlot {l : Launch} {r : Int} {d' : Dt} (p1 : Int) (d : Dt) (hp1 : c32 p1) (h : L_Mo_isPlot p1 d = some (r, d')) : MC l y_Mo_isPlot prog_14_method_25_code 1 (some .boolean) rm_Mo_isPlot 1 [(0, p1)] d (some (0, r)) d' := by
  refine MC.of (by decide) (Nat.le_of_ble_eq_true rfl) ?_
  intro p e s m args below meth c D cA ad A C hlk hr
  replace C : Cx p s m args c prog_14_method_25_code 1 "PollBooksModel" D cA ad 1 A := C
  show G p l e rm_Mo_isPlot s m args below meth c 0 0 (MQ below (fun _ => QC D cA ad 1 A (some .boolean) (some (0, r)) d') args s 0 0 A) 1 D cA ad 1 A 0 [(0, p1)] [] d
  refine g_sub (lo2 := [(0, p1)]) (lsb_v lsb_e) ?_
  unfold L_Mo_isPlot at h
  refine g_iload_n C 0 rfl (by decide +kernel) ?_
  refine g_if_lt C (off := 13) (tgt := 14) hp1 (by decide +kernel) (by decide) (fun hc1_ => ?_) (fun hc1_ => ?_)
  · replace h := ite_t hc1_ h
    refine g_iconst C 0 (cK rfl) (by decide +kernel) ?_
    obtain ⟨rfl, rfl⟩ := ret_inj h
    exact g_zret C (Or.inl rfl) hlk hr (by decide +kernel)
  · replace h := ite_f hc1_ h
    refine g_iload_n C 0 rfl (by decide +kernel) ?_
    refine g_bipush C 40 (by decide) (by decide +kernel) ?_
    refine g_icmp_ge C (off := 7) (tgt := 14) hp1 (cK rfl) (by decide +kernel) (by decide) (fun hc2_ => ?_) (fun hc2_ => ?_)
    · replace h := ite_t hc2_ h
      refine g_iconst C 1 (cK rfl) (by decide +kernel) ?_
      refine g_goto C 15 (off := 4) (by decide +kernel) (by decide) ?_
      obtain ⟨rfl, rfl⟩ := ret_inj h
      exact g_zret C (Or.inr rfl) hlk hr (by decide +kernel)
    · replace h := ite_f hc2_ h
      refine g_iconst C 0 (cK rfl) (by decide +kernel) ?_
      obtain ⟨rfl, rfl⟩ := ret_inj h
      exact g_zret C (Or.inl rfl) hlk hr (by decide +kernel)
/-! PollBooksModel.areShillings(I)Z -/
def y_Mo_areShillings : MethodName := ⟨"PollBooksModel", "areShillings", "(I)Z"⟩
def rm_Mo_areShillings : Room := { frames := 0, cells := 0, slots := 0, locals := 0 }
theorem mw_Mo_areShillings : MW y_Mo_areShillings prog_14_method_26_code 1 (some .boolean) 1 := ⟨lk_1814, lk_14, by decide +kernel⟩
def L_Mo_areShillings (p1 : Int) (d : Dt) : Option (Int × Dt) :=
  if p1 < 1 then some (0, d) else if 1000 < p1 then some (0, d) else some (1, d)
set_option maxHeartbeats 4000000 in
theorem ok_Mo_areShillings {l : Launch} {r : Int} {d' : Dt} (p1 : Int) (d : Dt) (hp1 : c32 p1) (h : L_Mo_areShillings p1 d = some (r, d')) : MC l y_Mo_areShillings prog_14_method_26_code 1 (some .boolean) rm_Mo_areShillings 1 [(0, p1)] d (some (0, r)) d' := by
  refine MC.of (by decide) (Nat.le_of_ble_eq_true rfl) ?_
  intro p e s m args below meth c D cA ad A C hlk hr
  replace C : Cx p s m args c prog_14_method_26_code 1 "PollBooksModel" D cA ad 1 A := C
  show G p l e rm_Mo_areShillings s m args below meth c 0 0 (MQ below (fun _ => QC D cA ad 1 A (some .boolean) (some (0, r)) d') args s 0 0 A) 1 D cA ad 1 A 0 [(0, p1)] [] d
  refine g_sub (lo2 := [(0, p1)]) (lsb_v lsb_e) ?_
  unfold L_Mo_areShillings at h
  refine g_iload_n C 0 rfl (by decide +kernel) ?_
  refine g_iconst C 1 (cK rfl) (by decide +kernel) ?_
  refine g_icmp_lt C (off := 14) (tgt := 16) hp1 (c32_cb (Or.inr rfl)) (by decide +kernel) (by decide) (fun hc1_ => ?_) (fun hc1_ => ?_)
  · replace h := ite_t hc1_ h
    refine g_iconst C 0 (cK rfl) (by decide +kernel) ?_
    obtain ⟨rfl, rfl⟩ := ret_inj h
    exact g_zret C (Or.inl rfl) hlk hr (by decide +kernel)
  · replace h := ite_f hc1_ h
    refine g_iload_n C 0 rfl (by decide +kernel) ?_
    refine g_sipush C 1000 (by decide) (by decide +kernel) ?_
    refine g_icmp_gt C (off := 7) (tgt := 16) hp1 (cK rfl) (by decide +kernel) (by decide) (fun hc2_ => ?_) (fun hc2_ => ?_)
    · replace h := ite_t hc2_ h
      refine g_iconst C 0 (cK rfl) (by decide +kernel) ?_
      obtain ⟨rfl, rfl⟩ := ret_inj h
      exact g_zret C (Or.inl rfl) hlk hr (by decide +kernel)
    · replace h := ite_f hc2_ h
      refine g_iconst C 1 (cK rfl) (by decide +kernel) ?_
      refine g_goto C 17 (off := 4) (by decide +kernel) (by decide) ?_
      obtain ⟨rfl, rfl⟩ := ret_inj h
      exact g_zret C (Or.inr rfl) hlk hr (by decide +kernel)
/-! PollBooksModel.isDay(I)Z -/
def y_Mo_isDay : MethodName := ⟨"PollBooksModel", "isDay", "(I)Z"⟩
def rm_Mo_isDay : Room := { frames := 0, cells := 0, slots := 0, locals := 0 }
theorem mw_Mo_isDay : MW y_Mo_isDay prog_14_method_17_code 1 (some .boolean) 1 := ⟨lk_1817, lk_14, by decide +kernel⟩
def L_Mo_isDay (p1 : Int) (d : Dt) : Option (Int × Dt) :=
  if p1 < 0 then some (0, d) else if 9999 < p1 then some (0, d) else some (1, d)
set_option maxHeartbeats 4000000 in
theorem ok_Mo_isDay {l : Launch} {r : Int} {d' : Dt} (p1 : Int) (d : Dt) (hp1 : c32 p1) (h : L_Mo_isDay p1 d = some (r, d')) : MC l y_Mo_isDay prog_14_method_17_code 1 (some .boolean) rm_Mo_isDay 1 [(0, p1)] d (some (0, r)) d' := by
  refine MC.of (by decide) (Nat.le_of_ble_eq_true rfl) ?_
  intro p e s m args below meth c D cA ad A C hlk hr
  replace C : Cx p s m args c prog_14_method_17_code 1 "PollBooksModel" D cA ad 1 A := C
  show G p l e rm_Mo_isDay s m args below meth c 0 0 (MQ below (fun _ => QC D cA ad 1 A (some .boolean) (some (0, r)) d') args s 0 0 A) 1 D cA ad 1 A 0 [(0, p1)] [] d
  refine g_sub (lo2 := [(0, p1)]) (lsb_v lsb_e) ?_
  unfold L_Mo_isDay at h
  refine g_iload_n C 0 rfl (by decide +kernel) ?_
  refine g_if_lt C (off := 14) (tgt := 15) hp1 (by decide +kernel) (by decide) (fun hc1_ => ?_) (fun hc1_ => ?_)
  · replace h := ite_t hc1_ h
    refine g_iconst C 0 (cK rfl) (by decide +kernel) ?_
    obtain ⟨rfl, rfl⟩ := ret_inj h
    exact g_zret C (Or.inl rfl) hlk hr (by decide +kernel)
  · replace h := ite_f hc1_ h
    refine g_iload_n C 0 rfl (by decide +kernel) ?_
    refine g_sipush C 9999 (by decide) (by decide +kernel) ?_
    refine g_icmp_gt C (off := 7) (tgt := 15) hp1 (cK rfl) (by decide +kernel) (by decide) (fun hc2_ => ?_) (fun hc2_ => ?_)
    · replace h := ite_t hc2_ h
      refine g_iconst C 0 (cK rfl) (by decide +kernel) ?_
      obtain ⟨rfl, rfl⟩ := ret_inj h
      exact g_zret C (Or.inl rfl) hlk hr (by decide +kernel)
    · replace h := ite_f hc2_ h
      refine g_iconst C 1 (cK rfl) (by decide +kernel) ?_
      refine g_goto C 16 (off := 4) (by decide +kernel) (by decide) ?_
      obtain ⟨rfl, rfl⟩ := ret_inj h
      exact g_zret C (Or.inr rfl) hlk hr (by decide +kernel)
/-! PollBooksModel.wrongTelling(III)I -/
def y_Mo_wrongTelling : MethodName := ⟨"PollBooksModel", "wrongTelling", "(III)I"⟩
def rm_Mo_wrongTelling : Room := { frames := 0, cells := 0, slots := 0, locals := 0 }
theorem mw_Mo_wrongTelling : MW y_Mo_wrongTelling prog_14_method_27_code 4 (some .int) 3 := ⟨lk_1821, lk_14, by decide +kernel⟩
def L_Mo_wrongTelling (p1 p2 p3 : Int) (d : Dt) : Option (Int × Dt) :=
  if p1 = p2 then some (4, d) else if p3 < (d 0 11) then some (5, d) else some (0, d)
set_option maxHeartbeats 4000000 in
theorem ok_Mo_wrongTelling {l : Launch} {r : Int} {d' : Dt} (p1 p2 p3 : Int) (d : Dt) (hp1 : c32 p1) (hp2 : c32 p2) (hp3 : c32 p3) (h : L_Mo_wrongTelling p1 p2 p3 d = some (r, d')) : MC l y_Mo_wrongTelling prog_14_method_27_code 4 (some .int) rm_Mo_wrongTelling 1 [(2, 0), (0, p1), (0, p2), (0, p3)] d (some (0, r)) d' := by
  refine MC.of (by decide) (Nat.le_of_ble_eq_true rfl) ?_
  intro p e s m args below meth c D cA ad A C hlk hr
  replace C : Cx p s m args c prog_14_method_27_code 4 "PollBooksModel" D cA ad 1 A := C
  show G p l e rm_Mo_wrongTelling s m args below meth c 0 0 (MQ below (fun _ => QC D cA ad 1 A (some .int) (some (0, r)) d') args s 0 0 A) 4 D cA ad 1 A 0 [(2, 0), (0, p1), (0, p2), (0, p3)] [] d
  refine g_sub (lo2 := [(2, 0), (0, p1), (0, p2), (0, p3)]) (lsb_v (lsb_v (lsb_v (lsb_v lsb_e)))) ?_
  unfold L_Mo_wrongTelling at h
  refine g_iload_n C 1 rfl (by decide +kernel) ?_
  refine g_iload_n C 2 rfl (by decide +kernel) ?_
  refine g_icmp_ne C (off := 7) (tgt := 9) hp1 hp2 (by decide +kernel) (by decide) (fun hc1_ => ?_) (fun hc1_ => ?_)
  · replace h := ite_t hc1_ h
    refine g_iconst C 4 (cK rfl) (by decide +kernel) ?_
    refine g_goto C 22 (off := 16) (by decide +kernel) (by decide) ?_
    obtain ⟨rfl, rfl⟩ := ret_inj h
    exact g_iret C (cK rfl) hlk hr (by decide +kernel)
  · replace h := ite_f hc1_ h
    refine g_iload_n C 3 rfl (by decide +kernel) ?_
    refine g_aload_n C 0 rfl (by decide +kernel) ?_
    refine g_getI C cl12 0 11 rfl cd_B0 ⟨by decide, rfl, by decide⟩ rfl (nB (by decide)) (ix := 328) lk_1413 (by decide +kernel) (fun hc2_ => ?_)
    refine g_icmp_ge C (off := 7) (tgt := 21) hp3 hc2_ (by decide +kernel) (by decide) (fun hc3_ => ?_) (fun hc3_ => ?_)
    · replace h := ite_t hc3_ h
      refine g_iconst C 5 (cK rfl) (by decide +kernel) ?_
      refine g_goto C 22 (off := 4) (by decide +kernel) (by decide) ?_
      obtain ⟨rfl, rfl⟩ := ret_inj h
      exact g_iret C (cK rfl) hlk hr (by decide +kernel)
    · replace h := ite_f hc3_ h
      refine g_iconst C 0 (cK rfl) (by decide +kernel) ?_
      obtain ⟨rfl, rfl⟩ := ret_inj h
      exact g_iret C (c32_cb (Or.inl rfl)) hlk hr (by decide +kernel)
/-! PollBooksModel.hold(IIIIII)Z -/
def y_Mo_hold : MethodName := ⟨"PollBooksModel", "hold", "(IIIIII)Z"⟩
def rm_Mo_hold : Room := { frames := 1, cells := 0, slots := 0, locals := 23 }
theorem mw_Mo_hold : MW y_Mo_hold prog_14_method_28_code 8 (some .boolean) 6 := ⟨lk_1804, lk_14, by decide +kernel⟩
def L_Mo_hold_b53 (d : Dt) : Option (Int × Dt) :=
  bd (L_Mo_is 1 d) (fun r2_ d1_ => some (r2_, d1_))
def L_Mo_hold (p1 p2 p3 p4 p5 p6 : Int) (d : Dt) : Option (Int × Dt) :=
  bd (L_Mo_isPerson p1 d) (fun r6_ d5_ => if r6_ = 0 then L_Mo_hold_b53 d5_ else bd (L_Mo_isPlot p2 d5_) (fun r11_ d10_ => if r11_ = 0 then L_Mo_hold_b53 d10_ else bd (L_Mo_areShillings p3 d10_) (fun r16_ d15_ => if r16_ = 0 then L_Mo_hold_b53 d15_ else bd (L_Mo_isDay p4 d15_) (fun r21_ d20_ => if r21_ = 0 then L_Mo_hold_b53 d20_ else bd (L_Mo_isDay p5 d20_) (fun r26_ d25_ => if r26_ = 0 then L_Mo_hold_b53 d25_ else if p5 < p4 then L_Mo_hold_b53 d25_ else bd (L_Mo_isDay p6 d25_) (fun r32_ d31_ => if r32_ = 0 then L_Mo_hold_b53 d31_ else bd (L_Mo_wrongTelling (d31_ 0 8) 80 p6 d31_) (fun r38_ d37_ => if 0 < r38_ then bd (L_Mo_is r38_ d37_) (fun r43_ d42_ => some (r43_, d42_)) else ck ((0 : Int) ≤ (d37_ 0 8) ∧ (d37_ 0 8) < 80) (ck ((0 : Int) ≤ (d37_ 0 8) ∧ (d37_ 0 8) < 80) (ck ((0 : Int) ≤ (d37_ 0 8) ∧ (d37_ 0 8) < 80) (ck ((0 : Int) ≤ (d37_ 0 8) ∧ (d37_ 0 8) < 80) (ck ((0 : Int) ≤ (d37_ 0 8) ∧ (d37_ 0 8) < 80) (ck ((0 : Int) ≤ (d37_ 0 8) ∧ (d37_ 0 8) < 80) (bd (L_Mo_is 0 (up2 (up2 (up2 (up2 (up2 (up2 (up2 (up2 d37_ 0 11 p6) 10 ((d37_ 0 8)).toNat p1) 11 ((d37_ 0 8)).toNat p2) 12 ((d37_ 0 8)).toNat p3) 13 ((d37_ 0 8)).toNat p4) 14 ((d37_ 0 8)).toNat p5) 15 ((d37_ 0 8)).toNat p6) 0 8 (w32 ((d37_ 0 8) + 1)))) (fun r60_ d59_ => some (r60_, d59_)))))))))))))))
set_option maxHeartbeats 4000000 in
theorem ok_Mo_hold_b53 {p : Program} {l : Launch} {e : Env} {s : State} {m : MethodId} {args : Array Value} {below : List Frame} {meth : Method} {c : Code} {D : va_G} {cA : Nat → ClassId} {ad : Nat → Nat} {A : Nat → Prop} (C : Cx p s m args c prog_14_method_28_code 8 "PollBooksModel" D cA ad 1 A) (hlk : meth.locks = false) (hr : meth.sig.returnType = (some .boolean)) {r : Int} {d' : Dt} (d : Dt)  (h : L_Mo_hold_b53 d = some (r, d')) : G p l e rm_Mo_hold s m args below meth c 0 0 (MQ below (fun _ => QC D cA ad 1 A (some .boolean) (some (0, r)) d') args s 0 0 A) 8 D cA ad 1 A 53 [(2, 0), (9, 0), (9, 0), (9, 0), (9, 0), (9, 0), (9, 0), (9, 0)] [] d := by
  unfold L_Mo_hold_b53 at h
  refine g_aload_n C 0 rfl (by decide +kernel) ?_
  refine g_iconst C 1 (cK rfl) (by decide +kernel) ?_
  obtain ⟨r2_, d1_, hr3_, h⟩ := bd_some h
  refine g_callV C mw_Mo_is [(0, 1)] 0 cl12 rfl (ok_Mo_is 1 d (c32_cb (Or.inr rfl)) hr3_) cd_B0 (by decide) (nB (by decide)) (ix := 276) lk_1741 lk_1743 lkp_57 ⟨rfl, rfl, Nat.le_of_ble_eq_true rfl, Nat.le_of_ble_eq_true rfl⟩ rfl (rest := []) rfl (Nat.le_of_ble_eq_true rfl) ⟨Nat.zero_le _, Nat.zero_le _⟩ (by decide +kernel) (fun _ hc4_ => ?_)
  replace hc4_ : cb r2_ := hc4_
  refine g_st (st2 := [(0, r2_)]) rfl ?_
  obtain ⟨rfl, rfl⟩ := ret_inj h
  exact g_zret C hc4_ hlk hr (by decide +kernel)
set_option maxHeartbeats 4000000 in
theorem ok_Mo_hold {l : Launch} {r : Int} {d' : Dt} (p1 p2 p3 p4 p5 p6 : Int) (d : Dt) (hp1 : c32 p1) (hp2 : c32 p2) (hp3 : c32 p3) (hp4 : c32 p4) (hp5 : c32 p5) (hp6 : c32 p6) (h : L_Mo_hold p1 p2 p3 p4 p5 p6 d = some (r, d')) : MC l y_Mo_hold prog_14_method_28_code 8 (some .boolean) rm_Mo_hold 1 [(2, 0), (0, p1), (0, p2), (0, p3), (0, p4), (0, p5), (0, p6)] d (some (0, r)) d' := by
  refine MC.of (by decide) (Nat.le_of_ble_eq_true rfl) ?_
  intro p e s m args below meth c D cA ad A C hlk hr
  replace C : Cx p s m args c prog_14_method_28_code 8 "PollBooksModel" D cA ad 1 A := C
  show G p l e rm_Mo_hold s m args below meth c 0 0 (MQ below (fun _ => QC D cA ad 1 A (some .boolean) (some (0, r)) d') args s 0 0 A) 8 D cA ad 1 A 0 [(2, 0), (0, p1), (0, p2), (0, p3), (0, p4), (0, p5), (0, p6)] [] d
  refine g_sub (lo2 := [(2, 0), (0, p1), (0, p2), (0, p3), (0, p4), (0, p5), (0, p6), (9, 0)]) (lsb_v (lsb_v (lsb_v (lsb_v (lsb_v (lsb_v (lsb_v (lsb_n lsb_e)))))))) ?_
  unfold L_Mo_hold at h
  refine g_aload_n C 0 rfl (by decide +kernel) ?_
  refine g_iload_n C 1 rfl (by decide +kernel) ?_
  obtain ⟨r6_, d5_, hr7_, h⟩ := bd_some h
  refine g_callV C mw_Mo_isPerson [(0, p1)] 0 cl12 rfl (ok_Mo_isPerson p1 d hp1 hr7_) cd_B0 (by decide) (nB (by decide)) (ix := 331) lk_1805 lk_1807 lkp_62 ⟨rfl, rfl, Nat.le_of_ble_eq_true rfl, Nat.le_of_ble_eq_true rfl⟩ rfl (rest := []) rfl (Nat.le_of_ble_eq_true rfl) ⟨Nat.zero_le _, Nat.zero_le _⟩ (by decide +kernel) (fun _ hc8_ => ?_)
  replace hc8_ : cb r6_ := hc8_
  refine g_st (st2 := [(0, r6_)]) rfl ?_
  refine g_if_eq C (off := 48) (tgt := 53) (c32_cb hc8_) (by decide +kernel) (by decide) (fun hc9_ => ?_) (fun hc9_ => ?_)
  · replace h := ite_t hc9_ h
    refine g_sub (lo2 := [(2, 0), (9, 0), (9, 0), (9, 0), (9, 0), (9, 0), (9, 0), (9, 0)]) (lsb_v (lsb_c (lsb_c (lsb_c (lsb_c (lsb_c (lsb_c (lsb_c lsb_e)))))))) ?_
    exact ok_Mo_hold_b53 C hlk hr d5_  h
  · replace h := ite_f hc9_ h
    refine g_iload_n C 2 rfl (by decide +kernel) ?_
    obtain ⟨r11_, d10_, hr12_, h⟩ := bd_some h
    refine g_callS C mw_Mo_isPlot [(0, p2)] (ok_Mo_isPlot p2 d5_ hp2 hr12_) (ix := 334) lk_1809 lk_1810 ⟨rfl, rfl, Nat.le_of_ble_eq_true rfl, Nat.le_of_ble_eq_true rfl⟩ rfl (rest := []) rfl (Nat.le_of_ble_eq_true rfl) ⟨Nat.zero_le _, Nat.zero_le _⟩ (by decide +kernel) (fun _ hc13_ => ?_)
    replace hc13_ : cb r11_ := hc13_
    refine g_st (st2 := [(0, r11_)]) rfl ?_
    refine g_if_eq C (off := 41) (tgt := 53) (c32_cb hc13_) (by decide +kernel) (by decide) (fun hc14_ => ?_) (fun hc14_ => ?_)
    · replace h := ite_t hc14_ h
      refine g_sub (lo2 := [(2, 0), (9, 0), (9, 0), (9, 0), (9, 0), (9, 0), (9, 0), (9, 0)]) (lsb_v (lsb_c (lsb_c (lsb_c (lsb_c (lsb_c (lsb_c (lsb_c lsb_e)))))))) ?_
      exact ok_Mo_hold_b53 C hlk hr d10_  h
    · replace h := ite_f hc14_ h
      refine g_iload_n C 3 rfl (by decide +kernel) ?_
      obtain ⟨r16_, d15_, hr17_, h⟩ := bd_some h
      refine g_callS C mw_Mo_areShillings [(0, p3)] (ok_Mo_areShillings p3 d10_ hp3 hr17_) (ix := 337) lk_1812 lk_1813 ⟨rfl, rfl, Nat.le_of_ble_eq_true rfl, Nat.le_of_ble_eq_true rfl⟩ rfl (rest := []) rfl (Nat.le_of_ble_eq_true rfl) ⟨Nat.zero_le _, Nat.zero_le _⟩ (by decide +kernel) (fun _ hc18_ => ?_)
      replace hc18_ : cb r16_ := hc18_
      refine g_st (st2 := [(0, r16_)]) rfl ?_
      refine g_if_eq C (off := 34) (tgt := 53) (c32_cb hc18_) (by decide +kernel) (by decide) (fun hc19_ => ?_) (fun hc19_ => ?_)
      · replace h := ite_t hc19_ h
        refine g_sub (lo2 := [(2, 0), (9, 0), (9, 0), (9, 0), (9, 0), (9, 0), (9, 0), (9, 0)]) (lsb_v (lsb_c (lsb_c (lsb_c (lsb_c (lsb_c (lsb_c (lsb_c lsb_e)))))))) ?_
        exact ok_Mo_hold_b53 C hlk hr d15_  h
      · replace h := ite_f hc19_ h
        refine g_iload C 4 rfl (by decide +kernel) ?_
        obtain ⟨r21_, d20_, hr22_, h⟩ := bd_some h
        refine g_callS C mw_Mo_isDay [(0, p4)] (ok_Mo_isDay p4 d15_ hp4 hr22_) (ix := 340) lk_1815 lk_1816 ⟨rfl, rfl, Nat.le_of_ble_eq_true rfl, Nat.le_of_ble_eq_true rfl⟩ rfl (rest := []) rfl (Nat.le_of_ble_eq_true rfl) ⟨Nat.zero_le _, Nat.zero_le _⟩ (by decide +kernel) (fun _ hc23_ => ?_)
        replace hc23_ : cb r21_ := hc23_
        refine g_st (st2 := [(0, r21_)]) rfl ?_
        refine g_if_eq C (off := 26) (tgt := 53) (c32_cb hc23_) (by decide +kernel) (by decide) (fun hc24_ => ?_) (fun hc24_ => ?_)
        · replace h := ite_t hc24_ h
          refine g_sub (lo2 := [(2, 0), (9, 0), (9, 0), (9, 0), (9, 0), (9, 0), (9, 0), (9, 0)]) (lsb_v (lsb_c (lsb_c (lsb_c (lsb_c (lsb_c (lsb_c (lsb_c lsb_e)))))))) ?_
          exact ok_Mo_hold_b53 C hlk hr d20_  h
        · replace h := ite_f hc24_ h
          refine g_iload C 5 rfl (by decide +kernel) ?_
          obtain ⟨r26_, d25_, hr27_, h⟩ := bd_some h
          refine g_callS C mw_Mo_isDay [(0, p5)] (ok_Mo_isDay p5 d20_ hp5 hr27_) (ix := 340) lk_1815 lk_1816 ⟨rfl, rfl, Nat.le_of_ble_eq_true rfl, Nat.le_of_ble_eq_true rfl⟩ rfl (rest := []) rfl (Nat.le_of_ble_eq_true rfl) ⟨Nat.zero_le _, Nat.zero_le _⟩ (by decide +kernel) (fun _ hc28_ => ?_)
          replace hc28_ : cb r26_ := hc28_
          refine g_st (st2 := [(0, r26_)]) rfl ?_
          refine g_if_eq C (off := 18) (tgt := 53) (c32_cb hc28_) (by decide +kernel) (by decide) (fun hc29_ => ?_) (fun hc29_ => ?_)
          · replace h := ite_t hc29_ h
            refine g_sub (lo2 := [(2, 0), (9, 0), (9, 0), (9, 0), (9, 0), (9, 0), (9, 0), (9, 0)]) (lsb_v (lsb_c (lsb_c (lsb_c (lsb_c (lsb_c (lsb_c (lsb_c lsb_e)))))))) ?_
            exact ok_Mo_hold_b53 C hlk hr d25_  h
          · replace h := ite_f hc29_ h
            refine g_iload C 5 rfl (by decide +kernel) ?_
            refine g_iload C 4 rfl (by decide +kernel) ?_
            refine g_icmp_lt C (off := 11) (tgt := 53) hp5 hp4 (by decide +kernel) (by decide) (fun hc30_ => ?_) (fun hc30_ => ?_)
            · replace h := ite_t hc30_ h
              refine g_sub (lo2 := [(2, 0), (9, 0), (9, 0), (9, 0), (9, 0), (9, 0), (9, 0), (9, 0)]) (lsb_v (lsb_c (lsb_c (lsb_c (lsb_c (lsb_c (lsb_c (lsb_c lsb_e)))))))) ?_
              exact ok_Mo_hold_b53 C hlk hr d25_  h
            · replace h := ite_f hc30_ h
              refine g_iload C 6 rfl (by decide +kernel) ?_
              obtain ⟨r32_, d31_, hr33_, h⟩ := bd_some h
              refine g_callS C mw_Mo_isDay [(0, p6)] (ok_Mo_isDay p6 d25_ hp6 hr33_) (ix := 340) lk_1815 lk_1816 ⟨rfl, rfl, Nat.le_of_ble_eq_true rfl, Nat.le_of_ble_eq_true rfl⟩ rfl (rest := []) rfl (Nat.le_of_ble_eq_true rfl) ⟨Nat.zero_le _, Nat.zero_le _⟩ (by decide +kernel) (fun _ hc34_ => ?_)
              replace hc34_ : cb r32_ := hc34_
              refine g_st (st2 := [(0, r32_)]) rfl ?_
              refine g_if_ne C (off := 9) (tgt := 59) (c32_cb hc34_) (by decide +kernel) (by decide) (fun hc35_ => ?_) (fun hc35_ => ?_)
              · replace h := ite_t hc35_ h
                refine g_sub (lo2 := [(2, 0), (9, 0), (9, 0), (9, 0), (9, 0), (9, 0), (9, 0), (9, 0)]) (lsb_v (lsb_c (lsb_c (lsb_c (lsb_c (lsb_c (lsb_c (lsb_c lsb_e)))))))) ?_
                exact ok_Mo_hold_b53 C hlk hr d31_  h
              · replace h := ite_f hc35_ h
                refine g_aload_n C 0 rfl (by decide +kernel) ?_
                refine g_aload_n C 0 rfl (by decide +kernel) ?_
                refine g_getI C cl12 0 8 rfl cd_B0 ⟨by decide, rfl, by decide⟩ rfl (nB (by decide)) (ix := 343) lk_1410 (by decide +kernel) (fun hc36_ => ?_)
                refine g_bipush C 80 (by decide) (by decide +kernel) ?_
                refine g_iload C 6 rfl (by decide +kernel) ?_
                obtain ⟨r38_, d37_, hr39_, h⟩ := bd_some h
                refine g_callV C mw_Mo_wrongTelling [(0, (d31_ 0 8)), (0, 80), (0, p6)] 0 cl12 rfl (ok_Mo_wrongTelling (d31_ 0 8) 80 p6 d31_ hc36_ (cK rfl) hp6 hr39_) cd_B0 (by decide) (nB (by decide)) (ix := 346) lk_1818 lk_1820 lkp_63 ⟨rfl, rfl, Nat.le_of_ble_eq_true rfl, Nat.le_of_ble_eq_true rfl⟩ rfl (rest := []) rfl (Nat.le_of_ble_eq_true rfl) ⟨Nat.zero_le _, Nat.zero_le _⟩ (by decide +kernel) (fun _ hc40_ => ?_)
                replace hc40_ : c32 r38_ := hc40_
                refine g_st (st2 := [(0, r38_)]) rfl ?_
                refine s_istore C 7 (lo' := [(2, 0), (0, p1), (0, p2), (0, p3), (0, p4), (0, p5), (0, p6), (0, r38_)]) (by decide) (s1k (s1k (s1k (s1k (s1k (s1k (s1n (by decide) s1z))))))) (by decide +kernel) ?_
                refine g_iload C 7 rfl (by decide +kernel) ?_
                refine g_if_le C (off := 10) (tgt := 85) hc40_ (by decide +kernel) (by decide) (fun hc41_ => ?_) (fun hc41_ => ?_)
                · replace h := ite_t hc41_ h
                  refine g_aload_n C 0 rfl (by decide +kernel) ?_
                  refine g_iload C 7 rfl (by decide +kernel) ?_
                  obtain ⟨r43_, d42_, hr44_, h⟩ := bd_some h
                  refine g_callV C mw_Mo_is [(0, r38_)] 0 cl12 rfl (ok_Mo_is r38_ d37_ hc40_ hr44_) cd_B0 (by decide) (nB (by decide)) (ix := 276) lk_1741 lk_1743 lkp_57 ⟨rfl, rfl, Nat.le_of_ble_eq_true rfl, Nat.le_of_ble_eq_true rfl⟩ rfl (rest := []) rfl (Nat.le_of_ble_eq_true rfl) ⟨Nat.zero_le _, Nat.zero_le _⟩ (by decide +kernel) (fun _ hc45_ => ?_)
                  replace hc45_ : cb r43_ := hc45_
                  refine g_st (st2 := [(0, r43_)]) rfl ?_
                  obtain ⟨rfl, rfl⟩ := ret_inj h
                  exact g_zret C hc45_ hlk hr (by decide +kernel)
                · replace h := ite_f hc41_ h
                  refine g_aload_n C 0 rfl (by decide +kernel) ?_
                  refine g_iload C 6 rfl (by decide +kernel) ?_
                  refine g_putI C cl12 0 11 hp6 rfl cd_B0 ⟨by decide, rfl, by decide⟩ rfl (nB (by decide)) (ix := 328) lk_1413 rfl rfl (by decide +kernel) ?_
                  refine g_aload_n C 0 rfl (by decide +kernel) ?_
                  refine g_getR C cl12 0 16 10 rfl cd_B0 ⟨by decide, rfl, by decide⟩ rfl rfl (nB (by decide)) (ix := 42) lk_1418 (by decide +kernel) ?_
                  refine g_aload_n C 0 rfl (by decide +kernel) ?_
                  refine g_getI C cl12 0 8 rfl cd_B0 ⟨by decide, rfl, by decide⟩ rfl (nB (by decide)) (ix := 343) lk_1410 (by decide +kernel) (fun hc46_ => ?_)
                  refine g_val (y := (d37_ 0 8)) rfl ?_
                  replace hc46_ : c32 (d37_ 0 8) := hc46_
                  refine g_iload_n C 1 rfl (by decide +kernel) ?_
                  obtain ⟨hb47_, h⟩ := ck_some h
                  refine g_iast C 10 hp1 hc46_ rfl cd_B10 (nB (by decide)) hb47_ (by decide +kernel) ?_
                  refine g_aload_n C 0 rfl (by decide +kernel) ?_
                  refine g_getR C cl12 0 17 11 rfl cd_B0 ⟨by decide, rfl, by decide⟩ rfl rfl (nB (by decide)) (ix := 45) lk_1419 (by decide +kernel) ?_
                  refine g_aload_n C 0 rfl (by decide +kernel) ?_
                  refine g_getI C cl12 0 8 rfl cd_B0 ⟨by decide, rfl, by decide⟩ rfl (nB (by decide)) (ix := 343) lk_1410 (by decide +kernel) (fun hc48_ => ?_)
                  refine g_val (y := (d37_ 0 8)) rfl ?_
                  replace hc48_ : c32 (d37_ 0 8) := hc48_
                  refine g_iload_n C 2 rfl (by decide +kernel) ?_
                  obtain ⟨hb49_, h⟩ := ck_some h
                  refine g_iast C 11 hp2 hc48_ rfl cd_B11 (nB (by decide)) hb49_ (by decide +kernel) ?_
                  refine g_aload_n C 0 rfl (by decide +kernel) ?_
                  refine g_getR C cl12 0 18 12 rfl cd_B0 ⟨by decide, rfl, by decide⟩ rfl rfl (nB (by decide)) (ix := 48) lk_1420 (by decide +kernel) ?_
                  refine g_aload_n C 0 rfl (by decide +kernel) ?_
                  refine g_getI C cl12 0 8 rfl cd_B0 ⟨by decide, rfl, by decide⟩ rfl (nB (by decide)) (ix := 343) lk_1410 (by decide +kernel) (fun hc50_ => ?_)
                  refine g_val (y := (d37_ 0 8)) rfl ?_
                  replace hc50_ : c32 (d37_ 0 8) := hc50_
                  refine g_iload_n C 3 rfl (by decide +kernel) ?_
                  obtain ⟨hb51_, h⟩ := ck_some h
                  refine g_iast C 12 hp3 hc50_ rfl cd_B12 (nB (by decide)) hb51_ (by decide +kernel) ?_
                  refine g_aload_n C 0 rfl (by decide +kernel) ?_
                  refine g_getR C cl12 0 19 13 rfl cd_B0 ⟨by decide, rfl, by decide⟩ rfl rfl (nB (by decide)) (ix := 51) lk_1421 (by decide +kernel) ?_
                  refine g_aload_n C 0 rfl (by decide +kernel) ?_
                  refine g_getI C cl12 0 8 rfl cd_B0 ⟨by decide, rfl, by decide⟩ rfl (nB (by decide)) (ix := 343) lk_1410 (by decide +kernel) (fun hc52_ => ?_)
                  refine g_val (y := (d37_ 0 8)) rfl ?_
                  replace hc52_ : c32 (d37_ 0 8) := hc52_
                  refine g_iload C 4 rfl (by decide +kernel) ?_
                  obtain ⟨hb53_, h⟩ := ck_some h
                  refine g_iast C 13 hp4 hc52_ rfl cd_B13 (nB (by decide)) hb53_ (by decide +kernel) ?_
                  refine g_aload_n C 0 rfl (by decide +kernel) ?_
                  refine g_getR C cl12 0 20 14 rfl cd_B0 ⟨by decide, rfl, by decide⟩ rfl rfl (nB (by decide)) (ix := 54) lk_1422 (by decide +kernel) ?_
                  refine g_aload_n C 0 rfl (by decide +kernel) ?_
                  refine g_getI C cl12 0 8 rfl cd_B0 ⟨by decide, rfl, by decide⟩ rfl (nB (by decide)) (ix := 343) lk_1410 (by decide +kernel) (fun hc54_ => ?_)
                  refine g_val (y := (d37_ 0 8)) rfl ?_
                  replace hc54_ : c32 (d37_ 0 8) := hc54_
                  refine g_iload C 5 rfl (by decide +kernel) ?_
                  obtain ⟨hb55_, h⟩ := ck_some h
                  refine g_iast C 14 hp5 hc54_ rfl cd_B14 (nB (by decide)) hb55_ (by decide +kernel) ?_
                  refine g_aload_n C 0 rfl (by decide +kernel) ?_
                  refine g_getR C cl12 0 21 15 rfl cd_B0 ⟨by decide, rfl, by decide⟩ rfl rfl (nB (by decide)) (ix := 57) lk_1423 (by decide +kernel) ?_
                  refine g_aload_n C 0 rfl (by decide +kernel) ?_
                  refine g_getI C cl12 0 8 rfl cd_B0 ⟨by decide, rfl, by decide⟩ rfl (nB (by decide)) (ix := 343) lk_1410 (by decide +kernel) (fun hc56_ => ?_)
                  refine g_val (y := (d37_ 0 8)) rfl ?_
                  replace hc56_ : c32 (d37_ 0 8) := hc56_
                  refine g_iload C 6 rfl (by decide +kernel) ?_
                  obtain ⟨hb57_, h⟩ := ck_some h
                  refine g_iast C 15 hp6 hc56_ rfl cd_B15 (nB (by decide)) hb57_ (by decide +kernel) ?_
                  refine g_aload_n C 0 rfl (by decide +kernel) ?_
                  refine g_dup C tg2 (by decide +kernel) ?_
                  refine g_getI C cl12 0 8 rfl cd_B0 ⟨by decide, rfl, by decide⟩ rfl (nB (by decide)) (ix := 343) lk_1410 (by decide +kernel) (fun hc58_ => ?_)
                  refine g_val (y := (d37_ 0 8)) rfl ?_
                  replace hc58_ : c32 (d37_ 0 8) := hc58_
                  refine g_iconst C 1 (cK rfl) (by decide +kernel) ?_
                  refine g_iadd C (by decide +kernel) ?_
                  refine g_putI C cl12 0 8 (w32_c _) rfl cd_B0 ⟨by decide, rfl, by decide⟩ rfl (nB (by decide)) (ix := 343) lk_1410 rfl rfl (by decide +kernel) ?_
                  refine g_aload_n C 0 rfl (by decide +kernel) ?_
                  refine g_iconst C 0 (cK rfl) (by decide +kernel) ?_
                  obtain ⟨r60_, d59_, hr61_, h⟩ := bd_some h
                  refine g_callV C mw_Mo_is [(0, 0)] 0 cl12 rfl (ok_Mo_is 0 (up2 (up2 (up2 (up2 (up2 (up2 (up2 (up2 d37_ 0 11 p6) 10 ((d37_ 0 8)).toNat p1) 11 ((d37_ 0 8)).toNat p2) 12 ((d37_ 0 8)).toNat p3) 13 ((d37_ 0 8)).toNat p4) 14 ((d37_ 0 8)).toNat p5) 15 ((d37_ 0 8)).toNat p6) 0 8 (w32 ((d37_ 0 8) + 1))) (c32_cb (Or.inl rfl)) hr61_) cd_B0 (by decide) (nB (by decide)) (ix := 276) lk_1741 lk_1743 lkp_57 ⟨rfl, rfl, Nat.le_of_ble_eq_true rfl, Nat.le_of_ble_eq_true rfl⟩ rfl (rest := []) rfl (Nat.le_of_ble_eq_true rfl) ⟨Nat.zero_le _, Nat.zero_le _⟩ (by decide +kernel) (fun _ hc62_ => ?_)
                  replace hc62_ : cb r60_ := hc62_
                  refine g_st (st2 := [(0, r60_)]) rfl ?_
                  obtain ⟨rfl, rfl⟩ := ret_inj h
                  exact g_zret C hc62_ hlk hr (by decide +kernel)
/-! PollBooksModel.split(III)Z -/
def y_Mo_split : MethodName := ⟨"PollBooksModel", "split", "(III)Z"⟩
def rm_Mo_split : Room := { frames := 1, cells := 0, slots := 0, locals := 23 }
theorem mw_Mo_split : MW y_Mo_split prog_14_method_29_code 5 (some .boolean) 3 := ⟨lk_1825, lk_14, by decide +kernel⟩
def L_Mo_split_b21 (d : Dt) : Option (Int × Dt) :=
  bd (L_Mo_is 1 d) (fun r2_ d1_ => some (r2_, d1_))
def L_Mo_split (p1 p2 p3 : Int) (d : Dt) : Option (Int × Dt) :=
  bd (L_Mo_isPlot p1 d) (fun r6_ d5_ => if r6_ = 0 then L_Mo_split_b21 d5_ else bd (L_Mo_isDay p2 d5_) (fun r11_ d10_ => if r11_ = 0 then L_Mo_split_b21 d10_ else bd (L_Mo_isDay p3 d10_) (fun r16_ d15_ => if r16_ = 0 then L_Mo_split_b21 d15_ else bd (L_Mo_wrongTelling (d15_ 0 9) 30 p3 d15_) (fun r22_ d21_ => if 0 < r22_ then bd (L_Mo_is r22_ d21_) (fun r27_ d26_ => some (r27_, d26_)) else ck ((0 : Int) ≤ (d21_ 0 9) ∧ (d21_ 0 9) < 30) (ck ((0 : Int) ≤ (d21_ 0 9) ∧ (d21_ 0 9) < 30) (ck ((0 : Int) ≤ (d21_ 0 9) ∧ (d21_ 0 9) < 30) (bd (L_Mo_is 0 (up2 (up2 (up2 (up2 (up2 d21_ 0 11 p3) 16 ((d21_ 0 9)).toNat p1) 17 ((d21_ 0 9)).toNat p2) 18 ((d21_ 0 9)).toNat p3) 0 9 (w32 ((d21_ 0 9) + 1)))) (fun r38_ d37_ => some (r38_, d37_)))))))))
set_option maxHeartbeats 4000000 in
theorem ok_Mo_split_b21 {p : Program} {l : Launch} {e : Env} {s : State} {m : MethodId} {args : Array Value} {below : List Frame} {meth : Method} {c : Code} {D : va_G} {cA : Nat → ClassId} {ad : Nat → Nat} {A : Nat → Prop} (C : Cx p s m args c prog_14_method_29_code 5 "PollBooksModel" D cA ad 1 A) (hlk : meth.locks = false) (hr : meth.sig.returnType = (some .boolean)) {r : Int} {d' : Dt} (d : Dt)  (h : L_Mo_split_b21 d = some (r, d')) : G p l e rm_Mo_split s m args below meth c 0 0 (MQ below (fun _ => QC D cA ad 1 A (some .boolean) (some (0, r)) d') args s 0 0 A) 5 D cA ad 1 A 21 [(2, 0), (9, 0), (9, 0), (9, 0), (9, 0)] [] d := by
  unfold L_Mo_split_b21 at h
  refine g_aload_n C 0 rfl (by decide +kernel) ?_
  refine g_iconst C 1 (cK rfl) (by decide +kernel) ?_
  obtain ⟨r2_, d1_, hr3_, h⟩ := bd_some h
  refine g_callV C mw_Mo_is [(0, 1)] 0 cl12 rfl (ok_Mo_is 1 d (c32_cb (Or.inr rfl)) hr3_) cd_B0 (by decide) (nB (by decide)) (ix := 276) lk_1741 lk_1743 lkp_57 ⟨rfl, rfl, Nat.le_of_ble_eq_true rfl, Nat.le_of_ble_eq_true rfl⟩ rfl (rest := []) rfl (Nat.le_of_ble_eq_true rfl) ⟨Nat.zero_le _, Nat.zero_le _⟩ (by decide +kernel) (fun _ hc4_ => ?_)
  replace hc4_ : cb r2_ := hc4_
  refine g_st (st2 := [(0, r2_)]) rfl ?_
  obtain ⟨rfl, rfl⟩ := ret_inj h
  exact g_zret C hc4_ hlk hr (by decide +kernel)
set_option maxHeartbeats 4000000 in
theorem ok_Mo_split {l : Launch} {r : Int} {d' : Dt} (p1 p2 p3 : Int) (d : Dt) (hp1 : c32 p1) (hp2 : c32 p2) (hp3 : c32 p3) (h : L_Mo_split p1 p2 p3 d = some (r, d')) : MC l y_Mo_split prog_14_method_29_code 5 (some .boolean) rm_Mo_split 1 [(2, 0), (0, p1), (0, p2), (0, p3)] d (some (0, r)) d' := by
  refine MC.of (by decide) (Nat.le_of_ble_eq_true rfl) ?_
  intro p e s m args below meth c D cA ad A C hlk hr
  replace C : Cx p s m args c prog_14_method_29_code 5 "PollBooksModel" D cA ad 1 A := C
  show G p l e rm_Mo_split s m args below meth c 0 0 (MQ below (fun _ => QC D cA ad 1 A (some .boolean) (some (0, r)) d') args s 0 0 A) 5 D cA ad 1 A 0 [(2, 0), (0, p1), (0, p2), (0, p3)] [] d
  refine g_sub (lo2 := [(2, 0), (0, p1), (0, p2), (0, p3), (9, 0)]) (lsb_v (lsb_v (lsb_v (lsb_v (lsb_n lsb_e))))) ?_
  unfold L_Mo_split at h
  refine g_iload_n C 1 rfl (by decide +kernel) ?_
  obtain ⟨r6_, d5_, hr7_, h⟩ := bd_some h
  refine g_callS C mw_Mo_isPlot [(0, p1)] (ok_Mo_isPlot p1 d hp1 hr7_) (ix := 334) lk_1809 lk_1810 ⟨rfl, rfl, Nat.le_of_ble_eq_true rfl, Nat.le_of_ble_eq_true rfl⟩ rfl (rest := []) rfl (Nat.le_of_ble_eq_true rfl) ⟨Nat.zero_le _, Nat.zero_le _⟩ (by decide +kernel) (fun _ hc8_ => ?_)
  replace hc8_ : cb r6_ := hc8_
  refine g_st (st2 := [(0, r6_)]) rfl ?_
  refine g_if_eq C (off := 17) (tgt := 21) (c32_cb hc8_) (by decide +kernel) (by decide) (fun hc9_ => ?_) (fun hc9_ => ?_)
  · replace h := ite_t hc9_ h
    refine g_sub (lo2 := [(2, 0), (9, 0), (9, 0), (9, 0), (9, 0)]) (lsb_v (lsb_c (lsb_c (lsb_c (lsb_c lsb_e))))) ?_
    exact ok_Mo_split_b21 C hlk hr d5_  h
  · replace h := ite_f hc9_ h
    refine g_iload_n C 2 rfl (by decide +kernel) ?_
    obtain ⟨r11_, d10_, hr12_, h⟩ := bd_some h
    refine g_callS C mw_Mo_isDay [(0, p2)] (ok_Mo_isDay p2 d5_ hp2 hr12_) (ix := 340) lk_1815 lk_1816 ⟨rfl, rfl, Nat.le_of_ble_eq_true rfl, Nat.le_of_ble_eq_true rfl⟩ rfl (rest := []) rfl (Nat.le_of_ble_eq_true rfl) ⟨Nat.zero_le _, Nat.zero_le _⟩ (by decide +kernel) (fun _ hc13_ => ?_)
    replace hc13_ : cb r11_ := hc13_
    refine g_st (st2 := [(0, r11_)]) rfl ?_
    refine g_if_eq C (off := 10) (tgt := 21) (c32_cb hc13_) (by decide +kernel) (by decide) (fun hc14_ => ?_) (fun hc14_ => ?_)
    · replace h := ite_t hc14_ h
      refine g_sub (lo2 := [(2, 0), (9, 0), (9, 0), (9, 0), (9, 0)]) (lsb_v (lsb_c (lsb_c (lsb_c (lsb_c lsb_e))))) ?_
      exact ok_Mo_split_b21 C hlk hr d10_  h
    · replace h := ite_f hc14_ h
      refine g_iload_n C 3 rfl (by decide +kernel) ?_
      obtain ⟨r16_, d15_, hr17_, h⟩ := bd_some h
      refine g_callS C mw_Mo_isDay [(0, p3)] (ok_Mo_isDay p3 d10_ hp3 hr17_) (ix := 340) lk_1815 lk_1816 ⟨rfl, rfl, Nat.le_of_ble_eq_true rfl, Nat.le_of_ble_eq_true rfl⟩ rfl (rest := []) rfl (Nat.le_of_ble_eq_true rfl) ⟨Nat.zero_le _, Nat.zero_le _⟩ (by decide +kernel) (fun _ hc18_ => ?_)
      replace hc18_ : cb r16_ := hc18_
      refine g_st (st2 := [(0, r16_)]) rfl ?_
      refine g_if_ne C (off := 9) (tgt := 27) (c32_cb hc18_) (by decide +kernel) (by decide) (fun hc19_ => ?_) (fun hc19_ => ?_)
      · replace h := ite_t hc19_ h
        refine g_sub (lo2 := [(2, 0), (9, 0), (9, 0), (9, 0), (9, 0)]) (lsb_v (lsb_c (lsb_c (lsb_c (lsb_c lsb_e))))) ?_
        exact ok_Mo_split_b21 C hlk hr d15_  h
      · replace h := ite_f hc19_ h
        refine g_aload_n C 0 rfl (by decide +kernel) ?_
        refine g_aload_n C 0 rfl (by decide +kernel) ?_
        refine g_getI C cl12 0 9 rfl cd_B0 ⟨by decide, rfl, by decide⟩ rfl (nB (by decide)) (ix := 350) lk_1411 (by decide +kernel) (fun hc20_ => ?_)
        refine g_bipush C 30 (by decide) (by decide +kernel) ?_
        refine g_iload_n C 3 rfl (by decide +kernel) ?_
        obtain ⟨r22_, d21_, hr23_, h⟩ := bd_some h
        refine g_callV C mw_Mo_wrongTelling [(0, (d15_ 0 9)), (0, 30), (0, p3)] 0 cl12 rfl (ok_Mo_wrongTelling (d15_ 0 9) 30 p3 d15_ hc20_ (cK rfl) hp3 hr23_) cd_B0 (by decide) (nB (by decide)) (ix := 346) lk_1818 lk_1820 lkp_63 ⟨rfl, rfl, Nat.le_of_ble_eq_true rfl, Nat.le_of_ble_eq_true rfl⟩ rfl (rest := []) rfl (Nat.le_of_ble_eq_true rfl) ⟨Nat.zero_le _, Nat.zero_le _⟩ (by decide +kernel) (fun _ hc24_ => ?_)
        replace hc24_ : c32 r22_ := hc24_
        refine g_st (st2 := [(0, r22_)]) rfl ?_
        refine s_istore C 4 (lo' := [(2, 0), (0, p1), (0, p2), (0, p3), (0, r22_)]) (by decide) (s1k (s1k (s1k (s1n (by decide) s1z)))) (by decide +kernel) ?_
        refine g_iload C 4 rfl (by decide +kernel) ?_
        refine g_if_le C (off := 10) (tgt := 52) hc24_ (by decide +kernel) (by decide) (fun hc25_ => ?_) (fun hc25_ => ?_)
        · replace h := ite_t hc25_ h
          refine g_aload_n C 0 rfl (by decide +kernel) ?_
          refine g_iload C 4 rfl (by decide +kernel) ?_
          obtain ⟨r27_, d26_, hr28_, h⟩ := bd_some h
          refine g_callV C mw_Mo_is [(0, r22_)] 0 cl12 rfl (ok_Mo_is r22_ d21_ hc24_ hr28_) cd_B0 (by decide) (nB (by decide)) (ix := 276) lk_1741 lk_1743 lkp_57 ⟨rfl, rfl, Nat.le_of_ble_eq_true rfl, Nat.le_of_ble_eq_true rfl⟩ rfl (rest := []) rfl (Nat.le_of_ble_eq_true rfl) ⟨Nat.zero_le _, Nat.zero_le _⟩ (by decide +kernel) (fun _ hc29_ => ?_)
          replace hc29_ : cb r27_ := hc29_
          refine g_st (st2 := [(0, r27_)]) rfl ?_
          obtain ⟨rfl, rfl⟩ := ret_inj h
          exact g_zret C hc29_ hlk hr (by decide +kernel)
        · replace h := ite_f hc25_ h
          refine g_aload_n C 0 rfl (by decide +kernel) ?_
          refine g_iload_n C 3 rfl (by decide +kernel) ?_
          refine g_putI C cl12 0 11 hp3 rfl cd_B0 ⟨by decide, rfl, by decide⟩ rfl (nB (by decide)) (ix := 328) lk_1413 rfl rfl (by decide +kernel) ?_
          refine g_aload_n C 0 rfl (by decide +kernel) ?_
          refine g_getR C cl12 0 22 16 rfl cd_B0 ⟨by decide, rfl, by decide⟩ rfl rfl (nB (by decide)) (ix := 60) lk_1424 (by decide +kernel) ?_
          refine g_aload_n C 0 rfl (by decide +kernel) ?_
          refine g_getI C cl12 0 9 rfl cd_B0 ⟨by decide, rfl, by decide⟩ rfl (nB (by decide)) (ix := 350) lk_1411 (by decide +kernel) (fun hc30_ => ?_)
          refine g_val (y := (d21_ 0 9)) rfl ?_
          replace hc30_ : c32 (d21_ 0 9) := hc30_
          refine g_iload_n C 1 rfl (by decide +kernel) ?_
          obtain ⟨hb31_, h⟩ := ck_some h
          refine g_iast C 16 hp1 hc30_ rfl cd_B16 (nB (by decide)) hb31_ (by decide +kernel) ?_
          refine g_aload_n C 0 rfl (by decide +kernel) ?_
          refine g_getR C cl12 0 23 17 rfl cd_B0 ⟨by decide, rfl, by decide⟩ rfl rfl (nB (by decide)) (ix := 63) lk_1425 (by decide +kernel) ?_
          refine g_aload_n C 0 rfl (by decide +kernel) ?_
          refine g_getI C cl12 0 9 rfl cd_B0 ⟨by decide, rfl, by decide⟩ rfl (nB (by decide)) (ix := 350) lk_1411 (by decide +kernel) (fun hc32_ => ?_)
          refine g_val (y := (d21_ 0 9)) rfl ?_
          replace hc32_ : c32 (d21_ 0 9) := hc32_
          refine g_iload_n C 2 rfl (by decide +kernel) ?_
          obtain ⟨hb33_, h⟩ := ck_some h
          refine g_iast C 17 hp2 hc32_ rfl cd_B17 (nB (by decide)) hb33_ (by decide +kernel) ?_
          refine g_aload_n C 0 rfl (by decide +kernel) ?_
          refine g_getR C cl12 0 24 18 rfl cd_B0 ⟨by decide, rfl, by decide⟩ rfl rfl (nB (by decide)) (ix := 66) lk_1426 (by decide +kernel) ?_
          refine g_aload_n C 0 rfl (by decide +kernel) ?_
          refine g_getI C cl12 0 9 rfl cd_B0 ⟨by decide, rfl, by decide⟩ rfl (nB (by decide)) (ix := 350) lk_1411 (by decide +kernel) (fun hc34_ => ?_)
          refine g_val (y := (d21_ 0 9)) rfl ?_
          replace hc34_ : c32 (d21_ 0 9) := hc34_
          refine g_iload_n C 3 rfl (by decide +kernel) ?_
          obtain ⟨hb35_, h⟩ := ck_some h
          refine g_iast C 18 hp3 hc34_ rfl cd_B18 (nB (by decide)) hb35_ (by decide +kernel) ?_
          refine g_aload_n C 0 rfl (by decide +kernel) ?_
          refine g_dup C tg2 (by decide +kernel) ?_
          refine g_getI C cl12 0 9 rfl cd_B0 ⟨by decide, rfl, by decide⟩ rfl (nB (by decide)) (ix := 350) lk_1411 (by decide +kernel) (fun hc36_ => ?_)
          refine g_val (y := (d21_ 0 9)) rfl ?_
          replace hc36_ : c32 (d21_ 0 9) := hc36_
          refine g_iconst C 1 (cK rfl) (by decide +kernel) ?_
          refine g_iadd C (by decide +kernel) ?_
          refine g_putI C cl12 0 9 (w32_c _) rfl cd_B0 ⟨by decide, rfl, by decide⟩ rfl (nB (by decide)) (ix := 350) lk_1411 rfl rfl (by decide +kernel) ?_
          refine g_aload_n C 0 rfl (by decide +kernel) ?_
          refine g_iconst C 0 (cK rfl) (by decide +kernel) ?_
          obtain ⟨r38_, d37_, hr39_, h⟩ := bd_some h
          refine g_callV C mw_Mo_is [(0, 0)] 0 cl12 rfl (ok_Mo_is 0 (up2 (up2 (up2 (up2 (up2 d21_ 0 11 p3) 16 ((d21_ 0 9)).toNat p1) 17 ((d21_ 0 9)).toNat p2) 18 ((d21_ 0 9)).toNat p3) 0 9 (w32 ((d21_ 0 9) + 1))) (c32_cb (Or.inl rfl)) hr39_) cd_B0 (by decide) (nB (by decide)) (ix := 276) lk_1741 lk_1743 lkp_57 ⟨rfl, rfl, Nat.le_of_ble_eq_true rfl, Nat.le_of_ble_eq_true rfl⟩ rfl (rest := []) rfl (Nat.le_of_ble_eq_true rfl) ⟨Nat.zero_le _, Nat.zero_le _⟩ (by decide +kernel) (fun _ hc40_ => ?_)
          replace hc40_ : cb r38_ := hc40_
          refine g_st (st2 := [(0, r38_)]) rfl ?_
          obtain ⟨rfl, rfl⟩ := ret_inj h
          exact g_zret C hc40_ hlk hr (by decide +kernel)
/-! PollBooksModel.pay(IIIZI)Z -/
def y_Mo_pay : MethodName := ⟨"PollBooksModel", "pay", "(IIIZI)Z"⟩
def rm_Mo_pay : Room := { frames := 1, cells := 0, slots := 0, locals := 23 }
theorem mw_Mo_pay : MW y_Mo_pay prog_14_method_30_code 7 (some .boolean) 5 := ⟨lk_1829, lk_14, by decide +kernel⟩
def L_Mo_pay_b30 (d : Dt) : Option (Int × Dt) :=
  bd (L_Mo_is 1 d) (fun r2_ d1_ => some (r2_, d1_))
def L_Mo_pay (p1 p2 p3 p4 p5 : Int) (d : Dt) : Option (Int × Dt) :=
  bd (L_Mo_isPerson p1 d) (fun r6_ d5_ => if r6_ = 0 then L_Mo_pay_b30 d5_ else bd (L_Mo_areShillings p2 d5_) (fun r11_ d10_ => if r11_ = 0 then L_Mo_pay_b30 d10_ else bd (L_Mo_isDay p3 d10_) (fun r16_ d15_ => if r16_ = 0 then L_Mo_pay_b30 d15_ else bd (L_Mo_isDay p5 d15_) (fun r21_ d20_ => if r21_ = 0 then L_Mo_pay_b30 d20_ else bd (L_Mo_wrongTelling (d20_ 0 10) 60 p5 d20_) (fun r27_ d26_ => if 0 < r27_ then bd (L_Mo_is r27_ d26_) (fun r32_ d31_ => some (r32_, d31_)) else ck ((0 : Int) ≤ (d26_ 0 10) ∧ (d26_ 0 10) < 60) (ck ((0 : Int) ≤ (d26_ 0 10) ∧ (d26_ 0 10) < 60) (ck ((0 : Int) ≤ (d26_ 0 10) ∧ (d26_ 0 10) < 60) (ck ((0 : Int) ≤ (d26_ 0 10) ∧ (d26_ 0 10) < 60) (ck ((0 : Int) ≤ (d26_ 0 10) ∧ (d26_ 0 10) < 60) (bd (L_Mo_is 0 (up2 (up2 (up2 (up2 (up2 (up2 (up2 d26_ 0 11 p5) 19 ((d26_ 0 10)).toNat p1) 20 ((d26_ 0 10)).toNat p2) 21 ((d26_ 0 10)).toNat p3) 23 ((d26_ 0 10)).toNat p4) 22 ((d26_ 0 10)).toNat p5) 0 10 (w32 ((d26_ 0 10) + 1)))) (fun r47_ d46_ => some (r47_, d46_))))))))))))
set_option maxHeartbeats 4000000 in
theorem ok_Mo_pay_b30 {p : Program} {l : Launch} {e : Env} {s : State} {m : MethodId} {args : Array Value} {below : List Frame} {meth : Method} {c : Code} {D : va_G} {cA : Nat → ClassId} {ad : Nat → Nat} {A : Nat → Prop} (C : Cx p s m args c prog_14_method_30_code 7 "PollBooksModel" D cA ad 1 A) (hlk : meth.locks = false) (hr : meth.sig.returnType = (some .boolean)) {r : Int} {d' : Dt} (d : Dt)  (h : L_Mo_pay_b30 d = some (r, d')) : G p l e rm_Mo_pay s m args below meth c 0 0 (MQ below (fun _ => QC D cA ad 1 A (some .boolean) (some (0, r)) d') args s 0 0 A) 7 D cA ad 1 A 30 [(2, 0), (9, 0), (9, 0), (9, 0), (9, 0), (9, 0), (9, 0)] [] d := by
  unfold L_Mo_pay_b30 at h
  refine g_aload_n C 0 rfl (by decide +kernel) ?_
  refine g_iconst C 1 (cK rfl) (by decide +kernel) ?_
  obtain ⟨r2_, d1_, hr3_, h⟩ := bd_some h
  refine g_callV C mw_Mo_is [(0, 1)] 0 cl12 rfl (ok_Mo_is 1 d (c32_cb (Or.inr rfl)) hr3_) cd_B0 (by decide) (nB (by decide)) (ix := 276) lk_1741 lk_1743 lkp_57 ⟨rfl, rfl, Nat.le_of_ble_eq_true rfl, Nat.le_of_ble_eq_true rfl⟩ rfl (rest := []) rfl (Nat.le_of_ble_eq_true rfl) ⟨Nat.zero_le _, Nat.zero_le _⟩ (by decide +kernel) (fun _ hc4_ => ?_)
  replace hc4_ : cb r2_ := hc4_
  refine g_st (st2 := [(0, r2_)]) rfl ?_
  obtain ⟨rfl, rfl⟩ := ret_inj h
  exact g_zret C hc4_ hlk hr (by decide +kernel)
set_option maxHeartbeats 4000000 in
theorem ok_Mo_pay {l : Launch} {r : Int} {d' : Dt} (p1 p2 p3 p4 p5 : Int) (d : Dt) (hp1 : c32 p1) (hp2 : c32 p2) (hp3 : c32 p3) (hp4 : cb p4) (hp5 : c32 p5) (h : L_Mo_pay p1 p2 p3 p4 p5 d = some (r, d')) : MC l y_Mo_pay prog_14_method_30_code 7 (some .boolean) rm_Mo_pay 1 [(2, 0), (0, p1), (0, p2), (0, p3), (0, p4), (0, p5)] d (some (0, r)) d' := by
  refine MC.of (by decide) (Nat.le_of_ble_eq_true rfl) ?_
  intro p e s m args below meth c D cA ad A C hlk hr
  replace C : Cx p s m args c prog_14_method_30_code 7 "PollBooksModel" D cA ad 1 A := C
  show G p l e rm_Mo_pay s m args below meth c 0 0 (MQ below (fun _ => QC D cA ad 1 A (some .boolean) (some (0, r)) d') args s 0 0 A) 7 D cA ad 1 A 0 [(2, 0), (0, p1), (0, p2), (0, p3), (0, p4), (0, p5)] [] d
  refine g_sub (lo2 := [(2, 0), (0, p1), (0, p2), (0, p3), (0, p4), (0, p5), (9, 0)]) (lsb_v (lsb_v (lsb_v (lsb_v (lsb_v (lsb_v (lsb_n lsb_e))))))) ?_
  unfold L_Mo_pay at h
  refine g_aload_n C 0 rfl (by decide +kernel) ?_
  refine g_iload_n C 1 rfl (by decide +kernel) ?_
  obtain ⟨r6_, d5_, hr7_, h⟩ := bd_some h
  refine g_callV C mw_Mo_isPerson [(0, p1)] 0 cl12 rfl (ok_Mo_isPerson p1 d hp1 hr7_) cd_B0 (by decide) (nB (by decide)) (ix := 331) lk_1805 lk_1807 lkp_62 ⟨rfl, rfl, Nat.le_of_ble_eq_true rfl, Nat.le_of_ble_eq_true rfl⟩ rfl (rest := []) rfl (Nat.le_of_ble_eq_true rfl) ⟨Nat.zero_le _, Nat.zero_le _⟩ (by decide +kernel) (fun _ hc8_ => ?_)
  replace hc8_ : cb r6_ := hc8_
  refine g_st (st2 := [(0, r6_)]) rfl ?_
  refine g_if_eq C (off := 25) (tgt := 30) (c32_cb hc8_) (by decide +kernel) (by decide) (fun hc9_ => ?_) (fun hc9_ => ?_)
  · replace h := ite_t hc9_ h
    refine g_sub (lo2 := [(2, 0), (9, 0), (9, 0), (9, 0), (9, 0), (9, 0), (9, 0)]) (lsb_v (lsb_c (lsb_c (lsb_c (lsb_c (lsb_c (lsb_c lsb_e))))))) ?_
    exact ok_Mo_pay_b30 C hlk hr d5_  h
  · replace h := ite_f hc9_ h
    refine g_iload_n C 2 rfl (by decide +kernel) ?_
    obtain ⟨r11_, d10_, hr12_, h⟩ := bd_some h
    refine g_callS C mw_Mo_areShillings [(0, p2)] (ok_Mo_areShillings p2 d5_ hp2 hr12_) (ix := 337) lk_1812 lk_1813 ⟨rfl, rfl, Nat.le_of_ble_eq_true rfl, Nat.le_of_ble_eq_true rfl⟩ rfl (rest := []) rfl (Nat.le_of_ble_eq_true rfl) ⟨Nat.zero_le _, Nat.zero_le _⟩ (by decide +kernel) (fun _ hc13_ => ?_)
    replace hc13_ : cb r11_ := hc13_
    refine g_st (st2 := [(0, r11_)]) rfl ?_
    refine g_if_eq C (off := 18) (tgt := 30) (c32_cb hc13_) (by decide +kernel) (by decide) (fun hc14_ => ?_) (fun hc14_ => ?_)
    · replace h := ite_t hc14_ h
      refine g_sub (lo2 := [(2, 0), (9, 0), (9, 0), (9, 0), (9, 0), (9, 0), (9, 0)]) (lsb_v (lsb_c (lsb_c (lsb_c (lsb_c (lsb_c (lsb_c lsb_e))))))) ?_
      exact ok_Mo_pay_b30 C hlk hr d10_  h
    · replace h := ite_f hc14_ h
      refine g_iload_n C 3 rfl (by decide +kernel) ?_
      obtain ⟨r16_, d15_, hr17_, h⟩ := bd_some h
      refine g_callS C mw_Mo_isDay [(0, p3)] (ok_Mo_isDay p3 d10_ hp3 hr17_) (ix := 340) lk_1815 lk_1816 ⟨rfl, rfl, Nat.le_of_ble_eq_true rfl, Nat.le_of_ble_eq_true rfl⟩ rfl (rest := []) rfl (Nat.le_of_ble_eq_true rfl) ⟨Nat.zero_le _, Nat.zero_le _⟩ (by decide +kernel) (fun _ hc18_ => ?_)
      replace hc18_ : cb r16_ := hc18_
      refine g_st (st2 := [(0, r16_)]) rfl ?_
      refine g_if_eq C (off := 11) (tgt := 30) (c32_cb hc18_) (by decide +kernel) (by decide) (fun hc19_ => ?_) (fun hc19_ => ?_)
      · replace h := ite_t hc19_ h
        refine g_sub (lo2 := [(2, 0), (9, 0), (9, 0), (9, 0), (9, 0), (9, 0), (9, 0)]) (lsb_v (lsb_c (lsb_c (lsb_c (lsb_c (lsb_c (lsb_c lsb_e))))))) ?_
        exact ok_Mo_pay_b30 C hlk hr d15_  h
      · replace h := ite_f hc19_ h
        refine g_iload C 5 rfl (by decide +kernel) ?_
        obtain ⟨r21_, d20_, hr22_, h⟩ := bd_some h
        refine g_callS C mw_Mo_isDay [(0, p5)] (ok_Mo_isDay p5 d15_ hp5 hr22_) (ix := 340) lk_1815 lk_1816 ⟨rfl, rfl, Nat.le_of_ble_eq_true rfl, Nat.le_of_ble_eq_true rfl⟩ rfl (rest := []) rfl (Nat.le_of_ble_eq_true rfl) ⟨Nat.zero_le _, Nat.zero_le _⟩ (by decide +kernel) (fun _ hc23_ => ?_)
        replace hc23_ : cb r21_ := hc23_
        refine g_st (st2 := [(0, r21_)]) rfl ?_
        refine g_if_ne C (off := 9) (tgt := 36) (c32_cb hc23_) (by decide +kernel) (by decide) (fun hc24_ => ?_) (fun hc24_ => ?_)
        · replace h := ite_t hc24_ h
          refine g_sub (lo2 := [(2, 0), (9, 0), (9, 0), (9, 0), (9, 0), (9, 0), (9, 0)]) (lsb_v (lsb_c (lsb_c (lsb_c (lsb_c (lsb_c (lsb_c lsb_e))))))) ?_
          exact ok_Mo_pay_b30 C hlk hr d20_  h
        · replace h := ite_f hc24_ h
          refine g_aload_n C 0 rfl (by decide +kernel) ?_
          refine g_aload_n C 0 rfl (by decide +kernel) ?_
          refine g_getI C cl12 0 10 rfl cd_B0 ⟨by decide, rfl, by decide⟩ rfl (nB (by decide)) (ix := 353) lk_1412 (by decide +kernel) (fun hc25_ => ?_)
          refine g_bipush C 60 (by decide) (by decide +kernel) ?_
          refine g_iload C 5 rfl (by decide +kernel) ?_
          obtain ⟨r27_, d26_, hr28_, h⟩ := bd_some h
          refine g_callV C mw_Mo_wrongTelling [(0, (d20_ 0 10)), (0, 60), (0, p5)] 0 cl12 rfl (ok_Mo_wrongTelling (d20_ 0 10) 60 p5 d20_ hc25_ (cK rfl) hp5 hr28_) cd_B0 (by decide) (nB (by decide)) (ix := 346) lk_1818 lk_1820 lkp_63 ⟨rfl, rfl, Nat.le_of_ble_eq_true rfl, Nat.le_of_ble_eq_true rfl⟩ rfl (rest := []) rfl (Nat.le_of_ble_eq_true rfl) ⟨Nat.zero_le _, Nat.zero_le _⟩ (by decide +kernel) (fun _ hc29_ => ?_)
          replace hc29_ : c32 r27_ := hc29_
          refine g_st (st2 := [(0, r27_)]) rfl ?_
          refine s_istore C 6 (lo' := [(2, 0), (0, p1), (0, p2), (0, p3), (0, p4), (0, p5), (0, r27_)]) (by decide) (s1k (s1k (s1k (s1k (s1k (s1n (by decide) s1z)))))) (by decide +kernel) ?_
          refine g_iload C 6 rfl (by decide +kernel) ?_
          refine g_if_le C (off := 10) (tgt := 62) hc29_ (by decide +kernel) (by decide) (fun hc30_ => ?_) (fun hc30_ => ?_)
          · replace h := ite_t hc30_ h
            refine g_aload_n C 0 rfl (by decide +kernel) ?_
            refine g_iload C 6 rfl (by decide +kernel) ?_
            obtain ⟨r32_, d31_, hr33_, h⟩ := bd_some h
            refine g_callV C mw_Mo_is [(0, r27_)] 0 cl12 rfl (ok_Mo_is r27_ d26_ hc29_ hr33_) cd_B0 (by decide) (nB (by decide)) (ix := 276) lk_1741 lk_1743 lkp_57 ⟨rfl, rfl, Nat.le_of_ble_eq_true rfl, Nat.le_of_ble_eq_true rfl⟩ rfl (rest := []) rfl (Nat.le_of_ble_eq_true rfl) ⟨Nat.zero_le _, Nat.zero_le _⟩ (by decide +kernel) (fun _ hc34_ => ?_)
            replace hc34_ : cb r32_ := hc34_
            refine g_st (st2 := [(0, r32_)]) rfl ?_
            obtain ⟨rfl, rfl⟩ := ret_inj h
            exact g_zret C hc34_ hlk hr (by decide +kernel)
          · replace h := ite_f hc30_ h
            refine g_aload_n C 0 rfl (by decide +kernel) ?_
            refine g_iload C 5 rfl (by decide +kernel) ?_
            refine g_putI C cl12 0 11 hp5 rfl cd_B0 ⟨by decide, rfl, by decide⟩ rfl (nB (by decide)) (ix := 328) lk_1413 rfl rfl (by decide +kernel) ?_
            refine g_aload_n C 0 rfl (by decide +kernel) ?_
            refine g_getR C cl12 0 25 19 rfl cd_B0 ⟨by decide, rfl, by decide⟩ rfl rfl (nB (by decide)) (ix := 69) lk_1427 (by decide +kernel) ?_
            refine g_aload_n C 0 rfl (by decide +kernel) ?_
            refine g_getI C cl12 0 10 rfl cd_B0 ⟨by decide, rfl, by decide⟩ rfl (nB (by decide)) (ix := 353) lk_1412 (by decide +kernel) (fun hc35_ => ?_)
            refine g_val (y := (d26_ 0 10)) rfl ?_
            replace hc35_ : c32 (d26_ 0 10) := hc35_
            refine g_iload_n C 1 rfl (by decide +kernel) ?_
            obtain ⟨hb36_, h⟩ := ck_some h
            refine g_iast C 19 hp1 hc35_ rfl cd_B19 (nB (by decide)) hb36_ (by decide +kernel) ?_
            refine g_aload_n C 0 rfl (by decide +kernel) ?_
            refine g_getR C cl12 0 26 20 rfl cd_B0 ⟨by decide, rfl, by decide⟩ rfl rfl (nB (by decide)) (ix := 72) lk_1428 (by decide +kernel) ?_
            refine g_aload_n C 0 rfl (by decide +kernel) ?_
            refine g_getI C cl12 0 10 rfl cd_B0 ⟨by decide, rfl, by decide⟩ rfl (nB (by decide)) (ix := 353) lk_1412 (by decide +kernel) (fun hc37_ => ?_)
            refine g_val (y := (d26_ 0 10)) rfl ?_
            replace hc37_ : c32 (d26_ 0 10) := hc37_
            refine g_iload_n C 2 rfl (by decide +kernel) ?_
            obtain ⟨hb38_, h⟩ := ck_some h
            refine g_iast C 20 hp2 hc37_ rfl cd_B20 (nB (by decide)) hb38_ (by decide +kernel) ?_
            refine g_aload_n C 0 rfl (by decide +kernel) ?_
            refine g_getR C cl12 0 27 21 rfl cd_B0 ⟨by decide, rfl, by decide⟩ rfl rfl (nB (by decide)) (ix := 75) lk_1429 (by decide +kernel) ?_
            refine g_aload_n C 0 rfl (by decide +kernel) ?_
            refine g_getI C cl12 0 10 rfl cd_B0 ⟨by decide, rfl, by decide⟩ rfl (nB (by decide)) (ix := 353) lk_1412 (by decide +kernel) (fun hc39_ => ?_)
            refine g_val (y := (d26_ 0 10)) rfl ?_
            replace hc39_ : c32 (d26_ 0 10) := hc39_
            refine g_iload_n C 3 rfl (by decide +kernel) ?_
            obtain ⟨hb40_, h⟩ := ck_some h
            refine g_iast C 21 hp3 hc39_ rfl cd_B21 (nB (by decide)) hb40_ (by decide +kernel) ?_
            refine g_aload_n C 0 rfl (by decide +kernel) ?_
            refine g_getR C cl12 0 29 23 rfl cd_B0 ⟨by decide, rfl, by decide⟩ rfl rfl (nB (by decide)) (ix := 81) lk_1431 (by decide +kernel) ?_
            refine g_aload_n C 0 rfl (by decide +kernel) ?_
            refine g_getI C cl12 0 10 rfl cd_B0 ⟨by decide, rfl, by decide⟩ rfl (nB (by decide)) (ix := 353) lk_1412 (by decide +kernel) (fun hc41_ => ?_)
            refine g_val (y := (d26_ 0 10)) rfl ?_
            replace hc41_ : c32 (d26_ 0 10) := hc41_
            refine g_iload C 4 rfl (by decide +kernel) ?_
            obtain ⟨hb42_, h⟩ := ck_some h
            refine g_zast C 23 hp4 hc41_ rfl cd_B23 (nB (by decide)) hb42_ (by decide +kernel) ?_
            refine g_aload_n C 0 rfl (by decide +kernel) ?_
            refine g_getR C cl12 0 28 22 rfl cd_B0 ⟨by decide, rfl, by decide⟩ rfl rfl (nB (by decide)) (ix := 78) lk_1430 (by decide +kernel) ?_
            refine g_aload_n C 0 rfl (by decide +kernel) ?_
            refine g_getI C cl12 0 10 rfl cd_B0 ⟨by decide, rfl, by decide⟩ rfl (nB (by decide)) (ix := 353) lk_1412 (by decide +kernel) (fun hc43_ => ?_)
            refine g_val (y := (d26_ 0 10)) rfl ?_
            replace hc43_ : c32 (d26_ 0 10) := hc43_
            refine g_iload C 5 rfl (by decide +kernel) ?_
            obtain ⟨hb44_, h⟩ := ck_some h
            refine g_iast C 22 hp5 hc43_ rfl cd_B22 (nB (by decide)) hb44_ (by decide +kernel) ?_
            refine g_aload_n C 0 rfl (by decide +kernel) ?_
            refine g_dup C tg2 (by decide +kernel) ?_
            refine g_getI C cl12 0 10 rfl cd_B0 ⟨by decide, rfl, by decide⟩ rfl (nB (by decide)) (ix := 353) lk_1412 (by decide +kernel) (fun hc45_ => ?_)
            refine g_val (y := (d26_ 0 10)) rfl ?_
            replace hc45_ : c32 (d26_ 0 10) := hc45_
            refine g_iconst C 1 (cK rfl) (by decide +kernel) ?_
            refine g_iadd C (by decide +kernel) ?_
            refine g_putI C cl12 0 10 (w32_c _) rfl cd_B0 ⟨by decide, rfl, by decide⟩ rfl (nB (by decide)) (ix := 353) lk_1412 rfl rfl (by decide +kernel) ?_
            refine g_aload_n C 0 rfl (by decide +kernel) ?_
            refine g_iconst C 0 (cK rfl) (by decide +kernel) ?_
            obtain ⟨r47_, d46_, hr48_, h⟩ := bd_some h
            refine g_callV C mw_Mo_is [(0, 0)] 0 cl12 rfl (ok_Mo_is 0 (up2 (up2 (up2 (up2 (up2 (up2 (up2 d26_ 0 11 p5) 19 ((d26_ 0 10)).toNat p1) 20 ((d26_ 0 10)).toNat p2) 21 ((d26_ 0 10)).toNat p3) 23 ((d26_ 0 10)).toNat p4) 22 ((d26_ 0 10)).toNat p5) 0 10 (w32 ((d26_ 0 10) + 1))) (c32_cb (Or.inl rfl)) hr48_) cd_B0 (by decide) (nB (by decide)) (ix := 276) lk_1741 lk_1743 lkp_57 ⟨rfl, rfl, Nat.le_of_ble_eq_true rfl, Nat.le_of_ble_eq_true rfl⟩ rfl (rest := []) rfl (Nat.le_of_ble_eq_true rfl) ⟨Nat.zero_le _, Nat.zero_le _⟩ (by decide +kernel) (fun _ hc49_ => ?_)
            replace hc49_ : cb r47_ := hc49_
            refine g_st (st2 := [(0, r47_)]) rfl ?_
            obtain ⟨rfl, rfl⟩ := ret_inj h
            exact g_zret C hc49_ hlk hr (by decide +kernel)
/-! PollBooksModel.asof(I)Z -/
def y_Mo_asof : MethodName := ⟨"PollBooksModel", "asof", "(I)Z"⟩
def rm_Mo_asof : Room := { frames := 1, cells := 0, slots := 0, locals := 21 }
theorem mw_Mo_asof : MW y_Mo_asof prog_14_method_31_code 2 (some .boolean) 1 := ⟨lk_1833, lk_14, by decide +kernel⟩
def L_Mo_asof (p1 : Int) (d : Dt) : Option (Int × Dt) :=
  bd (L_Mo_isDay p1 d) (fun r2_ d1_ => if r2_ = 0 then bd (L_Mo_is 1 d1_) (fun r7_ d6_ => some (r7_, d6_)) else bd (L_Mo_is 0 (up2 d1_ 0 12 p1)) (fun r11_ d10_ => some (r11_, d10_)))
set_option maxHeartbeats 4000000 in
theorem ok_Mo_asof {l : Launch} {r : Int} {d' : Dt} (p1 : Int) (d : Dt) (hp1 : c32 p1) (h : L_Mo_asof p1 d = some (r, d')) : MC l y_Mo_asof prog_14_method_31_code 2 (some .boolean) rm_Mo_asof 1 [(2, 0), (0, p1)] d (some (0, r)) d' := by
  refine MC.of (by decide) (Nat.le_of_ble_eq_true rfl) ?_
  intro p e s m args below meth c D cA ad A C hlk hr
  replace C : Cx p s m args c prog_14_method_31_code 2 "PollBooksModel" D cA ad 1 A := C
  show G p l e rm_Mo_asof s m args below meth c 0 0 (MQ below (fun _ => QC D cA ad 1 A (some .boolean) (some (0, r)) d') args s 0 0 A) 2 D cA ad 1 A 0 [(2, 0), (0, p1)] [] d
  refine g_sub (lo2 := [(2, 0), (0, p1)]) (lsb_v (lsb_v lsb_e)) ?_
  unfold L_Mo_asof at h
  refine g_iload_n C 1 rfl (by decide +kernel) ?_
  obtain ⟨r2_, d1_, hr3_, h⟩ := bd_some h
  refine g_callS C mw_Mo_isDay [(0, p1)] (ok_Mo_isDay p1 d hp1 hr3_) (ix := 340) lk_1815 lk_1816 ⟨rfl, rfl, Nat.le_of_ble_eq_true rfl, Nat.le_of_ble_eq_true rfl⟩ rfl (rest := []) rfl (Nat.le_of_ble_eq_true rfl) ⟨Nat.zero_le _, Nat.zero_le _⟩ (by decide +kernel) (fun _ hc4_ => ?_)
  replace hc4_ : cb r2_ := hc4_
  refine g_st (st2 := [(0, r2_)]) rfl ?_
  refine g_if_ne C (off := 9) (tgt := 13) (c32_cb hc4_) (by decide +kernel) (by decide) (fun hc5_ => ?_) (fun hc5_ => ?_)
  · replace h := ite_t hc5_ h
    refine g_aload_n C 0 rfl (by decide +kernel) ?_
    refine g_iconst C 1 (cK rfl) (by decide +kernel) ?_
    obtain ⟨r7_, d6_, hr8_, h⟩ := bd_some h
    refine g_callV C mw_Mo_is [(0, 1)] 0 cl12 rfl (ok_Mo_is 1 d1_ (c32_cb (Or.inr rfl)) hr8_) cd_B0 (by decide) (nB (by decide)) (ix := 276) lk_1741 lk_1743 lkp_57 ⟨rfl, rfl, Nat.le_of_ble_eq_true rfl, Nat.le_of_ble_eq_true rfl⟩ rfl (rest := []) rfl (Nat.le_of_ble_eq_true rfl) ⟨Nat.zero_le _, Nat.zero_le _⟩ (by decide +kernel) (fun _ hc9_ => ?_)
    replace hc9_ : cb r7_ := hc9_
    refine g_st (st2 := [(0, r7_)]) rfl ?_
    obtain ⟨rfl, rfl⟩ := ret_inj h
    exact g_zret C hc9_ hlk hr (by decide +kernel)
  · replace h := ite_f hc5_ h
    refine g_aload_n C 0 rfl (by decide +kernel) ?_
    refine g_iload_n C 1 rfl (by decide +kernel) ?_
    refine g_putI C cl12 0 12 hp1 rfl cd_B0 ⟨by decide, rfl, by decide⟩ rfl (nB (by decide)) (ix := 29) lk_1414 rfl rfl (by decide +kernel) ?_
    refine g_aload_n C 0 rfl (by decide +kernel) ?_
    refine g_iconst C 0 (cK rfl) (by decide +kernel) ?_
    obtain ⟨r11_, d10_, hr12_, h⟩ := bd_some h
    refine g_callV C mw_Mo_is [(0, 0)] 0 cl12 rfl (ok_Mo_is 0 (up2 d1_ 0 12 p1) (c32_cb (Or.inl rfl)) hr12_) cd_B0 (by decide) (nB (by decide)) (ix := 276) lk_1741 lk_1743 lkp_57 ⟨rfl, rfl, Nat.le_of_ble_eq_true rfl, Nat.le_of_ble_eq_true rfl⟩ rfl (rest := []) rfl (Nat.le_of_ble_eq_true rfl) ⟨Nat.zero_le _, Nat.zero_le _⟩ (by decide +kernel) (fun _ hc13_ => ?_)
    replace hc13_ : cb r11_ := hc13_
    refine g_st (st2 := [(0, r11_)]) rfl ?_
    obtain ⟨rfl, rfl⟩ := ret_inj h
    exact g_zret C hc13_ hlk hr (by decide +kernel)
/-! PollBooksModel.splitSince(II)I -/
def y_Mo_splitSince : MethodName := ⟨"PollBooksModel", "splitSince", "(II)I"⟩
def rm_Mo_splitSince : Room := { frames := 1, cells := 0, slots := 0, locals := 21 }
theorem mw_Mo_splitSince : MW y_Mo_splitSince prog_14_method_32_code 5 (some .int) 2 := ⟨lk_1848, lk_14, by decide +kernel⟩
def L_Mo_splitSince_b66 (x1 x2 x3 x4 : Int) (d : Dt) : Option ((Int × Int × Int × Int × Dt) ⊕ ((Int × Dt))) :=
  some (Sum.inl (x1, x2, x3, (w32 (x4 + 1)), d))
def L_Mo_splitSince_y7 (x1 x2 x3 x4 : Int) (d : Dt) : Option ((Int × Int × Int × Int × Dt) ⊕ ((Int × Dt))) :=
  if x4 < (d 0 9) then ck ((0 : Int) ≤ x4 ∧ x4 < 30) (if (d 16 x4.toNat) = x1 then ck ((0 : Int) ≤ x4 ∧ x4 < 30) (if x2 < (d 17 x4.toNat) then L_Mo_splitSince_b66 x1 x2 x3 x4 d else ck ((0 : Int) ≤ x4 ∧ x4 < 30) (if (d 0 12) < (d 18 x4.toNat) then L_Mo_splitSince_b66 x1 x2 x3 x4 d else ck ((0 : Int) ≤ x4 ∧ x4 < 30) (lt_ (jmin x3 (w32 (x2 - (d 17 x4.toNat)))) (fun v15_ => L_Mo_splitSince_b66 x1 x2 v15_ x4 d)))) else L_Mo_splitSince_b66 x1 x2 x3 x4 d) else some (Sum.inr (x3, d))
def L_Mo_splitSince_l7 (x1 x2 x3 x4 : Int) (d : Dt) : Option ((Int × Dt)) := lpF (fun q : Int × Int × Int × Int × Dt => L_Mo_splitSince_y7 q.1 q.2.1 q.2.2.1 q.2.2.2.1 q.2.2.2.2) FU (x1, x2, x3, x4, d)
def L_Mo_splitSince (p1 p2 : Int) (d : Dt) : Option (Int × Dt) :=
  lb (L_Mo_splitSince_l7 p1 p2 9999 0 d) (fun q23_ => u1 q23_ (fun v20_ d21_ => some (v20_, d21_)))
set_option maxHeartbeats 4000000 in
theorem ok_Mo_splitSince_b66 {p : Program} {l : Launch} {e : Env} {s : State} {m : MethodId} {args : Array Value} {below : List Frame} {meth : Method} {c : Code} {D : va_G} {cA : Nat → ClassId} {ad : Nat → Nat} {A : Nat → Prop} (C : Cx p s m args c prog_14_method_32_code 5 "PollBooksModel" D cA ad 1 A) {Q : State → Prop} {o : (Int × Int × Int × Int × Dt) ⊕ ((Int × Dt))} (x1 x2 x3 x4 : Int) (d : Dt) (hx1 : c32 x1) (hx2 : c32 x2) (hx3 : c32 x3) (hx4 : c32 x4) (h : L_Mo_splitSince_b66 x1 x2 x3 x4 d = some o) (kb : ∀ (y0 y1 y2 y3 : Int) (e' : Dt), o = .inl (y0, y1, y2, y3, e') → c32 y0 → c32 y1 → c32 y2 → c32 y3 → G p l e rm_Mo_splitSince s m args below meth c 0 0 Q 5 D cA ad 1 A 7 [(2, 0), (0, y0), (0, y1), (0, y2), (0, y3)] [] e') (k0 : ∀ (y0 : Int) (e' : Dt), o = .inr (y0, e') → c32 y0 → G p l e rm_Mo_splitSince s m args below meth c 0 0 Q 5 D cA ad 1 A 72 [(9, 0), (9, 0), (9, 0), (0, y0), (9, 0)] [] e') : G p l e rm_Mo_splitSince s m args below meth c 0 0 Q 5 D cA ad 1 A 66 [(2, 0), (0, x1), (0, x2), (0, x3), (0, x4)] [] d := by
  unfold L_Mo_splitSince_b66 at h
  refine s_iinc C 4 1 (lo' := [(2, 0), (0, x1), (0, x2), (0, x3), (0, (w32 (x4 + 1)))]) rfl (by decide) (s1k (s1k (s1k (s1n (by decide) s1z)))) (by decide +kernel) ?_
  refine g_goto C 7 (off := (-62)) (by decide +kernel) (by decide) ?_
  refine g_sub (lo2 := [(2, 0), (0, x1), (0, x2), (0, x3), (0, (w32 (x4 + 1)))]) (lsb_v (lsb_v (lsb_v (lsb_v (lsb_v lsb_e))))) ?_
  obtain rfl := Option.some.inj h
  exact kb x1 x2 x3 (w32 (x4 + 1)) d rfl hx1 hx2 hx3 (w32_c _)
set_option maxHeartbeats 4000000 in
theorem ok_Mo_splitSince_y7 {p : Program} {l : Launch} {e : Env} {s : State} {m : MethodId} {args : Array Value} {below : List Frame} {meth : Method} {c : Code} {D : va_G} {cA : Nat → ClassId} {ad : Nat → Nat} {A : Nat → Prop} (C : Cx p s m args c prog_14_method_32_code 5 "PollBooksModel" D cA ad 1 A) {Q : State → Prop} {o : (Int × Int × Int × Int × Dt) ⊕ ((Int × Dt))} (x1 x2 x3 x4 : Int) (d : Dt) (hx1 : c32 x1) (hx2 : c32 x2) (hx3 : c32 x3) (hx4 : c32 x4) (h : L_Mo_splitSince_y7 x1 x2 x3 x4 d = some o) (kb : ∀ (y0 y1 y2 y3 : Int) (e' : Dt), o = .inl (y0, y1, y2, y3, e') → c32 y0 → c32 y1 → c32 y2 → c32 y3 → G p l e rm_Mo_splitSince s m args below meth c 0 0 Q 5 D cA ad 1 A 7 [(2, 0), (0, y0), (0, y1), (0, y2), (0, y3)] [] e') (k0 : ∀ (y0 : Int) (e' : Dt), o = .inr (y0, e') → c32 y0 → G p l e rm_Mo_splitSince s m args below meth c 0 0 Q 5 D cA ad 1 A 72 [(9, 0), (9, 0), (9, 0), (0, y0), (9, 0)] [] e') : G p l e rm_Mo_splitSince s m args below meth c 0 0 Q 5 D cA ad 1 A 7 [(2, 0), (0, x1), (0, x2), (0, x3), (0, x4)] [] d := by
  unfold L_Mo_splitSince_y7 at h
  refine g_iload C 4 rfl (by decide +kernel) ?_
  refine g_aload_n C 0 rfl (by decide +kernel) ?_
  refine g_getI C cl12 0 9 rfl cd_B0 ⟨by decide, rfl, by decide⟩ rfl (nB (by decide)) (ix := 350) lk_1411 (by decide +kernel) (fun hc1_ => ?_)
  refine g_icmp_ge C (off := 59) (tgt := 72) hx4 hc1_ (by decide +kernel) (by decide) (fun hc2_ => ?_) (fun hc2_ => ?_)
  · replace h := ite_t hc2_ h
    refine g_aload_n C 0 rfl (by decide +kernel) ?_
    refine g_getR C cl12 0 22 16 rfl cd_B0 ⟨by decide, rfl, by decide⟩ rfl rfl (nB (by decide)) (ix := 60) lk_1424 (by decide +kernel) ?_
    refine g_iload C 4 rfl (by decide +kernel) ?_
    obtain ⟨hb3_, h⟩ := ck_some h
    refine g_iald C 16 hx4 rfl cd_B16 (nB (by decide)) hb3_ (by decide +kernel) (fun hc4_ => ?_)
    refine g_iload_n C 1 rfl (by decide +kernel) ?_
    refine g_icmp_ne C (off := 42) (tgt := 66) hc4_ hx1 (by decide +kernel) (by decide) (fun hc5_ => ?_) (fun hc5_ => ?_)
    · replace h := ite_t hc5_ h
      refine g_aload_n C 0 rfl (by decide +kernel) ?_
      refine g_getR C cl12 0 23 17 rfl cd_B0 ⟨by decide, rfl, by decide⟩ rfl rfl (nB (by decide)) (ix := 63) lk_1425 (by decide +kernel) ?_
      refine g_iload C 4 rfl (by decide +kernel) ?_
      obtain ⟨hb6_, h⟩ := ck_some h
      refine g_iald C 17 hx4 rfl cd_B17 (nB (by decide)) hb6_ (by decide +kernel) (fun hc7_ => ?_)
      refine g_iload_n C 2 rfl (by decide +kernel) ?_
      refine g_icmp_gt C (off := 31) (tgt := 66) hc7_ hx2 (by decide +kernel) (by decide) (fun hc8_ => ?_) (fun hc8_ => ?_)
      · replace h := ite_t hc8_ h
        refine g_sub (lo2 := [(2, 0), (0, x1), (0, x2), (0, x3), (0, x4)]) (lsb_v (lsb_v (lsb_v (lsb_v (lsb_v lsb_e))))) ?_
        exact ok_Mo_splitSince_b66 C x1 x2 x3 x4 d hx1 hx2 hx3 hx4 h kb k0
      · replace h := ite_f hc8_ h
        refine g_aload_n C 0 rfl (by decide +kernel) ?_
        refine g_getR C cl12 0 24 18 rfl cd_B0 ⟨by decide, rfl, by decide⟩ rfl rfl (nB (by decide)) (ix := 66) lk_1426 (by decide +kernel) ?_
        refine g_iload C 4 rfl (by decide +kernel) ?_
        obtain ⟨hb9_, h⟩ := ck_some h
        refine g_iald C 18 hx4 rfl cd_B18 (nB (by decide)) hb9_ (by decide +kernel) (fun hc10_ => ?_)
        refine g_aload_n C 0 rfl (by decide +kernel) ?_
        refine g_getI C cl12 0 12 rfl cd_B0 ⟨by decide, rfl, by decide⟩ rfl (nB (by decide)) (ix := 29) lk_1414 (by decide +kernel) (fun hc11_ => ?_)
        refine g_icmp_gt C (off := 17) (tgt := 66) hc10_ hc11_ (by decide +kernel) (by decide) (fun hc12_ => ?_) (fun hc12_ => ?_)
        · replace h := ite_t hc12_ h
          refine g_sub (lo2 := [(2, 0), (0, x1), (0, x2), (0, x3), (0, x4)]) (lsb_v (lsb_v (lsb_v (lsb_v (lsb_v lsb_e))))) ?_
          exact ok_Mo_splitSince_b66 C x1 x2 x3 x4 d hx1 hx2 hx3 hx4 h kb k0
        · replace h := ite_f hc12_ h
          refine g_iload_n C 3 rfl (by decide +kernel) ?_
          refine g_iload_n C 2 rfl (by decide +kernel) ?_
          refine g_aload_n C 0 rfl (by decide +kernel) ?_
          refine g_getR C cl12 0 23 17 rfl cd_B0 ⟨by decide, rfl, by decide⟩ rfl rfl (nB (by decide)) (ix := 63) lk_1425 (by decide +kernel) ?_
          refine g_iload C 4 rfl (by decide +kernel) ?_
          obtain ⟨hb13_, h⟩ := ck_some h
          refine g_iald C 17 hx4 rfl cd_B17 (nB (by decide)) hb13_ (by decide +kernel) (fun hc14_ => ?_)
          refine g_isub C (by decide +kernel) ?_
          refine g_mmin C hx3 (w32_c _) (ix := 299) lk_1782 lk_601 lk_16 lk_602 ⟨Nat.le_of_ble_eq_true rfl, Nat.le_of_ble_eq_true rfl, Nat.zero_le _, Nat.zero_le _⟩ (Nat.le_of_ble_eq_true rfl) (by decide +kernel) ?_
          obtain ⟨v15_, ev16_, h⟩ := lt_some h
          refine g_val ev16_.symm ?_
          have hv17_ : c32 v15_ := by rw [ev16_]; exact (jmin_c hx3 (w32_c _))
          refine s_istore_n C 3 (lo' := [(2, 0), (0, x1), (0, x2), (0, v15_), (0, x4)]) (by decide) (s1k (s1k (s1n (by decide) s1z))) (by decide +kernel) ?_
          refine g_sub (lo2 := [(2, 0), (0, x1), (0, x2), (0, v15_), (0, x4)]) (lsb_v (lsb_v (lsb_v (lsb_v (lsb_v lsb_e))))) ?_
          exact ok_Mo_splitSince_b66 C x1 x2 v15_ x4 d hx1 hx2 hv17_ hx4 h kb k0
    · replace h := ite_f hc5_ h
      refine g_sub (lo2 := [(2, 0), (0, x1), (0, x2), (0, x3), (0, x4)]) (lsb_v (lsb_v (lsb_v (lsb_v (lsb_v lsb_e))))) ?_
      exact ok_Mo_splitSince_b66 C x1 x2 x3 x4 d hx1 hx2 hx3 hx4 h kb k0
  · replace h := ite_f hc2_ h
    refine g_sub (lo2 := [(9, 0), (9, 0), (9, 0), (0, x3), (9, 0)]) (lsb_c (lsb_c (lsb_c (lsb_v (lsb_c lsb_e))))) ?_
    obtain rfl := Option.some.inj h
    exact k0 x3 d rfl hx3
set_option maxHeartbeats 4000000 in
theorem ok_Mo_splitSince_n7 {p : Program} {l : Launch} {e : Env} {s : State} {m : MethodId} {args : Array Value} {below : List Frame} {meth : Method} {c : Code} {D : va_G} {cA : Nat → ClassId} {ad : Nat → Nat} {A : Nat → Prop} (C : Cx p s m args c prog_14_method_32_code 5 "PollBooksModel" D cA ad 1 A) {Q : State → Prop} {x : (Int × Dt)} : ∀ (n : Nat) (x1 x2 x3 x4 : Int) (d : Dt), c32 x1 → c32 x2 → c32 x3 → c32 x4 → lpF (fun q : Int × Int × Int × Int × Dt => L_Mo_splitSince_y7 q.1 q.2.1 q.2.2.1 q.2.2.2.1 q.2.2.2.2) n (x1, x2, x3, x4, d) = some x → (∀ (y0 : Int) (e' : Dt), x = (y0, e') → c32 y0 → G p l e rm_Mo_splitSince s m args below meth c 0 0 Q 5 D cA ad 1 A 72 [(9, 0), (9, 0), (9, 0), (0, y0), (9, 0)] [] e') → G p l e rm_Mo_splitSince s m args below meth c 0 0 Q 5 D cA ad 1 A 7 [(2, 0), (0, x1), (0, x2), (0, x3), (0, x4)] [] d := by
  intro n
  induction n with
  | zero => intro x1 x2 x3 x4 d g0 g1 g2 g3 h k0; cases h
  | succ n ih =>
    intro x1 x2 x3 x4 d g0 g1 g2 g3 h k0
    rcases lpF_some h with h | ⟨⟨v0_, v1_, v2_, v3_, e0_⟩, h1, h⟩
    · exact ok_Mo_splitSince_y7 C x1 x2 x3 x4 d g0 g1 g2 g3 h (fun z0_ z1_ z2_ z3_ e1_ eq w0_ w1_ w2_ w3_ => by cases eq) (fun z0_ e1_ eq w0_ => k0 _ _ (by cases eq; rfl) w0_)
    · exact ok_Mo_splitSince_y7 C x1 x2 x3 x4 d g0 g1 g2 g3 h1 (fun z0_ z1_ z2_ z3_ e1_ eq w0_ w1_ w2_ w3_ => by cases eq; exact ih _ _ _ _ _ w0_ w1_ w2_ w3_ h k0) (fun z0_ e1_ eq w0_ => by cases eq)
set_option maxHeartbeats 4000000 in
theorem ok_Mo_splitSince_l7 {p : Program} {l : Launch} {e : Env} {s : State} {m : MethodId} {args : Array Value} {below : List Frame} {meth : Method} {c : Code} {D : va_G} {cA : Nat → ClassId} {ad : Nat → Nat} {A : Nat → Prop} (C : Cx p s m args c prog_14_method_32_code 5 "PollBooksModel" D cA ad 1 A) {Q : State → Prop} {x : (Int × Dt)} (x1 x2 x3 x4 : Int) (d : Dt) (hx1 : c32 x1) (hx2 : c32 x2) (hx3 : c32 x3) (hx4 : c32 x4) (h : L_Mo_splitSince_l7 x1 x2 x3 x4 d = some x) (k0 : ∀ (y0 : Int) (e' : Dt), x = (y0, e') → c32 y0 → G p l e rm_Mo_splitSince s m args below meth c 0 0 Q 5 D cA ad 1 A 72 [(9, 0), (9, 0), (9, 0), (0, y0), (9, 0)] [] e') : G p l e rm_Mo_splitSince s m args below meth c 0 0 Q 5 D cA ad 1 A 7 [(2, 0), (0, x1), (0, x2), (0, x3), (0, x4)] [] d :=
  ok_Mo_splitSince_n7 C FU x1 x2 x3 x4 d hx1 hx2 hx3 hx4 h k0
set_option maxHeartbeats 4000000 in
theorem ok_Mo_splitSince {l : Launch} {r : Int} {d' : Dt} (p1 p2 : Int) (d : Dt) (hp1 : c32 p1) (hp2 : c32 p2) (h : L_Mo_splitSince p1 p2 d = some (r, d')) : MC l y_Mo_splitSince prog_14_method_32_code 5 (some .int) rm_Mo_splitSince 1 [(2, 0), (0, p1), (0, p2)] d (some (0, r)) d' := by
  refine MC.of (by decide) (Nat.le_of_ble_eq_true rfl) ?_
  intro p e s m args below meth c D cA ad A C hlk hr
  replace C : Cx p s m args c prog_14_method_32_code 5 "PollBooksModel" D cA ad 1 A := C
  show G p l e rm_Mo_splitSince s m args below meth c 0 0 (MQ below (fun _ => QC D cA ad 1 A (some .int) (some (0, r)) d') args s 0 0 A) 5 D cA ad 1 A 0 [(2, 0), (0, p1), (0, p2)] [] d
  refine g_sub (lo2 := [(2, 0), (0, p1), (0, p2), (9, 0), (9, 0)]) (lsb_v (lsb_v (lsb_v (lsb_n (lsb_n lsb_e))))) ?_
  unfold L_Mo_splitSince at h
  refine g_sipush C 9999 (by decide) (by decide +kernel) ?_
  refine s_istore_n C 3 (lo' := [(2, 0), (0, p1), (0, p2), (0, 9999), (9, 0)]) (by decide) (s1k (s1k (s1n (by decide) s1z))) (by decide +kernel) ?_
  refine g_iconst C 0 (cK rfl) (by decide +kernel) ?_
  refine s_istore C 4 (lo' := [(2, 0), (0, p1), (0, p2), (0, 9999), (0, 0)]) (by decide) (s1k (s1k (s1k (s1n (by decide) s1z)))) (by decide +kernel) ?_
  refine g_sub (lo2 := [(2, 0), (0, p1), (0, p2), (0, 9999), (0, 0)]) (lsb_v (lsb_v (lsb_v (lsb_v (lsb_v lsb_e))))) ?_
  obtain ⟨x18_, hx19_, h⟩ := lb_some h
  refine ok_Mo_splitSince_l7 C p1 p2 9999 0 d hp1 hp2 (cK rfl) (c32_cb (Or.inl rfl)) hx19_ (fun v20_ d21_ eq22_ hv20_ => ?_)
  subst eq22_
  replace h := u1_e h
  refine g_iload_n C 3 rfl (by decide +kernel) ?_
  obtain ⟨rfl, rfl⟩ := ret_inj h
  exact g_iret C hv20_ hlk hr (by decide +kernel)
/-! PollBooksModel.factOf(IIII)I -/
def y_Mo_factOf : MethodName := ⟨"PollBooksModel", "factOf", "(IIII)I"⟩
def rm_Mo_factOf : Room := { frames := 2, cells := 0, slots := 0, locals := 45 }
theorem mw_Mo_factOf : MW y_Mo_factOf prog_14_method_33_code 7 (some .int) 4 := ⟨lk_1841, lk_14, by decide +kernel⟩
def L_Mo_factOf_b128 (x1 x3 x6 s0 s1 : Int) (d : Dt) : Option ((Int × Int × Int × Int × Dt) ⊕ ((Int × Dt))) :=
  lt_ (w32 (s0 + s1)) (fun v1_ => some (Sum.inl (x1, x3, v1_, (w32 (x6 + 1)), d)))
def L_Mo_factOf_y60 (x1 x3 x5 x6 : Int) (d : Dt) : Option ((Int × Int × Int × Int × Dt) ⊕ ((Int × Dt))) :=
  if x6 < (d 0 10) then ck ((0 : Int) ≤ x6 ∧ x6 < 60) (if (d 19 x6.toNat) = x1 then ck ((0 : Int) ≤ x6 ∧ x6 < 60) (if (d 23 x6.toNat) = 0 then L_Mo_factOf_b128 x1 x3 x6 x5 0 d else ck ((0 : Int) ≤ x6 ∧ x6 < 60) (if x3 < (d 21 x6.toNat) then L_Mo_factOf_b128 x1 x3 x6 x5 0 d else ck ((0 : Int) ≤ x6 ∧ x6 < 60) (if (d 0 12) < (d 22 x6.toNat) then L_Mo_factOf_b128 x1 x3 x6 x5 0 d else ck ((0 : Int) ≤ x6 ∧ x6 < 60) (L_Mo_factOf_b128 x1 x3 x6 x5 (d 20 x6.toNat) d)))) else L_Mo_factOf_b128 x1 x3 x6 x5 0 d) else some (Sum.inr (x5, d))
def L_Mo_factOf_l60 (x1 x3 x5 x6 : Int) (d : Dt) : Option ((Int × Dt)) := lpF (fun q : Int × Int × Int × Int × Dt => L_Mo_factOf_y60 q.1 q.2.1 q.2.2.1 q.2.2.2.1 q.2.2.2.2) FU (x1, x3, x5, x6, d)
def L_Mo_factOf_b278 (x1 x3 x4 x5 x6 : Int) (d : Dt) : Option ((Int × Int × Int × Int × Int × Dt) ⊕ ((Int × Dt))) :=
  some (Sum.inl (x1, x3, x4, x5, (w32 (x6 + 1)), d))
def L_Mo_factOf_y143 (x1 x3 x4 x5 x6 : Int) (d : Dt) : Option ((Int × Int × Int × Int × Int × Dt) ⊕ ((Int × Dt))) :=
  if x6 < (d 0 8) then ck ((0 : Int) ≤ x6 ∧ x6 < 80) (if (d 10 x6.toNat) = x1 then ck ((0 : Int) ≤ x6 ∧ x6 < 80) (if x3 < (d 13 x6.toNat) then L_Mo_factOf_b278 x1 x3 x4 x5 x6 d else ck ((0 : Int) ≤ x6 ∧ x6 < 80) (if (d 14 x6.toNat) < x3 then L_Mo_factOf_b278 x1 x3 x4 x5 x6 d else ck ((0 : Int) ≤ x6 ∧ x6 < 80) (if (d 0 12) < (d 15 x6.toNat) then L_Mo_factOf_b278 x1 x3 x4 x5 x6 d else if x4 = 0 then ck ((0 : Int) ≤ x6 ∧ x6 < 80) (lt_ (w32 (x5 + (d 12 x6.toNat))) (fun v39_ => L_Mo_factOf_b278 x1 x3 x4 v39_ x6 d)) else if x4 = 1 then L_Mo_factOf_b278 x1 x3 x4 (w32 (x5 + 1)) x6 d else if x4 = 2 then ck ((0 : Int) ≤ x6 ∧ x6 < 80) (lt_ (jmax x5 (w32 (x3 - (d 13 x6.toNat)))) (fun v46_ => L_Mo_factOf_b278 x1 x3 x4 v46_ x6 d)) else ck ((0 : Int) ≤ x6 ∧ x6 < 80) (bd (L_Mo_splitSince (d 11 x6.toNat) x3 d) (fun r52_ d51_ => lt_ (jmin x5 r52_) (fun v55_ => L_Mo_factOf_b278 x1 x3 x4 v55_ x6 d51_)))))) else L_Mo_factOf_b278 x1 x3 x4 x5 x6 d) else some (Sum.inr (x5, d))
def L_Mo_factOf_l143 (x1 x3 x4 x5 x6 : Int) (d : Dt) : Option ((Int × Dt)) := lpF (fun q : Int × Int × Int × Int × Int × Dt => L_Mo_factOf_y143 q.1 q.2.1 q.2.2.1 q.2.2.2.1 q.2.2.2.2.1 q.2.2.2.2.2) FU (x1, x3, x4, x5, x6, d)
def L_Mo_factOf_b48 (x1 x3 x4 s0 : Int) (d : Dt) : Option (Int × Dt) :=
  if x4 = 6 then lb (L_Mo_factOf_l60 x1 x3 s0 0 d) (fun q64_ => u1 q64_ (fun v61_ d62_ => some (v61_, d62_))) else lb (L_Mo_factOf_l143 x1 x3 x4 s0 0 d) (fun q70_ => u1 q70_ (fun v67_ d68_ => some (v67_, d68_)))
def L_Mo_factOf (p1 p2 p3 p4 : Int) (d : Dt) : Option (Int × Dt) :=
  if p4 = 4 then ck ((0 : Int) ≤ p1 ∧ p1 < 40) (some ((d 8 p1.toNat), d)) else if p4 = 5 then ck ((0 : Int) ≤ p1 ∧ p1 < 40) (if (d 9 p1.toNat) = p2 then some (1, d) else some (0, d)) else if p4 = 3 then L_Mo_factOf_b48 p1 p3 p4 9999 d else L_Mo_factOf_b48 p1 p3 p4 0 d
set_option maxHeartbeats 4000000 in
theorem ok_Mo_factOf_b128 {p : Program} {l : Launch} {e : Env} {s : State} {m : MethodId} {args : Array Value} {below : List Frame} {meth : Method} {c : Code} {D : va_G} {cA : Nat → ClassId} {ad : Nat → Nat} {A : Nat → Prop} (C : Cx p s m args c prog_14_method_33_code 7 "PollBooksModel" D cA ad 1 A) {Q : State → Prop} {o : (Int × Int × Int × Int × Dt) ⊕ ((Int × Dt))} (x1 x3 x6 s0 s1 : Int) (d : Dt) (hx1 : c32 x1) (hx3 : c32 x3) (hx6 : c32 x6) (hs0 : c32 s0) (hs1 : c32 s1) (h : L_Mo_factOf_b128 x1 x3 x6 s0 s1 d = some o) (kb : ∀ (y0 y1 y2 y3 : Int) (e' : Dt), o = .inl (y0, y1, y2, y3, e') → c32 y0 → c32 y1 → c32 y2 → c32 y3 → G p l e rm_Mo_factOf s m args below meth c 0 0 Q 7 D cA ad 1 A 60 [(2, 0), (0, y0), (9, 0), (0, y1), (9, 0), (0, y2), (0, y3)] [] e') (k0 : ∀ (y0 : Int) (e' : Dt), o = .inr (y0, e') → c32 y0 → G p l e rm_Mo_factOf s m args below meth c 0 0 Q 7 D cA ad 1 A 137 [(9, 0), (9, 0), (9, 0), (9, 0), (9, 0), (0, y0), (9, 0)] [] e') : G p l e rm_Mo_factOf s m args below meth c 0 0 Q 7 D cA ad 1 A 128 [(2, 0), (0, x1), (9, 0), (0, x3), (9, 0), (9, 0), (0, x6)] [(0, s1), (0, s0)] d := by
  unfold L_Mo_factOf_b128 at h
  refine g_iadd C (by decide +kernel) ?_
  obtain ⟨v1_, ev2_, h⟩ := lt_some h
  refine g_val ev2_.symm ?_
  have hv3_ : c32 v1_ := by rw [ev2_]; exact (w32_c _)
  refine s_istore C 5 (lo' := [(2, 0), (0, x1), (9, 0), (0, x3), (9, 0), (0, v1_), (0, x6)]) (by decide) (s1k (s1k (s1k (s1k (s1n (by decide) s1z))))) (by decide +kernel) ?_
  refine s_iinc C 6 1 (lo' := [(2, 0), (0, x1), (9, 0), (0, x3), (9, 0), (0, v1_), (0, (w32 (x6 + 1)))]) rfl (by decide) (s1k (s1k (s1k (s1k (s1k (s1n (by decide) s1z)))))) (by decide +kernel) ?_
  refine g_goto C 60 (off := (-74)) (by decide +kernel) (by decide) ?_
  refine g_sub (lo2 := [(2, 0), (0, x1), (9, 0), (0, x3), (9, 0), (0, v1_), (0, (w32 (x6 + 1)))]) (lsb_v (lsb_v (lsb_c (lsb_v (lsb_c (lsb_v (lsb_v lsb_e))))))) ?_
  obtain rfl := Option.some.inj h
  exact kb x1 x3 v1_ (w32 (x6 + 1)) d rfl hx1 hx3 hv3_ (w32_c _)
set_option maxHeartbeats 4000000 in
theorem ok_Mo_factOf_y60 {p : Program} {l : Launch} {e : Env} {s : State} {m : MethodId} {args : Array Value} {below : List Frame} {meth : Method} {c : Code} {D : va_G} {cA : Nat → ClassId} {ad : Nat → Nat} {A : Nat → Prop} (C : Cx p s m args c prog_14_method_33_code 7 "PollBooksModel" D cA ad 1 A) {Q : State → Prop} {o : (Int × Int × Int × Int × Dt) ⊕ ((Int × Dt))} (x1 x3 x5 x6 : Int) (d : Dt) (hx1 : c32 x1) (hx3 : c32 x3) (hx5 : c32 x5) (hx6 : c32 x6) (h : L_Mo_factOf_y60 x1 x3 x5 x6 d = some o) (kb : ∀ (y0 y1 y2 y3 : Int) (e' : Dt), o = .inl (y0, y1, y2, y3, e') → c32 y0 → c32 y1 → c32 y2 → c32 y3 → G p l e rm_Mo_factOf s m args below meth c 0 0 Q 7 D cA ad 1 A 60 [(2, 0), (0, y0), (9, 0), (0, y1), (9, 0), (0, y2), (0, y3)] [] e') (k0 : ∀ (y0 : Int) (e' : Dt), o = .inr (y0, e') → c32 y0 → G p l e rm_Mo_factOf s m args below meth c 0 0 Q 7 D cA ad 1 A 137 [(9, 0), (9, 0), (9, 0), (9, 0), (9, 0), (0, y0), (9, 0)] [] e') : G p l e rm_Mo_factOf s m args below meth c 0 0 Q 7 D cA ad 1 A 60 [(2, 0), (0, x1), (9, 0), (0, x3), (9, 0), (0, x5), (0, x6)] [] d := by
  unfold L_Mo_factOf_y60 at h
  refine g_iload C 6 rfl (by decide +kernel) ?_
  refine g_aload_n C 0 rfl (by decide +kernel) ?_
  refine g_getI C cl12 0 10 rfl cd_B0 ⟨by decide, rfl, by decide⟩ rfl (nB (by decide)) (ix := 353) lk_1412 (by decide +kernel) (fun hc4_ => ?_)
  refine g_icmp_ge C (off := 71) (tgt := 137) hx6 hc4_ (by decide +kernel) (by decide) (fun hc5_ => ?_) (fun hc5_ => ?_)
  · replace h := ite_t hc5_ h
    refine g_iload C 5 rfl (by decide +kernel) ?_
    refine g_aload_n C 0 rfl (by decide +kernel) ?_
    refine g_getR C cl12 0 25 19 rfl cd_B0 ⟨by decide, rfl, by decide⟩ rfl rfl (nB (by decide)) (ix := 69) lk_1427 (by decide +kernel) ?_
    refine g_iload C 6 rfl (by decide +kernel) ?_
    obtain ⟨hb6_, h⟩ := ck_some h
    refine g_iald C 19 hx6 rfl cd_B19 (nB (by decide)) hb6_ (by decide +kernel) (fun hc7_ => ?_)
    refine g_iload_n C 1 rfl (by decide +kernel) ?_
    refine g_icmp_ne C (off := 48) (tgt := 127) hc7_ hx1 (by decide +kernel) (by decide) (fun hc8_ => ?_) (fun hc8_ => ?_)
    · replace h := ite_t hc8_ h
      refine g_aload_n C 0 rfl (by decide +kernel) ?_
      refine g_getR C cl12 0 29 23 rfl cd_B0 ⟨by decide, rfl, by decide⟩ rfl rfl (nB (by decide)) (ix := 81) lk_1431 (by decide +kernel) ?_
      refine g_iload C 6 rfl (by decide +kernel) ?_
      obtain ⟨hb9_, h⟩ := ck_some h
      refine g_zald C 23 hx6 rfl cd_B23 (nB (by decide)) hb9_ (by decide +kernel) (fun hc10_ => ?_)
      refine g_if_eq C (off := 38) (tgt := 127) (c32_cb hc10_) (by decide +kernel) (by decide) (fun hc11_ => ?_) (fun hc11_ => ?_)
      · replace h := ite_t hc11_ h
        refine g_iconst C 0 (cK rfl) (by decide +kernel) ?_
        refine g_sub (lo2 := [(2, 0), (0, x1), (9, 0), (0, x3), (9, 0), (9, 0), (0, x6)]) (lsb_v (lsb_v (lsb_c (lsb_v (lsb_c (lsb_c (lsb_v lsb_e))))))) ?_
        exact ok_Mo_factOf_b128 C x1 x3 x6 x5 0 d hx1 hx3 hx6 hx5 (c32_cb (Or.inl rfl)) h kb k0
      · replace h := ite_f hc11_ h
        refine g_aload_n C 0 rfl (by decide +kernel) ?_
        refine g_getR C cl12 0 27 21 rfl cd_B0 ⟨by decide, rfl, by decide⟩ rfl rfl (nB (by decide)) (ix := 75) lk_1429 (by decide +kernel) ?_
        refine g_iload C 6 rfl (by decide +kernel) ?_
        obtain ⟨hb12_, h⟩ := ck_some h
        refine g_iald C 21 hx6 rfl cd_B21 (nB (by decide)) hb12_ (by decide +kernel) (fun hc13_ => ?_)
        refine g_iload_n C 3 rfl (by decide +kernel) ?_
        refine g_icmp_gt C (off := 27) (tgt := 127) hc13_ hx3 (by decide +kernel) (by decide) (fun hc14_ => ?_) (fun hc14_ => ?_)
        · replace h := ite_t hc14_ h
          refine g_iconst C 0 (cK rfl) (by decide +kernel) ?_
          refine g_sub (lo2 := [(2, 0), (0, x1), (9, 0), (0, x3), (9, 0), (9, 0), (0, x6)]) (lsb_v (lsb_v (lsb_c (lsb_v (lsb_c (lsb_c (lsb_v lsb_e))))))) ?_
          exact ok_Mo_factOf_b128 C x1 x3 x6 x5 0 d hx1 hx3 hx6 hx5 (c32_cb (Or.inl rfl)) h kb k0
        · replace h := ite_f hc14_ h
          refine g_aload_n C 0 rfl (by decide +kernel) ?_
          refine g_getR C cl12 0 28 22 rfl cd_B0 ⟨by decide, rfl, by decide⟩ rfl rfl (nB (by decide)) (ix := 78) lk_1430 (by decide +kernel) ?_
          refine g_iload C 6 rfl (by decide +kernel) ?_
          obtain ⟨hb15_, h⟩ := ck_some h
          refine g_iald C 22 hx6 rfl cd_B22 (nB (by decide)) hb15_ (by decide +kernel) (fun hc16_ => ?_)
          refine g_aload_n C 0 rfl (by decide +kernel) ?_
          refine g_getI C cl12 0 12 rfl cd_B0 ⟨by decide, rfl, by decide⟩ rfl (nB (by decide)) (ix := 29) lk_1414 (by decide +kernel) (fun hc17_ => ?_)
          refine g_icmp_gt C (off := 13) (tgt := 127) hc16_ hc17_ (by decide +kernel) (by decide) (fun hc18_ => ?_) (fun hc18_ => ?_)
          · replace h := ite_t hc18_ h
            refine g_iconst C 0 (cK rfl) (by decide +kernel) ?_
            refine g_sub (lo2 := [(2, 0), (0, x1), (9, 0), (0, x3), (9, 0), (9, 0), (0, x6)]) (lsb_v (lsb_v (lsb_c (lsb_v (lsb_c (lsb_c (lsb_v lsb_e))))))) ?_
            exact ok_Mo_factOf_b128 C x1 x3 x6 x5 0 d hx1 hx3 hx6 hx5 (c32_cb (Or.inl rfl)) h kb k0
          · replace h := ite_f hc18_ h
            refine g_aload_n C 0 rfl (by decide +kernel) ?_
            refine g_getR C cl12 0 26 20 rfl cd_B0 ⟨by decide, rfl, by decide⟩ rfl rfl (nB (by decide)) (ix := 72) lk_1428 (by decide +kernel) ?_
            refine g_iload C 6 rfl (by decide +kernel) ?_
            obtain ⟨hb19_, h⟩ := ck_some h
            refine g_iald C 20 hx6 rfl cd_B20 (nB (by decide)) hb19_ (by decide +kernel) (fun hc20_ => ?_)
            refine g_goto C 128 (off := 4) (by decide +kernel) (by decide) ?_
            refine g_sub (lo2 := [(2, 0), (0, x1), (9, 0), (0, x3), (9, 0), (9, 0), (0, x6)]) (lsb_v (lsb_v (lsb_c (lsb_v (lsb_c (lsb_c (lsb_v lsb_e))))))) ?_
            exact ok_Mo_factOf_b128 C x1 x3 x6 x5 (d 20 x6.toNat) d hx1 hx3 hx6 hx5 hc20_ h kb k0
    · replace h := ite_f hc8_ h
      refine g_iconst C 0 (cK rfl) (by decide +kernel) ?_
      refine g_sub (lo2 := [(2, 0), (0, x1), (9, 0), (0, x3), (9, 0), (9, 0), (0, x6)]) (lsb_v (lsb_v (lsb_c (lsb_v (lsb_c (lsb_c (lsb_v lsb_e))))))) ?_
      exact ok_Mo_factOf_b128 C x1 x3 x6 x5 0 d hx1 hx3 hx6 hx5 (c32_cb (Or.inl rfl)) h kb k0
  · replace h := ite_f hc5_ h
    refine g_sub (lo2 := [(9, 0), (9, 0), (9, 0), (9, 0), (9, 0), (0, x5), (9, 0)]) (lsb_c (lsb_c (lsb_c (lsb_c (lsb_c (lsb_v (lsb_c lsb_e))))))) ?_
    obtain rfl := Option.some.inj h
    exact k0 x5 d rfl hx5
set_option maxHeartbeats 4000000 in
theorem ok_Mo_factOf_n60 {p : Program} {l : Launch} {e : Env} {s : State} {m : MethodId} {args : Array Value} {below : List Frame} {meth : Method} {c : Code} {D : va_G} {cA : Nat → ClassId} {ad : Nat → Nat} {A : Nat → Prop} (C : Cx p s m args c prog_14_method_33_code 7 "PollBooksModel" D cA ad 1 A) {Q : State → Prop} {x : (Int × Dt)} : ∀ (n : Nat) (x1 x3 x5 x6 : Int) (d : Dt), c32 x1 → c32 x3 → c32 x5 → c32 x6 → lpF (fun q : Int × Int × Int × Int × Dt => L_Mo_factOf_y60 q.1 q.2.1 q.2.2.1 q.2.2.2.1 q.2.2.2.2) n (x1, x3, x5, x6, d) = some x → (∀ (y0 : Int) (e' : Dt), x = (y0, e') → c32 y0 → G p l e rm_Mo_factOf s m args below meth c 0 0 Q 7 D cA ad 1 A 137 [(9, 0), (9, 0), (9, 0), (9, 0), (9, 0), (0, y0), (9, 0)] [] e') → G p l e rm_Mo_factOf s m args below meth c 0 0 Q 7 D cA ad 1 A 60 [(2, 0), (0, x1), (9, 0), (0, x3), (9, 0), (0, x5), (0, x6)] [] d := by
  intro n
  induction n with
  | zero => intro x1 x3 x5 x6 d g0 g1 g2 g3 h k0; cases h
  | succ n ih =>
    intro x1 x3 x5 x6 d g0 g1 g2 g3 h k0
    rcases lpF_some h with h | ⟨⟨v0_, v1_, v2_, v3_, e0_⟩, h1, h⟩
    · exact ok_Mo_factOf_y60 C x1 x3 x5 x6 d g0 g1 g2 g3 h (fun z0_ z1_ z2_ z3_ e1_ eq w0_ w1_ w2_ w3_ => by cases eq) (fun z0_ e1_ eq w0_ => k0 _ _ (by cases eq; rfl) w0_)
    · exact ok_Mo_factOf_y60 C x1 x3 x5 x6 d g0 g1 g2 g3 h1 (fun z0_ z1_ z2_ z3_ e1_ eq w0_ w1_ w2_ w3_ => by cases eq; exact ih _ _ _ _ _ w0_ w1_ w2_ w3_ h k0) (fun z0_ e1_ eq w0_ => by cases eq)
set_option maxHeartbeats 4000000 in
theorem ok_Mo_factOf_l60 {p : Program} {l : Launch} {e : Env} {s : State} {m : MethodId} {args : Array Value} {below : List Frame} {meth : Method} {c : Code} {D : va_G} {cA : Nat → ClassId} {ad : Nat → Nat} {A : Nat → Prop} (C : Cx p s m args c prog_14_method_33_code 7 "PollBooksModel" D cA ad 1 A) {Q : State → Prop} {x : (Int × Dt)} (x1 x3 x5 x6 : Int) (d : Dt) (hx1 : c32 x1) (hx3 : c32 x3) (hx5 : c32 x5) (hx6 : c32 x6) (h : L_Mo_factOf_l60 x1 x3 x5 x6 d = some x) (k0 : ∀ (y0 : Int) (e' : Dt), x = (y0, e') → c32 y0 → G p l e rm_Mo_factOf s m args below meth c 0 0 Q 7 D cA ad 1 A 137 [(9, 0), (9, 0), (9, 0), (9, 0), (9, 0), (0, y0), (9, 0)] [] e') : G p l e rm_Mo_factOf s m args below meth c 0 0 Q 7 D cA ad 1 A 60 [(2, 0), (0, x1), (9, 0), (0, x3), (9, 0), (0, x5), (0, x6)] [] d :=
  ok_Mo_factOf_n60 C FU x1 x3 x5 x6 d hx1 hx3 hx5 hx6 h k0
set_option maxHeartbeats 4000000 in
theorem ok_Mo_factOf_b278 {p : Program} {l : Launch} {e : Env} {s : State} {m : MethodId} {args : Array Value} {below : List Frame} {meth : Method} {c : Code} {D : va_G} {cA : Nat → ClassId} {ad : Nat → Nat} {A : Nat → Prop} (C : Cx p s m args c prog_14_method_33_code 7 "PollBooksModel" D cA ad 1 A) {Q : State → Prop} {o : (Int × Int × Int × Int × Int × Dt) ⊕ ((Int × Dt))} (x1 x3 x4 x5 x6 : Int) (d : Dt) (hx1 : c32 x1) (hx3 : c32 x3) (hx4 : c32 x4) (hx5 : c32 x5) (hx6 : c32 x6) (h : L_Mo_factOf_b278 x1 x3 x4 x5 x6 d = some o) (kb : ∀ (y0 y1 y2 y3 y4 : Int) (e' : Dt), o = .inl (y0, y1, y2, y3, y4, e') → c32 y0 → c32 y1 → c32 y2 → c32 y3 → c32 y4 → G p l e rm_Mo_factOf s m args below meth c 0 0 Q 7 D cA ad 1 A 143 [(2, 0), (0, y0), (9, 0), (0, y1), (0, y2), (0, y3), (0, y4)] [] e') (k0 : ∀ (y0 : Int) (e' : Dt), o = .inr (y0, e') → c32 y0 → G p l e rm_Mo_factOf s m args below meth c 0 0 Q 7 D cA ad 1 A 284 [(9, 0), (9, 0), (9, 0), (9, 0), (9, 0), (0, y0), (9, 0)] [] e') : G p l e rm_Mo_factOf s m args below meth c 0 0 Q 7 D cA ad 1 A 278 [(2, 0), (0, x1), (9, 0), (0, x3), (0, x4), (0, x5), (0, x6)] [] d := by
  unfold L_Mo_factOf_b278 at h
  refine s_iinc C 6 1 (lo' := [(2, 0), (0, x1), (9, 0), (0, x3), (0, x4), (0, x5), (0, (w32 (x6 + 1)))]) rfl (by decide) (s1k (s1k (s1k (s1k (s1k (s1n (by decide) s1z)))))) (by decide +kernel) ?_
  refine g_goto C 143 (off := (-138)) (by decide +kernel) (by decide) ?_
  refine g_sub (lo2 := [(2, 0), (0, x1), (9, 0), (0, x3), (0, x4), (0, x5), (0, (w32 (x6 + 1)))]) (lsb_v (lsb_v (lsb_c (lsb_v (lsb_v (lsb_v (lsb_v lsb_e))))))) ?_
  obtain rfl := Option.some.inj h
  exact kb x1 x3 x4 x5 (w32 (x6 + 1)) d rfl hx1 hx3 hx4 hx5 (w32_c _)
set_option maxHeartbeats 4000000 in
theorem ok_Mo_factOf_y143 {p : Program} {l : Launch} {e : Env} {s : State} {m : MethodId} {args : Array Value} {below : List Frame} {meth : Method} {c : Code} {D : va_G} {cA : Nat → ClassId} {ad : Nat → Nat} {A : Nat → Prop} (C : Cx p s m args c prog_14_method_33_code 7 "PollBooksModel" D cA ad 1 A) {Q : State → Prop} {o : (Int × Int × Int × Int × Int × Dt) ⊕ ((Int × Dt))} (x1 x3 x4 x5 x6 : Int) (d : Dt) (hx1 : c32 x1) (hx3 : c32 x3) (hx4 : c32 x4) (hx5 : c32 x5) (hx6 : c32 x6) (h : L_Mo_factOf_y143 x1 x3 x4 x5 x6 d = some o) (kb : ∀ (y0 y1 y2 y3 y4 : Int) (e' : Dt), o = .inl (y0, y1, y2, y3, y4, e') → c32 y0 → c32 y1 → c32 y2 → c32 y3 → c32 y4 → G p l e rm_Mo_factOf s m args below meth c 0 0 Q 7 D cA ad 1 A 143 [(2, 0), (0, y0), (9, 0), (0, y1), (0, y2), (0, y3), (0, y4)] [] e') (k0 : ∀ (y0 : Int) (e' : Dt), o = .inr (y0, e') → c32 y0 → G p l e rm_Mo_factOf s m args below meth c 0 0 Q 7 D cA ad 1 A 284 [(9, 0), (9, 0), (9, 0), (9, 0), (9, 0), (0, y0), (9, 0)] [] e') : G p l e rm_Mo_factOf s m args below meth c 0 0 Q 7 D cA ad 1 A 143 [(2, 0), (0, x1), (9, 0), (0, x3), (0, x4), (0, x5), (0, x6)] [] d := by
  unfold L_Mo_factOf_y143 at h
  refine g_iload C 6 rfl (by decide +kernel) ?_
  refine g_aload_n C 0 rfl (by decide +kernel) ?_
  refine g_getI C cl12 0 8 rfl cd_B0 ⟨by decide, rfl, by decide⟩ rfl (nB (by decide)) (ix := 343) lk_1410 (by decide +kernel) (fun hc21_ => ?_)
  refine g_icmp_ge C (off := 135) (tgt := 284) hx6 hc21_ (by decide +kernel) (by decide) (fun hc22_ => ?_) (fun hc22_ => ?_)
  · replace h := ite_t hc22_ h
    refine g_aload_n C 0 rfl (by decide +kernel) ?_
    refine g_getR C cl12 0 16 10 rfl cd_B0 ⟨by decide, rfl, by decide⟩ rfl rfl (nB (by decide)) (ix := 42) lk_1418 (by decide +kernel) ?_
    refine g_iload C 6 rfl (by decide +kernel) ?_
    obtain ⟨hb23_, h⟩ := ck_some h
    refine g_iald C 10 hx6 rfl cd_B10 (nB (by decide)) hb23_ (by decide +kernel) (fun hc24_ => ?_)
    refine g_iload_n C 1 rfl (by decide +kernel) ?_
    refine g_icmp_ne C (off := 118) (tgt := 278) hc24_ hx1 (by decide +kernel) (by decide) (fun hc25_ => ?_) (fun hc25_ => ?_)
    · replace h := ite_t hc25_ h
      refine g_aload_n C 0 rfl (by decide +kernel) ?_
      refine g_getR C cl12 0 19 13 rfl cd_B0 ⟨by decide, rfl, by decide⟩ rfl rfl (nB (by decide)) (ix := 51) lk_1421 (by decide +kernel) ?_
      refine g_iload C 6 rfl (by decide +kernel) ?_
      obtain ⟨hb26_, h⟩ := ck_some h
      refine g_iald C 13 hx6 rfl cd_B13 (nB (by decide)) hb26_ (by decide +kernel) (fun hc27_ => ?_)
      refine g_iload_n C 3 rfl (by decide +kernel) ?_
      refine g_icmp_gt C (off := 107) (tgt := 278) hc27_ hx3 (by decide +kernel) (by decide) (fun hc28_ => ?_) (fun hc28_ => ?_)
      · replace h := ite_t hc28_ h
        refine g_sub (lo2 := [(2, 0), (0, x1), (9, 0), (0, x3), (0, x4), (0, x5), (0, x6)]) (lsb_v (lsb_v (lsb_c (lsb_v (lsb_v (lsb_v (lsb_v lsb_e))))))) ?_
        exact ok_Mo_factOf_b278 C x1 x3 x4 x5 x6 d hx1 hx3 hx4 hx5 hx6 h kb k0
      · replace h := ite_f hc28_ h
        refine g_aload_n C 0 rfl (by decide +kernel) ?_
        refine g_getR C cl12 0 20 14 rfl cd_B0 ⟨by decide, rfl, by decide⟩ rfl rfl (nB (by decide)) (ix := 54) lk_1422 (by decide +kernel) ?_
        refine g_iload C 6 rfl (by decide +kernel) ?_
        obtain ⟨hb29_, h⟩ := ck_some h
        refine g_iald C 14 hx6 rfl cd_B14 (nB (by decide)) hb29_ (by decide +kernel) (fun hc30_ => ?_)
        refine g_iload_n C 3 rfl (by decide +kernel) ?_
        refine g_icmp_lt C (off := 96) (tgt := 278) hc30_ hx3 (by decide +kernel) (by decide) (fun hc31_ => ?_) (fun hc31_ => ?_)
        · replace h := ite_t hc31_ h
          refine g_sub (lo2 := [(2, 0), (0, x1), (9, 0), (0, x3), (0, x4), (0, x5), (0, x6)]) (lsb_v (lsb_v (lsb_c (lsb_v (lsb_v (lsb_v (lsb_v lsb_e))))))) ?_
          exact ok_Mo_factOf_b278 C x1 x3 x4 x5 x6 d hx1 hx3 hx4 hx5 hx6 h kb k0
        · replace h := ite_f hc31_ h
          refine g_aload_n C 0 rfl (by decide +kernel) ?_
          refine g_getR C cl12 0 21 15 rfl cd_B0 ⟨by decide, rfl, by decide⟩ rfl rfl (nB (by decide)) (ix := 57) lk_1423 (by decide +kernel) ?_
          refine g_iload C 6 rfl (by decide +kernel) ?_
          obtain ⟨hb32_, h⟩ := ck_some h
          refine g_iald C 15 hx6 rfl cd_B15 (nB (by decide)) hb32_ (by decide +kernel) (fun hc33_ => ?_)
          refine g_aload_n C 0 rfl (by decide +kernel) ?_
          refine g_getI C cl12 0 12 rfl cd_B0 ⟨by decide, rfl, by decide⟩ rfl (nB (by decide)) (ix := 29) lk_1414 (by decide +kernel) (fun hc34_ => ?_)
          refine g_icmp_le C (off := 6) (tgt := 202) hc33_ hc34_ (by decide +kernel) (by decide) (fun hc35_ => ?_) (fun hc35_ => ?_)
          · replace h := ite_t hc35_ h
            refine g_goto C 278 (off := 79) (by decide +kernel) (by decide) ?_
            refine g_sub (lo2 := [(2, 0), (0, x1), (9, 0), (0, x3), (0, x4), (0, x5), (0, x6)]) (lsb_v (lsb_v (lsb_c (lsb_v (lsb_v (lsb_v (lsb_v lsb_e))))))) ?_
            exact ok_Mo_factOf_b278 C x1 x3 x4 x5 x6 d hx1 hx3 hx4 hx5 hx6 h kb k0
          · replace h := ite_f hc35_ h
            refine g_iload C 4 rfl (by decide +kernel) ?_
            refine g_if_ne C (off := 18) (tgt := 222) hx4 (by decide +kernel) (by decide) (fun hc36_ => ?_) (fun hc36_ => ?_)
            · replace h := ite_t hc36_ h
              refine g_iload C 5 rfl (by decide +kernel) ?_
              refine g_aload_n C 0 rfl (by decide +kernel) ?_
              refine g_getR C cl12 0 18 12 rfl cd_B0 ⟨by decide, rfl, by decide⟩ rfl rfl (nB (by decide)) (ix := 48) lk_1420 (by decide +kernel) ?_
              refine g_iload C 6 rfl (by decide +kernel) ?_
              obtain ⟨hb37_, h⟩ := ck_some h
              refine g_iald C 12 hx6 rfl cd_B12 (nB (by decide)) hb37_ (by decide +kernel) (fun hc38_ => ?_)
              refine g_iadd C (by decide +kernel) ?_
              obtain ⟨v39_, ev40_, h⟩ := lt_some h
              refine g_val ev40_.symm ?_
              have hv41_ : c32 v39_ := by rw [ev40_]; exact (w32_c _)
              refine s_istore C 5 (lo' := [(2, 0), (0, x1), (9, 0), (0, x3), (0, x4), (0, v39_), (0, x6)]) (by decide) (s1k (s1k (s1k (s1k (s1n (by decide) s1z))))) (by decide +kernel) ?_
              refine g_goto C 278 (off := 59) (by decide +kernel) (by decide) ?_
              refine g_sub (lo2 := [(2, 0), (0, x1), (9, 0), (0, x3), (0, x4), (0, v39_), (0, x6)]) (lsb_v (lsb_v (lsb_c (lsb_v (lsb_v (lsb_v (lsb_v lsb_e))))))) ?_
              exact ok_Mo_factOf_b278 C x1 x3 x4 v39_ x6 d hx1 hx3 hx4 hv41_ hx6 h kb k0
            · replace h := ite_f hc36_ h
              refine g_iload C 4 rfl (by decide +kernel) ?_
              refine g_iconst C 1 (cK rfl) (by decide +kernel) ?_
              refine g_icmp_ne C (off := 9) (tgt := 234) hx4 (c32_cb (Or.inr rfl)) (by decide +kernel) (by decide) (fun hc42_ => ?_) (fun hc42_ => ?_)
              · replace h := ite_t hc42_ h
                refine s_iinc C 5 1 (lo' := [(2, 0), (0, x1), (9, 0), (0, x3), (0, x4), (0, (w32 (x5 + 1))), (0, x6)]) rfl (by decide) (s1k (s1k (s1k (s1k (s1n (by decide) s1z))))) (by decide +kernel) ?_
                refine g_goto C 278 (off := 47) (by decide +kernel) (by decide) ?_
                refine g_sub (lo2 := [(2, 0), (0, x1), (9, 0), (0, x3), (0, x4), (0, (w32 (x5 + 1))), (0, x6)]) (lsb_v (lsb_v (lsb_c (lsb_v (lsb_v (lsb_v (lsb_v lsb_e))))))) ?_
                exact ok_Mo_factOf_b278 C x1 x3 x4 (w32 (x5 + 1)) x6 d hx1 hx3 hx4 (w32_c _) hx6 h kb k0
              · replace h := ite_f hc42_ h
                refine g_iload C 4 rfl (by decide +kernel) ?_
                refine g_iconst C 2 (cK rfl) (by decide +kernel) ?_
                refine g_icmp_ne C (off := 22) (tgt := 259) hx4 (cK rfl) (by decide +kernel) (by decide) (fun hc43_ => ?_) (fun hc43_ => ?_)
                · replace h := ite_t hc43_ h
                  refine g_iload C 5 rfl (by decide +kernel) ?_
                  refine g_iload_n C 3 rfl (by decide +kernel) ?_
                  refine g_aload_n C 0 rfl (by decide +kernel) ?_
                  refine g_getR C cl12 0 19 13 rfl cd_B0 ⟨by decide, rfl, by decide⟩ rfl rfl (nB (by decide)) (ix := 51) lk_1421 (by decide +kernel) ?_
                  refine g_iload C 6 rfl (by decide +kernel) ?_
                  obtain ⟨hb44_, h⟩ := ck_some h
                  refine g_iald C 13 hx6 rfl cd_B13 (nB (by decide)) hb44_ (by decide +kernel) (fun hc45_ => ?_)
                  refine g_isub C (by decide +kernel) ?_
                  refine g_mmax C hx5 (w32_c _) (ix := 356) lk_1842 lk_1843 lk_16 lk_1844 ⟨Nat.le_of_ble_eq_true rfl, Nat.le_of_ble_eq_true rfl, Nat.zero_le _, Nat.zero_le _⟩ (Nat.le_of_ble_eq_true rfl) (by decide +kernel) ?_
                  obtain ⟨v46_, ev47_, h⟩ := lt_some h
                  refine g_val ev47_.symm ?_
                  have hv48_ : c32 v46_ := by rw [ev47_]; exact (jmax_c hx5 (w32_c _))
                  refine s_istore C 5 (lo' := [(2, 0), (0, x1), (9, 0), (0, x3), (0, x4), (0, v46_), (0, x6)]) (by decide) (s1k (s1k (s1k (s1k (s1n (by decide) s1z))))) (by decide +kernel) ?_
                  refine g_goto C 278 (off := 22) (by decide +kernel) (by decide) ?_
                  refine g_sub (lo2 := [(2, 0), (0, x1), (9, 0), (0, x3), (0, x4), (0, v46_), (0, x6)]) (lsb_v (lsb_v (lsb_c (lsb_v (lsb_v (lsb_v (lsb_v lsb_e))))))) ?_
                  exact ok_Mo_factOf_b278 C x1 x3 x4 v46_ x6 d hx1 hx3 hx4 hv48_ hx6 h kb k0
                · replace h := ite_f hc43_ h
                  refine g_iload C 5 rfl (by decide +kernel) ?_
                  refine g_aload_n C 0 rfl (by decide +kernel) ?_
                  refine g_aload_n C 0 rfl (by decide +kernel) ?_
                  refine g_getR C cl12 0 17 11 rfl cd_B0 ⟨by decide, rfl, by decide⟩ rfl rfl (nB (by decide)) (ix := 45) lk_1419 (by decide +kernel) ?_
                  refine g_iload C 6 rfl (by decide +kernel) ?_
                  obtain ⟨hb49_, h⟩ := ck_some h
                  refine g_iald C 11 hx6 rfl cd_B11 (nB (by decide)) hb49_ (by decide +kernel) (fun hc50_ => ?_)
                  refine g_iload_n C 3 rfl (by decide +kernel) ?_
                  obtain ⟨r52_, d51_, hr53_, h⟩ := bd_some h
                  refine g_callV C mw_Mo_splitSince [(0, (d 11 x6.toNat)), (0, x3)] 0 cl12 rfl (ok_Mo_splitSince (d 11 x6.toNat) x3 d hc50_ hx3 hr53_) cd_B0 (by decide) (nB (by decide)) (ix := 359) lk_1845 lk_1847 lkp_65 ⟨rfl, rfl, Nat.le_of_ble_eq_true rfl, Nat.le_of_ble_eq_true rfl⟩ rfl (rest := [(0, x5)]) rfl (Nat.le_of_ble_eq_true rfl) ⟨Nat.zero_le _, Nat.zero_le _⟩ (by decide +kernel) (fun _ hc54_ => ?_)
                  replace hc54_ : c32 r52_ := hc54_
                  refine g_st (st2 := [(0, r52_), (0, x5)]) rfl ?_
                  refine g_mmin C hx5 hc54_ (ix := 299) lk_1782 lk_601 lk_16 lk_602 ⟨Nat.le_of_ble_eq_true rfl, Nat.le_of_ble_eq_true rfl, Nat.zero_le _, Nat.zero_le _⟩ (Nat.le_of_ble_eq_true rfl) (by decide +kernel) ?_
                  obtain ⟨v55_, ev56_, h⟩ := lt_some h
                  refine g_val ev56_.symm ?_
                  have hv57_ : c32 v55_ := by rw [ev56_]; exact (jmin_c hx5 hc54_)
                  refine s_istore C 5 (lo' := [(2, 0), (0, x1), (9, 0), (0, x3), (0, x4), (0, v55_), (0, x6)]) (by decide) (s1k (s1k (s1k (s1k (s1n (by decide) s1z))))) (by decide +kernel) ?_
                  refine g_sub (lo2 := [(2, 0), (0, x1), (9, 0), (0, x3), (0, x4), (0, v55_), (0, x6)]) (lsb_v (lsb_v (lsb_c (lsb_v (lsb_v (lsb_v (lsb_v lsb_e))))))) ?_
                  exact ok_Mo_factOf_b278 C x1 x3 x4 v55_ x6 d51_ hx1 hx3 hx4 hv57_ hx6 h kb k0
    · replace h := ite_f hc25_ h
      refine g_sub (lo2 := [(2, 0), (0, x1), (9, 0), (0, x3), (0, x4), (0, x5), (0, x6)]) (lsb_v (lsb_v (lsb_c (lsb_v (lsb_v (lsb_v (lsb_v lsb_e))))))) ?_
      exact ok_Mo_factOf_b278 C x1 x3 x4 x5 x6 d hx1 hx3 hx4 hx5 hx6 h kb k0
  · replace h := ite_f hc22_ h
    refine g_sub (lo2 := [(9, 0), (9, 0), (9, 0), (9, 0), (9, 0), (0, x5), (9, 0)]) (lsb_c (lsb_c (lsb_c (lsb_c (lsb_c (lsb_v (lsb_c lsb_e))))))) ?_
    obtain rfl := Option.some.inj h
    exact k0 x5 d rfl hx5
set_option maxHeartbeats 4000000 in
theorem ok_Mo_factOf_n143 {p : Program} {l : Launch} {e : Env} {s : State} {m : MethodId} {args : Array Value} {below : List Frame} {meth : Method} {c : Code} {D : va_G} {cA : Nat → ClassId} {ad : Nat → Nat} {A : Nat → Prop} (C : Cx p s m args c prog_14_method_33_code 7 "PollBooksModel" D cA ad 1 A) {Q : State → Prop} {x : (Int × Dt)} : ∀ (n : Nat) (x1 x3 x4 x5 x6 : Int) (d : Dt), c32 x1 → c32 x3 → c32 x4 → c32 x5 → c32 x6 → lpF (fun q : Int × Int × Int × Int × Int × Dt => L_Mo_factOf_y143 q.1 q.2.1 q.2.2.1 q.2.2.2.1 q.2.2.2.2.1 q.2.2.2.2.2) n (x1, x3, x4, x5, x6, d) = some x → (∀ (y0 : Int) (e' : Dt), x = (y0, e') → c32 y0 → G p l e rm_Mo_factOf s m args below meth c 0 0 Q 7 D cA ad 1 A 284 [(9, 0), (9, 0), (9, 0), (9, 0), (9, 0), (0, y0), (9, 0)] [] e') → G p l e rm_Mo_factOf s m args below meth c 0 0 Q 7 D cA ad 1 A 143 [(2, 0), (0, x1), (9, 0), (0, x3), (0, x4), (0, x5), (0, x6)] [] d := by
  intro n
  induction n with
  | zero => intro x1 x3 x4 x5 x6 d g0 g1 g2 g3 g4 h k0; cases h
  | succ n ih =>
    intro x1 x3 x4 x5 x6 d g0 g1 g2 g3 g4 h k0
    rcases lpF_some h with h | ⟨⟨v0_, v1_, v2_, v3_, v4_, e0_⟩, h1, h⟩
    · exact ok_Mo_factOf_y143 C x1 x3 x4 x5 x6 d g0 g1 g2 g3 g4 h (fun z0_ z1_ z2_ z3_ z4_ e1_ eq w0_ w1_ w2_ w3_ w4_ => by cases eq) (fun z0_ e1_ eq w0_ => k0 _ _ (by cases eq; rfl) w0_)
    · exact ok_Mo_factOf_y143 C x1 x3 x4 x5 x6 d g0 g1 g2 g3 g4 h1 (fun z0_ z1_ z2_ z3_ z4_ e1_ eq w0_ w1_ w2_ w3_ w4_ => by cases eq; exact ih _ _ _ _ _ _ w0_ w1_ w2_ w3_ w4_ h k0) (fun z0_ e1_ eq w0_ => by cases eq)
set_option maxHeartbeats 4000000 in
theorem ok_Mo_factOf_l143 {p : Program} {l : Launch} {e : Env} {s : State} {m : MethodId} {args : Array Value} {below : List Frame} {meth : Method} {c : Code} {D : va_G} {cA : Nat → ClassId} {ad : Nat → Nat} {A : Nat → Prop} (C : Cx p s m args c prog_14_method_33_code 7 "PollBooksModel" D cA ad 1 A) {Q : State → Prop} {x : (Int × Dt)} (x1 x3 x4 x5 x6 : Int) (d : Dt) (hx1 : c32 x1) (hx3 : c32 x3) (hx4 : c32 x4) (hx5 : c32 x5) (hx6 : c32 x6) (h : L_Mo_factOf_l143 x1 x3 x4 x5 x6 d = some x) (k0 : ∀ (y0 : Int) (e' : Dt), x = (y0, e') → c32 y0 → G p l e rm_Mo_factOf s m args below meth c 0 0 Q 7 D cA ad 1 A 284 [(9, 0), (9, 0), (9, 0), (9, 0), (9, 0), (0, y0), (9, 0)] [] e') : G p l e rm_Mo_factOf s m args below meth c 0 0 Q 7 D cA ad 1 A 143 [(2, 0), (0, x1), (9, 0), (0, x3), (0, x4), (0, x5), (0, x6)] [] d :=
  ok_Mo_factOf_n143 C FU x1 x3 x4 x5 x6 d hx1 hx3 hx4 hx5 hx6 h k0
set_option maxHeartbeats 4000000 in
theorem ok_Mo_factOf_b48 {p : Program} {l : Launch} {e : Env} {s : State} {m : MethodId} {args : Array Value} {below : List Frame} {meth : Method} {c : Code} {D : va_G} {cA : Nat → ClassId} {ad : Nat → Nat} {A : Nat → Prop} (C : Cx p s m args c prog_14_method_33_code 7 "PollBooksModel" D cA ad 1 A) (hlk : meth.locks = false) (hr : meth.sig.returnType = (some .int)) {r : Int} {d' : Dt} (x1 x3 x4 s0 : Int) (d : Dt) (hx1 : c32 x1) (hx3 : c32 x3) (hx4 : c32 x4) (hs0 : c32 s0) (h : L_Mo_factOf_b48 x1 x3 x4 s0 d = some (r, d')) : G p l e rm_Mo_factOf s m args below meth c 0 0 (MQ below (fun _ => QC D cA ad 1 A (some .int) (some (0, r)) d') args s 0 0 A) 7 D cA ad 1 A 48 [(2, 0), (0, x1), (9, 0), (0, x3), (0, x4), (9, 0), (9, 0)] [(0, s0)] d := by
  unfold L_Mo_factOf_b48 at h
  refine s_istore C 5 (lo' := [(2, 0), (0, x1), (9, 0), (0, x3), (0, x4), (0, s0), (9, 0)]) (by decide) (s1k (s1k (s1k (s1k (s1n (by decide) s1z))))) (by decide +kernel) ?_
  refine g_iload C 4 rfl (by decide +kernel) ?_
  refine g_bipush C 6 (by decide) (by decide +kernel) ?_
  refine g_icmp_ne C (off := 86) (tgt := 140) hx4 (cK rfl) (by decide +kernel) (by decide) (fun hc58_ => ?_) (fun hc58_ => ?_)
  · replace h := ite_t hc58_ h
    refine g_iconst C 0 (cK rfl) (by decide +kernel) ?_
    refine s_istore C 6 (lo' := [(2, 0), (0, x1), (9, 0), (0, x3), (0, x4), (0, s0), (0, 0)]) (by decide) (s1k (s1k (s1k (s1k (s1k (s1n (by decide) s1z)))))) (by decide +kernel) ?_
    refine g_sub (lo2 := [(2, 0), (0, x1), (9, 0), (0, x3), (9, 0), (0, s0), (0, 0)]) (lsb_v (lsb_v (lsb_c (lsb_v (lsb_c (lsb_v (lsb_v lsb_e))))))) ?_
    obtain ⟨x59_, hx60_, h⟩ := lb_some h
    refine ok_Mo_factOf_l60 C x1 x3 s0 0 d hx1 hx3 hs0 (c32_cb (Or.inl rfl)) hx60_ (fun v61_ d62_ eq63_ hv61_ => ?_)
    subst eq63_
    replace h := u1_e h
    refine g_iload C 5 rfl (by decide +kernel) ?_
    obtain ⟨rfl, rfl⟩ := ret_inj h
    exact g_iret C hv61_ hlk hr (by decide +kernel)
  · replace h := ite_f hc58_ h
    refine g_iconst C 0 (cK rfl) (by decide +kernel) ?_
    refine s_istore C 6 (lo' := [(2, 0), (0, x1), (9, 0), (0, x3), (0, x4), (0, s0), (0, 0)]) (by decide) (s1k (s1k (s1k (s1k (s1k (s1n (by decide) s1z)))))) (by decide +kernel) ?_
    refine g_sub (lo2 := [(2, 0), (0, x1), (9, 0), (0, x3), (0, x4), (0, s0), (0, 0)]) (lsb_v (lsb_v (lsb_c (lsb_v (lsb_v (lsb_v (lsb_v lsb_e))))))) ?_
    obtain ⟨x65_, hx66_, h⟩ := lb_some h
    refine ok_Mo_factOf_l143 C x1 x3 x4 s0 0 d hx1 hx3 hx4 hs0 (c32_cb (Or.inl rfl)) hx66_ (fun v67_ d68_ eq69_ hv67_ => ?_)
    subst eq69_
    replace h := u1_e h
    refine g_iload C 5 rfl (by decide +kernel) ?_
    obtain ⟨rfl, rfl⟩ := ret_inj h
    exact g_iret C hv67_ hlk hr (by decide +kernel)
set_option maxHeartbeats 4000000 in
theorem ok_Mo_factOf {l : Launch} {r : Int} {d' : Dt} (p1 p2 p3 p4 : Int) (d : Dt) (hp1 : c32 p1) (hp2 : c32 p2) (hp3 : c32 p3) (hp4 : c32 p4) (h : L_Mo_factOf p1 p2 p3 p4 d = some (r, d')) : MC l y_Mo_factOf prog_14_method_33_code 7 (some .int) rm_Mo_factOf 1 [(2, 0), (0, p1), (0, p2), (0, p3), (0, p4)] d (some (0, r)) d' := by
  refine MC.of (by decide) (Nat.le_of_ble_eq_true rfl) ?_
  intro p e s m args below meth c D cA ad A C hlk hr
  replace C : Cx p s m args c prog_14_method_33_code 7 "PollBooksModel" D cA ad 1 A := C
  show G p l e rm_Mo_factOf s m args below meth c 0 0 (MQ below (fun _ => QC D cA ad 1 A (some .int) (some (0, r)) d') args s 0 0 A) 7 D cA ad 1 A 0 [(2, 0), (0, p1), (0, p2), (0, p3), (0, p4)] [] d
  refine g_sub (lo2 := [(2, 0), (0, p1), (0, p2), (0, p3), (0, p4), (9, 0), (9, 0)]) (lsb_v (lsb_v (lsb_v (lsb_v (lsb_v (lsb_n (lsb_n lsb_e))))))) ?_
  unfold L_Mo_factOf at h
  refine g_iload C 4 rfl (by decide +kernel) ?_
  refine g_iconst C 4 (cK rfl) (by decide +kernel) ?_
  refine g_icmp_ne C (off := 10) (tgt := 13) hp4 (cK rfl) (by decide +kernel) (by decide) (fun hc71_ => ?_) (fun hc71_ => ?_)
  · replace h := ite_t hc71_ h
    refine g_aload_n C 0 rfl (by decide +kernel) ?_
    refine g_getR C cl12 0 14 8 rfl cd_B0 ⟨by decide, rfl, by decide⟩ rfl rfl (nB (by decide)) (ix := 36) lk_1416 (by decide +kernel) ?_
    refine g_iload_n C 1 rfl (by decide +kernel) ?_
    obtain ⟨hb72_, h⟩ := ck_some h
    refine g_iald C 8 hp1 rfl cd_B8 (nB (by decide)) hb72_ (by decide +kernel) (fun hc73_ => ?_)
    obtain ⟨rfl, rfl⟩ := ret_inj h
    exact g_iret C hc73_ hlk hr (by decide +kernel)
  · replace h := ite_f hc71_ h
    refine g_iload C 4 rfl (by decide +kernel) ?_
    refine g_iconst C 5 (cK rfl) (by decide +kernel) ?_
    refine g_icmp_ne C (off := 19) (tgt := 35) hp4 (cK rfl) (by decide +kernel) (by decide) (fun hc74_ => ?_) (fun hc74_ => ?_)
    · replace h := ite_t hc74_ h
      refine g_aload_n C 0 rfl (by decide +kernel) ?_
      refine g_getR C cl12 0 15 9 rfl cd_B0 ⟨by decide, rfl, by decide⟩ rfl rfl (nB (by decide)) (ix := 39) lk_1417 (by decide +kernel) ?_
      refine g_iload_n C 1 rfl (by decide +kernel) ?_
      obtain ⟨hb75_, h⟩ := ck_some h
      refine g_iald C 9 hp1 rfl cd_B9 (nB (by decide)) hb75_ (by decide +kernel) (fun hc76_ => ?_)
      refine g_iload_n C 2 rfl (by decide +kernel) ?_
      refine g_icmp_ne C (off := 7) (tgt := 33) hc76_ hp2 (by decide +kernel) (by decide) (fun hc77_ => ?_) (fun hc77_ => ?_)
      · replace h := ite_t hc77_ h
        refine g_iconst C 1 (cK rfl) (by decide +kernel) ?_
        refine g_goto C 34 (off := 4) (by decide +kernel) (by decide) ?_
        obtain ⟨rfl, rfl⟩ := ret_inj h
        exact g_iret C (c32_cb (Or.inr rfl)) hlk hr (by decide +kernel)
      · replace h := ite_f hc77_ h
        refine g_iconst C 0 (cK rfl) (by decide +kernel) ?_
        obtain ⟨rfl, rfl⟩ := ret_inj h
        exact g_iret C (c32_cb (Or.inl rfl)) hlk hr (by decide +kernel)
    · replace h := ite_f hc74_ h
      refine g_iload C 4 rfl (by decide +kernel) ?_
      refine g_iconst C 3 (cK rfl) (by decide +kernel) ?_
      refine g_icmp_ne C (off := 9) (tgt := 47) hp4 (cK rfl) (by decide +kernel) (by decide) (fun hc78_ => ?_) (fun hc78_ => ?_)
      · replace h := ite_t hc78_ h
        refine g_sipush C 9999 (by decide) (by decide +kernel) ?_
        refine g_goto C 48 (off := 4) (by decide +kernel) (by decide) ?_
        refine g_sub (lo2 := [(2, 0), (0, p1), (9, 0), (0, p3), (0, p4), (9, 0), (9, 0)]) (lsb_v (lsb_v (lsb_c (lsb_v (lsb_v (lsb_c (lsb_c lsb_e))))))) ?_
        exact ok_Mo_factOf_b48 C hlk hr p1 p3 p4 9999 d hp1 hp3 hp4 (cK rfl) h
      · replace h := ite_f hc78_ h
        refine g_iconst C 0 (cK rfl) (by decide +kernel) ?_
        refine g_sub (lo2 := [(2, 0), (0, p1), (9, 0), (0, p3), (0, p4), (9, 0), (9, 0)]) (lsb_v (lsb_v (lsb_c (lsb_v (lsb_v (lsb_c (lsb_c lsb_e))))))) ?_
        exact ok_Mo_factOf_b48 C hlk hr p1 p3 p4 0 d hp1 hp3 hp4 (c32_cb (Or.inl rfl)) h
/-! PollBooksModel.fact(IIII)I -/
def y_Mo_fact : MethodName := ⟨"PollBooksModel", "fact", "(IIII)I"⟩
def rm_Mo_fact : Room := { frames := 3, cells := 0, slots := 0, locals := 71 }
theorem mw_Mo_fact : MW y_Mo_fact prog_14_method_34_code 5 (some .int) 4 := ⟨lk_1837, lk_14, by decide +kernel⟩
def L_Mo_fact_b34 (d : Dt) : Option (Int × Dt) :=
  bd (L_Mo_refuse 1 d) (fun r2_ d1_ => some (r2_, d1_))
def L_Mo_fact (p1 p2 p3 p4 : Int) (d : Dt) : Option (Int × Dt) :=
  bd (L_Mo_isPerson p1 d) (fun r6_ d5_ => if r6_ = 0 then L_Mo_fact_b34 d5_ else bd (L_Mo_isPlace p2 d5_) (fun r11_ d10_ => if r11_ = 0 then L_Mo_fact_b34 d10_ else bd (L_Mo_isDay p3 d10_) (fun r16_ d15_ => if r16_ = 0 then L_Mo_fact_b34 d15_ else if p4 < 0 then L_Mo_fact_b34 d15_ else if 6 < p4 then L_Mo_fact_b34 d15_ else bd (L_Mo_factOf p1 p2 p3 p4 d15_) (fun r23_ d22_ => bd (L_Mo_gives r23_ d22_) (fun r27_ d26_ => some (r27_, d26_))))))
set_option maxHeartbeats 4000000 in
theorem ok_Mo_fact_b34 {p : Program} {l : Launch} {e : Env} {s : State} {m : MethodId} {args : Array Value} {below : List Frame} {meth : Method} {c : Code} {D : va_G} {cA : Nat → ClassId} {ad : Nat → Nat} {A : Nat → Prop} (C : Cx p s m args c prog_14_method_34_code 5 "PollBooksModel" D cA ad 1 A) (hlk : meth.locks = false) (hr : meth.sig.returnType = (some .int)) {r : Int} {d' : Dt} (d : Dt)  (h : L_Mo_fact_b34 d = some (r, d')) : G p l e rm_Mo_fact s m args below meth c 0 0 (MQ below (fun _ => QC D cA ad 1 A (some .int) (some (0, r)) d') args s 0 0 A) 5 D cA ad 1 A 34 [(2, 0), (9, 0), (9, 0), (9, 0), (9, 0)] [] d := by
  unfold L_Mo_fact_b34 at h
  refine g_aload_n C 0 rfl (by decide +kernel) ?_
  refine g_iconst C 1 (cK rfl) (by decide +kernel) ?_
  obtain ⟨r2_, d1_, hr3_, h⟩ := bd_some h
  refine g_callV C mw_Mo_refuse [(0, 1)] 0 cl12 rfl (ok_Mo_refuse 1 d (c32_cb (Or.inr rfl)) hr3_) cd_B0 (by decide) (nB (by decide)) (ix := 316) lk_1787 lk_1789 lkp_61 ⟨rfl, rfl, Nat.le_of_ble_eq_true rfl, Nat.le_of_ble_eq_true rfl⟩ rfl (rest := []) rfl (Nat.le_of_ble_eq_true rfl) ⟨Nat.zero_le _, Nat.zero_le _⟩ (by decide +kernel) (fun _ hc4_ => ?_)
  replace hc4_ : c32 r2_ := hc4_
  refine g_st (st2 := [(0, r2_)]) rfl ?_
  obtain ⟨rfl, rfl⟩ := ret_inj h
  exact g_iret C hc4_ hlk hr (by decide +kernel)
set_option maxHeartbeats 4000000 in
theorem ok_Mo_fact {l : Launch} {r : Int} {d' : Dt} (p1 p2 p3 p4 : Int) (d : Dt) (hp1 : c32 p1) (hp2 : c32 p2) (hp3 : c32 p3) (hp4 : c32 p4) (h : L_Mo_fact p1 p2 p3 p4 d = some (r, d')) : MC l y_Mo_fact prog_14_method_34_code 5 (some .int) rm_Mo_fact 1 [(2, 0), (0, p1), (0, p2), (0, p3), (0, p4)] d (some (0, r)) d' := by
  refine MC.of (by decide) (Nat.le_of_ble_eq_true rfl) ?_
  intro p e s m args below meth c D cA ad A C hlk hr
  replace C : Cx p s m args c prog_14_method_34_code 5 "PollBooksModel" D cA ad 1 A := C
  show G p l e rm_Mo_fact s m args below meth c 0 0 (MQ below (fun _ => QC D cA ad 1 A (some .int) (some (0, r)) d') args s 0 0 A) 5 D cA ad 1 A 0 [(2, 0), (0, p1), (0, p2), (0, p3), (0, p4)] [] d
  refine g_sub (lo2 := [(2, 0), (0, p1), (0, p2), (0, p3), (0, p4)]) (lsb_v (lsb_v (lsb_v (lsb_v (lsb_v lsb_e))))) ?_
  unfold L_Mo_fact at h
  refine g_aload_n C 0 rfl (by decide +kernel) ?_
  refine g_iload_n C 1 rfl (by decide +kernel) ?_
  obtain ⟨r6_, d5_, hr7_, h⟩ := bd_some h
  refine g_callV C mw_Mo_isPerson [(0, p1)] 0 cl12 rfl (ok_Mo_isPerson p1 d hp1 hr7_) cd_B0 (by decide) (nB (by decide)) (ix := 331) lk_1805 lk_1807 lkp_62 ⟨rfl, rfl, Nat.le_of_ble_eq_true rfl, Nat.le_of_ble_eq_true rfl⟩ rfl (rest := []) rfl (Nat.le_of_ble_eq_true rfl) ⟨Nat.zero_le _, Nat.zero_le _⟩ (by decide +kernel) (fun _ hc8_ => ?_)
  replace hc8_ : cb r6_ := hc8_
  refine g_st (st2 := [(0, r6_)]) rfl ?_
  refine g_if_eq C (off := 29) (tgt := 34) (c32_cb hc8_) (by decide +kernel) (by decide) (fun hc9_ => ?_) (fun hc9_ => ?_)
  · replace h := ite_t hc9_ h
    refine g_sub (lo2 := [(2, 0), (9, 0), (9, 0), (9, 0), (9, 0)]) (lsb_v (lsb_c (lsb_c (lsb_c (lsb_c lsb_e))))) ?_
    exact ok_Mo_fact_b34 C hlk hr d5_  h
  · replace h := ite_f hc9_ h
    refine g_iload_n C 2 rfl (by decide +kernel) ?_
    obtain ⟨r11_, d10_, hr12_, h⟩ := bd_some h
    refine g_callS C mw_Mo_isPlace [(0, p2)] (ok_Mo_isPlace p2 d5_ hp2 hr12_) (ix := 325) lk_1798 lk_1799 ⟨rfl, rfl, Nat.le_of_ble_eq_true rfl, Nat.le_of_ble_eq_true rfl⟩ rfl (rest := []) rfl (Nat.le_of_ble_eq_true rfl) ⟨Nat.zero_le _, Nat.zero_le _⟩ (by decide +kernel) (fun _ hc13_ => ?_)
    replace hc13_ : cb r11_ := hc13_
    refine g_st (st2 := [(0, r11_)]) rfl ?_
    refine g_if_eq C (off := 22) (tgt := 34) (c32_cb hc13_) (by decide +kernel) (by decide) (fun hc14_ => ?_) (fun hc14_ => ?_)
    · replace h := ite_t hc14_ h
      refine g_sub (lo2 := [(2, 0), (9, 0), (9, 0), (9, 0), (9, 0)]) (lsb_v (lsb_c (lsb_c (lsb_c (lsb_c lsb_e))))) ?_
      exact ok_Mo_fact_b34 C hlk hr d10_  h
    · replace h := ite_f hc14_ h
      refine g_iload_n C 3 rfl (by decide +kernel) ?_
      obtain ⟨r16_, d15_, hr17_, h⟩ := bd_some h
      refine g_callS C mw_Mo_isDay [(0, p3)] (ok_Mo_isDay p3 d10_ hp3 hr17_) (ix := 340) lk_1815 lk_1816 ⟨rfl, rfl, Nat.le_of_ble_eq_true rfl, Nat.le_of_ble_eq_true rfl⟩ rfl (rest := []) rfl (Nat.le_of_ble_eq_true rfl) ⟨Nat.zero_le _, Nat.zero_le _⟩ (by decide +kernel) (fun _ hc18_ => ?_)
      replace hc18_ : cb r16_ := hc18_
      refine g_st (st2 := [(0, r16_)]) rfl ?_
      refine g_if_eq C (off := 15) (tgt := 34) (c32_cb hc18_) (by decide +kernel) (by decide) (fun hc19_ => ?_) (fun hc19_ => ?_)
      · replace h := ite_t hc19_ h
        refine g_sub (lo2 := [(2, 0), (9, 0), (9, 0), (9, 0), (9, 0)]) (lsb_v (lsb_c (lsb_c (lsb_c (lsb_c lsb_e))))) ?_
        exact ok_Mo_fact_b34 C hlk hr d15_  h
      · replace h := ite_f hc19_ h
        refine g_iload C 4 rfl (by decide +kernel) ?_
        refine g_if_lt C (off := 10) (tgt := 34) hp4 (by decide +kernel) (by decide) (fun hc20_ => ?_) (fun hc20_ => ?_)
        · replace h := ite_t hc20_ h
          refine g_sub (lo2 := [(2, 0), (9, 0), (9, 0), (9, 0), (9, 0)]) (lsb_v (lsb_c (lsb_c (lsb_c (lsb_c lsb_e))))) ?_
          exact ok_Mo_fact_b34 C hlk hr d15_  h
        · replace h := ite_f hc20_ h
          refine g_iload C 4 rfl (by decide +kernel) ?_
          refine g_bipush C 6 (by decide) (by decide +kernel) ?_
          refine g_icmp_le C (off := 9) (tgt := 40) hp4 (cK rfl) (by decide +kernel) (by decide) (fun hc21_ => ?_) (fun hc21_ => ?_)
          · replace h := ite_t hc21_ h
            refine g_sub (lo2 := [(2, 0), (9, 0), (9, 0), (9, 0), (9, 0)]) (lsb_v (lsb_c (lsb_c (lsb_c (lsb_c lsb_e))))) ?_
            exact ok_Mo_fact_b34 C hlk hr d15_  h
          · replace h := ite_f hc21_ h
            refine g_aload_n C 0 rfl (by decide +kernel) ?_
            refine g_aload_n C 0 rfl (by decide +kernel) ?_
            refine g_iload_n C 1 rfl (by decide +kernel) ?_
            refine g_iload_n C 2 rfl (by decide +kernel) ?_
            refine g_iload_n C 3 rfl (by decide +kernel) ?_
            refine g_iload C 4 rfl (by decide +kernel) ?_
            obtain ⟨r23_, d22_, hr24_, h⟩ := bd_some h
            refine g_callV C mw_Mo_factOf [(0, p1), (0, p2), (0, p3), (0, p4)] 0 cl12 rfl (ok_Mo_factOf p1 p2 p3 p4 d15_ hp1 hp2 hp3 hp4 hr24_) cd_B0 (by decide) (nB (by decide)) (ix := 362) lk_1838 lk_1840 lkp_64 ⟨rfl, rfl, Nat.le_of_ble_eq_true rfl, Nat.le_of_ble_eq_true rfl⟩ rfl (rest := [(2, 0)]) rfl (Nat.le_of_ble_eq_true rfl) ⟨Nat.zero_le _, Nat.zero_le _⟩ (by decide +kernel) (fun _ hc25_ => ?_)
            replace hc25_ : c32 r23_ := hc25_
            refine g_st (st2 := [(0, r23_), (2, 0)]) rfl ?_
            obtain ⟨r27_, d26_, hr28_, h⟩ := bd_some h
            refine g_callV C mw_Mo_gives [(0, r23_)] 0 cl12 rfl (ok_Mo_gives r23_ d22_ hc25_ hr28_) cd_B0 (by decide) (nB (by decide)) (ix := 312) lk_1783 lk_1785 lkp_60 ⟨rfl, rfl, Nat.le_of_ble_eq_true rfl, Nat.le_of_ble_eq_true rfl⟩ rfl (rest := []) rfl (Nat.le_of_ble_eq_true rfl) ⟨Nat.zero_le _, Nat.zero_le _⟩ (by decide +kernel) (fun _ hc29_ => ?_)
            replace hc29_ : c32 r27_ := hc29_
            refine g_st (st2 := [(0, r27_)]) rfl ?_
            obtain ⟨rfl, rfl⟩ := ret_inj h
            exact g_iret C hc29_ hlk hr (by decide +kernel)
/-! PollBooksModel.four(I)V -/
def y_Mo_four : MethodName := ⟨"PollBooksModel", "four", "(I)V"⟩
def rm_Mo_four : Room := { frames := 0, cells := 0, slots := 0, locals := 0 }
theorem mw_Mo_four : MW y_Mo_four prog_14_method_36_code 3 none 1 := ⟨lk_1856, lk_14, by decide +kernel⟩
def L_Mo_four_y3 (x1 x2 : Int) (d : Dt) : Option ((Int × Int × Dt) ⊕ ((Dt))) :=
  if x2 < 0 then some (Sum.inr (d)) else ck ((0 : Int) ≤ (d 0 32) ∧ (d 0 32) < 600) (some (Sum.inl (x1, (w32 (x2 + (-8))), (up2 (up2 d 24 ((d 0 32)).toNat (w8 (w8 (ishr x1 x2)))) 0 32 (w32 ((d 0 32) + 1))))))
def L_Mo_four_l3 (x1 x2 : Int) (d : Dt) : Option ((Dt)) := lpF (fun q : Int × Int × Dt => L_Mo_four_y3 q.1 q.2.1 q.2.2) FU (x1, x2, d)
def L_Mo_four (p1 : Int) (d : Dt) : Option (Int × Dt) :=
  lb (L_Mo_four_l3 p1 24 d) (fun q9_ => u0 q9_ (fun d7_ => some (0, d7_)))
set_option maxHeartbeats 4000000 in
theorem ok_Mo_four_y3 {p : Program} {l : Launch} {e : Env} {s : State} {m : MethodId} {args : Array Value} {below : List Frame} {meth : Method} {c : Code} {D : va_G} {cA : Nat → ClassId} {ad : Nat → Nat} {A : Nat → Prop} (C : Cx p s m args c prog_14_method_36_code 3 "PollBooksModel" D cA ad 1 A) {Q : State → Prop} {o : (Int × Int × Dt) ⊕ ((Dt))} (x1 x2 : Int) (d : Dt) (hx1 : c32 x1) (hx2 : c32 x2) (h : L_Mo_four_y3 x1 x2 d = some o) (kb : ∀ (y0 y1 : Int) (e' : Dt), o = .inl (y0, y1, e') → c32 y0 → c32 y1 → G p l e rm_Mo_four s m args below meth c 0 0 Q 3 D cA ad 1 A 3 [(2, 0), (0, y0), (0, y1)] [] e') (k0 : ∀ (e' : Dt), o = .inr (e') → G p l e rm_Mo_four s m args below meth c 0 0 Q 3 D cA ad 1 A 36 [(9, 0), (9, 0), (9, 0)] [] e') : G p l e rm_Mo_four s m args below meth c 0 0 Q 3 D cA ad 1 A 3 [(2, 0), (0, x1), (0, x2)] [] d := by
  unfold L_Mo_four_y3 at h
  refine g_iload_n C 2 rfl (by decide +kernel) ?_
  refine g_if_lt C (off := 32) (tgt := 36) hx2 (by decide +kernel) (by decide) (fun hc1_ => ?_) (fun hc1_ => ?_)
  · replace h := ite_t hc1_ h
    refine g_sub (lo2 := [(9, 0), (9, 0), (9, 0)]) (lsb_c (lsb_c (lsb_c lsb_e))) ?_
    obtain rfl := Option.some.inj h
    exact k0 d rfl 
  · replace h := ite_f hc1_ h
    refine g_aload_n C 0 rfl (by decide +kernel) ?_
    refine g_getR C cl12 0 30 24 rfl cd_B0 ⟨by decide, rfl, by decide⟩ rfl rfl (nB (by decide)) (ix := 85) lk_1432 (by decide +kernel) ?_
    refine g_aload_n C 0 rfl (by decide +kernel) ?_
    refine g_getI C cl12 0 32 rfl cd_B0 ⟨by decide, rfl, by decide⟩ rfl (nB (by decide)) (ix := 366) lk_1434 (by decide +kernel) (fun hc2_ => ?_)
    refine g_iload_n C 1 rfl (by decide +kernel) ?_
    refine g_iload_n C 2 rfl (by decide +kernel) ?_
    refine g_ishr C (by decide +kernel) ?_
    refine g_i2b C (i_c _) (by decide +kernel) ?_
    obtain ⟨hb3_, h⟩ := ck_some h
    refine g_bast C 24 (c32_8 _) hc2_ rfl cd_B24 (nB (by decide)) hb3_ (by decide +kernel) ?_
    refine g_aload_n C 0 rfl (by decide +kernel) ?_
    refine g_dup C tg2 (by decide +kernel) ?_
    refine g_getI C cl12 0 32 rfl cd_B0 ⟨by decide, rfl, by decide⟩ rfl (nB (by decide)) (ix := 366) lk_1434 (by decide +kernel) (fun hc4_ => ?_)
    refine g_val (y := (d 0 32)) rfl ?_
    replace hc4_ : c32 (d 0 32) := hc4_
    refine g_iconst C 1 (cK rfl) (by decide +kernel) ?_
    refine g_iadd C (by decide +kernel) ?_
    refine g_putI C cl12 0 32 (w32_c _) rfl cd_B0 ⟨by decide, rfl, by decide⟩ rfl (nB (by decide)) (ix := 366) lk_1434 rfl rfl (by decide +kernel) ?_
    refine s_iinc C 2 (-8) (lo' := [(2, 0), (0, x1), (0, (w32 (x2 + (-8))))]) rfl (by decide) (s1k (s1n (by decide) s1z)) (by decide +kernel) ?_
    refine g_goto C 3 (off := (-30)) (by decide +kernel) (by decide) ?_
    refine g_sub (lo2 := [(2, 0), (0, x1), (0, (w32 (x2 + (-8))))]) (lsb_v (lsb_v (lsb_v lsb_e))) ?_
    obtain rfl := Option.some.inj h
    exact kb x1 (w32 (x2 + (-8))) (up2 (up2 d 24 ((d 0 32)).toNat (w8 (w8 (ishr x1 x2)))) 0 32 (w32 ((d 0 32) + 1))) rfl hx1 (w32_c _)
set_option maxHeartbeats 4000000 in
theorem ok_Mo_four_n3 {p : Program} {l : Launch} {e : Env} {s : State} {m : MethodId} {args : Array Value} {below : List Frame} {meth : Method} {c : Code} {D : va_G} {cA : Nat → ClassId} {ad : Nat → Nat} {A : Nat → Prop} (C : Cx p s m args c prog_14_method_36_code 3 "PollBooksModel" D cA ad 1 A) {Q : State → Prop} {x : (Dt)} : ∀ (n : Nat) (x1 x2 : Int) (d : Dt), c32 x1 → c32 x2 → lpF (fun q : Int × Int × Dt => L_Mo_four_y3 q.1 q.2.1 q.2.2) n (x1, x2, d) = some x → (∀ (e' : Dt), x = (e') → G p l e rm_Mo_four s m args below meth c 0 0 Q 3 D cA ad 1 A 36 [(9, 0), (9, 0), (9, 0)] [] e') → G p l e rm_Mo_four s m args below meth c 0 0 Q 3 D cA ad 1 A 3 [(2, 0), (0, x1), (0, x2)] [] d := by
  intro n
  induction n with
  | zero => intro x1 x2 d g0 g1 h k0; cases h
  | succ n ih =>
    intro x1 x2 d g0 g1 h k0
    rcases lpF_some h with h | ⟨⟨v0_, v1_, e0_⟩, h1, h⟩
    · exact ok_Mo_four_y3 C x1 x2 d g0 g1 h (fun z0_ z1_ e1_ eq w0_ w1_ => by cases eq) (fun e1_ eq => k0 _ (by cases eq; rfl) )
    · exact ok_Mo_four_y3 C x1 x2 d g0 g1 h1 (fun z0_ z1_ e1_ eq w0_ w1_ => by cases eq; exact ih _ _ _ w0_ w1_ h k0) (fun e1_ eq => by cases eq)
set_option maxHeartbeats 4000000 in
theorem ok_Mo_four_l3 {p : Program} {l : Launch} {e : Env} {s : State} {m : MethodId} {args : Array Value} {below : List Frame} {meth : Method} {c : Code} {D : va_G} {cA : Nat → ClassId} {ad : Nat → Nat} {A : Nat → Prop} (C : Cx p s m args c prog_14_method_36_code 3 "PollBooksModel" D cA ad 1 A) {Q : State → Prop} {x : (Dt)} (x1 x2 : Int) (d : Dt) (hx1 : c32 x1) (hx2 : c32 x2) (h : L_Mo_four_l3 x1 x2 d = some x) (k0 : ∀ (e' : Dt), x = (e') → G p l e rm_Mo_four s m args below meth c 0 0 Q 3 D cA ad 1 A 36 [(9, 0), (9, 0), (9, 0)] [] e') : G p l e rm_Mo_four s m args below meth c 0 0 Q 3 D cA ad 1 A 3 [(2, 0), (0, x1), (0, x2)] [] d :=
  ok_Mo_four_n3 C FU x1 x2 d hx1 hx2 h k0
set_option maxHeartbeats 4000000 in
theorem ok_Mo_four {l : Launch} {r : Int} {d' : Dt} (p1 : Int) (d : Dt) (hp1 : c32 p1) (h : L_Mo_four p1 d = some (r, d')) : MC l y_Mo_four prog_14_method_36_code 3 none rm_Mo_four 1 [(2, 0), (0, p1)] d none d' := by
  refine MC.of (by decide) (Nat.le_of_ble_eq_true rfl) ?_
  intro p e s m args below meth c D cA ad A C hlk hr
  replace C : Cx p s m args c prog_14_method_36_code 3 "PollBooksModel" D cA ad 1 A := C
  show G p l e rm_Mo_four s m args below meth c 0 0 (MQ below (fun _ => QC D cA ad 1 A none none d') args s 0 0 A) 3 D cA ad 1 A 0 [(2, 0), (0, p1)] [] d
  refine g_sub (lo2 := [(2, 0), (0, p1), (9, 0)]) (lsb_v (lsb_v (lsb_n lsb_e))) ?_
  unfold L_Mo_four at h
  refine g_bipush C 24 (by decide) (by decide +kernel) ?_
  refine s_istore_n C 2 (lo' := [(2, 0), (0, p1), (0, 24)]) (by decide) (s1k (s1n (by decide) s1z)) (by decide +kernel) ?_
  refine g_sub (lo2 := [(2, 0), (0, p1), (0, 24)]) (lsb_v (lsb_v (lsb_v lsb_e))) ?_
  obtain ⟨x5_, hx6_, h⟩ := lb_some h
  refine ok_Mo_four_l3 C p1 24 d hp1 (cK rfl) hx6_ (fun d7_ eq8_ => ?_)
  replace eq8_ := eq8_.symm
  subst eq8_
  replace h := u0_e h
  obtain ⟨rfl, rfl⟩ := ret_inj h
  exact g_vret C hlk hr (by decide +kernel)
/-! PollBooksModel.feed(IIIII)I -/
def y_Mo_feed : MethodName := ⟨"PollBooksModel", "feed", "(IIIII)I"⟩
def rm_Mo_feed : Room := { frames := 1, cells := 0, slots := 0, locals := 22 }
theorem mw_Mo_feed : MW y_Mo_feed prog_14_method_35_code 6 (some .int) 5 := ⟨lk_1852, lk_14, by decide +kernel⟩
def L_Mo_feed (p1 p2 p3 p4 p5 : Int) (d : Dt) : Option (Int × Dt) :=
  if 600 < (w32 ((d 0 32) + 20)) then some ((-1), d) else bd (L_Mo_four p1 d) (fun r4_ d3_ => bd (L_Mo_four p2 d3_) (fun r8_ d7_ => bd (L_Mo_four p3 d7_) (fun r12_ d11_ => bd (L_Mo_four p4 d11_) (fun r16_ d15_ => bd (L_Mo_four p5 d15_) (fun r20_ d19_ => some ((d19_ 0 32), d19_))))))
set_option maxHeartbeats 4000000 in
theorem ok_Mo_feed {l : Launch} {r : Int} {d' : Dt} (p1 p2 p3 p4 p5 : Int) (d : Dt) (hp1 : c32 p1) (hp2 : c32 p2) (hp3 : c32 p3) (hp4 : c32 p4) (hp5 : c32 p5) (h : L_Mo_feed p1 p2 p3 p4 p5 d = some (r, d')) : MC l y_Mo_feed prog_14_method_35_code 6 (some .int) rm_Mo_feed 1 [(2, 0), (0, p1), (0, p2), (0, p3), (0, p4), (0, p5)] d (some (0, r)) d' := by
  refine MC.of (by decide) (Nat.le_of_ble_eq_true rfl) ?_
  intro p e s m args below meth c D cA ad A C hlk hr
  replace C : Cx p s m args c prog_14_method_35_code 6 "PollBooksModel" D cA ad 1 A := C
  show G p l e rm_Mo_feed s m args below meth c 0 0 (MQ below (fun _ => QC D cA ad 1 A (some .int) (some (0, r)) d') args s 0 0 A) 6 D cA ad 1 A 0 [(2, 0), (0, p1), (0, p2), (0, p3), (0, p4), (0, p5)] [] d
  refine g_sub (lo2 := [(2, 0), (0, p1), (0, p2), (0, p3), (0, p4), (0, p5)]) (lsb_v (lsb_v (lsb_v (lsb_v (lsb_v (lsb_v lsb_e)))))) ?_
  unfold L_Mo_feed at h
  refine g_aload_n C 0 rfl (by decide +kernel) ?_
  refine g_getI C cl12 0 32 rfl cd_B0 ⟨by decide, rfl, by decide⟩ rfl (nB (by decide)) (ix := 366) lk_1434 (by decide +kernel) (fun hc1_ => ?_)
  refine g_bipush C 20 (by decide) (by decide +kernel) ?_
  refine g_iadd C (by decide +kernel) ?_
  refine g_sipush C 600 (by decide) (by decide +kernel) ?_
  refine g_icmp_le C (off := 5) (tgt := 15) (w32_c _) (cK rfl) (by decide +kernel) (by decide) (fun hc2_ => ?_) (fun hc2_ => ?_)
  · replace h := ite_t hc2_ h
    refine g_iconst C (-1) (cK rfl) (by decide +kernel) ?_
    obtain ⟨rfl, rfl⟩ := ret_inj h
    exact g_iret C (cK rfl) hlk hr (by decide +kernel)
  · replace h := ite_f hc2_ h
    refine g_aload_n C 0 rfl (by decide +kernel) ?_
    refine g_iload_n C 1 rfl (by decide +kernel) ?_
    obtain ⟨r4_, d3_, hr5_, h⟩ := bd_some h
    refine g_callV C mw_Mo_four [(0, p1)] 0 cl12 rfl (ok_Mo_four p1 d hp1 hr5_) cd_B0 (by decide) (nB (by decide)) (ix := 369) lk_1853 lk_1855 lkp_66 ⟨rfl, rfl, Nat.le_of_ble_eq_true rfl, Nat.le_of_ble_eq_true rfl⟩ rfl (rest := []) rfl (Nat.le_of_ble_eq_true rfl) ⟨Nat.zero_le _, Nat.zero_le _⟩ (by decide +kernel) (fun _ hc6_ => ?_)
    refine g_st (st2 := []) rfl ?_
    refine g_aload_n C 0 rfl (by decide +kernel) ?_
    refine g_iload_n C 2 rfl (by decide +kernel) ?_
    obtain ⟨r8_, d7_, hr9_, h⟩ := bd_some h
    refine g_callV C mw_Mo_four [(0, p2)] 0 cl12 rfl (ok_Mo_four p2 d3_ hp2 hr9_) cd_B0 (by decide) (nB (by decide)) (ix := 369) lk_1853 lk_1855 lkp_66 ⟨rfl, rfl, Nat.le_of_ble_eq_true rfl, Nat.le_of_ble_eq_true rfl⟩ rfl (rest := []) rfl (Nat.le_of_ble_eq_true rfl) ⟨Nat.zero_le _, Nat.zero_le _⟩ (by decide +kernel) (fun _ hc10_ => ?_)
    refine g_st (st2 := []) rfl ?_
    refine g_aload_n C 0 rfl (by decide +kernel) ?_
    refine g_iload_n C 3 rfl (by decide +kernel) ?_
    obtain ⟨r12_, d11_, hr13_, h⟩ := bd_some h
    refine g_callV C mw_Mo_four [(0, p3)] 0 cl12 rfl (ok_Mo_four p3 d7_ hp3 hr13_) cd_B0 (by decide) (nB (by decide)) (ix := 369) lk_1853 lk_1855 lkp_66 ⟨rfl, rfl, Nat.le_of_ble_eq_true rfl, Nat.le_of_ble_eq_true rfl⟩ rfl (rest := []) rfl (Nat.le_of_ble_eq_true rfl) ⟨Nat.zero_le _, Nat.zero_le _⟩ (by decide +kernel) (fun _ hc14_ => ?_)
    refine g_st (st2 := []) rfl ?_
    refine g_aload_n C 0 rfl (by decide +kernel) ?_
    refine g_iload C 4 rfl (by decide +kernel) ?_
    obtain ⟨r16_, d15_, hr17_, h⟩ := bd_some h
    refine g_callV C mw_Mo_four [(0, p4)] 0 cl12 rfl (ok_Mo_four p4 d11_ hp4 hr17_) cd_B0 (by decide) (nB (by decide)) (ix := 369) lk_1853 lk_1855 lkp_66 ⟨rfl, rfl, Nat.le_of_ble_eq_true rfl, Nat.le_of_ble_eq_true rfl⟩ rfl (rest := []) rfl (Nat.le_of_ble_eq_true rfl) ⟨Nat.zero_le _, Nat.zero_le _⟩ (by decide +kernel) (fun _ hc18_ => ?_)
    refine g_st (st2 := []) rfl ?_
    refine g_aload_n C 0 rfl (by decide +kernel) ?_
    refine g_iload C 5 rfl (by decide +kernel) ?_
    obtain ⟨r20_, d19_, hr21_, h⟩ := bd_some h
    refine g_callV C mw_Mo_four [(0, p5)] 0 cl12 rfl (ok_Mo_four p5 d15_ hp5 hr21_) cd_B0 (by decide) (nB (by decide)) (ix := 369) lk_1853 lk_1855 lkp_66 ⟨rfl, rfl, Nat.le_of_ble_eq_true rfl, Nat.le_of_ble_eq_true rfl⟩ rfl (rest := []) rfl (Nat.le_of_ble_eq_true rfl) ⟨Nat.zero_le _, Nat.zero_le _⟩ (by decide +kernel) (fun _ hc22_ => ?_)
    refine g_st (st2 := []) rfl ?_
    refine g_aload_n C 0 rfl (by decide +kernel) ?_
    refine g_getI C cl12 0 32 rfl cd_B0 ⟨by decide, rfl, by decide⟩ rfl (nB (by decide)) (ix := 366) lk_1434 (by decide +kernel) (fun hc23_ => ?_)
    obtain ⟨rfl, rfl⟩ := ret_inj h
    exact g_iret C hc23_ hlk hr (by decide +kernel)
/-! PollBooksModel.at(I)I -/
def y_Mo_at : MethodName := ⟨"PollBooksModel", "at", "(I)I"⟩
def rm_Mo_at : Room := { frames := 0, cells := 0, slots := 0, locals := 0 }
theorem mw_Mo_at : MW y_Mo_at prog_14_method_37_code 2 (some .int) 1 := ⟨lk_1868, lk_14, by decide +kernel⟩
def L_Mo_at (p1 : Int) (d : Dt) : Option (Int × Dt) :=
  if p1 < (d 0 33) then ck ((0 : Int) ≤ p1 ∧ p1 < 600) (some ((iand (d 25 p1.toNat) 255), d)) else some ((-1), d)
set_option maxHeartbeats 4000000 in
theorem ok_Mo_at {l : Launch} {r : Int} {d' : Dt} (p1 : Int) (d : Dt) (hp1 : c32 p1) (h : L_Mo_at p1 d = some (r, d')) : MC l y_Mo_at prog_14_method_37_code 2 (some .int) rm_Mo_at 1 [(2, 0), (0, p1)] d (some (0, r)) d' := by
  refine MC.of (by decide) (Nat.le_of_ble_eq_true rfl) ?_
  intro p e s m args below meth c D cA ad A C hlk hr
  replace C : Cx p s m args c prog_14_method_37_code 2 "PollBooksModel" D cA ad 1 A := C
  show G p l e rm_Mo_at s m args below meth c 0 0 (MQ below (fun _ => QC D cA ad 1 A (some .int) (some (0, r)) d') args s 0 0 A) 2 D cA ad 1 A 0 [(2, 0), (0, p1)] [] d
  refine g_sub (lo2 := [(2, 0), (0, p1)]) (lsb_v (lsb_v lsb_e)) ?_
  unfold L_Mo_at at h
  refine g_iload_n C 1 rfl (by decide +kernel) ?_
  refine g_aload_n C 0 rfl (by decide +kernel) ?_
  refine g_getI C cl12 0 33 rfl cd_B0 ⟨by decide, rfl, by decide⟩ rfl (nB (by decide)) (ix := 373) lk_1435 (by decide +kernel) (fun hc1_ => ?_)
  refine g_icmp_ge C (off := 16) (tgt := 21) hp1 hc1_ (by decide +kernel) (by decide) (fun hc2_ => ?_) (fun hc2_ => ?_)
  · replace h := ite_t hc2_ h
    refine g_aload_n C 0 rfl (by decide +kernel) ?_
    refine g_getR C cl12 0 31 25 rfl cd_B0 ⟨by decide, rfl, by decide⟩ rfl rfl (nB (by decide)) (ix := 89) lk_1433 (by decide +kernel) ?_
    refine g_iload_n C 1 rfl (by decide +kernel) ?_
    obtain ⟨hb3_, h⟩ := ck_some h
    refine g_bald C 25 hp1 rfl cd_B25 (nB (by decide)) hb3_ (by decide +kernel) (fun hc4_ => ?_)
    refine g_sipush C 255 (by decide) (by decide +kernel) ?_
    refine g_iand C (by decide +kernel) ?_
    refine g_goto C 22 (off := 4) (by decide +kernel) (by decide) ?_
    obtain ⟨rfl, rfl⟩ := ret_inj h
    exact g_iret C (i_c _) hlk hr (by decide +kernel)
  · replace h := ite_f hc2_ h
    refine g_iconst C (-1) (cK rfl) (by decide +kernel) ?_
    obtain ⟨rfl, rfl⟩ := ret_inj h
    exact g_iret C (cK rfl) hlk hr (by decide +kernel)
/-! PollBooksModel.isSmall(I)Z -/
def y_Mo_isSmall : MethodName := ⟨"PollBooksModel", "isSmall", "(I)Z"⟩
def rm_Mo_isSmall : Room := { frames := 0, cells := 0, slots := 0, locals := 0 }
theorem mw_Mo_isSmall : MW y_Mo_isSmall prog_14_method_38_code 1 (some .boolean) 1 := ⟨lk_1871, lk_14, by decide +kernel⟩
def L_Mo_isSmall (p1 : Int) (d : Dt) : Option (Int × Dt) :=
  if p1 < 97 then some (0, d) else if 122 < p1 then some (0, d) else some (1, d)
set_option maxHeartbeats 4000000 in
theorem ok_Mo_isSmall {l : Launch} {r : Int} {d' : Dt} (p1 : Int) (d : Dt) (hp1 : c32 p1) (h : L_Mo_isSmall p1 d = some (r, d')) : MC l y_Mo_isSmall prog_14_method_38_code 1 (some .boolean) rm_Mo_isSmall 1 [(0, p1)] d (some (0, r)) d' := by
  refine MC.of (by decide) (Nat.le_of_ble_eq_true rfl) ?_
  intro p e s m args below meth c D cA ad A C hlk hr
  replace C : Cx p s m args c prog_14_method_38_code 1 "PollBooksModel" D cA ad 1 A := C
  show G p l e rm_Mo_isSmall s m args below meth c 0 0 (MQ below (fun _ => QC D cA ad 1 A (some .boolean) (some (0, r)) d') args s 0 0 A) 1 D cA ad 1 A 0 [(0, p1)] [] d
  refine g_sub (lo2 := [(0, p1)]) (lsb_v lsb_e) ?_
  unfold L_Mo_isSmall at h
  refine g_iload_n C 0 rfl (by decide +kernel) ?_
  refine g_bipush C 97 (by decide) (by decide +kernel) ?_
  refine g_icmp_lt C (off := 13) (tgt := 16) hp1 (cK rfl) (by decide +kernel) (by decide) (fun hc1_ => ?_) (fun hc1_ => ?_)
  · replace h := ite_t hc1_ h
    refine g_iconst C 0 (cK rfl) (by decide +kernel) ?_
    obtain ⟨rfl, rfl⟩ := ret_inj h
    exact g_zret C (Or.inl rfl) hlk hr (by decide +kernel)
  · replace h := ite_f hc1_ h
    refine g_iload_n C 0 rfl (by decide +kernel) ?_
    refine g_bipush C 122 (by decide) (by decide +kernel) ?_
    refine g_icmp_gt C (off := 7) (tgt := 16) hp1 (cK rfl) (by decide +kernel) (by decide) (fun hc2_ => ?_) (fun hc2_ => ?_)
    · replace h := ite_t hc2_ h
      refine g_iconst C 0 (cK rfl) (by decide +kernel) ?_
      obtain ⟨rfl, rfl⟩ := ret_inj h
      exact g_zret C (Or.inl rfl) hlk hr (by decide +kernel)
    · replace h := ite_f hc2_ h
      refine g_iconst C 1 (cK rfl) (by decide +kernel) ?_
      refine g_goto C 17 (off := 4) (by decide +kernel) (by decide) ?_
      obtain ⟨rfl, rfl⟩ := ret_inj h
      exact g_zret C (Or.inr rfl) hlk hr (by decide +kernel)
/-! PollBooksModel.isDigit(I)Z -/
def y_Mo_isDigit : MethodName := ⟨"PollBooksModel", "isDigit", "(I)Z"⟩
def rm_Mo_isDigit : Room := { frames := 0, cells := 0, slots := 0, locals := 0 }
theorem mw_Mo_isDigit : MW y_Mo_isDigit prog_14_method_39_code 1 (some .boolean) 1 := ⟨lk_1874, lk_14, by decide +kernel⟩
def L_Mo_isDigit (p1 : Int) (d : Dt) : Option (Int × Dt) :=
  if p1 < 48 then some (0, d) else if 57 < p1 then some (0, d) else some (1, d)
set_option maxHeartbeats 4000000 in
theorem ok_Mo_isDigit {l : Launch} {r : Int} {d' : Dt} (p1 : Int) (d : Dt) (hp1 : c32 p1) (h : L_Mo_isDigit p1 d = some (r, d')) : MC l y_Mo_isDigit prog_14_method_39_code 1 (some .boolean) rm_Mo_isDigit 1 [(0, p1)] d (some (0, r)) d' := by
  refine MC.of (by decide) (Nat.le_of_ble_eq_true rfl) ?_
  intro p e s m args below meth c D cA ad A C hlk hr
  replace C : Cx p s m args c prog_14_method_39_code 1 "PollBooksModel" D cA ad 1 A := C
  show G p l e rm_Mo_isDigit s m args below meth c 0 0 (MQ below (fun _ => QC D cA ad 1 A (some .boolean) (some (0, r)) d') args s 0 0 A) 1 D cA ad 1 A 0 [(0, p1)] [] d
  refine g_sub (lo2 := [(0, p1)]) (lsb_v lsb_e) ?_
  unfold L_Mo_isDigit at h
  refine g_iload_n C 0 rfl (by decide +kernel) ?_
  refine g_bipush C 48 (by decide) (by decide +kernel) ?_
  refine g_icmp_lt C (off := 13) (tgt := 16) hp1 (cK rfl) (by decide +kernel) (by decide) (fun hc1_ => ?_) (fun hc1_ => ?_)
  · replace h := ite_t hc1_ h
    refine g_iconst C 0 (cK rfl) (by decide +kernel) ?_
    obtain ⟨rfl, rfl⟩ := ret_inj h
    exact g_zret C (Or.inl rfl) hlk hr (by decide +kernel)
  · replace h := ite_f hc1_ h
    refine g_iload_n C 0 rfl (by decide +kernel) ?_
    refine g_bipush C 57 (by decide) (by decide +kernel) ?_
    refine g_icmp_gt C (off := 7) (tgt := 16) hp1 (cK rfl) (by decide +kernel) (by decide) (fun hc2_ => ?_) (fun hc2_ => ?_)
    · replace h := ite_t hc2_ h
      refine g_iconst C 0 (cK rfl) (by decide +kernel) ?_
      obtain ⟨rfl, rfl⟩ := ret_inj h
      exact g_zret C (Or.inl rfl) hlk hr (by decide +kernel)
    · replace h := ite_f hc2_ h
      refine g_iconst C 1 (cK rfl) (by decide +kernel) ?_
      refine g_goto C 17 (off := 4) (by decide +kernel) (by decide) ?_
      obtain ⟨rfl, rfl⟩ := ret_inj h
      exact g_zret C (Or.inr rfl) hlk hr (by decide +kernel)
/-! PollBooksModel.next()V -/
def y_Mo_next : MethodName := ⟨"PollBooksModel", "next", "()V"⟩
def rm_Mo_next : Room := { frames := 1, cells := 0, slots := 0, locals := 21 }
theorem mw_Mo_next : MW y_Mo_next prog_14_method_40_code 3 none 0 := ⟨lk_1864, lk_14, by decide +kernel⟩
def L_Mo_next_y81 (d : Dt) : Option ((Dt) ⊕ ((Dt))) :=
  bd (L_Mo_at (d 0 36) d) (fun r3_ d2_ => bd (L_Mo_isSmall r3_ d2_) (fun r7_ d6_ => if r7_ = 0 then some (Sum.inr (d6_)) else some (Sum.inl ((up2 d6_ 0 36 (w32 ((d6_ 0 36) + 1)))))))
def L_Mo_next_l81 (d : Dt) : Option ((Dt)) := lpF (fun q : Dt => L_Mo_next_y81 q) FU (d)
def L_Mo_next_y128 (d : Dt) : Option ((Dt) ⊕ ((Dt))) :=
  bd (L_Mo_at (d 0 36) d) (fun r14_ d13_ => bd (L_Mo_isDigit r14_ d13_) (fun r18_ d17_ => if r18_ = 0 then some (Sum.inr (d17_)) else bd (L_Mo_at (d17_ 0 36) d17_) (fun r25_ d24_ => some (Sum.inl ((up2 (up2 d24_ 0 37 (jmin 1000000 (w32 ((w32 ((w32 (10 * (d17_ 0 37))) + r25_)) - 48)))) 0 36 (w32 ((d24_ 0 36) + 1))))))))
def L_Mo_next_l128 (d : Dt) : Option ((Dt)) := lpF (fun q : Dt => L_Mo_next_y128 q) FU (d)
def L_Mo_next_b26 (d : Dt) : Option ((Dt) ⊕ ((Dt))) :=
  some (Sum.inl ((up2 d 0 36 (w32 ((d 0 36) + 1)))))
def L_Mo_next_y0 (d : Dt) : Option ((Dt) ⊕ ((Dt))) :=
  bd (L_Mo_at (d 0 36) d) (fun r32_ d31_ => if r32_ = 32 then L_Mo_next_b26 d31_ else bd (L_Mo_at (d31_ 0 36) d31_) (fun r38_ d37_ => if r38_ = 10 then L_Mo_next_b26 d37_ else some (Sum.inr (d37_))))
def L_Mo_next_l0 (d : Dt) : Option ((Dt)) := lpF (fun q : Dt => L_Mo_next_y0 q) FU (d)
def L_Mo_next_b295 (s1 : Int) (d : Dt) : Option (Int × Dt) :=
  some (0, (up2 d 0 34 s1))
def L_Mo_next_b284 (s0 : Int) (d : Dt) : Option (Int × Dt) :=
  if s0 = 0 then L_Mo_next_b295 1 d else L_Mo_next_b295 4 d
def L_Mo_next_b203 (s1 : Int) (d : Dt) : Option (Int × Dt) :=
  some (0, (up2 d 0 34 s1))
def L_Mo_next (d : Dt) : Option (Int × Dt) :=
  lb (L_Mo_next_l0 d) (fun q88_ => u0 q88_ (fun d45_ => bd (L_Mo_at (d45_ 0 36) (up2 d45_ 0 35 (d45_ 0 36))) (fun r50_ d49_ => if r50_ = (-1) then some (0, (up2 (up2 d49_ 0 37 r50_) 0 34 0)) else bd (L_Mo_isSmall r50_ (up2 d49_ 0 37 r50_)) (fun r55_ d54_ => if r55_ = 0 then bd (L_Mo_isDigit r50_ d54_) (fun r60_ d59_ => if r60_ = 0 then if r50_ = 59 then L_Mo_next_b284 1 (up2 d59_ 0 36 (w32 ((d59_ 0 36) + 1))) else if r50_ = 58 then L_Mo_next_b284 1 (up2 d59_ 0 36 (w32 ((d59_ 0 36) + 1))) else if r50_ = 60 then L_Mo_next_b284 1 (up2 d59_ 0 36 (w32 ((d59_ 0 36) + 1))) else if r50_ = 62 then L_Mo_next_b284 1 (up2 d59_ 0 36 (w32 ((d59_ 0 36) + 1))) else if r50_ = 61 then L_Mo_next_b284 1 (up2 d59_ 0 36 (w32 ((d59_ 0 36) + 1))) else if r50_ = 43 then L_Mo_next_b284 1 (up2 d59_ 0 36 (w32 ((d59_ 0 36) + 1))) else if r50_ = 45 then L_Mo_next_b284 1 (up2 d59_ 0 36 (w32 ((d59_ 0 36) + 1))) else if r50_ = 42 then L_Mo_next_b284 1 (up2 d59_ 0 36 (w32 ((d59_ 0 36) + 1))) else if r50_ = 40 then L_Mo_next_b284 1 (up2 d59_ 0 36 (w32 ((d59_ 0 36) + 1))) else if r50_ = 41 then L_Mo_next_b284 1 (up2 d59_ 0 36 (w32 ((d59_ 0 36) + 1))) else L_Mo_next_b284 0 (up2 d59_ 0 36 (w32 ((d59_ 0 36) + 1))) else lb (L_Mo_next_l128 (up2 d59_ 0 37 0)) (fun q82_ => u0 q82_ (fun d77_ => if 5 < (w32 ((d77_ 0 36) - (d77_ 0 35))) then L_Mo_next_b203 1 d77_ else L_Mo_next_b203 3 d77_))) else lb (L_Mo_next_l81 d54_) (fun q87_ => u0 q87_ (fun d85_ => some (0, (up2 d85_ 0 34 2))))))))
set_option maxHeartbeats 4000000 in
theorem ok_Mo_next_y81 {p : Program} {l : Launch} {e : Env} {s : State} {m : MethodId} {args : Array Value} {below : List Frame} {meth : Method} {c : Code} {D : va_G} {cA : Nat → ClassId} {ad : Nat → Nat} {A : Nat → Prop} (C : Cx p s m args c prog_14_method_40_code 3 "PollBooksModel" D cA ad 1 A) {Q : State → Prop} {o : (Dt) ⊕ ((Dt))} (d : Dt)  (h : L_Mo_next_y81 d = some o) (kb : ∀ (e' : Dt), o = .inl (e') → G p l e rm_Mo_next s m args below meth c 0 0 Q 3 D cA ad 1 A 81 [(2, 0), (9, 0), (9, 0)] [] e') (k0 : ∀ (e' : Dt), o = .inr (e') → G p l e rm_Mo_next s m args below meth c 0 0 Q 3 D cA ad 1 A 108 [(2, 0), (9, 0), (9, 0)] [] e') : G p l e rm_Mo_next s m args below meth c 0 0 Q 3 D cA ad 1 A 81 [(2, 0), (9, 0), (9, 0)] [] d := by
  unfold L_Mo_next_y81 at h
  refine g_aload_n C 0 rfl (by decide +kernel) ?_
  refine g_aload_n C 0 rfl (by decide +kernel) ?_
  refine g_getI C cl12 0 36 rfl cd_B0 ⟨by decide, rfl, by decide⟩ rfl (nB (by decide)) (ix := 376) lk_1438 (by decide +kernel) (fun hc1_ => ?_)
  obtain ⟨r3_, d2_, hr4_, h⟩ := bd_some h
  refine g_callV C mw_Mo_at [(0, (d 0 36))] 0 cl12 rfl (ok_Mo_at (d 0 36) d hc1_ hr4_) cd_B0 (by decide) (nB (by decide)) (ix := 379) lk_1865 lk_1867 lkp_68 ⟨rfl, rfl, Nat.le_of_ble_eq_true rfl, Nat.le_of_ble_eq_true rfl⟩ rfl (rest := []) rfl (Nat.le_of_ble_eq_true rfl) ⟨Nat.zero_le _, Nat.zero_le _⟩ (by decide +kernel) (fun _ hc5_ => ?_)
  replace hc5_ : c32 r3_ := hc5_
  refine g_st (st2 := [(0, r3_)]) rfl ?_
  obtain ⟨r7_, d6_, hr8_, h⟩ := bd_some h
  refine g_callS C mw_Mo_isSmall [(0, r3_)] (ok_Mo_isSmall r3_ d2_ hc5_ hr8_) (ix := 391) lk_1869 lk_1870 ⟨rfl, rfl, Nat.le_of_ble_eq_true rfl, Nat.le_of_ble_eq_true rfl⟩ rfl (rest := []) rfl (Nat.le_of_ble_eq_true rfl) ⟨Nat.zero_le _, Nat.zero_le _⟩ (by decide +kernel) (fun _ hc9_ => ?_)
  replace hc9_ : cb r7_ := hc9_
  refine g_st (st2 := [(0, r7_)]) rfl ?_
  refine g_if_eq C (off := 16) (tgt := 108) (c32_cb hc9_) (by decide +kernel) (by decide) (fun hc10_ => ?_) (fun hc10_ => ?_)
  · replace h := ite_t hc10_ h
    refine g_sub (lo2 := [(2, 0), (9, 0), (9, 0)]) (lsb_v (lsb_c (lsb_c lsb_e))) ?_
    obtain rfl := Option.some.inj h
    exact k0 d6_ rfl 
  · replace h := ite_f hc10_ h
    refine g_aload_n C 0 rfl (by decide +kernel) ?_
    refine g_dup C tg2 (by decide +kernel) ?_
    refine g_getI C cl12 0 36 rfl cd_B0 ⟨by decide, rfl, by decide⟩ rfl (nB (by decide)) (ix := 376) lk_1438 (by decide +kernel) (fun hc11_ => ?_)
    refine g_iconst C 1 (cK rfl) (by decide +kernel) ?_
    refine g_iadd C (by decide +kernel) ?_
    refine g_putI C cl12 0 36 (w32_c _) rfl cd_B0 ⟨by decide, rfl, by decide⟩ rfl (nB (by decide)) (ix := 376) lk_1438 rfl rfl (by decide +kernel) ?_
    refine g_goto C 81 (off := (-24)) (by decide +kernel) (by decide) ?_
    refine g_sub (lo2 := [(2, 0), (9, 0), (9, 0)]) (lsb_v (lsb_c (lsb_c lsb_e))) ?_
    obtain rfl := Option.some.inj h
    exact kb (up2 d6_ 0 36 (w32 ((d6_ 0 36) + 1))) rfl 
set_option maxHeartbeats 4000000 in
theorem ok_Mo_next_n81 {p : Program} {l : Launch} {e : Env} {s : State} {m : MethodId} {args : Array Value} {below : List Frame} {meth : Method} {c : Code} {D : va_G} {cA : Nat → ClassId} {ad : Nat → Nat} {A : Nat → Prop} (C : Cx p s m args c prog_14_method_40_code 3 "PollBooksModel" D cA ad 1 A) {Q : State → Prop} {x : (Dt)} : ∀ (n : Nat) (d : Dt), lpF (fun q : Dt => L_Mo_next_y81 q) n (d) = some x → (∀ (e' : Dt), x = (e') → G p l e rm_Mo_next s m args below meth c 0 0 Q 3 D cA ad 1 A 108 [(2, 0), (9, 0), (9, 0)] [] e') → G p l e rm_Mo_next s m args below meth c 0 0 Q 3 D cA ad 1 A 81 [(2, 0), (9, 0), (9, 0)] [] d := by
  intro n
  induction n with
  | zero => intro d h k0; cases h
  | succ n ih =>
    intro d h k0
    rcases lpF_some h with h | ⟨e0_, h1, h⟩
    · exact ok_Mo_next_y81 C d  h (fun e1_ eq => by cases eq) (fun e1_ eq => k0 _ (by cases eq; rfl) )
    · exact ok_Mo_next_y81 C d  h1 (fun e1_ eq => by cases eq; exact ih _  h k0) (fun e1_ eq => by cases eq)
set_option maxHeartbeats 4000000 in
theorem ok_Mo_next_l81 {p : Program} {l : Launch} {e : Env} {s : State} {m : MethodId} {args : Array Value} {below : List Frame} {meth : Method} {c : Code} {D : va_G} {cA : Nat → ClassId} {ad : Nat → Nat} {A : Nat → Prop} (C : Cx p s m args c prog_14_method_40_code 3 "PollBooksModel" D cA ad 1 A) {Q : State → Prop} {x : (Dt)} (d : Dt)  (h : L_Mo_next_l81 d = some x) (k0 : ∀ (e' : Dt), x = (e') → G p l e rm_Mo_next s m args below meth c 0 0 Q 3 D cA ad 1 A 108 [(2, 0), (9, 0), (9, 0)] [] e') : G p l e rm_Mo_next s m args below meth c 0 0 Q 3 D cA ad 1 A 81 [(2, 0), (9, 0), (9, 0)] [] d :=
  ok_Mo_next_n81 C FU d  h k0
set_option maxHeartbeats 4000000 in
theorem ok_Mo_next_y128 {p : Program} {l : Launch} {e : Env} {s : State} {m : MethodId} {args : Array Value} {below : List Frame} {meth : Method} {c : Code} {D : va_G} {cA : Nat → ClassId} {ad : Nat → Nat} {A : Nat → Prop} (C : Cx p s m args c prog_14_method_40_code 3 "PollBooksModel" D cA ad 1 A) {Q : State → Prop} {o : (Dt) ⊕ ((Dt))} (d : Dt)  (h : L_Mo_next_y128 d = some o) (kb : ∀ (e' : Dt), o = .inl (e') → G p l e rm_Mo_next s m args below meth c 0 0 Q 3 D cA ad 1 A 128 [(2, 0), (9, 0), (9, 0)] [] e') (k0 : ∀ (e' : Dt), o = .inr (e') → G p l e rm_Mo_next s m args below meth c 0 0 Q 3 D cA ad 1 A 184 [(2, 0), (9, 0), (9, 0)] [] e') : G p l e rm_Mo_next s m args below meth c 0 0 Q 3 D cA ad 1 A 128 [(2, 0), (9, 0), (9, 0)] [] d := by
  unfold L_Mo_next_y128 at h
  refine g_aload_n C 0 rfl (by decide +kernel) ?_
  refine g_aload_n C 0 rfl (by decide +kernel) ?_
  refine g_getI C cl12 0 36 rfl cd_B0 ⟨by decide, rfl, by decide⟩ rfl (nB (by decide)) (ix := 376) lk_1438 (by decide +kernel) (fun hc12_ => ?_)
  obtain ⟨r14_, d13_, hr15_, h⟩ := bd_some h
  refine g_callV C mw_Mo_at [(0, (d 0 36))] 0 cl12 rfl (ok_Mo_at (d 0 36) d hc12_ hr15_) cd_B0 (by decide) (nB (by decide)) (ix := 379) lk_1865 lk_1867 lkp_68 ⟨rfl, rfl, Nat.le_of_ble_eq_true rfl, Nat.le_of_ble_eq_true rfl⟩ rfl (rest := []) rfl (Nat.le_of_ble_eq_true rfl) ⟨Nat.zero_le _, Nat.zero_le _⟩ (by decide +kernel) (fun _ hc16_ => ?_)
  replace hc16_ : c32 r14_ := hc16_
  refine g_st (st2 := [(0, r14_)]) rfl ?_
  obtain ⟨r18_, d17_, hr19_, h⟩ := bd_some h
  refine g_callS C mw_Mo_isDigit [(0, r14_)] (ok_Mo_isDigit r14_ d13_ hc16_ hr19_) (ix := 394) lk_1872 lk_1873 ⟨rfl, rfl, Nat.le_of_ble_eq_true rfl, Nat.le_of_ble_eq_true rfl⟩ rfl (rest := []) rfl (Nat.le_of_ble_eq_true rfl) ⟨Nat.zero_le _, Nat.zero_le _⟩ (by decide +kernel) (fun _ hc20_ => ?_)
  replace hc20_ : cb r18_ := hc20_
  refine g_st (st2 := [(0, r18_)]) rfl ?_
  refine g_if_eq C (off := 45) (tgt := 184) (c32_cb hc20_) (by decide +kernel) (by decide) (fun hc21_ => ?_) (fun hc21_ => ?_)
  · replace h := ite_t hc21_ h
    refine g_sub (lo2 := [(2, 0), (9, 0), (9, 0)]) (lsb_v (lsb_c (lsb_c lsb_e))) ?_
    obtain rfl := Option.some.inj h
    exact k0 d17_ rfl 
  · replace h := ite_f hc21_ h
    refine g_aload_n C 0 rfl (by decide +kernel) ?_
    refine g_ldcw C (ix := 397) (v := 1000000) lk_1875 (by decide +kernel) ?_
    refine g_bipush C 10 (by decide) (by decide +kernel) ?_
    refine g_aload_n C 0 rfl (by decide +kernel) ?_
    refine g_getI C cl12 0 37 rfl cd_B0 ⟨by decide, rfl, by decide⟩ rfl (nB (by decide)) (ix := 385) lk_1439 (by decide +kernel) (fun hc22_ => ?_)
    refine g_imul C (by decide +kernel) ?_
    refine g_aload_n C 0 rfl (by decide +kernel) ?_
    refine g_aload_n C 0 rfl (by decide +kernel) ?_
    refine g_getI C cl12 0 36 rfl cd_B0 ⟨by decide, rfl, by decide⟩ rfl (nB (by decide)) (ix := 376) lk_1438 (by decide +kernel) (fun hc23_ => ?_)
    obtain ⟨r25_, d24_, hr26_, h⟩ := bd_some h
    refine g_callV C mw_Mo_at [(0, (d17_ 0 36))] 0 cl12 rfl (ok_Mo_at (d17_ 0 36) d17_ hc23_ hr26_) cd_B0 (by decide) (nB (by decide)) (ix := 379) lk_1865 lk_1867 lkp_68 ⟨rfl, rfl, Nat.le_of_ble_eq_true rfl, Nat.le_of_ble_eq_true rfl⟩ rfl (rest := [(0, (w32 (10 * (d17_ 0 37)))), (0, 1000000), (2, 0)]) rfl (Nat.le_of_ble_eq_true rfl) ⟨Nat.zero_le _, Nat.zero_le _⟩ (by decide +kernel) (fun _ hc27_ => ?_)
    replace hc27_ : c32 r25_ := hc27_
    refine g_st (st2 := [(0, r25_), (0, (w32 (10 * (d17_ 0 37)))), (0, 1000000), (2, 0)]) rfl ?_
    refine g_iadd C (by decide +kernel) ?_
    refine g_bipush C 48 (by decide) (by decide +kernel) ?_
    refine g_isub C (by decide +kernel) ?_
    refine g_mmin C (cK rfl) (w32_c _) (ix := 299) lk_1782 lk_601 lk_16 lk_602 ⟨Nat.le_of_ble_eq_true rfl, Nat.le_of_ble_eq_true rfl, Nat.zero_le _, Nat.zero_le _⟩ (Nat.le_of_ble_eq_true rfl) (by decide +kernel) ?_
    refine g_putI C cl12 0 37 (jmin_c (cK rfl) (w32_c _)) rfl cd_B0 ⟨by decide, rfl, by decide⟩ rfl (nB (by decide)) (ix := 385) lk_1439 rfl rfl (by decide +kernel) ?_
    refine g_aload_n C 0 rfl (by decide +kernel) ?_
    refine g_dup C tg2 (by decide +kernel) ?_
    refine g_getI C cl12 0 36 rfl cd_B0 ⟨by decide, rfl, by decide⟩ rfl (nB (by decide)) (ix := 376) lk_1438 (by decide +kernel) (fun hc28_ => ?_)
    refine g_val (y := (d24_ 0 36)) rfl ?_
    replace hc28_ : c32 (d24_ 0 36) := hc28_
    refine g_iconst C 1 (cK rfl) (by decide +kernel) ?_
    refine g_iadd C (by decide +kernel) ?_
    refine g_putI C cl12 0 36 (w32_c _) rfl cd_B0 ⟨by decide, rfl, by decide⟩ rfl (nB (by decide)) (ix := 376) lk_1438 rfl rfl (by decide +kernel) ?_
    refine g_goto C 128 (off := (-53)) (by decide +kernel) (by decide) ?_
    refine g_sub (lo2 := [(2, 0), (9, 0), (9, 0)]) (lsb_v (lsb_c (lsb_c lsb_e))) ?_
    obtain rfl := Option.some.inj h
    exact kb (up2 (up2 d24_ 0 37 (jmin 1000000 (w32 ((w32 ((w32 (10 * (d17_ 0 37))) + r25_)) - 48)))) 0 36 (w32 ((d24_ 0 36) + 1))) rfl 
set_option maxHeartbeats 4000000 in
theorem ok_Mo_next_n128 {p : Program} {l : Launch} {e : Env} {s : State} {m : MethodId} {args : Array Value} {below : List Frame} {meth : Method} {c : Code} {D : va_G} {cA : Nat → ClassId} {ad : Nat → Nat} {A : Nat → Prop} (C : Cx p s m args c prog_14_method_40_code 3 "PollBooksModel" D cA ad 1 A) {Q : State → Prop} {x : (Dt)} : ∀ (n : Nat) (d : Dt), lpF (fun q : Dt => L_Mo_next_y128 q) n (d) = some x → (∀ (e' : Dt), x = (e') → G p l e rm_Mo_next s m args below meth c 0 0 Q 3 D cA ad 1 A 184 [(2, 0), (9, 0), (9, 0)] [] e') → G p l e rm_Mo_next s m args below meth c 0 0 Q 3 D cA ad 1 A 128 [(2, 0), (9, 0), (9, 0)] [] d := by
  intro n
  induction n with
  | zero => intro d h k0; cases h
  | succ n ih =>
    intro d h k0
    rcases lpF_some h with h | ⟨e0_, h1, h⟩
    · exact ok_Mo_next_y128 C d  h (fun e1_ eq => by cases eq) (fun e1_ eq => k0 _ (by cases eq; rfl) )
    · exact ok_Mo_next_y128 C d  h1 (fun e1_ eq => by cases eq; exact ih _  h k0) (fun e1_ eq => by cases eq)
set_option maxHeartbeats 4000000 in
theorem ok_Mo_next_l128 {p : Program} {l : Launch} {e : Env} {s : State} {m : MethodId} {args : Array Value} {below : List Frame} {meth : Method} {c : Code} {D : va_G} {cA : Nat → ClassId} {ad : Nat → Nat} {A : Nat → Prop} (C : Cx p s m args c prog_14_method_40_code 3 "PollBooksModel" D cA ad 1 A) {Q : State → Prop} {x : (Dt)} (d : Dt)  (h : L_Mo_next_l128 d = some x) (k0 : ∀ (e' : Dt), x = (e') → G p l e rm_Mo_next s m args below meth c 0 0 Q 3 D cA ad 1 A 184 [(2, 0), (9, 0), (9, 0)] [] e') : G p l e rm_Mo_next s m args below meth c 0 0 Q 3 D cA ad 1 A 128 [(2, 0), (9, 0), (9, 0)] [] d :=
  ok_Mo_next_n128 C FU d  h k0
set_option maxHeartbeats 4000000 in
theorem ok_Mo_next_b26 {p : Program} {l : Launch} {e : Env} {s : State} {m : MethodId} {args : Array Value} {below : List Frame} {meth : Method} {c : Code} {D : va_G} {cA : Nat → ClassId} {ad : Nat → Nat} {A : Nat → Prop} (C : Cx p s m args c prog_14_method_40_code 3 "PollBooksModel" D cA ad 1 A) {Q : State → Prop} {o : (Dt) ⊕ ((Dt))} (d : Dt)  (h : L_Mo_next_b26 d = some o) (kb : ∀ (e' : Dt), o = .inl (e') → G p l e rm_Mo_next s m args below meth c 0 0 Q 3 D cA ad 1 A 0 [(2, 0), (9, 0), (9, 0)] [] e') (k0 : ∀ (e' : Dt), o = .inr (e') → G p l e rm_Mo_next s m args below meth c 0 0 Q 3 D cA ad 1 A 39 [(2, 0), (9, 0), (9, 0)] [] e') : G p l e rm_Mo_next s m args below meth c 0 0 Q 3 D cA ad 1 A 26 [(2, 0), (9, 0), (9, 0)] [] d := by
  unfold L_Mo_next_b26 at h
  refine g_aload_n C 0 rfl (by decide +kernel) ?_
  refine g_dup C tg2 (by decide +kernel) ?_
  refine g_getI C cl12 0 36 rfl cd_B0 ⟨by decide, rfl, by decide⟩ rfl (nB (by decide)) (ix := 376) lk_1438 (by decide +kernel) (fun hc29_ => ?_)
  refine g_iconst C 1 (cK rfl) (by decide +kernel) ?_
  refine g_iadd C (by decide +kernel) ?_
  refine g_putI C cl12 0 36 (w32_c _) rfl cd_B0 ⟨by decide, rfl, by decide⟩ rfl (nB (by decide)) (ix := 376) lk_1438 rfl rfl (by decide +kernel) ?_
  refine g_goto C 0 (off := (-36)) (by decide +kernel) (by decide) ?_
  refine g_sub (lo2 := [(2, 0), (9, 0), (9, 0)]) (lsb_v (lsb_c (lsb_c lsb_e))) ?_
  obtain rfl := Option.some.inj h
  exact kb (up2 d 0 36 (w32 ((d 0 36) + 1))) rfl 
set_option maxHeartbeats 4000000 in
theorem ok_Mo_next_y0 {p : Program} {l : Launch} {e : Env} {s : State} {m : MethodId} {args : Array Value} {below : List Frame} {meth : Method} {c : Code} {D : va_G} {cA : Nat → ClassId} {ad : Nat → Nat} {A : Nat → Prop} (C : Cx p s m args c prog_14_method_40_code 3 "PollBooksModel" D cA ad 1 A) {Q : State → Prop} {o : (Dt) ⊕ ((Dt))} (d : Dt)  (h : L_Mo_next_y0 d = some o) (kb : ∀ (e' : Dt), o = .inl (e') → G p l e rm_Mo_next s m args below meth c 0 0 Q 3 D cA ad 1 A 0 [(2, 0), (9, 0), (9, 0)] [] e') (k0 : ∀ (e' : Dt), o = .inr (e') → G p l e rm_Mo_next s m args below meth c 0 0 Q 3 D cA ad 1 A 39 [(2, 0), (9, 0), (9, 0)] [] e') : G p l e rm_Mo_next s m args below meth c 0 0 Q 3 D cA ad 1 A 0 [(2, 0), (9, 0), (9, 0)] [] d := by
  unfold L_Mo_next_y0 at h
  refine g_aload_n C 0 rfl (by decide +kernel) ?_
  refine g_aload_n C 0 rfl (by decide +kernel) ?_
  refine g_getI C cl12 0 36 rfl cd_B0 ⟨by decide, rfl, by decide⟩ rfl (nB (by decide)) (ix := 376) lk_1438 (by decide +kernel) (fun hc30_ => ?_)
  obtain ⟨r32_, d31_, hr33_, h⟩ := bd_some h
  refine g_callV C mw_Mo_at [(0, (d 0 36))] 0 cl12 rfl (ok_Mo_at (d 0 36) d hc30_ hr33_) cd_B0 (by decide) (nB (by decide)) (ix := 379) lk_1865 lk_1867 lkp_68 ⟨rfl, rfl, Nat.le_of_ble_eq_true rfl, Nat.le_of_ble_eq_true rfl⟩ rfl (rest := []) rfl (Nat.le_of_ble_eq_true rfl) ⟨Nat.zero_le _, Nat.zero_le _⟩ (by decide +kernel) (fun _ hc34_ => ?_)
  replace hc34_ : c32 r32_ := hc34_
  refine g_st (st2 := [(0, r32_)]) rfl ?_
  refine g_bipush C 32 (by decide) (by decide +kernel) ?_
  refine g_icmp_eq C (off := 16) (tgt := 26) hc34_ (cK rfl) (by decide +kernel) (by decide) (fun hc35_ => ?_) (fun hc35_ => ?_)
  · replace h := ite_t hc35_ h
    refine g_sub (lo2 := [(2, 0), (9, 0), (9, 0)]) (lsb_v (lsb_c (lsb_c lsb_e))) ?_
    exact ok_Mo_next_b26 C d31_  h kb k0
  · replace h := ite_f hc35_ h
    refine g_aload_n C 0 rfl (by decide +kernel) ?_
    refine g_aload_n C 0 rfl (by decide +kernel) ?_
    refine g_getI C cl12 0 36 rfl cd_B0 ⟨by decide, rfl, by decide⟩ rfl (nB (by decide)) (ix := 376) lk_1438 (by decide +kernel) (fun hc36_ => ?_)
    obtain ⟨r38_, d37_, hr39_, h⟩ := bd_some h
    refine g_callV C mw_Mo_at [(0, (d31_ 0 36))] 0 cl12 rfl (ok_Mo_at (d31_ 0 36) d31_ hc36_ hr39_) cd_B0 (by decide) (nB (by decide)) (ix := 379) lk_1865 lk_1867 lkp_68 ⟨rfl, rfl, Nat.le_of_ble_eq_true rfl, Nat.le_of_ble_eq_true rfl⟩ rfl (rest := []) rfl (Nat.le_of_ble_eq_true rfl) ⟨Nat.zero_le _, Nat.zero_le _⟩ (by decide +kernel) (fun _ hc40_ => ?_)
    replace hc40_ : c32 r38_ := hc40_
    refine g_st (st2 := [(0, r38_)]) rfl ?_
    refine g_bipush C 10 (by decide) (by decide +kernel) ?_
    refine g_icmp_ne C (off := 16) (tgt := 39) hc40_ (cK rfl) (by decide +kernel) (by decide) (fun hc41_ => ?_) (fun hc41_ => ?_)
    · replace h := ite_t hc41_ h
      refine g_sub (lo2 := [(2, 0), (9, 0), (9, 0)]) (lsb_v (lsb_c (lsb_c lsb_e))) ?_
      exact ok_Mo_next_b26 C d37_  h kb k0
    · replace h := ite_f hc41_ h
      refine g_sub (lo2 := [(2, 0), (9, 0), (9, 0)]) (lsb_v (lsb_c (lsb_c lsb_e))) ?_
      obtain rfl := Option.some.inj h
      exact k0 d37_ rfl 
set_option maxHeartbeats 4000000 in
theorem ok_Mo_next_n0 {p : Program} {l : Launch} {e : Env} {s : State} {m : MethodId} {args : Array Value} {below : List Frame} {meth : Method} {c : Code} {D : va_G} {cA : Nat → ClassId} {ad : Nat → Nat} {A : Nat → Prop} (C : Cx p s m args c prog_14_method_40_code 3 "PollBooksModel" D cA ad 1 A) {Q : State → Prop} {x : (Dt)} : ∀ (n : Nat) (d : Dt), lpF (fun q : Dt => L_Mo_next_y0 q) n (d) = some x → (∀ (e' : Dt), x = (e') → G p l e rm_Mo_next s m args below meth c 0 0 Q 3 D cA ad 1 A 39 [(2, 0), (9, 0), (9, 0)] [] e') → G p l e rm_Mo_next s m args below meth c 0 0 Q 3 D cA ad 1 A 0 [(2, 0), (9, 0), (9, 0)] [] d := by
  intro n
  induction n with
  | zero => intro d h k0; cases h
  | succ n ih =>
    intro d h k0
    rcases lpF_some h with h | ⟨e0_, h1, h⟩
    · exact ok_Mo_next_y0 C d  h (fun e1_ eq => by cases eq) (fun e1_ eq => k0 _ (by cases eq; rfl) )
    · exact ok_Mo_next_y0 C d  h1 (fun e1_ eq => by cases eq; exact ih _  h k0) (fun e1_ eq => by cases eq)
set_option maxHeartbeats 4000000 in
theorem ok_Mo_next_l0 {p : Program} {l : Launch} {e : Env} {s : State} {m : MethodId} {args : Array Value} {below : List Frame} {meth : Method} {c : Code} {D : va_G} {cA : Nat → ClassId} {ad : Nat → Nat} {A : Nat → Prop} (C : Cx p s m args c prog_14_method_40_code 3 "PollBooksModel" D cA ad 1 A) {Q : State → Prop} {x : (Dt)} (d : Dt)  (h : L_Mo_next_l0 d = some x) (k0 : ∀ (e' : Dt), x = (e') → G p l e rm_Mo_next s m args below meth c 0 0 Q 3 D cA ad 1 A 39 [(2, 0), (9, 0), (9, 0)] [] e') : G p l e rm_Mo_next s m args below meth c 0 0 Q 3 D cA ad 1 A 0 [(2, 0), (9, 0), (9, 0)] [] d :=
  ok_Mo_next_n0 C FU d  h k0
set_option maxHeartbeats 4000000 in
theorem ok_Mo_next_b295 {p : Program} {l : Launch} {e : Env} {s : State} {m : MethodId} {args : Array Value} {below : List Frame} {meth : Method} {c : Code} {D : va_G} {cA : Nat → ClassId} {ad : Nat → Nat} {A : Nat → Prop} (C : Cx p s m args c prog_14_method_40_code 3 "PollBooksModel" D cA ad 1 A) (hlk : meth.locks = false) (hr : meth.sig.returnType = none) {r : Int} {d' : Dt} (s1 : Int) (d : Dt) (hs1 : c32 s1) (h : L_Mo_next_b295 s1 d = some (r, d')) : G p l e rm_Mo_next s m args below meth c 0 0 (MQ below (fun _ => QC D cA ad 1 A none none d') args s 0 0 A) 3 D cA ad 1 A 295 [(9, 0), (9, 0), (9, 0)] [(0, s1), (2, 0)] d := by
  unfold L_Mo_next_b295 at h
  refine g_putI C cl12 0 34 hs1 rfl cd_B0 ⟨by decide, rfl, by decide⟩ rfl (nB (by decide)) (ix := 388) lk_1436 rfl rfl (by decide +kernel) ?_
  obtain ⟨rfl, rfl⟩ := ret_inj h
  exact g_vret C hlk hr (by decide +kernel)
set_option maxHeartbeats 4000000 in
theorem ok_Mo_next_b284 {p : Program} {l : Launch} {e : Env} {s : State} {m : MethodId} {args : Array Value} {below : List Frame} {meth : Method} {c : Code} {D : va_G} {cA : Nat → ClassId} {ad : Nat → Nat} {A : Nat → Prop} (C : Cx p s m args c prog_14_method_40_code 3 "PollBooksModel" D cA ad 1 A) (hlk : meth.locks = false) (hr : meth.sig.returnType = none) {r : Int} {d' : Dt} (s0 : Int) (d : Dt) (hs0 : cb s0) (h : L_Mo_next_b284 s0 d = some (r, d')) : G p l e rm_Mo_next s m args below meth c 0 0 (MQ below (fun _ => QC D cA ad 1 A none none d') args s 0 0 A) 3 D cA ad 1 A 284 [(2, 0), (9, 0), (9, 0)] [(0, s0)] d := by
  unfold L_Mo_next_b284 at h
  refine s_istore_n C 2 (lo' := [(2, 0), (9, 0), (0, s0)]) (by decide) (s1k (s1n (by decide) s1z)) (by decide +kernel) ?_
  refine g_aload_n C 0 rfl (by decide +kernel) ?_
  refine g_iload_n C 2 rfl (by decide +kernel) ?_
  refine g_if_eq C (off := 7) (tgt := 294) (c32_cb hs0) (by decide +kernel) (by decide) (fun hc42_ => ?_) (fun hc42_ => ?_)
  · replace h := ite_t hc42_ h
    refine g_iconst C 1 (cK rfl) (by decide +kernel) ?_
    refine g_sub (lo2 := [(9, 0), (9, 0), (9, 0)]) (lsb_c (lsb_c (lsb_c lsb_e))) ?_
    exact ok_Mo_next_b295 C hlk hr 1 d (c32_cb (Or.inr rfl)) h
  · replace h := ite_f hc42_ h
    refine g_iconst C 4 (cK rfl) (by decide +kernel) ?_
    refine g_goto C 295 (off := 4) (by decide +kernel) (by decide) ?_
    refine g_sub (lo2 := [(9, 0), (9, 0), (9, 0)]) (lsb_c (lsb_c (lsb_c lsb_e))) ?_
    exact ok_Mo_next_b295 C hlk hr 4 d (cK rfl) h
set_option maxHeartbeats 4000000 in
theorem ok_Mo_next_b203 {p : Program} {l : Launch} {e : Env} {s : State} {m : MethodId} {args : Array Value} {below : List Frame} {meth : Method} {c : Code} {D : va_G} {cA : Nat → ClassId} {ad : Nat → Nat} {A : Nat → Prop} (C : Cx p s m args c prog_14_method_40_code 3 "PollBooksModel" D cA ad 1 A) (hlk : meth.locks = false) (hr : meth.sig.returnType = none) {r : Int} {d' : Dt} (s1 : Int) (d : Dt) (hs1 : c32 s1) (h : L_Mo_next_b203 s1 d = some (r, d')) : G p l e rm_Mo_next s m args below meth c 0 0 (MQ below (fun _ => QC D cA ad 1 A none none d') args s 0 0 A) 3 D cA ad 1 A 203 [(9, 0), (9, 0), (9, 0)] [(0, s1), (2, 0)] d := by
  unfold L_Mo_next_b203 at h
  refine g_putI C cl12 0 34 hs1 rfl cd_B0 ⟨by decide, rfl, by decide⟩ rfl (nB (by decide)) (ix := 388) lk_1436 rfl rfl (by decide +kernel) ?_
  refine g_goto C 298 (off := 92) (by decide +kernel) (by decide) ?_
  obtain ⟨rfl, rfl⟩ := ret_inj h
  exact g_vret C hlk hr (by decide +kernel)
set_option maxHeartbeats 4000000 in
theorem ok_Mo_next {l : Launch} {r : Int} {d' : Dt} (d : Dt)  (h : L_Mo_next d = some (r, d')) : MC l y_Mo_next prog_14_method_40_code 3 none rm_Mo_next 1 [(2, 0)] d none d' := by
  refine MC.of (by decide) (Nat.le_of_ble_eq_true rfl) ?_
  intro p e s m args below meth c D cA ad A C hlk hr
  replace C : Cx p s m args c prog_14_method_40_code 3 "PollBooksModel" D cA ad 1 A := C
  show G p l e rm_Mo_next s m args below meth c 0 0 (MQ below (fun _ => QC D cA ad 1 A none none d') args s 0 0 A) 3 D cA ad 1 A 0 [(2, 0)] [] d
  refine g_sub (lo2 := [(2, 0), (9, 0), (9, 0)]) (lsb_v (lsb_n (lsb_n lsb_e))) ?_
  unfold L_Mo_next at h
  refine g_sub (lo2 := [(2, 0), (9, 0), (9, 0)]) (lsb_v (lsb_c (lsb_c lsb_e))) ?_
  obtain ⟨x43_, hx44_, h⟩ := lb_some h
  refine ok_Mo_next_l0 C d  hx44_ (fun d45_ eq46_ => ?_)
  replace eq46_ := eq46_.symm
  subst eq46_
  replace h := u0_e h
  refine g_aload_n C 0 rfl (by decide +kernel) ?_
  refine g_aload_n C 0 rfl (by decide +kernel) ?_
  refine g_getI C cl12 0 36 rfl cd_B0 ⟨by decide, rfl, by decide⟩ rfl (nB (by decide)) (ix := 376) lk_1438 (by decide +kernel) (fun hc47_ => ?_)
  refine g_putI C cl12 0 35 hc47_ rfl cd_B0 ⟨by decide, rfl, by decide⟩ rfl (nB (by decide)) (ix := 382) lk_1437 rfl rfl (by decide +kernel) ?_
  refine g_aload_n C 0 rfl (by decide +kernel) ?_
  refine g_aload_n C 0 rfl (by decide +kernel) ?_
  refine g_getI C cl12 0 36 rfl cd_B0 ⟨by decide, rfl, by decide⟩ rfl (nB (by decide)) (ix := 376) lk_1438 (by decide +kernel) (fun hc48_ => ?_)
  refine g_val (y := (d45_ 0 36)) rfl ?_
  replace hc48_ : c32 (d45_ 0 36) := hc48_
  obtain ⟨r50_, d49_, hr51_, h⟩ := bd_some h
  refine g_callV C mw_Mo_at [(0, (d45_ 0 36))] 0 cl12 rfl (ok_Mo_at (d45_ 0 36) (up2 d45_ 0 35 (d45_ 0 36)) hc48_ hr51_) cd_B0 (by decide) (nB (by decide)) (ix := 379) lk_1865 lk_1867 lkp_68 ⟨rfl, rfl, Nat.le_of_ble_eq_true rfl, Nat.le_of_ble_eq_true rfl⟩ rfl (rest := []) rfl (Nat.le_of_ble_eq_true rfl) ⟨Nat.zero_le _, Nat.zero_le _⟩ (by decide +kernel) (fun _ hc52_ => ?_)
  replace hc52_ : c32 r50_ := hc52_
  refine g_st (st2 := [(0, r50_)]) rfl ?_
  refine s_istore_n C 1 (lo' := [(2, 0), (0, r50_), (9, 0)]) (by decide) (s1n (by decide) s1z) (by decide +kernel) ?_
  refine g_aload_n C 0 rfl (by decide +kernel) ?_
  refine g_iload_n C 1 rfl (by decide +kernel) ?_
  refine g_putI C cl12 0 37 hc52_ rfl cd_B0 ⟨by decide, rfl, by decide⟩ rfl (nB (by decide)) (ix := 385) lk_1439 rfl rfl (by decide +kernel) ?_
  refine g_iload_n C 1 rfl (by decide +kernel) ?_
  refine g_iconst C (-1) (cK rfl) (by decide +kernel) ?_
  refine g_icmp_ne C (off := 11) (tgt := 74) hc52_ (cK rfl) (by decide +kernel) (by decide) (fun hc53_ => ?_) (fun hc53_ => ?_)
  · replace h := ite_t hc53_ h
    refine g_aload_n C 0 rfl (by decide +kernel) ?_
    refine g_iconst C 0 (cK rfl) (by decide +kernel) ?_
    refine g_putI C cl12 0 34 (c32_cb (Or.inl rfl)) rfl cd_B0 ⟨by decide, rfl, by decide⟩ rfl (nB (by decide)) (ix := 388) lk_1436 rfl rfl (by decide +kernel) ?_
    refine g_goto C 298 (off := 227) (by decide +kernel) (by decide) ?_
    obtain ⟨rfl, rfl⟩ := ret_inj h
    exact g_vret C hlk hr (by decide +kernel)
  · replace h := ite_f hc53_ h
    refine g_iload_n C 1 rfl (by decide +kernel) ?_
    obtain ⟨r55_, d54_, hr56_, h⟩ := bd_some h
    refine g_callS C mw_Mo_isSmall [(0, r50_)] (ok_Mo_isSmall r50_ (up2 d49_ 0 37 r50_) hc52_ hr56_) (ix := 391) lk_1869 lk_1870 ⟨rfl, rfl, Nat.le_of_ble_eq_true rfl, Nat.le_of_ble_eq_true rfl⟩ rfl (rest := []) rfl (Nat.le_of_ble_eq_true rfl) ⟨Nat.zero_le _, Nat.zero_le _⟩ (by decide +kernel) (fun _ hc57_ => ?_)
    replace hc57_ : cb r55_ := hc57_
    refine g_st (st2 := [(0, r55_)]) rfl ?_
    refine g_if_eq C (off := 38) (tgt := 116) (c32_cb hc57_) (by decide +kernel) (by decide) (fun hc58_ => ?_) (fun hc58_ => ?_)
    · replace h := ite_t hc58_ h
      refine g_iload_n C 1 rfl (by decide +kernel) ?_
      obtain ⟨r60_, d59_, hr61_, h⟩ := bd_some h
      refine g_callS C mw_Mo_isDigit [(0, r50_)] (ok_Mo_isDigit r50_ d54_ hc52_ hr61_) (ix := 394) lk_1872 lk_1873 ⟨rfl, rfl, Nat.le_of_ble_eq_true rfl, Nat.le_of_ble_eq_true rfl⟩ rfl (rest := []) rfl (Nat.le_of_ble_eq_true rfl) ⟨Nat.zero_le _, Nat.zero_le _⟩ (by decide +kernel) (fun _ hc62_ => ?_)
      replace hc62_ : cb r60_ := hc62_
      refine g_st (st2 := [(0, r60_)]) rfl ?_
      refine g_if_eq C (off := 89) (tgt := 209) (c32_cb hc62_) (by decide +kernel) (by decide) (fun hc63_ => ?_) (fun hc63_ => ?_)
      · replace h := ite_t hc63_ h
        refine g_aload_n C 0 rfl (by decide +kernel) ?_
        refine g_dup C tg2 (by decide +kernel) ?_
        refine g_getI C cl12 0 36 rfl cd_B0 ⟨by decide, rfl, by decide⟩ rfl (nB (by decide)) (ix := 376) lk_1438 (by decide +kernel) (fun hc64_ => ?_)
        refine g_iconst C 1 (cK rfl) (by decide +kernel) ?_
        refine g_iadd C (by decide +kernel) ?_
        refine g_putI C cl12 0 36 (w32_c _) rfl cd_B0 ⟨by decide, rfl, by decide⟩ rfl (nB (by decide)) (ix := 376) lk_1438 rfl rfl (by decide +kernel) ?_
        refine g_iload_n C 1 rfl (by decide +kernel) ?_
        refine g_bipush C 59 (by decide) (by decide +kernel) ?_
        refine g_icmp_eq C (off := 57) (tgt := 279) hc52_ (cK rfl) (by decide +kernel) (by decide) (fun hc65_ => ?_) (fun hc65_ => ?_)
        · replace h := ite_t hc65_ h
          refine g_iconst C 1 (cK rfl) (by decide +kernel) ?_
          refine g_goto C 284 (off := 4) (by decide +kernel) (by decide) ?_
          refine g_sub (lo2 := [(2, 0), (9, 0), (9, 0)]) (lsb_v (lsb_c (lsb_c lsb_e))) ?_
          exact ok_Mo_next_b284 C hlk hr 1 (up2 d59_ 0 36 (w32 ((d59_ 0 36) + 1))) (Or.inr rfl) h
        · replace h := ite_f hc65_ h
          refine g_iload_n C 1 rfl (by decide +kernel) ?_
          refine g_bipush C 58 (by decide) (by decide +kernel) ?_
          refine g_icmp_eq C (off := 51) (tgt := 279) hc52_ (cK rfl) (by decide +kernel) (by decide) (fun hc66_ => ?_) (fun hc66_ => ?_)
          · replace h := ite_t hc66_ h
            refine g_iconst C 1 (cK rfl) (by decide +kernel) ?_
            refine g_goto C 284 (off := 4) (by decide +kernel) (by decide) ?_
            refine g_sub (lo2 := [(2, 0), (9, 0), (9, 0)]) (lsb_v (lsb_c (lsb_c lsb_e))) ?_
            exact ok_Mo_next_b284 C hlk hr 1 (up2 d59_ 0 36 (w32 ((d59_ 0 36) + 1))) (Or.inr rfl) h
          · replace h := ite_f hc66_ h
            refine g_iload_n C 1 rfl (by decide +kernel) ?_
            refine g_bipush C 60 (by decide) (by decide +kernel) ?_
            refine g_icmp_eq C (off := 45) (tgt := 279) hc52_ (cK rfl) (by decide +kernel) (by decide) (fun hc67_ => ?_) (fun hc67_ => ?_)
            · replace h := ite_t hc67_ h
              refine g_iconst C 1 (cK rfl) (by decide +kernel) ?_
              refine g_goto C 284 (off := 4) (by decide +kernel) (by decide) ?_
              refine g_sub (lo2 := [(2, 0), (9, 0), (9, 0)]) (lsb_v (lsb_c (lsb_c lsb_e))) ?_
              exact ok_Mo_next_b284 C hlk hr 1 (up2 d59_ 0 36 (w32 ((d59_ 0 36) + 1))) (Or.inr rfl) h
            · replace h := ite_f hc67_ h
              refine g_iload_n C 1 rfl (by decide +kernel) ?_
              refine g_bipush C 62 (by decide) (by decide +kernel) ?_
              refine g_icmp_eq C (off := 39) (tgt := 279) hc52_ (cK rfl) (by decide +kernel) (by decide) (fun hc68_ => ?_) (fun hc68_ => ?_)
              · replace h := ite_t hc68_ h
                refine g_iconst C 1 (cK rfl) (by decide +kernel) ?_
                refine g_goto C 284 (off := 4) (by decide +kernel) (by decide) ?_
                refine g_sub (lo2 := [(2, 0), (9, 0), (9, 0)]) (lsb_v (lsb_c (lsb_c lsb_e))) ?_
                exact ok_Mo_next_b284 C hlk hr 1 (up2 d59_ 0 36 (w32 ((d59_ 0 36) + 1))) (Or.inr rfl) h
              · replace h := ite_f hc68_ h
                refine g_iload_n C 1 rfl (by decide +kernel) ?_
                refine g_bipush C 61 (by decide) (by decide +kernel) ?_
                refine g_icmp_eq C (off := 33) (tgt := 279) hc52_ (cK rfl) (by decide +kernel) (by decide) (fun hc69_ => ?_) (fun hc69_ => ?_)
                · replace h := ite_t hc69_ h
                  refine g_iconst C 1 (cK rfl) (by decide +kernel) ?_
                  refine g_goto C 284 (off := 4) (by decide +kernel) (by decide) ?_
                  refine g_sub (lo2 := [(2, 0), (9, 0), (9, 0)]) (lsb_v (lsb_c (lsb_c lsb_e))) ?_
                  exact ok_Mo_next_b284 C hlk hr 1 (up2 d59_ 0 36 (w32 ((d59_ 0 36) + 1))) (Or.inr rfl) h
                · replace h := ite_f hc69_ h
                  refine g_iload_n C 1 rfl (by decide +kernel) ?_
                  refine g_bipush C 43 (by decide) (by decide +kernel) ?_
                  refine g_icmp_eq C (off := 27) (tgt := 279) hc52_ (cK rfl) (by decide +kernel) (by decide) (fun hc70_ => ?_) (fun hc70_ => ?_)
                  · replace h := ite_t hc70_ h
                    refine g_iconst C 1 (cK rfl) (by decide +kernel) ?_
                    refine g_goto C 284 (off := 4) (by decide +kernel) (by decide) ?_
                    refine g_sub (lo2 := [(2, 0), (9, 0), (9, 0)]) (lsb_v (lsb_c (lsb_c lsb_e))) ?_
                    exact ok_Mo_next_b284 C hlk hr 1 (up2 d59_ 0 36 (w32 ((d59_ 0 36) + 1))) (Or.inr rfl) h
                  · replace h := ite_f hc70_ h
                    refine g_iload_n C 1 rfl (by decide +kernel) ?_
                    refine g_bipush C 45 (by decide) (by decide +kernel) ?_
                    refine g_icmp_eq C (off := 21) (tgt := 279) hc52_ (cK rfl) (by decide +kernel) (by decide) (fun hc71_ => ?_) (fun hc71_ => ?_)
                    · replace h := ite_t hc71_ h
                      refine g_iconst C 1 (cK rfl) (by decide +kernel) ?_
                      refine g_goto C 284 (off := 4) (by decide +kernel) (by decide) ?_
                      refine g_sub (lo2 := [(2, 0), (9, 0), (9, 0)]) (lsb_v (lsb_c (lsb_c lsb_e))) ?_
                      exact ok_Mo_next_b284 C hlk hr 1 (up2 d59_ 0 36 (w32 ((d59_ 0 36) + 1))) (Or.inr rfl) h
                    · replace h := ite_f hc71_ h
                      refine g_iload_n C 1 rfl (by decide +kernel) ?_
                      refine g_bipush C 42 (by decide) (by decide +kernel) ?_
                      refine g_icmp_eq C (off := 15) (tgt := 279) hc52_ (cK rfl) (by decide +kernel) (by decide) (fun hc72_ => ?_) (fun hc72_ => ?_)
                      · replace h := ite_t hc72_ h
                        refine g_iconst C 1 (cK rfl) (by decide +kernel) ?_
                        refine g_goto C 284 (off := 4) (by decide +kernel) (by decide) ?_
                        refine g_sub (lo2 := [(2, 0), (9, 0), (9, 0)]) (lsb_v (lsb_c (lsb_c lsb_e))) ?_
                        exact ok_Mo_next_b284 C hlk hr 1 (up2 d59_ 0 36 (w32 ((d59_ 0 36) + 1))) (Or.inr rfl) h
                      · replace h := ite_f hc72_ h
                        refine g_iload_n C 1 rfl (by decide +kernel) ?_
                        refine g_bipush C 40 (by decide) (by decide +kernel) ?_
                        refine g_icmp_eq C (off := 9) (tgt := 279) hc52_ (cK rfl) (by decide +kernel) (by decide) (fun hc73_ => ?_) (fun hc73_ => ?_)
                        · replace h := ite_t hc73_ h
                          refine g_iconst C 1 (cK rfl) (by decide +kernel) ?_
                          refine g_goto C 284 (off := 4) (by decide +kernel) (by decide) ?_
                          refine g_sub (lo2 := [(2, 0), (9, 0), (9, 0)]) (lsb_v (lsb_c (lsb_c lsb_e))) ?_
                          exact ok_Mo_next_b284 C hlk hr 1 (up2 d59_ 0 36 (w32 ((d59_ 0 36) + 1))) (Or.inr rfl) h
                        · replace h := ite_f hc73_ h
                          refine g_iload_n C 1 rfl (by decide +kernel) ?_
                          refine g_bipush C 41 (by decide) (by decide +kernel) ?_
                          refine g_icmp_ne C (off := 7) (tgt := 283) hc52_ (cK rfl) (by decide +kernel) (by decide) (fun hc74_ => ?_) (fun hc74_ => ?_)
                          · replace h := ite_t hc74_ h
                            refine g_iconst C 1 (cK rfl) (by decide +kernel) ?_
                            refine g_goto C 284 (off := 4) (by decide +kernel) (by decide) ?_
                            refine g_sub (lo2 := [(2, 0), (9, 0), (9, 0)]) (lsb_v (lsb_c (lsb_c lsb_e))) ?_
                            exact ok_Mo_next_b284 C hlk hr 1 (up2 d59_ 0 36 (w32 ((d59_ 0 36) + 1))) (Or.inr rfl) h
                          · replace h := ite_f hc74_ h
                            refine g_iconst C 0 (cK rfl) (by decide +kernel) ?_
                            refine g_sub (lo2 := [(2, 0), (9, 0), (9, 0)]) (lsb_v (lsb_c (lsb_c lsb_e))) ?_
                            exact ok_Mo_next_b284 C hlk hr 0 (up2 d59_ 0 36 (w32 ((d59_ 0 36) + 1))) (Or.inl rfl) h
      · replace h := ite_f hc63_ h
        refine g_aload_n C 0 rfl (by decide +kernel) ?_
        refine g_iconst C 0 (cK rfl) (by decide +kernel) ?_
        refine g_putI C cl12 0 37 (c32_cb (Or.inl rfl)) rfl cd_B0 ⟨by decide, rfl, by decide⟩ rfl (nB (by decide)) (ix := 385) lk_1439 rfl rfl (by decide +kernel) ?_
        refine g_sub (lo2 := [(2, 0), (9, 0), (9, 0)]) (lsb_v (lsb_c (lsb_c lsb_e))) ?_
        obtain ⟨x75_, hx76_, h⟩ := lb_some h
        refine ok_Mo_next_l128 C (up2 d59_ 0 37 0)  hx76_ (fun d77_ eq78_ => ?_)
        replace eq78_ := eq78_.symm
        subst eq78_
        replace h := u0_e h
        refine g_aload_n C 0 rfl (by decide +kernel) ?_
        refine g_aload_n C 0 rfl (by decide +kernel) ?_
        refine g_getI C cl12 0 36 rfl cd_B0 ⟨by decide, rfl, by decide⟩ rfl (nB (by decide)) (ix := 376) lk_1438 (by decide +kernel) (fun hc79_ => ?_)
        refine g_aload_n C 0 rfl (by decide +kernel) ?_
        refine g_getI C cl12 0 35 rfl cd_B0 ⟨by decide, rfl, by decide⟩ rfl (nB (by decide)) (ix := 382) lk_1437 (by decide +kernel) (fun hc80_ => ?_)
        refine g_isub C (by decide +kernel) ?_
        refine g_iconst C 5 (cK rfl) (by decide +kernel) ?_
        refine g_icmp_le C (off := 7) (tgt := 202) (w32_c _) (cK rfl) (by decide +kernel) (by decide) (fun hc81_ => ?_) (fun hc81_ => ?_)
        · replace h := ite_t hc81_ h
          refine g_iconst C 1 (cK rfl) (by decide +kernel) ?_
          refine g_goto C 203 (off := 4) (by decide +kernel) (by decide) ?_
          refine g_sub (lo2 := [(9, 0), (9, 0), (9, 0)]) (lsb_c (lsb_c (lsb_c lsb_e))) ?_
          exact ok_Mo_next_b203 C hlk hr 1 d77_ (c32_cb (Or.inr rfl)) h
        · replace h := ite_f hc81_ h
          refine g_iconst C 3 (cK rfl) (by decide +kernel) ?_
          refine g_sub (lo2 := [(9, 0), (9, 0), (9, 0)]) (lsb_c (lsb_c (lsb_c lsb_e))) ?_
          exact ok_Mo_next_b203 C hlk hr 3 d77_ (cK rfl) h
    · replace h := ite_f hc58_ h
      refine g_sub (lo2 := [(2, 0), (9, 0), (9, 0)]) (lsb_v (lsb_c (lsb_c lsb_e))) ?_
      obtain ⟨x83_, hx84_, h⟩ := lb_some h
      refine ok_Mo_next_l81 C d54_  hx84_ (fun d85_ eq86_ => ?_)
      replace eq86_ := eq86_.symm
      subst eq86_
      replace h := u0_e h
      refine g_aload_n C 0 rfl (by decide +kernel) ?_
      refine g_iconst C 2 (cK rfl) (by decide +kernel) ?_
      refine g_putI C cl12 0 34 (cK rfl) rfl cd_B0 ⟨by decide, rfl, by decide⟩ rfl (nB (by decide)) (ix := 388) lk_1436 rfl rfl (by decide +kernel) ?_
      refine g_goto C 298 (off := 185) (by decide +kernel) (by decide) ?_
      obtain ⟨rfl, rfl⟩ := ret_inj h
      exact g_vret C hlk hr (by decide +kernel)
/-! java/lang/String.coder()B -/
def y_Sg_coder : MethodName := ⟨"java/lang/String", "coder", "()B"⟩
def rm_Sg_coder : Room := { frames := 0, cells := 0, slots := 0, locals := 0 }
theorem mw_Sg_coder : MW y_Sg_coder prog_17_method_152_code 1 (some .byte) 0 := ⟨lk_1896, lk_17, by decide +kernel⟩
def L_Sg_coder (this : Int) (d : Dt) : Option (Int × Dt) :=
  if (1 : Int) = 0 then some (1, d) else ck (isStr this) (some (0, d))
set_option maxHeartbeats 4000000 in
theorem ok_Sg_coder {l : Launch} {r : Int} {d' : Dt} (this : Int) (d : Dt)  (h : L_Sg_coder this d = some (r, d')) : MC l y_Sg_coder prog_17_method_152_code 1 (some .byte) rm_Sg_coder 1 [(2, this)] d (some (0, r)) d' := by
  refine MC.of (by decide) (Nat.le_of_ble_eq_true rfl) ?_
  intro p e s m args below meth c D cA ad A C hlk hr
  replace C : Cx p s m args c prog_17_method_152_code 1 "java/lang/String" D cA ad 1 A := C
  show G p l e rm_Sg_coder s m args below meth c 0 0 (MQ below (fun _ => QC D cA ad 1 A (some .byte) (some (0, r)) d') args s 0 0 A) 1 D cA ad 1 A 0 [(2, this)] [] d
  refine g_sub (lo2 := [(2, this)]) (lsb_v lsb_e) ?_
  unfold L_Sg_coder at h
  refine g_strcs C (ix := 38) lk_1897 (by decide +kernel) ?_
  refine g_if_eq C (off := 10) (tgt := 13) (c32_cb (Or.inr rfl)) (by decide +kernel) (by decide) (fun hc1_ => ?_) (fun hc1_ => ?_)
  · replace h := ite_t hc1_ h
    refine g_iconst C 1 (cK rfl) (by decide +kernel) ?_
    obtain ⟨rfl, rfl⟩ := ret_inj h
    exact g_cret C ⟨by decide, by decide⟩ rfl hlk hr (by decide +kernel)
  · replace h := ite_f hc1_ h
    refine g_aload_n C 0 rfl (by decide +kernel) ?_
    obtain ⟨hs2_, h⟩ := ck_some h
    refine g_strcod C (ix := 15) hs2_ lk_2253 (by decide +kernel) ?_
    refine g_goto C 14 (off := 4) (by decide +kernel) (by decide) ?_
    obtain ⟨rfl, rfl⟩ := ret_inj h
    exact g_cret C ⟨by decide, by decide⟩ rfl hlk hr (by decide +kernel)
/-! java/lang/String.length()I -/
def y_Sg_length : MethodName := ⟨"java/lang/String", "length", "()I"⟩
def rm_Sg_length : Room := { frames := 1, cells := 0, slots := 0, locals := 20 }
theorem mw_Sg_length : MW y_Sg_length prog_17_method_54_code 1 (some .int) 0 := ⟨lk_1892, lk_17, by decide +kernel⟩
def L_Sg_length (this : Int) (d : Dt) : Option (Int × Dt) :=
  ck (isStr this) (ck (isByt (this + 2)) (ck (isStr this) (bd (L_Sg_coder this d) (fun r4_ d3_ => some ((ishr ((kwT (this + 2).toNat).length : Int) r4_), d3_)))))
set_option maxHeartbeats 4000000 in
theorem ok_Sg_length {l : Launch} {r : Int} {d' : Dt} (this : Int) (d : Dt)  (h : L_Sg_length this d = some (r, d')) : MC l y_Sg_length prog_17_method_54_code 1 (some .int) rm_Sg_length 1 [(2, this)] d (some (0, r)) d' := by
  refine MC.of (by decide) (Nat.le_of_ble_eq_true rfl) ?_
  intro p e s m args below meth c D cA ad A C hlk hr
  replace C : Cx p s m args c prog_17_method_54_code 1 "java/lang/String" D cA ad 1 A := C
  show G p l e rm_Sg_length s m args below meth c 0 0 (MQ below (fun _ => QC D cA ad 1 A (some .int) (some (0, r)) d') args s 0 0 A) 1 D cA ad 1 A 0 [(2, this)] [] d
  refine g_sub (lo2 := [(2, this)]) (lsb_v lsb_e) ?_
  unfold L_Sg_length at h
  refine g_aload_n C 0 rfl (by decide +kernel) ?_
  obtain ⟨hs1_, h⟩ := ck_some h
  refine g_strval C (ix := 9) hs1_ lk_2252 (by decide +kernel) ?_
  obtain ⟨hs2_, h⟩ := ck_some h
  refine g_strlen C hs2_ (by decide +kernel) ?_
  refine g_aload_n C 0 rfl (by decide +kernel) ?_
  obtain ⟨hs6_, h⟩ := ck_some h
  obtain ⟨r4_, d3_, hr5_, h⟩ := bd_some h
  refine g_callT C mw_Sg_coder [] hs6_ (ok_Sg_coder this d  hr5_) (ix := 335) lk_1893 lk_1894 lk_1895 ⟨rfl, rfl, Nat.le_of_ble_eq_true rfl, Nat.le_of_ble_eq_true rfl⟩ rfl (rest := [(0, ((kwT (this + 2).toNat).length : Int))]) rfl (Nat.le_of_ble_eq_true rfl) ⟨Nat.zero_le _, Nat.zero_le _⟩ (by decide +kernel) (fun _ hc7_ => ?_)
  replace hc7_ : -128 ≤ r4_ ∧ r4_ < 128 := hc7_
  refine g_st (st2 := [(0, r4_), (0, ((kwT (this + 2).toNat).length : Int))]) rfl ?_
  refine g_ishr C (by decide +kernel) ?_
  obtain ⟨rfl, rfl⟩ := ret_inj h
  exact g_iret C (i_c _) hlk hr (by decide +kernel)
/-! java/lang/String.isLatin1()Z -/
def y_Sg_isLatin1 : MethodName := ⟨"java/lang/String", "isLatin1", "()Z"⟩
def rm_Sg_isLatin1 : Room := { frames := 0, cells := 0, slots := 0, locals := 0 }
theorem mw_Sg_isLatin1 : MW y_Sg_isLatin1 prog_17_method_154_code 1 (some .boolean) 0 := ⟨lk_1906, lk_17, by decide +kernel⟩
def L_Sg_isLatin1 (this : Int) (d : Dt) : Option (Int × Dt) :=
  if (1 : Int) = 0 then some (0, d) else ck (isStr this) (if (0 : Int) = 0 then some (1, d) else some (0, d))
set_option maxHeartbeats 4000000 in
theorem ok_Sg_isLatin1 {l : Launch} {r : Int} {d' : Dt} (this : Int) (d : Dt)  (h : L_Sg_isLatin1 this d = some (r, d')) : MC l y_Sg_isLatin1 prog_17_method_154_code 1 (some .boolean) rm_Sg_isLatin1 1 [(2, this)] d (some (0, r)) d' := by
  refine MC.of (by decide) (Nat.le_of_ble_eq_true rfl) ?_
  intro p e s m args below meth c D cA ad A C hlk hr
  replace C : Cx p s m args c prog_17_method_154_code 1 "java/lang/String" D cA ad 1 A := C
  show G p l e rm_Sg_isLatin1 s m args below meth c 0 0 (MQ below (fun _ => QC D cA ad 1 A (some .boolean) (some (0, r)) d') args s 0 0 A) 1 D cA ad 1 A 0 [(2, this)] [] d
  refine g_sub (lo2 := [(2, this)]) (lsb_v lsb_e) ?_
  unfold L_Sg_isLatin1 at h
  refine g_strcs C (ix := 38) lk_1897 (by decide +kernel) ?_
  refine g_if_eq C (off := 14) (tgt := 17) (c32_cb (Or.inr rfl)) (by decide +kernel) (by decide) (fun hc1_ => ?_) (fun hc1_ => ?_)
  · replace h := ite_t hc1_ h
    refine g_iconst C 0 (cK rfl) (by decide +kernel) ?_
    obtain ⟨rfl, rfl⟩ := ret_inj h
    exact g_zret C (Or.inl rfl) hlk hr (by decide +kernel)
  · replace h := ite_f hc1_ h
    refine g_aload_n C 0 rfl (by decide +kernel) ?_
    obtain ⟨hs2_, h⟩ := ck_some h
    refine g_strcod C (ix := 15) hs2_ lk_2253 (by decide +kernel) ?_
    refine g_if_ne C (off := 7) (tgt := 17) (c32_cb (Or.inl rfl)) (by decide +kernel) (by decide) (fun hc3_ => ?_) (fun hc3_ => ?_)
    · replace h := ite_t hc3_ h
      refine g_iconst C 1 (cK rfl) (by decide +kernel) ?_
      refine g_goto C 18 (off := 4) (by decide +kernel) (by decide) ?_
      obtain ⟨rfl, rfl⟩ := ret_inj h
      exact g_zret C (Or.inr rfl) hlk hr (by decide +kernel)
    · replace h := ite_f hc3_ h
      refine g_iconst C 0 (cK rfl) (by decide +kernel) ?_
      obtain ⟨rfl, rfl⟩ := ret_inj h
      exact g_zret C (Or.inl rfl) hlk hr (by decide +kernel)
/-! jdk/internal/util/Preconditions.checkIndex(IILjava/util/function/BiFunction;)I -/
def y_Pr_checkIndex : MethodName := ⟨"jdk/internal/util/Preconditions", "checkIndex", "(IILjava/util/function/BiFunction;)I"⟩
def rm_Pr_checkIndex : Room := { frames := 0, cells := 0, slots := 0, locals := 0 }
theorem mw_Pr_checkIndex : MW y_Pr_checkIndex prog_22_method_11_code 3 (some .int) 3 := ⟨lk_1917, lk_19, by decide +kernel⟩
def L_Pr_checkIndex (p1 p2 : Int) (d : Dt) : Option (Int × Dt) :=
  if p1 < 0 then none else if p1 < p2 then some (p1, d) else none
set_option maxHeartbeats 4000000 in
theorem ok_Pr_checkIndex {l : Launch} {xany : Int} {r : Int} {d' : Dt} (p1 p2 : Int) (d : Dt) (hp1 : c32 p1) (hp2 : c32 p2) (h : L_Pr_checkIndex p1 p2 d = some (r, d')) : MC l y_Pr_checkIndex prog_22_method_11_code 3 (some .int) rm_Pr_checkIndex 1 [(0, p1), (0, p2), (2, xany)] d (some (0, r)) d' := by
  refine MC.of (by decide) (Nat.le_of_ble_eq_true rfl) ?_
  intro p e s m args below meth c D cA ad A C hlk hr
  replace C : Cx p s m args c prog_22_method_11_code 3 "jdk/internal/util/Preconditions" D cA ad 1 A := C
  show G p l e rm_Pr_checkIndex s m args below meth c 0 0 (MQ below (fun _ => QC D cA ad 1 A (some .int) (some (0, r)) d') args s 0 0 A) 3 D cA ad 1 A 0 [(0, p1), (0, p2), (2, xany)] [] d
  refine g_sub (lo2 := [(0, p1), (0, p2), (2, xany)]) (lsb_v (lsb_v (lsb_v lsb_e))) ?_
  unfold L_Pr_checkIndex at h
  refine g_iload_n C 0 rfl (by decide +kernel) ?_
  refine g_if_lt C (off := 8) (tgt := 9) hp1 (by decide +kernel) (by decide) (fun hc1_ => ?_) (fun hc1_ => ?_)
  · replace h := ite_t hc1_ h
    cases h
  · replace h := ite_f hc1_ h
    refine g_iload_n C 0 rfl (by decide +kernel) ?_
    refine g_iload_n C 1 rfl (by decide +kernel) ?_
    refine g_icmp_lt C (off := 10) (tgt := 16) hp1 hp2 (by decide +kernel) (by decide) (fun hc2_ => ?_) (fun hc2_ => ?_)
    · replace h := ite_t hc2_ h
      refine g_iload_n C 0 rfl (by decide +kernel) ?_
      obtain ⟨rfl, rfl⟩ := ret_inj h
      exact g_iret C hp1 hlk hr (by decide +kernel)
    · replace h := ite_f hc2_ h
      cases h
