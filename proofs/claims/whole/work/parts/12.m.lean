/-! PollBooks.fault(I)I -/
def y_PB_fault : MethodName := ⟨"PollBooks", "fault", "(I)I"⟩
def rm_PB_fault : Room := { frames := 1, cells := 0, slots := 0, locals := 20 }
theorem mw_PB_fault : MW y_PB_fault prog_1_method_19_code 2 (some .int) 1 := ⟨lk_865, lk_1, by decide +kernel⟩
def L_PB_fault (p1 : Int) (d : Dt) : Option (Int × Dt) :=
  if p1 = 0 then bd (L_Pa_faultKind d) (fun r3_ d2_ => some (r3_, d2_)) else if p1 = 1 then bd (L_Pa_faultPlace d) (fun r8_ d7_ => some (r8_, d7_)) else some ((-1), d)
set_option maxHeartbeats 4000000 in
theorem ok_PB_fault {l : Launch} {r : Int} {d' : Dt} (p1 : Int) (d : Dt) (hp1 : c32 p1) (h : L_PB_fault p1 d = some (r, d')) : MC l y_PB_fault prog_1_method_19_code 2 (some .int) rm_PB_fault 0 [(2, 0), (0, p1)] d (some (0, r)) d' := by
  refine MC.of (by decide) (Nat.le_of_ble_eq_true rfl) ?_
  intro p e s m args below meth c D cA ad A C hlk hr
  replace C : Cx p s m args c prog_1_method_19_code 2 "PollBooks" D cA ad 0 A := C
  show G p l e rm_PB_fault s m args below meth c 0 0 (MQ below (fun _ => QC D cA ad 0 A (some .int) (some (0, r)) d') args s 0 0 A) 2 D cA ad 0 A 0 [(2, 0), (0, p1)] [] d
  refine g_sub (lo2 := [(2, 0), (0, p1)]) (lsb_v (lsb_v lsb_e)) ?_
  unfold L_PB_fault at h
  refine g_iload_n C 1 rfl (by decide +kernel) ?_
  refine g_if_ne C (off := 13) (tgt := 14) hp1 (by decide +kernel) (by decide) (fun hc1_ => ?_) (fun hc1_ => ?_)
  · replace h := ite_t hc1_ h
    refine g_aload_n C 0 rfl (by decide +kernel) ?_
    refine g_getR C cl11 0 4 25 rfl cd_A0 ⟨by decide, rfl, by decide⟩ rfl rfl (nA (by decide)) (ix := 39) lk_471 (by decide +kernel) ?_
    obtain ⟨r3_, d2_, hr4_, h⟩ := bd_some h
    refine g_callV C mw_Pa_faultKind [] 25 cl4 rfl (ok_Pa_faultKind  d  hr4_) cd_A25 (by decide) (nA (by decide)) (ix := 245) lk_866 lk_867 lk_868 ⟨rfl, rfl, Nat.le_of_ble_eq_true rfl, Nat.le_of_ble_eq_true rfl⟩ rfl (rest := []) rfl (Nat.le_of_ble_eq_true rfl) ⟨Nat.zero_le _, Nat.zero_le _⟩ (by decide +kernel) (fun _ hc5_ => ?_)
    replace hc5_ : c32 r3_ := hc5_
    refine g_st (st2 := [(0, r3_)]) rfl ?_
    refine g_goto C 30 (off := 19) (by decide +kernel) (by decide) ?_
    obtain ⟨rfl, rfl⟩ := ret_inj h
    exact g_iret C hc5_ hlk hr (by decide +kernel)
  · replace h := ite_f hc1_ h
    refine g_iload_n C 1 rfl (by decide +kernel) ?_
    refine g_iconst C 1 (cK rfl) (by decide +kernel) ?_
    refine g_icmp_ne C (off := 13) (tgt := 29) hp1 (c32_cb (Or.inr rfl)) (by decide +kernel) (by decide) (fun hc6_ => ?_) (fun hc6_ => ?_)
    · replace h := ite_t hc6_ h
      refine g_aload_n C 0 rfl (by decide +kernel) ?_
      refine g_getR C cl11 0 4 25 rfl cd_A0 ⟨by decide, rfl, by decide⟩ rfl rfl (nA (by decide)) (ix := 39) lk_471 (by decide +kernel) ?_
      obtain ⟨r8_, d7_, hr9_, h⟩ := bd_some h
      refine g_callV C mw_Pa_faultPlace [] 25 cl4 rfl (ok_Pa_faultPlace  d  hr9_) cd_A25 (by decide) (nA (by decide)) (ix := 248) lk_870 lk_871 lk_872 ⟨rfl, rfl, Nat.le_of_ble_eq_true rfl, Nat.le_of_ble_eq_true rfl⟩ rfl (rest := []) rfl (Nat.le_of_ble_eq_true rfl) ⟨Nat.zero_le _, Nat.zero_le _⟩ (by decide +kernel) (fun _ hc10_ => ?_)
      replace hc10_ : c32 r8_ := hc10_
      refine g_st (st2 := [(0, r8_)]) rfl ?_
      refine g_goto C 30 (off := 4) (by decide +kernel) (by decide) ?_
      obtain ⟨rfl, rfl⟩ := ret_inj h
      exact g_iret C hc10_ hlk hr (by decide +kernel)
    · replace h := ite_f hc6_ h
      refine g_iconst C (-1) (cK rfl) (by decide +kernel) ?_
      obtain ⟨rfl, rfl⟩ := ret_inj h
      exact g_iret C (cK rfl) hlk hr (by decide +kernel)
/-! PollBooks$Statute.isInForce(II)Z -/
def y_St_isInForce : MethodName := ⟨"PollBooks$Statute", "isInForce", "(II)Z"⟩
def rm_St_isInForce : Room := { frames := 0, cells := 0, slots := 0, locals := 0 }
theorem mw_St_isInForce : MW y_St_isInForce prog_11_method_7_code 3 (some .boolean) 2 := ⟨lk_889, lk_7, by decide +kernel⟩
def L_St_isInForce (this p1 p2 : Int) (d : Dt) : Option (Int × Dt) :=
  ck (stt d this) (if p2 < (d (this.toNat + 0) 0) then some (0, d) else ck (stt d this) (if (iand (ishr (d (this.toNat + 0) 1) p1) 1) = 0 then some (0, d) else some (1, d)))
set_option maxHeartbeats 4000000 in
theorem ok_St_isInForce {l : Launch} {r : Int} {d' : Dt} (this p1 p2 : Int) (d : Dt) (hp1 : c32 p1) (hp2 : c32 p2) (h : L_St_isInForce this p1 p2 d = some (r, d')) : MC l y_St_isInForce prog_11_method_7_code 3 (some .boolean) rm_St_isInForce 0 [(2, this), (0, p1), (0, p2)] d (some (0, r)) d' := by
  refine MC.of (by decide) (Nat.le_of_ble_eq_true rfl) ?_
  intro p e s m args below meth c D cA ad A C hlk hr
  replace C : Cx p s m args c prog_11_method_7_code 3 "PollBooks$Statute" D cA ad 0 A := C
  show G p l e rm_St_isInForce s m args below meth c 0 0 (MQ below (fun _ => QC D cA ad 0 A (some .boolean) (some (0, r)) d') args s 0 0 A) 3 D cA ad 0 A 0 [(2, this), (0, p1), (0, p2)] [] d
  refine g_sub (lo2 := [(2, this), (0, p1), (0, p2)]) (lsb_v (lsb_v (lsb_v lsb_e))) ?_
  unfold L_St_isInForce at h
  refine g_aload_n C 0 rfl (by decide +kernel) ?_
  obtain ⟨hs1_, h⟩ := ck_some h
  refine g_getI C cl9 (this.toNat + 0) 0 (stt_ko0 hs1_) (stt_cd hs1_ 0 (by decide)) ⟨by decide, rfl, by decide⟩ rfl (stt_n hs1_ 0 (by decide)) (ix := 38) lk_152 (by decide +kernel) (fun hc2_ => ?_)
  refine g_iload_n C 2 rfl (by decide +kernel) ?_
  refine g_icmp_gt C (off := 18) (tgt := 23) hc2_ hp2 (by decide +kernel) (by decide) (fun hc3_ => ?_) (fun hc3_ => ?_)
  · replace h := ite_t hc3_ h
    refine g_iconst C 0 (cK rfl) (by decide +kernel) ?_
    obtain ⟨rfl, rfl⟩ := ret_inj h
    exact g_zret C (Or.inl rfl) hlk hr (by decide +kernel)
  · replace h := ite_f hc3_ h
    refine g_aload_n C 0 rfl (by decide +kernel) ?_
    obtain ⟨hs4_, h⟩ := ck_some h
    refine g_getI C cl9 (this.toNat + 0) 1 (stt_ko0 hs4_) (stt_cd hs4_ 0 (by decide)) ⟨by decide, rfl, by decide⟩ rfl (stt_n hs4_ 0 (by decide)) (ix := 41) lk_154 (by decide +kernel) (fun hc5_ => ?_)
    refine g_iload_n C 1 rfl (by decide +kernel) ?_
    refine g_ishr C (by decide +kernel) ?_
    refine g_iconst C 1 (cK rfl) (by decide +kernel) ?_
    refine g_iand C (by decide +kernel) ?_
    refine g_if_eq C (off := 7) (tgt := 23) (i_c _) (by decide +kernel) (by decide) (fun hc6_ => ?_) (fun hc6_ => ?_)
    · replace h := ite_t hc6_ h
      refine g_iconst C 0 (cK rfl) (by decide +kernel) ?_
      obtain ⟨rfl, rfl⟩ := ret_inj h
      exact g_zret C (Or.inl rfl) hlk hr (by decide +kernel)
    · replace h := ite_f hc6_ h
      refine g_iconst C 1 (cK rfl) (by decide +kernel) ?_
      refine g_goto C 24 (off := 4) (by decide +kernel) (by decide) ?_
      obtain ⟨rfl, rfl⟩ := ret_inj h
      exact g_zret C (Or.inr rfl) hlk hr (by decide +kernel)
/-! PollBooks$Laws.isStruckFromBehind(I)Z -/
def y_La_isStruckFromBehind : MethodName := ⟨"PollBooks$Laws", "isStruckFromBehind", "(I)Z"⟩
def rm_La_isStruckFromBehind : Room := { frames := 0, cells := 0, slots := 0, locals := 0 }
theorem mw_La_isStruckFromBehind : MW y_La_isStruckFromBehind prog_5_method_13_code 7 (some .boolean) 1 := ⟨lk_893, lk_8, by decide +kernel⟩
def L_La_isStruckFromBehind_b73 (x3 x5 : Int) (d : Dt) : Option ((Int × Int × Dt) ⊕ ((Dt) ⊕ (Dt))) :=
  some (Sum.inl (x3, (w32 (x5 + 1)), d))
def L_La_isStruckFromBehind_y30 (x3 x5 : Int) (d : Dt) : Option ((Int × Int × Dt) ⊕ ((Dt) ⊕ (Dt))) :=
  if x5 < (d 30 6) then ck ((0 : Int) ≤ x5 ∧ x5 < 100) (if (d 32 x5.toNat) < 0 then L_La_isStruckFromBehind_b73 x3 x5 d else ck (stt d (d 32 x5.toNat)) (ck ((0 : Int) ≤ x5 ∧ x5 < 100) (ck (stt d (d 32 x5.toNat)) (ck ((0 : Int) ≤ (d 33 x5.toNat) ∧ (d 33 x5.toNat) < 20) (if (d ((d 32 x5.toNat).toNat + 2) ((d 33 x5.toNat)).toNat) = x3 then some (Sum.inr (Sum.inr (d))) else L_La_isStruckFromBehind_b73 x3 x5 d))))) else some (Sum.inr (Sum.inl (d)))
def L_La_isStruckFromBehind_l30 (x3 x5 : Int) (d : Dt) : Option ((Dt) ⊕ (Dt)) := lpF (fun q : Int × Int × Dt => L_La_isStruckFromBehind_y30 q.1 q.2.1 q.2.2) FU (x3, x5, d)
def L_La_isStruckFromBehind (p1 : Int) (d : Dt) : Option (Int × Dt) :=
  ck ((0 : Int) ≤ p1 ∧ p1 < 100) (if (d 32 p1.toNat) < 0 then some (0, d) else ck (stt d (d 32 p1.toNat)) (ck ((0 : Int) ≤ p1 ∧ p1 < 100) (ck (stt d (d 32 p1.toNat)) (ck ((0 : Int) ≤ (d 33 p1.toNat) ∧ (d 33 p1.toNat) < 20) (lt_ (d ((d 32 p1.toNat).toNat + 1) ((d 33 p1.toNat)).toNat) (fun v20_ => lt_ (w32 (p1 + 1)) (fun v23_ => lb (L_La_isStruckFromBehind_l30 v20_ v23_ d) (fun q32_ => sm q32_ (fun q33_ => u0 q33_ (fun d28_ => some (0, d28_))) (fun q34_ => u0 q34_ (fun d30_ => some (1, d30_)))))))))))
set_option maxHeartbeats 4000000 in
theorem ok_La_isStruckFromBehind_b73 {p : Program} {l : Launch} {e : Env} {s : State} {m : MethodId} {args : Array Value} {below : List Frame} {meth : Method} {c : Code} {D : va_G} {cA : Nat → ClassId} {ad : Nat → Nat} {A : Nat → Prop} (C : Cx p s m args c prog_5_method_13_code 7 "PollBooks$Laws" D cA ad 0 A) {Q : State → Prop} {o : (Int × Int × Dt) ⊕ ((Dt) ⊕ (Dt))} (x3 x5 : Int) (d : Dt) (hx3 : c64 x3) (hx5 : c32 x5) (h : L_La_isStruckFromBehind_b73 x3 x5 d = some o) (kb : ∀ (y0 y1 : Int) (e' : Dt), o = .inl (y0, y1, e') → c64 y0 → c32 y1 → G p l e rm_La_isStruckFromBehind s m args below meth c 0 0 Q 7 D cA ad 0 A 30 [(2, 30), (9, 0), (9, 0), (1, y0), (9, 0), (0, y1), (9, 0)] [] e') (k0 : ∀ (e' : Dt), o = .inr (Sum.inl (e')) → G p l e rm_La_isStruckFromBehind s m args below meth c 0 0 Q 7 D cA ad 0 A 79 [(9, 0), (9, 0), (9, 0), (9, 0), (9, 0), (9, 0), (9, 0)] [] e') (k1 : ∀ (e' : Dt), o = .inr (Sum.inr (e')) → G p l e rm_La_isStruckFromBehind s m args below meth c 0 0 Q 7 D cA ad 0 A 71 [(9, 0), (9, 0), (9, 0), (9, 0), (9, 0), (9, 0), (9, 0)] [] e') : G p l e rm_La_isStruckFromBehind s m args below meth c 0 0 Q 7 D cA ad 0 A 73 [(2, 30), (9, 0), (9, 0), (1, x3), (9, 0), (0, x5), (9, 0)] [] d := by
  unfold L_La_isStruckFromBehind_b73 at h
  refine s_iinc C 5 1 (lo' := [(2, 30), (9, 0), (9, 0), (1, x3), (9, 0), (0, (w32 (x5 + 1))), (9, 0)]) rfl (by decide) (s1k (s1k (s1k (s1k (s1n (by decide) s1z))))) (by decide +kernel) ?_
  refine g_goto C 30 (off := (-46)) (by decide +kernel) (by decide) ?_
  refine g_sub (lo2 := [(2, 30), (9, 0), (9, 0), (1, x3), (9, 0), (0, (w32 (x5 + 1))), (9, 0)]) (lsb_v (lsb_c (lsb_c (lsb_v (lsb_c (lsb_v (lsb_c lsb_e))))))) ?_
  obtain rfl := Option.some.inj h
  exact kb x3 (w32 (x5 + 1)) d rfl hx3 (w32_c _)
set_option maxHeartbeats 4000000 in
theorem ok_La_isStruckFromBehind_y30 {p : Program} {l : Launch} {e : Env} {s : State} {m : MethodId} {args : Array Value} {below : List Frame} {meth : Method} {c : Code} {D : va_G} {cA : Nat → ClassId} {ad : Nat → Nat} {A : Nat → Prop} (C : Cx p s m args c prog_5_method_13_code 7 "PollBooks$Laws" D cA ad 0 A) {Q : State → Prop} {o : (Int × Int × Dt) ⊕ ((Dt) ⊕ (Dt))} (x3 x5 : Int) (d : Dt) (hx3 : c64 x3) (hx5 : c32 x5) (h : L_La_isStruckFromBehind_y30 x3 x5 d = some o) (kb : ∀ (y0 y1 : Int) (e' : Dt), o = .inl (y0, y1, e') → c64 y0 → c32 y1 → G p l e rm_La_isStruckFromBehind s m args below meth c 0 0 Q 7 D cA ad 0 A 30 [(2, 30), (9, 0), (9, 0), (1, y0), (9, 0), (0, y1), (9, 0)] [] e') (k0 : ∀ (e' : Dt), o = .inr (Sum.inl (e')) → G p l e rm_La_isStruckFromBehind s m args below meth c 0 0 Q 7 D cA ad 0 A 79 [(9, 0), (9, 0), (9, 0), (9, 0), (9, 0), (9, 0), (9, 0)] [] e') (k1 : ∀ (e' : Dt), o = .inr (Sum.inr (e')) → G p l e rm_La_isStruckFromBehind s m args below meth c 0 0 Q 7 D cA ad 0 A 71 [(9, 0), (9, 0), (9, 0), (9, 0), (9, 0), (9, 0), (9, 0)] [] e') : G p l e rm_La_isStruckFromBehind s m args below meth c 0 0 Q 7 D cA ad 0 A 30 [(2, 30), (9, 0), (9, 0), (1, x3), (9, 0), (0, x5), (9, 0)] [] d := by
  unfold L_La_isStruckFromBehind_y30 at h
  refine g_iload C 5 rfl (by decide +kernel) ?_
  refine g_aload_n C 0 rfl (by decide +kernel) ?_
  refine g_getI C cl3 30 6 rfl cd_A30 ⟨by decide, rfl, by decide⟩ rfl (nA (by decide)) (ix := 63) lk_237 (by decide +kernel) (fun hc1_ => ?_)
  refine g_icmp_ge C (off := 43) (tgt := 79) hx5 hc1_ (by decide +kernel) (by decide) (fun hc2_ => ?_) (fun hc2_ => ?_)
  · replace h := ite_t hc2_ h
    refine g_aload_n C 0 rfl (by decide +kernel) ?_
    refine g_getR C cl3 30 3 32 rfl cd_A30 ⟨by decide, rfl, by decide⟩ rfl rfl (nA (by decide)) (ix := 17) lk_234 (by decide +kernel) ?_
    refine g_iload C 5 rfl (by decide +kernel) ?_
    obtain ⟨hb3_, h⟩ := ck_some h
    refine g_aald C 32 hx5 rfl cd_A32 (nA (by decide)) hb3_ (by decide +kernel) ?_
    refine s_astore C 6 (lo' := [(2, 30), (9, 0), (9, 0), (1, x3), (9, 0), (0, x5), (2, (d 32 x5.toNat))]) (by decide) (s1k (s1k (s1k (s1k (s1k (s1n (by decide) s1z)))))) (by decide +kernel) ?_
    refine g_aload C 6 rfl (by decide +kernel) ?_
    refine g_ifnull C (off := 23) (tgt := 73) (by decide +kernel) (by decide) (fun hc4_ => ?_) (fun hc4_ => ?_)
    · replace h := ite_t hc4_ h
      refine g_sub (lo2 := [(2, 30), (9, 0), (9, 0), (1, x3), (9, 0), (0, x5), (9, 0)]) (lsb_v (lsb_c (lsb_c (lsb_v (lsb_c (lsb_v (lsb_c lsb_e))))))) ?_
      exact ok_La_isStruckFromBehind_b73 C x3 x5 d hx3 hx5 h kb k0 k1
    · replace h := ite_f hc4_ h
      refine g_aload C 6 rfl (by decide +kernel) ?_
      obtain ⟨hs5_, h⟩ := ck_some h
      refine g_getRN C cl9 ((d 32 x5.toNat).toNat + 0) 5 ((d 32 x5.toNat) + 2) (stt_ko0 hs5_) (stt_cd hs5_ 0 (by decide)) ⟨by decide, rfl, by decide⟩ rfl (stt_ko hs5_ 2).symm (stt_n hs5_ 0 (by decide)) (ix := 100) lk_164 (by decide +kernel) ?_
      refine g_aload_n C 0 rfl (by decide +kernel) ?_
      refine g_getR C cl3 30 4 33 rfl cd_A30 ⟨by decide, rfl, by decide⟩ rfl rfl (nA (by decide)) (ix := 20) lk_235 (by decide +kernel) ?_
      refine g_iload C 5 rfl (by decide +kernel) ?_
      obtain ⟨hb6_, h⟩ := ck_some h
      refine g_iald C 33 hx5 rfl cd_A33 (nA (by decide)) hb6_ (by decide +kernel) (fun hc7_ => ?_)
      obtain ⟨hs8_, h⟩ := ck_some h
      obtain ⟨hb9_, h⟩ := ck_some h
      refine g_lald C ((d 32 x5.toNat).toNat + 2) hc7_ (stt_ko hs8_ 2) (stt_cd hs8_ 2 (by decide)) (stt_n hs8_ 2 (by decide)) hb9_ (by decide +kernel) (fun hc10_ => ?_)
      refine g_lload_n C 3 rfl (by decide +kernel) ?_
      refine g_lc_ne C (off := 5) (tgt := 73) hc10_ hx3 (by decide +kernel) (by decide +kernel) (by decide) (fun hc11_ => ?_) (fun hc11_ => ?_)
      · replace h := ite_t hc11_ h
        refine g_sub (lo2 := [(9, 0), (9, 0), (9, 0), (9, 0), (9, 0), (9, 0), (9, 0)]) (lsb_c (lsb_c (lsb_c (lsb_c (lsb_c (lsb_c (lsb_c lsb_e))))))) ?_
        obtain rfl := Option.some.inj h
        exact k1 d rfl 
      · replace h := ite_f hc11_ h
        refine g_sub (lo2 := [(2, 30), (9, 0), (9, 0), (1, x3), (9, 0), (0, x5), (9, 0)]) (lsb_v (lsb_c (lsb_c (lsb_v (lsb_c (lsb_v (lsb_c lsb_e))))))) ?_
        exact ok_La_isStruckFromBehind_b73 C x3 x5 d hx3 hx5 h kb k0 k1
  · replace h := ite_f hc2_ h
    refine g_sub (lo2 := [(9, 0), (9, 0), (9, 0), (9, 0), (9, 0), (9, 0), (9, 0)]) (lsb_c (lsb_c (lsb_c (lsb_c (lsb_c (lsb_c (lsb_c lsb_e))))))) ?_
    obtain rfl := Option.some.inj h
    exact k0 d rfl 
set_option maxHeartbeats 4000000 in
theorem ok_La_isStruckFromBehind_n30 {p : Program} {l : Launch} {e : Env} {s : State} {m : MethodId} {args : Array Value} {below : List Frame} {meth : Method} {c : Code} {D : va_G} {cA : Nat → ClassId} {ad : Nat → Nat} {A : Nat → Prop} (C : Cx p s m args c prog_5_method_13_code 7 "PollBooks$Laws" D cA ad 0 A) {Q : State → Prop} {x : (Dt) ⊕ (Dt)} : ∀ (n : Nat) (x3 x5 : Int) (d : Dt), c64 x3 → c32 x5 → lpF (fun q : Int × Int × Dt => L_La_isStruckFromBehind_y30 q.1 q.2.1 q.2.2) n (x3, x5, d) = some x → (∀ (e' : Dt), x = (Sum.inl (e')) → G p l e rm_La_isStruckFromBehind s m args below meth c 0 0 Q 7 D cA ad 0 A 79 [(9, 0), (9, 0), (9, 0), (9, 0), (9, 0), (9, 0), (9, 0)] [] e') → (∀ (e' : Dt), x = (Sum.inr (e')) → G p l e rm_La_isStruckFromBehind s m args below meth c 0 0 Q 7 D cA ad 0 A 71 [(9, 0), (9, 0), (9, 0), (9, 0), (9, 0), (9, 0), (9, 0)] [] e') → G p l e rm_La_isStruckFromBehind s m args below meth c 0 0 Q 7 D cA ad 0 A 30 [(2, 30), (9, 0), (9, 0), (1, x3), (9, 0), (0, x5), (9, 0)] [] d := by
  intro n
  induction n with
  | zero => intro x3 x5 d g0 g1 h k0 k1; cases h
  | succ n ih =>
    intro x3 x5 d g0 g1 h k0 k1
    rcases lpF_some h with h | ⟨⟨v0_, v1_, e0_⟩, h1, h⟩
    · exact ok_La_isStruckFromBehind_y30 C x3 x5 d g0 g1 h (fun z0_ z1_ e1_ eq w0_ w1_ => by cases eq) (fun e1_ eq => k0 _ (by cases eq; rfl) ) (fun e1_ eq => k1 _ (by cases eq; rfl) )
    · exact ok_La_isStruckFromBehind_y30 C x3 x5 d g0 g1 h1 (fun z0_ z1_ e1_ eq w0_ w1_ => by cases eq; exact ih _ _ _ w0_ w1_ h k0 k1) (fun e1_ eq => by cases eq) (fun e1_ eq => by cases eq)
set_option maxHeartbeats 4000000 in
theorem ok_La_isStruckFromBehind_l30 {p : Program} {l : Launch} {e : Env} {s : State} {m : MethodId} {args : Array Value} {below : List Frame} {meth : Method} {c : Code} {D : va_G} {cA : Nat → ClassId} {ad : Nat → Nat} {A : Nat → Prop} (C : Cx p s m args c prog_5_method_13_code 7 "PollBooks$Laws" D cA ad 0 A) {Q : State → Prop} {x : (Dt) ⊕ (Dt)} (x3 x5 : Int) (d : Dt) (hx3 : c64 x3) (hx5 : c32 x5) (h : L_La_isStruckFromBehind_l30 x3 x5 d = some x) (k0 : ∀ (e' : Dt), x = (Sum.inl (e')) → G p l e rm_La_isStruckFromBehind s m args below meth c 0 0 Q 7 D cA ad 0 A 79 [(9, 0), (9, 0), (9, 0), (9, 0), (9, 0), (9, 0), (9, 0)] [] e') (k1 : ∀ (e' : Dt), x = (Sum.inr (e')) → G p l e rm_La_isStruckFromBehind s m args below meth c 0 0 Q 7 D cA ad 0 A 71 [(9, 0), (9, 0), (9, 0), (9, 0), (9, 0), (9, 0), (9, 0)] [] e') : G p l e rm_La_isStruckFromBehind s m args below meth c 0 0 Q 7 D cA ad 0 A 30 [(2, 30), (9, 0), (9, 0), (1, x3), (9, 0), (0, x5), (9, 0)] [] d :=
  ok_La_isStruckFromBehind_n30 C FU x3 x5 d hx3 hx5 h k0 k1
set_option maxHeartbeats 4000000 in
theorem ok_La_isStruckFromBehind {l : Launch} {r : Int} {d' : Dt} (p1 : Int) (d : Dt) (hp1 : c32 p1) (h : L_La_isStruckFromBehind p1 d = some (r, d')) : MC l y_La_isStruckFromBehind prog_5_method_13_code 7 (some .boolean) rm_La_isStruckFromBehind 0 [(2, 30), (0, p1)] d (some (0, r)) d' := by
  refine MC.of (by decide) (Nat.le_of_ble_eq_true rfl) ?_
  intro p e s m args below meth c D cA ad A C hlk hr
  replace C : Cx p s m args c prog_5_method_13_code 7 "PollBooks$Laws" D cA ad 0 A := C
  show G p l e rm_La_isStruckFromBehind s m args below meth c 0 0 (MQ below (fun _ => QC D cA ad 0 A (some .boolean) (some (0, r)) d') args s 0 0 A) 7 D cA ad 0 A 0 [(2, 30), (0, p1)] [] d
  refine g_sub (lo2 := [(2, 30), (0, p1), (9, 0), (9, 0), (9, 0), (9, 0), (9, 0)]) (lsb_v (lsb_v (lsb_n (lsb_n (lsb_n (lsb_n (lsb_n lsb_e))))))) ?_
  unfold L_La_isStruckFromBehind at h
  refine g_aload_n C 0 rfl (by decide +kernel) ?_
  refine g_getR C cl3 30 3 32 rfl cd_A30 ⟨by decide, rfl, by decide⟩ rfl rfl (nA (by decide)) (ix := 17) lk_234 (by decide +kernel) ?_
  refine g_iload_n C 1 rfl (by decide +kernel) ?_
  obtain ⟨hb12_, h⟩ := ck_some h
  refine g_aald C 32 hp1 rfl cd_A32 (nA (by decide)) hb12_ (by decide +kernel) ?_
  refine s_astore_n C 2 (lo' := [(2, 30), (0, p1), (2, (d 32 p1.toNat)), (9, 0), (9, 0), (9, 0), (9, 0)]) (by decide) (s1k (s1n (by decide) s1z)) (by decide +kernel) ?_
  refine g_aload_n C 2 rfl (by decide +kernel) ?_
  refine g_ifnonnull C (off := 5) (tgt := 13) (by decide +kernel) (by decide) (fun hc13_ => ?_) (fun hc13_ => ?_)
  · replace h := ite_t hc13_ h
    refine g_iconst C 0 (cK rfl) (by decide +kernel) ?_
    obtain ⟨rfl, rfl⟩ := ret_inj h
    exact g_zret C (Or.inl rfl) hlk hr (by decide +kernel)
  · replace h := ite_f hc13_ h
    refine g_aload_n C 2 rfl (by decide +kernel) ?_
    obtain ⟨hs14_, h⟩ := ck_some h
    refine g_getRN C cl9 ((d 32 p1.toNat).toNat + 0) 4 ((d 32 p1.toNat) + 1) (stt_ko0 hs14_) (stt_cd hs14_ 0 (by decide)) ⟨by decide, rfl, by decide⟩ rfl (stt_ko hs14_ 1).symm (stt_n hs14_ 0 (by decide)) (ix := 97) lk_162 (by decide +kernel) ?_
    refine g_aload_n C 0 rfl (by decide +kernel) ?_
    refine g_getR C cl3 30 4 33 rfl cd_A30 ⟨by decide, rfl, by decide⟩ rfl rfl (nA (by decide)) (ix := 20) lk_235 (by decide +kernel) ?_
    refine g_iload_n C 1 rfl (by decide +kernel) ?_
    obtain ⟨hb15_, h⟩ := ck_some h
    refine g_iald C 33 hp1 rfl cd_A33 (nA (by decide)) hb15_ (by decide +kernel) (fun hc16_ => ?_)
    obtain ⟨hs17_, h⟩ := ck_some h
    obtain ⟨hb18_, h⟩ := ck_some h
    refine g_lald C ((d 32 p1.toNat).toNat + 1) hc16_ (stt_ko hs17_ 1) (stt_cd hs17_ 1 (by decide)) (stt_n hs17_ 1 (by decide)) hb18_ (by decide +kernel) (fun hc19_ => ?_)
    obtain ⟨v20_, ev21_, h⟩ := lt_some h
    refine g_val ev21_.symm ?_
    have hv22_ : c64 v20_ := by rw [ev21_]; exact hc19_
    refine s_lstore_n C 3 (lo' := [(2, 30), (0, p1), (2, (d 32 p1.toNat)), (1, v20_), (9, 0), (9, 0), (9, 0)]) (by decide) (s2k (s2k (s2n (by decide) s2z))) (by decide +kernel) ?_
    refine g_iload_n C 1 rfl (by decide +kernel) ?_
    refine g_iconst C 1 (cK rfl) (by decide +kernel) ?_
    refine g_iadd C (by decide +kernel) ?_
    obtain ⟨v23_, ev24_, h⟩ := lt_some h
    refine g_val ev24_.symm ?_
    have hv25_ : c32 v23_ := by rw [ev24_]; exact (w32_c _)
    refine s_istore C 5 (lo' := [(2, 30), (0, p1), (2, (d 32 p1.toNat)), (1, v20_), (9, 0), (0, v23_), (9, 0)]) (by decide) (s1k (s1k (s1k (s1k (s1n (by decide) s1z))))) (by decide +kernel) ?_
    refine g_sub (lo2 := [(2, 30), (9, 0), (9, 0), (1, v20_), (9, 0), (0, v23_), (9, 0)]) (lsb_v (lsb_c (lsb_c (lsb_v (lsb_c (lsb_v (lsb_c lsb_e))))))) ?_
    obtain ⟨x26_, hx27_, h⟩ := lb_some h
    refine ok_La_isStruckFromBehind_l30 C v20_ v23_ d hv22_ hv25_ hx27_ (fun d28_ eq29_ => ?_) (fun d30_ eq31_ => ?_)
    · subst eq29_
      replace h := sml_e h
      replace h := u0_e h
      refine g_iconst C 0 (cK rfl) (by decide +kernel) ?_
      obtain ⟨rfl, rfl⟩ := ret_inj h
      exact g_zret C (Or.inl rfl) hlk hr (by decide +kernel)
    · subst eq31_
      replace h := smr_e h
      replace h := u0_e h
      refine g_iconst C 1 (cK rfl) (by decide +kernel) ?_
      obtain ⟨rfl, rfl⟩ := ret_inj h
      exact g_zret C (Or.inr rfl) hlk hr (by decide +kernel)
/-! PollBooks$Laws.gather(II)V -/
def y_La_gather : MethodName := ⟨"PollBooks$Laws", "gather", "(II)V"⟩
def rm_La_gather : Room := { frames := 1, cells := 0, slots := 0, locals := 26 }
theorem mw_La_gather : MW y_La_gather prog_5_method_12_code 6 none 2 := ⟨lk_885, lk_8, by decide +kernel⟩
def L_La_gather_y133 (x3 : Int) (d : Dt) : Option ((Int × Dt) ⊕ ((Dt))) :=
  if x3 < (d 30 6) then bd (L_La_isStruckFromBehind x3 d) (fun r4_ d3_ => ck ((0 : Int) ≤ x3 ∧ x3 < 100) (some (Sum.inl ((w32 (x3 + 1)), (up2 d3_ 34 x3.toNat r4_))))) else some (Sum.inr (d))
def L_La_gather_l133 (x3 : Int) (d : Dt) : Option ((Dt)) := lpF (fun q : Int × Dt => L_La_gather_y133 q.1 q.2) FU (x3, d)
def L_La_gather_y68 (x1 x2 x3 x4 x5 : Int) (d : Dt) : Option ((Int × Int × Int × Int × Int × Dt) ⊕ ((Int × Int × Int × Dt))) :=
  ck (stt d x4) (if x5 < (d (x4.toNat + 0) 2) then if (d 30 6) < 100 then ck ((0 : Int) ≤ (d 30 6) ∧ (d 30 6) < 100) (ck (stt d x4) (ck ((0 : Int) ≤ (d 30 6) ∧ (d 30 6) < 100) (some (Sum.inl (x1, x2, x3, x4, (w32 (x5 + 1)), (up2 (up2 (up2 d 32 ((d 30 6)).toNat x4) 33 ((d 30 6)).toNat x5) 30 6 (w32 ((d 30 6) + 1)))))))) else some (Sum.inr (x1, x2, x3, d)) else some (Sum.inr (x1, x2, x3, d)))
def L_La_gather_l68 (x1 x2 x3 x4 x5 : Int) (d : Dt) : Option ((Int × Int × Int × Dt)) := lpF (fun q : Int × Int × Int × Int × Int × Dt => L_La_gather_y68 q.1 q.2.1 q.2.2.1 q.2.2.2.1 q.2.2.2.2.1 q.2.2.2.2.2) FU (x1, x2, x3, x4, x5, d)
def L_La_gather_b125 (x1 x2 x3 : Int) (d : Dt) : Option ((Int × Int × Int × Dt) ⊕ ((Dt))) :=
  some (Sum.inl (x1, x2, (w32 (x3 + 1)), d))
def L_La_gather_y34 (x1 x2 x3 : Int) (d : Dt) : Option ((Int × Int × Int × Dt) ⊕ ((Dt))) :=
  if x3 < (d 30 2) then ck ((0 : Int) ≤ x3 ∧ x3 < 5) (if (d 31 x3.toNat) < 0 then L_La_gather_b125 x1 x2 x3 d else ck (stt d (d 31 x3.toNat)) (bd (L_St_isInForce (d 31 x3.toNat) x1 x2 d) (fun r24_ d23_ => if r24_ = 0 then L_La_gather_b125 x1 x2 x3 d23_ else lb (L_La_gather_l68 x1 x2 x3 (d 31 x3.toNat) 0 d23_) (fun q36_ => u3 q36_ (fun v31_ v32_ v33_ d34_ => L_La_gather_b125 v31_ v32_ v33_ d34_))))) else some (Sum.inr (d))
def L_La_gather_l34 (x1 x2 x3 : Int) (d : Dt) : Option ((Dt)) := lpF (fun q : Int × Int × Int × Dt => L_La_gather_y34 q.1 q.2.1 q.2.2.1 q.2.2.2) FU (x1, x2, x3, d)
def L_La_gather_b17 (x1 x2 : Int) (d : Dt) : Option (Int × Dt) :=
  lb (L_La_gather_l34 x1 x2 0 (up2 (up2 (up2 d 30 7 x1) 30 8 x2) 30 6 0)) (fun q46_ => u0 q46_ (fun d39_ => lb (L_La_gather_l133 0 d39_) (fun q45_ => u0 q45_ (fun d43_ => some (0, d43_)))))
def L_La_gather (p1 p2 : Int) (d : Dt) : Option (Int × Dt) :=
  if p1 = (d 30 7) then if p2 = (d 30 8) then some (0, d) else L_La_gather_b17 p1 p2 d else L_La_gather_b17 p1 p2 d
set_option maxHeartbeats 4000000 in
theorem ok_La_gather_y133 {p : Program} {l : Launch} {e : Env} {s : State} {m : MethodId} {args : Array Value} {below : List Frame} {meth : Method} {c : Code} {D : va_G} {cA : Nat → ClassId} {ad : Nat → Nat} {A : Nat → Prop} (C : Cx p s m args c prog_5_method_12_code 6 "PollBooks$Laws" D cA ad 0 A) {Q : State → Prop} {o : (Int × Dt) ⊕ ((Dt))} (x3 : Int) (d : Dt) (hx3 : c32 x3) (h : L_La_gather_y133 x3 d = some o) (kb : ∀ (y0 : Int) (e' : Dt), o = .inl (y0, e') → c32 y0 → G p l e rm_La_gather s m args below meth c 0 0 Q 6 D cA ad 0 A 133 [(2, 30), (9, 0), (9, 0), (0, y0), (9, 0), (9, 0)] [] e') (k0 : ∀ (e' : Dt), o = .inr (e') → G p l e rm_La_gather s m args below meth c 0 0 Q 6 D cA ad 0 A 158 [(9, 0), (9, 0), (9, 0), (9, 0), (9, 0), (9, 0)] [] e') : G p l e rm_La_gather s m args below meth c 0 0 Q 6 D cA ad 0 A 133 [(2, 30), (9, 0), (9, 0), (0, x3), (9, 0), (9, 0)] [] d := by
  unfold L_La_gather_y133 at h
  refine g_iload_n C 3 rfl (by decide +kernel) ?_
  refine g_aload_n C 0 rfl (by decide +kernel) ?_
  refine g_getI C cl3 30 6 rfl cd_A30 ⟨by decide, rfl, by decide⟩ rfl (nA (by decide)) (ix := 63) lk_237 (by decide +kernel) (fun hc1_ => ?_)
  refine g_icmp_ge C (off := 20) (tgt := 158) hx3 hc1_ (by decide +kernel) (by decide) (fun hc2_ => ?_) (fun hc2_ => ?_)
  · replace h := ite_t hc2_ h
    refine g_aload_n C 0 rfl (by decide +kernel) ?_
    refine g_getR C cl3 30 5 34 rfl cd_A30 ⟨by decide, rfl, by decide⟩ rfl rfl (nA (by decide)) (ix := 24) lk_236 (by decide +kernel) ?_
    refine g_iload_n C 3 rfl (by decide +kernel) ?_
    refine g_aload_n C 0 rfl (by decide +kernel) ?_
    refine g_iload_n C 3 rfl (by decide +kernel) ?_
    obtain ⟨r4_, d3_, hr5_, h⟩ := bd_some h
    refine g_callV C mw_La_isStruckFromBehind [(0, x3)] 30 cl3 rfl (ok_La_isStruckFromBehind x3 d hx3 hr5_) cd_A30 (by decide) (nA (by decide)) (ix := 93) lk_890 lk_892 lkp_26 ⟨rfl, rfl, Nat.le_of_ble_eq_true rfl, Nat.le_of_ble_eq_true rfl⟩ rfl (rest := [(0, x3), (2, 34)]) rfl (Nat.le_of_ble_eq_true rfl) ⟨Nat.zero_le _, Nat.zero_le _⟩ (by decide +kernel) (fun _ hc6_ => ?_)
    replace hc6_ : cb r4_ := hc6_
    refine g_st (st2 := [(0, r4_), (0, x3), (2, 34)]) rfl ?_
    obtain ⟨hb7_, h⟩ := ck_some h
    refine g_zast C 34 hc6_ hx3 rfl cd_A34 (nA (by decide)) hb7_ (by decide +kernel) ?_
    refine s_iinc C 3 1 (lo' := [(2, 30), (9, 0), (9, 0), (0, (w32 (x3 + 1))), (9, 0), (9, 0)]) rfl (by decide) (s1k (s1k (s1n (by decide) s1z))) (by decide +kernel) ?_
    refine g_goto C 133 (off := (-22)) (by decide +kernel) (by decide) ?_
    refine g_sub (lo2 := [(2, 30), (9, 0), (9, 0), (0, (w32 (x3 + 1))), (9, 0), (9, 0)]) (lsb_v (lsb_c (lsb_c (lsb_v (lsb_c (lsb_c lsb_e)))))) ?_
    obtain rfl := Option.some.inj h
    exact kb (w32 (x3 + 1)) (up2 d3_ 34 x3.toNat r4_) rfl (w32_c _)
  · replace h := ite_f hc2_ h
    refine g_sub (lo2 := [(9, 0), (9, 0), (9, 0), (9, 0), (9, 0), (9, 0)]) (lsb_c (lsb_c (lsb_c (lsb_c (lsb_c (lsb_c lsb_e)))))) ?_
    obtain rfl := Option.some.inj h
    exact k0 d rfl 
set_option maxHeartbeats 4000000 in
theorem ok_La_gather_n133 {p : Program} {l : Launch} {e : Env} {s : State} {m : MethodId} {args : Array Value} {below : List Frame} {meth : Method} {c : Code} {D : va_G} {cA : Nat → ClassId} {ad : Nat → Nat} {A : Nat → Prop} (C : Cx p s m args c prog_5_method_12_code 6 "PollBooks$Laws" D cA ad 0 A) {Q : State → Prop} {x : (Dt)} : ∀ (n : Nat) (x3 : Int) (d : Dt), c32 x3 → lpF (fun q : Int × Dt => L_La_gather_y133 q.1 q.2) n (x3, d) = some x → (∀ (e' : Dt), x = (e') → G p l e rm_La_gather s m args below meth c 0 0 Q 6 D cA ad 0 A 158 [(9, 0), (9, 0), (9, 0), (9, 0), (9, 0), (9, 0)] [] e') → G p l e rm_La_gather s m args below meth c 0 0 Q 6 D cA ad 0 A 133 [(2, 30), (9, 0), (9, 0), (0, x3), (9, 0), (9, 0)] [] d := by
  intro n
  induction n with
  | zero => intro x3 d g0 h k0; cases h
  | succ n ih =>
    intro x3 d g0 h k0
    rcases lpF_some h with h | ⟨⟨v0_, e0_⟩, h1, h⟩
    · exact ok_La_gather_y133 C x3 d g0 h (fun z0_ e1_ eq w0_ => by cases eq) (fun e1_ eq => k0 _ (by cases eq; rfl) )
    · exact ok_La_gather_y133 C x3 d g0 h1 (fun z0_ e1_ eq w0_ => by cases eq; exact ih _ _ w0_ h k0) (fun e1_ eq => by cases eq)
set_option maxHeartbeats 4000000 in
theorem ok_La_gather_l133 {p : Program} {l : Launch} {e : Env} {s : State} {m : MethodId} {args : Array Value} {below : List Frame} {meth : Method} {c : Code} {D : va_G} {cA : Nat → ClassId} {ad : Nat → Nat} {A : Nat → Prop} (C : Cx p s m args c prog_5_method_12_code 6 "PollBooks$Laws" D cA ad 0 A) {Q : State → Prop} {x : (Dt)} (x3 : Int) (d : Dt) (hx3 : c32 x3) (h : L_La_gather_l133 x3 d = some x) (k0 : ∀ (e' : Dt), x = (e') → G p l e rm_La_gather s m args below meth c 0 0 Q 6 D cA ad 0 A 158 [(9, 0), (9, 0), (9, 0), (9, 0), (9, 0), (9, 0)] [] e') : G p l e rm_La_gather s m args below meth c 0 0 Q 6 D cA ad 0 A 133 [(2, 30), (9, 0), (9, 0), (0, x3), (9, 0), (9, 0)] [] d :=
  ok_La_gather_n133 C FU x3 d hx3 h k0
set_option maxHeartbeats 4000000 in
theorem ok_La_gather_y68 {p : Program} {l : Launch} {e : Env} {s : State} {m : MethodId} {args : Array Value} {below : List Frame} {meth : Method} {c : Code} {D : va_G} {cA : Nat → ClassId} {ad : Nat → Nat} {A : Nat → Prop} (C : Cx p s m args c prog_5_method_12_code 6 "PollBooks$Laws" D cA ad 0 A) {Q : State → Prop} {o : (Int × Int × Int × Int × Int × Dt) ⊕ ((Int × Int × Int × Dt))} (x1 x2 x3 x4 x5 : Int) (d : Dt) (hx1 : c32 x1) (hx2 : c32 x2) (hx3 : c32 x3) (hx5 : c32 x5) (h : L_La_gather_y68 x1 x2 x3 x4 x5 d = some o) (kb : ∀ (y0 y1 y2 y3 y4 : Int) (e' : Dt), o = .inl (y0, y1, y2, y3, y4, e') → c32 y0 → c32 y1 → c32 y2 → c32 y4 → G p l e rm_La_gather s m args below meth c 0 0 Q 6 D cA ad 0 A 68 [(2, 30), (0, y0), (0, y1), (0, y2), (2, y3), (0, y4)] [] e') (k0 : ∀ (y0 y1 y2 : Int) (e' : Dt), o = .inr (y0, y1, y2, e') → c32 y0 → c32 y1 → c32 y2 → G p l e rm_La_gather s m args below meth c 0 0 Q 6 D cA ad 0 A 125 [(2, 30), (0, y0), (0, y1), (0, y2), (9, 0), (9, 0)] [] e') : G p l e rm_La_gather s m args below meth c 0 0 Q 6 D cA ad 0 A 68 [(2, 30), (0, x1), (0, x2), (0, x3), (2, x4), (0, x5)] [] d := by
  unfold L_La_gather_y68 at h
  refine g_iload C 5 rfl (by decide +kernel) ?_
  refine g_aload C 4 rfl (by decide +kernel) ?_
  obtain ⟨hs8_, h⟩ := ck_some h
  refine g_getIN C cl9 (x4.toNat + 0) 2 (stt_ko0 hs8_) (stt_cd hs8_ 0 (by decide)) ⟨by decide, rfl, by decide⟩ rfl (stt_n hs8_ 0 (by decide)) (ix := 92) lk_156 (by decide +kernel) (fun hc9_ => ?_)
  refine g_icmp_ge C (off := 50) (tgt := 125) hx5 hc9_ (by decide +kernel) (by decide) (fun hc10_ => ?_) (fun hc10_ => ?_)
  · replace h := ite_t hc10_ h
    refine g_aload_n C 0 rfl (by decide +kernel) ?_
    refine g_getI C cl3 30 6 rfl cd_A30 ⟨by decide, rfl, by decide⟩ rfl (nA (by decide)) (ix := 63) lk_237 (by decide +kernel) (fun hc11_ => ?_)
    refine g_bipush C 100 (by decide) (by decide +kernel) ?_
    refine g_icmp_ge C (off := 41) (tgt := 125) hc11_ (cK rfl) (by decide +kernel) (by decide) (fun hc12_ => ?_) (fun hc12_ => ?_)
    · replace h := ite_t hc12_ h
      refine g_aload_n C 0 rfl (by decide +kernel) ?_
      refine g_getR C cl3 30 3 32 rfl cd_A30 ⟨by decide, rfl, by decide⟩ rfl rfl (nA (by decide)) (ix := 17) lk_234 (by decide +kernel) ?_
      refine g_aload_n C 0 rfl (by decide +kernel) ?_
      refine g_getI C cl3 30 6 rfl cd_A30 ⟨by decide, rfl, by decide⟩ rfl (nA (by decide)) (ix := 63) lk_237 (by decide +kernel) (fun hc13_ => ?_)
      refine g_aload C 4 rfl (by decide +kernel) ?_
      obtain ⟨hb14_, h⟩ := ck_some h
      obtain ⟨hs15_, h⟩ := ck_some h
      refine g_aast C 32 (x4.toNat + 0) hc13_ rfl (stt_ko0 hs15_) cd_A32 (stt_cd hs15_ 0 (by decide)) (nA (by decide)) (stt_n hs15_ 0 (by decide)) hb14_ (by decide +kernel) ?_
      refine g_aload_n C 0 rfl (by decide +kernel) ?_
      refine g_getR C cl3 30 4 33 rfl cd_A30 ⟨by decide, rfl, by decide⟩ rfl rfl (nA (by decide)) (ix := 20) lk_235 (by decide +kernel) ?_
      refine g_aload_n C 0 rfl (by decide +kernel) ?_
      refine g_getI C cl3 30 6 rfl cd_A30 ⟨by decide, rfl, by decide⟩ rfl (nA (by decide)) (ix := 63) lk_237 (by decide +kernel) (fun hc16_ => ?_)
      refine g_val (y := (d 30 6)) rfl ?_
      replace hc16_ : c32 (d 30 6) := hc16_
      refine g_iload C 5 rfl (by decide +kernel) ?_
      obtain ⟨hb17_, h⟩ := ck_some h
      refine g_iast C 33 hx5 hc16_ rfl cd_A33 (nA (by decide)) hb17_ (by decide +kernel) ?_
      refine g_aload_n C 0 rfl (by decide +kernel) ?_
      refine g_dup C tg2 (by decide +kernel) ?_
      refine g_getI C cl3 30 6 rfl cd_A30 ⟨by decide, rfl, by decide⟩ rfl (nA (by decide)) (ix := 63) lk_237 (by decide +kernel) (fun hc18_ => ?_)
      refine g_val (y := (d 30 6)) rfl ?_
      replace hc18_ : c32 (d 30 6) := hc18_
      refine g_iconst C 1 (cK rfl) (by decide +kernel) ?_
      refine g_iadd C (by decide +kernel) ?_
      refine g_putI C cl3 30 6 (w32_c _) rfl cd_A30 ⟨by decide, rfl, by decide⟩ rfl (nA (by decide)) (ix := 63) lk_237 rfl rfl (by decide +kernel) ?_
      refine s_iinc C 5 1 (lo' := [(2, 30), (0, x1), (0, x2), (0, x3), (2, x4), (0, (w32 (x5 + 1)))]) rfl (by decide) (s1k (s1k (s1k (s1k (s1n (by decide) s1z))))) (by decide +kernel) ?_
      refine g_goto C 68 (off := (-54)) (by decide +kernel) (by decide) ?_
      refine g_sub (lo2 := [(2, 30), (0, x1), (0, x2), (0, x3), (2, x4), (0, (w32 (x5 + 1)))]) (lsb_v (lsb_v (lsb_v (lsb_v (lsb_v (lsb_v lsb_e)))))) ?_
      obtain rfl := Option.some.inj h
      exact kb x1 x2 x3 x4 (w32 (x5 + 1)) (up2 (up2 (up2 d 32 ((d 30 6)).toNat x4) 33 ((d 30 6)).toNat x5) 30 6 (w32 ((d 30 6) + 1))) rfl hx1 hx2 hx3 (w32_c _)
    · replace h := ite_f hc12_ h
      refine g_sub (lo2 := [(2, 30), (0, x1), (0, x2), (0, x3), (9, 0), (9, 0)]) (lsb_v (lsb_v (lsb_v (lsb_v (lsb_c (lsb_c lsb_e)))))) ?_
      obtain rfl := Option.some.inj h
      exact k0 x1 x2 x3 d rfl hx1 hx2 hx3
  · replace h := ite_f hc10_ h
    refine g_sub (lo2 := [(2, 30), (0, x1), (0, x2), (0, x3), (9, 0), (9, 0)]) (lsb_v (lsb_v (lsb_v (lsb_v (lsb_c (lsb_c lsb_e)))))) ?_
    obtain rfl := Option.some.inj h
    exact k0 x1 x2 x3 d rfl hx1 hx2 hx3
set_option maxHeartbeats 4000000 in
theorem ok_La_gather_n68 {p : Program} {l : Launch} {e : Env} {s : State} {m : MethodId} {args : Array Value} {below : List Frame} {meth : Method} {c : Code} {D : va_G} {cA : Nat → ClassId} {ad : Nat → Nat} {A : Nat → Prop} (C : Cx p s m args c prog_5_method_12_code 6 "PollBooks$Laws" D cA ad 0 A) {Q : State → Prop} {x : (Int × Int × Int × Dt)} : ∀ (n : Nat) (x1 x2 x3 x4 x5 : Int) (d : Dt), c32 x1 → c32 x2 → c32 x3 → c32 x5 → lpF (fun q : Int × Int × Int × Int × Int × Dt => L_La_gather_y68 q.1 q.2.1 q.2.2.1 q.2.2.2.1 q.2.2.2.2.1 q.2.2.2.2.2) n (x1, x2, x3, x4, x5, d) = some x → (∀ (y0 y1 y2 : Int) (e' : Dt), x = (y0, y1, y2, e') → c32 y0 → c32 y1 → c32 y2 → G p l e rm_La_gather s m args below meth c 0 0 Q 6 D cA ad 0 A 125 [(2, 30), (0, y0), (0, y1), (0, y2), (9, 0), (9, 0)] [] e') → G p l e rm_La_gather s m args below meth c 0 0 Q 6 D cA ad 0 A 68 [(2, 30), (0, x1), (0, x2), (0, x3), (2, x4), (0, x5)] [] d := by
  intro n
  induction n with
  | zero => intro x1 x2 x3 x4 x5 d g0 g1 g2 g3 h k0; cases h
  | succ n ih =>
    intro x1 x2 x3 x4 x5 d g0 g1 g2 g3 h k0
    rcases lpF_some h with h | ⟨⟨v0_, v1_, v2_, v3_, v4_, e0_⟩, h1, h⟩
    · exact ok_La_gather_y68 C x1 x2 x3 x4 x5 d g0 g1 g2 g3 h (fun z0_ z1_ z2_ z3_ z4_ e1_ eq w0_ w1_ w2_ w3_ => by cases eq) (fun z0_ z1_ z2_ e1_ eq w0_ w1_ w2_ => k0 _ _ _ _ (by cases eq; rfl) w0_ w1_ w2_)
    · exact ok_La_gather_y68 C x1 x2 x3 x4 x5 d g0 g1 g2 g3 h1 (fun z0_ z1_ z2_ z3_ z4_ e1_ eq w0_ w1_ w2_ w3_ => by cases eq; exact ih _ _ _ _ _ _ w0_ w1_ w2_ w3_ h k0) (fun z0_ z1_ z2_ e1_ eq w0_ w1_ w2_ => by cases eq)
set_option maxHeartbeats 4000000 in
theorem ok_La_gather_l68 {p : Program} {l : Launch} {e : Env} {s : State} {m : MethodId} {args : Array Value} {below : List Frame} {meth : Method} {c : Code} {D : va_G} {cA : Nat → ClassId} {ad : Nat → Nat} {A : Nat → Prop} (C : Cx p s m args c prog_5_method_12_code 6 "PollBooks$Laws" D cA ad 0 A) {Q : State → Prop} {x : (Int × Int × Int × Dt)} (x1 x2 x3 x4 x5 : Int) (d : Dt) (hx1 : c32 x1) (hx2 : c32 x2) (hx3 : c32 x3) (hx5 : c32 x5) (h : L_La_gather_l68 x1 x2 x3 x4 x5 d = some x) (k0 : ∀ (y0 y1 y2 : Int) (e' : Dt), x = (y0, y1, y2, e') → c32 y0 → c32 y1 → c32 y2 → G p l e rm_La_gather s m args below meth c 0 0 Q 6 D cA ad 0 A 125 [(2, 30), (0, y0), (0, y1), (0, y2), (9, 0), (9, 0)] [] e') : G p l e rm_La_gather s m args below meth c 0 0 Q 6 D cA ad 0 A 68 [(2, 30), (0, x1), (0, x2), (0, x3), (2, x4), (0, x5)] [] d :=
  ok_La_gather_n68 C FU x1 x2 x3 x4 x5 d hx1 hx2 hx3 hx5 h k0
set_option maxHeartbeats 4000000 in
theorem ok_La_gather_b125 {p : Program} {l : Launch} {e : Env} {s : State} {m : MethodId} {args : Array Value} {below : List Frame} {meth : Method} {c : Code} {D : va_G} {cA : Nat → ClassId} {ad : Nat → Nat} {A : Nat → Prop} (C : Cx p s m args c prog_5_method_12_code 6 "PollBooks$Laws" D cA ad 0 A) {Q : State → Prop} {o : (Int × Int × Int × Dt) ⊕ ((Dt))} (x1 x2 x3 : Int) (d : Dt) (hx1 : c32 x1) (hx2 : c32 x2) (hx3 : c32 x3) (h : L_La_gather_b125 x1 x2 x3 d = some o) (kb : ∀ (y0 y1 y2 : Int) (e' : Dt), o = .inl (y0, y1, y2, e') → c32 y0 → c32 y1 → c32 y2 → G p l e rm_La_gather s m args below meth c 0 0 Q 6 D cA ad 0 A 34 [(2, 30), (0, y0), (0, y1), (0, y2), (9, 0), (9, 0)] [] e') (k0 : ∀ (e' : Dt), o = .inr (e') → G p l e rm_La_gather s m args below meth c 0 0 Q 6 D cA ad 0 A 131 [(2, 30), (9, 0), (9, 0), (9, 0), (9, 0), (9, 0)] [] e') : G p l e rm_La_gather s m args below meth c 0 0 Q 6 D cA ad 0 A 125 [(2, 30), (0, x1), (0, x2), (0, x3), (9, 0), (9, 0)] [] d := by
  unfold L_La_gather_b125 at h
  refine s_iinc C 3 1 (lo' := [(2, 30), (0, x1), (0, x2), (0, (w32 (x3 + 1))), (9, 0), (9, 0)]) rfl (by decide) (s1k (s1k (s1n (by decide) s1z))) (by decide +kernel) ?_
  refine g_goto C 34 (off := (-94)) (by decide +kernel) (by decide) ?_
  refine g_sub (lo2 := [(2, 30), (0, x1), (0, x2), (0, (w32 (x3 + 1))), (9, 0), (9, 0)]) (lsb_v (lsb_v (lsb_v (lsb_v (lsb_c (lsb_c lsb_e)))))) ?_
  obtain rfl := Option.some.inj h
  exact kb x1 x2 (w32 (x3 + 1)) d rfl hx1 hx2 (w32_c _)
set_option maxHeartbeats 4000000 in
theorem ok_La_gather_y34 {p : Program} {l : Launch} {e : Env} {s : State} {m : MethodId} {args : Array Value} {below : List Frame} {meth : Method} {c : Code} {D : va_G} {cA : Nat → ClassId} {ad : Nat → Nat} {A : Nat → Prop} (C : Cx p s m args c prog_5_method_12_code 6 "PollBooks$Laws" D cA ad 0 A) {Q : State → Prop} {o : (Int × Int × Int × Dt) ⊕ ((Dt))} (x1 x2 x3 : Int) (d : Dt) (hx1 : c32 x1) (hx2 : c32 x2) (hx3 : c32 x3) (h : L_La_gather_y34 x1 x2 x3 d = some o) (kb : ∀ (y0 y1 y2 : Int) (e' : Dt), o = .inl (y0, y1, y2, e') → c32 y0 → c32 y1 → c32 y2 → G p l e rm_La_gather s m args below meth c 0 0 Q 6 D cA ad 0 A 34 [(2, 30), (0, y0), (0, y1), (0, y2), (9, 0), (9, 0)] [] e') (k0 : ∀ (e' : Dt), o = .inr (e') → G p l e rm_La_gather s m args below meth c 0 0 Q 6 D cA ad 0 A 131 [(2, 30), (9, 0), (9, 0), (9, 0), (9, 0), (9, 0)] [] e') : G p l e rm_La_gather s m args below meth c 0 0 Q 6 D cA ad 0 A 34 [(2, 30), (0, x1), (0, x2), (0, x3), (9, 0), (9, 0)] [] d := by
  unfold L_La_gather_y34 at h
  refine g_iload_n C 3 rfl (by decide +kernel) ?_
  refine g_aload_n C 0 rfl (by decide +kernel) ?_
  refine g_getI C cl3 30 2 rfl cd_A30 ⟨by decide, rfl, by decide⟩ rfl (nA (by decide)) (ix := 46) lk_233 (by decide +kernel) (fun hc19_ => ?_)
  refine g_icmp_ge C (off := 92) (tgt := 131) hx3 hc19_ (by decide +kernel) (by decide) (fun hc20_ => ?_) (fun hc20_ => ?_)
  · replace h := ite_t hc20_ h
    refine g_aload_n C 0 rfl (by decide +kernel) ?_
    refine g_getR C cl3 30 1 31 rfl cd_A30 ⟨by decide, rfl, by decide⟩ rfl rfl (nA (by decide)) (ix := 13) lk_232 (by decide +kernel) ?_
    refine g_iload_n C 3 rfl (by decide +kernel) ?_
    obtain ⟨hb21_, h⟩ := ck_some h
    refine g_aald C 31 hx3 rfl cd_A31 (nA (by decide)) hb21_ (by decide +kernel) ?_
    refine s_astore C 4 (lo' := [(2, 30), (0, x1), (0, x2), (0, x3), (2, (d 31 x3.toNat)), (9, 0)]) (by decide) (s1k (s1k (s1k (s1n (by decide) s1z)))) (by decide +kernel) ?_
    refine g_aload C 4 rfl (by decide +kernel) ?_
    refine g_ifnull C (off := 73) (tgt := 125) (by decide +kernel) (by decide) (fun hc22_ => ?_) (fun hc22_ => ?_)
    · replace h := ite_t hc22_ h
      refine g_sub (lo2 := [(2, 30), (0, x1), (0, x2), (0, x3), (9, 0), (9, 0)]) (lsb_v (lsb_v (lsb_v (lsb_v (lsb_c (lsb_c lsb_e)))))) ?_
      exact ok_La_gather_b125 C x1 x2 x3 d hx1 hx2 hx3 h kb k0
    · replace h := ite_f hc22_ h
      refine g_aload C 4 rfl (by decide +kernel) ?_
      refine g_iload_n C 1 rfl (by decide +kernel) ?_
      refine g_iload_n C 2 rfl (by decide +kernel) ?_
      obtain ⟨hs26_, h⟩ := ck_some h
      obtain ⟨r24_, d23_, hr25_, h⟩ := bd_some h
      refine g_callV C mw_St_isInForce [(0, x1), (0, x2)] ((d 31 x3.toNat).toNat + 0) cl9 (stt_ko0 hs26_) (ok_St_isInForce (d 31 x3.toNat) x1 x2 d hx1 hx2 hr25_) (stt_cd hs26_ 0 (by decide)) (by decide) (stt_n hs26_ 0 (by decide)) (ix := 88) lk_886 lk_887 lk_888 ⟨rfl, rfl, Nat.le_of_ble_eq_true rfl, Nat.le_of_ble_eq_true rfl⟩ rfl (rest := []) rfl (Nat.le_of_ble_eq_true rfl) ⟨Nat.zero_le _, Nat.zero_le _⟩ (by decide +kernel) (fun _ hc27_ => ?_)
      replace hc27_ : cb r24_ := hc27_
      refine g_st (st2 := [(0, r24_)]) rfl ?_
      refine g_if_eq C (off := 63) (tgt := 125) (c32_cb hc27_) (by decide +kernel) (by decide) (fun hc28_ => ?_) (fun hc28_ => ?_)
      · replace h := ite_t hc28_ h
        refine g_sub (lo2 := [(2, 30), (0, x1), (0, x2), (0, x3), (9, 0), (9, 0)]) (lsb_v (lsb_v (lsb_v (lsb_v (lsb_c (lsb_c lsb_e)))))) ?_
        exact ok_La_gather_b125 C x1 x2 x3 d23_ hx1 hx2 hx3 h kb k0
      · replace h := ite_f hc28_ h
        refine g_iconst C 0 (cK rfl) (by decide +kernel) ?_
        refine s_istore C 5 (lo' := [(2, 30), (0, x1), (0, x2), (0, x3), (2, (d 31 x3.toNat)), (0, 0)]) (by decide) (s1k (s1k (s1k (s1k (s1n (by decide) s1z))))) (by decide +kernel) ?_
        refine g_sub (lo2 := [(2, 30), (0, x1), (0, x2), (0, x3), (2, (d 31 x3.toNat)), (0, 0)]) (lsb_v (lsb_v (lsb_v (lsb_v (lsb_v (lsb_v lsb_e)))))) ?_
        obtain ⟨x29_, hx30_, h⟩ := lb_some h
        refine ok_La_gather_l68 C x1 x2 x3 (d 31 x3.toNat) 0 d23_ hx1 hx2 hx3 (c32_cb (Or.inl rfl)) hx30_ (fun v31_ v32_ v33_ d34_ eq35_ hv31_ hv32_ hv33_ => ?_)
        subst eq35_
        replace h := u3_e h
        refine g_sub (lo2 := [(2, 30), (0, v31_), (0, v32_), (0, v33_), (9, 0), (9, 0)]) (lsb_v (lsb_v (lsb_v (lsb_v (lsb_c (lsb_c lsb_e)))))) ?_
        exact ok_La_gather_b125 C v31_ v32_ v33_ d34_ hv31_ hv32_ hv33_ h kb k0
  · replace h := ite_f hc20_ h
    refine g_sub (lo2 := [(2, 30), (9, 0), (9, 0), (9, 0), (9, 0), (9, 0)]) (lsb_v (lsb_c (lsb_c (lsb_c (lsb_c (lsb_c lsb_e)))))) ?_
    obtain rfl := Option.some.inj h
    exact k0 d rfl 
set_option maxHeartbeats 4000000 in
theorem ok_La_gather_n34 {p : Program} {l : Launch} {e : Env} {s : State} {m : MethodId} {args : Array Value} {below : List Frame} {meth : Method} {c : Code} {D : va_G} {cA : Nat → ClassId} {ad : Nat → Nat} {A : Nat → Prop} (C : Cx p s m args c prog_5_method_12_code 6 "PollBooks$Laws" D cA ad 0 A) {Q : State → Prop} {x : (Dt)} : ∀ (n : Nat) (x1 x2 x3 : Int) (d : Dt), c32 x1 → c32 x2 → c32 x3 → lpF (fun q : Int × Int × Int × Dt => L_La_gather_y34 q.1 q.2.1 q.2.2.1 q.2.2.2) n (x1, x2, x3, d) = some x → (∀ (e' : Dt), x = (e') → G p l e rm_La_gather s m args below meth c 0 0 Q 6 D cA ad 0 A 131 [(2, 30), (9, 0), (9, 0), (9, 0), (9, 0), (9, 0)] [] e') → G p l e rm_La_gather s m args below meth c 0 0 Q 6 D cA ad 0 A 34 [(2, 30), (0, x1), (0, x2), (0, x3), (9, 0), (9, 0)] [] d := by
  intro n
  induction n with
  | zero => intro x1 x2 x3 d g0 g1 g2 h k0; cases h
  | succ n ih =>
    intro x1 x2 x3 d g0 g1 g2 h k0
    rcases lpF_some h with h | ⟨⟨v0_, v1_, v2_, e0_⟩, h1, h⟩
    · exact ok_La_gather_y34 C x1 x2 x3 d g0 g1 g2 h (fun z0_ z1_ z2_ e1_ eq w0_ w1_ w2_ => by cases eq) (fun e1_ eq => k0 _ (by cases eq; rfl) )
    · exact ok_La_gather_y34 C x1 x2 x3 d g0 g1 g2 h1 (fun z0_ z1_ z2_ e1_ eq w0_ w1_ w2_ => by cases eq; exact ih _ _ _ _ w0_ w1_ w2_ h k0) (fun e1_ eq => by cases eq)
set_option maxHeartbeats 4000000 in
theorem ok_La_gather_l34 {p : Program} {l : Launch} {e : Env} {s : State} {m : MethodId} {args : Array Value} {below : List Frame} {meth : Method} {c : Code} {D : va_G} {cA : Nat → ClassId} {ad : Nat → Nat} {A : Nat → Prop} (C : Cx p s m args c prog_5_method_12_code 6 "PollBooks$Laws" D cA ad 0 A) {Q : State → Prop} {x : (Dt)} (x1 x2 x3 : Int) (d : Dt) (hx1 : c32 x1) (hx2 : c32 x2) (hx3 : c32 x3) (h : L_La_gather_l34 x1 x2 x3 d = some x) (k0 : ∀ (e' : Dt), x = (e') → G p l e rm_La_gather s m args below meth c 0 0 Q 6 D cA ad 0 A 131 [(2, 30), (9, 0), (9, 0), (9, 0), (9, 0), (9, 0)] [] e') : G p l e rm_La_gather s m args below meth c 0 0 Q 6 D cA ad 0 A 34 [(2, 30), (0, x1), (0, x2), (0, x3), (9, 0), (9, 0)] [] d :=
  ok_La_gather_n34 C FU x1 x2 x3 d hx1 hx2 hx3 h k0
set_option maxHeartbeats 4000000 in
theorem ok_La_gather_b17 {p : Program} {l : Launch} {e : Env} {s : State} {m : MethodId} {args : Array Value} {below : List Frame} {meth : Method} {c : Code} {D : va_G} {cA : Nat → ClassId} {ad : Nat → Nat} {A : Nat → Prop} (C : Cx p s m args c prog_5_method_12_code 6 "PollBooks$Laws" D cA ad 0 A) (hlk : meth.locks = false) (hr : meth.sig.returnType = none) {r : Int} {d' : Dt} (x1 x2 : Int) (d : Dt) (hx1 : c32 x1) (hx2 : c32 x2) (h : L_La_gather_b17 x1 x2 d = some (r, d')) : G p l e rm_La_gather s m args below meth c 0 0 (MQ below (fun _ => QC D cA ad 0 A none none d') args s 0 0 A) 6 D cA ad 0 A 17 [(2, 30), (0, x1), (0, x2), (9, 0), (9, 0), (9, 0)] [] d := by
  unfold L_La_gather_b17 at h
  refine g_aload_n C 0 rfl (by decide +kernel) ?_
  refine g_iload_n C 1 rfl (by decide +kernel) ?_
  refine g_putI C cl3 30 7 hx1 rfl cd_A30 ⟨by decide, rfl, by decide⟩ rfl (nA (by decide)) (ix := 28) lk_238 rfl rfl (by decide +kernel) ?_
  refine g_aload_n C 0 rfl (by decide +kernel) ?_
  refine g_iload_n C 2 rfl (by decide +kernel) ?_
  refine g_putI C cl3 30 8 hx2 rfl cd_A30 ⟨by decide, rfl, by decide⟩ rfl (nA (by decide)) (ix := 32) lk_239 rfl rfl (by decide +kernel) ?_
  refine g_aload_n C 0 rfl (by decide +kernel) ?_
  refine g_iconst C 0 (cK rfl) (by decide +kernel) ?_
  refine g_putI C cl3 30 6 (c32_cb (Or.inl rfl)) rfl cd_A30 ⟨by decide, rfl, by decide⟩ rfl (nA (by decide)) (ix := 63) lk_237 rfl rfl (by decide +kernel) ?_
  refine g_iconst C 0 (cK rfl) (by decide +kernel) ?_
  refine s_istore_n C 3 (lo' := [(2, 30), (0, x1), (0, x2), (0, 0), (9, 0), (9, 0)]) (by decide) (s1k (s1k (s1n (by decide) s1z))) (by decide +kernel) ?_
  refine g_sub (lo2 := [(2, 30), (0, x1), (0, x2), (0, 0), (9, 0), (9, 0)]) (lsb_v (lsb_v (lsb_v (lsb_v (lsb_c (lsb_c lsb_e)))))) ?_
  obtain ⟨x37_, hx38_, h⟩ := lb_some h
  refine ok_La_gather_l34 C x1 x2 0 (up2 (up2 (up2 d 30 7 x1) 30 8 x2) 30 6 0) hx1 hx2 (c32_cb (Or.inl rfl)) hx38_ (fun d39_ eq40_ => ?_)
  replace eq40_ := eq40_.symm
  subst eq40_
  replace h := u0_e h
  refine g_iconst C 0 (cK rfl) (by decide +kernel) ?_
  refine s_istore_n C 3 (lo' := [(2, 30), (9, 0), (9, 0), (0, 0), (9, 0), (9, 0)]) (by decide) (s1k (s1k (s1n (by decide) s1z))) (by decide +kernel) ?_
  refine g_sub (lo2 := [(2, 30), (9, 0), (9, 0), (0, 0), (9, 0), (9, 0)]) (lsb_v (lsb_c (lsb_c (lsb_v (lsb_c (lsb_c lsb_e)))))) ?_
  obtain ⟨x41_, hx42_, h⟩ := lb_some h
  refine ok_La_gather_l133 C 0 d39_ (c32_cb (Or.inl rfl)) hx42_ (fun d43_ eq44_ => ?_)
  replace eq44_ := eq44_.symm
  subst eq44_
  replace h := u0_e h
  obtain ⟨rfl, rfl⟩ := ret_inj h
  exact g_vret C hlk hr (by decide +kernel)
set_option maxHeartbeats 4000000 in
theorem ok_La_gather {l : Launch} {r : Int} {d' : Dt} (p1 p2 : Int) (d : Dt) (hp1 : c32 p1) (hp2 : c32 p2) (h : L_La_gather p1 p2 d = some (r, d')) : MC l y_La_gather prog_5_method_12_code 6 none rm_La_gather 0 [(2, 30), (0, p1), (0, p2)] d none d' := by
  refine MC.of (by decide) (Nat.le_of_ble_eq_true rfl) ?_
  intro p e s m args below meth c D cA ad A C hlk hr
  replace C : Cx p s m args c prog_5_method_12_code 6 "PollBooks$Laws" D cA ad 0 A := C
  show G p l e rm_La_gather s m args below meth c 0 0 (MQ below (fun _ => QC D cA ad 0 A none none d') args s 0 0 A) 6 D cA ad 0 A 0 [(2, 30), (0, p1), (0, p2)] [] d
  refine g_sub (lo2 := [(2, 30), (0, p1), (0, p2), (9, 0), (9, 0), (9, 0)]) (lsb_v (lsb_v (lsb_v (lsb_n (lsb_n (lsb_n lsb_e)))))) ?_
  unfold L_La_gather at h
  refine g_iload_n C 1 rfl (by decide +kernel) ?_
  refine g_aload_n C 0 rfl (by decide +kernel) ?_
  refine g_getI C cl3 30 7 rfl cd_A30 ⟨by decide, rfl, by decide⟩ rfl (nA (by decide)) (ix := 28) lk_238 (by decide +kernel) (fun hc47_ => ?_)
  refine g_icmp_ne C (off := 12) (tgt := 17) hp1 hc47_ (by decide +kernel) (by decide) (fun hc48_ => ?_) (fun hc48_ => ?_)
  · replace h := ite_t hc48_ h
    refine g_iload_n C 2 rfl (by decide +kernel) ?_
    refine g_aload_n C 0 rfl (by decide +kernel) ?_
    refine g_getI C cl3 30 8 rfl cd_A30 ⟨by decide, rfl, by decide⟩ rfl (nA (by decide)) (ix := 32) lk_239 (by decide +kernel) (fun hc49_ => ?_)
    refine g_icmp_ne C (off := 4) (tgt := 17) hp2 hc49_ (by decide +kernel) (by decide) (fun hc50_ => ?_) (fun hc50_ => ?_)
    · replace h := ite_t hc50_ h
      obtain ⟨rfl, rfl⟩ := ret_inj h
      exact g_vret C hlk hr (by decide +kernel)
    · replace h := ite_f hc50_ h
      refine g_sub (lo2 := [(2, 30), (0, p1), (0, p2), (9, 0), (9, 0), (9, 0)]) (lsb_v (lsb_v (lsb_v (lsb_c (lsb_c (lsb_c lsb_e)))))) ?_
      exact ok_La_gather_b17 C hlk hr p1 p2 d hp1 hp2 h
  · replace h := ite_f hc48_ h
    refine g_sub (lo2 := [(2, 30), (0, p1), (0, p2), (9, 0), (9, 0), (9, 0)]) (lsb_v (lsb_v (lsb_v (lsb_c (lsb_c (lsb_c lsb_e)))))) ?_
    exact ok_La_gather_b17 C hlk hr p1 p2 d hp1 hp2 h
/-! PollBooks$Laws.countAt(II)I -/
def y_La_countAt : MethodName := ⟨"PollBooks$Laws", "countAt", "(II)I"⟩
def rm_La_countAt : Room := { frames := 2, cells := 0, slots := 0, locals := 51 }
theorem mw_La_countAt : MW y_La_countAt prog_5_method_5_code 3 (some .int) 2 := ⟨lk_881, lk_8, by decide +kernel⟩
def L_La_countAt (p1 p2 : Int) (d : Dt) : Option (Int × Dt) :=
  bd (L_La_gather p1 p2 d) (fun r2_ d1_ => some ((d1_ 30 6), d1_))
set_option maxHeartbeats 4000000 in
theorem ok_La_countAt {l : Launch} {r : Int} {d' : Dt} (p1 p2 : Int) (d : Dt) (hp1 : c32 p1) (hp2 : c32 p2) (h : L_La_countAt p1 p2 d = some (r, d')) : MC l y_La_countAt prog_5_method_5_code 3 (some .int) rm_La_countAt 0 [(2, 30), (0, p1), (0, p2)] d (some (0, r)) d' := by
  refine MC.of (by decide) (Nat.le_of_ble_eq_true rfl) ?_
  intro p e s m args below meth c D cA ad A C hlk hr
  replace C : Cx p s m args c prog_5_method_5_code 3 "PollBooks$Laws" D cA ad 0 A := C
  show G p l e rm_La_countAt s m args below meth c 0 0 (MQ below (fun _ => QC D cA ad 0 A (some .int) (some (0, r)) d') args s 0 0 A) 3 D cA ad 0 A 0 [(2, 30), (0, p1), (0, p2)] [] d
  refine g_sub (lo2 := [(2, 30), (0, p1), (0, p2)]) (lsb_v (lsb_v (lsb_v lsb_e))) ?_
  unfold L_La_countAt at h
  refine g_aload_n C 0 rfl (by decide +kernel) ?_
  refine g_iload_n C 1 rfl (by decide +kernel) ?_
  refine g_iload_n C 2 rfl (by decide +kernel) ?_
  obtain ⟨r2_, d1_, hr3_, h⟩ := bd_some h
  refine g_callV C mw_La_gather [(0, p1), (0, p2)] 30 cl3 rfl (ok_La_gather p1 p2 d hp1 hp2 hr3_) cd_A30 (by decide) (nA (by decide)) (ix := 59) lk_882 lk_884 lkp_25 ⟨rfl, rfl, Nat.le_of_ble_eq_true rfl, Nat.le_of_ble_eq_true rfl⟩ rfl (rest := []) rfl (Nat.le_of_ble_eq_true rfl) ⟨Nat.zero_le _, Nat.zero_le _⟩ (by decide +kernel) (fun _ hc4_ => ?_)
  refine g_st (st2 := []) rfl ?_
  refine g_aload_n C 0 rfl (by decide +kernel) ?_
  refine g_getI C cl3 30 6 rfl cd_A30 ⟨by decide, rfl, by decide⟩ rfl (nA (by decide)) (ix := 63) lk_237 (by decide +kernel) (fun hc5_ => ?_)
  obtain ⟨rfl, rfl⟩ := ret_inj h
  exact g_iret C hc5_ hlk hr (by decide +kernel)
/-! PollBooks.rules(II)I -/
def y_PB_rules : MethodName := ⟨"PollBooks", "rules", "(II)I"⟩
def rm_PB_rules : Room := { frames := 3, cells := 0, slots := 0, locals := 73 }
theorem mw_PB_rules : MW y_PB_rules prog_1_method_20_code 3 (some .int) 2 := ⟨lk_877, lk_1, by decide +kernel⟩
def L_PB_rules_b20 (x1 x2 s1 : Int) (d : Dt) : Option (Int × Dt) :=
  if s1 = 0 then bd (L_La_countAt x1 x2 (up2 d 0 0 s1)) (fun r4_ d3_ => some (r4_, d3_)) else some ((-1), (up2 d 0 0 s1))
def L_PB_rules (p1 p2 : Int) (d : Dt) : Option (Int × Dt) :=
  bd (L_PB_isPlace p1 d) (fun r8_ d7_ => if r8_ = 0 then L_PB_rules_b20 p1 p2 1 d7_ else bd (L_PB_isDay p2 d7_) (fun r13_ d12_ => if r13_ = 0 then L_PB_rules_b20 p1 p2 1 d12_ else L_PB_rules_b20 p1 p2 0 d12_))
set_option maxHeartbeats 4000000 in
theorem ok_PB_rules_b20 {p : Program} {l : Launch} {e : Env} {s : State} {m : MethodId} {args : Array Value} {below : List Frame} {meth : Method} {c : Code} {D : va_G} {cA : Nat → ClassId} {ad : Nat → Nat} {A : Nat → Prop} (C : Cx p s m args c prog_1_method_20_code 3 "PollBooks" D cA ad 0 A) (hlk : meth.locks = false) (hr : meth.sig.returnType = (some .int)) {r : Int} {d' : Dt} (x1 x2 s1 : Int) (d : Dt) (hx1 : c32 x1) (hx2 : c32 x2) (hs1 : cb s1) (h : L_PB_rules_b20 x1 x2 s1 d = some (r, d')) : G p l e rm_PB_rules s m args below meth c 0 0 (MQ below (fun _ => QC D cA ad 0 A (some .int) (some (0, r)) d') args s 0 0 A) 3 D cA ad 0 A 20 [(2, 0), (0, x1), (0, x2)] [(0, s1), (2, 0)] d := by
  unfold L_PB_rules_b20 at h
  refine g_putI C cl11 0 0 (c32_cb hs1) rfl cd_A0 ⟨by decide, rfl, by decide⟩ rfl (nA (by decide)) (ix := 9) lk_467 rfl rfl (by decide +kernel) ?_
  refine g_aload_n C 0 rfl (by decide +kernel) ?_
  refine g_getI C cl11 0 0 rfl cd_A0 ⟨by decide, rfl, by decide⟩ rfl (nA (by decide)) (ix := 9) lk_467 (by decide +kernel) (fun hc1_ => ?_)
  refine g_val (y := s1) rfl ?_
  replace hc1_ : c32 s1 := hc1_
  refine g_if_ne C (off := 15) (tgt := 42) hc1_ (by decide +kernel) (by decide) (fun hc2_ => ?_) (fun hc2_ => ?_)
  · replace h := ite_t hc2_ h
    refine g_aload_n C 0 rfl (by decide +kernel) ?_
    refine g_getR C cl11 0 5 30 rfl cd_A0 ⟨by decide, rfl, by decide⟩ rfl rfl (nA (by decide)) (ix := 48) lk_472 (by decide +kernel) ?_
    refine g_iload_n C 1 rfl (by decide +kernel) ?_
    refine g_iload_n C 2 rfl (by decide +kernel) ?_
    obtain ⟨r4_, d3_, hr5_, h⟩ := bd_some h
    refine g_callV C mw_La_countAt [(0, x1), (0, x2)] 30 cl3 rfl (ok_La_countAt x1 x2 (up2 d 0 0 s1) hx1 hx2 hr5_) cd_A30 (by decide) (nA (by decide)) (ix := 251) lk_878 lk_879 lk_880 ⟨rfl, rfl, Nat.le_of_ble_eq_true rfl, Nat.le_of_ble_eq_true rfl⟩ rfl (rest := []) rfl (Nat.le_of_ble_eq_true rfl) ⟨Nat.zero_le _, Nat.zero_le _⟩ (by decide +kernel) (fun _ hc6_ => ?_)
    replace hc6_ : c32 r4_ := hc6_
    refine g_st (st2 := [(0, r4_)]) rfl ?_
    refine g_goto C 43 (off := 4) (by decide +kernel) (by decide) ?_
    obtain ⟨rfl, rfl⟩ := ret_inj h
    exact g_iret C hc6_ hlk hr (by decide +kernel)
  · replace h := ite_f hc2_ h
    refine g_iconst C (-1) (cK rfl) (by decide +kernel) ?_
    obtain ⟨rfl, rfl⟩ := ret_inj h
    exact g_iret C (cK rfl) hlk hr (by decide +kernel)
set_option maxHeartbeats 4000000 in
theorem ok_PB_rules {l : Launch} {r : Int} {d' : Dt} (p1 p2 : Int) (d : Dt) (hp1 : c32 p1) (hp2 : c32 p2) (h : L_PB_rules p1 p2 d = some (r, d')) : MC l y_PB_rules prog_1_method_20_code 3 (some .int) rm_PB_rules 0 [(2, 0), (0, p1), (0, p2)] d (some (0, r)) d' := by
  refine MC.of (by decide) (Nat.le_of_ble_eq_true rfl) ?_
  intro p e s m args below meth c D cA ad A C hlk hr
  replace C : Cx p s m args c prog_1_method_20_code 3 "PollBooks" D cA ad 0 A := C
  show G p l e rm_PB_rules s m args below meth c 0 0 (MQ below (fun _ => QC D cA ad 0 A (some .int) (some (0, r)) d') args s 0 0 A) 3 D cA ad 0 A 0 [(2, 0), (0, p1), (0, p2)] [] d
  refine g_sub (lo2 := [(2, 0), (0, p1), (0, p2)]) (lsb_v (lsb_v (lsb_v lsb_e))) ?_
  unfold L_PB_rules at h
  refine g_aload_n C 0 rfl (by decide +kernel) ?_
  refine g_iload_n C 1 rfl (by decide +kernel) ?_
  obtain ⟨r8_, d7_, hr9_, h⟩ := bd_some h
  refine g_callS C mw_PB_isPlace [(0, p1)] (ok_PB_isPlace p1 d hp1 hr9_) (ix := 158) lk_608 lk_609 ⟨rfl, rfl, Nat.le_of_ble_eq_true rfl, Nat.le_of_ble_eq_true rfl⟩ rfl (rest := [(2, 0)]) rfl (Nat.le_of_ble_eq_true rfl) ⟨Nat.zero_le _, Nat.zero_le _⟩ (by decide +kernel) (fun _ hc10_ => ?_)
  replace hc10_ : cb r8_ := hc10_
  refine g_st (st2 := [(0, r8_), (2, 0)]) rfl ?_
  refine g_if_eq C (off := 14) (tgt := 19) (c32_cb hc10_) (by decide +kernel) (by decide) (fun hc11_ => ?_) (fun hc11_ => ?_)
  · replace h := ite_t hc11_ h
    refine g_iconst C 1 (cK rfl) (by decide +kernel) ?_
    refine g_sub (lo2 := [(2, 0), (0, p1), (0, p2)]) (lsb_v (lsb_v (lsb_v lsb_e))) ?_
    exact ok_PB_rules_b20 C hlk hr p1 p2 1 d7_ hp1 hp2 (Or.inr rfl) h
  · replace h := ite_f hc11_ h
    refine g_iload_n C 2 rfl (by decide +kernel) ?_
    obtain ⟨r13_, d12_, hr14_, h⟩ := bd_some h
    refine g_callS C mw_PB_isDay [(0, p2)] (ok_PB_isDay p2 d7_ hp2 hr14_) (ix := 180) lk_643 lk_644 ⟨rfl, rfl, Nat.le_of_ble_eq_true rfl, Nat.le_of_ble_eq_true rfl⟩ rfl (rest := [(2, 0)]) rfl (Nat.le_of_ble_eq_true rfl) ⟨Nat.zero_le _, Nat.zero_le _⟩ (by decide +kernel) (fun _ hc15_ => ?_)
    replace hc15_ : cb r13_ := hc15_
    refine g_st (st2 := [(0, r13_), (2, 0)]) rfl ?_
    refine g_if_eq C (off := 7) (tgt := 19) (c32_cb hc15_) (by decide +kernel) (by decide) (fun hc16_ => ?_) (fun hc16_ => ?_)
    · replace h := ite_t hc16_ h
      refine g_iconst C 1 (cK rfl) (by decide +kernel) ?_
      refine g_sub (lo2 := [(2, 0), (0, p1), (0, p2)]) (lsb_v (lsb_v (lsb_v lsb_e))) ?_
      exact ok_PB_rules_b20 C hlk hr p1 p2 1 d12_ hp1 hp2 (Or.inr rfl) h
    · replace h := ite_f hc16_ h
      refine g_iconst C 0 (cK rfl) (by decide +kernel) ?_
      refine g_goto C 20 (off := 4) (by decide +kernel) (by decide) ?_
      refine g_sub (lo2 := [(2, 0), (0, p1), (0, p2)]) (lsb_v (lsb_v (lsb_v lsb_e))) ?_
      exact ok_PB_rules_b20 C hlk hr p1 p2 0 d12_ hp1 hp2 (Or.inl rfl) h
/-! PollBooks$Laws.isStruck(I)Z -/
def y_La_isStruck : MethodName := ⟨"PollBooks$Laws", "isStruck", "(I)Z"⟩
def rm_La_isStruck : Room := { frames := 0, cells := 0, slots := 0, locals := 0 }
theorem mw_La_isStruck : MW y_La_isStruck prog_5_method_6_code 2 (some .boolean) 1 := ⟨lk_901, lk_8, by decide +kernel⟩
def L_La_isStruck (p1 : Int) (d : Dt) : Option (Int × Dt) :=
  ck ((0 : Int) ≤ p1 ∧ p1 < 100) (some ((d 34 p1.toNat), d))
set_option maxHeartbeats 4000000 in
theorem ok_La_isStruck {l : Launch} {r : Int} {d' : Dt} (p1 : Int) (d : Dt) (hp1 : c32 p1) (h : L_La_isStruck p1 d = some (r, d')) : MC l y_La_isStruck prog_5_method_6_code 2 (some .boolean) rm_La_isStruck 0 [(2, 30), (0, p1)] d (some (0, r)) d' := by
  refine MC.of (by decide) (Nat.le_of_ble_eq_true rfl) ?_
  intro p e s m args below meth c D cA ad A C hlk hr
  replace C : Cx p s m args c prog_5_method_6_code 2 "PollBooks$Laws" D cA ad 0 A := C
  show G p l e rm_La_isStruck s m args below meth c 0 0 (MQ below (fun _ => QC D cA ad 0 A (some .boolean) (some (0, r)) d') args s 0 0 A) 2 D cA ad 0 A 0 [(2, 30), (0, p1)] [] d
  refine g_sub (lo2 := [(2, 30), (0, p1)]) (lsb_v (lsb_v lsb_e)) ?_
  unfold L_La_isStruck at h
  refine g_aload_n C 0 rfl (by decide +kernel) ?_
  refine g_getR C cl3 30 5 34 rfl cd_A30 ⟨by decide, rfl, by decide⟩ rfl rfl (nA (by decide)) (ix := 24) lk_236 (by decide +kernel) ?_
  refine g_iload_n C 1 rfl (by decide +kernel) ?_
  obtain ⟨hb1_, h⟩ := ck_some h
  refine g_zald C 34 hp1 rfl cd_A34 (nA (by decide)) hb1_ (by decide +kernel) (fun hc2_ => ?_)
  obtain ⟨rfl, rfl⟩ := ret_inj h
  exact g_zret C hc2_ hlk hr (by decide +kernel)
/-! PollBooks.struck(III)I -/
def y_PB_struck : MethodName := ⟨"PollBooks", "struck", "(III)I"⟩
def rm_PB_struck : Room := { frames := 3, cells := 0, slots := 0, locals := 73 }
theorem mw_PB_struck : MW y_PB_struck prog_1_method_21_code 5 (some .int) 3 := ⟨lk_897, lk_1, by decide +kernel⟩
def L_PB_struck_b49 (x3 x4 s1 : Int) (d : Dt) : Option (Int × Dt) :=
  if x4 = 0 then some ((-1), (up2 d 0 0 s1)) else bd (L_La_isStruck x3 (up2 d 0 0 s1)) (fun r3_ d2_ => bd (L_PB_bit r3_ d2_) (fun r7_ d6_ => some (r7_, d6_)))
def L_PB_struck_b36 (x3 s0 : Int) (d : Dt) : Option (Int × Dt) :=
  if s0 = 0 then L_PB_struck_b49 x3 s0 1 d else L_PB_struck_b49 x3 s0 0 d
def L_PB_struck (p1 p2 p3 : Int) (d : Dt) : Option (Int × Dt) :=
  bd (L_PB_isPlace p1 d) (fun r12_ d11_ => if r12_ = 0 then L_PB_struck_b36 p3 0 d11_ else bd (L_PB_isDay p2 d11_) (fun r17_ d16_ => if r17_ = 0 then L_PB_struck_b36 p3 0 d16_ else if p3 < 0 then L_PB_struck_b36 p3 0 d16_ else bd (L_La_countAt p1 p2 d16_) (fun r23_ d22_ => if p3 < r23_ then L_PB_struck_b36 p3 1 d22_ else L_PB_struck_b36 p3 0 d22_)))
set_option maxHeartbeats 4000000 in
theorem ok_PB_struck_b49 {p : Program} {l : Launch} {e : Env} {s : State} {m : MethodId} {args : Array Value} {below : List Frame} {meth : Method} {c : Code} {D : va_G} {cA : Nat → ClassId} {ad : Nat → Nat} {A : Nat → Prop} (C : Cx p s m args c prog_1_method_21_code 5 "PollBooks" D cA ad 0 A) (hlk : meth.locks = false) (hr : meth.sig.returnType = (some .int)) {r : Int} {d' : Dt} (x3 x4 s1 : Int) (d : Dt) (hx3 : c32 x3) (hx4 : cb x4) (hs1 : cb s1) (h : L_PB_struck_b49 x3 x4 s1 d = some (r, d')) : G p l e rm_PB_struck s m args below meth c 0 0 (MQ below (fun _ => QC D cA ad 0 A (some .int) (some (0, r)) d') args s 0 0 A) 5 D cA ad 0 A 49 [(2, 0), (9, 0), (9, 0), (0, x3), (0, x4)] [(0, s1), (2, 0)] d := by
  unfold L_PB_struck_b49 at h
  refine g_putI C cl11 0 0 (c32_cb hs1) rfl cd_A0 ⟨by decide, rfl, by decide⟩ rfl (nA (by decide)) (ix := 9) lk_467 rfl rfl (by decide +kernel) ?_
  refine g_iload C 4 rfl (by decide +kernel) ?_
  refine g_if_eq C (off := 17) (tgt := 71) (c32_cb hx4) (by decide +kernel) (by decide) (fun hc1_ => ?_) (fun hc1_ => ?_)
  · replace h := ite_t hc1_ h
    refine g_iconst C (-1) (cK rfl) (by decide +kernel) ?_
    obtain ⟨rfl, rfl⟩ := ret_inj h
    exact g_iret C (cK rfl) hlk hr (by decide +kernel)
  · replace h := ite_f hc1_ h
    refine g_aload_n C 0 rfl (by decide +kernel) ?_
    refine g_getR C cl11 0 5 30 rfl cd_A0 ⟨by decide, rfl, by decide⟩ rfl rfl (nA (by decide)) (ix := 48) lk_472 (by decide +kernel) ?_
    refine g_iload_n C 3 rfl (by decide +kernel) ?_
    obtain ⟨r3_, d2_, hr4_, h⟩ := bd_some h
    refine g_callV C mw_La_isStruck [(0, x3)] 30 cl3 rfl (ok_La_isStruck x3 (up2 d 0 0 s1) hx3 hr4_) cd_A30 (by decide) (nA (by decide)) (ix := 254) lk_898 lk_899 lk_900 ⟨rfl, rfl, Nat.le_of_ble_eq_true rfl, Nat.le_of_ble_eq_true rfl⟩ rfl (rest := []) rfl (Nat.le_of_ble_eq_true rfl) ⟨Nat.zero_le _, Nat.zero_le _⟩ (by decide +kernel) (fun _ hc5_ => ?_)
    replace hc5_ : cb r3_ := hc5_
    refine g_st (st2 := [(0, r3_)]) rfl ?_
    obtain ⟨r7_, d6_, hr8_, h⟩ := bd_some h
    refine g_callS C mw_PB_bit [(0, r3_)] (ok_PB_bit r3_ d2_ hc5_ hr8_) (ix := 257) lk_902 lk_716 ⟨rfl, rfl, Nat.le_of_ble_eq_true rfl, Nat.le_of_ble_eq_true rfl⟩ rfl (rest := []) rfl (Nat.le_of_ble_eq_true rfl) ⟨Nat.zero_le _, Nat.zero_le _⟩ (by decide +kernel) (fun _ hc9_ => ?_)
    replace hc9_ : c32 r7_ := hc9_
    refine g_st (st2 := [(0, r7_)]) rfl ?_
    refine g_goto C 72 (off := 4) (by decide +kernel) (by decide) ?_
    obtain ⟨rfl, rfl⟩ := ret_inj h
    exact g_iret C hc9_ hlk hr (by decide +kernel)
set_option maxHeartbeats 4000000 in
theorem ok_PB_struck_b36 {p : Program} {l : Launch} {e : Env} {s : State} {m : MethodId} {args : Array Value} {below : List Frame} {meth : Method} {c : Code} {D : va_G} {cA : Nat → ClassId} {ad : Nat → Nat} {A : Nat → Prop} (C : Cx p s m args c prog_1_method_21_code 5 "PollBooks" D cA ad 0 A) (hlk : meth.locks = false) (hr : meth.sig.returnType = (some .int)) {r : Int} {d' : Dt} (x3 s0 : Int) (d : Dt) (hx3 : c32 x3) (hs0 : cb s0) (h : L_PB_struck_b36 x3 s0 d = some (r, d')) : G p l e rm_PB_struck s m args below meth c 0 0 (MQ below (fun _ => QC D cA ad 0 A (some .int) (some (0, r)) d') args s 0 0 A) 5 D cA ad 0 A 36 [(2, 0), (9, 0), (9, 0), (0, x3), (9, 0)] [(0, s0)] d := by
  unfold L_PB_struck_b36 at h
  refine s_istore C 4 (lo' := [(2, 0), (9, 0), (9, 0), (0, x3), (0, s0)]) (by decide) (s1k (s1k (s1k (s1n (by decide) s1z)))) (by decide +kernel) ?_
  refine g_aload_n C 0 rfl (by decide +kernel) ?_
  refine g_iload C 4 rfl (by decide +kernel) ?_
  refine g_if_eq C (off := 7) (tgt := 48) (c32_cb hs0) (by decide +kernel) (by decide) (fun hc10_ => ?_) (fun hc10_ => ?_)
  · replace h := ite_t hc10_ h
    refine g_iconst C 1 (cK rfl) (by decide +kernel) ?_
    refine g_sub (lo2 := [(2, 0), (9, 0), (9, 0), (0, x3), (0, s0)]) (lsb_v (lsb_c (lsb_c (lsb_v (lsb_v lsb_e))))) ?_
    exact ok_PB_struck_b49 C hlk hr x3 s0 1 d hx3 hs0 (Or.inr rfl) h
  · replace h := ite_f hc10_ h
    refine g_iconst C 0 (cK rfl) (by decide +kernel) ?_
    refine g_goto C 49 (off := 4) (by decide +kernel) (by decide) ?_
    refine g_sub (lo2 := [(2, 0), (9, 0), (9, 0), (0, x3), (0, s0)]) (lsb_v (lsb_c (lsb_c (lsb_v (lsb_v lsb_e))))) ?_
    exact ok_PB_struck_b49 C hlk hr x3 s0 0 d hx3 hs0 (Or.inl rfl) h
set_option maxHeartbeats 4000000 in
theorem ok_PB_struck {l : Launch} {r : Int} {d' : Dt} (p1 p2 p3 : Int) (d : Dt) (hp1 : c32 p1) (hp2 : c32 p2) (hp3 : c32 p3) (h : L_PB_struck p1 p2 p3 d = some (r, d')) : MC l y_PB_struck prog_1_method_21_code 5 (some .int) rm_PB_struck 0 [(2, 0), (0, p1), (0, p2), (0, p3)] d (some (0, r)) d' := by
  refine MC.of (by decide) (Nat.le_of_ble_eq_true rfl) ?_
  intro p e s m args below meth c D cA ad A C hlk hr
  replace C : Cx p s m args c prog_1_method_21_code 5 "PollBooks" D cA ad 0 A := C
  show G p l e rm_PB_struck s m args below meth c 0 0 (MQ below (fun _ => QC D cA ad 0 A (some .int) (some (0, r)) d') args s 0 0 A) 5 D cA ad 0 A 0 [(2, 0), (0, p1), (0, p2), (0, p3)] [] d
  refine g_sub (lo2 := [(2, 0), (0, p1), (0, p2), (0, p3), (9, 0)]) (lsb_v (lsb_v (lsb_v (lsb_v (lsb_n lsb_e))))) ?_
  unfold L_PB_struck at h
  refine g_iload_n C 1 rfl (by decide +kernel) ?_
  obtain ⟨r12_, d11_, hr13_, h⟩ := bd_some h
  refine g_callS C mw_PB_isPlace [(0, p1)] (ok_PB_isPlace p1 d hp1 hr13_) (ix := 158) lk_608 lk_609 ⟨rfl, rfl, Nat.le_of_ble_eq_true rfl, Nat.le_of_ble_eq_true rfl⟩ rfl (rest := []) rfl (Nat.le_of_ble_eq_true rfl) ⟨Nat.zero_le _, Nat.zero_le _⟩ (by decide +kernel) (fun _ hc14_ => ?_)
  replace hc14_ : cb r12_ := hc14_
  refine g_st (st2 := [(0, r12_)]) rfl ?_
  refine g_if_eq C (off := 31) (tgt := 35) (c32_cb hc14_) (by decide +kernel) (by decide) (fun hc15_ => ?_) (fun hc15_ => ?_)
  · replace h := ite_t hc15_ h
    refine g_iconst C 0 (cK rfl) (by decide +kernel) ?_
    refine g_sub (lo2 := [(2, 0), (9, 0), (9, 0), (0, p3), (9, 0)]) (lsb_v (lsb_c (lsb_c (lsb_v (lsb_c lsb_e))))) ?_
    exact ok_PB_struck_b36 C hlk hr p3 0 d11_ hp3 (Or.inl rfl) h
  · replace h := ite_f hc15_ h
    refine g_iload_n C 2 rfl (by decide +kernel) ?_
    obtain ⟨r17_, d16_, hr18_, h⟩ := bd_some h
    refine g_callS C mw_PB_isDay [(0, p2)] (ok_PB_isDay p2 d11_ hp2 hr18_) (ix := 180) lk_643 lk_644 ⟨rfl, rfl, Nat.le_of_ble_eq_true rfl, Nat.le_of_ble_eq_true rfl⟩ rfl (rest := []) rfl (Nat.le_of_ble_eq_true rfl) ⟨Nat.zero_le _, Nat.zero_le _⟩ (by decide +kernel) (fun _ hc19_ => ?_)
    replace hc19_ : cb r17_ := hc19_
    refine g_st (st2 := [(0, r17_)]) rfl ?_
    refine g_if_eq C (off := 24) (tgt := 35) (c32_cb hc19_) (by decide +kernel) (by decide) (fun hc20_ => ?_) (fun hc20_ => ?_)
    · replace h := ite_t hc20_ h
      refine g_iconst C 0 (cK rfl) (by decide +kernel) ?_
      refine g_sub (lo2 := [(2, 0), (9, 0), (9, 0), (0, p3), (9, 0)]) (lsb_v (lsb_c (lsb_c (lsb_v (lsb_c lsb_e))))) ?_
      exact ok_PB_struck_b36 C hlk hr p3 0 d16_ hp3 (Or.inl rfl) h
    · replace h := ite_f hc20_ h
      refine g_iload_n C 3 rfl (by decide +kernel) ?_
      refine g_if_lt C (off := 20) (tgt := 35) hp3 (by decide +kernel) (by decide) (fun hc21_ => ?_) (fun hc21_ => ?_)
      · replace h := ite_t hc21_ h
        refine g_iconst C 0 (cK rfl) (by decide +kernel) ?_
        refine g_sub (lo2 := [(2, 0), (9, 0), (9, 0), (0, p3), (9, 0)]) (lsb_v (lsb_c (lsb_c (lsb_v (lsb_c lsb_e))))) ?_
        exact ok_PB_struck_b36 C hlk hr p3 0 d16_ hp3 (Or.inl rfl) h
      · replace h := ite_f hc21_ h
        refine g_iload_n C 3 rfl (by decide +kernel) ?_
        refine g_aload_n C 0 rfl (by decide +kernel) ?_
        refine g_getR C cl11 0 5 30 rfl cd_A0 ⟨by decide, rfl, by decide⟩ rfl rfl (nA (by decide)) (ix := 48) lk_472 (by decide +kernel) ?_
        refine g_iload_n C 1 rfl (by decide +kernel) ?_
        refine g_iload_n C 2 rfl (by decide +kernel) ?_
        obtain ⟨r23_, d22_, hr24_, h⟩ := bd_some h
        refine g_callV C mw_La_countAt [(0, p1), (0, p2)] 30 cl3 rfl (ok_La_countAt p1 p2 d16_ hp1 hp2 hr24_) cd_A30 (by decide) (nA (by decide)) (ix := 251) lk_878 lk_879 lk_880 ⟨rfl, rfl, Nat.le_of_ble_eq_true rfl, Nat.le_of_ble_eq_true rfl⟩ rfl (rest := [(0, p3)]) rfl (Nat.le_of_ble_eq_true rfl) ⟨Nat.zero_le _, Nat.zero_le _⟩ (by decide +kernel) (fun _ hc25_ => ?_)
        replace hc25_ : c32 r23_ := hc25_
        refine g_st (st2 := [(0, r23_), (0, p3)]) rfl ?_
        refine g_icmp_ge C (off := 7) (tgt := 35) hp3 hc25_ (by decide +kernel) (by decide) (fun hc26_ => ?_) (fun hc26_ => ?_)
        · replace h := ite_t hc26_ h
          refine g_iconst C 1 (cK rfl) (by decide +kernel) ?_
          refine g_goto C 36 (off := 4) (by decide +kernel) (by decide) ?_
          refine g_sub (lo2 := [(2, 0), (9, 0), (9, 0), (0, p3), (9, 0)]) (lsb_v (lsb_c (lsb_c (lsb_v (lsb_c lsb_e))))) ?_
          exact ok_PB_struck_b36 C hlk hr p3 1 d22_ hp3 (Or.inr rfl) h
        · replace h := ite_f hc26_ h
          refine g_iconst C 0 (cK rfl) (by decide +kernel) ?_
          refine g_sub (lo2 := [(2, 0), (9, 0), (9, 0), (0, p3), (9, 0)]) (lsb_v (lsb_c (lsb_c (lsb_v (lsb_c lsb_e))))) ?_
          exact ok_PB_struck_b36 C hlk hr p3 0 d22_ hp3 (Or.inl rfl) h
/-! PollBooks.isMinute(I)Z -/
def y_PB_isMinute : MethodName := ⟨"PollBooks", "isMinute", "(I)Z"⟩
def rm_PB_isMinute : Room := { frames := 1, cells := 0, slots := 0, locals := 25 }
theorem mw_PB_isMinute : MW y_PB_isMinute prog_1_method_54_code 1 (some .boolean) 1 := ⟨lk_913, lk_1, by decide +kernel⟩
def L_PB_isMinute (p1 : Int) (d : Dt) : Option (Int × Dt) :=
  bd (L_PB_within p1 0 1439 d) (fun r2_ d1_ => some (r2_, d1_))
set_option maxHeartbeats 4000000 in
theorem ok_PB_isMinute {l : Launch} {r : Int} {d' : Dt} (p1 : Int) (d : Dt) (hp1 : c32 p1) (h : L_PB_isMinute p1 d = some (r, d')) : MC l y_PB_isMinute prog_1_method_54_code 1 (some .boolean) rm_PB_isMinute 0 [(0, p1)] d (some (0, r)) d' := by
  refine MC.of (by decide) (Nat.le_of_ble_eq_true rfl) ?_
  intro p e s m args below meth c D cA ad A C hlk hr
  replace C : Cx p s m args c prog_1_method_54_code 1 "PollBooks" D cA ad 0 A := C
  show G p l e rm_PB_isMinute s m args below meth c 0 0 (MQ below (fun _ => QC D cA ad 0 A (some .boolean) (some (0, r)) d') args s 0 0 A) 1 D cA ad 0 A 0 [(0, p1)] [] d
  refine g_sub (lo2 := [(0, p1)]) (lsb_v lsb_e) ?_
  unfold L_PB_isMinute at h
  refine g_iload_n C 0 rfl (by decide +kernel) ?_
  refine g_i2l C hp1 (by decide +kernel) ?_
  refine g_lconst C 0 (v := 0) (by decide) (by decide +kernel) ?_
  refine g_ldc2 C (ix := 440) (v := 1439) lk_914 (by decide +kernel) ?_
  obtain ⟨r2_, d1_, hr3_, h⟩ := bd_some h
  refine g_callS C mw_PB_within [(1, p1), (1, 0), (1, 1439)] (ok_PB_within p1 0 1439 d (c64_32 hp1) (cL rfl) (cL rfl) hr3_) (ix := 105) lk_520 lk_521 ⟨rfl, rfl, Nat.le_of_ble_eq_true rfl, Nat.le_of_ble_eq_true rfl⟩ rfl (rest := []) rfl (Nat.le_of_ble_eq_true rfl) ⟨Nat.zero_le _, Nat.zero_le _⟩ (by decide +kernel) (fun _ hc4_ => ?_)
  replace hc4_ : cb r2_ := hc4_
  refine g_st (st2 := [(0, r2_)]) rfl ?_
  obtain ⟨rfl, rfl⟩ := ret_inj h
  exact g_zret C hc4_ hlk hr (by decide +kernel)
/-! PollBooks.comerStatus(IIII)I -/
def y_PB_comerStatus : MethodName := ⟨"PollBooks", "comerStatus", "(IIII)I"⟩
def rm_PB_comerStatus : Room := { frames := 2, cells := 0, slots := 0, locals := 45 }
theorem mw_PB_comerStatus : MW y_PB_comerStatus prog_1_method_26_code 5 (some .int) 4 := ⟨lk_910, lk_1, by decide +kernel⟩
def L_PB_comerStatus (p1 p2 p3 p4 : Int) (d : Dt) : Option (Int × Dt) :=
  bd (L_Pe_has p1 d) (fun r2_ d1_ => if r2_ = 0 then some (1, d1_) else bd (L_PB_isPlace p2 d1_) (fun r7_ d6_ => if r7_ = 0 then some (1, d6_) else bd (L_PB_isDay p3 d6_) (fun r12_ d11_ => if r12_ = 0 then some (1, d11_) else bd (L_PB_isMinute p4 d11_) (fun r17_ d16_ => if r17_ = 0 then some (1, d16_) else some (0, d16_)))))
set_option maxHeartbeats 4000000 in
theorem ok_PB_comerStatus {l : Launch} {r : Int} {d' : Dt} (p1 p2 p3 p4 : Int) (d : Dt) (hp1 : c32 p1) (hp2 : c32 p2) (hp3 : c32 p3) (hp4 : c32 p4) (h : L_PB_comerStatus p1 p2 p3 p4 d = some (r, d')) : MC l y_PB_comerStatus prog_1_method_26_code 5 (some .int) rm_PB_comerStatus 0 [(2, 0), (0, p1), (0, p2), (0, p3), (0, p4)] d (some (0, r)) d' := by
  refine MC.of (by decide) (Nat.le_of_ble_eq_true rfl) ?_
  intro p e s m args below meth c D cA ad A C hlk hr
  replace C : Cx p s m args c prog_1_method_26_code 5 "PollBooks" D cA ad 0 A := C
  show G p l e rm_PB_comerStatus s m args below meth c 0 0 (MQ below (fun _ => QC D cA ad 0 A (some .int) (some (0, r)) d') args s 0 0 A) 5 D cA ad 0 A 0 [(2, 0), (0, p1), (0, p2), (0, p3), (0, p4)] [] d
  refine g_sub (lo2 := [(2, 0), (0, p1), (0, p2), (0, p3), (0, p4)]) (lsb_v (lsb_v (lsb_v (lsb_v (lsb_v lsb_e))))) ?_
  unfold L_PB_comerStatus at h
  refine g_aload_n C 0 rfl (by decide +kernel) ?_
  refine g_getR C cl11 0 2 7 rfl cd_A0 ⟨by decide, rfl, by decide⟩ rfl rfl (nA (by decide)) (ix := 23) lk_469 (by decide +kernel) ?_
  refine g_iload_n C 1 rfl (by decide +kernel) ?_
  obtain ⟨r2_, d1_, hr3_, h⟩ := bd_some h
  refine g_callV C mw_Pe_has [(0, p1)] 7 cl5 rfl (ok_Pe_has p1 d hp1 hr3_) cd_A7 (by decide) (nA (by decide)) (ix := 173) lk_637 lk_638 lk_639 ⟨rfl, rfl, Nat.le_of_ble_eq_true rfl, Nat.le_of_ble_eq_true rfl⟩ rfl (rest := []) rfl (Nat.le_of_ble_eq_true rfl) ⟨Nat.zero_le _, Nat.zero_le _⟩ (by decide +kernel) (fun _ hc4_ => ?_)
  replace hc4_ : cb r2_ := hc4_
  refine g_st (st2 := [(0, r2_)]) rfl ?_
  refine g_if_eq C (off := 29) (tgt := 37) (c32_cb hc4_) (by decide +kernel) (by decide) (fun hc5_ => ?_) (fun hc5_ => ?_)
  · replace h := ite_t hc5_ h
    refine g_iconst C 1 (cK rfl) (by decide +kernel) ?_
    obtain ⟨rfl, rfl⟩ := ret_inj h
    exact g_iret C (c32_cb (Or.inr rfl)) hlk hr (by decide +kernel)
  · replace h := ite_f hc5_ h
    refine g_iload_n C 2 rfl (by decide +kernel) ?_
    obtain ⟨r7_, d6_, hr8_, h⟩ := bd_some h
    refine g_callS C mw_PB_isPlace [(0, p2)] (ok_PB_isPlace p2 d1_ hp2 hr8_) (ix := 158) lk_608 lk_609 ⟨rfl, rfl, Nat.le_of_ble_eq_true rfl, Nat.le_of_ble_eq_true rfl⟩ rfl (rest := []) rfl (Nat.le_of_ble_eq_true rfl) ⟨Nat.zero_le _, Nat.zero_le _⟩ (by decide +kernel) (fun _ hc9_ => ?_)
    replace hc9_ : cb r7_ := hc9_
    refine g_st (st2 := [(0, r7_)]) rfl ?_
    refine g_if_eq C (off := 22) (tgt := 37) (c32_cb hc9_) (by decide +kernel) (by decide) (fun hc10_ => ?_) (fun hc10_ => ?_)
    · replace h := ite_t hc10_ h
      refine g_iconst C 1 (cK rfl) (by decide +kernel) ?_
      obtain ⟨rfl, rfl⟩ := ret_inj h
      exact g_iret C (c32_cb (Or.inr rfl)) hlk hr (by decide +kernel)
    · replace h := ite_f hc10_ h
      refine g_iload_n C 3 rfl (by decide +kernel) ?_
      obtain ⟨r12_, d11_, hr13_, h⟩ := bd_some h
      refine g_callS C mw_PB_isDay [(0, p3)] (ok_PB_isDay p3 d6_ hp3 hr13_) (ix := 180) lk_643 lk_644 ⟨rfl, rfl, Nat.le_of_ble_eq_true rfl, Nat.le_of_ble_eq_true rfl⟩ rfl (rest := []) rfl (Nat.le_of_ble_eq_true rfl) ⟨Nat.zero_le _, Nat.zero_le _⟩ (by decide +kernel) (fun _ hc14_ => ?_)
      replace hc14_ : cb r12_ := hc14_
      refine g_st (st2 := [(0, r12_)]) rfl ?_
      refine g_if_eq C (off := 15) (tgt := 37) (c32_cb hc14_) (by decide +kernel) (by decide) (fun hc15_ => ?_) (fun hc15_ => ?_)
      · replace h := ite_t hc15_ h
        refine g_iconst C 1 (cK rfl) (by decide +kernel) ?_
        obtain ⟨rfl, rfl⟩ := ret_inj h
        exact g_iret C (c32_cb (Or.inr rfl)) hlk hr (by decide +kernel)
      · replace h := ite_f hc15_ h
        refine g_iload C 4 rfl (by decide +kernel) ?_
        obtain ⟨r17_, d16_, hr18_, h⟩ := bd_some h
        refine g_callS C mw_PB_isMinute [(0, p4)] (ok_PB_isMinute p4 d11_ hp4 hr18_) (ix := 281) lk_911 lk_912 ⟨rfl, rfl, Nat.le_of_ble_eq_true rfl, Nat.le_of_ble_eq_true rfl⟩ rfl (rest := []) rfl (Nat.le_of_ble_eq_true rfl) ⟨Nat.zero_le _, Nat.zero_le _⟩ (by decide +kernel) (fun _ hc19_ => ?_)
        replace hc19_ : cb r17_ := hc19_
        refine g_st (st2 := [(0, r17_)]) rfl ?_
        refine g_if_eq C (off := 7) (tgt := 37) (c32_cb hc19_) (by decide +kernel) (by decide) (fun hc20_ => ?_) (fun hc20_ => ?_)
        · replace h := ite_t hc20_ h
          refine g_iconst C 1 (cK rfl) (by decide +kernel) ?_
          obtain ⟨rfl, rfl⟩ := ret_inj h
          exact g_iret C (c32_cb (Or.inr rfl)) hlk hr (by decide +kernel)
        · replace h := ite_f hc20_ h
          refine g_iconst C 0 (cK rfl) (by decide +kernel) ?_
          refine g_goto C 38 (off := 4) (by decide +kernel) (by decide) ?_
          obtain ⟨rfl, rfl⟩ := ret_inj h
          exact g_iret C (c32_cb (Or.inl rfl)) hlk hr (by decide +kernel)
/-! PollBooks$Laws.bring(IIII)V -/
def y_La_bring : MethodName := ⟨"PollBooks$Laws", "bring", "(IIII)V"⟩
def rm_La_bring : Room := { frames := 3, cells := 0, slots := 0, locals := 80 }
theorem mw_La_bring : MW y_La_bring prog_5_method_8_code 5 none 4 := ⟨lk_918, lk_8, by decide +kernel⟩
def L_La_bring (p1 p2 p3 p4 : Int) (d : Dt) : Option (Int × Dt) :=
  bd (L_La_gather p2 p3 d) (fun r2_ d1_ => bd (L_Re_tell 35 9 p1 p2 p3 d1_) (fun r6_ d5_ => some (0, (up2 (up2 d5_ 35 7 p4) 35 8 p3))))
set_option maxHeartbeats 4000000 in
theorem ok_La_bring {l : Launch} {r : Int} {d' : Dt} (p1 p2 p3 p4 : Int) (d : Dt) (hp1 : c32 p1) (hp2 : c32 p2) (hp3 : c32 p3) (hp4 : c32 p4) (h : L_La_bring p1 p2 p3 p4 d = some (r, d')) : MC l y_La_bring prog_5_method_8_code 5 none rm_La_bring 0 [(2, 30), (0, p1), (0, p2), (0, p3), (0, p4)] d none d' := by
  refine MC.of (by decide) (Nat.le_of_ble_eq_true rfl) ?_
  intro p e s m args below meth c D cA ad A C hlk hr
  replace C : Cx p s m args c prog_5_method_8_code 5 "PollBooks$Laws" D cA ad 0 A := C
  show G p l e rm_La_bring s m args below meth c 0 0 (MQ below (fun _ => QC D cA ad 0 A none none d') args s 0 0 A) 5 D cA ad 0 A 0 [(2, 30), (0, p1), (0, p2), (0, p3), (0, p4)] [] d
  refine g_sub (lo2 := [(2, 30), (0, p1), (0, p2), (0, p3), (0, p4)]) (lsb_v (lsb_v (lsb_v (lsb_v (lsb_v lsb_e))))) ?_
  unfold L_La_bring at h
  refine g_aload_n C 0 rfl (by decide +kernel) ?_
  refine g_iload_n C 2 rfl (by decide +kernel) ?_
  refine g_iload_n C 3 rfl (by decide +kernel) ?_
  obtain ⟨r2_, d1_, hr3_, h⟩ := bd_some h
  refine g_callV C mw_La_gather [(0, p2), (0, p3)] 30 cl3 rfl (ok_La_gather p2 p3 d hp2 hp3 hr3_) cd_A30 (by decide) (nA (by decide)) (ix := 59) lk_882 lk_884 lkp_25 ⟨rfl, rfl, Nat.le_of_ble_eq_true rfl, Nat.le_of_ble_eq_true rfl⟩ rfl (rest := []) rfl (Nat.le_of_ble_eq_true rfl) ⟨Nat.zero_le _, Nat.zero_le _⟩ (by decide +kernel) (fun _ hc4_ => ?_)
  refine g_st (st2 := []) rfl ?_
  refine g_aload_n C 0 rfl (by decide +kernel) ?_
  refine g_getR C cl3 30 0 11 rfl cd_A30 ⟨by decide, rfl, by decide⟩ rfl rfl (nA (by decide)) (ix := 42) lk_231 (by decide +kernel) ?_
  refine g_iload_n C 1 rfl (by decide +kernel) ?_
  refine g_iload_n C 2 rfl (by decide +kernel) ?_
  refine g_iload_n C 3 rfl (by decide +kernel) ?_
  refine g_aload_n C 0 rfl (by decide +kernel) ?_
  refine g_getR C cl3 30 9 35 rfl cd_A30 ⟨by decide, rfl, by decide⟩ rfl rfl (nA (by decide)) (ix := 35) lk_240 (by decide +kernel) ?_
  obtain ⟨r6_, d5_, hr7_, h⟩ := bd_some h
  refine g_callV C mw_Re_tell [(0, p1), (0, p2), (0, p3), (2, 35)] 11 cl7 rfl (ok_Re_tell 35 9 cd_A35 (by decide) p1 p2 p3 d1_ hp1 hp2 hp3 hr7_) cd_A11 (by decide) (nA (by decide)) (ix := 75) lk_919 lk_700 lk_701 ⟨rfl, rfl, Nat.le_of_ble_eq_true rfl, Nat.le_of_ble_eq_true rfl⟩ rfl (rest := []) rfl (Nat.le_of_ble_eq_true rfl) ⟨Nat.zero_le _, Nat.zero_le _⟩ (by decide +kernel) (fun _ hc8_ => ?_)
  refine g_st (st2 := []) rfl ?_
  refine g_aload_n C 0 rfl (by decide +kernel) ?_
  refine g_getR C cl3 30 9 35 rfl cd_A30 ⟨by decide, rfl, by decide⟩ rfl rfl (nA (by decide)) (ix := 35) lk_240 (by decide +kernel) ?_
  refine g_bipush C 7 (by decide) (by decide +kernel) ?_
  refine g_iload C 4 rfl (by decide +kernel) ?_
  refine g_i2l C hp4 (by decide +kernel) ?_
  refine g_last C 35 (c64_32 hp4) (cK rfl) rfl cd_A35 (nA (by decide)) (by decide) (by decide +kernel) ?_
  refine g_aload_n C 0 rfl (by decide +kernel) ?_
  refine g_getR C cl3 30 9 35 rfl cd_A30 ⟨by decide, rfl, by decide⟩ rfl rfl (nA (by decide)) (ix := 35) lk_240 (by decide +kernel) ?_
  refine g_bipush C 8 (by decide) (by decide +kernel) ?_
  refine g_iload_n C 3 rfl (by decide +kernel) ?_
  refine g_i2l C hp3 (by decide +kernel) ?_
  refine g_last C 35 (c64_32 hp3) (cK rfl) rfl cd_A35 (nA (by decide)) (by decide) (by decide +kernel) ?_
  obtain ⟨rfl, rfl⟩ := ret_inj h
  exact g_vret C hlk hr (by decide +kernel)
/-! PollBooks$Laws.says(II)Z -/
def y_La_says : MethodName := ⟨"PollBooks$Laws", "says", "(II)Z"⟩
def rm_La_says : Room := { frames := 0, cells := 0, slots := 0, locals := 0 }
theorem mw_La_says : MW y_La_says prog_5_method_14_code 4 (some .boolean) 2 := ⟨lk_935, lk_8, by decide +kernel⟩
def L_La_says (p1 p2 : Int) (d : Dt) : Option (Int × Dt) :=
  ck ((0 : Int) ≤ p1 ∧ p1 < 100) (if (d 32 p1.toNat) < 0 then some (0, d) else ck ((0 : Int) ≤ p1 ∧ p1 < 100) (if (d 34 p1.toNat) = 0 then ck (stt d (d 32 p1.toNat)) (ck ((0 : Int) ≤ p1 ∧ p1 < 100) (ck (stt d (d 32 p1.toNat)) (ck ((0 : Int) ≤ (d 33 p1.toNat) ∧ (d 33 p1.toNat) < 20) (if (d ((d 32 p1.toNat).toNat + 3) ((d 33 p1.toNat)).toNat) = p2 then some (1, d) else some (0, d))))) else some (0, d)))
set_option maxHeartbeats 4000000 in
theorem ok_La_says {l : Launch} {r : Int} {d' : Dt} (p1 p2 : Int) (d : Dt) (hp1 : c32 p1) (hp2 : c32 p2) (h : L_La_says p1 p2 d = some (r, d')) : MC l y_La_says prog_5_method_14_code 4 (some .boolean) rm_La_says 0 [(2, 30), (0, p1), (0, p2)] d (some (0, r)) d' := by
  refine MC.of (by decide) (Nat.le_of_ble_eq_true rfl) ?_
  intro p e s m args below meth c D cA ad A C hlk hr
  replace C : Cx p s m args c prog_5_method_14_code 4 "PollBooks$Laws" D cA ad 0 A := C
  show G p l e rm_La_says s m args below meth c 0 0 (MQ below (fun _ => QC D cA ad 0 A (some .boolean) (some (0, r)) d') args s 0 0 A) 4 D cA ad 0 A 0 [(2, 30), (0, p1), (0, p2)] [] d
  refine g_sub (lo2 := [(2, 30), (0, p1), (0, p2), (9, 0)]) (lsb_v (lsb_v (lsb_v (lsb_n lsb_e)))) ?_
  unfold L_La_says at h
  refine g_aload_n C 0 rfl (by decide +kernel) ?_
  refine g_getR C cl3 30 3 32 rfl cd_A30 ⟨by decide, rfl, by decide⟩ rfl rfl (nA (by decide)) (ix := 17) lk_234 (by decide +kernel) ?_
  refine g_iload_n C 1 rfl (by decide +kernel) ?_
  obtain ⟨hb1_, h⟩ := ck_some h
  refine g_aald C 32 hp1 rfl cd_A32 (nA (by decide)) hb1_ (by decide +kernel) ?_
  refine s_astore_n C 3 (lo' := [(2, 30), (0, p1), (0, p2), (2, (d 32 p1.toNat))]) (by decide) (s1k (s1k (s1n (by decide) s1z))) (by decide +kernel) ?_
  refine g_aload_n C 3 rfl (by decide +kernel) ?_
  refine g_ifnull C (off := 31) (tgt := 39) (by decide +kernel) (by decide) (fun hc2_ => ?_) (fun hc2_ => ?_)
  · replace h := ite_t hc2_ h
    refine g_iconst C 0 (cK rfl) (by decide +kernel) ?_
    obtain ⟨rfl, rfl⟩ := ret_inj h
    exact g_zret C (Or.inl rfl) hlk hr (by decide +kernel)
  · replace h := ite_f hc2_ h
    refine g_aload_n C 0 rfl (by decide +kernel) ?_
    refine g_getR C cl3 30 5 34 rfl cd_A30 ⟨by decide, rfl, by decide⟩ rfl rfl (nA (by decide)) (ix := 24) lk_236 (by decide +kernel) ?_
    refine g_iload_n C 1 rfl (by decide +kernel) ?_
    obtain ⟨hb3_, h⟩ := ck_some h
    refine g_zald C 34 hp1 rfl cd_A34 (nA (by decide)) hb3_ (by decide +kernel) (fun hc4_ => ?_)
    refine g_if_ne C (off := 22) (tgt := 39) (c32_cb hc4_) (by decide +kernel) (by decide) (fun hc5_ => ?_) (fun hc5_ => ?_)
    · replace h := ite_t hc5_ h
      refine g_aload_n C 3 rfl (by decide +kernel) ?_
      obtain ⟨hs6_, h⟩ := ck_some h
      refine g_getRN C cl9 ((d 32 p1.toNat).toNat + 0) 6 ((d 32 p1.toNat) + 3) (stt_ko0 hs6_) (stt_cd hs6_ 0 (by decide)) ⟨by decide, rfl, by decide⟩ rfl (stt_ko hs6_ 3).symm (stt_n hs6_ 0 (by decide)) (ix := 103) lk_166 (by decide +kernel) ?_
      refine g_aload_n C 0 rfl (by decide +kernel) ?_
      refine g_getR C cl3 30 4 33 rfl cd_A30 ⟨by decide, rfl, by decide⟩ rfl rfl (nA (by decide)) (ix := 20) lk_235 (by decide +kernel) ?_
      refine g_iload_n C 1 rfl (by decide +kernel) ?_
      obtain ⟨hb7_, h⟩ := ck_some h
      refine g_iald C 33 hp1 rfl cd_A33 (nA (by decide)) hb7_ (by decide +kernel) (fun hc8_ => ?_)
      obtain ⟨hs9_, h⟩ := ck_some h
      obtain ⟨hb10_, h⟩ := ck_some h
      refine g_iald C ((d 32 p1.toNat).toNat + 3) hc8_ (stt_ko hs9_ 3) (stt_cd hs9_ 3 (by decide)) (stt_n hs9_ 3 (by decide)) hb10_ (by decide +kernel) (fun hc11_ => ?_)
      refine g_iload_n C 2 rfl (by decide +kernel) ?_
      refine g_icmp_ne C (off := 7) (tgt := 39) hc11_ hp2 (by decide +kernel) (by decide) (fun hc12_ => ?_) (fun hc12_ => ?_)
      · replace h := ite_t hc12_ h
        refine g_iconst C 1 (cK rfl) (by decide +kernel) ?_
        refine g_goto C 40 (off := 4) (by decide +kernel) (by decide) ?_
        obtain ⟨rfl, rfl⟩ := ret_inj h
        exact g_zret C (Or.inr rfl) hlk hr (by decide +kernel)
      · replace h := ite_f hc12_ h
        refine g_iconst C 0 (cK rfl) (by decide +kernel) ?_
        obtain ⟨rfl, rfl⟩ := ret_inj h
        exact g_zret C (Or.inl rfl) hlk hr (by decide +kernel)
    · replace h := ite_f hc5_ h
      refine g_iconst C 0 (cK rfl) (by decide +kernel) ?_
      obtain ⟨rfl, rfl⟩ := ret_inj h
      exact g_zret C (Or.inl rfl) hlk hr (by decide +kernel)
/-! PollBooks$Laws.lastOf(I)I -/
def y_La_lastOf : MethodName := ⟨"PollBooks$Laws", "lastOf", "(I)I"⟩
def rm_La_lastOf : Room := { frames := 1, cells := 0, slots := 0, locals := 23 }
theorem mw_La_lastOf : MW y_La_lastOf prog_5_method_15_code 3 (some .int) 1 := ⟨lk_931, lk_8, by decide +kernel⟩
def L_La_lastOf_y7 (x1 x2 : Int) (d : Dt) : Option ((Int × Int × Dt) ⊕ ((Dt) ⊕ (Int × Dt))) :=
  if x2 < 0 then some (Sum.inr (Sum.inl (d))) else bd (L_La_says x2 x1 d) (fun r3_ d2_ => if r3_ = 0 then some (Sum.inl (x1, (w32 (x2 + (-1))), d2_)) else some (Sum.inr (Sum.inr (x2, d2_))))
def L_La_lastOf_l7 (x1 x2 : Int) (d : Dt) : Option ((Dt) ⊕ (Int × Dt)) := lpF (fun q : Int × Int × Dt => L_La_lastOf_y7 q.1 q.2.1 q.2.2) FU (x1, x2, d)
def L_La_lastOf (p1 : Int) (d : Dt) : Option (Int × Dt) :=
  lt_ (w32 ((d 30 6) - 1)) (fun v8_ => lb (L_La_lastOf_l7 p1 v8_ d) (fun q18_ => sm q18_ (fun q19_ => u0 q19_ (fun d13_ => some ((-1), d13_))) (fun q20_ => u1 q20_ (fun v15_ d16_ => some (v15_, d16_)))))
set_option maxHeartbeats 4000000 in
theorem ok_La_lastOf_y7 {p : Program} {l : Launch} {e : Env} {s : State} {m : MethodId} {args : Array Value} {below : List Frame} {meth : Method} {c : Code} {D : va_G} {cA : Nat → ClassId} {ad : Nat → Nat} {A : Nat → Prop} (C : Cx p s m args c prog_5_method_15_code 3 "PollBooks$Laws" D cA ad 0 A) {Q : State → Prop} {o : (Int × Int × Dt) ⊕ ((Dt) ⊕ (Int × Dt))} (x1 x2 : Int) (d : Dt) (hx1 : c32 x1) (hx2 : c32 x2) (h : L_La_lastOf_y7 x1 x2 d = some o) (kb : ∀ (y0 y1 : Int) (e' : Dt), o = .inl (y0, y1, e') → c32 y0 → c32 y1 → G p l e rm_La_lastOf s m args below meth c 0 0 Q 3 D cA ad 0 A 7 [(2, 30), (0, y0), (0, y1)] [] e') (k0 : ∀ (e' : Dt), o = .inr (Sum.inl (e')) → G p l e rm_La_lastOf s m args below meth c 0 0 Q 3 D cA ad 0 A 28 [(9, 0), (9, 0), (9, 0)] [] e') (k1 : ∀ (y0 : Int) (e' : Dt), o = .inr (Sum.inr (y0, e')) → c32 y0 → G p l e rm_La_lastOf s m args below meth c 0 0 Q 3 D cA ad 0 A 20 [(9, 0), (9, 0), (0, y0)] [] e') : G p l e rm_La_lastOf s m args below meth c 0 0 Q 3 D cA ad 0 A 7 [(2, 30), (0, x1), (0, x2)] [] d := by
  unfold L_La_lastOf_y7 at h
  refine g_iload_n C 2 rfl (by decide +kernel) ?_
  refine g_if_lt C (off := 20) (tgt := 28) hx2 (by decide +kernel) (by decide) (fun hc1_ => ?_) (fun hc1_ => ?_)
  · replace h := ite_t hc1_ h
    refine g_sub (lo2 := [(9, 0), (9, 0), (9, 0)]) (lsb_c (lsb_c (lsb_c lsb_e))) ?_
    obtain rfl := Option.some.inj h
    exact k0 d rfl 
  · replace h := ite_f hc1_ h
    refine g_aload_n C 0 rfl (by decide +kernel) ?_
    refine g_iload_n C 2 rfl (by decide +kernel) ?_
    refine g_iload_n C 1 rfl (by decide +kernel) ?_
    obtain ⟨r3_, d2_, hr4_, h⟩ := bd_some h
    refine g_callV C mw_La_says [(0, x2), (0, x1)] 30 cl3 rfl (ok_La_says x2 x1 d hx2 hx1 hr4_) cd_A30 (by decide) (nA (by decide)) (ix := 106) lk_932 lk_934 lkp_30 ⟨rfl, rfl, Nat.le_of_ble_eq_true rfl, Nat.le_of_ble_eq_true rfl⟩ rfl (rest := []) rfl (Nat.le_of_ble_eq_true rfl) ⟨Nat.zero_le _, Nat.zero_le _⟩ (by decide +kernel) (fun _ hc5_ => ?_)
    replace hc5_ : cb r3_ := hc5_
    refine g_st (st2 := [(0, r3_)]) rfl ?_
    refine g_if_eq C (off := 5) (tgt := 22) (c32_cb hc5_) (by decide +kernel) (by decide) (fun hc6_ => ?_) (fun hc6_ => ?_)
    · replace h := ite_t hc6_ h
      refine s_iinc C 2 (-1) (lo' := [(2, 30), (0, x1), (0, (w32 (x2 + (-1))))]) rfl (by decide) (s1k (s1n (by decide) s1z)) (by decide +kernel) ?_
      refine g_goto C 7 (off := (-18)) (by decide +kernel) (by decide) ?_
      refine g_sub (lo2 := [(2, 30), (0, x1), (0, (w32 (x2 + (-1))))]) (lsb_v (lsb_v (lsb_v lsb_e))) ?_
      obtain rfl := Option.some.inj h
      exact kb x1 (w32 (x2 + (-1))) d2_ rfl hx1 (w32_c _)
    · replace h := ite_f hc6_ h
      refine g_sub (lo2 := [(9, 0), (9, 0), (0, x2)]) (lsb_c (lsb_c (lsb_v lsb_e))) ?_
      obtain rfl := Option.some.inj h
      exact k1 x2 d2_ rfl hx2
set_option maxHeartbeats 4000000 in
theorem ok_La_lastOf_n7 {p : Program} {l : Launch} {e : Env} {s : State} {m : MethodId} {args : Array Value} {below : List Frame} {meth : Method} {c : Code} {D : va_G} {cA : Nat → ClassId} {ad : Nat → Nat} {A : Nat → Prop} (C : Cx p s m args c prog_5_method_15_code 3 "PollBooks$Laws" D cA ad 0 A) {Q : State → Prop} {x : (Dt) ⊕ (Int × Dt)} : ∀ (n : Nat) (x1 x2 : Int) (d : Dt), c32 x1 → c32 x2 → lpF (fun q : Int × Int × Dt => L_La_lastOf_y7 q.1 q.2.1 q.2.2) n (x1, x2, d) = some x → (∀ (e' : Dt), x = (Sum.inl (e')) → G p l e rm_La_lastOf s m args below meth c 0 0 Q 3 D cA ad 0 A 28 [(9, 0), (9, 0), (9, 0)] [] e') → (∀ (y0 : Int) (e' : Dt), x = (Sum.inr (y0, e')) → c32 y0 → G p l e rm_La_lastOf s m args below meth c 0 0 Q 3 D cA ad 0 A 20 [(9, 0), (9, 0), (0, y0)] [] e') → G p l e rm_La_lastOf s m args below meth c 0 0 Q 3 D cA ad 0 A 7 [(2, 30), (0, x1), (0, x2)] [] d := by
  intro n
  induction n with
  | zero => intro x1 x2 d g0 g1 h k0 k1; cases h
  | succ n ih =>
    intro x1 x2 d g0 g1 h k0 k1
    rcases lpF_some h with h | ⟨⟨v0_, v1_, e0_⟩, h1, h⟩
    · exact ok_La_lastOf_y7 C x1 x2 d g0 g1 h (fun z0_ z1_ e1_ eq w0_ w1_ => by cases eq) (fun e1_ eq => k0 _ (by cases eq; rfl) ) (fun z0_ e1_ eq w0_ => k1 _ _ (by cases eq; rfl) w0_)
    · exact ok_La_lastOf_y7 C x1 x2 d g0 g1 h1 (fun z0_ z1_ e1_ eq w0_ w1_ => by cases eq; exact ih _ _ _ w0_ w1_ h k0 k1) (fun e1_ eq => by cases eq) (fun z0_ e1_ eq w0_ => by cases eq)
set_option maxHeartbeats 4000000 in
theorem ok_La_lastOf_l7 {p : Program} {l : Launch} {e : Env} {s : State} {m : MethodId} {args : Array Value} {below : List Frame} {meth : Method} {c : Code} {D : va_G} {cA : Nat → ClassId} {ad : Nat → Nat} {A : Nat → Prop} (C : Cx p s m args c prog_5_method_15_code 3 "PollBooks$Laws" D cA ad 0 A) {Q : State → Prop} {x : (Dt) ⊕ (Int × Dt)} (x1 x2 : Int) (d : Dt) (hx1 : c32 x1) (hx2 : c32 x2) (h : L_La_lastOf_l7 x1 x2 d = some x) (k0 : ∀ (e' : Dt), x = (Sum.inl (e')) → G p l e rm_La_lastOf s m args below meth c 0 0 Q 3 D cA ad 0 A 28 [(9, 0), (9, 0), (9, 0)] [] e') (k1 : ∀ (y0 : Int) (e' : Dt), x = (Sum.inr (y0, e')) → c32 y0 → G p l e rm_La_lastOf s m args below meth c 0 0 Q 3 D cA ad 0 A 20 [(9, 0), (9, 0), (0, y0)] [] e') : G p l e rm_La_lastOf s m args below meth c 0 0 Q 3 D cA ad 0 A 7 [(2, 30), (0, x1), (0, x2)] [] d :=
  ok_La_lastOf_n7 C FU x1 x2 d hx1 hx2 h k0 k1
set_option maxHeartbeats 4000000 in
theorem ok_La_lastOf {l : Launch} {r : Int} {d' : Dt} (p1 : Int) (d : Dt) (hp1 : c32 p1) (h : L_La_lastOf p1 d = some (r, d')) : MC l y_La_lastOf prog_5_method_15_code 3 (some .int) rm_La_lastOf 0 [(2, 30), (0, p1)] d (some (0, r)) d' := by
  refine MC.of (by decide) (Nat.le_of_ble_eq_true rfl) ?_
  intro p e s m args below meth c D cA ad A C hlk hr
  replace C : Cx p s m args c prog_5_method_15_code 3 "PollBooks$Laws" D cA ad 0 A := C
  show G p l e rm_La_lastOf s m args below meth c 0 0 (MQ below (fun _ => QC D cA ad 0 A (some .int) (some (0, r)) d') args s 0 0 A) 3 D cA ad 0 A 0 [(2, 30), (0, p1)] [] d
  refine g_sub (lo2 := [(2, 30), (0, p1), (9, 0)]) (lsb_v (lsb_v (lsb_n lsb_e))) ?_
  unfold L_La_lastOf at h
  refine g_aload_n C 0 rfl (by decide +kernel) ?_
  refine g_getI C cl3 30 6 rfl cd_A30 ⟨by decide, rfl, by decide⟩ rfl (nA (by decide)) (ix := 63) lk_237 (by decide +kernel) (fun hc7_ => ?_)
  refine g_iconst C 1 (cK rfl) (by decide +kernel) ?_
  refine g_isub C (by decide +kernel) ?_
  obtain ⟨v8_, ev9_, h⟩ := lt_some h
  refine g_val ev9_.symm ?_
  have hv10_ : c32 v8_ := by rw [ev9_]; exact (w32_c _)
  refine s_istore_n C 2 (lo' := [(2, 30), (0, p1), (0, v8_)]) (by decide) (s1k (s1n (by decide) s1z)) (by decide +kernel) ?_
  refine g_sub (lo2 := [(2, 30), (0, p1), (0, v8_)]) (lsb_v (lsb_v (lsb_v lsb_e))) ?_
  obtain ⟨x11_, hx12_, h⟩ := lb_some h
  refine ok_La_lastOf_l7 C p1 v8_ d hp1 hv10_ hx12_ (fun d13_ eq14_ => ?_) (fun v15_ d16_ eq17_ hv15_ => ?_)
  · subst eq14_
    replace h := sml_e h
    replace h := u0_e h
    refine g_iconst C (-1) (cK rfl) (by decide +kernel) ?_
    obtain ⟨rfl, rfl⟩ := ret_inj h
    exact g_iret C (cK rfl) hlk hr (by decide +kernel)
  · subst eq17_
    replace h := smr_e h
    replace h := u1_e h
    refine g_iload_n C 2 rfl (by decide +kernel) ?_
    obtain ⟨rfl, rfl⟩ := ret_inj h
    exact g_iret C hv15_ hlk hr (by decide +kernel)
/-! PollBooks$Laws.firstNumber(I)I -/
def y_La_firstNumber : MethodName := ⟨"PollBooks$Laws", "firstNumber", "(I)I"⟩
def rm_La_firstNumber : Room := { frames := 0, cells := 0, slots := 0, locals := 0 }
theorem mw_La_firstNumber : MW y_La_firstNumber prog_5_method_17_code 3 (some .int) 1 := ⟨lk_939, lk_8, by decide +kernel⟩
def L_La_firstNumber (p1 : Int) (d : Dt) : Option (Int × Dt) :=
  ck ((0 : Int) ≤ p1 ∧ p1 < 100) (if (d 32 p1.toNat) < 0 then some ((-1), d) else ck (stt d (d 32 p1.toNat)) (ck ((0 : Int) ≤ p1 ∧ p1 < 100) (ck (stt d (d 32 p1.toNat)) (ck ((0 : Int) ≤ (d 33 p1.toNat) ∧ (d 33 p1.toNat) < 20) (some ((d ((d 32 p1.toNat).toNat + 4) ((d 33 p1.toNat)).toNat), d))))))
set_option maxHeartbeats 4000000 in
theorem ok_La_firstNumber {l : Launch} {r : Int} {d' : Dt} (p1 : Int) (d : Dt) (hp1 : c32 p1) (h : L_La_firstNumber p1 d = some (r, d')) : MC l y_La_firstNumber prog_5_method_17_code 3 (some .int) rm_La_firstNumber 0 [(2, 30), (0, p1)] d (some (0, r)) d' := by
  refine MC.of (by decide) (Nat.le_of_ble_eq_true rfl) ?_
  intro p e s m args below meth c D cA ad A C hlk hr
  replace C : Cx p s m args c prog_5_method_17_code 3 "PollBooks$Laws" D cA ad 0 A := C
  show G p l e rm_La_firstNumber s m args below meth c 0 0 (MQ below (fun _ => QC D cA ad 0 A (some .int) (some (0, r)) d') args s 0 0 A) 3 D cA ad 0 A 0 [(2, 30), (0, p1)] [] d
  refine g_sub (lo2 := [(2, 30), (0, p1), (9, 0)]) (lsb_v (lsb_v (lsb_n lsb_e))) ?_
  unfold L_La_firstNumber at h
  refine g_aload_n C 0 rfl (by decide +kernel) ?_
  refine g_getR C cl3 30 3 32 rfl cd_A30 ⟨by decide, rfl, by decide⟩ rfl rfl (nA (by decide)) (ix := 17) lk_234 (by decide +kernel) ?_
  refine g_iload_n C 1 rfl (by decide +kernel) ?_
  obtain ⟨hb1_, h⟩ := ck_some h
  refine g_aald C 32 hp1 rfl cd_A32 (nA (by decide)) hb1_ (by decide +kernel) ?_
  refine s_astore_n C 2 (lo' := [(2, 30), (0, p1), (2, (d 32 p1.toNat))]) (by decide) (s1k (s1n (by decide) s1z)) (by decide +kernel) ?_
  refine g_aload_n C 2 rfl (by decide +kernel) ?_
  refine g_ifnonnull C (off := 7) (tgt := 15) (by decide +kernel) (by decide) (fun hc2_ => ?_) (fun hc2_ => ?_)
  · replace h := ite_t hc2_ h
    refine g_iconst C (-1) (cK rfl) (by decide +kernel) ?_
    refine g_goto C 26 (off := 14) (by decide +kernel) (by decide) ?_
    obtain ⟨rfl, rfl⟩ := ret_inj h
    exact g_iret C (cK rfl) hlk hr (by decide +kernel)
  · replace h := ite_f hc2_ h
    refine g_aload_n C 2 rfl (by decide +kernel) ?_
    obtain ⟨hs3_, h⟩ := ck_some h
    refine g_getRN C cl9 ((d 32 p1.toNat).toNat + 0) 7 ((d 32 p1.toNat) + 4) (stt_ko0 hs3_) (stt_cd hs3_ 0 (by decide)) ⟨by decide, rfl, by decide⟩ rfl (stt_ko hs3_ 4).symm (stt_n hs3_ 0 (by decide)) (ix := 112) lk_168 (by decide +kernel) ?_
    refine g_aload_n C 0 rfl (by decide +kernel) ?_
    refine g_getR C cl3 30 4 33 rfl cd_A30 ⟨by decide, rfl, by decide⟩ rfl rfl (nA (by decide)) (ix := 20) lk_235 (by decide +kernel) ?_
    refine g_iload_n C 1 rfl (by decide +kernel) ?_
    obtain ⟨hb4_, h⟩ := ck_some h
    refine g_iald C 33 hp1 rfl cd_A33 (nA (by decide)) hb4_ (by decide +kernel) (fun hc5_ => ?_)
    obtain ⟨hs6_, h⟩ := ck_some h
    obtain ⟨hb7_, h⟩ := ck_some h
    refine g_iald C ((d 32 p1.toNat).toNat + 4) hc5_ (stt_ko hs6_ 4) (stt_cd hs6_ 4 (by decide)) (stt_n hs6_ 4 (by decide)) hb7_ (by decide +kernel) (fun hc8_ => ?_)
    obtain ⟨rfl, rfl⟩ := ret_inj h
    exact g_iret C hc8_ hlk hr (by decide +kernel)
/-! PollBooks$Laws.secondNumber(I)I -/
def y_La_secondNumber : MethodName := ⟨"PollBooks$Laws", "secondNumber", "(I)I"⟩
def rm_La_secondNumber : Room := { frames := 0, cells := 0, slots := 0, locals := 0 }
theorem mw_La_secondNumber : MW y_La_secondNumber prog_5_method_18_code 3 (some .int) 1 := ⟨lk_943, lk_8, by decide +kernel⟩
def L_La_secondNumber (p1 : Int) (d : Dt) : Option (Int × Dt) :=
  ck ((0 : Int) ≤ p1 ∧ p1 < 100) (if (d 32 p1.toNat) < 0 then some ((-1), d) else ck (stt d (d 32 p1.toNat)) (ck ((0 : Int) ≤ p1 ∧ p1 < 100) (ck (stt d (d 32 p1.toNat)) (ck ((0 : Int) ≤ (d 33 p1.toNat) ∧ (d 33 p1.toNat) < 20) (some ((d ((d 32 p1.toNat).toNat + 5) ((d 33 p1.toNat)).toNat), d))))))
set_option maxHeartbeats 4000000 in
theorem ok_La_secondNumber {l : Launch} {r : Int} {d' : Dt} (p1 : Int) (d : Dt) (hp1 : c32 p1) (h : L_La_secondNumber p1 d = some (r, d')) : MC l y_La_secondNumber prog_5_method_18_code 3 (some .int) rm_La_secondNumber 0 [(2, 30), (0, p1)] d (some (0, r)) d' := by
  refine MC.of (by decide) (Nat.le_of_ble_eq_true rfl) ?_
  intro p e s m args below meth c D cA ad A C hlk hr
  replace C : Cx p s m args c prog_5_method_18_code 3 "PollBooks$Laws" D cA ad 0 A := C
  show G p l e rm_La_secondNumber s m args below meth c 0 0 (MQ below (fun _ => QC D cA ad 0 A (some .int) (some (0, r)) d') args s 0 0 A) 3 D cA ad 0 A 0 [(2, 30), (0, p1)] [] d
  refine g_sub (lo2 := [(2, 30), (0, p1), (9, 0)]) (lsb_v (lsb_v (lsb_n lsb_e))) ?_
  unfold L_La_secondNumber at h
  refine g_aload_n C 0 rfl (by decide +kernel) ?_
  refine g_getR C cl3 30 3 32 rfl cd_A30 ⟨by decide, rfl, by decide⟩ rfl rfl (nA (by decide)) (ix := 17) lk_234 (by decide +kernel) ?_
  refine g_iload_n C 1 rfl (by decide +kernel) ?_
  obtain ⟨hb1_, h⟩ := ck_some h
  refine g_aald C 32 hp1 rfl cd_A32 (nA (by decide)) hb1_ (by decide +kernel) ?_
  refine s_astore_n C 2 (lo' := [(2, 30), (0, p1), (2, (d 32 p1.toNat))]) (by decide) (s1k (s1n (by decide) s1z)) (by decide +kernel) ?_
  refine g_aload_n C 2 rfl (by decide +kernel) ?_
  refine g_ifnonnull C (off := 7) (tgt := 15) (by decide +kernel) (by decide) (fun hc2_ => ?_) (fun hc2_ => ?_)
  · replace h := ite_t hc2_ h
    refine g_iconst C (-1) (cK rfl) (by decide +kernel) ?_
    refine g_goto C 26 (off := 14) (by decide +kernel) (by decide) ?_
    obtain ⟨rfl, rfl⟩ := ret_inj h
    exact g_iret C (cK rfl) hlk hr (by decide +kernel)
  · replace h := ite_f hc2_ h
    refine g_aload_n C 2 rfl (by decide +kernel) ?_
    obtain ⟨hs3_, h⟩ := ck_some h
    refine g_getRN C cl9 ((d 32 p1.toNat).toNat + 0) 8 ((d 32 p1.toNat) + 5) (stt_ko0 hs3_) (stt_cd hs3_ 0 (by decide)) ⟨by decide, rfl, by decide⟩ rfl (stt_ko hs3_ 5).symm (stt_n hs3_ 0 (by decide)) (ix := 115) lk_170 (by decide +kernel) ?_
    refine g_aload_n C 0 rfl (by decide +kernel) ?_
    refine g_getR C cl3 30 4 33 rfl cd_A30 ⟨by decide, rfl, by decide⟩ rfl rfl (nA (by decide)) (ix := 20) lk_235 (by decide +kernel) ?_
    refine g_iload_n C 1 rfl (by decide +kernel) ?_
    obtain ⟨hb4_, h⟩ := ck_some h
    refine g_iald C 33 hp1 rfl cd_A33 (nA (by decide)) hb4_ (by decide +kernel) (fun hc5_ => ?_)
    obtain ⟨hs6_, h⟩ := ck_some h
    obtain ⟨hb7_, h⟩ := ck_some h
    refine g_iald C ((d 32 p1.toNat).toNat + 5) hc5_ (stt_ko hs6_ 5) (stt_cd hs6_ 5 (by decide)) (stt_n hs6_ 5 (by decide)) hb7_ (by decide +kernel) (fun hc8_ => ?_)
    obtain ⟨rfl, rfl⟩ := ret_inj h
    exact g_iret C hc8_ hlk hr (by decide +kernel)
/-! PollBooks$Laws.closedBy()I -/
def y_La_closedBy : MethodName := ⟨"PollBooks$Laws", "closedBy", "()I"⟩
def rm_La_closedBy : Room := { frames := 2, cells := 0, slots := 0, locals := 45 }
theorem mw_La_closedBy : MW y_La_closedBy prog_5_method_19_code 3 (some .int) 0 := ⟨lk_927, lk_8, by decide +kernel⟩
def L_La_closedBy (d : Dt) : Option (Int × Dt) :=
  bd (L_La_lastOf 22 d) (fun r2_ d1_ => if r2_ = (-1) then some ((-1), d1_) else bd (L_La_firstNumber r2_ d1_) (fun r8_ d7_ => bd (L_La_secondNumber r2_ d7_) (fun r12_ d11_ => bd (L_PB_within (d1_ 35 7) r8_ r12_ d11_) (fun r16_ d15_ => if r16_ = 0 then some (r2_, d15_) else some ((-1), d15_)))))
set_option maxHeartbeats 4000000 in
theorem ok_La_closedBy {l : Launch} {r : Int} {d' : Dt} (d : Dt)  (h : L_La_closedBy d = some (r, d')) : MC l y_La_closedBy prog_5_method_19_code 3 (some .int) rm_La_closedBy 0 [(2, 30)] d (some (0, r)) d' := by
  refine MC.of (by decide) (Nat.le_of_ble_eq_true rfl) ?_
  intro p e s m args below meth c D cA ad A C hlk hr
  replace C : Cx p s m args c prog_5_method_19_code 3 "PollBooks$Laws" D cA ad 0 A := C
  show G p l e rm_La_closedBy s m args below meth c 0 0 (MQ below (fun _ => QC D cA ad 0 A (some .int) (some (0, r)) d') args s 0 0 A) 3 D cA ad 0 A 0 [(2, 30)] [] d
  refine g_sub (lo2 := [(2, 30), (9, 0), (9, 0)]) (lsb_v (lsb_n (lsb_n lsb_e))) ?_
  unfold L_La_closedBy at h
  refine g_aload_n C 0 rfl (by decide +kernel) ?_
  refine g_bipush C 22 (by decide) (by decide +kernel) ?_
  obtain ⟨r2_, d1_, hr3_, h⟩ := bd_some h
  refine g_callV C mw_La_lastOf [(0, 22)] 30 cl3 rfl (ok_La_lastOf 22 d (cK rfl) hr3_) cd_A30 (by decide) (nA (by decide)) (ix := 68) lk_928 lk_930 lkp_29 ⟨rfl, rfl, Nat.le_of_ble_eq_true rfl, Nat.le_of_ble_eq_true rfl⟩ rfl (rest := []) rfl (Nat.le_of_ble_eq_true rfl) ⟨Nat.zero_le _, Nat.zero_le _⟩ (by decide +kernel) (fun _ hc4_ => ?_)
  replace hc4_ : c32 r2_ := hc4_
  refine g_st (st2 := [(0, r2_)]) rfl ?_
  refine s_istore_n C 1 (lo' := [(2, 30), (0, r2_), (9, 0)]) (by decide) (s1n (by decide) s1z) (by decide +kernel) ?_
  refine g_iload_n C 1 rfl (by decide +kernel) ?_
  refine g_iconst C (-1) (cK rfl) (by decide +kernel) ?_
  refine g_icmp_ne C (off := 5) (tgt := 14) hc4_ (cK rfl) (by decide +kernel) (by decide) (fun hc5_ => ?_) (fun hc5_ => ?_)
  · replace h := ite_t hc5_ h
    refine g_iconst C (-1) (cK rfl) (by decide +kernel) ?_
    obtain ⟨rfl, rfl⟩ := ret_inj h
    exact g_iret C (cK rfl) hlk hr (by decide +kernel)
  · replace h := ite_f hc5_ h
    refine g_aload_n C 0 rfl (by decide +kernel) ?_
    refine g_getR C cl3 30 9 35 rfl cd_A30 ⟨by decide, rfl, by decide⟩ rfl rfl (nA (by decide)) (ix := 35) lk_240 (by decide +kernel) ?_
    refine g_bipush C 7 (by decide) (by decide +kernel) ?_
    refine g_lald C 35 (cK rfl) rfl cd_A35 (nA (by decide)) (by decide) (by decide +kernel) (fun hc6_ => ?_)
    refine g_val (y := (d1_ 35 7)) rfl ?_
    replace hc6_ : c64 (d1_ 35 7) := hc6_
    refine g_aload_n C 0 rfl (by decide +kernel) ?_
    refine g_iload_n C 1 rfl (by decide +kernel) ?_
    obtain ⟨r8_, d7_, hr9_, h⟩ := bd_some h
    refine g_callV C mw_La_firstNumber [(0, r2_)] 30 cl3 rfl (ok_La_firstNumber r2_ d1_ hc4_ hr9_) cd_A30 (by decide) (nA (by decide)) (ix := 72) lk_936 lk_938 lkp_31 ⟨rfl, rfl, Nat.le_of_ble_eq_true rfl, Nat.le_of_ble_eq_true rfl⟩ rfl (rest := [(1, (d1_ 35 7))]) rfl (Nat.le_of_ble_eq_true rfl) ⟨Nat.zero_le _, Nat.zero_le _⟩ (by decide +kernel) (fun _ hc10_ => ?_)
    replace hc10_ : c32 r8_ := hc10_
    refine g_st (st2 := [(0, r8_), (1, (d1_ 35 7))]) rfl ?_
    refine g_i2l C hc10_ (by decide +kernel) ?_
    refine g_aload_n C 0 rfl (by decide +kernel) ?_
    refine g_iload_n C 1 rfl (by decide +kernel) ?_
    obtain ⟨r12_, d11_, hr13_, h⟩ := bd_some h
    refine g_callV C mw_La_secondNumber [(0, r2_)] 30 cl3 rfl (ok_La_secondNumber r2_ d7_ hc4_ hr13_) cd_A30 (by decide) (nA (by decide)) (ix := 118) lk_940 lk_942 lkp_32 ⟨rfl, rfl, Nat.le_of_ble_eq_true rfl, Nat.le_of_ble_eq_true rfl⟩ rfl (rest := [(1, r8_), (1, (d1_ 35 7))]) rfl (Nat.le_of_ble_eq_true rfl) ⟨Nat.zero_le _, Nat.zero_le _⟩ (by decide +kernel) (fun _ hc14_ => ?_)
    replace hc14_ : c32 r12_ := hc14_
    refine g_st (st2 := [(0, r12_), (1, r8_), (1, (d1_ 35 7))]) rfl ?_
    refine g_i2l C hc14_ (by decide +kernel) ?_
    obtain ⟨r16_, d15_, hr17_, h⟩ := bd_some h
    refine g_callSN C mw_PB_within [(1, (d1_ 35 7)), (1, r8_), (1, r12_)] (ok_PB_within (d1_ 35 7) r8_ r12_ d11_ hc6_ (c64_32 hc10_) (c64_32 hc14_) hr17_) (ix := 121) lk_944 lk_521 ⟨rfl, rfl, Nat.le_of_ble_eq_true rfl, Nat.le_of_ble_eq_true rfl⟩ rfl (rest := []) rfl (Nat.le_of_ble_eq_true rfl) ⟨Nat.zero_le _, Nat.zero_le _⟩ (by decide +kernel) (fun _ hc18_ => ?_)
    replace hc18_ : cb r16_ := hc18_
    refine g_st (st2 := [(0, r16_)]) rfl ?_
    refine s_istore_n C 2 (lo' := [(2, 30), (0, r2_), (0, r16_)]) (by decide) (s1k (s1n (by decide) s1z)) (by decide +kernel) ?_
    refine g_iload_n C 2 rfl (by decide +kernel) ?_
    refine g_if_eq C (off := 7) (tgt := 45) (c32_cb hc18_) (by decide +kernel) (by decide) (fun hc19_ => ?_) (fun hc19_ => ?_)
    · replace h := ite_t hc19_ h
      refine g_iload_n C 1 rfl (by decide +kernel) ?_
      obtain ⟨rfl, rfl⟩ := ret_inj h
      exact g_iret C hc4_ hlk hr (by decide +kernel)
    · replace h := ite_f hc19_ h
      refine g_iconst C (-1) (cK rfl) (by decide +kernel) ?_
      refine g_goto C 46 (off := 4) (by decide +kernel) (by decide) ?_
      obtain ⟨rfl, rfl⟩ := ret_inj h
      exact g_iret C (cK rfl) hlk hr (by decide +kernel)
/-! PollBooks$Laws.reckon(IJJ)J -/
def y_La_reckon : MethodName := ⟨"PollBooks$Laws", "reckon", "(IJJ)J"⟩
def rm_La_reckon : Room := { frames := 0, cells := 0, slots := 0, locals := 0 }
theorem mw_La_reckon : MW y_La_reckon prog_5_method_21_code 5 (some .long) 3 := ⟨lk_956, lk_8, by decide +kernel⟩
def L_La_reckon (p1 p2 p3 : Int) (d : Dt) : Option (Int × Dt) :=
  if p1 = 25 then some ((land p2 p3), d) else if p1 = 42 then some ((w64 (p2 * p3)), d) else if p1 = 43 then some ((w64 (p2 + p3)), d) else if p1 = 45 then some ((w64 (p2 - p3)), d) else if p1 = 60 then if p2 < p3 then some (1, d) else some (0, d) else if p1 = 61 then if p2 = p3 then some (1, d) else some (0, d) else if p1 = 62 then if p3 < p2 then some (1, d) else some (0, d) else some ((lor p2 p3), d)
set_option maxHeartbeats 4000000 in
theorem ok_La_reckon {l : Launch} {r : Int} {d' : Dt} (p1 p2 p3 : Int) (d : Dt) (hp1 : c32 p1) (hp2 : c64 p2) (hp3 : c64 p3) (h : L_La_reckon p1 p2 p3 d = some (r, d')) : MC l y_La_reckon prog_5_method_21_code 5 (some .long) rm_La_reckon 0 [(0, p1), (1, p2), (1, p3)] d (some (1, r)) d' := by
  refine MC.of (by decide) (Nat.le_of_ble_eq_true rfl) ?_
  intro p e s m args below meth c D cA ad A C hlk hr
  replace C : Cx p s m args c prog_5_method_21_code 5 "PollBooks$Laws" D cA ad 0 A := C
  show G p l e rm_La_reckon s m args below meth c 0 0 (MQ below (fun _ => QC D cA ad 0 A (some .long) (some (1, r)) d') args s 0 0 A) 5 D cA ad 0 A 0 [(0, p1), (1, p2), (9, 0), (1, p3), (9, 0)] [] d
  refine g_sub (lo2 := [(0, p1), (1, p2), (9, 0), (1, p3), (9, 0)]) (lsb_v (lsb_v (lsb_c (lsb_v (lsb_c lsb_e))))) ?_
  unfold L_La_reckon at h
  refine g_iload_n C 0 rfl (by decide +kernel) ?_
  rcases ite_some h with ⟨hc1_, h⟩ | ⟨hc1_, h⟩
  · refine g_lookup C (dflt := 119) (off := 115) (ps := #[(25, 115), (42, 75), (43, 67), (45, 71), (60, 79), (61, 103), (62, 91)]) (len := 67) (tgt := 116) hp1 (by decide +kernel) (by decide) (by rw [hc1_]; decide) (by decide) ?_
    refine g_lload_n C 1 rfl (by decide +kernel) ?_
    refine g_lload_n C 3 rfl (by decide +kernel) ?_
    refine g_land C (by decide +kernel) ?_
    obtain ⟨rfl, rfl⟩ := ret_inj h
    exact g_lret C (l_c _) hlk hr (by decide +kernel)
  · rcases ite_some h with ⟨hc2_, h⟩ | ⟨hc2_, h⟩
    · refine g_lookup C (dflt := 119) (off := 75) (ps := #[(25, 115), (42, 75), (43, 67), (45, 71), (60, 79), (61, 103), (62, 91)]) (len := 67) (tgt := 76) hp1 (by decide +kernel) (by decide) (by rw [hc2_]; decide) (by decide) ?_
      refine g_lload_n C 1 rfl (by decide +kernel) ?_
      refine g_lload_n C 3 rfl (by decide +kernel) ?_
      refine g_lmul C (by decide +kernel) ?_
      obtain ⟨rfl, rfl⟩ := ret_inj h
      exact g_lret C (w64_c _) hlk hr (by decide +kernel)
    · rcases ite_some h with ⟨hc3_, h⟩ | ⟨hc3_, h⟩
      · refine g_lookup C (dflt := 119) (off := 67) (ps := #[(25, 115), (42, 75), (43, 67), (45, 71), (60, 79), (61, 103), (62, 91)]) (len := 67) (tgt := 68) hp1 (by decide +kernel) (by decide) (by rw [hc3_]; decide) (by decide) ?_
        refine g_lload_n C 1 rfl (by decide +kernel) ?_
        refine g_lload_n C 3 rfl (by decide +kernel) ?_
        refine g_ladd C (by decide +kernel) ?_
        obtain ⟨rfl, rfl⟩ := ret_inj h
        exact g_lret C (w64_c _) hlk hr (by decide +kernel)
      · rcases ite_some h with ⟨hc4_, h⟩ | ⟨hc4_, h⟩
        · refine g_lookup C (dflt := 119) (off := 71) (ps := #[(25, 115), (42, 75), (43, 67), (45, 71), (60, 79), (61, 103), (62, 91)]) (len := 67) (tgt := 72) hp1 (by decide +kernel) (by decide) (by rw [hc4_]; decide) (by decide) ?_
          refine g_lload_n C 1 rfl (by decide +kernel) ?_
          refine g_lload_n C 3 rfl (by decide +kernel) ?_
          refine g_lsub C (by decide +kernel) ?_
          obtain ⟨rfl, rfl⟩ := ret_inj h
          exact g_lret C (w64_c _) hlk hr (by decide +kernel)
        · rcases ite_some h with ⟨hc5_, h⟩ | ⟨hc5_, h⟩
          · refine g_lookup C (dflt := 119) (off := 79) (ps := #[(25, 115), (42, 75), (43, 67), (45, 71), (60, 79), (61, 103), (62, 91)]) (len := 67) (tgt := 80) hp1 (by decide +kernel) (by decide) (by rw [hc5_]; decide) (by decide) ?_
            refine g_lload_n C 1 rfl (by decide +kernel) ?_
            refine g_lload_n C 3 rfl (by decide +kernel) ?_
            refine g_lc_ge C (off := 7) (tgt := 90) hp2 hp3 (by decide +kernel) (by decide +kernel) (by decide) (fun hc6_ => ?_) (fun hc6_ => ?_)
            · replace h := ite_t hc6_ h
              refine g_lconst C 1 (v := 1) (by decide) (by decide +kernel) ?_
              refine g_goto C 91 (off := 4) (by decide +kernel) (by decide) ?_
              obtain ⟨rfl, rfl⟩ := ret_inj h
              exact g_lret C (cL rfl) hlk hr (by decide +kernel)
            · replace h := ite_f hc6_ h
              refine g_lconst C 0 (v := 0) (by decide) (by decide +kernel) ?_
              obtain ⟨rfl, rfl⟩ := ret_inj h
              exact g_lret C (cL rfl) hlk hr (by decide +kernel)
          · rcases ite_some h with ⟨hc7_, h⟩ | ⟨hc7_, h⟩
            · refine g_lookup C (dflt := 119) (off := 103) (ps := #[(25, 115), (42, 75), (43, 67), (45, 71), (60, 79), (61, 103), (62, 91)]) (len := 67) (tgt := 104) hp1 (by decide +kernel) (by decide) (by rw [hc7_]; decide) (by decide) ?_
              refine g_lload_n C 1 rfl (by decide +kernel) ?_
              refine g_lload_n C 3 rfl (by decide +kernel) ?_
              refine g_lc_ne C (off := 7) (tgt := 114) hp2 hp3 (by decide +kernel) (by decide +kernel) (by decide) (fun hc8_ => ?_) (fun hc8_ => ?_)
              · replace h := ite_t hc8_ h
                refine g_lconst C 1 (v := 1) (by decide) (by decide +kernel) ?_
                refine g_goto C 115 (off := 4) (by decide +kernel) (by decide) ?_
                obtain ⟨rfl, rfl⟩ := ret_inj h
                exact g_lret C (cL rfl) hlk hr (by decide +kernel)
              · replace h := ite_f hc8_ h
                refine g_lconst C 0 (v := 0) (by decide) (by decide +kernel) ?_
                obtain ⟨rfl, rfl⟩ := ret_inj h
                exact g_lret C (cL rfl) hlk hr (by decide +kernel)
            · rcases ite_some h with ⟨hc9_, h⟩ | ⟨hc9_, h⟩
              · refine g_lookup C (dflt := 119) (off := 91) (ps := #[(25, 115), (42, 75), (43, 67), (45, 71), (60, 79), (61, 103), (62, 91)]) (len := 67) (tgt := 92) hp1 (by decide +kernel) (by decide) (by rw [hc9_]; decide) (by decide) ?_
                refine g_lload_n C 1 rfl (by decide +kernel) ?_
                refine g_lload_n C 3 rfl (by decide +kernel) ?_
                refine g_lc_le C (off := 7) (tgt := 102) hp2 hp3 (by decide +kernel) (by decide +kernel) (by decide) (fun hc10_ => ?_) (fun hc10_ => ?_)
                · replace h := ite_t hc10_ h
                  refine g_lconst C 1 (v := 1) (by decide) (by decide +kernel) ?_
                  refine g_goto C 103 (off := 4) (by decide +kernel) (by decide) ?_
                  obtain ⟨rfl, rfl⟩ := ret_inj h
                  exact g_lret C (cL rfl) hlk hr (by decide +kernel)
                · replace h := ite_f hc10_ h
                  refine g_lconst C 0 (v := 0) (by decide) (by decide +kernel) ?_
                  obtain ⟨rfl, rfl⟩ := ret_inj h
                  exact g_lret C (cL rfl) hlk hr (by decide +kernel)
              · refine g_lookup C (dflt := 119) (off := 119) (ps := #[(25, 115), (42, 75), (43, 67), (45, 71), (60, 79), (61, 103), (62, 91)]) (len := 67) (tgt := 120) hp1 (by decide +kernel) (by decide) (by simp [Op.lookupswitch.offset, Ne.symm hc1_, Ne.symm hc2_, Ne.symm hc3_, Ne.symm hc4_, Ne.symm hc5_, Ne.symm hc7_, Ne.symm hc9_]) (by decide) ?_
                refine g_lload_n C 1 rfl (by decide +kernel) ?_
                refine g_lload_n C 3 rfl (by decide +kernel) ?_
                refine g_lor C (by decide +kernel) ?_
                obtain ⟨rfl, rfl⟩ := ret_inj h
                exact g_lret C (l_c _) hlk hr (by decide +kernel)
/-! PollBooks$Laws.holds(I)Z -/
def y_La_holds : MethodName := ⟨"PollBooks$Laws", "holds", "(I)Z"⟩
def rm_La_holds : Room := { frames := 1, cells := 0, slots := 0, locals := 24 }
theorem mw_La_holds : MW y_La_holds prog_5_method_20_code 8 (some .boolean) 1 := ⟨lk_952, lk_8, by decide +kernel⟩
def L_La_holds_b187 (x3 x4 x5 x6 : Int) (d : Dt) : Option ((Int × Int × Int × Int × Dt) ⊕ ((Int × Dt))) :=
  some (Sum.inl (x3, x4, x5, (w32 (x6 + 1)), d))
def L_La_holds_b105 (x3 x4 x5 x6 s1 s2 : Int) (d : Dt) : Option ((Int × Int × Int × Int × Dt) ⊕ ((Int × Dt))) :=
  ck ((0 : Int) ≤ s1 ∧ s1 < 32) (L_La_holds_b187 x3 x4 (w32 (x5 + 1)) x6 (up2 d 36 s1.toNat s2))
def L_La_holds_b68 (x3 x4 x5 x6 x7 : Int) (d : Dt) : Option ((Int × Int × Int × Int × Dt) ⊕ ((Int × Dt))) :=
  if x5 < 32 then if x7 < 9 then ck ((0 : Int) ≤ x7 ∧ x7 < 9) (L_La_holds_b105 x3 x4 x5 x6 x5 (d 35 x7.toNat) d) else L_La_holds_b105 x3 x4 x5 x6 x5 (w32 (x7 - 128)) d else L_La_holds_b187 x3 x4 x5 x6 d
def L_La_holds_y40 (x3 x4 x5 x6 : Int) (d : Dt) : Option ((Int × Int × Int × Int × Dt) ⊕ ((Int × Dt))) :=
  if x6 < x4 then ck (stt d (x3 - 6)) (ck ((0 : Int) ≤ x6 ∧ x6 < 600) (lt_ (d ((x3 - 6).toNat + 6) x6.toNat) (fun v10_ => if v10_ < 128 then if v10_ < 9 then L_La_holds_b68 x3 x4 x5 x6 v10_ d else if v10_ = 26 then if x5 < 1 then L_La_holds_b187 x3 x4 x5 x6 d else ck ((0 : Int) ≤ (w32 (x5 - 1)) ∧ (w32 (x5 - 1)) < 32) (ck ((0 : Int) ≤ (w32 (x5 - 1)) ∧ (w32 (x5 - 1)) < 32) (L_La_holds_b187 x3 x4 x5 x6 (up2 d 36 ((w32 (x5 - 1))).toNat (w64 (1 - (d 36 ((w32 (x5 - 1))).toNat)))))) else if x5 < 2 then L_La_holds_b187 x3 x4 x5 x6 d else ck ((0 : Int) ≤ (w32 ((w32 (x5 + (-1))) - 1)) ∧ (w32 ((w32 (x5 + (-1))) - 1)) < 32) (ck ((0 : Int) ≤ (w32 (x5 + (-1))) ∧ (w32 (x5 + (-1))) < 32) (bd (L_La_reckon v10_ (d 36 ((w32 ((w32 (x5 + (-1))) - 1))).toNat) (d 36 ((w32 (x5 + (-1)))).toNat) d) (fun r26_ d25_ => ck ((0 : Int) ≤ (w32 ((w32 (x5 + (-1))) - 1)) ∧ (w32 ((w32 (x5 + (-1))) - 1)) < 32) (L_La_holds_b187 x3 x4 (w32 (x5 + (-1))) x6 (up2 d25_ 36 ((w32 ((w32 (x5 + (-1))) - 1))).toNat r26_))))) else L_La_holds_b68 x3 x4 x5 x6 v10_ d))) else some (Sum.inr (x5, d))
def L_La_holds_l40 (x3 x4 x5 x6 : Int) (d : Dt) : Option ((Int × Dt)) := lpF (fun q : Int × Int × Int × Int × Dt => L_La_holds_y40 q.1 q.2.1 q.2.2.1 q.2.2.2.1 q.2.2.2.2) FU (x3, x4, x5, x6, d)
def L_La_holds (p1 : Int) (d : Dt) : Option (Int × Dt) :=
  ck ((0 : Int) ≤ p1 ∧ p1 < 100) (if (d 32 p1.toNat) < 0 then some (0, d) else ck (stt d (d 32 p1.toNat)) (bd (L_La_secondNumber p1 d) (fun r34_ d33_ => ck (stt d33_ (d 32 p1.toNat)) (lt_ (jmin r34_ 600) (fun v38_ => bd (L_La_firstNumber p1 d33_) (fun r42_ d41_ => lb (L_La_holds_l40 ((d 32 p1.toNat) + 6) v38_ 0 r42_ d41_) (fun q54_ => u1 q54_ (fun v47_ d48_ => if 0 < v47_ then ck ((0 : Int) ≤ (w32 (v47_ - 1)) ∧ (w32 (v47_ - 1)) < 32) (if (d48_ 36 ((w32 (v47_ - 1))).toNat) = 0 then some (0, d48_) else some (1, d48_)) else some (0, d48_)))))))))
set_option maxHeartbeats 4000000 in
theorem ok_La_holds_b187 {p : Program} {l : Launch} {e : Env} {s : State} {m : MethodId} {args : Array Value} {below : List Frame} {meth : Method} {c : Code} {D : va_G} {cA : Nat → ClassId} {ad : Nat → Nat} {A : Nat → Prop} (C : Cx p s m args c prog_5_method_20_code 8 "PollBooks$Laws" D cA ad 0 A) {Q : State → Prop} {o : (Int × Int × Int × Int × Dt) ⊕ ((Int × Dt))} (x3 x4 x5 x6 : Int) (d : Dt) (hx4 : c32 x4) (hx5 : c32 x5) (hx6 : c32 x6) (h : L_La_holds_b187 x3 x4 x5 x6 d = some o) (kb : ∀ (y0 y1 y2 y3 : Int) (e' : Dt), o = .inl (y0, y1, y2, y3, e') → c32 y1 → c32 y2 → c32 y3 → G p l e rm_La_holds s m args below meth c 0 0 Q 8 D cA ad 0 A 40 [(2, 30), (9, 0), (9, 0), (2, y0), (0, y1), (0, y2), (0, y3), (9, 0)] [] e') (k0 : ∀ (y0 : Int) (e' : Dt), o = .inr (y0, e') → c32 y0 → G p l e rm_La_holds s m args below meth c 0 0 Q 8 D cA ad 0 A 193 [(2, 30), (9, 0), (9, 0), (9, 0), (9, 0), (0, y0), (9, 0), (9, 0)] [] e') : G p l e rm_La_holds s m args below meth c 0 0 Q 8 D cA ad 0 A 187 [(2, 30), (9, 0), (9, 0), (2, x3), (0, x4), (0, x5), (0, x6), (9, 0)] [] d := by
  unfold L_La_holds_b187 at h
  refine s_iinc C 6 1 (lo' := [(2, 30), (9, 0), (9, 0), (2, x3), (0, x4), (0, x5), (0, (w32 (x6 + 1))), (9, 0)]) rfl (by decide) (s1k (s1k (s1k (s1k (s1k (s1n (by decide) s1z)))))) (by decide +kernel) ?_
  refine g_goto C 40 (off := (-150)) (by decide +kernel) (by decide) ?_
  refine g_sub (lo2 := [(2, 30), (9, 0), (9, 0), (2, x3), (0, x4), (0, x5), (0, (w32 (x6 + 1))), (9, 0)]) (lsb_v (lsb_c (lsb_c (lsb_v (lsb_v (lsb_v (lsb_v (lsb_c lsb_e)))))))) ?_
  obtain rfl := Option.some.inj h
  exact kb x3 x4 x5 (w32 (x6 + 1)) d rfl hx4 hx5 (w32_c _)
set_option maxHeartbeats 4000000 in
theorem ok_La_holds_b105 {p : Program} {l : Launch} {e : Env} {s : State} {m : MethodId} {args : Array Value} {below : List Frame} {meth : Method} {c : Code} {D : va_G} {cA : Nat → ClassId} {ad : Nat → Nat} {A : Nat → Prop} (C : Cx p s m args c prog_5_method_20_code 8 "PollBooks$Laws" D cA ad 0 A) {Q : State → Prop} {o : (Int × Int × Int × Int × Dt) ⊕ ((Int × Dt))} (x3 x4 x5 x6 s1 s2 : Int) (d : Dt) (hx4 : c32 x4) (hx5 : c32 x5) (hx6 : c32 x6) (hs1 : c32 s1) (hs2 : c64 s2) (h : L_La_holds_b105 x3 x4 x5 x6 s1 s2 d = some o) (kb : ∀ (y0 y1 y2 y3 : Int) (e' : Dt), o = .inl (y0, y1, y2, y3, e') → c32 y1 → c32 y2 → c32 y3 → G p l e rm_La_holds s m args below meth c 0 0 Q 8 D cA ad 0 A 40 [(2, 30), (9, 0), (9, 0), (2, y0), (0, y1), (0, y2), (0, y3), (9, 0)] [] e') (k0 : ∀ (y0 : Int) (e' : Dt), o = .inr (y0, e') → c32 y0 → G p l e rm_La_holds s m args below meth c 0 0 Q 8 D cA ad 0 A 193 [(2, 30), (9, 0), (9, 0), (9, 0), (9, 0), (0, y0), (9, 0), (9, 0)] [] e') : G p l e rm_La_holds s m args below meth c 0 0 Q 8 D cA ad 0 A 105 [(2, 30), (9, 0), (9, 0), (2, x3), (0, x4), (0, x5), (0, x6), (9, 0)] [(1, s2), (0, s1), (2, 36)] d := by
  unfold L_La_holds_b105 at h
  obtain ⟨hb1_, h⟩ := ck_some h
  refine g_last C 36 hs2 hs1 rfl cd_A36 (nA (by decide)) hb1_ (by decide +kernel) ?_
  refine s_iinc C 5 1 (lo' := [(2, 30), (9, 0), (9, 0), (2, x3), (0, x4), (0, (w32 (x5 + 1))), (0, x6), (9, 0)]) rfl (by decide) (s1k (s1k (s1k (s1k (s1n (by decide) s1z))))) (by decide +kernel) ?_
  refine g_goto C 187 (off := 78) (by decide +kernel) (by decide) ?_
  refine g_sub (lo2 := [(2, 30), (9, 0), (9, 0), (2, x3), (0, x4), (0, (w32 (x5 + 1))), (0, x6), (9, 0)]) (lsb_v (lsb_c (lsb_c (lsb_v (lsb_v (lsb_v (lsb_v (lsb_c lsb_e)))))))) ?_
  exact ok_La_holds_b187 C x3 x4 (w32 (x5 + 1)) x6 (up2 d 36 s1.toNat s2) hx4 (w32_c _) hx6 h kb k0
set_option maxHeartbeats 4000000 in
theorem ok_La_holds_b68 {p : Program} {l : Launch} {e : Env} {s : State} {m : MethodId} {args : Array Value} {below : List Frame} {meth : Method} {c : Code} {D : va_G} {cA : Nat → ClassId} {ad : Nat → Nat} {A : Nat → Prop} (C : Cx p s m args c prog_5_method_20_code 8 "PollBooks$Laws" D cA ad 0 A) {Q : State → Prop} {o : (Int × Int × Int × Int × Dt) ⊕ ((Int × Dt))} (x3 x4 x5 x6 x7 : Int) (d : Dt) (hx4 : c32 x4) (hx5 : c32 x5) (hx6 : c32 x6) (hx7 : c32 x7) (h : L_La_holds_b68 x3 x4 x5 x6 x7 d = some o) (kb : ∀ (y0 y1 y2 y3 : Int) (e' : Dt), o = .inl (y0, y1, y2, y3, e') → c32 y1 → c32 y2 → c32 y3 → G p l e rm_La_holds s m args below meth c 0 0 Q 8 D cA ad 0 A 40 [(2, 30), (9, 0), (9, 0), (2, y0), (0, y1), (0, y2), (0, y3), (9, 0)] [] e') (k0 : ∀ (y0 : Int) (e' : Dt), o = .inr (y0, e') → c32 y0 → G p l e rm_La_holds s m args below meth c 0 0 Q 8 D cA ad 0 A 193 [(2, 30), (9, 0), (9, 0), (9, 0), (9, 0), (0, y0), (9, 0), (9, 0)] [] e') : G p l e rm_La_holds s m args below meth c 0 0 Q 8 D cA ad 0 A 68 [(2, 30), (9, 0), (9, 0), (2, x3), (0, x4), (0, x5), (0, x6), (0, x7)] [] d := by
  unfold L_La_holds_b68 at h
  refine g_iload C 5 rfl (by decide +kernel) ?_
  refine g_bipush C 32 (by decide) (by decide +kernel) ?_
  refine g_icmp_ge C (off := 115) (tgt := 187) hx5 (cK rfl) (by decide +kernel) (by decide) (fun hc2_ => ?_) (fun hc2_ => ?_)
  · replace h := ite_t hc2_ h
    refine g_aload_n C 0 rfl (by decide +kernel) ?_
    refine g_getR C cl3 30 10 36 rfl cd_A30 ⟨by decide, rfl, by decide⟩ rfl rfl (nA (by decide)) (ix := 39) lk_241 (by decide +kernel) ?_
    refine g_iload C 5 rfl (by decide +kernel) ?_
    refine g_iload C 7 rfl (by decide +kernel) ?_
    refine g_bipush C 9 (by decide) (by decide +kernel) ?_
    refine g_icmp_ge C (off := 13) (tgt := 98) hx7 (cK rfl) (by decide +kernel) (by decide) (fun hc3_ => ?_) (fun hc3_ => ?_)
    · replace h := ite_t hc3_ h
      refine g_aload_n C 0 rfl (by decide +kernel) ?_
      refine g_getR C cl3 30 9 35 rfl cd_A30 ⟨by decide, rfl, by decide⟩ rfl rfl (nA (by decide)) (ix := 35) lk_240 (by decide +kernel) ?_
      refine g_iload C 7 rfl (by decide +kernel) ?_
      obtain ⟨hb4_, h⟩ := ck_some h
      refine g_lald C 35 hx7 rfl cd_A35 (nA (by decide)) hb4_ (by decide +kernel) (fun hc5_ => ?_)
      refine g_goto C 105 (off := 10) (by decide +kernel) (by decide) ?_
      refine g_sub (lo2 := [(2, 30), (9, 0), (9, 0), (2, x3), (0, x4), (0, x5), (0, x6), (9, 0)]) (lsb_v (lsb_c (lsb_c (lsb_v (lsb_v (lsb_v (lsb_v (lsb_c lsb_e)))))))) ?_
      exact ok_La_holds_b105 C x3 x4 x5 x6 x5 (d 35 x7.toNat) d hx4 hx5 hx6 hx5 hc5_ h kb k0
    · replace h := ite_f hc3_ h
      refine g_iload C 7 rfl (by decide +kernel) ?_
      refine g_sipush C 128 (by decide) (by decide +kernel) ?_
      refine g_isub C (by decide +kernel) ?_
      refine g_i2l C (w32_c _) (by decide +kernel) ?_
      refine g_sub (lo2 := [(2, 30), (9, 0), (9, 0), (2, x3), (0, x4), (0, x5), (0, x6), (9, 0)]) (lsb_v (lsb_c (lsb_c (lsb_v (lsb_v (lsb_v (lsb_v (lsb_c lsb_e)))))))) ?_
      exact ok_La_holds_b105 C x3 x4 x5 x6 x5 (w32 (x7 - 128)) d hx4 hx5 hx6 hx5 (c64_32 (w32_c _)) h kb k0
  · replace h := ite_f hc2_ h
    refine g_sub (lo2 := [(2, 30), (9, 0), (9, 0), (2, x3), (0, x4), (0, x5), (0, x6), (9, 0)]) (lsb_v (lsb_c (lsb_c (lsb_v (lsb_v (lsb_v (lsb_v (lsb_c lsb_e)))))))) ?_
    exact ok_La_holds_b187 C x3 x4 x5 x6 d hx4 hx5 hx6 h kb k0
set_option maxHeartbeats 4000000 in
theorem ok_La_holds_y40 {p : Program} {l : Launch} {e : Env} {s : State} {m : MethodId} {args : Array Value} {below : List Frame} {meth : Method} {c : Code} {D : va_G} {cA : Nat → ClassId} {ad : Nat → Nat} {A : Nat → Prop} (C : Cx p s m args c prog_5_method_20_code 8 "PollBooks$Laws" D cA ad 0 A) {Q : State → Prop} {o : (Int × Int × Int × Int × Dt) ⊕ ((Int × Dt))} (x3 x4 x5 x6 : Int) (d : Dt) (hx4 : c32 x4) (hx5 : c32 x5) (hx6 : c32 x6) (h : L_La_holds_y40 x3 x4 x5 x6 d = some o) (kb : ∀ (y0 y1 y2 y3 : Int) (e' : Dt), o = .inl (y0, y1, y2, y3, e') → c32 y1 → c32 y2 → c32 y3 → G p l e rm_La_holds s m args below meth c 0 0 Q 8 D cA ad 0 A 40 [(2, 30), (9, 0), (9, 0), (2, y0), (0, y1), (0, y2), (0, y3), (9, 0)] [] e') (k0 : ∀ (y0 : Int) (e' : Dt), o = .inr (y0, e') → c32 y0 → G p l e rm_La_holds s m args below meth c 0 0 Q 8 D cA ad 0 A 193 [(2, 30), (9, 0), (9, 0), (9, 0), (9, 0), (0, y0), (9, 0), (9, 0)] [] e') : G p l e rm_La_holds s m args below meth c 0 0 Q 8 D cA ad 0 A 40 [(2, 30), (9, 0), (9, 0), (2, x3), (0, x4), (0, x5), (0, x6), (9, 0)] [] d := by
  unfold L_La_holds_y40 at h
  refine g_iload C 6 rfl (by decide +kernel) ?_
  refine g_iload C 4 rfl (by decide +kernel) ?_
  refine g_icmp_ge C (off := 149) (tgt := 193) hx6 hx4 (by decide +kernel) (by decide) (fun hc6_ => ?_) (fun hc6_ => ?_)
  · replace h := ite_t hc6_ h
    refine g_aload_n C 3 rfl (by decide +kernel) ?_
    refine g_iload C 6 rfl (by decide +kernel) ?_
    obtain ⟨hs7_, h⟩ := ck_some h
    obtain ⟨hb8_, h⟩ := ck_some h
    refine g_iald C ((x3 - 6).toNat + 6) hx6 (stt_kq 6 hs7_) (stt_cd hs7_ 6 (by decide)) (stt_n hs7_ 6 (by decide)) hb8_ (by decide +kernel) (fun hc9_ => ?_)
    obtain ⟨v10_, ev11_, h⟩ := lt_some h
    refine g_val ev11_.symm ?_
    have hv12_ : c32 v10_ := by rw [ev11_]; exact hc9_
    refine s_istore C 7 (lo' := [(2, 30), (9, 0), (9, 0), (2, x3), (0, x4), (0, x5), (0, x6), (0, v10_)]) (by decide) (s1k (s1k (s1k (s1k (s1k (s1k (s1n (by decide) s1z))))))) (by decide +kernel) ?_
    refine g_iload C 7 rfl (by decide +kernel) ?_
    refine g_sipush C 128 (by decide) (by decide +kernel) ?_
    refine g_icmp_ge C (off := 10) (tgt := 68) hv12_ (cK rfl) (by decide +kernel) (by decide) (fun hc13_ => ?_) (fun hc13_ => ?_)
    · replace h := ite_t hc13_ h
      refine g_iload C 7 rfl (by decide +kernel) ?_
      refine g_bipush C 9 (by decide) (by decide +kernel) ?_
      refine g_icmp_ge C (off := 47) (tgt := 112) hv12_ (cK rfl) (by decide +kernel) (by decide) (fun hc14_ => ?_) (fun hc14_ => ?_)
      · replace h := ite_t hc14_ h
        refine g_sub (lo2 := [(2, 30), (9, 0), (9, 0), (2, x3), (0, x4), (0, x5), (0, x6), (0, v10_)]) (lsb_v (lsb_c (lsb_c (lsb_v (lsb_v (lsb_v (lsb_v (lsb_v lsb_e)))))))) ?_
        exact ok_La_holds_b68 C x3 x4 x5 x6 v10_ d hx4 hx5 hx6 hv12_ h kb k0
      · replace h := ite_f hc14_ h
        refine g_iload C 7 rfl (by decide +kernel) ?_
        refine g_bipush C 26 (by decide) (by decide +kernel) ?_
        refine g_icmp_ne C (off := 32) (tgt := 148) hv12_ (cK rfl) (by decide +kernel) (by decide) (fun hc15_ => ?_) (fun hc15_ => ?_)
        · replace h := ite_t hc15_ h
          refine g_iload C 5 rfl (by decide +kernel) ?_
          refine g_iconst C 1 (cK rfl) (by decide +kernel) ?_
          refine g_icmp_lt C (off := 65) (tgt := 187) hx5 (c32_cb (Or.inr rfl)) (by decide +kernel) (by decide) (fun hc16_ => ?_) (fun hc16_ => ?_)
          · replace h := ite_t hc16_ h
            refine g_sub (lo2 := [(2, 30), (9, 0), (9, 0), (2, x3), (0, x4), (0, x5), (0, x6), (9, 0)]) (lsb_v (lsb_c (lsb_c (lsb_v (lsb_v (lsb_v (lsb_v (lsb_c lsb_e)))))))) ?_
            exact ok_La_holds_b187 C x3 x4 x5 x6 d hx4 hx5 hx6 h kb k0
          · replace h := ite_f hc16_ h
            refine g_aload_n C 0 rfl (by decide +kernel) ?_
            refine g_getR C cl3 30 10 36 rfl cd_A30 ⟨by decide, rfl, by decide⟩ rfl rfl (nA (by decide)) (ix := 39) lk_241 (by decide +kernel) ?_
            refine g_iload C 5 rfl (by decide +kernel) ?_
            refine g_iconst C 1 (cK rfl) (by decide +kernel) ?_
            refine g_isub C (by decide +kernel) ?_
            refine g_lconst C 1 (v := 1) (by decide) (by decide +kernel) ?_
            refine g_aload_n C 0 rfl (by decide +kernel) ?_
            refine g_getR C cl3 30 10 36 rfl cd_A30 ⟨by decide, rfl, by decide⟩ rfl rfl (nA (by decide)) (ix := 39) lk_241 (by decide +kernel) ?_
            refine g_iload C 5 rfl (by decide +kernel) ?_
            refine g_iconst C 1 (cK rfl) (by decide +kernel) ?_
            refine g_isub C (by decide +kernel) ?_
            obtain ⟨hb17_, h⟩ := ck_some h
            refine g_lald C 36 (w32_c _) rfl cd_A36 (nA (by decide)) hb17_ (by decide +kernel) (fun hc18_ => ?_)
            refine g_lsub C (by decide +kernel) ?_
            obtain ⟨hb19_, h⟩ := ck_some h
            refine g_last C 36 (w64_c _) (w32_c _) rfl cd_A36 (nA (by decide)) hb19_ (by decide +kernel) ?_
            refine g_goto C 187 (off := 42) (by decide +kernel) (by decide) ?_
            refine g_sub (lo2 := [(2, 30), (9, 0), (9, 0), (2, x3), (0, x4), (0, x5), (0, x6), (9, 0)]) (lsb_v (lsb_c (lsb_c (lsb_v (lsb_v (lsb_v (lsb_v (lsb_c lsb_e)))))))) ?_
            exact ok_La_holds_b187 C x3 x4 x5 x6 (up2 d 36 ((w32 (x5 - 1))).toNat (w64 (1 - (d 36 ((w32 (x5 - 1))).toNat)))) hx4 hx5 hx6 h kb k0
        · replace h := ite_f hc15_ h
          refine g_iload C 5 rfl (by decide +kernel) ?_
          refine g_iconst C 2 (cK rfl) (by decide +kernel) ?_
          refine g_icmp_lt C (off := 36) (tgt := 187) hx5 (cK rfl) (by decide +kernel) (by decide) (fun hc20_ => ?_) (fun hc20_ => ?_)
          · replace h := ite_t hc20_ h
            refine g_sub (lo2 := [(2, 30), (9, 0), (9, 0), (2, x3), (0, x4), (0, x5), (0, x6), (9, 0)]) (lsb_v (lsb_c (lsb_c (lsb_v (lsb_v (lsb_v (lsb_v (lsb_c lsb_e)))))))) ?_
            exact ok_La_holds_b187 C x3 x4 x5 x6 d hx4 hx5 hx6 h kb k0
          · replace h := ite_f hc20_ h
            refine s_iinc C 5 (-1) (lo' := [(2, 30), (9, 0), (9, 0), (2, x3), (0, x4), (0, (w32 (x5 + (-1)))), (0, x6), (0, v10_)]) rfl (by decide) (s1k (s1k (s1k (s1k (s1n (by decide) s1z))))) (by decide +kernel) ?_
            refine g_aload_n C 0 rfl (by decide +kernel) ?_
            refine g_getR C cl3 30 10 36 rfl cd_A30 ⟨by decide, rfl, by decide⟩ rfl rfl (nA (by decide)) (ix := 39) lk_241 (by decide +kernel) ?_
            refine g_iload C 5 rfl (by decide +kernel) ?_
            refine g_iconst C 1 (cK rfl) (by decide +kernel) ?_
            refine g_isub C (by decide +kernel) ?_
            refine g_iload C 7 rfl (by decide +kernel) ?_
            refine g_aload_n C 0 rfl (by decide +kernel) ?_
            refine g_getR C cl3 30 10 36 rfl cd_A30 ⟨by decide, rfl, by decide⟩ rfl rfl (nA (by decide)) (ix := 39) lk_241 (by decide +kernel) ?_
            refine g_iload C 5 rfl (by decide +kernel) ?_
            refine g_iconst C 1 (cK rfl) (by decide +kernel) ?_
            refine g_isub C (by decide +kernel) ?_
            obtain ⟨hb21_, h⟩ := ck_some h
            refine g_lald C 36 (w32_c _) rfl cd_A36 (nA (by decide)) hb21_ (by decide +kernel) (fun hc22_ => ?_)
            refine g_aload_n C 0 rfl (by decide +kernel) ?_
            refine g_getR C cl3 30 10 36 rfl cd_A30 ⟨by decide, rfl, by decide⟩ rfl rfl (nA (by decide)) (ix := 39) lk_241 (by decide +kernel) ?_
            refine g_iload C 5 rfl (by decide +kernel) ?_
            obtain ⟨hb23_, h⟩ := ck_some h
            refine g_lald C 36 (w32_c _) rfl cd_A36 (nA (by decide)) hb23_ (by decide +kernel) (fun hc24_ => ?_)
            obtain ⟨r26_, d25_, hr27_, h⟩ := bd_some h
            refine g_callS C mw_La_reckon [(0, v10_), (1, (d 36 ((w32 ((w32 (x5 + (-1))) - 1))).toNat)), (1, (d 36 ((w32 (x5 + (-1)))).toNat))] (ok_La_reckon v10_ (d 36 ((w32 ((w32 (x5 + (-1))) - 1))).toNat) (d 36 ((w32 (x5 + (-1)))).toNat) d hv12_ hc22_ hc24_ hr27_) (ix := 134) lk_954 lk_955 ⟨rfl, rfl, Nat.le_of_ble_eq_true rfl, Nat.le_of_ble_eq_true rfl⟩ rfl (rest := [(0, (w32 ((w32 (x5 + (-1))) - 1))), (2, 36)]) rfl (Nat.le_of_ble_eq_true rfl) ⟨Nat.zero_le _, Nat.zero_le _⟩ (by decide +kernel) (fun _ hc28_ => ?_)
            replace hc28_ : c64 r26_ := hc28_
            refine g_st (st2 := [(1, r26_), (0, (w32 ((w32 (x5 + (-1))) - 1))), (2, 36)]) rfl ?_
            obtain ⟨hb29_, h⟩ := ck_some h
            refine g_last C 36 hc28_ (w32_c _) rfl cd_A36 (nA (by decide)) hb29_ (by decide +kernel) ?_
            refine g_sub (lo2 := [(2, 30), (9, 0), (9, 0), (2, x3), (0, x4), (0, (w32 (x5 + (-1)))), (0, x6), (9, 0)]) (lsb_v (lsb_c (lsb_c (lsb_v (lsb_v (lsb_v (lsb_v (lsb_c lsb_e)))))))) ?_
            exact ok_La_holds_b187 C x3 x4 (w32 (x5 + (-1))) x6 (up2 d25_ 36 ((w32 ((w32 (x5 + (-1))) - 1))).toNat r26_) hx4 (w32_c _) hx6 h kb k0
    · replace h := ite_f hc13_ h
      refine g_sub (lo2 := [(2, 30), (9, 0), (9, 0), (2, x3), (0, x4), (0, x5), (0, x6), (0, v10_)]) (lsb_v (lsb_c (lsb_c (lsb_v (lsb_v (lsb_v (lsb_v (lsb_v lsb_e)))))))) ?_
      exact ok_La_holds_b68 C x3 x4 x5 x6 v10_ d hx4 hx5 hx6 hv12_ h kb k0
  · replace h := ite_f hc6_ h
    refine g_sub (lo2 := [(2, 30), (9, 0), (9, 0), (9, 0), (9, 0), (0, x5), (9, 0), (9, 0)]) (lsb_v (lsb_c (lsb_c (lsb_c (lsb_c (lsb_v (lsb_c (lsb_c lsb_e)))))))) ?_
    obtain rfl := Option.some.inj h
    exact k0 x5 d rfl hx5
set_option maxHeartbeats 4000000 in
theorem ok_La_holds_n40 {p : Program} {l : Launch} {e : Env} {s : State} {m : MethodId} {args : Array Value} {below : List Frame} {meth : Method} {c : Code} {D : va_G} {cA : Nat → ClassId} {ad : Nat → Nat} {A : Nat → Prop} (C : Cx p s m args c prog_5_method_20_code 8 "PollBooks$Laws" D cA ad 0 A) {Q : State → Prop} {x : (Int × Dt)} : ∀ (n : Nat) (x3 x4 x5 x6 : Int) (d : Dt), c32 x4 → c32 x5 → c32 x6 → lpF (fun q : Int × Int × Int × Int × Dt => L_La_holds_y40 q.1 q.2.1 q.2.2.1 q.2.2.2.1 q.2.2.2.2) n (x3, x4, x5, x6, d) = some x → (∀ (y0 : Int) (e' : Dt), x = (y0, e') → c32 y0 → G p l e rm_La_holds s m args below meth c 0 0 Q 8 D cA ad 0 A 193 [(2, 30), (9, 0), (9, 0), (9, 0), (9, 0), (0, y0), (9, 0), (9, 0)] [] e') → G p l e rm_La_holds s m args below meth c 0 0 Q 8 D cA ad 0 A 40 [(2, 30), (9, 0), (9, 0), (2, x3), (0, x4), (0, x5), (0, x6), (9, 0)] [] d := by
  intro n
  induction n with
  | zero => intro x3 x4 x5 x6 d g0 g1 g2 h k0; cases h
  | succ n ih =>
    intro x3 x4 x5 x6 d g0 g1 g2 h k0
    rcases lpF_some h with h | ⟨⟨v0_, v1_, v2_, v3_, e0_⟩, h1, h⟩
    · exact ok_La_holds_y40 C x3 x4 x5 x6 d g0 g1 g2 h (fun z0_ z1_ z2_ z3_ e1_ eq w0_ w1_ w2_ => by cases eq) (fun z0_ e1_ eq w0_ => k0 _ _ (by cases eq; rfl) w0_)
    · exact ok_La_holds_y40 C x3 x4 x5 x6 d g0 g1 g2 h1 (fun z0_ z1_ z2_ z3_ e1_ eq w0_ w1_ w2_ => by cases eq; exact ih _ _ _ _ _ w0_ w1_ w2_ h k0) (fun z0_ e1_ eq w0_ => by cases eq)
set_option maxHeartbeats 4000000 in
theorem ok_La_holds_l40 {p : Program} {l : Launch} {e : Env} {s : State} {m : MethodId} {args : Array Value} {below : List Frame} {meth : Method} {c : Code} {D : va_G} {cA : Nat → ClassId} {ad : Nat → Nat} {A : Nat → Prop} (C : Cx p s m args c prog_5_method_20_code 8 "PollBooks$Laws" D cA ad 0 A) {Q : State → Prop} {x : (Int × Dt)} (x3 x4 x5 x6 : Int) (d : Dt) (hx4 : c32 x4) (hx5 : c32 x5) (hx6 : c32 x6) (h : L_La_holds_l40 x3 x4 x5 x6 d = some x) (k0 : ∀ (y0 : Int) (e' : Dt), x = (y0, e') → c32 y0 → G p l e rm_La_holds s m args below meth c 0 0 Q 8 D cA ad 0 A 193 [(2, 30), (9, 0), (9, 0), (9, 0), (9, 0), (0, y0), (9, 0), (9, 0)] [] e') : G p l e rm_La_holds s m args below meth c 0 0 Q 8 D cA ad 0 A 40 [(2, 30), (9, 0), (9, 0), (2, x3), (0, x4), (0, x5), (0, x6), (9, 0)] [] d :=
  ok_La_holds_n40 C FU x3 x4 x5 x6 d hx4 hx5 hx6 h k0
set_option maxHeartbeats 4000000 in
theorem ok_La_holds {l : Launch} {r : Int} {d' : Dt} (p1 : Int) (d : Dt) (hp1 : c32 p1) (h : L_La_holds p1 d = some (r, d')) : MC l y_La_holds prog_5_method_20_code 8 (some .boolean) rm_La_holds 0 [(2, 30), (0, p1)] d (some (0, r)) d' := by
  refine MC.of (by decide) (Nat.le_of_ble_eq_true rfl) ?_
  intro p e s m args below meth c D cA ad A C hlk hr
  replace C : Cx p s m args c prog_5_method_20_code 8 "PollBooks$Laws" D cA ad 0 A := C
  show G p l e rm_La_holds s m args below meth c 0 0 (MQ below (fun _ => QC D cA ad 0 A (some .boolean) (some (0, r)) d') args s 0 0 A) 8 D cA ad 0 A 0 [(2, 30), (0, p1)] [] d
  refine g_sub (lo2 := [(2, 30), (0, p1), (9, 0), (9, 0), (9, 0), (9, 0), (9, 0), (9, 0)]) (lsb_v (lsb_v (lsb_n (lsb_n (lsb_n (lsb_n (lsb_n (lsb_n lsb_e)))))))) ?_
  unfold L_La_holds at h
  refine g_aload_n C 0 rfl (by decide +kernel) ?_
  refine g_getR C cl3 30 3 32 rfl cd_A30 ⟨by decide, rfl, by decide⟩ rfl rfl (nA (by decide)) (ix := 17) lk_234 (by decide +kernel) ?_
  refine g_iload_n C 1 rfl (by decide +kernel) ?_
  obtain ⟨hb30_, h⟩ := ck_some h
  refine g_aald C 32 hp1 rfl cd_A32 (nA (by decide)) hb30_ (by decide +kernel) ?_
  refine s_astore_n C 2 (lo' := [(2, 30), (0, p1), (2, (d 32 p1.toNat)), (9, 0), (9, 0), (9, 0), (9, 0), (9, 0)]) (by decide) (s1k (s1n (by decide) s1z)) (by decide +kernel) ?_
  refine g_aload_n C 2 rfl (by decide +kernel) ?_
  refine g_ifnonnull C (off := 5) (tgt := 13) (by decide +kernel) (by decide) (fun hc31_ => ?_) (fun hc31_ => ?_)
  · replace h := ite_t hc31_ h
    refine g_iconst C 0 (cK rfl) (by decide +kernel) ?_
    obtain ⟨rfl, rfl⟩ := ret_inj h
    exact g_zret C (Or.inl rfl) hlk hr (by decide +kernel)
  · replace h := ite_f hc31_ h
    refine g_aload_n C 2 rfl (by decide +kernel) ?_
    obtain ⟨hs32_, h⟩ := ck_some h
    refine g_getRN C cl9 ((d 32 p1.toNat).toNat + 0) 9 ((d 32 p1.toNat) + 6) (stt_ko0 hs32_) (stt_cd hs32_ 0 (by decide)) ⟨by decide, rfl, by decide⟩ rfl (stt_ko hs32_ 6).symm (stt_n hs32_ 0 (by decide)) (ix := 125) lk_172 (by decide +kernel) ?_
    refine s_astore_n C 3 (lo' := [(2, 30), (0, p1), (2, (d 32 p1.toNat)), (2, ((d 32 p1.toNat) + 6)), (9, 0), (9, 0), (9, 0), (9, 0)]) (by decide) (s1k (s1k (s1n (by decide) s1z))) (by decide +kernel) ?_
    refine g_aload_n C 0 rfl (by decide +kernel) ?_
    refine g_iload_n C 1 rfl (by decide +kernel) ?_
    obtain ⟨r34_, d33_, hr35_, h⟩ := bd_some h
    refine g_callV C mw_La_secondNumber [(0, p1)] 30 cl3 rfl (ok_La_secondNumber p1 d hp1 hr35_) cd_A30 (by decide) (nA (by decide)) (ix := 118) lk_940 lk_942 lkp_32 ⟨rfl, rfl, Nat.le_of_ble_eq_true rfl, Nat.le_of_ble_eq_true rfl⟩ rfl (rest := []) rfl (Nat.le_of_ble_eq_true rfl) ⟨Nat.zero_le _, Nat.zero_le _⟩ (by decide +kernel) (fun _ hc36_ => ?_)
    replace hc36_ : c32 r34_ := hc36_
    refine g_st (st2 := [(0, r34_)]) rfl ?_
    refine g_aload_n C 3 rfl (by decide +kernel) ?_
    obtain ⟨hs37_, h⟩ := ck_some h
    refine g_alen C ((d 32 p1.toNat).toNat + 6) (stt_ko hs37_ 6) (stt_cd hs37_ 6 (by decide)) (by decide) (stt_n hs37_ 6 (by decide)) (v := 600) rfl (by decide +kernel) ?_
    refine g_mmin C hc36_ (cK rfl) (ix := 128) lk_953 lk_601 lk_16 lk_602 ⟨Nat.le_of_ble_eq_true rfl, Nat.le_of_ble_eq_true rfl, Nat.zero_le _, Nat.zero_le _⟩ (Nat.le_of_ble_eq_true rfl) (by decide +kernel) ?_
    obtain ⟨v38_, ev39_, h⟩ := lt_some h
    refine g_val ev39_.symm ?_
    have hv40_ : c32 v38_ := by rw [ev39_]; exact (jmin_c hc36_ (cK rfl))
    refine s_istore C 4 (lo' := [(2, 30), (0, p1), (2, (d 32 p1.toNat)), (2, ((d 32 p1.toNat) + 6)), (0, v38_), (9, 0), (9, 0), (9, 0)]) (by decide) (s1k (s1k (s1k (s1n (by decide) s1z)))) (by decide +kernel) ?_
    refine g_iconst C 0 (cK rfl) (by decide +kernel) ?_
    refine s_istore C 5 (lo' := [(2, 30), (0, p1), (2, (d 32 p1.toNat)), (2, ((d 32 p1.toNat) + 6)), (0, v38_), (0, 0), (9, 0), (9, 0)]) (by decide) (s1k (s1k (s1k (s1k (s1n (by decide) s1z))))) (by decide +kernel) ?_
    refine g_aload_n C 0 rfl (by decide +kernel) ?_
    refine g_iload_n C 1 rfl (by decide +kernel) ?_
    obtain ⟨r42_, d41_, hr43_, h⟩ := bd_some h
    refine g_callV C mw_La_firstNumber [(0, p1)] 30 cl3 rfl (ok_La_firstNumber p1 d33_ hp1 hr43_) cd_A30 (by decide) (nA (by decide)) (ix := 72) lk_936 lk_938 lkp_31 ⟨rfl, rfl, Nat.le_of_ble_eq_true rfl, Nat.le_of_ble_eq_true rfl⟩ rfl (rest := []) rfl (Nat.le_of_ble_eq_true rfl) ⟨Nat.zero_le _, Nat.zero_le _⟩ (by decide +kernel) (fun _ hc44_ => ?_)
    replace hc44_ : c32 r42_ := hc44_
    refine g_st (st2 := [(0, r42_)]) rfl ?_
    refine s_istore C 6 (lo' := [(2, 30), (0, p1), (2, (d 32 p1.toNat)), (2, ((d 32 p1.toNat) + 6)), (0, v38_), (0, 0), (0, r42_), (9, 0)]) (by decide) (s1k (s1k (s1k (s1k (s1k (s1n (by decide) s1z)))))) (by decide +kernel) ?_
    refine g_sub (lo2 := [(2, 30), (9, 0), (9, 0), (2, ((d 32 p1.toNat) + 6)), (0, v38_), (0, 0), (0, r42_), (9, 0)]) (lsb_v (lsb_c (lsb_c (lsb_v (lsb_v (lsb_v (lsb_v (lsb_c lsb_e)))))))) ?_
    obtain ⟨x45_, hx46_, h⟩ := lb_some h
    refine ok_La_holds_l40 C ((d 32 p1.toNat) + 6) v38_ 0 r42_ d41_ hv40_ (c32_cb (Or.inl rfl)) hc44_ hx46_ (fun v47_ d48_ eq49_ hv47_ => ?_)
    subst eq49_
    replace h := u1_e h
    refine g_iload C 5 rfl (by decide +kernel) ?_
    refine g_if_le C (off := 21) (tgt := 216) hv47_ (by decide +kernel) (by decide) (fun hc50_ => ?_) (fun hc50_ => ?_)
    · replace h := ite_t hc50_ h
      refine g_aload_n C 0 rfl (by decide +kernel) ?_
      refine g_getR C cl3 30 10 36 rfl cd_A30 ⟨by decide, rfl, by decide⟩ rfl rfl (nA (by decide)) (ix := 39) lk_241 (by decide +kernel) ?_
      refine g_iload C 5 rfl (by decide +kernel) ?_
      refine g_iconst C 1 (cK rfl) (by decide +kernel) ?_
      refine g_isub C (by decide +kernel) ?_
      obtain ⟨hb51_, h⟩ := ck_some h
      refine g_lald C 36 (w32_c _) rfl cd_A36 (nA (by decide)) hb51_ (by decide +kernel) (fun hc52_ => ?_)
      refine g_lconst C 0 (v := 0) (by decide) (by decide +kernel) ?_
      refine g_lc_eq C (off := 7) (tgt := 216) hc52_ (cL rfl) (by decide +kernel) (by decide +kernel) (by decide) (fun hc53_ => ?_) (fun hc53_ => ?_)
      · replace h := ite_t hc53_ h
        refine g_iconst C 0 (cK rfl) (by decide +kernel) ?_
        obtain ⟨rfl, rfl⟩ := ret_inj h
        exact g_zret C (Or.inl rfl) hlk hr (by decide +kernel)
      · replace h := ite_f hc53_ h
        refine g_iconst C 1 (cK rfl) (by decide +kernel) ?_
        refine g_goto C 217 (off := 4) (by decide +kernel) (by decide) ?_
        obtain ⟨rfl, rfl⟩ := ret_inj h
        exact g_zret C (Or.inr rfl) hlk hr (by decide +kernel)
    · replace h := ite_f hc50_ h
      refine g_iconst C 0 (cK rfl) (by decide +kernel) ?_
      obtain ⟨rfl, rfl⟩ := ret_inj h
      exact g_zret C (Or.inl rfl) hlk hr (by decide +kernel)
/-! PollBooks$Laws.firstHolding(I)I -/
def y_La_firstHolding : MethodName := ⟨"PollBooks$Laws", "firstHolding", "(I)I"⟩
def rm_La_firstHolding : Room := { frames := 2, cells := 0, slots := 0, locals := 51 }
theorem mw_La_firstHolding : MW y_La_firstHolding prog_5_method_16_code 3 (some .int) 1 := ⟨lk_948, lk_8, by decide +kernel⟩
def L_La_firstHolding_b29 (x1 x2 : Int) (d : Dt) : Option ((Int × Int × Dt) ⊕ ((Dt) ⊕ (Int × Dt))) :=
  some (Sum.inl (x1, (w32 (x2 + 1)), d))
def L_La_firstHolding_y2 (x1 x2 : Int) (d : Dt) : Option ((Int × Int × Dt) ⊕ ((Dt) ⊕ (Int × Dt))) :=
  if x2 < (d 30 6) then bd (L_La_says x2 x1 d) (fun r4_ d3_ => if r4_ = 0 then L_La_firstHolding_b29 x1 x2 d3_ else bd (L_La_holds x2 d3_) (fun r9_ d8_ => if r9_ = 0 then L_La_firstHolding_b29 x1 x2 d8_ else some (Sum.inr (Sum.inr (x2, d8_))))) else some (Sum.inr (Sum.inl (d)))
def L_La_firstHolding_l2 (x1 x2 : Int) (d : Dt) : Option ((Dt) ⊕ (Int × Dt)) := lpF (fun q : Int × Int × Dt => L_La_firstHolding_y2 q.1 q.2.1 q.2.2) FU (x1, x2, d)
def L_La_firstHolding (p1 : Int) (d : Dt) : Option (Int × Dt) :=
  lb (L_La_firstHolding_l2 p1 0 d) (fun q20_ => sm q20_ (fun q21_ => u0 q21_ (fun d15_ => some ((-1), d15_))) (fun q22_ => u1 q22_ (fun v17_ d18_ => some (v17_, d18_))))
set_option maxHeartbeats 4000000 in
theorem ok_La_firstHolding_b29 {p : Program} {l : Launch} {e : Env} {s : State} {m : MethodId} {args : Array Value} {below : List Frame} {meth : Method} {c : Code} {D : va_G} {cA : Nat → ClassId} {ad : Nat → Nat} {A : Nat → Prop} (C : Cx p s m args c prog_5_method_16_code 3 "PollBooks$Laws" D cA ad 0 A) {Q : State → Prop} {o : (Int × Int × Dt) ⊕ ((Dt) ⊕ (Int × Dt))} (x1 x2 : Int) (d : Dt) (hx1 : c32 x1) (hx2 : c32 x2) (h : L_La_firstHolding_b29 x1 x2 d = some o) (kb : ∀ (y0 y1 : Int) (e' : Dt), o = .inl (y0, y1, e') → c32 y0 → c32 y1 → G p l e rm_La_firstHolding s m args below meth c 0 0 Q 3 D cA ad 0 A 2 [(2, 30), (0, y0), (0, y1)] [] e') (k0 : ∀ (e' : Dt), o = .inr (Sum.inl (e')) → G p l e rm_La_firstHolding s m args below meth c 0 0 Q 3 D cA ad 0 A 35 [(9, 0), (9, 0), (9, 0)] [] e') (k1 : ∀ (y0 : Int) (e' : Dt), o = .inr (Sum.inr (y0, e')) → c32 y0 → G p l e rm_La_firstHolding s m args below meth c 0 0 Q 3 D cA ad 0 A 27 [(9, 0), (9, 0), (0, y0)] [] e') : G p l e rm_La_firstHolding s m args below meth c 0 0 Q 3 D cA ad 0 A 29 [(2, 30), (0, x1), (0, x2)] [] d := by
  unfold L_La_firstHolding_b29 at h
  refine s_iinc C 2 1 (lo' := [(2, 30), (0, x1), (0, (w32 (x2 + 1)))]) rfl (by decide) (s1k (s1n (by decide) s1z)) (by decide +kernel) ?_
  refine g_goto C 2 (off := (-30)) (by decide +kernel) (by decide) ?_
  refine g_sub (lo2 := [(2, 30), (0, x1), (0, (w32 (x2 + 1)))]) (lsb_v (lsb_v (lsb_v lsb_e))) ?_
  obtain rfl := Option.some.inj h
  exact kb x1 (w32 (x2 + 1)) d rfl hx1 (w32_c _)
set_option maxHeartbeats 4000000 in
theorem ok_La_firstHolding_y2 {p : Program} {l : Launch} {e : Env} {s : State} {m : MethodId} {args : Array Value} {below : List Frame} {meth : Method} {c : Code} {D : va_G} {cA : Nat → ClassId} {ad : Nat → Nat} {A : Nat → Prop} (C : Cx p s m args c prog_5_method_16_code 3 "PollBooks$Laws" D cA ad 0 A) {Q : State → Prop} {o : (Int × Int × Dt) ⊕ ((Dt) ⊕ (Int × Dt))} (x1 x2 : Int) (d : Dt) (hx1 : c32 x1) (hx2 : c32 x2) (h : L_La_firstHolding_y2 x1 x2 d = some o) (kb : ∀ (y0 y1 : Int) (e' : Dt), o = .inl (y0, y1, e') → c32 y0 → c32 y1 → G p l e rm_La_firstHolding s m args below meth c 0 0 Q 3 D cA ad 0 A 2 [(2, 30), (0, y0), (0, y1)] [] e') (k0 : ∀ (e' : Dt), o = .inr (Sum.inl (e')) → G p l e rm_La_firstHolding s m args below meth c 0 0 Q 3 D cA ad 0 A 35 [(9, 0), (9, 0), (9, 0)] [] e') (k1 : ∀ (y0 : Int) (e' : Dt), o = .inr (Sum.inr (y0, e')) → c32 y0 → G p l e rm_La_firstHolding s m args below meth c 0 0 Q 3 D cA ad 0 A 27 [(9, 0), (9, 0), (0, y0)] [] e') : G p l e rm_La_firstHolding s m args below meth c 0 0 Q 3 D cA ad 0 A 2 [(2, 30), (0, x1), (0, x2)] [] d := by
  unfold L_La_firstHolding_y2 at h
  refine g_iload_n C 2 rfl (by decide +kernel) ?_
  refine g_aload_n C 0 rfl (by decide +kernel) ?_
  refine g_getI C cl3 30 6 rfl cd_A30 ⟨by decide, rfl, by decide⟩ rfl (nA (by decide)) (ix := 63) lk_237 (by decide +kernel) (fun hc1_ => ?_)
  refine g_icmp_ge C (off := 28) (tgt := 35) hx2 hc1_ (by decide +kernel) (by decide) (fun hc2_ => ?_) (fun hc2_ => ?_)
  · replace h := ite_t hc2_ h
    refine g_aload_n C 0 rfl (by decide +kernel) ?_
    refine g_iload_n C 2 rfl (by decide +kernel) ?_
    refine g_iload_n C 1 rfl (by decide +kernel) ?_
    obtain ⟨r4_, d3_, hr5_, h⟩ := bd_some h
    refine g_callV C mw_La_says [(0, x2), (0, x1)] 30 cl3 rfl (ok_La_says x2 x1 d hx2 hx1 hr5_) cd_A30 (by decide) (nA (by decide)) (ix := 106) lk_932 lk_934 lkp_30 ⟨rfl, rfl, Nat.le_of_ble_eq_true rfl, Nat.le_of_ble_eq_true rfl⟩ rfl (rest := []) rfl (Nat.le_of_ble_eq_true rfl) ⟨Nat.zero_le _, Nat.zero_le _⟩ (by decide +kernel) (fun _ hc6_ => ?_)
    replace hc6_ : cb r4_ := hc6_
    refine g_st (st2 := [(0, r4_)]) rfl ?_
    refine g_if_eq C (off := 13) (tgt := 29) (c32_cb hc6_) (by decide +kernel) (by decide) (fun hc7_ => ?_) (fun hc7_ => ?_)
    · replace h := ite_t hc7_ h
      refine g_sub (lo2 := [(2, 30), (0, x1), (0, x2)]) (lsb_v (lsb_v (lsb_v lsb_e))) ?_
      exact ok_La_firstHolding_b29 C x1 x2 d3_ hx1 hx2 h kb k0 k1
    · replace h := ite_f hc7_ h
      refine g_aload_n C 0 rfl (by decide +kernel) ?_
      refine g_iload_n C 2 rfl (by decide +kernel) ?_
      obtain ⟨r9_, d8_, hr10_, h⟩ := bd_some h
      refine g_callV C mw_La_holds [(0, x2)] 30 cl3 rfl (ok_La_holds x2 d3_ hx2 hr10_) cd_A30 (by decide) (nA (by decide)) (ix := 109) lk_949 lk_951 lkp_34 ⟨rfl, rfl, Nat.le_of_ble_eq_true rfl, Nat.le_of_ble_eq_true rfl⟩ rfl (rest := []) rfl (Nat.le_of_ble_eq_true rfl) ⟨Nat.zero_le _, Nat.zero_le _⟩ (by decide +kernel) (fun _ hc11_ => ?_)
      replace hc11_ : cb r9_ := hc11_
      refine g_st (st2 := [(0, r9_)]) rfl ?_
      refine g_if_eq C (off := 5) (tgt := 29) (c32_cb hc11_) (by decide +kernel) (by decide) (fun hc12_ => ?_) (fun hc12_ => ?_)
      · replace h := ite_t hc12_ h
        refine g_sub (lo2 := [(2, 30), (0, x1), (0, x2)]) (lsb_v (lsb_v (lsb_v lsb_e))) ?_
        exact ok_La_firstHolding_b29 C x1 x2 d8_ hx1 hx2 h kb k0 k1
      · replace h := ite_f hc12_ h
        refine g_sub (lo2 := [(9, 0), (9, 0), (0, x2)]) (lsb_c (lsb_c (lsb_v lsb_e))) ?_
        obtain rfl := Option.some.inj h
        exact k1 x2 d8_ rfl hx2
  · replace h := ite_f hc2_ h
    refine g_sub (lo2 := [(9, 0), (9, 0), (9, 0)]) (lsb_c (lsb_c (lsb_c lsb_e))) ?_
    obtain rfl := Option.some.inj h
    exact k0 d rfl 
set_option maxHeartbeats 4000000 in
theorem ok_La_firstHolding_n2 {p : Program} {l : Launch} {e : Env} {s : State} {m : MethodId} {args : Array Value} {below : List Frame} {meth : Method} {c : Code} {D : va_G} {cA : Nat → ClassId} {ad : Nat → Nat} {A : Nat → Prop} (C : Cx p s m args c prog_5_method_16_code 3 "PollBooks$Laws" D cA ad 0 A) {Q : State → Prop} {x : (Dt) ⊕ (Int × Dt)} : ∀ (n : Nat) (x1 x2 : Int) (d : Dt), c32 x1 → c32 x2 → lpF (fun q : Int × Int × Dt => L_La_firstHolding_y2 q.1 q.2.1 q.2.2) n (x1, x2, d) = some x → (∀ (e' : Dt), x = (Sum.inl (e')) → G p l e rm_La_firstHolding s m args below meth c 0 0 Q 3 D cA ad 0 A 35 [(9, 0), (9, 0), (9, 0)] [] e') → (∀ (y0 : Int) (e' : Dt), x = (Sum.inr (y0, e')) → c32 y0 → G p l e rm_La_firstHolding s m args below meth c 0 0 Q 3 D cA ad 0 A 27 [(9, 0), (9, 0), (0, y0)] [] e') → G p l e rm_La_firstHolding s m args below meth c 0 0 Q 3 D cA ad 0 A 2 [(2, 30), (0, x1), (0, x2)] [] d := by
  intro n
  induction n with
  | zero => intro x1 x2 d g0 g1 h k0 k1; cases h
  | succ n ih =>
    intro x1 x2 d g0 g1 h k0 k1
    rcases lpF_some h with h | ⟨⟨v0_, v1_, e0_⟩, h1, h⟩
    · exact ok_La_firstHolding_y2 C x1 x2 d g0 g1 h (fun z0_ z1_ e1_ eq w0_ w1_ => by cases eq) (fun e1_ eq => k0 _ (by cases eq; rfl) ) (fun z0_ e1_ eq w0_ => k1 _ _ (by cases eq; rfl) w0_)
    · exact ok_La_firstHolding_y2 C x1 x2 d g0 g1 h1 (fun z0_ z1_ e1_ eq w0_ w1_ => by cases eq; exact ih _ _ _ w0_ w1_ h k0 k1) (fun e1_ eq => by cases eq) (fun z0_ e1_ eq w0_ => by cases eq)
set_option maxHeartbeats 4000000 in
theorem ok_La_firstHolding_l2 {p : Program} {l : Launch} {e : Env} {s : State} {m : MethodId} {args : Array Value} {below : List Frame} {meth : Method} {c : Code} {D : va_G} {cA : Nat → ClassId} {ad : Nat → Nat} {A : Nat → Prop} (C : Cx p s m args c prog_5_method_16_code 3 "PollBooks$Laws" D cA ad 0 A) {Q : State → Prop} {x : (Dt) ⊕ (Int × Dt)} (x1 x2 : Int) (d : Dt) (hx1 : c32 x1) (hx2 : c32 x2) (h : L_La_firstHolding_l2 x1 x2 d = some x) (k0 : ∀ (e' : Dt), x = (Sum.inl (e')) → G p l e rm_La_firstHolding s m args below meth c 0 0 Q 3 D cA ad 0 A 35 [(9, 0), (9, 0), (9, 0)] [] e') (k1 : ∀ (y0 : Int) (e' : Dt), x = (Sum.inr (y0, e')) → c32 y0 → G p l e rm_La_firstHolding s m args below meth c 0 0 Q 3 D cA ad 0 A 27 [(9, 0), (9, 0), (0, y0)] [] e') : G p l e rm_La_firstHolding s m args below meth c 0 0 Q 3 D cA ad 0 A 2 [(2, 30), (0, x1), (0, x2)] [] d :=
  ok_La_firstHolding_n2 C FU x1 x2 d hx1 hx2 h k0 k1
set_option maxHeartbeats 4000000 in
theorem ok_La_firstHolding {l : Launch} {r : Int} {d' : Dt} (p1 : Int) (d : Dt) (hp1 : c32 p1) (h : L_La_firstHolding p1 d = some (r, d')) : MC l y_La_firstHolding prog_5_method_16_code 3 (some .int) rm_La_firstHolding 0 [(2, 30), (0, p1)] d (some (0, r)) d' := by
  refine MC.of (by decide) (Nat.le_of_ble_eq_true rfl) ?_
  intro p e s m args below meth c D cA ad A C hlk hr
  replace C : Cx p s m args c prog_5_method_16_code 3 "PollBooks$Laws" D cA ad 0 A := C
  show G p l e rm_La_firstHolding s m args below meth c 0 0 (MQ below (fun _ => QC D cA ad 0 A (some .int) (some (0, r)) d') args s 0 0 A) 3 D cA ad 0 A 0 [(2, 30), (0, p1)] [] d
  refine g_sub (lo2 := [(2, 30), (0, p1), (9, 0)]) (lsb_v (lsb_v (lsb_n lsb_e))) ?_
  unfold L_La_firstHolding at h
  refine g_iconst C 0 (cK rfl) (by decide +kernel) ?_
  refine s_istore_n C 2 (lo' := [(2, 30), (0, p1), (0, 0)]) (by decide) (s1k (s1n (by decide) s1z)) (by decide +kernel) ?_
  refine g_sub (lo2 := [(2, 30), (0, p1), (0, 0)]) (lsb_v (lsb_v (lsb_v lsb_e))) ?_
  obtain ⟨x13_, hx14_, h⟩ := lb_some h
  refine ok_La_firstHolding_l2 C p1 0 d hp1 (c32_cb (Or.inl rfl)) hx14_ (fun d15_ eq16_ => ?_) (fun v17_ d18_ eq19_ hv17_ => ?_)
  · subst eq16_
    replace h := sml_e h
    replace h := u0_e h
    refine g_iconst C (-1) (cK rfl) (by decide +kernel) ?_
    obtain ⟨rfl, rfl⟩ := ret_inj h
    exact g_iret C (cK rfl) hlk hr (by decide +kernel)
  · subst eq19_
    replace h := smr_e h
    replace h := u1_e h
    refine g_iload_n C 2 rfl (by decide +kernel) ?_
    obtain ⟨rfl, rfl⟩ := ret_inj h
    exact g_iret C hv17_ hlk hr (by decide +kernel)
/-! PollBooks$Laws.rightNow()I -/
def y_La_rightNow : MethodName := ⟨"PollBooks$Laws", "rightNow", "()I"⟩
def rm_La_rightNow : Room := { frames := 3, cells := 0, slots := 0, locals := 73 }
theorem mw_La_rightNow : MW y_La_rightNow prog_5_method_9_code 1 (some .int) 0 := ⟨lk_923, lk_8, by decide +kernel⟩
def L_La_rightNow (d : Dt) : Option (Int × Dt) :=
  bd (L_La_closedBy d) (fun r2_ d1_ => if r2_ = (-1) then bd (L_La_firstHolding 19 d1_) (fun r7_ d6_ => if r7_ = (-1) then bd (L_La_firstHolding 17 d6_) (fun r12_ d11_ => if r12_ = (-1) then some (2, d11_) else some (0, d11_)) else some (3, d6_)) else some (1, d1_))
set_option maxHeartbeats 4000000 in
theorem ok_La_rightNow {l : Launch} {r : Int} {d' : Dt} (d : Dt)  (h : L_La_rightNow d = some (r, d')) : MC l y_La_rightNow prog_5_method_9_code 1 (some .int) rm_La_rightNow 0 [(2, 30)] d (some (0, r)) d' := by
  refine MC.of (by decide) (Nat.le_of_ble_eq_true rfl) ?_
  intro p e s m args below meth c D cA ad A C hlk hr
  replace C : Cx p s m args c prog_5_method_9_code 1 "PollBooks$Laws" D cA ad 0 A := C
  show G p l e rm_La_rightNow s m args below meth c 0 0 (MQ below (fun _ => QC D cA ad 0 A (some .int) (some (0, r)) d') args s 0 0 A) 1 D cA ad 0 A 0 [(2, 30)] [] d
  refine g_sub (lo2 := [(2, 30)]) (lsb_v lsb_e) ?_
  unfold L_La_rightNow at h
  refine g_aload_n C 0 rfl (by decide +kernel) ?_
  obtain ⟨r2_, d1_, hr3_, h⟩ := bd_some h
  refine g_callV C mw_La_closedBy [] 30 cl3 rfl (ok_La_closedBy  d  hr3_) cd_A30 (by decide) (nA (by decide)) (ix := 81) lk_924 lk_926 lkp_28 ⟨rfl, rfl, Nat.le_of_ble_eq_true rfl, Nat.le_of_ble_eq_true rfl⟩ rfl (rest := []) rfl (Nat.le_of_ble_eq_true rfl) ⟨Nat.zero_le _, Nat.zero_le _⟩ (by decide +kernel) (fun _ hc4_ => ?_)
  replace hc4_ : c32 r2_ := hc4_
  refine g_st (st2 := [(0, r2_)]) rfl ?_
  refine g_iconst C (-1) (cK rfl) (by decide +kernel) ?_
  refine g_icmp_eq C (off := 5) (tgt := 10) hc4_ (cK rfl) (by decide +kernel) (by decide) (fun hc5_ => ?_) (fun hc5_ => ?_)
  · replace h := ite_t hc5_ h
    refine g_aload_n C 0 rfl (by decide +kernel) ?_
    refine g_bipush C 19 (by decide) (by decide +kernel) ?_
    obtain ⟨r7_, d6_, hr8_, h⟩ := bd_some h
    refine g_callV C mw_La_firstHolding [(0, 19)] 30 cl3 rfl (ok_La_firstHolding 19 d1_ (cK rfl) hr8_) cd_A30 (by decide) (nA (by decide)) (ix := 85) lk_945 lk_947 lkp_33 ⟨rfl, rfl, Nat.le_of_ble_eq_true rfl, Nat.le_of_ble_eq_true rfl⟩ rfl (rest := []) rfl (Nat.le_of_ble_eq_true rfl) ⟨Nat.zero_le _, Nat.zero_le _⟩ (by decide +kernel) (fun _ hc9_ => ?_)
    replace hc9_ : c32 r7_ := hc9_
    refine g_st (st2 := [(0, r7_)]) rfl ?_
    refine g_iconst C (-1) (cK rfl) (by decide +kernel) ?_
    refine g_icmp_eq C (off := 5) (tgt := 22) hc9_ (cK rfl) (by decide +kernel) (by decide) (fun hc10_ => ?_) (fun hc10_ => ?_)
    · replace h := ite_t hc10_ h
      refine g_aload_n C 0 rfl (by decide +kernel) ?_
      refine g_bipush C 17 (by decide) (by decide +kernel) ?_
      obtain ⟨r12_, d11_, hr13_, h⟩ := bd_some h
      refine g_callV C mw_La_firstHolding [(0, 17)] 30 cl3 rfl (ok_La_firstHolding 17 d6_ (cK rfl) hr13_) cd_A30 (by decide) (nA (by decide)) (ix := 85) lk_945 lk_947 lkp_33 ⟨rfl, rfl, Nat.le_of_ble_eq_true rfl, Nat.le_of_ble_eq_true rfl⟩ rfl (rest := []) rfl (Nat.le_of_ble_eq_true rfl) ⟨Nat.zero_le _, Nat.zero_le _⟩ (by decide +kernel) (fun _ hc14_ => ?_)
      replace hc14_ : c32 r12_ := hc14_
      refine g_st (st2 := [(0, r12_)]) rfl ?_
      refine g_iconst C (-1) (cK rfl) (by decide +kernel) ?_
      refine g_icmp_ne C (off := 7) (tgt := 36) hc14_ (cK rfl) (by decide +kernel) (by decide) (fun hc15_ => ?_) (fun hc15_ => ?_)
      · replace h := ite_t hc15_ h
        refine g_iconst C 2 (cK rfl) (by decide +kernel) ?_
        refine g_goto C 37 (off := 4) (by decide +kernel) (by decide) ?_
        obtain ⟨rfl, rfl⟩ := ret_inj h
        exact g_iret C (cK rfl) hlk hr (by decide +kernel)
      · replace h := ite_f hc15_ h
        refine g_iconst C 0 (cK rfl) (by decide +kernel) ?_
        obtain ⟨rfl, rfl⟩ := ret_inj h
        exact g_iret C (c32_cb (Or.inl rfl)) hlk hr (by decide +kernel)
    · replace h := ite_f hc10_ h
      refine g_iconst C 3 (cK rfl) (by decide +kernel) ?_
      obtain ⟨rfl, rfl⟩ := ret_inj h
      exact g_iret C (cK rfl) hlk hr (by decide +kernel)
  · replace h := ite_f hc5_ h
    refine g_iconst C 1 (cK rfl) (by decide +kernel) ?_
    obtain ⟨rfl, rfl⟩ := ret_inj h
    exact g_iret C (c32_cb (Or.inr rfl)) hlk hr (by decide +kernel)
/-! PollBooks.right(IIII)I -/
def y_PB_right : MethodName := ⟨"PollBooks", "right", "(IIII)I"⟩
def rm_PB_right : Room := { frames := 4, cells := 0, slots := 0, locals := 104 }
theorem mw_PB_right : MW y_PB_right prog_1_method_22_code 5 (some .int) 4 := ⟨lk_906, lk_1, by decide +kernel⟩
def L_PB_right (p1 p2 p3 p4 : Int) (d : Dt) : Option (Int × Dt) :=
  bd (L_PB_comerStatus p1 p2 p3 p4 d) (fun r2_ d1_ => if r2_ = 0 then bd (L_La_bring p1 p2 p3 p4 (up2 d1_ 0 0 r2_)) (fun r8_ d7_ => bd (L_La_rightNow d7_) (fun r12_ d11_ => some (r12_, d11_))) else some ((-1), (up2 d1_ 0 0 r2_)))
set_option maxHeartbeats 4000000 in
theorem ok_PB_right {l : Launch} {r : Int} {d' : Dt} (p1 p2 p3 p4 : Int) (d : Dt) (hp1 : c32 p1) (hp2 : c32 p2) (hp3 : c32 p3) (hp4 : c32 p4) (h : L_PB_right p1 p2 p3 p4 d = some (r, d')) : MC l y_PB_right prog_1_method_22_code 5 (some .int) rm_PB_right 0 [(2, 0), (0, p1), (0, p2), (0, p3), (0, p4)] d (some (0, r)) d' := by
  refine MC.of (by decide) (Nat.le_of_ble_eq_true rfl) ?_
  intro p e s m args below meth c D cA ad A C hlk hr
  replace C : Cx p s m args c prog_1_method_22_code 5 "PollBooks" D cA ad 0 A := C
  show G p l e rm_PB_right s m args below meth c 0 0 (MQ below (fun _ => QC D cA ad 0 A (some .int) (some (0, r)) d') args s 0 0 A) 5 D cA ad 0 A 0 [(2, 0), (0, p1), (0, p2), (0, p3), (0, p4)] [] d
  refine g_sub (lo2 := [(2, 0), (0, p1), (0, p2), (0, p3), (0, p4)]) (lsb_v (lsb_v (lsb_v (lsb_v (lsb_v lsb_e))))) ?_
  unfold L_PB_right at h
  refine g_aload_n C 0 rfl (by decide +kernel) ?_
  refine g_aload_n C 0 rfl (by decide +kernel) ?_
  refine g_iload_n C 1 rfl (by decide +kernel) ?_
  refine g_iload_n C 2 rfl (by decide +kernel) ?_
  refine g_iload_n C 3 rfl (by decide +kernel) ?_
  refine g_iload C 4 rfl (by decide +kernel) ?_
  obtain ⟨r2_, d1_, hr3_, h⟩ := bd_some h
  refine g_callV C mw_PB_comerStatus [(0, p1), (0, p2), (0, p3), (0, p4)] 0 cl11 rfl (ok_PB_comerStatus p1 p2 p3 p4 d hp1 hp2 hp3 hp4 hr3_) cd_A0 (by decide) (nA (by decide)) (ix := 261) lk_907 lk_909 lkp_27 ⟨rfl, rfl, Nat.le_of_ble_eq_true rfl, Nat.le_of_ble_eq_true rfl⟩ rfl (rest := [(2, 0)]) rfl (Nat.le_of_ble_eq_true rfl) ⟨Nat.zero_le _, Nat.zero_le _⟩ (by decide +kernel) (fun _ hc4_ => ?_)
  replace hc4_ : c32 r2_ := hc4_
  refine g_st (st2 := [(0, r2_), (2, 0)]) rfl ?_
  refine g_putI C cl11 0 0 hc4_ rfl cd_A0 ⟨by decide, rfl, by decide⟩ rfl (nA (by decide)) (ix := 9) lk_467 rfl rfl (by decide +kernel) ?_
  refine g_aload_n C 0 rfl (by decide +kernel) ?_
  refine g_getI C cl11 0 0 rfl cd_A0 ⟨by decide, rfl, by decide⟩ rfl (nA (by decide)) (ix := 9) lk_467 (by decide +kernel) (fun hc5_ => ?_)
  refine g_val (y := r2_) rfl ?_
  replace hc5_ : c32 r2_ := hc5_
  refine g_if_eq C (off := 5) (tgt := 22) hc5_ (by decide +kernel) (by decide) (fun hc6_ => ?_) (fun hc6_ => ?_)
  · replace h := ite_t hc6_ h
    refine g_aload_n C 0 rfl (by decide +kernel) ?_
    refine g_getR C cl11 0 5 30 rfl cd_A0 ⟨by decide, rfl, by decide⟩ rfl rfl (nA (by decide)) (ix := 48) lk_472 (by decide +kernel) ?_
    refine g_iload_n C 1 rfl (by decide +kernel) ?_
    refine g_iload_n C 2 rfl (by decide +kernel) ?_
    refine g_iload_n C 3 rfl (by decide +kernel) ?_
    refine g_iload C 4 rfl (by decide +kernel) ?_
    obtain ⟨r8_, d7_, hr9_, h⟩ := bd_some h
    refine g_callV C mw_La_bring [(0, p1), (0, p2), (0, p3), (0, p4)] 30 cl3 rfl (ok_La_bring p1 p2 p3 p4 (up2 d1_ 0 0 r2_) hp1 hp2 hp3 hp4 hr9_) cd_A30 (by decide) (nA (by decide)) (ix := 265) lk_915 lk_916 lk_917 ⟨rfl, rfl, Nat.le_of_ble_eq_true rfl, Nat.le_of_ble_eq_true rfl⟩ rfl (rest := []) rfl (Nat.le_of_ble_eq_true rfl) ⟨Nat.zero_le _, Nat.zero_le _⟩ (by decide +kernel) (fun _ hc10_ => ?_)
    refine g_st (st2 := []) rfl ?_
    refine g_aload_n C 0 rfl (by decide +kernel) ?_
    refine g_getR C cl11 0 5 30 rfl cd_A0 ⟨by decide, rfl, by decide⟩ rfl rfl (nA (by decide)) (ix := 48) lk_472 (by decide +kernel) ?_
    obtain ⟨r12_, d11_, hr13_, h⟩ := bd_some h
    refine g_callV C mw_La_rightNow [] 30 cl3 rfl (ok_La_rightNow  d7_  hr13_) cd_A30 (by decide) (nA (by decide)) (ix := 269) lk_920 lk_921 lk_922 ⟨rfl, rfl, Nat.le_of_ble_eq_true rfl, Nat.le_of_ble_eq_true rfl⟩ rfl (rest := []) rfl (Nat.le_of_ble_eq_true rfl) ⟨Nat.zero_le _, Nat.zero_le _⟩ (by decide +kernel) (fun _ hc14_ => ?_)
    replace hc14_ : c32 r12_ := hc14_
    refine g_st (st2 := [(0, r12_)]) rfl ?_
    obtain ⟨rfl, rfl⟩ := ret_inj h
    exact g_iret C hc14_ hlk hr (by decide +kernel)
  · replace h := ite_f hc6_ h
    refine g_iconst C (-1) (cK rfl) (by decide +kernel) ?_
    obtain ⟨rfl, rfl⟩ := ret_inj h
    exact g_iret C (cK rfl) hlk hr (by decide +kernel)
/-! PollBooks$Laws.reasonNow()I -/
def y_La_reasonNow : MethodName := ⟨"PollBooks$Laws", "reasonNow", "()I"⟩
def rm_La_reasonNow : Room := { frames := 3, cells := 0, slots := 0, locals := 73 }
theorem mw_La_reasonNow : MW y_La_reasonNow prog_5_method_10_code 3 (some .int) 0 := ⟨lk_964, lk_8, by decide +kernel⟩
def L_La_reasonNow (d : Dt) : Option (Int × Dt) :=
  bd (L_La_closedBy d) (fun r2_ d1_ => if r2_ = (-1) then bd (L_La_firstHolding 19 d1_) (fun r7_ d6_ => if r7_ = (-1) then bd (L_La_firstHolding 17 d6_) (fun r12_ d11_ => some (r12_, d11_)) else some (r7_, d6_)) else some (r2_, d1_))
set_option maxHeartbeats 4000000 in
theorem ok_La_reasonNow {l : Launch} {r : Int} {d' : Dt} (d : Dt)  (h : L_La_reasonNow d = some (r, d')) : MC l y_La_reasonNow prog_5_method_10_code 3 (some .int) rm_La_reasonNow 0 [(2, 30)] d (some (0, r)) d' := by
  refine MC.of (by decide) (Nat.le_of_ble_eq_true rfl) ?_
  intro p e s m args below meth c D cA ad A C hlk hr
  replace C : Cx p s m args c prog_5_method_10_code 3 "PollBooks$Laws" D cA ad 0 A := C
  show G p l e rm_La_reasonNow s m args below meth c 0 0 (MQ below (fun _ => QC D cA ad 0 A (some .int) (some (0, r)) d') args s 0 0 A) 3 D cA ad 0 A 0 [(2, 30)] [] d
  refine g_sub (lo2 := [(2, 30), (9, 0), (9, 0)]) (lsb_v (lsb_n (lsb_n lsb_e))) ?_
  unfold L_La_reasonNow at h
  refine g_aload_n C 0 rfl (by decide +kernel) ?_
  obtain ⟨r2_, d1_, hr3_, h⟩ := bd_some h
  refine g_callV C mw_La_closedBy [] 30 cl3 rfl (ok_La_closedBy  d  hr3_) cd_A30 (by decide) (nA (by decide)) (ix := 81) lk_924 lk_926 lkp_28 ⟨rfl, rfl, Nat.le_of_ble_eq_true rfl, Nat.le_of_ble_eq_true rfl⟩ rfl (rest := []) rfl (Nat.le_of_ble_eq_true rfl) ⟨Nat.zero_le _, Nat.zero_le _⟩ (by decide +kernel) (fun _ hc4_ => ?_)
  replace hc4_ : c32 r2_ := hc4_
  refine g_st (st2 := [(0, r2_)]) rfl ?_
  refine s_istore_n C 1 (lo' := [(2, 30), (0, r2_), (9, 0)]) (by decide) (s1n (by decide) s1z) (by decide +kernel) ?_
  refine g_iload_n C 1 rfl (by decide +kernel) ?_
  refine g_iconst C (-1) (cK rfl) (by decide +kernel) ?_
  refine g_icmp_eq C (off := 5) (tgt := 12) hc4_ (cK rfl) (by decide +kernel) (by decide) (fun hc5_ => ?_) (fun hc5_ => ?_)
  · replace h := ite_t hc5_ h
    refine g_aload_n C 0 rfl (by decide +kernel) ?_
    refine g_bipush C 19 (by decide) (by decide +kernel) ?_
    obtain ⟨r7_, d6_, hr8_, h⟩ := bd_some h
    refine g_callV C mw_La_firstHolding [(0, 19)] 30 cl3 rfl (ok_La_firstHolding 19 d1_ (cK rfl) hr8_) cd_A30 (by decide) (nA (by decide)) (ix := 85) lk_945 lk_947 lkp_33 ⟨rfl, rfl, Nat.le_of_ble_eq_true rfl, Nat.le_of_ble_eq_true rfl⟩ rfl (rest := []) rfl (Nat.le_of_ble_eq_true rfl) ⟨Nat.zero_le _, Nat.zero_le _⟩ (by decide +kernel) (fun _ hc9_ => ?_)
    replace hc9_ : c32 r7_ := hc9_
    refine g_st (st2 := [(0, r7_)]) rfl ?_
    refine s_istore_n C 2 (lo' := [(2, 30), (0, r2_), (0, r7_)]) (by decide) (s1k (s1n (by decide) s1z)) (by decide +kernel) ?_
    refine g_iload_n C 2 rfl (by decide +kernel) ?_
    refine g_iconst C (-1) (cK rfl) (by decide +kernel) ?_
    refine g_icmp_eq C (off := 7) (tgt := 28) hc9_ (cK rfl) (by decide +kernel) (by decide) (fun hc10_ => ?_) (fun hc10_ => ?_)
    · replace h := ite_t hc10_ h
      refine g_aload_n C 0 rfl (by decide +kernel) ?_
      refine g_bipush C 17 (by decide) (by decide +kernel) ?_
      obtain ⟨r12_, d11_, hr13_, h⟩ := bd_some h
      refine g_callV C mw_La_firstHolding [(0, 17)] 30 cl3 rfl (ok_La_firstHolding 17 d6_ (cK rfl) hr13_) cd_A30 (by decide) (nA (by decide)) (ix := 85) lk_945 lk_947 lkp_33 ⟨rfl, rfl, Nat.le_of_ble_eq_true rfl, Nat.le_of_ble_eq_true rfl⟩ rfl (rest := []) rfl (Nat.le_of_ble_eq_true rfl) ⟨Nat.zero_le _, Nat.zero_le _⟩ (by decide +kernel) (fun _ hc14_ => ?_)
      replace hc14_ : c32 r12_ := hc14_
      refine g_st (st2 := [(0, r12_)]) rfl ?_
      obtain ⟨rfl, rfl⟩ := ret_inj h
      exact g_iret C hc14_ hlk hr (by decide +kernel)
    · replace h := ite_f hc10_ h
      refine g_iload_n C 2 rfl (by decide +kernel) ?_
      refine g_goto C 34 (off := 9) (by decide +kernel) (by decide) ?_
      obtain ⟨rfl, rfl⟩ := ret_inj h
      exact g_iret C hc9_ hlk hr (by decide +kernel)
  · replace h := ite_f hc5_ h
    refine g_iload_n C 1 rfl (by decide +kernel) ?_
    obtain ⟨rfl, rfl⟩ := ret_inj h
    exact g_iret C hc4_ hlk hr (by decide +kernel)
/-! PollBooks.why(IIII)I -/
def y_PB_why : MethodName := ⟨"PollBooks", "why", "(IIII)I"⟩
def rm_PB_why : Room := { frames := 4, cells := 0, slots := 0, locals := 104 }
theorem mw_PB_why : MW y_PB_why prog_1_method_23_code 6 (some .int) 4 := ⟨lk_960, lk_1, by decide +kernel⟩
def L_PB_why_b56 (x5 s1 : Int) (d : Dt) : Option (Int × Dt) :=
  some (x5, (up2 d 0 0 s1))
def L_PB_why (p1 p2 p3 p4 : Int) (d : Dt) : Option (Int × Dt) :=
  bd (L_PB_comerStatus p1 p2 p3 p4 d) (fun r2_ d1_ => if r2_ = 0 then bd (L_La_bring p1 p2 p3 p4 (up2 d1_ 0 0 r2_)) (fun r8_ d7_ => bd (L_La_reasonNow d7_) (fun r12_ d11_ => if r12_ = (-1) then L_PB_why_b56 r12_ 6 d11_ else L_PB_why_b56 r12_ 0 d11_)) else some ((-1), (up2 d1_ 0 0 r2_)))
set_option maxHeartbeats 4000000 in
theorem ok_PB_why_b56 {p : Program} {l : Launch} {e : Env} {s : State} {m : MethodId} {args : Array Value} {below : List Frame} {meth : Method} {c : Code} {D : va_G} {cA : Nat → ClassId} {ad : Nat → Nat} {A : Nat → Prop} (C : Cx p s m args c prog_1_method_23_code 6 "PollBooks" D cA ad 0 A) (hlk : meth.locks = false) (hr : meth.sig.returnType = (some .int)) {r : Int} {d' : Dt} (x5 s1 : Int) (d : Dt) (hx5 : c32 x5) (hs1 : c32 s1) (h : L_PB_why_b56 x5 s1 d = some (r, d')) : G p l e rm_PB_why s m args below meth c 0 0 (MQ below (fun _ => QC D cA ad 0 A (some .int) (some (0, r)) d') args s 0 0 A) 6 D cA ad 0 A 56 [(9, 0), (9, 0), (9, 0), (9, 0), (9, 0), (0, x5)] [(0, s1), (2, 0)] d := by
  unfold L_PB_why_b56 at h
  refine g_putI C cl11 0 0 hs1 rfl cd_A0 ⟨by decide, rfl, by decide⟩ rfl (nA (by decide)) (ix := 9) lk_467 rfl rfl (by decide +kernel) ?_
  refine g_iload C 5 rfl (by decide +kernel) ?_
  obtain ⟨rfl, rfl⟩ := ret_inj h
  exact g_iret C hx5 hlk hr (by decide +kernel)
set_option maxHeartbeats 4000000 in
theorem ok_PB_why {l : Launch} {r : Int} {d' : Dt} (p1 p2 p3 p4 : Int) (d : Dt) (hp1 : c32 p1) (hp2 : c32 p2) (hp3 : c32 p3) (hp4 : c32 p4) (h : L_PB_why p1 p2 p3 p4 d = some (r, d')) : MC l y_PB_why prog_1_method_23_code 6 (some .int) rm_PB_why 0 [(2, 0), (0, p1), (0, p2), (0, p3), (0, p4)] d (some (0, r)) d' := by
  refine MC.of (by decide) (Nat.le_of_ble_eq_true rfl) ?_
  intro p e s m args below meth c D cA ad A C hlk hr
  replace C : Cx p s m args c prog_1_method_23_code 6 "PollBooks" D cA ad 0 A := C
  show G p l e rm_PB_why s m args below meth c 0 0 (MQ below (fun _ => QC D cA ad 0 A (some .int) (some (0, r)) d') args s 0 0 A) 6 D cA ad 0 A 0 [(2, 0), (0, p1), (0, p2), (0, p3), (0, p4)] [] d
  refine g_sub (lo2 := [(2, 0), (0, p1), (0, p2), (0, p3), (0, p4), (9, 0)]) (lsb_v (lsb_v (lsb_v (lsb_v (lsb_v (lsb_n lsb_e)))))) ?_
  unfold L_PB_why at h
  refine g_aload_n C 0 rfl (by decide +kernel) ?_
  refine g_aload_n C 0 rfl (by decide +kernel) ?_
  refine g_iload_n C 1 rfl (by decide +kernel) ?_
  refine g_iload_n C 2 rfl (by decide +kernel) ?_
  refine g_iload_n C 3 rfl (by decide +kernel) ?_
  refine g_iload C 4 rfl (by decide +kernel) ?_
  obtain ⟨r2_, d1_, hr3_, h⟩ := bd_some h
  refine g_callV C mw_PB_comerStatus [(0, p1), (0, p2), (0, p3), (0, p4)] 0 cl11 rfl (ok_PB_comerStatus p1 p2 p3 p4 d hp1 hp2 hp3 hp4 hr3_) cd_A0 (by decide) (nA (by decide)) (ix := 261) lk_907 lk_909 lkp_27 ⟨rfl, rfl, Nat.le_of_ble_eq_true rfl, Nat.le_of_ble_eq_true rfl⟩ rfl (rest := [(2, 0)]) rfl (Nat.le_of_ble_eq_true rfl) ⟨Nat.zero_le _, Nat.zero_le _⟩ (by decide +kernel) (fun _ hc4_ => ?_)
  replace hc4_ : c32 r2_ := hc4_
  refine g_st (st2 := [(0, r2_), (2, 0)]) rfl ?_
  refine g_putI C cl11 0 0 hc4_ rfl cd_A0 ⟨by decide, rfl, by decide⟩ rfl (nA (by decide)) (ix := 9) lk_467 rfl rfl (by decide +kernel) ?_
  refine g_aload_n C 0 rfl (by decide +kernel) ?_
  refine g_getI C cl11 0 0 rfl cd_A0 ⟨by decide, rfl, by decide⟩ rfl (nA (by decide)) (ix := 9) lk_467 (by decide +kernel) (fun hc5_ => ?_)
  refine g_val (y := r2_) rfl ?_
  replace hc5_ : c32 r2_ := hc5_
  refine g_if_eq C (off := 5) (tgt := 22) hc5_ (by decide +kernel) (by decide) (fun hc6_ => ?_) (fun hc6_ => ?_)
  · replace h := ite_t hc6_ h
    refine g_aload_n C 0 rfl (by decide +kernel) ?_
    refine g_getR C cl11 0 5 30 rfl cd_A0 ⟨by decide, rfl, by decide⟩ rfl rfl (nA (by decide)) (ix := 48) lk_472 (by decide +kernel) ?_
    refine g_iload_n C 1 rfl (by decide +kernel) ?_
    refine g_iload_n C 2 rfl (by decide +kernel) ?_
    refine g_iload_n C 3 rfl (by decide +kernel) ?_
    refine g_iload C 4 rfl (by decide +kernel) ?_
    obtain ⟨r8_, d7_, hr9_, h⟩ := bd_some h
    refine g_callV C mw_La_bring [(0, p1), (0, p2), (0, p3), (0, p4)] 30 cl3 rfl (ok_La_bring p1 p2 p3 p4 (up2 d1_ 0 0 r2_) hp1 hp2 hp3 hp4 hr9_) cd_A30 (by decide) (nA (by decide)) (ix := 265) lk_915 lk_916 lk_917 ⟨rfl, rfl, Nat.le_of_ble_eq_true rfl, Nat.le_of_ble_eq_true rfl⟩ rfl (rest := []) rfl (Nat.le_of_ble_eq_true rfl) ⟨Nat.zero_le _, Nat.zero_le _⟩ (by decide +kernel) (fun _ hc10_ => ?_)
    refine g_st (st2 := []) rfl ?_
    refine g_aload_n C 0 rfl (by decide +kernel) ?_
    refine g_getR C cl11 0 5 30 rfl cd_A0 ⟨by decide, rfl, by decide⟩ rfl rfl (nA (by decide)) (ix := 48) lk_472 (by decide +kernel) ?_
    obtain ⟨r12_, d11_, hr13_, h⟩ := bd_some h
    refine g_callV C mw_La_reasonNow [] 30 cl3 rfl (ok_La_reasonNow  d7_  hr13_) cd_A30 (by decide) (nA (by decide)) (ix := 272) lk_961 lk_962 lk_963 ⟨rfl, rfl, Nat.le_of_ble_eq_true rfl, Nat.le_of_ble_eq_true rfl⟩ rfl (rest := []) rfl (Nat.le_of_ble_eq_true rfl) ⟨Nat.zero_le _, Nat.zero_le _⟩ (by decide +kernel) (fun _ hc14_ => ?_)
    replace hc14_ : c32 r12_ := hc14_
    refine g_st (st2 := [(0, r12_)]) rfl ?_
    refine s_istore C 5 (lo' := [(2, 0), (0, p1), (0, p2), (0, p3), (0, p4), (0, r12_)]) (by decide) (s1k (s1k (s1k (s1k (s1n (by decide) s1z))))) (by decide +kernel) ?_
    refine g_aload_n C 0 rfl (by decide +kernel) ?_
    refine g_iload C 5 rfl (by decide +kernel) ?_
    refine g_iconst C (-1) (cK rfl) (by decide +kernel) ?_
    refine g_icmp_ne C (off := 8) (tgt := 55) hc14_ (cK rfl) (by decide +kernel) (by decide) (fun hc15_ => ?_) (fun hc15_ => ?_)
    · replace h := ite_t hc15_ h
      refine g_bipush C 6 (by decide) (by decide +kernel) ?_
      refine g_goto C 56 (off := 4) (by decide +kernel) (by decide) ?_
      refine g_sub (lo2 := [(9, 0), (9, 0), (9, 0), (9, 0), (9, 0), (0, r12_)]) (lsb_c (lsb_c (lsb_c (lsb_c (lsb_c (lsb_v lsb_e)))))) ?_
      exact ok_PB_why_b56 C hlk hr r12_ 6 d11_ hc14_ (cK rfl) h
    · replace h := ite_f hc15_ h
      refine g_iconst C 0 (cK rfl) (by decide +kernel) ?_
      refine g_sub (lo2 := [(9, 0), (9, 0), (9, 0), (9, 0), (9, 0), (0, r12_)]) (lsb_c (lsb_c (lsb_c (lsb_c (lsb_c (lsb_v lsb_e)))))) ?_
      exact ok_PB_why_b56 C hlk hr r12_ 0 d11_ hc14_ (c32_cb (Or.inl rfl)) h
  · replace h := ite_f hc6_ h
    refine g_iconst C (-1) (cK rfl) (by decide +kernel) ?_
    obtain ⟨rfl, rfl⟩ := ret_inj h
    exact g_iret C (cK rfl) hlk hr (by decide +kernel)
/-! PollBooks$Laws.voidNow()Z -/
def y_La_voidNow : MethodName := ⟨"PollBooks$Laws", "voidNow", "()Z"⟩
def rm_La_voidNow : Room := { frames := 3, cells := 0, slots := 0, locals := 73 }
theorem mw_La_voidNow : MW y_La_voidNow prog_5_method_11_code 1 (some .boolean) 0 := ⟨lk_972, lk_8, by decide +kernel⟩
def L_La_voidNow (d : Dt) : Option (Int × Dt) :=
  bd (L_La_firstHolding 20 d) (fun r2_ d1_ => if r2_ = (-1) then some (0, d1_) else some (1, d1_))
set_option maxHeartbeats 4000000 in
theorem ok_La_voidNow {l : Launch} {r : Int} {d' : Dt} (d : Dt)  (h : L_La_voidNow d = some (r, d')) : MC l y_La_voidNow prog_5_method_11_code 1 (some .boolean) rm_La_voidNow 0 [(2, 30)] d (some (0, r)) d' := by
  refine MC.of (by decide) (Nat.le_of_ble_eq_true rfl) ?_
  intro p e s m args below meth c D cA ad A C hlk hr
  replace C : Cx p s m args c prog_5_method_11_code 1 "PollBooks$Laws" D cA ad 0 A := C
  show G p l e rm_La_voidNow s m args below meth c 0 0 (MQ below (fun _ => QC D cA ad 0 A (some .boolean) (some (0, r)) d') args s 0 0 A) 1 D cA ad 0 A 0 [(2, 30)] [] d
  refine g_sub (lo2 := [(2, 30)]) (lsb_v lsb_e) ?_
  unfold L_La_voidNow at h
  refine g_aload_n C 0 rfl (by decide +kernel) ?_
  refine g_bipush C 20 (by decide) (by decide +kernel) ?_
  obtain ⟨r2_, d1_, hr3_, h⟩ := bd_some h
  refine g_callV C mw_La_firstHolding [(0, 20)] 30 cl3 rfl (ok_La_firstHolding 20 d (cK rfl) hr3_) cd_A30 (by decide) (nA (by decide)) (ix := 85) lk_945 lk_947 lkp_33 ⟨rfl, rfl, Nat.le_of_ble_eq_true rfl, Nat.le_of_ble_eq_true rfl⟩ rfl (rest := []) rfl (Nat.le_of_ble_eq_true rfl) ⟨Nat.zero_le _, Nat.zero_le _⟩ (by decide +kernel) (fun _ hc4_ => ?_)
  replace hc4_ : c32 r2_ := hc4_
  refine g_st (st2 := [(0, r2_)]) rfl ?_
  refine g_iconst C (-1) (cK rfl) (by decide +kernel) ?_
  refine g_icmp_eq C (off := 7) (tgt := 14) hc4_ (cK rfl) (by decide +kernel) (by decide) (fun hc5_ => ?_) (fun hc5_ => ?_)
  · replace h := ite_t hc5_ h
    refine g_iconst C 0 (cK rfl) (by decide +kernel) ?_
    obtain ⟨rfl, rfl⟩ := ret_inj h
    exact g_zret C (Or.inl rfl) hlk hr (by decide +kernel)
  · replace h := ite_f hc5_ h
    refine g_iconst C 1 (cK rfl) (by decide +kernel) ?_
    refine g_goto C 15 (off := 4) (by decide +kernel) (by decide) ?_
    obtain ⟨rfl, rfl⟩ := ret_inj h
    exact g_zret C (Or.inr rfl) hlk hr (by decide +kernel)
/-! PollBooks.voided(IIII)I -/
def y_PB_voided : MethodName := ⟨"PollBooks", "voided", "(IIII)I"⟩
def rm_PB_voided : Room := { frames := 4, cells := 0, slots := 0, locals := 104 }
theorem mw_PB_voided : MW y_PB_voided prog_1_method_24_code 5 (some .int) 4 := ⟨lk_968, lk_1, by decide +kernel⟩
def L_PB_voided (p1 p2 p3 p4 : Int) (d : Dt) : Option (Int × Dt) :=
  bd (L_PB_comerStatus p1 p2 p3 p4 d) (fun r2_ d1_ => if r2_ = 0 then bd (L_La_bring p1 p2 p3 p4 (up2 d1_ 0 0 r2_)) (fun r8_ d7_ => bd (L_La_voidNow d7_) (fun r12_ d11_ => bd (L_PB_bit r12_ d11_) (fun r16_ d15_ => some (r16_, d15_)))) else some ((-1), (up2 d1_ 0 0 r2_)))
set_option maxHeartbeats 4000000 in
theorem ok_PB_voided {l : Launch} {r : Int} {d' : Dt} (p1 p2 p3 p4 : Int) (d : Dt) (hp1 : c32 p1) (hp2 : c32 p2) (hp3 : c32 p3) (hp4 : c32 p4) (h : L_PB_voided p1 p2 p3 p4 d = some (r, d')) : MC l y_PB_voided prog_1_method_24_code 5 (some .int) rm_PB_voided 0 [(2, 0), (0, p1), (0, p2), (0, p3), (0, p4)] d (some (0, r)) d' := by
  refine MC.of (by decide) (Nat.le_of_ble_eq_true rfl) ?_
  intro p e s m args below meth c D cA ad A C hlk hr
  replace C : Cx p s m args c prog_1_method_24_code 5 "PollBooks" D cA ad 0 A := C
  show G p l e rm_PB_voided s m args below meth c 0 0 (MQ below (fun _ => QC D cA ad 0 A (some .int) (some (0, r)) d') args s 0 0 A) 5 D cA ad 0 A 0 [(2, 0), (0, p1), (0, p2), (0, p3), (0, p4)] [] d
  refine g_sub (lo2 := [(2, 0), (0, p1), (0, p2), (0, p3), (0, p4)]) (lsb_v (lsb_v (lsb_v (lsb_v (lsb_v lsb_e))))) ?_
  unfold L_PB_voided at h
  refine g_aload_n C 0 rfl (by decide +kernel) ?_
  refine g_aload_n C 0 rfl (by decide +kernel) ?_
  refine g_iload_n C 1 rfl (by decide +kernel) ?_
  refine g_iload_n C 2 rfl (by decide +kernel) ?_
  refine g_iload_n C 3 rfl (by decide +kernel) ?_
  refine g_iload C 4 rfl (by decide +kernel) ?_
  obtain ⟨r2_, d1_, hr3_, h⟩ := bd_some h
  refine g_callV C mw_PB_comerStatus [(0, p1), (0, p2), (0, p3), (0, p4)] 0 cl11 rfl (ok_PB_comerStatus p1 p2 p3 p4 d hp1 hp2 hp3 hp4 hr3_) cd_A0 (by decide) (nA (by decide)) (ix := 261) lk_907 lk_909 lkp_27 ⟨rfl, rfl, Nat.le_of_ble_eq_true rfl, Nat.le_of_ble_eq_true rfl⟩ rfl (rest := [(2, 0)]) rfl (Nat.le_of_ble_eq_true rfl) ⟨Nat.zero_le _, Nat.zero_le _⟩ (by decide +kernel) (fun _ hc4_ => ?_)
  replace hc4_ : c32 r2_ := hc4_
  refine g_st (st2 := [(0, r2_), (2, 0)]) rfl ?_
  refine g_putI C cl11 0 0 hc4_ rfl cd_A0 ⟨by decide, rfl, by decide⟩ rfl (nA (by decide)) (ix := 9) lk_467 rfl rfl (by decide +kernel) ?_
  refine g_aload_n C 0 rfl (by decide +kernel) ?_
  refine g_getI C cl11 0 0 rfl cd_A0 ⟨by decide, rfl, by decide⟩ rfl (nA (by decide)) (ix := 9) lk_467 (by decide +kernel) (fun hc5_ => ?_)
  refine g_val (y := r2_) rfl ?_
  replace hc5_ : c32 r2_ := hc5_
  refine g_if_eq C (off := 5) (tgt := 22) hc5_ (by decide +kernel) (by decide) (fun hc6_ => ?_) (fun hc6_ => ?_)
  · replace h := ite_t hc6_ h
    refine g_aload_n C 0 rfl (by decide +kernel) ?_
    refine g_getR C cl11 0 5 30 rfl cd_A0 ⟨by decide, rfl, by decide⟩ rfl rfl (nA (by decide)) (ix := 48) lk_472 (by decide +kernel) ?_
    refine g_iload_n C 1 rfl (by decide +kernel) ?_
    refine g_iload_n C 2 rfl (by decide +kernel) ?_
    refine g_iload_n C 3 rfl (by decide +kernel) ?_
    refine g_iload C 4 rfl (by decide +kernel) ?_
    obtain ⟨r8_, d7_, hr9_, h⟩ := bd_some h
    refine g_callV C mw_La_bring [(0, p1), (0, p2), (0, p3), (0, p4)] 30 cl3 rfl (ok_La_bring p1 p2 p3 p4 (up2 d1_ 0 0 r2_) hp1 hp2 hp3 hp4 hr9_) cd_A30 (by decide) (nA (by decide)) (ix := 265) lk_915 lk_916 lk_917 ⟨rfl, rfl, Nat.le_of_ble_eq_true rfl, Nat.le_of_ble_eq_true rfl⟩ rfl (rest := []) rfl (Nat.le_of_ble_eq_true rfl) ⟨Nat.zero_le _, Nat.zero_le _⟩ (by decide +kernel) (fun _ hc10_ => ?_)
    refine g_st (st2 := []) rfl ?_
    refine g_aload_n C 0 rfl (by decide +kernel) ?_
    refine g_getR C cl11 0 5 30 rfl cd_A0 ⟨by decide, rfl, by decide⟩ rfl rfl (nA (by decide)) (ix := 48) lk_472 (by decide +kernel) ?_
    obtain ⟨r12_, d11_, hr13_, h⟩ := bd_some h
    refine g_callV C mw_La_voidNow [] 30 cl3 rfl (ok_La_voidNow  d7_  hr13_) cd_A30 (by decide) (nA (by decide)) (ix := 275) lk_969 lk_970 lk_971 ⟨rfl, rfl, Nat.le_of_ble_eq_true rfl, Nat.le_of_ble_eq_true rfl⟩ rfl (rest := []) rfl (Nat.le_of_ble_eq_true rfl) ⟨Nat.zero_le _, Nat.zero_le _⟩ (by decide +kernel) (fun _ hc14_ => ?_)
    replace hc14_ : cb r12_ := hc14_
    refine g_st (st2 := [(0, r12_)]) rfl ?_
    obtain ⟨r16_, d15_, hr17_, h⟩ := bd_some h
    refine g_callS C mw_PB_bit [(0, r12_)] (ok_PB_bit r12_ d11_ hc14_ hr17_) (ix := 257) lk_902 lk_716 ⟨rfl, rfl, Nat.le_of_ble_eq_true rfl, Nat.le_of_ble_eq_true rfl⟩ rfl (rest := []) rfl (Nat.le_of_ble_eq_true rfl) ⟨Nat.zero_le _, Nat.zero_le _⟩ (by decide +kernel) (fun _ hc18_ => ?_)
    replace hc18_ : c32 r16_ := hc18_
    refine g_st (st2 := [(0, r16_)]) rfl ?_
    obtain ⟨rfl, rfl⟩ := ret_inj h
    exact g_iret C hc18_ hlk hr (by decide +kernel)
  · replace h := ite_f hc6_ h
    refine g_iconst C (-1) (cK rfl) (by decide +kernel) ?_
    obtain ⟨rfl, rfl⟩ := ret_inj h
    exact g_iret C (cK rfl) hlk hr (by decide +kernel)
/-! PollBooks$Laws.namesAt(II)I -/
def y_La_namesAt : MethodName := ⟨"PollBooks$Laws", "namesAt", "(II)I"⟩
def rm_La_namesAt : Room := { frames := 2, cells := 0, slots := 0, locals := 51 }
theorem mw_La_namesAt : MW y_La_namesAt prog_5_method_7_code 4 (some .int) 2 := ⟨lk_980, lk_8, by decide +kernel⟩
def L_La_namesAt (p1 p2 : Int) (d : Dt) : Option (Int × Dt) :=
  bd (L_La_gather p1 p2 d) (fun r2_ d1_ => bd (L_La_lastOf 21 d1_) (fun r6_ d5_ => if r6_ = (-1) then some (2, d5_) else bd (L_La_firstNumber r6_ d5_) (fun r11_ d10_ => some (r11_, d10_))))
set_option maxHeartbeats 4000000 in
theorem ok_La_namesAt {l : Launch} {r : Int} {d' : Dt} (p1 p2 : Int) (d : Dt) (hp1 : c32 p1) (hp2 : c32 p2) (h : L_La_namesAt p1 p2 d = some (r, d')) : MC l y_La_namesAt prog_5_method_7_code 4 (some .int) rm_La_namesAt 0 [(2, 30), (0, p1), (0, p2)] d (some (0, r)) d' := by
  refine MC.of (by decide) (Nat.le_of_ble_eq_true rfl) ?_
  intro p e s m args below meth c D cA ad A C hlk hr
  replace C : Cx p s m args c prog_5_method_7_code 4 "PollBooks$Laws" D cA ad 0 A := C
  show G p l e rm_La_namesAt s m args below meth c 0 0 (MQ below (fun _ => QC D cA ad 0 A (some .int) (some (0, r)) d') args s 0 0 A) 4 D cA ad 0 A 0 [(2, 30), (0, p1), (0, p2)] [] d
  refine g_sub (lo2 := [(2, 30), (0, p1), (0, p2), (9, 0)]) (lsb_v (lsb_v (lsb_v (lsb_n lsb_e)))) ?_
  unfold L_La_namesAt at h
  refine g_aload_n C 0 rfl (by decide +kernel) ?_
  refine g_iload_n C 1 rfl (by decide +kernel) ?_
  refine g_iload_n C 2 rfl (by decide +kernel) ?_
  obtain ⟨r2_, d1_, hr3_, h⟩ := bd_some h
  refine g_callV C mw_La_gather [(0, p1), (0, p2)] 30 cl3 rfl (ok_La_gather p1 p2 d hp1 hp2 hr3_) cd_A30 (by decide) (nA (by decide)) (ix := 59) lk_882 lk_884 lkp_25 ⟨rfl, rfl, Nat.le_of_ble_eq_true rfl, Nat.le_of_ble_eq_true rfl⟩ rfl (rest := []) rfl (Nat.le_of_ble_eq_true rfl) ⟨Nat.zero_le _, Nat.zero_le _⟩ (by decide +kernel) (fun _ hc4_ => ?_)
  refine g_st (st2 := []) rfl ?_
  refine g_aload_n C 0 rfl (by decide +kernel) ?_
  refine g_bipush C 21 (by decide) (by decide +kernel) ?_
  obtain ⟨r6_, d5_, hr7_, h⟩ := bd_some h
  refine g_callV C mw_La_lastOf [(0, 21)] 30 cl3 rfl (ok_La_lastOf 21 d1_ (cK rfl) hr7_) cd_A30 (by decide) (nA (by decide)) (ix := 68) lk_928 lk_930 lkp_29 ⟨rfl, rfl, Nat.le_of_ble_eq_true rfl, Nat.le_of_ble_eq_true rfl⟩ rfl (rest := []) rfl (Nat.le_of_ble_eq_true rfl) ⟨Nat.zero_le _, Nat.zero_le _⟩ (by decide +kernel) (fun _ hc8_ => ?_)
  replace hc8_ : c32 r6_ := hc8_
  refine g_st (st2 := [(0, r6_)]) rfl ?_
  refine s_istore_n C 3 (lo' := [(2, 30), (0, p1), (0, p2), (0, r6_)]) (by decide) (s1k (s1k (s1n (by decide) s1z))) (by decide +kernel) ?_
  refine g_iload_n C 3 rfl (by decide +kernel) ?_
  refine g_iconst C (-1) (cK rfl) (by decide +kernel) ?_
  refine g_icmp_ne C (off := 7) (tgt := 22) hc8_ (cK rfl) (by decide +kernel) (by decide) (fun hc9_ => ?_) (fun hc9_ => ?_)
  · replace h := ite_t hc9_ h
    refine g_iconst C 2 (cK rfl) (by decide +kernel) ?_
    refine g_goto C 27 (off := 8) (by decide +kernel) (by decide) ?_
    obtain ⟨rfl, rfl⟩ := ret_inj h
    exact g_iret C (cK rfl) hlk hr (by decide +kernel)
  · replace h := ite_f hc9_ h
    refine g_aload_n C 0 rfl (by decide +kernel) ?_
    refine g_iload_n C 3 rfl (by decide +kernel) ?_
    obtain ⟨r11_, d10_, hr12_, h⟩ := bd_some h
    refine g_callV C mw_La_firstNumber [(0, r6_)] 30 cl3 rfl (ok_La_firstNumber r6_ d5_ hc8_ hr12_) cd_A30 (by decide) (nA (by decide)) (ix := 72) lk_936 lk_938 lkp_31 ⟨rfl, rfl, Nat.le_of_ble_eq_true rfl, Nat.le_of_ble_eq_true rfl⟩ rfl (rest := []) rfl (Nat.le_of_ble_eq_true rfl) ⟨Nat.zero_le _, Nat.zero_le _⟩ (by decide +kernel) (fun _ hc13_ => ?_)
    replace hc13_ : c32 r11_ := hc13_
    refine g_st (st2 := [(0, r11_)]) rfl ?_
    obtain ⟨rfl, rfl⟩ := ret_inj h
    exact g_iret C hc13_ hlk hr (by decide +kernel)
/-! PollBooks.names(II)I -/
def y_PB_names : MethodName := ⟨"PollBooks", "names", "(II)I"⟩
def rm_PB_names : Room := { frames := 3, cells := 0, slots := 0, locals := 74 }
theorem mw_PB_names : MW y_PB_names prog_1_method_25_code 3 (some .int) 2 := ⟨lk_976, lk_1, by decide +kernel⟩
def L_PB_names_b20 (x1 x2 s1 : Int) (d : Dt) : Option (Int × Dt) :=
  if s1 = 0 then bd (L_La_namesAt x1 x2 (up2 d 0 0 s1)) (fun r4_ d3_ => some (r4_, d3_)) else some ((-1), (up2 d 0 0 s1))
def L_PB_names (p1 p2 : Int) (d : Dt) : Option (Int × Dt) :=
  bd (L_PB_isPlace p1 d) (fun r8_ d7_ => if r8_ = 0 then L_PB_names_b20 p1 p2 1 d7_ else bd (L_PB_isDay p2 d7_) (fun r13_ d12_ => if r13_ = 0 then L_PB_names_b20 p1 p2 1 d12_ else L_PB_names_b20 p1 p2 0 d12_))
set_option maxHeartbeats 4000000 in
theorem ok_PB_names_b20 {p : Program} {l : Launch} {e : Env} {s : State} {m : MethodId} {args : Array Value} {below : List Frame} {meth : Method} {c : Code} {D : va_G} {cA : Nat → ClassId} {ad : Nat → Nat} {A : Nat → Prop} (C : Cx p s m args c prog_1_method_25_code 3 "PollBooks" D cA ad 0 A) (hlk : meth.locks = false) (hr : meth.sig.returnType = (some .int)) {r : Int} {d' : Dt} (x1 x2 s1 : Int) (d : Dt) (hx1 : c32 x1) (hx2 : c32 x2) (hs1 : cb s1) (h : L_PB_names_b20 x1 x2 s1 d = some (r, d')) : G p l e rm_PB_names s m args below meth c 0 0 (MQ below (fun _ => QC D cA ad 0 A (some .int) (some (0, r)) d') args s 0 0 A) 3 D cA ad 0 A 20 [(2, 0), (0, x1), (0, x2)] [(0, s1), (2, 0)] d := by
  unfold L_PB_names_b20 at h
  refine g_putI C cl11 0 0 (c32_cb hs1) rfl cd_A0 ⟨by decide, rfl, by decide⟩ rfl (nA (by decide)) (ix := 9) lk_467 rfl rfl (by decide +kernel) ?_
  refine g_aload_n C 0 rfl (by decide +kernel) ?_
  refine g_getI C cl11 0 0 rfl cd_A0 ⟨by decide, rfl, by decide⟩ rfl (nA (by decide)) (ix := 9) lk_467 (by decide +kernel) (fun hc1_ => ?_)
  refine g_val (y := s1) rfl ?_
  replace hc1_ : c32 s1 := hc1_
  refine g_if_ne C (off := 15) (tgt := 42) hc1_ (by decide +kernel) (by decide) (fun hc2_ => ?_) (fun hc2_ => ?_)
  · replace h := ite_t hc2_ h
    refine g_aload_n C 0 rfl (by decide +kernel) ?_
    refine g_getR C cl11 0 5 30 rfl cd_A0 ⟨by decide, rfl, by decide⟩ rfl rfl (nA (by decide)) (ix := 48) lk_472 (by decide +kernel) ?_
    refine g_iload_n C 1 rfl (by decide +kernel) ?_
    refine g_iload_n C 2 rfl (by decide +kernel) ?_
    obtain ⟨r4_, d3_, hr5_, h⟩ := bd_some h
    refine g_callV C mw_La_namesAt [(0, x1), (0, x2)] 30 cl3 rfl (ok_La_namesAt x1 x2 (up2 d 0 0 s1) hx1 hx2 hr5_) cd_A30 (by decide) (nA (by decide)) (ix := 278) lk_977 lk_978 lk_979 ⟨rfl, rfl, Nat.le_of_ble_eq_true rfl, Nat.le_of_ble_eq_true rfl⟩ rfl (rest := []) rfl (Nat.le_of_ble_eq_true rfl) ⟨Nat.zero_le _, Nat.zero_le _⟩ (by decide +kernel) (fun _ hc6_ => ?_)
    replace hc6_ : c32 r4_ := hc6_
    refine g_st (st2 := [(0, r4_)]) rfl ?_
    refine g_goto C 43 (off := 4) (by decide +kernel) (by decide) ?_
    obtain ⟨rfl, rfl⟩ := ret_inj h
    exact g_iret C hc6_ hlk hr (by decide +kernel)
  · replace h := ite_f hc2_ h
    refine g_iconst C (-1) (cK rfl) (by decide +kernel) ?_
    obtain ⟨rfl, rfl⟩ := ret_inj h
    exact g_iret C (cK rfl) hlk hr (by decide +kernel)
set_option maxHeartbeats 4000000 in
theorem ok_PB_names {l : Launch} {r : Int} {d' : Dt} (p1 p2 : Int) (d : Dt) (hp1 : c32 p1) (hp2 : c32 p2) (h : L_PB_names p1 p2 d = some (r, d')) : MC l y_PB_names prog_1_method_25_code 3 (some .int) rm_PB_names 0 [(2, 0), (0, p1), (0, p2)] d (some (0, r)) d' := by
  refine MC.of (by decide) (Nat.le_of_ble_eq_true rfl) ?_
  intro p e s m args below meth c D cA ad A C hlk hr
  replace C : Cx p s m args c prog_1_method_25_code 3 "PollBooks" D cA ad 0 A := C
  show G p l e rm_PB_names s m args below meth c 0 0 (MQ below (fun _ => QC D cA ad 0 A (some .int) (some (0, r)) d') args s 0 0 A) 3 D cA ad 0 A 0 [(2, 0), (0, p1), (0, p2)] [] d
  refine g_sub (lo2 := [(2, 0), (0, p1), (0, p2)]) (lsb_v (lsb_v (lsb_v lsb_e))) ?_
  unfold L_PB_names at h
  refine g_aload_n C 0 rfl (by decide +kernel) ?_
  refine g_iload_n C 1 rfl (by decide +kernel) ?_
  obtain ⟨r8_, d7_, hr9_, h⟩ := bd_some h
  refine g_callS C mw_PB_isPlace [(0, p1)] (ok_PB_isPlace p1 d hp1 hr9_) (ix := 158) lk_608 lk_609 ⟨rfl, rfl, Nat.le_of_ble_eq_true rfl, Nat.le_of_ble_eq_true rfl⟩ rfl (rest := [(2, 0)]) rfl (Nat.le_of_ble_eq_true rfl) ⟨Nat.zero_le _, Nat.zero_le _⟩ (by decide +kernel) (fun _ hc10_ => ?_)
  replace hc10_ : cb r8_ := hc10_
  refine g_st (st2 := [(0, r8_), (2, 0)]) rfl ?_
  refine g_if_eq C (off := 14) (tgt := 19) (c32_cb hc10_) (by decide +kernel) (by decide) (fun hc11_ => ?_) (fun hc11_ => ?_)
  · replace h := ite_t hc11_ h
    refine g_iconst C 1 (cK rfl) (by decide +kernel) ?_
    refine g_sub (lo2 := [(2, 0), (0, p1), (0, p2)]) (lsb_v (lsb_v (lsb_v lsb_e))) ?_
    exact ok_PB_names_b20 C hlk hr p1 p2 1 d7_ hp1 hp2 (Or.inr rfl) h
  · replace h := ite_f hc11_ h
    refine g_iload_n C 2 rfl (by decide +kernel) ?_
    obtain ⟨r13_, d12_, hr14_, h⟩ := bd_some h
    refine g_callS C mw_PB_isDay [(0, p2)] (ok_PB_isDay p2 d7_ hp2 hr14_) (ix := 180) lk_643 lk_644 ⟨rfl, rfl, Nat.le_of_ble_eq_true rfl, Nat.le_of_ble_eq_true rfl⟩ rfl (rest := [(2, 0)]) rfl (Nat.le_of_ble_eq_true rfl) ⟨Nat.zero_le _, Nat.zero_le _⟩ (by decide +kernel) (fun _ hc15_ => ?_)
    replace hc15_ : cb r13_ := hc15_
    refine g_st (st2 := [(0, r13_), (2, 0)]) rfl ?_
    refine g_if_eq C (off := 7) (tgt := 19) (c32_cb hc15_) (by decide +kernel) (by decide) (fun hc16_ => ?_) (fun hc16_ => ?_)
    · replace h := ite_t hc16_ h
      refine g_iconst C 1 (cK rfl) (by decide +kernel) ?_
      refine g_sub (lo2 := [(2, 0), (0, p1), (0, p2)]) (lsb_v (lsb_v (lsb_v lsb_e))) ?_
      exact ok_PB_names_b20 C hlk hr p1 p2 1 d12_ hp1 hp2 (Or.inr rfl) h
    · replace h := ite_f hc16_ h
      refine g_iconst C 0 (cK rfl) (by decide +kernel) ?_
      refine g_goto C 20 (off := 4) (by decide +kernel) (by decide) ?_
      refine g_sub (lo2 := [(2, 0), (0, p1), (0, p2)]) (lsb_v (lsb_v (lsb_v lsb_e))) ?_
      exact ok_PB_names_b20 C hlk hr p1 p2 0 d12_ hp1 hp2 (Or.inl rfl) h
/-! PollBooks.isSet(I)Z -/
def y_PB_isSet : MethodName := ⟨"PollBooks", "isSet", "(I)Z"⟩
def rm_PB_isSet : Room := { frames := 1, cells := 0, slots := 0, locals := 25 }
theorem mw_PB_isSet : MW y_PB_isSet prog_1_method_57_code 1 (some .boolean) 1 := ⟨lk_988, lk_1, by decide +kernel⟩
def L_PB_isSet (p1 : Int) (d : Dt) : Option (Int × Dt) :=
  bd (L_PB_within p1 1 15 d) (fun r2_ d1_ => some (r2_, d1_))
set_option maxHeartbeats 4000000 in
theorem ok_PB_isSet {l : Launch} {r : Int} {d' : Dt} (p1 : Int) (d : Dt) (hp1 : c32 p1) (h : L_PB_isSet p1 d = some (r, d')) : MC l y_PB_isSet prog_1_method_57_code 1 (some .boolean) rm_PB_isSet 0 [(0, p1)] d (some (0, r)) d' := by
  refine MC.of (by decide) (Nat.le_of_ble_eq_true rfl) ?_
  intro p e s m args below meth c D cA ad A C hlk hr
  replace C : Cx p s m args c prog_1_method_57_code 1 "PollBooks" D cA ad 0 A := C
  show G p l e rm_PB_isSet s m args below meth c 0 0 (MQ below (fun _ => QC D cA ad 0 A (some .boolean) (some (0, r)) d') args s 0 0 A) 1 D cA ad 0 A 0 [(0, p1)] [] d
  refine g_sub (lo2 := [(0, p1)]) (lsb_v lsb_e) ?_
  unfold L_PB_isSet at h
  refine g_iload_n C 0 rfl (by decide +kernel) ?_
  refine g_i2l C hp1 (by decide +kernel) ?_
  refine g_lconst C 1 (v := 1) (by decide) (by decide +kernel) ?_
  refine g_ldc2 C (ix := 442) (v := 15) lk_989 (by decide +kernel) ?_
  obtain ⟨r2_, d1_, hr3_, h⟩ := bd_some h
  refine g_callS C mw_PB_within [(1, p1), (1, 1), (1, 15)] (ok_PB_within p1 1 15 d (c64_32 hp1) (cL rfl) (cL rfl) hr3_) (ix := 105) lk_520 lk_521 ⟨rfl, rfl, Nat.le_of_ble_eq_true rfl, Nat.le_of_ble_eq_true rfl⟩ rfl (rest := []) rfl (Nat.le_of_ble_eq_true rfl) ⟨Nat.zero_le _, Nat.zero_le _⟩ (by decide +kernel) (fun _ hc4_ => ?_)
  replace hc4_ : cb r2_ := hc4_
  refine g_st (st2 := [(0, r2_)]) rfl ?_
  obtain ⟨rfl, rfl⟩ := ret_inj h
  exact g_zret C hc4_ hlk hr (by decide +kernel)
/-! PollBooks$Books.isFull(I)Z -/
def y_Bo_isFull : MethodName := ⟨"PollBooks$Books", "isFull", "(I)Z"⟩
def rm_Bo_isFull : Room := { frames := 0, cells := 0, slots := 0, locals := 0 }
theorem mw_Bo_isFull : MW y_Bo_isFull prog_2_method_2_code 2 (some .boolean) 1 := ⟨lk_993, lk_9, by decide +kernel⟩
def L_Bo_isFull (p1 : Int) (d : Dt) : Option (Int × Dt) :=
  ck ((0 : Int) ≤ p1 ∧ p1 < 3) (if (d 42 p1.toNat) < 30 then some (0, d) else some (1, d))
set_option maxHeartbeats 4000000 in
theorem ok_Bo_isFull {l : Launch} {r : Int} {d' : Dt} (p1 : Int) (d : Dt) (hp1 : c32 p1) (h : L_Bo_isFull p1 d = some (r, d')) : MC l y_Bo_isFull prog_2_method_2_code 2 (some .boolean) rm_Bo_isFull 0 [(2, 37), (0, p1)] d (some (0, r)) d' := by
  refine MC.of (by decide) (Nat.le_of_ble_eq_true rfl) ?_
  intro p e s m args below meth c D cA ad A C hlk hr
  replace C : Cx p s m args c prog_2_method_2_code 2 "PollBooks$Books" D cA ad 0 A := C
  show G p l e rm_Bo_isFull s m args below meth c 0 0 (MQ below (fun _ => QC D cA ad 0 A (some .boolean) (some (0, r)) d') args s 0 0 A) 2 D cA ad 0 A 0 [(2, 37), (0, p1)] [] d
  refine g_sub (lo2 := [(2, 37), (0, p1)]) (lsb_v (lsb_v lsb_e)) ?_
  unfold L_Bo_isFull at h
  refine g_aload_n C 0 rfl (by decide +kernel) ?_
  refine g_getR C cl0 37 4 42 rfl cd_A37 ⟨by decide, rfl, by decide⟩ rfl rfl (nA (by decide)) (ix := 25) lk_279 (by decide +kernel) ?_
  refine g_iload_n C 1 rfl (by decide +kernel) ?_
  obtain ⟨hb1_, h⟩ := ck_some h
  refine g_iald C 42 hp1 rfl cd_A42 (nA (by decide)) hb1_ (by decide +kernel) (fun hc2_ => ?_)
  refine g_bipush C 30 (by decide) (by decide +kernel) ?_
  refine g_icmp_lt C (off := 7) (tgt := 15) hc2_ (cK rfl) (by decide +kernel) (by decide) (fun hc3_ => ?_) (fun hc3_ => ?_)
  · replace h := ite_t hc3_ h
    refine g_iconst C 0 (cK rfl) (by decide +kernel) ?_
    obtain ⟨rfl, rfl⟩ := ret_inj h
    exact g_zret C (Or.inl rfl) hlk hr (by decide +kernel)
  · replace h := ite_f hc3_ h
    refine g_iconst C 1 (cK rfl) (by decide +kernel) ?_
    refine g_goto C 16 (off := 4) (by decide +kernel) (by decide) ?_
    obtain ⟨rfl, rfl⟩ := ret_inj h
    exact g_zret C (Or.inr rfl) hlk hr (by decide +kernel)
/-! PollBooks$Books.costPlace(III)I -/
def y_Bo_costPlace : MethodName := ⟨"PollBooks$Books", "costPlace", "(III)I"⟩
def rm_Bo_costPlace : Room := { frames := 0, cells := 0, slots := 0, locals := 0 }
theorem mw_Bo_costPlace : MW y_Bo_costPlace prog_2_method_6_code 3 (some .int) 3 := ⟨lk_1013, lk_9, by decide +kernel⟩
def L_Bo_costPlace (p1 p2 p3 : Int) (d : Dt) : Option (Int × Dt) :=
  some ((w32 ((w32 ((w32 ((w32 ((w32 (p1 - 1)) * 30)) + p2)) * 30)) + p3)), d)
set_option maxHeartbeats 4000000 in
theorem ok_Bo_costPlace {l : Launch} {r : Int} {d' : Dt} (p1 p2 p3 : Int) (d : Dt) (hp1 : c32 p1) (hp2 : c32 p2) (hp3 : c32 p3) (h : L_Bo_costPlace p1 p2 p3 d = some (r, d')) : MC l y_Bo_costPlace prog_2_method_6_code 3 (some .int) rm_Bo_costPlace 0 [(0, p1), (0, p2), (0, p3)] d (some (0, r)) d' := by
  refine MC.of (by decide) (Nat.le_of_ble_eq_true rfl) ?_
  intro p e s m args below meth c D cA ad A C hlk hr
  replace C : Cx p s m args c prog_2_method_6_code 3 "PollBooks$Books" D cA ad 0 A := C
  show G p l e rm_Bo_costPlace s m args below meth c 0 0 (MQ below (fun _ => QC D cA ad 0 A (some .int) (some (0, r)) d') args s 0 0 A) 3 D cA ad 0 A 0 [(0, p1), (0, p2), (0, p3)] [] d
  refine g_sub (lo2 := [(0, p1), (0, p2), (0, p3)]) (lsb_v (lsb_v (lsb_v lsb_e))) ?_
  unfold L_Bo_costPlace at h
  refine g_iload_n C 0 rfl (by decide +kernel) ?_
  refine g_iconst C 1 (cK rfl) (by decide +kernel) ?_
  refine g_isub C (by decide +kernel) ?_
  refine g_bipush C 30 (by decide) (by decide +kernel) ?_
  refine g_imul C (by decide +kernel) ?_
  refine g_iload_n C 1 rfl (by decide +kernel) ?_
  refine g_iadd C (by decide +kernel) ?_
  refine g_bipush C 30 (by decide) (by decide +kernel) ?_
  refine g_imul C (by decide +kernel) ?_
  refine g_iload_n C 2 rfl (by decide +kernel) ?_
  refine g_iadd C (by decide +kernel) ?_
  obtain ⟨rfl, rfl⟩ := ret_inj h
  exact g_iret C (w32_c _) hlk hr (by decide +kernel)
/-! PollBooks$Books.setCost(III)V -/
def y_Bo_setCost : MethodName := ⟨"PollBooks$Books", "setCost", "(III)V"⟩
def rm_Bo_setCost : Room := { frames := 2, cells := 0, slots := 0, locals := 55 }
theorem mw_Bo_setCost : MW y_Bo_setCost prog_2_method_7_code 6 none 3 := ⟨lk_1005, lk_9, by decide +kernel⟩
def L_Bo_setCost_b120 (x1 x2 x3 x5 : Int) (d : Dt) : Option (Int × Dt) :=
  bd (L_Bo_costPlace x1 x2 x3 d) (fun r2_ d1_ => ck ((0 : Int) ≤ r2_ ∧ r2_ < 1800) (some (0, (up2 d1_ 43 r2_.toNat x5))))
def L_Bo_setCost_b72 (x1 x2 x3 x4 x5 : Int) (d : Dt) : Option (Int × Dt) :=
  ck ((0 : Int) ≤ x2 ∧ x2 < 90) (ck ((0 : Int) ≤ x4 ∧ x4 < 90) (lt_ (w32 (x5 + (jmin 5 (idiv (jabs (w32 ((d 40 x2.toNat) - (d 40 x4.toNat)))) 10)))) (fun v10_ => ck ((0 : Int) ≤ x2 ∧ x2 < 90) (ck ((0 : Int) ≤ x4 ∧ x4 < 90) (if (d 41 x2.toNat) = (d 41 x4.toNat) then L_Bo_setCost_b120 x1 x2 x3 v10_ d else L_Bo_setCost_b120 x1 x2 x3 (w32 (v10_ + 4)) d)))))
def L_Bo_setCost (p1 p2 p3 : Int) (d : Dt) : Option (Int × Dt) :=
  lt_ (w32 ((w32 (p1 * 30)) + p3)) (fun v18_ => ck ((0 : Int) ≤ p2 ∧ p2 < 90) (ck ((0 : Int) ≤ v18_ ∧ v18_ < 90) (bd (L_PB_lettersApart 48 9 (d 38 p2.toNat) (d 38 v18_.toNat) d) (fun r26_ d25_ => lt_ (w32 (3 * r26_)) (fun v29_ => ck ((0 : Int) ≤ p2 ∧ p2 < 90) (if (d25_ 39 p2.toNat) = (-1) then L_Bo_setCost_b72 p1 p2 p3 v18_ v29_ d25_ else ck ((0 : Int) ≤ v18_ ∧ v18_ < 90) (if (d25_ 39 v18_.toNat) = (-1) then L_Bo_setCost_b72 p1 p2 p3 v18_ v29_ d25_ else ck ((0 : Int) ≤ p2 ∧ p2 < 90) (ck ((0 : Int) ≤ v18_ ∧ v18_ < 90) (if (d25_ 39 p2.toNat) = (d25_ 39 v18_.toNat) then L_Bo_setCost_b72 p1 p2 p3 v18_ v29_ d25_ else L_Bo_setCost_b72 p1 p2 p3 v18_ (w32 (v29_ + 2)) d25_)))))))))
set_option maxHeartbeats 4000000 in
theorem ok_Bo_setCost_b120 {p : Program} {l : Launch} {e : Env} {s : State} {m : MethodId} {args : Array Value} {below : List Frame} {meth : Method} {c : Code} {D : va_G} {cA : Nat → ClassId} {ad : Nat → Nat} {A : Nat → Prop} (C : Cx p s m args c prog_2_method_7_code 6 "PollBooks$Books" D cA ad 0 A) (hlk : meth.locks = false) (hr : meth.sig.returnType = none) {r : Int} {d' : Dt} (x1 x2 x3 x5 : Int) (d : Dt) (hx1 : c32 x1) (hx2 : c32 x2) (hx3 : c32 x3) (hx5 : c32 x5) (h : L_Bo_setCost_b120 x1 x2 x3 x5 d = some (r, d')) : G p l e rm_Bo_setCost s m args below meth c 0 0 (MQ below (fun _ => QC D cA ad 0 A none none d') args s 0 0 A) 6 D cA ad 0 A 120 [(2, 37), (0, x1), (0, x2), (0, x3), (9, 0), (0, x5)] [] d := by
  unfold L_Bo_setCost_b120 at h
  refine g_aload_n C 0 rfl (by decide +kernel) ?_
  refine g_getR C cl0 37 5 43 rfl cd_A37 ⟨by decide, rfl, by decide⟩ rfl rfl (nA (by decide)) (ix := 28) lk_281 (by decide +kernel) ?_
  refine g_iload_n C 1 rfl (by decide +kernel) ?_
  refine g_iload_n C 2 rfl (by decide +kernel) ?_
  refine g_iload_n C 3 rfl (by decide +kernel) ?_
  obtain ⟨r2_, d1_, hr3_, h⟩ := bd_some h
  refine g_callS C mw_Bo_costPlace [(0, x1), (0, x2), (0, x3)] (ok_Bo_costPlace x1 x2 x3 d hx1 hx2 hx3 hr3_) (ix := 72) lk_1011 lk_1012 ⟨rfl, rfl, Nat.le_of_ble_eq_true rfl, Nat.le_of_ble_eq_true rfl⟩ rfl (rest := [(2, 43)]) rfl (Nat.le_of_ble_eq_true rfl) ⟨Nat.zero_le _, Nat.zero_le _⟩ (by decide +kernel) (fun _ hc4_ => ?_)
  replace hc4_ : c32 r2_ := hc4_
  refine g_st (st2 := [(0, r2_), (2, 43)]) rfl ?_
  refine g_iload C 5 rfl (by decide +kernel) ?_
  obtain ⟨hb5_, h⟩ := ck_some h
  refine g_iast C 43 hx5 hc4_ rfl cd_A43 (nA (by decide)) hb5_ (by decide +kernel) ?_
  obtain ⟨rfl, rfl⟩ := ret_inj h
  exact g_vret C hlk hr (by decide +kernel)
set_option maxHeartbeats 4000000 in
theorem ok_Bo_setCost_b72 {p : Program} {l : Launch} {e : Env} {s : State} {m : MethodId} {args : Array Value} {below : List Frame} {meth : Method} {c : Code} {D : va_G} {cA : Nat → ClassId} {ad : Nat → Nat} {A : Nat → Prop} (C : Cx p s m args c prog_2_method_7_code 6 "PollBooks$Books" D cA ad 0 A) (hlk : meth.locks = false) (hr : meth.sig.returnType = none) {r : Int} {d' : Dt} (x1 x2 x3 x4 x5 : Int) (d : Dt) (hx1 : c32 x1) (hx2 : c32 x2) (hx3 : c32 x3) (hx4 : c32 x4) (hx5 : c32 x5) (h : L_Bo_setCost_b72 x1 x2 x3 x4 x5 d = some (r, d')) : G p l e rm_Bo_setCost s m args below meth c 0 0 (MQ below (fun _ => QC D cA ad 0 A none none d') args s 0 0 A) 6 D cA ad 0 A 72 [(2, 37), (0, x1), (0, x2), (0, x3), (0, x4), (0, x5)] [] d := by
  unfold L_Bo_setCost_b72 at h
  refine g_iload C 5 rfl (by decide +kernel) ?_
  refine g_iconst C 5 (cK rfl) (by decide +kernel) ?_
  refine g_aload_n C 0 rfl (by decide +kernel) ?_
  refine g_getR C cl0 37 2 40 rfl cd_A37 ⟨by decide, rfl, by decide⟩ rfl rfl (nA (by decide)) (ix := 19) lk_276 (by decide +kernel) ?_
  refine g_iload_n C 2 rfl (by decide +kernel) ?_
  obtain ⟨hb6_, h⟩ := ck_some h
  refine g_iald C 40 hx2 rfl cd_A40 (nA (by decide)) hb6_ (by decide +kernel) (fun hc7_ => ?_)
  refine g_aload_n C 0 rfl (by decide +kernel) ?_
  refine g_getR C cl0 37 2 40 rfl cd_A37 ⟨by decide, rfl, by decide⟩ rfl rfl (nA (by decide)) (ix := 19) lk_276 (by decide +kernel) ?_
  refine g_iload C 4 rfl (by decide +kernel) ?_
  obtain ⟨hb8_, h⟩ := ck_some h
  refine g_iald C 40 hx4 rfl cd_A40 (nA (by decide)) hb8_ (by decide +kernel) (fun hc9_ => ?_)
  refine g_isub C (by decide +kernel) ?_
  refine g_mabs C (w32_c _) (ix := 62) lk_1007 lk_1008 lk_16 lk_1009 ⟨Nat.le_of_ble_eq_true rfl, Nat.le_of_ble_eq_true rfl, Nat.zero_le _, Nat.zero_le _⟩ (Nat.le_of_ble_eq_true rfl) (by decide +kernel) ?_
  refine g_bipush C 10 (by decide) (by decide +kernel) ?_
  refine g_idiv C (cK rfl) (by decide) (by decide +kernel) ?_
  refine g_mmin C (cK rfl) (i_c _) (ix := 68) lk_1010 lk_601 lk_16 lk_602 ⟨Nat.le_of_ble_eq_true rfl, Nat.le_of_ble_eq_true rfl, Nat.zero_le _, Nat.zero_le _⟩ (Nat.le_of_ble_eq_true rfl) (by decide +kernel) ?_
  refine g_iadd C (by decide +kernel) ?_
  obtain ⟨v10_, ev11_, h⟩ := lt_some h
  refine g_val ev11_.symm ?_
  have hv12_ : c32 v10_ := by rw [ev11_]; exact (w32_c _)
  refine s_istore C 5 (lo' := [(2, 37), (0, x1), (0, x2), (0, x3), (0, x4), (0, v10_)]) (by decide) (s1k (s1k (s1k (s1k (s1n (by decide) s1z))))) (by decide +kernel) ?_
  refine g_aload_n C 0 rfl (by decide +kernel) ?_
  refine g_getR C cl0 37 3 41 rfl cd_A37 ⟨by decide, rfl, by decide⟩ rfl rfl (nA (by decide)) (ix := 22) lk_278 (by decide +kernel) ?_
  refine g_iload_n C 2 rfl (by decide +kernel) ?_
  obtain ⟨hb13_, h⟩ := ck_some h
  refine g_iald C 41 hx2 rfl cd_A41 (nA (by decide)) hb13_ (by decide +kernel) (fun hc14_ => ?_)
  refine g_aload_n C 0 rfl (by decide +kernel) ?_
  refine g_getR C cl0 37 3 41 rfl cd_A37 ⟨by decide, rfl, by decide⟩ rfl rfl (nA (by decide)) (ix := 22) lk_278 (by decide +kernel) ?_
  refine g_iload C 4 rfl (by decide +kernel) ?_
  obtain ⟨hb15_, h⟩ := ck_some h
  refine g_iald C 41 hx4 rfl cd_A41 (nA (by decide)) hb15_ (by decide +kernel) (fun hc16_ => ?_)
  refine g_icmp_eq C (off := 6) (tgt := 120) hc14_ hc16_ (by decide +kernel) (by decide) (fun hc17_ => ?_) (fun hc17_ => ?_)
  · replace h := ite_t hc17_ h
    refine g_sub (lo2 := [(2, 37), (0, x1), (0, x2), (0, x3), (9, 0), (0, v10_)]) (lsb_v (lsb_v (lsb_v (lsb_v (lsb_c (lsb_v lsb_e)))))) ?_
    exact ok_Bo_setCost_b120 C hlk hr x1 x2 x3 v10_ d hx1 hx2 hx3 hv12_ h
  · replace h := ite_f hc17_ h
    refine s_iinc C 5 4 (lo' := [(2, 37), (0, x1), (0, x2), (0, x3), (0, x4), (0, (w32 (v10_ + 4)))]) rfl (by decide) (s1k (s1k (s1k (s1k (s1n (by decide) s1z))))) (by decide +kernel) ?_
    refine g_sub (lo2 := [(2, 37), (0, x1), (0, x2), (0, x3), (9, 0), (0, (w32 (v10_ + 4)))]) (lsb_v (lsb_v (lsb_v (lsb_v (lsb_c (lsb_v lsb_e)))))) ?_
    exact ok_Bo_setCost_b120 C hlk hr x1 x2 x3 (w32 (v10_ + 4)) d hx1 hx2 hx3 (w32_c _) h
set_option maxHeartbeats 4000000 in
theorem ok_Bo_setCost {l : Launch} {r : Int} {d' : Dt} (p1 p2 p3 : Int) (d : Dt) (hp1 : c32 p1) (hp2 : c32 p2) (hp3 : c32 p3) (h : L_Bo_setCost p1 p2 p3 d = some (r, d')) : MC l y_Bo_setCost prog_2_method_7_code 6 none rm_Bo_setCost 0 [(2, 37), (0, p1), (0, p2), (0, p3)] d none d' := by
  refine MC.of (by decide) (Nat.le_of_ble_eq_true rfl) ?_
  intro p e s m args below meth c D cA ad A C hlk hr
  replace C : Cx p s m args c prog_2_method_7_code 6 "PollBooks$Books" D cA ad 0 A := C
  show G p l e rm_Bo_setCost s m args below meth c 0 0 (MQ below (fun _ => QC D cA ad 0 A none none d') args s 0 0 A) 6 D cA ad 0 A 0 [(2, 37), (0, p1), (0, p2), (0, p3)] [] d
  refine g_sub (lo2 := [(2, 37), (0, p1), (0, p2), (0, p3), (9, 0), (9, 0)]) (lsb_v (lsb_v (lsb_v (lsb_v (lsb_n (lsb_n lsb_e)))))) ?_
  unfold L_Bo_setCost at h
  refine g_iload_n C 1 rfl (by decide +kernel) ?_
  refine g_bipush C 30 (by decide) (by decide +kernel) ?_
  refine g_imul C (by decide +kernel) ?_
  refine g_iload_n C 3 rfl (by decide +kernel) ?_
  refine g_iadd C (by decide +kernel) ?_
  obtain ⟨v18_, ev19_, h⟩ := lt_some h
  refine g_val ev19_.symm ?_
  have hv20_ : c32 v18_ := by rw [ev19_]; exact (w32_c _)
  refine s_istore C 4 (lo' := [(2, 37), (0, p1), (0, p2), (0, p3), (0, v18_), (9, 0)]) (by decide) (s1k (s1k (s1k (s1n (by decide) s1z)))) (by decide +kernel) ?_
  refine g_iconst C 3 (cK rfl) (by decide +kernel) ?_
  refine g_aload_n C 0 rfl (by decide +kernel) ?_
  refine g_getR C cl0 37 0 38 rfl cd_A37 ⟨by decide, rfl, by decide⟩ rfl rfl (nA (by decide)) (ix := 11) lk_272 (by decide +kernel) ?_
  refine g_iload_n C 2 rfl (by decide +kernel) ?_
  obtain ⟨hb21_, h⟩ := ck_some h
  refine g_lald C 38 hp2 rfl cd_A38 (nA (by decide)) hb21_ (by decide +kernel) (fun hc22_ => ?_)
  refine g_aload_n C 0 rfl (by decide +kernel) ?_
  refine g_getR C cl0 37 0 38 rfl cd_A37 ⟨by decide, rfl, by decide⟩ rfl rfl (nA (by decide)) (ix := 11) lk_272 (by decide +kernel) ?_
  refine g_iload C 4 rfl (by decide +kernel) ?_
  obtain ⟨hb23_, h⟩ := ck_some h
  refine g_lald C 38 hv20_ rfl cd_A38 (nA (by decide)) hb23_ (by decide +kernel) (fun hc24_ => ?_)
  refine g_aload_n C 0 rfl (by decide +kernel) ?_
  refine g_getR C cl0 37 11 48 rfl cd_A37 ⟨by decide, rfl, by decide⟩ rfl rfl (nA (by decide)) (ix := 47) lk_287 (by decide +kernel) ?_
  obtain ⟨r26_, d25_, hr27_, h⟩ := bd_some h
  refine g_callSN C mw_PB_lettersApart [(1, (d 38 p2.toNat)), (1, (d 38 v18_.toNat)), (2, 48)] (ok_PB_lettersApart 48 9 cd_A48 (by decide) (d 38 p2.toNat) (d 38 v18_.toNat) d hc22_ hc24_ hr27_) (ix := 58) lk_1006 lk_595 ⟨rfl, rfl, Nat.le_of_ble_eq_true rfl, Nat.le_of_ble_eq_true rfl⟩ rfl (rest := [(0, 3)]) rfl (Nat.le_of_ble_eq_true rfl) ⟨Nat.zero_le _, Nat.zero_le _⟩ (by decide +kernel) (fun _ hc28_ => ?_)
  replace hc28_ : c32 r26_ := hc28_
  refine g_st (st2 := [(0, r26_), (0, 3)]) rfl ?_
  refine g_imul C (by decide +kernel) ?_
  obtain ⟨v29_, ev30_, h⟩ := lt_some h
  refine g_val ev30_.symm ?_
  have hv31_ : c32 v29_ := by rw [ev30_]; exact (w32_c _)
  refine s_istore C 5 (lo' := [(2, 37), (0, p1), (0, p2), (0, p3), (0, v18_), (0, v29_)]) (by decide) (s1k (s1k (s1k (s1k (s1n (by decide) s1z))))) (by decide +kernel) ?_
  refine g_aload_n C 0 rfl (by decide +kernel) ?_
  refine g_getR C cl0 37 1 39 rfl cd_A37 ⟨by decide, rfl, by decide⟩ rfl rfl (nA (by decide)) (ix := 15) lk_274 (by decide +kernel) ?_
  refine g_iload_n C 2 rfl (by decide +kernel) ?_
  obtain ⟨hb32_, h⟩ := ck_some h
  refine g_iald C 39 hp2 rfl cd_A39 (nA (by decide)) hb32_ (by decide +kernel) (fun hc33_ => ?_)
  refine g_iconst C (-1) (cK rfl) (by decide +kernel) ?_
  refine g_icmp_eq C (off := 33) (tgt := 72) hc33_ (cK rfl) (by decide +kernel) (by decide) (fun hc34_ => ?_) (fun hc34_ => ?_)
  · replace h := ite_t hc34_ h
    refine g_sub (lo2 := [(2, 37), (0, p1), (0, p2), (0, p3), (0, v18_), (0, v29_)]) (lsb_v (lsb_v (lsb_v (lsb_v (lsb_v (lsb_v lsb_e)))))) ?_
    exact ok_Bo_setCost_b72 C hlk hr p1 p2 p3 v18_ v29_ d25_ hp1 hp2 hp3 hv20_ hv31_ h
  · replace h := ite_f hc34_ h
    refine g_aload_n C 0 rfl (by decide +kernel) ?_
    refine g_getR C cl0 37 1 39 rfl cd_A37 ⟨by decide, rfl, by decide⟩ rfl rfl (nA (by decide)) (ix := 15) lk_274 (by decide +kernel) ?_
    refine g_iload C 4 rfl (by decide +kernel) ?_
    obtain ⟨hb35_, h⟩ := ck_some h
    refine g_iald C 39 hv20_ rfl cd_A39 (nA (by decide)) hb35_ (by decide +kernel) (fun hc36_ => ?_)
    refine g_iconst C (-1) (cK rfl) (by decide +kernel) ?_
    refine g_icmp_eq C (off := 22) (tgt := 72) hc36_ (cK rfl) (by decide +kernel) (by decide) (fun hc37_ => ?_) (fun hc37_ => ?_)
    · replace h := ite_t hc37_ h
      refine g_sub (lo2 := [(2, 37), (0, p1), (0, p2), (0, p3), (0, v18_), (0, v29_)]) (lsb_v (lsb_v (lsb_v (lsb_v (lsb_v (lsb_v lsb_e)))))) ?_
      exact ok_Bo_setCost_b72 C hlk hr p1 p2 p3 v18_ v29_ d25_ hp1 hp2 hp3 hv20_ hv31_ h
    · replace h := ite_f hc37_ h
      refine g_aload_n C 0 rfl (by decide +kernel) ?_
      refine g_getR C cl0 37 1 39 rfl cd_A37 ⟨by decide, rfl, by decide⟩ rfl rfl (nA (by decide)) (ix := 15) lk_274 (by decide +kernel) ?_
      refine g_iload_n C 2 rfl (by decide +kernel) ?_
      obtain ⟨hb38_, h⟩ := ck_some h
      refine g_iald C 39 hp2 rfl cd_A39 (nA (by decide)) hb38_ (by decide +kernel) (fun hc39_ => ?_)
      refine g_aload_n C 0 rfl (by decide +kernel) ?_
      refine g_getR C cl0 37 1 39 rfl cd_A37 ⟨by decide, rfl, by decide⟩ rfl rfl (nA (by decide)) (ix := 15) lk_274 (by decide +kernel) ?_
      refine g_iload C 4 rfl (by decide +kernel) ?_
      obtain ⟨hb40_, h⟩ := ck_some h
      refine g_iald C 39 hv20_ rfl cd_A39 (nA (by decide)) hb40_ (by decide +kernel) (fun hc41_ => ?_)
      refine g_icmp_eq C (off := 6) (tgt := 72) hc39_ hc41_ (by decide +kernel) (by decide) (fun hc42_ => ?_) (fun hc42_ => ?_)
      · replace h := ite_t hc42_ h
        refine g_sub (lo2 := [(2, 37), (0, p1), (0, p2), (0, p3), (0, v18_), (0, v29_)]) (lsb_v (lsb_v (lsb_v (lsb_v (lsb_v (lsb_v lsb_e)))))) ?_
        exact ok_Bo_setCost_b72 C hlk hr p1 p2 p3 v18_ v29_ d25_ hp1 hp2 hp3 hv20_ hv31_ h
      · replace h := ite_f hc42_ h
        refine s_iinc C 5 2 (lo' := [(2, 37), (0, p1), (0, p2), (0, p3), (0, v18_), (0, (w32 (v29_ + 2)))]) rfl (by decide) (s1k (s1k (s1k (s1k (s1n (by decide) s1z))))) (by decide +kernel) ?_
        refine g_sub (lo2 := [(2, 37), (0, p1), (0, p2), (0, p3), (0, v18_), (0, (w32 (v29_ + 2)))]) (lsb_v (lsb_v (lsb_v (lsb_v (lsb_v (lsb_v lsb_e)))))) ?_
        exact ok_Bo_setCost_b72 C hlk hr p1 p2 p3 v18_ (w32 (v29_ + 2)) d25_ hp1 hp2 hp3 hv20_ (w32_c _) h
/-! PollBooks$Books.costAgainstOthers(I)V -/
def y_Bo_costAgainstOthers : MethodName := ⟨"PollBooks$Books", "costAgainstOthers", "(I)V"⟩
def rm_Bo_costAgainstOthers : Room := { frames := 3, cells := 0, slots := 0, locals := 80 }
theorem mw_Bo_costAgainstOthers : MW y_Bo_costAgainstOthers prog_2_method_5_code 4 none 1 := ⟨lk_1001, lk_9, by decide +kernel⟩
def L_Bo_costAgainstOthers_y9 (x1 x2 x3 : Int) (d : Dt) : Option ((Int × Int × Int × Dt) ⊕ ((Int × Int × Dt))) :=
  ck ((0 : Int) ≤ x2 ∧ x2 < 3) (if x3 < (d 42 x2.toNat) then bd (L_Bo_setCost x2 x1 x3 d) (fun r5_ d4_ => some (Sum.inl (x1, x2, (w32 (x3 + 1)), d4_))) else some (Sum.inr (x1, x2, d)))
def L_Bo_costAgainstOthers_l9 (x1 x2 x3 : Int) (d : Dt) : Option ((Int × Int × Dt)) := lpF (fun q : Int × Int × Int × Dt => L_Bo_costAgainstOthers_y9 q.1 q.2.1 q.2.2.1 q.2.2.2) FU (x1, x2, x3, d)
def L_Bo_costAgainstOthers_y2 (x1 x2 : Int) (d : Dt) : Option ((Int × Int × Dt) ⊕ ((Dt))) :=
  if x2 < 3 then lb (L_Bo_costAgainstOthers_l9 x1 x2 0 d) (fun q15_ => u2 q15_ (fun v11_ v12_ d13_ => some (Sum.inl (v11_, (w32 (v12_ + 1)), d13_)))) else some (Sum.inr (d))
def L_Bo_costAgainstOthers_l2 (x1 x2 : Int) (d : Dt) : Option ((Dt)) := lpF (fun q : Int × Int × Dt => L_Bo_costAgainstOthers_y2 q.1 q.2.1 q.2.2) FU (x1, x2, d)
def L_Bo_costAgainstOthers (p1 : Int) (d : Dt) : Option (Int × Dt) :=
  lb (L_Bo_costAgainstOthers_l2 p1 1 d) (fun q20_ => u0 q20_ (fun d18_ => some (0, d18_)))
set_option maxHeartbeats 4000000 in
theorem ok_Bo_costAgainstOthers_y9 {p : Program} {l : Launch} {e : Env} {s : State} {m : MethodId} {args : Array Value} {below : List Frame} {meth : Method} {c : Code} {D : va_G} {cA : Nat → ClassId} {ad : Nat → Nat} {A : Nat → Prop} (C : Cx p s m args c prog_2_method_5_code 4 "PollBooks$Books" D cA ad 0 A) {Q : State → Prop} {o : (Int × Int × Int × Dt) ⊕ ((Int × Int × Dt))} (x1 x2 x3 : Int) (d : Dt) (hx1 : c32 x1) (hx2 : c32 x2) (hx3 : c32 x3) (h : L_Bo_costAgainstOthers_y9 x1 x2 x3 d = some o) (kb : ∀ (y0 y1 y2 : Int) (e' : Dt), o = .inl (y0, y1, y2, e') → c32 y0 → c32 y1 → c32 y2 → G p l e rm_Bo_costAgainstOthers s m args below meth c 0 0 Q 4 D cA ad 0 A 9 [(2, 37), (0, y0), (0, y1), (0, y2)] [] e') (k0 : ∀ (y0 y1 : Int) (e' : Dt), o = .inr (y0, y1, e') → c32 y0 → c32 y1 → G p l e rm_Bo_costAgainstOthers s m args below meth c 0 0 Q 4 D cA ad 0 A 32 [(2, 37), (0, y0), (0, y1), (9, 0)] [] e') : G p l e rm_Bo_costAgainstOthers s m args below meth c 0 0 Q 4 D cA ad 0 A 9 [(2, 37), (0, x1), (0, x2), (0, x3)] [] d := by
  unfold L_Bo_costAgainstOthers_y9 at h
  refine g_iload_n C 3 rfl (by decide +kernel) ?_
  refine g_aload_n C 0 rfl (by decide +kernel) ?_
  refine g_getR C cl0 37 4 42 rfl cd_A37 ⟨by decide, rfl, by decide⟩ rfl rfl (nA (by decide)) (ix := 25) lk_279 (by decide +kernel) ?_
  refine g_iload_n C 2 rfl (by decide +kernel) ?_
  obtain ⟨hb1_, h⟩ := ck_some h
  refine g_iald C 42 hx2 rfl cd_A42 (nA (by decide)) hb1_ (by decide +kernel) (fun hc2_ => ?_)
  refine g_icmp_ge C (off := 16) (tgt := 32) hx3 hc2_ (by decide +kernel) (by decide) (fun hc3_ => ?_) (fun hc3_ => ?_)
  · replace h := ite_t hc3_ h
    refine g_aload_n C 0 rfl (by decide +kernel) ?_
    refine g_iload_n C 2 rfl (by decide +kernel) ?_
    refine g_iload_n C 1 rfl (by decide +kernel) ?_
    refine g_iload_n C 3 rfl (by decide +kernel) ?_
    obtain ⟨r5_, d4_, hr6_, h⟩ := bd_some h
    refine g_callV C mw_Bo_setCost [(0, x2), (0, x1), (0, x3)] 37 cl0 rfl (ok_Bo_setCost x2 x1 x3 d hx2 hx1 hx3 hr6_) cd_A37 (by decide) (nA (by decide)) (ix := 54) lk_1002 lk_1004 lkp_36 ⟨rfl, rfl, Nat.le_of_ble_eq_true rfl, Nat.le_of_ble_eq_true rfl⟩ rfl (rest := []) rfl (Nat.le_of_ble_eq_true rfl) ⟨Nat.zero_le _, Nat.zero_le _⟩ (by decide +kernel) (fun _ hc7_ => ?_)
    refine g_st (st2 := []) rfl ?_
    refine s_iinc C 3 1 (lo' := [(2, 37), (0, x1), (0, x2), (0, (w32 (x3 + 1)))]) rfl (by decide) (s1k (s1k (s1n (by decide) s1z))) (by decide +kernel) ?_
    refine g_goto C 9 (off := (-20)) (by decide +kernel) (by decide) ?_
    refine g_sub (lo2 := [(2, 37), (0, x1), (0, x2), (0, (w32 (x3 + 1)))]) (lsb_v (lsb_v (lsb_v (lsb_v lsb_e)))) ?_
    obtain rfl := Option.some.inj h
    exact kb x1 x2 (w32 (x3 + 1)) d4_ rfl hx1 hx2 (w32_c _)
  · replace h := ite_f hc3_ h
    refine g_sub (lo2 := [(2, 37), (0, x1), (0, x2), (9, 0)]) (lsb_v (lsb_v (lsb_v (lsb_c lsb_e)))) ?_
    obtain rfl := Option.some.inj h
    exact k0 x1 x2 d rfl hx1 hx2
set_option maxHeartbeats 4000000 in
theorem ok_Bo_costAgainstOthers_n9 {p : Program} {l : Launch} {e : Env} {s : State} {m : MethodId} {args : Array Value} {below : List Frame} {meth : Method} {c : Code} {D : va_G} {cA : Nat → ClassId} {ad : Nat → Nat} {A : Nat → Prop} (C : Cx p s m args c prog_2_method_5_code 4 "PollBooks$Books" D cA ad 0 A) {Q : State → Prop} {x : (Int × Int × Dt)} : ∀ (n : Nat) (x1 x2 x3 : Int) (d : Dt), c32 x1 → c32 x2 → c32 x3 → lpF (fun q : Int × Int × Int × Dt => L_Bo_costAgainstOthers_y9 q.1 q.2.1 q.2.2.1 q.2.2.2) n (x1, x2, x3, d) = some x → (∀ (y0 y1 : Int) (e' : Dt), x = (y0, y1, e') → c32 y0 → c32 y1 → G p l e rm_Bo_costAgainstOthers s m args below meth c 0 0 Q 4 D cA ad 0 A 32 [(2, 37), (0, y0), (0, y1), (9, 0)] [] e') → G p l e rm_Bo_costAgainstOthers s m args below meth c 0 0 Q 4 D cA ad 0 A 9 [(2, 37), (0, x1), (0, x2), (0, x3)] [] d := by
  intro n
  induction n with
  | zero => intro x1 x2 x3 d g0 g1 g2 h k0; cases h
  | succ n ih =>
    intro x1 x2 x3 d g0 g1 g2 h k0
    rcases lpF_some h with h | ⟨⟨v0_, v1_, v2_, e0_⟩, h1, h⟩
    · exact ok_Bo_costAgainstOthers_y9 C x1 x2 x3 d g0 g1 g2 h (fun z0_ z1_ z2_ e1_ eq w0_ w1_ w2_ => by cases eq) (fun z0_ z1_ e1_ eq w0_ w1_ => k0 _ _ _ (by cases eq; rfl) w0_ w1_)
    · exact ok_Bo_costAgainstOthers_y9 C x1 x2 x3 d g0 g1 g2 h1 (fun z0_ z1_ z2_ e1_ eq w0_ w1_ w2_ => by cases eq; exact ih _ _ _ _ w0_ w1_ w2_ h k0) (fun z0_ z1_ e1_ eq w0_ w1_ => by cases eq)
set_option maxHeartbeats 4000000 in
theorem ok_Bo_costAgainstOthers_l9 {p : Program} {l : Launch} {e : Env} {s : State} {m : MethodId} {args : Array Value} {below : List Frame} {meth : Method} {c : Code} {D : va_G} {cA : Nat → ClassId} {ad : Nat → Nat} {A : Nat → Prop} (C : Cx p s m args c prog_2_method_5_code 4 "PollBooks$Books" D cA ad 0 A) {Q : State → Prop} {x : (Int × Int × Dt)} (x1 x2 x3 : Int) (d : Dt) (hx1 : c32 x1) (hx2 : c32 x2) (hx3 : c32 x3) (h : L_Bo_costAgainstOthers_l9 x1 x2 x3 d = some x) (k0 : ∀ (y0 y1 : Int) (e' : Dt), x = (y0, y1, e') → c32 y0 → c32 y1 → G p l e rm_Bo_costAgainstOthers s m args below meth c 0 0 Q 4 D cA ad 0 A 32 [(2, 37), (0, y0), (0, y1), (9, 0)] [] e') : G p l e rm_Bo_costAgainstOthers s m args below meth c 0 0 Q 4 D cA ad 0 A 9 [(2, 37), (0, x1), (0, x2), (0, x3)] [] d :=
  ok_Bo_costAgainstOthers_n9 C FU x1 x2 x3 d hx1 hx2 hx3 h k0
set_option maxHeartbeats 4000000 in
theorem ok_Bo_costAgainstOthers_y2 {p : Program} {l : Launch} {e : Env} {s : State} {m : MethodId} {args : Array Value} {below : List Frame} {meth : Method} {c : Code} {D : va_G} {cA : Nat → ClassId} {ad : Nat → Nat} {A : Nat → Prop} (C : Cx p s m args c prog_2_method_5_code 4 "PollBooks$Books" D cA ad 0 A) {Q : State → Prop} {o : (Int × Int × Dt) ⊕ ((Dt))} (x1 x2 : Int) (d : Dt) (hx1 : c32 x1) (hx2 : c32 x2) (h : L_Bo_costAgainstOthers_y2 x1 x2 d = some o) (kb : ∀ (y0 y1 : Int) (e' : Dt), o = .inl (y0, y1, e') → c32 y0 → c32 y1 → G p l e rm_Bo_costAgainstOthers s m args below meth c 0 0 Q 4 D cA ad 0 A 2 [(2, 37), (0, y0), (0, y1), (9, 0)] [] e') (k0 : ∀ (e' : Dt), o = .inr (e') → G p l e rm_Bo_costAgainstOthers s m args below meth c 0 0 Q 4 D cA ad 0 A 38 [(9, 0), (9, 0), (9, 0), (9, 0)] [] e') : G p l e rm_Bo_costAgainstOthers s m args below meth c 0 0 Q 4 D cA ad 0 A 2 [(2, 37), (0, x1), (0, x2), (9, 0)] [] d := by
  unfold L_Bo_costAgainstOthers_y2 at h
  refine g_iload_n C 2 rfl (by decide +kernel) ?_
  refine g_iconst C 3 (cK rfl) (by decide +kernel) ?_
  refine g_icmp_ge C (off := 34) (tgt := 38) hx2 (cK rfl) (by decide +kernel) (by decide) (fun hc8_ => ?_) (fun hc8_ => ?_)
  · replace h := ite_t hc8_ h
    refine g_iconst C 0 (cK rfl) (by decide +kernel) ?_
    refine s_istore_n C 3 (lo' := [(2, 37), (0, x1), (0, x2), (0, 0)]) (by decide) (s1k (s1k (s1n (by decide) s1z))) (by decide +kernel) ?_
    refine g_sub (lo2 := [(2, 37), (0, x1), (0, x2), (0, 0)]) (lsb_v (lsb_v (lsb_v (lsb_v lsb_e)))) ?_
    obtain ⟨x9_, hx10_, h⟩ := lb_some h
    refine ok_Bo_costAgainstOthers_l9 C x1 x2 0 d hx1 hx2 (c32_cb (Or.inl rfl)) hx10_ (fun v11_ v12_ d13_ eq14_ hv11_ hv12_ => ?_)
    subst eq14_
    replace h := u2_e h
    refine s_iinc C 2 1 (lo' := [(2, 37), (0, v11_), (0, (w32 (v12_ + 1))), (9, 0)]) rfl (by decide) (s1k (s1n (by decide) s1z)) (by decide +kernel) ?_
    refine g_goto C 2 (off := (-33)) (by decide +kernel) (by decide) ?_
    refine g_sub (lo2 := [(2, 37), (0, v11_), (0, (w32 (v12_ + 1))), (9, 0)]) (lsb_v (lsb_v (lsb_v (lsb_c lsb_e)))) ?_
    obtain rfl := Option.some.inj h
    exact kb v11_ (w32 (v12_ + 1)) d13_ rfl hv11_ (w32_c _)
  · replace h := ite_f hc8_ h
    refine g_sub (lo2 := [(9, 0), (9, 0), (9, 0), (9, 0)]) (lsb_c (lsb_c (lsb_c (lsb_c lsb_e)))) ?_
    obtain rfl := Option.some.inj h
    exact k0 d rfl 
set_option maxHeartbeats 4000000 in
theorem ok_Bo_costAgainstOthers_n2 {p : Program} {l : Launch} {e : Env} {s : State} {m : MethodId} {args : Array Value} {below : List Frame} {meth : Method} {c : Code} {D : va_G} {cA : Nat → ClassId} {ad : Nat → Nat} {A : Nat → Prop} (C : Cx p s m args c prog_2_method_5_code 4 "PollBooks$Books" D cA ad 0 A) {Q : State → Prop} {x : (Dt)} : ∀ (n : Nat) (x1 x2 : Int) (d : Dt), c32 x1 → c32 x2 → lpF (fun q : Int × Int × Dt => L_Bo_costAgainstOthers_y2 q.1 q.2.1 q.2.2) n (x1, x2, d) = some x → (∀ (e' : Dt), x = (e') → G p l e rm_Bo_costAgainstOthers s m args below meth c 0 0 Q 4 D cA ad 0 A 38 [(9, 0), (9, 0), (9, 0), (9, 0)] [] e') → G p l e rm_Bo_costAgainstOthers s m args below meth c 0 0 Q 4 D cA ad 0 A 2 [(2, 37), (0, x1), (0, x2), (9, 0)] [] d := by
  intro n
  induction n with
  | zero => intro x1 x2 d g0 g1 h k0; cases h
  | succ n ih =>
    intro x1 x2 d g0 g1 h k0
    rcases lpF_some h with h | ⟨⟨v0_, v1_, e0_⟩, h1, h⟩
    · exact ok_Bo_costAgainstOthers_y2 C x1 x2 d g0 g1 h (fun z0_ z1_ e1_ eq w0_ w1_ => by cases eq) (fun e1_ eq => k0 _ (by cases eq; rfl) )
    · exact ok_Bo_costAgainstOthers_y2 C x1 x2 d g0 g1 h1 (fun z0_ z1_ e1_ eq w0_ w1_ => by cases eq; exact ih _ _ _ w0_ w1_ h k0) (fun e1_ eq => by cases eq)
set_option maxHeartbeats 4000000 in
theorem ok_Bo_costAgainstOthers_l2 {p : Program} {l : Launch} {e : Env} {s : State} {m : MethodId} {args : Array Value} {below : List Frame} {meth : Method} {c : Code} {D : va_G} {cA : Nat → ClassId} {ad : Nat → Nat} {A : Nat → Prop} (C : Cx p s m args c prog_2_method_5_code 4 "PollBooks$Books" D cA ad 0 A) {Q : State → Prop} {x : (Dt)} (x1 x2 : Int) (d : Dt) (hx1 : c32 x1) (hx2 : c32 x2) (h : L_Bo_costAgainstOthers_l2 x1 x2 d = some x) (k0 : ∀ (e' : Dt), x = (e') → G p l e rm_Bo_costAgainstOthers s m args below meth c 0 0 Q 4 D cA ad 0 A 38 [(9, 0), (9, 0), (9, 0), (9, 0)] [] e') : G p l e rm_Bo_costAgainstOthers s m args below meth c 0 0 Q 4 D cA ad 0 A 2 [(2, 37), (0, x1), (0, x2), (9, 0)] [] d :=
  ok_Bo_costAgainstOthers_n2 C FU x1 x2 d hx1 hx2 h k0
set_option maxHeartbeats 4000000 in
theorem ok_Bo_costAgainstOthers {l : Launch} {r : Int} {d' : Dt} (p1 : Int) (d : Dt) (hp1 : c32 p1) (h : L_Bo_costAgainstOthers p1 d = some (r, d')) : MC l y_Bo_costAgainstOthers prog_2_method_5_code 4 none rm_Bo_costAgainstOthers 0 [(2, 37), (0, p1)] d none d' := by
  refine MC.of (by decide) (Nat.le_of_ble_eq_true rfl) ?_
  intro p e s m args below meth c D cA ad A C hlk hr
  replace C : Cx p s m args c prog_2_method_5_code 4 "PollBooks$Books" D cA ad 0 A := C
  show G p l e rm_Bo_costAgainstOthers s m args below meth c 0 0 (MQ below (fun _ => QC D cA ad 0 A none none d') args s 0 0 A) 4 D cA ad 0 A 0 [(2, 37), (0, p1)] [] d
  refine g_sub (lo2 := [(2, 37), (0, p1), (9, 0), (9, 0)]) (lsb_v (lsb_v (lsb_n (lsb_n lsb_e)))) ?_
  unfold L_Bo_costAgainstOthers at h
  refine g_iconst C 1 (cK rfl) (by decide +kernel) ?_
  refine s_istore_n C 2 (lo' := [(2, 37), (0, p1), (0, 1), (9, 0)]) (by decide) (s1k (s1n (by decide) s1z)) (by decide +kernel) ?_
  refine g_sub (lo2 := [(2, 37), (0, p1), (0, 1), (9, 0)]) (lsb_v (lsb_v (lsb_v (lsb_c lsb_e)))) ?_
  obtain ⟨x16_, hx17_, h⟩ := lb_some h
  refine ok_Bo_costAgainstOthers_l2 C p1 1 d hp1 (c32_cb (Or.inr rfl)) hx17_ (fun d18_ eq19_ => ?_)
  replace eq19_ := eq19_.symm
  subst eq19_
  replace h := u0_e h
  obtain ⟨rfl, rfl⟩ := ret_inj h
  exact g_vret C hlk hr (by decide +kernel)
/-! PollBooks$Books.add(IJIII)I -/
def y_Bo_add : MethodName := ⟨"PollBooks$Books", "add", "(IJIII)I"⟩
def rm_Bo_add : Room := { frames := 4, cells := 0, slots := 0, locals := 103 }
theorem mw_Bo_add : MW y_Bo_add prog_2_method_4_code 10 (some .int) 5 := ⟨lk_997, lk_9, by decide +kernel⟩
def L_Bo_add_y83 (x1 x7 x9 : Int) (d : Dt) : Option ((Int × Int × Int × Dt) ⊕ ((Int × Dt))) :=
  if x9 < (d 42 0) then bd (L_Bo_setCost x1 x9 x7 d) (fun r4_ d3_ => some (Sum.inl (x1, x7, (w32 (x9 + 1)), d3_))) else some (Sum.inr (x7, d))
def L_Bo_add_l83 (x1 x7 x9 : Int) (d : Dt) : Option ((Int × Dt)) := lpF (fun q : Int × Int × Int × Dt => L_Bo_add_y83 q.1 q.2.1 q.2.2.1 q.2.2.2) FU (x1, x7, x9, d)
def L_Bo_add (p1 p2 p3 p4 p5 : Int) (d : Dt) : Option (Int × Dt) :=
  ck ((0 : Int) ≤ p1 ∧ p1 < 3) (lt_ (d 42 p1.toNat) (fun v9_ => lt_ (w32 ((w32 (p1 * 30)) + v9_)) (fun v12_ => ck ((0 : Int) ≤ v12_ ∧ v12_ < 90) (ck ((0 : Int) ≤ v12_ ∧ v12_ < 90) (ck ((0 : Int) ≤ v12_ ∧ v12_ < 90) (ck ((0 : Int) ≤ v12_ ∧ v12_ < 90) (ck ((0 : Int) ≤ p1 ∧ p1 < 3) (ck ((0 : Int) ≤ p1 ∧ p1 < 3) (if p1 = 0 then bd (L_Bo_costAgainstOthers v9_ (up2 (up2 (up2 (up2 (up2 (up2 d 38 v12_.toNat p2) 39 v12_.toNat p3) 40 v12_.toNat p4) 41 v12_.toNat p5) 42 p1.toNat (w32 ((d 42 p1.toNat) + 1))) 37 10 0)) (fun r24_ d23_ => some (v9_, d23_)) else lb (L_Bo_add_l83 p1 v9_ 0 (up2 (up2 (up2 (up2 (up2 (up2 d 38 v12_.toNat p2) 39 v12_.toNat p3) 40 v12_.toNat p4) 41 v12_.toNat p5) 42 p1.toNat (w32 ((d 42 p1.toNat) + 1))) 37 10 0)) (fun q32_ => u1 q32_ (fun v29_ d30_ => some (v29_, d30_))))))))))))
set_option maxHeartbeats 4000000 in
theorem ok_Bo_add_y83 {p : Program} {l : Launch} {e : Env} {s : State} {m : MethodId} {args : Array Value} {below : List Frame} {meth : Method} {c : Code} {D : va_G} {cA : Nat → ClassId} {ad : Nat → Nat} {A : Nat → Prop} (C : Cx p s m args c prog_2_method_4_code 10 "PollBooks$Books" D cA ad 0 A) {Q : State → Prop} {o : (Int × Int × Int × Dt) ⊕ ((Int × Dt))} (x1 x7 x9 : Int) (d : Dt) (hx1 : c32 x1) (hx7 : c32 x7) (hx9 : c32 x9) (h : L_Bo_add_y83 x1 x7 x9 d = some o) (kb : ∀ (y0 y1 y2 : Int) (e' : Dt), o = .inl (y0, y1, y2, e') → c32 y0 → c32 y1 → c32 y2 → G p l e rm_Bo_add s m args below meth c 0 0 Q 10 D cA ad 0 A 83 [(2, 37), (0, y0), (9, 0), (9, 0), (9, 0), (9, 0), (9, 0), (0, y1), (9, 0), (0, y2)] [] e') (k0 : ∀ (y0 : Int) (e' : Dt), o = .inr (y0, e') → c32 y0 → G p l e rm_Bo_add s m args below meth c 0 0 Q 10 D cA ad 0 A 109 [(9, 0), (9, 0), (9, 0), (9, 0), (9, 0), (9, 0), (9, 0), (0, y0), (9, 0), (9, 0)] [] e') : G p l e rm_Bo_add s m args below meth c 0 0 Q 10 D cA ad 0 A 83 [(2, 37), (0, x1), (9, 0), (9, 0), (9, 0), (9, 0), (9, 0), (0, x7), (9, 0), (0, x9)] [] d := by
  unfold L_Bo_add_y83 at h
  refine g_iload C 9 rfl (by decide +kernel) ?_
  refine g_aload_n C 0 rfl (by decide +kernel) ?_
  refine g_getR C cl0 37 4 42 rfl cd_A37 ⟨by decide, rfl, by decide⟩ rfl rfl (nA (by decide)) (ix := 25) lk_279 (by decide +kernel) ?_
  refine g_iconst C 0 (cK rfl) (by decide +kernel) ?_
  refine g_iald C 42 (c32_cb (Or.inl rfl)) rfl cd_A42 (nA (by decide)) (by decide) (by decide +kernel) (fun hc1_ => ?_)
  refine g_val (y := (d 42 0)) rfl ?_
  replace hc1_ : c32 (d 42 0) := hc1_
  refine g_icmp_ge C (off := 18) (tgt := 109) hx9 hc1_ (by decide +kernel) (by decide) (fun hc2_ => ?_) (fun hc2_ => ?_)
  · replace h := ite_t hc2_ h
    refine g_aload_n C 0 rfl (by decide +kernel) ?_
    refine g_iload_n C 1 rfl (by decide +kernel) ?_
    refine g_iload C 9 rfl (by decide +kernel) ?_
    refine g_iload C 7 rfl (by decide +kernel) ?_
    obtain ⟨r4_, d3_, hr5_, h⟩ := bd_some h
    refine g_callV C mw_Bo_setCost [(0, x1), (0, x9), (0, x7)] 37 cl0 rfl (ok_Bo_setCost x1 x9 x7 d hx1 hx9 hx7 hr5_) cd_A37 (by decide) (nA (by decide)) (ix := 54) lk_1002 lk_1004 lkp_36 ⟨rfl, rfl, Nat.le_of_ble_eq_true rfl, Nat.le_of_ble_eq_true rfl⟩ rfl (rest := []) rfl (Nat.le_of_ble_eq_true rfl) ⟨Nat.zero_le _, Nat.zero_le _⟩ (by decide +kernel) (fun _ hc6_ => ?_)
    refine g_st (st2 := []) rfl ?_
    refine s_iinc C 9 1 (lo' := [(2, 37), (0, x1), (9, 0), (9, 0), (9, 0), (9, 0), (9, 0), (0, x7), (9, 0), (0, (w32 (x9 + 1)))]) rfl (by decide) (s1k (s1k (s1k (s1k (s1k (s1k (s1k (s1k (s1n (by decide) s1z))))))))) (by decide +kernel) ?_
    refine g_goto C 83 (off := (-23)) (by decide +kernel) (by decide) ?_
    refine g_sub (lo2 := [(2, 37), (0, x1), (9, 0), (9, 0), (9, 0), (9, 0), (9, 0), (0, x7), (9, 0), (0, (w32 (x9 + 1)))]) (lsb_v (lsb_v (lsb_c (lsb_c (lsb_c (lsb_c (lsb_c (lsb_v (lsb_c (lsb_v lsb_e)))))))))) ?_
    obtain rfl := Option.some.inj h
    exact kb x1 x7 (w32 (x9 + 1)) d3_ rfl hx1 hx7 (w32_c _)
  · replace h := ite_f hc2_ h
    refine g_sub (lo2 := [(9, 0), (9, 0), (9, 0), (9, 0), (9, 0), (9, 0), (9, 0), (0, x7), (9, 0), (9, 0)]) (lsb_c (lsb_c (lsb_c (lsb_c (lsb_c (lsb_c (lsb_c (lsb_v (lsb_c (lsb_c lsb_e)))))))))) ?_
    obtain rfl := Option.some.inj h
    exact k0 x7 d rfl hx7
set_option maxHeartbeats 4000000 in
theorem ok_Bo_add_n83 {p : Program} {l : Launch} {e : Env} {s : State} {m : MethodId} {args : Array Value} {below : List Frame} {meth : Method} {c : Code} {D : va_G} {cA : Nat → ClassId} {ad : Nat → Nat} {A : Nat → Prop} (C : Cx p s m args c prog_2_method_4_code 10 "PollBooks$Books" D cA ad 0 A) {Q : State → Prop} {x : (Int × Dt)} : ∀ (n : Nat) (x1 x7 x9 : Int) (d : Dt), c32 x1 → c32 x7 → c32 x9 → lpF (fun q : Int × Int × Int × Dt => L_Bo_add_y83 q.1 q.2.1 q.2.2.1 q.2.2.2) n (x1, x7, x9, d) = some x → (∀ (y0 : Int) (e' : Dt), x = (y0, e') → c32 y0 → G p l e rm_Bo_add s m args below meth c 0 0 Q 10 D cA ad 0 A 109 [(9, 0), (9, 0), (9, 0), (9, 0), (9, 0), (9, 0), (9, 0), (0, y0), (9, 0), (9, 0)] [] e') → G p l e rm_Bo_add s m args below meth c 0 0 Q 10 D cA ad 0 A 83 [(2, 37), (0, x1), (9, 0), (9, 0), (9, 0), (9, 0), (9, 0), (0, x7), (9, 0), (0, x9)] [] d := by
  intro n
  induction n with
  | zero => intro x1 x7 x9 d g0 g1 g2 h k0; cases h
  | succ n ih =>
    intro x1 x7 x9 d g0 g1 g2 h k0
    rcases lpF_some h with h | ⟨⟨v0_, v1_, v2_, e0_⟩, h1, h⟩
    · exact ok_Bo_add_y83 C x1 x7 x9 d g0 g1 g2 h (fun z0_ z1_ z2_ e1_ eq w0_ w1_ w2_ => by cases eq) (fun z0_ e1_ eq w0_ => k0 _ _ (by cases eq; rfl) w0_)
    · exact ok_Bo_add_y83 C x1 x7 x9 d g0 g1 g2 h1 (fun z0_ z1_ z2_ e1_ eq w0_ w1_ w2_ => by cases eq; exact ih _ _ _ _ w0_ w1_ w2_ h k0) (fun z0_ e1_ eq w0_ => by cases eq)
set_option maxHeartbeats 4000000 in
theorem ok_Bo_add_l83 {p : Program} {l : Launch} {e : Env} {s : State} {m : MethodId} {args : Array Value} {below : List Frame} {meth : Method} {c : Code} {D : va_G} {cA : Nat → ClassId} {ad : Nat → Nat} {A : Nat → Prop} (C : Cx p s m args c prog_2_method_4_code 10 "PollBooks$Books" D cA ad 0 A) {Q : State → Prop} {x : (Int × Dt)} (x1 x7 x9 : Int) (d : Dt) (hx1 : c32 x1) (hx7 : c32 x7) (hx9 : c32 x9) (h : L_Bo_add_l83 x1 x7 x9 d = some x) (k0 : ∀ (y0 : Int) (e' : Dt), x = (y0, e') → c32 y0 → G p l e rm_Bo_add s m args below meth c 0 0 Q 10 D cA ad 0 A 109 [(9, 0), (9, 0), (9, 0), (9, 0), (9, 0), (9, 0), (9, 0), (0, y0), (9, 0), (9, 0)] [] e') : G p l e rm_Bo_add s m args below meth c 0 0 Q 10 D cA ad 0 A 83 [(2, 37), (0, x1), (9, 0), (9, 0), (9, 0), (9, 0), (9, 0), (0, x7), (9, 0), (0, x9)] [] d :=
  ok_Bo_add_n83 C FU x1 x7 x9 d hx1 hx7 hx9 h k0
set_option maxHeartbeats 4000000 in
theorem ok_Bo_add {l : Launch} {r : Int} {d' : Dt} (p1 p2 p3 p4 p5 : Int) (d : Dt) (hp1 : c32 p1) (hp2 : c64 p2) (hp3 : c32 p3) (hp4 : c32 p4) (hp5 : c32 p5) (h : L_Bo_add p1 p2 p3 p4 p5 d = some (r, d')) : MC l y_Bo_add prog_2_method_4_code 10 (some .int) rm_Bo_add 0 [(2, 37), (0, p1), (1, p2), (0, p3), (0, p4), (0, p5)] d (some (0, r)) d' := by
  refine MC.of (by decide) (Nat.le_of_ble_eq_true rfl) ?_
  intro p e s m args below meth c D cA ad A C hlk hr
  replace C : Cx p s m args c prog_2_method_4_code 10 "PollBooks$Books" D cA ad 0 A := C
  show G p l e rm_Bo_add s m args below meth c 0 0 (MQ below (fun _ => QC D cA ad 0 A (some .int) (some (0, r)) d') args s 0 0 A) 10 D cA ad 0 A 0 [(2, 37), (0, p1), (1, p2), (9, 0), (0, p3), (0, p4), (0, p5)] [] d
  refine g_sub (lo2 := [(2, 37), (0, p1), (1, p2), (9, 0), (0, p3), (0, p4), (0, p5), (9, 0), (9, 0), (9, 0)]) (lsb_v (lsb_v (lsb_v (lsb_c (lsb_v (lsb_v (lsb_v (lsb_n (lsb_n (lsb_n lsb_e)))))))))) ?_
  unfold L_Bo_add at h
  refine g_aload_n C 0 rfl (by decide +kernel) ?_
  refine g_getR C cl0 37 4 42 rfl cd_A37 ⟨by decide, rfl, by decide⟩ rfl rfl (nA (by decide)) (ix := 25) lk_279 (by decide +kernel) ?_
  refine g_iload_n C 1 rfl (by decide +kernel) ?_
  obtain ⟨hb7_, h⟩ := ck_some h
  refine g_iald C 42 hp1 rfl cd_A42 (nA (by decide)) hb7_ (by decide +kernel) (fun hc8_ => ?_)
  obtain ⟨v9_, ev10_, h⟩ := lt_some h
  refine g_val ev10_.symm ?_
  have hv11_ : c32 v9_ := by rw [ev10_]; exact hc8_
  refine s_istore C 7 (lo' := [(2, 37), (0, p1), (1, p2), (9, 0), (0, p3), (0, p4), (0, p5), (0, v9_), (9, 0), (9, 0)]) (by decide) (s1k (s1k (s1k (s1k (s1k (s1k (s1n (by decide) s1z))))))) (by decide +kernel) ?_
  refine g_iload_n C 1 rfl (by decide +kernel) ?_
  refine g_bipush C 30 (by decide) (by decide +kernel) ?_
  refine g_imul C (by decide +kernel) ?_
  refine g_iload C 7 rfl (by decide +kernel) ?_
  refine g_iadd C (by decide +kernel) ?_
  obtain ⟨v12_, ev13_, h⟩ := lt_some h
  refine g_val ev13_.symm ?_
  have hv14_ : c32 v12_ := by rw [ev13_]; exact (w32_c _)
  refine s_istore C 8 (lo' := [(2, 37), (0, p1), (1, p2), (9, 0), (0, p3), (0, p4), (0, p5), (0, v9_), (0, v12_), (9, 0)]) (by decide) (s1k (s1k (s1k (s1k (s1k (s1k (s1k (s1n (by decide) s1z)))))))) (by decide +kernel) ?_
  refine g_aload_n C 0 rfl (by decide +kernel) ?_
  refine g_getR C cl0 37 0 38 rfl cd_A37 ⟨by decide, rfl, by decide⟩ rfl rfl (nA (by decide)) (ix := 11) lk_272 (by decide +kernel) ?_
  refine g_iload C 8 rfl (by decide +kernel) ?_
  refine g_lload_n C 2 rfl (by decide +kernel) ?_
  obtain ⟨hb15_, h⟩ := ck_some h
  refine g_last C 38 hp2 hv14_ rfl cd_A38 (nA (by decide)) hb15_ (by decide +kernel) ?_
  refine g_aload_n C 0 rfl (by decide +kernel) ?_
  refine g_getR C cl0 37 1 39 rfl cd_A37 ⟨by decide, rfl, by decide⟩ rfl rfl (nA (by decide)) (ix := 15) lk_274 (by decide +kernel) ?_
  refine g_iload C 8 rfl (by decide +kernel) ?_
  refine g_iload C 4 rfl (by decide +kernel) ?_
  obtain ⟨hb16_, h⟩ := ck_some h
  refine g_iast C 39 hp3 hv14_ rfl cd_A39 (nA (by decide)) hb16_ (by decide +kernel) ?_
  refine g_aload_n C 0 rfl (by decide +kernel) ?_
  refine g_getR C cl0 37 2 40 rfl cd_A37 ⟨by decide, rfl, by decide⟩ rfl rfl (nA (by decide)) (ix := 19) lk_276 (by decide +kernel) ?_
  refine g_iload C 8 rfl (by decide +kernel) ?_
  refine g_iload C 5 rfl (by decide +kernel) ?_
  obtain ⟨hb17_, h⟩ := ck_some h
  refine g_iast C 40 hp4 hv14_ rfl cd_A40 (nA (by decide)) hb17_ (by decide +kernel) ?_
  refine g_aload_n C 0 rfl (by decide +kernel) ?_
  refine g_getR C cl0 37 3 41 rfl cd_A37 ⟨by decide, rfl, by decide⟩ rfl rfl (nA (by decide)) (ix := 22) lk_278 (by decide +kernel) ?_
  refine g_iload C 8 rfl (by decide +kernel) ?_
  refine g_iload C 6 rfl (by decide +kernel) ?_
  obtain ⟨hb18_, h⟩ := ck_some h
  refine g_iast C 41 hp5 hv14_ rfl cd_A41 (nA (by decide)) hb18_ (by decide +kernel) ?_
  refine g_aload_n C 0 rfl (by decide +kernel) ?_
  refine g_getR C cl0 37 4 42 rfl cd_A37 ⟨by decide, rfl, by decide⟩ rfl rfl (nA (by decide)) (ix := 25) lk_279 (by decide +kernel) ?_
  refine g_iload_n C 1 rfl (by decide +kernel) ?_
  refine g_dup2 C tg0 tg2 (by decide +kernel) ?_
  obtain ⟨hb19_, h⟩ := ck_some h
  refine g_iald C 42 hp1 rfl cd_A42 (nA (by decide)) hb19_ (by decide +kernel) (fun hc20_ => ?_)
  refine g_val (y := (d 42 p1.toNat)) rfl ?_
  replace hc20_ : c32 (d 42 p1.toNat) := hc20_
  refine g_iconst C 1 (cK rfl) (by decide +kernel) ?_
  refine g_iadd C (by decide +kernel) ?_
  obtain ⟨hb21_, h⟩ := ck_some h
  refine g_iast C 42 (w32_c _) hp1 rfl cd_A42 (nA (by decide)) hb21_ (by decide +kernel) ?_
  refine g_aload_n C 0 rfl (by decide +kernel) ?_
  refine g_iconst C 0 (cK rfl) (by decide +kernel) ?_
  refine g_putZ C cl0 37 10 (Or.inl rfl) rfl cd_A37 ⟨by decide, rfl, by decide⟩ rfl (nA (by decide)) (ix := 43) lk_286 rfl rfl (by decide +kernel) ?_
  refine g_iload_n C 1 rfl (by decide +kernel) ?_
  refine g_if_ne C (off := 12) (tgt := 80) hp1 (by decide +kernel) (by decide) (fun hc22_ => ?_) (fun hc22_ => ?_)
  · replace h := ite_t hc22_ h
    refine g_aload_n C 0 rfl (by decide +kernel) ?_
    refine g_iload C 7 rfl (by decide +kernel) ?_
    obtain ⟨r24_, d23_, hr25_, h⟩ := bd_some h
    refine g_callV C mw_Bo_costAgainstOthers [(0, v9_)] 37 cl0 rfl (ok_Bo_costAgainstOthers v9_ (up2 (up2 (up2 (up2 (up2 (up2 d 38 v12_.toNat p2) 39 v12_.toNat p3) 40 v12_.toNat p4) 41 v12_.toNat p5) 42 p1.toNat (w32 ((d 42 p1.toNat) + 1))) 37 10 0) hv11_ hr25_) cd_A37 (by decide) (nA (by decide)) (ix := 50) lk_998 lk_1000 lkp_35 ⟨rfl, rfl, Nat.le_of_ble_eq_true rfl, Nat.le_of_ble_eq_true rfl⟩ rfl (rest := []) rfl (Nat.le_of_ble_eq_true rfl) ⟨Nat.zero_le _, Nat.zero_le _⟩ (by decide +kernel) (fun _ hc26_ => ?_)
    refine g_st (st2 := []) rfl ?_
    refine g_goto C 109 (off := 32) (by decide +kernel) (by decide) ?_
    refine g_iload C 7 rfl (by decide +kernel) ?_
    obtain ⟨rfl, rfl⟩ := ret_inj h
    exact g_iret C hv11_ hlk hr (by decide +kernel)
  · replace h := ite_f hc22_ h
    refine g_iconst C 0 (cK rfl) (by decide +kernel) ?_
    refine s_istore C 9 (lo' := [(2, 37), (0, p1), (1, p2), (9, 0), (0, p3), (0, p4), (0, p5), (0, v9_), (0, v12_), (0, 0)]) (by decide) (s1k (s1k (s1k (s1k (s1k (s1k (s1k (s1k (s1n (by decide) s1z))))))))) (by decide +kernel) ?_
    refine g_sub (lo2 := [(2, 37), (0, p1), (9, 0), (9, 0), (9, 0), (9, 0), (9, 0), (0, v9_), (9, 0), (0, 0)]) (lsb_v (lsb_v (lsb_c (lsb_c (lsb_c (lsb_c (lsb_c (lsb_v (lsb_c (lsb_v lsb_e)))))))))) ?_
    obtain ⟨x27_, hx28_, h⟩ := lb_some h
    refine ok_Bo_add_l83 C p1 v9_ 0 (up2 (up2 (up2 (up2 (up2 (up2 d 38 v12_.toNat p2) 39 v12_.toNat p3) 40 v12_.toNat p4) 41 v12_.toNat p5) 42 p1.toNat (w32 ((d 42 p1.toNat) + 1))) 37 10 0) hp1 hv11_ (c32_cb (Or.inl rfl)) hx28_ (fun v29_ d30_ eq31_ hv29_ => ?_)
    subst eq31_
    replace h := u1_e h
    refine g_iload C 7 rfl (by decide +kernel) ?_
    obtain ⟨rfl, rfl⟩ := ret_inj h
    exact g_iret C hv29_ hlk hr (by decide +kernel)
/-! PollBooks$Poll.meetEntry(I)V -/
def y_Po_meetEntry : MethodName := ⟨"PollBooks$Poll", "meetEntry", "(I)V"⟩
def rm_Po_meetEntry : Room := { frames := 4, cells := 0, slots := 0, locals := 103 }
theorem mw_Po_meetEntry : MW y_Po_meetEntry prog_8_method_6_code 3 none 1 := ⟨lk_1017, lk_10, by decide +kernel⟩
def L_Po_meetEntry_y17 (x1 x2 : Int) (d : Dt) : Option ((Int × Int × Dt) ⊕ ((Dt))) :=
  if x2 < (d 7 3) then bd (L_Po_compare x1 x2 d) (fun r4_ d3_ => some (Sum.inl (x1, (w32 (x2 + 1)), d3_))) else some (Sum.inr (d))
def L_Po_meetEntry_l17 (x1 x2 : Int) (d : Dt) : Option ((Dt)) := lpF (fun q : Int × Int × Dt => L_Po_meetEntry_y17 q.1 q.2.1 q.2.2) FU (x1, x2, d)
def L_Po_meetEntry (p1 : Int) (d : Dt) : Option (Int × Dt) :=
  ck ((0 : Int) ≤ p1 ∧ p1 < 30) (ck ((0 : Int) ≤ p1 ∧ p1 < 30) (lb (L_Po_meetEntry_l17 p1 0 (up2 (up2 d 50 p1.toNat (-1)) 51 p1.toNat 31)) (fun q13_ => u0 q13_ (fun d11_ => some (0, d11_)))))
set_option maxHeartbeats 4000000 in
theorem ok_Po_meetEntry_y17 {p : Program} {l : Launch} {e : Env} {s : State} {m : MethodId} {args : Array Value} {below : List Frame} {meth : Method} {c : Code} {D : va_G} {cA : Nat → ClassId} {ad : Nat → Nat} {A : Nat → Prop} (C : Cx p s m args c prog_8_method_6_code 3 "PollBooks$Poll" D cA ad 0 A) {Q : State → Prop} {o : (Int × Int × Dt) ⊕ ((Dt))} (x1 x2 : Int) (d : Dt) (hx1 : c32 x1) (hx2 : c32 x2) (h : L_Po_meetEntry_y17 x1 x2 d = some o) (kb : ∀ (y0 y1 : Int) (e' : Dt), o = .inl (y0, y1, e') → c32 y0 → c32 y1 → G p l e rm_Po_meetEntry s m args below meth c 0 0 Q 3 D cA ad 0 A 17 [(2, 49), (0, y0), (0, y1)] [] e') (k0 : ∀ (e' : Dt), o = .inr (e') → G p l e rm_Po_meetEntry s m args below meth c 0 0 Q 3 D cA ad 0 A 40 [(9, 0), (9, 0), (9, 0)] [] e') : G p l e rm_Po_meetEntry s m args below meth c 0 0 Q 3 D cA ad 0 A 17 [(2, 49), (0, x1), (0, x2)] [] d := by
  unfold L_Po_meetEntry_y17 at h
  refine g_iload_n C 2 rfl (by decide +kernel) ?_
  refine g_aload_n C 0 rfl (by decide +kernel) ?_
  refine g_getR C cl6 49 0 7 rfl cd_A49 ⟨by decide, rfl, by decide⟩ rfl rfl (nA (by decide)) (ix := 43) lk_319 (by decide +kernel) ?_
  refine g_getIN C cl5 7 3 rfl cd_A7 ⟨by decide, rfl, by decide⟩ rfl (nA (by decide)) (ix := 59) lk_65 (by decide +kernel) (fun hc1_ => ?_)
  refine g_icmp_ge C (off := 15) (tgt := 40) hx2 hc1_ (by decide +kernel) (by decide) (fun hc2_ => ?_) (fun hc2_ => ?_)
  · replace h := ite_t hc2_ h
    refine g_aload_n C 0 rfl (by decide +kernel) ?_
    refine g_iload_n C 1 rfl (by decide +kernel) ?_
    refine g_iload_n C 2 rfl (by decide +kernel) ?_
    obtain ⟨r4_, d3_, hr5_, h⟩ := bd_some h
    refine g_callV C mw_Po_compare [(0, x1), (0, x2)] 49 cl6 rfl (ok_Po_compare x1 x2 d hx1 hx2 hr5_) cd_A49 (by decide) (nA (by decide)) (ix := 64) lk_624 lk_626 lkp_2 ⟨rfl, rfl, Nat.le_of_ble_eq_true rfl, Nat.le_of_ble_eq_true rfl⟩ rfl (rest := []) rfl (Nat.le_of_ble_eq_true rfl) ⟨Nat.zero_le _, Nat.zero_le _⟩ (by decide +kernel) (fun _ hc6_ => ?_)
    refine g_st (st2 := []) rfl ?_
    refine s_iinc C 2 1 (lo' := [(2, 49), (0, x1), (0, (w32 (x2 + 1)))]) rfl (by decide) (s1k (s1n (by decide) s1z)) (by decide +kernel) ?_
    refine g_goto C 17 (off := (-20)) (by decide +kernel) (by decide) ?_
    refine g_sub (lo2 := [(2, 49), (0, x1), (0, (w32 (x2 + 1)))]) (lsb_v (lsb_v (lsb_v lsb_e))) ?_
    obtain rfl := Option.some.inj h
    exact kb x1 (w32 (x2 + 1)) d3_ rfl hx1 (w32_c _)
  · replace h := ite_f hc2_ h
    refine g_sub (lo2 := [(9, 0), (9, 0), (9, 0)]) (lsb_c (lsb_c (lsb_c lsb_e))) ?_
    obtain rfl := Option.some.inj h
    exact k0 d rfl 
set_option maxHeartbeats 4000000 in
theorem ok_Po_meetEntry_n17 {p : Program} {l : Launch} {e : Env} {s : State} {m : MethodId} {args : Array Value} {below : List Frame} {meth : Method} {c : Code} {D : va_G} {cA : Nat → ClassId} {ad : Nat → Nat} {A : Nat → Prop} (C : Cx p s m args c prog_8_method_6_code 3 "PollBooks$Poll" D cA ad 0 A) {Q : State → Prop} {x : (Dt)} : ∀ (n : Nat) (x1 x2 : Int) (d : Dt), c32 x1 → c32 x2 → lpF (fun q : Int × Int × Dt => L_Po_meetEntry_y17 q.1 q.2.1 q.2.2) n (x1, x2, d) = some x → (∀ (e' : Dt), x = (e') → G p l e rm_Po_meetEntry s m args below meth c 0 0 Q 3 D cA ad 0 A 40 [(9, 0), (9, 0), (9, 0)] [] e') → G p l e rm_Po_meetEntry s m args below meth c 0 0 Q 3 D cA ad 0 A 17 [(2, 49), (0, x1), (0, x2)] [] d := by
  intro n
  induction n with
  | zero => intro x1 x2 d g0 g1 h k0; cases h
  | succ n ih =>
    intro x1 x2 d g0 g1 h k0
    rcases lpF_some h with h | ⟨⟨v0_, v1_, e0_⟩, h1, h⟩
    · exact ok_Po_meetEntry_y17 C x1 x2 d g0 g1 h (fun z0_ z1_ e1_ eq w0_ w1_ => by cases eq) (fun e1_ eq => k0 _ (by cases eq; rfl) )
    · exact ok_Po_meetEntry_y17 C x1 x2 d g0 g1 h1 (fun z0_ z1_ e1_ eq w0_ w1_ => by cases eq; exact ih _ _ _ w0_ w1_ h k0) (fun e1_ eq => by cases eq)
set_option maxHeartbeats 4000000 in
theorem ok_Po_meetEntry_l17 {p : Program} {l : Launch} {e : Env} {s : State} {m : MethodId} {args : Array Value} {below : List Frame} {meth : Method} {c : Code} {D : va_G} {cA : Nat → ClassId} {ad : Nat → Nat} {A : Nat → Prop} (C : Cx p s m args c prog_8_method_6_code 3 "PollBooks$Poll" D cA ad 0 A) {Q : State → Prop} {x : (Dt)} (x1 x2 : Int) (d : Dt) (hx1 : c32 x1) (hx2 : c32 x2) (h : L_Po_meetEntry_l17 x1 x2 d = some x) (k0 : ∀ (e' : Dt), x = (e') → G p l e rm_Po_meetEntry s m args below meth c 0 0 Q 3 D cA ad 0 A 40 [(9, 0), (9, 0), (9, 0)] [] e') : G p l e rm_Po_meetEntry s m args below meth c 0 0 Q 3 D cA ad 0 A 17 [(2, 49), (0, x1), (0, x2)] [] d :=
  ok_Po_meetEntry_n17 C FU x1 x2 d hx1 hx2 h k0
set_option maxHeartbeats 4000000 in
theorem ok_Po_meetEntry {l : Launch} {r : Int} {d' : Dt} (p1 : Int) (d : Dt) (hp1 : c32 p1) (h : L_Po_meetEntry p1 d = some (r, d')) : MC l y_Po_meetEntry prog_8_method_6_code 3 none rm_Po_meetEntry 0 [(2, 49), (0, p1)] d none d' := by
  refine MC.of (by decide) (Nat.le_of_ble_eq_true rfl) ?_
  intro p e s m args below meth c D cA ad A C hlk hr
  replace C : Cx p s m args c prog_8_method_6_code 3 "PollBooks$Poll" D cA ad 0 A := C
  show G p l e rm_Po_meetEntry s m args below meth c 0 0 (MQ below (fun _ => QC D cA ad 0 A none none d') args s 0 0 A) 3 D cA ad 0 A 0 [(2, 49), (0, p1)] [] d
  refine g_sub (lo2 := [(2, 49), (0, p1), (9, 0)]) (lsb_v (lsb_v (lsb_n lsb_e))) ?_
  unfold L_Po_meetEntry at h
  refine g_aload_n C 0 rfl (by decide +kernel) ?_
  refine g_getR C cl6 49 4 50 rfl cd_A49 ⟨by decide, rfl, by decide⟩ rfl rfl (nA (by decide)) (ix := 17) lk_323 (by decide +kernel) ?_
  refine g_iload_n C 1 rfl (by decide +kernel) ?_
  refine g_iconst C (-1) (cK rfl) (by decide +kernel) ?_
  obtain ⟨hb7_, h⟩ := ck_some h
  refine g_iast C 50 (cK rfl) hp1 rfl cd_A50 (nA (by decide)) hb7_ (by decide +kernel) ?_
  refine g_aload_n C 0 rfl (by decide +kernel) ?_
  refine g_getR C cl6 49 5 51 rfl cd_A49 ⟨by decide, rfl, by decide⟩ rfl rfl (nA (by decide)) (ix := 21) lk_324 (by decide +kernel) ?_
  refine g_iload_n C 1 rfl (by decide +kernel) ?_
  refine g_bipush C 31 (by decide) (by decide +kernel) ?_
  obtain ⟨hb8_, h⟩ := ck_some h
  refine g_iast C 51 (cK rfl) hp1 rfl cd_A51 (nA (by decide)) hb8_ (by decide +kernel) ?_
  refine g_iconst C 0 (cK rfl) (by decide +kernel) ?_
  refine s_istore_n C 2 (lo' := [(2, 49), (0, p1), (0, 0)]) (by decide) (s1k (s1n (by decide) s1z)) (by decide +kernel) ?_
  refine g_sub (lo2 := [(2, 49), (0, p1), (0, 0)]) (lsb_v (lsb_v (lsb_v lsb_e))) ?_
  obtain ⟨x9_, hx10_, h⟩ := lb_some h
  refine ok_Po_meetEntry_l17 C p1 0 (up2 (up2 d 50 p1.toNat (-1)) 51 p1.toNat 31) hp1 (c32_cb (Or.inl rfl)) hx10_ (fun d11_ eq12_ => ?_)
  replace eq12_ := eq12_.symm
  subst eq12_
  replace h := u0_e h
  obtain ⟨rfl, rfl⟩ := ret_inj h
  exact g_vret C hlk hr (by decide +kernel)
/-! PollBooks.entry(IJIII)I -/
def y_PB_entry : MethodName := ⟨"PollBooks", "entry", "(IJIII)I"⟩
def rm_PB_entry : Room := { frames := 5, cells := 0, slots := 0, locals := 132 }
theorem mw_PB_entry : MW y_PB_entry prog_1_method_27_code 9 (some .int) 5 := ⟨lk_984, lk_1, by decide +kernel⟩
def L_PB_entry_b83 (x1 x2 x4 x5 x6 s1 : Int) (d : Dt) : Option (Int × Dt) :=
  if s1 = 0 then bd (L_Bo_add x1 x2 x4 x5 x6 (up2 d 0 0 s1)) (fun r4_ d3_ => if x1 = 0 then bd (L_Po_meetEntry r4_ d3_) (fun r9_ d8_ => some (r4_, d8_)) else some (r4_, d3_)) else some ((-1), (up2 d 0 0 s1))
def L_PB_entry_b55 (x1 x2 x4 x5 x6 s0 : Int) (d : Dt) : Option (Int × Dt) :=
  if s0 = 0 then L_PB_entry_b83 x1 x2 x4 x5 x6 1 d else bd (L_Bo_isFull x1 d) (fun r14_ d13_ => if r14_ = 0 then L_PB_entry_b83 x1 x2 x4 x5 x6 0 d13_ else L_PB_entry_b83 x1 x2 x4 x5 x6 4 d13_)
def L_PB_entry (p1 p2 p3 p4 p5 : Int) (d : Dt) : Option (Int × Dt) :=
  bd (L_PB_within p1 0 2 d) (fun r19_ d18_ => if r19_ = 0 then L_PB_entry_b55 p1 p2 p3 p4 p5 0 d18_ else bd (L_PB_isName p2 d18_) (fun r24_ d23_ => if r24_ = 0 then L_PB_entry_b55 p1 p2 p3 p4 p5 0 d23_ else bd (L_PB_within p3 (-1) 19 d23_) (fun r29_ d28_ => if r29_ = 0 then L_PB_entry_b55 p1 p2 p3 p4 p5 0 d28_ else bd (L_PB_isMinute p4 d28_) (fun r34_ d33_ => if r34_ = 0 then L_PB_entry_b55 p1 p2 p3 p4 p5 0 d33_ else bd (L_PB_isSet p5 d33_) (fun r39_ d38_ => if r39_ = 0 then L_PB_entry_b55 p1 p2 p3 p4 p5 0 d38_ else L_PB_entry_b55 p1 p2 p3 p4 p5 1 d38_)))))
set_option maxHeartbeats 4000000 in
theorem ok_PB_entry_b83 {p : Program} {l : Launch} {e : Env} {s : State} {m : MethodId} {args : Array Value} {below : List Frame} {meth : Method} {c : Code} {D : va_G} {cA : Nat → ClassId} {ad : Nat → Nat} {A : Nat → Prop} (C : Cx p s m args c prog_1_method_27_code 9 "PollBooks" D cA ad 0 A) (hlk : meth.locks = false) (hr : meth.sig.returnType = (some .int)) {r : Int} {d' : Dt} (x1 x2 x4 x5 x6 s1 : Int) (d : Dt) (hx1 : c32 x1) (hx2 : c64 x2) (hx4 : c32 x4) (hx5 : c32 x5) (hx6 : c32 x6) (hs1 : c32 s1) (h : L_PB_entry_b83 x1 x2 x4 x5 x6 s1 d = some (r, d')) : G p l e rm_PB_entry s m args below meth c 0 0 (MQ below (fun _ => QC D cA ad 0 A (some .int) (some (0, r)) d') args s 0 0 A) 9 D cA ad 0 A 83 [(2, 0), (0, x1), (1, x2), (9, 0), (0, x4), (0, x5), (0, x6), (9, 0), (9, 0)] [(0, s1), (2, 0)] d := by
  unfold L_PB_entry_b83 at h
  refine g_putI C cl11 0 0 hs1 rfl cd_A0 ⟨by decide, rfl, by decide⟩ rfl (nA (by decide)) (ix := 9) lk_467 rfl rfl (by decide +kernel) ?_
  refine g_aload_n C 0 rfl (by decide +kernel) ?_
  refine g_getI C cl11 0 0 rfl cd_A0 ⟨by decide, rfl, by decide⟩ rfl (nA (by decide)) (ix := 9) lk_467 (by decide +kernel) (fun hc1_ => ?_)
  refine g_val (y := s1) rfl ?_
  replace hc1_ : c32 s1 := hc1_
  refine g_if_eq C (off := 5) (tgt := 95) hc1_ (by decide +kernel) (by decide) (fun hc2_ => ?_) (fun hc2_ => ?_)
  · replace h := ite_t hc2_ h
    refine g_aload_n C 0 rfl (by decide +kernel) ?_
    refine g_getR C cl11 0 6 37 rfl cd_A0 ⟨by decide, rfl, by decide⟩ rfl rfl (nA (by decide)) (ix := 55) lk_473 (by decide +kernel) ?_
    refine g_iload_n C 1 rfl (by decide +kernel) ?_
    refine g_lload_n C 2 rfl (by decide +kernel) ?_
    refine g_iload C 4 rfl (by decide +kernel) ?_
    refine g_iload C 5 rfl (by decide +kernel) ?_
    refine g_iload C 6 rfl (by decide +kernel) ?_
    obtain ⟨r4_, d3_, hr5_, h⟩ := bd_some h
    refine g_callV C mw_Bo_add [(0, x1), (1, x2), (0, x4), (0, x5), (0, x6)] 37 cl0 rfl (ok_Bo_add x1 x2 x4 x5 x6 (up2 d 0 0 s1) hx1 hx2 hx4 hx5 hx6 hr5_) cd_A37 (by decide) (nA (by decide)) (ix := 291) lk_994 lk_995 lk_996 ⟨rfl, rfl, Nat.le_of_ble_eq_true rfl, Nat.le_of_ble_eq_true rfl⟩ rfl (rest := []) rfl (Nat.le_of_ble_eq_true rfl) ⟨Nat.zero_le _, Nat.zero_le _⟩ (by decide +kernel) (fun _ hc6_ => ?_)
    replace hc6_ : c32 r4_ := hc6_
    refine g_st (st2 := [(0, r4_)]) rfl ?_
    refine s_istore C 8 (lo' := [(2, 0), (0, x1), (1, x2), (9, 0), (0, x4), (0, x5), (0, x6), (9, 0), (0, r4_)]) (by decide) (s1k (s1k (s1k (s1k (s1k (s1k (s1k (s1n (by decide) s1z)))))))) (by decide +kernel) ?_
    refine g_iload_n C 1 rfl (by decide +kernel) ?_
    refine g_if_ne C (off := 12) (tgt := 125) hx1 (by decide +kernel) (by decide) (fun hc7_ => ?_) (fun hc7_ => ?_)
    · replace h := ite_t hc7_ h
      refine g_aload_n C 0 rfl (by decide +kernel) ?_
      refine g_getR C cl11 0 7 49 rfl cd_A0 ⟨by decide, rfl, by decide⟩ rfl rfl (nA (by decide)) (ix := 64) lk_474 (by decide +kernel) ?_
      refine g_iload C 8 rfl (by decide +kernel) ?_
      obtain ⟨r9_, d8_, hr10_, h⟩ := bd_some h
      refine g_callV C mw_Po_meetEntry [(0, r4_)] 49 cl6 rfl (ok_Po_meetEntry r4_ d3_ hc6_ hr10_) cd_A49 (by decide) (nA (by decide)) (ix := 294) lk_1014 lk_1015 lk_1016 ⟨rfl, rfl, Nat.le_of_ble_eq_true rfl, Nat.le_of_ble_eq_true rfl⟩ rfl (rest := []) rfl (Nat.le_of_ble_eq_true rfl) ⟨Nat.zero_le _, Nat.zero_le _⟩ (by decide +kernel) (fun _ hc11_ => ?_)
      refine g_st (st2 := []) rfl ?_
      refine g_iload C 8 rfl (by decide +kernel) ?_
      obtain ⟨rfl, rfl⟩ := ret_inj h
      exact g_iret C hc6_ hlk hr (by decide +kernel)
    · replace h := ite_f hc7_ h
      refine g_iload C 8 rfl (by decide +kernel) ?_
      obtain ⟨rfl, rfl⟩ := ret_inj h
      exact g_iret C hc6_ hlk hr (by decide +kernel)
  · replace h := ite_f hc2_ h
    refine g_iconst C (-1) (cK rfl) (by decide +kernel) ?_
    obtain ⟨rfl, rfl⟩ := ret_inj h
    exact g_iret C (cK rfl) hlk hr (by decide +kernel)
set_option maxHeartbeats 4000000 in
theorem ok_PB_entry_b55 {p : Program} {l : Launch} {e : Env} {s : State} {m : MethodId} {args : Array Value} {below : List Frame} {meth : Method} {c : Code} {D : va_G} {cA : Nat → ClassId} {ad : Nat → Nat} {A : Nat → Prop} (C : Cx p s m args c prog_1_method_27_code 9 "PollBooks" D cA ad 0 A) (hlk : meth.locks = false) (hr : meth.sig.returnType = (some .int)) {r : Int} {d' : Dt} (x1 x2 x4 x5 x6 s0 : Int) (d : Dt) (hx1 : c32 x1) (hx2 : c64 x2) (hx4 : c32 x4) (hx5 : c32 x5) (hx6 : c32 x6) (hs0 : cb s0) (h : L_PB_entry_b55 x1 x2 x4 x5 x6 s0 d = some (r, d')) : G p l e rm_PB_entry s m args below meth c 0 0 (MQ below (fun _ => QC D cA ad 0 A (some .int) (some (0, r)) d') args s 0 0 A) 9 D cA ad 0 A 55 [(2, 0), (0, x1), (1, x2), (9, 0), (0, x4), (0, x5), (0, x6), (9, 0), (9, 0)] [(0, s0)] d := by
  unfold L_PB_entry_b55 at h
  refine s_istore C 7 (lo' := [(2, 0), (0, x1), (1, x2), (9, 0), (0, x4), (0, x5), (0, x6), (0, s0), (9, 0)]) (by decide) (s1k (s1k (s1k (s1k (s1k (s1k (s1n (by decide) s1z))))))) (by decide +kernel) ?_
  refine g_aload_n C 0 rfl (by decide +kernel) ?_
  refine g_iload C 7 rfl (by decide +kernel) ?_
  refine g_if_ne C (off := 7) (tgt := 67) (c32_cb hs0) (by decide +kernel) (by decide) (fun hc12_ => ?_) (fun hc12_ => ?_)
  · replace h := ite_t hc12_ h
    refine g_iconst C 1 (cK rfl) (by decide +kernel) ?_
    refine g_goto C 83 (off := 19) (by decide +kernel) (by decide) ?_
    refine g_sub (lo2 := [(2, 0), (0, x1), (1, x2), (9, 0), (0, x4), (0, x5), (0, x6), (9, 0), (9, 0)]) (lsb_v (lsb_v (lsb_v (lsb_c (lsb_v (lsb_v (lsb_v (lsb_c (lsb_c lsb_e))))))))) ?_
    exact ok_PB_entry_b83 C hlk hr x1 x2 x4 x5 x6 1 d hx1 hx2 hx4 hx5 hx6 (c32_cb (Or.inr rfl)) h
  · replace h := ite_f hc12_ h
    refine g_aload_n C 0 rfl (by decide +kernel) ?_
    refine g_getR C cl11 0 6 37 rfl cd_A0 ⟨by decide, rfl, by decide⟩ rfl rfl (nA (by decide)) (ix := 55) lk_473 (by decide +kernel) ?_
    refine g_iload_n C 1 rfl (by decide +kernel) ?_
    obtain ⟨r14_, d13_, hr15_, h⟩ := bd_some h
    refine g_callV C mw_Bo_isFull [(0, x1)] 37 cl0 rfl (ok_Bo_isFull x1 d hx1 hr15_) cd_A37 (by decide) (nA (by decide)) (ix := 289) lk_990 lk_991 lk_992 ⟨rfl, rfl, Nat.le_of_ble_eq_true rfl, Nat.le_of_ble_eq_true rfl⟩ rfl (rest := [(2, 0)]) rfl (Nat.le_of_ble_eq_true rfl) ⟨Nat.zero_le _, Nat.zero_le _⟩ (by decide +kernel) (fun _ hc16_ => ?_)
    replace hc16_ : cb r14_ := hc16_
    refine g_st (st2 := [(0, r14_), (2, 0)]) rfl ?_
    refine g_if_eq C (off := 7) (tgt := 82) (c32_cb hc16_) (by decide +kernel) (by decide) (fun hc17_ => ?_) (fun hc17_ => ?_)
    · replace h := ite_t hc17_ h
      refine g_iconst C 0 (cK rfl) (by decide +kernel) ?_
      refine g_sub (lo2 := [(2, 0), (0, x1), (1, x2), (9, 0), (0, x4), (0, x5), (0, x6), (9, 0), (9, 0)]) (lsb_v (lsb_v (lsb_v (lsb_c (lsb_v (lsb_v (lsb_v (lsb_c (lsb_c lsb_e))))))))) ?_
      exact ok_PB_entry_b83 C hlk hr x1 x2 x4 x5 x6 0 d13_ hx1 hx2 hx4 hx5 hx6 (c32_cb (Or.inl rfl)) h
    · replace h := ite_f hc17_ h
      refine g_iconst C 4 (cK rfl) (by decide +kernel) ?_
      refine g_goto C 83 (off := 4) (by decide +kernel) (by decide) ?_
      refine g_sub (lo2 := [(2, 0), (0, x1), (1, x2), (9, 0), (0, x4), (0, x5), (0, x6), (9, 0), (9, 0)]) (lsb_v (lsb_v (lsb_v (lsb_c (lsb_v (lsb_v (lsb_v (lsb_c (lsb_c lsb_e))))))))) ?_
      exact ok_PB_entry_b83 C hlk hr x1 x2 x4 x5 x6 4 d13_ hx1 hx2 hx4 hx5 hx6 (cK rfl) h
set_option maxHeartbeats 4000000 in
theorem ok_PB_entry {l : Launch} {r : Int} {d' : Dt} (p1 p2 p3 p4 p5 : Int) (d : Dt) (hp1 : c32 p1) (hp2 : c64 p2) (hp3 : c32 p3) (hp4 : c32 p4) (hp5 : c32 p5) (h : L_PB_entry p1 p2 p3 p4 p5 d = some (r, d')) : MC l y_PB_entry prog_1_method_27_code 9 (some .int) rm_PB_entry 0 [(2, 0), (0, p1), (1, p2), (0, p3), (0, p4), (0, p5)] d (some (0, r)) d' := by
  refine MC.of (by decide) (Nat.le_of_ble_eq_true rfl) ?_
  intro p e s m args below meth c D cA ad A C hlk hr
  replace C : Cx p s m args c prog_1_method_27_code 9 "PollBooks" D cA ad 0 A := C
  show G p l e rm_PB_entry s m args below meth c 0 0 (MQ below (fun _ => QC D cA ad 0 A (some .int) (some (0, r)) d') args s 0 0 A) 9 D cA ad 0 A 0 [(2, 0), (0, p1), (1, p2), (9, 0), (0, p3), (0, p4), (0, p5)] [] d
  refine g_sub (lo2 := [(2, 0), (0, p1), (1, p2), (9, 0), (0, p3), (0, p4), (0, p5), (9, 0), (9, 0)]) (lsb_v (lsb_v (lsb_v (lsb_c (lsb_v (lsb_v (lsb_v (lsb_n (lsb_n lsb_e))))))))) ?_
  unfold L_PB_entry at h
  refine g_iload_n C 1 rfl (by decide +kernel) ?_
  refine g_i2l C hp1 (by decide +kernel) ?_
  refine g_lconst C 0 (v := 0) (by decide) (by decide +kernel) ?_
  refine g_ldc2 C (ix := 284) (v := 2) lk_985 (by decide +kernel) ?_
  obtain ⟨r19_, d18_, hr20_, h⟩ := bd_some h
  refine g_callS C mw_PB_within [(1, p1), (1, 0), (1, 2)] (ok_PB_within p1 0 2 d (c64_32 hp1) (cL rfl) (cL rfl) hr20_) (ix := 105) lk_520 lk_521 ⟨rfl, rfl, Nat.le_of_ble_eq_true rfl, Nat.le_of_ble_eq_true rfl⟩ rfl (rest := []) rfl (Nat.le_of_ble_eq_true rfl) ⟨Nat.zero_le _, Nat.zero_le _⟩ (by decide +kernel) (fun _ hc21_ => ?_)
  replace hc21_ : cb r19_ := hc21_
  refine g_st (st2 := [(0, r19_)]) rfl ?_
  refine g_if_eq C (off := 45) (tgt := 54) (c32_cb hc21_) (by decide +kernel) (by decide) (fun hc22_ => ?_) (fun hc22_ => ?_)
  · replace h := ite_t hc22_ h
    refine g_iconst C 0 (cK rfl) (by decide +kernel) ?_
    refine g_sub (lo2 := [(2, 0), (0, p1), (1, p2), (9, 0), (0, p3), (0, p4), (0, p5), (9, 0), (9, 0)]) (lsb_v (lsb_v (lsb_v (lsb_c (lsb_v (lsb_v (lsb_v (lsb_c (lsb_c lsb_e))))))))) ?_
    exact ok_PB_entry_b55 C hlk hr p1 p2 p3 p4 p5 0 d18_ hp1 hp2 hp3 hp4 hp5 (Or.inl rfl) h
  · replace h := ite_f hc22_ h
    refine g_lload_n C 2 rfl (by decide +kernel) ?_
    obtain ⟨r24_, d23_, hr25_, h⟩ := bd_some h
    refine g_callS C mw_PB_isName [(1, p2)] (ok_PB_isName p2 d18_ hp2 hr25_) (ix := 148) lk_589 lk_590 ⟨rfl, rfl, Nat.le_of_ble_eq_true rfl, Nat.le_of_ble_eq_true rfl⟩ rfl (rest := []) rfl (Nat.le_of_ble_eq_true rfl) ⟨Nat.zero_le _, Nat.zero_le _⟩ (by decide +kernel) (fun _ hc26_ => ?_)
    replace hc26_ : cb r24_ := hc26_
    refine g_st (st2 := [(0, r24_)]) rfl ?_
    refine g_if_eq C (off := 38) (tgt := 54) (c32_cb hc26_) (by decide +kernel) (by decide) (fun hc27_ => ?_) (fun hc27_ => ?_)
    · replace h := ite_t hc27_ h
      refine g_iconst C 0 (cK rfl) (by decide +kernel) ?_
      refine g_sub (lo2 := [(2, 0), (0, p1), (1, p2), (9, 0), (0, p3), (0, p4), (0, p5), (9, 0), (9, 0)]) (lsb_v (lsb_v (lsb_v (lsb_c (lsb_v (lsb_v (lsb_v (lsb_c (lsb_c lsb_e))))))))) ?_
      exact ok_PB_entry_b55 C hlk hr p1 p2 p3 p4 p5 0 d23_ hp1 hp2 hp3 hp4 hp5 (Or.inl rfl) h
    · replace h := ite_f hc27_ h
      refine g_iload C 4 rfl (by decide +kernel) ?_
      refine g_i2l C hp3 (by decide +kernel) ?_
      refine g_ldc2 C (ix := 127) (v := (-1)) lk_565 (by decide +kernel) ?_
      refine g_ldc2 C (ix := 156) (v := 19) lk_607 (by decide +kernel) ?_
      obtain ⟨r29_, d28_, hr30_, h⟩ := bd_some h
      refine g_callS C mw_PB_within [(1, p3), (1, (-1)), (1, 19)] (ok_PB_within p3 (-1) 19 d23_ (c64_32 hp3) (cL rfl) (cL rfl) hr30_) (ix := 105) lk_520 lk_521 ⟨rfl, rfl, Nat.le_of_ble_eq_true rfl, Nat.le_of_ble_eq_true rfl⟩ rfl (rest := []) rfl (Nat.le_of_ble_eq_true rfl) ⟨Nat.zero_le _, Nat.zero_le _⟩ (by decide +kernel) (fun _ hc31_ => ?_)
      replace hc31_ : cb r29_ := hc31_
      refine g_st (st2 := [(0, r29_)]) rfl ?_
      refine g_if_eq C (off := 23) (tgt := 54) (c32_cb hc31_) (by decide +kernel) (by decide) (fun hc32_ => ?_) (fun hc32_ => ?_)
      · replace h := ite_t hc32_ h
        refine g_iconst C 0 (cK rfl) (by decide +kernel) ?_
        refine g_sub (lo2 := [(2, 0), (0, p1), (1, p2), (9, 0), (0, p3), (0, p4), (0, p5), (9, 0), (9, 0)]) (lsb_v (lsb_v (lsb_v (lsb_c (lsb_v (lsb_v (lsb_v (lsb_c (lsb_c lsb_e))))))))) ?_
        exact ok_PB_entry_b55 C hlk hr p1 p2 p3 p4 p5 0 d28_ hp1 hp2 hp3 hp4 hp5 (Or.inl rfl) h
      · replace h := ite_f hc32_ h
        refine g_iload C 5 rfl (by decide +kernel) ?_
        obtain ⟨r34_, d33_, hr35_, h⟩ := bd_some h
        refine g_callS C mw_PB_isMinute [(0, p4)] (ok_PB_isMinute p4 d28_ hp4 hr35_) (ix := 281) lk_911 lk_912 ⟨rfl, rfl, Nat.le_of_ble_eq_true rfl, Nat.le_of_ble_eq_true rfl⟩ rfl (rest := []) rfl (Nat.le_of_ble_eq_true rfl) ⟨Nat.zero_le _, Nat.zero_le _⟩ (by decide +kernel) (fun _ hc36_ => ?_)
        replace hc36_ : cb r34_ := hc36_
        refine g_st (st2 := [(0, r34_)]) rfl ?_
        refine g_if_eq C (off := 15) (tgt := 54) (c32_cb hc36_) (by decide +kernel) (by decide) (fun hc37_ => ?_) (fun hc37_ => ?_)
        · replace h := ite_t hc37_ h
          refine g_iconst C 0 (cK rfl) (by decide +kernel) ?_
          refine g_sub (lo2 := [(2, 0), (0, p1), (1, p2), (9, 0), (0, p3), (0, p4), (0, p5), (9, 0), (9, 0)]) (lsb_v (lsb_v (lsb_v (lsb_c (lsb_v (lsb_v (lsb_v (lsb_c (lsb_c lsb_e))))))))) ?_
          exact ok_PB_entry_b55 C hlk hr p1 p2 p3 p4 p5 0 d33_ hp1 hp2 hp3 hp4 hp5 (Or.inl rfl) h
        · replace h := ite_f hc37_ h
          refine g_iload C 6 rfl (by decide +kernel) ?_
          obtain ⟨r39_, d38_, hr40_, h⟩ := bd_some h
          refine g_callS C mw_PB_isSet [(0, p5)] (ok_PB_isSet p5 d33_ hp5 hr40_) (ix := 286) lk_986 lk_987 ⟨rfl, rfl, Nat.le_of_ble_eq_true rfl, Nat.le_of_ble_eq_true rfl⟩ rfl (rest := []) rfl (Nat.le_of_ble_eq_true rfl) ⟨Nat.zero_le _, Nat.zero_le _⟩ (by decide +kernel) (fun _ hc41_ => ?_)
          replace hc41_ : cb r39_ := hc41_
          refine g_st (st2 := [(0, r39_)]) rfl ?_
          refine g_if_eq C (off := 7) (tgt := 54) (c32_cb hc41_) (by decide +kernel) (by decide) (fun hc42_ => ?_) (fun hc42_ => ?_)
          · replace h := ite_t hc42_ h
            refine g_iconst C 0 (cK rfl) (by decide +kernel) ?_
            refine g_sub (lo2 := [(2, 0), (0, p1), (1, p2), (9, 0), (0, p3), (0, p4), (0, p5), (9, 0), (9, 0)]) (lsb_v (lsb_v (lsb_v (lsb_c (lsb_v (lsb_v (lsb_v (lsb_c (lsb_c lsb_e))))))))) ?_
            exact ok_PB_entry_b55 C hlk hr p1 p2 p3 p4 p5 0 d38_ hp1 hp2 hp3 hp4 hp5 (Or.inl rfl) h
          · replace h := ite_f hc42_ h
            refine g_iconst C 1 (cK rfl) (by decide +kernel) ?_
            refine g_goto C 55 (off := 4) (by decide +kernel) (by decide) ?_
            refine g_sub (lo2 := [(2, 0), (0, p1), (1, p2), (9, 0), (0, p3), (0, p4), (0, p5), (9, 0), (9, 0)]) (lsb_v (lsb_v (lsb_v (lsb_c (lsb_v (lsb_v (lsb_v (lsb_c (lsb_c lsb_e))))))))) ?_
            exact ok_PB_entry_b55 C hlk hr p1 p2 p3 p4 p5 1 d38_ hp1 hp2 hp3 hp4 hp5 (Or.inr rfl) h
/-! PollBooks$Books.weigh(I)V -/
def y_Bo_weigh : MethodName := ⟨"PollBooks$Books", "weigh", "(I)V"⟩
def rm_Bo_weigh : Room := { frames := 1, cells := 0, slots := 0, locals := 22 }
theorem mw_Bo_weigh : MW y_Bo_weigh prog_2_method_14_code 9 none 1 := ⟨lk_1033, lk_9, by decide +kernel⟩
def L_Bo_weigh_b136 (x1 x2 x3 x4 x5 x6 : Int) (d : Dt) : Option ((Int × Int × Int × Int × Int × Dt) ⊕ ((Int × Int × Int × Int × Dt))) :=
  ck ((0 : Int) ≤ (w32 ((w32 (x4 * 31)) + x5)) ∧ (w32 ((w32 (x4 * 31)) + x5)) < 961) (some (Sum.inl (x1, x2, x3, x4, (w32 (x5 + (-1))), (up2 d 44 ((w32 ((w32 (x4 * 31)) + x5))).toNat x6))))
def L_Bo_weigh_y25 (x1 x2 x3 x4 x5 : Int) (d : Dt) : Option ((Int × Int × Int × Int × Int × Dt) ⊕ ((Int × Int × Int × Int × Dt))) :=
  if x5 < 0 then some (Sum.inr (x1, x2, x3, x4, d)) else lt_ (w32 (10 * (w32 ((w32 ((w32 (x2 - x4)) + x3)) - x5)))) (fun v3_ => if x4 < x2 then if x5 < x3 then ck ((0 : Int) ≤ (w32 ((w32 ((w32 (x4 + 1)) * 31)) + x5)) ∧ (w32 ((w32 ((w32 (x4 + 1)) * 31)) + x5)) < 961) (ck ((0 : Int) ≤ (w32 ((w32 ((w32 (x4 * 31)) + x5)) + 1)) ∧ (w32 ((w32 ((w32 (x4 * 31)) + x5)) + 1)) < 961) (lt_ (w32 (10 + (jmin (d 44 ((w32 ((w32 ((w32 (x4 + 1)) * 31)) + x5))).toNat) (d 44 ((w32 ((w32 ((w32 (x4 * 31)) + x5)) + 1))).toNat)))) (fun v12_ => bd (L_Bo_costPlace x1 x4 x5 d) (fun r16_ d15_ => ck ((0 : Int) ≤ r16_ ∧ r16_ < 1800) (ck ((0 : Int) ≤ (w32 ((w32 ((w32 ((w32 (x4 + 1)) * 31)) + x5)) + 1)) ∧ (w32 ((w32 ((w32 ((w32 (x4 + 1)) * 31)) + x5)) + 1)) < 961) (lt_ (w32 ((d15_ 43 r16_.toNat) + (d15_ 44 ((w32 ((w32 ((w32 ((w32 (x4 + 1)) * 31)) + x5)) + 1))).toNat))) (fun v23_ => lt_ (jmin v12_ v23_) (fun v26_ => L_Bo_weigh_b136 x1 x2 x3 x4 x5 v26_ d15_)))))))) else L_Bo_weigh_b136 x1 x2 x3 x4 x5 v3_ d else L_Bo_weigh_b136 x1 x2 x3 x4 x5 v3_ d)
def L_Bo_weigh_l25 (x1 x2 x3 x4 x5 : Int) (d : Dt) : Option ((Int × Int × Int × Int × Dt)) := lpF (fun q : Int × Int × Int × Int × Int × Dt => L_Bo_weigh_y25 q.1 q.2.1 q.2.2.1 q.2.2.2.1 q.2.2.2.2.1 q.2.2.2.2.2) FU (x1, x2, x3, x4, x5, d)
def L_Bo_weigh_y17 (x1 x2 x3 x4 : Int) (d : Dt) : Option ((Int × Int × Int × Int × Dt) ⊕ ((Int × Dt))) :=
  if x4 < 0 then some (Sum.inr (x1, d)) else lb (L_Bo_weigh_l25 x1 x2 x3 x4 x3 d) (fun q38_ => u4 q38_ (fun v32_ v33_ v34_ v35_ d36_ => some (Sum.inl (v32_, v33_, v34_, (w32 (v35_ + (-1))), d36_))))
def L_Bo_weigh_l17 (x1 x2 x3 x4 : Int) (d : Dt) : Option ((Int × Dt)) := lpF (fun q : Int × Int × Int × Int × Dt => L_Bo_weigh_y17 q.1 q.2.1 q.2.2.1 q.2.2.2.1 q.2.2.2.2) FU (x1, x2, x3, x4, d)
def L_Bo_weigh (p1 : Int) (d : Dt) : Option (Int × Dt) :=
  lt_ (d 42 0) (fun v40_ => ck ((0 : Int) ≤ p1 ∧ p1 < 3) (lt_ (d 42 p1.toNat) (fun v45_ => lb (L_Bo_weigh_l17 p1 v40_ v45_ v40_ d) (fun q55_ => u1 q55_ (fun v50_ d51_ => ck ((0 : Int) ≤ v50_ ∧ v50_ < 3) (some (0, (up2 d51_ 45 v50_.toNat (d51_ 44 0)))))))))
set_option maxHeartbeats 4000000 in
theorem ok_Bo_weigh_b136 {p : Program} {l : Launch} {e : Env} {s : State} {m : MethodId} {args : Array Value} {below : List Frame} {meth : Method} {c : Code} {D : va_G} {cA : Nat → ClassId} {ad : Nat → Nat} {A : Nat → Prop} (C : Cx p s m args c prog_2_method_14_code 9 "PollBooks$Books" D cA ad 0 A) {Q : State → Prop} {o : (Int × Int × Int × Int × Int × Dt) ⊕ ((Int × Int × Int × Int × Dt))} (x1 x2 x3 x4 x5 x6 : Int) (d : Dt) (hx1 : c32 x1) (hx2 : c32 x2) (hx3 : c32 x3) (hx4 : c32 x4) (hx5 : c32 x5) (hx6 : c32 x6) (h : L_Bo_weigh_b136 x1 x2 x3 x4 x5 x6 d = some o) (kb : ∀ (y0 y1 y2 y3 y4 : Int) (e' : Dt), o = .inl (y0, y1, y2, y3, y4, e') → c32 y0 → c32 y1 → c32 y2 → c32 y3 → c32 y4 → G p l e rm_Bo_weigh s m args below meth c 0 0 Q 9 D cA ad 0 A 25 [(2, 37), (0, y0), (0, y1), (0, y2), (0, y3), (0, y4), (9, 0), (9, 0), (9, 0)] [] e') (k0 : ∀ (y0 y1 y2 y3 : Int) (e' : Dt), o = .inr (y0, y1, y2, y3, e') → c32 y0 → c32 y1 → c32 y2 → c32 y3 → G p l e rm_Bo_weigh s m args below meth c 0 0 Q 9 D cA ad 0 A 157 [(2, 37), (0, y0), (0, y1), (0, y2), (0, y3), (9, 0), (9, 0), (9, 0), (9, 0)] [] e') : G p l e rm_Bo_weigh s m args below meth c 0 0 Q 9 D cA ad 0 A 136 [(2, 37), (0, x1), (0, x2), (0, x3), (0, x4), (0, x5), (0, x6), (9, 0), (9, 0)] [] d := by
  unfold L_Bo_weigh_b136 at h
  refine g_aload_n C 0 rfl (by decide +kernel) ?_
  refine g_getR C cl0 37 6 44 rfl cd_A37 ⟨by decide, rfl, by decide⟩ rfl rfl (nA (by decide)) (ix := 31) lk_282 (by decide +kernel) ?_
  refine g_iload C 4 rfl (by decide +kernel) ?_
  refine g_bipush C 31 (by decide) (by decide +kernel) ?_
  refine g_imul C (by decide +kernel) ?_
  refine g_iload C 5 rfl (by decide +kernel) ?_
  refine g_iadd C (by decide +kernel) ?_
  refine g_iload C 6 rfl (by decide +kernel) ?_
  obtain ⟨hb1_, h⟩ := ck_some h
  refine g_iast C 44 hx6 (w32_c _) rfl cd_A44 (nA (by decide)) hb1_ (by decide +kernel) ?_
  refine s_iinc C 5 (-1) (lo' := [(2, 37), (0, x1), (0, x2), (0, x3), (0, x4), (0, (w32 (x5 + (-1)))), (0, x6), (9, 0), (9, 0)]) rfl (by decide) (s1k (s1k (s1k (s1k (s1n (by decide) s1z))))) (by decide +kernel) ?_
  refine g_goto C 25 (off := (-129)) (by decide +kernel) (by decide) ?_
  refine g_sub (lo2 := [(2, 37), (0, x1), (0, x2), (0, x3), (0, x4), (0, (w32 (x5 + (-1)))), (9, 0), (9, 0), (9, 0)]) (lsb_v (lsb_v (lsb_v (lsb_v (lsb_v (lsb_v (lsb_c (lsb_c (lsb_c lsb_e))))))))) ?_
  obtain rfl := Option.some.inj h
  exact kb x1 x2 x3 x4 (w32 (x5 + (-1))) (up2 d 44 ((w32 ((w32 (x4 * 31)) + x5))).toNat x6) rfl hx1 hx2 hx3 hx4 (w32_c _)
set_option maxHeartbeats 4000000 in
theorem ok_Bo_weigh_y25 {p : Program} {l : Launch} {e : Env} {s : State} {m : MethodId} {args : Array Value} {below : List Frame} {meth : Method} {c : Code} {D : va_G} {cA : Nat → ClassId} {ad : Nat → Nat} {A : Nat → Prop} (C : Cx p s m args c prog_2_method_14_code 9 "PollBooks$Books" D cA ad 0 A) {Q : State → Prop} {o : (Int × Int × Int × Int × Int × Dt) ⊕ ((Int × Int × Int × Int × Dt))} (x1 x2 x3 x4 x5 : Int) (d : Dt) (hx1 : c32 x1) (hx2 : c32 x2) (hx3 : c32 x3) (hx4 : c32 x4) (hx5 : c32 x5) (h : L_Bo_weigh_y25 x1 x2 x3 x4 x5 d = some o) (kb : ∀ (y0 y1 y2 y3 y4 : Int) (e' : Dt), o = .inl (y0, y1, y2, y3, y4, e') → c32 y0 → c32 y1 → c32 y2 → c32 y3 → c32 y4 → G p l e rm_Bo_weigh s m args below meth c 0 0 Q 9 D cA ad 0 A 25 [(2, 37), (0, y0), (0, y1), (0, y2), (0, y3), (0, y4), (9, 0), (9, 0), (9, 0)] [] e') (k0 : ∀ (y0 y1 y2 y3 : Int) (e' : Dt), o = .inr (y0, y1, y2, y3, e') → c32 y0 → c32 y1 → c32 y2 → c32 y3 → G p l e rm_Bo_weigh s m args below meth c 0 0 Q 9 D cA ad 0 A 157 [(2, 37), (0, y0), (0, y1), (0, y2), (0, y3), (9, 0), (9, 0), (9, 0), (9, 0)] [] e') : G p l e rm_Bo_weigh s m args below meth c 0 0 Q 9 D cA ad 0 A 25 [(2, 37), (0, x1), (0, x2), (0, x3), (0, x4), (0, x5), (9, 0), (9, 0), (9, 0)] [] d := by
  unfold L_Bo_weigh_y25 at h
  refine g_iload C 5 rfl (by decide +kernel) ?_
  refine g_if_lt C (off := 130) (tgt := 157) hx5 (by decide +kernel) (by decide) (fun hc2_ => ?_) (fun hc2_ => ?_)
  · replace h := ite_t hc2_ h
    refine g_sub (lo2 := [(2, 37), (0, x1), (0, x2), (0, x3), (0, x4), (9, 0), (9, 0), (9, 0), (9, 0)]) (lsb_v (lsb_v (lsb_v (lsb_v (lsb_v (lsb_c (lsb_c (lsb_c (lsb_c lsb_e))))))))) ?_
    obtain rfl := Option.some.inj h
    exact k0 x1 x2 x3 x4 d rfl hx1 hx2 hx3 hx4
  · replace h := ite_f hc2_ h
    refine g_bipush C 10 (by decide) (by decide +kernel) ?_
    refine g_iload_n C 2 rfl (by decide +kernel) ?_
    refine g_iload C 4 rfl (by decide +kernel) ?_
    refine g_isub C (by decide +kernel) ?_
    refine g_iload_n C 3 rfl (by decide +kernel) ?_
    refine g_iadd C (by decide +kernel) ?_
    refine g_iload C 5 rfl (by decide +kernel) ?_
    refine g_isub C (by decide +kernel) ?_
    refine g_imul C (by decide +kernel) ?_
    obtain ⟨v3_, ev4_, h⟩ := lt_some h
    refine g_val ev4_.symm ?_
    have hv5_ : c32 v3_ := by rw [ev4_]; exact (w32_c _)
    refine s_istore C 6 (lo' := [(2, 37), (0, x1), (0, x2), (0, x3), (0, x4), (0, x5), (0, v3_), (9, 0), (9, 0)]) (by decide) (s1k (s1k (s1k (s1k (s1k (s1n (by decide) s1z)))))) (by decide +kernel) ?_
    refine g_iload C 4 rfl (by decide +kernel) ?_
    refine g_iload_n C 2 rfl (by decide +kernel) ?_
    refine g_icmp_ge C (off := 89) (tgt := 136) hx4 hx2 (by decide +kernel) (by decide) (fun hc6_ => ?_) (fun hc6_ => ?_)
    · replace h := ite_t hc6_ h
      refine g_iload C 5 rfl (by decide +kernel) ?_
      refine g_iload_n C 3 rfl (by decide +kernel) ?_
      refine g_icmp_ge C (off := 83) (tgt := 136) hx5 hx3 (by decide +kernel) (by decide) (fun hc7_ => ?_) (fun hc7_ => ?_)
      · replace h := ite_t hc7_ h
        refine g_bipush C 10 (by decide) (by decide +kernel) ?_
        refine g_aload_n C 0 rfl (by decide +kernel) ?_
        refine g_getR C cl0 37 6 44 rfl cd_A37 ⟨by decide, rfl, by decide⟩ rfl rfl (nA (by decide)) (ix := 31) lk_282 (by decide +kernel) ?_
        refine g_iload C 4 rfl (by decide +kernel) ?_
        refine g_iconst C 1 (cK rfl) (by decide +kernel) ?_
        refine g_iadd C (by decide +kernel) ?_
        refine g_bipush C 31 (by decide) (by decide +kernel) ?_
        refine g_imul C (by decide +kernel) ?_
        refine g_iload C 5 rfl (by decide +kernel) ?_
        refine g_iadd C (by decide +kernel) ?_
        obtain ⟨hb8_, h⟩ := ck_some h
        refine g_iald C 44 (w32_c _) rfl cd_A44 (nA (by decide)) hb8_ (by decide +kernel) (fun hc9_ => ?_)
        refine g_aload_n C 0 rfl (by decide +kernel) ?_
        refine g_getR C cl0 37 6 44 rfl cd_A37 ⟨by decide, rfl, by decide⟩ rfl rfl (nA (by decide)) (ix := 31) lk_282 (by decide +kernel) ?_
        refine g_iload C 4 rfl (by decide +kernel) ?_
        refine g_bipush C 31 (by decide) (by decide +kernel) ?_
        refine g_imul C (by decide +kernel) ?_
        refine g_iload C 5 rfl (by decide +kernel) ?_
        refine g_iadd C (by decide +kernel) ?_
        refine g_iconst C 1 (cK rfl) (by decide +kernel) ?_
        refine g_iadd C (by decide +kernel) ?_
        obtain ⟨hb10_, h⟩ := ck_some h
        refine g_iald C 44 (w32_c _) rfl cd_A44 (nA (by decide)) hb10_ (by decide +kernel) (fun hc11_ => ?_)
        refine g_mmin C hc9_ hc11_ (ix := 68) lk_1010 lk_601 lk_16 lk_602 ⟨Nat.le_of_ble_eq_true rfl, Nat.le_of_ble_eq_true rfl, Nat.zero_le _, Nat.zero_le _⟩ (Nat.le_of_ble_eq_true rfl) (by decide +kernel) ?_
        refine g_iadd C (by decide +kernel) ?_
        obtain ⟨v12_, ev13_, h⟩ := lt_some h
        refine g_val ev13_.symm ?_
        have hv14_ : c32 v12_ := by rw [ev13_]; exact (w32_c _)
        refine s_istore C 7 (lo' := [(2, 37), (0, x1), (0, x2), (0, x3), (0, x4), (0, x5), (0, v3_), (0, v12_), (9, 0)]) (by decide) (s1k (s1k (s1k (s1k (s1k (s1k (s1n (by decide) s1z))))))) (by decide +kernel) ?_
        refine g_aload_n C 0 rfl (by decide +kernel) ?_
        refine g_getR C cl0 37 5 43 rfl cd_A37 ⟨by decide, rfl, by decide⟩ rfl rfl (nA (by decide)) (ix := 28) lk_281 (by decide +kernel) ?_
        refine g_iload_n C 1 rfl (by decide +kernel) ?_
        refine g_iload C 4 rfl (by decide +kernel) ?_
        refine g_iload C 5 rfl (by decide +kernel) ?_
        obtain ⟨r16_, d15_, hr17_, h⟩ := bd_some h
        refine g_callS C mw_Bo_costPlace [(0, x1), (0, x4), (0, x5)] (ok_Bo_costPlace x1 x4 x5 d hx1 hx4 hx5 hr17_) (ix := 72) lk_1011 lk_1012 ⟨rfl, rfl, Nat.le_of_ble_eq_true rfl, Nat.le_of_ble_eq_true rfl⟩ rfl (rest := [(2, 43)]) rfl (Nat.le_of_ble_eq_true rfl) ⟨Nat.zero_le _, Nat.zero_le _⟩ (by decide +kernel) (fun _ hc18_ => ?_)
        replace hc18_ : c32 r16_ := hc18_
        refine g_st (st2 := [(0, r16_), (2, 43)]) rfl ?_
        obtain ⟨hb19_, h⟩ := ck_some h
        refine g_iald C 43 hc18_ rfl cd_A43 (nA (by decide)) hb19_ (by decide +kernel) (fun hc20_ => ?_)
        refine g_aload_n C 0 rfl (by decide +kernel) ?_
        refine g_getR C cl0 37 6 44 rfl cd_A37 ⟨by decide, rfl, by decide⟩ rfl rfl (nA (by decide)) (ix := 31) lk_282 (by decide +kernel) ?_
        refine g_iload C 4 rfl (by decide +kernel) ?_
        refine g_iconst C 1 (cK rfl) (by decide +kernel) ?_
        refine g_iadd C (by decide +kernel) ?_
        refine g_bipush C 31 (by decide) (by decide +kernel) ?_
        refine g_imul C (by decide +kernel) ?_
        refine g_iload C 5 rfl (by decide +kernel) ?_
        refine g_iadd C (by decide +kernel) ?_
        refine g_iconst C 1 (cK rfl) (by decide +kernel) ?_
        refine g_iadd C (by decide +kernel) ?_
        obtain ⟨hb21_, h⟩ := ck_some h
        refine g_iald C 44 (w32_c _) rfl cd_A44 (nA (by decide)) hb21_ (by decide +kernel) (fun hc22_ => ?_)
        refine g_iadd C (by decide +kernel) ?_
        obtain ⟨v23_, ev24_, h⟩ := lt_some h
        refine g_val ev24_.symm ?_
        have hv25_ : c32 v23_ := by rw [ev24_]; exact (w32_c _)
        refine s_istore C 8 (lo' := [(2, 37), (0, x1), (0, x2), (0, x3), (0, x4), (0, x5), (0, v3_), (0, v12_), (0, v23_)]) (by decide) (s1k (s1k (s1k (s1k (s1k (s1k (s1k (s1n (by decide) s1z)))))))) (by decide +kernel) ?_
        refine g_iload C 7 rfl (by decide +kernel) ?_
        refine g_iload C 8 rfl (by decide +kernel) ?_
        refine g_mmin C hv14_ hv25_ (ix := 68) lk_1010 lk_601 lk_16 lk_602 ⟨Nat.le_of_ble_eq_true rfl, Nat.le_of_ble_eq_true rfl, Nat.zero_le _, Nat.zero_le _⟩ (Nat.le_of_ble_eq_true rfl) (by decide +kernel) ?_
        obtain ⟨v26_, ev27_, h⟩ := lt_some h
        refine g_val ev27_.symm ?_
        have hv28_ : c32 v26_ := by rw [ev27_]; exact (jmin_c hv14_ hv25_)
        refine s_istore C 6 (lo' := [(2, 37), (0, x1), (0, x2), (0, x3), (0, x4), (0, x5), (0, v26_), (0, v12_), (0, v23_)]) (by decide) (s1k (s1k (s1k (s1k (s1k (s1n (by decide) s1z)))))) (by decide +kernel) ?_
        refine g_sub (lo2 := [(2, 37), (0, x1), (0, x2), (0, x3), (0, x4), (0, x5), (0, v26_), (9, 0), (9, 0)]) (lsb_v (lsb_v (lsb_v (lsb_v (lsb_v (lsb_v (lsb_v (lsb_c (lsb_c lsb_e))))))))) ?_
        exact ok_Bo_weigh_b136 C x1 x2 x3 x4 x5 v26_ d15_ hx1 hx2 hx3 hx4 hx5 hv28_ h kb k0
      · replace h := ite_f hc7_ h
        refine g_sub (lo2 := [(2, 37), (0, x1), (0, x2), (0, x3), (0, x4), (0, x5), (0, v3_), (9, 0), (9, 0)]) (lsb_v (lsb_v (lsb_v (lsb_v (lsb_v (lsb_v (lsb_v (lsb_c (lsb_c lsb_e))))))))) ?_
        exact ok_Bo_weigh_b136 C x1 x2 x3 x4 x5 v3_ d hx1 hx2 hx3 hx4 hx5 hv5_ h kb k0
    · replace h := ite_f hc6_ h
      refine g_sub (lo2 := [(2, 37), (0, x1), (0, x2), (0, x3), (0, x4), (0, x5), (0, v3_), (9, 0), (9, 0)]) (lsb_v (lsb_v (lsb_v (lsb_v (lsb_v (lsb_v (lsb_v (lsb_c (lsb_c lsb_e))))))))) ?_
      exact ok_Bo_weigh_b136 C x1 x2 x3 x4 x5 v3_ d hx1 hx2 hx3 hx4 hx5 hv5_ h kb k0
set_option maxHeartbeats 4000000 in
theorem ok_Bo_weigh_n25 {p : Program} {l : Launch} {e : Env} {s : State} {m : MethodId} {args : Array Value} {below : List Frame} {meth : Method} {c : Code} {D : va_G} {cA : Nat → ClassId} {ad : Nat → Nat} {A : Nat → Prop} (C : Cx p s m args c prog_2_method_14_code 9 "PollBooks$Books" D cA ad 0 A) {Q : State → Prop} {x : (Int × Int × Int × Int × Dt)} : ∀ (n : Nat) (x1 x2 x3 x4 x5 : Int) (d : Dt), c32 x1 → c32 x2 → c32 x3 → c32 x4 → c32 x5 → lpF (fun q : Int × Int × Int × Int × Int × Dt => L_Bo_weigh_y25 q.1 q.2.1 q.2.2.1 q.2.2.2.1 q.2.2.2.2.1 q.2.2.2.2.2) n (x1, x2, x3, x4, x5, d) = some x → (∀ (y0 y1 y2 y3 : Int) (e' : Dt), x = (y0, y1, y2, y3, e') → c32 y0 → c32 y1 → c32 y2 → c32 y3 → G p l e rm_Bo_weigh s m args below meth c 0 0 Q 9 D cA ad 0 A 157 [(2, 37), (0, y0), (0, y1), (0, y2), (0, y3), (9, 0), (9, 0), (9, 0), (9, 0)] [] e') → G p l e rm_Bo_weigh s m args below meth c 0 0 Q 9 D cA ad 0 A 25 [(2, 37), (0, x1), (0, x2), (0, x3), (0, x4), (0, x5), (9, 0), (9, 0), (9, 0)] [] d := by
  intro n
  induction n with
  | zero => intro x1 x2 x3 x4 x5 d g0 g1 g2 g3 g4 h k0; cases h
  | succ n ih =>
    intro x1 x2 x3 x4 x5 d g0 g1 g2 g3 g4 h k0
    rcases lpF_some h with h | ⟨⟨v0_, v1_, v2_, v3_, v4_, e0_⟩, h1, h⟩
    · exact ok_Bo_weigh_y25 C x1 x2 x3 x4 x5 d g0 g1 g2 g3 g4 h (fun z0_ z1_ z2_ z3_ z4_ e1_ eq w0_ w1_ w2_ w3_ w4_ => by cases eq) (fun z0_ z1_ z2_ z3_ e1_ eq w0_ w1_ w2_ w3_ => k0 _ _ _ _ _ (by cases eq; rfl) w0_ w1_ w2_ w3_)
    · exact ok_Bo_weigh_y25 C x1 x2 x3 x4 x5 d g0 g1 g2 g3 g4 h1 (fun z0_ z1_ z2_ z3_ z4_ e1_ eq w0_ w1_ w2_ w3_ w4_ => by cases eq; exact ih _ _ _ _ _ _ w0_ w1_ w2_ w3_ w4_ h k0) (fun z0_ z1_ z2_ z3_ e1_ eq w0_ w1_ w2_ w3_ => by cases eq)
set_option maxHeartbeats 4000000 in
theorem ok_Bo_weigh_l25 {p : Program} {l : Launch} {e : Env} {s : State} {m : MethodId} {args : Array Value} {below : List Frame} {meth : Method} {c : Code} {D : va_G} {cA : Nat → ClassId} {ad : Nat → Nat} {A : Nat → Prop} (C : Cx p s m args c prog_2_method_14_code 9 "PollBooks$Books" D cA ad 0 A) {Q : State → Prop} {x : (Int × Int × Int × Int × Dt)} (x1 x2 x3 x4 x5 : Int) (d : Dt) (hx1 : c32 x1) (hx2 : c32 x2) (hx3 : c32 x3) (hx4 : c32 x4) (hx5 : c32 x5) (h : L_Bo_weigh_l25 x1 x2 x3 x4 x5 d = some x) (k0 : ∀ (y0 y1 y2 y3 : Int) (e' : Dt), x = (y0, y1, y2, y3, e') → c32 y0 → c32 y1 → c32 y2 → c32 y3 → G p l e rm_Bo_weigh s m args below meth c 0 0 Q 9 D cA ad 0 A 157 [(2, 37), (0, y0), (0, y1), (0, y2), (0, y3), (9, 0), (9, 0), (9, 0), (9, 0)] [] e') : G p l e rm_Bo_weigh s m args below meth c 0 0 Q 9 D cA ad 0 A 25 [(2, 37), (0, x1), (0, x2), (0, x3), (0, x4), (0, x5), (9, 0), (9, 0), (9, 0)] [] d :=
  ok_Bo_weigh_n25 C FU x1 x2 x3 x4 x5 d hx1 hx2 hx3 hx4 hx5 h k0
set_option maxHeartbeats 4000000 in
theorem ok_Bo_weigh_y17 {p : Program} {l : Launch} {e : Env} {s : State} {m : MethodId} {args : Array Value} {below : List Frame} {meth : Method} {c : Code} {D : va_G} {cA : Nat → ClassId} {ad : Nat → Nat} {A : Nat → Prop} (C : Cx p s m args c prog_2_method_14_code 9 "PollBooks$Books" D cA ad 0 A) {Q : State → Prop} {o : (Int × Int × Int × Int × Dt) ⊕ ((Int × Dt))} (x1 x2 x3 x4 : Int) (d : Dt) (hx1 : c32 x1) (hx2 : c32 x2) (hx3 : c32 x3) (hx4 : c32 x4) (h : L_Bo_weigh_y17 x1 x2 x3 x4 d = some o) (kb : ∀ (y0 y1 y2 y3 : Int) (e' : Dt), o = .inl (y0, y1, y2, y3, e') → c32 y0 → c32 y1 → c32 y2 → c32 y3 → G p l e rm_Bo_weigh s m args below meth c 0 0 Q 9 D cA ad 0 A 17 [(2, 37), (0, y0), (0, y1), (0, y2), (0, y3), (9, 0), (9, 0), (9, 0), (9, 0)] [] e') (k0 : ∀ (y0 : Int) (e' : Dt), o = .inr (y0, e') → c32 y0 → G p l e rm_Bo_weigh s m args below meth c 0 0 Q 9 D cA ad 0 A 163 [(2, 37), (0, y0), (9, 0), (9, 0), (9, 0), (9, 0), (9, 0), (9, 0), (9, 0)] [] e') : G p l e rm_Bo_weigh s m args below meth c 0 0 Q 9 D cA ad 0 A 17 [(2, 37), (0, x1), (0, x2), (0, x3), (0, x4), (9, 0), (9, 0), (9, 0), (9, 0)] [] d := by
  unfold L_Bo_weigh_y17 at h
  refine g_iload C 4 rfl (by decide +kernel) ?_
  refine g_if_lt C (off := 144) (tgt := 163) hx4 (by decide +kernel) (by decide) (fun hc29_ => ?_) (fun hc29_ => ?_)
  · replace h := ite_t hc29_ h
    refine g_sub (lo2 := [(2, 37), (0, x1), (9, 0), (9, 0), (9, 0), (9, 0), (9, 0), (9, 0), (9, 0)]) (lsb_v (lsb_v (lsb_c (lsb_c (lsb_c (lsb_c (lsb_c (lsb_c (lsb_c lsb_e))))))))) ?_
    obtain rfl := Option.some.inj h
    exact k0 x1 d rfl hx1
  · replace h := ite_f hc29_ h
    refine g_iload_n C 3 rfl (by decide +kernel) ?_
    refine s_istore C 5 (lo' := [(2, 37), (0, x1), (0, x2), (0, x3), (0, x4), (0, x3), (9, 0), (9, 0), (9, 0)]) (by decide) (s1k (s1k (s1k (s1k (s1n (by decide) s1z))))) (by decide +kernel) ?_
    refine g_sub (lo2 := [(2, 37), (0, x1), (0, x2), (0, x3), (0, x4), (0, x3), (9, 0), (9, 0), (9, 0)]) (lsb_v (lsb_v (lsb_v (lsb_v (lsb_v (lsb_v (lsb_c (lsb_c (lsb_c lsb_e))))))))) ?_
    obtain ⟨x30_, hx31_, h⟩ := lb_some h
    refine ok_Bo_weigh_l25 C x1 x2 x3 x4 x3 d hx1 hx2 hx3 hx4 hx3 hx31_ (fun v32_ v33_ v34_ v35_ d36_ eq37_ hv32_ hv33_ hv34_ hv35_ => ?_)
    subst eq37_
    replace h := u4_e h
    refine s_iinc C 4 (-1) (lo' := [(2, 37), (0, v32_), (0, v33_), (0, v34_), (0, (w32 (v35_ + (-1)))), (9, 0), (9, 0), (9, 0), (9, 0)]) rfl (by decide) (s1k (s1k (s1k (s1n (by decide) s1z)))) (by decide +kernel) ?_
    refine g_goto C 17 (off := (-143)) (by decide +kernel) (by decide) ?_
    refine g_sub (lo2 := [(2, 37), (0, v32_), (0, v33_), (0, v34_), (0, (w32 (v35_ + (-1)))), (9, 0), (9, 0), (9, 0), (9, 0)]) (lsb_v (lsb_v (lsb_v (lsb_v (lsb_v (lsb_c (lsb_c (lsb_c (lsb_c lsb_e))))))))) ?_
    obtain rfl := Option.some.inj h
    exact kb v32_ v33_ v34_ (w32 (v35_ + (-1))) d36_ rfl hv32_ hv33_ hv34_ (w32_c _)
set_option maxHeartbeats 4000000 in
theorem ok_Bo_weigh_n17 {p : Program} {l : Launch} {e : Env} {s : State} {m : MethodId} {args : Array Value} {below : List Frame} {meth : Method} {c : Code} {D : va_G} {cA : Nat → ClassId} {ad : Nat → Nat} {A : Nat → Prop} (C : Cx p s m args c prog_2_method_14_code 9 "PollBooks$Books" D cA ad 0 A) {Q : State → Prop} {x : (Int × Dt)} : ∀ (n : Nat) (x1 x2 x3 x4 : Int) (d : Dt), c32 x1 → c32 x2 → c32 x3 → c32 x4 → lpF (fun q : Int × Int × Int × Int × Dt => L_Bo_weigh_y17 q.1 q.2.1 q.2.2.1 q.2.2.2.1 q.2.2.2.2) n (x1, x2, x3, x4, d) = some x → (∀ (y0 : Int) (e' : Dt), x = (y0, e') → c32 y0 → G p l e rm_Bo_weigh s m args below meth c 0 0 Q 9 D cA ad 0 A 163 [(2, 37), (0, y0), (9, 0), (9, 0), (9, 0), (9, 0), (9, 0), (9, 0), (9, 0)] [] e') → G p l e rm_Bo_weigh s m args below meth c 0 0 Q 9 D cA ad 0 A 17 [(2, 37), (0, x1), (0, x2), (0, x3), (0, x4), (9, 0), (9, 0), (9, 0), (9, 0)] [] d := by
  intro n
  induction n with
  | zero => intro x1 x2 x3 x4 d g0 g1 g2 g3 h k0; cases h
  | succ n ih =>
    intro x1 x2 x3 x4 d g0 g1 g2 g3 h k0
    rcases lpF_some h with h | ⟨⟨v0_, v1_, v2_, v3_, e0_⟩, h1, h⟩
    · exact ok_Bo_weigh_y17 C x1 x2 x3 x4 d g0 g1 g2 g3 h (fun z0_ z1_ z2_ z3_ e1_ eq w0_ w1_ w2_ w3_ => by cases eq) (fun z0_ e1_ eq w0_ => k0 _ _ (by cases eq; rfl) w0_)
    · exact ok_Bo_weigh_y17 C x1 x2 x3 x4 d g0 g1 g2 g3 h1 (fun z0_ z1_ z2_ z3_ e1_ eq w0_ w1_ w2_ w3_ => by cases eq; exact ih _ _ _ _ _ w0_ w1_ w2_ w3_ h k0) (fun z0_ e1_ eq w0_ => by cases eq)
set_option maxHeartbeats 4000000 in
theorem ok_Bo_weigh_l17 {p : Program} {l : Launch} {e : Env} {s : State} {m : MethodId} {args : Array Value} {below : List Frame} {meth : Method} {c : Code} {D : va_G} {cA : Nat → ClassId} {ad : Nat → Nat} {A : Nat → Prop} (C : Cx p s m args c prog_2_method_14_code 9 "PollBooks$Books" D cA ad 0 A) {Q : State → Prop} {x : (Int × Dt)} (x1 x2 x3 x4 : Int) (d : Dt) (hx1 : c32 x1) (hx2 : c32 x2) (hx3 : c32 x3) (hx4 : c32 x4) (h : L_Bo_weigh_l17 x1 x2 x3 x4 d = some x) (k0 : ∀ (y0 : Int) (e' : Dt), x = (y0, e') → c32 y0 → G p l e rm_Bo_weigh s m args below meth c 0 0 Q 9 D cA ad 0 A 163 [(2, 37), (0, y0), (9, 0), (9, 0), (9, 0), (9, 0), (9, 0), (9, 0), (9, 0)] [] e') : G p l e rm_Bo_weigh s m args below meth c 0 0 Q 9 D cA ad 0 A 17 [(2, 37), (0, x1), (0, x2), (0, x3), (0, x4), (9, 0), (9, 0), (9, 0), (9, 0)] [] d :=
  ok_Bo_weigh_n17 C FU x1 x2 x3 x4 d hx1 hx2 hx3 hx4 h k0
set_option maxHeartbeats 4000000 in
theorem ok_Bo_weigh {l : Launch} {r : Int} {d' : Dt} (p1 : Int) (d : Dt) (hp1 : c32 p1) (h : L_Bo_weigh p1 d = some (r, d')) : MC l y_Bo_weigh prog_2_method_14_code 9 none rm_Bo_weigh 0 [(2, 37), (0, p1)] d none d' := by
  refine MC.of (by decide) (Nat.le_of_ble_eq_true rfl) ?_
  intro p e s m args below meth c D cA ad A C hlk hr
  replace C : Cx p s m args c prog_2_method_14_code 9 "PollBooks$Books" D cA ad 0 A := C
  show G p l e rm_Bo_weigh s m args below meth c 0 0 (MQ below (fun _ => QC D cA ad 0 A none none d') args s 0 0 A) 9 D cA ad 0 A 0 [(2, 37), (0, p1)] [] d
  refine g_sub (lo2 := [(2, 37), (0, p1), (9, 0), (9, 0), (9, 0), (9, 0), (9, 0), (9, 0), (9, 0)]) (lsb_v (lsb_v (lsb_n (lsb_n (lsb_n (lsb_n (lsb_n (lsb_n (lsb_n lsb_e))))))))) ?_
  unfold L_Bo_weigh at h
  refine g_aload_n C 0 rfl (by decide +kernel) ?_
  refine g_getR C cl0 37 4 42 rfl cd_A37 ⟨by decide, rfl, by decide⟩ rfl rfl (nA (by decide)) (ix := 25) lk_279 (by decide +kernel) ?_
  refine g_iconst C 0 (cK rfl) (by decide +kernel) ?_
  refine g_iald C 42 (c32_cb (Or.inl rfl)) rfl cd_A42 (nA (by decide)) (by decide) (by decide +kernel) (fun hc39_ => ?_)
  refine g_val (y := (d 42 0)) rfl ?_
  replace hc39_ : c32 (d 42 0) := hc39_
  obtain ⟨v40_, ev41_, h⟩ := lt_some h
  refine g_val ev41_.symm ?_
  have hv42_ : c32 v40_ := by rw [ev41_]; exact hc39_
  refine s_istore_n C 2 (lo' := [(2, 37), (0, p1), (0, v40_), (9, 0), (9, 0), (9, 0), (9, 0), (9, 0), (9, 0)]) (by decide) (s1k (s1n (by decide) s1z)) (by decide +kernel) ?_
  refine g_aload_n C 0 rfl (by decide +kernel) ?_
  refine g_getR C cl0 37 4 42 rfl cd_A37 ⟨by decide, rfl, by decide⟩ rfl rfl (nA (by decide)) (ix := 25) lk_279 (by decide +kernel) ?_
  refine g_iload_n C 1 rfl (by decide +kernel) ?_
  obtain ⟨hb43_, h⟩ := ck_some h
  refine g_iald C 42 hp1 rfl cd_A42 (nA (by decide)) hb43_ (by decide +kernel) (fun hc44_ => ?_)
  obtain ⟨v45_, ev46_, h⟩ := lt_some h
  refine g_val ev46_.symm ?_
  have hv47_ : c32 v45_ := by rw [ev46_]; exact hc44_
  refine s_istore_n C 3 (lo' := [(2, 37), (0, p1), (0, v40_), (0, v45_), (9, 0), (9, 0), (9, 0), (9, 0), (9, 0)]) (by decide) (s1k (s1k (s1n (by decide) s1z))) (by decide +kernel) ?_
  refine g_iload_n C 2 rfl (by decide +kernel) ?_
  refine s_istore C 4 (lo' := [(2, 37), (0, p1), (0, v40_), (0, v45_), (0, v40_), (9, 0), (9, 0), (9, 0), (9, 0)]) (by decide) (s1k (s1k (s1k (s1n (by decide) s1z)))) (by decide +kernel) ?_
  refine g_sub (lo2 := [(2, 37), (0, p1), (0, v40_), (0, v45_), (0, v40_), (9, 0), (9, 0), (9, 0), (9, 0)]) (lsb_v (lsb_v (lsb_v (lsb_v (lsb_v (lsb_c (lsb_c (lsb_c (lsb_c lsb_e))))))))) ?_
  obtain ⟨x48_, hx49_, h⟩ := lb_some h
  refine ok_Bo_weigh_l17 C p1 v40_ v45_ v40_ d hp1 hv42_ hv47_ hv42_ hx49_ (fun v50_ d51_ eq52_ hv50_ => ?_)
  subst eq52_
  replace h := u1_e h
  refine g_aload_n C 0 rfl (by decide +kernel) ?_
  refine g_getR C cl0 37 7 45 rfl cd_A37 ⟨by decide, rfl, by decide⟩ rfl rfl (nA (by decide)) (ix := 34) lk_283 (by decide +kernel) ?_
  refine g_iload_n C 1 rfl (by decide +kernel) ?_
  refine g_aload_n C 0 rfl (by decide +kernel) ?_
  refine g_getR C cl0 37 6 44 rfl cd_A37 ⟨by decide, rfl, by decide⟩ rfl rfl (nA (by decide)) (ix := 31) lk_282 (by decide +kernel) ?_
  refine g_iconst C 0 (cK rfl) (by decide +kernel) ?_
  refine g_iald C 44 (c32_cb (Or.inl rfl)) rfl cd_A44 (nA (by decide)) (by decide) (by decide +kernel) (fun hc53_ => ?_)
  refine g_val (y := (d51_ 44 0)) rfl ?_
  replace hc53_ : c32 (d51_ 44 0) := hc53_
  obtain ⟨hb54_, h⟩ := ck_some h
  refine g_iast C 45 hc53_ hv50_ rfl cd_A45 (nA (by decide)) hb54_ (by decide +kernel) ?_
  obtain ⟨rfl, rfl⟩ := ret_inj h
  exact g_vret C hlk hr (by decide +kernel)
/-! PollBooks$Books.pair(I)V -/
def y_Bo_pair : MethodName := ⟨"PollBooks$Books", "pair", "(I)V"⟩
def rm_Bo_pair : Room := { frames := 1, cells := 0, slots := 0, locals := 22 }
theorem mw_Bo_pair : MW y_Bo_pair prog_2_method_15_code 8 none 1 := ⟨lk_1037, lk_9, by decide +kernel⟩
def L_Bo_pair_b100 (x1 x2 x3 x4 x5 : Int) (d : Dt) : Option ((Int × Int × Int × Int × Int × Dt) ⊕ ((Int × Int × Int × Int × Dt))) :=
  some (Sum.inl (x1, x2, x3, x4, (w32 (x5 + 1)), d))
def L_Bo_pair_y20 (x1 x2 x3 x4 x5 : Int) (d : Dt) : Option ((Int × Int × Int × Int × Int × Dt) ⊕ ((Int × Int × Int × Int × Dt))) :=
  ck ((0 : Int) ≤ x1 ∧ x1 < 3) (if x5 < (d 42 x1.toNat) then if x4 = (-1) then lt_ (w32 (10 * (w32 (x5 - x2)))) (fun v5_ => bd (L_Bo_costPlace x1 x3 x5 d) (fun r9_ d8_ => ck ((0 : Int) ≤ r9_ ∧ r9_ < 1800) (ck ((0 : Int) ≤ (w32 ((w32 ((w32 ((w32 (x3 + 1)) * 31)) + x5)) + 1)) ∧ (w32 ((w32 ((w32 ((w32 (x3 + 1)) * 31)) + x5)) + 1)) < 961) (lt_ (w32 ((d8_ 43 r9_.toNat) + (d8_ 44 ((w32 ((w32 ((w32 ((w32 (x3 + 1)) * 31)) + x5)) + 1))).toNat))) (fun v16_ => ck ((0 : Int) ≤ (w32 ((w32 (x3 * 31)) + x2)) ∧ (w32 ((w32 (x3 * 31)) + x2)) < 961) (if (w32 (v5_ + v16_)) = (d8_ 44 ((w32 ((w32 (x3 * 31)) + x2))).toNat) then L_Bo_pair_b100 x1 x2 x3 x5 x5 d8_ else L_Bo_pair_b100 x1 x2 x3 x4 x5 d8_)))))) else some (Sum.inr (x1, x2, x3, x4, d)) else some (Sum.inr (x1, x2, x3, x4, d)))
def L_Bo_pair_l20 (x1 x2 x3 x4 x5 : Int) (d : Dt) : Option ((Int × Int × Int × Int × Dt)) := lpF (fun q : Int × Int × Int × Int × Int × Dt => L_Bo_pair_y20 q.1 q.2.1 q.2.2.1 q.2.2.2.1 q.2.2.2.2.1 q.2.2.2.2.2) FU (x1, x2, x3, x4, x5, d)
def L_Bo_pair_b133 (x1 x3 s0 : Int) (d : Dt) : Option ((Int × Int × Int × Dt) ⊕ ((Dt))) :=
  some (Sum.inl (x1, s0, (w32 (x3 + 1)), d))
def L_Bo_pair_b106 (x1 x2 x3 x4 : Int) (d : Dt) : Option ((Int × Int × Int × Dt) ⊕ ((Dt))) :=
  ck ((0 : Int) ≤ (w32 ((w32 (x1 * 30)) + x3)) ∧ (w32 ((w32 (x1 * 30)) + x3)) < 90) (if x4 = (-1) then L_Bo_pair_b133 x1 x3 x2 (up2 d 46 ((w32 ((w32 (x1 * 30)) + x3))).toNat x4) else L_Bo_pair_b133 x1 x3 (w32 (x4 + 1)) (up2 d 46 ((w32 ((w32 (x1 * 30)) + x3))).toNat x4))
def L_Bo_pair_y4 (x1 x2 x3 : Int) (d : Dt) : Option ((Int × Int × Int × Dt) ⊕ ((Dt))) :=
  if x3 < (d 42 0) then lb (L_Bo_pair_l20 x1 x2 x3 (-1) x2 d) (fun q34_ => u4 q34_ (fun v28_ v29_ v30_ v31_ d32_ => L_Bo_pair_b106 v28_ v29_ v30_ v31_ d32_)) else some (Sum.inr (d))
def L_Bo_pair_l4 (x1 x2 x3 : Int) (d : Dt) : Option ((Dt)) := lpF (fun q : Int × Int × Int × Dt => L_Bo_pair_y4 q.1 q.2.1 q.2.2.1 q.2.2.2) FU (x1, x2, x3, d)
def L_Bo_pair (p1 : Int) (d : Dt) : Option (Int × Dt) :=
  lb (L_Bo_pair_l4 p1 0 0 d) (fun q39_ => u0 q39_ (fun d37_ => some (0, d37_)))
set_option maxHeartbeats 4000000 in
theorem ok_Bo_pair_b100 {p : Program} {l : Launch} {e : Env} {s : State} {m : MethodId} {args : Array Value} {below : List Frame} {meth : Method} {c : Code} {D : va_G} {cA : Nat → ClassId} {ad : Nat → Nat} {A : Nat → Prop} (C : Cx p s m args c prog_2_method_15_code 8 "PollBooks$Books" D cA ad 0 A) {Q : State → Prop} {o : (Int × Int × Int × Int × Int × Dt) ⊕ ((Int × Int × Int × Int × Dt))} (x1 x2 x3 x4 x5 : Int) (d : Dt) (hx1 : c32 x1) (hx2 : c32 x2) (hx3 : c32 x3) (hx4 : c32 x4) (hx5 : c32 x5) (h : L_Bo_pair_b100 x1 x2 x3 x4 x5 d = some o) (kb : ∀ (y0 y1 y2 y3 y4 : Int) (e' : Dt), o = .inl (y0, y1, y2, y3, y4, e') → c32 y0 → c32 y1 → c32 y2 → c32 y3 → c32 y4 → G p l e rm_Bo_pair s m args below meth c 0 0 Q 8 D cA ad 0 A 20 [(2, 37), (0, y0), (0, y1), (0, y2), (0, y3), (0, y4), (9, 0), (9, 0)] [] e') (k0 : ∀ (y0 y1 y2 y3 : Int) (e' : Dt), o = .inr (y0, y1, y2, y3, e') → c32 y0 → c32 y1 → c32 y2 → c32 y3 → G p l e rm_Bo_pair s m args below meth c 0 0 Q 8 D cA ad 0 A 106 [(2, 37), (0, y0), (0, y1), (0, y2), (0, y3), (9, 0), (9, 0), (9, 0)] [] e') : G p l e rm_Bo_pair s m args below meth c 0 0 Q 8 D cA ad 0 A 100 [(2, 37), (0, x1), (0, x2), (0, x3), (0, x4), (0, x5), (9, 0), (9, 0)] [] d := by
  unfold L_Bo_pair_b100 at h
  refine s_iinc C 5 1 (lo' := [(2, 37), (0, x1), (0, x2), (0, x3), (0, x4), (0, (w32 (x5 + 1))), (9, 0), (9, 0)]) rfl (by decide) (s1k (s1k (s1k (s1k (s1n (by decide) s1z))))) (by decide +kernel) ?_
  refine g_goto C 20 (off := (-83)) (by decide +kernel) (by decide) ?_
  refine g_sub (lo2 := [(2, 37), (0, x1), (0, x2), (0, x3), (0, x4), (0, (w32 (x5 + 1))), (9, 0), (9, 0)]) (lsb_v (lsb_v (lsb_v (lsb_v (lsb_v (lsb_v (lsb_c (lsb_c lsb_e)))))))) ?_
  obtain rfl := Option.some.inj h
  exact kb x1 x2 x3 x4 (w32 (x5 + 1)) d rfl hx1 hx2 hx3 hx4 (w32_c _)
set_option maxHeartbeats 4000000 in
theorem ok_Bo_pair_y20 {p : Program} {l : Launch} {e : Env} {s : State} {m : MethodId} {args : Array Value} {below : List Frame} {meth : Method} {c : Code} {D : va_G} {cA : Nat → ClassId} {ad : Nat → Nat} {A : Nat → Prop} (C : Cx p s m args c prog_2_method_15_code 8 "PollBooks$Books" D cA ad 0 A) {Q : State → Prop} {o : (Int × Int × Int × Int × Int × Dt) ⊕ ((Int × Int × Int × Int × Dt))} (x1 x2 x3 x4 x5 : Int) (d : Dt) (hx1 : c32 x1) (hx2 : c32 x2) (hx3 : c32 x3) (hx4 : c32 x4) (hx5 : c32 x5) (h : L_Bo_pair_y20 x1 x2 x3 x4 x5 d = some o) (kb : ∀ (y0 y1 y2 y3 y4 : Int) (e' : Dt), o = .inl (y0, y1, y2, y3, y4, e') → c32 y0 → c32 y1 → c32 y2 → c32 y3 → c32 y4 → G p l e rm_Bo_pair s m args below meth c 0 0 Q 8 D cA ad 0 A 20 [(2, 37), (0, y0), (0, y1), (0, y2), (0, y3), (0, y4), (9, 0), (9, 0)] [] e') (k0 : ∀ (y0 y1 y2 y3 : Int) (e' : Dt), o = .inr (y0, y1, y2, y3, e') → c32 y0 → c32 y1 → c32 y2 → c32 y3 → G p l e rm_Bo_pair s m args below meth c 0 0 Q 8 D cA ad 0 A 106 [(2, 37), (0, y0), (0, y1), (0, y2), (0, y3), (9, 0), (9, 0), (9, 0)] [] e') : G p l e rm_Bo_pair s m args below meth c 0 0 Q 8 D cA ad 0 A 20 [(2, 37), (0, x1), (0, x2), (0, x3), (0, x4), (0, x5), (9, 0), (9, 0)] [] d := by
  unfold L_Bo_pair_y20 at h
  refine g_iload C 5 rfl (by decide +kernel) ?_
  refine g_aload_n C 0 rfl (by decide +kernel) ?_
  refine g_getR C cl0 37 4 42 rfl cd_A37 ⟨by decide, rfl, by decide⟩ rfl rfl (nA (by decide)) (ix := 25) lk_279 (by decide +kernel) ?_
  refine g_iload_n C 1 rfl (by decide +kernel) ?_
  obtain ⟨hb1_, h⟩ := ck_some h
  refine g_iald C 42 hx1 rfl cd_A42 (nA (by decide)) hb1_ (by decide +kernel) (fun hc2_ => ?_)
  refine g_icmp_ge C (off := 78) (tgt := 106) hx5 hc2_ (by decide +kernel) (by decide) (fun hc3_ => ?_) (fun hc3_ => ?_)
  · replace h := ite_t hc3_ h
    refine g_iload C 4 rfl (by decide +kernel) ?_
    refine g_iconst C (-1) (cK rfl) (by decide +kernel) ?_
    refine g_icmp_ne C (off := 72) (tgt := 106) hx4 (cK rfl) (by decide +kernel) (by decide) (fun hc4_ => ?_) (fun hc4_ => ?_)
    · replace h := ite_t hc4_ h
      refine g_bipush C 10 (by decide) (by decide +kernel) ?_
      refine g_iload C 5 rfl (by decide +kernel) ?_
      refine g_iload_n C 2 rfl (by decide +kernel) ?_
      refine g_isub C (by decide +kernel) ?_
      refine g_imul C (by decide +kernel) ?_
      obtain ⟨v5_, ev6_, h⟩ := lt_some h
      refine g_val ev6_.symm ?_
      have hv7_ : c32 v5_ := by rw [ev6_]; exact (w32_c _)
      refine s_istore C 6 (lo' := [(2, 37), (0, x1), (0, x2), (0, x3), (0, x4), (0, x5), (0, v5_), (9, 0)]) (by decide) (s1k (s1k (s1k (s1k (s1k (s1n (by decide) s1z)))))) (by decide +kernel) ?_
      refine g_aload_n C 0 rfl (by decide +kernel) ?_
      refine g_getR C cl0 37 5 43 rfl cd_A37 ⟨by decide, rfl, by decide⟩ rfl rfl (nA (by decide)) (ix := 28) lk_281 (by decide +kernel) ?_
      refine g_iload_n C 1 rfl (by decide +kernel) ?_
      refine g_iload_n C 3 rfl (by decide +kernel) ?_
      refine g_iload C 5 rfl (by decide +kernel) ?_
      obtain ⟨r9_, d8_, hr10_, h⟩ := bd_some h
      refine g_callS C mw_Bo_costPlace [(0, x1), (0, x3), (0, x5)] (ok_Bo_costPlace x1 x3 x5 d hx1 hx3 hx5 hr10_) (ix := 72) lk_1011 lk_1012 ⟨rfl, rfl, Nat.le_of_ble_eq_true rfl, Nat.le_of_ble_eq_true rfl⟩ rfl (rest := [(2, 43)]) rfl (Nat.le_of_ble_eq_true rfl) ⟨Nat.zero_le _, Nat.zero_le _⟩ (by decide +kernel) (fun _ hc11_ => ?_)
      replace hc11_ : c32 r9_ := hc11_
      refine g_st (st2 := [(0, r9_), (2, 43)]) rfl ?_
      obtain ⟨hb12_, h⟩ := ck_some h
      refine g_iald C 43 hc11_ rfl cd_A43 (nA (by decide)) hb12_ (by decide +kernel) (fun hc13_ => ?_)
      refine g_aload_n C 0 rfl (by decide +kernel) ?_
      refine g_getR C cl0 37 6 44 rfl cd_A37 ⟨by decide, rfl, by decide⟩ rfl rfl (nA (by decide)) (ix := 31) lk_282 (by decide +kernel) ?_
      refine g_iload_n C 3 rfl (by decide +kernel) ?_
      refine g_iconst C 1 (cK rfl) (by decide +kernel) ?_
      refine g_iadd C (by decide +kernel) ?_
      refine g_bipush C 31 (by decide) (by decide +kernel) ?_
      refine g_imul C (by decide +kernel) ?_
      refine g_iload C 5 rfl (by decide +kernel) ?_
      refine g_iadd C (by decide +kernel) ?_
      refine g_iconst C 1 (cK rfl) (by decide +kernel) ?_
      refine g_iadd C (by decide +kernel) ?_
      obtain ⟨hb14_, h⟩ := ck_some h
      refine g_iald C 44 (w32_c _) rfl cd_A44 (nA (by decide)) hb14_ (by decide +kernel) (fun hc15_ => ?_)
      refine g_iadd C (by decide +kernel) ?_
      obtain ⟨v16_, ev17_, h⟩ := lt_some h
      refine g_val ev17_.symm ?_
      have hv18_ : c32 v16_ := by rw [ev17_]; exact (w32_c _)
      refine s_istore C 7 (lo' := [(2, 37), (0, x1), (0, x2), (0, x3), (0, x4), (0, x5), (0, v5_), (0, v16_)]) (by decide) (s1k (s1k (s1k (s1k (s1k (s1k (s1n (by decide) s1z))))))) (by decide +kernel) ?_
      refine g_iload C 6 rfl (by decide +kernel) ?_
      refine g_iload C 7 rfl (by decide +kernel) ?_
      refine g_iadd C (by decide +kernel) ?_
      refine g_aload_n C 0 rfl (by decide +kernel) ?_
      refine g_getR C cl0 37 6 44 rfl cd_A37 ⟨by decide, rfl, by decide⟩ rfl rfl (nA (by decide)) (ix := 31) lk_282 (by decide +kernel) ?_
      refine g_iload_n C 3 rfl (by decide +kernel) ?_
      refine g_bipush C 31 (by decide) (by decide +kernel) ?_
      refine g_imul C (by decide +kernel) ?_
      refine g_iload_n C 2 rfl (by decide +kernel) ?_
      refine g_iadd C (by decide +kernel) ?_
      obtain ⟨hb19_, h⟩ := ck_some h
      refine g_iald C 44 (w32_c _) rfl cd_A44 (nA (by decide)) hb19_ (by decide +kernel) (fun hc20_ => ?_)
      refine g_icmp_ne C (off := 7) (tgt := 100) (w32_c _) hc20_ (by decide +kernel) (by decide) (fun hc21_ => ?_) (fun hc21_ => ?_)
      · replace h := ite_t hc21_ h
        refine g_iload C 5 rfl (by decide +kernel) ?_
        refine s_istore C 4 (lo' := [(2, 37), (0, x1), (0, x2), (0, x3), (0, x5), (0, x5), (0, v5_), (0, v16_)]) (by decide) (s1k (s1k (s1k (s1n (by decide) s1z)))) (by decide +kernel) ?_
        refine g_sub (lo2 := [(2, 37), (0, x1), (0, x2), (0, x3), (0, x5), (0, x5), (9, 0), (9, 0)]) (lsb_v (lsb_v (lsb_v (lsb_v (lsb_v (lsb_v (lsb_c (lsb_c lsb_e)))))))) ?_
        exact ok_Bo_pair_b100 C x1 x2 x3 x5 x5 d8_ hx1 hx2 hx3 hx5 hx5 h kb k0
      · replace h := ite_f hc21_ h
        refine g_sub (lo2 := [(2, 37), (0, x1), (0, x2), (0, x3), (0, x4), (0, x5), (9, 0), (9, 0)]) (lsb_v (lsb_v (lsb_v (lsb_v (lsb_v (lsb_v (lsb_c (lsb_c lsb_e)))))))) ?_
        exact ok_Bo_pair_b100 C x1 x2 x3 x4 x5 d8_ hx1 hx2 hx3 hx4 hx5 h kb k0
    · replace h := ite_f hc4_ h
      refine g_sub (lo2 := [(2, 37), (0, x1), (0, x2), (0, x3), (0, x4), (9, 0), (9, 0), (9, 0)]) (lsb_v (lsb_v (lsb_v (lsb_v (lsb_v (lsb_c (lsb_c (lsb_c lsb_e)))))))) ?_
      obtain rfl := Option.some.inj h
      exact k0 x1 x2 x3 x4 d rfl hx1 hx2 hx3 hx4
  · replace h := ite_f hc3_ h
    refine g_sub (lo2 := [(2, 37), (0, x1), (0, x2), (0, x3), (0, x4), (9, 0), (9, 0), (9, 0)]) (lsb_v (lsb_v (lsb_v (lsb_v (lsb_v (lsb_c (lsb_c (lsb_c lsb_e)))))))) ?_
    obtain rfl := Option.some.inj h
    exact k0 x1 x2 x3 x4 d rfl hx1 hx2 hx3 hx4
set_option maxHeartbeats 4000000 in
theorem ok_Bo_pair_n20 {p : Program} {l : Launch} {e : Env} {s : State} {m : MethodId} {args : Array Value} {below : List Frame} {meth : Method} {c : Code} {D : va_G} {cA : Nat → ClassId} {ad : Nat → Nat} {A : Nat → Prop} (C : Cx p s m args c prog_2_method_15_code 8 "PollBooks$Books" D cA ad 0 A) {Q : State → Prop} {x : (Int × Int × Int × Int × Dt)} : ∀ (n : Nat) (x1 x2 x3 x4 x5 : Int) (d : Dt), c32 x1 → c32 x2 → c32 x3 → c32 x4 → c32 x5 → lpF (fun q : Int × Int × Int × Int × Int × Dt => L_Bo_pair_y20 q.1 q.2.1 q.2.2.1 q.2.2.2.1 q.2.2.2.2.1 q.2.2.2.2.2) n (x1, x2, x3, x4, x5, d) = some x → (∀ (y0 y1 y2 y3 : Int) (e' : Dt), x = (y0, y1, y2, y3, e') → c32 y0 → c32 y1 → c32 y2 → c32 y3 → G p l e rm_Bo_pair s m args below meth c 0 0 Q 8 D cA ad 0 A 106 [(2, 37), (0, y0), (0, y1), (0, y2), (0, y3), (9, 0), (9, 0), (9, 0)] [] e') → G p l e rm_Bo_pair s m args below meth c 0 0 Q 8 D cA ad 0 A 20 [(2, 37), (0, x1), (0, x2), (0, x3), (0, x4), (0, x5), (9, 0), (9, 0)] [] d := by
  intro n
  induction n with
  | zero => intro x1 x2 x3 x4 x5 d g0 g1 g2 g3 g4 h k0; cases h
  | succ n ih =>
    intro x1 x2 x3 x4 x5 d g0 g1 g2 g3 g4 h k0
    rcases lpF_some h with h | ⟨⟨v0_, v1_, v2_, v3_, v4_, e0_⟩, h1, h⟩
    · exact ok_Bo_pair_y20 C x1 x2 x3 x4 x5 d g0 g1 g2 g3 g4 h (fun z0_ z1_ z2_ z3_ z4_ e1_ eq w0_ w1_ w2_ w3_ w4_ => by cases eq) (fun z0_ z1_ z2_ z3_ e1_ eq w0_ w1_ w2_ w3_ => k0 _ _ _ _ _ (by cases eq; rfl) w0_ w1_ w2_ w3_)
    · exact ok_Bo_pair_y20 C x1 x2 x3 x4 x5 d g0 g1 g2 g3 g4 h1 (fun z0_ z1_ z2_ z3_ z4_ e1_ eq w0_ w1_ w2_ w3_ w4_ => by cases eq; exact ih _ _ _ _ _ _ w0_ w1_ w2_ w3_ w4_ h k0) (fun z0_ z1_ z2_ z3_ e1_ eq w0_ w1_ w2_ w3_ => by cases eq)
set_option maxHeartbeats 4000000 in
theorem ok_Bo_pair_l20 {p : Program} {l : Launch} {e : Env} {s : State} {m : MethodId} {args : Array Value} {below : List Frame} {meth : Method} {c : Code} {D : va_G} {cA : Nat → ClassId} {ad : Nat → Nat} {A : Nat → Prop} (C : Cx p s m args c prog_2_method_15_code 8 "PollBooks$Books" D cA ad 0 A) {Q : State → Prop} {x : (Int × Int × Int × Int × Dt)} (x1 x2 x3 x4 x5 : Int) (d : Dt) (hx1 : c32 x1) (hx2 : c32 x2) (hx3 : c32 x3) (hx4 : c32 x4) (hx5 : c32 x5) (h : L_Bo_pair_l20 x1 x2 x3 x4 x5 d = some x) (k0 : ∀ (y0 y1 y2 y3 : Int) (e' : Dt), x = (y0, y1, y2, y3, e') → c32 y0 → c32 y1 → c32 y2 → c32 y3 → G p l e rm_Bo_pair s m args below meth c 0 0 Q 8 D cA ad 0 A 106 [(2, 37), (0, y0), (0, y1), (0, y2), (0, y3), (9, 0), (9, 0), (9, 0)] [] e') : G p l e rm_Bo_pair s m args below meth c 0 0 Q 8 D cA ad 0 A 20 [(2, 37), (0, x1), (0, x2), (0, x3), (0, x4), (0, x5), (9, 0), (9, 0)] [] d :=
  ok_Bo_pair_n20 C FU x1 x2 x3 x4 x5 d hx1 hx2 hx3 hx4 hx5 h k0
set_option maxHeartbeats 4000000 in
theorem ok_Bo_pair_b133 {p : Program} {l : Launch} {e : Env} {s : State} {m : MethodId} {args : Array Value} {below : List Frame} {meth : Method} {c : Code} {D : va_G} {cA : Nat → ClassId} {ad : Nat → Nat} {A : Nat → Prop} (C : Cx p s m args c prog_2_method_15_code 8 "PollBooks$Books" D cA ad 0 A) {Q : State → Prop} {o : (Int × Int × Int × Dt) ⊕ ((Dt))} (x1 x3 s0 : Int) (d : Dt) (hx1 : c32 x1) (hx3 : c32 x3) (hs0 : c32 s0) (h : L_Bo_pair_b133 x1 x3 s0 d = some o) (kb : ∀ (y0 y1 y2 : Int) (e' : Dt), o = .inl (y0, y1, y2, e') → c32 y0 → c32 y1 → c32 y2 → G p l e rm_Bo_pair s m args below meth c 0 0 Q 8 D cA ad 0 A 4 [(2, 37), (0, y0), (0, y1), (0, y2), (9, 0), (9, 0), (9, 0), (9, 0)] [] e') (k0 : ∀ (e' : Dt), o = .inr (e') → G p l e rm_Bo_pair s m args below meth c 0 0 Q 8 D cA ad 0 A 140 [(9, 0), (9, 0), (9, 0), (9, 0), (9, 0), (9, 0), (9, 0), (9, 0)] [] e') : G p l e rm_Bo_pair s m args below meth c 0 0 Q 8 D cA ad 0 A 133 [(2, 37), (0, x1), (9, 0), (0, x3), (9, 0), (9, 0), (9, 0), (9, 0)] [(0, s0)] d := by
  unfold L_Bo_pair_b133 at h
  refine s_istore_n C 2 (lo' := [(2, 37), (0, x1), (0, s0), (0, x3), (9, 0), (9, 0), (9, 0), (9, 0)]) (by decide) (s1k (s1n (by decide) s1z)) (by decide +kernel) ?_
  refine s_iinc C 3 1 (lo' := [(2, 37), (0, x1), (0, s0), (0, (w32 (x3 + 1))), (9, 0), (9, 0), (9, 0), (9, 0)]) rfl (by decide) (s1k (s1k (s1n (by decide) s1z))) (by decide +kernel) ?_
  refine g_goto C 4 (off := (-133)) (by decide +kernel) (by decide) ?_
  refine g_sub (lo2 := [(2, 37), (0, x1), (0, s0), (0, (w32 (x3 + 1))), (9, 0), (9, 0), (9, 0), (9, 0)]) (lsb_v (lsb_v (lsb_v (lsb_v (lsb_c (lsb_c (lsb_c (lsb_c lsb_e)))))))) ?_
  obtain rfl := Option.some.inj h
  exact kb x1 s0 (w32 (x3 + 1)) d rfl hx1 hs0 (w32_c _)
set_option maxHeartbeats 4000000 in
theorem ok_Bo_pair_b106 {p : Program} {l : Launch} {e : Env} {s : State} {m : MethodId} {args : Array Value} {below : List Frame} {meth : Method} {c : Code} {D : va_G} {cA : Nat → ClassId} {ad : Nat → Nat} {A : Nat → Prop} (C : Cx p s m args c prog_2_method_15_code 8 "PollBooks$Books" D cA ad 0 A) {Q : State → Prop} {o : (Int × Int × Int × Dt) ⊕ ((Dt))} (x1 x2 x3 x4 : Int) (d : Dt) (hx1 : c32 x1) (hx2 : c32 x2) (hx3 : c32 x3) (hx4 : c32 x4) (h : L_Bo_pair_b106 x1 x2 x3 x4 d = some o) (kb : ∀ (y0 y1 y2 : Int) (e' : Dt), o = .inl (y0, y1, y2, e') → c32 y0 → c32 y1 → c32 y2 → G p l e rm_Bo_pair s m args below meth c 0 0 Q 8 D cA ad 0 A 4 [(2, 37), (0, y0), (0, y1), (0, y2), (9, 0), (9, 0), (9, 0), (9, 0)] [] e') (k0 : ∀ (e' : Dt), o = .inr (e') → G p l e rm_Bo_pair s m args below meth c 0 0 Q 8 D cA ad 0 A 140 [(9, 0), (9, 0), (9, 0), (9, 0), (9, 0), (9, 0), (9, 0), (9, 0)] [] e') : G p l e rm_Bo_pair s m args below meth c 0 0 Q 8 D cA ad 0 A 106 [(2, 37), (0, x1), (0, x2), (0, x3), (0, x4), (9, 0), (9, 0), (9, 0)] [] d := by
  unfold L_Bo_pair_b106 at h
  refine g_aload_n C 0 rfl (by decide +kernel) ?_
  refine g_getR C cl0 37 8 46 rfl cd_A37 ⟨by decide, rfl, by decide⟩ rfl rfl (nA (by decide)) (ix := 37) lk_284 (by decide +kernel) ?_
  refine g_iload_n C 1 rfl (by decide +kernel) ?_
  refine g_bipush C 30 (by decide) (by decide +kernel) ?_
  refine g_imul C (by decide +kernel) ?_
  refine g_iload_n C 3 rfl (by decide +kernel) ?_
  refine g_iadd C (by decide +kernel) ?_
  refine g_iload C 4 rfl (by decide +kernel) ?_
  obtain ⟨hb22_, h⟩ := ck_some h
  refine g_iast C 46 hx4 (w32_c _) rfl cd_A46 (nA (by decide)) hb22_ (by decide +kernel) ?_
  refine g_iload C 4 rfl (by decide +kernel) ?_
  refine g_iconst C (-1) (cK rfl) (by decide +kernel) ?_
  refine g_icmp_ne C (off := 7) (tgt := 129) hx4 (cK rfl) (by decide +kernel) (by decide) (fun hc23_ => ?_) (fun hc23_ => ?_)
  · replace h := ite_t hc23_ h
    refine g_iload_n C 2 rfl (by decide +kernel) ?_
    refine g_goto C 133 (off := 7) (by decide +kernel) (by decide) ?_
    refine g_sub (lo2 := [(2, 37), (0, x1), (9, 0), (0, x3), (9, 0), (9, 0), (9, 0), (9, 0)]) (lsb_v (lsb_v (lsb_c (lsb_v (lsb_c (lsb_c (lsb_c (lsb_c lsb_e)))))))) ?_
    exact ok_Bo_pair_b133 C x1 x3 x2 (up2 d 46 ((w32 ((w32 (x1 * 30)) + x3))).toNat x4) hx1 hx3 hx2 h kb k0
  · replace h := ite_f hc23_ h
    refine g_iload C 4 rfl (by decide +kernel) ?_
    refine g_iconst C 1 (cK rfl) (by decide +kernel) ?_
    refine g_iadd C (by decide +kernel) ?_
    refine g_sub (lo2 := [(2, 37), (0, x1), (9, 0), (0, x3), (9, 0), (9, 0), (9, 0), (9, 0)]) (lsb_v (lsb_v (lsb_c (lsb_v (lsb_c (lsb_c (lsb_c (lsb_c lsb_e)))))))) ?_
    exact ok_Bo_pair_b133 C x1 x3 (w32 (x4 + 1)) (up2 d 46 ((w32 ((w32 (x1 * 30)) + x3))).toNat x4) hx1 hx3 (w32_c _) h kb k0
set_option maxHeartbeats 4000000 in
theorem ok_Bo_pair_y4 {p : Program} {l : Launch} {e : Env} {s : State} {m : MethodId} {args : Array Value} {below : List Frame} {meth : Method} {c : Code} {D : va_G} {cA : Nat → ClassId} {ad : Nat → Nat} {A : Nat → Prop} (C : Cx p s m args c prog_2_method_15_code 8 "PollBooks$Books" D cA ad 0 A) {Q : State → Prop} {o : (Int × Int × Int × Dt) ⊕ ((Dt))} (x1 x2 x3 : Int) (d : Dt) (hx1 : c32 x1) (hx2 : c32 x2) (hx3 : c32 x3) (h : L_Bo_pair_y4 x1 x2 x3 d = some o) (kb : ∀ (y0 y1 y2 : Int) (e' : Dt), o = .inl (y0, y1, y2, e') → c32 y0 → c32 y1 → c32 y2 → G p l e rm_Bo_pair s m args below meth c 0 0 Q 8 D cA ad 0 A 4 [(2, 37), (0, y0), (0, y1), (0, y2), (9, 0), (9, 0), (9, 0), (9, 0)] [] e') (k0 : ∀ (e' : Dt), o = .inr (e') → G p l e rm_Bo_pair s m args below meth c 0 0 Q 8 D cA ad 0 A 140 [(9, 0), (9, 0), (9, 0), (9, 0), (9, 0), (9, 0), (9, 0), (9, 0)] [] e') : G p l e rm_Bo_pair s m args below meth c 0 0 Q 8 D cA ad 0 A 4 [(2, 37), (0, x1), (0, x2), (0, x3), (9, 0), (9, 0), (9, 0), (9, 0)] [] d := by
  unfold L_Bo_pair_y4 at h
  refine g_iload_n C 3 rfl (by decide +kernel) ?_
  refine g_aload_n C 0 rfl (by decide +kernel) ?_
  refine g_getR C cl0 37 4 42 rfl cd_A37 ⟨by decide, rfl, by decide⟩ rfl rfl (nA (by decide)) (ix := 25) lk_279 (by decide +kernel) ?_
  refine g_iconst C 0 (cK rfl) (by decide +kernel) ?_
  refine g_iald C 42 (c32_cb (Or.inl rfl)) rfl cd_A42 (nA (by decide)) (by decide) (by decide +kernel) (fun hc24_ => ?_)
  refine g_val (y := (d 42 0)) rfl ?_
  replace hc24_ : c32 (d 42 0) := hc24_
  refine g_icmp_ge C (off := 129) (tgt := 140) hx3 hc24_ (by decide +kernel) (by decide) (fun hc25_ => ?_) (fun hc25_ => ?_)
  · replace h := ite_t hc25_ h
    refine g_iconst C (-1) (cK rfl) (by decide +kernel) ?_
    refine s_istore C 4 (lo' := [(2, 37), (0, x1), (0, x2), (0, x3), (0, (-1)), (9, 0), (9, 0), (9, 0)]) (by decide) (s1k (s1k (s1k (s1n (by decide) s1z)))) (by decide +kernel) ?_
    refine g_iload_n C 2 rfl (by decide +kernel) ?_
    refine s_istore C 5 (lo' := [(2, 37), (0, x1), (0, x2), (0, x3), (0, (-1)), (0, x2), (9, 0), (9, 0)]) (by decide) (s1k (s1k (s1k (s1k (s1n (by decide) s1z))))) (by decide +kernel) ?_
    refine g_sub (lo2 := [(2, 37), (0, x1), (0, x2), (0, x3), (0, (-1)), (0, x2), (9, 0), (9, 0)]) (lsb_v (lsb_v (lsb_v (lsb_v (lsb_v (lsb_v (lsb_c (lsb_c lsb_e)))))))) ?_
    obtain ⟨x26_, hx27_, h⟩ := lb_some h
    refine ok_Bo_pair_l20 C x1 x2 x3 (-1) x2 d hx1 hx2 hx3 (cK rfl) hx2 hx27_ (fun v28_ v29_ v30_ v31_ d32_ eq33_ hv28_ hv29_ hv30_ hv31_ => ?_)
    subst eq33_
    replace h := u4_e h
    refine g_sub (lo2 := [(2, 37), (0, v28_), (0, v29_), (0, v30_), (0, v31_), (9, 0), (9, 0), (9, 0)]) (lsb_v (lsb_v (lsb_v (lsb_v (lsb_v (lsb_c (lsb_c (lsb_c lsb_e)))))))) ?_
    exact ok_Bo_pair_b106 C v28_ v29_ v30_ v31_ d32_ hv28_ hv29_ hv30_ hv31_ h kb k0
  · replace h := ite_f hc25_ h
    refine g_sub (lo2 := [(9, 0), (9, 0), (9, 0), (9, 0), (9, 0), (9, 0), (9, 0), (9, 0)]) (lsb_c (lsb_c (lsb_c (lsb_c (lsb_c (lsb_c (lsb_c (lsb_c lsb_e)))))))) ?_
    obtain rfl := Option.some.inj h
    exact k0 d rfl 
set_option maxHeartbeats 4000000 in
theorem ok_Bo_pair_n4 {p : Program} {l : Launch} {e : Env} {s : State} {m : MethodId} {args : Array Value} {below : List Frame} {meth : Method} {c : Code} {D : va_G} {cA : Nat → ClassId} {ad : Nat → Nat} {A : Nat → Prop} (C : Cx p s m args c prog_2_method_15_code 8 "PollBooks$Books" D cA ad 0 A) {Q : State → Prop} {x : (Dt)} : ∀ (n : Nat) (x1 x2 x3 : Int) (d : Dt), c32 x1 → c32 x2 → c32 x3 → lpF (fun q : Int × Int × Int × Dt => L_Bo_pair_y4 q.1 q.2.1 q.2.2.1 q.2.2.2) n (x1, x2, x3, d) = some x → (∀ (e' : Dt), x = (e') → G p l e rm_Bo_pair s m args below meth c 0 0 Q 8 D cA ad 0 A 140 [(9, 0), (9, 0), (9, 0), (9, 0), (9, 0), (9, 0), (9, 0), (9, 0)] [] e') → G p l e rm_Bo_pair s m args below meth c 0 0 Q 8 D cA ad 0 A 4 [(2, 37), (0, x1), (0, x2), (0, x3), (9, 0), (9, 0), (9, 0), (9, 0)] [] d := by
  intro n
  induction n with
  | zero => intro x1 x2 x3 d g0 g1 g2 h k0; cases h
  | succ n ih =>
    intro x1 x2 x3 d g0 g1 g2 h k0
    rcases lpF_some h with h | ⟨⟨v0_, v1_, v2_, e0_⟩, h1, h⟩
    · exact ok_Bo_pair_y4 C x1 x2 x3 d g0 g1 g2 h (fun z0_ z1_ z2_ e1_ eq w0_ w1_ w2_ => by cases eq) (fun e1_ eq => k0 _ (by cases eq; rfl) )
    · exact ok_Bo_pair_y4 C x1 x2 x3 d g0 g1 g2 h1 (fun z0_ z1_ z2_ e1_ eq w0_ w1_ w2_ => by cases eq; exact ih _ _ _ _ w0_ w1_ w2_ h k0) (fun e1_ eq => by cases eq)
set_option maxHeartbeats 4000000 in
theorem ok_Bo_pair_l4 {p : Program} {l : Launch} {e : Env} {s : State} {m : MethodId} {args : Array Value} {below : List Frame} {meth : Method} {c : Code} {D : va_G} {cA : Nat → ClassId} {ad : Nat → Nat} {A : Nat → Prop} (C : Cx p s m args c prog_2_method_15_code 8 "PollBooks$Books" D cA ad 0 A) {Q : State → Prop} {x : (Dt)} (x1 x2 x3 : Int) (d : Dt) (hx1 : c32 x1) (hx2 : c32 x2) (hx3 : c32 x3) (h : L_Bo_pair_l4 x1 x2 x3 d = some x) (k0 : ∀ (e' : Dt), x = (e') → G p l e rm_Bo_pair s m args below meth c 0 0 Q 8 D cA ad 0 A 140 [(9, 0), (9, 0), (9, 0), (9, 0), (9, 0), (9, 0), (9, 0), (9, 0)] [] e') : G p l e rm_Bo_pair s m args below meth c 0 0 Q 8 D cA ad 0 A 4 [(2, 37), (0, x1), (0, x2), (0, x3), (9, 0), (9, 0), (9, 0), (9, 0)] [] d :=
  ok_Bo_pair_n4 C FU x1 x2 x3 d hx1 hx2 hx3 h k0
set_option maxHeartbeats 4000000 in
theorem ok_Bo_pair {l : Launch} {r : Int} {d' : Dt} (p1 : Int) (d : Dt) (hp1 : c32 p1) (h : L_Bo_pair p1 d = some (r, d')) : MC l y_Bo_pair prog_2_method_15_code 8 none rm_Bo_pair 0 [(2, 37), (0, p1)] d none d' := by
  refine MC.of (by decide) (Nat.le_of_ble_eq_true rfl) ?_
  intro p e s m args below meth c D cA ad A C hlk hr
  replace C : Cx p s m args c prog_2_method_15_code 8 "PollBooks$Books" D cA ad 0 A := C
  show G p l e rm_Bo_pair s m args below meth c 0 0 (MQ below (fun _ => QC D cA ad 0 A none none d') args s 0 0 A) 8 D cA ad 0 A 0 [(2, 37), (0, p1)] [] d
  refine g_sub (lo2 := [(2, 37), (0, p1), (9, 0), (9, 0), (9, 0), (9, 0), (9, 0), (9, 0)]) (lsb_v (lsb_v (lsb_n (lsb_n (lsb_n (lsb_n (lsb_n (lsb_n lsb_e)))))))) ?_
  unfold L_Bo_pair at h
  refine g_iconst C 0 (cK rfl) (by decide +kernel) ?_
  refine s_istore_n C 2 (lo' := [(2, 37), (0, p1), (0, 0), (9, 0), (9, 0), (9, 0), (9, 0), (9, 0)]) (by decide) (s1k (s1n (by decide) s1z)) (by decide +kernel) ?_
  refine g_iconst C 0 (cK rfl) (by decide +kernel) ?_
  refine s_istore_n C 3 (lo' := [(2, 37), (0, p1), (0, 0), (0, 0), (9, 0), (9, 0), (9, 0), (9, 0)]) (by decide) (s1k (s1k (s1n (by decide) s1z))) (by decide +kernel) ?_
  refine g_sub (lo2 := [(2, 37), (0, p1), (0, 0), (0, 0), (9, 0), (9, 0), (9, 0), (9, 0)]) (lsb_v (lsb_v (lsb_v (lsb_v (lsb_c (lsb_c (lsb_c (lsb_c lsb_e)))))))) ?_
  obtain ⟨x35_, hx36_, h⟩ := lb_some h
  refine ok_Bo_pair_l4 C p1 0 0 d hp1 (c32_cb (Or.inl rfl)) (c32_cb (Or.inl rfl)) hx36_ (fun d37_ eq38_ => ?_)
  replace eq38_ := eq38_.symm
  subst eq38_
  replace h := u0_e h
  obtain ⟨rfl, rfl⟩ := ret_inj h
  exact g_vret C hlk hr (by decide +kernel)
/-! PollBooks$Books.majority(I)I -/
def y_Bo_majority : MethodName := ⟨"PollBooks$Books", "majority", "(I)I"⟩
def rm_Bo_majority : Room := { frames := 0, cells := 0, slots := 0, locals := 0 }
theorem mw_Bo_majority : MW y_Bo_majority prog_2_method_16_code 8 (some .int) 1 := ⟨lk_1041, lk_9, by decide +kernel⟩
def L_Bo_majority_b78 (x1 x2 x3 x4 x5 x6 : Int) (d : Dt) : Option ((Int × Int × Int × Int × Int × Int × Dt) ⊕ ((Int × Int × Int × Int × Int × Dt))) :=
  some (Sum.inl (x1, x2, x3, x4, x5, (w32 (x6 + 1)), d))
def L_Bo_majority_y27 (x1 x2 x3 x4 x5 x6 : Int) (d : Dt) : Option ((Int × Int × Int × Int × Int × Int × Dt) ⊕ ((Int × Int × Int × Int × Int × Dt))) :=
  if x6 < 3 then ck ((0 : Int) ≤ (w32 ((w32 (x6 * 30)) + x1)) ∧ (w32 ((w32 (x6 * 30)) + x1)) < 90) (lt_ (d 46 ((w32 ((w32 (x6 * 30)) + x1))).toNat) (fun v4_ => if v4_ = (-1) then L_Bo_majority_b78 x1 x2 x3 x4 x5 x6 d else ck ((0 : Int) ≤ (w32 ((w32 (x6 * 30)) + v4_)) ∧ (w32 ((w32 (x6 * 30)) + v4_)) < 90) (lt_ (w32 (x5 + (iand (ishr (d 41 ((w32 ((w32 (x6 * 30)) + v4_))).toNat) x3) 1))) (fun v10_ => L_Bo_majority_b78 x1 x2 x3 (w32 (x4 + 1)) v10_ x6 d)))) else some (Sum.inr (x1, x2, x3, x4, x5, d))
def L_Bo_majority_l27 (x1 x2 x3 x4 x5 x6 : Int) (d : Dt) : Option ((Int × Int × Int × Int × Int × Dt)) := lpF (fun q : Int × Int × Int × Int × Int × Int × Dt => L_Bo_majority_y27 q.1 q.2.1 q.2.2.1 q.2.2.2.1 q.2.2.2.2.1 q.2.2.2.2.2.1 q.2.2.2.2.2.2) FU (x1, x2, x3, x4, x5, x6, d)
def L_Bo_majority_b133 (x1 x2 x3 : Int) (d : Dt) : Option ((Int × Int × Int × Dt) ⊕ ((Int × Dt))) :=
  some (Sum.inl (x1, x2, (w32 (x3 + 1)), d))
def L_Bo_majority_b127 (x1 x2 x3 : Int) (d : Dt) : Option ((Int × Int × Int × Dt) ⊕ ((Int × Dt))) :=
  lt_ (ior x2 (ishl 1 x3)) (fun v13_ => L_Bo_majority_b133 x1 v13_ x3 d)
def L_Bo_majority_b102 (x1 x2 x3 x4 x5 s0 : Int) (d : Dt) : Option ((Int × Int × Int × Dt) ⊕ ((Int × Dt))) :=
  if x4 < (w32 (2 * x5)) then L_Bo_majority_b127 x1 x2 x3 d else if (w32 (2 * x5)) = x4 then if s0 = 0 then L_Bo_majority_b133 x1 x2 x3 d else L_Bo_majority_b127 x1 x2 x3 d else L_Bo_majority_b133 x1 x2 x3 d
def L_Bo_majority_y4 (x1 x2 x3 : Int) (d : Dt) : Option ((Int × Int × Int × Dt) ⊕ ((Int × Dt))) :=
  if x3 < 4 then ck ((0 : Int) ≤ x1 ∧ x1 < 90) (lt_ (iand (ishr (d 41 x1.toNat) x3) 1) (fun v22_ => lb (L_Bo_majority_l27 x1 x2 x3 1 v22_ 1 d) (fun q37_ => u5 q37_ (fun v27_ v28_ v29_ v30_ v31_ d32_ => ck ((0 : Int) ≤ v27_ ∧ v27_ < 90) (if (iand (ishr (d32_ 41 v27_.toNat) v29_) 1) = 0 then L_Bo_majority_b102 v27_ v28_ v29_ v30_ v31_ 0 d32_ else L_Bo_majority_b102 v27_ v28_ v29_ v30_ v31_ 1 d32_))))) else some (Sum.inr (x2, d))
def L_Bo_majority_l4 (x1 x2 x3 : Int) (d : Dt) : Option ((Int × Dt)) := lpF (fun q : Int × Int × Int × Dt => L_Bo_majority_y4 q.1 q.2.1 q.2.2.1 q.2.2.2) FU (x1, x2, x3, d)
def L_Bo_majority (p1 : Int) (d : Dt) : Option (Int × Dt) :=
  lb (L_Bo_majority_l4 p1 0 0 d) (fun q43_ => u1 q43_ (fun v40_ d41_ => some (v40_, d41_)))
set_option maxHeartbeats 4000000 in
theorem ok_Bo_majority_b78 {p : Program} {l : Launch} {e : Env} {s : State} {m : MethodId} {args : Array Value} {below : List Frame} {meth : Method} {c : Code} {D : va_G} {cA : Nat → ClassId} {ad : Nat → Nat} {A : Nat → Prop} (C : Cx p s m args c prog_2_method_16_code 8 "PollBooks$Books" D cA ad 0 A) {Q : State → Prop} {o : (Int × Int × Int × Int × Int × Int × Dt) ⊕ ((Int × Int × Int × Int × Int × Dt))} (x1 x2 x3 x4 x5 x6 : Int) (d : Dt) (hx1 : c32 x1) (hx2 : c32 x2) (hx3 : c32 x3) (hx4 : c32 x4) (hx5 : c32 x5) (hx6 : c32 x6) (h : L_Bo_majority_b78 x1 x2 x3 x4 x5 x6 d = some o) (kb : ∀ (y0 y1 y2 y3 y4 y5 : Int) (e' : Dt), o = .inl (y0, y1, y2, y3, y4, y5, e') → c32 y0 → c32 y1 → c32 y2 → c32 y3 → c32 y4 → c32 y5 → G p l e rm_Bo_majority s m args below meth c 0 0 Q 8 D cA ad 0 A 27 [(2, 37), (0, y0), (0, y1), (0, y2), (0, y3), (0, y4), (0, y5), (9, 0)] [] e') (k0 : ∀ (y0 y1 y2 y3 y4 : Int) (e' : Dt), o = .inr (y0, y1, y2, y3, y4, e') → c32 y0 → c32 y1 → c32 y2 → c32 y3 → c32 y4 → G p l e rm_Bo_majority s m args below meth c 0 0 Q 8 D cA ad 0 A 84 [(2, 37), (0, y0), (0, y1), (0, y2), (0, y3), (0, y4), (9, 0), (9, 0)] [] e') : G p l e rm_Bo_majority s m args below meth c 0 0 Q 8 D cA ad 0 A 78 [(2, 37), (0, x1), (0, x2), (0, x3), (0, x4), (0, x5), (0, x6), (9, 0)] [] d := by
  unfold L_Bo_majority_b78 at h
  refine s_iinc C 6 1 (lo' := [(2, 37), (0, x1), (0, x2), (0, x3), (0, x4), (0, x5), (0, (w32 (x6 + 1))), (9, 0)]) rfl (by decide) (s1k (s1k (s1k (s1k (s1k (s1n (by decide) s1z)))))) (by decide +kernel) ?_
  refine g_goto C 27 (off := (-54)) (by decide +kernel) (by decide) ?_
  refine g_sub (lo2 := [(2, 37), (0, x1), (0, x2), (0, x3), (0, x4), (0, x5), (0, (w32 (x6 + 1))), (9, 0)]) (lsb_v (lsb_v (lsb_v (lsb_v (lsb_v (lsb_v (lsb_v (lsb_c lsb_e)))))))) ?_
  obtain rfl := Option.some.inj h
  exact kb x1 x2 x3 x4 x5 (w32 (x6 + 1)) d rfl hx1 hx2 hx3 hx4 hx5 (w32_c _)
set_option maxHeartbeats 4000000 in
theorem ok_Bo_majority_y27 {p : Program} {l : Launch} {e : Env} {s : State} {m : MethodId} {args : Array Value} {below : List Frame} {meth : Method} {c : Code} {D : va_G} {cA : Nat → ClassId} {ad : Nat → Nat} {A : Nat → Prop} (C : Cx p s m args c prog_2_method_16_code 8 "PollBooks$Books" D cA ad 0 A) {Q : State → Prop} {o : (Int × Int × Int × Int × Int × Int × Dt) ⊕ ((Int × Int × Int × Int × Int × Dt))} (x1 x2 x3 x4 x5 x6 : Int) (d : Dt) (hx1 : c32 x1) (hx2 : c32 x2) (hx3 : c32 x3) (hx4 : c32 x4) (hx5 : c32 x5) (hx6 : c32 x6) (h : L_Bo_majority_y27 x1 x2 x3 x4 x5 x6 d = some o) (kb : ∀ (y0 y1 y2 y3 y4 y5 : Int) (e' : Dt), o = .inl (y0, y1, y2, y3, y4, y5, e') → c32 y0 → c32 y1 → c32 y2 → c32 y3 → c32 y4 → c32 y5 → G p l e rm_Bo_majority s m args below meth c 0 0 Q 8 D cA ad 0 A 27 [(2, 37), (0, y0), (0, y1), (0, y2), (0, y3), (0, y4), (0, y5), (9, 0)] [] e') (k0 : ∀ (y0 y1 y2 y3 y4 : Int) (e' : Dt), o = .inr (y0, y1, y2, y3, y4, e') → c32 y0 → c32 y1 → c32 y2 → c32 y3 → c32 y4 → G p l e rm_Bo_majority s m args below meth c 0 0 Q 8 D cA ad 0 A 84 [(2, 37), (0, y0), (0, y1), (0, y2), (0, y3), (0, y4), (9, 0), (9, 0)] [] e') : G p l e rm_Bo_majority s m args below meth c 0 0 Q 8 D cA ad 0 A 27 [(2, 37), (0, x1), (0, x2), (0, x3), (0, x4), (0, x5), (0, x6), (9, 0)] [] d := by
  unfold L_Bo_majority_y27 at h
  refine g_iload C 6 rfl (by decide +kernel) ?_
  refine g_iconst C 3 (cK rfl) (by decide +kernel) ?_
  refine g_icmp_ge C (off := 54) (tgt := 84) hx6 (cK rfl) (by decide +kernel) (by decide) (fun hc1_ => ?_) (fun hc1_ => ?_)
  · replace h := ite_t hc1_ h
    refine g_aload_n C 0 rfl (by decide +kernel) ?_
    refine g_getR C cl0 37 8 46 rfl cd_A37 ⟨by decide, rfl, by decide⟩ rfl rfl (nA (by decide)) (ix := 37) lk_284 (by decide +kernel) ?_
    refine g_iload C 6 rfl (by decide +kernel) ?_
    refine g_bipush C 30 (by decide) (by decide +kernel) ?_
    refine g_imul C (by decide +kernel) ?_
    refine g_iload_n C 1 rfl (by decide +kernel) ?_
    refine g_iadd C (by decide +kernel) ?_
    obtain ⟨hb2_, h⟩ := ck_some h
    refine g_iald C 46 (w32_c _) rfl cd_A46 (nA (by decide)) hb2_ (by decide +kernel) (fun hc3_ => ?_)
    obtain ⟨v4_, ev5_, h⟩ := lt_some h
    refine g_val ev5_.symm ?_
    have hv6_ : c32 v4_ := by rw [ev5_]; exact hc3_
    refine s_istore C 7 (lo' := [(2, 37), (0, x1), (0, x2), (0, x3), (0, x4), (0, x5), (0, x6), (0, v4_)]) (by decide) (s1k (s1k (s1k (s1k (s1k (s1k (s1n (by decide) s1z))))))) (by decide +kernel) ?_
    refine g_iload C 7 rfl (by decide +kernel) ?_
    refine g_iconst C (-1) (cK rfl) (by decide +kernel) ?_
    refine g_icmp_eq C (off := 28) (tgt := 78) hv6_ (cK rfl) (by decide +kernel) (by decide) (fun hc7_ => ?_) (fun hc7_ => ?_)
    · replace h := ite_t hc7_ h
      refine g_sub (lo2 := [(2, 37), (0, x1), (0, x2), (0, x3), (0, x4), (0, x5), (0, x6), (9, 0)]) (lsb_v (lsb_v (lsb_v (lsb_v (lsb_v (lsb_v (lsb_v (lsb_c lsb_e)))))))) ?_
      exact ok_Bo_majority_b78 C x1 x2 x3 x4 x5 x6 d hx1 hx2 hx3 hx4 hx5 hx6 h kb k0
    · replace h := ite_f hc7_ h
      refine s_iinc C 4 1 (lo' := [(2, 37), (0, x1), (0, x2), (0, x3), (0, (w32 (x4 + 1))), (0, x5), (0, x6), (0, v4_)]) rfl (by decide) (s1k (s1k (s1k (s1n (by decide) s1z)))) (by decide +kernel) ?_
      refine g_iload C 5 rfl (by decide +kernel) ?_
      refine g_aload_n C 0 rfl (by decide +kernel) ?_
      refine g_getR C cl0 37 3 41 rfl cd_A37 ⟨by decide, rfl, by decide⟩ rfl rfl (nA (by decide)) (ix := 22) lk_278 (by decide +kernel) ?_
      refine g_iload C 6 rfl (by decide +kernel) ?_
      refine g_bipush C 30 (by decide) (by decide +kernel) ?_
      refine g_imul C (by decide +kernel) ?_
      refine g_iload C 7 rfl (by decide +kernel) ?_
      refine g_iadd C (by decide +kernel) ?_
      obtain ⟨hb8_, h⟩ := ck_some h
      refine g_iald C 41 (w32_c _) rfl cd_A41 (nA (by decide)) hb8_ (by decide +kernel) (fun hc9_ => ?_)
      refine g_iload_n C 3 rfl (by decide +kernel) ?_
      refine g_ishr C (by decide +kernel) ?_
      refine g_iconst C 1 (cK rfl) (by decide +kernel) ?_
      refine g_iand C (by decide +kernel) ?_
      refine g_iadd C (by decide +kernel) ?_
      obtain ⟨v10_, ev11_, h⟩ := lt_some h
      refine g_val ev11_.symm ?_
      have hv12_ : c32 v10_ := by rw [ev11_]; exact (w32_c _)
      refine s_istore C 5 (lo' := [(2, 37), (0, x1), (0, x2), (0, x3), (0, (w32 (x4 + 1))), (0, v10_), (0, x6), (0, v4_)]) (by decide) (s1k (s1k (s1k (s1k (s1n (by decide) s1z))))) (by decide +kernel) ?_
      refine g_sub (lo2 := [(2, 37), (0, x1), (0, x2), (0, x3), (0, (w32 (x4 + 1))), (0, v10_), (0, x6), (9, 0)]) (lsb_v (lsb_v (lsb_v (lsb_v (lsb_v (lsb_v (lsb_v (lsb_c lsb_e)))))))) ?_
      exact ok_Bo_majority_b78 C x1 x2 x3 (w32 (x4 + 1)) v10_ x6 d hx1 hx2 hx3 (w32_c _) hv12_ hx6 h kb k0
  · replace h := ite_f hc1_ h
    refine g_sub (lo2 := [(2, 37), (0, x1), (0, x2), (0, x3), (0, x4), (0, x5), (9, 0), (9, 0)]) (lsb_v (lsb_v (lsb_v (lsb_v (lsb_v (lsb_v (lsb_c (lsb_c lsb_e)))))))) ?_
    obtain rfl := Option.some.inj h
    exact k0 x1 x2 x3 x4 x5 d rfl hx1 hx2 hx3 hx4 hx5
set_option maxHeartbeats 4000000 in
theorem ok_Bo_majority_n27 {p : Program} {l : Launch} {e : Env} {s : State} {m : MethodId} {args : Array Value} {below : List Frame} {meth : Method} {c : Code} {D : va_G} {cA : Nat → ClassId} {ad : Nat → Nat} {A : Nat → Prop} (C : Cx p s m args c prog_2_method_16_code 8 "PollBooks$Books" D cA ad 0 A) {Q : State → Prop} {x : (Int × Int × Int × Int × Int × Dt)} : ∀ (n : Nat) (x1 x2 x3 x4 x5 x6 : Int) (d : Dt), c32 x1 → c32 x2 → c32 x3 → c32 x4 → c32 x5 → c32 x6 → lpF (fun q : Int × Int × Int × Int × Int × Int × Dt => L_Bo_majority_y27 q.1 q.2.1 q.2.2.1 q.2.2.2.1 q.2.2.2.2.1 q.2.2.2.2.2.1 q.2.2.2.2.2.2) n (x1, x2, x3, x4, x5, x6, d) = some x → (∀ (y0 y1 y2 y3 y4 : Int) (e' : Dt), x = (y0, y1, y2, y3, y4, e') → c32 y0 → c32 y1 → c32 y2 → c32 y3 → c32 y4 → G p l e rm_Bo_majority s m args below meth c 0 0 Q 8 D cA ad 0 A 84 [(2, 37), (0, y0), (0, y1), (0, y2), (0, y3), (0, y4), (9, 0), (9, 0)] [] e') → G p l e rm_Bo_majority s m args below meth c 0 0 Q 8 D cA ad 0 A 27 [(2, 37), (0, x1), (0, x2), (0, x3), (0, x4), (0, x5), (0, x6), (9, 0)] [] d := by
  intro n
  induction n with
  | zero => intro x1 x2 x3 x4 x5 x6 d g0 g1 g2 g3 g4 g5 h k0; cases h
  | succ n ih =>
    intro x1 x2 x3 x4 x5 x6 d g0 g1 g2 g3 g4 g5 h k0
    rcases lpF_some h with h | ⟨⟨v0_, v1_, v2_, v3_, v4_, v5_, e0_⟩, h1, h⟩
    · exact ok_Bo_majority_y27 C x1 x2 x3 x4 x5 x6 d g0 g1 g2 g3 g4 g5 h (fun z0_ z1_ z2_ z3_ z4_ z5_ e1_ eq w0_ w1_ w2_ w3_ w4_ w5_ => by cases eq) (fun z0_ z1_ z2_ z3_ z4_ e1_ eq w0_ w1_ w2_ w3_ w4_ => k0 _ _ _ _ _ _ (by cases eq; rfl) w0_ w1_ w2_ w3_ w4_)
    · exact ok_Bo_majority_y27 C x1 x2 x3 x4 x5 x6 d g0 g1 g2 g3 g4 g5 h1 (fun z0_ z1_ z2_ z3_ z4_ z5_ e1_ eq w0_ w1_ w2_ w3_ w4_ w5_ => by cases eq; exact ih _ _ _ _ _ _ _ w0_ w1_ w2_ w3_ w4_ w5_ h k0) (fun z0_ z1_ z2_ z3_ z4_ e1_ eq w0_ w1_ w2_ w3_ w4_ => by cases eq)
set_option maxHeartbeats 4000000 in
theorem ok_Bo_majority_l27 {p : Program} {l : Launch} {e : Env} {s : State} {m : MethodId} {args : Array Value} {below : List Frame} {meth : Method} {c : Code} {D : va_G} {cA : Nat → ClassId} {ad : Nat → Nat} {A : Nat → Prop} (C : Cx p s m args c prog_2_method_16_code 8 "PollBooks$Books" D cA ad 0 A) {Q : State → Prop} {x : (Int × Int × Int × Int × Int × Dt)} (x1 x2 x3 x4 x5 x6 : Int) (d : Dt) (hx1 : c32 x1) (hx2 : c32 x2) (hx3 : c32 x3) (hx4 : c32 x4) (hx5 : c32 x5) (hx6 : c32 x6) (h : L_Bo_majority_l27 x1 x2 x3 x4 x5 x6 d = some x) (k0 : ∀ (y0 y1 y2 y3 y4 : Int) (e' : Dt), x = (y0, y1, y2, y3, y4, e') → c32 y0 → c32 y1 → c32 y2 → c32 y3 → c32 y4 → G p l e rm_Bo_majority s m args below meth c 0 0 Q 8 D cA ad 0 A 84 [(2, 37), (0, y0), (0, y1), (0, y2), (0, y3), (0, y4), (9, 0), (9, 0)] [] e') : G p l e rm_Bo_majority s m args below meth c 0 0 Q 8 D cA ad 0 A 27 [(2, 37), (0, x1), (0, x2), (0, x3), (0, x4), (0, x5), (0, x6), (9, 0)] [] d :=
  ok_Bo_majority_n27 C FU x1 x2 x3 x4 x5 x6 d hx1 hx2 hx3 hx4 hx5 hx6 h k0
set_option maxHeartbeats 4000000 in
theorem ok_Bo_majority_b133 {p : Program} {l : Launch} {e : Env} {s : State} {m : MethodId} {args : Array Value} {below : List Frame} {meth : Method} {c : Code} {D : va_G} {cA : Nat → ClassId} {ad : Nat → Nat} {A : Nat → Prop} (C : Cx p s m args c prog_2_method_16_code 8 "PollBooks$Books" D cA ad 0 A) {Q : State → Prop} {o : (Int × Int × Int × Dt) ⊕ ((Int × Dt))} (x1 x2 x3 : Int) (d : Dt) (hx1 : c32 x1) (hx2 : c32 x2) (hx3 : c32 x3) (h : L_Bo_majority_b133 x1 x2 x3 d = some o) (kb : ∀ (y0 y1 y2 : Int) (e' : Dt), o = .inl (y0, y1, y2, e') → c32 y0 → c32 y1 → c32 y2 → G p l e rm_Bo_majority s m args below meth c 0 0 Q 8 D cA ad 0 A 4 [(2, 37), (0, y0), (0, y1), (0, y2), (9, 0), (9, 0), (9, 0), (9, 0)] [] e') (k0 : ∀ (y0 : Int) (e' : Dt), o = .inr (y0, e') → c32 y0 → G p l e rm_Bo_majority s m args below meth c 0 0 Q 8 D cA ad 0 A 139 [(9, 0), (9, 0), (0, y0), (9, 0), (9, 0), (9, 0), (9, 0), (9, 0)] [] e') : G p l e rm_Bo_majority s m args below meth c 0 0 Q 8 D cA ad 0 A 133 [(2, 37), (0, x1), (0, x2), (0, x3), (9, 0), (9, 0), (9, 0), (9, 0)] [] d := by
  unfold L_Bo_majority_b133 at h
  refine s_iinc C 3 1 (lo' := [(2, 37), (0, x1), (0, x2), (0, (w32 (x3 + 1))), (9, 0), (9, 0), (9, 0), (9, 0)]) rfl (by decide) (s1k (s1k (s1n (by decide) s1z))) (by decide +kernel) ?_
  refine g_goto C 4 (off := (-132)) (by decide +kernel) (by decide) ?_
  refine g_sub (lo2 := [(2, 37), (0, x1), (0, x2), (0, (w32 (x3 + 1))), (9, 0), (9, 0), (9, 0), (9, 0)]) (lsb_v (lsb_v (lsb_v (lsb_v (lsb_c (lsb_c (lsb_c (lsb_c lsb_e)))))))) ?_
  obtain rfl := Option.some.inj h
  exact kb x1 x2 (w32 (x3 + 1)) d rfl hx1 hx2 (w32_c _)
set_option maxHeartbeats 4000000 in
theorem ok_Bo_majority_b127 {p : Program} {l : Launch} {e : Env} {s : State} {m : MethodId} {args : Array Value} {below : List Frame} {meth : Method} {c : Code} {D : va_G} {cA : Nat → ClassId} {ad : Nat → Nat} {A : Nat → Prop} (C : Cx p s m args c prog_2_method_16_code 8 "PollBooks$Books" D cA ad 0 A) {Q : State → Prop} {o : (Int × Int × Int × Dt) ⊕ ((Int × Dt))} (x1 x2 x3 : Int) (d : Dt) (hx1 : c32 x1) (hx2 : c32 x2) (hx3 : c32 x3) (h : L_Bo_majority_b127 x1 x2 x3 d = some o) (kb : ∀ (y0 y1 y2 : Int) (e' : Dt), o = .inl (y0, y1, y2, e') → c32 y0 → c32 y1 → c32 y2 → G p l e rm_Bo_majority s m args below meth c 0 0 Q 8 D cA ad 0 A 4 [(2, 37), (0, y0), (0, y1), (0, y2), (9, 0), (9, 0), (9, 0), (9, 0)] [] e') (k0 : ∀ (y0 : Int) (e' : Dt), o = .inr (y0, e') → c32 y0 → G p l e rm_Bo_majority s m args below meth c 0 0 Q 8 D cA ad 0 A 139 [(9, 0), (9, 0), (0, y0), (9, 0), (9, 0), (9, 0), (9, 0), (9, 0)] [] e') : G p l e rm_Bo_majority s m args below meth c 0 0 Q 8 D cA ad 0 A 127 [(2, 37), (0, x1), (0, x2), (0, x3), (9, 0), (9, 0), (9, 0), (9, 0)] [] d := by
  unfold L_Bo_majority_b127 at h
  refine g_iload_n C 2 rfl (by decide +kernel) ?_
  refine g_iconst C 1 (cK rfl) (by decide +kernel) ?_
  refine g_iload_n C 3 rfl (by decide +kernel) ?_
  refine g_ishl C (by decide +kernel) ?_
  refine g_ior C (by decide +kernel) ?_
  obtain ⟨v13_, ev14_, h⟩ := lt_some h
  refine g_val ev14_.symm ?_
  have hv15_ : c32 v13_ := by rw [ev14_]; exact (i_c _)
  refine s_istore_n C 2 (lo' := [(2, 37), (0, x1), (0, v13_), (0, x3), (9, 0), (9, 0), (9, 0), (9, 0)]) (by decide) (s1k (s1n (by decide) s1z)) (by decide +kernel) ?_
  refine g_sub (lo2 := [(2, 37), (0, x1), (0, v13_), (0, x3), (9, 0), (9, 0), (9, 0), (9, 0)]) (lsb_v (lsb_v (lsb_v (lsb_v (lsb_c (lsb_c (lsb_c (lsb_c lsb_e)))))))) ?_
  exact ok_Bo_majority_b133 C x1 v13_ x3 d hx1 hv15_ hx3 h kb k0
set_option maxHeartbeats 4000000 in
theorem ok_Bo_majority_b102 {p : Program} {l : Launch} {e : Env} {s : State} {m : MethodId} {args : Array Value} {below : List Frame} {meth : Method} {c : Code} {D : va_G} {cA : Nat → ClassId} {ad : Nat → Nat} {A : Nat → Prop} (C : Cx p s m args c prog_2_method_16_code 8 "PollBooks$Books" D cA ad 0 A) {Q : State → Prop} {o : (Int × Int × Int × Dt) ⊕ ((Int × Dt))} (x1 x2 x3 x4 x5 s0 : Int) (d : Dt) (hx1 : c32 x1) (hx2 : c32 x2) (hx3 : c32 x3) (hx4 : c32 x4) (hx5 : c32 x5) (hs0 : cb s0) (h : L_Bo_majority_b102 x1 x2 x3 x4 x5 s0 d = some o) (kb : ∀ (y0 y1 y2 : Int) (e' : Dt), o = .inl (y0, y1, y2, e') → c32 y0 → c32 y1 → c32 y2 → G p l e rm_Bo_majority s m args below meth c 0 0 Q 8 D cA ad 0 A 4 [(2, 37), (0, y0), (0, y1), (0, y2), (9, 0), (9, 0), (9, 0), (9, 0)] [] e') (k0 : ∀ (y0 : Int) (e' : Dt), o = .inr (y0, e') → c32 y0 → G p l e rm_Bo_majority s m args below meth c 0 0 Q 8 D cA ad 0 A 139 [(9, 0), (9, 0), (0, y0), (9, 0), (9, 0), (9, 0), (9, 0), (9, 0)] [] e') : G p l e rm_Bo_majority s m args below meth c 0 0 Q 8 D cA ad 0 A 102 [(2, 37), (0, x1), (0, x2), (0, x3), (0, x4), (0, x5), (9, 0), (9, 0)] [(0, s0)] d := by
  unfold L_Bo_majority_b102 at h
  refine s_istore C 6 (lo' := [(2, 37), (0, x1), (0, x2), (0, x3), (0, x4), (0, x5), (0, s0), (9, 0)]) (by decide) (s1k (s1k (s1k (s1k (s1k (s1n (by decide) s1z)))))) (by decide +kernel) ?_
  refine g_iconst C 2 (cK rfl) (by decide +kernel) ?_
  refine g_iload C 5 rfl (by decide +kernel) ?_
  refine g_imul C (by decide +kernel) ?_
  refine g_iload C 4 rfl (by decide +kernel) ?_
  refine g_icmp_gt C (off := 17) (tgt := 127) (w32_c _) hx4 (by decide +kernel) (by decide) (fun hc16_ => ?_) (fun hc16_ => ?_)
  · replace h := ite_t hc16_ h
    refine g_sub (lo2 := [(2, 37), (0, x1), (0, x2), (0, x3), (9, 0), (9, 0), (9, 0), (9, 0)]) (lsb_v (lsb_v (lsb_v (lsb_v (lsb_c (lsb_c (lsb_c (lsb_c lsb_e)))))))) ?_
    exact ok_Bo_majority_b127 C x1 x2 x3 d hx1 hx2 hx3 h kb k0
  · replace h := ite_f hc16_ h
    refine g_iconst C 2 (cK rfl) (by decide +kernel) ?_
    refine g_iload C 5 rfl (by decide +kernel) ?_
    refine g_imul C (by decide +kernel) ?_
    refine g_iload C 4 rfl (by decide +kernel) ?_
    refine g_icmp_ne C (off := 14) (tgt := 133) (w32_c _) hx4 (by decide +kernel) (by decide) (fun hc17_ => ?_) (fun hc17_ => ?_)
    · replace h := ite_t hc17_ h
      refine g_iload C 6 rfl (by decide +kernel) ?_
      refine g_if_eq C (off := 9) (tgt := 133) (c32_cb hs0) (by decide +kernel) (by decide) (fun hc18_ => ?_) (fun hc18_ => ?_)
      · replace h := ite_t hc18_ h
        refine g_sub (lo2 := [(2, 37), (0, x1), (0, x2), (0, x3), (9, 0), (9, 0), (9, 0), (9, 0)]) (lsb_v (lsb_v (lsb_v (lsb_v (lsb_c (lsb_c (lsb_c (lsb_c lsb_e)))))))) ?_
        exact ok_Bo_majority_b133 C x1 x2 x3 d hx1 hx2 hx3 h kb k0
      · replace h := ite_f hc18_ h
        refine g_sub (lo2 := [(2, 37), (0, x1), (0, x2), (0, x3), (9, 0), (9, 0), (9, 0), (9, 0)]) (lsb_v (lsb_v (lsb_v (lsb_v (lsb_c (lsb_c (lsb_c (lsb_c lsb_e)))))))) ?_
        exact ok_Bo_majority_b127 C x1 x2 x3 d hx1 hx2 hx3 h kb k0
    · replace h := ite_f hc17_ h
      refine g_sub (lo2 := [(2, 37), (0, x1), (0, x2), (0, x3), (9, 0), (9, 0), (9, 0), (9, 0)]) (lsb_v (lsb_v (lsb_v (lsb_v (lsb_c (lsb_c (lsb_c (lsb_c lsb_e)))))))) ?_
      exact ok_Bo_majority_b133 C x1 x2 x3 d hx1 hx2 hx3 h kb k0
set_option maxHeartbeats 4000000 in
theorem ok_Bo_majority_y4 {p : Program} {l : Launch} {e : Env} {s : State} {m : MethodId} {args : Array Value} {below : List Frame} {meth : Method} {c : Code} {D : va_G} {cA : Nat → ClassId} {ad : Nat → Nat} {A : Nat → Prop} (C : Cx p s m args c prog_2_method_16_code 8 "PollBooks$Books" D cA ad 0 A) {Q : State → Prop} {o : (Int × Int × Int × Dt) ⊕ ((Int × Dt))} (x1 x2 x3 : Int) (d : Dt) (hx1 : c32 x1) (hx2 : c32 x2) (hx3 : c32 x3) (h : L_Bo_majority_y4 x1 x2 x3 d = some o) (kb : ∀ (y0 y1 y2 : Int) (e' : Dt), o = .inl (y0, y1, y2, e') → c32 y0 → c32 y1 → c32 y2 → G p l e rm_Bo_majority s m args below meth c 0 0 Q 8 D cA ad 0 A 4 [(2, 37), (0, y0), (0, y1), (0, y2), (9, 0), (9, 0), (9, 0), (9, 0)] [] e') (k0 : ∀ (y0 : Int) (e' : Dt), o = .inr (y0, e') → c32 y0 → G p l e rm_Bo_majority s m args below meth c 0 0 Q 8 D cA ad 0 A 139 [(9, 0), (9, 0), (0, y0), (9, 0), (9, 0), (9, 0), (9, 0), (9, 0)] [] e') : G p l e rm_Bo_majority s m args below meth c 0 0 Q 8 D cA ad 0 A 4 [(2, 37), (0, x1), (0, x2), (0, x3), (9, 0), (9, 0), (9, 0), (9, 0)] [] d := by
  unfold L_Bo_majority_y4 at h
  refine g_iload_n C 3 rfl (by decide +kernel) ?_
  refine g_iconst C 4 (cK rfl) (by decide +kernel) ?_
  refine g_icmp_ge C (off := 133) (tgt := 139) hx3 (cK rfl) (by decide +kernel) (by decide) (fun hc19_ => ?_) (fun hc19_ => ?_)
  · replace h := ite_t hc19_ h
    refine g_iconst C 1 (cK rfl) (by decide +kernel) ?_
    refine s_istore C 4 (lo' := [(2, 37), (0, x1), (0, x2), (0, x3), (0, 1), (9, 0), (9, 0), (9, 0)]) (by decide) (s1k (s1k (s1k (s1n (by decide) s1z)))) (by decide +kernel) ?_
    refine g_aload_n C 0 rfl (by decide +kernel) ?_
    refine g_getR C cl0 37 3 41 rfl cd_A37 ⟨by decide, rfl, by decide⟩ rfl rfl (nA (by decide)) (ix := 22) lk_278 (by decide +kernel) ?_
    refine g_iload_n C 1 rfl (by decide +kernel) ?_
    obtain ⟨hb20_, h⟩ := ck_some h
    refine g_iald C 41 hx1 rfl cd_A41 (nA (by decide)) hb20_ (by decide +kernel) (fun hc21_ => ?_)
    refine g_iload_n C 3 rfl (by decide +kernel) ?_
    refine g_ishr C (by decide +kernel) ?_
    refine g_iconst C 1 (cK rfl) (by decide +kernel) ?_
    refine g_iand C (by decide +kernel) ?_
    obtain ⟨v22_, ev23_, h⟩ := lt_some h
    refine g_val ev23_.symm ?_
    have hv24_ : c32 v22_ := by rw [ev23_]; exact (i_c _)
    refine s_istore C 5 (lo' := [(2, 37), (0, x1), (0, x2), (0, x3), (0, 1), (0, v22_), (9, 0), (9, 0)]) (by decide) (s1k (s1k (s1k (s1k (s1n (by decide) s1z))))) (by decide +kernel) ?_
    refine g_iconst C 1 (cK rfl) (by decide +kernel) ?_
    refine s_istore C 6 (lo' := [(2, 37), (0, x1), (0, x2), (0, x3), (0, 1), (0, v22_), (0, 1), (9, 0)]) (by decide) (s1k (s1k (s1k (s1k (s1k (s1n (by decide) s1z)))))) (by decide +kernel) ?_
    refine g_sub (lo2 := [(2, 37), (0, x1), (0, x2), (0, x3), (0, 1), (0, v22_), (0, 1), (9, 0)]) (lsb_v (lsb_v (lsb_v (lsb_v (lsb_v (lsb_v (lsb_v (lsb_c lsb_e)))))))) ?_
    obtain ⟨x25_, hx26_, h⟩ := lb_some h
    refine ok_Bo_majority_l27 C x1 x2 x3 1 v22_ 1 d hx1 hx2 hx3 (c32_cb (Or.inr rfl)) hv24_ (c32_cb (Or.inr rfl)) hx26_ (fun v27_ v28_ v29_ v30_ v31_ d32_ eq33_ hv27_ hv28_ hv29_ hv30_ hv31_ => ?_)
    subst eq33_
    replace h := u5_e h
    refine g_aload_n C 0 rfl (by decide +kernel) ?_
    refine g_getR C cl0 37 3 41 rfl cd_A37 ⟨by decide, rfl, by decide⟩ rfl rfl (nA (by decide)) (ix := 22) lk_278 (by decide +kernel) ?_
    refine g_iload_n C 1 rfl (by decide +kernel) ?_
    obtain ⟨hb34_, h⟩ := ck_some h
    refine g_iald C 41 hv27_ rfl cd_A41 (nA (by decide)) hb34_ (by decide +kernel) (fun hc35_ => ?_)
    refine g_iload_n C 3 rfl (by decide +kernel) ?_
    refine g_ishr C (by decide +kernel) ?_
    refine g_iconst C 1 (cK rfl) (by decide +kernel) ?_
    refine g_iand C (by decide +kernel) ?_
    refine g_if_eq C (off := 7) (tgt := 101) (i_c _) (by decide +kernel) (by decide) (fun hc36_ => ?_) (fun hc36_ => ?_)
    · replace h := ite_t hc36_ h
      refine g_iconst C 0 (cK rfl) (by decide +kernel) ?_
      refine g_sub (lo2 := [(2, 37), (0, v27_), (0, v28_), (0, v29_), (0, v30_), (0, v31_), (9, 0), (9, 0)]) (lsb_v (lsb_v (lsb_v (lsb_v (lsb_v (lsb_v (lsb_c (lsb_c lsb_e)))))))) ?_
      exact ok_Bo_majority_b102 C v27_ v28_ v29_ v30_ v31_ 0 d32_ hv27_ hv28_ hv29_ hv30_ hv31_ (Or.inl rfl) h kb k0
    · replace h := ite_f hc36_ h
      refine g_iconst C 1 (cK rfl) (by decide +kernel) ?_
      refine g_goto C 102 (off := 4) (by decide +kernel) (by decide) ?_
      refine g_sub (lo2 := [(2, 37), (0, v27_), (0, v28_), (0, v29_), (0, v30_), (0, v31_), (9, 0), (9, 0)]) (lsb_v (lsb_v (lsb_v (lsb_v (lsb_v (lsb_v (lsb_c (lsb_c lsb_e)))))))) ?_
      exact ok_Bo_majority_b102 C v27_ v28_ v29_ v30_ v31_ 1 d32_ hv27_ hv28_ hv29_ hv30_ hv31_ (Or.inr rfl) h kb k0
  · replace h := ite_f hc19_ h
    refine g_sub (lo2 := [(9, 0), (9, 0), (0, x2), (9, 0), (9, 0), (9, 0), (9, 0), (9, 0)]) (lsb_c (lsb_c (lsb_v (lsb_c (lsb_c (lsb_c (lsb_c (lsb_c lsb_e)))))))) ?_
    obtain rfl := Option.some.inj h
    exact k0 x2 d rfl hx2
set_option maxHeartbeats 4000000 in
theorem ok_Bo_majority_n4 {p : Program} {l : Launch} {e : Env} {s : State} {m : MethodId} {args : Array Value} {below : List Frame} {meth : Method} {c : Code} {D : va_G} {cA : Nat → ClassId} {ad : Nat → Nat} {A : Nat → Prop} (C : Cx p s m args c prog_2_method_16_code 8 "PollBooks$Books" D cA ad 0 A) {Q : State → Prop} {x : (Int × Dt)} : ∀ (n : Nat) (x1 x2 x3 : Int) (d : Dt), c32 x1 → c32 x2 → c32 x3 → lpF (fun q : Int × Int × Int × Dt => L_Bo_majority_y4 q.1 q.2.1 q.2.2.1 q.2.2.2) n (x1, x2, x3, d) = some x → (∀ (y0 : Int) (e' : Dt), x = (y0, e') → c32 y0 → G p l e rm_Bo_majority s m args below meth c 0 0 Q 8 D cA ad 0 A 139 [(9, 0), (9, 0), (0, y0), (9, 0), (9, 0), (9, 0), (9, 0), (9, 0)] [] e') → G p l e rm_Bo_majority s m args below meth c 0 0 Q 8 D cA ad 0 A 4 [(2, 37), (0, x1), (0, x2), (0, x3), (9, 0), (9, 0), (9, 0), (9, 0)] [] d := by
  intro n
  induction n with
  | zero => intro x1 x2 x3 d g0 g1 g2 h k0; cases h
  | succ n ih =>
    intro x1 x2 x3 d g0 g1 g2 h k0
    rcases lpF_some h with h | ⟨⟨v0_, v1_, v2_, e0_⟩, h1, h⟩
    · exact ok_Bo_majority_y4 C x1 x2 x3 d g0 g1 g2 h (fun z0_ z1_ z2_ e1_ eq w0_ w1_ w2_ => by cases eq) (fun z0_ e1_ eq w0_ => k0 _ _ (by cases eq; rfl) w0_)
    · exact ok_Bo_majority_y4 C x1 x2 x3 d g0 g1 g2 h1 (fun z0_ z1_ z2_ e1_ eq w0_ w1_ w2_ => by cases eq; exact ih _ _ _ _ w0_ w1_ w2_ h k0) (fun z0_ e1_ eq w0_ => by cases eq)
set_option maxHeartbeats 4000000 in
theorem ok_Bo_majority_l4 {p : Program} {l : Launch} {e : Env} {s : State} {m : MethodId} {args : Array Value} {below : List Frame} {meth : Method} {c : Code} {D : va_G} {cA : Nat → ClassId} {ad : Nat → Nat} {A : Nat → Prop} (C : Cx p s m args c prog_2_method_16_code 8 "PollBooks$Books" D cA ad 0 A) {Q : State → Prop} {x : (Int × Dt)} (x1 x2 x3 : Int) (d : Dt) (hx1 : c32 x1) (hx2 : c32 x2) (hx3 : c32 x3) (h : L_Bo_majority_l4 x1 x2 x3 d = some x) (k0 : ∀ (y0 : Int) (e' : Dt), x = (y0, e') → c32 y0 → G p l e rm_Bo_majority s m args below meth c 0 0 Q 8 D cA ad 0 A 139 [(9, 0), (9, 0), (0, y0), (9, 0), (9, 0), (9, 0), (9, 0), (9, 0)] [] e') : G p l e rm_Bo_majority s m args below meth c 0 0 Q 8 D cA ad 0 A 4 [(2, 37), (0, x1), (0, x2), (0, x3), (9, 0), (9, 0), (9, 0), (9, 0)] [] d :=
  ok_Bo_majority_n4 C FU x1 x2 x3 d hx1 hx2 hx3 h k0
set_option maxHeartbeats 4000000 in
theorem ok_Bo_majority {l : Launch} {r : Int} {d' : Dt} (p1 : Int) (d : Dt) (hp1 : c32 p1) (h : L_Bo_majority p1 d = some (r, d')) : MC l y_Bo_majority prog_2_method_16_code 8 (some .int) rm_Bo_majority 0 [(2, 37), (0, p1)] d (some (0, r)) d' := by
  refine MC.of (by decide) (Nat.le_of_ble_eq_true rfl) ?_
  intro p e s m args below meth c D cA ad A C hlk hr
  replace C : Cx p s m args c prog_2_method_16_code 8 "PollBooks$Books" D cA ad 0 A := C
  show G p l e rm_Bo_majority s m args below meth c 0 0 (MQ below (fun _ => QC D cA ad 0 A (some .int) (some (0, r)) d') args s 0 0 A) 8 D cA ad 0 A 0 [(2, 37), (0, p1)] [] d
  refine g_sub (lo2 := [(2, 37), (0, p1), (9, 0), (9, 0), (9, 0), (9, 0), (9, 0), (9, 0)]) (lsb_v (lsb_v (lsb_n (lsb_n (lsb_n (lsb_n (lsb_n (lsb_n lsb_e)))))))) ?_
  unfold L_Bo_majority at h
  refine g_iconst C 0 (cK rfl) (by decide +kernel) ?_
  refine s_istore_n C 2 (lo' := [(2, 37), (0, p1), (0, 0), (9, 0), (9, 0), (9, 0), (9, 0), (9, 0)]) (by decide) (s1k (s1n (by decide) s1z)) (by decide +kernel) ?_
  refine g_iconst C 0 (cK rfl) (by decide +kernel) ?_
  refine s_istore_n C 3 (lo' := [(2, 37), (0, p1), (0, 0), (0, 0), (9, 0), (9, 0), (9, 0), (9, 0)]) (by decide) (s1k (s1k (s1n (by decide) s1z))) (by decide +kernel) ?_
  refine g_sub (lo2 := [(2, 37), (0, p1), (0, 0), (0, 0), (9, 0), (9, 0), (9, 0), (9, 0)]) (lsb_v (lsb_v (lsb_v (lsb_v (lsb_c (lsb_c (lsb_c (lsb_c lsb_e)))))))) ?_
  obtain ⟨x38_, hx39_, h⟩ := lb_some h
  refine ok_Bo_majority_l4 C p1 0 0 d hp1 (c32_cb (Or.inl rfl)) (c32_cb (Or.inl rfl)) hx39_ (fun v40_ d41_ eq42_ hv40_ => ?_)
  subst eq42_
  replace h := u1_e h
  refine g_iload_n C 2 rfl (by decide +kernel) ?_
  obtain ⟨rfl, rfl⟩ := ret_inj h
  exact g_iret C hv40_ hlk hr (by decide +kernel)
