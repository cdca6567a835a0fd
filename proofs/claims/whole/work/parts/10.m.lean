/-! java/util/Arrays.fill([II)V -/
def y_Ar_fill_aII : MethodName := ⟨"java/util/Arrays", "fill", "([II)V"⟩
def rm_Ar_fill_aII : Room := { frames := 0, cells := 0, slots := 0, locals := 0 }
theorem mw_Ar_fill_aII : MW y_Ar_fill_aII prog_21_method_103_code 4 none 2 := ⟨lk_38, lk_3, by decide +kernel⟩
def L_Ar_fill_aII_y5 (arr0 len0 : Nat) (x1 x2 x3 : Int) (d : Dt) : Option ((Int × Int × Int × Dt) ⊕ ((Dt))) :=
  if x2 < x3 then ck ((0 : Int) ≤ x2 ∧ x2 < (len0 : Int)) (some (Sum.inl (x1, (w32 (x2 + 1)), x3, (up2 d arr0 x2.toNat x1)))) else some (Sum.inr (d))
def L_Ar_fill_aII_l5 (arr0 len0 : Nat) (x1 x2 x3 : Int) (d : Dt) : Option ((Dt)) := lpF (fun q : Int × Int × Int × Dt => L_Ar_fill_aII_y5 arr0 len0 q.1 q.2.1 q.2.2.1 q.2.2.2) FU (x1, x2, x3, d)
def L_Ar_fill_aII (arr0 len0 : Nat) (p2 : Int) (d : Dt) : Option (Int × Dt) :=
  ck (len0 < 100000) (lt_ (len0 : Int) (fun v4_ => lb (L_Ar_fill_aII_l5 arr0 len0 p2 0 v4_ d) (fun q11_ => u0 q11_ (fun d9_ => some (0, d9_)))))
set_option maxHeartbeats 4000000 in
theorem ok_Ar_fill_aII_y5 {p : Program} {l : Launch} {e : Env} {s : State} {m : MethodId} {args : Array Value} {below : List Frame} {meth : Method} {c : Code} {D : va_G} {cA : Nat → ClassId} {ad : Nat → Nat} {A : Nat → Prop} {wd : Nat} (C : Cx p s m args c prog_21_method_103_code 4 "java/util/Arrays" D cA ad wd A) {Q : State → Prop} (arr0 len0 : Nat) (harr0 : cd wd arr0 = (20, len0)) (barr0 : ∀ d : Dt, arr0 < nOf wd d) {o : (Int × Int × Int × Dt) ⊕ ((Dt))} (x1 x2 x3 : Int) (d : Dt) (hx1 : c32 x1) (hx2 : c32 x2) (hx3 : c32 x3) (h : L_Ar_fill_aII_y5 arr0 len0 x1 x2 x3 d = some o) (kb : ∀ (y0 y1 y2 : Int) (e' : Dt), o = .inl (y0, y1, y2, e') → c32 y0 → c32 y1 → c32 y2 → G p l e rm_Ar_fill_aII s m args below meth c 0 0 Q 4 D cA ad wd A 5 [(2, (arr0 : Int)), (0, y0), (0, y1), (0, y2)] [] e') (k0 : ∀ (e' : Dt), o = .inr (e') → G p l e rm_Ar_fill_aII s m args below meth c 0 0 Q 4 D cA ad wd A 20 [(9, 0), (9, 0), (9, 0), (9, 0)] [] e') : G p l e rm_Ar_fill_aII s m args below meth c 0 0 Q 4 D cA ad wd A 5 [(2, (arr0 : Int)), (0, x1), (0, x2), (0, x3)] [] d := by
  unfold L_Ar_fill_aII_y5 at h
  refine g_iload_n C 2 rfl (by decide +kernel) ?_
  refine g_iload_n C 3 rfl (by decide +kernel) ?_
  refine g_icmp_ge C (off := 13) (tgt := 20) hx2 hx3 (by decide +kernel) (by decide) (fun hc1_ => ?_) (fun hc1_ => ?_)
  · replace h := ite_t hc1_ h
    refine g_aload_n C 0 rfl (by decide +kernel) ?_
    refine g_iload_n C 2 rfl (by decide +kernel) ?_
    refine g_iload_n C 1 rfl (by decide +kernel) ?_
    obtain ⟨hb2_, h⟩ := ck_some h
    refine g_iast C arr0 hx1 hx2 rfl harr0 (barr0 _) hb2_ (by decide +kernel) ?_
    refine s_iinc C 2 1 (lo' := [(2, (arr0 : Int)), (0, x1), (0, (w32 (x2 + 1))), (0, x3)]) rfl (by decide) (s1k (s1n (by decide) s1z)) (by decide +kernel) ?_
    refine g_goto C 5 (off := (-12)) (by decide +kernel) (by decide) ?_
    refine g_sub (lo2 := [(2, (arr0 : Int)), (0, x1), (0, (w32 (x2 + 1))), (0, x3)]) (lsb_v (lsb_v (lsb_v (lsb_v lsb_e)))) ?_
    obtain rfl := Option.some.inj h
    exact kb x1 (w32 (x2 + 1)) x3 (up2 d arr0 x2.toNat x1) rfl hx1 (w32_c _) hx3
  · replace h := ite_f hc1_ h
    refine g_sub (lo2 := [(9, 0), (9, 0), (9, 0), (9, 0)]) (lsb_c (lsb_c (lsb_c (lsb_c lsb_e)))) ?_
    obtain rfl := Option.some.inj h
    exact k0 d rfl 
set_option maxHeartbeats 4000000 in
theorem ok_Ar_fill_aII_n5 {p : Program} {l : Launch} {e : Env} {s : State} {m : MethodId} {args : Array Value} {below : List Frame} {meth : Method} {c : Code} {D : va_G} {cA : Nat → ClassId} {ad : Nat → Nat} {A : Nat → Prop} {wd : Nat} (C : Cx p s m args c prog_21_method_103_code 4 "java/util/Arrays" D cA ad wd A) {Q : State → Prop} (arr0 len0 : Nat) (harr0 : cd wd arr0 = (20, len0)) (barr0 : ∀ d : Dt, arr0 < nOf wd d) {x : (Dt)} : ∀ (n : Nat) (x1 x2 x3 : Int) (d : Dt), c32 x1 → c32 x2 → c32 x3 → lpF (fun q : Int × Int × Int × Dt => L_Ar_fill_aII_y5 arr0 len0 q.1 q.2.1 q.2.2.1 q.2.2.2) n (x1, x2, x3, d) = some x → (∀ (e' : Dt), x = (e') → G p l e rm_Ar_fill_aII s m args below meth c 0 0 Q 4 D cA ad wd A 20 [(9, 0), (9, 0), (9, 0), (9, 0)] [] e') → G p l e rm_Ar_fill_aII s m args below meth c 0 0 Q 4 D cA ad wd A 5 [(2, (arr0 : Int)), (0, x1), (0, x2), (0, x3)] [] d := by
  intro n
  induction n with
  | zero => intro x1 x2 x3 d g0 g1 g2 h k0; cases h
  | succ n ih =>
    intro x1 x2 x3 d g0 g1 g2 h k0
    rcases lpF_some h with h | ⟨⟨v0_, v1_, v2_, e0_⟩, h1, h⟩
    · exact ok_Ar_fill_aII_y5 C arr0 len0 harr0 barr0 x1 x2 x3 d g0 g1 g2 h (fun z0_ z1_ z2_ e1_ eq w0_ w1_ w2_ => by cases eq) (fun e1_ eq => k0 _ (by cases eq; rfl) )
    · exact ok_Ar_fill_aII_y5 C arr0 len0 harr0 barr0 x1 x2 x3 d g0 g1 g2 h1 (fun z0_ z1_ z2_ e1_ eq w0_ w1_ w2_ => by cases eq; exact ih _ _ _ _ w0_ w1_ w2_ h k0) (fun e1_ eq => by cases eq)
set_option maxHeartbeats 4000000 in
theorem ok_Ar_fill_aII_l5 {p : Program} {l : Launch} {e : Env} {s : State} {m : MethodId} {args : Array Value} {below : List Frame} {meth : Method} {c : Code} {D : va_G} {cA : Nat → ClassId} {ad : Nat → Nat} {A : Nat → Prop} {wd : Nat} (C : Cx p s m args c prog_21_method_103_code 4 "java/util/Arrays" D cA ad wd A) {Q : State → Prop} (arr0 len0 : Nat) (harr0 : cd wd arr0 = (20, len0)) (barr0 : ∀ d : Dt, arr0 < nOf wd d) {x : (Dt)} (x1 x2 x3 : Int) (d : Dt) (hx1 : c32 x1) (hx2 : c32 x2) (hx3 : c32 x3) (h : L_Ar_fill_aII_l5 arr0 len0 x1 x2 x3 d = some x) (k0 : ∀ (e' : Dt), x = (e') → G p l e rm_Ar_fill_aII s m args below meth c 0 0 Q 4 D cA ad wd A 20 [(9, 0), (9, 0), (9, 0), (9, 0)] [] e') : G p l e rm_Ar_fill_aII s m args below meth c 0 0 Q 4 D cA ad wd A 5 [(2, (arr0 : Int)), (0, x1), (0, x2), (0, x3)] [] d :=
  ok_Ar_fill_aII_n5 C arr0 len0 harr0 barr0 FU x1 x2 x3 d hx1 hx2 hx3 h k0
set_option maxHeartbeats 4000000 in
theorem ok_Ar_fill_aII {l : Launch} {wd : Nat} (arr0 len0 : Nat) (harr0 : cd wd arr0 = (20, len0)) (barr0 : ∀ d : Dt, arr0 < nOf wd d) {r : Int} {d' : Dt} (p2 : Int) (d : Dt) (hp2 : c32 p2) (h : L_Ar_fill_aII arr0 len0 p2 d = some (r, d')) : MC l y_Ar_fill_aII prog_21_method_103_code 4 none rm_Ar_fill_aII wd [(2, (arr0 : Int)), (0, p2)] d none d' := by
  refine MC.of (by decide) (Nat.le_of_ble_eq_true rfl) ?_
  intro p e s m args below meth c D cA ad A C hlk hr
  replace C : Cx p s m args c prog_21_method_103_code 4 "java/util/Arrays" D cA ad wd A := C
  show G p l e rm_Ar_fill_aII s m args below meth c 0 0 (MQ below (fun _ => QC D cA ad wd A none none d') args s 0 0 A) 4 D cA ad wd A 0 [(2, (arr0 : Int)), (0, p2)] [] d
  refine g_sub (lo2 := [(2, (arr0 : Int)), (0, p2), (9, 0), (9, 0)]) (lsb_v (lsb_v (lsb_n (lsb_n lsb_e)))) ?_
  unfold L_Ar_fill_aII at h
  refine g_iconst C 0 (cK rfl) (by decide +kernel) ?_
  refine s_istore_n C 2 (lo' := [(2, (arr0 : Int)), (0, p2), (0, 0), (9, 0)]) (by decide) (s1k (s1n (by decide) s1z)) (by decide +kernel) ?_
  refine g_aload_n C 0 rfl (by decide +kernel) ?_
  obtain ⟨hc3_, h⟩ := ck_some h
  refine g_alen C arr0 rfl harr0 (by decide) (barr0 _) (v := (len0 : Int)) rfl (by decide +kernel) ?_
  obtain ⟨v4_, ev5_, h⟩ := lt_some h
  refine g_val ev5_.symm ?_
  have hv6_ : c32 v4_ := by rw [ev5_]; exact (c32_n hc3_)
  refine s_istore_n C 3 (lo' := [(2, (arr0 : Int)), (0, p2), (0, 0), (0, v4_)]) (by decide) (s1k (s1k (s1n (by decide) s1z))) (by decide +kernel) ?_
  refine g_sub (lo2 := [(2, (arr0 : Int)), (0, p2), (0, 0), (0, v4_)]) (lsb_v (lsb_v (lsb_v (lsb_v lsb_e)))) ?_
  obtain ⟨x7_, hx8_, h⟩ := lb_some h
  refine ok_Ar_fill_aII_l5 C arr0 len0 harr0 barr0 p2 0 v4_ d hp2 (c32_cb (Or.inl rfl)) hv6_ hx8_ (fun d9_ eq10_ => ?_)
  replace eq10_ := eq10_.symm
  subst eq10_
  replace h := u0_e h
  obtain ⟨rfl, rfl⟩ := ret_inj h
  exact g_vret C hlk hr (by decide +kernel)
/-! PollBooks.status()I -/
def y_PB_status : MethodName := ⟨"PollBooks", "status", "()I"⟩
def rm_PB_status : Room := { frames := 0, cells := 0, slots := 0, locals := 0 }
theorem mw_PB_status : MW y_PB_status prog_1_method_2_code 1 (some .int) 0 := ⟨lk_510, lk_1, by decide +kernel⟩
def L_PB_status (d : Dt) : Option (Int × Dt) :=
  some ((d 0 0), d)
set_option maxHeartbeats 4000000 in
theorem ok_PB_status {l : Launch} {r : Int} {d' : Dt} (d : Dt)  (h : L_PB_status d = some (r, d')) : MC l y_PB_status prog_1_method_2_code 1 (some .int) rm_PB_status 0 [(2, 0)] d (some (0, r)) d' := by
  refine MC.of (by decide) (Nat.le_of_ble_eq_true rfl) ?_
  intro p e s m args below meth c D cA ad A C hlk hr
  replace C : Cx p s m args c prog_1_method_2_code 1 "PollBooks" D cA ad 0 A := C
  show G p l e rm_PB_status s m args below meth c 0 0 (MQ below (fun _ => QC D cA ad 0 A (some .int) (some (0, r)) d') args s 0 0 A) 1 D cA ad 0 A 0 [(2, 0)] [] d
  refine g_sub (lo2 := [(2, 0)]) (lsb_v lsb_e) ?_
  unfold L_PB_status at h
  refine g_aload_n C 0 rfl (by decide +kernel) ?_
  refine g_getI C cl11 0 0 rfl cd_A0 ⟨by decide, rfl, by decide⟩ rfl (nA (by decide)) (ix := 9) lk_467 (by decide +kernel) (fun hc1_ => ?_)
  obtain ⟨rfl, rfl⟩ := ret_inj h
  exact g_iret C hc1_ hlk hr (by decide +kernel)
/-! PollBooks$Trays.canBe(I)Z -/
def y_Tr_canBe : MethodName := ⟨"PollBooks$Trays", "canBe", "(I)Z"⟩
def rm_Tr_canBe : Room := { frames := 0, cells := 0, slots := 0, locals := 0 }
theorem mw_Tr_canBe : MW y_Tr_canBe prog_12_method_2_code 2 (some .boolean) 1 := ⟨lk_518, lk_2, by decide +kernel⟩
def L_Tr_canBe (p1 : Int) (d : Dt) : Option (Int × Dt) :=
  if p1 < 0 then some (0, d) else if p1 < 4 then some (1, d) else some (0, d)
set_option maxHeartbeats 4000000 in
theorem ok_Tr_canBe {l : Launch} {r : Int} {d' : Dt} (p1 : Int) (d : Dt) (hp1 : c32 p1) (h : L_Tr_canBe p1 d = some (r, d')) : MC l y_Tr_canBe prog_12_method_2_code 2 (some .boolean) rm_Tr_canBe 0 [(2, 3), (0, p1)] d (some (0, r)) d' := by
  refine MC.of (by decide) (Nat.le_of_ble_eq_true rfl) ?_
  intro p e s m args below meth c D cA ad A C hlk hr
  replace C : Cx p s m args c prog_12_method_2_code 2 "PollBooks$Trays" D cA ad 0 A := C
  show G p l e rm_Tr_canBe s m args below meth c 0 0 (MQ below (fun _ => QC D cA ad 0 A (some .boolean) (some (0, r)) d') args s 0 0 A) 2 D cA ad 0 A 0 [(2, 3), (0, p1)] [] d
  refine g_sub (lo2 := [(2, 3), (0, p1)]) (lsb_v (lsb_v lsb_e)) ?_
  unfold L_Tr_canBe at h
  refine g_iload_n C 1 rfl (by decide +kernel) ?_
  refine g_if_lt C (off := 12) (tgt := 13) hp1 (by decide +kernel) (by decide) (fun hc1_ => ?_) (fun hc1_ => ?_)
  · replace h := ite_t hc1_ h
    refine g_iconst C 0 (cK rfl) (by decide +kernel) ?_
    obtain ⟨rfl, rfl⟩ := ret_inj h
    exact g_zret C (Or.inl rfl) hlk hr (by decide +kernel)
  · replace h := ite_f hc1_ h
    refine g_iload_n C 1 rfl (by decide +kernel) ?_
    refine g_iconst C 4 (cK rfl) (by decide +kernel) ?_
    refine g_icmp_ge C (off := 7) (tgt := 13) hp1 (cK rfl) (by decide +kernel) (by decide) (fun hc2_ => ?_) (fun hc2_ => ?_)
    · replace h := ite_t hc2_ h
      refine g_iconst C 1 (cK rfl) (by decide +kernel) ?_
      refine g_goto C 14 (off := 4) (by decide +kernel) (by decide) ?_
      obtain ⟨rfl, rfl⟩ := ret_inj h
      exact g_zret C (Or.inr rfl) hlk hr (by decide +kernel)
    · replace h := ite_f hc2_ h
      refine g_iconst C 0 (cK rfl) (by decide +kernel) ?_
      obtain ⟨rfl, rfl⟩ := ret_inj h
      exact g_zret C (Or.inl rfl) hlk hr (by decide +kernel)
/-! PollBooks.within(JJJ)Z -/
def y_PB_within : MethodName := ⟨"PollBooks", "within", "(JJJ)Z"⟩
def rm_PB_within : Room := { frames := 0, cells := 0, slots := 0, locals := 0 }
theorem mw_PB_within : MW y_PB_within prog_1_method_52_code 6 (some .boolean) 3 := ⟨lk_522, lk_1, by decide +kernel⟩
def L_PB_within (p1 p2 p3 : Int) (d : Dt) : Option (Int × Dt) :=
  if p1 < p2 then some (0, d) else if p3 < p1 then some (0, d) else some (1, d)
set_option maxHeartbeats 4000000 in
theorem ok_PB_within {l : Launch} {r : Int} {d' : Dt} (p1 p2 p3 : Int) (d : Dt) (hp1 : c64 p1) (hp2 : c64 p2) (hp3 : c64 p3) (h : L_PB_within p1 p2 p3 d = some (r, d')) : MC l y_PB_within prog_1_method_52_code 6 (some .boolean) rm_PB_within 0 [(1, p1), (1, p2), (1, p3)] d (some (0, r)) d' := by
  refine MC.of (by decide) (Nat.le_of_ble_eq_true rfl) ?_
  intro p e s m args below meth c D cA ad A C hlk hr
  replace C : Cx p s m args c prog_1_method_52_code 6 "PollBooks" D cA ad 0 A := C
  show G p l e rm_PB_within s m args below meth c 0 0 (MQ below (fun _ => QC D cA ad 0 A (some .boolean) (some (0, r)) d') args s 0 0 A) 6 D cA ad 0 A 0 [(1, p1), (9, 0), (1, p2), (9, 0), (1, p3), (9, 0)] [] d
  refine g_sub (lo2 := [(1, p1), (9, 0), (1, p2), (9, 0), (1, p3), (9, 0)]) (lsb_v (lsb_c (lsb_v (lsb_c (lsb_v (lsb_c lsb_e)))))) ?_
  unfold L_PB_within at h
  refine g_lload_n C 0 rfl (by decide +kernel) ?_
  refine g_lload_n C 2 rfl (by decide +kernel) ?_
  refine g_lc_lt C (off := 14) (tgt := 17) hp1 hp2 (by decide +kernel) (by decide +kernel) (by decide) (fun hc1_ => ?_) (fun hc1_ => ?_)
  · replace h := ite_t hc1_ h
    refine g_iconst C 0 (cK rfl) (by decide +kernel) ?_
    obtain ⟨rfl, rfl⟩ := ret_inj h
    exact g_zret C (Or.inl rfl) hlk hr (by decide +kernel)
  · replace h := ite_f hc1_ h
    refine g_lload_n C 0 rfl (by decide +kernel) ?_
    refine g_lload C 4 rfl (by decide +kernel) ?_
    refine g_lc_gt C (off := 7) (tgt := 17) hp1 hp3 (by decide +kernel) (by decide +kernel) (by decide) (fun hc2_ => ?_) (fun hc2_ => ?_)
    · replace h := ite_t hc2_ h
      refine g_iconst C 0 (cK rfl) (by decide +kernel) ?_
      obtain ⟨rfl, rfl⟩ := ret_inj h
      exact g_zret C (Or.inl rfl) hlk hr (by decide +kernel)
    · replace h := ite_f hc2_ h
      refine g_iconst C 1 (cK rfl) (by decide +kernel) ?_
      refine g_goto C 18 (off := 4) (by decide +kernel) (by decide) ?_
      obtain ⟨rfl, rfl⟩ := ret_inj h
      exact g_zret C (Or.inr rfl) hlk hr (by decide +kernel)
/-! java/util/Arrays.rangeCheck(III)V -/
def y_Ar_rangeCheck : MethodName := ⟨"java/util/Arrays", "rangeCheck", "(III)V"⟩
def rm_Ar_rangeCheck : Room := { frames := 0, cells := 0, slots := 0, locals := 0 }
theorem mw_Ar_rangeCheck : MW y_Ar_rangeCheck prog_21_method_30_code 3 none 3 := ⟨lk_533, lk_3, by decide +kernel⟩
def L_Ar_rangeCheck (p1 p2 p3 : Int) (d : Dt) : Option (Int × Dt) :=
  if p3 < p2 then none else if p2 < 0 then none else if p1 < p3 then none else some (0, d)
set_option maxHeartbeats 4000000 in
theorem ok_Ar_rangeCheck {l : Launch} {wd : Nat} {r : Int} {d' : Dt} (p1 p2 p3 : Int) (d : Dt) (hp1 : c32 p1) (hp2 : c32 p2) (hp3 : c32 p3) (h : L_Ar_rangeCheck p1 p2 p3 d = some (r, d')) : MC l y_Ar_rangeCheck prog_21_method_30_code 3 none rm_Ar_rangeCheck wd [(0, p1), (0, p2), (0, p3)] d none d' := by
  refine MC.of (by decide) (Nat.le_of_ble_eq_true rfl) ?_
  intro p e s m args below meth c D cA ad A C hlk hr
  replace C : Cx p s m args c prog_21_method_30_code 3 "java/util/Arrays" D cA ad wd A := C
  show G p l e rm_Ar_rangeCheck s m args below meth c 0 0 (MQ below (fun _ => QC D cA ad wd A none none d') args s 0 0 A) 3 D cA ad wd A 0 [(0, p1), (0, p2), (0, p3)] [] d
  refine g_sub (lo2 := [(0, p1), (0, p2), (0, p3)]) (lsb_v (lsb_v (lsb_v lsb_e))) ?_
  unfold L_Ar_rangeCheck at h
  refine g_iload_n C 1 rfl (by decide +kernel) ?_
  refine g_iload_n C 2 rfl (by decide +kernel) ?_
  refine g_icmp_le C (off := 44) (tgt := 46) hp2 hp3 (by decide +kernel) (by decide) (fun hc1_ => ?_) (fun hc1_ => ?_)
  · replace h := ite_t hc1_ h
    cases h
  · replace h := ite_f hc1_ h
    refine g_iload_n C 1 rfl (by decide +kernel) ?_
    refine g_if_ge C (off := 12) (tgt := 59) hp2 (by decide +kernel) (by decide) (fun hc2_ => ?_) (fun hc2_ => ?_)
    · replace h := ite_t hc2_ h
      cases h
    · replace h := ite_f hc2_ h
      refine g_iload_n C 2 rfl (by decide +kernel) ?_
      refine g_iload_n C 0 rfl (by decide +kernel) ?_
      refine g_icmp_le C (off := 12) (tgt := 73) hp3 hp1 (by decide +kernel) (by decide) (fun hc3_ => ?_) (fun hc3_ => ?_)
      · replace h := ite_t hc3_ h
        cases h
      · replace h := ite_f hc3_ h
        obtain ⟨rfl, rfl⟩ := ret_inj h
        exact g_vret C hlk hr (by decide +kernel)
/-! java/util/Arrays.fill([JIIJ)V -/
def y_Ar_fill_aJIIJ : MethodName := ⟨"java/util/Arrays", "fill", "([JIIJ)V"⟩
def rm_Ar_fill_aJIIJ : Room := { frames := 1, cells := 0, slots := 0, locals := 22 }
theorem mw_Ar_fill_aJIIJ : MW y_Ar_fill_aJIIJ prog_21_method_102_code 6 none 4 := ⟨lk_530, lk_3, by decide +kernel⟩
def L_Ar_fill_aJIIJ_y10 (arr0 len0 : Nat) (x2 x3 x5 : Int) (d : Dt) : Option ((Int × Int × Int × Dt) ⊕ ((Dt))) :=
  if x5 < x2 then ck ((0 : Int) ≤ x5 ∧ x5 < (len0 : Int)) (some (Sum.inl (x2, x3, (w32 (x5 + 1)), (up2 d arr0 x5.toNat x3)))) else some (Sum.inr (d))
def L_Ar_fill_aJIIJ_l10 (arr0 len0 : Nat) (x2 x3 x5 : Int) (d : Dt) : Option ((Dt)) := lpF (fun q : Int × Int × Int × Dt => L_Ar_fill_aJIIJ_y10 arr0 len0 q.1 q.2.1 q.2.2.1 q.2.2.2) FU (x2, x3, x5, d)
def L_Ar_fill_aJIIJ (arr0 len0 : Nat) (p2 p3 p4 : Int) (d : Dt) : Option (Int × Dt) :=
  ck (len0 < 100000) (bd (L_Ar_rangeCheck (len0 : Int) p2 p3 d) (fun r5_ d4_ => lb (L_Ar_fill_aJIIJ_l10 arr0 len0 p3 p4 p2 d4_) (fun q12_ => u0 q12_ (fun d10_ => some (0, d10_)))))
set_option maxHeartbeats 4000000 in
theorem ok_Ar_fill_aJIIJ_y10 {p : Program} {l : Launch} {e : Env} {s : State} {m : MethodId} {args : Array Value} {below : List Frame} {meth : Method} {c : Code} {D : va_G} {cA : Nat → ClassId} {ad : Nat → Nat} {A : Nat → Prop} {wd : Nat} (C : Cx p s m args c prog_21_method_102_code 6 "java/util/Arrays" D cA ad wd A) {Q : State → Prop} (arr0 len0 : Nat) (harr0 : cd wd arr0 = (21, len0)) (barr0 : ∀ d : Dt, arr0 < nOf wd d) {o : (Int × Int × Int × Dt) ⊕ ((Dt))} (x2 x3 x5 : Int) (d : Dt) (hx2 : c32 x2) (hx3 : c64 x3) (hx5 : c32 x5) (h : L_Ar_fill_aJIIJ_y10 arr0 len0 x2 x3 x5 d = some o) (kb : ∀ (y0 y1 y2 : Int) (e' : Dt), o = .inl (y0, y1, y2, e') → c32 y0 → c64 y1 → c32 y2 → G p l e rm_Ar_fill_aJIIJ s m args below meth c 0 0 Q 6 D cA ad wd A 10 [(2, (arr0 : Int)), (9, 0), (0, y0), (1, y1), (9, 0), (0, y2)] [] e') (k0 : ∀ (e' : Dt), o = .inr (e') → G p l e rm_Ar_fill_aJIIJ s m args below meth c 0 0 Q 6 D cA ad wd A 27 [(9, 0), (9, 0), (9, 0), (9, 0), (9, 0), (9, 0)] [] e') : G p l e rm_Ar_fill_aJIIJ s m args below meth c 0 0 Q 6 D cA ad wd A 10 [(2, (arr0 : Int)), (9, 0), (0, x2), (1, x3), (9, 0), (0, x5)] [] d := by
  unfold L_Ar_fill_aJIIJ_y10 at h
  refine g_iload C 5 rfl (by decide +kernel) ?_
  refine g_iload_n C 2 rfl (by decide +kernel) ?_
  refine g_icmp_ge C (off := 14) (tgt := 27) hx5 hx2 (by decide +kernel) (by decide) (fun hc1_ => ?_) (fun hc1_ => ?_)
  · replace h := ite_t hc1_ h
    refine g_aload_n C 0 rfl (by decide +kernel) ?_
    refine g_iload C 5 rfl (by decide +kernel) ?_
    refine g_lload_n C 3 rfl (by decide +kernel) ?_
    obtain ⟨hb2_, h⟩ := ck_some h
    refine g_last C arr0 hx3 hx5 rfl harr0 (barr0 _) hb2_ (by decide +kernel) ?_
    refine s_iinc C 5 1 (lo' := [(2, (arr0 : Int)), (9, 0), (0, x2), (1, x3), (9, 0), (0, (w32 (x5 + 1)))]) rfl (by decide) (s1k (s1k (s1k (s1k (s1n (by decide) s1z))))) (by decide +kernel) ?_
    refine g_goto C 10 (off := (-14)) (by decide +kernel) (by decide) ?_
    refine g_sub (lo2 := [(2, (arr0 : Int)), (9, 0), (0, x2), (1, x3), (9, 0), (0, (w32 (x5 + 1)))]) (lsb_v (lsb_c (lsb_v (lsb_v (lsb_c (lsb_v lsb_e)))))) ?_
    obtain rfl := Option.some.inj h
    exact kb x2 x3 (w32 (x5 + 1)) (up2 d arr0 x5.toNat x3) rfl hx2 hx3 (w32_c _)
  · replace h := ite_f hc1_ h
    refine g_sub (lo2 := [(9, 0), (9, 0), (9, 0), (9, 0), (9, 0), (9, 0)]) (lsb_c (lsb_c (lsb_c (lsb_c (lsb_c (lsb_c lsb_e)))))) ?_
    obtain rfl := Option.some.inj h
    exact k0 d rfl 
set_option maxHeartbeats 4000000 in
theorem ok_Ar_fill_aJIIJ_n10 {p : Program} {l : Launch} {e : Env} {s : State} {m : MethodId} {args : Array Value} {below : List Frame} {meth : Method} {c : Code} {D : va_G} {cA : Nat → ClassId} {ad : Nat → Nat} {A : Nat → Prop} {wd : Nat} (C : Cx p s m args c prog_21_method_102_code 6 "java/util/Arrays" D cA ad wd A) {Q : State → Prop} (arr0 len0 : Nat) (harr0 : cd wd arr0 = (21, len0)) (barr0 : ∀ d : Dt, arr0 < nOf wd d) {x : (Dt)} : ∀ (n : Nat) (x2 x3 x5 : Int) (d : Dt), c32 x2 → c64 x3 → c32 x5 → lpF (fun q : Int × Int × Int × Dt => L_Ar_fill_aJIIJ_y10 arr0 len0 q.1 q.2.1 q.2.2.1 q.2.2.2) n (x2, x3, x5, d) = some x → (∀ (e' : Dt), x = (e') → G p l e rm_Ar_fill_aJIIJ s m args below meth c 0 0 Q 6 D cA ad wd A 27 [(9, 0), (9, 0), (9, 0), (9, 0), (9, 0), (9, 0)] [] e') → G p l e rm_Ar_fill_aJIIJ s m args below meth c 0 0 Q 6 D cA ad wd A 10 [(2, (arr0 : Int)), (9, 0), (0, x2), (1, x3), (9, 0), (0, x5)] [] d := by
  intro n
  induction n with
  | zero => intro x2 x3 x5 d g0 g1 g2 h k0; cases h
  | succ n ih =>
    intro x2 x3 x5 d g0 g1 g2 h k0
    rcases lpF_some h with h | ⟨⟨v0_, v1_, v2_, e0_⟩, h1, h⟩
    · exact ok_Ar_fill_aJIIJ_y10 C arr0 len0 harr0 barr0 x2 x3 x5 d g0 g1 g2 h (fun z0_ z1_ z2_ e1_ eq w0_ w1_ w2_ => by cases eq) (fun e1_ eq => k0 _ (by cases eq; rfl) )
    · exact ok_Ar_fill_aJIIJ_y10 C arr0 len0 harr0 barr0 x2 x3 x5 d g0 g1 g2 h1 (fun z0_ z1_ z2_ e1_ eq w0_ w1_ w2_ => by cases eq; exact ih _ _ _ _ w0_ w1_ w2_ h k0) (fun e1_ eq => by cases eq)
set_option maxHeartbeats 4000000 in
theorem ok_Ar_fill_aJIIJ_l10 {p : Program} {l : Launch} {e : Env} {s : State} {m : MethodId} {args : Array Value} {below : List Frame} {meth : Method} {c : Code} {D : va_G} {cA : Nat → ClassId} {ad : Nat → Nat} {A : Nat → Prop} {wd : Nat} (C : Cx p s m args c prog_21_method_102_code 6 "java/util/Arrays" D cA ad wd A) {Q : State → Prop} (arr0 len0 : Nat) (harr0 : cd wd arr0 = (21, len0)) (barr0 : ∀ d : Dt, arr0 < nOf wd d) {x : (Dt)} (x2 x3 x5 : Int) (d : Dt) (hx2 : c32 x2) (hx3 : c64 x3) (hx5 : c32 x5) (h : L_Ar_fill_aJIIJ_l10 arr0 len0 x2 x3 x5 d = some x) (k0 : ∀ (e' : Dt), x = (e') → G p l e rm_Ar_fill_aJIIJ s m args below meth c 0 0 Q 6 D cA ad wd A 27 [(9, 0), (9, 0), (9, 0), (9, 0), (9, 0), (9, 0)] [] e') : G p l e rm_Ar_fill_aJIIJ s m args below meth c 0 0 Q 6 D cA ad wd A 10 [(2, (arr0 : Int)), (9, 0), (0, x2), (1, x3), (9, 0), (0, x5)] [] d :=
  ok_Ar_fill_aJIIJ_n10 C arr0 len0 harr0 barr0 FU x2 x3 x5 d hx2 hx3 hx5 h k0
set_option maxHeartbeats 4000000 in
theorem ok_Ar_fill_aJIIJ {l : Launch} {wd : Nat} (arr0 len0 : Nat) (harr0 : cd wd arr0 = (21, len0)) (barr0 : ∀ d : Dt, arr0 < nOf wd d) {r : Int} {d' : Dt} (p2 p3 p4 : Int) (d : Dt) (hp2 : c32 p2) (hp3 : c32 p3) (hp4 : c64 p4) (h : L_Ar_fill_aJIIJ arr0 len0 p2 p3 p4 d = some (r, d')) : MC l y_Ar_fill_aJIIJ prog_21_method_102_code 6 none rm_Ar_fill_aJIIJ wd [(2, (arr0 : Int)), (0, p2), (0, p3), (1, p4)] d none d' := by
  refine MC.of (by decide) (Nat.le_of_ble_eq_true rfl) ?_
  intro p e s m args below meth c D cA ad A C hlk hr
  replace C : Cx p s m args c prog_21_method_102_code 6 "java/util/Arrays" D cA ad wd A := C
  show G p l e rm_Ar_fill_aJIIJ s m args below meth c 0 0 (MQ below (fun _ => QC D cA ad wd A none none d') args s 0 0 A) 6 D cA ad wd A 0 [(2, (arr0 : Int)), (0, p2), (0, p3), (1, p4), (9, 0)] [] d
  refine g_sub (lo2 := [(2, (arr0 : Int)), (0, p2), (0, p3), (1, p4), (9, 0), (9, 0)]) (lsb_v (lsb_v (lsb_v (lsb_v (lsb_c (lsb_n lsb_e)))))) ?_
  unfold L_Ar_fill_aJIIJ at h
  refine g_aload_n C 0 rfl (by decide +kernel) ?_
  obtain ⟨hc3_, h⟩ := ck_some h
  refine g_alen C arr0 rfl harr0 (by decide) (barr0 _) (v := (len0 : Int)) rfl (by decide +kernel) ?_
  refine g_iload_n C 1 rfl (by decide +kernel) ?_
  refine g_iload_n C 2 rfl (by decide +kernel) ?_
  obtain ⟨r5_, d4_, hr6_, h⟩ := bd_some h
  refine g_callS C mw_Ar_rangeCheck [(0, (len0 : Int)), (0, p2), (0, p3)] (ok_Ar_rangeCheck (len0 : Int) p2 p3 d (c32_n hc3_) hp2 hp3 hr6_) (ix := 13) lk_531 lk_532 ⟨rfl, rfl, Nat.le_of_ble_eq_true rfl, Nat.le_of_ble_eq_true rfl⟩ rfl (rest := []) rfl (Nat.le_of_ble_eq_true rfl) ⟨Nat.zero_le _, Nat.zero_le _⟩ (by decide +kernel) (fun _ hc7_ => ?_)
  refine g_st (st2 := []) rfl ?_
  refine g_iload_n C 1 rfl (by decide +kernel) ?_
  refine s_istore C 5 (lo' := [(2, (arr0 : Int)), (0, p2), (0, p3), (1, p4), (9, 0), (0, p2)]) (by decide) (s1k (s1k (s1k (s1k (s1n (by decide) s1z))))) (by decide +kernel) ?_
  refine g_sub (lo2 := [(2, (arr0 : Int)), (9, 0), (0, p3), (1, p4), (9, 0), (0, p2)]) (lsb_v (lsb_c (lsb_v (lsb_v (lsb_c (lsb_v lsb_e)))))) ?_
  obtain ⟨x8_, hx9_, h⟩ := lb_some h
  refine ok_Ar_fill_aJIIJ_l10 C arr0 len0 harr0 barr0 p3 p4 p2 d4_ hp3 hp4 hp2 hx9_ (fun d10_ eq11_ => ?_)
  replace eq11_ := eq11_.symm
  subst eq11_
  replace h := u0_e h
  obtain ⟨rfl, rfl⟩ := ret_inj h
  exact g_vret C hlk hr (by decide +kernel)
/-! PollBooks$Trays.lay(III)V -/
def y_Tr_lay : MethodName := ⟨"PollBooks$Trays", "lay", "(III)V"⟩
def rm_Tr_lay : Room := { frames := 2, cells := 0, slots := 0, locals := 47 }
theorem mw_Tr_lay : MW y_Tr_lay prog_12_method_6_code 4 none 3 := ⟨lk_527, lk_2, by decide +kernel⟩
def L_Tr_lay (p1 p2 p3 : Int) (d : Dt) : Option (Int × Dt) :=
  ck ((0 : Int) ≤ p1 ∧ p1 < 4) (ck ((0 : Int) ≤ p1 ∧ p1 < 4) (bd (L_Ar_fill_aJIIJ 4 240 (w32 (p1 * 60)) (w32 ((w32 (p1 * 60)) + p3)) 0 (up2 (up2 d 5 p1.toNat p2) 6 p1.toNat p3)) (fun r4_ d3_ => some (0, d3_))))
set_option maxHeartbeats 4000000 in
theorem ok_Tr_lay {l : Launch} {r : Int} {d' : Dt} (p1 p2 p3 : Int) (d : Dt) (hp1 : c32 p1) (hp2 : c32 p2) (hp3 : c32 p3) (h : L_Tr_lay p1 p2 p3 d = some (r, d')) : MC l y_Tr_lay prog_12_method_6_code 4 none rm_Tr_lay 0 [(2, 3), (0, p1), (0, p2), (0, p3)] d none d' := by
  refine MC.of (by decide) (Nat.le_of_ble_eq_true rfl) ?_
  intro p e s m args below meth c D cA ad A C hlk hr
  replace C : Cx p s m args c prog_12_method_6_code 4 "PollBooks$Trays" D cA ad 0 A := C
  show G p l e rm_Tr_lay s m args below meth c 0 0 (MQ below (fun _ => QC D cA ad 0 A none none d') args s 0 0 A) 4 D cA ad 0 A 0 [(2, 3), (0, p1), (0, p2), (0, p3)] [] d
  refine g_sub (lo2 := [(2, 3), (0, p1), (0, p2), (0, p3)]) (lsb_v (lsb_v (lsb_v (lsb_v lsb_e)))) ?_
  unfold L_Tr_lay at h
  refine g_aload_n C 0 rfl (by decide +kernel) ?_
  refine g_getR C cl10 3 1 5 rfl cd_A3 ⟨by decide, rfl, by decide⟩ rfl rfl (nA (by decide)) (ix := 15) lk_40 (by decide +kernel) ?_
  refine g_iload_n C 1 rfl (by decide +kernel) ?_
  refine g_iload_n C 2 rfl (by decide +kernel) ?_
  obtain ⟨hb1_, h⟩ := ck_some h
  refine g_iast C 5 hp2 hp1 rfl cd_A5 (nA (by decide)) hb1_ (by decide +kernel) ?_
  refine g_aload_n C 0 rfl (by decide +kernel) ?_
  refine g_getR C cl10 3 2 6 rfl cd_A3 ⟨by decide, rfl, by decide⟩ rfl rfl (nA (by decide)) (ix := 19) lk_41 (by decide +kernel) ?_
  refine g_iload_n C 1 rfl (by decide +kernel) ?_
  refine g_iload_n C 3 rfl (by decide +kernel) ?_
  obtain ⟨hb2_, h⟩ := ck_some h
  refine g_iast C 6 hp3 hp1 rfl cd_A6 (nA (by decide)) hb2_ (by decide +kernel) ?_
  refine g_aload_n C 0 rfl (by decide +kernel) ?_
  refine g_getR C cl10 3 0 4 rfl cd_A3 ⟨by decide, rfl, by decide⟩ rfl rfl (nA (by decide)) (ix := 11) lk_39 (by decide +kernel) ?_
  refine g_iload_n C 1 rfl (by decide +kernel) ?_
  refine g_bipush C 60 (by decide) (by decide +kernel) ?_
  refine g_imul C (by decide +kernel) ?_
  refine g_iload_n C 1 rfl (by decide +kernel) ?_
  refine g_bipush C 60 (by decide) (by decide +kernel) ?_
  refine g_imul C (by decide +kernel) ?_
  refine g_iload_n C 3 rfl (by decide +kernel) ?_
  refine g_iadd C (by decide +kernel) ?_
  refine g_lconst C 0 (v := 0) (by decide) (by decide +kernel) ?_
  obtain ⟨r4_, d3_, hr5_, h⟩ := bd_some h
  refine g_callS C mw_Ar_fill_aJIIJ [(2, 4), (0, (w32 (p1 * 60))), (0, (w32 ((w32 (p1 * 60)) + p3))), (1, 0)] (ok_Ar_fill_aJIIJ 4 240 cd_A4 (fun _ => (nA (by decide))) (w32 (p1 * 60)) (w32 ((w32 (p1 * 60)) + p3)) 0 (up2 (up2 d 5 p1.toNat p2) 6 p1.toNat p3) (w32_c _) (w32_c _) (cL rfl) hr5_) (ix := 28) lk_528 lk_529 ⟨rfl, rfl, Nat.le_of_ble_eq_true rfl, Nat.le_of_ble_eq_true rfl⟩ rfl (rest := []) rfl (Nat.le_of_ble_eq_true rfl) ⟨Nat.zero_le _, Nat.zero_le _⟩ (by decide +kernel) (fun _ hc6_ => ?_)
  refine g_st (st2 := []) rfl ?_
  obtain ⟨rfl, rfl⟩ := ret_inj h
  exact g_vret C hlk hr (by decide +kernel)
/-! PollBooks.tray(III)Z -/
def y_PB_tray : MethodName := ⟨"PollBooks", "tray", "(III)Z"⟩
def rm_PB_tray : Room := { frames := 3, cells := 0, slots := 0, locals := 70 }
theorem mw_PB_tray : MW y_PB_tray prog_1_method_3_code 5 (some .boolean) 3 := ⟨lk_514, lk_1, by decide +kernel⟩
def L_PB_tray_b53 (x1 x2 x3 x4 s1 : Int) (d : Dt) : Option (Int × Dt) :=
  if x4 = 0 then some (x4, (up2 d 0 0 s1)) else bd (L_Tr_lay x1 x2 x3 (up2 d 0 0 s1)) (fun r3_ d2_ => some (x4, d2_))
def L_PB_tray_b40 (x1 x2 x3 s0 : Int) (d : Dt) : Option (Int × Dt) :=
  if s0 = 0 then L_PB_tray_b53 x1 x2 x3 s0 1 d else L_PB_tray_b53 x1 x2 x3 s0 0 d
def L_PB_tray (p1 p2 p3 : Int) (d : Dt) : Option (Int × Dt) :=
  bd (L_Tr_canBe p1 d) (fun r8_ d7_ => if r8_ = 0 then L_PB_tray_b40 p1 p2 p3 0 d7_ else bd (L_PB_within p2 0 3 d7_) (fun r13_ d12_ => if r13_ = 0 then L_PB_tray_b40 p1 p2 p3 0 d12_ else bd (L_PB_within p3 0 60 d12_) (fun r18_ d17_ => if r18_ = 0 then L_PB_tray_b40 p1 p2 p3 0 d17_ else L_PB_tray_b40 p1 p2 p3 1 d17_)))
set_option maxHeartbeats 4000000 in
theorem ok_PB_tray_b53 {p : Program} {l : Launch} {e : Env} {s : State} {m : MethodId} {args : Array Value} {below : List Frame} {meth : Method} {c : Code} {D : va_G} {cA : Nat → ClassId} {ad : Nat → Nat} {A : Nat → Prop} (C : Cx p s m args c prog_1_method_3_code 5 "PollBooks" D cA ad 0 A) (hlk : meth.locks = false) (hr : meth.sig.returnType = (some .boolean)) {r : Int} {d' : Dt} (x1 x2 x3 x4 s1 : Int) (d : Dt) (hx1 : c32 x1) (hx2 : c32 x2) (hx3 : c32 x3) (hx4 : cb x4) (hs1 : cb s1) (h : L_PB_tray_b53 x1 x2 x3 x4 s1 d = some (r, d')) : G p l e rm_PB_tray s m args below meth c 0 0 (MQ below (fun _ => QC D cA ad 0 A (some .boolean) (some (0, r)) d') args s 0 0 A) 5 D cA ad 0 A 53 [(2, 0), (0, x1), (0, x2), (0, x3), (0, x4)] [(0, s1), (2, 0)] d := by
  unfold L_PB_tray_b53 at h
  refine g_putI C cl11 0 0 (c32_cb hs1) rfl cd_A0 ⟨by decide, rfl, by decide⟩ rfl (nA (by decide)) (ix := 9) lk_467 rfl rfl (by decide +kernel) ?_
  refine g_iload C 4 rfl (by decide +kernel) ?_
  refine g_if_eq C (off := 13) (tgt := 71) (c32_cb hx4) (by decide +kernel) (by decide) (fun hc1_ => ?_) (fun hc1_ => ?_)
  · replace h := ite_t hc1_ h
    refine g_iload C 4 rfl (by decide +kernel) ?_
    obtain ⟨rfl, rfl⟩ := ret_inj h
    exact g_zret C hx4 hlk hr (by decide +kernel)
  · replace h := ite_f hc1_ h
    refine g_aload_n C 0 rfl (by decide +kernel) ?_
    refine g_getR C cl11 0 1 3 rfl cd_A0 ⟨by decide, rfl, by decide⟩ rfl rfl (nA (by decide)) (ix := 16) lk_468 (by decide +kernel) ?_
    refine g_iload_n C 1 rfl (by decide +kernel) ?_
    refine g_iload_n C 2 rfl (by decide +kernel) ?_
    refine g_iload_n C 3 rfl (by decide +kernel) ?_
    obtain ⟨r3_, d2_, hr4_, h⟩ := bd_some h
    refine g_callV C mw_Tr_lay [(0, x1), (0, x2), (0, x3)] 3 cl10 rfl (ok_Tr_lay x1 x2 x3 (up2 d 0 0 s1) hx1 hx2 hx3 hr4_) cd_A3 (by decide) (nA (by decide)) (ix := 111) lk_524 lk_525 lk_526 ⟨rfl, rfl, Nat.le_of_ble_eq_true rfl, Nat.le_of_ble_eq_true rfl⟩ rfl (rest := []) rfl (Nat.le_of_ble_eq_true rfl) ⟨Nat.zero_le _, Nat.zero_le _⟩ (by decide +kernel) (fun _ hc5_ => ?_)
    refine g_st (st2 := []) rfl ?_
    refine g_iload C 4 rfl (by decide +kernel) ?_
    obtain ⟨rfl, rfl⟩ := ret_inj h
    exact g_zret C hx4 hlk hr (by decide +kernel)
set_option maxHeartbeats 4000000 in
theorem ok_PB_tray_b40 {p : Program} {l : Launch} {e : Env} {s : State} {m : MethodId} {args : Array Value} {below : List Frame} {meth : Method} {c : Code} {D : va_G} {cA : Nat → ClassId} {ad : Nat → Nat} {A : Nat → Prop} (C : Cx p s m args c prog_1_method_3_code 5 "PollBooks" D cA ad 0 A) (hlk : meth.locks = false) (hr : meth.sig.returnType = (some .boolean)) {r : Int} {d' : Dt} (x1 x2 x3 s0 : Int) (d : Dt) (hx1 : c32 x1) (hx2 : c32 x2) (hx3 : c32 x3) (hs0 : cb s0) (h : L_PB_tray_b40 x1 x2 x3 s0 d = some (r, d')) : G p l e rm_PB_tray s m args below meth c 0 0 (MQ below (fun _ => QC D cA ad 0 A (some .boolean) (some (0, r)) d') args s 0 0 A) 5 D cA ad 0 A 40 [(2, 0), (0, x1), (0, x2), (0, x3), (9, 0)] [(0, s0)] d := by
  unfold L_PB_tray_b40 at h
  refine s_istore C 4 (lo' := [(2, 0), (0, x1), (0, x2), (0, x3), (0, s0)]) (by decide) (s1k (s1k (s1k (s1n (by decide) s1z)))) (by decide +kernel) ?_
  refine g_aload_n C 0 rfl (by decide +kernel) ?_
  refine g_iload C 4 rfl (by decide +kernel) ?_
  refine g_if_eq C (off := 7) (tgt := 52) (c32_cb hs0) (by decide +kernel) (by decide) (fun hc6_ => ?_) (fun hc6_ => ?_)
  · replace h := ite_t hc6_ h
    refine g_iconst C 1 (cK rfl) (by decide +kernel) ?_
    refine g_sub (lo2 := [(2, 0), (0, x1), (0, x2), (0, x3), (0, s0)]) (lsb_v (lsb_v (lsb_v (lsb_v (lsb_v lsb_e))))) ?_
    exact ok_PB_tray_b53 C hlk hr x1 x2 x3 s0 1 d hx1 hx2 hx3 hs0 (Or.inr rfl) h
  · replace h := ite_f hc6_ h
    refine g_iconst C 0 (cK rfl) (by decide +kernel) ?_
    refine g_goto C 53 (off := 4) (by decide +kernel) (by decide) ?_
    refine g_sub (lo2 := [(2, 0), (0, x1), (0, x2), (0, x3), (0, s0)]) (lsb_v (lsb_v (lsb_v (lsb_v (lsb_v lsb_e))))) ?_
    exact ok_PB_tray_b53 C hlk hr x1 x2 x3 s0 0 d hx1 hx2 hx3 hs0 (Or.inl rfl) h
set_option maxHeartbeats 4000000 in
theorem ok_PB_tray {l : Launch} {r : Int} {d' : Dt} (p1 p2 p3 : Int) (d : Dt) (hp1 : c32 p1) (hp2 : c32 p2) (hp3 : c32 p3) (h : L_PB_tray p1 p2 p3 d = some (r, d')) : MC l y_PB_tray prog_1_method_3_code 5 (some .boolean) rm_PB_tray 0 [(2, 0), (0, p1), (0, p2), (0, p3)] d (some (0, r)) d' := by
  refine MC.of (by decide) (Nat.le_of_ble_eq_true rfl) ?_
  intro p e s m args below meth c D cA ad A C hlk hr
  replace C : Cx p s m args c prog_1_method_3_code 5 "PollBooks" D cA ad 0 A := C
  show G p l e rm_PB_tray s m args below meth c 0 0 (MQ below (fun _ => QC D cA ad 0 A (some .boolean) (some (0, r)) d') args s 0 0 A) 5 D cA ad 0 A 0 [(2, 0), (0, p1), (0, p2), (0, p3)] [] d
  refine g_sub (lo2 := [(2, 0), (0, p1), (0, p2), (0, p3), (9, 0)]) (lsb_v (lsb_v (lsb_v (lsb_v (lsb_n lsb_e))))) ?_
  unfold L_PB_tray at h
  refine g_aload_n C 0 rfl (by decide +kernel) ?_
  refine g_getR C cl11 0 1 3 rfl cd_A0 ⟨by decide, rfl, by decide⟩ rfl rfl (nA (by decide)) (ix := 16) lk_468 (by decide +kernel) ?_
  refine g_iload_n C 1 rfl (by decide +kernel) ?_
  obtain ⟨r8_, d7_, hr9_, h⟩ := bd_some h
  refine g_callV C mw_Tr_canBe [(0, p1)] 3 cl10 rfl (ok_Tr_canBe p1 d hp1 hr9_) cd_A3 (by decide) (nA (by decide)) (ix := 99) lk_515 lk_516 lk_517 ⟨rfl, rfl, Nat.le_of_ble_eq_true rfl, Nat.le_of_ble_eq_true rfl⟩ rfl (rest := []) rfl (Nat.le_of_ble_eq_true rfl) ⟨Nat.zero_le _, Nat.zero_le _⟩ (by decide +kernel) (fun _ hc10_ => ?_)
  replace hc10_ : cb r8_ := hc10_
  refine g_st (st2 := [(0, r8_)]) rfl ?_
  refine g_if_eq C (off := 31) (tgt := 39) (c32_cb hc10_) (by decide +kernel) (by decide) (fun hc11_ => ?_) (fun hc11_ => ?_)
  · replace h := ite_t hc11_ h
    refine g_iconst C 0 (cK rfl) (by decide +kernel) ?_
    refine g_sub (lo2 := [(2, 0), (0, p1), (0, p2), (0, p3), (9, 0)]) (lsb_v (lsb_v (lsb_v (lsb_v (lsb_c lsb_e))))) ?_
    exact ok_PB_tray_b40 C hlk hr p1 p2 p3 0 d7_ hp1 hp2 hp3 (Or.inl rfl) h
  · replace h := ite_f hc11_ h
    refine g_iload_n C 2 rfl (by decide +kernel) ?_
    refine g_i2l C hp2 (by decide +kernel) ?_
    refine g_lconst C 0 (v := 0) (by decide) (by decide +kernel) ?_
    refine g_ldc2 C (ix := 103) (v := 3) lk_519 (by decide +kernel) ?_
    obtain ⟨r13_, d12_, hr14_, h⟩ := bd_some h
    refine g_callS C mw_PB_within [(1, p2), (1, 0), (1, 3)] (ok_PB_within p2 0 3 d7_ (c64_32 hp2) (cL rfl) (cL rfl) hr14_) (ix := 105) lk_520 lk_521 ⟨rfl, rfl, Nat.le_of_ble_eq_true rfl, Nat.le_of_ble_eq_true rfl⟩ rfl (rest := []) rfl (Nat.le_of_ble_eq_true rfl) ⟨Nat.zero_le _, Nat.zero_le _⟩ (by decide +kernel) (fun _ hc15_ => ?_)
    replace hc15_ : cb r13_ := hc15_
    refine g_st (st2 := [(0, r13_)]) rfl ?_
    refine g_if_eq C (off := 19) (tgt := 39) (c32_cb hc15_) (by decide +kernel) (by decide) (fun hc16_ => ?_) (fun hc16_ => ?_)
    · replace h := ite_t hc16_ h
      refine g_iconst C 0 (cK rfl) (by decide +kernel) ?_
      refine g_sub (lo2 := [(2, 0), (0, p1), (0, p2), (0, p3), (9, 0)]) (lsb_v (lsb_v (lsb_v (lsb_v (lsb_c lsb_e))))) ?_
      exact ok_PB_tray_b40 C hlk hr p1 p2 p3 0 d12_ hp1 hp2 hp3 (Or.inl rfl) h
    · replace h := ite_f hc16_ h
      refine g_iload_n C 3 rfl (by decide +kernel) ?_
      refine g_i2l C hp3 (by decide +kernel) ?_
      refine g_lconst C 0 (v := 0) (by decide) (by decide +kernel) ?_
      refine g_ldc2 C (ix := 109) (v := 60) lk_523 (by decide +kernel) ?_
      obtain ⟨r18_, d17_, hr19_, h⟩ := bd_some h
      refine g_callS C mw_PB_within [(1, p3), (1, 0), (1, 60)] (ok_PB_within p3 0 60 d12_ (c64_32 hp3) (cL rfl) (cL rfl) hr19_) (ix := 105) lk_520 lk_521 ⟨rfl, rfl, Nat.le_of_ble_eq_true rfl, Nat.le_of_ble_eq_true rfl⟩ rfl (rest := []) rfl (Nat.le_of_ble_eq_true rfl) ⟨Nat.zero_le _, Nat.zero_le _⟩ (by decide +kernel) (fun _ hc20_ => ?_)
      replace hc20_ : cb r18_ := hc20_
      refine g_st (st2 := [(0, r18_)]) rfl ?_
      refine g_if_eq C (off := 7) (tgt := 39) (c32_cb hc20_) (by decide +kernel) (by decide) (fun hc21_ => ?_) (fun hc21_ => ?_)
      · replace h := ite_t hc21_ h
        refine g_iconst C 0 (cK rfl) (by decide +kernel) ?_
        refine g_sub (lo2 := [(2, 0), (0, p1), (0, p2), (0, p3), (9, 0)]) (lsb_v (lsb_v (lsb_v (lsb_v (lsb_c lsb_e))))) ?_
        exact ok_PB_tray_b40 C hlk hr p1 p2 p3 0 d17_ hp1 hp2 hp3 (Or.inl rfl) h
      · replace h := ite_f hc21_ h
        refine g_iconst C 1 (cK rfl) (by decide +kernel) ?_
        refine g_goto C 40 (off := 4) (by decide +kernel) (by decide) ?_
        refine g_sub (lo2 := [(2, 0), (0, p1), (0, p2), (0, p3), (9, 0)]) (lsb_v (lsb_v (lsb_v (lsb_v (lsb_c lsb_e))))) ?_
        exact ok_PB_tray_b40 C hlk hr p1 p2 p3 1 d17_ hp1 hp2 hp3 (Or.inr rfl) h
/-! PollBooks$Trays.isThere(I)Z -/
def y_Tr_isThere : MethodName := ⟨"PollBooks$Trays", "isThere", "(I)Z"⟩
def rm_Tr_isThere : Room := { frames := 0, cells := 0, slots := 0, locals := 0 }
theorem mw_Tr_isThere : MW y_Tr_isThere prog_12_method_3_code 2 (some .boolean) 1 := ⟨lk_545, lk_2, by decide +kernel⟩
def L_Tr_isThere (p1 : Int) (d : Dt) : Option (Int × Dt) :=
  ck ((0 : Int) ≤ p1 ∧ p1 < 4) (if (d 6 p1.toNat) = (-1) then some (0, d) else some (1, d))
set_option maxHeartbeats 4000000 in
theorem ok_Tr_isThere {l : Launch} {r : Int} {d' : Dt} (p1 : Int) (d : Dt) (hp1 : c32 p1) (h : L_Tr_isThere p1 d = some (r, d')) : MC l y_Tr_isThere prog_12_method_3_code 2 (some .boolean) rm_Tr_isThere 0 [(2, 3), (0, p1)] d (some (0, r)) d' := by
  refine MC.of (by decide) (Nat.le_of_ble_eq_true rfl) ?_
  intro p e s m args below meth c D cA ad A C hlk hr
  replace C : Cx p s m args c prog_12_method_3_code 2 "PollBooks$Trays" D cA ad 0 A := C
  show G p l e rm_Tr_isThere s m args below meth c 0 0 (MQ below (fun _ => QC D cA ad 0 A (some .boolean) (some (0, r)) d') args s 0 0 A) 2 D cA ad 0 A 0 [(2, 3), (0, p1)] [] d
  refine g_sub (lo2 := [(2, 3), (0, p1)]) (lsb_v (lsb_v lsb_e)) ?_
  unfold L_Tr_isThere at h
  refine g_aload_n C 0 rfl (by decide +kernel) ?_
  refine g_getR C cl10 3 2 6 rfl cd_A3 ⟨by decide, rfl, by decide⟩ rfl rfl (nA (by decide)) (ix := 19) lk_41 (by decide +kernel) ?_
  refine g_iload_n C 1 rfl (by decide +kernel) ?_
  obtain ⟨hb1_, h⟩ := ck_some h
  refine g_iald C 6 hp1 rfl cd_A6 (nA (by decide)) hb1_ (by decide +kernel) (fun hc2_ => ?_)
  refine g_iconst C (-1) (cK rfl) (by decide +kernel) ?_
  refine g_icmp_eq C (off := 7) (tgt := 14) hc2_ (cK rfl) (by decide +kernel) (by decide) (fun hc3_ => ?_) (fun hc3_ => ?_)
  · replace h := ite_t hc3_ h
    refine g_iconst C 0 (cK rfl) (by decide +kernel) ?_
    obtain ⟨rfl, rfl⟩ := ret_inj h
    exact g_zret C (Or.inl rfl) hlk hr (by decide +kernel)
  · replace h := ite_f hc3_ h
    refine g_iconst C 1 (cK rfl) (by decide +kernel) ?_
    refine g_goto C 15 (off := 4) (by decide +kernel) (by decide) ?_
    obtain ⟨rfl, rfl⟩ := ret_inj h
    exact g_zret C (Or.inr rfl) hlk hr (by decide +kernel)
/-! PollBooks$Trays.reaches(III)Z -/
def y_Tr_reaches : MethodName := ⟨"PollBooks$Trays", "reaches", "(III)Z"⟩
def rm_Tr_reaches : Room := { frames := 0, cells := 0, slots := 0, locals := 0 }
theorem mw_Tr_reaches : MW y_Tr_reaches prog_12_method_5_code 4 (some .boolean) 3 := ⟨lk_549, lk_2, by decide +kernel⟩
def L_Tr_reaches (p1 p2 p3 : Int) (d : Dt) : Option (Int × Dt) :=
  if p2 < 0 then some (0, d) else ck ((0 : Int) ≤ p1 ∧ p1 < 4) (if (d 6 p1.toNat) < (w64 (p2 + p3)) then some (0, d) else some (1, d))
set_option maxHeartbeats 4000000 in
theorem ok_Tr_reaches {l : Launch} {r : Int} {d' : Dt} (p1 p2 p3 : Int) (d : Dt) (hp1 : c32 p1) (hp2 : c32 p2) (hp3 : c32 p3) (h : L_Tr_reaches p1 p2 p3 d = some (r, d')) : MC l y_Tr_reaches prog_12_method_5_code 4 (some .boolean) rm_Tr_reaches 0 [(2, 3), (0, p1), (0, p2), (0, p3)] d (some (0, r)) d' := by
  refine MC.of (by decide) (Nat.le_of_ble_eq_true rfl) ?_
  intro p e s m args below meth c D cA ad A C hlk hr
  replace C : Cx p s m args c prog_12_method_5_code 4 "PollBooks$Trays" D cA ad 0 A := C
  show G p l e rm_Tr_reaches s m args below meth c 0 0 (MQ below (fun _ => QC D cA ad 0 A (some .boolean) (some (0, r)) d') args s 0 0 A) 4 D cA ad 0 A 0 [(2, 3), (0, p1), (0, p2), (0, p3)] [] d
  refine g_sub (lo2 := [(2, 3), (0, p1), (0, p2), (0, p3)]) (lsb_v (lsb_v (lsb_v (lsb_v lsb_e)))) ?_
  unfold L_Tr_reaches at h
  refine g_iload_n C 2 rfl (by decide +kernel) ?_
  refine g_if_lt C (off := 23) (tgt := 24) hp2 (by decide +kernel) (by decide) (fun hc1_ => ?_) (fun hc1_ => ?_)
  · replace h := ite_t hc1_ h
    refine g_iconst C 0 (cK rfl) (by decide +kernel) ?_
    obtain ⟨rfl, rfl⟩ := ret_inj h
    exact g_zret C (Or.inl rfl) hlk hr (by decide +kernel)
  · replace h := ite_f hc1_ h
    refine g_iload_n C 2 rfl (by decide +kernel) ?_
    refine g_i2l C hp2 (by decide +kernel) ?_
    refine g_iload_n C 3 rfl (by decide +kernel) ?_
    refine g_i2l C hp3 (by decide +kernel) ?_
    refine g_ladd C (by decide +kernel) ?_
    refine g_aload_n C 0 rfl (by decide +kernel) ?_
    refine g_getR C cl10 3 2 6 rfl cd_A3 ⟨by decide, rfl, by decide⟩ rfl rfl (nA (by decide)) (ix := 19) lk_41 (by decide +kernel) ?_
    refine g_iload_n C 1 rfl (by decide +kernel) ?_
    obtain ⟨hb2_, h⟩ := ck_some h
    refine g_iald C 6 hp1 rfl cd_A6 (nA (by decide)) hb2_ (by decide +kernel) (fun hc3_ => ?_)
    refine g_i2l C hc3_ (by decide +kernel) ?_
    refine g_lc_gt C (off := 7) (tgt := 24) (w64_c _) (c64_32 hc3_) (by decide +kernel) (by decide +kernel) (by decide) (fun hc4_ => ?_) (fun hc4_ => ?_)
    · replace h := ite_t hc4_ h
      refine g_iconst C 0 (cK rfl) (by decide +kernel) ?_
      obtain ⟨rfl, rfl⟩ := ret_inj h
      exact g_zret C (Or.inl rfl) hlk hr (by decide +kernel)
    · replace h := ite_f hc4_ h
      refine g_iconst C 1 (cK rfl) (by decide +kernel) ?_
      refine g_goto C 25 (off := 4) (by decide +kernel) (by decide) ?_
      obtain ⟨rfl, rfl⟩ := ret_inj h
      exact g_zret C (Or.inr rfl) hlk hr (by decide +kernel)
/-! PollBooks.trayPlaceStatus(II)I -/
def y_PB_trayPlaceStatus : MethodName := ⟨"PollBooks", "trayPlaceStatus", "(II)I"⟩
def rm_PB_trayPlaceStatus : Room := { frames := 1, cells := 0, slots := 0, locals := 23 }
theorem mw_PB_trayPlaceStatus : MW y_PB_trayPlaceStatus prog_1_method_7_code 3 (some .int) 2 := ⟨lk_541, lk_1, by decide +kernel⟩
def L_PB_trayPlaceStatus (p1 p2 : Int) (d : Dt) : Option (Int × Dt) :=
  bd (L_Tr_canBe p1 d) (fun r2_ d1_ => if r2_ = 0 then some (1, d1_) else bd (L_Tr_isThere p1 d1_) (fun r7_ d6_ => if r7_ = 0 then some (2, d6_) else bd (L_Tr_reaches p1 p2 1 d6_) (fun r12_ d11_ => if r12_ = 0 then some (3, d11_) else some (0, d11_))))
set_option maxHeartbeats 4000000 in
theorem ok_PB_trayPlaceStatus {l : Launch} {r : Int} {d' : Dt} (p1 p2 : Int) (d : Dt) (hp1 : c32 p1) (hp2 : c32 p2) (h : L_PB_trayPlaceStatus p1 p2 d = some (r, d')) : MC l y_PB_trayPlaceStatus prog_1_method_7_code 3 (some .int) rm_PB_trayPlaceStatus 0 [(2, 0), (0, p1), (0, p2)] d (some (0, r)) d' := by
  refine MC.of (by decide) (Nat.le_of_ble_eq_true rfl) ?_
  intro p e s m args below meth c D cA ad A C hlk hr
  replace C : Cx p s m args c prog_1_method_7_code 3 "PollBooks" D cA ad 0 A := C
  show G p l e rm_PB_trayPlaceStatus s m args below meth c 0 0 (MQ below (fun _ => QC D cA ad 0 A (some .int) (some (0, r)) d') args s 0 0 A) 3 D cA ad 0 A 0 [(2, 0), (0, p1), (0, p2)] [] d
  refine g_sub (lo2 := [(2, 0), (0, p1), (0, p2)]) (lsb_v (lsb_v (lsb_v lsb_e))) ?_
  unfold L_PB_trayPlaceStatus at h
  refine g_aload_n C 0 rfl (by decide +kernel) ?_
  refine g_getR C cl11 0 1 3 rfl cd_A0 ⟨by decide, rfl, by decide⟩ rfl rfl (nA (by decide)) (ix := 16) lk_468 (by decide +kernel) ?_
  refine g_iload_n C 1 rfl (by decide +kernel) ?_
  obtain ⟨r2_, d1_, hr3_, h⟩ := bd_some h
  refine g_callV C mw_Tr_canBe [(0, p1)] 3 cl10 rfl (ok_Tr_canBe p1 d hp1 hr3_) cd_A3 (by decide) (nA (by decide)) (ix := 99) lk_515 lk_516 lk_517 ⟨rfl, rfl, Nat.le_of_ble_eq_true rfl, Nat.le_of_ble_eq_true rfl⟩ rfl (rest := []) rfl (Nat.le_of_ble_eq_true rfl) ⟨Nat.zero_le _, Nat.zero_le _⟩ (by decide +kernel) (fun _ hc4_ => ?_)
  replace hc4_ : cb r2_ := hc4_
  refine g_st (st2 := [(0, r2_)]) rfl ?_
  refine g_if_ne C (off := 5) (tgt := 13) (c32_cb hc4_) (by decide +kernel) (by decide) (fun hc5_ => ?_) (fun hc5_ => ?_)
  · replace h := ite_t hc5_ h
    refine g_iconst C 1 (cK rfl) (by decide +kernel) ?_
    obtain ⟨rfl, rfl⟩ := ret_inj h
    exact g_iret C (c32_cb (Or.inr rfl)) hlk hr (by decide +kernel)
  · replace h := ite_f hc5_ h
    refine g_aload_n C 0 rfl (by decide +kernel) ?_
    refine g_getR C cl11 0 1 3 rfl cd_A0 ⟨by decide, rfl, by decide⟩ rfl rfl (nA (by decide)) (ix := 16) lk_468 (by decide +kernel) ?_
    refine g_iload_n C 1 rfl (by decide +kernel) ?_
    obtain ⟨r7_, d6_, hr8_, h⟩ := bd_some h
    refine g_callV C mw_Tr_isThere [(0, p1)] 3 cl10 rfl (ok_Tr_isThere p1 d1_ hp1 hr8_) cd_A3 (by decide) (nA (by decide)) (ix := 137) lk_542 lk_543 lk_544 ⟨rfl, rfl, Nat.le_of_ble_eq_true rfl, Nat.le_of_ble_eq_true rfl⟩ rfl (rest := []) rfl (Nat.le_of_ble_eq_true rfl) ⟨Nat.zero_le _, Nat.zero_le _⟩ (by decide +kernel) (fun _ hc9_ => ?_)
    replace hc9_ : cb r7_ := hc9_
    refine g_st (st2 := [(0, r7_)]) rfl ?_
    refine g_if_ne C (off := 5) (tgt := 26) (c32_cb hc9_) (by decide +kernel) (by decide) (fun hc10_ => ?_) (fun hc10_ => ?_)
    · replace h := ite_t hc10_ h
      refine g_iconst C 2 (cK rfl) (by decide +kernel) ?_
      obtain ⟨rfl, rfl⟩ := ret_inj h
      exact g_iret C (cK rfl) hlk hr (by decide +kernel)
    · replace h := ite_f hc10_ h
      refine g_aload_n C 0 rfl (by decide +kernel) ?_
      refine g_getR C cl11 0 1 3 rfl cd_A0 ⟨by decide, rfl, by decide⟩ rfl rfl (nA (by decide)) (ix := 16) lk_468 (by decide +kernel) ?_
      refine g_iload_n C 1 rfl (by decide +kernel) ?_
      refine g_iload_n C 2 rfl (by decide +kernel) ?_
      refine g_iconst C 1 (cK rfl) (by decide +kernel) ?_
      obtain ⟨r12_, d11_, hr13_, h⟩ := bd_some h
      refine g_callV C mw_Tr_reaches [(0, p1), (0, p2), (0, 1)] 3 cl10 rfl (ok_Tr_reaches p1 p2 1 d6_ hp1 hp2 (c32_cb (Or.inr rfl)) hr13_) cd_A3 (by decide) (nA (by decide)) (ix := 140) lk_546 lk_547 lk_548 ⟨rfl, rfl, Nat.le_of_ble_eq_true rfl, Nat.le_of_ble_eq_true rfl⟩ rfl (rest := []) rfl (Nat.le_of_ble_eq_true rfl) ⟨Nat.zero_le _, Nat.zero_le _⟩ (by decide +kernel) (fun _ hc14_ => ?_)
      replace hc14_ : cb r12_ := hc14_
      refine g_st (st2 := [(0, r12_)]) rfl ?_
      refine g_if_eq C (off := 7) (tgt := 43) (c32_cb hc14_) (by decide +kernel) (by decide) (fun hc15_ => ?_) (fun hc15_ => ?_)
      · replace h := ite_t hc15_ h
        refine g_iconst C 3 (cK rfl) (by decide +kernel) ?_
        obtain ⟨rfl, rfl⟩ := ret_inj h
        exact g_iret C (cK rfl) hlk hr (by decide +kernel)
      · replace h := ite_f hc15_ h
        refine g_iconst C 0 (cK rfl) (by decide +kernel) ?_
        refine g_goto C 44 (off := 4) (by decide +kernel) (by decide) ?_
        obtain ⟨rfl, rfl⟩ := ret_inj h
        exact g_iret C (c32_cb (Or.inl rfl)) hlk hr (by decide +kernel)
/-! PollBooks$Trays.cut(IJ)J -/
def y_Tr_cut : MethodName := ⟨"PollBooks$Trays", "cut", "(IJ)J"⟩
def rm_Tr_cut : Room := { frames := 0, cells := 0, slots := 0, locals := 0 }
theorem mw_Tr_cut : MW y_Tr_cut prog_12_method_10_code 3 (some .long) 2 := ⟨lk_556, lk_2, by decide +kernel⟩
def L_Tr_cut (p1 p2 : Int) (d : Dt) : Option (Int × Dt) :=
  if p1 = 0 then some ((w8 (w32 p2)), d) else if p1 = 1 then some ((w16 (w32 p2)), d) else if p1 = 2 then some ((w32 p2), d) else some (p2, d)
set_option maxHeartbeats 4000000 in
theorem ok_Tr_cut {l : Launch} {r : Int} {d' : Dt} (p1 p2 : Int) (d : Dt) (hp1 : c32 p1) (hp2 : c64 p2) (h : L_Tr_cut p1 p2 d = some (r, d')) : MC l y_Tr_cut prog_12_method_10_code 3 (some .long) rm_Tr_cut 0 [(0, p1), (1, p2)] d (some (1, r)) d' := by
  refine MC.of (by decide) (Nat.le_of_ble_eq_true rfl) ?_
  intro p e s m args below meth c D cA ad A C hlk hr
  replace C : Cx p s m args c prog_12_method_10_code 3 "PollBooks$Trays" D cA ad 0 A := C
  show G p l e rm_Tr_cut s m args below meth c 0 0 (MQ below (fun _ => QC D cA ad 0 A (some .long) (some (1, r)) d') args s 0 0 A) 3 D cA ad 0 A 0 [(0, p1), (1, p2), (9, 0)] [] d
  refine g_sub (lo2 := [(0, p1), (1, p2), (9, 0)]) (lsb_v (lsb_v (lsb_c lsb_e))) ?_
  unfold L_Tr_cut at h
  refine g_iload_n C 0 rfl (by decide +kernel) ?_
  rcases ite_some h with ⟨hc1_, h⟩ | ⟨hc1_, h⟩
  · refine g_tableIn C (dflt := 41) (lw := 0) (hg := 2) (off := 27) (offs := #[27, 32, 37]) (len := 27) 0 (tgt := 28) hp1 (by decide +kernel) hc1_ (by decide) (by decide) ?_
    refine g_lload_n C 1 rfl (by decide +kernel) ?_
    refine g_l2i C (by decide +kernel) ?_
    refine g_i2b C (w32_c _) (by decide +kernel) ?_
    refine g_i2l C (c32_8 _) (by decide +kernel) ?_
    obtain ⟨rfl, rfl⟩ := ret_inj h
    exact g_lret C (c64_32 (c32_8 _)) hlk hr (by decide +kernel)
  · rcases ite_some h with ⟨hc2_, h⟩ | ⟨hc2_, h⟩
    · refine g_tableIn C (dflt := 41) (lw := 0) (hg := 2) (off := 32) (offs := #[27, 32, 37]) (len := 27) 1 (tgt := 33) hp1 (by decide +kernel) hc2_ (by decide) (by decide) ?_
      refine g_lload_n C 1 rfl (by decide +kernel) ?_
      refine g_l2i C (by decide +kernel) ?_
      refine g_i2s C (w32_c _) (by decide +kernel) ?_
      refine g_i2l C (c32_16 _) (by decide +kernel) ?_
      obtain ⟨rfl, rfl⟩ := ret_inj h
      exact g_lret C (c64_32 (c32_16 _)) hlk hr (by decide +kernel)
    · rcases ite_some h with ⟨hc3_, h⟩ | ⟨hc3_, h⟩
      · refine g_tableIn C (dflt := 41) (lw := 0) (hg := 2) (off := 37) (offs := #[27, 32, 37]) (len := 27) 2 (tgt := 38) hp1 (by decide +kernel) hc3_ (by decide) (by decide) ?_
        refine g_lload_n C 1 rfl (by decide +kernel) ?_
        refine g_l2i C (by decide +kernel) ?_
        refine g_i2l C (w32_c _) (by decide +kernel) ?_
        obtain ⟨rfl, rfl⟩ := ret_inj h
        exact g_lret C (c64_32 (w32_c _)) hlk hr (by decide +kernel)
      · refine g_tableOut C (dflt := 41) (lw := 0) (hg := 2) (offs := #[27, 32, 37]) (len := 27) (tgt := 42) hp1 (by decide +kernel) (by omega) (by decide) ?_
        refine g_lload_n C 1 rfl (by decide +kernel) ?_
        obtain ⟨rfl, rfl⟩ := ret_inj h
        exact g_lret C hp2 hlk hr (by decide +kernel)
/-! PollBooks$Trays.put(IIJ)V -/
def y_Tr_put : MethodName := ⟨"PollBooks$Trays", "put", "(IIJ)V"⟩
def rm_Tr_put : Room := { frames := 1, cells := 0, slots := 0, locals := 22 }
theorem mw_Tr_put : MW y_Tr_put prog_12_method_7_code 5 none 3 := ⟨lk_553, lk_2, by decide +kernel⟩
def L_Tr_put (p1 p2 p3 : Int) (d : Dt) : Option (Int × Dt) :=
  ck ((0 : Int) ≤ p1 ∧ p1 < 4) (bd (L_Tr_cut (d 5 p1.toNat) p3 d) (fun r4_ d3_ => ck ((0 : Int) ≤ (w32 ((w32 (p1 * 60)) + p2)) ∧ (w32 ((w32 (p1 * 60)) + p2)) < 240) (some (0, (up2 d3_ 4 ((w32 ((w32 (p1 * 60)) + p2))).toNat r4_)))))
set_option maxHeartbeats 4000000 in
theorem ok_Tr_put {l : Launch} {r : Int} {d' : Dt} (p1 p2 p3 : Int) (d : Dt) (hp1 : c32 p1) (hp2 : c32 p2) (hp3 : c64 p3) (h : L_Tr_put p1 p2 p3 d = some (r, d')) : MC l y_Tr_put prog_12_method_7_code 5 none rm_Tr_put 0 [(2, 3), (0, p1), (0, p2), (1, p3)] d none d' := by
  refine MC.of (by decide) (Nat.le_of_ble_eq_true rfl) ?_
  intro p e s m args below meth c D cA ad A C hlk hr
  replace C : Cx p s m args c prog_12_method_7_code 5 "PollBooks$Trays" D cA ad 0 A := C
  show G p l e rm_Tr_put s m args below meth c 0 0 (MQ below (fun _ => QC D cA ad 0 A none none d') args s 0 0 A) 5 D cA ad 0 A 0 [(2, 3), (0, p1), (0, p2), (1, p3), (9, 0)] [] d
  refine g_sub (lo2 := [(2, 3), (0, p1), (0, p2), (1, p3), (9, 0)]) (lsb_v (lsb_v (lsb_v (lsb_v (lsb_c lsb_e))))) ?_
  unfold L_Tr_put at h
  refine g_aload_n C 0 rfl (by decide +kernel) ?_
  refine g_getR C cl10 3 0 4 rfl cd_A3 ⟨by decide, rfl, by decide⟩ rfl rfl (nA (by decide)) (ix := 11) lk_39 (by decide +kernel) ?_
  refine g_iload_n C 1 rfl (by decide +kernel) ?_
  refine g_bipush C 60 (by decide) (by decide +kernel) ?_
  refine g_imul C (by decide +kernel) ?_
  refine g_iload_n C 2 rfl (by decide +kernel) ?_
  refine g_iadd C (by decide +kernel) ?_
  refine g_aload_n C 0 rfl (by decide +kernel) ?_
  refine g_getR C cl10 3 1 5 rfl cd_A3 ⟨by decide, rfl, by decide⟩ rfl rfl (nA (by decide)) (ix := 15) lk_40 (by decide +kernel) ?_
  refine g_iload_n C 1 rfl (by decide +kernel) ?_
  obtain ⟨hb1_, h⟩ := ck_some h
  refine g_iald C 5 hp1 rfl cd_A5 (nA (by decide)) hb1_ (by decide +kernel) (fun hc2_ => ?_)
  refine g_lload_n C 3 rfl (by decide +kernel) ?_
  obtain ⟨r4_, d3_, hr5_, h⟩ := bd_some h
  refine g_callS C mw_Tr_cut [(0, (d 5 p1.toNat)), (1, p3)] (ok_Tr_cut (d 5 p1.toNat) p3 d hc2_ hp3 hr5_) (ix := 31) lk_554 lk_555 ⟨rfl, rfl, Nat.le_of_ble_eq_true rfl, Nat.le_of_ble_eq_true rfl⟩ rfl (rest := [(0, (w32 ((w32 (p1 * 60)) + p2))), (2, 4)]) rfl (Nat.le_of_ble_eq_true rfl) ⟨Nat.zero_le _, Nat.zero_le _⟩ (by decide +kernel) (fun _ hc6_ => ?_)
  replace hc6_ : c64 r4_ := hc6_
  refine g_st (st2 := [(1, r4_), (0, (w32 ((w32 (p1 * 60)) + p2))), (2, 4)]) rfl ?_
  obtain ⟨hb7_, h⟩ := ck_some h
  refine g_last C 4 hc6_ (w32_c _) rfl cd_A4 (nA (by decide)) hb7_ (by decide +kernel) ?_
  obtain ⟨rfl, rfl⟩ := ret_inj h
  exact g_vret C hlk hr (by decide +kernel)
/-! PollBooks.write(IIJ)Z -/
def y_PB_write : MethodName := ⟨"PollBooks", "write", "(IIJ)Z"⟩
def rm_PB_write : Room := { frames := 2, cells := 0, slots := 0, locals := 46 }
theorem mw_PB_write : MW y_PB_write prog_1_method_4_code 5 (some .boolean) 3 := ⟨lk_537, lk_1, by decide +kernel⟩
def L_PB_write_b27 (d : Dt) : Option (Int × Dt) :=
  if (d 0 0) = 0 then some (1, d) else some (0, d)
def L_PB_write (p1 p2 p3 : Int) (d : Dt) : Option (Int × Dt) :=
  bd (L_PB_trayPlaceStatus p1 p2 d) (fun r4_ d3_ => if r4_ = 0 then bd (L_Tr_put p1 p2 p3 (up2 d3_ 0 0 r4_)) (fun r10_ d9_ => L_PB_write_b27 d9_) else L_PB_write_b27 (up2 d3_ 0 0 r4_))
set_option maxHeartbeats 4000000 in
theorem ok_PB_write_b27 {p : Program} {l : Launch} {e : Env} {s : State} {m : MethodId} {args : Array Value} {below : List Frame} {meth : Method} {c : Code} {D : va_G} {cA : Nat → ClassId} {ad : Nat → Nat} {A : Nat → Prop} (C : Cx p s m args c prog_1_method_4_code 5 "PollBooks" D cA ad 0 A) (hlk : meth.locks = false) (hr : meth.sig.returnType = (some .boolean)) {r : Int} {d' : Dt} (d : Dt)  (h : L_PB_write_b27 d = some (r, d')) : G p l e rm_PB_write s m args below meth c 0 0 (MQ below (fun _ => QC D cA ad 0 A (some .boolean) (some (0, r)) d') args s 0 0 A) 5 D cA ad 0 A 27 [(2, 0), (9, 0), (9, 0), (9, 0), (9, 0)] [] d := by
  unfold L_PB_write_b27 at h
  refine g_aload_n C 0 rfl (by decide +kernel) ?_
  refine g_getI C cl11 0 0 rfl cd_A0 ⟨by decide, rfl, by decide⟩ rfl (nA (by decide)) (ix := 9) lk_467 (by decide +kernel) (fun hc1_ => ?_)
  refine g_if_ne C (off := 7) (tgt := 38) hc1_ (by decide +kernel) (by decide) (fun hc2_ => ?_) (fun hc2_ => ?_)
  · replace h := ite_t hc2_ h
    refine g_iconst C 1 (cK rfl) (by decide +kernel) ?_
    refine g_goto C 39 (off := 4) (by decide +kernel) (by decide) ?_
    obtain ⟨rfl, rfl⟩ := ret_inj h
    exact g_zret C (Or.inr rfl) hlk hr (by decide +kernel)
  · replace h := ite_f hc2_ h
    refine g_iconst C 0 (cK rfl) (by decide +kernel) ?_
    obtain ⟨rfl, rfl⟩ := ret_inj h
    exact g_zret C (Or.inl rfl) hlk hr (by decide +kernel)
set_option maxHeartbeats 4000000 in
theorem ok_PB_write {l : Launch} {r : Int} {d' : Dt} (p1 p2 p3 : Int) (d : Dt) (hp1 : c32 p1) (hp2 : c32 p2) (hp3 : c64 p3) (h : L_PB_write p1 p2 p3 d = some (r, d')) : MC l y_PB_write prog_1_method_4_code 5 (some .boolean) rm_PB_write 0 [(2, 0), (0, p1), (0, p2), (1, p3)] d (some (0, r)) d' := by
  refine MC.of (by decide) (Nat.le_of_ble_eq_true rfl) ?_
  intro p e s m args below meth c D cA ad A C hlk hr
  replace C : Cx p s m args c prog_1_method_4_code 5 "PollBooks" D cA ad 0 A := C
  show G p l e rm_PB_write s m args below meth c 0 0 (MQ below (fun _ => QC D cA ad 0 A (some .boolean) (some (0, r)) d') args s 0 0 A) 5 D cA ad 0 A 0 [(2, 0), (0, p1), (0, p2), (1, p3), (9, 0)] [] d
  refine g_sub (lo2 := [(2, 0), (0, p1), (0, p2), (1, p3), (9, 0)]) (lsb_v (lsb_v (lsb_v (lsb_v (lsb_c lsb_e))))) ?_
  unfold L_PB_write at h
  refine g_aload_n C 0 rfl (by decide +kernel) ?_
  refine g_aload_n C 0 rfl (by decide +kernel) ?_
  refine g_iload_n C 1 rfl (by decide +kernel) ?_
  refine g_iload_n C 2 rfl (by decide +kernel) ?_
  obtain ⟨r4_, d3_, hr5_, h⟩ := bd_some h
  refine g_callV C mw_PB_trayPlaceStatus [(0, p1), (0, p2)] 0 cl11 rfl (ok_PB_trayPlaceStatus p1 p2 d hp1 hp2 hr5_) cd_A0 (by decide) (nA (by decide)) (ix := 115) lk_538 lk_540 lkp_0 ⟨rfl, rfl, Nat.le_of_ble_eq_true rfl, Nat.le_of_ble_eq_true rfl⟩ rfl (rest := [(2, 0)]) rfl (Nat.le_of_ble_eq_true rfl) ⟨Nat.zero_le _, Nat.zero_le _⟩ (by decide +kernel) (fun _ hc6_ => ?_)
  replace hc6_ : c32 r4_ := hc6_
  refine g_st (st2 := [(0, r4_), (2, 0)]) rfl ?_
  refine g_putI C cl11 0 0 hc6_ rfl cd_A0 ⟨by decide, rfl, by decide⟩ rfl (nA (by decide)) (ix := 9) lk_467 rfl rfl (by decide +kernel) ?_
  refine g_aload_n C 0 rfl (by decide +kernel) ?_
  refine g_getI C cl11 0 0 rfl cd_A0 ⟨by decide, rfl, by decide⟩ rfl (nA (by decide)) (ix := 9) lk_467 (by decide +kernel) (fun hc7_ => ?_)
  refine g_val (y := r4_) rfl ?_
  replace hc7_ : c32 r4_ := hc7_
  refine g_if_ne C (off := 13) (tgt := 27) hc7_ (by decide +kernel) (by decide) (fun hc8_ => ?_) (fun hc8_ => ?_)
  · replace h := ite_t hc8_ h
    refine g_aload_n C 0 rfl (by decide +kernel) ?_
    refine g_getR C cl11 0 1 3 rfl cd_A0 ⟨by decide, rfl, by decide⟩ rfl rfl (nA (by decide)) (ix := 16) lk_468 (by decide +kernel) ?_
    refine g_iload_n C 1 rfl (by decide +kernel) ?_
    refine g_iload_n C 2 rfl (by decide +kernel) ?_
    refine g_lload_n C 3 rfl (by decide +kernel) ?_
    obtain ⟨r10_, d9_, hr11_, h⟩ := bd_some h
    refine g_callV C mw_Tr_put [(0, p1), (0, p2), (1, p3)] 3 cl10 rfl (ok_Tr_put p1 p2 p3 (up2 d3_ 0 0 r4_) hp1 hp2 hp3 hr11_) cd_A3 (by decide) (nA (by decide)) (ix := 119) lk_550 lk_551 lk_552 ⟨rfl, rfl, Nat.le_of_ble_eq_true rfl, Nat.le_of_ble_eq_true rfl⟩ rfl (rest := []) rfl (Nat.le_of_ble_eq_true rfl) ⟨Nat.zero_le _, Nat.zero_le _⟩ (by decide +kernel) (fun _ hc12_ => ?_)
    refine g_st (st2 := []) rfl ?_
    refine g_sub (lo2 := [(2, 0), (9, 0), (9, 0), (9, 0), (9, 0)]) (lsb_v (lsb_c (lsb_c (lsb_c (lsb_c lsb_e))))) ?_
    exact ok_PB_write_b27 C hlk hr d9_  h
  · replace h := ite_f hc8_ h
    refine g_sub (lo2 := [(2, 0), (9, 0), (9, 0), (9, 0), (9, 0)]) (lsb_v (lsb_c (lsb_c (lsb_c (lsb_c lsb_e))))) ?_
    exact ok_PB_write_b27 C hlk hr (up2 d3_ 0 0 r4_)  h
/-! PollBooks$Trays.at(II)J -/
def y_Tr_at : MethodName := ⟨"PollBooks$Trays", "at", "(II)J"⟩
def rm_Tr_at : Room := { frames := 0, cells := 0, slots := 0, locals := 0 }
theorem mw_Tr_at : MW y_Tr_at prog_12_method_8_code 3 (some .long) 2 := ⟨lk_564, lk_2, by decide +kernel⟩
def L_Tr_at (p1 p2 : Int) (d : Dt) : Option (Int × Dt) :=
  ck ((0 : Int) ≤ (w32 ((w32 (p1 * 60)) + p2)) ∧ (w32 ((w32 (p1 * 60)) + p2)) < 240) (some ((d 4 ((w32 ((w32 (p1 * 60)) + p2))).toNat), d))
set_option maxHeartbeats 4000000 in
theorem ok_Tr_at {l : Launch} {r : Int} {d' : Dt} (p1 p2 : Int) (d : Dt) (hp1 : c32 p1) (hp2 : c32 p2) (h : L_Tr_at p1 p2 d = some (r, d')) : MC l y_Tr_at prog_12_method_8_code 3 (some .long) rm_Tr_at 0 [(2, 3), (0, p1), (0, p2)] d (some (1, r)) d' := by
  refine MC.of (by decide) (Nat.le_of_ble_eq_true rfl) ?_
  intro p e s m args below meth c D cA ad A C hlk hr
  replace C : Cx p s m args c prog_12_method_8_code 3 "PollBooks$Trays" D cA ad 0 A := C
  show G p l e rm_Tr_at s m args below meth c 0 0 (MQ below (fun _ => QC D cA ad 0 A (some .long) (some (1, r)) d') args s 0 0 A) 3 D cA ad 0 A 0 [(2, 3), (0, p1), (0, p2)] [] d
  refine g_sub (lo2 := [(2, 3), (0, p1), (0, p2)]) (lsb_v (lsb_v (lsb_v lsb_e))) ?_
  unfold L_Tr_at at h
  refine g_aload_n C 0 rfl (by decide +kernel) ?_
  refine g_getR C cl10 3 0 4 rfl cd_A3 ⟨by decide, rfl, by decide⟩ rfl rfl (nA (by decide)) (ix := 11) lk_39 (by decide +kernel) ?_
  refine g_iload_n C 1 rfl (by decide +kernel) ?_
  refine g_bipush C 60 (by decide) (by decide +kernel) ?_
  refine g_imul C (by decide +kernel) ?_
  refine g_iload_n C 2 rfl (by decide +kernel) ?_
  refine g_iadd C (by decide +kernel) ?_
  obtain ⟨hb1_, h⟩ := ck_some h
  refine g_lald C 4 (w32_c _) rfl cd_A4 (nA (by decide)) hb1_ (by decide +kernel) (fun hc2_ => ?_)
  obtain ⟨rfl, rfl⟩ := ret_inj h
  exact g_lret C hc2_ hlk hr (by decide +kernel)
/-! PollBooks.read(II)J -/
def y_PB_read : MethodName := ⟨"PollBooks", "read", "(II)J"⟩
def rm_PB_read : Room := { frames := 2, cells := 0, slots := 0, locals := 45 }
theorem mw_PB_read : MW y_PB_read prog_1_method_5_code 3 (some .long) 2 := ⟨lk_560, lk_1, by decide +kernel⟩
def L_PB_read (p1 p2 : Int) (d : Dt) : Option (Int × Dt) :=
  bd (L_PB_trayPlaceStatus p1 p2 d) (fun r2_ d1_ => if r2_ = 0 then bd (L_Tr_at p1 p2 (up2 d1_ 0 0 r2_)) (fun r8_ d7_ => some (r8_, d7_)) else some ((-1), (up2 d1_ 0 0 r2_)))
set_option maxHeartbeats 4000000 in
theorem ok_PB_read {l : Launch} {r : Int} {d' : Dt} (p1 p2 : Int) (d : Dt) (hp1 : c32 p1) (hp2 : c32 p2) (h : L_PB_read p1 p2 d = some (r, d')) : MC l y_PB_read prog_1_method_5_code 3 (some .long) rm_PB_read 0 [(2, 0), (0, p1), (0, p2)] d (some (1, r)) d' := by
  refine MC.of (by decide) (Nat.le_of_ble_eq_true rfl) ?_
  intro p e s m args below meth c D cA ad A C hlk hr
  replace C : Cx p s m args c prog_1_method_5_code 3 "PollBooks" D cA ad 0 A := C
  show G p l e rm_PB_read s m args below meth c 0 0 (MQ below (fun _ => QC D cA ad 0 A (some .long) (some (1, r)) d') args s 0 0 A) 3 D cA ad 0 A 0 [(2, 0), (0, p1), (0, p2)] [] d
  refine g_sub (lo2 := [(2, 0), (0, p1), (0, p2)]) (lsb_v (lsb_v (lsb_v lsb_e))) ?_
  unfold L_PB_read at h
  refine g_aload_n C 0 rfl (by decide +kernel) ?_
  refine g_aload_n C 0 rfl (by decide +kernel) ?_
  refine g_iload_n C 1 rfl (by decide +kernel) ?_
  refine g_iload_n C 2 rfl (by decide +kernel) ?_
  obtain ⟨r2_, d1_, hr3_, h⟩ := bd_some h
  refine g_callV C mw_PB_trayPlaceStatus [(0, p1), (0, p2)] 0 cl11 rfl (ok_PB_trayPlaceStatus p1 p2 d hp1 hp2 hr3_) cd_A0 (by decide) (nA (by decide)) (ix := 115) lk_538 lk_540 lkp_0 ⟨rfl, rfl, Nat.le_of_ble_eq_true rfl, Nat.le_of_ble_eq_true rfl⟩ rfl (rest := [(2, 0)]) rfl (Nat.le_of_ble_eq_true rfl) ⟨Nat.zero_le _, Nat.zero_le _⟩ (by decide +kernel) (fun _ hc4_ => ?_)
  replace hc4_ : c32 r2_ := hc4_
  refine g_st (st2 := [(0, r2_), (2, 0)]) rfl ?_
  refine g_putI C cl11 0 0 hc4_ rfl cd_A0 ⟨by decide, rfl, by decide⟩ rfl (nA (by decide)) (ix := 9) lk_467 rfl rfl (by decide +kernel) ?_
  refine g_aload_n C 0 rfl (by decide +kernel) ?_
  refine g_getI C cl11 0 0 rfl cd_A0 ⟨by decide, rfl, by decide⟩ rfl (nA (by decide)) (ix := 9) lk_467 (by decide +kernel) (fun hc5_ => ?_)
  refine g_val (y := r2_) rfl ?_
  replace hc5_ : c32 r2_ := hc5_
  refine g_if_ne C (off := 15) (tgt := 29) hc5_ (by decide +kernel) (by decide) (fun hc6_ => ?_) (fun hc6_ => ?_)
  · replace h := ite_t hc6_ h
    refine g_aload_n C 0 rfl (by decide +kernel) ?_
    refine g_getR C cl11 0 1 3 rfl cd_A0 ⟨by decide, rfl, by decide⟩ rfl rfl (nA (by decide)) (ix := 16) lk_468 (by decide +kernel) ?_
    refine g_iload_n C 1 rfl (by decide +kernel) ?_
    refine g_iload_n C 2 rfl (by decide +kernel) ?_
    obtain ⟨r8_, d7_, hr9_, h⟩ := bd_some h
    refine g_callV C mw_Tr_at [(0, p1), (0, p2)] 3 cl10 rfl (ok_Tr_at p1 p2 (up2 d1_ 0 0 r2_) hp1 hp2 hr9_) cd_A3 (by decide) (nA (by decide)) (ix := 123) lk_561 lk_562 lk_563 ⟨rfl, rfl, Nat.le_of_ble_eq_true rfl, Nat.le_of_ble_eq_true rfl⟩ rfl (rest := []) rfl (Nat.le_of_ble_eq_true rfl) ⟨Nat.zero_le _, Nat.zero_le _⟩ (by decide +kernel) (fun _ hc10_ => ?_)
    replace hc10_ : c64 r8_ := hc10_
    refine g_st (st2 := [(1, r8_)]) rfl ?_
    refine g_goto C 32 (off := 6) (by decide +kernel) (by decide) ?_
    obtain ⟨rfl, rfl⟩ := ret_inj h
    exact g_lret C hc10_ hlk hr (by decide +kernel)
  · replace h := ite_f hc6_ h
    refine g_ldc2 C (ix := 127) (v := (-1)) lk_565 (by decide +kernel) ?_
    obtain ⟨rfl, rfl⟩ := ret_inj h
    exact g_lret C (cL rfl) hlk hr (by decide +kernel)
/-! PollBooks$Trays.alike(II)Z -/
def y_Tr_alike : MethodName := ⟨"PollBooks$Trays", "alike", "(II)Z"⟩
def rm_Tr_alike : Room := { frames := 0, cells := 0, slots := 0, locals := 0 }
theorem mw_Tr_alike : MW y_Tr_alike prog_12_method_4_code 3 (some .boolean) 2 := ⟨lk_577, lk_2, by decide +kernel⟩
def L_Tr_alike (p1 p2 : Int) (d : Dt) : Option (Int × Dt) :=
  ck ((0 : Int) ≤ p1 ∧ p1 < 4) (ck ((0 : Int) ≤ p2 ∧ p2 < 4) (if (d 5 p1.toNat) = (d 5 p2.toNat) then some (1, d) else some (0, d)))
set_option maxHeartbeats 4000000 in
theorem ok_Tr_alike {l : Launch} {r : Int} {d' : Dt} (p1 p2 : Int) (d : Dt) (hp1 : c32 p1) (hp2 : c32 p2) (h : L_Tr_alike p1 p2 d = some (r, d')) : MC l y_Tr_alike prog_12_method_4_code 3 (some .boolean) rm_Tr_alike 0 [(2, 3), (0, p1), (0, p2)] d (some (0, r)) d' := by
  refine MC.of (by decide) (Nat.le_of_ble_eq_true rfl) ?_
  intro p e s m args below meth c D cA ad A C hlk hr
  replace C : Cx p s m args c prog_12_method_4_code 3 "PollBooks$Trays" D cA ad 0 A := C
  show G p l e rm_Tr_alike s m args below meth c 0 0 (MQ below (fun _ => QC D cA ad 0 A (some .boolean) (some (0, r)) d') args s 0 0 A) 3 D cA ad 0 A 0 [(2, 3), (0, p1), (0, p2)] [] d
  refine g_sub (lo2 := [(2, 3), (0, p1), (0, p2)]) (lsb_v (lsb_v (lsb_v lsb_e))) ?_
  unfold L_Tr_alike at h
  refine g_aload_n C 0 rfl (by decide +kernel) ?_
  refine g_getR C cl10 3 1 5 rfl cd_A3 ⟨by decide, rfl, by decide⟩ rfl rfl (nA (by decide)) (ix := 15) lk_40 (by decide +kernel) ?_
  refine g_iload_n C 1 rfl (by decide +kernel) ?_
  obtain ⟨hb1_, h⟩ := ck_some h
  refine g_iald C 5 hp1 rfl cd_A5 (nA (by decide)) hb1_ (by decide +kernel) (fun hc2_ => ?_)
  refine g_aload_n C 0 rfl (by decide +kernel) ?_
  refine g_getR C cl10 3 1 5 rfl cd_A3 ⟨by decide, rfl, by decide⟩ rfl rfl (nA (by decide)) (ix := 15) lk_40 (by decide +kernel) ?_
  refine g_iload_n C 2 rfl (by decide +kernel) ?_
  obtain ⟨hb3_, h⟩ := ck_some h
  refine g_iald C 5 hp2 rfl cd_A5 (nA (by decide)) hb3_ (by decide +kernel) (fun hc4_ => ?_)
  refine g_icmp_ne C (off := 7) (tgt := 19) hc2_ hc4_ (by decide +kernel) (by decide) (fun hc5_ => ?_) (fun hc5_ => ?_)
  · replace h := ite_t hc5_ h
    refine g_iconst C 1 (cK rfl) (by decide +kernel) ?_
    refine g_goto C 20 (off := 4) (by decide +kernel) (by decide) ?_
    obtain ⟨rfl, rfl⟩ := ret_inj h
    exact g_zret C (Or.inr rfl) hlk hr (by decide +kernel)
  · replace h := ite_f hc5_ h
    refine g_iconst C 0 (cK rfl) (by decide +kernel) ?_
    obtain ⟨rfl, rfl⟩ := ret_inj h
    exact g_zret C (Or.inl rfl) hlk hr (by decide +kernel)
/-! PollBooks.pourStatus(IIIII)I -/
def y_PB_pourStatus : MethodName := ⟨"PollBooks", "pourStatus", "(IIIII)I"⟩
def rm_PB_pourStatus : Room := { frames := 1, cells := 0, slots := 0, locals := 23 }
theorem mw_PB_pourStatus : MW y_PB_pourStatus prog_1_method_8_code 6 (some .int) 5 := ⟨lk_573, lk_1, by decide +kernel⟩
def L_PB_pourStatus (p1 p2 p3 p4 p5 : Int) (d : Dt) : Option (Int × Dt) :=
  bd (L_Tr_canBe p1 d) (fun r2_ d1_ => if r2_ = 0 then some (1, d1_) else bd (L_Tr_canBe p3 d1_) (fun r7_ d6_ => if r7_ = 0 then some (1, d6_) else if p2 < 0 then some (1, d6_) else if p4 < 0 then some (1, d6_) else if p5 < 0 then some (1, d6_) else bd (L_Tr_isThere p1 d6_) (fun r15_ d14_ => if r15_ = 0 then some (2, d14_) else bd (L_Tr_isThere p3 d14_) (fun r20_ d19_ => if r20_ = 0 then some (2, d19_) else bd (L_Tr_alike p1 p3 d19_) (fun r25_ d24_ => if r25_ = 0 then some (8, d24_) else bd (L_Tr_reaches p1 p2 p5 d24_) (fun r30_ d29_ => if r30_ = 0 then some (3, d29_) else bd (L_Tr_reaches p3 p4 p5 d29_) (fun r35_ d34_ => if r35_ = 0 then some (3, d34_) else some (0, d34_))))))))
set_option maxHeartbeats 4000000 in
theorem ok_PB_pourStatus {l : Launch} {r : Int} {d' : Dt} (p1 p2 p3 p4 p5 : Int) (d : Dt) (hp1 : c32 p1) (hp2 : c32 p2) (hp3 : c32 p3) (hp4 : c32 p4) (hp5 : c32 p5) (h : L_PB_pourStatus p1 p2 p3 p4 p5 d = some (r, d')) : MC l y_PB_pourStatus prog_1_method_8_code 6 (some .int) rm_PB_pourStatus 0 [(2, 0), (0, p1), (0, p2), (0, p3), (0, p4), (0, p5)] d (some (0, r)) d' := by
  refine MC.of (by decide) (Nat.le_of_ble_eq_true rfl) ?_
  intro p e s m args below meth c D cA ad A C hlk hr
  replace C : Cx p s m args c prog_1_method_8_code 6 "PollBooks" D cA ad 0 A := C
  show G p l e rm_PB_pourStatus s m args below meth c 0 0 (MQ below (fun _ => QC D cA ad 0 A (some .int) (some (0, r)) d') args s 0 0 A) 6 D cA ad 0 A 0 [(2, 0), (0, p1), (0, p2), (0, p3), (0, p4), (0, p5)] [] d
  refine g_sub (lo2 := [(2, 0), (0, p1), (0, p2), (0, p3), (0, p4), (0, p5)]) (lsb_v (lsb_v (lsb_v (lsb_v (lsb_v (lsb_v lsb_e)))))) ?_
  unfold L_PB_pourStatus at h
  refine g_aload_n C 0 rfl (by decide +kernel) ?_
  refine g_getR C cl11 0 1 3 rfl cd_A0 ⟨by decide, rfl, by decide⟩ rfl rfl (nA (by decide)) (ix := 16) lk_468 (by decide +kernel) ?_
  refine g_iload_n C 1 rfl (by decide +kernel) ?_
  obtain ⟨r2_, d1_, hr3_, h⟩ := bd_some h
  refine g_callV C mw_Tr_canBe [(0, p1)] 3 cl10 rfl (ok_Tr_canBe p1 d hp1 hr3_) cd_A3 (by decide) (nA (by decide)) (ix := 99) lk_515 lk_516 lk_517 ⟨rfl, rfl, Nat.le_of_ble_eq_true rfl, Nat.le_of_ble_eq_true rfl⟩ rfl (rest := []) rfl (Nat.le_of_ble_eq_true rfl) ⟨Nat.zero_le _, Nat.zero_le _⟩ (by decide +kernel) (fun _ hc4_ => ?_)
  replace hc4_ : cb r2_ := hc4_
  refine g_st (st2 := [(0, r2_)]) rfl ?_
  refine g_if_eq C (off := 28) (tgt := 36) (c32_cb hc4_) (by decide +kernel) (by decide) (fun hc5_ => ?_) (fun hc5_ => ?_)
  · replace h := ite_t hc5_ h
    refine g_iconst C 1 (cK rfl) (by decide +kernel) ?_
    obtain ⟨rfl, rfl⟩ := ret_inj h
    exact g_iret C (c32_cb (Or.inr rfl)) hlk hr (by decide +kernel)
  · replace h := ite_f hc5_ h
    refine g_aload_n C 0 rfl (by decide +kernel) ?_
    refine g_getR C cl11 0 1 3 rfl cd_A0 ⟨by decide, rfl, by decide⟩ rfl rfl (nA (by decide)) (ix := 16) lk_468 (by decide +kernel) ?_
    refine g_iload_n C 3 rfl (by decide +kernel) ?_
    obtain ⟨r7_, d6_, hr8_, h⟩ := bd_some h
    refine g_callV C mw_Tr_canBe [(0, p3)] 3 cl10 rfl (ok_Tr_canBe p3 d1_ hp3 hr8_) cd_A3 (by decide) (nA (by decide)) (ix := 99) lk_515 lk_516 lk_517 ⟨rfl, rfl, Nat.le_of_ble_eq_true rfl, Nat.le_of_ble_eq_true rfl⟩ rfl (rest := []) rfl (Nat.le_of_ble_eq_true rfl) ⟨Nat.zero_le _, Nat.zero_le _⟩ (by decide +kernel) (fun _ hc9_ => ?_)
    replace hc9_ : cb r7_ := hc9_
    refine g_st (st2 := [(0, r7_)]) rfl ?_
    refine g_if_eq C (off := 17) (tgt := 36) (c32_cb hc9_) (by decide +kernel) (by decide) (fun hc10_ => ?_) (fun hc10_ => ?_)
    · replace h := ite_t hc10_ h
      refine g_iconst C 1 (cK rfl) (by decide +kernel) ?_
      obtain ⟨rfl, rfl⟩ := ret_inj h
      exact g_iret C (c32_cb (Or.inr rfl)) hlk hr (by decide +kernel)
    · replace h := ite_f hc10_ h
      refine g_iload_n C 2 rfl (by decide +kernel) ?_
      refine g_if_lt C (off := 13) (tgt := 36) hp2 (by decide +kernel) (by decide) (fun hc11_ => ?_) (fun hc11_ => ?_)
      · replace h := ite_t hc11_ h
        refine g_iconst C 1 (cK rfl) (by decide +kernel) ?_
        obtain ⟨rfl, rfl⟩ := ret_inj h
        exact g_iret C (c32_cb (Or.inr rfl)) hlk hr (by decide +kernel)
      · replace h := ite_f hc11_ h
        refine g_iload C 4 rfl (by decide +kernel) ?_
        refine g_if_lt C (off := 8) (tgt := 36) hp4 (by decide +kernel) (by decide) (fun hc12_ => ?_) (fun hc12_ => ?_)
        · replace h := ite_t hc12_ h
          refine g_iconst C 1 (cK rfl) (by decide +kernel) ?_
          obtain ⟨rfl, rfl⟩ := ret_inj h
          exact g_iret C (c32_cb (Or.inr rfl)) hlk hr (by decide +kernel)
        · replace h := ite_f hc12_ h
          refine g_iload C 5 rfl (by decide +kernel) ?_
          refine g_if_ge C (off := 5) (tgt := 38) hp5 (by decide +kernel) (by decide) (fun hc13_ => ?_) (fun hc13_ => ?_)
          · replace h := ite_t hc13_ h
            refine g_iconst C 1 (cK rfl) (by decide +kernel) ?_
            obtain ⟨rfl, rfl⟩ := ret_inj h
            exact g_iret C (c32_cb (Or.inr rfl)) hlk hr (by decide +kernel)
          · replace h := ite_f hc13_ h
            refine g_aload_n C 0 rfl (by decide +kernel) ?_
            refine g_getR C cl11 0 1 3 rfl cd_A0 ⟨by decide, rfl, by decide⟩ rfl rfl (nA (by decide)) (ix := 16) lk_468 (by decide +kernel) ?_
            refine g_iload_n C 1 rfl (by decide +kernel) ?_
            obtain ⟨r15_, d14_, hr16_, h⟩ := bd_some h
            refine g_callV C mw_Tr_isThere [(0, p1)] 3 cl10 rfl (ok_Tr_isThere p1 d6_ hp1 hr16_) cd_A3 (by decide) (nA (by decide)) (ix := 137) lk_542 lk_543 lk_544 ⟨rfl, rfl, Nat.le_of_ble_eq_true rfl, Nat.le_of_ble_eq_true rfl⟩ rfl (rest := []) rfl (Nat.le_of_ble_eq_true rfl) ⟨Nat.zero_le _, Nat.zero_le _⟩ (by decide +kernel) (fun _ hc17_ => ?_)
            replace hc17_ : cb r15_ := hc17_
            refine g_st (st2 := [(0, r15_)]) rfl ?_
            refine g_if_eq C (off := 14) (tgt := 60) (c32_cb hc17_) (by decide +kernel) (by decide) (fun hc18_ => ?_) (fun hc18_ => ?_)
            · replace h := ite_t hc18_ h
              refine g_iconst C 2 (cK rfl) (by decide +kernel) ?_
              obtain ⟨rfl, rfl⟩ := ret_inj h
              exact g_iret C (cK rfl) hlk hr (by decide +kernel)
            · replace h := ite_f hc18_ h
              refine g_aload_n C 0 rfl (by decide +kernel) ?_
              refine g_getR C cl11 0 1 3 rfl cd_A0 ⟨by decide, rfl, by decide⟩ rfl rfl (nA (by decide)) (ix := 16) lk_468 (by decide +kernel) ?_
              refine g_iload_n C 3 rfl (by decide +kernel) ?_
              obtain ⟨r20_, d19_, hr21_, h⟩ := bd_some h
              refine g_callV C mw_Tr_isThere [(0, p3)] 3 cl10 rfl (ok_Tr_isThere p3 d14_ hp3 hr21_) cd_A3 (by decide) (nA (by decide)) (ix := 137) lk_542 lk_543 lk_544 ⟨rfl, rfl, Nat.le_of_ble_eq_true rfl, Nat.le_of_ble_eq_true rfl⟩ rfl (rest := []) rfl (Nat.le_of_ble_eq_true rfl) ⟨Nat.zero_le _, Nat.zero_le _⟩ (by decide +kernel) (fun _ hc22_ => ?_)
              replace hc22_ : cb r20_ := hc22_
              refine g_st (st2 := [(0, r20_)]) rfl ?_
              refine g_if_ne C (off := 5) (tgt := 62) (c32_cb hc22_) (by decide +kernel) (by decide) (fun hc23_ => ?_) (fun hc23_ => ?_)
              · replace h := ite_t hc23_ h
                refine g_iconst C 2 (cK rfl) (by decide +kernel) ?_
                obtain ⟨rfl, rfl⟩ := ret_inj h
                exact g_iret C (cK rfl) hlk hr (by decide +kernel)
              · replace h := ite_f hc23_ h
                refine g_aload_n C 0 rfl (by decide +kernel) ?_
                refine g_getR C cl11 0 1 3 rfl cd_A0 ⟨by decide, rfl, by decide⟩ rfl rfl (nA (by decide)) (ix := 16) lk_468 (by decide +kernel) ?_
                refine g_iload_n C 1 rfl (by decide +kernel) ?_
                refine g_iload_n C 3 rfl (by decide +kernel) ?_
                obtain ⟨r25_, d24_, hr26_, h⟩ := bd_some h
                refine g_callV C mw_Tr_alike [(0, p1), (0, p3)] 3 cl10 rfl (ok_Tr_alike p1 p3 d19_ hp1 hp3 hr26_) cd_A3 (by decide) (nA (by decide)) (ix := 144) lk_574 lk_575 lk_576 ⟨rfl, rfl, Nat.le_of_ble_eq_true rfl, Nat.le_of_ble_eq_true rfl⟩ rfl (rest := []) rfl (Nat.le_of_ble_eq_true rfl) ⟨Nat.zero_le _, Nat.zero_le _⟩ (by decide +kernel) (fun _ hc27_ => ?_)
                replace hc27_ : cb r25_ := hc27_
                refine g_st (st2 := [(0, r25_)]) rfl ?_
                refine g_if_ne C (off := 6) (tgt := 77) (c32_cb hc27_) (by decide +kernel) (by decide) (fun hc28_ => ?_) (fun hc28_ => ?_)
                · replace h := ite_t hc28_ h
                  refine g_bipush C 8 (by decide) (by decide +kernel) ?_
                  obtain ⟨rfl, rfl⟩ := ret_inj h
                  exact g_iret C (cK rfl) hlk hr (by decide +kernel)
                · replace h := ite_f hc28_ h
                  refine g_aload_n C 0 rfl (by decide +kernel) ?_
                  refine g_getR C cl11 0 1 3 rfl cd_A0 ⟨by decide, rfl, by decide⟩ rfl rfl (nA (by decide)) (ix := 16) lk_468 (by decide +kernel) ?_
                  refine g_iload_n C 1 rfl (by decide +kernel) ?_
                  refine g_iload_n C 2 rfl (by decide +kernel) ?_
                  refine g_iload C 5 rfl (by decide +kernel) ?_
                  obtain ⟨r30_, d29_, hr31_, h⟩ := bd_some h
                  refine g_callV C mw_Tr_reaches [(0, p1), (0, p2), (0, p5)] 3 cl10 rfl (ok_Tr_reaches p1 p2 p5 d24_ hp1 hp2 hp5 hr31_) cd_A3 (by decide) (nA (by decide)) (ix := 140) lk_546 lk_547 lk_548 ⟨rfl, rfl, Nat.le_of_ble_eq_true rfl, Nat.le_of_ble_eq_true rfl⟩ rfl (rest := []) rfl (Nat.le_of_ble_eq_true rfl) ⟨Nat.zero_le _, Nat.zero_le _⟩ (by decide +kernel) (fun _ hc32_ => ?_)
                  replace hc32_ : cb r30_ := hc32_
                  refine g_st (st2 := [(0, r30_)]) rfl ?_
                  refine g_if_eq C (off := 22) (tgt := 110) (c32_cb hc32_) (by decide +kernel) (by decide) (fun hc33_ => ?_) (fun hc33_ => ?_)
                  · replace h := ite_t hc33_ h
                    refine g_iconst C 3 (cK rfl) (by decide +kernel) ?_
                    obtain ⟨rfl, rfl⟩ := ret_inj h
                    exact g_iret C (cK rfl) hlk hr (by decide +kernel)
                  · replace h := ite_f hc33_ h
                    refine g_aload_n C 0 rfl (by decide +kernel) ?_
                    refine g_getR C cl11 0 1 3 rfl cd_A0 ⟨by decide, rfl, by decide⟩ rfl rfl (nA (by decide)) (ix := 16) lk_468 (by decide +kernel) ?_
                    refine g_iload_n C 3 rfl (by decide +kernel) ?_
                    refine g_iload C 4 rfl (by decide +kernel) ?_
                    refine g_iload C 5 rfl (by decide +kernel) ?_
                    obtain ⟨r35_, d34_, hr36_, h⟩ := bd_some h
                    refine g_callV C mw_Tr_reaches [(0, p3), (0, p4), (0, p5)] 3 cl10 rfl (ok_Tr_reaches p3 p4 p5 d29_ hp3 hp4 hp5 hr36_) cd_A3 (by decide) (nA (by decide)) (ix := 140) lk_546 lk_547 lk_548 ⟨rfl, rfl, Nat.le_of_ble_eq_true rfl, Nat.le_of_ble_eq_true rfl⟩ rfl (rest := []) rfl (Nat.le_of_ble_eq_true rfl) ⟨Nat.zero_le _, Nat.zero_le _⟩ (by decide +kernel) (fun _ hc37_ => ?_)
                    replace hc37_ : cb r35_ := hc37_
                    refine g_st (st2 := [(0, r35_)]) rfl ?_
                    refine g_if_eq C (off := 7) (tgt := 110) (c32_cb hc37_) (by decide +kernel) (by decide) (fun hc38_ => ?_) (fun hc38_ => ?_)
                    · replace h := ite_t hc38_ h
                      refine g_iconst C 3 (cK rfl) (by decide +kernel) ?_
                      obtain ⟨rfl, rfl⟩ := ret_inj h
                      exact g_iret C (cK rfl) hlk hr (by decide +kernel)
                    · replace h := ite_f hc38_ h
                      refine g_iconst C 0 (cK rfl) (by decide +kernel) ?_
                      refine g_goto C 111 (off := 4) (by decide +kernel) (by decide) ?_
                      obtain ⟨rfl, rfl⟩ := ret_inj h
                      exact g_iret C (c32_cb (Or.inl rfl)) hlk hr (by decide +kernel)
/-! PollBooks$Trays.move(IIIII)V -/
def y_Tr_move : MethodName := ⟨"PollBooks$Trays", "move", "(IIIII)V"⟩
def rm_Tr_move : Room := { frames := 1, cells := 0, slots := 0, locals := 40 }
theorem mw_Tr_move : MW y_Tr_move prog_12_method_9_code 6 none 5 := ⟨lk_581, lk_2, by decide +kernel⟩
def L_Tr_move (p1 p2 p3 p4 p5 : Int) (d : Dt) : Option (Int × Dt) :=
  ck ((0 : Int) ≤ (w32 ((w32 (p1 * 60)) + p2)) ∧ (0 : Int) ≤ (w32 ((w32 (p3 * 60)) + p4)) ∧ (0 : Int) ≤ p5 ∧ ((w32 ((w32 (p1 * 60)) + p2)) : Int) + p5 ≤ 240 ∧ ((w32 ((w32 (p3 * 60)) + p4)) : Int) + p5 ≤ 240) (some (0, (cp2 d 4 ((w32 ((w32 (p1 * 60)) + p2))).toNat 4 ((w32 ((w32 (p3 * 60)) + p4))).toNat p5.toNat)))
set_option maxHeartbeats 4000000 in
theorem ok_Tr_move {l : Launch} {r : Int} {d' : Dt} (p1 p2 p3 p4 p5 : Int) (d : Dt) (hp1 : c32 p1) (hp2 : c32 p2) (hp3 : c32 p3) (hp4 : c32 p4) (hp5 : c32 p5) (h : L_Tr_move p1 p2 p3 p4 p5 d = some (r, d')) : MC l y_Tr_move prog_12_method_9_code 6 none rm_Tr_move 0 [(2, 3), (0, p1), (0, p2), (0, p3), (0, p4), (0, p5)] d none d' := by
  refine MC.of (by decide) (Nat.le_of_ble_eq_true rfl) ?_
  intro p e s m args below meth c D cA ad A C hlk hr
  replace C : Cx p s m args c prog_12_method_9_code 6 "PollBooks$Trays" D cA ad 0 A := C
  show G p l e rm_Tr_move s m args below meth c 0 0 (MQ below (fun _ => QC D cA ad 0 A none none d') args s 0 0 A) 6 D cA ad 0 A 0 [(2, 3), (0, p1), (0, p2), (0, p3), (0, p4), (0, p5)] [] d
  refine g_sub (lo2 := [(2, 3), (0, p1), (0, p2), (0, p3), (0, p4), (0, p5)]) (lsb_v (lsb_v (lsb_v (lsb_v (lsb_v (lsb_v lsb_e)))))) ?_
  unfold L_Tr_move at h
  refine g_aload_n C 0 rfl (by decide +kernel) ?_
  refine g_getR C cl10 3 0 4 rfl cd_A3 ⟨by decide, rfl, by decide⟩ rfl rfl (nA (by decide)) (ix := 11) lk_39 (by decide +kernel) ?_
  refine g_iload_n C 1 rfl (by decide +kernel) ?_
  refine g_bipush C 60 (by decide) (by decide +kernel) ?_
  refine g_imul C (by decide +kernel) ?_
  refine g_iload_n C 2 rfl (by decide +kernel) ?_
  refine g_iadd C (by decide +kernel) ?_
  refine g_aload_n C 0 rfl (by decide +kernel) ?_
  refine g_getR C cl10 3 0 4 rfl cd_A3 ⟨by decide, rfl, by decide⟩ rfl rfl (nA (by decide)) (ix := 11) lk_39 (by decide +kernel) ?_
  refine g_iload_n C 3 rfl (by decide +kernel) ?_
  refine g_bipush C 60 (by decide) (by decide +kernel) ?_
  refine g_imul C (by decide +kernel) ?_
  refine g_iload C 4 rfl (by decide +kernel) ?_
  refine g_iadd C (by decide +kernel) ?_
  refine g_iload C 5 rfl (by decide +kernel) ?_
  obtain ⟨hb1_, h⟩ := ck_some h
  refine g_copyl C 4 4 rfl rfl cd_A4 cd_A4 (nA (by decide)) (nA (by decide)) (w32_c _) (w32_c _) hp5 hb1_ (ix := 35) lk_582 lk_584 lk_583 lk_15 ⟨Nat.le_of_ble_eq_true rfl, by decide +kernel⟩ (Nat.le_of_ble_eq_true rfl) (by decide +kernel) ?_
  obtain ⟨rfl, rfl⟩ := ret_inj h
  exact g_vret C hlk hr (by decide +kernel)
/-! PollBooks.pour(IIIII)Z -/
def y_PB_pour : MethodName := ⟨"PollBooks", "pour", "(IIIII)Z"⟩
def rm_PB_pour : Room := { frames := 2, cells := 0, slots := 0, locals := 65 }
theorem mw_PB_pour : MW y_PB_pour prog_1_method_6_code 6 (some .boolean) 5 := ⟨lk_569, lk_1, by decide +kernel⟩
def L_PB_pour_b36 (d : Dt) : Option (Int × Dt) :=
  if (d 0 0) = 0 then some (1, d) else some (0, d)
def L_PB_pour (p1 p2 p3 p4 p5 : Int) (d : Dt) : Option (Int × Dt) :=
  bd (L_PB_pourStatus p1 p2 p3 p4 p5 d) (fun r4_ d3_ => if r4_ = 0 then bd (L_Tr_move p1 p2 p3 p4 p5 (up2 d3_ 0 0 r4_)) (fun r10_ d9_ => L_PB_pour_b36 d9_) else L_PB_pour_b36 (up2 d3_ 0 0 r4_))
set_option maxHeartbeats 4000000 in
theorem ok_PB_pour_b36 {p : Program} {l : Launch} {e : Env} {s : State} {m : MethodId} {args : Array Value} {below : List Frame} {meth : Method} {c : Code} {D : va_G} {cA : Nat → ClassId} {ad : Nat → Nat} {A : Nat → Prop} (C : Cx p s m args c prog_1_method_6_code 6 "PollBooks" D cA ad 0 A) (hlk : meth.locks = false) (hr : meth.sig.returnType = (some .boolean)) {r : Int} {d' : Dt} (d : Dt)  (h : L_PB_pour_b36 d = some (r, d')) : G p l e rm_PB_pour s m args below meth c 0 0 (MQ below (fun _ => QC D cA ad 0 A (some .boolean) (some (0, r)) d') args s 0 0 A) 6 D cA ad 0 A 36 [(2, 0), (9, 0), (9, 0), (9, 0), (9, 0), (9, 0)] [] d := by
  unfold L_PB_pour_b36 at h
  refine g_aload_n C 0 rfl (by decide +kernel) ?_
  refine g_getI C cl11 0 0 rfl cd_A0 ⟨by decide, rfl, by decide⟩ rfl (nA (by decide)) (ix := 9) lk_467 (by decide +kernel) (fun hc1_ => ?_)
  refine g_if_ne C (off := 7) (tgt := 47) hc1_ (by decide +kernel) (by decide) (fun hc2_ => ?_) (fun hc2_ => ?_)
  · replace h := ite_t hc2_ h
    refine g_iconst C 1 (cK rfl) (by decide +kernel) ?_
    refine g_goto C 48 (off := 4) (by decide +kernel) (by decide) ?_
    obtain ⟨rfl, rfl⟩ := ret_inj h
    exact g_zret C (Or.inr rfl) hlk hr (by decide +kernel)
  · replace h := ite_f hc2_ h
    refine g_iconst C 0 (cK rfl) (by decide +kernel) ?_
    obtain ⟨rfl, rfl⟩ := ret_inj h
    exact g_zret C (Or.inl rfl) hlk hr (by decide +kernel)
set_option maxHeartbeats 4000000 in
theorem ok_PB_pour {l : Launch} {r : Int} {d' : Dt} (p1 p2 p3 p4 p5 : Int) (d : Dt) (hp1 : c32 p1) (hp2 : c32 p2) (hp3 : c32 p3) (hp4 : c32 p4) (hp5 : c32 p5) (h : L_PB_pour p1 p2 p3 p4 p5 d = some (r, d')) : MC l y_PB_pour prog_1_method_6_code 6 (some .boolean) rm_PB_pour 0 [(2, 0), (0, p1), (0, p2), (0, p3), (0, p4), (0, p5)] d (some (0, r)) d' := by
  refine MC.of (by decide) (Nat.le_of_ble_eq_true rfl) ?_
  intro p e s m args below meth c D cA ad A C hlk hr
  replace C : Cx p s m args c prog_1_method_6_code 6 "PollBooks" D cA ad 0 A := C
  show G p l e rm_PB_pour s m args below meth c 0 0 (MQ below (fun _ => QC D cA ad 0 A (some .boolean) (some (0, r)) d') args s 0 0 A) 6 D cA ad 0 A 0 [(2, 0), (0, p1), (0, p2), (0, p3), (0, p4), (0, p5)] [] d
  refine g_sub (lo2 := [(2, 0), (0, p1), (0, p2), (0, p3), (0, p4), (0, p5)]) (lsb_v (lsb_v (lsb_v (lsb_v (lsb_v (lsb_v lsb_e)))))) ?_
  unfold L_PB_pour at h
  refine g_aload_n C 0 rfl (by decide +kernel) ?_
  refine g_aload_n C 0 rfl (by decide +kernel) ?_
  refine g_iload_n C 1 rfl (by decide +kernel) ?_
  refine g_iload_n C 2 rfl (by decide +kernel) ?_
  refine g_iload_n C 3 rfl (by decide +kernel) ?_
  refine g_iload C 4 rfl (by decide +kernel) ?_
  refine g_iload C 5 rfl (by decide +kernel) ?_
  obtain ⟨r4_, d3_, hr5_, h⟩ := bd_some h
  refine g_callV C mw_PB_pourStatus [(0, p1), (0, p2), (0, p3), (0, p4), (0, p5)] 0 cl11 rfl (ok_PB_pourStatus p1 p2 p3 p4 p5 d hp1 hp2 hp3 hp4 hp5 hr5_) cd_A0 (by decide) (nA (by decide)) (ix := 129) lk_570 lk_572 lkp_1 ⟨rfl, rfl, Nat.le_of_ble_eq_true rfl, Nat.le_of_ble_eq_true rfl⟩ rfl (rest := [(2, 0)]) rfl (Nat.le_of_ble_eq_true rfl) ⟨Nat.zero_le _, Nat.zero_le _⟩ (by decide +kernel) (fun _ hc6_ => ?_)
  replace hc6_ : c32 r4_ := hc6_
  refine g_st (st2 := [(0, r4_), (2, 0)]) rfl ?_
  refine g_putI C cl11 0 0 hc6_ rfl cd_A0 ⟨by decide, rfl, by decide⟩ rfl (nA (by decide)) (ix := 9) lk_467 rfl rfl (by decide +kernel) ?_
  refine g_aload_n C 0 rfl (by decide +kernel) ?_
  refine g_getI C cl11 0 0 rfl cd_A0 ⟨by decide, rfl, by decide⟩ rfl (nA (by decide)) (ix := 9) lk_467 (by decide +kernel) (fun hc7_ => ?_)
  refine g_val (y := r4_) rfl ?_
  replace hc7_ : c32 r4_ := hc7_
  refine g_if_ne C (off := 17) (tgt := 36) hc7_ (by decide +kernel) (by decide) (fun hc8_ => ?_) (fun hc8_ => ?_)
  · replace h := ite_t hc8_ h
    refine g_aload_n C 0 rfl (by decide +kernel) ?_
    refine g_getR C cl11 0 1 3 rfl cd_A0 ⟨by decide, rfl, by decide⟩ rfl rfl (nA (by decide)) (ix := 16) lk_468 (by decide +kernel) ?_
    refine g_iload_n C 1 rfl (by decide +kernel) ?_
    refine g_iload_n C 2 rfl (by decide +kernel) ?_
    refine g_iload_n C 3 rfl (by decide +kernel) ?_
    refine g_iload C 4 rfl (by decide +kernel) ?_
    refine g_iload C 5 rfl (by decide +kernel) ?_
    obtain ⟨r10_, d9_, hr11_, h⟩ := bd_some h
    refine g_callV C mw_Tr_move [(0, p1), (0, p2), (0, p3), (0, p4), (0, p5)] 3 cl10 rfl (ok_Tr_move p1 p2 p3 p4 p5 (up2 d3_ 0 0 r4_) hp1 hp2 hp3 hp4 hp5 hr11_) cd_A3 (by decide) (nA (by decide)) (ix := 133) lk_578 lk_579 lk_580 ⟨rfl, rfl, Nat.le_of_ble_eq_true rfl, Nat.le_of_ble_eq_true rfl⟩ rfl (rest := []) rfl (Nat.le_of_ble_eq_true rfl) ⟨Nat.zero_le _, Nat.zero_le _⟩ (by decide +kernel) (fun _ hc12_ => ?_)
    refine g_st (st2 := []) rfl ?_
    refine g_sub (lo2 := [(2, 0), (9, 0), (9, 0), (9, 0), (9, 0), (9, 0)]) (lsb_v (lsb_c (lsb_c (lsb_c (lsb_c (lsb_c lsb_e)))))) ?_
    exact ok_PB_pour_b36 C hlk hr d9_  h
  · replace h := ite_f hc8_ h
    refine g_sub (lo2 := [(2, 0), (9, 0), (9, 0), (9, 0), (9, 0), (9, 0)]) (lsb_v (lsb_c (lsb_c (lsb_c (lsb_c (lsb_c lsb_e)))))) ?_
    exact ok_PB_pour_b36 C hlk hr (up2 d3_ 0 0 r4_)  h
/-! PollBooks.isName(J)Z -/
def y_PB_isName : MethodName := ⟨"PollBooks", "isName", "(J)Z"⟩
def rm_PB_isName : Room := { frames := 1, cells := 0, slots := 0, locals := 25 }
theorem mw_PB_isName : MW y_PB_isName prog_1_method_59_code 5 (some .boolean) 1 := ⟨lk_591, lk_1, by decide +kernel⟩
def L_PB_isName_y5 (x0 x2 x4 : Int) (d : Dt) : Option ((Int × Int × Int × Dt) ⊕ ((Int × Int × Dt) ⊕ (Dt))) :=
  if x4 < 8 then if x2 = 0 then some (Sum.inr (Sum.inl (x0, x2, d))) else bd (L_PB_within (land x2 31) 1 26 d) (fun r4_ d3_ => if r4_ = 0 then some (Sum.inr (Sum.inr (d3_))) else lt_ (lushr x2 5) (fun v8_ => some (Sum.inl (x0, v8_, (w32 (x4 + 1)), d3_)))) else some (Sum.inr (Sum.inl (x0, x2, d)))
def L_PB_isName_l5 (x0 x2 x4 : Int) (d : Dt) : Option ((Int × Int × Dt) ⊕ (Dt)) := lpF (fun q : Int × Int × Int × Dt => L_PB_isName_y5 q.1 q.2.1 q.2.2.1 q.2.2.2) FU (x0, x2, x4, d)
def L_PB_isName_b45 (x0 x2 : Int) (d : Dt) : Option (Int × Dt) :=
  if x0 = 0 then some (0, d) else if x2 = 0 then some (1, d) else some (0, d)
def L_PB_isName (p1 : Int) (d : Dt) : Option (Int × Dt) :=
  lb (L_PB_isName_l5 p1 p1 0 d) (fun q21_ => sm q21_ (fun q22_ => u2 q22_ (fun v15_ v16_ d17_ => L_PB_isName_b45 v15_ v16_ d17_)) (fun q23_ => u0 q23_ (fun d19_ => some (0, d19_))))
set_option maxHeartbeats 4000000 in
theorem ok_PB_isName_y5 {p : Program} {l : Launch} {e : Env} {s : State} {m : MethodId} {args : Array Value} {below : List Frame} {meth : Method} {c : Code} {D : va_G} {cA : Nat → ClassId} {ad : Nat → Nat} {A : Nat → Prop} (C : Cx p s m args c prog_1_method_59_code 5 "PollBooks" D cA ad 0 A) {Q : State → Prop} {o : (Int × Int × Int × Dt) ⊕ ((Int × Int × Dt) ⊕ (Dt))} (x0 x2 x4 : Int) (d : Dt) (hx0 : c64 x0) (hx2 : c64 x2) (hx4 : c32 x4) (h : L_PB_isName_y5 x0 x2 x4 d = some o) (kb : ∀ (y0 y1 y2 : Int) (e' : Dt), o = .inl (y0, y1, y2, e') → c64 y0 → c64 y1 → c32 y2 → G p l e rm_PB_isName s m args below meth c 0 0 Q 5 D cA ad 0 A 5 [(1, y0), (9, 0), (1, y1), (9, 0), (0, y2)] [] e') (k0 : ∀ (y0 y1 : Int) (e' : Dt), o = .inr (Sum.inl (y0, y1, e')) → c64 y0 → c64 y1 → G p l e rm_PB_isName s m args below meth c 0 0 Q 5 D cA ad 0 A 45 [(1, y0), (9, 0), (1, y1), (9, 0), (9, 0)] [] e') (k1 : ∀ (e' : Dt), o = .inr (Sum.inr (e')) → G p l e rm_PB_isName s m args below meth c 0 0 Q 5 D cA ad 0 A 33 [(9, 0), (9, 0), (9, 0), (9, 0), (9, 0)] [] e') : G p l e rm_PB_isName s m args below meth c 0 0 Q 5 D cA ad 0 A 5 [(1, x0), (9, 0), (1, x2), (9, 0), (0, x4)] [] d := by
  unfold L_PB_isName_y5 at h
  refine g_iload C 4 rfl (by decide +kernel) ?_
  refine g_bipush C 8 (by decide) (by decide +kernel) ?_
  refine g_icmp_ge C (off := 36) (tgt := 45) hx4 (cK rfl) (by decide +kernel) (by decide) (fun hc1_ => ?_) (fun hc1_ => ?_)
  · replace h := ite_t hc1_ h
    refine g_lload_n C 2 rfl (by decide +kernel) ?_
    refine g_lconst C 0 (v := 0) (by decide) (by decide +kernel) ?_
    refine g_lc_eq C (off := 30) (tgt := 45) hx2 (cL rfl) (by decide +kernel) (by decide +kernel) (by decide) (fun hc2_ => ?_) (fun hc2_ => ?_)
    · replace h := ite_t hc2_ h
      refine g_sub (lo2 := [(1, x0), (9, 0), (1, x2), (9, 0), (9, 0)]) (lsb_v (lsb_c (lsb_v (lsb_c (lsb_c lsb_e))))) ?_
      obtain rfl := Option.some.inj h
      exact k0 x0 x2 d rfl hx0 hx2
    · replace h := ite_f hc2_ h
      refine g_lload_n C 2 rfl (by decide +kernel) ?_
      refine g_ldc2 C (ix := 444) (v := 31) lk_592 (by decide +kernel) ?_
      refine g_land C (by decide +kernel) ?_
      refine g_lconst C 1 (v := 1) (by decide) (by decide +kernel) ?_
      refine g_ldc2 C (ix := 446) (v := 26) lk_593 (by decide +kernel) ?_
      obtain ⟨r4_, d3_, hr5_, h⟩ := bd_some h
      refine g_callS C mw_PB_within [(1, (land x2 31)), (1, 1), (1, 26)] (ok_PB_within (land x2 31) 1 26 d (l_c _) (cL rfl) (cL rfl) hr5_) (ix := 105) lk_520 lk_521 ⟨rfl, rfl, Nat.le_of_ble_eq_true rfl, Nat.le_of_ble_eq_true rfl⟩ rfl (rest := []) rfl (Nat.le_of_ble_eq_true rfl) ⟨Nat.zero_le _, Nat.zero_le _⟩ (by decide +kernel) (fun _ hc6_ => ?_)
      replace hc6_ : cb r4_ := hc6_
      refine g_st (st2 := [(0, r4_)]) rfl ?_
      refine g_if_ne C (off := 5) (tgt := 35) (c32_cb hc6_) (by decide +kernel) (by decide) (fun hc7_ => ?_) (fun hc7_ => ?_)
      · replace h := ite_t hc7_ h
        refine g_sub (lo2 := [(9, 0), (9, 0), (9, 0), (9, 0), (9, 0)]) (lsb_c (lsb_c (lsb_c (lsb_c (lsb_c lsb_e))))) ?_
        obtain rfl := Option.some.inj h
        exact k1 d3_ rfl 
      · replace h := ite_f hc7_ h
        refine g_lload_n C 2 rfl (by decide +kernel) ?_
        refine g_iconst C 5 (cK rfl) (by decide +kernel) ?_
        refine g_lushr C (by decide +kernel) ?_
        obtain ⟨v8_, ev9_, h⟩ := lt_some h
        refine g_val ev9_.symm ?_
        have hv10_ : c64 v8_ := by rw [ev9_]; exact (l_c _)
        refine s_lstore_n C 2 (lo' := [(1, x0), (9, 0), (1, v8_), (9, 0), (0, x4)]) (by decide) (s2k (s2n (by decide) s2z)) (by decide +kernel) ?_
        refine s_iinc C 4 1 (lo' := [(1, x0), (9, 0), (1, v8_), (9, 0), (0, (w32 (x4 + 1)))]) rfl (by decide) (s1k (s1k (s1k (s1n (by decide) s1z)))) (by decide +kernel) ?_
        refine g_goto C 5 (off := (-37)) (by decide +kernel) (by decide) ?_
        refine g_sub (lo2 := [(1, x0), (9, 0), (1, v8_), (9, 0), (0, (w32 (x4 + 1)))]) (lsb_v (lsb_c (lsb_v (lsb_c (lsb_v lsb_e))))) ?_
        obtain rfl := Option.some.inj h
        exact kb x0 v8_ (w32 (x4 + 1)) d3_ rfl hx0 hv10_ (w32_c _)
  · replace h := ite_f hc1_ h
    refine g_sub (lo2 := [(1, x0), (9, 0), (1, x2), (9, 0), (9, 0)]) (lsb_v (lsb_c (lsb_v (lsb_c (lsb_c lsb_e))))) ?_
    obtain rfl := Option.some.inj h
    exact k0 x0 x2 d rfl hx0 hx2
set_option maxHeartbeats 4000000 in
theorem ok_PB_isName_n5 {p : Program} {l : Launch} {e : Env} {s : State} {m : MethodId} {args : Array Value} {below : List Frame} {meth : Method} {c : Code} {D : va_G} {cA : Nat → ClassId} {ad : Nat → Nat} {A : Nat → Prop} (C : Cx p s m args c prog_1_method_59_code 5 "PollBooks" D cA ad 0 A) {Q : State → Prop} {x : (Int × Int × Dt) ⊕ (Dt)} : ∀ (n : Nat) (x0 x2 x4 : Int) (d : Dt), c64 x0 → c64 x2 → c32 x4 → lpF (fun q : Int × Int × Int × Dt => L_PB_isName_y5 q.1 q.2.1 q.2.2.1 q.2.2.2) n (x0, x2, x4, d) = some x → (∀ (y0 y1 : Int) (e' : Dt), x = (Sum.inl (y0, y1, e')) → c64 y0 → c64 y1 → G p l e rm_PB_isName s m args below meth c 0 0 Q 5 D cA ad 0 A 45 [(1, y0), (9, 0), (1, y1), (9, 0), (9, 0)] [] e') → (∀ (e' : Dt), x = (Sum.inr (e')) → G p l e rm_PB_isName s m args below meth c 0 0 Q 5 D cA ad 0 A 33 [(9, 0), (9, 0), (9, 0), (9, 0), (9, 0)] [] e') → G p l e rm_PB_isName s m args below meth c 0 0 Q 5 D cA ad 0 A 5 [(1, x0), (9, 0), (1, x2), (9, 0), (0, x4)] [] d := by
  intro n
  induction n with
  | zero => intro x0 x2 x4 d g0 g1 g2 h k0 k1; cases h
  | succ n ih =>
    intro x0 x2 x4 d g0 g1 g2 h k0 k1
    rcases lpF_some h with h | ⟨⟨v0_, v1_, v2_, e0_⟩, h1, h⟩
    · exact ok_PB_isName_y5 C x0 x2 x4 d g0 g1 g2 h (fun z0_ z1_ z2_ e1_ eq w0_ w1_ w2_ => by cases eq) (fun z0_ z1_ e1_ eq w0_ w1_ => k0 _ _ _ (by cases eq; rfl) w0_ w1_) (fun e1_ eq => k1 _ (by cases eq; rfl) )
    · exact ok_PB_isName_y5 C x0 x2 x4 d g0 g1 g2 h1 (fun z0_ z1_ z2_ e1_ eq w0_ w1_ w2_ => by cases eq; exact ih _ _ _ _ w0_ w1_ w2_ h k0 k1) (fun z0_ z1_ e1_ eq w0_ w1_ => by cases eq) (fun e1_ eq => by cases eq)
set_option maxHeartbeats 4000000 in
theorem ok_PB_isName_l5 {p : Program} {l : Launch} {e : Env} {s : State} {m : MethodId} {args : Array Value} {below : List Frame} {meth : Method} {c : Code} {D : va_G} {cA : Nat → ClassId} {ad : Nat → Nat} {A : Nat → Prop} (C : Cx p s m args c prog_1_method_59_code 5 "PollBooks" D cA ad 0 A) {Q : State → Prop} {x : (Int × Int × Dt) ⊕ (Dt)} (x0 x2 x4 : Int) (d : Dt) (hx0 : c64 x0) (hx2 : c64 x2) (hx4 : c32 x4) (h : L_PB_isName_l5 x0 x2 x4 d = some x) (k0 : ∀ (y0 y1 : Int) (e' : Dt), x = (Sum.inl (y0, y1, e')) → c64 y0 → c64 y1 → G p l e rm_PB_isName s m args below meth c 0 0 Q 5 D cA ad 0 A 45 [(1, y0), (9, 0), (1, y1), (9, 0), (9, 0)] [] e') (k1 : ∀ (e' : Dt), x = (Sum.inr (e')) → G p l e rm_PB_isName s m args below meth c 0 0 Q 5 D cA ad 0 A 33 [(9, 0), (9, 0), (9, 0), (9, 0), (9, 0)] [] e') : G p l e rm_PB_isName s m args below meth c 0 0 Q 5 D cA ad 0 A 5 [(1, x0), (9, 0), (1, x2), (9, 0), (0, x4)] [] d :=
  ok_PB_isName_n5 C FU x0 x2 x4 d hx0 hx2 hx4 h k0 k1
set_option maxHeartbeats 4000000 in
theorem ok_PB_isName_b45 {p : Program} {l : Launch} {e : Env} {s : State} {m : MethodId} {args : Array Value} {below : List Frame} {meth : Method} {c : Code} {D : va_G} {cA : Nat → ClassId} {ad : Nat → Nat} {A : Nat → Prop} (C : Cx p s m args c prog_1_method_59_code 5 "PollBooks" D cA ad 0 A) (hlk : meth.locks = false) (hr : meth.sig.returnType = (some .boolean)) {r : Int} {d' : Dt} (x0 x2 : Int) (d : Dt) (hx0 : c64 x0) (hx2 : c64 x2) (h : L_PB_isName_b45 x0 x2 d = some (r, d')) : G p l e rm_PB_isName s m args below meth c 0 0 (MQ below (fun _ => QC D cA ad 0 A (some .boolean) (some (0, r)) d') args s 0 0 A) 5 D cA ad 0 A 45 [(1, x0), (9, 0), (1, x2), (9, 0), (9, 0)] [] d := by
  unfold L_PB_isName_b45 at h
  refine g_lload_n C 0 rfl (by decide +kernel) ?_
  refine g_lconst C 0 (v := 0) (by decide) (by decide +kernel) ?_
  refine g_lc_eq C (off := 13) (tgt := 61) hx0 (cL rfl) (by decide +kernel) (by decide +kernel) (by decide) (fun hc11_ => ?_) (fun hc11_ => ?_)
  · replace h := ite_t hc11_ h
    refine g_iconst C 0 (cK rfl) (by decide +kernel) ?_
    obtain ⟨rfl, rfl⟩ := ret_inj h
    exact g_zret C (Or.inl rfl) hlk hr (by decide +kernel)
  · replace h := ite_f hc11_ h
    refine g_lload_n C 2 rfl (by decide +kernel) ?_
    refine g_lconst C 0 (v := 0) (by decide) (by decide +kernel) ?_
    refine g_lc_ne C (off := 7) (tgt := 61) hx2 (cL rfl) (by decide +kernel) (by decide +kernel) (by decide) (fun hc12_ => ?_) (fun hc12_ => ?_)
    · replace h := ite_t hc12_ h
      refine g_iconst C 1 (cK rfl) (by decide +kernel) ?_
      refine g_goto C 62 (off := 4) (by decide +kernel) (by decide) ?_
      obtain ⟨rfl, rfl⟩ := ret_inj h
      exact g_zret C (Or.inr rfl) hlk hr (by decide +kernel)
    · replace h := ite_f hc12_ h
      refine g_iconst C 0 (cK rfl) (by decide +kernel) ?_
      obtain ⟨rfl, rfl⟩ := ret_inj h
      exact g_zret C (Or.inl rfl) hlk hr (by decide +kernel)
set_option maxHeartbeats 4000000 in
theorem ok_PB_isName {l : Launch} {r : Int} {d' : Dt} (p1 : Int) (d : Dt) (hp1 : c64 p1) (h : L_PB_isName p1 d = some (r, d')) : MC l y_PB_isName prog_1_method_59_code 5 (some .boolean) rm_PB_isName 0 [(1, p1)] d (some (0, r)) d' := by
  refine MC.of (by decide) (Nat.le_of_ble_eq_true rfl) ?_
  intro p e s m args below meth c D cA ad A C hlk hr
  replace C : Cx p s m args c prog_1_method_59_code 5 "PollBooks" D cA ad 0 A := C
  show G p l e rm_PB_isName s m args below meth c 0 0 (MQ below (fun _ => QC D cA ad 0 A (some .boolean) (some (0, r)) d') args s 0 0 A) 5 D cA ad 0 A 0 [(1, p1), (9, 0)] [] d
  refine g_sub (lo2 := [(1, p1), (9, 0), (9, 0), (9, 0), (9, 0)]) (lsb_v (lsb_c (lsb_n (lsb_n (lsb_n lsb_e))))) ?_
  unfold L_PB_isName at h
  refine g_lload_n C 0 rfl (by decide +kernel) ?_
  refine s_lstore_n C 2 (lo' := [(1, p1), (9, 0), (1, p1), (9, 0), (9, 0)]) (by decide) (s2k (s2n (by decide) s2z)) (by decide +kernel) ?_
  refine g_iconst C 0 (cK rfl) (by decide +kernel) ?_
  refine s_istore C 4 (lo' := [(1, p1), (9, 0), (1, p1), (9, 0), (0, 0)]) (by decide) (s1k (s1k (s1k (s1n (by decide) s1z)))) (by decide +kernel) ?_
  refine g_sub (lo2 := [(1, p1), (9, 0), (1, p1), (9, 0), (0, 0)]) (lsb_v (lsb_c (lsb_v (lsb_c (lsb_v lsb_e))))) ?_
  obtain ⟨x13_, hx14_, h⟩ := lb_some h
  refine ok_PB_isName_l5 C p1 p1 0 d hp1 hp1 (c32_cb (Or.inl rfl)) hx14_ (fun v15_ v16_ d17_ eq18_ hv15_ hv16_ => ?_) (fun d19_ eq20_ => ?_)
  · subst eq18_
    replace h := sml_e h
    replace h := u2_e h
    refine g_sub (lo2 := [(1, v15_), (9, 0), (1, v16_), (9, 0), (9, 0)]) (lsb_v (lsb_c (lsb_v (lsb_c (lsb_c lsb_e))))) ?_
    exact ok_PB_isName_b45 C hlk hr v15_ v16_ d17_ hv15_ hv16_ h
  · subst eq20_
    replace h := smr_e h
    replace h := u0_e h
    refine g_iconst C 0 (cK rfl) (by decide +kernel) ?_
    obtain ⟨rfl, rfl⟩ := ret_inj h
    exact g_zret C (Or.inl rfl) hlk hr (by decide +kernel)
/-! PollBooks.lettersOf(J)I -/
def y_PB_lettersOf : MethodName := ⟨"PollBooks", "lettersOf", "(J)I"⟩
def rm_PB_lettersOf : Room := { frames := 0, cells := 0, slots := 0, locals := 0 }
theorem mw_PB_lettersOf : MW y_PB_lettersOf prog_1_method_60_code 3 (some .int) 1 := ⟨lk_599, lk_1, by decide +kernel⟩
def L_PB_lettersOf_y2 (x0 x2 : Int) (d : Dt) : Option ((Int × Int × Dt) ⊕ ((Int × Dt))) :=
  if x2 < 8 then if (lshr x0 (w32 (5 * x2))) = 0 then some (Sum.inr (x2, d)) else some (Sum.inl (x0, (w32 (x2 + 1)), d)) else some (Sum.inr (x2, d))
def L_PB_lettersOf_l2 (x0 x2 : Int) (d : Dt) : Option ((Int × Dt)) := lpF (fun q : Int × Int × Dt => L_PB_lettersOf_y2 q.1 q.2.1 q.2.2) FU (x0, x2, d)
def L_PB_lettersOf (p1 : Int) (d : Dt) : Option (Int × Dt) :=
  lb (L_PB_lettersOf_l2 p1 0 d) (fun q8_ => u1 q8_ (fun v5_ d6_ => some (v5_, d6_)))
set_option maxHeartbeats 4000000 in
theorem ok_PB_lettersOf_y2 {p : Program} {l : Launch} {e : Env} {s : State} {m : MethodId} {args : Array Value} {below : List Frame} {meth : Method} {c : Code} {D : va_G} {cA : Nat → ClassId} {ad : Nat → Nat} {A : Nat → Prop} (C : Cx p s m args c prog_1_method_60_code 3 "PollBooks" D cA ad 0 A) {Q : State → Prop} {o : (Int × Int × Dt) ⊕ ((Int × Dt))} (x0 x2 : Int) (d : Dt) (hx0 : c64 x0) (hx2 : c32 x2) (h : L_PB_lettersOf_y2 x0 x2 d = some o) (kb : ∀ (y0 y1 : Int) (e' : Dt), o = .inl (y0, y1, e') → c64 y0 → c32 y1 → G p l e rm_PB_lettersOf s m args below meth c 0 0 Q 3 D cA ad 0 A 2 [(1, y0), (9, 0), (0, y1)] [] e') (k0 : ∀ (y0 : Int) (e' : Dt), o = .inr (y0, e') → c32 y0 → G p l e rm_PB_lettersOf s m args below meth c 0 0 Q 3 D cA ad 0 A 24 [(9, 0), (9, 0), (0, y0)] [] e') : G p l e rm_PB_lettersOf s m args below meth c 0 0 Q 3 D cA ad 0 A 2 [(1, x0), (9, 0), (0, x2)] [] d := by
  unfold L_PB_lettersOf_y2 at h
  refine g_iload_n C 2 rfl (by decide +kernel) ?_
  refine g_bipush C 8 (by decide) (by decide +kernel) ?_
  refine g_icmp_ge C (off := 19) (tgt := 24) hx2 (cK rfl) (by decide +kernel) (by decide) (fun hc1_ => ?_) (fun hc1_ => ?_)
  · replace h := ite_t hc1_ h
    refine g_lload_n C 0 rfl (by decide +kernel) ?_
    refine g_iconst C 5 (cK rfl) (by decide +kernel) ?_
    refine g_iload_n C 2 rfl (by decide +kernel) ?_
    refine g_imul C (by decide +kernel) ?_
    refine g_lshr C (by decide +kernel) ?_
    refine g_lconst C 0 (v := 0) (by decide) (by decide +kernel) ?_
    refine g_lc_eq C (off := 9) (tgt := 24) (l_c _) (cL rfl) (by decide +kernel) (by decide +kernel) (by decide) (fun hc2_ => ?_) (fun hc2_ => ?_)
    · replace h := ite_t hc2_ h
      refine g_sub (lo2 := [(9, 0), (9, 0), (0, x2)]) (lsb_c (lsb_c (lsb_v lsb_e))) ?_
      obtain rfl := Option.some.inj h
      exact k0 x2 d rfl hx2
    · replace h := ite_f hc2_ h
      refine s_iinc C 2 1 (lo' := [(1, x0), (9, 0), (0, (w32 (x2 + 1)))]) rfl (by decide) (s1k (s1n (by decide) s1z)) (by decide +kernel) ?_
      refine g_goto C 2 (off := (-19)) (by decide +kernel) (by decide) ?_
      refine g_sub (lo2 := [(1, x0), (9, 0), (0, (w32 (x2 + 1)))]) (lsb_v (lsb_c (lsb_v lsb_e))) ?_
      obtain rfl := Option.some.inj h
      exact kb x0 (w32 (x2 + 1)) d rfl hx0 (w32_c _)
  · replace h := ite_f hc1_ h
    refine g_sub (lo2 := [(9, 0), (9, 0), (0, x2)]) (lsb_c (lsb_c (lsb_v lsb_e))) ?_
    obtain rfl := Option.some.inj h
    exact k0 x2 d rfl hx2
set_option maxHeartbeats 4000000 in
theorem ok_PB_lettersOf_n2 {p : Program} {l : Launch} {e : Env} {s : State} {m : MethodId} {args : Array Value} {below : List Frame} {meth : Method} {c : Code} {D : va_G} {cA : Nat → ClassId} {ad : Nat → Nat} {A : Nat → Prop} (C : Cx p s m args c prog_1_method_60_code 3 "PollBooks" D cA ad 0 A) {Q : State → Prop} {x : (Int × Dt)} : ∀ (n : Nat) (x0 x2 : Int) (d : Dt), c64 x0 → c32 x2 → lpF (fun q : Int × Int × Dt => L_PB_lettersOf_y2 q.1 q.2.1 q.2.2) n (x0, x2, d) = some x → (∀ (y0 : Int) (e' : Dt), x = (y0, e') → c32 y0 → G p l e rm_PB_lettersOf s m args below meth c 0 0 Q 3 D cA ad 0 A 24 [(9, 0), (9, 0), (0, y0)] [] e') → G p l e rm_PB_lettersOf s m args below meth c 0 0 Q 3 D cA ad 0 A 2 [(1, x0), (9, 0), (0, x2)] [] d := by
  intro n
  induction n with
  | zero => intro x0 x2 d g0 g1 h k0; cases h
  | succ n ih =>
    intro x0 x2 d g0 g1 h k0
    rcases lpF_some h with h | ⟨⟨v0_, v1_, e0_⟩, h1, h⟩
    · exact ok_PB_lettersOf_y2 C x0 x2 d g0 g1 h (fun z0_ z1_ e1_ eq w0_ w1_ => by cases eq) (fun z0_ e1_ eq w0_ => k0 _ _ (by cases eq; rfl) w0_)
    · exact ok_PB_lettersOf_y2 C x0 x2 d g0 g1 h1 (fun z0_ z1_ e1_ eq w0_ w1_ => by cases eq; exact ih _ _ _ w0_ w1_ h k0) (fun z0_ e1_ eq w0_ => by cases eq)
set_option maxHeartbeats 4000000 in
theorem ok_PB_lettersOf_l2 {p : Program} {l : Launch} {e : Env} {s : State} {m : MethodId} {args : Array Value} {below : List Frame} {meth : Method} {c : Code} {D : va_G} {cA : Nat → ClassId} {ad : Nat → Nat} {A : Nat → Prop} (C : Cx p s m args c prog_1_method_60_code 3 "PollBooks" D cA ad 0 A) {Q : State → Prop} {x : (Int × Dt)} (x0 x2 : Int) (d : Dt) (hx0 : c64 x0) (hx2 : c32 x2) (h : L_PB_lettersOf_l2 x0 x2 d = some x) (k0 : ∀ (y0 : Int) (e' : Dt), x = (y0, e') → c32 y0 → G p l e rm_PB_lettersOf s m args below meth c 0 0 Q 3 D cA ad 0 A 24 [(9, 0), (9, 0), (0, y0)] [] e') : G p l e rm_PB_lettersOf s m args below meth c 0 0 Q 3 D cA ad 0 A 2 [(1, x0), (9, 0), (0, x2)] [] d :=
  ok_PB_lettersOf_n2 C FU x0 x2 d hx0 hx2 h k0
set_option maxHeartbeats 4000000 in
theorem ok_PB_lettersOf {l : Launch} {r : Int} {d' : Dt} (p1 : Int) (d : Dt) (hp1 : c64 p1) (h : L_PB_lettersOf p1 d = some (r, d')) : MC l y_PB_lettersOf prog_1_method_60_code 3 (some .int) rm_PB_lettersOf 0 [(1, p1)] d (some (0, r)) d' := by
  refine MC.of (by decide) (Nat.le_of_ble_eq_true rfl) ?_
  intro p e s m args below meth c D cA ad A C hlk hr
  replace C : Cx p s m args c prog_1_method_60_code 3 "PollBooks" D cA ad 0 A := C
  show G p l e rm_PB_lettersOf s m args below meth c 0 0 (MQ below (fun _ => QC D cA ad 0 A (some .int) (some (0, r)) d') args s 0 0 A) 3 D cA ad 0 A 0 [(1, p1), (9, 0)] [] d
  refine g_sub (lo2 := [(1, p1), (9, 0), (9, 0)]) (lsb_v (lsb_c (lsb_n lsb_e))) ?_
  unfold L_PB_lettersOf at h
  refine g_iconst C 0 (cK rfl) (by decide +kernel) ?_
  refine s_istore_n C 2 (lo' := [(1, p1), (9, 0), (0, 0)]) (by decide) (s1k (s1n (by decide) s1z)) (by decide +kernel) ?_
  refine g_sub (lo2 := [(1, p1), (9, 0), (0, 0)]) (lsb_v (lsb_c (lsb_v lsb_e))) ?_
  obtain ⟨x3_, hx4_, h⟩ := lb_some h
  refine ok_PB_lettersOf_l2 C p1 0 d hp1 (c32_cb (Or.inl rfl)) hx4_ (fun v5_ d6_ eq7_ hv5_ => ?_)
  subst eq7_
  replace h := u1_e h
  refine g_iload_n C 2 rfl (by decide +kernel) ?_
  obtain ⟨rfl, rfl⟩ := ret_inj h
  exact g_iret C hv5_ hlk hr (by decide +kernel)
/-! PollBooks.lettersApart(JJ[I)I -/
def y_PB_lettersApart : MethodName := ⟨"PollBooks", "lettersApart", "(JJ[I)I"⟩
def rm_PB_lettersApart : Room := { frames := 1, cells := 0, slots := 0, locals := 22 }
theorem mw_PB_lettersApart : MW y_PB_lettersApart prog_1_method_61_code 14 (some .int) 3 := ⟨lk_596, lk_1, by decide +kernel⟩
def L_PB_lettersApart_y23 (arr2 len2 : Nat) (x0 x2 x5 x6 x7 : Int) (d : Dt) : Option ((Int × Int × Int × Int × Int × Dt) ⊕ ((Int × Int × Int × Int × Dt))) :=
  if x6 < x7 then some (Sum.inr (x0, x2, x5, x6, d)) else ck ((0 : Int) ≤ x7 ∧ x7 < (len2 : Int)) (some (Sum.inl (x0, x2, x5, x6, (w32 (x7 + 1)), (up2 d arr2 x7.toNat x7))))
def L_PB_lettersApart_l23 (arr2 len2 : Nat) (x0 x2 x5 x6 x7 : Int) (d : Dt) : Option ((Int × Int × Int × Int × Dt)) := lpF (fun q : Int × Int × Int × Int × Int × Dt => L_PB_lettersApart_y23 arr2 len2 q.1 q.2.1 q.2.2.1 q.2.2.2.1 q.2.2.2.2.1 q.2.2.2.2.2) FU (x0, x2, x5, x6, x7, d)
def L_PB_lettersApart_b128 (arr2 len2 : Nat) (x0 x2 x5 x6 x7 x8 x11 s0 s1 : Int) (d : Dt) : Option ((Int × Int × Int × Int × Int × Int × Int × Int × Dt) ⊕ ((Int × Int × Int × Int × Int × Dt))) :=
  lt_ (w32 (s0 + s1)) (fun v3_ => ck ((0 : Int) ≤ x11 ∧ x11 < (len2 : Int)) (lt_ (d arr2 x11.toNat) (fun v8_ => ck ((0 : Int) ≤ x11 ∧ x11 < (len2 : Int)) (ck ((0 : Int) ≤ (w32 (x11 - 1)) ∧ (w32 (x11 - 1)) < (len2 : Int)) (ck ((0 : Int) ≤ x11 ∧ x11 < (len2 : Int)) (some (Sum.inl (x0, x2, x5, x6, x7, x8, v8_, (w32 (x11 + 1)), (up2 d arr2 x11.toNat (jmin v3_ (w32 ((jmin (d arr2 x11.toNat) (d arr2 ((w32 (x11 - 1))).toNat)) + 1))))))))))))
def L_PB_lettersApart_b114 (arr2 len2 : Nat) (x0 x2 x5 x6 x7 x8 x10 x11 s0 : Int) (d : Dt) : Option ((Int × Int × Int × Int × Int × Int × Int × Int × Dt) ⊕ ((Int × Int × Int × Int × Int × Dt))) :=
  if s0 = 0 then L_PB_lettersApart_b128 arr2 len2 x0 x2 x5 x6 x7 x8 x11 x10 1 d else L_PB_lettersApart_b128 arr2 len2 x0 x2 x5 x6 x7 x8 x11 x10 0 d
def L_PB_lettersApart_y83 (arr2 len2 : Nat) (x0 x2 x5 x6 x7 x8 x10 x11 : Int) (d : Dt) : Option ((Int × Int × Int × Int × Int × Int × Int × Int × Dt) ⊕ ((Int × Int × Int × Int × Int × Dt))) :=
  if x6 < x11 then some (Sum.inr (x0, x2, x5, x6, x7, d)) else if x8 = (land (lshr x2 (w32 (5 * (w32 (x6 - x11))))) 31) then L_PB_lettersApart_b114 arr2 len2 x0 x2 x5 x6 x7 x8 x10 x11 1 d else L_PB_lettersApart_b114 arr2 len2 x0 x2 x5 x6 x7 x8 x10 x11 0 d
def L_PB_lettersApart_l83 (arr2 len2 : Nat) (x0 x2 x5 x6 x7 x8 x10 x11 : Int) (d : Dt) : Option ((Int × Int × Int × Int × Int × Dt)) := lpF (fun q : Int × Int × Int × Int × Int × Int × Int × Int × Dt => L_PB_lettersApart_y83 arr2 len2 q.1 q.2.1 q.2.2.1 q.2.2.2.1 q.2.2.2.2.1 q.2.2.2.2.2.1 q.2.2.2.2.2.2.1 q.2.2.2.2.2.2.2.1 q.2.2.2.2.2.2.2.2) FU (x0, x2, x5, x6, x7, x8, x10, x11, d)
def L_PB_lettersApart_y46 (arr2 len2 : Nat) (x0 x2 x5 x6 x7 : Int) (d : Dt) : Option ((Int × Int × Int × Int × Int × Dt) ⊕ ((Int × Dt))) :=
  if x5 < x7 then some (Sum.inr (x6, d)) else lt_ (land (lshr x0 (w32 (5 * (w32 (x5 - x7))))) 31) (fun v20_ => ck ((0 : Int) ≤ 0 ∧ 0 < (len2 : Int)) (lt_ (d arr2 0) (fun v25_ => ck ((0 : Int) ≤ 0 ∧ 0 < (len2 : Int)) (lb (L_PB_lettersApart_l83 arr2 len2 x0 x2 x5 x6 x7 v20_ v25_ 1 (up2 d arr2 0 x7)) (fun q38_ => u5 q38_ (fun v31_ v32_ v33_ v34_ v35_ d36_ => some (Sum.inl (v31_, v32_, v33_, v34_, (w32 (v35_ + 1)), d36_))))))))
def L_PB_lettersApart_l46 (arr2 len2 : Nat) (x0 x2 x5 x6 x7 : Int) (d : Dt) : Option ((Int × Dt)) := lpF (fun q : Int × Int × Int × Int × Int × Dt => L_PB_lettersApart_y46 arr2 len2 q.1 q.2.1 q.2.2.1 q.2.2.2.1 q.2.2.2.2.1 q.2.2.2.2.2) FU (x0, x2, x5, x6, x7, d)
def L_PB_lettersApart (arr2 len2 : Nat) (p1 p2 : Int) (d : Dt) : Option (Int × Dt) :=
  bd (L_PB_lettersOf p1 d) (fun r40_ d39_ => bd (L_PB_lettersOf p2 d39_) (fun r44_ d43_ => ck (len2 < 100000) (lt_ (jmin r44_ (w32 ((len2 : Int) - 1))) (fun v48_ => lb (L_PB_lettersApart_l23 arr2 len2 p1 p2 r40_ v48_ 0 d43_) (fun q67_ => u4 q67_ (fun v53_ v54_ v55_ v56_ d57_ => lb (L_PB_lettersApart_l46 arr2 len2 v53_ v54_ v55_ v56_ 1 d57_) (fun q66_ => u1 q66_ (fun v61_ d62_ => ck ((0 : Int) ≤ v61_ ∧ v61_ < (len2 : Int)) (some ((d62_ arr2 v61_.toNat), d62_))))))))))
set_option maxHeartbeats 4000000 in
theorem ok_PB_lettersApart_y23 {p : Program} {l : Launch} {e : Env} {s : State} {m : MethodId} {args : Array Value} {below : List Frame} {meth : Method} {c : Code} {D : va_G} {cA : Nat → ClassId} {ad : Nat → Nat} {A : Nat → Prop} (C : Cx p s m args c prog_1_method_61_code 14 "PollBooks" D cA ad 0 A) {Q : State → Prop} (arr2 len2 : Nat) (harr2 : cd 0 arr2 = (20, len2)) (barr2 : arr2 < 79) {o : (Int × Int × Int × Int × Int × Dt) ⊕ ((Int × Int × Int × Int × Dt))} (x0 x2 x5 x6 x7 : Int) (d : Dt) (hx0 : c64 x0) (hx2 : c64 x2) (hx5 : c32 x5) (hx6 : c32 x6) (hx7 : c32 x7) (h : L_PB_lettersApart_y23 arr2 len2 x0 x2 x5 x6 x7 d = some o) (kb : ∀ (y0 y1 y2 y3 y4 : Int) (e' : Dt), o = .inl (y0, y1, y2, y3, y4, e') → c64 y0 → c64 y1 → c32 y2 → c32 y3 → c32 y4 → G p l e rm_PB_lettersApart s m args below meth c 0 0 Q 14 D cA ad 0 A 23 [(1, y0), (9, 0), (1, y1), (9, 0), (2, (arr2 : Int)), (0, y2), (0, y3), (0, y4), (9, 0), (9, 0), (9, 0), (9, 0), (9, 0), (9, 0)] [] e') (k0 : ∀ (y0 y1 y2 y3 : Int) (e' : Dt), o = .inr (y0, y1, y2, y3, e') → c64 y0 → c64 y1 → c32 y2 → c32 y3 → G p l e rm_PB_lettersApart s m args below meth c 0 0 Q 14 D cA ad 0 A 43 [(1, y0), (9, 0), (1, y1), (9, 0), (2, (arr2 : Int)), (0, y2), (0, y3), (9, 0), (9, 0), (9, 0), (9, 0), (9, 0), (9, 0), (9, 0)] [] e') : G p l e rm_PB_lettersApart s m args below meth c 0 0 Q 14 D cA ad 0 A 23 [(1, x0), (9, 0), (1, x2), (9, 0), (2, (arr2 : Int)), (0, x5), (0, x6), (0, x7), (9, 0), (9, 0), (9, 0), (9, 0), (9, 0), (9, 0)] [] d := by
  unfold L_PB_lettersApart_y23 at h
  refine g_iload C 7 rfl (by decide +kernel) ?_
  refine g_iload C 6 rfl (by decide +kernel) ?_
  refine g_icmp_gt C (off := 16) (tgt := 43) hx7 hx6 (by decide +kernel) (by decide) (fun hc1_ => ?_) (fun hc1_ => ?_)
  · replace h := ite_t hc1_ h
    refine g_sub (lo2 := [(1, x0), (9, 0), (1, x2), (9, 0), (2, (arr2 : Int)), (0, x5), (0, x6), (9, 0), (9, 0), (9, 0), (9, 0), (9, 0), (9, 0), (9, 0)]) (lsb_v (lsb_c (lsb_v (lsb_c (lsb_v (lsb_v (lsb_v (lsb_c (lsb_c (lsb_c (lsb_c (lsb_c (lsb_c (lsb_c lsb_e)))))))))))))) ?_
    obtain rfl := Option.some.inj h
    exact k0 x0 x2 x5 x6 d rfl hx0 hx2 hx5 hx6
  · replace h := ite_f hc1_ h
    refine g_aload C 4 rfl (by decide +kernel) ?_
    refine g_iload C 7 rfl (by decide +kernel) ?_
    refine g_iload C 7 rfl (by decide +kernel) ?_
    obtain ⟨hb2_, h⟩ := ck_some h
    refine g_iast C arr2 hx7 hx7 rfl harr2 (nA barr2) hb2_ (by decide +kernel) ?_
    refine s_iinc C 7 1 (lo' := [(1, x0), (9, 0), (1, x2), (9, 0), (2, (arr2 : Int)), (0, x5), (0, x6), (0, (w32 (x7 + 1))), (9, 0), (9, 0), (9, 0), (9, 0), (9, 0), (9, 0)]) rfl (by decide) (s1k (s1k (s1k (s1k (s1k (s1k (s1n (by decide) s1z))))))) (by decide +kernel) ?_
    refine g_goto C 23 (off := (-17)) (by decide +kernel) (by decide) ?_
    refine g_sub (lo2 := [(1, x0), (9, 0), (1, x2), (9, 0), (2, (arr2 : Int)), (0, x5), (0, x6), (0, (w32 (x7 + 1))), (9, 0), (9, 0), (9, 0), (9, 0), (9, 0), (9, 0)]) (lsb_v (lsb_c (lsb_v (lsb_c (lsb_v (lsb_v (lsb_v (lsb_v (lsb_c (lsb_c (lsb_c (lsb_c (lsb_c (lsb_c lsb_e)))))))))))))) ?_
    obtain rfl := Option.some.inj h
    exact kb x0 x2 x5 x6 (w32 (x7 + 1)) (up2 d arr2 x7.toNat x7) rfl hx0 hx2 hx5 hx6 (w32_c _)
set_option maxHeartbeats 4000000 in
theorem ok_PB_lettersApart_n23 {p : Program} {l : Launch} {e : Env} {s : State} {m : MethodId} {args : Array Value} {below : List Frame} {meth : Method} {c : Code} {D : va_G} {cA : Nat → ClassId} {ad : Nat → Nat} {A : Nat → Prop} (C : Cx p s m args c prog_1_method_61_code 14 "PollBooks" D cA ad 0 A) {Q : State → Prop} (arr2 len2 : Nat) (harr2 : cd 0 arr2 = (20, len2)) (barr2 : arr2 < 79) {x : (Int × Int × Int × Int × Dt)} : ∀ (n : Nat) (x0 x2 x5 x6 x7 : Int) (d : Dt), c64 x0 → c64 x2 → c32 x5 → c32 x6 → c32 x7 → lpF (fun q : Int × Int × Int × Int × Int × Dt => L_PB_lettersApart_y23 arr2 len2 q.1 q.2.1 q.2.2.1 q.2.2.2.1 q.2.2.2.2.1 q.2.2.2.2.2) n (x0, x2, x5, x6, x7, d) = some x → (∀ (y0 y1 y2 y3 : Int) (e' : Dt), x = (y0, y1, y2, y3, e') → c64 y0 → c64 y1 → c32 y2 → c32 y3 → G p l e rm_PB_lettersApart s m args below meth c 0 0 Q 14 D cA ad 0 A 43 [(1, y0), (9, 0), (1, y1), (9, 0), (2, (arr2 : Int)), (0, y2), (0, y3), (9, 0), (9, 0), (9, 0), (9, 0), (9, 0), (9, 0), (9, 0)] [] e') → G p l e rm_PB_lettersApart s m args below meth c 0 0 Q 14 D cA ad 0 A 23 [(1, x0), (9, 0), (1, x2), (9, 0), (2, (arr2 : Int)), (0, x5), (0, x6), (0, x7), (9, 0), (9, 0), (9, 0), (9, 0), (9, 0), (9, 0)] [] d := by
  intro n
  induction n with
  | zero => intro x0 x2 x5 x6 x7 d g0 g1 g2 g3 g4 h k0; cases h
  | succ n ih =>
    intro x0 x2 x5 x6 x7 d g0 g1 g2 g3 g4 h k0
    rcases lpF_some h with h | ⟨⟨v0_, v1_, v2_, v3_, v4_, e0_⟩, h1, h⟩
    · exact ok_PB_lettersApart_y23 C arr2 len2 harr2 barr2 x0 x2 x5 x6 x7 d g0 g1 g2 g3 g4 h (fun z0_ z1_ z2_ z3_ z4_ e1_ eq w0_ w1_ w2_ w3_ w4_ => by cases eq) (fun z0_ z1_ z2_ z3_ e1_ eq w0_ w1_ w2_ w3_ => k0 _ _ _ _ _ (by cases eq; rfl) w0_ w1_ w2_ w3_)
    · exact ok_PB_lettersApart_y23 C arr2 len2 harr2 barr2 x0 x2 x5 x6 x7 d g0 g1 g2 g3 g4 h1 (fun z0_ z1_ z2_ z3_ z4_ e1_ eq w0_ w1_ w2_ w3_ w4_ => by cases eq; exact ih _ _ _ _ _ _ w0_ w1_ w2_ w3_ w4_ h k0) (fun z0_ z1_ z2_ z3_ e1_ eq w0_ w1_ w2_ w3_ => by cases eq)
set_option maxHeartbeats 4000000 in
theorem ok_PB_lettersApart_l23 {p : Program} {l : Launch} {e : Env} {s : State} {m : MethodId} {args : Array Value} {below : List Frame} {meth : Method} {c : Code} {D : va_G} {cA : Nat → ClassId} {ad : Nat → Nat} {A : Nat → Prop} (C : Cx p s m args c prog_1_method_61_code 14 "PollBooks" D cA ad 0 A) {Q : State → Prop} (arr2 len2 : Nat) (harr2 : cd 0 arr2 = (20, len2)) (barr2 : arr2 < 79) {x : (Int × Int × Int × Int × Dt)} (x0 x2 x5 x6 x7 : Int) (d : Dt) (hx0 : c64 x0) (hx2 : c64 x2) (hx5 : c32 x5) (hx6 : c32 x6) (hx7 : c32 x7) (h : L_PB_lettersApart_l23 arr2 len2 x0 x2 x5 x6 x7 d = some x) (k0 : ∀ (y0 y1 y2 y3 : Int) (e' : Dt), x = (y0, y1, y2, y3, e') → c64 y0 → c64 y1 → c32 y2 → c32 y3 → G p l e rm_PB_lettersApart s m args below meth c 0 0 Q 14 D cA ad 0 A 43 [(1, y0), (9, 0), (1, y1), (9, 0), (2, (arr2 : Int)), (0, y2), (0, y3), (9, 0), (9, 0), (9, 0), (9, 0), (9, 0), (9, 0), (9, 0)] [] e') : G p l e rm_PB_lettersApart s m args below meth c 0 0 Q 14 D cA ad 0 A 23 [(1, x0), (9, 0), (1, x2), (9, 0), (2, (arr2 : Int)), (0, x5), (0, x6), (0, x7), (9, 0), (9, 0), (9, 0), (9, 0), (9, 0), (9, 0)] [] d :=
  ok_PB_lettersApart_n23 C arr2 len2 harr2 barr2 FU x0 x2 x5 x6 x7 d hx0 hx2 hx5 hx6 hx7 h k0
set_option maxHeartbeats 4000000 in
theorem ok_PB_lettersApart_b128 {p : Program} {l : Launch} {e : Env} {s : State} {m : MethodId} {args : Array Value} {below : List Frame} {meth : Method} {c : Code} {D : va_G} {cA : Nat → ClassId} {ad : Nat → Nat} {A : Nat → Prop} (C : Cx p s m args c prog_1_method_61_code 14 "PollBooks" D cA ad 0 A) {Q : State → Prop} (arr2 len2 : Nat) (harr2 : cd 0 arr2 = (20, len2)) (barr2 : arr2 < 79) {o : (Int × Int × Int × Int × Int × Int × Int × Int × Dt) ⊕ ((Int × Int × Int × Int × Int × Dt))} (x0 x2 x5 x6 x7 x8 x11 s0 s1 : Int) (d : Dt) (hx0 : c64 x0) (hx2 : c64 x2) (hx5 : c32 x5) (hx6 : c32 x6) (hx7 : c32 x7) (hx8 : c64 x8) (hx11 : c32 x11) (hs0 : c32 s0) (hs1 : cb s1) (h : L_PB_lettersApart_b128 arr2 len2 x0 x2 x5 x6 x7 x8 x11 s0 s1 d = some o) (kb : ∀ (y0 y1 y2 y3 y4 y5 y6 y7 : Int) (e' : Dt), o = .inl (y0, y1, y2, y3, y4, y5, y6, y7, e') → c64 y0 → c64 y1 → c32 y2 → c32 y3 → c32 y4 → c64 y5 → c32 y6 → c32 y7 → G p l e rm_PB_lettersApart s m args below meth c 0 0 Q 14 D cA ad 0 A 83 [(1, y0), (9, 0), (1, y1), (9, 0), (2, (arr2 : Int)), (0, y2), (0, y3), (0, y4), (1, y5), (9, 0), (0, y6), (0, y7), (9, 0), (9, 0)] [] e') (k0 : ∀ (y0 y1 y2 y3 y4 : Int) (e' : Dt), o = .inr (y0, y1, y2, y3, y4, e') → c64 y0 → c64 y1 → c32 y2 → c32 y3 → c32 y4 → G p l e rm_PB_lettersApart s m args below meth c 0 0 Q 14 D cA ad 0 A 171 [(1, y0), (9, 0), (1, y1), (9, 0), (2, (arr2 : Int)), (0, y2), (0, y3), (0, y4), (9, 0), (9, 0), (9, 0), (9, 0), (9, 0), (9, 0)] [] e') : G p l e rm_PB_lettersApart s m args below meth c 0 0 Q 14 D cA ad 0 A 128 [(1, x0), (9, 0), (1, x2), (9, 0), (2, (arr2 : Int)), (0, x5), (0, x6), (0, x7), (1, x8), (9, 0), (9, 0), (0, x11), (9, 0), (9, 0)] [(0, s1), (0, s0)] d := by
  unfold L_PB_lettersApart_b128 at h
  refine g_iadd C (by decide +kernel) ?_
  obtain ⟨v3_, ev4_, h⟩ := lt_some h
  refine g_val ev4_.symm ?_
  have hv5_ : c32 v3_ := by rw [ev4_]; exact (w32_c _)
  refine s_istore C 13 (lo' := [(1, x0), (9, 0), (1, x2), (9, 0), (2, (arr2 : Int)), (0, x5), (0, x6), (0, x7), (1, x8), (9, 0), (9, 0), (0, x11), (9, 0), (0, v3_)]) (by decide) (s1k (s1k (s1k (s1k (s1k (s1k (s1k (s1k (s1k (s1k (s1k (s1k (s1n (by decide) s1z))))))))))))) (by decide +kernel) ?_
  refine g_aload C 4 rfl (by decide +kernel) ?_
  refine g_iload C 11 rfl (by decide +kernel) ?_
  obtain ⟨hb6_, h⟩ := ck_some h
  refine g_iald C arr2 hx11 rfl harr2 (nA barr2) hb6_ (by decide +kernel) (fun hc7_ => ?_)
  obtain ⟨v8_, ev9_, h⟩ := lt_some h
  refine g_val ev9_.symm ?_
  have hv10_ : c32 v8_ := by rw [ev9_]; exact hc7_
  refine s_istore C 10 (lo' := [(1, x0), (9, 0), (1, x2), (9, 0), (2, (arr2 : Int)), (0, x5), (0, x6), (0, x7), (1, x8), (9, 0), (0, v8_), (0, x11), (9, 0), (0, v3_)]) (by decide) (s1k (s1k (s1k (s1k (s1k (s1k (s1k (s1k (s1k (s1n (by decide) s1z)))))))))) (by decide +kernel) ?_
  refine g_aload C 4 rfl (by decide +kernel) ?_
  refine g_iload C 11 rfl (by decide +kernel) ?_
  refine g_iload C 13 rfl (by decide +kernel) ?_
  refine g_aload C 4 rfl (by decide +kernel) ?_
  refine g_iload C 11 rfl (by decide +kernel) ?_
  obtain ⟨hb11_, h⟩ := ck_some h
  refine g_iald C arr2 hx11 rfl harr2 (nA barr2) hb11_ (by decide +kernel) (fun hc12_ => ?_)
  refine g_aload C 4 rfl (by decide +kernel) ?_
  refine g_iload C 11 rfl (by decide +kernel) ?_
  refine g_iconst C 1 (cK rfl) (by decide +kernel) ?_
  refine g_isub C (by decide +kernel) ?_
  obtain ⟨hb13_, h⟩ := ck_some h
  refine g_iald C arr2 (w32_c _) rfl harr2 (nA barr2) hb13_ (by decide +kernel) (fun hc14_ => ?_)
  refine g_mmin C hc12_ hc14_ (ix := 452) lk_600 lk_601 lk_16 lk_602 ⟨Nat.le_of_ble_eq_true rfl, Nat.le_of_ble_eq_true rfl, Nat.zero_le _, Nat.zero_le _⟩ (Nat.le_of_ble_eq_true rfl) (by decide +kernel) ?_
  refine g_iconst C 1 (cK rfl) (by decide +kernel) ?_
  refine g_iadd C (by decide +kernel) ?_
  refine g_mmin C hv5_ (w32_c _) (ix := 452) lk_600 lk_601 lk_16 lk_602 ⟨Nat.le_of_ble_eq_true rfl, Nat.le_of_ble_eq_true rfl, Nat.zero_le _, Nat.zero_le _⟩ (Nat.le_of_ble_eq_true rfl) (by decide +kernel) ?_
  obtain ⟨hb15_, h⟩ := ck_some h
  refine g_iast C arr2 (jmin_c hv5_ (w32_c _)) hx11 rfl harr2 (nA barr2) hb15_ (by decide +kernel) ?_
  refine s_iinc C 11 1 (lo' := [(1, x0), (9, 0), (1, x2), (9, 0), (2, (arr2 : Int)), (0, x5), (0, x6), (0, x7), (1, x8), (9, 0), (0, v8_), (0, (w32 (x11 + 1))), (9, 0), (0, v3_)]) rfl (by decide) (s1k (s1k (s1k (s1k (s1k (s1k (s1k (s1k (s1k (s1k (s1n (by decide) s1z))))))))))) (by decide +kernel) ?_
  refine g_goto C 83 (off := (-85)) (by decide +kernel) (by decide) ?_
  refine g_sub (lo2 := [(1, x0), (9, 0), (1, x2), (9, 0), (2, (arr2 : Int)), (0, x5), (0, x6), (0, x7), (1, x8), (9, 0), (0, v8_), (0, (w32 (x11 + 1))), (9, 0), (9, 0)]) (lsb_v (lsb_c (lsb_v (lsb_c (lsb_v (lsb_v (lsb_v (lsb_v (lsb_v (lsb_c (lsb_v (lsb_v (lsb_c (lsb_c lsb_e)))))))))))))) ?_
  obtain rfl := Option.some.inj h
  exact kb x0 x2 x5 x6 x7 x8 v8_ (w32 (x11 + 1)) (up2 d arr2 x11.toNat (jmin v3_ (w32 ((jmin (d arr2 x11.toNat) (d arr2 ((w32 (x11 - 1))).toNat)) + 1)))) rfl hx0 hx2 hx5 hx6 hx7 hx8 hv10_ (w32_c _)
set_option maxHeartbeats 4000000 in
theorem ok_PB_lettersApart_b114 {p : Program} {l : Launch} {e : Env} {s : State} {m : MethodId} {args : Array Value} {below : List Frame} {meth : Method} {c : Code} {D : va_G} {cA : Nat → ClassId} {ad : Nat → Nat} {A : Nat → Prop} (C : Cx p s m args c prog_1_method_61_code 14 "PollBooks" D cA ad 0 A) {Q : State → Prop} (arr2 len2 : Nat) (harr2 : cd 0 arr2 = (20, len2)) (barr2 : arr2 < 79) {o : (Int × Int × Int × Int × Int × Int × Int × Int × Dt) ⊕ ((Int × Int × Int × Int × Int × Dt))} (x0 x2 x5 x6 x7 x8 x10 x11 s0 : Int) (d : Dt) (hx0 : c64 x0) (hx2 : c64 x2) (hx5 : c32 x5) (hx6 : c32 x6) (hx7 : c32 x7) (hx8 : c64 x8) (hx10 : c32 x10) (hx11 : c32 x11) (hs0 : cb s0) (h : L_PB_lettersApart_b114 arr2 len2 x0 x2 x5 x6 x7 x8 x10 x11 s0 d = some o) (kb : ∀ (y0 y1 y2 y3 y4 y5 y6 y7 : Int) (e' : Dt), o = .inl (y0, y1, y2, y3, y4, y5, y6, y7, e') → c64 y0 → c64 y1 → c32 y2 → c32 y3 → c32 y4 → c64 y5 → c32 y6 → c32 y7 → G p l e rm_PB_lettersApart s m args below meth c 0 0 Q 14 D cA ad 0 A 83 [(1, y0), (9, 0), (1, y1), (9, 0), (2, (arr2 : Int)), (0, y2), (0, y3), (0, y4), (1, y5), (9, 0), (0, y6), (0, y7), (9, 0), (9, 0)] [] e') (k0 : ∀ (y0 y1 y2 y3 y4 : Int) (e' : Dt), o = .inr (y0, y1, y2, y3, y4, e') → c64 y0 → c64 y1 → c32 y2 → c32 y3 → c32 y4 → G p l e rm_PB_lettersApart s m args below meth c 0 0 Q 14 D cA ad 0 A 171 [(1, y0), (9, 0), (1, y1), (9, 0), (2, (arr2 : Int)), (0, y2), (0, y3), (0, y4), (9, 0), (9, 0), (9, 0), (9, 0), (9, 0), (9, 0)] [] e') : G p l e rm_PB_lettersApart s m args below meth c 0 0 Q 14 D cA ad 0 A 114 [(1, x0), (9, 0), (1, x2), (9, 0), (2, (arr2 : Int)), (0, x5), (0, x6), (0, x7), (1, x8), (9, 0), (0, x10), (0, x11), (9, 0), (9, 0)] [(0, s0)] d := by
  unfold L_PB_lettersApart_b114 at h
  refine s_istore C 12 (lo' := [(1, x0), (9, 0), (1, x2), (9, 0), (2, (arr2 : Int)), (0, x5), (0, x6), (0, x7), (1, x8), (9, 0), (0, x10), (0, x11), (0, s0), (9, 0)]) (by decide) (s1k (s1k (s1k (s1k (s1k (s1k (s1k (s1k (s1k (s1k (s1k (s1n (by decide) s1z)))))))))))) (by decide +kernel) ?_
  refine g_iload C 10 rfl (by decide +kernel) ?_
  refine g_iload C 12 rfl (by decide +kernel) ?_
  refine g_if_eq C (off := 7) (tgt := 127) (c32_cb hs0) (by decide +kernel) (by decide) (fun hc16_ => ?_) (fun hc16_ => ?_)
  · replace h := ite_t hc16_ h
    refine g_iconst C 1 (cK rfl) (by decide +kernel) ?_
    refine g_sub (lo2 := [(1, x0), (9, 0), (1, x2), (9, 0), (2, (arr2 : Int)), (0, x5), (0, x6), (0, x7), (1, x8), (9, 0), (9, 0), (0, x11), (9, 0), (9, 0)]) (lsb_v (lsb_c (lsb_v (lsb_c (lsb_v (lsb_v (lsb_v (lsb_v (lsb_v (lsb_c (lsb_c (lsb_v (lsb_c (lsb_c lsb_e)))))))))))))) ?_
    exact ok_PB_lettersApart_b128 C arr2 len2 harr2 barr2 x0 x2 x5 x6 x7 x8 x11 x10 1 d hx0 hx2 hx5 hx6 hx7 hx8 hx11 hx10 (Or.inr rfl) h kb k0
  · replace h := ite_f hc16_ h
    refine g_iconst C 0 (cK rfl) (by decide +kernel) ?_
    refine g_goto C 128 (off := 4) (by decide +kernel) (by decide) ?_
    refine g_sub (lo2 := [(1, x0), (9, 0), (1, x2), (9, 0), (2, (arr2 : Int)), (0, x5), (0, x6), (0, x7), (1, x8), (9, 0), (9, 0), (0, x11), (9, 0), (9, 0)]) (lsb_v (lsb_c (lsb_v (lsb_c (lsb_v (lsb_v (lsb_v (lsb_v (lsb_v (lsb_c (lsb_c (lsb_v (lsb_c (lsb_c lsb_e)))))))))))))) ?_
    exact ok_PB_lettersApart_b128 C arr2 len2 harr2 barr2 x0 x2 x5 x6 x7 x8 x11 x10 0 d hx0 hx2 hx5 hx6 hx7 hx8 hx11 hx10 (Or.inl rfl) h kb k0
set_option maxHeartbeats 4000000 in
theorem ok_PB_lettersApart_y83 {p : Program} {l : Launch} {e : Env} {s : State} {m : MethodId} {args : Array Value} {below : List Frame} {meth : Method} {c : Code} {D : va_G} {cA : Nat → ClassId} {ad : Nat → Nat} {A : Nat → Prop} (C : Cx p s m args c prog_1_method_61_code 14 "PollBooks" D cA ad 0 A) {Q : State → Prop} (arr2 len2 : Nat) (harr2 : cd 0 arr2 = (20, len2)) (barr2 : arr2 < 79) {o : (Int × Int × Int × Int × Int × Int × Int × Int × Dt) ⊕ ((Int × Int × Int × Int × Int × Dt))} (x0 x2 x5 x6 x7 x8 x10 x11 : Int) (d : Dt) (hx0 : c64 x0) (hx2 : c64 x2) (hx5 : c32 x5) (hx6 : c32 x6) (hx7 : c32 x7) (hx8 : c64 x8) (hx10 : c32 x10) (hx11 : c32 x11) (h : L_PB_lettersApart_y83 arr2 len2 x0 x2 x5 x6 x7 x8 x10 x11 d = some o) (kb : ∀ (y0 y1 y2 y3 y4 y5 y6 y7 : Int) (e' : Dt), o = .inl (y0, y1, y2, y3, y4, y5, y6, y7, e') → c64 y0 → c64 y1 → c32 y2 → c32 y3 → c32 y4 → c64 y5 → c32 y6 → c32 y7 → G p l e rm_PB_lettersApart s m args below meth c 0 0 Q 14 D cA ad 0 A 83 [(1, y0), (9, 0), (1, y1), (9, 0), (2, (arr2 : Int)), (0, y2), (0, y3), (0, y4), (1, y5), (9, 0), (0, y6), (0, y7), (9, 0), (9, 0)] [] e') (k0 : ∀ (y0 y1 y2 y3 y4 : Int) (e' : Dt), o = .inr (y0, y1, y2, y3, y4, e') → c64 y0 → c64 y1 → c32 y2 → c32 y3 → c32 y4 → G p l e rm_PB_lettersApart s m args below meth c 0 0 Q 14 D cA ad 0 A 171 [(1, y0), (9, 0), (1, y1), (9, 0), (2, (arr2 : Int)), (0, y2), (0, y3), (0, y4), (9, 0), (9, 0), (9, 0), (9, 0), (9, 0), (9, 0)] [] e') : G p l e rm_PB_lettersApart s m args below meth c 0 0 Q 14 D cA ad 0 A 83 [(1, x0), (9, 0), (1, x2), (9, 0), (2, (arr2 : Int)), (0, x5), (0, x6), (0, x7), (1, x8), (9, 0), (0, x10), (0, x11), (9, 0), (9, 0)] [] d := by
  unfold L_PB_lettersApart_y83 at h
  refine g_iload C 11 rfl (by decide +kernel) ?_
  refine g_iload C 6 rfl (by decide +kernel) ?_
  refine g_icmp_gt C (off := 84) (tgt := 171) hx11 hx6 (by decide +kernel) (by decide) (fun hc17_ => ?_) (fun hc17_ => ?_)
  · replace h := ite_t hc17_ h
    refine g_sub (lo2 := [(1, x0), (9, 0), (1, x2), (9, 0), (2, (arr2 : Int)), (0, x5), (0, x6), (0, x7), (9, 0), (9, 0), (9, 0), (9, 0), (9, 0), (9, 0)]) (lsb_v (lsb_c (lsb_v (lsb_c (lsb_v (lsb_v (lsb_v (lsb_v (lsb_c (lsb_c (lsb_c (lsb_c (lsb_c (lsb_c lsb_e)))))))))))))) ?_
    obtain rfl := Option.some.inj h
    exact k0 x0 x2 x5 x6 x7 d rfl hx0 hx2 hx5 hx6 hx7
  · replace h := ite_f hc17_ h
    refine g_lload C 8 rfl (by decide +kernel) ?_
    refine g_lload_n C 2 rfl (by decide +kernel) ?_
    refine g_iconst C 5 (cK rfl) (by decide +kernel) ?_
    refine g_iload C 6 rfl (by decide +kernel) ?_
    refine g_iload C 11 rfl (by decide +kernel) ?_
    refine g_isub C (by decide +kernel) ?_
    refine g_imul C (by decide +kernel) ?_
    refine g_lshr C (by decide +kernel) ?_
    refine g_ldc2 C (ix := 444) (v := 31) lk_592 (by decide +kernel) ?_
    refine g_land C (by decide +kernel) ?_
    refine g_lc_ne C (off := 7) (tgt := 113) hx8 (l_c _) (by decide +kernel) (by decide +kernel) (by decide) (fun hc18_ => ?_) (fun hc18_ => ?_)
    · replace h := ite_t hc18_ h
      refine g_iconst C 1 (cK rfl) (by decide +kernel) ?_
      refine g_goto C 114 (off := 4) (by decide +kernel) (by decide) ?_
      refine g_sub (lo2 := [(1, x0), (9, 0), (1, x2), (9, 0), (2, (arr2 : Int)), (0, x5), (0, x6), (0, x7), (1, x8), (9, 0), (0, x10), (0, x11), (9, 0), (9, 0)]) (lsb_v (lsb_c (lsb_v (lsb_c (lsb_v (lsb_v (lsb_v (lsb_v (lsb_v (lsb_c (lsb_v (lsb_v (lsb_c (lsb_c lsb_e)))))))))))))) ?_
      exact ok_PB_lettersApart_b114 C arr2 len2 harr2 barr2 x0 x2 x5 x6 x7 x8 x10 x11 1 d hx0 hx2 hx5 hx6 hx7 hx8 hx10 hx11 (Or.inr rfl) h kb k0
    · replace h := ite_f hc18_ h
      refine g_iconst C 0 (cK rfl) (by decide +kernel) ?_
      refine g_sub (lo2 := [(1, x0), (9, 0), (1, x2), (9, 0), (2, (arr2 : Int)), (0, x5), (0, x6), (0, x7), (1, x8), (9, 0), (0, x10), (0, x11), (9, 0), (9, 0)]) (lsb_v (lsb_c (lsb_v (lsb_c (lsb_v (lsb_v (lsb_v (lsb_v (lsb_v (lsb_c (lsb_v (lsb_v (lsb_c (lsb_c lsb_e)))))))))))))) ?_
      exact ok_PB_lettersApart_b114 C arr2 len2 harr2 barr2 x0 x2 x5 x6 x7 x8 x10 x11 0 d hx0 hx2 hx5 hx6 hx7 hx8 hx10 hx11 (Or.inl rfl) h kb k0
set_option maxHeartbeats 4000000 in
theorem ok_PB_lettersApart_n83 {p : Program} {l : Launch} {e : Env} {s : State} {m : MethodId} {args : Array Value} {below : List Frame} {meth : Method} {c : Code} {D : va_G} {cA : Nat → ClassId} {ad : Nat → Nat} {A : Nat → Prop} (C : Cx p s m args c prog_1_method_61_code 14 "PollBooks" D cA ad 0 A) {Q : State → Prop} (arr2 len2 : Nat) (harr2 : cd 0 arr2 = (20, len2)) (barr2 : arr2 < 79) {x : (Int × Int × Int × Int × Int × Dt)} : ∀ (n : Nat) (x0 x2 x5 x6 x7 x8 x10 x11 : Int) (d : Dt), c64 x0 → c64 x2 → c32 x5 → c32 x6 → c32 x7 → c64 x8 → c32 x10 → c32 x11 → lpF (fun q : Int × Int × Int × Int × Int × Int × Int × Int × Dt => L_PB_lettersApart_y83 arr2 len2 q.1 q.2.1 q.2.2.1 q.2.2.2.1 q.2.2.2.2.1 q.2.2.2.2.2.1 q.2.2.2.2.2.2.1 q.2.2.2.2.2.2.2.1 q.2.2.2.2.2.2.2.2) n (x0, x2, x5, x6, x7, x8, x10, x11, d) = some x → (∀ (y0 y1 y2 y3 y4 : Int) (e' : Dt), x = (y0, y1, y2, y3, y4, e') → c64 y0 → c64 y1 → c32 y2 → c32 y3 → c32 y4 → G p l e rm_PB_lettersApart s m args below meth c 0 0 Q 14 D cA ad 0 A 171 [(1, y0), (9, 0), (1, y1), (9, 0), (2, (arr2 : Int)), (0, y2), (0, y3), (0, y4), (9, 0), (9, 0), (9, 0), (9, 0), (9, 0), (9, 0)] [] e') → G p l e rm_PB_lettersApart s m args below meth c 0 0 Q 14 D cA ad 0 A 83 [(1, x0), (9, 0), (1, x2), (9, 0), (2, (arr2 : Int)), (0, x5), (0, x6), (0, x7), (1, x8), (9, 0), (0, x10), (0, x11), (9, 0), (9, 0)] [] d := by
  intro n
  induction n with
  | zero => intro x0 x2 x5 x6 x7 x8 x10 x11 d g0 g1 g2 g3 g4 g5 g6 g7 h k0; cases h
  | succ n ih =>
    intro x0 x2 x5 x6 x7 x8 x10 x11 d g0 g1 g2 g3 g4 g5 g6 g7 h k0
    rcases lpF_some h with h | ⟨⟨v0_, v1_, v2_, v3_, v4_, v5_, v6_, v7_, e0_⟩, h1, h⟩
    · exact ok_PB_lettersApart_y83 C arr2 len2 harr2 barr2 x0 x2 x5 x6 x7 x8 x10 x11 d g0 g1 g2 g3 g4 g5 g6 g7 h (fun z0_ z1_ z2_ z3_ z4_ z5_ z6_ z7_ e1_ eq w0_ w1_ w2_ w3_ w4_ w5_ w6_ w7_ => by cases eq) (fun z0_ z1_ z2_ z3_ z4_ e1_ eq w0_ w1_ w2_ w3_ w4_ => k0 _ _ _ _ _ _ (by cases eq; rfl) w0_ w1_ w2_ w3_ w4_)
    · exact ok_PB_lettersApart_y83 C arr2 len2 harr2 barr2 x0 x2 x5 x6 x7 x8 x10 x11 d g0 g1 g2 g3 g4 g5 g6 g7 h1 (fun z0_ z1_ z2_ z3_ z4_ z5_ z6_ z7_ e1_ eq w0_ w1_ w2_ w3_ w4_ w5_ w6_ w7_ => by cases eq; exact ih _ _ _ _ _ _ _ _ _ w0_ w1_ w2_ w3_ w4_ w5_ w6_ w7_ h k0) (fun z0_ z1_ z2_ z3_ z4_ e1_ eq w0_ w1_ w2_ w3_ w4_ => by cases eq)
set_option maxHeartbeats 4000000 in
theorem ok_PB_lettersApart_l83 {p : Program} {l : Launch} {e : Env} {s : State} {m : MethodId} {args : Array Value} {below : List Frame} {meth : Method} {c : Code} {D : va_G} {cA : Nat → ClassId} {ad : Nat → Nat} {A : Nat → Prop} (C : Cx p s m args c prog_1_method_61_code 14 "PollBooks" D cA ad 0 A) {Q : State → Prop} (arr2 len2 : Nat) (harr2 : cd 0 arr2 = (20, len2)) (barr2 : arr2 < 79) {x : (Int × Int × Int × Int × Int × Dt)} (x0 x2 x5 x6 x7 x8 x10 x11 : Int) (d : Dt) (hx0 : c64 x0) (hx2 : c64 x2) (hx5 : c32 x5) (hx6 : c32 x6) (hx7 : c32 x7) (hx8 : c64 x8) (hx10 : c32 x10) (hx11 : c32 x11) (h : L_PB_lettersApart_l83 arr2 len2 x0 x2 x5 x6 x7 x8 x10 x11 d = some x) (k0 : ∀ (y0 y1 y2 y3 y4 : Int) (e' : Dt), x = (y0, y1, y2, y3, y4, e') → c64 y0 → c64 y1 → c32 y2 → c32 y3 → c32 y4 → G p l e rm_PB_lettersApart s m args below meth c 0 0 Q 14 D cA ad 0 A 171 [(1, y0), (9, 0), (1, y1), (9, 0), (2, (arr2 : Int)), (0, y2), (0, y3), (0, y4), (9, 0), (9, 0), (9, 0), (9, 0), (9, 0), (9, 0)] [] e') : G p l e rm_PB_lettersApart s m args below meth c 0 0 Q 14 D cA ad 0 A 83 [(1, x0), (9, 0), (1, x2), (9, 0), (2, (arr2 : Int)), (0, x5), (0, x6), (0, x7), (1, x8), (9, 0), (0, x10), (0, x11), (9, 0), (9, 0)] [] d :=
  ok_PB_lettersApart_n83 C arr2 len2 harr2 barr2 FU x0 x2 x5 x6 x7 x8 x10 x11 d hx0 hx2 hx5 hx6 hx7 hx8 hx10 hx11 h k0
set_option maxHeartbeats 4000000 in
theorem ok_PB_lettersApart_y46 {p : Program} {l : Launch} {e : Env} {s : State} {m : MethodId} {args : Array Value} {below : List Frame} {meth : Method} {c : Code} {D : va_G} {cA : Nat → ClassId} {ad : Nat → Nat} {A : Nat → Prop} (C : Cx p s m args c prog_1_method_61_code 14 "PollBooks" D cA ad 0 A) {Q : State → Prop} (arr2 len2 : Nat) (harr2 : cd 0 arr2 = (20, len2)) (barr2 : arr2 < 79) {o : (Int × Int × Int × Int × Int × Dt) ⊕ ((Int × Dt))} (x0 x2 x5 x6 x7 : Int) (d : Dt) (hx0 : c64 x0) (hx2 : c64 x2) (hx5 : c32 x5) (hx6 : c32 x6) (hx7 : c32 x7) (h : L_PB_lettersApart_y46 arr2 len2 x0 x2 x5 x6 x7 d = some o) (kb : ∀ (y0 y1 y2 y3 y4 : Int) (e' : Dt), o = .inl (y0, y1, y2, y3, y4, e') → c64 y0 → c64 y1 → c32 y2 → c32 y3 → c32 y4 → G p l e rm_PB_lettersApart s m args below meth c 0 0 Q 14 D cA ad 0 A 46 [(1, y0), (9, 0), (1, y1), (9, 0), (2, (arr2 : Int)), (0, y2), (0, y3), (0, y4), (9, 0), (9, 0), (9, 0), (9, 0), (9, 0), (9, 0)] [] e') (k0 : ∀ (y0 : Int) (e' : Dt), o = .inr (y0, e') → c32 y0 → G p l e rm_PB_lettersApart s m args below meth c 0 0 Q 14 D cA ad 0 A 177 [(9, 0), (9, 0), (9, 0), (9, 0), (2, (arr2 : Int)), (9, 0), (0, y0), (9, 0), (9, 0), (9, 0), (9, 0), (9, 0), (9, 0), (9, 0)] [] e') : G p l e rm_PB_lettersApart s m args below meth c 0 0 Q 14 D cA ad 0 A 46 [(1, x0), (9, 0), (1, x2), (9, 0), (2, (arr2 : Int)), (0, x5), (0, x6), (0, x7), (9, 0), (9, 0), (9, 0), (9, 0), (9, 0), (9, 0)] [] d := by
  unfold L_PB_lettersApart_y46 at h
  refine g_iload C 7 rfl (by decide +kernel) ?_
  refine g_iload C 5 rfl (by decide +kernel) ?_
  refine g_icmp_gt C (off := 127) (tgt := 177) hx7 hx5 (by decide +kernel) (by decide) (fun hc19_ => ?_) (fun hc19_ => ?_)
  · replace h := ite_t hc19_ h
    refine g_sub (lo2 := [(9, 0), (9, 0), (9, 0), (9, 0), (2, (arr2 : Int)), (9, 0), (0, x6), (9, 0), (9, 0), (9, 0), (9, 0), (9, 0), (9, 0), (9, 0)]) (lsb_c (lsb_c (lsb_c (lsb_c (lsb_v (lsb_c (lsb_v (lsb_c (lsb_c (lsb_c (lsb_c (lsb_c (lsb_c (lsb_c lsb_e)))))))))))))) ?_
    obtain rfl := Option.some.inj h
    exact k0 x6 d rfl hx6
  · replace h := ite_f hc19_ h
    refine g_lload_n C 0 rfl (by decide +kernel) ?_
    refine g_iconst C 5 (cK rfl) (by decide +kernel) ?_
    refine g_iload C 5 rfl (by decide +kernel) ?_
    refine g_iload C 7 rfl (by decide +kernel) ?_
    refine g_isub C (by decide +kernel) ?_
    refine g_imul C (by decide +kernel) ?_
    refine g_lshr C (by decide +kernel) ?_
    refine g_ldc2 C (ix := 444) (v := 31) lk_592 (by decide +kernel) ?_
    refine g_land C (by decide +kernel) ?_
    obtain ⟨v20_, ev21_, h⟩ := lt_some h
    refine g_val ev21_.symm ?_
    have hv22_ : c64 v20_ := by rw [ev21_]; exact (l_c _)
    refine s_lstore C 8 (lo' := [(1, x0), (9, 0), (1, x2), (9, 0), (2, (arr2 : Int)), (0, x5), (0, x6), (0, x7), (1, v20_), (9, 0), (9, 0), (9, 0), (9, 0), (9, 0)]) (by decide) (s2k (s2k (s2k (s2k (s2k (s2k (s2k (s2n (by decide) s2z)))))))) (by decide +kernel) ?_
    refine g_aload C 4 rfl (by decide +kernel) ?_
    refine g_iconst C 0 (cK rfl) (by decide +kernel) ?_
    obtain ⟨hb23_, h⟩ := ck_some h
    refine g_iald C arr2 (c32_cb (Or.inl rfl)) rfl harr2 (nA barr2) hb23_ (by decide +kernel) (fun hc24_ => ?_)
    refine g_val (y := (d arr2 0)) rfl ?_
    replace hc24_ : c32 (d arr2 0) := hc24_
    obtain ⟨v25_, ev26_, h⟩ := lt_some h
    refine g_val ev26_.symm ?_
    have hv27_ : c32 v25_ := by rw [ev26_]; exact hc24_
    refine s_istore C 10 (lo' := [(1, x0), (9, 0), (1, x2), (9, 0), (2, (arr2 : Int)), (0, x5), (0, x6), (0, x7), (1, v20_), (9, 0), (0, v25_), (9, 0), (9, 0), (9, 0)]) (by decide) (s1k (s1k (s1k (s1k (s1k (s1k (s1k (s1k (s1k (s1n (by decide) s1z)))))))))) (by decide +kernel) ?_
    refine g_aload C 4 rfl (by decide +kernel) ?_
    refine g_iconst C 0 (cK rfl) (by decide +kernel) ?_
    refine g_iload C 7 rfl (by decide +kernel) ?_
    obtain ⟨hb28_, h⟩ := ck_some h
    refine g_iast C arr2 hx7 (c32_cb (Or.inl rfl)) rfl harr2 (nA barr2) hb28_ (by decide +kernel) ?_
    refine g_iconst C 1 (cK rfl) (by decide +kernel) ?_
    refine s_istore C 11 (lo' := [(1, x0), (9, 0), (1, x2), (9, 0), (2, (arr2 : Int)), (0, x5), (0, x6), (0, x7), (1, v20_), (9, 0), (0, v25_), (0, 1), (9, 0), (9, 0)]) (by decide) (s1k (s1k (s1k (s1k (s1k (s1k (s1k (s1k (s1k (s1k (s1n (by decide) s1z))))))))))) (by decide +kernel) ?_
    refine g_sub (lo2 := [(1, x0), (9, 0), (1, x2), (9, 0), (2, (arr2 : Int)), (0, x5), (0, x6), (0, x7), (1, v20_), (9, 0), (0, v25_), (0, 1), (9, 0), (9, 0)]) (lsb_v (lsb_c (lsb_v (lsb_c (lsb_v (lsb_v (lsb_v (lsb_v (lsb_v (lsb_c (lsb_v (lsb_v (lsb_c (lsb_c lsb_e)))))))))))))) ?_
    obtain ⟨x29_, hx30_, h⟩ := lb_some h
    refine ok_PB_lettersApart_l83 C arr2 len2 harr2 barr2 x0 x2 x5 x6 x7 v20_ v25_ 1 (up2 d arr2 0 x7) hx0 hx2 hx5 hx6 hx7 hv22_ hv27_ (c32_cb (Or.inr rfl)) hx30_ (fun v31_ v32_ v33_ v34_ v35_ d36_ eq37_ hv31_ hv32_ hv33_ hv34_ hv35_ => ?_)
    subst eq37_
    replace h := u5_e h
    refine s_iinc C 7 1 (lo' := [(1, v31_), (9, 0), (1, v32_), (9, 0), (2, (arr2 : Int)), (0, v33_), (0, v34_), (0, (w32 (v35_ + 1))), (9, 0), (9, 0), (9, 0), (9, 0), (9, 0), (9, 0)]) rfl (by decide) (s1k (s1k (s1k (s1k (s1k (s1k (s1n (by decide) s1z))))))) (by decide +kernel) ?_
    refine g_goto C 46 (off := (-128)) (by decide +kernel) (by decide) ?_
    refine g_sub (lo2 := [(1, v31_), (9, 0), (1, v32_), (9, 0), (2, (arr2 : Int)), (0, v33_), (0, v34_), (0, (w32 (v35_ + 1))), (9, 0), (9, 0), (9, 0), (9, 0), (9, 0), (9, 0)]) (lsb_v (lsb_c (lsb_v (lsb_c (lsb_v (lsb_v (lsb_v (lsb_v (lsb_c (lsb_c (lsb_c (lsb_c (lsb_c (lsb_c lsb_e)))))))))))))) ?_
    obtain rfl := Option.some.inj h
    exact kb v31_ v32_ v33_ v34_ (w32 (v35_ + 1)) d36_ rfl hv31_ hv32_ hv33_ hv34_ (w32_c _)
set_option maxHeartbeats 4000000 in
theorem ok_PB_lettersApart_n46 {p : Program} {l : Launch} {e : Env} {s : State} {m : MethodId} {args : Array Value} {below : List Frame} {meth : Method} {c : Code} {D : va_G} {cA : Nat → ClassId} {ad : Nat → Nat} {A : Nat → Prop} (C : Cx p s m args c prog_1_method_61_code 14 "PollBooks" D cA ad 0 A) {Q : State → Prop} (arr2 len2 : Nat) (harr2 : cd 0 arr2 = (20, len2)) (barr2 : arr2 < 79) {x : (Int × Dt)} : ∀ (n : Nat) (x0 x2 x5 x6 x7 : Int) (d : Dt), c64 x0 → c64 x2 → c32 x5 → c32 x6 → c32 x7 → lpF (fun q : Int × Int × Int × Int × Int × Dt => L_PB_lettersApart_y46 arr2 len2 q.1 q.2.1 q.2.2.1 q.2.2.2.1 q.2.2.2.2.1 q.2.2.2.2.2) n (x0, x2, x5, x6, x7, d) = some x → (∀ (y0 : Int) (e' : Dt), x = (y0, e') → c32 y0 → G p l e rm_PB_lettersApart s m args below meth c 0 0 Q 14 D cA ad 0 A 177 [(9, 0), (9, 0), (9, 0), (9, 0), (2, (arr2 : Int)), (9, 0), (0, y0), (9, 0), (9, 0), (9, 0), (9, 0), (9, 0), (9, 0), (9, 0)] [] e') → G p l e rm_PB_lettersApart s m args below meth c 0 0 Q 14 D cA ad 0 A 46 [(1, x0), (9, 0), (1, x2), (9, 0), (2, (arr2 : Int)), (0, x5), (0, x6), (0, x7), (9, 0), (9, 0), (9, 0), (9, 0), (9, 0), (9, 0)] [] d := by
  intro n
  induction n with
  | zero => intro x0 x2 x5 x6 x7 d g0 g1 g2 g3 g4 h k0; cases h
  | succ n ih =>
    intro x0 x2 x5 x6 x7 d g0 g1 g2 g3 g4 h k0
    rcases lpF_some h with h | ⟨⟨v0_, v1_, v2_, v3_, v4_, e0_⟩, h1, h⟩
    · exact ok_PB_lettersApart_y46 C arr2 len2 harr2 barr2 x0 x2 x5 x6 x7 d g0 g1 g2 g3 g4 h (fun z0_ z1_ z2_ z3_ z4_ e1_ eq w0_ w1_ w2_ w3_ w4_ => by cases eq) (fun z0_ e1_ eq w0_ => k0 _ _ (by cases eq; rfl) w0_)
    · exact ok_PB_lettersApart_y46 C arr2 len2 harr2 barr2 x0 x2 x5 x6 x7 d g0 g1 g2 g3 g4 h1 (fun z0_ z1_ z2_ z3_ z4_ e1_ eq w0_ w1_ w2_ w3_ w4_ => by cases eq; exact ih _ _ _ _ _ _ w0_ w1_ w2_ w3_ w4_ h k0) (fun z0_ e1_ eq w0_ => by cases eq)
set_option maxHeartbeats 4000000 in
theorem ok_PB_lettersApart_l46 {p : Program} {l : Launch} {e : Env} {s : State} {m : MethodId} {args : Array Value} {below : List Frame} {meth : Method} {c : Code} {D : va_G} {cA : Nat → ClassId} {ad : Nat → Nat} {A : Nat → Prop} (C : Cx p s m args c prog_1_method_61_code 14 "PollBooks" D cA ad 0 A) {Q : State → Prop} (arr2 len2 : Nat) (harr2 : cd 0 arr2 = (20, len2)) (barr2 : arr2 < 79) {x : (Int × Dt)} (x0 x2 x5 x6 x7 : Int) (d : Dt) (hx0 : c64 x0) (hx2 : c64 x2) (hx5 : c32 x5) (hx6 : c32 x6) (hx7 : c32 x7) (h : L_PB_lettersApart_l46 arr2 len2 x0 x2 x5 x6 x7 d = some x) (k0 : ∀ (y0 : Int) (e' : Dt), x = (y0, e') → c32 y0 → G p l e rm_PB_lettersApart s m args below meth c 0 0 Q 14 D cA ad 0 A 177 [(9, 0), (9, 0), (9, 0), (9, 0), (2, (arr2 : Int)), (9, 0), (0, y0), (9, 0), (9, 0), (9, 0), (9, 0), (9, 0), (9, 0), (9, 0)] [] e') : G p l e rm_PB_lettersApart s m args below meth c 0 0 Q 14 D cA ad 0 A 46 [(1, x0), (9, 0), (1, x2), (9, 0), (2, (arr2 : Int)), (0, x5), (0, x6), (0, x7), (9, 0), (9, 0), (9, 0), (9, 0), (9, 0), (9, 0)] [] d :=
  ok_PB_lettersApart_n46 C arr2 len2 harr2 barr2 FU x0 x2 x5 x6 x7 d hx0 hx2 hx5 hx6 hx7 h k0
set_option maxHeartbeats 4000000 in
theorem ok_PB_lettersApart {l : Launch} (arr2 len2 : Nat) (harr2 : cd 0 arr2 = (20, len2)) (barr2 : arr2 < 79) {r : Int} {d' : Dt} (p1 p2 : Int) (d : Dt) (hp1 : c64 p1) (hp2 : c64 p2) (h : L_PB_lettersApart arr2 len2 p1 p2 d = some (r, d')) : MC l y_PB_lettersApart prog_1_method_61_code 14 (some .int) rm_PB_lettersApart 0 [(1, p1), (1, p2), (2, (arr2 : Int))] d (some (0, r)) d' := by
  refine MC.of (by decide) (Nat.le_of_ble_eq_true rfl) ?_
  intro p e s m args below meth c D cA ad A C hlk hr
  replace C : Cx p s m args c prog_1_method_61_code 14 "PollBooks" D cA ad 0 A := C
  show G p l e rm_PB_lettersApart s m args below meth c 0 0 (MQ below (fun _ => QC D cA ad 0 A (some .int) (some (0, r)) d') args s 0 0 A) 14 D cA ad 0 A 0 [(1, p1), (9, 0), (1, p2), (9, 0), (2, (arr2 : Int))] [] d
  refine g_sub (lo2 := [(1, p1), (9, 0), (1, p2), (9, 0), (2, (arr2 : Int)), (9, 0), (9, 0), (9, 0), (9, 0), (9, 0), (9, 0), (9, 0), (9, 0), (9, 0)]) (lsb_v (lsb_c (lsb_v (lsb_c (lsb_v (lsb_n (lsb_n (lsb_n (lsb_n (lsb_n (lsb_n (lsb_n (lsb_n (lsb_n lsb_e)))))))))))))) ?_
  unfold L_PB_lettersApart at h
  refine g_lload_n C 0 rfl (by decide +kernel) ?_
  obtain ⟨r40_, d39_, hr41_, h⟩ := bd_some h
  refine g_callS C mw_PB_lettersOf [(1, p1)] (ok_PB_lettersOf p1 d hp1 hr41_) (ix := 448) lk_597 lk_598 ⟨rfl, rfl, Nat.le_of_ble_eq_true rfl, Nat.le_of_ble_eq_true rfl⟩ rfl (rest := []) rfl (Nat.le_of_ble_eq_true rfl) ⟨Nat.zero_le _, Nat.zero_le _⟩ (by decide +kernel) (fun _ hc42_ => ?_)
  replace hc42_ : c32 r40_ := hc42_
  refine g_st (st2 := [(0, r40_)]) rfl ?_
  refine s_istore C 5 (lo' := [(1, p1), (9, 0), (1, p2), (9, 0), (2, (arr2 : Int)), (0, r40_), (9, 0), (9, 0), (9, 0), (9, 0), (9, 0), (9, 0), (9, 0), (9, 0)]) (by decide) (s1k (s1k (s1k (s1k (s1n (by decide) s1z))))) (by decide +kernel) ?_
  refine g_lload_n C 2 rfl (by decide +kernel) ?_
  obtain ⟨r44_, d43_, hr45_, h⟩ := bd_some h
  refine g_callS C mw_PB_lettersOf [(1, p2)] (ok_PB_lettersOf p2 d39_ hp2 hr45_) (ix := 448) lk_597 lk_598 ⟨rfl, rfl, Nat.le_of_ble_eq_true rfl, Nat.le_of_ble_eq_true rfl⟩ rfl (rest := []) rfl (Nat.le_of_ble_eq_true rfl) ⟨Nat.zero_le _, Nat.zero_le _⟩ (by decide +kernel) (fun _ hc46_ => ?_)
  replace hc46_ : c32 r44_ := hc46_
  refine g_st (st2 := [(0, r44_)]) rfl ?_
  refine g_aload C 4 rfl (by decide +kernel) ?_
  obtain ⟨hc47_, h⟩ := ck_some h
  refine g_alen C arr2 rfl harr2 (by decide) (nA barr2) (v := (len2 : Int)) rfl (by decide +kernel) ?_
  refine g_iconst C 1 (cK rfl) (by decide +kernel) ?_
  refine g_isub C (by decide +kernel) ?_
  refine g_mmin C hc46_ (w32_c _) (ix := 452) lk_600 lk_601 lk_16 lk_602 ⟨Nat.le_of_ble_eq_true rfl, Nat.le_of_ble_eq_true rfl, Nat.zero_le _, Nat.zero_le _⟩ (Nat.le_of_ble_eq_true rfl) (by decide +kernel) ?_
  obtain ⟨v48_, ev49_, h⟩ := lt_some h
  refine g_val ev49_.symm ?_
  have hv50_ : c32 v48_ := by rw [ev49_]; exact (jmin_c hc46_ (w32_c _))
  refine s_istore C 6 (lo' := [(1, p1), (9, 0), (1, p2), (9, 0), (2, (arr2 : Int)), (0, r40_), (0, v48_), (9, 0), (9, 0), (9, 0), (9, 0), (9, 0), (9, 0), (9, 0)]) (by decide) (s1k (s1k (s1k (s1k (s1k (s1n (by decide) s1z)))))) (by decide +kernel) ?_
  refine g_iconst C 0 (cK rfl) (by decide +kernel) ?_
  refine s_istore C 7 (lo' := [(1, p1), (9, 0), (1, p2), (9, 0), (2, (arr2 : Int)), (0, r40_), (0, v48_), (0, 0), (9, 0), (9, 0), (9, 0), (9, 0), (9, 0), (9, 0)]) (by decide) (s1k (s1k (s1k (s1k (s1k (s1k (s1n (by decide) s1z))))))) (by decide +kernel) ?_
  refine g_sub (lo2 := [(1, p1), (9, 0), (1, p2), (9, 0), (2, (arr2 : Int)), (0, r40_), (0, v48_), (0, 0), (9, 0), (9, 0), (9, 0), (9, 0), (9, 0), (9, 0)]) (lsb_v (lsb_c (lsb_v (lsb_c (lsb_v (lsb_v (lsb_v (lsb_v (lsb_c (lsb_c (lsb_c (lsb_c (lsb_c (lsb_c lsb_e)))))))))))))) ?_
  obtain ⟨x51_, hx52_, h⟩ := lb_some h
  refine ok_PB_lettersApart_l23 C arr2 len2 harr2 barr2 p1 p2 r40_ v48_ 0 d43_ hp1 hp2 hc42_ hv50_ (c32_cb (Or.inl rfl)) hx52_ (fun v53_ v54_ v55_ v56_ d57_ eq58_ hv53_ hv54_ hv55_ hv56_ => ?_)
  subst eq58_
  replace h := u4_e h
  refine g_iconst C 1 (cK rfl) (by decide +kernel) ?_
  refine s_istore C 7 (lo' := [(1, v53_), (9, 0), (1, v54_), (9, 0), (2, (arr2 : Int)), (0, v55_), (0, v56_), (0, 1), (9, 0), (9, 0), (9, 0), (9, 0), (9, 0), (9, 0)]) (by decide) (s1k (s1k (s1k (s1k (s1k (s1k (s1n (by decide) s1z))))))) (by decide +kernel) ?_
  refine g_sub (lo2 := [(1, v53_), (9, 0), (1, v54_), (9, 0), (2, (arr2 : Int)), (0, v55_), (0, v56_), (0, 1), (9, 0), (9, 0), (9, 0), (9, 0), (9, 0), (9, 0)]) (lsb_v (lsb_c (lsb_v (lsb_c (lsb_v (lsb_v (lsb_v (lsb_v (lsb_c (lsb_c (lsb_c (lsb_c (lsb_c (lsb_c lsb_e)))))))))))))) ?_
  obtain ⟨x59_, hx60_, h⟩ := lb_some h
  refine ok_PB_lettersApart_l46 C arr2 len2 harr2 barr2 v53_ v54_ v55_ v56_ 1 d57_ hv53_ hv54_ hv55_ hv56_ (c32_cb (Or.inr rfl)) hx60_ (fun v61_ d62_ eq63_ hv61_ => ?_)
  subst eq63_
  replace h := u1_e h
  refine g_aload C 4 rfl (by decide +kernel) ?_
  refine g_iload C 6 rfl (by decide +kernel) ?_
  obtain ⟨hb64_, h⟩ := ck_some h
  refine g_iald C arr2 hv61_ rfl harr2 (nA barr2) hb64_ (by decide +kernel) (fun hc65_ => ?_)
  obtain ⟨rfl, rfl⟩ := ret_inj h
  exact g_iret C hc65_ hlk hr (by decide +kernel)
/-! PollBooks.far(JJ)I -/
def y_PB_far : MethodName := ⟨"PollBooks", "far", "(JJ)I"⟩
def rm_PB_far : Room := { frames := 2, cells := 0, slots := 0, locals := 55 }
theorem mw_PB_far : MW y_PB_far prog_1_method_9_code 5 (some .int) 2 := ⟨lk_588, lk_1, by decide +kernel⟩
def L_PB_far_b20 (x1 x3 s1 : Int) (d : Dt) : Option (Int × Dt) :=
  if s1 = 0 then bd (L_PB_lettersApart 1 9 x1 x3 (up2 d 0 0 s1)) (fun r4_ d3_ => some (r4_, d3_)) else some ((-1), (up2 d 0 0 s1))
def L_PB_far (p1 p2 : Int) (d : Dt) : Option (Int × Dt) :=
  bd (L_PB_isName p1 d) (fun r8_ d7_ => if r8_ = 0 then L_PB_far_b20 p1 p2 1 d7_ else bd (L_PB_isName p2 d7_) (fun r13_ d12_ => if r13_ = 0 then L_PB_far_b20 p1 p2 1 d12_ else L_PB_far_b20 p1 p2 0 d12_))
set_option maxHeartbeats 4000000 in
theorem ok_PB_far_b20 {p : Program} {l : Launch} {e : Env} {s : State} {m : MethodId} {args : Array Value} {below : List Frame} {meth : Method} {c : Code} {D : va_G} {cA : Nat → ClassId} {ad : Nat → Nat} {A : Nat → Prop} (C : Cx p s m args c prog_1_method_9_code 5 "PollBooks" D cA ad 0 A) (hlk : meth.locks = false) (hr : meth.sig.returnType = (some .int)) {r : Int} {d' : Dt} (x1 x3 s1 : Int) (d : Dt) (hx1 : c64 x1) (hx3 : c64 x3) (hs1 : cb s1) (h : L_PB_far_b20 x1 x3 s1 d = some (r, d')) : G p l e rm_PB_far s m args below meth c 0 0 (MQ below (fun _ => QC D cA ad 0 A (some .int) (some (0, r)) d') args s 0 0 A) 5 D cA ad 0 A 20 [(2, 0), (1, x1), (9, 0), (1, x3), (9, 0)] [(0, s1), (2, 0)] d := by
  unfold L_PB_far_b20 at h
  refine g_putI C cl11 0 0 (c32_cb hs1) rfl cd_A0 ⟨by decide, rfl, by decide⟩ rfl (nA (by decide)) (ix := 9) lk_467 rfl rfl (by decide +kernel) ?_
  refine g_aload_n C 0 rfl (by decide +kernel) ?_
  refine g_getI C cl11 0 0 rfl cd_A0 ⟨by decide, rfl, by decide⟩ rfl (nA (by decide)) (ix := 9) lk_467 (by decide +kernel) (fun hc1_ => ?_)
  refine g_val (y := s1) rfl ?_
  replace hc1_ : c32 s1 := hc1_
  refine g_if_ne C (off := 15) (tgt := 42) hc1_ (by decide +kernel) (by decide) (fun hc2_ => ?_) (fun hc2_ => ?_)
  · replace h := ite_t hc2_ h
    refine g_lload_n C 1 rfl (by decide +kernel) ?_
    refine g_lload_n C 3 rfl (by decide +kernel) ?_
    refine g_aload_n C 0 rfl (by decide +kernel) ?_
    refine g_getR C cl11 0 11 1 rfl cd_A0 ⟨by decide, rfl, by decide⟩ rfl rfl (nA (by decide)) (ix := 91) lk_478 (by decide +kernel) ?_
    obtain ⟨r4_, d3_, hr5_, h⟩ := bd_some h
    refine g_callS C mw_PB_lettersApart [(1, x1), (1, x3), (2, 1)] (ok_PB_lettersApart 1 9 cd_A1 (by decide) x1 x3 (up2 d 0 0 s1) hx1 hx3 hr5_) (ix := 152) lk_594 lk_595 ⟨rfl, rfl, Nat.le_of_ble_eq_true rfl, Nat.le_of_ble_eq_true rfl⟩ rfl (rest := []) rfl (Nat.le_of_ble_eq_true rfl) ⟨Nat.zero_le _, Nat.zero_le _⟩ (by decide +kernel) (fun _ hc6_ => ?_)
    replace hc6_ : c32 r4_ := hc6_
    refine g_st (st2 := [(0, r4_)]) rfl ?_
    refine g_goto C 43 (off := 4) (by decide +kernel) (by decide) ?_
    obtain ⟨rfl, rfl⟩ := ret_inj h
    exact g_iret C hc6_ hlk hr (by decide +kernel)
  · replace h := ite_f hc2_ h
    refine g_iconst C (-1) (cK rfl) (by decide +kernel) ?_
    obtain ⟨rfl, rfl⟩ := ret_inj h
    exact g_iret C (cK rfl) hlk hr (by decide +kernel)
set_option maxHeartbeats 4000000 in
theorem ok_PB_far {l : Launch} {r : Int} {d' : Dt} (p1 p2 : Int) (d : Dt) (hp1 : c64 p1) (hp2 : c64 p2) (h : L_PB_far p1 p2 d = some (r, d')) : MC l y_PB_far prog_1_method_9_code 5 (some .int) rm_PB_far 0 [(2, 0), (1, p1), (1, p2)] d (some (0, r)) d' := by
  refine MC.of (by decide) (Nat.le_of_ble_eq_true rfl) ?_
  intro p e s m args below meth c D cA ad A C hlk hr
  replace C : Cx p s m args c prog_1_method_9_code 5 "PollBooks" D cA ad 0 A := C
  show G p l e rm_PB_far s m args below meth c 0 0 (MQ below (fun _ => QC D cA ad 0 A (some .int) (some (0, r)) d') args s 0 0 A) 5 D cA ad 0 A 0 [(2, 0), (1, p1), (9, 0), (1, p2), (9, 0)] [] d
  refine g_sub (lo2 := [(2, 0), (1, p1), (9, 0), (1, p2), (9, 0)]) (lsb_v (lsb_v (lsb_c (lsb_v (lsb_c lsb_e))))) ?_
  unfold L_PB_far at h
  refine g_aload_n C 0 rfl (by decide +kernel) ?_
  refine g_lload_n C 1 rfl (by decide +kernel) ?_
  obtain ⟨r8_, d7_, hr9_, h⟩ := bd_some h
  refine g_callS C mw_PB_isName [(1, p1)] (ok_PB_isName p1 d hp1 hr9_) (ix := 148) lk_589 lk_590 ⟨rfl, rfl, Nat.le_of_ble_eq_true rfl, Nat.le_of_ble_eq_true rfl⟩ rfl (rest := [(2, 0)]) rfl (Nat.le_of_ble_eq_true rfl) ⟨Nat.zero_le _, Nat.zero_le _⟩ (by decide +kernel) (fun _ hc10_ => ?_)
  replace hc10_ : cb r8_ := hc10_
  refine g_st (st2 := [(0, r8_), (2, 0)]) rfl ?_
  refine g_if_eq C (off := 14) (tgt := 19) (c32_cb hc10_) (by decide +kernel) (by decide) (fun hc11_ => ?_) (fun hc11_ => ?_)
  · replace h := ite_t hc11_ h
    refine g_iconst C 1 (cK rfl) (by decide +kernel) ?_
    refine g_sub (lo2 := [(2, 0), (1, p1), (9, 0), (1, p2), (9, 0)]) (lsb_v (lsb_v (lsb_c (lsb_v (lsb_c lsb_e))))) ?_
    exact ok_PB_far_b20 C hlk hr p1 p2 1 d7_ hp1 hp2 (Or.inr rfl) h
  · replace h := ite_f hc11_ h
    refine g_lload_n C 3 rfl (by decide +kernel) ?_
    obtain ⟨r13_, d12_, hr14_, h⟩ := bd_some h
    refine g_callS C mw_PB_isName [(1, p2)] (ok_PB_isName p2 d7_ hp2 hr14_) (ix := 148) lk_589 lk_590 ⟨rfl, rfl, Nat.le_of_ble_eq_true rfl, Nat.le_of_ble_eq_true rfl⟩ rfl (rest := [(2, 0)]) rfl (Nat.le_of_ble_eq_true rfl) ⟨Nat.zero_le _, Nat.zero_le _⟩ (by decide +kernel) (fun _ hc15_ => ?_)
    replace hc15_ : cb r13_ := hc15_
    refine g_st (st2 := [(0, r13_), (2, 0)]) rfl ?_
    refine g_if_eq C (off := 7) (tgt := 19) (c32_cb hc15_) (by decide +kernel) (by decide) (fun hc16_ => ?_) (fun hc16_ => ?_)
    · replace h := ite_t hc16_ h
      refine g_iconst C 1 (cK rfl) (by decide +kernel) ?_
      refine g_sub (lo2 := [(2, 0), (1, p1), (9, 0), (1, p2), (9, 0)]) (lsb_v (lsb_v (lsb_c (lsb_v (lsb_c lsb_e))))) ?_
      exact ok_PB_far_b20 C hlk hr p1 p2 1 d12_ hp1 hp2 (Or.inr rfl) h
    · replace h := ite_f hc16_ h
      refine g_iconst C 0 (cK rfl) (by decide +kernel) ?_
      refine g_goto C 20 (off := 4) (by decide +kernel) (by decide) ?_
      refine g_sub (lo2 := [(2, 0), (1, p1), (9, 0), (1, p2), (9, 0)]) (lsb_v (lsb_v (lsb_c (lsb_v (lsb_c lsb_e))))) ?_
      exact ok_PB_far_b20 C hlk hr p1 p2 0 d12_ hp1 hp2 (Or.inl rfl) h
/-! PollBooks.isPlace(I)Z -/
def y_PB_isPlace : MethodName := ⟨"PollBooks", "isPlace", "(I)Z"⟩
def rm_PB_isPlace : Room := { frames := 1, cells := 0, slots := 0, locals := 25 }
theorem mw_PB_isPlace : MW y_PB_isPlace prog_1_method_55_code 1 (some .boolean) 1 := ⟨lk_610, lk_1, by decide +kernel⟩
def L_PB_isPlace (p1 : Int) (d : Dt) : Option (Int × Dt) :=
  bd (L_PB_within p1 0 6 d) (fun r2_ d1_ => some (r2_, d1_))
set_option maxHeartbeats 4000000 in
theorem ok_PB_isPlace {l : Launch} {r : Int} {d' : Dt} (p1 : Int) (d : Dt) (hp1 : c32 p1) (h : L_PB_isPlace p1 d = some (r, d')) : MC l y_PB_isPlace prog_1_method_55_code 1 (some .boolean) rm_PB_isPlace 0 [(0, p1)] d (some (0, r)) d' := by
  refine MC.of (by decide) (Nat.le_of_ble_eq_true rfl) ?_
  intro p e s m args below meth c D cA ad A C hlk hr
  replace C : Cx p s m args c prog_1_method_55_code 1 "PollBooks" D cA ad 0 A := C
  show G p l e rm_PB_isPlace s m args below meth c 0 0 (MQ below (fun _ => QC D cA ad 0 A (some .boolean) (some (0, r)) d') args s 0 0 A) 1 D cA ad 0 A 0 [(0, p1)] [] d
  refine g_sub (lo2 := [(0, p1)]) (lsb_v lsb_e) ?_
  unfold L_PB_isPlace at h
  refine g_iload_n C 0 rfl (by decide +kernel) ?_
  refine g_i2l C hp1 (by decide +kernel) ?_
  refine g_lconst C 0 (v := 0) (by decide) (by decide +kernel) ?_
  refine g_ldc2 C (ix := 210) (v := 6) lk_611 (by decide +kernel) ?_
  obtain ⟨r2_, d1_, hr3_, h⟩ := bd_some h
  refine g_callS C mw_PB_within [(1, p1), (1, 0), (1, 6)] (ok_PB_within p1 0 6 d (c64_32 hp1) (cL rfl) (cL rfl) hr3_) (ix := 105) lk_520 lk_521 ⟨rfl, rfl, Nat.le_of_ble_eq_true rfl, Nat.le_of_ble_eq_true rfl⟩ rfl (rest := []) rfl (Nat.le_of_ble_eq_true rfl) ⟨Nat.zero_le _, Nat.zero_le _⟩ (by decide +kernel) (fun _ hc4_ => ?_)
  replace hc4_ : cb r2_ := hc4_
  refine g_st (st2 := [(0, r2_)]) rfl ?_
  obtain ⟨rfl, rfl⟩ := ret_inj h
  exact g_zret C hc4_ hlk hr (by decide +kernel)
/-! PollBooks$People.isFull()Z -/
def y_Pe_isFull : MethodName := ⟨"PollBooks$People", "isFull", "()Z"⟩
def rm_Pe_isFull : Room := { frames := 0, cells := 0, slots := 0, locals := 0 }
theorem mw_Pe_isFull : MW y_Pe_isFull prog_7_method_2_code 1 (some .boolean) 0 := ⟨lk_615, lk_4, by decide +kernel⟩
def L_Pe_isFull (d : Dt) : Option (Int × Dt) :=
  if (d 7 3) < 40 then some (0, d) else some (1, d)
set_option maxHeartbeats 4000000 in
theorem ok_Pe_isFull {l : Launch} {r : Int} {d' : Dt} (d : Dt)  (h : L_Pe_isFull d = some (r, d')) : MC l y_Pe_isFull prog_7_method_2_code 1 (some .boolean) rm_Pe_isFull 0 [(2, 7)] d (some (0, r)) d' := by
  refine MC.of (by decide) (Nat.le_of_ble_eq_true rfl) ?_
  intro p e s m args below meth c D cA ad A C hlk hr
  replace C : Cx p s m args c prog_7_method_2_code 1 "PollBooks$People" D cA ad 0 A := C
  show G p l e rm_Pe_isFull s m args below meth c 0 0 (MQ below (fun _ => QC D cA ad 0 A (some .boolean) (some (0, r)) d') args s 0 0 A) 1 D cA ad 0 A 0 [(2, 7)] [] d
  refine g_sub (lo2 := [(2, 7)]) (lsb_v lsb_e) ?_
  unfold L_Pe_isFull at h
  refine g_aload_n C 0 rfl (by decide +kernel) ?_
  refine g_getI C cl5 7 3 rfl cd_A7 ⟨by decide, rfl, by decide⟩ rfl (nA (by decide)) (ix := 20) lk_64 (by decide +kernel) (fun hc1_ => ?_)
  refine g_bipush C 40 (by decide) (by decide +kernel) ?_
  refine g_icmp_lt C (off := 7) (tgt := 13) hc1_ (cK rfl) (by decide +kernel) (by decide) (fun hc2_ => ?_) (fun hc2_ => ?_)
  · replace h := ite_t hc2_ h
    refine g_iconst C 0 (cK rfl) (by decide +kernel) ?_
    obtain ⟨rfl, rfl⟩ := ret_inj h
    exact g_zret C (Or.inl rfl) hlk hr (by decide +kernel)
  · replace h := ite_f hc2_ h
    refine g_iconst C 1 (cK rfl) (by decide +kernel) ?_
    refine g_goto C 14 (off := 4) (by decide +kernel) (by decide) ?_
    obtain ⟨rfl, rfl⟩ := ret_inj h
    exact g_zret C (Or.inr rfl) hlk hr (by decide +kernel)
/-! PollBooks$People.add(JII)I -/
def y_Pe_add : MethodName := ⟨"PollBooks$People", "add", "(JII)I"⟩
def rm_Pe_add : Room := { frames := 0, cells := 0, slots := 0, locals := 0 }
theorem mw_Pe_add : MW y_Pe_add prog_7_method_4_code 5 (some .int) 3 := ⟨lk_619, lk_4, by decide +kernel⟩
def L_Pe_add (p1 p2 p3 : Int) (d : Dt) : Option (Int × Dt) :=
  ck ((0 : Int) ≤ (d 7 3) ∧ (d 7 3) < 40) (ck ((0 : Int) ≤ (d 7 3) ∧ (d 7 3) < 40) (ck ((0 : Int) ≤ (d 7 3) ∧ (d 7 3) < 40) (some ((w32 ((w32 ((d 7 3) + 1)) - 1)), (up2 (up2 (up2 (up2 d 8 ((d 7 3)).toNat p1) 9 ((d 7 3)).toNat p2) 10 ((d 7 3)).toNat p3) 7 3 (w32 ((d 7 3) + 1)))))))
set_option maxHeartbeats 4000000 in
theorem ok_Pe_add {l : Launch} {r : Int} {d' : Dt} (p1 p2 p3 : Int) (d : Dt) (hp1 : c64 p1) (hp2 : c32 p2) (hp3 : c32 p3) (h : L_Pe_add p1 p2 p3 d = some (r, d')) : MC l y_Pe_add prog_7_method_4_code 5 (some .int) rm_Pe_add 0 [(2, 7), (1, p1), (0, p2), (0, p3)] d (some (0, r)) d' := by
  refine MC.of (by decide) (Nat.le_of_ble_eq_true rfl) ?_
  intro p e s m args below meth c D cA ad A C hlk hr
  replace C : Cx p s m args c prog_7_method_4_code 5 "PollBooks$People" D cA ad 0 A := C
  show G p l e rm_Pe_add s m args below meth c 0 0 (MQ below (fun _ => QC D cA ad 0 A (some .int) (some (0, r)) d') args s 0 0 A) 5 D cA ad 0 A 0 [(2, 7), (1, p1), (9, 0), (0, p2), (0, p3)] [] d
  refine g_sub (lo2 := [(2, 7), (1, p1), (9, 0), (0, p2), (0, p3)]) (lsb_v (lsb_v (lsb_c (lsb_v (lsb_v lsb_e))))) ?_
  unfold L_Pe_add at h
  refine g_aload_n C 0 rfl (by decide +kernel) ?_
  refine g_getR C cl5 7 0 8 rfl cd_A7 ⟨by decide, rfl, by decide⟩ rfl rfl (nA (by decide)) (ix := 9) lk_57 (by decide +kernel) ?_
  refine g_aload_n C 0 rfl (by decide +kernel) ?_
  refine g_getI C cl5 7 3 rfl cd_A7 ⟨by decide, rfl, by decide⟩ rfl (nA (by decide)) (ix := 20) lk_64 (by decide +kernel) (fun hc1_ => ?_)
  refine g_lload_n C 1 rfl (by decide +kernel) ?_
  obtain ⟨hb2_, h⟩ := ck_some h
  refine g_last C 8 hp1 hc1_ rfl cd_A8 (nA (by decide)) hb2_ (by decide +kernel) ?_
  refine g_aload_n C 0 rfl (by decide +kernel) ?_
  refine g_getR C cl5 7 1 9 rfl cd_A7 ⟨by decide, rfl, by decide⟩ rfl rfl (nA (by decide)) (ix := 13) lk_59 (by decide +kernel) ?_
  refine g_aload_n C 0 rfl (by decide +kernel) ?_
  refine g_getI C cl5 7 3 rfl cd_A7 ⟨by decide, rfl, by decide⟩ rfl (nA (by decide)) (ix := 20) lk_64 (by decide +kernel) (fun hc3_ => ?_)
  refine g_val (y := (d 7 3)) rfl ?_
  replace hc3_ : c32 (d 7 3) := hc3_
  refine g_iload_n C 3 rfl (by decide +kernel) ?_
  obtain ⟨hb4_, h⟩ := ck_some h
  refine g_iast C 9 hp2 hc3_ rfl cd_A9 (nA (by decide)) hb4_ (by decide +kernel) ?_
  refine g_aload_n C 0 rfl (by decide +kernel) ?_
  refine g_getR C cl5 7 2 10 rfl cd_A7 ⟨by decide, rfl, by decide⟩ rfl rfl (nA (by decide)) (ix := 17) lk_62 (by decide +kernel) ?_
  refine g_aload_n C 0 rfl (by decide +kernel) ?_
  refine g_getI C cl5 7 3 rfl cd_A7 ⟨by decide, rfl, by decide⟩ rfl (nA (by decide)) (ix := 20) lk_64 (by decide +kernel) (fun hc5_ => ?_)
  refine g_val (y := (d 7 3)) rfl ?_
  replace hc5_ : c32 (d 7 3) := hc5_
  refine g_iload C 4 rfl (by decide +kernel) ?_
  obtain ⟨hb6_, h⟩ := ck_some h
  refine g_iast C 10 hp3 hc5_ rfl cd_A10 (nA (by decide)) hb6_ (by decide +kernel) ?_
  refine g_aload_n C 0 rfl (by decide +kernel) ?_
  refine g_dup C tg2 (by decide +kernel) ?_
  refine g_getI C cl5 7 3 rfl cd_A7 ⟨by decide, rfl, by decide⟩ rfl (nA (by decide)) (ix := 20) lk_64 (by decide +kernel) (fun hc7_ => ?_)
  refine g_val (y := (d 7 3)) rfl ?_
  replace hc7_ : c32 (d 7 3) := hc7_
  refine g_iconst C 1 (cK rfl) (by decide +kernel) ?_
  refine g_iadd C (by decide +kernel) ?_
  refine g_putI C cl5 7 3 (w32_c _) rfl cd_A7 ⟨by decide, rfl, by decide⟩ rfl (nA (by decide)) (ix := 20) lk_64 rfl rfl (by decide +kernel) ?_
  refine g_aload_n C 0 rfl (by decide +kernel) ?_
  refine g_getI C cl5 7 3 rfl cd_A7 ⟨by decide, rfl, by decide⟩ rfl (nA (by decide)) (ix := 20) lk_64 (by decide +kernel) (fun hc8_ => ?_)
  refine g_val (y := (w32 ((d 7 3) + 1))) rfl ?_
  replace hc8_ : c32 (w32 ((d 7 3) + 1)) := hc8_
  refine g_iconst C 1 (cK rfl) (by decide +kernel) ?_
  refine g_isub C (by decide +kernel) ?_
  obtain ⟨rfl, rfl⟩ := ret_inj h
  exact g_iret C (w32_c _) hlk hr (by decide +kernel)
/-! PollBooks$Poll.distance(II)I -/
def y_Po_distance : MethodName := ⟨"PollBooks$Poll", "distance", "(II)I"⟩
def rm_Po_distance : Room := { frames := 2, cells := 0, slots := 0, locals := 55 }
theorem mw_Po_distance : MW y_Po_distance prog_8_method_9_code 6 (some .int) 2 := ⟨lk_631, lk_10, by decide +kernel⟩
def L_Po_distance_b77 (s0 s1 : Int) (d : Dt) : Option (Int × Dt) :=
  some ((w32 (s0 + s1)), d)
def L_Po_distance_b62 (x3 s0 : Int) (d : Dt) : Option (Int × Dt) :=
  if s0 = 0 then L_Po_distance_b77 (w32 (3 * x3)) 0 d else L_Po_distance_b77 (w32 (3 * x3)) 2 d
def L_Po_distance (p1 p2 : Int) (d : Dt) : Option (Int × Dt) :=
  ck ((0 : Int) ≤ p1 ∧ p1 < 90) (ck ((0 : Int) ≤ p2 ∧ p2 < 40) (bd (L_PB_lettersApart 53 9 (d 38 p1.toNat) (d 8 p2.toNat) d) (fun r7_ d6_ => ck ((0 : Int) ≤ p1 ∧ p1 < 90) (lt_ (d6_ 39 p1.toNat) (fun v12_ => if v12_ = (-1) then L_Po_distance_b62 r7_ 0 d6_ else ck ((0 : Int) ≤ p2 ∧ p2 < 40) (if v12_ = (d6_ 9 p2.toNat) then L_Po_distance_b62 r7_ 0 d6_ else L_Po_distance_b62 r7_ 1 d6_))))))
set_option maxHeartbeats 4000000 in
theorem ok_Po_distance_b77 {p : Program} {l : Launch} {e : Env} {s : State} {m : MethodId} {args : Array Value} {below : List Frame} {meth : Method} {c : Code} {D : va_G} {cA : Nat → ClassId} {ad : Nat → Nat} {A : Nat → Prop} (C : Cx p s m args c prog_8_method_9_code 6 "PollBooks$Poll" D cA ad 0 A) (hlk : meth.locks = false) (hr : meth.sig.returnType = (some .int)) {r : Int} {d' : Dt} (s0 s1 : Int) (d : Dt) (hs0 : c32 s0) (hs1 : c32 s1) (h : L_Po_distance_b77 s0 s1 d = some (r, d')) : G p l e rm_Po_distance s m args below meth c 0 0 (MQ below (fun _ => QC D cA ad 0 A (some .int) (some (0, r)) d') args s 0 0 A) 6 D cA ad 0 A 77 [(9, 0), (9, 0), (9, 0), (9, 0), (9, 0), (9, 0)] [(0, s1), (0, s0)] d := by
  unfold L_Po_distance_b77 at h
  refine g_iadd C (by decide +kernel) ?_
  obtain ⟨rfl, rfl⟩ := ret_inj h
  exact g_iret C (w32_c _) hlk hr (by decide +kernel)
set_option maxHeartbeats 4000000 in
theorem ok_Po_distance_b62 {p : Program} {l : Launch} {e : Env} {s : State} {m : MethodId} {args : Array Value} {below : List Frame} {meth : Method} {c : Code} {D : va_G} {cA : Nat → ClassId} {ad : Nat → Nat} {A : Nat → Prop} (C : Cx p s m args c prog_8_method_9_code 6 "PollBooks$Poll" D cA ad 0 A) (hlk : meth.locks = false) (hr : meth.sig.returnType = (some .int)) {r : Int} {d' : Dt} (x3 s0 : Int) (d : Dt) (hx3 : c32 x3) (hs0 : cb s0) (h : L_Po_distance_b62 x3 s0 d = some (r, d')) : G p l e rm_Po_distance s m args below meth c 0 0 (MQ below (fun _ => QC D cA ad 0 A (some .int) (some (0, r)) d') args s 0 0 A) 6 D cA ad 0 A 62 [(9, 0), (9, 0), (9, 0), (0, x3), (9, 0), (9, 0)] [(0, s0)] d := by
  unfold L_Po_distance_b62 at h
  refine s_istore C 5 (lo' := [(9, 0), (9, 0), (9, 0), (0, x3), (9, 0), (0, s0)]) (by decide) (s1k (s1k (s1k (s1k (s1n (by decide) s1z))))) (by decide +kernel) ?_
  refine g_iconst C 3 (cK rfl) (by decide +kernel) ?_
  refine g_iload_n C 3 rfl (by decide +kernel) ?_
  refine g_imul C (by decide +kernel) ?_
  refine g_iload C 5 rfl (by decide +kernel) ?_
  refine g_if_eq C (off := 7) (tgt := 76) (c32_cb hs0) (by decide +kernel) (by decide) (fun hc1_ => ?_) (fun hc1_ => ?_)
  · replace h := ite_t hc1_ h
    refine g_iconst C 0 (cK rfl) (by decide +kernel) ?_
    refine g_sub (lo2 := [(9, 0), (9, 0), (9, 0), (9, 0), (9, 0), (9, 0)]) (lsb_c (lsb_c (lsb_c (lsb_c (lsb_c (lsb_c lsb_e)))))) ?_
    exact ok_Po_distance_b77 C hlk hr (w32 (3 * x3)) 0 d (w32_c _) (c32_cb (Or.inl rfl)) h
  · replace h := ite_f hc1_ h
    refine g_iconst C 2 (cK rfl) (by decide +kernel) ?_
    refine g_goto C 77 (off := 4) (by decide +kernel) (by decide) ?_
    refine g_sub (lo2 := [(9, 0), (9, 0), (9, 0), (9, 0), (9, 0), (9, 0)]) (lsb_c (lsb_c (lsb_c (lsb_c (lsb_c (lsb_c lsb_e)))))) ?_
    exact ok_Po_distance_b77 C hlk hr (w32 (3 * x3)) 2 d (w32_c _) (cK rfl) h
set_option maxHeartbeats 4000000 in
theorem ok_Po_distance {l : Launch} {r : Int} {d' : Dt} (p1 p2 : Int) (d : Dt) (hp1 : c32 p1) (hp2 : c32 p2) (h : L_Po_distance p1 p2 d = some (r, d')) : MC l y_Po_distance prog_8_method_9_code 6 (some .int) rm_Po_distance 0 [(2, 49), (0, p1), (0, p2)] d (some (0, r)) d' := by
  refine MC.of (by decide) (Nat.le_of_ble_eq_true rfl) ?_
  intro p e s m args below meth c D cA ad A C hlk hr
  replace C : Cx p s m args c prog_8_method_9_code 6 "PollBooks$Poll" D cA ad 0 A := C
  show G p l e rm_Po_distance s m args below meth c 0 0 (MQ below (fun _ => QC D cA ad 0 A (some .int) (some (0, r)) d') args s 0 0 A) 6 D cA ad 0 A 0 [(2, 49), (0, p1), (0, p2)] [] d
  refine g_sub (lo2 := [(2, 49), (0, p1), (0, p2), (9, 0), (9, 0), (9, 0)]) (lsb_v (lsb_v (lsb_v (lsb_n (lsb_n (lsb_n lsb_e)))))) ?_
  unfold L_Po_distance at h
  refine g_aload_n C 0 rfl (by decide +kernel) ?_
  refine g_getR C cl6 49 1 37 rfl cd_A49 ⟨by decide, rfl, by decide⟩ rfl rfl (nA (by decide)) (ix := 47) lk_320 (by decide +kernel) ?_
  refine g_getRN C cl0 37 0 38 rfl cd_A37 ⟨by decide, rfl, by decide⟩ rfl rfl (nA (by decide)) (ix := 75) lk_273 (by decide +kernel) ?_
  refine g_iload_n C 1 rfl (by decide +kernel) ?_
  obtain ⟨hb2_, h⟩ := ck_some h
  refine g_lald C 38 hp1 rfl cd_A38 (nA (by decide)) hb2_ (by decide +kernel) (fun hc3_ => ?_)
  refine g_aload_n C 0 rfl (by decide +kernel) ?_
  refine g_getR C cl6 49 0 7 rfl cd_A49 ⟨by decide, rfl, by decide⟩ rfl rfl (nA (by decide)) (ix := 43) lk_319 (by decide +kernel) ?_
  refine g_getRN C cl5 7 0 8 rfl cd_A7 ⟨by decide, rfl, by decide⟩ rfl rfl (nA (by decide)) (ix := 79) lk_58 (by decide +kernel) ?_
  refine g_iload_n C 2 rfl (by decide +kernel) ?_
  obtain ⟨hb4_, h⟩ := ck_some h
  refine g_lald C 8 hp2 rfl cd_A8 (nA (by decide)) hb4_ (by decide +kernel) (fun hc5_ => ?_)
  refine g_aload_n C 0 rfl (by decide +kernel) ?_
  refine g_getR C cl6 49 7 53 rfl cd_A49 ⟨by decide, rfl, by decide⟩ rfl rfl (nA (by decide)) (ix := 28) lk_326 (by decide +kernel) ?_
  obtain ⟨r7_, d6_, hr8_, h⟩ := bd_some h
  refine g_callSN C mw_PB_lettersApart [(1, (d 38 p1.toNat)), (1, (d 8 p2.toNat)), (2, 53)] (ok_PB_lettersApart 53 9 cd_A53 (by decide) (d 38 p1.toNat) (d 8 p2.toNat) d hc3_ hc5_ hr8_) (ix := 80) lk_632 lk_595 ⟨rfl, rfl, Nat.le_of_ble_eq_true rfl, Nat.le_of_ble_eq_true rfl⟩ rfl (rest := []) rfl (Nat.le_of_ble_eq_true rfl) ⟨Nat.zero_le _, Nat.zero_le _⟩ (by decide +kernel) (fun _ hc9_ => ?_)
  replace hc9_ : c32 r7_ := hc9_
  refine g_st (st2 := [(0, r7_)]) rfl ?_
  refine s_istore_n C 3 (lo' := [(2, 49), (0, p1), (0, p2), (0, r7_), (9, 0), (9, 0)]) (by decide) (s1k (s1k (s1n (by decide) s1z))) (by decide +kernel) ?_
  refine g_aload_n C 0 rfl (by decide +kernel) ?_
  refine g_getR C cl6 49 1 37 rfl cd_A49 ⟨by decide, rfl, by decide⟩ rfl rfl (nA (by decide)) (ix := 47) lk_320 (by decide +kernel) ?_
  refine g_getRN C cl0 37 1 39 rfl cd_A37 ⟨by decide, rfl, by decide⟩ rfl rfl (nA (by decide)) (ix := 84) lk_275 (by decide +kernel) ?_
  refine g_iload_n C 1 rfl (by decide +kernel) ?_
  obtain ⟨hb10_, h⟩ := ck_some h
  refine g_iald C 39 hp1 rfl cd_A39 (nA (by decide)) hb10_ (by decide +kernel) (fun hc11_ => ?_)
  obtain ⟨v12_, ev13_, h⟩ := lt_some h
  refine g_val ev13_.symm ?_
  have hv14_ : c32 v12_ := by rw [ev13_]; exact hc11_
  refine s_istore C 4 (lo' := [(2, 49), (0, p1), (0, p2), (0, r7_), (0, v12_), (9, 0)]) (by decide) (s1k (s1k (s1k (s1n (by decide) s1z)))) (by decide +kernel) ?_
  refine g_iload C 4 rfl (by decide +kernel) ?_
  refine g_iconst C (-1) (cK rfl) (by decide +kernel) ?_
  refine g_icmp_eq C (off := 21) (tgt := 61) hv14_ (cK rfl) (by decide +kernel) (by decide) (fun hc15_ => ?_) (fun hc15_ => ?_)
  · replace h := ite_t hc15_ h
    refine g_iconst C 0 (cK rfl) (by decide +kernel) ?_
    refine g_sub (lo2 := [(9, 0), (9, 0), (9, 0), (0, r7_), (9, 0), (9, 0)]) (lsb_c (lsb_c (lsb_c (lsb_v (lsb_c (lsb_c lsb_e)))))) ?_
    exact ok_Po_distance_b62 C hlk hr r7_ 0 d6_ hc9_ (Or.inl rfl) h
  · replace h := ite_f hc15_ h
    refine g_iload C 4 rfl (by decide +kernel) ?_
    refine g_aload_n C 0 rfl (by decide +kernel) ?_
    refine g_getR C cl6 49 0 7 rfl cd_A49 ⟨by decide, rfl, by decide⟩ rfl rfl (nA (by decide)) (ix := 43) lk_319 (by decide +kernel) ?_
    refine g_getRN C cl5 7 1 9 rfl cd_A7 ⟨by decide, rfl, by decide⟩ rfl rfl (nA (by decide)) (ix := 87) lk_60 (by decide +kernel) ?_
    refine g_iload_n C 2 rfl (by decide +kernel) ?_
    obtain ⟨hb16_, h⟩ := ck_some h
    refine g_iald C 9 hp2 rfl cd_A9 (nA (by decide)) hb16_ (by decide +kernel) (fun hc17_ => ?_)
    refine g_icmp_eq C (off := 7) (tgt := 61) hv14_ hc17_ (by decide +kernel) (by decide) (fun hc18_ => ?_) (fun hc18_ => ?_)
    · replace h := ite_t hc18_ h
      refine g_iconst C 0 (cK rfl) (by decide +kernel) ?_
      refine g_sub (lo2 := [(9, 0), (9, 0), (9, 0), (0, r7_), (9, 0), (9, 0)]) (lsb_c (lsb_c (lsb_c (lsb_v (lsb_c (lsb_c lsb_e)))))) ?_
      exact ok_Po_distance_b62 C hlk hr r7_ 0 d6_ hc9_ (Or.inl rfl) h
    · replace h := ite_f hc18_ h
      refine g_iconst C 1 (cK rfl) (by decide +kernel) ?_
      refine g_goto C 62 (off := 4) (by decide +kernel) (by decide) ?_
      refine g_sub (lo2 := [(9, 0), (9, 0), (9, 0), (0, r7_), (9, 0), (9, 0)]) (lsb_c (lsb_c (lsb_c (lsb_v (lsb_c (lsb_c lsb_e)))))) ?_
      exact ok_Po_distance_b62 C hlk hr r7_ 1 d6_ hc9_ (Or.inr rfl) h
/-! PollBooks$Poll.compare(II)V -/
def y_Po_compare : MethodName := ⟨"PollBooks$Poll", "compare", "(II)V"⟩
def rm_Po_compare : Room := { frames := 3, cells := 0, slots := 0, locals := 80 }
theorem mw_Po_compare : MW y_Po_compare prog_8_method_8_code 4 none 2 := ⟨lk_627, lk_10, by decide +kernel⟩
def L_Po_compare (p1 p2 : Int) (d : Dt) : Option (Int × Dt) :=
  bd (L_Po_distance p1 p2 d) (fun r2_ d1_ => ck ((0 : Int) ≤ p1 ∧ p1 < 30) (if r2_ < (d1_ 51 p1.toNat) then ck ((0 : Int) ≤ p1 ∧ p1 < 30) (ck ((0 : Int) ≤ p1 ∧ p1 < 30) (ck ((0 : Int) ≤ p1 ∧ p1 < 30) (some (0, (up2 (up2 (up2 d1_ 51 p1.toNat r2_) 50 p1.toNat p2) 52 p1.toNat 1))))) else ck ((0 : Int) ≤ p1 ∧ p1 < 30) (if r2_ = (d1_ 51 p1.toNat) then ck ((0 : Int) ≤ p1 ∧ p1 < 30) (some (0, (up2 d1_ 52 p1.toNat 0))) else some (0, d1_))))
set_option maxHeartbeats 4000000 in
theorem ok_Po_compare {l : Launch} {r : Int} {d' : Dt} (p1 p2 : Int) (d : Dt) (hp1 : c32 p1) (hp2 : c32 p2) (h : L_Po_compare p1 p2 d = some (r, d')) : MC l y_Po_compare prog_8_method_8_code 4 none rm_Po_compare 0 [(2, 49), (0, p1), (0, p2)] d none d' := by
  refine MC.of (by decide) (Nat.le_of_ble_eq_true rfl) ?_
  intro p e s m args below meth c D cA ad A C hlk hr
  replace C : Cx p s m args c prog_8_method_8_code 4 "PollBooks$Poll" D cA ad 0 A := C
  show G p l e rm_Po_compare s m args below meth c 0 0 (MQ below (fun _ => QC D cA ad 0 A none none d') args s 0 0 A) 4 D cA ad 0 A 0 [(2, 49), (0, p1), (0, p2)] [] d
  refine g_sub (lo2 := [(2, 49), (0, p1), (0, p2), (9, 0)]) (lsb_v (lsb_v (lsb_v (lsb_n lsb_e)))) ?_
  unfold L_Po_compare at h
  refine g_aload_n C 0 rfl (by decide +kernel) ?_
  refine g_iload_n C 1 rfl (by decide +kernel) ?_
  refine g_iload_n C 2 rfl (by decide +kernel) ?_
  obtain ⟨r2_, d1_, hr3_, h⟩ := bd_some h
  refine g_callV C mw_Po_distance [(0, p1), (0, p2)] 49 cl6 rfl (ok_Po_distance p1 p2 d hp1 hp2 hr3_) cd_A49 (by decide) (nA (by decide)) (ix := 71) lk_628 lk_630 lkp_3 ⟨rfl, rfl, Nat.le_of_ble_eq_true rfl, Nat.le_of_ble_eq_true rfl⟩ rfl (rest := []) rfl (Nat.le_of_ble_eq_true rfl) ⟨Nat.zero_le _, Nat.zero_le _⟩ (by decide +kernel) (fun _ hc4_ => ?_)
  replace hc4_ : c32 r2_ := hc4_
  refine g_st (st2 := [(0, r2_)]) rfl ?_
  refine s_istore_n C 3 (lo' := [(2, 49), (0, p1), (0, p2), (0, r2_)]) (by decide) (s1k (s1k (s1n (by decide) s1z))) (by decide +kernel) ?_
  refine g_iload_n C 3 rfl (by decide +kernel) ?_
  refine g_aload_n C 0 rfl (by decide +kernel) ?_
  refine g_getR C cl6 49 5 51 rfl cd_A49 ⟨by decide, rfl, by decide⟩ rfl rfl (nA (by decide)) (ix := 21) lk_324 (by decide +kernel) ?_
  refine g_iload_n C 1 rfl (by decide +kernel) ?_
  obtain ⟨hb5_, h⟩ := ck_some h
  refine g_iald C 51 hp1 rfl cd_A51 (nA (by decide)) hb5_ (by decide +kernel) (fun hc6_ => ?_)
  refine g_icmp_ge C (off := 27) (tgt := 41) hc4_ hc6_ (by decide +kernel) (by decide) (fun hc7_ => ?_) (fun hc7_ => ?_)
  · replace h := ite_t hc7_ h
    refine g_aload_n C 0 rfl (by decide +kernel) ?_
    refine g_getR C cl6 49 5 51 rfl cd_A49 ⟨by decide, rfl, by decide⟩ rfl rfl (nA (by decide)) (ix := 21) lk_324 (by decide +kernel) ?_
    refine g_iload_n C 1 rfl (by decide +kernel) ?_
    refine g_iload_n C 3 rfl (by decide +kernel) ?_
    obtain ⟨hb8_, h⟩ := ck_some h
    refine g_iast C 51 hc4_ hp1 rfl cd_A51 (nA (by decide)) hb8_ (by decide +kernel) ?_
    refine g_aload_n C 0 rfl (by decide +kernel) ?_
    refine g_getR C cl6 49 4 50 rfl cd_A49 ⟨by decide, rfl, by decide⟩ rfl rfl (nA (by decide)) (ix := 17) lk_323 (by decide +kernel) ?_
    refine g_iload_n C 1 rfl (by decide +kernel) ?_
    refine g_iload_n C 2 rfl (by decide +kernel) ?_
    obtain ⟨hb9_, h⟩ := ck_some h
    refine g_iast C 50 hp2 hp1 rfl cd_A50 (nA (by decide)) hb9_ (by decide +kernel) ?_
    refine g_aload_n C 0 rfl (by decide +kernel) ?_
    refine g_getR C cl6 49 6 52 rfl cd_A49 ⟨by decide, rfl, by decide⟩ rfl rfl (nA (by decide)) (ix := 24) lk_325 (by decide +kernel) ?_
    refine g_iload_n C 1 rfl (by decide +kernel) ?_
    refine g_iconst C 1 (cK rfl) (by decide +kernel) ?_
    obtain ⟨hb10_, h⟩ := ck_some h
    refine g_zast C 52 (Or.inr rfl) hp1 rfl cd_A52 (nA (by decide)) hb10_ (by decide +kernel) ?_
    refine g_goto C 58 (off := 20) (by decide +kernel) (by decide) ?_
    obtain ⟨rfl, rfl⟩ := ret_inj h
    exact g_vret C hlk hr (by decide +kernel)
  · replace h := ite_f hc7_ h
    refine g_iload_n C 3 rfl (by decide +kernel) ?_
    refine g_aload_n C 0 rfl (by decide +kernel) ?_
    refine g_getR C cl6 49 5 51 rfl cd_A49 ⟨by decide, rfl, by decide⟩ rfl rfl (nA (by decide)) (ix := 21) lk_324 (by decide +kernel) ?_
    refine g_iload_n C 1 rfl (by decide +kernel) ?_
    obtain ⟨hb11_, h⟩ := ck_some h
    refine g_iald C 51 hp1 rfl cd_A51 (nA (by decide)) hb11_ (by decide +kernel) (fun hc12_ => ?_)
    refine g_icmp_ne C (off := 10) (tgt := 58) hc4_ hc12_ (by decide +kernel) (by decide) (fun hc13_ => ?_) (fun hc13_ => ?_)
    · replace h := ite_t hc13_ h
      refine g_aload_n C 0 rfl (by decide +kernel) ?_
      refine g_getR C cl6 49 6 52 rfl cd_A49 ⟨by decide, rfl, by decide⟩ rfl rfl (nA (by decide)) (ix := 24) lk_325 (by decide +kernel) ?_
      refine g_iload_n C 1 rfl (by decide +kernel) ?_
      refine g_iconst C 0 (cK rfl) (by decide +kernel) ?_
      obtain ⟨hb14_, h⟩ := ck_some h
      refine g_zast C 52 (Or.inl rfl) hp1 rfl cd_A52 (nA (by decide)) hb14_ (by decide +kernel) ?_
      obtain ⟨rfl, rfl⟩ := ret_inj h
      exact g_vret C hlk hr (by decide +kernel)
    · replace h := ite_f hc13_ h
      obtain ⟨rfl, rfl⟩ := ret_inj h
      exact g_vret C hlk hr (by decide +kernel)
/-! PollBooks$Poll.meetPerson(I)V -/
def y_Po_meetPerson : MethodName := ⟨"PollBooks$Poll", "meetPerson", "(I)V"⟩
def rm_Po_meetPerson : Room := { frames := 4, cells := 0, slots := 0, locals := 103 }
theorem mw_Po_meetPerson : MW y_Po_meetPerson prog_8_method_7_code 3 none 1 := ⟨lk_623, lk_10, by decide +kernel⟩
def L_Po_meetPerson_y2 (x1 x2 : Int) (d : Dt) : Option ((Int × Int × Dt) ⊕ ((Dt))) :=
  if x2 < (d 42 0) then bd (L_Po_compare x2 x1 d) (fun r4_ d3_ => some (Sum.inl (x1, (w32 (x2 + 1)), d3_))) else some (Sum.inr (d))
def L_Po_meetPerson_l2 (x1 x2 : Int) (d : Dt) : Option ((Dt)) := lpF (fun q : Int × Int × Dt => L_Po_meetPerson_y2 q.1 q.2.1 q.2.2) FU (x1, x2, d)
def L_Po_meetPerson (p1 : Int) (d : Dt) : Option (Int × Dt) :=
  lb (L_Po_meetPerson_l2 p1 0 d) (fun q11_ => u0 q11_ (fun d9_ => some (0, d9_)))
set_option maxHeartbeats 4000000 in
theorem ok_Po_meetPerson_y2 {p : Program} {l : Launch} {e : Env} {s : State} {m : MethodId} {args : Array Value} {below : List Frame} {meth : Method} {c : Code} {D : va_G} {cA : Nat → ClassId} {ad : Nat → Nat} {A : Nat → Prop} (C : Cx p s m args c prog_8_method_7_code 3 "PollBooks$Poll" D cA ad 0 A) {Q : State → Prop} {o : (Int × Int × Dt) ⊕ ((Dt))} (x1 x2 : Int) (d : Dt) (hx1 : c32 x1) (hx2 : c32 x2) (h : L_Po_meetPerson_y2 x1 x2 d = some o) (kb : ∀ (y0 y1 : Int) (e' : Dt), o = .inl (y0, y1, e') → c32 y0 → c32 y1 → G p l e rm_Po_meetPerson s m args below meth c 0 0 Q 3 D cA ad 0 A 2 [(2, 49), (0, y0), (0, y1)] [] e') (k0 : ∀ (e' : Dt), o = .inr (e') → G p l e rm_Po_meetPerson s m args below meth c 0 0 Q 3 D cA ad 0 A 27 [(9, 0), (9, 0), (9, 0)] [] e') : G p l e rm_Po_meetPerson s m args below meth c 0 0 Q 3 D cA ad 0 A 2 [(2, 49), (0, x1), (0, x2)] [] d := by
  unfold L_Po_meetPerson_y2 at h
  refine g_iload_n C 2 rfl (by decide +kernel) ?_
  refine g_aload_n C 0 rfl (by decide +kernel) ?_
  refine g_getR C cl6 49 1 37 rfl cd_A49 ⟨by decide, rfl, by decide⟩ rfl rfl (nA (by decide)) (ix := 47) lk_320 (by decide +kernel) ?_
  refine g_getRN C cl0 37 4 42 rfl cd_A37 ⟨by decide, rfl, by decide⟩ rfl rfl (nA (by decide)) (ix := 68) lk_280 (by decide +kernel) ?_
  refine g_iconst C 0 (cK rfl) (by decide +kernel) ?_
  refine g_iald C 42 (c32_cb (Or.inl rfl)) rfl cd_A42 (nA (by decide)) (by decide) (by decide +kernel) (fun hc1_ => ?_)
  refine g_val (y := (d 42 0)) rfl ?_
  replace hc1_ : c32 (d 42 0) := hc1_
  refine g_icmp_ge C (off := 15) (tgt := 27) hx2 hc1_ (by decide +kernel) (by decide) (fun hc2_ => ?_) (fun hc2_ => ?_)
  · replace h := ite_t hc2_ h
    refine g_aload_n C 0 rfl (by decide +kernel) ?_
    refine g_iload_n C 2 rfl (by decide +kernel) ?_
    refine g_iload_n C 1 rfl (by decide +kernel) ?_
    obtain ⟨r4_, d3_, hr5_, h⟩ := bd_some h
    refine g_callV C mw_Po_compare [(0, x2), (0, x1)] 49 cl6 rfl (ok_Po_compare x2 x1 d hx2 hx1 hr5_) cd_A49 (by decide) (nA (by decide)) (ix := 64) lk_624 lk_626 lkp_2 ⟨rfl, rfl, Nat.le_of_ble_eq_true rfl, Nat.le_of_ble_eq_true rfl⟩ rfl (rest := []) rfl (Nat.le_of_ble_eq_true rfl) ⟨Nat.zero_le _, Nat.zero_le _⟩ (by decide +kernel) (fun _ hc6_ => ?_)
    refine g_st (st2 := []) rfl ?_
    refine s_iinc C 2 1 (lo' := [(2, 49), (0, x1), (0, (w32 (x2 + 1)))]) rfl (by decide) (s1k (s1n (by decide) s1z)) (by decide +kernel) ?_
    refine g_goto C 2 (off := (-22)) (by decide +kernel) (by decide) ?_
    refine g_sub (lo2 := [(2, 49), (0, x1), (0, (w32 (x2 + 1)))]) (lsb_v (lsb_v (lsb_v lsb_e))) ?_
    obtain rfl := Option.some.inj h
    exact kb x1 (w32 (x2 + 1)) d3_ rfl hx1 (w32_c _)
  · replace h := ite_f hc2_ h
    refine g_sub (lo2 := [(9, 0), (9, 0), (9, 0)]) (lsb_c (lsb_c (lsb_c lsb_e))) ?_
    obtain rfl := Option.some.inj h
    exact k0 d rfl 
set_option maxHeartbeats 4000000 in
theorem ok_Po_meetPerson_n2 {p : Program} {l : Launch} {e : Env} {s : State} {m : MethodId} {args : Array Value} {below : List Frame} {meth : Method} {c : Code} {D : va_G} {cA : Nat → ClassId} {ad : Nat → Nat} {A : Nat → Prop} (C : Cx p s m args c prog_8_method_7_code 3 "PollBooks$Poll" D cA ad 0 A) {Q : State → Prop} {x : (Dt)} : ∀ (n : Nat) (x1 x2 : Int) (d : Dt), c32 x1 → c32 x2 → lpF (fun q : Int × Int × Dt => L_Po_meetPerson_y2 q.1 q.2.1 q.2.2) n (x1, x2, d) = some x → (∀ (e' : Dt), x = (e') → G p l e rm_Po_meetPerson s m args below meth c 0 0 Q 3 D cA ad 0 A 27 [(9, 0), (9, 0), (9, 0)] [] e') → G p l e rm_Po_meetPerson s m args below meth c 0 0 Q 3 D cA ad 0 A 2 [(2, 49), (0, x1), (0, x2)] [] d := by
  intro n
  induction n with
  | zero => intro x1 x2 d g0 g1 h k0; cases h
  | succ n ih =>
    intro x1 x2 d g0 g1 h k0
    rcases lpF_some h with h | ⟨⟨v0_, v1_, e0_⟩, h1, h⟩
    · exact ok_Po_meetPerson_y2 C x1 x2 d g0 g1 h (fun z0_ z1_ e1_ eq w0_ w1_ => by cases eq) (fun e1_ eq => k0 _ (by cases eq; rfl) )
    · exact ok_Po_meetPerson_y2 C x1 x2 d g0 g1 h1 (fun z0_ z1_ e1_ eq w0_ w1_ => by cases eq; exact ih _ _ _ w0_ w1_ h k0) (fun e1_ eq => by cases eq)
set_option maxHeartbeats 4000000 in
theorem ok_Po_meetPerson_l2 {p : Program} {l : Launch} {e : Env} {s : State} {m : MethodId} {args : Array Value} {below : List Frame} {meth : Method} {c : Code} {D : va_G} {cA : Nat → ClassId} {ad : Nat → Nat} {A : Nat → Prop} (C : Cx p s m args c prog_8_method_7_code 3 "PollBooks$Poll" D cA ad 0 A) {Q : State → Prop} {x : (Dt)} (x1 x2 : Int) (d : Dt) (hx1 : c32 x1) (hx2 : c32 x2) (h : L_Po_meetPerson_l2 x1 x2 d = some x) (k0 : ∀ (e' : Dt), x = (e') → G p l e rm_Po_meetPerson s m args below meth c 0 0 Q 3 D cA ad 0 A 27 [(9, 0), (9, 0), (9, 0)] [] e') : G p l e rm_Po_meetPerson s m args below meth c 0 0 Q 3 D cA ad 0 A 2 [(2, 49), (0, x1), (0, x2)] [] d :=
  ok_Po_meetPerson_n2 C FU x1 x2 d hx1 hx2 h k0
set_option maxHeartbeats 4000000 in
theorem ok_Po_meetPerson {l : Launch} {r : Int} {d' : Dt} (p1 : Int) (d : Dt) (hp1 : c32 p1) (h : L_Po_meetPerson p1 d = some (r, d')) : MC l y_Po_meetPerson prog_8_method_7_code 3 none rm_Po_meetPerson 0 [(2, 49), (0, p1)] d none d' := by
  refine MC.of (by decide) (Nat.le_of_ble_eq_true rfl) ?_
  intro p e s m args below meth c D cA ad A C hlk hr
  replace C : Cx p s m args c prog_8_method_7_code 3 "PollBooks$Poll" D cA ad 0 A := C
  show G p l e rm_Po_meetPerson s m args below meth c 0 0 (MQ below (fun _ => QC D cA ad 0 A none none d') args s 0 0 A) 3 D cA ad 0 A 0 [(2, 49), (0, p1)] [] d
  refine g_sub (lo2 := [(2, 49), (0, p1), (9, 0)]) (lsb_v (lsb_v (lsb_n lsb_e))) ?_
  unfold L_Po_meetPerson at h
  refine g_iconst C 0 (cK rfl) (by decide +kernel) ?_
  refine s_istore_n C 2 (lo' := [(2, 49), (0, p1), (0, 0)]) (by decide) (s1k (s1n (by decide) s1z)) (by decide +kernel) ?_
  refine g_sub (lo2 := [(2, 49), (0, p1), (0, 0)]) (lsb_v (lsb_v (lsb_v lsb_e))) ?_
  obtain ⟨x7_, hx8_, h⟩ := lb_some h
  refine ok_Po_meetPerson_l2 C p1 0 d hp1 (c32_cb (Or.inl rfl)) hx8_ (fun d9_ eq10_ => ?_)
  replace eq10_ := eq10_.symm
  subst eq10_
  replace h := u0_e h
  obtain ⟨rfl, rfl⟩ := ret_inj h
  exact g_vret C hlk hr (by decide +kernel)
/-! PollBooks.person(JII)I -/
def y_PB_person : MethodName := ⟨"PollBooks", "person", "(JII)I"⟩
def rm_PB_person : Room := { frames := 5, cells := 0, slots := 0, locals := 125 }
theorem mw_PB_person : MW y_PB_person prog_1_method_10_code 7 (some .int) 3 := ⟨lk_606, lk_1, by decide +kernel⟩
def L_PB_person_b59 (x1 x3 x4 s1 : Int) (d : Dt) : Option (Int × Dt) :=
  if s1 = 0 then bd (L_Pe_add x1 x3 x4 (up2 d 0 0 s1)) (fun r4_ d3_ => bd (L_Po_meetPerson r4_ d3_) (fun r8_ d7_ => some (r4_, d7_))) else some ((-1), (up2 d 0 0 s1))
def L_PB_person_b32 (x1 x3 x4 s0 : Int) (d : Dt) : Option (Int × Dt) :=
  if s0 = 0 then L_PB_person_b59 x1 x3 x4 1 d else bd (L_Pe_isFull d) (fun r13_ d12_ => if r13_ = 0 then L_PB_person_b59 x1 x3 x4 0 d12_ else L_PB_person_b59 x1 x3 x4 4 d12_)
def L_PB_person (p1 p2 p3 : Int) (d : Dt) : Option (Int × Dt) :=
  bd (L_PB_isName p1 d) (fun r18_ d17_ => if r18_ = 0 then L_PB_person_b32 p1 p2 p3 0 d17_ else bd (L_PB_within p2 0 19 d17_) (fun r23_ d22_ => if r23_ = 0 then L_PB_person_b32 p1 p2 p3 0 d22_ else bd (L_PB_isPlace p3 d22_) (fun r28_ d27_ => if r28_ = 0 then L_PB_person_b32 p1 p2 p3 0 d27_ else L_PB_person_b32 p1 p2 p3 1 d27_)))
set_option maxHeartbeats 4000000 in
theorem ok_PB_person_b59 {p : Program} {l : Launch} {e : Env} {s : State} {m : MethodId} {args : Array Value} {below : List Frame} {meth : Method} {c : Code} {D : va_G} {cA : Nat → ClassId} {ad : Nat → Nat} {A : Nat → Prop} (C : Cx p s m args c prog_1_method_10_code 7 "PollBooks" D cA ad 0 A) (hlk : meth.locks = false) (hr : meth.sig.returnType = (some .int)) {r : Int} {d' : Dt} (x1 x3 x4 s1 : Int) (d : Dt) (hx1 : c64 x1) (hx3 : c32 x3) (hx4 : c32 x4) (hs1 : c32 s1) (h : L_PB_person_b59 x1 x3 x4 s1 d = some (r, d')) : G p l e rm_PB_person s m args below meth c 0 0 (MQ below (fun _ => QC D cA ad 0 A (some .int) (some (0, r)) d') args s 0 0 A) 7 D cA ad 0 A 59 [(2, 0), (1, x1), (9, 0), (0, x3), (0, x4), (9, 0), (9, 0)] [(0, s1), (2, 0)] d := by
  unfold L_PB_person_b59 at h
  refine g_putI C cl11 0 0 hs1 rfl cd_A0 ⟨by decide, rfl, by decide⟩ rfl (nA (by decide)) (ix := 9) lk_467 rfl rfl (by decide +kernel) ?_
  refine g_aload_n C 0 rfl (by decide +kernel) ?_
  refine g_getI C cl11 0 0 rfl cd_A0 ⟨by decide, rfl, by decide⟩ rfl (nA (by decide)) (ix := 9) lk_467 (by decide +kernel) (fun hc1_ => ?_)
  refine g_val (y := s1) rfl ?_
  replace hc1_ : c32 s1 := hc1_
  refine g_if_eq C (off := 5) (tgt := 71) hc1_ (by decide +kernel) (by decide) (fun hc2_ => ?_) (fun hc2_ => ?_)
  · replace h := ite_t hc2_ h
    refine g_aload_n C 0 rfl (by decide +kernel) ?_
    refine g_getR C cl11 0 2 7 rfl cd_A0 ⟨by decide, rfl, by decide⟩ rfl rfl (nA (by decide)) (ix := 23) lk_469 (by decide +kernel) ?_
    refine g_lload_n C 1 rfl (by decide +kernel) ?_
    refine g_iload_n C 3 rfl (by decide +kernel) ?_
    refine g_iload C 4 rfl (by decide +kernel) ?_
    obtain ⟨r4_, d3_, hr5_, h⟩ := bd_some h
    refine g_callV C mw_Pe_add [(1, x1), (0, x3), (0, x4)] 7 cl5 rfl (ok_Pe_add x1 x3 x4 (up2 d 0 0 s1) hx1 hx3 hx4 hr5_) cd_A7 (by decide) (nA (by decide)) (ix := 165) lk_616 lk_617 lk_618 ⟨rfl, rfl, Nat.le_of_ble_eq_true rfl, Nat.le_of_ble_eq_true rfl⟩ rfl (rest := []) rfl (Nat.le_of_ble_eq_true rfl) ⟨Nat.zero_le _, Nat.zero_le _⟩ (by decide +kernel) (fun _ hc6_ => ?_)
    replace hc6_ : c32 r4_ := hc6_
    refine g_st (st2 := [(0, r4_)]) rfl ?_
    refine s_istore C 6 (lo' := [(2, 0), (1, x1), (9, 0), (0, x3), (0, x4), (9, 0), (0, r4_)]) (by decide) (s1k (s1k (s1k (s1k (s1k (s1n (by decide) s1z)))))) (by decide +kernel) ?_
    refine g_aload_n C 0 rfl (by decide +kernel) ?_
    refine g_getR C cl11 0 7 49 rfl cd_A0 ⟨by decide, rfl, by decide⟩ rfl rfl (nA (by decide)) (ix := 64) lk_474 (by decide +kernel) ?_
    refine g_iload C 6 rfl (by decide +kernel) ?_
    obtain ⟨r8_, d7_, hr9_, h⟩ := bd_some h
    refine g_callV C mw_Po_meetPerson [(0, r4_)] 49 cl6 rfl (ok_Po_meetPerson r4_ d3_ hc6_ hr9_) cd_A49 (by decide) (nA (by decide)) (ix := 169) lk_620 lk_621 lk_622 ⟨rfl, rfl, Nat.le_of_ble_eq_true rfl, Nat.le_of_ble_eq_true rfl⟩ rfl (rest := []) rfl (Nat.le_of_ble_eq_true rfl) ⟨Nat.zero_le _, Nat.zero_le _⟩ (by decide +kernel) (fun _ hc10_ => ?_)
    refine g_st (st2 := []) rfl ?_
    refine g_iload C 6 rfl (by decide +kernel) ?_
    obtain ⟨rfl, rfl⟩ := ret_inj h
    exact g_iret C hc6_ hlk hr (by decide +kernel)
  · replace h := ite_f hc2_ h
    refine g_iconst C (-1) (cK rfl) (by decide +kernel) ?_
    obtain ⟨rfl, rfl⟩ := ret_inj h
    exact g_iret C (cK rfl) hlk hr (by decide +kernel)
set_option maxHeartbeats 4000000 in
theorem ok_PB_person_b32 {p : Program} {l : Launch} {e : Env} {s : State} {m : MethodId} {args : Array Value} {below : List Frame} {meth : Method} {c : Code} {D : va_G} {cA : Nat → ClassId} {ad : Nat → Nat} {A : Nat → Prop} (C : Cx p s m args c prog_1_method_10_code 7 "PollBooks" D cA ad 0 A) (hlk : meth.locks = false) (hr : meth.sig.returnType = (some .int)) {r : Int} {d' : Dt} (x1 x3 x4 s0 : Int) (d : Dt) (hx1 : c64 x1) (hx3 : c32 x3) (hx4 : c32 x4) (hs0 : cb s0) (h : L_PB_person_b32 x1 x3 x4 s0 d = some (r, d')) : G p l e rm_PB_person s m args below meth c 0 0 (MQ below (fun _ => QC D cA ad 0 A (some .int) (some (0, r)) d') args s 0 0 A) 7 D cA ad 0 A 32 [(2, 0), (1, x1), (9, 0), (0, x3), (0, x4), (9, 0), (9, 0)] [(0, s0)] d := by
  unfold L_PB_person_b32 at h
  refine s_istore C 5 (lo' := [(2, 0), (1, x1), (9, 0), (0, x3), (0, x4), (0, s0), (9, 0)]) (by decide) (s1k (s1k (s1k (s1k (s1n (by decide) s1z))))) (by decide +kernel) ?_
  refine g_aload_n C 0 rfl (by decide +kernel) ?_
  refine g_iload C 5 rfl (by decide +kernel) ?_
  refine g_if_ne C (off := 7) (tgt := 44) (c32_cb hs0) (by decide +kernel) (by decide) (fun hc11_ => ?_) (fun hc11_ => ?_)
  · replace h := ite_t hc11_ h
    refine g_iconst C 1 (cK rfl) (by decide +kernel) ?_
    refine g_goto C 59 (off := 18) (by decide +kernel) (by decide) ?_
    refine g_sub (lo2 := [(2, 0), (1, x1), (9, 0), (0, x3), (0, x4), (9, 0), (9, 0)]) (lsb_v (lsb_v (lsb_c (lsb_v (lsb_v (lsb_c (lsb_c lsb_e))))))) ?_
    exact ok_PB_person_b59 C hlk hr x1 x3 x4 1 d hx1 hx3 hx4 (c32_cb (Or.inr rfl)) h
  · replace h := ite_f hc11_ h
    refine g_aload_n C 0 rfl (by decide +kernel) ?_
    refine g_getR C cl11 0 2 7 rfl cd_A0 ⟨by decide, rfl, by decide⟩ rfl rfl (nA (by decide)) (ix := 23) lk_469 (by decide +kernel) ?_
    obtain ⟨r13_, d12_, hr14_, h⟩ := bd_some h
    refine g_callV C mw_Pe_isFull [] 7 cl5 rfl (ok_Pe_isFull  d  hr14_) cd_A7 (by decide) (nA (by decide)) (ix := 161) lk_612 lk_613 lk_614 ⟨rfl, rfl, Nat.le_of_ble_eq_true rfl, Nat.le_of_ble_eq_true rfl⟩ rfl (rest := [(2, 0)]) rfl (Nat.le_of_ble_eq_true rfl) ⟨Nat.zero_le _, Nat.zero_le _⟩ (by decide +kernel) (fun _ hc15_ => ?_)
    replace hc15_ : cb r13_ := hc15_
    refine g_st (st2 := [(0, r13_), (2, 0)]) rfl ?_
    refine g_if_eq C (off := 7) (tgt := 58) (c32_cb hc15_) (by decide +kernel) (by decide) (fun hc16_ => ?_) (fun hc16_ => ?_)
    · replace h := ite_t hc16_ h
      refine g_iconst C 0 (cK rfl) (by decide +kernel) ?_
      refine g_sub (lo2 := [(2, 0), (1, x1), (9, 0), (0, x3), (0, x4), (9, 0), (9, 0)]) (lsb_v (lsb_v (lsb_c (lsb_v (lsb_v (lsb_c (lsb_c lsb_e))))))) ?_
      exact ok_PB_person_b59 C hlk hr x1 x3 x4 0 d12_ hx1 hx3 hx4 (c32_cb (Or.inl rfl)) h
    · replace h := ite_f hc16_ h
      refine g_iconst C 4 (cK rfl) (by decide +kernel) ?_
      refine g_goto C 59 (off := 4) (by decide +kernel) (by decide) ?_
      refine g_sub (lo2 := [(2, 0), (1, x1), (9, 0), (0, x3), (0, x4), (9, 0), (9, 0)]) (lsb_v (lsb_v (lsb_c (lsb_v (lsb_v (lsb_c (lsb_c lsb_e))))))) ?_
      exact ok_PB_person_b59 C hlk hr x1 x3 x4 4 d12_ hx1 hx3 hx4 (cK rfl) h
set_option maxHeartbeats 4000000 in
theorem ok_PB_person {l : Launch} {r : Int} {d' : Dt} (p1 p2 p3 : Int) (d : Dt) (hp1 : c64 p1) (hp2 : c32 p2) (hp3 : c32 p3) (h : L_PB_person p1 p2 p3 d = some (r, d')) : MC l y_PB_person prog_1_method_10_code 7 (some .int) rm_PB_person 0 [(2, 0), (1, p1), (0, p2), (0, p3)] d (some (0, r)) d' := by
  refine MC.of (by decide) (Nat.le_of_ble_eq_true rfl) ?_
  intro p e s m args below meth c D cA ad A C hlk hr
  replace C : Cx p s m args c prog_1_method_10_code 7 "PollBooks" D cA ad 0 A := C
  show G p l e rm_PB_person s m args below meth c 0 0 (MQ below (fun _ => QC D cA ad 0 A (some .int) (some (0, r)) d') args s 0 0 A) 7 D cA ad 0 A 0 [(2, 0), (1, p1), (9, 0), (0, p2), (0, p3)] [] d
  refine g_sub (lo2 := [(2, 0), (1, p1), (9, 0), (0, p2), (0, p3), (9, 0), (9, 0)]) (lsb_v (lsb_v (lsb_c (lsb_v (lsb_v (lsb_n (lsb_n lsb_e))))))) ?_
  unfold L_PB_person at h
  refine g_lload_n C 1 rfl (by decide +kernel) ?_
  obtain ⟨r18_, d17_, hr19_, h⟩ := bd_some h
  refine g_callS C mw_PB_isName [(1, p1)] (ok_PB_isName p1 d hp1 hr19_) (ix := 148) lk_589 lk_590 ⟨rfl, rfl, Nat.le_of_ble_eq_true rfl, Nat.le_of_ble_eq_true rfl⟩ rfl (rest := []) rfl (Nat.le_of_ble_eq_true rfl) ⟨Nat.zero_le _, Nat.zero_le _⟩ (by decide +kernel) (fun _ hc20_ => ?_)
  replace hc20_ : cb r18_ := hc20_
  refine g_st (st2 := [(0, r18_)]) rfl ?_
  refine g_if_eq C (off := 27) (tgt := 31) (c32_cb hc20_) (by decide +kernel) (by decide) (fun hc21_ => ?_) (fun hc21_ => ?_)
  · replace h := ite_t hc21_ h
    refine g_iconst C 0 (cK rfl) (by decide +kernel) ?_
    refine g_sub (lo2 := [(2, 0), (1, p1), (9, 0), (0, p2), (0, p3), (9, 0), (9, 0)]) (lsb_v (lsb_v (lsb_c (lsb_v (lsb_v (lsb_c (lsb_c lsb_e))))))) ?_
    exact ok_PB_person_b32 C hlk hr p1 p2 p3 0 d17_ hp1 hp2 hp3 (Or.inl rfl) h
  · replace h := ite_f hc21_ h
    refine g_iload_n C 3 rfl (by decide +kernel) ?_
    refine g_i2l C hp2 (by decide +kernel) ?_
    refine g_lconst C 0 (v := 0) (by decide) (by decide +kernel) ?_
    refine g_ldc2 C (ix := 156) (v := 19) lk_607 (by decide +kernel) ?_
    obtain ⟨r23_, d22_, hr24_, h⟩ := bd_some h
    refine g_callS C mw_PB_within [(1, p2), (1, 0), (1, 19)] (ok_PB_within p2 0 19 d17_ (c64_32 hp2) (cL rfl) (cL rfl) hr24_) (ix := 105) lk_520 lk_521 ⟨rfl, rfl, Nat.le_of_ble_eq_true rfl, Nat.le_of_ble_eq_true rfl⟩ rfl (rest := []) rfl (Nat.le_of_ble_eq_true rfl) ⟨Nat.zero_le _, Nat.zero_le _⟩ (by decide +kernel) (fun _ hc25_ => ?_)
    replace hc25_ : cb r23_ := hc25_
    refine g_st (st2 := [(0, r23_)]) rfl ?_
    refine g_if_eq C (off := 15) (tgt := 31) (c32_cb hc25_) (by decide +kernel) (by decide) (fun hc26_ => ?_) (fun hc26_ => ?_)
    · replace h := ite_t hc26_ h
      refine g_iconst C 0 (cK rfl) (by decide +kernel) ?_
      refine g_sub (lo2 := [(2, 0), (1, p1), (9, 0), (0, p2), (0, p3), (9, 0), (9, 0)]) (lsb_v (lsb_v (lsb_c (lsb_v (lsb_v (lsb_c (lsb_c lsb_e))))))) ?_
      exact ok_PB_person_b32 C hlk hr p1 p2 p3 0 d22_ hp1 hp2 hp3 (Or.inl rfl) h
    · replace h := ite_f hc26_ h
      refine g_iload C 4 rfl (by decide +kernel) ?_
      obtain ⟨r28_, d27_, hr29_, h⟩ := bd_some h
      refine g_callS C mw_PB_isPlace [(0, p3)] (ok_PB_isPlace p3 d22_ hp3 hr29_) (ix := 158) lk_608 lk_609 ⟨rfl, rfl, Nat.le_of_ble_eq_true rfl, Nat.le_of_ble_eq_true rfl⟩ rfl (rest := []) rfl (Nat.le_of_ble_eq_true rfl) ⟨Nat.zero_le _, Nat.zero_le _⟩ (by decide +kernel) (fun _ hc30_ => ?_)
      replace hc30_ : cb r28_ := hc30_
      refine g_st (st2 := [(0, r28_)]) rfl ?_
      refine g_if_eq C (off := 7) (tgt := 31) (c32_cb hc30_) (by decide +kernel) (by decide) (fun hc31_ => ?_) (fun hc31_ => ?_)
      · replace h := ite_t hc31_ h
        refine g_iconst C 0 (cK rfl) (by decide +kernel) ?_
        refine g_sub (lo2 := [(2, 0), (1, p1), (9, 0), (0, p2), (0, p3), (9, 0), (9, 0)]) (lsb_v (lsb_v (lsb_c (lsb_v (lsb_v (lsb_c (lsb_c lsb_e))))))) ?_
        exact ok_PB_person_b32 C hlk hr p1 p2 p3 0 d27_ hp1 hp2 hp3 (Or.inl rfl) h
      · replace h := ite_f hc31_ h
        refine g_iconst C 1 (cK rfl) (by decide +kernel) ?_
        refine g_goto C 32 (off := 4) (by decide +kernel) (by decide) ?_
        refine g_sub (lo2 := [(2, 0), (1, p1), (9, 0), (0, p2), (0, p3), (9, 0), (9, 0)]) (lsb_v (lsb_v (lsb_c (lsb_v (lsb_v (lsb_c (lsb_c lsb_e))))))) ?_
        exact ok_PB_person_b32 C hlk hr p1 p2 p3 1 d27_ hp1 hp2 hp3 (Or.inr rfl) h
/-! PollBooks$People.has(I)Z -/
def y_Pe_has : MethodName := ⟨"PollBooks$People", "has", "(I)Z"⟩
def rm_Pe_has : Room := { frames := 0, cells := 0, slots := 0, locals := 0 }
theorem mw_Pe_has : MW y_Pe_has prog_7_method_3_code 2 (some .boolean) 1 := ⟨lk_640, lk_4, by decide +kernel⟩
def L_Pe_has (p1 : Int) (d : Dt) : Option (Int × Dt) :=
  if p1 < 0 then some (0, d) else if p1 < (d 7 3) then some (1, d) else some (0, d)
set_option maxHeartbeats 4000000 in
theorem ok_Pe_has {l : Launch} {r : Int} {d' : Dt} (p1 : Int) (d : Dt) (hp1 : c32 p1) (h : L_Pe_has p1 d = some (r, d')) : MC l y_Pe_has prog_7_method_3_code 2 (some .boolean) rm_Pe_has 0 [(2, 7), (0, p1)] d (some (0, r)) d' := by
  refine MC.of (by decide) (Nat.le_of_ble_eq_true rfl) ?_
  intro p e s m args below meth c D cA ad A C hlk hr
  replace C : Cx p s m args c prog_7_method_3_code 2 "PollBooks$People" D cA ad 0 A := C
  show G p l e rm_Pe_has s m args below meth c 0 0 (MQ below (fun _ => QC D cA ad 0 A (some .boolean) (some (0, r)) d') args s 0 0 A) 2 D cA ad 0 A 0 [(2, 7), (0, p1)] [] d
  refine g_sub (lo2 := [(2, 7), (0, p1)]) (lsb_v (lsb_v lsb_e)) ?_
  unfold L_Pe_has at h
  refine g_iload_n C 1 rfl (by decide +kernel) ?_
  refine g_if_lt C (off := 15) (tgt := 16) hp1 (by decide +kernel) (by decide) (fun hc1_ => ?_) (fun hc1_ => ?_)
  · replace h := ite_t hc1_ h
    refine g_iconst C 0 (cK rfl) (by decide +kernel) ?_
    obtain ⟨rfl, rfl⟩ := ret_inj h
    exact g_zret C (Or.inl rfl) hlk hr (by decide +kernel)
  · replace h := ite_f hc1_ h
    refine g_iload_n C 1 rfl (by decide +kernel) ?_
    refine g_aload_n C 0 rfl (by decide +kernel) ?_
    refine g_getI C cl5 7 3 rfl cd_A7 ⟨by decide, rfl, by decide⟩ rfl (nA (by decide)) (ix := 20) lk_64 (by decide +kernel) (fun hc2_ => ?_)
    refine g_icmp_ge C (off := 7) (tgt := 16) hp1 hc2_ (by decide +kernel) (by decide) (fun hc3_ => ?_) (fun hc3_ => ?_)
    · replace h := ite_t hc3_ h
      refine g_iconst C 1 (cK rfl) (by decide +kernel) ?_
      refine g_goto C 17 (off := 4) (by decide +kernel) (by decide) ?_
      obtain ⟨rfl, rfl⟩ := ret_inj h
      exact g_zret C (Or.inr rfl) hlk hr (by decide +kernel)
    · replace h := ite_f hc3_ h
      refine g_iconst C 0 (cK rfl) (by decide +kernel) ?_
      obtain ⟨rfl, rfl⟩ := ret_inj h
      exact g_zret C (Or.inl rfl) hlk hr (by decide +kernel)
/-! PollBooks.isDay(I)Z -/
def y_PB_isDay : MethodName := ⟨"PollBooks", "isDay", "(I)Z"⟩
def rm_PB_isDay : Room := { frames := 1, cells := 0, slots := 0, locals := 25 }
theorem mw_PB_isDay : MW y_PB_isDay prog_1_method_53_code 1 (some .boolean) 1 := ⟨lk_645, lk_1, by decide +kernel⟩
def L_PB_isDay (p1 : Int) (d : Dt) : Option (Int × Dt) :=
  bd (L_PB_within p1 0 9999 d) (fun r2_ d1_ => some (r2_, d1_))
set_option maxHeartbeats 4000000 in
theorem ok_PB_isDay {l : Launch} {r : Int} {d' : Dt} (p1 : Int) (d : Dt) (hp1 : c32 p1) (h : L_PB_isDay p1 d = some (r, d')) : MC l y_PB_isDay prog_1_method_53_code 1 (some .boolean) rm_PB_isDay 0 [(0, p1)] d (some (0, r)) d' := by
  refine MC.of (by decide) (Nat.le_of_ble_eq_true rfl) ?_
  intro p e s m args below meth c D cA ad A C hlk hr
  replace C : Cx p s m args c prog_1_method_53_code 1 "PollBooks" D cA ad 0 A := C
  show G p l e rm_PB_isDay s m args below meth c 0 0 (MQ below (fun _ => QC D cA ad 0 A (some .boolean) (some (0, r)) d') args s 0 0 A) 1 D cA ad 0 A 0 [(0, p1)] [] d
  refine g_sub (lo2 := [(0, p1)]) (lsb_v lsb_e) ?_
  unfold L_PB_isDay at h
  refine g_iload_n C 0 rfl (by decide +kernel) ?_
  refine g_i2l C hp1 (by decide +kernel) ?_
  refine g_lconst C 0 (v := 0) (by decide) (by decide +kernel) ?_
  refine g_ldc2 C (ix := 438) (v := 9999) lk_646 (by decide +kernel) ?_
  obtain ⟨r2_, d1_, hr3_, h⟩ := bd_some h
  refine g_callS C mw_PB_within [(1, p1), (1, 0), (1, 9999)] (ok_PB_within p1 0 9999 d (c64_32 hp1) (cL rfl) (cL rfl) hr3_) (ix := 105) lk_520 lk_521 ⟨rfl, rfl, Nat.le_of_ble_eq_true rfl, Nat.le_of_ble_eq_true rfl⟩ rfl (rest := []) rfl (Nat.le_of_ble_eq_true rfl) ⟨Nat.zero_le _, Nat.zero_le _⟩ (by decide +kernel) (fun _ hc4_ => ?_)
  replace hc4_ : cb r2_ := hc4_
  refine g_st (st2 := [(0, r2_)]) rfl ?_
  obtain ⟨rfl, rfl⟩ := ret_inj h
  exact g_zret C hc4_ hlk hr (by decide +kernel)
/-! PollBooks$Records.holdingsFull()Z -/
def y_Re_holdingsFull : MethodName := ⟨"PollBooks$Records", "holdingsFull", "()Z"⟩
def rm_Re_holdingsFull : Room := { frames := 0, cells := 0, slots := 0, locals := 0 }
theorem mw_Re_holdingsFull : MW y_Re_holdingsFull prog_9_method_2_code 1 (some .boolean) 0 := ⟨lk_650, lk_5, by decide +kernel⟩
def L_Re_holdingsFull (d : Dt) : Option (Int × Dt) :=
  if (d 11 9) < 80 then some (0, d) else some (1, d)
set_option maxHeartbeats 4000000 in
theorem ok_Re_holdingsFull {l : Launch} {r : Int} {d' : Dt} (d : Dt)  (h : L_Re_holdingsFull d = some (r, d')) : MC l y_Re_holdingsFull prog_9_method_2_code 1 (some .boolean) rm_Re_holdingsFull 0 [(2, 11)] d (some (0, r)) d' := by
  refine MC.of (by decide) (Nat.le_of_ble_eq_true rfl) ?_
  intro p e s m args below meth c D cA ad A C hlk hr
  replace C : Cx p s m args c prog_9_method_2_code 1 "PollBooks$Records" D cA ad 0 A := C
  show G p l e rm_Re_holdingsFull s m args below meth c 0 0 (MQ below (fun _ => QC D cA ad 0 A (some .boolean) (some (0, r)) d') args s 0 0 A) 1 D cA ad 0 A 0 [(2, 11)] [] d
  refine g_sub (lo2 := [(2, 11)]) (lsb_v lsb_e) ?_
  unfold L_Re_holdingsFull at h
  refine g_aload_n C 0 rfl (by decide +kernel) ?_
  refine g_getI C cl7 11 9 rfl cd_A11 ⟨by decide, rfl, by decide⟩ rfl (nA (by decide)) (ix := 59) lk_90 (by decide +kernel) (fun hc1_ => ?_)
  refine g_bipush C 80 (by decide) (by decide +kernel) ?_
  refine g_icmp_lt C (off := 7) (tgt := 13) hc1_ (cK rfl) (by decide +kernel) (by decide) (fun hc2_ => ?_) (fun hc2_ => ?_)
  · replace h := ite_t hc2_ h
    refine g_iconst C 0 (cK rfl) (by decide +kernel) ?_
    obtain ⟨rfl, rfl⟩ := ret_inj h
    exact g_zret C (Or.inl rfl) hlk hr (by decide +kernel)
  · replace h := ite_f hc2_ h
    refine g_iconst C 1 (cK rfl) (by decide +kernel) ?_
    refine g_goto C 14 (off := 4) (by decide +kernel) (by decide) ?_
    obtain ⟨rfl, rfl⟩ := ret_inj h
    exact g_zret C (Or.inr rfl) hlk hr (by decide +kernel)
/-! PollBooks$Records.isGone(I)Z -/
def y_Re_isGone : MethodName := ⟨"PollBooks$Records", "isGone", "(I)Z"⟩
def rm_Re_isGone : Room := { frames := 0, cells := 0, slots := 0, locals := 0 }
theorem mw_Re_isGone : MW y_Re_isGone prog_9_method_5_code 2 (some .boolean) 1 := ⟨lk_658, lk_5, by decide +kernel⟩
def L_Re_isGone (p1 : Int) (d : Dt) : Option (Int × Dt) :=
  if p1 < (d 11 2) then some (1, d) else some (0, d)
set_option maxHeartbeats 4000000 in
theorem ok_Re_isGone {l : Launch} {r : Int} {d' : Dt} (p1 : Int) (d : Dt) (hp1 : c32 p1) (h : L_Re_isGone p1 d = some (r, d')) : MC l y_Re_isGone prog_9_method_5_code 2 (some .boolean) rm_Re_isGone 0 [(2, 11), (0, p1)] d (some (0, r)) d' := by
  refine MC.of (by decide) (Nat.le_of_ble_eq_true rfl) ?_
  intro p e s m args below meth c D cA ad A C hlk hr
  replace C : Cx p s m args c prog_9_method_5_code 2 "PollBooks$Records" D cA ad 0 A := C
  show G p l e rm_Re_isGone s m args below meth c 0 0 (MQ below (fun _ => QC D cA ad 0 A (some .boolean) (some (0, r)) d') args s 0 0 A) 2 D cA ad 0 A 0 [(2, 11), (0, p1)] [] d
  refine g_sub (lo2 := [(2, 11), (0, p1)]) (lsb_v (lsb_v lsb_e)) ?_
  unfold L_Re_isGone at h
  refine g_iload_n C 1 rfl (by decide +kernel) ?_
  refine g_aload_n C 0 rfl (by decide +kernel) ?_
  refine g_getI C cl7 11 2 rfl cd_A11 ⟨by decide, rfl, by decide⟩ rfl (nA (by decide)) (ix := 68) lk_83 (by decide +kernel) (fun hc1_ => ?_)
  refine g_icmp_ge C (off := 7) (tgt := 12) hp1 hc1_ (by decide +kernel) (by decide) (fun hc2_ => ?_) (fun hc2_ => ?_)
  · replace h := ite_t hc2_ h
    refine g_iconst C 1 (cK rfl) (by decide +kernel) ?_
    refine g_goto C 13 (off := 4) (by decide +kernel) (by decide) ?_
    obtain ⟨rfl, rfl⟩ := ret_inj h
    exact g_zret C (Or.inr rfl) hlk hr (by decide +kernel)
  · replace h := ite_f hc2_ h
    refine g_iconst C 0 (cK rfl) (by decide +kernel) ?_
    obtain ⟨rfl, rfl⟩ := ret_inj h
    exact g_zret C (Or.inl rfl) hlk hr (by decide +kernel)
/-! PollBooks.recordStatus(ZZI)I -/
def y_PB_recordStatus : MethodName := ⟨"PollBooks", "recordStatus", "(ZZI)I"⟩
def rm_PB_recordStatus : Room := { frames := 1, cells := 0, slots := 0, locals := 21 }
theorem mw_PB_recordStatus : MW y_PB_recordStatus prog_1_method_16_code 4 (some .int) 3 := ⟨lk_654, lk_1, by decide +kernel⟩
def L_PB_recordStatus (p1 p2 p3 : Int) (d : Dt) : Option (Int × Dt) :=
  if p1 = 0 then some (1, d) else if p2 = 0 then bd (L_Re_isGone p3 d) (fun r4_ d3_ => if r4_ = 0 then some (0, d3_) else some (5, d3_)) else some (4, d)
set_option maxHeartbeats 4000000 in
theorem ok_PB_recordStatus {l : Launch} {r : Int} {d' : Dt} (p1 p2 p3 : Int) (d : Dt) (hp1 : cb p1) (hp2 : cb p2) (hp3 : c32 p3) (h : L_PB_recordStatus p1 p2 p3 d = some (r, d')) : MC l y_PB_recordStatus prog_1_method_16_code 4 (some .int) rm_PB_recordStatus 0 [(2, 0), (0, p1), (0, p2), (0, p3)] d (some (0, r)) d' := by
  refine MC.of (by decide) (Nat.le_of_ble_eq_true rfl) ?_
  intro p e s m args below meth c D cA ad A C hlk hr
  replace C : Cx p s m args c prog_1_method_16_code 4 "PollBooks" D cA ad 0 A := C
  show G p l e rm_PB_recordStatus s m args below meth c 0 0 (MQ below (fun _ => QC D cA ad 0 A (some .int) (some (0, r)) d') args s 0 0 A) 4 D cA ad 0 A 0 [(2, 0), (0, p1), (0, p2), (0, p3)] [] d
  refine g_sub (lo2 := [(2, 0), (0, p1), (0, p2), (0, p3)]) (lsb_v (lsb_v (lsb_v (lsb_v lsb_e)))) ?_
  unfold L_PB_recordStatus at h
  refine g_iload_n C 1 rfl (by decide +kernel) ?_
  refine g_if_ne C (off := 5) (tgt := 6) (c32_cb hp1) (by decide +kernel) (by decide) (fun hc1_ => ?_) (fun hc1_ => ?_)
  · replace h := ite_t hc1_ h
    refine g_iconst C 1 (cK rfl) (by decide +kernel) ?_
    obtain ⟨rfl, rfl⟩ := ret_inj h
    exact g_iret C (c32_cb (Or.inr rfl)) hlk hr (by decide +kernel)
  · replace h := ite_f hc1_ h
    refine g_iload_n C 2 rfl (by decide +kernel) ?_
    refine g_if_eq C (off := 5) (tgt := 12) (c32_cb hp2) (by decide +kernel) (by decide) (fun hc2_ => ?_) (fun hc2_ => ?_)
    · replace h := ite_t hc2_ h
      refine g_aload_n C 0 rfl (by decide +kernel) ?_
      refine g_getR C cl11 0 3 11 rfl cd_A0 ⟨by decide, rfl, by decide⟩ rfl rfl (nA (by decide)) (ix := 32) lk_470 (by decide +kernel) ?_
      refine g_iload_n C 3 rfl (by decide +kernel) ?_
      obtain ⟨r4_, d3_, hr5_, h⟩ := bd_some h
      refine g_callV C mw_Re_isGone [(0, p3)] 11 cl7 rfl (ok_Re_isGone p3 d hp3 hr5_) cd_A11 (by decide) (nA (by decide)) (ix := 216) lk_655 lk_656 lk_657 ⟨rfl, rfl, Nat.le_of_ble_eq_true rfl, Nat.le_of_ble_eq_true rfl⟩ rfl (rest := []) rfl (Nat.le_of_ble_eq_true rfl) ⟨Nat.zero_le _, Nat.zero_le _⟩ (by decide +kernel) (fun _ hc6_ => ?_)
      replace hc6_ : cb r4_ := hc6_
      refine g_st (st2 := [(0, r4_)]) rfl ?_
      refine g_if_eq C (off := 7) (tgt := 27) (c32_cb hc6_) (by decide +kernel) (by decide) (fun hc7_ => ?_) (fun hc7_ => ?_)
      · replace h := ite_t hc7_ h
        refine g_iconst C 0 (cK rfl) (by decide +kernel) ?_
        obtain ⟨rfl, rfl⟩ := ret_inj h
        exact g_iret C (c32_cb (Or.inl rfl)) hlk hr (by decide +kernel)
      · replace h := ite_f hc7_ h
        refine g_iconst C 5 (cK rfl) (by decide +kernel) ?_
        refine g_goto C 28 (off := 4) (by decide +kernel) (by decide) ?_
        obtain ⟨rfl, rfl⟩ := ret_inj h
        exact g_iret C (cK rfl) hlk hr (by decide +kernel)
    · replace h := ite_f hc2_ h
      refine g_iconst C 4 (cK rfl) (by decide +kernel) ?_
      obtain ⟨rfl, rfl⟩ := ret_inj h
      exact g_iret C (cK rfl) hlk hr (by decide +kernel)
/-! PollBooks$Records.addHolding(IIIIII)V -/
def y_Re_addHolding : MethodName := ⟨"PollBooks$Records", "addHolding", "(IIIIII)V"⟩
def rm_Re_addHolding : Room := { frames := 0, cells := 0, slots := 0, locals := 0 }
theorem mw_Re_addHolding : MW y_Re_addHolding prog_9_method_7_code 7 none 6 := ⟨lk_662, lk_5, by decide +kernel⟩
def L_Re_addHolding (p1 p2 p3 p4 p5 p6 : Int) (d : Dt) : Option (Int × Dt) :=
  ck ((0 : Int) ≤ (d 11 9) ∧ (d 11 9) < 80) (ck ((0 : Int) ≤ (d 11 9) ∧ (d 11 9) < 80) (ck ((0 : Int) ≤ (d 11 9) ∧ (d 11 9) < 80) (ck ((0 : Int) ≤ (d 11 9) ∧ (d 11 9) < 80) (ck ((0 : Int) ≤ (d 11 9) ∧ (d 11 9) < 80) (ck ((0 : Int) ≤ (d 11 9) ∧ (d 11 9) < 80) (some (0, (up2 (up2 (up2 (up2 (up2 (up2 (up2 (up2 d 12 ((d 11 9)).toNat p1) 13 ((d 11 9)).toNat p2) 14 ((d 11 9)).toNat p3) 15 ((d 11 9)).toNat p4) 16 ((d 11 9)).toNat p5) 17 ((d 11 9)).toNat p6) 11 9 (w32 ((d 11 9) + 1))) 11 2 p6))))))))
set_option maxHeartbeats 4000000 in
theorem ok_Re_addHolding {l : Launch} {r : Int} {d' : Dt} (p1 p2 p3 p4 p5 p6 : Int) (d : Dt) (hp1 : c32 p1) (hp2 : c32 p2) (hp3 : c32 p3) (hp4 : c32 p4) (hp5 : c32 p5) (hp6 : c32 p6) (h : L_Re_addHolding p1 p2 p3 p4 p5 p6 d = some (r, d')) : MC l y_Re_addHolding prog_9_method_7_code 7 none rm_Re_addHolding 0 [(2, 11), (0, p1), (0, p2), (0, p3), (0, p4), (0, p5), (0, p6)] d none d' := by
  refine MC.of (by decide) (Nat.le_of_ble_eq_true rfl) ?_
  intro p e s m args below meth c D cA ad A C hlk hr
  replace C : Cx p s m args c prog_9_method_7_code 7 "PollBooks$Records" D cA ad 0 A := C
  show G p l e rm_Re_addHolding s m args below meth c 0 0 (MQ below (fun _ => QC D cA ad 0 A none none d') args s 0 0 A) 7 D cA ad 0 A 0 [(2, 11), (0, p1), (0, p2), (0, p3), (0, p4), (0, p5), (0, p6)] [] d
  refine g_sub (lo2 := [(2, 11), (0, p1), (0, p2), (0, p3), (0, p4), (0, p5), (0, p6)]) (lsb_v (lsb_v (lsb_v (lsb_v (lsb_v (lsb_v (lsb_v lsb_e))))))) ?_
  unfold L_Re_addHolding at h
  refine g_aload_n C 0 rfl (by decide +kernel) ?_
  refine g_getR C cl7 11 3 12 rfl cd_A11 ⟨by decide, rfl, by decide⟩ rfl rfl (nA (by decide)) (ix := 15) lk_84 (by decide +kernel) ?_
  refine g_aload_n C 0 rfl (by decide +kernel) ?_
  refine g_getI C cl7 11 9 rfl cd_A11 ⟨by decide, rfl, by decide⟩ rfl (nA (by decide)) (ix := 59) lk_90 (by decide +kernel) (fun hc1_ => ?_)
  refine g_iload_n C 1 rfl (by decide +kernel) ?_
  obtain ⟨hb2_, h⟩ := ck_some h
  refine g_iast C 12 hp1 hc1_ rfl cd_A12 (nA (by decide)) hb2_ (by decide +kernel) ?_
  refine g_aload_n C 0 rfl (by decide +kernel) ?_
  refine g_getR C cl7 11 4 13 rfl cd_A11 ⟨by decide, rfl, by decide⟩ rfl rfl (nA (by decide)) (ix := 19) lk_85 (by decide +kernel) ?_
  refine g_aload_n C 0 rfl (by decide +kernel) ?_
  refine g_getI C cl7 11 9 rfl cd_A11 ⟨by decide, rfl, by decide⟩ rfl (nA (by decide)) (ix := 59) lk_90 (by decide +kernel) (fun hc3_ => ?_)
  refine g_val (y := (d 11 9)) rfl ?_
  replace hc3_ : c32 (d 11 9) := hc3_
  refine g_iload_n C 2 rfl (by decide +kernel) ?_
  obtain ⟨hb4_, h⟩ := ck_some h
  refine g_iast C 13 hp2 hc3_ rfl cd_A13 (nA (by decide)) hb4_ (by decide +kernel) ?_
  refine g_aload_n C 0 rfl (by decide +kernel) ?_
  refine g_getR C cl7 11 5 14 rfl cd_A11 ⟨by decide, rfl, by decide⟩ rfl rfl (nA (by decide)) (ix := 22) lk_86 (by decide +kernel) ?_
  refine g_aload_n C 0 rfl (by decide +kernel) ?_
  refine g_getI C cl7 11 9 rfl cd_A11 ⟨by decide, rfl, by decide⟩ rfl (nA (by decide)) (ix := 59) lk_90 (by decide +kernel) (fun hc5_ => ?_)
  refine g_val (y := (d 11 9)) rfl ?_
  replace hc5_ : c32 (d 11 9) := hc5_
  refine g_iload_n C 3 rfl (by decide +kernel) ?_
  obtain ⟨hb6_, h⟩ := ck_some h
  refine g_iast C 14 hp3 hc5_ rfl cd_A14 (nA (by decide)) hb6_ (by decide +kernel) ?_
  refine g_aload_n C 0 rfl (by decide +kernel) ?_
  refine g_getR C cl7 11 6 15 rfl cd_A11 ⟨by decide, rfl, by decide⟩ rfl rfl (nA (by decide)) (ix := 25) lk_87 (by decide +kernel) ?_
  refine g_aload_n C 0 rfl (by decide +kernel) ?_
  refine g_getI C cl7 11 9 rfl cd_A11 ⟨by decide, rfl, by decide⟩ rfl (nA (by decide)) (ix := 59) lk_90 (by decide +kernel) (fun hc7_ => ?_)
  refine g_val (y := (d 11 9)) rfl ?_
  replace hc7_ : c32 (d 11 9) := hc7_
  refine g_iload C 4 rfl (by decide +kernel) ?_
  obtain ⟨hb8_, h⟩ := ck_some h
  refine g_iast C 15 hp4 hc7_ rfl cd_A15 (nA (by decide)) hb8_ (by decide +kernel) ?_
  refine g_aload_n C 0 rfl (by decide +kernel) ?_
  refine g_getR C cl7 11 7 16 rfl cd_A11 ⟨by decide, rfl, by decide⟩ rfl rfl (nA (by decide)) (ix := 28) lk_88 (by decide +kernel) ?_
  refine g_aload_n C 0 rfl (by decide +kernel) ?_
  refine g_getI C cl7 11 9 rfl cd_A11 ⟨by decide, rfl, by decide⟩ rfl (nA (by decide)) (ix := 59) lk_90 (by decide +kernel) (fun hc9_ => ?_)
  refine g_val (y := (d 11 9)) rfl ?_
  replace hc9_ : c32 (d 11 9) := hc9_
  refine g_iload C 5 rfl (by decide +kernel) ?_
  obtain ⟨hb10_, h⟩ := ck_some h
  refine g_iast C 16 hp5 hc9_ rfl cd_A16 (nA (by decide)) hb10_ (by decide +kernel) ?_
  refine g_aload_n C 0 rfl (by decide +kernel) ?_
  refine g_getR C cl7 11 8 17 rfl cd_A11 ⟨by decide, rfl, by decide⟩ rfl rfl (nA (by decide)) (ix := 31) lk_89 (by decide +kernel) ?_
  refine g_aload_n C 0 rfl (by decide +kernel) ?_
  refine g_getI C cl7 11 9 rfl cd_A11 ⟨by decide, rfl, by decide⟩ rfl (nA (by decide)) (ix := 59) lk_90 (by decide +kernel) (fun hc11_ => ?_)
  refine g_val (y := (d 11 9)) rfl ?_
  replace hc11_ : c32 (d 11 9) := hc11_
  refine g_iload C 6 rfl (by decide +kernel) ?_
  obtain ⟨hb12_, h⟩ := ck_some h
  refine g_iast C 17 hp6 hc11_ rfl cd_A17 (nA (by decide)) hb12_ (by decide +kernel) ?_
  refine g_aload_n C 0 rfl (by decide +kernel) ?_
  refine g_dup C tg2 (by decide +kernel) ?_
  refine g_getI C cl7 11 9 rfl cd_A11 ⟨by decide, rfl, by decide⟩ rfl (nA (by decide)) (ix := 59) lk_90 (by decide +kernel) (fun hc13_ => ?_)
  refine g_val (y := (d 11 9)) rfl ?_
  replace hc13_ : c32 (d 11 9) := hc13_
  refine g_iconst C 1 (cK rfl) (by decide +kernel) ?_
  refine g_iadd C (by decide +kernel) ?_
  refine g_putI C cl7 11 9 (w32_c _) rfl cd_A11 ⟨by decide, rfl, by decide⟩ rfl (nA (by decide)) (ix := 59) lk_90 rfl rfl (by decide +kernel) ?_
  refine g_aload_n C 0 rfl (by decide +kernel) ?_
  refine g_iload C 6 rfl (by decide +kernel) ?_
  refine g_putI C cl7 11 2 hp6 rfl cd_A11 ⟨by decide, rfl, by decide⟩ rfl (nA (by decide)) (ix := 68) lk_83 rfl rfl (by decide +kernel) ?_
  obtain ⟨rfl, rfl⟩ := ret_inj h
  exact g_vret C hlk hr (by decide +kernel)
/-! PollBooks.hold(IIIIII)Z -/
def y_PB_hold : MethodName := ⟨"PollBooks", "hold", "(IIIIII)Z"⟩
def rm_PB_hold : Room := { frames := 2, cells := 0, slots := 0, locals := 45 }
theorem mw_PB_hold : MW y_PB_hold prog_1_method_11_code 8 (some .boolean) 6 := ⟨lk_636, lk_1, by decide +kernel⟩
def L_PB_hold_b115 (d : Dt) : Option (Int × Dt) :=
  if (d 0 0) = 0 then some (1, d) else some (0, d)
def L_PB_hold_b71 (x1 x2 x3 x4 x5 x6 s0 : Int) (d : Dt) : Option (Int × Dt) :=
  bd (L_Re_holdingsFull d) (fun r4_ d3_ => bd (L_PB_recordStatus s0 r4_ x6 d3_) (fun r8_ d7_ => if r8_ = 0 then bd (L_Re_addHolding x1 x2 x3 x4 x5 x6 (up2 d7_ 0 0 r8_)) (fun r14_ d13_ => L_PB_hold_b115 d13_) else L_PB_hold_b115 (up2 d7_ 0 0 r8_)))
def L_PB_hold (p1 p2 p3 p4 p5 p6 : Int) (d : Dt) : Option (Int × Dt) :=
  bd (L_Pe_has p1 d) (fun r18_ d17_ => if r18_ = 0 then L_PB_hold_b71 p1 p2 p3 p4 p5 p6 0 d17_ else bd (L_PB_within p2 0 39 d17_) (fun r23_ d22_ => if r23_ = 0 then L_PB_hold_b71 p1 p2 p3 p4 p5 p6 0 d22_ else bd (L_PB_within p3 1 1000 d22_) (fun r28_ d27_ => if r28_ = 0 then L_PB_hold_b71 p1 p2 p3 p4 p5 p6 0 d27_ else bd (L_PB_isDay p4 d27_) (fun r33_ d32_ => if r33_ = 0 then L_PB_hold_b71 p1 p2 p3 p4 p5 p6 0 d32_ else bd (L_PB_isDay p5 d32_) (fun r38_ d37_ => if r38_ = 0 then L_PB_hold_b71 p1 p2 p3 p4 p5 p6 0 d37_ else if p5 < p4 then L_PB_hold_b71 p1 p2 p3 p4 p5 p6 0 d37_ else bd (L_PB_isDay p6 d37_) (fun r44_ d43_ => if r44_ = 0 then L_PB_hold_b71 p1 p2 p3 p4 p5 p6 0 d43_ else L_PB_hold_b71 p1 p2 p3 p4 p5 p6 1 d43_))))))
set_option maxHeartbeats 4000000 in
theorem ok_PB_hold_b115 {p : Program} {l : Launch} {e : Env} {s : State} {m : MethodId} {args : Array Value} {below : List Frame} {meth : Method} {c : Code} {D : va_G} {cA : Nat → ClassId} {ad : Nat → Nat} {A : Nat → Prop} (C : Cx p s m args c prog_1_method_11_code 8 "PollBooks" D cA ad 0 A) (hlk : meth.locks = false) (hr : meth.sig.returnType = (some .boolean)) {r : Int} {d' : Dt} (d : Dt)  (h : L_PB_hold_b115 d = some (r, d')) : G p l e rm_PB_hold s m args below meth c 0 0 (MQ below (fun _ => QC D cA ad 0 A (some .boolean) (some (0, r)) d') args s 0 0 A) 8 D cA ad 0 A 115 [(2, 0), (9, 0), (9, 0), (9, 0), (9, 0), (9, 0), (9, 0), (9, 0)] [] d := by
  unfold L_PB_hold_b115 at h
  refine g_aload_n C 0 rfl (by decide +kernel) ?_
  refine g_getI C cl11 0 0 rfl cd_A0 ⟨by decide, rfl, by decide⟩ rfl (nA (by decide)) (ix := 9) lk_467 (by decide +kernel) (fun hc1_ => ?_)
  refine g_if_ne C (off := 7) (tgt := 126) hc1_ (by decide +kernel) (by decide) (fun hc2_ => ?_) (fun hc2_ => ?_)
  · replace h := ite_t hc2_ h
    refine g_iconst C 1 (cK rfl) (by decide +kernel) ?_
    refine g_goto C 127 (off := 4) (by decide +kernel) (by decide) ?_
    obtain ⟨rfl, rfl⟩ := ret_inj h
    exact g_zret C (Or.inr rfl) hlk hr (by decide +kernel)
  · replace h := ite_f hc2_ h
    refine g_iconst C 0 (cK rfl) (by decide +kernel) ?_
    obtain ⟨rfl, rfl⟩ := ret_inj h
    exact g_zret C (Or.inl rfl) hlk hr (by decide +kernel)
set_option maxHeartbeats 4000000 in
theorem ok_PB_hold_b71 {p : Program} {l : Launch} {e : Env} {s : State} {m : MethodId} {args : Array Value} {below : List Frame} {meth : Method} {c : Code} {D : va_G} {cA : Nat → ClassId} {ad : Nat → Nat} {A : Nat → Prop} (C : Cx p s m args c prog_1_method_11_code 8 "PollBooks" D cA ad 0 A) (hlk : meth.locks = false) (hr : meth.sig.returnType = (some .boolean)) {r : Int} {d' : Dt} (x1 x2 x3 x4 x5 x6 s0 : Int) (d : Dt) (hx1 : c32 x1) (hx2 : c32 x2) (hx3 : c32 x3) (hx4 : c32 x4) (hx5 : c32 x5) (hx6 : c32 x6) (hs0 : cb s0) (h : L_PB_hold_b71 x1 x2 x3 x4 x5 x6 s0 d = some (r, d')) : G p l e rm_PB_hold s m args below meth c 0 0 (MQ below (fun _ => QC D cA ad 0 A (some .boolean) (some (0, r)) d') args s 0 0 A) 8 D cA ad 0 A 71 [(2, 0), (0, x1), (0, x2), (0, x3), (0, x4), (0, x5), (0, x6), (9, 0)] [(0, s0)] d := by
  unfold L_PB_hold_b71 at h
  refine s_istore C 7 (lo' := [(2, 0), (0, x1), (0, x2), (0, x3), (0, x4), (0, x5), (0, x6), (0, s0)]) (by decide) (s1k (s1k (s1k (s1k (s1k (s1k (s1n (by decide) s1z))))))) (by decide +kernel) ?_
  refine g_aload_n C 0 rfl (by decide +kernel) ?_
  refine g_aload_n C 0 rfl (by decide +kernel) ?_
  refine g_iload C 7 rfl (by decide +kernel) ?_
  refine g_aload_n C 0 rfl (by decide +kernel) ?_
  refine g_getR C cl11 0 3 11 rfl cd_A0 ⟨by decide, rfl, by decide⟩ rfl rfl (nA (by decide)) (ix := 32) lk_470 (by decide +kernel) ?_
  obtain ⟨r4_, d3_, hr5_, h⟩ := bd_some h
  refine g_callV C mw_Re_holdingsFull [] 11 cl7 rfl (ok_Re_holdingsFull  d  hr5_) cd_A11 (by decide) (nA (by decide)) (ix := 183) lk_647 lk_648 lk_649 ⟨rfl, rfl, Nat.le_of_ble_eq_true rfl, Nat.le_of_ble_eq_true rfl⟩ rfl (rest := [(0, s0), (2, 0), (2, 0)]) rfl (Nat.le_of_ble_eq_true rfl) ⟨Nat.zero_le _, Nat.zero_le _⟩ (by decide +kernel) (fun _ hc6_ => ?_)
  replace hc6_ : cb r4_ := hc6_
  refine g_st (st2 := [(0, r4_), (0, s0), (2, 0), (2, 0)]) rfl ?_
  refine g_iload C 6 rfl (by decide +kernel) ?_
  obtain ⟨r8_, d7_, hr9_, h⟩ := bd_some h
  refine g_callV C mw_PB_recordStatus [(0, s0), (0, r4_), (0, x6)] 0 cl11 rfl (ok_PB_recordStatus s0 r4_ x6 d3_ hs0 hc6_ hx6 hr9_) cd_A0 (by decide) (nA (by decide)) (ix := 186) lk_651 lk_653 lkp_4 ⟨rfl, rfl, Nat.le_of_ble_eq_true rfl, Nat.le_of_ble_eq_true rfl⟩ rfl (rest := [(2, 0)]) rfl (Nat.le_of_ble_eq_true rfl) ⟨Nat.zero_le _, Nat.zero_le _⟩ (by decide +kernel) (fun _ hc10_ => ?_)
  replace hc10_ : c32 r8_ := hc10_
  refine g_st (st2 := [(0, r8_), (2, 0)]) rfl ?_
  refine g_putI C cl11 0 0 hc10_ rfl cd_A0 ⟨by decide, rfl, by decide⟩ rfl (nA (by decide)) (ix := 9) lk_467 rfl rfl (by decide +kernel) ?_
  refine g_aload_n C 0 rfl (by decide +kernel) ?_
  refine g_getI C cl11 0 0 rfl cd_A0 ⟨by decide, rfl, by decide⟩ rfl (nA (by decide)) (ix := 9) lk_467 (by decide +kernel) (fun hc11_ => ?_)
  refine g_val (y := r8_) rfl ?_
  replace hc11_ : c32 r8_ := hc11_
  refine g_if_ne C (off := 19) (tgt := 115) hc11_ (by decide +kernel) (by decide) (fun hc12_ => ?_) (fun hc12_ => ?_)
  · replace h := ite_t hc12_ h
    refine g_aload_n C 0 rfl (by decide +kernel) ?_
    refine g_getR C cl11 0 3 11 rfl cd_A0 ⟨by decide, rfl, by decide⟩ rfl rfl (nA (by decide)) (ix := 32) lk_470 (by decide +kernel) ?_
    refine g_iload_n C 1 rfl (by decide +kernel) ?_
    refine g_iload_n C 2 rfl (by decide +kernel) ?_
    refine g_iload_n C 3 rfl (by decide +kernel) ?_
    refine g_iload C 4 rfl (by decide +kernel) ?_
    refine g_iload C 5 rfl (by decide +kernel) ?_
    refine g_iload C 6 rfl (by decide +kernel) ?_
    obtain ⟨r14_, d13_, hr15_, h⟩ := bd_some h
    refine g_callV C mw_Re_addHolding [(0, x1), (0, x2), (0, x3), (0, x4), (0, x5), (0, x6)] 11 cl7 rfl (ok_Re_addHolding x1 x2 x3 x4 x5 x6 (up2 d7_ 0 0 r8_) hx1 hx2 hx3 hx4 hx5 hx6 hr15_) cd_A11 (by decide) (nA (by decide)) (ix := 190) lk_659 lk_660 lk_661 ⟨rfl, rfl, Nat.le_of_ble_eq_true rfl, Nat.le_of_ble_eq_true rfl⟩ rfl (rest := []) rfl (Nat.le_of_ble_eq_true rfl) ⟨Nat.zero_le _, Nat.zero_le _⟩ (by decide +kernel) (fun _ hc16_ => ?_)
    refine g_st (st2 := []) rfl ?_
    refine g_sub (lo2 := [(2, 0), (9, 0), (9, 0), (9, 0), (9, 0), (9, 0), (9, 0), (9, 0)]) (lsb_v (lsb_c (lsb_c (lsb_c (lsb_c (lsb_c (lsb_c (lsb_c lsb_e)))))))) ?_
    exact ok_PB_hold_b115 C hlk hr d13_  h
  · replace h := ite_f hc12_ h
    refine g_sub (lo2 := [(2, 0), (9, 0), (9, 0), (9, 0), (9, 0), (9, 0), (9, 0), (9, 0)]) (lsb_v (lsb_c (lsb_c (lsb_c (lsb_c (lsb_c (lsb_c (lsb_c lsb_e)))))))) ?_
    exact ok_PB_hold_b115 C hlk hr (up2 d7_ 0 0 r8_)  h
set_option maxHeartbeats 4000000 in
theorem ok_PB_hold {l : Launch} {r : Int} {d' : Dt} (p1 p2 p3 p4 p5 p6 : Int) (d : Dt) (hp1 : c32 p1) (hp2 : c32 p2) (hp3 : c32 p3) (hp4 : c32 p4) (hp5 : c32 p5) (hp6 : c32 p6) (h : L_PB_hold p1 p2 p3 p4 p5 p6 d = some (r, d')) : MC l y_PB_hold prog_1_method_11_code 8 (some .boolean) rm_PB_hold 0 [(2, 0), (0, p1), (0, p2), (0, p3), (0, p4), (0, p5), (0, p6)] d (some (0, r)) d' := by
  refine MC.of (by decide) (Nat.le_of_ble_eq_true rfl) ?_
  intro p e s m args below meth c D cA ad A C hlk hr
  replace C : Cx p s m args c prog_1_method_11_code 8 "PollBooks" D cA ad 0 A := C
  show G p l e rm_PB_hold s m args below meth c 0 0 (MQ below (fun _ => QC D cA ad 0 A (some .boolean) (some (0, r)) d') args s 0 0 A) 8 D cA ad 0 A 0 [(2, 0), (0, p1), (0, p2), (0, p3), (0, p4), (0, p5), (0, p6)] [] d
  refine g_sub (lo2 := [(2, 0), (0, p1), (0, p2), (0, p3), (0, p4), (0, p5), (0, p6), (9, 0)]) (lsb_v (lsb_v (lsb_v (lsb_v (lsb_v (lsb_v (lsb_v (lsb_n lsb_e)))))))) ?_
  unfold L_PB_hold at h
  refine g_aload_n C 0 rfl (by decide +kernel) ?_
  refine g_getR C cl11 0 2 7 rfl cd_A0 ⟨by decide, rfl, by decide⟩ rfl rfl (nA (by decide)) (ix := 23) lk_469 (by decide +kernel) ?_
  refine g_iload_n C 1 rfl (by decide +kernel) ?_
  obtain ⟨r18_, d17_, hr19_, h⟩ := bd_some h
  refine g_callV C mw_Pe_has [(0, p1)] 7 cl5 rfl (ok_Pe_has p1 d hp1 hr19_) cd_A7 (by decide) (nA (by decide)) (ix := 173) lk_637 lk_638 lk_639 ⟨rfl, rfl, Nat.le_of_ble_eq_true rfl, Nat.le_of_ble_eq_true rfl⟩ rfl (rest := []) rfl (Nat.le_of_ble_eq_true rfl) ⟨Nat.zero_le _, Nat.zero_le _⟩ (by decide +kernel) (fun _ hc20_ => ?_)
  replace hc20_ : cb r18_ := hc20_
  refine g_st (st2 := [(0, r18_)]) rfl ?_
  refine g_if_eq C (off := 62) (tgt := 70) (c32_cb hc20_) (by decide +kernel) (by decide) (fun hc21_ => ?_) (fun hc21_ => ?_)
  · replace h := ite_t hc21_ h
    refine g_iconst C 0 (cK rfl) (by decide +kernel) ?_
    refine g_sub (lo2 := [(2, 0), (0, p1), (0, p2), (0, p3), (0, p4), (0, p5), (0, p6), (9, 0)]) (lsb_v (lsb_v (lsb_v (lsb_v (lsb_v (lsb_v (lsb_v (lsb_c lsb_e)))))))) ?_
    exact ok_PB_hold_b71 C hlk hr p1 p2 p3 p4 p5 p6 0 d17_ hp1 hp2 hp3 hp4 hp5 hp6 (Or.inl rfl) h
  · replace h := ite_f hc21_ h
    refine g_iload_n C 2 rfl (by decide +kernel) ?_
    refine g_i2l C hp2 (by decide +kernel) ?_
    refine g_lconst C 0 (v := 0) (by decide) (by decide +kernel) ?_
    refine g_ldc2 C (ix := 176) (v := 39) lk_641 (by decide +kernel) ?_
    obtain ⟨r23_, d22_, hr24_, h⟩ := bd_some h
    refine g_callS C mw_PB_within [(1, p2), (1, 0), (1, 39)] (ok_PB_within p2 0 39 d17_ (c64_32 hp2) (cL rfl) (cL rfl) hr24_) (ix := 105) lk_520 lk_521 ⟨rfl, rfl, Nat.le_of_ble_eq_true rfl, Nat.le_of_ble_eq_true rfl⟩ rfl (rest := []) rfl (Nat.le_of_ble_eq_true rfl) ⟨Nat.zero_le _, Nat.zero_le _⟩ (by decide +kernel) (fun _ hc25_ => ?_)
    replace hc25_ : cb r23_ := hc25_
    refine g_st (st2 := [(0, r23_)]) rfl ?_
    refine g_if_eq C (off := 50) (tgt := 70) (c32_cb hc25_) (by decide +kernel) (by decide) (fun hc26_ => ?_) (fun hc26_ => ?_)
    · replace h := ite_t hc26_ h
      refine g_iconst C 0 (cK rfl) (by decide +kernel) ?_
      refine g_sub (lo2 := [(2, 0), (0, p1), (0, p2), (0, p3), (0, p4), (0, p5), (0, p6), (9, 0)]) (lsb_v (lsb_v (lsb_v (lsb_v (lsb_v (lsb_v (lsb_v (lsb_c lsb_e)))))))) ?_
      exact ok_PB_hold_b71 C hlk hr p1 p2 p3 p4 p5 p6 0 d22_ hp1 hp2 hp3 hp4 hp5 hp6 (Or.inl rfl) h
    · replace h := ite_f hc26_ h
      refine g_iload_n C 3 rfl (by decide +kernel) ?_
      refine g_i2l C hp3 (by decide +kernel) ?_
      refine g_lconst C 1 (v := 1) (by decide) (by decide +kernel) ?_
      refine g_ldc2 C (ix := 178) (v := 1000) lk_642 (by decide +kernel) ?_
      obtain ⟨r28_, d27_, hr29_, h⟩ := bd_some h
      refine g_callS C mw_PB_within [(1, p3), (1, 1), (1, 1000)] (ok_PB_within p3 1 1000 d22_ (c64_32 hp3) (cL rfl) (cL rfl) hr29_) (ix := 105) lk_520 lk_521 ⟨rfl, rfl, Nat.le_of_ble_eq_true rfl, Nat.le_of_ble_eq_true rfl⟩ rfl (rest := []) rfl (Nat.le_of_ble_eq_true rfl) ⟨Nat.zero_le _, Nat.zero_le _⟩ (by decide +kernel) (fun _ hc30_ => ?_)
      replace hc30_ : cb r28_ := hc30_
      refine g_st (st2 := [(0, r28_)]) rfl ?_
      refine g_if_eq C (off := 38) (tgt := 70) (c32_cb hc30_) (by decide +kernel) (by decide) (fun hc31_ => ?_) (fun hc31_ => ?_)
      · replace h := ite_t hc31_ h
        refine g_iconst C 0 (cK rfl) (by decide +kernel) ?_
        refine g_sub (lo2 := [(2, 0), (0, p1), (0, p2), (0, p3), (0, p4), (0, p5), (0, p6), (9, 0)]) (lsb_v (lsb_v (lsb_v (lsb_v (lsb_v (lsb_v (lsb_v (lsb_c lsb_e)))))))) ?_
        exact ok_PB_hold_b71 C hlk hr p1 p2 p3 p4 p5 p6 0 d27_ hp1 hp2 hp3 hp4 hp5 hp6 (Or.inl rfl) h
      · replace h := ite_f hc31_ h
        refine g_iload C 4 rfl (by decide +kernel) ?_
        obtain ⟨r33_, d32_, hr34_, h⟩ := bd_some h
        refine g_callS C mw_PB_isDay [(0, p4)] (ok_PB_isDay p4 d27_ hp4 hr34_) (ix := 180) lk_643 lk_644 ⟨rfl, rfl, Nat.le_of_ble_eq_true rfl, Nat.le_of_ble_eq_true rfl⟩ rfl (rest := []) rfl (Nat.le_of_ble_eq_true rfl) ⟨Nat.zero_le _, Nat.zero_le _⟩ (by decide +kernel) (fun _ hc35_ => ?_)
        replace hc35_ : cb r33_ := hc35_
        refine g_st (st2 := [(0, r33_)]) rfl ?_
        refine g_if_eq C (off := 30) (tgt := 70) (c32_cb hc35_) (by decide +kernel) (by decide) (fun hc36_ => ?_) (fun hc36_ => ?_)
        · replace h := ite_t hc36_ h
          refine g_iconst C 0 (cK rfl) (by decide +kernel) ?_
          refine g_sub (lo2 := [(2, 0), (0, p1), (0, p2), (0, p3), (0, p4), (0, p5), (0, p6), (9, 0)]) (lsb_v (lsb_v (lsb_v (lsb_v (lsb_v (lsb_v (lsb_v (lsb_c lsb_e)))))))) ?_
          exact ok_PB_hold_b71 C hlk hr p1 p2 p3 p4 p5 p6 0 d32_ hp1 hp2 hp3 hp4 hp5 hp6 (Or.inl rfl) h
        · replace h := ite_f hc36_ h
          refine g_iload C 5 rfl (by decide +kernel) ?_
          obtain ⟨r38_, d37_, hr39_, h⟩ := bd_some h
          refine g_callS C mw_PB_isDay [(0, p5)] (ok_PB_isDay p5 d32_ hp5 hr39_) (ix := 180) lk_643 lk_644 ⟨rfl, rfl, Nat.le_of_ble_eq_true rfl, Nat.le_of_ble_eq_true rfl⟩ rfl (rest := []) rfl (Nat.le_of_ble_eq_true rfl) ⟨Nat.zero_le _, Nat.zero_le _⟩ (by decide +kernel) (fun _ hc40_ => ?_)
          replace hc40_ : cb r38_ := hc40_
          refine g_st (st2 := [(0, r38_)]) rfl ?_
          refine g_if_eq C (off := 22) (tgt := 70) (c32_cb hc40_) (by decide +kernel) (by decide) (fun hc41_ => ?_) (fun hc41_ => ?_)
          · replace h := ite_t hc41_ h
            refine g_iconst C 0 (cK rfl) (by decide +kernel) ?_
            refine g_sub (lo2 := [(2, 0), (0, p1), (0, p2), (0, p3), (0, p4), (0, p5), (0, p6), (9, 0)]) (lsb_v (lsb_v (lsb_v (lsb_v (lsb_v (lsb_v (lsb_v (lsb_c lsb_e)))))))) ?_
            exact ok_PB_hold_b71 C hlk hr p1 p2 p3 p4 p5 p6 0 d37_ hp1 hp2 hp3 hp4 hp5 hp6 (Or.inl rfl) h
          · replace h := ite_f hc41_ h
            refine g_iload C 4 rfl (by decide +kernel) ?_
            refine g_iload C 5 rfl (by decide +kernel) ?_
            refine g_icmp_gt C (off := 15) (tgt := 70) hp4 hp5 (by decide +kernel) (by decide) (fun hc42_ => ?_) (fun hc42_ => ?_)
            · replace h := ite_t hc42_ h
              refine g_iconst C 0 (cK rfl) (by decide +kernel) ?_
              refine g_sub (lo2 := [(2, 0), (0, p1), (0, p2), (0, p3), (0, p4), (0, p5), (0, p6), (9, 0)]) (lsb_v (lsb_v (lsb_v (lsb_v (lsb_v (lsb_v (lsb_v (lsb_c lsb_e)))))))) ?_
              exact ok_PB_hold_b71 C hlk hr p1 p2 p3 p4 p5 p6 0 d37_ hp1 hp2 hp3 hp4 hp5 hp6 (Or.inl rfl) h
            · replace h := ite_f hc42_ h
              refine g_iload C 6 rfl (by decide +kernel) ?_
              obtain ⟨r44_, d43_, hr45_, h⟩ := bd_some h
              refine g_callS C mw_PB_isDay [(0, p6)] (ok_PB_isDay p6 d37_ hp6 hr45_) (ix := 180) lk_643 lk_644 ⟨rfl, rfl, Nat.le_of_ble_eq_true rfl, Nat.le_of_ble_eq_true rfl⟩ rfl (rest := []) rfl (Nat.le_of_ble_eq_true rfl) ⟨Nat.zero_le _, Nat.zero_le _⟩ (by decide +kernel) (fun _ hc46_ => ?_)
              replace hc46_ : cb r44_ := hc46_
              refine g_st (st2 := [(0, r44_)]) rfl ?_
              refine g_if_eq C (off := 7) (tgt := 70) (c32_cb hc46_) (by decide +kernel) (by decide) (fun hc47_ => ?_) (fun hc47_ => ?_)
              · replace h := ite_t hc47_ h
                refine g_iconst C 0 (cK rfl) (by decide +kernel) ?_
                refine g_sub (lo2 := [(2, 0), (0, p1), (0, p2), (0, p3), (0, p4), (0, p5), (0, p6), (9, 0)]) (lsb_v (lsb_v (lsb_v (lsb_v (lsb_v (lsb_v (lsb_v (lsb_c lsb_e)))))))) ?_
                exact ok_PB_hold_b71 C hlk hr p1 p2 p3 p4 p5 p6 0 d43_ hp1 hp2 hp3 hp4 hp5 hp6 (Or.inl rfl) h
              · replace h := ite_f hc47_ h
                refine g_iconst C 1 (cK rfl) (by decide +kernel) ?_
                refine g_goto C 71 (off := 4) (by decide +kernel) (by decide) ?_
                refine g_sub (lo2 := [(2, 0), (0, p1), (0, p2), (0, p3), (0, p4), (0, p5), (0, p6), (9, 0)]) (lsb_v (lsb_v (lsb_v (lsb_v (lsb_v (lsb_v (lsb_v (lsb_c lsb_e)))))))) ?_
                exact ok_PB_hold_b71 C hlk hr p1 p2 p3 p4 p5 p6 1 d43_ hp1 hp2 hp3 hp4 hp5 hp6 (Or.inr rfl) h
/-! PollBooks$Records.splitsFull()Z -/
def y_Re_splitsFull : MethodName := ⟨"PollBooks$Records", "splitsFull", "()Z"⟩
def rm_Re_splitsFull : Room := { frames := 0, cells := 0, slots := 0, locals := 0 }
theorem mw_Re_splitsFull : MW y_Re_splitsFull prog_9_method_3_code 1 (some .boolean) 0 := ⟨lk_670, lk_5, by decide +kernel⟩
def L_Re_splitsFull (d : Dt) : Option (Int × Dt) :=
  if (d 11 13) < 30 then some (0, d) else some (1, d)
set_option maxHeartbeats 4000000 in
theorem ok_Re_splitsFull {l : Launch} {r : Int} {d' : Dt} (d : Dt)  (h : L_Re_splitsFull d = some (r, d')) : MC l y_Re_splitsFull prog_9_method_3_code 1 (some .boolean) rm_Re_splitsFull 0 [(2, 11)] d (some (0, r)) d' := by
  refine MC.of (by decide) (Nat.le_of_ble_eq_true rfl) ?_
  intro p e s m args below meth c D cA ad A C hlk hr
  replace C : Cx p s m args c prog_9_method_3_code 1 "PollBooks$Records" D cA ad 0 A := C
  show G p l e rm_Re_splitsFull s m args below meth c 0 0 (MQ below (fun _ => QC D cA ad 0 A (some .boolean) (some (0, r)) d') args s 0 0 A) 1 D cA ad 0 A 0 [(2, 11)] [] d
  refine g_sub (lo2 := [(2, 11)]) (lsb_v lsb_e) ?_
  unfold L_Re_splitsFull at h
  refine g_aload_n C 0 rfl (by decide +kernel) ?_
  refine g_getI C cl7 11 13 rfl cd_A11 ⟨by decide, rfl, by decide⟩ rfl (nA (by decide)) (ix := 62) lk_94 (by decide +kernel) (fun hc1_ => ?_)
  refine g_bipush C 30 (by decide) (by decide +kernel) ?_
  refine g_icmp_lt C (off := 7) (tgt := 13) hc1_ (cK rfl) (by decide +kernel) (by decide) (fun hc2_ => ?_) (fun hc2_ => ?_)
  · replace h := ite_t hc2_ h
    refine g_iconst C 0 (cK rfl) (by decide +kernel) ?_
    obtain ⟨rfl, rfl⟩ := ret_inj h
    exact g_zret C (Or.inl rfl) hlk hr (by decide +kernel)
  · replace h := ite_f hc2_ h
    refine g_iconst C 1 (cK rfl) (by decide +kernel) ?_
    refine g_goto C 14 (off := 4) (by decide +kernel) (by decide) ?_
    obtain ⟨rfl, rfl⟩ := ret_inj h
    exact g_zret C (Or.inr rfl) hlk hr (by decide +kernel)
/-! PollBooks$Records.addSplit(III)V -/
def y_Re_addSplit : MethodName := ⟨"PollBooks$Records", "addSplit", "(III)V"⟩
def rm_Re_addSplit : Room := { frames := 0, cells := 0, slots := 0, locals := 0 }
theorem mw_Re_addSplit : MW y_Re_addSplit prog_9_method_8_code 4 none 3 := ⟨lk_674, lk_5, by decide +kernel⟩
def L_Re_addSplit (p1 p2 p3 : Int) (d : Dt) : Option (Int × Dt) :=
  ck ((0 : Int) ≤ (d 11 13) ∧ (d 11 13) < 30) (ck ((0 : Int) ≤ (d 11 13) ∧ (d 11 13) < 30) (ck ((0 : Int) ≤ (d 11 13) ∧ (d 11 13) < 30) (some (0, (up2 (up2 (up2 (up2 (up2 d 18 ((d 11 13)).toNat p1) 19 ((d 11 13)).toNat p2) 20 ((d 11 13)).toNat p3) 11 13 (w32 ((d 11 13) + 1))) 11 2 p3)))))
set_option maxHeartbeats 4000000 in
theorem ok_Re_addSplit {l : Launch} {r : Int} {d' : Dt} (p1 p2 p3 : Int) (d : Dt) (hp1 : c32 p1) (hp2 : c32 p2) (hp3 : c32 p3) (h : L_Re_addSplit p1 p2 p3 d = some (r, d')) : MC l y_Re_addSplit prog_9_method_8_code 4 none rm_Re_addSplit 0 [(2, 11), (0, p1), (0, p2), (0, p3)] d none d' := by
  refine MC.of (by decide) (Nat.le_of_ble_eq_true rfl) ?_
  intro p e s m args below meth c D cA ad A C hlk hr
  replace C : Cx p s m args c prog_9_method_8_code 4 "PollBooks$Records" D cA ad 0 A := C
  show G p l e rm_Re_addSplit s m args below meth c 0 0 (MQ below (fun _ => QC D cA ad 0 A none none d') args s 0 0 A) 4 D cA ad 0 A 0 [(2, 11), (0, p1), (0, p2), (0, p3)] [] d
  refine g_sub (lo2 := [(2, 11), (0, p1), (0, p2), (0, p3)]) (lsb_v (lsb_v (lsb_v (lsb_v lsb_e)))) ?_
  unfold L_Re_addSplit at h
  refine g_aload_n C 0 rfl (by decide +kernel) ?_
  refine g_getR C cl7 11 10 18 rfl cd_A11 ⟨by decide, rfl, by decide⟩ rfl rfl (nA (by decide)) (ix := 34) lk_91 (by decide +kernel) ?_
  refine g_aload_n C 0 rfl (by decide +kernel) ?_
  refine g_getI C cl7 11 13 rfl cd_A11 ⟨by decide, rfl, by decide⟩ rfl (nA (by decide)) (ix := 62) lk_94 (by decide +kernel) (fun hc1_ => ?_)
  refine g_iload_n C 1 rfl (by decide +kernel) ?_
  obtain ⟨hb2_, h⟩ := ck_some h
  refine g_iast C 18 hp1 hc1_ rfl cd_A18 (nA (by decide)) hb2_ (by decide +kernel) ?_
  refine g_aload_n C 0 rfl (by decide +kernel) ?_
  refine g_getR C cl7 11 11 19 rfl cd_A11 ⟨by decide, rfl, by decide⟩ rfl rfl (nA (by decide)) (ix := 37) lk_92 (by decide +kernel) ?_
  refine g_aload_n C 0 rfl (by decide +kernel) ?_
  refine g_getI C cl7 11 13 rfl cd_A11 ⟨by decide, rfl, by decide⟩ rfl (nA (by decide)) (ix := 62) lk_94 (by decide +kernel) (fun hc3_ => ?_)
  refine g_val (y := (d 11 13)) rfl ?_
  replace hc3_ : c32 (d 11 13) := hc3_
  refine g_iload_n C 2 rfl (by decide +kernel) ?_
  obtain ⟨hb4_, h⟩ := ck_some h
  refine g_iast C 19 hp2 hc3_ rfl cd_A19 (nA (by decide)) hb4_ (by decide +kernel) ?_
  refine g_aload_n C 0 rfl (by decide +kernel) ?_
  refine g_getR C cl7 11 12 20 rfl cd_A11 ⟨by decide, rfl, by decide⟩ rfl rfl (nA (by decide)) (ix := 40) lk_93 (by decide +kernel) ?_
  refine g_aload_n C 0 rfl (by decide +kernel) ?_
  refine g_getI C cl7 11 13 rfl cd_A11 ⟨by decide, rfl, by decide⟩ rfl (nA (by decide)) (ix := 62) lk_94 (by decide +kernel) (fun hc5_ => ?_)
  refine g_val (y := (d 11 13)) rfl ?_
  replace hc5_ : c32 (d 11 13) := hc5_
  refine g_iload_n C 3 rfl (by decide +kernel) ?_
  obtain ⟨hb6_, h⟩ := ck_some h
  refine g_iast C 20 hp3 hc5_ rfl cd_A20 (nA (by decide)) hb6_ (by decide +kernel) ?_
  refine g_aload_n C 0 rfl (by decide +kernel) ?_
  refine g_dup C tg2 (by decide +kernel) ?_
  refine g_getI C cl7 11 13 rfl cd_A11 ⟨by decide, rfl, by decide⟩ rfl (nA (by decide)) (ix := 62) lk_94 (by decide +kernel) (fun hc7_ => ?_)
  refine g_val (y := (d 11 13)) rfl ?_
  replace hc7_ : c32 (d 11 13) := hc7_
  refine g_iconst C 1 (cK rfl) (by decide +kernel) ?_
  refine g_iadd C (by decide +kernel) ?_
  refine g_putI C cl7 11 13 (w32_c _) rfl cd_A11 ⟨by decide, rfl, by decide⟩ rfl (nA (by decide)) (ix := 62) lk_94 rfl rfl (by decide +kernel) ?_
  refine g_aload_n C 0 rfl (by decide +kernel) ?_
  refine g_iload_n C 3 rfl (by decide +kernel) ?_
  refine g_putI C cl7 11 2 hp3 rfl cd_A11 ⟨by decide, rfl, by decide⟩ rfl (nA (by decide)) (ix := 68) lk_83 rfl rfl (by decide +kernel) ?_
  obtain ⟨rfl, rfl⟩ := ret_inj h
  exact g_vret C hlk hr (by decide +kernel)
/-! PollBooks.split(III)Z -/
def y_PB_split : MethodName := ⟨"PollBooks", "split", "(III)Z"⟩
def rm_PB_split : Room := { frames := 2, cells := 0, slots := 0, locals := 45 }
theorem mw_PB_split : MW y_PB_split prog_1_method_12_code 5 (some .boolean) 3 := ⟨lk_666, lk_1, by decide +kernel⟩
def L_PB_split_b68 (d : Dt) : Option (Int × Dt) :=
  if (d 0 0) = 0 then some (1, d) else some (0, d)
def L_PB_split_b31 (x1 x2 x3 s0 : Int) (d : Dt) : Option (Int × Dt) :=
  bd (L_Re_splitsFull d) (fun r4_ d3_ => bd (L_PB_recordStatus s0 r4_ x3 d3_) (fun r8_ d7_ => if r8_ = 0 then bd (L_Re_addSplit x1 x2 x3 (up2 d7_ 0 0 r8_)) (fun r14_ d13_ => L_PB_split_b68 d13_) else L_PB_split_b68 (up2 d7_ 0 0 r8_)))
def L_PB_split (p1 p2 p3 : Int) (d : Dt) : Option (Int × Dt) :=
  bd (L_PB_within p1 0 39 d) (fun r18_ d17_ => if r18_ = 0 then L_PB_split_b31 p1 p2 p3 0 d17_ else bd (L_PB_isDay p2 d17_) (fun r23_ d22_ => if r23_ = 0 then L_PB_split_b31 p1 p2 p3 0 d22_ else bd (L_PB_isDay p3 d22_) (fun r28_ d27_ => if r28_ = 0 then L_PB_split_b31 p1 p2 p3 0 d27_ else L_PB_split_b31 p1 p2 p3 1 d27_)))
set_option maxHeartbeats 4000000 in
theorem ok_PB_split_b68 {p : Program} {l : Launch} {e : Env} {s : State} {m : MethodId} {args : Array Value} {below : List Frame} {meth : Method} {c : Code} {D : va_G} {cA : Nat → ClassId} {ad : Nat → Nat} {A : Nat → Prop} (C : Cx p s m args c prog_1_method_12_code 5 "PollBooks" D cA ad 0 A) (hlk : meth.locks = false) (hr : meth.sig.returnType = (some .boolean)) {r : Int} {d' : Dt} (d : Dt)  (h : L_PB_split_b68 d = some (r, d')) : G p l e rm_PB_split s m args below meth c 0 0 (MQ below (fun _ => QC D cA ad 0 A (some .boolean) (some (0, r)) d') args s 0 0 A) 5 D cA ad 0 A 68 [(2, 0), (9, 0), (9, 0), (9, 0), (9, 0)] [] d := by
  unfold L_PB_split_b68 at h
  refine g_aload_n C 0 rfl (by decide +kernel) ?_
  refine g_getI C cl11 0 0 rfl cd_A0 ⟨by decide, rfl, by decide⟩ rfl (nA (by decide)) (ix := 9) lk_467 (by decide +kernel) (fun hc1_ => ?_)
  refine g_if_ne C (off := 7) (tgt := 79) hc1_ (by decide +kernel) (by decide) (fun hc2_ => ?_) (fun hc2_ => ?_)
  · replace h := ite_t hc2_ h
    refine g_iconst C 1 (cK rfl) (by decide +kernel) ?_
    refine g_goto C 80 (off := 4) (by decide +kernel) (by decide) ?_
    obtain ⟨rfl, rfl⟩ := ret_inj h
    exact g_zret C (Or.inr rfl) hlk hr (by decide +kernel)
  · replace h := ite_f hc2_ h
    refine g_iconst C 0 (cK rfl) (by decide +kernel) ?_
    obtain ⟨rfl, rfl⟩ := ret_inj h
    exact g_zret C (Or.inl rfl) hlk hr (by decide +kernel)
set_option maxHeartbeats 4000000 in
theorem ok_PB_split_b31 {p : Program} {l : Launch} {e : Env} {s : State} {m : MethodId} {args : Array Value} {below : List Frame} {meth : Method} {c : Code} {D : va_G} {cA : Nat → ClassId} {ad : Nat → Nat} {A : Nat → Prop} (C : Cx p s m args c prog_1_method_12_code 5 "PollBooks" D cA ad 0 A) (hlk : meth.locks = false) (hr : meth.sig.returnType = (some .boolean)) {r : Int} {d' : Dt} (x1 x2 x3 s0 : Int) (d : Dt) (hx1 : c32 x1) (hx2 : c32 x2) (hx3 : c32 x3) (hs0 : cb s0) (h : L_PB_split_b31 x1 x2 x3 s0 d = some (r, d')) : G p l e rm_PB_split s m args below meth c 0 0 (MQ below (fun _ => QC D cA ad 0 A (some .boolean) (some (0, r)) d') args s 0 0 A) 5 D cA ad 0 A 31 [(2, 0), (0, x1), (0, x2), (0, x3), (9, 0)] [(0, s0)] d := by
  unfold L_PB_split_b31 at h
  refine s_istore C 4 (lo' := [(2, 0), (0, x1), (0, x2), (0, x3), (0, s0)]) (by decide) (s1k (s1k (s1k (s1n (by decide) s1z)))) (by decide +kernel) ?_
  refine g_aload_n C 0 rfl (by decide +kernel) ?_
  refine g_aload_n C 0 rfl (by decide +kernel) ?_
  refine g_iload C 4 rfl (by decide +kernel) ?_
  refine g_aload_n C 0 rfl (by decide +kernel) ?_
  refine g_getR C cl11 0 3 11 rfl cd_A0 ⟨by decide, rfl, by decide⟩ rfl rfl (nA (by decide)) (ix := 32) lk_470 (by decide +kernel) ?_
  obtain ⟨r4_, d3_, hr5_, h⟩ := bd_some h
  refine g_callV C mw_Re_splitsFull [] 11 cl7 rfl (ok_Re_splitsFull  d  hr5_) cd_A11 (by decide) (nA (by decide)) (ix := 194) lk_667 lk_668 lk_669 ⟨rfl, rfl, Nat.le_of_ble_eq_true rfl, Nat.le_of_ble_eq_true rfl⟩ rfl (rest := [(0, s0), (2, 0), (2, 0)]) rfl (Nat.le_of_ble_eq_true rfl) ⟨Nat.zero_le _, Nat.zero_le _⟩ (by decide +kernel) (fun _ hc6_ => ?_)
  replace hc6_ : cb r4_ := hc6_
  refine g_st (st2 := [(0, r4_), (0, s0), (2, 0), (2, 0)]) rfl ?_
  refine g_iload_n C 3 rfl (by decide +kernel) ?_
  obtain ⟨r8_, d7_, hr9_, h⟩ := bd_some h
  refine g_callV C mw_PB_recordStatus [(0, s0), (0, r4_), (0, x3)] 0 cl11 rfl (ok_PB_recordStatus s0 r4_ x3 d3_ hs0 hc6_ hx3 hr9_) cd_A0 (by decide) (nA (by decide)) (ix := 186) lk_651 lk_653 lkp_4 ⟨rfl, rfl, Nat.le_of_ble_eq_true rfl, Nat.le_of_ble_eq_true rfl⟩ rfl (rest := [(2, 0)]) rfl (Nat.le_of_ble_eq_true rfl) ⟨Nat.zero_le _, Nat.zero_le _⟩ (by decide +kernel) (fun _ hc10_ => ?_)
  replace hc10_ : c32 r8_ := hc10_
  refine g_st (st2 := [(0, r8_), (2, 0)]) rfl ?_
  refine g_putI C cl11 0 0 hc10_ rfl cd_A0 ⟨by decide, rfl, by decide⟩ rfl (nA (by decide)) (ix := 9) lk_467 rfl rfl (by decide +kernel) ?_
  refine g_aload_n C 0 rfl (by decide +kernel) ?_
  refine g_getI C cl11 0 0 rfl cd_A0 ⟨by decide, rfl, by decide⟩ rfl (nA (by decide)) (ix := 9) lk_467 (by decide +kernel) (fun hc11_ => ?_)
  refine g_val (y := r8_) rfl ?_
  replace hc11_ : c32 r8_ := hc11_
  refine g_if_ne C (off := 13) (tgt := 68) hc11_ (by decide +kernel) (by decide) (fun hc12_ => ?_) (fun hc12_ => ?_)
  · replace h := ite_t hc12_ h
    refine g_aload_n C 0 rfl (by decide +kernel) ?_
    refine g_getR C cl11 0 3 11 rfl cd_A0 ⟨by decide, rfl, by decide⟩ rfl rfl (nA (by decide)) (ix := 32) lk_470 (by decide +kernel) ?_
    refine g_iload_n C 1 rfl (by decide +kernel) ?_
    refine g_iload_n C 2 rfl (by decide +kernel) ?_
    refine g_iload_n C 3 rfl (by decide +kernel) ?_
    obtain ⟨r14_, d13_, hr15_, h⟩ := bd_some h
    refine g_callV C mw_Re_addSplit [(0, x1), (0, x2), (0, x3)] 11 cl7 rfl (ok_Re_addSplit x1 x2 x3 (up2 d7_ 0 0 r8_) hx1 hx2 hx3 hr15_) cd_A11 (by decide) (nA (by decide)) (ix := 197) lk_671 lk_672 lk_673 ⟨rfl, rfl, Nat.le_of_ble_eq_true rfl, Nat.le_of_ble_eq_true rfl⟩ rfl (rest := []) rfl (Nat.le_of_ble_eq_true rfl) ⟨Nat.zero_le _, Nat.zero_le _⟩ (by decide +kernel) (fun _ hc16_ => ?_)
    refine g_st (st2 := []) rfl ?_
    refine g_sub (lo2 := [(2, 0), (9, 0), (9, 0), (9, 0), (9, 0)]) (lsb_v (lsb_c (lsb_c (lsb_c (lsb_c lsb_e))))) ?_
    exact ok_PB_split_b68 C hlk hr d13_  h
  · replace h := ite_f hc12_ h
    refine g_sub (lo2 := [(2, 0), (9, 0), (9, 0), (9, 0), (9, 0)]) (lsb_v (lsb_c (lsb_c (lsb_c (lsb_c lsb_e))))) ?_
    exact ok_PB_split_b68 C hlk hr (up2 d7_ 0 0 r8_)  h
set_option maxHeartbeats 4000000 in
theorem ok_PB_split {l : Launch} {r : Int} {d' : Dt} (p1 p2 p3 : Int) (d : Dt) (hp1 : c32 p1) (hp2 : c32 p2) (hp3 : c32 p3) (h : L_PB_split p1 p2 p3 d = some (r, d')) : MC l y_PB_split prog_1_method_12_code 5 (some .boolean) rm_PB_split 0 [(2, 0), (0, p1), (0, p2), (0, p3)] d (some (0, r)) d' := by
  refine MC.of (by decide) (Nat.le_of_ble_eq_true rfl) ?_
  intro p e s m args below meth c D cA ad A C hlk hr
  replace C : Cx p s m args c prog_1_method_12_code 5 "PollBooks" D cA ad 0 A := C
  show G p l e rm_PB_split s m args below meth c 0 0 (MQ below (fun _ => QC D cA ad 0 A (some .boolean) (some (0, r)) d') args s 0 0 A) 5 D cA ad 0 A 0 [(2, 0), (0, p1), (0, p2), (0, p3)] [] d
  refine g_sub (lo2 := [(2, 0), (0, p1), (0, p2), (0, p3), (9, 0)]) (lsb_v (lsb_v (lsb_v (lsb_v (lsb_n lsb_e))))) ?_
  unfold L_PB_split at h
  refine g_iload_n C 1 rfl (by decide +kernel) ?_
  refine g_i2l C hp1 (by decide +kernel) ?_
  refine g_lconst C 0 (v := 0) (by decide) (by decide +kernel) ?_
  refine g_ldc2 C (ix := 176) (v := 39) lk_641 (by decide +kernel) ?_
  obtain ⟨r18_, d17_, hr19_, h⟩ := bd_some h
  refine g_callS C mw_PB_within [(1, p1), (1, 0), (1, 39)] (ok_PB_within p1 0 39 d (c64_32 hp1) (cL rfl) (cL rfl) hr19_) (ix := 105) lk_520 lk_521 ⟨rfl, rfl, Nat.le_of_ble_eq_true rfl, Nat.le_of_ble_eq_true rfl⟩ rfl (rest := []) rfl (Nat.le_of_ble_eq_true rfl) ⟨Nat.zero_le _, Nat.zero_le _⟩ (by decide +kernel) (fun _ hc20_ => ?_)
  replace hc20_ : cb r18_ := hc20_
  refine g_st (st2 := [(0, r18_)]) rfl ?_
  refine g_if_eq C (off := 21) (tgt := 30) (c32_cb hc20_) (by decide +kernel) (by decide) (fun hc21_ => ?_) (fun hc21_ => ?_)
  · replace h := ite_t hc21_ h
    refine g_iconst C 0 (cK rfl) (by decide +kernel) ?_
    refine g_sub (lo2 := [(2, 0), (0, p1), (0, p2), (0, p3), (9, 0)]) (lsb_v (lsb_v (lsb_v (lsb_v (lsb_c lsb_e))))) ?_
    exact ok_PB_split_b31 C hlk hr p1 p2 p3 0 d17_ hp1 hp2 hp3 (Or.inl rfl) h
  · replace h := ite_f hc21_ h
    refine g_iload_n C 2 rfl (by decide +kernel) ?_
    obtain ⟨r23_, d22_, hr24_, h⟩ := bd_some h
    refine g_callS C mw_PB_isDay [(0, p2)] (ok_PB_isDay p2 d17_ hp2 hr24_) (ix := 180) lk_643 lk_644 ⟨rfl, rfl, Nat.le_of_ble_eq_true rfl, Nat.le_of_ble_eq_true rfl⟩ rfl (rest := []) rfl (Nat.le_of_ble_eq_true rfl) ⟨Nat.zero_le _, Nat.zero_le _⟩ (by decide +kernel) (fun _ hc25_ => ?_)
    replace hc25_ : cb r23_ := hc25_
    refine g_st (st2 := [(0, r23_)]) rfl ?_
    refine g_if_eq C (off := 14) (tgt := 30) (c32_cb hc25_) (by decide +kernel) (by decide) (fun hc26_ => ?_) (fun hc26_ => ?_)
    · replace h := ite_t hc26_ h
      refine g_iconst C 0 (cK rfl) (by decide +kernel) ?_
      refine g_sub (lo2 := [(2, 0), (0, p1), (0, p2), (0, p3), (9, 0)]) (lsb_v (lsb_v (lsb_v (lsb_v (lsb_c lsb_e))))) ?_
      exact ok_PB_split_b31 C hlk hr p1 p2 p3 0 d22_ hp1 hp2 hp3 (Or.inl rfl) h
    · replace h := ite_f hc26_ h
      refine g_iload_n C 3 rfl (by decide +kernel) ?_
      obtain ⟨r28_, d27_, hr29_, h⟩ := bd_some h
      refine g_callS C mw_PB_isDay [(0, p3)] (ok_PB_isDay p3 d22_ hp3 hr29_) (ix := 180) lk_643 lk_644 ⟨rfl, rfl, Nat.le_of_ble_eq_true rfl, Nat.le_of_ble_eq_true rfl⟩ rfl (rest := []) rfl (Nat.le_of_ble_eq_true rfl) ⟨Nat.zero_le _, Nat.zero_le _⟩ (by decide +kernel) (fun _ hc30_ => ?_)
      replace hc30_ : cb r28_ := hc30_
      refine g_st (st2 := [(0, r28_)]) rfl ?_
      refine g_if_eq C (off := 7) (tgt := 30) (c32_cb hc30_) (by decide +kernel) (by decide) (fun hc31_ => ?_) (fun hc31_ => ?_)
      · replace h := ite_t hc31_ h
        refine g_iconst C 0 (cK rfl) (by decide +kernel) ?_
        refine g_sub (lo2 := [(2, 0), (0, p1), (0, p2), (0, p3), (9, 0)]) (lsb_v (lsb_v (lsb_v (lsb_v (lsb_c lsb_e))))) ?_
        exact ok_PB_split_b31 C hlk hr p1 p2 p3 0 d27_ hp1 hp2 hp3 (Or.inl rfl) h
      · replace h := ite_f hc31_ h
        refine g_iconst C 1 (cK rfl) (by decide +kernel) ?_
        refine g_goto C 31 (off := 4) (by decide +kernel) (by decide) ?_
        refine g_sub (lo2 := [(2, 0), (0, p1), (0, p2), (0, p3), (9, 0)]) (lsb_v (lsb_v (lsb_v (lsb_v (lsb_c lsb_e))))) ?_
        exact ok_PB_split_b31 C hlk hr p1 p2 p3 1 d27_ hp1 hp2 hp3 (Or.inr rfl) h
/-! PollBooks$Records.paymentsFull()Z -/
def y_Re_paymentsFull : MethodName := ⟨"PollBooks$Records", "paymentsFull", "()Z"⟩
def rm_Re_paymentsFull : Room := { frames := 0, cells := 0, slots := 0, locals := 0 }
theorem mw_Re_paymentsFull : MW y_Re_paymentsFull prog_9_method_4_code 1 (some .boolean) 0 := ⟨lk_682, lk_5, by decide +kernel⟩
def L_Re_paymentsFull (d : Dt) : Option (Int × Dt) :=
  if (d 11 18) < 60 then some (0, d) else some (1, d)
set_option maxHeartbeats 4000000 in
theorem ok_Re_paymentsFull {l : Launch} {r : Int} {d' : Dt} (d : Dt)  (h : L_Re_paymentsFull d = some (r, d')) : MC l y_Re_paymentsFull prog_9_method_4_code 1 (some .boolean) rm_Re_paymentsFull 0 [(2, 11)] d (some (0, r)) d' := by
  refine MC.of (by decide) (Nat.le_of_ble_eq_true rfl) ?_
  intro p e s m args below meth c D cA ad A C hlk hr
  replace C : Cx p s m args c prog_9_method_4_code 1 "PollBooks$Records" D cA ad 0 A := C
  show G p l e rm_Re_paymentsFull s m args below meth c 0 0 (MQ below (fun _ => QC D cA ad 0 A (some .boolean) (some (0, r)) d') args s 0 0 A) 1 D cA ad 0 A 0 [(2, 11)] [] d
  refine g_sub (lo2 := [(2, 11)]) (lsb_v lsb_e) ?_
  unfold L_Re_paymentsFull at h
  refine g_aload_n C 0 rfl (by decide +kernel) ?_
  refine g_getI C cl7 11 18 rfl cd_A11 ⟨by decide, rfl, by decide⟩ rfl (nA (by decide)) (ix := 65) lk_99 (by decide +kernel) (fun hc1_ => ?_)
  refine g_bipush C 60 (by decide) (by decide +kernel) ?_
  refine g_icmp_lt C (off := 7) (tgt := 13) hc1_ (cK rfl) (by decide +kernel) (by decide) (fun hc2_ => ?_) (fun hc2_ => ?_)
  · replace h := ite_t hc2_ h
    refine g_iconst C 0 (cK rfl) (by decide +kernel) ?_
    obtain ⟨rfl, rfl⟩ := ret_inj h
    exact g_zret C (Or.inl rfl) hlk hr (by decide +kernel)
  · replace h := ite_f hc2_ h
    refine g_iconst C 1 (cK rfl) (by decide +kernel) ?_
    refine g_goto C 14 (off := 4) (by decide +kernel) (by decide) ?_
    obtain ⟨rfl, rfl⟩ := ret_inj h
    exact g_zret C (Or.inr rfl) hlk hr (by decide +kernel)
/-! PollBooks$Records.addPayment(IIIZI)V -/
def y_Re_addPayment : MethodName := ⟨"PollBooks$Records", "addPayment", "(IIIZI)V"⟩
def rm_Re_addPayment : Room := { frames := 0, cells := 0, slots := 0, locals := 0 }
theorem mw_Re_addPayment : MW y_Re_addPayment prog_9_method_9_code 6 none 5 := ⟨lk_686, lk_5, by decide +kernel⟩
def L_Re_addPayment_b28 (x3 x5 s1 s2 : Int) (d : Dt) : Option (Int × Dt) :=
  ck ((0 : Int) ≤ s1 ∧ s1 < 60) (ck ((0 : Int) ≤ (d 11 18) ∧ (d 11 18) < 60) (ck ((0 : Int) ≤ (d 11 18) ∧ (d 11 18) < 60) (some (0, (up2 (up2 (up2 (up2 (up2 d 22 s1.toNat s2) 23 ((d 11 18)).toNat x3) 24 ((d 11 18)).toNat x5) 11 18 (w32 ((d 11 18) + 1))) 11 2 x5)))))
def L_Re_addPayment (p1 p2 p3 p4 p5 : Int) (d : Dt) : Option (Int × Dt) :=
  ck ((0 : Int) ≤ (d 11 18) ∧ (d 11 18) < 60) (if p4 = 0 then L_Re_addPayment_b28 p3 p5 (d 11 18) 0 (up2 d 21 ((d 11 18)).toNat p1) else L_Re_addPayment_b28 p3 p5 (d 11 18) p2 (up2 d 21 ((d 11 18)).toNat p1))
set_option maxHeartbeats 4000000 in
theorem ok_Re_addPayment_b28 {p : Program} {l : Launch} {e : Env} {s : State} {m : MethodId} {args : Array Value} {below : List Frame} {meth : Method} {c : Code} {D : va_G} {cA : Nat → ClassId} {ad : Nat → Nat} {A : Nat → Prop} (C : Cx p s m args c prog_9_method_9_code 6 "PollBooks$Records" D cA ad 0 A) (hlk : meth.locks = false) (hr : meth.sig.returnType = none) {r : Int} {d' : Dt} (x3 x5 s1 s2 : Int) (d : Dt) (hx3 : c32 x3) (hx5 : c32 x5) (hs1 : c32 s1) (hs2 : c32 s2) (h : L_Re_addPayment_b28 x3 x5 s1 s2 d = some (r, d')) : G p l e rm_Re_addPayment s m args below meth c 0 0 (MQ below (fun _ => QC D cA ad 0 A none none d') args s 0 0 A) 6 D cA ad 0 A 28 [(2, 11), (9, 0), (9, 0), (0, x3), (9, 0), (0, x5)] [(0, s2), (0, s1), (2, 22)] d := by
  unfold L_Re_addPayment_b28 at h
  obtain ⟨hb1_, h⟩ := ck_some h
  refine g_iast C 22 hs2 hs1 rfl cd_A22 (nA (by decide)) hb1_ (by decide +kernel) ?_
  refine g_aload_n C 0 rfl (by decide +kernel) ?_
  refine g_getR C cl7 11 16 23 rfl cd_A11 ⟨by decide, rfl, by decide⟩ rfl rfl (nA (by decide)) (ix := 49) lk_97 (by decide +kernel) ?_
  refine g_aload_n C 0 rfl (by decide +kernel) ?_
  refine g_getI C cl7 11 18 rfl cd_A11 ⟨by decide, rfl, by decide⟩ rfl (nA (by decide)) (ix := 65) lk_99 (by decide +kernel) (fun hc2_ => ?_)
  refine g_val (y := (d 11 18)) rfl ?_
  replace hc2_ : c32 (d 11 18) := hc2_
  refine g_iload_n C 3 rfl (by decide +kernel) ?_
  obtain ⟨hb3_, h⟩ := ck_some h
  refine g_iast C 23 hx3 hc2_ rfl cd_A23 (nA (by decide)) hb3_ (by decide +kernel) ?_
  refine g_aload_n C 0 rfl (by decide +kernel) ?_
  refine g_getR C cl7 11 17 24 rfl cd_A11 ⟨by decide, rfl, by decide⟩ rfl rfl (nA (by decide)) (ix := 52) lk_98 (by decide +kernel) ?_
  refine g_aload_n C 0 rfl (by decide +kernel) ?_
  refine g_getI C cl7 11 18 rfl cd_A11 ⟨by decide, rfl, by decide⟩ rfl (nA (by decide)) (ix := 65) lk_99 (by decide +kernel) (fun hc4_ => ?_)
  refine g_val (y := (d 11 18)) rfl ?_
  replace hc4_ : c32 (d 11 18) := hc4_
  refine g_iload C 5 rfl (by decide +kernel) ?_
  obtain ⟨hb5_, h⟩ := ck_some h
  refine g_iast C 24 hx5 hc4_ rfl cd_A24 (nA (by decide)) hb5_ (by decide +kernel) ?_
  refine g_aload_n C 0 rfl (by decide +kernel) ?_
  refine g_dup C tg2 (by decide +kernel) ?_
  refine g_getI C cl7 11 18 rfl cd_A11 ⟨by decide, rfl, by decide⟩ rfl (nA (by decide)) (ix := 65) lk_99 (by decide +kernel) (fun hc6_ => ?_)
  refine g_val (y := (d 11 18)) rfl ?_
  replace hc6_ : c32 (d 11 18) := hc6_
  refine g_iconst C 1 (cK rfl) (by decide +kernel) ?_
  refine g_iadd C (by decide +kernel) ?_
  refine g_putI C cl7 11 18 (w32_c _) rfl cd_A11 ⟨by decide, rfl, by decide⟩ rfl (nA (by decide)) (ix := 65) lk_99 rfl rfl (by decide +kernel) ?_
  refine g_aload_n C 0 rfl (by decide +kernel) ?_
  refine g_iload C 5 rfl (by decide +kernel) ?_
  refine g_putI C cl7 11 2 hx5 rfl cd_A11 ⟨by decide, rfl, by decide⟩ rfl (nA (by decide)) (ix := 68) lk_83 rfl rfl (by decide +kernel) ?_
  obtain ⟨rfl, rfl⟩ := ret_inj h
  exact g_vret C hlk hr (by decide +kernel)
set_option maxHeartbeats 4000000 in
theorem ok_Re_addPayment {l : Launch} {r : Int} {d' : Dt} (p1 p2 p3 p4 p5 : Int) (d : Dt) (hp1 : c32 p1) (hp2 : c32 p2) (hp3 : c32 p3) (hp4 : cb p4) (hp5 : c32 p5) (h : L_Re_addPayment p1 p2 p3 p4 p5 d = some (r, d')) : MC l y_Re_addPayment prog_9_method_9_code 6 none rm_Re_addPayment 0 [(2, 11), (0, p1), (0, p2), (0, p3), (0, p4), (0, p5)] d none d' := by
  refine MC.of (by decide) (Nat.le_of_ble_eq_true rfl) ?_
  intro p e s m args below meth c D cA ad A C hlk hr
  replace C : Cx p s m args c prog_9_method_9_code 6 "PollBooks$Records" D cA ad 0 A := C
  show G p l e rm_Re_addPayment s m args below meth c 0 0 (MQ below (fun _ => QC D cA ad 0 A none none d') args s 0 0 A) 6 D cA ad 0 A 0 [(2, 11), (0, p1), (0, p2), (0, p3), (0, p4), (0, p5)] [] d
  refine g_sub (lo2 := [(2, 11), (0, p1), (0, p2), (0, p3), (0, p4), (0, p5)]) (lsb_v (lsb_v (lsb_v (lsb_v (lsb_v (lsb_v lsb_e)))))) ?_
  unfold L_Re_addPayment at h
  refine g_aload_n C 0 rfl (by decide +kernel) ?_
  refine g_getR C cl7 11 14 21 rfl cd_A11 ⟨by decide, rfl, by decide⟩ rfl rfl (nA (by decide)) (ix := 43) lk_95 (by decide +kernel) ?_
  refine g_aload_n C 0 rfl (by decide +kernel) ?_
  refine g_getI C cl7 11 18 rfl cd_A11 ⟨by decide, rfl, by decide⟩ rfl (nA (by decide)) (ix := 65) lk_99 (by decide +kernel) (fun hc7_ => ?_)
  refine g_iload_n C 1 rfl (by decide +kernel) ?_
  obtain ⟨hb8_, h⟩ := ck_some h
  refine g_iast C 21 hp1 hc7_ rfl cd_A21 (nA (by decide)) hb8_ (by decide +kernel) ?_
  refine g_aload_n C 0 rfl (by decide +kernel) ?_
  refine g_getR C cl7 11 15 22 rfl cd_A11 ⟨by decide, rfl, by decide⟩ rfl rfl (nA (by decide)) (ix := 46) lk_96 (by decide +kernel) ?_
  refine g_aload_n C 0 rfl (by decide +kernel) ?_
  refine g_getI C cl7 11 18 rfl cd_A11 ⟨by decide, rfl, by decide⟩ rfl (nA (by decide)) (ix := 65) lk_99 (by decide +kernel) (fun hc9_ => ?_)
  refine g_val (y := (d 11 18)) rfl ?_
  replace hc9_ : c32 (d 11 18) := hc9_
  refine g_iload C 4 rfl (by decide +kernel) ?_
  refine g_if_eq C (off := 7) (tgt := 27) (c32_cb hp4) (by decide +kernel) (by decide) (fun hc10_ => ?_) (fun hc10_ => ?_)
  · replace h := ite_t hc10_ h
    refine g_iconst C 0 (cK rfl) (by decide +kernel) ?_
    refine g_sub (lo2 := [(2, 11), (9, 0), (9, 0), (0, p3), (9, 0), (0, p5)]) (lsb_v (lsb_c (lsb_c (lsb_v (lsb_c (lsb_v lsb_e)))))) ?_
    exact ok_Re_addPayment_b28 C hlk hr p3 p5 (d 11 18) 0 (up2 d 21 ((d 11 18)).toNat p1) hp3 hp5 hc9_ (c32_cb (Or.inl rfl)) h
  · replace h := ite_f hc10_ h
    refine g_iload_n C 2 rfl (by decide +kernel) ?_
    refine g_goto C 28 (off := 4) (by decide +kernel) (by decide) ?_
    refine g_sub (lo2 := [(2, 11), (9, 0), (9, 0), (0, p3), (9, 0), (0, p5)]) (lsb_v (lsb_c (lsb_c (lsb_v (lsb_c (lsb_v lsb_e)))))) ?_
    exact ok_Re_addPayment_b28 C hlk hr p3 p5 (d 11 18) p2 (up2 d 21 ((d 11 18)).toNat p1) hp3 hp5 hc9_ hp2 h
/-! PollBooks.pay(IIIZI)Z -/
def y_PB_pay : MethodName := ⟨"PollBooks", "pay", "(IIIZI)Z"⟩
def rm_PB_pay : Room := { frames := 2, cells := 0, slots := 0, locals := 45 }
theorem mw_PB_pay : MW y_PB_pay prog_1_method_13_code 7 (some .boolean) 5 := ⟨lk_678, lk_1, by decide +kernel⟩
def L_PB_pay_b85 (d : Dt) : Option (Int × Dt) :=
  if (d 0 0) = 0 then some (1, d) else some (0, d)
def L_PB_pay_b43 (x1 x2 x3 x4 x5 s0 : Int) (d : Dt) : Option (Int × Dt) :=
  bd (L_Re_paymentsFull d) (fun r4_ d3_ => bd (L_PB_recordStatus s0 r4_ x5 d3_) (fun r8_ d7_ => if r8_ = 0 then bd (L_Re_addPayment x1 x2 x3 x4 x5 (up2 d7_ 0 0 r8_)) (fun r14_ d13_ => L_PB_pay_b85 d13_) else L_PB_pay_b85 (up2 d7_ 0 0 r8_)))
def L_PB_pay (p1 p2 p3 p4 p5 : Int) (d : Dt) : Option (Int × Dt) :=
  bd (L_Pe_has p1 d) (fun r18_ d17_ => if r18_ = 0 then L_PB_pay_b43 p1 p2 p3 p4 p5 0 d17_ else bd (L_PB_within p2 1 1000 d17_) (fun r23_ d22_ => if r23_ = 0 then L_PB_pay_b43 p1 p2 p3 p4 p5 0 d22_ else bd (L_PB_isDay p3 d22_) (fun r28_ d27_ => if r28_ = 0 then L_PB_pay_b43 p1 p2 p3 p4 p5 0 d27_ else bd (L_PB_isDay p5 d27_) (fun r33_ d32_ => if r33_ = 0 then L_PB_pay_b43 p1 p2 p3 p4 p5 0 d32_ else L_PB_pay_b43 p1 p2 p3 p4 p5 1 d32_))))
set_option maxHeartbeats 4000000 in
theorem ok_PB_pay_b85 {p : Program} {l : Launch} {e : Env} {s : State} {m : MethodId} {args : Array Value} {below : List Frame} {meth : Method} {c : Code} {D : va_G} {cA : Nat → ClassId} {ad : Nat → Nat} {A : Nat → Prop} (C : Cx p s m args c prog_1_method_13_code 7 "PollBooks" D cA ad 0 A) (hlk : meth.locks = false) (hr : meth.sig.returnType = (some .boolean)) {r : Int} {d' : Dt} (d : Dt)  (h : L_PB_pay_b85 d = some (r, d')) : G p l e rm_PB_pay s m args below meth c 0 0 (MQ below (fun _ => QC D cA ad 0 A (some .boolean) (some (0, r)) d') args s 0 0 A) 7 D cA ad 0 A 85 [(2, 0), (9, 0), (9, 0), (9, 0), (9, 0), (9, 0), (9, 0)] [] d := by
  unfold L_PB_pay_b85 at h
  refine g_aload_n C 0 rfl (by decide +kernel) ?_
  refine g_getI C cl11 0 0 rfl cd_A0 ⟨by decide, rfl, by decide⟩ rfl (nA (by decide)) (ix := 9) lk_467 (by decide +kernel) (fun hc1_ => ?_)
  refine g_if_ne C (off := 7) (tgt := 96) hc1_ (by decide +kernel) (by decide) (fun hc2_ => ?_) (fun hc2_ => ?_)
  · replace h := ite_t hc2_ h
    refine g_iconst C 1 (cK rfl) (by decide +kernel) ?_
    refine g_goto C 97 (off := 4) (by decide +kernel) (by decide) ?_
    obtain ⟨rfl, rfl⟩ := ret_inj h
    exact g_zret C (Or.inr rfl) hlk hr (by decide +kernel)
  · replace h := ite_f hc2_ h
    refine g_iconst C 0 (cK rfl) (by decide +kernel) ?_
    obtain ⟨rfl, rfl⟩ := ret_inj h
    exact g_zret C (Or.inl rfl) hlk hr (by decide +kernel)
set_option maxHeartbeats 4000000 in
theorem ok_PB_pay_b43 {p : Program} {l : Launch} {e : Env} {s : State} {m : MethodId} {args : Array Value} {below : List Frame} {meth : Method} {c : Code} {D : va_G} {cA : Nat → ClassId} {ad : Nat → Nat} {A : Nat → Prop} (C : Cx p s m args c prog_1_method_13_code 7 "PollBooks" D cA ad 0 A) (hlk : meth.locks = false) (hr : meth.sig.returnType = (some .boolean)) {r : Int} {d' : Dt} (x1 x2 x3 x4 x5 s0 : Int) (d : Dt) (hx1 : c32 x1) (hx2 : c32 x2) (hx3 : c32 x3) (hx4 : cb x4) (hx5 : c32 x5) (hs0 : cb s0) (h : L_PB_pay_b43 x1 x2 x3 x4 x5 s0 d = some (r, d')) : G p l e rm_PB_pay s m args below meth c 0 0 (MQ below (fun _ => QC D cA ad 0 A (some .boolean) (some (0, r)) d') args s 0 0 A) 7 D cA ad 0 A 43 [(2, 0), (0, x1), (0, x2), (0, x3), (0, x4), (0, x5), (9, 0)] [(0, s0)] d := by
  unfold L_PB_pay_b43 at h
  refine s_istore C 6 (lo' := [(2, 0), (0, x1), (0, x2), (0, x3), (0, x4), (0, x5), (0, s0)]) (by decide) (s1k (s1k (s1k (s1k (s1k (s1n (by decide) s1z)))))) (by decide +kernel) ?_
  refine g_aload_n C 0 rfl (by decide +kernel) ?_
  refine g_aload_n C 0 rfl (by decide +kernel) ?_
  refine g_iload C 6 rfl (by decide +kernel) ?_
  refine g_aload_n C 0 rfl (by decide +kernel) ?_
  refine g_getR C cl11 0 3 11 rfl cd_A0 ⟨by decide, rfl, by decide⟩ rfl rfl (nA (by decide)) (ix := 32) lk_470 (by decide +kernel) ?_
  obtain ⟨r4_, d3_, hr5_, h⟩ := bd_some h
  refine g_callV C mw_Re_paymentsFull [] 11 cl7 rfl (ok_Re_paymentsFull  d  hr5_) cd_A11 (by decide) (nA (by decide)) (ix := 200) lk_679 lk_680 lk_681 ⟨rfl, rfl, Nat.le_of_ble_eq_true rfl, Nat.le_of_ble_eq_true rfl⟩ rfl (rest := [(0, s0), (2, 0), (2, 0)]) rfl (Nat.le_of_ble_eq_true rfl) ⟨Nat.zero_le _, Nat.zero_le _⟩ (by decide +kernel) (fun _ hc6_ => ?_)
  replace hc6_ : cb r4_ := hc6_
  refine g_st (st2 := [(0, r4_), (0, s0), (2, 0), (2, 0)]) rfl ?_
  refine g_iload C 5 rfl (by decide +kernel) ?_
  obtain ⟨r8_, d7_, hr9_, h⟩ := bd_some h
  refine g_callV C mw_PB_recordStatus [(0, s0), (0, r4_), (0, x5)] 0 cl11 rfl (ok_PB_recordStatus s0 r4_ x5 d3_ hs0 hc6_ hx5 hr9_) cd_A0 (by decide) (nA (by decide)) (ix := 186) lk_651 lk_653 lkp_4 ⟨rfl, rfl, Nat.le_of_ble_eq_true rfl, Nat.le_of_ble_eq_true rfl⟩ rfl (rest := [(2, 0)]) rfl (Nat.le_of_ble_eq_true rfl) ⟨Nat.zero_le _, Nat.zero_le _⟩ (by decide +kernel) (fun _ hc10_ => ?_)
  replace hc10_ : c32 r8_ := hc10_
  refine g_st (st2 := [(0, r8_), (2, 0)]) rfl ?_
  refine g_putI C cl11 0 0 hc10_ rfl cd_A0 ⟨by decide, rfl, by decide⟩ rfl (nA (by decide)) (ix := 9) lk_467 rfl rfl (by decide +kernel) ?_
  refine g_aload_n C 0 rfl (by decide +kernel) ?_
  refine g_getI C cl11 0 0 rfl cd_A0 ⟨by decide, rfl, by decide⟩ rfl (nA (by decide)) (ix := 9) lk_467 (by decide +kernel) (fun hc11_ => ?_)
  refine g_val (y := r8_) rfl ?_
  replace hc11_ : c32 r8_ := hc11_
  refine g_if_ne C (off := 17) (tgt := 85) hc11_ (by decide +kernel) (by decide) (fun hc12_ => ?_) (fun hc12_ => ?_)
  · replace h := ite_t hc12_ h
    refine g_aload_n C 0 rfl (by decide +kernel) ?_
    refine g_getR C cl11 0 3 11 rfl cd_A0 ⟨by decide, rfl, by decide⟩ rfl rfl (nA (by decide)) (ix := 32) lk_470 (by decide +kernel) ?_
    refine g_iload_n C 1 rfl (by decide +kernel) ?_
    refine g_iload_n C 2 rfl (by decide +kernel) ?_
    refine g_iload_n C 3 rfl (by decide +kernel) ?_
    refine g_iload C 4 rfl (by decide +kernel) ?_
    refine g_iload C 5 rfl (by decide +kernel) ?_
    obtain ⟨r14_, d13_, hr15_, h⟩ := bd_some h
    refine g_callV C mw_Re_addPayment [(0, x1), (0, x2), (0, x3), (0, x4), (0, x5)] 11 cl7 rfl (ok_Re_addPayment x1 x2 x3 x4 x5 (up2 d7_ 0 0 r8_) hx1 hx2 hx3 hx4 hx5 hr15_) cd_A11 (by decide) (nA (by decide)) (ix := 203) lk_683 lk_684 lk_685 ⟨rfl, rfl, Nat.le_of_ble_eq_true rfl, Nat.le_of_ble_eq_true rfl⟩ rfl (rest := []) rfl (Nat.le_of_ble_eq_true rfl) ⟨Nat.zero_le _, Nat.zero_le _⟩ (by decide +kernel) (fun _ hc16_ => ?_)
    refine g_st (st2 := []) rfl ?_
    refine g_sub (lo2 := [(2, 0), (9, 0), (9, 0), (9, 0), (9, 0), (9, 0), (9, 0)]) (lsb_v (lsb_c (lsb_c (lsb_c (lsb_c (lsb_c (lsb_c lsb_e))))))) ?_
    exact ok_PB_pay_b85 C hlk hr d13_  h
  · replace h := ite_f hc12_ h
    refine g_sub (lo2 := [(2, 0), (9, 0), (9, 0), (9, 0), (9, 0), (9, 0), (9, 0)]) (lsb_v (lsb_c (lsb_c (lsb_c (lsb_c (lsb_c (lsb_c lsb_e))))))) ?_
    exact ok_PB_pay_b85 C hlk hr (up2 d7_ 0 0 r8_)  h
set_option maxHeartbeats 4000000 in
theorem ok_PB_pay {l : Launch} {r : Int} {d' : Dt} (p1 p2 p3 p4 p5 : Int) (d : Dt) (hp1 : c32 p1) (hp2 : c32 p2) (hp3 : c32 p3) (hp4 : cb p4) (hp5 : c32 p5) (h : L_PB_pay p1 p2 p3 p4 p5 d = some (r, d')) : MC l y_PB_pay prog_1_method_13_code 7 (some .boolean) rm_PB_pay 0 [(2, 0), (0, p1), (0, p2), (0, p3), (0, p4), (0, p5)] d (some (0, r)) d' := by
  refine MC.of (by decide) (Nat.le_of_ble_eq_true rfl) ?_
  intro p e s m args below meth c D cA ad A C hlk hr
  replace C : Cx p s m args c prog_1_method_13_code 7 "PollBooks" D cA ad 0 A := C
  show G p l e rm_PB_pay s m args below meth c 0 0 (MQ below (fun _ => QC D cA ad 0 A (some .boolean) (some (0, r)) d') args s 0 0 A) 7 D cA ad 0 A 0 [(2, 0), (0, p1), (0, p2), (0, p3), (0, p4), (0, p5)] [] d
  refine g_sub (lo2 := [(2, 0), (0, p1), (0, p2), (0, p3), (0, p4), (0, p5), (9, 0)]) (lsb_v (lsb_v (lsb_v (lsb_v (lsb_v (lsb_v (lsb_n lsb_e))))))) ?_
  unfold L_PB_pay at h
  refine g_aload_n C 0 rfl (by decide +kernel) ?_
  refine g_getR C cl11 0 2 7 rfl cd_A0 ⟨by decide, rfl, by decide⟩ rfl rfl (nA (by decide)) (ix := 23) lk_469 (by decide +kernel) ?_
  refine g_iload_n C 1 rfl (by decide +kernel) ?_
  obtain ⟨r18_, d17_, hr19_, h⟩ := bd_some h
  refine g_callV C mw_Pe_has [(0, p1)] 7 cl5 rfl (ok_Pe_has p1 d hp1 hr19_) cd_A7 (by decide) (nA (by decide)) (ix := 173) lk_637 lk_638 lk_639 ⟨rfl, rfl, Nat.le_of_ble_eq_true rfl, Nat.le_of_ble_eq_true rfl⟩ rfl (rest := []) rfl (Nat.le_of_ble_eq_true rfl) ⟨Nat.zero_le _, Nat.zero_le _⟩ (by decide +kernel) (fun _ hc20_ => ?_)
  replace hc20_ : cb r18_ := hc20_
  refine g_st (st2 := [(0, r18_)]) rfl ?_
  refine g_if_eq C (off := 34) (tgt := 42) (c32_cb hc20_) (by decide +kernel) (by decide) (fun hc21_ => ?_) (fun hc21_ => ?_)
  · replace h := ite_t hc21_ h
    refine g_iconst C 0 (cK rfl) (by decide +kernel) ?_
    refine g_sub (lo2 := [(2, 0), (0, p1), (0, p2), (0, p3), (0, p4), (0, p5), (9, 0)]) (lsb_v (lsb_v (lsb_v (lsb_v (lsb_v (lsb_v (lsb_c lsb_e))))))) ?_
    exact ok_PB_pay_b43 C hlk hr p1 p2 p3 p4 p5 0 d17_ hp1 hp2 hp3 hp4 hp5 (Or.inl rfl) h
  · replace h := ite_f hc21_ h
    refine g_iload_n C 2 rfl (by decide +kernel) ?_
    refine g_i2l C hp2 (by decide +kernel) ?_
    refine g_lconst C 1 (v := 1) (by decide) (by decide +kernel) ?_
    refine g_ldc2 C (ix := 178) (v := 1000) lk_642 (by decide +kernel) ?_
    obtain ⟨r23_, d22_, hr24_, h⟩ := bd_some h
    refine g_callS C mw_PB_within [(1, p2), (1, 1), (1, 1000)] (ok_PB_within p2 1 1000 d17_ (c64_32 hp2) (cL rfl) (cL rfl) hr24_) (ix := 105) lk_520 lk_521 ⟨rfl, rfl, Nat.le_of_ble_eq_true rfl, Nat.le_of_ble_eq_true rfl⟩ rfl (rest := []) rfl (Nat.le_of_ble_eq_true rfl) ⟨Nat.zero_le _, Nat.zero_le _⟩ (by decide +kernel) (fun _ hc25_ => ?_)
    replace hc25_ : cb r23_ := hc25_
    refine g_st (st2 := [(0, r23_)]) rfl ?_
    refine g_if_eq C (off := 22) (tgt := 42) (c32_cb hc25_) (by decide +kernel) (by decide) (fun hc26_ => ?_) (fun hc26_ => ?_)
    · replace h := ite_t hc26_ h
      refine g_iconst C 0 (cK rfl) (by decide +kernel) ?_
      refine g_sub (lo2 := [(2, 0), (0, p1), (0, p2), (0, p3), (0, p4), (0, p5), (9, 0)]) (lsb_v (lsb_v (lsb_v (lsb_v (lsb_v (lsb_v (lsb_c lsb_e))))))) ?_
      exact ok_PB_pay_b43 C hlk hr p1 p2 p3 p4 p5 0 d22_ hp1 hp2 hp3 hp4 hp5 (Or.inl rfl) h
    · replace h := ite_f hc26_ h
      refine g_iload_n C 3 rfl (by decide +kernel) ?_
      obtain ⟨r28_, d27_, hr29_, h⟩ := bd_some h
      refine g_callS C mw_PB_isDay [(0, p3)] (ok_PB_isDay p3 d22_ hp3 hr29_) (ix := 180) lk_643 lk_644 ⟨rfl, rfl, Nat.le_of_ble_eq_true rfl, Nat.le_of_ble_eq_true rfl⟩ rfl (rest := []) rfl (Nat.le_of_ble_eq_true rfl) ⟨Nat.zero_le _, Nat.zero_le _⟩ (by decide +kernel) (fun _ hc30_ => ?_)
      replace hc30_ : cb r28_ := hc30_
      refine g_st (st2 := [(0, r28_)]) rfl ?_
      refine g_if_eq C (off := 15) (tgt := 42) (c32_cb hc30_) (by decide +kernel) (by decide) (fun hc31_ => ?_) (fun hc31_ => ?_)
      · replace h := ite_t hc31_ h
        refine g_iconst C 0 (cK rfl) (by decide +kernel) ?_
        refine g_sub (lo2 := [(2, 0), (0, p1), (0, p2), (0, p3), (0, p4), (0, p5), (9, 0)]) (lsb_v (lsb_v (lsb_v (lsb_v (lsb_v (lsb_v (lsb_c lsb_e))))))) ?_
        exact ok_PB_pay_b43 C hlk hr p1 p2 p3 p4 p5 0 d27_ hp1 hp2 hp3 hp4 hp5 (Or.inl rfl) h
      · replace h := ite_f hc31_ h
        refine g_iload C 5 rfl (by decide +kernel) ?_
        obtain ⟨r33_, d32_, hr34_, h⟩ := bd_some h
        refine g_callS C mw_PB_isDay [(0, p5)] (ok_PB_isDay p5 d27_ hp5 hr34_) (ix := 180) lk_643 lk_644 ⟨rfl, rfl, Nat.le_of_ble_eq_true rfl, Nat.le_of_ble_eq_true rfl⟩ rfl (rest := []) rfl (Nat.le_of_ble_eq_true rfl) ⟨Nat.zero_le _, Nat.zero_le _⟩ (by decide +kernel) (fun _ hc35_ => ?_)
        replace hc35_ : cb r33_ := hc35_
        refine g_st (st2 := [(0, r33_)]) rfl ?_
        refine g_if_eq C (off := 7) (tgt := 42) (c32_cb hc35_) (by decide +kernel) (by decide) (fun hc36_ => ?_) (fun hc36_ => ?_)
        · replace h := ite_t hc36_ h
          refine g_iconst C 0 (cK rfl) (by decide +kernel) ?_
          refine g_sub (lo2 := [(2, 0), (0, p1), (0, p2), (0, p3), (0, p4), (0, p5), (9, 0)]) (lsb_v (lsb_v (lsb_v (lsb_v (lsb_v (lsb_v (lsb_c lsb_e))))))) ?_
          exact ok_PB_pay_b43 C hlk hr p1 p2 p3 p4 p5 0 d32_ hp1 hp2 hp3 hp4 hp5 (Or.inl rfl) h
        · replace h := ite_f hc36_ h
          refine g_iconst C 1 (cK rfl) (by decide +kernel) ?_
          refine g_goto C 43 (off := 4) (by decide +kernel) (by decide) ?_
          refine g_sub (lo2 := [(2, 0), (0, p1), (0, p2), (0, p3), (0, p4), (0, p5), (9, 0)]) (lsb_v (lsb_v (lsb_v (lsb_v (lsb_v (lsb_v (lsb_c lsb_e))))))) ?_
          exact ok_PB_pay_b43 C hlk hr p1 p2 p3 p4 p5 1 d32_ hp1 hp2 hp3 hp4 hp5 (Or.inr rfl) h
/-! PollBooks$Records.lookBackFrom(I)V -/
def y_Re_lookBackFrom : MethodName := ⟨"PollBooks$Records", "lookBackFrom", "(I)V"⟩
def rm_Re_lookBackFrom : Room := { frames := 0, cells := 0, slots := 0, locals := 0 }
theorem mw_Re_lookBackFrom : MW y_Re_lookBackFrom prog_9_method_6_code 2 none 1 := ⟨lk_694, lk_5, by decide +kernel⟩
def L_Re_lookBackFrom (p1 : Int) (d : Dt) : Option (Int × Dt) :=
  some (0, (up2 d 11 1 p1))
set_option maxHeartbeats 4000000 in
theorem ok_Re_lookBackFrom {l : Launch} {r : Int} {d' : Dt} (p1 : Int) (d : Dt) (hp1 : c32 p1) (h : L_Re_lookBackFrom p1 d = some (r, d')) : MC l y_Re_lookBackFrom prog_9_method_6_code 2 none rm_Re_lookBackFrom 0 [(2, 11), (0, p1)] d none d' := by
  refine MC.of (by decide) (Nat.le_of_ble_eq_true rfl) ?_
  intro p e s m args below meth c D cA ad A C hlk hr
  replace C : Cx p s m args c prog_9_method_6_code 2 "PollBooks$Records" D cA ad 0 A := C
  show G p l e rm_Re_lookBackFrom s m args below meth c 0 0 (MQ below (fun _ => QC D cA ad 0 A none none d') args s 0 0 A) 2 D cA ad 0 A 0 [(2, 11), (0, p1)] [] d
  refine g_sub (lo2 := [(2, 11), (0, p1)]) (lsb_v (lsb_v lsb_e)) ?_
  unfold L_Re_lookBackFrom at h
  refine g_aload_n C 0 rfl (by decide +kernel) ?_
  refine g_iload_n C 1 rfl (by decide +kernel) ?_
  refine g_putI C cl7 11 1 hp1 rfl cd_A11 ⟨by decide, rfl, by decide⟩ rfl (nA (by decide)) (ix := 9) lk_82 rfl rfl (by decide +kernel) ?_
  obtain ⟨rfl, rfl⟩ := ret_inj h
  exact g_vret C hlk hr (by decide +kernel)
/-! PollBooks.asof(I)Z -/
def y_PB_asof : MethodName := ⟨"PollBooks", "asof", "(I)Z"⟩
def rm_PB_asof : Room := { frames := 2, cells := 0, slots := 0, locals := 45 }
theorem mw_PB_asof : MW y_PB_asof prog_1_method_14_code 2 (some .boolean) 1 := ⟨lk_690, lk_1, by decide +kernel⟩
def L_PB_asof_b31 (d : Dt) : Option (Int × Dt) :=
  if (d 0 0) = 0 then some (1, d) else some (0, d)
def L_PB_asof_b13 (x1 s1 : Int) (d : Dt) : Option (Int × Dt) :=
  if s1 = 0 then bd (L_Re_lookBackFrom x1 (up2 d 0 0 s1)) (fun r6_ d5_ => L_PB_asof_b31 d5_) else L_PB_asof_b31 (up2 d 0 0 s1)
def L_PB_asof (p1 : Int) (d : Dt) : Option (Int × Dt) :=
  bd (L_PB_isDay p1 d) (fun r10_ d9_ => if r10_ = 0 then L_PB_asof_b13 p1 1 d9_ else L_PB_asof_b13 p1 0 d9_)
set_option maxHeartbeats 4000000 in
theorem ok_PB_asof_b31 {p : Program} {l : Launch} {e : Env} {s : State} {m : MethodId} {args : Array Value} {below : List Frame} {meth : Method} {c : Code} {D : va_G} {cA : Nat → ClassId} {ad : Nat → Nat} {A : Nat → Prop} (C : Cx p s m args c prog_1_method_14_code 2 "PollBooks" D cA ad 0 A) (hlk : meth.locks = false) (hr : meth.sig.returnType = (some .boolean)) {r : Int} {d' : Dt} (d : Dt)  (h : L_PB_asof_b31 d = some (r, d')) : G p l e rm_PB_asof s m args below meth c 0 0 (MQ below (fun _ => QC D cA ad 0 A (some .boolean) (some (0, r)) d') args s 0 0 A) 2 D cA ad 0 A 31 [(2, 0), (9, 0)] [] d := by
  unfold L_PB_asof_b31 at h
  refine g_aload_n C 0 rfl (by decide +kernel) ?_
  refine g_getI C cl11 0 0 rfl cd_A0 ⟨by decide, rfl, by decide⟩ rfl (nA (by decide)) (ix := 9) lk_467 (by decide +kernel) (fun hc1_ => ?_)
  refine g_if_ne C (off := 7) (tgt := 42) hc1_ (by decide +kernel) (by decide) (fun hc2_ => ?_) (fun hc2_ => ?_)
  · replace h := ite_t hc2_ h
    refine g_iconst C 1 (cK rfl) (by decide +kernel) ?_
    refine g_goto C 43 (off := 4) (by decide +kernel) (by decide) ?_
    obtain ⟨rfl, rfl⟩ := ret_inj h
    exact g_zret C (Or.inr rfl) hlk hr (by decide +kernel)
  · replace h := ite_f hc2_ h
    refine g_iconst C 0 (cK rfl) (by decide +kernel) ?_
    obtain ⟨rfl, rfl⟩ := ret_inj h
    exact g_zret C (Or.inl rfl) hlk hr (by decide +kernel)
set_option maxHeartbeats 4000000 in
theorem ok_PB_asof_b13 {p : Program} {l : Launch} {e : Env} {s : State} {m : MethodId} {args : Array Value} {below : List Frame} {meth : Method} {c : Code} {D : va_G} {cA : Nat → ClassId} {ad : Nat → Nat} {A : Nat → Prop} (C : Cx p s m args c prog_1_method_14_code 2 "PollBooks" D cA ad 0 A) (hlk : meth.locks = false) (hr : meth.sig.returnType = (some .boolean)) {r : Int} {d' : Dt} (x1 s1 : Int) (d : Dt) (hx1 : c32 x1) (hs1 : cb s1) (h : L_PB_asof_b13 x1 s1 d = some (r, d')) : G p l e rm_PB_asof s m args below meth c 0 0 (MQ below (fun _ => QC D cA ad 0 A (some .boolean) (some (0, r)) d') args s 0 0 A) 2 D cA ad 0 A 13 [(2, 0), (0, x1)] [(0, s1), (2, 0)] d := by
  unfold L_PB_asof_b13 at h
  refine g_putI C cl11 0 0 (c32_cb hs1) rfl cd_A0 ⟨by decide, rfl, by decide⟩ rfl (nA (by decide)) (ix := 9) lk_467 rfl rfl (by decide +kernel) ?_
  refine g_aload_n C 0 rfl (by decide +kernel) ?_
  refine g_getI C cl11 0 0 rfl cd_A0 ⟨by decide, rfl, by decide⟩ rfl (nA (by decide)) (ix := 9) lk_467 (by decide +kernel) (fun hc3_ => ?_)
  refine g_val (y := s1) rfl ?_
  replace hc3_ : c32 s1 := hc3_
  refine g_if_ne C (off := 11) (tgt := 31) hc3_ (by decide +kernel) (by decide) (fun hc4_ => ?_) (fun hc4_ => ?_)
  · replace h := ite_t hc4_ h
    refine g_aload_n C 0 rfl (by decide +kernel) ?_
    refine g_getR C cl11 0 3 11 rfl cd_A0 ⟨by decide, rfl, by decide⟩ rfl rfl (nA (by decide)) (ix := 32) lk_470 (by decide +kernel) ?_
    refine g_iload_n C 1 rfl (by decide +kernel) ?_
    obtain ⟨r6_, d5_, hr7_, h⟩ := bd_some h
    refine g_callV C mw_Re_lookBackFrom [(0, x1)] 11 cl7 rfl (ok_Re_lookBackFrom x1 (up2 d 0 0 s1) hx1 hr7_) cd_A11 (by decide) (nA (by decide)) (ix := 207) lk_691 lk_692 lk_693 ⟨rfl, rfl, Nat.le_of_ble_eq_true rfl, Nat.le_of_ble_eq_true rfl⟩ rfl (rest := []) rfl (Nat.le_of_ble_eq_true rfl) ⟨Nat.zero_le _, Nat.zero_le _⟩ (by decide +kernel) (fun _ hc8_ => ?_)
    refine g_st (st2 := []) rfl ?_
    refine g_sub (lo2 := [(2, 0), (9, 0)]) (lsb_v (lsb_c lsb_e)) ?_
    exact ok_PB_asof_b31 C hlk hr d5_  h
  · replace h := ite_f hc4_ h
    refine g_sub (lo2 := [(2, 0), (9, 0)]) (lsb_v (lsb_c lsb_e)) ?_
    exact ok_PB_asof_b31 C hlk hr (up2 d 0 0 s1)  h
set_option maxHeartbeats 4000000 in
theorem ok_PB_asof {l : Launch} {r : Int} {d' : Dt} (p1 : Int) (d : Dt) (hp1 : c32 p1) (h : L_PB_asof p1 d = some (r, d')) : MC l y_PB_asof prog_1_method_14_code 2 (some .boolean) rm_PB_asof 0 [(2, 0), (0, p1)] d (some (0, r)) d' := by
  refine MC.of (by decide) (Nat.le_of_ble_eq_true rfl) ?_
  intro p e s m args below meth c D cA ad A C hlk hr
  replace C : Cx p s m args c prog_1_method_14_code 2 "PollBooks" D cA ad 0 A := C
  show G p l e rm_PB_asof s m args below meth c 0 0 (MQ below (fun _ => QC D cA ad 0 A (some .boolean) (some (0, r)) d') args s 0 0 A) 2 D cA ad 0 A 0 [(2, 0), (0, p1)] [] d
  refine g_sub (lo2 := [(2, 0), (0, p1)]) (lsb_v (lsb_v lsb_e)) ?_
  unfold L_PB_asof at h
  refine g_aload_n C 0 rfl (by decide +kernel) ?_
  refine g_iload_n C 1 rfl (by decide +kernel) ?_
  obtain ⟨r10_, d9_, hr11_, h⟩ := bd_some h
  refine g_callS C mw_PB_isDay [(0, p1)] (ok_PB_isDay p1 d hp1 hr11_) (ix := 180) lk_643 lk_644 ⟨rfl, rfl, Nat.le_of_ble_eq_true rfl, Nat.le_of_ble_eq_true rfl⟩ rfl (rest := [(2, 0)]) rfl (Nat.le_of_ble_eq_true rfl) ⟨Nat.zero_le _, Nat.zero_le _⟩ (by decide +kernel) (fun _ hc12_ => ?_)
  replace hc12_ : cb r10_ := hc12_
  refine g_st (st2 := [(0, r10_), (2, 0)]) rfl ?_
  refine g_if_eq C (off := 7) (tgt := 12) (c32_cb hc12_) (by decide +kernel) (by decide) (fun hc13_ => ?_) (fun hc13_ => ?_)
  · replace h := ite_t hc13_ h
    refine g_iconst C 1 (cK rfl) (by decide +kernel) ?_
    refine g_sub (lo2 := [(2, 0), (0, p1)]) (lsb_v (lsb_v lsb_e)) ?_
    exact ok_PB_asof_b13 C hlk hr p1 1 d9_ hp1 (Or.inr rfl) h
  · replace h := ite_f hc13_ h
    refine g_iconst C 0 (cK rfl) (by decide +kernel) ?_
    refine g_goto C 13 (off := 4) (by decide +kernel) (by decide) ?_
    refine g_sub (lo2 := [(2, 0), (0, p1)]) (lsb_v (lsb_v lsb_e)) ?_
    exact ok_PB_asof_b13 C hlk hr p1 0 d9_ hp1 (Or.inl rfl) h
/-! PollBooks$Records.tellLand(II[J)J -/
def y_Re_tellLand : MethodName := ⟨"PollBooks$Records", "tellLand", "(II[J)J"⟩
def rm_Re_tellLand : Room := { frames := 1, cells := 0, slots := 0, locals := 23 }
theorem mw_Re_tellLand : MW y_Re_tellLand prog_9_method_11_code 12 (some .long) 3 := ⟨lk_706, lk_5, by decide +kernel⟩
def L_Re_tellLand_b118 (arr2 len2 : Nat) (x1 x2 x4 x6 x8 x9 x11 : Int) (d : Dt) : Option ((Int × Int × Int × Int × Int × Int × Int × Dt) ⊕ ((Int × Int × Int × Int × Dt))) :=
  some (Sum.inl (x1, x2, x4, x6, x8, x9, (w32 (x11 + 1)), d))
def L_Re_tellLand_y15 (arr2 len2 : Nat) (x1 x2 x4 x6 x8 x9 x11 : Int) (d : Dt) : Option ((Int × Int × Int × Int × Int × Int × Int × Dt) ⊕ ((Int × Int × Int × Int × Dt))) :=
  if x11 < (d 11 9) then ck ((0 : Int) ≤ x11 ∧ x11 < 80) (if (d 12 x11.toNat) = x1 then ck ((0 : Int) ≤ x11 ∧ x11 < 80) (if x2 < (d 15 x11.toNat) then L_Re_tellLand_b118 arr2 len2 x1 x2 x4 x6 x8 x9 x11 d else ck ((0 : Int) ≤ x11 ∧ x11 < 80) (if (d 16 x11.toNat) < x2 then L_Re_tellLand_b118 arr2 len2 x1 x2 x4 x6 x8 x9 x11 d else ck ((0 : Int) ≤ x11 ∧ x11 < 80) (if (d 11 1) < (d 17 x11.toNat) then L_Re_tellLand_b118 arr2 len2 x1 x2 x4 x6 x8 x9 x11 d else ck ((0 : Int) ≤ x11 ∧ x11 < 80) (lt_ (w64 (x4 + (d 14 x11.toNat))) (fun v18_ => ck ((0 : Int) ≤ x11 ∧ x11 < 80) (lt_ (jmaxl x6 (w32 (x2 - (d 15 x11.toNat)))) (fun v23_ => ck ((0 : Int) ≤ x11 ∧ x11 < 80) (lt_ (lor x9 (lshl 1 (d 13 x11.toNat))) (fun v28_ => L_Re_tellLand_b118 arr2 len2 x1 x2 v18_ v23_ (w32 (x8 + 1)) v28_ x11 d))))))))) else L_Re_tellLand_b118 arr2 len2 x1 x2 x4 x6 x8 x9 x11 d) else some (Sum.inr (x4, x6, x8, x9, d))
def L_Re_tellLand_l15 (arr2 len2 : Nat) (x1 x2 x4 x6 x8 x9 x11 : Int) (d : Dt) : Option ((Int × Int × Int × Int × Dt)) := lpF (fun q : Int × Int × Int × Int × Int × Int × Int × Dt => L_Re_tellLand_y15 arr2 len2 q.1 q.2.1 q.2.2.1 q.2.2.2.1 q.2.2.2.2.1 q.2.2.2.2.2.1 q.2.2.2.2.2.2.1 q.2.2.2.2.2.2.2) FU (x1, x2, x4, x6, x8, x9, x11, d)
def L_Re_tellLand (arr2 len2 : Nat) (p1 p2 : Int) (d : Dt) : Option (Int × Dt) :=
  lb (L_Re_tellLand_l15 arr2 len2 p1 p2 0 0 0 0 0 d) (fun q42_ => u4 q42_ (fun v33_ v34_ v35_ v36_ d37_ => ck ((0 : Int) ≤ 0 ∧ 0 < (len2 : Int)) (ck ((0 : Int) ≤ 1 ∧ 1 < (len2 : Int)) (ck ((0 : Int) ≤ 2 ∧ 2 < (len2 : Int)) (some (v36_, (up2 (up2 (up2 d37_ arr2 0 v33_) arr2 1 v35_) arr2 2 v34_)))))))
set_option maxHeartbeats 4000000 in
theorem ok_Re_tellLand_b118 {p : Program} {l : Launch} {e : Env} {s : State} {m : MethodId} {args : Array Value} {below : List Frame} {meth : Method} {c : Code} {D : va_G} {cA : Nat → ClassId} {ad : Nat → Nat} {A : Nat → Prop} (C : Cx p s m args c prog_9_method_11_code 12 "PollBooks$Records" D cA ad 0 A) {Q : State → Prop} (arr2 len2 : Nat) (harr2 : cd 0 arr2 = (21, len2)) (barr2 : arr2 < 79) {o : (Int × Int × Int × Int × Int × Int × Int × Dt) ⊕ ((Int × Int × Int × Int × Dt))} (x1 x2 x4 x6 x8 x9 x11 : Int) (d : Dt) (hx1 : c32 x1) (hx2 : c32 x2) (hx4 : c64 x4) (hx6 : c64 x6) (hx8 : c32 x8) (hx9 : c64 x9) (hx11 : c32 x11) (h : L_Re_tellLand_b118 arr2 len2 x1 x2 x4 x6 x8 x9 x11 d = some o) (kb : ∀ (y0 y1 y2 y3 y4 y5 y6 : Int) (e' : Dt), o = .inl (y0, y1, y2, y3, y4, y5, y6, e') → c32 y0 → c32 y1 → c64 y2 → c64 y3 → c32 y4 → c64 y5 → c32 y6 → G p l e rm_Re_tellLand s m args below meth c 0 0 Q 12 D cA ad 0 A 15 [(2, 11), (0, y0), (0, y1), (2, (arr2 : Int)), (1, y2), (9, 0), (1, y3), (9, 0), (0, y4), (1, y5), (9, 0), (0, y6)] [] e') (k0 : ∀ (y0 y1 y2 y3 : Int) (e' : Dt), o = .inr (y0, y1, y2, y3, e') → c64 y0 → c64 y1 → c32 y2 → c64 y3 → G p l e rm_Re_tellLand s m args below meth c 0 0 Q 12 D cA ad 0 A 124 [(9, 0), (9, 0), (9, 0), (2, (arr2 : Int)), (1, y0), (9, 0), (1, y1), (9, 0), (0, y2), (1, y3), (9, 0), (9, 0)] [] e') : G p l e rm_Re_tellLand s m args below meth c 0 0 Q 12 D cA ad 0 A 118 [(2, 11), (0, x1), (0, x2), (2, (arr2 : Int)), (1, x4), (9, 0), (1, x6), (9, 0), (0, x8), (1, x9), (9, 0), (0, x11)] [] d := by
  unfold L_Re_tellLand_b118 at h
  refine s_iinc C 11 1 (lo' := [(2, 11), (0, x1), (0, x2), (2, (arr2 : Int)), (1, x4), (9, 0), (1, x6), (9, 0), (0, x8), (1, x9), (9, 0), (0, (w32 (x11 + 1)))]) rfl (by decide) (s1k (s1k (s1k (s1k (s1k (s1k (s1k (s1k (s1k (s1k (s1n (by decide) s1z))))))))))) (by decide +kernel) ?_
  refine g_goto C 15 (off := (-106)) (by decide +kernel) (by decide) ?_
  refine g_sub (lo2 := [(2, 11), (0, x1), (0, x2), (2, (arr2 : Int)), (1, x4), (9, 0), (1, x6), (9, 0), (0, x8), (1, x9), (9, 0), (0, (w32 (x11 + 1)))]) (lsb_v (lsb_v (lsb_v (lsb_v (lsb_v (lsb_c (lsb_v (lsb_c (lsb_v (lsb_v (lsb_c (lsb_v lsb_e)))))))))))) ?_
  obtain rfl := Option.some.inj h
  exact kb x1 x2 x4 x6 x8 x9 (w32 (x11 + 1)) d rfl hx1 hx2 hx4 hx6 hx8 hx9 (w32_c _)
set_option maxHeartbeats 4000000 in
theorem ok_Re_tellLand_y15 {p : Program} {l : Launch} {e : Env} {s : State} {m : MethodId} {args : Array Value} {below : List Frame} {meth : Method} {c : Code} {D : va_G} {cA : Nat → ClassId} {ad : Nat → Nat} {A : Nat → Prop} (C : Cx p s m args c prog_9_method_11_code 12 "PollBooks$Records" D cA ad 0 A) {Q : State → Prop} (arr2 len2 : Nat) (harr2 : cd 0 arr2 = (21, len2)) (barr2 : arr2 < 79) {o : (Int × Int × Int × Int × Int × Int × Int × Dt) ⊕ ((Int × Int × Int × Int × Dt))} (x1 x2 x4 x6 x8 x9 x11 : Int) (d : Dt) (hx1 : c32 x1) (hx2 : c32 x2) (hx4 : c64 x4) (hx6 : c64 x6) (hx8 : c32 x8) (hx9 : c64 x9) (hx11 : c32 x11) (h : L_Re_tellLand_y15 arr2 len2 x1 x2 x4 x6 x8 x9 x11 d = some o) (kb : ∀ (y0 y1 y2 y3 y4 y5 y6 : Int) (e' : Dt), o = .inl (y0, y1, y2, y3, y4, y5, y6, e') → c32 y0 → c32 y1 → c64 y2 → c64 y3 → c32 y4 → c64 y5 → c32 y6 → G p l e rm_Re_tellLand s m args below meth c 0 0 Q 12 D cA ad 0 A 15 [(2, 11), (0, y0), (0, y1), (2, (arr2 : Int)), (1, y2), (9, 0), (1, y3), (9, 0), (0, y4), (1, y5), (9, 0), (0, y6)] [] e') (k0 : ∀ (y0 y1 y2 y3 : Int) (e' : Dt), o = .inr (y0, y1, y2, y3, e') → c64 y0 → c64 y1 → c32 y2 → c64 y3 → G p l e rm_Re_tellLand s m args below meth c 0 0 Q 12 D cA ad 0 A 124 [(9, 0), (9, 0), (9, 0), (2, (arr2 : Int)), (1, y0), (9, 0), (1, y1), (9, 0), (0, y2), (1, y3), (9, 0), (9, 0)] [] e') : G p l e rm_Re_tellLand s m args below meth c 0 0 Q 12 D cA ad 0 A 15 [(2, 11), (0, x1), (0, x2), (2, (arr2 : Int)), (1, x4), (9, 0), (1, x6), (9, 0), (0, x8), (1, x9), (9, 0), (0, x11)] [] d := by
  unfold L_Re_tellLand_y15 at h
  refine g_iload C 11 rfl (by decide +kernel) ?_
  refine g_aload_n C 0 rfl (by decide +kernel) ?_
  refine g_getI C cl7 11 9 rfl cd_A11 ⟨by decide, rfl, by decide⟩ rfl (nA (by decide)) (ix := 59) lk_90 (by decide +kernel) (fun hc1_ => ?_)
  refine g_icmp_ge C (off := 103) (tgt := 124) hx11 hc1_ (by decide +kernel) (by decide) (fun hc2_ => ?_) (fun hc2_ => ?_)
  · replace h := ite_t hc2_ h
    refine g_aload_n C 0 rfl (by decide +kernel) ?_
    refine g_getR C cl7 11 3 12 rfl cd_A11 ⟨by decide, rfl, by decide⟩ rfl rfl (nA (by decide)) (ix := 15) lk_84 (by decide +kernel) ?_
    refine g_iload C 11 rfl (by decide +kernel) ?_
    obtain ⟨hb3_, h⟩ := ck_some h
    refine g_iald C 12 hx11 rfl cd_A12 (nA (by decide)) hb3_ (by decide +kernel) (fun hc4_ => ?_)
    refine g_iload_n C 1 rfl (by decide +kernel) ?_
    refine g_icmp_ne C (off := 86) (tgt := 118) hc4_ hx1 (by decide +kernel) (by decide) (fun hc5_ => ?_) (fun hc5_ => ?_)
    · replace h := ite_t hc5_ h
      refine g_aload_n C 0 rfl (by decide +kernel) ?_
      refine g_getR C cl7 11 6 15 rfl cd_A11 ⟨by decide, rfl, by decide⟩ rfl rfl (nA (by decide)) (ix := 25) lk_87 (by decide +kernel) ?_
      refine g_iload C 11 rfl (by decide +kernel) ?_
      obtain ⟨hb6_, h⟩ := ck_some h
      refine g_iald C 15 hx11 rfl cd_A15 (nA (by decide)) hb6_ (by decide +kernel) (fun hc7_ => ?_)
      refine g_iload_n C 2 rfl (by decide +kernel) ?_
      refine g_icmp_gt C (off := 75) (tgt := 118) hc7_ hx2 (by decide +kernel) (by decide) (fun hc8_ => ?_) (fun hc8_ => ?_)
      · replace h := ite_t hc8_ h
        refine g_sub (lo2 := [(2, 11), (0, x1), (0, x2), (2, (arr2 : Int)), (1, x4), (9, 0), (1, x6), (9, 0), (0, x8), (1, x9), (9, 0), (0, x11)]) (lsb_v (lsb_v (lsb_v (lsb_v (lsb_v (lsb_c (lsb_v (lsb_c (lsb_v (lsb_v (lsb_c (lsb_v lsb_e)))))))))))) ?_
        exact ok_Re_tellLand_b118 C arr2 len2 harr2 barr2 x1 x2 x4 x6 x8 x9 x11 d hx1 hx2 hx4 hx6 hx8 hx9 hx11 h kb k0
      · replace h := ite_f hc8_ h
        refine g_iload_n C 2 rfl (by decide +kernel) ?_
        refine g_aload_n C 0 rfl (by decide +kernel) ?_
        refine g_getR C cl7 11 7 16 rfl cd_A11 ⟨by decide, rfl, by decide⟩ rfl rfl (nA (by decide)) (ix := 28) lk_88 (by decide +kernel) ?_
        refine g_iload C 11 rfl (by decide +kernel) ?_
        obtain ⟨hb9_, h⟩ := ck_some h
        refine g_iald C 16 hx11 rfl cd_A16 (nA (by decide)) hb9_ (by decide +kernel) (fun hc10_ => ?_)
        refine g_icmp_gt C (off := 64) (tgt := 118) hx2 hc10_ (by decide +kernel) (by decide) (fun hc11_ => ?_) (fun hc11_ => ?_)
        · replace h := ite_t hc11_ h
          refine g_sub (lo2 := [(2, 11), (0, x1), (0, x2), (2, (arr2 : Int)), (1, x4), (9, 0), (1, x6), (9, 0), (0, x8), (1, x9), (9, 0), (0, x11)]) (lsb_v (lsb_v (lsb_v (lsb_v (lsb_v (lsb_c (lsb_v (lsb_c (lsb_v (lsb_v (lsb_c (lsb_v lsb_e)))))))))))) ?_
          exact ok_Re_tellLand_b118 C arr2 len2 harr2 barr2 x1 x2 x4 x6 x8 x9 x11 d hx1 hx2 hx4 hx6 hx8 hx9 hx11 h kb k0
        · replace h := ite_f hc11_ h
          refine g_aload_n C 0 rfl (by decide +kernel) ?_
          refine g_getR C cl7 11 8 17 rfl cd_A11 ⟨by decide, rfl, by decide⟩ rfl rfl (nA (by decide)) (ix := 31) lk_89 (by decide +kernel) ?_
          refine g_iload C 11 rfl (by decide +kernel) ?_
          obtain ⟨hb12_, h⟩ := ck_some h
          refine g_iald C 17 hx11 rfl cd_A17 (nA (by decide)) hb12_ (by decide +kernel) (fun hc13_ => ?_)
          refine g_aload_n C 0 rfl (by decide +kernel) ?_
          refine g_getI C cl7 11 1 rfl cd_A11 ⟨by decide, rfl, by decide⟩ rfl (nA (by decide)) (ix := 9) lk_82 (by decide +kernel) (fun hc14_ => ?_)
          refine g_icmp_gt C (off := 50) (tgt := 118) hc13_ hc14_ (by decide +kernel) (by decide) (fun hc15_ => ?_) (fun hc15_ => ?_)
          · replace h := ite_t hc15_ h
            refine g_sub (lo2 := [(2, 11), (0, x1), (0, x2), (2, (arr2 : Int)), (1, x4), (9, 0), (1, x6), (9, 0), (0, x8), (1, x9), (9, 0), (0, x11)]) (lsb_v (lsb_v (lsb_v (lsb_v (lsb_v (lsb_c (lsb_v (lsb_c (lsb_v (lsb_v (lsb_c (lsb_v lsb_e)))))))))))) ?_
            exact ok_Re_tellLand_b118 C arr2 len2 harr2 barr2 x1 x2 x4 x6 x8 x9 x11 d hx1 hx2 hx4 hx6 hx8 hx9 hx11 h kb k0
          · replace h := ite_f hc15_ h
            refine g_lload C 4 rfl (by decide +kernel) ?_
            refine g_aload_n C 0 rfl (by decide +kernel) ?_
            refine g_getR C cl7 11 5 14 rfl cd_A11 ⟨by decide, rfl, by decide⟩ rfl rfl (nA (by decide)) (ix := 22) lk_86 (by decide +kernel) ?_
            refine g_iload C 11 rfl (by decide +kernel) ?_
            obtain ⟨hb16_, h⟩ := ck_some h
            refine g_iald C 14 hx11 rfl cd_A14 (nA (by decide)) hb16_ (by decide +kernel) (fun hc17_ => ?_)
            refine g_i2l C hc17_ (by decide +kernel) ?_
            refine g_ladd C (by decide +kernel) ?_
            obtain ⟨v18_, ev19_, h⟩ := lt_some h
            refine g_val ev19_.symm ?_
            have hv20_ : c64 v18_ := by rw [ev19_]; exact (w64_c _)
            refine s_lstore C 4 (lo' := [(2, 11), (0, x1), (0, x2), (2, (arr2 : Int)), (1, v18_), (9, 0), (1, x6), (9, 0), (0, x8), (1, x9), (9, 0), (0, x11)]) (by decide) (s2k (s2k (s2k (s2n (by decide) s2z)))) (by decide +kernel) ?_
            refine g_lload C 6 rfl (by decide +kernel) ?_
            refine g_iload_n C 2 rfl (by decide +kernel) ?_
            refine g_aload_n C 0 rfl (by decide +kernel) ?_
            refine g_getR C cl7 11 6 15 rfl cd_A11 ⟨by decide, rfl, by decide⟩ rfl rfl (nA (by decide)) (ix := 25) lk_87 (by decide +kernel) ?_
            refine g_iload C 11 rfl (by decide +kernel) ?_
            obtain ⟨hb21_, h⟩ := ck_some h
            refine g_iald C 15 hx11 rfl cd_A15 (nA (by decide)) hb21_ (by decide +kernel) (fun hc22_ => ?_)
            refine g_isub C (by decide +kernel) ?_
            refine g_i2l C (w32_c _) (by decide +kernel) ?_
            refine g_mmaxl C hx6 (c64_32 (w32_c _)) (ix := 95) lk_707 lk_708 lk_16 lk_709 ⟨Nat.le_of_ble_eq_true rfl, Nat.le_of_ble_eq_true rfl, Nat.zero_le _, Nat.zero_le _⟩ (Nat.le_of_ble_eq_true rfl) (by decide +kernel) ?_
            obtain ⟨v23_, ev24_, h⟩ := lt_some h
            refine g_val ev24_.symm ?_
            have hv25_ : c64 v23_ := by rw [ev24_]; exact (jmaxl_c hx6 (c64_32 (w32_c _)))
            refine s_lstore C 6 (lo' := [(2, 11), (0, x1), (0, x2), (2, (arr2 : Int)), (1, v18_), (9, 0), (1, v23_), (9, 0), (0, x8), (1, x9), (9, 0), (0, x11)]) (by decide) (s2k (s2k (s2k (s2k (s2k (s2n (by decide) s2z)))))) (by decide +kernel) ?_
            refine s_iinc C 8 1 (lo' := [(2, 11), (0, x1), (0, x2), (2, (arr2 : Int)), (1, v18_), (9, 0), (1, v23_), (9, 0), (0, (w32 (x8 + 1))), (1, x9), (9, 0), (0, x11)]) rfl (by decide) (s1k (s1k (s1k (s1k (s1k (s1k (s1k (s1n (by decide) s1z)))))))) (by decide +kernel) ?_
            refine g_lload C 9 rfl (by decide +kernel) ?_
            refine g_lconst C 1 (v := 1) (by decide) (by decide +kernel) ?_
            refine g_aload_n C 0 rfl (by decide +kernel) ?_
            refine g_getR C cl7 11 4 13 rfl cd_A11 ⟨by decide, rfl, by decide⟩ rfl rfl (nA (by decide)) (ix := 19) lk_85 (by decide +kernel) ?_
            refine g_iload C 11 rfl (by decide +kernel) ?_
            obtain ⟨hb26_, h⟩ := ck_some h
            refine g_iald C 13 hx11 rfl cd_A13 (nA (by decide)) hb26_ (by decide +kernel) (fun hc27_ => ?_)
            refine g_lshl C (by decide +kernel) ?_
            refine g_lor C (by decide +kernel) ?_
            obtain ⟨v28_, ev29_, h⟩ := lt_some h
            refine g_val ev29_.symm ?_
            have hv30_ : c64 v28_ := by rw [ev29_]; exact (l_c _)
            refine s_lstore C 9 (lo' := [(2, 11), (0, x1), (0, x2), (2, (arr2 : Int)), (1, v18_), (9, 0), (1, v23_), (9, 0), (0, (w32 (x8 + 1))), (1, v28_), (9, 0), (0, x11)]) (by decide) (s2k (s2k (s2k (s2k (s2k (s2k (s2k (s2k (s2n (by decide) s2z))))))))) (by decide +kernel) ?_
            refine g_sub (lo2 := [(2, 11), (0, x1), (0, x2), (2, (arr2 : Int)), (1, v18_), (9, 0), (1, v23_), (9, 0), (0, (w32 (x8 + 1))), (1, v28_), (9, 0), (0, x11)]) (lsb_v (lsb_v (lsb_v (lsb_v (lsb_v (lsb_c (lsb_v (lsb_c (lsb_v (lsb_v (lsb_c (lsb_v lsb_e)))))))))))) ?_
            exact ok_Re_tellLand_b118 C arr2 len2 harr2 barr2 x1 x2 v18_ v23_ (w32 (x8 + 1)) v28_ x11 d hx1 hx2 hv20_ hv25_ (w32_c _) hv30_ hx11 h kb k0
    · replace h := ite_f hc5_ h
      refine g_sub (lo2 := [(2, 11), (0, x1), (0, x2), (2, (arr2 : Int)), (1, x4), (9, 0), (1, x6), (9, 0), (0, x8), (1, x9), (9, 0), (0, x11)]) (lsb_v (lsb_v (lsb_v (lsb_v (lsb_v (lsb_c (lsb_v (lsb_c (lsb_v (lsb_v (lsb_c (lsb_v lsb_e)))))))))))) ?_
      exact ok_Re_tellLand_b118 C arr2 len2 harr2 barr2 x1 x2 x4 x6 x8 x9 x11 d hx1 hx2 hx4 hx6 hx8 hx9 hx11 h kb k0
  · replace h := ite_f hc2_ h
    refine g_sub (lo2 := [(9, 0), (9, 0), (9, 0), (2, (arr2 : Int)), (1, x4), (9, 0), (1, x6), (9, 0), (0, x8), (1, x9), (9, 0), (9, 0)]) (lsb_c (lsb_c (lsb_c (lsb_v (lsb_v (lsb_c (lsb_v (lsb_c (lsb_v (lsb_v (lsb_c (lsb_c lsb_e)))))))))))) ?_
    obtain rfl := Option.some.inj h
    exact k0 x4 x6 x8 x9 d rfl hx4 hx6 hx8 hx9
set_option maxHeartbeats 4000000 in
theorem ok_Re_tellLand_n15 {p : Program} {l : Launch} {e : Env} {s : State} {m : MethodId} {args : Array Value} {below : List Frame} {meth : Method} {c : Code} {D : va_G} {cA : Nat → ClassId} {ad : Nat → Nat} {A : Nat → Prop} (C : Cx p s m args c prog_9_method_11_code 12 "PollBooks$Records" D cA ad 0 A) {Q : State → Prop} (arr2 len2 : Nat) (harr2 : cd 0 arr2 = (21, len2)) (barr2 : arr2 < 79) {x : (Int × Int × Int × Int × Dt)} : ∀ (n : Nat) (x1 x2 x4 x6 x8 x9 x11 : Int) (d : Dt), c32 x1 → c32 x2 → c64 x4 → c64 x6 → c32 x8 → c64 x9 → c32 x11 → lpF (fun q : Int × Int × Int × Int × Int × Int × Int × Dt => L_Re_tellLand_y15 arr2 len2 q.1 q.2.1 q.2.2.1 q.2.2.2.1 q.2.2.2.2.1 q.2.2.2.2.2.1 q.2.2.2.2.2.2.1 q.2.2.2.2.2.2.2) n (x1, x2, x4, x6, x8, x9, x11, d) = some x → (∀ (y0 y1 y2 y3 : Int) (e' : Dt), x = (y0, y1, y2, y3, e') → c64 y0 → c64 y1 → c32 y2 → c64 y3 → G p l e rm_Re_tellLand s m args below meth c 0 0 Q 12 D cA ad 0 A 124 [(9, 0), (9, 0), (9, 0), (2, (arr2 : Int)), (1, y0), (9, 0), (1, y1), (9, 0), (0, y2), (1, y3), (9, 0), (9, 0)] [] e') → G p l e rm_Re_tellLand s m args below meth c 0 0 Q 12 D cA ad 0 A 15 [(2, 11), (0, x1), (0, x2), (2, (arr2 : Int)), (1, x4), (9, 0), (1, x6), (9, 0), (0, x8), (1, x9), (9, 0), (0, x11)] [] d := by
  intro n
  induction n with
  | zero => intro x1 x2 x4 x6 x8 x9 x11 d g0 g1 g2 g3 g4 g5 g6 h k0; cases h
  | succ n ih =>
    intro x1 x2 x4 x6 x8 x9 x11 d g0 g1 g2 g3 g4 g5 g6 h k0
    rcases lpF_some h with h | ⟨⟨v0_, v1_, v2_, v3_, v4_, v5_, v6_, e0_⟩, h1, h⟩
    · exact ok_Re_tellLand_y15 C arr2 len2 harr2 barr2 x1 x2 x4 x6 x8 x9 x11 d g0 g1 g2 g3 g4 g5 g6 h (fun z0_ z1_ z2_ z3_ z4_ z5_ z6_ e1_ eq w0_ w1_ w2_ w3_ w4_ w5_ w6_ => by cases eq) (fun z0_ z1_ z2_ z3_ e1_ eq w0_ w1_ w2_ w3_ => k0 _ _ _ _ _ (by cases eq; rfl) w0_ w1_ w2_ w3_)
    · exact ok_Re_tellLand_y15 C arr2 len2 harr2 barr2 x1 x2 x4 x6 x8 x9 x11 d g0 g1 g2 g3 g4 g5 g6 h1 (fun z0_ z1_ z2_ z3_ z4_ z5_ z6_ e1_ eq w0_ w1_ w2_ w3_ w4_ w5_ w6_ => by cases eq; exact ih _ _ _ _ _ _ _ _ w0_ w1_ w2_ w3_ w4_ w5_ w6_ h k0) (fun z0_ z1_ z2_ z3_ e1_ eq w0_ w1_ w2_ w3_ => by cases eq)
set_option maxHeartbeats 4000000 in
theorem ok_Re_tellLand_l15 {p : Program} {l : Launch} {e : Env} {s : State} {m : MethodId} {args : Array Value} {below : List Frame} {meth : Method} {c : Code} {D : va_G} {cA : Nat → ClassId} {ad : Nat → Nat} {A : Nat → Prop} (C : Cx p s m args c prog_9_method_11_code 12 "PollBooks$Records" D cA ad 0 A) {Q : State → Prop} (arr2 len2 : Nat) (harr2 : cd 0 arr2 = (21, len2)) (barr2 : arr2 < 79) {x : (Int × Int × Int × Int × Dt)} (x1 x2 x4 x6 x8 x9 x11 : Int) (d : Dt) (hx1 : c32 x1) (hx2 : c32 x2) (hx4 : c64 x4) (hx6 : c64 x6) (hx8 : c32 x8) (hx9 : c64 x9) (hx11 : c32 x11) (h : L_Re_tellLand_l15 arr2 len2 x1 x2 x4 x6 x8 x9 x11 d = some x) (k0 : ∀ (y0 y1 y2 y3 : Int) (e' : Dt), x = (y0, y1, y2, y3, e') → c64 y0 → c64 y1 → c32 y2 → c64 y3 → G p l e rm_Re_tellLand s m args below meth c 0 0 Q 12 D cA ad 0 A 124 [(9, 0), (9, 0), (9, 0), (2, (arr2 : Int)), (1, y0), (9, 0), (1, y1), (9, 0), (0, y2), (1, y3), (9, 0), (9, 0)] [] e') : G p l e rm_Re_tellLand s m args below meth c 0 0 Q 12 D cA ad 0 A 15 [(2, 11), (0, x1), (0, x2), (2, (arr2 : Int)), (1, x4), (9, 0), (1, x6), (9, 0), (0, x8), (1, x9), (9, 0), (0, x11)] [] d :=
  ok_Re_tellLand_n15 C arr2 len2 harr2 barr2 FU x1 x2 x4 x6 x8 x9 x11 d hx1 hx2 hx4 hx6 hx8 hx9 hx11 h k0
set_option maxHeartbeats 4000000 in
theorem ok_Re_tellLand {l : Launch} (arr2 len2 : Nat) (harr2 : cd 0 arr2 = (21, len2)) (barr2 : arr2 < 79) {r : Int} {d' : Dt} (p1 p2 : Int) (d : Dt) (hp1 : c32 p1) (hp2 : c32 p2) (h : L_Re_tellLand arr2 len2 p1 p2 d = some (r, d')) : MC l y_Re_tellLand prog_9_method_11_code 12 (some .long) rm_Re_tellLand 0 [(2, 11), (0, p1), (0, p2), (2, (arr2 : Int))] d (some (1, r)) d' := by
  refine MC.of (by decide) (Nat.le_of_ble_eq_true rfl) ?_
  intro p e s m args below meth c D cA ad A C hlk hr
  replace C : Cx p s m args c prog_9_method_11_code 12 "PollBooks$Records" D cA ad 0 A := C
  show G p l e rm_Re_tellLand s m args below meth c 0 0 (MQ below (fun _ => QC D cA ad 0 A (some .long) (some (1, r)) d') args s 0 0 A) 12 D cA ad 0 A 0 [(2, 11), (0, p1), (0, p2), (2, (arr2 : Int))] [] d
  refine g_sub (lo2 := [(2, 11), (0, p1), (0, p2), (2, (arr2 : Int)), (9, 0), (9, 0), (9, 0), (9, 0), (9, 0), (9, 0), (9, 0), (9, 0)]) (lsb_v (lsb_v (lsb_v (lsb_v (lsb_n (lsb_n (lsb_n (lsb_n (lsb_n (lsb_n (lsb_n (lsb_n lsb_e)))))))))))) ?_
  unfold L_Re_tellLand at h
  refine g_lconst C 0 (v := 0) (by decide) (by decide +kernel) ?_
  refine s_lstore C 4 (lo' := [(2, 11), (0, p1), (0, p2), (2, (arr2 : Int)), (1, 0), (9, 0), (9, 0), (9, 0), (9, 0), (9, 0), (9, 0), (9, 0)]) (by decide) (s2k (s2k (s2k (s2n (by decide) s2z)))) (by decide +kernel) ?_
  refine g_lconst C 0 (v := 0) (by decide) (by decide +kernel) ?_
  refine s_lstore C 6 (lo' := [(2, 11), (0, p1), (0, p2), (2, (arr2 : Int)), (1, 0), (9, 0), (1, 0), (9, 0), (9, 0), (9, 0), (9, 0), (9, 0)]) (by decide) (s2k (s2k (s2k (s2k (s2k (s2n (by decide) s2z)))))) (by decide +kernel) ?_
  refine g_iconst C 0 (cK rfl) (by decide +kernel) ?_
  refine s_istore C 8 (lo' := [(2, 11), (0, p1), (0, p2), (2, (arr2 : Int)), (1, 0), (9, 0), (1, 0), (9, 0), (0, 0), (9, 0), (9, 0), (9, 0)]) (by decide) (s1k (s1k (s1k (s1k (s1k (s1k (s1k (s1n (by decide) s1z)))))))) (by decide +kernel) ?_
  refine g_lconst C 0 (v := 0) (by decide) (by decide +kernel) ?_
  refine s_lstore C 9 (lo' := [(2, 11), (0, p1), (0, p2), (2, (arr2 : Int)), (1, 0), (9, 0), (1, 0), (9, 0), (0, 0), (1, 0), (9, 0), (9, 0)]) (by decide) (s2k (s2k (s2k (s2k (s2k (s2k (s2k (s2k (s2n (by decide) s2z))))))))) (by decide +kernel) ?_
  refine g_iconst C 0 (cK rfl) (by decide +kernel) ?_
  refine s_istore C 11 (lo' := [(2, 11), (0, p1), (0, p2), (2, (arr2 : Int)), (1, 0), (9, 0), (1, 0), (9, 0), (0, 0), (1, 0), (9, 0), (0, 0)]) (by decide) (s1k (s1k (s1k (s1k (s1k (s1k (s1k (s1k (s1k (s1k (s1n (by decide) s1z))))))))))) (by decide +kernel) ?_
  refine g_sub (lo2 := [(2, 11), (0, p1), (0, p2), (2, (arr2 : Int)), (1, 0), (9, 0), (1, 0), (9, 0), (0, 0), (1, 0), (9, 0), (0, 0)]) (lsb_v (lsb_v (lsb_v (lsb_v (lsb_v (lsb_c (lsb_v (lsb_c (lsb_v (lsb_v (lsb_c (lsb_v lsb_e)))))))))))) ?_
  obtain ⟨x31_, hx32_, h⟩ := lb_some h
  refine ok_Re_tellLand_l15 C arr2 len2 harr2 barr2 p1 p2 0 0 0 0 0 d hp1 hp2 (cL rfl) (cL rfl) (c32_cb (Or.inl rfl)) (cL rfl) (c32_cb (Or.inl rfl)) hx32_ (fun v33_ v34_ v35_ v36_ d37_ eq38_ hv33_ hv34_ hv35_ hv36_ => ?_)
  subst eq38_
  replace h := u4_e h
  refine g_aload_n C 3 rfl (by decide +kernel) ?_
  refine g_iconst C 0 (cK rfl) (by decide +kernel) ?_
  refine g_lload C 4 rfl (by decide +kernel) ?_
  obtain ⟨hb39_, h⟩ := ck_some h
  refine g_last C arr2 hv33_ (c32_cb (Or.inl rfl)) rfl harr2 (nA barr2) hb39_ (by decide +kernel) ?_
  refine g_aload_n C 3 rfl (by decide +kernel) ?_
  refine g_iconst C 1 (cK rfl) (by decide +kernel) ?_
  refine g_iload C 8 rfl (by decide +kernel) ?_
  refine g_i2l C hv35_ (by decide +kernel) ?_
  obtain ⟨hb40_, h⟩ := ck_some h
  refine g_last C arr2 (c64_32 hv35_) (c32_cb (Or.inr rfl)) rfl harr2 (nA barr2) hb40_ (by decide +kernel) ?_
  refine g_aload_n C 3 rfl (by decide +kernel) ?_
  refine g_iconst C 2 (cK rfl) (by decide +kernel) ?_
  refine g_lload C 6 rfl (by decide +kernel) ?_
  obtain ⟨hb41_, h⟩ := ck_some h
  refine g_last C arr2 hv34_ (cK rfl) rfl harr2 (nA barr2) hb41_ (by decide +kernel) ?_
  refine g_lload C 9 rfl (by decide +kernel) ?_
  obtain ⟨rfl, rfl⟩ := ret_inj h
  exact g_lret C hv36_ hlk hr (by decide +kernel)
/-! PollBooks$Records.sinceSplit(JI)I -/
def y_Re_sinceSplit : MethodName := ⟨"PollBooks$Records", "sinceSplit", "(JI)I"⟩
def rm_Re_sinceSplit : Room := { frames := 1, cells := 0, slots := 0, locals := 21 }
theorem mw_Re_sinceSplit : MW y_Re_sinceSplit prog_9_method_12_code 7 (some .int) 2 := ⟨lk_713, lk_5, by decide +kernel⟩
def L_Re_sinceSplit_b86 (x1 x3 x4 x5 : Int) (d : Dt) : Option ((Int × Int × Int × Int × Dt) ⊕ ((Int × Dt))) :=
  some (Sum.inl (x1, x3, x4, (w32 (x5 + 1)), d))
def L_Re_sinceSplit_b38 (x1 x3 x4 x5 s0 : Int) (d : Dt) : Option ((Int × Int × Int × Int × Dt) ⊕ ((Int × Dt))) :=
  if s0 = 0 then L_Re_sinceSplit_b86 x1 x3 x4 x5 d else ck ((0 : Int) ≤ x5 ∧ x5 < 30) (if x3 < (d 19 x5.toNat) then L_Re_sinceSplit_b86 x1 x3 x4 x5 d else ck ((0 : Int) ≤ x5 ∧ x5 < 30) (if (d 11 1) < (d 20 x5.toNat) then L_Re_sinceSplit_b86 x1 x3 x4 x5 d else ck ((0 : Int) ≤ x5 ∧ x5 < 30) (lt_ (jmin x4 (w32 (x3 - (d 19 x5.toNat)))) (fun v11_ => L_Re_sinceSplit_b86 x1 x3 v11_ x5 d))))
def L_Re_sinceSplit_y8 (x1 x3 x4 x5 : Int) (d : Dt) : Option ((Int × Int × Int × Int × Dt) ⊕ ((Int × Dt))) :=
  if x5 < (d 11 13) then ck ((0 : Int) ≤ x5 ∧ x5 < 30) (if (land (lshr x1 (d 18 x5.toNat)) 1) = 0 then L_Re_sinceSplit_b38 x1 x3 x4 x5 0 d else L_Re_sinceSplit_b38 x1 x3 x4 x5 1 d) else some (Sum.inr (x4, d))
def L_Re_sinceSplit_l8 (x1 x3 x4 x5 : Int) (d : Dt) : Option ((Int × Dt)) := lpF (fun q : Int × Int × Int × Int × Dt => L_Re_sinceSplit_y8 q.1 q.2.1 q.2.2.1 q.2.2.2.1 q.2.2.2.2) FU (x1, x3, x4, x5, d)
def L_Re_sinceSplit (p1 p2 : Int) (d : Dt) : Option (Int × Dt) :=
  lb (L_Re_sinceSplit_l8 p1 p2 9999 0 d) (fun q24_ => u1 q24_ (fun v21_ d22_ => some (v21_, d22_)))
set_option maxHeartbeats 4000000 in
theorem ok_Re_sinceSplit_b86 {p : Program} {l : Launch} {e : Env} {s : State} {m : MethodId} {args : Array Value} {below : List Frame} {meth : Method} {c : Code} {D : va_G} {cA : Nat → ClassId} {ad : Nat → Nat} {A : Nat → Prop} (C : Cx p s m args c prog_9_method_12_code 7 "PollBooks$Records" D cA ad 0 A) {Q : State → Prop} {o : (Int × Int × Int × Int × Dt) ⊕ ((Int × Dt))} (x1 x3 x4 x5 : Int) (d : Dt) (hx1 : c64 x1) (hx3 : c32 x3) (hx4 : c32 x4) (hx5 : c32 x5) (h : L_Re_sinceSplit_b86 x1 x3 x4 x5 d = some o) (kb : ∀ (y0 y1 y2 y3 : Int) (e' : Dt), o = .inl (y0, y1, y2, y3, e') → c64 y0 → c32 y1 → c32 y2 → c32 y3 → G p l e rm_Re_sinceSplit s m args below meth c 0 0 Q 7 D cA ad 0 A 8 [(2, 11), (1, y0), (9, 0), (0, y1), (0, y2), (0, y3), (9, 0)] [] e') (k0 : ∀ (y0 : Int) (e' : Dt), o = .inr (y0, e') → c32 y0 → G p l e rm_Re_sinceSplit s m args below meth c 0 0 Q 7 D cA ad 0 A 92 [(9, 0), (9, 0), (9, 0), (9, 0), (0, y0), (9, 0), (9, 0)] [] e') : G p l e rm_Re_sinceSplit s m args below meth c 0 0 Q 7 D cA ad 0 A 86 [(2, 11), (1, x1), (9, 0), (0, x3), (0, x4), (0, x5), (9, 0)] [] d := by
  unfold L_Re_sinceSplit_b86 at h
  refine s_iinc C 5 1 (lo' := [(2, 11), (1, x1), (9, 0), (0, x3), (0, x4), (0, (w32 (x5 + 1))), (9, 0)]) rfl (by decide) (s1k (s1k (s1k (s1k (s1n (by decide) s1z))))) (by decide +kernel) ?_
  refine g_goto C 8 (off := (-81)) (by decide +kernel) (by decide) ?_
  refine g_sub (lo2 := [(2, 11), (1, x1), (9, 0), (0, x3), (0, x4), (0, (w32 (x5 + 1))), (9, 0)]) (lsb_v (lsb_v (lsb_c (lsb_v (lsb_v (lsb_v (lsb_c lsb_e))))))) ?_
  obtain rfl := Option.some.inj h
  exact kb x1 x3 x4 (w32 (x5 + 1)) d rfl hx1 hx3 hx4 (w32_c _)
set_option maxHeartbeats 4000000 in
theorem ok_Re_sinceSplit_b38 {p : Program} {l : Launch} {e : Env} {s : State} {m : MethodId} {args : Array Value} {below : List Frame} {meth : Method} {c : Code} {D : va_G} {cA : Nat → ClassId} {ad : Nat → Nat} {A : Nat → Prop} (C : Cx p s m args c prog_9_method_12_code 7 "PollBooks$Records" D cA ad 0 A) {Q : State → Prop} {o : (Int × Int × Int × Int × Dt) ⊕ ((Int × Dt))} (x1 x3 x4 x5 s0 : Int) (d : Dt) (hx1 : c64 x1) (hx3 : c32 x3) (hx4 : c32 x4) (hx5 : c32 x5) (hs0 : cb s0) (h : L_Re_sinceSplit_b38 x1 x3 x4 x5 s0 d = some o) (kb : ∀ (y0 y1 y2 y3 : Int) (e' : Dt), o = .inl (y0, y1, y2, y3, e') → c64 y0 → c32 y1 → c32 y2 → c32 y3 → G p l e rm_Re_sinceSplit s m args below meth c 0 0 Q 7 D cA ad 0 A 8 [(2, 11), (1, y0), (9, 0), (0, y1), (0, y2), (0, y3), (9, 0)] [] e') (k0 : ∀ (y0 : Int) (e' : Dt), o = .inr (y0, e') → c32 y0 → G p l e rm_Re_sinceSplit s m args below meth c 0 0 Q 7 D cA ad 0 A 92 [(9, 0), (9, 0), (9, 0), (9, 0), (0, y0), (9, 0), (9, 0)] [] e') : G p l e rm_Re_sinceSplit s m args below meth c 0 0 Q 7 D cA ad 0 A 38 [(2, 11), (1, x1), (9, 0), (0, x3), (0, x4), (0, x5), (9, 0)] [(0, s0)] d := by
  unfold L_Re_sinceSplit_b38 at h
  refine s_istore C 6 (lo' := [(2, 11), (1, x1), (9, 0), (0, x3), (0, x4), (0, x5), (0, s0)]) (by decide) (s1k (s1k (s1k (s1k (s1k (s1n (by decide) s1z)))))) (by decide +kernel) ?_
  refine g_iload C 6 rfl (by decide +kernel) ?_
  refine g_if_eq C (off := 44) (tgt := 86) (c32_cb hs0) (by decide +kernel) (by decide) (fun hc1_ => ?_) (fun hc1_ => ?_)
  · replace h := ite_t hc1_ h
    refine g_sub (lo2 := [(2, 11), (1, x1), (9, 0), (0, x3), (0, x4), (0, x5), (9, 0)]) (lsb_v (lsb_v (lsb_c (lsb_v (lsb_v (lsb_v (lsb_c lsb_e))))))) ?_
    exact ok_Re_sinceSplit_b86 C x1 x3 x4 x5 d hx1 hx3 hx4 hx5 h kb k0
  · replace h := ite_f hc1_ h
    refine g_aload_n C 0 rfl (by decide +kernel) ?_
    refine g_getR C cl7 11 11 19 rfl cd_A11 ⟨by decide, rfl, by decide⟩ rfl rfl (nA (by decide)) (ix := 37) lk_92 (by decide +kernel) ?_
    refine g_iload C 5 rfl (by decide +kernel) ?_
    obtain ⟨hb2_, h⟩ := ck_some h
    refine g_iald C 19 hx5 rfl cd_A19 (nA (by decide)) hb2_ (by decide +kernel) (fun hc3_ => ?_)
    refine g_iload_n C 3 rfl (by decide +kernel) ?_
    refine g_icmp_gt C (off := 33) (tgt := 86) hc3_ hx3 (by decide +kernel) (by decide) (fun hc4_ => ?_) (fun hc4_ => ?_)
    · replace h := ite_t hc4_ h
      refine g_sub (lo2 := [(2, 11), (1, x1), (9, 0), (0, x3), (0, x4), (0, x5), (9, 0)]) (lsb_v (lsb_v (lsb_c (lsb_v (lsb_v (lsb_v (lsb_c lsb_e))))))) ?_
      exact ok_Re_sinceSplit_b86 C x1 x3 x4 x5 d hx1 hx3 hx4 hx5 h kb k0
    · replace h := ite_f hc4_ h
      refine g_aload_n C 0 rfl (by decide +kernel) ?_
      refine g_getR C cl7 11 12 20 rfl cd_A11 ⟨by decide, rfl, by decide⟩ rfl rfl (nA (by decide)) (ix := 40) lk_93 (by decide +kernel) ?_
      refine g_iload C 5 rfl (by decide +kernel) ?_
      obtain ⟨hb5_, h⟩ := ck_some h
      refine g_iald C 20 hx5 rfl cd_A20 (nA (by decide)) hb5_ (by decide +kernel) (fun hc6_ => ?_)
      refine g_aload_n C 0 rfl (by decide +kernel) ?_
      refine g_getI C cl7 11 1 rfl cd_A11 ⟨by decide, rfl, by decide⟩ rfl (nA (by decide)) (ix := 9) lk_82 (by decide +kernel) (fun hc7_ => ?_)
      refine g_icmp_gt C (off := 19) (tgt := 86) hc6_ hc7_ (by decide +kernel) (by decide) (fun hc8_ => ?_) (fun hc8_ => ?_)
      · replace h := ite_t hc8_ h
        refine g_sub (lo2 := [(2, 11), (1, x1), (9, 0), (0, x3), (0, x4), (0, x5), (9, 0)]) (lsb_v (lsb_v (lsb_c (lsb_v (lsb_v (lsb_v (lsb_c lsb_e))))))) ?_
        exact ok_Re_sinceSplit_b86 C x1 x3 x4 x5 d hx1 hx3 hx4 hx5 h kb k0
      · replace h := ite_f hc8_ h
        refine g_iload C 4 rfl (by decide +kernel) ?_
        refine g_iload_n C 3 rfl (by decide +kernel) ?_
        refine g_aload_n C 0 rfl (by decide +kernel) ?_
        refine g_getR C cl7 11 11 19 rfl cd_A11 ⟨by decide, rfl, by decide⟩ rfl rfl (nA (by decide)) (ix := 37) lk_92 (by decide +kernel) ?_
        refine g_iload C 5 rfl (by decide +kernel) ?_
        obtain ⟨hb9_, h⟩ := ck_some h
        refine g_iald C 19 hx5 rfl cd_A19 (nA (by decide)) hb9_ (by decide +kernel) (fun hc10_ => ?_)
        refine g_isub C (by decide +kernel) ?_
        refine g_mmin C hx4 (w32_c _) (ix := 101) lk_714 lk_601 lk_16 lk_602 ⟨Nat.le_of_ble_eq_true rfl, Nat.le_of_ble_eq_true rfl, Nat.zero_le _, Nat.zero_le _⟩ (Nat.le_of_ble_eq_true rfl) (by decide +kernel) ?_
        obtain ⟨v11_, ev12_, h⟩ := lt_some h
        refine g_val ev12_.symm ?_
        have hv13_ : c32 v11_ := by rw [ev12_]; exact (jmin_c hx4 (w32_c _))
        refine s_istore C 4 (lo' := [(2, 11), (1, x1), (9, 0), (0, x3), (0, v11_), (0, x5), (0, s0)]) (by decide) (s1k (s1k (s1k (s1n (by decide) s1z)))) (by decide +kernel) ?_
        refine g_sub (lo2 := [(2, 11), (1, x1), (9, 0), (0, x3), (0, v11_), (0, x5), (9, 0)]) (lsb_v (lsb_v (lsb_c (lsb_v (lsb_v (lsb_v (lsb_c lsb_e))))))) ?_
        exact ok_Re_sinceSplit_b86 C x1 x3 v11_ x5 d hx1 hx3 hv13_ hx5 h kb k0
set_option maxHeartbeats 4000000 in
theorem ok_Re_sinceSplit_y8 {p : Program} {l : Launch} {e : Env} {s : State} {m : MethodId} {args : Array Value} {below : List Frame} {meth : Method} {c : Code} {D : va_G} {cA : Nat → ClassId} {ad : Nat → Nat} {A : Nat → Prop} (C : Cx p s m args c prog_9_method_12_code 7 "PollBooks$Records" D cA ad 0 A) {Q : State → Prop} {o : (Int × Int × Int × Int × Dt) ⊕ ((Int × Dt))} (x1 x3 x4 x5 : Int) (d : Dt) (hx1 : c64 x1) (hx3 : c32 x3) (hx4 : c32 x4) (hx5 : c32 x5) (h : L_Re_sinceSplit_y8 x1 x3 x4 x5 d = some o) (kb : ∀ (y0 y1 y2 y3 : Int) (e' : Dt), o = .inl (y0, y1, y2, y3, e') → c64 y0 → c32 y1 → c32 y2 → c32 y3 → G p l e rm_Re_sinceSplit s m args below meth c 0 0 Q 7 D cA ad 0 A 8 [(2, 11), (1, y0), (9, 0), (0, y1), (0, y2), (0, y3), (9, 0)] [] e') (k0 : ∀ (y0 : Int) (e' : Dt), o = .inr (y0, e') → c32 y0 → G p l e rm_Re_sinceSplit s m args below meth c 0 0 Q 7 D cA ad 0 A 92 [(9, 0), (9, 0), (9, 0), (9, 0), (0, y0), (9, 0), (9, 0)] [] e') : G p l e rm_Re_sinceSplit s m args below meth c 0 0 Q 7 D cA ad 0 A 8 [(2, 11), (1, x1), (9, 0), (0, x3), (0, x4), (0, x5), (9, 0)] [] d := by
  unfold L_Re_sinceSplit_y8 at h
  refine g_iload C 5 rfl (by decide +kernel) ?_
  refine g_aload_n C 0 rfl (by decide +kernel) ?_
  refine g_getI C cl7 11 13 rfl cd_A11 ⟨by decide, rfl, by decide⟩ rfl (nA (by decide)) (ix := 62) lk_94 (by decide +kernel) (fun hc14_ => ?_)
  refine g_icmp_ge C (off := 78) (tgt := 92) hx5 hc14_ (by decide +kernel) (by decide) (fun hc15_ => ?_) (fun hc15_ => ?_)
  · replace h := ite_t hc15_ h
    refine g_lload_n C 1 rfl (by decide +kernel) ?_
    refine g_aload_n C 0 rfl (by decide +kernel) ?_
    refine g_getR C cl7 11 10 18 rfl cd_A11 ⟨by decide, rfl, by decide⟩ rfl rfl (nA (by decide)) (ix := 34) lk_91 (by decide +kernel) ?_
    refine g_iload C 5 rfl (by decide +kernel) ?_
    obtain ⟨hb16_, h⟩ := ck_some h
    refine g_iald C 18 hx5 rfl cd_A18 (nA (by decide)) hb16_ (by decide +kernel) (fun hc17_ => ?_)
    refine g_lshr C (by decide +kernel) ?_
    refine g_lconst C 1 (v := 1) (by decide) (by decide +kernel) ?_
    refine g_land C (by decide +kernel) ?_
    refine g_lconst C 0 (v := 0) (by decide) (by decide +kernel) ?_
    refine g_lc_eq C (off := 7) (tgt := 37) (l_c _) (cL rfl) (by decide +kernel) (by decide +kernel) (by decide) (fun hc18_ => ?_) (fun hc18_ => ?_)
    · replace h := ite_t hc18_ h
      refine g_iconst C 0 (cK rfl) (by decide +kernel) ?_
      refine g_sub (lo2 := [(2, 11), (1, x1), (9, 0), (0, x3), (0, x4), (0, x5), (9, 0)]) (lsb_v (lsb_v (lsb_c (lsb_v (lsb_v (lsb_v (lsb_c lsb_e))))))) ?_
      exact ok_Re_sinceSplit_b38 C x1 x3 x4 x5 0 d hx1 hx3 hx4 hx5 (Or.inl rfl) h kb k0
    · replace h := ite_f hc18_ h
      refine g_iconst C 1 (cK rfl) (by decide +kernel) ?_
      refine g_goto C 38 (off := 4) (by decide +kernel) (by decide) ?_
      refine g_sub (lo2 := [(2, 11), (1, x1), (9, 0), (0, x3), (0, x4), (0, x5), (9, 0)]) (lsb_v (lsb_v (lsb_c (lsb_v (lsb_v (lsb_v (lsb_c lsb_e))))))) ?_
      exact ok_Re_sinceSplit_b38 C x1 x3 x4 x5 1 d hx1 hx3 hx4 hx5 (Or.inr rfl) h kb k0
  · replace h := ite_f hc15_ h
    refine g_sub (lo2 := [(9, 0), (9, 0), (9, 0), (9, 0), (0, x4), (9, 0), (9, 0)]) (lsb_c (lsb_c (lsb_c (lsb_c (lsb_v (lsb_c (lsb_c lsb_e))))))) ?_
    obtain rfl := Option.some.inj h
    exact k0 x4 d rfl hx4
set_option maxHeartbeats 4000000 in
theorem ok_Re_sinceSplit_n8 {p : Program} {l : Launch} {e : Env} {s : State} {m : MethodId} {args : Array Value} {below : List Frame} {meth : Method} {c : Code} {D : va_G} {cA : Nat → ClassId} {ad : Nat → Nat} {A : Nat → Prop} (C : Cx p s m args c prog_9_method_12_code 7 "PollBooks$Records" D cA ad 0 A) {Q : State → Prop} {x : (Int × Dt)} : ∀ (n : Nat) (x1 x3 x4 x5 : Int) (d : Dt), c64 x1 → c32 x3 → c32 x4 → c32 x5 → lpF (fun q : Int × Int × Int × Int × Dt => L_Re_sinceSplit_y8 q.1 q.2.1 q.2.2.1 q.2.2.2.1 q.2.2.2.2) n (x1, x3, x4, x5, d) = some x → (∀ (y0 : Int) (e' : Dt), x = (y0, e') → c32 y0 → G p l e rm_Re_sinceSplit s m args below meth c 0 0 Q 7 D cA ad 0 A 92 [(9, 0), (9, 0), (9, 0), (9, 0), (0, y0), (9, 0), (9, 0)] [] e') → G p l e rm_Re_sinceSplit s m args below meth c 0 0 Q 7 D cA ad 0 A 8 [(2, 11), (1, x1), (9, 0), (0, x3), (0, x4), (0, x5), (9, 0)] [] d := by
  intro n
  induction n with
  | zero => intro x1 x3 x4 x5 d g0 g1 g2 g3 h k0; cases h
  | succ n ih =>
    intro x1 x3 x4 x5 d g0 g1 g2 g3 h k0
    rcases lpF_some h with h | ⟨⟨v0_, v1_, v2_, v3_, e0_⟩, h1, h⟩
    · exact ok_Re_sinceSplit_y8 C x1 x3 x4 x5 d g0 g1 g2 g3 h (fun z0_ z1_ z2_ z3_ e1_ eq w0_ w1_ w2_ w3_ => by cases eq) (fun z0_ e1_ eq w0_ => k0 _ _ (by cases eq; rfl) w0_)
    · exact ok_Re_sinceSplit_y8 C x1 x3 x4 x5 d g0 g1 g2 g3 h1 (fun z0_ z1_ z2_ z3_ e1_ eq w0_ w1_ w2_ w3_ => by cases eq; exact ih _ _ _ _ _ w0_ w1_ w2_ w3_ h k0) (fun z0_ e1_ eq w0_ => by cases eq)
set_option maxHeartbeats 4000000 in
theorem ok_Re_sinceSplit_l8 {p : Program} {l : Launch} {e : Env} {s : State} {m : MethodId} {args : Array Value} {below : List Frame} {meth : Method} {c : Code} {D : va_G} {cA : Nat → ClassId} {ad : Nat → Nat} {A : Nat → Prop} (C : Cx p s m args c prog_9_method_12_code 7 "PollBooks$Records" D cA ad 0 A) {Q : State → Prop} {x : (Int × Dt)} (x1 x3 x4 x5 : Int) (d : Dt) (hx1 : c64 x1) (hx3 : c32 x3) (hx4 : c32 x4) (hx5 : c32 x5) (h : L_Re_sinceSplit_l8 x1 x3 x4 x5 d = some x) (k0 : ∀ (y0 : Int) (e' : Dt), x = (y0, e') → c32 y0 → G p l e rm_Re_sinceSplit s m args below meth c 0 0 Q 7 D cA ad 0 A 92 [(9, 0), (9, 0), (9, 0), (9, 0), (0, y0), (9, 0), (9, 0)] [] e') : G p l e rm_Re_sinceSplit s m args below meth c 0 0 Q 7 D cA ad 0 A 8 [(2, 11), (1, x1), (9, 0), (0, x3), (0, x4), (0, x5), (9, 0)] [] d :=
  ok_Re_sinceSplit_n8 C FU x1 x3 x4 x5 d hx1 hx3 hx4 hx5 h k0
set_option maxHeartbeats 4000000 in
theorem ok_Re_sinceSplit {l : Launch} {r : Int} {d' : Dt} (p1 p2 : Int) (d : Dt) (hp1 : c64 p1) (hp2 : c32 p2) (h : L_Re_sinceSplit p1 p2 d = some (r, d')) : MC l y_Re_sinceSplit prog_9_method_12_code 7 (some .int) rm_Re_sinceSplit 0 [(2, 11), (1, p1), (0, p2)] d (some (0, r)) d' := by
  refine MC.of (by decide) (Nat.le_of_ble_eq_true rfl) ?_
  intro p e s m args below meth c D cA ad A C hlk hr
  replace C : Cx p s m args c prog_9_method_12_code 7 "PollBooks$Records" D cA ad 0 A := C
  show G p l e rm_Re_sinceSplit s m args below meth c 0 0 (MQ below (fun _ => QC D cA ad 0 A (some .int) (some (0, r)) d') args s 0 0 A) 7 D cA ad 0 A 0 [(2, 11), (1, p1), (9, 0), (0, p2)] [] d
  refine g_sub (lo2 := [(2, 11), (1, p1), (9, 0), (0, p2), (9, 0), (9, 0), (9, 0)]) (lsb_v (lsb_v (lsb_c (lsb_v (lsb_n (lsb_n (lsb_n lsb_e))))))) ?_
  unfold L_Re_sinceSplit at h
  refine g_sipush C 9999 (by decide) (by decide +kernel) ?_
  refine s_istore C 4 (lo' := [(2, 11), (1, p1), (9, 0), (0, p2), (0, 9999), (9, 0), (9, 0)]) (by decide) (s1k (s1k (s1k (s1n (by decide) s1z)))) (by decide +kernel) ?_
  refine g_iconst C 0 (cK rfl) (by decide +kernel) ?_
  refine s_istore C 5 (lo' := [(2, 11), (1, p1), (9, 0), (0, p2), (0, 9999), (0, 0), (9, 0)]) (by decide) (s1k (s1k (s1k (s1k (s1n (by decide) s1z))))) (by decide +kernel) ?_
  refine g_sub (lo2 := [(2, 11), (1, p1), (9, 0), (0, p2), (0, 9999), (0, 0), (9, 0)]) (lsb_v (lsb_v (lsb_c (lsb_v (lsb_v (lsb_v (lsb_c lsb_e))))))) ?_
  obtain ⟨x19_, hx20_, h⟩ := lb_some h
  refine ok_Re_sinceSplit_l8 C p1 p2 9999 0 d hp1 hp2 (cK rfl) (c32_cb (Or.inl rfl)) hx20_ (fun v21_ d22_ eq23_ hv21_ => ?_)
  subst eq23_
  replace h := u1_e h
  refine g_iload C 4 rfl (by decide +kernel) ?_
  obtain ⟨rfl, rfl⟩ := ret_inj h
  exact g_iret C hv21_ hlk hr (by decide +kernel)
/-! PollBooks.bit(Z)I -/
def y_PB_bit : MethodName := ⟨"PollBooks", "bit", "(Z)I"⟩
def rm_PB_bit : Room := { frames := 0, cells := 0, slots := 0, locals := 0 }
theorem mw_PB_bit : MW y_PB_bit prog_1_method_58_code 1 (some .int) 1 := ⟨lk_717, lk_1, by decide +kernel⟩
def L_PB_bit (p1 : Int) (d : Dt) : Option (Int × Dt) :=
  if p1 = 0 then some (0, d) else some (1, d)
set_option maxHeartbeats 4000000 in
theorem ok_PB_bit {l : Launch} {r : Int} {d' : Dt} (p1 : Int) (d : Dt) (hp1 : cb p1) (h : L_PB_bit p1 d = some (r, d')) : MC l y_PB_bit prog_1_method_58_code 1 (some .int) rm_PB_bit 0 [(0, p1)] d (some (0, r)) d' := by
  refine MC.of (by decide) (Nat.le_of_ble_eq_true rfl) ?_
  intro p e s m args below meth c D cA ad A C hlk hr
  replace C : Cx p s m args c prog_1_method_58_code 1 "PollBooks" D cA ad 0 A := C
  show G p l e rm_PB_bit s m args below meth c 0 0 (MQ below (fun _ => QC D cA ad 0 A (some .int) (some (0, r)) d') args s 0 0 A) 1 D cA ad 0 A 0 [(0, p1)] [] d
  refine g_sub (lo2 := [(0, p1)]) (lsb_v lsb_e) ?_
  unfold L_PB_bit at h
  refine g_iload_n C 0 rfl (by decide +kernel) ?_
  refine g_if_eq C (off := 7) (tgt := 8) (c32_cb hp1) (by decide +kernel) (by decide) (fun hc1_ => ?_) (fun hc1_ => ?_)
  · replace h := ite_t hc1_ h
    refine g_iconst C 0 (cK rfl) (by decide +kernel) ?_
    obtain ⟨rfl, rfl⟩ := ret_inj h
    exact g_iret C (c32_cb (Or.inl rfl)) hlk hr (by decide +kernel)
  · replace h := ite_f hc1_ h
    refine g_iconst C 1 (cK rfl) (by decide +kernel) ?_
    refine g_goto C 9 (off := 4) (by decide +kernel) (by decide) ?_
    obtain ⟨rfl, rfl⟩ := ret_inj h
    exact g_iret C (c32_cb (Or.inr rfl)) hlk hr (by decide +kernel)
/-! PollBooks$Records.paidBy(II)I -/
def y_Re_paidBy : MethodName := ⟨"PollBooks$Records", "paidBy", "(II)I"⟩
def rm_Re_paidBy : Room := { frames := 0, cells := 0, slots := 0, locals := 0 }
theorem mw_Re_paidBy : MW y_Re_paidBy prog_9_method_13_code 5 (some .int) 2 := ⟨lk_721, lk_5, by decide +kernel⟩
def L_Re_paidBy_b60 (x1 x2 x3 x4 : Int) (d : Dt) : Option ((Int × Int × Int × Int × Dt) ⊕ ((Int × Dt))) :=
  some (Sum.inl (x1, x2, x3, (w32 (x4 + 1)), d))
def L_Re_paidBy_y5 (x1 x2 x3 x4 : Int) (d : Dt) : Option ((Int × Int × Int × Int × Dt) ⊕ ((Int × Dt))) :=
  if x4 < (d 11 18) then ck ((0 : Int) ≤ x4 ∧ x4 < 60) (if (d 21 x4.toNat) = x1 then ck ((0 : Int) ≤ x4 ∧ x4 < 60) (if x2 < (d 23 x4.toNat) then L_Re_paidBy_b60 x1 x2 x3 x4 d else ck ((0 : Int) ≤ x4 ∧ x4 < 60) (if (d 11 1) < (d 24 x4.toNat) then L_Re_paidBy_b60 x1 x2 x3 x4 d else ck ((0 : Int) ≤ x4 ∧ x4 < 60) (lt_ (w32 (x3 + (d 22 x4.toNat))) (fun v15_ => L_Re_paidBy_b60 x1 x2 v15_ x4 d)))) else L_Re_paidBy_b60 x1 x2 x3 x4 d) else some (Sum.inr (x3, d))
def L_Re_paidBy_l5 (x1 x2 x3 x4 : Int) (d : Dt) : Option ((Int × Dt)) := lpF (fun q : Int × Int × Int × Int × Dt => L_Re_paidBy_y5 q.1 q.2.1 q.2.2.1 q.2.2.2.1 q.2.2.2.2) FU (x1, x2, x3, x4, d)
def L_Re_paidBy (p1 p2 : Int) (d : Dt) : Option (Int × Dt) :=
  lb (L_Re_paidBy_l5 p1 p2 0 0 d) (fun q23_ => u1 q23_ (fun v20_ d21_ => some (v20_, d21_)))
set_option maxHeartbeats 4000000 in
theorem ok_Re_paidBy_b60 {p : Program} {l : Launch} {e : Env} {s : State} {m : MethodId} {args : Array Value} {below : List Frame} {meth : Method} {c : Code} {D : va_G} {cA : Nat → ClassId} {ad : Nat → Nat} {A : Nat → Prop} (C : Cx p s m args c prog_9_method_13_code 5 "PollBooks$Records" D cA ad 0 A) {Q : State → Prop} {o : (Int × Int × Int × Int × Dt) ⊕ ((Int × Dt))} (x1 x2 x3 x4 : Int) (d : Dt) (hx1 : c32 x1) (hx2 : c32 x2) (hx3 : c32 x3) (hx4 : c32 x4) (h : L_Re_paidBy_b60 x1 x2 x3 x4 d = some o) (kb : ∀ (y0 y1 y2 y3 : Int) (e' : Dt), o = .inl (y0, y1, y2, y3, e') → c32 y0 → c32 y1 → c32 y2 → c32 y3 → G p l e rm_Re_paidBy s m args below meth c 0 0 Q 5 D cA ad 0 A 5 [(2, 11), (0, y0), (0, y1), (0, y2), (0, y3)] [] e') (k0 : ∀ (y0 : Int) (e' : Dt), o = .inr (y0, e') → c32 y0 → G p l e rm_Re_paidBy s m args below meth c 0 0 Q 5 D cA ad 0 A 66 [(9, 0), (9, 0), (9, 0), (0, y0), (9, 0)] [] e') : G p l e rm_Re_paidBy s m args below meth c 0 0 Q 5 D cA ad 0 A 60 [(2, 11), (0, x1), (0, x2), (0, x3), (0, x4)] [] d := by
  unfold L_Re_paidBy_b60 at h
  refine s_iinc C 4 1 (lo' := [(2, 11), (0, x1), (0, x2), (0, x3), (0, (w32 (x4 + 1)))]) rfl (by decide) (s1k (s1k (s1k (s1n (by decide) s1z)))) (by decide +kernel) ?_
  refine g_goto C 5 (off := (-58)) (by decide +kernel) (by decide) ?_
  refine g_sub (lo2 := [(2, 11), (0, x1), (0, x2), (0, x3), (0, (w32 (x4 + 1)))]) (lsb_v (lsb_v (lsb_v (lsb_v (lsb_v lsb_e))))) ?_
  obtain rfl := Option.some.inj h
  exact kb x1 x2 x3 (w32 (x4 + 1)) d rfl hx1 hx2 hx3 (w32_c _)
set_option maxHeartbeats 4000000 in
theorem ok_Re_paidBy_y5 {p : Program} {l : Launch} {e : Env} {s : State} {m : MethodId} {args : Array Value} {below : List Frame} {meth : Method} {c : Code} {D : va_G} {cA : Nat → ClassId} {ad : Nat → Nat} {A : Nat → Prop} (C : Cx p s m args c prog_9_method_13_code 5 "PollBooks$Records" D cA ad 0 A) {Q : State → Prop} {o : (Int × Int × Int × Int × Dt) ⊕ ((Int × Dt))} (x1 x2 x3 x4 : Int) (d : Dt) (hx1 : c32 x1) (hx2 : c32 x2) (hx3 : c32 x3) (hx4 : c32 x4) (h : L_Re_paidBy_y5 x1 x2 x3 x4 d = some o) (kb : ∀ (y0 y1 y2 y3 : Int) (e' : Dt), o = .inl (y0, y1, y2, y3, e') → c32 y0 → c32 y1 → c32 y2 → c32 y3 → G p l e rm_Re_paidBy s m args below meth c 0 0 Q 5 D cA ad 0 A 5 [(2, 11), (0, y0), (0, y1), (0, y2), (0, y3)] [] e') (k0 : ∀ (y0 : Int) (e' : Dt), o = .inr (y0, e') → c32 y0 → G p l e rm_Re_paidBy s m args below meth c 0 0 Q 5 D cA ad 0 A 66 [(9, 0), (9, 0), (9, 0), (0, y0), (9, 0)] [] e') : G p l e rm_Re_paidBy s m args below meth c 0 0 Q 5 D cA ad 0 A 5 [(2, 11), (0, x1), (0, x2), (0, x3), (0, x4)] [] d := by
  unfold L_Re_paidBy_y5 at h
  refine g_iload C 4 rfl (by decide +kernel) ?_
  refine g_aload_n C 0 rfl (by decide +kernel) ?_
  refine g_getI C cl7 11 18 rfl cd_A11 ⟨by decide, rfl, by decide⟩ rfl (nA (by decide)) (ix := 65) lk_99 (by decide +kernel) (fun hc1_ => ?_)
  refine g_icmp_ge C (off := 55) (tgt := 66) hx4 hc1_ (by decide +kernel) (by decide) (fun hc2_ => ?_) (fun hc2_ => ?_)
  · replace h := ite_t hc2_ h
    refine g_aload_n C 0 rfl (by decide +kernel) ?_
    refine g_getR C cl7 11 14 21 rfl cd_A11 ⟨by decide, rfl, by decide⟩ rfl rfl (nA (by decide)) (ix := 43) lk_95 (by decide +kernel) ?_
    refine g_iload C 4 rfl (by decide +kernel) ?_
    obtain ⟨hb3_, h⟩ := ck_some h
    refine g_iald C 21 hx4 rfl cd_A21 (nA (by decide)) hb3_ (by decide +kernel) (fun hc4_ => ?_)
    refine g_iload_n C 1 rfl (by decide +kernel) ?_
    refine g_icmp_ne C (off := 38) (tgt := 60) hc4_ hx1 (by decide +kernel) (by decide) (fun hc5_ => ?_) (fun hc5_ => ?_)
    · replace h := ite_t hc5_ h
      refine g_aload_n C 0 rfl (by decide +kernel) ?_
      refine g_getR C cl7 11 16 23 rfl cd_A11 ⟨by decide, rfl, by decide⟩ rfl rfl (nA (by decide)) (ix := 49) lk_97 (by decide +kernel) ?_
      refine g_iload C 4 rfl (by decide +kernel) ?_
      obtain ⟨hb6_, h⟩ := ck_some h
      refine g_iald C 23 hx4 rfl cd_A23 (nA (by decide)) hb6_ (by decide +kernel) (fun hc7_ => ?_)
      refine g_iload_n C 2 rfl (by decide +kernel) ?_
      refine g_icmp_gt C (off := 27) (tgt := 60) hc7_ hx2 (by decide +kernel) (by decide) (fun hc8_ => ?_) (fun hc8_ => ?_)
      · replace h := ite_t hc8_ h
        refine g_sub (lo2 := [(2, 11), (0, x1), (0, x2), (0, x3), (0, x4)]) (lsb_v (lsb_v (lsb_v (lsb_v (lsb_v lsb_e))))) ?_
        exact ok_Re_paidBy_b60 C x1 x2 x3 x4 d hx1 hx2 hx3 hx4 h kb k0
      · replace h := ite_f hc8_ h
        refine g_aload_n C 0 rfl (by decide +kernel) ?_
        refine g_getR C cl7 11 17 24 rfl cd_A11 ⟨by decide, rfl, by decide⟩ rfl rfl (nA (by decide)) (ix := 52) lk_98 (by decide +kernel) ?_
        refine g_iload C 4 rfl (by decide +kernel) ?_
        obtain ⟨hb9_, h⟩ := ck_some h
        refine g_iald C 24 hx4 rfl cd_A24 (nA (by decide)) hb9_ (by decide +kernel) (fun hc10_ => ?_)
        refine g_aload_n C 0 rfl (by decide +kernel) ?_
        refine g_getI C cl7 11 1 rfl cd_A11 ⟨by decide, rfl, by decide⟩ rfl (nA (by decide)) (ix := 9) lk_82 (by decide +kernel) (fun hc11_ => ?_)
        refine g_icmp_gt C (off := 13) (tgt := 60) hc10_ hc11_ (by decide +kernel) (by decide) (fun hc12_ => ?_) (fun hc12_ => ?_)
        · replace h := ite_t hc12_ h
          refine g_sub (lo2 := [(2, 11), (0, x1), (0, x2), (0, x3), (0, x4)]) (lsb_v (lsb_v (lsb_v (lsb_v (lsb_v lsb_e))))) ?_
          exact ok_Re_paidBy_b60 C x1 x2 x3 x4 d hx1 hx2 hx3 hx4 h kb k0
        · replace h := ite_f hc12_ h
          refine g_iload_n C 3 rfl (by decide +kernel) ?_
          refine g_aload_n C 0 rfl (by decide +kernel) ?_
          refine g_getR C cl7 11 15 22 rfl cd_A11 ⟨by decide, rfl, by decide⟩ rfl rfl (nA (by decide)) (ix := 46) lk_96 (by decide +kernel) ?_
          refine g_iload C 4 rfl (by decide +kernel) ?_
          obtain ⟨hb13_, h⟩ := ck_some h
          refine g_iald C 22 hx4 rfl cd_A22 (nA (by decide)) hb13_ (by decide +kernel) (fun hc14_ => ?_)
          refine g_iadd C (by decide +kernel) ?_
          obtain ⟨v15_, ev16_, h⟩ := lt_some h
          refine g_val ev16_.symm ?_
          have hv17_ : c32 v15_ := by rw [ev16_]; exact (w32_c _)
          refine s_istore_n C 3 (lo' := [(2, 11), (0, x1), (0, x2), (0, v15_), (0, x4)]) (by decide) (s1k (s1k (s1n (by decide) s1z))) (by decide +kernel) ?_
          refine g_sub (lo2 := [(2, 11), (0, x1), (0, x2), (0, v15_), (0, x4)]) (lsb_v (lsb_v (lsb_v (lsb_v (lsb_v lsb_e))))) ?_
          exact ok_Re_paidBy_b60 C x1 x2 v15_ x4 d hx1 hx2 hv17_ hx4 h kb k0
    · replace h := ite_f hc5_ h
      refine g_sub (lo2 := [(2, 11), (0, x1), (0, x2), (0, x3), (0, x4)]) (lsb_v (lsb_v (lsb_v (lsb_v (lsb_v lsb_e))))) ?_
      exact ok_Re_paidBy_b60 C x1 x2 x3 x4 d hx1 hx2 hx3 hx4 h kb k0
  · replace h := ite_f hc2_ h
    refine g_sub (lo2 := [(9, 0), (9, 0), (9, 0), (0, x3), (9, 0)]) (lsb_c (lsb_c (lsb_c (lsb_v (lsb_c lsb_e))))) ?_
    obtain rfl := Option.some.inj h
    exact k0 x3 d rfl hx3
set_option maxHeartbeats 4000000 in
theorem ok_Re_paidBy_n5 {p : Program} {l : Launch} {e : Env} {s : State} {m : MethodId} {args : Array Value} {below : List Frame} {meth : Method} {c : Code} {D : va_G} {cA : Nat → ClassId} {ad : Nat → Nat} {A : Nat → Prop} (C : Cx p s m args c prog_9_method_13_code 5 "PollBooks$Records" D cA ad 0 A) {Q : State → Prop} {x : (Int × Dt)} : ∀ (n : Nat) (x1 x2 x3 x4 : Int) (d : Dt), c32 x1 → c32 x2 → c32 x3 → c32 x4 → lpF (fun q : Int × Int × Int × Int × Dt => L_Re_paidBy_y5 q.1 q.2.1 q.2.2.1 q.2.2.2.1 q.2.2.2.2) n (x1, x2, x3, x4, d) = some x → (∀ (y0 : Int) (e' : Dt), x = (y0, e') → c32 y0 → G p l e rm_Re_paidBy s m args below meth c 0 0 Q 5 D cA ad 0 A 66 [(9, 0), (9, 0), (9, 0), (0, y0), (9, 0)] [] e') → G p l e rm_Re_paidBy s m args below meth c 0 0 Q 5 D cA ad 0 A 5 [(2, 11), (0, x1), (0, x2), (0, x3), (0, x4)] [] d := by
  intro n
  induction n with
  | zero => intro x1 x2 x3 x4 d g0 g1 g2 g3 h k0; cases h
  | succ n ih =>
    intro x1 x2 x3 x4 d g0 g1 g2 g3 h k0
    rcases lpF_some h with h | ⟨⟨v0_, v1_, v2_, v3_, e0_⟩, h1, h⟩
    · exact ok_Re_paidBy_y5 C x1 x2 x3 x4 d g0 g1 g2 g3 h (fun z0_ z1_ z2_ z3_ e1_ eq w0_ w1_ w2_ w3_ => by cases eq) (fun z0_ e1_ eq w0_ => k0 _ _ (by cases eq; rfl) w0_)
    · exact ok_Re_paidBy_y5 C x1 x2 x3 x4 d g0 g1 g2 g3 h1 (fun z0_ z1_ z2_ z3_ e1_ eq w0_ w1_ w2_ w3_ => by cases eq; exact ih _ _ _ _ _ w0_ w1_ w2_ w3_ h k0) (fun z0_ e1_ eq w0_ => by cases eq)
set_option maxHeartbeats 4000000 in
theorem ok_Re_paidBy_l5 {p : Program} {l : Launch} {e : Env} {s : State} {m : MethodId} {args : Array Value} {below : List Frame} {meth : Method} {c : Code} {D : va_G} {cA : Nat → ClassId} {ad : Nat → Nat} {A : Nat → Prop} (C : Cx p s m args c prog_9_method_13_code 5 "PollBooks$Records" D cA ad 0 A) {Q : State → Prop} {x : (Int × Dt)} (x1 x2 x3 x4 : Int) (d : Dt) (hx1 : c32 x1) (hx2 : c32 x2) (hx3 : c32 x3) (hx4 : c32 x4) (h : L_Re_paidBy_l5 x1 x2 x3 x4 d = some x) (k0 : ∀ (y0 : Int) (e' : Dt), x = (y0, e') → c32 y0 → G p l e rm_Re_paidBy s m args below meth c 0 0 Q 5 D cA ad 0 A 66 [(9, 0), (9, 0), (9, 0), (0, y0), (9, 0)] [] e') : G p l e rm_Re_paidBy s m args below meth c 0 0 Q 5 D cA ad 0 A 5 [(2, 11), (0, x1), (0, x2), (0, x3), (0, x4)] [] d :=
  ok_Re_paidBy_n5 C FU x1 x2 x3 x4 d hx1 hx2 hx3 hx4 h k0
set_option maxHeartbeats 4000000 in
theorem ok_Re_paidBy {l : Launch} {r : Int} {d' : Dt} (p1 p2 : Int) (d : Dt) (hp1 : c32 p1) (hp2 : c32 p2) (h : L_Re_paidBy p1 p2 d = some (r, d')) : MC l y_Re_paidBy prog_9_method_13_code 5 (some .int) rm_Re_paidBy 0 [(2, 11), (0, p1), (0, p2)] d (some (0, r)) d' := by
  refine MC.of (by decide) (Nat.le_of_ble_eq_true rfl) ?_
  intro p e s m args below meth c D cA ad A C hlk hr
  replace C : Cx p s m args c prog_9_method_13_code 5 "PollBooks$Records" D cA ad 0 A := C
  show G p l e rm_Re_paidBy s m args below meth c 0 0 (MQ below (fun _ => QC D cA ad 0 A (some .int) (some (0, r)) d') args s 0 0 A) 5 D cA ad 0 A 0 [(2, 11), (0, p1), (0, p2)] [] d
  refine g_sub (lo2 := [(2, 11), (0, p1), (0, p2), (9, 0), (9, 0)]) (lsb_v (lsb_v (lsb_v (lsb_n (lsb_n lsb_e))))) ?_
  unfold L_Re_paidBy at h
  refine g_iconst C 0 (cK rfl) (by decide +kernel) ?_
  refine s_istore_n C 3 (lo' := [(2, 11), (0, p1), (0, p2), (0, 0), (9, 0)]) (by decide) (s1k (s1k (s1n (by decide) s1z))) (by decide +kernel) ?_
  refine g_iconst C 0 (cK rfl) (by decide +kernel) ?_
  refine s_istore C 4 (lo' := [(2, 11), (0, p1), (0, p2), (0, 0), (0, 0)]) (by decide) (s1k (s1k (s1k (s1n (by decide) s1z)))) (by decide +kernel) ?_
  refine g_sub (lo2 := [(2, 11), (0, p1), (0, p2), (0, 0), (0, 0)]) (lsb_v (lsb_v (lsb_v (lsb_v (lsb_v lsb_e))))) ?_
  obtain ⟨x18_, hx19_, h⟩ := lb_some h
  refine ok_Re_paidBy_l5 C p1 p2 0 0 d hp1 hp2 (c32_cb (Or.inl rfl)) (c32_cb (Or.inl rfl)) hx19_ (fun v20_ d21_ eq22_ hv20_ => ?_)
  subst eq22_
  replace h := u1_e h
  refine g_iload_n C 3 rfl (by decide +kernel) ?_
  obtain ⟨rfl, rfl⟩ := ret_inj h
  exact g_iret C hv20_ hlk hr (by decide +kernel)
/-! PollBooks$Records.tell(III[J)V -/
def y_Re_tell : MethodName := ⟨"PollBooks$Records", "tell", "(III[J)V"⟩
def rm_Re_tell : Room := { frames := 2, cells := 0, slots := 0, locals := 54 }
theorem mw_Re_tell : MW y_Re_tell prog_9_method_10_code 7 none 4 := ⟨lk_702, lk_5, by decide +kernel⟩
def L_Re_tell_b57 (arr3 len3 : Nat) (x1 x3 s1 s2 : Int) (d : Dt) : Option (Int × Dt) :=
  bd (L_PB_bit s2 d) (fun r2_ d1_ => ck ((0 : Int) ≤ s1 ∧ s1 < (len3 : Int)) (bd (L_Re_paidBy x1 x3 (up2 d1_ arr3 s1.toNat r2_)) (fun r7_ d6_ => ck ((0 : Int) ≤ 6 ∧ 6 < (len3 : Int)) (some (0, (up2 d6_ arr3 6 r7_))))))
def L_Re_tell (arr3 len3 : Nat) (p1 p2 p3 : Int) (d : Dt) : Option (Int × Dt) :=
  bd (L_Re_tellLand arr3 len3 p1 p3 d) (fun r12_ d11_ => bd (L_Re_sinceSplit r12_ p3 d11_) (fun r16_ d15_ => ck ((0 : Int) ≤ 3 ∧ 3 < (len3 : Int)) (ck ((0 : Int) ≤ p1 ∧ p1 < 40) (ck ((0 : Int) ≤ 4 ∧ 4 < (len3 : Int)) (ck ((0 : Int) ≤ p1 ∧ p1 < 40) (if ((up2 (up2 d15_ arr3 3 r16_) arr3 4 ((up2 d15_ arr3 3 r16_) 9 p1.toNat)) 10 p1.toNat) = p2 then L_Re_tell_b57 arr3 len3 p1 p3 5 1 (up2 (up2 d15_ arr3 3 r16_) arr3 4 ((up2 d15_ arr3 3 r16_) 9 p1.toNat)) else L_Re_tell_b57 arr3 len3 p1 p3 5 0 (up2 (up2 d15_ arr3 3 r16_) arr3 4 ((up2 d15_ arr3 3 r16_) 9 p1.toNat))))))))
set_option maxHeartbeats 4000000 in
theorem ok_Re_tell_b57 {p : Program} {l : Launch} {e : Env} {s : State} {m : MethodId} {args : Array Value} {below : List Frame} {meth : Method} {c : Code} {D : va_G} {cA : Nat → ClassId} {ad : Nat → Nat} {A : Nat → Prop} (C : Cx p s m args c prog_9_method_10_code 7 "PollBooks$Records" D cA ad 0 A) (hlk : meth.locks = false) (hr : meth.sig.returnType = none) (arr3 len3 : Nat) (harr3 : cd 0 arr3 = (21, len3)) (barr3 : arr3 < 79) {r : Int} {d' : Dt} (x1 x3 s1 s2 : Int) (d : Dt) (hx1 : c32 x1) (hx3 : c32 x3) (hs1 : c32 s1) (hs2 : cb s2) (h : L_Re_tell_b57 arr3 len3 x1 x3 s1 s2 d = some (r, d')) : G p l e rm_Re_tell s m args below meth c 0 0 (MQ below (fun _ => QC D cA ad 0 A none none d') args s 0 0 A) 7 D cA ad 0 A 57 [(2, 11), (0, x1), (9, 0), (0, x3), (2, (arr3 : Int)), (9, 0), (9, 0)] [(0, s2), (0, s1), (2, (arr3 : Int))] d := by
  unfold L_Re_tell_b57 at h
  obtain ⟨r2_, d1_, hr3_, h⟩ := bd_some h
  refine g_callSN C mw_PB_bit [(0, s2)] (ok_PB_bit s2 d hs2 hr3_) (ix := 87) lk_715 lk_716 ⟨rfl, rfl, Nat.le_of_ble_eq_true rfl, Nat.le_of_ble_eq_true rfl⟩ rfl (rest := [(0, s1), (2, (arr3 : Int))]) rfl (Nat.le_of_ble_eq_true rfl) ⟨Nat.zero_le _, Nat.zero_le _⟩ (by decide +kernel) (fun _ hc4_ => ?_)
  replace hc4_ : c32 r2_ := hc4_
  refine g_st (st2 := [(0, r2_), (0, s1), (2, (arr3 : Int))]) rfl ?_
  refine g_i2l C hc4_ (by decide +kernel) ?_
  obtain ⟨hb5_, h⟩ := ck_some h
  refine g_last C arr3 (c64_32 hc4_) hs1 rfl harr3 (nA barr3) hb5_ (by decide +kernel) ?_
  refine g_aload C 4 rfl (by decide +kernel) ?_
  refine g_bipush C 6 (by decide) (by decide +kernel) ?_
  refine g_aload_n C 0 rfl (by decide +kernel) ?_
  refine g_iload_n C 1 rfl (by decide +kernel) ?_
  refine g_iload_n C 3 rfl (by decide +kernel) ?_
  obtain ⟨r7_, d6_, hr8_, h⟩ := bd_some h
  refine g_callV C mw_Re_paidBy [(0, x1), (0, x3)] 11 cl7 rfl (ok_Re_paidBy x1 x3 (up2 d1_ arr3 s1.toNat r2_) hx1 hx3 hr8_) cd_A11 (by decide) (nA (by decide)) (ix := 91) lk_718 lk_720 lkp_7 ⟨rfl, rfl, Nat.le_of_ble_eq_true rfl, Nat.le_of_ble_eq_true rfl⟩ rfl (rest := [(0, 6), (2, (arr3 : Int))]) rfl (Nat.le_of_ble_eq_true rfl) ⟨Nat.zero_le _, Nat.zero_le _⟩ (by decide +kernel) (fun _ hc9_ => ?_)
  replace hc9_ : c32 r7_ := hc9_
  refine g_st (st2 := [(0, r7_), (0, 6), (2, (arr3 : Int))]) rfl ?_
  refine g_i2l C hc9_ (by decide +kernel) ?_
  obtain ⟨hb10_, h⟩ := ck_some h
  refine g_last C arr3 (c64_32 hc9_) (cK rfl) rfl harr3 (nA barr3) hb10_ (by decide +kernel) ?_
  obtain ⟨rfl, rfl⟩ := ret_inj h
  exact g_vret C hlk hr (by decide +kernel)
set_option maxHeartbeats 4000000 in
theorem ok_Re_tell {l : Launch} (arr3 len3 : Nat) (harr3 : cd 0 arr3 = (21, len3)) (barr3 : arr3 < 79) {r : Int} {d' : Dt} (p1 p2 p3 : Int) (d : Dt) (hp1 : c32 p1) (hp2 : c32 p2) (hp3 : c32 p3) (h : L_Re_tell arr3 len3 p1 p2 p3 d = some (r, d')) : MC l y_Re_tell prog_9_method_10_code 7 none rm_Re_tell 0 [(2, 11), (0, p1), (0, p2), (0, p3), (2, (arr3 : Int))] d none d' := by
  refine MC.of (by decide) (Nat.le_of_ble_eq_true rfl) ?_
  intro p e s m args below meth c D cA ad A C hlk hr
  replace C : Cx p s m args c prog_9_method_10_code 7 "PollBooks$Records" D cA ad 0 A := C
  show G p l e rm_Re_tell s m args below meth c 0 0 (MQ below (fun _ => QC D cA ad 0 A none none d') args s 0 0 A) 7 D cA ad 0 A 0 [(2, 11), (0, p1), (0, p2), (0, p3), (2, (arr3 : Int))] [] d
  refine g_sub (lo2 := [(2, 11), (0, p1), (0, p2), (0, p3), (2, (arr3 : Int)), (9, 0), (9, 0)]) (lsb_v (lsb_v (lsb_v (lsb_v (lsb_v (lsb_n (lsb_n lsb_e))))))) ?_
  unfold L_Re_tell at h
  refine g_aload_n C 0 rfl (by decide +kernel) ?_
  refine g_iload_n C 1 rfl (by decide +kernel) ?_
  refine g_iload_n C 3 rfl (by decide +kernel) ?_
  refine g_aload C 4 rfl (by decide +kernel) ?_
  obtain ⟨r12_, d11_, hr13_, h⟩ := bd_some h
  refine g_callV C mw_Re_tellLand [(0, p1), (0, p3), (2, (arr3 : Int))] 11 cl7 rfl (ok_Re_tellLand arr3 len3 harr3 barr3 p1 p3 d hp1 hp3 hr13_) cd_A11 (by decide) (nA (by decide)) (ix := 71) lk_703 lk_705 lkp_5 ⟨rfl, rfl, Nat.le_of_ble_eq_true rfl, Nat.le_of_ble_eq_true rfl⟩ rfl (rest := []) rfl (Nat.le_of_ble_eq_true rfl) ⟨Nat.zero_le _, Nat.zero_le _⟩ (by decide +kernel) (fun _ hc14_ => ?_)
  replace hc14_ : c64 r12_ := hc14_
  refine g_st (st2 := [(1, r12_)]) rfl ?_
  refine s_lstore C 5 (lo' := [(2, 11), (0, p1), (0, p2), (0, p3), (2, (arr3 : Int)), (1, r12_), (9, 0)]) (by decide) (s2k (s2k (s2k (s2k (s2n (by decide) s2z))))) (by decide +kernel) ?_
  refine g_aload C 4 rfl (by decide +kernel) ?_
  refine g_iconst C 3 (cK rfl) (by decide +kernel) ?_
  refine g_aload_n C 0 rfl (by decide +kernel) ?_
  refine g_lload C 5 rfl (by decide +kernel) ?_
  refine g_iload_n C 3 rfl (by decide +kernel) ?_
  obtain ⟨r16_, d15_, hr17_, h⟩ := bd_some h
  refine g_callV C mw_Re_sinceSplit [(1, r12_), (0, p3)] 11 cl7 rfl (ok_Re_sinceSplit r12_ p3 d11_ hc14_ hp3 hr17_) cd_A11 (by decide) (nA (by decide)) (ix := 75) lk_710 lk_712 lkp_6 ⟨rfl, rfl, Nat.le_of_ble_eq_true rfl, Nat.le_of_ble_eq_true rfl⟩ rfl (rest := [(0, 3), (2, (arr3 : Int))]) rfl (Nat.le_of_ble_eq_true rfl) ⟨Nat.zero_le _, Nat.zero_le _⟩ (by decide +kernel) (fun _ hc18_ => ?_)
  replace hc18_ : c32 r16_ := hc18_
  refine g_st (st2 := [(0, r16_), (0, 3), (2, (arr3 : Int))]) rfl ?_
  refine g_i2l C hc18_ (by decide +kernel) ?_
  obtain ⟨hb19_, h⟩ := ck_some h
  refine g_last C arr3 (c64_32 hc18_) (cK rfl) rfl harr3 (nA barr3) hb19_ (by decide +kernel) ?_
  refine g_aload C 4 rfl (by decide +kernel) ?_
  refine g_iconst C 4 (cK rfl) (by decide +kernel) ?_
  refine g_aload_n C 0 rfl (by decide +kernel) ?_
  refine g_getR C cl7 11 0 7 rfl cd_A11 ⟨by decide, rfl, by decide⟩ rfl rfl (nA (by decide)) (ix := 55) lk_81 (by decide +kernel) ?_
  refine g_getRN C cl5 7 1 9 rfl cd_A7 ⟨by decide, rfl, by decide⟩ rfl rfl (nA (by decide)) (ix := 79) lk_61 (by decide +kernel) ?_
  refine g_iload_n C 1 rfl (by decide +kernel) ?_
  obtain ⟨hb20_, h⟩ := ck_some h
  refine g_iald C 9 hp1 rfl cd_A9 (nA (by decide)) hb20_ (by decide +kernel) (fun hc21_ => ?_)
  refine g_i2l C hc21_ (by decide +kernel) ?_
  obtain ⟨hb22_, h⟩ := ck_some h
  refine g_last C arr3 (c64_32 hc21_) (cK rfl) rfl harr3 (nA barr3) hb22_ (by decide +kernel) ?_
  refine g_aload C 4 rfl (by decide +kernel) ?_
  refine g_iconst C 5 (cK rfl) (by decide +kernel) ?_
  refine g_aload_n C 0 rfl (by decide +kernel) ?_
  refine g_getR C cl7 11 0 7 rfl cd_A11 ⟨by decide, rfl, by decide⟩ rfl rfl (nA (by decide)) (ix := 55) lk_81 (by decide +kernel) ?_
  refine g_getRN C cl5 7 2 10 rfl cd_A7 ⟨by decide, rfl, by decide⟩ rfl rfl (nA (by decide)) (ix := 84) lk_63 (by decide +kernel) ?_
  refine g_iload_n C 1 rfl (by decide +kernel) ?_
  obtain ⟨hb23_, h⟩ := ck_some h
  refine g_iald C 10 hp1 rfl cd_A10 (nA (by decide)) hb23_ (by decide +kernel) (fun hc24_ => ?_)
  refine g_iload_n C 2 rfl (by decide +kernel) ?_
  refine g_icmp_ne C (off := 7) (tgt := 56) hc24_ hp2 (by decide +kernel) (by decide) (fun hc25_ => ?_) (fun hc25_ => ?_)
  · replace h := ite_t hc25_ h
    refine g_iconst C 1 (cK rfl) (by decide +kernel) ?_
    refine g_goto C 57 (off := 4) (by decide +kernel) (by decide) ?_
    refine g_sub (lo2 := [(2, 11), (0, p1), (9, 0), (0, p3), (2, (arr3 : Int)), (9, 0), (9, 0)]) (lsb_v (lsb_v (lsb_c (lsb_v (lsb_v (lsb_c (lsb_c lsb_e))))))) ?_
    exact ok_Re_tell_b57 C hlk hr arr3 len3 harr3 barr3 p1 p3 5 1 (up2 (up2 d15_ arr3 3 r16_) arr3 4 ((up2 d15_ arr3 3 r16_) 9 p1.toNat)) hp1 hp3 (cK rfl) (Or.inr rfl) h
  · replace h := ite_f hc25_ h
    refine g_iconst C 0 (cK rfl) (by decide +kernel) ?_
    refine g_sub (lo2 := [(2, 11), (0, p1), (9, 0), (0, p3), (2, (arr3 : Int)), (9, 0), (9, 0)]) (lsb_v (lsb_v (lsb_c (lsb_v (lsb_v (lsb_c (lsb_c lsb_e))))))) ?_
    exact ok_Re_tell_b57 C hlk hr arr3 len3 harr3 barr3 p1 p3 5 0 (up2 (up2 d15_ arr3 3 r16_) arr3 4 ((up2 d15_ arr3 3 r16_) 9 p1.toNat)) hp1 hp3 (cK rfl) (Or.inl rfl) h
