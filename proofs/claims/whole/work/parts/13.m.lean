/-! PollBooks$Books.settle()V -/
def y_Bo_settle : MethodName := ⟨"PollBooks$Books", "settle", "()V"⟩
def rm_Bo_settle : Room := { frames := 2, cells := 0, slots := 0, locals := 50 }
theorem mw_Bo_settle : MW y_Bo_settle prog_2_method_13_code 2 none 0 := ⟨lk_1029, lk_9, by decide +kernel⟩
def L_Bo_settle_y15 (x1 : Int) (d : Dt) : Option ((Int × Dt) ⊕ ((Dt))) :=
  if x1 < 3 then bd (L_Bo_weigh x1 d) (fun r3_ d2_ => bd (L_Bo_pair x1 d2_) (fun r7_ d6_ => some (Sum.inl ((w32 (x1 + 1)), d6_)))) else some (Sum.inr (d))
def L_Bo_settle_l15 (x1 : Int) (d : Dt) : Option ((Dt)) := lpF (fun q : Int × Dt => L_Bo_settle_y15 q.1 q.2) FU (x1, d)
def L_Bo_settle_y38 (x1 : Int) (d : Dt) : Option ((Int × Dt) ⊕ ((Dt))) :=
  if x1 < (d 42 0) then bd (L_Bo_majority x1 d) (fun r13_ d12_ => ck ((0 : Int) ≤ x1 ∧ x1 < 30) (some (Sum.inl ((w32 (x1 + 1)), (up2 d12_ 47 x1.toNat r13_))))) else some (Sum.inr (d))
def L_Bo_settle_l38 (x1 : Int) (d : Dt) : Option ((Dt)) := lpF (fun q : Int × Dt => L_Bo_settle_y38 q.1 q.2) FU (x1, d)
def L_Bo_settle (d : Dt) : Option (Int × Dt) :=
  if (d 37 10) = 0 then lb (L_Bo_settle_l15 1 (up2 d 37 10 1)) (fun q28_ => u0 q28_ (fun d21_ => lb (L_Bo_settle_l38 0 d21_) (fun q27_ => u0 q27_ (fun d25_ => some (0, d25_))))) else some (0, d)
set_option maxHeartbeats 4000000 in
theorem ok_Bo_settle_y15 {p : Program} {l : Launch} {e : Env} {s : State} {m : MethodId} {args : Array Value} {below : List Frame} {meth : Method} {c : Code} {D : va_G} {cA : Nat → ClassId} {ad : Nat → Nat} {A : Nat → Prop} (C : Cx p s m args c prog_2_method_13_code 2 "PollBooks$Books" D cA ad 0 A) {Q : State → Prop} {o : (Int × Dt) ⊕ ((Dt))} (x1 : Int) (d : Dt) (hx1 : c32 x1) (h : L_Bo_settle_y15 x1 d = some o) (kb : ∀ (y0 : Int) (e' : Dt), o = .inl (y0, e') → c32 y0 → G p l e rm_Bo_settle s m args below meth c 0 0 Q 2 D cA ad 0 A 15 [(2, 37), (0, y0)] [] e') (k0 : ∀ (e' : Dt), o = .inr (e') → G p l e rm_Bo_settle s m args below meth c 0 0 Q 2 D cA ad 0 A 36 [(2, 37), (9, 0)] [] e') : G p l e rm_Bo_settle s m args below meth c 0 0 Q 2 D cA ad 0 A 15 [(2, 37), (0, x1)] [] d := by
  unfold L_Bo_settle_y15 at h
  refine g_iload_n C 1 rfl (by decide +kernel) ?_
  refine g_iconst C 3 (cK rfl) (by decide +kernel) ?_
  refine g_icmp_ge C (off := 19) (tgt := 36) hx1 (cK rfl) (by decide +kernel) (by decide) (fun hc1_ => ?_) (fun hc1_ => ?_)
  · replace h := ite_t hc1_ h
    refine g_aload_n C 0 rfl (by decide +kernel) ?_
    refine g_iload_n C 1 rfl (by decide +kernel) ?_
    obtain ⟨r3_, d2_, hr4_, h⟩ := bd_some h
    refine g_callV C mw_Bo_weigh [(0, x1)] 37 cl0 rfl (ok_Bo_weigh x1 d hx1 hr4_) cd_A37 (by decide) (nA (by decide)) (ix := 79) lk_1030 lk_1032 lkp_38 ⟨rfl, rfl, Nat.le_of_ble_eq_true rfl, Nat.le_of_ble_eq_true rfl⟩ rfl (rest := []) rfl (Nat.le_of_ble_eq_true rfl) ⟨Nat.zero_le _, Nat.zero_le _⟩ (by decide +kernel) (fun _ hc5_ => ?_)
    refine g_st (st2 := []) rfl ?_
    refine g_aload_n C 0 rfl (by decide +kernel) ?_
    refine g_iload_n C 1 rfl (by decide +kernel) ?_
    obtain ⟨r7_, d6_, hr8_, h⟩ := bd_some h
    refine g_callV C mw_Bo_pair [(0, x1)] 37 cl0 rfl (ok_Bo_pair x1 d2_ hx1 hr8_) cd_A37 (by decide) (nA (by decide)) (ix := 82) lk_1034 lk_1036 lkp_39 ⟨rfl, rfl, Nat.le_of_ble_eq_true rfl, Nat.le_of_ble_eq_true rfl⟩ rfl (rest := []) rfl (Nat.le_of_ble_eq_true rfl) ⟨Nat.zero_le _, Nat.zero_le _⟩ (by decide +kernel) (fun _ hc9_ => ?_)
    refine g_st (st2 := []) rfl ?_
    refine s_iinc C 1 1 (lo' := [(2, 37), (0, (w32 (x1 + 1)))]) rfl (by decide) (s1n (by decide) s1z) (by decide +kernel) ?_
    refine g_goto C 15 (off := (-18)) (by decide +kernel) (by decide) ?_
    refine g_sub (lo2 := [(2, 37), (0, (w32 (x1 + 1)))]) (lsb_v (lsb_v lsb_e)) ?_
    obtain rfl := Option.some.inj h
    exact kb (w32 (x1 + 1)) d6_ rfl (w32_c _)
  · replace h := ite_f hc1_ h
    refine g_sub (lo2 := [(2, 37), (9, 0)]) (lsb_v (lsb_c lsb_e)) ?_
    obtain rfl := Option.some.inj h
    exact k0 d rfl 
set_option maxHeartbeats 4000000 in
theorem ok_Bo_settle_n15 {p : Program} {l : Launch} {e : Env} {s : State} {m : MethodId} {args : Array Value} {below : List Frame} {meth : Method} {c : Code} {D : va_G} {cA : Nat → ClassId} {ad : Nat → Nat} {A : Nat → Prop} (C : Cx p s m args c prog_2_method_13_code 2 "PollBooks$Books" D cA ad 0 A) {Q : State → Prop} {x : (Dt)} : ∀ (n : Nat) (x1 : Int) (d : Dt), c32 x1 → lpF (fun q : Int × Dt => L_Bo_settle_y15 q.1 q.2) n (x1, d) = some x → (∀ (e' : Dt), x = (e') → G p l e rm_Bo_settle s m args below meth c 0 0 Q 2 D cA ad 0 A 36 [(2, 37), (9, 0)] [] e') → G p l e rm_Bo_settle s m args below meth c 0 0 Q 2 D cA ad 0 A 15 [(2, 37), (0, x1)] [] d := by
  intro n
  induction n with
  | zero => intro x1 d g0 h k0; cases h
  | succ n ih =>
    intro x1 d g0 h k0
    rcases lpF_some h with h | ⟨⟨v0_, e0_⟩, h1, h⟩
    · exact ok_Bo_settle_y15 C x1 d g0 h (fun z0_ e1_ eq w0_ => by cases eq) (fun e1_ eq => k0 _ (by cases eq; rfl) )
    · exact ok_Bo_settle_y15 C x1 d g0 h1 (fun z0_ e1_ eq w0_ => by cases eq; exact ih _ _ w0_ h k0) (fun e1_ eq => by cases eq)
set_option maxHeartbeats 4000000 in
theorem ok_Bo_settle_l15 {p : Program} {l : Launch} {e : Env} {s : State} {m : MethodId} {args : Array Value} {below : List Frame} {meth : Method} {c : Code} {D : va_G} {cA : Nat → ClassId} {ad : Nat → Nat} {A : Nat → Prop} (C : Cx p s m args c prog_2_method_13_code 2 "PollBooks$Books" D cA ad 0 A) {Q : State → Prop} {x : (Dt)} (x1 : Int) (d : Dt) (hx1 : c32 x1) (h : L_Bo_settle_l15 x1 d = some x) (k0 : ∀ (e' : Dt), x = (e') → G p l e rm_Bo_settle s m args below meth c 0 0 Q 2 D cA ad 0 A 36 [(2, 37), (9, 0)] [] e') : G p l e rm_Bo_settle s m args below meth c 0 0 Q 2 D cA ad 0 A 15 [(2, 37), (0, x1)] [] d :=
  ok_Bo_settle_n15 C FU x1 d hx1 h k0
set_option maxHeartbeats 4000000 in
theorem ok_Bo_settle_y38 {p : Program} {l : Launch} {e : Env} {s : State} {m : MethodId} {args : Array Value} {below : List Frame} {meth : Method} {c : Code} {D : va_G} {cA : Nat → ClassId} {ad : Nat → Nat} {A : Nat → Prop} (C : Cx p s m args c prog_2_method_13_code 2 "PollBooks$Books" D cA ad 0 A) {Q : State → Prop} {o : (Int × Dt) ⊕ ((Dt))} (x1 : Int) (d : Dt) (hx1 : c32 x1) (h : L_Bo_settle_y38 x1 d = some o) (kb : ∀ (y0 : Int) (e' : Dt), o = .inl (y0, e') → c32 y0 → G p l e rm_Bo_settle s m args below meth c 0 0 Q 2 D cA ad 0 A 38 [(2, 37), (0, y0)] [] e') (k0 : ∀ (e' : Dt), o = .inr (e') → G p l e rm_Bo_settle s m args below meth c 0 0 Q 2 D cA ad 0 A 65 [(9, 0), (9, 0)] [] e') : G p l e rm_Bo_settle s m args below meth c 0 0 Q 2 D cA ad 0 A 38 [(2, 37), (0, x1)] [] d := by
  unfold L_Bo_settle_y38 at h
  refine g_iload_n C 1 rfl (by decide +kernel) ?_
  refine g_aload_n C 0 rfl (by decide +kernel) ?_
  refine g_getR C cl0 37 4 42 rfl cd_A37 ⟨by decide, rfl, by decide⟩ rfl rfl (nA (by decide)) (ix := 25) lk_279 (by decide +kernel) ?_
  refine g_iconst C 0 (cK rfl) (by decide +kernel) ?_
  refine g_iald C 42 (c32_cb (Or.inl rfl)) rfl cd_A42 (nA (by decide)) (by decide) (by decide +kernel) (fun hc10_ => ?_)
  refine g_val (y := (d 42 0)) rfl ?_
  replace hc10_ : c32 (d 42 0) := hc10_
  refine g_icmp_ge C (off := 20) (tgt := 65) hx1 hc10_ (by decide +kernel) (by decide) (fun hc11_ => ?_) (fun hc11_ => ?_)
  · replace h := ite_t hc11_ h
    refine g_aload_n C 0 rfl (by decide +kernel) ?_
    refine g_getR C cl0 37 9 47 rfl cd_A37 ⟨by decide, rfl, by decide⟩ rfl rfl (nA (by decide)) (ix := 40) lk_285 (by decide +kernel) ?_
    refine g_iload_n C 1 rfl (by decide +kernel) ?_
    refine g_aload_n C 0 rfl (by decide +kernel) ?_
    refine g_iload_n C 1 rfl (by decide +kernel) ?_
    obtain ⟨r13_, d12_, hr14_, h⟩ := bd_some h
    refine g_callV C mw_Bo_majority [(0, x1)] 37 cl0 rfl (ok_Bo_majority x1 d hx1 hr14_) cd_A37 (by decide) (nA (by decide)) (ix := 85) lk_1038 lk_1040 lkp_40 ⟨rfl, rfl, Nat.le_of_ble_eq_true rfl, Nat.le_of_ble_eq_true rfl⟩ rfl (rest := [(0, x1), (2, 47)]) rfl (Nat.le_of_ble_eq_true rfl) ⟨Nat.zero_le _, Nat.zero_le _⟩ (by decide +kernel) (fun _ hc15_ => ?_)
    replace hc15_ : c32 r13_ := hc15_
    refine g_st (st2 := [(0, r13_), (0, x1), (2, 47)]) rfl ?_
    obtain ⟨hb16_, h⟩ := ck_some h
    refine g_iast C 47 hc15_ hx1 rfl cd_A47 (nA (by decide)) hb16_ (by decide +kernel) ?_
    refine s_iinc C 1 1 (lo' := [(2, 37), (0, (w32 (x1 + 1)))]) rfl (by decide) (s1n (by decide) s1z) (by decide +kernel) ?_
    refine g_goto C 38 (off := (-24)) (by decide +kernel) (by decide) ?_
    refine g_sub (lo2 := [(2, 37), (0, (w32 (x1 + 1)))]) (lsb_v (lsb_v lsb_e)) ?_
    obtain rfl := Option.some.inj h
    exact kb (w32 (x1 + 1)) (up2 d12_ 47 x1.toNat r13_) rfl (w32_c _)
  · replace h := ite_f hc11_ h
    refine g_sub (lo2 := [(9, 0), (9, 0)]) (lsb_c (lsb_c lsb_e)) ?_
    obtain rfl := Option.some.inj h
    exact k0 d rfl 
set_option maxHeartbeats 4000000 in
theorem ok_Bo_settle_n38 {p : Program} {l : Launch} {e : Env} {s : State} {m : MethodId} {args : Array Value} {below : List Frame} {meth : Method} {c : Code} {D : va_G} {cA : Nat → ClassId} {ad : Nat → Nat} {A : Nat → Prop} (C : Cx p s m args c prog_2_method_13_code 2 "PollBooks$Books" D cA ad 0 A) {Q : State → Prop} {x : (Dt)} : ∀ (n : Nat) (x1 : Int) (d : Dt), c32 x1 → lpF (fun q : Int × Dt => L_Bo_settle_y38 q.1 q.2) n (x1, d) = some x → (∀ (e' : Dt), x = (e') → G p l e rm_Bo_settle s m args below meth c 0 0 Q 2 D cA ad 0 A 65 [(9, 0), (9, 0)] [] e') → G p l e rm_Bo_settle s m args below meth c 0 0 Q 2 D cA ad 0 A 38 [(2, 37), (0, x1)] [] d := by
  intro n
  induction n with
  | zero => intro x1 d g0 h k0; cases h
  | succ n ih =>
    intro x1 d g0 h k0
    rcases lpF_some h with h | ⟨⟨v0_, e0_⟩, h1, h⟩
    · exact ok_Bo_settle_y38 C x1 d g0 h (fun z0_ e1_ eq w0_ => by cases eq) (fun e1_ eq => k0 _ (by cases eq; rfl) )
    · exact ok_Bo_settle_y38 C x1 d g0 h1 (fun z0_ e1_ eq w0_ => by cases eq; exact ih _ _ w0_ h k0) (fun e1_ eq => by cases eq)
set_option maxHeartbeats 4000000 in
theorem ok_Bo_settle_l38 {p : Program} {l : Launch} {e : Env} {s : State} {m : MethodId} {args : Array Value} {below : List Frame} {meth : Method} {c : Code} {D : va_G} {cA : Nat → ClassId} {ad : Nat → Nat} {A : Nat → Prop} (C : Cx p s m args c prog_2_method_13_code 2 "PollBooks$Books" D cA ad 0 A) {Q : State → Prop} {x : (Dt)} (x1 : Int) (d : Dt) (hx1 : c32 x1) (h : L_Bo_settle_l38 x1 d = some x) (k0 : ∀ (e' : Dt), x = (e') → G p l e rm_Bo_settle s m args below meth c 0 0 Q 2 D cA ad 0 A 65 [(9, 0), (9, 0)] [] e') : G p l e rm_Bo_settle s m args below meth c 0 0 Q 2 D cA ad 0 A 38 [(2, 37), (0, x1)] [] d :=
  ok_Bo_settle_n38 C FU x1 d hx1 h k0
set_option maxHeartbeats 4000000 in
theorem ok_Bo_settle {l : Launch} {r : Int} {d' : Dt} (d : Dt)  (h : L_Bo_settle d = some (r, d')) : MC l y_Bo_settle prog_2_method_13_code 2 none rm_Bo_settle 0 [(2, 37)] d none d' := by
  refine MC.of (by decide) (Nat.le_of_ble_eq_true rfl) ?_
  intro p e s m args below meth c D cA ad A C hlk hr
  replace C : Cx p s m args c prog_2_method_13_code 2 "PollBooks$Books" D cA ad 0 A := C
  show G p l e rm_Bo_settle s m args below meth c 0 0 (MQ below (fun _ => QC D cA ad 0 A none none d') args s 0 0 A) 2 D cA ad 0 A 0 [(2, 37)] [] d
  refine g_sub (lo2 := [(2, 37), (9, 0)]) (lsb_v (lsb_n lsb_e)) ?_
  unfold L_Bo_settle at h
  refine g_aload_n C 0 rfl (by decide +kernel) ?_
  refine g_getZ C cl0 37 10 rfl cd_A37 ⟨by decide, rfl, by decide⟩ rfl (nA (by decide)) (ix := 43) lk_286 (by decide +kernel) (fun hc17_ => ?_)
  refine g_if_eq C (off := 4) (tgt := 8) (c32_cb hc17_) (by decide +kernel) (by decide) (fun hc18_ => ?_) (fun hc18_ => ?_)
  · replace h := ite_t hc18_ h
    refine g_aload_n C 0 rfl (by decide +kernel) ?_
    refine g_iconst C 1 (cK rfl) (by decide +kernel) ?_
    refine g_putZ C cl0 37 10 (Or.inr rfl) rfl cd_A37 ⟨by decide, rfl, by decide⟩ rfl (nA (by decide)) (ix := 43) lk_286 rfl rfl (by decide +kernel) ?_
    refine g_iconst C 1 (cK rfl) (by decide +kernel) ?_
    refine s_istore_n C 1 (lo' := [(2, 37), (0, 1)]) (by decide) (s1n (by decide) s1z) (by decide +kernel) ?_
    refine g_sub (lo2 := [(2, 37), (0, 1)]) (lsb_v (lsb_v lsb_e)) ?_
    obtain ⟨x19_, hx20_, h⟩ := lb_some h
    refine ok_Bo_settle_l15 C 1 (up2 d 37 10 1) (c32_cb (Or.inr rfl)) hx20_ (fun d21_ eq22_ => ?_)
    replace eq22_ := eq22_.symm
    subst eq22_
    replace h := u0_e h
    refine g_iconst C 0 (cK rfl) (by decide +kernel) ?_
    refine s_istore_n C 1 (lo' := [(2, 37), (0, 0)]) (by decide) (s1n (by decide) s1z) (by decide +kernel) ?_
    refine g_sub (lo2 := [(2, 37), (0, 0)]) (lsb_v (lsb_v lsb_e)) ?_
    obtain ⟨x23_, hx24_, h⟩ := lb_some h
    refine ok_Bo_settle_l38 C 0 d21_ (c32_cb (Or.inl rfl)) hx24_ (fun d25_ eq26_ => ?_)
    replace eq26_ := eq26_.symm
    subst eq26_
    replace h := u0_e h
    obtain ⟨rfl, rfl⟩ := ret_inj h
    exact g_vret C hlk hr (by decide +kernel)
  · replace h := ite_f hc18_ h
    obtain ⟨rfl, rfl⟩ := ret_inj h
    exact g_vret C hlk hr (by decide +kernel)
/-! PollBooks$Books.totalCost(I)I -/
def y_Bo_totalCost : MethodName := ⟨"PollBooks$Books", "totalCost", "(I)I"⟩
def rm_Bo_totalCost : Room := { frames := 3, cells := 0, slots := 0, locals := 71 }
theorem mw_Bo_totalCost : MW y_Bo_totalCost prog_2_method_8_code 2 (some .int) 1 := ⟨lk_1025, lk_9, by decide +kernel⟩
def L_Bo_totalCost (p1 : Int) (d : Dt) : Option (Int × Dt) :=
  bd (L_Bo_settle d) (fun r2_ d1_ => ck ((0 : Int) ≤ p1 ∧ p1 < 3) (some ((d1_ 45 p1.toNat), d1_)))
set_option maxHeartbeats 4000000 in
theorem ok_Bo_totalCost {l : Launch} {r : Int} {d' : Dt} (p1 : Int) (d : Dt) (hp1 : c32 p1) (h : L_Bo_totalCost p1 d = some (r, d')) : MC l y_Bo_totalCost prog_2_method_8_code 2 (some .int) rm_Bo_totalCost 0 [(2, 37), (0, p1)] d (some (0, r)) d' := by
  refine MC.of (by decide) (Nat.le_of_ble_eq_true rfl) ?_
  intro p e s m args below meth c D cA ad A C hlk hr
  replace C : Cx p s m args c prog_2_method_8_code 2 "PollBooks$Books" D cA ad 0 A := C
  show G p l e rm_Bo_totalCost s m args below meth c 0 0 (MQ below (fun _ => QC D cA ad 0 A (some .int) (some (0, r)) d') args s 0 0 A) 2 D cA ad 0 A 0 [(2, 37), (0, p1)] [] d
  refine g_sub (lo2 := [(2, 37), (0, p1)]) (lsb_v (lsb_v lsb_e)) ?_
  unfold L_Bo_totalCost at h
  refine g_aload_n C 0 rfl (by decide +kernel) ?_
  obtain ⟨r2_, d1_, hr3_, h⟩ := bd_some h
  refine g_callV C mw_Bo_settle [] 37 cl0 rfl (ok_Bo_settle  d  hr3_) cd_A37 (by decide) (nA (by decide)) (ix := 76) lk_1026 lk_1028 lkp_37 ⟨rfl, rfl, Nat.le_of_ble_eq_true rfl, Nat.le_of_ble_eq_true rfl⟩ rfl (rest := []) rfl (Nat.le_of_ble_eq_true rfl) ⟨Nat.zero_le _, Nat.zero_le _⟩ (by decide +kernel) (fun _ hc4_ => ?_)
  refine g_st (st2 := []) rfl ?_
  refine g_aload_n C 0 rfl (by decide +kernel) ?_
  refine g_getR C cl0 37 7 45 rfl cd_A37 ⟨by decide, rfl, by decide⟩ rfl rfl (nA (by decide)) (ix := 34) lk_283 (by decide +kernel) ?_
  refine g_iload_n C 1 rfl (by decide +kernel) ?_
  obtain ⟨hb5_, h⟩ := ck_some h
  refine g_iald C 45 hp1 rfl cd_A45 (nA (by decide)) hb5_ (by decide +kernel) (fun hc6_ => ?_)
  obtain ⟨rfl, rfl⟩ := ret_inj h
  exact g_iret C hc6_ hlk hr (by decide +kernel)
/-! PollBooks.join(I)I -/
def y_PB_join : MethodName := ⟨"PollBooks", "join", "(I)I"⟩
def rm_PB_join : Room := { frames := 4, cells := 0, slots := 0, locals := 92 }
theorem mw_PB_join : MW y_PB_join prog_1_method_28_code 2 (some .int) 1 := ⟨lk_1021, lk_1, by decide +kernel⟩
def L_PB_join_b18 (x1 s1 : Int) (d : Dt) : Option (Int × Dt) :=
  if s1 = 0 then bd (L_Bo_totalCost x1 (up2 d 0 0 s1)) (fun r4_ d3_ => some (r4_, d3_)) else some ((-1), (up2 d 0 0 s1))
def L_PB_join (p1 : Int) (d : Dt) : Option (Int × Dt) :=
  bd (L_PB_within p1 1 2 d) (fun r8_ d7_ => if r8_ = 0 then L_PB_join_b18 p1 1 d7_ else L_PB_join_b18 p1 0 d7_)
set_option maxHeartbeats 4000000 in
theorem ok_PB_join_b18 {p : Program} {l : Launch} {e : Env} {s : State} {m : MethodId} {args : Array Value} {below : List Frame} {meth : Method} {c : Code} {D : va_G} {cA : Nat → ClassId} {ad : Nat → Nat} {A : Nat → Prop} (C : Cx p s m args c prog_1_method_28_code 2 "PollBooks" D cA ad 0 A) (hlk : meth.locks = false) (hr : meth.sig.returnType = (some .int)) {r : Int} {d' : Dt} (x1 s1 : Int) (d : Dt) (hx1 : c32 x1) (hs1 : cb s1) (h : L_PB_join_b18 x1 s1 d = some (r, d')) : G p l e rm_PB_join s m args below meth c 0 0 (MQ below (fun _ => QC D cA ad 0 A (some .int) (some (0, r)) d') args s 0 0 A) 2 D cA ad 0 A 18 [(2, 0), (0, x1)] [(0, s1), (2, 0)] d := by
  unfold L_PB_join_b18 at h
  refine g_putI C cl11 0 0 (c32_cb hs1) rfl cd_A0 ⟨by decide, rfl, by decide⟩ rfl (nA (by decide)) (ix := 9) lk_467 rfl rfl (by decide +kernel) ?_
  refine g_aload_n C 0 rfl (by decide +kernel) ?_
  refine g_getI C cl11 0 0 rfl cd_A0 ⟨by decide, rfl, by decide⟩ rfl (nA (by decide)) (ix := 9) lk_467 (by decide +kernel) (fun hc1_ => ?_)
  refine g_val (y := s1) rfl ?_
  replace hc1_ : c32 s1 := hc1_
  refine g_if_ne C (off := 14) (tgt := 39) hc1_ (by decide +kernel) (by decide) (fun hc2_ => ?_) (fun hc2_ => ?_)
  · replace h := ite_t hc2_ h
    refine g_aload_n C 0 rfl (by decide +kernel) ?_
    refine g_getR C cl11 0 6 37 rfl cd_A0 ⟨by decide, rfl, by decide⟩ rfl rfl (nA (by decide)) (ix := 55) lk_473 (by decide +kernel) ?_
    refine g_iload_n C 1 rfl (by decide +kernel) ?_
    obtain ⟨r4_, d3_, hr5_, h⟩ := bd_some h
    refine g_callV C mw_Bo_totalCost [(0, x1)] 37 cl0 rfl (ok_Bo_totalCost x1 (up2 d 0 0 s1) hx1 hr5_) cd_A37 (by decide) (nA (by decide)) (ix := 297) lk_1022 lk_1023 lk_1024 ⟨rfl, rfl, Nat.le_of_ble_eq_true rfl, Nat.le_of_ble_eq_true rfl⟩ rfl (rest := []) rfl (Nat.le_of_ble_eq_true rfl) ⟨Nat.zero_le _, Nat.zero_le _⟩ (by decide +kernel) (fun _ hc6_ => ?_)
    replace hc6_ : c32 r4_ := hc6_
    refine g_st (st2 := [(0, r4_)]) rfl ?_
    refine g_goto C 40 (off := 4) (by decide +kernel) (by decide) ?_
    obtain ⟨rfl, rfl⟩ := ret_inj h
    exact g_iret C hc6_ hlk hr (by decide +kernel)
  · replace h := ite_f hc2_ h
    refine g_iconst C (-1) (cK rfl) (by decide +kernel) ?_
    obtain ⟨rfl, rfl⟩ := ret_inj h
    exact g_iret C (cK rfl) hlk hr (by decide +kernel)
set_option maxHeartbeats 4000000 in
theorem ok_PB_join {l : Launch} {r : Int} {d' : Dt} (p1 : Int) (d : Dt) (hp1 : c32 p1) (h : L_PB_join p1 d = some (r, d')) : MC l y_PB_join prog_1_method_28_code 2 (some .int) rm_PB_join 0 [(2, 0), (0, p1)] d (some (0, r)) d' := by
  refine MC.of (by decide) (Nat.le_of_ble_eq_true rfl) ?_
  intro p e s m args below meth c D cA ad A C hlk hr
  replace C : Cx p s m args c prog_1_method_28_code 2 "PollBooks" D cA ad 0 A := C
  show G p l e rm_PB_join s m args below meth c 0 0 (MQ below (fun _ => QC D cA ad 0 A (some .int) (some (0, r)) d') args s 0 0 A) 2 D cA ad 0 A 0 [(2, 0), (0, p1)] [] d
  refine g_sub (lo2 := [(2, 0), (0, p1)]) (lsb_v (lsb_v lsb_e)) ?_
  unfold L_PB_join at h
  refine g_aload_n C 0 rfl (by decide +kernel) ?_
  refine g_iload_n C 1 rfl (by decide +kernel) ?_
  refine g_i2l C hp1 (by decide +kernel) ?_
  refine g_lconst C 1 (v := 1) (by decide) (by decide +kernel) ?_
  refine g_ldc2 C (ix := 284) (v := 2) lk_985 (by decide +kernel) ?_
  obtain ⟨r8_, d7_, hr9_, h⟩ := bd_some h
  refine g_callS C mw_PB_within [(1, p1), (1, 1), (1, 2)] (ok_PB_within p1 1 2 d (c64_32 hp1) (cL rfl) (cL rfl) hr9_) (ix := 105) lk_520 lk_521 ⟨rfl, rfl, Nat.le_of_ble_eq_true rfl, Nat.le_of_ble_eq_true rfl⟩ rfl (rest := [(2, 0)]) rfl (Nat.le_of_ble_eq_true rfl) ⟨Nat.zero_le _, Nat.zero_le _⟩ (by decide +kernel) (fun _ hc10_ => ?_)
  replace hc10_ : cb r8_ := hc10_
  refine g_st (st2 := [(0, r8_), (2, 0)]) rfl ?_
  refine g_if_eq C (off := 7) (tgt := 17) (c32_cb hc10_) (by decide +kernel) (by decide) (fun hc11_ => ?_) (fun hc11_ => ?_)
  · replace h := ite_t hc11_ h
    refine g_iconst C 1 (cK rfl) (by decide +kernel) ?_
    refine g_sub (lo2 := [(2, 0), (0, p1)]) (lsb_v (lsb_v lsb_e)) ?_
    exact ok_PB_join_b18 C hlk hr p1 1 d7_ hp1 (Or.inr rfl) h
  · replace h := ite_f hc11_ h
    refine g_iconst C 0 (cK rfl) (by decide +kernel) ?_
    refine g_goto C 18 (off := 4) (by decide +kernel) (by decide) ?_
    refine g_sub (lo2 := [(2, 0), (0, p1)]) (lsb_v (lsb_v lsb_e)) ?_
    exact ok_PB_join_b18 C hlk hr p1 0 d7_ hp1 (Or.inl rfl) h
/-! PollBooks$Books.has(II)Z -/
def y_Bo_has : MethodName := ⟨"PollBooks$Books", "has", "(II)Z"⟩
def rm_Bo_has : Room := { frames := 0, cells := 0, slots := 0, locals := 0 }
theorem mw_Bo_has : MW y_Bo_has prog_2_method_3_code 3 (some .boolean) 2 := ⟨lk_1049, lk_9, by decide +kernel⟩
def L_Bo_has (p1 p2 : Int) (d : Dt) : Option (Int × Dt) :=
  if p2 < 0 then some (0, d) else ck ((0 : Int) ≤ p1 ∧ p1 < 3) (if p2 < (d 42 p1.toNat) then some (1, d) else some (0, d))
set_option maxHeartbeats 4000000 in
theorem ok_Bo_has {l : Launch} {r : Int} {d' : Dt} (p1 p2 : Int) (d : Dt) (hp1 : c32 p1) (hp2 : c32 p2) (h : L_Bo_has p1 p2 d = some (r, d')) : MC l y_Bo_has prog_2_method_3_code 3 (some .boolean) rm_Bo_has 0 [(2, 37), (0, p1), (0, p2)] d (some (0, r)) d' := by
  refine MC.of (by decide) (Nat.le_of_ble_eq_true rfl) ?_
  intro p e s m args below meth c D cA ad A C hlk hr
  replace C : Cx p s m args c prog_2_method_3_code 3 "PollBooks$Books" D cA ad 0 A := C
  show G p l e rm_Bo_has s m args below meth c 0 0 (MQ below (fun _ => QC D cA ad 0 A (some .boolean) (some (0, r)) d') args s 0 0 A) 3 D cA ad 0 A 0 [(2, 37), (0, p1), (0, p2)] [] d
  refine g_sub (lo2 := [(2, 37), (0, p1), (0, p2)]) (lsb_v (lsb_v (lsb_v lsb_e))) ?_
  unfold L_Bo_has at h
  refine g_iload_n C 2 rfl (by decide +kernel) ?_
  refine g_if_lt C (off := 17) (tgt := 18) hp2 (by decide +kernel) (by decide) (fun hc1_ => ?_) (fun hc1_ => ?_)
  · replace h := ite_t hc1_ h
    refine g_iconst C 0 (cK rfl) (by decide +kernel) ?_
    obtain ⟨rfl, rfl⟩ := ret_inj h
    exact g_zret C (Or.inl rfl) hlk hr (by decide +kernel)
  · replace h := ite_f hc1_ h
    refine g_iload_n C 2 rfl (by decide +kernel) ?_
    refine g_aload_n C 0 rfl (by decide +kernel) ?_
    refine g_getR C cl0 37 4 42 rfl cd_A37 ⟨by decide, rfl, by decide⟩ rfl rfl (nA (by decide)) (ix := 25) lk_279 (by decide +kernel) ?_
    refine g_iload_n C 1 rfl (by decide +kernel) ?_
    obtain ⟨hb2_, h⟩ := ck_some h
    refine g_iald C 42 hp1 rfl cd_A42 (nA (by decide)) hb2_ (by decide +kernel) (fun hc3_ => ?_)
    refine g_icmp_ge C (off := 7) (tgt := 18) hp2 hc3_ (by decide +kernel) (by decide) (fun hc4_ => ?_) (fun hc4_ => ?_)
    · replace h := ite_t hc4_ h
      refine g_iconst C 1 (cK rfl) (by decide +kernel) ?_
      refine g_goto C 19 (off := 4) (by decide +kernel) (by decide) ?_
      obtain ⟨rfl, rfl⟩ := ret_inj h
      exact g_zret C (Or.inr rfl) hlk hr (by decide +kernel)
    · replace h := ite_f hc4_ h
      refine g_iconst C 0 (cK rfl) (by decide +kernel) ?_
      obtain ⟨rfl, rfl⟩ := ret_inj h
      exact g_zret C (Or.inl rfl) hlk hr (by decide +kernel)
/-! PollBooks$Books.mateOf(II)I -/
def y_Bo_mateOf : MethodName := ⟨"PollBooks$Books", "mateOf", "(II)I"⟩
def rm_Bo_mateOf : Room := { frames := 3, cells := 0, slots := 0, locals := 71 }
theorem mw_Bo_mateOf : MW y_Bo_mateOf prog_2_method_9_code 3 (some .int) 2 := ⟨lk_1053, lk_9, by decide +kernel⟩
def L_Bo_mateOf (p1 p2 : Int) (d : Dt) : Option (Int × Dt) :=
  bd (L_Bo_settle d) (fun r2_ d1_ => ck ((0 : Int) ≤ (w32 ((w32 (p1 * 30)) + p2)) ∧ (w32 ((w32 (p1 * 30)) + p2)) < 90) (some ((d1_ 46 ((w32 ((w32 (p1 * 30)) + p2))).toNat), d1_)))
set_option maxHeartbeats 4000000 in
theorem ok_Bo_mateOf {l : Launch} {r : Int} {d' : Dt} (p1 p2 : Int) (d : Dt) (hp1 : c32 p1) (hp2 : c32 p2) (h : L_Bo_mateOf p1 p2 d = some (r, d')) : MC l y_Bo_mateOf prog_2_method_9_code 3 (some .int) rm_Bo_mateOf 0 [(2, 37), (0, p1), (0, p2)] d (some (0, r)) d' := by
  refine MC.of (by decide) (Nat.le_of_ble_eq_true rfl) ?_
  intro p e s m args below meth c D cA ad A C hlk hr
  replace C : Cx p s m args c prog_2_method_9_code 3 "PollBooks$Books" D cA ad 0 A := C
  show G p l e rm_Bo_mateOf s m args below meth c 0 0 (MQ below (fun _ => QC D cA ad 0 A (some .int) (some (0, r)) d') args s 0 0 A) 3 D cA ad 0 A 0 [(2, 37), (0, p1), (0, p2)] [] d
  refine g_sub (lo2 := [(2, 37), (0, p1), (0, p2)]) (lsb_v (lsb_v (lsb_v lsb_e))) ?_
  unfold L_Bo_mateOf at h
  refine g_aload_n C 0 rfl (by decide +kernel) ?_
  obtain ⟨r2_, d1_, hr3_, h⟩ := bd_some h
  refine g_callV C mw_Bo_settle [] 37 cl0 rfl (ok_Bo_settle  d  hr3_) cd_A37 (by decide) (nA (by decide)) (ix := 76) lk_1026 lk_1028 lkp_37 ⟨rfl, rfl, Nat.le_of_ble_eq_true rfl, Nat.le_of_ble_eq_true rfl⟩ rfl (rest := []) rfl (Nat.le_of_ble_eq_true rfl) ⟨Nat.zero_le _, Nat.zero_le _⟩ (by decide +kernel) (fun _ hc4_ => ?_)
  refine g_st (st2 := []) rfl ?_
  refine g_aload_n C 0 rfl (by decide +kernel) ?_
  refine g_getR C cl0 37 8 46 rfl cd_A37 ⟨by decide, rfl, by decide⟩ rfl rfl (nA (by decide)) (ix := 37) lk_284 (by decide +kernel) ?_
  refine g_iload_n C 1 rfl (by decide +kernel) ?_
  refine g_bipush C 30 (by decide) (by decide +kernel) ?_
  refine g_imul C (by decide +kernel) ?_
  refine g_iload_n C 2 rfl (by decide +kernel) ?_
  refine g_iadd C (by decide +kernel) ?_
  obtain ⟨hb5_, h⟩ := ck_some h
  refine g_iald C 46 (w32_c _) rfl cd_A46 (nA (by decide)) hb5_ (by decide +kernel) (fun hc6_ => ?_)
  obtain ⟨rfl, rfl⟩ := ret_inj h
  exact g_iret C hc6_ hlk hr (by decide +kernel)
/-! PollBooks.mate(II)I -/
def y_PB_mate : MethodName := ⟨"PollBooks", "mate", "(II)I"⟩
def rm_PB_mate : Room := { frames := 4, cells := 0, slots := 0, locals := 93 }
theorem mw_PB_mate : MW y_PB_mate prog_1_method_29_code 5 (some .int) 2 := ⟨lk_1045, lk_1, by decide +kernel⟩
def L_PB_mate_b70 (x4 s1 : Int) (d : Dt) : Option (Int × Dt) :=
  some (x4, (up2 d 0 0 s1))
def L_PB_mate_b47 (x3 s0 : Int) (d : Dt) : Option (Int × Dt) :=
  if x3 = 0 then L_PB_mate_b70 s0 1 d else if s0 = (-1) then L_PB_mate_b70 s0 6 d else L_PB_mate_b70 s0 0 d
def L_PB_mate_b29 (x1 x2 s0 : Int) (d : Dt) : Option (Int × Dt) :=
  if s0 = 0 then L_PB_mate_b47 s0 (-1) d else bd (L_Bo_mateOf x1 x2 d) (fun r5_ d4_ => L_PB_mate_b47 s0 r5_ d4_)
def L_PB_mate (p1 p2 : Int) (d : Dt) : Option (Int × Dt) :=
  bd (L_PB_within p1 1 2 d) (fun r9_ d8_ => if r9_ = 0 then L_PB_mate_b29 p1 p2 0 d8_ else bd (L_Bo_has 0 p2 d8_) (fun r14_ d13_ => if r14_ = 0 then L_PB_mate_b29 p1 p2 0 d13_ else L_PB_mate_b29 p1 p2 1 d13_))
set_option maxHeartbeats 4000000 in
theorem ok_PB_mate_b70 {p : Program} {l : Launch} {e : Env} {s : State} {m : MethodId} {args : Array Value} {below : List Frame} {meth : Method} {c : Code} {D : va_G} {cA : Nat → ClassId} {ad : Nat → Nat} {A : Nat → Prop} (C : Cx p s m args c prog_1_method_29_code 5 "PollBooks" D cA ad 0 A) (hlk : meth.locks = false) (hr : meth.sig.returnType = (some .int)) {r : Int} {d' : Dt} (x4 s1 : Int) (d : Dt) (hx4 : c32 x4) (hs1 : c32 s1) (h : L_PB_mate_b70 x4 s1 d = some (r, d')) : G p l e rm_PB_mate s m args below meth c 0 0 (MQ below (fun _ => QC D cA ad 0 A (some .int) (some (0, r)) d') args s 0 0 A) 5 D cA ad 0 A 70 [(9, 0), (9, 0), (9, 0), (9, 0), (0, x4)] [(0, s1), (2, 0)] d := by
  unfold L_PB_mate_b70 at h
  refine g_putI C cl11 0 0 hs1 rfl cd_A0 ⟨by decide, rfl, by decide⟩ rfl (nA (by decide)) (ix := 9) lk_467 rfl rfl (by decide +kernel) ?_
  refine g_iload C 4 rfl (by decide +kernel) ?_
  obtain ⟨rfl, rfl⟩ := ret_inj h
  exact g_iret C hx4 hlk hr (by decide +kernel)
set_option maxHeartbeats 4000000 in
theorem ok_PB_mate_b47 {p : Program} {l : Launch} {e : Env} {s : State} {m : MethodId} {args : Array Value} {below : List Frame} {meth : Method} {c : Code} {D : va_G} {cA : Nat → ClassId} {ad : Nat → Nat} {A : Nat → Prop} (C : Cx p s m args c prog_1_method_29_code 5 "PollBooks" D cA ad 0 A) (hlk : meth.locks = false) (hr : meth.sig.returnType = (some .int)) {r : Int} {d' : Dt} (x3 s0 : Int) (d : Dt) (hx3 : cb x3) (hs0 : c32 s0) (h : L_PB_mate_b47 x3 s0 d = some (r, d')) : G p l e rm_PB_mate s m args below meth c 0 0 (MQ below (fun _ => QC D cA ad 0 A (some .int) (some (0, r)) d') args s 0 0 A) 5 D cA ad 0 A 47 [(2, 0), (9, 0), (9, 0), (0, x3), (9, 0)] [(0, s0)] d := by
  unfold L_PB_mate_b47 at h
  refine s_istore C 4 (lo' := [(2, 0), (9, 0), (9, 0), (0, x3), (0, s0)]) (by decide) (s1k (s1k (s1k (s1n (by decide) s1z)))) (by decide +kernel) ?_
  refine g_aload_n C 0 rfl (by decide +kernel) ?_
  refine g_iload_n C 3 rfl (by decide +kernel) ?_
  refine g_if_ne C (off := 7) (tgt := 58) (c32_cb hx3) (by decide +kernel) (by decide) (fun hc1_ => ?_) (fun hc1_ => ?_)
  · replace h := ite_t hc1_ h
    refine g_iconst C 1 (cK rfl) (by decide +kernel) ?_
    refine g_goto C 70 (off := 15) (by decide +kernel) (by decide) ?_
    refine g_sub (lo2 := [(9, 0), (9, 0), (9, 0), (9, 0), (0, s0)]) (lsb_c (lsb_c (lsb_c (lsb_c (lsb_v lsb_e))))) ?_
    exact ok_PB_mate_b70 C hlk hr s0 1 d hs0 (c32_cb (Or.inr rfl)) h
  · replace h := ite_f hc1_ h
    refine g_iload C 4 rfl (by decide +kernel) ?_
    refine g_iconst C (-1) (cK rfl) (by decide +kernel) ?_
    refine g_icmp_ne C (off := 8) (tgt := 69) hs0 (cK rfl) (by decide +kernel) (by decide) (fun hc2_ => ?_) (fun hc2_ => ?_)
    · replace h := ite_t hc2_ h
      refine g_bipush C 6 (by decide) (by decide +kernel) ?_
      refine g_goto C 70 (off := 4) (by decide +kernel) (by decide) ?_
      refine g_sub (lo2 := [(9, 0), (9, 0), (9, 0), (9, 0), (0, s0)]) (lsb_c (lsb_c (lsb_c (lsb_c (lsb_v lsb_e))))) ?_
      exact ok_PB_mate_b70 C hlk hr s0 6 d hs0 (cK rfl) h
    · replace h := ite_f hc2_ h
      refine g_iconst C 0 (cK rfl) (by decide +kernel) ?_
      refine g_sub (lo2 := [(9, 0), (9, 0), (9, 0), (9, 0), (0, s0)]) (lsb_c (lsb_c (lsb_c (lsb_c (lsb_v lsb_e))))) ?_
      exact ok_PB_mate_b70 C hlk hr s0 0 d hs0 (c32_cb (Or.inl rfl)) h
set_option maxHeartbeats 4000000 in
theorem ok_PB_mate_b29 {p : Program} {l : Launch} {e : Env} {s : State} {m : MethodId} {args : Array Value} {below : List Frame} {meth : Method} {c : Code} {D : va_G} {cA : Nat → ClassId} {ad : Nat → Nat} {A : Nat → Prop} (C : Cx p s m args c prog_1_method_29_code 5 "PollBooks" D cA ad 0 A) (hlk : meth.locks = false) (hr : meth.sig.returnType = (some .int)) {r : Int} {d' : Dt} (x1 x2 s0 : Int) (d : Dt) (hx1 : c32 x1) (hx2 : c32 x2) (hs0 : cb s0) (h : L_PB_mate_b29 x1 x2 s0 d = some (r, d')) : G p l e rm_PB_mate s m args below meth c 0 0 (MQ below (fun _ => QC D cA ad 0 A (some .int) (some (0, r)) d') args s 0 0 A) 5 D cA ad 0 A 29 [(2, 0), (0, x1), (0, x2), (9, 0), (9, 0)] [(0, s0)] d := by
  unfold L_PB_mate_b29 at h
  refine s_istore_n C 3 (lo' := [(2, 0), (0, x1), (0, x2), (0, s0), (9, 0)]) (by decide) (s1k (s1k (s1n (by decide) s1z))) (by decide +kernel) ?_
  refine g_iload_n C 3 rfl (by decide +kernel) ?_
  refine g_if_eq C (off := 15) (tgt := 46) (c32_cb hs0) (by decide +kernel) (by decide) (fun hc3_ => ?_) (fun hc3_ => ?_)
  · replace h := ite_t hc3_ h
    refine g_iconst C (-1) (cK rfl) (by decide +kernel) ?_
    refine g_sub (lo2 := [(2, 0), (9, 0), (9, 0), (0, s0), (9, 0)]) (lsb_v (lsb_c (lsb_c (lsb_v (lsb_c lsb_e))))) ?_
    exact ok_PB_mate_b47 C hlk hr s0 (-1) d hs0 (cK rfl) h
  · replace h := ite_f hc3_ h
    refine g_aload_n C 0 rfl (by decide +kernel) ?_
    refine g_getR C cl11 0 6 37 rfl cd_A0 ⟨by decide, rfl, by decide⟩ rfl rfl (nA (by decide)) (ix := 55) lk_473 (by decide +kernel) ?_
    refine g_iload_n C 1 rfl (by decide +kernel) ?_
    refine g_iload_n C 2 rfl (by decide +kernel) ?_
    obtain ⟨r5_, d4_, hr6_, h⟩ := bd_some h
    refine g_callV C mw_Bo_mateOf [(0, x1), (0, x2)] 37 cl0 rfl (ok_Bo_mateOf x1 x2 d hx1 hx2 hr6_) cd_A37 (by decide) (nA (by decide)) (ix := 303) lk_1050 lk_1051 lk_1052 ⟨rfl, rfl, Nat.le_of_ble_eq_true rfl, Nat.le_of_ble_eq_true rfl⟩ rfl (rest := []) rfl (Nat.le_of_ble_eq_true rfl) ⟨Nat.zero_le _, Nat.zero_le _⟩ (by decide +kernel) (fun _ hc7_ => ?_)
    replace hc7_ : c32 r5_ := hc7_
    refine g_st (st2 := [(0, r5_)]) rfl ?_
    refine g_goto C 47 (off := 4) (by decide +kernel) (by decide) ?_
    refine g_sub (lo2 := [(2, 0), (9, 0), (9, 0), (0, s0), (9, 0)]) (lsb_v (lsb_c (lsb_c (lsb_v (lsb_c lsb_e))))) ?_
    exact ok_PB_mate_b47 C hlk hr s0 r5_ d4_ hs0 hc7_ h
set_option maxHeartbeats 4000000 in
theorem ok_PB_mate {l : Launch} {r : Int} {d' : Dt} (p1 p2 : Int) (d : Dt) (hp1 : c32 p1) (hp2 : c32 p2) (h : L_PB_mate p1 p2 d = some (r, d')) : MC l y_PB_mate prog_1_method_29_code 5 (some .int) rm_PB_mate 0 [(2, 0), (0, p1), (0, p2)] d (some (0, r)) d' := by
  refine MC.of (by decide) (Nat.le_of_ble_eq_true rfl) ?_
  intro p e s m args below meth c D cA ad A C hlk hr
  replace C : Cx p s m args c prog_1_method_29_code 5 "PollBooks" D cA ad 0 A := C
  show G p l e rm_PB_mate s m args below meth c 0 0 (MQ below (fun _ => QC D cA ad 0 A (some .int) (some (0, r)) d') args s 0 0 A) 5 D cA ad 0 A 0 [(2, 0), (0, p1), (0, p2)] [] d
  refine g_sub (lo2 := [(2, 0), (0, p1), (0, p2), (9, 0), (9, 0)]) (lsb_v (lsb_v (lsb_v (lsb_n (lsb_n lsb_e))))) ?_
  unfold L_PB_mate at h
  refine g_iload_n C 1 rfl (by decide +kernel) ?_
  refine g_i2l C hp1 (by decide +kernel) ?_
  refine g_lconst C 1 (v := 1) (by decide) (by decide +kernel) ?_
  refine g_ldc2 C (ix := 284) (v := 2) lk_985 (by decide +kernel) ?_
  obtain ⟨r9_, d8_, hr10_, h⟩ := bd_some h
  refine g_callS C mw_PB_within [(1, p1), (1, 1), (1, 2)] (ok_PB_within p1 1 2 d (c64_32 hp1) (cL rfl) (cL rfl) hr10_) (ix := 105) lk_520 lk_521 ⟨rfl, rfl, Nat.le_of_ble_eq_true rfl, Nat.le_of_ble_eq_true rfl⟩ rfl (rest := []) rfl (Nat.le_of_ble_eq_true rfl) ⟨Nat.zero_le _, Nat.zero_le _⟩ (by decide +kernel) (fun _ hc11_ => ?_)
  replace hc11_ : cb r9_ := hc11_
  refine g_st (st2 := [(0, r9_)]) rfl ?_
  refine g_if_eq C (off := 19) (tgt := 28) (c32_cb hc11_) (by decide +kernel) (by decide) (fun hc12_ => ?_) (fun hc12_ => ?_)
  · replace h := ite_t hc12_ h
    refine g_iconst C 0 (cK rfl) (by decide +kernel) ?_
    refine g_sub (lo2 := [(2, 0), (0, p1), (0, p2), (9, 0), (9, 0)]) (lsb_v (lsb_v (lsb_v (lsb_c (lsb_c lsb_e))))) ?_
    exact ok_PB_mate_b29 C hlk hr p1 p2 0 d8_ hp1 hp2 (Or.inl rfl) h
  · replace h := ite_f hc12_ h
    refine g_aload_n C 0 rfl (by decide +kernel) ?_
    refine g_getR C cl11 0 6 37 rfl cd_A0 ⟨by decide, rfl, by decide⟩ rfl rfl (nA (by decide)) (ix := 55) lk_473 (by decide +kernel) ?_
    refine g_iconst C 0 (cK rfl) (by decide +kernel) ?_
    refine g_iload_n C 2 rfl (by decide +kernel) ?_
    obtain ⟨r14_, d13_, hr15_, h⟩ := bd_some h
    refine g_callV C mw_Bo_has [(0, 0), (0, p2)] 37 cl0 rfl (ok_Bo_has 0 p2 d8_ (c32_cb (Or.inl rfl)) hp2 hr15_) cd_A37 (by decide) (nA (by decide)) (ix := 301) lk_1046 lk_1047 lk_1048 ⟨rfl, rfl, Nat.le_of_ble_eq_true rfl, Nat.le_of_ble_eq_true rfl⟩ rfl (rest := []) rfl (Nat.le_of_ble_eq_true rfl) ⟨Nat.zero_le _, Nat.zero_le _⟩ (by decide +kernel) (fun _ hc16_ => ?_)
    replace hc16_ : cb r14_ := hc16_
    refine g_st (st2 := [(0, r14_)]) rfl ?_
    refine g_if_eq C (off := 7) (tgt := 28) (c32_cb hc16_) (by decide +kernel) (by decide) (fun hc17_ => ?_) (fun hc17_ => ?_)
    · replace h := ite_t hc17_ h
      refine g_iconst C 0 (cK rfl) (by decide +kernel) ?_
      refine g_sub (lo2 := [(2, 0), (0, p1), (0, p2), (9, 0), (9, 0)]) (lsb_v (lsb_v (lsb_v (lsb_c (lsb_c lsb_e))))) ?_
      exact ok_PB_mate_b29 C hlk hr p1 p2 0 d13_ hp1 hp2 (Or.inl rfl) h
    · replace h := ite_f hc17_ h
      refine g_iconst C 1 (cK rfl) (by decide +kernel) ?_
      refine g_goto C 29 (off := 4) (by decide +kernel) (by decide) ?_
      refine g_sub (lo2 := [(2, 0), (0, p1), (0, p2), (9, 0), (9, 0)]) (lsb_v (lsb_v (lsb_v (lsb_c (lsb_c lsb_e))))) ?_
      exact ok_PB_mate_b29 C hlk hr p1 p2 1 d13_ hp1 hp2 (Or.inr rfl) h
/-! PollBooks$Books.joinedSet(I)I -/
def y_Bo_joinedSet : MethodName := ⟨"PollBooks$Books", "joinedSet", "(I)I"⟩
def rm_Bo_joinedSet : Room := { frames := 3, cells := 0, slots := 0, locals := 71 }
theorem mw_Bo_joinedSet : MW y_Bo_joinedSet prog_2_method_10_code 2 (some .int) 1 := ⟨lk_1061, lk_9, by decide +kernel⟩
def L_Bo_joinedSet (p1 : Int) (d : Dt) : Option (Int × Dt) :=
  bd (L_Bo_settle d) (fun r2_ d1_ => ck ((0 : Int) ≤ p1 ∧ p1 < 30) (some ((d1_ 47 p1.toNat), d1_)))
set_option maxHeartbeats 4000000 in
theorem ok_Bo_joinedSet {l : Launch} {r : Int} {d' : Dt} (p1 : Int) (d : Dt) (hp1 : c32 p1) (h : L_Bo_joinedSet p1 d = some (r, d')) : MC l y_Bo_joinedSet prog_2_method_10_code 2 (some .int) rm_Bo_joinedSet 0 [(2, 37), (0, p1)] d (some (0, r)) d' := by
  refine MC.of (by decide) (Nat.le_of_ble_eq_true rfl) ?_
  intro p e s m args below meth c D cA ad A C hlk hr
  replace C : Cx p s m args c prog_2_method_10_code 2 "PollBooks$Books" D cA ad 0 A := C
  show G p l e rm_Bo_joinedSet s m args below meth c 0 0 (MQ below (fun _ => QC D cA ad 0 A (some .int) (some (0, r)) d') args s 0 0 A) 2 D cA ad 0 A 0 [(2, 37), (0, p1)] [] d
  refine g_sub (lo2 := [(2, 37), (0, p1)]) (lsb_v (lsb_v lsb_e)) ?_
  unfold L_Bo_joinedSet at h
  refine g_aload_n C 0 rfl (by decide +kernel) ?_
  obtain ⟨r2_, d1_, hr3_, h⟩ := bd_some h
  refine g_callV C mw_Bo_settle [] 37 cl0 rfl (ok_Bo_settle  d  hr3_) cd_A37 (by decide) (nA (by decide)) (ix := 76) lk_1026 lk_1028 lkp_37 ⟨rfl, rfl, Nat.le_of_ble_eq_true rfl, Nat.le_of_ble_eq_true rfl⟩ rfl (rest := []) rfl (Nat.le_of_ble_eq_true rfl) ⟨Nat.zero_le _, Nat.zero_le _⟩ (by decide +kernel) (fun _ hc4_ => ?_)
  refine g_st (st2 := []) rfl ?_
  refine g_aload_n C 0 rfl (by decide +kernel) ?_
  refine g_getR C cl0 37 9 47 rfl cd_A37 ⟨by decide, rfl, by decide⟩ rfl rfl (nA (by decide)) (ix := 40) lk_285 (by decide +kernel) ?_
  refine g_iload_n C 1 rfl (by decide +kernel) ?_
  obtain ⟨hb5_, h⟩ := ck_some h
  refine g_iald C 47 hp1 rfl cd_A47 (nA (by decide)) hb5_ (by decide +kernel) (fun hc6_ => ?_)
  obtain ⟨rfl, rfl⟩ := ret_inj h
  exact g_iret C hc6_ hlk hr (by decide +kernel)
/-! PollBooks.joined(I)I -/
def y_PB_joined : MethodName := ⟨"PollBooks", "joined", "(I)I"⟩
def rm_PB_joined : Room := { frames := 4, cells := 0, slots := 0, locals := 92 }
theorem mw_PB_joined : MW y_PB_joined prog_1_method_30_code 2 (some .int) 1 := ⟨lk_1057, lk_1, by decide +kernel⟩
def L_PB_joined_b18 (x1 s1 : Int) (d : Dt) : Option (Int × Dt) :=
  if s1 = 0 then bd (L_Bo_joinedSet x1 (up2 d 0 0 s1)) (fun r4_ d3_ => some (r4_, d3_)) else some ((-1), (up2 d 0 0 s1))
def L_PB_joined (p1 : Int) (d : Dt) : Option (Int × Dt) :=
  bd (L_Bo_has 0 p1 d) (fun r8_ d7_ => if r8_ = 0 then L_PB_joined_b18 p1 1 d7_ else L_PB_joined_b18 p1 0 d7_)
set_option maxHeartbeats 4000000 in
theorem ok_PB_joined_b18 {p : Program} {l : Launch} {e : Env} {s : State} {m : MethodId} {args : Array Value} {below : List Frame} {meth : Method} {c : Code} {D : va_G} {cA : Nat → ClassId} {ad : Nat → Nat} {A : Nat → Prop} (C : Cx p s m args c prog_1_method_30_code 2 "PollBooks" D cA ad 0 A) (hlk : meth.locks = false) (hr : meth.sig.returnType = (some .int)) {r : Int} {d' : Dt} (x1 s1 : Int) (d : Dt) (hx1 : c32 x1) (hs1 : cb s1) (h : L_PB_joined_b18 x1 s1 d = some (r, d')) : G p l e rm_PB_joined s m args below meth c 0 0 (MQ below (fun _ => QC D cA ad 0 A (some .int) (some (0, r)) d') args s 0 0 A) 2 D cA ad 0 A 18 [(2, 0), (0, x1)] [(0, s1), (2, 0)] d := by
  unfold L_PB_joined_b18 at h
  refine g_putI C cl11 0 0 (c32_cb hs1) rfl cd_A0 ⟨by decide, rfl, by decide⟩ rfl (nA (by decide)) (ix := 9) lk_467 rfl rfl (by decide +kernel) ?_
  refine g_aload_n C 0 rfl (by decide +kernel) ?_
  refine g_getI C cl11 0 0 rfl cd_A0 ⟨by decide, rfl, by decide⟩ rfl (nA (by decide)) (ix := 9) lk_467 (by decide +kernel) (fun hc1_ => ?_)
  refine g_val (y := s1) rfl ?_
  replace hc1_ : c32 s1 := hc1_
  refine g_if_ne C (off := 14) (tgt := 39) hc1_ (by decide +kernel) (by decide) (fun hc2_ => ?_) (fun hc2_ => ?_)
  · replace h := ite_t hc2_ h
    refine g_aload_n C 0 rfl (by decide +kernel) ?_
    refine g_getR C cl11 0 6 37 rfl cd_A0 ⟨by decide, rfl, by decide⟩ rfl rfl (nA (by decide)) (ix := 55) lk_473 (by decide +kernel) ?_
    refine g_iload_n C 1 rfl (by decide +kernel) ?_
    obtain ⟨r4_, d3_, hr5_, h⟩ := bd_some h
    refine g_callV C mw_Bo_joinedSet [(0, x1)] 37 cl0 rfl (ok_Bo_joinedSet x1 (up2 d 0 0 s1) hx1 hr5_) cd_A37 (by decide) (nA (by decide)) (ix := 306) lk_1058 lk_1059 lk_1060 ⟨rfl, rfl, Nat.le_of_ble_eq_true rfl, Nat.le_of_ble_eq_true rfl⟩ rfl (rest := []) rfl (Nat.le_of_ble_eq_true rfl) ⟨Nat.zero_le _, Nat.zero_le _⟩ (by decide +kernel) (fun _ hc6_ => ?_)
    replace hc6_ : c32 r4_ := hc6_
    refine g_st (st2 := [(0, r4_)]) rfl ?_
    refine g_goto C 40 (off := 4) (by decide +kernel) (by decide) ?_
    obtain ⟨rfl, rfl⟩ := ret_inj h
    exact g_iret C hc6_ hlk hr (by decide +kernel)
  · replace h := ite_f hc2_ h
    refine g_iconst C (-1) (cK rfl) (by decide +kernel) ?_
    obtain ⟨rfl, rfl⟩ := ret_inj h
    exact g_iret C (cK rfl) hlk hr (by decide +kernel)
set_option maxHeartbeats 4000000 in
theorem ok_PB_joined {l : Launch} {r : Int} {d' : Dt} (p1 : Int) (d : Dt) (hp1 : c32 p1) (h : L_PB_joined p1 d = some (r, d')) : MC l y_PB_joined prog_1_method_30_code 2 (some .int) rm_PB_joined 0 [(2, 0), (0, p1)] d (some (0, r)) d' := by
  refine MC.of (by decide) (Nat.le_of_ble_eq_true rfl) ?_
  intro p e s m args below meth c D cA ad A C hlk hr
  replace C : Cx p s m args c prog_1_method_30_code 2 "PollBooks" D cA ad 0 A := C
  show G p l e rm_PB_joined s m args below meth c 0 0 (MQ below (fun _ => QC D cA ad 0 A (some .int) (some (0, r)) d') args s 0 0 A) 2 D cA ad 0 A 0 [(2, 0), (0, p1)] [] d
  refine g_sub (lo2 := [(2, 0), (0, p1)]) (lsb_v (lsb_v lsb_e)) ?_
  unfold L_PB_joined at h
  refine g_aload_n C 0 rfl (by decide +kernel) ?_
  refine g_aload_n C 0 rfl (by decide +kernel) ?_
  refine g_getR C cl11 0 6 37 rfl cd_A0 ⟨by decide, rfl, by decide⟩ rfl rfl (nA (by decide)) (ix := 55) lk_473 (by decide +kernel) ?_
  refine g_iconst C 0 (cK rfl) (by decide +kernel) ?_
  refine g_iload_n C 1 rfl (by decide +kernel) ?_
  obtain ⟨r8_, d7_, hr9_, h⟩ := bd_some h
  refine g_callV C mw_Bo_has [(0, 0), (0, p1)] 37 cl0 rfl (ok_Bo_has 0 p1 d (c32_cb (Or.inl rfl)) hp1 hr9_) cd_A37 (by decide) (nA (by decide)) (ix := 301) lk_1046 lk_1047 lk_1048 ⟨rfl, rfl, Nat.le_of_ble_eq_true rfl, Nat.le_of_ble_eq_true rfl⟩ rfl (rest := [(2, 0)]) rfl (Nat.le_of_ble_eq_true rfl) ⟨Nat.zero_le _, Nat.zero_le _⟩ (by decide +kernel) (fun _ hc10_ => ?_)
  replace hc10_ : cb r8_ := hc10_
  refine g_st (st2 := [(0, r8_), (2, 0)]) rfl ?_
  refine g_if_eq C (off := 7) (tgt := 17) (c32_cb hc10_) (by decide +kernel) (by decide) (fun hc11_ => ?_) (fun hc11_ => ?_)
  · replace h := ite_t hc11_ h
    refine g_iconst C 1 (cK rfl) (by decide +kernel) ?_
    refine g_sub (lo2 := [(2, 0), (0, p1)]) (lsb_v (lsb_v lsb_e)) ?_
    exact ok_PB_joined_b18 C hlk hr p1 1 d7_ hp1 (Or.inr rfl) h
  · replace h := ite_f hc11_ h
    refine g_iconst C 0 (cK rfl) (by decide +kernel) ?_
    refine g_goto C 18 (off := 4) (by decide +kernel) (by decide) ?_
    refine g_sub (lo2 := [(2, 0), (0, p1)]) (lsb_v (lsb_v lsb_e)) ?_
    exact ok_PB_joined_b18 C hlk hr p1 0 d7_ hp1 (Or.inl rfl) h
/-! PollBooks.isCandidate(I)Z -/
def y_PB_isCandidate : MethodName := ⟨"PollBooks", "isCandidate", "(I)Z"⟩
def rm_PB_isCandidate : Room := { frames := 1, cells := 0, slots := 0, locals := 25 }
theorem mw_PB_isCandidate : MW y_PB_isCandidate prog_1_method_56_code 1 (some .boolean) 1 := ⟨lk_1068, lk_1, by decide +kernel⟩
def L_PB_isCandidate (p1 : Int) (d : Dt) : Option (Int × Dt) :=
  bd (L_PB_within p1 0 3 d) (fun r2_ d1_ => some (r2_, d1_))
set_option maxHeartbeats 4000000 in
theorem ok_PB_isCandidate {l : Launch} {r : Int} {d' : Dt} (p1 : Int) (d : Dt) (hp1 : c32 p1) (h : L_PB_isCandidate p1 d = some (r, d')) : MC l y_PB_isCandidate prog_1_method_56_code 1 (some .boolean) rm_PB_isCandidate 0 [(0, p1)] d (some (0, r)) d' := by
  refine MC.of (by decide) (Nat.le_of_ble_eq_true rfl) ?_
  intro p e s m args below meth c D cA ad A C hlk hr
  replace C : Cx p s m args c prog_1_method_56_code 1 "PollBooks" D cA ad 0 A := C
  show G p l e rm_PB_isCandidate s m args below meth c 0 0 (MQ below (fun _ => QC D cA ad 0 A (some .boolean) (some (0, r)) d') args s 0 0 A) 1 D cA ad 0 A 0 [(0, p1)] [] d
  refine g_sub (lo2 := [(0, p1)]) (lsb_v lsb_e) ?_
  unfold L_PB_isCandidate at h
  refine g_iload_n C 0 rfl (by decide +kernel) ?_
  refine g_i2l C hp1 (by decide +kernel) ?_
  refine g_lconst C 0 (v := 0) (by decide) (by decide +kernel) ?_
  refine g_ldc2 C (ix := 103) (v := 3) lk_519 (by decide +kernel) ?_
  obtain ⟨r2_, d1_, hr3_, h⟩ := bd_some h
  refine g_callS C mw_PB_within [(1, p1), (1, 0), (1, 3)] (ok_PB_within p1 0 3 d (c64_32 hp1) (cL rfl) (cL rfl) hr3_) (ix := 105) lk_520 lk_521 ⟨rfl, rfl, Nat.le_of_ble_eq_true rfl, Nat.le_of_ble_eq_true rfl⟩ rfl (rest := []) rfl (Nat.le_of_ble_eq_true rfl) ⟨Nat.zero_le _, Nat.zero_le _⟩ (by decide +kernel) (fun _ hc4_ => ?_)
  replace hc4_ : cb r2_ := hc4_
  refine g_st (st2 := [(0, r2_)]) rfl ?_
  obtain ⟨rfl, rfl⟩ := ret_inj h
  exact g_zret C hc4_ hlk hr (by decide +kernel)
/-! PollBooks$Books.countJoined(I)I -/
def y_Bo_countJoined : MethodName := ⟨"PollBooks$Books", "countJoined", "(I)I"⟩
def rm_Bo_countJoined : Room := { frames := 3, cells := 0, slots := 0, locals := 71 }
theorem mw_Bo_countJoined : MW y_Bo_countJoined prog_2_method_12_code 4 (some .int) 1 := ⟨lk_1072, lk_9, by decide +kernel⟩
def L_Bo_countJoined_y8 (x1 x2 x3 : Int) (d : Dt) : Option ((Int × Int × Int × Dt) ⊕ ((Int × Dt))) :=
  if x3 < (d 42 0) then ck ((0 : Int) ≤ x3 ∧ x3 < 30) (lt_ (w32 (x2 + (iand (ishr (d 47 x3.toNat) x1) 1))) (fun v5_ => some (Sum.inl (x1, v5_, (w32 (x3 + 1)), d)))) else some (Sum.inr (x2, d))
def L_Bo_countJoined_l8 (x1 x2 x3 : Int) (d : Dt) : Option ((Int × Dt)) := lpF (fun q : Int × Int × Int × Dt => L_Bo_countJoined_y8 q.1 q.2.1 q.2.2.1 q.2.2.2) FU (x1, x2, x3, d)
def L_Bo_countJoined (p1 : Int) (d : Dt) : Option (Int × Dt) :=
  bd (L_Bo_settle d) (fun r9_ d8_ => lb (L_Bo_countJoined_l8 p1 0 0 d8_) (fun q17_ => u1 q17_ (fun v14_ d15_ => some (v14_, d15_))))
set_option maxHeartbeats 4000000 in
theorem ok_Bo_countJoined_y8 {p : Program} {l : Launch} {e : Env} {s : State} {m : MethodId} {args : Array Value} {below : List Frame} {meth : Method} {c : Code} {D : va_G} {cA : Nat → ClassId} {ad : Nat → Nat} {A : Nat → Prop} (C : Cx p s m args c prog_2_method_12_code 4 "PollBooks$Books" D cA ad 0 A) {Q : State → Prop} {o : (Int × Int × Int × Dt) ⊕ ((Int × Dt))} (x1 x2 x3 : Int) (d : Dt) (hx1 : c32 x1) (hx2 : c32 x2) (hx3 : c32 x3) (h : L_Bo_countJoined_y8 x1 x2 x3 d = some o) (kb : ∀ (y0 y1 y2 : Int) (e' : Dt), o = .inl (y0, y1, y2, e') → c32 y0 → c32 y1 → c32 y2 → G p l e rm_Bo_countJoined s m args below meth c 0 0 Q 4 D cA ad 0 A 8 [(2, 37), (0, y0), (0, y1), (0, y2)] [] e') (k0 : ∀ (y0 : Int) (e' : Dt), o = .inr (y0, e') → c32 y0 → G p l e rm_Bo_countJoined s m args below meth c 0 0 Q 4 D cA ad 0 A 37 [(9, 0), (9, 0), (0, y0), (9, 0)] [] e') : G p l e rm_Bo_countJoined s m args below meth c 0 0 Q 4 D cA ad 0 A 8 [(2, 37), (0, x1), (0, x2), (0, x3)] [] d := by
  unfold L_Bo_countJoined_y8 at h
  refine g_iload_n C 3 rfl (by decide +kernel) ?_
  refine g_aload_n C 0 rfl (by decide +kernel) ?_
  refine g_getR C cl0 37 4 42 rfl cd_A37 ⟨by decide, rfl, by decide⟩ rfl rfl (nA (by decide)) (ix := 25) lk_279 (by decide +kernel) ?_
  refine g_iconst C 0 (cK rfl) (by decide +kernel) ?_
  refine g_iald C 42 (c32_cb (Or.inl rfl)) rfl cd_A42 (nA (by decide)) (by decide) (by decide +kernel) (fun hc1_ => ?_)
  refine g_val (y := (d 42 0)) rfl ?_
  replace hc1_ : c32 (d 42 0) := hc1_
  refine g_icmp_ge C (off := 22) (tgt := 37) hx3 hc1_ (by decide +kernel) (by decide) (fun hc2_ => ?_) (fun hc2_ => ?_)
  · replace h := ite_t hc2_ h
    refine g_iload_n C 2 rfl (by decide +kernel) ?_
    refine g_aload_n C 0 rfl (by decide +kernel) ?_
    refine g_getR C cl0 37 9 47 rfl cd_A37 ⟨by decide, rfl, by decide⟩ rfl rfl (nA (by decide)) (ix := 40) lk_285 (by decide +kernel) ?_
    refine g_iload_n C 3 rfl (by decide +kernel) ?_
    obtain ⟨hb3_, h⟩ := ck_some h
    refine g_iald C 47 hx3 rfl cd_A47 (nA (by decide)) hb3_ (by decide +kernel) (fun hc4_ => ?_)
    refine g_iload_n C 1 rfl (by decide +kernel) ?_
    refine g_ishr C (by decide +kernel) ?_
    refine g_iconst C 1 (cK rfl) (by decide +kernel) ?_
    refine g_iand C (by decide +kernel) ?_
    refine g_iadd C (by decide +kernel) ?_
    obtain ⟨v5_, ev6_, h⟩ := lt_some h
    refine g_val ev6_.symm ?_
    have hv7_ : c32 v5_ := by rw [ev6_]; exact (w32_c _)
    refine s_istore_n C 2 (lo' := [(2, 37), (0, x1), (0, v5_), (0, x3)]) (by decide) (s1k (s1n (by decide) s1z)) (by decide +kernel) ?_
    refine s_iinc C 3 1 (lo' := [(2, 37), (0, x1), (0, v5_), (0, (w32 (x3 + 1)))]) rfl (by decide) (s1k (s1k (s1n (by decide) s1z))) (by decide +kernel) ?_
    refine g_goto C 8 (off := (-26)) (by decide +kernel) (by decide) ?_
    refine g_sub (lo2 := [(2, 37), (0, x1), (0, v5_), (0, (w32 (x3 + 1)))]) (lsb_v (lsb_v (lsb_v (lsb_v lsb_e)))) ?_
    obtain rfl := Option.some.inj h
    exact kb x1 v5_ (w32 (x3 + 1)) d rfl hx1 hv7_ (w32_c _)
  · replace h := ite_f hc2_ h
    refine g_sub (lo2 := [(9, 0), (9, 0), (0, x2), (9, 0)]) (lsb_c (lsb_c (lsb_v (lsb_c lsb_e)))) ?_
    obtain rfl := Option.some.inj h
    exact k0 x2 d rfl hx2
set_option maxHeartbeats 4000000 in
theorem ok_Bo_countJoined_n8 {p : Program} {l : Launch} {e : Env} {s : State} {m : MethodId} {args : Array Value} {below : List Frame} {meth : Method} {c : Code} {D : va_G} {cA : Nat → ClassId} {ad : Nat → Nat} {A : Nat → Prop} (C : Cx p s m args c prog_2_method_12_code 4 "PollBooks$Books" D cA ad 0 A) {Q : State → Prop} {x : (Int × Dt)} : ∀ (n : Nat) (x1 x2 x3 : Int) (d : Dt), c32 x1 → c32 x2 → c32 x3 → lpF (fun q : Int × Int × Int × Dt => L_Bo_countJoined_y8 q.1 q.2.1 q.2.2.1 q.2.2.2) n (x1, x2, x3, d) = some x → (∀ (y0 : Int) (e' : Dt), x = (y0, e') → c32 y0 → G p l e rm_Bo_countJoined s m args below meth c 0 0 Q 4 D cA ad 0 A 37 [(9, 0), (9, 0), (0, y0), (9, 0)] [] e') → G p l e rm_Bo_countJoined s m args below meth c 0 0 Q 4 D cA ad 0 A 8 [(2, 37), (0, x1), (0, x2), (0, x3)] [] d := by
  intro n
  induction n with
  | zero => intro x1 x2 x3 d g0 g1 g2 h k0; cases h
  | succ n ih =>
    intro x1 x2 x3 d g0 g1 g2 h k0
    rcases lpF_some h with h | ⟨⟨v0_, v1_, v2_, e0_⟩, h1, h⟩
    · exact ok_Bo_countJoined_y8 C x1 x2 x3 d g0 g1 g2 h (fun z0_ z1_ z2_ e1_ eq w0_ w1_ w2_ => by cases eq) (fun z0_ e1_ eq w0_ => k0 _ _ (by cases eq; rfl) w0_)
    · exact ok_Bo_countJoined_y8 C x1 x2 x3 d g0 g1 g2 h1 (fun z0_ z1_ z2_ e1_ eq w0_ w1_ w2_ => by cases eq; exact ih _ _ _ _ w0_ w1_ w2_ h k0) (fun z0_ e1_ eq w0_ => by cases eq)
set_option maxHeartbeats 4000000 in
theorem ok_Bo_countJoined_l8 {p : Program} {l : Launch} {e : Env} {s : State} {m : MethodId} {args : Array Value} {below : List Frame} {meth : Method} {c : Code} {D : va_G} {cA : Nat → ClassId} {ad : Nat → Nat} {A : Nat → Prop} (C : Cx p s m args c prog_2_method_12_code 4 "PollBooks$Books" D cA ad 0 A) {Q : State → Prop} {x : (Int × Dt)} (x1 x2 x3 : Int) (d : Dt) (hx1 : c32 x1) (hx2 : c32 x2) (hx3 : c32 x3) (h : L_Bo_countJoined_l8 x1 x2 x3 d = some x) (k0 : ∀ (y0 : Int) (e' : Dt), x = (y0, e') → c32 y0 → G p l e rm_Bo_countJoined s m args below meth c 0 0 Q 4 D cA ad 0 A 37 [(9, 0), (9, 0), (0, y0), (9, 0)] [] e') : G p l e rm_Bo_countJoined s m args below meth c 0 0 Q 4 D cA ad 0 A 8 [(2, 37), (0, x1), (0, x2), (0, x3)] [] d :=
  ok_Bo_countJoined_n8 C FU x1 x2 x3 d hx1 hx2 hx3 h k0
set_option maxHeartbeats 4000000 in
theorem ok_Bo_countJoined {l : Launch} {r : Int} {d' : Dt} (p1 : Int) (d : Dt) (hp1 : c32 p1) (h : L_Bo_countJoined p1 d = some (r, d')) : MC l y_Bo_countJoined prog_2_method_12_code 4 (some .int) rm_Bo_countJoined 0 [(2, 37), (0, p1)] d (some (0, r)) d' := by
  refine MC.of (by decide) (Nat.le_of_ble_eq_true rfl) ?_
  intro p e s m args below meth c D cA ad A C hlk hr
  replace C : Cx p s m args c prog_2_method_12_code 4 "PollBooks$Books" D cA ad 0 A := C
  show G p l e rm_Bo_countJoined s m args below meth c 0 0 (MQ below (fun _ => QC D cA ad 0 A (some .int) (some (0, r)) d') args s 0 0 A) 4 D cA ad 0 A 0 [(2, 37), (0, p1)] [] d
  refine g_sub (lo2 := [(2, 37), (0, p1), (9, 0), (9, 0)]) (lsb_v (lsb_v (lsb_n (lsb_n lsb_e)))) ?_
  unfold L_Bo_countJoined at h
  refine g_aload_n C 0 rfl (by decide +kernel) ?_
  obtain ⟨r9_, d8_, hr10_, h⟩ := bd_some h
  refine g_callV C mw_Bo_settle [] 37 cl0 rfl (ok_Bo_settle  d  hr10_) cd_A37 (by decide) (nA (by decide)) (ix := 76) lk_1026 lk_1028 lkp_37 ⟨rfl, rfl, Nat.le_of_ble_eq_true rfl, Nat.le_of_ble_eq_true rfl⟩ rfl (rest := []) rfl (Nat.le_of_ble_eq_true rfl) ⟨Nat.zero_le _, Nat.zero_le _⟩ (by decide +kernel) (fun _ hc11_ => ?_)
  refine g_st (st2 := []) rfl ?_
  refine g_iconst C 0 (cK rfl) (by decide +kernel) ?_
  refine s_istore_n C 2 (lo' := [(2, 37), (0, p1), (0, 0), (9, 0)]) (by decide) (s1k (s1n (by decide) s1z)) (by decide +kernel) ?_
  refine g_iconst C 0 (cK rfl) (by decide +kernel) ?_
  refine s_istore_n C 3 (lo' := [(2, 37), (0, p1), (0, 0), (0, 0)]) (by decide) (s1k (s1k (s1n (by decide) s1z))) (by decide +kernel) ?_
  refine g_sub (lo2 := [(2, 37), (0, p1), (0, 0), (0, 0)]) (lsb_v (lsb_v (lsb_v (lsb_v lsb_e)))) ?_
  obtain ⟨x12_, hx13_, h⟩ := lb_some h
  refine ok_Bo_countJoined_l8 C p1 0 0 d8_ hp1 (c32_cb (Or.inl rfl)) (c32_cb (Or.inl rfl)) hx13_ (fun v14_ d15_ eq16_ hv14_ => ?_)
  subst eq16_
  replace h := u1_e h
  refine g_iload_n C 2 rfl (by decide +kernel) ?_
  obtain ⟨rfl, rfl⟩ := ret_inj h
  exact g_iret C hv14_ hlk hr (by decide +kernel)
/-! PollBooks$Books.countWritten(II)I -/
def y_Bo_countWritten : MethodName := ⟨"PollBooks$Books", "countWritten", "(II)I"⟩
def rm_Bo_countWritten : Room := { frames := 0, cells := 0, slots := 0, locals := 0 }
theorem mw_Bo_countWritten : MW y_Bo_countWritten prog_2_method_11_code 5 (some .int) 2 := ⟨lk_1076, lk_9, by decide +kernel⟩
def L_Bo_countWritten_y5 (x1 x2 x3 x4 : Int) (d : Dt) : Option ((Int × Int × Int × Int × Dt) ⊕ ((Int × Dt))) :=
  ck ((0 : Int) ≤ x1 ∧ x1 < 3) (if x4 < (d 42 x1.toNat) then ck ((0 : Int) ≤ (w32 ((w32 (x1 * 30)) + x4)) ∧ (w32 ((w32 (x1 * 30)) + x4)) < 90) (lt_ (w32 (x3 + (iand (ishr (d 41 ((w32 ((w32 (x1 * 30)) + x4))).toNat) x2) 1))) (fun v6_ => some (Sum.inl (x1, x2, v6_, (w32 (x4 + 1)), d)))) else some (Sum.inr (x3, d)))
def L_Bo_countWritten_l5 (x1 x2 x3 x4 : Int) (d : Dt) : Option ((Int × Dt)) := lpF (fun q : Int × Int × Int × Int × Dt => L_Bo_countWritten_y5 q.1 q.2.1 q.2.2.1 q.2.2.2.1 q.2.2.2.2) FU (x1, x2, x3, x4, d)
def L_Bo_countWritten (p1 p2 : Int) (d : Dt) : Option (Int × Dt) :=
  lb (L_Bo_countWritten_l5 p1 p2 0 0 d) (fun q14_ => u1 q14_ (fun v11_ d12_ => some (v11_, d12_)))
set_option maxHeartbeats 4000000 in
theorem ok_Bo_countWritten_y5 {p : Program} {l : Launch} {e : Env} {s : State} {m : MethodId} {args : Array Value} {below : List Frame} {meth : Method} {c : Code} {D : va_G} {cA : Nat → ClassId} {ad : Nat → Nat} {A : Nat → Prop} (C : Cx p s m args c prog_2_method_11_code 5 "PollBooks$Books" D cA ad 0 A) {Q : State → Prop} {o : (Int × Int × Int × Int × Dt) ⊕ ((Int × Dt))} (x1 x2 x3 x4 : Int) (d : Dt) (hx1 : c32 x1) (hx2 : c32 x2) (hx3 : c32 x3) (hx4 : c32 x4) (h : L_Bo_countWritten_y5 x1 x2 x3 x4 d = some o) (kb : ∀ (y0 y1 y2 y3 : Int) (e' : Dt), o = .inl (y0, y1, y2, y3, e') → c32 y0 → c32 y1 → c32 y2 → c32 y3 → G p l e rm_Bo_countWritten s m args below meth c 0 0 Q 5 D cA ad 0 A 5 [(2, 37), (0, y0), (0, y1), (0, y2), (0, y3)] [] e') (k0 : ∀ (y0 : Int) (e' : Dt), o = .inr (y0, e') → c32 y0 → G p l e rm_Bo_countWritten s m args below meth c 0 0 Q 5 D cA ad 0 A 41 [(9, 0), (9, 0), (9, 0), (0, y0), (9, 0)] [] e') : G p l e rm_Bo_countWritten s m args below meth c 0 0 Q 5 D cA ad 0 A 5 [(2, 37), (0, x1), (0, x2), (0, x3), (0, x4)] [] d := by
  unfold L_Bo_countWritten_y5 at h
  refine g_iload C 4 rfl (by decide +kernel) ?_
  refine g_aload_n C 0 rfl (by decide +kernel) ?_
  refine g_getR C cl0 37 4 42 rfl cd_A37 ⟨by decide, rfl, by decide⟩ rfl rfl (nA (by decide)) (ix := 25) lk_279 (by decide +kernel) ?_
  refine g_iload_n C 1 rfl (by decide +kernel) ?_
  obtain ⟨hb1_, h⟩ := ck_some h
  refine g_iald C 42 hx1 rfl cd_A42 (nA (by decide)) hb1_ (by decide +kernel) (fun hc2_ => ?_)
  refine g_icmp_ge C (off := 28) (tgt := 41) hx4 hc2_ (by decide +kernel) (by decide) (fun hc3_ => ?_) (fun hc3_ => ?_)
  · replace h := ite_t hc3_ h
    refine g_iload_n C 3 rfl (by decide +kernel) ?_
    refine g_aload_n C 0 rfl (by decide +kernel) ?_
    refine g_getR C cl0 37 3 41 rfl cd_A37 ⟨by decide, rfl, by decide⟩ rfl rfl (nA (by decide)) (ix := 22) lk_278 (by decide +kernel) ?_
    refine g_iload_n C 1 rfl (by decide +kernel) ?_
    refine g_bipush C 30 (by decide) (by decide +kernel) ?_
    refine g_imul C (by decide +kernel) ?_
    refine g_iload C 4 rfl (by decide +kernel) ?_
    refine g_iadd C (by decide +kernel) ?_
    obtain ⟨hb4_, h⟩ := ck_some h
    refine g_iald C 41 (w32_c _) rfl cd_A41 (nA (by decide)) hb4_ (by decide +kernel) (fun hc5_ => ?_)
    refine g_iload_n C 2 rfl (by decide +kernel) ?_
    refine g_ishr C (by decide +kernel) ?_
    refine g_iconst C 1 (cK rfl) (by decide +kernel) ?_
    refine g_iand C (by decide +kernel) ?_
    refine g_iadd C (by decide +kernel) ?_
    obtain ⟨v6_, ev7_, h⟩ := lt_some h
    refine g_val ev7_.symm ?_
    have hv8_ : c32 v6_ := by rw [ev7_]; exact (w32_c _)
    refine s_istore_n C 3 (lo' := [(2, 37), (0, x1), (0, x2), (0, v6_), (0, x4)]) (by decide) (s1k (s1k (s1n (by decide) s1z))) (by decide +kernel) ?_
    refine s_iinc C 4 1 (lo' := [(2, 37), (0, x1), (0, x2), (0, v6_), (0, (w32 (x4 + 1)))]) rfl (by decide) (s1k (s1k (s1k (s1n (by decide) s1z)))) (by decide +kernel) ?_
    refine g_goto C 5 (off := (-33)) (by decide +kernel) (by decide) ?_
    refine g_sub (lo2 := [(2, 37), (0, x1), (0, x2), (0, v6_), (0, (w32 (x4 + 1)))]) (lsb_v (lsb_v (lsb_v (lsb_v (lsb_v lsb_e))))) ?_
    obtain rfl := Option.some.inj h
    exact kb x1 x2 v6_ (w32 (x4 + 1)) d rfl hx1 hx2 hv8_ (w32_c _)
  · replace h := ite_f hc3_ h
    refine g_sub (lo2 := [(9, 0), (9, 0), (9, 0), (0, x3), (9, 0)]) (lsb_c (lsb_c (lsb_c (lsb_v (lsb_c lsb_e))))) ?_
    obtain rfl := Option.some.inj h
    exact k0 x3 d rfl hx3
set_option maxHeartbeats 4000000 in
theorem ok_Bo_countWritten_n5 {p : Program} {l : Launch} {e : Env} {s : State} {m : MethodId} {args : Array Value} {below : List Frame} {meth : Method} {c : Code} {D : va_G} {cA : Nat → ClassId} {ad : Nat → Nat} {A : Nat → Prop} (C : Cx p s m args c prog_2_method_11_code 5 "PollBooks$Books" D cA ad 0 A) {Q : State → Prop} {x : (Int × Dt)} : ∀ (n : Nat) (x1 x2 x3 x4 : Int) (d : Dt), c32 x1 → c32 x2 → c32 x3 → c32 x4 → lpF (fun q : Int × Int × Int × Int × Dt => L_Bo_countWritten_y5 q.1 q.2.1 q.2.2.1 q.2.2.2.1 q.2.2.2.2) n (x1, x2, x3, x4, d) = some x → (∀ (y0 : Int) (e' : Dt), x = (y0, e') → c32 y0 → G p l e rm_Bo_countWritten s m args below meth c 0 0 Q 5 D cA ad 0 A 41 [(9, 0), (9, 0), (9, 0), (0, y0), (9, 0)] [] e') → G p l e rm_Bo_countWritten s m args below meth c 0 0 Q 5 D cA ad 0 A 5 [(2, 37), (0, x1), (0, x2), (0, x3), (0, x4)] [] d := by
  intro n
  induction n with
  | zero => intro x1 x2 x3 x4 d g0 g1 g2 g3 h k0; cases h
  | succ n ih =>
    intro x1 x2 x3 x4 d g0 g1 g2 g3 h k0
    rcases lpF_some h with h | ⟨⟨v0_, v1_, v2_, v3_, e0_⟩, h1, h⟩
    · exact ok_Bo_countWritten_y5 C x1 x2 x3 x4 d g0 g1 g2 g3 h (fun z0_ z1_ z2_ z3_ e1_ eq w0_ w1_ w2_ w3_ => by cases eq) (fun z0_ e1_ eq w0_ => k0 _ _ (by cases eq; rfl) w0_)
    · exact ok_Bo_countWritten_y5 C x1 x2 x3 x4 d g0 g1 g2 g3 h1 (fun z0_ z1_ z2_ z3_ e1_ eq w0_ w1_ w2_ w3_ => by cases eq; exact ih _ _ _ _ _ w0_ w1_ w2_ w3_ h k0) (fun z0_ e1_ eq w0_ => by cases eq)
set_option maxHeartbeats 4000000 in
theorem ok_Bo_countWritten_l5 {p : Program} {l : Launch} {e : Env} {s : State} {m : MethodId} {args : Array Value} {below : List Frame} {meth : Method} {c : Code} {D : va_G} {cA : Nat → ClassId} {ad : Nat → Nat} {A : Nat → Prop} (C : Cx p s m args c prog_2_method_11_code 5 "PollBooks$Books" D cA ad 0 A) {Q : State → Prop} {x : (Int × Dt)} (x1 x2 x3 x4 : Int) (d : Dt) (hx1 : c32 x1) (hx2 : c32 x2) (hx3 : c32 x3) (hx4 : c32 x4) (h : L_Bo_countWritten_l5 x1 x2 x3 x4 d = some x) (k0 : ∀ (y0 : Int) (e' : Dt), x = (y0, e') → c32 y0 → G p l e rm_Bo_countWritten s m args below meth c 0 0 Q 5 D cA ad 0 A 41 [(9, 0), (9, 0), (9, 0), (0, y0), (9, 0)] [] e') : G p l e rm_Bo_countWritten s m args below meth c 0 0 Q 5 D cA ad 0 A 5 [(2, 37), (0, x1), (0, x2), (0, x3), (0, x4)] [] d :=
  ok_Bo_countWritten_n5 C FU x1 x2 x3 x4 d hx1 hx2 hx3 hx4 h k0
set_option maxHeartbeats 4000000 in
theorem ok_Bo_countWritten {l : Launch} {r : Int} {d' : Dt} (p1 p2 : Int) (d : Dt) (hp1 : c32 p1) (hp2 : c32 p2) (h : L_Bo_countWritten p1 p2 d = some (r, d')) : MC l y_Bo_countWritten prog_2_method_11_code 5 (some .int) rm_Bo_countWritten 0 [(2, 37), (0, p1), (0, p2)] d (some (0, r)) d' := by
  refine MC.of (by decide) (Nat.le_of_ble_eq_true rfl) ?_
  intro p e s m args below meth c D cA ad A C hlk hr
  replace C : Cx p s m args c prog_2_method_11_code 5 "PollBooks$Books" D cA ad 0 A := C
  show G p l e rm_Bo_countWritten s m args below meth c 0 0 (MQ below (fun _ => QC D cA ad 0 A (some .int) (some (0, r)) d') args s 0 0 A) 5 D cA ad 0 A 0 [(2, 37), (0, p1), (0, p2)] [] d
  refine g_sub (lo2 := [(2, 37), (0, p1), (0, p2), (9, 0), (9, 0)]) (lsb_v (lsb_v (lsb_v (lsb_n (lsb_n lsb_e))))) ?_
  unfold L_Bo_countWritten at h
  refine g_iconst C 0 (cK rfl) (by decide +kernel) ?_
  refine s_istore_n C 3 (lo' := [(2, 37), (0, p1), (0, p2), (0, 0), (9, 0)]) (by decide) (s1k (s1k (s1n (by decide) s1z))) (by decide +kernel) ?_
  refine g_iconst C 0 (cK rfl) (by decide +kernel) ?_
  refine s_istore C 4 (lo' := [(2, 37), (0, p1), (0, p2), (0, 0), (0, 0)]) (by decide) (s1k (s1k (s1k (s1n (by decide) s1z)))) (by decide +kernel) ?_
  refine g_sub (lo2 := [(2, 37), (0, p1), (0, p2), (0, 0), (0, 0)]) (lsb_v (lsb_v (lsb_v (lsb_v (lsb_v lsb_e))))) ?_
  obtain ⟨x9_, hx10_, h⟩ := lb_some h
  refine ok_Bo_countWritten_l5 C p1 p2 0 0 d hp1 hp2 (c32_cb (Or.inl rfl)) (c32_cb (Or.inl rfl)) hx10_ (fun v11_ d12_ eq13_ hv11_ => ?_)
  subst eq13_
  replace h := u1_e h
  refine g_iload_n C 3 rfl (by decide +kernel) ?_
  obtain ⟨rfl, rfl⟩ := ret_inj h
  exact g_iret C hv11_ hlk hr (by decide +kernel)
/-! PollBooks.tally(II)I -/
def y_PB_tally : MethodName := ⟨"PollBooks", "tally", "(II)I"⟩
def rm_PB_tally : Room := { frames := 4, cells := 0, slots := 0, locals := 94 }
theorem mw_PB_tally : MW y_PB_tally prog_1_method_31_code 3 (some .int) 2 := ⟨lk_1065, lk_1, by decide +kernel⟩
def L_PB_tally_b25 (x1 x2 s1 : Int) (d : Dt) : Option (Int × Dt) :=
  if s1 = 0 then if x1 = 3 then bd (L_Bo_countJoined x2 (up2 d 0 0 s1)) (fun r5_ d4_ => some (r5_, d4_)) else bd (L_Bo_countWritten x1 x2 (up2 d 0 0 s1)) (fun r9_ d8_ => some (r9_, d8_)) else some ((-1), (up2 d 0 0 s1))
def L_PB_tally (p1 p2 : Int) (d : Dt) : Option (Int × Dt) :=
  bd (L_PB_within p1 0 3 d) (fun r13_ d12_ => if r13_ = 0 then L_PB_tally_b25 p1 p2 1 d12_ else bd (L_PB_isCandidate p2 d12_) (fun r18_ d17_ => if r18_ = 0 then L_PB_tally_b25 p1 p2 1 d17_ else L_PB_tally_b25 p1 p2 0 d17_))
set_option maxHeartbeats 4000000 in
theorem ok_PB_tally_b25 {p : Program} {l : Launch} {e : Env} {s : State} {m : MethodId} {args : Array Value} {below : List Frame} {meth : Method} {c : Code} {D : va_G} {cA : Nat → ClassId} {ad : Nat → Nat} {A : Nat → Prop} (C : Cx p s m args c prog_1_method_31_code 3 "PollBooks" D cA ad 0 A) (hlk : meth.locks = false) (hr : meth.sig.returnType = (some .int)) {r : Int} {d' : Dt} (x1 x2 s1 : Int) (d : Dt) (hx1 : c32 x1) (hx2 : c32 x2) (hs1 : cb s1) (h : L_PB_tally_b25 x1 x2 s1 d = some (r, d')) : G p l e rm_PB_tally s m args below meth c 0 0 (MQ below (fun _ => QC D cA ad 0 A (some .int) (some (0, r)) d') args s 0 0 A) 3 D cA ad 0 A 25 [(2, 0), (0, x1), (0, x2)] [(0, s1), (2, 0)] d := by
  unfold L_PB_tally_b25 at h
  refine g_putI C cl11 0 0 (c32_cb hs1) rfl cd_A0 ⟨by decide, rfl, by decide⟩ rfl (nA (by decide)) (ix := 9) lk_467 rfl rfl (by decide +kernel) ?_
  refine g_aload_n C 0 rfl (by decide +kernel) ?_
  refine g_getI C cl11 0 0 rfl cd_A0 ⟨by decide, rfl, by decide⟩ rfl (nA (by decide)) (ix := 9) lk_467 (by decide +kernel) (fun hc1_ => ?_)
  refine g_val (y := s1) rfl ?_
  replace hc1_ : c32 s1 := hc1_
  refine g_if_eq C (off := 5) (tgt := 37) hc1_ (by decide +kernel) (by decide) (fun hc2_ => ?_) (fun hc2_ => ?_)
  · replace h := ite_t hc2_ h
    refine g_iload_n C 1 rfl (by decide +kernel) ?_
    refine g_iconst C 3 (cK rfl) (by decide +kernel) ?_
    refine g_icmp_ne C (off := 14) (tgt := 53) hx1 (cK rfl) (by decide +kernel) (by decide) (fun hc3_ => ?_) (fun hc3_ => ?_)
    · replace h := ite_t hc3_ h
      refine g_aload_n C 0 rfl (by decide +kernel) ?_
      refine g_getR C cl11 0 6 37 rfl cd_A0 ⟨by decide, rfl, by decide⟩ rfl rfl (nA (by decide)) (ix := 55) lk_473 (by decide +kernel) ?_
      refine g_iload_n C 2 rfl (by decide +kernel) ?_
      obtain ⟨r5_, d4_, hr6_, h⟩ := bd_some h
      refine g_callV C mw_Bo_countJoined [(0, x2)] 37 cl0 rfl (ok_Bo_countJoined x2 (up2 d 0 0 s1) hx2 hr6_) cd_A37 (by decide) (nA (by decide)) (ix := 312) lk_1069 lk_1070 lk_1071 ⟨rfl, rfl, Nat.le_of_ble_eq_true rfl, Nat.le_of_ble_eq_true rfl⟩ rfl (rest := []) rfl (Nat.le_of_ble_eq_true rfl) ⟨Nat.zero_le _, Nat.zero_le _⟩ (by decide +kernel) (fun _ hc7_ => ?_)
      replace hc7_ : c32 r5_ := hc7_
      refine g_st (st2 := [(0, r5_)]) rfl ?_
      refine g_goto C 62 (off := 12) (by decide +kernel) (by decide) ?_
      obtain ⟨rfl, rfl⟩ := ret_inj h
      exact g_iret C hc7_ hlk hr (by decide +kernel)
    · replace h := ite_f hc3_ h
      refine g_aload_n C 0 rfl (by decide +kernel) ?_
      refine g_getR C cl11 0 6 37 rfl cd_A0 ⟨by decide, rfl, by decide⟩ rfl rfl (nA (by decide)) (ix := 55) lk_473 (by decide +kernel) ?_
      refine g_iload_n C 1 rfl (by decide +kernel) ?_
      refine g_iload_n C 2 rfl (by decide +kernel) ?_
      obtain ⟨r9_, d8_, hr10_, h⟩ := bd_some h
      refine g_callV C mw_Bo_countWritten [(0, x1), (0, x2)] 37 cl0 rfl (ok_Bo_countWritten x1 x2 (up2 d 0 0 s1) hx1 hx2 hr10_) cd_A37 (by decide) (nA (by decide)) (ix := 315) lk_1073 lk_1074 lk_1075 ⟨rfl, rfl, Nat.le_of_ble_eq_true rfl, Nat.le_of_ble_eq_true rfl⟩ rfl (rest := []) rfl (Nat.le_of_ble_eq_true rfl) ⟨Nat.zero_le _, Nat.zero_le _⟩ (by decide +kernel) (fun _ hc11_ => ?_)
      replace hc11_ : c32 r9_ := hc11_
      refine g_st (st2 := [(0, r9_)]) rfl ?_
      obtain ⟨rfl, rfl⟩ := ret_inj h
      exact g_iret C hc11_ hlk hr (by decide +kernel)
  · replace h := ite_f hc2_ h
    refine g_iconst C (-1) (cK rfl) (by decide +kernel) ?_
    obtain ⟨rfl, rfl⟩ := ret_inj h
    exact g_iret C (cK rfl) hlk hr (by decide +kernel)
set_option maxHeartbeats 4000000 in
theorem ok_PB_tally {l : Launch} {r : Int} {d' : Dt} (p1 p2 : Int) (d : Dt) (hp1 : c32 p1) (hp2 : c32 p2) (h : L_PB_tally p1 p2 d = some (r, d')) : MC l y_PB_tally prog_1_method_31_code 3 (some .int) rm_PB_tally 0 [(2, 0), (0, p1), (0, p2)] d (some (0, r)) d' := by
  refine MC.of (by decide) (Nat.le_of_ble_eq_true rfl) ?_
  intro p e s m args below meth c D cA ad A C hlk hr
  replace C : Cx p s m args c prog_1_method_31_code 3 "PollBooks" D cA ad 0 A := C
  show G p l e rm_PB_tally s m args below meth c 0 0 (MQ below (fun _ => QC D cA ad 0 A (some .int) (some (0, r)) d') args s 0 0 A) 3 D cA ad 0 A 0 [(2, 0), (0, p1), (0, p2)] [] d
  refine g_sub (lo2 := [(2, 0), (0, p1), (0, p2)]) (lsb_v (lsb_v (lsb_v lsb_e))) ?_
  unfold L_PB_tally at h
  refine g_aload_n C 0 rfl (by decide +kernel) ?_
  refine g_iload_n C 1 rfl (by decide +kernel) ?_
  refine g_i2l C hp1 (by decide +kernel) ?_
  refine g_lconst C 0 (v := 0) (by decide) (by decide +kernel) ?_
  refine g_ldc2 C (ix := 103) (v := 3) lk_519 (by decide +kernel) ?_
  obtain ⟨r13_, d12_, hr14_, h⟩ := bd_some h
  refine g_callS C mw_PB_within [(1, p1), (1, 0), (1, 3)] (ok_PB_within p1 0 3 d (c64_32 hp1) (cL rfl) (cL rfl) hr14_) (ix := 105) lk_520 lk_521 ⟨rfl, rfl, Nat.le_of_ble_eq_true rfl, Nat.le_of_ble_eq_true rfl⟩ rfl (rest := [(2, 0)]) rfl (Nat.le_of_ble_eq_true rfl) ⟨Nat.zero_le _, Nat.zero_le _⟩ (by decide +kernel) (fun _ hc15_ => ?_)
  replace hc15_ : cb r13_ := hc15_
  refine g_st (st2 := [(0, r13_), (2, 0)]) rfl ?_
  refine g_if_eq C (off := 14) (tgt := 24) (c32_cb hc15_) (by decide +kernel) (by decide) (fun hc16_ => ?_) (fun hc16_ => ?_)
  · replace h := ite_t hc16_ h
    refine g_iconst C 1 (cK rfl) (by decide +kernel) ?_
    refine g_sub (lo2 := [(2, 0), (0, p1), (0, p2)]) (lsb_v (lsb_v (lsb_v lsb_e))) ?_
    exact ok_PB_tally_b25 C hlk hr p1 p2 1 d12_ hp1 hp2 (Or.inr rfl) h
  · replace h := ite_f hc16_ h
    refine g_iload_n C 2 rfl (by decide +kernel) ?_
    obtain ⟨r18_, d17_, hr19_, h⟩ := bd_some h
    refine g_callS C mw_PB_isCandidate [(0, p2)] (ok_PB_isCandidate p2 d12_ hp2 hr19_) (ix := 309) lk_1066 lk_1067 ⟨rfl, rfl, Nat.le_of_ble_eq_true rfl, Nat.le_of_ble_eq_true rfl⟩ rfl (rest := [(2, 0)]) rfl (Nat.le_of_ble_eq_true rfl) ⟨Nat.zero_le _, Nat.zero_le _⟩ (by decide +kernel) (fun _ hc20_ => ?_)
    replace hc20_ : cb r18_ := hc20_
    refine g_st (st2 := [(0, r18_), (2, 0)]) rfl ?_
    refine g_if_eq C (off := 7) (tgt := 24) (c32_cb hc20_) (by decide +kernel) (by decide) (fun hc21_ => ?_) (fun hc21_ => ?_)
    · replace h := ite_t hc21_ h
      refine g_iconst C 1 (cK rfl) (by decide +kernel) ?_
      refine g_sub (lo2 := [(2, 0), (0, p1), (0, p2)]) (lsb_v (lsb_v (lsb_v lsb_e))) ?_
      exact ok_PB_tally_b25 C hlk hr p1 p2 1 d17_ hp1 hp2 (Or.inr rfl) h
    · replace h := ite_f hc21_ h
      refine g_iconst C 0 (cK rfl) (by decide +kernel) ?_
      refine g_goto C 25 (off := 4) (by decide +kernel) (by decide) ?_
      refine g_sub (lo2 := [(2, 0), (0, p1), (0, p2)]) (lsb_v (lsb_v (lsb_v lsb_e))) ?_
      exact ok_PB_tally_b25 C hlk hr p1 p2 0 d17_ hp1 hp2 (Or.inl rfl) h
/-! PollBooks$Poll.reachTo(I)V -/
def y_Po_reachTo : MethodName := ⟨"PollBooks$Poll", "reachTo", "(I)V"⟩
def rm_Po_reachTo : Room := { frames := 0, cells := 0, slots := 0, locals := 0 }
theorem mw_Po_reachTo : MW y_Po_reachTo prog_8_method_2_code 2 none 1 := ⟨lk_1085, lk_10, by decide +kernel⟩
def L_Po_reachTo (p1 : Int) (d : Dt) : Option (Int × Dt) :=
  some (0, (up2 d 49 3 p1))
set_option maxHeartbeats 4000000 in
theorem ok_Po_reachTo {l : Launch} {r : Int} {d' : Dt} (p1 : Int) (d : Dt) (hp1 : c32 p1) (h : L_Po_reachTo p1 d = some (r, d')) : MC l y_Po_reachTo prog_8_method_2_code 2 none rm_Po_reachTo 0 [(2, 49), (0, p1)] d none d' := by
  refine MC.of (by decide) (Nat.le_of_ble_eq_true rfl) ?_
  intro p e s m args below meth c D cA ad A C hlk hr
  replace C : Cx p s m args c prog_8_method_2_code 2 "PollBooks$Poll" D cA ad 0 A := C
  show G p l e rm_Po_reachTo s m args below meth c 0 0 (MQ below (fun _ => QC D cA ad 0 A none none d') args s 0 0 A) 2 D cA ad 0 A 0 [(2, 49), (0, p1)] [] d
  refine g_sub (lo2 := [(2, 49), (0, p1)]) (lsb_v (lsb_v lsb_e)) ?_
  unfold L_Po_reachTo at h
  refine g_aload_n C 0 rfl (by decide +kernel) ?_
  refine g_iload_n C 1 rfl (by decide +kernel) ?_
  refine g_putI C cl6 49 3 hp1 rfl cd_A49 ⟨by decide, rfl, by decide⟩ rfl (nA (by decide)) (ix := 11) lk_322 rfl rfl (by decide +kernel) ?_
  obtain ⟨rfl, rfl⟩ := ret_inj h
  exact g_vret C hlk hr (by decide +kernel)
/-! PollBooks.reach(I)Z -/
def y_PB_reach : MethodName := ⟨"PollBooks", "reach", "(I)Z"⟩
def rm_PB_reach : Room := { frames := 1, cells := 0, slots := 0, locals := 25 }
theorem mw_PB_reach : MW y_PB_reach prog_1_method_32_code 2 (some .boolean) 1 := ⟨lk_1080, lk_1, by decide +kernel⟩
def L_PB_reach_b36 (d : Dt) : Option (Int × Dt) :=
  if (d 0 0) = 0 then some (1, d) else some (0, d)
def L_PB_reach_b18 (x1 s1 : Int) (d : Dt) : Option (Int × Dt) :=
  if s1 = 0 then bd (L_Po_reachTo x1 (up2 d 0 0 s1)) (fun r6_ d5_ => L_PB_reach_b36 d5_) else L_PB_reach_b36 (up2 d 0 0 s1)
def L_PB_reach (p1 : Int) (d : Dt) : Option (Int × Dt) :=
  bd (L_PB_within p1 0 30 d) (fun r10_ d9_ => if r10_ = 0 then L_PB_reach_b18 p1 1 d9_ else L_PB_reach_b18 p1 0 d9_)
set_option maxHeartbeats 4000000 in
theorem ok_PB_reach_b36 {p : Program} {l : Launch} {e : Env} {s : State} {m : MethodId} {args : Array Value} {below : List Frame} {meth : Method} {c : Code} {D : va_G} {cA : Nat → ClassId} {ad : Nat → Nat} {A : Nat → Prop} (C : Cx p s m args c prog_1_method_32_code 2 "PollBooks" D cA ad 0 A) (hlk : meth.locks = false) (hr : meth.sig.returnType = (some .boolean)) {r : Int} {d' : Dt} (d : Dt)  (h : L_PB_reach_b36 d = some (r, d')) : G p l e rm_PB_reach s m args below meth c 0 0 (MQ below (fun _ => QC D cA ad 0 A (some .boolean) (some (0, r)) d') args s 0 0 A) 2 D cA ad 0 A 36 [(2, 0), (9, 0)] [] d := by
  unfold L_PB_reach_b36 at h
  refine g_aload_n C 0 rfl (by decide +kernel) ?_
  refine g_getI C cl11 0 0 rfl cd_A0 ⟨by decide, rfl, by decide⟩ rfl (nA (by decide)) (ix := 9) lk_467 (by decide +kernel) (fun hc1_ => ?_)
  refine g_if_ne C (off := 7) (tgt := 47) hc1_ (by decide +kernel) (by decide) (fun hc2_ => ?_) (fun hc2_ => ?_)
  · replace h := ite_t hc2_ h
    refine g_iconst C 1 (cK rfl) (by decide +kernel) ?_
    refine g_goto C 48 (off := 4) (by decide +kernel) (by decide) ?_
    obtain ⟨rfl, rfl⟩ := ret_inj h
    exact g_zret C (Or.inr rfl) hlk hr (by decide +kernel)
  · replace h := ite_f hc2_ h
    refine g_iconst C 0 (cK rfl) (by decide +kernel) ?_
    obtain ⟨rfl, rfl⟩ := ret_inj h
    exact g_zret C (Or.inl rfl) hlk hr (by decide +kernel)
set_option maxHeartbeats 4000000 in
theorem ok_PB_reach_b18 {p : Program} {l : Launch} {e : Env} {s : State} {m : MethodId} {args : Array Value} {below : List Frame} {meth : Method} {c : Code} {D : va_G} {cA : Nat → ClassId} {ad : Nat → Nat} {A : Nat → Prop} (C : Cx p s m args c prog_1_method_32_code 2 "PollBooks" D cA ad 0 A) (hlk : meth.locks = false) (hr : meth.sig.returnType = (some .boolean)) {r : Int} {d' : Dt} (x1 s1 : Int) (d : Dt) (hx1 : c32 x1) (hs1 : cb s1) (h : L_PB_reach_b18 x1 s1 d = some (r, d')) : G p l e rm_PB_reach s m args below meth c 0 0 (MQ below (fun _ => QC D cA ad 0 A (some .boolean) (some (0, r)) d') args s 0 0 A) 2 D cA ad 0 A 18 [(2, 0), (0, x1)] [(0, s1), (2, 0)] d := by
  unfold L_PB_reach_b18 at h
  refine g_putI C cl11 0 0 (c32_cb hs1) rfl cd_A0 ⟨by decide, rfl, by decide⟩ rfl (nA (by decide)) (ix := 9) lk_467 rfl rfl (by decide +kernel) ?_
  refine g_aload_n C 0 rfl (by decide +kernel) ?_
  refine g_getI C cl11 0 0 rfl cd_A0 ⟨by decide, rfl, by decide⟩ rfl (nA (by decide)) (ix := 9) lk_467 (by decide +kernel) (fun hc3_ => ?_)
  refine g_val (y := s1) rfl ?_
  replace hc3_ : c32 s1 := hc3_
  refine g_if_ne C (off := 11) (tgt := 36) hc3_ (by decide +kernel) (by decide) (fun hc4_ => ?_) (fun hc4_ => ?_)
  · replace h := ite_t hc4_ h
    refine g_aload_n C 0 rfl (by decide +kernel) ?_
    refine g_getR C cl11 0 7 49 rfl cd_A0 ⟨by decide, rfl, by decide⟩ rfl rfl (nA (by decide)) (ix := 64) lk_474 (by decide +kernel) ?_
    refine g_iload_n C 1 rfl (by decide +kernel) ?_
    obtain ⟨r6_, d5_, hr7_, h⟩ := bd_some h
    refine g_callV C mw_Po_reachTo [(0, x1)] 49 cl6 rfl (ok_Po_reachTo x1 (up2 d 0 0 s1) hx1 hr7_) cd_A49 (by decide) (nA (by decide)) (ix := 320) lk_1082 lk_1083 lk_1084 ⟨rfl, rfl, Nat.le_of_ble_eq_true rfl, Nat.le_of_ble_eq_true rfl⟩ rfl (rest := []) rfl (Nat.le_of_ble_eq_true rfl) ⟨Nat.zero_le _, Nat.zero_le _⟩ (by decide +kernel) (fun _ hc8_ => ?_)
    refine g_st (st2 := []) rfl ?_
    refine g_sub (lo2 := [(2, 0), (9, 0)]) (lsb_v (lsb_c lsb_e)) ?_
    exact ok_PB_reach_b36 C hlk hr d5_  h
  · replace h := ite_f hc4_ h
    refine g_sub (lo2 := [(2, 0), (9, 0)]) (lsb_v (lsb_c lsb_e)) ?_
    exact ok_PB_reach_b36 C hlk hr (up2 d 0 0 s1)  h
set_option maxHeartbeats 4000000 in
theorem ok_PB_reach {l : Launch} {r : Int} {d' : Dt} (p1 : Int) (d : Dt) (hp1 : c32 p1) (h : L_PB_reach p1 d = some (r, d')) : MC l y_PB_reach prog_1_method_32_code 2 (some .boolean) rm_PB_reach 0 [(2, 0), (0, p1)] d (some (0, r)) d' := by
  refine MC.of (by decide) (Nat.le_of_ble_eq_true rfl) ?_
  intro p e s m args below meth c D cA ad A C hlk hr
  replace C : Cx p s m args c prog_1_method_32_code 2 "PollBooks" D cA ad 0 A := C
  show G p l e rm_PB_reach s m args below meth c 0 0 (MQ below (fun _ => QC D cA ad 0 A (some .boolean) (some (0, r)) d') args s 0 0 A) 2 D cA ad 0 A 0 [(2, 0), (0, p1)] [] d
  refine g_sub (lo2 := [(2, 0), (0, p1)]) (lsb_v (lsb_v lsb_e)) ?_
  unfold L_PB_reach at h
  refine g_aload_n C 0 rfl (by decide +kernel) ?_
  refine g_iload_n C 1 rfl (by decide +kernel) ?_
  refine g_i2l C hp1 (by decide +kernel) ?_
  refine g_lconst C 0 (v := 0) (by decide) (by decide +kernel) ?_
  refine g_ldc2 C (ix := 318) (v := 30) lk_1081 (by decide +kernel) ?_
  obtain ⟨r10_, d9_, hr11_, h⟩ := bd_some h
  refine g_callS C mw_PB_within [(1, p1), (1, 0), (1, 30)] (ok_PB_within p1 0 30 d (c64_32 hp1) (cL rfl) (cL rfl) hr11_) (ix := 105) lk_520 lk_521 ⟨rfl, rfl, Nat.le_of_ble_eq_true rfl, Nat.le_of_ble_eq_true rfl⟩ rfl (rest := [(2, 0)]) rfl (Nat.le_of_ble_eq_true rfl) ⟨Nat.zero_le _, Nat.zero_le _⟩ (by decide +kernel) (fun _ hc12_ => ?_)
  replace hc12_ : cb r10_ := hc12_
  refine g_st (st2 := [(0, r10_), (2, 0)]) rfl ?_
  refine g_if_eq C (off := 7) (tgt := 17) (c32_cb hc12_) (by decide +kernel) (by decide) (fun hc13_ => ?_) (fun hc13_ => ?_)
  · replace h := ite_t hc13_ h
    refine g_iconst C 1 (cK rfl) (by decide +kernel) ?_
    refine g_sub (lo2 := [(2, 0), (0, p1)]) (lsb_v (lsb_v lsb_e)) ?_
    exact ok_PB_reach_b18 C hlk hr p1 1 d9_ hp1 (Or.inr rfl) h
  · replace h := ite_f hc13_ h
    refine g_iconst C 0 (cK rfl) (by decide +kernel) ?_
    refine g_goto C 18 (off := 4) (by decide +kernel) (by decide) ?_
    refine g_sub (lo2 := [(2, 0), (0, p1)]) (lsb_v (lsb_v lsb_e)) ?_
    exact ok_PB_reach_b18 C hlk hr p1 0 d9_ hp1 (Or.inl rfl) h
/-! PollBooks$Poll.personOf(I)I -/
def y_Po_personOf : MethodName := ⟨"PollBooks$Poll", "personOf", "(I)I"⟩
def rm_Po_personOf : Room := { frames := 0, cells := 0, slots := 0, locals := 0 }
theorem mw_Po_personOf : MW y_Po_personOf prog_8_method_3_code 2 (some .int) 1 := ⟨lk_1093, lk_10, by decide +kernel⟩
def L_Po_personOf (p1 : Int) (d : Dt) : Option (Int × Dt) :=
  ck ((0 : Int) ≤ p1 ∧ p1 < 30) (if (d 49 3) < (d 51 p1.toNat) then some ((-1), d) else ck ((0 : Int) ≤ p1 ∧ p1 < 30) (some ((d 50 p1.toNat), d)))
set_option maxHeartbeats 4000000 in
theorem ok_Po_personOf {l : Launch} {r : Int} {d' : Dt} (p1 : Int) (d : Dt) (hp1 : c32 p1) (h : L_Po_personOf p1 d = some (r, d')) : MC l y_Po_personOf prog_8_method_3_code 2 (some .int) rm_Po_personOf 0 [(2, 49), (0, p1)] d (some (0, r)) d' := by
  refine MC.of (by decide) (Nat.le_of_ble_eq_true rfl) ?_
  intro p e s m args below meth c D cA ad A C hlk hr
  replace C : Cx p s m args c prog_8_method_3_code 2 "PollBooks$Poll" D cA ad 0 A := C
  show G p l e rm_Po_personOf s m args below meth c 0 0 (MQ below (fun _ => QC D cA ad 0 A (some .int) (some (0, r)) d') args s 0 0 A) 2 D cA ad 0 A 0 [(2, 49), (0, p1)] [] d
  refine g_sub (lo2 := [(2, 49), (0, p1)]) (lsb_v (lsb_v lsb_e)) ?_
  unfold L_Po_personOf at h
  refine g_aload_n C 0 rfl (by decide +kernel) ?_
  refine g_getR C cl6 49 5 51 rfl cd_A49 ⟨by decide, rfl, by decide⟩ rfl rfl (nA (by decide)) (ix := 21) lk_324 (by decide +kernel) ?_
  refine g_iload_n C 1 rfl (by decide +kernel) ?_
  obtain ⟨hb1_, h⟩ := ck_some h
  refine g_iald C 51 hp1 rfl cd_A51 (nA (by decide)) hb1_ (by decide +kernel) (fun hc2_ => ?_)
  refine g_aload_n C 0 rfl (by decide +kernel) ?_
  refine g_getI C cl6 49 3 rfl cd_A49 ⟨by decide, rfl, by decide⟩ rfl (nA (by decide)) (ix := 11) lk_322 (by decide +kernel) (fun hc3_ => ?_)
  refine g_icmp_gt C (off := 12) (tgt := 22) hc2_ hc3_ (by decide +kernel) (by decide) (fun hc4_ => ?_) (fun hc4_ => ?_)
  · replace h := ite_t hc4_ h
    refine g_iconst C (-1) (cK rfl) (by decide +kernel) ?_
    obtain ⟨rfl, rfl⟩ := ret_inj h
    exact g_iret C (cK rfl) hlk hr (by decide +kernel)
  · replace h := ite_f hc4_ h
    refine g_aload_n C 0 rfl (by decide +kernel) ?_
    refine g_getR C cl6 49 4 50 rfl cd_A49 ⟨by decide, rfl, by decide⟩ rfl rfl (nA (by decide)) (ix := 17) lk_323 (by decide +kernel) ?_
    refine g_iload_n C 1 rfl (by decide +kernel) ?_
    obtain ⟨hb5_, h⟩ := ck_some h
    refine g_iald C 50 hp1 rfl cd_A50 (nA (by decide)) hb5_ (by decide +kernel) (fun hc6_ => ?_)
    refine g_goto C 23 (off := 4) (by decide +kernel) (by decide) ?_
    obtain ⟨rfl, rfl⟩ := ret_inj h
    exact g_iret C hc6_ hlk hr (by decide +kernel)
/-! PollBooks.who(I)I -/
def y_PB_who : MethodName := ⟨"PollBooks", "who", "(I)I"⟩
def rm_PB_who : Room := { frames := 1, cells := 0, slots := 0, locals := 22 }
theorem mw_PB_who : MW y_PB_who prog_1_method_33_code 4 (some .int) 1 := ⟨lk_1089, lk_1, by decide +kernel⟩
def L_PB_who_b47 (x3 s1 : Int) (d : Dt) : Option (Int × Dt) :=
  some (x3, (up2 d 0 0 s1))
def L_PB_who_b26 (x2 s0 : Int) (d : Dt) : Option (Int × Dt) :=
  if x2 = 0 then L_PB_who_b47 s0 1 d else if s0 = (-1) then L_PB_who_b47 s0 6 d else L_PB_who_b47 s0 0 d
def L_PB_who (p1 : Int) (d : Dt) : Option (Int × Dt) :=
  bd (L_Bo_has 0 p1 d) (fun r4_ d3_ => if r4_ = 0 then L_PB_who_b26 r4_ (-1) d3_ else bd (L_Po_personOf p1 d3_) (fun r9_ d8_ => L_PB_who_b26 r4_ r9_ d8_))
set_option maxHeartbeats 4000000 in
theorem ok_PB_who_b47 {p : Program} {l : Launch} {e : Env} {s : State} {m : MethodId} {args : Array Value} {below : List Frame} {meth : Method} {c : Code} {D : va_G} {cA : Nat → ClassId} {ad : Nat → Nat} {A : Nat → Prop} (C : Cx p s m args c prog_1_method_33_code 4 "PollBooks" D cA ad 0 A) (hlk : meth.locks = false) (hr : meth.sig.returnType = (some .int)) {r : Int} {d' : Dt} (x3 s1 : Int) (d : Dt) (hx3 : c32 x3) (hs1 : c32 s1) (h : L_PB_who_b47 x3 s1 d = some (r, d')) : G p l e rm_PB_who s m args below meth c 0 0 (MQ below (fun _ => QC D cA ad 0 A (some .int) (some (0, r)) d') args s 0 0 A) 4 D cA ad 0 A 47 [(9, 0), (9, 0), (9, 0), (0, x3)] [(0, s1), (2, 0)] d := by
  unfold L_PB_who_b47 at h
  refine g_putI C cl11 0 0 hs1 rfl cd_A0 ⟨by decide, rfl, by decide⟩ rfl (nA (by decide)) (ix := 9) lk_467 rfl rfl (by decide +kernel) ?_
  refine g_iload_n C 3 rfl (by decide +kernel) ?_
  obtain ⟨rfl, rfl⟩ := ret_inj h
  exact g_iret C hx3 hlk hr (by decide +kernel)
set_option maxHeartbeats 4000000 in
theorem ok_PB_who_b26 {p : Program} {l : Launch} {e : Env} {s : State} {m : MethodId} {args : Array Value} {below : List Frame} {meth : Method} {c : Code} {D : va_G} {cA : Nat → ClassId} {ad : Nat → Nat} {A : Nat → Prop} (C : Cx p s m args c prog_1_method_33_code 4 "PollBooks" D cA ad 0 A) (hlk : meth.locks = false) (hr : meth.sig.returnType = (some .int)) {r : Int} {d' : Dt} (x2 s0 : Int) (d : Dt) (hx2 : cb x2) (hs0 : c32 s0) (h : L_PB_who_b26 x2 s0 d = some (r, d')) : G p l e rm_PB_who s m args below meth c 0 0 (MQ below (fun _ => QC D cA ad 0 A (some .int) (some (0, r)) d') args s 0 0 A) 4 D cA ad 0 A 26 [(2, 0), (9, 0), (0, x2), (9, 0)] [(0, s0)] d := by
  unfold L_PB_who_b26 at h
  refine s_istore_n C 3 (lo' := [(2, 0), (9, 0), (0, x2), (0, s0)]) (by decide) (s1k (s1k (s1n (by decide) s1z))) (by decide +kernel) ?_
  refine g_aload_n C 0 rfl (by decide +kernel) ?_
  refine g_iload_n C 2 rfl (by decide +kernel) ?_
  refine g_if_ne C (off := 7) (tgt := 36) (c32_cb hx2) (by decide +kernel) (by decide) (fun hc1_ => ?_) (fun hc1_ => ?_)
  · replace h := ite_t hc1_ h
    refine g_iconst C 1 (cK rfl) (by decide +kernel) ?_
    refine g_goto C 47 (off := 14) (by decide +kernel) (by decide) ?_
    refine g_sub (lo2 := [(9, 0), (9, 0), (9, 0), (0, s0)]) (lsb_c (lsb_c (lsb_c (lsb_v lsb_e)))) ?_
    exact ok_PB_who_b47 C hlk hr s0 1 d hs0 (c32_cb (Or.inr rfl)) h
  · replace h := ite_f hc1_ h
    refine g_iload_n C 3 rfl (by decide +kernel) ?_
    refine g_iconst C (-1) (cK rfl) (by decide +kernel) ?_
    refine g_icmp_ne C (off := 8) (tgt := 46) hs0 (cK rfl) (by decide +kernel) (by decide) (fun hc2_ => ?_) (fun hc2_ => ?_)
    · replace h := ite_t hc2_ h
      refine g_bipush C 6 (by decide) (by decide +kernel) ?_
      refine g_goto C 47 (off := 4) (by decide +kernel) (by decide) ?_
      refine g_sub (lo2 := [(9, 0), (9, 0), (9, 0), (0, s0)]) (lsb_c (lsb_c (lsb_c (lsb_v lsb_e)))) ?_
      exact ok_PB_who_b47 C hlk hr s0 6 d hs0 (cK rfl) h
    · replace h := ite_f hc2_ h
      refine g_iconst C 0 (cK rfl) (by decide +kernel) ?_
      refine g_sub (lo2 := [(9, 0), (9, 0), (9, 0), (0, s0)]) (lsb_c (lsb_c (lsb_c (lsb_v lsb_e)))) ?_
      exact ok_PB_who_b47 C hlk hr s0 0 d hs0 (c32_cb (Or.inl rfl)) h
set_option maxHeartbeats 4000000 in
theorem ok_PB_who {l : Launch} {r : Int} {d' : Dt} (p1 : Int) (d : Dt) (hp1 : c32 p1) (h : L_PB_who p1 d = some (r, d')) : MC l y_PB_who prog_1_method_33_code 4 (some .int) rm_PB_who 0 [(2, 0), (0, p1)] d (some (0, r)) d' := by
  refine MC.of (by decide) (Nat.le_of_ble_eq_true rfl) ?_
  intro p e s m args below meth c D cA ad A C hlk hr
  replace C : Cx p s m args c prog_1_method_33_code 4 "PollBooks" D cA ad 0 A := C
  show G p l e rm_PB_who s m args below meth c 0 0 (MQ below (fun _ => QC D cA ad 0 A (some .int) (some (0, r)) d') args s 0 0 A) 4 D cA ad 0 A 0 [(2, 0), (0, p1)] [] d
  refine g_sub (lo2 := [(2, 0), (0, p1), (9, 0), (9, 0)]) (lsb_v (lsb_v (lsb_n (lsb_n lsb_e)))) ?_
  unfold L_PB_who at h
  refine g_aload_n C 0 rfl (by decide +kernel) ?_
  refine g_getR C cl11 0 6 37 rfl cd_A0 ⟨by decide, rfl, by decide⟩ rfl rfl (nA (by decide)) (ix := 55) lk_473 (by decide +kernel) ?_
  refine g_iconst C 0 (cK rfl) (by decide +kernel) ?_
  refine g_iload_n C 1 rfl (by decide +kernel) ?_
  obtain ⟨r4_, d3_, hr5_, h⟩ := bd_some h
  refine g_callV C mw_Bo_has [(0, 0), (0, p1)] 37 cl0 rfl (ok_Bo_has 0 p1 d (c32_cb (Or.inl rfl)) hp1 hr5_) cd_A37 (by decide) (nA (by decide)) (ix := 301) lk_1046 lk_1047 lk_1048 ⟨rfl, rfl, Nat.le_of_ble_eq_true rfl, Nat.le_of_ble_eq_true rfl⟩ rfl (rest := []) rfl (Nat.le_of_ble_eq_true rfl) ⟨Nat.zero_le _, Nat.zero_le _⟩ (by decide +kernel) (fun _ hc6_ => ?_)
  replace hc6_ : cb r4_ := hc6_
  refine g_st (st2 := [(0, r4_)]) rfl ?_
  refine s_istore_n C 2 (lo' := [(2, 0), (0, p1), (0, r4_), (9, 0)]) (by decide) (s1k (s1n (by decide) s1z)) (by decide +kernel) ?_
  refine g_iload_n C 2 rfl (by decide +kernel) ?_
  refine g_if_eq C (off := 14) (tgt := 25) (c32_cb hc6_) (by decide +kernel) (by decide) (fun hc7_ => ?_) (fun hc7_ => ?_)
  · replace h := ite_t hc7_ h
    refine g_iconst C (-1) (cK rfl) (by decide +kernel) ?_
    refine g_sub (lo2 := [(2, 0), (9, 0), (0, r4_), (9, 0)]) (lsb_v (lsb_c (lsb_v (lsb_c lsb_e)))) ?_
    exact ok_PB_who_b26 C hlk hr r4_ (-1) d3_ hc6_ (cK rfl) h
  · replace h := ite_f hc7_ h
    refine g_aload_n C 0 rfl (by decide +kernel) ?_
    refine g_getR C cl11 0 7 49 rfl cd_A0 ⟨by decide, rfl, by decide⟩ rfl rfl (nA (by decide)) (ix := 64) lk_474 (by decide +kernel) ?_
    refine g_iload_n C 1 rfl (by decide +kernel) ?_
    obtain ⟨r9_, d8_, hr10_, h⟩ := bd_some h
    refine g_callV C mw_Po_personOf [(0, p1)] 49 cl6 rfl (ok_Po_personOf p1 d3_ hp1 hr10_) cd_A49 (by decide) (nA (by decide)) (ix := 323) lk_1090 lk_1091 lk_1092 ⟨rfl, rfl, Nat.le_of_ble_eq_true rfl, Nat.le_of_ble_eq_true rfl⟩ rfl (rest := []) rfl (Nat.le_of_ble_eq_true rfl) ⟨Nat.zero_le _, Nat.zero_le _⟩ (by decide +kernel) (fun _ hc11_ => ?_)
    replace hc11_ : c32 r9_ := hc11_
    refine g_st (st2 := [(0, r9_)]) rfl ?_
    refine g_goto C 26 (off := 4) (by decide +kernel) (by decide) ?_
    refine g_sub (lo2 := [(2, 0), (9, 0), (0, r4_), (9, 0)]) (lsb_v (lsb_c (lsb_v (lsb_c lsb_e)))) ?_
    exact ok_PB_who_b26 C hlk hr r4_ r9_ d8_ hc6_ hc11_ h
/-! PollBooks$Poll.isSure(I)Z -/
def y_Po_isSure : MethodName := ⟨"PollBooks$Poll", "isSure", "(I)Z"⟩
def rm_Po_isSure : Room := { frames := 0, cells := 0, slots := 0, locals := 0 }
theorem mw_Po_isSure : MW y_Po_isSure prog_8_method_4_code 2 (some .boolean) 1 := ⟨lk_1101, lk_10, by decide +kernel⟩
def L_Po_isSure (p1 : Int) (d : Dt) : Option (Int × Dt) :=
  ck ((0 : Int) ≤ p1 ∧ p1 < 30) (some ((d 52 p1.toNat), d))
set_option maxHeartbeats 4000000 in
theorem ok_Po_isSure {l : Launch} {r : Int} {d' : Dt} (p1 : Int) (d : Dt) (hp1 : c32 p1) (h : L_Po_isSure p1 d = some (r, d')) : MC l y_Po_isSure prog_8_method_4_code 2 (some .boolean) rm_Po_isSure 0 [(2, 49), (0, p1)] d (some (0, r)) d' := by
  refine MC.of (by decide) (Nat.le_of_ble_eq_true rfl) ?_
  intro p e s m args below meth c D cA ad A C hlk hr
  replace C : Cx p s m args c prog_8_method_4_code 2 "PollBooks$Poll" D cA ad 0 A := C
  show G p l e rm_Po_isSure s m args below meth c 0 0 (MQ below (fun _ => QC D cA ad 0 A (some .boolean) (some (0, r)) d') args s 0 0 A) 2 D cA ad 0 A 0 [(2, 49), (0, p1)] [] d
  refine g_sub (lo2 := [(2, 49), (0, p1)]) (lsb_v (lsb_v lsb_e)) ?_
  unfold L_Po_isSure at h
  refine g_aload_n C 0 rfl (by decide +kernel) ?_
  refine g_getR C cl6 49 6 52 rfl cd_A49 ⟨by decide, rfl, by decide⟩ rfl rfl (nA (by decide)) (ix := 24) lk_325 (by decide +kernel) ?_
  refine g_iload_n C 1 rfl (by decide +kernel) ?_
  obtain ⟨hb1_, h⟩ := ck_some h
  refine g_zald C 52 hp1 rfl cd_A52 (nA (by decide)) hb1_ (by decide +kernel) (fun hc2_ => ?_)
  obtain ⟨rfl, rfl⟩ := ret_inj h
  exact g_zret C hc2_ hlk hr (by decide +kernel)
/-! PollBooks$Poll.isTwice(I)Z -/
def y_Po_isTwice : MethodName := ⟨"PollBooks$Poll", "isTwice", "(I)Z"⟩
def rm_Po_isTwice : Room := { frames := 1, cells := 0, slots := 0, locals := 21 }
theorem mw_Po_isTwice : MW y_Po_isTwice prog_8_method_5_code 4 (some .boolean) 1 := ⟨lk_1105, lk_10, by decide +kernel⟩
def L_Po_isTwice_b29 (x1 x2 x3 : Int) (d : Dt) : Option ((Int × Int × Int × Dt) ⊕ ((Dt) ⊕ (Dt))) :=
  some (Sum.inl (x1, x2, (w32 (x3 + 1)), d))
def L_Po_isTwice_y8 (x1 x2 x3 : Int) (d : Dt) : Option ((Int × Int × Int × Dt) ⊕ ((Dt) ⊕ (Dt))) :=
  if x3 < x1 then if x2 = (-1) then L_Po_isTwice_b29 x1 x2 x3 d else bd (L_Po_personOf x3 d) (fun r4_ d3_ => if r4_ = x2 then some (Sum.inr (Sum.inr (d3_))) else L_Po_isTwice_b29 x1 x2 x3 d3_) else some (Sum.inr (Sum.inl (d)))
def L_Po_isTwice_l8 (x1 x2 x3 : Int) (d : Dt) : Option ((Dt) ⊕ (Dt)) := lpF (fun q : Int × Int × Int × Dt => L_Po_isTwice_y8 q.1 q.2.1 q.2.2.1 q.2.2.2) FU (x1, x2, x3, d)
def L_Po_isTwice (p1 : Int) (d : Dt) : Option (Int × Dt) :=
  bd (L_Po_personOf p1 d) (fun r9_ d8_ => lb (L_Po_isTwice_l8 p1 r9_ 0 d8_) (fun q18_ => sm q18_ (fun q19_ => u0 q19_ (fun d14_ => some (0, d14_))) (fun q20_ => u0 q20_ (fun d16_ => some (1, d16_)))))
set_option maxHeartbeats 4000000 in
theorem ok_Po_isTwice_b29 {p : Program} {l : Launch} {e : Env} {s : State} {m : MethodId} {args : Array Value} {below : List Frame} {meth : Method} {c : Code} {D : va_G} {cA : Nat → ClassId} {ad : Nat → Nat} {A : Nat → Prop} (C : Cx p s m args c prog_8_method_5_code 4 "PollBooks$Poll" D cA ad 0 A) {Q : State → Prop} {o : (Int × Int × Int × Dt) ⊕ ((Dt) ⊕ (Dt))} (x1 x2 x3 : Int) (d : Dt) (hx1 : c32 x1) (hx2 : c32 x2) (hx3 : c32 x3) (h : L_Po_isTwice_b29 x1 x2 x3 d = some o) (kb : ∀ (y0 y1 y2 : Int) (e' : Dt), o = .inl (y0, y1, y2, e') → c32 y0 → c32 y1 → c32 y2 → G p l e rm_Po_isTwice s m args below meth c 0 0 Q 4 D cA ad 0 A 8 [(2, 49), (0, y0), (0, y1), (0, y2)] [] e') (k0 : ∀ (e' : Dt), o = .inr (Sum.inl (e')) → G p l e rm_Po_isTwice s m args below meth c 0 0 Q 4 D cA ad 0 A 35 [(9, 0), (9, 0), (9, 0), (9, 0)] [] e') (k1 : ∀ (e' : Dt), o = .inr (Sum.inr (e')) → G p l e rm_Po_isTwice s m args below meth c 0 0 Q 4 D cA ad 0 A 27 [(9, 0), (9, 0), (9, 0), (9, 0)] [] e') : G p l e rm_Po_isTwice s m args below meth c 0 0 Q 4 D cA ad 0 A 29 [(2, 49), (0, x1), (0, x2), (0, x3)] [] d := by
  unfold L_Po_isTwice_b29 at h
  refine s_iinc C 3 1 (lo' := [(2, 49), (0, x1), (0, x2), (0, (w32 (x3 + 1)))]) rfl (by decide) (s1k (s1k (s1n (by decide) s1z))) (by decide +kernel) ?_
  refine g_goto C 8 (off := (-24)) (by decide +kernel) (by decide) ?_
  refine g_sub (lo2 := [(2, 49), (0, x1), (0, x2), (0, (w32 (x3 + 1)))]) (lsb_v (lsb_v (lsb_v (lsb_v lsb_e)))) ?_
  obtain rfl := Option.some.inj h
  exact kb x1 x2 (w32 (x3 + 1)) d rfl hx1 hx2 (w32_c _)
set_option maxHeartbeats 4000000 in
theorem ok_Po_isTwice_y8 {p : Program} {l : Launch} {e : Env} {s : State} {m : MethodId} {args : Array Value} {below : List Frame} {meth : Method} {c : Code} {D : va_G} {cA : Nat → ClassId} {ad : Nat → Nat} {A : Nat → Prop} (C : Cx p s m args c prog_8_method_5_code 4 "PollBooks$Poll" D cA ad 0 A) {Q : State → Prop} {o : (Int × Int × Int × Dt) ⊕ ((Dt) ⊕ (Dt))} (x1 x2 x3 : Int) (d : Dt) (hx1 : c32 x1) (hx2 : c32 x2) (hx3 : c32 x3) (h : L_Po_isTwice_y8 x1 x2 x3 d = some o) (kb : ∀ (y0 y1 y2 : Int) (e' : Dt), o = .inl (y0, y1, y2, e') → c32 y0 → c32 y1 → c32 y2 → G p l e rm_Po_isTwice s m args below meth c 0 0 Q 4 D cA ad 0 A 8 [(2, 49), (0, y0), (0, y1), (0, y2)] [] e') (k0 : ∀ (e' : Dt), o = .inr (Sum.inl (e')) → G p l e rm_Po_isTwice s m args below meth c 0 0 Q 4 D cA ad 0 A 35 [(9, 0), (9, 0), (9, 0), (9, 0)] [] e') (k1 : ∀ (e' : Dt), o = .inr (Sum.inr (e')) → G p l e rm_Po_isTwice s m args below meth c 0 0 Q 4 D cA ad 0 A 27 [(9, 0), (9, 0), (9, 0), (9, 0)] [] e') : G p l e rm_Po_isTwice s m args below meth c 0 0 Q 4 D cA ad 0 A 8 [(2, 49), (0, x1), (0, x2), (0, x3)] [] d := by
  unfold L_Po_isTwice_y8 at h
  refine g_iload_n C 3 rfl (by decide +kernel) ?_
  refine g_iload_n C 1 rfl (by decide +kernel) ?_
  refine g_icmp_ge C (off := 25) (tgt := 35) hx3 hx1 (by decide +kernel) (by decide) (fun hc1_ => ?_) (fun hc1_ => ?_)
  · replace h := ite_t hc1_ h
    refine g_iload_n C 2 rfl (by decide +kernel) ?_
    refine g_iconst C (-1) (cK rfl) (by decide +kernel) ?_
    refine g_icmp_eq C (off := 14) (tgt := 29) hx2 (cK rfl) (by decide +kernel) (by decide) (fun hc2_ => ?_) (fun hc2_ => ?_)
    · replace h := ite_t hc2_ h
      refine g_sub (lo2 := [(2, 49), (0, x1), (0, x2), (0, x3)]) (lsb_v (lsb_v (lsb_v (lsb_v lsb_e)))) ?_
      exact ok_Po_isTwice_b29 C x1 x2 x3 d hx1 hx2 hx3 h kb k0 k1
    · replace h := ite_f hc2_ h
      refine g_aload_n C 0 rfl (by decide +kernel) ?_
      refine g_iload_n C 3 rfl (by decide +kernel) ?_
      obtain ⟨r4_, d3_, hr5_, h⟩ := bd_some h
      refine g_callV C mw_Po_personOf [(0, x3)] 49 cl6 rfl (ok_Po_personOf x3 d hx3 hr5_) cd_A49 (by decide) (nA (by decide)) (ix := 55) lk_1106 lk_1091 lk_1092 ⟨rfl, rfl, Nat.le_of_ble_eq_true rfl, Nat.le_of_ble_eq_true rfl⟩ rfl (rest := []) rfl (Nat.le_of_ble_eq_true rfl) ⟨Nat.zero_le _, Nat.zero_le _⟩ (by decide +kernel) (fun _ hc6_ => ?_)
      replace hc6_ : c32 r4_ := hc6_
      refine g_st (st2 := [(0, r4_)]) rfl ?_
      refine g_iload_n C 2 rfl (by decide +kernel) ?_
      refine g_icmp_ne C (off := 5) (tgt := 29) hc6_ hx2 (by decide +kernel) (by decide) (fun hc7_ => ?_) (fun hc7_ => ?_)
      · replace h := ite_t hc7_ h
        refine g_sub (lo2 := [(9, 0), (9, 0), (9, 0), (9, 0)]) (lsb_c (lsb_c (lsb_c (lsb_c lsb_e)))) ?_
        obtain rfl := Option.some.inj h
        exact k1 d3_ rfl 
      · replace h := ite_f hc7_ h
        refine g_sub (lo2 := [(2, 49), (0, x1), (0, x2), (0, x3)]) (lsb_v (lsb_v (lsb_v (lsb_v lsb_e)))) ?_
        exact ok_Po_isTwice_b29 C x1 x2 x3 d3_ hx1 hx2 hx3 h kb k0 k1
  · replace h := ite_f hc1_ h
    refine g_sub (lo2 := [(9, 0), (9, 0), (9, 0), (9, 0)]) (lsb_c (lsb_c (lsb_c (lsb_c lsb_e)))) ?_
    obtain rfl := Option.some.inj h
    exact k0 d rfl 
set_option maxHeartbeats 4000000 in
theorem ok_Po_isTwice_n8 {p : Program} {l : Launch} {e : Env} {s : State} {m : MethodId} {args : Array Value} {below : List Frame} {meth : Method} {c : Code} {D : va_G} {cA : Nat → ClassId} {ad : Nat → Nat} {A : Nat → Prop} (C : Cx p s m args c prog_8_method_5_code 4 "PollBooks$Poll" D cA ad 0 A) {Q : State → Prop} {x : (Dt) ⊕ (Dt)} : ∀ (n : Nat) (x1 x2 x3 : Int) (d : Dt), c32 x1 → c32 x2 → c32 x3 → lpF (fun q : Int × Int × Int × Dt => L_Po_isTwice_y8 q.1 q.2.1 q.2.2.1 q.2.2.2) n (x1, x2, x3, d) = some x → (∀ (e' : Dt), x = (Sum.inl (e')) → G p l e rm_Po_isTwice s m args below meth c 0 0 Q 4 D cA ad 0 A 35 [(9, 0), (9, 0), (9, 0), (9, 0)] [] e') → (∀ (e' : Dt), x = (Sum.inr (e')) → G p l e rm_Po_isTwice s m args below meth c 0 0 Q 4 D cA ad 0 A 27 [(9, 0), (9, 0), (9, 0), (9, 0)] [] e') → G p l e rm_Po_isTwice s m args below meth c 0 0 Q 4 D cA ad 0 A 8 [(2, 49), (0, x1), (0, x2), (0, x3)] [] d := by
  intro n
  induction n with
  | zero => intro x1 x2 x3 d g0 g1 g2 h k0 k1; cases h
  | succ n ih =>
    intro x1 x2 x3 d g0 g1 g2 h k0 k1
    rcases lpF_some h with h | ⟨⟨v0_, v1_, v2_, e0_⟩, h1, h⟩
    · exact ok_Po_isTwice_y8 C x1 x2 x3 d g0 g1 g2 h (fun z0_ z1_ z2_ e1_ eq w0_ w1_ w2_ => by cases eq) (fun e1_ eq => k0 _ (by cases eq; rfl) ) (fun e1_ eq => k1 _ (by cases eq; rfl) )
    · exact ok_Po_isTwice_y8 C x1 x2 x3 d g0 g1 g2 h1 (fun z0_ z1_ z2_ e1_ eq w0_ w1_ w2_ => by cases eq; exact ih _ _ _ _ w0_ w1_ w2_ h k0 k1) (fun e1_ eq => by cases eq) (fun e1_ eq => by cases eq)
set_option maxHeartbeats 4000000 in
theorem ok_Po_isTwice_l8 {p : Program} {l : Launch} {e : Env} {s : State} {m : MethodId} {args : Array Value} {below : List Frame} {meth : Method} {c : Code} {D : va_G} {cA : Nat → ClassId} {ad : Nat → Nat} {A : Nat → Prop} (C : Cx p s m args c prog_8_method_5_code 4 "PollBooks$Poll" D cA ad 0 A) {Q : State → Prop} {x : (Dt) ⊕ (Dt)} (x1 x2 x3 : Int) (d : Dt) (hx1 : c32 x1) (hx2 : c32 x2) (hx3 : c32 x3) (h : L_Po_isTwice_l8 x1 x2 x3 d = some x) (k0 : ∀ (e' : Dt), x = (Sum.inl (e')) → G p l e rm_Po_isTwice s m args below meth c 0 0 Q 4 D cA ad 0 A 35 [(9, 0), (9, 0), (9, 0), (9, 0)] [] e') (k1 : ∀ (e' : Dt), x = (Sum.inr (e')) → G p l e rm_Po_isTwice s m args below meth c 0 0 Q 4 D cA ad 0 A 27 [(9, 0), (9, 0), (9, 0), (9, 0)] [] e') : G p l e rm_Po_isTwice s m args below meth c 0 0 Q 4 D cA ad 0 A 8 [(2, 49), (0, x1), (0, x2), (0, x3)] [] d :=
  ok_Po_isTwice_n8 C FU x1 x2 x3 d hx1 hx2 hx3 h k0 k1
set_option maxHeartbeats 4000000 in
theorem ok_Po_isTwice {l : Launch} {r : Int} {d' : Dt} (p1 : Int) (d : Dt) (hp1 : c32 p1) (h : L_Po_isTwice p1 d = some (r, d')) : MC l y_Po_isTwice prog_8_method_5_code 4 (some .boolean) rm_Po_isTwice 0 [(2, 49), (0, p1)] d (some (0, r)) d' := by
  refine MC.of (by decide) (Nat.le_of_ble_eq_true rfl) ?_
  intro p e s m args below meth c D cA ad A C hlk hr
  replace C : Cx p s m args c prog_8_method_5_code 4 "PollBooks$Poll" D cA ad 0 A := C
  show G p l e rm_Po_isTwice s m args below meth c 0 0 (MQ below (fun _ => QC D cA ad 0 A (some .boolean) (some (0, r)) d') args s 0 0 A) 4 D cA ad 0 A 0 [(2, 49), (0, p1)] [] d
  refine g_sub (lo2 := [(2, 49), (0, p1), (9, 0), (9, 0)]) (lsb_v (lsb_v (lsb_n (lsb_n lsb_e)))) ?_
  unfold L_Po_isTwice at h
  refine g_aload_n C 0 rfl (by decide +kernel) ?_
  refine g_iload_n C 1 rfl (by decide +kernel) ?_
  obtain ⟨r9_, d8_, hr10_, h⟩ := bd_some h
  refine g_callV C mw_Po_personOf [(0, p1)] 49 cl6 rfl (ok_Po_personOf p1 d hp1 hr10_) cd_A49 (by decide) (nA (by decide)) (ix := 55) lk_1106 lk_1091 lk_1092 ⟨rfl, rfl, Nat.le_of_ble_eq_true rfl, Nat.le_of_ble_eq_true rfl⟩ rfl (rest := []) rfl (Nat.le_of_ble_eq_true rfl) ⟨Nat.zero_le _, Nat.zero_le _⟩ (by decide +kernel) (fun _ hc11_ => ?_)
  replace hc11_ : c32 r9_ := hc11_
  refine g_st (st2 := [(0, r9_)]) rfl ?_
  refine s_istore_n C 2 (lo' := [(2, 49), (0, p1), (0, r9_), (9, 0)]) (by decide) (s1k (s1n (by decide) s1z)) (by decide +kernel) ?_
  refine g_iconst C 0 (cK rfl) (by decide +kernel) ?_
  refine s_istore_n C 3 (lo' := [(2, 49), (0, p1), (0, r9_), (0, 0)]) (by decide) (s1k (s1k (s1n (by decide) s1z))) (by decide +kernel) ?_
  refine g_sub (lo2 := [(2, 49), (0, p1), (0, r9_), (0, 0)]) (lsb_v (lsb_v (lsb_v (lsb_v lsb_e)))) ?_
  obtain ⟨x12_, hx13_, h⟩ := lb_some h
  refine ok_Po_isTwice_l8 C p1 r9_ 0 d8_ hp1 hc11_ (c32_cb (Or.inl rfl)) hx13_ (fun d14_ eq15_ => ?_) (fun d16_ eq17_ => ?_)
  · subst eq15_
    replace h := sml_e h
    replace h := u0_e h
    refine g_iconst C 0 (cK rfl) (by decide +kernel) ?_
    obtain ⟨rfl, rfl⟩ := ret_inj h
    exact g_zret C (Or.inl rfl) hlk hr (by decide +kernel)
  · subst eq17_
    replace h := smr_e h
    replace h := u0_e h
    refine g_iconst C 1 (cK rfl) (by decide +kernel) ?_
    obtain ⟨rfl, rfl⟩ := ret_inj h
    exact g_zret C (Or.inr rfl) hlk hr (by decide +kernel)
/-! PollBooks.sure(II)I -/
def y_PB_sure : MethodName := ⟨"PollBooks", "sure", "(II)I"⟩
def rm_PB_sure : Room := { frames := 2, cells := 0, slots := 0, locals := 44 }
theorem mw_PB_sure : MW y_PB_sure prog_1_method_34_code 4 (some .int) 2 := ⟨lk_1097, lk_1, by decide +kernel⟩
def L_PB_sure_b90 (s0 : Int) (d : Dt) : Option (Int × Dt) :=
  bd (L_PB_bit s0 d) (fun r2_ d1_ => some (r2_, d1_))
def L_PB_sure_b55 (x1 x2 s1 : Int) (d : Dt) : Option (Int × Dt) :=
  if s1 = 0 then if x2 = 0 then bd (L_Po_isSure x1 (up2 d 0 0 s1)) (fun r9_ d8_ => L_PB_sure_b90 r9_ d8_) else bd (L_Po_isTwice x1 (up2 d 0 0 s1)) (fun r13_ d12_ => L_PB_sure_b90 r13_ d12_) else some ((-1), (up2 d 0 0 s1))
def L_PB_sure_b27 (x1 x2 s0 : Int) (d : Dt) : Option (Int × Dt) :=
  if s0 = 0 then L_PB_sure_b55 x1 x2 1 d else bd (L_Po_personOf x1 d) (fun r18_ d17_ => if r18_ = (-1) then L_PB_sure_b55 x1 x2 6 d17_ else L_PB_sure_b55 x1 x2 0 d17_)
def L_PB_sure (p1 p2 : Int) (d : Dt) : Option (Int × Dt) :=
  bd (L_Bo_has 0 p1 d) (fun r23_ d22_ => if r23_ = 0 then L_PB_sure_b27 p1 p2 0 d22_ else bd (L_PB_within p2 0 1 d22_) (fun r28_ d27_ => if r28_ = 0 then L_PB_sure_b27 p1 p2 0 d27_ else L_PB_sure_b27 p1 p2 1 d27_))
set_option maxHeartbeats 4000000 in
theorem ok_PB_sure_b90 {p : Program} {l : Launch} {e : Env} {s : State} {m : MethodId} {args : Array Value} {below : List Frame} {meth : Method} {c : Code} {D : va_G} {cA : Nat → ClassId} {ad : Nat → Nat} {A : Nat → Prop} (C : Cx p s m args c prog_1_method_34_code 4 "PollBooks" D cA ad 0 A) (hlk : meth.locks = false) (hr : meth.sig.returnType = (some .int)) {r : Int} {d' : Dt} (s0 : Int) (d : Dt) (hs0 : cb s0) (h : L_PB_sure_b90 s0 d = some (r, d')) : G p l e rm_PB_sure s m args below meth c 0 0 (MQ below (fun _ => QC D cA ad 0 A (some .int) (some (0, r)) d') args s 0 0 A) 4 D cA ad 0 A 90 [(9, 0), (9, 0), (9, 0), (9, 0)] [(0, s0)] d := by
  unfold L_PB_sure_b90 at h
  obtain ⟨r2_, d1_, hr3_, h⟩ := bd_some h
  refine g_callS C mw_PB_bit [(0, s0)] (ok_PB_bit s0 d hs0 hr3_) (ix := 257) lk_902 lk_716 ⟨rfl, rfl, Nat.le_of_ble_eq_true rfl, Nat.le_of_ble_eq_true rfl⟩ rfl (rest := []) rfl (Nat.le_of_ble_eq_true rfl) ⟨Nat.zero_le _, Nat.zero_le _⟩ (by decide +kernel) (fun _ hc4_ => ?_)
  replace hc4_ : c32 r2_ := hc4_
  refine g_st (st2 := [(0, r2_)]) rfl ?_
  obtain ⟨rfl, rfl⟩ := ret_inj h
  exact g_iret C hc4_ hlk hr (by decide +kernel)
set_option maxHeartbeats 4000000 in
theorem ok_PB_sure_b55 {p : Program} {l : Launch} {e : Env} {s : State} {m : MethodId} {args : Array Value} {below : List Frame} {meth : Method} {c : Code} {D : va_G} {cA : Nat → ClassId} {ad : Nat → Nat} {A : Nat → Prop} (C : Cx p s m args c prog_1_method_34_code 4 "PollBooks" D cA ad 0 A) (hlk : meth.locks = false) (hr : meth.sig.returnType = (some .int)) {r : Int} {d' : Dt} (x1 x2 s1 : Int) (d : Dt) (hx1 : c32 x1) (hx2 : c32 x2) (hs1 : c32 s1) (h : L_PB_sure_b55 x1 x2 s1 d = some (r, d')) : G p l e rm_PB_sure s m args below meth c 0 0 (MQ below (fun _ => QC D cA ad 0 A (some .int) (some (0, r)) d') args s 0 0 A) 4 D cA ad 0 A 55 [(2, 0), (0, x1), (0, x2), (9, 0)] [(0, s1), (2, 0)] d := by
  unfold L_PB_sure_b55 at h
  refine g_putI C cl11 0 0 hs1 rfl cd_A0 ⟨by decide, rfl, by decide⟩ rfl (nA (by decide)) (ix := 9) lk_467 rfl rfl (by decide +kernel) ?_
  refine g_aload_n C 0 rfl (by decide +kernel) ?_
  refine g_getI C cl11 0 0 rfl cd_A0 ⟨by decide, rfl, by decide⟩ rfl (nA (by decide)) (ix := 9) lk_467 (by decide +kernel) (fun hc5_ => ?_)
  refine g_val (y := s1) rfl ?_
  replace hc5_ : c32 s1 := hc5_
  refine g_if_eq C (off := 5) (tgt := 67) hc5_ (by decide +kernel) (by decide) (fun hc6_ => ?_) (fun hc6_ => ?_)
  · replace h := ite_t hc6_ h
    refine g_iload_n C 2 rfl (by decide +kernel) ?_
    refine g_if_ne C (off := 14) (tgt := 82) hx2 (by decide +kernel) (by decide) (fun hc7_ => ?_) (fun hc7_ => ?_)
    · replace h := ite_t hc7_ h
      refine g_aload_n C 0 rfl (by decide +kernel) ?_
      refine g_getR C cl11 0 7 49 rfl cd_A0 ⟨by decide, rfl, by decide⟩ rfl rfl (nA (by decide)) (ix := 64) lk_474 (by decide +kernel) ?_
      refine g_iload_n C 1 rfl (by decide +kernel) ?_
      obtain ⟨r9_, d8_, hr10_, h⟩ := bd_some h
      refine g_callV C mw_Po_isSure [(0, x1)] 49 cl6 rfl (ok_Po_isSure x1 (up2 d 0 0 s1) hx1 hr10_) cd_A49 (by decide) (nA (by decide)) (ix := 326) lk_1098 lk_1099 lk_1100 ⟨rfl, rfl, Nat.le_of_ble_eq_true rfl, Nat.le_of_ble_eq_true rfl⟩ rfl (rest := []) rfl (Nat.le_of_ble_eq_true rfl) ⟨Nat.zero_le _, Nat.zero_le _⟩ (by decide +kernel) (fun _ hc11_ => ?_)
      replace hc11_ : cb r9_ := hc11_
      refine g_st (st2 := [(0, r9_)]) rfl ?_
      refine g_goto C 90 (off := 11) (by decide +kernel) (by decide) ?_
      refine g_sub (lo2 := [(9, 0), (9, 0), (9, 0), (9, 0)]) (lsb_c (lsb_c (lsb_c (lsb_c lsb_e)))) ?_
      exact ok_PB_sure_b90 C hlk hr r9_ d8_ hc11_ h
    · replace h := ite_f hc7_ h
      refine g_aload_n C 0 rfl (by decide +kernel) ?_
      refine g_getR C cl11 0 7 49 rfl cd_A0 ⟨by decide, rfl, by decide⟩ rfl rfl (nA (by decide)) (ix := 64) lk_474 (by decide +kernel) ?_
      refine g_iload_n C 1 rfl (by decide +kernel) ?_
      obtain ⟨r13_, d12_, hr14_, h⟩ := bd_some h
      refine g_callV C mw_Po_isTwice [(0, x1)] 49 cl6 rfl (ok_Po_isTwice x1 (up2 d 0 0 s1) hx1 hr14_) cd_A49 (by decide) (nA (by decide)) (ix := 329) lk_1102 lk_1103 lk_1104 ⟨rfl, rfl, Nat.le_of_ble_eq_true rfl, Nat.le_of_ble_eq_true rfl⟩ rfl (rest := []) rfl (Nat.le_of_ble_eq_true rfl) ⟨Nat.zero_le _, Nat.zero_le _⟩ (by decide +kernel) (fun _ hc15_ => ?_)
      replace hc15_ : cb r13_ := hc15_
      refine g_st (st2 := [(0, r13_)]) rfl ?_
      refine g_sub (lo2 := [(9, 0), (9, 0), (9, 0), (9, 0)]) (lsb_c (lsb_c (lsb_c (lsb_c lsb_e)))) ?_
      exact ok_PB_sure_b90 C hlk hr r13_ d12_ hc15_ h
  · replace h := ite_f hc6_ h
    refine g_iconst C (-1) (cK rfl) (by decide +kernel) ?_
    obtain ⟨rfl, rfl⟩ := ret_inj h
    exact g_iret C (cK rfl) hlk hr (by decide +kernel)
set_option maxHeartbeats 4000000 in
theorem ok_PB_sure_b27 {p : Program} {l : Launch} {e : Env} {s : State} {m : MethodId} {args : Array Value} {below : List Frame} {meth : Method} {c : Code} {D : va_G} {cA : Nat → ClassId} {ad : Nat → Nat} {A : Nat → Prop} (C : Cx p s m args c prog_1_method_34_code 4 "PollBooks" D cA ad 0 A) (hlk : meth.locks = false) (hr : meth.sig.returnType = (some .int)) {r : Int} {d' : Dt} (x1 x2 s0 : Int) (d : Dt) (hx1 : c32 x1) (hx2 : c32 x2) (hs0 : cb s0) (h : L_PB_sure_b27 x1 x2 s0 d = some (r, d')) : G p l e rm_PB_sure s m args below meth c 0 0 (MQ below (fun _ => QC D cA ad 0 A (some .int) (some (0, r)) d') args s 0 0 A) 4 D cA ad 0 A 27 [(2, 0), (0, x1), (0, x2), (9, 0)] [(0, s0)] d := by
  unfold L_PB_sure_b27 at h
  refine s_istore_n C 3 (lo' := [(2, 0), (0, x1), (0, x2), (0, s0)]) (by decide) (s1k (s1k (s1n (by decide) s1z))) (by decide +kernel) ?_
  refine g_aload_n C 0 rfl (by decide +kernel) ?_
  refine g_iload_n C 3 rfl (by decide +kernel) ?_
  refine g_if_ne C (off := 7) (tgt := 37) (c32_cb hs0) (by decide +kernel) (by decide) (fun hc16_ => ?_) (fun hc16_ => ?_)
  · replace h := ite_t hc16_ h
    refine g_iconst C 1 (cK rfl) (by decide +kernel) ?_
    refine g_goto C 55 (off := 21) (by decide +kernel) (by decide) ?_
    refine g_sub (lo2 := [(2, 0), (0, x1), (0, x2), (9, 0)]) (lsb_v (lsb_v (lsb_v (lsb_c lsb_e)))) ?_
    exact ok_PB_sure_b55 C hlk hr x1 x2 1 d hx1 hx2 (c32_cb (Or.inr rfl)) h
  · replace h := ite_f hc16_ h
    refine g_aload_n C 0 rfl (by decide +kernel) ?_
    refine g_getR C cl11 0 7 49 rfl cd_A0 ⟨by decide, rfl, by decide⟩ rfl rfl (nA (by decide)) (ix := 64) lk_474 (by decide +kernel) ?_
    refine g_iload_n C 1 rfl (by decide +kernel) ?_
    obtain ⟨r18_, d17_, hr19_, h⟩ := bd_some h
    refine g_callV C mw_Po_personOf [(0, x1)] 49 cl6 rfl (ok_Po_personOf x1 d hx1 hr19_) cd_A49 (by decide) (nA (by decide)) (ix := 323) lk_1090 lk_1091 lk_1092 ⟨rfl, rfl, Nat.le_of_ble_eq_true rfl, Nat.le_of_ble_eq_true rfl⟩ rfl (rest := [(2, 0)]) rfl (Nat.le_of_ble_eq_true rfl) ⟨Nat.zero_le _, Nat.zero_le _⟩ (by decide +kernel) (fun _ hc20_ => ?_)
    replace hc20_ : c32 r18_ := hc20_
    refine g_st (st2 := [(0, r18_), (2, 0)]) rfl ?_
    refine g_iconst C (-1) (cK rfl) (by decide +kernel) ?_
    refine g_icmp_ne C (off := 8) (tgt := 54) hc20_ (cK rfl) (by decide +kernel) (by decide) (fun hc21_ => ?_) (fun hc21_ => ?_)
    · replace h := ite_t hc21_ h
      refine g_bipush C 6 (by decide) (by decide +kernel) ?_
      refine g_goto C 55 (off := 4) (by decide +kernel) (by decide) ?_
      refine g_sub (lo2 := [(2, 0), (0, x1), (0, x2), (9, 0)]) (lsb_v (lsb_v (lsb_v (lsb_c lsb_e)))) ?_
      exact ok_PB_sure_b55 C hlk hr x1 x2 6 d17_ hx1 hx2 (cK rfl) h
    · replace h := ite_f hc21_ h
      refine g_iconst C 0 (cK rfl) (by decide +kernel) ?_
      refine g_sub (lo2 := [(2, 0), (0, x1), (0, x2), (9, 0)]) (lsb_v (lsb_v (lsb_v (lsb_c lsb_e)))) ?_
      exact ok_PB_sure_b55 C hlk hr x1 x2 0 d17_ hx1 hx2 (c32_cb (Or.inl rfl)) h
set_option maxHeartbeats 4000000 in
theorem ok_PB_sure {l : Launch} {r : Int} {d' : Dt} (p1 p2 : Int) (d : Dt) (hp1 : c32 p1) (hp2 : c32 p2) (h : L_PB_sure p1 p2 d = some (r, d')) : MC l y_PB_sure prog_1_method_34_code 4 (some .int) rm_PB_sure 0 [(2, 0), (0, p1), (0, p2)] d (some (0, r)) d' := by
  refine MC.of (by decide) (Nat.le_of_ble_eq_true rfl) ?_
  intro p e s m args below meth c D cA ad A C hlk hr
  replace C : Cx p s m args c prog_1_method_34_code 4 "PollBooks" D cA ad 0 A := C
  show G p l e rm_PB_sure s m args below meth c 0 0 (MQ below (fun _ => QC D cA ad 0 A (some .int) (some (0, r)) d') args s 0 0 A) 4 D cA ad 0 A 0 [(2, 0), (0, p1), (0, p2)] [] d
  refine g_sub (lo2 := [(2, 0), (0, p1), (0, p2), (9, 0)]) (lsb_v (lsb_v (lsb_v (lsb_n lsb_e)))) ?_
  unfold L_PB_sure at h
  refine g_aload_n C 0 rfl (by decide +kernel) ?_
  refine g_getR C cl11 0 6 37 rfl cd_A0 ⟨by decide, rfl, by decide⟩ rfl rfl (nA (by decide)) (ix := 55) lk_473 (by decide +kernel) ?_
  refine g_iconst C 0 (cK rfl) (by decide +kernel) ?_
  refine g_iload_n C 1 rfl (by decide +kernel) ?_
  obtain ⟨r23_, d22_, hr24_, h⟩ := bd_some h
  refine g_callV C mw_Bo_has [(0, 0), (0, p1)] 37 cl0 rfl (ok_Bo_has 0 p1 d (c32_cb (Or.inl rfl)) hp1 hr24_) cd_A37 (by decide) (nA (by decide)) (ix := 301) lk_1046 lk_1047 lk_1048 ⟨rfl, rfl, Nat.le_of_ble_eq_true rfl, Nat.le_of_ble_eq_true rfl⟩ rfl (rest := []) rfl (Nat.le_of_ble_eq_true rfl) ⟨Nat.zero_le _, Nat.zero_le _⟩ (by decide +kernel) (fun _ hc25_ => ?_)
  replace hc25_ : cb r23_ := hc25_
  refine g_st (st2 := [(0, r23_)]) rfl ?_
  refine g_if_eq C (off := 17) (tgt := 26) (c32_cb hc25_) (by decide +kernel) (by decide) (fun hc26_ => ?_) (fun hc26_ => ?_)
  · replace h := ite_t hc26_ h
    refine g_iconst C 0 (cK rfl) (by decide +kernel) ?_
    refine g_sub (lo2 := [(2, 0), (0, p1), (0, p2), (9, 0)]) (lsb_v (lsb_v (lsb_v (lsb_c lsb_e)))) ?_
    exact ok_PB_sure_b27 C hlk hr p1 p2 0 d22_ hp1 hp2 (Or.inl rfl) h
  · replace h := ite_f hc26_ h
    refine g_iload_n C 2 rfl (by decide +kernel) ?_
    refine g_i2l C hp2 (by decide +kernel) ?_
    refine g_lconst C 0 (v := 0) (by decide) (by decide +kernel) ?_
    refine g_lconst C 1 (v := 1) (by decide) (by decide +kernel) ?_
    obtain ⟨r28_, d27_, hr29_, h⟩ := bd_some h
    refine g_callS C mw_PB_within [(1, p2), (1, 0), (1, 1)] (ok_PB_within p2 0 1 d22_ (c64_32 hp2) (cL rfl) (cL rfl) hr29_) (ix := 105) lk_520 lk_521 ⟨rfl, rfl, Nat.le_of_ble_eq_true rfl, Nat.le_of_ble_eq_true rfl⟩ rfl (rest := []) rfl (Nat.le_of_ble_eq_true rfl) ⟨Nat.zero_le _, Nat.zero_le _⟩ (by decide +kernel) (fun _ hc30_ => ?_)
    replace hc30_ : cb r28_ := hc30_
    refine g_st (st2 := [(0, r28_)]) rfl ?_
    refine g_if_eq C (off := 7) (tgt := 26) (c32_cb hc30_) (by decide +kernel) (by decide) (fun hc31_ => ?_) (fun hc31_ => ?_)
    · replace h := ite_t hc31_ h
      refine g_iconst C 0 (cK rfl) (by decide +kernel) ?_
      refine g_sub (lo2 := [(2, 0), (0, p1), (0, p2), (9, 0)]) (lsb_v (lsb_v (lsb_v (lsb_c lsb_e)))) ?_
      exact ok_PB_sure_b27 C hlk hr p1 p2 0 d27_ hp1 hp2 (Or.inl rfl) h
    · replace h := ite_f hc31_ h
      refine g_iconst C 1 (cK rfl) (by decide +kernel) ?_
      refine g_goto C 27 (off := 4) (by decide +kernel) (by decide) ?_
      refine g_sub (lo2 := [(2, 0), (0, p1), (0, p2), (9, 0)]) (lsb_v (lsb_v (lsb_v (lsb_c lsb_e)))) ?_
      exact ok_PB_sure_b27 C hlk hr p1 p2 1 d27_ hp1 hp2 (Or.inr rfl) h
/-! PollBooks$Poll.offersFull()Z -/
def y_Po_offersFull : MethodName := ⟨"PollBooks$Poll", "offersFull", "()Z"⟩
def rm_Po_offersFull : Room := { frames := 0, cells := 0, slots := 0, locals := 0 }
theorem mw_Po_offersFull : MW y_Po_offersFull prog_8_method_10_code 1 (some .boolean) 0 := ⟨lk_1114, lk_10, by decide +kernel⟩
def L_Po_offersFull (d : Dt) : Option (Int × Dt) :=
  if (d 49 11) < 20 then some (0, d) else some (1, d)
set_option maxHeartbeats 4000000 in
theorem ok_Po_offersFull {l : Launch} {r : Int} {d' : Dt} (d : Dt)  (h : L_Po_offersFull d = some (r, d')) : MC l y_Po_offersFull prog_8_method_10_code 1 (some .boolean) rm_Po_offersFull 0 [(2, 49)] d (some (0, r)) d' := by
  refine MC.of (by decide) (Nat.le_of_ble_eq_true rfl) ?_
  intro p e s m args below meth c D cA ad A C hlk hr
  replace C : Cx p s m args c prog_8_method_10_code 1 "PollBooks$Poll" D cA ad 0 A := C
  show G p l e rm_Po_offersFull s m args below meth c 0 0 (MQ below (fun _ => QC D cA ad 0 A (some .boolean) (some (0, r)) d') args s 0 0 A) 1 D cA ad 0 A 0 [(2, 49)] [] d
  refine g_sub (lo2 := [(2, 49)]) (lsb_v lsb_e) ?_
  unfold L_Po_offersFull at h
  refine g_aload_n C 0 rfl (by decide +kernel) ?_
  refine g_getI C cl6 49 11 rfl cd_A49 ⟨by decide, rfl, by decide⟩ rfl (nA (by decide)) (ix := 88) lk_330 (by decide +kernel) (fun hc1_ => ?_)
  refine g_bipush C 20 (by decide) (by decide +kernel) ?_
  refine g_icmp_lt C (off := 7) (tgt := 13) hc1_ (cK rfl) (by decide +kernel) (by decide) (fun hc2_ => ?_) (fun hc2_ => ?_)
  · replace h := ite_t hc2_ h
    refine g_iconst C 0 (cK rfl) (by decide +kernel) ?_
    obtain ⟨rfl, rfl⟩ := ret_inj h
    exact g_zret C (Or.inl rfl) hlk hr (by decide +kernel)
  · replace h := ite_f hc2_ h
    refine g_iconst C 1 (cK rfl) (by decide +kernel) ?_
    refine g_goto C 14 (off := 4) (by decide +kernel) (by decide) ?_
    obtain ⟨rfl, rfl⟩ := ret_inj h
    exact g_zret C (Or.inr rfl) hlk hr (by decide +kernel)
/-! PollBooks$Poll.addOffer(III)I -/
def y_Po_addOffer : MethodName := ⟨"PollBooks$Poll", "addOffer", "(III)I"⟩
def rm_Po_addOffer : Room := { frames := 0, cells := 0, slots := 0, locals := 0 }
theorem mw_Po_addOffer : MW y_Po_addOffer prog_8_method_12_code 4 (some .int) 3 := ⟨lk_1118, lk_10, by decide +kernel⟩
def L_Po_addOffer (p1 p2 p3 : Int) (d : Dt) : Option (Int × Dt) :=
  ck ((0 : Int) ≤ (d 49 11) ∧ (d 49 11) < 20) (ck ((0 : Int) ≤ (d 49 11) ∧ (d 49 11) < 20) (ck ((0 : Int) ≤ (d 49 11) ∧ (d 49 11) < 20) (some ((w32 ((w32 ((d 49 11) + 1)) - 1)), (up2 (up2 (up2 (up2 d 54 ((d 49 11)).toNat p1) 55 ((d 49 11)).toNat p2) 56 ((d 49 11)).toNat p3) 49 11 (w32 ((d 49 11) + 1)))))))
set_option maxHeartbeats 4000000 in
theorem ok_Po_addOffer {l : Launch} {r : Int} {d' : Dt} (p1 p2 p3 : Int) (d : Dt) (hp1 : c32 p1) (hp2 : c32 p2) (hp3 : c32 p3) (h : L_Po_addOffer p1 p2 p3 d = some (r, d')) : MC l y_Po_addOffer prog_8_method_12_code 4 (some .int) rm_Po_addOffer 0 [(2, 49), (0, p1), (0, p2), (0, p3)] d (some (0, r)) d' := by
  refine MC.of (by decide) (Nat.le_of_ble_eq_true rfl) ?_
  intro p e s m args below meth c D cA ad A C hlk hr
  replace C : Cx p s m args c prog_8_method_12_code 4 "PollBooks$Poll" D cA ad 0 A := C
  show G p l e rm_Po_addOffer s m args below meth c 0 0 (MQ below (fun _ => QC D cA ad 0 A (some .int) (some (0, r)) d') args s 0 0 A) 4 D cA ad 0 A 0 [(2, 49), (0, p1), (0, p2), (0, p3)] [] d
  refine g_sub (lo2 := [(2, 49), (0, p1), (0, p2), (0, p3)]) (lsb_v (lsb_v (lsb_v (lsb_v lsb_e)))) ?_
  unfold L_Po_addOffer at h
  refine g_aload_n C 0 rfl (by decide +kernel) ?_
  refine g_getR C cl6 49 8 54 rfl cd_A49 ⟨by decide, rfl, by decide⟩ rfl rfl (nA (by decide)) (ix := 31) lk_327 (by decide +kernel) ?_
  refine g_aload_n C 0 rfl (by decide +kernel) ?_
  refine g_getI C cl6 49 11 rfl cd_A49 ⟨by decide, rfl, by decide⟩ rfl (nA (by decide)) (ix := 88) lk_330 (by decide +kernel) (fun hc1_ => ?_)
  refine g_iload_n C 1 rfl (by decide +kernel) ?_
  obtain ⟨hb2_, h⟩ := ck_some h
  refine g_iast C 54 hp1 hc1_ rfl cd_A54 (nA (by decide)) hb2_ (by decide +kernel) ?_
  refine g_aload_n C 0 rfl (by decide +kernel) ?_
  refine g_getR C cl6 49 9 55 rfl cd_A49 ⟨by decide, rfl, by decide⟩ rfl rfl (nA (by decide)) (ix := 34) lk_328 (by decide +kernel) ?_
  refine g_aload_n C 0 rfl (by decide +kernel) ?_
  refine g_getI C cl6 49 11 rfl cd_A49 ⟨by decide, rfl, by decide⟩ rfl (nA (by decide)) (ix := 88) lk_330 (by decide +kernel) (fun hc3_ => ?_)
  refine g_val (y := (d 49 11)) rfl ?_
  replace hc3_ : c32 (d 49 11) := hc3_
  refine g_iload_n C 2 rfl (by decide +kernel) ?_
  obtain ⟨hb4_, h⟩ := ck_some h
  refine g_iast C 55 hp2 hc3_ rfl cd_A55 (nA (by decide)) hb4_ (by decide +kernel) ?_
  refine g_aload_n C 0 rfl (by decide +kernel) ?_
  refine g_getR C cl6 49 10 56 rfl cd_A49 ⟨by decide, rfl, by decide⟩ rfl rfl (nA (by decide)) (ix := 37) lk_329 (by decide +kernel) ?_
  refine g_aload_n C 0 rfl (by decide +kernel) ?_
  refine g_getI C cl6 49 11 rfl cd_A49 ⟨by decide, rfl, by decide⟩ rfl (nA (by decide)) (ix := 88) lk_330 (by decide +kernel) (fun hc5_ => ?_)
  refine g_val (y := (d 49 11)) rfl ?_
  replace hc5_ : c32 (d 49 11) := hc5_
  refine g_iload_n C 3 rfl (by decide +kernel) ?_
  obtain ⟨hb6_, h⟩ := ck_some h
  refine g_iast C 56 hp3 hc5_ rfl cd_A56 (nA (by decide)) hb6_ (by decide +kernel) ?_
  refine g_aload_n C 0 rfl (by decide +kernel) ?_
  refine g_dup C tg2 (by decide +kernel) ?_
  refine g_getI C cl6 49 11 rfl cd_A49 ⟨by decide, rfl, by decide⟩ rfl (nA (by decide)) (ix := 88) lk_330 (by decide +kernel) (fun hc7_ => ?_)
  refine g_val (y := (d 49 11)) rfl ?_
  replace hc7_ : c32 (d 49 11) := hc7_
  refine g_iconst C 1 (cK rfl) (by decide +kernel) ?_
  refine g_iadd C (by decide +kernel) ?_
  refine g_putI C cl6 49 11 (w32_c _) rfl cd_A49 ⟨by decide, rfl, by decide⟩ rfl (nA (by decide)) (ix := 88) lk_330 rfl rfl (by decide +kernel) ?_
  refine g_aload_n C 0 rfl (by decide +kernel) ?_
  refine g_getI C cl6 49 11 rfl cd_A49 ⟨by decide, rfl, by decide⟩ rfl (nA (by decide)) (ix := 88) lk_330 (by decide +kernel) (fun hc8_ => ?_)
  refine g_val (y := (w32 ((d 49 11) + 1))) rfl ?_
  replace hc8_ : c32 (w32 ((d 49 11) + 1)) := hc8_
  refine g_iconst C 1 (cK rfl) (by decide +kernel) ?_
  refine g_isub C (by decide +kernel) ?_
  obtain ⟨rfl, rfl⟩ := ret_inj h
  exact g_iret C (w32_c _) hlk hr (by decide +kernel)
/-! PollBooks.offer(III)I -/
def y_PB_offer : MethodName := ⟨"PollBooks", "offer", "(III)I"⟩
def rm_PB_offer : Room := { frames := 2, cells := 0, slots := 0, locals := 45 }
theorem mw_PB_offer : MW y_PB_offer prog_1_method_35_code 5 (some .int) 3 := ⟨lk_1110, lk_1, by decide +kernel⟩
def L_PB_offer_b57 (x1 x2 x3 s1 : Int) (d : Dt) : Option (Int × Dt) :=
  if s1 = 0 then bd (L_Po_addOffer x1 x2 x3 (up2 d 0 0 s1)) (fun r4_ d3_ => some (r4_, d3_)) else some ((-1), (up2 d 0 0 s1))
def L_PB_offer_b30 (x1 x2 x3 s0 : Int) (d : Dt) : Option (Int × Dt) :=
  if s0 = 0 then L_PB_offer_b57 x1 x2 x3 1 d else bd (L_Po_offersFull d) (fun r9_ d8_ => if r9_ = 0 then L_PB_offer_b57 x1 x2 x3 0 d8_ else L_PB_offer_b57 x1 x2 x3 4 d8_)
def L_PB_offer (p1 p2 p3 : Int) (d : Dt) : Option (Int × Dt) :=
  bd (L_Pe_has p1 d) (fun r14_ d13_ => if r14_ = 0 then L_PB_offer_b30 p1 p2 p3 0 d13_ else bd (L_PB_isSet p2 d13_) (fun r19_ d18_ => if r19_ = 0 then L_PB_offer_b30 p1 p2 p3 0 d18_ else bd (L_PB_isMinute p3 d18_) (fun r24_ d23_ => if r24_ = 0 then L_PB_offer_b30 p1 p2 p3 0 d23_ else L_PB_offer_b30 p1 p2 p3 1 d23_)))
set_option maxHeartbeats 4000000 in
theorem ok_PB_offer_b57 {p : Program} {l : Launch} {e : Env} {s : State} {m : MethodId} {args : Array Value} {below : List Frame} {meth : Method} {c : Code} {D : va_G} {cA : Nat → ClassId} {ad : Nat → Nat} {A : Nat → Prop} (C : Cx p s m args c prog_1_method_35_code 5 "PollBooks" D cA ad 0 A) (hlk : meth.locks = false) (hr : meth.sig.returnType = (some .int)) {r : Int} {d' : Dt} (x1 x2 x3 s1 : Int) (d : Dt) (hx1 : c32 x1) (hx2 : c32 x2) (hx3 : c32 x3) (hs1 : c32 s1) (h : L_PB_offer_b57 x1 x2 x3 s1 d = some (r, d')) : G p l e rm_PB_offer s m args below meth c 0 0 (MQ below (fun _ => QC D cA ad 0 A (some .int) (some (0, r)) d') args s 0 0 A) 5 D cA ad 0 A 57 [(2, 0), (0, x1), (0, x2), (0, x3), (9, 0)] [(0, s1), (2, 0)] d := by
  unfold L_PB_offer_b57 at h
  refine g_putI C cl11 0 0 hs1 rfl cd_A0 ⟨by decide, rfl, by decide⟩ rfl (nA (by decide)) (ix := 9) lk_467 rfl rfl (by decide +kernel) ?_
  refine g_aload_n C 0 rfl (by decide +kernel) ?_
  refine g_getI C cl11 0 0 rfl cd_A0 ⟨by decide, rfl, by decide⟩ rfl (nA (by decide)) (ix := 9) lk_467 (by decide +kernel) (fun hc1_ => ?_)
  refine g_val (y := s1) rfl ?_
  replace hc1_ : c32 s1 := hc1_
  refine g_if_ne C (off := 16) (tgt := 80) hc1_ (by decide +kernel) (by decide) (fun hc2_ => ?_) (fun hc2_ => ?_)
  · replace h := ite_t hc2_ h
    refine g_aload_n C 0 rfl (by decide +kernel) ?_
    refine g_getR C cl11 0 7 49 rfl cd_A0 ⟨by decide, rfl, by decide⟩ rfl rfl (nA (by decide)) (ix := 64) lk_474 (by decide +kernel) ?_
    refine g_iload_n C 1 rfl (by decide +kernel) ?_
    refine g_iload_n C 2 rfl (by decide +kernel) ?_
    refine g_iload_n C 3 rfl (by decide +kernel) ?_
    obtain ⟨r4_, d3_, hr5_, h⟩ := bd_some h
    refine g_callV C mw_Po_addOffer [(0, x1), (0, x2), (0, x3)] 49 cl6 rfl (ok_Po_addOffer x1 x2 x3 (up2 d 0 0 s1) hx1 hx2 hx3 hr5_) cd_A49 (by decide) (nA (by decide)) (ix := 335) lk_1115 lk_1116 lk_1117 ⟨rfl, rfl, Nat.le_of_ble_eq_true rfl, Nat.le_of_ble_eq_true rfl⟩ rfl (rest := []) rfl (Nat.le_of_ble_eq_true rfl) ⟨Nat.zero_le _, Nat.zero_le _⟩ (by decide +kernel) (fun _ hc6_ => ?_)
    replace hc6_ : c32 r4_ := hc6_
    refine g_st (st2 := [(0, r4_)]) rfl ?_
    refine g_goto C 81 (off := 4) (by decide +kernel) (by decide) ?_
    obtain ⟨rfl, rfl⟩ := ret_inj h
    exact g_iret C hc6_ hlk hr (by decide +kernel)
  · replace h := ite_f hc2_ h
    refine g_iconst C (-1) (cK rfl) (by decide +kernel) ?_
    obtain ⟨rfl, rfl⟩ := ret_inj h
    exact g_iret C (cK rfl) hlk hr (by decide +kernel)
set_option maxHeartbeats 4000000 in
theorem ok_PB_offer_b30 {p : Program} {l : Launch} {e : Env} {s : State} {m : MethodId} {args : Array Value} {below : List Frame} {meth : Method} {c : Code} {D : va_G} {cA : Nat → ClassId} {ad : Nat → Nat} {A : Nat → Prop} (C : Cx p s m args c prog_1_method_35_code 5 "PollBooks" D cA ad 0 A) (hlk : meth.locks = false) (hr : meth.sig.returnType = (some .int)) {r : Int} {d' : Dt} (x1 x2 x3 s0 : Int) (d : Dt) (hx1 : c32 x1) (hx2 : c32 x2) (hx3 : c32 x3) (hs0 : cb s0) (h : L_PB_offer_b30 x1 x2 x3 s0 d = some (r, d')) : G p l e rm_PB_offer s m args below meth c 0 0 (MQ below (fun _ => QC D cA ad 0 A (some .int) (some (0, r)) d') args s 0 0 A) 5 D cA ad 0 A 30 [(2, 0), (0, x1), (0, x2), (0, x3), (9, 0)] [(0, s0)] d := by
  unfold L_PB_offer_b30 at h
  refine s_istore C 4 (lo' := [(2, 0), (0, x1), (0, x2), (0, x3), (0, s0)]) (by decide) (s1k (s1k (s1k (s1n (by decide) s1z)))) (by decide +kernel) ?_
  refine g_aload_n C 0 rfl (by decide +kernel) ?_
  refine g_iload C 4 rfl (by decide +kernel) ?_
  refine g_if_ne C (off := 7) (tgt := 42) (c32_cb hs0) (by decide +kernel) (by decide) (fun hc7_ => ?_) (fun hc7_ => ?_)
  · replace h := ite_t hc7_ h
    refine g_iconst C 1 (cK rfl) (by decide +kernel) ?_
    refine g_goto C 57 (off := 18) (by decide +kernel) (by decide) ?_
    refine g_sub (lo2 := [(2, 0), (0, x1), (0, x2), (0, x3), (9, 0)]) (lsb_v (lsb_v (lsb_v (lsb_v (lsb_c lsb_e))))) ?_
    exact ok_PB_offer_b57 C hlk hr x1 x2 x3 1 d hx1 hx2 hx3 (c32_cb (Or.inr rfl)) h
  · replace h := ite_f hc7_ h
    refine g_aload_n C 0 rfl (by decide +kernel) ?_
    refine g_getR C cl11 0 7 49 rfl cd_A0 ⟨by decide, rfl, by decide⟩ rfl rfl (nA (by decide)) (ix := 64) lk_474 (by decide +kernel) ?_
    obtain ⟨r9_, d8_, hr10_, h⟩ := bd_some h
    refine g_callV C mw_Po_offersFull [] 49 cl6 rfl (ok_Po_offersFull  d  hr10_) cd_A49 (by decide) (nA (by decide)) (ix := 332) lk_1111 lk_1112 lk_1113 ⟨rfl, rfl, Nat.le_of_ble_eq_true rfl, Nat.le_of_ble_eq_true rfl⟩ rfl (rest := [(2, 0)]) rfl (Nat.le_of_ble_eq_true rfl) ⟨Nat.zero_le _, Nat.zero_le _⟩ (by decide +kernel) (fun _ hc11_ => ?_)
    replace hc11_ : cb r9_ := hc11_
    refine g_st (st2 := [(0, r9_), (2, 0)]) rfl ?_
    refine g_if_eq C (off := 7) (tgt := 56) (c32_cb hc11_) (by decide +kernel) (by decide) (fun hc12_ => ?_) (fun hc12_ => ?_)
    · replace h := ite_t hc12_ h
      refine g_iconst C 0 (cK rfl) (by decide +kernel) ?_
      refine g_sub (lo2 := [(2, 0), (0, x1), (0, x2), (0, x3), (9, 0)]) (lsb_v (lsb_v (lsb_v (lsb_v (lsb_c lsb_e))))) ?_
      exact ok_PB_offer_b57 C hlk hr x1 x2 x3 0 d8_ hx1 hx2 hx3 (c32_cb (Or.inl rfl)) h
    · replace h := ite_f hc12_ h
      refine g_iconst C 4 (cK rfl) (by decide +kernel) ?_
      refine g_goto C 57 (off := 4) (by decide +kernel) (by decide) ?_
      refine g_sub (lo2 := [(2, 0), (0, x1), (0, x2), (0, x3), (9, 0)]) (lsb_v (lsb_v (lsb_v (lsb_v (lsb_c lsb_e))))) ?_
      exact ok_PB_offer_b57 C hlk hr x1 x2 x3 4 d8_ hx1 hx2 hx3 (cK rfl) h
set_option maxHeartbeats 4000000 in
theorem ok_PB_offer {l : Launch} {r : Int} {d' : Dt} (p1 p2 p3 : Int) (d : Dt) (hp1 : c32 p1) (hp2 : c32 p2) (hp3 : c32 p3) (h : L_PB_offer p1 p2 p3 d = some (r, d')) : MC l y_PB_offer prog_1_method_35_code 5 (some .int) rm_PB_offer 0 [(2, 0), (0, p1), (0, p2), (0, p3)] d (some (0, r)) d' := by
  refine MC.of (by decide) (Nat.le_of_ble_eq_true rfl) ?_
  intro p e s m args below meth c D cA ad A C hlk hr
  replace C : Cx p s m args c prog_1_method_35_code 5 "PollBooks" D cA ad 0 A := C
  show G p l e rm_PB_offer s m args below meth c 0 0 (MQ below (fun _ => QC D cA ad 0 A (some .int) (some (0, r)) d') args s 0 0 A) 5 D cA ad 0 A 0 [(2, 0), (0, p1), (0, p2), (0, p3)] [] d
  refine g_sub (lo2 := [(2, 0), (0, p1), (0, p2), (0, p3), (9, 0)]) (lsb_v (lsb_v (lsb_v (lsb_v (lsb_n lsb_e))))) ?_
  unfold L_PB_offer at h
  refine g_aload_n C 0 rfl (by decide +kernel) ?_
  refine g_getR C cl11 0 2 7 rfl cd_A0 ⟨by decide, rfl, by decide⟩ rfl rfl (nA (by decide)) (ix := 23) lk_469 (by decide +kernel) ?_
  refine g_iload_n C 1 rfl (by decide +kernel) ?_
  obtain ⟨r14_, d13_, hr15_, h⟩ := bd_some h
  refine g_callV C mw_Pe_has [(0, p1)] 7 cl5 rfl (ok_Pe_has p1 d hp1 hr15_) cd_A7 (by decide) (nA (by decide)) (ix := 173) lk_637 lk_638 lk_639 ⟨rfl, rfl, Nat.le_of_ble_eq_true rfl, Nat.le_of_ble_eq_true rfl⟩ rfl (rest := []) rfl (Nat.le_of_ble_eq_true rfl) ⟨Nat.zero_le _, Nat.zero_le _⟩ (by decide +kernel) (fun _ hc16_ => ?_)
  replace hc16_ : cb r14_ := hc16_
  refine g_st (st2 := [(0, r14_)]) rfl ?_
  refine g_if_eq C (off := 21) (tgt := 29) (c32_cb hc16_) (by decide +kernel) (by decide) (fun hc17_ => ?_) (fun hc17_ => ?_)
  · replace h := ite_t hc17_ h
    refine g_iconst C 0 (cK rfl) (by decide +kernel) ?_
    refine g_sub (lo2 := [(2, 0), (0, p1), (0, p2), (0, p3), (9, 0)]) (lsb_v (lsb_v (lsb_v (lsb_v (lsb_c lsb_e))))) ?_
    exact ok_PB_offer_b30 C hlk hr p1 p2 p3 0 d13_ hp1 hp2 hp3 (Or.inl rfl) h
  · replace h := ite_f hc17_ h
    refine g_iload_n C 2 rfl (by decide +kernel) ?_
    obtain ⟨r19_, d18_, hr20_, h⟩ := bd_some h
    refine g_callS C mw_PB_isSet [(0, p2)] (ok_PB_isSet p2 d13_ hp2 hr20_) (ix := 286) lk_986 lk_987 ⟨rfl, rfl, Nat.le_of_ble_eq_true rfl, Nat.le_of_ble_eq_true rfl⟩ rfl (rest := []) rfl (Nat.le_of_ble_eq_true rfl) ⟨Nat.zero_le _, Nat.zero_le _⟩ (by decide +kernel) (fun _ hc21_ => ?_)
    replace hc21_ : cb r19_ := hc21_
    refine g_st (st2 := [(0, r19_)]) rfl ?_
    refine g_if_eq C (off := 14) (tgt := 29) (c32_cb hc21_) (by decide +kernel) (by decide) (fun hc22_ => ?_) (fun hc22_ => ?_)
    · replace h := ite_t hc22_ h
      refine g_iconst C 0 (cK rfl) (by decide +kernel) ?_
      refine g_sub (lo2 := [(2, 0), (0, p1), (0, p2), (0, p3), (9, 0)]) (lsb_v (lsb_v (lsb_v (lsb_v (lsb_c lsb_e))))) ?_
      exact ok_PB_offer_b30 C hlk hr p1 p2 p3 0 d18_ hp1 hp2 hp3 (Or.inl rfl) h
    · replace h := ite_f hc22_ h
      refine g_iload_n C 3 rfl (by decide +kernel) ?_
      obtain ⟨r24_, d23_, hr25_, h⟩ := bd_some h
      refine g_callS C mw_PB_isMinute [(0, p3)] (ok_PB_isMinute p3 d18_ hp3 hr25_) (ix := 281) lk_911 lk_912 ⟨rfl, rfl, Nat.le_of_ble_eq_true rfl, Nat.le_of_ble_eq_true rfl⟩ rfl (rest := []) rfl (Nat.le_of_ble_eq_true rfl) ⟨Nat.zero_le _, Nat.zero_le _⟩ (by decide +kernel) (fun _ hc26_ => ?_)
      replace hc26_ : cb r24_ := hc26_
      refine g_st (st2 := [(0, r24_)]) rfl ?_
      refine g_if_eq C (off := 7) (tgt := 29) (c32_cb hc26_) (by decide +kernel) (by decide) (fun hc27_ => ?_) (fun hc27_ => ?_)
      · replace h := ite_t hc27_ h
        refine g_iconst C 0 (cK rfl) (by decide +kernel) ?_
        refine g_sub (lo2 := [(2, 0), (0, p1), (0, p2), (0, p3), (9, 0)]) (lsb_v (lsb_v (lsb_v (lsb_v (lsb_c lsb_e))))) ?_
        exact ok_PB_offer_b30 C hlk hr p1 p2 p3 0 d23_ hp1 hp2 hp3 (Or.inl rfl) h
      · replace h := ite_f hc27_ h
        refine g_iconst C 1 (cK rfl) (by decide +kernel) ?_
        refine g_goto C 30 (off := 4) (by decide +kernel) (by decide) ?_
        refine g_sub (lo2 := [(2, 0), (0, p1), (0, p2), (0, p3), (9, 0)]) (lsb_v (lsb_v (lsb_v (lsb_v (lsb_c lsb_e))))) ?_
        exact ok_PB_offer_b30 C hlk hr p1 p2 p3 1 d23_ hp1 hp2 hp3 (Or.inr rfl) h
/-! java/lang/Integer.bitCount(I)I -/
def y_In_bitCount : MethodName := ⟨"java/lang/Integer", "bitCount", "(I)I"⟩
def rm_In_bitCount : Room := { frames := 0, cells := 0, slots := 0, locals := 0 }
theorem mw_In_bitCount : MW y_In_bitCount prog_15_method_49_code 1 (some .int) 1 := ⟨lk_1138, lk_21, by decide +kernel⟩
def L_In_bitCount (p1 : Int) (d : Dt) : Option (Int × Dt) :=
  lt_ (w32 (p1 - (iand (iushr p1 1) 1431655765))) (fun v1_ => lt_ (w32 ((iand v1_ 858993459) + (iand (iushr v1_ 2) 858993459))) (fun v4_ => lt_ (iand (w32 (v4_ + (iushr v4_ 4))) 252645135) (fun v7_ => lt_ (w32 (v7_ + (iushr v7_ 8))) (fun v10_ => lt_ (w32 (v10_ + (iushr v10_ 16))) (fun v13_ => some ((iand v13_ 63), d))))))
set_option maxHeartbeats 4000000 in
theorem ok_In_bitCount {l : Launch} {wd : Nat} {r : Int} {d' : Dt} (p1 : Int) (d : Dt) (hp1 : c32 p1) (h : L_In_bitCount p1 d = some (r, d')) : MC l y_In_bitCount prog_15_method_49_code 1 (some .int) rm_In_bitCount wd [(0, p1)] d (some (0, r)) d' := by
  refine MC.of (by decide) (Nat.le_of_ble_eq_true rfl) ?_
  intro p e s m args below meth c D cA ad A C hlk hr
  replace C : Cx p s m args c prog_15_method_49_code 1 "java/lang/Integer" D cA ad wd A := C
  show G p l e rm_In_bitCount s m args below meth c 0 0 (MQ below (fun _ => QC D cA ad wd A (some .int) (some (0, r)) d') args s 0 0 A) 1 D cA ad wd A 0 [(0, p1)] [] d
  refine g_sub (lo2 := [(0, p1)]) (lsb_v lsb_e) ?_
  unfold L_In_bitCount at h
  refine g_iload_n C 0 rfl (by decide +kernel) ?_
  refine g_iload_n C 0 rfl (by decide +kernel) ?_
  refine g_iconst C 1 (cK rfl) (by decide +kernel) ?_
  refine g_iushr C (by decide +kernel) ?_
  refine g_ldcw C (ix := 265) (v := 1431655765) lk_1139 (by decide +kernel) ?_
  refine g_iand C (by decide +kernel) ?_
  refine g_isub C (by decide +kernel) ?_
  obtain ⟨v1_, ev2_, h⟩ := lt_some h
  refine g_val ev2_.symm ?_
  have hv3_ : c32 v1_ := by rw [ev2_]; exact (w32_c _)
  refine s_istore_n C 0 (lo' := [(0, v1_)]) (by decide) s1z (by decide +kernel) ?_
  refine g_iload_n C 0 rfl (by decide +kernel) ?_
  refine g_ldcw C (ix := 266) (v := 858993459) lk_1140 (by decide +kernel) ?_
  refine g_iand C (by decide +kernel) ?_
  refine g_iload_n C 0 rfl (by decide +kernel) ?_
  refine g_iconst C 2 (cK rfl) (by decide +kernel) ?_
  refine g_iushr C (by decide +kernel) ?_
  refine g_ldcw C (ix := 266) (v := 858993459) lk_1140 (by decide +kernel) ?_
  refine g_iand C (by decide +kernel) ?_
  refine g_iadd C (by decide +kernel) ?_
  obtain ⟨v4_, ev5_, h⟩ := lt_some h
  refine g_val ev5_.symm ?_
  have hv6_ : c32 v4_ := by rw [ev5_]; exact (w32_c _)
  refine s_istore_n C 0 (lo' := [(0, v4_)]) (by decide) s1z (by decide +kernel) ?_
  refine g_iload_n C 0 rfl (by decide +kernel) ?_
  refine g_iload_n C 0 rfl (by decide +kernel) ?_
  refine g_iconst C 4 (cK rfl) (by decide +kernel) ?_
  refine g_iushr C (by decide +kernel) ?_
  refine g_iadd C (by decide +kernel) ?_
  refine g_ldcw C (ix := 267) (v := 252645135) lk_1141 (by decide +kernel) ?_
  refine g_iand C (by decide +kernel) ?_
  obtain ⟨v7_, ev8_, h⟩ := lt_some h
  refine g_val ev8_.symm ?_
  have hv9_ : c32 v7_ := by rw [ev8_]; exact (i_c _)
  refine s_istore_n C 0 (lo' := [(0, v7_)]) (by decide) s1z (by decide +kernel) ?_
  refine g_iload_n C 0 rfl (by decide +kernel) ?_
  refine g_iload_n C 0 rfl (by decide +kernel) ?_
  refine g_bipush C 8 (by decide) (by decide +kernel) ?_
  refine g_iushr C (by decide +kernel) ?_
  refine g_iadd C (by decide +kernel) ?_
  obtain ⟨v10_, ev11_, h⟩ := lt_some h
  refine g_val ev11_.symm ?_
  have hv12_ : c32 v10_ := by rw [ev11_]; exact (w32_c _)
  refine s_istore_n C 0 (lo' := [(0, v10_)]) (by decide) s1z (by decide +kernel) ?_
  refine g_iload_n C 0 rfl (by decide +kernel) ?_
  refine g_iload_n C 0 rfl (by decide +kernel) ?_
  refine g_bipush C 16 (by decide) (by decide +kernel) ?_
  refine g_iushr C (by decide +kernel) ?_
  refine g_iadd C (by decide +kernel) ?_
  obtain ⟨v13_, ev14_, h⟩ := lt_some h
  refine g_val ev14_.symm ?_
  have hv15_ : c32 v13_ := by rw [ev14_]; exact (w32_c _)
  refine s_istore_n C 0 (lo' := [(0, v13_)]) (by decide) s1z (by decide +kernel) ?_
  refine g_iload_n C 0 rfl (by decide +kernel) ?_
  refine g_bipush C 63 (by decide) (by decide +kernel) ?_
  refine g_iand C (by decide +kernel) ?_
  obtain ⟨rfl, rfl⟩ := ret_inj h
  exact g_iret C (i_c _) hlk hr (by decide +kernel)
/-! PollBooks$Poll.judge(IIIII)I -/
def y_Po_judge : MethodName := ⟨"PollBooks$Poll", "judge", "(IIIII)I"⟩
def rm_Po_judge : Room := { frames := 4, cells := 0, slots := 0, locals := 104 }
theorem mw_Po_judge : MW y_Po_judge prog_8_method_15_code 8 (some .int) 5 := ⟨lk_1132, lk_10, by decide +kernel⟩
def L_Po_judge (p1 p2 p3 p4 p5 : Int) (d : Dt) : Option (Int × Dt) :=
  bd (L_La_bring p1 p4 p5 p2 d) (fun r2_ d1_ => bd (L_La_rightNow d1_) (fun r6_ d5_ => if r6_ = 0 then bd (L_La_voidNow d5_) (fun r11_ d10_ => if r11_ = 0 then bd (L_In_bitCount p3 d10_) (fun r16_ d15_ => if r16_ = 0 then some (7, d15_) else bd (L_La_namesAt p4 p5 d15_) (fun r21_ d20_ => if r21_ < r16_ then some (7, d20_) else some (0, d20_))) else some (6, d10_)) else some ((w32 (r6_ + 2)), d5_)))
set_option maxHeartbeats 4000000 in
theorem ok_Po_judge {l : Launch} {r : Int} {d' : Dt} (p1 p2 p3 p4 p5 : Int) (d : Dt) (hp1 : c32 p1) (hp2 : c32 p2) (hp3 : c32 p3) (hp4 : c32 p4) (hp5 : c32 p5) (h : L_Po_judge p1 p2 p3 p4 p5 d = some (r, d')) : MC l y_Po_judge prog_8_method_15_code 8 (some .int) rm_Po_judge 0 [(2, 49), (0, p1), (0, p2), (0, p3), (0, p4), (0, p5)] d (some (0, r)) d' := by
  refine MC.of (by decide) (Nat.le_of_ble_eq_true rfl) ?_
  intro p e s m args below meth c D cA ad A C hlk hr
  replace C : Cx p s m args c prog_8_method_15_code 8 "PollBooks$Poll" D cA ad 0 A := C
  show G p l e rm_Po_judge s m args below meth c 0 0 (MQ below (fun _ => QC D cA ad 0 A (some .int) (some (0, r)) d') args s 0 0 A) 8 D cA ad 0 A 0 [(2, 49), (0, p1), (0, p2), (0, p3), (0, p4), (0, p5)] [] d
  refine g_sub (lo2 := [(2, 49), (0, p1), (0, p2), (0, p3), (0, p4), (0, p5), (9, 0), (9, 0)]) (lsb_v (lsb_v (lsb_v (lsb_v (lsb_v (lsb_v (lsb_n (lsb_n lsb_e)))))))) ?_
  unfold L_Po_judge at h
  refine g_aload_n C 0 rfl (by decide +kernel) ?_
  refine g_getR C cl6 49 2 30 rfl cd_A49 ⟨by decide, rfl, by decide⟩ rfl rfl (nA (by decide)) (ix := 51) lk_321 (by decide +kernel) ?_
  refine g_iload_n C 1 rfl (by decide +kernel) ?_
  refine g_iload C 4 rfl (by decide +kernel) ?_
  refine g_iload C 5 rfl (by decide +kernel) ?_
  refine g_iload_n C 2 rfl (by decide +kernel) ?_
  obtain ⟨r2_, d1_, hr3_, h⟩ := bd_some h
  refine g_callV C mw_La_bring [(0, p1), (0, p4), (0, p5), (0, p2)] 30 cl3 rfl (ok_La_bring p1 p4 p5 p2 d hp1 hp4 hp5 hp2 hr3_) cd_A30 (by decide) (nA (by decide)) (ix := 105) lk_1133 lk_916 lk_917 ⟨rfl, rfl, Nat.le_of_ble_eq_true rfl, Nat.le_of_ble_eq_true rfl⟩ rfl (rest := []) rfl (Nat.le_of_ble_eq_true rfl) ⟨Nat.zero_le _, Nat.zero_le _⟩ (by decide +kernel) (fun _ hc4_ => ?_)
  refine g_st (st2 := []) rfl ?_
  refine g_aload_n C 0 rfl (by decide +kernel) ?_
  refine g_getR C cl6 49 2 30 rfl cd_A49 ⟨by decide, rfl, by decide⟩ rfl rfl (nA (by decide)) (ix := 51) lk_321 (by decide +kernel) ?_
  obtain ⟨r6_, d5_, hr7_, h⟩ := bd_some h
  refine g_callV C mw_La_rightNow [] 30 cl3 rfl (ok_La_rightNow  d1_  hr7_) cd_A30 (by decide) (nA (by decide)) (ix := 111) lk_1134 lk_921 lk_922 ⟨rfl, rfl, Nat.le_of_ble_eq_true rfl, Nat.le_of_ble_eq_true rfl⟩ rfl (rest := []) rfl (Nat.le_of_ble_eq_true rfl) ⟨Nat.zero_le _, Nat.zero_le _⟩ (by decide +kernel) (fun _ hc8_ => ?_)
  replace hc8_ : c32 r6_ := hc8_
  refine g_st (st2 := [(0, r6_)]) rfl ?_
  refine s_istore C 6 (lo' := [(2, 49), (0, p1), (0, p2), (0, p3), (0, p4), (0, p5), (0, r6_), (9, 0)]) (by decide) (s1k (s1k (s1k (s1k (s1k (s1n (by decide) s1z)))))) (by decide +kernel) ?_
  refine g_iload C 6 rfl (by decide +kernel) ?_
  refine g_if_eq C (off := 8) (tgt := 32) hc8_ (by decide +kernel) (by decide) (fun hc9_ => ?_) (fun hc9_ => ?_)
  · replace h := ite_t hc9_ h
    refine g_aload_n C 0 rfl (by decide +kernel) ?_
    refine g_getR C cl6 49 2 30 rfl cd_A49 ⟨by decide, rfl, by decide⟩ rfl rfl (nA (by decide)) (ix := 51) lk_321 (by decide +kernel) ?_
    obtain ⟨r11_, d10_, hr12_, h⟩ := bd_some h
    refine g_callV C mw_La_voidNow [] 30 cl3 rfl (ok_La_voidNow  d5_  hr12_) cd_A30 (by decide) (nA (by decide)) (ix := 115) lk_1135 lk_970 lk_971 ⟨rfl, rfl, Nat.le_of_ble_eq_true rfl, Nat.le_of_ble_eq_true rfl⟩ rfl (rest := []) rfl (Nat.le_of_ble_eq_true rfl) ⟨Nat.zero_le _, Nat.zero_le _⟩ (by decide +kernel) (fun _ hc13_ => ?_)
    replace hc13_ : cb r11_ := hc13_
    refine g_st (st2 := [(0, r11_)]) rfl ?_
    refine g_if_eq C (off := 6) (tgt := 45) (c32_cb hc13_) (by decide +kernel) (by decide) (fun hc14_ => ?_) (fun hc14_ => ?_)
    · replace h := ite_t hc14_ h
      refine g_iload_n C 3 rfl (by decide +kernel) ?_
      obtain ⟨r16_, d15_, hr17_, h⟩ := bd_some h
      refine g_callS C mw_In_bitCount [(0, p3)] (ok_In_bitCount p3 d10_ hp3 hr17_) (ix := 119) lk_1136 lk_1137 ⟨rfl, rfl, Nat.le_of_ble_eq_true rfl, Nat.le_of_ble_eq_true rfl⟩ rfl (rest := []) rfl (Nat.le_of_ble_eq_true rfl) ⟨Nat.zero_le _, Nat.zero_le _⟩ (by decide +kernel) (fun _ hc18_ => ?_)
      replace hc18_ : c32 r16_ := hc18_
      refine g_st (st2 := [(0, r16_)]) rfl ?_
      refine s_istore C 7 (lo' := [(2, 49), (0, p1), (0, p2), (0, p3), (0, p4), (0, p5), (0, r6_), (0, r16_)]) (by decide) (s1k (s1k (s1k (s1k (s1k (s1k (s1n (by decide) s1z))))))) (by decide +kernel) ?_
      refine g_iload C 7 rfl (by decide +kernel) ?_
      refine g_if_eq C (off := 19) (tgt := 72) hc18_ (by decide +kernel) (by decide) (fun hc19_ => ?_) (fun hc19_ => ?_)
      · replace h := ite_t hc19_ h
        refine g_bipush C 7 (by decide) (by decide +kernel) ?_
        refine g_goto C 78 (off := 4) (by decide +kernel) (by decide) ?_
        obtain ⟨rfl, rfl⟩ := ret_inj h
        exact g_iret C (cK rfl) hlk hr (by decide +kernel)
      · replace h := ite_f hc19_ h
        refine g_iload C 7 rfl (by decide +kernel) ?_
        refine g_aload_n C 0 rfl (by decide +kernel) ?_
        refine g_getR C cl6 49 2 30 rfl cd_A49 ⟨by decide, rfl, by decide⟩ rfl rfl (nA (by decide)) (ix := 51) lk_321 (by decide +kernel) ?_
        refine g_iload C 4 rfl (by decide +kernel) ?_
        refine g_iload C 5 rfl (by decide +kernel) ?_
        obtain ⟨r21_, d20_, hr22_, h⟩ := bd_some h
        refine g_callV C mw_La_namesAt [(0, p4), (0, p5)] 30 cl3 rfl (ok_La_namesAt p4 p5 d15_ hp4 hp5 hr22_) cd_A30 (by decide) (nA (by decide)) (ix := 124) lk_1142 lk_978 lk_979 ⟨rfl, rfl, Nat.le_of_ble_eq_true rfl, Nat.le_of_ble_eq_true rfl⟩ rfl (rest := [(0, r16_)]) rfl (Nat.le_of_ble_eq_true rfl) ⟨Nat.zero_le _, Nat.zero_le _⟩ (by decide +kernel) (fun _ hc23_ => ?_)
        replace hc23_ : c32 r21_ := hc23_
        refine g_st (st2 := [(0, r21_), (0, r16_)]) rfl ?_
        refine g_icmp_le C (off := 8) (tgt := 77) hc18_ hc23_ (by decide +kernel) (by decide) (fun hc24_ => ?_) (fun hc24_ => ?_)
        · replace h := ite_t hc24_ h
          refine g_bipush C 7 (by decide) (by decide +kernel) ?_
          refine g_goto C 78 (off := 4) (by decide +kernel) (by decide) ?_
          obtain ⟨rfl, rfl⟩ := ret_inj h
          exact g_iret C (cK rfl) hlk hr (by decide +kernel)
        · replace h := ite_f hc24_ h
          refine g_iconst C 0 (cK rfl) (by decide +kernel) ?_
          obtain ⟨rfl, rfl⟩ := ret_inj h
          exact g_iret C (c32_cb (Or.inl rfl)) hlk hr (by decide +kernel)
    · replace h := ite_f hc14_ h
      refine g_bipush C 6 (by decide) (by decide +kernel) ?_
      obtain ⟨rfl, rfl⟩ := ret_inj h
      exact g_iret C (cK rfl) hlk hr (by decide +kernel)
  · replace h := ite_f hc9_ h
    refine g_iload C 6 rfl (by decide +kernel) ?_
    refine g_iconst C 2 (cK rfl) (by decide +kernel) ?_
    refine g_iadd C (by decide +kernel) ?_
    obtain ⟨rfl, rfl⟩ := ret_inj h
    exact g_iret C (w32_c _) hlk hr (by decide +kernel)
/-! PollBooks$Poll.entryStanding(III)I -/
def y_Po_entryStanding : MethodName := ⟨"PollBooks$Poll", "entryStanding", "(III)I"⟩
def rm_Po_entryStanding : Room := { frames := 5, cells := 0, slots := 0, locals := 131 }
theorem mw_Po_entryStanding : MW y_Po_entryStanding prog_8_method_14_code 5 (some .int) 3 := ⟨lk_1126, lk_10, by decide +kernel⟩
def L_Po_entryStanding (p1 p2 p3 : Int) (d : Dt) : Option (Int × Dt) :=
  bd (L_Po_personOf p1 d) (fun r2_ d1_ => if r2_ = (-1) then some (1, d1_) else bd (L_Po_isTwice p1 d1_) (fun r7_ d6_ => if r7_ = 0 then ck ((0 : Int) ≤ p1 ∧ p1 < 90) (bd (L_Bo_joinedSet p1 d6_) (fun r14_ d13_ => bd (L_Po_judge r2_ (d6_ 40 p1.toNat) r14_ p2 p3 d13_) (fun r18_ d17_ => some (r18_, d17_)))) else some (2, d6_)))
set_option maxHeartbeats 4000000 in
theorem ok_Po_entryStanding {l : Launch} {r : Int} {d' : Dt} (p1 p2 p3 : Int) (d : Dt) (hp1 : c32 p1) (hp2 : c32 p2) (hp3 : c32 p3) (h : L_Po_entryStanding p1 p2 p3 d = some (r, d')) : MC l y_Po_entryStanding prog_8_method_14_code 5 (some .int) rm_Po_entryStanding 0 [(2, 49), (0, p1), (0, p2), (0, p3)] d (some (0, r)) d' := by
  refine MC.of (by decide) (Nat.le_of_ble_eq_true rfl) ?_
  intro p e s m args below meth c D cA ad A C hlk hr
  replace C : Cx p s m args c prog_8_method_14_code 5 "PollBooks$Poll" D cA ad 0 A := C
  show G p l e rm_Po_entryStanding s m args below meth c 0 0 (MQ below (fun _ => QC D cA ad 0 A (some .int) (some (0, r)) d') args s 0 0 A) 5 D cA ad 0 A 0 [(2, 49), (0, p1), (0, p2), (0, p3)] [] d
  refine g_sub (lo2 := [(2, 49), (0, p1), (0, p2), (0, p3), (9, 0)]) (lsb_v (lsb_v (lsb_v (lsb_v (lsb_n lsb_e))))) ?_
  unfold L_Po_entryStanding at h
  refine g_aload_n C 0 rfl (by decide +kernel) ?_
  refine g_iload_n C 1 rfl (by decide +kernel) ?_
  obtain ⟨r2_, d1_, hr3_, h⟩ := bd_some h
  refine g_callV C mw_Po_personOf [(0, p1)] 49 cl6 rfl (ok_Po_personOf p1 d hp1 hr3_) cd_A49 (by decide) (nA (by decide)) (ix := 55) lk_1106 lk_1091 lk_1092 ⟨rfl, rfl, Nat.le_of_ble_eq_true rfl, Nat.le_of_ble_eq_true rfl⟩ rfl (rest := []) rfl (Nat.le_of_ble_eq_true rfl) ⟨Nat.zero_le _, Nat.zero_le _⟩ (by decide +kernel) (fun _ hc4_ => ?_)
  replace hc4_ : c32 r2_ := hc4_
  refine g_st (st2 := [(0, r2_)]) rfl ?_
  refine s_istore C 4 (lo' := [(2, 49), (0, p1), (0, p2), (0, p3), (0, r2_)]) (by decide) (s1k (s1k (s1k (s1n (by decide) s1z)))) (by decide +kernel) ?_
  refine g_iload C 4 rfl (by decide +kernel) ?_
  refine g_iconst C (-1) (cK rfl) (by decide +kernel) ?_
  refine g_icmp_ne C (off := 5) (tgt := 15) hc4_ (cK rfl) (by decide +kernel) (by decide) (fun hc5_ => ?_) (fun hc5_ => ?_)
  · replace h := ite_t hc5_ h
    refine g_iconst C 1 (cK rfl) (by decide +kernel) ?_
    obtain ⟨rfl, rfl⟩ := ret_inj h
    exact g_iret C (c32_cb (Or.inr rfl)) hlk hr (by decide +kernel)
  · replace h := ite_f hc5_ h
    refine g_aload_n C 0 rfl (by decide +kernel) ?_
    refine g_iload_n C 1 rfl (by decide +kernel) ?_
    obtain ⟨r7_, d6_, hr8_, h⟩ := bd_some h
    refine g_callV C mw_Po_isTwice [(0, p1)] 49 cl6 rfl (ok_Po_isTwice p1 d1_ hp1 hr8_) cd_A49 (by decide) (nA (by decide)) (ix := 91) lk_1127 lk_1103 lk_1104 ⟨rfl, rfl, Nat.le_of_ble_eq_true rfl, Nat.le_of_ble_eq_true rfl⟩ rfl (rest := []) rfl (Nat.le_of_ble_eq_true rfl) ⟨Nat.zero_le _, Nat.zero_le _⟩ (by decide +kernel) (fun _ hc9_ => ?_)
    replace hc9_ : cb r7_ := hc9_
    refine g_st (st2 := [(0, r7_)]) rfl ?_
    refine g_if_eq C (off := 5) (tgt := 25) (c32_cb hc9_) (by decide +kernel) (by decide) (fun hc10_ => ?_) (fun hc10_ => ?_)
    · replace h := ite_t hc10_ h
      refine g_aload_n C 0 rfl (by decide +kernel) ?_
      refine g_iload C 4 rfl (by decide +kernel) ?_
      refine g_aload_n C 0 rfl (by decide +kernel) ?_
      refine g_getR C cl6 49 1 37 rfl cd_A49 ⟨by decide, rfl, by decide⟩ rfl rfl (nA (by decide)) (ix := 47) lk_320 (by decide +kernel) ?_
      refine g_getRN C cl0 37 2 40 rfl cd_A37 ⟨by decide, rfl, by decide⟩ rfl rfl (nA (by decide)) (ix := 95) lk_277 (by decide +kernel) ?_
      refine g_iload_n C 1 rfl (by decide +kernel) ?_
      obtain ⟨hb11_, h⟩ := ck_some h
      refine g_iald C 40 hp1 rfl cd_A40 (nA (by decide)) hb11_ (by decide +kernel) (fun hc12_ => ?_)
      refine g_aload_n C 0 rfl (by decide +kernel) ?_
      refine g_getR C cl6 49 1 37 rfl cd_A49 ⟨by decide, rfl, by decide⟩ rfl rfl (nA (by decide)) (ix := 47) lk_320 (by decide +kernel) ?_
      refine g_iload_n C 1 rfl (by decide +kernel) ?_
      obtain ⟨r14_, d13_, hr15_, h⟩ := bd_some h
      refine g_callV C mw_Bo_joinedSet [(0, p1)] 37 cl0 rfl (ok_Bo_joinedSet p1 d6_ hp1 hr15_) cd_A37 (by decide) (nA (by decide)) (ix := 98) lk_1128 lk_1059 lk_1060 ⟨rfl, rfl, Nat.le_of_ble_eq_true rfl, Nat.le_of_ble_eq_true rfl⟩ rfl (rest := [(0, (d6_ 40 p1.toNat)), (0, r2_), (2, 49)]) rfl (Nat.le_of_ble_eq_true rfl) ⟨Nat.zero_le _, Nat.zero_le _⟩ (by decide +kernel) (fun _ hc16_ => ?_)
      replace hc16_ : c32 r14_ := hc16_
      refine g_st (st2 := [(0, r14_), (0, (d6_ 40 p1.toNat)), (0, r2_), (2, 49)]) rfl ?_
      refine g_iload_n C 2 rfl (by decide +kernel) ?_
      refine g_iload_n C 3 rfl (by decide +kernel) ?_
      obtain ⟨r18_, d17_, hr19_, h⟩ := bd_some h
      refine g_callV C mw_Po_judge [(0, r2_), (0, (d6_ 40 p1.toNat)), (0, r14_), (0, p2), (0, p3)] 49 cl6 rfl (ok_Po_judge r2_ (d6_ 40 p1.toNat) r14_ p2 p3 d13_ hc4_ hc12_ hc16_ hp2 hp3 hr19_) cd_A49 (by decide) (nA (by decide)) (ix := 101) lk_1129 lk_1131 lkp_41 ⟨rfl, rfl, Nat.le_of_ble_eq_true rfl, Nat.le_of_ble_eq_true rfl⟩ rfl (rest := []) rfl (Nat.le_of_ble_eq_true rfl) ⟨Nat.zero_le _, Nat.zero_le _⟩ (by decide +kernel) (fun _ hc20_ => ?_)
      replace hc20_ : c32 r18_ := hc20_
      refine g_st (st2 := [(0, r18_)]) rfl ?_
      obtain ⟨rfl, rfl⟩ := ret_inj h
      exact g_iret C hc20_ hlk hr (by decide +kernel)
    · replace h := ite_f hc10_ h
      refine g_iconst C 2 (cK rfl) (by decide +kernel) ?_
      obtain ⟨rfl, rfl⟩ := ret_inj h
      exact g_iret C (cK rfl) hlk hr (by decide +kernel)
/-! PollBooks.standing(III)I -/
def y_PB_standing : MethodName := ⟨"PollBooks", "standing", "(III)I"⟩
def rm_PB_standing : Room := { frames := 6, cells := 0, slots := 0, locals := 155 }
theorem mw_PB_standing : MW y_PB_standing prog_1_method_36_code 4 (some .int) 3 := ⟨lk_1122, lk_1, by decide +kernel⟩
def L_PB_standing_b32 (x1 x2 x3 s1 : Int) (d : Dt) : Option (Int × Dt) :=
  if s1 = 0 then bd (L_Po_entryStanding x1 x2 x3 (up2 d 0 0 s1)) (fun r4_ d3_ => some (r4_, d3_)) else some ((-1), (up2 d 0 0 s1))
def L_PB_standing (p1 p2 p3 : Int) (d : Dt) : Option (Int × Dt) :=
  bd (L_Bo_has 0 p1 d) (fun r8_ d7_ => if r8_ = 0 then L_PB_standing_b32 p1 p2 p3 1 d7_ else bd (L_PB_isPlace p2 d7_) (fun r13_ d12_ => if r13_ = 0 then L_PB_standing_b32 p1 p2 p3 1 d12_ else bd (L_PB_isDay p3 d12_) (fun r18_ d17_ => if r18_ = 0 then L_PB_standing_b32 p1 p2 p3 1 d17_ else L_PB_standing_b32 p1 p2 p3 0 d17_)))
set_option maxHeartbeats 4000000 in
theorem ok_PB_standing_b32 {p : Program} {l : Launch} {e : Env} {s : State} {m : MethodId} {args : Array Value} {below : List Frame} {meth : Method} {c : Code} {D : va_G} {cA : Nat → ClassId} {ad : Nat → Nat} {A : Nat → Prop} (C : Cx p s m args c prog_1_method_36_code 4 "PollBooks" D cA ad 0 A) (hlk : meth.locks = false) (hr : meth.sig.returnType = (some .int)) {r : Int} {d' : Dt} (x1 x2 x3 s1 : Int) (d : Dt) (hx1 : c32 x1) (hx2 : c32 x2) (hx3 : c32 x3) (hs1 : cb s1) (h : L_PB_standing_b32 x1 x2 x3 s1 d = some (r, d')) : G p l e rm_PB_standing s m args below meth c 0 0 (MQ below (fun _ => QC D cA ad 0 A (some .int) (some (0, r)) d') args s 0 0 A) 4 D cA ad 0 A 32 [(2, 0), (0, x1), (0, x2), (0, x3)] [(0, s1), (2, 0)] d := by
  unfold L_PB_standing_b32 at h
  refine g_putI C cl11 0 0 (c32_cb hs1) rfl cd_A0 ⟨by decide, rfl, by decide⟩ rfl (nA (by decide)) (ix := 9) lk_467 rfl rfl (by decide +kernel) ?_
  refine g_aload_n C 0 rfl (by decide +kernel) ?_
  refine g_getI C cl11 0 0 rfl cd_A0 ⟨by decide, rfl, by decide⟩ rfl (nA (by decide)) (ix := 9) lk_467 (by decide +kernel) (fun hc1_ => ?_)
  refine g_val (y := s1) rfl ?_
  replace hc1_ : c32 s1 := hc1_
  refine g_if_ne C (off := 16) (tgt := 55) hc1_ (by decide +kernel) (by decide) (fun hc2_ => ?_) (fun hc2_ => ?_)
  · replace h := ite_t hc2_ h
    refine g_aload_n C 0 rfl (by decide +kernel) ?_
    refine g_getR C cl11 0 7 49 rfl cd_A0 ⟨by decide, rfl, by decide⟩ rfl rfl (nA (by decide)) (ix := 64) lk_474 (by decide +kernel) ?_
    refine g_iload_n C 1 rfl (by decide +kernel) ?_
    refine g_iload_n C 2 rfl (by decide +kernel) ?_
    refine g_iload_n C 3 rfl (by decide +kernel) ?_
    obtain ⟨r4_, d3_, hr5_, h⟩ := bd_some h
    refine g_callV C mw_Po_entryStanding [(0, x1), (0, x2), (0, x3)] 49 cl6 rfl (ok_Po_entryStanding x1 x2 x3 (up2 d 0 0 s1) hx1 hx2 hx3 hr5_) cd_A49 (by decide) (nA (by decide)) (ix := 339) lk_1123 lk_1124 lk_1125 ⟨rfl, rfl, Nat.le_of_ble_eq_true rfl, Nat.le_of_ble_eq_true rfl⟩ rfl (rest := []) rfl (Nat.le_of_ble_eq_true rfl) ⟨Nat.zero_le _, Nat.zero_le _⟩ (by decide +kernel) (fun _ hc6_ => ?_)
    replace hc6_ : c32 r4_ := hc6_
    refine g_st (st2 := [(0, r4_)]) rfl ?_
    refine g_goto C 56 (off := 4) (by decide +kernel) (by decide) ?_
    obtain ⟨rfl, rfl⟩ := ret_inj h
    exact g_iret C hc6_ hlk hr (by decide +kernel)
  · replace h := ite_f hc2_ h
    refine g_iconst C (-1) (cK rfl) (by decide +kernel) ?_
    obtain ⟨rfl, rfl⟩ := ret_inj h
    exact g_iret C (cK rfl) hlk hr (by decide +kernel)
set_option maxHeartbeats 4000000 in
theorem ok_PB_standing {l : Launch} {r : Int} {d' : Dt} (p1 p2 p3 : Int) (d : Dt) (hp1 : c32 p1) (hp2 : c32 p2) (hp3 : c32 p3) (h : L_PB_standing p1 p2 p3 d = some (r, d')) : MC l y_PB_standing prog_1_method_36_code 4 (some .int) rm_PB_standing 0 [(2, 0), (0, p1), (0, p2), (0, p3)] d (some (0, r)) d' := by
  refine MC.of (by decide) (Nat.le_of_ble_eq_true rfl) ?_
  intro p e s m args below meth c D cA ad A C hlk hr
  replace C : Cx p s m args c prog_1_method_36_code 4 "PollBooks" D cA ad 0 A := C
  show G p l e rm_PB_standing s m args below meth c 0 0 (MQ below (fun _ => QC D cA ad 0 A (some .int) (some (0, r)) d') args s 0 0 A) 4 D cA ad 0 A 0 [(2, 0), (0, p1), (0, p2), (0, p3)] [] d
  refine g_sub (lo2 := [(2, 0), (0, p1), (0, p2), (0, p3)]) (lsb_v (lsb_v (lsb_v (lsb_v lsb_e)))) ?_
  unfold L_PB_standing at h
  refine g_aload_n C 0 rfl (by decide +kernel) ?_
  refine g_aload_n C 0 rfl (by decide +kernel) ?_
  refine g_getR C cl11 0 6 37 rfl cd_A0 ⟨by decide, rfl, by decide⟩ rfl rfl (nA (by decide)) (ix := 55) lk_473 (by decide +kernel) ?_
  refine g_iconst C 0 (cK rfl) (by decide +kernel) ?_
  refine g_iload_n C 1 rfl (by decide +kernel) ?_
  obtain ⟨r8_, d7_, hr9_, h⟩ := bd_some h
  refine g_callV C mw_Bo_has [(0, 0), (0, p1)] 37 cl0 rfl (ok_Bo_has 0 p1 d (c32_cb (Or.inl rfl)) hp1 hr9_) cd_A37 (by decide) (nA (by decide)) (ix := 301) lk_1046 lk_1047 lk_1048 ⟨rfl, rfl, Nat.le_of_ble_eq_true rfl, Nat.le_of_ble_eq_true rfl⟩ rfl (rest := [(2, 0)]) rfl (Nat.le_of_ble_eq_true rfl) ⟨Nat.zero_le _, Nat.zero_le _⟩ (by decide +kernel) (fun _ hc10_ => ?_)
  replace hc10_ : cb r8_ := hc10_
  refine g_st (st2 := [(0, r8_), (2, 0)]) rfl ?_
  refine g_if_eq C (off := 21) (tgt := 31) (c32_cb hc10_) (by decide +kernel) (by decide) (fun hc11_ => ?_) (fun hc11_ => ?_)
  · replace h := ite_t hc11_ h
    refine g_iconst C 1 (cK rfl) (by decide +kernel) ?_
    refine g_sub (lo2 := [(2, 0), (0, p1), (0, p2), (0, p3)]) (lsb_v (lsb_v (lsb_v (lsb_v lsb_e)))) ?_
    exact ok_PB_standing_b32 C hlk hr p1 p2 p3 1 d7_ hp1 hp2 hp3 (Or.inr rfl) h
  · replace h := ite_f hc11_ h
    refine g_iload_n C 2 rfl (by decide +kernel) ?_
    obtain ⟨r13_, d12_, hr14_, h⟩ := bd_some h
    refine g_callS C mw_PB_isPlace [(0, p2)] (ok_PB_isPlace p2 d7_ hp2 hr14_) (ix := 158) lk_608 lk_609 ⟨rfl, rfl, Nat.le_of_ble_eq_true rfl, Nat.le_of_ble_eq_true rfl⟩ rfl (rest := [(2, 0)]) rfl (Nat.le_of_ble_eq_true rfl) ⟨Nat.zero_le _, Nat.zero_le _⟩ (by decide +kernel) (fun _ hc15_ => ?_)
    replace hc15_ : cb r13_ := hc15_
    refine g_st (st2 := [(0, r13_), (2, 0)]) rfl ?_
    refine g_if_eq C (off := 14) (tgt := 31) (c32_cb hc15_) (by decide +kernel) (by decide) (fun hc16_ => ?_) (fun hc16_ => ?_)
    · replace h := ite_t hc16_ h
      refine g_iconst C 1 (cK rfl) (by decide +kernel) ?_
      refine g_sub (lo2 := [(2, 0), (0, p1), (0, p2), (0, p3)]) (lsb_v (lsb_v (lsb_v (lsb_v lsb_e)))) ?_
      exact ok_PB_standing_b32 C hlk hr p1 p2 p3 1 d12_ hp1 hp2 hp3 (Or.inr rfl) h
    · replace h := ite_f hc16_ h
      refine g_iload_n C 3 rfl (by decide +kernel) ?_
      obtain ⟨r18_, d17_, hr19_, h⟩ := bd_some h
      refine g_callS C mw_PB_isDay [(0, p3)] (ok_PB_isDay p3 d12_ hp3 hr19_) (ix := 180) lk_643 lk_644 ⟨rfl, rfl, Nat.le_of_ble_eq_true rfl, Nat.le_of_ble_eq_true rfl⟩ rfl (rest := [(2, 0)]) rfl (Nat.le_of_ble_eq_true rfl) ⟨Nat.zero_le _, Nat.zero_le _⟩ (by decide +kernel) (fun _ hc20_ => ?_)
      replace hc20_ : cb r18_ := hc20_
      refine g_st (st2 := [(0, r18_), (2, 0)]) rfl ?_
      refine g_if_eq C (off := 7) (tgt := 31) (c32_cb hc20_) (by decide +kernel) (by decide) (fun hc21_ => ?_) (fun hc21_ => ?_)
      · replace h := ite_t hc21_ h
        refine g_iconst C 1 (cK rfl) (by decide +kernel) ?_
        refine g_sub (lo2 := [(2, 0), (0, p1), (0, p2), (0, p3)]) (lsb_v (lsb_v (lsb_v (lsb_v lsb_e)))) ?_
        exact ok_PB_standing_b32 C hlk hr p1 p2 p3 1 d17_ hp1 hp2 hp3 (Or.inr rfl) h
      · replace h := ite_f hc21_ h
        refine g_iconst C 0 (cK rfl) (by decide +kernel) ?_
        refine g_goto C 32 (off := 4) (by decide +kernel) (by decide) ?_
        refine g_sub (lo2 := [(2, 0), (0, p1), (0, p2), (0, p3)]) (lsb_v (lsb_v (lsb_v (lsb_v lsb_e)))) ?_
        exact ok_PB_standing_b32 C hlk hr p1 p2 p3 0 d17_ hp1 hp2 hp3 (Or.inl rfl) h
/-! PollBooks$Poll.hasOffer(I)Z -/
def y_Po_hasOffer : MethodName := ⟨"PollBooks$Poll", "hasOffer", "(I)Z"⟩
def rm_Po_hasOffer : Room := { frames := 0, cells := 0, slots := 0, locals := 0 }
theorem mw_Po_hasOffer : MW y_Po_hasOffer prog_8_method_11_code 2 (some .boolean) 1 := ⟨lk_1150, lk_10, by decide +kernel⟩
def L_Po_hasOffer (p1 : Int) (d : Dt) : Option (Int × Dt) :=
  if p1 < 0 then some (0, d) else if p1 < (d 49 11) then some (1, d) else some (0, d)
set_option maxHeartbeats 4000000 in
theorem ok_Po_hasOffer {l : Launch} {r : Int} {d' : Dt} (p1 : Int) (d : Dt) (hp1 : c32 p1) (h : L_Po_hasOffer p1 d = some (r, d')) : MC l y_Po_hasOffer prog_8_method_11_code 2 (some .boolean) rm_Po_hasOffer 0 [(2, 49), (0, p1)] d (some (0, r)) d' := by
  refine MC.of (by decide) (Nat.le_of_ble_eq_true rfl) ?_
  intro p e s m args below meth c D cA ad A C hlk hr
  replace C : Cx p s m args c prog_8_method_11_code 2 "PollBooks$Poll" D cA ad 0 A := C
  show G p l e rm_Po_hasOffer s m args below meth c 0 0 (MQ below (fun _ => QC D cA ad 0 A (some .boolean) (some (0, r)) d') args s 0 0 A) 2 D cA ad 0 A 0 [(2, 49), (0, p1)] [] d
  refine g_sub (lo2 := [(2, 49), (0, p1)]) (lsb_v (lsb_v lsb_e)) ?_
  unfold L_Po_hasOffer at h
  refine g_iload_n C 1 rfl (by decide +kernel) ?_
  refine g_if_lt C (off := 15) (tgt := 16) hp1 (by decide +kernel) (by decide) (fun hc1_ => ?_) (fun hc1_ => ?_)
  · replace h := ite_t hc1_ h
    refine g_iconst C 0 (cK rfl) (by decide +kernel) ?_
    obtain ⟨rfl, rfl⟩ := ret_inj h
    exact g_zret C (Or.inl rfl) hlk hr (by decide +kernel)
  · replace h := ite_f hc1_ h
    refine g_iload_n C 1 rfl (by decide +kernel) ?_
    refine g_aload_n C 0 rfl (by decide +kernel) ?_
    refine g_getI C cl6 49 11 rfl cd_A49 ⟨by decide, rfl, by decide⟩ rfl (nA (by decide)) (ix := 88) lk_330 (by decide +kernel) (fun hc2_ => ?_)
    refine g_icmp_ge C (off := 7) (tgt := 16) hp1 hc2_ (by decide +kernel) (by decide) (fun hc3_ => ?_) (fun hc3_ => ?_)
    · replace h := ite_t hc3_ h
      refine g_iconst C 1 (cK rfl) (by decide +kernel) ?_
      refine g_goto C 17 (off := 4) (by decide +kernel) (by decide) ?_
      obtain ⟨rfl, rfl⟩ := ret_inj h
      exact g_zret C (Or.inr rfl) hlk hr (by decide +kernel)
    · replace h := ite_f hc3_ h
      refine g_iconst C 0 (cK rfl) (by decide +kernel) ?_
      obtain ⟨rfl, rfl⟩ := ret_inj h
      exact g_zret C (Or.inl rfl) hlk hr (by decide +kernel)
/-! PollBooks.addSet([III)V -/
def y_PB_addSet : MethodName := ⟨"PollBooks", "addSet", "([III)V"⟩
def rm_PB_addSet : Room := { frames := 0, cells := 0, slots := 0, locals := 0 }
theorem mw_PB_addSet : MW y_PB_addSet prog_1_method_64_code 4 none 3 := ⟨lk_1159, lk_1, by decide +kernel⟩
def L_PB_addSet_y2 (arr0 len0 : Nat) (x1 x2 x3 : Int) (d : Dt) : Option ((Int × Int × Int × Dt) ⊕ ((Dt))) :=
  if x3 < 4 then ck ((0 : Int) ≤ x3 ∧ x3 < (len0 : Int)) (ck ((0 : Int) ≤ x3 ∧ x3 < (len0 : Int)) (some (Sum.inl (x1, x2, (w32 (x3 + 1)), (up2 d arr0 x3.toNat (w32 ((d arr0 x3.toNat) + (w32 ((iand (ishr x1 x3) 1) * x2))))))))) else some (Sum.inr (d))
def L_PB_addSet_l2 (arr0 len0 : Nat) (x1 x2 x3 : Int) (d : Dt) : Option ((Dt)) := lpF (fun q : Int × Int × Int × Dt => L_PB_addSet_y2 arr0 len0 q.1 q.2.1 q.2.2.1 q.2.2.2) FU (x1, x2, x3, d)
def L_PB_addSet (arr0 len0 : Nat) (p2 p3 : Int) (d : Dt) : Option (Int × Dt) :=
  lb (L_PB_addSet_l2 arr0 len0 p2 p3 0 d) (fun q9_ => u0 q9_ (fun d7_ => some (0, d7_)))
set_option maxHeartbeats 4000000 in
theorem ok_PB_addSet_y2 {p : Program} {l : Launch} {e : Env} {s : State} {m : MethodId} {args : Array Value} {below : List Frame} {meth : Method} {c : Code} {D : va_G} {cA : Nat → ClassId} {ad : Nat → Nat} {A : Nat → Prop} (C : Cx p s m args c prog_1_method_64_code 4 "PollBooks" D cA ad 0 A) {Q : State → Prop} (arr0 len0 : Nat) (harr0 : cd 0 arr0 = (20, len0)) (barr0 : arr0 < 79) {o : (Int × Int × Int × Dt) ⊕ ((Dt))} (x1 x2 x3 : Int) (d : Dt) (hx1 : c32 x1) (hx2 : c32 x2) (hx3 : c32 x3) (h : L_PB_addSet_y2 arr0 len0 x1 x2 x3 d = some o) (kb : ∀ (y0 y1 y2 : Int) (e' : Dt), o = .inl (y0, y1, y2, e') → c32 y0 → c32 y1 → c32 y2 → G p l e rm_PB_addSet s m args below meth c 0 0 Q 4 D cA ad 0 A 2 [(2, (arr0 : Int)), (0, y0), (0, y1), (0, y2)] [] e') (k0 : ∀ (e' : Dt), o = .inr (e') → G p l e rm_PB_addSet s m args below meth c 0 0 Q 4 D cA ad 0 A 26 [(9, 0), (9, 0), (9, 0), (9, 0)] [] e') : G p l e rm_PB_addSet s m args below meth c 0 0 Q 4 D cA ad 0 A 2 [(2, (arr0 : Int)), (0, x1), (0, x2), (0, x3)] [] d := by
  unfold L_PB_addSet_y2 at h
  refine g_iload_n C 3 rfl (by decide +kernel) ?_
  refine g_iconst C 4 (cK rfl) (by decide +kernel) ?_
  refine g_icmp_ge C (off := 22) (tgt := 26) hx3 (cK rfl) (by decide +kernel) (by decide) (fun hc1_ => ?_) (fun hc1_ => ?_)
  · replace h := ite_t hc1_ h
    refine g_aload_n C 0 rfl (by decide +kernel) ?_
    refine g_iload_n C 3 rfl (by decide +kernel) ?_
    refine g_dup2 C tg0 tg2 (by decide +kernel) ?_
    obtain ⟨hb2_, h⟩ := ck_some h
    refine g_iald C arr0 hx3 rfl harr0 (nA barr0) hb2_ (by decide +kernel) (fun hc3_ => ?_)
    refine g_iload_n C 1 rfl (by decide +kernel) ?_
    refine g_iload_n C 3 rfl (by decide +kernel) ?_
    refine g_ishr C (by decide +kernel) ?_
    refine g_iconst C 1 (cK rfl) (by decide +kernel) ?_
    refine g_iand C (by decide +kernel) ?_
    refine g_iload_n C 2 rfl (by decide +kernel) ?_
    refine g_imul C (by decide +kernel) ?_
    refine g_iadd C (by decide +kernel) ?_
    obtain ⟨hb4_, h⟩ := ck_some h
    refine g_iast C arr0 (w32_c _) hx3 rfl harr0 (nA barr0) hb4_ (by decide +kernel) ?_
    refine s_iinc C 3 1 (lo' := [(2, (arr0 : Int)), (0, x1), (0, x2), (0, (w32 (x3 + 1)))]) rfl (by decide) (s1k (s1k (s1n (by decide) s1z))) (by decide +kernel) ?_
    refine g_goto C 2 (off := (-21)) (by decide +kernel) (by decide) ?_
    refine g_sub (lo2 := [(2, (arr0 : Int)), (0, x1), (0, x2), (0, (w32 (x3 + 1)))]) (lsb_v (lsb_v (lsb_v (lsb_v lsb_e)))) ?_
    obtain rfl := Option.some.inj h
    exact kb x1 x2 (w32 (x3 + 1)) (up2 d arr0 x3.toNat (w32 ((d arr0 x3.toNat) + (w32 ((iand (ishr x1 x3) 1) * x2))))) rfl hx1 hx2 (w32_c _)
  · replace h := ite_f hc1_ h
    refine g_sub (lo2 := [(9, 0), (9, 0), (9, 0), (9, 0)]) (lsb_c (lsb_c (lsb_c (lsb_c lsb_e)))) ?_
    obtain rfl := Option.some.inj h
    exact k0 d rfl 
set_option maxHeartbeats 4000000 in
theorem ok_PB_addSet_n2 {p : Program} {l : Launch} {e : Env} {s : State} {m : MethodId} {args : Array Value} {below : List Frame} {meth : Method} {c : Code} {D : va_G} {cA : Nat → ClassId} {ad : Nat → Nat} {A : Nat → Prop} (C : Cx p s m args c prog_1_method_64_code 4 "PollBooks" D cA ad 0 A) {Q : State → Prop} (arr0 len0 : Nat) (harr0 : cd 0 arr0 = (20, len0)) (barr0 : arr0 < 79) {x : (Dt)} : ∀ (n : Nat) (x1 x2 x3 : Int) (d : Dt), c32 x1 → c32 x2 → c32 x3 → lpF (fun q : Int × Int × Int × Dt => L_PB_addSet_y2 arr0 len0 q.1 q.2.1 q.2.2.1 q.2.2.2) n (x1, x2, x3, d) = some x → (∀ (e' : Dt), x = (e') → G p l e rm_PB_addSet s m args below meth c 0 0 Q 4 D cA ad 0 A 26 [(9, 0), (9, 0), (9, 0), (9, 0)] [] e') → G p l e rm_PB_addSet s m args below meth c 0 0 Q 4 D cA ad 0 A 2 [(2, (arr0 : Int)), (0, x1), (0, x2), (0, x3)] [] d := by
  intro n
  induction n with
  | zero => intro x1 x2 x3 d g0 g1 g2 h k0; cases h
  | succ n ih =>
    intro x1 x2 x3 d g0 g1 g2 h k0
    rcases lpF_some h with h | ⟨⟨v0_, v1_, v2_, e0_⟩, h1, h⟩
    · exact ok_PB_addSet_y2 C arr0 len0 harr0 barr0 x1 x2 x3 d g0 g1 g2 h (fun z0_ z1_ z2_ e1_ eq w0_ w1_ w2_ => by cases eq) (fun e1_ eq => k0 _ (by cases eq; rfl) )
    · exact ok_PB_addSet_y2 C arr0 len0 harr0 barr0 x1 x2 x3 d g0 g1 g2 h1 (fun z0_ z1_ z2_ e1_ eq w0_ w1_ w2_ => by cases eq; exact ih _ _ _ _ w0_ w1_ w2_ h k0) (fun e1_ eq => by cases eq)
set_option maxHeartbeats 4000000 in
theorem ok_PB_addSet_l2 {p : Program} {l : Launch} {e : Env} {s : State} {m : MethodId} {args : Array Value} {below : List Frame} {meth : Method} {c : Code} {D : va_G} {cA : Nat → ClassId} {ad : Nat → Nat} {A : Nat → Prop} (C : Cx p s m args c prog_1_method_64_code 4 "PollBooks" D cA ad 0 A) {Q : State → Prop} (arr0 len0 : Nat) (harr0 : cd 0 arr0 = (20, len0)) (barr0 : arr0 < 79) {x : (Dt)} (x1 x2 x3 : Int) (d : Dt) (hx1 : c32 x1) (hx2 : c32 x2) (hx3 : c32 x3) (h : L_PB_addSet_l2 arr0 len0 x1 x2 x3 d = some x) (k0 : ∀ (e' : Dt), x = (e') → G p l e rm_PB_addSet s m args below meth c 0 0 Q 4 D cA ad 0 A 26 [(9, 0), (9, 0), (9, 0), (9, 0)] [] e') : G p l e rm_PB_addSet s m args below meth c 0 0 Q 4 D cA ad 0 A 2 [(2, (arr0 : Int)), (0, x1), (0, x2), (0, x3)] [] d :=
  ok_PB_addSet_n2 C arr0 len0 harr0 barr0 FU x1 x2 x3 d hx1 hx2 hx3 h k0
set_option maxHeartbeats 4000000 in
theorem ok_PB_addSet {l : Launch} (arr0 len0 : Nat) (harr0 : cd 0 arr0 = (20, len0)) (barr0 : arr0 < 79) {r : Int} {d' : Dt} (p2 p3 : Int) (d : Dt) (hp2 : c32 p2) (hp3 : c32 p3) (h : L_PB_addSet arr0 len0 p2 p3 d = some (r, d')) : MC l y_PB_addSet prog_1_method_64_code 4 none rm_PB_addSet 0 [(2, (arr0 : Int)), (0, p2), (0, p3)] d none d' := by
  refine MC.of (by decide) (Nat.le_of_ble_eq_true rfl) ?_
  intro p e s m args below meth c D cA ad A C hlk hr
  replace C : Cx p s m args c prog_1_method_64_code 4 "PollBooks" D cA ad 0 A := C
  show G p l e rm_PB_addSet s m args below meth c 0 0 (MQ below (fun _ => QC D cA ad 0 A none none d') args s 0 0 A) 4 D cA ad 0 A 0 [(2, (arr0 : Int)), (0, p2), (0, p3)] [] d
  refine g_sub (lo2 := [(2, (arr0 : Int)), (0, p2), (0, p3), (9, 0)]) (lsb_v (lsb_v (lsb_v (lsb_n lsb_e)))) ?_
  unfold L_PB_addSet at h
  refine g_iconst C 0 (cK rfl) (by decide +kernel) ?_
  refine s_istore_n C 3 (lo' := [(2, (arr0 : Int)), (0, p2), (0, p3), (0, 0)]) (by decide) (s1k (s1k (s1n (by decide) s1z))) (by decide +kernel) ?_
  refine g_sub (lo2 := [(2, (arr0 : Int)), (0, p2), (0, p3), (0, 0)]) (lsb_v (lsb_v (lsb_v (lsb_v lsb_e)))) ?_
  obtain ⟨x5_, hx6_, h⟩ := lb_some h
  refine ok_PB_addSet_l2 C arr0 len0 harr0 barr0 p2 p3 0 d hp2 hp3 (c32_cb (Or.inl rfl)) hx6_ (fun d7_ eq8_ => ?_)
  replace eq8_ := eq8_.symm
  subst eq8_
  replace h := u0_e h
  obtain ⟨rfl, rfl⟩ := ret_inj h
  exact g_vret C hlk hr (by decide +kernel)
/-! PollBooks$Poll.countEntries(II)J -/
def y_Po_countEntries : MethodName := ⟨"PollBooks$Poll", "countEntries", "(II)J"⟩
def rm_Po_countEntries : Room := { frames := 6, cells := 0, slots := 0, locals := 155 }
theorem mw_Po_countEntries : MW y_Po_countEntries prog_8_method_16_code 6 (some .long) 2 := ⟨lk_1154, lk_10, by decide +kernel⟩
def L_Po_countEntries_b67 (x1 x2 x3 x5 : Int) (d : Dt) : Option ((Int × Int × Int × Int × Dt) ⊕ ((Int × Dt))) :=
  some (Sum.inl (x1, x2, x3, (w32 (x5 + 1)), d))
def L_Po_countEntries_y13 (x1 x2 x3 x5 : Int) (d : Dt) : Option ((Int × Int × Int × Int × Dt) ⊕ ((Int × Dt))) :=
  if x5 < (d 42 0) then bd (L_Po_entryStanding x5 x1 x2 d) (fun r4_ d3_ => if r4_ = 0 then ck ((0 : Int) ≤ x5 ∧ x5 < 30) (lt_ (lor x3 (lshl 1 (d3_ 50 x5.toNat))) (fun v10_ => bd (L_Bo_joinedSet x5 d3_) (fun r14_ d13_ => bd (L_PB_addSet 57 4 r14_ 1 d13_) (fun r18_ d17_ => L_Po_countEntries_b67 x1 x2 v10_ x5 d17_)))) else L_Po_countEntries_b67 x1 x2 x3 x5 d3_) else some (Sum.inr (x3, d))
def L_Po_countEntries_l13 (x1 x2 x3 x5 : Int) (d : Dt) : Option ((Int × Dt)) := lpF (fun q : Int × Int × Int × Int × Dt => L_Po_countEntries_y13 q.1 q.2.1 q.2.2.1 q.2.2.2.1 q.2.2.2.2) FU (x1, x2, x3, x5, d)
def L_Po_countEntries (p1 p2 : Int) (d : Dt) : Option (Int × Dt) :=
  bd (L_Ar_fill_aII 57 4 0 d) (fun r22_ d21_ => lb (L_Po_countEntries_l13 p1 p2 0 0 d21_) (fun q30_ => u1 q30_ (fun v27_ d28_ => some (v27_, d28_))))
set_option maxHeartbeats 4000000 in
theorem ok_Po_countEntries_b67 {p : Program} {l : Launch} {e : Env} {s : State} {m : MethodId} {args : Array Value} {below : List Frame} {meth : Method} {c : Code} {D : va_G} {cA : Nat → ClassId} {ad : Nat → Nat} {A : Nat → Prop} (C : Cx p s m args c prog_8_method_16_code 6 "PollBooks$Poll" D cA ad 0 A) {Q : State → Prop} {o : (Int × Int × Int × Int × Dt) ⊕ ((Int × Dt))} (x1 x2 x3 x5 : Int) (d : Dt) (hx1 : c32 x1) (hx2 : c32 x2) (hx3 : c64 x3) (hx5 : c32 x5) (h : L_Po_countEntries_b67 x1 x2 x3 x5 d = some o) (kb : ∀ (y0 y1 y2 y3 : Int) (e' : Dt), o = .inl (y0, y1, y2, y3, e') → c32 y0 → c32 y1 → c64 y2 → c32 y3 → G p l e rm_Po_countEntries s m args below meth c 0 0 Q 6 D cA ad 0 A 13 [(2, 49), (0, y0), (0, y1), (1, y2), (9, 0), (0, y3)] [] e') (k0 : ∀ (y0 : Int) (e' : Dt), o = .inr (y0, e') → c64 y0 → G p l e rm_Po_countEntries s m args below meth c 0 0 Q 6 D cA ad 0 A 73 [(9, 0), (9, 0), (9, 0), (1, y0), (9, 0), (9, 0)] [] e') : G p l e rm_Po_countEntries s m args below meth c 0 0 Q 6 D cA ad 0 A 67 [(2, 49), (0, x1), (0, x2), (1, x3), (9, 0), (0, x5)] [] d := by
  unfold L_Po_countEntries_b67 at h
  refine s_iinc C 5 1 (lo' := [(2, 49), (0, x1), (0, x2), (1, x3), (9, 0), (0, (w32 (x5 + 1)))]) rfl (by decide) (s1k (s1k (s1k (s1k (s1n (by decide) s1z))))) (by decide +kernel) ?_
  refine g_goto C 13 (off := (-57)) (by decide +kernel) (by decide) ?_
  refine g_sub (lo2 := [(2, 49), (0, x1), (0, x2), (1, x3), (9, 0), (0, (w32 (x5 + 1)))]) (lsb_v (lsb_v (lsb_v (lsb_v (lsb_c (lsb_v lsb_e)))))) ?_
  obtain rfl := Option.some.inj h
  exact kb x1 x2 x3 (w32 (x5 + 1)) d rfl hx1 hx2 hx3 (w32_c _)
set_option maxHeartbeats 4000000 in
theorem ok_Po_countEntries_y13 {p : Program} {l : Launch} {e : Env} {s : State} {m : MethodId} {args : Array Value} {below : List Frame} {meth : Method} {c : Code} {D : va_G} {cA : Nat → ClassId} {ad : Nat → Nat} {A : Nat → Prop} (C : Cx p s m args c prog_8_method_16_code 6 "PollBooks$Poll" D cA ad 0 A) {Q : State → Prop} {o : (Int × Int × Int × Int × Dt) ⊕ ((Int × Dt))} (x1 x2 x3 x5 : Int) (d : Dt) (hx1 : c32 x1) (hx2 : c32 x2) (hx3 : c64 x3) (hx5 : c32 x5) (h : L_Po_countEntries_y13 x1 x2 x3 x5 d = some o) (kb : ∀ (y0 y1 y2 y3 : Int) (e' : Dt), o = .inl (y0, y1, y2, y3, e') → c32 y0 → c32 y1 → c64 y2 → c32 y3 → G p l e rm_Po_countEntries s m args below meth c 0 0 Q 6 D cA ad 0 A 13 [(2, 49), (0, y0), (0, y1), (1, y2), (9, 0), (0, y3)] [] e') (k0 : ∀ (y0 : Int) (e' : Dt), o = .inr (y0, e') → c64 y0 → G p l e rm_Po_countEntries s m args below meth c 0 0 Q 6 D cA ad 0 A 73 [(9, 0), (9, 0), (9, 0), (1, y0), (9, 0), (9, 0)] [] e') : G p l e rm_Po_countEntries s m args below meth c 0 0 Q 6 D cA ad 0 A 13 [(2, 49), (0, x1), (0, x2), (1, x3), (9, 0), (0, x5)] [] d := by
  unfold L_Po_countEntries_y13 at h
  refine g_iload C 5 rfl (by decide +kernel) ?_
  refine g_aload_n C 0 rfl (by decide +kernel) ?_
  refine g_getR C cl6 49 1 37 rfl cd_A49 ⟨by decide, rfl, by decide⟩ rfl rfl (nA (by decide)) (ix := 47) lk_320 (by decide +kernel) ?_
  refine g_getRN C cl0 37 4 42 rfl cd_A37 ⟨by decide, rfl, by decide⟩ rfl rfl (nA (by decide)) (ix := 68) lk_280 (by decide +kernel) ?_
  refine g_iconst C 0 (cK rfl) (by decide +kernel) ?_
  refine g_iald C 42 (c32_cb (Or.inl rfl)) rfl cd_A42 (nA (by decide)) (by decide) (by decide +kernel) (fun hc1_ => ?_)
  refine g_val (y := (d 42 0)) rfl ?_
  replace hc1_ : c32 (d 42 0) := hc1_
  refine g_icmp_ge C (off := 49) (tgt := 73) hx5 hc1_ (by decide +kernel) (by decide) (fun hc2_ => ?_) (fun hc2_ => ?_)
  · replace h := ite_t hc2_ h
    refine g_aload_n C 0 rfl (by decide +kernel) ?_
    refine g_iload C 5 rfl (by decide +kernel) ?_
    refine g_iload_n C 1 rfl (by decide +kernel) ?_
    refine g_iload_n C 2 rfl (by decide +kernel) ?_
    obtain ⟨r4_, d3_, hr5_, h⟩ := bd_some h
    refine g_callV C mw_Po_entryStanding [(0, x5), (0, x1), (0, x2)] 49 cl6 rfl (ok_Po_entryStanding x5 x1 x2 d hx5 hx1 hx2 hr5_) cd_A49 (by decide) (nA (by decide)) (ix := 133) lk_1156 lk_1124 lk_1125 ⟨rfl, rfl, Nat.le_of_ble_eq_true rfl, Nat.le_of_ble_eq_true rfl⟩ rfl (rest := []) rfl (Nat.le_of_ble_eq_true rfl) ⟨Nat.zero_le _, Nat.zero_le _⟩ (by decide +kernel) (fun _ hc6_ => ?_)
    replace hc6_ : c32 r4_ := hc6_
    refine g_st (st2 := [(0, r4_)]) rfl ?_
    refine g_if_ne C (off := 32) (tgt := 67) hc6_ (by decide +kernel) (by decide) (fun hc7_ => ?_) (fun hc7_ => ?_)
    · replace h := ite_t hc7_ h
      refine g_lload_n C 3 rfl (by decide +kernel) ?_
      refine g_lconst C 1 (v := 1) (by decide) (by decide +kernel) ?_
      refine g_aload_n C 0 rfl (by decide +kernel) ?_
      refine g_getR C cl6 49 4 50 rfl cd_A49 ⟨by decide, rfl, by decide⟩ rfl rfl (nA (by decide)) (ix := 17) lk_323 (by decide +kernel) ?_
      refine g_iload C 5 rfl (by decide +kernel) ?_
      obtain ⟨hb8_, h⟩ := ck_some h
      refine g_iald C 50 hx5 rfl cd_A50 (nA (by decide)) hb8_ (by decide +kernel) (fun hc9_ => ?_)
      refine g_lshl C (by decide +kernel) ?_
      refine g_lor C (by decide +kernel) ?_
      obtain ⟨v10_, ev11_, h⟩ := lt_some h
      refine g_val ev11_.symm ?_
      have hv12_ : c64 v10_ := by rw [ev11_]; exact (l_c _)
      refine s_lstore_n C 3 (lo' := [(2, 49), (0, x1), (0, x2), (1, v10_), (9, 0), (0, x5)]) (by decide) (s2k (s2k (s2n (by decide) s2z))) (by decide +kernel) ?_
      refine g_aload_n C 0 rfl (by decide +kernel) ?_
      refine g_getR C cl6 49 12 57 rfl cd_A49 ⟨by decide, rfl, by decide⟩ rfl rfl (nA (by decide)) (ix := 40) lk_332 (by decide +kernel) ?_
      refine g_aload_n C 0 rfl (by decide +kernel) ?_
      refine g_getR C cl6 49 1 37 rfl cd_A49 ⟨by decide, rfl, by decide⟩ rfl rfl (nA (by decide)) (ix := 47) lk_320 (by decide +kernel) ?_
      refine g_iload C 5 rfl (by decide +kernel) ?_
      obtain ⟨r14_, d13_, hr15_, h⟩ := bd_some h
      refine g_callV C mw_Bo_joinedSet [(0, x5)] 37 cl0 rfl (ok_Bo_joinedSet x5 d3_ hx5 hr15_) cd_A37 (by decide) (nA (by decide)) (ix := 98) lk_1128 lk_1059 lk_1060 ⟨rfl, rfl, Nat.le_of_ble_eq_true rfl, Nat.le_of_ble_eq_true rfl⟩ rfl (rest := [(2, 57)]) rfl (Nat.le_of_ble_eq_true rfl) ⟨Nat.zero_le _, Nat.zero_le _⟩ (by decide +kernel) (fun _ hc16_ => ?_)
      replace hc16_ : c32 r14_ := hc16_
      refine g_st (st2 := [(0, r14_), (2, 57)]) rfl ?_
      refine g_iconst C 1 (cK rfl) (by decide +kernel) ?_
      obtain ⟨r18_, d17_, hr19_, h⟩ := bd_some h
      refine g_callSN C mw_PB_addSet [(2, 57), (0, r14_), (0, 1)] (ok_PB_addSet 57 4 cd_A57 (by decide) r14_ 1 d13_ hc16_ (c32_cb (Or.inr rfl)) hr19_) (ix := 137) lk_1157 lk_1158 ⟨rfl, rfl, Nat.le_of_ble_eq_true rfl, Nat.le_of_ble_eq_true rfl⟩ rfl (rest := []) rfl (Nat.le_of_ble_eq_true rfl) ⟨Nat.zero_le _, Nat.zero_le _⟩ (by decide +kernel) (fun _ hc20_ => ?_)
      refine g_st (st2 := []) rfl ?_
      refine g_sub (lo2 := [(2, 49), (0, x1), (0, x2), (1, v10_), (9, 0), (0, x5)]) (lsb_v (lsb_v (lsb_v (lsb_v (lsb_c (lsb_v lsb_e)))))) ?_
      exact ok_Po_countEntries_b67 C x1 x2 v10_ x5 d17_ hx1 hx2 hv12_ hx5 h kb k0
    · replace h := ite_f hc7_ h
      refine g_sub (lo2 := [(2, 49), (0, x1), (0, x2), (1, x3), (9, 0), (0, x5)]) (lsb_v (lsb_v (lsb_v (lsb_v (lsb_c (lsb_v lsb_e)))))) ?_
      exact ok_Po_countEntries_b67 C x1 x2 x3 x5 d3_ hx1 hx2 hx3 hx5 h kb k0
  · replace h := ite_f hc2_ h
    refine g_sub (lo2 := [(9, 0), (9, 0), (9, 0), (1, x3), (9, 0), (9, 0)]) (lsb_c (lsb_c (lsb_c (lsb_v (lsb_c (lsb_c lsb_e)))))) ?_
    obtain rfl := Option.some.inj h
    exact k0 x3 d rfl hx3
set_option maxHeartbeats 4000000 in
theorem ok_Po_countEntries_n13 {p : Program} {l : Launch} {e : Env} {s : State} {m : MethodId} {args : Array Value} {below : List Frame} {meth : Method} {c : Code} {D : va_G} {cA : Nat → ClassId} {ad : Nat → Nat} {A : Nat → Prop} (C : Cx p s m args c prog_8_method_16_code 6 "PollBooks$Poll" D cA ad 0 A) {Q : State → Prop} {x : (Int × Dt)} : ∀ (n : Nat) (x1 x2 x3 x5 : Int) (d : Dt), c32 x1 → c32 x2 → c64 x3 → c32 x5 → lpF (fun q : Int × Int × Int × Int × Dt => L_Po_countEntries_y13 q.1 q.2.1 q.2.2.1 q.2.2.2.1 q.2.2.2.2) n (x1, x2, x3, x5, d) = some x → (∀ (y0 : Int) (e' : Dt), x = (y0, e') → c64 y0 → G p l e rm_Po_countEntries s m args below meth c 0 0 Q 6 D cA ad 0 A 73 [(9, 0), (9, 0), (9, 0), (1, y0), (9, 0), (9, 0)] [] e') → G p l e rm_Po_countEntries s m args below meth c 0 0 Q 6 D cA ad 0 A 13 [(2, 49), (0, x1), (0, x2), (1, x3), (9, 0), (0, x5)] [] d := by
  intro n
  induction n with
  | zero => intro x1 x2 x3 x5 d g0 g1 g2 g3 h k0; cases h
  | succ n ih =>
    intro x1 x2 x3 x5 d g0 g1 g2 g3 h k0
    rcases lpF_some h with h | ⟨⟨v0_, v1_, v2_, v3_, e0_⟩, h1, h⟩
    · exact ok_Po_countEntries_y13 C x1 x2 x3 x5 d g0 g1 g2 g3 h (fun z0_ z1_ z2_ z3_ e1_ eq w0_ w1_ w2_ w3_ => by cases eq) (fun z0_ e1_ eq w0_ => k0 _ _ (by cases eq; rfl) w0_)
    · exact ok_Po_countEntries_y13 C x1 x2 x3 x5 d g0 g1 g2 g3 h1 (fun z0_ z1_ z2_ z3_ e1_ eq w0_ w1_ w2_ w3_ => by cases eq; exact ih _ _ _ _ _ w0_ w1_ w2_ w3_ h k0) (fun z0_ e1_ eq w0_ => by cases eq)
set_option maxHeartbeats 4000000 in
theorem ok_Po_countEntries_l13 {p : Program} {l : Launch} {e : Env} {s : State} {m : MethodId} {args : Array Value} {below : List Frame} {meth : Method} {c : Code} {D : va_G} {cA : Nat → ClassId} {ad : Nat → Nat} {A : Nat → Prop} (C : Cx p s m args c prog_8_method_16_code 6 "PollBooks$Poll" D cA ad 0 A) {Q : State → Prop} {x : (Int × Dt)} (x1 x2 x3 x5 : Int) (d : Dt) (hx1 : c32 x1) (hx2 : c32 x2) (hx3 : c64 x3) (hx5 : c32 x5) (h : L_Po_countEntries_l13 x1 x2 x3 x5 d = some x) (k0 : ∀ (y0 : Int) (e' : Dt), x = (y0, e') → c64 y0 → G p l e rm_Po_countEntries s m args below meth c 0 0 Q 6 D cA ad 0 A 73 [(9, 0), (9, 0), (9, 0), (1, y0), (9, 0), (9, 0)] [] e') : G p l e rm_Po_countEntries s m args below meth c 0 0 Q 6 D cA ad 0 A 13 [(2, 49), (0, x1), (0, x2), (1, x3), (9, 0), (0, x5)] [] d :=
  ok_Po_countEntries_n13 C FU x1 x2 x3 x5 d hx1 hx2 hx3 hx5 h k0
set_option maxHeartbeats 4000000 in
theorem ok_Po_countEntries {l : Launch} {r : Int} {d' : Dt} (p1 p2 : Int) (d : Dt) (hp1 : c32 p1) (hp2 : c32 p2) (h : L_Po_countEntries p1 p2 d = some (r, d')) : MC l y_Po_countEntries prog_8_method_16_code 6 (some .long) rm_Po_countEntries 0 [(2, 49), (0, p1), (0, p2)] d (some (1, r)) d' := by
  refine MC.of (by decide) (Nat.le_of_ble_eq_true rfl) ?_
  intro p e s m args below meth c D cA ad A C hlk hr
  replace C : Cx p s m args c prog_8_method_16_code 6 "PollBooks$Poll" D cA ad 0 A := C
  show G p l e rm_Po_countEntries s m args below meth c 0 0 (MQ below (fun _ => QC D cA ad 0 A (some .long) (some (1, r)) d') args s 0 0 A) 6 D cA ad 0 A 0 [(2, 49), (0, p1), (0, p2)] [] d
  refine g_sub (lo2 := [(2, 49), (0, p1), (0, p2), (9, 0), (9, 0), (9, 0)]) (lsb_v (lsb_v (lsb_v (lsb_n (lsb_n (lsb_n lsb_e)))))) ?_
  unfold L_Po_countEntries at h
  refine g_aload_n C 0 rfl (by decide +kernel) ?_
  refine g_getR C cl6 49 12 57 rfl cd_A49 ⟨by decide, rfl, by decide⟩ rfl rfl (nA (by decide)) (ix := 40) lk_332 (by decide +kernel) ?_
  refine g_iconst C 0 (cK rfl) (by decide +kernel) ?_
  obtain ⟨r22_, d21_, hr23_, h⟩ := bd_some h
  refine g_callS C mw_Ar_fill_aII [(2, 57), (0, 0)] (ok_Ar_fill_aII 57 4 cd_A57 (fun _ => (nA (by decide))) 0 d (c32_cb (Or.inl rfl)) hr23_) (ix := 127) lk_1155 lk_37 ⟨rfl, rfl, Nat.le_of_ble_eq_true rfl, Nat.le_of_ble_eq_true rfl⟩ rfl (rest := []) rfl (Nat.le_of_ble_eq_true rfl) ⟨Nat.zero_le _, Nat.zero_le _⟩ (by decide +kernel) (fun _ hc24_ => ?_)
  refine g_st (st2 := []) rfl ?_
  refine g_lconst C 0 (v := 0) (by decide) (by decide +kernel) ?_
  refine s_lstore_n C 3 (lo' := [(2, 49), (0, p1), (0, p2), (1, 0), (9, 0), (9, 0)]) (by decide) (s2k (s2k (s2n (by decide) s2z))) (by decide +kernel) ?_
  refine g_iconst C 0 (cK rfl) (by decide +kernel) ?_
  refine s_istore C 5 (lo' := [(2, 49), (0, p1), (0, p2), (1, 0), (9, 0), (0, 0)]) (by decide) (s1k (s1k (s1k (s1k (s1n (by decide) s1z))))) (by decide +kernel) ?_
  refine g_sub (lo2 := [(2, 49), (0, p1), (0, p2), (1, 0), (9, 0), (0, 0)]) (lsb_v (lsb_v (lsb_v (lsb_v (lsb_c (lsb_v lsb_e)))))) ?_
  obtain ⟨x25_, hx26_, h⟩ := lb_some h
  refine ok_Po_countEntries_l13 C p1 p2 0 0 d21_ hp1 hp2 (cL rfl) (c32_cb (Or.inl rfl)) hx26_ (fun v27_ d28_ eq29_ hv27_ => ?_)
  subst eq29_
  replace h := u1_e h
  refine g_lload_n C 3 rfl (by decide +kernel) ?_
  obtain ⟨rfl, rfl⟩ := ret_inj h
  exact g_lret C hv27_ hlk hr (by decide +kernel)
/-! PollBooks$Poll.countOffers(JIII)I -/
def y_Po_countOffers : MethodName := ⟨"PollBooks$Poll", "countOffers", "(JIII)I"⟩
def rm_Po_countOffers : Room := { frames := 5, cells := 0, slots := 0, locals := 131 }
theorem mw_Po_countOffers : MW y_Po_countOffers prog_8_method_17_code 12 (some .int) 4 := ⟨lk_1163, lk_10, by decide +kernel⟩
def L_Po_countOffers_b116 (x3 x4 x5 x6 x8 x9 : Int) (d : Dt) : Option ((Int × Int × Int × Int × Int × Int × Dt) ⊕ ((Int × Dt))) :=
  some (Sum.inl (x3, x4, x5, x6, x8, (w32 (x9 + 1)), d))
def L_Po_countOffers_b85 (x3 x4 x5 x6 x9 x10 s0 : Int) (d : Dt) : Option ((Int × Int × Int × Int × Int × Int × Dt) ⊕ ((Int × Dt))) :=
  if s0 = 0 then lt_ (lor x6 (lshl 1 x10)) (fun v2_ => ck ((0 : Int) ≤ x9 ∧ x9 < 20) (bd (L_PB_addSet 57 4 (d 55 x9.toNat) 1 d) (fun r8_ d7_ => L_Po_countOffers_b116 x3 x4 x5 v2_ s0 x9 d7_))) else L_Po_countOffers_b116 x3 x4 x5 x6 s0 x9 d
def L_Po_countOffers_b50 (x3 x4 x5 x6 x9 x10 s0 : Int) (d : Dt) : Option ((Int × Int × Int × Int × Int × Int × Dt) ⊕ ((Int × Dt))) :=
  if s0 = 0 then ck ((0 : Int) ≤ x9 ∧ x9 < 20) (ck ((0 : Int) ≤ x9 ∧ x9 < 20) (bd (L_Po_judge x10 (d 56 x9.toNat) (d 55 x9.toNat) x4 x5 d) (fun r17_ d16_ => L_Po_countOffers_b85 x3 x4 x5 x6 x9 x10 r17_ d16_))) else L_Po_countOffers_b85 x3 x4 x5 x6 x9 x10 2 d
def L_Po_countOffers_y9 (x3 x4 x5 x6 x8 x9 : Int) (d : Dt) : Option ((Int × Int × Int × Int × Int × Int × Dt) ⊕ ((Int × Dt))) :=
  if x9 < x3 then if x9 < (d 49 11) then ck ((0 : Int) ≤ x9 ∧ x9 < 20) (lt_ (d 54 x9.toNat) (fun v25_ => if (land (lshr x6 v25_) 1) = 0 then L_Po_countOffers_b50 x3 x4 x5 x6 x9 v25_ 0 d else L_Po_countOffers_b50 x3 x4 x5 x6 x9 v25_ 1 d)) else some (Sum.inr (x8, d)) else some (Sum.inr (x8, d))
def L_Po_countOffers_l9 (x3 x4 x5 x6 x8 x9 : Int) (d : Dt) : Option ((Int × Dt)) := lpF (fun q : Int × Int × Int × Int × Int × Int × Dt => L_Po_countOffers_y9 q.1 q.2.1 q.2.2.1 q.2.2.2.1 q.2.2.2.2.1 q.2.2.2.2.2.1 q.2.2.2.2.2.2) FU (x3, x4, x5, x6, x8, x9, d)
def L_Po_countOffers (p1 p2 p3 p4 : Int) (d : Dt) : Option (Int × Dt) :=
  lb (L_Po_countOffers_l9 p2 p3 p4 p1 0 0 d) (fun q34_ => u1 q34_ (fun v31_ d32_ => some (v31_, d32_)))
set_option maxHeartbeats 4000000 in
theorem ok_Po_countOffers_b116 {p : Program} {l : Launch} {e : Env} {s : State} {m : MethodId} {args : Array Value} {below : List Frame} {meth : Method} {c : Code} {D : va_G} {cA : Nat → ClassId} {ad : Nat → Nat} {A : Nat → Prop} (C : Cx p s m args c prog_8_method_17_code 12 "PollBooks$Poll" D cA ad 0 A) {Q : State → Prop} {o : (Int × Int × Int × Int × Int × Int × Dt) ⊕ ((Int × Dt))} (x3 x4 x5 x6 x8 x9 : Int) (d : Dt) (hx3 : c32 x3) (hx4 : c32 x4) (hx5 : c32 x5) (hx6 : c64 x6) (hx8 : c32 x8) (hx9 : c32 x9) (h : L_Po_countOffers_b116 x3 x4 x5 x6 x8 x9 d = some o) (kb : ∀ (y0 y1 y2 y3 y4 y5 : Int) (e' : Dt), o = .inl (y0, y1, y2, y3, y4, y5, e') → c32 y0 → c32 y1 → c32 y2 → c64 y3 → c32 y4 → c32 y5 → G p l e rm_Po_countOffers s m args below meth c 0 0 Q 12 D cA ad 0 A 9 [(2, 49), (9, 0), (9, 0), (0, y0), (0, y1), (0, y2), (1, y3), (9, 0), (0, y4), (0, y5), (9, 0), (9, 0)] [] e') (k0 : ∀ (y0 : Int) (e' : Dt), o = .inr (y0, e') → c32 y0 → G p l e rm_Po_countOffers s m args below meth c 0 0 Q 12 D cA ad 0 A 122 [(9, 0), (9, 0), (9, 0), (9, 0), (9, 0), (9, 0), (9, 0), (9, 0), (0, y0), (9, 0), (9, 0), (9, 0)] [] e') : G p l e rm_Po_countOffers s m args below meth c 0 0 Q 12 D cA ad 0 A 116 [(2, 49), (9, 0), (9, 0), (0, x3), (0, x4), (0, x5), (1, x6), (9, 0), (0, x8), (0, x9), (9, 0), (9, 0)] [] d := by
  unfold L_Po_countOffers_b116 at h
  refine s_iinc C 9 1 (lo' := [(2, 49), (9, 0), (9, 0), (0, x3), (0, x4), (0, x5), (1, x6), (9, 0), (0, x8), (0, (w32 (x9 + 1))), (9, 0), (9, 0)]) rfl (by decide) (s1k (s1k (s1k (s1k (s1k (s1k (s1k (s1k (s1n (by decide) s1z))))))))) (by decide +kernel) ?_
  refine g_goto C 9 (off := (-110)) (by decide +kernel) (by decide) ?_
  refine g_sub (lo2 := [(2, 49), (9, 0), (9, 0), (0, x3), (0, x4), (0, x5), (1, x6), (9, 0), (0, x8), (0, (w32 (x9 + 1))), (9, 0), (9, 0)]) (lsb_v (lsb_c (lsb_c (lsb_v (lsb_v (lsb_v (lsb_v (lsb_c (lsb_v (lsb_v (lsb_c (lsb_c lsb_e)))))))))))) ?_
  obtain rfl := Option.some.inj h
  exact kb x3 x4 x5 x6 x8 (w32 (x9 + 1)) d rfl hx3 hx4 hx5 hx6 hx8 (w32_c _)
set_option maxHeartbeats 4000000 in
theorem ok_Po_countOffers_b85 {p : Program} {l : Launch} {e : Env} {s : State} {m : MethodId} {args : Array Value} {below : List Frame} {meth : Method} {c : Code} {D : va_G} {cA : Nat → ClassId} {ad : Nat → Nat} {A : Nat → Prop} (C : Cx p s m args c prog_8_method_17_code 12 "PollBooks$Poll" D cA ad 0 A) {Q : State → Prop} {o : (Int × Int × Int × Int × Int × Int × Dt) ⊕ ((Int × Dt))} (x3 x4 x5 x6 x9 x10 s0 : Int) (d : Dt) (hx3 : c32 x3) (hx4 : c32 x4) (hx5 : c32 x5) (hx6 : c64 x6) (hx9 : c32 x9) (hx10 : c32 x10) (hs0 : c32 s0) (h : L_Po_countOffers_b85 x3 x4 x5 x6 x9 x10 s0 d = some o) (kb : ∀ (y0 y1 y2 y3 y4 y5 : Int) (e' : Dt), o = .inl (y0, y1, y2, y3, y4, y5, e') → c32 y0 → c32 y1 → c32 y2 → c64 y3 → c32 y4 → c32 y5 → G p l e rm_Po_countOffers s m args below meth c 0 0 Q 12 D cA ad 0 A 9 [(2, 49), (9, 0), (9, 0), (0, y0), (0, y1), (0, y2), (1, y3), (9, 0), (0, y4), (0, y5), (9, 0), (9, 0)] [] e') (k0 : ∀ (y0 : Int) (e' : Dt), o = .inr (y0, e') → c32 y0 → G p l e rm_Po_countOffers s m args below meth c 0 0 Q 12 D cA ad 0 A 122 [(9, 0), (9, 0), (9, 0), (9, 0), (9, 0), (9, 0), (9, 0), (9, 0), (0, y0), (9, 0), (9, 0), (9, 0)] [] e') : G p l e rm_Po_countOffers s m args below meth c 0 0 Q 12 D cA ad 0 A 85 [(2, 49), (9, 0), (9, 0), (0, x3), (0, x4), (0, x5), (1, x6), (9, 0), (9, 0), (0, x9), (0, x10), (9, 0)] [(0, s0)] d := by
  unfold L_Po_countOffers_b85 at h
  refine s_istore C 8 (lo' := [(2, 49), (9, 0), (9, 0), (0, x3), (0, x4), (0, x5), (1, x6), (9, 0), (0, s0), (0, x9), (0, x10), (9, 0)]) (by decide) (s1k (s1k (s1k (s1k (s1k (s1k (s1k (s1n (by decide) s1z)))))))) (by decide +kernel) ?_
  refine g_iload C 8 rfl (by decide +kernel) ?_
  refine g_if_ne C (off := 27) (tgt := 116) hs0 (by decide +kernel) (by decide) (fun hc1_ => ?_) (fun hc1_ => ?_)
  · replace h := ite_t hc1_ h
    refine g_lload C 6 rfl (by decide +kernel) ?_
    refine g_lconst C 1 (v := 1) (by decide) (by decide +kernel) ?_
    refine g_iload C 10 rfl (by decide +kernel) ?_
    refine g_lshl C (by decide +kernel) ?_
    refine g_lor C (by decide +kernel) ?_
    obtain ⟨v2_, ev3_, h⟩ := lt_some h
    refine g_val ev3_.symm ?_
    have hv4_ : c64 v2_ := by rw [ev3_]; exact (l_c _)
    refine s_lstore C 6 (lo' := [(2, 49), (9, 0), (9, 0), (0, x3), (0, x4), (0, x5), (1, v2_), (9, 0), (0, s0), (0, x9), (0, x10), (9, 0)]) (by decide) (s2k (s2k (s2k (s2k (s2k (s2n (by decide) s2z)))))) (by decide +kernel) ?_
    refine g_aload_n C 0 rfl (by decide +kernel) ?_
    refine g_getR C cl6 49 12 57 rfl cd_A49 ⟨by decide, rfl, by decide⟩ rfl rfl (nA (by decide)) (ix := 40) lk_332 (by decide +kernel) ?_
    refine g_aload_n C 0 rfl (by decide +kernel) ?_
    refine g_getR C cl6 49 9 55 rfl cd_A49 ⟨by decide, rfl, by decide⟩ rfl rfl (nA (by decide)) (ix := 34) lk_328 (by decide +kernel) ?_
    refine g_iload C 9 rfl (by decide +kernel) ?_
    obtain ⟨hb5_, h⟩ := ck_some h
    refine g_iald C 55 hx9 rfl cd_A55 (nA (by decide)) hb5_ (by decide +kernel) (fun hc6_ => ?_)
    refine g_iconst C 1 (cK rfl) (by decide +kernel) ?_
    obtain ⟨r8_, d7_, hr9_, h⟩ := bd_some h
    refine g_callSN C mw_PB_addSet [(2, 57), (0, (d 55 x9.toNat)), (0, 1)] (ok_PB_addSet 57 4 cd_A57 (by decide) (d 55 x9.toNat) 1 d hc6_ (c32_cb (Or.inr rfl)) hr9_) (ix := 137) lk_1157 lk_1158 ⟨rfl, rfl, Nat.le_of_ble_eq_true rfl, Nat.le_of_ble_eq_true rfl⟩ rfl (rest := []) rfl (Nat.le_of_ble_eq_true rfl) ⟨Nat.zero_le _, Nat.zero_le _⟩ (by decide +kernel) (fun _ hc10_ => ?_)
    refine g_st (st2 := []) rfl ?_
    refine g_sub (lo2 := [(2, 49), (9, 0), (9, 0), (0, x3), (0, x4), (0, x5), (1, v2_), (9, 0), (0, s0), (0, x9), (9, 0), (9, 0)]) (lsb_v (lsb_c (lsb_c (lsb_v (lsb_v (lsb_v (lsb_v (lsb_c (lsb_v (lsb_v (lsb_c (lsb_c lsb_e)))))))))))) ?_
    exact ok_Po_countOffers_b116 C x3 x4 x5 v2_ s0 x9 d7_ hx3 hx4 hx5 hv4_ hs0 hx9 h kb k0
  · replace h := ite_f hc1_ h
    refine g_sub (lo2 := [(2, 49), (9, 0), (9, 0), (0, x3), (0, x4), (0, x5), (1, x6), (9, 0), (0, s0), (0, x9), (9, 0), (9, 0)]) (lsb_v (lsb_c (lsb_c (lsb_v (lsb_v (lsb_v (lsb_v (lsb_c (lsb_v (lsb_v (lsb_c (lsb_c lsb_e)))))))))))) ?_
    exact ok_Po_countOffers_b116 C x3 x4 x5 x6 s0 x9 d hx3 hx4 hx5 hx6 hs0 hx9 h kb k0
set_option maxHeartbeats 4000000 in
theorem ok_Po_countOffers_b50 {p : Program} {l : Launch} {e : Env} {s : State} {m : MethodId} {args : Array Value} {below : List Frame} {meth : Method} {c : Code} {D : va_G} {cA : Nat → ClassId} {ad : Nat → Nat} {A : Nat → Prop} (C : Cx p s m args c prog_8_method_17_code 12 "PollBooks$Poll" D cA ad 0 A) {Q : State → Prop} {o : (Int × Int × Int × Int × Int × Int × Dt) ⊕ ((Int × Dt))} (x3 x4 x5 x6 x9 x10 s0 : Int) (d : Dt) (hx3 : c32 x3) (hx4 : c32 x4) (hx5 : c32 x5) (hx6 : c64 x6) (hx9 : c32 x9) (hx10 : c32 x10) (hs0 : cb s0) (h : L_Po_countOffers_b50 x3 x4 x5 x6 x9 x10 s0 d = some o) (kb : ∀ (y0 y1 y2 y3 y4 y5 : Int) (e' : Dt), o = .inl (y0, y1, y2, y3, y4, y5, e') → c32 y0 → c32 y1 → c32 y2 → c64 y3 → c32 y4 → c32 y5 → G p l e rm_Po_countOffers s m args below meth c 0 0 Q 12 D cA ad 0 A 9 [(2, 49), (9, 0), (9, 0), (0, y0), (0, y1), (0, y2), (1, y3), (9, 0), (0, y4), (0, y5), (9, 0), (9, 0)] [] e') (k0 : ∀ (y0 : Int) (e' : Dt), o = .inr (y0, e') → c32 y0 → G p l e rm_Po_countOffers s m args below meth c 0 0 Q 12 D cA ad 0 A 122 [(9, 0), (9, 0), (9, 0), (9, 0), (9, 0), (9, 0), (9, 0), (9, 0), (0, y0), (9, 0), (9, 0), (9, 0)] [] e') : G p l e rm_Po_countOffers s m args below meth c 0 0 Q 12 D cA ad 0 A 50 [(2, 49), (9, 0), (9, 0), (0, x3), (0, x4), (0, x5), (1, x6), (9, 0), (9, 0), (0, x9), (0, x10), (9, 0)] [(0, s0)] d := by
  unfold L_Po_countOffers_b50 at h
  refine s_istore C 11 (lo' := [(2, 49), (9, 0), (9, 0), (0, x3), (0, x4), (0, x5), (1, x6), (9, 0), (9, 0), (0, x9), (0, x10), (0, s0)]) (by decide) (s1k (s1k (s1k (s1k (s1k (s1k (s1k (s1k (s1k (s1k (s1n (by decide) s1z))))))))))) (by decide +kernel) ?_
  refine g_iload C 11 rfl (by decide +kernel) ?_
  refine g_if_eq C (off := 7) (tgt := 61) (c32_cb hs0) (by decide +kernel) (by decide) (fun hc11_ => ?_) (fun hc11_ => ?_)
  · replace h := ite_t hc11_ h
    refine g_aload_n C 0 rfl (by decide +kernel) ?_
    refine g_iload C 10 rfl (by decide +kernel) ?_
    refine g_aload_n C 0 rfl (by decide +kernel) ?_
    refine g_getR C cl6 49 10 56 rfl cd_A49 ⟨by decide, rfl, by decide⟩ rfl rfl (nA (by decide)) (ix := 37) lk_329 (by decide +kernel) ?_
    refine g_iload C 9 rfl (by decide +kernel) ?_
    obtain ⟨hb12_, h⟩ := ck_some h
    refine g_iald C 56 hx9 rfl cd_A56 (nA (by decide)) hb12_ (by decide +kernel) (fun hc13_ => ?_)
    refine g_aload_n C 0 rfl (by decide +kernel) ?_
    refine g_getR C cl6 49 9 55 rfl cd_A49 ⟨by decide, rfl, by decide⟩ rfl rfl (nA (by decide)) (ix := 34) lk_328 (by decide +kernel) ?_
    refine g_iload C 9 rfl (by decide +kernel) ?_
    obtain ⟨hb14_, h⟩ := ck_some h
    refine g_iald C 55 hx9 rfl cd_A55 (nA (by decide)) hb14_ (by decide +kernel) (fun hc15_ => ?_)
    refine g_iload C 4 rfl (by decide +kernel) ?_
    refine g_iload C 5 rfl (by decide +kernel) ?_
    obtain ⟨r17_, d16_, hr18_, h⟩ := bd_some h
    refine g_callV C mw_Po_judge [(0, x10), (0, (d 56 x9.toNat)), (0, (d 55 x9.toNat)), (0, x4), (0, x5)] 49 cl6 rfl (ok_Po_judge x10 (d 56 x9.toNat) (d 55 x9.toNat) x4 x5 d hx10 hc13_ hc15_ hx4 hx5 hr18_) cd_A49 (by decide) (nA (by decide)) (ix := 101) lk_1129 lk_1131 lkp_41 ⟨rfl, rfl, Nat.le_of_ble_eq_true rfl, Nat.le_of_ble_eq_true rfl⟩ rfl (rest := []) rfl (Nat.le_of_ble_eq_true rfl) ⟨Nat.zero_le _, Nat.zero_le _⟩ (by decide +kernel) (fun _ hc19_ => ?_)
    replace hc19_ : c32 r17_ := hc19_
    refine g_st (st2 := [(0, r17_)]) rfl ?_
    refine g_sub (lo2 := [(2, 49), (9, 0), (9, 0), (0, x3), (0, x4), (0, x5), (1, x6), (9, 0), (9, 0), (0, x9), (0, x10), (9, 0)]) (lsb_v (lsb_c (lsb_c (lsb_v (lsb_v (lsb_v (lsb_v (lsb_c (lsb_c (lsb_v (lsb_v (lsb_c lsb_e)))))))))))) ?_
    exact ok_Po_countOffers_b85 C x3 x4 x5 x6 x9 x10 r17_ d16_ hx3 hx4 hx5 hx6 hx9 hx10 hc19_ h kb k0
  · replace h := ite_f hc11_ h
    refine g_iconst C 2 (cK rfl) (by decide +kernel) ?_
    refine g_goto C 85 (off := 27) (by decide +kernel) (by decide) ?_
    refine g_sub (lo2 := [(2, 49), (9, 0), (9, 0), (0, x3), (0, x4), (0, x5), (1, x6), (9, 0), (9, 0), (0, x9), (0, x10), (9, 0)]) (lsb_v (lsb_c (lsb_c (lsb_v (lsb_v (lsb_v (lsb_v (lsb_c (lsb_c (lsb_v (lsb_v (lsb_c lsb_e)))))))))))) ?_
    exact ok_Po_countOffers_b85 C x3 x4 x5 x6 x9 x10 2 d hx3 hx4 hx5 hx6 hx9 hx10 (cK rfl) h kb k0
set_option maxHeartbeats 4000000 in
theorem ok_Po_countOffers_y9 {p : Program} {l : Launch} {e : Env} {s : State} {m : MethodId} {args : Array Value} {below : List Frame} {meth : Method} {c : Code} {D : va_G} {cA : Nat → ClassId} {ad : Nat → Nat} {A : Nat → Prop} (C : Cx p s m args c prog_8_method_17_code 12 "PollBooks$Poll" D cA ad 0 A) {Q : State → Prop} {o : (Int × Int × Int × Int × Int × Int × Dt) ⊕ ((Int × Dt))} (x3 x4 x5 x6 x8 x9 : Int) (d : Dt) (hx3 : c32 x3) (hx4 : c32 x4) (hx5 : c32 x5) (hx6 : c64 x6) (hx8 : c32 x8) (hx9 : c32 x9) (h : L_Po_countOffers_y9 x3 x4 x5 x6 x8 x9 d = some o) (kb : ∀ (y0 y1 y2 y3 y4 y5 : Int) (e' : Dt), o = .inl (y0, y1, y2, y3, y4, y5, e') → c32 y0 → c32 y1 → c32 y2 → c64 y3 → c32 y4 → c32 y5 → G p l e rm_Po_countOffers s m args below meth c 0 0 Q 12 D cA ad 0 A 9 [(2, 49), (9, 0), (9, 0), (0, y0), (0, y1), (0, y2), (1, y3), (9, 0), (0, y4), (0, y5), (9, 0), (9, 0)] [] e') (k0 : ∀ (y0 : Int) (e' : Dt), o = .inr (y0, e') → c32 y0 → G p l e rm_Po_countOffers s m args below meth c 0 0 Q 12 D cA ad 0 A 122 [(9, 0), (9, 0), (9, 0), (9, 0), (9, 0), (9, 0), (9, 0), (9, 0), (0, y0), (9, 0), (9, 0), (9, 0)] [] e') : G p l e rm_Po_countOffers s m args below meth c 0 0 Q 12 D cA ad 0 A 9 [(2, 49), (9, 0), (9, 0), (0, x3), (0, x4), (0, x5), (1, x6), (9, 0), (0, x8), (0, x9), (9, 0), (9, 0)] [] d := by
  unfold L_Po_countOffers_y9 at h
  refine g_iload C 9 rfl (by decide +kernel) ?_
  refine g_iload_n C 3 rfl (by decide +kernel) ?_
  refine g_icmp_ge C (off := 110) (tgt := 122) hx9 hx3 (by decide +kernel) (by decide) (fun hc20_ => ?_) (fun hc20_ => ?_)
  · replace h := ite_t hc20_ h
    refine g_iload C 9 rfl (by decide +kernel) ?_
    refine g_aload_n C 0 rfl (by decide +kernel) ?_
    refine g_getI C cl6 49 11 rfl cd_A49 ⟨by decide, rfl, by decide⟩ rfl (nA (by decide)) (ix := 88) lk_330 (by decide +kernel) (fun hc21_ => ?_)
    refine g_icmp_ge C (off := 101) (tgt := 122) hx9 hc21_ (by decide +kernel) (by decide) (fun hc22_ => ?_) (fun hc22_ => ?_)
    · replace h := ite_t hc22_ h
      refine g_aload_n C 0 rfl (by decide +kernel) ?_
      refine g_getR C cl6 49 8 54 rfl cd_A49 ⟨by decide, rfl, by decide⟩ rfl rfl (nA (by decide)) (ix := 31) lk_327 (by decide +kernel) ?_
      refine g_iload C 9 rfl (by decide +kernel) ?_
      obtain ⟨hb23_, h⟩ := ck_some h
      refine g_iald C 54 hx9 rfl cd_A54 (nA (by decide)) hb23_ (by decide +kernel) (fun hc24_ => ?_)
      obtain ⟨v25_, ev26_, h⟩ := lt_some h
      refine g_val ev26_.symm ?_
      have hv27_ : c32 v25_ := by rw [ev26_]; exact hc24_
      refine s_istore C 10 (lo' := [(2, 49), (9, 0), (9, 0), (0, x3), (0, x4), (0, x5), (1, x6), (9, 0), (0, x8), (0, x9), (0, v25_), (9, 0)]) (by decide) (s1k (s1k (s1k (s1k (s1k (s1k (s1k (s1k (s1k (s1n (by decide) s1z)))))))))) (by decide +kernel) ?_
      refine g_lload C 6 rfl (by decide +kernel) ?_
      refine g_iload C 10 rfl (by decide +kernel) ?_
      refine g_lshr C (by decide +kernel) ?_
      refine g_lconst C 1 (v := 1) (by decide) (by decide +kernel) ?_
      refine g_land C (by decide +kernel) ?_
      refine g_lconst C 0 (v := 0) (by decide) (by decide +kernel) ?_
      refine g_lc_eq C (off := 7) (tgt := 49) (l_c _) (cL rfl) (by decide +kernel) (by decide +kernel) (by decide) (fun hc28_ => ?_) (fun hc28_ => ?_)
      · replace h := ite_t hc28_ h
        refine g_iconst C 0 (cK rfl) (by decide +kernel) ?_
        refine g_sub (lo2 := [(2, 49), (9, 0), (9, 0), (0, x3), (0, x4), (0, x5), (1, x6), (9, 0), (9, 0), (0, x9), (0, v25_), (9, 0)]) (lsb_v (lsb_c (lsb_c (lsb_v (lsb_v (lsb_v (lsb_v (lsb_c (lsb_c (lsb_v (lsb_v (lsb_c lsb_e)))))))))))) ?_
        exact ok_Po_countOffers_b50 C x3 x4 x5 x6 x9 v25_ 0 d hx3 hx4 hx5 hx6 hx9 hv27_ (Or.inl rfl) h kb k0
      · replace h := ite_f hc28_ h
        refine g_iconst C 1 (cK rfl) (by decide +kernel) ?_
        refine g_goto C 50 (off := 4) (by decide +kernel) (by decide) ?_
        refine g_sub (lo2 := [(2, 49), (9, 0), (9, 0), (0, x3), (0, x4), (0, x5), (1, x6), (9, 0), (9, 0), (0, x9), (0, v25_), (9, 0)]) (lsb_v (lsb_c (lsb_c (lsb_v (lsb_v (lsb_v (lsb_v (lsb_c (lsb_c (lsb_v (lsb_v (lsb_c lsb_e)))))))))))) ?_
        exact ok_Po_countOffers_b50 C x3 x4 x5 x6 x9 v25_ 1 d hx3 hx4 hx5 hx6 hx9 hv27_ (Or.inr rfl) h kb k0
    · replace h := ite_f hc22_ h
      refine g_sub (lo2 := [(9, 0), (9, 0), (9, 0), (9, 0), (9, 0), (9, 0), (9, 0), (9, 0), (0, x8), (9, 0), (9, 0), (9, 0)]) (lsb_c (lsb_c (lsb_c (lsb_c (lsb_c (lsb_c (lsb_c (lsb_c (lsb_v (lsb_c (lsb_c (lsb_c lsb_e)))))))))))) ?_
      obtain rfl := Option.some.inj h
      exact k0 x8 d rfl hx8
  · replace h := ite_f hc20_ h
    refine g_sub (lo2 := [(9, 0), (9, 0), (9, 0), (9, 0), (9, 0), (9, 0), (9, 0), (9, 0), (0, x8), (9, 0), (9, 0), (9, 0)]) (lsb_c (lsb_c (lsb_c (lsb_c (lsb_c (lsb_c (lsb_c (lsb_c (lsb_v (lsb_c (lsb_c (lsb_c lsb_e)))))))))))) ?_
    obtain rfl := Option.some.inj h
    exact k0 x8 d rfl hx8
set_option maxHeartbeats 4000000 in
theorem ok_Po_countOffers_n9 {p : Program} {l : Launch} {e : Env} {s : State} {m : MethodId} {args : Array Value} {below : List Frame} {meth : Method} {c : Code} {D : va_G} {cA : Nat → ClassId} {ad : Nat → Nat} {A : Nat → Prop} (C : Cx p s m args c prog_8_method_17_code 12 "PollBooks$Poll" D cA ad 0 A) {Q : State → Prop} {x : (Int × Dt)} : ∀ (n : Nat) (x3 x4 x5 x6 x8 x9 : Int) (d : Dt), c32 x3 → c32 x4 → c32 x5 → c64 x6 → c32 x8 → c32 x9 → lpF (fun q : Int × Int × Int × Int × Int × Int × Dt => L_Po_countOffers_y9 q.1 q.2.1 q.2.2.1 q.2.2.2.1 q.2.2.2.2.1 q.2.2.2.2.2.1 q.2.2.2.2.2.2) n (x3, x4, x5, x6, x8, x9, d) = some x → (∀ (y0 : Int) (e' : Dt), x = (y0, e') → c32 y0 → G p l e rm_Po_countOffers s m args below meth c 0 0 Q 12 D cA ad 0 A 122 [(9, 0), (9, 0), (9, 0), (9, 0), (9, 0), (9, 0), (9, 0), (9, 0), (0, y0), (9, 0), (9, 0), (9, 0)] [] e') → G p l e rm_Po_countOffers s m args below meth c 0 0 Q 12 D cA ad 0 A 9 [(2, 49), (9, 0), (9, 0), (0, x3), (0, x4), (0, x5), (1, x6), (9, 0), (0, x8), (0, x9), (9, 0), (9, 0)] [] d := by
  intro n
  induction n with
  | zero => intro x3 x4 x5 x6 x8 x9 d g0 g1 g2 g3 g4 g5 h k0; cases h
  | succ n ih =>
    intro x3 x4 x5 x6 x8 x9 d g0 g1 g2 g3 g4 g5 h k0
    rcases lpF_some h with h | ⟨⟨v0_, v1_, v2_, v3_, v4_, v5_, e0_⟩, h1, h⟩
    · exact ok_Po_countOffers_y9 C x3 x4 x5 x6 x8 x9 d g0 g1 g2 g3 g4 g5 h (fun z0_ z1_ z2_ z3_ z4_ z5_ e1_ eq w0_ w1_ w2_ w3_ w4_ w5_ => by cases eq) (fun z0_ e1_ eq w0_ => k0 _ _ (by cases eq; rfl) w0_)
    · exact ok_Po_countOffers_y9 C x3 x4 x5 x6 x8 x9 d g0 g1 g2 g3 g4 g5 h1 (fun z0_ z1_ z2_ z3_ z4_ z5_ e1_ eq w0_ w1_ w2_ w3_ w4_ w5_ => by cases eq; exact ih _ _ _ _ _ _ _ w0_ w1_ w2_ w3_ w4_ w5_ h k0) (fun z0_ e1_ eq w0_ => by cases eq)
set_option maxHeartbeats 4000000 in
theorem ok_Po_countOffers_l9 {p : Program} {l : Launch} {e : Env} {s : State} {m : MethodId} {args : Array Value} {below : List Frame} {meth : Method} {c : Code} {D : va_G} {cA : Nat → ClassId} {ad : Nat → Nat} {A : Nat → Prop} (C : Cx p s m args c prog_8_method_17_code 12 "PollBooks$Poll" D cA ad 0 A) {Q : State → Prop} {x : (Int × Dt)} (x3 x4 x5 x6 x8 x9 : Int) (d : Dt) (hx3 : c32 x3) (hx4 : c32 x4) (hx5 : c32 x5) (hx6 : c64 x6) (hx8 : c32 x8) (hx9 : c32 x9) (h : L_Po_countOffers_l9 x3 x4 x5 x6 x8 x9 d = some x) (k0 : ∀ (y0 : Int) (e' : Dt), x = (y0, e') → c32 y0 → G p l e rm_Po_countOffers s m args below meth c 0 0 Q 12 D cA ad 0 A 122 [(9, 0), (9, 0), (9, 0), (9, 0), (9, 0), (9, 0), (9, 0), (9, 0), (0, y0), (9, 0), (9, 0), (9, 0)] [] e') : G p l e rm_Po_countOffers s m args below meth c 0 0 Q 12 D cA ad 0 A 9 [(2, 49), (9, 0), (9, 0), (0, x3), (0, x4), (0, x5), (1, x6), (9, 0), (0, x8), (0, x9), (9, 0), (9, 0)] [] d :=
  ok_Po_countOffers_n9 C FU x3 x4 x5 x6 x8 x9 d hx3 hx4 hx5 hx6 hx8 hx9 h k0
set_option maxHeartbeats 4000000 in
theorem ok_Po_countOffers {l : Launch} {r : Int} {d' : Dt} (p1 p2 p3 p4 : Int) (d : Dt) (hp1 : c64 p1) (hp2 : c32 p2) (hp3 : c32 p3) (hp4 : c32 p4) (h : L_Po_countOffers p1 p2 p3 p4 d = some (r, d')) : MC l y_Po_countOffers prog_8_method_17_code 12 (some .int) rm_Po_countOffers 0 [(2, 49), (1, p1), (0, p2), (0, p3), (0, p4)] d (some (0, r)) d' := by
  refine MC.of (by decide) (Nat.le_of_ble_eq_true rfl) ?_
  intro p e s m args below meth c D cA ad A C hlk hr
  replace C : Cx p s m args c prog_8_method_17_code 12 "PollBooks$Poll" D cA ad 0 A := C
  show G p l e rm_Po_countOffers s m args below meth c 0 0 (MQ below (fun _ => QC D cA ad 0 A (some .int) (some (0, r)) d') args s 0 0 A) 12 D cA ad 0 A 0 [(2, 49), (1, p1), (9, 0), (0, p2), (0, p3), (0, p4)] [] d
  refine g_sub (lo2 := [(2, 49), (1, p1), (9, 0), (0, p2), (0, p3), (0, p4), (9, 0), (9, 0), (9, 0), (9, 0), (9, 0), (9, 0)]) (lsb_v (lsb_v (lsb_c (lsb_v (lsb_v (lsb_v (lsb_n (lsb_n (lsb_n (lsb_n (lsb_n (lsb_n lsb_e)))))))))))) ?_
  unfold L_Po_countOffers at h
  refine g_lload_n C 1 rfl (by decide +kernel) ?_
  refine s_lstore C 6 (lo' := [(2, 49), (1, p1), (9, 0), (0, p2), (0, p3), (0, p4), (1, p1), (9, 0), (9, 0), (9, 0), (9, 0), (9, 0)]) (by decide) (s2k (s2k (s2k (s2k (s2k (s2n (by decide) s2z)))))) (by decide +kernel) ?_
  refine g_iconst C 0 (cK rfl) (by decide +kernel) ?_
  refine s_istore C 8 (lo' := [(2, 49), (1, p1), (9, 0), (0, p2), (0, p3), (0, p4), (1, p1), (9, 0), (0, 0), (9, 0), (9, 0), (9, 0)]) (by decide) (s1k (s1k (s1k (s1k (s1k (s1k (s1k (s1n (by decide) s1z)))))))) (by decide +kernel) ?_
  refine g_iconst C 0 (cK rfl) (by decide +kernel) ?_
  refine s_istore C 9 (lo' := [(2, 49), (1, p1), (9, 0), (0, p2), (0, p3), (0, p4), (1, p1), (9, 0), (0, 0), (0, 0), (9, 0), (9, 0)]) (by decide) (s1k (s1k (s1k (s1k (s1k (s1k (s1k (s1k (s1n (by decide) s1z))))))))) (by decide +kernel) ?_
  refine g_sub (lo2 := [(2, 49), (9, 0), (9, 0), (0, p2), (0, p3), (0, p4), (1, p1), (9, 0), (0, 0), (0, 0), (9, 0), (9, 0)]) (lsb_v (lsb_c (lsb_c (lsb_v (lsb_v (lsb_v (lsb_v (lsb_c (lsb_v (lsb_v (lsb_c (lsb_c lsb_e)))))))))))) ?_
  obtain ⟨x29_, hx30_, h⟩ := lb_some h
  refine ok_Po_countOffers_l9 C p2 p3 p4 p1 0 0 d hp2 hp3 hp4 hp1 (c32_cb (Or.inl rfl)) (c32_cb (Or.inl rfl)) hx30_ (fun v31_ d32_ eq33_ hv31_ => ?_)
  subst eq33_
  replace h := u1_e h
  refine g_iload C 8 rfl (by decide +kernel) ?_
  obtain ⟨rfl, rfl⟩ := ret_inj h
  exact g_iret C hv31_ hlk hr (by decide +kernel)
/-! PollBooks.stands(III)I -/
def y_PB_stands : MethodName := ⟨"PollBooks", "stands", "(III)I"⟩
def rm_PB_stands : Room := { frames := 7, cells := 0, slots := 0, locals := 180 }
theorem mw_PB_stands : MW y_PB_stands prog_1_method_37_code 6 (some .int) 3 := ⟨lk_1146, lk_1, by decide +kernel⟩
def L_PB_stands_b31 (x1 x2 x3 s1 : Int) (d : Dt) : Option (Int × Dt) :=
  if s1 = 0 then bd (L_Po_countEntries x2 x3 (up2 d 0 0 s1)) (fun r4_ d3_ => bd (L_Po_countOffers r4_ (w32 (x1 + 1)) x2 x3 d3_) (fun r8_ d7_ => some (r8_, d7_))) else some ((-1), (up2 d 0 0 s1))
def L_PB_stands (p1 p2 p3 : Int) (d : Dt) : Option (Int × Dt) :=
  bd (L_Po_hasOffer p1 d) (fun r12_ d11_ => if r12_ = 0 then L_PB_stands_b31 p1 p2 p3 1 d11_ else bd (L_PB_isPlace p2 d11_) (fun r17_ d16_ => if r17_ = 0 then L_PB_stands_b31 p1 p2 p3 1 d16_ else bd (L_PB_isDay p3 d16_) (fun r22_ d21_ => if r22_ = 0 then L_PB_stands_b31 p1 p2 p3 1 d21_ else L_PB_stands_b31 p1 p2 p3 0 d21_)))
set_option maxHeartbeats 4000000 in
theorem ok_PB_stands_b31 {p : Program} {l : Launch} {e : Env} {s : State} {m : MethodId} {args : Array Value} {below : List Frame} {meth : Method} {c : Code} {D : va_G} {cA : Nat → ClassId} {ad : Nat → Nat} {A : Nat → Prop} (C : Cx p s m args c prog_1_method_37_code 6 "PollBooks" D cA ad 0 A) (hlk : meth.locks = false) (hr : meth.sig.returnType = (some .int)) {r : Int} {d' : Dt} (x1 x2 x3 s1 : Int) (d : Dt) (hx1 : c32 x1) (hx2 : c32 x2) (hx3 : c32 x3) (hs1 : cb s1) (h : L_PB_stands_b31 x1 x2 x3 s1 d = some (r, d')) : G p l e rm_PB_stands s m args below meth c 0 0 (MQ below (fun _ => QC D cA ad 0 A (some .int) (some (0, r)) d') args s 0 0 A) 6 D cA ad 0 A 31 [(2, 0), (0, x1), (0, x2), (0, x3), (9, 0), (9, 0)] [(0, s1), (2, 0)] d := by
  unfold L_PB_stands_b31 at h
  refine g_putI C cl11 0 0 (c32_cb hs1) rfl cd_A0 ⟨by decide, rfl, by decide⟩ rfl (nA (by decide)) (ix := 9) lk_467 rfl rfl (by decide +kernel) ?_
  refine g_aload_n C 0 rfl (by decide +kernel) ?_
  refine g_getI C cl11 0 0 rfl cd_A0 ⟨by decide, rfl, by decide⟩ rfl (nA (by decide)) (ix := 9) lk_467 (by decide +kernel) (fun hc1_ => ?_)
  refine g_val (y := s1) rfl ?_
  replace hc1_ : c32 s1 := hc1_
  refine g_if_eq C (off := 5) (tgt := 43) hc1_ (by decide +kernel) (by decide) (fun hc2_ => ?_) (fun hc2_ => ?_)
  · replace h := ite_t hc2_ h
    refine g_aload_n C 0 rfl (by decide +kernel) ?_
    refine g_getR C cl11 0 7 49 rfl cd_A0 ⟨by decide, rfl, by decide⟩ rfl rfl (nA (by decide)) (ix := 64) lk_474 (by decide +kernel) ?_
    refine g_iload_n C 2 rfl (by decide +kernel) ?_
    refine g_iload_n C 3 rfl (by decide +kernel) ?_
    obtain ⟨r4_, d3_, hr5_, h⟩ := bd_some h
    refine g_callV C mw_Po_countEntries [(0, x2), (0, x3)] 49 cl6 rfl (ok_Po_countEntries x2 x3 (up2 d 0 0 s1) hx2 hx3 hr5_) cd_A49 (by decide) (nA (by decide)) (ix := 345) lk_1151 lk_1152 lk_1153 ⟨rfl, rfl, Nat.le_of_ble_eq_true rfl, Nat.le_of_ble_eq_true rfl⟩ rfl (rest := []) rfl (Nat.le_of_ble_eq_true rfl) ⟨Nat.zero_le _, Nat.zero_le _⟩ (by decide +kernel) (fun _ hc6_ => ?_)
    replace hc6_ : c64 r4_ := hc6_
    refine g_st (st2 := [(1, r4_)]) rfl ?_
    refine s_lstore C 4 (lo' := [(2, 0), (0, x1), (0, x2), (0, x3), (1, r4_), (9, 0)]) (by decide) (s2k (s2k (s2k (s2n (by decide) s2z)))) (by decide +kernel) ?_
    refine g_aload_n C 0 rfl (by decide +kernel) ?_
    refine g_getR C cl11 0 7 49 rfl cd_A0 ⟨by decide, rfl, by decide⟩ rfl rfl (nA (by decide)) (ix := 64) lk_474 (by decide +kernel) ?_
    refine g_lload C 4 rfl (by decide +kernel) ?_
    refine g_iload_n C 1 rfl (by decide +kernel) ?_
    refine g_iconst C 1 (cK rfl) (by decide +kernel) ?_
    refine g_iadd C (by decide +kernel) ?_
    refine g_iload_n C 2 rfl (by decide +kernel) ?_
    refine g_iload_n C 3 rfl (by decide +kernel) ?_
    obtain ⟨r8_, d7_, hr9_, h⟩ := bd_some h
    refine g_callV C mw_Po_countOffers [(1, r4_), (0, (w32 (x1 + 1))), (0, x2), (0, x3)] 49 cl6 rfl (ok_Po_countOffers r4_ (w32 (x1 + 1)) x2 x3 d3_ hc6_ (w32_c _) hx2 hx3 hr9_) cd_A49 (by decide) (nA (by decide)) (ix := 348) lk_1160 lk_1161 lk_1162 ⟨rfl, rfl, Nat.le_of_ble_eq_true rfl, Nat.le_of_ble_eq_true rfl⟩ rfl (rest := []) rfl (Nat.le_of_ble_eq_true rfl) ⟨Nat.zero_le _, Nat.zero_le _⟩ (by decide +kernel) (fun _ hc10_ => ?_)
    replace hc10_ : c32 r8_ := hc10_
    refine g_st (st2 := [(0, r8_)]) rfl ?_
    obtain ⟨rfl, rfl⟩ := ret_inj h
    exact g_iret C hc10_ hlk hr (by decide +kernel)
  · replace h := ite_f hc2_ h
    refine g_iconst C (-1) (cK rfl) (by decide +kernel) ?_
    obtain ⟨rfl, rfl⟩ := ret_inj h
    exact g_iret C (cK rfl) hlk hr (by decide +kernel)
set_option maxHeartbeats 4000000 in
theorem ok_PB_stands {l : Launch} {r : Int} {d' : Dt} (p1 p2 p3 : Int) (d : Dt) (hp1 : c32 p1) (hp2 : c32 p2) (hp3 : c32 p3) (h : L_PB_stands p1 p2 p3 d = some (r, d')) : MC l y_PB_stands prog_1_method_37_code 6 (some .int) rm_PB_stands 0 [(2, 0), (0, p1), (0, p2), (0, p3)] d (some (0, r)) d' := by
  refine MC.of (by decide) (Nat.le_of_ble_eq_true rfl) ?_
  intro p e s m args below meth c D cA ad A C hlk hr
  replace C : Cx p s m args c prog_1_method_37_code 6 "PollBooks" D cA ad 0 A := C
  show G p l e rm_PB_stands s m args below meth c 0 0 (MQ below (fun _ => QC D cA ad 0 A (some .int) (some (0, r)) d') args s 0 0 A) 6 D cA ad 0 A 0 [(2, 0), (0, p1), (0, p2), (0, p3)] [] d
  refine g_sub (lo2 := [(2, 0), (0, p1), (0, p2), (0, p3), (9, 0), (9, 0)]) (lsb_v (lsb_v (lsb_v (lsb_v (lsb_n (lsb_n lsb_e)))))) ?_
  unfold L_PB_stands at h
  refine g_aload_n C 0 rfl (by decide +kernel) ?_
  refine g_aload_n C 0 rfl (by decide +kernel) ?_
  refine g_getR C cl11 0 7 49 rfl cd_A0 ⟨by decide, rfl, by decide⟩ rfl rfl (nA (by decide)) (ix := 64) lk_474 (by decide +kernel) ?_
  refine g_iload_n C 1 rfl (by decide +kernel) ?_
  obtain ⟨r12_, d11_, hr13_, h⟩ := bd_some h
  refine g_callV C mw_Po_hasOffer [(0, p1)] 49 cl6 rfl (ok_Po_hasOffer p1 d hp1 hr13_) cd_A49 (by decide) (nA (by decide)) (ix := 342) lk_1147 lk_1148 lk_1149 ⟨rfl, rfl, Nat.le_of_ble_eq_true rfl, Nat.le_of_ble_eq_true rfl⟩ rfl (rest := [(2, 0)]) rfl (Nat.le_of_ble_eq_true rfl) ⟨Nat.zero_le _, Nat.zero_le _⟩ (by decide +kernel) (fun _ hc14_ => ?_)
  replace hc14_ : cb r12_ := hc14_
  refine g_st (st2 := [(0, r12_), (2, 0)]) rfl ?_
  refine g_if_eq C (off := 21) (tgt := 30) (c32_cb hc14_) (by decide +kernel) (by decide) (fun hc15_ => ?_) (fun hc15_ => ?_)
  · replace h := ite_t hc15_ h
    refine g_iconst C 1 (cK rfl) (by decide +kernel) ?_
    refine g_sub (lo2 := [(2, 0), (0, p1), (0, p2), (0, p3), (9, 0), (9, 0)]) (lsb_v (lsb_v (lsb_v (lsb_v (lsb_c (lsb_c lsb_e)))))) ?_
    exact ok_PB_stands_b31 C hlk hr p1 p2 p3 1 d11_ hp1 hp2 hp3 (Or.inr rfl) h
  · replace h := ite_f hc15_ h
    refine g_iload_n C 2 rfl (by decide +kernel) ?_
    obtain ⟨r17_, d16_, hr18_, h⟩ := bd_some h
    refine g_callS C mw_PB_isPlace [(0, p2)] (ok_PB_isPlace p2 d11_ hp2 hr18_) (ix := 158) lk_608 lk_609 ⟨rfl, rfl, Nat.le_of_ble_eq_true rfl, Nat.le_of_ble_eq_true rfl⟩ rfl (rest := [(2, 0)]) rfl (Nat.le_of_ble_eq_true rfl) ⟨Nat.zero_le _, Nat.zero_le _⟩ (by decide +kernel) (fun _ hc19_ => ?_)
    replace hc19_ : cb r17_ := hc19_
    refine g_st (st2 := [(0, r17_), (2, 0)]) rfl ?_
    refine g_if_eq C (off := 14) (tgt := 30) (c32_cb hc19_) (by decide +kernel) (by decide) (fun hc20_ => ?_) (fun hc20_ => ?_)
    · replace h := ite_t hc20_ h
      refine g_iconst C 1 (cK rfl) (by decide +kernel) ?_
      refine g_sub (lo2 := [(2, 0), (0, p1), (0, p2), (0, p3), (9, 0), (9, 0)]) (lsb_v (lsb_v (lsb_v (lsb_v (lsb_c (lsb_c lsb_e)))))) ?_
      exact ok_PB_stands_b31 C hlk hr p1 p2 p3 1 d16_ hp1 hp2 hp3 (Or.inr rfl) h
    · replace h := ite_f hc20_ h
      refine g_iload_n C 3 rfl (by decide +kernel) ?_
      obtain ⟨r22_, d21_, hr23_, h⟩ := bd_some h
      refine g_callS C mw_PB_isDay [(0, p3)] (ok_PB_isDay p3 d16_ hp3 hr23_) (ix := 180) lk_643 lk_644 ⟨rfl, rfl, Nat.le_of_ble_eq_true rfl, Nat.le_of_ble_eq_true rfl⟩ rfl (rest := [(2, 0)]) rfl (Nat.le_of_ble_eq_true rfl) ⟨Nat.zero_le _, Nat.zero_le _⟩ (by decide +kernel) (fun _ hc24_ => ?_)
      replace hc24_ : cb r22_ := hc24_
      refine g_st (st2 := [(0, r22_), (2, 0)]) rfl ?_
      refine g_if_eq C (off := 7) (tgt := 30) (c32_cb hc24_) (by decide +kernel) (by decide) (fun hc25_ => ?_) (fun hc25_ => ?_)
      · replace h := ite_t hc25_ h
        refine g_iconst C 1 (cK rfl) (by decide +kernel) ?_
        refine g_sub (lo2 := [(2, 0), (0, p1), (0, p2), (0, p3), (9, 0), (9, 0)]) (lsb_v (lsb_v (lsb_v (lsb_v (lsb_c (lsb_c lsb_e)))))) ?_
        exact ok_PB_stands_b31 C hlk hr p1 p2 p3 1 d21_ hp1 hp2 hp3 (Or.inr rfl) h
      · replace h := ite_f hc25_ h
        refine g_iconst C 0 (cK rfl) (by decide +kernel) ?_
        refine g_goto C 31 (off := 4) (by decide +kernel) (by decide) ?_
        refine g_sub (lo2 := [(2, 0), (0, p1), (0, p2), (0, p3), (9, 0), (9, 0)]) (lsb_v (lsb_v (lsb_v (lsb_v (lsb_c (lsb_c lsb_e)))))) ?_
        exact ok_PB_stands_b31 C hlk hr p1 p2 p3 0 d21_ hp1 hp2 hp3 (Or.inl rfl) h
/-! PollBooks.poll(IIIZ)I -/
def y_PB_poll : MethodName := ⟨"PollBooks", "poll", "(IIIZ)I"⟩
def rm_PB_poll : Room := { frames := 7, cells := 0, slots := 0, locals := 180 }
theorem mw_PB_poll : MW y_PB_poll prog_1_method_38_code 7 (some .int) 4 := ⟨lk_1167, lk_1, by decide +kernel⟩
def L_PB_poll_b72 (x1 x2 x3 s1 s2 : Int) (d : Dt) : Option (Int × Dt) :=
  bd (L_Po_countOffers s1 s2 x2 x3 d) (fun r2_ d1_ => ck ((0 : Int) ≤ x1 ∧ x1 < 4) (some ((d1_ 57 x1.toNat), d1_)))
def L_PB_poll_b27 (x1 x2 x3 x4 s1 : Int) (d : Dt) : Option (Int × Dt) :=
  if s1 = 0 then bd (L_Po_countEntries x2 x3 (up2 d 0 0 s1)) (fun r10_ d9_ => if x4 = 0 then L_PB_poll_b72 x1 x2 x3 r10_ 0 d9_ else L_PB_poll_b72 x1 x2 x3 r10_ (d9_ 49 11) d9_) else some ((-1), (up2 d 0 0 s1))
def L_PB_poll (p1 p2 p3 p4 : Int) (d : Dt) : Option (Int × Dt) :=
  bd (L_PB_isCandidate p1 d) (fun r16_ d15_ => if r16_ = 0 then L_PB_poll_b27 p1 p2 p3 p4 1 d15_ else bd (L_PB_isPlace p2 d15_) (fun r21_ d20_ => if r21_ = 0 then L_PB_poll_b27 p1 p2 p3 p4 1 d20_ else bd (L_PB_isDay p3 d20_) (fun r26_ d25_ => if r26_ = 0 then L_PB_poll_b27 p1 p2 p3 p4 1 d25_ else L_PB_poll_b27 p1 p2 p3 p4 0 d25_)))
set_option maxHeartbeats 4000000 in
theorem ok_PB_poll_b72 {p : Program} {l : Launch} {e : Env} {s : State} {m : MethodId} {args : Array Value} {below : List Frame} {meth : Method} {c : Code} {D : va_G} {cA : Nat → ClassId} {ad : Nat → Nat} {A : Nat → Prop} (C : Cx p s m args c prog_1_method_38_code 7 "PollBooks" D cA ad 0 A) (hlk : meth.locks = false) (hr : meth.sig.returnType = (some .int)) {r : Int} {d' : Dt} (x1 x2 x3 s1 s2 : Int) (d : Dt) (hx1 : c32 x1) (hx2 : c32 x2) (hx3 : c32 x3) (hs1 : c64 s1) (hs2 : c32 s2) (h : L_PB_poll_b72 x1 x2 x3 s1 s2 d = some (r, d')) : G p l e rm_PB_poll s m args below meth c 0 0 (MQ below (fun _ => QC D cA ad 0 A (some .int) (some (0, r)) d') args s 0 0 A) 7 D cA ad 0 A 72 [(2, 0), (0, x1), (0, x2), (0, x3), (9, 0), (9, 0), (9, 0)] [(0, s2), (1, s1), (2, 49)] d := by
  unfold L_PB_poll_b72 at h
  refine g_iload_n C 2 rfl (by decide +kernel) ?_
  refine g_iload_n C 3 rfl (by decide +kernel) ?_
  obtain ⟨r2_, d1_, hr3_, h⟩ := bd_some h
  refine g_callV C mw_Po_countOffers [(1, s1), (0, s2), (0, x2), (0, x3)] 49 cl6 rfl (ok_Po_countOffers s1 s2 x2 x3 d hs1 hs2 hx2 hx3 hr3_) cd_A49 (by decide) (nA (by decide)) (ix := 348) lk_1160 lk_1161 lk_1162 ⟨rfl, rfl, Nat.le_of_ble_eq_true rfl, Nat.le_of_ble_eq_true rfl⟩ rfl (rest := []) rfl (Nat.le_of_ble_eq_true rfl) ⟨Nat.zero_le _, Nat.zero_le _⟩ (by decide +kernel) (fun _ hc4_ => ?_)
  replace hc4_ : c32 r2_ := hc4_
  refine g_st (st2 := [(0, r2_)]) rfl ?_
  refine g_pop C tg0 (by decide +kernel) ?_
  refine g_aload_n C 0 rfl (by decide +kernel) ?_
  refine g_getR C cl11 0 7 49 rfl cd_A0 ⟨by decide, rfl, by decide⟩ rfl rfl (nA (by decide)) (ix := 64) lk_474 (by decide +kernel) ?_
  refine g_getRN C cl6 49 12 57 rfl cd_A49 ⟨by decide, rfl, by decide⟩ rfl rfl (nA (by decide)) (ix := 355) lk_333 (by decide +kernel) ?_
  refine g_iload_n C 1 rfl (by decide +kernel) ?_
  obtain ⟨hb5_, h⟩ := ck_some h
  refine g_iald C 57 hx1 rfl cd_A57 (nA (by decide)) hb5_ (by decide +kernel) (fun hc6_ => ?_)
  obtain ⟨rfl, rfl⟩ := ret_inj h
  exact g_iret C hc6_ hlk hr (by decide +kernel)
set_option maxHeartbeats 4000000 in
theorem ok_PB_poll_b27 {p : Program} {l : Launch} {e : Env} {s : State} {m : MethodId} {args : Array Value} {below : List Frame} {meth : Method} {c : Code} {D : va_G} {cA : Nat → ClassId} {ad : Nat → Nat} {A : Nat → Prop} (C : Cx p s m args c prog_1_method_38_code 7 "PollBooks" D cA ad 0 A) (hlk : meth.locks = false) (hr : meth.sig.returnType = (some .int)) {r : Int} {d' : Dt} (x1 x2 x3 x4 s1 : Int) (d : Dt) (hx1 : c32 x1) (hx2 : c32 x2) (hx3 : c32 x3) (hx4 : cb x4) (hs1 : cb s1) (h : L_PB_poll_b27 x1 x2 x3 x4 s1 d = some (r, d')) : G p l e rm_PB_poll s m args below meth c 0 0 (MQ below (fun _ => QC D cA ad 0 A (some .int) (some (0, r)) d') args s 0 0 A) 7 D cA ad 0 A 27 [(2, 0), (0, x1), (0, x2), (0, x3), (0, x4), (9, 0), (9, 0)] [(0, s1), (2, 0)] d := by
  unfold L_PB_poll_b27 at h
  refine g_putI C cl11 0 0 (c32_cb hs1) rfl cd_A0 ⟨by decide, rfl, by decide⟩ rfl (nA (by decide)) (ix := 9) lk_467 rfl rfl (by decide +kernel) ?_
  refine g_aload_n C 0 rfl (by decide +kernel) ?_
  refine g_getI C cl11 0 0 rfl cd_A0 ⟨by decide, rfl, by decide⟩ rfl (nA (by decide)) (ix := 9) lk_467 (by decide +kernel) (fun hc7_ => ?_)
  refine g_val (y := s1) rfl ?_
  replace hc7_ : c32 s1 := hc7_
  refine g_if_eq C (off := 5) (tgt := 39) hc7_ (by decide +kernel) (by decide) (fun hc8_ => ?_) (fun hc8_ => ?_)
  · replace h := ite_t hc8_ h
    refine g_aload_n C 0 rfl (by decide +kernel) ?_
    refine g_getR C cl11 0 7 49 rfl cd_A0 ⟨by decide, rfl, by decide⟩ rfl rfl (nA (by decide)) (ix := 64) lk_474 (by decide +kernel) ?_
    refine g_iload_n C 2 rfl (by decide +kernel) ?_
    refine g_iload_n C 3 rfl (by decide +kernel) ?_
    obtain ⟨r10_, d9_, hr11_, h⟩ := bd_some h
    refine g_callV C mw_Po_countEntries [(0, x2), (0, x3)] 49 cl6 rfl (ok_Po_countEntries x2 x3 (up2 d 0 0 s1) hx2 hx3 hr11_) cd_A49 (by decide) (nA (by decide)) (ix := 345) lk_1151 lk_1152 lk_1153 ⟨rfl, rfl, Nat.le_of_ble_eq_true rfl, Nat.le_of_ble_eq_true rfl⟩ rfl (rest := []) rfl (Nat.le_of_ble_eq_true rfl) ⟨Nat.zero_le _, Nat.zero_le _⟩ (by decide +kernel) (fun _ hc12_ => ?_)
    replace hc12_ : c64 r10_ := hc12_
    refine g_st (st2 := [(1, r10_)]) rfl ?_
    refine s_lstore C 5 (lo' := [(2, 0), (0, x1), (0, x2), (0, x3), (0, x4), (1, r10_), (9, 0)]) (by decide) (s2k (s2k (s2k (s2k (s2n (by decide) s2z))))) (by decide +kernel) ?_
    refine g_aload_n C 0 rfl (by decide +kernel) ?_
    refine g_getR C cl11 0 7 49 rfl cd_A0 ⟨by decide, rfl, by decide⟩ rfl rfl (nA (by decide)) (ix := 64) lk_474 (by decide +kernel) ?_
    refine g_lload C 5 rfl (by decide +kernel) ?_
    refine g_iload C 4 rfl (by decide +kernel) ?_
    refine g_if_eq C (off := 13) (tgt := 71) (c32_cb hx4) (by decide +kernel) (by decide) (fun hc13_ => ?_) (fun hc13_ => ?_)
    · replace h := ite_t hc13_ h
      refine g_iconst C 0 (cK rfl) (by decide +kernel) ?_
      refine g_sub (lo2 := [(2, 0), (0, x1), (0, x2), (0, x3), (9, 0), (9, 0), (9, 0)]) (lsb_v (lsb_v (lsb_v (lsb_v (lsb_c (lsb_c (lsb_c lsb_e))))))) ?_
      exact ok_PB_poll_b72 C hlk hr x1 x2 x3 r10_ 0 d9_ hx1 hx2 hx3 hc12_ (c32_cb (Or.inl rfl)) h
    · replace h := ite_f hc13_ h
      refine g_aload_n C 0 rfl (by decide +kernel) ?_
      refine g_getR C cl11 0 7 49 rfl cd_A0 ⟨by decide, rfl, by decide⟩ rfl rfl (nA (by decide)) (ix := 64) lk_474 (by decide +kernel) ?_
      refine g_getIN C cl6 49 11 rfl cd_A49 ⟨by decide, rfl, by decide⟩ rfl (nA (by decide)) (ix := 352) lk_331 (by decide +kernel) (fun hc14_ => ?_)
      refine g_goto C 72 (off := 4) (by decide +kernel) (by decide) ?_
      refine g_sub (lo2 := [(2, 0), (0, x1), (0, x2), (0, x3), (9, 0), (9, 0), (9, 0)]) (lsb_v (lsb_v (lsb_v (lsb_v (lsb_c (lsb_c (lsb_c lsb_e))))))) ?_
      exact ok_PB_poll_b72 C hlk hr x1 x2 x3 r10_ (d9_ 49 11) d9_ hx1 hx2 hx3 hc12_ hc14_ h
  · replace h := ite_f hc8_ h
    refine g_iconst C (-1) (cK rfl) (by decide +kernel) ?_
    obtain ⟨rfl, rfl⟩ := ret_inj h
    exact g_iret C (cK rfl) hlk hr (by decide +kernel)
set_option maxHeartbeats 4000000 in
theorem ok_PB_poll {l : Launch} {r : Int} {d' : Dt} (p1 p2 p3 p4 : Int) (d : Dt) (hp1 : c32 p1) (hp2 : c32 p2) (hp3 : c32 p3) (hp4 : cb p4) (h : L_PB_poll p1 p2 p3 p4 d = some (r, d')) : MC l y_PB_poll prog_1_method_38_code 7 (some .int) rm_PB_poll 0 [(2, 0), (0, p1), (0, p2), (0, p3), (0, p4)] d (some (0, r)) d' := by
  refine MC.of (by decide) (Nat.le_of_ble_eq_true rfl) ?_
  intro p e s m args below meth c D cA ad A C hlk hr
  replace C : Cx p s m args c prog_1_method_38_code 7 "PollBooks" D cA ad 0 A := C
  show G p l e rm_PB_poll s m args below meth c 0 0 (MQ below (fun _ => QC D cA ad 0 A (some .int) (some (0, r)) d') args s 0 0 A) 7 D cA ad 0 A 0 [(2, 0), (0, p1), (0, p2), (0, p3), (0, p4)] [] d
  refine g_sub (lo2 := [(2, 0), (0, p1), (0, p2), (0, p3), (0, p4), (9, 0), (9, 0)]) (lsb_v (lsb_v (lsb_v (lsb_v (lsb_v (lsb_n (lsb_n lsb_e))))))) ?_
  unfold L_PB_poll at h
  refine g_aload_n C 0 rfl (by decide +kernel) ?_
  refine g_iload_n C 1 rfl (by decide +kernel) ?_
  obtain ⟨r16_, d15_, hr17_, h⟩ := bd_some h
  refine g_callS C mw_PB_isCandidate [(0, p1)] (ok_PB_isCandidate p1 d hp1 hr17_) (ix := 309) lk_1066 lk_1067 ⟨rfl, rfl, Nat.le_of_ble_eq_true rfl, Nat.le_of_ble_eq_true rfl⟩ rfl (rest := [(2, 0)]) rfl (Nat.le_of_ble_eq_true rfl) ⟨Nat.zero_le _, Nat.zero_le _⟩ (by decide +kernel) (fun _ hc18_ => ?_)
  replace hc18_ : cb r16_ := hc18_
  refine g_st (st2 := [(0, r16_), (2, 0)]) rfl ?_
  refine g_if_eq C (off := 21) (tgt := 26) (c32_cb hc18_) (by decide +kernel) (by decide) (fun hc19_ => ?_) (fun hc19_ => ?_)
  · replace h := ite_t hc19_ h
    refine g_iconst C 1 (cK rfl) (by decide +kernel) ?_
    refine g_sub (lo2 := [(2, 0), (0, p1), (0, p2), (0, p3), (0, p4), (9, 0), (9, 0)]) (lsb_v (lsb_v (lsb_v (lsb_v (lsb_v (lsb_c (lsb_c lsb_e))))))) ?_
    exact ok_PB_poll_b27 C hlk hr p1 p2 p3 p4 1 d15_ hp1 hp2 hp3 hp4 (Or.inr rfl) h
  · replace h := ite_f hc19_ h
    refine g_iload_n C 2 rfl (by decide +kernel) ?_
    obtain ⟨r21_, d20_, hr22_, h⟩ := bd_some h
    refine g_callS C mw_PB_isPlace [(0, p2)] (ok_PB_isPlace p2 d15_ hp2 hr22_) (ix := 158) lk_608 lk_609 ⟨rfl, rfl, Nat.le_of_ble_eq_true rfl, Nat.le_of_ble_eq_true rfl⟩ rfl (rest := [(2, 0)]) rfl (Nat.le_of_ble_eq_true rfl) ⟨Nat.zero_le _, Nat.zero_le _⟩ (by decide +kernel) (fun _ hc23_ => ?_)
    replace hc23_ : cb r21_ := hc23_
    refine g_st (st2 := [(0, r21_), (2, 0)]) rfl ?_
    refine g_if_eq C (off := 14) (tgt := 26) (c32_cb hc23_) (by decide +kernel) (by decide) (fun hc24_ => ?_) (fun hc24_ => ?_)
    · replace h := ite_t hc24_ h
      refine g_iconst C 1 (cK rfl) (by decide +kernel) ?_
      refine g_sub (lo2 := [(2, 0), (0, p1), (0, p2), (0, p3), (0, p4), (9, 0), (9, 0)]) (lsb_v (lsb_v (lsb_v (lsb_v (lsb_v (lsb_c (lsb_c lsb_e))))))) ?_
      exact ok_PB_poll_b27 C hlk hr p1 p2 p3 p4 1 d20_ hp1 hp2 hp3 hp4 (Or.inr rfl) h
    · replace h := ite_f hc24_ h
      refine g_iload_n C 3 rfl (by decide +kernel) ?_
      obtain ⟨r26_, d25_, hr27_, h⟩ := bd_some h
      refine g_callS C mw_PB_isDay [(0, p3)] (ok_PB_isDay p3 d20_ hp3 hr27_) (ix := 180) lk_643 lk_644 ⟨rfl, rfl, Nat.le_of_ble_eq_true rfl, Nat.le_of_ble_eq_true rfl⟩ rfl (rest := [(2, 0)]) rfl (Nat.le_of_ble_eq_true rfl) ⟨Nat.zero_le _, Nat.zero_le _⟩ (by decide +kernel) (fun _ hc28_ => ?_)
      replace hc28_ : cb r26_ := hc28_
      refine g_st (st2 := [(0, r26_), (2, 0)]) rfl ?_
      refine g_if_eq C (off := 7) (tgt := 26) (c32_cb hc28_) (by decide +kernel) (by decide) (fun hc29_ => ?_) (fun hc29_ => ?_)
      · replace h := ite_t hc29_ h
        refine g_iconst C 1 (cK rfl) (by decide +kernel) ?_
        refine g_sub (lo2 := [(2, 0), (0, p1), (0, p2), (0, p3), (0, p4), (9, 0), (9, 0)]) (lsb_v (lsb_v (lsb_v (lsb_v (lsb_v (lsb_c (lsb_c lsb_e))))))) ?_
        exact ok_PB_poll_b27 C hlk hr p1 p2 p3 p4 1 d25_ hp1 hp2 hp3 hp4 (Or.inr rfl) h
      · replace h := ite_f hc29_ h
        refine g_iconst C 0 (cK rfl) (by decide +kernel) ?_
        refine g_goto C 27 (off := 4) (by decide +kernel) (by decide) ?_
        refine g_sub (lo2 := [(2, 0), (0, p1), (0, p2), (0, p3), (0, p4), (9, 0), (9, 0)]) (lsb_v (lsb_v (lsb_v (lsb_v (lsb_v (lsb_c (lsb_c lsb_e))))))) ?_
        exact ok_PB_poll_b27 C hlk hr p1 p2 p3 p4 0 d25_ hp1 hp2 hp3 hp4 (Or.inl rfl) h
/-! PollBooks.rankOf([II)I -/
def y_PB_rankOf : MethodName := ⟨"PollBooks", "rankOf", "([II)I"⟩
def rm_PB_rankOf : Room := { frames := 0, cells := 0, slots := 0, locals := 0 }
theorem mw_PB_rankOf : MW y_PB_rankOf prog_1_method_62_code 4 (some .int) 2 := ⟨lk_1177, lk_1, by decide +kernel⟩
def L_PB_rankOf_b35 (arr0 len0 : Nat) (x1 x2 x3 : Int) (d : Dt) : Option ((Int × Int × Int × Dt) ⊕ ((Int × Dt))) :=
  some (Sum.inl (x1, x2, (w32 (x3 + 1)), d))
def L_PB_rankOf_b32 (arr0 len0 : Nat) (x1 x2 x3 : Int) (d : Dt) : Option ((Int × Int × Int × Dt) ⊕ ((Int × Dt))) :=
  L_PB_rankOf_b35 arr0 len0 x1 (w32 (x2 + 1)) x3 d
def L_PB_rankOf_y4 (arr0 len0 : Nat) (x1 x2 x3 : Int) (d : Dt) : Option ((Int × Int × Int × Dt) ⊕ ((Int × Dt))) :=
  if x3 < 4 then ck ((0 : Int) ≤ x3 ∧ x3 < (len0 : Int)) (ck ((0 : Int) ≤ x1 ∧ x1 < (len0 : Int)) (if (d arr0 x1.toNat) < (d arr0 x3.toNat) then L_PB_rankOf_b32 arr0 len0 x1 x2 x3 d else ck ((0 : Int) ≤ x3 ∧ x3 < (len0 : Int)) (ck ((0 : Int) ≤ x1 ∧ x1 < (len0 : Int)) (if (d arr0 x3.toNat) = (d arr0 x1.toNat) then if x3 < x1 then L_PB_rankOf_b32 arr0 len0 x1 x2 x3 d else L_PB_rankOf_b35 arr0 len0 x1 x2 x3 d else L_PB_rankOf_b35 arr0 len0 x1 x2 x3 d)))) else some (Sum.inr (x2, d))
def L_PB_rankOf_l4 (arr0 len0 : Nat) (x1 x2 x3 : Int) (d : Dt) : Option ((Int × Dt)) := lpF (fun q : Int × Int × Int × Dt => L_PB_rankOf_y4 arr0 len0 q.1 q.2.1 q.2.2.1 q.2.2.2) FU (x1, x2, x3, d)
def L_PB_rankOf (arr0 len0 : Nat) (p2 : Int) (d : Dt) : Option (Int × Dt) :=
  lb (L_PB_rankOf_l4 arr0 len0 p2 0 0 d) (fun q18_ => u1 q18_ (fun v15_ d16_ => some (v15_, d16_)))
set_option maxHeartbeats 4000000 in
theorem ok_PB_rankOf_b35 {p : Program} {l : Launch} {e : Env} {s : State} {m : MethodId} {args : Array Value} {below : List Frame} {meth : Method} {c : Code} {D : va_G} {cA : Nat → ClassId} {ad : Nat → Nat} {A : Nat → Prop} (C : Cx p s m args c prog_1_method_62_code 4 "PollBooks" D cA ad 0 A) {Q : State → Prop} (arr0 len0 : Nat) (harr0 : cd 0 arr0 = (20, len0)) (barr0 : arr0 < 79) {o : (Int × Int × Int × Dt) ⊕ ((Int × Dt))} (x1 x2 x3 : Int) (d : Dt) (hx1 : c32 x1) (hx2 : c32 x2) (hx3 : c32 x3) (h : L_PB_rankOf_b35 arr0 len0 x1 x2 x3 d = some o) (kb : ∀ (y0 y1 y2 : Int) (e' : Dt), o = .inl (y0, y1, y2, e') → c32 y0 → c32 y1 → c32 y2 → G p l e rm_PB_rankOf s m args below meth c 0 0 Q 4 D cA ad 0 A 4 [(2, (arr0 : Int)), (0, y0), (0, y1), (0, y2)] [] e') (k0 : ∀ (y0 : Int) (e' : Dt), o = .inr (y0, e') → c32 y0 → G p l e rm_PB_rankOf s m args below meth c 0 0 Q 4 D cA ad 0 A 41 [(9, 0), (9, 0), (0, y0), (9, 0)] [] e') : G p l e rm_PB_rankOf s m args below meth c 0 0 Q 4 D cA ad 0 A 35 [(2, (arr0 : Int)), (0, x1), (0, x2), (0, x3)] [] d := by
  unfold L_PB_rankOf_b35 at h
  refine s_iinc C 3 1 (lo' := [(2, (arr0 : Int)), (0, x1), (0, x2), (0, (w32 (x3 + 1)))]) rfl (by decide) (s1k (s1k (s1n (by decide) s1z))) (by decide +kernel) ?_
  refine g_goto C 4 (off := (-34)) (by decide +kernel) (by decide) ?_
  refine g_sub (lo2 := [(2, (arr0 : Int)), (0, x1), (0, x2), (0, (w32 (x3 + 1)))]) (lsb_v (lsb_v (lsb_v (lsb_v lsb_e)))) ?_
  obtain rfl := Option.some.inj h
  exact kb x1 x2 (w32 (x3 + 1)) d rfl hx1 hx2 (w32_c _)
set_option maxHeartbeats 4000000 in
theorem ok_PB_rankOf_b32 {p : Program} {l : Launch} {e : Env} {s : State} {m : MethodId} {args : Array Value} {below : List Frame} {meth : Method} {c : Code} {D : va_G} {cA : Nat → ClassId} {ad : Nat → Nat} {A : Nat → Prop} (C : Cx p s m args c prog_1_method_62_code 4 "PollBooks" D cA ad 0 A) {Q : State → Prop} (arr0 len0 : Nat) (harr0 : cd 0 arr0 = (20, len0)) (barr0 : arr0 < 79) {o : (Int × Int × Int × Dt) ⊕ ((Int × Dt))} (x1 x2 x3 : Int) (d : Dt) (hx1 : c32 x1) (hx2 : c32 x2) (hx3 : c32 x3) (h : L_PB_rankOf_b32 arr0 len0 x1 x2 x3 d = some o) (kb : ∀ (y0 y1 y2 : Int) (e' : Dt), o = .inl (y0, y1, y2, e') → c32 y0 → c32 y1 → c32 y2 → G p l e rm_PB_rankOf s m args below meth c 0 0 Q 4 D cA ad 0 A 4 [(2, (arr0 : Int)), (0, y0), (0, y1), (0, y2)] [] e') (k0 : ∀ (y0 : Int) (e' : Dt), o = .inr (y0, e') → c32 y0 → G p l e rm_PB_rankOf s m args below meth c 0 0 Q 4 D cA ad 0 A 41 [(9, 0), (9, 0), (0, y0), (9, 0)] [] e') : G p l e rm_PB_rankOf s m args below meth c 0 0 Q 4 D cA ad 0 A 32 [(2, (arr0 : Int)), (0, x1), (0, x2), (0, x3)] [] d := by
  unfold L_PB_rankOf_b32 at h
  refine s_iinc C 2 1 (lo' := [(2, (arr0 : Int)), (0, x1), (0, (w32 (x2 + 1))), (0, x3)]) rfl (by decide) (s1k (s1n (by decide) s1z)) (by decide +kernel) ?_
  refine g_sub (lo2 := [(2, (arr0 : Int)), (0, x1), (0, (w32 (x2 + 1))), (0, x3)]) (lsb_v (lsb_v (lsb_v (lsb_v lsb_e)))) ?_
  exact ok_PB_rankOf_b35 C arr0 len0 harr0 barr0 x1 (w32 (x2 + 1)) x3 d hx1 (w32_c _) hx3 h kb k0
set_option maxHeartbeats 4000000 in
theorem ok_PB_rankOf_y4 {p : Program} {l : Launch} {e : Env} {s : State} {m : MethodId} {args : Array Value} {below : List Frame} {meth : Method} {c : Code} {D : va_G} {cA : Nat → ClassId} {ad : Nat → Nat} {A : Nat → Prop} (C : Cx p s m args c prog_1_method_62_code 4 "PollBooks" D cA ad 0 A) {Q : State → Prop} (arr0 len0 : Nat) (harr0 : cd 0 arr0 = (20, len0)) (barr0 : arr0 < 79) {o : (Int × Int × Int × Dt) ⊕ ((Int × Dt))} (x1 x2 x3 : Int) (d : Dt) (hx1 : c32 x1) (hx2 : c32 x2) (hx3 : c32 x3) (h : L_PB_rankOf_y4 arr0 len0 x1 x2 x3 d = some o) (kb : ∀ (y0 y1 y2 : Int) (e' : Dt), o = .inl (y0, y1, y2, e') → c32 y0 → c32 y1 → c32 y2 → G p l e rm_PB_rankOf s m args below meth c 0 0 Q 4 D cA ad 0 A 4 [(2, (arr0 : Int)), (0, y0), (0, y1), (0, y2)] [] e') (k0 : ∀ (y0 : Int) (e' : Dt), o = .inr (y0, e') → c32 y0 → G p l e rm_PB_rankOf s m args below meth c 0 0 Q 4 D cA ad 0 A 41 [(9, 0), (9, 0), (0, y0), (9, 0)] [] e') : G p l e rm_PB_rankOf s m args below meth c 0 0 Q 4 D cA ad 0 A 4 [(2, (arr0 : Int)), (0, x1), (0, x2), (0, x3)] [] d := by
  unfold L_PB_rankOf_y4 at h
  refine g_iload_n C 3 rfl (by decide +kernel) ?_
  refine g_iconst C 4 (cK rfl) (by decide +kernel) ?_
  refine g_icmp_ge C (off := 35) (tgt := 41) hx3 (cK rfl) (by decide +kernel) (by decide) (fun hc1_ => ?_) (fun hc1_ => ?_)
  · replace h := ite_t hc1_ h
    refine g_aload_n C 0 rfl (by decide +kernel) ?_
    refine g_iload_n C 3 rfl (by decide +kernel) ?_
    obtain ⟨hb2_, h⟩ := ck_some h
    refine g_iald C arr0 hx3 rfl harr0 (nA barr0) hb2_ (by decide +kernel) (fun hc3_ => ?_)
    refine g_aload_n C 0 rfl (by decide +kernel) ?_
    refine g_iload_n C 1 rfl (by decide +kernel) ?_
    obtain ⟨hb4_, h⟩ := ck_some h
    refine g_iald C arr0 hx1 rfl harr0 (nA barr0) hb4_ (by decide +kernel) (fun hc5_ => ?_)
    refine g_icmp_gt C (off := 17) (tgt := 32) hc3_ hc5_ (by decide +kernel) (by decide) (fun hc6_ => ?_) (fun hc6_ => ?_)
    · replace h := ite_t hc6_ h
      refine g_sub (lo2 := [(2, (arr0 : Int)), (0, x1), (0, x2), (0, x3)]) (lsb_v (lsb_v (lsb_v (lsb_v lsb_e)))) ?_
      exact ok_PB_rankOf_b32 C arr0 len0 harr0 barr0 x1 x2 x3 d hx1 hx2 hx3 h kb k0
    · replace h := ite_f hc6_ h
      refine g_aload_n C 0 rfl (by decide +kernel) ?_
      refine g_iload_n C 3 rfl (by decide +kernel) ?_
      obtain ⟨hb7_, h⟩ := ck_some h
      refine g_iald C arr0 hx3 rfl harr0 (nA barr0) hb7_ (by decide +kernel) (fun hc8_ => ?_)
      refine g_aload_n C 0 rfl (by decide +kernel) ?_
      refine g_iload_n C 1 rfl (by decide +kernel) ?_
      obtain ⟨hb9_, h⟩ := ck_some h
      refine g_iald C arr0 hx1 rfl harr0 (nA barr0) hb9_ (by decide +kernel) (fun hc10_ => ?_)
      refine g_icmp_ne C (off := 11) (tgt := 35) hc8_ hc10_ (by decide +kernel) (by decide) (fun hc11_ => ?_) (fun hc11_ => ?_)
      · replace h := ite_t hc11_ h
        refine g_iload_n C 3 rfl (by decide +kernel) ?_
        refine g_iload_n C 1 rfl (by decide +kernel) ?_
        refine g_icmp_ge C (off := 6) (tgt := 35) hx3 hx1 (by decide +kernel) (by decide) (fun hc12_ => ?_) (fun hc12_ => ?_)
        · replace h := ite_t hc12_ h
          refine g_sub (lo2 := [(2, (arr0 : Int)), (0, x1), (0, x2), (0, x3)]) (lsb_v (lsb_v (lsb_v (lsb_v lsb_e)))) ?_
          exact ok_PB_rankOf_b32 C arr0 len0 harr0 barr0 x1 x2 x3 d hx1 hx2 hx3 h kb k0
        · replace h := ite_f hc12_ h
          refine g_sub (lo2 := [(2, (arr0 : Int)), (0, x1), (0, x2), (0, x3)]) (lsb_v (lsb_v (lsb_v (lsb_v lsb_e)))) ?_
          exact ok_PB_rankOf_b35 C arr0 len0 harr0 barr0 x1 x2 x3 d hx1 hx2 hx3 h kb k0
      · replace h := ite_f hc11_ h
        refine g_sub (lo2 := [(2, (arr0 : Int)), (0, x1), (0, x2), (0, x3)]) (lsb_v (lsb_v (lsb_v (lsb_v lsb_e)))) ?_
        exact ok_PB_rankOf_b35 C arr0 len0 harr0 barr0 x1 x2 x3 d hx1 hx2 hx3 h kb k0
  · replace h := ite_f hc1_ h
    refine g_sub (lo2 := [(9, 0), (9, 0), (0, x2), (9, 0)]) (lsb_c (lsb_c (lsb_v (lsb_c lsb_e)))) ?_
    obtain rfl := Option.some.inj h
    exact k0 x2 d rfl hx2
set_option maxHeartbeats 4000000 in
theorem ok_PB_rankOf_n4 {p : Program} {l : Launch} {e : Env} {s : State} {m : MethodId} {args : Array Value} {below : List Frame} {meth : Method} {c : Code} {D : va_G} {cA : Nat → ClassId} {ad : Nat → Nat} {A : Nat → Prop} (C : Cx p s m args c prog_1_method_62_code 4 "PollBooks" D cA ad 0 A) {Q : State → Prop} (arr0 len0 : Nat) (harr0 : cd 0 arr0 = (20, len0)) (barr0 : arr0 < 79) {x : (Int × Dt)} : ∀ (n : Nat) (x1 x2 x3 : Int) (d : Dt), c32 x1 → c32 x2 → c32 x3 → lpF (fun q : Int × Int × Int × Dt => L_PB_rankOf_y4 arr0 len0 q.1 q.2.1 q.2.2.1 q.2.2.2) n (x1, x2, x3, d) = some x → (∀ (y0 : Int) (e' : Dt), x = (y0, e') → c32 y0 → G p l e rm_PB_rankOf s m args below meth c 0 0 Q 4 D cA ad 0 A 41 [(9, 0), (9, 0), (0, y0), (9, 0)] [] e') → G p l e rm_PB_rankOf s m args below meth c 0 0 Q 4 D cA ad 0 A 4 [(2, (arr0 : Int)), (0, x1), (0, x2), (0, x3)] [] d := by
  intro n
  induction n with
  | zero => intro x1 x2 x3 d g0 g1 g2 h k0; cases h
  | succ n ih =>
    intro x1 x2 x3 d g0 g1 g2 h k0
    rcases lpF_some h with h | ⟨⟨v0_, v1_, v2_, e0_⟩, h1, h⟩
    · exact ok_PB_rankOf_y4 C arr0 len0 harr0 barr0 x1 x2 x3 d g0 g1 g2 h (fun z0_ z1_ z2_ e1_ eq w0_ w1_ w2_ => by cases eq) (fun z0_ e1_ eq w0_ => k0 _ _ (by cases eq; rfl) w0_)
    · exact ok_PB_rankOf_y4 C arr0 len0 harr0 barr0 x1 x2 x3 d g0 g1 g2 h1 (fun z0_ z1_ z2_ e1_ eq w0_ w1_ w2_ => by cases eq; exact ih _ _ _ _ w0_ w1_ w2_ h k0) (fun z0_ e1_ eq w0_ => by cases eq)
set_option maxHeartbeats 4000000 in
theorem ok_PB_rankOf_l4 {p : Program} {l : Launch} {e : Env} {s : State} {m : MethodId} {args : Array Value} {below : List Frame} {meth : Method} {c : Code} {D : va_G} {cA : Nat → ClassId} {ad : Nat → Nat} {A : Nat → Prop} (C : Cx p s m args c prog_1_method_62_code 4 "PollBooks" D cA ad 0 A) {Q : State → Prop} (arr0 len0 : Nat) (harr0 : cd 0 arr0 = (20, len0)) (barr0 : arr0 < 79) {x : (Int × Dt)} (x1 x2 x3 : Int) (d : Dt) (hx1 : c32 x1) (hx2 : c32 x2) (hx3 : c32 x3) (h : L_PB_rankOf_l4 arr0 len0 x1 x2 x3 d = some x) (k0 : ∀ (y0 : Int) (e' : Dt), x = (y0, e') → c32 y0 → G p l e rm_PB_rankOf s m args below meth c 0 0 Q 4 D cA ad 0 A 41 [(9, 0), (9, 0), (0, y0), (9, 0)] [] e') : G p l e rm_PB_rankOf s m args below meth c 0 0 Q 4 D cA ad 0 A 4 [(2, (arr0 : Int)), (0, x1), (0, x2), (0, x3)] [] d :=
  ok_PB_rankOf_n4 C arr0 len0 harr0 barr0 FU x1 x2 x3 d hx1 hx2 hx3 h k0
set_option maxHeartbeats 4000000 in
theorem ok_PB_rankOf {l : Launch} (arr0 len0 : Nat) (harr0 : cd 0 arr0 = (20, len0)) (barr0 : arr0 < 79) {r : Int} {d' : Dt} (p2 : Int) (d : Dt) (hp2 : c32 p2) (h : L_PB_rankOf arr0 len0 p2 d = some (r, d')) : MC l y_PB_rankOf prog_1_method_62_code 4 (some .int) rm_PB_rankOf 0 [(2, (arr0 : Int)), (0, p2)] d (some (0, r)) d' := by
  refine MC.of (by decide) (Nat.le_of_ble_eq_true rfl) ?_
  intro p e s m args below meth c D cA ad A C hlk hr
  replace C : Cx p s m args c prog_1_method_62_code 4 "PollBooks" D cA ad 0 A := C
  show G p l e rm_PB_rankOf s m args below meth c 0 0 (MQ below (fun _ => QC D cA ad 0 A (some .int) (some (0, r)) d') args s 0 0 A) 4 D cA ad 0 A 0 [(2, (arr0 : Int)), (0, p2)] [] d
  refine g_sub (lo2 := [(2, (arr0 : Int)), (0, p2), (9, 0), (9, 0)]) (lsb_v (lsb_v (lsb_n (lsb_n lsb_e)))) ?_
  unfold L_PB_rankOf at h
  refine g_iconst C 0 (cK rfl) (by decide +kernel) ?_
  refine s_istore_n C 2 (lo' := [(2, (arr0 : Int)), (0, p2), (0, 0), (9, 0)]) (by decide) (s1k (s1n (by decide) s1z)) (by decide +kernel) ?_
  refine g_iconst C 0 (cK rfl) (by decide +kernel) ?_
  refine s_istore_n C 3 (lo' := [(2, (arr0 : Int)), (0, p2), (0, 0), (0, 0)]) (by decide) (s1k (s1k (s1n (by decide) s1z))) (by decide +kernel) ?_
  refine g_sub (lo2 := [(2, (arr0 : Int)), (0, p2), (0, 0), (0, 0)]) (lsb_v (lsb_v (lsb_v (lsb_v lsb_e)))) ?_
  obtain ⟨x13_, hx14_, h⟩ := lb_some h
  refine ok_PB_rankOf_l4 C arr0 len0 harr0 barr0 p2 0 0 d hp2 (c32_cb (Or.inl rfl)) (c32_cb (Or.inl rfl)) hx14_ (fun v15_ d16_ eq17_ hv15_ => ?_)
  subst eq17_
  replace h := u1_e h
  refine g_iload_n C 2 rfl (by decide +kernel) ?_
  obtain ⟨rfl, rfl⟩ := ret_inj h
  exact g_iret C hv15_ hlk hr (by decide +kernel)
/-! PollBooks.candidateAt([II)I -/
def y_PB_candidateAt : MethodName := ⟨"PollBooks", "candidateAt", "([II)I"⟩
def rm_PB_candidateAt : Room := { frames := 1, cells := 0, slots := 0, locals := 23 }
theorem mw_PB_candidateAt : MW y_PB_candidateAt prog_1_method_63_code 3 (some .int) 2 := ⟨lk_1174, lk_1, by decide +kernel⟩
def L_PB_candidateAt_y2 (arr0 len0 : Nat) (x1 x2 : Int) (d : Dt) : Option ((Int × Int × Dt) ⊕ ((Dt) ⊕ (Int × Dt))) :=
  if x2 < 4 then bd (L_PB_rankOf arr0 len0 x2 d) (fun r3_ d2_ => if r3_ = x1 then some (Sum.inr (Sum.inr (x2, d2_))) else some (Sum.inl (x1, (w32 (x2 + 1)), d2_))) else some (Sum.inr (Sum.inl (d)))
def L_PB_candidateAt_l2 (arr0 len0 : Nat) (x1 x2 : Int) (d : Dt) : Option ((Dt) ⊕ (Int × Dt)) := lpF (fun q : Int × Int × Dt => L_PB_candidateAt_y2 arr0 len0 q.1 q.2.1 q.2.2) FU (x1, x2, d)
def L_PB_candidateAt (arr0 len0 : Nat) (p2 : Int) (d : Dt) : Option (Int × Dt) :=
  lb (L_PB_candidateAt_l2 arr0 len0 p2 0 d) (fun q14_ => sm q14_ (fun q15_ => u0 q15_ (fun d9_ => some ((-1), d9_))) (fun q16_ => u1 q16_ (fun v11_ d12_ => some (v11_, d12_))))
set_option maxHeartbeats 4000000 in
theorem ok_PB_candidateAt_y2 {p : Program} {l : Launch} {e : Env} {s : State} {m : MethodId} {args : Array Value} {below : List Frame} {meth : Method} {c : Code} {D : va_G} {cA : Nat → ClassId} {ad : Nat → Nat} {A : Nat → Prop} (C : Cx p s m args c prog_1_method_63_code 3 "PollBooks" D cA ad 0 A) {Q : State → Prop} (arr0 len0 : Nat) (harr0 : cd 0 arr0 = (20, len0)) (barr0 : arr0 < 79) {o : (Int × Int × Dt) ⊕ ((Dt) ⊕ (Int × Dt))} (x1 x2 : Int) (d : Dt) (hx1 : c32 x1) (hx2 : c32 x2) (h : L_PB_candidateAt_y2 arr0 len0 x1 x2 d = some o) (kb : ∀ (y0 y1 : Int) (e' : Dt), o = .inl (y0, y1, e') → c32 y0 → c32 y1 → G p l e rm_PB_candidateAt s m args below meth c 0 0 Q 3 D cA ad 0 A 2 [(2, (arr0 : Int)), (0, y0), (0, y1)] [] e') (k0 : ∀ (e' : Dt), o = .inr (Sum.inl (e')) → G p l e rm_PB_candidateAt s m args below meth c 0 0 Q 3 D cA ad 0 A 24 [(9, 0), (9, 0), (9, 0)] [] e') (k1 : ∀ (y0 : Int) (e' : Dt), o = .inr (Sum.inr (y0, e')) → c32 y0 → G p l e rm_PB_candidateAt s m args below meth c 0 0 Q 3 D cA ad 0 A 16 [(9, 0), (9, 0), (0, y0)] [] e') : G p l e rm_PB_candidateAt s m args below meth c 0 0 Q 3 D cA ad 0 A 2 [(2, (arr0 : Int)), (0, x1), (0, x2)] [] d := by
  unfold L_PB_candidateAt_y2 at h
  refine g_iload_n C 2 rfl (by decide +kernel) ?_
  refine g_iconst C 4 (cK rfl) (by decide +kernel) ?_
  refine g_icmp_ge C (off := 20) (tgt := 24) hx2 (cK rfl) (by decide +kernel) (by decide) (fun hc1_ => ?_) (fun hc1_ => ?_)
  · replace h := ite_t hc1_ h
    refine g_aload_n C 0 rfl (by decide +kernel) ?_
    refine g_iload_n C 2 rfl (by decide +kernel) ?_
    obtain ⟨r3_, d2_, hr4_, h⟩ := bd_some h
    refine g_callS C mw_PB_rankOf [(2, (arr0 : Int)), (0, x2)] (ok_PB_rankOf arr0 len0 harr0 barr0 x2 d hx2 hr4_) (ix := 457) lk_1175 lk_1176 ⟨rfl, rfl, Nat.le_of_ble_eq_true rfl, Nat.le_of_ble_eq_true rfl⟩ rfl (rest := []) rfl (Nat.le_of_ble_eq_true rfl) ⟨Nat.zero_le _, Nat.zero_le _⟩ (by decide +kernel) (fun _ hc5_ => ?_)
    replace hc5_ : c32 r3_ := hc5_
    refine g_st (st2 := [(0, r3_)]) rfl ?_
    refine g_iload_n C 1 rfl (by decide +kernel) ?_
    refine g_icmp_ne C (off := 5) (tgt := 18) hc5_ hx1 (by decide +kernel) (by decide) (fun hc6_ => ?_) (fun hc6_ => ?_)
    · replace h := ite_t hc6_ h
      refine g_sub (lo2 := [(9, 0), (9, 0), (0, x2)]) (lsb_c (lsb_c (lsb_v lsb_e))) ?_
      obtain rfl := Option.some.inj h
      exact k1 x2 d2_ rfl hx2
    · replace h := ite_f hc6_ h
      refine s_iinc C 2 1 (lo' := [(2, (arr0 : Int)), (0, x1), (0, (w32 (x2 + 1)))]) rfl (by decide) (s1k (s1n (by decide) s1z)) (by decide +kernel) ?_
      refine g_goto C 2 (off := (-19)) (by decide +kernel) (by decide) ?_
      refine g_sub (lo2 := [(2, (arr0 : Int)), (0, x1), (0, (w32 (x2 + 1)))]) (lsb_v (lsb_v (lsb_v lsb_e))) ?_
      obtain rfl := Option.some.inj h
      exact kb x1 (w32 (x2 + 1)) d2_ rfl hx1 (w32_c _)
  · replace h := ite_f hc1_ h
    refine g_sub (lo2 := [(9, 0), (9, 0), (9, 0)]) (lsb_c (lsb_c (lsb_c lsb_e))) ?_
    obtain rfl := Option.some.inj h
    exact k0 d rfl 
set_option maxHeartbeats 4000000 in
theorem ok_PB_candidateAt_n2 {p : Program} {l : Launch} {e : Env} {s : State} {m : MethodId} {args : Array Value} {below : List Frame} {meth : Method} {c : Code} {D : va_G} {cA : Nat → ClassId} {ad : Nat → Nat} {A : Nat → Prop} (C : Cx p s m args c prog_1_method_63_code 3 "PollBooks" D cA ad 0 A) {Q : State → Prop} (arr0 len0 : Nat) (harr0 : cd 0 arr0 = (20, len0)) (barr0 : arr0 < 79) {x : (Dt) ⊕ (Int × Dt)} : ∀ (n : Nat) (x1 x2 : Int) (d : Dt), c32 x1 → c32 x2 → lpF (fun q : Int × Int × Dt => L_PB_candidateAt_y2 arr0 len0 q.1 q.2.1 q.2.2) n (x1, x2, d) = some x → (∀ (e' : Dt), x = (Sum.inl (e')) → G p l e rm_PB_candidateAt s m args below meth c 0 0 Q 3 D cA ad 0 A 24 [(9, 0), (9, 0), (9, 0)] [] e') → (∀ (y0 : Int) (e' : Dt), x = (Sum.inr (y0, e')) → c32 y0 → G p l e rm_PB_candidateAt s m args below meth c 0 0 Q 3 D cA ad 0 A 16 [(9, 0), (9, 0), (0, y0)] [] e') → G p l e rm_PB_candidateAt s m args below meth c 0 0 Q 3 D cA ad 0 A 2 [(2, (arr0 : Int)), (0, x1), (0, x2)] [] d := by
  intro n
  induction n with
  | zero => intro x1 x2 d g0 g1 h k0 k1; cases h
  | succ n ih =>
    intro x1 x2 d g0 g1 h k0 k1
    rcases lpF_some h with h | ⟨⟨v0_, v1_, e0_⟩, h1, h⟩
    · exact ok_PB_candidateAt_y2 C arr0 len0 harr0 barr0 x1 x2 d g0 g1 h (fun z0_ z1_ e1_ eq w0_ w1_ => by cases eq) (fun e1_ eq => k0 _ (by cases eq; rfl) ) (fun z0_ e1_ eq w0_ => k1 _ _ (by cases eq; rfl) w0_)
    · exact ok_PB_candidateAt_y2 C arr0 len0 harr0 barr0 x1 x2 d g0 g1 h1 (fun z0_ z1_ e1_ eq w0_ w1_ => by cases eq; exact ih _ _ _ w0_ w1_ h k0 k1) (fun e1_ eq => by cases eq) (fun z0_ e1_ eq w0_ => by cases eq)
set_option maxHeartbeats 4000000 in
theorem ok_PB_candidateAt_l2 {p : Program} {l : Launch} {e : Env} {s : State} {m : MethodId} {args : Array Value} {below : List Frame} {meth : Method} {c : Code} {D : va_G} {cA : Nat → ClassId} {ad : Nat → Nat} {A : Nat → Prop} (C : Cx p s m args c prog_1_method_63_code 3 "PollBooks" D cA ad 0 A) {Q : State → Prop} (arr0 len0 : Nat) (harr0 : cd 0 arr0 = (20, len0)) (barr0 : arr0 < 79) {x : (Dt) ⊕ (Int × Dt)} (x1 x2 : Int) (d : Dt) (hx1 : c32 x1) (hx2 : c32 x2) (h : L_PB_candidateAt_l2 arr0 len0 x1 x2 d = some x) (k0 : ∀ (e' : Dt), x = (Sum.inl (e')) → G p l e rm_PB_candidateAt s m args below meth c 0 0 Q 3 D cA ad 0 A 24 [(9, 0), (9, 0), (9, 0)] [] e') (k1 : ∀ (y0 : Int) (e' : Dt), x = (Sum.inr (y0, e')) → c32 y0 → G p l e rm_PB_candidateAt s m args below meth c 0 0 Q 3 D cA ad 0 A 16 [(9, 0), (9, 0), (0, y0)] [] e') : G p l e rm_PB_candidateAt s m args below meth c 0 0 Q 3 D cA ad 0 A 2 [(2, (arr0 : Int)), (0, x1), (0, x2)] [] d :=
  ok_PB_candidateAt_n2 C arr0 len0 harr0 barr0 FU x1 x2 d hx1 hx2 h k0 k1
set_option maxHeartbeats 4000000 in
theorem ok_PB_candidateAt {l : Launch} (arr0 len0 : Nat) (harr0 : cd 0 arr0 = (20, len0)) (barr0 : arr0 < 79) {r : Int} {d' : Dt} (p2 : Int) (d : Dt) (hp2 : c32 p2) (h : L_PB_candidateAt arr0 len0 p2 d = some (r, d')) : MC l y_PB_candidateAt prog_1_method_63_code 3 (some .int) rm_PB_candidateAt 0 [(2, (arr0 : Int)), (0, p2)] d (some (0, r)) d' := by
  refine MC.of (by decide) (Nat.le_of_ble_eq_true rfl) ?_
  intro p e s m args below meth c D cA ad A C hlk hr
  replace C : Cx p s m args c prog_1_method_63_code 3 "PollBooks" D cA ad 0 A := C
  show G p l e rm_PB_candidateAt s m args below meth c 0 0 (MQ below (fun _ => QC D cA ad 0 A (some .int) (some (0, r)) d') args s 0 0 A) 3 D cA ad 0 A 0 [(2, (arr0 : Int)), (0, p2)] [] d
  refine g_sub (lo2 := [(2, (arr0 : Int)), (0, p2), (9, 0)]) (lsb_v (lsb_v (lsb_n lsb_e))) ?_
  unfold L_PB_candidateAt at h
  refine g_iconst C 0 (cK rfl) (by decide +kernel) ?_
  refine s_istore_n C 2 (lo' := [(2, (arr0 : Int)), (0, p2), (0, 0)]) (by decide) (s1k (s1n (by decide) s1z)) (by decide +kernel) ?_
  refine g_sub (lo2 := [(2, (arr0 : Int)), (0, p2), (0, 0)]) (lsb_v (lsb_v (lsb_v lsb_e))) ?_
  obtain ⟨x7_, hx8_, h⟩ := lb_some h
  refine ok_PB_candidateAt_l2 C arr0 len0 harr0 barr0 p2 0 d hp2 (c32_cb (Or.inl rfl)) hx8_ (fun d9_ eq10_ => ?_) (fun v11_ d12_ eq13_ hv11_ => ?_)
  · subst eq10_
    replace h := sml_e h
    replace h := u0_e h
    refine g_iconst C (-1) (cK rfl) (by decide +kernel) ?_
    obtain ⟨rfl, rfl⟩ := ret_inj h
    exact g_iret C (cK rfl) hlk hr (by decide +kernel)
  · subst eq13_
    replace h := smr_e h
    replace h := u1_e h
    refine g_iload_n C 2 rfl (by decide +kernel) ?_
    obtain ⟨rfl, rfl⟩ := ret_inj h
    exact g_iret C hv11_ hlk hr (by decide +kernel)
/-! PollBooks.seated(IIIZ)I -/
def y_PB_seated : MethodName := ⟨"PollBooks", "seated", "(IIIZ)I"⟩
def rm_PB_seated : Room := { frames := 7, cells := 0, slots := 0, locals := 180 }
theorem mw_PB_seated : MW y_PB_seated prog_1_method_39_code 7 (some .int) 4 := ⟨lk_1171, lk_1, by decide +kernel⟩
def L_PB_seated_b75 (x1 x2 x3 s1 s2 : Int) (d : Dt) : Option (Int × Dt) :=
  bd (L_Po_countOffers s1 s2 x2 x3 d) (fun r2_ d1_ => bd (L_PB_candidateAt 57 4 x1 d1_) (fun r6_ d5_ => some (r6_, d5_)))
def L_PB_seated_b30 (x1 x2 x3 x4 s1 : Int) (d : Dt) : Option (Int × Dt) :=
  if s1 = 0 then bd (L_Po_countEntries x2 x3 (up2 d 0 0 s1)) (fun r12_ d11_ => if x4 = 0 then L_PB_seated_b75 x1 x2 x3 r12_ 0 d11_ else L_PB_seated_b75 x1 x2 x3 r12_ (d11_ 49 11) d11_) else some ((-1), (up2 d 0 0 s1))
def L_PB_seated (p1 p2 p3 p4 : Int) (d : Dt) : Option (Int × Dt) :=
  bd (L_PB_within p1 0 1 d) (fun r18_ d17_ => if r18_ = 0 then L_PB_seated_b30 p1 p2 p3 p4 1 d17_ else bd (L_PB_isPlace p2 d17_) (fun r23_ d22_ => if r23_ = 0 then L_PB_seated_b30 p1 p2 p3 p4 1 d22_ else bd (L_PB_isDay p3 d22_) (fun r28_ d27_ => if r28_ = 0 then L_PB_seated_b30 p1 p2 p3 p4 1 d27_ else L_PB_seated_b30 p1 p2 p3 p4 0 d27_)))
set_option maxHeartbeats 4000000 in
theorem ok_PB_seated_b75 {p : Program} {l : Launch} {e : Env} {s : State} {m : MethodId} {args : Array Value} {below : List Frame} {meth : Method} {c : Code} {D : va_G} {cA : Nat → ClassId} {ad : Nat → Nat} {A : Nat → Prop} (C : Cx p s m args c prog_1_method_39_code 7 "PollBooks" D cA ad 0 A) (hlk : meth.locks = false) (hr : meth.sig.returnType = (some .int)) {r : Int} {d' : Dt} (x1 x2 x3 s1 s2 : Int) (d : Dt) (hx1 : c32 x1) (hx2 : c32 x2) (hx3 : c32 x3) (hs1 : c64 s1) (hs2 : c32 s2) (h : L_PB_seated_b75 x1 x2 x3 s1 s2 d = some (r, d')) : G p l e rm_PB_seated s m args below meth c 0 0 (MQ below (fun _ => QC D cA ad 0 A (some .int) (some (0, r)) d') args s 0 0 A) 7 D cA ad 0 A 75 [(2, 0), (0, x1), (0, x2), (0, x3), (9, 0), (9, 0), (9, 0)] [(0, s2), (1, s1), (2, 49)] d := by
  unfold L_PB_seated_b75 at h
  refine g_iload_n C 2 rfl (by decide +kernel) ?_
  refine g_iload_n C 3 rfl (by decide +kernel) ?_
  obtain ⟨r2_, d1_, hr3_, h⟩ := bd_some h
  refine g_callV C mw_Po_countOffers [(1, s1), (0, s2), (0, x2), (0, x3)] 49 cl6 rfl (ok_Po_countOffers s1 s2 x2 x3 d hs1 hs2 hx2 hx3 hr3_) cd_A49 (by decide) (nA (by decide)) (ix := 348) lk_1160 lk_1161 lk_1162 ⟨rfl, rfl, Nat.le_of_ble_eq_true rfl, Nat.le_of_ble_eq_true rfl⟩ rfl (rest := []) rfl (Nat.le_of_ble_eq_true rfl) ⟨Nat.zero_le _, Nat.zero_le _⟩ (by decide +kernel) (fun _ hc4_ => ?_)
  replace hc4_ : c32 r2_ := hc4_
  refine g_st (st2 := [(0, r2_)]) rfl ?_
  refine g_pop C tg0 (by decide +kernel) ?_
  refine g_aload_n C 0 rfl (by decide +kernel) ?_
  refine g_getR C cl11 0 7 49 rfl cd_A0 ⟨by decide, rfl, by decide⟩ rfl rfl (nA (by decide)) (ix := 64) lk_474 (by decide +kernel) ?_
  refine g_getRN C cl6 49 12 57 rfl cd_A49 ⟨by decide, rfl, by decide⟩ rfl rfl (nA (by decide)) (ix := 355) lk_333 (by decide +kernel) ?_
  refine g_iload_n C 1 rfl (by decide +kernel) ?_
  obtain ⟨r6_, d5_, hr7_, h⟩ := bd_some h
  refine g_callS C mw_PB_candidateAt [(2, 57), (0, x1)] (ok_PB_candidateAt 57 4 cd_A57 (by decide) x1 d1_ hx1 hr7_) (ix := 358) lk_1172 lk_1173 ⟨rfl, rfl, Nat.le_of_ble_eq_true rfl, Nat.le_of_ble_eq_true rfl⟩ rfl (rest := []) rfl (Nat.le_of_ble_eq_true rfl) ⟨Nat.zero_le _, Nat.zero_le _⟩ (by decide +kernel) (fun _ hc8_ => ?_)
  replace hc8_ : c32 r6_ := hc8_
  refine g_st (st2 := [(0, r6_)]) rfl ?_
  obtain ⟨rfl, rfl⟩ := ret_inj h
  exact g_iret C hc8_ hlk hr (by decide +kernel)
set_option maxHeartbeats 4000000 in
theorem ok_PB_seated_b30 {p : Program} {l : Launch} {e : Env} {s : State} {m : MethodId} {args : Array Value} {below : List Frame} {meth : Method} {c : Code} {D : va_G} {cA : Nat → ClassId} {ad : Nat → Nat} {A : Nat → Prop} (C : Cx p s m args c prog_1_method_39_code 7 "PollBooks" D cA ad 0 A) (hlk : meth.locks = false) (hr : meth.sig.returnType = (some .int)) {r : Int} {d' : Dt} (x1 x2 x3 x4 s1 : Int) (d : Dt) (hx1 : c32 x1) (hx2 : c32 x2) (hx3 : c32 x3) (hx4 : cb x4) (hs1 : cb s1) (h : L_PB_seated_b30 x1 x2 x3 x4 s1 d = some (r, d')) : G p l e rm_PB_seated s m args below meth c 0 0 (MQ below (fun _ => QC D cA ad 0 A (some .int) (some (0, r)) d') args s 0 0 A) 7 D cA ad 0 A 30 [(2, 0), (0, x1), (0, x2), (0, x3), (0, x4), (9, 0), (9, 0)] [(0, s1), (2, 0)] d := by
  unfold L_PB_seated_b30 at h
  refine g_putI C cl11 0 0 (c32_cb hs1) rfl cd_A0 ⟨by decide, rfl, by decide⟩ rfl (nA (by decide)) (ix := 9) lk_467 rfl rfl (by decide +kernel) ?_
  refine g_aload_n C 0 rfl (by decide +kernel) ?_
  refine g_getI C cl11 0 0 rfl cd_A0 ⟨by decide, rfl, by decide⟩ rfl (nA (by decide)) (ix := 9) lk_467 (by decide +kernel) (fun hc9_ => ?_)
  refine g_val (y := s1) rfl ?_
  replace hc9_ : c32 s1 := hc9_
  refine g_if_eq C (off := 5) (tgt := 42) hc9_ (by decide +kernel) (by decide) (fun hc10_ => ?_) (fun hc10_ => ?_)
  · replace h := ite_t hc10_ h
    refine g_aload_n C 0 rfl (by decide +kernel) ?_
    refine g_getR C cl11 0 7 49 rfl cd_A0 ⟨by decide, rfl, by decide⟩ rfl rfl (nA (by decide)) (ix := 64) lk_474 (by decide +kernel) ?_
    refine g_iload_n C 2 rfl (by decide +kernel) ?_
    refine g_iload_n C 3 rfl (by decide +kernel) ?_
    obtain ⟨r12_, d11_, hr13_, h⟩ := bd_some h
    refine g_callV C mw_Po_countEntries [(0, x2), (0, x3)] 49 cl6 rfl (ok_Po_countEntries x2 x3 (up2 d 0 0 s1) hx2 hx3 hr13_) cd_A49 (by decide) (nA (by decide)) (ix := 345) lk_1151 lk_1152 lk_1153 ⟨rfl, rfl, Nat.le_of_ble_eq_true rfl, Nat.le_of_ble_eq_true rfl⟩ rfl (rest := []) rfl (Nat.le_of_ble_eq_true rfl) ⟨Nat.zero_le _, Nat.zero_le _⟩ (by decide +kernel) (fun _ hc14_ => ?_)
    replace hc14_ : c64 r12_ := hc14_
    refine g_st (st2 := [(1, r12_)]) rfl ?_
    refine s_lstore C 5 (lo' := [(2, 0), (0, x1), (0, x2), (0, x3), (0, x4), (1, r12_), (9, 0)]) (by decide) (s2k (s2k (s2k (s2k (s2n (by decide) s2z))))) (by decide +kernel) ?_
    refine g_aload_n C 0 rfl (by decide +kernel) ?_
    refine g_getR C cl11 0 7 49 rfl cd_A0 ⟨by decide, rfl, by decide⟩ rfl rfl (nA (by decide)) (ix := 64) lk_474 (by decide +kernel) ?_
    refine g_lload C 5 rfl (by decide +kernel) ?_
    refine g_iload C 4 rfl (by decide +kernel) ?_
    refine g_if_eq C (off := 13) (tgt := 74) (c32_cb hx4) (by decide +kernel) (by decide) (fun hc15_ => ?_) (fun hc15_ => ?_)
    · replace h := ite_t hc15_ h
      refine g_iconst C 0 (cK rfl) (by decide +kernel) ?_
      refine g_sub (lo2 := [(2, 0), (0, x1), (0, x2), (0, x3), (9, 0), (9, 0), (9, 0)]) (lsb_v (lsb_v (lsb_v (lsb_v (lsb_c (lsb_c (lsb_c lsb_e))))))) ?_
      exact ok_PB_seated_b75 C hlk hr x1 x2 x3 r12_ 0 d11_ hx1 hx2 hx3 hc14_ (c32_cb (Or.inl rfl)) h
    · replace h := ite_f hc15_ h
      refine g_aload_n C 0 rfl (by decide +kernel) ?_
      refine g_getR C cl11 0 7 49 rfl cd_A0 ⟨by decide, rfl, by decide⟩ rfl rfl (nA (by decide)) (ix := 64) lk_474 (by decide +kernel) ?_
      refine g_getIN C cl6 49 11 rfl cd_A49 ⟨by decide, rfl, by decide⟩ rfl (nA (by decide)) (ix := 352) lk_331 (by decide +kernel) (fun hc16_ => ?_)
      refine g_goto C 75 (off := 4) (by decide +kernel) (by decide) ?_
      refine g_sub (lo2 := [(2, 0), (0, x1), (0, x2), (0, x3), (9, 0), (9, 0), (9, 0)]) (lsb_v (lsb_v (lsb_v (lsb_v (lsb_c (lsb_c (lsb_c lsb_e))))))) ?_
      exact ok_PB_seated_b75 C hlk hr x1 x2 x3 r12_ (d11_ 49 11) d11_ hx1 hx2 hx3 hc14_ hc16_ h
  · replace h := ite_f hc10_ h
    refine g_iconst C (-1) (cK rfl) (by decide +kernel) ?_
    obtain ⟨rfl, rfl⟩ := ret_inj h
    exact g_iret C (cK rfl) hlk hr (by decide +kernel)
set_option maxHeartbeats 4000000 in
theorem ok_PB_seated {l : Launch} {r : Int} {d' : Dt} (p1 p2 p3 p4 : Int) (d : Dt) (hp1 : c32 p1) (hp2 : c32 p2) (hp3 : c32 p3) (hp4 : cb p4) (h : L_PB_seated p1 p2 p3 p4 d = some (r, d')) : MC l y_PB_seated prog_1_method_39_code 7 (some .int) rm_PB_seated 0 [(2, 0), (0, p1), (0, p2), (0, p3), (0, p4)] d (some (0, r)) d' := by
  refine MC.of (by decide) (Nat.le_of_ble_eq_true rfl) ?_
  intro p e s m args below meth c D cA ad A C hlk hr
  replace C : Cx p s m args c prog_1_method_39_code 7 "PollBooks" D cA ad 0 A := C
  show G p l e rm_PB_seated s m args below meth c 0 0 (MQ below (fun _ => QC D cA ad 0 A (some .int) (some (0, r)) d') args s 0 0 A) 7 D cA ad 0 A 0 [(2, 0), (0, p1), (0, p2), (0, p3), (0, p4)] [] d
  refine g_sub (lo2 := [(2, 0), (0, p1), (0, p2), (0, p3), (0, p4), (9, 0), (9, 0)]) (lsb_v (lsb_v (lsb_v (lsb_v (lsb_v (lsb_n (lsb_n lsb_e))))))) ?_
  unfold L_PB_seated at h
  refine g_aload_n C 0 rfl (by decide +kernel) ?_
  refine g_iload_n C 1 rfl (by decide +kernel) ?_
  refine g_i2l C hp1 (by decide +kernel) ?_
  refine g_lconst C 0 (v := 0) (by decide) (by decide +kernel) ?_
  refine g_lconst C 1 (v := 1) (by decide) (by decide +kernel) ?_
  obtain ⟨r18_, d17_, hr19_, h⟩ := bd_some h
  refine g_callS C mw_PB_within [(1, p1), (1, 0), (1, 1)] (ok_PB_within p1 0 1 d (c64_32 hp1) (cL rfl) (cL rfl) hr19_) (ix := 105) lk_520 lk_521 ⟨rfl, rfl, Nat.le_of_ble_eq_true rfl, Nat.le_of_ble_eq_true rfl⟩ rfl (rest := [(2, 0)]) rfl (Nat.le_of_ble_eq_true rfl) ⟨Nat.zero_le _, Nat.zero_le _⟩ (by decide +kernel) (fun _ hc20_ => ?_)
  replace hc20_ : cb r18_ := hc20_
  refine g_st (st2 := [(0, r18_), (2, 0)]) rfl ?_
  refine g_if_eq C (off := 21) (tgt := 29) (c32_cb hc20_) (by decide +kernel) (by decide) (fun hc21_ => ?_) (fun hc21_ => ?_)
  · replace h := ite_t hc21_ h
    refine g_iconst C 1 (cK rfl) (by decide +kernel) ?_
    refine g_sub (lo2 := [(2, 0), (0, p1), (0, p2), (0, p3), (0, p4), (9, 0), (9, 0)]) (lsb_v (lsb_v (lsb_v (lsb_v (lsb_v (lsb_c (lsb_c lsb_e))))))) ?_
    exact ok_PB_seated_b30 C hlk hr p1 p2 p3 p4 1 d17_ hp1 hp2 hp3 hp4 (Or.inr rfl) h
  · replace h := ite_f hc21_ h
    refine g_iload_n C 2 rfl (by decide +kernel) ?_
    obtain ⟨r23_, d22_, hr24_, h⟩ := bd_some h
    refine g_callS C mw_PB_isPlace [(0, p2)] (ok_PB_isPlace p2 d17_ hp2 hr24_) (ix := 158) lk_608 lk_609 ⟨rfl, rfl, Nat.le_of_ble_eq_true rfl, Nat.le_of_ble_eq_true rfl⟩ rfl (rest := [(2, 0)]) rfl (Nat.le_of_ble_eq_true rfl) ⟨Nat.zero_le _, Nat.zero_le _⟩ (by decide +kernel) (fun _ hc25_ => ?_)
    replace hc25_ : cb r23_ := hc25_
    refine g_st (st2 := [(0, r23_), (2, 0)]) rfl ?_
    refine g_if_eq C (off := 14) (tgt := 29) (c32_cb hc25_) (by decide +kernel) (by decide) (fun hc26_ => ?_) (fun hc26_ => ?_)
    · replace h := ite_t hc26_ h
      refine g_iconst C 1 (cK rfl) (by decide +kernel) ?_
      refine g_sub (lo2 := [(2, 0), (0, p1), (0, p2), (0, p3), (0, p4), (9, 0), (9, 0)]) (lsb_v (lsb_v (lsb_v (lsb_v (lsb_v (lsb_c (lsb_c lsb_e))))))) ?_
      exact ok_PB_seated_b30 C hlk hr p1 p2 p3 p4 1 d22_ hp1 hp2 hp3 hp4 (Or.inr rfl) h
    · replace h := ite_f hc26_ h
      refine g_iload_n C 3 rfl (by decide +kernel) ?_
      obtain ⟨r28_, d27_, hr29_, h⟩ := bd_some h
      refine g_callS C mw_PB_isDay [(0, p3)] (ok_PB_isDay p3 d22_ hp3 hr29_) (ix := 180) lk_643 lk_644 ⟨rfl, rfl, Nat.le_of_ble_eq_true rfl, Nat.le_of_ble_eq_true rfl⟩ rfl (rest := [(2, 0)]) rfl (Nat.le_of_ble_eq_true rfl) ⟨Nat.zero_le _, Nat.zero_le _⟩ (by decide +kernel) (fun _ hc30_ => ?_)
      replace hc30_ : cb r28_ := hc30_
      refine g_st (st2 := [(0, r28_), (2, 0)]) rfl ?_
      refine g_if_eq C (off := 7) (tgt := 29) (c32_cb hc30_) (by decide +kernel) (by decide) (fun hc31_ => ?_) (fun hc31_ => ?_)
      · replace h := ite_t hc31_ h
        refine g_iconst C 1 (cK rfl) (by decide +kernel) ?_
        refine g_sub (lo2 := [(2, 0), (0, p1), (0, p2), (0, p3), (0, p4), (9, 0), (9, 0)]) (lsb_v (lsb_v (lsb_v (lsb_v (lsb_v (lsb_c (lsb_c lsb_e))))))) ?_
        exact ok_PB_seated_b30 C hlk hr p1 p2 p3 p4 1 d27_ hp1 hp2 hp3 hp4 (Or.inr rfl) h
      · replace h := ite_f hc31_ h
        refine g_iconst C 0 (cK rfl) (by decide +kernel) ?_
        refine g_goto C 30 (off := 4) (by decide +kernel) (by decide) ?_
        refine g_sub (lo2 := [(2, 0), (0, p1), (0, p2), (0, p3), (0, p4), (9, 0), (9, 0)]) (lsb_v (lsb_v (lsb_v (lsb_v (lsb_v (lsb_c (lsb_c lsb_e))))))) ?_
        exact ok_PB_seated_b30 C hlk hr p1 p2 p3 p4 0 d27_ hp1 hp2 hp3 hp4 (Or.inl rfl) h
/-! PollBooks$Grounds.isFull()Z -/
def y_Gr_isFull : MethodName := ⟨"PollBooks$Grounds", "isFull", "()Z"⟩
def rm_Gr_isFull : Room := { frames := 0, cells := 0, slots := 0, locals := 0 }
theorem mw_Gr_isFull : MW y_Gr_isFull prog_3_method_2_code 1 (some .boolean) 0 := ⟨lk_1185, lk_11, by decide +kernel⟩
def L_Gr_isFull (d : Dt) : Option (Int × Dt) :=
  if (d 58 5) < 10 then some (0, d) else some (1, d)
set_option maxHeartbeats 4000000 in
theorem ok_Gr_isFull {l : Launch} {r : Int} {d' : Dt} (d : Dt)  (h : L_Gr_isFull d = some (r, d')) : MC l y_Gr_isFull prog_3_method_2_code 1 (some .boolean) rm_Gr_isFull 0 [(2, 58)] d (some (0, r)) d' := by
  refine MC.of (by decide) (Nat.le_of_ble_eq_true rfl) ?_
  intro p e s m args below meth c D cA ad A C hlk hr
  replace C : Cx p s m args c prog_3_method_2_code 1 "PollBooks$Grounds" D cA ad 0 A := C
  show G p l e rm_Gr_isFull s m args below meth c 0 0 (MQ below (fun _ => QC D cA ad 0 A (some .boolean) (some (0, r)) d') args s 0 0 A) 1 D cA ad 0 A 0 [(2, 58)] [] d
  refine g_sub (lo2 := [(2, 58)]) (lsb_v lsb_e) ?_
  unfold L_Gr_isFull at h
  refine g_aload_n C 0 rfl (by decide +kernel) ?_
  refine g_getI C cl1 58 5 rfl cd_A58 ⟨by decide, rfl, by decide⟩ rfl (nA (by decide)) (ix := 36) lk_372 (by decide +kernel) (fun hc1_ => ?_)
  refine g_bipush C 10 (by decide) (by decide +kernel) ?_
  refine g_icmp_lt C (off := 7) (tgt := 13) hc1_ (cK rfl) (by decide +kernel) (by decide) (fun hc2_ => ?_) (fun hc2_ => ?_)
  · replace h := ite_t hc2_ h
    refine g_iconst C 0 (cK rfl) (by decide +kernel) ?_
    obtain ⟨rfl, rfl⟩ := ret_inj h
    exact g_zret C (Or.inl rfl) hlk hr (by decide +kernel)
  · replace h := ite_f hc2_ h
    refine g_iconst C 1 (cK rfl) (by decide +kernel) ?_
    refine g_goto C 14 (off := 4) (by decide +kernel) (by decide) ?_
    obtain ⟨rfl, rfl⟩ := ret_inj h
    exact g_zret C (Or.inr rfl) hlk hr (by decide +kernel)
/-! PollBooks$Grounds.isTold(ZI)Z -/
def y_Gr_isTold : MethodName := ⟨"PollBooks$Grounds", "isTold", "(ZI)Z"⟩
def rm_Gr_isTold : Room := { frames := 0, cells := 0, slots := 0, locals := 0 }
theorem mw_Gr_isTold : MW y_Gr_isTold prog_3_method_4_code 4 (some .boolean) 2 := ⟨lk_1189, lk_11, by decide +kernel⟩
def L_Gr_isTold_b32 (x1 x2 x3 : Int) (d : Dt) : Option ((Int × Int × Int × Dt) ⊕ ((Dt) ⊕ (Dt))) :=
  some (Sum.inl (x1, x2, (w32 (x3 + 1)), d))
def L_Gr_isTold_y2 (x1 x2 x3 : Int) (d : Dt) : Option ((Int × Int × Int × Dt) ⊕ ((Dt) ⊕ (Dt))) :=
  if x3 < (d 58 5) then ck ((0 : Int) ≤ x3 ∧ x3 < 10) (if (d 59 x3.toNat) = x1 then ck ((0 : Int) ≤ x3 ∧ x3 < 10) (if (d 60 x3.toNat) = x2 then some (Sum.inr (Sum.inr (d))) else L_Gr_isTold_b32 x1 x2 x3 d) else L_Gr_isTold_b32 x1 x2 x3 d) else some (Sum.inr (Sum.inl (d)))
def L_Gr_isTold_l2 (x1 x2 x3 : Int) (d : Dt) : Option ((Dt) ⊕ (Dt)) := lpF (fun q : Int × Int × Int × Dt => L_Gr_isTold_y2 q.1 q.2.1 q.2.2.1 q.2.2.2) FU (x1, x2, x3, d)
def L_Gr_isTold (p1 p2 : Int) (d : Dt) : Option (Int × Dt) :=
  lb (L_Gr_isTold_l2 p1 p2 0 d) (fun q15_ => sm q15_ (fun q16_ => u0 q16_ (fun d11_ => some (0, d11_))) (fun q17_ => u0 q17_ (fun d13_ => some (1, d13_))))
set_option maxHeartbeats 4000000 in
theorem ok_Gr_isTold_b32 {p : Program} {l : Launch} {e : Env} {s : State} {m : MethodId} {args : Array Value} {below : List Frame} {meth : Method} {c : Code} {D : va_G} {cA : Nat → ClassId} {ad : Nat → Nat} {A : Nat → Prop} (C : Cx p s m args c prog_3_method_4_code 4 "PollBooks$Grounds" D cA ad 0 A) {Q : State → Prop} {o : (Int × Int × Int × Dt) ⊕ ((Dt) ⊕ (Dt))} (x1 x2 x3 : Int) (d : Dt) (hx1 : cb x1) (hx2 : c32 x2) (hx3 : c32 x3) (h : L_Gr_isTold_b32 x1 x2 x3 d = some o) (kb : ∀ (y0 y1 y2 : Int) (e' : Dt), o = .inl (y0, y1, y2, e') → cb y0 → c32 y1 → c32 y2 → G p l e rm_Gr_isTold s m args below meth c 0 0 Q 4 D cA ad 0 A 2 [(2, 58), (0, y0), (0, y1), (0, y2)] [] e') (k0 : ∀ (e' : Dt), o = .inr (Sum.inl (e')) → G p l e rm_Gr_isTold s m args below meth c 0 0 Q 4 D cA ad 0 A 38 [(9, 0), (9, 0), (9, 0), (9, 0)] [] e') (k1 : ∀ (e' : Dt), o = .inr (Sum.inr (e')) → G p l e rm_Gr_isTold s m args below meth c 0 0 Q 4 D cA ad 0 A 30 [(9, 0), (9, 0), (9, 0), (9, 0)] [] e') : G p l e rm_Gr_isTold s m args below meth c 0 0 Q 4 D cA ad 0 A 32 [(2, 58), (0, x1), (0, x2), (0, x3)] [] d := by
  unfold L_Gr_isTold_b32 at h
  refine s_iinc C 3 1 (lo' := [(2, 58), (0, x1), (0, x2), (0, (w32 (x3 + 1)))]) rfl (by decide) (s1k (s1k (s1n (by decide) s1z))) (by decide +kernel) ?_
  refine g_goto C 2 (off := (-33)) (by decide +kernel) (by decide) ?_
  refine g_sub (lo2 := [(2, 58), (0, x1), (0, x2), (0, (w32 (x3 + 1)))]) (lsb_v (lsb_v (lsb_v (lsb_v lsb_e)))) ?_
  obtain rfl := Option.some.inj h
  exact kb x1 x2 (w32 (x3 + 1)) d rfl hx1 hx2 (w32_c _)
set_option maxHeartbeats 4000000 in
theorem ok_Gr_isTold_y2 {p : Program} {l : Launch} {e : Env} {s : State} {m : MethodId} {args : Array Value} {below : List Frame} {meth : Method} {c : Code} {D : va_G} {cA : Nat → ClassId} {ad : Nat → Nat} {A : Nat → Prop} (C : Cx p s m args c prog_3_method_4_code 4 "PollBooks$Grounds" D cA ad 0 A) {Q : State → Prop} {o : (Int × Int × Int × Dt) ⊕ ((Dt) ⊕ (Dt))} (x1 x2 x3 : Int) (d : Dt) (hx1 : cb x1) (hx2 : c32 x2) (hx3 : c32 x3) (h : L_Gr_isTold_y2 x1 x2 x3 d = some o) (kb : ∀ (y0 y1 y2 : Int) (e' : Dt), o = .inl (y0, y1, y2, e') → cb y0 → c32 y1 → c32 y2 → G p l e rm_Gr_isTold s m args below meth c 0 0 Q 4 D cA ad 0 A 2 [(2, 58), (0, y0), (0, y1), (0, y2)] [] e') (k0 : ∀ (e' : Dt), o = .inr (Sum.inl (e')) → G p l e rm_Gr_isTold s m args below meth c 0 0 Q 4 D cA ad 0 A 38 [(9, 0), (9, 0), (9, 0), (9, 0)] [] e') (k1 : ∀ (e' : Dt), o = .inr (Sum.inr (e')) → G p l e rm_Gr_isTold s m args below meth c 0 0 Q 4 D cA ad 0 A 30 [(9, 0), (9, 0), (9, 0), (9, 0)] [] e') : G p l e rm_Gr_isTold s m args below meth c 0 0 Q 4 D cA ad 0 A 2 [(2, 58), (0, x1), (0, x2), (0, x3)] [] d := by
  unfold L_Gr_isTold_y2 at h
  refine g_iload_n C 3 rfl (by decide +kernel) ?_
  refine g_aload_n C 0 rfl (by decide +kernel) ?_
  refine g_getI C cl1 58 5 rfl cd_A58 ⟨by decide, rfl, by decide⟩ rfl (nA (by decide)) (ix := 36) lk_372 (by decide +kernel) (fun hc1_ => ?_)
  refine g_icmp_ge C (off := 31) (tgt := 38) hx3 hc1_ (by decide +kernel) (by decide) (fun hc2_ => ?_) (fun hc2_ => ?_)
  · replace h := ite_t hc2_ h
    refine g_aload_n C 0 rfl (by decide +kernel) ?_
    refine g_getR C cl1 58 2 59 rfl cd_A58 ⟨by decide, rfl, by decide⟩ rfl rfl (nA (by decide)) (ix := 11) lk_369 (by decide +kernel) ?_
    refine g_iload_n C 3 rfl (by decide +kernel) ?_
    obtain ⟨hb3_, h⟩ := ck_some h
    refine g_zald C 59 hx3 rfl cd_A59 (nA (by decide)) hb3_ (by decide +kernel) (fun hc4_ => ?_)
    refine g_iload_n C 1 rfl (by decide +kernel) ?_
    refine g_icmp_ne C (off := 15) (tgt := 32) (c32_cb hc4_) (c32_cb hx1) (by decide +kernel) (by decide) (fun hc5_ => ?_) (fun hc5_ => ?_)
    · replace h := ite_t hc5_ h
      refine g_aload_n C 0 rfl (by decide +kernel) ?_
      refine g_getR C cl1 58 3 60 rfl cd_A58 ⟨by decide, rfl, by decide⟩ rfl rfl (nA (by decide)) (ix := 15) lk_370 (by decide +kernel) ?_
      refine g_iload_n C 3 rfl (by decide +kernel) ?_
      obtain ⟨hb6_, h⟩ := ck_some h
      refine g_iald C 60 hx3 rfl cd_A60 (nA (by decide)) hb6_ (by decide +kernel) (fun hc7_ => ?_)
      refine g_iload_n C 2 rfl (by decide +kernel) ?_
      refine g_icmp_ne C (off := 5) (tgt := 32) hc7_ hx2 (by decide +kernel) (by decide) (fun hc8_ => ?_) (fun hc8_ => ?_)
      · replace h := ite_t hc8_ h
        refine g_sub (lo2 := [(9, 0), (9, 0), (9, 0), (9, 0)]) (lsb_c (lsb_c (lsb_c (lsb_c lsb_e)))) ?_
        obtain rfl := Option.some.inj h
        exact k1 d rfl 
      · replace h := ite_f hc8_ h
        refine g_sub (lo2 := [(2, 58), (0, x1), (0, x2), (0, x3)]) (lsb_v (lsb_v (lsb_v (lsb_v lsb_e)))) ?_
        exact ok_Gr_isTold_b32 C x1 x2 x3 d hx1 hx2 hx3 h kb k0 k1
    · replace h := ite_f hc5_ h
      refine g_sub (lo2 := [(2, 58), (0, x1), (0, x2), (0, x3)]) (lsb_v (lsb_v (lsb_v (lsb_v lsb_e)))) ?_
      exact ok_Gr_isTold_b32 C x1 x2 x3 d hx1 hx2 hx3 h kb k0 k1
  · replace h := ite_f hc2_ h
    refine g_sub (lo2 := [(9, 0), (9, 0), (9, 0), (9, 0)]) (lsb_c (lsb_c (lsb_c (lsb_c lsb_e)))) ?_
    obtain rfl := Option.some.inj h
    exact k0 d rfl 
set_option maxHeartbeats 4000000 in
theorem ok_Gr_isTold_n2 {p : Program} {l : Launch} {e : Env} {s : State} {m : MethodId} {args : Array Value} {below : List Frame} {meth : Method} {c : Code} {D : va_G} {cA : Nat → ClassId} {ad : Nat → Nat} {A : Nat → Prop} (C : Cx p s m args c prog_3_method_4_code 4 "PollBooks$Grounds" D cA ad 0 A) {Q : State → Prop} {x : (Dt) ⊕ (Dt)} : ∀ (n : Nat) (x1 x2 x3 : Int) (d : Dt), cb x1 → c32 x2 → c32 x3 → lpF (fun q : Int × Int × Int × Dt => L_Gr_isTold_y2 q.1 q.2.1 q.2.2.1 q.2.2.2) n (x1, x2, x3, d) = some x → (∀ (e' : Dt), x = (Sum.inl (e')) → G p l e rm_Gr_isTold s m args below meth c 0 0 Q 4 D cA ad 0 A 38 [(9, 0), (9, 0), (9, 0), (9, 0)] [] e') → (∀ (e' : Dt), x = (Sum.inr (e')) → G p l e rm_Gr_isTold s m args below meth c 0 0 Q 4 D cA ad 0 A 30 [(9, 0), (9, 0), (9, 0), (9, 0)] [] e') → G p l e rm_Gr_isTold s m args below meth c 0 0 Q 4 D cA ad 0 A 2 [(2, 58), (0, x1), (0, x2), (0, x3)] [] d := by
  intro n
  induction n with
  | zero => intro x1 x2 x3 d g0 g1 g2 h k0 k1; cases h
  | succ n ih =>
    intro x1 x2 x3 d g0 g1 g2 h k0 k1
    rcases lpF_some h with h | ⟨⟨v0_, v1_, v2_, e0_⟩, h1, h⟩
    · exact ok_Gr_isTold_y2 C x1 x2 x3 d g0 g1 g2 h (fun z0_ z1_ z2_ e1_ eq w0_ w1_ w2_ => by cases eq) (fun e1_ eq => k0 _ (by cases eq; rfl) ) (fun e1_ eq => k1 _ (by cases eq; rfl) )
    · exact ok_Gr_isTold_y2 C x1 x2 x3 d g0 g1 g2 h1 (fun z0_ z1_ z2_ e1_ eq w0_ w1_ w2_ => by cases eq; exact ih _ _ _ _ w0_ w1_ w2_ h k0 k1) (fun e1_ eq => by cases eq) (fun e1_ eq => by cases eq)
set_option maxHeartbeats 4000000 in
theorem ok_Gr_isTold_l2 {p : Program} {l : Launch} {e : Env} {s : State} {m : MethodId} {args : Array Value} {below : List Frame} {meth : Method} {c : Code} {D : va_G} {cA : Nat → ClassId} {ad : Nat → Nat} {A : Nat → Prop} (C : Cx p s m args c prog_3_method_4_code 4 "PollBooks$Grounds" D cA ad 0 A) {Q : State → Prop} {x : (Dt) ⊕ (Dt)} (x1 x2 x3 : Int) (d : Dt) (hx1 : cb x1) (hx2 : c32 x2) (hx3 : c32 x3) (h : L_Gr_isTold_l2 x1 x2 x3 d = some x) (k0 : ∀ (e' : Dt), x = (Sum.inl (e')) → G p l e rm_Gr_isTold s m args below meth c 0 0 Q 4 D cA ad 0 A 38 [(9, 0), (9, 0), (9, 0), (9, 0)] [] e') (k1 : ∀ (e' : Dt), x = (Sum.inr (e')) → G p l e rm_Gr_isTold s m args below meth c 0 0 Q 4 D cA ad 0 A 30 [(9, 0), (9, 0), (9, 0), (9, 0)] [] e') : G p l e rm_Gr_isTold s m args below meth c 0 0 Q 4 D cA ad 0 A 2 [(2, 58), (0, x1), (0, x2), (0, x3)] [] d :=
  ok_Gr_isTold_n2 C FU x1 x2 x3 d hx1 hx2 hx3 h k0 k1
set_option maxHeartbeats 4000000 in
theorem ok_Gr_isTold {l : Launch} {r : Int} {d' : Dt} (p1 p2 : Int) (d : Dt) (hp1 : cb p1) (hp2 : c32 p2) (h : L_Gr_isTold p1 p2 d = some (r, d')) : MC l y_Gr_isTold prog_3_method_4_code 4 (some .boolean) rm_Gr_isTold 0 [(2, 58), (0, p1), (0, p2)] d (some (0, r)) d' := by
  refine MC.of (by decide) (Nat.le_of_ble_eq_true rfl) ?_
  intro p e s m args below meth c D cA ad A C hlk hr
  replace C : Cx p s m args c prog_3_method_4_code 4 "PollBooks$Grounds" D cA ad 0 A := C
  show G p l e rm_Gr_isTold s m args below meth c 0 0 (MQ below (fun _ => QC D cA ad 0 A (some .boolean) (some (0, r)) d') args s 0 0 A) 4 D cA ad 0 A 0 [(2, 58), (0, p1), (0, p2)] [] d
  refine g_sub (lo2 := [(2, 58), (0, p1), (0, p2), (9, 0)]) (lsb_v (lsb_v (lsb_v (lsb_n lsb_e)))) ?_
  unfold L_Gr_isTold at h
  refine g_iconst C 0 (cK rfl) (by decide +kernel) ?_
  refine s_istore_n C 3 (lo' := [(2, 58), (0, p1), (0, p2), (0, 0)]) (by decide) (s1k (s1k (s1n (by decide) s1z))) (by decide +kernel) ?_
  refine g_sub (lo2 := [(2, 58), (0, p1), (0, p2), (0, 0)]) (lsb_v (lsb_v (lsb_v (lsb_v lsb_e)))) ?_
  obtain ⟨x9_, hx10_, h⟩ := lb_some h
  refine ok_Gr_isTold_l2 C p1 p2 0 d hp1 hp2 (c32_cb (Or.inl rfl)) hx10_ (fun d11_ eq12_ => ?_) (fun d13_ eq14_ => ?_)
  · subst eq12_
    replace h := sml_e h
    replace h := u0_e h
    refine g_iconst C 0 (cK rfl) (by decide +kernel) ?_
    obtain ⟨rfl, rfl⟩ := ret_inj h
    exact g_zret C (Or.inl rfl) hlk hr (by decide +kernel)
  · subst eq14_
    replace h := smr_e h
    replace h := u0_e h
    refine g_iconst C 1 (cK rfl) (by decide +kernel) ?_
    obtain ⟨rfl, rfl⟩ := ret_inj h
    exact g_zret C (Or.inr rfl) hlk hr (by decide +kernel)
/-! PollBooks$Grounds.add(ZI)I -/
def y_Gr_add : MethodName := ⟨"PollBooks$Grounds", "add", "(ZI)I"⟩
def rm_Gr_add : Room := { frames := 0, cells := 0, slots := 0, locals := 0 }
theorem mw_Gr_add : MW y_Gr_add prog_3_method_5_code 3 (some .int) 2 := ⟨lk_1193, lk_11, by decide +kernel⟩
def L_Gr_add (p1 p2 : Int) (d : Dt) : Option (Int × Dt) :=
  ck ((0 : Int) ≤ (d 58 5) ∧ (d 58 5) < 10) (ck ((0 : Int) ≤ (d 58 5) ∧ (d 58 5) < 10) (some ((w32 ((w32 ((d 58 5) + 1)) - 1)), (up2 (up2 (up2 d 59 ((d 58 5)).toNat p1) 60 ((d 58 5)).toNat p2) 58 5 (w32 ((d 58 5) + 1))))))
set_option maxHeartbeats 4000000 in
theorem ok_Gr_add {l : Launch} {r : Int} {d' : Dt} (p1 p2 : Int) (d : Dt) (hp1 : cb p1) (hp2 : c32 p2) (h : L_Gr_add p1 p2 d = some (r, d')) : MC l y_Gr_add prog_3_method_5_code 3 (some .int) rm_Gr_add 0 [(2, 58), (0, p1), (0, p2)] d (some (0, r)) d' := by
  refine MC.of (by decide) (Nat.le_of_ble_eq_true rfl) ?_
  intro p e s m args below meth c D cA ad A C hlk hr
  replace C : Cx p s m args c prog_3_method_5_code 3 "PollBooks$Grounds" D cA ad 0 A := C
  show G p l e rm_Gr_add s m args below meth c 0 0 (MQ below (fun _ => QC D cA ad 0 A (some .int) (some (0, r)) d') args s 0 0 A) 3 D cA ad 0 A 0 [(2, 58), (0, p1), (0, p2)] [] d
  refine g_sub (lo2 := [(2, 58), (0, p1), (0, p2)]) (lsb_v (lsb_v (lsb_v lsb_e))) ?_
  unfold L_Gr_add at h
  refine g_aload_n C 0 rfl (by decide +kernel) ?_
  refine g_getR C cl1 58 2 59 rfl cd_A58 ⟨by decide, rfl, by decide⟩ rfl rfl (nA (by decide)) (ix := 11) lk_369 (by decide +kernel) ?_
  refine g_aload_n C 0 rfl (by decide +kernel) ?_
  refine g_getI C cl1 58 5 rfl cd_A58 ⟨by decide, rfl, by decide⟩ rfl (nA (by decide)) (ix := 36) lk_372 (by decide +kernel) (fun hc1_ => ?_)
  refine g_iload_n C 1 rfl (by decide +kernel) ?_
  obtain ⟨hb2_, h⟩ := ck_some h
  refine g_zast C 59 hp1 hc1_ rfl cd_A59 (nA (by decide)) hb2_ (by decide +kernel) ?_
  refine g_aload_n C 0 rfl (by decide +kernel) ?_
  refine g_getR C cl1 58 3 60 rfl cd_A58 ⟨by decide, rfl, by decide⟩ rfl rfl (nA (by decide)) (ix := 15) lk_370 (by decide +kernel) ?_
  refine g_aload_n C 0 rfl (by decide +kernel) ?_
  refine g_getI C cl1 58 5 rfl cd_A58 ⟨by decide, rfl, by decide⟩ rfl (nA (by decide)) (ix := 36) lk_372 (by decide +kernel) (fun hc3_ => ?_)
  refine g_val (y := (d 58 5)) rfl ?_
  replace hc3_ : c32 (d 58 5) := hc3_
  refine g_iload_n C 2 rfl (by decide +kernel) ?_
  obtain ⟨hb4_, h⟩ := ck_some h
  refine g_iast C 60 hp2 hc3_ rfl cd_A60 (nA (by decide)) hb4_ (by decide +kernel) ?_
  refine g_aload_n C 0 rfl (by decide +kernel) ?_
  refine g_dup C tg2 (by decide +kernel) ?_
  refine g_getI C cl1 58 5 rfl cd_A58 ⟨by decide, rfl, by decide⟩ rfl (nA (by decide)) (ix := 36) lk_372 (by decide +kernel) (fun hc5_ => ?_)
  refine g_val (y := (d 58 5)) rfl ?_
  replace hc5_ : c32 (d 58 5) := hc5_
  refine g_iconst C 1 (cK rfl) (by decide +kernel) ?_
  refine g_iadd C (by decide +kernel) ?_
  refine g_putI C cl1 58 5 (w32_c _) rfl cd_A58 ⟨by decide, rfl, by decide⟩ rfl (nA (by decide)) (ix := 36) lk_372 rfl rfl (by decide +kernel) ?_
  refine g_aload_n C 0 rfl (by decide +kernel) ?_
  refine g_getI C cl1 58 5 rfl cd_A58 ⟨by decide, rfl, by decide⟩ rfl (nA (by decide)) (ix := 36) lk_372 (by decide +kernel) (fun hc6_ => ?_)
  refine g_val (y := (w32 ((d 58 5) + 1))) rfl ?_
  replace hc6_ : c32 (w32 ((d 58 5) + 1)) := hc6_
  refine g_iconst C 1 (cK rfl) (by decide +kernel) ?_
  refine g_isub C (by decide +kernel) ?_
  obtain ⟨rfl, rfl⟩ := ret_inj h
  exact g_iret C (w32_c _) hlk hr (by decide +kernel)
/-! PollBooks.ground(ZI)I -/
def y_PB_ground : MethodName := ⟨"PollBooks", "ground", "(ZI)I"⟩
def rm_PB_ground : Room := { frames := 1, cells := 0, slots := 0, locals := 23 }
theorem mw_PB_ground : MW y_PB_ground prog_1_method_40_code 3 (some .int) 2 := ⟨lk_1181, lk_1, by decide +kernel⟩
def L_PB_ground_b78 (x1 x2 : Int) (d : Dt) : Option (Int × Dt) :=
  if (d 0 0) = 0 then bd (L_Gr_add x1 x2 d) (fun r4_ d3_ => some (r4_, d3_)) else some ((-1), d)
def L_PB_ground_b75 (x1 x2 s1 : Int) (d : Dt) : Option (Int × Dt) :=
  L_PB_ground_b78 x1 x2 (up2 d 0 0 s1)
def L_PB_ground_b38 (x1 x2 : Int) (d : Dt) : Option (Int × Dt) :=
  bd (L_Gr_isFull d) (fun r8_ d7_ => if r8_ = 0 then bd (L_Gr_isTold x1 x2 d7_) (fun r13_ d12_ => if r13_ = 0 then L_PB_ground_b75 x1 x2 0 d12_ else L_PB_ground_b75 x1 x2 7 d12_) else L_PB_ground_b78 x1 x2 (up2 d7_ 0 0 4))
def L_PB_ground_b30 (x1 x2 : Int) (d : Dt) : Option (Int × Dt) :=
  L_PB_ground_b78 x1 x2 (up2 d 0 0 1)
def L_PB_ground (p1 p2 : Int) (d : Dt) : Option (Int × Dt) :=
  if p1 = 0 then bd (L_Bo_has 0 p2 d) (fun r19_ d18_ => if r19_ = 0 then L_PB_ground_b30 p1 p2 d18_ else L_PB_ground_b38 p1 p2 d18_) else bd (L_Po_hasOffer p2 d) (fun r24_ d23_ => if r24_ = 0 then L_PB_ground_b30 p1 p2 d23_ else L_PB_ground_b38 p1 p2 d23_)
set_option maxHeartbeats 4000000 in
theorem ok_PB_ground_b78 {p : Program} {l : Launch} {e : Env} {s : State} {m : MethodId} {args : Array Value} {below : List Frame} {meth : Method} {c : Code} {D : va_G} {cA : Nat → ClassId} {ad : Nat → Nat} {A : Nat → Prop} (C : Cx p s m args c prog_1_method_40_code 3 "PollBooks" D cA ad 0 A) (hlk : meth.locks = false) (hr : meth.sig.returnType = (some .int)) {r : Int} {d' : Dt} (x1 x2 : Int) (d : Dt) (hx1 : cb x1) (hx2 : c32 x2) (h : L_PB_ground_b78 x1 x2 d = some (r, d')) : G p l e rm_PB_ground s m args below meth c 0 0 (MQ below (fun _ => QC D cA ad 0 A (some .int) (some (0, r)) d') args s 0 0 A) 3 D cA ad 0 A 78 [(2, 0), (0, x1), (0, x2)] [] d := by
  unfold L_PB_ground_b78 at h
  refine g_aload_n C 0 rfl (by decide +kernel) ?_
  refine g_getI C cl11 0 0 rfl cd_A0 ⟨by decide, rfl, by decide⟩ rfl (nA (by decide)) (ix := 9) lk_467 (by decide +kernel) (fun hc1_ => ?_)
  refine g_if_ne C (off := 15) (tgt := 97) hc1_ (by decide +kernel) (by decide) (fun hc2_ => ?_) (fun hc2_ => ?_)
  · replace h := ite_t hc2_ h
    refine g_aload_n C 0 rfl (by decide +kernel) ?_
    refine g_getR C cl11 0 8 58 rfl cd_A0 ⟨by decide, rfl, by decide⟩ rfl rfl (nA (by decide)) (ix := 73) lk_475 (by decide +kernel) ?_
    refine g_iload_n C 1 rfl (by decide +kernel) ?_
    refine g_iload_n C 2 rfl (by decide +kernel) ?_
    obtain ⟨r4_, d3_, hr5_, h⟩ := bd_some h
    refine g_callV C mw_Gr_add [(0, x1), (0, x2)] 58 cl1 rfl (ok_Gr_add x1 x2 d hx1 hx2 hr5_) cd_A58 (by decide) (nA (by decide)) (ix := 367) lk_1190 lk_1191 lk_1192 ⟨rfl, rfl, Nat.le_of_ble_eq_true rfl, Nat.le_of_ble_eq_true rfl⟩ rfl (rest := []) rfl (Nat.le_of_ble_eq_true rfl) ⟨Nat.zero_le _, Nat.zero_le _⟩ (by decide +kernel) (fun _ hc6_ => ?_)
    replace hc6_ : c32 r4_ := hc6_
    refine g_st (st2 := [(0, r4_)]) rfl ?_
    refine g_goto C 98 (off := 4) (by decide +kernel) (by decide) ?_
    obtain ⟨rfl, rfl⟩ := ret_inj h
    exact g_iret C hc6_ hlk hr (by decide +kernel)
  · replace h := ite_f hc2_ h
    refine g_iconst C (-1) (cK rfl) (by decide +kernel) ?_
    obtain ⟨rfl, rfl⟩ := ret_inj h
    exact g_iret C (cK rfl) hlk hr (by decide +kernel)
set_option maxHeartbeats 4000000 in
theorem ok_PB_ground_b75 {p : Program} {l : Launch} {e : Env} {s : State} {m : MethodId} {args : Array Value} {below : List Frame} {meth : Method} {c : Code} {D : va_G} {cA : Nat → ClassId} {ad : Nat → Nat} {A : Nat → Prop} (C : Cx p s m args c prog_1_method_40_code 3 "PollBooks" D cA ad 0 A) (hlk : meth.locks = false) (hr : meth.sig.returnType = (some .int)) {r : Int} {d' : Dt} (x1 x2 s1 : Int) (d : Dt) (hx1 : cb x1) (hx2 : c32 x2) (hs1 : c32 s1) (h : L_PB_ground_b75 x1 x2 s1 d = some (r, d')) : G p l e rm_PB_ground s m args below meth c 0 0 (MQ below (fun _ => QC D cA ad 0 A (some .int) (some (0, r)) d') args s 0 0 A) 3 D cA ad 0 A 75 [(2, 0), (0, x1), (0, x2)] [(0, s1), (2, 0)] d := by
  unfold L_PB_ground_b75 at h
  refine g_putI C cl11 0 0 hs1 rfl cd_A0 ⟨by decide, rfl, by decide⟩ rfl (nA (by decide)) (ix := 9) lk_467 rfl rfl (by decide +kernel) ?_
  refine g_sub (lo2 := [(2, 0), (0, x1), (0, x2)]) (lsb_v (lsb_v (lsb_v lsb_e))) ?_
  exact ok_PB_ground_b78 C hlk hr x1 x2 (up2 d 0 0 s1) hx1 hx2 h
set_option maxHeartbeats 4000000 in
theorem ok_PB_ground_b38 {p : Program} {l : Launch} {e : Env} {s : State} {m : MethodId} {args : Array Value} {below : List Frame} {meth : Method} {c : Code} {D : va_G} {cA : Nat → ClassId} {ad : Nat → Nat} {A : Nat → Prop} (C : Cx p s m args c prog_1_method_40_code 3 "PollBooks" D cA ad 0 A) (hlk : meth.locks = false) (hr : meth.sig.returnType = (some .int)) {r : Int} {d' : Dt} (x1 x2 : Int) (d : Dt) (hx1 : cb x1) (hx2 : c32 x2) (h : L_PB_ground_b38 x1 x2 d = some (r, d')) : G p l e rm_PB_ground s m args below meth c 0 0 (MQ below (fun _ => QC D cA ad 0 A (some .int) (some (0, r)) d') args s 0 0 A) 3 D cA ad 0 A 38 [(2, 0), (0, x1), (0, x2)] [] d := by
  unfold L_PB_ground_b38 at h
  refine g_aload_n C 0 rfl (by decide +kernel) ?_
  refine g_getR C cl11 0 8 58 rfl cd_A0 ⟨by decide, rfl, by decide⟩ rfl rfl (nA (by decide)) (ix := 73) lk_475 (by decide +kernel) ?_
  obtain ⟨r8_, d7_, hr9_, h⟩ := bd_some h
  refine g_callV C mw_Gr_isFull [] 58 cl1 rfl (ok_Gr_isFull  d  hr9_) cd_A58 (by decide) (nA (by decide)) (ix := 362) lk_1182 lk_1183 lk_1184 ⟨rfl, rfl, Nat.le_of_ble_eq_true rfl, Nat.le_of_ble_eq_true rfl⟩ rfl (rest := []) rfl (Nat.le_of_ble_eq_true rfl) ⟨Nat.zero_le _, Nat.zero_le _⟩ (by decide +kernel) (fun _ hc10_ => ?_)
  replace hc10_ : cb r8_ := hc10_
  refine g_st (st2 := [(0, r8_)]) rfl ?_
  refine g_if_eq C (off := 11) (tgt := 56) (c32_cb hc10_) (by decide +kernel) (by decide) (fun hc11_ => ?_) (fun hc11_ => ?_)
  · replace h := ite_t hc11_ h
    refine g_aload_n C 0 rfl (by decide +kernel) ?_
    refine g_aload_n C 0 rfl (by decide +kernel) ?_
    refine g_getR C cl11 0 8 58 rfl cd_A0 ⟨by decide, rfl, by decide⟩ rfl rfl (nA (by decide)) (ix := 73) lk_475 (by decide +kernel) ?_
    refine g_iload_n C 1 rfl (by decide +kernel) ?_
    refine g_iload_n C 2 rfl (by decide +kernel) ?_
    obtain ⟨r13_, d12_, hr14_, h⟩ := bd_some h
    refine g_callV C mw_Gr_isTold [(0, x1), (0, x2)] 58 cl1 rfl (ok_Gr_isTold x1 x2 d7_ hx1 hx2 hr14_) cd_A58 (by decide) (nA (by decide)) (ix := 363) lk_1186 lk_1187 lk_1188 ⟨rfl, rfl, Nat.le_of_ble_eq_true rfl, Nat.le_of_ble_eq_true rfl⟩ rfl (rest := [(2, 0)]) rfl (Nat.le_of_ble_eq_true rfl) ⟨Nat.zero_le _, Nat.zero_le _⟩ (by decide +kernel) (fun _ hc15_ => ?_)
    replace hc15_ : cb r13_ := hc15_
    refine g_st (st2 := [(0, r13_), (2, 0)]) rfl ?_
    refine g_if_eq C (off := 8) (tgt := 74) (c32_cb hc15_) (by decide +kernel) (by decide) (fun hc16_ => ?_) (fun hc16_ => ?_)
    · replace h := ite_t hc16_ h
      refine g_iconst C 0 (cK rfl) (by decide +kernel) ?_
      refine g_sub (lo2 := [(2, 0), (0, x1), (0, x2)]) (lsb_v (lsb_v (lsb_v lsb_e))) ?_
      exact ok_PB_ground_b75 C hlk hr x1 x2 0 d12_ hx1 hx2 (c32_cb (Or.inl rfl)) h
    · replace h := ite_f hc16_ h
      refine g_bipush C 7 (by decide) (by decide +kernel) ?_
      refine g_goto C 75 (off := 4) (by decide +kernel) (by decide) ?_
      refine g_sub (lo2 := [(2, 0), (0, x1), (0, x2)]) (lsb_v (lsb_v (lsb_v lsb_e))) ?_
      exact ok_PB_ground_b75 C hlk hr x1 x2 7 d12_ hx1 hx2 (cK rfl) h
  · replace h := ite_f hc11_ h
    refine g_aload_n C 0 rfl (by decide +kernel) ?_
    refine g_iconst C 4 (cK rfl) (by decide +kernel) ?_
    refine g_putI C cl11 0 0 (cK rfl) rfl cd_A0 ⟨by decide, rfl, by decide⟩ rfl (nA (by decide)) (ix := 9) lk_467 rfl rfl (by decide +kernel) ?_
    refine g_goto C 78 (off := 25) (by decide +kernel) (by decide) ?_
    refine g_sub (lo2 := [(2, 0), (0, x1), (0, x2)]) (lsb_v (lsb_v (lsb_v lsb_e))) ?_
    exact ok_PB_ground_b78 C hlk hr x1 x2 (up2 d7_ 0 0 4) hx1 hx2 h
set_option maxHeartbeats 4000000 in
theorem ok_PB_ground_b30 {p : Program} {l : Launch} {e : Env} {s : State} {m : MethodId} {args : Array Value} {below : List Frame} {meth : Method} {c : Code} {D : va_G} {cA : Nat → ClassId} {ad : Nat → Nat} {A : Nat → Prop} (C : Cx p s m args c prog_1_method_40_code 3 "PollBooks" D cA ad 0 A) (hlk : meth.locks = false) (hr : meth.sig.returnType = (some .int)) {r : Int} {d' : Dt} (x1 x2 : Int) (d : Dt) (hx1 : cb x1) (hx2 : c32 x2) (h : L_PB_ground_b30 x1 x2 d = some (r, d')) : G p l e rm_PB_ground s m args below meth c 0 0 (MQ below (fun _ => QC D cA ad 0 A (some .int) (some (0, r)) d') args s 0 0 A) 3 D cA ad 0 A 30 [(2, 0), (0, x1), (0, x2)] [] d := by
  unfold L_PB_ground_b30 at h
  refine g_aload_n C 0 rfl (by decide +kernel) ?_
  refine g_iconst C 1 (cK rfl) (by decide +kernel) ?_
  refine g_putI C cl11 0 0 (c32_cb (Or.inr rfl)) rfl cd_A0 ⟨by decide, rfl, by decide⟩ rfl (nA (by decide)) (ix := 9) lk_467 rfl rfl (by decide +kernel) ?_
  refine g_goto C 78 (off := 43) (by decide +kernel) (by decide) ?_
  refine g_sub (lo2 := [(2, 0), (0, x1), (0, x2)]) (lsb_v (lsb_v (lsb_v lsb_e))) ?_
  exact ok_PB_ground_b78 C hlk hr x1 x2 (up2 d 0 0 1) hx1 hx2 h
set_option maxHeartbeats 4000000 in
theorem ok_PB_ground {l : Launch} {r : Int} {d' : Dt} (p1 p2 : Int) (d : Dt) (hp1 : cb p1) (hp2 : c32 p2) (h : L_PB_ground p1 p2 d = some (r, d')) : MC l y_PB_ground prog_1_method_40_code 3 (some .int) rm_PB_ground 0 [(2, 0), (0, p1), (0, p2)] d (some (0, r)) d' := by
  refine MC.of (by decide) (Nat.le_of_ble_eq_true rfl) ?_
  intro p e s m args below meth c D cA ad A C hlk hr
  replace C : Cx p s m args c prog_1_method_40_code 3 "PollBooks" D cA ad 0 A := C
  show G p l e rm_PB_ground s m args below meth c 0 0 (MQ below (fun _ => QC D cA ad 0 A (some .int) (some (0, r)) d') args s 0 0 A) 3 D cA ad 0 A 0 [(2, 0), (0, p1), (0, p2)] [] d
  refine g_sub (lo2 := [(2, 0), (0, p1), (0, p2)]) (lsb_v (lsb_v (lsb_v lsb_e))) ?_
  unfold L_PB_ground at h
  refine g_iload_n C 1 rfl (by decide +kernel) ?_
  refine g_if_eq C (off := 17) (tgt := 18) (c32_cb hp1) (by decide +kernel) (by decide) (fun hc17_ => ?_) (fun hc17_ => ?_)
  · replace h := ite_t hc17_ h
    refine g_aload_n C 0 rfl (by decide +kernel) ?_
    refine g_getR C cl11 0 6 37 rfl cd_A0 ⟨by decide, rfl, by decide⟩ rfl rfl (nA (by decide)) (ix := 55) lk_473 (by decide +kernel) ?_
    refine g_iconst C 0 (cK rfl) (by decide +kernel) ?_
    refine g_iload_n C 2 rfl (by decide +kernel) ?_
    obtain ⟨r19_, d18_, hr20_, h⟩ := bd_some h
    refine g_callV C mw_Bo_has [(0, 0), (0, p2)] 37 cl0 rfl (ok_Bo_has 0 p2 d (c32_cb (Or.inl rfl)) hp2 hr20_) cd_A37 (by decide) (nA (by decide)) (ix := 301) lk_1046 lk_1047 lk_1048 ⟨rfl, rfl, Nat.le_of_ble_eq_true rfl, Nat.le_of_ble_eq_true rfl⟩ rfl (rest := []) rfl (Nat.le_of_ble_eq_true rfl) ⟨Nat.zero_le _, Nat.zero_le _⟩ (by decide +kernel) (fun _ hc21_ => ?_)
    replace hc21_ : cb r19_ := hc21_
    refine g_st (st2 := [(0, r19_)]) rfl ?_
    refine g_if_ne C (off := 11) (tgt := 38) (c32_cb hc21_) (by decide +kernel) (by decide) (fun hc22_ => ?_) (fun hc22_ => ?_)
    · replace h := ite_t hc22_ h
      refine g_sub (lo2 := [(2, 0), (0, p1), (0, p2)]) (lsb_v (lsb_v (lsb_v lsb_e))) ?_
      exact ok_PB_ground_b30 C hlk hr p1 p2 d18_ hp1 hp2 h
    · replace h := ite_f hc22_ h
      refine g_sub (lo2 := [(2, 0), (0, p1), (0, p2)]) (lsb_v (lsb_v (lsb_v lsb_e))) ?_
      exact ok_PB_ground_b38 C hlk hr p1 p2 d18_ hp1 hp2 h
  · replace h := ite_f hc17_ h
    refine g_aload_n C 0 rfl (by decide +kernel) ?_
    refine g_getR C cl11 0 7 49 rfl cd_A0 ⟨by decide, rfl, by decide⟩ rfl rfl (nA (by decide)) (ix := 64) lk_474 (by decide +kernel) ?_
    refine g_iload_n C 2 rfl (by decide +kernel) ?_
    obtain ⟨r24_, d23_, hr25_, h⟩ := bd_some h
    refine g_callV C mw_Po_hasOffer [(0, p2)] 49 cl6 rfl (ok_Po_hasOffer p2 d hp2 hr25_) cd_A49 (by decide) (nA (by decide)) (ix := 342) lk_1147 lk_1148 lk_1149 ⟨rfl, rfl, Nat.le_of_ble_eq_true rfl, Nat.le_of_ble_eq_true rfl⟩ rfl (rest := []) rfl (Nat.le_of_ble_eq_true rfl) ⟨Nat.zero_le _, Nat.zero_le _⟩ (by decide +kernel) (fun _ hc26_ => ?_)
    replace hc26_ : cb r24_ := hc26_
    refine g_st (st2 := [(0, r24_)]) rfl ?_
    refine g_if_ne C (off := 26) (tgt := 38) (c32_cb hc26_) (by decide +kernel) (by decide) (fun hc27_ => ?_) (fun hc27_ => ?_)
    · replace h := ite_t hc27_ h
      refine g_goto C 30 (off := 15) (by decide +kernel) (by decide) ?_
      refine g_sub (lo2 := [(2, 0), (0, p1), (0, p2)]) (lsb_v (lsb_v (lsb_v lsb_e))) ?_
      exact ok_PB_ground_b30 C hlk hr p1 p2 d23_ hp1 hp2 h
    · replace h := ite_f hc27_ h
      refine g_sub (lo2 := [(2, 0), (0, p1), (0, p2)]) (lsb_v (lsb_v (lsb_v lsb_e))) ?_
      exact ok_PB_ground_b38 C hlk hr p1 p2 d23_ hp1 hp2 h
/-! PollBooks$Grounds.has(I)Z -/
def y_Gr_has : MethodName := ⟨"PollBooks$Grounds", "has", "(I)Z"⟩
def rm_Gr_has : Room := { frames := 0, cells := 0, slots := 0, locals := 0 }
theorem mw_Gr_has : MW y_Gr_has prog_3_method_3_code 2 (some .boolean) 1 := ⟨lk_1201, lk_11, by decide +kernel⟩
def L_Gr_has (p1 : Int) (d : Dt) : Option (Int × Dt) :=
  if p1 < 0 then some (0, d) else if p1 < (d 58 5) then some (1, d) else some (0, d)
set_option maxHeartbeats 4000000 in
theorem ok_Gr_has {l : Launch} {r : Int} {d' : Dt} (p1 : Int) (d : Dt) (hp1 : c32 p1) (h : L_Gr_has p1 d = some (r, d')) : MC l y_Gr_has prog_3_method_3_code 2 (some .boolean) rm_Gr_has 0 [(2, 58), (0, p1)] d (some (0, r)) d' := by
  refine MC.of (by decide) (Nat.le_of_ble_eq_true rfl) ?_
  intro p e s m args below meth c D cA ad A C hlk hr
  replace C : Cx p s m args c prog_3_method_3_code 2 "PollBooks$Grounds" D cA ad 0 A := C
  show G p l e rm_Gr_has s m args below meth c 0 0 (MQ below (fun _ => QC D cA ad 0 A (some .boolean) (some (0, r)) d') args s 0 0 A) 2 D cA ad 0 A 0 [(2, 58), (0, p1)] [] d
  refine g_sub (lo2 := [(2, 58), (0, p1)]) (lsb_v (lsb_v lsb_e)) ?_
  unfold L_Gr_has at h
  refine g_iload_n C 1 rfl (by decide +kernel) ?_
  refine g_if_lt C (off := 15) (tgt := 16) hp1 (by decide +kernel) (by decide) (fun hc1_ => ?_) (fun hc1_ => ?_)
  · replace h := ite_t hc1_ h
    refine g_iconst C 0 (cK rfl) (by decide +kernel) ?_
    obtain ⟨rfl, rfl⟩ := ret_inj h
    exact g_zret C (Or.inl rfl) hlk hr (by decide +kernel)
  · replace h := ite_f hc1_ h
    refine g_iload_n C 1 rfl (by decide +kernel) ?_
    refine g_aload_n C 0 rfl (by decide +kernel) ?_
    refine g_getI C cl1 58 5 rfl cd_A58 ⟨by decide, rfl, by decide⟩ rfl (nA (by decide)) (ix := 36) lk_372 (by decide +kernel) (fun hc2_ => ?_)
    refine g_icmp_ge C (off := 7) (tgt := 16) hp1 hc2_ (by decide +kernel) (by decide) (fun hc3_ => ?_) (fun hc3_ => ?_)
    · replace h := ite_t hc3_ h
      refine g_iconst C 1 (cK rfl) (by decide +kernel) ?_
      refine g_goto C 17 (off := 4) (by decide +kernel) (by decide) ?_
      obtain ⟨rfl, rfl⟩ := ret_inj h
      exact g_zret C (Or.inr rfl) hlk hr (by decide +kernel)
    · replace h := ite_f hc3_ h
      refine g_iconst C 0 (cK rfl) (by decide +kernel) ?_
      obtain ⟨rfl, rfl⟩ := ret_inj h
      exact g_zret C (Or.inl rfl) hlk hr (by decide +kernel)
/-! PollBooks$Grounds.areRivals(II)Z -/
def y_Gr_areRivals : MethodName := ⟨"PollBooks$Grounds", "areRivals", "(II)Z"⟩
def rm_Gr_areRivals : Room := { frames := 0, cells := 0, slots := 0, locals := 0 }
theorem mw_Gr_areRivals : MW y_Gr_areRivals prog_3_method_6_code 3 (some .boolean) 2 := ⟨lk_1205, lk_11, by decide +kernel⟩
def L_Gr_areRivals (p1 p2 : Int) (d : Dt) : Option (Int × Dt) :=
  ck ((0 : Int) ≤ p1 ∧ p1 < 10) (if (iand (ishr (d 61 p1.toNat) p2) 1) = 0 then some (0, d) else some (1, d))
set_option maxHeartbeats 4000000 in
theorem ok_Gr_areRivals {l : Launch} {r : Int} {d' : Dt} (p1 p2 : Int) (d : Dt) (hp1 : c32 p1) (hp2 : c32 p2) (h : L_Gr_areRivals p1 p2 d = some (r, d')) : MC l y_Gr_areRivals prog_3_method_6_code 3 (some .boolean) rm_Gr_areRivals 0 [(2, 58), (0, p1), (0, p2)] d (some (0, r)) d' := by
  refine MC.of (by decide) (Nat.le_of_ble_eq_true rfl) ?_
  intro p e s m args below meth c D cA ad A C hlk hr
  replace C : Cx p s m args c prog_3_method_6_code 3 "PollBooks$Grounds" D cA ad 0 A := C
  show G p l e rm_Gr_areRivals s m args below meth c 0 0 (MQ below (fun _ => QC D cA ad 0 A (some .boolean) (some (0, r)) d') args s 0 0 A) 3 D cA ad 0 A 0 [(2, 58), (0, p1), (0, p2)] [] d
  refine g_sub (lo2 := [(2, 58), (0, p1), (0, p2)]) (lsb_v (lsb_v (lsb_v lsb_e))) ?_
  unfold L_Gr_areRivals at h
  refine g_aload_n C 0 rfl (by decide +kernel) ?_
  refine g_getR C cl1 58 4 61 rfl cd_A58 ⟨by decide, rfl, by decide⟩ rfl rfl (nA (by decide)) (ix := 19) lk_371 (by decide +kernel) ?_
  refine g_iload_n C 1 rfl (by decide +kernel) ?_
  obtain ⟨hb1_, h⟩ := ck_some h
  refine g_iald C 61 hp1 rfl cd_A61 (nA (by decide)) hb1_ (by decide +kernel) (fun hc2_ => ?_)
  refine g_iload_n C 2 rfl (by decide +kernel) ?_
  refine g_ishr C (by decide +kernel) ?_
  refine g_iconst C 1 (cK rfl) (by decide +kernel) ?_
  refine g_iand C (by decide +kernel) ?_
  refine g_if_eq C (off := 7) (tgt := 17) (i_c _) (by decide +kernel) (by decide) (fun hc3_ => ?_) (fun hc3_ => ?_)
  · replace h := ite_t hc3_ h
    refine g_iconst C 0 (cK rfl) (by decide +kernel) ?_
    obtain ⟨rfl, rfl⟩ := ret_inj h
    exact g_zret C (Or.inl rfl) hlk hr (by decide +kernel)
  · replace h := ite_f hc3_ h
    refine g_iconst C 1 (cK rfl) (by decide +kernel) ?_
    refine g_goto C 18 (off := 4) (by decide +kernel) (by decide) ?_
    obtain ⟨rfl, rfl⟩ := ret_inj h
    exact g_zret C (Or.inr rfl) hlk hr (by decide +kernel)
/-! PollBooks$Grounds.setRivals(II)V -/
def y_Gr_setRivals : MethodName := ⟨"PollBooks$Grounds", "setRivals", "(II)V"⟩
def rm_Gr_setRivals : Room := { frames := 0, cells := 0, slots := 0, locals := 0 }
theorem mw_Gr_setRivals : MW y_Gr_setRivals prog_3_method_7_code 3 none 2 := ⟨lk_1209, lk_11, by decide +kernel⟩
def L_Gr_setRivals (p1 p2 : Int) (d : Dt) : Option (Int × Dt) :=
  ck ((0 : Int) ≤ p1 ∧ p1 < 10) (ck ((0 : Int) ≤ p1 ∧ p1 < 10) (ck ((0 : Int) ≤ p2 ∧ p2 < 10) (ck ((0 : Int) ≤ p2 ∧ p2 < 10) (some (0, (up2 (up2 d 61 p1.toNat (ior (d 61 p1.toNat) (ishl 1 p2))) 61 p2.toNat (ior ((up2 d 61 p1.toNat (ior (d 61 p1.toNat) (ishl 1 p2))) 61 p2.toNat) (ishl 1 p1))))))))
set_option maxHeartbeats 4000000 in
theorem ok_Gr_setRivals {l : Launch} {r : Int} {d' : Dt} (p1 p2 : Int) (d : Dt) (hp1 : c32 p1) (hp2 : c32 p2) (h : L_Gr_setRivals p1 p2 d = some (r, d')) : MC l y_Gr_setRivals prog_3_method_7_code 3 none rm_Gr_setRivals 0 [(2, 58), (0, p1), (0, p2)] d none d' := by
  refine MC.of (by decide) (Nat.le_of_ble_eq_true rfl) ?_
  intro p e s m args below meth c D cA ad A C hlk hr
  replace C : Cx p s m args c prog_3_method_7_code 3 "PollBooks$Grounds" D cA ad 0 A := C
  show G p l e rm_Gr_setRivals s m args below meth c 0 0 (MQ below (fun _ => QC D cA ad 0 A none none d') args s 0 0 A) 3 D cA ad 0 A 0 [(2, 58), (0, p1), (0, p2)] [] d
  refine g_sub (lo2 := [(2, 58), (0, p1), (0, p2)]) (lsb_v (lsb_v (lsb_v lsb_e))) ?_
  unfold L_Gr_setRivals at h
  refine g_aload_n C 0 rfl (by decide +kernel) ?_
  refine g_getR C cl1 58 4 61 rfl cd_A58 ⟨by decide, rfl, by decide⟩ rfl rfl (nA (by decide)) (ix := 19) lk_371 (by decide +kernel) ?_
  refine g_iload_n C 1 rfl (by decide +kernel) ?_
  refine g_dup2 C tg0 tg2 (by decide +kernel) ?_
  obtain ⟨hb1_, h⟩ := ck_some h
  refine g_iald C 61 hp1 rfl cd_A61 (nA (by decide)) hb1_ (by decide +kernel) (fun hc2_ => ?_)
  refine g_iconst C 1 (cK rfl) (by decide +kernel) ?_
  refine g_iload_n C 2 rfl (by decide +kernel) ?_
  refine g_ishl C (by decide +kernel) ?_
  refine g_ior C (by decide +kernel) ?_
  obtain ⟨hb3_, h⟩ := ck_some h
  refine g_iast C 61 (i_c _) hp1 rfl cd_A61 (nA (by decide)) hb3_ (by decide +kernel) ?_
  refine g_aload_n C 0 rfl (by decide +kernel) ?_
  refine g_getR C cl1 58 4 61 rfl cd_A58 ⟨by decide, rfl, by decide⟩ rfl rfl (nA (by decide)) (ix := 19) lk_371 (by decide +kernel) ?_
  refine g_iload_n C 2 rfl (by decide +kernel) ?_
  refine g_dup2 C tg0 tg2 (by decide +kernel) ?_
  obtain ⟨hb4_, h⟩ := ck_some h
  refine g_iald C 61 hp2 rfl cd_A61 (nA (by decide)) hb4_ (by decide +kernel) (fun hc5_ => ?_)
  refine g_iconst C 1 (cK rfl) (by decide +kernel) ?_
  refine g_iload_n C 1 rfl (by decide +kernel) ?_
  refine g_ishl C (by decide +kernel) ?_
  refine g_ior C (by decide +kernel) ?_
  obtain ⟨hb6_, h⟩ := ck_some h
  refine g_iast C 61 (i_c _) hp2 rfl cd_A61 (nA (by decide)) hb6_ (by decide +kernel) ?_
  obtain ⟨rfl, rfl⟩ := ret_inj h
  exact g_vret C hlk hr (by decide +kernel)
/-! PollBooks.against(II)Z -/
def y_PB_against : MethodName := ⟨"PollBooks", "against", "(II)Z"⟩
def rm_PB_against : Room := { frames := 1, cells := 0, slots := 0, locals := 22 }
theorem mw_PB_against : MW y_PB_against prog_1_method_41_code 4 (some .boolean) 2 := ⟨lk_1197, lk_1, by decide +kernel⟩
def L_PB_against_b79 (d : Dt) : Option (Int × Dt) :=
  if (d 0 0) = 0 then some (1, d) else some (0, d)
def L_PB_against_b60 (x1 x2 s1 : Int) (d : Dt) : Option (Int × Dt) :=
  if s1 = 0 then bd (L_Gr_setRivals x1 x2 (up2 d 0 0 s1)) (fun r6_ d5_ => L_PB_against_b79 d5_) else L_PB_against_b79 (up2 d 0 0 s1)
def L_PB_against_b32 (x1 x2 s0 : Int) (d : Dt) : Option (Int × Dt) :=
  if s0 = 0 then L_PB_against_b60 x1 x2 1 d else bd (L_Gr_areRivals x1 x2 d) (fun r11_ d10_ => if r11_ = 0 then L_PB_against_b60 x1 x2 0 d10_ else L_PB_against_b60 x1 x2 7 d10_)
def L_PB_against (p1 p2 : Int) (d : Dt) : Option (Int × Dt) :=
  bd (L_Gr_has p1 d) (fun r16_ d15_ => if r16_ = 0 then L_PB_against_b32 p1 p2 0 d15_ else bd (L_Gr_has p2 d15_) (fun r21_ d20_ => if r21_ = 0 then L_PB_against_b32 p1 p2 0 d20_ else if p1 = p2 then L_PB_against_b32 p1 p2 0 d20_ else L_PB_against_b32 p1 p2 1 d20_))
set_option maxHeartbeats 4000000 in
theorem ok_PB_against_b79 {p : Program} {l : Launch} {e : Env} {s : State} {m : MethodId} {args : Array Value} {below : List Frame} {meth : Method} {c : Code} {D : va_G} {cA : Nat → ClassId} {ad : Nat → Nat} {A : Nat → Prop} (C : Cx p s m args c prog_1_method_41_code 4 "PollBooks" D cA ad 0 A) (hlk : meth.locks = false) (hr : meth.sig.returnType = (some .boolean)) {r : Int} {d' : Dt} (d : Dt)  (h : L_PB_against_b79 d = some (r, d')) : G p l e rm_PB_against s m args below meth c 0 0 (MQ below (fun _ => QC D cA ad 0 A (some .boolean) (some (0, r)) d') args s 0 0 A) 4 D cA ad 0 A 79 [(2, 0), (9, 0), (9, 0), (9, 0)] [] d := by
  unfold L_PB_against_b79 at h
  refine g_aload_n C 0 rfl (by decide +kernel) ?_
  refine g_getI C cl11 0 0 rfl cd_A0 ⟨by decide, rfl, by decide⟩ rfl (nA (by decide)) (ix := 9) lk_467 (by decide +kernel) (fun hc1_ => ?_)
  refine g_if_ne C (off := 7) (tgt := 90) hc1_ (by decide +kernel) (by decide) (fun hc2_ => ?_) (fun hc2_ => ?_)
  · replace h := ite_t hc2_ h
    refine g_iconst C 1 (cK rfl) (by decide +kernel) ?_
    refine g_goto C 91 (off := 4) (by decide +kernel) (by decide) ?_
    obtain ⟨rfl, rfl⟩ := ret_inj h
    exact g_zret C (Or.inr rfl) hlk hr (by decide +kernel)
  · replace h := ite_f hc2_ h
    refine g_iconst C 0 (cK rfl) (by decide +kernel) ?_
    obtain ⟨rfl, rfl⟩ := ret_inj h
    exact g_zret C (Or.inl rfl) hlk hr (by decide +kernel)
set_option maxHeartbeats 4000000 in
theorem ok_PB_against_b60 {p : Program} {l : Launch} {e : Env} {s : State} {m : MethodId} {args : Array Value} {below : List Frame} {meth : Method} {c : Code} {D : va_G} {cA : Nat → ClassId} {ad : Nat → Nat} {A : Nat → Prop} (C : Cx p s m args c prog_1_method_41_code 4 "PollBooks" D cA ad 0 A) (hlk : meth.locks = false) (hr : meth.sig.returnType = (some .boolean)) {r : Int} {d' : Dt} (x1 x2 s1 : Int) (d : Dt) (hx1 : c32 x1) (hx2 : c32 x2) (hs1 : c32 s1) (h : L_PB_against_b60 x1 x2 s1 d = some (r, d')) : G p l e rm_PB_against s m args below meth c 0 0 (MQ below (fun _ => QC D cA ad 0 A (some .boolean) (some (0, r)) d') args s 0 0 A) 4 D cA ad 0 A 60 [(2, 0), (0, x1), (0, x2), (9, 0)] [(0, s1), (2, 0)] d := by
  unfold L_PB_against_b60 at h
  refine g_putI C cl11 0 0 hs1 rfl cd_A0 ⟨by decide, rfl, by decide⟩ rfl (nA (by decide)) (ix := 9) lk_467 rfl rfl (by decide +kernel) ?_
  refine g_aload_n C 0 rfl (by decide +kernel) ?_
  refine g_getI C cl11 0 0 rfl cd_A0 ⟨by decide, rfl, by decide⟩ rfl (nA (by decide)) (ix := 9) lk_467 (by decide +kernel) (fun hc3_ => ?_)
  refine g_val (y := s1) rfl ?_
  replace hc3_ : c32 s1 := hc3_
  refine g_if_ne C (off := 12) (tgt := 79) hc3_ (by decide +kernel) (by decide) (fun hc4_ => ?_) (fun hc4_ => ?_)
  · replace h := ite_t hc4_ h
    refine g_aload_n C 0 rfl (by decide +kernel) ?_
    refine g_getR C cl11 0 8 58 rfl cd_A0 ⟨by decide, rfl, by decide⟩ rfl rfl (nA (by decide)) (ix := 73) lk_475 (by decide +kernel) ?_
    refine g_iload_n C 1 rfl (by decide +kernel) ?_
    refine g_iload_n C 2 rfl (by decide +kernel) ?_
    obtain ⟨r6_, d5_, hr7_, h⟩ := bd_some h
    refine g_callV C mw_Gr_setRivals [(0, x1), (0, x2)] 58 cl1 rfl (ok_Gr_setRivals x1 x2 (up2 d 0 0 s1) hx1 hx2 hr7_) cd_A58 (by decide) (nA (by decide)) (ix := 374) lk_1206 lk_1207 lk_1208 ⟨rfl, rfl, Nat.le_of_ble_eq_true rfl, Nat.le_of_ble_eq_true rfl⟩ rfl (rest := []) rfl (Nat.le_of_ble_eq_true rfl) ⟨Nat.zero_le _, Nat.zero_le _⟩ (by decide +kernel) (fun _ hc8_ => ?_)
    refine g_st (st2 := []) rfl ?_
    refine g_sub (lo2 := [(2, 0), (9, 0), (9, 0), (9, 0)]) (lsb_v (lsb_c (lsb_c (lsb_c lsb_e)))) ?_
    exact ok_PB_against_b79 C hlk hr d5_  h
  · replace h := ite_f hc4_ h
    refine g_sub (lo2 := [(2, 0), (9, 0), (9, 0), (9, 0)]) (lsb_v (lsb_c (lsb_c (lsb_c lsb_e)))) ?_
    exact ok_PB_against_b79 C hlk hr (up2 d 0 0 s1)  h
set_option maxHeartbeats 4000000 in
theorem ok_PB_against_b32 {p : Program} {l : Launch} {e : Env} {s : State} {m : MethodId} {args : Array Value} {below : List Frame} {meth : Method} {c : Code} {D : va_G} {cA : Nat → ClassId} {ad : Nat → Nat} {A : Nat → Prop} (C : Cx p s m args c prog_1_method_41_code 4 "PollBooks" D cA ad 0 A) (hlk : meth.locks = false) (hr : meth.sig.returnType = (some .boolean)) {r : Int} {d' : Dt} (x1 x2 s0 : Int) (d : Dt) (hx1 : c32 x1) (hx2 : c32 x2) (hs0 : cb s0) (h : L_PB_against_b32 x1 x2 s0 d = some (r, d')) : G p l e rm_PB_against s m args below meth c 0 0 (MQ below (fun _ => QC D cA ad 0 A (some .boolean) (some (0, r)) d') args s 0 0 A) 4 D cA ad 0 A 32 [(2, 0), (0, x1), (0, x2), (9, 0)] [(0, s0)] d := by
  unfold L_PB_against_b32 at h
  refine s_istore_n C 3 (lo' := [(2, 0), (0, x1), (0, x2), (0, s0)]) (by decide) (s1k (s1k (s1n (by decide) s1z))) (by decide +kernel) ?_
  refine g_aload_n C 0 rfl (by decide +kernel) ?_
  refine g_iload_n C 3 rfl (by decide +kernel) ?_
  refine g_if_ne C (off := 7) (tgt := 42) (c32_cb hs0) (by decide +kernel) (by decide) (fun hc9_ => ?_) (fun hc9_ => ?_)
  · replace h := ite_t hc9_ h
    refine g_iconst C 1 (cK rfl) (by decide +kernel) ?_
    refine g_goto C 60 (off := 21) (by decide +kernel) (by decide) ?_
    refine g_sub (lo2 := [(2, 0), (0, x1), (0, x2), (9, 0)]) (lsb_v (lsb_v (lsb_v (lsb_c lsb_e)))) ?_
    exact ok_PB_against_b60 C hlk hr x1 x2 1 d hx1 hx2 (c32_cb (Or.inr rfl)) h
  · replace h := ite_f hc9_ h
    refine g_aload_n C 0 rfl (by decide +kernel) ?_
    refine g_getR C cl11 0 8 58 rfl cd_A0 ⟨by decide, rfl, by decide⟩ rfl rfl (nA (by decide)) (ix := 73) lk_475 (by decide +kernel) ?_
    refine g_iload_n C 1 rfl (by decide +kernel) ?_
    refine g_iload_n C 2 rfl (by decide +kernel) ?_
    obtain ⟨r11_, d10_, hr12_, h⟩ := bd_some h
    refine g_callV C mw_Gr_areRivals [(0, x1), (0, x2)] 58 cl1 rfl (ok_Gr_areRivals x1 x2 d hx1 hx2 hr12_) cd_A58 (by decide) (nA (by decide)) (ix := 371) lk_1202 lk_1203 lk_1204 ⟨rfl, rfl, Nat.le_of_ble_eq_true rfl, Nat.le_of_ble_eq_true rfl⟩ rfl (rest := [(2, 0)]) rfl (Nat.le_of_ble_eq_true rfl) ⟨Nat.zero_le _, Nat.zero_le _⟩ (by decide +kernel) (fun _ hc13_ => ?_)
    replace hc13_ : cb r11_ := hc13_
    refine g_st (st2 := [(0, r11_), (2, 0)]) rfl ?_
    refine g_if_eq C (off := 8) (tgt := 59) (c32_cb hc13_) (by decide +kernel) (by decide) (fun hc14_ => ?_) (fun hc14_ => ?_)
    · replace h := ite_t hc14_ h
      refine g_iconst C 0 (cK rfl) (by decide +kernel) ?_
      refine g_sub (lo2 := [(2, 0), (0, x1), (0, x2), (9, 0)]) (lsb_v (lsb_v (lsb_v (lsb_c lsb_e)))) ?_
      exact ok_PB_against_b60 C hlk hr x1 x2 0 d10_ hx1 hx2 (c32_cb (Or.inl rfl)) h
    · replace h := ite_f hc14_ h
      refine g_bipush C 7 (by decide) (by decide +kernel) ?_
      refine g_goto C 60 (off := 4) (by decide +kernel) (by decide) ?_
      refine g_sub (lo2 := [(2, 0), (0, x1), (0, x2), (9, 0)]) (lsb_v (lsb_v (lsb_v (lsb_c lsb_e)))) ?_
      exact ok_PB_against_b60 C hlk hr x1 x2 7 d10_ hx1 hx2 (cK rfl) h
set_option maxHeartbeats 4000000 in
theorem ok_PB_against {l : Launch} {r : Int} {d' : Dt} (p1 p2 : Int) (d : Dt) (hp1 : c32 p1) (hp2 : c32 p2) (h : L_PB_against p1 p2 d = some (r, d')) : MC l y_PB_against prog_1_method_41_code 4 (some .boolean) rm_PB_against 0 [(2, 0), (0, p1), (0, p2)] d (some (0, r)) d' := by
  refine MC.of (by decide) (Nat.le_of_ble_eq_true rfl) ?_
  intro p e s m args below meth c D cA ad A C hlk hr
  replace C : Cx p s m args c prog_1_method_41_code 4 "PollBooks" D cA ad 0 A := C
  show G p l e rm_PB_against s m args below meth c 0 0 (MQ below (fun _ => QC D cA ad 0 A (some .boolean) (some (0, r)) d') args s 0 0 A) 4 D cA ad 0 A 0 [(2, 0), (0, p1), (0, p2)] [] d
  refine g_sub (lo2 := [(2, 0), (0, p1), (0, p2), (9, 0)]) (lsb_v (lsb_v (lsb_v (lsb_n lsb_e)))) ?_
  unfold L_PB_against at h
  refine g_aload_n C 0 rfl (by decide +kernel) ?_
  refine g_getR C cl11 0 8 58 rfl cd_A0 ⟨by decide, rfl, by decide⟩ rfl rfl (nA (by decide)) (ix := 73) lk_475 (by decide +kernel) ?_
  refine g_iload_n C 1 rfl (by decide +kernel) ?_
  obtain ⟨r16_, d15_, hr17_, h⟩ := bd_some h
  refine g_callV C mw_Gr_has [(0, p1)] 58 cl1 rfl (ok_Gr_has p1 d hp1 hr17_) cd_A58 (by decide) (nA (by decide)) (ix := 370) lk_1198 lk_1199 lk_1200 ⟨rfl, rfl, Nat.le_of_ble_eq_true rfl, Nat.le_of_ble_eq_true rfl⟩ rfl (rest := []) rfl (Nat.le_of_ble_eq_true rfl) ⟨Nat.zero_le _, Nat.zero_le _⟩ (by decide +kernel) (fun _ hc18_ => ?_)
  replace hc18_ : cb r16_ := hc18_
  refine g_st (st2 := [(0, r16_)]) rfl ?_
  refine g_if_eq C (off := 23) (tgt := 31) (c32_cb hc18_) (by decide +kernel) (by decide) (fun hc19_ => ?_) (fun hc19_ => ?_)
  · replace h := ite_t hc19_ h
    refine g_iconst C 0 (cK rfl) (by decide +kernel) ?_
    refine g_sub (lo2 := [(2, 0), (0, p1), (0, p2), (9, 0)]) (lsb_v (lsb_v (lsb_v (lsb_c lsb_e)))) ?_
    exact ok_PB_against_b32 C hlk hr p1 p2 0 d15_ hp1 hp2 (Or.inl rfl) h
  · replace h := ite_f hc19_ h
    refine g_aload_n C 0 rfl (by decide +kernel) ?_
    refine g_getR C cl11 0 8 58 rfl cd_A0 ⟨by decide, rfl, by decide⟩ rfl rfl (nA (by decide)) (ix := 73) lk_475 (by decide +kernel) ?_
    refine g_iload_n C 2 rfl (by decide +kernel) ?_
    obtain ⟨r21_, d20_, hr22_, h⟩ := bd_some h
    refine g_callV C mw_Gr_has [(0, p2)] 58 cl1 rfl (ok_Gr_has p2 d15_ hp2 hr22_) cd_A58 (by decide) (nA (by decide)) (ix := 370) lk_1198 lk_1199 lk_1200 ⟨rfl, rfl, Nat.le_of_ble_eq_true rfl, Nat.le_of_ble_eq_true rfl⟩ rfl (rest := []) rfl (Nat.le_of_ble_eq_true rfl) ⟨Nat.zero_le _, Nat.zero_le _⟩ (by decide +kernel) (fun _ hc23_ => ?_)
    replace hc23_ : cb r21_ := hc23_
    refine g_st (st2 := [(0, r21_)]) rfl ?_
    refine g_if_eq C (off := 12) (tgt := 31) (c32_cb hc23_) (by decide +kernel) (by decide) (fun hc24_ => ?_) (fun hc24_ => ?_)
    · replace h := ite_t hc24_ h
      refine g_iconst C 0 (cK rfl) (by decide +kernel) ?_
      refine g_sub (lo2 := [(2, 0), (0, p1), (0, p2), (9, 0)]) (lsb_v (lsb_v (lsb_v (lsb_c lsb_e)))) ?_
      exact ok_PB_against_b32 C hlk hr p1 p2 0 d20_ hp1 hp2 (Or.inl rfl) h
    · replace h := ite_f hc24_ h
      refine g_iload_n C 1 rfl (by decide +kernel) ?_
      refine g_iload_n C 2 rfl (by decide +kernel) ?_
      refine g_icmp_eq C (off := 7) (tgt := 31) hp1 hp2 (by decide +kernel) (by decide) (fun hc25_ => ?_) (fun hc25_ => ?_)
      · replace h := ite_t hc25_ h
        refine g_iconst C 0 (cK rfl) (by decide +kernel) ?_
        refine g_sub (lo2 := [(2, 0), (0, p1), (0, p2), (9, 0)]) (lsb_v (lsb_v (lsb_v (lsb_c lsb_e)))) ?_
        exact ok_PB_against_b32 C hlk hr p1 p2 0 d20_ hp1 hp2 (Or.inl rfl) h
      · replace h := ite_f hc25_ h
        refine g_iconst C 1 (cK rfl) (by decide +kernel) ?_
        refine g_goto C 32 (off := 4) (by decide +kernel) (by decide) ?_
        refine g_sub (lo2 := [(2, 0), (0, p1), (0, p2), (9, 0)]) (lsb_v (lsb_v (lsb_v (lsb_c lsb_e)))) ?_
        exact ok_PB_against_b32 C hlk hr p1 p2 1 d20_ hp1 hp2 (Or.inr rfl) h
/-! PollBooks$Grounds.isSetOfThem(I)Z -/
def y_Gr_isSetOfThem : MethodName := ⟨"PollBooks$Grounds", "isSetOfThem", "(I)Z"⟩
def rm_Gr_isSetOfThem : Room := { frames := 0, cells := 0, slots := 0, locals := 0 }
theorem mw_Gr_isSetOfThem : MW y_Gr_isSetOfThem prog_3_method_8_code 2 (some .boolean) 1 := ⟨lk_1217, lk_11, by decide +kernel⟩
def L_Gr_isSetOfThem (p1 : Int) (d : Dt) : Option (Int × Dt) :=
  if p1 < 0 then some (0, d) else if p1 < (ishl 1 (d 58 5)) then some (1, d) else some (0, d)
set_option maxHeartbeats 4000000 in
theorem ok_Gr_isSetOfThem {l : Launch} {r : Int} {d' : Dt} (p1 : Int) (d : Dt) (hp1 : c32 p1) (h : L_Gr_isSetOfThem p1 d = some (r, d')) : MC l y_Gr_isSetOfThem prog_3_method_8_code 2 (some .boolean) rm_Gr_isSetOfThem 0 [(2, 58), (0, p1)] d (some (0, r)) d' := by
  refine MC.of (by decide) (Nat.le_of_ble_eq_true rfl) ?_
  intro p e s m args below meth c D cA ad A C hlk hr
  replace C : Cx p s m args c prog_3_method_8_code 2 "PollBooks$Grounds" D cA ad 0 A := C
  show G p l e rm_Gr_isSetOfThem s m args below meth c 0 0 (MQ below (fun _ => QC D cA ad 0 A (some .boolean) (some (0, r)) d') args s 0 0 A) 2 D cA ad 0 A 0 [(2, 58), (0, p1)] [] d
  refine g_sub (lo2 := [(2, 58), (0, p1)]) (lsb_v (lsb_v lsb_e)) ?_
  unfold L_Gr_isSetOfThem at h
  refine g_iload_n C 1 rfl (by decide +kernel) ?_
  refine g_if_lt C (off := 17) (tgt := 18) hp1 (by decide +kernel) (by decide) (fun hc1_ => ?_) (fun hc1_ => ?_)
  · replace h := ite_t hc1_ h
    refine g_iconst C 0 (cK rfl) (by decide +kernel) ?_
    obtain ⟨rfl, rfl⟩ := ret_inj h
    exact g_zret C (Or.inl rfl) hlk hr (by decide +kernel)
  · replace h := ite_f hc1_ h
    refine g_iload_n C 1 rfl (by decide +kernel) ?_
    refine g_iconst C 1 (cK rfl) (by decide +kernel) ?_
    refine g_aload_n C 0 rfl (by decide +kernel) ?_
    refine g_getI C cl1 58 5 rfl cd_A58 ⟨by decide, rfl, by decide⟩ rfl (nA (by decide)) (ix := 36) lk_372 (by decide +kernel) (fun hc2_ => ?_)
    refine g_ishl C (by decide +kernel) ?_
    refine g_icmp_ge C (off := 7) (tgt := 18) hp1 (i_c _) (by decide +kernel) (by decide) (fun hc3_ => ?_) (fun hc3_ => ?_)
    · replace h := ite_t hc3_ h
      refine g_iconst C 1 (cK rfl) (by decide +kernel) ?_
      refine g_goto C 19 (off := 4) (by decide +kernel) (by decide) ?_
      obtain ⟨rfl, rfl⟩ := ret_inj h
      exact g_zret C (Or.inr rfl) hlk hr (by decide +kernel)
    · replace h := ite_f hc3_ h
      refine g_iconst C 0 (cK rfl) (by decide +kernel) ?_
      obtain ⟨rfl, rfl⟩ := ret_inj h
      exact g_zret C (Or.inl rfl) hlk hr (by decide +kernel)
/-! PollBooks$Grounds.countWritten()V -/
def y_Gr_countWritten : MethodName := ⟨"PollBooks$Grounds", "countWritten", "()V"⟩
def rm_Gr_countWritten : Room := { frames := 4, cells := 0, slots := 0, locals := 94 }
theorem mw_Gr_countWritten : MW y_Gr_countWritten prog_3_method_10_code 2 none 0 := ⟨lk_1225, lk_11, by decide +kernel⟩
def L_Gr_countWritten_y2 (x1 : Int) (d : Dt) : Option ((Int × Dt) ⊕ ((Dt))) :=
  if x1 < 4 then bd (L_Bo_countJoined x1 d) (fun r3_ d2_ => ck ((0 : Int) ≤ x1 ∧ x1 < 4) (some (Sum.inl ((w32 (x1 + 1)), (up2 d2_ 63 x1.toNat r3_))))) else some (Sum.inr (d))
def L_Gr_countWritten_l2 (x1 : Int) (d : Dt) : Option ((Dt)) := lpF (fun q : Int × Dt => L_Gr_countWritten_y2 q.1 q.2) FU (x1, d)
def L_Gr_countWritten (d : Dt) : Option (Int × Dt) :=
  lb (L_Gr_countWritten_l2 0 d) (fun q11_ => u0 q11_ (fun d9_ => some (0, d9_)))
set_option maxHeartbeats 4000000 in
theorem ok_Gr_countWritten_y2 {p : Program} {l : Launch} {e : Env} {s : State} {m : MethodId} {args : Array Value} {below : List Frame} {meth : Method} {c : Code} {D : va_G} {cA : Nat → ClassId} {ad : Nat → Nat} {A : Nat → Prop} (C : Cx p s m args c prog_3_method_10_code 2 "PollBooks$Grounds" D cA ad 0 A) {Q : State → Prop} {o : (Int × Dt) ⊕ ((Dt))} (x1 : Int) (d : Dt) (hx1 : c32 x1) (h : L_Gr_countWritten_y2 x1 d = some o) (kb : ∀ (y0 : Int) (e' : Dt), o = .inl (y0, e') → c32 y0 → G p l e rm_Gr_countWritten s m args below meth c 0 0 Q 2 D cA ad 0 A 2 [(2, 58), (0, y0)] [] e') (k0 : ∀ (e' : Dt), o = .inr (e') → G p l e rm_Gr_countWritten s m args below meth c 0 0 Q 2 D cA ad 0 A 27 [(9, 0), (9, 0)] [] e') : G p l e rm_Gr_countWritten s m args below meth c 0 0 Q 2 D cA ad 0 A 2 [(2, 58), (0, x1)] [] d := by
  unfold L_Gr_countWritten_y2 at h
  refine g_iload_n C 1 rfl (by decide +kernel) ?_
  refine g_iconst C 4 (cK rfl) (by decide +kernel) ?_
  refine g_icmp_ge C (off := 23) (tgt := 27) hx1 (cK rfl) (by decide +kernel) (by decide) (fun hc1_ => ?_) (fun hc1_ => ?_)
  · replace h := ite_t hc1_ h
    refine g_aload_n C 0 rfl (by decide +kernel) ?_
    refine g_getR C cl1 58 7 63 rfl cd_A58 ⟨by decide, rfl, by decide⟩ rfl rfl (nA (by decide)) (ix := 25) lk_374 (by decide +kernel) ?_
    refine g_iload_n C 1 rfl (by decide +kernel) ?_
    refine g_aload_n C 0 rfl (by decide +kernel) ?_
    refine g_getR C cl1 58 0 37 rfl cd_A58 ⟨by decide, rfl, by decide⟩ rfl rfl (nA (by decide)) (ix := 28) lk_367 (by decide +kernel) ?_
    refine g_iload_n C 1 rfl (by decide +kernel) ?_
    obtain ⟨r3_, d2_, hr4_, h⟩ := bd_some h
    refine g_callV C mw_Bo_countJoined [(0, x1)] 37 cl0 rfl (ok_Bo_countJoined x1 d hx1 hr4_) cd_A37 (by decide) (nA (by decide)) (ix := 47) lk_1226 lk_1070 lk_1071 ⟨rfl, rfl, Nat.le_of_ble_eq_true rfl, Nat.le_of_ble_eq_true rfl⟩ rfl (rest := [(0, x1), (2, 63)]) rfl (Nat.le_of_ble_eq_true rfl) ⟨Nat.zero_le _, Nat.zero_le _⟩ (by decide +kernel) (fun _ hc5_ => ?_)
    replace hc5_ : c32 r3_ := hc5_
    refine g_st (st2 := [(0, r3_), (0, x1), (2, 63)]) rfl ?_
    obtain ⟨hb6_, h⟩ := ck_some h
    refine g_iast C 63 hc5_ hx1 rfl cd_A63 (nA (by decide)) hb6_ (by decide +kernel) ?_
    refine s_iinc C 1 1 (lo' := [(2, 58), (0, (w32 (x1 + 1)))]) rfl (by decide) (s1n (by decide) s1z) (by decide +kernel) ?_
    refine g_goto C 2 (off := (-22)) (by decide +kernel) (by decide) ?_
    refine g_sub (lo2 := [(2, 58), (0, (w32 (x1 + 1)))]) (lsb_v (lsb_v lsb_e)) ?_
    obtain rfl := Option.some.inj h
    exact kb (w32 (x1 + 1)) (up2 d2_ 63 x1.toNat r3_) rfl (w32_c _)
  · replace h := ite_f hc1_ h
    refine g_sub (lo2 := [(9, 0), (9, 0)]) (lsb_c (lsb_c lsb_e)) ?_
    obtain rfl := Option.some.inj h
    exact k0 d rfl 
set_option maxHeartbeats 4000000 in
theorem ok_Gr_countWritten_n2 {p : Program} {l : Launch} {e : Env} {s : State} {m : MethodId} {args : Array Value} {below : List Frame} {meth : Method} {c : Code} {D : va_G} {cA : Nat → ClassId} {ad : Nat → Nat} {A : Nat → Prop} (C : Cx p s m args c prog_3_method_10_code 2 "PollBooks$Grounds" D cA ad 0 A) {Q : State → Prop} {x : (Dt)} : ∀ (n : Nat) (x1 : Int) (d : Dt), c32 x1 → lpF (fun q : Int × Dt => L_Gr_countWritten_y2 q.1 q.2) n (x1, d) = some x → (∀ (e' : Dt), x = (e') → G p l e rm_Gr_countWritten s m args below meth c 0 0 Q 2 D cA ad 0 A 27 [(9, 0), (9, 0)] [] e') → G p l e rm_Gr_countWritten s m args below meth c 0 0 Q 2 D cA ad 0 A 2 [(2, 58), (0, x1)] [] d := by
  intro n
  induction n with
  | zero => intro x1 d g0 h k0; cases h
  | succ n ih =>
    intro x1 d g0 h k0
    rcases lpF_some h with h | ⟨⟨v0_, e0_⟩, h1, h⟩
    · exact ok_Gr_countWritten_y2 C x1 d g0 h (fun z0_ e1_ eq w0_ => by cases eq) (fun e1_ eq => k0 _ (by cases eq; rfl) )
    · exact ok_Gr_countWritten_y2 C x1 d g0 h1 (fun z0_ e1_ eq w0_ => by cases eq; exact ih _ _ w0_ h k0) (fun e1_ eq => by cases eq)
set_option maxHeartbeats 4000000 in
theorem ok_Gr_countWritten_l2 {p : Program} {l : Launch} {e : Env} {s : State} {m : MethodId} {args : Array Value} {below : List Frame} {meth : Method} {c : Code} {D : va_G} {cA : Nat → ClassId} {ad : Nat → Nat} {A : Nat → Prop} (C : Cx p s m args c prog_3_method_10_code 2 "PollBooks$Grounds" D cA ad 0 A) {Q : State → Prop} {x : (Dt)} (x1 : Int) (d : Dt) (hx1 : c32 x1) (h : L_Gr_countWritten_l2 x1 d = some x) (k0 : ∀ (e' : Dt), x = (e') → G p l e rm_Gr_countWritten s m args below meth c 0 0 Q 2 D cA ad 0 A 27 [(9, 0), (9, 0)] [] e') : G p l e rm_Gr_countWritten s m args below meth c 0 0 Q 2 D cA ad 0 A 2 [(2, 58), (0, x1)] [] d :=
  ok_Gr_countWritten_n2 C FU x1 d hx1 h k0
set_option maxHeartbeats 4000000 in
theorem ok_Gr_countWritten {l : Launch} {r : Int} {d' : Dt} (d : Dt)  (h : L_Gr_countWritten d = some (r, d')) : MC l y_Gr_countWritten prog_3_method_10_code 2 none rm_Gr_countWritten 0 [(2, 58)] d none d' := by
  refine MC.of (by decide) (Nat.le_of_ble_eq_true rfl) ?_
  intro p e s m args below meth c D cA ad A C hlk hr
  replace C : Cx p s m args c prog_3_method_10_code 2 "PollBooks$Grounds" D cA ad 0 A := C
  show G p l e rm_Gr_countWritten s m args below meth c 0 0 (MQ below (fun _ => QC D cA ad 0 A none none d') args s 0 0 A) 2 D cA ad 0 A 0 [(2, 58)] [] d
  refine g_sub (lo2 := [(2, 58), (9, 0)]) (lsb_v (lsb_n lsb_e)) ?_
  unfold L_Gr_countWritten at h
  refine g_iconst C 0 (cK rfl) (by decide +kernel) ?_
  refine s_istore_n C 1 (lo' := [(2, 58), (0, 0)]) (by decide) (s1n (by decide) s1z) (by decide +kernel) ?_
  refine g_sub (lo2 := [(2, 58), (0, 0)]) (lsb_v (lsb_v lsb_e)) ?_
  obtain ⟨x7_, hx8_, h⟩ := lb_some h
  refine ok_Gr_countWritten_l2 C 0 d (c32_cb (Or.inl rfl)) hx8_ (fun d9_ eq10_ => ?_)
  replace eq10_ := eq10_.symm
  subst eq10_
  replace h := u0_e h
  obtain ⟨rfl, rfl⟩ := ret_inj h
  exact g_vret C hlk hr (by decide +kernel)
/-! PollBooks$Poll.offerSet(I)I -/
def y_Po_offerSet : MethodName := ⟨"PollBooks$Poll", "offerSet", "(I)I"⟩
def rm_Po_offerSet : Room := { frames := 0, cells := 0, slots := 0, locals := 0 }
theorem mw_Po_offerSet : MW y_Po_offerSet prog_8_method_13_code 2 (some .int) 1 := ⟨lk_1235, lk_10, by decide +kernel⟩
def L_Po_offerSet (p1 : Int) (d : Dt) : Option (Int × Dt) :=
  ck ((0 : Int) ≤ p1 ∧ p1 < 20) (some ((d 55 p1.toNat), d))
set_option maxHeartbeats 4000000 in
theorem ok_Po_offerSet {l : Launch} {r : Int} {d' : Dt} (p1 : Int) (d : Dt) (hp1 : c32 p1) (h : L_Po_offerSet p1 d = some (r, d')) : MC l y_Po_offerSet prog_8_method_13_code 2 (some .int) rm_Po_offerSet 0 [(2, 49), (0, p1)] d (some (0, r)) d' := by
  refine MC.of (by decide) (Nat.le_of_ble_eq_true rfl) ?_
  intro p e s m args below meth c D cA ad A C hlk hr
  replace C : Cx p s m args c prog_8_method_13_code 2 "PollBooks$Poll" D cA ad 0 A := C
  show G p l e rm_Po_offerSet s m args below meth c 0 0 (MQ below (fun _ => QC D cA ad 0 A (some .int) (some (0, r)) d') args s 0 0 A) 2 D cA ad 0 A 0 [(2, 49), (0, p1)] [] d
  refine g_sub (lo2 := [(2, 49), (0, p1)]) (lsb_v (lsb_v lsb_e)) ?_
  unfold L_Po_offerSet at h
  refine g_aload_n C 0 rfl (by decide +kernel) ?_
  refine g_getR C cl6 49 9 55 rfl cd_A49 ⟨by decide, rfl, by decide⟩ rfl rfl (nA (by decide)) (ix := 34) lk_328 (by decide +kernel) ?_
  refine g_iload_n C 1 rfl (by decide +kernel) ?_
  obtain ⟨hb1_, h⟩ := ck_some h
  refine g_iald C 55 hp1 rfl cd_A55 (nA (by decide)) hb1_ (by decide +kernel) (fun hc2_ => ?_)
  obtain ⟨rfl, rfl⟩ := ret_inj h
  exact g_iret C hc2_ hlk hr (by decide +kernel)
/-! PollBooks$Grounds.addGrounds(I)V -/
def y_Gr_addGrounds : MethodName := ⟨"PollBooks$Grounds", "addGrounds", "(I)V"⟩
def rm_Gr_addGrounds : Room := { frames := 4, cells := 0, slots := 0, locals := 92 }
theorem mw_Gr_addGrounds : MW y_Gr_addGrounds prog_3_method_11_code 5 none 1 := ⟨lk_1230, lk_11, by decide +kernel⟩
def L_Gr_addGrounds_b92 (x1 x2 : Int) (d : Dt) : Option ((Int × Int × Dt) ⊕ ((Dt))) :=
  some (Sum.inl (x1, (w32 (x2 + 1)), d))
def L_Gr_addGrounds_b89 (x1 x2 s1 s2 : Int) (d : Dt) : Option ((Int × Int × Dt) ⊕ ((Dt))) :=
  bd (L_PB_addSet 62 4 s1 s2 d) (fun r2_ d1_ => L_Gr_addGrounds_b92 x1 x2 d1_)
def L_Gr_addGrounds_b67 (x1 x2 s0 : Int) (d : Dt) : Option ((Int × Int × Dt) ⊕ ((Dt))) :=
  ck ((0 : Int) ≤ x2 ∧ x2 < 10) (if (d 59 x2.toNat) = 0 then L_Gr_addGrounds_b89 x1 x2 s0 (-1) d else L_Gr_addGrounds_b89 x1 x2 s0 1 d)
def L_Gr_addGrounds_y16 (x1 x2 : Int) (d : Dt) : Option ((Int × Int × Dt) ⊕ ((Dt))) :=
  if x2 < (d 58 5) then if (iand (ishr x1 x2) 1) = 0 then L_Gr_addGrounds_b92 x1 x2 d else ck ((0 : Int) ≤ x2 ∧ x2 < 10) (lt_ (d 60 x2.toNat) (fun v13_ => ck ((0 : Int) ≤ x2 ∧ x2 < 10) (if (d 59 x2.toNat) = 0 then bd (L_Bo_joinedSet v13_ d) (fun r20_ d19_ => L_Gr_addGrounds_b67 x1 x2 r20_ d19_) else bd (L_Po_offerSet v13_ d) (fun r24_ d23_ => L_Gr_addGrounds_b67 x1 x2 r24_ d23_)))) else some (Sum.inr (d))
def L_Gr_addGrounds_l16 (x1 x2 : Int) (d : Dt) : Option ((Dt)) := lpF (fun q : Int × Int × Dt => L_Gr_addGrounds_y16 q.1 q.2.1 q.2.2) FU (x1, x2, d)
def L_Gr_addGrounds (p1 : Int) (d : Dt) : Option (Int × Dt) :=
  ck ((0 : Int) ≤ 0 ∧ (0 : Int) ≤ 0 ∧ (0 : Int) ≤ 4 ∧ (0 : Int) + 4 ≤ 4 ∧ (0 : Int) + 4 ≤ 4) (lb (L_Gr_addGrounds_l16 p1 0 (cp2 d 63 0 62 0 4)) (fun q32_ => u0 q32_ (fun d30_ => some (0, d30_))))
set_option maxHeartbeats 4000000 in
theorem ok_Gr_addGrounds_b92 {p : Program} {l : Launch} {e : Env} {s : State} {m : MethodId} {args : Array Value} {below : List Frame} {meth : Method} {c : Code} {D : va_G} {cA : Nat → ClassId} {ad : Nat → Nat} {A : Nat → Prop} (C : Cx p s m args c prog_3_method_11_code 5 "PollBooks$Grounds" D cA ad 0 A) {Q : State → Prop} {o : (Int × Int × Dt) ⊕ ((Dt))} (x1 x2 : Int) (d : Dt) (hx1 : c32 x1) (hx2 : c32 x2) (h : L_Gr_addGrounds_b92 x1 x2 d = some o) (kb : ∀ (y0 y1 : Int) (e' : Dt), o = .inl (y0, y1, e') → c32 y0 → c32 y1 → G p l e rm_Gr_addGrounds s m args below meth c 0 0 Q 5 D cA ad 0 A 16 [(2, 58), (0, y0), (0, y1), (9, 0), (9, 0)] [] e') (k0 : ∀ (e' : Dt), o = .inr (e') → G p l e rm_Gr_addGrounds s m args below meth c 0 0 Q 5 D cA ad 0 A 98 [(9, 0), (9, 0), (9, 0), (9, 0), (9, 0)] [] e') : G p l e rm_Gr_addGrounds s m args below meth c 0 0 Q 5 D cA ad 0 A 92 [(2, 58), (0, x1), (0, x2), (9, 0), (9, 0)] [] d := by
  unfold L_Gr_addGrounds_b92 at h
  refine s_iinc C 2 1 (lo' := [(2, 58), (0, x1), (0, (w32 (x2 + 1))), (9, 0), (9, 0)]) rfl (by decide) (s1k (s1n (by decide) s1z)) (by decide +kernel) ?_
  refine g_goto C 16 (off := (-79)) (by decide +kernel) (by decide) ?_
  refine g_sub (lo2 := [(2, 58), (0, x1), (0, (w32 (x2 + 1))), (9, 0), (9, 0)]) (lsb_v (lsb_v (lsb_v (lsb_c (lsb_c lsb_e))))) ?_
  obtain rfl := Option.some.inj h
  exact kb x1 (w32 (x2 + 1)) d rfl hx1 (w32_c _)
set_option maxHeartbeats 4000000 in
theorem ok_Gr_addGrounds_b89 {p : Program} {l : Launch} {e : Env} {s : State} {m : MethodId} {args : Array Value} {below : List Frame} {meth : Method} {c : Code} {D : va_G} {cA : Nat → ClassId} {ad : Nat → Nat} {A : Nat → Prop} (C : Cx p s m args c prog_3_method_11_code 5 "PollBooks$Grounds" D cA ad 0 A) {Q : State → Prop} {o : (Int × Int × Dt) ⊕ ((Dt))} (x1 x2 s1 s2 : Int) (d : Dt) (hx1 : c32 x1) (hx2 : c32 x2) (hs1 : c32 s1) (hs2 : c32 s2) (h : L_Gr_addGrounds_b89 x1 x2 s1 s2 d = some o) (kb : ∀ (y0 y1 : Int) (e' : Dt), o = .inl (y0, y1, e') → c32 y0 → c32 y1 → G p l e rm_Gr_addGrounds s m args below meth c 0 0 Q 5 D cA ad 0 A 16 [(2, 58), (0, y0), (0, y1), (9, 0), (9, 0)] [] e') (k0 : ∀ (e' : Dt), o = .inr (e') → G p l e rm_Gr_addGrounds s m args below meth c 0 0 Q 5 D cA ad 0 A 98 [(9, 0), (9, 0), (9, 0), (9, 0), (9, 0)] [] e') : G p l e rm_Gr_addGrounds s m args below meth c 0 0 Q 5 D cA ad 0 A 89 [(2, 58), (0, x1), (0, x2), (9, 0), (9, 0)] [(0, s2), (0, s1), (2, 62)] d := by
  unfold L_Gr_addGrounds_b89 at h
  obtain ⟨r2_, d1_, hr3_, h⟩ := bd_some h
  refine g_callSN C mw_PB_addSet [(2, 62), (0, s1), (0, s2)] (ok_PB_addSet 62 4 cd_A62 (by decide) s1 s2 d hs1 hs2 hr3_) (ix := 67) lk_1237 lk_1158 ⟨rfl, rfl, Nat.le_of_ble_eq_true rfl, Nat.le_of_ble_eq_true rfl⟩ rfl (rest := []) rfl (Nat.le_of_ble_eq_true rfl) ⟨Nat.zero_le _, Nat.zero_le _⟩ (by decide +kernel) (fun _ hc4_ => ?_)
  refine g_st (st2 := []) rfl ?_
  refine g_sub (lo2 := [(2, 58), (0, x1), (0, x2), (9, 0), (9, 0)]) (lsb_v (lsb_v (lsb_v (lsb_c (lsb_c lsb_e))))) ?_
  exact ok_Gr_addGrounds_b92 C x1 x2 d1_ hx1 hx2 h kb k0
set_option maxHeartbeats 4000000 in
theorem ok_Gr_addGrounds_b67 {p : Program} {l : Launch} {e : Env} {s : State} {m : MethodId} {args : Array Value} {below : List Frame} {meth : Method} {c : Code} {D : va_G} {cA : Nat → ClassId} {ad : Nat → Nat} {A : Nat → Prop} (C : Cx p s m args c prog_3_method_11_code 5 "PollBooks$Grounds" D cA ad 0 A) {Q : State → Prop} {o : (Int × Int × Dt) ⊕ ((Dt))} (x1 x2 s0 : Int) (d : Dt) (hx1 : c32 x1) (hx2 : c32 x2) (hs0 : c32 s0) (h : L_Gr_addGrounds_b67 x1 x2 s0 d = some o) (kb : ∀ (y0 y1 : Int) (e' : Dt), o = .inl (y0, y1, e') → c32 y0 → c32 y1 → G p l e rm_Gr_addGrounds s m args below meth c 0 0 Q 5 D cA ad 0 A 16 [(2, 58), (0, y0), (0, y1), (9, 0), (9, 0)] [] e') (k0 : ∀ (e' : Dt), o = .inr (e') → G p l e rm_Gr_addGrounds s m args below meth c 0 0 Q 5 D cA ad 0 A 98 [(9, 0), (9, 0), (9, 0), (9, 0), (9, 0)] [] e') : G p l e rm_Gr_addGrounds s m args below meth c 0 0 Q 5 D cA ad 0 A 67 [(2, 58), (0, x1), (0, x2), (9, 0), (9, 0)] [(0, s0)] d := by
  unfold L_Gr_addGrounds_b67 at h
  refine s_istore C 4 (lo' := [(2, 58), (0, x1), (0, x2), (9, 0), (0, s0)]) (by decide) (s1k (s1k (s1k (s1n (by decide) s1z)))) (by decide +kernel) ?_
  refine g_aload_n C 0 rfl (by decide +kernel) ?_
  refine g_getR C cl1 58 6 62 rfl cd_A58 ⟨by decide, rfl, by decide⟩ rfl rfl (nA (by decide)) (ix := 22) lk_373 (by decide +kernel) ?_
  refine g_iload C 4 rfl (by decide +kernel) ?_
  refine g_aload_n C 0 rfl (by decide +kernel) ?_
  refine g_getR C cl1 58 2 59 rfl cd_A58 ⟨by decide, rfl, by decide⟩ rfl rfl (nA (by decide)) (ix := 11) lk_369 (by decide +kernel) ?_
  refine g_iload_n C 2 rfl (by decide +kernel) ?_
  obtain ⟨hb5_, h⟩ := ck_some h
  refine g_zald C 59 hx2 rfl cd_A59 (nA (by decide)) hb5_ (by decide +kernel) (fun hc6_ => ?_)
  refine g_if_eq C (off := 7) (tgt := 88) (c32_cb hc6_) (by decide +kernel) (by decide) (fun hc7_ => ?_) (fun hc7_ => ?_)
  · replace h := ite_t hc7_ h
    refine g_iconst C (-1) (cK rfl) (by decide +kernel) ?_
    refine g_sub (lo2 := [(2, 58), (0, x1), (0, x2), (9, 0), (9, 0)]) (lsb_v (lsb_v (lsb_v (lsb_c (lsb_c lsb_e))))) ?_
    exact ok_Gr_addGrounds_b89 C x1 x2 s0 (-1) d hx1 hx2 hs0 (cK rfl) h kb k0
  · replace h := ite_f hc7_ h
    refine g_iconst C 1 (cK rfl) (by decide +kernel) ?_
    refine g_goto C 89 (off := 4) (by decide +kernel) (by decide) ?_
    refine g_sub (lo2 := [(2, 58), (0, x1), (0, x2), (9, 0), (9, 0)]) (lsb_v (lsb_v (lsb_v (lsb_c (lsb_c lsb_e))))) ?_
    exact ok_Gr_addGrounds_b89 C x1 x2 s0 1 d hx1 hx2 hs0 (c32_cb (Or.inr rfl)) h kb k0
set_option maxHeartbeats 4000000 in
theorem ok_Gr_addGrounds_y16 {p : Program} {l : Launch} {e : Env} {s : State} {m : MethodId} {args : Array Value} {below : List Frame} {meth : Method} {c : Code} {D : va_G} {cA : Nat → ClassId} {ad : Nat → Nat} {A : Nat → Prop} (C : Cx p s m args c prog_3_method_11_code 5 "PollBooks$Grounds" D cA ad 0 A) {Q : State → Prop} {o : (Int × Int × Dt) ⊕ ((Dt))} (x1 x2 : Int) (d : Dt) (hx1 : c32 x1) (hx2 : c32 x2) (h : L_Gr_addGrounds_y16 x1 x2 d = some o) (kb : ∀ (y0 y1 : Int) (e' : Dt), o = .inl (y0, y1, e') → c32 y0 → c32 y1 → G p l e rm_Gr_addGrounds s m args below meth c 0 0 Q 5 D cA ad 0 A 16 [(2, 58), (0, y0), (0, y1), (9, 0), (9, 0)] [] e') (k0 : ∀ (e' : Dt), o = .inr (e') → G p l e rm_Gr_addGrounds s m args below meth c 0 0 Q 5 D cA ad 0 A 98 [(9, 0), (9, 0), (9, 0), (9, 0), (9, 0)] [] e') : G p l e rm_Gr_addGrounds s m args below meth c 0 0 Q 5 D cA ad 0 A 16 [(2, 58), (0, x1), (0, x2), (9, 0), (9, 0)] [] d := by
  unfold L_Gr_addGrounds_y16 at h
  refine g_iload_n C 2 rfl (by decide +kernel) ?_
  refine g_aload_n C 0 rfl (by decide +kernel) ?_
  refine g_getI C cl1 58 5 rfl cd_A58 ⟨by decide, rfl, by decide⟩ rfl (nA (by decide)) (ix := 36) lk_372 (by decide +kernel) (fun hc8_ => ?_)
  refine g_icmp_ge C (off := 77) (tgt := 98) hx2 hc8_ (by decide +kernel) (by decide) (fun hc9_ => ?_) (fun hc9_ => ?_)
  · replace h := ite_t hc9_ h
    refine g_iload_n C 1 rfl (by decide +kernel) ?_
    refine g_iload_n C 2 rfl (by decide +kernel) ?_
    refine g_ishr C (by decide +kernel) ?_
    refine g_iconst C 1 (cK rfl) (by decide +kernel) ?_
    refine g_iand C (by decide +kernel) ?_
    refine g_if_eq C (off := 63) (tgt := 92) (i_c _) (by decide +kernel) (by decide) (fun hc10_ => ?_) (fun hc10_ => ?_)
    · replace h := ite_t hc10_ h
      refine g_sub (lo2 := [(2, 58), (0, x1), (0, x2), (9, 0), (9, 0)]) (lsb_v (lsb_v (lsb_v (lsb_c (lsb_c lsb_e))))) ?_
      exact ok_Gr_addGrounds_b92 C x1 x2 d hx1 hx2 h kb k0
    · replace h := ite_f hc10_ h
      refine g_aload_n C 0 rfl (by decide +kernel) ?_
      refine g_getR C cl1 58 3 60 rfl cd_A58 ⟨by decide, rfl, by decide⟩ rfl rfl (nA (by decide)) (ix := 15) lk_370 (by decide +kernel) ?_
      refine g_iload_n C 2 rfl (by decide +kernel) ?_
      obtain ⟨hb11_, h⟩ := ck_some h
      refine g_iald C 60 hx2 rfl cd_A60 (nA (by decide)) hb11_ (by decide +kernel) (fun hc12_ => ?_)
      obtain ⟨v13_, ev14_, h⟩ := lt_some h
      refine g_val ev14_.symm ?_
      have hv15_ : c32 v13_ := by rw [ev14_]; exact hc12_
      refine s_istore_n C 3 (lo' := [(2, 58), (0, x1), (0, x2), (0, v13_), (9, 0)]) (by decide) (s1k (s1k (s1n (by decide) s1z))) (by decide +kernel) ?_
      refine g_aload_n C 0 rfl (by decide +kernel) ?_
      refine g_getR C cl1 58 2 59 rfl cd_A58 ⟨by decide, rfl, by decide⟩ rfl rfl (nA (by decide)) (ix := 11) lk_369 (by decide +kernel) ?_
      refine g_iload_n C 2 rfl (by decide +kernel) ?_
      obtain ⟨hb16_, h⟩ := ck_some h
      refine g_zald C 59 hx2 rfl cd_A59 (nA (by decide)) hb16_ (by decide +kernel) (fun hc17_ => ?_)
      refine g_if_eq C (off := 14) (tgt := 59) (c32_cb hc17_) (by decide +kernel) (by decide) (fun hc18_ => ?_) (fun hc18_ => ?_)
      · replace h := ite_t hc18_ h
        refine g_aload_n C 0 rfl (by decide +kernel) ?_
        refine g_getR C cl1 58 0 37 rfl cd_A58 ⟨by decide, rfl, by decide⟩ rfl rfl (nA (by decide)) (ix := 28) lk_367 (by decide +kernel) ?_
        refine g_iload_n C 3 rfl (by decide +kernel) ?_
        obtain ⟨r20_, d19_, hr21_, h⟩ := bd_some h
        refine g_callV C mw_Bo_joinedSet [(0, v13_)] 37 cl0 rfl (ok_Bo_joinedSet v13_ d hv15_ hr21_) cd_A37 (by decide) (nA (by decide)) (ix := 64) lk_1236 lk_1059 lk_1060 ⟨rfl, rfl, Nat.le_of_ble_eq_true rfl, Nat.le_of_ble_eq_true rfl⟩ rfl (rest := []) rfl (Nat.le_of_ble_eq_true rfl) ⟨Nat.zero_le _, Nat.zero_le _⟩ (by decide +kernel) (fun _ hc22_ => ?_)
        replace hc22_ : c32 r20_ := hc22_
        refine g_st (st2 := [(0, r20_)]) rfl ?_
        refine g_sub (lo2 := [(2, 58), (0, x1), (0, x2), (9, 0), (9, 0)]) (lsb_v (lsb_v (lsb_v (lsb_c (lsb_c lsb_e))))) ?_
        exact ok_Gr_addGrounds_b67 C x1 x2 r20_ d19_ hx1 hx2 hc22_ h kb k0
      · replace h := ite_f hc18_ h
        refine g_aload_n C 0 rfl (by decide +kernel) ?_
        refine g_getR C cl1 58 1 49 rfl cd_A58 ⟨by decide, rfl, by decide⟩ rfl rfl (nA (by decide)) (ix := 32) lk_368 (by decide +kernel) ?_
        refine g_iload_n C 3 rfl (by decide +kernel) ?_
        obtain ⟨r24_, d23_, hr25_, h⟩ := bd_some h
        refine g_callV C mw_Po_offerSet [(0, v13_)] 49 cl6 rfl (ok_Po_offerSet v13_ d hv15_ hr25_) cd_A49 (by decide) (nA (by decide)) (ix := 59) lk_1232 lk_1233 lk_1234 ⟨rfl, rfl, Nat.le_of_ble_eq_true rfl, Nat.le_of_ble_eq_true rfl⟩ rfl (rest := []) rfl (Nat.le_of_ble_eq_true rfl) ⟨Nat.zero_le _, Nat.zero_le _⟩ (by decide +kernel) (fun _ hc26_ => ?_)
        replace hc26_ : c32 r24_ := hc26_
        refine g_st (st2 := [(0, r24_)]) rfl ?_
        refine g_goto C 67 (off := 11) (by decide +kernel) (by decide) ?_
        refine g_sub (lo2 := [(2, 58), (0, x1), (0, x2), (9, 0), (9, 0)]) (lsb_v (lsb_v (lsb_v (lsb_c (lsb_c lsb_e))))) ?_
        exact ok_Gr_addGrounds_b67 C x1 x2 r24_ d23_ hx1 hx2 hc26_ h kb k0
  · replace h := ite_f hc9_ h
    refine g_sub (lo2 := [(9, 0), (9, 0), (9, 0), (9, 0), (9, 0)]) (lsb_c (lsb_c (lsb_c (lsb_c (lsb_c lsb_e))))) ?_
    obtain rfl := Option.some.inj h
    exact k0 d rfl 
set_option maxHeartbeats 4000000 in
theorem ok_Gr_addGrounds_n16 {p : Program} {l : Launch} {e : Env} {s : State} {m : MethodId} {args : Array Value} {below : List Frame} {meth : Method} {c : Code} {D : va_G} {cA : Nat → ClassId} {ad : Nat → Nat} {A : Nat → Prop} (C : Cx p s m args c prog_3_method_11_code 5 "PollBooks$Grounds" D cA ad 0 A) {Q : State → Prop} {x : (Dt)} : ∀ (n : Nat) (x1 x2 : Int) (d : Dt), c32 x1 → c32 x2 → lpF (fun q : Int × Int × Dt => L_Gr_addGrounds_y16 q.1 q.2.1 q.2.2) n (x1, x2, d) = some x → (∀ (e' : Dt), x = (e') → G p l e rm_Gr_addGrounds s m args below meth c 0 0 Q 5 D cA ad 0 A 98 [(9, 0), (9, 0), (9, 0), (9, 0), (9, 0)] [] e') → G p l e rm_Gr_addGrounds s m args below meth c 0 0 Q 5 D cA ad 0 A 16 [(2, 58), (0, x1), (0, x2), (9, 0), (9, 0)] [] d := by
  intro n
  induction n with
  | zero => intro x1 x2 d g0 g1 h k0; cases h
  | succ n ih =>
    intro x1 x2 d g0 g1 h k0
    rcases lpF_some h with h | ⟨⟨v0_, v1_, e0_⟩, h1, h⟩
    · exact ok_Gr_addGrounds_y16 C x1 x2 d g0 g1 h (fun z0_ z1_ e1_ eq w0_ w1_ => by cases eq) (fun e1_ eq => k0 _ (by cases eq; rfl) )
    · exact ok_Gr_addGrounds_y16 C x1 x2 d g0 g1 h1 (fun z0_ z1_ e1_ eq w0_ w1_ => by cases eq; exact ih _ _ _ w0_ w1_ h k0) (fun e1_ eq => by cases eq)
set_option maxHeartbeats 4000000 in
theorem ok_Gr_addGrounds_l16 {p : Program} {l : Launch} {e : Env} {s : State} {m : MethodId} {args : Array Value} {below : List Frame} {meth : Method} {c : Code} {D : va_G} {cA : Nat → ClassId} {ad : Nat → Nat} {A : Nat → Prop} (C : Cx p s m args c prog_3_method_11_code 5 "PollBooks$Grounds" D cA ad 0 A) {Q : State → Prop} {x : (Dt)} (x1 x2 : Int) (d : Dt) (hx1 : c32 x1) (hx2 : c32 x2) (h : L_Gr_addGrounds_l16 x1 x2 d = some x) (k0 : ∀ (e' : Dt), x = (e') → G p l e rm_Gr_addGrounds s m args below meth c 0 0 Q 5 D cA ad 0 A 98 [(9, 0), (9, 0), (9, 0), (9, 0), (9, 0)] [] e') : G p l e rm_Gr_addGrounds s m args below meth c 0 0 Q 5 D cA ad 0 A 16 [(2, 58), (0, x1), (0, x2), (9, 0), (9, 0)] [] d :=
  ok_Gr_addGrounds_n16 C FU x1 x2 d hx1 hx2 h k0
set_option maxHeartbeats 4000000 in
theorem ok_Gr_addGrounds {l : Launch} {r : Int} {d' : Dt} (p1 : Int) (d : Dt) (hp1 : c32 p1) (h : L_Gr_addGrounds p1 d = some (r, d')) : MC l y_Gr_addGrounds prog_3_method_11_code 5 none rm_Gr_addGrounds 0 [(2, 58), (0, p1)] d none d' := by
  refine MC.of (by decide) (Nat.le_of_ble_eq_true rfl) ?_
  intro p e s m args below meth c D cA ad A C hlk hr
  replace C : Cx p s m args c prog_3_method_11_code 5 "PollBooks$Grounds" D cA ad 0 A := C
  show G p l e rm_Gr_addGrounds s m args below meth c 0 0 (MQ below (fun _ => QC D cA ad 0 A none none d') args s 0 0 A) 5 D cA ad 0 A 0 [(2, 58), (0, p1)] [] d
  refine g_sub (lo2 := [(2, 58), (0, p1), (9, 0), (9, 0), (9, 0)]) (lsb_v (lsb_v (lsb_n (lsb_n (lsb_n lsb_e))))) ?_
  unfold L_Gr_addGrounds at h
  refine g_aload_n C 0 rfl (by decide +kernel) ?_
  refine g_getR C cl1 58 7 63 rfl cd_A58 ⟨by decide, rfl, by decide⟩ rfl rfl (nA (by decide)) (ix := 25) lk_374 (by decide +kernel) ?_
  refine g_iconst C 0 (cK rfl) (by decide +kernel) ?_
  refine g_aload_n C 0 rfl (by decide +kernel) ?_
  refine g_getR C cl1 58 6 62 rfl cd_A58 ⟨by decide, rfl, by decide⟩ rfl rfl (nA (by decide)) (ix := 22) lk_373 (by decide +kernel) ?_
  refine g_iconst C 0 (cK rfl) (by decide +kernel) ?_
  refine g_iconst C 4 (cK rfl) (by decide +kernel) ?_
  obtain ⟨hb27_, h⟩ := ck_some h
  refine g_copyi C 63 62 rfl rfl cd_A63 cd_A62 (nA (by decide)) (nA (by decide)) (c32_cb (Or.inl rfl)) (c32_cb (Or.inl rfl)) (cK rfl) hb27_ (ix := 53) lk_1231 lk_584 lk_583 lk_15 ⟨Nat.le_of_ble_eq_true rfl, by decide +kernel⟩ (Nat.le_of_ble_eq_true rfl) (by decide +kernel) ?_
  refine g_iconst C 0 (cK rfl) (by decide +kernel) ?_
  refine s_istore_n C 2 (lo' := [(2, 58), (0, p1), (0, 0), (9, 0), (9, 0)]) (by decide) (s1k (s1n (by decide) s1z)) (by decide +kernel) ?_
  refine g_sub (lo2 := [(2, 58), (0, p1), (0, 0), (9, 0), (9, 0)]) (lsb_v (lsb_v (lsb_v (lsb_c (lsb_c lsb_e))))) ?_
  obtain ⟨x28_, hx29_, h⟩ := lb_some h
  refine ok_Gr_addGrounds_l16 C p1 0 (cp2 d 63 0 62 0 4) hp1 (c32_cb (Or.inl rfl)) hx29_ (fun d30_ eq31_ => ?_)
  replace eq31_ := eq31_.symm
  subst eq31_
  replace h := u0_e h
  obtain ⟨rfl, rfl⟩ := ret_inj h
  exact g_vret C hlk hr (by decide +kernel)
