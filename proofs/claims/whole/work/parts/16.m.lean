/-! java/lang/String.checkIndex(II)V -/
def y_Sg_checkIndex : MethodName := ⟨"java/lang/String", "checkIndex", "(II)V"⟩
def rm_Sg_checkIndex : Room := { frames := 1, cells := 0, slots := 0, locals := 22 }
theorem mw_Sg_checkIndex : MW y_Sg_checkIndex prog_17_method_155_code 2 none 2 := ⟨lk_1912, lk_17, by decide +kernel⟩
def L_Sg_checkIndex (p1 p2 : Int) (d : Dt) : Option (Int × Dt) :=
  bd (L_Pr_checkIndex p1 p2 d) (fun r3_ d2_ => some (0, d2_))
set_option maxHeartbeats 4000000 in
theorem ok_Sg_checkIndex {l : Launch} {r : Int} {d' : Dt} (p1 p2 : Int) (d : Dt) (hp1 : c32 p1) (hp2 : c32 p2) (h : L_Sg_checkIndex p1 p2 d = some (r, d')) : MC l y_Sg_checkIndex prog_17_method_155_code 2 none rm_Sg_checkIndex 1 [(0, p1), (0, p2)] d none d' := by
  refine MC.of (by decide) (Nat.le_of_ble_eq_true rfl) ?_
  intro p e s m args below meth c D cA ad A C hlk hr
  replace C : Cx p s m args c prog_17_method_155_code 2 "java/lang/String" D cA ad 1 A := C
  show G p l e rm_Sg_checkIndex s m args below meth c 0 0 (MQ below (fun _ => QC D cA ad 1 A none none d') args s 0 0 A) 2 D cA ad 1 A 0 [(0, p1), (0, p2)] [] d
  refine g_sub (lo2 := [(0, p1), (0, p2)]) (lsb_v (lsb_v lsb_e)) ?_
  unfold L_Sg_checkIndex at h
  refine g_iload_n C 0 rfl (by decide +kernel) ?_
  refine g_iload_n C 1 rfl (by decide +kernel) ?_
  refine g_strfm C (ix := 1053) lk_1913 (by decide +kernel) (fun xf1_ => ?_)
  obtain ⟨r3_, d2_, hr4_, h⟩ := bd_some h
  refine g_callS C mw_Pr_checkIndex [(0, p1), (0, p2), (2, xf1_)] (ok_Pr_checkIndex p1 p2 d hp1 hp2 hr4_) (ix := 1059) lk_1915 lk_1916 ⟨rfl, rfl, Nat.le_of_ble_eq_true rfl, Nat.le_of_ble_eq_true rfl⟩ rfl (rest := []) rfl (Nat.le_of_ble_eq_true rfl) ⟨Nat.zero_le _, Nat.zero_le _⟩ (by decide +kernel) (fun _ hc5_ => ?_)
  replace hc5_ : c32 r3_ := hc5_
  refine g_st (st2 := [(0, r3_)]) rfl ?_
  refine g_pop C tg0 (by decide +kernel) ?_
  obtain ⟨rfl, rfl⟩ := ret_inj h
  exact g_vret C hlk hr (by decide +kernel)
/-! java/lang/StringLatin1.charAt([BI)C -/
def y_SL_charAt : MethodName := ⟨"java/lang/StringLatin1", "charAt", "([BI)C"⟩
def rm_SL_charAt : Room := { frames := 2, cells := 0, slots := 0, locals := 43 }
theorem mw_SL_charAt : MW y_SL_charAt prog_18_method_2_code 2 (some .char) 2 := ⟨lk_1909, lk_18, by decide +kernel⟩
def L_SL_charAt (p1 p2 : Int) (d : Dt) : Option (Int × Dt) :=
  ck (isByt p1) (bd (L_Sg_checkIndex p2 ((kwT p1.toNat).length : Int) d) (fun r3_ d2_ => ck (isByt p1) (ck (0 ≤ p2 ∧ p2 < ((kwT p1.toNat).length : Int)) (ck (0 ≤ (iand (kw p1.toNat p2.toNat) 255) ∧ (iand (kw p1.toNat p2.toNat) 255) < 65536) (some ((iand (kw p1.toNat p2.toNat) 255), d2_))))))
set_option maxHeartbeats 4000000 in
theorem ok_SL_charAt {l : Launch} {r : Int} {d' : Dt} (p1 p2 : Int) (d : Dt) (hp2 : c32 p2) (h : L_SL_charAt p1 p2 d = some (r, d')) : MC l y_SL_charAt prog_18_method_2_code 2 (some .char) rm_SL_charAt 1 [(2, p1), (0, p2)] d (some (0, r)) d' := by
  refine MC.of (by decide) (Nat.le_of_ble_eq_true rfl) ?_
  intro p e s m args below meth c D cA ad A C hlk hr
  replace C : Cx p s m args c prog_18_method_2_code 2 "java/lang/StringLatin1" D cA ad 1 A := C
  show G p l e rm_SL_charAt s m args below meth c 0 0 (MQ below (fun _ => QC D cA ad 1 A (some .char) (some (0, r)) d') args s 0 0 A) 2 D cA ad 1 A 0 [(2, p1), (0, p2)] [] d
  refine g_sub (lo2 := [(2, p1), (0, p2)]) (lsb_v (lsb_v lsb_e)) ?_
  unfold L_SL_charAt at h
  refine g_iload_n C 1 rfl (by decide +kernel) ?_
  refine g_aload_n C 0 rfl (by decide +kernel) ?_
  obtain ⟨hs1_, h⟩ := ck_some h
  refine g_strlen C hs1_ (by decide +kernel) ?_
  obtain ⟨r3_, d2_, hr4_, h⟩ := bd_some h
  refine g_callS C mw_Sg_checkIndex [(0, p2), (0, ((kwT p1.toNat).length : Int))] (ok_Sg_checkIndex p2 ((kwT p1.toNat).length : Int) d hp2 (bytl hs1_) hr4_) (ix := 9) lk_1910 lk_1911 ⟨rfl, rfl, Nat.le_of_ble_eq_true rfl, Nat.le_of_ble_eq_true rfl⟩ rfl (rest := []) rfl (Nat.le_of_ble_eq_true rfl) ⟨Nat.zero_le _, Nat.zero_le _⟩ (by decide +kernel) (fun _ hc5_ => ?_)
  refine g_st (st2 := []) rfl ?_
  refine g_aload_n C 0 rfl (by decide +kernel) ?_
  refine g_iload_n C 1 rfl (by decide +kernel) ?_
  obtain ⟨hs6_, h⟩ := ck_some h
  obtain ⟨hb7_, h⟩ := ck_some h
  refine g_strld C hs6_ hp2 hb7_ (by decide +kernel) (fun hc8_ => ?_)
  refine g_sipush C 255 (by decide) (by decide +kernel) ?_
  refine g_iand C (by decide +kernel) ?_
  obtain ⟨hc9_, h⟩ := ck_some h
  refine g_i2c C hc9_ (by decide +kernel) ?_
  obtain ⟨rfl, rfl⟩ := ret_inj h
  exact g_cret C hc9_ (nar_ch hc9_) hlk hr (by decide +kernel)
/-! java/lang/String.charAt(I)C -/
def y_Sg_charAt : MethodName := ⟨"java/lang/String", "charAt", "(I)C"⟩
def rm_Sg_charAt : Room := { frames := 3, cells := 0, slots := 0, locals := 64 }
theorem mw_Sg_charAt : MW y_Sg_charAt prog_17_method_56_code 2 (some .char) 1 := ⟨lk_1902, lk_17, by decide +kernel⟩
def L_Sg_charAt (this p1 : Int) (d : Dt) : Option (Int × Dt) :=
  ck (isStr this) (bd (L_Sg_isLatin1 this d) (fun r2_ d1_ => if r2_ = 0 then none else ck (isStr this) (bd (L_SL_charAt (this + 2) p1 d1_) (fun r9_ d8_ => some (r9_, d8_)))))
set_option maxHeartbeats 4000000 in
theorem ok_Sg_charAt {l : Launch} {r : Int} {d' : Dt} (this p1 : Int) (d : Dt) (hp1 : c32 p1) (h : L_Sg_charAt this p1 d = some (r, d')) : MC l y_Sg_charAt prog_17_method_56_code 2 (some .char) rm_Sg_charAt 1 [(2, this), (0, p1)] d (some (0, r)) d' := by
  refine MC.of (by decide) (Nat.le_of_ble_eq_true rfl) ?_
  intro p e s m args below meth c D cA ad A C hlk hr
  replace C : Cx p s m args c prog_17_method_56_code 2 "java/lang/String" D cA ad 1 A := C
  show G p l e rm_Sg_charAt s m args below meth c 0 0 (MQ below (fun _ => QC D cA ad 1 A (some .char) (some (0, r)) d') args s 0 0 A) 2 D cA ad 1 A 0 [(2, this), (0, p1)] [] d
  refine g_sub (lo2 := [(2, this), (0, p1)]) (lsb_v (lsb_v lsb_e)) ?_
  unfold L_Sg_charAt at h
  refine g_aload_n C 0 rfl (by decide +kernel) ?_
  obtain ⟨hs4_, h⟩ := ck_some h
  obtain ⟨r2_, d1_, hr3_, h⟩ := bd_some h
  refine g_callT C mw_Sg_isLatin1 [] hs4_ (ok_Sg_isLatin1 this d  hr3_) (ix := 492) lk_1903 lk_1904 lk_1905 ⟨rfl, rfl, Nat.le_of_ble_eq_true rfl, Nat.le_of_ble_eq_true rfl⟩ rfl (rest := []) rfl (Nat.le_of_ble_eq_true rfl) ⟨Nat.zero_le _, Nat.zero_le _⟩ (by decide +kernel) (fun _ hc5_ => ?_)
  replace hc5_ : cb r2_ := hc5_
  refine g_st (st2 := [(0, r2_)]) rfl ?_
  refine g_if_eq C (off := 12) (tgt := 16) (c32_cb hc5_) (by decide +kernel) (by decide) (fun hc6_ => ?_) (fun hc6_ => ?_)
  · replace h := ite_t hc6_ h
    cases h
  · replace h := ite_f hc6_ h
    refine g_aload_n C 0 rfl (by decide +kernel) ?_
    obtain ⟨hs7_, h⟩ := ck_some h
    refine g_strval C (ix := 9) hs7_ lk_2252 (by decide +kernel) ?_
    refine g_iload_n C 1 rfl (by decide +kernel) ?_
    obtain ⟨r9_, d8_, hr10_, h⟩ := bd_some h
    refine g_callS C mw_SL_charAt [(2, (this + 2)), (0, p1)] (ok_SL_charAt (this + 2) p1 d1_ hp1 hr10_) (ix := 495) lk_1907 lk_1908 ⟨rfl, rfl, Nat.le_of_ble_eq_true rfl, Nat.le_of_ble_eq_true rfl⟩ rfl (rest := []) rfl (Nat.le_of_ble_eq_true rfl) ⟨Nat.zero_le _, Nat.zero_le _⟩ (by decide +kernel) (fun _ hc11_ => ?_)
    replace hc11_ : 0 ≤ r9_ ∧ r9_ < 65536 := hc11_
    refine g_st (st2 := [(0, r9_)]) rfl ?_
    obtain ⟨rfl, rfl⟩ := ret_inj h
    exact g_cret C hc11_ (nar_ch hc11_) hlk hr (by decide +kernel)
/-! PollBooksModel.inWords(Ljava/lang/String;)I -/
def y_Mo_inWords : MethodName := ⟨"PollBooksModel", "inWords", "(Ljava/lang/String;)I"⟩
def rm_Mo_inWords : Room := { frames := 4, cells := 0, slots := 0, locals := 85 }
theorem mw_Mo_inWords : MW y_Mo_inWords prog_14_method_42_code 7 (some .int) 1 := ⟨lk_1888, lk_14, by decide +kernel⟩
def L_Mo_inWords_y25 (x1 x2 x3 x4 : Int) (d : Dt) : Option ((Int × Int × Int × Int × Dt) ⊕ ((Int × Int × Int × Int × Dt))) :=
  ck (isStr x1) (bd (L_Sg_charAt x1 x4 d) (fun r2_ d1_ => if r2_ = 32 then some (Sum.inr (x1, x2, x3, x4, d1_)) else some (Sum.inl (x1, x2, x3, (w32 (x4 + 1)), d1_))))
def L_Mo_inWords_l25 (x1 x2 x3 x4 : Int) (d : Dt) : Option ((Int × Int × Int × Int × Dt)) := lpF (fun q : Int × Int × Int × Int × Dt => L_Mo_inWords_y25 q.1 q.2.1 q.2.2.1 q.2.2.2.1 q.2.2.2.2) FU (x1, x2, x3, x4, d)
def L_Mo_inWords_b107 (x1 x2 x3 x4 x6 s0 : Int) (d : Dt) : Option ((Int × Int × Int × Int × Int × Int × Dt) ⊕ ((Int × Int × Int × Int × Dt))) :=
  some (Sum.inl (x1, x2, x3, x4, s0, (w32 (x6 + 1)), d))
def L_Mo_inWords_y68 (x1 x2 x3 x4 x5 x6 : Int) (d : Dt) : Option ((Int × Int × Int × Int × Int × Int × Dt) ⊕ ((Int × Int × Int × Int × Dt))) :=
  if x6 < x4 then if x5 = 0 then some (Sum.inr (x1, x2, x4, x5, d)) else ck (isStr x1) (bd (L_Sg_charAt x1 x6 d) (fun r10_ d9_ => bd (L_Mo_at (w32 ((w32 ((d9_ 0 35) + x6)) - x3)) d9_) (fun r16_ d15_ => if r10_ = r16_ then L_Mo_inWords_b107 x1 x2 x3 x4 x6 1 d15_ else L_Mo_inWords_b107 x1 x2 x3 x4 x6 0 d15_))) else some (Sum.inr (x1, x2, x4, x5, d))
def L_Mo_inWords_l68 (x1 x2 x3 x4 x5 x6 : Int) (d : Dt) : Option ((Int × Int × Int × Int × Dt)) := lpF (fun q : Int × Int × Int × Int × Int × Int × Dt => L_Mo_inWords_y68 q.1 q.2.1 q.2.2.1 q.2.2.2.1 q.2.2.2.2.1 q.2.2.2.2.2.1 q.2.2.2.2.2.2) FU (x1, x2, x3, x4, x5, x6, d)
def L_Mo_inWords_b115 (x1 x2 x4 x5 : Int) (d : Dt) : Option ((Int × Int × Int × Dt) ⊕ ((Dt) ⊕ (Int × Dt))) :=
  if x5 = 0 then lt_ (w32 (x4 + 1)) (fun v21_ => some (Sum.inl (x1, (w32 (x2 + 1)), v21_, d))) else some (Sum.inr (Sum.inr (x2, d)))
def L_Mo_inWords_b63 (x1 x2 x3 x4 s0 : Int) (d : Dt) : Option ((Int × Int × Int × Dt) ⊕ ((Dt) ⊕ (Int × Dt))) :=
  lb (L_Mo_inWords_l68 x1 x2 x3 x4 s0 x3 d) (fun q32_ => u4 q32_ (fun v26_ v27_ v28_ v29_ d30_ => L_Mo_inWords_b115 v26_ v27_ v28_ v29_ d30_))
def L_Mo_inWords_y14 (x1 x2 x3 : Int) (d : Dt) : Option ((Int × Int × Int × Dt) ⊕ ((Dt) ⊕ (Int × Dt))) :=
  ck (isStr x1) (bd (L_Sg_length x1 d) (fun r34_ d33_ => if x3 < r34_ then lb (L_Mo_inWords_l25 x1 x2 x3 x3 d33_) (fun q50_ => u4 q50_ (fun v41_ v42_ v43_ v44_ d45_ => if (w32 (v44_ - v43_)) = (w32 ((d45_ 0 36) - (d45_ 0 35))) then L_Mo_inWords_b63 v41_ v42_ v43_ v44_ 1 d45_ else L_Mo_inWords_b63 v41_ v42_ v43_ v44_ 0 d45_)) else some (Sum.inr (Sum.inl (d33_)))))
def L_Mo_inWords_l14 (x1 x2 x3 : Int) (d : Dt) : Option ((Dt) ⊕ (Int × Dt)) := lpF (fun q : Int × Int × Int × Dt => L_Mo_inWords_y14 q.1 q.2.1 q.2.2.1 q.2.2.2) FU (x1, x2, x3, d)
def L_Mo_inWords (p1 : Int) (d : Dt) : Option (Int × Dt) :=
  if (d 0 34) = 2 then lb (L_Mo_inWords_l14 p1 0 1 d) (fun q60_ => sm q60_ (fun q61_ => u0 q61_ (fun d55_ => some ((-1), d55_))) (fun q62_ => u1 q62_ (fun v57_ d58_ => some (v57_, d58_)))) else some ((-1), d)
set_option maxHeartbeats 4000000 in
theorem ok_Mo_inWords_y25 {p : Program} {l : Launch} {e : Env} {s : State} {m : MethodId} {args : Array Value} {below : List Frame} {meth : Method} {c : Code} {D : va_G} {cA : Nat → ClassId} {ad : Nat → Nat} {A : Nat → Prop} (C : Cx p s m args c prog_14_method_42_code 7 "PollBooksModel" D cA ad 1 A) {Q : State → Prop} {o : (Int × Int × Int × Int × Dt) ⊕ ((Int × Int × Int × Int × Dt))} (x1 x2 x3 x4 : Int) (d : Dt) (hx2 : c32 x2) (hx3 : c32 x3) (hx4 : c32 x4) (h : L_Mo_inWords_y25 x1 x2 x3 x4 d = some o) (kb : ∀ (y0 y1 y2 y3 : Int) (e' : Dt), o = .inl (y0, y1, y2, y3, e') → c32 y1 → c32 y2 → c32 y3 → G p l e rm_Mo_inWords s m args below meth c 0 0 Q 7 D cA ad 1 A 25 [(2, 0), (2, y0), (0, y1), (0, y2), (0, y3), (9, 0), (9, 0)] [] e') (k0 : ∀ (y0 y1 y2 y3 : Int) (e' : Dt), o = .inr (y0, y1, y2, y3, e') → c32 y1 → c32 y2 → c32 y3 → G p l e rm_Mo_inWords s m args below meth c 0 0 Q 7 D cA ad 1 A 42 [(2, 0), (2, y0), (0, y1), (0, y2), (0, y3), (9, 0), (9, 0)] [] e') : G p l e rm_Mo_inWords s m args below meth c 0 0 Q 7 D cA ad 1 A 25 [(2, 0), (2, x1), (0, x2), (0, x3), (0, x4), (9, 0), (9, 0)] [] d := by
  unfold L_Mo_inWords_y25 at h
  refine g_aload_n C 1 rfl (by decide +kernel) ?_
  refine g_iload C 4 rfl (by decide +kernel) ?_
  obtain ⟨hs4_, h⟩ := ck_some h
  obtain ⟨r2_, d1_, hr3_, h⟩ := bd_some h
  refine g_callT C mw_Sg_charAt [(0, x4)] hs4_ (ok_Sg_charAt x1 x4 d hx4 hr3_) (ix := 404) lk_1899 lk_1900 lk_1901 ⟨rfl, rfl, Nat.le_of_ble_eq_true rfl, Nat.le_of_ble_eq_true rfl⟩ rfl (rest := []) rfl (Nat.le_of_ble_eq_true rfl) ⟨Nat.zero_le _, Nat.zero_le _⟩ (by decide +kernel) (fun _ hc5_ => ?_)
  replace hc5_ : 0 ≤ r2_ ∧ r2_ < 65536 := hc5_
  refine g_st (st2 := [(0, r2_)]) rfl ?_
  refine g_bipush C 32 (by decide) (by decide +kernel) ?_
  refine g_icmp_eq C (off := 9) (tgt := 42) (c32_ch hc5_) (cK rfl) (by decide +kernel) (by decide) (fun hc6_ => ?_) (fun hc6_ => ?_)
  · replace h := ite_t hc6_ h
    refine g_sub (lo2 := [(2, 0), (2, x1), (0, x2), (0, x3), (0, x4), (9, 0), (9, 0)]) (lsb_v (lsb_v (lsb_v (lsb_v (lsb_v (lsb_c (lsb_c lsb_e))))))) ?_
    obtain rfl := Option.some.inj h
    exact k0 x1 x2 x3 x4 d1_ rfl hx2 hx3 hx4
  · replace h := ite_f hc6_ h
    refine s_iinc C 4 1 (lo' := [(2, 0), (2, x1), (0, x2), (0, x3), (0, (w32 (x4 + 1))), (9, 0), (9, 0)]) rfl (by decide) (s1k (s1k (s1k (s1n (by decide) s1z)))) (by decide +kernel) ?_
    refine g_goto C 25 (off := (-14)) (by decide +kernel) (by decide) ?_
    refine g_sub (lo2 := [(2, 0), (2, x1), (0, x2), (0, x3), (0, (w32 (x4 + 1))), (9, 0), (9, 0)]) (lsb_v (lsb_v (lsb_v (lsb_v (lsb_v (lsb_c (lsb_c lsb_e))))))) ?_
    obtain rfl := Option.some.inj h
    exact kb x1 x2 x3 (w32 (x4 + 1)) d1_ rfl hx2 hx3 (w32_c _)
set_option maxHeartbeats 4000000 in
theorem ok_Mo_inWords_n25 {p : Program} {l : Launch} {e : Env} {s : State} {m : MethodId} {args : Array Value} {below : List Frame} {meth : Method} {c : Code} {D : va_G} {cA : Nat → ClassId} {ad : Nat → Nat} {A : Nat → Prop} (C : Cx p s m args c prog_14_method_42_code 7 "PollBooksModel" D cA ad 1 A) {Q : State → Prop} {x : (Int × Int × Int × Int × Dt)} : ∀ (n : Nat) (x1 x2 x3 x4 : Int) (d : Dt), c32 x2 → c32 x3 → c32 x4 → lpF (fun q : Int × Int × Int × Int × Dt => L_Mo_inWords_y25 q.1 q.2.1 q.2.2.1 q.2.2.2.1 q.2.2.2.2) n (x1, x2, x3, x4, d) = some x → (∀ (y0 y1 y2 y3 : Int) (e' : Dt), x = (y0, y1, y2, y3, e') → c32 y1 → c32 y2 → c32 y3 → G p l e rm_Mo_inWords s m args below meth c 0 0 Q 7 D cA ad 1 A 42 [(2, 0), (2, y0), (0, y1), (0, y2), (0, y3), (9, 0), (9, 0)] [] e') → G p l e rm_Mo_inWords s m args below meth c 0 0 Q 7 D cA ad 1 A 25 [(2, 0), (2, x1), (0, x2), (0, x3), (0, x4), (9, 0), (9, 0)] [] d := by
  intro n
  induction n with
  | zero => intro x1 x2 x3 x4 d g0 g1 g2 h k0; cases h
  | succ n ih =>
    intro x1 x2 x3 x4 d g0 g1 g2 h k0
    rcases lpF_some h with h | ⟨⟨v0_, v1_, v2_, v3_, e0_⟩, h1, h⟩
    · exact ok_Mo_inWords_y25 C x1 x2 x3 x4 d g0 g1 g2 h (fun z0_ z1_ z2_ z3_ e1_ eq w0_ w1_ w2_ => by cases eq) (fun z0_ z1_ z2_ z3_ e1_ eq w0_ w1_ w2_ => k0 _ _ _ _ _ (by cases eq; rfl) w0_ w1_ w2_)
    · exact ok_Mo_inWords_y25 C x1 x2 x3 x4 d g0 g1 g2 h1 (fun z0_ z1_ z2_ z3_ e1_ eq w0_ w1_ w2_ => by cases eq; exact ih _ _ _ _ _ w0_ w1_ w2_ h k0) (fun z0_ z1_ z2_ z3_ e1_ eq w0_ w1_ w2_ => by cases eq)
set_option maxHeartbeats 4000000 in
theorem ok_Mo_inWords_l25 {p : Program} {l : Launch} {e : Env} {s : State} {m : MethodId} {args : Array Value} {below : List Frame} {meth : Method} {c : Code} {D : va_G} {cA : Nat → ClassId} {ad : Nat → Nat} {A : Nat → Prop} (C : Cx p s m args c prog_14_method_42_code 7 "PollBooksModel" D cA ad 1 A) {Q : State → Prop} {x : (Int × Int × Int × Int × Dt)} (x1 x2 x3 x4 : Int) (d : Dt) (hx2 : c32 x2) (hx3 : c32 x3) (hx4 : c32 x4) (h : L_Mo_inWords_l25 x1 x2 x3 x4 d = some x) (k0 : ∀ (y0 y1 y2 y3 : Int) (e' : Dt), x = (y0, y1, y2, y3, e') → c32 y1 → c32 y2 → c32 y3 → G p l e rm_Mo_inWords s m args below meth c 0 0 Q 7 D cA ad 1 A 42 [(2, 0), (2, y0), (0, y1), (0, y2), (0, y3), (9, 0), (9, 0)] [] e') : G p l e rm_Mo_inWords s m args below meth c 0 0 Q 7 D cA ad 1 A 25 [(2, 0), (2, x1), (0, x2), (0, x3), (0, x4), (9, 0), (9, 0)] [] d :=
  ok_Mo_inWords_n25 C FU x1 x2 x3 x4 d hx2 hx3 hx4 h k0
set_option maxHeartbeats 4000000 in
theorem ok_Mo_inWords_b107 {p : Program} {l : Launch} {e : Env} {s : State} {m : MethodId} {args : Array Value} {below : List Frame} {meth : Method} {c : Code} {D : va_G} {cA : Nat → ClassId} {ad : Nat → Nat} {A : Nat → Prop} (C : Cx p s m args c prog_14_method_42_code 7 "PollBooksModel" D cA ad 1 A) {Q : State → Prop} {o : (Int × Int × Int × Int × Int × Int × Dt) ⊕ ((Int × Int × Int × Int × Dt))} (x1 x2 x3 x4 x6 s0 : Int) (d : Dt) (hx2 : c32 x2) (hx3 : c32 x3) (hx4 : c32 x4) (hx6 : c32 x6) (hs0 : cb s0) (h : L_Mo_inWords_b107 x1 x2 x3 x4 x6 s0 d = some o) (kb : ∀ (y0 y1 y2 y3 y4 y5 : Int) (e' : Dt), o = .inl (y0, y1, y2, y3, y4, y5, e') → c32 y1 → c32 y2 → c32 y3 → cb y4 → c32 y5 → G p l e rm_Mo_inWords s m args below meth c 0 0 Q 7 D cA ad 1 A 68 [(2, 0), (2, y0), (0, y1), (0, y2), (0, y3), (0, y4), (0, y5)] [] e') (k0 : ∀ (y0 y1 y2 y3 : Int) (e' : Dt), o = .inr (y0, y1, y2, y3, e') → c32 y1 → c32 y2 → cb y3 → G p l e rm_Mo_inWords s m args below meth c 0 0 Q 7 D cA ad 1 A 115 [(2, 0), (2, y0), (0, y1), (9, 0), (0, y2), (0, y3), (9, 0)] [] e') : G p l e rm_Mo_inWords s m args below meth c 0 0 Q 7 D cA ad 1 A 107 [(2, 0), (2, x1), (0, x2), (0, x3), (0, x4), (9, 0), (0, x6)] [(0, s0)] d := by
  unfold L_Mo_inWords_b107 at h
  refine s_istore C 5 (lo' := [(2, 0), (2, x1), (0, x2), (0, x3), (0, x4), (0, s0), (0, x6)]) (by decide) (s1k (s1k (s1k (s1k (s1n (by decide) s1z))))) (by decide +kernel) ?_
  refine s_iinc C 6 1 (lo' := [(2, 0), (2, x1), (0, x2), (0, x3), (0, x4), (0, s0), (0, (w32 (x6 + 1)))]) rfl (by decide) (s1k (s1k (s1k (s1k (s1k (s1n (by decide) s1z)))))) (by decide +kernel) ?_
  refine g_goto C 68 (off := (-44)) (by decide +kernel) (by decide) ?_
  refine g_sub (lo2 := [(2, 0), (2, x1), (0, x2), (0, x3), (0, x4), (0, s0), (0, (w32 (x6 + 1)))]) (lsb_v (lsb_v (lsb_v (lsb_v (lsb_v (lsb_v (lsb_v lsb_e))))))) ?_
  obtain rfl := Option.some.inj h
  exact kb x1 x2 x3 x4 s0 (w32 (x6 + 1)) d rfl hx2 hx3 hx4 hs0 (w32_c _)
set_option maxHeartbeats 4000000 in
theorem ok_Mo_inWords_y68 {p : Program} {l : Launch} {e : Env} {s : State} {m : MethodId} {args : Array Value} {below : List Frame} {meth : Method} {c : Code} {D : va_G} {cA : Nat → ClassId} {ad : Nat → Nat} {A : Nat → Prop} (C : Cx p s m args c prog_14_method_42_code 7 "PollBooksModel" D cA ad 1 A) {Q : State → Prop} {o : (Int × Int × Int × Int × Int × Int × Dt) ⊕ ((Int × Int × Int × Int × Dt))} (x1 x2 x3 x4 x5 x6 : Int) (d : Dt) (hx2 : c32 x2) (hx3 : c32 x3) (hx4 : c32 x4) (hx5 : cb x5) (hx6 : c32 x6) (h : L_Mo_inWords_y68 x1 x2 x3 x4 x5 x6 d = some o) (kb : ∀ (y0 y1 y2 y3 y4 y5 : Int) (e' : Dt), o = .inl (y0, y1, y2, y3, y4, y5, e') → c32 y1 → c32 y2 → c32 y3 → cb y4 → c32 y5 → G p l e rm_Mo_inWords s m args below meth c 0 0 Q 7 D cA ad 1 A 68 [(2, 0), (2, y0), (0, y1), (0, y2), (0, y3), (0, y4), (0, y5)] [] e') (k0 : ∀ (y0 y1 y2 y3 : Int) (e' : Dt), o = .inr (y0, y1, y2, y3, e') → c32 y1 → c32 y2 → cb y3 → G p l e rm_Mo_inWords s m args below meth c 0 0 Q 7 D cA ad 1 A 115 [(2, 0), (2, y0), (0, y1), (9, 0), (0, y2), (0, y3), (9, 0)] [] e') : G p l e rm_Mo_inWords s m args below meth c 0 0 Q 7 D cA ad 1 A 68 [(2, 0), (2, x1), (0, x2), (0, x3), (0, x4), (0, x5), (0, x6)] [] d := by
  unfold L_Mo_inWords_y68 at h
  refine g_iload C 6 rfl (by decide +kernel) ?_
  refine g_iload C 4 rfl (by decide +kernel) ?_
  refine g_icmp_ge C (off := 43) (tgt := 115) hx6 hx4 (by decide +kernel) (by decide) (fun hc7_ => ?_) (fun hc7_ => ?_)
  · replace h := ite_t hc7_ h
    refine g_iload C 5 rfl (by decide +kernel) ?_
    refine g_if_eq C (off := 38) (tgt := 115) (c32_cb hx5) (by decide +kernel) (by decide) (fun hc8_ => ?_) (fun hc8_ => ?_)
    · replace h := ite_t hc8_ h
      refine g_sub (lo2 := [(2, 0), (2, x1), (0, x2), (9, 0), (0, x4), (0, x5), (9, 0)]) (lsb_v (lsb_v (lsb_v (lsb_c (lsb_v (lsb_v (lsb_c lsb_e))))))) ?_
      obtain rfl := Option.some.inj h
      exact k0 x1 x2 x4 x5 d rfl hx2 hx4 hx5
    · replace h := ite_f hc8_ h
      refine g_aload_n C 1 rfl (by decide +kernel) ?_
      refine g_iload C 6 rfl (by decide +kernel) ?_
      obtain ⟨hs12_, h⟩ := ck_some h
      obtain ⟨r10_, d9_, hr11_, h⟩ := bd_some h
      refine g_callT C mw_Sg_charAt [(0, x6)] hs12_ (ok_Sg_charAt x1 x6 d hx6 hr11_) (ix := 404) lk_1899 lk_1900 lk_1901 ⟨rfl, rfl, Nat.le_of_ble_eq_true rfl, Nat.le_of_ble_eq_true rfl⟩ rfl (rest := []) rfl (Nat.le_of_ble_eq_true rfl) ⟨Nat.zero_le _, Nat.zero_le _⟩ (by decide +kernel) (fun _ hc13_ => ?_)
      replace hc13_ : 0 ≤ r10_ ∧ r10_ < 65536 := hc13_
      refine g_st (st2 := [(0, r10_)]) rfl ?_
      refine g_aload_n C 0 rfl (by decide +kernel) ?_
      refine g_aload_n C 0 rfl (by decide +kernel) ?_
      refine g_getI C cl12 0 35 rfl cd_B0 ⟨by decide, rfl, by decide⟩ rfl (nB (by decide)) (ix := 382) lk_1437 (by decide +kernel) (fun hc14_ => ?_)
      refine g_iload C 6 rfl (by decide +kernel) ?_
      refine g_iadd C (by decide +kernel) ?_
      refine g_iload_n C 3 rfl (by decide +kernel) ?_
      refine g_isub C (by decide +kernel) ?_
      obtain ⟨r16_, d15_, hr17_, h⟩ := bd_some h
      refine g_callV C mw_Mo_at [(0, (w32 ((w32 ((d9_ 0 35) + x6)) - x3)))] 0 cl12 rfl (ok_Mo_at (w32 ((w32 ((d9_ 0 35) + x6)) - x3)) d9_ (w32_c _) hr17_) cd_B0 (by decide) (nB (by decide)) (ix := 379) lk_1865 lk_1867 lkp_68 ⟨rfl, rfl, Nat.le_of_ble_eq_true rfl, Nat.le_of_ble_eq_true rfl⟩ rfl (rest := [(0, r10_)]) rfl (Nat.le_of_ble_eq_true rfl) ⟨Nat.zero_le _, Nat.zero_le _⟩ (by decide +kernel) (fun _ hc18_ => ?_)
      replace hc18_ : c32 r16_ := hc18_
      refine g_st (st2 := [(0, r16_), (0, r10_)]) rfl ?_
      refine g_icmp_ne C (off := 7) (tgt := 106) (c32_ch hc13_) hc18_ (by decide +kernel) (by decide) (fun hc19_ => ?_) (fun hc19_ => ?_)
      · replace h := ite_t hc19_ h
        refine g_iconst C 1 (cK rfl) (by decide +kernel) ?_
        refine g_goto C 107 (off := 4) (by decide +kernel) (by decide) ?_
        refine g_sub (lo2 := [(2, 0), (2, x1), (0, x2), (0, x3), (0, x4), (9, 0), (0, x6)]) (lsb_v (lsb_v (lsb_v (lsb_v (lsb_v (lsb_c (lsb_v lsb_e))))))) ?_
        exact ok_Mo_inWords_b107 C x1 x2 x3 x4 x6 1 d15_ hx2 hx3 hx4 hx6 (Or.inr rfl) h kb k0
      · replace h := ite_f hc19_ h
        refine g_iconst C 0 (cK rfl) (by decide +kernel) ?_
        refine g_sub (lo2 := [(2, 0), (2, x1), (0, x2), (0, x3), (0, x4), (9, 0), (0, x6)]) (lsb_v (lsb_v (lsb_v (lsb_v (lsb_v (lsb_c (lsb_v lsb_e))))))) ?_
        exact ok_Mo_inWords_b107 C x1 x2 x3 x4 x6 0 d15_ hx2 hx3 hx4 hx6 (Or.inl rfl) h kb k0
  · replace h := ite_f hc7_ h
    refine g_sub (lo2 := [(2, 0), (2, x1), (0, x2), (9, 0), (0, x4), (0, x5), (9, 0)]) (lsb_v (lsb_v (lsb_v (lsb_c (lsb_v (lsb_v (lsb_c lsb_e))))))) ?_
    obtain rfl := Option.some.inj h
    exact k0 x1 x2 x4 x5 d rfl hx2 hx4 hx5
set_option maxHeartbeats 4000000 in
theorem ok_Mo_inWords_n68 {p : Program} {l : Launch} {e : Env} {s : State} {m : MethodId} {args : Array Value} {below : List Frame} {meth : Method} {c : Code} {D : va_G} {cA : Nat → ClassId} {ad : Nat → Nat} {A : Nat → Prop} (C : Cx p s m args c prog_14_method_42_code 7 "PollBooksModel" D cA ad 1 A) {Q : State → Prop} {x : (Int × Int × Int × Int × Dt)} : ∀ (n : Nat) (x1 x2 x3 x4 x5 x6 : Int) (d : Dt), c32 x2 → c32 x3 → c32 x4 → cb x5 → c32 x6 → lpF (fun q : Int × Int × Int × Int × Int × Int × Dt => L_Mo_inWords_y68 q.1 q.2.1 q.2.2.1 q.2.2.2.1 q.2.2.2.2.1 q.2.2.2.2.2.1 q.2.2.2.2.2.2) n (x1, x2, x3, x4, x5, x6, d) = some x → (∀ (y0 y1 y2 y3 : Int) (e' : Dt), x = (y0, y1, y2, y3, e') → c32 y1 → c32 y2 → cb y3 → G p l e rm_Mo_inWords s m args below meth c 0 0 Q 7 D cA ad 1 A 115 [(2, 0), (2, y0), (0, y1), (9, 0), (0, y2), (0, y3), (9, 0)] [] e') → G p l e rm_Mo_inWords s m args below meth c 0 0 Q 7 D cA ad 1 A 68 [(2, 0), (2, x1), (0, x2), (0, x3), (0, x4), (0, x5), (0, x6)] [] d := by
  intro n
  induction n with
  | zero => intro x1 x2 x3 x4 x5 x6 d g0 g1 g2 g3 g4 h k0; cases h
  | succ n ih =>
    intro x1 x2 x3 x4 x5 x6 d g0 g1 g2 g3 g4 h k0
    rcases lpF_some h with h | ⟨⟨v0_, v1_, v2_, v3_, v4_, v5_, e0_⟩, h1, h⟩
    · exact ok_Mo_inWords_y68 C x1 x2 x3 x4 x5 x6 d g0 g1 g2 g3 g4 h (fun z0_ z1_ z2_ z3_ z4_ z5_ e1_ eq w0_ w1_ w2_ w3_ w4_ => by cases eq) (fun z0_ z1_ z2_ z3_ e1_ eq w0_ w1_ w2_ => k0 _ _ _ _ _ (by cases eq; rfl) w0_ w1_ w2_)
    · exact ok_Mo_inWords_y68 C x1 x2 x3 x4 x5 x6 d g0 g1 g2 g3 g4 h1 (fun z0_ z1_ z2_ z3_ z4_ z5_ e1_ eq w0_ w1_ w2_ w3_ w4_ => by cases eq; exact ih _ _ _ _ _ _ _ w0_ w1_ w2_ w3_ w4_ h k0) (fun z0_ z1_ z2_ z3_ e1_ eq w0_ w1_ w2_ => by cases eq)
set_option maxHeartbeats 4000000 in
theorem ok_Mo_inWords_l68 {p : Program} {l : Launch} {e : Env} {s : State} {m : MethodId} {args : Array Value} {below : List Frame} {meth : Method} {c : Code} {D : va_G} {cA : Nat → ClassId} {ad : Nat → Nat} {A : Nat → Prop} (C : Cx p s m args c prog_14_method_42_code 7 "PollBooksModel" D cA ad 1 A) {Q : State → Prop} {x : (Int × Int × Int × Int × Dt)} (x1 x2 x3 x4 x5 x6 : Int) (d : Dt) (hx2 : c32 x2) (hx3 : c32 x3) (hx4 : c32 x4) (hx5 : cb x5) (hx6 : c32 x6) (h : L_Mo_inWords_l68 x1 x2 x3 x4 x5 x6 d = some x) (k0 : ∀ (y0 y1 y2 y3 : Int) (e' : Dt), x = (y0, y1, y2, y3, e') → c32 y1 → c32 y2 → cb y3 → G p l e rm_Mo_inWords s m args below meth c 0 0 Q 7 D cA ad 1 A 115 [(2, 0), (2, y0), (0, y1), (9, 0), (0, y2), (0, y3), (9, 0)] [] e') : G p l e rm_Mo_inWords s m args below meth c 0 0 Q 7 D cA ad 1 A 68 [(2, 0), (2, x1), (0, x2), (0, x3), (0, x4), (0, x5), (0, x6)] [] d :=
  ok_Mo_inWords_n68 C FU x1 x2 x3 x4 x5 x6 d hx2 hx3 hx4 hx5 hx6 h k0
set_option maxHeartbeats 4000000 in
theorem ok_Mo_inWords_b115 {p : Program} {l : Launch} {e : Env} {s : State} {m : MethodId} {args : Array Value} {below : List Frame} {meth : Method} {c : Code} {D : va_G} {cA : Nat → ClassId} {ad : Nat → Nat} {A : Nat → Prop} (C : Cx p s m args c prog_14_method_42_code 7 "PollBooksModel" D cA ad 1 A) {Q : State → Prop} {o : (Int × Int × Int × Dt) ⊕ ((Dt) ⊕ (Int × Dt))} (x1 x2 x4 x5 : Int) (d : Dt) (hx2 : c32 x2) (hx4 : c32 x4) (hx5 : cb x5) (h : L_Mo_inWords_b115 x1 x2 x4 x5 d = some o) (kb : ∀ (y0 y1 y2 : Int) (e' : Dt), o = .inl (y0, y1, y2, e') → c32 y1 → c32 y2 → G p l e rm_Mo_inWords s m args below meth c 0 0 Q 7 D cA ad 1 A 14 [(2, 0), (2, y0), (0, y1), (0, y2), (9, 0), (9, 0), (9, 0)] [] e') (k0 : ∀ (e' : Dt), o = .inr (Sum.inl (e')) → G p l e rm_Mo_inWords s m args below meth c 0 0 Q 7 D cA ad 1 A 133 [(9, 0), (9, 0), (9, 0), (9, 0), (9, 0), (9, 0), (9, 0)] [] e') (k1 : ∀ (y0 : Int) (e' : Dt), o = .inr (Sum.inr (y0, e')) → c32 y0 → G p l e rm_Mo_inWords s m args below meth c 0 0 Q 7 D cA ad 1 A 120 [(9, 0), (9, 0), (0, y0), (9, 0), (9, 0), (9, 0), (9, 0)] [] e') : G p l e rm_Mo_inWords s m args below meth c 0 0 Q 7 D cA ad 1 A 115 [(2, 0), (2, x1), (0, x2), (9, 0), (0, x4), (0, x5), (9, 0)] [] d := by
  unfold L_Mo_inWords_b115 at h
  refine g_iload C 5 rfl (by decide +kernel) ?_
  refine g_if_eq C (off := 5) (tgt := 122) (c32_cb hx5) (by decide +kernel) (by decide) (fun hc20_ => ?_) (fun hc20_ => ?_)
  · replace h := ite_t hc20_ h
    refine s_iinc C 2 1 (lo' := [(2, 0), (2, x1), (0, (w32 (x2 + 1))), (9, 0), (0, x4), (0, x5), (9, 0)]) rfl (by decide) (s1k (s1n (by decide) s1z)) (by decide +kernel) ?_
    refine g_iload C 4 rfl (by decide +kernel) ?_
    refine g_iconst C 1 (cK rfl) (by decide +kernel) ?_
    refine g_iadd C (by decide +kernel) ?_
    obtain ⟨v21_, ev22_, h⟩ := lt_some h
    refine g_val ev22_.symm ?_
    have hv23_ : c32 v21_ := by rw [ev22_]; exact (w32_c _)
    refine s_istore_n C 3 (lo' := [(2, 0), (2, x1), (0, (w32 (x2 + 1))), (0, v21_), (0, x4), (0, x5), (9, 0)]) (by decide) (s1k (s1k (s1n (by decide) s1z))) (by decide +kernel) ?_
    refine g_goto C 14 (off := (-116)) (by decide +kernel) (by decide) ?_
    refine g_sub (lo2 := [(2, 0), (2, x1), (0, (w32 (x2 + 1))), (0, v21_), (9, 0), (9, 0), (9, 0)]) (lsb_v (lsb_v (lsb_v (lsb_v (lsb_c (lsb_c (lsb_c lsb_e))))))) ?_
    obtain rfl := Option.some.inj h
    exact kb x1 (w32 (x2 + 1)) v21_ d rfl (w32_c _) hv23_
  · replace h := ite_f hc20_ h
    refine g_sub (lo2 := [(9, 0), (9, 0), (0, x2), (9, 0), (9, 0), (9, 0), (9, 0)]) (lsb_c (lsb_c (lsb_v (lsb_c (lsb_c (lsb_c (lsb_c lsb_e))))))) ?_
    obtain rfl := Option.some.inj h
    exact k1 x2 d rfl hx2
set_option maxHeartbeats 4000000 in
theorem ok_Mo_inWords_b63 {p : Program} {l : Launch} {e : Env} {s : State} {m : MethodId} {args : Array Value} {below : List Frame} {meth : Method} {c : Code} {D : va_G} {cA : Nat → ClassId} {ad : Nat → Nat} {A : Nat → Prop} (C : Cx p s m args c prog_14_method_42_code 7 "PollBooksModel" D cA ad 1 A) {Q : State → Prop} {o : (Int × Int × Int × Dt) ⊕ ((Dt) ⊕ (Int × Dt))} (x1 x2 x3 x4 s0 : Int) (d : Dt) (hx2 : c32 x2) (hx3 : c32 x3) (hx4 : c32 x4) (hs0 : cb s0) (h : L_Mo_inWords_b63 x1 x2 x3 x4 s0 d = some o) (kb : ∀ (y0 y1 y2 : Int) (e' : Dt), o = .inl (y0, y1, y2, e') → c32 y1 → c32 y2 → G p l e rm_Mo_inWords s m args below meth c 0 0 Q 7 D cA ad 1 A 14 [(2, 0), (2, y0), (0, y1), (0, y2), (9, 0), (9, 0), (9, 0)] [] e') (k0 : ∀ (e' : Dt), o = .inr (Sum.inl (e')) → G p l e rm_Mo_inWords s m args below meth c 0 0 Q 7 D cA ad 1 A 133 [(9, 0), (9, 0), (9, 0), (9, 0), (9, 0), (9, 0), (9, 0)] [] e') (k1 : ∀ (y0 : Int) (e' : Dt), o = .inr (Sum.inr (y0, e')) → c32 y0 → G p l e rm_Mo_inWords s m args below meth c 0 0 Q 7 D cA ad 1 A 120 [(9, 0), (9, 0), (0, y0), (9, 0), (9, 0), (9, 0), (9, 0)] [] e') : G p l e rm_Mo_inWords s m args below meth c 0 0 Q 7 D cA ad 1 A 63 [(2, 0), (2, x1), (0, x2), (0, x3), (0, x4), (9, 0), (9, 0)] [(0, s0)] d := by
  unfold L_Mo_inWords_b63 at h
  refine s_istore C 5 (lo' := [(2, 0), (2, x1), (0, x2), (0, x3), (0, x4), (0, s0), (9, 0)]) (by decide) (s1k (s1k (s1k (s1k (s1n (by decide) s1z))))) (by decide +kernel) ?_
  refine g_iload_n C 3 rfl (by decide +kernel) ?_
  refine s_istore C 6 (lo' := [(2, 0), (2, x1), (0, x2), (0, x3), (0, x4), (0, s0), (0, x3)]) (by decide) (s1k (s1k (s1k (s1k (s1k (s1n (by decide) s1z)))))) (by decide +kernel) ?_
  refine g_sub (lo2 := [(2, 0), (2, x1), (0, x2), (0, x3), (0, x4), (0, s0), (0, x3)]) (lsb_v (lsb_v (lsb_v (lsb_v (lsb_v (lsb_v (lsb_v lsb_e))))))) ?_
  obtain ⟨x24_, hx25_, h⟩ := lb_some h
  refine ok_Mo_inWords_l68 C x1 x2 x3 x4 s0 x3 d hx2 hx3 hx4 hs0 hx3 hx25_ (fun v26_ v27_ v28_ v29_ d30_ eq31_ hv27_ hv28_ hv29_ => ?_)
  subst eq31_
  replace h := u4_e h
  refine g_sub (lo2 := [(2, 0), (2, v26_), (0, v27_), (9, 0), (0, v28_), (0, v29_), (9, 0)]) (lsb_v (lsb_v (lsb_v (lsb_c (lsb_v (lsb_v (lsb_c lsb_e))))))) ?_
  exact ok_Mo_inWords_b115 C v26_ v27_ v28_ v29_ d30_ hv27_ hv28_ hv29_ h kb k0 k1
set_option maxHeartbeats 4000000 in
theorem ok_Mo_inWords_y14 {p : Program} {l : Launch} {e : Env} {s : State} {m : MethodId} {args : Array Value} {below : List Frame} {meth : Method} {c : Code} {D : va_G} {cA : Nat → ClassId} {ad : Nat → Nat} {A : Nat → Prop} (C : Cx p s m args c prog_14_method_42_code 7 "PollBooksModel" D cA ad 1 A) {Q : State → Prop} {o : (Int × Int × Int × Dt) ⊕ ((Dt) ⊕ (Int × Dt))} (x1 x2 x3 : Int) (d : Dt) (hx2 : c32 x2) (hx3 : c32 x3) (h : L_Mo_inWords_y14 x1 x2 x3 d = some o) (kb : ∀ (y0 y1 y2 : Int) (e' : Dt), o = .inl (y0, y1, y2, e') → c32 y1 → c32 y2 → G p l e rm_Mo_inWords s m args below meth c 0 0 Q 7 D cA ad 1 A 14 [(2, 0), (2, y0), (0, y1), (0, y2), (9, 0), (9, 0), (9, 0)] [] e') (k0 : ∀ (e' : Dt), o = .inr (Sum.inl (e')) → G p l e rm_Mo_inWords s m args below meth c 0 0 Q 7 D cA ad 1 A 133 [(9, 0), (9, 0), (9, 0), (9, 0), (9, 0), (9, 0), (9, 0)] [] e') (k1 : ∀ (y0 : Int) (e' : Dt), o = .inr (Sum.inr (y0, e')) → c32 y0 → G p l e rm_Mo_inWords s m args below meth c 0 0 Q 7 D cA ad 1 A 120 [(9, 0), (9, 0), (0, y0), (9, 0), (9, 0), (9, 0), (9, 0)] [] e') : G p l e rm_Mo_inWords s m args below meth c 0 0 Q 7 D cA ad 1 A 14 [(2, 0), (2, x1), (0, x2), (0, x3), (9, 0), (9, 0), (9, 0)] [] d := by
  unfold L_Mo_inWords_y14 at h
  refine g_iload_n C 3 rfl (by decide +kernel) ?_
  refine g_aload_n C 1 rfl (by decide +kernel) ?_
  obtain ⟨hs36_, h⟩ := ck_some h
  obtain ⟨r34_, d33_, hr35_, h⟩ := bd_some h
  refine g_callT C mw_Sg_length [] hs36_ (ok_Sg_length x1 d  hr35_) (ix := 398) lk_1889 lk_1890 lk_1891 ⟨rfl, rfl, Nat.le_of_ble_eq_true rfl, Nat.le_of_ble_eq_true rfl⟩ rfl (rest := [(0, x3)]) rfl (Nat.le_of_ble_eq_true rfl) ⟨Nat.zero_le _, Nat.zero_le _⟩ (by decide +kernel) (fun _ hc37_ => ?_)
  replace hc37_ : c32 r34_ := hc37_
  refine g_st (st2 := [(0, r34_), (0, x3)]) rfl ?_
  refine g_icmp_ge C (off := 114) (tgt := 133) hx3 hc37_ (by decide +kernel) (by decide) (fun hc38_ => ?_) (fun hc38_ => ?_)
  · replace h := ite_t hc38_ h
    refine g_iload_n C 3 rfl (by decide +kernel) ?_
    refine s_istore C 4 (lo' := [(2, 0), (2, x1), (0, x2), (0, x3), (0, x3), (9, 0), (9, 0)]) (by decide) (s1k (s1k (s1k (s1n (by decide) s1z)))) (by decide +kernel) ?_
    refine g_sub (lo2 := [(2, 0), (2, x1), (0, x2), (0, x3), (0, x3), (9, 0), (9, 0)]) (lsb_v (lsb_v (lsb_v (lsb_v (lsb_v (lsb_c (lsb_c lsb_e))))))) ?_
    obtain ⟨x39_, hx40_, h⟩ := lb_some h
    refine ok_Mo_inWords_l25 C x1 x2 x3 x3 d33_ hx2 hx3 hx3 hx40_ (fun v41_ v42_ v43_ v44_ d45_ eq46_ hv42_ hv43_ hv44_ => ?_)
    subst eq46_
    replace h := u4_e h
    refine g_iload C 4 rfl (by decide +kernel) ?_
    refine g_iload_n C 3 rfl (by decide +kernel) ?_
    refine g_isub C (by decide +kernel) ?_
    refine g_aload_n C 0 rfl (by decide +kernel) ?_
    refine g_getI C cl12 0 36 rfl cd_B0 ⟨by decide, rfl, by decide⟩ rfl (nB (by decide)) (ix := 376) lk_1438 (by decide +kernel) (fun hc47_ => ?_)
    refine g_aload_n C 0 rfl (by decide +kernel) ?_
    refine g_getI C cl12 0 35 rfl cd_B0 ⟨by decide, rfl, by decide⟩ rfl (nB (by decide)) (ix := 382) lk_1437 (by decide +kernel) (fun hc48_ => ?_)
    refine g_isub C (by decide +kernel) ?_
    refine g_icmp_ne C (off := 7) (tgt := 62) (w32_c _) (w32_c _) (by decide +kernel) (by decide) (fun hc49_ => ?_) (fun hc49_ => ?_)
    · replace h := ite_t hc49_ h
      refine g_iconst C 1 (cK rfl) (by decide +kernel) ?_
      refine g_goto C 63 (off := 4) (by decide +kernel) (by decide) ?_
      refine g_sub (lo2 := [(2, 0), (2, v41_), (0, v42_), (0, v43_), (0, v44_), (9, 0), (9, 0)]) (lsb_v (lsb_v (lsb_v (lsb_v (lsb_v (lsb_c (lsb_c lsb_e))))))) ?_
      exact ok_Mo_inWords_b63 C v41_ v42_ v43_ v44_ 1 d45_ hv42_ hv43_ hv44_ (Or.inr rfl) h kb k0 k1
    · replace h := ite_f hc49_ h
      refine g_iconst C 0 (cK rfl) (by decide +kernel) ?_
      refine g_sub (lo2 := [(2, 0), (2, v41_), (0, v42_), (0, v43_), (0, v44_), (9, 0), (9, 0)]) (lsb_v (lsb_v (lsb_v (lsb_v (lsb_v (lsb_c (lsb_c lsb_e))))))) ?_
      exact ok_Mo_inWords_b63 C v41_ v42_ v43_ v44_ 0 d45_ hv42_ hv43_ hv44_ (Or.inl rfl) h kb k0 k1
  · replace h := ite_f hc38_ h
    refine g_sub (lo2 := [(9, 0), (9, 0), (9, 0), (9, 0), (9, 0), (9, 0), (9, 0)]) (lsb_c (lsb_c (lsb_c (lsb_c (lsb_c (lsb_c (lsb_c lsb_e))))))) ?_
    obtain rfl := Option.some.inj h
    exact k0 d33_ rfl 
set_option maxHeartbeats 4000000 in
theorem ok_Mo_inWords_n14 {p : Program} {l : Launch} {e : Env} {s : State} {m : MethodId} {args : Array Value} {below : List Frame} {meth : Method} {c : Code} {D : va_G} {cA : Nat → ClassId} {ad : Nat → Nat} {A : Nat → Prop} (C : Cx p s m args c prog_14_method_42_code 7 "PollBooksModel" D cA ad 1 A) {Q : State → Prop} {x : (Dt) ⊕ (Int × Dt)} : ∀ (n : Nat) (x1 x2 x3 : Int) (d : Dt), c32 x2 → c32 x3 → lpF (fun q : Int × Int × Int × Dt => L_Mo_inWords_y14 q.1 q.2.1 q.2.2.1 q.2.2.2) n (x1, x2, x3, d) = some x → (∀ (e' : Dt), x = (Sum.inl (e')) → G p l e rm_Mo_inWords s m args below meth c 0 0 Q 7 D cA ad 1 A 133 [(9, 0), (9, 0), (9, 0), (9, 0), (9, 0), (9, 0), (9, 0)] [] e') → (∀ (y0 : Int) (e' : Dt), x = (Sum.inr (y0, e')) → c32 y0 → G p l e rm_Mo_inWords s m args below meth c 0 0 Q 7 D cA ad 1 A 120 [(9, 0), (9, 0), (0, y0), (9, 0), (9, 0), (9, 0), (9, 0)] [] e') → G p l e rm_Mo_inWords s m args below meth c 0 0 Q 7 D cA ad 1 A 14 [(2, 0), (2, x1), (0, x2), (0, x3), (9, 0), (9, 0), (9, 0)] [] d := by
  intro n
  induction n with
  | zero => intro x1 x2 x3 d g0 g1 h k0 k1; cases h
  | succ n ih =>
    intro x1 x2 x3 d g0 g1 h k0 k1
    rcases lpF_some h with h | ⟨⟨v0_, v1_, v2_, e0_⟩, h1, h⟩
    · exact ok_Mo_inWords_y14 C x1 x2 x3 d g0 g1 h (fun z0_ z1_ z2_ e1_ eq w0_ w1_ => by cases eq) (fun e1_ eq => k0 _ (by cases eq; rfl) ) (fun z0_ e1_ eq w0_ => k1 _ _ (by cases eq; rfl) w0_)
    · exact ok_Mo_inWords_y14 C x1 x2 x3 d g0 g1 h1 (fun z0_ z1_ z2_ e1_ eq w0_ w1_ => by cases eq; exact ih _ _ _ _ w0_ w1_ h k0 k1) (fun e1_ eq => by cases eq) (fun z0_ e1_ eq w0_ => by cases eq)
set_option maxHeartbeats 4000000 in
theorem ok_Mo_inWords_l14 {p : Program} {l : Launch} {e : Env} {s : State} {m : MethodId} {args : Array Value} {below : List Frame} {meth : Method} {c : Code} {D : va_G} {cA : Nat → ClassId} {ad : Nat → Nat} {A : Nat → Prop} (C : Cx p s m args c prog_14_method_42_code 7 "PollBooksModel" D cA ad 1 A) {Q : State → Prop} {x : (Dt) ⊕ (Int × Dt)} (x1 x2 x3 : Int) (d : Dt) (hx2 : c32 x2) (hx3 : c32 x3) (h : L_Mo_inWords_l14 x1 x2 x3 d = some x) (k0 : ∀ (e' : Dt), x = (Sum.inl (e')) → G p l e rm_Mo_inWords s m args below meth c 0 0 Q 7 D cA ad 1 A 133 [(9, 0), (9, 0), (9, 0), (9, 0), (9, 0), (9, 0), (9, 0)] [] e') (k1 : ∀ (y0 : Int) (e' : Dt), x = (Sum.inr (y0, e')) → c32 y0 → G p l e rm_Mo_inWords s m args below meth c 0 0 Q 7 D cA ad 1 A 120 [(9, 0), (9, 0), (0, y0), (9, 0), (9, 0), (9, 0), (9, 0)] [] e') : G p l e rm_Mo_inWords s m args below meth c 0 0 Q 7 D cA ad 1 A 14 [(2, 0), (2, x1), (0, x2), (0, x3), (9, 0), (9, 0), (9, 0)] [] d :=
  ok_Mo_inWords_n14 C FU x1 x2 x3 d hx2 hx3 h k0 k1
set_option maxHeartbeats 4000000 in
theorem ok_Mo_inWords {l : Launch} {r : Int} {d' : Dt} (p1 : Int) (d : Dt)  (h : L_Mo_inWords p1 d = some (r, d')) : MC l y_Mo_inWords prog_14_method_42_code 7 (some .int) rm_Mo_inWords 1 [(2, 0), (2, p1)] d (some (0, r)) d' := by
  refine MC.of (by decide) (Nat.le_of_ble_eq_true rfl) ?_
  intro p e s m args below meth c D cA ad A C hlk hr
  replace C : Cx p s m args c prog_14_method_42_code 7 "PollBooksModel" D cA ad 1 A := C
  show G p l e rm_Mo_inWords s m args below meth c 0 0 (MQ below (fun _ => QC D cA ad 1 A (some .int) (some (0, r)) d') args s 0 0 A) 7 D cA ad 1 A 0 [(2, 0), (2, p1)] [] d
  refine g_sub (lo2 := [(2, 0), (2, p1), (9, 0), (9, 0), (9, 0), (9, 0), (9, 0)]) (lsb_v (lsb_v (lsb_n (lsb_n (lsb_n (lsb_n (lsb_n lsb_e))))))) ?_
  unfold L_Mo_inWords at h
  refine g_aload_n C 0 rfl (by decide +kernel) ?_
  refine g_getI C cl12 0 34 rfl cd_B0 ⟨by decide, rfl, by decide⟩ rfl (nB (by decide)) (ix := 388) lk_1436 (by decide +kernel) (fun hc51_ => ?_)
  refine g_iconst C 2 (cK rfl) (by decide +kernel) ?_
  refine g_icmp_eq C (off := 5) (tgt := 10) hc51_ (cK rfl) (by decide +kernel) (by decide) (fun hc52_ => ?_) (fun hc52_ => ?_)
  · replace h := ite_t hc52_ h
    refine g_iconst C 0 (cK rfl) (by decide +kernel) ?_
    refine s_istore_n C 2 (lo' := [(2, 0), (2, p1), (0, 0), (9, 0), (9, 0), (9, 0), (9, 0)]) (by decide) (s1k (s1n (by decide) s1z)) (by decide +kernel) ?_
    refine g_iconst C 1 (cK rfl) (by decide +kernel) ?_
    refine s_istore_n C 3 (lo' := [(2, 0), (2, p1), (0, 0), (0, 1), (9, 0), (9, 0), (9, 0)]) (by decide) (s1k (s1k (s1n (by decide) s1z))) (by decide +kernel) ?_
    refine g_sub (lo2 := [(2, 0), (2, p1), (0, 0), (0, 1), (9, 0), (9, 0), (9, 0)]) (lsb_v (lsb_v (lsb_v (lsb_v (lsb_c (lsb_c (lsb_c lsb_e))))))) ?_
    obtain ⟨x53_, hx54_, h⟩ := lb_some h
    refine ok_Mo_inWords_l14 C p1 0 1 d (c32_cb (Or.inl rfl)) (c32_cb (Or.inr rfl)) hx54_ (fun d55_ eq56_ => ?_) (fun v57_ d58_ eq59_ hv57_ => ?_)
    · subst eq56_
      replace h := sml_e h
      replace h := u0_e h
      refine g_iconst C (-1) (cK rfl) (by decide +kernel) ?_
      obtain ⟨rfl, rfl⟩ := ret_inj h
      exact g_iret C (cK rfl) hlk hr (by decide +kernel)
    · subst eq59_
      replace h := smr_e h
      replace h := u1_e h
      refine g_iload_n C 2 rfl (by decide +kernel) ?_
      obtain ⟨rfl, rfl⟩ := ret_inj h
      exact g_iret C hv57_ hlk hr (by decide +kernel)
  · replace h := ite_f hc52_ h
    refine g_iconst C (-1) (cK rfl) (by decide +kernel) ?_
    obtain ⟨rfl, rfl⟩ := ret_inj h
    exact g_iret C (cK rfl) hlk hr (by decide +kernel)
/-! PollBooksModel.labelHere()J -/
def y_Mo_labelHere : MethodName := ⟨"PollBooksModel", "labelHere", "()J"⟩
def rm_Mo_labelHere : Room := { frames := 5, cells := 0, slots := 0, locals := 111 }
theorem mw_Mo_labelHere : MW y_Mo_labelHere prog_14_method_50_code 4 (some .long) 0 := ⟨lk_1883, lk_14, by decide +kernel⟩
def L_Mo_labelHere_y55 (x1 x3 : Int) (d : Dt) : Option ((Int × Int × Dt) ⊕ ((Int × Dt))) :=
  if x3 < (d 0 36) then bd (L_Mo_at x3 d) (fun r4_ d3_ => lt_ (lor (lshl x1 8) r4_) (fun v7_ => some (Sum.inl (v7_, (w32 (x3 + 1)), d3_)))) else some (Sum.inr (x1, d))
def L_Mo_labelHere_l55 (x1 x3 : Int) (d : Dt) : Option ((Int × Dt)) := lpF (fun q : Int × Int × Dt => L_Mo_labelHere_y55 q.1 q.2.1 q.2.2) FU (x1, x3, d)
def L_Mo_labelHere_b44 (d : Dt) : Option (Int × Dt) :=
  some ((-1), d)
def L_Mo_labelHere (d : Dt) : Option (Int × Dt) :=
  if (d 0 34) = 2 then if 8 < (w32 ((d 0 36) - (d 0 35))) then L_Mo_labelHere_b44 d else bd (L_Mo_inWords 1000003 d) (fun r16_ d15_ => if r16_ = (-1) then bd (L_Mo_inWords 1000004 d15_) (fun r21_ d20_ => if r21_ = (-1) then lt_ (d20_ 0 35) (fun v26_ => lb (L_Mo_labelHere_l55 0 v26_ d20_) (fun q34_ => u1 q34_ (fun v31_ d32_ => some (v31_, d32_)))) else L_Mo_labelHere_b44 d20_) else L_Mo_labelHere_b44 d15_) else L_Mo_labelHere_b44 d
set_option maxHeartbeats 4000000 in
theorem ok_Mo_labelHere_y55 {p : Program} {l : Launch} {e : Env} {s : State} {m : MethodId} {args : Array Value} {below : List Frame} {meth : Method} {c : Code} {D : va_G} {cA : Nat → ClassId} {ad : Nat → Nat} {A : Nat → Prop} (C : Cx p s m args c prog_14_method_50_code 4 "PollBooksModel" D cA ad 1 A) {Q : State → Prop} {o : (Int × Int × Dt) ⊕ ((Int × Dt))} (x1 x3 : Int) (d : Dt) (hx1 : c64 x1) (hx3 : c32 x3) (h : L_Mo_labelHere_y55 x1 x3 d = some o) (kb : ∀ (y0 y1 : Int) (e' : Dt), o = .inl (y0, y1, e') → c64 y0 → c32 y1 → G p l e rm_Mo_labelHere s m args below meth c 0 0 Q 4 D cA ad 1 A 55 [(2, 0), (1, y0), (9, 0), (0, y1)] [] e') (k0 : ∀ (y0 : Int) (e' : Dt), o = .inr (y0, e') → c64 y0 → G p l e rm_Mo_labelHere s m args below meth c 0 0 Q 4 D cA ad 1 A 81 [(9, 0), (1, y0), (9, 0), (9, 0)] [] e') : G p l e rm_Mo_labelHere s m args below meth c 0 0 Q 4 D cA ad 1 A 55 [(2, 0), (1, x1), (9, 0), (0, x3)] [] d := by
  unfold L_Mo_labelHere_y55 at h
  refine g_iload_n C 3 rfl (by decide +kernel) ?_
  refine g_aload_n C 0 rfl (by decide +kernel) ?_
  refine g_getI C cl12 0 36 rfl cd_B0 ⟨by decide, rfl, by decide⟩ rfl (nB (by decide)) (ix := 376) lk_1438 (by decide +kernel) (fun hc1_ => ?_)
  refine g_icmp_ge C (off := 21) (tgt := 81) hx3 hc1_ (by decide +kernel) (by decide) (fun hc2_ => ?_) (fun hc2_ => ?_)
  · replace h := ite_t hc2_ h
    refine g_lload_n C 1 rfl (by decide +kernel) ?_
    refine g_bipush C 8 (by decide) (by decide +kernel) ?_
    refine g_lshl C (by decide +kernel) ?_
    refine g_aload_n C 0 rfl (by decide +kernel) ?_
    refine g_iload_n C 3 rfl (by decide +kernel) ?_
    obtain ⟨r4_, d3_, hr5_, h⟩ := bd_some h
    refine g_callV C mw_Mo_at [(0, x3)] 0 cl12 rfl (ok_Mo_at x3 d hx3 hr5_) cd_B0 (by decide) (nB (by decide)) (ix := 379) lk_1865 lk_1867 lkp_68 ⟨rfl, rfl, Nat.le_of_ble_eq_true rfl, Nat.le_of_ble_eq_true rfl⟩ rfl (rest := [(1, (lshl x1 8))]) rfl (Nat.le_of_ble_eq_true rfl) ⟨Nat.zero_le _, Nat.zero_le _⟩ (by decide +kernel) (fun _ hc6_ => ?_)
    replace hc6_ : c32 r4_ := hc6_
    refine g_st (st2 := [(0, r4_), (1, (lshl x1 8))]) rfl ?_
    refine g_i2l C hc6_ (by decide +kernel) ?_
    refine g_lor C (by decide +kernel) ?_
    obtain ⟨v7_, ev8_, h⟩ := lt_some h
    refine g_val ev8_.symm ?_
    have hv9_ : c64 v7_ := by rw [ev8_]; exact (l_c _)
    refine s_lstore_n C 1 (lo' := [(2, 0), (1, v7_), (9, 0), (0, x3)]) (by decide) (s2n (by decide) s2z) (by decide +kernel) ?_
    refine s_iinc C 3 1 (lo' := [(2, 0), (1, v7_), (9, 0), (0, (w32 (x3 + 1)))]) rfl (by decide) (s1k (s1k (s1n (by decide) s1z))) (by decide +kernel) ?_
    refine g_goto C 55 (off := (-23)) (by decide +kernel) (by decide) ?_
    refine g_sub (lo2 := [(2, 0), (1, v7_), (9, 0), (0, (w32 (x3 + 1)))]) (lsb_v (lsb_v (lsb_c (lsb_v lsb_e)))) ?_
    obtain rfl := Option.some.inj h
    exact kb v7_ (w32 (x3 + 1)) d3_ rfl hv9_ (w32_c _)
  · replace h := ite_f hc2_ h
    refine g_sub (lo2 := [(9, 0), (1, x1), (9, 0), (9, 0)]) (lsb_c (lsb_v (lsb_c (lsb_c lsb_e)))) ?_
    obtain rfl := Option.some.inj h
    exact k0 x1 d rfl hx1
set_option maxHeartbeats 4000000 in
theorem ok_Mo_labelHere_n55 {p : Program} {l : Launch} {e : Env} {s : State} {m : MethodId} {args : Array Value} {below : List Frame} {meth : Method} {c : Code} {D : va_G} {cA : Nat → ClassId} {ad : Nat → Nat} {A : Nat → Prop} (C : Cx p s m args c prog_14_method_50_code 4 "PollBooksModel" D cA ad 1 A) {Q : State → Prop} {x : (Int × Dt)} : ∀ (n : Nat) (x1 x3 : Int) (d : Dt), c64 x1 → c32 x3 → lpF (fun q : Int × Int × Dt => L_Mo_labelHere_y55 q.1 q.2.1 q.2.2) n (x1, x3, d) = some x → (∀ (y0 : Int) (e' : Dt), x = (y0, e') → c64 y0 → G p l e rm_Mo_labelHere s m args below meth c 0 0 Q 4 D cA ad 1 A 81 [(9, 0), (1, y0), (9, 0), (9, 0)] [] e') → G p l e rm_Mo_labelHere s m args below meth c 0 0 Q 4 D cA ad 1 A 55 [(2, 0), (1, x1), (9, 0), (0, x3)] [] d := by
  intro n
  induction n with
  | zero => intro x1 x3 d g0 g1 h k0; cases h
  | succ n ih =>
    intro x1 x3 d g0 g1 h k0
    rcases lpF_some h with h | ⟨⟨v0_, v1_, e0_⟩, h1, h⟩
    · exact ok_Mo_labelHere_y55 C x1 x3 d g0 g1 h (fun z0_ z1_ e1_ eq w0_ w1_ => by cases eq) (fun z0_ e1_ eq w0_ => k0 _ _ (by cases eq; rfl) w0_)
    · exact ok_Mo_labelHere_y55 C x1 x3 d g0 g1 h1 (fun z0_ z1_ e1_ eq w0_ w1_ => by cases eq; exact ih _ _ _ w0_ w1_ h k0) (fun z0_ e1_ eq w0_ => by cases eq)
set_option maxHeartbeats 4000000 in
theorem ok_Mo_labelHere_l55 {p : Program} {l : Launch} {e : Env} {s : State} {m : MethodId} {args : Array Value} {below : List Frame} {meth : Method} {c : Code} {D : va_G} {cA : Nat → ClassId} {ad : Nat → Nat} {A : Nat → Prop} (C : Cx p s m args c prog_14_method_50_code 4 "PollBooksModel" D cA ad 1 A) {Q : State → Prop} {x : (Int × Dt)} (x1 x3 : Int) (d : Dt) (hx1 : c64 x1) (hx3 : c32 x3) (h : L_Mo_labelHere_l55 x1 x3 d = some x) (k0 : ∀ (y0 : Int) (e' : Dt), x = (y0, e') → c64 y0 → G p l e rm_Mo_labelHere s m args below meth c 0 0 Q 4 D cA ad 1 A 81 [(9, 0), (1, y0), (9, 0), (9, 0)] [] e') : G p l e rm_Mo_labelHere s m args below meth c 0 0 Q 4 D cA ad 1 A 55 [(2, 0), (1, x1), (9, 0), (0, x3)] [] d :=
  ok_Mo_labelHere_n55 C FU x1 x3 d hx1 hx3 h k0
set_option maxHeartbeats 4000000 in
theorem ok_Mo_labelHere_b44 {p : Program} {l : Launch} {e : Env} {s : State} {m : MethodId} {args : Array Value} {below : List Frame} {meth : Method} {c : Code} {D : va_G} {cA : Nat → ClassId} {ad : Nat → Nat} {A : Nat → Prop} (C : Cx p s m args c prog_14_method_50_code 4 "PollBooksModel" D cA ad 1 A) (hlk : meth.locks = false) (hr : meth.sig.returnType = (some .long)) {r : Int} {d' : Dt} (d : Dt)  (h : L_Mo_labelHere_b44 d = some (r, d')) : G p l e rm_Mo_labelHere s m args below meth c 0 0 (MQ below (fun _ => QC D cA ad 1 A (some .long) (some (1, r)) d') args s 0 0 A) 4 D cA ad 1 A 44 [(9, 0), (9, 0), (9, 0), (9, 0)] [] d := by
  unfold L_Mo_labelHere_b44 at h
  refine g_ldc2 C (ix := 287) (v := (-1)) lk_1760 (by decide +kernel) ?_
  obtain ⟨rfl, rfl⟩ := ret_inj h
  exact g_lret C (cL rfl) hlk hr (by decide +kernel)
set_option maxHeartbeats 4000000 in
theorem ok_Mo_labelHere {l : Launch} {r : Int} {d' : Dt} (d : Dt)  (h : L_Mo_labelHere d = some (r, d')) : MC l y_Mo_labelHere prog_14_method_50_code 4 (some .long) rm_Mo_labelHere 1 [(2, 0)] d (some (1, r)) d' := by
  refine MC.of (by decide) (Nat.le_of_ble_eq_true rfl) ?_
  intro p e s m args below meth c D cA ad A C hlk hr
  replace C : Cx p s m args c prog_14_method_50_code 4 "PollBooksModel" D cA ad 1 A := C
  show G p l e rm_Mo_labelHere s m args below meth c 0 0 (MQ below (fun _ => QC D cA ad 1 A (some .long) (some (1, r)) d') args s 0 0 A) 4 D cA ad 1 A 0 [(2, 0)] [] d
  refine g_sub (lo2 := [(2, 0), (9, 0), (9, 0), (9, 0)]) (lsb_v (lsb_n (lsb_n (lsb_n lsb_e)))) ?_
  unfold L_Mo_labelHere at h
  refine g_aload_n C 0 rfl (by decide +kernel) ?_
  refine g_getI C cl12 0 34 rfl cd_B0 ⟨by decide, rfl, by decide⟩ rfl (nB (by decide)) (ix := 388) lk_1436 (by decide +kernel) (fun hc10_ => ?_)
  refine g_iconst C 2 (cK rfl) (by decide +kernel) ?_
  refine g_icmp_ne C (off := 39) (tgt := 44) hc10_ (cK rfl) (by decide +kernel) (by decide) (fun hc11_ => ?_) (fun hc11_ => ?_)
  · replace h := ite_t hc11_ h
    refine g_aload_n C 0 rfl (by decide +kernel) ?_
    refine g_getI C cl12 0 36 rfl cd_B0 ⟨by decide, rfl, by decide⟩ rfl (nB (by decide)) (ix := 376) lk_1438 (by decide +kernel) (fun hc12_ => ?_)
    refine g_aload_n C 0 rfl (by decide +kernel) ?_
    refine g_getI C cl12 0 35 rfl cd_B0 ⟨by decide, rfl, by decide⟩ rfl (nB (by decide)) (ix := 382) lk_1437 (by decide +kernel) (fun hc13_ => ?_)
    refine g_isub C (by decide +kernel) ?_
    refine g_bipush C 8 (by decide) (by decide +kernel) ?_
    refine g_icmp_gt C (off := 25) (tgt := 44) (w32_c _) (cK rfl) (by decide +kernel) (by decide) (fun hc14_ => ?_) (fun hc14_ => ?_)
    · replace h := ite_t hc14_ h
      refine g_sub (lo2 := [(9, 0), (9, 0), (9, 0), (9, 0)]) (lsb_c (lsb_c (lsb_c (lsb_c lsb_e)))) ?_
      exact ok_Mo_labelHere_b44 C hlk hr d  h
    · replace h := ite_f hc14_ h
      refine g_aload_n C 0 rfl (by decide +kernel) ?_
      refine g_strK C rfl (by decide +kernel) ?_
      obtain ⟨r16_, d15_, hr17_, h⟩ := bd_some h
      refine g_callV C mw_Mo_inWords [(2, 1000003)] 0 cl12 rfl (ok_Mo_inWords 1000003 d  hr17_) cd_B0 (by decide) (nB (by decide)) (ix := 410) lk_1885 lk_1887 lkp_71 ⟨rfl, rfl, Nat.le_of_ble_eq_true rfl, Nat.le_of_ble_eq_true rfl⟩ rfl (rest := []) rfl (Nat.le_of_ble_eq_true rfl) ⟨Nat.zero_le _, Nat.zero_le _⟩ (by decide +kernel) (fun _ hc18_ => ?_)
      replace hc18_ : c32 r16_ := hc18_
      refine g_st (st2 := [(0, r16_)]) rfl ?_
      refine g_iconst C (-1) (cK rfl) (by decide +kernel) ?_
      refine g_icmp_ne C (off := 14) (tgt := 44) hc18_ (cK rfl) (by decide +kernel) (by decide) (fun hc19_ => ?_) (fun hc19_ => ?_)
      · replace h := ite_t hc19_ h
        refine g_aload_n C 0 rfl (by decide +kernel) ?_
        refine g_strV C rfl (by decide +kernel) ?_
        obtain ⟨r21_, d20_, hr22_, h⟩ := bd_some h
        refine g_callV C mw_Mo_inWords [(2, 1000004)] 0 cl12 rfl (ok_Mo_inWords 1000004 d15_  hr22_) cd_B0 (by decide) (nB (by decide)) (ix := 410) lk_1885 lk_1887 lkp_71 ⟨rfl, rfl, Nat.le_of_ble_eq_true rfl, Nat.le_of_ble_eq_true rfl⟩ rfl (rest := []) rfl (Nat.le_of_ble_eq_true rfl) ⟨Nat.zero_le _, Nat.zero_le _⟩ (by decide +kernel) (fun _ hc23_ => ?_)
        replace hc23_ : c32 r21_ := hc23_
        refine g_st (st2 := [(0, r21_)]) rfl ?_
        refine g_iconst C (-1) (cK rfl) (by decide +kernel) ?_
        refine g_icmp_eq C (off := 7) (tgt := 48) hc23_ (cK rfl) (by decide +kernel) (by decide) (fun hc24_ => ?_) (fun hc24_ => ?_)
        · replace h := ite_t hc24_ h
          refine g_lconst C 0 (v := 0) (by decide) (by decide +kernel) ?_
          refine s_lstore_n C 1 (lo' := [(2, 0), (1, 0), (9, 0), (9, 0)]) (by decide) (s2n (by decide) s2z) (by decide +kernel) ?_
          refine g_aload_n C 0 rfl (by decide +kernel) ?_
          refine g_getI C cl12 0 35 rfl cd_B0 ⟨by decide, rfl, by decide⟩ rfl (nB (by decide)) (ix := 382) lk_1437 (by decide +kernel) (fun hc25_ => ?_)
          obtain ⟨v26_, ev27_, h⟩ := lt_some h
          refine g_val ev27_.symm ?_
          have hv28_ : c32 v26_ := by rw [ev27_]; exact hc25_
          refine s_istore_n C 3 (lo' := [(2, 0), (1, 0), (9, 0), (0, v26_)]) (by decide) (s1k (s1k (s1n (by decide) s1z))) (by decide +kernel) ?_
          refine g_sub (lo2 := [(2, 0), (1, 0), (9, 0), (0, v26_)]) (lsb_v (lsb_v (lsb_c (lsb_v lsb_e)))) ?_
          obtain ⟨x29_, hx30_, h⟩ := lb_some h
          refine ok_Mo_labelHere_l55 C 0 v26_ d20_ (cL rfl) hv28_ hx30_ (fun v31_ d32_ eq33_ hv31_ => ?_)
          subst eq33_
          replace h := u1_e h
          refine g_lload_n C 1 rfl (by decide +kernel) ?_
          obtain ⟨rfl, rfl⟩ := ret_inj h
          exact g_lret C hv31_ hlk hr (by decide +kernel)
        · replace h := ite_f hc24_ h
          refine g_sub (lo2 := [(9, 0), (9, 0), (9, 0), (9, 0)]) (lsb_c (lsb_c (lsb_c (lsb_c lsb_e)))) ?_
          exact ok_Mo_labelHere_b44 C hlk hr d20_  h
      · replace h := ite_f hc19_ h
        refine g_sub (lo2 := [(9, 0), (9, 0), (9, 0), (9, 0)]) (lsb_c (lsb_c (lsb_c (lsb_c lsb_e)))) ?_
        exact ok_Mo_labelHere_b44 C hlk hr d15_  h
  · replace h := ite_f hc11_ h
    refine g_sub (lo2 := [(9, 0), (9, 0), (9, 0), (9, 0)]) (lsb_c (lsb_c (lsb_c (lsb_c lsb_e)))) ?_
    exact ok_Mo_labelHere_b44 C hlk hr d  h
/-! PollBooksModel.fails(I)Z -/
def y_Mo_fails : MethodName := ⟨"PollBooksModel", "fails", "(I)Z"⟩
def rm_Mo_fails : Room := { frames := 0, cells := 0, slots := 0, locals := 0 }
theorem mw_Mo_fails : MW y_Mo_fails prog_14_method_44_code 2 (some .boolean) 1 := ⟨lk_1941, lk_14, by decide +kernel⟩
def L_Mo_fails_b21 (s1 : Int) (d : Dt) : Option (Int × Dt) :=
  some (0, (up2 (up2 d 0 40 s1) 0 39 (d 0 35)))
def L_Mo_fails (p1 : Int) (d : Dt) : Option (Int × Dt) :=
  if (d 0 40) = 0 then if (d 0 34) = 1 then L_Mo_fails_b21 1 d else L_Mo_fails_b21 p1 d else some (0, d)
set_option maxHeartbeats 4000000 in
theorem ok_Mo_fails_b21 {p : Program} {l : Launch} {e : Env} {s : State} {m : MethodId} {args : Array Value} {below : List Frame} {meth : Method} {c : Code} {D : va_G} {cA : Nat → ClassId} {ad : Nat → Nat} {A : Nat → Prop} (C : Cx p s m args c prog_14_method_44_code 2 "PollBooksModel" D cA ad 1 A) (hlk : meth.locks = false) (hr : meth.sig.returnType = (some .boolean)) {r : Int} {d' : Dt} (s1 : Int) (d : Dt) (hs1 : c32 s1) (h : L_Mo_fails_b21 s1 d = some (r, d')) : G p l e rm_Mo_fails s m args below meth c 0 0 (MQ below (fun _ => QC D cA ad 1 A (some .boolean) (some (0, r)) d') args s 0 0 A) 2 D cA ad 1 A 21 [(2, 0), (9, 0)] [(0, s1), (2, 0)] d := by
  unfold L_Mo_fails_b21 at h
  refine g_putI C cl12 0 40 hs1 rfl cd_B0 ⟨by decide, rfl, by decide⟩ rfl (nB (by decide)) (ix := 414) lk_1442 rfl rfl (by decide +kernel) ?_
  refine g_aload_n C 0 rfl (by decide +kernel) ?_
  refine g_aload_n C 0 rfl (by decide +kernel) ?_
  refine g_getI C cl12 0 35 rfl cd_B0 ⟨by decide, rfl, by decide⟩ rfl (nB (by decide)) (ix := 382) lk_1437 (by decide +kernel) (fun hc1_ => ?_)
  refine g_val (y := (d 0 35)) rfl ?_
  replace hc1_ : c32 (d 0 35) := hc1_
  refine g_putI C cl12 0 39 hc1_ rfl cd_B0 ⟨by decide, rfl, by decide⟩ rfl (nB (by decide)) (ix := 95) lk_1441 rfl rfl (by decide +kernel) ?_
  refine g_iconst C 0 (cK rfl) (by decide +kernel) ?_
  obtain ⟨rfl, rfl⟩ := ret_inj h
  exact g_zret C (Or.inl rfl) hlk hr (by decide +kernel)
set_option maxHeartbeats 4000000 in
theorem ok_Mo_fails {l : Launch} {r : Int} {d' : Dt} (p1 : Int) (d : Dt) (hp1 : c32 p1) (h : L_Mo_fails p1 d = some (r, d')) : MC l y_Mo_fails prog_14_method_44_code 2 (some .boolean) rm_Mo_fails 1 [(2, 0), (0, p1)] d (some (0, r)) d' := by
  refine MC.of (by decide) (Nat.le_of_ble_eq_true rfl) ?_
  intro p e s m args below meth c D cA ad A C hlk hr
  replace C : Cx p s m args c prog_14_method_44_code 2 "PollBooksModel" D cA ad 1 A := C
  show G p l e rm_Mo_fails s m args below meth c 0 0 (MQ below (fun _ => QC D cA ad 1 A (some .boolean) (some (0, r)) d') args s 0 0 A) 2 D cA ad 1 A 0 [(2, 0), (0, p1)] [] d
  refine g_sub (lo2 := [(2, 0), (0, p1)]) (lsb_v (lsb_v lsb_e)) ?_
  unfold L_Mo_fails at h
  refine g_aload_n C 0 rfl (by decide +kernel) ?_
  refine g_getI C cl12 0 40 rfl cd_B0 ⟨by decide, rfl, by decide⟩ rfl (nB (by decide)) (ix := 414) lk_1442 (by decide +kernel) (fun hc2_ => ?_)
  refine g_if_ne C (off := 28) (tgt := 32) hc2_ (by decide +kernel) (by decide) (fun hc3_ => ?_) (fun hc3_ => ?_)
  · replace h := ite_t hc3_ h
    refine g_aload_n C 0 rfl (by decide +kernel) ?_
    refine g_aload_n C 0 rfl (by decide +kernel) ?_
    refine g_getI C cl12 0 34 rfl cd_B0 ⟨by decide, rfl, by decide⟩ rfl (nB (by decide)) (ix := 388) lk_1436 (by decide +kernel) (fun hc4_ => ?_)
    refine g_iconst C 1 (cK rfl) (by decide +kernel) ?_
    refine g_icmp_ne C (off := 7) (tgt := 20) hc4_ (c32_cb (Or.inr rfl)) (by decide +kernel) (by decide) (fun hc5_ => ?_) (fun hc5_ => ?_)
    · replace h := ite_t hc5_ h
      refine g_iconst C 1 (cK rfl) (by decide +kernel) ?_
      refine g_goto C 21 (off := 4) (by decide +kernel) (by decide) ?_
      refine g_sub (lo2 := [(2, 0), (9, 0)]) (lsb_v (lsb_c lsb_e)) ?_
      exact ok_Mo_fails_b21 C hlk hr 1 d (c32_cb (Or.inr rfl)) h
    · replace h := ite_f hc5_ h
      refine g_iload_n C 1 rfl (by decide +kernel) ?_
      refine g_sub (lo2 := [(2, 0), (9, 0)]) (lsb_v (lsb_c lsb_e)) ?_
      exact ok_Mo_fails_b21 C hlk hr p1 d hp1 h
  · replace h := ite_f hc3_ h
    refine g_iconst C 0 (cK rfl) (by decide +kernel) ?_
    obtain ⟨rfl, rfl⟩ := ret_inj h
    exact g_zret C (Or.inl rfl) hlk hr (by decide +kernel)
/-! PollBooksModel.isKey(I)Z -/
def y_Mo_isKey : MethodName := ⟨"PollBooksModel", "isKey", "(I)Z"⟩
def rm_Mo_isKey : Room := { frames := 5, cells := 0, slots := 0, locals := 111 }
theorem mw_Mo_isKey : MW y_Mo_isKey prog_14_method_43_code 2 (some .boolean) 1 := ⟨lk_1945, lk_14, by decide +kernel⟩
def L_Mo_isKey (p1 : Int) (d : Dt) : Option (Int × Dt) :=
  bd (L_Mo_inWords 1000003 d) (fun r2_ d1_ => if r2_ = p1 then some (1, d1_) else some (0, d1_))
set_option maxHeartbeats 4000000 in
theorem ok_Mo_isKey {l : Launch} {r : Int} {d' : Dt} (p1 : Int) (d : Dt) (hp1 : c32 p1) (h : L_Mo_isKey p1 d = some (r, d')) : MC l y_Mo_isKey prog_14_method_43_code 2 (some .boolean) rm_Mo_isKey 1 [(2, 0), (0, p1)] d (some (0, r)) d' := by
  refine MC.of (by decide) (Nat.le_of_ble_eq_true rfl) ?_
  intro p e s m args below meth c D cA ad A C hlk hr
  replace C : Cx p s m args c prog_14_method_43_code 2 "PollBooksModel" D cA ad 1 A := C
  show G p l e rm_Mo_isKey s m args below meth c 0 0 (MQ below (fun _ => QC D cA ad 1 A (some .boolean) (some (0, r)) d') args s 0 0 A) 2 D cA ad 1 A 0 [(2, 0), (0, p1)] [] d
  refine g_sub (lo2 := [(2, 0), (0, p1)]) (lsb_v (lsb_v lsb_e)) ?_
  unfold L_Mo_isKey at h
  refine g_aload_n C 0 rfl (by decide +kernel) ?_
  refine g_strK C rfl (by decide +kernel) ?_
  obtain ⟨r2_, d1_, hr3_, h⟩ := bd_some h
  refine g_callV C mw_Mo_inWords [(2, 1000003)] 0 cl12 rfl (ok_Mo_inWords 1000003 d  hr3_) cd_B0 (by decide) (nB (by decide)) (ix := 410) lk_1885 lk_1887 lkp_71 ⟨rfl, rfl, Nat.le_of_ble_eq_true rfl, Nat.le_of_ble_eq_true rfl⟩ rfl (rest := []) rfl (Nat.le_of_ble_eq_true rfl) ⟨Nat.zero_le _, Nat.zero_le _⟩ (by decide +kernel) (fun _ hc4_ => ?_)
  replace hc4_ : c32 r2_ := hc4_
  refine g_st (st2 := [(0, r2_)]) rfl ?_
  refine g_iload_n C 1 rfl (by decide +kernel) ?_
  refine g_icmp_ne C (off := 7) (tgt := 15) hc4_ hp1 (by decide +kernel) (by decide) (fun hc5_ => ?_) (fun hc5_ => ?_)
  · replace h := ite_t hc5_ h
    refine g_iconst C 1 (cK rfl) (by decide +kernel) ?_
    refine g_goto C 16 (off := 4) (by decide +kernel) (by decide) ?_
    obtain ⟨rfl, rfl⟩ := ret_inj h
    exact g_zret C (Or.inr rfl) hlk hr (by decide +kernel)
  · replace h := ite_f hc5_ h
    refine g_iconst C 0 (cK rfl) (by decide +kernel) ?_
    obtain ⟨rfl, rfl⟩ := ret_inj h
    exact g_zret C (Or.inl rfl) hlk hr (by decide +kernel)
/-! PollBooksModel.isSign(I)Z -/
def y_Mo_isSign : MethodName := ⟨"PollBooksModel", "isSign", "(I)Z"⟩
def rm_Mo_isSign : Room := { frames := 0, cells := 0, slots := 0, locals := 0 }
theorem mw_Mo_isSign : MW y_Mo_isSign prog_14_method_41_code 2 (some .boolean) 1 := ⟨lk_1953, lk_14, by decide +kernel⟩
def L_Mo_isSign (p1 : Int) (d : Dt) : Option (Int × Dt) :=
  if (d 0 34) = 4 then if (d 0 37) = p1 then some (1, d) else some (0, d) else some (0, d)
set_option maxHeartbeats 4000000 in
theorem ok_Mo_isSign {l : Launch} {r : Int} {d' : Dt} (p1 : Int) (d : Dt) (hp1 : c32 p1) (h : L_Mo_isSign p1 d = some (r, d')) : MC l y_Mo_isSign prog_14_method_41_code 2 (some .boolean) rm_Mo_isSign 1 [(2, 0), (0, p1)] d (some (0, r)) d' := by
  refine MC.of (by decide) (Nat.le_of_ble_eq_true rfl) ?_
  intro p e s m args below meth c D cA ad A C hlk hr
  replace C : Cx p s m args c prog_14_method_41_code 2 "PollBooksModel" D cA ad 1 A := C
  show G p l e rm_Mo_isSign s m args below meth c 0 0 (MQ below (fun _ => QC D cA ad 1 A (some .boolean) (some (0, r)) d') args s 0 0 A) 2 D cA ad 1 A 0 [(2, 0), (0, p1)] [] d
  refine g_sub (lo2 := [(2, 0), (0, p1)]) (lsb_v (lsb_v lsb_e)) ?_
  unfold L_Mo_isSign at h
  refine g_aload_n C 0 rfl (by decide +kernel) ?_
  refine g_getI C cl12 0 34 rfl cd_B0 ⟨by decide, rfl, by decide⟩ rfl (nB (by decide)) (ix := 388) lk_1436 (by decide +kernel) (fun hc1_ => ?_)
  refine g_iconst C 4 (cK rfl) (by decide +kernel) ?_
  refine g_icmp_ne C (off := 15) (tgt := 20) hc1_ (cK rfl) (by decide +kernel) (by decide) (fun hc2_ => ?_) (fun hc2_ => ?_)
  · replace h := ite_t hc2_ h
    refine g_aload_n C 0 rfl (by decide +kernel) ?_
    refine g_getI C cl12 0 37 rfl cd_B0 ⟨by decide, rfl, by decide⟩ rfl (nB (by decide)) (ix := 385) lk_1439 (by decide +kernel) (fun hc3_ => ?_)
    refine g_iload_n C 1 rfl (by decide +kernel) ?_
    refine g_icmp_ne C (off := 7) (tgt := 20) hc3_ hp1 (by decide +kernel) (by decide) (fun hc4_ => ?_) (fun hc4_ => ?_)
    · replace h := ite_t hc4_ h
      refine g_iconst C 1 (cK rfl) (by decide +kernel) ?_
      refine g_goto C 21 (off := 4) (by decide +kernel) (by decide) ?_
      obtain ⟨rfl, rfl⟩ := ret_inj h
      exact g_zret C (Or.inr rfl) hlk hr (by decide +kernel)
    · replace h := ite_f hc4_ h
      refine g_iconst C 0 (cK rfl) (by decide +kernel) ?_
      obtain ⟨rfl, rfl⟩ := ret_inj h
      exact g_zret C (Or.inl rfl) hlk hr (by decide +kernel)
  · replace h := ite_f hc2_ h
    refine g_iconst C 0 (cK rfl) (by decide +kernel) ?_
    obtain ⟨rfl, rfl⟩ := ret_inj h
    exact g_zret C (Or.inl rfl) hlk hr (by decide +kernel)
/-! PollBooksModel.want(I)Z -/
def y_Mo_want : MethodName := ⟨"PollBooksModel", "want", "(I)Z"⟩
def rm_Mo_want : Room := { frames := 2, cells := 0, slots := 0, locals := 43 }
theorem mw_Mo_want : MW y_Mo_want prog_14_method_45_code 2 (some .boolean) 1 := ⟨lk_1949, lk_14, by decide +kernel⟩
def L_Mo_want (p1 : Int) (d : Dt) : Option (Int × Dt) :=
  bd (L_Mo_isSign p1 d) (fun r2_ d1_ => if r2_ = 0 then bd (L_Mo_fails 2 d1_) (fun r7_ d6_ => some (r7_, d6_)) else bd (L_Mo_next d1_) (fun r11_ d10_ => some (1, d10_)))
set_option maxHeartbeats 4000000 in
theorem ok_Mo_want {l : Launch} {r : Int} {d' : Dt} (p1 : Int) (d : Dt) (hp1 : c32 p1) (h : L_Mo_want p1 d = some (r, d')) : MC l y_Mo_want prog_14_method_45_code 2 (some .boolean) rm_Mo_want 1 [(2, 0), (0, p1)] d (some (0, r)) d' := by
  refine MC.of (by decide) (Nat.le_of_ble_eq_true rfl) ?_
  intro p e s m args below meth c D cA ad A C hlk hr
  replace C : Cx p s m args c prog_14_method_45_code 2 "PollBooksModel" D cA ad 1 A := C
  show G p l e rm_Mo_want s m args below meth c 0 0 (MQ below (fun _ => QC D cA ad 1 A (some .boolean) (some (0, r)) d') args s 0 0 A) 2 D cA ad 1 A 0 [(2, 0), (0, p1)] [] d
  refine g_sub (lo2 := [(2, 0), (0, p1)]) (lsb_v (lsb_v lsb_e)) ?_
  unfold L_Mo_want at h
  refine g_aload_n C 0 rfl (by decide +kernel) ?_
  refine g_iload_n C 1 rfl (by decide +kernel) ?_
  obtain ⟨r2_, d1_, hr3_, h⟩ := bd_some h
  refine g_callV C mw_Mo_isSign [(0, p1)] 0 cl12 rfl (ok_Mo_isSign p1 d hp1 hr3_) cd_B0 (by decide) (nB (by decide)) (ix := 417) lk_1950 lk_1952 lkp_75 ⟨rfl, rfl, Nat.le_of_ble_eq_true rfl, Nat.le_of_ble_eq_true rfl⟩ rfl (rest := []) rfl (Nat.le_of_ble_eq_true rfl) ⟨Nat.zero_le _, Nat.zero_le _⟩ (by decide +kernel) (fun _ hc4_ => ?_)
  replace hc4_ : cb r2_ := hc4_
  refine g_st (st2 := [(0, r2_)]) rfl ?_
  refine g_if_ne C (off := 9) (tgt := 14) (c32_cb hc4_) (by decide +kernel) (by decide) (fun hc5_ => ?_) (fun hc5_ => ?_)
  · replace h := ite_t hc5_ h
    refine g_aload_n C 0 rfl (by decide +kernel) ?_
    refine g_iconst C 2 (cK rfl) (by decide +kernel) ?_
    obtain ⟨r7_, d6_, hr8_, h⟩ := bd_some h
    refine g_callV C mw_Mo_fails [(0, 2)] 0 cl12 rfl (ok_Mo_fails 2 d1_ (cK rfl) hr8_) cd_B0 (by decide) (nB (by decide)) (ix := 420) lk_1938 lk_1940 lkp_72 ⟨rfl, rfl, Nat.le_of_ble_eq_true rfl, Nat.le_of_ble_eq_true rfl⟩ rfl (rest := []) rfl (Nat.le_of_ble_eq_true rfl) ⟨Nat.zero_le _, Nat.zero_le _⟩ (by decide +kernel) (fun _ hc9_ => ?_)
    replace hc9_ : cb r7_ := hc9_
    refine g_st (st2 := [(0, r7_)]) rfl ?_
    obtain ⟨rfl, rfl⟩ := ret_inj h
    exact g_zret C hc9_ hlk hr (by decide +kernel)
  · replace h := ite_f hc5_ h
    refine g_aload_n C 0 rfl (by decide +kernel) ?_
    obtain ⟨r11_, d10_, hr12_, h⟩ := bd_some h
    refine g_callV C mw_Mo_next [] 0 cl12 rfl (ok_Mo_next  d1_  hr12_) cd_B0 (by decide) (nB (by decide)) (ix := 423) lk_1861 lk_1863 lkp_67 ⟨rfl, rfl, Nat.le_of_ble_eq_true rfl, Nat.le_of_ble_eq_true rfl⟩ rfl (rest := []) rfl (Nat.le_of_ble_eq_true rfl) ⟨Nat.zero_le _, Nat.zero_le _⟩ (by decide +kernel) (fun _ hc13_ => ?_)
    refine g_st (st2 := []) rfl ?_
    refine g_iconst C 1 (cK rfl) (by decide +kernel) ?_
    obtain ⟨rfl, rfl⟩ := ret_inj h
    exact g_zret C (Or.inr rfl) hlk hr (by decide +kernel)
/-! PollBooksModel.number(II)Z -/
def y_Mo_number : MethodName := ⟨"PollBooksModel", "number", "(II)Z"⟩
def rm_Mo_number : Room := { frames := 1, cells := 0, slots := 0, locals := 21 }
theorem mw_Mo_number : MW y_Mo_number prog_14_method_51_code 3 (some .boolean) 2 := ⟨lk_1961, lk_14, by decide +kernel⟩
def L_Mo_number_b30 (d : Dt) : Option (Int × Dt) :=
  bd (L_Mo_fails 6 d) (fun r2_ d1_ => if r2_ = 0 then some (0, d1_) else some (1, d1_))
def L_Mo_number (p1 p2 : Int) (d : Dt) : Option (Int × Dt) :=
  if (d 0 34) = 3 then if (d 0 37) < p1 then L_Mo_number_b30 d else if p2 < (d 0 37) then L_Mo_number_b30 d else some (1, d) else bd (L_Mo_fails 2 d) (fun r13_ d12_ => some (r13_, d12_))
set_option maxHeartbeats 4000000 in
theorem ok_Mo_number_b30 {p : Program} {l : Launch} {e : Env} {s : State} {m : MethodId} {args : Array Value} {below : List Frame} {meth : Method} {c : Code} {D : va_G} {cA : Nat → ClassId} {ad : Nat → Nat} {A : Nat → Prop} (C : Cx p s m args c prog_14_method_51_code 3 "PollBooksModel" D cA ad 1 A) (hlk : meth.locks = false) (hr : meth.sig.returnType = (some .boolean)) {r : Int} {d' : Dt} (d : Dt)  (h : L_Mo_number_b30 d = some (r, d')) : G p l e rm_Mo_number s m args below meth c 0 0 (MQ below (fun _ => QC D cA ad 1 A (some .boolean) (some (0, r)) d') args s 0 0 A) 3 D cA ad 1 A 30 [(2, 0), (9, 0), (9, 0)] [] d := by
  unfold L_Mo_number_b30 at h
  refine g_aload_n C 0 rfl (by decide +kernel) ?_
  refine g_bipush C 6 (by decide) (by decide +kernel) ?_
  obtain ⟨r2_, d1_, hr3_, h⟩ := bd_some h
  refine g_callV C mw_Mo_fails [(0, 6)] 0 cl12 rfl (ok_Mo_fails 6 d (cK rfl) hr3_) cd_B0 (by decide) (nB (by decide)) (ix := 420) lk_1938 lk_1940 lkp_72 ⟨rfl, rfl, Nat.le_of_ble_eq_true rfl, Nat.le_of_ble_eq_true rfl⟩ rfl (rest := []) rfl (Nat.le_of_ble_eq_true rfl) ⟨Nat.zero_le _, Nat.zero_le _⟩ (by decide +kernel) (fun _ hc4_ => ?_)
  replace hc4_ : cb r2_ := hc4_
  refine g_st (st2 := [(0, r2_)]) rfl ?_
  refine g_if_eq C (off := 7) (tgt := 43) (c32_cb hc4_) (by decide +kernel) (by decide) (fun hc5_ => ?_) (fun hc5_ => ?_)
  · replace h := ite_t hc5_ h
    refine g_iconst C 0 (cK rfl) (by decide +kernel) ?_
    obtain ⟨rfl, rfl⟩ := ret_inj h
    exact g_zret C (Or.inl rfl) hlk hr (by decide +kernel)
  · replace h := ite_f hc5_ h
    refine g_iconst C 1 (cK rfl) (by decide +kernel) ?_
    refine g_goto C 44 (off := 4) (by decide +kernel) (by decide) ?_
    obtain ⟨rfl, rfl⟩ := ret_inj h
    exact g_zret C (Or.inr rfl) hlk hr (by decide +kernel)
set_option maxHeartbeats 4000000 in
theorem ok_Mo_number {l : Launch} {r : Int} {d' : Dt} (p1 p2 : Int) (d : Dt) (hp1 : c32 p1) (hp2 : c32 p2) (h : L_Mo_number p1 p2 d = some (r, d')) : MC l y_Mo_number prog_14_method_51_code 3 (some .boolean) rm_Mo_number 1 [(2, 0), (0, p1), (0, p2)] d (some (0, r)) d' := by
  refine MC.of (by decide) (Nat.le_of_ble_eq_true rfl) ?_
  intro p e s m args below meth c D cA ad A C hlk hr
  replace C : Cx p s m args c prog_14_method_51_code 3 "PollBooksModel" D cA ad 1 A := C
  show G p l e rm_Mo_number s m args below meth c 0 0 (MQ below (fun _ => QC D cA ad 1 A (some .boolean) (some (0, r)) d') args s 0 0 A) 3 D cA ad 1 A 0 [(2, 0), (0, p1), (0, p2)] [] d
  refine g_sub (lo2 := [(2, 0), (0, p1), (0, p2)]) (lsb_v (lsb_v (lsb_v lsb_e))) ?_
  unfold L_Mo_number at h
  refine g_aload_n C 0 rfl (by decide +kernel) ?_
  refine g_getI C cl12 0 34 rfl cd_B0 ⟨by decide, rfl, by decide⟩ rfl (nB (by decide)) (ix := 388) lk_1436 (by decide +kernel) (fun hc6_ => ?_)
  refine g_iconst C 3 (cK rfl) (by decide +kernel) ?_
  refine g_icmp_eq C (off := 9) (tgt := 14) hc6_ (cK rfl) (by decide +kernel) (by decide) (fun hc7_ => ?_) (fun hc7_ => ?_)
  · replace h := ite_t hc7_ h
    refine g_aload_n C 0 rfl (by decide +kernel) ?_
    refine g_getI C cl12 0 37 rfl cd_B0 ⟨by decide, rfl, by decide⟩ rfl (nB (by decide)) (ix := 385) lk_1439 (by decide +kernel) (fun hc8_ => ?_)
    refine g_iload_n C 1 rfl (by decide +kernel) ?_
    refine g_icmp_lt C (off := 11) (tgt := 30) hc8_ hp1 (by decide +kernel) (by decide) (fun hc9_ => ?_) (fun hc9_ => ?_)
    · replace h := ite_t hc9_ h
      refine g_sub (lo2 := [(2, 0), (9, 0), (9, 0)]) (lsb_v (lsb_c (lsb_c lsb_e))) ?_
      exact ok_Mo_number_b30 C hlk hr d  h
    · replace h := ite_f hc9_ h
      refine g_aload_n C 0 rfl (by decide +kernel) ?_
      refine g_getI C cl12 0 37 rfl cd_B0 ⟨by decide, rfl, by decide⟩ rfl (nB (by decide)) (ix := 385) lk_1439 (by decide +kernel) (fun hc10_ => ?_)
      refine g_iload_n C 2 rfl (by decide +kernel) ?_
      refine g_icmp_le C (off := 12) (tgt := 39) hc10_ hp2 (by decide +kernel) (by decide) (fun hc11_ => ?_) (fun hc11_ => ?_)
      · replace h := ite_t hc11_ h
        refine g_sub (lo2 := [(2, 0), (9, 0), (9, 0)]) (lsb_v (lsb_c (lsb_c lsb_e))) ?_
        exact ok_Mo_number_b30 C hlk hr d  h
      · replace h := ite_f hc11_ h
        refine g_iconst C 1 (cK rfl) (by decide +kernel) ?_
        refine g_goto C 44 (off := 4) (by decide +kernel) (by decide) ?_
        obtain ⟨rfl, rfl⟩ := ret_inj h
        exact g_zret C (Or.inr rfl) hlk hr (by decide +kernel)
  · replace h := ite_f hc7_ h
    refine g_aload_n C 0 rfl (by decide +kernel) ?_
    refine g_iconst C 2 (cK rfl) (by decide +kernel) ?_
    obtain ⟨r13_, d12_, hr14_, h⟩ := bd_some h
    refine g_callV C mw_Mo_fails [(0, 2)] 0 cl12 rfl (ok_Mo_fails 2 d (cK rfl) hr14_) cd_B0 (by decide) (nB (by decide)) (ix := 420) lk_1938 lk_1940 lkp_72 ⟨rfl, rfl, Nat.le_of_ble_eq_true rfl, Nat.le_of_ble_eq_true rfl⟩ rfl (rest := []) rfl (Nat.le_of_ble_eq_true rfl) ⟨Nat.zero_le _, Nat.zero_le _⟩ (by decide +kernel) (fun _ hc15_ => ?_)
    replace hc15_ : cb r13_ := hc15_
    refine g_st (st2 := [(0, r13_)]) rfl ?_
    obtain ⟨rfl, rfl⟩ := ret_inj h
    exact g_zret C hc15_ hlk hr (by decide +kernel)
/-! PollBooksModel.readNames(I)Z -/
def y_Mo_readNames : MethodName := ⟨"PollBooksModel", "readNames", "(I)Z"⟩
def rm_Mo_readNames : Room := { frames := 2, cells := 0, slots := 0, locals := 43 }
theorem mw_Mo_readNames : MW y_Mo_readNames prog_14_method_53_code 2 (some .boolean) 1 := ⟨lk_1957, lk_14, by decide +kernel⟩
def L_Mo_readNames (p1 : Int) (d : Dt) : Option (Int × Dt) :=
  bd (L_Mo_number 1 4 d) (fun r2_ d1_ => if r2_ = 0 then some (0, d1_) else ck ((0 : Int) ≤ p1 ∧ p1 < 120) (bd (L_Mo_next (up2 d1_ 30 p1.toNat (d1_ 0 37))) (fun r9_ d8_ => some (1, d8_))))
set_option maxHeartbeats 4000000 in
theorem ok_Mo_readNames {l : Launch} {r : Int} {d' : Dt} (p1 : Int) (d : Dt) (hp1 : c32 p1) (h : L_Mo_readNames p1 d = some (r, d')) : MC l y_Mo_readNames prog_14_method_53_code 2 (some .boolean) rm_Mo_readNames 1 [(2, 0), (0, p1)] d (some (0, r)) d' := by
  refine MC.of (by decide) (Nat.le_of_ble_eq_true rfl) ?_
  intro p e s m args below meth c D cA ad A C hlk hr
  replace C : Cx p s m args c prog_14_method_53_code 2 "PollBooksModel" D cA ad 1 A := C
  show G p l e rm_Mo_readNames s m args below meth c 0 0 (MQ below (fun _ => QC D cA ad 1 A (some .boolean) (some (0, r)) d') args s 0 0 A) 2 D cA ad 1 A 0 [(2, 0), (0, p1)] [] d
  refine g_sub (lo2 := [(2, 0), (0, p1)]) (lsb_v (lsb_v lsb_e)) ?_
  unfold L_Mo_readNames at h
  refine g_aload_n C 0 rfl (by decide +kernel) ?_
  refine g_iconst C 1 (cK rfl) (by decide +kernel) ?_
  refine g_iconst C 4 (cK rfl) (by decide +kernel) ?_
  obtain ⟨r2_, d1_, hr3_, h⟩ := bd_some h
  refine g_callV C mw_Mo_number [(0, 1), (0, 4)] 0 cl12 rfl (ok_Mo_number 1 4 d (c32_cb (Or.inr rfl)) (cK rfl) hr3_) cd_B0 (by decide) (nB (by decide)) (ix := 468) lk_1958 lk_1960 lkp_77 ⟨rfl, rfl, Nat.le_of_ble_eq_true rfl, Nat.le_of_ble_eq_true rfl⟩ rfl (rest := []) rfl (Nat.le_of_ble_eq_true rfl) ⟨Nat.zero_le _, Nat.zero_le _⟩ (by decide +kernel) (fun _ hc4_ => ?_)
  replace hc4_ : cb r2_ := hc4_
  refine g_st (st2 := [(0, r2_)]) rfl ?_
  refine g_if_ne C (off := 5) (tgt := 11) (c32_cb hc4_) (by decide +kernel) (by decide) (fun hc5_ => ?_) (fun hc5_ => ?_)
  · replace h := ite_t hc5_ h
    refine g_iconst C 0 (cK rfl) (by decide +kernel) ?_
    obtain ⟨rfl, rfl⟩ := ret_inj h
    exact g_zret C (Or.inl rfl) hlk hr (by decide +kernel)
  · replace h := ite_f hc5_ h
    refine g_aload_n C 0 rfl (by decide +kernel) ?_
    refine g_getR C cl12 0 48 30 rfl cd_B0 ⟨by decide, rfl, by decide⟩ rfl rfl (nB (by decide)) (ix := 110) lk_1450 (by decide +kernel) ?_
    refine g_iload_n C 1 rfl (by decide +kernel) ?_
    refine g_aload_n C 0 rfl (by decide +kernel) ?_
    refine g_getI C cl12 0 37 rfl cd_B0 ⟨by decide, rfl, by decide⟩ rfl (nB (by decide)) (ix := 385) lk_1439 (by decide +kernel) (fun hc6_ => ?_)
    obtain ⟨hb7_, h⟩ := ck_some h
    refine g_iast C 30 hc6_ hp1 rfl cd_B30 (nB (by decide)) hb7_ (by decide +kernel) ?_
    refine g_aload_n C 0 rfl (by decide +kernel) ?_
    obtain ⟨r9_, d8_, hr10_, h⟩ := bd_some h
    refine g_callV C mw_Mo_next [] 0 cl12 rfl (ok_Mo_next  (up2 d1_ 30 p1.toNat (d1_ 0 37))  hr10_) cd_B0 (by decide) (nB (by decide)) (ix := 423) lk_1861 lk_1863 lkp_67 ⟨rfl, rfl, Nat.le_of_ble_eq_true rfl, Nat.le_of_ble_eq_true rfl⟩ rfl (rest := []) rfl (Nat.le_of_ble_eq_true rfl) ⟨Nat.zero_le _, Nat.zero_le _⟩ (by decide +kernel) (fun _ hc11_ => ?_)
    refine g_st (st2 := []) rfl ?_
    refine g_iconst C 1 (cK rfl) (by decide +kernel) ?_
    obtain ⟨rfl, rfl⟩ := ret_inj h
    exact g_zret C (Or.inr rfl) hlk hr (by decide +kernel)
/-! PollBooksModel.readHours(I)Z -/
def y_Mo_readHours : MethodName := ⟨"PollBooksModel", "readHours", "(I)Z"⟩
def rm_Mo_readHours : Room := { frames := 6, cells := 0, slots := 0, locals := 132 }
theorem mw_Mo_readHours : MW y_Mo_readHours prog_14_method_54_code 2 (some .boolean) 1 := ⟨lk_1965, lk_14, by decide +kernel⟩
def L_Mo_readHours (p1 : Int) (d : Dt) : Option (Int × Dt) :=
  bd (L_Mo_number 0 1439 d) (fun r2_ d1_ => if r2_ = 0 then some (0, d1_) else ck ((0 : Int) ≤ p1 ∧ p1 < 120) (bd (L_Mo_next (up2 d1_ 30 p1.toNat (d1_ 0 37))) (fun r9_ d8_ => bd (L_Mo_isKey 7 d8_) (fun r13_ d12_ => if r13_ = 0 then bd (L_Mo_fails 2 d12_) (fun r18_ d17_ => some (r18_, d17_)) else bd (L_Mo_next d12_) (fun r22_ d21_ => ck ((0 : Int) ≤ p1 ∧ p1 < 120) (bd (L_Mo_number (d21_ 30 p1.toNat) 1439 d21_) (fun r28_ d27_ => if r28_ = 0 then some (0, d27_) else ck ((0 : Int) ≤ p1 ∧ p1 < 120) (bd (L_Mo_next (up2 d27_ 31 p1.toNat (d27_ 0 37))) (fun r35_ d34_ => some (1, d34_))))))))))
set_option maxHeartbeats 4000000 in
theorem ok_Mo_readHours {l : Launch} {r : Int} {d' : Dt} (p1 : Int) (d : Dt) (hp1 : c32 p1) (h : L_Mo_readHours p1 d = some (r, d')) : MC l y_Mo_readHours prog_14_method_54_code 2 (some .boolean) rm_Mo_readHours 1 [(2, 0), (0, p1)] d (some (0, r)) d' := by
  refine MC.of (by decide) (Nat.le_of_ble_eq_true rfl) ?_
  intro p e s m args below meth c D cA ad A C hlk hr
  replace C : Cx p s m args c prog_14_method_54_code 2 "PollBooksModel" D cA ad 1 A := C
  show G p l e rm_Mo_readHours s m args below meth c 0 0 (MQ below (fun _ => QC D cA ad 1 A (some .boolean) (some (0, r)) d') args s 0 0 A) 2 D cA ad 1 A 0 [(2, 0), (0, p1)] [] d
  refine g_sub (lo2 := [(2, 0), (0, p1)]) (lsb_v (lsb_v lsb_e)) ?_
  unfold L_Mo_readHours at h
  refine g_aload_n C 0 rfl (by decide +kernel) ?_
  refine g_iconst C 0 (cK rfl) (by decide +kernel) ?_
  refine g_sipush C 1439 (by decide) (by decide +kernel) ?_
  obtain ⟨r2_, d1_, hr3_, h⟩ := bd_some h
  refine g_callV C mw_Mo_number [(0, 0), (0, 1439)] 0 cl12 rfl (ok_Mo_number 0 1439 d (c32_cb (Or.inl rfl)) (cK rfl) hr3_) cd_B0 (by decide) (nB (by decide)) (ix := 468) lk_1958 lk_1960 lkp_77 ⟨rfl, rfl, Nat.le_of_ble_eq_true rfl, Nat.le_of_ble_eq_true rfl⟩ rfl (rest := []) rfl (Nat.le_of_ble_eq_true rfl) ⟨Nat.zero_le _, Nat.zero_le _⟩ (by decide +kernel) (fun _ hc4_ => ?_)
  replace hc4_ : cb r2_ := hc4_
  refine g_st (st2 := [(0, r2_)]) rfl ?_
  refine g_if_ne C (off := 5) (tgt := 13) (c32_cb hc4_) (by decide +kernel) (by decide) (fun hc5_ => ?_) (fun hc5_ => ?_)
  · replace h := ite_t hc5_ h
    refine g_iconst C 0 (cK rfl) (by decide +kernel) ?_
    obtain ⟨rfl, rfl⟩ := ret_inj h
    exact g_zret C (Or.inl rfl) hlk hr (by decide +kernel)
  · replace h := ite_f hc5_ h
    refine g_aload_n C 0 rfl (by decide +kernel) ?_
    refine g_getR C cl12 0 48 30 rfl cd_B0 ⟨by decide, rfl, by decide⟩ rfl rfl (nB (by decide)) (ix := 110) lk_1450 (by decide +kernel) ?_
    refine g_iload_n C 1 rfl (by decide +kernel) ?_
    refine g_aload_n C 0 rfl (by decide +kernel) ?_
    refine g_getI C cl12 0 37 rfl cd_B0 ⟨by decide, rfl, by decide⟩ rfl (nB (by decide)) (ix := 385) lk_1439 (by decide +kernel) (fun hc6_ => ?_)
    obtain ⟨hb7_, h⟩ := ck_some h
    refine g_iast C 30 hc6_ hp1 rfl cd_B30 (nB (by decide)) hb7_ (by decide +kernel) ?_
    refine g_aload_n C 0 rfl (by decide +kernel) ?_
    obtain ⟨r9_, d8_, hr10_, h⟩ := bd_some h
    refine g_callV C mw_Mo_next [] 0 cl12 rfl (ok_Mo_next  (up2 d1_ 30 p1.toNat (d1_ 0 37))  hr10_) cd_B0 (by decide) (nB (by decide)) (ix := 423) lk_1861 lk_1863 lkp_67 ⟨rfl, rfl, Nat.le_of_ble_eq_true rfl, Nat.le_of_ble_eq_true rfl⟩ rfl (rest := []) rfl (Nat.le_of_ble_eq_true rfl) ⟨Nat.zero_le _, Nat.zero_le _⟩ (by decide +kernel) (fun _ hc11_ => ?_)
    refine g_st (st2 := []) rfl ?_
    refine g_aload_n C 0 rfl (by decide +kernel) ?_
    refine g_bipush C 7 (by decide) (by decide +kernel) ?_
    obtain ⟨r13_, d12_, hr14_, h⟩ := bd_some h
    refine g_callV C mw_Mo_isKey [(0, 7)] 0 cl12 rfl (ok_Mo_isKey 7 d8_ (cK rfl) hr14_) cd_B0 (by decide) (nB (by decide)) (ix := 441) lk_1942 lk_1944 lkp_73 ⟨rfl, rfl, Nat.le_of_ble_eq_true rfl, Nat.le_of_ble_eq_true rfl⟩ rfl (rest := []) rfl (Nat.le_of_ble_eq_true rfl) ⟨Nat.zero_le _, Nat.zero_le _⟩ (by decide +kernel) (fun _ hc15_ => ?_)
    replace hc15_ : cb r13_ := hc15_
    refine g_st (st2 := [(0, r13_)]) rfl ?_
    refine g_if_ne C (off := 9) (tgt := 42) (c32_cb hc15_) (by decide +kernel) (by decide) (fun hc16_ => ?_) (fun hc16_ => ?_)
    · replace h := ite_t hc16_ h
      refine g_aload_n C 0 rfl (by decide +kernel) ?_
      refine g_iconst C 2 (cK rfl) (by decide +kernel) ?_
      obtain ⟨r18_, d17_, hr19_, h⟩ := bd_some h
      refine g_callV C mw_Mo_fails [(0, 2)] 0 cl12 rfl (ok_Mo_fails 2 d12_ (cK rfl) hr19_) cd_B0 (by decide) (nB (by decide)) (ix := 420) lk_1938 lk_1940 lkp_72 ⟨rfl, rfl, Nat.le_of_ble_eq_true rfl, Nat.le_of_ble_eq_true rfl⟩ rfl (rest := []) rfl (Nat.le_of_ble_eq_true rfl) ⟨Nat.zero_le _, Nat.zero_le _⟩ (by decide +kernel) (fun _ hc20_ => ?_)
      replace hc20_ : cb r18_ := hc20_
      refine g_st (st2 := [(0, r18_)]) rfl ?_
      obtain ⟨rfl, rfl⟩ := ret_inj h
      exact g_zret C hc20_ hlk hr (by decide +kernel)
    · replace h := ite_f hc16_ h
      refine g_aload_n C 0 rfl (by decide +kernel) ?_
      obtain ⟨r22_, d21_, hr23_, h⟩ := bd_some h
      refine g_callV C mw_Mo_next [] 0 cl12 rfl (ok_Mo_next  d12_  hr23_) cd_B0 (by decide) (nB (by decide)) (ix := 423) lk_1861 lk_1863 lkp_67 ⟨rfl, rfl, Nat.le_of_ble_eq_true rfl, Nat.le_of_ble_eq_true rfl⟩ rfl (rest := []) rfl (Nat.le_of_ble_eq_true rfl) ⟨Nat.zero_le _, Nat.zero_le _⟩ (by decide +kernel) (fun _ hc24_ => ?_)
      refine g_st (st2 := []) rfl ?_
      refine g_aload_n C 0 rfl (by decide +kernel) ?_
      refine g_aload_n C 0 rfl (by decide +kernel) ?_
      refine g_getR C cl12 0 48 30 rfl cd_B0 ⟨by decide, rfl, by decide⟩ rfl rfl (nB (by decide)) (ix := 110) lk_1450 (by decide +kernel) ?_
      refine g_iload_n C 1 rfl (by decide +kernel) ?_
      obtain ⟨hb25_, h⟩ := ck_some h
      refine g_iald C 30 hp1 rfl cd_B30 (nB (by decide)) hb25_ (by decide +kernel) (fun hc26_ => ?_)
      refine g_sipush C 1439 (by decide) (by decide +kernel) ?_
      obtain ⟨r28_, d27_, hr29_, h⟩ := bd_some h
      refine g_callV C mw_Mo_number [(0, (d21_ 30 p1.toNat)), (0, 1439)] 0 cl12 rfl (ok_Mo_number (d21_ 30 p1.toNat) 1439 d21_ hc26_ (cK rfl) hr29_) cd_B0 (by decide) (nB (by decide)) (ix := 468) lk_1958 lk_1960 lkp_77 ⟨rfl, rfl, Nat.le_of_ble_eq_true rfl, Nat.le_of_ble_eq_true rfl⟩ rfl (rest := []) rfl (Nat.le_of_ble_eq_true rfl) ⟨Nat.zero_le _, Nat.zero_le _⟩ (by decide +kernel) (fun _ hc30_ => ?_)
      replace hc30_ : cb r28_ := hc30_
      refine g_st (st2 := [(0, r28_)]) rfl ?_
      refine g_if_ne C (off := 5) (tgt := 64) (c32_cb hc30_) (by decide +kernel) (by decide) (fun hc31_ => ?_) (fun hc31_ => ?_)
      · replace h := ite_t hc31_ h
        refine g_iconst C 0 (cK rfl) (by decide +kernel) ?_
        obtain ⟨rfl, rfl⟩ := ret_inj h
        exact g_zret C (Or.inl rfl) hlk hr (by decide +kernel)
      · replace h := ite_f hc31_ h
        refine g_aload_n C 0 rfl (by decide +kernel) ?_
        refine g_getR C cl12 0 49 31 rfl cd_B0 ⟨by decide, rfl, by decide⟩ rfl rfl (nB (by decide)) (ix := 113) lk_1451 (by decide +kernel) ?_
        refine g_iload_n C 1 rfl (by decide +kernel) ?_
        refine g_aload_n C 0 rfl (by decide +kernel) ?_
        refine g_getI C cl12 0 37 rfl cd_B0 ⟨by decide, rfl, by decide⟩ rfl (nB (by decide)) (ix := 385) lk_1439 (by decide +kernel) (fun hc32_ => ?_)
        obtain ⟨hb33_, h⟩ := ck_some h
        refine g_iast C 31 hc32_ hp1 rfl cd_B31 (nB (by decide)) hb33_ (by decide +kernel) ?_
        refine g_aload_n C 0 rfl (by decide +kernel) ?_
        obtain ⟨r35_, d34_, hr36_, h⟩ := bd_some h
        refine g_callV C mw_Mo_next [] 0 cl12 rfl (ok_Mo_next  (up2 d27_ 31 p1.toNat (d27_ 0 37))  hr36_) cd_B0 (by decide) (nB (by decide)) (ix := 423) lk_1861 lk_1863 lkp_67 ⟨rfl, rfl, Nat.le_of_ble_eq_true rfl, Nat.le_of_ble_eq_true rfl⟩ rfl (rest := []) rfl (Nat.le_of_ble_eq_true rfl) ⟨Nat.zero_le _, Nat.zero_le _⟩ (by decide +kernel) (fun _ hc37_ => ?_)
        refine g_st (st2 := []) rfl ?_
        refine g_iconst C 1 (cK rfl) (by decide +kernel) ?_
        obtain ⟨rfl, rfl⟩ := ret_inj h
        exact g_zret C (Or.inr rfl) hlk hr (by decide +kernel)
/-! PollBooksModel.puts(II)V -/
def y_Mo_puts : MethodName := ⟨"PollBooksModel", "puts", "(II)V"⟩
def rm_Mo_puts : Room := { frames := 0, cells := 0, slots := 0, locals := 0 }
theorem mw_Mo_puts : MW y_Mo_puts prog_14_method_46_code 3 none 2 := ⟨lk_1985, lk_14, by decide +kernel⟩
def L_Mo_puts (p1 p2 : Int) (d : Dt) : Option (Int × Dt) :=
  ck ((0 : Int) ≤ (d 0 42) ∧ (d 0 42) < 4000) (ck ((0 : Int) ≤ (d 0 42) ∧ (d 0 42) < 4000) (some (0, (up2 (up2 (up2 d 43 ((d 0 42)).toNat p1) 44 ((d 0 42)).toNat p2) 0 42 (w32 ((d 0 42) + 1))))))
set_option maxHeartbeats 4000000 in
theorem ok_Mo_puts {l : Launch} {r : Int} {d' : Dt} (p1 p2 : Int) (d : Dt) (hp1 : c32 p1) (hp2 : c32 p2) (h : L_Mo_puts p1 p2 d = some (r, d')) : MC l y_Mo_puts prog_14_method_46_code 3 none rm_Mo_puts 1 [(2, 0), (0, p1), (0, p2)] d none d' := by
  refine MC.of (by decide) (Nat.le_of_ble_eq_true rfl) ?_
  intro p e s m args below meth c D cA ad A C hlk hr
  replace C : Cx p s m args c prog_14_method_46_code 3 "PollBooksModel" D cA ad 1 A := C
  show G p l e rm_Mo_puts s m args below meth c 0 0 (MQ below (fun _ => QC D cA ad 1 A none none d') args s 0 0 A) 3 D cA ad 1 A 0 [(2, 0), (0, p1), (0, p2)] [] d
  refine g_sub (lo2 := [(2, 0), (0, p1), (0, p2)]) (lsb_v (lsb_v (lsb_v lsb_e))) ?_
  unfold L_Mo_puts at h
  refine g_aload_n C 0 rfl (by decide +kernel) ?_
  refine g_getR C cl12 0 61 43 rfl cd_B0 ⟨by decide, rfl, by decide⟩ rfl rfl (nB (by decide)) (ix := 149) lk_1463 (by decide +kernel) ?_
  refine g_aload_n C 0 rfl (by decide +kernel) ?_
  refine g_getI C cl12 0 42 rfl cd_B0 ⟨by decide, rfl, by decide⟩ rfl (nB (by decide)) (ix := 426) lk_1444 (by decide +kernel) (fun hc1_ => ?_)
  refine g_iload_n C 1 rfl (by decide +kernel) ?_
  obtain ⟨hb2_, h⟩ := ck_some h
  refine g_iast C 43 hp1 hc1_ rfl cd_B43 (nB (by decide)) hb2_ (by decide +kernel) ?_
  refine g_aload_n C 0 rfl (by decide +kernel) ?_
  refine g_getR C cl12 0 62 44 rfl cd_B0 ⟨by decide, rfl, by decide⟩ rfl rfl (nB (by decide)) (ix := 152) lk_1464 (by decide +kernel) ?_
  refine g_aload_n C 0 rfl (by decide +kernel) ?_
  refine g_getI C cl12 0 42 rfl cd_B0 ⟨by decide, rfl, by decide⟩ rfl (nB (by decide)) (ix := 426) lk_1444 (by decide +kernel) (fun hc3_ => ?_)
  refine g_val (y := (d 0 42)) rfl ?_
  replace hc3_ : c32 (d 0 42) := hc3_
  refine g_iload_n C 2 rfl (by decide +kernel) ?_
  obtain ⟨hb4_, h⟩ := ck_some h
  refine g_iast C 44 hp2 hc3_ rfl cd_B44 (nB (by decide)) hb4_ (by decide +kernel) ?_
  refine g_aload_n C 0 rfl (by decide +kernel) ?_
  refine g_dup C tg2 (by decide +kernel) ?_
  refine g_getI C cl12 0 42 rfl cd_B0 ⟨by decide, rfl, by decide⟩ rfl (nB (by decide)) (ix := 426) lk_1444 (by decide +kernel) (fun hc5_ => ?_)
  refine g_val (y := (d 0 42)) rfl ?_
  replace hc5_ : c32 (d 0 42) := hc5_
  refine g_iconst C 1 (cK rfl) (by decide +kernel) ?_
  refine g_iadd C (by decide +kernel) ?_
  refine g_putI C cl12 0 42 (w32_c _) rfl cd_B0 ⟨by decide, rfl, by decide⟩ rfl (nB (by decide)) (ix := 426) lk_1444 rfl rfl (by decide +kernel) ?_
  obtain ⟨rfl, rfl⟩ := ret_inj h
  exact g_vret C hlk hr (by decide +kernel)
/-! PollBooksModel.sum()Z -/
def y_Mo_sum : MethodName := ⟨"PollBooksModel", "sum", "()Z"⟩
def rm_Mo_sum : Room := { frames := 5, cells := 0, slots := 0, locals := 111 }
theorem mw_Mo_sum : MW y_Mo_sum prog_14_method_47_code 4 (some .boolean) 0 := ⟨lk_1981, lk_14, by decide +kernel⟩
def L_Mo_sum_b231 (x1 : Int) (d : Dt) : Option ((Int × Int × Dt) ⊕ ((Dt) ⊕ (Dt) ⊕ (Dt) ⊕ (Dt) ⊕ (Dt))) :=
  ck ((0 : Int) ≤ x1 ∧ x1 < 8) (bd (L_Mo_next (up2 d 45 x1.toNat (d 0 37))) (fun r4_ d3_ => some (Sum.inl (x1, 1, d3_))))
def L_Mo_sum_b206 (x1 x2 : Int) (d : Dt) : Option ((Int × Int × Dt) ⊕ ((Dt) ⊕ (Dt) ⊕ (Dt) ⊕ (Dt) ⊕ (Dt))) :=
  ck ((0 : Int) ≤ x1 ∧ x1 < 8) (bd (L_Mo_isSign 43 (up2 d 45 x1.toNat 0)) (fun r9_ d8_ => if r9_ = 0 then bd (L_Mo_isSign 45 d8_) (fun r14_ d13_ => if r14_ = 0 then if x1 = 0 then some (Sum.inr (Sum.inr (Sum.inr (Sum.inr (Sum.inl (d13_)))))) else bd (L_Mo_want 41 d13_) (fun r20_ d19_ => if r20_ = 0 then some (Sum.inr (Sum.inr (Sum.inr (Sum.inr (Sum.inr (d19_)))))) else some (Sum.inl ((w32 (x1 + (-1))), x2, d19_))) else L_Mo_sum_b231 x1 d13_) else L_Mo_sum_b231 x1 d8_))
def L_Mo_sum_b153 (x1 x2 : Int) (d : Dt) : Option ((Int × Int × Dt) ⊕ ((Dt) ⊕ (Dt) ⊕ (Dt) ⊕ (Dt) ⊕ (Dt))) :=
  ck ((0 : Int) ≤ x1 ∧ x1 < 8) (bd (L_Mo_isSign 42 (up2 d 46 x1.toNat 0)) (fun r26_ d25_ => if r26_ = 0 then ck ((0 : Int) ≤ x1 ∧ x1 < 8) (if (d25_ 45 x1.toNat) = 0 then L_Mo_sum_b206 x1 x2 d25_ else ck ((0 : Int) ≤ x1 ∧ x1 < 8) (bd (L_Mo_puts (d25_ 45 x1.toNat) 0 d25_) (fun r36_ d35_ => L_Mo_sum_b206 x1 x2 d35_))) else ck ((0 : Int) ≤ x1 ∧ x1 < 8) (bd (L_Mo_next (up2 d25_ 46 x1.toNat 42)) (fun r41_ d40_ => some (Sum.inl (x1, 1, d40_))))))
def L_Mo_sum_b74 (x1 s1 s2 : Int) (d : Dt) : Option ((Int × Int × Dt) ⊕ ((Dt) ⊕ (Dt) ⊕ (Dt) ⊕ (Dt) ⊕ (Dt))) :=
  bd (L_Mo_puts s1 s2 d) (fun r45_ d44_ => bd (L_Mo_next d44_) (fun r49_ d48_ => some (Sum.inl (x1, 0, d48_))))
def L_Mo_sum_b61 (x1 x3 s1 : Int) (d : Dt) : Option ((Int × Int × Dt) ⊕ ((Dt) ⊕ (Dt) ⊕ (Dt) ⊕ (Dt) ⊕ (Dt))) :=
  if x3 = (-1) then L_Mo_sum_b74 x1 s1 (d 0 37) d else L_Mo_sum_b74 x1 s1 x3 d
def L_Mo_sum_b50 (x1 x3 : Int) (d : Dt) : Option ((Int × Int × Dt) ⊕ ((Dt) ⊕ (Dt) ⊕ (Dt) ⊕ (Dt) ⊕ (Dt))) :=
  if x3 = (-1) then L_Mo_sum_b61 x1 x3 0 d else L_Mo_sum_b61 x1 x3 1 d
def L_Mo_sum_y18 (x1 x2 : Int) (d : Dt) : Option ((Int × Int × Dt) ⊕ ((Dt) ⊕ (Dt) ⊕ (Dt) ⊕ (Dt) ⊕ (Dt))) :=
  if (d 0 40) = 0 then if x2 = 0 then ck ((0 : Int) ≤ x1 ∧ x1 < 8) (if (d 46 x1.toNat) = 0 then L_Mo_sum_b153 x1 x2 d else bd (L_Mo_puts 42 0 d) (fun r62_ d61_ => L_Mo_sum_b153 x1 x2 d61_)) else bd (L_Mo_inWords 1000004 d) (fun r66_ d65_ => if (d65_ 0 34) = 3 then L_Mo_sum_b50 x1 r66_ d65_ else if r66_ = (-1) then bd (L_Mo_isSign 40 d65_) (fun r73_ d72_ => if r73_ = 0 then some (Sum.inr (Sum.inr (Sum.inl (d72_)))) else if x1 = 6 then some (Sum.inr (Sum.inr (Sum.inr (Sum.inl (d72_))))) else bd (L_Mo_next d72_) (fun r79_ d78_ => ck ((0 : Int) ≤ (w32 (x1 + 1)) ∧ (w32 (x1 + 1)) < 8) (ck ((0 : Int) ≤ (w32 (x1 + 1)) ∧ (w32 (x1 + 1)) < 8) (some (Sum.inl ((w32 (x1 + 1)), x2, (up2 (up2 d78_ 45 ((w32 (x1 + 1))).toNat 0) 46 ((w32 (x1 + 1))).toNat 0))))))) else L_Mo_sum_b50 x1 r66_ d65_) else some (Sum.inr (Sum.inl (d)))
def L_Mo_sum_l18 (x1 x2 : Int) (d : Dt) : Option ((Dt) ⊕ (Dt) ⊕ (Dt) ⊕ (Dt) ⊕ (Dt)) := lpF (fun q : Int × Int × Dt => L_Mo_sum_y18 q.1 q.2.1 q.2.2) FU (x1, x2, d)
def L_Mo_sum (d : Dt) : Option (Int × Dt) :=
  lb (L_Mo_sum_l18 0 1 (up2 (up2 d 45 0 0) 46 0 0)) (fun q104_ => sm q104_ (fun q105_ => u0 q105_ (fun d86_ => some (0, d86_))) (fun q106_ => sm q106_ (fun q107_ => u0 q107_ (fun d88_ => bd (L_Mo_fails 2 d88_) (fun r91_ d90_ => some (r91_, d90_)))) (fun q108_ => sm q108_ (fun q109_ => u0 q109_ (fun d94_ => bd (L_Mo_fails 5 d94_) (fun r97_ d96_ => some (r97_, d96_)))) (fun q110_ => sm q110_ (fun q111_ => u0 q111_ (fun d100_ => some (1, d100_))) (fun q112_ => u0 q112_ (fun d102_ => some (0, d102_)))))))
set_option maxHeartbeats 4000000 in
theorem ok_Mo_sum_b231 {p : Program} {l : Launch} {e : Env} {s : State} {m : MethodId} {args : Array Value} {below : List Frame} {meth : Method} {c : Code} {D : va_G} {cA : Nat → ClassId} {ad : Nat → Nat} {A : Nat → Prop} (C : Cx p s m args c prog_14_method_47_code 4 "PollBooksModel" D cA ad 1 A) {Q : State → Prop} {o : (Int × Int × Dt) ⊕ ((Dt) ⊕ (Dt) ⊕ (Dt) ⊕ (Dt) ⊕ (Dt))} (x1 : Int) (d : Dt) (hx1 : c32 x1) (h : L_Mo_sum_b231 x1 d = some o) (kb : ∀ (y0 y1 : Int) (e' : Dt), o = .inl (y0, y1, e') → c32 y0 → cb y1 → G p l e rm_Mo_sum s m args below meth c 0 0 Q 4 D cA ad 1 A 18 [(2, 0), (0, y0), (0, y1), (9, 0)] [] e') (k0 : ∀ (e' : Dt), o = .inr (Sum.inl (e')) → G p l e rm_Mo_sum s m args below meth c 0 0 Q 4 D cA ad 1 A 273 [(9, 0), (9, 0), (9, 0), (9, 0)] [] e') (k1 : ∀ (e' : Dt), o = .inr (Sum.inr (Sum.inl (e'))) → G p l e rm_Mo_sum s m args below meth c 0 0 Q 4 D cA ad 1 A 95 [(2, 0), (9, 0), (9, 0), (9, 0)] [] e') (k2 : ∀ (e' : Dt), o = .inr (Sum.inr (Sum.inr (Sum.inl (e')))) → G p l e rm_Mo_sum s m args below meth c 0 0 Q 4 D cA ad 1 A 107 [(2, 0), (9, 0), (9, 0), (9, 0)] [] e') (k3 : ∀ (e' : Dt), o = .inr (Sum.inr (Sum.inr (Sum.inr (Sum.inl (e'))))) → G p l e rm_Mo_sum s m args below meth c 0 0 Q 4 D cA ad 1 A 254 [(9, 0), (9, 0), (9, 0), (9, 0)] [] e') (k4 : ∀ (e' : Dt), o = .inr (Sum.inr (Sum.inr (Sum.inr (Sum.inr (e'))))) → G p l e rm_Mo_sum s m args below meth c 0 0 Q 4 D cA ad 1 A 265 [(9, 0), (9, 0), (9, 0), (9, 0)] [] e') : G p l e rm_Mo_sum s m args below meth c 0 0 Q 4 D cA ad 1 A 231 [(2, 0), (0, x1), (9, 0), (9, 0)] [] d := by
  unfold L_Mo_sum_b231 at h
  refine g_aload_n C 0 rfl (by decide +kernel) ?_
  refine g_getR C cl12 0 63 45 rfl cd_B0 ⟨by decide, rfl, by decide⟩ rfl rfl (nB (by decide)) (ix := 155) lk_1465 (by decide +kernel) ?_
  refine g_iload_n C 1 rfl (by decide +kernel) ?_
  refine g_aload_n C 0 rfl (by decide +kernel) ?_
  refine g_getI C cl12 0 37 rfl cd_B0 ⟨by decide, rfl, by decide⟩ rfl (nB (by decide)) (ix := 385) lk_1439 (by decide +kernel) (fun hc1_ => ?_)
  obtain ⟨hb2_, h⟩ := ck_some h
  refine g_iast C 45 hc1_ hx1 rfl cd_B45 (nB (by decide)) hb2_ (by decide +kernel) ?_
  refine g_aload_n C 0 rfl (by decide +kernel) ?_
  obtain ⟨r4_, d3_, hr5_, h⟩ := bd_some h
  refine g_callV C mw_Mo_next [] 0 cl12 rfl (ok_Mo_next  (up2 d 45 x1.toNat (d 0 37))  hr5_) cd_B0 (by decide) (nB (by decide)) (ix := 423) lk_1861 lk_1863 lkp_67 ⟨rfl, rfl, Nat.le_of_ble_eq_true rfl, Nat.le_of_ble_eq_true rfl⟩ rfl (rest := []) rfl (Nat.le_of_ble_eq_true rfl) ⟨Nat.zero_le _, Nat.zero_le _⟩ (by decide +kernel) (fun _ hc6_ => ?_)
  refine g_st (st2 := []) rfl ?_
  refine g_iconst C 1 (cK rfl) (by decide +kernel) ?_
  refine s_istore_n C 2 (lo' := [(2, 0), (0, x1), (0, 1), (9, 0)]) (by decide) (s1k (s1n (by decide) s1z)) (by decide +kernel) ?_
  refine g_goto C 18 (off := (-229)) (by decide +kernel) (by decide) ?_
  refine g_sub (lo2 := [(2, 0), (0, x1), (0, 1), (9, 0)]) (lsb_v (lsb_v (lsb_v (lsb_c lsb_e)))) ?_
  obtain rfl := Option.some.inj h
  exact kb x1 1 d3_ rfl hx1 (Or.inr rfl)
set_option maxHeartbeats 4000000 in
theorem ok_Mo_sum_b206 {p : Program} {l : Launch} {e : Env} {s : State} {m : MethodId} {args : Array Value} {below : List Frame} {meth : Method} {c : Code} {D : va_G} {cA : Nat → ClassId} {ad : Nat → Nat} {A : Nat → Prop} (C : Cx p s m args c prog_14_method_47_code 4 "PollBooksModel" D cA ad 1 A) {Q : State → Prop} {o : (Int × Int × Dt) ⊕ ((Dt) ⊕ (Dt) ⊕ (Dt) ⊕ (Dt) ⊕ (Dt))} (x1 x2 : Int) (d : Dt) (hx1 : c32 x1) (hx2 : cb x2) (h : L_Mo_sum_b206 x1 x2 d = some o) (kb : ∀ (y0 y1 : Int) (e' : Dt), o = .inl (y0, y1, e') → c32 y0 → cb y1 → G p l e rm_Mo_sum s m args below meth c 0 0 Q 4 D cA ad 1 A 18 [(2, 0), (0, y0), (0, y1), (9, 0)] [] e') (k0 : ∀ (e' : Dt), o = .inr (Sum.inl (e')) → G p l e rm_Mo_sum s m args below meth c 0 0 Q 4 D cA ad 1 A 273 [(9, 0), (9, 0), (9, 0), (9, 0)] [] e') (k1 : ∀ (e' : Dt), o = .inr (Sum.inr (Sum.inl (e'))) → G p l e rm_Mo_sum s m args below meth c 0 0 Q 4 D cA ad 1 A 95 [(2, 0), (9, 0), (9, 0), (9, 0)] [] e') (k2 : ∀ (e' : Dt), o = .inr (Sum.inr (Sum.inr (Sum.inl (e')))) → G p l e rm_Mo_sum s m args below meth c 0 0 Q 4 D cA ad 1 A 107 [(2, 0), (9, 0), (9, 0), (9, 0)] [] e') (k3 : ∀ (e' : Dt), o = .inr (Sum.inr (Sum.inr (Sum.inr (Sum.inl (e'))))) → G p l e rm_Mo_sum s m args below meth c 0 0 Q 4 D cA ad 1 A 254 [(9, 0), (9, 0), (9, 0), (9, 0)] [] e') (k4 : ∀ (e' : Dt), o = .inr (Sum.inr (Sum.inr (Sum.inr (Sum.inr (e'))))) → G p l e rm_Mo_sum s m args below meth c 0 0 Q 4 D cA ad 1 A 265 [(9, 0), (9, 0), (9, 0), (9, 0)] [] e') : G p l e rm_Mo_sum s m args below meth c 0 0 Q 4 D cA ad 1 A 206 [(2, 0), (0, x1), (0, x2), (9, 0)] [] d := by
  unfold L_Mo_sum_b206 at h
  refine g_aload_n C 0 rfl (by decide +kernel) ?_
  refine g_getR C cl12 0 63 45 rfl cd_B0 ⟨by decide, rfl, by decide⟩ rfl rfl (nB (by decide)) (ix := 155) lk_1465 (by decide +kernel) ?_
  refine g_iload_n C 1 rfl (by decide +kernel) ?_
  refine g_iconst C 0 (cK rfl) (by decide +kernel) ?_
  obtain ⟨hb7_, h⟩ := ck_some h
  refine g_iast C 45 (c32_cb (Or.inl rfl)) hx1 rfl cd_B45 (nB (by decide)) hb7_ (by decide +kernel) ?_
  refine g_aload_n C 0 rfl (by decide +kernel) ?_
  refine g_bipush C 43 (by decide) (by decide +kernel) ?_
  obtain ⟨r9_, d8_, hr10_, h⟩ := bd_some h
  refine g_callV C mw_Mo_isSign [(0, 43)] 0 cl12 rfl (ok_Mo_isSign 43 (up2 d 45 x1.toNat 0) (cK rfl) hr10_) cd_B0 (by decide) (nB (by decide)) (ix := 417) lk_1950 lk_1952 lkp_75 ⟨rfl, rfl, Nat.le_of_ble_eq_true rfl, Nat.le_of_ble_eq_true rfl⟩ rfl (rest := []) rfl (Nat.le_of_ble_eq_true rfl) ⟨Nat.zero_le _, Nat.zero_le _⟩ (by decide +kernel) (fun _ hc11_ => ?_)
  replace hc11_ : cb r9_ := hc11_
  refine g_st (st2 := [(0, r9_)]) rfl ?_
  refine g_if_ne C (off := 12) (tgt := 231) (c32_cb hc11_) (by decide +kernel) (by decide) (fun hc12_ => ?_) (fun hc12_ => ?_)
  · replace h := ite_t hc12_ h
    refine g_aload_n C 0 rfl (by decide +kernel) ?_
    refine g_bipush C 45 (by decide) (by decide +kernel) ?_
    obtain ⟨r14_, d13_, hr15_, h⟩ := bd_some h
    refine g_callV C mw_Mo_isSign [(0, 45)] 0 cl12 rfl (ok_Mo_isSign 45 d8_ (cK rfl) hr15_) cd_B0 (by decide) (nB (by decide)) (ix := 417) lk_1950 lk_1952 lkp_75 ⟨rfl, rfl, Nat.le_of_ble_eq_true rfl, Nat.le_of_ble_eq_true rfl⟩ rfl (rest := []) rfl (Nat.le_of_ble_eq_true rfl) ⟨Nat.zero_le _, Nat.zero_le _⟩ (by decide +kernel) (fun _ hc16_ => ?_)
    replace hc16_ : cb r14_ := hc16_
    refine g_st (st2 := [(0, r14_)]) rfl ?_
    refine g_if_eq C (off := 22) (tgt := 250) (c32_cb hc16_) (by decide +kernel) (by decide) (fun hc17_ => ?_) (fun hc17_ => ?_)
    · replace h := ite_t hc17_ h
      refine g_iload_n C 1 rfl (by decide +kernel) ?_
      refine g_if_ne C (off := 5) (tgt := 256) hx1 (by decide +kernel) (by decide) (fun hc18_ => ?_) (fun hc18_ => ?_)
      · replace h := ite_t hc18_ h
        refine g_sub (lo2 := [(9, 0), (9, 0), (9, 0), (9, 0)]) (lsb_c (lsb_c (lsb_c (lsb_c lsb_e)))) ?_
        obtain rfl := Option.some.inj h
        exact k3 d13_ rfl 
      · replace h := ite_f hc18_ h
        refine g_aload_n C 0 rfl (by decide +kernel) ?_
        refine g_bipush C 41 (by decide) (by decide +kernel) ?_
        obtain ⟨r20_, d19_, hr21_, h⟩ := bd_some h
        refine g_callV C mw_Mo_want [(0, 41)] 0 cl12 rfl (ok_Mo_want 41 d13_ (cK rfl) hr21_) cd_B0 (by decide) (nB (by decide)) (ix := 435) lk_1946 lk_1948 lkp_74 ⟨rfl, rfl, Nat.le_of_ble_eq_true rfl, Nat.le_of_ble_eq_true rfl⟩ rfl (rest := []) rfl (Nat.le_of_ble_eq_true rfl) ⟨Nat.zero_le _, Nat.zero_le _⟩ (by decide +kernel) (fun _ hc22_ => ?_)
        replace hc22_ : cb r20_ := hc22_
        refine g_st (st2 := [(0, r20_)]) rfl ?_
        refine g_if_ne C (off := 5) (tgt := 267) (c32_cb hc22_) (by decide +kernel) (by decide) (fun hc23_ => ?_) (fun hc23_ => ?_)
        · replace h := ite_t hc23_ h
          refine g_sub (lo2 := [(9, 0), (9, 0), (9, 0), (9, 0)]) (lsb_c (lsb_c (lsb_c (lsb_c lsb_e)))) ?_
          obtain rfl := Option.some.inj h
          exact k4 d19_ rfl 
        · replace h := ite_f hc23_ h
          refine s_iinc C 1 (-1) (lo' := [(2, 0), (0, (w32 (x1 + (-1)))), (0, x2), (9, 0)]) rfl (by decide) (s1n (by decide) s1z) (by decide +kernel) ?_
          refine g_goto C 18 (off := (-252)) (by decide +kernel) (by decide) ?_
          refine g_sub (lo2 := [(2, 0), (0, (w32 (x1 + (-1)))), (0, x2), (9, 0)]) (lsb_v (lsb_v (lsb_v (lsb_c lsb_e)))) ?_
          obtain rfl := Option.some.inj h
          exact kb (w32 (x1 + (-1))) x2 d19_ rfl (w32_c _) hx2
    · replace h := ite_f hc17_ h
      refine g_sub (lo2 := [(2, 0), (0, x1), (9, 0), (9, 0)]) (lsb_v (lsb_v (lsb_c (lsb_c lsb_e)))) ?_
      exact ok_Mo_sum_b231 C x1 d13_ hx1 h kb k0 k1 k2 k3 k4
  · replace h := ite_f hc12_ h
    refine g_sub (lo2 := [(2, 0), (0, x1), (9, 0), (9, 0)]) (lsb_v (lsb_v (lsb_c (lsb_c lsb_e)))) ?_
    exact ok_Mo_sum_b231 C x1 d8_ hx1 h kb k0 k1 k2 k3 k4
set_option maxHeartbeats 4000000 in
theorem ok_Mo_sum_b153 {p : Program} {l : Launch} {e : Env} {s : State} {m : MethodId} {args : Array Value} {below : List Frame} {meth : Method} {c : Code} {D : va_G} {cA : Nat → ClassId} {ad : Nat → Nat} {A : Nat → Prop} (C : Cx p s m args c prog_14_method_47_code 4 "PollBooksModel" D cA ad 1 A) {Q : State → Prop} {o : (Int × Int × Dt) ⊕ ((Dt) ⊕ (Dt) ⊕ (Dt) ⊕ (Dt) ⊕ (Dt))} (x1 x2 : Int) (d : Dt) (hx1 : c32 x1) (hx2 : cb x2) (h : L_Mo_sum_b153 x1 x2 d = some o) (kb : ∀ (y0 y1 : Int) (e' : Dt), o = .inl (y0, y1, e') → c32 y0 → cb y1 → G p l e rm_Mo_sum s m args below meth c 0 0 Q 4 D cA ad 1 A 18 [(2, 0), (0, y0), (0, y1), (9, 0)] [] e') (k0 : ∀ (e' : Dt), o = .inr (Sum.inl (e')) → G p l e rm_Mo_sum s m args below meth c 0 0 Q 4 D cA ad 1 A 273 [(9, 0), (9, 0), (9, 0), (9, 0)] [] e') (k1 : ∀ (e' : Dt), o = .inr (Sum.inr (Sum.inl (e'))) → G p l e rm_Mo_sum s m args below meth c 0 0 Q 4 D cA ad 1 A 95 [(2, 0), (9, 0), (9, 0), (9, 0)] [] e') (k2 : ∀ (e' : Dt), o = .inr (Sum.inr (Sum.inr (Sum.inl (e')))) → G p l e rm_Mo_sum s m args below meth c 0 0 Q 4 D cA ad 1 A 107 [(2, 0), (9, 0), (9, 0), (9, 0)] [] e') (k3 : ∀ (e' : Dt), o = .inr (Sum.inr (Sum.inr (Sum.inr (Sum.inl (e'))))) → G p l e rm_Mo_sum s m args below meth c 0 0 Q 4 D cA ad 1 A 254 [(9, 0), (9, 0), (9, 0), (9, 0)] [] e') (k4 : ∀ (e' : Dt), o = .inr (Sum.inr (Sum.inr (Sum.inr (Sum.inr (e'))))) → G p l e rm_Mo_sum s m args below meth c 0 0 Q 4 D cA ad 1 A 265 [(9, 0), (9, 0), (9, 0), (9, 0)] [] e') : G p l e rm_Mo_sum s m args below meth c 0 0 Q 4 D cA ad 1 A 153 [(2, 0), (0, x1), (0, x2), (9, 0)] [] d := by
  unfold L_Mo_sum_b153 at h
  refine g_aload_n C 0 rfl (by decide +kernel) ?_
  refine g_getR C cl12 0 64 46 rfl cd_B0 ⟨by decide, rfl, by decide⟩ rfl rfl (nB (by decide)) (ix := 158) lk_1466 (by decide +kernel) ?_
  refine g_iload_n C 1 rfl (by decide +kernel) ?_
  refine g_iconst C 0 (cK rfl) (by decide +kernel) ?_
  obtain ⟨hb24_, h⟩ := ck_some h
  refine g_iast C 46 (c32_cb (Or.inl rfl)) hx1 rfl cd_B46 (nB (by decide)) hb24_ (by decide +kernel) ?_
  refine g_aload_n C 0 rfl (by decide +kernel) ?_
  refine g_bipush C 42 (by decide) (by decide +kernel) ?_
  obtain ⟨r26_, d25_, hr27_, h⟩ := bd_some h
  refine g_callV C mw_Mo_isSign [(0, 42)] 0 cl12 rfl (ok_Mo_isSign 42 (up2 d 46 x1.toNat 0) (cK rfl) hr27_) cd_B0 (by decide) (nB (by decide)) (ix := 417) lk_1950 lk_1952 lkp_75 ⟨rfl, rfl, Nat.le_of_ble_eq_true rfl, Nat.le_of_ble_eq_true rfl⟩ rfl (rest := []) rfl (Nat.le_of_ble_eq_true rfl) ⟨Nat.zero_le _, Nat.zero_le _⟩ (by decide +kernel) (fun _ hc28_ => ?_)
  replace hc28_ : cb r26_ := hc28_
  refine g_st (st2 := [(0, r26_)]) rfl ?_
  refine g_if_eq C (off := 20) (tgt := 186) (c32_cb hc28_) (by decide +kernel) (by decide) (fun hc29_ => ?_) (fun hc29_ => ?_)
  · replace h := ite_t hc29_ h
    refine g_aload_n C 0 rfl (by decide +kernel) ?_
    refine g_getR C cl12 0 63 45 rfl cd_B0 ⟨by decide, rfl, by decide⟩ rfl rfl (nB (by decide)) (ix := 155) lk_1465 (by decide +kernel) ?_
    refine g_iload_n C 1 rfl (by decide +kernel) ?_
    obtain ⟨hb30_, h⟩ := ck_some h
    refine g_iald C 45 hx1 rfl cd_B45 (nB (by decide)) hb30_ (by decide +kernel) (fun hc31_ => ?_)
    refine g_if_eq C (off := 14) (tgt := 206) hc31_ (by decide +kernel) (by decide) (fun hc32_ => ?_) (fun hc32_ => ?_)
    · replace h := ite_t hc32_ h
      refine g_sub (lo2 := [(2, 0), (0, x1), (0, x2), (9, 0)]) (lsb_v (lsb_v (lsb_v (lsb_c lsb_e)))) ?_
      exact ok_Mo_sum_b206 C x1 x2 d25_ hx1 hx2 h kb k0 k1 k2 k3 k4
    · replace h := ite_f hc32_ h
      refine g_aload_n C 0 rfl (by decide +kernel) ?_
      refine g_aload_n C 0 rfl (by decide +kernel) ?_
      refine g_getR C cl12 0 63 45 rfl cd_B0 ⟨by decide, rfl, by decide⟩ rfl rfl (nB (by decide)) (ix := 155) lk_1465 (by decide +kernel) ?_
      refine g_iload_n C 1 rfl (by decide +kernel) ?_
      obtain ⟨hb33_, h⟩ := ck_some h
      refine g_iald C 45 hx1 rfl cd_B45 (nB (by decide)) hb33_ (by decide +kernel) (fun hc34_ => ?_)
      refine g_iconst C 0 (cK rfl) (by decide +kernel) ?_
      obtain ⟨r36_, d35_, hr37_, h⟩ := bd_some h
      refine g_callV C mw_Mo_puts [(0, (d25_ 45 x1.toNat)), (0, 0)] 0 cl12 rfl (ok_Mo_puts (d25_ 45 x1.toNat) 0 d25_ hc34_ (c32_cb (Or.inl rfl)) hr37_) cd_B0 (by decide) (nB (by decide)) (ix := 431) lk_1982 lk_1984 lkp_83 ⟨rfl, rfl, Nat.le_of_ble_eq_true rfl, Nat.le_of_ble_eq_true rfl⟩ rfl (rest := []) rfl (Nat.le_of_ble_eq_true rfl) ⟨Nat.zero_le _, Nat.zero_le _⟩ (by decide +kernel) (fun _ hc38_ => ?_)
      refine g_st (st2 := []) rfl ?_
      refine g_sub (lo2 := [(2, 0), (0, x1), (0, x2), (9, 0)]) (lsb_v (lsb_v (lsb_v (lsb_c lsb_e)))) ?_
      exact ok_Mo_sum_b206 C x1 x2 d35_ hx1 hx2 h kb k0 k1 k2 k3 k4
  · replace h := ite_f hc29_ h
    refine g_aload_n C 0 rfl (by decide +kernel) ?_
    refine g_getR C cl12 0 64 46 rfl cd_B0 ⟨by decide, rfl, by decide⟩ rfl rfl (nB (by decide)) (ix := 158) lk_1466 (by decide +kernel) ?_
    refine g_iload_n C 1 rfl (by decide +kernel) ?_
    refine g_bipush C 42 (by decide) (by decide +kernel) ?_
    obtain ⟨hb39_, h⟩ := ck_some h
    refine g_iast C 46 (cK rfl) hx1 rfl cd_B46 (nB (by decide)) hb39_ (by decide +kernel) ?_
    refine g_aload_n C 0 rfl (by decide +kernel) ?_
    obtain ⟨r41_, d40_, hr42_, h⟩ := bd_some h
    refine g_callV C mw_Mo_next [] 0 cl12 rfl (ok_Mo_next  (up2 d25_ 46 x1.toNat 42)  hr42_) cd_B0 (by decide) (nB (by decide)) (ix := 423) lk_1861 lk_1863 lkp_67 ⟨rfl, rfl, Nat.le_of_ble_eq_true rfl, Nat.le_of_ble_eq_true rfl⟩ rfl (rest := []) rfl (Nat.le_of_ble_eq_true rfl) ⟨Nat.zero_le _, Nat.zero_le _⟩ (by decide +kernel) (fun _ hc43_ => ?_)
    refine g_st (st2 := []) rfl ?_
    refine g_iconst C 1 (cK rfl) (by decide +kernel) ?_
    refine s_istore_n C 2 (lo' := [(2, 0), (0, x1), (0, 1), (9, 0)]) (by decide) (s1k (s1n (by decide) s1z)) (by decide +kernel) ?_
    refine g_goto C 18 (off := (-165)) (by decide +kernel) (by decide) ?_
    refine g_sub (lo2 := [(2, 0), (0, x1), (0, 1), (9, 0)]) (lsb_v (lsb_v (lsb_v (lsb_c lsb_e)))) ?_
    obtain rfl := Option.some.inj h
    exact kb x1 1 d40_ rfl hx1 (Or.inr rfl)
set_option maxHeartbeats 4000000 in
theorem ok_Mo_sum_b74 {p : Program} {l : Launch} {e : Env} {s : State} {m : MethodId} {args : Array Value} {below : List Frame} {meth : Method} {c : Code} {D : va_G} {cA : Nat → ClassId} {ad : Nat → Nat} {A : Nat → Prop} (C : Cx p s m args c prog_14_method_47_code 4 "PollBooksModel" D cA ad 1 A) {Q : State → Prop} {o : (Int × Int × Dt) ⊕ ((Dt) ⊕ (Dt) ⊕ (Dt) ⊕ (Dt) ⊕ (Dt))} (x1 s1 s2 : Int) (d : Dt) (hx1 : c32 x1) (hs1 : cb s1) (hs2 : c32 s2) (h : L_Mo_sum_b74 x1 s1 s2 d = some o) (kb : ∀ (y0 y1 : Int) (e' : Dt), o = .inl (y0, y1, e') → c32 y0 → cb y1 → G p l e rm_Mo_sum s m args below meth c 0 0 Q 4 D cA ad 1 A 18 [(2, 0), (0, y0), (0, y1), (9, 0)] [] e') (k0 : ∀ (e' : Dt), o = .inr (Sum.inl (e')) → G p l e rm_Mo_sum s m args below meth c 0 0 Q 4 D cA ad 1 A 273 [(9, 0), (9, 0), (9, 0), (9, 0)] [] e') (k1 : ∀ (e' : Dt), o = .inr (Sum.inr (Sum.inl (e'))) → G p l e rm_Mo_sum s m args below meth c 0 0 Q 4 D cA ad 1 A 95 [(2, 0), (9, 0), (9, 0), (9, 0)] [] e') (k2 : ∀ (e' : Dt), o = .inr (Sum.inr (Sum.inr (Sum.inl (e')))) → G p l e rm_Mo_sum s m args below meth c 0 0 Q 4 D cA ad 1 A 107 [(2, 0), (9, 0), (9, 0), (9, 0)] [] e') (k3 : ∀ (e' : Dt), o = .inr (Sum.inr (Sum.inr (Sum.inr (Sum.inl (e'))))) → G p l e rm_Mo_sum s m args below meth c 0 0 Q 4 D cA ad 1 A 254 [(9, 0), (9, 0), (9, 0), (9, 0)] [] e') (k4 : ∀ (e' : Dt), o = .inr (Sum.inr (Sum.inr (Sum.inr (Sum.inr (e'))))) → G p l e rm_Mo_sum s m args below meth c 0 0 Q 4 D cA ad 1 A 265 [(9, 0), (9, 0), (9, 0), (9, 0)] [] e') : G p l e rm_Mo_sum s m args below meth c 0 0 Q 4 D cA ad 1 A 74 [(2, 0), (0, x1), (9, 0), (9, 0)] [(0, s2), (0, s1), (2, 0)] d := by
  unfold L_Mo_sum_b74 at h
  obtain ⟨r45_, d44_, hr46_, h⟩ := bd_some h
  refine g_callV C mw_Mo_puts [(0, s1), (0, s2)] 0 cl12 rfl (ok_Mo_puts s1 s2 d (c32_cb hs1) hs2 hr46_) cd_B0 (by decide) (nB (by decide)) (ix := 431) lk_1982 lk_1984 lkp_83 ⟨rfl, rfl, Nat.le_of_ble_eq_true rfl, Nat.le_of_ble_eq_true rfl⟩ rfl (rest := []) rfl (Nat.le_of_ble_eq_true rfl) ⟨Nat.zero_le _, Nat.zero_le _⟩ (by decide +kernel) (fun _ hc47_ => ?_)
  refine g_st (st2 := []) rfl ?_
  refine g_aload_n C 0 rfl (by decide +kernel) ?_
  obtain ⟨r49_, d48_, hr50_, h⟩ := bd_some h
  refine g_callV C mw_Mo_next [] 0 cl12 rfl (ok_Mo_next  d44_  hr50_) cd_B0 (by decide) (nB (by decide)) (ix := 423) lk_1861 lk_1863 lkp_67 ⟨rfl, rfl, Nat.le_of_ble_eq_true rfl, Nat.le_of_ble_eq_true rfl⟩ rfl (rest := []) rfl (Nat.le_of_ble_eq_true rfl) ⟨Nat.zero_le _, Nat.zero_le _⟩ (by decide +kernel) (fun _ hc51_ => ?_)
  refine g_st (st2 := []) rfl ?_
  refine g_iconst C 0 (cK rfl) (by decide +kernel) ?_
  refine s_istore_n C 2 (lo' := [(2, 0), (0, x1), (0, 0), (9, 0)]) (by decide) (s1k (s1n (by decide) s1z)) (by decide +kernel) ?_
  refine g_goto C 18 (off := (-65)) (by decide +kernel) (by decide) ?_
  refine g_sub (lo2 := [(2, 0), (0, x1), (0, 0), (9, 0)]) (lsb_v (lsb_v (lsb_v (lsb_c lsb_e)))) ?_
  obtain rfl := Option.some.inj h
  exact kb x1 0 d48_ rfl hx1 (Or.inl rfl)
set_option maxHeartbeats 4000000 in
theorem ok_Mo_sum_b61 {p : Program} {l : Launch} {e : Env} {s : State} {m : MethodId} {args : Array Value} {below : List Frame} {meth : Method} {c : Code} {D : va_G} {cA : Nat → ClassId} {ad : Nat → Nat} {A : Nat → Prop} (C : Cx p s m args c prog_14_method_47_code 4 "PollBooksModel" D cA ad 1 A) {Q : State → Prop} {o : (Int × Int × Dt) ⊕ ((Dt) ⊕ (Dt) ⊕ (Dt) ⊕ (Dt) ⊕ (Dt))} (x1 x3 s1 : Int) (d : Dt) (hx1 : c32 x1) (hx3 : c32 x3) (hs1 : cb s1) (h : L_Mo_sum_b61 x1 x3 s1 d = some o) (kb : ∀ (y0 y1 : Int) (e' : Dt), o = .inl (y0, y1, e') → c32 y0 → cb y1 → G p l e rm_Mo_sum s m args below meth c 0 0 Q 4 D cA ad 1 A 18 [(2, 0), (0, y0), (0, y1), (9, 0)] [] e') (k0 : ∀ (e' : Dt), o = .inr (Sum.inl (e')) → G p l e rm_Mo_sum s m args below meth c 0 0 Q 4 D cA ad 1 A 273 [(9, 0), (9, 0), (9, 0), (9, 0)] [] e') (k1 : ∀ (e' : Dt), o = .inr (Sum.inr (Sum.inl (e'))) → G p l e rm_Mo_sum s m args below meth c 0 0 Q 4 D cA ad 1 A 95 [(2, 0), (9, 0), (9, 0), (9, 0)] [] e') (k2 : ∀ (e' : Dt), o = .inr (Sum.inr (Sum.inr (Sum.inl (e')))) → G p l e rm_Mo_sum s m args below meth c 0 0 Q 4 D cA ad 1 A 107 [(2, 0), (9, 0), (9, 0), (9, 0)] [] e') (k3 : ∀ (e' : Dt), o = .inr (Sum.inr (Sum.inr (Sum.inr (Sum.inl (e'))))) → G p l e rm_Mo_sum s m args below meth c 0 0 Q 4 D cA ad 1 A 254 [(9, 0), (9, 0), (9, 0), (9, 0)] [] e') (k4 : ∀ (e' : Dt), o = .inr (Sum.inr (Sum.inr (Sum.inr (Sum.inr (e'))))) → G p l e rm_Mo_sum s m args below meth c 0 0 Q 4 D cA ad 1 A 265 [(9, 0), (9, 0), (9, 0), (9, 0)] [] e') : G p l e rm_Mo_sum s m args below meth c 0 0 Q 4 D cA ad 1 A 61 [(2, 0), (0, x1), (9, 0), (0, x3)] [(0, s1), (2, 0)] d := by
  unfold L_Mo_sum_b61 at h
  refine g_iload_n C 3 rfl (by decide +kernel) ?_
  refine g_iconst C (-1) (cK rfl) (by decide +kernel) ?_
  refine g_icmp_ne C (off := 10) (tgt := 73) hx3 (cK rfl) (by decide +kernel) (by decide) (fun hc52_ => ?_) (fun hc52_ => ?_)
  · replace h := ite_t hc52_ h
    refine g_aload_n C 0 rfl (by decide +kernel) ?_
    refine g_getI C cl12 0 37 rfl cd_B0 ⟨by decide, rfl, by decide⟩ rfl (nB (by decide)) (ix := 385) lk_1439 (by decide +kernel) (fun hc53_ => ?_)
    refine g_goto C 74 (off := 4) (by decide +kernel) (by decide) ?_
    refine g_sub (lo2 := [(2, 0), (0, x1), (9, 0), (9, 0)]) (lsb_v (lsb_v (lsb_c (lsb_c lsb_e)))) ?_
    exact ok_Mo_sum_b74 C x1 s1 (d 0 37) d hx1 hs1 hc53_ h kb k0 k1 k2 k3 k4
  · replace h := ite_f hc52_ h
    refine g_iload_n C 3 rfl (by decide +kernel) ?_
    refine g_sub (lo2 := [(2, 0), (0, x1), (9, 0), (9, 0)]) (lsb_v (lsb_v (lsb_c (lsb_c lsb_e)))) ?_
    exact ok_Mo_sum_b74 C x1 s1 x3 d hx1 hs1 hx3 h kb k0 k1 k2 k3 k4
set_option maxHeartbeats 4000000 in
theorem ok_Mo_sum_b50 {p : Program} {l : Launch} {e : Env} {s : State} {m : MethodId} {args : Array Value} {below : List Frame} {meth : Method} {c : Code} {D : va_G} {cA : Nat → ClassId} {ad : Nat → Nat} {A : Nat → Prop} (C : Cx p s m args c prog_14_method_47_code 4 "PollBooksModel" D cA ad 1 A) {Q : State → Prop} {o : (Int × Int × Dt) ⊕ ((Dt) ⊕ (Dt) ⊕ (Dt) ⊕ (Dt) ⊕ (Dt))} (x1 x3 : Int) (d : Dt) (hx1 : c32 x1) (hx3 : c32 x3) (h : L_Mo_sum_b50 x1 x3 d = some o) (kb : ∀ (y0 y1 : Int) (e' : Dt), o = .inl (y0, y1, e') → c32 y0 → cb y1 → G p l e rm_Mo_sum s m args below meth c 0 0 Q 4 D cA ad 1 A 18 [(2, 0), (0, y0), (0, y1), (9, 0)] [] e') (k0 : ∀ (e' : Dt), o = .inr (Sum.inl (e')) → G p l e rm_Mo_sum s m args below meth c 0 0 Q 4 D cA ad 1 A 273 [(9, 0), (9, 0), (9, 0), (9, 0)] [] e') (k1 : ∀ (e' : Dt), o = .inr (Sum.inr (Sum.inl (e'))) → G p l e rm_Mo_sum s m args below meth c 0 0 Q 4 D cA ad 1 A 95 [(2, 0), (9, 0), (9, 0), (9, 0)] [] e') (k2 : ∀ (e' : Dt), o = .inr (Sum.inr (Sum.inr (Sum.inl (e')))) → G p l e rm_Mo_sum s m args below meth c 0 0 Q 4 D cA ad 1 A 107 [(2, 0), (9, 0), (9, 0), (9, 0)] [] e') (k3 : ∀ (e' : Dt), o = .inr (Sum.inr (Sum.inr (Sum.inr (Sum.inl (e'))))) → G p l e rm_Mo_sum s m args below meth c 0 0 Q 4 D cA ad 1 A 254 [(9, 0), (9, 0), (9, 0), (9, 0)] [] e') (k4 : ∀ (e' : Dt), o = .inr (Sum.inr (Sum.inr (Sum.inr (Sum.inr (e'))))) → G p l e rm_Mo_sum s m args below meth c 0 0 Q 4 D cA ad 1 A 265 [(9, 0), (9, 0), (9, 0), (9, 0)] [] e') : G p l e rm_Mo_sum s m args below meth c 0 0 Q 4 D cA ad 1 A 50 [(2, 0), (0, x1), (9, 0), (0, x3)] [] d := by
  unfold L_Mo_sum_b50 at h
  refine g_aload_n C 0 rfl (by decide +kernel) ?_
  refine g_iload_n C 3 rfl (by decide +kernel) ?_
  refine g_iconst C (-1) (cK rfl) (by decide +kernel) ?_
  refine g_icmp_ne C (off := 7) (tgt := 60) hx3 (cK rfl) (by decide +kernel) (by decide) (fun hc54_ => ?_) (fun hc54_ => ?_)
  · replace h := ite_t hc54_ h
    refine g_iconst C 0 (cK rfl) (by decide +kernel) ?_
    refine g_goto C 61 (off := 4) (by decide +kernel) (by decide) ?_
    refine g_sub (lo2 := [(2, 0), (0, x1), (9, 0), (0, x3)]) (lsb_v (lsb_v (lsb_c (lsb_v lsb_e)))) ?_
    exact ok_Mo_sum_b61 C x1 x3 0 d hx1 hx3 (Or.inl rfl) h kb k0 k1 k2 k3 k4
  · replace h := ite_f hc54_ h
    refine g_iconst C 1 (cK rfl) (by decide +kernel) ?_
    refine g_sub (lo2 := [(2, 0), (0, x1), (9, 0), (0, x3)]) (lsb_v (lsb_v (lsb_c (lsb_v lsb_e)))) ?_
    exact ok_Mo_sum_b61 C x1 x3 1 d hx1 hx3 (Or.inr rfl) h kb k0 k1 k2 k3 k4
set_option maxHeartbeats 4000000 in
theorem ok_Mo_sum_y18 {p : Program} {l : Launch} {e : Env} {s : State} {m : MethodId} {args : Array Value} {below : List Frame} {meth : Method} {c : Code} {D : va_G} {cA : Nat → ClassId} {ad : Nat → Nat} {A : Nat → Prop} (C : Cx p s m args c prog_14_method_47_code 4 "PollBooksModel" D cA ad 1 A) {Q : State → Prop} {o : (Int × Int × Dt) ⊕ ((Dt) ⊕ (Dt) ⊕ (Dt) ⊕ (Dt) ⊕ (Dt))} (x1 x2 : Int) (d : Dt) (hx1 : c32 x1) (hx2 : cb x2) (h : L_Mo_sum_y18 x1 x2 d = some o) (kb : ∀ (y0 y1 : Int) (e' : Dt), o = .inl (y0, y1, e') → c32 y0 → cb y1 → G p l e rm_Mo_sum s m args below meth c 0 0 Q 4 D cA ad 1 A 18 [(2, 0), (0, y0), (0, y1), (9, 0)] [] e') (k0 : ∀ (e' : Dt), o = .inr (Sum.inl (e')) → G p l e rm_Mo_sum s m args below meth c 0 0 Q 4 D cA ad 1 A 273 [(9, 0), (9, 0), (9, 0), (9, 0)] [] e') (k1 : ∀ (e' : Dt), o = .inr (Sum.inr (Sum.inl (e'))) → G p l e rm_Mo_sum s m args below meth c 0 0 Q 4 D cA ad 1 A 95 [(2, 0), (9, 0), (9, 0), (9, 0)] [] e') (k2 : ∀ (e' : Dt), o = .inr (Sum.inr (Sum.inr (Sum.inl (e')))) → G p l e rm_Mo_sum s m args below meth c 0 0 Q 4 D cA ad 1 A 107 [(2, 0), (9, 0), (9, 0), (9, 0)] [] e') (k3 : ∀ (e' : Dt), o = .inr (Sum.inr (Sum.inr (Sum.inr (Sum.inl (e'))))) → G p l e rm_Mo_sum s m args below meth c 0 0 Q 4 D cA ad 1 A 254 [(9, 0), (9, 0), (9, 0), (9, 0)] [] e') (k4 : ∀ (e' : Dt), o = .inr (Sum.inr (Sum.inr (Sum.inr (Sum.inr (e'))))) → G p l e rm_Mo_sum s m args below meth c 0 0 Q 4 D cA ad 1 A 265 [(9, 0), (9, 0), (9, 0), (9, 0)] [] e') : G p l e rm_Mo_sum s m args below meth c 0 0 Q 4 D cA ad 1 A 18 [(2, 0), (0, x1), (0, x2), (9, 0)] [] d := by
  unfold L_Mo_sum_y18 at h
  refine g_aload_n C 0 rfl (by decide +kernel) ?_
  refine g_getI C cl12 0 40 rfl cd_B0 ⟨by decide, rfl, by decide⟩ rfl (nB (by decide)) (ix := 414) lk_1442 (by decide +kernel) (fun hc55_ => ?_)
  refine g_if_ne C (off := 251) (tgt := 273) hc55_ (by decide +kernel) (by decide) (fun hc56_ => ?_) (fun hc56_ => ?_)
  · replace h := ite_t hc56_ h
    refine g_iload_n C 2 rfl (by decide +kernel) ?_
    refine g_if_eq C (off := 111) (tgt := 137) (c32_cb hx2) (by decide +kernel) (by decide) (fun hc57_ => ?_) (fun hc57_ => ?_)
    · replace h := ite_t hc57_ h
      refine g_aload_n C 0 rfl (by decide +kernel) ?_
      refine g_getR C cl12 0 64 46 rfl cd_B0 ⟨by decide, rfl, by decide⟩ rfl rfl (nB (by decide)) (ix := 158) lk_1466 (by decide +kernel) ?_
      refine g_iload_n C 1 rfl (by decide +kernel) ?_
      obtain ⟨hb58_, h⟩ := ck_some h
      refine g_iald C 46 hx1 rfl cd_B46 (nB (by decide)) hb58_ (by decide +kernel) (fun hc59_ => ?_)
      refine g_if_eq C (off := 10) (tgt := 153) hc59_ (by decide +kernel) (by decide) (fun hc60_ => ?_) (fun hc60_ => ?_)
      · replace h := ite_t hc60_ h
        refine g_sub (lo2 := [(2, 0), (0, x1), (0, x2), (9, 0)]) (lsb_v (lsb_v (lsb_v (lsb_c lsb_e)))) ?_
        exact ok_Mo_sum_b153 C x1 x2 d hx1 hx2 h kb k0 k1 k2 k3 k4
      · replace h := ite_f hc60_ h
        refine g_aload_n C 0 rfl (by decide +kernel) ?_
        refine g_bipush C 42 (by decide) (by decide +kernel) ?_
        refine g_iconst C 0 (cK rfl) (by decide +kernel) ?_
        obtain ⟨r62_, d61_, hr63_, h⟩ := bd_some h
        refine g_callV C mw_Mo_puts [(0, 42), (0, 0)] 0 cl12 rfl (ok_Mo_puts 42 0 d (cK rfl) (c32_cb (Or.inl rfl)) hr63_) cd_B0 (by decide) (nB (by decide)) (ix := 431) lk_1982 lk_1984 lkp_83 ⟨rfl, rfl, Nat.le_of_ble_eq_true rfl, Nat.le_of_ble_eq_true rfl⟩ rfl (rest := []) rfl (Nat.le_of_ble_eq_true rfl) ⟨Nat.zero_le _, Nat.zero_le _⟩ (by decide +kernel) (fun _ hc64_ => ?_)
        refine g_st (st2 := []) rfl ?_
        refine g_sub (lo2 := [(2, 0), (0, x1), (0, x2), (9, 0)]) (lsb_v (lsb_v (lsb_v (lsb_c lsb_e)))) ?_
        exact ok_Mo_sum_b153 C x1 x2 d61_ hx1 hx2 h kb k0 k1 k2 k3 k4
    · replace h := ite_f hc57_ h
      refine g_aload_n C 0 rfl (by decide +kernel) ?_
      refine g_strV C rfl (by decide +kernel) ?_
      obtain ⟨r66_, d65_, hr67_, h⟩ := bd_some h
      refine g_callV C mw_Mo_inWords [(2, 1000004)] 0 cl12 rfl (ok_Mo_inWords 1000004 d  hr67_) cd_B0 (by decide) (nB (by decide)) (ix := 410) lk_1885 lk_1887 lkp_71 ⟨rfl, rfl, Nat.le_of_ble_eq_true rfl, Nat.le_of_ble_eq_true rfl⟩ rfl (rest := []) rfl (Nat.le_of_ble_eq_true rfl) ⟨Nat.zero_le _, Nat.zero_le _⟩ (by decide +kernel) (fun _ hc68_ => ?_)
      replace hc68_ : c32 r66_ := hc68_
      refine g_st (st2 := [(0, r66_)]) rfl ?_
      refine s_istore_n C 3 (lo' := [(2, 0), (0, x1), (0, x2), (0, r66_)]) (by decide) (s1k (s1k (s1n (by decide) s1z))) (by decide +kernel) ?_
      refine g_aload_n C 0 rfl (by decide +kernel) ?_
      refine g_getI C cl12 0 34 rfl cd_B0 ⟨by decide, rfl, by decide⟩ rfl (nB (by decide)) (ix := 388) lk_1436 (by decide +kernel) (fun hc69_ => ?_)
      refine g_iconst C 3 (cK rfl) (by decide +kernel) ?_
      refine g_icmp_eq C (off := 8) (tgt := 50) hc69_ (cK rfl) (by decide +kernel) (by decide) (fun hc70_ => ?_) (fun hc70_ => ?_)
      · replace h := ite_t hc70_ h
        refine g_sub (lo2 := [(2, 0), (0, x1), (9, 0), (0, r66_)]) (lsb_v (lsb_v (lsb_c (lsb_v lsb_e)))) ?_
        exact ok_Mo_sum_b50 C x1 r66_ d65_ hx1 hc68_ h kb k0 k1 k2 k3 k4
      · replace h := ite_f hc70_ h
        refine g_iload_n C 3 rfl (by decide +kernel) ?_
        refine g_iconst C (-1) (cK rfl) (by decide +kernel) ?_
        refine g_icmp_eq C (off := 39) (tgt := 86) hc68_ (cK rfl) (by decide +kernel) (by decide) (fun hc71_ => ?_) (fun hc71_ => ?_)
        · replace h := ite_t hc71_ h
          refine g_aload_n C 0 rfl (by decide +kernel) ?_
          refine g_bipush C 40 (by decide) (by decide +kernel) ?_
          obtain ⟨r73_, d72_, hr74_, h⟩ := bd_some h
          refine g_callV C mw_Mo_isSign [(0, 40)] 0 cl12 rfl (ok_Mo_isSign 40 d65_ (cK rfl) hr74_) cd_B0 (by decide) (nB (by decide)) (ix := 417) lk_1950 lk_1952 lkp_75 ⟨rfl, rfl, Nat.le_of_ble_eq_true rfl, Nat.le_of_ble_eq_true rfl⟩ rfl (rest := []) rfl (Nat.le_of_ble_eq_true rfl) ⟨Nat.zero_le _, Nat.zero_le _⟩ (by decide +kernel) (fun _ hc75_ => ?_)
          replace hc75_ : cb r73_ := hc75_
          refine g_st (st2 := [(0, r73_)]) rfl ?_
          refine g_if_ne C (off := 9) (tgt := 101) (c32_cb hc75_) (by decide +kernel) (by decide) (fun hc76_ => ?_) (fun hc76_ => ?_)
          · replace h := ite_t hc76_ h
            refine g_sub (lo2 := [(2, 0), (9, 0), (9, 0), (9, 0)]) (lsb_v (lsb_c (lsb_c (lsb_c lsb_e)))) ?_
            obtain rfl := Option.some.inj h
            exact k1 d72_ rfl 
          · replace h := ite_f hc76_ h
            refine g_iload_n C 1 rfl (by decide +kernel) ?_
            refine g_bipush C 6 (by decide) (by decide +kernel) ?_
            refine g_icmp_ne C (off := 9) (tgt := 113) hx1 (cK rfl) (by decide +kernel) (by decide) (fun hc77_ => ?_) (fun hc77_ => ?_)
            · replace h := ite_t hc77_ h
              refine g_sub (lo2 := [(2, 0), (9, 0), (9, 0), (9, 0)]) (lsb_v (lsb_c (lsb_c (lsb_c lsb_e)))) ?_
              obtain rfl := Option.some.inj h
              exact k2 d72_ rfl 
            · replace h := ite_f hc77_ h
              refine g_aload_n C 0 rfl (by decide +kernel) ?_
              obtain ⟨r79_, d78_, hr80_, h⟩ := bd_some h
              refine g_callV C mw_Mo_next [] 0 cl12 rfl (ok_Mo_next  d72_  hr80_) cd_B0 (by decide) (nB (by decide)) (ix := 423) lk_1861 lk_1863 lkp_67 ⟨rfl, rfl, Nat.le_of_ble_eq_true rfl, Nat.le_of_ble_eq_true rfl⟩ rfl (rest := []) rfl (Nat.le_of_ble_eq_true rfl) ⟨Nat.zero_le _, Nat.zero_le _⟩ (by decide +kernel) (fun _ hc81_ => ?_)
              refine g_st (st2 := []) rfl ?_
              refine s_iinc C 1 1 (lo' := [(2, 0), (0, (w32 (x1 + 1))), (0, x2), (0, r66_)]) rfl (by decide) (s1n (by decide) s1z) (by decide +kernel) ?_
              refine g_aload_n C 0 rfl (by decide +kernel) ?_
              refine g_getR C cl12 0 63 45 rfl cd_B0 ⟨by decide, rfl, by decide⟩ rfl rfl (nB (by decide)) (ix := 155) lk_1465 (by decide +kernel) ?_
              refine g_iload_n C 1 rfl (by decide +kernel) ?_
              refine g_iconst C 0 (cK rfl) (by decide +kernel) ?_
              obtain ⟨hb82_, h⟩ := ck_some h
              refine g_iast C 45 (c32_cb (Or.inl rfl)) (w32_c _) rfl cd_B45 (nB (by decide)) hb82_ (by decide +kernel) ?_
              refine g_aload_n C 0 rfl (by decide +kernel) ?_
              refine g_getR C cl12 0 64 46 rfl cd_B0 ⟨by decide, rfl, by decide⟩ rfl rfl (nB (by decide)) (ix := 158) lk_1466 (by decide +kernel) ?_
              refine g_iload_n C 1 rfl (by decide +kernel) ?_
              refine g_iconst C 0 (cK rfl) (by decide +kernel) ?_
              obtain ⟨hb83_, h⟩ := ck_some h
              refine g_iast C 46 (c32_cb (Or.inl rfl)) (w32_c _) rfl cd_B46 (nB (by decide)) hb83_ (by decide +kernel) ?_
              refine g_goto C 18 (off := (-116)) (by decide +kernel) (by decide) ?_
              refine g_sub (lo2 := [(2, 0), (0, (w32 (x1 + 1))), (0, x2), (9, 0)]) (lsb_v (lsb_v (lsb_v (lsb_c lsb_e)))) ?_
              obtain rfl := Option.some.inj h
              exact kb (w32 (x1 + 1)) x2 (up2 (up2 d78_ 45 ((w32 (x1 + 1))).toNat 0) 46 ((w32 (x1 + 1))).toNat 0) rfl (w32_c _) hx2
        · replace h := ite_f hc71_ h
          refine g_sub (lo2 := [(2, 0), (0, x1), (9, 0), (0, r66_)]) (lsb_v (lsb_v (lsb_c (lsb_v lsb_e)))) ?_
          exact ok_Mo_sum_b50 C x1 r66_ d65_ hx1 hc68_ h kb k0 k1 k2 k3 k4
  · replace h := ite_f hc56_ h
    refine g_sub (lo2 := [(9, 0), (9, 0), (9, 0), (9, 0)]) (lsb_c (lsb_c (lsb_c (lsb_c lsb_e)))) ?_
    obtain rfl := Option.some.inj h
    exact k0 d rfl 
set_option maxHeartbeats 4000000 in
theorem ok_Mo_sum_n18 {p : Program} {l : Launch} {e : Env} {s : State} {m : MethodId} {args : Array Value} {below : List Frame} {meth : Method} {c : Code} {D : va_G} {cA : Nat → ClassId} {ad : Nat → Nat} {A : Nat → Prop} (C : Cx p s m args c prog_14_method_47_code 4 "PollBooksModel" D cA ad 1 A) {Q : State → Prop} {x : (Dt) ⊕ (Dt) ⊕ (Dt) ⊕ (Dt) ⊕ (Dt)} : ∀ (n : Nat) (x1 x2 : Int) (d : Dt), c32 x1 → cb x2 → lpF (fun q : Int × Int × Dt => L_Mo_sum_y18 q.1 q.2.1 q.2.2) n (x1, x2, d) = some x → (∀ (e' : Dt), x = (Sum.inl (e')) → G p l e rm_Mo_sum s m args below meth c 0 0 Q 4 D cA ad 1 A 273 [(9, 0), (9, 0), (9, 0), (9, 0)] [] e') → (∀ (e' : Dt), x = (Sum.inr (Sum.inl (e'))) → G p l e rm_Mo_sum s m args below meth c 0 0 Q 4 D cA ad 1 A 95 [(2, 0), (9, 0), (9, 0), (9, 0)] [] e') → (∀ (e' : Dt), x = (Sum.inr (Sum.inr (Sum.inl (e')))) → G p l e rm_Mo_sum s m args below meth c 0 0 Q 4 D cA ad 1 A 107 [(2, 0), (9, 0), (9, 0), (9, 0)] [] e') → (∀ (e' : Dt), x = (Sum.inr (Sum.inr (Sum.inr (Sum.inl (e'))))) → G p l e rm_Mo_sum s m args below meth c 0 0 Q 4 D cA ad 1 A 254 [(9, 0), (9, 0), (9, 0), (9, 0)] [] e') → (∀ (e' : Dt), x = (Sum.inr (Sum.inr (Sum.inr (Sum.inr (e'))))) → G p l e rm_Mo_sum s m args below meth c 0 0 Q 4 D cA ad 1 A 265 [(9, 0), (9, 0), (9, 0), (9, 0)] [] e') → G p l e rm_Mo_sum s m args below meth c 0 0 Q 4 D cA ad 1 A 18 [(2, 0), (0, x1), (0, x2), (9, 0)] [] d := by
  intro n
  induction n with
  | zero => intro x1 x2 d g0 g1 h k0 k1 k2 k3 k4; cases h
  | succ n ih =>
    intro x1 x2 d g0 g1 h k0 k1 k2 k3 k4
    rcases lpF_some h with h | ⟨⟨v0_, v1_, e0_⟩, h1, h⟩
    · exact ok_Mo_sum_y18 C x1 x2 d g0 g1 h (fun z0_ z1_ e1_ eq w0_ w1_ => by cases eq) (fun e1_ eq => k0 _ (by cases eq; rfl) ) (fun e1_ eq => k1 _ (by cases eq; rfl) ) (fun e1_ eq => k2 _ (by cases eq; rfl) ) (fun e1_ eq => k3 _ (by cases eq; rfl) ) (fun e1_ eq => k4 _ (by cases eq; rfl) )
    · exact ok_Mo_sum_y18 C x1 x2 d g0 g1 h1 (fun z0_ z1_ e1_ eq w0_ w1_ => by cases eq; exact ih _ _ _ w0_ w1_ h k0 k1 k2 k3 k4) (fun e1_ eq => by cases eq) (fun e1_ eq => by cases eq) (fun e1_ eq => by cases eq) (fun e1_ eq => by cases eq) (fun e1_ eq => by cases eq)
set_option maxHeartbeats 4000000 in
theorem ok_Mo_sum_l18 {p : Program} {l : Launch} {e : Env} {s : State} {m : MethodId} {args : Array Value} {below : List Frame} {meth : Method} {c : Code} {D : va_G} {cA : Nat → ClassId} {ad : Nat → Nat} {A : Nat → Prop} (C : Cx p s m args c prog_14_method_47_code 4 "PollBooksModel" D cA ad 1 A) {Q : State → Prop} {x : (Dt) ⊕ (Dt) ⊕ (Dt) ⊕ (Dt) ⊕ (Dt)} (x1 x2 : Int) (d : Dt) (hx1 : c32 x1) (hx2 : cb x2) (h : L_Mo_sum_l18 x1 x2 d = some x) (k0 : ∀ (e' : Dt), x = (Sum.inl (e')) → G p l e rm_Mo_sum s m args below meth c 0 0 Q 4 D cA ad 1 A 273 [(9, 0), (9, 0), (9, 0), (9, 0)] [] e') (k1 : ∀ (e' : Dt), x = (Sum.inr (Sum.inl (e'))) → G p l e rm_Mo_sum s m args below meth c 0 0 Q 4 D cA ad 1 A 95 [(2, 0), (9, 0), (9, 0), (9, 0)] [] e') (k2 : ∀ (e' : Dt), x = (Sum.inr (Sum.inr (Sum.inl (e')))) → G p l e rm_Mo_sum s m args below meth c 0 0 Q 4 D cA ad 1 A 107 [(2, 0), (9, 0), (9, 0), (9, 0)] [] e') (k3 : ∀ (e' : Dt), x = (Sum.inr (Sum.inr (Sum.inr (Sum.inl (e'))))) → G p l e rm_Mo_sum s m args below meth c 0 0 Q 4 D cA ad 1 A 254 [(9, 0), (9, 0), (9, 0), (9, 0)] [] e') (k4 : ∀ (e' : Dt), x = (Sum.inr (Sum.inr (Sum.inr (Sum.inr (e'))))) → G p l e rm_Mo_sum s m args below meth c 0 0 Q 4 D cA ad 1 A 265 [(9, 0), (9, 0), (9, 0), (9, 0)] [] e') : G p l e rm_Mo_sum s m args below meth c 0 0 Q 4 D cA ad 1 A 18 [(2, 0), (0, x1), (0, x2), (9, 0)] [] d :=
  ok_Mo_sum_n18 C FU x1 x2 d hx1 hx2 h k0 k1 k2 k3 k4
set_option maxHeartbeats 4000000 in
theorem ok_Mo_sum {l : Launch} {r : Int} {d' : Dt} (d : Dt)  (h : L_Mo_sum d = some (r, d')) : MC l y_Mo_sum prog_14_method_47_code 4 (some .boolean) rm_Mo_sum 1 [(2, 0)] d (some (0, r)) d' := by
  refine MC.of (by decide) (Nat.le_of_ble_eq_true rfl) ?_
  intro p e s m args below meth c D cA ad A C hlk hr
  replace C : Cx p s m args c prog_14_method_47_code 4 "PollBooksModel" D cA ad 1 A := C
  show G p l e rm_Mo_sum s m args below meth c 0 0 (MQ below (fun _ => QC D cA ad 1 A (some .boolean) (some (0, r)) d') args s 0 0 A) 4 D cA ad 1 A 0 [(2, 0)] [] d
  refine g_sub (lo2 := [(2, 0), (9, 0), (9, 0), (9, 0)]) (lsb_v (lsb_n (lsb_n (lsb_n lsb_e)))) ?_
  unfold L_Mo_sum at h
  refine g_iconst C 0 (cK rfl) (by decide +kernel) ?_
  refine s_istore_n C 1 (lo' := [(2, 0), (0, 0), (9, 0), (9, 0)]) (by decide) (s1n (by decide) s1z) (by decide +kernel) ?_
  refine g_aload_n C 0 rfl (by decide +kernel) ?_
  refine g_getR C cl12 0 63 45 rfl cd_B0 ⟨by decide, rfl, by decide⟩ rfl rfl (nB (by decide)) (ix := 155) lk_1465 (by decide +kernel) ?_
  refine g_iconst C 0 (cK rfl) (by decide +kernel) ?_
  refine g_iconst C 0 (cK rfl) (by decide +kernel) ?_
  refine g_iast C 45 (c32_cb (Or.inl rfl)) (c32_cb (Or.inl rfl)) rfl cd_B45 (nB (by decide)) (by decide) (by decide +kernel) ?_
  refine g_aload_n C 0 rfl (by decide +kernel) ?_
  refine g_getR C cl12 0 64 46 rfl cd_B0 ⟨by decide, rfl, by decide⟩ rfl rfl (nB (by decide)) (ix := 158) lk_1466 (by decide +kernel) ?_
  refine g_iconst C 0 (cK rfl) (by decide +kernel) ?_
  refine g_iconst C 0 (cK rfl) (by decide +kernel) ?_
  refine g_iast C 46 (c32_cb (Or.inl rfl)) (c32_cb (Or.inl rfl)) rfl cd_B46 (nB (by decide)) (by decide) (by decide +kernel) ?_
  refine g_iconst C 1 (cK rfl) (by decide +kernel) ?_
  refine s_istore_n C 2 (lo' := [(2, 0), (0, 0), (0, 1), (9, 0)]) (by decide) (s1k (s1n (by decide) s1z)) (by decide +kernel) ?_
  refine g_sub (lo2 := [(2, 0), (0, 0), (0, 1), (9, 0)]) (lsb_v (lsb_v (lsb_v (lsb_c lsb_e)))) ?_
  obtain ⟨x84_, hx85_, h⟩ := lb_some h
  refine ok_Mo_sum_l18 C 0 1 (up2 (up2 d 45 0 0) 46 0 0) (c32_cb (Or.inl rfl)) (Or.inr rfl) hx85_ (fun d86_ eq87_ => ?_) (fun d88_ eq89_ => ?_) (fun d94_ eq95_ => ?_) (fun d100_ eq101_ => ?_) (fun d102_ eq103_ => ?_)
  · subst eq87_
    replace h := sml_e h
    replace h := u0_e h
    refine g_iconst C 0 (cK rfl) (by decide +kernel) ?_
    obtain ⟨rfl, rfl⟩ := ret_inj h
    exact g_zret C (Or.inl rfl) hlk hr (by decide +kernel)
  · subst eq89_
    replace h := smr_e h
    replace h := sml_e h
    replace h := u0_e h
    refine g_aload_n C 0 rfl (by decide +kernel) ?_
    refine g_iconst C 2 (cK rfl) (by decide +kernel) ?_
    obtain ⟨r91_, d90_, hr92_, h⟩ := bd_some h
    refine g_callV C mw_Mo_fails [(0, 2)] 0 cl12 rfl (ok_Mo_fails 2 d88_ (cK rfl) hr92_) cd_B0 (by decide) (nB (by decide)) (ix := 420) lk_1938 lk_1940 lkp_72 ⟨rfl, rfl, Nat.le_of_ble_eq_true rfl, Nat.le_of_ble_eq_true rfl⟩ rfl (rest := []) rfl (Nat.le_of_ble_eq_true rfl) ⟨Nat.zero_le _, Nat.zero_le _⟩ (by decide +kernel) (fun _ hc93_ => ?_)
    replace hc93_ : cb r91_ := hc93_
    refine g_st (st2 := [(0, r91_)]) rfl ?_
    obtain ⟨rfl, rfl⟩ := ret_inj h
    exact g_zret C hc93_ hlk hr (by decide +kernel)
  · subst eq95_
    replace h := smr_e h
    replace h := smr_e h
    replace h := sml_e h
    replace h := u0_e h
    refine g_aload_n C 0 rfl (by decide +kernel) ?_
    refine g_iconst C 5 (cK rfl) (by decide +kernel) ?_
    obtain ⟨r97_, d96_, hr98_, h⟩ := bd_some h
    refine g_callV C mw_Mo_fails [(0, 5)] 0 cl12 rfl (ok_Mo_fails 5 d94_ (cK rfl) hr98_) cd_B0 (by decide) (nB (by decide)) (ix := 420) lk_1938 lk_1940 lkp_72 ⟨rfl, rfl, Nat.le_of_ble_eq_true rfl, Nat.le_of_ble_eq_true rfl⟩ rfl (rest := []) rfl (Nat.le_of_ble_eq_true rfl) ⟨Nat.zero_le _, Nat.zero_le _⟩ (by decide +kernel) (fun _ hc99_ => ?_)
    replace hc99_ : cb r97_ := hc99_
    refine g_st (st2 := [(0, r97_)]) rfl ?_
    obtain ⟨rfl, rfl⟩ := ret_inj h
    exact g_zret C hc99_ hlk hr (by decide +kernel)
  · subst eq101_
    replace h := smr_e h
    replace h := smr_e h
    replace h := smr_e h
    replace h := sml_e h
    replace h := u0_e h
    refine g_iconst C 1 (cK rfl) (by decide +kernel) ?_
    obtain ⟨rfl, rfl⟩ := ret_inj h
    exact g_zret C (Or.inr rfl) hlk hr (by decide +kernel)
  · subst eq103_
    replace h := smr_e h
    replace h := smr_e h
    replace h := smr_e h
    replace h := smr_e h
    replace h := u0_e h
    refine g_iconst C 0 (cK rfl) (by decide +kernel) ?_
    obtain ⟨rfl, rfl⟩ := ret_inj h
    exact g_zret C (Or.inl rfl) hlk hr (by decide +kernel)
/-! PollBooksModel.one(Z)Z -/
def y_Mo_one : MethodName := ⟨"PollBooksModel", "one", "(Z)Z"⟩
def rm_Mo_one : Room := { frames := 6, cells := 0, slots := 0, locals := 134 }
theorem mw_Mo_one : MW y_Mo_one prog_14_method_48_code 3 (some .boolean) 1 := ⟨lk_1977, lk_14, by decide +kernel⟩
def L_Mo_one_b99 (x2 : Int) (d : Dt) : Option (Int × Dt) :=
  ck ((0 : Int) ≤ x2 ∧ x2 < 1500) (bd (L_Mo_next (up2 d 40 x2.toNat (d 0 37))) (fun r4_ d3_ => bd (L_Mo_sum d3_) (fun r8_ d7_ => if r8_ = 0 then some (0, d7_) else ck ((0 : Int) ≤ x2 ∧ x2 < 1500) (some (1, (up2 (up2 d7_ 39 x2.toNat (d7_ 0 42)) 0 43 (w32 ((d7_ 0 43) + 1))))))))
def L_Mo_one_b37 (x2 : Int) (d : Dt) : Option (Int × Dt) :=
  ck ((0 : Int) ≤ x2 ∧ x2 < 1500) (bd (L_Mo_sum (up2 d 37 x2.toNat (d 0 42))) (fun r18_ d17_ => if r18_ = 0 then some (0, d17_) else ck ((0 : Int) ≤ x2 ∧ x2 < 1500) (bd (L_Mo_isSign 60 (up2 d17_ 38 x2.toNat (d17_ 0 42))) (fun r25_ d24_ => if r25_ = 0 then bd (L_Mo_isSign 62 d24_) (fun r30_ d29_ => if r30_ = 0 then bd (L_Mo_isSign 61 d29_) (fun r35_ d34_ => if r35_ = 0 then bd (L_Mo_fails 2 d34_) (fun r40_ d39_ => some (r40_, d39_)) else L_Mo_one_b99 x2 d34_) else L_Mo_one_b99 x2 d29_) else L_Mo_one_b99 x2 d24_))))
def L_Mo_one (p1 : Int) (d : Dt) : Option (Int × Dt) :=
  lt_ (d 0 43) (fun v44_ => ck ((0 : Int) ≤ v44_ ∧ v44_ < 1500) (bd (L_Mo_isKey 10 (up2 d 42 v44_.toNat p1)) (fun r49_ d48_ => ck ((0 : Int) ≤ v44_ ∧ v44_ < 1500) (ck ((0 : Int) ≤ v44_ ∧ v44_ < 1500) (if ((up2 d48_ 41 v44_.toNat r49_) 41 v44_.toNat) = 0 then L_Mo_one_b37 v44_ (up2 d48_ 41 v44_.toNat r49_) else bd (L_Mo_next (up2 d48_ 41 v44_.toNat r49_)) (fun r57_ d56_ => L_Mo_one_b37 v44_ d56_))))))
set_option maxHeartbeats 4000000 in
theorem ok_Mo_one_b99 {p : Program} {l : Launch} {e : Env} {s : State} {m : MethodId} {args : Array Value} {below : List Frame} {meth : Method} {c : Code} {D : va_G} {cA : Nat → ClassId} {ad : Nat → Nat} {A : Nat → Prop} (C : Cx p s m args c prog_14_method_48_code 3 "PollBooksModel" D cA ad 1 A) (hlk : meth.locks = false) (hr : meth.sig.returnType = (some .boolean)) {r : Int} {d' : Dt} (x2 : Int) (d : Dt) (hx2 : c32 x2) (h : L_Mo_one_b99 x2 d = some (r, d')) : G p l e rm_Mo_one s m args below meth c 0 0 (MQ below (fun _ => QC D cA ad 1 A (some .boolean) (some (0, r)) d') args s 0 0 A) 3 D cA ad 1 A 99 [(2, 0), (9, 0), (0, x2)] [] d := by
  unfold L_Mo_one_b99 at h
  refine g_aload_n C 0 rfl (by decide +kernel) ?_
  refine g_getR C cl12 0 58 40 rfl cd_B0 ⟨by decide, rfl, by decide⟩ rfl rfl (nB (by decide)) (ix := 140) lk_1460 (by decide +kernel) ?_
  refine g_iload_n C 2 rfl (by decide +kernel) ?_
  refine g_aload_n C 0 rfl (by decide +kernel) ?_
  refine g_getI C cl12 0 37 rfl cd_B0 ⟨by decide, rfl, by decide⟩ rfl (nB (by decide)) (ix := 385) lk_1439 (by decide +kernel) (fun hc1_ => ?_)
  obtain ⟨hb2_, h⟩ := ck_some h
  refine g_iast C 40 hc1_ hx2 rfl cd_B40 (nB (by decide)) hb2_ (by decide +kernel) ?_
  refine g_aload_n C 0 rfl (by decide +kernel) ?_
  obtain ⟨r4_, d3_, hr5_, h⟩ := bd_some h
  refine g_callV C mw_Mo_next [] 0 cl12 rfl (ok_Mo_next  (up2 d 40 x2.toNat (d 0 37))  hr5_) cd_B0 (by decide) (nB (by decide)) (ix := 423) lk_1861 lk_1863 lkp_67 ⟨rfl, rfl, Nat.le_of_ble_eq_true rfl, Nat.le_of_ble_eq_true rfl⟩ rfl (rest := []) rfl (Nat.le_of_ble_eq_true rfl) ⟨Nat.zero_le _, Nat.zero_le _⟩ (by decide +kernel) (fun _ hc6_ => ?_)
  refine g_st (st2 := []) rfl ?_
  refine g_aload_n C 0 rfl (by decide +kernel) ?_
  obtain ⟨r8_, d7_, hr9_, h⟩ := bd_some h
  refine g_callV C mw_Mo_sum [] 0 cl12 rfl (ok_Mo_sum  d3_  hr9_) cd_B0 (by decide) (nB (by decide)) (ix := 444) lk_1978 lk_1980 lkp_82 ⟨rfl, rfl, Nat.le_of_ble_eq_true rfl, Nat.le_of_ble_eq_true rfl⟩ rfl (rest := []) rfl (Nat.le_of_ble_eq_true rfl) ⟨Nat.zero_le _, Nat.zero_le _⟩ (by decide +kernel) (fun _ hc10_ => ?_)
  replace hc10_ : cb r8_ := hc10_
  refine g_st (st2 := [(0, r8_)]) rfl ?_
  refine g_if_ne C (off := 5) (tgt := 122) (c32_cb hc10_) (by decide +kernel) (by decide) (fun hc11_ => ?_) (fun hc11_ => ?_)
  · replace h := ite_t hc11_ h
    refine g_iconst C 0 (cK rfl) (by decide +kernel) ?_
    obtain ⟨rfl, rfl⟩ := ret_inj h
    exact g_zret C (Or.inl rfl) hlk hr (by decide +kernel)
  · replace h := ite_f hc11_ h
    refine g_aload_n C 0 rfl (by decide +kernel) ?_
    refine g_getR C cl12 0 57 39 rfl cd_B0 ⟨by decide, rfl, by decide⟩ rfl rfl (nB (by decide)) (ix := 137) lk_1459 (by decide +kernel) ?_
    refine g_iload_n C 2 rfl (by decide +kernel) ?_
    refine g_aload_n C 0 rfl (by decide +kernel) ?_
    refine g_getI C cl12 0 42 rfl cd_B0 ⟨by decide, rfl, by decide⟩ rfl (nB (by decide)) (ix := 426) lk_1444 (by decide +kernel) (fun hc12_ => ?_)
    obtain ⟨hb13_, h⟩ := ck_some h
    refine g_iast C 39 hc12_ hx2 rfl cd_B39 (nB (by decide)) hb13_ (by decide +kernel) ?_
    refine g_aload_n C 0 rfl (by decide +kernel) ?_
    refine g_dup C tg2 (by decide +kernel) ?_
    refine g_getI C cl12 0 43 rfl cd_B0 ⟨by decide, rfl, by decide⟩ rfl (nB (by decide)) (ix := 438) lk_1445 (by decide +kernel) (fun hc14_ => ?_)
    refine g_val (y := (d7_ 0 43)) rfl ?_
    replace hc14_ : c32 (d7_ 0 43) := hc14_
    refine g_iconst C 1 (cK rfl) (by decide +kernel) ?_
    refine g_iadd C (by decide +kernel) ?_
    refine g_putI C cl12 0 43 (w32_c _) rfl cd_B0 ⟨by decide, rfl, by decide⟩ rfl (nB (by decide)) (ix := 438) lk_1445 rfl rfl (by decide +kernel) ?_
    refine g_iconst C 1 (cK rfl) (by decide +kernel) ?_
    obtain ⟨rfl, rfl⟩ := ret_inj h
    exact g_zret C (Or.inr rfl) hlk hr (by decide +kernel)
set_option maxHeartbeats 4000000 in
theorem ok_Mo_one_b37 {p : Program} {l : Launch} {e : Env} {s : State} {m : MethodId} {args : Array Value} {below : List Frame} {meth : Method} {c : Code} {D : va_G} {cA : Nat → ClassId} {ad : Nat → Nat} {A : Nat → Prop} (C : Cx p s m args c prog_14_method_48_code 3 "PollBooksModel" D cA ad 1 A) (hlk : meth.locks = false) (hr : meth.sig.returnType = (some .boolean)) {r : Int} {d' : Dt} (x2 : Int) (d : Dt) (hx2 : c32 x2) (h : L_Mo_one_b37 x2 d = some (r, d')) : G p l e rm_Mo_one s m args below meth c 0 0 (MQ below (fun _ => QC D cA ad 1 A (some .boolean) (some (0, r)) d') args s 0 0 A) 3 D cA ad 1 A 37 [(2, 0), (9, 0), (0, x2)] [] d := by
  unfold L_Mo_one_b37 at h
  refine g_aload_n C 0 rfl (by decide +kernel) ?_
  refine g_getR C cl12 0 55 37 rfl cd_B0 ⟨by decide, rfl, by decide⟩ rfl rfl (nB (by decide)) (ix := 131) lk_1457 (by decide +kernel) ?_
  refine g_iload_n C 2 rfl (by decide +kernel) ?_
  refine g_aload_n C 0 rfl (by decide +kernel) ?_
  refine g_getI C cl12 0 42 rfl cd_B0 ⟨by decide, rfl, by decide⟩ rfl (nB (by decide)) (ix := 426) lk_1444 (by decide +kernel) (fun hc15_ => ?_)
  obtain ⟨hb16_, h⟩ := ck_some h
  refine g_iast C 37 hc15_ hx2 rfl cd_B37 (nB (by decide)) hb16_ (by decide +kernel) ?_
  refine g_aload_n C 0 rfl (by decide +kernel) ?_
  obtain ⟨r18_, d17_, hr19_, h⟩ := bd_some h
  refine g_callV C mw_Mo_sum [] 0 cl12 rfl (ok_Mo_sum  (up2 d 37 x2.toNat (d 0 42))  hr19_) cd_B0 (by decide) (nB (by decide)) (ix := 444) lk_1978 lk_1980 lkp_82 ⟨rfl, rfl, Nat.le_of_ble_eq_true rfl, Nat.le_of_ble_eq_true rfl⟩ rfl (rest := []) rfl (Nat.le_of_ble_eq_true rfl) ⟨Nat.zero_le _, Nat.zero_le _⟩ (by decide +kernel) (fun _ hc20_ => ?_)
  replace hc20_ : cb r18_ := hc20_
  refine g_st (st2 := [(0, r18_)]) rfl ?_
  refine g_if_ne C (off := 5) (tgt := 56) (c32_cb hc20_) (by decide +kernel) (by decide) (fun hc21_ => ?_) (fun hc21_ => ?_)
  · replace h := ite_t hc21_ h
    refine g_iconst C 0 (cK rfl) (by decide +kernel) ?_
    obtain ⟨rfl, rfl⟩ := ret_inj h
    exact g_zret C (Or.inl rfl) hlk hr (by decide +kernel)
  · replace h := ite_f hc21_ h
    refine g_aload_n C 0 rfl (by decide +kernel) ?_
    refine g_getR C cl12 0 56 38 rfl cd_B0 ⟨by decide, rfl, by decide⟩ rfl rfl (nB (by decide)) (ix := 134) lk_1458 (by decide +kernel) ?_
    refine g_iload_n C 2 rfl (by decide +kernel) ?_
    refine g_aload_n C 0 rfl (by decide +kernel) ?_
    refine g_getI C cl12 0 42 rfl cd_B0 ⟨by decide, rfl, by decide⟩ rfl (nB (by decide)) (ix := 426) lk_1444 (by decide +kernel) (fun hc22_ => ?_)
    obtain ⟨hb23_, h⟩ := ck_some h
    refine g_iast C 38 hc22_ hx2 rfl cd_B38 (nB (by decide)) hb23_ (by decide +kernel) ?_
    refine g_aload_n C 0 rfl (by decide +kernel) ?_
    refine g_bipush C 60 (by decide) (by decide +kernel) ?_
    obtain ⟨r25_, d24_, hr26_, h⟩ := bd_some h
    refine g_callV C mw_Mo_isSign [(0, 60)] 0 cl12 rfl (ok_Mo_isSign 60 (up2 d17_ 38 x2.toNat (d17_ 0 42)) (cK rfl) hr26_) cd_B0 (by decide) (nB (by decide)) (ix := 417) lk_1950 lk_1952 lkp_75 ⟨rfl, rfl, Nat.le_of_ble_eq_true rfl, Nat.le_of_ble_eq_true rfl⟩ rfl (rest := []) rfl (Nat.le_of_ble_eq_true rfl) ⟨Nat.zero_le _, Nat.zero_le _⟩ (by decide +kernel) (fun _ hc27_ => ?_)
    replace hc27_ : cb r25_ := hc27_
    refine g_st (st2 := [(0, r25_)]) rfl ?_
    refine g_if_ne C (off := 27) (tgt := 99) (c32_cb hc27_) (by decide +kernel) (by decide) (fun hc28_ => ?_) (fun hc28_ => ?_)
    · replace h := ite_t hc28_ h
      refine g_aload_n C 0 rfl (by decide +kernel) ?_
      refine g_bipush C 62 (by decide) (by decide +kernel) ?_
      obtain ⟨r30_, d29_, hr31_, h⟩ := bd_some h
      refine g_callV C mw_Mo_isSign [(0, 62)] 0 cl12 rfl (ok_Mo_isSign 62 d24_ (cK rfl) hr31_) cd_B0 (by decide) (nB (by decide)) (ix := 417) lk_1950 lk_1952 lkp_75 ⟨rfl, rfl, Nat.le_of_ble_eq_true rfl, Nat.le_of_ble_eq_true rfl⟩ rfl (rest := []) rfl (Nat.le_of_ble_eq_true rfl) ⟨Nat.zero_le _, Nat.zero_le _⟩ (by decide +kernel) (fun _ hc32_ => ?_)
      replace hc32_ : cb r30_ := hc32_
      refine g_st (st2 := [(0, r30_)]) rfl ?_
      refine g_if_ne C (off := 18) (tgt := 99) (c32_cb hc32_) (by decide +kernel) (by decide) (fun hc33_ => ?_) (fun hc33_ => ?_)
      · replace h := ite_t hc33_ h
        refine g_aload_n C 0 rfl (by decide +kernel) ?_
        refine g_bipush C 61 (by decide) (by decide +kernel) ?_
        obtain ⟨r35_, d34_, hr36_, h⟩ := bd_some h
        refine g_callV C mw_Mo_isSign [(0, 61)] 0 cl12 rfl (ok_Mo_isSign 61 d29_ (cK rfl) hr36_) cd_B0 (by decide) (nB (by decide)) (ix := 417) lk_1950 lk_1952 lkp_75 ⟨rfl, rfl, Nat.le_of_ble_eq_true rfl, Nat.le_of_ble_eq_true rfl⟩ rfl (rest := []) rfl (Nat.le_of_ble_eq_true rfl) ⟨Nat.zero_le _, Nat.zero_le _⟩ (by decide +kernel) (fun _ hc37_ => ?_)
        replace hc37_ : cb r35_ := hc37_
        refine g_st (st2 := [(0, r35_)]) rfl ?_
        refine g_if_ne C (off := 9) (tgt := 99) (c32_cb hc37_) (by decide +kernel) (by decide) (fun hc38_ => ?_) (fun hc38_ => ?_)
        · replace h := ite_t hc38_ h
          refine g_aload_n C 0 rfl (by decide +kernel) ?_
          refine g_iconst C 2 (cK rfl) (by decide +kernel) ?_
          obtain ⟨r40_, d39_, hr41_, h⟩ := bd_some h
          refine g_callV C mw_Mo_fails [(0, 2)] 0 cl12 rfl (ok_Mo_fails 2 d34_ (cK rfl) hr41_) cd_B0 (by decide) (nB (by decide)) (ix := 420) lk_1938 lk_1940 lkp_72 ⟨rfl, rfl, Nat.le_of_ble_eq_true rfl, Nat.le_of_ble_eq_true rfl⟩ rfl (rest := []) rfl (Nat.le_of_ble_eq_true rfl) ⟨Nat.zero_le _, Nat.zero_le _⟩ (by decide +kernel) (fun _ hc42_ => ?_)
          replace hc42_ : cb r40_ := hc42_
          refine g_st (st2 := [(0, r40_)]) rfl ?_
          obtain ⟨rfl, rfl⟩ := ret_inj h
          exact g_zret C hc42_ hlk hr (by decide +kernel)
        · replace h := ite_f hc38_ h
          refine g_sub (lo2 := [(2, 0), (9, 0), (0, x2)]) (lsb_v (lsb_c (lsb_v lsb_e))) ?_
          exact ok_Mo_one_b99 C hlk hr x2 d34_ hx2 h
      · replace h := ite_f hc33_ h
        refine g_sub (lo2 := [(2, 0), (9, 0), (0, x2)]) (lsb_v (lsb_c (lsb_v lsb_e))) ?_
        exact ok_Mo_one_b99 C hlk hr x2 d29_ hx2 h
    · replace h := ite_f hc28_ h
      refine g_sub (lo2 := [(2, 0), (9, 0), (0, x2)]) (lsb_v (lsb_c (lsb_v lsb_e))) ?_
      exact ok_Mo_one_b99 C hlk hr x2 d24_ hx2 h
set_option maxHeartbeats 4000000 in
theorem ok_Mo_one {l : Launch} {r : Int} {d' : Dt} (p1 : Int) (d : Dt) (hp1 : cb p1) (h : L_Mo_one p1 d = some (r, d')) : MC l y_Mo_one prog_14_method_48_code 3 (some .boolean) rm_Mo_one 1 [(2, 0), (0, p1)] d (some (0, r)) d' := by
  refine MC.of (by decide) (Nat.le_of_ble_eq_true rfl) ?_
  intro p e s m args below meth c D cA ad A C hlk hr
  replace C : Cx p s m args c prog_14_method_48_code 3 "PollBooksModel" D cA ad 1 A := C
  show G p l e rm_Mo_one s m args below meth c 0 0 (MQ below (fun _ => QC D cA ad 1 A (some .boolean) (some (0, r)) d') args s 0 0 A) 3 D cA ad 1 A 0 [(2, 0), (0, p1)] [] d
  refine g_sub (lo2 := [(2, 0), (0, p1), (9, 0)]) (lsb_v (lsb_v (lsb_n lsb_e))) ?_
  unfold L_Mo_one at h
  refine g_aload_n C 0 rfl (by decide +kernel) ?_
  refine g_getI C cl12 0 43 rfl cd_B0 ⟨by decide, rfl, by decide⟩ rfl (nB (by decide)) (ix := 438) lk_1445 (by decide +kernel) (fun hc43_ => ?_)
  obtain ⟨v44_, ev45_, h⟩ := lt_some h
  refine g_val ev45_.symm ?_
  have hv46_ : c32 v44_ := by rw [ev45_]; exact hc43_
  refine s_istore_n C 2 (lo' := [(2, 0), (0, p1), (0, v44_)]) (by decide) (s1k (s1n (by decide) s1z)) (by decide +kernel) ?_
  refine g_aload_n C 0 rfl (by decide +kernel) ?_
  refine g_getR C cl12 0 60 42 rfl cd_B0 ⟨by decide, rfl, by decide⟩ rfl rfl (nB (by decide)) (ix := 146) lk_1462 (by decide +kernel) ?_
  refine g_iload_n C 2 rfl (by decide +kernel) ?_
  refine g_iload_n C 1 rfl (by decide +kernel) ?_
  obtain ⟨hb47_, h⟩ := ck_some h
  refine g_zast C 42 hp1 hv46_ rfl cd_B42 (nB (by decide)) hb47_ (by decide +kernel) ?_
  refine g_aload_n C 0 rfl (by decide +kernel) ?_
  refine g_getR C cl12 0 59 41 rfl cd_B0 ⟨by decide, rfl, by decide⟩ rfl rfl (nB (by decide)) (ix := 143) lk_1461 (by decide +kernel) ?_
  refine g_iload_n C 2 rfl (by decide +kernel) ?_
  refine g_aload_n C 0 rfl (by decide +kernel) ?_
  refine g_bipush C 10 (by decide) (by decide +kernel) ?_
  obtain ⟨r49_, d48_, hr50_, h⟩ := bd_some h
  refine g_callV C mw_Mo_isKey [(0, 10)] 0 cl12 rfl (ok_Mo_isKey 10 (up2 d 42 v44_.toNat p1) (cK rfl) hr50_) cd_B0 (by decide) (nB (by decide)) (ix := 441) lk_1942 lk_1944 lkp_73 ⟨rfl, rfl, Nat.le_of_ble_eq_true rfl, Nat.le_of_ble_eq_true rfl⟩ rfl (rest := [(0, v44_), (2, 41)]) rfl (Nat.le_of_ble_eq_true rfl) ⟨Nat.zero_le _, Nat.zero_le _⟩ (by decide +kernel) (fun _ hc51_ => ?_)
  replace hc51_ : cb r49_ := hc51_
  refine g_st (st2 := [(0, r49_), (0, v44_), (2, 41)]) rfl ?_
  obtain ⟨hb52_, h⟩ := ck_some h
  refine g_zast C 41 hc51_ hv46_ rfl cd_B41 (nB (by decide)) hb52_ (by decide +kernel) ?_
  refine g_aload_n C 0 rfl (by decide +kernel) ?_
  refine g_getR C cl12 0 59 41 rfl cd_B0 ⟨by decide, rfl, by decide⟩ rfl rfl (nB (by decide)) (ix := 143) lk_1461 (by decide +kernel) ?_
  refine g_iload_n C 2 rfl (by decide +kernel) ?_
  obtain ⟨hb53_, h⟩ := ck_some h
  refine g_zald C 41 hv46_ rfl cd_B41 (nB (by decide)) hb53_ (by decide +kernel) (fun hc54_ => ?_)
  refine g_if_eq C (off := 7) (tgt := 37) (c32_cb hc54_) (by decide +kernel) (by decide) (fun hc55_ => ?_) (fun hc55_ => ?_)
  · replace h := ite_t hc55_ h
    refine g_sub (lo2 := [(2, 0), (9, 0), (0, v44_)]) (lsb_v (lsb_c (lsb_v lsb_e))) ?_
    exact ok_Mo_one_b37 C hlk hr v44_ (up2 d48_ 41 v44_.toNat r49_) hv46_ h
  · replace h := ite_f hc55_ h
    refine g_aload_n C 0 rfl (by decide +kernel) ?_
    obtain ⟨r57_, d56_, hr58_, h⟩ := bd_some h
    refine g_callV C mw_Mo_next [] 0 cl12 rfl (ok_Mo_next  (up2 d48_ 41 v44_.toNat r49_)  hr58_) cd_B0 (by decide) (nB (by decide)) (ix := 423) lk_1861 lk_1863 lkp_67 ⟨rfl, rfl, Nat.le_of_ble_eq_true rfl, Nat.le_of_ble_eq_true rfl⟩ rfl (rest := []) rfl (Nat.le_of_ble_eq_true rfl) ⟨Nat.zero_le _, Nat.zero_le _⟩ (by decide +kernel) (fun _ hc59_ => ?_)
    refine g_st (st2 := []) rfl ?_
    refine g_sub (lo2 := [(2, 0), (9, 0), (0, v44_)]) (lsb_v (lsb_c (lsb_v lsb_e))) ?_
    exact ok_Mo_one_b37 C hlk hr v44_ d56_ hv46_ h
/-! PollBooksModel.test()Z -/
def y_Mo_test : MethodName := ⟨"PollBooksModel", "test", "()Z"⟩
def rm_Mo_test : Room := { frames := 7, cells := 0, slots := 0, locals := 156 }
theorem mw_Mo_test : MW y_Mo_test prog_14_method_49_code 3 (some .boolean) 0 := ⟨lk_1973, lk_14, by decide +kernel⟩
def L_Mo_test_b28 (d : Dt) : Option ((Int × Dt) ⊕ ((Int × Dt))) :=
  bd (L_Mo_isKey 8 d) (fun r2_ d1_ => bd (L_Mo_next d1_) (fun r6_ d5_ => bd (L_Mo_one r2_ d5_) (fun r10_ d9_ => some (Sum.inl (r10_, d9_)))))
def L_Mo_test_y6 (x1 : Int) (d : Dt) : Option ((Int × Dt) ⊕ ((Int × Dt))) :=
  if x1 = 0 then some (Sum.inr (x1, d)) else bd (L_Mo_isKey 8 d) (fun r15_ d14_ => if r15_ = 0 then bd (L_Mo_isKey 9 d14_) (fun r20_ d19_ => if r20_ = 0 then some (Sum.inr (x1, d19_)) else L_Mo_test_b28 d19_) else L_Mo_test_b28 d14_)
def L_Mo_test_l6 (x1 : Int) (d : Dt) : Option ((Int × Dt)) := lpF (fun q : Int × Dt => L_Mo_test_y6 q.1 q.2) FU (x1, d)
def L_Mo_test (d : Dt) : Option (Int × Dt) :=
  bd (L_Mo_one 1 d) (fun r25_ d24_ => lb (L_Mo_test_l6 r25_ d24_) (fun q33_ => u1 q33_ (fun v30_ d31_ => some (v30_, d31_))))
set_option maxHeartbeats 4000000 in
theorem ok_Mo_test_b28 {p : Program} {l : Launch} {e : Env} {s : State} {m : MethodId} {args : Array Value} {below : List Frame} {meth : Method} {c : Code} {D : va_G} {cA : Nat → ClassId} {ad : Nat → Nat} {A : Nat → Prop} (C : Cx p s m args c prog_14_method_49_code 3 "PollBooksModel" D cA ad 1 A) {Q : State → Prop} {o : (Int × Dt) ⊕ ((Int × Dt))} (d : Dt)  (h : L_Mo_test_b28 d = some o) (kb : ∀ (y0 : Int) (e' : Dt), o = .inl (y0, e') → cb y0 → G p l e rm_Mo_test s m args below meth c 0 0 Q 3 D cA ad 1 A 6 [(2, 0), (0, y0), (9, 0)] [] e') (k0 : ∀ (y0 : Int) (e' : Dt), o = .inr (y0, e') → cb y0 → G p l e rm_Mo_test s m args below meth c 0 0 Q 3 D cA ad 1 A 48 [(9, 0), (0, y0), (9, 0)] [] e') : G p l e rm_Mo_test s m args below meth c 0 0 Q 3 D cA ad 1 A 28 [(2, 0), (9, 0), (9, 0)] [] d := by
  unfold L_Mo_test_b28 at h
  refine g_aload_n C 0 rfl (by decide +kernel) ?_
  refine g_bipush C 8 (by decide) (by decide +kernel) ?_
  obtain ⟨r2_, d1_, hr3_, h⟩ := bd_some h
  refine g_callV C mw_Mo_isKey [(0, 8)] 0 cl12 rfl (ok_Mo_isKey 8 d (cK rfl) hr3_) cd_B0 (by decide) (nB (by decide)) (ix := 441) lk_1942 lk_1944 lkp_73 ⟨rfl, rfl, Nat.le_of_ble_eq_true rfl, Nat.le_of_ble_eq_true rfl⟩ rfl (rest := []) rfl (Nat.le_of_ble_eq_true rfl) ⟨Nat.zero_le _, Nat.zero_le _⟩ (by decide +kernel) (fun _ hc4_ => ?_)
  replace hc4_ : cb r2_ := hc4_
  refine g_st (st2 := [(0, r2_)]) rfl ?_
  refine s_istore_n C 2 (lo' := [(2, 0), (9, 0), (0, r2_)]) (by decide) (s1k (s1n (by decide) s1z)) (by decide +kernel) ?_
  refine g_aload_n C 0 rfl (by decide +kernel) ?_
  obtain ⟨r6_, d5_, hr7_, h⟩ := bd_some h
  refine g_callV C mw_Mo_next [] 0 cl12 rfl (ok_Mo_next  d1_  hr7_) cd_B0 (by decide) (nB (by decide)) (ix := 423) lk_1861 lk_1863 lkp_67 ⟨rfl, rfl, Nat.le_of_ble_eq_true rfl, Nat.le_of_ble_eq_true rfl⟩ rfl (rest := []) rfl (Nat.le_of_ble_eq_true rfl) ⟨Nat.zero_le _, Nat.zero_le _⟩ (by decide +kernel) (fun _ hc8_ => ?_)
  refine g_st (st2 := []) rfl ?_
  refine g_aload_n C 0 rfl (by decide +kernel) ?_
  refine g_iload_n C 2 rfl (by decide +kernel) ?_
  obtain ⟨r10_, d9_, hr11_, h⟩ := bd_some h
  refine g_callV C mw_Mo_one [(0, r2_)] 0 cl12 rfl (ok_Mo_one r2_ d5_ hc4_ hr11_) cd_B0 (by decide) (nB (by decide)) (ix := 448) lk_1974 lk_1976 lkp_81 ⟨rfl, rfl, Nat.le_of_ble_eq_true rfl, Nat.le_of_ble_eq_true rfl⟩ rfl (rest := []) rfl (Nat.le_of_ble_eq_true rfl) ⟨Nat.zero_le _, Nat.zero_le _⟩ (by decide +kernel) (fun _ hc12_ => ?_)
  replace hc12_ : cb r10_ := hc12_
  refine g_st (st2 := [(0, r10_)]) rfl ?_
  refine s_istore_n C 1 (lo' := [(2, 0), (0, r10_), (0, r2_)]) (by decide) (s1n (by decide) s1z) (by decide +kernel) ?_
  refine g_goto C 6 (off := (-39)) (by decide +kernel) (by decide) ?_
  refine g_sub (lo2 := [(2, 0), (0, r10_), (9, 0)]) (lsb_v (lsb_v (lsb_c lsb_e))) ?_
  obtain rfl := Option.some.inj h
  exact kb r10_ d9_ rfl hc12_
set_option maxHeartbeats 4000000 in
theorem ok_Mo_test_y6 {p : Program} {l : Launch} {e : Env} {s : State} {m : MethodId} {args : Array Value} {below : List Frame} {meth : Method} {c : Code} {D : va_G} {cA : Nat → ClassId} {ad : Nat → Nat} {A : Nat → Prop} (C : Cx p s m args c prog_14_method_49_code 3 "PollBooksModel" D cA ad 1 A) {Q : State → Prop} {o : (Int × Dt) ⊕ ((Int × Dt))} (x1 : Int) (d : Dt) (hx1 : cb x1) (h : L_Mo_test_y6 x1 d = some o) (kb : ∀ (y0 : Int) (e' : Dt), o = .inl (y0, e') → cb y0 → G p l e rm_Mo_test s m args below meth c 0 0 Q 3 D cA ad 1 A 6 [(2, 0), (0, y0), (9, 0)] [] e') (k0 : ∀ (y0 : Int) (e' : Dt), o = .inr (y0, e') → cb y0 → G p l e rm_Mo_test s m args below meth c 0 0 Q 3 D cA ad 1 A 48 [(9, 0), (0, y0), (9, 0)] [] e') : G p l e rm_Mo_test s m args below meth c 0 0 Q 3 D cA ad 1 A 6 [(2, 0), (0, x1), (9, 0)] [] d := by
  unfold L_Mo_test_y6 at h
  refine g_iload_n C 1 rfl (by decide +kernel) ?_
  refine g_if_eq C (off := 41) (tgt := 48) (c32_cb hx1) (by decide +kernel) (by decide) (fun hc13_ => ?_) (fun hc13_ => ?_)
  · replace h := ite_t hc13_ h
    refine g_sub (lo2 := [(9, 0), (0, x1), (9, 0)]) (lsb_c (lsb_v (lsb_c lsb_e))) ?_
    obtain rfl := Option.some.inj h
    exact k0 x1 d rfl hx1
  · replace h := ite_f hc13_ h
    refine g_aload_n C 0 rfl (by decide +kernel) ?_
    refine g_bipush C 8 (by decide) (by decide +kernel) ?_
    obtain ⟨r15_, d14_, hr16_, h⟩ := bd_some h
    refine g_callV C mw_Mo_isKey [(0, 8)] 0 cl12 rfl (ok_Mo_isKey 8 d (cK rfl) hr16_) cd_B0 (by decide) (nB (by decide)) (ix := 441) lk_1942 lk_1944 lkp_73 ⟨rfl, rfl, Nat.le_of_ble_eq_true rfl, Nat.le_of_ble_eq_true rfl⟩ rfl (rest := []) rfl (Nat.le_of_ble_eq_true rfl) ⟨Nat.zero_le _, Nat.zero_le _⟩ (by decide +kernel) (fun _ hc17_ => ?_)
    replace hc17_ : cb r15_ := hc17_
    refine g_st (st2 := [(0, r15_)]) rfl ?_
    refine g_if_ne C (off := 12) (tgt := 28) (c32_cb hc17_) (by decide +kernel) (by decide) (fun hc18_ => ?_) (fun hc18_ => ?_)
    · replace h := ite_t hc18_ h
      refine g_aload_n C 0 rfl (by decide +kernel) ?_
      refine g_bipush C 9 (by decide) (by decide +kernel) ?_
      obtain ⟨r20_, d19_, hr21_, h⟩ := bd_some h
      refine g_callV C mw_Mo_isKey [(0, 9)] 0 cl12 rfl (ok_Mo_isKey 9 d14_ (cK rfl) hr21_) cd_B0 (by decide) (nB (by decide)) (ix := 441) lk_1942 lk_1944 lkp_73 ⟨rfl, rfl, Nat.le_of_ble_eq_true rfl, Nat.le_of_ble_eq_true rfl⟩ rfl (rest := []) rfl (Nat.le_of_ble_eq_true rfl) ⟨Nat.zero_le _, Nat.zero_le _⟩ (by decide +kernel) (fun _ hc22_ => ?_)
      replace hc22_ : cb r20_ := hc22_
      refine g_st (st2 := [(0, r20_)]) rfl ?_
      refine g_if_eq C (off := 23) (tgt := 48) (c32_cb hc22_) (by decide +kernel) (by decide) (fun hc23_ => ?_) (fun hc23_ => ?_)
      · replace h := ite_t hc23_ h
        refine g_sub (lo2 := [(9, 0), (0, x1), (9, 0)]) (lsb_c (lsb_v (lsb_c lsb_e))) ?_
        obtain rfl := Option.some.inj h
        exact k0 x1 d19_ rfl hx1
      · replace h := ite_f hc23_ h
        refine g_sub (lo2 := [(2, 0), (9, 0), (9, 0)]) (lsb_v (lsb_c (lsb_c lsb_e))) ?_
        exact ok_Mo_test_b28 C d19_  h kb k0
    · replace h := ite_f hc18_ h
      refine g_sub (lo2 := [(2, 0), (9, 0), (9, 0)]) (lsb_v (lsb_c (lsb_c lsb_e))) ?_
      exact ok_Mo_test_b28 C d14_  h kb k0
set_option maxHeartbeats 4000000 in
theorem ok_Mo_test_n6 {p : Program} {l : Launch} {e : Env} {s : State} {m : MethodId} {args : Array Value} {below : List Frame} {meth : Method} {c : Code} {D : va_G} {cA : Nat → ClassId} {ad : Nat → Nat} {A : Nat → Prop} (C : Cx p s m args c prog_14_method_49_code 3 "PollBooksModel" D cA ad 1 A) {Q : State → Prop} {x : (Int × Dt)} : ∀ (n : Nat) (x1 : Int) (d : Dt), cb x1 → lpF (fun q : Int × Dt => L_Mo_test_y6 q.1 q.2) n (x1, d) = some x → (∀ (y0 : Int) (e' : Dt), x = (y0, e') → cb y0 → G p l e rm_Mo_test s m args below meth c 0 0 Q 3 D cA ad 1 A 48 [(9, 0), (0, y0), (9, 0)] [] e') → G p l e rm_Mo_test s m args below meth c 0 0 Q 3 D cA ad 1 A 6 [(2, 0), (0, x1), (9, 0)] [] d := by
  intro n
  induction n with
  | zero => intro x1 d g0 h k0; cases h
  | succ n ih =>
    intro x1 d g0 h k0
    rcases lpF_some h with h | ⟨⟨v0_, e0_⟩, h1, h⟩
    · exact ok_Mo_test_y6 C x1 d g0 h (fun z0_ e1_ eq w0_ => by cases eq) (fun z0_ e1_ eq w0_ => k0 _ _ (by cases eq; rfl) w0_)
    · exact ok_Mo_test_y6 C x1 d g0 h1 (fun z0_ e1_ eq w0_ => by cases eq; exact ih _ _ w0_ h k0) (fun z0_ e1_ eq w0_ => by cases eq)
set_option maxHeartbeats 4000000 in
theorem ok_Mo_test_l6 {p : Program} {l : Launch} {e : Env} {s : State} {m : MethodId} {args : Array Value} {below : List Frame} {meth : Method} {c : Code} {D : va_G} {cA : Nat → ClassId} {ad : Nat → Nat} {A : Nat → Prop} (C : Cx p s m args c prog_14_method_49_code 3 "PollBooksModel" D cA ad 1 A) {Q : State → Prop} {x : (Int × Dt)} (x1 : Int) (d : Dt) (hx1 : cb x1) (h : L_Mo_test_l6 x1 d = some x) (k0 : ∀ (y0 : Int) (e' : Dt), x = (y0, e') → cb y0 → G p l e rm_Mo_test s m args below meth c 0 0 Q 3 D cA ad 1 A 48 [(9, 0), (0, y0), (9, 0)] [] e') : G p l e rm_Mo_test s m args below meth c 0 0 Q 3 D cA ad 1 A 6 [(2, 0), (0, x1), (9, 0)] [] d :=
  ok_Mo_test_n6 C FU x1 d hx1 h k0
set_option maxHeartbeats 4000000 in
theorem ok_Mo_test {l : Launch} {r : Int} {d' : Dt} (d : Dt)  (h : L_Mo_test d = some (r, d')) : MC l y_Mo_test prog_14_method_49_code 3 (some .boolean) rm_Mo_test 1 [(2, 0)] d (some (0, r)) d' := by
  refine MC.of (by decide) (Nat.le_of_ble_eq_true rfl) ?_
  intro p e s m args below meth c D cA ad A C hlk hr
  replace C : Cx p s m args c prog_14_method_49_code 3 "PollBooksModel" D cA ad 1 A := C
  show G p l e rm_Mo_test s m args below meth c 0 0 (MQ below (fun _ => QC D cA ad 1 A (some .boolean) (some (0, r)) d') args s 0 0 A) 3 D cA ad 1 A 0 [(2, 0)] [] d
  refine g_sub (lo2 := [(2, 0), (9, 0), (9, 0)]) (lsb_v (lsb_n (lsb_n lsb_e))) ?_
  unfold L_Mo_test at h
  refine g_aload_n C 0 rfl (by decide +kernel) ?_
  refine g_iconst C 1 (cK rfl) (by decide +kernel) ?_
  obtain ⟨r25_, d24_, hr26_, h⟩ := bd_some h
  refine g_callV C mw_Mo_one [(0, 1)] 0 cl12 rfl (ok_Mo_one 1 d (Or.inr rfl) hr26_) cd_B0 (by decide) (nB (by decide)) (ix := 448) lk_1974 lk_1976 lkp_81 ⟨rfl, rfl, Nat.le_of_ble_eq_true rfl, Nat.le_of_ble_eq_true rfl⟩ rfl (rest := []) rfl (Nat.le_of_ble_eq_true rfl) ⟨Nat.zero_le _, Nat.zero_le _⟩ (by decide +kernel) (fun _ hc27_ => ?_)
  replace hc27_ : cb r25_ := hc27_
  refine g_st (st2 := [(0, r25_)]) rfl ?_
  refine s_istore_n C 1 (lo' := [(2, 0), (0, r25_), (9, 0)]) (by decide) (s1n (by decide) s1z) (by decide +kernel) ?_
  refine g_sub (lo2 := [(2, 0), (0, r25_), (9, 0)]) (lsb_v (lsb_v (lsb_c lsb_e))) ?_
  obtain ⟨x28_, hx29_, h⟩ := lb_some h
  refine ok_Mo_test_l6 C r25_ d24_ hc27_ hx29_ (fun v30_ d31_ eq32_ hv30_ => ?_)
  subst eq32_
  replace h := u1_e h
  refine g_iload_n C 1 rfl (by decide +kernel) ?_
  obtain ⟨rfl, rfl⟩ := ret_inj h
  exact g_zret C hv30_ hlk hr (by decide +kernel)
/-! PollBooksModel.tests(I)Z -/
def y_Mo_tests : MethodName := ⟨"PollBooksModel", "tests", "(I)Z"⟩
def rm_Mo_tests : Room := { frames := 8, cells := 0, slots := 0, locals := 178 }
theorem mw_Mo_tests : MW y_Mo_tests prog_14_method_55_code 2 (some .boolean) 1 := ⟨lk_1969, lk_14, by decide +kernel⟩
def L_Mo_tests (p1 : Int) (d : Dt) : Option (Int × Dt) :=
  bd (L_Mo_test d) (fun r2_ d1_ => if r2_ = 0 then some (0, d1_) else ck ((0 : Int) ≤ p1 ∧ p1 < 120) (ck ((0 : Int) ≤ p1 ∧ p1 < 120) (bd (L_Mo_isKey 6 (up2 (up2 d1_ 33 p1.toNat (d1_ 0 43)) 34 p1.toNat (d1_ 0 43))) (fun r11_ d10_ => if r11_ = 0 then some (1, d10_) else bd (L_Mo_next d10_) (fun r16_ d15_ => bd (L_Mo_test d15_) (fun r20_ d19_ => if r20_ = 0 then some (0, d19_) else ck ((0 : Int) ≤ p1 ∧ p1 < 120) (some (1, (up2 d19_ 34 p1.toNat (d19_ 0 43))))))))))
set_option maxHeartbeats 4000000 in
theorem ok_Mo_tests {l : Launch} {r : Int} {d' : Dt} (p1 : Int) (d : Dt) (hp1 : c32 p1) (h : L_Mo_tests p1 d = some (r, d')) : MC l y_Mo_tests prog_14_method_55_code 2 (some .boolean) rm_Mo_tests 1 [(2, 0), (0, p1)] d (some (0, r)) d' := by
  refine MC.of (by decide) (Nat.le_of_ble_eq_true rfl) ?_
  intro p e s m args below meth c D cA ad A C hlk hr
  replace C : Cx p s m args c prog_14_method_55_code 2 "PollBooksModel" D cA ad 1 A := C
  show G p l e rm_Mo_tests s m args below meth c 0 0 (MQ below (fun _ => QC D cA ad 1 A (some .boolean) (some (0, r)) d') args s 0 0 A) 2 D cA ad 1 A 0 [(2, 0), (0, p1)] [] d
  refine g_sub (lo2 := [(2, 0), (0, p1)]) (lsb_v (lsb_v lsb_e)) ?_
  unfold L_Mo_tests at h
  refine g_aload_n C 0 rfl (by decide +kernel) ?_
  obtain ⟨r2_, d1_, hr3_, h⟩ := bd_some h
  refine g_callV C mw_Mo_test [] 0 cl12 rfl (ok_Mo_test  d  hr3_) cd_B0 (by decide) (nB (by decide)) (ix := 472) lk_1970 lk_1972 lkp_80 ⟨rfl, rfl, Nat.le_of_ble_eq_true rfl, Nat.le_of_ble_eq_true rfl⟩ rfl (rest := []) rfl (Nat.le_of_ble_eq_true rfl) ⟨Nat.zero_le _, Nat.zero_le _⟩ (by decide +kernel) (fun _ hc4_ => ?_)
  replace hc4_ : cb r2_ := hc4_
  refine g_st (st2 := [(0, r2_)]) rfl ?_
  refine g_if_ne C (off := 5) (tgt := 9) (c32_cb hc4_) (by decide +kernel) (by decide) (fun hc5_ => ?_) (fun hc5_ => ?_)
  · replace h := ite_t hc5_ h
    refine g_iconst C 0 (cK rfl) (by decide +kernel) ?_
    obtain ⟨rfl, rfl⟩ := ret_inj h
    exact g_zret C (Or.inl rfl) hlk hr (by decide +kernel)
  · replace h := ite_f hc5_ h
    refine g_aload_n C 0 rfl (by decide +kernel) ?_
    refine g_getR C cl12 0 51 33 rfl cd_B0 ⟨by decide, rfl, by decide⟩ rfl rfl (nB (by decide)) (ix := 119) lk_1453 (by decide +kernel) ?_
    refine g_iload_n C 1 rfl (by decide +kernel) ?_
    refine g_aload_n C 0 rfl (by decide +kernel) ?_
    refine g_getI C cl12 0 43 rfl cd_B0 ⟨by decide, rfl, by decide⟩ rfl (nB (by decide)) (ix := 438) lk_1445 (by decide +kernel) (fun hc6_ => ?_)
    obtain ⟨hb7_, h⟩ := ck_some h
    refine g_iast C 33 hc6_ hp1 rfl cd_B33 (nB (by decide)) hb7_ (by decide +kernel) ?_
    refine g_aload_n C 0 rfl (by decide +kernel) ?_
    refine g_getR C cl12 0 52 34 rfl cd_B0 ⟨by decide, rfl, by decide⟩ rfl rfl (nB (by decide)) (ix := 122) lk_1454 (by decide +kernel) ?_
    refine g_iload_n C 1 rfl (by decide +kernel) ?_
    refine g_aload_n C 0 rfl (by decide +kernel) ?_
    refine g_getI C cl12 0 43 rfl cd_B0 ⟨by decide, rfl, by decide⟩ rfl (nB (by decide)) (ix := 438) lk_1445 (by decide +kernel) (fun hc8_ => ?_)
    refine g_val (y := (d1_ 0 43)) rfl ?_
    replace hc8_ : c32 (d1_ 0 43) := hc8_
    obtain ⟨hb9_, h⟩ := ck_some h
    refine g_iast C 34 hc8_ hp1 rfl cd_B34 (nB (by decide)) hb9_ (by decide +kernel) ?_
    refine g_aload_n C 0 rfl (by decide +kernel) ?_
    refine g_bipush C 6 (by decide) (by decide +kernel) ?_
    obtain ⟨r11_, d10_, hr12_, h⟩ := bd_some h
    refine g_callV C mw_Mo_isKey [(0, 6)] 0 cl12 rfl (ok_Mo_isKey 6 (up2 (up2 d1_ 33 p1.toNat (d1_ 0 43)) 34 p1.toNat (d1_ 0 43)) (cK rfl) hr12_) cd_B0 (by decide) (nB (by decide)) (ix := 441) lk_1942 lk_1944 lkp_73 ⟨rfl, rfl, Nat.le_of_ble_eq_true rfl, Nat.le_of_ble_eq_true rfl⟩ rfl (rest := []) rfl (Nat.le_of_ble_eq_true rfl) ⟨Nat.zero_le _, Nat.zero_le _⟩ (by decide +kernel) (fun _ hc13_ => ?_)
    replace hc13_ : cb r11_ := hc13_
    refine g_st (st2 := [(0, r11_)]) rfl ?_
    refine g_if_ne C (off := 5) (tgt := 40) (c32_cb hc13_) (by decide +kernel) (by decide) (fun hc14_ => ?_) (fun hc14_ => ?_)
    · replace h := ite_t hc14_ h
      refine g_iconst C 1 (cK rfl) (by decide +kernel) ?_
      obtain ⟨rfl, rfl⟩ := ret_inj h
      exact g_zret C (Or.inr rfl) hlk hr (by decide +kernel)
    · replace h := ite_f hc14_ h
      refine g_aload_n C 0 rfl (by decide +kernel) ?_
      obtain ⟨r16_, d15_, hr17_, h⟩ := bd_some h
      refine g_callV C mw_Mo_next [] 0 cl12 rfl (ok_Mo_next  d10_  hr17_) cd_B0 (by decide) (nB (by decide)) (ix := 423) lk_1861 lk_1863 lkp_67 ⟨rfl, rfl, Nat.le_of_ble_eq_true rfl, Nat.le_of_ble_eq_true rfl⟩ rfl (rest := []) rfl (Nat.le_of_ble_eq_true rfl) ⟨Nat.zero_le _, Nat.zero_le _⟩ (by decide +kernel) (fun _ hc18_ => ?_)
      refine g_st (st2 := []) rfl ?_
      refine g_aload_n C 0 rfl (by decide +kernel) ?_
      obtain ⟨r20_, d19_, hr21_, h⟩ := bd_some h
      refine g_callV C mw_Mo_test [] 0 cl12 rfl (ok_Mo_test  d15_  hr21_) cd_B0 (by decide) (nB (by decide)) (ix := 472) lk_1970 lk_1972 lkp_80 ⟨rfl, rfl, Nat.le_of_ble_eq_true rfl, Nat.le_of_ble_eq_true rfl⟩ rfl (rest := []) rfl (Nat.le_of_ble_eq_true rfl) ⟨Nat.zero_le _, Nat.zero_le _⟩ (by decide +kernel) (fun _ hc22_ => ?_)
      replace hc22_ : cb r20_ := hc22_
      refine g_st (st2 := [(0, r20_)]) rfl ?_
      refine g_if_ne C (off := 5) (tgt := 53) (c32_cb hc22_) (by decide +kernel) (by decide) (fun hc23_ => ?_) (fun hc23_ => ?_)
      · replace h := ite_t hc23_ h
        refine g_iconst C 0 (cK rfl) (by decide +kernel) ?_
        obtain ⟨rfl, rfl⟩ := ret_inj h
        exact g_zret C (Or.inl rfl) hlk hr (by decide +kernel)
      · replace h := ite_f hc23_ h
        refine g_aload_n C 0 rfl (by decide +kernel) ?_
        refine g_getR C cl12 0 52 34 rfl cd_B0 ⟨by decide, rfl, by decide⟩ rfl rfl (nB (by decide)) (ix := 122) lk_1454 (by decide +kernel) ?_
        refine g_iload_n C 1 rfl (by decide +kernel) ?_
        refine g_aload_n C 0 rfl (by decide +kernel) ?_
        refine g_getI C cl12 0 43 rfl cd_B0 ⟨by decide, rfl, by decide⟩ rfl (nB (by decide)) (ix := 438) lk_1445 (by decide +kernel) (fun hc24_ => ?_)
        obtain ⟨hb25_, h⟩ := ck_some h
        refine g_iast C 34 hc24_ hp1 rfl cd_B34 (nB (by decide)) hb25_ (by decide +kernel) ?_
        refine g_iconst C 1 (cK rfl) (by decide +kernel) ?_
        obtain ⟨rfl, rfl⟩ := ret_inj h
        exact g_zret C (Or.inr rfl) hlk hr (by decide +kernel)
/-! PollBooksModel.rule()Z -/
def y_Mo_rule : MethodName := ⟨"PollBooksModel", "rule", "()Z"⟩
def rm_Mo_rule : Room := { frames := 9, cells := 0, slots := 0, locals := 199 }
theorem mw_Mo_rule : MW y_Mo_rule prog_14_method_52_code 5 (some .boolean) 0 := ⟨lk_1879, lk_14, by decide +kernel⟩
def L_Mo_rule_y66 (x1 x3 x4 : Int) (d : Dt) : Option ((Int × Int × Int × Dt) ⊕ ((Int × Int × Dt) ⊕ (Dt))) :=
  if x4 < x3 then ck ((0 : Int) ≤ x4 ∧ x4 < 120) (if (d 35 x4.toNat) = x1 then some (Sum.inr (Sum.inr (d))) else some (Sum.inl (x1, x3, (w32 (x4 + 1)), d))) else some (Sum.inr (Sum.inl (x1, x3, d)))
def L_Mo_rule_l66 (x1 x3 x4 : Int) (d : Dt) : Option ((Int × Int × Dt) ⊕ (Dt)) := lpF (fun q : Int × Int × Int × Dt => L_Mo_rule_y66 q.1 q.2.1 q.2.2.1 q.2.2.2) FU (x1, x3, x4, d)
def L_Mo_rule_b205 (d : Dt) : Option (Int × Dt) :=
  bd (L_Mo_fails 2 d) (fun r6_ d5_ => some (r6_, d5_))
def L_Mo_rule_b286 (s0 : Int) (d : Dt) : Option (Int × Dt) :=
  if s0 = 0 then some (0, d) else ck ((0 : Int) ≤ (d 0 41) ∧ (d 0 41) < 6) (ck ((0 : Int) ≤ (d 0 41) ∧ (d 0 41) < 6) (bd (L_Mo_want 59 (up2 d 28 ((d 0 41)).toNat (w32 ((d 28 ((d 0 41)).toNat) + 1)))) (fun r15_ d14_ => some (r15_, d14_))))
def L_Mo_rule_b161 (x3 : Int) (d : Dt) : Option (Int × Dt) :=
  bd (L_Mo_want 58 d) (fun r19_ d18_ => if r19_ = 0 then some (0, d18_) else bd (L_Mo_inWords 1000003 d18_) (fun r24_ d23_ => ck ((0 : Int) ≤ x3 ∧ x3 < 120) (ck ((0 : Int) ≤ x3 ∧ x3 < 120) (if ((up2 d23_ 29 x3.toNat r24_) 29 x3.toNat) < 1 then L_Mo_rule_b205 (up2 d23_ 29 x3.toNat r24_) else ck ((0 : Int) ≤ x3 ∧ x3 < 120) (if 5 < ((up2 d23_ 29 x3.toNat r24_) 29 x3.toNat) then L_Mo_rule_b205 (up2 d23_ 29 x3.toNat r24_) else bd (L_Mo_next (up2 d23_ 29 x3.toNat r24_)) (fun r35_ d34_ => ck ((0 : Int) ≤ x3 ∧ x3 < 120) (ck ((0 : Int) ≤ x3 ∧ x3 < 120) (ck ((0 : Int) ≤ x3 ∧ x3 < 120) (ck ((0 : Int) ≤ x3 ∧ x3 < 120) (if (d34_ 29 x3.toNat) = 4 then bd (L_Mo_readNames x3 (up2 (up2 (up2 d34_ 32 x3.toNat (d34_ 0 43)) 33 x3.toNat (d34_ 0 43)) 34 x3.toNat (d34_ 0 43))) (fun r48_ d47_ => L_Mo_rule_b286 r48_ d47_) else ck ((0 : Int) ≤ x3 ∧ x3 < 120) (if (d34_ 29 x3.toNat) = 5 then bd (L_Mo_readHours x3 (up2 (up2 (up2 d34_ 32 x3.toNat (d34_ 0 43)) 33 x3.toNat (d34_ 0 43)) 34 x3.toNat (d34_ 0 43))) (fun r55_ d54_ => L_Mo_rule_b286 r55_ d54_) else bd (L_Mo_tests x3 (up2 (up2 (up2 d34_ 32 x3.toNat (d34_ 0 43)) 33 x3.toNat (d34_ 0 43)) 34 x3.toNat (d34_ 0 43))) (fun r59_ d58_ => L_Mo_rule_b286 r59_ d58_))))))))))))
def L_Mo_rule (d : Dt) : Option (Int × Dt) :=
  bd (L_Mo_labelHere d) (fun r63_ d62_ => if r63_ = (-1) then bd (L_Mo_fails 2 d62_) (fun r68_ d67_ => some (r68_, d67_)) else ck ((0 : Int) ≤ (d62_ 0 41) ∧ (d62_ 0 41) < 6) (if (d62_ 28 ((d62_ 0 41)).toNat) = 20 then bd (L_Mo_fails 3 d62_) (fun r76_ d75_ => some (r76_, d75_)) else ck ((0 : Int) ≤ (d62_ 0 41) ∧ (d62_ 0 41) < 6) (lt_ (w32 ((w32 (20 * (d62_ 0 41))) + (d62_ 28 ((d62_ 0 41)).toNat))) (fun v83_ => lt_ (w32 (20 * (d62_ 0 41))) (fun v87_ => lb (L_Mo_rule_l66 r63_ v83_ v87_ d62_) (fun q133_ => sm q133_ (fun q134_ => u2 q134_ (fun v92_ v93_ d94_ => ck ((0 : Int) ≤ v93_ ∧ v93_ < 120) (ck ((0 : Int) ≤ v93_ ∧ v93_ < 120) (bd (L_Mo_next (up2 (up2 d94_ 35 v93_.toNat v92_) 36 v93_.toNat (-1))) (fun r99_ d98_ => bd (L_Mo_isKey 0 d98_) (fun r103_ d102_ => if r103_ = 0 then L_Mo_rule_b161 v93_ d102_ else bd (L_Mo_next d102_) (fun r108_ d107_ => bd (L_Mo_labelHere d107_) (fun r112_ d111_ => ck ((0 : Int) ≤ v93_ ∧ v93_ < 120) (ck ((0 : Int) ≤ v93_ ∧ v93_ < 120) (if ((up2 d111_ 36 v93_.toNat r112_) 36 v93_.toNat) = (-1) then bd (L_Mo_fails 2 (up2 d111_ 36 v93_.toNat r112_)) (fun r120_ d119_ => some (r120_, d119_)) else bd (L_Mo_next (up2 d111_ 36 v93_.toNat r112_)) (fun r124_ d123_ => L_Mo_rule_b161 v93_ d123_))))))))))) (fun q135_ => u0 q135_ (fun d127_ => bd (L_Mo_fails 4 d127_) (fun r130_ d129_ => some (r130_, d129_))))))))))
set_option maxHeartbeats 4000000 in
theorem ok_Mo_rule_y66 {p : Program} {l : Launch} {e : Env} {s : State} {m : MethodId} {args : Array Value} {below : List Frame} {meth : Method} {c : Code} {D : va_G} {cA : Nat → ClassId} {ad : Nat → Nat} {A : Nat → Prop} (C : Cx p s m args c prog_14_method_52_code 5 "PollBooksModel" D cA ad 1 A) {Q : State → Prop} {o : (Int × Int × Int × Dt) ⊕ ((Int × Int × Dt) ⊕ (Dt))} (x1 x3 x4 : Int) (d : Dt) (hx1 : c64 x1) (hx3 : c32 x3) (hx4 : c32 x4) (h : L_Mo_rule_y66 x1 x3 x4 d = some o) (kb : ∀ (y0 y1 y2 : Int) (e' : Dt), o = .inl (y0, y1, y2, e') → c64 y0 → c32 y1 → c32 y2 → G p l e rm_Mo_rule s m args below meth c 0 0 Q 5 D cA ad 1 A 66 [(2, 0), (1, y0), (9, 0), (0, y1), (0, y2)] [] e') (k0 : ∀ (y0 y1 : Int) (e' : Dt), o = .inr (Sum.inl (y0, y1, e')) → c64 y0 → c32 y1 → G p l e rm_Mo_rule s m args below meth c 0 0 Q 5 D cA ad 1 A 96 [(2, 0), (1, y0), (9, 0), (0, y1), (9, 0)] [] e') (k1 : ∀ (e' : Dt), o = .inr (Sum.inr (e')) → G p l e rm_Mo_rule s m args below meth c 0 0 Q 5 D cA ad 1 A 84 [(2, 0), (9, 0), (9, 0), (9, 0), (9, 0)] [] e') : G p l e rm_Mo_rule s m args below meth c 0 0 Q 5 D cA ad 1 A 66 [(2, 0), (1, x1), (9, 0), (0, x3), (0, x4)] [] d := by
  unfold L_Mo_rule_y66 at h
  refine g_iload C 4 rfl (by decide +kernel) ?_
  refine g_iload_n C 3 rfl (by decide +kernel) ?_
  refine g_icmp_ge C (off := 27) (tgt := 96) hx4 hx3 (by decide +kernel) (by decide) (fun hc1_ => ?_) (fun hc1_ => ?_)
  · replace h := ite_t hc1_ h
    refine g_aload_n C 0 rfl (by decide +kernel) ?_
    refine g_getR C cl12 0 53 35 rfl cd_B0 ⟨by decide, rfl, by decide⟩ rfl rfl (nB (by decide)) (ix := 125) lk_1455 (by decide +kernel) ?_
    refine g_iload C 4 rfl (by decide +kernel) ?_
    obtain ⟨hb2_, h⟩ := ck_some h
    refine g_lald C 35 hx4 rfl cd_B35 (nB (by decide)) hb2_ (by decide +kernel) (fun hc3_ => ?_)
    refine g_lload_n C 1 rfl (by decide +kernel) ?_
    refine g_lc_ne C (off := 9) (tgt := 90) hc3_ hx1 (by decide +kernel) (by decide +kernel) (by decide) (fun hc4_ => ?_) (fun hc4_ => ?_)
    · replace h := ite_t hc4_ h
      refine g_sub (lo2 := [(2, 0), (9, 0), (9, 0), (9, 0), (9, 0)]) (lsb_v (lsb_c (lsb_c (lsb_c (lsb_c lsb_e))))) ?_
      obtain rfl := Option.some.inj h
      exact k1 d rfl 
    · replace h := ite_f hc4_ h
      refine s_iinc C 4 1 (lo' := [(2, 0), (1, x1), (9, 0), (0, x3), (0, (w32 (x4 + 1)))]) rfl (by decide) (s1k (s1k (s1k (s1n (by decide) s1z)))) (by decide +kernel) ?_
      refine g_goto C 66 (off := (-27)) (by decide +kernel) (by decide) ?_
      refine g_sub (lo2 := [(2, 0), (1, x1), (9, 0), (0, x3), (0, (w32 (x4 + 1)))]) (lsb_v (lsb_v (lsb_c (lsb_v (lsb_v lsb_e))))) ?_
      obtain rfl := Option.some.inj h
      exact kb x1 x3 (w32 (x4 + 1)) d rfl hx1 hx3 (w32_c _)
  · replace h := ite_f hc1_ h
    refine g_sub (lo2 := [(2, 0), (1, x1), (9, 0), (0, x3), (9, 0)]) (lsb_v (lsb_v (lsb_c (lsb_v (lsb_c lsb_e))))) ?_
    obtain rfl := Option.some.inj h
    exact k0 x1 x3 d rfl hx1 hx3
set_option maxHeartbeats 4000000 in
theorem ok_Mo_rule_n66 {p : Program} {l : Launch} {e : Env} {s : State} {m : MethodId} {args : Array Value} {below : List Frame} {meth : Method} {c : Code} {D : va_G} {cA : Nat → ClassId} {ad : Nat → Nat} {A : Nat → Prop} (C : Cx p s m args c prog_14_method_52_code 5 "PollBooksModel" D cA ad 1 A) {Q : State → Prop} {x : (Int × Int × Dt) ⊕ (Dt)} : ∀ (n : Nat) (x1 x3 x4 : Int) (d : Dt), c64 x1 → c32 x3 → c32 x4 → lpF (fun q : Int × Int × Int × Dt => L_Mo_rule_y66 q.1 q.2.1 q.2.2.1 q.2.2.2) n (x1, x3, x4, d) = some x → (∀ (y0 y1 : Int) (e' : Dt), x = (Sum.inl (y0, y1, e')) → c64 y0 → c32 y1 → G p l e rm_Mo_rule s m args below meth c 0 0 Q 5 D cA ad 1 A 96 [(2, 0), (1, y0), (9, 0), (0, y1), (9, 0)] [] e') → (∀ (e' : Dt), x = (Sum.inr (e')) → G p l e rm_Mo_rule s m args below meth c 0 0 Q 5 D cA ad 1 A 84 [(2, 0), (9, 0), (9, 0), (9, 0), (9, 0)] [] e') → G p l e rm_Mo_rule s m args below meth c 0 0 Q 5 D cA ad 1 A 66 [(2, 0), (1, x1), (9, 0), (0, x3), (0, x4)] [] d := by
  intro n
  induction n with
  | zero => intro x1 x3 x4 d g0 g1 g2 h k0 k1; cases h
  | succ n ih =>
    intro x1 x3 x4 d g0 g1 g2 h k0 k1
    rcases lpF_some h with h | ⟨⟨v0_, v1_, v2_, e0_⟩, h1, h⟩
    · exact ok_Mo_rule_y66 C x1 x3 x4 d g0 g1 g2 h (fun z0_ z1_ z2_ e1_ eq w0_ w1_ w2_ => by cases eq) (fun z0_ z1_ e1_ eq w0_ w1_ => k0 _ _ _ (by cases eq; rfl) w0_ w1_) (fun e1_ eq => k1 _ (by cases eq; rfl) )
    · exact ok_Mo_rule_y66 C x1 x3 x4 d g0 g1 g2 h1 (fun z0_ z1_ z2_ e1_ eq w0_ w1_ w2_ => by cases eq; exact ih _ _ _ _ w0_ w1_ w2_ h k0 k1) (fun z0_ z1_ e1_ eq w0_ w1_ => by cases eq) (fun e1_ eq => by cases eq)
set_option maxHeartbeats 4000000 in
theorem ok_Mo_rule_l66 {p : Program} {l : Launch} {e : Env} {s : State} {m : MethodId} {args : Array Value} {below : List Frame} {meth : Method} {c : Code} {D : va_G} {cA : Nat → ClassId} {ad : Nat → Nat} {A : Nat → Prop} (C : Cx p s m args c prog_14_method_52_code 5 "PollBooksModel" D cA ad 1 A) {Q : State → Prop} {x : (Int × Int × Dt) ⊕ (Dt)} (x1 x3 x4 : Int) (d : Dt) (hx1 : c64 x1) (hx3 : c32 x3) (hx4 : c32 x4) (h : L_Mo_rule_l66 x1 x3 x4 d = some x) (k0 : ∀ (y0 y1 : Int) (e' : Dt), x = (Sum.inl (y0, y1, e')) → c64 y0 → c32 y1 → G p l e rm_Mo_rule s m args below meth c 0 0 Q 5 D cA ad 1 A 96 [(2, 0), (1, y0), (9, 0), (0, y1), (9, 0)] [] e') (k1 : ∀ (e' : Dt), x = (Sum.inr (e')) → G p l e rm_Mo_rule s m args below meth c 0 0 Q 5 D cA ad 1 A 84 [(2, 0), (9, 0), (9, 0), (9, 0), (9, 0)] [] e') : G p l e rm_Mo_rule s m args below meth c 0 0 Q 5 D cA ad 1 A 66 [(2, 0), (1, x1), (9, 0), (0, x3), (0, x4)] [] d :=
  ok_Mo_rule_n66 C FU x1 x3 x4 d hx1 hx3 hx4 h k0 k1
set_option maxHeartbeats 4000000 in
theorem ok_Mo_rule_b205 {p : Program} {l : Launch} {e : Env} {s : State} {m : MethodId} {args : Array Value} {below : List Frame} {meth : Method} {c : Code} {D : va_G} {cA : Nat → ClassId} {ad : Nat → Nat} {A : Nat → Prop} (C : Cx p s m args c prog_14_method_52_code 5 "PollBooksModel" D cA ad 1 A) (hlk : meth.locks = false) (hr : meth.sig.returnType = (some .boolean)) {r : Int} {d' : Dt} (d : Dt)  (h : L_Mo_rule_b205 d = some (r, d')) : G p l e rm_Mo_rule s m args below meth c 0 0 (MQ below (fun _ => QC D cA ad 1 A (some .boolean) (some (0, r)) d') args s 0 0 A) 5 D cA ad 1 A 205 [(2, 0), (9, 0), (9, 0), (9, 0), (9, 0)] [] d := by
  unfold L_Mo_rule_b205 at h
  refine g_aload_n C 0 rfl (by decide +kernel) ?_
  refine g_iconst C 2 (cK rfl) (by decide +kernel) ?_
  obtain ⟨r6_, d5_, hr7_, h⟩ := bd_some h
  refine g_callV C mw_Mo_fails [(0, 2)] 0 cl12 rfl (ok_Mo_fails 2 d (cK rfl) hr7_) cd_B0 (by decide) (nB (by decide)) (ix := 420) lk_1938 lk_1940 lkp_72 ⟨rfl, rfl, Nat.le_of_ble_eq_true rfl, Nat.le_of_ble_eq_true rfl⟩ rfl (rest := []) rfl (Nat.le_of_ble_eq_true rfl) ⟨Nat.zero_le _, Nat.zero_le _⟩ (by decide +kernel) (fun _ hc8_ => ?_)
  replace hc8_ : cb r6_ := hc8_
  refine g_st (st2 := [(0, r6_)]) rfl ?_
  obtain ⟨rfl, rfl⟩ := ret_inj h
  exact g_zret C hc8_ hlk hr (by decide +kernel)
set_option maxHeartbeats 4000000 in
theorem ok_Mo_rule_b286 {p : Program} {l : Launch} {e : Env} {s : State} {m : MethodId} {args : Array Value} {below : List Frame} {meth : Method} {c : Code} {D : va_G} {cA : Nat → ClassId} {ad : Nat → Nat} {A : Nat → Prop} (C : Cx p s m args c prog_14_method_52_code 5 "PollBooksModel" D cA ad 1 A) (hlk : meth.locks = false) (hr : meth.sig.returnType = (some .boolean)) {r : Int} {d' : Dt} (s0 : Int) (d : Dt) (hs0 : cb s0) (h : L_Mo_rule_b286 s0 d = some (r, d')) : G p l e rm_Mo_rule s m args below meth c 0 0 (MQ below (fun _ => QC D cA ad 1 A (some .boolean) (some (0, r)) d') args s 0 0 A) 5 D cA ad 1 A 286 [(2, 0), (9, 0), (9, 0), (9, 0), (9, 0)] [(0, s0)] d := by
  unfold L_Mo_rule_b286 at h
  refine s_istore C 4 (lo' := [(2, 0), (9, 0), (9, 0), (9, 0), (0, s0)]) (by decide) (s1k (s1k (s1k (s1n (by decide) s1z)))) (by decide +kernel) ?_
  refine g_iload C 4 rfl (by decide +kernel) ?_
  refine g_if_ne C (off := 5) (tgt := 295) (c32_cb hs0) (by decide +kernel) (by decide) (fun hc9_ => ?_) (fun hc9_ => ?_)
  · replace h := ite_t hc9_ h
    refine g_iconst C 0 (cK rfl) (by decide +kernel) ?_
    obtain ⟨rfl, rfl⟩ := ret_inj h
    exact g_zret C (Or.inl rfl) hlk hr (by decide +kernel)
  · replace h := ite_f hc9_ h
    refine g_aload_n C 0 rfl (by decide +kernel) ?_
    refine g_getR C cl12 0 46 28 rfl cd_B0 ⟨by decide, rfl, by decide⟩ rfl rfl (nB (by decide)) (ix := 104) lk_1448 (by decide +kernel) ?_
    refine g_aload_n C 0 rfl (by decide +kernel) ?_
    refine g_getI C cl12 0 41 rfl cd_B0 ⟨by decide, rfl, by decide⟩ rfl (nB (by decide)) (ix := 456) lk_1443 (by decide +kernel) (fun hc10_ => ?_)
    refine g_dup2 C tg0 tg2 (by decide +kernel) ?_
    obtain ⟨hb11_, h⟩ := ck_some h
    refine g_iald C 28 hc10_ rfl cd_B28 (nB (by decide)) hb11_ (by decide +kernel) (fun hc12_ => ?_)
    refine g_iconst C 1 (cK rfl) (by decide +kernel) ?_
    refine g_iadd C (by decide +kernel) ?_
    obtain ⟨hb13_, h⟩ := ck_some h
    refine g_iast C 28 (w32_c _) hc10_ rfl cd_B28 (nB (by decide)) hb13_ (by decide +kernel) ?_
    refine g_aload_n C 0 rfl (by decide +kernel) ?_
    refine g_bipush C 59 (by decide) (by decide +kernel) ?_
    obtain ⟨r15_, d14_, hr16_, h⟩ := bd_some h
    refine g_callV C mw_Mo_want [(0, 59)] 0 cl12 rfl (ok_Mo_want 59 (up2 d 28 ((d 0 41)).toNat (w32 ((d 28 ((d 0 41)).toNat) + 1))) (cK rfl) hr16_) cd_B0 (by decide) (nB (by decide)) (ix := 435) lk_1946 lk_1948 lkp_74 ⟨rfl, rfl, Nat.le_of_ble_eq_true rfl, Nat.le_of_ble_eq_true rfl⟩ rfl (rest := []) rfl (Nat.le_of_ble_eq_true rfl) ⟨Nat.zero_le _, Nat.zero_le _⟩ (by decide +kernel) (fun _ hc17_ => ?_)
    replace hc17_ : cb r15_ := hc17_
    refine g_st (st2 := [(0, r15_)]) rfl ?_
    obtain ⟨rfl, rfl⟩ := ret_inj h
    exact g_zret C hc17_ hlk hr (by decide +kernel)
set_option maxHeartbeats 4000000 in
theorem ok_Mo_rule_b161 {p : Program} {l : Launch} {e : Env} {s : State} {m : MethodId} {args : Array Value} {below : List Frame} {meth : Method} {c : Code} {D : va_G} {cA : Nat → ClassId} {ad : Nat → Nat} {A : Nat → Prop} (C : Cx p s m args c prog_14_method_52_code 5 "PollBooksModel" D cA ad 1 A) (hlk : meth.locks = false) (hr : meth.sig.returnType = (some .boolean)) {r : Int} {d' : Dt} (x3 : Int) (d : Dt) (hx3 : c32 x3) (h : L_Mo_rule_b161 x3 d = some (r, d')) : G p l e rm_Mo_rule s m args below meth c 0 0 (MQ below (fun _ => QC D cA ad 1 A (some .boolean) (some (0, r)) d') args s 0 0 A) 5 D cA ad 1 A 161 [(2, 0), (9, 0), (9, 0), (0, x3), (9, 0)] [] d := by
  unfold L_Mo_rule_b161 at h
  refine g_aload_n C 0 rfl (by decide +kernel) ?_
  refine g_bipush C 58 (by decide) (by decide +kernel) ?_
  obtain ⟨r19_, d18_, hr20_, h⟩ := bd_some h
  refine g_callV C mw_Mo_want [(0, 58)] 0 cl12 rfl (ok_Mo_want 58 d (cK rfl) hr20_) cd_B0 (by decide) (nB (by decide)) (ix := 435) lk_1946 lk_1948 lkp_74 ⟨rfl, rfl, Nat.le_of_ble_eq_true rfl, Nat.le_of_ble_eq_true rfl⟩ rfl (rest := []) rfl (Nat.le_of_ble_eq_true rfl) ⟨Nat.zero_le _, Nat.zero_le _⟩ (by decide +kernel) (fun _ hc21_ => ?_)
  replace hc21_ : cb r19_ := hc21_
  refine g_st (st2 := [(0, r19_)]) rfl ?_
  refine g_if_ne C (off := 5) (tgt := 172) (c32_cb hc21_) (by decide +kernel) (by decide) (fun hc22_ => ?_) (fun hc22_ => ?_)
  · replace h := ite_t hc22_ h
    refine g_iconst C 0 (cK rfl) (by decide +kernel) ?_
    obtain ⟨rfl, rfl⟩ := ret_inj h
    exact g_zret C (Or.inl rfl) hlk hr (by decide +kernel)
  · replace h := ite_f hc22_ h
    refine g_aload_n C 0 rfl (by decide +kernel) ?_
    refine g_getR C cl12 0 47 29 rfl cd_B0 ⟨by decide, rfl, by decide⟩ rfl rfl (nB (by decide)) (ix := 107) lk_1449 (by decide +kernel) ?_
    refine g_iload_n C 3 rfl (by decide +kernel) ?_
    refine g_aload_n C 0 rfl (by decide +kernel) ?_
    refine g_strK C rfl (by decide +kernel) ?_
    obtain ⟨r24_, d23_, hr25_, h⟩ := bd_some h
    refine g_callV C mw_Mo_inWords [(2, 1000003)] 0 cl12 rfl (ok_Mo_inWords 1000003 d18_  hr25_) cd_B0 (by decide) (nB (by decide)) (ix := 410) lk_1885 lk_1887 lkp_71 ⟨rfl, rfl, Nat.le_of_ble_eq_true rfl, Nat.le_of_ble_eq_true rfl⟩ rfl (rest := [(0, x3), (2, 29)]) rfl (Nat.le_of_ble_eq_true rfl) ⟨Nat.zero_le _, Nat.zero_le _⟩ (by decide +kernel) (fun _ hc26_ => ?_)
    replace hc26_ : c32 r24_ := hc26_
    refine g_st (st2 := [(0, r24_), (0, x3), (2, 29)]) rfl ?_
    obtain ⟨hb27_, h⟩ := ck_some h
    refine g_iast C 29 hc26_ hx3 rfl cd_B29 (nB (by decide)) hb27_ (by decide +kernel) ?_
    refine g_aload_n C 0 rfl (by decide +kernel) ?_
    refine g_getR C cl12 0 47 29 rfl cd_B0 ⟨by decide, rfl, by decide⟩ rfl rfl (nB (by decide)) (ix := 107) lk_1449 (by decide +kernel) ?_
    refine g_iload_n C 3 rfl (by decide +kernel) ?_
    obtain ⟨hb28_, h⟩ := ck_some h
    refine g_iald C 29 hx3 rfl cd_B29 (nB (by decide)) hb28_ (by decide +kernel) (fun hc29_ => ?_)
    refine g_iconst C 1 (cK rfl) (by decide +kernel) ?_
    refine g_icmp_lt C (off := 13) (tgt := 205) hc29_ (c32_cb (Or.inr rfl)) (by decide +kernel) (by decide) (fun hc30_ => ?_) (fun hc30_ => ?_)
    · replace h := ite_t hc30_ h
      refine g_sub (lo2 := [(2, 0), (9, 0), (9, 0), (9, 0), (9, 0)]) (lsb_v (lsb_c (lsb_c (lsb_c (lsb_c lsb_e))))) ?_
      exact ok_Mo_rule_b205 C hlk hr (up2 d23_ 29 x3.toNat r24_)  h
    · replace h := ite_f hc30_ h
      refine g_aload_n C 0 rfl (by decide +kernel) ?_
      refine g_getR C cl12 0 47 29 rfl cd_B0 ⟨by decide, rfl, by decide⟩ rfl rfl (nB (by decide)) (ix := 107) lk_1449 (by decide +kernel) ?_
      refine g_iload_n C 3 rfl (by decide +kernel) ?_
      obtain ⟨hb31_, h⟩ := ck_some h
      refine g_iald C 29 hx3 rfl cd_B29 (nB (by decide)) hb31_ (by decide +kernel) (fun hc32_ => ?_)
      refine g_iconst C 5 (cK rfl) (by decide +kernel) ?_
      refine g_icmp_le C (off := 9) (tgt := 211) hc32_ (cK rfl) (by decide +kernel) (by decide) (fun hc33_ => ?_) (fun hc33_ => ?_)
      · replace h := ite_t hc33_ h
        refine g_sub (lo2 := [(2, 0), (9, 0), (9, 0), (9, 0), (9, 0)]) (lsb_v (lsb_c (lsb_c (lsb_c (lsb_c lsb_e))))) ?_
        exact ok_Mo_rule_b205 C hlk hr (up2 d23_ 29 x3.toNat r24_)  h
      · replace h := ite_f hc33_ h
        refine g_aload_n C 0 rfl (by decide +kernel) ?_
        obtain ⟨r35_, d34_, hr36_, h⟩ := bd_some h
        refine g_callV C mw_Mo_next [] 0 cl12 rfl (ok_Mo_next  (up2 d23_ 29 x3.toNat r24_)  hr36_) cd_B0 (by decide) (nB (by decide)) (ix := 423) lk_1861 lk_1863 lkp_67 ⟨rfl, rfl, Nat.le_of_ble_eq_true rfl, Nat.le_of_ble_eq_true rfl⟩ rfl (rest := []) rfl (Nat.le_of_ble_eq_true rfl) ⟨Nat.zero_le _, Nat.zero_le _⟩ (by decide +kernel) (fun _ hc37_ => ?_)
        refine g_st (st2 := []) rfl ?_
        refine g_aload_n C 0 rfl (by decide +kernel) ?_
        refine g_getR C cl12 0 50 32 rfl cd_B0 ⟨by decide, rfl, by decide⟩ rfl rfl (nB (by decide)) (ix := 116) lk_1452 (by decide +kernel) ?_
        refine g_iload_n C 3 rfl (by decide +kernel) ?_
        refine g_aload_n C 0 rfl (by decide +kernel) ?_
        refine g_getI C cl12 0 43 rfl cd_B0 ⟨by decide, rfl, by decide⟩ rfl (nB (by decide)) (ix := 438) lk_1445 (by decide +kernel) (fun hc38_ => ?_)
        obtain ⟨hb39_, h⟩ := ck_some h
        refine g_iast C 32 hc38_ hx3 rfl cd_B32 (nB (by decide)) hb39_ (by decide +kernel) ?_
        refine g_aload_n C 0 rfl (by decide +kernel) ?_
        refine g_getR C cl12 0 51 33 rfl cd_B0 ⟨by decide, rfl, by decide⟩ rfl rfl (nB (by decide)) (ix := 119) lk_1453 (by decide +kernel) ?_
        refine g_iload_n C 3 rfl (by decide +kernel) ?_
        refine g_aload_n C 0 rfl (by decide +kernel) ?_
        refine g_getI C cl12 0 43 rfl cd_B0 ⟨by decide, rfl, by decide⟩ rfl (nB (by decide)) (ix := 438) lk_1445 (by decide +kernel) (fun hc40_ => ?_)
        refine g_val (y := (d34_ 0 43)) rfl ?_
        replace hc40_ : c32 (d34_ 0 43) := hc40_
        obtain ⟨hb41_, h⟩ := ck_some h
        refine g_iast C 33 hc40_ hx3 rfl cd_B33 (nB (by decide)) hb41_ (by decide +kernel) ?_
        refine g_aload_n C 0 rfl (by decide +kernel) ?_
        refine g_getR C cl12 0 52 34 rfl cd_B0 ⟨by decide, rfl, by decide⟩ rfl rfl (nB (by decide)) (ix := 122) lk_1454 (by decide +kernel) ?_
        refine g_iload_n C 3 rfl (by decide +kernel) ?_
        refine g_aload_n C 0 rfl (by decide +kernel) ?_
        refine g_getI C cl12 0 43 rfl cd_B0 ⟨by decide, rfl, by decide⟩ rfl (nB (by decide)) (ix := 438) lk_1445 (by decide +kernel) (fun hc42_ => ?_)
        refine g_val (y := (d34_ 0 43)) rfl ?_
        replace hc42_ : c32 (d34_ 0 43) := hc42_
        obtain ⟨hb43_, h⟩ := ck_some h
        refine g_iast C 34 hc42_ hx3 rfl cd_B34 (nB (by decide)) hb43_ (by decide +kernel) ?_
        refine g_aload_n C 0 rfl (by decide +kernel) ?_
        refine g_getR C cl12 0 47 29 rfl cd_B0 ⟨by decide, rfl, by decide⟩ rfl rfl (nB (by decide)) (ix := 107) lk_1449 (by decide +kernel) ?_
        refine g_iload_n C 3 rfl (by decide +kernel) ?_
        obtain ⟨hb44_, h⟩ := ck_some h
        refine g_iald C 29 hx3 rfl cd_B29 (nB (by decide)) hb44_ (by decide +kernel) (fun hc45_ => ?_)
        refine g_val (y := (d34_ 29 x3.toNat)) rfl ?_
        replace hc45_ : c32 (d34_ 29 x3.toNat) := hc45_
        refine g_iconst C 4 (cK rfl) (by decide +kernel) ?_
        refine g_icmp_ne C (off := 11) (tgt := 263) hc45_ (cK rfl) (by decide +kernel) (by decide) (fun hc46_ => ?_) (fun hc46_ => ?_)
        · replace h := ite_t hc46_ h
          refine g_aload_n C 0 rfl (by decide +kernel) ?_
          refine g_iload_n C 3 rfl (by decide +kernel) ?_
          obtain ⟨r48_, d47_, hr49_, h⟩ := bd_some h
          refine g_callV C mw_Mo_readNames [(0, x3)] 0 cl12 rfl (ok_Mo_readNames x3 (up2 (up2 (up2 d34_ 32 x3.toNat (d34_ 0 43)) 33 x3.toNat (d34_ 0 43)) 34 x3.toNat (d34_ 0 43)) hx3 hr49_) cd_B0 (by decide) (nB (by decide)) (ix := 459) lk_1954 lk_1956 lkp_76 ⟨rfl, rfl, Nat.le_of_ble_eq_true rfl, Nat.le_of_ble_eq_true rfl⟩ rfl (rest := []) rfl (Nat.le_of_ble_eq_true rfl) ⟨Nat.zero_le _, Nat.zero_le _⟩ (by decide +kernel) (fun _ hc50_ => ?_)
          replace hc50_ : cb r48_ := hc50_
          refine g_st (st2 := [(0, r48_)]) rfl ?_
          refine g_goto C 286 (off := 26) (by decide +kernel) (by decide) ?_
          refine g_sub (lo2 := [(2, 0), (9, 0), (9, 0), (9, 0), (9, 0)]) (lsb_v (lsb_c (lsb_c (lsb_c (lsb_c lsb_e))))) ?_
          exact ok_Mo_rule_b286 C hlk hr r48_ d47_ hc50_ h
        · replace h := ite_f hc46_ h
          refine g_aload_n C 0 rfl (by decide +kernel) ?_
          refine g_getR C cl12 0 47 29 rfl cd_B0 ⟨by decide, rfl, by decide⟩ rfl rfl (nB (by decide)) (ix := 107) lk_1449 (by decide +kernel) ?_
          refine g_iload_n C 3 rfl (by decide +kernel) ?_
          obtain ⟨hb51_, h⟩ := ck_some h
          refine g_iald C 29 hx3 rfl cd_B29 (nB (by decide)) hb51_ (by decide +kernel) (fun hc52_ => ?_)
          refine g_val (y := (d34_ 29 x3.toNat)) rfl ?_
          replace hc52_ : c32 (d34_ 29 x3.toNat) := hc52_
          refine g_iconst C 5 (cK rfl) (by decide +kernel) ?_
          refine g_icmp_ne C (off := 11) (tgt := 281) hc52_ (cK rfl) (by decide +kernel) (by decide) (fun hc53_ => ?_) (fun hc53_ => ?_)
          · replace h := ite_t hc53_ h
            refine g_aload_n C 0 rfl (by decide +kernel) ?_
            refine g_iload_n C 3 rfl (by decide +kernel) ?_
            obtain ⟨r55_, d54_, hr56_, h⟩ := bd_some h
            refine g_callV C mw_Mo_readHours [(0, x3)] 0 cl12 rfl (ok_Mo_readHours x3 (up2 (up2 (up2 d34_ 32 x3.toNat (d34_ 0 43)) 33 x3.toNat (d34_ 0 43)) 34 x3.toNat (d34_ 0 43)) hx3 hr56_) cd_B0 (by decide) (nB (by decide)) (ix := 462) lk_1962 lk_1964 lkp_78 ⟨rfl, rfl, Nat.le_of_ble_eq_true rfl, Nat.le_of_ble_eq_true rfl⟩ rfl (rest := []) rfl (Nat.le_of_ble_eq_true rfl) ⟨Nat.zero_le _, Nat.zero_le _⟩ (by decide +kernel) (fun _ hc57_ => ?_)
            replace hc57_ : cb r55_ := hc57_
            refine g_st (st2 := [(0, r55_)]) rfl ?_
            refine g_goto C 286 (off := 8) (by decide +kernel) (by decide) ?_
            refine g_sub (lo2 := [(2, 0), (9, 0), (9, 0), (9, 0), (9, 0)]) (lsb_v (lsb_c (lsb_c (lsb_c (lsb_c lsb_e))))) ?_
            exact ok_Mo_rule_b286 C hlk hr r55_ d54_ hc57_ h
          · replace h := ite_f hc53_ h
            refine g_aload_n C 0 rfl (by decide +kernel) ?_
            refine g_iload_n C 3 rfl (by decide +kernel) ?_
            obtain ⟨r59_, d58_, hr60_, h⟩ := bd_some h
            refine g_callV C mw_Mo_tests [(0, x3)] 0 cl12 rfl (ok_Mo_tests x3 (up2 (up2 (up2 d34_ 32 x3.toNat (d34_ 0 43)) 33 x3.toNat (d34_ 0 43)) 34 x3.toNat (d34_ 0 43)) hx3 hr60_) cd_B0 (by decide) (nB (by decide)) (ix := 465) lk_1966 lk_1968 lkp_79 ⟨rfl, rfl, Nat.le_of_ble_eq_true rfl, Nat.le_of_ble_eq_true rfl⟩ rfl (rest := []) rfl (Nat.le_of_ble_eq_true rfl) ⟨Nat.zero_le _, Nat.zero_le _⟩ (by decide +kernel) (fun _ hc61_ => ?_)
            replace hc61_ : cb r59_ := hc61_
            refine g_st (st2 := [(0, r59_)]) rfl ?_
            refine g_sub (lo2 := [(2, 0), (9, 0), (9, 0), (9, 0), (9, 0)]) (lsb_v (lsb_c (lsb_c (lsb_c (lsb_c lsb_e))))) ?_
            exact ok_Mo_rule_b286 C hlk hr r59_ d58_ hc61_ h
set_option maxHeartbeats 4000000 in
theorem ok_Mo_rule {l : Launch} {r : Int} {d' : Dt} (d : Dt)  (h : L_Mo_rule d = some (r, d')) : MC l y_Mo_rule prog_14_method_52_code 5 (some .boolean) rm_Mo_rule 1 [(2, 0)] d (some (0, r)) d' := by
  refine MC.of (by decide) (Nat.le_of_ble_eq_true rfl) ?_
  intro p e s m args below meth c D cA ad A C hlk hr
  replace C : Cx p s m args c prog_14_method_52_code 5 "PollBooksModel" D cA ad 1 A := C
  show G p l e rm_Mo_rule s m args below meth c 0 0 (MQ below (fun _ => QC D cA ad 1 A (some .boolean) (some (0, r)) d') args s 0 0 A) 5 D cA ad 1 A 0 [(2, 0)] [] d
  refine g_sub (lo2 := [(2, 0), (9, 0), (9, 0), (9, 0), (9, 0)]) (lsb_v (lsb_n (lsb_n (lsb_n (lsb_n lsb_e))))) ?_
  unfold L_Mo_rule at h
  refine g_aload_n C 0 rfl (by decide +kernel) ?_
  obtain ⟨r63_, d62_, hr64_, h⟩ := bd_some h
  refine g_callV C mw_Mo_labelHere [] 0 cl12 rfl (ok_Mo_labelHere  d  hr64_) cd_B0 (by decide) (nB (by decide)) (ix := 452) lk_1880 lk_1882 lkp_70 ⟨rfl, rfl, Nat.le_of_ble_eq_true rfl, Nat.le_of_ble_eq_true rfl⟩ rfl (rest := []) rfl (Nat.le_of_ble_eq_true rfl) ⟨Nat.zero_le _, Nat.zero_le _⟩ (by decide +kernel) (fun _ hc65_ => ?_)
  replace hc65_ : c64 r63_ := hc65_
  refine g_st (st2 := [(1, r63_)]) rfl ?_
  refine s_lstore_n C 1 (lo' := [(2, 0), (1, r63_), (9, 0), (9, 0), (9, 0)]) (by decide) (s2n (by decide) s2z) (by decide +kernel) ?_
  refine g_lload_n C 1 rfl (by decide +kernel) ?_
  refine g_ldc2 C (ix := 287) (v := (-1)) lk_1760 (by decide +kernel) ?_
  refine g_lc_ne C (off := 9) (tgt := 19) hc65_ (cL rfl) (by decide +kernel) (by decide +kernel) (by decide) (fun hc66_ => ?_) (fun hc66_ => ?_)
  · replace h := ite_t hc66_ h
    refine g_aload_n C 0 rfl (by decide +kernel) ?_
    refine g_iconst C 2 (cK rfl) (by decide +kernel) ?_
    obtain ⟨r68_, d67_, hr69_, h⟩ := bd_some h
    refine g_callV C mw_Mo_fails [(0, 2)] 0 cl12 rfl (ok_Mo_fails 2 d62_ (cK rfl) hr69_) cd_B0 (by decide) (nB (by decide)) (ix := 420) lk_1938 lk_1940 lkp_72 ⟨rfl, rfl, Nat.le_of_ble_eq_true rfl, Nat.le_of_ble_eq_true rfl⟩ rfl (rest := []) rfl (Nat.le_of_ble_eq_true rfl) ⟨Nat.zero_le _, Nat.zero_le _⟩ (by decide +kernel) (fun _ hc70_ => ?_)
    replace hc70_ : cb r68_ := hc70_
    refine g_st (st2 := [(0, r68_)]) rfl ?_
    obtain ⟨rfl, rfl⟩ := ret_inj h
    exact g_zret C hc70_ hlk hr (by decide +kernel)
  · replace h := ite_f hc66_ h
    refine g_aload_n C 0 rfl (by decide +kernel) ?_
    refine g_getR C cl12 0 46 28 rfl cd_B0 ⟨by decide, rfl, by decide⟩ rfl rfl (nB (by decide)) (ix := 104) lk_1448 (by decide +kernel) ?_
    refine g_aload_n C 0 rfl (by decide +kernel) ?_
    refine g_getI C cl12 0 41 rfl cd_B0 ⟨by decide, rfl, by decide⟩ rfl (nB (by decide)) (ix := 456) lk_1443 (by decide +kernel) (fun hc71_ => ?_)
    obtain ⟨hb72_, h⟩ := ck_some h
    refine g_iald C 28 hc71_ rfl cd_B28 (nB (by decide)) hb72_ (by decide +kernel) (fun hc73_ => ?_)
    refine g_bipush C 20 (by decide) (by decide +kernel) ?_
    refine g_icmp_ne C (off := 9) (tgt := 39) hc73_ (cK rfl) (by decide +kernel) (by decide) (fun hc74_ => ?_) (fun hc74_ => ?_)
    · replace h := ite_t hc74_ h
      refine g_aload_n C 0 rfl (by decide +kernel) ?_
      refine g_iconst C 3 (cK rfl) (by decide +kernel) ?_
      obtain ⟨r76_, d75_, hr77_, h⟩ := bd_some h
      refine g_callV C mw_Mo_fails [(0, 3)] 0 cl12 rfl (ok_Mo_fails 3 d62_ (cK rfl) hr77_) cd_B0 (by decide) (nB (by decide)) (ix := 420) lk_1938 lk_1940 lkp_72 ⟨rfl, rfl, Nat.le_of_ble_eq_true rfl, Nat.le_of_ble_eq_true rfl⟩ rfl (rest := []) rfl (Nat.le_of_ble_eq_true rfl) ⟨Nat.zero_le _, Nat.zero_le _⟩ (by decide +kernel) (fun _ hc78_ => ?_)
      replace hc78_ : cb r76_ := hc78_
      refine g_st (st2 := [(0, r76_)]) rfl ?_
      obtain ⟨rfl, rfl⟩ := ret_inj h
      exact g_zret C hc78_ hlk hr (by decide +kernel)
    · replace h := ite_f hc74_ h
      refine g_bipush C 20 (by decide) (by decide +kernel) ?_
      refine g_aload_n C 0 rfl (by decide +kernel) ?_
      refine g_getI C cl12 0 41 rfl cd_B0 ⟨by decide, rfl, by decide⟩ rfl (nB (by decide)) (ix := 456) lk_1443 (by decide +kernel) (fun hc79_ => ?_)
      refine g_imul C (by decide +kernel) ?_
      refine g_aload_n C 0 rfl (by decide +kernel) ?_
      refine g_getR C cl12 0 46 28 rfl cd_B0 ⟨by decide, rfl, by decide⟩ rfl rfl (nB (by decide)) (ix := 104) lk_1448 (by decide +kernel) ?_
      refine g_aload_n C 0 rfl (by decide +kernel) ?_
      refine g_getI C cl12 0 41 rfl cd_B0 ⟨by decide, rfl, by decide⟩ rfl (nB (by decide)) (ix := 456) lk_1443 (by decide +kernel) (fun hc80_ => ?_)
      obtain ⟨hb81_, h⟩ := ck_some h
      refine g_iald C 28 hc80_ rfl cd_B28 (nB (by decide)) hb81_ (by decide +kernel) (fun hc82_ => ?_)
      refine g_iadd C (by decide +kernel) ?_
      obtain ⟨v83_, ev84_, h⟩ := lt_some h
      refine g_val ev84_.symm ?_
      have hv85_ : c32 v83_ := by rw [ev84_]; exact (w32_c _)
      refine s_istore_n C 3 (lo' := [(2, 0), (1, r63_), (9, 0), (0, v83_), (9, 0)]) (by decide) (s1k (s1k (s1n (by decide) s1z))) (by decide +kernel) ?_
      refine g_bipush C 20 (by decide) (by decide +kernel) ?_
      refine g_aload_n C 0 rfl (by decide +kernel) ?_
      refine g_getI C cl12 0 41 rfl cd_B0 ⟨by decide, rfl, by decide⟩ rfl (nB (by decide)) (ix := 456) lk_1443 (by decide +kernel) (fun hc86_ => ?_)
      refine g_imul C (by decide +kernel) ?_
      obtain ⟨v87_, ev88_, h⟩ := lt_some h
      refine g_val ev88_.symm ?_
      have hv89_ : c32 v87_ := by rw [ev88_]; exact (w32_c _)
      refine s_istore C 4 (lo' := [(2, 0), (1, r63_), (9, 0), (0, v83_), (0, v87_)]) (by decide) (s1k (s1k (s1k (s1n (by decide) s1z)))) (by decide +kernel) ?_
      refine g_sub (lo2 := [(2, 0), (1, r63_), (9, 0), (0, v83_), (0, v87_)]) (lsb_v (lsb_v (lsb_c (lsb_v (lsb_v lsb_e))))) ?_
      obtain ⟨x90_, hx91_, h⟩ := lb_some h
      refine ok_Mo_rule_l66 C r63_ v83_ v87_ d62_ hc65_ hv85_ hv89_ hx91_ (fun v92_ v93_ d94_ eq95_ hv92_ hv93_ => ?_) (fun d127_ eq128_ => ?_)
      · subst eq95_
        replace h := sml_e h
        replace h := u2_e h
        refine g_aload_n C 0 rfl (by decide +kernel) ?_
        refine g_getR C cl12 0 53 35 rfl cd_B0 ⟨by decide, rfl, by decide⟩ rfl rfl (nB (by decide)) (ix := 125) lk_1455 (by decide +kernel) ?_
        refine g_iload_n C 3 rfl (by decide +kernel) ?_
        refine g_lload_n C 1 rfl (by decide +kernel) ?_
        obtain ⟨hb96_, h⟩ := ck_some h
        refine g_last C 35 hv92_ hv93_ rfl cd_B35 (nB (by decide)) hb96_ (by decide +kernel) ?_
        refine g_aload_n C 0 rfl (by decide +kernel) ?_
        refine g_getR C cl12 0 54 36 rfl cd_B0 ⟨by decide, rfl, by decide⟩ rfl rfl (nB (by decide)) (ix := 128) lk_1456 (by decide +kernel) ?_
        refine g_iload_n C 3 rfl (by decide +kernel) ?_
        refine g_ldc2 C (ix := 287) (v := (-1)) lk_1760 (by decide +kernel) ?_
        obtain ⟨hb97_, h⟩ := ck_some h
        refine g_last C 36 (cL rfl) hv93_ rfl cd_B36 (nB (by decide)) hb97_ (by decide +kernel) ?_
        refine g_aload_n C 0 rfl (by decide +kernel) ?_
        obtain ⟨r99_, d98_, hr100_, h⟩ := bd_some h
        refine g_callV C mw_Mo_next [] 0 cl12 rfl (ok_Mo_next  (up2 (up2 d94_ 35 v93_.toNat v92_) 36 v93_.toNat (-1))  hr100_) cd_B0 (by decide) (nB (by decide)) (ix := 423) lk_1861 lk_1863 lkp_67 ⟨rfl, rfl, Nat.le_of_ble_eq_true rfl, Nat.le_of_ble_eq_true rfl⟩ rfl (rest := []) rfl (Nat.le_of_ble_eq_true rfl) ⟨Nat.zero_le _, Nat.zero_le _⟩ (by decide +kernel) (fun _ hc101_ => ?_)
        refine g_st (st2 := []) rfl ?_
        refine g_aload_n C 0 rfl (by decide +kernel) ?_
        refine g_iconst C 0 (cK rfl) (by decide +kernel) ?_
        obtain ⟨r103_, d102_, hr104_, h⟩ := bd_some h
        refine g_callV C mw_Mo_isKey [(0, 0)] 0 cl12 rfl (ok_Mo_isKey 0 d98_ (c32_cb (Or.inl rfl)) hr104_) cd_B0 (by decide) (nB (by decide)) (ix := 441) lk_1942 lk_1944 lkp_73 ⟨rfl, rfl, Nat.le_of_ble_eq_true rfl, Nat.le_of_ble_eq_true rfl⟩ rfl (rest := []) rfl (Nat.le_of_ble_eq_true rfl) ⟨Nat.zero_le _, Nat.zero_le _⟩ (by decide +kernel) (fun _ hc105_ => ?_)
        replace hc105_ : cb r103_ := hc105_
        refine g_st (st2 := [(0, r103_)]) rfl ?_
        refine g_if_eq C (off := 40) (tgt := 161) (c32_cb hc105_) (by decide +kernel) (by decide) (fun hc106_ => ?_) (fun hc106_ => ?_)
        · replace h := ite_t hc106_ h
          refine g_sub (lo2 := [(2, 0), (9, 0), (9, 0), (0, v93_), (9, 0)]) (lsb_v (lsb_c (lsb_c (lsb_v (lsb_c lsb_e))))) ?_
          exact ok_Mo_rule_b161 C hlk hr v93_ d102_ hv93_ h
        · replace h := ite_f hc106_ h
          refine g_aload_n C 0 rfl (by decide +kernel) ?_
          obtain ⟨r108_, d107_, hr109_, h⟩ := bd_some h
          refine g_callV C mw_Mo_next [] 0 cl12 rfl (ok_Mo_next  d102_  hr109_) cd_B0 (by decide) (nB (by decide)) (ix := 423) lk_1861 lk_1863 lkp_67 ⟨rfl, rfl, Nat.le_of_ble_eq_true rfl, Nat.le_of_ble_eq_true rfl⟩ rfl (rest := []) rfl (Nat.le_of_ble_eq_true rfl) ⟨Nat.zero_le _, Nat.zero_le _⟩ (by decide +kernel) (fun _ hc110_ => ?_)
          refine g_st (st2 := []) rfl ?_
          refine g_aload_n C 0 rfl (by decide +kernel) ?_
          refine g_getR C cl12 0 54 36 rfl cd_B0 ⟨by decide, rfl, by decide⟩ rfl rfl (nB (by decide)) (ix := 128) lk_1456 (by decide +kernel) ?_
          refine g_iload_n C 3 rfl (by decide +kernel) ?_
          refine g_aload_n C 0 rfl (by decide +kernel) ?_
          obtain ⟨r112_, d111_, hr113_, h⟩ := bd_some h
          refine g_callV C mw_Mo_labelHere [] 0 cl12 rfl (ok_Mo_labelHere  d107_  hr113_) cd_B0 (by decide) (nB (by decide)) (ix := 452) lk_1880 lk_1882 lkp_70 ⟨rfl, rfl, Nat.le_of_ble_eq_true rfl, Nat.le_of_ble_eq_true rfl⟩ rfl (rest := [(0, v93_), (2, 36)]) rfl (Nat.le_of_ble_eq_true rfl) ⟨Nat.zero_le _, Nat.zero_le _⟩ (by decide +kernel) (fun _ hc114_ => ?_)
          replace hc114_ : c64 r112_ := hc114_
          refine g_st (st2 := [(1, r112_), (0, v93_), (2, 36)]) rfl ?_
          obtain ⟨hb115_, h⟩ := ck_some h
          refine g_last C 36 hc114_ hv93_ rfl cd_B36 (nB (by decide)) hb115_ (by decide +kernel) ?_
          refine g_aload_n C 0 rfl (by decide +kernel) ?_
          refine g_getR C cl12 0 54 36 rfl cd_B0 ⟨by decide, rfl, by decide⟩ rfl rfl (nB (by decide)) (ix := 128) lk_1456 (by decide +kernel) ?_
          refine g_iload_n C 3 rfl (by decide +kernel) ?_
          obtain ⟨hb116_, h⟩ := ck_some h
          refine g_lald C 36 hv93_ rfl cd_B36 (nB (by decide)) hb116_ (by decide +kernel) (fun hc117_ => ?_)
          refine g_ldc2 C (ix := 287) (v := (-1)) lk_1760 (by decide +kernel) ?_
          refine g_lc_ne C (off := 9) (tgt := 157) hc117_ (cL rfl) (by decide +kernel) (by decide +kernel) (by decide) (fun hc118_ => ?_) (fun hc118_ => ?_)
          · replace h := ite_t hc118_ h
            refine g_aload_n C 0 rfl (by decide +kernel) ?_
            refine g_iconst C 2 (cK rfl) (by decide +kernel) ?_
            obtain ⟨r120_, d119_, hr121_, h⟩ := bd_some h
            refine g_callV C mw_Mo_fails [(0, 2)] 0 cl12 rfl (ok_Mo_fails 2 (up2 d111_ 36 v93_.toNat r112_) (cK rfl) hr121_) cd_B0 (by decide) (nB (by decide)) (ix := 420) lk_1938 lk_1940 lkp_72 ⟨rfl, rfl, Nat.le_of_ble_eq_true rfl, Nat.le_of_ble_eq_true rfl⟩ rfl (rest := []) rfl (Nat.le_of_ble_eq_true rfl) ⟨Nat.zero_le _, Nat.zero_le _⟩ (by decide +kernel) (fun _ hc122_ => ?_)
            replace hc122_ : cb r120_ := hc122_
            refine g_st (st2 := [(0, r120_)]) rfl ?_
            obtain ⟨rfl, rfl⟩ := ret_inj h
            exact g_zret C hc122_ hlk hr (by decide +kernel)
          · replace h := ite_f hc118_ h
            refine g_aload_n C 0 rfl (by decide +kernel) ?_
            obtain ⟨r124_, d123_, hr125_, h⟩ := bd_some h
            refine g_callV C mw_Mo_next [] 0 cl12 rfl (ok_Mo_next  (up2 d111_ 36 v93_.toNat r112_)  hr125_) cd_B0 (by decide) (nB (by decide)) (ix := 423) lk_1861 lk_1863 lkp_67 ⟨rfl, rfl, Nat.le_of_ble_eq_true rfl, Nat.le_of_ble_eq_true rfl⟩ rfl (rest := []) rfl (Nat.le_of_ble_eq_true rfl) ⟨Nat.zero_le _, Nat.zero_le _⟩ (by decide +kernel) (fun _ hc126_ => ?_)
            refine g_st (st2 := []) rfl ?_
            refine g_sub (lo2 := [(2, 0), (9, 0), (9, 0), (0, v93_), (9, 0)]) (lsb_v (lsb_c (lsb_c (lsb_v (lsb_c lsb_e))))) ?_
            exact ok_Mo_rule_b161 C hlk hr v93_ d123_ hv93_ h
      · subst eq128_
        replace h := smr_e h
        replace h := u0_e h
        refine g_aload_n C 0 rfl (by decide +kernel) ?_
        refine g_iconst C 4 (cK rfl) (by decide +kernel) ?_
        obtain ⟨r130_, d129_, hr131_, h⟩ := bd_some h
        refine g_callV C mw_Mo_fails [(0, 4)] 0 cl12 rfl (ok_Mo_fails 4 d127_ (cK rfl) hr131_) cd_B0 (by decide) (nB (by decide)) (ix := 420) lk_1938 lk_1940 lkp_72 ⟨rfl, rfl, Nat.le_of_ble_eq_true rfl, Nat.le_of_ble_eq_true rfl⟩ rfl (rest := []) rfl (Nat.le_of_ble_eq_true rfl) ⟨Nat.zero_le _, Nat.zero_le _⟩ (by decide +kernel) (fun _ hc132_ => ?_)
        replace hc132_ : cb r130_ := hc132_
        refine g_st (st2 := [(0, r130_)]) rfl ?_
        obtain ⟨rfl, rfl⟩ := ret_inj h
        exact g_zret C hc132_ hlk hr (by decide +kernel)
/-! PollBooksModel.text(III)I -/
def y_Mo_text : MethodName := ⟨"PollBooksModel", "text", "(III)I"⟩
def rm_Mo_text : Room := { frames := 10, cells := 0, slots := 0, locals := 223 }
theorem mw_Mo_text : MW y_Mo_text prog_14_method_56_code 7 (some .int) 3 := ⟨lk_1860, lk_14, by decide +kernel⟩
def L_Mo_text_y58 (x1 x2 x3 x4 : Int) (d : Dt) : Option ((Int × Int × Int × Int × Dt) ⊕ ((Int × Int × Dt))) :=
  if x4 < x1 then ck ((0 : Int) ≤ x4 ∧ x4 < 600) (ck ((0 : Int) ≤ x4 ∧ x4 < 600) (some (Sum.inl (x1, x2, x3, (w32 (x4 + 1)), (up2 d 25 x4.toNat (w8 (d 24 x4.toNat))))))) else some (Sum.inr (x2, x3, d))
def L_Mo_text_l58 (x1 x2 x3 x4 : Int) (d : Dt) : Option ((Int × Int × Dt)) := lpF (fun q : Int × Int × Int × Int × Dt => L_Mo_text_y58 q.1 q.2.1 q.2.2.1 q.2.2.2.1 q.2.2.2.2) FU (x1, x2, x3, x4, d)
def L_Mo_text_y130 (x2 x3 x4 x5 : Int) (d : Dt) : Option ((Int × Int × Int × Int × Dt) ⊕ ((Int × Int × Int × Int × Dt))) :=
  if (d 0 34) = 0 then some (Sum.inr (x2, x3, x4, x5, d)) else if (d 0 40) = 0 then bd (L_Mo_rule d) (fun r10_ d9_ => if r10_ = 0 then some (Sum.inl (x2, x3, x4, x5, (up2 d9_ 0 40 (jmax 1 (d9_ 0 40))))) else some (Sum.inl (x2, x3, x4, x5, d9_))) else some (Sum.inr (x2, x3, x4, x5, d))
def L_Mo_text_l130 (x2 x3 x4 x5 : Int) (d : Dt) : Option ((Int × Int × Int × Int × Dt)) := lpF (fun q : Int × Int × Int × Int × Dt => L_Mo_text_y130 q.1 q.2.1 q.2.2.1 q.2.2.2.1 q.2.2.2.2) FU (x2, x3, x4, x5, d)
def L_Mo_text_b30 (d : Dt) : Option (Int × Dt) :=
  bd (L_Mo_refuse 1 d) (fun r16_ d15_ => some (r16_, d15_))
def L_Mo_text_b170 (x2 x3 x4 x5 : Int) (d : Dt) : Option (Int × Dt) :=
  if 0 < (d 0 40) then bd (L_Mo_refuse 9 (up2 (up2 (up2 d 0 38 (d 0 40)) 0 42 x4) 0 43 x5)) (fun r23_ d22_ => some (r23_, d22_)) else ck ((0 : Int) ≤ (d 0 41) ∧ (d 0 41) < 6) (ck ((0 : Int) ≤ (d 0 41) ∧ (d 0 41) < 6) (ck ((0 : Int) ≤ (w32 ((w32 ((d 0 41) + 1)) - 1)) ∧ (w32 ((w32 ((d 0 41) + 1)) - 1)) < 6) (bd (L_Mo_gives (d 28 ((w32 ((w32 ((d 0 41) + 1)) - 1))).toNat) (up2 (up2 (up2 (up2 d 0 38 (d 0 40)) 26 ((d 0 41)).toNat x2) 27 ((d 0 41)).toNat x3) 0 41 (w32 ((d 0 41) + 1)))) (fun r35_ d34_ => some (r35_, d34_)))))
def L_Mo_text (p1 p2 p3 : Int) (d : Dt) : Option (Int × Dt) :=
  if p1 < 0 then L_Mo_text_b30 d else if (d 0 32) < p1 then L_Mo_text_b30 d else bd (L_Mo_isDay p2 d) (fun r42_ d41_ => if r42_ = 0 then L_Mo_text_b30 d41_ else if p3 < 1 then L_Mo_text_b30 d41_ else if 127 < p3 then L_Mo_text_b30 d41_ else if (d41_ 0 41) = 5 then bd (L_Mo_refuse 4 d41_) (fun r51_ d50_ => some (r51_, d50_)) else lb (L_Mo_text_l58 p1 p2 p3 0 (up2 d41_ 0 33 p1)) (fun q83_ => u2 q83_ (fun v56_ v57_ d58_ => ck ((0 : Int) ≤ (d58_ 0 41) ∧ (d58_ 0 41) < 6) (lt_ (d58_ 0 42) (fun v63_ => lt_ (d58_ 0 43) (fun v67_ => bd (L_Mo_next (up2 (up2 (up2 (up2 (up2 d58_ 0 32 0) 0 40 0) 0 39 (-1)) 0 36 0) 28 ((d58_ 0 41)).toNat 0)) (fun r71_ d70_ => lb (L_Mo_text_l130 v56_ v57_ v63_ v67_ d70_) (fun q82_ => u4 q82_ (fun v76_ v77_ v78_ v79_ d80_ => L_Mo_text_b170 v76_ v77_ v78_ v79_ d80_)))))))))
set_option maxHeartbeats 4000000 in
theorem ok_Mo_text_y58 {p : Program} {l : Launch} {e : Env} {s : State} {m : MethodId} {args : Array Value} {below : List Frame} {meth : Method} {c : Code} {D : va_G} {cA : Nat → ClassId} {ad : Nat → Nat} {A : Nat → Prop} (C : Cx p s m args c prog_14_method_56_code 7 "PollBooksModel" D cA ad 1 A) {Q : State → Prop} {o : (Int × Int × Int × Int × Dt) ⊕ ((Int × Int × Dt))} (x1 x2 x3 x4 : Int) (d : Dt) (hx1 : c32 x1) (hx2 : c32 x2) (hx3 : c32 x3) (hx4 : c32 x4) (h : L_Mo_text_y58 x1 x2 x3 x4 d = some o) (kb : ∀ (y0 y1 y2 y3 : Int) (e' : Dt), o = .inl (y0, y1, y2, y3, e') → c32 y0 → c32 y1 → c32 y2 → c32 y3 → G p l e rm_Mo_text s m args below meth c 0 0 Q 7 D cA ad 1 A 58 [(2, 0), (0, y0), (0, y1), (0, y2), (0, y3), (9, 0), (9, 0)] [] e') (k0 : ∀ (y0 y1 : Int) (e' : Dt), o = .inr (y0, y1, e') → c32 y0 → c32 y1 → G p l e rm_Mo_text s m args below meth c 0 0 Q 7 D cA ad 1 A 84 [(2, 0), (9, 0), (0, y0), (0, y1), (9, 0), (9, 0), (9, 0)] [] e') : G p l e rm_Mo_text s m args below meth c 0 0 Q 7 D cA ad 1 A 58 [(2, 0), (0, x1), (0, x2), (0, x3), (0, x4), (9, 0), (9, 0)] [] d := by
  unfold L_Mo_text_y58 at h
  refine g_iload C 4 rfl (by decide +kernel) ?_
  refine g_iload_n C 1 rfl (by decide +kernel) ?_
  refine g_icmp_ge C (off := 23) (tgt := 84) hx4 hx1 (by decide +kernel) (by decide) (fun hc1_ => ?_) (fun hc1_ => ?_)
  · replace h := ite_t hc1_ h
    refine g_aload_n C 0 rfl (by decide +kernel) ?_
    refine g_getR C cl12 0 31 25 rfl cd_B0 ⟨by decide, rfl, by decide⟩ rfl rfl (nB (by decide)) (ix := 89) lk_1433 (by decide +kernel) ?_
    refine g_iload C 4 rfl (by decide +kernel) ?_
    refine g_aload_n C 0 rfl (by decide +kernel) ?_
    refine g_getR C cl12 0 30 24 rfl cd_B0 ⟨by decide, rfl, by decide⟩ rfl rfl (nB (by decide)) (ix := 85) lk_1432 (by decide +kernel) ?_
    refine g_iload C 4 rfl (by decide +kernel) ?_
    obtain ⟨hb2_, h⟩ := ck_some h
    refine g_bald C 24 hx4 rfl cd_B24 (nB (by decide)) hb2_ (by decide +kernel) (fun hc3_ => ?_)
    obtain ⟨hb4_, h⟩ := ck_some h
    refine g_bast C 25 (c32_b hc3_) hx4 rfl cd_B25 (nB (by decide)) hb4_ (by decide +kernel) ?_
    refine s_iinc C 4 1 (lo' := [(2, 0), (0, x1), (0, x2), (0, x3), (0, (w32 (x4 + 1))), (9, 0), (9, 0)]) rfl (by decide) (s1k (s1k (s1k (s1n (by decide) s1z)))) (by decide +kernel) ?_
    refine g_goto C 58 (off := (-23)) (by decide +kernel) (by decide) ?_
    refine g_sub (lo2 := [(2, 0), (0, x1), (0, x2), (0, x3), (0, (w32 (x4 + 1))), (9, 0), (9, 0)]) (lsb_v (lsb_v (lsb_v (lsb_v (lsb_v (lsb_c (lsb_c lsb_e))))))) ?_
    obtain rfl := Option.some.inj h
    exact kb x1 x2 x3 (w32 (x4 + 1)) (up2 d 25 x4.toNat (w8 (d 24 x4.toNat))) rfl hx1 hx2 hx3 (w32_c _)
  · replace h := ite_f hc1_ h
    refine g_sub (lo2 := [(2, 0), (9, 0), (0, x2), (0, x3), (9, 0), (9, 0), (9, 0)]) (lsb_v (lsb_c (lsb_v (lsb_v (lsb_c (lsb_c (lsb_c lsb_e))))))) ?_
    obtain rfl := Option.some.inj h
    exact k0 x2 x3 d rfl hx2 hx3
set_option maxHeartbeats 4000000 in
theorem ok_Mo_text_n58 {p : Program} {l : Launch} {e : Env} {s : State} {m : MethodId} {args : Array Value} {below : List Frame} {meth : Method} {c : Code} {D : va_G} {cA : Nat → ClassId} {ad : Nat → Nat} {A : Nat → Prop} (C : Cx p s m args c prog_14_method_56_code 7 "PollBooksModel" D cA ad 1 A) {Q : State → Prop} {x : (Int × Int × Dt)} : ∀ (n : Nat) (x1 x2 x3 x4 : Int) (d : Dt), c32 x1 → c32 x2 → c32 x3 → c32 x4 → lpF (fun q : Int × Int × Int × Int × Dt => L_Mo_text_y58 q.1 q.2.1 q.2.2.1 q.2.2.2.1 q.2.2.2.2) n (x1, x2, x3, x4, d) = some x → (∀ (y0 y1 : Int) (e' : Dt), x = (y0, y1, e') → c32 y0 → c32 y1 → G p l e rm_Mo_text s m args below meth c 0 0 Q 7 D cA ad 1 A 84 [(2, 0), (9, 0), (0, y0), (0, y1), (9, 0), (9, 0), (9, 0)] [] e') → G p l e rm_Mo_text s m args below meth c 0 0 Q 7 D cA ad 1 A 58 [(2, 0), (0, x1), (0, x2), (0, x3), (0, x4), (9, 0), (9, 0)] [] d := by
  intro n
  induction n with
  | zero => intro x1 x2 x3 x4 d g0 g1 g2 g3 h k0; cases h
  | succ n ih =>
    intro x1 x2 x3 x4 d g0 g1 g2 g3 h k0
    rcases lpF_some h with h | ⟨⟨v0_, v1_, v2_, v3_, e0_⟩, h1, h⟩
    · exact ok_Mo_text_y58 C x1 x2 x3 x4 d g0 g1 g2 g3 h (fun z0_ z1_ z2_ z3_ e1_ eq w0_ w1_ w2_ w3_ => by cases eq) (fun z0_ z1_ e1_ eq w0_ w1_ => k0 _ _ _ (by cases eq; rfl) w0_ w1_)
    · exact ok_Mo_text_y58 C x1 x2 x3 x4 d g0 g1 g2 g3 h1 (fun z0_ z1_ z2_ z3_ e1_ eq w0_ w1_ w2_ w3_ => by cases eq; exact ih _ _ _ _ _ w0_ w1_ w2_ w3_ h k0) (fun z0_ z1_ e1_ eq w0_ w1_ => by cases eq)
set_option maxHeartbeats 4000000 in
theorem ok_Mo_text_l58 {p : Program} {l : Launch} {e : Env} {s : State} {m : MethodId} {args : Array Value} {below : List Frame} {meth : Method} {c : Code} {D : va_G} {cA : Nat → ClassId} {ad : Nat → Nat} {A : Nat → Prop} (C : Cx p s m args c prog_14_method_56_code 7 "PollBooksModel" D cA ad 1 A) {Q : State → Prop} {x : (Int × Int × Dt)} (x1 x2 x3 x4 : Int) (d : Dt) (hx1 : c32 x1) (hx2 : c32 x2) (hx3 : c32 x3) (hx4 : c32 x4) (h : L_Mo_text_l58 x1 x2 x3 x4 d = some x) (k0 : ∀ (y0 y1 : Int) (e' : Dt), x = (y0, y1, e') → c32 y0 → c32 y1 → G p l e rm_Mo_text s m args below meth c 0 0 Q 7 D cA ad 1 A 84 [(2, 0), (9, 0), (0, y0), (0, y1), (9, 0), (9, 0), (9, 0)] [] e') : G p l e rm_Mo_text s m args below meth c 0 0 Q 7 D cA ad 1 A 58 [(2, 0), (0, x1), (0, x2), (0, x3), (0, x4), (9, 0), (9, 0)] [] d :=
  ok_Mo_text_n58 C FU x1 x2 x3 x4 d hx1 hx2 hx3 hx4 h k0
set_option maxHeartbeats 4000000 in
theorem ok_Mo_text_y130 {p : Program} {l : Launch} {e : Env} {s : State} {m : MethodId} {args : Array Value} {below : List Frame} {meth : Method} {c : Code} {D : va_G} {cA : Nat → ClassId} {ad : Nat → Nat} {A : Nat → Prop} (C : Cx p s m args c prog_14_method_56_code 7 "PollBooksModel" D cA ad 1 A) {Q : State → Prop} {o : (Int × Int × Int × Int × Dt) ⊕ ((Int × Int × Int × Int × Dt))} (x2 x3 x4 x5 : Int) (d : Dt) (hx2 : c32 x2) (hx3 : c32 x3) (hx4 : c32 x4) (hx5 : c32 x5) (h : L_Mo_text_y130 x2 x3 x4 x5 d = some o) (kb : ∀ (y0 y1 y2 y3 : Int) (e' : Dt), o = .inl (y0, y1, y2, y3, e') → c32 y0 → c32 y1 → c32 y2 → c32 y3 → G p l e rm_Mo_text s m args below meth c 0 0 Q 7 D cA ad 1 A 130 [(2, 0), (9, 0), (0, y0), (0, y1), (0, y2), (0, y3), (9, 0)] [] e') (k0 : ∀ (y0 y1 y2 y3 : Int) (e' : Dt), o = .inr (y0, y1, y2, y3, e') → c32 y0 → c32 y1 → c32 y2 → c32 y3 → G p l e rm_Mo_text s m args below meth c 0 0 Q 7 D cA ad 1 A 170 [(2, 0), (9, 0), (0, y0), (0, y1), (0, y2), (0, y3), (9, 0)] [] e') : G p l e rm_Mo_text s m args below meth c 0 0 Q 7 D cA ad 1 A 130 [(2, 0), (9, 0), (0, x2), (0, x3), (0, x4), (0, x5), (9, 0)] [] d := by
  unfold L_Mo_text_y130 at h
  refine g_aload_n C 0 rfl (by decide +kernel) ?_
  refine g_getI C cl12 0 34 rfl cd_B0 ⟨by decide, rfl, by decide⟩ rfl (nB (by decide)) (ix := 388) lk_1436 (by decide +kernel) (fun hc5_ => ?_)
  refine g_if_eq C (off := 36) (tgt := 170) hc5_ (by decide +kernel) (by decide) (fun hc6_ => ?_) (fun hc6_ => ?_)
  · replace h := ite_t hc6_ h
    refine g_sub (lo2 := [(2, 0), (9, 0), (0, x2), (0, x3), (0, x4), (0, x5), (9, 0)]) (lsb_v (lsb_c (lsb_v (lsb_v (lsb_v (lsb_v (lsb_c lsb_e))))))) ?_
    obtain rfl := Option.some.inj h
    exact k0 x2 x3 x4 x5 d rfl hx2 hx3 hx4 hx5
  · replace h := ite_f hc6_ h
    refine g_aload_n C 0 rfl (by decide +kernel) ?_
    refine g_getI C cl12 0 40 rfl cd_B0 ⟨by decide, rfl, by decide⟩ rfl (nB (by decide)) (ix := 414) lk_1442 (by decide +kernel) (fun hc7_ => ?_)
    refine g_if_ne C (off := 29) (tgt := 170) hc7_ (by decide +kernel) (by decide) (fun hc8_ => ?_) (fun hc8_ => ?_)
    · replace h := ite_t hc8_ h
      refine g_aload_n C 0 rfl (by decide +kernel) ?_
      obtain ⟨r10_, d9_, hr11_, h⟩ := bd_some h
      refine g_callV C mw_Mo_rule [] 0 cl12 rfl (ok_Mo_rule  d  hr11_) cd_B0 (by decide) (nB (by decide)) (ix := 475) lk_1876 lk_1878 lkp_69 ⟨rfl, rfl, Nat.le_of_ble_eq_true rfl, Nat.le_of_ble_eq_true rfl⟩ rfl (rest := []) rfl (Nat.le_of_ble_eq_true rfl) ⟨Nat.zero_le _, Nat.zero_le _⟩ (by decide +kernel) (fun _ hc12_ => ?_)
      replace hc12_ : cb r10_ := hc12_
      refine g_st (st2 := [(0, r10_)]) rfl ?_
      refine s_istore C 6 (lo' := [(2, 0), (9, 0), (0, x2), (0, x3), (0, x4), (0, x5), (0, r10_)]) (by decide) (s1k (s1k (s1k (s1k (s1k (s1n (by decide) s1z)))))) (by decide +kernel) ?_
      refine g_iload C 6 rfl (by decide +kernel) ?_
      refine g_if_ne C (off := 15) (tgt := 167) (c32_cb hc12_) (by decide +kernel) (by decide) (fun hc13_ => ?_) (fun hc13_ => ?_)
      · replace h := ite_t hc13_ h
        refine g_aload_n C 0 rfl (by decide +kernel) ?_
        refine g_iconst C 1 (cK rfl) (by decide +kernel) ?_
        refine g_aload_n C 0 rfl (by decide +kernel) ?_
        refine g_getI C cl12 0 40 rfl cd_B0 ⟨by decide, rfl, by decide⟩ rfl (nB (by decide)) (ix := 414) lk_1442 (by decide +kernel) (fun hc14_ => ?_)
        refine g_mmax C (c32_cb (Or.inr rfl)) hc14_ (ix := 356) lk_1842 lk_1843 lk_16 lk_1844 ⟨Nat.le_of_ble_eq_true rfl, Nat.le_of_ble_eq_true rfl, Nat.zero_le _, Nat.zero_le _⟩ (Nat.le_of_ble_eq_true rfl) (by decide +kernel) ?_
        refine g_putI C cl12 0 40 (jmax_c (c32_cb (Or.inr rfl)) hc14_) rfl cd_B0 ⟨by decide, rfl, by decide⟩ rfl (nB (by decide)) (ix := 414) lk_1442 rfl rfl (by decide +kernel) ?_
        refine g_goto C 130 (off := (-37)) (by decide +kernel) (by decide) ?_
        refine g_sub (lo2 := [(2, 0), (9, 0), (0, x2), (0, x3), (0, x4), (0, x5), (9, 0)]) (lsb_v (lsb_c (lsb_v (lsb_v (lsb_v (lsb_v (lsb_c lsb_e))))))) ?_
        obtain rfl := Option.some.inj h
        exact kb x2 x3 x4 x5 (up2 d9_ 0 40 (jmax 1 (d9_ 0 40))) rfl hx2 hx3 hx4 hx5
      · replace h := ite_f hc13_ h
        refine g_goto C 130 (off := (-37)) (by decide +kernel) (by decide) ?_
        refine g_sub (lo2 := [(2, 0), (9, 0), (0, x2), (0, x3), (0, x4), (0, x5), (9, 0)]) (lsb_v (lsb_c (lsb_v (lsb_v (lsb_v (lsb_v (lsb_c lsb_e))))))) ?_
        obtain rfl := Option.some.inj h
        exact kb x2 x3 x4 x5 d9_ rfl hx2 hx3 hx4 hx5
    · replace h := ite_f hc8_ h
      refine g_sub (lo2 := [(2, 0), (9, 0), (0, x2), (0, x3), (0, x4), (0, x5), (9, 0)]) (lsb_v (lsb_c (lsb_v (lsb_v (lsb_v (lsb_v (lsb_c lsb_e))))))) ?_
      obtain rfl := Option.some.inj h
      exact k0 x2 x3 x4 x5 d rfl hx2 hx3 hx4 hx5
set_option maxHeartbeats 4000000 in
theorem ok_Mo_text_n130 {p : Program} {l : Launch} {e : Env} {s : State} {m : MethodId} {args : Array Value} {below : List Frame} {meth : Method} {c : Code} {D : va_G} {cA : Nat → ClassId} {ad : Nat → Nat} {A : Nat → Prop} (C : Cx p s m args c prog_14_method_56_code 7 "PollBooksModel" D cA ad 1 A) {Q : State → Prop} {x : (Int × Int × Int × Int × Dt)} : ∀ (n : Nat) (x2 x3 x4 x5 : Int) (d : Dt), c32 x2 → c32 x3 → c32 x4 → c32 x5 → lpF (fun q : Int × Int × Int × Int × Dt => L_Mo_text_y130 q.1 q.2.1 q.2.2.1 q.2.2.2.1 q.2.2.2.2) n (x2, x3, x4, x5, d) = some x → (∀ (y0 y1 y2 y3 : Int) (e' : Dt), x = (y0, y1, y2, y3, e') → c32 y0 → c32 y1 → c32 y2 → c32 y3 → G p l e rm_Mo_text s m args below meth c 0 0 Q 7 D cA ad 1 A 170 [(2, 0), (9, 0), (0, y0), (0, y1), (0, y2), (0, y3), (9, 0)] [] e') → G p l e rm_Mo_text s m args below meth c 0 0 Q 7 D cA ad 1 A 130 [(2, 0), (9, 0), (0, x2), (0, x3), (0, x4), (0, x5), (9, 0)] [] d := by
  intro n
  induction n with
  | zero => intro x2 x3 x4 x5 d g0 g1 g2 g3 h k0; cases h
  | succ n ih =>
    intro x2 x3 x4 x5 d g0 g1 g2 g3 h k0
    rcases lpF_some h with h | ⟨⟨v0_, v1_, v2_, v3_, e0_⟩, h1, h⟩
    · exact ok_Mo_text_y130 C x2 x3 x4 x5 d g0 g1 g2 g3 h (fun z0_ z1_ z2_ z3_ e1_ eq w0_ w1_ w2_ w3_ => by cases eq) (fun z0_ z1_ z2_ z3_ e1_ eq w0_ w1_ w2_ w3_ => k0 _ _ _ _ _ (by cases eq; rfl) w0_ w1_ w2_ w3_)
    · exact ok_Mo_text_y130 C x2 x3 x4 x5 d g0 g1 g2 g3 h1 (fun z0_ z1_ z2_ z3_ e1_ eq w0_ w1_ w2_ w3_ => by cases eq; exact ih _ _ _ _ _ w0_ w1_ w2_ w3_ h k0) (fun z0_ z1_ z2_ z3_ e1_ eq w0_ w1_ w2_ w3_ => by cases eq)
set_option maxHeartbeats 4000000 in
theorem ok_Mo_text_l130 {p : Program} {l : Launch} {e : Env} {s : State} {m : MethodId} {args : Array Value} {below : List Frame} {meth : Method} {c : Code} {D : va_G} {cA : Nat → ClassId} {ad : Nat → Nat} {A : Nat → Prop} (C : Cx p s m args c prog_14_method_56_code 7 "PollBooksModel" D cA ad 1 A) {Q : State → Prop} {x : (Int × Int × Int × Int × Dt)} (x2 x3 x4 x5 : Int) (d : Dt) (hx2 : c32 x2) (hx3 : c32 x3) (hx4 : c32 x4) (hx5 : c32 x5) (h : L_Mo_text_l130 x2 x3 x4 x5 d = some x) (k0 : ∀ (y0 y1 y2 y3 : Int) (e' : Dt), x = (y0, y1, y2, y3, e') → c32 y0 → c32 y1 → c32 y2 → c32 y3 → G p l e rm_Mo_text s m args below meth c 0 0 Q 7 D cA ad 1 A 170 [(2, 0), (9, 0), (0, y0), (0, y1), (0, y2), (0, y3), (9, 0)] [] e') : G p l e rm_Mo_text s m args below meth c 0 0 Q 7 D cA ad 1 A 130 [(2, 0), (9, 0), (0, x2), (0, x3), (0, x4), (0, x5), (9, 0)] [] d :=
  ok_Mo_text_n130 C FU x2 x3 x4 x5 d hx2 hx3 hx4 hx5 h k0
set_option maxHeartbeats 4000000 in
theorem ok_Mo_text_b30 {p : Program} {l : Launch} {e : Env} {s : State} {m : MethodId} {args : Array Value} {below : List Frame} {meth : Method} {c : Code} {D : va_G} {cA : Nat → ClassId} {ad : Nat → Nat} {A : Nat → Prop} (C : Cx p s m args c prog_14_method_56_code 7 "PollBooksModel" D cA ad 1 A) (hlk : meth.locks = false) (hr : meth.sig.returnType = (some .int)) {r : Int} {d' : Dt} (d : Dt)  (h : L_Mo_text_b30 d = some (r, d')) : G p l e rm_Mo_text s m args below meth c 0 0 (MQ below (fun _ => QC D cA ad 1 A (some .int) (some (0, r)) d') args s 0 0 A) 7 D cA ad 1 A 30 [(2, 0), (9, 0), (9, 0), (9, 0), (9, 0), (9, 0), (9, 0)] [] d := by
  unfold L_Mo_text_b30 at h
  refine g_aload_n C 0 rfl (by decide +kernel) ?_
  refine g_iconst C 1 (cK rfl) (by decide +kernel) ?_
  obtain ⟨r16_, d15_, hr17_, h⟩ := bd_some h
  refine g_callV C mw_Mo_refuse [(0, 1)] 0 cl12 rfl (ok_Mo_refuse 1 d (c32_cb (Or.inr rfl)) hr17_) cd_B0 (by decide) (nB (by decide)) (ix := 316) lk_1787 lk_1789 lkp_61 ⟨rfl, rfl, Nat.le_of_ble_eq_true rfl, Nat.le_of_ble_eq_true rfl⟩ rfl (rest := []) rfl (Nat.le_of_ble_eq_true rfl) ⟨Nat.zero_le _, Nat.zero_le _⟩ (by decide +kernel) (fun _ hc18_ => ?_)
  replace hc18_ : c32 r16_ := hc18_
  refine g_st (st2 := [(0, r16_)]) rfl ?_
  obtain ⟨rfl, rfl⟩ := ret_inj h
  exact g_iret C hc18_ hlk hr (by decide +kernel)
set_option maxHeartbeats 4000000 in
theorem ok_Mo_text_b170 {p : Program} {l : Launch} {e : Env} {s : State} {m : MethodId} {args : Array Value} {below : List Frame} {meth : Method} {c : Code} {D : va_G} {cA : Nat → ClassId} {ad : Nat → Nat} {A : Nat → Prop} (C : Cx p s m args c prog_14_method_56_code 7 "PollBooksModel" D cA ad 1 A) (hlk : meth.locks = false) (hr : meth.sig.returnType = (some .int)) {r : Int} {d' : Dt} (x2 x3 x4 x5 : Int) (d : Dt) (hx2 : c32 x2) (hx3 : c32 x3) (hx4 : c32 x4) (hx5 : c32 x5) (h : L_Mo_text_b170 x2 x3 x4 x5 d = some (r, d')) : G p l e rm_Mo_text s m args below meth c 0 0 (MQ below (fun _ => QC D cA ad 1 A (some .int) (some (0, r)) d') args s 0 0 A) 7 D cA ad 1 A 170 [(2, 0), (9, 0), (0, x2), (0, x3), (0, x4), (0, x5), (9, 0)] [] d := by
  unfold L_Mo_text_b170 at h
  refine g_aload_n C 0 rfl (by decide +kernel) ?_
  refine g_aload_n C 0 rfl (by decide +kernel) ?_
  refine g_getI C cl12 0 40 rfl cd_B0 ⟨by decide, rfl, by decide⟩ rfl (nB (by decide)) (ix := 414) lk_1442 (by decide +kernel) (fun hc19_ => ?_)
  refine g_putI C cl12 0 38 hc19_ rfl cd_B0 ⟨by decide, rfl, by decide⟩ rfl (nB (by decide)) (ix := 92) lk_1440 rfl rfl (by decide +kernel) ?_
  refine g_aload_n C 0 rfl (by decide +kernel) ?_
  refine g_getI C cl12 0 40 rfl cd_B0 ⟨by decide, rfl, by decide⟩ rfl (nB (by decide)) (ix := 414) lk_1442 (by decide +kernel) (fun hc20_ => ?_)
  refine g_val (y := (d 0 40)) rfl ?_
  replace hc20_ : c32 (d 0 40) := hc20_
  refine g_if_le C (off := 22) (tgt := 204) hc20_ (by decide +kernel) (by decide) (fun hc21_ => ?_) (fun hc21_ => ?_)
  · replace h := ite_t hc21_ h
    refine g_aload_n C 0 rfl (by decide +kernel) ?_
    refine g_iload C 4 rfl (by decide +kernel) ?_
    refine g_putI C cl12 0 42 hx4 rfl cd_B0 ⟨by decide, rfl, by decide⟩ rfl (nB (by decide)) (ix := 426) lk_1444 rfl rfl (by decide +kernel) ?_
    refine g_aload_n C 0 rfl (by decide +kernel) ?_
    refine g_iload C 5 rfl (by decide +kernel) ?_
    refine g_putI C cl12 0 43 hx5 rfl cd_B0 ⟨by decide, rfl, by decide⟩ rfl (nB (by decide)) (ix := 438) lk_1445 rfl rfl (by decide +kernel) ?_
    refine g_aload_n C 0 rfl (by decide +kernel) ?_
    refine g_bipush C 9 (by decide) (by decide +kernel) ?_
    obtain ⟨r23_, d22_, hr24_, h⟩ := bd_some h
    refine g_callV C mw_Mo_refuse [(0, 9)] 0 cl12 rfl (ok_Mo_refuse 9 (up2 (up2 (up2 d 0 38 (d 0 40)) 0 42 x4) 0 43 x5) (cK rfl) hr24_) cd_B0 (by decide) (nB (by decide)) (ix := 316) lk_1787 lk_1789 lkp_61 ⟨rfl, rfl, Nat.le_of_ble_eq_true rfl, Nat.le_of_ble_eq_true rfl⟩ rfl (rest := []) rfl (Nat.le_of_ble_eq_true rfl) ⟨Nat.zero_le _, Nat.zero_le _⟩ (by decide +kernel) (fun _ hc25_ => ?_)
    replace hc25_ : c32 r23_ := hc25_
    refine g_st (st2 := [(0, r23_)]) rfl ?_
    obtain ⟨rfl, rfl⟩ := ret_inj h
    exact g_iret C hc25_ hlk hr (by decide +kernel)
  · replace h := ite_f hc21_ h
    refine g_aload_n C 0 rfl (by decide +kernel) ?_
    refine g_getR C cl12 0 44 26 rfl cd_B0 ⟨by decide, rfl, by decide⟩ rfl rfl (nB (by decide)) (ix := 98) lk_1446 (by decide +kernel) ?_
    refine g_aload_n C 0 rfl (by decide +kernel) ?_
    refine g_getI C cl12 0 41 rfl cd_B0 ⟨by decide, rfl, by decide⟩ rfl (nB (by decide)) (ix := 456) lk_1443 (by decide +kernel) (fun hc26_ => ?_)
    refine g_val (y := (d 0 41)) rfl ?_
    replace hc26_ : c32 (d 0 41) := hc26_
    refine g_iload_n C 2 rfl (by decide +kernel) ?_
    obtain ⟨hb27_, h⟩ := ck_some h
    refine g_iast C 26 hx2 hc26_ rfl cd_B26 (nB (by decide)) hb27_ (by decide +kernel) ?_
    refine g_aload_n C 0 rfl (by decide +kernel) ?_
    refine g_getR C cl12 0 45 27 rfl cd_B0 ⟨by decide, rfl, by decide⟩ rfl rfl (nB (by decide)) (ix := 101) lk_1447 (by decide +kernel) ?_
    refine g_aload_n C 0 rfl (by decide +kernel) ?_
    refine g_getI C cl12 0 41 rfl cd_B0 ⟨by decide, rfl, by decide⟩ rfl (nB (by decide)) (ix := 456) lk_1443 (by decide +kernel) (fun hc28_ => ?_)
    refine g_val (y := (d 0 41)) rfl ?_
    replace hc28_ : c32 (d 0 41) := hc28_
    refine g_iload_n C 3 rfl (by decide +kernel) ?_
    obtain ⟨hb29_, h⟩ := ck_some h
    refine g_iast C 27 hx3 hc28_ rfl cd_B27 (nB (by decide)) hb29_ (by decide +kernel) ?_
    refine g_aload_n C 0 rfl (by decide +kernel) ?_
    refine g_dup C tg2 (by decide +kernel) ?_
    refine g_getI C cl12 0 41 rfl cd_B0 ⟨by decide, rfl, by decide⟩ rfl (nB (by decide)) (ix := 456) lk_1443 (by decide +kernel) (fun hc30_ => ?_)
    refine g_val (y := (d 0 41)) rfl ?_
    replace hc30_ : c32 (d 0 41) := hc30_
    refine g_iconst C 1 (cK rfl) (by decide +kernel) ?_
    refine g_iadd C (by decide +kernel) ?_
    refine g_putI C cl12 0 41 (w32_c _) rfl cd_B0 ⟨by decide, rfl, by decide⟩ rfl (nB (by decide)) (ix := 456) lk_1443 rfl rfl (by decide +kernel) ?_
    refine g_aload_n C 0 rfl (by decide +kernel) ?_
    refine g_aload_n C 0 rfl (by decide +kernel) ?_
    refine g_getR C cl12 0 46 28 rfl cd_B0 ⟨by decide, rfl, by decide⟩ rfl rfl (nB (by decide)) (ix := 104) lk_1448 (by decide +kernel) ?_
    refine g_aload_n C 0 rfl (by decide +kernel) ?_
    refine g_getI C cl12 0 41 rfl cd_B0 ⟨by decide, rfl, by decide⟩ rfl (nB (by decide)) (ix := 456) lk_1443 (by decide +kernel) (fun hc31_ => ?_)
    refine g_val (y := (w32 ((d 0 41) + 1))) rfl ?_
    replace hc31_ : c32 (w32 ((d 0 41) + 1)) := hc31_
    refine g_iconst C 1 (cK rfl) (by decide +kernel) ?_
    refine g_isub C (by decide +kernel) ?_
    obtain ⟨hb32_, h⟩ := ck_some h
    refine g_iald C 28 (w32_c _) rfl cd_B28 (nB (by decide)) hb32_ (by decide +kernel) (fun hc33_ => ?_)
    refine g_val (y := (d 28 ((w32 ((w32 ((d 0 41) + 1)) - 1))).toNat)) rfl ?_
    replace hc33_ : c32 (d 28 ((w32 ((w32 ((d 0 41) + 1)) - 1))).toNat) := hc33_
    obtain ⟨r35_, d34_, hr36_, h⟩ := bd_some h
    refine g_callV C mw_Mo_gives [(0, (d 28 ((w32 ((w32 ((d 0 41) + 1)) - 1))).toNat))] 0 cl12 rfl (ok_Mo_gives (d 28 ((w32 ((w32 ((d 0 41) + 1)) - 1))).toNat) (up2 (up2 (up2 (up2 d 0 38 (d 0 40)) 26 ((d 0 41)).toNat x2) 27 ((d 0 41)).toNat x3) 0 41 (w32 ((d 0 41) + 1))) hc33_ hr36_) cd_B0 (by decide) (nB (by decide)) (ix := 312) lk_1783 lk_1785 lkp_60 ⟨rfl, rfl, Nat.le_of_ble_eq_true rfl, Nat.le_of_ble_eq_true rfl⟩ rfl (rest := []) rfl (Nat.le_of_ble_eq_true rfl) ⟨Nat.zero_le _, Nat.zero_le _⟩ (by decide +kernel) (fun _ hc37_ => ?_)
    replace hc37_ : c32 r35_ := hc37_
    refine g_st (st2 := [(0, r35_)]) rfl ?_
    obtain ⟨rfl, rfl⟩ := ret_inj h
    exact g_iret C hc37_ hlk hr (by decide +kernel)
set_option maxHeartbeats 4000000 in
theorem ok_Mo_text {l : Launch} {r : Int} {d' : Dt} (p1 p2 p3 : Int) (d : Dt) (hp1 : c32 p1) (hp2 : c32 p2) (hp3 : c32 p3) (h : L_Mo_text p1 p2 p3 d = some (r, d')) : MC l y_Mo_text prog_14_method_56_code 7 (some .int) rm_Mo_text 1 [(2, 0), (0, p1), (0, p2), (0, p3)] d (some (0, r)) d' := by
  refine MC.of (by decide) (Nat.le_of_ble_eq_true rfl) ?_
  intro p e s m args below meth c D cA ad A C hlk hr
  replace C : Cx p s m args c prog_14_method_56_code 7 "PollBooksModel" D cA ad 1 A := C
  show G p l e rm_Mo_text s m args below meth c 0 0 (MQ below (fun _ => QC D cA ad 1 A (some .int) (some (0, r)) d') args s 0 0 A) 7 D cA ad 1 A 0 [(2, 0), (0, p1), (0, p2), (0, p3)] [] d
  refine g_sub (lo2 := [(2, 0), (0, p1), (0, p2), (0, p3), (9, 0), (9, 0), (9, 0)]) (lsb_v (lsb_v (lsb_v (lsb_v (lsb_n (lsb_n (lsb_n lsb_e))))))) ?_
  unfold L_Mo_text at h
  refine g_iload_n C 1 rfl (by decide +kernel) ?_
  refine g_if_lt C (off := 29) (tgt := 30) hp1 (by decide +kernel) (by decide) (fun hc38_ => ?_) (fun hc38_ => ?_)
  · replace h := ite_t hc38_ h
    refine g_sub (lo2 := [(2, 0), (9, 0), (9, 0), (9, 0), (9, 0), (9, 0), (9, 0)]) (lsb_v (lsb_c (lsb_c (lsb_c (lsb_c (lsb_c (lsb_c lsb_e))))))) ?_
    exact ok_Mo_text_b30 C hlk hr d  h
  · replace h := ite_f hc38_ h
    refine g_iload_n C 1 rfl (by decide +kernel) ?_
    refine g_aload_n C 0 rfl (by decide +kernel) ?_
    refine g_getI C cl12 0 32 rfl cd_B0 ⟨by decide, rfl, by decide⟩ rfl (nB (by decide)) (ix := 366) lk_1434 (by decide +kernel) (fun hc39_ => ?_)
    refine g_icmp_gt C (off := 21) (tgt := 30) hp1 hc39_ (by decide +kernel) (by decide) (fun hc40_ => ?_) (fun hc40_ => ?_)
    · replace h := ite_t hc40_ h
      refine g_sub (lo2 := [(2, 0), (9, 0), (9, 0), (9, 0), (9, 0), (9, 0), (9, 0)]) (lsb_v (lsb_c (lsb_c (lsb_c (lsb_c (lsb_c (lsb_c lsb_e))))))) ?_
      exact ok_Mo_text_b30 C hlk hr d  h
    · replace h := ite_f hc40_ h
      refine g_iload_n C 2 rfl (by decide +kernel) ?_
      obtain ⟨r42_, d41_, hr43_, h⟩ := bd_some h
      refine g_callS C mw_Mo_isDay [(0, p2)] (ok_Mo_isDay p2 d hp2 hr43_) (ix := 340) lk_1815 lk_1816 ⟨rfl, rfl, Nat.le_of_ble_eq_true rfl, Nat.le_of_ble_eq_true rfl⟩ rfl (rest := []) rfl (Nat.le_of_ble_eq_true rfl) ⟨Nat.zero_le _, Nat.zero_le _⟩ (by decide +kernel) (fun _ hc44_ => ?_)
      replace hc44_ : cb r42_ := hc44_
      refine g_st (st2 := [(0, r42_)]) rfl ?_
      refine g_if_eq C (off := 14) (tgt := 30) (c32_cb hc44_) (by decide +kernel) (by decide) (fun hc45_ => ?_) (fun hc45_ => ?_)
      · replace h := ite_t hc45_ h
        refine g_sub (lo2 := [(2, 0), (9, 0), (9, 0), (9, 0), (9, 0), (9, 0), (9, 0)]) (lsb_v (lsb_c (lsb_c (lsb_c (lsb_c (lsb_c (lsb_c lsb_e))))))) ?_
        exact ok_Mo_text_b30 C hlk hr d41_  h
      · replace h := ite_f hc45_ h
        refine g_iload_n C 3 rfl (by decide +kernel) ?_
        refine g_iconst C 1 (cK rfl) (by decide +kernel) ?_
        refine g_icmp_lt C (off := 9) (tgt := 30) hp3 (c32_cb (Or.inr rfl)) (by decide +kernel) (by decide) (fun hc46_ => ?_) (fun hc46_ => ?_)
        · replace h := ite_t hc46_ h
          refine g_sub (lo2 := [(2, 0), (9, 0), (9, 0), (9, 0), (9, 0), (9, 0), (9, 0)]) (lsb_v (lsb_c (lsb_c (lsb_c (lsb_c (lsb_c (lsb_c lsb_e))))))) ?_
          exact ok_Mo_text_b30 C hlk hr d41_  h
        · replace h := ite_f hc46_ h
          refine g_iload_n C 3 rfl (by decide +kernel) ?_
          refine g_bipush C 127 (by decide) (by decide +kernel) ?_
          refine g_icmp_le C (off := 9) (tgt := 36) hp3 (cK rfl) (by decide +kernel) (by decide) (fun hc47_ => ?_) (fun hc47_ => ?_)
          · replace h := ite_t hc47_ h
            refine g_sub (lo2 := [(2, 0), (9, 0), (9, 0), (9, 0), (9, 0), (9, 0), (9, 0)]) (lsb_v (lsb_c (lsb_c (lsb_c (lsb_c (lsb_c (lsb_c lsb_e))))))) ?_
            exact ok_Mo_text_b30 C hlk hr d41_  h
          · replace h := ite_f hc47_ h
            refine g_aload_n C 0 rfl (by decide +kernel) ?_
            refine g_getI C cl12 0 41 rfl cd_B0 ⟨by decide, rfl, by decide⟩ rfl (nB (by decide)) (ix := 456) lk_1443 (by decide +kernel) (fun hc48_ => ?_)
            refine g_iconst C 5 (cK rfl) (by decide +kernel) ?_
            refine g_icmp_ne C (off := 9) (tgt := 50) hc48_ (cK rfl) (by decide +kernel) (by decide) (fun hc49_ => ?_) (fun hc49_ => ?_)
            · replace h := ite_t hc49_ h
              refine g_aload_n C 0 rfl (by decide +kernel) ?_
              refine g_iconst C 4 (cK rfl) (by decide +kernel) ?_
              obtain ⟨r51_, d50_, hr52_, h⟩ := bd_some h
              refine g_callV C mw_Mo_refuse [(0, 4)] 0 cl12 rfl (ok_Mo_refuse 4 d41_ (cK rfl) hr52_) cd_B0 (by decide) (nB (by decide)) (ix := 316) lk_1787 lk_1789 lkp_61 ⟨rfl, rfl, Nat.le_of_ble_eq_true rfl, Nat.le_of_ble_eq_true rfl⟩ rfl (rest := []) rfl (Nat.le_of_ble_eq_true rfl) ⟨Nat.zero_le _, Nat.zero_le _⟩ (by decide +kernel) (fun _ hc53_ => ?_)
              replace hc53_ : c32 r51_ := hc53_
              refine g_st (st2 := [(0, r51_)]) rfl ?_
              obtain ⟨rfl, rfl⟩ := ret_inj h
              exact g_iret C hc53_ hlk hr (by decide +kernel)
            · replace h := ite_f hc49_ h
              refine g_aload_n C 0 rfl (by decide +kernel) ?_
              refine g_iload_n C 1 rfl (by decide +kernel) ?_
              refine g_putI C cl12 0 33 hp1 rfl cd_B0 ⟨by decide, rfl, by decide⟩ rfl (nB (by decide)) (ix := 373) lk_1435 rfl rfl (by decide +kernel) ?_
              refine g_iconst C 0 (cK rfl) (by decide +kernel) ?_
              refine s_istore C 4 (lo' := [(2, 0), (0, p1), (0, p2), (0, p3), (0, 0), (9, 0), (9, 0)]) (by decide) (s1k (s1k (s1k (s1n (by decide) s1z)))) (by decide +kernel) ?_
              refine g_sub (lo2 := [(2, 0), (0, p1), (0, p2), (0, p3), (0, 0), (9, 0), (9, 0)]) (lsb_v (lsb_v (lsb_v (lsb_v (lsb_v (lsb_c (lsb_c lsb_e))))))) ?_
              obtain ⟨x54_, hx55_, h⟩ := lb_some h
              refine ok_Mo_text_l58 C p1 p2 p3 0 (up2 d41_ 0 33 p1) hp1 hp2 hp3 (c32_cb (Or.inl rfl)) hx55_ (fun v56_ v57_ d58_ eq59_ hv56_ hv57_ => ?_)
              subst eq59_
              replace h := u2_e h
              refine g_aload_n C 0 rfl (by decide +kernel) ?_
              refine g_iconst C 0 (cK rfl) (by decide +kernel) ?_
              refine g_putI C cl12 0 32 (c32_cb (Or.inl rfl)) rfl cd_B0 ⟨by decide, rfl, by decide⟩ rfl (nB (by decide)) (ix := 366) lk_1434 rfl rfl (by decide +kernel) ?_
              refine g_aload_n C 0 rfl (by decide +kernel) ?_
              refine g_iconst C 0 (cK rfl) (by decide +kernel) ?_
              refine g_putI C cl12 0 40 (c32_cb (Or.inl rfl)) rfl cd_B0 ⟨by decide, rfl, by decide⟩ rfl (nB (by decide)) (ix := 414) lk_1442 rfl rfl (by decide +kernel) ?_
              refine g_aload_n C 0 rfl (by decide +kernel) ?_
              refine g_iconst C (-1) (cK rfl) (by decide +kernel) ?_
              refine g_putI C cl12 0 39 (cK rfl) rfl cd_B0 ⟨by decide, rfl, by decide⟩ rfl (nB (by decide)) (ix := 95) lk_1441 rfl rfl (by decide +kernel) ?_
              refine g_aload_n C 0 rfl (by decide +kernel) ?_
              refine g_iconst C 0 (cK rfl) (by decide +kernel) ?_
              refine g_putI C cl12 0 36 (c32_cb (Or.inl rfl)) rfl cd_B0 ⟨by decide, rfl, by decide⟩ rfl (nB (by decide)) (ix := 376) lk_1438 rfl rfl (by decide +kernel) ?_
              refine g_aload_n C 0 rfl (by decide +kernel) ?_
              refine g_getR C cl12 0 46 28 rfl cd_B0 ⟨by decide, rfl, by decide⟩ rfl rfl (nB (by decide)) (ix := 104) lk_1448 (by decide +kernel) ?_
              refine g_aload_n C 0 rfl (by decide +kernel) ?_
              refine g_getI C cl12 0 41 rfl cd_B0 ⟨by decide, rfl, by decide⟩ rfl (nB (by decide)) (ix := 456) lk_1443 (by decide +kernel) (fun hc60_ => ?_)
              refine g_val (y := (d58_ 0 41)) rfl ?_
              replace hc60_ : c32 (d58_ 0 41) := hc60_
              refine g_iconst C 0 (cK rfl) (by decide +kernel) ?_
              obtain ⟨hb61_, h⟩ := ck_some h
              refine g_iast C 28 (c32_cb (Or.inl rfl)) hc60_ rfl cd_B28 (nB (by decide)) hb61_ (by decide +kernel) ?_
              refine g_aload_n C 0 rfl (by decide +kernel) ?_
              refine g_getI C cl12 0 42 rfl cd_B0 ⟨by decide, rfl, by decide⟩ rfl (nB (by decide)) (ix := 426) lk_1444 (by decide +kernel) (fun hc62_ => ?_)
              refine g_val (y := (d58_ 0 42)) rfl ?_
              replace hc62_ : c32 (d58_ 0 42) := hc62_
              obtain ⟨v63_, ev64_, h⟩ := lt_some h
              refine g_val ev64_.symm ?_
              have hv65_ : c32 v63_ := by rw [ev64_]; exact hc62_
              refine s_istore C 4 (lo' := [(2, 0), (9, 0), (0, v56_), (0, v57_), (0, v63_), (9, 0), (9, 0)]) (by decide) (s1k (s1k (s1k (s1n (by decide) s1z)))) (by decide +kernel) ?_
              refine g_aload_n C 0 rfl (by decide +kernel) ?_
              refine g_getI C cl12 0 43 rfl cd_B0 ⟨by decide, rfl, by decide⟩ rfl (nB (by decide)) (ix := 438) lk_1445 (by decide +kernel) (fun hc66_ => ?_)
              refine g_val (y := (d58_ 0 43)) rfl ?_
              replace hc66_ : c32 (d58_ 0 43) := hc66_
              obtain ⟨v67_, ev68_, h⟩ := lt_some h
              refine g_val ev68_.symm ?_
              have hv69_ : c32 v67_ := by rw [ev68_]; exact hc66_
              refine s_istore C 5 (lo' := [(2, 0), (9, 0), (0, v56_), (0, v57_), (0, v63_), (0, v67_), (9, 0)]) (by decide) (s1k (s1k (s1k (s1k (s1n (by decide) s1z))))) (by decide +kernel) ?_
              refine g_aload_n C 0 rfl (by decide +kernel) ?_
              obtain ⟨r71_, d70_, hr72_, h⟩ := bd_some h
              refine g_callV C mw_Mo_next [] 0 cl12 rfl (ok_Mo_next  (up2 (up2 (up2 (up2 (up2 d58_ 0 32 0) 0 40 0) 0 39 (-1)) 0 36 0) 28 ((d58_ 0 41)).toNat 0)  hr72_) cd_B0 (by decide) (nB (by decide)) (ix := 423) lk_1861 lk_1863 lkp_67 ⟨rfl, rfl, Nat.le_of_ble_eq_true rfl, Nat.le_of_ble_eq_true rfl⟩ rfl (rest := []) rfl (Nat.le_of_ble_eq_true rfl) ⟨Nat.zero_le _, Nat.zero_le _⟩ (by decide +kernel) (fun _ hc73_ => ?_)
              refine g_st (st2 := []) rfl ?_
              refine g_sub (lo2 := [(2, 0), (9, 0), (0, v56_), (0, v57_), (0, v63_), (0, v67_), (9, 0)]) (lsb_v (lsb_c (lsb_v (lsb_v (lsb_v (lsb_v (lsb_c lsb_e))))))) ?_
              obtain ⟨x74_, hx75_, h⟩ := lb_some h
              refine ok_Mo_text_l130 C v56_ v57_ v63_ v67_ d70_ hv56_ hv57_ hv65_ hv69_ hx75_ (fun v76_ v77_ v78_ v79_ d80_ eq81_ hv76_ hv77_ hv78_ hv79_ => ?_)
              subst eq81_
              replace h := u4_e h
              refine g_sub (lo2 := [(2, 0), (9, 0), (0, v76_), (0, v77_), (0, v78_), (0, v79_), (9, 0)]) (lsb_v (lsb_c (lsb_v (lsb_v (lsb_v (lsb_v (lsb_c lsb_e))))))) ?_
              exact ok_Mo_text_b170 C hlk hr v76_ v77_ v78_ v79_ d80_ hv76_ hv77_ hv78_ hv79_ h
/-! PollBooksModel.fault(I)I -/
def y_Mo_fault : MethodName := ⟨"PollBooksModel", "fault", "(I)I"⟩
def rm_Mo_fault : Room := { frames := 0, cells := 0, slots := 0, locals := 0 }
theorem mw_Mo_fault : MW y_Mo_fault prog_14_method_57_code 2 (some .int) 1 := ⟨lk_1989, lk_14, by decide +kernel⟩
def L_Mo_fault (p1 : Int) (d : Dt) : Option (Int × Dt) :=
  if p1 = 0 then some ((d 0 38), d) else if p1 = 1 then some ((d 0 39), d) else some ((-1), d)
set_option maxHeartbeats 4000000 in
theorem ok_Mo_fault {l : Launch} {r : Int} {d' : Dt} (p1 : Int) (d : Dt) (hp1 : c32 p1) (h : L_Mo_fault p1 d = some (r, d')) : MC l y_Mo_fault prog_14_method_57_code 2 (some .int) rm_Mo_fault 1 [(2, 0), (0, p1)] d (some (0, r)) d' := by
  refine MC.of (by decide) (Nat.le_of_ble_eq_true rfl) ?_
  intro p e s m args below meth c D cA ad A C hlk hr
  replace C : Cx p s m args c prog_14_method_57_code 2 "PollBooksModel" D cA ad 1 A := C
  show G p l e rm_Mo_fault s m args below meth c 0 0 (MQ below (fun _ => QC D cA ad 1 A (some .int) (some (0, r)) d') args s 0 0 A) 2 D cA ad 1 A 0 [(2, 0), (0, p1)] [] d
  refine g_sub (lo2 := [(2, 0), (0, p1)]) (lsb_v (lsb_v lsb_e)) ?_
  unfold L_Mo_fault at h
  refine g_iload_n C 1 rfl (by decide +kernel) ?_
  refine g_if_ne C (off := 10) (tgt := 11) hp1 (by decide +kernel) (by decide) (fun hc1_ => ?_) (fun hc1_ => ?_)
  · replace h := ite_t hc1_ h
    refine g_aload_n C 0 rfl (by decide +kernel) ?_
    refine g_getI C cl12 0 38 rfl cd_B0 ⟨by decide, rfl, by decide⟩ rfl (nB (by decide)) (ix := 92) lk_1440 (by decide +kernel) (fun hc2_ => ?_)
    refine g_goto C 24 (off := 16) (by decide +kernel) (by decide) ?_
    obtain ⟨rfl, rfl⟩ := ret_inj h
    exact g_iret C hc2_ hlk hr (by decide +kernel)
  · replace h := ite_f hc1_ h
    refine g_iload_n C 1 rfl (by decide +kernel) ?_
    refine g_iconst C 1 (cK rfl) (by decide +kernel) ?_
    refine g_icmp_ne C (off := 10) (tgt := 23) hp1 (c32_cb (Or.inr rfl)) (by decide +kernel) (by decide) (fun hc3_ => ?_) (fun hc3_ => ?_)
    · replace h := ite_t hc3_ h
      refine g_aload_n C 0 rfl (by decide +kernel) ?_
      refine g_getI C cl12 0 39 rfl cd_B0 ⟨by decide, rfl, by decide⟩ rfl (nB (by decide)) (ix := 95) lk_1441 (by decide +kernel) (fun hc4_ => ?_)
      refine g_goto C 24 (off := 4) (by decide +kernel) (by decide) ?_
      obtain ⟨rfl, rfl⟩ := ret_inj h
      exact g_iret C hc4_ hlk hr (by decide +kernel)
    · replace h := ite_f hc3_ h
      refine g_iconst C (-1) (cK rfl) (by decide +kernel) ?_
      obtain ⟨rfl, rfl⟩ := ret_inj h
      exact g_iret C (cK rfl) hlk hr (by decide +kernel)
/-! PollBooksModel.stand(II)V -/
def y_Mo_stand : MethodName := ⟨"PollBooksModel", "stand", "(II)V"⟩
def rm_Mo_stand : Room := { frames := 0, cells := 0, slots := 0, locals := 0 }
theorem mw_Mo_stand : MW y_Mo_stand prog_14_method_58_code 6 none 2 := ⟨lk_1997, lk_14, by decide +kernel⟩
def L_Mo_stand_y140 (x3 x4 x5 : Int) (d : Dt) : Option ((Int × Int × Int × Dt) ⊕ ((Int × Int × Dt))) :=
  ck ((0 : Int) ≤ x4 ∧ x4 < 5) (ck ((0 : Int) ≤ x4 ∧ x4 < 5) (ck ((0 : Int) ≤ (d 48 x4.toNat) ∧ (d 48 x4.toNat) < 6) (if x5 < (w32 ((w32 (20 * (d 48 x4.toNat))) + (d 28 ((d 48 x4.toNat)).toNat))) then ck ((0 : Int) ≤ (d 0 68) ∧ (d 0 68) < 100) (some (Sum.inl (x3, x4, (w32 (x5 + 1)), (up2 (up2 d 47 ((d 0 68)).toNat x5) 0 68 (w32 ((d 0 68) + 1)))))) else some (Sum.inr (x3, x4, d)))))
def L_Mo_stand_l140 (x3 x4 x5 : Int) (d : Dt) : Option ((Int × Int × Dt)) := lpF (fun q : Int × Int × Int × Dt => L_Mo_stand_y140 q.1 q.2.1 q.2.2.1 q.2.2.2) FU (x3, x4, x5, d)
def L_Mo_stand_y45 (x1 x2 x3 x4 x5 : Int) (d : Dt) : Option ((Int × Int × Int × Int × Int × Dt) ⊕ ((Int × Int × Int × Int × Int × Dt))) :=
  if 0 < x5 then ck ((0 : Int) ≤ (w32 (x5 - 1)) ∧ (w32 (x5 - 1)) < 5) (ck ((0 : Int) ≤ (d 48 ((w32 (x5 - 1))).toNat) ∧ (d 48 ((w32 (x5 - 1))).toNat) < 6) (ck ((0 : Int) ≤ x4 ∧ x4 < 6) (if (d 26 x4.toNat) < (d 26 ((d 48 ((w32 (x5 - 1))).toNat)).toNat) then ck ((0 : Int) ≤ (w32 (x5 - 1)) ∧ (w32 (x5 - 1)) < 5) (ck ((0 : Int) ≤ x5 ∧ x5 < 5) (some (Sum.inl (x1, x2, x3, x4, (w32 (x5 + (-1))), (up2 d 48 x5.toNat (d 48 ((w32 (x5 - 1))).toNat)))))) else some (Sum.inr (x1, x2, x3, x4, x5, d))))) else some (Sum.inr (x1, x2, x3, x4, x5, d))
def L_Mo_stand_l45 (x1 x2 x3 x4 x5 : Int) (d : Dt) : Option ((Int × Int × Int × Int × Int × Dt)) := lpF (fun q : Int × Int × Int × Int × Int × Dt => L_Mo_stand_y45 q.1 q.2.1 q.2.2.1 q.2.2.2.1 q.2.2.2.2.1 q.2.2.2.2.2) FU (x1, x2, x3, x4, x5, d)
def L_Mo_stand_y122 (x3 x4 : Int) (d : Dt) : Option ((Int × Int × Dt) ⊕ ((Dt))) :=
  if x4 < x3 then ck ((0 : Int) ≤ x4 ∧ x4 < 5) (lt_ (w32 (20 * (d 48 x4.toNat))) (fun v25_ => lb (L_Mo_stand_l140 x3 x4 v25_ d) (fun q34_ => u2 q34_ (fun v30_ v31_ d32_ => some (Sum.inl (v30_, (w32 (v31_ + 1)), d32_)))))) else some (Sum.inr (d))
def L_Mo_stand_l122 (x3 x4 : Int) (d : Dt) : Option ((Dt)) := lpF (fun q : Int × Int × Dt => L_Mo_stand_y122 q.1 q.2.1 q.2.2) FU (x3, x4, d)
def L_Mo_stand_b285 (x4 x5 s1 s2 : Int) (d : Dt) : Option ((Int × Int × Dt) ⊕ ((Int × Dt))) :=
  ck ((0 : Int) ≤ s1 ∧ s1 < 100) (some (Sum.inl (x4, (w32 (x5 + 1)), (up2 d 49 s1.toNat s2))))
def L_Mo_stand_y227 (x4 x5 : Int) (d : Dt) : Option ((Int × Int × Dt) ⊕ ((Int × Dt))) :=
  if x5 < (d 0 68) then ck ((0 : Int) ≤ x4 ∧ x4 < 100) (if (d 49 x4.toNat) = 0 then ck ((0 : Int) ≤ x5 ∧ x5 < 100) (ck ((0 : Int) ≤ (d 47 x5.toNat) ∧ (d 47 x5.toNat) < 120) (ck ((0 : Int) ≤ x4 ∧ x4 < 100) (ck ((0 : Int) ≤ (d 47 x4.toNat) ∧ (d 47 x4.toNat) < 120) (if (d 36 ((d 47 x5.toNat)).toNat) = (d 35 ((d 47 x4.toNat)).toNat) then L_Mo_stand_b285 x4 x5 x4 1 d else L_Mo_stand_b285 x4 x5 x4 0 d)))) else L_Mo_stand_b285 x4 x5 x4 1 d) else some (Sum.inr (x4, d))
def L_Mo_stand_l227 (x4 x5 : Int) (d : Dt) : Option ((Int × Dt)) := lpF (fun q : Int × Int × Dt => L_Mo_stand_y227 q.1 q.2.1 q.2.2) FU (x4, x5, d)
def L_Mo_stand_y204 (x4 : Int) (d : Dt) : Option ((Int × Dt) ⊕ ((Dt))) :=
  if x4 < (d 0 68) then ck ((0 : Int) ≤ x4 ∧ x4 < 100) (lt_ (w32 (x4 + 1)) (fun v53_ => lb (L_Mo_stand_l227 x4 v53_ (up2 d 49 x4.toNat 0)) (fun q61_ => u1 q61_ (fun v58_ d59_ => some (Sum.inl ((w32 (v58_ + 1)), d59_)))))) else some (Sum.inr (d))
def L_Mo_stand_l204 (x4 : Int) (d : Dt) : Option ((Dt)) := lpF (fun q : Int × Dt => L_Mo_stand_y204 q.1 q.2) FU (x4, d)
def L_Mo_stand_b108 (x1 x2 x3 x4 : Int) (d : Dt) : Option ((Int × Int × Int × Int × Dt) ⊕ ((Int × Dt))) :=
  some (Sum.inl (x1, x2, x3, (w32 (x4 + 1)), d))
def L_Mo_stand_b96 (x1 x2 x3 x4 x5 : Int) (d : Dt) : Option ((Int × Int × Int × Int × Dt) ⊕ ((Int × Dt))) :=
  ck ((0 : Int) ≤ x5 ∧ x5 < 5) (L_Mo_stand_b108 x1 x2 (w32 (x3 + 1)) x4 (up2 d 48 x5.toNat x4))
def L_Mo_stand_y5 (x1 x2 x3 x4 : Int) (d : Dt) : Option ((Int × Int × Int × Int × Dt) ⊕ ((Int × Dt))) :=
  if x4 < (d 0 41) then ck ((0 : Int) ≤ x4 ∧ x4 < 6) (if x2 < (d 26 x4.toNat) then L_Mo_stand_b108 x1 x2 x3 x4 d else ck ((0 : Int) ≤ x4 ∧ x4 < 6) (if (iand (ishr (d 27 x4.toNat) x1) 1) = 0 then L_Mo_stand_b108 x1 x2 x3 x4 d else lb (L_Mo_stand_l45 x1 x2 x3 x4 x3 d) (fun q80_ => u5 q80_ (fun v73_ v74_ v75_ v76_ v77_ d78_ => L_Mo_stand_b96 v73_ v74_ v75_ v76_ v77_ d78_)))) else some (Sum.inr (x3, d))
def L_Mo_stand_l5 (x1 x2 x3 x4 : Int) (d : Dt) : Option ((Int × Dt)) := lpF (fun q : Int × Int × Int × Int × Dt => L_Mo_stand_y5 q.1 q.2.1 q.2.2.1 q.2.2.2.1 q.2.2.2.2) FU (x1, x2, x3, x4, d)
def L_Mo_stand (p1 p2 : Int) (d : Dt) : Option (Int × Dt) :=
  lb (L_Mo_stand_l5 p1 p2 0 0 d) (fun q96_ => u1 q96_ (fun v83_ d84_ => lb (L_Mo_stand_l122 v83_ 0 (up2 d84_ 0 68 0)) (fun q95_ => u0 q95_ (fun d88_ => lb (L_Mo_stand_l204 0 d88_) (fun q94_ => u0 q94_ (fun d92_ => some (0, d92_)))))))
set_option maxHeartbeats 4000000 in
theorem ok_Mo_stand_y140 {p : Program} {l : Launch} {e : Env} {s : State} {m : MethodId} {args : Array Value} {below : List Frame} {meth : Method} {c : Code} {D : va_G} {cA : Nat → ClassId} {ad : Nat → Nat} {A : Nat → Prop} (C : Cx p s m args c prog_14_method_58_code 6 "PollBooksModel" D cA ad 1 A) {Q : State → Prop} {o : (Int × Int × Int × Dt) ⊕ ((Int × Int × Dt))} (x3 x4 x5 : Int) (d : Dt) (hx3 : c32 x3) (hx4 : c32 x4) (hx5 : c32 x5) (h : L_Mo_stand_y140 x3 x4 x5 d = some o) (kb : ∀ (y0 y1 y2 : Int) (e' : Dt), o = .inl (y0, y1, y2, e') → c32 y0 → c32 y1 → c32 y2 → G p l e rm_Mo_stand s m args below meth c 0 0 Q 6 D cA ad 1 A 140 [(2, 0), (9, 0), (9, 0), (0, y0), (0, y1), (0, y2)] [] e') (k0 : ∀ (y0 y1 : Int) (e' : Dt), o = .inr (y0, y1, e') → c32 y0 → c32 y1 → G p l e rm_Mo_stand s m args below meth c 0 0 Q 6 D cA ad 1 A 195 [(2, 0), (9, 0), (9, 0), (0, y0), (0, y1), (9, 0)] [] e') : G p l e rm_Mo_stand s m args below meth c 0 0 Q 6 D cA ad 1 A 140 [(2, 0), (9, 0), (9, 0), (0, x3), (0, x4), (0, x5)] [] d := by
  unfold L_Mo_stand_y140 at h
  refine g_iload C 5 rfl (by decide +kernel) ?_
  refine g_bipush C 20 (by decide) (by decide +kernel) ?_
  refine g_aload_n C 0 rfl (by decide +kernel) ?_
  refine g_getR C cl12 0 66 48 rfl cd_B0 ⟨by decide, rfl, by decide⟩ rfl rfl (nB (by decide)) (ix := 164) lk_1468 (by decide +kernel) ?_
  refine g_iload C 4 rfl (by decide +kernel) ?_
  obtain ⟨hb1_, h⟩ := ck_some h
  refine g_iald C 48 hx4 rfl cd_B48 (nB (by decide)) hb1_ (by decide +kernel) (fun hc2_ => ?_)
  refine g_imul C (by decide +kernel) ?_
  refine g_aload_n C 0 rfl (by decide +kernel) ?_
  refine g_getR C cl12 0 46 28 rfl cd_B0 ⟨by decide, rfl, by decide⟩ rfl rfl (nB (by decide)) (ix := 104) lk_1448 (by decide +kernel) ?_
  refine g_aload_n C 0 rfl (by decide +kernel) ?_
  refine g_getR C cl12 0 66 48 rfl cd_B0 ⟨by decide, rfl, by decide⟩ rfl rfl (nB (by decide)) (ix := 164) lk_1468 (by decide +kernel) ?_
  refine g_iload C 4 rfl (by decide +kernel) ?_
  obtain ⟨hb3_, h⟩ := ck_some h
  refine g_iald C 48 hx4 rfl cd_B48 (nB (by decide)) hb3_ (by decide +kernel) (fun hc4_ => ?_)
  obtain ⟨hb5_, h⟩ := ck_some h
  refine g_iald C 28 hc4_ rfl cd_B28 (nB (by decide)) hb5_ (by decide +kernel) (fun hc6_ => ?_)
  refine g_iadd C (by decide +kernel) ?_
  refine g_icmp_ge C (off := 30) (tgt := 195) hx5 (w32_c _) (by decide +kernel) (by decide) (fun hc7_ => ?_) (fun hc7_ => ?_)
  · replace h := ite_t hc7_ h
    refine g_aload_n C 0 rfl (by decide +kernel) ?_
    refine g_getR C cl12 0 65 47 rfl cd_B0 ⟨by decide, rfl, by decide⟩ rfl rfl (nB (by decide)) (ix := 161) lk_1467 (by decide +kernel) ?_
    refine g_aload_n C 0 rfl (by decide +kernel) ?_
    refine g_getI C cl12 0 68 rfl cd_B0 ⟨by decide, rfl, by decide⟩ rfl (nB (by decide)) (ix := 478) lk_1470 (by decide +kernel) (fun hc8_ => ?_)
    refine g_iload C 5 rfl (by decide +kernel) ?_
    obtain ⟨hb9_, h⟩ := ck_some h
    refine g_iast C 47 hx5 hc8_ rfl cd_B47 (nB (by decide)) hb9_ (by decide +kernel) ?_
    refine g_aload_n C 0 rfl (by decide +kernel) ?_
    refine g_dup C tg2 (by decide +kernel) ?_
    refine g_getI C cl12 0 68 rfl cd_B0 ⟨by decide, rfl, by decide⟩ rfl (nB (by decide)) (ix := 478) lk_1470 (by decide +kernel) (fun hc10_ => ?_)
    refine g_val (y := (d 0 68)) rfl ?_
    replace hc10_ : c32 (d 0 68) := hc10_
    refine g_iconst C 1 (cK rfl) (by decide +kernel) ?_
    refine g_iadd C (by decide +kernel) ?_
    refine g_putI C cl12 0 68 (w32_c _) rfl cd_B0 ⟨by decide, rfl, by decide⟩ rfl (nB (by decide)) (ix := 478) lk_1470 rfl rfl (by decide +kernel) ?_
    refine s_iinc C 5 1 (lo' := [(2, 0), (9, 0), (9, 0), (0, x3), (0, x4), (0, (w32 (x5 + 1)))]) rfl (by decide) (s1k (s1k (s1k (s1k (s1n (by decide) s1z))))) (by decide +kernel) ?_
    refine g_goto C 140 (off := (-52)) (by decide +kernel) (by decide) ?_
    refine g_sub (lo2 := [(2, 0), (9, 0), (9, 0), (0, x3), (0, x4), (0, (w32 (x5 + 1)))]) (lsb_v (lsb_c (lsb_c (lsb_v (lsb_v (lsb_v lsb_e)))))) ?_
    obtain rfl := Option.some.inj h
    exact kb x3 x4 (w32 (x5 + 1)) (up2 (up2 d 47 ((d 0 68)).toNat x5) 0 68 (w32 ((d 0 68) + 1))) rfl hx3 hx4 (w32_c _)
  · replace h := ite_f hc7_ h
    refine g_sub (lo2 := [(2, 0), (9, 0), (9, 0), (0, x3), (0, x4), (9, 0)]) (lsb_v (lsb_c (lsb_c (lsb_v (lsb_v (lsb_c lsb_e)))))) ?_
    obtain rfl := Option.some.inj h
    exact k0 x3 x4 d rfl hx3 hx4
set_option maxHeartbeats 4000000 in
theorem ok_Mo_stand_n140 {p : Program} {l : Launch} {e : Env} {s : State} {m : MethodId} {args : Array Value} {below : List Frame} {meth : Method} {c : Code} {D : va_G} {cA : Nat → ClassId} {ad : Nat → Nat} {A : Nat → Prop} (C : Cx p s m args c prog_14_method_58_code 6 "PollBooksModel" D cA ad 1 A) {Q : State → Prop} {x : (Int × Int × Dt)} : ∀ (n : Nat) (x3 x4 x5 : Int) (d : Dt), c32 x3 → c32 x4 → c32 x5 → lpF (fun q : Int × Int × Int × Dt => L_Mo_stand_y140 q.1 q.2.1 q.2.2.1 q.2.2.2) n (x3, x4, x5, d) = some x → (∀ (y0 y1 : Int) (e' : Dt), x = (y0, y1, e') → c32 y0 → c32 y1 → G p l e rm_Mo_stand s m args below meth c 0 0 Q 6 D cA ad 1 A 195 [(2, 0), (9, 0), (9, 0), (0, y0), (0, y1), (9, 0)] [] e') → G p l e rm_Mo_stand s m args below meth c 0 0 Q 6 D cA ad 1 A 140 [(2, 0), (9, 0), (9, 0), (0, x3), (0, x4), (0, x5)] [] d := by
  intro n
  induction n with
  | zero => intro x3 x4 x5 d g0 g1 g2 h k0; cases h
  | succ n ih =>
    intro x3 x4 x5 d g0 g1 g2 h k0
    rcases lpF_some h with h | ⟨⟨v0_, v1_, v2_, e0_⟩, h1, h⟩
    · exact ok_Mo_stand_y140 C x3 x4 x5 d g0 g1 g2 h (fun z0_ z1_ z2_ e1_ eq w0_ w1_ w2_ => by cases eq) (fun z0_ z1_ e1_ eq w0_ w1_ => k0 _ _ _ (by cases eq; rfl) w0_ w1_)
    · exact ok_Mo_stand_y140 C x3 x4 x5 d g0 g1 g2 h1 (fun z0_ z1_ z2_ e1_ eq w0_ w1_ w2_ => by cases eq; exact ih _ _ _ _ w0_ w1_ w2_ h k0) (fun z0_ z1_ e1_ eq w0_ w1_ => by cases eq)
set_option maxHeartbeats 4000000 in
theorem ok_Mo_stand_l140 {p : Program} {l : Launch} {e : Env} {s : State} {m : MethodId} {args : Array Value} {below : List Frame} {meth : Method} {c : Code} {D : va_G} {cA : Nat → ClassId} {ad : Nat → Nat} {A : Nat → Prop} (C : Cx p s m args c prog_14_method_58_code 6 "PollBooksModel" D cA ad 1 A) {Q : State → Prop} {x : (Int × Int × Dt)} (x3 x4 x5 : Int) (d : Dt) (hx3 : c32 x3) (hx4 : c32 x4) (hx5 : c32 x5) (h : L_Mo_stand_l140 x3 x4 x5 d = some x) (k0 : ∀ (y0 y1 : Int) (e' : Dt), x = (y0, y1, e') → c32 y0 → c32 y1 → G p l e rm_Mo_stand s m args below meth c 0 0 Q 6 D cA ad 1 A 195 [(2, 0), (9, 0), (9, 0), (0, y0), (0, y1), (9, 0)] [] e') : G p l e rm_Mo_stand s m args below meth c 0 0 Q 6 D cA ad 1 A 140 [(2, 0), (9, 0), (9, 0), (0, x3), (0, x4), (0, x5)] [] d :=
  ok_Mo_stand_n140 C FU x3 x4 x5 d hx3 hx4 hx5 h k0
set_option maxHeartbeats 4000000 in
theorem ok_Mo_stand_y45 {p : Program} {l : Launch} {e : Env} {s : State} {m : MethodId} {args : Array Value} {below : List Frame} {meth : Method} {c : Code} {D : va_G} {cA : Nat → ClassId} {ad : Nat → Nat} {A : Nat → Prop} (C : Cx p s m args c prog_14_method_58_code 6 "PollBooksModel" D cA ad 1 A) {Q : State → Prop} {o : (Int × Int × Int × Int × Int × Dt) ⊕ ((Int × Int × Int × Int × Int × Dt))} (x1 x2 x3 x4 x5 : Int) (d : Dt) (hx1 : c32 x1) (hx2 : c32 x2) (hx3 : c32 x3) (hx4 : c32 x4) (hx5 : c32 x5) (h : L_Mo_stand_y45 x1 x2 x3 x4 x5 d = some o) (kb : ∀ (y0 y1 y2 y3 y4 : Int) (e' : Dt), o = .inl (y0, y1, y2, y3, y4, e') → c32 y0 → c32 y1 → c32 y2 → c32 y3 → c32 y4 → G p l e rm_Mo_stand s m args below meth c 0 0 Q 6 D cA ad 1 A 45 [(2, 0), (0, y0), (0, y1), (0, y2), (0, y3), (0, y4)] [] e') (k0 : ∀ (y0 y1 y2 y3 y4 : Int) (e' : Dt), o = .inr (y0, y1, y2, y3, y4, e') → c32 y0 → c32 y1 → c32 y2 → c32 y3 → c32 y4 → G p l e rm_Mo_stand s m args below meth c 0 0 Q 6 D cA ad 1 A 96 [(2, 0), (0, y0), (0, y1), (0, y2), (0, y3), (0, y4)] [] e') : G p l e rm_Mo_stand s m args below meth c 0 0 Q 6 D cA ad 1 A 45 [(2, 0), (0, x1), (0, x2), (0, x3), (0, x4), (0, x5)] [] d := by
  unfold L_Mo_stand_y45 at h
  refine g_iload C 5 rfl (by decide +kernel) ?_
  refine g_if_le C (off := 49) (tgt := 96) hx5 (by decide +kernel) (by decide) (fun hc11_ => ?_) (fun hc11_ => ?_)
  · replace h := ite_t hc11_ h
    refine g_aload_n C 0 rfl (by decide +kernel) ?_
    refine g_getR C cl12 0 44 26 rfl cd_B0 ⟨by decide, rfl, by decide⟩ rfl rfl (nB (by decide)) (ix := 98) lk_1446 (by decide +kernel) ?_
    refine g_aload_n C 0 rfl (by decide +kernel) ?_
    refine g_getR C cl12 0 66 48 rfl cd_B0 ⟨by decide, rfl, by decide⟩ rfl rfl (nB (by decide)) (ix := 164) lk_1468 (by decide +kernel) ?_
    refine g_iload C 5 rfl (by decide +kernel) ?_
    refine g_iconst C 1 (cK rfl) (by decide +kernel) ?_
    refine g_isub C (by decide +kernel) ?_
    obtain ⟨hb12_, h⟩ := ck_some h
    refine g_iald C 48 (w32_c _) rfl cd_B48 (nB (by decide)) hb12_ (by decide +kernel) (fun hc13_ => ?_)
    obtain ⟨hb14_, h⟩ := ck_some h
    refine g_iald C 26 hc13_ rfl cd_B26 (nB (by decide)) hb14_ (by decide +kernel) (fun hc15_ => ?_)
    refine g_aload_n C 0 rfl (by decide +kernel) ?_
    refine g_getR C cl12 0 44 26 rfl cd_B0 ⟨by decide, rfl, by decide⟩ rfl rfl (nB (by decide)) (ix := 98) lk_1446 (by decide +kernel) ?_
    refine g_iload C 4 rfl (by decide +kernel) ?_
    obtain ⟨hb16_, h⟩ := ck_some h
    refine g_iald C 26 hx4 rfl cd_B26 (nB (by decide)) hb16_ (by decide +kernel) (fun hc17_ => ?_)
    refine g_icmp_le C (off := 25) (tgt := 96) hc15_ hc17_ (by decide +kernel) (by decide) (fun hc18_ => ?_) (fun hc18_ => ?_)
    · replace h := ite_t hc18_ h
      refine g_aload_n C 0 rfl (by decide +kernel) ?_
      refine g_getR C cl12 0 66 48 rfl cd_B0 ⟨by decide, rfl, by decide⟩ rfl rfl (nB (by decide)) (ix := 164) lk_1468 (by decide +kernel) ?_
      refine g_iload C 5 rfl (by decide +kernel) ?_
      refine g_aload_n C 0 rfl (by decide +kernel) ?_
      refine g_getR C cl12 0 66 48 rfl cd_B0 ⟨by decide, rfl, by decide⟩ rfl rfl (nB (by decide)) (ix := 164) lk_1468 (by decide +kernel) ?_
      refine g_iload C 5 rfl (by decide +kernel) ?_
      refine g_iconst C 1 (cK rfl) (by decide +kernel) ?_
      refine g_isub C (by decide +kernel) ?_
      obtain ⟨hb19_, h⟩ := ck_some h
      refine g_iald C 48 (w32_c _) rfl cd_B48 (nB (by decide)) hb19_ (by decide +kernel) (fun hc20_ => ?_)
      obtain ⟨hb21_, h⟩ := ck_some h
      refine g_iast C 48 hc20_ hx5 rfl cd_B48 (nB (by decide)) hb21_ (by decide +kernel) ?_
      refine s_iinc C 5 (-1) (lo' := [(2, 0), (0, x1), (0, x2), (0, x3), (0, x4), (0, (w32 (x5 + (-1))))]) rfl (by decide) (s1k (s1k (s1k (s1k (s1n (by decide) s1z))))) (by decide +kernel) ?_
      refine g_goto C 45 (off := (-48)) (by decide +kernel) (by decide) ?_
      refine g_sub (lo2 := [(2, 0), (0, x1), (0, x2), (0, x3), (0, x4), (0, (w32 (x5 + (-1))))]) (lsb_v (lsb_v (lsb_v (lsb_v (lsb_v (lsb_v lsb_e)))))) ?_
      obtain rfl := Option.some.inj h
      exact kb x1 x2 x3 x4 (w32 (x5 + (-1))) (up2 d 48 x5.toNat (d 48 ((w32 (x5 - 1))).toNat)) rfl hx1 hx2 hx3 hx4 (w32_c _)
    · replace h := ite_f hc18_ h
      refine g_sub (lo2 := [(2, 0), (0, x1), (0, x2), (0, x3), (0, x4), (0, x5)]) (lsb_v (lsb_v (lsb_v (lsb_v (lsb_v (lsb_v lsb_e)))))) ?_
      obtain rfl := Option.some.inj h
      exact k0 x1 x2 x3 x4 x5 d rfl hx1 hx2 hx3 hx4 hx5
  · replace h := ite_f hc11_ h
    refine g_sub (lo2 := [(2, 0), (0, x1), (0, x2), (0, x3), (0, x4), (0, x5)]) (lsb_v (lsb_v (lsb_v (lsb_v (lsb_v (lsb_v lsb_e)))))) ?_
    obtain rfl := Option.some.inj h
    exact k0 x1 x2 x3 x4 x5 d rfl hx1 hx2 hx3 hx4 hx5
set_option maxHeartbeats 4000000 in
theorem ok_Mo_stand_n45 {p : Program} {l : Launch} {e : Env} {s : State} {m : MethodId} {args : Array Value} {below : List Frame} {meth : Method} {c : Code} {D : va_G} {cA : Nat → ClassId} {ad : Nat → Nat} {A : Nat → Prop} (C : Cx p s m args c prog_14_method_58_code 6 "PollBooksModel" D cA ad 1 A) {Q : State → Prop} {x : (Int × Int × Int × Int × Int × Dt)} : ∀ (n : Nat) (x1 x2 x3 x4 x5 : Int) (d : Dt), c32 x1 → c32 x2 → c32 x3 → c32 x4 → c32 x5 → lpF (fun q : Int × Int × Int × Int × Int × Dt => L_Mo_stand_y45 q.1 q.2.1 q.2.2.1 q.2.2.2.1 q.2.2.2.2.1 q.2.2.2.2.2) n (x1, x2, x3, x4, x5, d) = some x → (∀ (y0 y1 y2 y3 y4 : Int) (e' : Dt), x = (y0, y1, y2, y3, y4, e') → c32 y0 → c32 y1 → c32 y2 → c32 y3 → c32 y4 → G p l e rm_Mo_stand s m args below meth c 0 0 Q 6 D cA ad 1 A 96 [(2, 0), (0, y0), (0, y1), (0, y2), (0, y3), (0, y4)] [] e') → G p l e rm_Mo_stand s m args below meth c 0 0 Q 6 D cA ad 1 A 45 [(2, 0), (0, x1), (0, x2), (0, x3), (0, x4), (0, x5)] [] d := by
  intro n
  induction n with
  | zero => intro x1 x2 x3 x4 x5 d g0 g1 g2 g3 g4 h k0; cases h
  | succ n ih =>
    intro x1 x2 x3 x4 x5 d g0 g1 g2 g3 g4 h k0
    rcases lpF_some h with h | ⟨⟨v0_, v1_, v2_, v3_, v4_, e0_⟩, h1, h⟩
    · exact ok_Mo_stand_y45 C x1 x2 x3 x4 x5 d g0 g1 g2 g3 g4 h (fun z0_ z1_ z2_ z3_ z4_ e1_ eq w0_ w1_ w2_ w3_ w4_ => by cases eq) (fun z0_ z1_ z2_ z3_ z4_ e1_ eq w0_ w1_ w2_ w3_ w4_ => k0 _ _ _ _ _ _ (by cases eq; rfl) w0_ w1_ w2_ w3_ w4_)
    · exact ok_Mo_stand_y45 C x1 x2 x3 x4 x5 d g0 g1 g2 g3 g4 h1 (fun z0_ z1_ z2_ z3_ z4_ e1_ eq w0_ w1_ w2_ w3_ w4_ => by cases eq; exact ih _ _ _ _ _ _ w0_ w1_ w2_ w3_ w4_ h k0) (fun z0_ z1_ z2_ z3_ z4_ e1_ eq w0_ w1_ w2_ w3_ w4_ => by cases eq)
set_option maxHeartbeats 4000000 in
theorem ok_Mo_stand_l45 {p : Program} {l : Launch} {e : Env} {s : State} {m : MethodId} {args : Array Value} {below : List Frame} {meth : Method} {c : Code} {D : va_G} {cA : Nat → ClassId} {ad : Nat → Nat} {A : Nat → Prop} (C : Cx p s m args c prog_14_method_58_code 6 "PollBooksModel" D cA ad 1 A) {Q : State → Prop} {x : (Int × Int × Int × Int × Int × Dt)} (x1 x2 x3 x4 x5 : Int) (d : Dt) (hx1 : c32 x1) (hx2 : c32 x2) (hx3 : c32 x3) (hx4 : c32 x4) (hx5 : c32 x5) (h : L_Mo_stand_l45 x1 x2 x3 x4 x5 d = some x) (k0 : ∀ (y0 y1 y2 y3 y4 : Int) (e' : Dt), x = (y0, y1, y2, y3, y4, e') → c32 y0 → c32 y1 → c32 y2 → c32 y3 → c32 y4 → G p l e rm_Mo_stand s m args below meth c 0 0 Q 6 D cA ad 1 A 96 [(2, 0), (0, y0), (0, y1), (0, y2), (0, y3), (0, y4)] [] e') : G p l e rm_Mo_stand s m args below meth c 0 0 Q 6 D cA ad 1 A 45 [(2, 0), (0, x1), (0, x2), (0, x3), (0, x4), (0, x5)] [] d :=
  ok_Mo_stand_n45 C FU x1 x2 x3 x4 x5 d hx1 hx2 hx3 hx4 hx5 h k0
set_option maxHeartbeats 4000000 in
theorem ok_Mo_stand_y122 {p : Program} {l : Launch} {e : Env} {s : State} {m : MethodId} {args : Array Value} {below : List Frame} {meth : Method} {c : Code} {D : va_G} {cA : Nat → ClassId} {ad : Nat → Nat} {A : Nat → Prop} (C : Cx p s m args c prog_14_method_58_code 6 "PollBooksModel" D cA ad 1 A) {Q : State → Prop} {o : (Int × Int × Dt) ⊕ ((Dt))} (x3 x4 : Int) (d : Dt) (hx3 : c32 x3) (hx4 : c32 x4) (h : L_Mo_stand_y122 x3 x4 d = some o) (kb : ∀ (y0 y1 : Int) (e' : Dt), o = .inl (y0, y1, e') → c32 y0 → c32 y1 → G p l e rm_Mo_stand s m args below meth c 0 0 Q 6 D cA ad 1 A 122 [(2, 0), (9, 0), (9, 0), (0, y0), (0, y1), (9, 0)] [] e') (k0 : ∀ (e' : Dt), o = .inr (e') → G p l e rm_Mo_stand s m args below meth c 0 0 Q 6 D cA ad 1 A 201 [(2, 0), (9, 0), (9, 0), (9, 0), (9, 0), (9, 0)] [] e') : G p l e rm_Mo_stand s m args below meth c 0 0 Q 6 D cA ad 1 A 122 [(2, 0), (9, 0), (9, 0), (0, x3), (0, x4), (9, 0)] [] d := by
  unfold L_Mo_stand_y122 at h
  refine g_iload C 4 rfl (by decide +kernel) ?_
  refine g_iload_n C 3 rfl (by decide +kernel) ?_
  refine g_icmp_ge C (off := 76) (tgt := 201) hx4 hx3 (by decide +kernel) (by decide) (fun hc22_ => ?_) (fun hc22_ => ?_)
  · replace h := ite_t hc22_ h
    refine g_bipush C 20 (by decide) (by decide +kernel) ?_
    refine g_aload_n C 0 rfl (by decide +kernel) ?_
    refine g_getR C cl12 0 66 48 rfl cd_B0 ⟨by decide, rfl, by decide⟩ rfl rfl (nB (by decide)) (ix := 164) lk_1468 (by decide +kernel) ?_
    refine g_iload C 4 rfl (by decide +kernel) ?_
    obtain ⟨hb23_, h⟩ := ck_some h
    refine g_iald C 48 hx4 rfl cd_B48 (nB (by decide)) hb23_ (by decide +kernel) (fun hc24_ => ?_)
    refine g_imul C (by decide +kernel) ?_
    obtain ⟨v25_, ev26_, h⟩ := lt_some h
    refine g_val ev26_.symm ?_
    have hv27_ : c32 v25_ := by rw [ev26_]; exact (w32_c _)
    refine s_istore C 5 (lo' := [(2, 0), (9, 0), (9, 0), (0, x3), (0, x4), (0, v25_)]) (by decide) (s1k (s1k (s1k (s1k (s1n (by decide) s1z))))) (by decide +kernel) ?_
    refine g_sub (lo2 := [(2, 0), (9, 0), (9, 0), (0, x3), (0, x4), (0, v25_)]) (lsb_v (lsb_c (lsb_c (lsb_v (lsb_v (lsb_v lsb_e)))))) ?_
    obtain ⟨x28_, hx29_, h⟩ := lb_some h
    refine ok_Mo_stand_l140 C x3 x4 v25_ d hx3 hx4 hv27_ hx29_ (fun v30_ v31_ d32_ eq33_ hv30_ hv31_ => ?_)
    subst eq33_
    replace h := u2_e h
    refine s_iinc C 4 1 (lo' := [(2, 0), (9, 0), (9, 0), (0, v30_), (0, (w32 (v31_ + 1))), (9, 0)]) rfl (by decide) (s1k (s1k (s1k (s1n (by decide) s1z)))) (by decide +kernel) ?_
    refine g_goto C 122 (off := (-76)) (by decide +kernel) (by decide) ?_
    refine g_sub (lo2 := [(2, 0), (9, 0), (9, 0), (0, v30_), (0, (w32 (v31_ + 1))), (9, 0)]) (lsb_v (lsb_c (lsb_c (lsb_v (lsb_v (lsb_c lsb_e)))))) ?_
    obtain rfl := Option.some.inj h
    exact kb v30_ (w32 (v31_ + 1)) d32_ rfl hv30_ (w32_c _)
  · replace h := ite_f hc22_ h
    refine g_sub (lo2 := [(2, 0), (9, 0), (9, 0), (9, 0), (9, 0), (9, 0)]) (lsb_v (lsb_c (lsb_c (lsb_c (lsb_c (lsb_c lsb_e)))))) ?_
    obtain rfl := Option.some.inj h
    exact k0 d rfl 
set_option maxHeartbeats 4000000 in
theorem ok_Mo_stand_n122 {p : Program} {l : Launch} {e : Env} {s : State} {m : MethodId} {args : Array Value} {below : List Frame} {meth : Method} {c : Code} {D : va_G} {cA : Nat → ClassId} {ad : Nat → Nat} {A : Nat → Prop} (C : Cx p s m args c prog_14_method_58_code 6 "PollBooksModel" D cA ad 1 A) {Q : State → Prop} {x : (Dt)} : ∀ (n : Nat) (x3 x4 : Int) (d : Dt), c32 x3 → c32 x4 → lpF (fun q : Int × Int × Dt => L_Mo_stand_y122 q.1 q.2.1 q.2.2) n (x3, x4, d) = some x → (∀ (e' : Dt), x = (e') → G p l e rm_Mo_stand s m args below meth c 0 0 Q 6 D cA ad 1 A 201 [(2, 0), (9, 0), (9, 0), (9, 0), (9, 0), (9, 0)] [] e') → G p l e rm_Mo_stand s m args below meth c 0 0 Q 6 D cA ad 1 A 122 [(2, 0), (9, 0), (9, 0), (0, x3), (0, x4), (9, 0)] [] d := by
  intro n
  induction n with
  | zero => intro x3 x4 d g0 g1 h k0; cases h
  | succ n ih =>
    intro x3 x4 d g0 g1 h k0
    rcases lpF_some h with h | ⟨⟨v0_, v1_, e0_⟩, h1, h⟩
    · exact ok_Mo_stand_y122 C x3 x4 d g0 g1 h (fun z0_ z1_ e1_ eq w0_ w1_ => by cases eq) (fun e1_ eq => k0 _ (by cases eq; rfl) )
    · exact ok_Mo_stand_y122 C x3 x4 d g0 g1 h1 (fun z0_ z1_ e1_ eq w0_ w1_ => by cases eq; exact ih _ _ _ w0_ w1_ h k0) (fun e1_ eq => by cases eq)
set_option maxHeartbeats 4000000 in
theorem ok_Mo_stand_l122 {p : Program} {l : Launch} {e : Env} {s : State} {m : MethodId} {args : Array Value} {below : List Frame} {meth : Method} {c : Code} {D : va_G} {cA : Nat → ClassId} {ad : Nat → Nat} {A : Nat → Prop} (C : Cx p s m args c prog_14_method_58_code 6 "PollBooksModel" D cA ad 1 A) {Q : State → Prop} {x : (Dt)} (x3 x4 : Int) (d : Dt) (hx3 : c32 x3) (hx4 : c32 x4) (h : L_Mo_stand_l122 x3 x4 d = some x) (k0 : ∀ (e' : Dt), x = (e') → G p l e rm_Mo_stand s m args below meth c 0 0 Q 6 D cA ad 1 A 201 [(2, 0), (9, 0), (9, 0), (9, 0), (9, 0), (9, 0)] [] e') : G p l e rm_Mo_stand s m args below meth c 0 0 Q 6 D cA ad 1 A 122 [(2, 0), (9, 0), (9, 0), (0, x3), (0, x4), (9, 0)] [] d :=
  ok_Mo_stand_n122 C FU x3 x4 d hx3 hx4 h k0
set_option maxHeartbeats 4000000 in
theorem ok_Mo_stand_b285 {p : Program} {l : Launch} {e : Env} {s : State} {m : MethodId} {args : Array Value} {below : List Frame} {meth : Method} {c : Code} {D : va_G} {cA : Nat → ClassId} {ad : Nat → Nat} {A : Nat → Prop} (C : Cx p s m args c prog_14_method_58_code 6 "PollBooksModel" D cA ad 1 A) {Q : State → Prop} {o : (Int × Int × Dt) ⊕ ((Int × Dt))} (x4 x5 s1 s2 : Int) (d : Dt) (hx4 : c32 x4) (hx5 : c32 x5) (hs1 : c32 s1) (hs2 : cb s2) (h : L_Mo_stand_b285 x4 x5 s1 s2 d = some o) (kb : ∀ (y0 y1 : Int) (e' : Dt), o = .inl (y0, y1, e') → c32 y0 → c32 y1 → G p l e rm_Mo_stand s m args below meth c 0 0 Q 6 D cA ad 1 A 227 [(2, 0), (9, 0), (9, 0), (9, 0), (0, y0), (0, y1)] [] e') (k0 : ∀ (y0 : Int) (e' : Dt), o = .inr (y0, e') → c32 y0 → G p l e rm_Mo_stand s m args below meth c 0 0 Q 6 D cA ad 1 A 292 [(2, 0), (9, 0), (9, 0), (9, 0), (0, y0), (9, 0)] [] e') : G p l e rm_Mo_stand s m args below meth c 0 0 Q 6 D cA ad 1 A 285 [(2, 0), (9, 0), (9, 0), (9, 0), (0, x4), (0, x5)] [(0, s2), (0, s1), (2, 49)] d := by
  unfold L_Mo_stand_b285 at h
  obtain ⟨hb35_, h⟩ := ck_some h
  refine g_zast C 49 hs2 hs1 rfl cd_B49 (nB (by decide)) hb35_ (by decide +kernel) ?_
  refine s_iinc C 5 1 (lo' := [(2, 0), (9, 0), (9, 0), (9, 0), (0, x4), (0, (w32 (x5 + 1)))]) rfl (by decide) (s1k (s1k (s1k (s1k (s1n (by decide) s1z))))) (by decide +kernel) ?_
  refine g_goto C 227 (off := (-62)) (by decide +kernel) (by decide) ?_
  refine g_sub (lo2 := [(2, 0), (9, 0), (9, 0), (9, 0), (0, x4), (0, (w32 (x5 + 1)))]) (lsb_v (lsb_c (lsb_c (lsb_c (lsb_v (lsb_v lsb_e)))))) ?_
  obtain rfl := Option.some.inj h
  exact kb x4 (w32 (x5 + 1)) (up2 d 49 s1.toNat s2) rfl hx4 (w32_c _)
set_option maxHeartbeats 4000000 in
theorem ok_Mo_stand_y227 {p : Program} {l : Launch} {e : Env} {s : State} {m : MethodId} {args : Array Value} {below : List Frame} {meth : Method} {c : Code} {D : va_G} {cA : Nat → ClassId} {ad : Nat → Nat} {A : Nat → Prop} (C : Cx p s m args c prog_14_method_58_code 6 "PollBooksModel" D cA ad 1 A) {Q : State → Prop} {o : (Int × Int × Dt) ⊕ ((Int × Dt))} (x4 x5 : Int) (d : Dt) (hx4 : c32 x4) (hx5 : c32 x5) (h : L_Mo_stand_y227 x4 x5 d = some o) (kb : ∀ (y0 y1 : Int) (e' : Dt), o = .inl (y0, y1, e') → c32 y0 → c32 y1 → G p l e rm_Mo_stand s m args below meth c 0 0 Q 6 D cA ad 1 A 227 [(2, 0), (9, 0), (9, 0), (9, 0), (0, y0), (0, y1)] [] e') (k0 : ∀ (y0 : Int) (e' : Dt), o = .inr (y0, e') → c32 y0 → G p l e rm_Mo_stand s m args below meth c 0 0 Q 6 D cA ad 1 A 292 [(2, 0), (9, 0), (9, 0), (9, 0), (0, y0), (9, 0)] [] e') : G p l e rm_Mo_stand s m args below meth c 0 0 Q 6 D cA ad 1 A 227 [(2, 0), (9, 0), (9, 0), (9, 0), (0, x4), (0, x5)] [] d := by
  unfold L_Mo_stand_y227 at h
  refine g_iload C 5 rfl (by decide +kernel) ?_
  refine g_aload_n C 0 rfl (by decide +kernel) ?_
  refine g_getI C cl12 0 68 rfl cd_B0 ⟨by decide, rfl, by decide⟩ rfl (nB (by decide)) (ix := 478) lk_1470 (by decide +kernel) (fun hc36_ => ?_)
  refine g_icmp_ge C (off := 59) (tgt := 292) hx5 hc36_ (by decide +kernel) (by decide) (fun hc37_ => ?_) (fun hc37_ => ?_)
  · replace h := ite_t hc37_ h
    refine g_aload_n C 0 rfl (by decide +kernel) ?_
    refine g_getR C cl12 0 67 49 rfl cd_B0 ⟨by decide, rfl, by decide⟩ rfl rfl (nB (by decide)) (ix := 167) lk_1469 (by decide +kernel) ?_
    refine g_iload C 4 rfl (by decide +kernel) ?_
    refine g_aload_n C 0 rfl (by decide +kernel) ?_
    refine g_getR C cl12 0 67 49 rfl cd_B0 ⟨by decide, rfl, by decide⟩ rfl rfl (nB (by decide)) (ix := 167) lk_1469 (by decide +kernel) ?_
    refine g_iload C 4 rfl (by decide +kernel) ?_
    obtain ⟨hb38_, h⟩ := ck_some h
    refine g_zald C 49 hx4 rfl cd_B49 (nB (by decide)) hb38_ (by decide +kernel) (fun hc39_ => ?_)
    refine g_if_ne C (off := 31) (tgt := 280) (c32_cb hc39_) (by decide +kernel) (by decide) (fun hc40_ => ?_) (fun hc40_ => ?_)
    · replace h := ite_t hc40_ h
      refine g_aload_n C 0 rfl (by decide +kernel) ?_
      refine g_getR C cl12 0 54 36 rfl cd_B0 ⟨by decide, rfl, by decide⟩ rfl rfl (nB (by decide)) (ix := 128) lk_1456 (by decide +kernel) ?_
      refine g_aload_n C 0 rfl (by decide +kernel) ?_
      refine g_getR C cl12 0 65 47 rfl cd_B0 ⟨by decide, rfl, by decide⟩ rfl rfl (nB (by decide)) (ix := 161) lk_1467 (by decide +kernel) ?_
      refine g_iload C 5 rfl (by decide +kernel) ?_
      obtain ⟨hb41_, h⟩ := ck_some h
      refine g_iald C 47 hx5 rfl cd_B47 (nB (by decide)) hb41_ (by decide +kernel) (fun hc42_ => ?_)
      obtain ⟨hb43_, h⟩ := ck_some h
      refine g_lald C 36 hc42_ rfl cd_B36 (nB (by decide)) hb43_ (by decide +kernel) (fun hc44_ => ?_)
      refine g_aload_n C 0 rfl (by decide +kernel) ?_
      refine g_getR C cl12 0 53 35 rfl cd_B0 ⟨by decide, rfl, by decide⟩ rfl rfl (nB (by decide)) (ix := 125) lk_1455 (by decide +kernel) ?_
      refine g_aload_n C 0 rfl (by decide +kernel) ?_
      refine g_getR C cl12 0 65 47 rfl cd_B0 ⟨by decide, rfl, by decide⟩ rfl rfl (nB (by decide)) (ix := 161) lk_1467 (by decide +kernel) ?_
      refine g_iload C 4 rfl (by decide +kernel) ?_
      obtain ⟨hb45_, h⟩ := ck_some h
      refine g_iald C 47 hx4 rfl cd_B47 (nB (by decide)) hb45_ (by decide +kernel) (fun hc46_ => ?_)
      obtain ⟨hb47_, h⟩ := ck_some h
      refine g_lald C 35 hc46_ rfl cd_B35 (nB (by decide)) hb47_ (by decide +kernel) (fun hc48_ => ?_)
      refine g_lc_ne C (off := 7) (tgt := 284) hc44_ hc48_ (by decide +kernel) (by decide +kernel) (by decide) (fun hc49_ => ?_) (fun hc49_ => ?_)
      · replace h := ite_t hc49_ h
        refine g_iconst C 1 (cK rfl) (by decide +kernel) ?_
        refine g_goto C 285 (off := 4) (by decide +kernel) (by decide) ?_
        refine g_sub (lo2 := [(2, 0), (9, 0), (9, 0), (9, 0), (0, x4), (0, x5)]) (lsb_v (lsb_c (lsb_c (lsb_c (lsb_v (lsb_v lsb_e)))))) ?_
        exact ok_Mo_stand_b285 C x4 x5 x4 1 d hx4 hx5 hx4 (Or.inr rfl) h kb k0
      · replace h := ite_f hc49_ h
        refine g_iconst C 0 (cK rfl) (by decide +kernel) ?_
        refine g_sub (lo2 := [(2, 0), (9, 0), (9, 0), (9, 0), (0, x4), (0, x5)]) (lsb_v (lsb_c (lsb_c (lsb_c (lsb_v (lsb_v lsb_e)))))) ?_
        exact ok_Mo_stand_b285 C x4 x5 x4 0 d hx4 hx5 hx4 (Or.inl rfl) h kb k0
    · replace h := ite_f hc40_ h
      refine g_iconst C 1 (cK rfl) (by decide +kernel) ?_
      refine g_goto C 285 (off := 4) (by decide +kernel) (by decide) ?_
      refine g_sub (lo2 := [(2, 0), (9, 0), (9, 0), (9, 0), (0, x4), (0, x5)]) (lsb_v (lsb_c (lsb_c (lsb_c (lsb_v (lsb_v lsb_e)))))) ?_
      exact ok_Mo_stand_b285 C x4 x5 x4 1 d hx4 hx5 hx4 (Or.inr rfl) h kb k0
  · replace h := ite_f hc37_ h
    refine g_sub (lo2 := [(2, 0), (9, 0), (9, 0), (9, 0), (0, x4), (9, 0)]) (lsb_v (lsb_c (lsb_c (lsb_c (lsb_v (lsb_c lsb_e)))))) ?_
    obtain rfl := Option.some.inj h
    exact k0 x4 d rfl hx4
set_option maxHeartbeats 4000000 in
theorem ok_Mo_stand_n227 {p : Program} {l : Launch} {e : Env} {s : State} {m : MethodId} {args : Array Value} {below : List Frame} {meth : Method} {c : Code} {D : va_G} {cA : Nat → ClassId} {ad : Nat → Nat} {A : Nat → Prop} (C : Cx p s m args c prog_14_method_58_code 6 "PollBooksModel" D cA ad 1 A) {Q : State → Prop} {x : (Int × Dt)} : ∀ (n : Nat) (x4 x5 : Int) (d : Dt), c32 x4 → c32 x5 → lpF (fun q : Int × Int × Dt => L_Mo_stand_y227 q.1 q.2.1 q.2.2) n (x4, x5, d) = some x → (∀ (y0 : Int) (e' : Dt), x = (y0, e') → c32 y0 → G p l e rm_Mo_stand s m args below meth c 0 0 Q 6 D cA ad 1 A 292 [(2, 0), (9, 0), (9, 0), (9, 0), (0, y0), (9, 0)] [] e') → G p l e rm_Mo_stand s m args below meth c 0 0 Q 6 D cA ad 1 A 227 [(2, 0), (9, 0), (9, 0), (9, 0), (0, x4), (0, x5)] [] d := by
  intro n
  induction n with
  | zero => intro x4 x5 d g0 g1 h k0; cases h
  | succ n ih =>
    intro x4 x5 d g0 g1 h k0
    rcases lpF_some h with h | ⟨⟨v0_, v1_, e0_⟩, h1, h⟩
    · exact ok_Mo_stand_y227 C x4 x5 d g0 g1 h (fun z0_ z1_ e1_ eq w0_ w1_ => by cases eq) (fun z0_ e1_ eq w0_ => k0 _ _ (by cases eq; rfl) w0_)
    · exact ok_Mo_stand_y227 C x4 x5 d g0 g1 h1 (fun z0_ z1_ e1_ eq w0_ w1_ => by cases eq; exact ih _ _ _ w0_ w1_ h k0) (fun z0_ e1_ eq w0_ => by cases eq)
set_option maxHeartbeats 4000000 in
theorem ok_Mo_stand_l227 {p : Program} {l : Launch} {e : Env} {s : State} {m : MethodId} {args : Array Value} {below : List Frame} {meth : Method} {c : Code} {D : va_G} {cA : Nat → ClassId} {ad : Nat → Nat} {A : Nat → Prop} (C : Cx p s m args c prog_14_method_58_code 6 "PollBooksModel" D cA ad 1 A) {Q : State → Prop} {x : (Int × Dt)} (x4 x5 : Int) (d : Dt) (hx4 : c32 x4) (hx5 : c32 x5) (h : L_Mo_stand_l227 x4 x5 d = some x) (k0 : ∀ (y0 : Int) (e' : Dt), x = (y0, e') → c32 y0 → G p l e rm_Mo_stand s m args below meth c 0 0 Q 6 D cA ad 1 A 292 [(2, 0), (9, 0), (9, 0), (9, 0), (0, y0), (9, 0)] [] e') : G p l e rm_Mo_stand s m args below meth c 0 0 Q 6 D cA ad 1 A 227 [(2, 0), (9, 0), (9, 0), (9, 0), (0, x4), (0, x5)] [] d :=
  ok_Mo_stand_n227 C FU x4 x5 d hx4 hx5 h k0
set_option maxHeartbeats 4000000 in
theorem ok_Mo_stand_y204 {p : Program} {l : Launch} {e : Env} {s : State} {m : MethodId} {args : Array Value} {below : List Frame} {meth : Method} {c : Code} {D : va_G} {cA : Nat → ClassId} {ad : Nat → Nat} {A : Nat → Prop} (C : Cx p s m args c prog_14_method_58_code 6 "PollBooksModel" D cA ad 1 A) {Q : State → Prop} {o : (Int × Dt) ⊕ ((Dt))} (x4 : Int) (d : Dt) (hx4 : c32 x4) (h : L_Mo_stand_y204 x4 d = some o) (kb : ∀ (y0 : Int) (e' : Dt), o = .inl (y0, e') → c32 y0 → G p l e rm_Mo_stand s m args below meth c 0 0 Q 6 D cA ad 1 A 204 [(2, 0), (9, 0), (9, 0), (9, 0), (0, y0), (9, 0)] [] e') (k0 : ∀ (e' : Dt), o = .inr (e') → G p l e rm_Mo_stand s m args below meth c 0 0 Q 6 D cA ad 1 A 298 [(9, 0), (9, 0), (9, 0), (9, 0), (9, 0), (9, 0)] [] e') : G p l e rm_Mo_stand s m args below meth c 0 0 Q 6 D cA ad 1 A 204 [(2, 0), (9, 0), (9, 0), (9, 0), (0, x4), (9, 0)] [] d := by
  unfold L_Mo_stand_y204 at h
  refine g_iload C 4 rfl (by decide +kernel) ?_
  refine g_aload_n C 0 rfl (by decide +kernel) ?_
  refine g_getI C cl12 0 68 rfl cd_B0 ⟨by decide, rfl, by decide⟩ rfl (nB (by decide)) (ix := 478) lk_1470 (by decide +kernel) (fun hc50_ => ?_)
  refine g_icmp_ge C (off := 88) (tgt := 298) hx4 hc50_ (by decide +kernel) (by decide) (fun hc51_ => ?_) (fun hc51_ => ?_)
  · replace h := ite_t hc51_ h
    refine g_aload_n C 0 rfl (by decide +kernel) ?_
    refine g_getR C cl12 0 67 49 rfl cd_B0 ⟨by decide, rfl, by decide⟩ rfl rfl (nB (by decide)) (ix := 167) lk_1469 (by decide +kernel) ?_
    refine g_iload C 4 rfl (by decide +kernel) ?_
    refine g_iconst C 0 (cK rfl) (by decide +kernel) ?_
    obtain ⟨hb52_, h⟩ := ck_some h
    refine g_zast C 49 (Or.inl rfl) hx4 rfl cd_B49 (nB (by decide)) hb52_ (by decide +kernel) ?_
    refine g_iload C 4 rfl (by decide +kernel) ?_
    refine g_iconst C 1 (cK rfl) (by decide +kernel) ?_
    refine g_iadd C (by decide +kernel) ?_
    obtain ⟨v53_, ev54_, h⟩ := lt_some h
    refine g_val ev54_.symm ?_
    have hv55_ : c32 v53_ := by rw [ev54_]; exact (w32_c _)
    refine s_istore C 5 (lo' := [(2, 0), (9, 0), (9, 0), (9, 0), (0, x4), (0, v53_)]) (by decide) (s1k (s1k (s1k (s1k (s1n (by decide) s1z))))) (by decide +kernel) ?_
    refine g_sub (lo2 := [(2, 0), (9, 0), (9, 0), (9, 0), (0, x4), (0, v53_)]) (lsb_v (lsb_c (lsb_c (lsb_c (lsb_v (lsb_v lsb_e)))))) ?_
    obtain ⟨x56_, hx57_, h⟩ := lb_some h
    refine ok_Mo_stand_l227 C x4 v53_ (up2 d 49 x4.toNat 0) hx4 hv55_ hx57_ (fun v58_ d59_ eq60_ hv58_ => ?_)
    subst eq60_
    replace h := u1_e h
    refine s_iinc C 4 1 (lo' := [(2, 0), (9, 0), (9, 0), (9, 0), (0, (w32 (v58_ + 1))), (9, 0)]) rfl (by decide) (s1k (s1k (s1k (s1n (by decide) s1z)))) (by decide +kernel) ?_
    refine g_goto C 204 (off := (-91)) (by decide +kernel) (by decide) ?_
    refine g_sub (lo2 := [(2, 0), (9, 0), (9, 0), (9, 0), (0, (w32 (v58_ + 1))), (9, 0)]) (lsb_v (lsb_c (lsb_c (lsb_c (lsb_v (lsb_c lsb_e)))))) ?_
    obtain rfl := Option.some.inj h
    exact kb (w32 (v58_ + 1)) d59_ rfl (w32_c _)
  · replace h := ite_f hc51_ h
    refine g_sub (lo2 := [(9, 0), (9, 0), (9, 0), (9, 0), (9, 0), (9, 0)]) (lsb_c (lsb_c (lsb_c (lsb_c (lsb_c (lsb_c lsb_e)))))) ?_
    obtain rfl := Option.some.inj h
    exact k0 d rfl 
set_option maxHeartbeats 4000000 in
theorem ok_Mo_stand_n204 {p : Program} {l : Launch} {e : Env} {s : State} {m : MethodId} {args : Array Value} {below : List Frame} {meth : Method} {c : Code} {D : va_G} {cA : Nat → ClassId} {ad : Nat → Nat} {A : Nat → Prop} (C : Cx p s m args c prog_14_method_58_code 6 "PollBooksModel" D cA ad 1 A) {Q : State → Prop} {x : (Dt)} : ∀ (n : Nat) (x4 : Int) (d : Dt), c32 x4 → lpF (fun q : Int × Dt => L_Mo_stand_y204 q.1 q.2) n (x4, d) = some x → (∀ (e' : Dt), x = (e') → G p l e rm_Mo_stand s m args below meth c 0 0 Q 6 D cA ad 1 A 298 [(9, 0), (9, 0), (9, 0), (9, 0), (9, 0), (9, 0)] [] e') → G p l e rm_Mo_stand s m args below meth c 0 0 Q 6 D cA ad 1 A 204 [(2, 0), (9, 0), (9, 0), (9, 0), (0, x4), (9, 0)] [] d := by
  intro n
  induction n with
  | zero => intro x4 d g0 h k0; cases h
  | succ n ih =>
    intro x4 d g0 h k0
    rcases lpF_some h with h | ⟨⟨v0_, e0_⟩, h1, h⟩
    · exact ok_Mo_stand_y204 C x4 d g0 h (fun z0_ e1_ eq w0_ => by cases eq) (fun e1_ eq => k0 _ (by cases eq; rfl) )
    · exact ok_Mo_stand_y204 C x4 d g0 h1 (fun z0_ e1_ eq w0_ => by cases eq; exact ih _ _ w0_ h k0) (fun e1_ eq => by cases eq)
set_option maxHeartbeats 4000000 in
theorem ok_Mo_stand_l204 {p : Program} {l : Launch} {e : Env} {s : State} {m : MethodId} {args : Array Value} {below : List Frame} {meth : Method} {c : Code} {D : va_G} {cA : Nat → ClassId} {ad : Nat → Nat} {A : Nat → Prop} (C : Cx p s m args c prog_14_method_58_code 6 "PollBooksModel" D cA ad 1 A) {Q : State → Prop} {x : (Dt)} (x4 : Int) (d : Dt) (hx4 : c32 x4) (h : L_Mo_stand_l204 x4 d = some x) (k0 : ∀ (e' : Dt), x = (e') → G p l e rm_Mo_stand s m args below meth c 0 0 Q 6 D cA ad 1 A 298 [(9, 0), (9, 0), (9, 0), (9, 0), (9, 0), (9, 0)] [] e') : G p l e rm_Mo_stand s m args below meth c 0 0 Q 6 D cA ad 1 A 204 [(2, 0), (9, 0), (9, 0), (9, 0), (0, x4), (9, 0)] [] d :=
  ok_Mo_stand_n204 C FU x4 d hx4 h k0
set_option maxHeartbeats 4000000 in
theorem ok_Mo_stand_b108 {p : Program} {l : Launch} {e : Env} {s : State} {m : MethodId} {args : Array Value} {below : List Frame} {meth : Method} {c : Code} {D : va_G} {cA : Nat → ClassId} {ad : Nat → Nat} {A : Nat → Prop} (C : Cx p s m args c prog_14_method_58_code 6 "PollBooksModel" D cA ad 1 A) {Q : State → Prop} {o : (Int × Int × Int × Int × Dt) ⊕ ((Int × Dt))} (x1 x2 x3 x4 : Int) (d : Dt) (hx1 : c32 x1) (hx2 : c32 x2) (hx3 : c32 x3) (hx4 : c32 x4) (h : L_Mo_stand_b108 x1 x2 x3 x4 d = some o) (kb : ∀ (y0 y1 y2 y3 : Int) (e' : Dt), o = .inl (y0, y1, y2, y3, e') → c32 y0 → c32 y1 → c32 y2 → c32 y3 → G p l e rm_Mo_stand s m args below meth c 0 0 Q 6 D cA ad 1 A 5 [(2, 0), (0, y0), (0, y1), (0, y2), (0, y3), (9, 0)] [] e') (k0 : ∀ (y0 : Int) (e' : Dt), o = .inr (y0, e') → c32 y0 → G p l e rm_Mo_stand s m args below meth c 0 0 Q 6 D cA ad 1 A 114 [(2, 0), (9, 0), (9, 0), (0, y0), (9, 0), (9, 0)] [] e') : G p l e rm_Mo_stand s m args below meth c 0 0 Q 6 D cA ad 1 A 108 [(2, 0), (0, x1), (0, x2), (0, x3), (0, x4), (9, 0)] [] d := by
  unfold L_Mo_stand_b108 at h
  refine s_iinc C 4 1 (lo' := [(2, 0), (0, x1), (0, x2), (0, x3), (0, (w32 (x4 + 1))), (9, 0)]) rfl (by decide) (s1k (s1k (s1k (s1n (by decide) s1z)))) (by decide +kernel) ?_
  refine g_goto C 5 (off := (-106)) (by decide +kernel) (by decide) ?_
  refine g_sub (lo2 := [(2, 0), (0, x1), (0, x2), (0, x3), (0, (w32 (x4 + 1))), (9, 0)]) (lsb_v (lsb_v (lsb_v (lsb_v (lsb_v (lsb_c lsb_e)))))) ?_
  obtain rfl := Option.some.inj h
  exact kb x1 x2 x3 (w32 (x4 + 1)) d rfl hx1 hx2 hx3 (w32_c _)
set_option maxHeartbeats 4000000 in
theorem ok_Mo_stand_b96 {p : Program} {l : Launch} {e : Env} {s : State} {m : MethodId} {args : Array Value} {below : List Frame} {meth : Method} {c : Code} {D : va_G} {cA : Nat → ClassId} {ad : Nat → Nat} {A : Nat → Prop} (C : Cx p s m args c prog_14_method_58_code 6 "PollBooksModel" D cA ad 1 A) {Q : State → Prop} {o : (Int × Int × Int × Int × Dt) ⊕ ((Int × Dt))} (x1 x2 x3 x4 x5 : Int) (d : Dt) (hx1 : c32 x1) (hx2 : c32 x2) (hx3 : c32 x3) (hx4 : c32 x4) (hx5 : c32 x5) (h : L_Mo_stand_b96 x1 x2 x3 x4 x5 d = some o) (kb : ∀ (y0 y1 y2 y3 : Int) (e' : Dt), o = .inl (y0, y1, y2, y3, e') → c32 y0 → c32 y1 → c32 y2 → c32 y3 → G p l e rm_Mo_stand s m args below meth c 0 0 Q 6 D cA ad 1 A 5 [(2, 0), (0, y0), (0, y1), (0, y2), (0, y3), (9, 0)] [] e') (k0 : ∀ (y0 : Int) (e' : Dt), o = .inr (y0, e') → c32 y0 → G p l e rm_Mo_stand s m args below meth c 0 0 Q 6 D cA ad 1 A 114 [(2, 0), (9, 0), (9, 0), (0, y0), (9, 0), (9, 0)] [] e') : G p l e rm_Mo_stand s m args below meth c 0 0 Q 6 D cA ad 1 A 96 [(2, 0), (0, x1), (0, x2), (0, x3), (0, x4), (0, x5)] [] d := by
  unfold L_Mo_stand_b96 at h
  refine g_aload_n C 0 rfl (by decide +kernel) ?_
  refine g_getR C cl12 0 66 48 rfl cd_B0 ⟨by decide, rfl, by decide⟩ rfl rfl (nB (by decide)) (ix := 164) lk_1468 (by decide +kernel) ?_
  refine g_iload C 5 rfl (by decide +kernel) ?_
  refine g_iload C 4 rfl (by decide +kernel) ?_
  obtain ⟨hb62_, h⟩ := ck_some h
  refine g_iast C 48 hx4 hx5 rfl cd_B48 (nB (by decide)) hb62_ (by decide +kernel) ?_
  refine s_iinc C 3 1 (lo' := [(2, 0), (0, x1), (0, x2), (0, (w32 (x3 + 1))), (0, x4), (0, x5)]) rfl (by decide) (s1k (s1k (s1n (by decide) s1z))) (by decide +kernel) ?_
  refine g_sub (lo2 := [(2, 0), (0, x1), (0, x2), (0, (w32 (x3 + 1))), (0, x4), (9, 0)]) (lsb_v (lsb_v (lsb_v (lsb_v (lsb_v (lsb_c lsb_e)))))) ?_
  exact ok_Mo_stand_b108 C x1 x2 (w32 (x3 + 1)) x4 (up2 d 48 x5.toNat x4) hx1 hx2 (w32_c _) hx4 h kb k0
set_option maxHeartbeats 4000000 in
theorem ok_Mo_stand_y5 {p : Program} {l : Launch} {e : Env} {s : State} {m : MethodId} {args : Array Value} {below : List Frame} {meth : Method} {c : Code} {D : va_G} {cA : Nat → ClassId} {ad : Nat → Nat} {A : Nat → Prop} (C : Cx p s m args c prog_14_method_58_code 6 "PollBooksModel" D cA ad 1 A) {Q : State → Prop} {o : (Int × Int × Int × Int × Dt) ⊕ ((Int × Dt))} (x1 x2 x3 x4 : Int) (d : Dt) (hx1 : c32 x1) (hx2 : c32 x2) (hx3 : c32 x3) (hx4 : c32 x4) (h : L_Mo_stand_y5 x1 x2 x3 x4 d = some o) (kb : ∀ (y0 y1 y2 y3 : Int) (e' : Dt), o = .inl (y0, y1, y2, y3, e') → c32 y0 → c32 y1 → c32 y2 → c32 y3 → G p l e rm_Mo_stand s m args below meth c 0 0 Q 6 D cA ad 1 A 5 [(2, 0), (0, y0), (0, y1), (0, y2), (0, y3), (9, 0)] [] e') (k0 : ∀ (y0 : Int) (e' : Dt), o = .inr (y0, e') → c32 y0 → G p l e rm_Mo_stand s m args below meth c 0 0 Q 6 D cA ad 1 A 114 [(2, 0), (9, 0), (9, 0), (0, y0), (9, 0), (9, 0)] [] e') : G p l e rm_Mo_stand s m args below meth c 0 0 Q 6 D cA ad 1 A 5 [(2, 0), (0, x1), (0, x2), (0, x3), (0, x4), (9, 0)] [] d := by
  unfold L_Mo_stand_y5 at h
  refine g_iload C 4 rfl (by decide +kernel) ?_
  refine g_aload_n C 0 rfl (by decide +kernel) ?_
  refine g_getI C cl12 0 41 rfl cd_B0 ⟨by decide, rfl, by decide⟩ rfl (nB (by decide)) (ix := 456) lk_1443 (by decide +kernel) (fun hc63_ => ?_)
  refine g_icmp_ge C (off := 103) (tgt := 114) hx4 hc63_ (by decide +kernel) (by decide) (fun hc64_ => ?_) (fun hc64_ => ?_)
  · replace h := ite_t hc64_ h
    refine g_aload_n C 0 rfl (by decide +kernel) ?_
    refine g_getR C cl12 0 44 26 rfl cd_B0 ⟨by decide, rfl, by decide⟩ rfl rfl (nB (by decide)) (ix := 98) lk_1446 (by decide +kernel) ?_
    refine g_iload C 4 rfl (by decide +kernel) ?_
    obtain ⟨hb65_, h⟩ := ck_some h
    refine g_iald C 26 hx4 rfl cd_B26 (nB (by decide)) hb65_ (by decide +kernel) (fun hc66_ => ?_)
    refine g_iload_n C 2 rfl (by decide +kernel) ?_
    refine g_icmp_gt C (off := 86) (tgt := 108) hc66_ hx2 (by decide +kernel) (by decide) (fun hc67_ => ?_) (fun hc67_ => ?_)
    · replace h := ite_t hc67_ h
      refine g_sub (lo2 := [(2, 0), (0, x1), (0, x2), (0, x3), (0, x4), (9, 0)]) (lsb_v (lsb_v (lsb_v (lsb_v (lsb_v (lsb_c lsb_e)))))) ?_
      exact ok_Mo_stand_b108 C x1 x2 x3 x4 d hx1 hx2 hx3 hx4 h kb k0
    · replace h := ite_f hc67_ h
      refine g_aload_n C 0 rfl (by decide +kernel) ?_
      refine g_getR C cl12 0 45 27 rfl cd_B0 ⟨by decide, rfl, by decide⟩ rfl rfl (nB (by decide)) (ix := 101) lk_1447 (by decide +kernel) ?_
      refine g_iload C 4 rfl (by decide +kernel) ?_
      obtain ⟨hb68_, h⟩ := ck_some h
      refine g_iald C 27 hx4 rfl cd_B27 (nB (by decide)) hb68_ (by decide +kernel) (fun hc69_ => ?_)
      refine g_iload_n C 1 rfl (by decide +kernel) ?_
      refine g_ishr C (by decide +kernel) ?_
      refine g_iconst C 1 (cK rfl) (by decide +kernel) ?_
      refine g_iand C (by decide +kernel) ?_
      refine g_if_ne C (off := 6) (tgt := 42) (i_c _) (by decide +kernel) (by decide) (fun hc70_ => ?_) (fun hc70_ => ?_)
      · replace h := ite_t hc70_ h
        refine g_goto C 108 (off := 69) (by decide +kernel) (by decide) ?_
        refine g_sub (lo2 := [(2, 0), (0, x1), (0, x2), (0, x3), (0, x4), (9, 0)]) (lsb_v (lsb_v (lsb_v (lsb_v (lsb_v (lsb_c lsb_e)))))) ?_
        exact ok_Mo_stand_b108 C x1 x2 x3 x4 d hx1 hx2 hx3 hx4 h kb k0
      · replace h := ite_f hc70_ h
        refine g_iload_n C 3 rfl (by decide +kernel) ?_
        refine s_istore C 5 (lo' := [(2, 0), (0, x1), (0, x2), (0, x3), (0, x4), (0, x3)]) (by decide) (s1k (s1k (s1k (s1k (s1n (by decide) s1z))))) (by decide +kernel) ?_
        refine g_sub (lo2 := [(2, 0), (0, x1), (0, x2), (0, x3), (0, x4), (0, x3)]) (lsb_v (lsb_v (lsb_v (lsb_v (lsb_v (lsb_v lsb_e)))))) ?_
        obtain ⟨x71_, hx72_, h⟩ := lb_some h
        refine ok_Mo_stand_l45 C x1 x2 x3 x4 x3 d hx1 hx2 hx3 hx4 hx3 hx72_ (fun v73_ v74_ v75_ v76_ v77_ d78_ eq79_ hv73_ hv74_ hv75_ hv76_ hv77_ => ?_)
        subst eq79_
        replace h := u5_e h
        refine g_sub (lo2 := [(2, 0), (0, v73_), (0, v74_), (0, v75_), (0, v76_), (0, v77_)]) (lsb_v (lsb_v (lsb_v (lsb_v (lsb_v (lsb_v lsb_e)))))) ?_
        exact ok_Mo_stand_b96 C v73_ v74_ v75_ v76_ v77_ d78_ hv73_ hv74_ hv75_ hv76_ hv77_ h kb k0
  · replace h := ite_f hc64_ h
    refine g_sub (lo2 := [(2, 0), (9, 0), (9, 0), (0, x3), (9, 0), (9, 0)]) (lsb_v (lsb_c (lsb_c (lsb_v (lsb_c (lsb_c lsb_e)))))) ?_
    obtain rfl := Option.some.inj h
    exact k0 x3 d rfl hx3
set_option maxHeartbeats 4000000 in
theorem ok_Mo_stand_n5 {p : Program} {l : Launch} {e : Env} {s : State} {m : MethodId} {args : Array Value} {below : List Frame} {meth : Method} {c : Code} {D : va_G} {cA : Nat → ClassId} {ad : Nat → Nat} {A : Nat → Prop} (C : Cx p s m args c prog_14_method_58_code 6 "PollBooksModel" D cA ad 1 A) {Q : State → Prop} {x : (Int × Dt)} : ∀ (n : Nat) (x1 x2 x3 x4 : Int) (d : Dt), c32 x1 → c32 x2 → c32 x3 → c32 x4 → lpF (fun q : Int × Int × Int × Int × Dt => L_Mo_stand_y5 q.1 q.2.1 q.2.2.1 q.2.2.2.1 q.2.2.2.2) n (x1, x2, x3, x4, d) = some x → (∀ (y0 : Int) (e' : Dt), x = (y0, e') → c32 y0 → G p l e rm_Mo_stand s m args below meth c 0 0 Q 6 D cA ad 1 A 114 [(2, 0), (9, 0), (9, 0), (0, y0), (9, 0), (9, 0)] [] e') → G p l e rm_Mo_stand s m args below meth c 0 0 Q 6 D cA ad 1 A 5 [(2, 0), (0, x1), (0, x2), (0, x3), (0, x4), (9, 0)] [] d := by
  intro n
  induction n with
  | zero => intro x1 x2 x3 x4 d g0 g1 g2 g3 h k0; cases h
  | succ n ih =>
    intro x1 x2 x3 x4 d g0 g1 g2 g3 h k0
    rcases lpF_some h with h | ⟨⟨v0_, v1_, v2_, v3_, e0_⟩, h1, h⟩
    · exact ok_Mo_stand_y5 C x1 x2 x3 x4 d g0 g1 g2 g3 h (fun z0_ z1_ z2_ z3_ e1_ eq w0_ w1_ w2_ w3_ => by cases eq) (fun z0_ e1_ eq w0_ => k0 _ _ (by cases eq; rfl) w0_)
    · exact ok_Mo_stand_y5 C x1 x2 x3 x4 d g0 g1 g2 g3 h1 (fun z0_ z1_ z2_ z3_ e1_ eq w0_ w1_ w2_ w3_ => by cases eq; exact ih _ _ _ _ _ w0_ w1_ w2_ w3_ h k0) (fun z0_ e1_ eq w0_ => by cases eq)
set_option maxHeartbeats 4000000 in
theorem ok_Mo_stand_l5 {p : Program} {l : Launch} {e : Env} {s : State} {m : MethodId} {args : Array Value} {below : List Frame} {meth : Method} {c : Code} {D : va_G} {cA : Nat → ClassId} {ad : Nat → Nat} {A : Nat → Prop} (C : Cx p s m args c prog_14_method_58_code 6 "PollBooksModel" D cA ad 1 A) {Q : State → Prop} {x : (Int × Dt)} (x1 x2 x3 x4 : Int) (d : Dt) (hx1 : c32 x1) (hx2 : c32 x2) (hx3 : c32 x3) (hx4 : c32 x4) (h : L_Mo_stand_l5 x1 x2 x3 x4 d = some x) (k0 : ∀ (y0 : Int) (e' : Dt), x = (y0, e') → c32 y0 → G p l e rm_Mo_stand s m args below meth c 0 0 Q 6 D cA ad 1 A 114 [(2, 0), (9, 0), (9, 0), (0, y0), (9, 0), (9, 0)] [] e') : G p l e rm_Mo_stand s m args below meth c 0 0 Q 6 D cA ad 1 A 5 [(2, 0), (0, x1), (0, x2), (0, x3), (0, x4), (9, 0)] [] d :=
  ok_Mo_stand_n5 C FU x1 x2 x3 x4 d hx1 hx2 hx3 hx4 h k0
set_option maxHeartbeats 4000000 in
theorem ok_Mo_stand {l : Launch} {r : Int} {d' : Dt} (p1 p2 : Int) (d : Dt) (hp1 : c32 p1) (hp2 : c32 p2) (h : L_Mo_stand p1 p2 d = some (r, d')) : MC l y_Mo_stand prog_14_method_58_code 6 none rm_Mo_stand 1 [(2, 0), (0, p1), (0, p2)] d none d' := by
  refine MC.of (by decide) (Nat.le_of_ble_eq_true rfl) ?_
  intro p e s m args below meth c D cA ad A C hlk hr
  replace C : Cx p s m args c prog_14_method_58_code 6 "PollBooksModel" D cA ad 1 A := C
  show G p l e rm_Mo_stand s m args below meth c 0 0 (MQ below (fun _ => QC D cA ad 1 A none none d') args s 0 0 A) 6 D cA ad 1 A 0 [(2, 0), (0, p1), (0, p2)] [] d
  refine g_sub (lo2 := [(2, 0), (0, p1), (0, p2), (9, 0), (9, 0), (9, 0)]) (lsb_v (lsb_v (lsb_v (lsb_n (lsb_n (lsb_n lsb_e)))))) ?_
  unfold L_Mo_stand at h
  refine g_iconst C 0 (cK rfl) (by decide +kernel) ?_
  refine s_istore_n C 3 (lo' := [(2, 0), (0, p1), (0, p2), (0, 0), (9, 0), (9, 0)]) (by decide) (s1k (s1k (s1n (by decide) s1z))) (by decide +kernel) ?_
  refine g_iconst C 0 (cK rfl) (by decide +kernel) ?_
  refine s_istore C 4 (lo' := [(2, 0), (0, p1), (0, p2), (0, 0), (0, 0), (9, 0)]) (by decide) (s1k (s1k (s1k (s1n (by decide) s1z)))) (by decide +kernel) ?_
  refine g_sub (lo2 := [(2, 0), (0, p1), (0, p2), (0, 0), (0, 0), (9, 0)]) (lsb_v (lsb_v (lsb_v (lsb_v (lsb_v (lsb_c lsb_e)))))) ?_
  obtain ⟨x81_, hx82_, h⟩ := lb_some h
  refine ok_Mo_stand_l5 C p1 p2 0 0 d hp1 hp2 (c32_cb (Or.inl rfl)) (c32_cb (Or.inl rfl)) hx82_ (fun v83_ d84_ eq85_ hv83_ => ?_)
  subst eq85_
  replace h := u1_e h
  refine g_aload_n C 0 rfl (by decide +kernel) ?_
  refine g_iconst C 0 (cK rfl) (by decide +kernel) ?_
  refine g_putI C cl12 0 68 (c32_cb (Or.inl rfl)) rfl cd_B0 ⟨by decide, rfl, by decide⟩ rfl (nB (by decide)) (ix := 478) lk_1470 rfl rfl (by decide +kernel) ?_
  refine g_iconst C 0 (cK rfl) (by decide +kernel) ?_
  refine s_istore C 4 (lo' := [(2, 0), (9, 0), (9, 0), (0, v83_), (0, 0), (9, 0)]) (by decide) (s1k (s1k (s1k (s1n (by decide) s1z)))) (by decide +kernel) ?_
  refine g_sub (lo2 := [(2, 0), (9, 0), (9, 0), (0, v83_), (0, 0), (9, 0)]) (lsb_v (lsb_c (lsb_c (lsb_v (lsb_v (lsb_c lsb_e)))))) ?_
  obtain ⟨x86_, hx87_, h⟩ := lb_some h
  refine ok_Mo_stand_l122 C v83_ 0 (up2 d84_ 0 68 0) hv83_ (c32_cb (Or.inl rfl)) hx87_ (fun d88_ eq89_ => ?_)
  replace eq89_ := eq89_.symm
  subst eq89_
  replace h := u0_e h
  refine g_iconst C 0 (cK rfl) (by decide +kernel) ?_
  refine s_istore C 4 (lo' := [(2, 0), (9, 0), (9, 0), (9, 0), (0, 0), (9, 0)]) (by decide) (s1k (s1k (s1k (s1n (by decide) s1z)))) (by decide +kernel) ?_
  refine g_sub (lo2 := [(2, 0), (9, 0), (9, 0), (9, 0), (0, 0), (9, 0)]) (lsb_v (lsb_c (lsb_c (lsb_c (lsb_v (lsb_c lsb_e)))))) ?_
  obtain ⟨x90_, hx91_, h⟩ := lb_some h
  refine ok_Mo_stand_l204 C 0 d88_ (c32_cb (Or.inl rfl)) hx91_ (fun d92_ eq93_ => ?_)
  replace eq93_ := eq93_.symm
  subst eq93_
  replace h := u0_e h
  obtain ⟨rfl, rfl⟩ := ret_inj h
  exact g_vret C hlk hr (by decide +kernel)
/-! PollBooksModel.rules(II)I -/
def y_Mo_rules : MethodName := ⟨"PollBooksModel", "rules", "(II)I"⟩
def rm_Mo_rules : Room := { frames := 1, cells := 0, slots := 0, locals := 25 }
theorem mw_Mo_rules : MW y_Mo_rules prog_14_method_59_code 3 (some .int) 2 := ⟨lk_1993, lk_14, by decide +kernel⟩
def L_Mo_rules_b14 (d : Dt) : Option (Int × Dt) :=
  bd (L_Mo_refuse 1 d) (fun r2_ d1_ => some (r2_, d1_))
def L_Mo_rules (p1 p2 : Int) (d : Dt) : Option (Int × Dt) :=
  bd (L_Mo_isPlace p1 d) (fun r6_ d5_ => if r6_ = 0 then L_Mo_rules_b14 d5_ else bd (L_Mo_isDay p2 d5_) (fun r11_ d10_ => if r11_ = 0 then L_Mo_rules_b14 d10_ else bd (L_Mo_stand p1 p2 d10_) (fun r16_ d15_ => bd (L_Mo_gives (d15_ 0 68) d15_) (fun r21_ d20_ => some (r21_, d20_)))))
set_option maxHeartbeats 4000000 in
theorem ok_Mo_rules_b14 {p : Program} {l : Launch} {e : Env} {s : State} {m : MethodId} {args : Array Value} {below : List Frame} {meth : Method} {c : Code} {D : va_G} {cA : Nat → ClassId} {ad : Nat → Nat} {A : Nat → Prop} (C : Cx p s m args c prog_14_method_59_code 3 "PollBooksModel" D cA ad 1 A) (hlk : meth.locks = false) (hr : meth.sig.returnType = (some .int)) {r : Int} {d' : Dt} (d : Dt)  (h : L_Mo_rules_b14 d = some (r, d')) : G p l e rm_Mo_rules s m args below meth c 0 0 (MQ below (fun _ => QC D cA ad 1 A (some .int) (some (0, r)) d') args s 0 0 A) 3 D cA ad 1 A 14 [(2, 0), (9, 0), (9, 0)] [] d := by
  unfold L_Mo_rules_b14 at h
  refine g_aload_n C 0 rfl (by decide +kernel) ?_
  refine g_iconst C 1 (cK rfl) (by decide +kernel) ?_
  obtain ⟨r2_, d1_, hr3_, h⟩ := bd_some h
  refine g_callV C mw_Mo_refuse [(0, 1)] 0 cl12 rfl (ok_Mo_refuse 1 d (c32_cb (Or.inr rfl)) hr3_) cd_B0 (by decide) (nB (by decide)) (ix := 316) lk_1787 lk_1789 lkp_61 ⟨rfl, rfl, Nat.le_of_ble_eq_true rfl, Nat.le_of_ble_eq_true rfl⟩ rfl (rest := []) rfl (Nat.le_of_ble_eq_true rfl) ⟨Nat.zero_le _, Nat.zero_le _⟩ (by decide +kernel) (fun _ hc4_ => ?_)
  replace hc4_ : c32 r2_ := hc4_
  refine g_st (st2 := [(0, r2_)]) rfl ?_
  obtain ⟨rfl, rfl⟩ := ret_inj h
  exact g_iret C hc4_ hlk hr (by decide +kernel)
set_option maxHeartbeats 4000000 in
theorem ok_Mo_rules {l : Launch} {r : Int} {d' : Dt} (p1 p2 : Int) (d : Dt) (hp1 : c32 p1) (hp2 : c32 p2) (h : L_Mo_rules p1 p2 d = some (r, d')) : MC l y_Mo_rules prog_14_method_59_code 3 (some .int) rm_Mo_rules 1 [(2, 0), (0, p1), (0, p2)] d (some (0, r)) d' := by
  refine MC.of (by decide) (Nat.le_of_ble_eq_true rfl) ?_
  intro p e s m args below meth c D cA ad A C hlk hr
  replace C : Cx p s m args c prog_14_method_59_code 3 "PollBooksModel" D cA ad 1 A := C
  show G p l e rm_Mo_rules s m args below meth c 0 0 (MQ below (fun _ => QC D cA ad 1 A (some .int) (some (0, r)) d') args s 0 0 A) 3 D cA ad 1 A 0 [(2, 0), (0, p1), (0, p2)] [] d
  refine g_sub (lo2 := [(2, 0), (0, p1), (0, p2)]) (lsb_v (lsb_v (lsb_v lsb_e))) ?_
  unfold L_Mo_rules at h
  refine g_iload_n C 1 rfl (by decide +kernel) ?_
  obtain ⟨r6_, d5_, hr7_, h⟩ := bd_some h
  refine g_callS C mw_Mo_isPlace [(0, p1)] (ok_Mo_isPlace p1 d hp1 hr7_) (ix := 325) lk_1798 lk_1799 ⟨rfl, rfl, Nat.le_of_ble_eq_true rfl, Nat.le_of_ble_eq_true rfl⟩ rfl (rest := []) rfl (Nat.le_of_ble_eq_true rfl) ⟨Nat.zero_le _, Nat.zero_le _⟩ (by decide +kernel) (fun _ hc8_ => ?_)
  replace hc8_ : cb r6_ := hc8_
  refine g_st (st2 := [(0, r6_)]) rfl ?_
  refine g_if_eq C (off := 10) (tgt := 14) (c32_cb hc8_) (by decide +kernel) (by decide) (fun hc9_ => ?_) (fun hc9_ => ?_)
  · replace h := ite_t hc9_ h
    refine g_sub (lo2 := [(2, 0), (9, 0), (9, 0)]) (lsb_v (lsb_c (lsb_c lsb_e))) ?_
    exact ok_Mo_rules_b14 C hlk hr d5_  h
  · replace h := ite_f hc9_ h
    refine g_iload_n C 2 rfl (by decide +kernel) ?_
    obtain ⟨r11_, d10_, hr12_, h⟩ := bd_some h
    refine g_callS C mw_Mo_isDay [(0, p2)] (ok_Mo_isDay p2 d5_ hp2 hr12_) (ix := 340) lk_1815 lk_1816 ⟨rfl, rfl, Nat.le_of_ble_eq_true rfl, Nat.le_of_ble_eq_true rfl⟩ rfl (rest := []) rfl (Nat.le_of_ble_eq_true rfl) ⟨Nat.zero_le _, Nat.zero_le _⟩ (by decide +kernel) (fun _ hc13_ => ?_)
    replace hc13_ : cb r11_ := hc13_
    refine g_st (st2 := [(0, r11_)]) rfl ?_
    refine g_if_ne C (off := 9) (tgt := 20) (c32_cb hc13_) (by decide +kernel) (by decide) (fun hc14_ => ?_) (fun hc14_ => ?_)
    · replace h := ite_t hc14_ h
      refine g_sub (lo2 := [(2, 0), (9, 0), (9, 0)]) (lsb_v (lsb_c (lsb_c lsb_e))) ?_
      exact ok_Mo_rules_b14 C hlk hr d10_  h
    · replace h := ite_f hc14_ h
      refine g_aload_n C 0 rfl (by decide +kernel) ?_
      refine g_iload_n C 1 rfl (by decide +kernel) ?_
      refine g_iload_n C 2 rfl (by decide +kernel) ?_
      obtain ⟨r16_, d15_, hr17_, h⟩ := bd_some h
      refine g_callV C mw_Mo_stand [(0, p1), (0, p2)] 0 cl12 rfl (ok_Mo_stand p1 p2 d10_ hp1 hp2 hr17_) cd_B0 (by decide) (nB (by decide)) (ix := 481) lk_1994 lk_1996 lkp_84 ⟨rfl, rfl, Nat.le_of_ble_eq_true rfl, Nat.le_of_ble_eq_true rfl⟩ rfl (rest := []) rfl (Nat.le_of_ble_eq_true rfl) ⟨Nat.zero_le _, Nat.zero_le _⟩ (by decide +kernel) (fun _ hc18_ => ?_)
      refine g_st (st2 := []) rfl ?_
      refine g_aload_n C 0 rfl (by decide +kernel) ?_
      refine g_aload_n C 0 rfl (by decide +kernel) ?_
      refine g_getI C cl12 0 68 rfl cd_B0 ⟨by decide, rfl, by decide⟩ rfl (nB (by decide)) (ix := 478) lk_1470 (by decide +kernel) (fun hc19_ => ?_)
      obtain ⟨r21_, d20_, hr22_, h⟩ := bd_some h
      refine g_callV C mw_Mo_gives [(0, (d15_ 0 68))] 0 cl12 rfl (ok_Mo_gives (d15_ 0 68) d15_ hc19_ hr22_) cd_B0 (by decide) (nB (by decide)) (ix := 312) lk_1783 lk_1785 lkp_60 ⟨rfl, rfl, Nat.le_of_ble_eq_true rfl, Nat.le_of_ble_eq_true rfl⟩ rfl (rest := []) rfl (Nat.le_of_ble_eq_true rfl) ⟨Nat.zero_le _, Nat.zero_le _⟩ (by decide +kernel) (fun _ hc23_ => ?_)
      replace hc23_ : c32 r21_ := hc23_
      refine g_st (st2 := [(0, r21_)]) rfl ?_
      obtain ⟨rfl, rfl⟩ := ret_inj h
      exact g_iret C hc23_ hlk hr (by decide +kernel)
/-! PollBooksModel.struck(III)I -/
def y_Mo_struck : MethodName := ⟨"PollBooksModel", "struck", "(III)I"⟩
def rm_Mo_struck : Room := { frames := 1, cells := 0, slots := 0, locals := 25 }
theorem mw_Mo_struck : MW y_Mo_struck prog_14_method_60_code 4 (some .int) 3 := ⟨lk_2001, lk_14, by decide +kernel⟩
def L_Mo_struck_b14 (d : Dt) : Option (Int × Dt) :=
  bd (L_Mo_refuse 1 d) (fun r2_ d1_ => some (r2_, d1_))
def L_Mo_struck_b38 (d : Dt) : Option (Int × Dt) :=
  bd (L_Mo_refuse 1 d) (fun r6_ d5_ => some (r6_, d5_))
def L_Mo_struck_b61 (s1 : Int) (d : Dt) : Option (Int × Dt) :=
  bd (L_Mo_gives s1 d) (fun r10_ d9_ => some (r10_, d9_))
def L_Mo_struck (p1 p2 p3 : Int) (d : Dt) : Option (Int × Dt) :=
  bd (L_Mo_isPlace p1 d) (fun r14_ d13_ => if r14_ = 0 then L_Mo_struck_b14 d13_ else bd (L_Mo_isDay p2 d13_) (fun r19_ d18_ => if r19_ = 0 then L_Mo_struck_b14 d18_ else bd (L_Mo_stand p1 p2 d18_) (fun r24_ d23_ => if p3 < 0 then L_Mo_struck_b38 d23_ else if p3 < (d23_ 0 68) then ck ((0 : Int) ≤ p3 ∧ p3 < 100) (if (d23_ 49 p3.toNat) = 0 then L_Mo_struck_b61 0 d23_ else L_Mo_struck_b61 1 d23_) else L_Mo_struck_b38 d23_)))
set_option maxHeartbeats 4000000 in
theorem ok_Mo_struck_b14 {p : Program} {l : Launch} {e : Env} {s : State} {m : MethodId} {args : Array Value} {below : List Frame} {meth : Method} {c : Code} {D : va_G} {cA : Nat → ClassId} {ad : Nat → Nat} {A : Nat → Prop} (C : Cx p s m args c prog_14_method_60_code 4 "PollBooksModel" D cA ad 1 A) (hlk : meth.locks = false) (hr : meth.sig.returnType = (some .int)) {r : Int} {d' : Dt} (d : Dt)  (h : L_Mo_struck_b14 d = some (r, d')) : G p l e rm_Mo_struck s m args below meth c 0 0 (MQ below (fun _ => QC D cA ad 1 A (some .int) (some (0, r)) d') args s 0 0 A) 4 D cA ad 1 A 14 [(2, 0), (9, 0), (9, 0), (9, 0)] [] d := by
  unfold L_Mo_struck_b14 at h
  refine g_aload_n C 0 rfl (by decide +kernel) ?_
  refine g_iconst C 1 (cK rfl) (by decide +kernel) ?_
  obtain ⟨r2_, d1_, hr3_, h⟩ := bd_some h
  refine g_callV C mw_Mo_refuse [(0, 1)] 0 cl12 rfl (ok_Mo_refuse 1 d (c32_cb (Or.inr rfl)) hr3_) cd_B0 (by decide) (nB (by decide)) (ix := 316) lk_1787 lk_1789 lkp_61 ⟨rfl, rfl, Nat.le_of_ble_eq_true rfl, Nat.le_of_ble_eq_true rfl⟩ rfl (rest := []) rfl (Nat.le_of_ble_eq_true rfl) ⟨Nat.zero_le _, Nat.zero_le _⟩ (by decide +kernel) (fun _ hc4_ => ?_)
  replace hc4_ : c32 r2_ := hc4_
  refine g_st (st2 := [(0, r2_)]) rfl ?_
  obtain ⟨rfl, rfl⟩ := ret_inj h
  exact g_iret C hc4_ hlk hr (by decide +kernel)
set_option maxHeartbeats 4000000 in
theorem ok_Mo_struck_b38 {p : Program} {l : Launch} {e : Env} {s : State} {m : MethodId} {args : Array Value} {below : List Frame} {meth : Method} {c : Code} {D : va_G} {cA : Nat → ClassId} {ad : Nat → Nat} {A : Nat → Prop} (C : Cx p s m args c prog_14_method_60_code 4 "PollBooksModel" D cA ad 1 A) (hlk : meth.locks = false) (hr : meth.sig.returnType = (some .int)) {r : Int} {d' : Dt} (d : Dt)  (h : L_Mo_struck_b38 d = some (r, d')) : G p l e rm_Mo_struck s m args below meth c 0 0 (MQ below (fun _ => QC D cA ad 1 A (some .int) (some (0, r)) d') args s 0 0 A) 4 D cA ad 1 A 38 [(2, 0), (9, 0), (9, 0), (9, 0)] [] d := by
  unfold L_Mo_struck_b38 at h
  refine g_aload_n C 0 rfl (by decide +kernel) ?_
  refine g_iconst C 1 (cK rfl) (by decide +kernel) ?_
  obtain ⟨r6_, d5_, hr7_, h⟩ := bd_some h
  refine g_callV C mw_Mo_refuse [(0, 1)] 0 cl12 rfl (ok_Mo_refuse 1 d (c32_cb (Or.inr rfl)) hr7_) cd_B0 (by decide) (nB (by decide)) (ix := 316) lk_1787 lk_1789 lkp_61 ⟨rfl, rfl, Nat.le_of_ble_eq_true rfl, Nat.le_of_ble_eq_true rfl⟩ rfl (rest := []) rfl (Nat.le_of_ble_eq_true rfl) ⟨Nat.zero_le _, Nat.zero_le _⟩ (by decide +kernel) (fun _ hc8_ => ?_)
  replace hc8_ : c32 r6_ := hc8_
  refine g_st (st2 := [(0, r6_)]) rfl ?_
  refine g_goto C 64 (off := 21) (by decide +kernel) (by decide) ?_
  obtain ⟨rfl, rfl⟩ := ret_inj h
  exact g_iret C hc8_ hlk hr (by decide +kernel)
set_option maxHeartbeats 4000000 in
theorem ok_Mo_struck_b61 {p : Program} {l : Launch} {e : Env} {s : State} {m : MethodId} {args : Array Value} {below : List Frame} {meth : Method} {c : Code} {D : va_G} {cA : Nat → ClassId} {ad : Nat → Nat} {A : Nat → Prop} (C : Cx p s m args c prog_14_method_60_code 4 "PollBooksModel" D cA ad 1 A) (hlk : meth.locks = false) (hr : meth.sig.returnType = (some .int)) {r : Int} {d' : Dt} (s1 : Int) (d : Dt) (hs1 : cb s1) (h : L_Mo_struck_b61 s1 d = some (r, d')) : G p l e rm_Mo_struck s m args below meth c 0 0 (MQ below (fun _ => QC D cA ad 1 A (some .int) (some (0, r)) d') args s 0 0 A) 4 D cA ad 1 A 61 [(9, 0), (9, 0), (9, 0), (9, 0)] [(0, s1), (2, 0)] d := by
  unfold L_Mo_struck_b61 at h
  obtain ⟨r10_, d9_, hr11_, h⟩ := bd_some h
  refine g_callV C mw_Mo_gives [(0, s1)] 0 cl12 rfl (ok_Mo_gives s1 d (c32_cb hs1) hr11_) cd_B0 (by decide) (nB (by decide)) (ix := 312) lk_1783 lk_1785 lkp_60 ⟨rfl, rfl, Nat.le_of_ble_eq_true rfl, Nat.le_of_ble_eq_true rfl⟩ rfl (rest := []) rfl (Nat.le_of_ble_eq_true rfl) ⟨Nat.zero_le _, Nat.zero_le _⟩ (by decide +kernel) (fun _ hc12_ => ?_)
  replace hc12_ : c32 r10_ := hc12_
  refine g_st (st2 := [(0, r10_)]) rfl ?_
  obtain ⟨rfl, rfl⟩ := ret_inj h
  exact g_iret C hc12_ hlk hr (by decide +kernel)
set_option maxHeartbeats 4000000 in
theorem ok_Mo_struck {l : Launch} {r : Int} {d' : Dt} (p1 p2 p3 : Int) (d : Dt) (hp1 : c32 p1) (hp2 : c32 p2) (hp3 : c32 p3) (h : L_Mo_struck p1 p2 p3 d = some (r, d')) : MC l y_Mo_struck prog_14_method_60_code 4 (some .int) rm_Mo_struck 1 [(2, 0), (0, p1), (0, p2), (0, p3)] d (some (0, r)) d' := by
  refine MC.of (by decide) (Nat.le_of_ble_eq_true rfl) ?_
  intro p e s m args below meth c D cA ad A C hlk hr
  replace C : Cx p s m args c prog_14_method_60_code 4 "PollBooksModel" D cA ad 1 A := C
  show G p l e rm_Mo_struck s m args below meth c 0 0 (MQ below (fun _ => QC D cA ad 1 A (some .int) (some (0, r)) d') args s 0 0 A) 4 D cA ad 1 A 0 [(2, 0), (0, p1), (0, p2), (0, p3)] [] d
  refine g_sub (lo2 := [(2, 0), (0, p1), (0, p2), (0, p3)]) (lsb_v (lsb_v (lsb_v (lsb_v lsb_e)))) ?_
  unfold L_Mo_struck at h
  refine g_iload_n C 1 rfl (by decide +kernel) ?_
  obtain ⟨r14_, d13_, hr15_, h⟩ := bd_some h
  refine g_callS C mw_Mo_isPlace [(0, p1)] (ok_Mo_isPlace p1 d hp1 hr15_) (ix := 325) lk_1798 lk_1799 ⟨rfl, rfl, Nat.le_of_ble_eq_true rfl, Nat.le_of_ble_eq_true rfl⟩ rfl (rest := []) rfl (Nat.le_of_ble_eq_true rfl) ⟨Nat.zero_le _, Nat.zero_le _⟩ (by decide +kernel) (fun _ hc16_ => ?_)
  replace hc16_ : cb r14_ := hc16_
  refine g_st (st2 := [(0, r14_)]) rfl ?_
  refine g_if_eq C (off := 10) (tgt := 14) (c32_cb hc16_) (by decide +kernel) (by decide) (fun hc17_ => ?_) (fun hc17_ => ?_)
  · replace h := ite_t hc17_ h
    refine g_sub (lo2 := [(2, 0), (9, 0), (9, 0), (9, 0)]) (lsb_v (lsb_c (lsb_c (lsb_c lsb_e)))) ?_
    exact ok_Mo_struck_b14 C hlk hr d13_  h
  · replace h := ite_f hc17_ h
    refine g_iload_n C 2 rfl (by decide +kernel) ?_
    obtain ⟨r19_, d18_, hr20_, h⟩ := bd_some h
    refine g_callS C mw_Mo_isDay [(0, p2)] (ok_Mo_isDay p2 d13_ hp2 hr20_) (ix := 340) lk_1815 lk_1816 ⟨rfl, rfl, Nat.le_of_ble_eq_true rfl, Nat.le_of_ble_eq_true rfl⟩ rfl (rest := []) rfl (Nat.le_of_ble_eq_true rfl) ⟨Nat.zero_le _, Nat.zero_le _⟩ (by decide +kernel) (fun _ hc21_ => ?_)
    replace hc21_ : cb r19_ := hc21_
    refine g_st (st2 := [(0, r19_)]) rfl ?_
    refine g_if_ne C (off := 9) (tgt := 20) (c32_cb hc21_) (by decide +kernel) (by decide) (fun hc22_ => ?_) (fun hc22_ => ?_)
    · replace h := ite_t hc22_ h
      refine g_sub (lo2 := [(2, 0), (9, 0), (9, 0), (9, 0)]) (lsb_v (lsb_c (lsb_c (lsb_c lsb_e)))) ?_
      exact ok_Mo_struck_b14 C hlk hr d18_  h
    · replace h := ite_f hc22_ h
      refine g_aload_n C 0 rfl (by decide +kernel) ?_
      refine g_iload_n C 1 rfl (by decide +kernel) ?_
      refine g_iload_n C 2 rfl (by decide +kernel) ?_
      obtain ⟨r24_, d23_, hr25_, h⟩ := bd_some h
      refine g_callV C mw_Mo_stand [(0, p1), (0, p2)] 0 cl12 rfl (ok_Mo_stand p1 p2 d18_ hp1 hp2 hr25_) cd_B0 (by decide) (nB (by decide)) (ix := 481) lk_1994 lk_1996 lkp_84 ⟨rfl, rfl, Nat.le_of_ble_eq_true rfl, Nat.le_of_ble_eq_true rfl⟩ rfl (rest := []) rfl (Nat.le_of_ble_eq_true rfl) ⟨Nat.zero_le _, Nat.zero_le _⟩ (by decide +kernel) (fun _ hc26_ => ?_)
      refine g_st (st2 := []) rfl ?_
      refine g_iload_n C 3 rfl (by decide +kernel) ?_
      refine g_if_lt C (off := 11) (tgt := 38) hp3 (by decide +kernel) (by decide) (fun hc27_ => ?_) (fun hc27_ => ?_)
      · replace h := ite_t hc27_ h
        refine g_sub (lo2 := [(2, 0), (9, 0), (9, 0), (9, 0)]) (lsb_v (lsb_c (lsb_c (lsb_c lsb_e)))) ?_
        exact ok_Mo_struck_b38 C hlk hr d23_  h
      · replace h := ite_f hc27_ h
        refine g_iload_n C 3 rfl (by decide +kernel) ?_
        refine g_aload_n C 0 rfl (by decide +kernel) ?_
        refine g_getI C cl12 0 68 rfl cd_B0 ⟨by decide, rfl, by decide⟩ rfl (nB (by decide)) (ix := 478) lk_1470 (by decide +kernel) (fun hc28_ => ?_)
        refine g_icmp_lt C (off := 11) (tgt := 46) hp3 hc28_ (by decide +kernel) (by decide) (fun hc29_ => ?_) (fun hc29_ => ?_)
        · replace h := ite_t hc29_ h
          refine g_aload_n C 0 rfl (by decide +kernel) ?_
          refine g_aload_n C 0 rfl (by decide +kernel) ?_
          refine g_getR C cl12 0 67 49 rfl cd_B0 ⟨by decide, rfl, by decide⟩ rfl rfl (nB (by decide)) (ix := 167) lk_1469 (by decide +kernel) ?_
          refine g_iload_n C 3 rfl (by decide +kernel) ?_
          obtain ⟨hb30_, h⟩ := ck_some h
          refine g_zald C 49 hp3 rfl cd_B49 (nB (by decide)) hb30_ (by decide +kernel) (fun hc31_ => ?_)
          refine g_if_eq C (off := 7) (tgt := 60) (c32_cb hc31_) (by decide +kernel) (by decide) (fun hc32_ => ?_) (fun hc32_ => ?_)
          · replace h := ite_t hc32_ h
            refine g_iconst C 0 (cK rfl) (by decide +kernel) ?_
            refine g_sub (lo2 := [(9, 0), (9, 0), (9, 0), (9, 0)]) (lsb_c (lsb_c (lsb_c (lsb_c lsb_e)))) ?_
            exact ok_Mo_struck_b61 C hlk hr 0 d23_ (Or.inl rfl) h
          · replace h := ite_f hc32_ h
            refine g_iconst C 1 (cK rfl) (by decide +kernel) ?_
            refine g_goto C 61 (off := 4) (by decide +kernel) (by decide) ?_
            refine g_sub (lo2 := [(9, 0), (9, 0), (9, 0), (9, 0)]) (lsb_c (lsb_c (lsb_c (lsb_c lsb_e)))) ?_
            exact ok_Mo_struck_b61 C hlk hr 1 d23_ (Or.inr rfl) h
        · replace h := ite_f hc29_ h
          refine g_sub (lo2 := [(2, 0), (9, 0), (9, 0), (9, 0)]) (lsb_v (lsb_c (lsb_c (lsb_c lsb_e)))) ?_
          exact ok_Mo_struck_b38 C hlk hr d23_  h
/-! PollBooksModel.isMinute(I)Z -/
def y_Mo_isMinute : MethodName := ⟨"PollBooksModel", "isMinute", "(I)Z"⟩
def rm_Mo_isMinute : Room := { frames := 0, cells := 0, slots := 0, locals := 0 }
theorem mw_Mo_isMinute : MW y_Mo_isMinute prog_14_method_18_code 1 (some .boolean) 1 := ⟨lk_2012, lk_14, by decide +kernel⟩
def L_Mo_isMinute (p1 : Int) (d : Dt) : Option (Int × Dt) :=
  if p1 < 0 then some (0, d) else if 1439 < p1 then some (0, d) else some (1, d)
set_option maxHeartbeats 4000000 in
theorem ok_Mo_isMinute {l : Launch} {r : Int} {d' : Dt} (p1 : Int) (d : Dt) (hp1 : c32 p1) (h : L_Mo_isMinute p1 d = some (r, d')) : MC l y_Mo_isMinute prog_14_method_18_code 1 (some .boolean) rm_Mo_isMinute 1 [(0, p1)] d (some (0, r)) d' := by
  refine MC.of (by decide) (Nat.le_of_ble_eq_true rfl) ?_
  intro p e s m args below meth c D cA ad A C hlk hr
  replace C : Cx p s m args c prog_14_method_18_code 1 "PollBooksModel" D cA ad 1 A := C
  show G p l e rm_Mo_isMinute s m args below meth c 0 0 (MQ below (fun _ => QC D cA ad 1 A (some .boolean) (some (0, r)) d') args s 0 0 A) 1 D cA ad 1 A 0 [(0, p1)] [] d
  refine g_sub (lo2 := [(0, p1)]) (lsb_v lsb_e) ?_
  unfold L_Mo_isMinute at h
  refine g_iload_n C 0 rfl (by decide +kernel) ?_
  refine g_if_lt C (off := 14) (tgt := 15) hp1 (by decide +kernel) (by decide) (fun hc1_ => ?_) (fun hc1_ => ?_)
  · replace h := ite_t hc1_ h
    refine g_iconst C 0 (cK rfl) (by decide +kernel) ?_
    obtain ⟨rfl, rfl⟩ := ret_inj h
    exact g_zret C (Or.inl rfl) hlk hr (by decide +kernel)
  · replace h := ite_f hc1_ h
    refine g_iload_n C 0 rfl (by decide +kernel) ?_
    refine g_sipush C 1439 (by decide) (by decide +kernel) ?_
    refine g_icmp_gt C (off := 7) (tgt := 15) hp1 (cK rfl) (by decide +kernel) (by decide) (fun hc2_ => ?_) (fun hc2_ => ?_)
    · replace h := ite_t hc2_ h
      refine g_iconst C 0 (cK rfl) (by decide +kernel) ?_
      obtain ⟨rfl, rfl⟩ := ret_inj h
      exact g_zret C (Or.inl rfl) hlk hr (by decide +kernel)
    · replace h := ite_f hc2_ h
      refine g_iconst C 1 (cK rfl) (by decide +kernel) ?_
      refine g_goto C 16 (off := 4) (by decide +kernel) (by decide) ?_
      obtain ⟨rfl, rfl⟩ := ret_inj h
      exact g_zret C (Or.inr rfl) hlk hr (by decide +kernel)
/-! PollBooksModel.isAsked(IIII)Z -/
def y_Mo_isAsked : MethodName := ⟨"PollBooksModel", "isAsked", "(IIII)Z"⟩
def rm_Mo_isAsked : Room := { frames := 1, cells := 0, slots := 0, locals := 21 }
theorem mw_Mo_isAsked : MW y_Mo_isAsked prog_14_method_68_code 5 (some .boolean) 4 := ⟨lk_2009, lk_14, by decide +kernel⟩
def L_Mo_isAsked (p1 p2 p3 p4 : Int) (d : Dt) : Option (Int × Dt) :=
  bd (L_Mo_isPerson p1 d) (fun r2_ d1_ => if r2_ = 0 then some (0, d1_) else bd (L_Mo_isPlace p2 d1_) (fun r7_ d6_ => if r7_ = 0 then some (0, d6_) else bd (L_Mo_isDay p3 d6_) (fun r12_ d11_ => if r12_ = 0 then some (0, d11_) else bd (L_Mo_isMinute p4 d11_) (fun r17_ d16_ => if r17_ = 0 then some (0, d16_) else some (1, d16_)))))
set_option maxHeartbeats 4000000 in
theorem ok_Mo_isAsked {l : Launch} {r : Int} {d' : Dt} (p1 p2 p3 p4 : Int) (d : Dt) (hp1 : c32 p1) (hp2 : c32 p2) (hp3 : c32 p3) (hp4 : c32 p4) (h : L_Mo_isAsked p1 p2 p3 p4 d = some (r, d')) : MC l y_Mo_isAsked prog_14_method_68_code 5 (some .boolean) rm_Mo_isAsked 1 [(2, 0), (0, p1), (0, p2), (0, p3), (0, p4)] d (some (0, r)) d' := by
  refine MC.of (by decide) (Nat.le_of_ble_eq_true rfl) ?_
  intro p e s m args below meth c D cA ad A C hlk hr
  replace C : Cx p s m args c prog_14_method_68_code 5 "PollBooksModel" D cA ad 1 A := C
  show G p l e rm_Mo_isAsked s m args below meth c 0 0 (MQ below (fun _ => QC D cA ad 1 A (some .boolean) (some (0, r)) d') args s 0 0 A) 5 D cA ad 1 A 0 [(2, 0), (0, p1), (0, p2), (0, p3), (0, p4)] [] d
  refine g_sub (lo2 := [(2, 0), (0, p1), (0, p2), (0, p3), (0, p4)]) (lsb_v (lsb_v (lsb_v (lsb_v (lsb_v lsb_e))))) ?_
  unfold L_Mo_isAsked at h
  refine g_aload_n C 0 rfl (by decide +kernel) ?_
  refine g_iload_n C 1 rfl (by decide +kernel) ?_
  obtain ⟨r2_, d1_, hr3_, h⟩ := bd_some h
  refine g_callV C mw_Mo_isPerson [(0, p1)] 0 cl12 rfl (ok_Mo_isPerson p1 d hp1 hr3_) cd_B0 (by decide) (nB (by decide)) (ix := 331) lk_1805 lk_1807 lkp_62 ⟨rfl, rfl, Nat.le_of_ble_eq_true rfl, Nat.le_of_ble_eq_true rfl⟩ rfl (rest := []) rfl (Nat.le_of_ble_eq_true rfl) ⟨Nat.zero_le _, Nat.zero_le _⟩ (by decide +kernel) (fun _ hc4_ => ?_)
  replace hc4_ : cb r2_ := hc4_
  refine g_st (st2 := [(0, r2_)]) rfl ?_
  refine g_if_eq C (off := 29) (tgt := 34) (c32_cb hc4_) (by decide +kernel) (by decide) (fun hc5_ => ?_) (fun hc5_ => ?_)
  · replace h := ite_t hc5_ h
    refine g_iconst C 0 (cK rfl) (by decide +kernel) ?_
    obtain ⟨rfl, rfl⟩ := ret_inj h
    exact g_zret C (Or.inl rfl) hlk hr (by decide +kernel)
  · replace h := ite_f hc5_ h
    refine g_iload_n C 2 rfl (by decide +kernel) ?_
    obtain ⟨r7_, d6_, hr8_, h⟩ := bd_some h
    refine g_callS C mw_Mo_isPlace [(0, p2)] (ok_Mo_isPlace p2 d1_ hp2 hr8_) (ix := 325) lk_1798 lk_1799 ⟨rfl, rfl, Nat.le_of_ble_eq_true rfl, Nat.le_of_ble_eq_true rfl⟩ rfl (rest := []) rfl (Nat.le_of_ble_eq_true rfl) ⟨Nat.zero_le _, Nat.zero_le _⟩ (by decide +kernel) (fun _ hc9_ => ?_)
    replace hc9_ : cb r7_ := hc9_
    refine g_st (st2 := [(0, r7_)]) rfl ?_
    refine g_if_eq C (off := 22) (tgt := 34) (c32_cb hc9_) (by decide +kernel) (by decide) (fun hc10_ => ?_) (fun hc10_ => ?_)
    · replace h := ite_t hc10_ h
      refine g_iconst C 0 (cK rfl) (by decide +kernel) ?_
      obtain ⟨rfl, rfl⟩ := ret_inj h
      exact g_zret C (Or.inl rfl) hlk hr (by decide +kernel)
    · replace h := ite_f hc10_ h
      refine g_iload_n C 3 rfl (by decide +kernel) ?_
      obtain ⟨r12_, d11_, hr13_, h⟩ := bd_some h
      refine g_callS C mw_Mo_isDay [(0, p3)] (ok_Mo_isDay p3 d6_ hp3 hr13_) (ix := 340) lk_1815 lk_1816 ⟨rfl, rfl, Nat.le_of_ble_eq_true rfl, Nat.le_of_ble_eq_true rfl⟩ rfl (rest := []) rfl (Nat.le_of_ble_eq_true rfl) ⟨Nat.zero_le _, Nat.zero_le _⟩ (by decide +kernel) (fun _ hc14_ => ?_)
      replace hc14_ : cb r12_ := hc14_
      refine g_st (st2 := [(0, r12_)]) rfl ?_
      refine g_if_eq C (off := 15) (tgt := 34) (c32_cb hc14_) (by decide +kernel) (by decide) (fun hc15_ => ?_) (fun hc15_ => ?_)
      · replace h := ite_t hc15_ h
        refine g_iconst C 0 (cK rfl) (by decide +kernel) ?_
        obtain ⟨rfl, rfl⟩ := ret_inj h
        exact g_zret C (Or.inl rfl) hlk hr (by decide +kernel)
      · replace h := ite_f hc15_ h
        refine g_iload C 4 rfl (by decide +kernel) ?_
        obtain ⟨r17_, d16_, hr18_, h⟩ := bd_some h
        refine g_callS C mw_Mo_isMinute [(0, p4)] (ok_Mo_isMinute p4 d11_ hp4 hr18_) (ix := 507) lk_2010 lk_2011 ⟨rfl, rfl, Nat.le_of_ble_eq_true rfl, Nat.le_of_ble_eq_true rfl⟩ rfl (rest := []) rfl (Nat.le_of_ble_eq_true rfl) ⟨Nat.zero_le _, Nat.zero_le _⟩ (by decide +kernel) (fun _ hc19_ => ?_)
        replace hc19_ : cb r17_ := hc19_
        refine g_st (st2 := [(0, r17_)]) rfl ?_
        refine g_if_eq C (off := 7) (tgt := 34) (c32_cb hc19_) (by decide +kernel) (by decide) (fun hc20_ => ?_) (fun hc20_ => ?_)
        · replace h := ite_t hc20_ h
          refine g_iconst C 0 (cK rfl) (by decide +kernel) ?_
          obtain ⟨rfl, rfl⟩ := ret_inj h
          exact g_zret C (Or.inl rfl) hlk hr (by decide +kernel)
        · replace h := ite_f hc20_ h
          refine g_iconst C 1 (cK rfl) (by decide +kernel) ?_
          refine g_goto C 35 (off := 4) (by decide +kernel) (by decide) ?_
          obtain ⟨rfl, rfl⟩ := ret_inj h
          exact g_zret C (Or.inr rfl) hlk hr (by decide +kernel)
/-! PollBooksModel.ask(IIII)V -/
def y_Mo_ask : MethodName := ⟨"PollBooksModel", "ask", "(IIII)V"⟩
def rm_Mo_ask : Room := { frames := 3, cells := 0, slots := 0, locals := 71 }
theorem mw_Mo_ask : MW y_Mo_ask prog_14_method_64_code 6 none 4 := ⟨lk_2020, lk_14, by decide +kernel⟩
def L_Mo_ask_y3 (x1 x2 x3 x4 x5 : Int) (d : Dt) : Option ((Int × Int × Int × Int × Int × Dt) ⊕ ((Int × Int × Int × Dt))) :=
  if x5 < 7 then bd (L_Mo_factOf x1 x2 x3 x5 d) (fun r3_ d2_ => ck ((0 : Int) ≤ x5 ∧ x5 < 9) (some (Sum.inl (x1, x2, x3, x4, (w32 (x5 + 1)), (up2 d2_ 50 x5.toNat r3_))))) else some (Sum.inr (x2, x3, x4, d))
def L_Mo_ask_l3 (x1 x2 x3 x4 x5 : Int) (d : Dt) : Option ((Int × Int × Int × Dt)) := lpF (fun q : Int × Int × Int × Int × Int × Dt => L_Mo_ask_y3 q.1 q.2.1 q.2.2.1 q.2.2.2.1 q.2.2.2.2.1 q.2.2.2.2.2) FU (x1, x2, x3, x4, x5, d)
def L_Mo_ask (p1 p2 p3 p4 : Int) (d : Dt) : Option (Int × Dt) :=
  lb (L_Mo_ask_l3 p1 p2 p3 p4 0 d) (fun q18_ => u3 q18_ (fun v9_ v10_ v11_ d12_ => bd (L_Mo_stand v9_ v10_ (up2 (up2 d12_ 50 7 v11_) 50 8 v10_)) (fun r15_ d14_ => some (0, d14_))))
set_option maxHeartbeats 4000000 in
theorem ok_Mo_ask_y3 {p : Program} {l : Launch} {e : Env} {s : State} {m : MethodId} {args : Array Value} {below : List Frame} {meth : Method} {c : Code} {D : va_G} {cA : Nat → ClassId} {ad : Nat → Nat} {A : Nat → Prop} (C : Cx p s m args c prog_14_method_64_code 6 "PollBooksModel" D cA ad 1 A) {Q : State → Prop} {o : (Int × Int × Int × Int × Int × Dt) ⊕ ((Int × Int × Int × Dt))} (x1 x2 x3 x4 x5 : Int) (d : Dt) (hx1 : c32 x1) (hx2 : c32 x2) (hx3 : c32 x3) (hx4 : c32 x4) (hx5 : c32 x5) (h : L_Mo_ask_y3 x1 x2 x3 x4 x5 d = some o) (kb : ∀ (y0 y1 y2 y3 y4 : Int) (e' : Dt), o = .inl (y0, y1, y2, y3, y4, e') → c32 y0 → c32 y1 → c32 y2 → c32 y3 → c32 y4 → G p l e rm_Mo_ask s m args below meth c 0 0 Q 6 D cA ad 1 A 3 [(2, 0), (0, y0), (0, y1), (0, y2), (0, y3), (0, y4)] [] e') (k0 : ∀ (y0 y1 y2 : Int) (e' : Dt), o = .inr (y0, y1, y2, e') → c32 y0 → c32 y1 → c32 y2 → G p l e rm_Mo_ask s m args below meth c 0 0 Q 6 D cA ad 1 A 33 [(2, 0), (9, 0), (0, y0), (0, y1), (0, y2), (9, 0)] [] e') : G p l e rm_Mo_ask s m args below meth c 0 0 Q 6 D cA ad 1 A 3 [(2, 0), (0, x1), (0, x2), (0, x3), (0, x4), (0, x5)] [] d := by
  unfold L_Mo_ask_y3 at h
  refine g_iload C 5 rfl (by decide +kernel) ?_
  refine g_bipush C 7 (by decide) (by decide +kernel) ?_
  refine g_icmp_ge C (off := 26) (tgt := 33) hx5 (cK rfl) (by decide +kernel) (by decide) (fun hc1_ => ?_) (fun hc1_ => ?_)
  · replace h := ite_t hc1_ h
    refine g_aload_n C 0 rfl (by decide +kernel) ?_
    refine g_getR C cl12 0 69 50 rfl cd_B0 ⟨by decide, rfl, by decide⟩ rfl rfl (nB (by decide)) (ix := 170) lk_1471 (by decide +kernel) ?_
    refine g_iload C 5 rfl (by decide +kernel) ?_
    refine g_aload_n C 0 rfl (by decide +kernel) ?_
    refine g_iload_n C 1 rfl (by decide +kernel) ?_
    refine g_iload_n C 2 rfl (by decide +kernel) ?_
    refine g_iload_n C 3 rfl (by decide +kernel) ?_
    refine g_iload C 5 rfl (by decide +kernel) ?_
    obtain ⟨r3_, d2_, hr4_, h⟩ := bd_some h
    refine g_callV C mw_Mo_factOf [(0, x1), (0, x2), (0, x3), (0, x5)] 0 cl12 rfl (ok_Mo_factOf x1 x2 x3 x5 d hx1 hx2 hx3 hx5 hr4_) cd_B0 (by decide) (nB (by decide)) (ix := 362) lk_1838 lk_1840 lkp_64 ⟨rfl, rfl, Nat.le_of_ble_eq_true rfl, Nat.le_of_ble_eq_true rfl⟩ rfl (rest := [(0, x5), (2, 50)]) rfl (Nat.le_of_ble_eq_true rfl) ⟨Nat.zero_le _, Nat.zero_le _⟩ (by decide +kernel) (fun _ hc5_ => ?_)
    replace hc5_ : c32 r3_ := hc5_
    refine g_st (st2 := [(0, r3_), (0, x5), (2, 50)]) rfl ?_
    refine g_i2l C hc5_ (by decide +kernel) ?_
    obtain ⟨hb6_, h⟩ := ck_some h
    refine g_last C 50 (c64_32 hc5_) hx5 rfl cd_B50 (nB (by decide)) hb6_ (by decide +kernel) ?_
    refine s_iinc C 5 1 (lo' := [(2, 0), (0, x1), (0, x2), (0, x3), (0, x4), (0, (w32 (x5 + 1)))]) rfl (by decide) (s1k (s1k (s1k (s1k (s1n (by decide) s1z))))) (by decide +kernel) ?_
    refine g_goto C 3 (off := (-27)) (by decide +kernel) (by decide) ?_
    refine g_sub (lo2 := [(2, 0), (0, x1), (0, x2), (0, x3), (0, x4), (0, (w32 (x5 + 1)))]) (lsb_v (lsb_v (lsb_v (lsb_v (lsb_v (lsb_v lsb_e)))))) ?_
    obtain rfl := Option.some.inj h
    exact kb x1 x2 x3 x4 (w32 (x5 + 1)) (up2 d2_ 50 x5.toNat r3_) rfl hx1 hx2 hx3 hx4 (w32_c _)
  · replace h := ite_f hc1_ h
    refine g_sub (lo2 := [(2, 0), (9, 0), (0, x2), (0, x3), (0, x4), (9, 0)]) (lsb_v (lsb_c (lsb_v (lsb_v (lsb_v (lsb_c lsb_e)))))) ?_
    obtain rfl := Option.some.inj h
    exact k0 x2 x3 x4 d rfl hx2 hx3 hx4
set_option maxHeartbeats 4000000 in
theorem ok_Mo_ask_n3 {p : Program} {l : Launch} {e : Env} {s : State} {m : MethodId} {args : Array Value} {below : List Frame} {meth : Method} {c : Code} {D : va_G} {cA : Nat → ClassId} {ad : Nat → Nat} {A : Nat → Prop} (C : Cx p s m args c prog_14_method_64_code 6 "PollBooksModel" D cA ad 1 A) {Q : State → Prop} {x : (Int × Int × Int × Dt)} : ∀ (n : Nat) (x1 x2 x3 x4 x5 : Int) (d : Dt), c32 x1 → c32 x2 → c32 x3 → c32 x4 → c32 x5 → lpF (fun q : Int × Int × Int × Int × Int × Dt => L_Mo_ask_y3 q.1 q.2.1 q.2.2.1 q.2.2.2.1 q.2.2.2.2.1 q.2.2.2.2.2) n (x1, x2, x3, x4, x5, d) = some x → (∀ (y0 y1 y2 : Int) (e' : Dt), x = (y0, y1, y2, e') → c32 y0 → c32 y1 → c32 y2 → G p l e rm_Mo_ask s m args below meth c 0 0 Q 6 D cA ad 1 A 33 [(2, 0), (9, 0), (0, y0), (0, y1), (0, y2), (9, 0)] [] e') → G p l e rm_Mo_ask s m args below meth c 0 0 Q 6 D cA ad 1 A 3 [(2, 0), (0, x1), (0, x2), (0, x3), (0, x4), (0, x5)] [] d := by
  intro n
  induction n with
  | zero => intro x1 x2 x3 x4 x5 d g0 g1 g2 g3 g4 h k0; cases h
  | succ n ih =>
    intro x1 x2 x3 x4 x5 d g0 g1 g2 g3 g4 h k0
    rcases lpF_some h with h | ⟨⟨v0_, v1_, v2_, v3_, v4_, e0_⟩, h1, h⟩
    · exact ok_Mo_ask_y3 C x1 x2 x3 x4 x5 d g0 g1 g2 g3 g4 h (fun z0_ z1_ z2_ z3_ z4_ e1_ eq w0_ w1_ w2_ w3_ w4_ => by cases eq) (fun z0_ z1_ z2_ e1_ eq w0_ w1_ w2_ => k0 _ _ _ _ (by cases eq; rfl) w0_ w1_ w2_)
    · exact ok_Mo_ask_y3 C x1 x2 x3 x4 x5 d g0 g1 g2 g3 g4 h1 (fun z0_ z1_ z2_ z3_ z4_ e1_ eq w0_ w1_ w2_ w3_ w4_ => by cases eq; exact ih _ _ _ _ _ _ w0_ w1_ w2_ w3_ w4_ h k0) (fun z0_ z1_ z2_ e1_ eq w0_ w1_ w2_ => by cases eq)
set_option maxHeartbeats 4000000 in
theorem ok_Mo_ask_l3 {p : Program} {l : Launch} {e : Env} {s : State} {m : MethodId} {args : Array Value} {below : List Frame} {meth : Method} {c : Code} {D : va_G} {cA : Nat → ClassId} {ad : Nat → Nat} {A : Nat → Prop} (C : Cx p s m args c prog_14_method_64_code 6 "PollBooksModel" D cA ad 1 A) {Q : State → Prop} {x : (Int × Int × Int × Dt)} (x1 x2 x3 x4 x5 : Int) (d : Dt) (hx1 : c32 x1) (hx2 : c32 x2) (hx3 : c32 x3) (hx4 : c32 x4) (hx5 : c32 x5) (h : L_Mo_ask_l3 x1 x2 x3 x4 x5 d = some x) (k0 : ∀ (y0 y1 y2 : Int) (e' : Dt), x = (y0, y1, y2, e') → c32 y0 → c32 y1 → c32 y2 → G p l e rm_Mo_ask s m args below meth c 0 0 Q 6 D cA ad 1 A 33 [(2, 0), (9, 0), (0, y0), (0, y1), (0, y2), (9, 0)] [] e') : G p l e rm_Mo_ask s m args below meth c 0 0 Q 6 D cA ad 1 A 3 [(2, 0), (0, x1), (0, x2), (0, x3), (0, x4), (0, x5)] [] d :=
  ok_Mo_ask_n3 C FU x1 x2 x3 x4 x5 d hx1 hx2 hx3 hx4 hx5 h k0
set_option maxHeartbeats 4000000 in
theorem ok_Mo_ask {l : Launch} {r : Int} {d' : Dt} (p1 p2 p3 p4 : Int) (d : Dt) (hp1 : c32 p1) (hp2 : c32 p2) (hp3 : c32 p3) (hp4 : c32 p4) (h : L_Mo_ask p1 p2 p3 p4 d = some (r, d')) : MC l y_Mo_ask prog_14_method_64_code 6 none rm_Mo_ask 1 [(2, 0), (0, p1), (0, p2), (0, p3), (0, p4)] d none d' := by
  refine MC.of (by decide) (Nat.le_of_ble_eq_true rfl) ?_
  intro p e s m args below meth c D cA ad A C hlk hr
  replace C : Cx p s m args c prog_14_method_64_code 6 "PollBooksModel" D cA ad 1 A := C
  show G p l e rm_Mo_ask s m args below meth c 0 0 (MQ below (fun _ => QC D cA ad 1 A none none d') args s 0 0 A) 6 D cA ad 1 A 0 [(2, 0), (0, p1), (0, p2), (0, p3), (0, p4)] [] d
  refine g_sub (lo2 := [(2, 0), (0, p1), (0, p2), (0, p3), (0, p4), (9, 0)]) (lsb_v (lsb_v (lsb_v (lsb_v (lsb_v (lsb_n lsb_e)))))) ?_
  unfold L_Mo_ask at h
  refine g_iconst C 0 (cK rfl) (by decide +kernel) ?_
  refine s_istore C 5 (lo' := [(2, 0), (0, p1), (0, p2), (0, p3), (0, p4), (0, 0)]) (by decide) (s1k (s1k (s1k (s1k (s1n (by decide) s1z))))) (by decide +kernel) ?_
  refine g_sub (lo2 := [(2, 0), (0, p1), (0, p2), (0, p3), (0, p4), (0, 0)]) (lsb_v (lsb_v (lsb_v (lsb_v (lsb_v (lsb_v lsb_e)))))) ?_
  obtain ⟨x7_, hx8_, h⟩ := lb_some h
  refine ok_Mo_ask_l3 C p1 p2 p3 p4 0 d hp1 hp2 hp3 hp4 (c32_cb (Or.inl rfl)) hx8_ (fun v9_ v10_ v11_ d12_ eq13_ hv9_ hv10_ hv11_ => ?_)
  subst eq13_
  replace h := u3_e h
  refine g_aload_n C 0 rfl (by decide +kernel) ?_
  refine g_getR C cl12 0 69 50 rfl cd_B0 ⟨by decide, rfl, by decide⟩ rfl rfl (nB (by decide)) (ix := 170) lk_1471 (by decide +kernel) ?_
  refine g_bipush C 7 (by decide) (by decide +kernel) ?_
  refine g_iload C 4 rfl (by decide +kernel) ?_
  refine g_i2l C hv11_ (by decide +kernel) ?_
  refine g_last C 50 (c64_32 hv11_) (cK rfl) rfl cd_B50 (nB (by decide)) (by decide) (by decide +kernel) ?_
  refine g_aload_n C 0 rfl (by decide +kernel) ?_
  refine g_getR C cl12 0 69 50 rfl cd_B0 ⟨by decide, rfl, by decide⟩ rfl rfl (nB (by decide)) (ix := 170) lk_1471 (by decide +kernel) ?_
  refine g_bipush C 8 (by decide) (by decide +kernel) ?_
  refine g_iload_n C 3 rfl (by decide +kernel) ?_
  refine g_i2l C hv10_ (by decide +kernel) ?_
  refine g_last C 50 (c64_32 hv10_) (cK rfl) rfl cd_B50 (nB (by decide)) (by decide) (by decide +kernel) ?_
  refine g_aload_n C 0 rfl (by decide +kernel) ?_
  refine g_iload_n C 2 rfl (by decide +kernel) ?_
  refine g_iload_n C 3 rfl (by decide +kernel) ?_
  obtain ⟨r15_, d14_, hr16_, h⟩ := bd_some h
  refine g_callV C mw_Mo_stand [(0, v9_), (0, v10_)] 0 cl12 rfl (ok_Mo_stand v9_ v10_ (up2 (up2 d12_ 50 7 v11_) 50 8 v10_) hv9_ hv10_ hr16_) cd_B0 (by decide) (nB (by decide)) (ix := 481) lk_1994 lk_1996 lkp_84 ⟨rfl, rfl, Nat.le_of_ble_eq_true rfl, Nat.le_of_ble_eq_true rfl⟩ rfl (rest := []) rfl (Nat.le_of_ble_eq_true rfl) ⟨Nat.zero_le _, Nat.zero_le _⟩ (by decide +kernel) (fun _ hc17_ => ?_)
  refine g_st (st2 := []) rfl ?_
  obtain ⟨rfl, rfl⟩ := ret_inj h
  exact g_vret C hlk hr (by decide +kernel)
/-! PollBooksModel.lastOf(I)I -/
def y_Mo_lastOf : MethodName := ⟨"PollBooksModel", "lastOf", "(I)I"⟩
def rm_Mo_lastOf : Room := { frames := 0, cells := 0, slots := 0, locals := 0 }
theorem mw_Mo_lastOf : MW y_Mo_lastOf prog_14_method_66_code 4 (some .int) 1 := ⟨lk_2024, lk_14, by decide +kernel⟩
def L_Mo_lastOf_b38 (x1 x2 x3 : Int) (d : Dt) : Option ((Int × Int × Int × Dt) ⊕ ((Int × Dt))) :=
  some (Sum.inl (x1, x2, (w32 (x3 + 1)), d))
def L_Mo_lastOf_y4 (x1 x2 x3 : Int) (d : Dt) : Option ((Int × Int × Int × Dt) ⊕ ((Int × Dt))) :=
  if x3 < (d 0 68) then ck ((0 : Int) ≤ x3 ∧ x3 < 100) (if (d 49 x3.toNat) = 0 then ck ((0 : Int) ≤ x3 ∧ x3 < 100) (ck ((0 : Int) ≤ (d 47 x3.toNat) ∧ (d 47 x3.toNat) < 120) (if (d 29 ((d 47 x3.toNat)).toNat) = x1 then L_Mo_lastOf_b38 x1 x3 x3 d else L_Mo_lastOf_b38 x1 x2 x3 d)) else L_Mo_lastOf_b38 x1 x2 x3 d) else some (Sum.inr (x2, d))
def L_Mo_lastOf_l4 (x1 x2 x3 : Int) (d : Dt) : Option ((Int × Dt)) := lpF (fun q : Int × Int × Int × Dt => L_Mo_lastOf_y4 q.1 q.2.1 q.2.2.1 q.2.2.2) FU (x1, x2, x3, d)
def L_Mo_lastOf (p1 : Int) (d : Dt) : Option (Int × Dt) :=
  lb (L_Mo_lastOf_l4 p1 (-1) 0 d) (fun q16_ => u1 q16_ (fun v13_ d14_ => some (v13_, d14_)))
set_option maxHeartbeats 4000000 in
theorem ok_Mo_lastOf_b38 {p : Program} {l : Launch} {e : Env} {s : State} {m : MethodId} {args : Array Value} {below : List Frame} {meth : Method} {c : Code} {D : va_G} {cA : Nat → ClassId} {ad : Nat → Nat} {A : Nat → Prop} (C : Cx p s m args c prog_14_method_66_code 4 "PollBooksModel" D cA ad 1 A) {Q : State → Prop} {o : (Int × Int × Int × Dt) ⊕ ((Int × Dt))} (x1 x2 x3 : Int) (d : Dt) (hx1 : c32 x1) (hx2 : c32 x2) (hx3 : c32 x3) (h : L_Mo_lastOf_b38 x1 x2 x3 d = some o) (kb : ∀ (y0 y1 y2 : Int) (e' : Dt), o = .inl (y0, y1, y2, e') → c32 y0 → c32 y1 → c32 y2 → G p l e rm_Mo_lastOf s m args below meth c 0 0 Q 4 D cA ad 1 A 4 [(2, 0), (0, y0), (0, y1), (0, y2)] [] e') (k0 : ∀ (y0 : Int) (e' : Dt), o = .inr (y0, e') → c32 y0 → G p l e rm_Mo_lastOf s m args below meth c 0 0 Q 4 D cA ad 1 A 44 [(9, 0), (9, 0), (0, y0), (9, 0)] [] e') : G p l e rm_Mo_lastOf s m args below meth c 0 0 Q 4 D cA ad 1 A 38 [(2, 0), (0, x1), (0, x2), (0, x3)] [] d := by
  unfold L_Mo_lastOf_b38 at h
  refine s_iinc C 3 1 (lo' := [(2, 0), (0, x1), (0, x2), (0, (w32 (x3 + 1)))]) rfl (by decide) (s1k (s1k (s1n (by decide) s1z))) (by decide +kernel) ?_
  refine g_goto C 4 (off := (-37)) (by decide +kernel) (by decide) ?_
  refine g_sub (lo2 := [(2, 0), (0, x1), (0, x2), (0, (w32 (x3 + 1)))]) (lsb_v (lsb_v (lsb_v (lsb_v lsb_e)))) ?_
  obtain rfl := Option.some.inj h
  exact kb x1 x2 (w32 (x3 + 1)) d rfl hx1 hx2 (w32_c _)
set_option maxHeartbeats 4000000 in
theorem ok_Mo_lastOf_y4 {p : Program} {l : Launch} {e : Env} {s : State} {m : MethodId} {args : Array Value} {below : List Frame} {meth : Method} {c : Code} {D : va_G} {cA : Nat → ClassId} {ad : Nat → Nat} {A : Nat → Prop} (C : Cx p s m args c prog_14_method_66_code 4 "PollBooksModel" D cA ad 1 A) {Q : State → Prop} {o : (Int × Int × Int × Dt) ⊕ ((Int × Dt))} (x1 x2 x3 : Int) (d : Dt) (hx1 : c32 x1) (hx2 : c32 x2) (hx3 : c32 x3) (h : L_Mo_lastOf_y4 x1 x2 x3 d = some o) (kb : ∀ (y0 y1 y2 : Int) (e' : Dt), o = .inl (y0, y1, y2, e') → c32 y0 → c32 y1 → c32 y2 → G p l e rm_Mo_lastOf s m args below meth c 0 0 Q 4 D cA ad 1 A 4 [(2, 0), (0, y0), (0, y1), (0, y2)] [] e') (k0 : ∀ (y0 : Int) (e' : Dt), o = .inr (y0, e') → c32 y0 → G p l e rm_Mo_lastOf s m args below meth c 0 0 Q 4 D cA ad 1 A 44 [(9, 0), (9, 0), (0, y0), (9, 0)] [] e') : G p l e rm_Mo_lastOf s m args below meth c 0 0 Q 4 D cA ad 1 A 4 [(2, 0), (0, x1), (0, x2), (0, x3)] [] d := by
  unfold L_Mo_lastOf_y4 at h
  refine g_iload_n C 3 rfl (by decide +kernel) ?_
  refine g_aload_n C 0 rfl (by decide +kernel) ?_
  refine g_getI C cl12 0 68 rfl cd_B0 ⟨by decide, rfl, by decide⟩ rfl (nB (by decide)) (ix := 478) lk_1470 (by decide +kernel) (fun hc1_ => ?_)
  refine g_icmp_ge C (off := 35) (tgt := 44) hx3 hc1_ (by decide +kernel) (by decide) (fun hc2_ => ?_) (fun hc2_ => ?_)
  · replace h := ite_t hc2_ h
    refine g_aload_n C 0 rfl (by decide +kernel) ?_
    refine g_getR C cl12 0 67 49 rfl cd_B0 ⟨by decide, rfl, by decide⟩ rfl rfl (nB (by decide)) (ix := 167) lk_1469 (by decide +kernel) ?_
    refine g_iload_n C 3 rfl (by decide +kernel) ?_
    obtain ⟨hb3_, h⟩ := ck_some h
    refine g_zald C 49 hx3 rfl cd_B49 (nB (by decide)) hb3_ (by decide +kernel) (fun hc4_ => ?_)
    refine g_if_ne C (off := 20) (tgt := 38) (c32_cb hc4_) (by decide +kernel) (by decide) (fun hc5_ => ?_) (fun hc5_ => ?_)
    · replace h := ite_t hc5_ h
      refine g_aload_n C 0 rfl (by decide +kernel) ?_
      refine g_getR C cl12 0 47 29 rfl cd_B0 ⟨by decide, rfl, by decide⟩ rfl rfl (nB (by decide)) (ix := 107) lk_1449 (by decide +kernel) ?_
      refine g_aload_n C 0 rfl (by decide +kernel) ?_
      refine g_getR C cl12 0 65 47 rfl cd_B0 ⟨by decide, rfl, by decide⟩ rfl rfl (nB (by decide)) (ix := 161) lk_1467 (by decide +kernel) ?_
      refine g_iload_n C 3 rfl (by decide +kernel) ?_
      obtain ⟨hb6_, h⟩ := ck_some h
      refine g_iald C 47 hx3 rfl cd_B47 (nB (by decide)) hb6_ (by decide +kernel) (fun hc7_ => ?_)
      obtain ⟨hb8_, h⟩ := ck_some h
      refine g_iald C 29 hc7_ rfl cd_B29 (nB (by decide)) hb8_ (by decide +kernel) (fun hc9_ => ?_)
      refine g_iload_n C 1 rfl (by decide +kernel) ?_
      refine g_icmp_ne C (off := 5) (tgt := 38) hc9_ hx1 (by decide +kernel) (by decide) (fun hc10_ => ?_) (fun hc10_ => ?_)
      · replace h := ite_t hc10_ h
        refine g_iload_n C 3 rfl (by decide +kernel) ?_
        refine s_istore_n C 2 (lo' := [(2, 0), (0, x1), (0, x3), (0, x3)]) (by decide) (s1k (s1n (by decide) s1z)) (by decide +kernel) ?_
        refine g_sub (lo2 := [(2, 0), (0, x1), (0, x3), (0, x3)]) (lsb_v (lsb_v (lsb_v (lsb_v lsb_e)))) ?_
        exact ok_Mo_lastOf_b38 C x1 x3 x3 d hx1 hx3 hx3 h kb k0
      · replace h := ite_f hc10_ h
        refine g_sub (lo2 := [(2, 0), (0, x1), (0, x2), (0, x3)]) (lsb_v (lsb_v (lsb_v (lsb_v lsb_e)))) ?_
        exact ok_Mo_lastOf_b38 C x1 x2 x3 d hx1 hx2 hx3 h kb k0
    · replace h := ite_f hc5_ h
      refine g_sub (lo2 := [(2, 0), (0, x1), (0, x2), (0, x3)]) (lsb_v (lsb_v (lsb_v (lsb_v lsb_e)))) ?_
      exact ok_Mo_lastOf_b38 C x1 x2 x3 d hx1 hx2 hx3 h kb k0
  · replace h := ite_f hc2_ h
    refine g_sub (lo2 := [(9, 0), (9, 0), (0, x2), (9, 0)]) (lsb_c (lsb_c (lsb_v (lsb_c lsb_e)))) ?_
    obtain rfl := Option.some.inj h
    exact k0 x2 d rfl hx2
set_option maxHeartbeats 4000000 in
theorem ok_Mo_lastOf_n4 {p : Program} {l : Launch} {e : Env} {s : State} {m : MethodId} {args : Array Value} {below : List Frame} {meth : Method} {c : Code} {D : va_G} {cA : Nat → ClassId} {ad : Nat → Nat} {A : Nat → Prop} (C : Cx p s m args c prog_14_method_66_code 4 "PollBooksModel" D cA ad 1 A) {Q : State → Prop} {x : (Int × Dt)} : ∀ (n : Nat) (x1 x2 x3 : Int) (d : Dt), c32 x1 → c32 x2 → c32 x3 → lpF (fun q : Int × Int × Int × Dt => L_Mo_lastOf_y4 q.1 q.2.1 q.2.2.1 q.2.2.2) n (x1, x2, x3, d) = some x → (∀ (y0 : Int) (e' : Dt), x = (y0, e') → c32 y0 → G p l e rm_Mo_lastOf s m args below meth c 0 0 Q 4 D cA ad 1 A 44 [(9, 0), (9, 0), (0, y0), (9, 0)] [] e') → G p l e rm_Mo_lastOf s m args below meth c 0 0 Q 4 D cA ad 1 A 4 [(2, 0), (0, x1), (0, x2), (0, x3)] [] d := by
  intro n
  induction n with
  | zero => intro x1 x2 x3 d g0 g1 g2 h k0; cases h
  | succ n ih =>
    intro x1 x2 x3 d g0 g1 g2 h k0
    rcases lpF_some h with h | ⟨⟨v0_, v1_, v2_, e0_⟩, h1, h⟩
    · exact ok_Mo_lastOf_y4 C x1 x2 x3 d g0 g1 g2 h (fun z0_ z1_ z2_ e1_ eq w0_ w1_ w2_ => by cases eq) (fun z0_ e1_ eq w0_ => k0 _ _ (by cases eq; rfl) w0_)
    · exact ok_Mo_lastOf_y4 C x1 x2 x3 d g0 g1 g2 h1 (fun z0_ z1_ z2_ e1_ eq w0_ w1_ w2_ => by cases eq; exact ih _ _ _ _ w0_ w1_ w2_ h k0) (fun z0_ e1_ eq w0_ => by cases eq)
set_option maxHeartbeats 4000000 in
theorem ok_Mo_lastOf_l4 {p : Program} {l : Launch} {e : Env} {s : State} {m : MethodId} {args : Array Value} {below : List Frame} {meth : Method} {c : Code} {D : va_G} {cA : Nat → ClassId} {ad : Nat → Nat} {A : Nat → Prop} (C : Cx p s m args c prog_14_method_66_code 4 "PollBooksModel" D cA ad 1 A) {Q : State → Prop} {x : (Int × Dt)} (x1 x2 x3 : Int) (d : Dt) (hx1 : c32 x1) (hx2 : c32 x2) (hx3 : c32 x3) (h : L_Mo_lastOf_l4 x1 x2 x3 d = some x) (k0 : ∀ (y0 : Int) (e' : Dt), x = (y0, e') → c32 y0 → G p l e rm_Mo_lastOf s m args below meth c 0 0 Q 4 D cA ad 1 A 44 [(9, 0), (9, 0), (0, y0), (9, 0)] [] e') : G p l e rm_Mo_lastOf s m args below meth c 0 0 Q 4 D cA ad 1 A 4 [(2, 0), (0, x1), (0, x2), (0, x3)] [] d :=
  ok_Mo_lastOf_n4 C FU x1 x2 x3 d hx1 hx2 hx3 h k0
set_option maxHeartbeats 4000000 in
theorem ok_Mo_lastOf {l : Launch} {r : Int} {d' : Dt} (p1 : Int) (d : Dt) (hp1 : c32 p1) (h : L_Mo_lastOf p1 d = some (r, d')) : MC l y_Mo_lastOf prog_14_method_66_code 4 (some .int) rm_Mo_lastOf 1 [(2, 0), (0, p1)] d (some (0, r)) d' := by
  refine MC.of (by decide) (Nat.le_of_ble_eq_true rfl) ?_
  intro p e s m args below meth c D cA ad A C hlk hr
  replace C : Cx p s m args c prog_14_method_66_code 4 "PollBooksModel" D cA ad 1 A := C
  show G p l e rm_Mo_lastOf s m args below meth c 0 0 (MQ below (fun _ => QC D cA ad 1 A (some .int) (some (0, r)) d') args s 0 0 A) 4 D cA ad 1 A 0 [(2, 0), (0, p1)] [] d
  refine g_sub (lo2 := [(2, 0), (0, p1), (9, 0), (9, 0)]) (lsb_v (lsb_v (lsb_n (lsb_n lsb_e)))) ?_
  unfold L_Mo_lastOf at h
  refine g_iconst C (-1) (cK rfl) (by decide +kernel) ?_
  refine s_istore_n C 2 (lo' := [(2, 0), (0, p1), (0, (-1)), (9, 0)]) (by decide) (s1k (s1n (by decide) s1z)) (by decide +kernel) ?_
  refine g_iconst C 0 (cK rfl) (by decide +kernel) ?_
  refine s_istore_n C 3 (lo' := [(2, 0), (0, p1), (0, (-1)), (0, 0)]) (by decide) (s1k (s1k (s1n (by decide) s1z))) (by decide +kernel) ?_
  refine g_sub (lo2 := [(2, 0), (0, p1), (0, (-1)), (0, 0)]) (lsb_v (lsb_v (lsb_v (lsb_v lsb_e)))) ?_
  obtain ⟨x11_, hx12_, h⟩ := lb_some h
  refine ok_Mo_lastOf_l4 C p1 (-1) 0 d hp1 (cK rfl) (c32_cb (Or.inl rfl)) hx12_ (fun v13_ d14_ eq15_ hv13_ => ?_)
  subst eq15_
  replace h := u1_e h
  refine g_iload_n C 2 rfl (by decide +kernel) ?_
  obtain ⟨rfl, rfl⟩ := ret_inj h
  exact g_iret C hv13_ hlk hr (by decide +kernel)
