/-! PollBooks$Parser.take(I)LPollBooks$Statute; -/
def y_Pa_take : MethodName := ⟨"PollBooks$Parser", "take", "(I)LPollBooks$Statute;"⟩
def rm_Pa_take : Room := { frames := 20, cells := 7, slots := 710, locals := 467 }
theorem mw_Pa_take : MW y_Pa_take prog_6_method_7_code 4 (some (.object "PollBooks$Statute")) 1 := ⟨lk_750, lk_6, by decide +kernel⟩
def L_Pa_take_y36 (x2 x3 : Int) (d : Dt) : Option ((Int × Int × Dt) ⊕ ((Int × Dt))) :=
  if 20 < x3 then some (Sum.inr (x2, d)) else if x2 = 0 then some (Sum.inr (x2, d)) else bd (L_Pa_kind d) (fun r4_ d3_ => if r4_ = 0 then some (Sum.inr (x2, d3_)) else bd (L_Pa_takeRule d3_) (fun r9_ d8_ => some (Sum.inl (r9_, (w32 (x3 + 1)), d8_))))
def L_Pa_take_l36 (x2 x3 : Int) (d : Dt) : Option ((Int × Dt)) := lpF (fun q : Int × Int × Dt => L_Pa_take_y36 q.1 q.2.1 q.2.2) FU (x2, x3, d)
noncomputable def L_Pa_take (p1 : Int) (d : Dt) : Option (Int × Dt) :=
  ck (stt d (d 25 6)) (bd (L_St_clear (d 25 6) d) (fun r13_ d12_ => bd (L_Pa_scan p1 (up2 (up2 (up2 (up2 d12_ 25 1 0) 25 7 0) 25 8 (-1)) 25 5 0)) (fun r18_ d17_ => lb (L_Pa_take_l36 1 0 d17_) (fun q33_ => u1 q33_ (fun v23_ d24_ => if v23_ = 0 then some ((-1), d24_) else ck (d24_ GH 0 = d GH 0 ∧ d GH 0 ≤ 5) (ck (stt d24_ (d24_ 25 6)) (ckP (okRI d24_) (some ((d24_ 25 6), (mkst d24_))))))))))
set_option maxHeartbeats 4000000 in
theorem ok_Pa_take_y36 {p : Program} {l : Launch} {e : Env} {s : State} {m : MethodId} {args : Array Value} {below : List Frame} {meth : Method} {c : Code} {D : va_G} {cA : Nat → ClassId} {ad : Nat → Nat} {A : Nat → Prop} (C : Cx p s m args c prog_6_method_7_code 4 "PollBooks$Parser" D cA ad 0 A) {Q : State → Prop} {o : (Int × Int × Dt) ⊕ ((Int × Dt))} (x2 x3 : Int) (d : Dt) (hx2 : cb x2) (hx3 : c32 x3) (h : L_Pa_take_y36 x2 x3 d = some o) (kb : ∀ (y0 y1 : Int) (e' : Dt), o = .inl (y0, y1, e') → cb y0 → c32 y1 → G p l e rm_Pa_take s m args below meth c 0 0 Q 4 D cA ad 0 A 36 [(2, 25), (9, 0), (0, y0), (0, y1)] [] e') (k0 : ∀ (y0 : Int) (e' : Dt), o = .inr (y0, e') → cb y0 → G p l e rm_Pa_take s m args below meth c 0 0 Q 4 D cA ad 0 A 64 [(2, 25), (9, 0), (0, y0), (9, 0)] [] e') : G p l e rm_Pa_take s m args below meth c 0 0 Q 4 D cA ad 0 A 36 [(2, 25), (9, 0), (0, x2), (0, x3)] [] d := by
  unfold L_Pa_take_y36 at h
  refine g_iload_n C 3 rfl (by decide +kernel) ?_
  refine g_bipush C 20 (by decide) (by decide +kernel) ?_
  refine g_icmp_gt C (off := 25) (tgt := 64) hx3 (cK rfl) (by decide +kernel) (by decide) (fun hc1_ => ?_) (fun hc1_ => ?_)
  · replace h := ite_t hc1_ h
    refine g_sub (lo2 := [(2, 25), (9, 0), (0, x2), (9, 0)]) (lsb_v (lsb_c (lsb_v (lsb_c lsb_e)))) ?_
    obtain rfl := Option.some.inj h
    exact k0 x2 d rfl hx2
  · replace h := ite_f hc1_ h
    refine g_iload_n C 2 rfl (by decide +kernel) ?_
    refine g_if_eq C (off := 21) (tgt := 64) (c32_cb hx2) (by decide +kernel) (by decide) (fun hc2_ => ?_) (fun hc2_ => ?_)
    · replace h := ite_t hc2_ h
      refine g_sub (lo2 := [(2, 25), (9, 0), (0, x2), (9, 0)]) (lsb_v (lsb_c (lsb_v (lsb_c lsb_e)))) ?_
      obtain rfl := Option.some.inj h
      exact k0 x2 d rfl hx2
    · replace h := ite_f hc2_ h
      refine g_aload_n C 0 rfl (by decide +kernel) ?_
      obtain ⟨r4_, d3_, hr5_, h⟩ := bd_some h
      refine g_callV C mw_Pa_kind [] 25 cl4 rfl (ok_Pa_kind  d  hr5_) cd_A25 (by decide) (nA (by decide)) (ix := 53) lk_787 lk_789 lkp_12 ⟨rfl, rfl, Nat.le_of_ble_eq_true rfl, Nat.le_of_ble_eq_true rfl⟩ rfl (rest := []) rfl (Nat.le_of_ble_eq_true rfl) ⟨Nat.le_of_ble_eq_true rfl, Nat.le_of_ble_eq_true rfl⟩ (by decide +kernel) (fun _ hc6_ => ?_)
      replace hc6_ : c32 r4_ := hc6_
      refine g_st (st2 := [(0, r4_)]) rfl ?_
      refine g_if_eq C (off := 14) (tgt := 64) hc6_ (by decide +kernel) (by decide) (fun hc7_ => ?_) (fun hc7_ => ?_)
      · replace h := ite_t hc7_ h
        refine g_sub (lo2 := [(2, 25), (9, 0), (0, x2), (9, 0)]) (lsb_v (lsb_c (lsb_v (lsb_c lsb_e)))) ?_
        obtain rfl := Option.some.inj h
        exact k0 x2 d3_ rfl hx2
      · replace h := ite_f hc7_ h
        refine g_aload_n C 0 rfl (by decide +kernel) ?_
        obtain ⟨r9_, d8_, hr10_, h⟩ := bd_some h
        refine g_callV C mw_Pa_takeRule [] 25 cl4 rfl (ok_Pa_takeRule  d3_  hr10_) cd_A25 (by decide) (nA (by decide)) (ix := 57) lk_791 lk_793 lkp_13 ⟨rfl, rfl, Nat.le_of_ble_eq_true rfl, Nat.le_of_ble_eq_true rfl⟩ rfl (rest := []) rfl (Nat.le_of_ble_eq_true rfl) ⟨Nat.le_of_ble_eq_true rfl, Nat.le_of_ble_eq_true rfl⟩ (by decide +kernel) (fun _ hc11_ => ?_)
        replace hc11_ : cb r9_ := hc11_
        refine g_st (st2 := [(0, r9_)]) rfl ?_
        refine s_istore_n C 2 (lo' := [(2, 25), (9, 0), (0, r9_), (0, x3)]) (by decide) (s1k (s1n (by decide) s1z)) (by decide +kernel) ?_
        refine s_iinc C 3 1 (lo' := [(2, 25), (9, 0), (0, r9_), (0, (w32 (x3 + 1)))]) rfl (by decide) (s1k (s1k (s1n (by decide) s1z))) (by decide +kernel) ?_
        refine g_goto C 36 (off := (-25)) (by decide +kernel) (by decide) ?_
        refine g_sub (lo2 := [(2, 25), (9, 0), (0, r9_), (0, (w32 (x3 + 1)))]) (lsb_v (lsb_c (lsb_v (lsb_v lsb_e)))) ?_
        obtain rfl := Option.some.inj h
        exact kb r9_ (w32 (x3 + 1)) d8_ rfl hc11_ (w32_c _)
set_option maxHeartbeats 4000000 in
theorem ok_Pa_take_n36 {p : Program} {l : Launch} {e : Env} {s : State} {m : MethodId} {args : Array Value} {below : List Frame} {meth : Method} {c : Code} {D : va_G} {cA : Nat → ClassId} {ad : Nat → Nat} {A : Nat → Prop} (C : Cx p s m args c prog_6_method_7_code 4 "PollBooks$Parser" D cA ad 0 A) {Q : State → Prop} {x : (Int × Dt)} : ∀ (n : Nat) (x2 x3 : Int) (d : Dt), cb x2 → c32 x3 → lpF (fun q : Int × Int × Dt => L_Pa_take_y36 q.1 q.2.1 q.2.2) n (x2, x3, d) = some x → (∀ (y0 : Int) (e' : Dt), x = (y0, e') → cb y0 → G p l e rm_Pa_take s m args below meth c 0 0 Q 4 D cA ad 0 A 64 [(2, 25), (9, 0), (0, y0), (9, 0)] [] e') → G p l e rm_Pa_take s m args below meth c 0 0 Q 4 D cA ad 0 A 36 [(2, 25), (9, 0), (0, x2), (0, x3)] [] d := by
  intro n
  induction n with
  | zero => intro x2 x3 d g0 g1 h k0; cases h
  | succ n ih =>
    intro x2 x3 d g0 g1 h k0
    rcases lpF_some h with h | ⟨⟨v0_, v1_, e0_⟩, h1, h⟩
    · exact ok_Pa_take_y36 C x2 x3 d g0 g1 h (fun z0_ z1_ e1_ eq w0_ w1_ => by cases eq) (fun z0_ e1_ eq w0_ => k0 _ _ (by cases eq; rfl) w0_)
    · exact ok_Pa_take_y36 C x2 x3 d g0 g1 h1 (fun z0_ z1_ e1_ eq w0_ w1_ => by cases eq; exact ih _ _ _ w0_ w1_ h k0) (fun z0_ e1_ eq w0_ => by cases eq)
set_option maxHeartbeats 4000000 in
theorem ok_Pa_take_l36 {p : Program} {l : Launch} {e : Env} {s : State} {m : MethodId} {args : Array Value} {below : List Frame} {meth : Method} {c : Code} {D : va_G} {cA : Nat → ClassId} {ad : Nat → Nat} {A : Nat → Prop} (C : Cx p s m args c prog_6_method_7_code 4 "PollBooks$Parser" D cA ad 0 A) {Q : State → Prop} {x : (Int × Dt)} (x2 x3 : Int) (d : Dt) (hx2 : cb x2) (hx3 : c32 x3) (h : L_Pa_take_l36 x2 x3 d = some x) (k0 : ∀ (y0 : Int) (e' : Dt), x = (y0, e') → cb y0 → G p l e rm_Pa_take s m args below meth c 0 0 Q 4 D cA ad 0 A 64 [(2, 25), (9, 0), (0, y0), (9, 0)] [] e') : G p l e rm_Pa_take s m args below meth c 0 0 Q 4 D cA ad 0 A 36 [(2, 25), (9, 0), (0, x2), (0, x3)] [] d :=
  ok_Pa_take_n36 C FU x2 x3 d hx2 hx3 h k0
set_option maxHeartbeats 4000000 in
theorem ok_Pa_take {l : Launch} {r : Int} {d' : Dt} (p1 : Int) (d : Dt) (hp1 : c32 p1) (h : L_Pa_take p1 d = some (r, d')) : MA l y_Pa_take prog_6_method_7_code 4 (some (.object "PollBooks$Statute")) rm_Pa_take [(2, 25), (0, p1)] d (some (2, r)) d' := by
  refine MA.of (by decide) (Nat.le_of_ble_eq_true rfl) ?_
  intro p e s m args below meth c D cA ad A C hAO hlk hr
  replace C : Cx p s m args c prog_6_method_7_code 4 "PollBooks$Parser" D cA ad 0 A := C
  show G p l e rm_Pa_take s m args below meth c 0 0 (MQ below (fun _ => QA D cA ad A (some (.object "PollBooks$Statute")) (some (2, r)) (nOf 0 d) d') args s 7 710 A) 4 D cA ad 0 A 0 [(2, 25), (0, p1)] [] d
  refine g_sub (lo2 := [(2, 25), (0, p1), (9, 0), (9, 0)]) (lsb_v (lsb_v (lsb_n (lsb_n lsb_e)))) ?_
  unfold L_Pa_take at h
  refine g_aload_n C 0 rfl (by decide +kernel) ?_
  refine g_getM C cl4 25 6 rfl cd_A25 ⟨by decide, rfl, by decide⟩ rfl (nA (by decide)) (ix := 29) lk_201 (by decide +kernel) ?_
  obtain ⟨hs15_, h⟩ := ck_some h
  obtain ⟨r13_, d12_, hr14_, h⟩ := bd_some h
  refine g_callV C mw_St_clear [] ((d 25 6).toNat + 0) cl9 (stt_ko0 hs15_) (ok_St_clear (d 25 6) d  hr14_) (stt_cd hs15_ 0 (by decide)) (by decide) (stt_n hs15_ 0 (by decide)) (ix := 43) lk_751 lk_752 lk_753 ⟨rfl, rfl, Nat.le_of_ble_eq_true rfl, Nat.le_of_ble_eq_true rfl⟩ rfl (rest := []) rfl (Nat.le_of_ble_eq_true rfl) ⟨Nat.le_of_ble_eq_true rfl, Nat.le_of_ble_eq_true rfl⟩ (by decide +kernel) (fun _ hc16_ => ?_)
  refine g_st (st2 := []) rfl ?_
  refine g_aload_n C 0 rfl (by decide +kernel) ?_
  refine g_iconst C 0 (cK rfl) (by decide +kernel) ?_
  refine g_putI C cl4 25 1 (c32_cb (Or.inl rfl)) rfl cd_A25 ⟨by decide, rfl, by decide⟩ rfl (nA (by decide)) (ix := 40) lk_196 rfl rfl (by decide +kernel) ?_
  refine g_aload_n C 0 rfl (by decide +kernel) ?_
  refine g_iconst C 0 (cK rfl) (by decide +kernel) ?_
  refine g_putI C cl4 25 7 (c32_cb (Or.inl rfl)) rfl cd_A25 ⟨by decide, rfl, by decide⟩ rfl (nA (by decide)) (ix := 33) lk_202 rfl rfl (by decide +kernel) ?_
  refine g_aload_n C 0 rfl (by decide +kernel) ?_
  refine g_iconst C (-1) (cK rfl) (by decide +kernel) ?_
  refine g_putI C cl4 25 8 (cK rfl) rfl cd_A25 ⟨by decide, rfl, by decide⟩ rfl (nA (by decide)) (ix := 37) lk_203 rfl rfl (by decide +kernel) ?_
  refine g_aload_n C 0 rfl (by decide +kernel) ?_
  refine g_iconst C 0 (cK rfl) (by decide +kernel) ?_
  refine g_putI C cl4 25 5 (c32_cb (Or.inl rfl)) rfl cd_A25 ⟨by decide, rfl, by decide⟩ rfl (nA (by decide)) (ix := 46) lk_200 rfl rfl (by decide +kernel) ?_
  refine g_aload_n C 0 rfl (by decide +kernel) ?_
  refine g_iload_n C 1 rfl (by decide +kernel) ?_
  obtain ⟨r18_, d17_, hr19_, h⟩ := bd_some h
  refine g_callV C mw_Pa_scan [(0, p1)] 25 cl4 rfl (ok_Pa_scan p1 (up2 (up2 (up2 (up2 d12_ 25 1 0) 25 7 0) 25 8 (-1)) 25 5 0) hp1 hr19_) cd_A25 (by decide) (nA (by decide)) (ix := 49) lk_755 lk_757 lkp_8 ⟨rfl, rfl, Nat.le_of_ble_eq_true rfl, Nat.le_of_ble_eq_true rfl⟩ rfl (rest := []) rfl (Nat.le_of_ble_eq_true rfl) ⟨Nat.le_of_ble_eq_true rfl, Nat.le_of_ble_eq_true rfl⟩ (by decide +kernel) (fun _ hc20_ => ?_)
  refine g_st (st2 := []) rfl ?_
  refine g_iconst C 1 (cK rfl) (by decide +kernel) ?_
  refine s_istore_n C 2 (lo' := [(2, 25), (0, p1), (0, 1), (9, 0)]) (by decide) (s1k (s1n (by decide) s1z)) (by decide +kernel) ?_
  refine g_iconst C 0 (cK rfl) (by decide +kernel) ?_
  refine s_istore_n C 3 (lo' := [(2, 25), (0, p1), (0, 1), (0, 0)]) (by decide) (s1k (s1k (s1n (by decide) s1z))) (by decide +kernel) ?_
  refine g_sub (lo2 := [(2, 25), (9, 0), (0, 1), (0, 0)]) (lsb_v (lsb_c (lsb_v (lsb_v lsb_e)))) ?_
  obtain ⟨x21_, hx22_, h⟩ := lb_some h
  refine ok_Pa_take_l36 C 1 0 d17_ (Or.inr rfl) (c32_cb (Or.inl rfl)) hx22_ (fun v23_ d24_ eq25_ hv23_ => ?_)
  subst eq25_
  replace h := u1_e h
  refine g_iload_n C 2 rfl (by decide +kernel) ?_
  refine g_if_ne C (off := 5) (tgt := 70) (c32_cb hv23_) (by decide +kernel) (by decide) (fun hc26_ => ?_) (fun hc26_ => ?_)
  · replace h := ite_t hc26_ h
    refine g_null C (by decide +kernel) ?_
    obtain ⟨rfl, rfl⟩ := ret_inj h
    exact a_aret C (Or.inl ⟨_, rfl⟩) (fun _ _ => rfl) ⟨by decide, by decide⟩ hlk hr (by decide +kernel)
  · replace h := ite_f hc26_ h
    refine g_aload_n C 0 rfl (by decide +kernel) ?_
    refine g_getM C cl4 25 6 rfl cd_A25 ⟨by decide, rfl, by decide⟩ rfl (nA (by decide)) (ix := 29) lk_201 (by decide +kernel) ?_
    refine s_astore_n C 3 (lo' := [(2, 25), (9, 0), (0, v23_), (2, (d24_ 25 6))]) (by decide) (s1k (s1k (s1n (by decide) s1z))) (by decide +kernel) ?_
    refine g_aload_n C 0 rfl (by decide +kernel) ?_
    refine g_sub (lo2 := [(2, 25), (9, 0), (9, 0), (2, (d24_ 25 6))]) (lsb_v (lsb_c (lsb_c (lsb_v lsb_e)))) ?_
    obtain ⟨hg27_, h⟩ := ck_some h
    obtain ⟨hs28_, h⟩ := ck_some h
    obtain ⟨hri29_, h⟩ := ckP_some h
    refine g_mkst C hAO (okl_take hs28_) hri29_ (by rw [hg27_.1]; exact hg27_.2) (i1 := 26) (i2 := 28) (i3 := 29) (host := "PollBooks") lk_145 lk_146 lk_7 lk_147 lk_148 lk_201 ⟨by decide, by decide, by decide, by decide⟩ (by decide +kernel) (by decide +kernel) (by decide +kernel) (by decide +kernel) (fun ad30_ hag31_ => ?_)
    have hag32_ : ∀ k, k < nOf 0 d ∨ GH ≤ k → ad30_ k = ad k := fun k hk => hag31_ k (by rw [nOf_eq hg27_.1]; exact hk)
    replace C := Cx.re C (fun k hk => hag32_ k (Or.inr hk))
    refine g_aload_n C 3 rfl (by decide +kernel) ?_
    obtain ⟨rfl, rfl⟩ := ret_inj h
    exact a_aret C (Or.inl ⟨_, rfl⟩) hag32_ ⟨by decide, by decide⟩ hlk hr (by decide +kernel)
/-! PollBooks.text(III)I -/
def y_PB_text : MethodName := ⟨"PollBooks", "text", "(III)I"⟩
def rm_PB_text : Room := { frames := 21, cells := 7, slots := 710, locals := 490 }
theorem mw_PB_text : MW y_PB_text prog_1_method_18_code 6 (some .int) 3 := ⟨lk_741, lk_1, by decide +kernel⟩
noncomputable def L_PB_text (p1 p2 p3 : Int) (d : Dt) : Option (Int × Dt) :=
  bd (L_Pa_taped d) (fun r2_ d1_ => bd (L_PB_within p1 0 r2_ d1_) (fun r6_ d5_ => if r6_ = 0 then if (0 : Int) = 0 then if (1 : Int) = 0 then ck ((up2 d5_ 0 0 1) GH 0 = d GH 0) (bd (L_Pa_take p1 (up2 d5_ 0 0 1)) (fun r18_ d17_ => if r18_ < 0 then some ((-1), (up2 d17_ 0 0 9)) else bd (L_La_enact r18_ p2 p3 d17_) (fun r22_ d21_ => ck (stt d21_ r18_) (some ((d21_ (r18_.toNat + 0) 2), d21_))))) else some ((-1), (up2 d5_ 0 0 1)) else bd (L_La_isFull d5_) (fun r28_ d27_ => if r28_ = 0 then if (0 : Int) = 0 then ck ((up2 d27_ 0 0 0) GH 0 = d GH 0) (bd (L_Pa_take p1 (up2 d27_ 0 0 0)) (fun r39_ d38_ => if r39_ < 0 then some ((-1), (up2 d38_ 0 0 9)) else bd (L_La_enact r39_ p2 p3 d38_) (fun r43_ d42_ => ck (stt d42_ r39_) (some ((d42_ (r39_.toNat + 0) 2), d42_))))) else some ((-1), (up2 d27_ 0 0 0)) else if (4 : Int) = 0 then ck ((up2 d27_ 0 0 4) GH 0 = d GH 0) (bd (L_Pa_take p1 (up2 d27_ 0 0 4)) (fun r55_ d54_ => if r55_ < 0 then some ((-1), (up2 d54_ 0 0 9)) else bd (L_La_enact r55_ p2 p3 d54_) (fun r59_ d58_ => ck (stt d58_ r55_) (some ((d58_ (r55_.toNat + 0) 2), d58_))))) else some ((-1), (up2 d27_ 0 0 4))) else bd (L_PB_isDay p2 d5_) (fun r65_ d64_ => if r65_ = 0 then if (0 : Int) = 0 then if (1 : Int) = 0 then ck ((up2 d64_ 0 0 1) GH 0 = d GH 0) (bd (L_Pa_take p1 (up2 d64_ 0 0 1)) (fun r77_ d76_ => if r77_ < 0 then some ((-1), (up2 d76_ 0 0 9)) else bd (L_La_enact r77_ p2 p3 d76_) (fun r81_ d80_ => ck (stt d80_ r77_) (some ((d80_ (r77_.toNat + 0) 2), d80_))))) else some ((-1), (up2 d64_ 0 0 1)) else bd (L_La_isFull d64_) (fun r87_ d86_ => if r87_ = 0 then if (0 : Int) = 0 then ck ((up2 d86_ 0 0 0) GH 0 = d GH 0) (bd (L_Pa_take p1 (up2 d86_ 0 0 0)) (fun r98_ d97_ => if r98_ < 0 then some ((-1), (up2 d97_ 0 0 9)) else bd (L_La_enact r98_ p2 p3 d97_) (fun r102_ d101_ => ck (stt d101_ r98_) (some ((d101_ (r98_.toNat + 0) 2), d101_))))) else some ((-1), (up2 d86_ 0 0 0)) else if (4 : Int) = 0 then ck ((up2 d86_ 0 0 4) GH 0 = d GH 0) (bd (L_Pa_take p1 (up2 d86_ 0 0 4)) (fun r114_ d113_ => if r114_ < 0 then some ((-1), (up2 d113_ 0 0 9)) else bd (L_La_enact r114_ p2 p3 d113_) (fun r118_ d117_ => ck (stt d117_ r114_) (some ((d117_ (r114_.toNat + 0) 2), d117_))))) else some ((-1), (up2 d86_ 0 0 4))) else bd (L_PB_within p3 1 127 d64_) (fun r124_ d123_ => if r124_ = 0 then if (0 : Int) = 0 then if (1 : Int) = 0 then ck ((up2 d123_ 0 0 1) GH 0 = d GH 0) (bd (L_Pa_take p1 (up2 d123_ 0 0 1)) (fun r136_ d135_ => if r136_ < 0 then some ((-1), (up2 d135_ 0 0 9)) else bd (L_La_enact r136_ p2 p3 d135_) (fun r140_ d139_ => ck (stt d139_ r136_) (some ((d139_ (r136_.toNat + 0) 2), d139_))))) else some ((-1), (up2 d123_ 0 0 1)) else bd (L_La_isFull d123_) (fun r146_ d145_ => if r146_ = 0 then if (0 : Int) = 0 then ck ((up2 d145_ 0 0 0) GH 0 = d GH 0) (bd (L_Pa_take p1 (up2 d145_ 0 0 0)) (fun r157_ d156_ => if r157_ < 0 then some ((-1), (up2 d156_ 0 0 9)) else bd (L_La_enact r157_ p2 p3 d156_) (fun r161_ d160_ => ck (stt d160_ r157_) (some ((d160_ (r157_.toNat + 0) 2), d160_))))) else some ((-1), (up2 d145_ 0 0 0)) else if (4 : Int) = 0 then ck ((up2 d145_ 0 0 4) GH 0 = d GH 0) (bd (L_Pa_take p1 (up2 d145_ 0 0 4)) (fun r173_ d172_ => if r173_ < 0 then some ((-1), (up2 d172_ 0 0 9)) else bd (L_La_enact r173_ p2 p3 d172_) (fun r177_ d176_ => ck (stt d176_ r173_) (some ((d176_ (r173_.toNat + 0) 2), d176_))))) else some ((-1), (up2 d145_ 0 0 4))) else if (1 : Int) = 0 then if (1 : Int) = 0 then ck ((up2 d123_ 0 0 1) GH 0 = d GH 0) (bd (L_Pa_take p1 (up2 d123_ 0 0 1)) (fun r190_ d189_ => if r190_ < 0 then some ((-1), (up2 d189_ 0 0 9)) else bd (L_La_enact r190_ p2 p3 d189_) (fun r194_ d193_ => ck (stt d193_ r190_) (some ((d193_ (r190_.toNat + 0) 2), d193_))))) else some ((-1), (up2 d123_ 0 0 1)) else bd (L_La_isFull d123_) (fun r200_ d199_ => if r200_ = 0 then if (0 : Int) = 0 then ck ((up2 d199_ 0 0 0) GH 0 = d GH 0) (bd (L_Pa_take p1 (up2 d199_ 0 0 0)) (fun r211_ d210_ => if r211_ < 0 then some ((-1), (up2 d210_ 0 0 9)) else bd (L_La_enact r211_ p2 p3 d210_) (fun r215_ d214_ => ck (stt d214_ r211_) (some ((d214_ (r211_.toNat + 0) 2), d214_))))) else some ((-1), (up2 d199_ 0 0 0)) else if (4 : Int) = 0 then ck ((up2 d199_ 0 0 4) GH 0 = d GH 0) (bd (L_Pa_take p1 (up2 d199_ 0 0 4)) (fun r227_ d226_ => if r227_ < 0 then some ((-1), (up2 d226_ 0 0 9)) else bd (L_La_enact r227_ p2 p3 d226_) (fun r231_ d230_ => ck (stt d230_ r227_) (some ((d230_ (r227_.toNat + 0) 2), d230_))))) else some ((-1), (up2 d199_ 0 0 4)))))))
set_option maxHeartbeats 4000000 in
theorem ok_PB_text {l : Launch} {r : Int} {d' : Dt} (p1 p2 p3 : Int) (d : Dt) (hp1 : c32 p1) (hp2 : c32 p2) (hp3 : c32 p3) (h : L_PB_text p1 p2 p3 d = some (r, d')) : MA l y_PB_text prog_1_method_18_code 6 (some .int) rm_PB_text [(2, 0), (0, p1), (0, p2), (0, p3)] d (some (0, r)) d' := by
  refine MA.of (by decide) (Nat.le_of_ble_eq_true rfl) ?_
  intro p e s m args below meth c D cA ad A C hAO hlk hr
  replace C : Cx p s m args c prog_1_method_18_code 6 "PollBooks" D cA ad 0 A := C
  show G p l e rm_PB_text s m args below meth c 0 0 (MQ below (fun _ => QA D cA ad A (some .int) (some (0, r)) (nOf 0 d) d') args s 7 710 A) 6 D cA ad 0 A 0 [(2, 0), (0, p1), (0, p2), (0, p3)] [] d
  refine g_sub (lo2 := [(2, 0), (0, p1), (0, p2), (0, p3), (9, 0), (9, 0)]) (lsb_v (lsb_v (lsb_v (lsb_v (lsb_n (lsb_n lsb_e)))))) ?_
  unfold L_PB_text at h
  refine g_iload_n C 1 rfl (by decide +kernel) ?_
  refine g_i2l C hp1 (by decide +kernel) ?_
  refine g_lconst C 0 (v := 0) (by decide) (by decide +kernel) ?_
  refine g_aload_n C 0 rfl (by decide +kernel) ?_
  refine g_getR C cl11 0 4 25 rfl cd_A0 ⟨by decide, rfl, by decide⟩ rfl rfl (nA (by decide)) (ix := 39) lk_471 (by decide +kernel) ?_
  obtain ⟨r2_, d1_, hr3_, h⟩ := bd_some h
  refine g_callV C mw_Pa_taped [] 25 cl4 rfl (ok_Pa_taped  d  hr3_) cd_A25 (by decide) (nA (by decide)) (ix := 225) lk_734 lk_735 lk_736 ⟨rfl, rfl, Nat.le_of_ble_eq_true rfl, Nat.le_of_ble_eq_true rfl⟩ rfl (rest := [(1, 0), (1, p1)]) rfl (Nat.le_of_ble_eq_true rfl) ⟨Nat.le_of_ble_eq_true rfl, Nat.le_of_ble_eq_true rfl⟩ (by decide +kernel) (fun _ hc4_ => ?_)
  replace hc4_ : c32 r2_ := hc4_
  refine g_st (st2 := [(0, r2_), (1, 0), (1, p1)]) rfl ?_
  refine g_i2l C hc4_ (by decide +kernel) ?_
  obtain ⟨r6_, d5_, hr7_, h⟩ := bd_some h
  refine g_callS C mw_PB_within [(1, p1), (1, 0), (1, r2_)] (ok_PB_within p1 0 r2_ d1_ (c64_32 hp1) (cL rfl) (c64_32 hc4_) hr7_) (ix := 105) lk_520 lk_521 ⟨rfl, rfl, Nat.le_of_ble_eq_true rfl, Nat.le_of_ble_eq_true rfl⟩ rfl (rest := []) rfl (Nat.le_of_ble_eq_true rfl) ⟨Nat.le_of_ble_eq_true rfl, Nat.le_of_ble_eq_true rfl⟩ (by decide +kernel) (fun _ hc8_ => ?_)
  replace hc8_ : cb r6_ := hc8_
  refine g_st (st2 := [(0, r6_)]) rfl ?_
  refine g_if_eq C (off := 26) (tgt := 40) (c32_cb hc8_) (by decide +kernel) (by decide) (fun hc9_ => ?_) (fun hc9_ => ?_)
  · replace h := ite_t hc9_ h
    refine g_iconst C 0 (cK rfl) (by decide +kernel) ?_
    refine s_istore C 4 (lo' := [(2, 0), (0, p1), (0, p2), (0, p3), (0, 0), (9, 0)]) (by decide) (s1k (s1k (s1k (s1n (by decide) s1z)))) (by decide +kernel) ?_
    refine g_aload_n C 0 rfl (by decide +kernel) ?_
    refine g_iload C 4 rfl (by decide +kernel) ?_
    refine g_if_ne C (off := 7) (tgt := 53) (c32_cb (Or.inl rfl)) (by decide +kernel) (by decide) (fun hc10_ => ?_) (fun hc10_ => ?_)
    · replace h := ite_t hc10_ h
      refine g_iconst C 1 (cK rfl) (by decide +kernel) ?_
      refine g_goto C 68 (off := 18) (by decide +kernel) (by decide) ?_
      refine g_putI C cl11 0 0 (c32_cb (Or.inr rfl)) rfl cd_A0 ⟨by decide, rfl, by decide⟩ rfl (nA (by decide)) (ix := 9) lk_467 rfl rfl (by decide +kernel) ?_
      refine g_aload_n C 0 rfl (by decide +kernel) ?_
      refine g_getI C cl11 0 0 rfl cd_A0 ⟨by decide, rfl, by decide⟩ rfl (nA (by decide)) (ix := 9) lk_467 (by decide +kernel) (fun hc11_ => ?_)
      refine g_val (y := 1) rfl ?_
      replace hc11_ : c32 1 := hc11_
      refine g_if_eq C (off := 5) (tgt := 80) hc11_ (by decide +kernel) (by decide) (fun hc12_ => ?_) (fun hc12_ => ?_)
      · replace h := ite_t hc12_ h
        refine g_aload_n C 0 rfl (by decide +kernel) ?_
        refine g_getR C cl11 0 4 25 rfl cd_A0 ⟨by decide, rfl, by decide⟩ rfl rfl (nA (by decide)) (ix := 39) lk_471 (by decide +kernel) ?_
        refine g_iload_n C 1 rfl (by decide +kernel) ?_
        obtain ⟨hg13_, h⟩ := ck_some h
        obtain ⟨r18_, d17_, hr19_, h⟩ := bd_some h
        refine g_sub (lo2 := [(2, 0), (0, p1), (0, p2), (0, p3), (9, 0), (9, 0)]) (lsb_v (lsb_v (lsb_v (lsb_v (lsb_c (lsb_c lsb_e)))))) ?_
        refine a_callV C hAO mw_Pa_take [(0, p1)] 25 cl4 rfl (ok_Pa_take p1 (up2 d5_ 0 0 1) hp1 hr19_) cd_A25 (by decide) (nA (by decide)) (ix := 232) lk_747 lk_748 lk_749 ⟨rfl, rfl, Nat.le_of_ble_eq_true rfl, Nat.le_of_ble_eq_true rfl⟩ rfl (rest := []) rfl (Nat.le_of_ble_eq_true rfl) ⟨Nat.le_of_ble_eq_true rfl, Nat.le_of_ble_eq_true rfl⟩ (by decide +kernel) (fun _ _ ad14_ hag15_ => ?_) lo_text
        have hag16_ : ∀ k, k < nOf 0 d ∨ GH ≤ k → ad14_ k = ad k := fun k hk => hag15_ k (by rw [nOf_eq hg13_]; exact hk)
        replace C := Cx.re C (fun k hk => hag16_ k (Or.inr hk))
        refine g_st (st2 := [(2, r18_)]) rfl ?_
        refine s_astore C 5 (lo' := [(2, 0), (0, p1), (0, p2), (0, p3), (9, 0), (2, r18_)]) (by decide) (s1k (s1k (s1k (s1k (s1n (by decide) s1z))))) (by decide +kernel) ?_
        refine g_aload C 5 rfl (by decide +kernel) ?_
        refine g_ifnonnull C (off := 11) (tgt := 103) (by decide +kernel) (by decide) (fun hc20_ => ?_) (fun hc20_ => ?_)
        · replace h := ite_t hc20_ h
          refine g_aload_n C 0 rfl (by decide +kernel) ?_
          refine g_bipush C 9 (by decide) (by decide +kernel) ?_
          refine g_putI C cl11 0 0 (cK rfl) rfl cd_A0 ⟨by decide, rfl, by decide⟩ rfl (nA (by decide)) (ix := 9) lk_467 rfl rfl (by decide +kernel) ?_
          refine g_iconst C (-1) (cK rfl) (by decide +kernel) ?_
          obtain ⟨rfl, rfl⟩ := ret_inj h
          exact a_iret C (cK rfl) hag16_ ⟨by decide, by decide⟩ hlk hr (by decide +kernel)
        · replace h := ite_f hc20_ h
          refine g_aload_n C 0 rfl (by decide +kernel) ?_
          refine g_getR C cl11 0 5 30 rfl cd_A0 ⟨by decide, rfl, by decide⟩ rfl rfl (nA (by decide)) (ix := 48) lk_472 (by decide +kernel) ?_
          refine g_aload C 5 rfl (by decide +kernel) ?_
          refine g_iload_n C 2 rfl (by decide +kernel) ?_
          refine g_iload_n C 3 rfl (by decide +kernel) ?_
          obtain ⟨r22_, d21_, hr23_, h⟩ := bd_some h
          refine g_callV C mw_La_enact [(2, r18_), (0, p2), (0, p3)] 30 cl3 rfl (ok_La_enact r18_ p2 p3 d17_ hp2 hp3 hr23_) cd_A30 (by decide) (nA (by decide)) (ix := 236) lk_855 lk_856 lk_857 ⟨rfl, rfl, Nat.le_of_ble_eq_true rfl, Nat.le_of_ble_eq_true rfl⟩ rfl (rest := []) rfl (Nat.le_of_ble_eq_true rfl) ⟨Nat.le_of_ble_eq_true rfl, Nat.le_of_ble_eq_true rfl⟩ (by decide +kernel) (fun _ hc24_ => ?_)
          refine g_st (st2 := []) rfl ?_
          refine g_aload C 5 rfl (by decide +kernel) ?_
          obtain ⟨hs25_, h⟩ := ck_some h
          refine g_getIN C cl9 (r18_.toNat + 0) 2 (stt_ko0 hs25_) (stt_cd hs25_ 0 (by decide)) ⟨by decide, rfl, by decide⟩ rfl (stt_n hs25_ 0 (by decide)) (ix := 240) lk_157 (by decide +kernel) (fun hc26_ => ?_)
          obtain ⟨rfl, rfl⟩ := ret_inj h
          exact a_iret C hc26_ hag16_ ⟨by decide, by decide⟩ hlk hr (by decide +kernel)
      · replace h := ite_f hc12_ h
        refine g_iconst C (-1) (cK rfl) (by decide +kernel) ?_
        obtain ⟨rfl, rfl⟩ := ret_inj h
        exact a_iret C (cK rfl) (fun _ _ => rfl) ⟨by decide, by decide⟩ hlk hr (by decide +kernel)
    · replace h := ite_f hc10_ h
      refine g_aload_n C 0 rfl (by decide +kernel) ?_
      refine g_getR C cl11 0 5 30 rfl cd_A0 ⟨by decide, rfl, by decide⟩ rfl rfl (nA (by decide)) (ix := 48) lk_472 (by decide +kernel) ?_
      obtain ⟨r28_, d27_, hr29_, h⟩ := bd_some h
      refine g_callV C mw_La_isFull [] 30 cl3 rfl (ok_La_isFull  d5_  hr29_) cd_A30 (by decide) (nA (by decide)) (ix := 231) lk_743 lk_744 lk_745 ⟨rfl, rfl, Nat.le_of_ble_eq_true rfl, Nat.le_of_ble_eq_true rfl⟩ rfl (rest := [(2, 0)]) rfl (Nat.le_of_ble_eq_true rfl) ⟨Nat.le_of_ble_eq_true rfl, Nat.le_of_ble_eq_true rfl⟩ (by decide +kernel) (fun _ hc30_ => ?_)
      replace hc30_ : cb r28_ := hc30_
      refine g_st (st2 := [(0, r28_), (2, 0)]) rfl ?_
      refine g_if_eq C (off := 7) (tgt := 67) (c32_cb hc30_) (by decide +kernel) (by decide) (fun hc31_ => ?_) (fun hc31_ => ?_)
      · replace h := ite_t hc31_ h
        refine g_iconst C 0 (cK rfl) (by decide +kernel) ?_
        refine g_putI C cl11 0 0 (c32_cb (Or.inl rfl)) rfl cd_A0 ⟨by decide, rfl, by decide⟩ rfl (nA (by decide)) (ix := 9) lk_467 rfl rfl (by decide +kernel) ?_
        refine g_aload_n C 0 rfl (by decide +kernel) ?_
        refine g_getI C cl11 0 0 rfl cd_A0 ⟨by decide, rfl, by decide⟩ rfl (nA (by decide)) (ix := 9) lk_467 (by decide +kernel) (fun hc32_ => ?_)
        refine g_val (y := 0) rfl ?_
        replace hc32_ : c32 0 := hc32_
        refine g_if_eq C (off := 5) (tgt := 80) hc32_ (by decide +kernel) (by decide) (fun hc33_ => ?_) (fun hc33_ => ?_)
        · replace h := ite_t hc33_ h
          refine g_aload_n C 0 rfl (by decide +kernel) ?_
          refine g_getR C cl11 0 4 25 rfl cd_A0 ⟨by decide, rfl, by decide⟩ rfl rfl (nA (by decide)) (ix := 39) lk_471 (by decide +kernel) ?_
          refine g_iload_n C 1 rfl (by decide +kernel) ?_
          obtain ⟨hg34_, h⟩ := ck_some h
          obtain ⟨r39_, d38_, hr40_, h⟩ := bd_some h
          refine g_sub (lo2 := [(2, 0), (0, p1), (0, p2), (0, p3), (9, 0), (9, 0)]) (lsb_v (lsb_v (lsb_v (lsb_v (lsb_c (lsb_c lsb_e)))))) ?_
          refine a_callV C hAO mw_Pa_take [(0, p1)] 25 cl4 rfl (ok_Pa_take p1 (up2 d27_ 0 0 0) hp1 hr40_) cd_A25 (by decide) (nA (by decide)) (ix := 232) lk_747 lk_748 lk_749 ⟨rfl, rfl, Nat.le_of_ble_eq_true rfl, Nat.le_of_ble_eq_true rfl⟩ rfl (rest := []) rfl (Nat.le_of_ble_eq_true rfl) ⟨Nat.le_of_ble_eq_true rfl, Nat.le_of_ble_eq_true rfl⟩ (by decide +kernel) (fun _ _ ad35_ hag36_ => ?_) lo_text
          have hag37_ : ∀ k, k < nOf 0 d ∨ GH ≤ k → ad35_ k = ad k := fun k hk => hag36_ k (by rw [nOf_eq hg34_]; exact hk)
          replace C := Cx.re C (fun k hk => hag37_ k (Or.inr hk))
          refine g_st (st2 := [(2, r39_)]) rfl ?_
          refine s_astore C 5 (lo' := [(2, 0), (0, p1), (0, p2), (0, p3), (9, 0), (2, r39_)]) (by decide) (s1k (s1k (s1k (s1k (s1n (by decide) s1z))))) (by decide +kernel) ?_
          refine g_aload C 5 rfl (by decide +kernel) ?_
          refine g_ifnonnull C (off := 11) (tgt := 103) (by decide +kernel) (by decide) (fun hc41_ => ?_) (fun hc41_ => ?_)
          · replace h := ite_t hc41_ h
            refine g_aload_n C 0 rfl (by decide +kernel) ?_
            refine g_bipush C 9 (by decide) (by decide +kernel) ?_
            refine g_putI C cl11 0 0 (cK rfl) rfl cd_A0 ⟨by decide, rfl, by decide⟩ rfl (nA (by decide)) (ix := 9) lk_467 rfl rfl (by decide +kernel) ?_
            refine g_iconst C (-1) (cK rfl) (by decide +kernel) ?_
            obtain ⟨rfl, rfl⟩ := ret_inj h
            exact a_iret C (cK rfl) hag37_ ⟨by decide, by decide⟩ hlk hr (by decide +kernel)
          · replace h := ite_f hc41_ h
            refine g_aload_n C 0 rfl (by decide +kernel) ?_
            refine g_getR C cl11 0 5 30 rfl cd_A0 ⟨by decide, rfl, by decide⟩ rfl rfl (nA (by decide)) (ix := 48) lk_472 (by decide +kernel) ?_
            refine g_aload C 5 rfl (by decide +kernel) ?_
            refine g_iload_n C 2 rfl (by decide +kernel) ?_
            refine g_iload_n C 3 rfl (by decide +kernel) ?_
            obtain ⟨r43_, d42_, hr44_, h⟩ := bd_some h
            refine g_callV C mw_La_enact [(2, r39_), (0, p2), (0, p3)] 30 cl3 rfl (ok_La_enact r39_ p2 p3 d38_ hp2 hp3 hr44_) cd_A30 (by decide) (nA (by decide)) (ix := 236) lk_855 lk_856 lk_857 ⟨rfl, rfl, Nat.le_of_ble_eq_true rfl, Nat.le_of_ble_eq_true rfl⟩ rfl (rest := []) rfl (Nat.le_of_ble_eq_true rfl) ⟨Nat.le_of_ble_eq_true rfl, Nat.le_of_ble_eq_true rfl⟩ (by decide +kernel) (fun _ hc45_ => ?_)
            refine g_st (st2 := []) rfl ?_
            refine g_aload C 5 rfl (by decide +kernel) ?_
            obtain ⟨hs46_, h⟩ := ck_some h
            refine g_getIN C cl9 (r39_.toNat + 0) 2 (stt_ko0 hs46_) (stt_cd hs46_ 0 (by decide)) ⟨by decide, rfl, by decide⟩ rfl (stt_n hs46_ 0 (by decide)) (ix := 240) lk_157 (by decide +kernel) (fun hc47_ => ?_)
            obtain ⟨rfl, rfl⟩ := ret_inj h
            exact a_iret C hc47_ hag37_ ⟨by decide, by decide⟩ hlk hr (by decide +kernel)
        · replace h := ite_f hc33_ h
          refine g_iconst C (-1) (cK rfl) (by decide +kernel) ?_
          obtain ⟨rfl, rfl⟩ := ret_inj h
          exact a_iret C (cK rfl) (fun _ _ => rfl) ⟨by decide, by decide⟩ hlk hr (by decide +kernel)
      · replace h := ite_f hc31_ h
        refine g_iconst C 4 (cK rfl) (by decide +kernel) ?_
        refine g_goto C 68 (off := 4) (by decide +kernel) (by decide) ?_
        refine g_putI C cl11 0 0 (cK rfl) rfl cd_A0 ⟨by decide, rfl, by decide⟩ rfl (nA (by decide)) (ix := 9) lk_467 rfl rfl (by decide +kernel) ?_
        refine g_aload_n C 0 rfl (by decide +kernel) ?_
        refine g_getI C cl11 0 0 rfl cd_A0 ⟨by decide, rfl, by decide⟩ rfl (nA (by decide)) (ix := 9) lk_467 (by decide +kernel) (fun hc48_ => ?_)
        refine g_val (y := 4) rfl ?_
        replace hc48_ : c32 4 := hc48_
        refine g_if_eq C (off := 5) (tgt := 80) hc48_ (by decide +kernel) (by decide) (fun hc49_ => ?_) (fun hc49_ => ?_)
        · replace h := ite_t hc49_ h
          refine g_aload_n C 0 rfl (by decide +kernel) ?_
          refine g_getR C cl11 0 4 25 rfl cd_A0 ⟨by decide, rfl, by decide⟩ rfl rfl (nA (by decide)) (ix := 39) lk_471 (by decide +kernel) ?_
          refine g_iload_n C 1 rfl (by decide +kernel) ?_
          obtain ⟨hg50_, h⟩ := ck_some h
          obtain ⟨r55_, d54_, hr56_, h⟩ := bd_some h
          refine g_sub (lo2 := [(2, 0), (0, p1), (0, p2), (0, p3), (9, 0), (9, 0)]) (lsb_v (lsb_v (lsb_v (lsb_v (lsb_c (lsb_c lsb_e)))))) ?_
          refine a_callV C hAO mw_Pa_take [(0, p1)] 25 cl4 rfl (ok_Pa_take p1 (up2 d27_ 0 0 4) hp1 hr56_) cd_A25 (by decide) (nA (by decide)) (ix := 232) lk_747 lk_748 lk_749 ⟨rfl, rfl, Nat.le_of_ble_eq_true rfl, Nat.le_of_ble_eq_true rfl⟩ rfl (rest := []) rfl (Nat.le_of_ble_eq_true rfl) ⟨Nat.le_of_ble_eq_true rfl, Nat.le_of_ble_eq_true rfl⟩ (by decide +kernel) (fun _ _ ad51_ hag52_ => ?_) lo_text
          have hag53_ : ∀ k, k < nOf 0 d ∨ GH ≤ k → ad51_ k = ad k := fun k hk => hag52_ k (by rw [nOf_eq hg50_]; exact hk)
          replace C := Cx.re C (fun k hk => hag53_ k (Or.inr hk))
          refine g_st (st2 := [(2, r55_)]) rfl ?_
          refine s_astore C 5 (lo' := [(2, 0), (0, p1), (0, p2), (0, p3), (9, 0), (2, r55_)]) (by decide) (s1k (s1k (s1k (s1k (s1n (by decide) s1z))))) (by decide +kernel) ?_
          refine g_aload C 5 rfl (by decide +kernel) ?_
          refine g_ifnonnull C (off := 11) (tgt := 103) (by decide +kernel) (by decide) (fun hc57_ => ?_) (fun hc57_ => ?_)
          · replace h := ite_t hc57_ h
            refine g_aload_n C 0 rfl (by decide +kernel) ?_
            refine g_bipush C 9 (by decide) (by decide +kernel) ?_
            refine g_putI C cl11 0 0 (cK rfl) rfl cd_A0 ⟨by decide, rfl, by decide⟩ rfl (nA (by decide)) (ix := 9) lk_467 rfl rfl (by decide +kernel) ?_
            refine g_iconst C (-1) (cK rfl) (by decide +kernel) ?_
            obtain ⟨rfl, rfl⟩ := ret_inj h
            exact a_iret C (cK rfl) hag53_ ⟨by decide, by decide⟩ hlk hr (by decide +kernel)
          · replace h := ite_f hc57_ h
            refine g_aload_n C 0 rfl (by decide +kernel) ?_
            refine g_getR C cl11 0 5 30 rfl cd_A0 ⟨by decide, rfl, by decide⟩ rfl rfl (nA (by decide)) (ix := 48) lk_472 (by decide +kernel) ?_
            refine g_aload C 5 rfl (by decide +kernel) ?_
            refine g_iload_n C 2 rfl (by decide +kernel) ?_
            refine g_iload_n C 3 rfl (by decide +kernel) ?_
            obtain ⟨r59_, d58_, hr60_, h⟩ := bd_some h
            refine g_callV C mw_La_enact [(2, r55_), (0, p2), (0, p3)] 30 cl3 rfl (ok_La_enact r55_ p2 p3 d54_ hp2 hp3 hr60_) cd_A30 (by decide) (nA (by decide)) (ix := 236) lk_855 lk_856 lk_857 ⟨rfl, rfl, Nat.le_of_ble_eq_true rfl, Nat.le_of_ble_eq_true rfl⟩ rfl (rest := []) rfl (Nat.le_of_ble_eq_true rfl) ⟨Nat.le_of_ble_eq_true rfl, Nat.le_of_ble_eq_true rfl⟩ (by decide +kernel) (fun _ hc61_ => ?_)
            refine g_st (st2 := []) rfl ?_
            refine g_aload C 5 rfl (by decide +kernel) ?_
            obtain ⟨hs62_, h⟩ := ck_some h
            refine g_getIN C cl9 (r55_.toNat + 0) 2 (stt_ko0 hs62_) (stt_cd hs62_ 0 (by decide)) ⟨by decide, rfl, by decide⟩ rfl (stt_n hs62_ 0 (by decide)) (ix := 240) lk_157 (by decide +kernel) (fun hc63_ => ?_)
            obtain ⟨rfl, rfl⟩ := ret_inj h
            exact a_iret C hc63_ hag53_ ⟨by decide, by decide⟩ hlk hr (by decide +kernel)
        · replace h := ite_f hc49_ h
          refine g_iconst C (-1) (cK rfl) (by decide +kernel) ?_
          obtain ⟨rfl, rfl⟩ := ret_inj h
          exact a_iret C (cK rfl) (fun _ _ => rfl) ⟨by decide, by decide⟩ hlk hr (by decide +kernel)
  · replace h := ite_f hc9_ h
    refine g_iload_n C 2 rfl (by decide +kernel) ?_
    obtain ⟨r65_, d64_, hr66_, h⟩ := bd_some h
    refine g_callS C mw_PB_isDay [(0, p2)] (ok_PB_isDay p2 d5_ hp2 hr66_) (ix := 180) lk_643 lk_644 ⟨rfl, rfl, Nat.le_of_ble_eq_true rfl, Nat.le_of_ble_eq_true rfl⟩ rfl (rest := []) rfl (Nat.le_of_ble_eq_true rfl) ⟨Nat.le_of_ble_eq_true rfl, Nat.le_of_ble_eq_true rfl⟩ (by decide +kernel) (fun _ hc67_ => ?_)
    replace hc67_ : cb r65_ := hc67_
    refine g_st (st2 := [(0, r65_)]) rfl ?_
    refine g_if_eq C (off := 19) (tgt := 40) (c32_cb hc67_) (by decide +kernel) (by decide) (fun hc68_ => ?_) (fun hc68_ => ?_)
    · replace h := ite_t hc68_ h
      refine g_iconst C 0 (cK rfl) (by decide +kernel) ?_
      refine s_istore C 4 (lo' := [(2, 0), (0, p1), (0, p2), (0, p3), (0, 0), (9, 0)]) (by decide) (s1k (s1k (s1k (s1n (by decide) s1z)))) (by decide +kernel) ?_
      refine g_aload_n C 0 rfl (by decide +kernel) ?_
      refine g_iload C 4 rfl (by decide +kernel) ?_
      refine g_if_ne C (off := 7) (tgt := 53) (c32_cb (Or.inl rfl)) (by decide +kernel) (by decide) (fun hc69_ => ?_) (fun hc69_ => ?_)
      · replace h := ite_t hc69_ h
        refine g_iconst C 1 (cK rfl) (by decide +kernel) ?_
        refine g_goto C 68 (off := 18) (by decide +kernel) (by decide) ?_
        refine g_putI C cl11 0 0 (c32_cb (Or.inr rfl)) rfl cd_A0 ⟨by decide, rfl, by decide⟩ rfl (nA (by decide)) (ix := 9) lk_467 rfl rfl (by decide +kernel) ?_
        refine g_aload_n C 0 rfl (by decide +kernel) ?_
        refine g_getI C cl11 0 0 rfl cd_A0 ⟨by decide, rfl, by decide⟩ rfl (nA (by decide)) (ix := 9) lk_467 (by decide +kernel) (fun hc70_ => ?_)
        refine g_val (y := 1) rfl ?_
        replace hc70_ : c32 1 := hc70_
        refine g_if_eq C (off := 5) (tgt := 80) hc70_ (by decide +kernel) (by decide) (fun hc71_ => ?_) (fun hc71_ => ?_)
        · replace h := ite_t hc71_ h
          refine g_aload_n C 0 rfl (by decide +kernel) ?_
          refine g_getR C cl11 0 4 25 rfl cd_A0 ⟨by decide, rfl, by decide⟩ rfl rfl (nA (by decide)) (ix := 39) lk_471 (by decide +kernel) ?_
          refine g_iload_n C 1 rfl (by decide +kernel) ?_
          obtain ⟨hg72_, h⟩ := ck_some h
          obtain ⟨r77_, d76_, hr78_, h⟩ := bd_some h
          refine g_sub (lo2 := [(2, 0), (0, p1), (0, p2), (0, p3), (9, 0), (9, 0)]) (lsb_v (lsb_v (lsb_v (lsb_v (lsb_c (lsb_c lsb_e)))))) ?_
          refine a_callV C hAO mw_Pa_take [(0, p1)] 25 cl4 rfl (ok_Pa_take p1 (up2 d64_ 0 0 1) hp1 hr78_) cd_A25 (by decide) (nA (by decide)) (ix := 232) lk_747 lk_748 lk_749 ⟨rfl, rfl, Nat.le_of_ble_eq_true rfl, Nat.le_of_ble_eq_true rfl⟩ rfl (rest := []) rfl (Nat.le_of_ble_eq_true rfl) ⟨Nat.le_of_ble_eq_true rfl, Nat.le_of_ble_eq_true rfl⟩ (by decide +kernel) (fun _ _ ad73_ hag74_ => ?_) lo_text
          have hag75_ : ∀ k, k < nOf 0 d ∨ GH ≤ k → ad73_ k = ad k := fun k hk => hag74_ k (by rw [nOf_eq hg72_]; exact hk)
          replace C := Cx.re C (fun k hk => hag75_ k (Or.inr hk))
          refine g_st (st2 := [(2, r77_)]) rfl ?_
          refine s_astore C 5 (lo' := [(2, 0), (0, p1), (0, p2), (0, p3), (9, 0), (2, r77_)]) (by decide) (s1k (s1k (s1k (s1k (s1n (by decide) s1z))))) (by decide +kernel) ?_
          refine g_aload C 5 rfl (by decide +kernel) ?_
          refine g_ifnonnull C (off := 11) (tgt := 103) (by decide +kernel) (by decide) (fun hc79_ => ?_) (fun hc79_ => ?_)
          · replace h := ite_t hc79_ h
            refine g_aload_n C 0 rfl (by decide +kernel) ?_
            refine g_bipush C 9 (by decide) (by decide +kernel) ?_
            refine g_putI C cl11 0 0 (cK rfl) rfl cd_A0 ⟨by decide, rfl, by decide⟩ rfl (nA (by decide)) (ix := 9) lk_467 rfl rfl (by decide +kernel) ?_
            refine g_iconst C (-1) (cK rfl) (by decide +kernel) ?_
            obtain ⟨rfl, rfl⟩ := ret_inj h
            exact a_iret C (cK rfl) hag75_ ⟨by decide, by decide⟩ hlk hr (by decide +kernel)
          · replace h := ite_f hc79_ h
            refine g_aload_n C 0 rfl (by decide +kernel) ?_
            refine g_getR C cl11 0 5 30 rfl cd_A0 ⟨by decide, rfl, by decide⟩ rfl rfl (nA (by decide)) (ix := 48) lk_472 (by decide +kernel) ?_
            refine g_aload C 5 rfl (by decide +kernel) ?_
            refine g_iload_n C 2 rfl (by decide +kernel) ?_
            refine g_iload_n C 3 rfl (by decide +kernel) ?_
            obtain ⟨r81_, d80_, hr82_, h⟩ := bd_some h
            refine g_callV C mw_La_enact [(2, r77_), (0, p2), (0, p3)] 30 cl3 rfl (ok_La_enact r77_ p2 p3 d76_ hp2 hp3 hr82_) cd_A30 (by decide) (nA (by decide)) (ix := 236) lk_855 lk_856 lk_857 ⟨rfl, rfl, Nat.le_of_ble_eq_true rfl, Nat.le_of_ble_eq_true rfl⟩ rfl (rest := []) rfl (Nat.le_of_ble_eq_true rfl) ⟨Nat.le_of_ble_eq_true rfl, Nat.le_of_ble_eq_true rfl⟩ (by decide +kernel) (fun _ hc83_ => ?_)
            refine g_st (st2 := []) rfl ?_
            refine g_aload C 5 rfl (by decide +kernel) ?_
            obtain ⟨hs84_, h⟩ := ck_some h
            refine g_getIN C cl9 (r77_.toNat + 0) 2 (stt_ko0 hs84_) (stt_cd hs84_ 0 (by decide)) ⟨by decide, rfl, by decide⟩ rfl (stt_n hs84_ 0 (by decide)) (ix := 240) lk_157 (by decide +kernel) (fun hc85_ => ?_)
            obtain ⟨rfl, rfl⟩ := ret_inj h
            exact a_iret C hc85_ hag75_ ⟨by decide, by decide⟩ hlk hr (by decide +kernel)
        · replace h := ite_f hc71_ h
          refine g_iconst C (-1) (cK rfl) (by decide +kernel) ?_
          obtain ⟨rfl, rfl⟩ := ret_inj h
          exact a_iret C (cK rfl) (fun _ _ => rfl) ⟨by decide, by decide⟩ hlk hr (by decide +kernel)
      · replace h := ite_f hc69_ h
        refine g_aload_n C 0 rfl (by decide +kernel) ?_
        refine g_getR C cl11 0 5 30 rfl cd_A0 ⟨by decide, rfl, by decide⟩ rfl rfl (nA (by decide)) (ix := 48) lk_472 (by decide +kernel) ?_
        obtain ⟨r87_, d86_, hr88_, h⟩ := bd_some h
        refine g_callV C mw_La_isFull [] 30 cl3 rfl (ok_La_isFull  d64_  hr88_) cd_A30 (by decide) (nA (by decide)) (ix := 231) lk_743 lk_744 lk_745 ⟨rfl, rfl, Nat.le_of_ble_eq_true rfl, Nat.le_of_ble_eq_true rfl⟩ rfl (rest := [(2, 0)]) rfl (Nat.le_of_ble_eq_true rfl) ⟨Nat.le_of_ble_eq_true rfl, Nat.le_of_ble_eq_true rfl⟩ (by decide +kernel) (fun _ hc89_ => ?_)
        replace hc89_ : cb r87_ := hc89_
        refine g_st (st2 := [(0, r87_), (2, 0)]) rfl ?_
        refine g_if_eq C (off := 7) (tgt := 67) (c32_cb hc89_) (by decide +kernel) (by decide) (fun hc90_ => ?_) (fun hc90_ => ?_)
        · replace h := ite_t hc90_ h
          refine g_iconst C 0 (cK rfl) (by decide +kernel) ?_
          refine g_putI C cl11 0 0 (c32_cb (Or.inl rfl)) rfl cd_A0 ⟨by decide, rfl, by decide⟩ rfl (nA (by decide)) (ix := 9) lk_467 rfl rfl (by decide +kernel) ?_
          refine g_aload_n C 0 rfl (by decide +kernel) ?_
          refine g_getI C cl11 0 0 rfl cd_A0 ⟨by decide, rfl, by decide⟩ rfl (nA (by decide)) (ix := 9) lk_467 (by decide +kernel) (fun hc91_ => ?_)
          refine g_val (y := 0) rfl ?_
          replace hc91_ : c32 0 := hc91_
          refine g_if_eq C (off := 5) (tgt := 80) hc91_ (by decide +kernel) (by decide) (fun hc92_ => ?_) (fun hc92_ => ?_)
          · replace h := ite_t hc92_ h
            refine g_aload_n C 0 rfl (by decide +kernel) ?_
            refine g_getR C cl11 0 4 25 rfl cd_A0 ⟨by decide, rfl, by decide⟩ rfl rfl (nA (by decide)) (ix := 39) lk_471 (by decide +kernel) ?_
            refine g_iload_n C 1 rfl (by decide +kernel) ?_
            obtain ⟨hg93_, h⟩ := ck_some h
            obtain ⟨r98_, d97_, hr99_, h⟩ := bd_some h
            refine g_sub (lo2 := [(2, 0), (0, p1), (0, p2), (0, p3), (9, 0), (9, 0)]) (lsb_v (lsb_v (lsb_v (lsb_v (lsb_c (lsb_c lsb_e)))))) ?_
            refine a_callV C hAO mw_Pa_take [(0, p1)] 25 cl4 rfl (ok_Pa_take p1 (up2 d86_ 0 0 0) hp1 hr99_) cd_A25 (by decide) (nA (by decide)) (ix := 232) lk_747 lk_748 lk_749 ⟨rfl, rfl, Nat.le_of_ble_eq_true rfl, Nat.le_of_ble_eq_true rfl⟩ rfl (rest := []) rfl (Nat.le_of_ble_eq_true rfl) ⟨Nat.le_of_ble_eq_true rfl, Nat.le_of_ble_eq_true rfl⟩ (by decide +kernel) (fun _ _ ad94_ hag95_ => ?_) lo_text
            have hag96_ : ∀ k, k < nOf 0 d ∨ GH ≤ k → ad94_ k = ad k := fun k hk => hag95_ k (by rw [nOf_eq hg93_]; exact hk)
            replace C := Cx.re C (fun k hk => hag96_ k (Or.inr hk))
            refine g_st (st2 := [(2, r98_)]) rfl ?_
            refine s_astore C 5 (lo' := [(2, 0), (0, p1), (0, p2), (0, p3), (9, 0), (2, r98_)]) (by decide) (s1k (s1k (s1k (s1k (s1n (by decide) s1z))))) (by decide +kernel) ?_
            refine g_aload C 5 rfl (by decide +kernel) ?_
            refine g_ifnonnull C (off := 11) (tgt := 103) (by decide +kernel) (by decide) (fun hc100_ => ?_) (fun hc100_ => ?_)
            · replace h := ite_t hc100_ h
              refine g_aload_n C 0 rfl (by decide +kernel) ?_
              refine g_bipush C 9 (by decide) (by decide +kernel) ?_
              refine g_putI C cl11 0 0 (cK rfl) rfl cd_A0 ⟨by decide, rfl, by decide⟩ rfl (nA (by decide)) (ix := 9) lk_467 rfl rfl (by decide +kernel) ?_
              refine g_iconst C (-1) (cK rfl) (by decide +kernel) ?_
              obtain ⟨rfl, rfl⟩ := ret_inj h
              exact a_iret C (cK rfl) hag96_ ⟨by decide, by decide⟩ hlk hr (by decide +kernel)
            · replace h := ite_f hc100_ h
              refine g_aload_n C 0 rfl (by decide +kernel) ?_
              refine g_getR C cl11 0 5 30 rfl cd_A0 ⟨by decide, rfl, by decide⟩ rfl rfl (nA (by decide)) (ix := 48) lk_472 (by decide +kernel) ?_
              refine g_aload C 5 rfl (by decide +kernel) ?_
              refine g_iload_n C 2 rfl (by decide +kernel) ?_
              refine g_iload_n C 3 rfl (by decide +kernel) ?_
              obtain ⟨r102_, d101_, hr103_, h⟩ := bd_some h
              refine g_callV C mw_La_enact [(2, r98_), (0, p2), (0, p3)] 30 cl3 rfl (ok_La_enact r98_ p2 p3 d97_ hp2 hp3 hr103_) cd_A30 (by decide) (nA (by decide)) (ix := 236) lk_855 lk_856 lk_857 ⟨rfl, rfl, Nat.le_of_ble_eq_true rfl, Nat.le_of_ble_eq_true rfl⟩ rfl (rest := []) rfl (Nat.le_of_ble_eq_true rfl) ⟨Nat.le_of_ble_eq_true rfl, Nat.le_of_ble_eq_true rfl⟩ (by decide +kernel) (fun _ hc104_ => ?_)
              refine g_st (st2 := []) rfl ?_
              refine g_aload C 5 rfl (by decide +kernel) ?_
              obtain ⟨hs105_, h⟩ := ck_some h
              refine g_getIN C cl9 (r98_.toNat + 0) 2 (stt_ko0 hs105_) (stt_cd hs105_ 0 (by decide)) ⟨by decide, rfl, by decide⟩ rfl (stt_n hs105_ 0 (by decide)) (ix := 240) lk_157 (by decide +kernel) (fun hc106_ => ?_)
              obtain ⟨rfl, rfl⟩ := ret_inj h
              exact a_iret C hc106_ hag96_ ⟨by decide, by decide⟩ hlk hr (by decide +kernel)
          · replace h := ite_f hc92_ h
            refine g_iconst C (-1) (cK rfl) (by decide +kernel) ?_
            obtain ⟨rfl, rfl⟩ := ret_inj h
            exact a_iret C (cK rfl) (fun _ _ => rfl) ⟨by decide, by decide⟩ hlk hr (by decide +kernel)
        · replace h := ite_f hc90_ h
          refine g_iconst C 4 (cK rfl) (by decide +kernel) ?_
          refine g_goto C 68 (off := 4) (by decide +kernel) (by decide) ?_
          refine g_putI C cl11 0 0 (cK rfl) rfl cd_A0 ⟨by decide, rfl, by decide⟩ rfl (nA (by decide)) (ix := 9) lk_467 rfl rfl (by decide +kernel) ?_
          refine g_aload_n C 0 rfl (by decide +kernel) ?_
          refine g_getI C cl11 0 0 rfl cd_A0 ⟨by decide, rfl, by decide⟩ rfl (nA (by decide)) (ix := 9) lk_467 (by decide +kernel) (fun hc107_ => ?_)
          refine g_val (y := 4) rfl ?_
          replace hc107_ : c32 4 := hc107_
          refine g_if_eq C (off := 5) (tgt := 80) hc107_ (by decide +kernel) (by decide) (fun hc108_ => ?_) (fun hc108_ => ?_)
          · replace h := ite_t hc108_ h
            refine g_aload_n C 0 rfl (by decide +kernel) ?_
            refine g_getR C cl11 0 4 25 rfl cd_A0 ⟨by decide, rfl, by decide⟩ rfl rfl (nA (by decide)) (ix := 39) lk_471 (by decide +kernel) ?_
            refine g_iload_n C 1 rfl (by decide +kernel) ?_
            obtain ⟨hg109_, h⟩ := ck_some h
            obtain ⟨r114_, d113_, hr115_, h⟩ := bd_some h
            refine g_sub (lo2 := [(2, 0), (0, p1), (0, p2), (0, p3), (9, 0), (9, 0)]) (lsb_v (lsb_v (lsb_v (lsb_v (lsb_c (lsb_c lsb_e)))))) ?_
            refine a_callV C hAO mw_Pa_take [(0, p1)] 25 cl4 rfl (ok_Pa_take p1 (up2 d86_ 0 0 4) hp1 hr115_) cd_A25 (by decide) (nA (by decide)) (ix := 232) lk_747 lk_748 lk_749 ⟨rfl, rfl, Nat.le_of_ble_eq_true rfl, Nat.le_of_ble_eq_true rfl⟩ rfl (rest := []) rfl (Nat.le_of_ble_eq_true rfl) ⟨Nat.le_of_ble_eq_true rfl, Nat.le_of_ble_eq_true rfl⟩ (by decide +kernel) (fun _ _ ad110_ hag111_ => ?_) lo_text
            have hag112_ : ∀ k, k < nOf 0 d ∨ GH ≤ k → ad110_ k = ad k := fun k hk => hag111_ k (by rw [nOf_eq hg109_]; exact hk)
            replace C := Cx.re C (fun k hk => hag112_ k (Or.inr hk))
            refine g_st (st2 := [(2, r114_)]) rfl ?_
            refine s_astore C 5 (lo' := [(2, 0), (0, p1), (0, p2), (0, p3), (9, 0), (2, r114_)]) (by decide) (s1k (s1k (s1k (s1k (s1n (by decide) s1z))))) (by decide +kernel) ?_
            refine g_aload C 5 rfl (by decide +kernel) ?_
            refine g_ifnonnull C (off := 11) (tgt := 103) (by decide +kernel) (by decide) (fun hc116_ => ?_) (fun hc116_ => ?_)
            · replace h := ite_t hc116_ h
              refine g_aload_n C 0 rfl (by decide +kernel) ?_
              refine g_bipush C 9 (by decide) (by decide +kernel) ?_
              refine g_putI C cl11 0 0 (cK rfl) rfl cd_A0 ⟨by decide, rfl, by decide⟩ rfl (nA (by decide)) (ix := 9) lk_467 rfl rfl (by decide +kernel) ?_
              refine g_iconst C (-1) (cK rfl) (by decide +kernel) ?_
              obtain ⟨rfl, rfl⟩ := ret_inj h
              exact a_iret C (cK rfl) hag112_ ⟨by decide, by decide⟩ hlk hr (by decide +kernel)
            · replace h := ite_f hc116_ h
              refine g_aload_n C 0 rfl (by decide +kernel) ?_
              refine g_getR C cl11 0 5 30 rfl cd_A0 ⟨by decide, rfl, by decide⟩ rfl rfl (nA (by decide)) (ix := 48) lk_472 (by decide +kernel) ?_
              refine g_aload C 5 rfl (by decide +kernel) ?_
              refine g_iload_n C 2 rfl (by decide +kernel) ?_
              refine g_iload_n C 3 rfl (by decide +kernel) ?_
              obtain ⟨r118_, d117_, hr119_, h⟩ := bd_some h
              refine g_callV C mw_La_enact [(2, r114_), (0, p2), (0, p3)] 30 cl3 rfl (ok_La_enact r114_ p2 p3 d113_ hp2 hp3 hr119_) cd_A30 (by decide) (nA (by decide)) (ix := 236) lk_855 lk_856 lk_857 ⟨rfl, rfl, Nat.le_of_ble_eq_true rfl, Nat.le_of_ble_eq_true rfl⟩ rfl (rest := []) rfl (Nat.le_of_ble_eq_true rfl) ⟨Nat.le_of_ble_eq_true rfl, Nat.le_of_ble_eq_true rfl⟩ (by decide +kernel) (fun _ hc120_ => ?_)
              refine g_st (st2 := []) rfl ?_
              refine g_aload C 5 rfl (by decide +kernel) ?_
              obtain ⟨hs121_, h⟩ := ck_some h
              refine g_getIN C cl9 (r114_.toNat + 0) 2 (stt_ko0 hs121_) (stt_cd hs121_ 0 (by decide)) ⟨by decide, rfl, by decide⟩ rfl (stt_n hs121_ 0 (by decide)) (ix := 240) lk_157 (by decide +kernel) (fun hc122_ => ?_)
              obtain ⟨rfl, rfl⟩ := ret_inj h
              exact a_iret C hc122_ hag112_ ⟨by decide, by decide⟩ hlk hr (by decide +kernel)
          · replace h := ite_f hc108_ h
            refine g_iconst C (-1) (cK rfl) (by decide +kernel) ?_
            obtain ⟨rfl, rfl⟩ := ret_inj h
            exact a_iret C (cK rfl) (fun _ _ => rfl) ⟨by decide, by decide⟩ hlk hr (by decide +kernel)
    · replace h := ite_f hc68_ h
      refine g_iload_n C 3 rfl (by decide +kernel) ?_
      refine g_i2l C hp3 (by decide +kernel) ?_
      refine g_lconst C 1 (v := 1) (by decide) (by decide +kernel) ?_
      refine g_ldc2 C (ix := 229) (v := 127) lk_742 (by decide +kernel) ?_
      obtain ⟨r124_, d123_, hr125_, h⟩ := bd_some h
      refine g_callS C mw_PB_within [(1, p3), (1, 1), (1, 127)] (ok_PB_within p3 1 127 d64_ (c64_32 hp3) (cL rfl) (cL rfl) hr125_) (ix := 105) lk_520 lk_521 ⟨rfl, rfl, Nat.le_of_ble_eq_true rfl, Nat.le_of_ble_eq_true rfl⟩ rfl (rest := []) rfl (Nat.le_of_ble_eq_true rfl) ⟨Nat.le_of_ble_eq_true rfl, Nat.le_of_ble_eq_true rfl⟩ (by decide +kernel) (fun _ hc126_ => ?_)
      replace hc126_ : cb r124_ := hc126_
      refine g_st (st2 := [(0, r124_)]) rfl ?_
      refine g_if_eq C (off := 7) (tgt := 40) (c32_cb hc126_) (by decide +kernel) (by decide) (fun hc127_ => ?_) (fun hc127_ => ?_)
      · replace h := ite_t hc127_ h
        refine g_iconst C 0 (cK rfl) (by decide +kernel) ?_
        refine s_istore C 4 (lo' := [(2, 0), (0, p1), (0, p2), (0, p3), (0, 0), (9, 0)]) (by decide) (s1k (s1k (s1k (s1n (by decide) s1z)))) (by decide +kernel) ?_
        refine g_aload_n C 0 rfl (by decide +kernel) ?_
        refine g_iload C 4 rfl (by decide +kernel) ?_
        refine g_if_ne C (off := 7) (tgt := 53) (c32_cb (Or.inl rfl)) (by decide +kernel) (by decide) (fun hc128_ => ?_) (fun hc128_ => ?_)
        · replace h := ite_t hc128_ h
          refine g_iconst C 1 (cK rfl) (by decide +kernel) ?_
          refine g_goto C 68 (off := 18) (by decide +kernel) (by decide) ?_
          refine g_putI C cl11 0 0 (c32_cb (Or.inr rfl)) rfl cd_A0 ⟨by decide, rfl, by decide⟩ rfl (nA (by decide)) (ix := 9) lk_467 rfl rfl (by decide +kernel) ?_
          refine g_aload_n C 0 rfl (by decide +kernel) ?_
          refine g_getI C cl11 0 0 rfl cd_A0 ⟨by decide, rfl, by decide⟩ rfl (nA (by decide)) (ix := 9) lk_467 (by decide +kernel) (fun hc129_ => ?_)
          refine g_val (y := 1) rfl ?_
          replace hc129_ : c32 1 := hc129_
          refine g_if_eq C (off := 5) (tgt := 80) hc129_ (by decide +kernel) (by decide) (fun hc130_ => ?_) (fun hc130_ => ?_)
          · replace h := ite_t hc130_ h
            refine g_aload_n C 0 rfl (by decide +kernel) ?_
            refine g_getR C cl11 0 4 25 rfl cd_A0 ⟨by decide, rfl, by decide⟩ rfl rfl (nA (by decide)) (ix := 39) lk_471 (by decide +kernel) ?_
            refine g_iload_n C 1 rfl (by decide +kernel) ?_
            obtain ⟨hg131_, h⟩ := ck_some h
            obtain ⟨r136_, d135_, hr137_, h⟩ := bd_some h
            refine g_sub (lo2 := [(2, 0), (0, p1), (0, p2), (0, p3), (9, 0), (9, 0)]) (lsb_v (lsb_v (lsb_v (lsb_v (lsb_c (lsb_c lsb_e)))))) ?_
            refine a_callV C hAO mw_Pa_take [(0, p1)] 25 cl4 rfl (ok_Pa_take p1 (up2 d123_ 0 0 1) hp1 hr137_) cd_A25 (by decide) (nA (by decide)) (ix := 232) lk_747 lk_748 lk_749 ⟨rfl, rfl, Nat.le_of_ble_eq_true rfl, Nat.le_of_ble_eq_true rfl⟩ rfl (rest := []) rfl (Nat.le_of_ble_eq_true rfl) ⟨Nat.le_of_ble_eq_true rfl, Nat.le_of_ble_eq_true rfl⟩ (by decide +kernel) (fun _ _ ad132_ hag133_ => ?_) lo_text
            have hag134_ : ∀ k, k < nOf 0 d ∨ GH ≤ k → ad132_ k = ad k := fun k hk => hag133_ k (by rw [nOf_eq hg131_]; exact hk)
            replace C := Cx.re C (fun k hk => hag134_ k (Or.inr hk))
            refine g_st (st2 := [(2, r136_)]) rfl ?_
            refine s_astore C 5 (lo' := [(2, 0), (0, p1), (0, p2), (0, p3), (9, 0), (2, r136_)]) (by decide) (s1k (s1k (s1k (s1k (s1n (by decide) s1z))))) (by decide +kernel) ?_
            refine g_aload C 5 rfl (by decide +kernel) ?_
            refine g_ifnonnull C (off := 11) (tgt := 103) (by decide +kernel) (by decide) (fun hc138_ => ?_) (fun hc138_ => ?_)
            · replace h := ite_t hc138_ h
              refine g_aload_n C 0 rfl (by decide +kernel) ?_
              refine g_bipush C 9 (by decide) (by decide +kernel) ?_
              refine g_putI C cl11 0 0 (cK rfl) rfl cd_A0 ⟨by decide, rfl, by decide⟩ rfl (nA (by decide)) (ix := 9) lk_467 rfl rfl (by decide +kernel) ?_
              refine g_iconst C (-1) (cK rfl) (by decide +kernel) ?_
              obtain ⟨rfl, rfl⟩ := ret_inj h
              exact a_iret C (cK rfl) hag134_ ⟨by decide, by decide⟩ hlk hr (by decide +kernel)
            · replace h := ite_f hc138_ h
              refine g_aload_n C 0 rfl (by decide +kernel) ?_
              refine g_getR C cl11 0 5 30 rfl cd_A0 ⟨by decide, rfl, by decide⟩ rfl rfl (nA (by decide)) (ix := 48) lk_472 (by decide +kernel) ?_
              refine g_aload C 5 rfl (by decide +kernel) ?_
              refine g_iload_n C 2 rfl (by decide +kernel) ?_
              refine g_iload_n C 3 rfl (by decide +kernel) ?_
              obtain ⟨r140_, d139_, hr141_, h⟩ := bd_some h
              refine g_callV C mw_La_enact [(2, r136_), (0, p2), (0, p3)] 30 cl3 rfl (ok_La_enact r136_ p2 p3 d135_ hp2 hp3 hr141_) cd_A30 (by decide) (nA (by decide)) (ix := 236) lk_855 lk_856 lk_857 ⟨rfl, rfl, Nat.le_of_ble_eq_true rfl, Nat.le_of_ble_eq_true rfl⟩ rfl (rest := []) rfl (Nat.le_of_ble_eq_true rfl) ⟨Nat.le_of_ble_eq_true rfl, Nat.le_of_ble_eq_true rfl⟩ (by decide +kernel) (fun _ hc142_ => ?_)
              refine g_st (st2 := []) rfl ?_
              refine g_aload C 5 rfl (by decide +kernel) ?_
              obtain ⟨hs143_, h⟩ := ck_some h
              refine g_getIN C cl9 (r136_.toNat + 0) 2 (stt_ko0 hs143_) (stt_cd hs143_ 0 (by decide)) ⟨by decide, rfl, by decide⟩ rfl (stt_n hs143_ 0 (by decide)) (ix := 240) lk_157 (by decide +kernel) (fun hc144_ => ?_)
              obtain ⟨rfl, rfl⟩ := ret_inj h
              exact a_iret C hc144_ hag134_ ⟨by decide, by decide⟩ hlk hr (by decide +kernel)
          · replace h := ite_f hc130_ h
            refine g_iconst C (-1) (cK rfl) (by decide +kernel) ?_
            obtain ⟨rfl, rfl⟩ := ret_inj h
            exact a_iret C (cK rfl) (fun _ _ => rfl) ⟨by decide, by decide⟩ hlk hr (by decide +kernel)
        · replace h := ite_f hc128_ h
          refine g_aload_n C 0 rfl (by decide +kernel) ?_
          refine g_getR C cl11 0 5 30 rfl cd_A0 ⟨by decide, rfl, by decide⟩ rfl rfl (nA (by decide)) (ix := 48) lk_472 (by decide +kernel) ?_
          obtain ⟨r146_, d145_, hr147_, h⟩ := bd_some h
          refine g_callV C mw_La_isFull [] 30 cl3 rfl (ok_La_isFull  d123_  hr147_) cd_A30 (by decide) (nA (by decide)) (ix := 231) lk_743 lk_744 lk_745 ⟨rfl, rfl, Nat.le_of_ble_eq_true rfl, Nat.le_of_ble_eq_true rfl⟩ rfl (rest := [(2, 0)]) rfl (Nat.le_of_ble_eq_true rfl) ⟨Nat.le_of_ble_eq_true rfl, Nat.le_of_ble_eq_true rfl⟩ (by decide +kernel) (fun _ hc148_ => ?_)
          replace hc148_ : cb r146_ := hc148_
          refine g_st (st2 := [(0, r146_), (2, 0)]) rfl ?_
          refine g_if_eq C (off := 7) (tgt := 67) (c32_cb hc148_) (by decide +kernel) (by decide) (fun hc149_ => ?_) (fun hc149_ => ?_)
          · replace h := ite_t hc149_ h
            refine g_iconst C 0 (cK rfl) (by decide +kernel) ?_
            refine g_putI C cl11 0 0 (c32_cb (Or.inl rfl)) rfl cd_A0 ⟨by decide, rfl, by decide⟩ rfl (nA (by decide)) (ix := 9) lk_467 rfl rfl (by decide +kernel) ?_
            refine g_aload_n C 0 rfl (by decide +kernel) ?_
            refine g_getI C cl11 0 0 rfl cd_A0 ⟨by decide, rfl, by decide⟩ rfl (nA (by decide)) (ix := 9) lk_467 (by decide +kernel) (fun hc150_ => ?_)
            refine g_val (y := 0) rfl ?_
            replace hc150_ : c32 0 := hc150_
            refine g_if_eq C (off := 5) (tgt := 80) hc150_ (by decide +kernel) (by decide) (fun hc151_ => ?_) (fun hc151_ => ?_)
            · replace h := ite_t hc151_ h
              refine g_aload_n C 0 rfl (by decide +kernel) ?_
              refine g_getR C cl11 0 4 25 rfl cd_A0 ⟨by decide, rfl, by decide⟩ rfl rfl (nA (by decide)) (ix := 39) lk_471 (by decide +kernel) ?_
              refine g_iload_n C 1 rfl (by decide +kernel) ?_
              obtain ⟨hg152_, h⟩ := ck_some h
              obtain ⟨r157_, d156_, hr158_, h⟩ := bd_some h
              refine g_sub (lo2 := [(2, 0), (0, p1), (0, p2), (0, p3), (9, 0), (9, 0)]) (lsb_v (lsb_v (lsb_v (lsb_v (lsb_c (lsb_c lsb_e)))))) ?_
              refine a_callV C hAO mw_Pa_take [(0, p1)] 25 cl4 rfl (ok_Pa_take p1 (up2 d145_ 0 0 0) hp1 hr158_) cd_A25 (by decide) (nA (by decide)) (ix := 232) lk_747 lk_748 lk_749 ⟨rfl, rfl, Nat.le_of_ble_eq_true rfl, Nat.le_of_ble_eq_true rfl⟩ rfl (rest := []) rfl (Nat.le_of_ble_eq_true rfl) ⟨Nat.le_of_ble_eq_true rfl, Nat.le_of_ble_eq_true rfl⟩ (by decide +kernel) (fun _ _ ad153_ hag154_ => ?_) lo_text
              have hag155_ : ∀ k, k < nOf 0 d ∨ GH ≤ k → ad153_ k = ad k := fun k hk => hag154_ k (by rw [nOf_eq hg152_]; exact hk)
              replace C := Cx.re C (fun k hk => hag155_ k (Or.inr hk))
              refine g_st (st2 := [(2, r157_)]) rfl ?_
              refine s_astore C 5 (lo' := [(2, 0), (0, p1), (0, p2), (0, p3), (9, 0), (2, r157_)]) (by decide) (s1k (s1k (s1k (s1k (s1n (by decide) s1z))))) (by decide +kernel) ?_
              refine g_aload C 5 rfl (by decide +kernel) ?_
              refine g_ifnonnull C (off := 11) (tgt := 103) (by decide +kernel) (by decide) (fun hc159_ => ?_) (fun hc159_ => ?_)
              · replace h := ite_t hc159_ h
                refine g_aload_n C 0 rfl (by decide +kernel) ?_
                refine g_bipush C 9 (by decide) (by decide +kernel) ?_
                refine g_putI C cl11 0 0 (cK rfl) rfl cd_A0 ⟨by decide, rfl, by decide⟩ rfl (nA (by decide)) (ix := 9) lk_467 rfl rfl (by decide +kernel) ?_
                refine g_iconst C (-1) (cK rfl) (by decide +kernel) ?_
                obtain ⟨rfl, rfl⟩ := ret_inj h
                exact a_iret C (cK rfl) hag155_ ⟨by decide, by decide⟩ hlk hr (by decide +kernel)
              · replace h := ite_f hc159_ h
                refine g_aload_n C 0 rfl (by decide +kernel) ?_
                refine g_getR C cl11 0 5 30 rfl cd_A0 ⟨by decide, rfl, by decide⟩ rfl rfl (nA (by decide)) (ix := 48) lk_472 (by decide +kernel) ?_
                refine g_aload C 5 rfl (by decide +kernel) ?_
                refine g_iload_n C 2 rfl (by decide +kernel) ?_
                refine g_iload_n C 3 rfl (by decide +kernel) ?_
                obtain ⟨r161_, d160_, hr162_, h⟩ := bd_some h
                refine g_callV C mw_La_enact [(2, r157_), (0, p2), (0, p3)] 30 cl3 rfl (ok_La_enact r157_ p2 p3 d156_ hp2 hp3 hr162_) cd_A30 (by decide) (nA (by decide)) (ix := 236) lk_855 lk_856 lk_857 ⟨rfl, rfl, Nat.le_of_ble_eq_true rfl, Nat.le_of_ble_eq_true rfl⟩ rfl (rest := []) rfl (Nat.le_of_ble_eq_true rfl) ⟨Nat.le_of_ble_eq_true rfl, Nat.le_of_ble_eq_true rfl⟩ (by decide +kernel) (fun _ hc163_ => ?_)
                refine g_st (st2 := []) rfl ?_
                refine g_aload C 5 rfl (by decide +kernel) ?_
                obtain ⟨hs164_, h⟩ := ck_some h
                refine g_getIN C cl9 (r157_.toNat + 0) 2 (stt_ko0 hs164_) (stt_cd hs164_ 0 (by decide)) ⟨by decide, rfl, by decide⟩ rfl (stt_n hs164_ 0 (by decide)) (ix := 240) lk_157 (by decide +kernel) (fun hc165_ => ?_)
                obtain ⟨rfl, rfl⟩ := ret_inj h
                exact a_iret C hc165_ hag155_ ⟨by decide, by decide⟩ hlk hr (by decide +kernel)
            · replace h := ite_f hc151_ h
              refine g_iconst C (-1) (cK rfl) (by decide +kernel) ?_
              obtain ⟨rfl, rfl⟩ := ret_inj h
              exact a_iret C (cK rfl) (fun _ _ => rfl) ⟨by decide, by decide⟩ hlk hr (by decide +kernel)
          · replace h := ite_f hc149_ h
            refine g_iconst C 4 (cK rfl) (by decide +kernel) ?_
            refine g_goto C 68 (off := 4) (by decide +kernel) (by decide) ?_
            refine g_putI C cl11 0 0 (cK rfl) rfl cd_A0 ⟨by decide, rfl, by decide⟩ rfl (nA (by decide)) (ix := 9) lk_467 rfl rfl (by decide +kernel) ?_
            refine g_aload_n C 0 rfl (by decide +kernel) ?_
            refine g_getI C cl11 0 0 rfl cd_A0 ⟨by decide, rfl, by decide⟩ rfl (nA (by decide)) (ix := 9) lk_467 (by decide +kernel) (fun hc166_ => ?_)
            refine g_val (y := 4) rfl ?_
            replace hc166_ : c32 4 := hc166_
            refine g_if_eq C (off := 5) (tgt := 80) hc166_ (by decide +kernel) (by decide) (fun hc167_ => ?_) (fun hc167_ => ?_)
            · replace h := ite_t hc167_ h
              refine g_aload_n C 0 rfl (by decide +kernel) ?_
              refine g_getR C cl11 0 4 25 rfl cd_A0 ⟨by decide, rfl, by decide⟩ rfl rfl (nA (by decide)) (ix := 39) lk_471 (by decide +kernel) ?_
              refine g_iload_n C 1 rfl (by decide +kernel) ?_
              obtain ⟨hg168_, h⟩ := ck_some h
              obtain ⟨r173_, d172_, hr174_, h⟩ := bd_some h
              refine g_sub (lo2 := [(2, 0), (0, p1), (0, p2), (0, p3), (9, 0), (9, 0)]) (lsb_v (lsb_v (lsb_v (lsb_v (lsb_c (lsb_c lsb_e)))))) ?_
              refine a_callV C hAO mw_Pa_take [(0, p1)] 25 cl4 rfl (ok_Pa_take p1 (up2 d145_ 0 0 4) hp1 hr174_) cd_A25 (by decide) (nA (by decide)) (ix := 232) lk_747 lk_748 lk_749 ⟨rfl, rfl, Nat.le_of_ble_eq_true rfl, Nat.le_of_ble_eq_true rfl⟩ rfl (rest := []) rfl (Nat.le_of_ble_eq_true rfl) ⟨Nat.le_of_ble_eq_true rfl, Nat.le_of_ble_eq_true rfl⟩ (by decide +kernel) (fun _ _ ad169_ hag170_ => ?_) lo_text
              have hag171_ : ∀ k, k < nOf 0 d ∨ GH ≤ k → ad169_ k = ad k := fun k hk => hag170_ k (by rw [nOf_eq hg168_]; exact hk)
              replace C := Cx.re C (fun k hk => hag171_ k (Or.inr hk))
              refine g_st (st2 := [(2, r173_)]) rfl ?_
              refine s_astore C 5 (lo' := [(2, 0), (0, p1), (0, p2), (0, p3), (9, 0), (2, r173_)]) (by decide) (s1k (s1k (s1k (s1k (s1n (by decide) s1z))))) (by decide +kernel) ?_
              refine g_aload C 5 rfl (by decide +kernel) ?_
              refine g_ifnonnull C (off := 11) (tgt := 103) (by decide +kernel) (by decide) (fun hc175_ => ?_) (fun hc175_ => ?_)
              · replace h := ite_t hc175_ h
                refine g_aload_n C 0 rfl (by decide +kernel) ?_
                refine g_bipush C 9 (by decide) (by decide +kernel) ?_
                refine g_putI C cl11 0 0 (cK rfl) rfl cd_A0 ⟨by decide, rfl, by decide⟩ rfl (nA (by decide)) (ix := 9) lk_467 rfl rfl (by decide +kernel) ?_
                refine g_iconst C (-1) (cK rfl) (by decide +kernel) ?_
                obtain ⟨rfl, rfl⟩ := ret_inj h
                exact a_iret C (cK rfl) hag171_ ⟨by decide, by decide⟩ hlk hr (by decide +kernel)
              · replace h := ite_f hc175_ h
                refine g_aload_n C 0 rfl (by decide +kernel) ?_
                refine g_getR C cl11 0 5 30 rfl cd_A0 ⟨by decide, rfl, by decide⟩ rfl rfl (nA (by decide)) (ix := 48) lk_472 (by decide +kernel) ?_
                refine g_aload C 5 rfl (by decide +kernel) ?_
                refine g_iload_n C 2 rfl (by decide +kernel) ?_
                refine g_iload_n C 3 rfl (by decide +kernel) ?_
                obtain ⟨r177_, d176_, hr178_, h⟩ := bd_some h
                refine g_callV C mw_La_enact [(2, r173_), (0, p2), (0, p3)] 30 cl3 rfl (ok_La_enact r173_ p2 p3 d172_ hp2 hp3 hr178_) cd_A30 (by decide) (nA (by decide)) (ix := 236) lk_855 lk_856 lk_857 ⟨rfl, rfl, Nat.le_of_ble_eq_true rfl, Nat.le_of_ble_eq_true rfl⟩ rfl (rest := []) rfl (Nat.le_of_ble_eq_true rfl) ⟨Nat.le_of_ble_eq_true rfl, Nat.le_of_ble_eq_true rfl⟩ (by decide +kernel) (fun _ hc179_ => ?_)
                refine g_st (st2 := []) rfl ?_
                refine g_aload C 5 rfl (by decide +kernel) ?_
                obtain ⟨hs180_, h⟩ := ck_some h
                refine g_getIN C cl9 (r173_.toNat + 0) 2 (stt_ko0 hs180_) (stt_cd hs180_ 0 (by decide)) ⟨by decide, rfl, by decide⟩ rfl (stt_n hs180_ 0 (by decide)) (ix := 240) lk_157 (by decide +kernel) (fun hc181_ => ?_)
                obtain ⟨rfl, rfl⟩ := ret_inj h
                exact a_iret C hc181_ hag171_ ⟨by decide, by decide⟩ hlk hr (by decide +kernel)
            · replace h := ite_f hc167_ h
              refine g_iconst C (-1) (cK rfl) (by decide +kernel) ?_
              obtain ⟨rfl, rfl⟩ := ret_inj h
              exact a_iret C (cK rfl) (fun _ _ => rfl) ⟨by decide, by decide⟩ hlk hr (by decide +kernel)
      · replace h := ite_f hc127_ h
        refine g_iconst C 1 (cK rfl) (by decide +kernel) ?_
        refine g_goto C 41 (off := 4) (by decide +kernel) (by decide) ?_
        refine s_istore C 4 (lo' := [(2, 0), (0, p1), (0, p2), (0, p3), (0, 1), (9, 0)]) (by decide) (s1k (s1k (s1k (s1n (by decide) s1z)))) (by decide +kernel) ?_
        refine g_aload_n C 0 rfl (by decide +kernel) ?_
        refine g_iload C 4 rfl (by decide +kernel) ?_
        refine g_if_ne C (off := 7) (tgt := 53) (c32_cb (Or.inr rfl)) (by decide +kernel) (by decide) (fun hc182_ => ?_) (fun hc182_ => ?_)
        · replace h := ite_t hc182_ h
          refine g_iconst C 1 (cK rfl) (by decide +kernel) ?_
          refine g_goto C 68 (off := 18) (by decide +kernel) (by decide) ?_
          refine g_putI C cl11 0 0 (c32_cb (Or.inr rfl)) rfl cd_A0 ⟨by decide, rfl, by decide⟩ rfl (nA (by decide)) (ix := 9) lk_467 rfl rfl (by decide +kernel) ?_
          refine g_aload_n C 0 rfl (by decide +kernel) ?_
          refine g_getI C cl11 0 0 rfl cd_A0 ⟨by decide, rfl, by decide⟩ rfl (nA (by decide)) (ix := 9) lk_467 (by decide +kernel) (fun hc183_ => ?_)
          refine g_val (y := 1) rfl ?_
          replace hc183_ : c32 1 := hc183_
          refine g_if_eq C (off := 5) (tgt := 80) hc183_ (by decide +kernel) (by decide) (fun hc184_ => ?_) (fun hc184_ => ?_)
          · replace h := ite_t hc184_ h
            refine g_aload_n C 0 rfl (by decide +kernel) ?_
            refine g_getR C cl11 0 4 25 rfl cd_A0 ⟨by decide, rfl, by decide⟩ rfl rfl (nA (by decide)) (ix := 39) lk_471 (by decide +kernel) ?_
            refine g_iload_n C 1 rfl (by decide +kernel) ?_
            obtain ⟨hg185_, h⟩ := ck_some h
            obtain ⟨r190_, d189_, hr191_, h⟩ := bd_some h
            refine g_sub (lo2 := [(2, 0), (0, p1), (0, p2), (0, p3), (9, 0), (9, 0)]) (lsb_v (lsb_v (lsb_v (lsb_v (lsb_c (lsb_c lsb_e)))))) ?_
            refine a_callV C hAO mw_Pa_take [(0, p1)] 25 cl4 rfl (ok_Pa_take p1 (up2 d123_ 0 0 1) hp1 hr191_) cd_A25 (by decide) (nA (by decide)) (ix := 232) lk_747 lk_748 lk_749 ⟨rfl, rfl, Nat.le_of_ble_eq_true rfl, Nat.le_of_ble_eq_true rfl⟩ rfl (rest := []) rfl (Nat.le_of_ble_eq_true rfl) ⟨Nat.le_of_ble_eq_true rfl, Nat.le_of_ble_eq_true rfl⟩ (by decide +kernel) (fun _ _ ad186_ hag187_ => ?_) lo_text
            have hag188_ : ∀ k, k < nOf 0 d ∨ GH ≤ k → ad186_ k = ad k := fun k hk => hag187_ k (by rw [nOf_eq hg185_]; exact hk)
            replace C := Cx.re C (fun k hk => hag188_ k (Or.inr hk))
            refine g_st (st2 := [(2, r190_)]) rfl ?_
            refine s_astore C 5 (lo' := [(2, 0), (0, p1), (0, p2), (0, p3), (9, 0), (2, r190_)]) (by decide) (s1k (s1k (s1k (s1k (s1n (by decide) s1z))))) (by decide +kernel) ?_
            refine g_aload C 5 rfl (by decide +kernel) ?_
            refine g_ifnonnull C (off := 11) (tgt := 103) (by decide +kernel) (by decide) (fun hc192_ => ?_) (fun hc192_ => ?_)
            · replace h := ite_t hc192_ h
              refine g_aload_n C 0 rfl (by decide +kernel) ?_
              refine g_bipush C 9 (by decide) (by decide +kernel) ?_
              refine g_putI C cl11 0 0 (cK rfl) rfl cd_A0 ⟨by decide, rfl, by decide⟩ rfl (nA (by decide)) (ix := 9) lk_467 rfl rfl (by decide +kernel) ?_
              refine g_iconst C (-1) (cK rfl) (by decide +kernel) ?_
              obtain ⟨rfl, rfl⟩ := ret_inj h
              exact a_iret C (cK rfl) hag188_ ⟨by decide, by decide⟩ hlk hr (by decide +kernel)
            · replace h := ite_f hc192_ h
              refine g_aload_n C 0 rfl (by decide +kernel) ?_
              refine g_getR C cl11 0 5 30 rfl cd_A0 ⟨by decide, rfl, by decide⟩ rfl rfl (nA (by decide)) (ix := 48) lk_472 (by decide +kernel) ?_
              refine g_aload C 5 rfl (by decide +kernel) ?_
              refine g_iload_n C 2 rfl (by decide +kernel) ?_
              refine g_iload_n C 3 rfl (by decide +kernel) ?_
              obtain ⟨r194_, d193_, hr195_, h⟩ := bd_some h
              refine g_callV C mw_La_enact [(2, r190_), (0, p2), (0, p3)] 30 cl3 rfl (ok_La_enact r190_ p2 p3 d189_ hp2 hp3 hr195_) cd_A30 (by decide) (nA (by decide)) (ix := 236) lk_855 lk_856 lk_857 ⟨rfl, rfl, Nat.le_of_ble_eq_true rfl, Nat.le_of_ble_eq_true rfl⟩ rfl (rest := []) rfl (Nat.le_of_ble_eq_true rfl) ⟨Nat.le_of_ble_eq_true rfl, Nat.le_of_ble_eq_true rfl⟩ (by decide +kernel) (fun _ hc196_ => ?_)
              refine g_st (st2 := []) rfl ?_
              refine g_aload C 5 rfl (by decide +kernel) ?_
              obtain ⟨hs197_, h⟩ := ck_some h
              refine g_getIN C cl9 (r190_.toNat + 0) 2 (stt_ko0 hs197_) (stt_cd hs197_ 0 (by decide)) ⟨by decide, rfl, by decide⟩ rfl (stt_n hs197_ 0 (by decide)) (ix := 240) lk_157 (by decide +kernel) (fun hc198_ => ?_)
              obtain ⟨rfl, rfl⟩ := ret_inj h
              exact a_iret C hc198_ hag188_ ⟨by decide, by decide⟩ hlk hr (by decide +kernel)
          · replace h := ite_f hc184_ h
            refine g_iconst C (-1) (cK rfl) (by decide +kernel) ?_
            obtain ⟨rfl, rfl⟩ := ret_inj h
            exact a_iret C (cK rfl) (fun _ _ => rfl) ⟨by decide, by decide⟩ hlk hr (by decide +kernel)
        · replace h := ite_f hc182_ h
          refine g_aload_n C 0 rfl (by decide +kernel) ?_
          refine g_getR C cl11 0 5 30 rfl cd_A0 ⟨by decide, rfl, by decide⟩ rfl rfl (nA (by decide)) (ix := 48) lk_472 (by decide +kernel) ?_
          obtain ⟨r200_, d199_, hr201_, h⟩ := bd_some h
          refine g_callV C mw_La_isFull [] 30 cl3 rfl (ok_La_isFull  d123_  hr201_) cd_A30 (by decide) (nA (by decide)) (ix := 231) lk_743 lk_744 lk_745 ⟨rfl, rfl, Nat.le_of_ble_eq_true rfl, Nat.le_of_ble_eq_true rfl⟩ rfl (rest := [(2, 0)]) rfl (Nat.le_of_ble_eq_true rfl) ⟨Nat.le_of_ble_eq_true rfl, Nat.le_of_ble_eq_true rfl⟩ (by decide +kernel) (fun _ hc202_ => ?_)
          replace hc202_ : cb r200_ := hc202_
          refine g_st (st2 := [(0, r200_), (2, 0)]) rfl ?_
          refine g_if_eq C (off := 7) (tgt := 67) (c32_cb hc202_) (by decide +kernel) (by decide) (fun hc203_ => ?_) (fun hc203_ => ?_)
          · replace h := ite_t hc203_ h
            refine g_iconst C 0 (cK rfl) (by decide +kernel) ?_
            refine g_putI C cl11 0 0 (c32_cb (Or.inl rfl)) rfl cd_A0 ⟨by decide, rfl, by decide⟩ rfl (nA (by decide)) (ix := 9) lk_467 rfl rfl (by decide +kernel) ?_
            refine g_aload_n C 0 rfl (by decide +kernel) ?_
            refine g_getI C cl11 0 0 rfl cd_A0 ⟨by decide, rfl, by decide⟩ rfl (nA (by decide)) (ix := 9) lk_467 (by decide +kernel) (fun hc204_ => ?_)
            refine g_val (y := 0) rfl ?_
            replace hc204_ : c32 0 := hc204_
            refine g_if_eq C (off := 5) (tgt := 80) hc204_ (by decide +kernel) (by decide) (fun hc205_ => ?_) (fun hc205_ => ?_)
            · replace h := ite_t hc205_ h
              refine g_aload_n C 0 rfl (by decide +kernel) ?_
              refine g_getR C cl11 0 4 25 rfl cd_A0 ⟨by decide, rfl, by decide⟩ rfl rfl (nA (by decide)) (ix := 39) lk_471 (by decide +kernel) ?_
              refine g_iload_n C 1 rfl (by decide +kernel) ?_
              obtain ⟨hg206_, h⟩ := ck_some h
              obtain ⟨r211_, d210_, hr212_, h⟩ := bd_some h
              refine g_sub (lo2 := [(2, 0), (0, p1), (0, p2), (0, p3), (9, 0), (9, 0)]) (lsb_v (lsb_v (lsb_v (lsb_v (lsb_c (lsb_c lsb_e)))))) ?_
              refine a_callV C hAO mw_Pa_take [(0, p1)] 25 cl4 rfl (ok_Pa_take p1 (up2 d199_ 0 0 0) hp1 hr212_) cd_A25 (by decide) (nA (by decide)) (ix := 232) lk_747 lk_748 lk_749 ⟨rfl, rfl, Nat.le_of_ble_eq_true rfl, Nat.le_of_ble_eq_true rfl⟩ rfl (rest := []) rfl (Nat.le_of_ble_eq_true rfl) ⟨Nat.le_of_ble_eq_true rfl, Nat.le_of_ble_eq_true rfl⟩ (by decide +kernel) (fun _ _ ad207_ hag208_ => ?_) lo_text
              have hag209_ : ∀ k, k < nOf 0 d ∨ GH ≤ k → ad207_ k = ad k := fun k hk => hag208_ k (by rw [nOf_eq hg206_]; exact hk)
              replace C := Cx.re C (fun k hk => hag209_ k (Or.inr hk))
              refine g_st (st2 := [(2, r211_)]) rfl ?_
              refine s_astore C 5 (lo' := [(2, 0), (0, p1), (0, p2), (0, p3), (9, 0), (2, r211_)]) (by decide) (s1k (s1k (s1k (s1k (s1n (by decide) s1z))))) (by decide +kernel) ?_
              refine g_aload C 5 rfl (by decide +kernel) ?_
              refine g_ifnonnull C (off := 11) (tgt := 103) (by decide +kernel) (by decide) (fun hc213_ => ?_) (fun hc213_ => ?_)
              · replace h := ite_t hc213_ h
                refine g_aload_n C 0 rfl (by decide +kernel) ?_
                refine g_bipush C 9 (by decide) (by decide +kernel) ?_
                refine g_putI C cl11 0 0 (cK rfl) rfl cd_A0 ⟨by decide, rfl, by decide⟩ rfl (nA (by decide)) (ix := 9) lk_467 rfl rfl (by decide +kernel) ?_
                refine g_iconst C (-1) (cK rfl) (by decide +kernel) ?_
                obtain ⟨rfl, rfl⟩ := ret_inj h
                exact a_iret C (cK rfl) hag209_ ⟨by decide, by decide⟩ hlk hr (by decide +kernel)
              · replace h := ite_f hc213_ h
                refine g_aload_n C 0 rfl (by decide +kernel) ?_
                refine g_getR C cl11 0 5 30 rfl cd_A0 ⟨by decide, rfl, by decide⟩ rfl rfl (nA (by decide)) (ix := 48) lk_472 (by decide +kernel) ?_
                refine g_aload C 5 rfl (by decide +kernel) ?_
                refine g_iload_n C 2 rfl (by decide +kernel) ?_
                refine g_iload_n C 3 rfl (by decide +kernel) ?_
                obtain ⟨r215_, d214_, hr216_, h⟩ := bd_some h
                refine g_callV C mw_La_enact [(2, r211_), (0, p2), (0, p3)] 30 cl3 rfl (ok_La_enact r211_ p2 p3 d210_ hp2 hp3 hr216_) cd_A30 (by decide) (nA (by decide)) (ix := 236) lk_855 lk_856 lk_857 ⟨rfl, rfl, Nat.le_of_ble_eq_true rfl, Nat.le_of_ble_eq_true rfl⟩ rfl (rest := []) rfl (Nat.le_of_ble_eq_true rfl) ⟨Nat.le_of_ble_eq_true rfl, Nat.le_of_ble_eq_true rfl⟩ (by decide +kernel) (fun _ hc217_ => ?_)
                refine g_st (st2 := []) rfl ?_
                refine g_aload C 5 rfl (by decide +kernel) ?_
                obtain ⟨hs218_, h⟩ := ck_some h
                refine g_getIN C cl9 (r211_.toNat + 0) 2 (stt_ko0 hs218_) (stt_cd hs218_ 0 (by decide)) ⟨by decide, rfl, by decide⟩ rfl (stt_n hs218_ 0 (by decide)) (ix := 240) lk_157 (by decide +kernel) (fun hc219_ => ?_)
                obtain ⟨rfl, rfl⟩ := ret_inj h
                exact a_iret C hc219_ hag209_ ⟨by decide, by decide⟩ hlk hr (by decide +kernel)
            · replace h := ite_f hc205_ h
              refine g_iconst C (-1) (cK rfl) (by decide +kernel) ?_
              obtain ⟨rfl, rfl⟩ := ret_inj h
              exact a_iret C (cK rfl) (fun _ _ => rfl) ⟨by decide, by decide⟩ hlk hr (by decide +kernel)
          · replace h := ite_f hc203_ h
            refine g_iconst C 4 (cK rfl) (by decide +kernel) ?_
            refine g_goto C 68 (off := 4) (by decide +kernel) (by decide) ?_
            refine g_putI C cl11 0 0 (cK rfl) rfl cd_A0 ⟨by decide, rfl, by decide⟩ rfl (nA (by decide)) (ix := 9) lk_467 rfl rfl (by decide +kernel) ?_
            refine g_aload_n C 0 rfl (by decide +kernel) ?_
            refine g_getI C cl11 0 0 rfl cd_A0 ⟨by decide, rfl, by decide⟩ rfl (nA (by decide)) (ix := 9) lk_467 (by decide +kernel) (fun hc220_ => ?_)
            refine g_val (y := 4) rfl ?_
            replace hc220_ : c32 4 := hc220_
            refine g_if_eq C (off := 5) (tgt := 80) hc220_ (by decide +kernel) (by decide) (fun hc221_ => ?_) (fun hc221_ => ?_)
            · replace h := ite_t hc221_ h
              refine g_aload_n C 0 rfl (by decide +kernel) ?_
              refine g_getR C cl11 0 4 25 rfl cd_A0 ⟨by decide, rfl, by decide⟩ rfl rfl (nA (by decide)) (ix := 39) lk_471 (by decide +kernel) ?_
              refine g_iload_n C 1 rfl (by decide +kernel) ?_
              obtain ⟨hg222_, h⟩ := ck_some h
              obtain ⟨r227_, d226_, hr228_, h⟩ := bd_some h
              refine g_sub (lo2 := [(2, 0), (0, p1), (0, p2), (0, p3), (9, 0), (9, 0)]) (lsb_v (lsb_v (lsb_v (lsb_v (lsb_c (lsb_c lsb_e)))))) ?_
              refine a_callV C hAO mw_Pa_take [(0, p1)] 25 cl4 rfl (ok_Pa_take p1 (up2 d199_ 0 0 4) hp1 hr228_) cd_A25 (by decide) (nA (by decide)) (ix := 232) lk_747 lk_748 lk_749 ⟨rfl, rfl, Nat.le_of_ble_eq_true rfl, Nat.le_of_ble_eq_true rfl⟩ rfl (rest := []) rfl (Nat.le_of_ble_eq_true rfl) ⟨Nat.le_of_ble_eq_true rfl, Nat.le_of_ble_eq_true rfl⟩ (by decide +kernel) (fun _ _ ad223_ hag224_ => ?_) lo_text
              have hag225_ : ∀ k, k < nOf 0 d ∨ GH ≤ k → ad223_ k = ad k := fun k hk => hag224_ k (by rw [nOf_eq hg222_]; exact hk)
              replace C := Cx.re C (fun k hk => hag225_ k (Or.inr hk))
              refine g_st (st2 := [(2, r227_)]) rfl ?_
              refine s_astore C 5 (lo' := [(2, 0), (0, p1), (0, p2), (0, p3), (9, 0), (2, r227_)]) (by decide) (s1k (s1k (s1k (s1k (s1n (by decide) s1z))))) (by decide +kernel) ?_
              refine g_aload C 5 rfl (by decide +kernel) ?_
              refine g_ifnonnull C (off := 11) (tgt := 103) (by decide +kernel) (by decide) (fun hc229_ => ?_) (fun hc229_ => ?_)
              · replace h := ite_t hc229_ h
                refine g_aload_n C 0 rfl (by decide +kernel) ?_
                refine g_bipush C 9 (by decide) (by decide +kernel) ?_
                refine g_putI C cl11 0 0 (cK rfl) rfl cd_A0 ⟨by decide, rfl, by decide⟩ rfl (nA (by decide)) (ix := 9) lk_467 rfl rfl (by decide +kernel) ?_
                refine g_iconst C (-1) (cK rfl) (by decide +kernel) ?_
                obtain ⟨rfl, rfl⟩ := ret_inj h
                exact a_iret C (cK rfl) hag225_ ⟨by decide, by decide⟩ hlk hr (by decide +kernel)
              · replace h := ite_f hc229_ h
                refine g_aload_n C 0 rfl (by decide +kernel) ?_
                refine g_getR C cl11 0 5 30 rfl cd_A0 ⟨by decide, rfl, by decide⟩ rfl rfl (nA (by decide)) (ix := 48) lk_472 (by decide +kernel) ?_
                refine g_aload C 5 rfl (by decide +kernel) ?_
                refine g_iload_n C 2 rfl (by decide +kernel) ?_
                refine g_iload_n C 3 rfl (by decide +kernel) ?_
                obtain ⟨r231_, d230_, hr232_, h⟩ := bd_some h
                refine g_callV C mw_La_enact [(2, r227_), (0, p2), (0, p3)] 30 cl3 rfl (ok_La_enact r227_ p2 p3 d226_ hp2 hp3 hr232_) cd_A30 (by decide) (nA (by decide)) (ix := 236) lk_855 lk_856 lk_857 ⟨rfl, rfl, Nat.le_of_ble_eq_true rfl, Nat.le_of_ble_eq_true rfl⟩ rfl (rest := []) rfl (Nat.le_of_ble_eq_true rfl) ⟨Nat.le_of_ble_eq_true rfl, Nat.le_of_ble_eq_true rfl⟩ (by decide +kernel) (fun _ hc233_ => ?_)
                refine g_st (st2 := []) rfl ?_
                refine g_aload C 5 rfl (by decide +kernel) ?_
                obtain ⟨hs234_, h⟩ := ck_some h
                refine g_getIN C cl9 (r227_.toNat + 0) 2 (stt_ko0 hs234_) (stt_cd hs234_ 0 (by decide)) ⟨by decide, rfl, by decide⟩ rfl (stt_n hs234_ 0 (by decide)) (ix := 240) lk_157 (by decide +kernel) (fun hc235_ => ?_)
                obtain ⟨rfl, rfl⟩ := ret_inj h
                exact a_iret C hc235_ hag225_ ⟨by decide, by decide⟩ hlk hr (by decide +kernel)
            · replace h := ite_f hc221_ h
              refine g_iconst C (-1) (cK rfl) (by decide +kernel) ?_
              obtain ⟨rfl, rfl⟩ := ret_inj h
              exact a_iret C (cK rfl) (fun _ _ => rfl) ⟨by decide, by decide⟩ hlk hr (by decide +kernel)
