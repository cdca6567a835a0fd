/-! PollBooksModel.work(II)J -/
def y_Mo_work : MethodName := ⟨"PollBooksModel", "work", "(II)J"⟩
def rm_Mo_work : Room := { frames := 0, cells := 0, slots := 0, locals := 0 }
theorem mw_Mo_work : MW y_Mo_work prog_14_method_61_code 10 (some .long) 2 := ⟨lk_2040, lk_14, by decide +kernel⟩
def L_Mo_work_b132 (x2 x3 x4 : Int) (d : Dt) : Option ((Int × Int × Int × Dt) ⊕ ((Dt))) :=
  some (Sum.inl (x2, x3, (w32 (x4 + 1)), d))
def L_Mo_work_b131 (x2 x3 x4 s1 s2 : Int) (d : Dt) : Option ((Int × Int × Int × Dt) ⊕ ((Dt))) :=
  ck ((0 : Int) ≤ s1 ∧ s1 < 700) (L_Mo_work_b132 x2 x3 x4 (up2 d 51 s1.toNat s2))
def L_Mo_work_b59 (x2 x3 x4 s1 s2 : Int) (d : Dt) : Option ((Int × Int × Int × Dt) ⊕ ((Dt))) :=
  ck ((0 : Int) ≤ s1 ∧ s1 < 700) (L_Mo_work_b132 x2 (w32 (x3 + 1)) x4 (up2 d 51 s1.toNat s2))
def L_Mo_work_y5 (x2 x3 x4 : Int) (d : Dt) : Option ((Int × Int × Int × Dt) ⊕ ((Dt))) :=
  if x4 < x2 then ck ((0 : Int) ≤ x4 ∧ x4 < 4000) (lt_ (d 43 x4.toNat) (fun v6_ => if v6_ < 2 then if v6_ = 0 then ck ((0 : Int) ≤ x4 ∧ x4 < 4000) (L_Mo_work_b59 x2 x3 x4 x3 (d 44 x4.toNat) d) else ck ((0 : Int) ≤ x4 ∧ x4 < 4000) (ck ((0 : Int) ≤ (d 44 x4.toNat) ∧ (d 44 x4.toNat) < 9) (L_Mo_work_b59 x2 x3 x4 x3 (d 50 ((d 44 x4.toNat)).toNat) d)) else ck ((0 : Int) ≤ (w32 (x3 - 2)) ∧ (w32 (x3 - 2)) < 700) (lt_ (d 51 ((w32 (x3 - 2))).toNat) (fun v19_ => ck ((0 : Int) ≤ (w32 (x3 - 1)) ∧ (w32 (x3 - 1)) < 700) (lt_ (d 51 ((w32 (x3 - 1))).toNat) (fun v24_ => if v6_ = 43 then L_Mo_work_b131 x2 (w32 (x3 + (-1))) x4 (w32 ((w32 (x3 + (-1))) - 1)) (w64 (v19_ + v24_)) d else if v6_ = 45 then L_Mo_work_b131 x2 (w32 (x3 + (-1))) x4 (w32 ((w32 (x3 + (-1))) - 1)) (w64 (v19_ - v24_)) d else L_Mo_work_b131 x2 (w32 (x3 + (-1))) x4 (w32 ((w32 (x3 + (-1))) - 1)) (w64 (v19_ * v24_)) d)))))) else some (Sum.inr (d))
def L_Mo_work_l5 (x2 x3 x4 : Int) (d : Dt) : Option ((Dt)) := lpF (fun q : Int × Int × Int × Dt => L_Mo_work_y5 q.1 q.2.1 q.2.2.1 q.2.2.2) FU (x2, x3, x4, d)
def L_Mo_work (p1 p2 : Int) (d : Dt) : Option (Int × Dt) :=
  lb (L_Mo_work_l5 p2 0 p1 d) (fun q34_ => u0 q34_ (fun d31_ => some ((d31_ 51 0), d31_)))
set_option maxHeartbeats 4000000 in
theorem ok_Mo_work_b132 {p : Program} {l : Launch} {e : Env} {s : State} {m : MethodId} {args : Array Value} {below : List Frame} {meth : Method} {c : Code} {D : va_G} {cA : Nat → ClassId} {ad : Nat → Nat} {A : Nat → Prop} (C : Cx p s m args c prog_14_method_61_code 10 "PollBooksModel" D cA ad 1 A) {Q : State → Prop} {o : (Int × Int × Int × Dt) ⊕ ((Dt))} (x2 x3 x4 : Int) (d : Dt) (hx2 : c32 x2) (hx3 : c32 x3) (hx4 : c32 x4) (h : L_Mo_work_b132 x2 x3 x4 d = some o) (kb : ∀ (y0 y1 y2 : Int) (e' : Dt), o = .inl (y0, y1, y2, e') → c32 y0 → c32 y1 → c32 y2 → G p l e rm_Mo_work s m args below meth c 0 0 Q 10 D cA ad 1 A 5 [(2, 0), (9, 0), (0, y0), (0, y1), (0, y2), (9, 0), (9, 0), (9, 0), (9, 0), (9, 0)] [] e') (k0 : ∀ (e' : Dt), o = .inr (e') → G p l e rm_Mo_work s m args below meth c 0 0 Q 10 D cA ad 1 A 138 [(2, 0), (9, 0), (9, 0), (9, 0), (9, 0), (9, 0), (9, 0), (9, 0), (9, 0), (9, 0)] [] e') : G p l e rm_Mo_work s m args below meth c 0 0 Q 10 D cA ad 1 A 132 [(2, 0), (9, 0), (0, x2), (0, x3), (0, x4), (9, 0), (9, 0), (9, 0), (9, 0), (9, 0)] [] d := by
  unfold L_Mo_work_b132 at h
  refine s_iinc C 4 1 (lo' := [(2, 0), (9, 0), (0, x2), (0, x3), (0, (w32 (x4 + 1))), (9, 0), (9, 0), (9, 0), (9, 0), (9, 0)]) rfl (by decide) (s1k (s1k (s1k (s1n (by decide) s1z)))) (by decide +kernel) ?_
  refine g_goto C 5 (off := (-130)) (by decide +kernel) (by decide) ?_
  refine g_sub (lo2 := [(2, 0), (9, 0), (0, x2), (0, x3), (0, (w32 (x4 + 1))), (9, 0), (9, 0), (9, 0), (9, 0), (9, 0)]) (lsb_v (lsb_c (lsb_v (lsb_v (lsb_v (lsb_c (lsb_c (lsb_c (lsb_c (lsb_c lsb_e)))))))))) ?_
  obtain rfl := Option.some.inj h
  exact kb x2 x3 (w32 (x4 + 1)) d rfl hx2 hx3 (w32_c _)
set_option maxHeartbeats 4000000 in
theorem ok_Mo_work_b131 {p : Program} {l : Launch} {e : Env} {s : State} {m : MethodId} {args : Array Value} {below : List Frame} {meth : Method} {c : Code} {D : va_G} {cA : Nat → ClassId} {ad : Nat → Nat} {A : Nat → Prop} (C : Cx p s m args c prog_14_method_61_code 10 "PollBooksModel" D cA ad 1 A) {Q : State → Prop} {o : (Int × Int × Int × Dt) ⊕ ((Dt))} (x2 x3 x4 s1 s2 : Int) (d : Dt) (hx2 : c32 x2) (hx3 : c32 x3) (hx4 : c32 x4) (hs1 : c32 s1) (hs2 : c64 s2) (h : L_Mo_work_b131 x2 x3 x4 s1 s2 d = some o) (kb : ∀ (y0 y1 y2 : Int) (e' : Dt), o = .inl (y0, y1, y2, e') → c32 y0 → c32 y1 → c32 y2 → G p l e rm_Mo_work s m args below meth c 0 0 Q 10 D cA ad 1 A 5 [(2, 0), (9, 0), (0, y0), (0, y1), (0, y2), (9, 0), (9, 0), (9, 0), (9, 0), (9, 0)] [] e') (k0 : ∀ (e' : Dt), o = .inr (e') → G p l e rm_Mo_work s m args below meth c 0 0 Q 10 D cA ad 1 A 138 [(2, 0), (9, 0), (9, 0), (9, 0), (9, 0), (9, 0), (9, 0), (9, 0), (9, 0), (9, 0)] [] e') : G p l e rm_Mo_work s m args below meth c 0 0 Q 10 D cA ad 1 A 131 [(2, 0), (9, 0), (0, x2), (0, x3), (0, x4), (9, 0), (9, 0), (9, 0), (9, 0), (9, 0)] [(1, s2), (0, s1), (2, 51)] d := by
  unfold L_Mo_work_b131 at h
  obtain ⟨hb1_, h⟩ := ck_some h
  refine g_last C 51 hs2 hs1 rfl cd_B51 (nB (by decide)) hb1_ (by decide +kernel) ?_
  refine g_sub (lo2 := [(2, 0), (9, 0), (0, x2), (0, x3), (0, x4), (9, 0), (9, 0), (9, 0), (9, 0), (9, 0)]) (lsb_v (lsb_c (lsb_v (lsb_v (lsb_v (lsb_c (lsb_c (lsb_c (lsb_c (lsb_c lsb_e)))))))))) ?_
  exact ok_Mo_work_b132 C x2 x3 x4 (up2 d 51 s1.toNat s2) hx2 hx3 hx4 h kb k0
set_option maxHeartbeats 4000000 in
theorem ok_Mo_work_b59 {p : Program} {l : Launch} {e : Env} {s : State} {m : MethodId} {args : Array Value} {below : List Frame} {meth : Method} {c : Code} {D : va_G} {cA : Nat → ClassId} {ad : Nat → Nat} {A : Nat → Prop} (C : Cx p s m args c prog_14_method_61_code 10 "PollBooksModel" D cA ad 1 A) {Q : State → Prop} {o : (Int × Int × Int × Dt) ⊕ ((Dt))} (x2 x3 x4 s1 s2 : Int) (d : Dt) (hx2 : c32 x2) (hx3 : c32 x3) (hx4 : c32 x4) (hs1 : c32 s1) (hs2 : c64 s2) (h : L_Mo_work_b59 x2 x3 x4 s1 s2 d = some o) (kb : ∀ (y0 y1 y2 : Int) (e' : Dt), o = .inl (y0, y1, y2, e') → c32 y0 → c32 y1 → c32 y2 → G p l e rm_Mo_work s m args below meth c 0 0 Q 10 D cA ad 1 A 5 [(2, 0), (9, 0), (0, y0), (0, y1), (0, y2), (9, 0), (9, 0), (9, 0), (9, 0), (9, 0)] [] e') (k0 : ∀ (e' : Dt), o = .inr (e') → G p l e rm_Mo_work s m args below meth c 0 0 Q 10 D cA ad 1 A 138 [(2, 0), (9, 0), (9, 0), (9, 0), (9, 0), (9, 0), (9, 0), (9, 0), (9, 0), (9, 0)] [] e') : G p l e rm_Mo_work s m args below meth c 0 0 Q 10 D cA ad 1 A 59 [(2, 0), (9, 0), (0, x2), (0, x3), (0, x4), (9, 0), (9, 0), (9, 0), (9, 0), (9, 0)] [(1, s2), (0, s1), (2, 51)] d := by
  unfold L_Mo_work_b59 at h
  obtain ⟨hb2_, h⟩ := ck_some h
  refine g_last C 51 hs2 hs1 rfl cd_B51 (nB (by decide)) hb2_ (by decide +kernel) ?_
  refine s_iinc C 3 1 (lo' := [(2, 0), (9, 0), (0, x2), (0, (w32 (x3 + 1))), (0, x4), (9, 0), (9, 0), (9, 0), (9, 0), (9, 0)]) rfl (by decide) (s1k (s1k (s1n (by decide) s1z))) (by decide +kernel) ?_
  refine g_goto C 132 (off := 69) (by decide +kernel) (by decide) ?_
  refine g_sub (lo2 := [(2, 0), (9, 0), (0, x2), (0, (w32 (x3 + 1))), (0, x4), (9, 0), (9, 0), (9, 0), (9, 0), (9, 0)]) (lsb_v (lsb_c (lsb_v (lsb_v (lsb_v (lsb_c (lsb_c (lsb_c (lsb_c (lsb_c lsb_e)))))))))) ?_
  exact ok_Mo_work_b132 C x2 (w32 (x3 + 1)) x4 (up2 d 51 s1.toNat s2) hx2 (w32_c _) hx4 h kb k0
set_option maxHeartbeats 4000000 in
theorem ok_Mo_work_y5 {p : Program} {l : Launch} {e : Env} {s : State} {m : MethodId} {args : Array Value} {below : List Frame} {meth : Method} {c : Code} {D : va_G} {cA : Nat → ClassId} {ad : Nat → Nat} {A : Nat → Prop} (C : Cx p s m args c prog_14_method_61_code 10 "PollBooksModel" D cA ad 1 A) {Q : State → Prop} {o : (Int × Int × Int × Dt) ⊕ ((Dt))} (x2 x3 x4 : Int) (d : Dt) (hx2 : c32 x2) (hx3 : c32 x3) (hx4 : c32 x4) (h : L_Mo_work_y5 x2 x3 x4 d = some o) (kb : ∀ (y0 y1 y2 : Int) (e' : Dt), o = .inl (y0, y1, y2, e') → c32 y0 → c32 y1 → c32 y2 → G p l e rm_Mo_work s m args below meth c 0 0 Q 10 D cA ad 1 A 5 [(2, 0), (9, 0), (0, y0), (0, y1), (0, y2), (9, 0), (9, 0), (9, 0), (9, 0), (9, 0)] [] e') (k0 : ∀ (e' : Dt), o = .inr (e') → G p l e rm_Mo_work s m args below meth c 0 0 Q 10 D cA ad 1 A 138 [(2, 0), (9, 0), (9, 0), (9, 0), (9, 0), (9, 0), (9, 0), (9, 0), (9, 0), (9, 0)] [] e') : G p l e rm_Mo_work s m args below meth c 0 0 Q 10 D cA ad 1 A 5 [(2, 0), (9, 0), (0, x2), (0, x3), (0, x4), (9, 0), (9, 0), (9, 0), (9, 0), (9, 0)] [] d := by
  unfold L_Mo_work_y5 at h
  refine g_iload C 4 rfl (by decide +kernel) ?_
  refine g_iload_n C 2 rfl (by decide +kernel) ?_
  refine g_icmp_ge C (off := 130) (tgt := 138) hx4 hx2 (by decide +kernel) (by decide) (fun hc3_ => ?_) (fun hc3_ => ?_)
  · replace h := ite_t hc3_ h
    refine g_aload_n C 0 rfl (by decide +kernel) ?_
    refine g_getR C cl12 0 61 43 rfl cd_B0 ⟨by decide, rfl, by decide⟩ rfl rfl (nB (by decide)) (ix := 149) lk_1463 (by decide +kernel) ?_
    refine g_iload C 4 rfl (by decide +kernel) ?_
    obtain ⟨hb4_, h⟩ := ck_some h
    refine g_iald C 43 hx4 rfl cd_B43 (nB (by decide)) hb4_ (by decide +kernel) (fun hc5_ => ?_)
    obtain ⟨v6_, ev7_, h⟩ := lt_some h
    refine g_val ev7_.symm ?_
    have hv8_ : c32 v6_ := by rw [ev7_]; exact hc5_
    refine s_istore C 5 (lo' := [(2, 0), (9, 0), (0, x2), (0, x3), (0, x4), (0, v6_), (9, 0), (9, 0), (9, 0), (9, 0)]) (by decide) (s1k (s1k (s1k (s1k (s1n (by decide) s1z))))) (by decide +kernel) ?_
    refine g_iload C 5 rfl (by decide +kernel) ?_
    refine g_iconst C 2 (cK rfl) (by decide +kernel) ?_
    refine g_icmp_ge C (off := 43) (tgt := 66) hv8_ (cK rfl) (by decide +kernel) (by decide) (fun hc9_ => ?_) (fun hc9_ => ?_)
    · replace h := ite_t hc9_ h
      refine g_aload_n C 0 rfl (by decide +kernel) ?_
      refine g_getR C cl12 0 70 51 rfl cd_B0 ⟨by decide, rfl, by decide⟩ rfl rfl (nB (by decide)) (ix := 173) lk_1472 (by decide +kernel) ?_
      refine g_iload_n C 3 rfl (by decide +kernel) ?_
      refine g_iload C 5 rfl (by decide +kernel) ?_
      refine g_if_ne C (off := 14) (tgt := 47) hv8_ (by decide +kernel) (by decide) (fun hc10_ => ?_) (fun hc10_ => ?_)
      · replace h := ite_t hc10_ h
        refine g_aload_n C 0 rfl (by decide +kernel) ?_
        refine g_getR C cl12 0 62 44 rfl cd_B0 ⟨by decide, rfl, by decide⟩ rfl rfl (nB (by decide)) (ix := 152) lk_1464 (by decide +kernel) ?_
        refine g_iload C 4 rfl (by decide +kernel) ?_
        obtain ⟨hb11_, h⟩ := ck_some h
        refine g_iald C 44 hx4 rfl cd_B44 (nB (by decide)) hb11_ (by decide +kernel) (fun hc12_ => ?_)
        refine g_i2l C hc12_ (by decide +kernel) ?_
        refine g_goto C 59 (off := 15) (by decide +kernel) (by decide) ?_
        refine g_sub (lo2 := [(2, 0), (9, 0), (0, x2), (0, x3), (0, x4), (9, 0), (9, 0), (9, 0), (9, 0), (9, 0)]) (lsb_v (lsb_c (lsb_v (lsb_v (lsb_v (lsb_c (lsb_c (lsb_c (lsb_c (lsb_c lsb_e)))))))))) ?_
        exact ok_Mo_work_b59 C x2 x3 x4 x3 (d 44 x4.toNat) d hx2 hx3 hx4 hx3 (c64_32 hc12_) h kb k0
      · replace h := ite_f hc10_ h
        refine g_aload_n C 0 rfl (by decide +kernel) ?_
        refine g_getR C cl12 0 69 50 rfl cd_B0 ⟨by decide, rfl, by decide⟩ rfl rfl (nB (by decide)) (ix := 170) lk_1471 (by decide +kernel) ?_
        refine g_aload_n C 0 rfl (by decide +kernel) ?_
        refine g_getR C cl12 0 62 44 rfl cd_B0 ⟨by decide, rfl, by decide⟩ rfl rfl (nB (by decide)) (ix := 152) lk_1464 (by decide +kernel) ?_
        refine g_iload C 4 rfl (by decide +kernel) ?_
        obtain ⟨hb13_, h⟩ := ck_some h
        refine g_iald C 44 hx4 rfl cd_B44 (nB (by decide)) hb13_ (by decide +kernel) (fun hc14_ => ?_)
        obtain ⟨hb15_, h⟩ := ck_some h
        refine g_lald C 50 hc14_ rfl cd_B50 (nB (by decide)) hb15_ (by decide +kernel) (fun hc16_ => ?_)
        refine g_sub (lo2 := [(2, 0), (9, 0), (0, x2), (0, x3), (0, x4), (9, 0), (9, 0), (9, 0), (9, 0), (9, 0)]) (lsb_v (lsb_c (lsb_v (lsb_v (lsb_v (lsb_c (lsb_c (lsb_c (lsb_c (lsb_c lsb_e)))))))))) ?_
        exact ok_Mo_work_b59 C x2 x3 x4 x3 (d 50 ((d 44 x4.toNat)).toNat) d hx2 hx3 hx4 hx3 hc16_ h kb k0
    · replace h := ite_f hc9_ h
      refine g_aload_n C 0 rfl (by decide +kernel) ?_
      refine g_getR C cl12 0 70 51 rfl cd_B0 ⟨by decide, rfl, by decide⟩ rfl rfl (nB (by decide)) (ix := 173) lk_1472 (by decide +kernel) ?_
      refine g_iload_n C 3 rfl (by decide +kernel) ?_
      refine g_iconst C 2 (cK rfl) (by decide +kernel) ?_
      refine g_isub C (by decide +kernel) ?_
      obtain ⟨hb17_, h⟩ := ck_some h
      refine g_lald C 51 (w32_c _) rfl cd_B51 (nB (by decide)) hb17_ (by decide +kernel) (fun hc18_ => ?_)
      obtain ⟨v19_, ev20_, h⟩ := lt_some h
      refine g_val ev20_.symm ?_
      have hv21_ : c64 v19_ := by rw [ev20_]; exact hc18_
      refine s_lstore C 6 (lo' := [(2, 0), (9, 0), (0, x2), (0, x3), (0, x4), (0, v6_), (1, v19_), (9, 0), (9, 0), (9, 0)]) (by decide) (s2k (s2k (s2k (s2k (s2k (s2n (by decide) s2z)))))) (by decide +kernel) ?_
      refine g_aload_n C 0 rfl (by decide +kernel) ?_
      refine g_getR C cl12 0 70 51 rfl cd_B0 ⟨by decide, rfl, by decide⟩ rfl rfl (nB (by decide)) (ix := 173) lk_1472 (by decide +kernel) ?_
      refine g_iload_n C 3 rfl (by decide +kernel) ?_
      refine g_iconst C 1 (cK rfl) (by decide +kernel) ?_
      refine g_isub C (by decide +kernel) ?_
      obtain ⟨hb22_, h⟩ := ck_some h
      refine g_lald C 51 (w32_c _) rfl cd_B51 (nB (by decide)) hb22_ (by decide +kernel) (fun hc23_ => ?_)
      obtain ⟨v24_, ev25_, h⟩ := lt_some h
      refine g_val ev25_.symm ?_
      have hv26_ : c64 v24_ := by rw [ev25_]; exact hc23_
      refine s_lstore C 8 (lo' := [(2, 0), (9, 0), (0, x2), (0, x3), (0, x4), (0, v6_), (1, v19_), (9, 0), (1, v24_), (9, 0)]) (by decide) (s2k (s2k (s2k (s2k (s2k (s2k (s2k (s2n (by decide) s2z)))))))) (by decide +kernel) ?_
      refine s_iinc C 3 (-1) (lo' := [(2, 0), (9, 0), (0, x2), (0, (w32 (x3 + (-1)))), (0, x4), (0, v6_), (1, v19_), (9, 0), (1, v24_), (9, 0)]) rfl (by decide) (s1k (s1k (s1n (by decide) s1z))) (by decide +kernel) ?_
      refine g_aload_n C 0 rfl (by decide +kernel) ?_
      refine g_getR C cl12 0 70 51 rfl cd_B0 ⟨by decide, rfl, by decide⟩ rfl rfl (nB (by decide)) (ix := 173) lk_1472 (by decide +kernel) ?_
      refine g_iload_n C 3 rfl (by decide +kernel) ?_
      refine g_iconst C 1 (cK rfl) (by decide +kernel) ?_
      refine g_isub C (by decide +kernel) ?_
      refine g_iload C 5 rfl (by decide +kernel) ?_
      refine g_bipush C 43 (by decide) (by decide +kernel) ?_
      refine g_icmp_ne C (off := 11) (tgt := 111) hv8_ (cK rfl) (by decide +kernel) (by decide) (fun hc27_ => ?_) (fun hc27_ => ?_)
      · replace h := ite_t hc27_ h
        refine g_lload C 6 rfl (by decide +kernel) ?_
        refine g_lload C 8 rfl (by decide +kernel) ?_
        refine g_ladd C (by decide +kernel) ?_
        refine g_goto C 131 (off := 23) (by decide +kernel) (by decide) ?_
        refine g_sub (lo2 := [(2, 0), (9, 0), (0, x2), (0, (w32 (x3 + (-1)))), (0, x4), (9, 0), (9, 0), (9, 0), (9, 0), (9, 0)]) (lsb_v (lsb_c (lsb_v (lsb_v (lsb_v (lsb_c (lsb_c (lsb_c (lsb_c (lsb_c lsb_e)))))))))) ?_
        exact ok_Mo_work_b131 C x2 (w32 (x3 + (-1))) x4 (w32 ((w32 (x3 + (-1))) - 1)) (w64 (v19_ + v24_)) d hx2 (w32_c _) hx4 (w32_c _) (w64_c _) h kb k0
      · replace h := ite_f hc27_ h
        refine g_iload C 5 rfl (by decide +kernel) ?_
        refine g_bipush C 45 (by decide) (by decide +kernel) ?_
        refine g_icmp_ne C (off := 11) (tgt := 126) hv8_ (cK rfl) (by decide +kernel) (by decide) (fun hc28_ => ?_) (fun hc28_ => ?_)
        · replace h := ite_t hc28_ h
          refine g_lload C 6 rfl (by decide +kernel) ?_
          refine g_lload C 8 rfl (by decide +kernel) ?_
          refine g_lsub C (by decide +kernel) ?_
          refine g_goto C 131 (off := 8) (by decide +kernel) (by decide) ?_
          refine g_sub (lo2 := [(2, 0), (9, 0), (0, x2), (0, (w32 (x3 + (-1)))), (0, x4), (9, 0), (9, 0), (9, 0), (9, 0), (9, 0)]) (lsb_v (lsb_c (lsb_v (lsb_v (lsb_v (lsb_c (lsb_c (lsb_c (lsb_c (lsb_c lsb_e)))))))))) ?_
          exact ok_Mo_work_b131 C x2 (w32 (x3 + (-1))) x4 (w32 ((w32 (x3 + (-1))) - 1)) (w64 (v19_ - v24_)) d hx2 (w32_c _) hx4 (w32_c _) (w64_c _) h kb k0
        · replace h := ite_f hc28_ h
          refine g_lload C 6 rfl (by decide +kernel) ?_
          refine g_lload C 8 rfl (by decide +kernel) ?_
          refine g_lmul C (by decide +kernel) ?_
          refine g_sub (lo2 := [(2, 0), (9, 0), (0, x2), (0, (w32 (x3 + (-1)))), (0, x4), (9, 0), (9, 0), (9, 0), (9, 0), (9, 0)]) (lsb_v (lsb_c (lsb_v (lsb_v (lsb_v (lsb_c (lsb_c (lsb_c (lsb_c (lsb_c lsb_e)))))))))) ?_
          exact ok_Mo_work_b131 C x2 (w32 (x3 + (-1))) x4 (w32 ((w32 (x3 + (-1))) - 1)) (w64 (v19_ * v24_)) d hx2 (w32_c _) hx4 (w32_c _) (w64_c _) h kb k0
  · replace h := ite_f hc3_ h
    refine g_sub (lo2 := [(2, 0), (9, 0), (9, 0), (9, 0), (9, 0), (9, 0), (9, 0), (9, 0), (9, 0), (9, 0)]) (lsb_v (lsb_c (lsb_c (lsb_c (lsb_c (lsb_c (lsb_c (lsb_c (lsb_c (lsb_c lsb_e)))))))))) ?_
    obtain rfl := Option.some.inj h
    exact k0 d rfl 
set_option maxHeartbeats 4000000 in
theorem ok_Mo_work_n5 {p : Program} {l : Launch} {e : Env} {s : State} {m : MethodId} {args : Array Value} {below : List Frame} {meth : Method} {c : Code} {D : va_G} {cA : Nat → ClassId} {ad : Nat → Nat} {A : Nat → Prop} (C : Cx p s m args c prog_14_method_61_code 10 "PollBooksModel" D cA ad 1 A) {Q : State → Prop} {x : (Dt)} : ∀ (n : Nat) (x2 x3 x4 : Int) (d : Dt), c32 x2 → c32 x3 → c32 x4 → lpF (fun q : Int × Int × Int × Dt => L_Mo_work_y5 q.1 q.2.1 q.2.2.1 q.2.2.2) n (x2, x3, x4, d) = some x → (∀ (e' : Dt), x = (e') → G p l e rm_Mo_work s m args below meth c 0 0 Q 10 D cA ad 1 A 138 [(2, 0), (9, 0), (9, 0), (9, 0), (9, 0), (9, 0), (9, 0), (9, 0), (9, 0), (9, 0)] [] e') → G p l e rm_Mo_work s m args below meth c 0 0 Q 10 D cA ad 1 A 5 [(2, 0), (9, 0), (0, x2), (0, x3), (0, x4), (9, 0), (9, 0), (9, 0), (9, 0), (9, 0)] [] d := by
  intro n
  induction n with
  | zero => intro x2 x3 x4 d g0 g1 g2 h k0; cases h
  | succ n ih =>
    intro x2 x3 x4 d g0 g1 g2 h k0
    rcases lpF_some h with h | ⟨⟨v0_, v1_, v2_, e0_⟩, h1, h⟩
    · exact ok_Mo_work_y5 C x2 x3 x4 d g0 g1 g2 h (fun z0_ z1_ z2_ e1_ eq w0_ w1_ w2_ => by cases eq) (fun e1_ eq => k0 _ (by cases eq; rfl) )
    · exact ok_Mo_work_y5 C x2 x3 x4 d g0 g1 g2 h1 (fun z0_ z1_ z2_ e1_ eq w0_ w1_ w2_ => by cases eq; exact ih _ _ _ _ w0_ w1_ w2_ h k0) (fun e1_ eq => by cases eq)
set_option maxHeartbeats 4000000 in
theorem ok_Mo_work_l5 {p : Program} {l : Launch} {e : Env} {s : State} {m : MethodId} {args : Array Value} {below : List Frame} {meth : Method} {c : Code} {D : va_G} {cA : Nat → ClassId} {ad : Nat → Nat} {A : Nat → Prop} (C : Cx p s m args c prog_14_method_61_code 10 "PollBooksModel" D cA ad 1 A) {Q : State → Prop} {x : (Dt)} (x2 x3 x4 : Int) (d : Dt) (hx2 : c32 x2) (hx3 : c32 x3) (hx4 : c32 x4) (h : L_Mo_work_l5 x2 x3 x4 d = some x) (k0 : ∀ (e' : Dt), x = (e') → G p l e rm_Mo_work s m args below meth c 0 0 Q 10 D cA ad 1 A 138 [(2, 0), (9, 0), (9, 0), (9, 0), (9, 0), (9, 0), (9, 0), (9, 0), (9, 0), (9, 0)] [] e') : G p l e rm_Mo_work s m args below meth c 0 0 Q 10 D cA ad 1 A 5 [(2, 0), (9, 0), (0, x2), (0, x3), (0, x4), (9, 0), (9, 0), (9, 0), (9, 0), (9, 0)] [] d :=
  ok_Mo_work_n5 C FU x2 x3 x4 d hx2 hx3 hx4 h k0
set_option maxHeartbeats 4000000 in
theorem ok_Mo_work {l : Launch} {r : Int} {d' : Dt} (p1 p2 : Int) (d : Dt) (hp1 : c32 p1) (hp2 : c32 p2) (h : L_Mo_work p1 p2 d = some (r, d')) : MC l y_Mo_work prog_14_method_61_code 10 (some .long) rm_Mo_work 1 [(2, 0), (0, p1), (0, p2)] d (some (1, r)) d' := by
  refine MC.of (by decide) (Nat.le_of_ble_eq_true rfl) ?_
  intro p e s m args below meth c D cA ad A C hlk hr
  replace C : Cx p s m args c prog_14_method_61_code 10 "PollBooksModel" D cA ad 1 A := C
  show G p l e rm_Mo_work s m args below meth c 0 0 (MQ below (fun _ => QC D cA ad 1 A (some .long) (some (1, r)) d') args s 0 0 A) 10 D cA ad 1 A 0 [(2, 0), (0, p1), (0, p2)] [] d
  refine g_sub (lo2 := [(2, 0), (0, p1), (0, p2), (9, 0), (9, 0), (9, 0), (9, 0), (9, 0), (9, 0), (9, 0)]) (lsb_v (lsb_v (lsb_v (lsb_n (lsb_n (lsb_n (lsb_n (lsb_n (lsb_n (lsb_n lsb_e)))))))))) ?_
  unfold L_Mo_work at h
  refine g_iconst C 0 (cK rfl) (by decide +kernel) ?_
  refine s_istore_n C 3 (lo' := [(2, 0), (0, p1), (0, p2), (0, 0), (9, 0), (9, 0), (9, 0), (9, 0), (9, 0), (9, 0)]) (by decide) (s1k (s1k (s1n (by decide) s1z))) (by decide +kernel) ?_
  refine g_iload_n C 1 rfl (by decide +kernel) ?_
  refine s_istore C 4 (lo' := [(2, 0), (0, p1), (0, p2), (0, 0), (0, p1), (9, 0), (9, 0), (9, 0), (9, 0), (9, 0)]) (by decide) (s1k (s1k (s1k (s1n (by decide) s1z)))) (by decide +kernel) ?_
  refine g_sub (lo2 := [(2, 0), (9, 0), (0, p2), (0, 0), (0, p1), (9, 0), (9, 0), (9, 0), (9, 0), (9, 0)]) (lsb_v (lsb_c (lsb_v (lsb_v (lsb_v (lsb_c (lsb_c (lsb_c (lsb_c (lsb_c lsb_e)))))))))) ?_
  obtain ⟨x29_, hx30_, h⟩ := lb_some h
  refine ok_Mo_work_l5 C p2 0 p1 d hp2 (c32_cb (Or.inl rfl)) hp1 hx30_ (fun d31_ eq32_ => ?_)
  replace eq32_ := eq32_.symm
  subst eq32_
  replace h := u0_e h
  refine g_aload_n C 0 rfl (by decide +kernel) ?_
  refine g_getR C cl12 0 70 51 rfl cd_B0 ⟨by decide, rfl, by decide⟩ rfl rfl (nB (by decide)) (ix := 173) lk_1472 (by decide +kernel) ?_
  refine g_iconst C 0 (cK rfl) (by decide +kernel) ?_
  refine g_lald C 51 (c32_cb (Or.inl rfl)) rfl cd_B51 (nB (by decide)) (by decide) (by decide +kernel) (fun hc33_ => ?_)
  refine g_val (y := (d31_ 51 0)) rfl ?_
  replace hc33_ : c64 (d31_ 51 0) := hc33_
  obtain ⟨rfl, rfl⟩ := ret_inj h
  exact g_lret C hc33_ hlk hr (by decide +kernel)
/-! PollBooksModel.holds(II)Z -/
def y_Mo_holds : MethodName := ⟨"PollBooksModel", "holds", "(II)Z"⟩
def rm_Mo_holds : Room := { frames := 1, cells := 0, slots := 0, locals := 29 }
theorem mw_Mo_holds : MW y_Mo_holds prog_14_method_62_code 10 (some .boolean) 2 := ⟨lk_2036, lk_14, by decide +kernel⟩
def L_Mo_holds_b167 (x1 x2 x4 s0 : Int) (d : Dt) : Option ((Int × Int × Int × Int × Dt) ⊕ ((Int × Dt) ⊕ (Dt))) :=
  some (Sum.inl (x1, x2, s0, (w32 (x4 + 1)), d))
def L_Mo_holds_b144 (x1 x2 x3 x4 s0 : Int) (d : Dt) : Option ((Int × Int × Int × Int × Dt) ⊕ ((Int × Dt) ⊕ (Dt))) :=
  if x3 = 0 then L_Mo_holds_b167 x1 x2 x4 0 d else ck ((0 : Int) ≤ x4 ∧ x4 < 1500) (if s0 = (d 41 x4.toNat) then L_Mo_holds_b167 x1 x2 x4 0 d else L_Mo_holds_b167 x1 x2 x4 1 d)
def L_Mo_holds_b35 (x1 x2 x3 x4 : Int) (d : Dt) : Option ((Int × Int × Int × Int × Dt) ⊕ ((Int × Dt) ⊕ (Dt))) :=
  ck ((0 : Int) ≤ x4 ∧ x4 < 1500) (ck ((0 : Int) ≤ x4 ∧ x4 < 1500) (bd (L_Mo_work (d 37 x4.toNat) (d 38 x4.toNat) d) (fun r10_ d9_ => ck ((0 : Int) ≤ x4 ∧ x4 < 1500) (ck ((0 : Int) ≤ x4 ∧ x4 < 1500) (bd (L_Mo_work (d9_ 38 x4.toNat) (d9_ 39 x4.toNat) d9_) (fun r18_ d17_ => ck ((0 : Int) ≤ x4 ∧ x4 < 1500) (if (d17_ 40 x4.toNat) = 60 then if r10_ < r18_ then L_Mo_holds_b144 x1 x2 x3 x4 1 d17_ else L_Mo_holds_b144 x1 x2 x3 x4 0 d17_ else ck ((0 : Int) ≤ x4 ∧ x4 < 1500) (if (d17_ 40 x4.toNat) = 62 then if r18_ < r10_ then L_Mo_holds_b144 x1 x2 x3 x4 1 d17_ else L_Mo_holds_b144 x1 x2 x3 x4 0 d17_ else if r10_ = r18_ then L_Mo_holds_b144 x1 x2 x3 x4 1 d17_ else L_Mo_holds_b144 x1 x2 x3 x4 0 d17_))))))))
def L_Mo_holds_y5 (x1 x2 x3 x4 : Int) (d : Dt) : Option ((Int × Int × Int × Int × Dt) ⊕ ((Int × Dt) ⊕ (Dt))) :=
  if x4 < x2 then ck ((0 : Int) ≤ x4 ∧ x4 < 1500) (if (d 42 x4.toNat) = 0 then L_Mo_holds_b35 x1 x2 x3 x4 d else if x1 < x4 then if x3 = 0 then L_Mo_holds_b35 x1 x2 1 x4 d else some (Sum.inr (Sum.inr (d))) else L_Mo_holds_b35 x1 x2 x3 x4 d) else some (Sum.inr (Sum.inl (x3, d)))
def L_Mo_holds_l5 (x1 x2 x3 x4 : Int) (d : Dt) : Option ((Int × Dt) ⊕ (Dt)) := lpF (fun q : Int × Int × Int × Int × Dt => L_Mo_holds_y5 q.1 q.2.1 q.2.2.1 q.2.2.2.1 q.2.2.2.2) FU (x1, x2, x3, x4, d)
def L_Mo_holds (p1 p2 : Int) (d : Dt) : Option (Int × Dt) :=
  lb (L_Mo_holds_l5 p1 p2 1 p1 d) (fun q43_ => sm q43_ (fun q44_ => u1 q44_ (fun v38_ d39_ => some (v38_, d39_))) (fun q45_ => u0 q45_ (fun d41_ => some (1, d41_))))
set_option maxHeartbeats 4000000 in
theorem ok_Mo_holds_b167 {p : Program} {l : Launch} {e : Env} {s : State} {m : MethodId} {args : Array Value} {below : List Frame} {meth : Method} {c : Code} {D : va_G} {cA : Nat → ClassId} {ad : Nat → Nat} {A : Nat → Prop} (C : Cx p s m args c prog_14_method_62_code 10 "PollBooksModel" D cA ad 1 A) {Q : State → Prop} {o : (Int × Int × Int × Int × Dt) ⊕ ((Int × Dt) ⊕ (Dt))} (x1 x2 x4 s0 : Int) (d : Dt) (hx1 : c32 x1) (hx2 : c32 x2) (hx4 : c32 x4) (hs0 : cb s0) (h : L_Mo_holds_b167 x1 x2 x4 s0 d = some o) (kb : ∀ (y0 y1 y2 y3 : Int) (e' : Dt), o = .inl (y0, y1, y2, y3, e') → c32 y0 → c32 y1 → cb y2 → c32 y3 → G p l e rm_Mo_holds s m args below meth c 0 0 Q 10 D cA ad 1 A 5 [(2, 0), (0, y0), (0, y1), (0, y2), (0, y3), (9, 0), (9, 0), (9, 0), (9, 0), (9, 0)] [] e') (k0 : ∀ (y0 : Int) (e' : Dt), o = .inr (Sum.inl (y0, e')) → cb y0 → G p l e rm_Mo_holds s m args below meth c 0 0 Q 10 D cA ad 1 A 174 [(9, 0), (9, 0), (9, 0), (0, y0), (9, 0), (9, 0), (9, 0), (9, 0), (9, 0), (9, 0)] [] e') (k1 : ∀ (e' : Dt), o = .inr (Sum.inr (e')) → G p l e rm_Mo_holds s m args below meth c 0 0 Q 10 D cA ad 1 A 31 [(9, 0), (9, 0), (9, 0), (9, 0), (9, 0), (9, 0), (9, 0), (9, 0), (9, 0), (9, 0)] [] e') : G p l e rm_Mo_holds s m args below meth c 0 0 Q 10 D cA ad 1 A 167 [(2, 0), (0, x1), (0, x2), (9, 0), (0, x4), (9, 0), (9, 0), (9, 0), (9, 0), (9, 0)] [(0, s0)] d := by
  unfold L_Mo_holds_b167 at h
  refine s_istore_n C 3 (lo' := [(2, 0), (0, x1), (0, x2), (0, s0), (0, x4), (9, 0), (9, 0), (9, 0), (9, 0), (9, 0)]) (by decide) (s1k (s1k (s1n (by decide) s1z))) (by decide +kernel) ?_
  refine s_iinc C 4 1 (lo' := [(2, 0), (0, x1), (0, x2), (0, s0), (0, (w32 (x4 + 1))), (9, 0), (9, 0), (9, 0), (9, 0), (9, 0)]) rfl (by decide) (s1k (s1k (s1k (s1n (by decide) s1z)))) (by decide +kernel) ?_
  refine g_goto C 5 (off := (-166)) (by decide +kernel) (by decide) ?_
  refine g_sub (lo2 := [(2, 0), (0, x1), (0, x2), (0, s0), (0, (w32 (x4 + 1))), (9, 0), (9, 0), (9, 0), (9, 0), (9, 0)]) (lsb_v (lsb_v (lsb_v (lsb_v (lsb_v (lsb_c (lsb_c (lsb_c (lsb_c (lsb_c lsb_e)))))))))) ?_
  obtain rfl := Option.some.inj h
  exact kb x1 x2 s0 (w32 (x4 + 1)) d rfl hx1 hx2 hs0 (w32_c _)
set_option maxHeartbeats 4000000 in
theorem ok_Mo_holds_b144 {p : Program} {l : Launch} {e : Env} {s : State} {m : MethodId} {args : Array Value} {below : List Frame} {meth : Method} {c : Code} {D : va_G} {cA : Nat → ClassId} {ad : Nat → Nat} {A : Nat → Prop} (C : Cx p s m args c prog_14_method_62_code 10 "PollBooksModel" D cA ad 1 A) {Q : State → Prop} {o : (Int × Int × Int × Int × Dt) ⊕ ((Int × Dt) ⊕ (Dt))} (x1 x2 x3 x4 s0 : Int) (d : Dt) (hx1 : c32 x1) (hx2 : c32 x2) (hx3 : cb x3) (hx4 : c32 x4) (hs0 : cb s0) (h : L_Mo_holds_b144 x1 x2 x3 x4 s0 d = some o) (kb : ∀ (y0 y1 y2 y3 : Int) (e' : Dt), o = .inl (y0, y1, y2, y3, e') → c32 y0 → c32 y1 → cb y2 → c32 y3 → G p l e rm_Mo_holds s m args below meth c 0 0 Q 10 D cA ad 1 A 5 [(2, 0), (0, y0), (0, y1), (0, y2), (0, y3), (9, 0), (9, 0), (9, 0), (9, 0), (9, 0)] [] e') (k0 : ∀ (y0 : Int) (e' : Dt), o = .inr (Sum.inl (y0, e')) → cb y0 → G p l e rm_Mo_holds s m args below meth c 0 0 Q 10 D cA ad 1 A 174 [(9, 0), (9, 0), (9, 0), (0, y0), (9, 0), (9, 0), (9, 0), (9, 0), (9, 0), (9, 0)] [] e') (k1 : ∀ (e' : Dt), o = .inr (Sum.inr (e')) → G p l e rm_Mo_holds s m args below meth c 0 0 Q 10 D cA ad 1 A 31 [(9, 0), (9, 0), (9, 0), (9, 0), (9, 0), (9, 0), (9, 0), (9, 0), (9, 0), (9, 0)] [] e') : G p l e rm_Mo_holds s m args below meth c 0 0 Q 10 D cA ad 1 A 144 [(2, 0), (0, x1), (0, x2), (0, x3), (0, x4), (9, 0), (9, 0), (9, 0), (9, 0), (9, 0)] [(0, s0)] d := by
  unfold L_Mo_holds_b144 at h
  refine s_istore C 9 (lo' := [(2, 0), (0, x1), (0, x2), (0, x3), (0, x4), (9, 0), (9, 0), (9, 0), (9, 0), (0, s0)]) (by decide) (s1k (s1k (s1k (s1k (s1k (s1k (s1k (s1k (s1n (by decide) s1z))))))))) (by decide +kernel) ?_
  refine g_iload_n C 3 rfl (by decide +kernel) ?_
  refine g_if_eq C (off := 19) (tgt := 166) (c32_cb hx3) (by decide +kernel) (by decide) (fun hc1_ => ?_) (fun hc1_ => ?_)
  · replace h := ite_t hc1_ h
    refine g_iconst C 0 (cK rfl) (by decide +kernel) ?_
    refine g_sub (lo2 := [(2, 0), (0, x1), (0, x2), (9, 0), (0, x4), (9, 0), (9, 0), (9, 0), (9, 0), (9, 0)]) (lsb_v (lsb_v (lsb_v (lsb_c (lsb_v (lsb_c (lsb_c (lsb_c (lsb_c (lsb_c lsb_e)))))))))) ?_
    exact ok_Mo_holds_b167 C x1 x2 x4 0 d hx1 hx2 hx4 (Or.inl rfl) h kb k0 k1
  · replace h := ite_f hc1_ h
    refine g_iload C 9 rfl (by decide +kernel) ?_
    refine g_aload_n C 0 rfl (by decide +kernel) ?_
    refine g_getR C cl12 0 59 41 rfl cd_B0 ⟨by decide, rfl, by decide⟩ rfl rfl (nB (by decide)) (ix := 143) lk_1461 (by decide +kernel) ?_
    refine g_iload C 4 rfl (by decide +kernel) ?_
    obtain ⟨hb2_, h⟩ := ck_some h
    refine g_zald C 41 hx4 rfl cd_B41 (nB (by decide)) hb2_ (by decide +kernel) (fun hc3_ => ?_)
    refine g_icmp_eq C (off := 7) (tgt := 166) (c32_cb hs0) (c32_cb hc3_) (by decide +kernel) (by decide) (fun hc4_ => ?_) (fun hc4_ => ?_)
    · replace h := ite_t hc4_ h
      refine g_iconst C 0 (cK rfl) (by decide +kernel) ?_
      refine g_sub (lo2 := [(2, 0), (0, x1), (0, x2), (9, 0), (0, x4), (9, 0), (9, 0), (9, 0), (9, 0), (9, 0)]) (lsb_v (lsb_v (lsb_v (lsb_c (lsb_v (lsb_c (lsb_c (lsb_c (lsb_c (lsb_c lsb_e)))))))))) ?_
      exact ok_Mo_holds_b167 C x1 x2 x4 0 d hx1 hx2 hx4 (Or.inl rfl) h kb k0 k1
    · replace h := ite_f hc4_ h
      refine g_iconst C 1 (cK rfl) (by decide +kernel) ?_
      refine g_goto C 167 (off := 4) (by decide +kernel) (by decide) ?_
      refine g_sub (lo2 := [(2, 0), (0, x1), (0, x2), (9, 0), (0, x4), (9, 0), (9, 0), (9, 0), (9, 0), (9, 0)]) (lsb_v (lsb_v (lsb_v (lsb_c (lsb_v (lsb_c (lsb_c (lsb_c (lsb_c (lsb_c lsb_e)))))))))) ?_
      exact ok_Mo_holds_b167 C x1 x2 x4 1 d hx1 hx2 hx4 (Or.inr rfl) h kb k0 k1
set_option maxHeartbeats 4000000 in
theorem ok_Mo_holds_b35 {p : Program} {l : Launch} {e : Env} {s : State} {m : MethodId} {args : Array Value} {below : List Frame} {meth : Method} {c : Code} {D : va_G} {cA : Nat → ClassId} {ad : Nat → Nat} {A : Nat → Prop} (C : Cx p s m args c prog_14_method_62_code 10 "PollBooksModel" D cA ad 1 A) {Q : State → Prop} {o : (Int × Int × Int × Int × Dt) ⊕ ((Int × Dt) ⊕ (Dt))} (x1 x2 x3 x4 : Int) (d : Dt) (hx1 : c32 x1) (hx2 : c32 x2) (hx3 : cb x3) (hx4 : c32 x4) (h : L_Mo_holds_b35 x1 x2 x3 x4 d = some o) (kb : ∀ (y0 y1 y2 y3 : Int) (e' : Dt), o = .inl (y0, y1, y2, y3, e') → c32 y0 → c32 y1 → cb y2 → c32 y3 → G p l e rm_Mo_holds s m args below meth c 0 0 Q 10 D cA ad 1 A 5 [(2, 0), (0, y0), (0, y1), (0, y2), (0, y3), (9, 0), (9, 0), (9, 0), (9, 0), (9, 0)] [] e') (k0 : ∀ (y0 : Int) (e' : Dt), o = .inr (Sum.inl (y0, e')) → cb y0 → G p l e rm_Mo_holds s m args below meth c 0 0 Q 10 D cA ad 1 A 174 [(9, 0), (9, 0), (9, 0), (0, y0), (9, 0), (9, 0), (9, 0), (9, 0), (9, 0), (9, 0)] [] e') (k1 : ∀ (e' : Dt), o = .inr (Sum.inr (e')) → G p l e rm_Mo_holds s m args below meth c 0 0 Q 10 D cA ad 1 A 31 [(9, 0), (9, 0), (9, 0), (9, 0), (9, 0), (9, 0), (9, 0), (9, 0), (9, 0), (9, 0)] [] e') : G p l e rm_Mo_holds s m args below meth c 0 0 Q 10 D cA ad 1 A 35 [(2, 0), (0, x1), (0, x2), (0, x3), (0, x4), (9, 0), (9, 0), (9, 0), (9, 0), (9, 0)] [] d := by
  unfold L_Mo_holds_b35 at h
  refine g_aload_n C 0 rfl (by decide +kernel) ?_
  refine g_aload_n C 0 rfl (by decide +kernel) ?_
  refine g_getR C cl12 0 55 37 rfl cd_B0 ⟨by decide, rfl, by decide⟩ rfl rfl (nB (by decide)) (ix := 131) lk_1457 (by decide +kernel) ?_
  refine g_iload C 4 rfl (by decide +kernel) ?_
  obtain ⟨hb5_, h⟩ := ck_some h
  refine g_iald C 37 hx4 rfl cd_B37 (nB (by decide)) hb5_ (by decide +kernel) (fun hc6_ => ?_)
  refine g_aload_n C 0 rfl (by decide +kernel) ?_
  refine g_getR C cl12 0 56 38 rfl cd_B0 ⟨by decide, rfl, by decide⟩ rfl rfl (nB (by decide)) (ix := 134) lk_1458 (by decide +kernel) ?_
  refine g_iload C 4 rfl (by decide +kernel) ?_
  obtain ⟨hb7_, h⟩ := ck_some h
  refine g_iald C 38 hx4 rfl cd_B38 (nB (by decide)) hb7_ (by decide +kernel) (fun hc8_ => ?_)
  obtain ⟨r10_, d9_, hr11_, h⟩ := bd_some h
  refine g_callV C mw_Mo_work [(0, (d 37 x4.toNat)), (0, (d 38 x4.toNat))] 0 cl12 rfl (ok_Mo_work (d 37 x4.toNat) (d 38 x4.toNat) d hc6_ hc8_ hr11_) cd_B0 (by decide) (nB (by decide)) (ix := 484) lk_2037 lk_2039 lkp_92 ⟨rfl, rfl, Nat.le_of_ble_eq_true rfl, Nat.le_of_ble_eq_true rfl⟩ rfl (rest := []) rfl (Nat.le_of_ble_eq_true rfl) ⟨Nat.zero_le _, Nat.zero_le _⟩ (by decide +kernel) (fun _ hc12_ => ?_)
  replace hc12_ : c64 r10_ := hc12_
  refine g_st (st2 := [(1, r10_)]) rfl ?_
  refine s_lstore C 5 (lo' := [(2, 0), (0, x1), (0, x2), (0, x3), (0, x4), (1, r10_), (9, 0), (9, 0), (9, 0), (9, 0)]) (by decide) (s2k (s2k (s2k (s2k (s2n (by decide) s2z))))) (by decide +kernel) ?_
  refine g_aload_n C 0 rfl (by decide +kernel) ?_
  refine g_aload_n C 0 rfl (by decide +kernel) ?_
  refine g_getR C cl12 0 56 38 rfl cd_B0 ⟨by decide, rfl, by decide⟩ rfl rfl (nB (by decide)) (ix := 134) lk_1458 (by decide +kernel) ?_
  refine g_iload C 4 rfl (by decide +kernel) ?_
  obtain ⟨hb13_, h⟩ := ck_some h
  refine g_iald C 38 hx4 rfl cd_B38 (nB (by decide)) hb13_ (by decide +kernel) (fun hc14_ => ?_)
  refine g_aload_n C 0 rfl (by decide +kernel) ?_
  refine g_getR C cl12 0 57 39 rfl cd_B0 ⟨by decide, rfl, by decide⟩ rfl rfl (nB (by decide)) (ix := 137) lk_1459 (by decide +kernel) ?_
  refine g_iload C 4 rfl (by decide +kernel) ?_
  obtain ⟨hb15_, h⟩ := ck_some h
  refine g_iald C 39 hx4 rfl cd_B39 (nB (by decide)) hb15_ (by decide +kernel) (fun hc16_ => ?_)
  obtain ⟨r18_, d17_, hr19_, h⟩ := bd_some h
  refine g_callV C mw_Mo_work [(0, (d9_ 38 x4.toNat)), (0, (d9_ 39 x4.toNat))] 0 cl12 rfl (ok_Mo_work (d9_ 38 x4.toNat) (d9_ 39 x4.toNat) d9_ hc14_ hc16_ hr19_) cd_B0 (by decide) (nB (by decide)) (ix := 484) lk_2037 lk_2039 lkp_92 ⟨rfl, rfl, Nat.le_of_ble_eq_true rfl, Nat.le_of_ble_eq_true rfl⟩ rfl (rest := []) rfl (Nat.le_of_ble_eq_true rfl) ⟨Nat.zero_le _, Nat.zero_le _⟩ (by decide +kernel) (fun _ hc20_ => ?_)
  replace hc20_ : c64 r18_ := hc20_
  refine g_st (st2 := [(1, r18_)]) rfl ?_
  refine s_lstore C 7 (lo' := [(2, 0), (0, x1), (0, x2), (0, x3), (0, x4), (1, r10_), (9, 0), (1, r18_), (9, 0), (9, 0)]) (by decide) (s2k (s2k (s2k (s2k (s2k (s2k (s2n (by decide) s2z))))))) (by decide +kernel) ?_
  refine g_aload_n C 0 rfl (by decide +kernel) ?_
  refine g_getR C cl12 0 58 40 rfl cd_B0 ⟨by decide, rfl, by decide⟩ rfl rfl (nB (by decide)) (ix := 140) lk_1460 (by decide +kernel) ?_
  refine g_iload C 4 rfl (by decide +kernel) ?_
  obtain ⟨hb21_, h⟩ := ck_some h
  refine g_iald C 40 hx4 rfl cd_B40 (nB (by decide)) hb21_ (by decide +kernel) (fun hc22_ => ?_)
  refine g_bipush C 60 (by decide) (by decide +kernel) ?_
  refine g_icmp_ne C (off := 19) (tgt := 103) hc22_ (cK rfl) (by decide +kernel) (by decide) (fun hc23_ => ?_) (fun hc23_ => ?_)
  · replace h := ite_t hc23_ h
    refine g_lload C 5 rfl (by decide +kernel) ?_
    refine g_lload C 7 rfl (by decide +kernel) ?_
    refine g_lc_ge C (off := 7) (tgt := 99) hc12_ hc20_ (by decide +kernel) (by decide +kernel) (by decide) (fun hc24_ => ?_) (fun hc24_ => ?_)
    · replace h := ite_t hc24_ h
      refine g_iconst C 1 (cK rfl) (by decide +kernel) ?_
      refine g_goto C 144 (off := 48) (by decide +kernel) (by decide) ?_
      refine g_sub (lo2 := [(2, 0), (0, x1), (0, x2), (0, x3), (0, x4), (9, 0), (9, 0), (9, 0), (9, 0), (9, 0)]) (lsb_v (lsb_v (lsb_v (lsb_v (lsb_v (lsb_c (lsb_c (lsb_c (lsb_c (lsb_c lsb_e)))))))))) ?_
      exact ok_Mo_holds_b144 C x1 x2 x3 x4 1 d17_ hx1 hx2 hx3 hx4 (Or.inr rfl) h kb k0 k1
    · replace h := ite_f hc24_ h
      refine g_iconst C 0 (cK rfl) (by decide +kernel) ?_
      refine g_goto C 144 (off := 44) (by decide +kernel) (by decide) ?_
      refine g_sub (lo2 := [(2, 0), (0, x1), (0, x2), (0, x3), (0, x4), (9, 0), (9, 0), (9, 0), (9, 0), (9, 0)]) (lsb_v (lsb_v (lsb_v (lsb_v (lsb_v (lsb_c (lsb_c (lsb_c (lsb_c (lsb_c lsb_e)))))))))) ?_
      exact ok_Mo_holds_b144 C x1 x2 x3 x4 0 d17_ hx1 hx2 hx3 hx4 (Or.inl rfl) h kb k0 k1
  · replace h := ite_f hc23_ h
    refine g_aload_n C 0 rfl (by decide +kernel) ?_
    refine g_getR C cl12 0 58 40 rfl cd_B0 ⟨by decide, rfl, by decide⟩ rfl rfl (nB (by decide)) (ix := 140) lk_1460 (by decide +kernel) ?_
    refine g_iload C 4 rfl (by decide +kernel) ?_
    obtain ⟨hb25_, h⟩ := ck_some h
    refine g_iald C 40 hx4 rfl cd_B40 (nB (by decide)) hb25_ (by decide +kernel) (fun hc26_ => ?_)
    refine g_bipush C 62 (by decide) (by decide +kernel) ?_
    refine g_icmp_ne C (off := 19) (tgt := 131) hc26_ (cK rfl) (by decide +kernel) (by decide) (fun hc27_ => ?_) (fun hc27_ => ?_)
    · replace h := ite_t hc27_ h
      refine g_lload C 5 rfl (by decide +kernel) ?_
      refine g_lload C 7 rfl (by decide +kernel) ?_
      refine g_lc_le C (off := 7) (tgt := 127) hc12_ hc20_ (by decide +kernel) (by decide +kernel) (by decide) (fun hc28_ => ?_) (fun hc28_ => ?_)
      · replace h := ite_t hc28_ h
        refine g_iconst C 1 (cK rfl) (by decide +kernel) ?_
        refine g_goto C 144 (off := 20) (by decide +kernel) (by decide) ?_
        refine g_sub (lo2 := [(2, 0), (0, x1), (0, x2), (0, x3), (0, x4), (9, 0), (9, 0), (9, 0), (9, 0), (9, 0)]) (lsb_v (lsb_v (lsb_v (lsb_v (lsb_v (lsb_c (lsb_c (lsb_c (lsb_c (lsb_c lsb_e)))))))))) ?_
        exact ok_Mo_holds_b144 C x1 x2 x3 x4 1 d17_ hx1 hx2 hx3 hx4 (Or.inr rfl) h kb k0 k1
      · replace h := ite_f hc28_ h
        refine g_iconst C 0 (cK rfl) (by decide +kernel) ?_
        refine g_goto C 144 (off := 16) (by decide +kernel) (by decide) ?_
        refine g_sub (lo2 := [(2, 0), (0, x1), (0, x2), (0, x3), (0, x4), (9, 0), (9, 0), (9, 0), (9, 0), (9, 0)]) (lsb_v (lsb_v (lsb_v (lsb_v (lsb_v (lsb_c (lsb_c (lsb_c (lsb_c (lsb_c lsb_e)))))))))) ?_
        exact ok_Mo_holds_b144 C x1 x2 x3 x4 0 d17_ hx1 hx2 hx3 hx4 (Or.inl rfl) h kb k0 k1
    · replace h := ite_f hc27_ h
      refine g_lload C 5 rfl (by decide +kernel) ?_
      refine g_lload C 7 rfl (by decide +kernel) ?_
      refine g_lc_ne C (off := 7) (tgt := 143) hc12_ hc20_ (by decide +kernel) (by decide +kernel) (by decide) (fun hc29_ => ?_) (fun hc29_ => ?_)
      · replace h := ite_t hc29_ h
        refine g_iconst C 1 (cK rfl) (by decide +kernel) ?_
        refine g_goto C 144 (off := 4) (by decide +kernel) (by decide) ?_
        refine g_sub (lo2 := [(2, 0), (0, x1), (0, x2), (0, x3), (0, x4), (9, 0), (9, 0), (9, 0), (9, 0), (9, 0)]) (lsb_v (lsb_v (lsb_v (lsb_v (lsb_v (lsb_c (lsb_c (lsb_c (lsb_c (lsb_c lsb_e)))))))))) ?_
        exact ok_Mo_holds_b144 C x1 x2 x3 x4 1 d17_ hx1 hx2 hx3 hx4 (Or.inr rfl) h kb k0 k1
      · replace h := ite_f hc29_ h
        refine g_iconst C 0 (cK rfl) (by decide +kernel) ?_
        refine g_sub (lo2 := [(2, 0), (0, x1), (0, x2), (0, x3), (0, x4), (9, 0), (9, 0), (9, 0), (9, 0), (9, 0)]) (lsb_v (lsb_v (lsb_v (lsb_v (lsb_v (lsb_c (lsb_c (lsb_c (lsb_c (lsb_c lsb_e)))))))))) ?_
        exact ok_Mo_holds_b144 C x1 x2 x3 x4 0 d17_ hx1 hx2 hx3 hx4 (Or.inl rfl) h kb k0 k1
set_option maxHeartbeats 4000000 in
theorem ok_Mo_holds_y5 {p : Program} {l : Launch} {e : Env} {s : State} {m : MethodId} {args : Array Value} {below : List Frame} {meth : Method} {c : Code} {D : va_G} {cA : Nat → ClassId} {ad : Nat → Nat} {A : Nat → Prop} (C : Cx p s m args c prog_14_method_62_code 10 "PollBooksModel" D cA ad 1 A) {Q : State → Prop} {o : (Int × Int × Int × Int × Dt) ⊕ ((Int × Dt) ⊕ (Dt))} (x1 x2 x3 x4 : Int) (d : Dt) (hx1 : c32 x1) (hx2 : c32 x2) (hx3 : cb x3) (hx4 : c32 x4) (h : L_Mo_holds_y5 x1 x2 x3 x4 d = some o) (kb : ∀ (y0 y1 y2 y3 : Int) (e' : Dt), o = .inl (y0, y1, y2, y3, e') → c32 y0 → c32 y1 → cb y2 → c32 y3 → G p l e rm_Mo_holds s m args below meth c 0 0 Q 10 D cA ad 1 A 5 [(2, 0), (0, y0), (0, y1), (0, y2), (0, y3), (9, 0), (9, 0), (9, 0), (9, 0), (9, 0)] [] e') (k0 : ∀ (y0 : Int) (e' : Dt), o = .inr (Sum.inl (y0, e')) → cb y0 → G p l e rm_Mo_holds s m args below meth c 0 0 Q 10 D cA ad 1 A 174 [(9, 0), (9, 0), (9, 0), (0, y0), (9, 0), (9, 0), (9, 0), (9, 0), (9, 0), (9, 0)] [] e') (k1 : ∀ (e' : Dt), o = .inr (Sum.inr (e')) → G p l e rm_Mo_holds s m args below meth c 0 0 Q 10 D cA ad 1 A 31 [(9, 0), (9, 0), (9, 0), (9, 0), (9, 0), (9, 0), (9, 0), (9, 0), (9, 0), (9, 0)] [] e') : G p l e rm_Mo_holds s m args below meth c 0 0 Q 10 D cA ad 1 A 5 [(2, 0), (0, x1), (0, x2), (0, x3), (0, x4), (9, 0), (9, 0), (9, 0), (9, 0), (9, 0)] [] d := by
  unfold L_Mo_holds_y5 at h
  refine g_iload C 4 rfl (by decide +kernel) ?_
  refine g_iload_n C 2 rfl (by decide +kernel) ?_
  refine g_icmp_ge C (off := 166) (tgt := 174) hx4 hx2 (by decide +kernel) (by decide) (fun hc30_ => ?_) (fun hc30_ => ?_)
  · replace h := ite_t hc30_ h
    refine g_aload_n C 0 rfl (by decide +kernel) ?_
    refine g_getR C cl12 0 60 42 rfl cd_B0 ⟨by decide, rfl, by decide⟩ rfl rfl (nB (by decide)) (ix := 146) lk_1462 (by decide +kernel) ?_
    refine g_iload C 4 rfl (by decide +kernel) ?_
    obtain ⟨hb31_, h⟩ := ck_some h
    refine g_zald C 42 hx4 rfl cd_B42 (nB (by decide)) hb31_ (by decide +kernel) (fun hc32_ => ?_)
    refine g_if_eq C (off := 17) (tgt := 35) (c32_cb hc32_) (by decide +kernel) (by decide) (fun hc33_ => ?_) (fun hc33_ => ?_)
    · replace h := ite_t hc33_ h
      refine g_sub (lo2 := [(2, 0), (0, x1), (0, x2), (0, x3), (0, x4), (9, 0), (9, 0), (9, 0), (9, 0), (9, 0)]) (lsb_v (lsb_v (lsb_v (lsb_v (lsb_v (lsb_c (lsb_c (lsb_c (lsb_c (lsb_c lsb_e)))))))))) ?_
      exact ok_Mo_holds_b35 C x1 x2 x3 x4 d hx1 hx2 hx3 hx4 h kb k0 k1
    · replace h := ite_f hc33_ h
      refine g_iload C 4 rfl (by decide +kernel) ?_
      refine g_iload_n C 1 rfl (by decide +kernel) ?_
      refine g_icmp_le C (off := 11) (tgt := 35) hx4 hx1 (by decide +kernel) (by decide) (fun hc34_ => ?_) (fun hc34_ => ?_)
      · replace h := ite_t hc34_ h
        refine g_iload_n C 3 rfl (by decide +kernel) ?_
        refine g_if_eq C (off := 5) (tgt := 33) (c32_cb hx3) (by decide +kernel) (by decide) (fun hc35_ => ?_) (fun hc35_ => ?_)
        · replace h := ite_t hc35_ h
          refine g_iconst C 1 (cK rfl) (by decide +kernel) ?_
          refine s_istore_n C 3 (lo' := [(2, 0), (0, x1), (0, x2), (0, 1), (0, x4), (9, 0), (9, 0), (9, 0), (9, 0), (9, 0)]) (by decide) (s1k (s1k (s1n (by decide) s1z))) (by decide +kernel) ?_
          refine g_sub (lo2 := [(2, 0), (0, x1), (0, x2), (0, 1), (0, x4), (9, 0), (9, 0), (9, 0), (9, 0), (9, 0)]) (lsb_v (lsb_v (lsb_v (lsb_v (lsb_v (lsb_c (lsb_c (lsb_c (lsb_c (lsb_c lsb_e)))))))))) ?_
          exact ok_Mo_holds_b35 C x1 x2 1 x4 d hx1 hx2 (Or.inr rfl) hx4 h kb k0 k1
        · replace h := ite_f hc35_ h
          refine g_sub (lo2 := [(9, 0), (9, 0), (9, 0), (9, 0), (9, 0), (9, 0), (9, 0), (9, 0), (9, 0), (9, 0)]) (lsb_c (lsb_c (lsb_c (lsb_c (lsb_c (lsb_c (lsb_c (lsb_c (lsb_c (lsb_c lsb_e)))))))))) ?_
          obtain rfl := Option.some.inj h
          exact k1 d rfl 
      · replace h := ite_f hc34_ h
        refine g_sub (lo2 := [(2, 0), (0, x1), (0, x2), (0, x3), (0, x4), (9, 0), (9, 0), (9, 0), (9, 0), (9, 0)]) (lsb_v (lsb_v (lsb_v (lsb_v (lsb_v (lsb_c (lsb_c (lsb_c (lsb_c (lsb_c lsb_e)))))))))) ?_
        exact ok_Mo_holds_b35 C x1 x2 x3 x4 d hx1 hx2 hx3 hx4 h kb k0 k1
  · replace h := ite_f hc30_ h
    refine g_sub (lo2 := [(9, 0), (9, 0), (9, 0), (0, x3), (9, 0), (9, 0), (9, 0), (9, 0), (9, 0), (9, 0)]) (lsb_c (lsb_c (lsb_c (lsb_v (lsb_c (lsb_c (lsb_c (lsb_c (lsb_c (lsb_c lsb_e)))))))))) ?_
    obtain rfl := Option.some.inj h
    exact k0 x3 d rfl hx3
set_option maxHeartbeats 4000000 in
theorem ok_Mo_holds_n5 {p : Program} {l : Launch} {e : Env} {s : State} {m : MethodId} {args : Array Value} {below : List Frame} {meth : Method} {c : Code} {D : va_G} {cA : Nat → ClassId} {ad : Nat → Nat} {A : Nat → Prop} (C : Cx p s m args c prog_14_method_62_code 10 "PollBooksModel" D cA ad 1 A) {Q : State → Prop} {x : (Int × Dt) ⊕ (Dt)} : ∀ (n : Nat) (x1 x2 x3 x4 : Int) (d : Dt), c32 x1 → c32 x2 → cb x3 → c32 x4 → lpF (fun q : Int × Int × Int × Int × Dt => L_Mo_holds_y5 q.1 q.2.1 q.2.2.1 q.2.2.2.1 q.2.2.2.2) n (x1, x2, x3, x4, d) = some x → (∀ (y0 : Int) (e' : Dt), x = (Sum.inl (y0, e')) → cb y0 → G p l e rm_Mo_holds s m args below meth c 0 0 Q 10 D cA ad 1 A 174 [(9, 0), (9, 0), (9, 0), (0, y0), (9, 0), (9, 0), (9, 0), (9, 0), (9, 0), (9, 0)] [] e') → (∀ (e' : Dt), x = (Sum.inr (e')) → G p l e rm_Mo_holds s m args below meth c 0 0 Q 10 D cA ad 1 A 31 [(9, 0), (9, 0), (9, 0), (9, 0), (9, 0), (9, 0), (9, 0), (9, 0), (9, 0), (9, 0)] [] e') → G p l e rm_Mo_holds s m args below meth c 0 0 Q 10 D cA ad 1 A 5 [(2, 0), (0, x1), (0, x2), (0, x3), (0, x4), (9, 0), (9, 0), (9, 0), (9, 0), (9, 0)] [] d := by
  intro n
  induction n with
  | zero => intro x1 x2 x3 x4 d g0 g1 g2 g3 h k0 k1; cases h
  | succ n ih =>
    intro x1 x2 x3 x4 d g0 g1 g2 g3 h k0 k1
    rcases lpF_some h with h | ⟨⟨v0_, v1_, v2_, v3_, e0_⟩, h1, h⟩
    · exact ok_Mo_holds_y5 C x1 x2 x3 x4 d g0 g1 g2 g3 h (fun z0_ z1_ z2_ z3_ e1_ eq w0_ w1_ w2_ w3_ => by cases eq) (fun z0_ e1_ eq w0_ => k0 _ _ (by cases eq; rfl) w0_) (fun e1_ eq => k1 _ (by cases eq; rfl) )
    · exact ok_Mo_holds_y5 C x1 x2 x3 x4 d g0 g1 g2 g3 h1 (fun z0_ z1_ z2_ z3_ e1_ eq w0_ w1_ w2_ w3_ => by cases eq; exact ih _ _ _ _ _ w0_ w1_ w2_ w3_ h k0 k1) (fun z0_ e1_ eq w0_ => by cases eq) (fun e1_ eq => by cases eq)
set_option maxHeartbeats 4000000 in
theorem ok_Mo_holds_l5 {p : Program} {l : Launch} {e : Env} {s : State} {m : MethodId} {args : Array Value} {below : List Frame} {meth : Method} {c : Code} {D : va_G} {cA : Nat → ClassId} {ad : Nat → Nat} {A : Nat → Prop} (C : Cx p s m args c prog_14_method_62_code 10 "PollBooksModel" D cA ad 1 A) {Q : State → Prop} {x : (Int × Dt) ⊕ (Dt)} (x1 x2 x3 x4 : Int) (d : Dt) (hx1 : c32 x1) (hx2 : c32 x2) (hx3 : cb x3) (hx4 : c32 x4) (h : L_Mo_holds_l5 x1 x2 x3 x4 d = some x) (k0 : ∀ (y0 : Int) (e' : Dt), x = (Sum.inl (y0, e')) → cb y0 → G p l e rm_Mo_holds s m args below meth c 0 0 Q 10 D cA ad 1 A 174 [(9, 0), (9, 0), (9, 0), (0, y0), (9, 0), (9, 0), (9, 0), (9, 0), (9, 0), (9, 0)] [] e') (k1 : ∀ (e' : Dt), x = (Sum.inr (e')) → G p l e rm_Mo_holds s m args below meth c 0 0 Q 10 D cA ad 1 A 31 [(9, 0), (9, 0), (9, 0), (9, 0), (9, 0), (9, 0), (9, 0), (9, 0), (9, 0), (9, 0)] [] e') : G p l e rm_Mo_holds s m args below meth c 0 0 Q 10 D cA ad 1 A 5 [(2, 0), (0, x1), (0, x2), (0, x3), (0, x4), (9, 0), (9, 0), (9, 0), (9, 0), (9, 0)] [] d :=
  ok_Mo_holds_n5 C FU x1 x2 x3 x4 d hx1 hx2 hx3 hx4 h k0 k1
set_option maxHeartbeats 4000000 in
theorem ok_Mo_holds {l : Launch} {r : Int} {d' : Dt} (p1 p2 : Int) (d : Dt) (hp1 : c32 p1) (hp2 : c32 p2) (h : L_Mo_holds p1 p2 d = some (r, d')) : MC l y_Mo_holds prog_14_method_62_code 10 (some .boolean) rm_Mo_holds 1 [(2, 0), (0, p1), (0, p2)] d (some (0, r)) d' := by
  refine MC.of (by decide) (Nat.le_of_ble_eq_true rfl) ?_
  intro p e s m args below meth c D cA ad A C hlk hr
  replace C : Cx p s m args c prog_14_method_62_code 10 "PollBooksModel" D cA ad 1 A := C
  show G p l e rm_Mo_holds s m args below meth c 0 0 (MQ below (fun _ => QC D cA ad 1 A (some .boolean) (some (0, r)) d') args s 0 0 A) 10 D cA ad 1 A 0 [(2, 0), (0, p1), (0, p2)] [] d
  refine g_sub (lo2 := [(2, 0), (0, p1), (0, p2), (9, 0), (9, 0), (9, 0), (9, 0), (9, 0), (9, 0), (9, 0)]) (lsb_v (lsb_v (lsb_v (lsb_n (lsb_n (lsb_n (lsb_n (lsb_n (lsb_n (lsb_n lsb_e)))))))))) ?_
  unfold L_Mo_holds at h
  refine g_iconst C 1 (cK rfl) (by decide +kernel) ?_
  refine s_istore_n C 3 (lo' := [(2, 0), (0, p1), (0, p2), (0, 1), (9, 0), (9, 0), (9, 0), (9, 0), (9, 0), (9, 0)]) (by decide) (s1k (s1k (s1n (by decide) s1z))) (by decide +kernel) ?_
  refine g_iload_n C 1 rfl (by decide +kernel) ?_
  refine s_istore C 4 (lo' := [(2, 0), (0, p1), (0, p2), (0, 1), (0, p1), (9, 0), (9, 0), (9, 0), (9, 0), (9, 0)]) (by decide) (s1k (s1k (s1k (s1n (by decide) s1z)))) (by decide +kernel) ?_
  refine g_sub (lo2 := [(2, 0), (0, p1), (0, p2), (0, 1), (0, p1), (9, 0), (9, 0), (9, 0), (9, 0), (9, 0)]) (lsb_v (lsb_v (lsb_v (lsb_v (lsb_v (lsb_c (lsb_c (lsb_c (lsb_c (lsb_c lsb_e)))))))))) ?_
  obtain ⟨x36_, hx37_, h⟩ := lb_some h
  refine ok_Mo_holds_l5 C p1 p2 1 p1 d hp1 hp2 (Or.inr rfl) hp1 hx37_ (fun v38_ d39_ eq40_ hv38_ => ?_) (fun d41_ eq42_ => ?_)
  · subst eq40_
    replace h := sml_e h
    replace h := u1_e h
    refine g_iload_n C 3 rfl (by decide +kernel) ?_
    obtain ⟨rfl, rfl⟩ := ret_inj h
    exact g_zret C hv38_ hlk hr (by decide +kernel)
  · subst eq42_
    replace h := smr_e h
    replace h := u0_e h
    refine g_iconst C 1 (cK rfl) (by decide +kernel) ?_
    obtain ⟨rfl, rfl⟩ := ret_inj h
    exact g_zret C (Or.inr rfl) hlk hr (by decide +kernel)
/-! PollBooksModel.doesHold(I)Z -/
def y_Mo_doesHold : MethodName := ⟨"PollBooksModel", "doesHold", "(I)Z"⟩
def rm_Mo_doesHold : Room := { frames := 2, cells := 0, slots := 0, locals := 58 }
theorem mw_Mo_doesHold : MW y_Mo_doesHold prog_14_method_63_code 2 (some .boolean) 1 := ⟨lk_2032, lk_14, by decide +kernel⟩
def L_Mo_doesHold (p1 : Int) (d : Dt) : Option (Int × Dt) :=
  ck ((0 : Int) ≤ p1 ∧ p1 < 120) (ck ((0 : Int) ≤ p1 ∧ p1 < 120) (bd (L_Mo_holds (d 32 p1.toNat) (d 33 p1.toNat) d) (fun r6_ d5_ => if r6_ = 0 then some (0, d5_) else ck ((0 : Int) ≤ p1 ∧ p1 < 120) (ck ((0 : Int) ≤ p1 ∧ p1 < 120) (if (d5_ 34 p1.toNat) = (d5_ 33 p1.toNat) then some (1, d5_) else ck ((0 : Int) ≤ p1 ∧ p1 < 120) (ck ((0 : Int) ≤ p1 ∧ p1 < 120) (bd (L_Mo_holds (d5_ 33 p1.toNat) (d5_ 34 p1.toNat) d5_) (fun r20_ d19_ => if r20_ = 0 then some (1, d19_) else some (0, d19_)))))))))
set_option maxHeartbeats 4000000 in
theorem ok_Mo_doesHold {l : Launch} {r : Int} {d' : Dt} (p1 : Int) (d : Dt) (hp1 : c32 p1) (h : L_Mo_doesHold p1 d = some (r, d')) : MC l y_Mo_doesHold prog_14_method_63_code 2 (some .boolean) rm_Mo_doesHold 1 [(2, 0), (0, p1)] d (some (0, r)) d' := by
  refine MC.of (by decide) (Nat.le_of_ble_eq_true rfl) ?_
  intro p e s m args below meth c D cA ad A C hlk hr
  replace C : Cx p s m args c prog_14_method_63_code 2 "PollBooksModel" D cA ad 1 A := C
  show G p l e rm_Mo_doesHold s m args below meth c 0 0 (MQ below (fun _ => QC D cA ad 1 A (some .boolean) (some (0, r)) d') args s 0 0 A) 2 D cA ad 1 A 0 [(2, 0), (0, p1)] [] d
  refine g_sub (lo2 := [(2, 0), (0, p1)]) (lsb_v (lsb_v lsb_e)) ?_
  unfold L_Mo_doesHold at h
  refine g_aload_n C 0 rfl (by decide +kernel) ?_
  refine g_aload_n C 0 rfl (by decide +kernel) ?_
  refine g_getR C cl12 0 50 32 rfl cd_B0 ⟨by decide, rfl, by decide⟩ rfl rfl (nB (by decide)) (ix := 116) lk_1452 (by decide +kernel) ?_
  refine g_iload_n C 1 rfl (by decide +kernel) ?_
  obtain ⟨hb1_, h⟩ := ck_some h
  refine g_iald C 32 hp1 rfl cd_B32 (nB (by decide)) hb1_ (by decide +kernel) (fun hc2_ => ?_)
  refine g_aload_n C 0 rfl (by decide +kernel) ?_
  refine g_getR C cl12 0 51 33 rfl cd_B0 ⟨by decide, rfl, by decide⟩ rfl rfl (nB (by decide)) (ix := 119) lk_1453 (by decide +kernel) ?_
  refine g_iload_n C 1 rfl (by decide +kernel) ?_
  obtain ⟨hb3_, h⟩ := ck_some h
  refine g_iald C 33 hp1 rfl cd_B33 (nB (by decide)) hb3_ (by decide +kernel) (fun hc4_ => ?_)
  obtain ⟨r6_, d5_, hr7_, h⟩ := bd_some h
  refine g_callV C mw_Mo_holds [(0, (d 32 p1.toNat)), (0, (d 33 p1.toNat))] 0 cl12 rfl (ok_Mo_holds (d 32 p1.toNat) (d 33 p1.toNat) d hc2_ hc4_ hr7_) cd_B0 (by decide) (nB (by decide)) (ix := 488) lk_2033 lk_2035 lkp_91 ⟨rfl, rfl, Nat.le_of_ble_eq_true rfl, Nat.le_of_ble_eq_true rfl⟩ rfl (rest := []) rfl (Nat.le_of_ble_eq_true rfl) ⟨Nat.zero_le _, Nat.zero_le _⟩ (by decide +kernel) (fun _ hc8_ => ?_)
  replace hc8_ : cb r6_ := hc8_
  refine g_st (st2 := [(0, r6_)]) rfl ?_
  refine g_if_eq C (off := 41) (tgt := 57) (c32_cb hc8_) (by decide +kernel) (by decide) (fun hc9_ => ?_) (fun hc9_ => ?_)
  · replace h := ite_t hc9_ h
    refine g_iconst C 0 (cK rfl) (by decide +kernel) ?_
    obtain ⟨rfl, rfl⟩ := ret_inj h
    exact g_zret C (Or.inl rfl) hlk hr (by decide +kernel)
  · replace h := ite_f hc9_ h
    refine g_aload_n C 0 rfl (by decide +kernel) ?_
    refine g_getR C cl12 0 52 34 rfl cd_B0 ⟨by decide, rfl, by decide⟩ rfl rfl (nB (by decide)) (ix := 122) lk_1454 (by decide +kernel) ?_
    refine g_iload_n C 1 rfl (by decide +kernel) ?_
    obtain ⟨hb10_, h⟩ := ck_some h
    refine g_iald C 34 hp1 rfl cd_B34 (nB (by decide)) hb10_ (by decide +kernel) (fun hc11_ => ?_)
    refine g_aload_n C 0 rfl (by decide +kernel) ?_
    refine g_getR C cl12 0 51 33 rfl cd_B0 ⟨by decide, rfl, by decide⟩ rfl rfl (nB (by decide)) (ix := 119) lk_1453 (by decide +kernel) ?_
    refine g_iload_n C 1 rfl (by decide +kernel) ?_
    obtain ⟨hb12_, h⟩ := ck_some h
    refine g_iald C 33 hp1 rfl cd_B33 (nB (by decide)) hb12_ (by decide +kernel) (fun hc13_ => ?_)
    refine g_icmp_eq C (off := 22) (tgt := 53) hc11_ hc13_ (by decide +kernel) (by decide) (fun hc14_ => ?_) (fun hc14_ => ?_)
    · replace h := ite_t hc14_ h
      refine g_iconst C 1 (cK rfl) (by decide +kernel) ?_
      refine g_goto C 58 (off := 4) (by decide +kernel) (by decide) ?_
      obtain ⟨rfl, rfl⟩ := ret_inj h
      exact g_zret C (Or.inr rfl) hlk hr (by decide +kernel)
    · replace h := ite_f hc14_ h
      refine g_aload_n C 0 rfl (by decide +kernel) ?_
      refine g_aload_n C 0 rfl (by decide +kernel) ?_
      refine g_getR C cl12 0 51 33 rfl cd_B0 ⟨by decide, rfl, by decide⟩ rfl rfl (nB (by decide)) (ix := 119) lk_1453 (by decide +kernel) ?_
      refine g_iload_n C 1 rfl (by decide +kernel) ?_
      obtain ⟨hb15_, h⟩ := ck_some h
      refine g_iald C 33 hp1 rfl cd_B33 (nB (by decide)) hb15_ (by decide +kernel) (fun hc16_ => ?_)
      refine g_aload_n C 0 rfl (by decide +kernel) ?_
      refine g_getR C cl12 0 52 34 rfl cd_B0 ⟨by decide, rfl, by decide⟩ rfl rfl (nB (by decide)) (ix := 122) lk_1454 (by decide +kernel) ?_
      refine g_iload_n C 1 rfl (by decide +kernel) ?_
      obtain ⟨hb17_, h⟩ := ck_some h
      refine g_iald C 34 hp1 rfl cd_B34 (nB (by decide)) hb17_ (by decide +kernel) (fun hc18_ => ?_)
      obtain ⟨r20_, d19_, hr21_, h⟩ := bd_some h
      refine g_callV C mw_Mo_holds [(0, (d5_ 33 p1.toNat)), (0, (d5_ 34 p1.toNat))] 0 cl12 rfl (ok_Mo_holds (d5_ 33 p1.toNat) (d5_ 34 p1.toNat) d5_ hc16_ hc18_ hr21_) cd_B0 (by decide) (nB (by decide)) (ix := 488) lk_2033 lk_2035 lkp_91 ⟨rfl, rfl, Nat.le_of_ble_eq_true rfl, Nat.le_of_ble_eq_true rfl⟩ rfl (rest := []) rfl (Nat.le_of_ble_eq_true rfl) ⟨Nat.zero_le _, Nat.zero_le _⟩ (by decide +kernel) (fun _ hc22_ => ?_)
      replace hc22_ : cb r20_ := hc22_
      refine g_st (st2 := [(0, r20_)]) rfl ?_
      refine g_if_ne C (off := 7) (tgt := 57) (c32_cb hc22_) (by decide +kernel) (by decide) (fun hc23_ => ?_) (fun hc23_ => ?_)
      · replace h := ite_t hc23_ h
        refine g_iconst C 1 (cK rfl) (by decide +kernel) ?_
        refine g_goto C 58 (off := 4) (by decide +kernel) (by decide) ?_
        obtain ⟨rfl, rfl⟩ := ret_inj h
        exact g_zret C (Or.inr rfl) hlk hr (by decide +kernel)
      · replace h := ite_f hc23_ h
        refine g_iconst C 0 (cK rfl) (by decide +kernel) ?_
        obtain ⟨rfl, rfl⟩ := ret_inj h
        exact g_zret C (Or.inl rfl) hlk hr (by decide +kernel)
/-! PollBooksModel.firstOf(I)I -/
def y_Mo_firstOf : MethodName := ⟨"PollBooksModel", "firstOf", "(I)I"⟩
def rm_Mo_firstOf : Room := { frames := 3, cells := 0, slots := 0, locals := 79 }
theorem mw_Mo_firstOf : MW y_Mo_firstOf prog_14_method_65_code 3 (some .int) 1 := ⟨lk_2028, lk_14, by decide +kernel⟩
def L_Mo_firstOf_b49 (x1 x2 : Int) (d : Dt) : Option ((Int × Int × Dt) ⊕ ((Dt) ⊕ (Int × Dt))) :=
  some (Sum.inl (x1, (w32 (x2 + 1)), d))
def L_Mo_firstOf_y2 (x1 x2 : Int) (d : Dt) : Option ((Int × Int × Dt) ⊕ ((Dt) ⊕ (Int × Dt))) :=
  if x2 < (d 0 68) then ck ((0 : Int) ≤ x2 ∧ x2 < 100) (if (d 49 x2.toNat) = 0 then ck ((0 : Int) ≤ x2 ∧ x2 < 100) (ck ((0 : Int) ≤ (d 47 x2.toNat) ∧ (d 47 x2.toNat) < 120) (if (d 29 ((d 47 x2.toNat)).toNat) = x1 then ck ((0 : Int) ≤ x2 ∧ x2 < 100) (bd (L_Mo_doesHold (d 47 x2.toNat) d) (fun r14_ d13_ => if r14_ = 0 then L_Mo_firstOf_b49 x1 x2 d13_ else some (Sum.inr (Sum.inr (x2, d13_))))) else L_Mo_firstOf_b49 x1 x2 d)) else L_Mo_firstOf_b49 x1 x2 d) else some (Sum.inr (Sum.inl (d)))
def L_Mo_firstOf_l2 (x1 x2 : Int) (d : Dt) : Option ((Dt) ⊕ (Int × Dt)) := lpF (fun q : Int × Int × Dt => L_Mo_firstOf_y2 q.1 q.2.1 q.2.2) FU (x1, x2, d)
def L_Mo_firstOf (p1 : Int) (d : Dt) : Option (Int × Dt) :=
  lb (L_Mo_firstOf_l2 p1 0 d) (fun q25_ => sm q25_ (fun q26_ => u0 q26_ (fun d20_ => some ((-1), d20_))) (fun q27_ => u1 q27_ (fun v22_ d23_ => some (v22_, d23_))))
set_option maxHeartbeats 4000000 in
theorem ok_Mo_firstOf_b49 {p : Program} {l : Launch} {e : Env} {s : State} {m : MethodId} {args : Array Value} {below : List Frame} {meth : Method} {c : Code} {D : va_G} {cA : Nat → ClassId} {ad : Nat → Nat} {A : Nat → Prop} (C : Cx p s m args c prog_14_method_65_code 3 "PollBooksModel" D cA ad 1 A) {Q : State → Prop} {o : (Int × Int × Dt) ⊕ ((Dt) ⊕ (Int × Dt))} (x1 x2 : Int) (d : Dt) (hx1 : c32 x1) (hx2 : c32 x2) (h : L_Mo_firstOf_b49 x1 x2 d = some o) (kb : ∀ (y0 y1 : Int) (e' : Dt), o = .inl (y0, y1, e') → c32 y0 → c32 y1 → G p l e rm_Mo_firstOf s m args below meth c 0 0 Q 3 D cA ad 1 A 2 [(2, 0), (0, y0), (0, y1)] [] e') (k0 : ∀ (e' : Dt), o = .inr (Sum.inl (e')) → G p l e rm_Mo_firstOf s m args below meth c 0 0 Q 3 D cA ad 1 A 55 [(9, 0), (9, 0), (9, 0)] [] e') (k1 : ∀ (y0 : Int) (e' : Dt), o = .inr (Sum.inr (y0, e')) → c32 y0 → G p l e rm_Mo_firstOf s m args below meth c 0 0 Q 3 D cA ad 1 A 47 [(9, 0), (9, 0), (0, y0)] [] e') : G p l e rm_Mo_firstOf s m args below meth c 0 0 Q 3 D cA ad 1 A 49 [(2, 0), (0, x1), (0, x2)] [] d := by
  unfold L_Mo_firstOf_b49 at h
  refine s_iinc C 2 1 (lo' := [(2, 0), (0, x1), (0, (w32 (x2 + 1)))]) rfl (by decide) (s1k (s1n (by decide) s1z)) (by decide +kernel) ?_
  refine g_goto C 2 (off := (-50)) (by decide +kernel) (by decide) ?_
  refine g_sub (lo2 := [(2, 0), (0, x1), (0, (w32 (x2 + 1)))]) (lsb_v (lsb_v (lsb_v lsb_e))) ?_
  obtain rfl := Option.some.inj h
  exact kb x1 (w32 (x2 + 1)) d rfl hx1 (w32_c _)
set_option maxHeartbeats 4000000 in
theorem ok_Mo_firstOf_y2 {p : Program} {l : Launch} {e : Env} {s : State} {m : MethodId} {args : Array Value} {below : List Frame} {meth : Method} {c : Code} {D : va_G} {cA : Nat → ClassId} {ad : Nat → Nat} {A : Nat → Prop} (C : Cx p s m args c prog_14_method_65_code 3 "PollBooksModel" D cA ad 1 A) {Q : State → Prop} {o : (Int × Int × Dt) ⊕ ((Dt) ⊕ (Int × Dt))} (x1 x2 : Int) (d : Dt) (hx1 : c32 x1) (hx2 : c32 x2) (h : L_Mo_firstOf_y2 x1 x2 d = some o) (kb : ∀ (y0 y1 : Int) (e' : Dt), o = .inl (y0, y1, e') → c32 y0 → c32 y1 → G p l e rm_Mo_firstOf s m args below meth c 0 0 Q 3 D cA ad 1 A 2 [(2, 0), (0, y0), (0, y1)] [] e') (k0 : ∀ (e' : Dt), o = .inr (Sum.inl (e')) → G p l e rm_Mo_firstOf s m args below meth c 0 0 Q 3 D cA ad 1 A 55 [(9, 0), (9, 0), (9, 0)] [] e') (k1 : ∀ (y0 : Int) (e' : Dt), o = .inr (Sum.inr (y0, e')) → c32 y0 → G p l e rm_Mo_firstOf s m args below meth c 0 0 Q 3 D cA ad 1 A 47 [(9, 0), (9, 0), (0, y0)] [] e') : G p l e rm_Mo_firstOf s m args below meth c 0 0 Q 3 D cA ad 1 A 2 [(2, 0), (0, x1), (0, x2)] [] d := by
  unfold L_Mo_firstOf_y2 at h
  refine g_iload_n C 2 rfl (by decide +kernel) ?_
  refine g_aload_n C 0 rfl (by decide +kernel) ?_
  refine g_getI C cl12 0 68 rfl cd_B0 ⟨by decide, rfl, by decide⟩ rfl (nB (by decide)) (ix := 478) lk_1470 (by decide +kernel) (fun hc1_ => ?_)
  refine g_icmp_ge C (off := 48) (tgt := 55) hx2 hc1_ (by decide +kernel) (by decide) (fun hc2_ => ?_) (fun hc2_ => ?_)
  · replace h := ite_t hc2_ h
    refine g_aload_n C 0 rfl (by decide +kernel) ?_
    refine g_getR C cl12 0 67 49 rfl cd_B0 ⟨by decide, rfl, by decide⟩ rfl rfl (nB (by decide)) (ix := 167) lk_1469 (by decide +kernel) ?_
    refine g_iload_n C 2 rfl (by decide +kernel) ?_
    obtain ⟨hb3_, h⟩ := ck_some h
    refine g_zald C 49 hx2 rfl cd_B49 (nB (by decide)) hb3_ (by decide +kernel) (fun hc4_ => ?_)
    refine g_if_ne C (off := 33) (tgt := 49) (c32_cb hc4_) (by decide +kernel) (by decide) (fun hc5_ => ?_) (fun hc5_ => ?_)
    · replace h := ite_t hc5_ h
      refine g_aload_n C 0 rfl (by decide +kernel) ?_
      refine g_getR C cl12 0 47 29 rfl cd_B0 ⟨by decide, rfl, by decide⟩ rfl rfl (nB (by decide)) (ix := 107) lk_1449 (by decide +kernel) ?_
      refine g_aload_n C 0 rfl (by decide +kernel) ?_
      refine g_getR C cl12 0 65 47 rfl cd_B0 ⟨by decide, rfl, by decide⟩ rfl rfl (nB (by decide)) (ix := 161) lk_1467 (by decide +kernel) ?_
      refine g_iload_n C 2 rfl (by decide +kernel) ?_
      obtain ⟨hb6_, h⟩ := ck_some h
      refine g_iald C 47 hx2 rfl cd_B47 (nB (by decide)) hb6_ (by decide +kernel) (fun hc7_ => ?_)
      obtain ⟨hb8_, h⟩ := ck_some h
      refine g_iald C 29 hc7_ rfl cd_B29 (nB (by decide)) hb8_ (by decide +kernel) (fun hc9_ => ?_)
      refine g_iload_n C 1 rfl (by decide +kernel) ?_
      refine g_icmp_ne C (off := 18) (tgt := 49) hc9_ hx1 (by decide +kernel) (by decide) (fun hc10_ => ?_) (fun hc10_ => ?_)
      · replace h := ite_t hc10_ h
        refine g_aload_n C 0 rfl (by decide +kernel) ?_
        refine g_aload_n C 0 rfl (by decide +kernel) ?_
        refine g_getR C cl12 0 65 47 rfl cd_B0 ⟨by decide, rfl, by decide⟩ rfl rfl (nB (by decide)) (ix := 161) lk_1467 (by decide +kernel) ?_
        refine g_iload_n C 2 rfl (by decide +kernel) ?_
        obtain ⟨hb11_, h⟩ := ck_some h
        refine g_iald C 47 hx2 rfl cd_B47 (nB (by decide)) hb11_ (by decide +kernel) (fun hc12_ => ?_)
        obtain ⟨r14_, d13_, hr15_, h⟩ := bd_some h
        refine g_callV C mw_Mo_doesHold [(0, (d 47 x2.toNat))] 0 cl12 rfl (ok_Mo_doesHold (d 47 x2.toNat) d hc12_ hr15_) cd_B0 (by decide) (nB (by decide)) (ix := 491) lk_2029 lk_2031 lkp_90 ⟨rfl, rfl, Nat.le_of_ble_eq_true rfl, Nat.le_of_ble_eq_true rfl⟩ rfl (rest := []) rfl (Nat.le_of_ble_eq_true rfl) ⟨Nat.zero_le _, Nat.zero_le _⟩ (by decide +kernel) (fun _ hc16_ => ?_)
        replace hc16_ : cb r14_ := hc16_
        refine g_st (st2 := [(0, r14_)]) rfl ?_
        refine g_if_eq C (off := 5) (tgt := 49) (c32_cb hc16_) (by decide +kernel) (by decide) (fun hc17_ => ?_) (fun hc17_ => ?_)
        · replace h := ite_t hc17_ h
          refine g_sub (lo2 := [(2, 0), (0, x1), (0, x2)]) (lsb_v (lsb_v (lsb_v lsb_e))) ?_
          exact ok_Mo_firstOf_b49 C x1 x2 d13_ hx1 hx2 h kb k0 k1
        · replace h := ite_f hc17_ h
          refine g_sub (lo2 := [(9, 0), (9, 0), (0, x2)]) (lsb_c (lsb_c (lsb_v lsb_e))) ?_
          obtain rfl := Option.some.inj h
          exact k1 x2 d13_ rfl hx2
      · replace h := ite_f hc10_ h
        refine g_sub (lo2 := [(2, 0), (0, x1), (0, x2)]) (lsb_v (lsb_v (lsb_v lsb_e))) ?_
        exact ok_Mo_firstOf_b49 C x1 x2 d hx1 hx2 h kb k0 k1
    · replace h := ite_f hc5_ h
      refine g_sub (lo2 := [(2, 0), (0, x1), (0, x2)]) (lsb_v (lsb_v (lsb_v lsb_e))) ?_
      exact ok_Mo_firstOf_b49 C x1 x2 d hx1 hx2 h kb k0 k1
  · replace h := ite_f hc2_ h
    refine g_sub (lo2 := [(9, 0), (9, 0), (9, 0)]) (lsb_c (lsb_c (lsb_c lsb_e))) ?_
    obtain rfl := Option.some.inj h
    exact k0 d rfl 
set_option maxHeartbeats 4000000 in
theorem ok_Mo_firstOf_n2 {p : Program} {l : Launch} {e : Env} {s : State} {m : MethodId} {args : Array Value} {below : List Frame} {meth : Method} {c : Code} {D : va_G} {cA : Nat → ClassId} {ad : Nat → Nat} {A : Nat → Prop} (C : Cx p s m args c prog_14_method_65_code 3 "PollBooksModel" D cA ad 1 A) {Q : State → Prop} {x : (Dt) ⊕ (Int × Dt)} : ∀ (n : Nat) (x1 x2 : Int) (d : Dt), c32 x1 → c32 x2 → lpF (fun q : Int × Int × Dt => L_Mo_firstOf_y2 q.1 q.2.1 q.2.2) n (x1, x2, d) = some x → (∀ (e' : Dt), x = (Sum.inl (e')) → G p l e rm_Mo_firstOf s m args below meth c 0 0 Q 3 D cA ad 1 A 55 [(9, 0), (9, 0), (9, 0)] [] e') → (∀ (y0 : Int) (e' : Dt), x = (Sum.inr (y0, e')) → c32 y0 → G p l e rm_Mo_firstOf s m args below meth c 0 0 Q 3 D cA ad 1 A 47 [(9, 0), (9, 0), (0, y0)] [] e') → G p l e rm_Mo_firstOf s m args below meth c 0 0 Q 3 D cA ad 1 A 2 [(2, 0), (0, x1), (0, x2)] [] d := by
  intro n
  induction n with
  | zero => intro x1 x2 d g0 g1 h k0 k1; cases h
  | succ n ih =>
    intro x1 x2 d g0 g1 h k0 k1
    rcases lpF_some h with h | ⟨⟨v0_, v1_, e0_⟩, h1, h⟩
    · exact ok_Mo_firstOf_y2 C x1 x2 d g0 g1 h (fun z0_ z1_ e1_ eq w0_ w1_ => by cases eq) (fun e1_ eq => k0 _ (by cases eq; rfl) ) (fun z0_ e1_ eq w0_ => k1 _ _ (by cases eq; rfl) w0_)
    · exact ok_Mo_firstOf_y2 C x1 x2 d g0 g1 h1 (fun z0_ z1_ e1_ eq w0_ w1_ => by cases eq; exact ih _ _ _ w0_ w1_ h k0 k1) (fun e1_ eq => by cases eq) (fun z0_ e1_ eq w0_ => by cases eq)
set_option maxHeartbeats 4000000 in
theorem ok_Mo_firstOf_l2 {p : Program} {l : Launch} {e : Env} {s : State} {m : MethodId} {args : Array Value} {below : List Frame} {meth : Method} {c : Code} {D : va_G} {cA : Nat → ClassId} {ad : Nat → Nat} {A : Nat → Prop} (C : Cx p s m args c prog_14_method_65_code 3 "PollBooksModel" D cA ad 1 A) {Q : State → Prop} {x : (Dt) ⊕ (Int × Dt)} (x1 x2 : Int) (d : Dt) (hx1 : c32 x1) (hx2 : c32 x2) (h : L_Mo_firstOf_l2 x1 x2 d = some x) (k0 : ∀ (e' : Dt), x = (Sum.inl (e')) → G p l e rm_Mo_firstOf s m args below meth c 0 0 Q 3 D cA ad 1 A 55 [(9, 0), (9, 0), (9, 0)] [] e') (k1 : ∀ (y0 : Int) (e' : Dt), x = (Sum.inr (y0, e')) → c32 y0 → G p l e rm_Mo_firstOf s m args below meth c 0 0 Q 3 D cA ad 1 A 47 [(9, 0), (9, 0), (0, y0)] [] e') : G p l e rm_Mo_firstOf s m args below meth c 0 0 Q 3 D cA ad 1 A 2 [(2, 0), (0, x1), (0, x2)] [] d :=
  ok_Mo_firstOf_n2 C FU x1 x2 d hx1 hx2 h k0 k1
set_option maxHeartbeats 4000000 in
theorem ok_Mo_firstOf {l : Launch} {r : Int} {d' : Dt} (p1 : Int) (d : Dt) (hp1 : c32 p1) (h : L_Mo_firstOf p1 d = some (r, d')) : MC l y_Mo_firstOf prog_14_method_65_code 3 (some .int) rm_Mo_firstOf 1 [(2, 0), (0, p1)] d (some (0, r)) d' := by
  refine MC.of (by decide) (Nat.le_of_ble_eq_true rfl) ?_
  intro p e s m args below meth c D cA ad A C hlk hr
  replace C : Cx p s m args c prog_14_method_65_code 3 "PollBooksModel" D cA ad 1 A := C
  show G p l e rm_Mo_firstOf s m args below meth c 0 0 (MQ below (fun _ => QC D cA ad 1 A (some .int) (some (0, r)) d') args s 0 0 A) 3 D cA ad 1 A 0 [(2, 0), (0, p1)] [] d
  refine g_sub (lo2 := [(2, 0), (0, p1), (9, 0)]) (lsb_v (lsb_v (lsb_n lsb_e))) ?_
  unfold L_Mo_firstOf at h
  refine g_iconst C 0 (cK rfl) (by decide +kernel) ?_
  refine s_istore_n C 2 (lo' := [(2, 0), (0, p1), (0, 0)]) (by decide) (s1k (s1n (by decide) s1z)) (by decide +kernel) ?_
  refine g_sub (lo2 := [(2, 0), (0, p1), (0, 0)]) (lsb_v (lsb_v (lsb_v lsb_e))) ?_
  obtain ⟨x18_, hx19_, h⟩ := lb_some h
  refine ok_Mo_firstOf_l2 C p1 0 d hp1 (c32_cb (Or.inl rfl)) hx19_ (fun d20_ eq21_ => ?_) (fun v22_ d23_ eq24_ hv22_ => ?_)
  · subst eq21_
    replace h := sml_e h
    replace h := u0_e h
    refine g_iconst C (-1) (cK rfl) (by decide +kernel) ?_
    obtain ⟨rfl, rfl⟩ := ret_inj h
    exact g_iret C (cK rfl) hlk hr (by decide +kernel)
  · subst eq24_
    replace h := smr_e h
    replace h := u1_e h
    refine g_iload_n C 2 rfl (by decide +kernel) ?_
    obtain ⟨rfl, rfl⟩ := ret_inj h
    exact g_iret C hv22_ hlk hr (by decide +kernel)
/-! PollBooksModel.rightOf(IIII)I -/
def y_Mo_rightOf : MethodName := ⟨"PollBooksModel", "rightOf", "(IIII)I"⟩
def rm_Mo_rightOf : Room := { frames := 4, cells := 0, slots := 0, locals := 101 }
theorem mw_Mo_rightOf : MW y_Mo_rightOf prog_14_method_67_code 5 (some .int) 4 := ⟨lk_2016, lk_14, by decide +kernel⟩
def L_Mo_rightOf_b66 (d : Dt) : Option (Int × Dt) :=
  bd (L_Mo_firstOf 2 d) (fun r2_ d1_ => if r2_ = (-1) then bd (L_Mo_firstOf 1 (up2 d1_ 0 71 r2_)) (fun r8_ d7_ => if r8_ = (-1) then some (2, (up2 d7_ 0 71 r8_)) else some (0, (up2 d7_ 0 71 r8_))) else some (3, (up2 d1_ 0 71 r2_)))
def L_Mo_rightOf (p1 p2 p3 p4 : Int) (d : Dt) : Option (Int × Dt) :=
  bd (L_Mo_ask p1 p2 p3 p4 d) (fun r14_ d13_ => bd (L_Mo_lastOf 5 d13_) (fun r18_ d17_ => if r18_ = (-1) then L_Mo_rightOf_b66 (up2 d17_ 0 71 r18_) else ck ((0 : Int) ≤ r18_ ∧ r18_ < 100) (ck ((0 : Int) ≤ (d17_ 47 r18_.toNat) ∧ (d17_ 47 r18_.toNat) < 120) (if p4 < (d17_ 30 ((d17_ 47 r18_.toNat)).toNat) then some (1, (up2 d17_ 0 71 r18_)) else ck ((0 : Int) ≤ r18_ ∧ r18_ < 100) (ck ((0 : Int) ≤ (d17_ 47 r18_.toNat) ∧ (d17_ 47 r18_.toNat) < 120) (if (d17_ 31 ((d17_ 47 r18_.toNat)).toNat) < p4 then some (1, (up2 d17_ 0 71 r18_)) else L_Mo_rightOf_b66 (up2 d17_ 0 71 r18_)))))))
set_option maxHeartbeats 4000000 in
theorem ok_Mo_rightOf_b66 {p : Program} {l : Launch} {e : Env} {s : State} {m : MethodId} {args : Array Value} {below : List Frame} {meth : Method} {c : Code} {D : va_G} {cA : Nat → ClassId} {ad : Nat → Nat} {A : Nat → Prop} (C : Cx p s m args c prog_14_method_67_code 5 "PollBooksModel" D cA ad 1 A) (hlk : meth.locks = false) (hr : meth.sig.returnType = (some .int)) {r : Int} {d' : Dt} (d : Dt)  (h : L_Mo_rightOf_b66 d = some (r, d')) : G p l e rm_Mo_rightOf s m args below meth c 0 0 (MQ below (fun _ => QC D cA ad 1 A (some .int) (some (0, r)) d') args s 0 0 A) 5 D cA ad 1 A 66 [(2, 0), (9, 0), (9, 0), (9, 0), (9, 0)] [] d := by
  unfold L_Mo_rightOf_b66 at h
  refine g_aload_n C 0 rfl (by decide +kernel) ?_
  refine g_aload_n C 0 rfl (by decide +kernel) ?_
  refine g_iconst C 2 (cK rfl) (by decide +kernel) ?_
  obtain ⟨r2_, d1_, hr3_, h⟩ := bd_some h
  refine g_callV C mw_Mo_firstOf [(0, 2)] 0 cl12 rfl (ok_Mo_firstOf 2 d (cK rfl) hr3_) cd_B0 (by decide) (nB (by decide)) (ix := 504) lk_2025 lk_2027 lkp_89 ⟨rfl, rfl, Nat.le_of_ble_eq_true rfl, Nat.le_of_ble_eq_true rfl⟩ rfl (rest := [(2, 0)]) rfl (Nat.le_of_ble_eq_true rfl) ⟨Nat.zero_le _, Nat.zero_le _⟩ (by decide +kernel) (fun _ hc4_ => ?_)
  replace hc4_ : c32 r2_ := hc4_
  refine g_st (st2 := [(0, r2_), (2, 0)]) rfl ?_
  refine g_putI C cl12 0 71 hc4_ rfl cd_B0 ⟨by decide, rfl, by decide⟩ rfl (nB (by decide)) (ix := 501) lk_1473 rfl rfl (by decide +kernel) ?_
  refine g_aload_n C 0 rfl (by decide +kernel) ?_
  refine g_getI C cl12 0 71 rfl cd_B0 ⟨by decide, rfl, by decide⟩ rfl (nB (by decide)) (ix := 501) lk_1473 (by decide +kernel) (fun hc5_ => ?_)
  refine g_val (y := r2_) rfl ?_
  replace hc5_ : c32 r2_ := hc5_
  refine g_iconst C (-1) (cK rfl) (by decide +kernel) ?_
  refine g_icmp_eq C (off := 5) (tgt := 85) hc5_ (cK rfl) (by decide +kernel) (by decide) (fun hc6_ => ?_) (fun hc6_ => ?_)
  · replace h := ite_t hc6_ h
    refine g_aload_n C 0 rfl (by decide +kernel) ?_
    refine g_aload_n C 0 rfl (by decide +kernel) ?_
    refine g_iconst C 1 (cK rfl) (by decide +kernel) ?_
    obtain ⟨r8_, d7_, hr9_, h⟩ := bd_some h
    refine g_callV C mw_Mo_firstOf [(0, 1)] 0 cl12 rfl (ok_Mo_firstOf 1 (up2 d1_ 0 71 r2_) (c32_cb (Or.inr rfl)) hr9_) cd_B0 (by decide) (nB (by decide)) (ix := 504) lk_2025 lk_2027 lkp_89 ⟨rfl, rfl, Nat.le_of_ble_eq_true rfl, Nat.le_of_ble_eq_true rfl⟩ rfl (rest := [(2, 0)]) rfl (Nat.le_of_ble_eq_true rfl) ⟨Nat.zero_le _, Nat.zero_le _⟩ (by decide +kernel) (fun _ hc10_ => ?_)
    replace hc10_ : c32 r8_ := hc10_
    refine g_st (st2 := [(0, r8_), (2, 0)]) rfl ?_
    refine g_putI C cl12 0 71 hc10_ rfl cd_B0 ⟨by decide, rfl, by decide⟩ rfl (nB (by decide)) (ix := 501) lk_1473 rfl rfl (by decide +kernel) ?_
    refine g_aload_n C 0 rfl (by decide +kernel) ?_
    refine g_getI C cl12 0 71 rfl cd_B0 ⟨by decide, rfl, by decide⟩ rfl (nB (by decide)) (ix := 501) lk_1473 (by decide +kernel) (fun hc11_ => ?_)
    refine g_val (y := r8_) rfl ?_
    replace hc11_ : c32 r8_ := hc11_
    refine g_iconst C (-1) (cK rfl) (by decide +kernel) ?_
    refine g_icmp_ne C (off := 7) (tgt := 106) hc11_ (cK rfl) (by decide +kernel) (by decide) (fun hc12_ => ?_) (fun hc12_ => ?_)
    · replace h := ite_t hc12_ h
      refine g_iconst C 2 (cK rfl) (by decide +kernel) ?_
      refine g_goto C 107 (off := 4) (by decide +kernel) (by decide) ?_
      obtain ⟨rfl, rfl⟩ := ret_inj h
      exact g_iret C (cK rfl) hlk hr (by decide +kernel)
    · replace h := ite_f hc12_ h
      refine g_iconst C 0 (cK rfl) (by decide +kernel) ?_
      obtain ⟨rfl, rfl⟩ := ret_inj h
      exact g_iret C (c32_cb (Or.inl rfl)) hlk hr (by decide +kernel)
  · replace h := ite_f hc6_ h
    refine g_iconst C 3 (cK rfl) (by decide +kernel) ?_
    obtain ⟨rfl, rfl⟩ := ret_inj h
    exact g_iret C (cK rfl) hlk hr (by decide +kernel)
set_option maxHeartbeats 4000000 in
theorem ok_Mo_rightOf {l : Launch} {r : Int} {d' : Dt} (p1 p2 p3 p4 : Int) (d : Dt) (hp1 : c32 p1) (hp2 : c32 p2) (hp3 : c32 p3) (hp4 : c32 p4) (h : L_Mo_rightOf p1 p2 p3 p4 d = some (r, d')) : MC l y_Mo_rightOf prog_14_method_67_code 5 (some .int) rm_Mo_rightOf 1 [(2, 0), (0, p1), (0, p2), (0, p3), (0, p4)] d (some (0, r)) d' := by
  refine MC.of (by decide) (Nat.le_of_ble_eq_true rfl) ?_
  intro p e s m args below meth c D cA ad A C hlk hr
  replace C : Cx p s m args c prog_14_method_67_code 5 "PollBooksModel" D cA ad 1 A := C
  show G p l e rm_Mo_rightOf s m args below meth c 0 0 (MQ below (fun _ => QC D cA ad 1 A (some .int) (some (0, r)) d') args s 0 0 A) 5 D cA ad 1 A 0 [(2, 0), (0, p1), (0, p2), (0, p3), (0, p4)] [] d
  refine g_sub (lo2 := [(2, 0), (0, p1), (0, p2), (0, p3), (0, p4)]) (lsb_v (lsb_v (lsb_v (lsb_v (lsb_v lsb_e))))) ?_
  unfold L_Mo_rightOf at h
  refine g_aload_n C 0 rfl (by decide +kernel) ?_
  refine g_iload_n C 1 rfl (by decide +kernel) ?_
  refine g_iload_n C 2 rfl (by decide +kernel) ?_
  refine g_iload_n C 3 rfl (by decide +kernel) ?_
  refine g_iload C 4 rfl (by decide +kernel) ?_
  obtain ⟨r14_, d13_, hr15_, h⟩ := bd_some h
  refine g_callV C mw_Mo_ask [(0, p1), (0, p2), (0, p3), (0, p4)] 0 cl12 rfl (ok_Mo_ask p1 p2 p3 p4 d hp1 hp2 hp3 hp4 hr15_) cd_B0 (by decide) (nB (by decide)) (ix := 494) lk_2017 lk_2019 lkp_87 ⟨rfl, rfl, Nat.le_of_ble_eq_true rfl, Nat.le_of_ble_eq_true rfl⟩ rfl (rest := []) rfl (Nat.le_of_ble_eq_true rfl) ⟨Nat.zero_le _, Nat.zero_le _⟩ (by decide +kernel) (fun _ hc16_ => ?_)
  refine g_st (st2 := []) rfl ?_
  refine g_aload_n C 0 rfl (by decide +kernel) ?_
  refine g_aload_n C 0 rfl (by decide +kernel) ?_
  refine g_iconst C 5 (cK rfl) (by decide +kernel) ?_
  obtain ⟨r18_, d17_, hr19_, h⟩ := bd_some h
  refine g_callV C mw_Mo_lastOf [(0, 5)] 0 cl12 rfl (ok_Mo_lastOf 5 d13_ (cK rfl) hr19_) cd_B0 (by decide) (nB (by decide)) (ix := 498) lk_2021 lk_2023 lkp_88 ⟨rfl, rfl, Nat.le_of_ble_eq_true rfl, Nat.le_of_ble_eq_true rfl⟩ rfl (rest := [(2, 0)]) rfl (Nat.le_of_ble_eq_true rfl) ⟨Nat.zero_le _, Nat.zero_le _⟩ (by decide +kernel) (fun _ hc20_ => ?_)
  replace hc20_ : c32 r18_ := hc20_
  refine g_st (st2 := [(0, r18_), (2, 0)]) rfl ?_
  refine g_putI C cl12 0 71 hc20_ rfl cd_B0 ⟨by decide, rfl, by decide⟩ rfl (nB (by decide)) (ix := 501) lk_1473 rfl rfl (by decide +kernel) ?_
  refine g_aload_n C 0 rfl (by decide +kernel) ?_
  refine g_getI C cl12 0 71 rfl cd_B0 ⟨by decide, rfl, by decide⟩ rfl (nB (by decide)) (ix := 501) lk_1473 (by decide +kernel) (fun hc21_ => ?_)
  refine g_val (y := r18_) rfl ?_
  replace hc21_ : c32 r18_ := hc21_
  refine g_iconst C (-1) (cK rfl) (by decide +kernel) ?_
  refine g_icmp_eq C (off := 43) (tgt := 66) hc21_ (cK rfl) (by decide +kernel) (by decide) (fun hc22_ => ?_) (fun hc22_ => ?_)
  · replace h := ite_t hc22_ h
    refine g_sub (lo2 := [(2, 0), (9, 0), (9, 0), (9, 0), (9, 0)]) (lsb_v (lsb_c (lsb_c (lsb_c (lsb_c lsb_e))))) ?_
    exact ok_Mo_rightOf_b66 C hlk hr (up2 d17_ 0 71 r18_)  h
  · replace h := ite_f hc22_ h
    refine g_iload C 4 rfl (by decide +kernel) ?_
    refine g_aload_n C 0 rfl (by decide +kernel) ?_
    refine g_getR C cl12 0 48 30 rfl cd_B0 ⟨by decide, rfl, by decide⟩ rfl rfl (nB (by decide)) (ix := 110) lk_1450 (by decide +kernel) ?_
    refine g_aload_n C 0 rfl (by decide +kernel) ?_
    refine g_getR C cl12 0 65 47 rfl cd_B0 ⟨by decide, rfl, by decide⟩ rfl rfl (nB (by decide)) (ix := 161) lk_1467 (by decide +kernel) ?_
    refine g_aload_n C 0 rfl (by decide +kernel) ?_
    refine g_getI C cl12 0 71 rfl cd_B0 ⟨by decide, rfl, by decide⟩ rfl (nB (by decide)) (ix := 501) lk_1473 (by decide +kernel) (fun hc23_ => ?_)
    refine g_val (y := r18_) rfl ?_
    replace hc23_ : c32 r18_ := hc23_
    obtain ⟨hb24_, h⟩ := ck_some h
    refine g_iald C 47 hc23_ rfl cd_B47 (nB (by decide)) hb24_ (by decide +kernel) (fun hc25_ => ?_)
    refine g_val (y := (d17_ 47 r18_.toNat)) rfl ?_
    replace hc25_ : c32 (d17_ 47 r18_.toNat) := hc25_
    obtain ⟨hb26_, h⟩ := ck_some h
    refine g_iald C 30 hc25_ rfl cd_B30 (nB (by decide)) hb26_ (by decide +kernel) (fun hc27_ => ?_)
    refine g_val (y := (d17_ 30 ((d17_ 47 r18_.toNat)).toNat)) rfl ?_
    replace hc27_ : c32 (d17_ 30 ((d17_ 47 r18_.toNat)).toNat) := hc27_
    refine g_icmp_lt C (off := 22) (tgt := 64) hp4 hc27_ (by decide +kernel) (by decide) (fun hc28_ => ?_) (fun hc28_ => ?_)
    · replace h := ite_t hc28_ h
      refine g_iconst C 1 (cK rfl) (by decide +kernel) ?_
      obtain ⟨rfl, rfl⟩ := ret_inj h
      exact g_iret C (c32_cb (Or.inr rfl)) hlk hr (by decide +kernel)
    · replace h := ite_f hc28_ h
      refine g_iload C 4 rfl (by decide +kernel) ?_
      refine g_aload_n C 0 rfl (by decide +kernel) ?_
      refine g_getR C cl12 0 49 31 rfl cd_B0 ⟨by decide, rfl, by decide⟩ rfl rfl (nB (by decide)) (ix := 113) lk_1451 (by decide +kernel) ?_
      refine g_aload_n C 0 rfl (by decide +kernel) ?_
      refine g_getR C cl12 0 65 47 rfl cd_B0 ⟨by decide, rfl, by decide⟩ rfl rfl (nB (by decide)) (ix := 161) lk_1467 (by decide +kernel) ?_
      refine g_aload_n C 0 rfl (by decide +kernel) ?_
      refine g_getI C cl12 0 71 rfl cd_B0 ⟨by decide, rfl, by decide⟩ rfl (nB (by decide)) (ix := 501) lk_1473 (by decide +kernel) (fun hc29_ => ?_)
      refine g_val (y := r18_) rfl ?_
      replace hc29_ : c32 r18_ := hc29_
      obtain ⟨hb30_, h⟩ := ck_some h
      refine g_iald C 47 hc29_ rfl cd_B47 (nB (by decide)) hb30_ (by decide +kernel) (fun hc31_ => ?_)
      refine g_val (y := (d17_ 47 r18_.toNat)) rfl ?_
      replace hc31_ : c32 (d17_ 47 r18_.toNat) := hc31_
      obtain ⟨hb32_, h⟩ := ck_some h
      refine g_iald C 31 hc31_ rfl cd_B31 (nB (by decide)) hb32_ (by decide +kernel) (fun hc33_ => ?_)
      refine g_val (y := (d17_ 31 ((d17_ 47 r18_.toNat)).toNat)) rfl ?_
      replace hc33_ : c32 (d17_ 31 ((d17_ 47 r18_.toNat)).toNat) := hc33_
      refine g_icmp_le C (off := 5) (tgt := 66) hp4 hc33_ (by decide +kernel) (by decide) (fun hc34_ => ?_) (fun hc34_ => ?_)
      · replace h := ite_t hc34_ h
        refine g_iconst C 1 (cK rfl) (by decide +kernel) ?_
        obtain ⟨rfl, rfl⟩ := ret_inj h
        exact g_iret C (c32_cb (Or.inr rfl)) hlk hr (by decide +kernel)
      · replace h := ite_f hc34_ h
        refine g_sub (lo2 := [(2, 0), (9, 0), (9, 0), (9, 0), (9, 0)]) (lsb_v (lsb_c (lsb_c (lsb_c (lsb_c lsb_e))))) ?_
        exact ok_Mo_rightOf_b66 C hlk hr (up2 d17_ 0 71 r18_)  h
/-! PollBooksModel.right(IIII)I -/
def y_Mo_right : MethodName := ⟨"PollBooksModel", "right", "(IIII)I"⟩
def rm_Mo_right : Room := { frames := 5, cells := 0, slots := 0, locals := 125 }
theorem mw_Mo_right : MW y_Mo_right prog_14_method_69_code 5 (some .int) 4 := ⟨lk_2005, lk_14, by decide +kernel⟩
def L_Mo_right (p1 p2 p3 p4 : Int) (d : Dt) : Option (Int × Dt) :=
  bd (L_Mo_isAsked p1 p2 p3 p4 d) (fun r2_ d1_ => if r2_ = 0 then bd (L_Mo_refuse 1 d1_) (fun r7_ d6_ => some (r7_, d6_)) else bd (L_Mo_rightOf p1 p2 p3 p4 d1_) (fun r11_ d10_ => bd (L_Mo_gives r11_ d10_) (fun r15_ d14_ => some (r15_, d14_))))
set_option maxHeartbeats 4000000 in
theorem ok_Mo_right {l : Launch} {r : Int} {d' : Dt} (p1 p2 p3 p4 : Int) (d : Dt) (hp1 : c32 p1) (hp2 : c32 p2) (hp3 : c32 p3) (hp4 : c32 p4) (h : L_Mo_right p1 p2 p3 p4 d = some (r, d')) : MC l y_Mo_right prog_14_method_69_code 5 (some .int) rm_Mo_right 1 [(2, 0), (0, p1), (0, p2), (0, p3), (0, p4)] d (some (0, r)) d' := by
  refine MC.of (by decide) (Nat.le_of_ble_eq_true rfl) ?_
  intro p e s m args below meth c D cA ad A C hlk hr
  replace C : Cx p s m args c prog_14_method_69_code 5 "PollBooksModel" D cA ad 1 A := C
  show G p l e rm_Mo_right s m args below meth c 0 0 (MQ below (fun _ => QC D cA ad 1 A (some .int) (some (0, r)) d') args s 0 0 A) 5 D cA ad 1 A 0 [(2, 0), (0, p1), (0, p2), (0, p3), (0, p4)] [] d
  refine g_sub (lo2 := [(2, 0), (0, p1), (0, p2), (0, p3), (0, p4)]) (lsb_v (lsb_v (lsb_v (lsb_v (lsb_v lsb_e))))) ?_
  unfold L_Mo_right at h
  refine g_aload_n C 0 rfl (by decide +kernel) ?_
  refine g_iload_n C 1 rfl (by decide +kernel) ?_
  refine g_iload_n C 2 rfl (by decide +kernel) ?_
  refine g_iload_n C 3 rfl (by decide +kernel) ?_
  refine g_iload C 4 rfl (by decide +kernel) ?_
  obtain ⟨r2_, d1_, hr3_, h⟩ := bd_some h
  refine g_callV C mw_Mo_isAsked [(0, p1), (0, p2), (0, p3), (0, p4)] 0 cl12 rfl (ok_Mo_isAsked p1 p2 p3 p4 d hp1 hp2 hp3 hp4 hr3_) cd_B0 (by decide) (nB (by decide)) (ix := 510) lk_2006 lk_2008 lkp_85 ⟨rfl, rfl, Nat.le_of_ble_eq_true rfl, Nat.le_of_ble_eq_true rfl⟩ rfl (rest := []) rfl (Nat.le_of_ble_eq_true rfl) ⟨Nat.zero_le _, Nat.zero_le _⟩ (by decide +kernel) (fun _ hc4_ => ?_)
  replace hc4_ : cb r2_ := hc4_
  refine g_st (st2 := [(0, r2_)]) rfl ?_
  refine g_if_eq C (off := 19) (tgt := 28) (c32_cb hc4_) (by decide +kernel) (by decide) (fun hc5_ => ?_) (fun hc5_ => ?_)
  · replace h := ite_t hc5_ h
    refine g_aload_n C 0 rfl (by decide +kernel) ?_
    refine g_iconst C 1 (cK rfl) (by decide +kernel) ?_
    obtain ⟨r7_, d6_, hr8_, h⟩ := bd_some h
    refine g_callV C mw_Mo_refuse [(0, 1)] 0 cl12 rfl (ok_Mo_refuse 1 d1_ (c32_cb (Or.inr rfl)) hr8_) cd_B0 (by decide) (nB (by decide)) (ix := 316) lk_1787 lk_1789 lkp_61 ⟨rfl, rfl, Nat.le_of_ble_eq_true rfl, Nat.le_of_ble_eq_true rfl⟩ rfl (rest := []) rfl (Nat.le_of_ble_eq_true rfl) ⟨Nat.zero_le _, Nat.zero_le _⟩ (by decide +kernel) (fun _ hc9_ => ?_)
    replace hc9_ : c32 r7_ := hc9_
    refine g_st (st2 := [(0, r7_)]) rfl ?_
    obtain ⟨rfl, rfl⟩ := ret_inj h
    exact g_iret C hc9_ hlk hr (by decide +kernel)
  · replace h := ite_f hc5_ h
    refine g_aload_n C 0 rfl (by decide +kernel) ?_
    refine g_aload_n C 0 rfl (by decide +kernel) ?_
    refine g_iload_n C 1 rfl (by decide +kernel) ?_
    refine g_iload_n C 2 rfl (by decide +kernel) ?_
    refine g_iload_n C 3 rfl (by decide +kernel) ?_
    refine g_iload C 4 rfl (by decide +kernel) ?_
    obtain ⟨r11_, d10_, hr12_, h⟩ := bd_some h
    refine g_callV C mw_Mo_rightOf [(0, p1), (0, p2), (0, p3), (0, p4)] 0 cl12 rfl (ok_Mo_rightOf p1 p2 p3 p4 d1_ hp1 hp2 hp3 hp4 hr12_) cd_B0 (by decide) (nB (by decide)) (ix := 514) lk_2013 lk_2015 lkp_86 ⟨rfl, rfl, Nat.le_of_ble_eq_true rfl, Nat.le_of_ble_eq_true rfl⟩ rfl (rest := [(2, 0)]) rfl (Nat.le_of_ble_eq_true rfl) ⟨Nat.zero_le _, Nat.zero_le _⟩ (by decide +kernel) (fun _ hc13_ => ?_)
    replace hc13_ : c32 r11_ := hc13_
    refine g_st (st2 := [(0, r11_), (2, 0)]) rfl ?_
    obtain ⟨r15_, d14_, hr16_, h⟩ := bd_some h
    refine g_callV C mw_Mo_gives [(0, r11_)] 0 cl12 rfl (ok_Mo_gives r11_ d10_ hc13_ hr16_) cd_B0 (by decide) (nB (by decide)) (ix := 312) lk_1783 lk_1785 lkp_60 ⟨rfl, rfl, Nat.le_of_ble_eq_true rfl, Nat.le_of_ble_eq_true rfl⟩ rfl (rest := []) rfl (Nat.le_of_ble_eq_true rfl) ⟨Nat.zero_le _, Nat.zero_le _⟩ (by decide +kernel) (fun _ hc17_ => ?_)
    replace hc17_ : c32 r15_ := hc17_
    refine g_st (st2 := [(0, r15_)]) rfl ?_
    refine g_goto C 33 (off := 8) (by decide +kernel) (by decide) ?_
    obtain ⟨rfl, rfl⟩ := ret_inj h
    exact g_iret C hc17_ hlk hr (by decide +kernel)
/-! PollBooksModel.why(IIII)I -/
def y_Mo_why : MethodName := ⟨"PollBooksModel", "why", "(IIII)I"⟩
def rm_Mo_why : Room := { frames := 5, cells := 0, slots := 0, locals := 125 }
theorem mw_Mo_why : MW y_Mo_why prog_14_method_70_code 6 (some .int) 4 := ⟨lk_2044, lk_14, by decide +kernel⟩
def L_Mo_why (p1 p2 p3 p4 : Int) (d : Dt) : Option (Int × Dt) :=
  bd (L_Mo_isAsked p1 p2 p3 p4 d) (fun r2_ d1_ => if r2_ = 0 then bd (L_Mo_refuse 1 d1_) (fun r7_ d6_ => some (r7_, d6_)) else bd (L_Mo_rightOf p1 p2 p3 p4 d1_) (fun r11_ d10_ => if (d10_ 0 71) = (-1) then bd (L_Mo_refuse 6 d10_) (fun r17_ d16_ => some (r17_, d16_)) else bd (L_Mo_gives (d10_ 0 71) d10_) (fun r22_ d21_ => some (r22_, d21_))))
set_option maxHeartbeats 4000000 in
theorem ok_Mo_why {l : Launch} {r : Int} {d' : Dt} (p1 p2 p3 p4 : Int) (d : Dt) (hp1 : c32 p1) (hp2 : c32 p2) (hp3 : c32 p3) (hp4 : c32 p4) (h : L_Mo_why p1 p2 p3 p4 d = some (r, d')) : MC l y_Mo_why prog_14_method_70_code 6 (some .int) rm_Mo_why 1 [(2, 0), (0, p1), (0, p2), (0, p3), (0, p4)] d (some (0, r)) d' := by
  refine MC.of (by decide) (Nat.le_of_ble_eq_true rfl) ?_
  intro p e s m args below meth c D cA ad A C hlk hr
  replace C : Cx p s m args c prog_14_method_70_code 6 "PollBooksModel" D cA ad 1 A := C
  show G p l e rm_Mo_why s m args below meth c 0 0 (MQ below (fun _ => QC D cA ad 1 A (some .int) (some (0, r)) d') args s 0 0 A) 6 D cA ad 1 A 0 [(2, 0), (0, p1), (0, p2), (0, p3), (0, p4)] [] d
  refine g_sub (lo2 := [(2, 0), (0, p1), (0, p2), (0, p3), (0, p4), (9, 0)]) (lsb_v (lsb_v (lsb_v (lsb_v (lsb_v (lsb_n lsb_e)))))) ?_
  unfold L_Mo_why at h
  refine g_aload_n C 0 rfl (by decide +kernel) ?_
  refine g_iload_n C 1 rfl (by decide +kernel) ?_
  refine g_iload_n C 2 rfl (by decide +kernel) ?_
  refine g_iload_n C 3 rfl (by decide +kernel) ?_
  refine g_iload C 4 rfl (by decide +kernel) ?_
  obtain ⟨r2_, d1_, hr3_, h⟩ := bd_some h
  refine g_callV C mw_Mo_isAsked [(0, p1), (0, p2), (0, p3), (0, p4)] 0 cl12 rfl (ok_Mo_isAsked p1 p2 p3 p4 d hp1 hp2 hp3 hp4 hr3_) cd_B0 (by decide) (nB (by decide)) (ix := 510) lk_2006 lk_2008 lkp_85 ⟨rfl, rfl, Nat.le_of_ble_eq_true rfl, Nat.le_of_ble_eq_true rfl⟩ rfl (rest := []) rfl (Nat.le_of_ble_eq_true rfl) ⟨Nat.zero_le _, Nat.zero_le _⟩ (by decide +kernel) (fun _ hc4_ => ?_)
  replace hc4_ : cb r2_ := hc4_
  refine g_st (st2 := [(0, r2_)]) rfl ?_
  refine g_if_ne C (off := 9) (tgt := 18) (c32_cb hc4_) (by decide +kernel) (by decide) (fun hc5_ => ?_) (fun hc5_ => ?_)
  · replace h := ite_t hc5_ h
    refine g_aload_n C 0 rfl (by decide +kernel) ?_
    refine g_iconst C 1 (cK rfl) (by decide +kernel) ?_
    obtain ⟨r7_, d6_, hr8_, h⟩ := bd_some h
    refine g_callV C mw_Mo_refuse [(0, 1)] 0 cl12 rfl (ok_Mo_refuse 1 d1_ (c32_cb (Or.inr rfl)) hr8_) cd_B0 (by decide) (nB (by decide)) (ix := 316) lk_1787 lk_1789 lkp_61 ⟨rfl, rfl, Nat.le_of_ble_eq_true rfl, Nat.le_of_ble_eq_true rfl⟩ rfl (rest := []) rfl (Nat.le_of_ble_eq_true rfl) ⟨Nat.zero_le _, Nat.zero_le _⟩ (by decide +kernel) (fun _ hc9_ => ?_)
    replace hc9_ : c32 r7_ := hc9_
    refine g_st (st2 := [(0, r7_)]) rfl ?_
    obtain ⟨rfl, rfl⟩ := ret_inj h
    exact g_iret C hc9_ hlk hr (by decide +kernel)
  · replace h := ite_f hc5_ h
    refine g_aload_n C 0 rfl (by decide +kernel) ?_
    refine g_iload_n C 1 rfl (by decide +kernel) ?_
    refine g_iload_n C 2 rfl (by decide +kernel) ?_
    refine g_iload_n C 3 rfl (by decide +kernel) ?_
    refine g_iload C 4 rfl (by decide +kernel) ?_
    obtain ⟨r11_, d10_, hr12_, h⟩ := bd_some h
    refine g_callV C mw_Mo_rightOf [(0, p1), (0, p2), (0, p3), (0, p4)] 0 cl12 rfl (ok_Mo_rightOf p1 p2 p3 p4 d1_ hp1 hp2 hp3 hp4 hr12_) cd_B0 (by decide) (nB (by decide)) (ix := 514) lk_2013 lk_2015 lkp_86 ⟨rfl, rfl, Nat.le_of_ble_eq_true rfl, Nat.le_of_ble_eq_true rfl⟩ rfl (rest := []) rfl (Nat.le_of_ble_eq_true rfl) ⟨Nat.zero_le _, Nat.zero_le _⟩ (by decide +kernel) (fun _ hc13_ => ?_)
    replace hc13_ : c32 r11_ := hc13_
    refine g_st (st2 := [(0, r11_)]) rfl ?_
    refine s_istore C 5 (lo' := [(2, 0), (0, p1), (0, p2), (0, p3), (0, p4), (0, r11_)]) (by decide) (s1k (s1k (s1k (s1k (s1n (by decide) s1z))))) (by decide +kernel) ?_
    refine g_aload_n C 0 rfl (by decide +kernel) ?_
    refine g_getI C cl12 0 71 rfl cd_B0 ⟨by decide, rfl, by decide⟩ rfl (nB (by decide)) (ix := 501) lk_1473 (by decide +kernel) (fun hc14_ => ?_)
    refine g_iconst C (-1) (cK rfl) (by decide +kernel) ?_
    refine g_icmp_ne C (off := 12) (tgt := 46) hc14_ (cK rfl) (by decide +kernel) (by decide) (fun hc15_ => ?_) (fun hc15_ => ?_)
    · replace h := ite_t hc15_ h
      refine g_aload_n C 0 rfl (by decide +kernel) ?_
      refine g_bipush C 6 (by decide) (by decide +kernel) ?_
      obtain ⟨r17_, d16_, hr18_, h⟩ := bd_some h
      refine g_callV C mw_Mo_refuse [(0, 6)] 0 cl12 rfl (ok_Mo_refuse 6 d10_ (cK rfl) hr18_) cd_B0 (by decide) (nB (by decide)) (ix := 316) lk_1787 lk_1789 lkp_61 ⟨rfl, rfl, Nat.le_of_ble_eq_true rfl, Nat.le_of_ble_eq_true rfl⟩ rfl (rest := []) rfl (Nat.le_of_ble_eq_true rfl) ⟨Nat.zero_le _, Nat.zero_le _⟩ (by decide +kernel) (fun _ hc19_ => ?_)
      replace hc19_ : c32 r17_ := hc19_
      refine g_st (st2 := [(0, r17_)]) rfl ?_
      refine g_goto C 54 (off := 11) (by decide +kernel) (by decide) ?_
      obtain ⟨rfl, rfl⟩ := ret_inj h
      exact g_iret C hc19_ hlk hr (by decide +kernel)
    · replace h := ite_f hc15_ h
      refine g_aload_n C 0 rfl (by decide +kernel) ?_
      refine g_aload_n C 0 rfl (by decide +kernel) ?_
      refine g_getI C cl12 0 71 rfl cd_B0 ⟨by decide, rfl, by decide⟩ rfl (nB (by decide)) (ix := 501) lk_1473 (by decide +kernel) (fun hc20_ => ?_)
      obtain ⟨r22_, d21_, hr23_, h⟩ := bd_some h
      refine g_callV C mw_Mo_gives [(0, (d10_ 0 71))] 0 cl12 rfl (ok_Mo_gives (d10_ 0 71) d10_ hc20_ hr23_) cd_B0 (by decide) (nB (by decide)) (ix := 312) lk_1783 lk_1785 lkp_60 ⟨rfl, rfl, Nat.le_of_ble_eq_true rfl, Nat.le_of_ble_eq_true rfl⟩ rfl (rest := []) rfl (Nat.le_of_ble_eq_true rfl) ⟨Nat.zero_le _, Nat.zero_le _⟩ (by decide +kernel) (fun _ hc24_ => ?_)
      replace hc24_ : c32 r22_ := hc24_
      refine g_st (st2 := [(0, r22_)]) rfl ?_
      obtain ⟨rfl, rfl⟩ := ret_inj h
      exact g_iret C hc24_ hlk hr (by decide +kernel)
/-! PollBooksModel.isVoid(IIII)Z -/
def y_Mo_isVoid : MethodName := ⟨"PollBooksModel", "isVoid", "(IIII)Z"⟩
def rm_Mo_isVoid : Room := { frames := 4, cells := 0, slots := 0, locals := 101 }
theorem mw_Mo_isVoid : MW y_Mo_isVoid prog_14_method_71_code 5 (some .boolean) 4 := ⟨lk_2052, lk_14, by decide +kernel⟩
def L_Mo_isVoid (p1 p2 p3 p4 : Int) (d : Dt) : Option (Int × Dt) :=
  bd (L_Mo_ask p1 p2 p3 p4 d) (fun r2_ d1_ => bd (L_Mo_firstOf 3 d1_) (fun r6_ d5_ => if r6_ = (-1) then some (0, d5_) else some (1, d5_)))
set_option maxHeartbeats 4000000 in
theorem ok_Mo_isVoid {l : Launch} {r : Int} {d' : Dt} (p1 p2 p3 p4 : Int) (d : Dt) (hp1 : c32 p1) (hp2 : c32 p2) (hp3 : c32 p3) (hp4 : c32 p4) (h : L_Mo_isVoid p1 p2 p3 p4 d = some (r, d')) : MC l y_Mo_isVoid prog_14_method_71_code 5 (some .boolean) rm_Mo_isVoid 1 [(2, 0), (0, p1), (0, p2), (0, p3), (0, p4)] d (some (0, r)) d' := by
  refine MC.of (by decide) (Nat.le_of_ble_eq_true rfl) ?_
  intro p e s m args below meth c D cA ad A C hlk hr
  replace C : Cx p s m args c prog_14_method_71_code 5 "PollBooksModel" D cA ad 1 A := C
  show G p l e rm_Mo_isVoid s m args below meth c 0 0 (MQ below (fun _ => QC D cA ad 1 A (some .boolean) (some (0, r)) d') args s 0 0 A) 5 D cA ad 1 A 0 [(2, 0), (0, p1), (0, p2), (0, p3), (0, p4)] [] d
  refine g_sub (lo2 := [(2, 0), (0, p1), (0, p2), (0, p3), (0, p4)]) (lsb_v (lsb_v (lsb_v (lsb_v (lsb_v lsb_e))))) ?_
  unfold L_Mo_isVoid at h
  refine g_aload_n C 0 rfl (by decide +kernel) ?_
  refine g_iload_n C 1 rfl (by decide +kernel) ?_
  refine g_iload_n C 2 rfl (by decide +kernel) ?_
  refine g_iload_n C 3 rfl (by decide +kernel) ?_
  refine g_iload C 4 rfl (by decide +kernel) ?_
  obtain ⟨r2_, d1_, hr3_, h⟩ := bd_some h
  refine g_callV C mw_Mo_ask [(0, p1), (0, p2), (0, p3), (0, p4)] 0 cl12 rfl (ok_Mo_ask p1 p2 p3 p4 d hp1 hp2 hp3 hp4 hr3_) cd_B0 (by decide) (nB (by decide)) (ix := 494) lk_2017 lk_2019 lkp_87 ⟨rfl, rfl, Nat.le_of_ble_eq_true rfl, Nat.le_of_ble_eq_true rfl⟩ rfl (rest := []) rfl (Nat.le_of_ble_eq_true rfl) ⟨Nat.zero_le _, Nat.zero_le _⟩ (by decide +kernel) (fun _ hc4_ => ?_)
  refine g_st (st2 := []) rfl ?_
  refine g_aload_n C 0 rfl (by decide +kernel) ?_
  refine g_iconst C 3 (cK rfl) (by decide +kernel) ?_
  obtain ⟨r6_, d5_, hr7_, h⟩ := bd_some h
  refine g_callV C mw_Mo_firstOf [(0, 3)] 0 cl12 rfl (ok_Mo_firstOf 3 d1_ (cK rfl) hr7_) cd_B0 (by decide) (nB (by decide)) (ix := 504) lk_2025 lk_2027 lkp_89 ⟨rfl, rfl, Nat.le_of_ble_eq_true rfl, Nat.le_of_ble_eq_true rfl⟩ rfl (rest := []) rfl (Nat.le_of_ble_eq_true rfl) ⟨Nat.zero_le _, Nat.zero_le _⟩ (by decide +kernel) (fun _ hc8_ => ?_)
  replace hc8_ : c32 r6_ := hc8_
  refine g_st (st2 := [(0, r6_)]) rfl ?_
  refine g_iconst C (-1) (cK rfl) (by decide +kernel) ?_
  refine g_icmp_eq C (off := 7) (tgt := 22) hc8_ (cK rfl) (by decide +kernel) (by decide) (fun hc9_ => ?_) (fun hc9_ => ?_)
  · replace h := ite_t hc9_ h
    refine g_iconst C 0 (cK rfl) (by decide +kernel) ?_
    obtain ⟨rfl, rfl⟩ := ret_inj h
    exact g_zret C (Or.inl rfl) hlk hr (by decide +kernel)
  · replace h := ite_f hc9_ h
    refine g_iconst C 1 (cK rfl) (by decide +kernel) ?_
    refine g_goto C 23 (off := 4) (by decide +kernel) (by decide) ?_
    obtain ⟨rfl, rfl⟩ := ret_inj h
    exact g_zret C (Or.inr rfl) hlk hr (by decide +kernel)
/-! PollBooksModel.voided(IIII)I -/
def y_Mo_voided : MethodName := ⟨"PollBooksModel", "voided", "(IIII)I"⟩
def rm_Mo_voided : Room := { frames := 5, cells := 0, slots := 0, locals := 125 }
theorem mw_Mo_voided : MW y_Mo_voided prog_14_method_72_code 5 (some .int) 4 := ⟨lk_2048, lk_14, by decide +kernel⟩
def L_Mo_voided_b30 (s1 : Int) (d : Dt) : Option (Int × Dt) :=
  bd (L_Mo_gives s1 d) (fun r2_ d1_ => some (r2_, d1_))
def L_Mo_voided (p1 p2 p3 p4 : Int) (d : Dt) : Option (Int × Dt) :=
  bd (L_Mo_isAsked p1 p2 p3 p4 d) (fun r6_ d5_ => if r6_ = 0 then bd (L_Mo_refuse 1 d5_) (fun r11_ d10_ => some (r11_, d10_)) else bd (L_Mo_isVoid p1 p2 p3 p4 d5_) (fun r15_ d14_ => if r15_ = 0 then L_Mo_voided_b30 0 d14_ else L_Mo_voided_b30 1 d14_))
set_option maxHeartbeats 4000000 in
theorem ok_Mo_voided_b30 {p : Program} {l : Launch} {e : Env} {s : State} {m : MethodId} {args : Array Value} {below : List Frame} {meth : Method} {c : Code} {D : va_G} {cA : Nat → ClassId} {ad : Nat → Nat} {A : Nat → Prop} (C : Cx p s m args c prog_14_method_72_code 5 "PollBooksModel" D cA ad 1 A) (hlk : meth.locks = false) (hr : meth.sig.returnType = (some .int)) {r : Int} {d' : Dt} (s1 : Int) (d : Dt) (hs1 : cb s1) (h : L_Mo_voided_b30 s1 d = some (r, d')) : G p l e rm_Mo_voided s m args below meth c 0 0 (MQ below (fun _ => QC D cA ad 1 A (some .int) (some (0, r)) d') args s 0 0 A) 5 D cA ad 1 A 30 [(9, 0), (9, 0), (9, 0), (9, 0), (9, 0)] [(0, s1), (2, 0)] d := by
  unfold L_Mo_voided_b30 at h
  obtain ⟨r2_, d1_, hr3_, h⟩ := bd_some h
  refine g_callV C mw_Mo_gives [(0, s1)] 0 cl12 rfl (ok_Mo_gives s1 d (c32_cb hs1) hr3_) cd_B0 (by decide) (nB (by decide)) (ix := 312) lk_1783 lk_1785 lkp_60 ⟨rfl, rfl, Nat.le_of_ble_eq_true rfl, Nat.le_of_ble_eq_true rfl⟩ rfl (rest := []) rfl (Nat.le_of_ble_eq_true rfl) ⟨Nat.zero_le _, Nat.zero_le _⟩ (by decide +kernel) (fun _ hc4_ => ?_)
  replace hc4_ : c32 r2_ := hc4_
  refine g_st (st2 := [(0, r2_)]) rfl ?_
  refine g_goto C 41 (off := 8) (by decide +kernel) (by decide) ?_
  obtain ⟨rfl, rfl⟩ := ret_inj h
  exact g_iret C hc4_ hlk hr (by decide +kernel)
set_option maxHeartbeats 4000000 in
theorem ok_Mo_voided {l : Launch} {r : Int} {d' : Dt} (p1 p2 p3 p4 : Int) (d : Dt) (hp1 : c32 p1) (hp2 : c32 p2) (hp3 : c32 p3) (hp4 : c32 p4) (h : L_Mo_voided p1 p2 p3 p4 d = some (r, d')) : MC l y_Mo_voided prog_14_method_72_code 5 (some .int) rm_Mo_voided 1 [(2, 0), (0, p1), (0, p2), (0, p3), (0, p4)] d (some (0, r)) d' := by
  refine MC.of (by decide) (Nat.le_of_ble_eq_true rfl) ?_
  intro p e s m args below meth c D cA ad A C hlk hr
  replace C : Cx p s m args c prog_14_method_72_code 5 "PollBooksModel" D cA ad 1 A := C
  show G p l e rm_Mo_voided s m args below meth c 0 0 (MQ below (fun _ => QC D cA ad 1 A (some .int) (some (0, r)) d') args s 0 0 A) 5 D cA ad 1 A 0 [(2, 0), (0, p1), (0, p2), (0, p3), (0, p4)] [] d
  refine g_sub (lo2 := [(2, 0), (0, p1), (0, p2), (0, p3), (0, p4)]) (lsb_v (lsb_v (lsb_v (lsb_v (lsb_v lsb_e))))) ?_
  unfold L_Mo_voided at h
  refine g_aload_n C 0 rfl (by decide +kernel) ?_
  refine g_iload_n C 1 rfl (by decide +kernel) ?_
  refine g_iload_n C 2 rfl (by decide +kernel) ?_
  refine g_iload_n C 3 rfl (by decide +kernel) ?_
  refine g_iload C 4 rfl (by decide +kernel) ?_
  obtain ⟨r6_, d5_, hr7_, h⟩ := bd_some h
  refine g_callV C mw_Mo_isAsked [(0, p1), (0, p2), (0, p3), (0, p4)] 0 cl12 rfl (ok_Mo_isAsked p1 p2 p3 p4 d hp1 hp2 hp3 hp4 hr7_) cd_B0 (by decide) (nB (by decide)) (ix := 510) lk_2006 lk_2008 lkp_85 ⟨rfl, rfl, Nat.le_of_ble_eq_true rfl, Nat.le_of_ble_eq_true rfl⟩ rfl (rest := []) rfl (Nat.le_of_ble_eq_true rfl) ⟨Nat.zero_le _, Nat.zero_le _⟩ (by decide +kernel) (fun _ hc8_ => ?_)
  replace hc8_ : cb r6_ := hc8_
  refine g_st (st2 := [(0, r6_)]) rfl ?_
  refine g_if_eq C (off := 27) (tgt := 36) (c32_cb hc8_) (by decide +kernel) (by decide) (fun hc9_ => ?_) (fun hc9_ => ?_)
  · replace h := ite_t hc9_ h
    refine g_aload_n C 0 rfl (by decide +kernel) ?_
    refine g_iconst C 1 (cK rfl) (by decide +kernel) ?_
    obtain ⟨r11_, d10_, hr12_, h⟩ := bd_some h
    refine g_callV C mw_Mo_refuse [(0, 1)] 0 cl12 rfl (ok_Mo_refuse 1 d5_ (c32_cb (Or.inr rfl)) hr12_) cd_B0 (by decide) (nB (by decide)) (ix := 316) lk_1787 lk_1789 lkp_61 ⟨rfl, rfl, Nat.le_of_ble_eq_true rfl, Nat.le_of_ble_eq_true rfl⟩ rfl (rest := []) rfl (Nat.le_of_ble_eq_true rfl) ⟨Nat.zero_le _, Nat.zero_le _⟩ (by decide +kernel) (fun _ hc13_ => ?_)
    replace hc13_ : c32 r11_ := hc13_
    refine g_st (st2 := [(0, r11_)]) rfl ?_
    obtain ⟨rfl, rfl⟩ := ret_inj h
    exact g_iret C hc13_ hlk hr (by decide +kernel)
  · replace h := ite_f hc9_ h
    refine g_aload_n C 0 rfl (by decide +kernel) ?_
    refine g_aload_n C 0 rfl (by decide +kernel) ?_
    refine g_iload_n C 1 rfl (by decide +kernel) ?_
    refine g_iload_n C 2 rfl (by decide +kernel) ?_
    refine g_iload_n C 3 rfl (by decide +kernel) ?_
    refine g_iload C 4 rfl (by decide +kernel) ?_
    obtain ⟨r15_, d14_, hr16_, h⟩ := bd_some h
    refine g_callV C mw_Mo_isVoid [(0, p1), (0, p2), (0, p3), (0, p4)] 0 cl12 rfl (ok_Mo_isVoid p1 p2 p3 p4 d5_ hp1 hp2 hp3 hp4 hr16_) cd_B0 (by decide) (nB (by decide)) (ix := 517) lk_2049 lk_2051 lkp_93 ⟨rfl, rfl, Nat.le_of_ble_eq_true rfl, Nat.le_of_ble_eq_true rfl⟩ rfl (rest := [(2, 0)]) rfl (Nat.le_of_ble_eq_true rfl) ⟨Nat.zero_le _, Nat.zero_le _⟩ (by decide +kernel) (fun _ hc17_ => ?_)
    replace hc17_ : cb r15_ := hc17_
    refine g_st (st2 := [(0, r15_), (2, 0)]) rfl ?_
    refine g_if_eq C (off := 7) (tgt := 29) (c32_cb hc17_) (by decide +kernel) (by decide) (fun hc18_ => ?_) (fun hc18_ => ?_)
    · replace h := ite_t hc18_ h
      refine g_iconst C 0 (cK rfl) (by decide +kernel) ?_
      refine g_sub (lo2 := [(9, 0), (9, 0), (9, 0), (9, 0), (9, 0)]) (lsb_c (lsb_c (lsb_c (lsb_c (lsb_c lsb_e))))) ?_
      exact ok_Mo_voided_b30 C hlk hr 0 d14_ (Or.inl rfl) h
    · replace h := ite_f hc18_ h
      refine g_iconst C 1 (cK rfl) (by decide +kernel) ?_
      refine g_goto C 30 (off := 4) (by decide +kernel) (by decide) ?_
      refine g_sub (lo2 := [(9, 0), (9, 0), (9, 0), (9, 0), (9, 0)]) (lsb_c (lsb_c (lsb_c (lsb_c (lsb_c lsb_e))))) ?_
      exact ok_Mo_voided_b30 C hlk hr 1 d14_ (Or.inr rfl) h
/-! PollBooksModel.namesAt(II)I -/
def y_Mo_namesAt : MethodName := ⟨"PollBooksModel", "namesAt", "(II)I"⟩
def rm_Mo_namesAt : Room := { frames := 1, cells := 0, slots := 0, locals := 25 }
theorem mw_Mo_namesAt : MW y_Mo_namesAt prog_14_method_73_code 4 (some .int) 2 := ⟨lk_2060, lk_14, by decide +kernel⟩
def L_Mo_namesAt (p1 p2 : Int) (d : Dt) : Option (Int × Dt) :=
  bd (L_Mo_stand p1 p2 d) (fun r2_ d1_ => bd (L_Mo_lastOf 4 d1_) (fun r6_ d5_ => if r6_ = (-1) then some (2, d5_) else ck ((0 : Int) ≤ r6_ ∧ r6_ < 100) (ck ((0 : Int) ≤ (d5_ 47 r6_.toNat) ∧ (d5_ 47 r6_.toNat) < 120) (some ((d5_ 30 ((d5_ 47 r6_.toNat)).toNat), d5_)))))
set_option maxHeartbeats 4000000 in
theorem ok_Mo_namesAt {l : Launch} {r : Int} {d' : Dt} (p1 p2 : Int) (d : Dt) (hp1 : c32 p1) (hp2 : c32 p2) (h : L_Mo_namesAt p1 p2 d = some (r, d')) : MC l y_Mo_namesAt prog_14_method_73_code 4 (some .int) rm_Mo_namesAt 1 [(2, 0), (0, p1), (0, p2)] d (some (0, r)) d' := by
  refine MC.of (by decide) (Nat.le_of_ble_eq_true rfl) ?_
  intro p e s m args below meth c D cA ad A C hlk hr
  replace C : Cx p s m args c prog_14_method_73_code 4 "PollBooksModel" D cA ad 1 A := C
  show G p l e rm_Mo_namesAt s m args below meth c 0 0 (MQ below (fun _ => QC D cA ad 1 A (some .int) (some (0, r)) d') args s 0 0 A) 4 D cA ad 1 A 0 [(2, 0), (0, p1), (0, p2)] [] d
  refine g_sub (lo2 := [(2, 0), (0, p1), (0, p2), (9, 0)]) (lsb_v (lsb_v (lsb_v (lsb_n lsb_e)))) ?_
  unfold L_Mo_namesAt at h
  refine g_aload_n C 0 rfl (by decide +kernel) ?_
  refine g_iload_n C 1 rfl (by decide +kernel) ?_
  refine g_iload_n C 2 rfl (by decide +kernel) ?_
  obtain ⟨r2_, d1_, hr3_, h⟩ := bd_some h
  refine g_callV C mw_Mo_stand [(0, p1), (0, p2)] 0 cl12 rfl (ok_Mo_stand p1 p2 d hp1 hp2 hr3_) cd_B0 (by decide) (nB (by decide)) (ix := 481) lk_1994 lk_1996 lkp_84 ⟨rfl, rfl, Nat.le_of_ble_eq_true rfl, Nat.le_of_ble_eq_true rfl⟩ rfl (rest := []) rfl (Nat.le_of_ble_eq_true rfl) ⟨Nat.zero_le _, Nat.zero_le _⟩ (by decide +kernel) (fun _ hc4_ => ?_)
  refine g_st (st2 := []) rfl ?_
  refine g_aload_n C 0 rfl (by decide +kernel) ?_
  refine g_iconst C 4 (cK rfl) (by decide +kernel) ?_
  obtain ⟨r6_, d5_, hr7_, h⟩ := bd_some h
  refine g_callV C mw_Mo_lastOf [(0, 4)] 0 cl12 rfl (ok_Mo_lastOf 4 d1_ (cK rfl) hr7_) cd_B0 (by decide) (nB (by decide)) (ix := 498) lk_2021 lk_2023 lkp_88 ⟨rfl, rfl, Nat.le_of_ble_eq_true rfl, Nat.le_of_ble_eq_true rfl⟩ rfl (rest := []) rfl (Nat.le_of_ble_eq_true rfl) ⟨Nat.zero_le _, Nat.zero_le _⟩ (by decide +kernel) (fun _ hc8_ => ?_)
  replace hc8_ : c32 r6_ := hc8_
  refine g_st (st2 := [(0, r6_)]) rfl ?_
  refine s_istore_n C 3 (lo' := [(2, 0), (0, p1), (0, p2), (0, r6_)]) (by decide) (s1k (s1k (s1n (by decide) s1z))) (by decide +kernel) ?_
  refine g_iload_n C 3 rfl (by decide +kernel) ?_
  refine g_iconst C (-1) (cK rfl) (by decide +kernel) ?_
  refine g_icmp_ne C (off := 7) (tgt := 21) hc8_ (cK rfl) (by decide +kernel) (by decide) (fun hc9_ => ?_) (fun hc9_ => ?_)
  · replace h := ite_t hc9_ h
    refine g_iconst C 2 (cK rfl) (by decide +kernel) ?_
    refine g_goto C 32 (off := 14) (by decide +kernel) (by decide) ?_
    obtain ⟨rfl, rfl⟩ := ret_inj h
    exact g_iret C (cK rfl) hlk hr (by decide +kernel)
  · replace h := ite_f hc9_ h
    refine g_aload_n C 0 rfl (by decide +kernel) ?_
    refine g_getR C cl12 0 48 30 rfl cd_B0 ⟨by decide, rfl, by decide⟩ rfl rfl (nB (by decide)) (ix := 110) lk_1450 (by decide +kernel) ?_
    refine g_aload_n C 0 rfl (by decide +kernel) ?_
    refine g_getR C cl12 0 65 47 rfl cd_B0 ⟨by decide, rfl, by decide⟩ rfl rfl (nB (by decide)) (ix := 161) lk_1467 (by decide +kernel) ?_
    refine g_iload_n C 3 rfl (by decide +kernel) ?_
    obtain ⟨hb10_, h⟩ := ck_some h
    refine g_iald C 47 hc8_ rfl cd_B47 (nB (by decide)) hb10_ (by decide +kernel) (fun hc11_ => ?_)
    obtain ⟨hb12_, h⟩ := ck_some h
    refine g_iald C 30 hc11_ rfl cd_B30 (nB (by decide)) hb12_ (by decide +kernel) (fun hc13_ => ?_)
    obtain ⟨rfl, rfl⟩ := ret_inj h
    exact g_iret C hc13_ hlk hr (by decide +kernel)
/-! PollBooksModel.names(II)I -/
def y_Mo_names : MethodName := ⟨"PollBooksModel", "names", "(II)I"⟩
def rm_Mo_names : Room := { frames := 2, cells := 0, slots := 0, locals := 48 }
theorem mw_Mo_names : MW y_Mo_names prog_14_method_74_code 3 (some .int) 2 := ⟨lk_2056, lk_14, by decide +kernel⟩
def L_Mo_names_b27 (d : Dt) : Option (Int × Dt) :=
  bd (L_Mo_refuse 1 d) (fun r2_ d1_ => some (r2_, d1_))
def L_Mo_names (p1 p2 : Int) (d : Dt) : Option (Int × Dt) :=
  bd (L_Mo_isPlace p1 d) (fun r6_ d5_ => if r6_ = 0 then L_Mo_names_b27 d5_ else bd (L_Mo_isDay p2 d5_) (fun r11_ d10_ => if r11_ = 0 then L_Mo_names_b27 d10_ else bd (L_Mo_namesAt p1 p2 d10_) (fun r16_ d15_ => bd (L_Mo_gives r16_ d15_) (fun r20_ d19_ => some (r20_, d19_)))))
set_option maxHeartbeats 4000000 in
theorem ok_Mo_names_b27 {p : Program} {l : Launch} {e : Env} {s : State} {m : MethodId} {args : Array Value} {below : List Frame} {meth : Method} {c : Code} {D : va_G} {cA : Nat → ClassId} {ad : Nat → Nat} {A : Nat → Prop} (C : Cx p s m args c prog_14_method_74_code 3 "PollBooksModel" D cA ad 1 A) (hlk : meth.locks = false) (hr : meth.sig.returnType = (some .int)) {r : Int} {d' : Dt} (d : Dt)  (h : L_Mo_names_b27 d = some (r, d')) : G p l e rm_Mo_names s m args below meth c 0 0 (MQ below (fun _ => QC D cA ad 1 A (some .int) (some (0, r)) d') args s 0 0 A) 3 D cA ad 1 A 27 [(2, 0), (9, 0), (9, 0)] [] d := by
  unfold L_Mo_names_b27 at h
  refine g_aload_n C 0 rfl (by decide +kernel) ?_
  refine g_iconst C 1 (cK rfl) (by decide +kernel) ?_
  obtain ⟨r2_, d1_, hr3_, h⟩ := bd_some h
  refine g_callV C mw_Mo_refuse [(0, 1)] 0 cl12 rfl (ok_Mo_refuse 1 d (c32_cb (Or.inr rfl)) hr3_) cd_B0 (by decide) (nB (by decide)) (ix := 316) lk_1787 lk_1789 lkp_61 ⟨rfl, rfl, Nat.le_of_ble_eq_true rfl, Nat.le_of_ble_eq_true rfl⟩ rfl (rest := []) rfl (Nat.le_of_ble_eq_true rfl) ⟨Nat.zero_le _, Nat.zero_le _⟩ (by decide +kernel) (fun _ hc4_ => ?_)
  replace hc4_ : c32 r2_ := hc4_
  refine g_st (st2 := [(0, r2_)]) rfl ?_
  obtain ⟨rfl, rfl⟩ := ret_inj h
  exact g_iret C hc4_ hlk hr (by decide +kernel)
set_option maxHeartbeats 4000000 in
theorem ok_Mo_names {l : Launch} {r : Int} {d' : Dt} (p1 p2 : Int) (d : Dt) (hp1 : c32 p1) (hp2 : c32 p2) (h : L_Mo_names p1 p2 d = some (r, d')) : MC l y_Mo_names prog_14_method_74_code 3 (some .int) rm_Mo_names 1 [(2, 0), (0, p1), (0, p2)] d (some (0, r)) d' := by
  refine MC.of (by decide) (Nat.le_of_ble_eq_true rfl) ?_
  intro p e s m args below meth c D cA ad A C hlk hr
  replace C : Cx p s m args c prog_14_method_74_code 3 "PollBooksModel" D cA ad 1 A := C
  show G p l e rm_Mo_names s m args below meth c 0 0 (MQ below (fun _ => QC D cA ad 1 A (some .int) (some (0, r)) d') args s 0 0 A) 3 D cA ad 1 A 0 [(2, 0), (0, p1), (0, p2)] [] d
  refine g_sub (lo2 := [(2, 0), (0, p1), (0, p2)]) (lsb_v (lsb_v (lsb_v lsb_e))) ?_
  unfold L_Mo_names at h
  refine g_iload_n C 1 rfl (by decide +kernel) ?_
  obtain ⟨r6_, d5_, hr7_, h⟩ := bd_some h
  refine g_callS C mw_Mo_isPlace [(0, p1)] (ok_Mo_isPlace p1 d hp1 hr7_) (ix := 325) lk_1798 lk_1799 ⟨rfl, rfl, Nat.le_of_ble_eq_true rfl, Nat.le_of_ble_eq_true rfl⟩ rfl (rest := []) rfl (Nat.le_of_ble_eq_true rfl) ⟨Nat.zero_le _, Nat.zero_le _⟩ (by decide +kernel) (fun _ hc8_ => ?_)
  replace hc8_ : cb r6_ := hc8_
  refine g_st (st2 := [(0, r6_)]) rfl ?_
  refine g_if_eq C (off := 23) (tgt := 27) (c32_cb hc8_) (by decide +kernel) (by decide) (fun hc9_ => ?_) (fun hc9_ => ?_)
  · replace h := ite_t hc9_ h
    refine g_sub (lo2 := [(2, 0), (9, 0), (9, 0)]) (lsb_v (lsb_c (lsb_c lsb_e))) ?_
    exact ok_Mo_names_b27 C hlk hr d5_  h
  · replace h := ite_f hc9_ h
    refine g_iload_n C 2 rfl (by decide +kernel) ?_
    obtain ⟨r11_, d10_, hr12_, h⟩ := bd_some h
    refine g_callS C mw_Mo_isDay [(0, p2)] (ok_Mo_isDay p2 d5_ hp2 hr12_) (ix := 340) lk_1815 lk_1816 ⟨rfl, rfl, Nat.le_of_ble_eq_true rfl, Nat.le_of_ble_eq_true rfl⟩ rfl (rest := []) rfl (Nat.le_of_ble_eq_true rfl) ⟨Nat.zero_le _, Nat.zero_le _⟩ (by decide +kernel) (fun _ hc13_ => ?_)
    replace hc13_ : cb r11_ := hc13_
    refine g_st (st2 := [(0, r11_)]) rfl ?_
    refine g_if_eq C (off := 16) (tgt := 27) (c32_cb hc13_) (by decide +kernel) (by decide) (fun hc14_ => ?_) (fun hc14_ => ?_)
    · replace h := ite_t hc14_ h
      refine g_sub (lo2 := [(2, 0), (9, 0), (9, 0)]) (lsb_v (lsb_c (lsb_c lsb_e))) ?_
      exact ok_Mo_names_b27 C hlk hr d10_  h
    · replace h := ite_f hc14_ h
      refine g_aload_n C 0 rfl (by decide +kernel) ?_
      refine g_aload_n C 0 rfl (by decide +kernel) ?_
      refine g_iload_n C 1 rfl (by decide +kernel) ?_
      refine g_iload_n C 2 rfl (by decide +kernel) ?_
      obtain ⟨r16_, d15_, hr17_, h⟩ := bd_some h
      refine g_callV C mw_Mo_namesAt [(0, p1), (0, p2)] 0 cl12 rfl (ok_Mo_namesAt p1 p2 d10_ hp1 hp2 hr17_) cd_B0 (by decide) (nB (by decide)) (ix := 520) lk_2057 lk_2059 lkp_94 ⟨rfl, rfl, Nat.le_of_ble_eq_true rfl, Nat.le_of_ble_eq_true rfl⟩ rfl (rest := [(2, 0)]) rfl (Nat.le_of_ble_eq_true rfl) ⟨Nat.zero_le _, Nat.zero_le _⟩ (by decide +kernel) (fun _ hc18_ => ?_)
      replace hc18_ : c32 r16_ := hc18_
      refine g_st (st2 := [(0, r16_), (2, 0)]) rfl ?_
      obtain ⟨r20_, d19_, hr21_, h⟩ := bd_some h
      refine g_callV C mw_Mo_gives [(0, r16_)] 0 cl12 rfl (ok_Mo_gives r16_ d15_ hc18_ hr21_) cd_B0 (by decide) (nB (by decide)) (ix := 312) lk_1783 lk_1785 lkp_60 ⟨rfl, rfl, Nat.le_of_ble_eq_true rfl, Nat.le_of_ble_eq_true rfl⟩ rfl (rest := []) rfl (Nat.le_of_ble_eq_true rfl) ⟨Nat.zero_le _, Nat.zero_le _⟩ (by decide +kernel) (fun _ hc22_ => ?_)
      replace hc22_ : c32 r20_ := hc22_
      refine g_st (st2 := [(0, r20_)]) rfl ?_
      refine g_goto C 32 (off := 8) (by decide +kernel) (by decide) ?_
      obtain ⟨rfl, rfl⟩ := ret_inj h
      exact g_iret C hc22_ hlk hr (by decide +kernel)
/-! PollBooksModel.isSet(I)Z -/
def y_Mo_isSet : MethodName := ⟨"PollBooksModel", "isSet", "(I)Z"⟩
def rm_Mo_isSet : Room := { frames := 0, cells := 0, slots := 0, locals := 0 }
theorem mw_Mo_isSet : MW y_Mo_isSet prog_14_method_22_code 1 (some .boolean) 1 := ⟨lk_2067, lk_14, by decide +kernel⟩
def L_Mo_isSet (p1 : Int) (d : Dt) : Option (Int × Dt) :=
  if p1 < 1 then some (0, d) else if 15 < p1 then some (0, d) else some (1, d)
set_option maxHeartbeats 4000000 in
theorem ok_Mo_isSet {l : Launch} {r : Int} {d' : Dt} (p1 : Int) (d : Dt) (hp1 : c32 p1) (h : L_Mo_isSet p1 d = some (r, d')) : MC l y_Mo_isSet prog_14_method_22_code 1 (some .boolean) rm_Mo_isSet 1 [(0, p1)] d (some (0, r)) d' := by
  refine MC.of (by decide) (Nat.le_of_ble_eq_true rfl) ?_
  intro p e s m args below meth c D cA ad A C hlk hr
  replace C : Cx p s m args c prog_14_method_22_code 1 "PollBooksModel" D cA ad 1 A := C
  show G p l e rm_Mo_isSet s m args below meth c 0 0 (MQ below (fun _ => QC D cA ad 1 A (some .boolean) (some (0, r)) d') args s 0 0 A) 1 D cA ad 1 A 0 [(0, p1)] [] d
  refine g_sub (lo2 := [(0, p1)]) (lsb_v lsb_e) ?_
  unfold L_Mo_isSet at h
  refine g_iload_n C 0 rfl (by decide +kernel) ?_
  refine g_iconst C 1 (cK rfl) (by decide +kernel) ?_
  refine g_icmp_lt C (off := 13) (tgt := 15) hp1 (c32_cb (Or.inr rfl)) (by decide +kernel) (by decide) (fun hc1_ => ?_) (fun hc1_ => ?_)
  · replace h := ite_t hc1_ h
    refine g_iconst C 0 (cK rfl) (by decide +kernel) ?_
    obtain ⟨rfl, rfl⟩ := ret_inj h
    exact g_zret C (Or.inl rfl) hlk hr (by decide +kernel)
  · replace h := ite_f hc1_ h
    refine g_iload_n C 0 rfl (by decide +kernel) ?_
    refine g_bipush C 15 (by decide) (by decide +kernel) ?_
    refine g_icmp_gt C (off := 7) (tgt := 15) hp1 (cK rfl) (by decide +kernel) (by decide) (fun hc2_ => ?_) (fun hc2_ => ?_)
    · replace h := ite_t hc2_ h
      refine g_iconst C 0 (cK rfl) (by decide +kernel) ?_
      obtain ⟨rfl, rfl⟩ := ret_inj h
      exact g_zret C (Or.inl rfl) hlk hr (by decide +kernel)
    · replace h := ite_f hc2_ h
      refine g_iconst C 1 (cK rfl) (by decide +kernel) ?_
      refine g_goto C 16 (off := 4) (by decide +kernel) (by decide) ?_
      obtain ⟨rfl, rfl⟩ := ret_inj h
      exact g_zret C (Or.inr rfl) hlk hr (by decide +kernel)
/-! PollBooksModel.entry(IJIII)I -/
def y_Mo_entry : MethodName := ⟨"PollBooksModel", "entry", "(IJIII)I"⟩
def rm_Mo_entry : Room := { frames := 1, cells := 0, slots := 0, locals := 24 }
theorem mw_Mo_entry : MW y_Mo_entry prog_14_method_75_code 8 (some .int) 5 := ⟨lk_2064, lk_14, by decide +kernel⟩
def L_Mo_entry_b46 (d : Dt) : Option (Int × Dt) :=
  bd (L_Mo_refuse 1 d) (fun r2_ d1_ => some (r2_, d1_))
def L_Mo_entry_b30 (x1 x2 x4 x5 x6 : Int) (d : Dt) : Option (Int × Dt) :=
  bd (L_Mo_isMinute x5 d) (fun r6_ d5_ => if r6_ = 0 then L_Mo_entry_b46 d5_ else bd (L_Mo_isSet x6 d5_) (fun r11_ d10_ => if r11_ = 0 then L_Mo_entry_b46 d10_ else ck ((0 : Int) ≤ x1 ∧ x1 < 3) (if (d10_ 52 x1.toNat) = 30 then bd (L_Mo_refuse 4 d10_) (fun r19_ d18_ => some (r19_, d18_)) else ck ((0 : Int) ≤ x1 ∧ x1 < 3) (lt_ (w32 ((w32 (30 * x1)) + (d10_ 52 x1.toNat))) (fun v24_ => ck ((0 : Int) ≤ v24_ ∧ v24_ < 90) (ck ((0 : Int) ≤ v24_ ∧ v24_ < 90) (ck ((0 : Int) ≤ v24_ ∧ v24_ < 90) (ck ((0 : Int) ≤ v24_ ∧ v24_ < 90) (ck ((0 : Int) ≤ x1 ∧ x1 < 3) (ck ((0 : Int) ≤ x1 ∧ x1 < 3) (ck ((0 : Int) ≤ x1 ∧ x1 < 3) (bd (L_Mo_gives (w32 (((up2 (up2 (up2 (up2 (up2 d10_ 57 v24_.toNat x2) 53 v24_.toNat x4) 54 v24_.toNat x5) 55 v24_.toNat x6) 52 x1.toNat (w32 ((d10_ 52 x1.toNat) + 1))) 52 x1.toNat) - 1)) (up2 (up2 (up2 (up2 (up2 d10_ 57 v24_.toNat x2) 53 v24_.toNat x4) 54 v24_.toNat x5) 55 v24_.toNat x6) 52 x1.toNat (w32 ((d10_ 52 x1.toNat) + 1)))) (fun r37_ d36_ => some (r37_, d36_))))))))))))))
def L_Mo_entry (p1 p2 p3 p4 p5 : Int) (d : Dt) : Option (Int × Dt) :=
  if p1 < 0 then L_Mo_entry_b46 d else if 2 < p1 then L_Mo_entry_b46 d else bd (L_Mo_isName p2 d) (fun r43_ d42_ => if r43_ = 0 then L_Mo_entry_b46 d42_ else if p3 = (-1) then L_Mo_entry_b30 p1 p2 p3 p4 p5 d42_ else bd (L_Mo_isTrade p3 d42_) (fun r49_ d48_ => if r49_ = 0 then L_Mo_entry_b46 d48_ else L_Mo_entry_b30 p1 p2 p3 p4 p5 d48_))
set_option maxHeartbeats 4000000 in
theorem ok_Mo_entry_b46 {p : Program} {l : Launch} {e : Env} {s : State} {m : MethodId} {args : Array Value} {below : List Frame} {meth : Method} {c : Code} {D : va_G} {cA : Nat → ClassId} {ad : Nat → Nat} {A : Nat → Prop} (C : Cx p s m args c prog_14_method_75_code 8 "PollBooksModel" D cA ad 1 A) (hlk : meth.locks = false) (hr : meth.sig.returnType = (some .int)) {r : Int} {d' : Dt} (d : Dt)  (h : L_Mo_entry_b46 d = some (r, d')) : G p l e rm_Mo_entry s m args below meth c 0 0 (MQ below (fun _ => QC D cA ad 1 A (some .int) (some (0, r)) d') args s 0 0 A) 8 D cA ad 1 A 46 [(2, 0), (9, 0), (9, 0), (9, 0), (9, 0), (9, 0), (9, 0), (9, 0)] [] d := by
  unfold L_Mo_entry_b46 at h
  refine g_aload_n C 0 rfl (by decide +kernel) ?_
  refine g_iconst C 1 (cK rfl) (by decide +kernel) ?_
  obtain ⟨r2_, d1_, hr3_, h⟩ := bd_some h
  refine g_callV C mw_Mo_refuse [(0, 1)] 0 cl12 rfl (ok_Mo_refuse 1 d (c32_cb (Or.inr rfl)) hr3_) cd_B0 (by decide) (nB (by decide)) (ix := 316) lk_1787 lk_1789 lkp_61 ⟨rfl, rfl, Nat.le_of_ble_eq_true rfl, Nat.le_of_ble_eq_true rfl⟩ rfl (rest := []) rfl (Nat.le_of_ble_eq_true rfl) ⟨Nat.zero_le _, Nat.zero_le _⟩ (by decide +kernel) (fun _ hc4_ => ?_)
  replace hc4_ : c32 r2_ := hc4_
  refine g_st (st2 := [(0, r2_)]) rfl ?_
  obtain ⟨rfl, rfl⟩ := ret_inj h
  exact g_iret C hc4_ hlk hr (by decide +kernel)
set_option maxHeartbeats 4000000 in
theorem ok_Mo_entry_b30 {p : Program} {l : Launch} {e : Env} {s : State} {m : MethodId} {args : Array Value} {below : List Frame} {meth : Method} {c : Code} {D : va_G} {cA : Nat → ClassId} {ad : Nat → Nat} {A : Nat → Prop} (C : Cx p s m args c prog_14_method_75_code 8 "PollBooksModel" D cA ad 1 A) (hlk : meth.locks = false) (hr : meth.sig.returnType = (some .int)) {r : Int} {d' : Dt} (x1 x2 x4 x5 x6 : Int) (d : Dt) (hx1 : c32 x1) (hx2 : c64 x2) (hx4 : c32 x4) (hx5 : c32 x5) (hx6 : c32 x6) (h : L_Mo_entry_b30 x1 x2 x4 x5 x6 d = some (r, d')) : G p l e rm_Mo_entry s m args below meth c 0 0 (MQ below (fun _ => QC D cA ad 1 A (some .int) (some (0, r)) d') args s 0 0 A) 8 D cA ad 1 A 30 [(2, 0), (0, x1), (1, x2), (9, 0), (0, x4), (0, x5), (0, x6), (9, 0)] [] d := by
  unfold L_Mo_entry_b30 at h
  refine g_iload C 5 rfl (by decide +kernel) ?_
  obtain ⟨r6_, d5_, hr7_, h⟩ := bd_some h
  refine g_callS C mw_Mo_isMinute [(0, x5)] (ok_Mo_isMinute x5 d hx5 hr7_) (ix := 507) lk_2010 lk_2011 ⟨rfl, rfl, Nat.le_of_ble_eq_true rfl, Nat.le_of_ble_eq_true rfl⟩ rfl (rest := []) rfl (Nat.le_of_ble_eq_true rfl) ⟨Nat.zero_le _, Nat.zero_le _⟩ (by decide +kernel) (fun _ hc8_ => ?_)
  replace hc8_ : cb r6_ := hc8_
  refine g_st (st2 := [(0, r6_)]) rfl ?_
  refine g_if_eq C (off := 11) (tgt := 46) (c32_cb hc8_) (by decide +kernel) (by decide) (fun hc9_ => ?_) (fun hc9_ => ?_)
  · replace h := ite_t hc9_ h
    refine g_sub (lo2 := [(2, 0), (9, 0), (9, 0), (9, 0), (9, 0), (9, 0), (9, 0), (9, 0)]) (lsb_v (lsb_c (lsb_c (lsb_c (lsb_c (lsb_c (lsb_c (lsb_c lsb_e)))))))) ?_
    exact ok_Mo_entry_b46 C hlk hr d5_  h
  · replace h := ite_f hc9_ h
    refine g_iload C 6 rfl (by decide +kernel) ?_
    obtain ⟨r11_, d10_, hr12_, h⟩ := bd_some h
    refine g_callS C mw_Mo_isSet [(0, x6)] (ok_Mo_isSet x6 d5_ hx6 hr12_) (ix := 523) lk_2065 lk_2066 ⟨rfl, rfl, Nat.le_of_ble_eq_true rfl, Nat.le_of_ble_eq_true rfl⟩ rfl (rest := []) rfl (Nat.le_of_ble_eq_true rfl) ⟨Nat.zero_le _, Nat.zero_le _⟩ (by decide +kernel) (fun _ hc13_ => ?_)
    replace hc13_ : cb r11_ := hc13_
    refine g_st (st2 := [(0, r11_)]) rfl ?_
    refine g_if_ne C (off := 9) (tgt := 52) (c32_cb hc13_) (by decide +kernel) (by decide) (fun hc14_ => ?_) (fun hc14_ => ?_)
    · replace h := ite_t hc14_ h
      refine g_sub (lo2 := [(2, 0), (9, 0), (9, 0), (9, 0), (9, 0), (9, 0), (9, 0), (9, 0)]) (lsb_v (lsb_c (lsb_c (lsb_c (lsb_c (lsb_c (lsb_c (lsb_c lsb_e)))))))) ?_
      exact ok_Mo_entry_b46 C hlk hr d10_  h
    · replace h := ite_f hc14_ h
      refine g_aload_n C 0 rfl (by decide +kernel) ?_
      refine g_getR C cl12 0 72 52 rfl cd_B0 ⟨by decide, rfl, by decide⟩ rfl rfl (nB (by decide)) (ix := 176) lk_1474 (by decide +kernel) ?_
      refine g_iload_n C 1 rfl (by decide +kernel) ?_
      obtain ⟨hb15_, h⟩ := ck_some h
      refine g_iald C 52 hx1 rfl cd_B52 (nB (by decide)) hb15_ (by decide +kernel) (fun hc16_ => ?_)
      refine g_bipush C 30 (by decide) (by decide +kernel) ?_
      refine g_icmp_ne C (off := 9) (tgt := 69) hc16_ (cK rfl) (by decide +kernel) (by decide) (fun hc17_ => ?_) (fun hc17_ => ?_)
      · replace h := ite_t hc17_ h
        refine g_aload_n C 0 rfl (by decide +kernel) ?_
        refine g_iconst C 4 (cK rfl) (by decide +kernel) ?_
        obtain ⟨r19_, d18_, hr20_, h⟩ := bd_some h
        refine g_callV C mw_Mo_refuse [(0, 4)] 0 cl12 rfl (ok_Mo_refuse 4 d10_ (cK rfl) hr20_) cd_B0 (by decide) (nB (by decide)) (ix := 316) lk_1787 lk_1789 lkp_61 ⟨rfl, rfl, Nat.le_of_ble_eq_true rfl, Nat.le_of_ble_eq_true rfl⟩ rfl (rest := []) rfl (Nat.le_of_ble_eq_true rfl) ⟨Nat.zero_le _, Nat.zero_le _⟩ (by decide +kernel) (fun _ hc21_ => ?_)
        replace hc21_ : c32 r19_ := hc21_
        refine g_st (st2 := [(0, r19_)]) rfl ?_
        obtain ⟨rfl, rfl⟩ := ret_inj h
        exact g_iret C hc21_ hlk hr (by decide +kernel)
      · replace h := ite_f hc17_ h
        refine g_bipush C 30 (by decide) (by decide +kernel) ?_
        refine g_iload_n C 1 rfl (by decide +kernel) ?_
        refine g_imul C (by decide +kernel) ?_
        refine g_aload_n C 0 rfl (by decide +kernel) ?_
        refine g_getR C cl12 0 72 52 rfl cd_B0 ⟨by decide, rfl, by decide⟩ rfl rfl (nB (by decide)) (ix := 176) lk_1474 (by decide +kernel) ?_
        refine g_iload_n C 1 rfl (by decide +kernel) ?_
        obtain ⟨hb22_, h⟩ := ck_some h
        refine g_iald C 52 hx1 rfl cd_B52 (nB (by decide)) hb22_ (by decide +kernel) (fun hc23_ => ?_)
        refine g_iadd C (by decide +kernel) ?_
        obtain ⟨v24_, ev25_, h⟩ := lt_some h
        refine g_val ev25_.symm ?_
        have hv26_ : c32 v24_ := by rw [ev25_]; exact (w32_c _)
        refine s_istore C 7 (lo' := [(2, 0), (0, x1), (1, x2), (9, 0), (0, x4), (0, x5), (0, x6), (0, v24_)]) (by decide) (s1k (s1k (s1k (s1k (s1k (s1k (s1n (by decide) s1z))))))) (by decide +kernel) ?_
        refine g_aload_n C 0 rfl (by decide +kernel) ?_
        refine g_getR C cl12 0 77 57 rfl cd_B0 ⟨by decide, rfl, by decide⟩ rfl rfl (nB (by decide)) (ix := 191) lk_1479 (by decide +kernel) ?_
        refine g_iload C 7 rfl (by decide +kernel) ?_
        refine g_lload_n C 2 rfl (by decide +kernel) ?_
        obtain ⟨hb27_, h⟩ := ck_some h
        refine g_last C 57 hx2 hv26_ rfl cd_B57 (nB (by decide)) hb27_ (by decide +kernel) ?_
        refine g_aload_n C 0 rfl (by decide +kernel) ?_
        refine g_getR C cl12 0 73 53 rfl cd_B0 ⟨by decide, rfl, by decide⟩ rfl rfl (nB (by decide)) (ix := 179) lk_1475 (by decide +kernel) ?_
        refine g_iload C 7 rfl (by decide +kernel) ?_
        refine g_iload C 4 rfl (by decide +kernel) ?_
        obtain ⟨hb28_, h⟩ := ck_some h
        refine g_iast C 53 hx4 hv26_ rfl cd_B53 (nB (by decide)) hb28_ (by decide +kernel) ?_
        refine g_aload_n C 0 rfl (by decide +kernel) ?_
        refine g_getR C cl12 0 74 54 rfl cd_B0 ⟨by decide, rfl, by decide⟩ rfl rfl (nB (by decide)) (ix := 182) lk_1476 (by decide +kernel) ?_
        refine g_iload C 7 rfl (by decide +kernel) ?_
        refine g_iload C 5 rfl (by decide +kernel) ?_
        obtain ⟨hb29_, h⟩ := ck_some h
        refine g_iast C 54 hx5 hv26_ rfl cd_B54 (nB (by decide)) hb29_ (by decide +kernel) ?_
        refine g_aload_n C 0 rfl (by decide +kernel) ?_
        refine g_getR C cl12 0 75 55 rfl cd_B0 ⟨by decide, rfl, by decide⟩ rfl rfl (nB (by decide)) (ix := 185) lk_1477 (by decide +kernel) ?_
        refine g_iload C 7 rfl (by decide +kernel) ?_
        refine g_iload C 6 rfl (by decide +kernel) ?_
        obtain ⟨hb30_, h⟩ := ck_some h
        refine g_iast C 55 hx6 hv26_ rfl cd_B55 (nB (by decide)) hb30_ (by decide +kernel) ?_
        refine g_aload_n C 0 rfl (by decide +kernel) ?_
        refine g_getR C cl12 0 72 52 rfl cd_B0 ⟨by decide, rfl, by decide⟩ rfl rfl (nB (by decide)) (ix := 176) lk_1474 (by decide +kernel) ?_
        refine g_iload_n C 1 rfl (by decide +kernel) ?_
        refine g_dup2 C tg0 tg2 (by decide +kernel) ?_
        obtain ⟨hb31_, h⟩ := ck_some h
        refine g_iald C 52 hx1 rfl cd_B52 (nB (by decide)) hb31_ (by decide +kernel) (fun hc32_ => ?_)
        refine g_val (y := (d10_ 52 x1.toNat)) rfl ?_
        replace hc32_ : c32 (d10_ 52 x1.toNat) := hc32_
        refine g_iconst C 1 (cK rfl) (by decide +kernel) ?_
        refine g_iadd C (by decide +kernel) ?_
        obtain ⟨hb33_, h⟩ := ck_some h
        refine g_iast C 52 (w32_c _) hx1 rfl cd_B52 (nB (by decide)) hb33_ (by decide +kernel) ?_
        refine g_aload_n C 0 rfl (by decide +kernel) ?_
        refine g_aload_n C 0 rfl (by decide +kernel) ?_
        refine g_getR C cl12 0 72 52 rfl cd_B0 ⟨by decide, rfl, by decide⟩ rfl rfl (nB (by decide)) (ix := 176) lk_1474 (by decide +kernel) ?_
        refine g_iload_n C 1 rfl (by decide +kernel) ?_
        obtain ⟨hb34_, h⟩ := ck_some h
        refine g_iald C 52 hx1 rfl cd_B52 (nB (by decide)) hb34_ (by decide +kernel) (fun hc35_ => ?_)
        refine g_iconst C 1 (cK rfl) (by decide +kernel) ?_
        refine g_isub C (by decide +kernel) ?_
        obtain ⟨r37_, d36_, hr38_, h⟩ := bd_some h
        refine g_callV C mw_Mo_gives [(0, (w32 (((up2 (up2 (up2 (up2 (up2 d10_ 57 v24_.toNat x2) 53 v24_.toNat x4) 54 v24_.toNat x5) 55 v24_.toNat x6) 52 x1.toNat (w32 ((d10_ 52 x1.toNat) + 1))) 52 x1.toNat) - 1)))] 0 cl12 rfl (ok_Mo_gives (w32 (((up2 (up2 (up2 (up2 (up2 d10_ 57 v24_.toNat x2) 53 v24_.toNat x4) 54 v24_.toNat x5) 55 v24_.toNat x6) 52 x1.toNat (w32 ((d10_ 52 x1.toNat) + 1))) 52 x1.toNat) - 1)) (up2 (up2 (up2 (up2 (up2 d10_ 57 v24_.toNat x2) 53 v24_.toNat x4) 54 v24_.toNat x5) 55 v24_.toNat x6) 52 x1.toNat (w32 ((d10_ 52 x1.toNat) + 1))) (w32_c _) hr38_) cd_B0 (by decide) (nB (by decide)) (ix := 312) lk_1783 lk_1785 lkp_60 ⟨rfl, rfl, Nat.le_of_ble_eq_true rfl, Nat.le_of_ble_eq_true rfl⟩ rfl (rest := []) rfl (Nat.le_of_ble_eq_true rfl) ⟨Nat.zero_le _, Nat.zero_le _⟩ (by decide +kernel) (fun _ hc39_ => ?_)
        replace hc39_ : c32 r37_ := hc39_
        refine g_st (st2 := [(0, r37_)]) rfl ?_
        obtain ⟨rfl, rfl⟩ := ret_inj h
        exact g_iret C hc39_ hlk hr (by decide +kernel)
set_option maxHeartbeats 4000000 in
theorem ok_Mo_entry {l : Launch} {r : Int} {d' : Dt} (p1 p2 p3 p4 p5 : Int) (d : Dt) (hp1 : c32 p1) (hp2 : c64 p2) (hp3 : c32 p3) (hp4 : c32 p4) (hp5 : c32 p5) (h : L_Mo_entry p1 p2 p3 p4 p5 d = some (r, d')) : MC l y_Mo_entry prog_14_method_75_code 8 (some .int) rm_Mo_entry 1 [(2, 0), (0, p1), (1, p2), (0, p3), (0, p4), (0, p5)] d (some (0, r)) d' := by
  refine MC.of (by decide) (Nat.le_of_ble_eq_true rfl) ?_
  intro p e s m args below meth c D cA ad A C hlk hr
  replace C : Cx p s m args c prog_14_method_75_code 8 "PollBooksModel" D cA ad 1 A := C
  show G p l e rm_Mo_entry s m args below meth c 0 0 (MQ below (fun _ => QC D cA ad 1 A (some .int) (some (0, r)) d') args s 0 0 A) 8 D cA ad 1 A 0 [(2, 0), (0, p1), (1, p2), (9, 0), (0, p3), (0, p4), (0, p5)] [] d
  refine g_sub (lo2 := [(2, 0), (0, p1), (1, p2), (9, 0), (0, p3), (0, p4), (0, p5), (9, 0)]) (lsb_v (lsb_v (lsb_v (lsb_c (lsb_v (lsb_v (lsb_v (lsb_n lsb_e)))))))) ?_
  unfold L_Mo_entry at h
  refine g_iload_n C 1 rfl (by decide +kernel) ?_
  refine g_if_lt C (off := 45) (tgt := 46) hp1 (by decide +kernel) (by decide) (fun hc40_ => ?_) (fun hc40_ => ?_)
  · replace h := ite_t hc40_ h
    refine g_sub (lo2 := [(2, 0), (9, 0), (9, 0), (9, 0), (9, 0), (9, 0), (9, 0), (9, 0)]) (lsb_v (lsb_c (lsb_c (lsb_c (lsb_c (lsb_c (lsb_c (lsb_c lsb_e)))))))) ?_
    exact ok_Mo_entry_b46 C hlk hr d  h
  · replace h := ite_f hc40_ h
    refine g_iload_n C 1 rfl (by decide +kernel) ?_
    refine g_iconst C 2 (cK rfl) (by decide +kernel) ?_
    refine g_icmp_gt C (off := 40) (tgt := 46) hp1 (cK rfl) (by decide +kernel) (by decide) (fun hc41_ => ?_) (fun hc41_ => ?_)
    · replace h := ite_t hc41_ h
      refine g_sub (lo2 := [(2, 0), (9, 0), (9, 0), (9, 0), (9, 0), (9, 0), (9, 0), (9, 0)]) (lsb_v (lsb_c (lsb_c (lsb_c (lsb_c (lsb_c (lsb_c (lsb_c lsb_e)))))))) ?_
      exact ok_Mo_entry_b46 C hlk hr d  h
    · replace h := ite_f hc41_ h
      refine g_lload_n C 2 rfl (by decide +kernel) ?_
      obtain ⟨r43_, d42_, hr44_, h⟩ := bd_some h
      refine g_callS C mw_Mo_isName [(1, p2)] (ok_Mo_isName p2 d hp2 hr44_) (ix := 304) lk_1769 lk_1770 ⟨rfl, rfl, Nat.le_of_ble_eq_true rfl, Nat.le_of_ble_eq_true rfl⟩ rfl (rest := []) rfl (Nat.le_of_ble_eq_true rfl) ⟨Nat.zero_le _, Nat.zero_le _⟩ (by decide +kernel) (fun _ hc45_ => ?_)
      replace hc45_ : cb r43_ := hc45_
      refine g_st (st2 := [(0, r43_)]) rfl ?_
      refine g_if_eq C (off := 33) (tgt := 46) (c32_cb hc45_) (by decide +kernel) (by decide) (fun hc46_ => ?_) (fun hc46_ => ?_)
      · replace h := ite_t hc46_ h
        refine g_sub (lo2 := [(2, 0), (9, 0), (9, 0), (9, 0), (9, 0), (9, 0), (9, 0), (9, 0)]) (lsb_v (lsb_c (lsb_c (lsb_c (lsb_c (lsb_c (lsb_c (lsb_c lsb_e)))))))) ?_
        exact ok_Mo_entry_b46 C hlk hr d42_  h
      · replace h := ite_f hc46_ h
        refine g_iload C 4 rfl (by decide +kernel) ?_
        refine g_iconst C (-1) (cK rfl) (by decide +kernel) ?_
        refine g_icmp_eq C (off := 11) (tgt := 30) hp3 (cK rfl) (by decide +kernel) (by decide) (fun hc47_ => ?_) (fun hc47_ => ?_)
        · replace h := ite_t hc47_ h
          refine g_sub (lo2 := [(2, 0), (0, p1), (1, p2), (9, 0), (0, p3), (0, p4), (0, p5), (9, 0)]) (lsb_v (lsb_v (lsb_v (lsb_c (lsb_v (lsb_v (lsb_v (lsb_c lsb_e)))))))) ?_
          exact ok_Mo_entry_b30 C hlk hr p1 p2 p3 p4 p5 d42_ hp1 hp2 hp3 hp4 hp5 h
        · replace h := ite_f hc47_ h
          refine g_iload C 4 rfl (by decide +kernel) ?_
          obtain ⟨r49_, d48_, hr50_, h⟩ := bd_some h
          refine g_callS C mw_Mo_isTrade [(0, p3)] (ok_Mo_isTrade p3 d42_ hp3 hr50_) (ix := 322) lk_1795 lk_1796 ⟨rfl, rfl, Nat.le_of_ble_eq_true rfl, Nat.le_of_ble_eq_true rfl⟩ rfl (rest := []) rfl (Nat.le_of_ble_eq_true rfl) ⟨Nat.zero_le _, Nat.zero_le _⟩ (by decide +kernel) (fun _ hc51_ => ?_)
          replace hc51_ : cb r49_ := hc51_
          refine g_st (st2 := [(0, r49_)]) rfl ?_
          refine g_if_eq C (off := 19) (tgt := 46) (c32_cb hc51_) (by decide +kernel) (by decide) (fun hc52_ => ?_) (fun hc52_ => ?_)
          · replace h := ite_t hc52_ h
            refine g_sub (lo2 := [(2, 0), (9, 0), (9, 0), (9, 0), (9, 0), (9, 0), (9, 0), (9, 0)]) (lsb_v (lsb_c (lsb_c (lsb_c (lsb_c (lsb_c (lsb_c (lsb_c lsb_e)))))))) ?_
            exact ok_Mo_entry_b46 C hlk hr d48_  h
          · replace h := ite_f hc52_ h
            refine g_sub (lo2 := [(2, 0), (0, p1), (1, p2), (9, 0), (0, p3), (0, p4), (0, p5), (9, 0)]) (lsb_v (lsb_v (lsb_v (lsb_c (lsb_v (lsb_v (lsb_v (lsb_c lsb_e)))))))) ?_
            exact ok_Mo_entry_b30 C hlk hr p1 p2 p3 p4 p5 d48_ hp1 hp2 hp3 hp4 hp5 h
/-! PollBooksModel.isOther(I)Z -/
def y_Mo_isOther : MethodName := ⟨"PollBooksModel", "isOther", "(I)Z"⟩
def rm_Mo_isOther : Room := { frames := 0, cells := 0, slots := 0, locals := 0 }
theorem mw_Mo_isOther : MW y_Mo_isOther prog_14_method_80_code 1 (some .boolean) 1 := ⟨lk_2074, lk_14, by decide +kernel⟩
def L_Mo_isOther (p1 : Int) (d : Dt) : Option (Int × Dt) :=
  if p1 = 1 then some (1, d) else if p1 = 2 then some (1, d) else some (0, d)
set_option maxHeartbeats 4000000 in
theorem ok_Mo_isOther {l : Launch} {r : Int} {d' : Dt} (p1 : Int) (d : Dt) (hp1 : c32 p1) (h : L_Mo_isOther p1 d = some (r, d')) : MC l y_Mo_isOther prog_14_method_80_code 1 (some .boolean) rm_Mo_isOther 1 [(0, p1)] d (some (0, r)) d' := by
  refine MC.of (by decide) (Nat.le_of_ble_eq_true rfl) ?_
  intro p e s m args below meth c D cA ad A C hlk hr
  replace C : Cx p s m args c prog_14_method_80_code 1 "PollBooksModel" D cA ad 1 A := C
  show G p l e rm_Mo_isOther s m args below meth c 0 0 (MQ below (fun _ => QC D cA ad 1 A (some .boolean) (some (0, r)) d') args s 0 0 A) 1 D cA ad 1 A 0 [(0, p1)] [] d
  refine g_sub (lo2 := [(0, p1)]) (lsb_v lsb_e) ?_
  unfold L_Mo_isOther at h
  refine g_iload_n C 0 rfl (by decide +kernel) ?_
  refine g_iconst C 1 (cK rfl) (by decide +kernel) ?_
  refine g_icmp_eq C (off := 8) (tgt := 10) hp1 (c32_cb (Or.inr rfl)) (by decide +kernel) (by decide) (fun hc1_ => ?_) (fun hc1_ => ?_)
  · replace h := ite_t hc1_ h
    refine g_iconst C 1 (cK rfl) (by decide +kernel) ?_
    refine g_goto C 15 (off := 4) (by decide +kernel) (by decide) ?_
    obtain ⟨rfl, rfl⟩ := ret_inj h
    exact g_zret C (Or.inr rfl) hlk hr (by decide +kernel)
  · replace h := ite_f hc1_ h
    refine g_iload_n C 0 rfl (by decide +kernel) ?_
    refine g_iconst C 2 (cK rfl) (by decide +kernel) ?_
    refine g_icmp_ne C (off := 7) (tgt := 14) hp1 (cK rfl) (by decide +kernel) (by decide) (fun hc2_ => ?_) (fun hc2_ => ?_)
    · replace h := ite_t hc2_ h
      refine g_iconst C 1 (cK rfl) (by decide +kernel) ?_
      refine g_goto C 15 (off := 4) (by decide +kernel) (by decide) ?_
      obtain ⟨rfl, rfl⟩ := ret_inj h
      exact g_zret C (Or.inr rfl) hlk hr (by decide +kernel)
    · replace h := ite_f hc2_ h
      refine g_iconst C 0 (cK rfl) (by decide +kernel) ?_
      obtain ⟨rfl, rfl⟩ := ret_inj h
      exact g_zret C (Or.inl rfl) hlk hr (by decide +kernel)
/-! PollBooksModel.costOf(II)I -/
def y_Mo_costOf : MethodName := ⟨"PollBooksModel", "costOf", "(II)I"⟩
def rm_Mo_costOf : Room := { frames := 2, cells := 0, slots := 0, locals := 56 }
theorem mw_Mo_costOf : MW y_Mo_costOf prog_14_method_76_code 4 (some .int) 2 := ⟨lk_2086, lk_14, by decide +kernel⟩
def L_Mo_costOf_b102 (s0 s1 : Int) (d : Dt) : Option (Int × Dt) :=
  some ((w32 (s0 + s1)), d)
def L_Mo_costOf_b81 (x1 x2 x3 : Int) (d : Dt) : Option (Int × Dt) :=
  ck ((0 : Int) ≤ x1 ∧ x1 < 90) (ck ((0 : Int) ≤ x2 ∧ x2 < 90) (if (d 55 x1.toNat) = (d 55 x2.toNat) then L_Mo_costOf_b102 x3 0 d else L_Mo_costOf_b102 x3 4 d))
def L_Mo_costOf (p1 p2 : Int) (d : Dt) : Option (Int × Dt) :=
  ck ((0 : Int) ≤ p1 ∧ p1 < 90) (ck ((0 : Int) ≤ p2 ∧ p2 < 90) (bd (L_Mo_farOf (d 57 p1.toNat) (d 57 p2.toNat) d) (fun r11_ d10_ => ck ((0 : Int) ≤ p1 ∧ p1 < 90) (ck ((0 : Int) ≤ p2 ∧ p2 < 90) (lt_ (w32 ((w32 (3 * r11_)) + (jmin 5 (idiv (jabs (w32 ((d10_ 54 p1.toNat) - (d10_ 54 p2.toNat)))) 10)))) (fun v18_ => ck ((0 : Int) ≤ p1 ∧ p1 < 90) (if (d10_ 53 p1.toNat) = (-1) then L_Mo_costOf_b81 p1 p2 v18_ d10_ else ck ((0 : Int) ≤ p2 ∧ p2 < 90) (if (d10_ 53 p2.toNat) = (-1) then L_Mo_costOf_b81 p1 p2 v18_ d10_ else ck ((0 : Int) ≤ p1 ∧ p1 < 90) (ck ((0 : Int) ≤ p2 ∧ p2 < 90) (if (d10_ 53 p1.toNat) = (d10_ 53 p2.toNat) then L_Mo_costOf_b81 p1 p2 v18_ d10_ else L_Mo_costOf_b81 p1 p2 (w32 (v18_ + 2)) d10_))))))))))
set_option maxHeartbeats 4000000 in
theorem ok_Mo_costOf_b102 {p : Program} {l : Launch} {e : Env} {s : State} {m : MethodId} {args : Array Value} {below : List Frame} {meth : Method} {c : Code} {D : va_G} {cA : Nat → ClassId} {ad : Nat → Nat} {A : Nat → Prop} (C : Cx p s m args c prog_14_method_76_code 4 "PollBooksModel" D cA ad 1 A) (hlk : meth.locks = false) (hr : meth.sig.returnType = (some .int)) {r : Int} {d' : Dt} (s0 s1 : Int) (d : Dt) (hs0 : c32 s0) (hs1 : c32 s1) (h : L_Mo_costOf_b102 s0 s1 d = some (r, d')) : G p l e rm_Mo_costOf s m args below meth c 0 0 (MQ below (fun _ => QC D cA ad 1 A (some .int) (some (0, r)) d') args s 0 0 A) 4 D cA ad 1 A 102 [(9, 0), (9, 0), (9, 0), (9, 0)] [(0, s1), (0, s0)] d := by
  unfold L_Mo_costOf_b102 at h
  refine g_iadd C (by decide +kernel) ?_
  obtain ⟨rfl, rfl⟩ := ret_inj h
  exact g_iret C (w32_c _) hlk hr (by decide +kernel)
set_option maxHeartbeats 4000000 in
theorem ok_Mo_costOf_b81 {p : Program} {l : Launch} {e : Env} {s : State} {m : MethodId} {args : Array Value} {below : List Frame} {meth : Method} {c : Code} {D : va_G} {cA : Nat → ClassId} {ad : Nat → Nat} {A : Nat → Prop} (C : Cx p s m args c prog_14_method_76_code 4 "PollBooksModel" D cA ad 1 A) (hlk : meth.locks = false) (hr : meth.sig.returnType = (some .int)) {r : Int} {d' : Dt} (x1 x2 x3 : Int) (d : Dt) (hx1 : c32 x1) (hx2 : c32 x2) (hx3 : c32 x3) (h : L_Mo_costOf_b81 x1 x2 x3 d = some (r, d')) : G p l e rm_Mo_costOf s m args below meth c 0 0 (MQ below (fun _ => QC D cA ad 1 A (some .int) (some (0, r)) d') args s 0 0 A) 4 D cA ad 1 A 81 [(2, 0), (0, x1), (0, x2), (0, x3)] [] d := by
  unfold L_Mo_costOf_b81 at h
  refine g_iload_n C 3 rfl (by decide +kernel) ?_
  refine g_aload_n C 0 rfl (by decide +kernel) ?_
  refine g_getR C cl12 0 75 55 rfl cd_B0 ⟨by decide, rfl, by decide⟩ rfl rfl (nB (by decide)) (ix := 185) lk_1477 (by decide +kernel) ?_
  refine g_iload_n C 1 rfl (by decide +kernel) ?_
  obtain ⟨hb1_, h⟩ := ck_some h
  refine g_iald C 55 hx1 rfl cd_B55 (nB (by decide)) hb1_ (by decide +kernel) (fun hc2_ => ?_)
  refine g_aload_n C 0 rfl (by decide +kernel) ?_
  refine g_getR C cl12 0 75 55 rfl cd_B0 ⟨by decide, rfl, by decide⟩ rfl rfl (nB (by decide)) (ix := 185) lk_1477 (by decide +kernel) ?_
  refine g_iload_n C 2 rfl (by decide +kernel) ?_
  obtain ⟨hb3_, h⟩ := ck_some h
  refine g_iald C 55 hx2 rfl cd_B55 (nB (by decide)) hb3_ (by decide +kernel) (fun hc4_ => ?_)
  refine g_icmp_ne C (off := 7) (tgt := 101) hc2_ hc4_ (by decide +kernel) (by decide) (fun hc5_ => ?_) (fun hc5_ => ?_)
  · replace h := ite_t hc5_ h
    refine g_iconst C 0 (cK rfl) (by decide +kernel) ?_
    refine g_goto C 102 (off := 4) (by decide +kernel) (by decide) ?_
    refine g_sub (lo2 := [(9, 0), (9, 0), (9, 0), (9, 0)]) (lsb_c (lsb_c (lsb_c (lsb_c lsb_e)))) ?_
    exact ok_Mo_costOf_b102 C hlk hr x3 0 d hx3 (c32_cb (Or.inl rfl)) h
  · replace h := ite_f hc5_ h
    refine g_iconst C 4 (cK rfl) (by decide +kernel) ?_
    refine g_sub (lo2 := [(9, 0), (9, 0), (9, 0), (9, 0)]) (lsb_c (lsb_c (lsb_c (lsb_c lsb_e)))) ?_
    exact ok_Mo_costOf_b102 C hlk hr x3 4 d hx3 (cK rfl) h
set_option maxHeartbeats 4000000 in
theorem ok_Mo_costOf {l : Launch} {r : Int} {d' : Dt} (p1 p2 : Int) (d : Dt) (hp1 : c32 p1) (hp2 : c32 p2) (h : L_Mo_costOf p1 p2 d = some (r, d')) : MC l y_Mo_costOf prog_14_method_76_code 4 (some .int) rm_Mo_costOf 1 [(2, 0), (0, p1), (0, p2)] d (some (0, r)) d' := by
  refine MC.of (by decide) (Nat.le_of_ble_eq_true rfl) ?_
  intro p e s m args below meth c D cA ad A C hlk hr
  replace C : Cx p s m args c prog_14_method_76_code 4 "PollBooksModel" D cA ad 1 A := C
  show G p l e rm_Mo_costOf s m args below meth c 0 0 (MQ below (fun _ => QC D cA ad 1 A (some .int) (some (0, r)) d') args s 0 0 A) 4 D cA ad 1 A 0 [(2, 0), (0, p1), (0, p2)] [] d
  refine g_sub (lo2 := [(2, 0), (0, p1), (0, p2), (9, 0)]) (lsb_v (lsb_v (lsb_v (lsb_n lsb_e)))) ?_
  unfold L_Mo_costOf at h
  refine g_iconst C 3 (cK rfl) (by decide +kernel) ?_
  refine g_aload_n C 0 rfl (by decide +kernel) ?_
  refine g_aload_n C 0 rfl (by decide +kernel) ?_
  refine g_getR C cl12 0 77 57 rfl cd_B0 ⟨by decide, rfl, by decide⟩ rfl rfl (nB (by decide)) (ix := 191) lk_1479 (by decide +kernel) ?_
  refine g_iload_n C 1 rfl (by decide +kernel) ?_
  obtain ⟨hb6_, h⟩ := ck_some h
  refine g_lald C 57 hp1 rfl cd_B57 (nB (by decide)) hb6_ (by decide +kernel) (fun hc7_ => ?_)
  refine g_aload_n C 0 rfl (by decide +kernel) ?_
  refine g_getR C cl12 0 77 57 rfl cd_B0 ⟨by decide, rfl, by decide⟩ rfl rfl (nB (by decide)) (ix := 191) lk_1479 (by decide +kernel) ?_
  refine g_iload_n C 2 rfl (by decide +kernel) ?_
  obtain ⟨hb8_, h⟩ := ck_some h
  refine g_lald C 57 hp2 rfl cd_B57 (nB (by decide)) hb8_ (by decide +kernel) (fun hc9_ => ?_)
  obtain ⟨r11_, d10_, hr12_, h⟩ := bd_some h
  refine g_callV C mw_Mo_farOf [(1, (d 57 p1.toNat)), (1, (d 57 p2.toNat))] 0 cl12 rfl (ok_Mo_farOf (d 57 p1.toNat) (d 57 p2.toNat) d hc7_ hc9_ hr12_) cd_B0 (by decide) (nB (by decide)) (ix := 308) lk_1775 lk_1777 lkp_59 ⟨rfl, rfl, Nat.le_of_ble_eq_true rfl, Nat.le_of_ble_eq_true rfl⟩ rfl (rest := [(0, 3)]) rfl (Nat.le_of_ble_eq_true rfl) ⟨Nat.zero_le _, Nat.zero_le _⟩ (by decide +kernel) (fun _ hc13_ => ?_)
  replace hc13_ : c32 r11_ := hc13_
  refine g_st (st2 := [(0, r11_), (0, 3)]) rfl ?_
  refine g_imul C (by decide +kernel) ?_
  refine g_iconst C 5 (cK rfl) (by decide +kernel) ?_
  refine g_aload_n C 0 rfl (by decide +kernel) ?_
  refine g_getR C cl12 0 74 54 rfl cd_B0 ⟨by decide, rfl, by decide⟩ rfl rfl (nB (by decide)) (ix := 182) lk_1476 (by decide +kernel) ?_
  refine g_iload_n C 1 rfl (by decide +kernel) ?_
  obtain ⟨hb14_, h⟩ := ck_some h
  refine g_iald C 54 hp1 rfl cd_B54 (nB (by decide)) hb14_ (by decide +kernel) (fun hc15_ => ?_)
  refine g_aload_n C 0 rfl (by decide +kernel) ?_
  refine g_getR C cl12 0 74 54 rfl cd_B0 ⟨by decide, rfl, by decide⟩ rfl rfl (nB (by decide)) (ix := 182) lk_1476 (by decide +kernel) ?_
  refine g_iload_n C 2 rfl (by decide +kernel) ?_
  obtain ⟨hb16_, h⟩ := ck_some h
  refine g_iald C 54 hp2 rfl cd_B54 (nB (by decide)) hb16_ (by decide +kernel) (fun hc17_ => ?_)
  refine g_isub C (by decide +kernel) ?_
  refine g_mabs C (w32_c _) (ix := 526) lk_2087 lk_1008 lk_16 lk_1009 ⟨Nat.le_of_ble_eq_true rfl, Nat.le_of_ble_eq_true rfl, Nat.zero_le _, Nat.zero_le _⟩ (Nat.le_of_ble_eq_true rfl) (by decide +kernel) ?_
  refine g_bipush C 10 (by decide) (by decide +kernel) ?_
  refine g_idiv C (cK rfl) (by decide) (by decide +kernel) ?_
  refine g_mmin C (cK rfl) (i_c _) (ix := 299) lk_1782 lk_601 lk_16 lk_602 ⟨Nat.le_of_ble_eq_true rfl, Nat.le_of_ble_eq_true rfl, Nat.zero_le _, Nat.zero_le _⟩ (Nat.le_of_ble_eq_true rfl) (by decide +kernel) ?_
  refine g_iadd C (by decide +kernel) ?_
  obtain ⟨v18_, ev19_, h⟩ := lt_some h
  refine g_val ev19_.symm ?_
  have hv20_ : c32 v18_ := by rw [ev19_]; exact (w32_c _)
  refine s_istore_n C 3 (lo' := [(2, 0), (0, p1), (0, p2), (0, v18_)]) (by decide) (s1k (s1k (s1n (by decide) s1z))) (by decide +kernel) ?_
  refine g_aload_n C 0 rfl (by decide +kernel) ?_
  refine g_getR C cl12 0 73 53 rfl cd_B0 ⟨by decide, rfl, by decide⟩ rfl rfl (nB (by decide)) (ix := 179) lk_1475 (by decide +kernel) ?_
  refine g_iload_n C 1 rfl (by decide +kernel) ?_
  obtain ⟨hb21_, h⟩ := ck_some h
  refine g_iald C 53 hp1 rfl cd_B53 (nB (by decide)) hb21_ (by decide +kernel) (fun hc22_ => ?_)
  refine g_iconst C (-1) (cK rfl) (by decide +kernel) ?_
  refine g_icmp_eq C (off := 31) (tgt := 81) hc22_ (cK rfl) (by decide +kernel) (by decide) (fun hc23_ => ?_) (fun hc23_ => ?_)
  · replace h := ite_t hc23_ h
    refine g_sub (lo2 := [(2, 0), (0, p1), (0, p2), (0, v18_)]) (lsb_v (lsb_v (lsb_v (lsb_v lsb_e)))) ?_
    exact ok_Mo_costOf_b81 C hlk hr p1 p2 v18_ d10_ hp1 hp2 hv20_ h
  · replace h := ite_f hc23_ h
    refine g_aload_n C 0 rfl (by decide +kernel) ?_
    refine g_getR C cl12 0 73 53 rfl cd_B0 ⟨by decide, rfl, by decide⟩ rfl rfl (nB (by decide)) (ix := 179) lk_1475 (by decide +kernel) ?_
    refine g_iload_n C 2 rfl (by decide +kernel) ?_
    obtain ⟨hb24_, h⟩ := ck_some h
    refine g_iald C 53 hp2 rfl cd_B53 (nB (by decide)) hb24_ (by decide +kernel) (fun hc25_ => ?_)
    refine g_iconst C (-1) (cK rfl) (by decide +kernel) ?_
    refine g_icmp_eq C (off := 21) (tgt := 81) hc25_ (cK rfl) (by decide +kernel) (by decide) (fun hc26_ => ?_) (fun hc26_ => ?_)
    · replace h := ite_t hc26_ h
      refine g_sub (lo2 := [(2, 0), (0, p1), (0, p2), (0, v18_)]) (lsb_v (lsb_v (lsb_v (lsb_v lsb_e)))) ?_
      exact ok_Mo_costOf_b81 C hlk hr p1 p2 v18_ d10_ hp1 hp2 hv20_ h
    · replace h := ite_f hc26_ h
      refine g_aload_n C 0 rfl (by decide +kernel) ?_
      refine g_getR C cl12 0 73 53 rfl cd_B0 ⟨by decide, rfl, by decide⟩ rfl rfl (nB (by decide)) (ix := 179) lk_1475 (by decide +kernel) ?_
      refine g_iload_n C 1 rfl (by decide +kernel) ?_
      obtain ⟨hb27_, h⟩ := ck_some h
      refine g_iald C 53 hp1 rfl cd_B53 (nB (by decide)) hb27_ (by decide +kernel) (fun hc28_ => ?_)
      refine g_aload_n C 0 rfl (by decide +kernel) ?_
      refine g_getR C cl12 0 73 53 rfl cd_B0 ⟨by decide, rfl, by decide⟩ rfl rfl (nB (by decide)) (ix := 179) lk_1475 (by decide +kernel) ?_
      refine g_iload_n C 2 rfl (by decide +kernel) ?_
      obtain ⟨hb29_, h⟩ := ck_some h
      refine g_iald C 53 hp2 rfl cd_B53 (nB (by decide)) hb29_ (by decide +kernel) (fun hc30_ => ?_)
      refine g_icmp_eq C (off := 6) (tgt := 81) hc28_ hc30_ (by decide +kernel) (by decide) (fun hc31_ => ?_) (fun hc31_ => ?_)
      · replace h := ite_t hc31_ h
        refine g_sub (lo2 := [(2, 0), (0, p1), (0, p2), (0, v18_)]) (lsb_v (lsb_v (lsb_v (lsb_v lsb_e)))) ?_
        exact ok_Mo_costOf_b81 C hlk hr p1 p2 v18_ d10_ hp1 hp2 hv20_ h
      · replace h := ite_f hc31_ h
        refine s_iinc C 3 2 (lo' := [(2, 0), (0, p1), (0, p2), (0, (w32 (v18_ + 2)))]) rfl (by decide) (s1k (s1k (s1n (by decide) s1z))) (by decide +kernel) ?_
        refine g_sub (lo2 := [(2, 0), (0, p1), (0, p2), (0, (w32 (v18_ + 2)))]) (lsb_v (lsb_v (lsb_v (lsb_v lsb_e)))) ?_
        exact ok_Mo_costOf_b81 C hlk hr p1 p2 (w32 (v18_ + 2)) d10_ hp1 hp2 (w32_c _) h
/-! PollBooksModel.paired(IIII)I -/
def y_Mo_paired : MethodName := ⟨"PollBooksModel", "paired", "(IIII)I"⟩
def rm_Mo_paired : Room := { frames := 3, cells := 0, slots := 0, locals := 79 }
theorem mw_Mo_paired : MW y_Mo_paired prog_14_method_77_code 5 (some .int) 4 := ⟨lk_2082, lk_14, by decide +kernel⟩
def L_Mo_paired (p1 p2 p3 p4 : Int) (d : Dt) : Option (Int × Dt) :=
  bd (L_Mo_costOf p2 (w32 ((w32 (30 * p1)) + p4)) d) (fun r2_ d1_ => ck ((0 : Int) ≤ (w32 ((w32 ((w32 (31 * (w32 (p2 + 1)))) + p4)) + 1)) ∧ (w32 ((w32 ((w32 (31 * (w32 (p2 + 1)))) + p4)) + 1)) < 961) (some ((w32 ((w32 ((w32 (10 * (w32 (p4 - p3)))) + r2_)) + (d1_ 58 ((w32 ((w32 ((w32 (31 * (w32 (p2 + 1)))) + p4)) + 1))).toNat))), d1_)))
set_option maxHeartbeats 4000000 in
theorem ok_Mo_paired {l : Launch} {r : Int} {d' : Dt} (p1 p2 p3 p4 : Int) (d : Dt) (hp1 : c32 p1) (hp2 : c32 p2) (hp3 : c32 p3) (hp4 : c32 p4) (h : L_Mo_paired p1 p2 p3 p4 d = some (r, d')) : MC l y_Mo_paired prog_14_method_77_code 5 (some .int) rm_Mo_paired 1 [(2, 0), (0, p1), (0, p2), (0, p3), (0, p4)] d (some (0, r)) d' := by
  refine MC.of (by decide) (Nat.le_of_ble_eq_true rfl) ?_
  intro p e s m args below meth c D cA ad A C hlk hr
  replace C : Cx p s m args c prog_14_method_77_code 5 "PollBooksModel" D cA ad 1 A := C
  show G p l e rm_Mo_paired s m args below meth c 0 0 (MQ below (fun _ => QC D cA ad 1 A (some .int) (some (0, r)) d') args s 0 0 A) 5 D cA ad 1 A 0 [(2, 0), (0, p1), (0, p2), (0, p3), (0, p4)] [] d
  refine g_sub (lo2 := [(2, 0), (0, p1), (0, p2), (0, p3), (0, p4)]) (lsb_v (lsb_v (lsb_v (lsb_v (lsb_v lsb_e))))) ?_
  unfold L_Mo_paired at h
  refine g_bipush C 10 (by decide) (by decide +kernel) ?_
  refine g_iload C 4 rfl (by decide +kernel) ?_
  refine g_iload_n C 3 rfl (by decide +kernel) ?_
  refine g_isub C (by decide +kernel) ?_
  refine g_imul C (by decide +kernel) ?_
  refine g_aload_n C 0 rfl (by decide +kernel) ?_
  refine g_iload_n C 2 rfl (by decide +kernel) ?_
  refine g_bipush C 30 (by decide) (by decide +kernel) ?_
  refine g_iload_n C 1 rfl (by decide +kernel) ?_
  refine g_imul C (by decide +kernel) ?_
  refine g_iload C 4 rfl (by decide +kernel) ?_
  refine g_iadd C (by decide +kernel) ?_
  obtain ⟨r2_, d1_, hr3_, h⟩ := bd_some h
  refine g_callV C mw_Mo_costOf [(0, p2), (0, (w32 ((w32 (30 * p1)) + p4)))] 0 cl12 rfl (ok_Mo_costOf p2 (w32 ((w32 (30 * p1)) + p4)) d hp2 (w32_c _) hr3_) cd_B0 (by decide) (nB (by decide)) (ix := 529) lk_2083 lk_2085 lkp_97 ⟨rfl, rfl, Nat.le_of_ble_eq_true rfl, Nat.le_of_ble_eq_true rfl⟩ rfl (rest := [(0, (w32 (10 * (w32 (p4 - p3)))))]) rfl (Nat.le_of_ble_eq_true rfl) ⟨Nat.zero_le _, Nat.zero_le _⟩ (by decide +kernel) (fun _ hc4_ => ?_)
  replace hc4_ : c32 r2_ := hc4_
  refine g_st (st2 := [(0, r2_), (0, (w32 (10 * (w32 (p4 - p3)))))]) rfl ?_
  refine g_iadd C (by decide +kernel) ?_
  refine g_aload_n C 0 rfl (by decide +kernel) ?_
  refine g_getR C cl12 0 78 58 rfl cd_B0 ⟨by decide, rfl, by decide⟩ rfl rfl (nB (by decide)) (ix := 194) lk_1480 (by decide +kernel) ?_
  refine g_bipush C 31 (by decide) (by decide +kernel) ?_
  refine g_iload_n C 2 rfl (by decide +kernel) ?_
  refine g_iconst C 1 (cK rfl) (by decide +kernel) ?_
  refine g_iadd C (by decide +kernel) ?_
  refine g_imul C (by decide +kernel) ?_
  refine g_iload C 4 rfl (by decide +kernel) ?_
  refine g_iadd C (by decide +kernel) ?_
  refine g_iconst C 1 (cK rfl) (by decide +kernel) ?_
  refine g_iadd C (by decide +kernel) ?_
  obtain ⟨hb5_, h⟩ := ck_some h
  refine g_iald C 58 (w32_c _) rfl cd_B58 (nB (by decide)) hb5_ (by decide +kernel) (fun hc6_ => ?_)
  refine g_iadd C (by decide +kernel) ?_
  obtain ⟨rfl, rfl⟩ := ret_inj h
  exact g_iret C (w32_c _) hlk hr (by decide +kernel)
/-! PollBooksModel.pairing(I)I -/
def y_Mo_pairing : MethodName := ⟨"PollBooksModel", "pairing", "(I)I"⟩
def rm_Mo_pairing : Room := { frames := 4, cells := 0, slots := 0, locals := 103 }
theorem mw_Mo_pairing : MW y_Mo_pairing prog_14_method_78_code 8 (some .int) 1 := ⟨lk_2078, lk_14, by decide +kernel⟩
def L_Mo_pairing_y83 (x1 x2 x3 x4 x5 x6 x7 : Int) (d : Dt) : Option ((Int × Int × Int × Int × Int × Int × Int × Dt) ⊕ ((Int × Int × Int × Int × Int × Int × Dt))) :=
  if x7 < x3 then bd (L_Mo_paired x1 x4 x5 x7 d) (fun r3_ d2_ => lt_ (jmin x6 r3_) (fun v6_ => some (Sum.inl (x1, x2, x3, x4, x5, v6_, (w32 (x7 + 1)), d2_)))) else some (Sum.inr (x1, x2, x3, x4, x5, x6, d))
def L_Mo_pairing_l83 (x1 x2 x3 x4 x5 x6 x7 : Int) (d : Dt) : Option ((Int × Int × Int × Int × Int × Int × Dt)) := lpF (fun q : Int × Int × Int × Int × Int × Int × Int × Dt => L_Mo_pairing_y83 q.1 q.2.1 q.2.2.1 q.2.2.2.1 q.2.2.2.2.1 q.2.2.2.2.2.1 q.2.2.2.2.2.2.1 q.2.2.2.2.2.2.2) FU (x1, x2, x3, x4, x5, x6, x7, d)
def L_Mo_pairing_b128 (x1 x2 x3 x4 x5 : Int) (d : Dt) : Option ((Int × Int × Int × Int × Int × Dt) ⊕ ((Int × Int × Int × Int × Dt))) :=
  some (Sum.inl (x1, x2, x3, x4, (w32 (x5 + (-1))), d))
def L_Mo_pairing_y25 (x1 x2 x3 x4 x5 : Int) (d : Dt) : Option ((Int × Int × Int × Int × Int × Dt) ⊕ ((Int × Int × Int × Int × Dt))) :=
  if x5 < 0 then some (Sum.inr (x1, x2, x3, x4, d)) else if x4 = x2 then ck ((0 : Int) ≤ (w32 ((w32 (31 * x4)) + x5)) ∧ (w32 ((w32 (31 * x4)) + x5)) < 961) (L_Mo_pairing_b128 x1 x2 x3 x4 x5 (up2 d 58 ((w32 ((w32 (31 * x4)) + x5))).toNat (w32 (10 * (w32 (x3 - x5)))))) else ck ((0 : Int) ≤ (w32 ((w32 (31 * (w32 (x4 + 1)))) + x5)) ∧ (w32 ((w32 (31 * (w32 (x4 + 1)))) + x5)) < 961) (lt_ (w32 (10 + (d 58 ((w32 ((w32 (31 * (w32 (x4 + 1)))) + x5))).toNat))) (fun v14_ => lb (L_Mo_pairing_l83 x1 x2 x3 x4 x5 v14_ x5 d) (fun q28_ => u6 q28_ (fun v19_ v20_ v21_ v22_ v23_ v24_ d25_ => ck ((0 : Int) ≤ (w32 ((w32 (31 * v22_)) + v23_)) ∧ (w32 ((w32 (31 * v22_)) + v23_)) < 961) (L_Mo_pairing_b128 v19_ v20_ v21_ v22_ v23_ (up2 d25_ 58 ((w32 ((w32 (31 * v22_)) + v23_))).toNat v24_))))))
def L_Mo_pairing_l25 (x1 x2 x3 x4 x5 : Int) (d : Dt) : Option ((Int × Int × Int × Int × Dt)) := lpF (fun q : Int × Int × Int × Int × Int × Dt => L_Mo_pairing_y25 q.1 q.2.1 q.2.2.1 q.2.2.2.1 q.2.2.2.2.1 q.2.2.2.2.2) FU (x1, x2, x3, x4, x5, d)
def L_Mo_pairing_y17 (x1 x2 x3 x4 : Int) (d : Dt) : Option ((Int × Int × Int × Int × Dt) ⊕ ((Dt))) :=
  if x4 < 0 then some (Sum.inr (d)) else lb (L_Mo_pairing_l25 x1 x2 x3 x4 x3 d) (fun q38_ => u4 q38_ (fun v32_ v33_ v34_ v35_ d36_ => some (Sum.inl (v32_, v33_, v34_, (w32 (v35_ + (-1))), d36_))))
def L_Mo_pairing_l17 (x1 x2 x3 x4 : Int) (d : Dt) : Option ((Dt)) := lpF (fun q : Int × Int × Int × Int × Dt => L_Mo_pairing_y17 q.1 q.2.1 q.2.2.1 q.2.2.2.1 q.2.2.2.2) FU (x1, x2, x3, x4, d)
def L_Mo_pairing (p1 : Int) (d : Dt) : Option (Int × Dt) :=
  lt_ (d 52 0) (fun v40_ => ck ((0 : Int) ≤ p1 ∧ p1 < 3) (lt_ (d 52 p1.toNat) (fun v45_ => lb (L_Mo_pairing_l17 p1 v40_ v45_ v40_ d) (fun q53_ => u0 q53_ (fun d50_ => some ((d50_ 58 0), d50_))))))
set_option maxHeartbeats 4000000 in
theorem ok_Mo_pairing_y83 {p : Program} {l : Launch} {e : Env} {s : State} {m : MethodId} {args : Array Value} {below : List Frame} {meth : Method} {c : Code} {D : va_G} {cA : Nat → ClassId} {ad : Nat → Nat} {A : Nat → Prop} (C : Cx p s m args c prog_14_method_78_code 8 "PollBooksModel" D cA ad 1 A) {Q : State → Prop} {o : (Int × Int × Int × Int × Int × Int × Int × Dt) ⊕ ((Int × Int × Int × Int × Int × Int × Dt))} (x1 x2 x3 x4 x5 x6 x7 : Int) (d : Dt) (hx1 : c32 x1) (hx2 : c32 x2) (hx3 : c32 x3) (hx4 : c32 x4) (hx5 : c32 x5) (hx6 : c32 x6) (hx7 : c32 x7) (h : L_Mo_pairing_y83 x1 x2 x3 x4 x5 x6 x7 d = some o) (kb : ∀ (y0 y1 y2 y3 y4 y5 y6 : Int) (e' : Dt), o = .inl (y0, y1, y2, y3, y4, y5, y6, e') → c32 y0 → c32 y1 → c32 y2 → c32 y3 → c32 y4 → c32 y5 → c32 y6 → G p l e rm_Mo_pairing s m args below meth c 0 0 Q 8 D cA ad 1 A 83 [(2, 0), (0, y0), (0, y1), (0, y2), (0, y3), (0, y4), (0, y5), (0, y6)] [] e') (k0 : ∀ (y0 y1 y2 y3 y4 y5 : Int) (e' : Dt), o = .inr (y0, y1, y2, y3, y4, y5, e') → c32 y0 → c32 y1 → c32 y2 → c32 y3 → c32 y4 → c32 y5 → G p l e rm_Mo_pairing s m args below meth c 0 0 Q 8 D cA ad 1 A 113 [(2, 0), (0, y0), (0, y1), (0, y2), (0, y3), (0, y4), (0, y5), (9, 0)] [] e') : G p l e rm_Mo_pairing s m args below meth c 0 0 Q 8 D cA ad 1 A 83 [(2, 0), (0, x1), (0, x2), (0, x3), (0, x4), (0, x5), (0, x6), (0, x7)] [] d := by
  unfold L_Mo_pairing_y83 at h
  refine g_iload C 7 rfl (by decide +kernel) ?_
  refine g_iload_n C 3 rfl (by decide +kernel) ?_
  refine g_icmp_ge C (off := 27) (tgt := 113) hx7 hx3 (by decide +kernel) (by decide) (fun hc1_ => ?_) (fun hc1_ => ?_)
  · replace h := ite_t hc1_ h
    refine g_iload C 6 rfl (by decide +kernel) ?_
    refine g_aload_n C 0 rfl (by decide +kernel) ?_
    refine g_iload_n C 1 rfl (by decide +kernel) ?_
    refine g_iload C 4 rfl (by decide +kernel) ?_
    refine g_iload C 5 rfl (by decide +kernel) ?_
    refine g_iload C 7 rfl (by decide +kernel) ?_
    obtain ⟨r3_, d2_, hr4_, h⟩ := bd_some h
    refine g_callV C mw_Mo_paired [(0, x1), (0, x4), (0, x5), (0, x7)] 0 cl12 rfl (ok_Mo_paired x1 x4 x5 x7 d hx1 hx4 hx5 hx7 hr4_) cd_B0 (by decide) (nB (by decide)) (ix := 532) lk_2079 lk_2081 lkp_96 ⟨rfl, rfl, Nat.le_of_ble_eq_true rfl, Nat.le_of_ble_eq_true rfl⟩ rfl (rest := [(0, x6)]) rfl (Nat.le_of_ble_eq_true rfl) ⟨Nat.zero_le _, Nat.zero_le _⟩ (by decide +kernel) (fun _ hc5_ => ?_)
    replace hc5_ : c32 r3_ := hc5_
    refine g_st (st2 := [(0, r3_), (0, x6)]) rfl ?_
    refine g_mmin C hx6 hc5_ (ix := 299) lk_1782 lk_601 lk_16 lk_602 ⟨Nat.le_of_ble_eq_true rfl, Nat.le_of_ble_eq_true rfl, Nat.zero_le _, Nat.zero_le _⟩ (Nat.le_of_ble_eq_true rfl) (by decide +kernel) ?_
    obtain ⟨v6_, ev7_, h⟩ := lt_some h
    refine g_val ev7_.symm ?_
    have hv8_ : c32 v6_ := by rw [ev7_]; exact (jmin_c hx6 hc5_)
    refine s_istore C 6 (lo' := [(2, 0), (0, x1), (0, x2), (0, x3), (0, x4), (0, x5), (0, v6_), (0, x7)]) (by decide) (s1k (s1k (s1k (s1k (s1k (s1n (by decide) s1z)))))) (by decide +kernel) ?_
    refine s_iinc C 7 1 (lo' := [(2, 0), (0, x1), (0, x2), (0, x3), (0, x4), (0, x5), (0, v6_), (0, (w32 (x7 + 1)))]) rfl (by decide) (s1k (s1k (s1k (s1k (s1k (s1k (s1n (by decide) s1z))))))) (by decide +kernel) ?_
    refine g_goto C 83 (off := (-27)) (by decide +kernel) (by decide) ?_
    refine g_sub (lo2 := [(2, 0), (0, x1), (0, x2), (0, x3), (0, x4), (0, x5), (0, v6_), (0, (w32 (x7 + 1)))]) (lsb_v (lsb_v (lsb_v (lsb_v (lsb_v (lsb_v (lsb_v (lsb_v lsb_e)))))))) ?_
    obtain rfl := Option.some.inj h
    exact kb x1 x2 x3 x4 x5 v6_ (w32 (x7 + 1)) d2_ rfl hx1 hx2 hx3 hx4 hx5 hv8_ (w32_c _)
  · replace h := ite_f hc1_ h
    refine g_sub (lo2 := [(2, 0), (0, x1), (0, x2), (0, x3), (0, x4), (0, x5), (0, x6), (9, 0)]) (lsb_v (lsb_v (lsb_v (lsb_v (lsb_v (lsb_v (lsb_v (lsb_c lsb_e)))))))) ?_
    obtain rfl := Option.some.inj h
    exact k0 x1 x2 x3 x4 x5 x6 d rfl hx1 hx2 hx3 hx4 hx5 hx6
set_option maxHeartbeats 4000000 in
theorem ok_Mo_pairing_n83 {p : Program} {l : Launch} {e : Env} {s : State} {m : MethodId} {args : Array Value} {below : List Frame} {meth : Method} {c : Code} {D : va_G} {cA : Nat → ClassId} {ad : Nat → Nat} {A : Nat → Prop} (C : Cx p s m args c prog_14_method_78_code 8 "PollBooksModel" D cA ad 1 A) {Q : State → Prop} {x : (Int × Int × Int × Int × Int × Int × Dt)} : ∀ (n : Nat) (x1 x2 x3 x4 x5 x6 x7 : Int) (d : Dt), c32 x1 → c32 x2 → c32 x3 → c32 x4 → c32 x5 → c32 x6 → c32 x7 → lpF (fun q : Int × Int × Int × Int × Int × Int × Int × Dt => L_Mo_pairing_y83 q.1 q.2.1 q.2.2.1 q.2.2.2.1 q.2.2.2.2.1 q.2.2.2.2.2.1 q.2.2.2.2.2.2.1 q.2.2.2.2.2.2.2) n (x1, x2, x3, x4, x5, x6, x7, d) = some x → (∀ (y0 y1 y2 y3 y4 y5 : Int) (e' : Dt), x = (y0, y1, y2, y3, y4, y5, e') → c32 y0 → c32 y1 → c32 y2 → c32 y3 → c32 y4 → c32 y5 → G p l e rm_Mo_pairing s m args below meth c 0 0 Q 8 D cA ad 1 A 113 [(2, 0), (0, y0), (0, y1), (0, y2), (0, y3), (0, y4), (0, y5), (9, 0)] [] e') → G p l e rm_Mo_pairing s m args below meth c 0 0 Q 8 D cA ad 1 A 83 [(2, 0), (0, x1), (0, x2), (0, x3), (0, x4), (0, x5), (0, x6), (0, x7)] [] d := by
  intro n
  induction n with
  | zero => intro x1 x2 x3 x4 x5 x6 x7 d g0 g1 g2 g3 g4 g5 g6 h k0; cases h
  | succ n ih =>
    intro x1 x2 x3 x4 x5 x6 x7 d g0 g1 g2 g3 g4 g5 g6 h k0
    rcases lpF_some h with h | ⟨⟨v0_, v1_, v2_, v3_, v4_, v5_, v6_, e0_⟩, h1, h⟩
    · exact ok_Mo_pairing_y83 C x1 x2 x3 x4 x5 x6 x7 d g0 g1 g2 g3 g4 g5 g6 h (fun z0_ z1_ z2_ z3_ z4_ z5_ z6_ e1_ eq w0_ w1_ w2_ w3_ w4_ w5_ w6_ => by cases eq) (fun z0_ z1_ z2_ z3_ z4_ z5_ e1_ eq w0_ w1_ w2_ w3_ w4_ w5_ => k0 _ _ _ _ _ _ _ (by cases eq; rfl) w0_ w1_ w2_ w3_ w4_ w5_)
    · exact ok_Mo_pairing_y83 C x1 x2 x3 x4 x5 x6 x7 d g0 g1 g2 g3 g4 g5 g6 h1 (fun z0_ z1_ z2_ z3_ z4_ z5_ z6_ e1_ eq w0_ w1_ w2_ w3_ w4_ w5_ w6_ => by cases eq; exact ih _ _ _ _ _ _ _ _ w0_ w1_ w2_ w3_ w4_ w5_ w6_ h k0) (fun z0_ z1_ z2_ z3_ z4_ z5_ e1_ eq w0_ w1_ w2_ w3_ w4_ w5_ => by cases eq)
set_option maxHeartbeats 4000000 in
theorem ok_Mo_pairing_l83 {p : Program} {l : Launch} {e : Env} {s : State} {m : MethodId} {args : Array Value} {below : List Frame} {meth : Method} {c : Code} {D : va_G} {cA : Nat → ClassId} {ad : Nat → Nat} {A : Nat → Prop} (C : Cx p s m args c prog_14_method_78_code 8 "PollBooksModel" D cA ad 1 A) {Q : State → Prop} {x : (Int × Int × Int × Int × Int × Int × Dt)} (x1 x2 x3 x4 x5 x6 x7 : Int) (d : Dt) (hx1 : c32 x1) (hx2 : c32 x2) (hx3 : c32 x3) (hx4 : c32 x4) (hx5 : c32 x5) (hx6 : c32 x6) (hx7 : c32 x7) (h : L_Mo_pairing_l83 x1 x2 x3 x4 x5 x6 x7 d = some x) (k0 : ∀ (y0 y1 y2 y3 y4 y5 : Int) (e' : Dt), x = (y0, y1, y2, y3, y4, y5, e') → c32 y0 → c32 y1 → c32 y2 → c32 y3 → c32 y4 → c32 y5 → G p l e rm_Mo_pairing s m args below meth c 0 0 Q 8 D cA ad 1 A 113 [(2, 0), (0, y0), (0, y1), (0, y2), (0, y3), (0, y4), (0, y5), (9, 0)] [] e') : G p l e rm_Mo_pairing s m args below meth c 0 0 Q 8 D cA ad 1 A 83 [(2, 0), (0, x1), (0, x2), (0, x3), (0, x4), (0, x5), (0, x6), (0, x7)] [] d :=
  ok_Mo_pairing_n83 C FU x1 x2 x3 x4 x5 x6 x7 d hx1 hx2 hx3 hx4 hx5 hx6 hx7 h k0
set_option maxHeartbeats 4000000 in
theorem ok_Mo_pairing_b128 {p : Program} {l : Launch} {e : Env} {s : State} {m : MethodId} {args : Array Value} {below : List Frame} {meth : Method} {c : Code} {D : va_G} {cA : Nat → ClassId} {ad : Nat → Nat} {A : Nat → Prop} (C : Cx p s m args c prog_14_method_78_code 8 "PollBooksModel" D cA ad 1 A) {Q : State → Prop} {o : (Int × Int × Int × Int × Int × Dt) ⊕ ((Int × Int × Int × Int × Dt))} (x1 x2 x3 x4 x5 : Int) (d : Dt) (hx1 : c32 x1) (hx2 : c32 x2) (hx3 : c32 x3) (hx4 : c32 x4) (hx5 : c32 x5) (h : L_Mo_pairing_b128 x1 x2 x3 x4 x5 d = some o) (kb : ∀ (y0 y1 y2 y3 y4 : Int) (e' : Dt), o = .inl (y0, y1, y2, y3, y4, e') → c32 y0 → c32 y1 → c32 y2 → c32 y3 → c32 y4 → G p l e rm_Mo_pairing s m args below meth c 0 0 Q 8 D cA ad 1 A 25 [(2, 0), (0, y0), (0, y1), (0, y2), (0, y3), (0, y4), (9, 0), (9, 0)] [] e') (k0 : ∀ (y0 y1 y2 y3 : Int) (e' : Dt), o = .inr (y0, y1, y2, y3, e') → c32 y0 → c32 y1 → c32 y2 → c32 y3 → G p l e rm_Mo_pairing s m args below meth c 0 0 Q 8 D cA ad 1 A 134 [(2, 0), (0, y0), (0, y1), (0, y2), (0, y3), (9, 0), (9, 0), (9, 0)] [] e') : G p l e rm_Mo_pairing s m args below meth c 0 0 Q 8 D cA ad 1 A 128 [(2, 0), (0, x1), (0, x2), (0, x3), (0, x4), (0, x5), (9, 0), (9, 0)] [] d := by
  unfold L_Mo_pairing_b128 at h
  refine s_iinc C 5 (-1) (lo' := [(2, 0), (0, x1), (0, x2), (0, x3), (0, x4), (0, (w32 (x5 + (-1)))), (9, 0), (9, 0)]) rfl (by decide) (s1k (s1k (s1k (s1k (s1n (by decide) s1z))))) (by decide +kernel) ?_
  refine g_goto C 25 (off := (-106)) (by decide +kernel) (by decide) ?_
  refine g_sub (lo2 := [(2, 0), (0, x1), (0, x2), (0, x3), (0, x4), (0, (w32 (x5 + (-1)))), (9, 0), (9, 0)]) (lsb_v (lsb_v (lsb_v (lsb_v (lsb_v (lsb_v (lsb_c (lsb_c lsb_e)))))))) ?_
  obtain rfl := Option.some.inj h
  exact kb x1 x2 x3 x4 (w32 (x5 + (-1))) d rfl hx1 hx2 hx3 hx4 (w32_c _)
set_option maxHeartbeats 4000000 in
theorem ok_Mo_pairing_y25 {p : Program} {l : Launch} {e : Env} {s : State} {m : MethodId} {args : Array Value} {below : List Frame} {meth : Method} {c : Code} {D : va_G} {cA : Nat → ClassId} {ad : Nat → Nat} {A : Nat → Prop} (C : Cx p s m args c prog_14_method_78_code 8 "PollBooksModel" D cA ad 1 A) {Q : State → Prop} {o : (Int × Int × Int × Int × Int × Dt) ⊕ ((Int × Int × Int × Int × Dt))} (x1 x2 x3 x4 x5 : Int) (d : Dt) (hx1 : c32 x1) (hx2 : c32 x2) (hx3 : c32 x3) (hx4 : c32 x4) (hx5 : c32 x5) (h : L_Mo_pairing_y25 x1 x2 x3 x4 x5 d = some o) (kb : ∀ (y0 y1 y2 y3 y4 : Int) (e' : Dt), o = .inl (y0, y1, y2, y3, y4, e') → c32 y0 → c32 y1 → c32 y2 → c32 y3 → c32 y4 → G p l e rm_Mo_pairing s m args below meth c 0 0 Q 8 D cA ad 1 A 25 [(2, 0), (0, y0), (0, y1), (0, y2), (0, y3), (0, y4), (9, 0), (9, 0)] [] e') (k0 : ∀ (y0 y1 y2 y3 : Int) (e' : Dt), o = .inr (y0, y1, y2, y3, e') → c32 y0 → c32 y1 → c32 y2 → c32 y3 → G p l e rm_Mo_pairing s m args below meth c 0 0 Q 8 D cA ad 1 A 134 [(2, 0), (0, y0), (0, y1), (0, y2), (0, y3), (9, 0), (9, 0), (9, 0)] [] e') : G p l e rm_Mo_pairing s m args below meth c 0 0 Q 8 D cA ad 1 A 25 [(2, 0), (0, x1), (0, x2), (0, x3), (0, x4), (0, x5), (9, 0), (9, 0)] [] d := by
  unfold L_Mo_pairing_y25 at h
  refine g_iload C 5 rfl (by decide +kernel) ?_
  refine g_if_lt C (off := 107) (tgt := 134) hx5 (by decide +kernel) (by decide) (fun hc9_ => ?_) (fun hc9_ => ?_)
  · replace h := ite_t hc9_ h
    refine g_sub (lo2 := [(2, 0), (0, x1), (0, x2), (0, x3), (0, x4), (9, 0), (9, 0), (9, 0)]) (lsb_v (lsb_v (lsb_v (lsb_v (lsb_v (lsb_c (lsb_c (lsb_c lsb_e)))))))) ?_
    obtain rfl := Option.some.inj h
    exact k0 x1 x2 x3 x4 d rfl hx1 hx2 hx3 hx4
  · replace h := ite_f hc9_ h
    refine g_iload C 4 rfl (by decide +kernel) ?_
    refine g_iload_n C 2 rfl (by decide +kernel) ?_
    refine g_icmp_ne C (off := 26) (tgt := 59) hx4 hx2 (by decide +kernel) (by decide) (fun hc10_ => ?_) (fun hc10_ => ?_)
    · replace h := ite_t hc10_ h
      refine g_aload_n C 0 rfl (by decide +kernel) ?_
      refine g_getR C cl12 0 78 58 rfl cd_B0 ⟨by decide, rfl, by decide⟩ rfl rfl (nB (by decide)) (ix := 194) lk_1480 (by decide +kernel) ?_
      refine g_bipush C 31 (by decide) (by decide +kernel) ?_
      refine g_iload C 4 rfl (by decide +kernel) ?_
      refine g_imul C (by decide +kernel) ?_
      refine g_iload C 5 rfl (by decide +kernel) ?_
      refine g_iadd C (by decide +kernel) ?_
      refine g_bipush C 10 (by decide) (by decide +kernel) ?_
      refine g_iload_n C 3 rfl (by decide +kernel) ?_
      refine g_iload C 5 rfl (by decide +kernel) ?_
      refine g_isub C (by decide +kernel) ?_
      refine g_imul C (by decide +kernel) ?_
      obtain ⟨hb11_, h⟩ := ck_some h
      refine g_iast C 58 (w32_c _) (w32_c _) rfl cd_B58 (nB (by decide)) hb11_ (by decide +kernel) ?_
      refine g_goto C 128 (off := 72) (by decide +kernel) (by decide) ?_
      refine g_sub (lo2 := [(2, 0), (0, x1), (0, x2), (0, x3), (0, x4), (0, x5), (9, 0), (9, 0)]) (lsb_v (lsb_v (lsb_v (lsb_v (lsb_v (lsb_v (lsb_c (lsb_c lsb_e)))))))) ?_
      exact ok_Mo_pairing_b128 C x1 x2 x3 x4 x5 (up2 d 58 ((w32 ((w32 (31 * x4)) + x5))).toNat (w32 (10 * (w32 (x3 - x5))))) hx1 hx2 hx3 hx4 hx5 h kb k0
    · replace h := ite_f hc10_ h
      refine g_bipush C 10 (by decide) (by decide +kernel) ?_
      refine g_aload_n C 0 rfl (by decide +kernel) ?_
      refine g_getR C cl12 0 78 58 rfl cd_B0 ⟨by decide, rfl, by decide⟩ rfl rfl (nB (by decide)) (ix := 194) lk_1480 (by decide +kernel) ?_
      refine g_bipush C 31 (by decide) (by decide +kernel) ?_
      refine g_iload C 4 rfl (by decide +kernel) ?_
      refine g_iconst C 1 (cK rfl) (by decide +kernel) ?_
      refine g_iadd C (by decide +kernel) ?_
      refine g_imul C (by decide +kernel) ?_
      refine g_iload C 5 rfl (by decide +kernel) ?_
      refine g_iadd C (by decide +kernel) ?_
      obtain ⟨hb12_, h⟩ := ck_some h
      refine g_iald C 58 (w32_c _) rfl cd_B58 (nB (by decide)) hb12_ (by decide +kernel) (fun hc13_ => ?_)
      refine g_iadd C (by decide +kernel) ?_
      obtain ⟨v14_, ev15_, h⟩ := lt_some h
      refine g_val ev15_.symm ?_
      have hv16_ : c32 v14_ := by rw [ev15_]; exact (w32_c _)
      refine s_istore C 6 (lo' := [(2, 0), (0, x1), (0, x2), (0, x3), (0, x4), (0, x5), (0, v14_), (9, 0)]) (by decide) (s1k (s1k (s1k (s1k (s1k (s1n (by decide) s1z)))))) (by decide +kernel) ?_
      refine g_iload C 5 rfl (by decide +kernel) ?_
      refine s_istore C 7 (lo' := [(2, 0), (0, x1), (0, x2), (0, x3), (0, x4), (0, x5), (0, v14_), (0, x5)]) (by decide) (s1k (s1k (s1k (s1k (s1k (s1k (s1n (by decide) s1z))))))) (by decide +kernel) ?_
      refine g_sub (lo2 := [(2, 0), (0, x1), (0, x2), (0, x3), (0, x4), (0, x5), (0, v14_), (0, x5)]) (lsb_v (lsb_v (lsb_v (lsb_v (lsb_v (lsb_v (lsb_v (lsb_v lsb_e)))))))) ?_
      obtain ⟨x17_, hx18_, h⟩ := lb_some h
      refine ok_Mo_pairing_l83 C x1 x2 x3 x4 x5 v14_ x5 d hx1 hx2 hx3 hx4 hx5 hv16_ hx5 hx18_ (fun v19_ v20_ v21_ v22_ v23_ v24_ d25_ eq26_ hv19_ hv20_ hv21_ hv22_ hv23_ hv24_ => ?_)
      subst eq26_
      replace h := u6_e h
      refine g_aload_n C 0 rfl (by decide +kernel) ?_
      refine g_getR C cl12 0 78 58 rfl cd_B0 ⟨by decide, rfl, by decide⟩ rfl rfl (nB (by decide)) (ix := 194) lk_1480 (by decide +kernel) ?_
      refine g_bipush C 31 (by decide) (by decide +kernel) ?_
      refine g_iload C 4 rfl (by decide +kernel) ?_
      refine g_imul C (by decide +kernel) ?_
      refine g_iload C 5 rfl (by decide +kernel) ?_
      refine g_iadd C (by decide +kernel) ?_
      refine g_iload C 6 rfl (by decide +kernel) ?_
      obtain ⟨hb27_, h⟩ := ck_some h
      refine g_iast C 58 hv24_ (w32_c _) rfl cd_B58 (nB (by decide)) hb27_ (by decide +kernel) ?_
      refine g_sub (lo2 := [(2, 0), (0, v19_), (0, v20_), (0, v21_), (0, v22_), (0, v23_), (9, 0), (9, 0)]) (lsb_v (lsb_v (lsb_v (lsb_v (lsb_v (lsb_v (lsb_c (lsb_c lsb_e)))))))) ?_
      exact ok_Mo_pairing_b128 C v19_ v20_ v21_ v22_ v23_ (up2 d25_ 58 ((w32 ((w32 (31 * v22_)) + v23_))).toNat v24_) hv19_ hv20_ hv21_ hv22_ hv23_ h kb k0
set_option maxHeartbeats 4000000 in
theorem ok_Mo_pairing_n25 {p : Program} {l : Launch} {e : Env} {s : State} {m : MethodId} {args : Array Value} {below : List Frame} {meth : Method} {c : Code} {D : va_G} {cA : Nat → ClassId} {ad : Nat → Nat} {A : Nat → Prop} (C : Cx p s m args c prog_14_method_78_code 8 "PollBooksModel" D cA ad 1 A) {Q : State → Prop} {x : (Int × Int × Int × Int × Dt)} : ∀ (n : Nat) (x1 x2 x3 x4 x5 : Int) (d : Dt), c32 x1 → c32 x2 → c32 x3 → c32 x4 → c32 x5 → lpF (fun q : Int × Int × Int × Int × Int × Dt => L_Mo_pairing_y25 q.1 q.2.1 q.2.2.1 q.2.2.2.1 q.2.2.2.2.1 q.2.2.2.2.2) n (x1, x2, x3, x4, x5, d) = some x → (∀ (y0 y1 y2 y3 : Int) (e' : Dt), x = (y0, y1, y2, y3, e') → c32 y0 → c32 y1 → c32 y2 → c32 y3 → G p l e rm_Mo_pairing s m args below meth c 0 0 Q 8 D cA ad 1 A 134 [(2, 0), (0, y0), (0, y1), (0, y2), (0, y3), (9, 0), (9, 0), (9, 0)] [] e') → G p l e rm_Mo_pairing s m args below meth c 0 0 Q 8 D cA ad 1 A 25 [(2, 0), (0, x1), (0, x2), (0, x3), (0, x4), (0, x5), (9, 0), (9, 0)] [] d := by
  intro n
  induction n with
  | zero => intro x1 x2 x3 x4 x5 d g0 g1 g2 g3 g4 h k0; cases h
  | succ n ih =>
    intro x1 x2 x3 x4 x5 d g0 g1 g2 g3 g4 h k0
    rcases lpF_some h with h | ⟨⟨v0_, v1_, v2_, v3_, v4_, e0_⟩, h1, h⟩
    · exact ok_Mo_pairing_y25 C x1 x2 x3 x4 x5 d g0 g1 g2 g3 g4 h (fun z0_ z1_ z2_ z3_ z4_ e1_ eq w0_ w1_ w2_ w3_ w4_ => by cases eq) (fun z0_ z1_ z2_ z3_ e1_ eq w0_ w1_ w2_ w3_ => k0 _ _ _ _ _ (by cases eq; rfl) w0_ w1_ w2_ w3_)
    · exact ok_Mo_pairing_y25 C x1 x2 x3 x4 x5 d g0 g1 g2 g3 g4 h1 (fun z0_ z1_ z2_ z3_ z4_ e1_ eq w0_ w1_ w2_ w3_ w4_ => by cases eq; exact ih _ _ _ _ _ _ w0_ w1_ w2_ w3_ w4_ h k0) (fun z0_ z1_ z2_ z3_ e1_ eq w0_ w1_ w2_ w3_ => by cases eq)
set_option maxHeartbeats 4000000 in
theorem ok_Mo_pairing_l25 {p : Program} {l : Launch} {e : Env} {s : State} {m : MethodId} {args : Array Value} {below : List Frame} {meth : Method} {c : Code} {D : va_G} {cA : Nat → ClassId} {ad : Nat → Nat} {A : Nat → Prop} (C : Cx p s m args c prog_14_method_78_code 8 "PollBooksModel" D cA ad 1 A) {Q : State → Prop} {x : (Int × Int × Int × Int × Dt)} (x1 x2 x3 x4 x5 : Int) (d : Dt) (hx1 : c32 x1) (hx2 : c32 x2) (hx3 : c32 x3) (hx4 : c32 x4) (hx5 : c32 x5) (h : L_Mo_pairing_l25 x1 x2 x3 x4 x5 d = some x) (k0 : ∀ (y0 y1 y2 y3 : Int) (e' : Dt), x = (y0, y1, y2, y3, e') → c32 y0 → c32 y1 → c32 y2 → c32 y3 → G p l e rm_Mo_pairing s m args below meth c 0 0 Q 8 D cA ad 1 A 134 [(2, 0), (0, y0), (0, y1), (0, y2), (0, y3), (9, 0), (9, 0), (9, 0)] [] e') : G p l e rm_Mo_pairing s m args below meth c 0 0 Q 8 D cA ad 1 A 25 [(2, 0), (0, x1), (0, x2), (0, x3), (0, x4), (0, x5), (9, 0), (9, 0)] [] d :=
  ok_Mo_pairing_n25 C FU x1 x2 x3 x4 x5 d hx1 hx2 hx3 hx4 hx5 h k0
set_option maxHeartbeats 4000000 in
theorem ok_Mo_pairing_y17 {p : Program} {l : Launch} {e : Env} {s : State} {m : MethodId} {args : Array Value} {below : List Frame} {meth : Method} {c : Code} {D : va_G} {cA : Nat → ClassId} {ad : Nat → Nat} {A : Nat → Prop} (C : Cx p s m args c prog_14_method_78_code 8 "PollBooksModel" D cA ad 1 A) {Q : State → Prop} {o : (Int × Int × Int × Int × Dt) ⊕ ((Dt))} (x1 x2 x3 x4 : Int) (d : Dt) (hx1 : c32 x1) (hx2 : c32 x2) (hx3 : c32 x3) (hx4 : c32 x4) (h : L_Mo_pairing_y17 x1 x2 x3 x4 d = some o) (kb : ∀ (y0 y1 y2 y3 : Int) (e' : Dt), o = .inl (y0, y1, y2, y3, e') → c32 y0 → c32 y1 → c32 y2 → c32 y3 → G p l e rm_Mo_pairing s m args below meth c 0 0 Q 8 D cA ad 1 A 17 [(2, 0), (0, y0), (0, y1), (0, y2), (0, y3), (9, 0), (9, 0), (9, 0)] [] e') (k0 : ∀ (e' : Dt), o = .inr (e') → G p l e rm_Mo_pairing s m args below meth c 0 0 Q 8 D cA ad 1 A 140 [(2, 0), (9, 0), (9, 0), (9, 0), (9, 0), (9, 0), (9, 0), (9, 0)] [] e') : G p l e rm_Mo_pairing s m args below meth c 0 0 Q 8 D cA ad 1 A 17 [(2, 0), (0, x1), (0, x2), (0, x3), (0, x4), (9, 0), (9, 0), (9, 0)] [] d := by
  unfold L_Mo_pairing_y17 at h
  refine g_iload C 4 rfl (by decide +kernel) ?_
  refine g_if_lt C (off := 121) (tgt := 140) hx4 (by decide +kernel) (by decide) (fun hc29_ => ?_) (fun hc29_ => ?_)
  · replace h := ite_t hc29_ h
    refine g_sub (lo2 := [(2, 0), (9, 0), (9, 0), (9, 0), (9, 0), (9, 0), (9, 0), (9, 0)]) (lsb_v (lsb_c (lsb_c (lsb_c (lsb_c (lsb_c (lsb_c (lsb_c lsb_e)))))))) ?_
    obtain rfl := Option.some.inj h
    exact k0 d rfl 
  · replace h := ite_f hc29_ h
    refine g_iload_n C 3 rfl (by decide +kernel) ?_
    refine s_istore C 5 (lo' := [(2, 0), (0, x1), (0, x2), (0, x3), (0, x4), (0, x3), (9, 0), (9, 0)]) (by decide) (s1k (s1k (s1k (s1k (s1n (by decide) s1z))))) (by decide +kernel) ?_
    refine g_sub (lo2 := [(2, 0), (0, x1), (0, x2), (0, x3), (0, x4), (0, x3), (9, 0), (9, 0)]) (lsb_v (lsb_v (lsb_v (lsb_v (lsb_v (lsb_v (lsb_c (lsb_c lsb_e)))))))) ?_
    obtain ⟨x30_, hx31_, h⟩ := lb_some h
    refine ok_Mo_pairing_l25 C x1 x2 x3 x4 x3 d hx1 hx2 hx3 hx4 hx3 hx31_ (fun v32_ v33_ v34_ v35_ d36_ eq37_ hv32_ hv33_ hv34_ hv35_ => ?_)
    subst eq37_
    replace h := u4_e h
    refine s_iinc C 4 (-1) (lo' := [(2, 0), (0, v32_), (0, v33_), (0, v34_), (0, (w32 (v35_ + (-1)))), (9, 0), (9, 0), (9, 0)]) rfl (by decide) (s1k (s1k (s1k (s1n (by decide) s1z)))) (by decide +kernel) ?_
    refine g_goto C 17 (off := (-120)) (by decide +kernel) (by decide) ?_
    refine g_sub (lo2 := [(2, 0), (0, v32_), (0, v33_), (0, v34_), (0, (w32 (v35_ + (-1)))), (9, 0), (9, 0), (9, 0)]) (lsb_v (lsb_v (lsb_v (lsb_v (lsb_v (lsb_c (lsb_c (lsb_c lsb_e)))))))) ?_
    obtain rfl := Option.some.inj h
    exact kb v32_ v33_ v34_ (w32 (v35_ + (-1))) d36_ rfl hv32_ hv33_ hv34_ (w32_c _)
set_option maxHeartbeats 4000000 in
theorem ok_Mo_pairing_n17 {p : Program} {l : Launch} {e : Env} {s : State} {m : MethodId} {args : Array Value} {below : List Frame} {meth : Method} {c : Code} {D : va_G} {cA : Nat → ClassId} {ad : Nat → Nat} {A : Nat → Prop} (C : Cx p s m args c prog_14_method_78_code 8 "PollBooksModel" D cA ad 1 A) {Q : State → Prop} {x : (Dt)} : ∀ (n : Nat) (x1 x2 x3 x4 : Int) (d : Dt), c32 x1 → c32 x2 → c32 x3 → c32 x4 → lpF (fun q : Int × Int × Int × Int × Dt => L_Mo_pairing_y17 q.1 q.2.1 q.2.2.1 q.2.2.2.1 q.2.2.2.2) n (x1, x2, x3, x4, d) = some x → (∀ (e' : Dt), x = (e') → G p l e rm_Mo_pairing s m args below meth c 0 0 Q 8 D cA ad 1 A 140 [(2, 0), (9, 0), (9, 0), (9, 0), (9, 0), (9, 0), (9, 0), (9, 0)] [] e') → G p l e rm_Mo_pairing s m args below meth c 0 0 Q 8 D cA ad 1 A 17 [(2, 0), (0, x1), (0, x2), (0, x3), (0, x4), (9, 0), (9, 0), (9, 0)] [] d := by
  intro n
  induction n with
  | zero => intro x1 x2 x3 x4 d g0 g1 g2 g3 h k0; cases h
  | succ n ih =>
    intro x1 x2 x3 x4 d g0 g1 g2 g3 h k0
    rcases lpF_some h with h | ⟨⟨v0_, v1_, v2_, v3_, e0_⟩, h1, h⟩
    · exact ok_Mo_pairing_y17 C x1 x2 x3 x4 d g0 g1 g2 g3 h (fun z0_ z1_ z2_ z3_ e1_ eq w0_ w1_ w2_ w3_ => by cases eq) (fun e1_ eq => k0 _ (by cases eq; rfl) )
    · exact ok_Mo_pairing_y17 C x1 x2 x3 x4 d g0 g1 g2 g3 h1 (fun z0_ z1_ z2_ z3_ e1_ eq w0_ w1_ w2_ w3_ => by cases eq; exact ih _ _ _ _ _ w0_ w1_ w2_ w3_ h k0) (fun e1_ eq => by cases eq)
set_option maxHeartbeats 4000000 in
theorem ok_Mo_pairing_l17 {p : Program} {l : Launch} {e : Env} {s : State} {m : MethodId} {args : Array Value} {below : List Frame} {meth : Method} {c : Code} {D : va_G} {cA : Nat → ClassId} {ad : Nat → Nat} {A : Nat → Prop} (C : Cx p s m args c prog_14_method_78_code 8 "PollBooksModel" D cA ad 1 A) {Q : State → Prop} {x : (Dt)} (x1 x2 x3 x4 : Int) (d : Dt) (hx1 : c32 x1) (hx2 : c32 x2) (hx3 : c32 x3) (hx4 : c32 x4) (h : L_Mo_pairing_l17 x1 x2 x3 x4 d = some x) (k0 : ∀ (e' : Dt), x = (e') → G p l e rm_Mo_pairing s m args below meth c 0 0 Q 8 D cA ad 1 A 140 [(2, 0), (9, 0), (9, 0), (9, 0), (9, 0), (9, 0), (9, 0), (9, 0)] [] e') : G p l e rm_Mo_pairing s m args below meth c 0 0 Q 8 D cA ad 1 A 17 [(2, 0), (0, x1), (0, x2), (0, x3), (0, x4), (9, 0), (9, 0), (9, 0)] [] d :=
  ok_Mo_pairing_n17 C FU x1 x2 x3 x4 d hx1 hx2 hx3 hx4 h k0
set_option maxHeartbeats 4000000 in
theorem ok_Mo_pairing {l : Launch} {r : Int} {d' : Dt} (p1 : Int) (d : Dt) (hp1 : c32 p1) (h : L_Mo_pairing p1 d = some (r, d')) : MC l y_Mo_pairing prog_14_method_78_code 8 (some .int) rm_Mo_pairing 1 [(2, 0), (0, p1)] d (some (0, r)) d' := by
  refine MC.of (by decide) (Nat.le_of_ble_eq_true rfl) ?_
  intro p e s m args below meth c D cA ad A C hlk hr
  replace C : Cx p s m args c prog_14_method_78_code 8 "PollBooksModel" D cA ad 1 A := C
  show G p l e rm_Mo_pairing s m args below meth c 0 0 (MQ below (fun _ => QC D cA ad 1 A (some .int) (some (0, r)) d') args s 0 0 A) 8 D cA ad 1 A 0 [(2, 0), (0, p1)] [] d
  refine g_sub (lo2 := [(2, 0), (0, p1), (9, 0), (9, 0), (9, 0), (9, 0), (9, 0), (9, 0)]) (lsb_v (lsb_v (lsb_n (lsb_n (lsb_n (lsb_n (lsb_n (lsb_n lsb_e)))))))) ?_
  unfold L_Mo_pairing at h
  refine g_aload_n C 0 rfl (by decide +kernel) ?_
  refine g_getR C cl12 0 72 52 rfl cd_B0 ⟨by decide, rfl, by decide⟩ rfl rfl (nB (by decide)) (ix := 176) lk_1474 (by decide +kernel) ?_
  refine g_iconst C 0 (cK rfl) (by decide +kernel) ?_
  refine g_iald C 52 (c32_cb (Or.inl rfl)) rfl cd_B52 (nB (by decide)) (by decide) (by decide +kernel) (fun hc39_ => ?_)
  refine g_val (y := (d 52 0)) rfl ?_
  replace hc39_ : c32 (d 52 0) := hc39_
  obtain ⟨v40_, ev41_, h⟩ := lt_some h
  refine g_val ev41_.symm ?_
  have hv42_ : c32 v40_ := by rw [ev41_]; exact hc39_
  refine s_istore_n C 2 (lo' := [(2, 0), (0, p1), (0, v40_), (9, 0), (9, 0), (9, 0), (9, 0), (9, 0)]) (by decide) (s1k (s1n (by decide) s1z)) (by decide +kernel) ?_
  refine g_aload_n C 0 rfl (by decide +kernel) ?_
  refine g_getR C cl12 0 72 52 rfl cd_B0 ⟨by decide, rfl, by decide⟩ rfl rfl (nB (by decide)) (ix := 176) lk_1474 (by decide +kernel) ?_
  refine g_iload_n C 1 rfl (by decide +kernel) ?_
  obtain ⟨hb43_, h⟩ := ck_some h
  refine g_iald C 52 hp1 rfl cd_B52 (nB (by decide)) hb43_ (by decide +kernel) (fun hc44_ => ?_)
  obtain ⟨v45_, ev46_, h⟩ := lt_some h
  refine g_val ev46_.symm ?_
  have hv47_ : c32 v45_ := by rw [ev46_]; exact hc44_
  refine s_istore_n C 3 (lo' := [(2, 0), (0, p1), (0, v40_), (0, v45_), (9, 0), (9, 0), (9, 0), (9, 0)]) (by decide) (s1k (s1k (s1n (by decide) s1z))) (by decide +kernel) ?_
  refine g_iload_n C 2 rfl (by decide +kernel) ?_
  refine s_istore C 4 (lo' := [(2, 0), (0, p1), (0, v40_), (0, v45_), (0, v40_), (9, 0), (9, 0), (9, 0)]) (by decide) (s1k (s1k (s1k (s1n (by decide) s1z)))) (by decide +kernel) ?_
  refine g_sub (lo2 := [(2, 0), (0, p1), (0, v40_), (0, v45_), (0, v40_), (9, 0), (9, 0), (9, 0)]) (lsb_v (lsb_v (lsb_v (lsb_v (lsb_v (lsb_c (lsb_c (lsb_c lsb_e)))))))) ?_
  obtain ⟨x48_, hx49_, h⟩ := lb_some h
  refine ok_Mo_pairing_l17 C p1 v40_ v45_ v40_ d hp1 hv42_ hv47_ hv42_ hx49_ (fun d50_ eq51_ => ?_)
  replace eq51_ := eq51_.symm
  subst eq51_
  replace h := u0_e h
  refine g_aload_n C 0 rfl (by decide +kernel) ?_
  refine g_getR C cl12 0 78 58 rfl cd_B0 ⟨by decide, rfl, by decide⟩ rfl rfl (nB (by decide)) (ix := 194) lk_1480 (by decide +kernel) ?_
  refine g_iconst C 0 (cK rfl) (by decide +kernel) ?_
  refine g_iald C 58 (c32_cb (Or.inl rfl)) rfl cd_B58 (nB (by decide)) (by decide) (by decide +kernel) (fun hc52_ => ?_)
  refine g_val (y := (d50_ 58 0)) rfl ?_
  replace hc52_ : c32 (d50_ 58 0) := hc52_
  obtain ⟨rfl, rfl⟩ := ret_inj h
  exact g_iret C hc52_ hlk hr (by decide +kernel)
/-! PollBooksModel.join(I)I -/
def y_Mo_join : MethodName := ⟨"PollBooksModel", "join", "(I)I"⟩
def rm_Mo_join : Room := { frames := 5, cells := 0, slots := 0, locals := 130 }
theorem mw_Mo_join : MW y_Mo_join prog_14_method_82_code 2 (some .int) 1 := ⟨lk_2071, lk_14, by decide +kernel⟩
def L_Mo_join (p1 : Int) (d : Dt) : Option (Int × Dt) :=
  bd (L_Mo_isOther p1 d) (fun r2_ d1_ => if r2_ = 0 then bd (L_Mo_refuse 1 d1_) (fun r7_ d6_ => some (r7_, d6_)) else bd (L_Mo_pairing p1 d1_) (fun r11_ d10_ => bd (L_Mo_gives r11_ d10_) (fun r15_ d14_ => some (r15_, d14_))))
set_option maxHeartbeats 4000000 in
theorem ok_Mo_join {l : Launch} {r : Int} {d' : Dt} (p1 : Int) (d : Dt) (hp1 : c32 p1) (h : L_Mo_join p1 d = some (r, d')) : MC l y_Mo_join prog_14_method_82_code 2 (some .int) rm_Mo_join 1 [(2, 0), (0, p1)] d (some (0, r)) d' := by
  refine MC.of (by decide) (Nat.le_of_ble_eq_true rfl) ?_
  intro p e s m args below meth c D cA ad A C hlk hr
  replace C : Cx p s m args c prog_14_method_82_code 2 "PollBooksModel" D cA ad 1 A := C
  show G p l e rm_Mo_join s m args below meth c 0 0 (MQ below (fun _ => QC D cA ad 1 A (some .int) (some (0, r)) d') args s 0 0 A) 2 D cA ad 1 A 0 [(2, 0), (0, p1)] [] d
  refine g_sub (lo2 := [(2, 0), (0, p1)]) (lsb_v (lsb_v lsb_e)) ?_
  unfold L_Mo_join at h
  refine g_iload_n C 1 rfl (by decide +kernel) ?_
  obtain ⟨r2_, d1_, hr3_, h⟩ := bd_some h
  refine g_callS C mw_Mo_isOther [(0, p1)] (ok_Mo_isOther p1 d hp1 hr3_) (ix := 538) lk_2072 lk_2073 ⟨rfl, rfl, Nat.le_of_ble_eq_true rfl, Nat.le_of_ble_eq_true rfl⟩ rfl (rest := []) rfl (Nat.le_of_ble_eq_true rfl) ⟨Nat.zero_le _, Nat.zero_le _⟩ (by decide +kernel) (fun _ hc4_ => ?_)
  replace hc4_ : cb r2_ := hc4_
  refine g_st (st2 := [(0, r2_)]) rfl ?_
  refine g_if_eq C (off := 15) (tgt := 19) (c32_cb hc4_) (by decide +kernel) (by decide) (fun hc5_ => ?_) (fun hc5_ => ?_)
  · replace h := ite_t hc5_ h
    refine g_aload_n C 0 rfl (by decide +kernel) ?_
    refine g_iconst C 1 (cK rfl) (by decide +kernel) ?_
    obtain ⟨r7_, d6_, hr8_, h⟩ := bd_some h
    refine g_callV C mw_Mo_refuse [(0, 1)] 0 cl12 rfl (ok_Mo_refuse 1 d1_ (c32_cb (Or.inr rfl)) hr8_) cd_B0 (by decide) (nB (by decide)) (ix := 316) lk_1787 lk_1789 lkp_61 ⟨rfl, rfl, Nat.le_of_ble_eq_true rfl, Nat.le_of_ble_eq_true rfl⟩ rfl (rest := []) rfl (Nat.le_of_ble_eq_true rfl) ⟨Nat.zero_le _, Nat.zero_le _⟩ (by decide +kernel) (fun _ hc9_ => ?_)
    replace hc9_ : c32 r7_ := hc9_
    refine g_st (st2 := [(0, r7_)]) rfl ?_
    obtain ⟨rfl, rfl⟩ := ret_inj h
    exact g_iret C hc9_ hlk hr (by decide +kernel)
  · replace h := ite_f hc5_ h
    refine g_aload_n C 0 rfl (by decide +kernel) ?_
    refine g_aload_n C 0 rfl (by decide +kernel) ?_
    refine g_iload_n C 1 rfl (by decide +kernel) ?_
    obtain ⟨r11_, d10_, hr12_, h⟩ := bd_some h
    refine g_callV C mw_Mo_pairing [(0, p1)] 0 cl12 rfl (ok_Mo_pairing p1 d1_ hp1 hr12_) cd_B0 (by decide) (nB (by decide)) (ix := 535) lk_2075 lk_2077 lkp_95 ⟨rfl, rfl, Nat.le_of_ble_eq_true rfl, Nat.le_of_ble_eq_true rfl⟩ rfl (rest := [(2, 0)]) rfl (Nat.le_of_ble_eq_true rfl) ⟨Nat.zero_le _, Nat.zero_le _⟩ (by decide +kernel) (fun _ hc13_ => ?_)
    replace hc13_ : c32 r11_ := hc13_
    refine g_st (st2 := [(0, r11_), (2, 0)]) rfl ?_
    obtain ⟨r15_, d14_, hr16_, h⟩ := bd_some h
    refine g_callV C mw_Mo_gives [(0, r11_)] 0 cl12 rfl (ok_Mo_gives r11_ d10_ hc13_ hr16_) cd_B0 (by decide) (nB (by decide)) (ix := 312) lk_1783 lk_1785 lkp_60 ⟨rfl, rfl, Nat.le_of_ble_eq_true rfl, Nat.le_of_ble_eq_true rfl⟩ rfl (rest := []) rfl (Nat.le_of_ble_eq_true rfl) ⟨Nat.zero_le _, Nat.zero_le _⟩ (by decide +kernel) (fun _ hc17_ => ?_)
    replace hc17_ : c32 r15_ := hc17_
    refine g_st (st2 := [(0, r15_)]) rfl ?_
    refine g_goto C 24 (off := 8) (by decide +kernel) (by decide) ?_
    obtain ⟨rfl, rfl⟩ := ret_inj h
    exact g_iret C hc17_ hlk hr (by decide +kernel)
/-! PollBooksModel.isEntry(I)Z -/
def y_Mo_isEntry : MethodName := ⟨"PollBooksModel", "isEntry", "(I)Z"⟩
def rm_Mo_isEntry : Room := { frames := 0, cells := 0, slots := 0, locals := 0 }
theorem mw_Mo_isEntry : MW y_Mo_isEntry prog_14_method_81_code 2 (some .boolean) 1 := ⟨lk_2095, lk_14, by decide +kernel⟩
def L_Mo_isEntry (p1 : Int) (d : Dt) : Option (Int × Dt) :=
  if p1 < 0 then some (0, d) else if p1 < (d 52 0) then some (1, d) else some (0, d)
set_option maxHeartbeats 4000000 in
theorem ok_Mo_isEntry {l : Launch} {r : Int} {d' : Dt} (p1 : Int) (d : Dt) (hp1 : c32 p1) (h : L_Mo_isEntry p1 d = some (r, d')) : MC l y_Mo_isEntry prog_14_method_81_code 2 (some .boolean) rm_Mo_isEntry 1 [(2, 0), (0, p1)] d (some (0, r)) d' := by
  refine MC.of (by decide) (Nat.le_of_ble_eq_true rfl) ?_
  intro p e s m args below meth c D cA ad A C hlk hr
  replace C : Cx p s m args c prog_14_method_81_code 2 "PollBooksModel" D cA ad 1 A := C
  show G p l e rm_Mo_isEntry s m args below meth c 0 0 (MQ below (fun _ => QC D cA ad 1 A (some .boolean) (some (0, r)) d') args s 0 0 A) 2 D cA ad 1 A 0 [(2, 0), (0, p1)] [] d
  refine g_sub (lo2 := [(2, 0), (0, p1)]) (lsb_v (lsb_v lsb_e)) ?_
  unfold L_Mo_isEntry at h
  refine g_iload_n C 1 rfl (by decide +kernel) ?_
  refine g_if_lt C (off := 17) (tgt := 18) hp1 (by decide +kernel) (by decide) (fun hc1_ => ?_) (fun hc1_ => ?_)
  · replace h := ite_t hc1_ h
    refine g_iconst C 0 (cK rfl) (by decide +kernel) ?_
    obtain ⟨rfl, rfl⟩ := ret_inj h
    exact g_zret C (Or.inl rfl) hlk hr (by decide +kernel)
  · replace h := ite_f hc1_ h
    refine g_iload_n C 1 rfl (by decide +kernel) ?_
    refine g_aload_n C 0 rfl (by decide +kernel) ?_
    refine g_getR C cl12 0 72 52 rfl cd_B0 ⟨by decide, rfl, by decide⟩ rfl rfl (nB (by decide)) (ix := 176) lk_1474 (by decide +kernel) ?_
    refine g_iconst C 0 (cK rfl) (by decide +kernel) ?_
    refine g_iald C 52 (c32_cb (Or.inl rfl)) rfl cd_B52 (nB (by decide)) (by decide) (by decide +kernel) (fun hc2_ => ?_)
    refine g_val (y := (d 52 0)) rfl ?_
    replace hc2_ : c32 (d 52 0) := hc2_
    refine g_icmp_ge C (off := 7) (tgt := 18) hp1 hc2_ (by decide +kernel) (by decide) (fun hc3_ => ?_) (fun hc3_ => ?_)
    · replace h := ite_t hc3_ h
      refine g_iconst C 1 (cK rfl) (by decide +kernel) ?_
      refine g_goto C 19 (off := 4) (by decide +kernel) (by decide) ?_
      obtain ⟨rfl, rfl⟩ := ret_inj h
      exact g_zret C (Or.inr rfl) hlk hr (by decide +kernel)
    · replace h := ite_f hc3_ h
      refine g_iconst C 0 (cK rfl) (by decide +kernel) ?_
      obtain ⟨rfl, rfl⟩ := ret_inj h
      exact g_zret C (Or.inl rfl) hlk hr (by decide +kernel)
/-! PollBooksModel.joinAll()V -/
def y_Mo_joinAll : MethodName := ⟨"PollBooksModel", "joinAll", "()V"⟩
def rm_Mo_joinAll : Room := { frames := 5, cells := 0, slots := 0, locals := 130 }
theorem mw_Mo_joinAll : MW y_Mo_joinAll prog_14_method_79_code 7 none 0 := ⟨lk_2099, lk_14, by decide +kernel⟩
def L_Mo_joinAll_b81 (x1 x3 x4 x5 x6 : Int) (d : Dt) : Option ((Int × Int × Int × Int × Int × Dt) ⊕ ((Int × Int × Int × Int × Dt))) :=
  some (Sum.inl (x1, x3, x4, x5, (w32 (x6 + 1)), d))
def L_Mo_joinAll_y35 (x1 x3 x4 x5 x6 : Int) (d : Dt) : Option ((Int × Int × Int × Int × Int × Dt) ⊕ ((Int × Int × Int × Int × Dt))) :=
  ck ((0 : Int) ≤ x1 ∧ x1 < 3) (if x6 < (d 52 x1.toNat) then if x5 = (-1) then bd (L_Mo_paired x1 x4 x3 x6 d) (fun r6_ d5_ => ck ((0 : Int) ≤ (w32 ((w32 (31 * x4)) + x3)) ∧ (w32 ((w32 (31 * x4)) + x3)) < 961) (if r6_ = (d5_ 58 ((w32 ((w32 (31 * x4)) + x3))).toNat) then L_Mo_joinAll_b81 x1 x3 x4 x6 x6 d5_ else L_Mo_joinAll_b81 x1 x3 x4 x5 x6 d5_)) else some (Sum.inr (x1, x3, x4, x5, d)) else some (Sum.inr (x1, x3, x4, x5, d)))
def L_Mo_joinAll_l35 (x1 x3 x4 x5 x6 : Int) (d : Dt) : Option ((Int × Int × Int × Int × Dt)) := lpF (fun q : Int × Int × Int × Int × Int × Dt => L_Mo_joinAll_y35 q.1 q.2.1 q.2.2.1 q.2.2.2.1 q.2.2.2.2.1 q.2.2.2.2.2) FU (x1, x3, x4, x5, x6, d)
def L_Mo_joinAll_b114 (x1 x3 x4 : Int) (d : Dt) : Option ((Int × Int × Int × Dt) ⊕ ((Int × Dt))) :=
  some (Sum.inl (x1, x3, (w32 (x4 + 1)), d))
def L_Mo_joinAll_b87 (x1 x3 x4 x5 : Int) (d : Dt) : Option ((Int × Int × Int × Dt) ⊕ ((Int × Dt))) :=
  ck ((0 : Int) ≤ (w32 ((w32 (30 * (w32 (x1 - 1)))) + x4)) ∧ (w32 ((w32 (30 * (w32 (x1 - 1)))) + x4)) < 60) (if x5 = (-1) then L_Mo_joinAll_b114 x1 x3 x4 (up2 d 56 ((w32 ((w32 (30 * (w32 (x1 - 1)))) + x4))).toNat x5) else lt_ (w32 (x5 + 1)) (fun v14_ => L_Mo_joinAll_b114 x1 v14_ x4 (up2 d 56 ((w32 ((w32 (30 * (w32 (x1 - 1)))) + x4))).toNat x5)))
def L_Mo_joinAll_y18 (x1 x3 x4 : Int) (d : Dt) : Option ((Int × Int × Int × Dt) ⊕ ((Int × Dt))) :=
  if x4 < (d 52 0) then lb (L_Mo_joinAll_l35 x1 x3 x4 (-1) x3 d) (fun q27_ => u4 q27_ (fun v21_ v22_ v23_ v24_ d25_ => L_Mo_joinAll_b87 v21_ v22_ v23_ v24_ d25_)) else some (Sum.inr (x1, d))
def L_Mo_joinAll_l18 (x1 x3 x4 : Int) (d : Dt) : Option ((Int × Dt)) := lpF (fun q : Int × Int × Int × Dt => L_Mo_joinAll_y18 q.1 q.2.1 q.2.2.1 q.2.2.2) FU (x1, x3, x4, d)
def L_Mo_joinAll_y2 (x1 : Int) (d : Dt) : Option ((Int × Dt) ⊕ ((Dt))) :=
  if 2 < x1 then some (Sum.inr (d)) else bd (L_Mo_pairing x1 d) (fun r30_ d29_ => lb (L_Mo_joinAll_l18 x1 0 0 d29_) (fun q38_ => u1 q38_ (fun v35_ d36_ => some (Sum.inl ((w32 (v35_ + 1)), d36_)))))
def L_Mo_joinAll_l2 (x1 : Int) (d : Dt) : Option ((Dt)) := lpF (fun q : Int × Dt => L_Mo_joinAll_y2 q.1 q.2) FU (x1, d)
def L_Mo_joinAll (d : Dt) : Option (Int × Dt) :=
  lb (L_Mo_joinAll_l2 1 d) (fun q43_ => u0 q43_ (fun d41_ => some (0, d41_)))
set_option maxHeartbeats 4000000 in
theorem ok_Mo_joinAll_b81 {p : Program} {l : Launch} {e : Env} {s : State} {m : MethodId} {args : Array Value} {below : List Frame} {meth : Method} {c : Code} {D : va_G} {cA : Nat → ClassId} {ad : Nat → Nat} {A : Nat → Prop} (C : Cx p s m args c prog_14_method_79_code 7 "PollBooksModel" D cA ad 1 A) {Q : State → Prop} {o : (Int × Int × Int × Int × Int × Dt) ⊕ ((Int × Int × Int × Int × Dt))} (x1 x3 x4 x5 x6 : Int) (d : Dt) (hx1 : c32 x1) (hx3 : c32 x3) (hx4 : c32 x4) (hx5 : c32 x5) (hx6 : c32 x6) (h : L_Mo_joinAll_b81 x1 x3 x4 x5 x6 d = some o) (kb : ∀ (y0 y1 y2 y3 y4 : Int) (e' : Dt), o = .inl (y0, y1, y2, y3, y4, e') → c32 y0 → c32 y1 → c32 y2 → c32 y3 → c32 y4 → G p l e rm_Mo_joinAll s m args below meth c 0 0 Q 7 D cA ad 1 A 35 [(2, 0), (0, y0), (9, 0), (0, y1), (0, y2), (0, y3), (0, y4)] [] e') (k0 : ∀ (y0 y1 y2 y3 : Int) (e' : Dt), o = .inr (y0, y1, y2, y3, e') → c32 y0 → c32 y1 → c32 y2 → c32 y3 → G p l e rm_Mo_joinAll s m args below meth c 0 0 Q 7 D cA ad 1 A 87 [(2, 0), (0, y0), (9, 0), (0, y1), (0, y2), (0, y3), (9, 0)] [] e') : G p l e rm_Mo_joinAll s m args below meth c 0 0 Q 7 D cA ad 1 A 81 [(2, 0), (0, x1), (9, 0), (0, x3), (0, x4), (0, x5), (0, x6)] [] d := by
  unfold L_Mo_joinAll_b81 at h
  refine s_iinc C 6 1 (lo' := [(2, 0), (0, x1), (9, 0), (0, x3), (0, x4), (0, x5), (0, (w32 (x6 + 1)))]) rfl (by decide) (s1k (s1k (s1k (s1k (s1k (s1n (by decide) s1z)))))) (by decide +kernel) ?_
  refine g_goto C 35 (off := (-49)) (by decide +kernel) (by decide) ?_
  refine g_sub (lo2 := [(2, 0), (0, x1), (9, 0), (0, x3), (0, x4), (0, x5), (0, (w32 (x6 + 1)))]) (lsb_v (lsb_v (lsb_c (lsb_v (lsb_v (lsb_v (lsb_v lsb_e))))))) ?_
  obtain rfl := Option.some.inj h
  exact kb x1 x3 x4 x5 (w32 (x6 + 1)) d rfl hx1 hx3 hx4 hx5 (w32_c _)
set_option maxHeartbeats 4000000 in
theorem ok_Mo_joinAll_y35 {p : Program} {l : Launch} {e : Env} {s : State} {m : MethodId} {args : Array Value} {below : List Frame} {meth : Method} {c : Code} {D : va_G} {cA : Nat → ClassId} {ad : Nat → Nat} {A : Nat → Prop} (C : Cx p s m args c prog_14_method_79_code 7 "PollBooksModel" D cA ad 1 A) {Q : State → Prop} {o : (Int × Int × Int × Int × Int × Dt) ⊕ ((Int × Int × Int × Int × Dt))} (x1 x3 x4 x5 x6 : Int) (d : Dt) (hx1 : c32 x1) (hx3 : c32 x3) (hx4 : c32 x4) (hx5 : c32 x5) (hx6 : c32 x6) (h : L_Mo_joinAll_y35 x1 x3 x4 x5 x6 d = some o) (kb : ∀ (y0 y1 y2 y3 y4 : Int) (e' : Dt), o = .inl (y0, y1, y2, y3, y4, e') → c32 y0 → c32 y1 → c32 y2 → c32 y3 → c32 y4 → G p l e rm_Mo_joinAll s m args below meth c 0 0 Q 7 D cA ad 1 A 35 [(2, 0), (0, y0), (9, 0), (0, y1), (0, y2), (0, y3), (0, y4)] [] e') (k0 : ∀ (y0 y1 y2 y3 : Int) (e' : Dt), o = .inr (y0, y1, y2, y3, e') → c32 y0 → c32 y1 → c32 y2 → c32 y3 → G p l e rm_Mo_joinAll s m args below meth c 0 0 Q 7 D cA ad 1 A 87 [(2, 0), (0, y0), (9, 0), (0, y1), (0, y2), (0, y3), (9, 0)] [] e') : G p l e rm_Mo_joinAll s m args below meth c 0 0 Q 7 D cA ad 1 A 35 [(2, 0), (0, x1), (9, 0), (0, x3), (0, x4), (0, x5), (0, x6)] [] d := by
  unfold L_Mo_joinAll_y35 at h
  refine g_iload C 6 rfl (by decide +kernel) ?_
  refine g_aload_n C 0 rfl (by decide +kernel) ?_
  refine g_getR C cl12 0 72 52 rfl cd_B0 ⟨by decide, rfl, by decide⟩ rfl rfl (nB (by decide)) (ix := 176) lk_1474 (by decide +kernel) ?_
  refine g_iload_n C 1 rfl (by decide +kernel) ?_
  obtain ⟨hb1_, h⟩ := ck_some h
  refine g_iald C 52 hx1 rfl cd_B52 (nB (by decide)) hb1_ (by decide +kernel) (fun hc2_ => ?_)
  refine g_icmp_ge C (off := 44) (tgt := 87) hx6 hc2_ (by decide +kernel) (by decide) (fun hc3_ => ?_) (fun hc3_ => ?_)
  · replace h := ite_t hc3_ h
    refine g_iload C 5 rfl (by decide +kernel) ?_
    refine g_iconst C (-1) (cK rfl) (by decide +kernel) ?_
    refine g_icmp_ne C (off := 38) (tgt := 87) hx5 (cK rfl) (by decide +kernel) (by decide) (fun hc4_ => ?_) (fun hc4_ => ?_)
    · replace h := ite_t hc4_ h
      refine g_aload_n C 0 rfl (by decide +kernel) ?_
      refine g_iload_n C 1 rfl (by decide +kernel) ?_
      refine g_iload C 4 rfl (by decide +kernel) ?_
      refine g_iload_n C 3 rfl (by decide +kernel) ?_
      refine g_iload C 6 rfl (by decide +kernel) ?_
      obtain ⟨r6_, d5_, hr7_, h⟩ := bd_some h
      refine g_callV C mw_Mo_paired [(0, x1), (0, x4), (0, x3), (0, x6)] 0 cl12 rfl (ok_Mo_paired x1 x4 x3 x6 d hx1 hx4 hx3 hx6 hr7_) cd_B0 (by decide) (nB (by decide)) (ix := 532) lk_2079 lk_2081 lkp_96 ⟨rfl, rfl, Nat.le_of_ble_eq_true rfl, Nat.le_of_ble_eq_true rfl⟩ rfl (rest := []) rfl (Nat.le_of_ble_eq_true rfl) ⟨Nat.zero_le _, Nat.zero_le _⟩ (by decide +kernel) (fun _ hc8_ => ?_)
      replace hc8_ : c32 r6_ := hc8_
      refine g_st (st2 := [(0, r6_)]) rfl ?_
      refine g_aload_n C 0 rfl (by decide +kernel) ?_
      refine g_getR C cl12 0 78 58 rfl cd_B0 ⟨by decide, rfl, by decide⟩ rfl rfl (nB (by decide)) (ix := 194) lk_1480 (by decide +kernel) ?_
      refine g_bipush C 31 (by decide) (by decide +kernel) ?_
      refine g_iload C 4 rfl (by decide +kernel) ?_
      refine g_imul C (by decide +kernel) ?_
      refine g_iload_n C 3 rfl (by decide +kernel) ?_
      refine g_iadd C (by decide +kernel) ?_
      obtain ⟨hb9_, h⟩ := ck_some h
      refine g_iald C 58 (w32_c _) rfl cd_B58 (nB (by decide)) hb9_ (by decide +kernel) (fun hc10_ => ?_)
      refine g_icmp_ne C (off := 7) (tgt := 81) hc8_ hc10_ (by decide +kernel) (by decide) (fun hc11_ => ?_) (fun hc11_ => ?_)
      · replace h := ite_t hc11_ h
        refine g_iload C 6 rfl (by decide +kernel) ?_
        refine s_istore C 5 (lo' := [(2, 0), (0, x1), (9, 0), (0, x3), (0, x4), (0, x6), (0, x6)]) (by decide) (s1k (s1k (s1k (s1k (s1n (by decide) s1z))))) (by decide +kernel) ?_
        refine g_sub (lo2 := [(2, 0), (0, x1), (9, 0), (0, x3), (0, x4), (0, x6), (0, x6)]) (lsb_v (lsb_v (lsb_c (lsb_v (lsb_v (lsb_v (lsb_v lsb_e))))))) ?_
        exact ok_Mo_joinAll_b81 C x1 x3 x4 x6 x6 d5_ hx1 hx3 hx4 hx6 hx6 h kb k0
      · replace h := ite_f hc11_ h
        refine g_sub (lo2 := [(2, 0), (0, x1), (9, 0), (0, x3), (0, x4), (0, x5), (0, x6)]) (lsb_v (lsb_v (lsb_c (lsb_v (lsb_v (lsb_v (lsb_v lsb_e))))))) ?_
        exact ok_Mo_joinAll_b81 C x1 x3 x4 x5 x6 d5_ hx1 hx3 hx4 hx5 hx6 h kb k0
    · replace h := ite_f hc4_ h
      refine g_sub (lo2 := [(2, 0), (0, x1), (9, 0), (0, x3), (0, x4), (0, x5), (9, 0)]) (lsb_v (lsb_v (lsb_c (lsb_v (lsb_v (lsb_v (lsb_c lsb_e))))))) ?_
      obtain rfl := Option.some.inj h
      exact k0 x1 x3 x4 x5 d rfl hx1 hx3 hx4 hx5
  · replace h := ite_f hc3_ h
    refine g_sub (lo2 := [(2, 0), (0, x1), (9, 0), (0, x3), (0, x4), (0, x5), (9, 0)]) (lsb_v (lsb_v (lsb_c (lsb_v (lsb_v (lsb_v (lsb_c lsb_e))))))) ?_
    obtain rfl := Option.some.inj h
    exact k0 x1 x3 x4 x5 d rfl hx1 hx3 hx4 hx5
set_option maxHeartbeats 4000000 in
theorem ok_Mo_joinAll_n35 {p : Program} {l : Launch} {e : Env} {s : State} {m : MethodId} {args : Array Value} {below : List Frame} {meth : Method} {c : Code} {D : va_G} {cA : Nat → ClassId} {ad : Nat → Nat} {A : Nat → Prop} (C : Cx p s m args c prog_14_method_79_code 7 "PollBooksModel" D cA ad 1 A) {Q : State → Prop} {x : (Int × Int × Int × Int × Dt)} : ∀ (n : Nat) (x1 x3 x4 x5 x6 : Int) (d : Dt), c32 x1 → c32 x3 → c32 x4 → c32 x5 → c32 x6 → lpF (fun q : Int × Int × Int × Int × Int × Dt => L_Mo_joinAll_y35 q.1 q.2.1 q.2.2.1 q.2.2.2.1 q.2.2.2.2.1 q.2.2.2.2.2) n (x1, x3, x4, x5, x6, d) = some x → (∀ (y0 y1 y2 y3 : Int) (e' : Dt), x = (y0, y1, y2, y3, e') → c32 y0 → c32 y1 → c32 y2 → c32 y3 → G p l e rm_Mo_joinAll s m args below meth c 0 0 Q 7 D cA ad 1 A 87 [(2, 0), (0, y0), (9, 0), (0, y1), (0, y2), (0, y3), (9, 0)] [] e') → G p l e rm_Mo_joinAll s m args below meth c 0 0 Q 7 D cA ad 1 A 35 [(2, 0), (0, x1), (9, 0), (0, x3), (0, x4), (0, x5), (0, x6)] [] d := by
  intro n
  induction n with
  | zero => intro x1 x3 x4 x5 x6 d g0 g1 g2 g3 g4 h k0; cases h
  | succ n ih =>
    intro x1 x3 x4 x5 x6 d g0 g1 g2 g3 g4 h k0
    rcases lpF_some h with h | ⟨⟨v0_, v1_, v2_, v3_, v4_, e0_⟩, h1, h⟩
    · exact ok_Mo_joinAll_y35 C x1 x3 x4 x5 x6 d g0 g1 g2 g3 g4 h (fun z0_ z1_ z2_ z3_ z4_ e1_ eq w0_ w1_ w2_ w3_ w4_ => by cases eq) (fun z0_ z1_ z2_ z3_ e1_ eq w0_ w1_ w2_ w3_ => k0 _ _ _ _ _ (by cases eq; rfl) w0_ w1_ w2_ w3_)
    · exact ok_Mo_joinAll_y35 C x1 x3 x4 x5 x6 d g0 g1 g2 g3 g4 h1 (fun z0_ z1_ z2_ z3_ z4_ e1_ eq w0_ w1_ w2_ w3_ w4_ => by cases eq; exact ih _ _ _ _ _ _ w0_ w1_ w2_ w3_ w4_ h k0) (fun z0_ z1_ z2_ z3_ e1_ eq w0_ w1_ w2_ w3_ => by cases eq)
set_option maxHeartbeats 4000000 in
theorem ok_Mo_joinAll_l35 {p : Program} {l : Launch} {e : Env} {s : State} {m : MethodId} {args : Array Value} {below : List Frame} {meth : Method} {c : Code} {D : va_G} {cA : Nat → ClassId} {ad : Nat → Nat} {A : Nat → Prop} (C : Cx p s m args c prog_14_method_79_code 7 "PollBooksModel" D cA ad 1 A) {Q : State → Prop} {x : (Int × Int × Int × Int × Dt)} (x1 x3 x4 x5 x6 : Int) (d : Dt) (hx1 : c32 x1) (hx3 : c32 x3) (hx4 : c32 x4) (hx5 : c32 x5) (hx6 : c32 x6) (h : L_Mo_joinAll_l35 x1 x3 x4 x5 x6 d = some x) (k0 : ∀ (y0 y1 y2 y3 : Int) (e' : Dt), x = (y0, y1, y2, y3, e') → c32 y0 → c32 y1 → c32 y2 → c32 y3 → G p l e rm_Mo_joinAll s m args below meth c 0 0 Q 7 D cA ad 1 A 87 [(2, 0), (0, y0), (9, 0), (0, y1), (0, y2), (0, y3), (9, 0)] [] e') : G p l e rm_Mo_joinAll s m args below meth c 0 0 Q 7 D cA ad 1 A 35 [(2, 0), (0, x1), (9, 0), (0, x3), (0, x4), (0, x5), (0, x6)] [] d :=
  ok_Mo_joinAll_n35 C FU x1 x3 x4 x5 x6 d hx1 hx3 hx4 hx5 hx6 h k0
set_option maxHeartbeats 4000000 in
theorem ok_Mo_joinAll_b114 {p : Program} {l : Launch} {e : Env} {s : State} {m : MethodId} {args : Array Value} {below : List Frame} {meth : Method} {c : Code} {D : va_G} {cA : Nat → ClassId} {ad : Nat → Nat} {A : Nat → Prop} (C : Cx p s m args c prog_14_method_79_code 7 "PollBooksModel" D cA ad 1 A) {Q : State → Prop} {o : (Int × Int × Int × Dt) ⊕ ((Int × Dt))} (x1 x3 x4 : Int) (d : Dt) (hx1 : c32 x1) (hx3 : c32 x3) (hx4 : c32 x4) (h : L_Mo_joinAll_b114 x1 x3 x4 d = some o) (kb : ∀ (y0 y1 y2 : Int) (e' : Dt), o = .inl (y0, y1, y2, e') → c32 y0 → c32 y1 → c32 y2 → G p l e rm_Mo_joinAll s m args below meth c 0 0 Q 7 D cA ad 1 A 18 [(2, 0), (0, y0), (9, 0), (0, y1), (0, y2), (9, 0), (9, 0)] [] e') (k0 : ∀ (y0 : Int) (e' : Dt), o = .inr (y0, e') → c32 y0 → G p l e rm_Mo_joinAll s m args below meth c 0 0 Q 7 D cA ad 1 A 120 [(2, 0), (0, y0), (9, 0), (9, 0), (9, 0), (9, 0), (9, 0)] [] e') : G p l e rm_Mo_joinAll s m args below meth c 0 0 Q 7 D cA ad 1 A 114 [(2, 0), (0, x1), (9, 0), (0, x3), (0, x4), (9, 0), (9, 0)] [] d := by
  unfold L_Mo_joinAll_b114 at h
  refine s_iinc C 4 1 (lo' := [(2, 0), (0, x1), (9, 0), (0, x3), (0, (w32 (x4 + 1))), (9, 0), (9, 0)]) rfl (by decide) (s1k (s1k (s1k (s1n (by decide) s1z)))) (by decide +kernel) ?_
  refine g_goto C 18 (off := (-99)) (by decide +kernel) (by decide) ?_
  refine g_sub (lo2 := [(2, 0), (0, x1), (9, 0), (0, x3), (0, (w32 (x4 + 1))), (9, 0), (9, 0)]) (lsb_v (lsb_v (lsb_c (lsb_v (lsb_v (lsb_c (lsb_c lsb_e))))))) ?_
  obtain rfl := Option.some.inj h
  exact kb x1 x3 (w32 (x4 + 1)) d rfl hx1 hx3 (w32_c _)
set_option maxHeartbeats 4000000 in
theorem ok_Mo_joinAll_b87 {p : Program} {l : Launch} {e : Env} {s : State} {m : MethodId} {args : Array Value} {below : List Frame} {meth : Method} {c : Code} {D : va_G} {cA : Nat → ClassId} {ad : Nat → Nat} {A : Nat → Prop} (C : Cx p s m args c prog_14_method_79_code 7 "PollBooksModel" D cA ad 1 A) {Q : State → Prop} {o : (Int × Int × Int × Dt) ⊕ ((Int × Dt))} (x1 x3 x4 x5 : Int) (d : Dt) (hx1 : c32 x1) (hx3 : c32 x3) (hx4 : c32 x4) (hx5 : c32 x5) (h : L_Mo_joinAll_b87 x1 x3 x4 x5 d = some o) (kb : ∀ (y0 y1 y2 : Int) (e' : Dt), o = .inl (y0, y1, y2, e') → c32 y0 → c32 y1 → c32 y2 → G p l e rm_Mo_joinAll s m args below meth c 0 0 Q 7 D cA ad 1 A 18 [(2, 0), (0, y0), (9, 0), (0, y1), (0, y2), (9, 0), (9, 0)] [] e') (k0 : ∀ (y0 : Int) (e' : Dt), o = .inr (y0, e') → c32 y0 → G p l e rm_Mo_joinAll s m args below meth c 0 0 Q 7 D cA ad 1 A 120 [(2, 0), (0, y0), (9, 0), (9, 0), (9, 0), (9, 0), (9, 0)] [] e') : G p l e rm_Mo_joinAll s m args below meth c 0 0 Q 7 D cA ad 1 A 87 [(2, 0), (0, x1), (9, 0), (0, x3), (0, x4), (0, x5), (9, 0)] [] d := by
  unfold L_Mo_joinAll_b87 at h
  refine g_aload_n C 0 rfl (by decide +kernel) ?_
  refine g_getR C cl12 0 76 56 rfl cd_B0 ⟨by decide, rfl, by decide⟩ rfl rfl (nB (by decide)) (ix := 188) lk_1478 (by decide +kernel) ?_
  refine g_bipush C 30 (by decide) (by decide +kernel) ?_
  refine g_iload_n C 1 rfl (by decide +kernel) ?_
  refine g_iconst C 1 (cK rfl) (by decide +kernel) ?_
  refine g_isub C (by decide +kernel) ?_
  refine g_imul C (by decide +kernel) ?_
  refine g_iload C 4 rfl (by decide +kernel) ?_
  refine g_iadd C (by decide +kernel) ?_
  refine g_iload C 5 rfl (by decide +kernel) ?_
  obtain ⟨hb12_, h⟩ := ck_some h
  refine g_iast C 56 hx5 (w32_c _) rfl cd_B56 (nB (by decide)) hb12_ (by decide +kernel) ?_
  refine g_iload C 5 rfl (by decide +kernel) ?_
  refine g_iconst C (-1) (cK rfl) (by decide +kernel) ?_
  refine g_icmp_eq C (off := 8) (tgt := 114) hx5 (cK rfl) (by decide +kernel) (by decide) (fun hc13_ => ?_) (fun hc13_ => ?_)
  · replace h := ite_t hc13_ h
    refine g_sub (lo2 := [(2, 0), (0, x1), (9, 0), (0, x3), (0, x4), (9, 0), (9, 0)]) (lsb_v (lsb_v (lsb_c (lsb_v (lsb_v (lsb_c (lsb_c lsb_e))))))) ?_
    exact ok_Mo_joinAll_b114 C x1 x3 x4 (up2 d 56 ((w32 ((w32 (30 * (w32 (x1 - 1)))) + x4))).toNat x5) hx1 hx3 hx4 h kb k0
  · replace h := ite_f hc13_ h
    refine g_iload C 5 rfl (by decide +kernel) ?_
    refine g_iconst C 1 (cK rfl) (by decide +kernel) ?_
    refine g_iadd C (by decide +kernel) ?_
    obtain ⟨v14_, ev15_, h⟩ := lt_some h
    refine g_val ev15_.symm ?_
    have hv16_ : c32 v14_ := by rw [ev15_]; exact (w32_c _)
    refine s_istore_n C 3 (lo' := [(2, 0), (0, x1), (9, 0), (0, v14_), (0, x4), (0, x5), (9, 0)]) (by decide) (s1k (s1k (s1n (by decide) s1z))) (by decide +kernel) ?_
    refine g_sub (lo2 := [(2, 0), (0, x1), (9, 0), (0, v14_), (0, x4), (9, 0), (9, 0)]) (lsb_v (lsb_v (lsb_c (lsb_v (lsb_v (lsb_c (lsb_c lsb_e))))))) ?_
    exact ok_Mo_joinAll_b114 C x1 v14_ x4 (up2 d 56 ((w32 ((w32 (30 * (w32 (x1 - 1)))) + x4))).toNat x5) hx1 hv16_ hx4 h kb k0
set_option maxHeartbeats 4000000 in
theorem ok_Mo_joinAll_y18 {p : Program} {l : Launch} {e : Env} {s : State} {m : MethodId} {args : Array Value} {below : List Frame} {meth : Method} {c : Code} {D : va_G} {cA : Nat → ClassId} {ad : Nat → Nat} {A : Nat → Prop} (C : Cx p s m args c prog_14_method_79_code 7 "PollBooksModel" D cA ad 1 A) {Q : State → Prop} {o : (Int × Int × Int × Dt) ⊕ ((Int × Dt))} (x1 x3 x4 : Int) (d : Dt) (hx1 : c32 x1) (hx3 : c32 x3) (hx4 : c32 x4) (h : L_Mo_joinAll_y18 x1 x3 x4 d = some o) (kb : ∀ (y0 y1 y2 : Int) (e' : Dt), o = .inl (y0, y1, y2, e') → c32 y0 → c32 y1 → c32 y2 → G p l e rm_Mo_joinAll s m args below meth c 0 0 Q 7 D cA ad 1 A 18 [(2, 0), (0, y0), (9, 0), (0, y1), (0, y2), (9, 0), (9, 0)] [] e') (k0 : ∀ (y0 : Int) (e' : Dt), o = .inr (y0, e') → c32 y0 → G p l e rm_Mo_joinAll s m args below meth c 0 0 Q 7 D cA ad 1 A 120 [(2, 0), (0, y0), (9, 0), (9, 0), (9, 0), (9, 0), (9, 0)] [] e') : G p l e rm_Mo_joinAll s m args below meth c 0 0 Q 7 D cA ad 1 A 18 [(2, 0), (0, x1), (9, 0), (0, x3), (0, x4), (9, 0), (9, 0)] [] d := by
  unfold L_Mo_joinAll_y18 at h
  refine g_iload C 4 rfl (by decide +kernel) ?_
  refine g_aload_n C 0 rfl (by decide +kernel) ?_
  refine g_getR C cl12 0 72 52 rfl cd_B0 ⟨by decide, rfl, by decide⟩ rfl rfl (nB (by decide)) (ix := 176) lk_1474 (by decide +kernel) ?_
  refine g_iconst C 0 (cK rfl) (by decide +kernel) ?_
  refine g_iald C 52 (c32_cb (Or.inl rfl)) rfl cd_B52 (nB (by decide)) (by decide) (by decide +kernel) (fun hc17_ => ?_)
  refine g_val (y := (d 52 0)) rfl ?_
  replace hc17_ : c32 (d 52 0) := hc17_
  refine g_icmp_ge C (off := 94) (tgt := 120) hx4 hc17_ (by decide +kernel) (by decide) (fun hc18_ => ?_) (fun hc18_ => ?_)
  · replace h := ite_t hc18_ h
    refine g_iconst C (-1) (cK rfl) (by decide +kernel) ?_
    refine s_istore C 5 (lo' := [(2, 0), (0, x1), (9, 0), (0, x3), (0, x4), (0, (-1)), (9, 0)]) (by decide) (s1k (s1k (s1k (s1k (s1n (by decide) s1z))))) (by decide +kernel) ?_
    refine g_iload_n C 3 rfl (by decide +kernel) ?_
    refine s_istore C 6 (lo' := [(2, 0), (0, x1), (9, 0), (0, x3), (0, x4), (0, (-1)), (0, x3)]) (by decide) (s1k (s1k (s1k (s1k (s1k (s1n (by decide) s1z)))))) (by decide +kernel) ?_
    refine g_sub (lo2 := [(2, 0), (0, x1), (9, 0), (0, x3), (0, x4), (0, (-1)), (0, x3)]) (lsb_v (lsb_v (lsb_c (lsb_v (lsb_v (lsb_v (lsb_v lsb_e))))))) ?_
    obtain ⟨x19_, hx20_, h⟩ := lb_some h
    refine ok_Mo_joinAll_l35 C x1 x3 x4 (-1) x3 d hx1 hx3 hx4 (cK rfl) hx3 hx20_ (fun v21_ v22_ v23_ v24_ d25_ eq26_ hv21_ hv22_ hv23_ hv24_ => ?_)
    subst eq26_
    replace h := u4_e h
    refine g_sub (lo2 := [(2, 0), (0, v21_), (9, 0), (0, v22_), (0, v23_), (0, v24_), (9, 0)]) (lsb_v (lsb_v (lsb_c (lsb_v (lsb_v (lsb_v (lsb_c lsb_e))))))) ?_
    exact ok_Mo_joinAll_b87 C v21_ v22_ v23_ v24_ d25_ hv21_ hv22_ hv23_ hv24_ h kb k0
  · replace h := ite_f hc18_ h
    refine g_sub (lo2 := [(2, 0), (0, x1), (9, 0), (9, 0), (9, 0), (9, 0), (9, 0)]) (lsb_v (lsb_v (lsb_c (lsb_c (lsb_c (lsb_c (lsb_c lsb_e))))))) ?_
    obtain rfl := Option.some.inj h
    exact k0 x1 d rfl hx1
set_option maxHeartbeats 4000000 in
theorem ok_Mo_joinAll_n18 {p : Program} {l : Launch} {e : Env} {s : State} {m : MethodId} {args : Array Value} {below : List Frame} {meth : Method} {c : Code} {D : va_G} {cA : Nat → ClassId} {ad : Nat → Nat} {A : Nat → Prop} (C : Cx p s m args c prog_14_method_79_code 7 "PollBooksModel" D cA ad 1 A) {Q : State → Prop} {x : (Int × Dt)} : ∀ (n : Nat) (x1 x3 x4 : Int) (d : Dt), c32 x1 → c32 x3 → c32 x4 → lpF (fun q : Int × Int × Int × Dt => L_Mo_joinAll_y18 q.1 q.2.1 q.2.2.1 q.2.2.2) n (x1, x3, x4, d) = some x → (∀ (y0 : Int) (e' : Dt), x = (y0, e') → c32 y0 → G p l e rm_Mo_joinAll s m args below meth c 0 0 Q 7 D cA ad 1 A 120 [(2, 0), (0, y0), (9, 0), (9, 0), (9, 0), (9, 0), (9, 0)] [] e') → G p l e rm_Mo_joinAll s m args below meth c 0 0 Q 7 D cA ad 1 A 18 [(2, 0), (0, x1), (9, 0), (0, x3), (0, x4), (9, 0), (9, 0)] [] d := by
  intro n
  induction n with
  | zero => intro x1 x3 x4 d g0 g1 g2 h k0; cases h
  | succ n ih =>
    intro x1 x3 x4 d g0 g1 g2 h k0
    rcases lpF_some h with h | ⟨⟨v0_, v1_, v2_, e0_⟩, h1, h⟩
    · exact ok_Mo_joinAll_y18 C x1 x3 x4 d g0 g1 g2 h (fun z0_ z1_ z2_ e1_ eq w0_ w1_ w2_ => by cases eq) (fun z0_ e1_ eq w0_ => k0 _ _ (by cases eq; rfl) w0_)
    · exact ok_Mo_joinAll_y18 C x1 x3 x4 d g0 g1 g2 h1 (fun z0_ z1_ z2_ e1_ eq w0_ w1_ w2_ => by cases eq; exact ih _ _ _ _ w0_ w1_ w2_ h k0) (fun z0_ e1_ eq w0_ => by cases eq)
set_option maxHeartbeats 4000000 in
theorem ok_Mo_joinAll_l18 {p : Program} {l : Launch} {e : Env} {s : State} {m : MethodId} {args : Array Value} {below : List Frame} {meth : Method} {c : Code} {D : va_G} {cA : Nat → ClassId} {ad : Nat → Nat} {A : Nat → Prop} (C : Cx p s m args c prog_14_method_79_code 7 "PollBooksModel" D cA ad 1 A) {Q : State → Prop} {x : (Int × Dt)} (x1 x3 x4 : Int) (d : Dt) (hx1 : c32 x1) (hx3 : c32 x3) (hx4 : c32 x4) (h : L_Mo_joinAll_l18 x1 x3 x4 d = some x) (k0 : ∀ (y0 : Int) (e' : Dt), x = (y0, e') → c32 y0 → G p l e rm_Mo_joinAll s m args below meth c 0 0 Q 7 D cA ad 1 A 120 [(2, 0), (0, y0), (9, 0), (9, 0), (9, 0), (9, 0), (9, 0)] [] e') : G p l e rm_Mo_joinAll s m args below meth c 0 0 Q 7 D cA ad 1 A 18 [(2, 0), (0, x1), (9, 0), (0, x3), (0, x4), (9, 0), (9, 0)] [] d :=
  ok_Mo_joinAll_n18 C FU x1 x3 x4 d hx1 hx3 hx4 h k0
set_option maxHeartbeats 4000000 in
theorem ok_Mo_joinAll_y2 {p : Program} {l : Launch} {e : Env} {s : State} {m : MethodId} {args : Array Value} {below : List Frame} {meth : Method} {c : Code} {D : va_G} {cA : Nat → ClassId} {ad : Nat → Nat} {A : Nat → Prop} (C : Cx p s m args c prog_14_method_79_code 7 "PollBooksModel" D cA ad 1 A) {Q : State → Prop} {o : (Int × Dt) ⊕ ((Dt))} (x1 : Int) (d : Dt) (hx1 : c32 x1) (h : L_Mo_joinAll_y2 x1 d = some o) (kb : ∀ (y0 : Int) (e' : Dt), o = .inl (y0, e') → c32 y0 → G p l e rm_Mo_joinAll s m args below meth c 0 0 Q 7 D cA ad 1 A 2 [(2, 0), (0, y0), (9, 0), (9, 0), (9, 0), (9, 0), (9, 0)] [] e') (k0 : ∀ (e' : Dt), o = .inr (e') → G p l e rm_Mo_joinAll s m args below meth c 0 0 Q 7 D cA ad 1 A 126 [(9, 0), (9, 0), (9, 0), (9, 0), (9, 0), (9, 0), (9, 0)] [] e') : G p l e rm_Mo_joinAll s m args below meth c 0 0 Q 7 D cA ad 1 A 2 [(2, 0), (0, x1), (9, 0), (9, 0), (9, 0), (9, 0), (9, 0)] [] d := by
  unfold L_Mo_joinAll_y2 at h
  refine g_iload_n C 1 rfl (by decide +kernel) ?_
  refine g_iconst C 2 (cK rfl) (by decide +kernel) ?_
  refine g_icmp_gt C (off := 122) (tgt := 126) hx1 (cK rfl) (by decide +kernel) (by decide) (fun hc28_ => ?_) (fun hc28_ => ?_)
  · replace h := ite_t hc28_ h
    refine g_sub (lo2 := [(9, 0), (9, 0), (9, 0), (9, 0), (9, 0), (9, 0), (9, 0)]) (lsb_c (lsb_c (lsb_c (lsb_c (lsb_c (lsb_c (lsb_c lsb_e))))))) ?_
    obtain rfl := Option.some.inj h
    exact k0 d rfl 
  · replace h := ite_f hc28_ h
    refine g_aload_n C 0 rfl (by decide +kernel) ?_
    refine g_iload_n C 1 rfl (by decide +kernel) ?_
    obtain ⟨r30_, d29_, hr31_, h⟩ := bd_some h
    refine g_callV C mw_Mo_pairing [(0, x1)] 0 cl12 rfl (ok_Mo_pairing x1 d hx1 hr31_) cd_B0 (by decide) (nB (by decide)) (ix := 535) lk_2075 lk_2077 lkp_95 ⟨rfl, rfl, Nat.le_of_ble_eq_true rfl, Nat.le_of_ble_eq_true rfl⟩ rfl (rest := []) rfl (Nat.le_of_ble_eq_true rfl) ⟨Nat.zero_le _, Nat.zero_le _⟩ (by decide +kernel) (fun _ hc32_ => ?_)
    replace hc32_ : c32 r30_ := hc32_
    refine g_st (st2 := [(0, r30_)]) rfl ?_
    refine s_istore_n C 2 (lo' := [(2, 0), (0, x1), (0, r30_), (9, 0), (9, 0), (9, 0), (9, 0)]) (by decide) (s1k (s1n (by decide) s1z)) (by decide +kernel) ?_
    refine g_iconst C 0 (cK rfl) (by decide +kernel) ?_
    refine s_istore_n C 3 (lo' := [(2, 0), (0, x1), (0, r30_), (0, 0), (9, 0), (9, 0), (9, 0)]) (by decide) (s1k (s1k (s1n (by decide) s1z))) (by decide +kernel) ?_
    refine g_iconst C 0 (cK rfl) (by decide +kernel) ?_
    refine s_istore C 4 (lo' := [(2, 0), (0, x1), (0, r30_), (0, 0), (0, 0), (9, 0), (9, 0)]) (by decide) (s1k (s1k (s1k (s1n (by decide) s1z)))) (by decide +kernel) ?_
    refine g_sub (lo2 := [(2, 0), (0, x1), (9, 0), (0, 0), (0, 0), (9, 0), (9, 0)]) (lsb_v (lsb_v (lsb_c (lsb_v (lsb_v (lsb_c (lsb_c lsb_e))))))) ?_
    obtain ⟨x33_, hx34_, h⟩ := lb_some h
    refine ok_Mo_joinAll_l18 C x1 0 0 d29_ hx1 (c32_cb (Or.inl rfl)) (c32_cb (Or.inl rfl)) hx34_ (fun v35_ d36_ eq37_ hv35_ => ?_)
    subst eq37_
    replace h := u1_e h
    refine s_iinc C 1 1 (lo' := [(2, 0), (0, (w32 (v35_ + 1))), (9, 0), (9, 0), (9, 0), (9, 0), (9, 0)]) rfl (by decide) (s1n (by decide) s1z) (by decide +kernel) ?_
    refine g_goto C 2 (off := (-121)) (by decide +kernel) (by decide) ?_
    refine g_sub (lo2 := [(2, 0), (0, (w32 (v35_ + 1))), (9, 0), (9, 0), (9, 0), (9, 0), (9, 0)]) (lsb_v (lsb_v (lsb_c (lsb_c (lsb_c (lsb_c (lsb_c lsb_e))))))) ?_
    obtain rfl := Option.some.inj h
    exact kb (w32 (v35_ + 1)) d36_ rfl (w32_c _)
set_option maxHeartbeats 4000000 in
theorem ok_Mo_joinAll_n2 {p : Program} {l : Launch} {e : Env} {s : State} {m : MethodId} {args : Array Value} {below : List Frame} {meth : Method} {c : Code} {D : va_G} {cA : Nat → ClassId} {ad : Nat → Nat} {A : Nat → Prop} (C : Cx p s m args c prog_14_method_79_code 7 "PollBooksModel" D cA ad 1 A) {Q : State → Prop} {x : (Dt)} : ∀ (n : Nat) (x1 : Int) (d : Dt), c32 x1 → lpF (fun q : Int × Dt => L_Mo_joinAll_y2 q.1 q.2) n (x1, d) = some x → (∀ (e' : Dt), x = (e') → G p l e rm_Mo_joinAll s m args below meth c 0 0 Q 7 D cA ad 1 A 126 [(9, 0), (9, 0), (9, 0), (9, 0), (9, 0), (9, 0), (9, 0)] [] e') → G p l e rm_Mo_joinAll s m args below meth c 0 0 Q 7 D cA ad 1 A 2 [(2, 0), (0, x1), (9, 0), (9, 0), (9, 0), (9, 0), (9, 0)] [] d := by
  intro n
  induction n with
  | zero => intro x1 d g0 h k0; cases h
  | succ n ih =>
    intro x1 d g0 h k0
    rcases lpF_some h with h | ⟨⟨v0_, e0_⟩, h1, h⟩
    · exact ok_Mo_joinAll_y2 C x1 d g0 h (fun z0_ e1_ eq w0_ => by cases eq) (fun e1_ eq => k0 _ (by cases eq; rfl) )
    · exact ok_Mo_joinAll_y2 C x1 d g0 h1 (fun z0_ e1_ eq w0_ => by cases eq; exact ih _ _ w0_ h k0) (fun e1_ eq => by cases eq)
set_option maxHeartbeats 4000000 in
theorem ok_Mo_joinAll_l2 {p : Program} {l : Launch} {e : Env} {s : State} {m : MethodId} {args : Array Value} {below : List Frame} {meth : Method} {c : Code} {D : va_G} {cA : Nat → ClassId} {ad : Nat → Nat} {A : Nat → Prop} (C : Cx p s m args c prog_14_method_79_code 7 "PollBooksModel" D cA ad 1 A) {Q : State → Prop} {x : (Dt)} (x1 : Int) (d : Dt) (hx1 : c32 x1) (h : L_Mo_joinAll_l2 x1 d = some x) (k0 : ∀ (e' : Dt), x = (e') → G p l e rm_Mo_joinAll s m args below meth c 0 0 Q 7 D cA ad 1 A 126 [(9, 0), (9, 0), (9, 0), (9, 0), (9, 0), (9, 0), (9, 0)] [] e') : G p l e rm_Mo_joinAll s m args below meth c 0 0 Q 7 D cA ad 1 A 2 [(2, 0), (0, x1), (9, 0), (9, 0), (9, 0), (9, 0), (9, 0)] [] d :=
  ok_Mo_joinAll_n2 C FU x1 d hx1 h k0
set_option maxHeartbeats 4000000 in
theorem ok_Mo_joinAll {l : Launch} {r : Int} {d' : Dt} (d : Dt)  (h : L_Mo_joinAll d = some (r, d')) : MC l y_Mo_joinAll prog_14_method_79_code 7 none rm_Mo_joinAll 1 [(2, 0)] d none d' := by
  refine MC.of (by decide) (Nat.le_of_ble_eq_true rfl) ?_
  intro p e s m args below meth c D cA ad A C hlk hr
  replace C : Cx p s m args c prog_14_method_79_code 7 "PollBooksModel" D cA ad 1 A := C
  show G p l e rm_Mo_joinAll s m args below meth c 0 0 (MQ below (fun _ => QC D cA ad 1 A none none d') args s 0 0 A) 7 D cA ad 1 A 0 [(2, 0)] [] d
  refine g_sub (lo2 := [(2, 0), (9, 0), (9, 0), (9, 0), (9, 0), (9, 0), (9, 0)]) (lsb_v (lsb_n (lsb_n (lsb_n (lsb_n (lsb_n (lsb_n lsb_e))))))) ?_
  unfold L_Mo_joinAll at h
  refine g_iconst C 1 (cK rfl) (by decide +kernel) ?_
  refine s_istore_n C 1 (lo' := [(2, 0), (0, 1), (9, 0), (9, 0), (9, 0), (9, 0), (9, 0)]) (by decide) (s1n (by decide) s1z) (by decide +kernel) ?_
  refine g_sub (lo2 := [(2, 0), (0, 1), (9, 0), (9, 0), (9, 0), (9, 0), (9, 0)]) (lsb_v (lsb_v (lsb_c (lsb_c (lsb_c (lsb_c (lsb_c lsb_e))))))) ?_
  obtain ⟨x39_, hx40_, h⟩ := lb_some h
  refine ok_Mo_joinAll_l2 C 1 d (c32_cb (Or.inr rfl)) hx40_ (fun d41_ eq42_ => ?_)
  replace eq42_ := eq42_.symm
  subst eq42_
  replace h := u0_e h
  obtain ⟨rfl, rfl⟩ := ret_inj h
  exact g_vret C hlk hr (by decide +kernel)
/-! PollBooksModel.mate(II)I -/
def y_Mo_mate : MethodName := ⟨"PollBooksModel", "mate", "(II)I"⟩
def rm_Mo_mate : Room := { frames := 6, cells := 0, slots := 0, locals := 156 }
theorem mw_Mo_mate : MW y_Mo_mate prog_14_method_83_code 4 (some .int) 2 := ⟨lk_2091, lk_14, by decide +kernel⟩
def L_Mo_mate_b15 (d : Dt) : Option (Int × Dt) :=
  bd (L_Mo_refuse 1 d) (fun r2_ d1_ => some (r2_, d1_))
def L_Mo_mate (p1 p2 : Int) (d : Dt) : Option (Int × Dt) :=
  bd (L_Mo_isOther p1 d) (fun r6_ d5_ => if r6_ = 0 then L_Mo_mate_b15 d5_ else bd (L_Mo_isEntry p2 d5_) (fun r11_ d10_ => if r11_ = 0 then L_Mo_mate_b15 d10_ else bd (L_Mo_joinAll d10_) (fun r16_ d15_ => ck ((0 : Int) ≤ (w32 ((w32 (30 * (w32 (p1 - 1)))) + p2)) ∧ (w32 ((w32 (30 * (w32 (p1 - 1)))) + p2)) < 60) (lt_ (d15_ 56 ((w32 ((w32 (30 * (w32 (p1 - 1)))) + p2))).toNat) (fun v21_ => if v21_ = (-1) then bd (L_Mo_refuse 6 d15_) (fun r26_ d25_ => some (r26_, d25_)) else bd (L_Mo_gives v21_ d15_) (fun r30_ d29_ => some (r30_, d29_)))))))
set_option maxHeartbeats 4000000 in
theorem ok_Mo_mate_b15 {p : Program} {l : Launch} {e : Env} {s : State} {m : MethodId} {args : Array Value} {below : List Frame} {meth : Method} {c : Code} {D : va_G} {cA : Nat → ClassId} {ad : Nat → Nat} {A : Nat → Prop} (C : Cx p s m args c prog_14_method_83_code 4 "PollBooksModel" D cA ad 1 A) (hlk : meth.locks = false) (hr : meth.sig.returnType = (some .int)) {r : Int} {d' : Dt} (d : Dt)  (h : L_Mo_mate_b15 d = some (r, d')) : G p l e rm_Mo_mate s m args below meth c 0 0 (MQ below (fun _ => QC D cA ad 1 A (some .int) (some (0, r)) d') args s 0 0 A) 4 D cA ad 1 A 15 [(2, 0), (9, 0), (9, 0), (9, 0)] [] d := by
  unfold L_Mo_mate_b15 at h
  refine g_aload_n C 0 rfl (by decide +kernel) ?_
  refine g_iconst C 1 (cK rfl) (by decide +kernel) ?_
  obtain ⟨r2_, d1_, hr3_, h⟩ := bd_some h
  refine g_callV C mw_Mo_refuse [(0, 1)] 0 cl12 rfl (ok_Mo_refuse 1 d (c32_cb (Or.inr rfl)) hr3_) cd_B0 (by decide) (nB (by decide)) (ix := 316) lk_1787 lk_1789 lkp_61 ⟨rfl, rfl, Nat.le_of_ble_eq_true rfl, Nat.le_of_ble_eq_true rfl⟩ rfl (rest := []) rfl (Nat.le_of_ble_eq_true rfl) ⟨Nat.zero_le _, Nat.zero_le _⟩ (by decide +kernel) (fun _ hc4_ => ?_)
  replace hc4_ : c32 r2_ := hc4_
  refine g_st (st2 := [(0, r2_)]) rfl ?_
  obtain ⟨rfl, rfl⟩ := ret_inj h
  exact g_iret C hc4_ hlk hr (by decide +kernel)
set_option maxHeartbeats 4000000 in
theorem ok_Mo_mate {l : Launch} {r : Int} {d' : Dt} (p1 p2 : Int) (d : Dt) (hp1 : c32 p1) (hp2 : c32 p2) (h : L_Mo_mate p1 p2 d = some (r, d')) : MC l y_Mo_mate prog_14_method_83_code 4 (some .int) rm_Mo_mate 1 [(2, 0), (0, p1), (0, p2)] d (some (0, r)) d' := by
  refine MC.of (by decide) (Nat.le_of_ble_eq_true rfl) ?_
  intro p e s m args below meth c D cA ad A C hlk hr
  replace C : Cx p s m args c prog_14_method_83_code 4 "PollBooksModel" D cA ad 1 A := C
  show G p l e rm_Mo_mate s m args below meth c 0 0 (MQ below (fun _ => QC D cA ad 1 A (some .int) (some (0, r)) d') args s 0 0 A) 4 D cA ad 1 A 0 [(2, 0), (0, p1), (0, p2)] [] d
  refine g_sub (lo2 := [(2, 0), (0, p1), (0, p2), (9, 0)]) (lsb_v (lsb_v (lsb_v (lsb_n lsb_e)))) ?_
  unfold L_Mo_mate at h
  refine g_iload_n C 1 rfl (by decide +kernel) ?_
  obtain ⟨r6_, d5_, hr7_, h⟩ := bd_some h
  refine g_callS C mw_Mo_isOther [(0, p1)] (ok_Mo_isOther p1 d hp1 hr7_) (ix := 538) lk_2072 lk_2073 ⟨rfl, rfl, Nat.le_of_ble_eq_true rfl, Nat.le_of_ble_eq_true rfl⟩ rfl (rest := []) rfl (Nat.le_of_ble_eq_true rfl) ⟨Nat.zero_le _, Nat.zero_le _⟩ (by decide +kernel) (fun _ hc8_ => ?_)
  replace hc8_ : cb r6_ := hc8_
  refine g_st (st2 := [(0, r6_)]) rfl ?_
  refine g_if_eq C (off := 11) (tgt := 15) (c32_cb hc8_) (by decide +kernel) (by decide) (fun hc9_ => ?_) (fun hc9_ => ?_)
  · replace h := ite_t hc9_ h
    refine g_sub (lo2 := [(2, 0), (9, 0), (9, 0), (9, 0)]) (lsb_v (lsb_c (lsb_c (lsb_c lsb_e)))) ?_
    exact ok_Mo_mate_b15 C hlk hr d5_  h
  · replace h := ite_f hc9_ h
    refine g_aload_n C 0 rfl (by decide +kernel) ?_
    refine g_iload_n C 2 rfl (by decide +kernel) ?_
    obtain ⟨r11_, d10_, hr12_, h⟩ := bd_some h
    refine g_callV C mw_Mo_isEntry [(0, p2)] 0 cl12 rfl (ok_Mo_isEntry p2 d5_ hp2 hr12_) cd_B0 (by decide) (nB (by decide)) (ix := 541) lk_2092 lk_2094 lkp_98 ⟨rfl, rfl, Nat.le_of_ble_eq_true rfl, Nat.le_of_ble_eq_true rfl⟩ rfl (rest := []) rfl (Nat.le_of_ble_eq_true rfl) ⟨Nat.zero_le _, Nat.zero_le _⟩ (by decide +kernel) (fun _ hc13_ => ?_)
    replace hc13_ : cb r11_ := hc13_
    refine g_st (st2 := [(0, r11_)]) rfl ?_
    refine g_if_ne C (off := 9) (tgt := 21) (c32_cb hc13_) (by decide +kernel) (by decide) (fun hc14_ => ?_) (fun hc14_ => ?_)
    · replace h := ite_t hc14_ h
      refine g_sub (lo2 := [(2, 0), (9, 0), (9, 0), (9, 0)]) (lsb_v (lsb_c (lsb_c (lsb_c lsb_e)))) ?_
      exact ok_Mo_mate_b15 C hlk hr d10_  h
    · replace h := ite_f hc14_ h
      refine g_aload_n C 0 rfl (by decide +kernel) ?_
      obtain ⟨r16_, d15_, hr17_, h⟩ := bd_some h
      refine g_callV C mw_Mo_joinAll [] 0 cl12 rfl (ok_Mo_joinAll  d10_  hr17_) cd_B0 (by decide) (nB (by decide)) (ix := 544) lk_2096 lk_2098 lkp_99 ⟨rfl, rfl, Nat.le_of_ble_eq_true rfl, Nat.le_of_ble_eq_true rfl⟩ rfl (rest := []) rfl (Nat.le_of_ble_eq_true rfl) ⟨Nat.zero_le _, Nat.zero_le _⟩ (by decide +kernel) (fun _ hc18_ => ?_)
      refine g_st (st2 := []) rfl ?_
      refine g_aload_n C 0 rfl (by decide +kernel) ?_
      refine g_getR C cl12 0 76 56 rfl cd_B0 ⟨by decide, rfl, by decide⟩ rfl rfl (nB (by decide)) (ix := 188) lk_1478 (by decide +kernel) ?_
      refine g_bipush C 30 (by decide) (by decide +kernel) ?_
      refine g_iload_n C 1 rfl (by decide +kernel) ?_
      refine g_iconst C 1 (cK rfl) (by decide +kernel) ?_
      refine g_isub C (by decide +kernel) ?_
      refine g_imul C (by decide +kernel) ?_
      refine g_iload_n C 2 rfl (by decide +kernel) ?_
      refine g_iadd C (by decide +kernel) ?_
      obtain ⟨hb19_, h⟩ := ck_some h
      refine g_iald C 56 (w32_c _) rfl cd_B56 (nB (by decide)) hb19_ (by decide +kernel) (fun hc20_ => ?_)
      obtain ⟨v21_, ev22_, h⟩ := lt_some h
      refine g_val ev22_.symm ?_
      have hv23_ : c32 v21_ := by rw [ev22_]; exact hc20_
      refine s_istore_n C 3 (lo' := [(2, 0), (0, p1), (0, p2), (0, v21_)]) (by decide) (s1k (s1k (s1n (by decide) s1z))) (by decide +kernel) ?_
      refine g_iload_n C 3 rfl (by decide +kernel) ?_
      refine g_iconst C (-1) (cK rfl) (by decide +kernel) ?_
      refine g_icmp_ne C (off := 12) (tgt := 53) hv23_ (cK rfl) (by decide +kernel) (by decide) (fun hc24_ => ?_) (fun hc24_ => ?_)
      · replace h := ite_t hc24_ h
        refine g_aload_n C 0 rfl (by decide +kernel) ?_
        refine g_bipush C 6 (by decide) (by decide +kernel) ?_
        obtain ⟨r26_, d25_, hr27_, h⟩ := bd_some h
        refine g_callV C mw_Mo_refuse [(0, 6)] 0 cl12 rfl (ok_Mo_refuse 6 d15_ (cK rfl) hr27_) cd_B0 (by decide) (nB (by decide)) (ix := 316) lk_1787 lk_1789 lkp_61 ⟨rfl, rfl, Nat.le_of_ble_eq_true rfl, Nat.le_of_ble_eq_true rfl⟩ rfl (rest := []) rfl (Nat.le_of_ble_eq_true rfl) ⟨Nat.zero_le _, Nat.zero_le _⟩ (by decide +kernel) (fun _ hc28_ => ?_)
        replace hc28_ : c32 r26_ := hc28_
        refine g_st (st2 := [(0, r26_)]) rfl ?_
        refine g_goto C 58 (off := 8) (by decide +kernel) (by decide) ?_
        obtain ⟨rfl, rfl⟩ := ret_inj h
        exact g_iret C hc28_ hlk hr (by decide +kernel)
      · replace h := ite_f hc24_ h
        refine g_aload_n C 0 rfl (by decide +kernel) ?_
        refine g_iload_n C 3 rfl (by decide +kernel) ?_
        obtain ⟨r30_, d29_, hr31_, h⟩ := bd_some h
        refine g_callV C mw_Mo_gives [(0, v21_)] 0 cl12 rfl (ok_Mo_gives v21_ d15_ hv23_ hr31_) cd_B0 (by decide) (nB (by decide)) (ix := 312) lk_1783 lk_1785 lkp_60 ⟨rfl, rfl, Nat.le_of_ble_eq_true rfl, Nat.le_of_ble_eq_true rfl⟩ rfl (rest := []) rfl (Nat.le_of_ble_eq_true rfl) ⟨Nat.zero_le _, Nat.zero_le _⟩ (by decide +kernel) (fun _ hc32_ => ?_)
        replace hc32_ : c32 r30_ := hc32_
        refine g_st (st2 := [(0, r30_)]) rfl ?_
        obtain ⟨rfl, rfl⟩ := ret_inj h
        exact g_iret C hc32_ hlk hr (by decide +kernel)
/-! PollBooksModel.setOf(I)I -/
def y_Mo_setOf : MethodName := ⟨"PollBooksModel", "setOf", "(I)I"⟩
def rm_Mo_setOf : Room := { frames := 0, cells := 0, slots := 0, locals := 0 }
theorem mw_Mo_setOf : MW y_Mo_setOf prog_14_method_84_code 8 (some .int) 1 := ⟨lk_2107, lk_14, by decide +kernel⟩
def L_Mo_setOf_b83 (x1 x2 x3 x4 x5 x6 : Int) (d : Dt) : Option ((Int × Int × Int × Int × Int × Int × Dt) ⊕ ((Int × Int × Int × Int × Int × Dt))) :=
  some (Sum.inl (x1, x2, x3, x4, x5, (w32 (x6 + 1)), d))
def L_Mo_setOf_y27 (x1 x2 x3 x4 x5 x6 : Int) (d : Dt) : Option ((Int × Int × Int × Int × Int × Int × Dt) ⊕ ((Int × Int × Int × Int × Int × Dt))) :=
  if 2 < x6 then some (Sum.inr (x1, x2, x3, x4, x5, d)) else ck ((0 : Int) ≤ (w32 ((w32 (30 * (w32 (x6 - 1)))) + x1)) ∧ (w32 ((w32 (30 * (w32 (x6 - 1)))) + x1)) < 60) (lt_ (d 56 ((w32 ((w32 (30 * (w32 (x6 - 1)))) + x1))).toNat) (fun v4_ => if v4_ = (-1) then L_Mo_setOf_b83 x1 x2 x3 x4 x5 x6 d else ck ((0 : Int) ≤ (w32 ((w32 (30 * x6)) + v4_)) ∧ (w32 ((w32 (30 * x6)) + v4_)) < 90) (lt_ (w32 (x5 + (iand (ishr (d 55 ((w32 ((w32 (30 * x6)) + v4_))).toNat) x3) 1))) (fun v10_ => L_Mo_setOf_b83 x1 x2 x3 (w32 (x4 + 1)) v10_ x6 d))))
def L_Mo_setOf_l27 (x1 x2 x3 x4 x5 x6 : Int) (d : Dt) : Option ((Int × Int × Int × Int × Int × Dt)) := lpF (fun q : Int × Int × Int × Int × Int × Int × Dt => L_Mo_setOf_y27 q.1 q.2.1 q.2.2.1 q.2.2.2.1 q.2.2.2.2.1 q.2.2.2.2.2.1 q.2.2.2.2.2.2) FU (x1, x2, x3, x4, x5, x6, d)
def L_Mo_setOf_b141 (x1 x3 s0 s1 : Int) (d : Dt) : Option ((Int × Int × Int × Dt) ⊕ ((Int × Dt))) :=
  lt_ (ior s0 s1) (fun v13_ => some (Sum.inl (x1, v13_, (w32 (x3 + 1)), d)))
def L_Mo_setOf_b126 (x1 x2 x3 s0 : Int) (d : Dt) : Option ((Int × Int × Int × Dt) ⊕ ((Int × Dt))) :=
  if s0 = 0 then L_Mo_setOf_b141 x1 x3 x2 0 d else L_Mo_setOf_b141 x1 x3 x2 (ishl 1 x3) d
def L_Mo_setOf_y4 (x1 x2 x3 : Int) (d : Dt) : Option ((Int × Int × Int × Dt) ⊕ ((Int × Dt))) :=
  if x3 < 4 then ck ((0 : Int) ≤ x1 ∧ x1 < 90) (lt_ (iand (ishr (d 55 x1.toNat) x3) 1) (fun v20_ => lb (L_Mo_setOf_l27 x1 x2 x3 1 v20_ 1 d) (fun q37_ => u5 q37_ (fun v25_ v26_ v27_ v28_ v29_ d30_ => if v28_ < (w32 (2 * v29_)) then L_Mo_setOf_b126 v25_ v26_ v27_ 1 d30_ else if (w32 (2 * v29_)) = v28_ then ck ((0 : Int) ≤ v25_ ∧ v25_ < 90) (if (iand (ishr (d30_ 55 v25_.toNat) v27_) 1) = 1 then L_Mo_setOf_b126 v25_ v26_ v27_ 1 d30_ else L_Mo_setOf_b126 v25_ v26_ v27_ 0 d30_) else L_Mo_setOf_b126 v25_ v26_ v27_ 0 d30_)))) else some (Sum.inr (x2, d))
def L_Mo_setOf_l4 (x1 x2 x3 : Int) (d : Dt) : Option ((Int × Dt)) := lpF (fun q : Int × Int × Int × Dt => L_Mo_setOf_y4 q.1 q.2.1 q.2.2.1 q.2.2.2) FU (x1, x2, x3, d)
def L_Mo_setOf (p1 : Int) (d : Dt) : Option (Int × Dt) :=
  lb (L_Mo_setOf_l4 p1 0 0 d) (fun q43_ => u1 q43_ (fun v40_ d41_ => some (v40_, d41_)))
set_option maxHeartbeats 4000000 in
theorem ok_Mo_setOf_b83 {p : Program} {l : Launch} {e : Env} {s : State} {m : MethodId} {args : Array Value} {below : List Frame} {meth : Method} {c : Code} {D : va_G} {cA : Nat → ClassId} {ad : Nat → Nat} {A : Nat → Prop} (C : Cx p s m args c prog_14_method_84_code 8 "PollBooksModel" D cA ad 1 A) {Q : State → Prop} {o : (Int × Int × Int × Int × Int × Int × Dt) ⊕ ((Int × Int × Int × Int × Int × Dt))} (x1 x2 x3 x4 x5 x6 : Int) (d : Dt) (hx1 : c32 x1) (hx2 : c32 x2) (hx3 : c32 x3) (hx4 : c32 x4) (hx5 : c32 x5) (hx6 : c32 x6) (h : L_Mo_setOf_b83 x1 x2 x3 x4 x5 x6 d = some o) (kb : ∀ (y0 y1 y2 y3 y4 y5 : Int) (e' : Dt), o = .inl (y0, y1, y2, y3, y4, y5, e') → c32 y0 → c32 y1 → c32 y2 → c32 y3 → c32 y4 → c32 y5 → G p l e rm_Mo_setOf s m args below meth c 0 0 Q 8 D cA ad 1 A 27 [(2, 0), (0, y0), (0, y1), (0, y2), (0, y3), (0, y4), (0, y5), (9, 0)] [] e') (k0 : ∀ (y0 y1 y2 y3 y4 : Int) (e' : Dt), o = .inr (y0, y1, y2, y3, y4, e') → c32 y0 → c32 y1 → c32 y2 → c32 y3 → c32 y4 → G p l e rm_Mo_setOf s m args below meth c 0 0 Q 8 D cA ad 1 A 89 [(2, 0), (0, y0), (0, y1), (0, y2), (0, y3), (0, y4), (9, 0), (9, 0)] [] e') : G p l e rm_Mo_setOf s m args below meth c 0 0 Q 8 D cA ad 1 A 83 [(2, 0), (0, x1), (0, x2), (0, x3), (0, x4), (0, x5), (0, x6), (9, 0)] [] d := by
  unfold L_Mo_setOf_b83 at h
  refine s_iinc C 6 1 (lo' := [(2, 0), (0, x1), (0, x2), (0, x3), (0, x4), (0, x5), (0, (w32 (x6 + 1))), (9, 0)]) rfl (by decide) (s1k (s1k (s1k (s1k (s1k (s1n (by decide) s1z)))))) (by decide +kernel) ?_
  refine g_goto C 27 (off := (-59)) (by decide +kernel) (by decide) ?_
  refine g_sub (lo2 := [(2, 0), (0, x1), (0, x2), (0, x3), (0, x4), (0, x5), (0, (w32 (x6 + 1))), (9, 0)]) (lsb_v (lsb_v (lsb_v (lsb_v (lsb_v (lsb_v (lsb_v (lsb_c lsb_e)))))))) ?_
  obtain rfl := Option.some.inj h
  exact kb x1 x2 x3 x4 x5 (w32 (x6 + 1)) d rfl hx1 hx2 hx3 hx4 hx5 (w32_c _)
set_option maxHeartbeats 4000000 in
theorem ok_Mo_setOf_y27 {p : Program} {l : Launch} {e : Env} {s : State} {m : MethodId} {args : Array Value} {below : List Frame} {meth : Method} {c : Code} {D : va_G} {cA : Nat → ClassId} {ad : Nat → Nat} {A : Nat → Prop} (C : Cx p s m args c prog_14_method_84_code 8 "PollBooksModel" D cA ad 1 A) {Q : State → Prop} {o : (Int × Int × Int × Int × Int × Int × Dt) ⊕ ((Int × Int × Int × Int × Int × Dt))} (x1 x2 x3 x4 x5 x6 : Int) (d : Dt) (hx1 : c32 x1) (hx2 : c32 x2) (hx3 : c32 x3) (hx4 : c32 x4) (hx5 : c32 x5) (hx6 : c32 x6) (h : L_Mo_setOf_y27 x1 x2 x3 x4 x5 x6 d = some o) (kb : ∀ (y0 y1 y2 y3 y4 y5 : Int) (e' : Dt), o = .inl (y0, y1, y2, y3, y4, y5, e') → c32 y0 → c32 y1 → c32 y2 → c32 y3 → c32 y4 → c32 y5 → G p l e rm_Mo_setOf s m args below meth c 0 0 Q 8 D cA ad 1 A 27 [(2, 0), (0, y0), (0, y1), (0, y2), (0, y3), (0, y4), (0, y5), (9, 0)] [] e') (k0 : ∀ (y0 y1 y2 y3 y4 : Int) (e' : Dt), o = .inr (y0, y1, y2, y3, y4, e') → c32 y0 → c32 y1 → c32 y2 → c32 y3 → c32 y4 → G p l e rm_Mo_setOf s m args below meth c 0 0 Q 8 D cA ad 1 A 89 [(2, 0), (0, y0), (0, y1), (0, y2), (0, y3), (0, y4), (9, 0), (9, 0)] [] e') : G p l e rm_Mo_setOf s m args below meth c 0 0 Q 8 D cA ad 1 A 27 [(2, 0), (0, x1), (0, x2), (0, x3), (0, x4), (0, x5), (0, x6), (9, 0)] [] d := by
  unfold L_Mo_setOf_y27 at h
  refine g_iload C 6 rfl (by decide +kernel) ?_
  refine g_iconst C 2 (cK rfl) (by decide +kernel) ?_
  refine g_icmp_gt C (off := 59) (tgt := 89) hx6 (cK rfl) (by decide +kernel) (by decide) (fun hc1_ => ?_) (fun hc1_ => ?_)
  · replace h := ite_t hc1_ h
    refine g_sub (lo2 := [(2, 0), (0, x1), (0, x2), (0, x3), (0, x4), (0, x5), (9, 0), (9, 0)]) (lsb_v (lsb_v (lsb_v (lsb_v (lsb_v (lsb_v (lsb_c (lsb_c lsb_e)))))))) ?_
    obtain rfl := Option.some.inj h
    exact k0 x1 x2 x3 x4 x5 d rfl hx1 hx2 hx3 hx4 hx5
  · replace h := ite_f hc1_ h
    refine g_aload_n C 0 rfl (by decide +kernel) ?_
    refine g_getR C cl12 0 76 56 rfl cd_B0 ⟨by decide, rfl, by decide⟩ rfl rfl (nB (by decide)) (ix := 188) lk_1478 (by decide +kernel) ?_
    refine g_bipush C 30 (by decide) (by decide +kernel) ?_
    refine g_iload C 6 rfl (by decide +kernel) ?_
    refine g_iconst C 1 (cK rfl) (by decide +kernel) ?_
    refine g_isub C (by decide +kernel) ?_
    refine g_imul C (by decide +kernel) ?_
    refine g_iload_n C 1 rfl (by decide +kernel) ?_
    refine g_iadd C (by decide +kernel) ?_
    obtain ⟨hb2_, h⟩ := ck_some h
    refine g_iald C 56 (w32_c _) rfl cd_B56 (nB (by decide)) hb2_ (by decide +kernel) (fun hc3_ => ?_)
    obtain ⟨v4_, ev5_, h⟩ := lt_some h
    refine g_val ev5_.symm ?_
    have hv6_ : c32 v4_ := by rw [ev5_]; exact hc3_
    refine s_istore C 7 (lo' := [(2, 0), (0, x1), (0, x2), (0, x3), (0, x4), (0, x5), (0, x6), (0, v4_)]) (by decide) (s1k (s1k (s1k (s1k (s1k (s1k (s1n (by decide) s1z))))))) (by decide +kernel) ?_
    refine g_iload C 7 rfl (by decide +kernel) ?_
    refine g_iconst C (-1) (cK rfl) (by decide +kernel) ?_
    refine g_icmp_ne C (off := 6) (tgt := 58) hv6_ (cK rfl) (by decide +kernel) (by decide) (fun hc7_ => ?_) (fun hc7_ => ?_)
    · replace h := ite_t hc7_ h
      refine g_goto C 83 (off := 28) (by decide +kernel) (by decide) ?_
      refine g_sub (lo2 := [(2, 0), (0, x1), (0, x2), (0, x3), (0, x4), (0, x5), (0, x6), (9, 0)]) (lsb_v (lsb_v (lsb_v (lsb_v (lsb_v (lsb_v (lsb_v (lsb_c lsb_e)))))))) ?_
      exact ok_Mo_setOf_b83 C x1 x2 x3 x4 x5 x6 d hx1 hx2 hx3 hx4 hx5 hx6 h kb k0
    · replace h := ite_f hc7_ h
      refine s_iinc C 4 1 (lo' := [(2, 0), (0, x1), (0, x2), (0, x3), (0, (w32 (x4 + 1))), (0, x5), (0, x6), (0, v4_)]) rfl (by decide) (s1k (s1k (s1k (s1n (by decide) s1z)))) (by decide +kernel) ?_
      refine g_iload C 5 rfl (by decide +kernel) ?_
      refine g_aload_n C 0 rfl (by decide +kernel) ?_
      refine g_getR C cl12 0 75 55 rfl cd_B0 ⟨by decide, rfl, by decide⟩ rfl rfl (nB (by decide)) (ix := 185) lk_1477 (by decide +kernel) ?_
      refine g_bipush C 30 (by decide) (by decide +kernel) ?_
      refine g_iload C 6 rfl (by decide +kernel) ?_
      refine g_imul C (by decide +kernel) ?_
      refine g_iload C 7 rfl (by decide +kernel) ?_
      refine g_iadd C (by decide +kernel) ?_
      obtain ⟨hb8_, h⟩ := ck_some h
      refine g_iald C 55 (w32_c _) rfl cd_B55 (nB (by decide)) hb8_ (by decide +kernel) (fun hc9_ => ?_)
      refine g_iload_n C 3 rfl (by decide +kernel) ?_
      refine g_ishr C (by decide +kernel) ?_
      refine g_iconst C 1 (cK rfl) (by decide +kernel) ?_
      refine g_iand C (by decide +kernel) ?_
      refine g_iadd C (by decide +kernel) ?_
      obtain ⟨v10_, ev11_, h⟩ := lt_some h
      refine g_val ev11_.symm ?_
      have hv12_ : c32 v10_ := by rw [ev11_]; exact (w32_c _)
      refine s_istore C 5 (lo' := [(2, 0), (0, x1), (0, x2), (0, x3), (0, (w32 (x4 + 1))), (0, v10_), (0, x6), (0, v4_)]) (by decide) (s1k (s1k (s1k (s1k (s1n (by decide) s1z))))) (by decide +kernel) ?_
      refine g_sub (lo2 := [(2, 0), (0, x1), (0, x2), (0, x3), (0, (w32 (x4 + 1))), (0, v10_), (0, x6), (9, 0)]) (lsb_v (lsb_v (lsb_v (lsb_v (lsb_v (lsb_v (lsb_v (lsb_c lsb_e)))))))) ?_
      exact ok_Mo_setOf_b83 C x1 x2 x3 (w32 (x4 + 1)) v10_ x6 d hx1 hx2 hx3 (w32_c _) hv12_ hx6 h kb k0
set_option maxHeartbeats 4000000 in
theorem ok_Mo_setOf_n27 {p : Program} {l : Launch} {e : Env} {s : State} {m : MethodId} {args : Array Value} {below : List Frame} {meth : Method} {c : Code} {D : va_G} {cA : Nat → ClassId} {ad : Nat → Nat} {A : Nat → Prop} (C : Cx p s m args c prog_14_method_84_code 8 "PollBooksModel" D cA ad 1 A) {Q : State → Prop} {x : (Int × Int × Int × Int × Int × Dt)} : ∀ (n : Nat) (x1 x2 x3 x4 x5 x6 : Int) (d : Dt), c32 x1 → c32 x2 → c32 x3 → c32 x4 → c32 x5 → c32 x6 → lpF (fun q : Int × Int × Int × Int × Int × Int × Dt => L_Mo_setOf_y27 q.1 q.2.1 q.2.2.1 q.2.2.2.1 q.2.2.2.2.1 q.2.2.2.2.2.1 q.2.2.2.2.2.2) n (x1, x2, x3, x4, x5, x6, d) = some x → (∀ (y0 y1 y2 y3 y4 : Int) (e' : Dt), x = (y0, y1, y2, y3, y4, e') → c32 y0 → c32 y1 → c32 y2 → c32 y3 → c32 y4 → G p l e rm_Mo_setOf s m args below meth c 0 0 Q 8 D cA ad 1 A 89 [(2, 0), (0, y0), (0, y1), (0, y2), (0, y3), (0, y4), (9, 0), (9, 0)] [] e') → G p l e rm_Mo_setOf s m args below meth c 0 0 Q 8 D cA ad 1 A 27 [(2, 0), (0, x1), (0, x2), (0, x3), (0, x4), (0, x5), (0, x6), (9, 0)] [] d := by
  intro n
  induction n with
  | zero => intro x1 x2 x3 x4 x5 x6 d g0 g1 g2 g3 g4 g5 h k0; cases h
  | succ n ih =>
    intro x1 x2 x3 x4 x5 x6 d g0 g1 g2 g3 g4 g5 h k0
    rcases lpF_some h with h | ⟨⟨v0_, v1_, v2_, v3_, v4_, v5_, e0_⟩, h1, h⟩
    · exact ok_Mo_setOf_y27 C x1 x2 x3 x4 x5 x6 d g0 g1 g2 g3 g4 g5 h (fun z0_ z1_ z2_ z3_ z4_ z5_ e1_ eq w0_ w1_ w2_ w3_ w4_ w5_ => by cases eq) (fun z0_ z1_ z2_ z3_ z4_ e1_ eq w0_ w1_ w2_ w3_ w4_ => k0 _ _ _ _ _ _ (by cases eq; rfl) w0_ w1_ w2_ w3_ w4_)
    · exact ok_Mo_setOf_y27 C x1 x2 x3 x4 x5 x6 d g0 g1 g2 g3 g4 g5 h1 (fun z0_ z1_ z2_ z3_ z4_ z5_ e1_ eq w0_ w1_ w2_ w3_ w4_ w5_ => by cases eq; exact ih _ _ _ _ _ _ _ w0_ w1_ w2_ w3_ w4_ w5_ h k0) (fun z0_ z1_ z2_ z3_ z4_ e1_ eq w0_ w1_ w2_ w3_ w4_ => by cases eq)
set_option maxHeartbeats 4000000 in
theorem ok_Mo_setOf_l27 {p : Program} {l : Launch} {e : Env} {s : State} {m : MethodId} {args : Array Value} {below : List Frame} {meth : Method} {c : Code} {D : va_G} {cA : Nat → ClassId} {ad : Nat → Nat} {A : Nat → Prop} (C : Cx p s m args c prog_14_method_84_code 8 "PollBooksModel" D cA ad 1 A) {Q : State → Prop} {x : (Int × Int × Int × Int × Int × Dt)} (x1 x2 x3 x4 x5 x6 : Int) (d : Dt) (hx1 : c32 x1) (hx2 : c32 x2) (hx3 : c32 x3) (hx4 : c32 x4) (hx5 : c32 x5) (hx6 : c32 x6) (h : L_Mo_setOf_l27 x1 x2 x3 x4 x5 x6 d = some x) (k0 : ∀ (y0 y1 y2 y3 y4 : Int) (e' : Dt), x = (y0, y1, y2, y3, y4, e') → c32 y0 → c32 y1 → c32 y2 → c32 y3 → c32 y4 → G p l e rm_Mo_setOf s m args below meth c 0 0 Q 8 D cA ad 1 A 89 [(2, 0), (0, y0), (0, y1), (0, y2), (0, y3), (0, y4), (9, 0), (9, 0)] [] e') : G p l e rm_Mo_setOf s m args below meth c 0 0 Q 8 D cA ad 1 A 27 [(2, 0), (0, x1), (0, x2), (0, x3), (0, x4), (0, x5), (0, x6), (9, 0)] [] d :=
  ok_Mo_setOf_n27 C FU x1 x2 x3 x4 x5 x6 d hx1 hx2 hx3 hx4 hx5 hx6 h k0
set_option maxHeartbeats 4000000 in
theorem ok_Mo_setOf_b141 {p : Program} {l : Launch} {e : Env} {s : State} {m : MethodId} {args : Array Value} {below : List Frame} {meth : Method} {c : Code} {D : va_G} {cA : Nat → ClassId} {ad : Nat → Nat} {A : Nat → Prop} (C : Cx p s m args c prog_14_method_84_code 8 "PollBooksModel" D cA ad 1 A) {Q : State → Prop} {o : (Int × Int × Int × Dt) ⊕ ((Int × Dt))} (x1 x3 s0 s1 : Int) (d : Dt) (hx1 : c32 x1) (hx3 : c32 x3) (hs0 : c32 s0) (hs1 : c32 s1) (h : L_Mo_setOf_b141 x1 x3 s0 s1 d = some o) (kb : ∀ (y0 y1 y2 : Int) (e' : Dt), o = .inl (y0, y1, y2, e') → c32 y0 → c32 y1 → c32 y2 → G p l e rm_Mo_setOf s m args below meth c 0 0 Q 8 D cA ad 1 A 4 [(2, 0), (0, y0), (0, y1), (0, y2), (9, 0), (9, 0), (9, 0), (9, 0)] [] e') (k0 : ∀ (y0 : Int) (e' : Dt), o = .inr (y0, e') → c32 y0 → G p l e rm_Mo_setOf s m args below meth c 0 0 Q 8 D cA ad 1 A 149 [(9, 0), (9, 0), (0, y0), (9, 0), (9, 0), (9, 0), (9, 0), (9, 0)] [] e') : G p l e rm_Mo_setOf s m args below meth c 0 0 Q 8 D cA ad 1 A 141 [(2, 0), (0, x1), (9, 0), (0, x3), (9, 0), (9, 0), (9, 0), (9, 0)] [(0, s1), (0, s0)] d := by
  unfold L_Mo_setOf_b141 at h
  refine g_ior C (by decide +kernel) ?_
  obtain ⟨v13_, ev14_, h⟩ := lt_some h
  refine g_val ev14_.symm ?_
  have hv15_ : c32 v13_ := by rw [ev14_]; exact (i_c _)
  refine s_istore_n C 2 (lo' := [(2, 0), (0, x1), (0, v13_), (0, x3), (9, 0), (9, 0), (9, 0), (9, 0)]) (by decide) (s1k (s1n (by decide) s1z)) (by decide +kernel) ?_
  refine s_iinc C 3 1 (lo' := [(2, 0), (0, x1), (0, v13_), (0, (w32 (x3 + 1))), (9, 0), (9, 0), (9, 0), (9, 0)]) rfl (by decide) (s1k (s1k (s1n (by decide) s1z))) (by decide +kernel) ?_
  refine g_goto C 4 (off := (-142)) (by decide +kernel) (by decide) ?_
  refine g_sub (lo2 := [(2, 0), (0, x1), (0, v13_), (0, (w32 (x3 + 1))), (9, 0), (9, 0), (9, 0), (9, 0)]) (lsb_v (lsb_v (lsb_v (lsb_v (lsb_c (lsb_c (lsb_c (lsb_c lsb_e)))))))) ?_
  obtain rfl := Option.some.inj h
  exact kb x1 v13_ (w32 (x3 + 1)) d rfl hx1 hv15_ (w32_c _)
set_option maxHeartbeats 4000000 in
theorem ok_Mo_setOf_b126 {p : Program} {l : Launch} {e : Env} {s : State} {m : MethodId} {args : Array Value} {below : List Frame} {meth : Method} {c : Code} {D : va_G} {cA : Nat → ClassId} {ad : Nat → Nat} {A : Nat → Prop} (C : Cx p s m args c prog_14_method_84_code 8 "PollBooksModel" D cA ad 1 A) {Q : State → Prop} {o : (Int × Int × Int × Dt) ⊕ ((Int × Dt))} (x1 x2 x3 s0 : Int) (d : Dt) (hx1 : c32 x1) (hx2 : c32 x2) (hx3 : c32 x3) (hs0 : cb s0) (h : L_Mo_setOf_b126 x1 x2 x3 s0 d = some o) (kb : ∀ (y0 y1 y2 : Int) (e' : Dt), o = .inl (y0, y1, y2, e') → c32 y0 → c32 y1 → c32 y2 → G p l e rm_Mo_setOf s m args below meth c 0 0 Q 8 D cA ad 1 A 4 [(2, 0), (0, y0), (0, y1), (0, y2), (9, 0), (9, 0), (9, 0), (9, 0)] [] e') (k0 : ∀ (y0 : Int) (e' : Dt), o = .inr (y0, e') → c32 y0 → G p l e rm_Mo_setOf s m args below meth c 0 0 Q 8 D cA ad 1 A 149 [(9, 0), (9, 0), (0, y0), (9, 0), (9, 0), (9, 0), (9, 0), (9, 0)] [] e') : G p l e rm_Mo_setOf s m args below meth c 0 0 Q 8 D cA ad 1 A 126 [(2, 0), (0, x1), (0, x2), (0, x3), (9, 0), (9, 0), (9, 0), (9, 0)] [(0, s0)] d := by
  unfold L_Mo_setOf_b126 at h
  refine s_istore C 6 (lo' := [(2, 0), (0, x1), (0, x2), (0, x3), (9, 0), (9, 0), (0, s0), (9, 0)]) (by decide) (s1k (s1k (s1k (s1k (s1k (s1n (by decide) s1z)))))) (by decide +kernel) ?_
  refine g_iload_n C 2 rfl (by decide +kernel) ?_
  refine g_iload C 6 rfl (by decide +kernel) ?_
  refine g_if_eq C (off := 9) (tgt := 140) (c32_cb hs0) (by decide +kernel) (by decide) (fun hc16_ => ?_) (fun hc16_ => ?_)
  · replace h := ite_t hc16_ h
    refine g_iconst C 0 (cK rfl) (by decide +kernel) ?_
    refine g_sub (lo2 := [(2, 0), (0, x1), (9, 0), (0, x3), (9, 0), (9, 0), (9, 0), (9, 0)]) (lsb_v (lsb_v (lsb_c (lsb_v (lsb_c (lsb_c (lsb_c (lsb_c lsb_e)))))))) ?_
    exact ok_Mo_setOf_b141 C x1 x3 x2 0 d hx1 hx3 hx2 (c32_cb (Or.inl rfl)) h kb k0
  · replace h := ite_f hc16_ h
    refine g_iconst C 1 (cK rfl) (by decide +kernel) ?_
    refine g_iload_n C 3 rfl (by decide +kernel) ?_
    refine g_ishl C (by decide +kernel) ?_
    refine g_goto C 141 (off := 4) (by decide +kernel) (by decide) ?_
    refine g_sub (lo2 := [(2, 0), (0, x1), (9, 0), (0, x3), (9, 0), (9, 0), (9, 0), (9, 0)]) (lsb_v (lsb_v (lsb_c (lsb_v (lsb_c (lsb_c (lsb_c (lsb_c lsb_e)))))))) ?_
    exact ok_Mo_setOf_b141 C x1 x3 x2 (ishl 1 x3) d hx1 hx3 hx2 (i_c _) h kb k0
set_option maxHeartbeats 4000000 in
theorem ok_Mo_setOf_y4 {p : Program} {l : Launch} {e : Env} {s : State} {m : MethodId} {args : Array Value} {below : List Frame} {meth : Method} {c : Code} {D : va_G} {cA : Nat → ClassId} {ad : Nat → Nat} {A : Nat → Prop} (C : Cx p s m args c prog_14_method_84_code 8 "PollBooksModel" D cA ad 1 A) {Q : State → Prop} {o : (Int × Int × Int × Dt) ⊕ ((Int × Dt))} (x1 x2 x3 : Int) (d : Dt) (hx1 : c32 x1) (hx2 : c32 x2) (hx3 : c32 x3) (h : L_Mo_setOf_y4 x1 x2 x3 d = some o) (kb : ∀ (y0 y1 y2 : Int) (e' : Dt), o = .inl (y0, y1, y2, e') → c32 y0 → c32 y1 → c32 y2 → G p l e rm_Mo_setOf s m args below meth c 0 0 Q 8 D cA ad 1 A 4 [(2, 0), (0, y0), (0, y1), (0, y2), (9, 0), (9, 0), (9, 0), (9, 0)] [] e') (k0 : ∀ (y0 : Int) (e' : Dt), o = .inr (y0, e') → c32 y0 → G p l e rm_Mo_setOf s m args below meth c 0 0 Q 8 D cA ad 1 A 149 [(9, 0), (9, 0), (0, y0), (9, 0), (9, 0), (9, 0), (9, 0), (9, 0)] [] e') : G p l e rm_Mo_setOf s m args below meth c 0 0 Q 8 D cA ad 1 A 4 [(2, 0), (0, x1), (0, x2), (0, x3), (9, 0), (9, 0), (9, 0), (9, 0)] [] d := by
  unfold L_Mo_setOf_y4 at h
  refine g_iload_n C 3 rfl (by decide +kernel) ?_
  refine g_iconst C 4 (cK rfl) (by decide +kernel) ?_
  refine g_icmp_ge C (off := 143) (tgt := 149) hx3 (cK rfl) (by decide +kernel) (by decide) (fun hc17_ => ?_) (fun hc17_ => ?_)
  · replace h := ite_t hc17_ h
    refine g_iconst C 1 (cK rfl) (by decide +kernel) ?_
    refine s_istore C 4 (lo' := [(2, 0), (0, x1), (0, x2), (0, x3), (0, 1), (9, 0), (9, 0), (9, 0)]) (by decide) (s1k (s1k (s1k (s1n (by decide) s1z)))) (by decide +kernel) ?_
    refine g_aload_n C 0 rfl (by decide +kernel) ?_
    refine g_getR C cl12 0 75 55 rfl cd_B0 ⟨by decide, rfl, by decide⟩ rfl rfl (nB (by decide)) (ix := 185) lk_1477 (by decide +kernel) ?_
    refine g_iload_n C 1 rfl (by decide +kernel) ?_
    obtain ⟨hb18_, h⟩ := ck_some h
    refine g_iald C 55 hx1 rfl cd_B55 (nB (by decide)) hb18_ (by decide +kernel) (fun hc19_ => ?_)
    refine g_iload_n C 3 rfl (by decide +kernel) ?_
    refine g_ishr C (by decide +kernel) ?_
    refine g_iconst C 1 (cK rfl) (by decide +kernel) ?_
    refine g_iand C (by decide +kernel) ?_
    obtain ⟨v20_, ev21_, h⟩ := lt_some h
    refine g_val ev21_.symm ?_
    have hv22_ : c32 v20_ := by rw [ev21_]; exact (i_c _)
    refine s_istore C 5 (lo' := [(2, 0), (0, x1), (0, x2), (0, x3), (0, 1), (0, v20_), (9, 0), (9, 0)]) (by decide) (s1k (s1k (s1k (s1k (s1n (by decide) s1z))))) (by decide +kernel) ?_
    refine g_iconst C 1 (cK rfl) (by decide +kernel) ?_
    refine s_istore C 6 (lo' := [(2, 0), (0, x1), (0, x2), (0, x3), (0, 1), (0, v20_), (0, 1), (9, 0)]) (by decide) (s1k (s1k (s1k (s1k (s1k (s1n (by decide) s1z)))))) (by decide +kernel) ?_
    refine g_sub (lo2 := [(2, 0), (0, x1), (0, x2), (0, x3), (0, 1), (0, v20_), (0, 1), (9, 0)]) (lsb_v (lsb_v (lsb_v (lsb_v (lsb_v (lsb_v (lsb_v (lsb_c lsb_e)))))))) ?_
    obtain ⟨x23_, hx24_, h⟩ := lb_some h
    refine ok_Mo_setOf_l27 C x1 x2 x3 1 v20_ 1 d hx1 hx2 hx3 (c32_cb (Or.inr rfl)) hv22_ (c32_cb (Or.inr rfl)) hx24_ (fun v25_ v26_ v27_ v28_ v29_ d30_ eq31_ hv25_ hv26_ hv27_ hv28_ hv29_ => ?_)
    subst eq31_
    replace h := u5_e h
    refine g_iconst C 2 (cK rfl) (by decide +kernel) ?_
    refine g_iload C 5 rfl (by decide +kernel) ?_
    refine g_imul C (by decide +kernel) ?_
    refine g_iload C 4 rfl (by decide +kernel) ?_
    refine g_icmp_gt C (off := 26) (tgt := 121) (w32_c _) hv28_ (by decide +kernel) (by decide) (fun hc32_ => ?_) (fun hc32_ => ?_)
    · replace h := ite_t hc32_ h
      refine g_iconst C 1 (cK rfl) (by decide +kernel) ?_
      refine g_goto C 126 (off := 4) (by decide +kernel) (by decide) ?_
      refine g_sub (lo2 := [(2, 0), (0, v25_), (0, v26_), (0, v27_), (9, 0), (9, 0), (9, 0), (9, 0)]) (lsb_v (lsb_v (lsb_v (lsb_v (lsb_c (lsb_c (lsb_c (lsb_c lsb_e)))))))) ?_
      exact ok_Mo_setOf_b126 C v25_ v26_ v27_ 1 d30_ hv25_ hv26_ hv27_ (Or.inr rfl) h kb k0
    · replace h := ite_f hc32_ h
      refine g_iconst C 2 (cK rfl) (by decide +kernel) ?_
      refine g_iload C 5 rfl (by decide +kernel) ?_
      refine g_imul C (by decide +kernel) ?_
      refine g_iload C 4 rfl (by decide +kernel) ?_
      refine g_icmp_ne C (off := 21) (tgt := 125) (w32_c _) hv28_ (by decide +kernel) (by decide) (fun hc33_ => ?_) (fun hc33_ => ?_)
      · replace h := ite_t hc33_ h
        refine g_aload_n C 0 rfl (by decide +kernel) ?_
        refine g_getR C cl12 0 75 55 rfl cd_B0 ⟨by decide, rfl, by decide⟩ rfl rfl (nB (by decide)) (ix := 185) lk_1477 (by decide +kernel) ?_
        refine g_iload_n C 1 rfl (by decide +kernel) ?_
        obtain ⟨hb34_, h⟩ := ck_some h
        refine g_iald C 55 hv25_ rfl cd_B55 (nB (by decide)) hb34_ (by decide +kernel) (fun hc35_ => ?_)
        refine g_iload_n C 3 rfl (by decide +kernel) ?_
        refine g_ishr C (by decide +kernel) ?_
        refine g_iconst C 1 (cK rfl) (by decide +kernel) ?_
        refine g_iand C (by decide +kernel) ?_
        refine g_iconst C 1 (cK rfl) (by decide +kernel) ?_
        refine g_icmp_ne C (off := 7) (tgt := 125) (i_c _) (c32_cb (Or.inr rfl)) (by decide +kernel) (by decide) (fun hc36_ => ?_) (fun hc36_ => ?_)
        · replace h := ite_t hc36_ h
          refine g_iconst C 1 (cK rfl) (by decide +kernel) ?_
          refine g_goto C 126 (off := 4) (by decide +kernel) (by decide) ?_
          refine g_sub (lo2 := [(2, 0), (0, v25_), (0, v26_), (0, v27_), (9, 0), (9, 0), (9, 0), (9, 0)]) (lsb_v (lsb_v (lsb_v (lsb_v (lsb_c (lsb_c (lsb_c (lsb_c lsb_e)))))))) ?_
          exact ok_Mo_setOf_b126 C v25_ v26_ v27_ 1 d30_ hv25_ hv26_ hv27_ (Or.inr rfl) h kb k0
        · replace h := ite_f hc36_ h
          refine g_iconst C 0 (cK rfl) (by decide +kernel) ?_
          refine g_sub (lo2 := [(2, 0), (0, v25_), (0, v26_), (0, v27_), (9, 0), (9, 0), (9, 0), (9, 0)]) (lsb_v (lsb_v (lsb_v (lsb_v (lsb_c (lsb_c (lsb_c (lsb_c lsb_e)))))))) ?_
          exact ok_Mo_setOf_b126 C v25_ v26_ v27_ 0 d30_ hv25_ hv26_ hv27_ (Or.inl rfl) h kb k0
      · replace h := ite_f hc33_ h
        refine g_iconst C 0 (cK rfl) (by decide +kernel) ?_
        refine g_sub (lo2 := [(2, 0), (0, v25_), (0, v26_), (0, v27_), (9, 0), (9, 0), (9, 0), (9, 0)]) (lsb_v (lsb_v (lsb_v (lsb_v (lsb_c (lsb_c (lsb_c (lsb_c lsb_e)))))))) ?_
        exact ok_Mo_setOf_b126 C v25_ v26_ v27_ 0 d30_ hv25_ hv26_ hv27_ (Or.inl rfl) h kb k0
  · replace h := ite_f hc17_ h
    refine g_sub (lo2 := [(9, 0), (9, 0), (0, x2), (9, 0), (9, 0), (9, 0), (9, 0), (9, 0)]) (lsb_c (lsb_c (lsb_v (lsb_c (lsb_c (lsb_c (lsb_c (lsb_c lsb_e)))))))) ?_
    obtain rfl := Option.some.inj h
    exact k0 x2 d rfl hx2
set_option maxHeartbeats 4000000 in
theorem ok_Mo_setOf_n4 {p : Program} {l : Launch} {e : Env} {s : State} {m : MethodId} {args : Array Value} {below : List Frame} {meth : Method} {c : Code} {D : va_G} {cA : Nat → ClassId} {ad : Nat → Nat} {A : Nat → Prop} (C : Cx p s m args c prog_14_method_84_code 8 "PollBooksModel" D cA ad 1 A) {Q : State → Prop} {x : (Int × Dt)} : ∀ (n : Nat) (x1 x2 x3 : Int) (d : Dt), c32 x1 → c32 x2 → c32 x3 → lpF (fun q : Int × Int × Int × Dt => L_Mo_setOf_y4 q.1 q.2.1 q.2.2.1 q.2.2.2) n (x1, x2, x3, d) = some x → (∀ (y0 : Int) (e' : Dt), x = (y0, e') → c32 y0 → G p l e rm_Mo_setOf s m args below meth c 0 0 Q 8 D cA ad 1 A 149 [(9, 0), (9, 0), (0, y0), (9, 0), (9, 0), (9, 0), (9, 0), (9, 0)] [] e') → G p l e rm_Mo_setOf s m args below meth c 0 0 Q 8 D cA ad 1 A 4 [(2, 0), (0, x1), (0, x2), (0, x3), (9, 0), (9, 0), (9, 0), (9, 0)] [] d := by
  intro n
  induction n with
  | zero => intro x1 x2 x3 d g0 g1 g2 h k0; cases h
  | succ n ih =>
    intro x1 x2 x3 d g0 g1 g2 h k0
    rcases lpF_some h with h | ⟨⟨v0_, v1_, v2_, e0_⟩, h1, h⟩
    · exact ok_Mo_setOf_y4 C x1 x2 x3 d g0 g1 g2 h (fun z0_ z1_ z2_ e1_ eq w0_ w1_ w2_ => by cases eq) (fun z0_ e1_ eq w0_ => k0 _ _ (by cases eq; rfl) w0_)
    · exact ok_Mo_setOf_y4 C x1 x2 x3 d g0 g1 g2 h1 (fun z0_ z1_ z2_ e1_ eq w0_ w1_ w2_ => by cases eq; exact ih _ _ _ _ w0_ w1_ w2_ h k0) (fun z0_ e1_ eq w0_ => by cases eq)
set_option maxHeartbeats 4000000 in
theorem ok_Mo_setOf_l4 {p : Program} {l : Launch} {e : Env} {s : State} {m : MethodId} {args : Array Value} {below : List Frame} {meth : Method} {c : Code} {D : va_G} {cA : Nat → ClassId} {ad : Nat → Nat} {A : Nat → Prop} (C : Cx p s m args c prog_14_method_84_code 8 "PollBooksModel" D cA ad 1 A) {Q : State → Prop} {x : (Int × Dt)} (x1 x2 x3 : Int) (d : Dt) (hx1 : c32 x1) (hx2 : c32 x2) (hx3 : c32 x3) (h : L_Mo_setOf_l4 x1 x2 x3 d = some x) (k0 : ∀ (y0 : Int) (e' : Dt), x = (y0, e') → c32 y0 → G p l e rm_Mo_setOf s m args below meth c 0 0 Q 8 D cA ad 1 A 149 [(9, 0), (9, 0), (0, y0), (9, 0), (9, 0), (9, 0), (9, 0), (9, 0)] [] e') : G p l e rm_Mo_setOf s m args below meth c 0 0 Q 8 D cA ad 1 A 4 [(2, 0), (0, x1), (0, x2), (0, x3), (9, 0), (9, 0), (9, 0), (9, 0)] [] d :=
  ok_Mo_setOf_n4 C FU x1 x2 x3 d hx1 hx2 hx3 h k0
set_option maxHeartbeats 4000000 in
theorem ok_Mo_setOf {l : Launch} {r : Int} {d' : Dt} (p1 : Int) (d : Dt) (hp1 : c32 p1) (h : L_Mo_setOf p1 d = some (r, d')) : MC l y_Mo_setOf prog_14_method_84_code 8 (some .int) rm_Mo_setOf 1 [(2, 0), (0, p1)] d (some (0, r)) d' := by
  refine MC.of (by decide) (Nat.le_of_ble_eq_true rfl) ?_
  intro p e s m args below meth c D cA ad A C hlk hr
  replace C : Cx p s m args c prog_14_method_84_code 8 "PollBooksModel" D cA ad 1 A := C
  show G p l e rm_Mo_setOf s m args below meth c 0 0 (MQ below (fun _ => QC D cA ad 1 A (some .int) (some (0, r)) d') args s 0 0 A) 8 D cA ad 1 A 0 [(2, 0), (0, p1)] [] d
  refine g_sub (lo2 := [(2, 0), (0, p1), (9, 0), (9, 0), (9, 0), (9, 0), (9, 0), (9, 0)]) (lsb_v (lsb_v (lsb_n (lsb_n (lsb_n (lsb_n (lsb_n (lsb_n lsb_e)))))))) ?_
  unfold L_Mo_setOf at h
  refine g_iconst C 0 (cK rfl) (by decide +kernel) ?_
  refine s_istore_n C 2 (lo' := [(2, 0), (0, p1), (0, 0), (9, 0), (9, 0), (9, 0), (9, 0), (9, 0)]) (by decide) (s1k (s1n (by decide) s1z)) (by decide +kernel) ?_
  refine g_iconst C 0 (cK rfl) (by decide +kernel) ?_
  refine s_istore_n C 3 (lo' := [(2, 0), (0, p1), (0, 0), (0, 0), (9, 0), (9, 0), (9, 0), (9, 0)]) (by decide) (s1k (s1k (s1n (by decide) s1z))) (by decide +kernel) ?_
  refine g_sub (lo2 := [(2, 0), (0, p1), (0, 0), (0, 0), (9, 0), (9, 0), (9, 0), (9, 0)]) (lsb_v (lsb_v (lsb_v (lsb_v (lsb_c (lsb_c (lsb_c (lsb_c lsb_e)))))))) ?_
  obtain ⟨x38_, hx39_, h⟩ := lb_some h
  refine ok_Mo_setOf_l4 C p1 0 0 d hp1 (c32_cb (Or.inl rfl)) (c32_cb (Or.inl rfl)) hx39_ (fun v40_ d41_ eq42_ hv40_ => ?_)
  subst eq42_
  replace h := u1_e h
  refine g_iload_n C 2 rfl (by decide +kernel) ?_
  obtain ⟨rfl, rfl⟩ := ret_inj h
  exact g_iret C hv40_ hlk hr (by decide +kernel)
/-! PollBooksModel.joined(I)I -/
def y_Mo_joined : MethodName := ⟨"PollBooksModel", "joined", "(I)I"⟩
def rm_Mo_joined : Room := { frames := 6, cells := 0, slots := 0, locals := 156 }
theorem mw_Mo_joined : MW y_Mo_joined prog_14_method_85_code 2 (some .int) 1 := ⟨lk_2103, lk_14, by decide +kernel⟩
def L_Mo_joined (p1 : Int) (d : Dt) : Option (Int × Dt) :=
  bd (L_Mo_isEntry p1 d) (fun r2_ d1_ => if r2_ = 0 then bd (L_Mo_refuse 1 d1_) (fun r7_ d6_ => some (r7_, d6_)) else bd (L_Mo_joinAll d1_) (fun r11_ d10_ => bd (L_Mo_setOf p1 d10_) (fun r15_ d14_ => bd (L_Mo_gives r15_ d14_) (fun r19_ d18_ => some (r19_, d18_)))))
set_option maxHeartbeats 4000000 in
theorem ok_Mo_joined {l : Launch} {r : Int} {d' : Dt} (p1 : Int) (d : Dt) (hp1 : c32 p1) (h : L_Mo_joined p1 d = some (r, d')) : MC l y_Mo_joined prog_14_method_85_code 2 (some .int) rm_Mo_joined 1 [(2, 0), (0, p1)] d (some (0, r)) d' := by
  refine MC.of (by decide) (Nat.le_of_ble_eq_true rfl) ?_
  intro p e s m args below meth c D cA ad A C hlk hr
  replace C : Cx p s m args c prog_14_method_85_code 2 "PollBooksModel" D cA ad 1 A := C
  show G p l e rm_Mo_joined s m args below meth c 0 0 (MQ below (fun _ => QC D cA ad 1 A (some .int) (some (0, r)) d') args s 0 0 A) 2 D cA ad 1 A 0 [(2, 0), (0, p1)] [] d
  refine g_sub (lo2 := [(2, 0), (0, p1)]) (lsb_v (lsb_v lsb_e)) ?_
  unfold L_Mo_joined at h
  refine g_aload_n C 0 rfl (by decide +kernel) ?_
  refine g_iload_n C 1 rfl (by decide +kernel) ?_
  obtain ⟨r2_, d1_, hr3_, h⟩ := bd_some h
  refine g_callV C mw_Mo_isEntry [(0, p1)] 0 cl12 rfl (ok_Mo_isEntry p1 d hp1 hr3_) cd_B0 (by decide) (nB (by decide)) (ix := 541) lk_2092 lk_2094 lkp_98 ⟨rfl, rfl, Nat.le_of_ble_eq_true rfl, Nat.le_of_ble_eq_true rfl⟩ rfl (rest := []) rfl (Nat.le_of_ble_eq_true rfl) ⟨Nat.zero_le _, Nat.zero_le _⟩ (by decide +kernel) (fun _ hc4_ => ?_)
  replace hc4_ : cb r2_ := hc4_
  refine g_st (st2 := [(0, r2_)]) rfl ?_
  refine g_if_ne C (off := 9) (tgt := 14) (c32_cb hc4_) (by decide +kernel) (by decide) (fun hc5_ => ?_) (fun hc5_ => ?_)
  · replace h := ite_t hc5_ h
    refine g_aload_n C 0 rfl (by decide +kernel) ?_
    refine g_iconst C 1 (cK rfl) (by decide +kernel) ?_
    obtain ⟨r7_, d6_, hr8_, h⟩ := bd_some h
    refine g_callV C mw_Mo_refuse [(0, 1)] 0 cl12 rfl (ok_Mo_refuse 1 d1_ (c32_cb (Or.inr rfl)) hr8_) cd_B0 (by decide) (nB (by decide)) (ix := 316) lk_1787 lk_1789 lkp_61 ⟨rfl, rfl, Nat.le_of_ble_eq_true rfl, Nat.le_of_ble_eq_true rfl⟩ rfl (rest := []) rfl (Nat.le_of_ble_eq_true rfl) ⟨Nat.zero_le _, Nat.zero_le _⟩ (by decide +kernel) (fun _ hc9_ => ?_)
    replace hc9_ : c32 r7_ := hc9_
    refine g_st (st2 := [(0, r7_)]) rfl ?_
    obtain ⟨rfl, rfl⟩ := ret_inj h
    exact g_iret C hc9_ hlk hr (by decide +kernel)
  · replace h := ite_f hc5_ h
    refine g_aload_n C 0 rfl (by decide +kernel) ?_
    obtain ⟨r11_, d10_, hr12_, h⟩ := bd_some h
    refine g_callV C mw_Mo_joinAll [] 0 cl12 rfl (ok_Mo_joinAll  d1_  hr12_) cd_B0 (by decide) (nB (by decide)) (ix := 544) lk_2096 lk_2098 lkp_99 ⟨rfl, rfl, Nat.le_of_ble_eq_true rfl, Nat.le_of_ble_eq_true rfl⟩ rfl (rest := []) rfl (Nat.le_of_ble_eq_true rfl) ⟨Nat.zero_le _, Nat.zero_le _⟩ (by decide +kernel) (fun _ hc13_ => ?_)
    refine g_st (st2 := []) rfl ?_
    refine g_aload_n C 0 rfl (by decide +kernel) ?_
    refine g_aload_n C 0 rfl (by decide +kernel) ?_
    refine g_iload_n C 1 rfl (by decide +kernel) ?_
    obtain ⟨r15_, d14_, hr16_, h⟩ := bd_some h
    refine g_callV C mw_Mo_setOf [(0, p1)] 0 cl12 rfl (ok_Mo_setOf p1 d10_ hp1 hr16_) cd_B0 (by decide) (nB (by decide)) (ix := 547) lk_2104 lk_2106 lkp_100 ⟨rfl, rfl, Nat.le_of_ble_eq_true rfl, Nat.le_of_ble_eq_true rfl⟩ rfl (rest := [(2, 0)]) rfl (Nat.le_of_ble_eq_true rfl) ⟨Nat.zero_le _, Nat.zero_le _⟩ (by decide +kernel) (fun _ hc17_ => ?_)
    replace hc17_ : c32 r15_ := hc17_
    refine g_st (st2 := [(0, r15_), (2, 0)]) rfl ?_
    obtain ⟨r19_, d18_, hr20_, h⟩ := bd_some h
    refine g_callV C mw_Mo_gives [(0, r15_)] 0 cl12 rfl (ok_Mo_gives r15_ d14_ hc17_ hr20_) cd_B0 (by decide) (nB (by decide)) (ix := 312) lk_1783 lk_1785 lkp_60 ⟨rfl, rfl, Nat.le_of_ble_eq_true rfl, Nat.le_of_ble_eq_true rfl⟩ rfl (rest := []) rfl (Nat.le_of_ble_eq_true rfl) ⟨Nat.zero_le _, Nat.zero_le _⟩ (by decide +kernel) (fun _ hc21_ => ?_)
    replace hc21_ : c32 r19_ := hc21_
    refine g_st (st2 := [(0, r19_)]) rfl ?_
    obtain ⟨rfl, rfl⟩ := ret_inj h
    exact g_iret C hc21_ hlk hr (by decide +kernel)
/-! PollBooksModel.isCandidate(I)Z -/
def y_Mo_isCandidate : MethodName := ⟨"PollBooksModel", "isCandidate", "(I)Z"⟩
def rm_Mo_isCandidate : Room := { frames := 0, cells := 0, slots := 0, locals := 0 }
theorem mw_Mo_isCandidate : MW y_Mo_isCandidate prog_14_method_21_code 1 (some .boolean) 1 := ⟨lk_2114, lk_14, by decide +kernel⟩
def L_Mo_isCandidate (p1 : Int) (d : Dt) : Option (Int × Dt) :=
  if p1 < 0 then some (0, d) else if p1 < 4 then some (1, d) else some (0, d)
set_option maxHeartbeats 4000000 in
theorem ok_Mo_isCandidate {l : Launch} {r : Int} {d' : Dt} (p1 : Int) (d : Dt) (hp1 : c32 p1) (h : L_Mo_isCandidate p1 d = some (r, d')) : MC l y_Mo_isCandidate prog_14_method_21_code 1 (some .boolean) rm_Mo_isCandidate 1 [(0, p1)] d (some (0, r)) d' := by
  refine MC.of (by decide) (Nat.le_of_ble_eq_true rfl) ?_
  intro p e s m args below meth c D cA ad A C hlk hr
  replace C : Cx p s m args c prog_14_method_21_code 1 "PollBooksModel" D cA ad 1 A := C
  show G p l e rm_Mo_isCandidate s m args below meth c 0 0 (MQ below (fun _ => QC D cA ad 1 A (some .boolean) (some (0, r)) d') args s 0 0 A) 1 D cA ad 1 A 0 [(0, p1)] [] d
  refine g_sub (lo2 := [(0, p1)]) (lsb_v lsb_e) ?_
  unfold L_Mo_isCandidate at h
  refine g_iload_n C 0 rfl (by decide +kernel) ?_
  refine g_if_lt C (off := 12) (tgt := 13) hp1 (by decide +kernel) (by decide) (fun hc1_ => ?_) (fun hc1_ => ?_)
  · replace h := ite_t hc1_ h
    refine g_iconst C 0 (cK rfl) (by decide +kernel) ?_
    obtain ⟨rfl, rfl⟩ := ret_inj h
    exact g_zret C (Or.inl rfl) hlk hr (by decide +kernel)
  · replace h := ite_f hc1_ h
    refine g_iload_n C 0 rfl (by decide +kernel) ?_
    refine g_iconst C 4 (cK rfl) (by decide +kernel) ?_
    refine g_icmp_ge C (off := 7) (tgt := 13) hp1 (cK rfl) (by decide +kernel) (by decide) (fun hc2_ => ?_) (fun hc2_ => ?_)
    · replace h := ite_t hc2_ h
      refine g_iconst C 1 (cK rfl) (by decide +kernel) ?_
      refine g_goto C 14 (off := 4) (by decide +kernel) (by decide) ?_
      obtain ⟨rfl, rfl⟩ := ret_inj h
      exact g_zret C (Or.inr rfl) hlk hr (by decide +kernel)
    · replace h := ite_f hc2_ h
      refine g_iconst C 0 (cK rfl) (by decide +kernel) ?_
      obtain ⟨rfl, rfl⟩ := ret_inj h
      exact g_zret C (Or.inl rfl) hlk hr (by decide +kernel)
/-! PollBooksModel.tally(II)I -/
def y_Mo_tally : MethodName := ⟨"PollBooksModel", "tally", "(II)I"⟩
def rm_Mo_tally : Room := { frames := 6, cells := 0, slots := 0, locals := 156 }
theorem mw_Mo_tally : MW y_Mo_tally prog_14_method_86_code 6 (some .int) 2 := ⟨lk_2111, lk_14, by decide +kernel⟩
def L_Mo_tally_b82 (x1 x2 x4 x5 s0 s1 : Int) (d : Dt) : Option ((Int × Int × Int × Int × Int × Dt) ⊕ ((Int × Dt))) :=
  lt_ (w32 (s0 + (iand (ishr s1 x2) 1))) (fun v1_ => some (Sum.inl (x1, x2, v1_, x4, (w32 (x5 + 1)), d)))
def L_Mo_tally_y48 (x1 x2 x3 x4 x5 : Int) (d : Dt) : Option ((Int × Int × Int × Int × Int × Dt) ⊕ ((Int × Dt))) :=
  if x5 < x4 then if x1 = 3 then bd (L_Mo_setOf x5 d) (fun r7_ d6_ => L_Mo_tally_b82 x1 x2 x4 x5 x3 r7_ d6_) else ck ((0 : Int) ≤ (w32 ((w32 (30 * x1)) + x5)) ∧ (w32 ((w32 (30 * x1)) + x5)) < 90) (L_Mo_tally_b82 x1 x2 x4 x5 x3 (d 55 ((w32 ((w32 (30 * x1)) + x5))).toNat) d) else some (Sum.inr (x3, d))
def L_Mo_tally_l48 (x1 x2 x3 x4 x5 : Int) (d : Dt) : Option ((Int × Dt)) := lpF (fun q : Int × Int × Int × Int × Int × Dt => L_Mo_tally_y48 q.1 q.2.1 q.2.2.1 q.2.2.2.1 q.2.2.2.2.1 q.2.2.2.2.2) FU (x1, x2, x3, x4, x5, d)
def L_Mo_tally_b16 (d : Dt) : Option (Int × Dt) :=
  bd (L_Mo_refuse 1 d) (fun r13_ d12_ => some (r13_, d12_))
def L_Mo_tally_b42 (x1 x2 x3 s1 : Int) (d : Dt) : Option (Int × Dt) :=
  ck ((0 : Int) ≤ s1 ∧ s1 < 3) (lt_ (d 52 s1.toNat) (fun v18_ => lb (L_Mo_tally_l48 x1 x2 x3 v18_ 0 d) (fun q30_ => u1 q30_ (fun v23_ d24_ => bd (L_Mo_gives v23_ d24_) (fun r27_ d26_ => some (r27_, d26_))))))
def L_Mo_tally (p1 p2 : Int) (d : Dt) : Option (Int × Dt) :=
  if p1 < 0 then L_Mo_tally_b16 d else if 3 < p1 then L_Mo_tally_b16 d else bd (L_Mo_isCandidate p2 d) (fun r34_ d33_ => if r34_ = 0 then L_Mo_tally_b16 d33_ else bd (L_Mo_joinAll d33_) (fun r39_ d38_ => if p1 = 3 then L_Mo_tally_b42 p1 p2 0 0 d38_ else L_Mo_tally_b42 p1 p2 0 p1 d38_))
set_option maxHeartbeats 4000000 in
theorem ok_Mo_tally_b82 {p : Program} {l : Launch} {e : Env} {s : State} {m : MethodId} {args : Array Value} {below : List Frame} {meth : Method} {c : Code} {D : va_G} {cA : Nat → ClassId} {ad : Nat → Nat} {A : Nat → Prop} (C : Cx p s m args c prog_14_method_86_code 6 "PollBooksModel" D cA ad 1 A) {Q : State → Prop} {o : (Int × Int × Int × Int × Int × Dt) ⊕ ((Int × Dt))} (x1 x2 x4 x5 s0 s1 : Int) (d : Dt) (hx1 : c32 x1) (hx2 : c32 x2) (hx4 : c32 x4) (hx5 : c32 x5) (hs0 : c32 s0) (hs1 : c32 s1) (h : L_Mo_tally_b82 x1 x2 x4 x5 s0 s1 d = some o) (kb : ∀ (y0 y1 y2 y3 y4 : Int) (e' : Dt), o = .inl (y0, y1, y2, y3, y4, e') → c32 y0 → c32 y1 → c32 y2 → c32 y3 → c32 y4 → G p l e rm_Mo_tally s m args below meth c 0 0 Q 6 D cA ad 1 A 48 [(2, 0), (0, y0), (0, y1), (0, y2), (0, y3), (0, y4)] [] e') (k0 : ∀ (y0 : Int) (e' : Dt), o = .inr (y0, e') → c32 y0 → G p l e rm_Mo_tally s m args below meth c 0 0 Q 6 D cA ad 1 A 94 [(2, 0), (9, 0), (9, 0), (0, y0), (9, 0), (9, 0)] [] e') : G p l e rm_Mo_tally s m args below meth c 0 0 Q 6 D cA ad 1 A 82 [(2, 0), (0, x1), (0, x2), (9, 0), (0, x4), (0, x5)] [(0, s1), (0, s0)] d := by
  unfold L_Mo_tally_b82 at h
  refine g_iload_n C 2 rfl (by decide +kernel) ?_
  refine g_ishr C (by decide +kernel) ?_
  refine g_iconst C 1 (cK rfl) (by decide +kernel) ?_
  refine g_iand C (by decide +kernel) ?_
  refine g_iadd C (by decide +kernel) ?_
  obtain ⟨v1_, ev2_, h⟩ := lt_some h
  refine g_val ev2_.symm ?_
  have hv3_ : c32 v1_ := by rw [ev2_]; exact (w32_c _)
  refine s_istore_n C 3 (lo' := [(2, 0), (0, x1), (0, x2), (0, v1_), (0, x4), (0, x5)]) (by decide) (s1k (s1k (s1n (by decide) s1z))) (by decide +kernel) ?_
  refine s_iinc C 5 1 (lo' := [(2, 0), (0, x1), (0, x2), (0, v1_), (0, x4), (0, (w32 (x5 + 1)))]) rfl (by decide) (s1k (s1k (s1k (s1k (s1n (by decide) s1z))))) (by decide +kernel) ?_
  refine g_goto C 48 (off := (-43)) (by decide +kernel) (by decide) ?_
  refine g_sub (lo2 := [(2, 0), (0, x1), (0, x2), (0, v1_), (0, x4), (0, (w32 (x5 + 1)))]) (lsb_v (lsb_v (lsb_v (lsb_v (lsb_v (lsb_v lsb_e)))))) ?_
  obtain rfl := Option.some.inj h
  exact kb x1 x2 v1_ x4 (w32 (x5 + 1)) d rfl hx1 hx2 hv3_ hx4 (w32_c _)
set_option maxHeartbeats 4000000 in
theorem ok_Mo_tally_y48 {p : Program} {l : Launch} {e : Env} {s : State} {m : MethodId} {args : Array Value} {below : List Frame} {meth : Method} {c : Code} {D : va_G} {cA : Nat → ClassId} {ad : Nat → Nat} {A : Nat → Prop} (C : Cx p s m args c prog_14_method_86_code 6 "PollBooksModel" D cA ad 1 A) {Q : State → Prop} {o : (Int × Int × Int × Int × Int × Dt) ⊕ ((Int × Dt))} (x1 x2 x3 x4 x5 : Int) (d : Dt) (hx1 : c32 x1) (hx2 : c32 x2) (hx3 : c32 x3) (hx4 : c32 x4) (hx5 : c32 x5) (h : L_Mo_tally_y48 x1 x2 x3 x4 x5 d = some o) (kb : ∀ (y0 y1 y2 y3 y4 : Int) (e' : Dt), o = .inl (y0, y1, y2, y3, y4, e') → c32 y0 → c32 y1 → c32 y2 → c32 y3 → c32 y4 → G p l e rm_Mo_tally s m args below meth c 0 0 Q 6 D cA ad 1 A 48 [(2, 0), (0, y0), (0, y1), (0, y2), (0, y3), (0, y4)] [] e') (k0 : ∀ (y0 : Int) (e' : Dt), o = .inr (y0, e') → c32 y0 → G p l e rm_Mo_tally s m args below meth c 0 0 Q 6 D cA ad 1 A 94 [(2, 0), (9, 0), (9, 0), (0, y0), (9, 0), (9, 0)] [] e') : G p l e rm_Mo_tally s m args below meth c 0 0 Q 6 D cA ad 1 A 48 [(2, 0), (0, x1), (0, x2), (0, x3), (0, x4), (0, x5)] [] d := by
  unfold L_Mo_tally_y48 at h
  refine g_iload C 5 rfl (by decide +kernel) ?_
  refine g_iload C 4 rfl (by decide +kernel) ?_
  refine g_icmp_ge C (off := 42) (tgt := 94) hx5 hx4 (by decide +kernel) (by decide) (fun hc4_ => ?_) (fun hc4_ => ?_)
  · replace h := ite_t hc4_ h
    refine g_iload_n C 3 rfl (by decide +kernel) ?_
    refine g_iload_n C 1 rfl (by decide +kernel) ?_
    refine g_iconst C 3 (cK rfl) (by decide +kernel) ?_
    refine g_icmp_ne C (off := 12) (tgt := 70) hx1 (cK rfl) (by decide +kernel) (by decide) (fun hc5_ => ?_) (fun hc5_ => ?_)
    · replace h := ite_t hc5_ h
      refine g_aload_n C 0 rfl (by decide +kernel) ?_
      refine g_iload C 5 rfl (by decide +kernel) ?_
      obtain ⟨r7_, d6_, hr8_, h⟩ := bd_some h
      refine g_callV C mw_Mo_setOf [(0, x5)] 0 cl12 rfl (ok_Mo_setOf x5 d hx5 hr8_) cd_B0 (by decide) (nB (by decide)) (ix := 547) lk_2104 lk_2106 lkp_100 ⟨rfl, rfl, Nat.le_of_ble_eq_true rfl, Nat.le_of_ble_eq_true rfl⟩ rfl (rest := [(0, x3)]) rfl (Nat.le_of_ble_eq_true rfl) ⟨Nat.zero_le _, Nat.zero_le _⟩ (by decide +kernel) (fun _ hc9_ => ?_)
      replace hc9_ : c32 r7_ := hc9_
      refine g_st (st2 := [(0, r7_), (0, x3)]) rfl ?_
      refine g_goto C 82 (off := 15) (by decide +kernel) (by decide) ?_
      refine g_sub (lo2 := [(2, 0), (0, x1), (0, x2), (9, 0), (0, x4), (0, x5)]) (lsb_v (lsb_v (lsb_v (lsb_c (lsb_v (lsb_v lsb_e)))))) ?_
      exact ok_Mo_tally_b82 C x1 x2 x4 x5 x3 r7_ d6_ hx1 hx2 hx4 hx5 hx3 hc9_ h kb k0
    · replace h := ite_f hc5_ h
      refine g_aload_n C 0 rfl (by decide +kernel) ?_
      refine g_getR C cl12 0 75 55 rfl cd_B0 ⟨by decide, rfl, by decide⟩ rfl rfl (nB (by decide)) (ix := 185) lk_1477 (by decide +kernel) ?_
      refine g_bipush C 30 (by decide) (by decide +kernel) ?_
      refine g_iload_n C 1 rfl (by decide +kernel) ?_
      refine g_imul C (by decide +kernel) ?_
      refine g_iload C 5 rfl (by decide +kernel) ?_
      refine g_iadd C (by decide +kernel) ?_
      obtain ⟨hb10_, h⟩ := ck_some h
      refine g_iald C 55 (w32_c _) rfl cd_B55 (nB (by decide)) hb10_ (by decide +kernel) (fun hc11_ => ?_)
      refine g_sub (lo2 := [(2, 0), (0, x1), (0, x2), (9, 0), (0, x4), (0, x5)]) (lsb_v (lsb_v (lsb_v (lsb_c (lsb_v (lsb_v lsb_e)))))) ?_
      exact ok_Mo_tally_b82 C x1 x2 x4 x5 x3 (d 55 ((w32 ((w32 (30 * x1)) + x5))).toNat) d hx1 hx2 hx4 hx5 hx3 hc11_ h kb k0
  · replace h := ite_f hc4_ h
    refine g_sub (lo2 := [(2, 0), (9, 0), (9, 0), (0, x3), (9, 0), (9, 0)]) (lsb_v (lsb_c (lsb_c (lsb_v (lsb_c (lsb_c lsb_e)))))) ?_
    obtain rfl := Option.some.inj h
    exact k0 x3 d rfl hx3
set_option maxHeartbeats 4000000 in
theorem ok_Mo_tally_n48 {p : Program} {l : Launch} {e : Env} {s : State} {m : MethodId} {args : Array Value} {below : List Frame} {meth : Method} {c : Code} {D : va_G} {cA : Nat → ClassId} {ad : Nat → Nat} {A : Nat → Prop} (C : Cx p s m args c prog_14_method_86_code 6 "PollBooksModel" D cA ad 1 A) {Q : State → Prop} {x : (Int × Dt)} : ∀ (n : Nat) (x1 x2 x3 x4 x5 : Int) (d : Dt), c32 x1 → c32 x2 → c32 x3 → c32 x4 → c32 x5 → lpF (fun q : Int × Int × Int × Int × Int × Dt => L_Mo_tally_y48 q.1 q.2.1 q.2.2.1 q.2.2.2.1 q.2.2.2.2.1 q.2.2.2.2.2) n (x1, x2, x3, x4, x5, d) = some x → (∀ (y0 : Int) (e' : Dt), x = (y0, e') → c32 y0 → G p l e rm_Mo_tally s m args below meth c 0 0 Q 6 D cA ad 1 A 94 [(2, 0), (9, 0), (9, 0), (0, y0), (9, 0), (9, 0)] [] e') → G p l e rm_Mo_tally s m args below meth c 0 0 Q 6 D cA ad 1 A 48 [(2, 0), (0, x1), (0, x2), (0, x3), (0, x4), (0, x5)] [] d := by
  intro n
  induction n with
  | zero => intro x1 x2 x3 x4 x5 d g0 g1 g2 g3 g4 h k0; cases h
  | succ n ih =>
    intro x1 x2 x3 x4 x5 d g0 g1 g2 g3 g4 h k0
    rcases lpF_some h with h | ⟨⟨v0_, v1_, v2_, v3_, v4_, e0_⟩, h1, h⟩
    · exact ok_Mo_tally_y48 C x1 x2 x3 x4 x5 d g0 g1 g2 g3 g4 h (fun z0_ z1_ z2_ z3_ z4_ e1_ eq w0_ w1_ w2_ w3_ w4_ => by cases eq) (fun z0_ e1_ eq w0_ => k0 _ _ (by cases eq; rfl) w0_)
    · exact ok_Mo_tally_y48 C x1 x2 x3 x4 x5 d g0 g1 g2 g3 g4 h1 (fun z0_ z1_ z2_ z3_ z4_ e1_ eq w0_ w1_ w2_ w3_ w4_ => by cases eq; exact ih _ _ _ _ _ _ w0_ w1_ w2_ w3_ w4_ h k0) (fun z0_ e1_ eq w0_ => by cases eq)
set_option maxHeartbeats 4000000 in
theorem ok_Mo_tally_l48 {p : Program} {l : Launch} {e : Env} {s : State} {m : MethodId} {args : Array Value} {below : List Frame} {meth : Method} {c : Code} {D : va_G} {cA : Nat → ClassId} {ad : Nat → Nat} {A : Nat → Prop} (C : Cx p s m args c prog_14_method_86_code 6 "PollBooksModel" D cA ad 1 A) {Q : State → Prop} {x : (Int × Dt)} (x1 x2 x3 x4 x5 : Int) (d : Dt) (hx1 : c32 x1) (hx2 : c32 x2) (hx3 : c32 x3) (hx4 : c32 x4) (hx5 : c32 x5) (h : L_Mo_tally_l48 x1 x2 x3 x4 x5 d = some x) (k0 : ∀ (y0 : Int) (e' : Dt), x = (y0, e') → c32 y0 → G p l e rm_Mo_tally s m args below meth c 0 0 Q 6 D cA ad 1 A 94 [(2, 0), (9, 0), (9, 0), (0, y0), (9, 0), (9, 0)] [] e') : G p l e rm_Mo_tally s m args below meth c 0 0 Q 6 D cA ad 1 A 48 [(2, 0), (0, x1), (0, x2), (0, x3), (0, x4), (0, x5)] [] d :=
  ok_Mo_tally_n48 C FU x1 x2 x3 x4 x5 d hx1 hx2 hx3 hx4 hx5 h k0
set_option maxHeartbeats 4000000 in
theorem ok_Mo_tally_b16 {p : Program} {l : Launch} {e : Env} {s : State} {m : MethodId} {args : Array Value} {below : List Frame} {meth : Method} {c : Code} {D : va_G} {cA : Nat → ClassId} {ad : Nat → Nat} {A : Nat → Prop} (C : Cx p s m args c prog_14_method_86_code 6 "PollBooksModel" D cA ad 1 A) (hlk : meth.locks = false) (hr : meth.sig.returnType = (some .int)) {r : Int} {d' : Dt} (d : Dt)  (h : L_Mo_tally_b16 d = some (r, d')) : G p l e rm_Mo_tally s m args below meth c 0 0 (MQ below (fun _ => QC D cA ad 1 A (some .int) (some (0, r)) d') args s 0 0 A) 6 D cA ad 1 A 16 [(2, 0), (9, 0), (9, 0), (9, 0), (9, 0), (9, 0)] [] d := by
  unfold L_Mo_tally_b16 at h
  refine g_aload_n C 0 rfl (by decide +kernel) ?_
  refine g_iconst C 1 (cK rfl) (by decide +kernel) ?_
  obtain ⟨r13_, d12_, hr14_, h⟩ := bd_some h
  refine g_callV C mw_Mo_refuse [(0, 1)] 0 cl12 rfl (ok_Mo_refuse 1 d (c32_cb (Or.inr rfl)) hr14_) cd_B0 (by decide) (nB (by decide)) (ix := 316) lk_1787 lk_1789 lkp_61 ⟨rfl, rfl, Nat.le_of_ble_eq_true rfl, Nat.le_of_ble_eq_true rfl⟩ rfl (rest := []) rfl (Nat.le_of_ble_eq_true rfl) ⟨Nat.zero_le _, Nat.zero_le _⟩ (by decide +kernel) (fun _ hc15_ => ?_)
  replace hc15_ : c32 r13_ := hc15_
  refine g_st (st2 := [(0, r13_)]) rfl ?_
  obtain ⟨rfl, rfl⟩ := ret_inj h
  exact g_iret C hc15_ hlk hr (by decide +kernel)
set_option maxHeartbeats 4000000 in
theorem ok_Mo_tally_b42 {p : Program} {l : Launch} {e : Env} {s : State} {m : MethodId} {args : Array Value} {below : List Frame} {meth : Method} {c : Code} {D : va_G} {cA : Nat → ClassId} {ad : Nat → Nat} {A : Nat → Prop} (C : Cx p s m args c prog_14_method_86_code 6 "PollBooksModel" D cA ad 1 A) (hlk : meth.locks = false) (hr : meth.sig.returnType = (some .int)) {r : Int} {d' : Dt} (x1 x2 x3 s1 : Int) (d : Dt) (hx1 : c32 x1) (hx2 : c32 x2) (hx3 : cb x3) (hs1 : c32 s1) (h : L_Mo_tally_b42 x1 x2 x3 s1 d = some (r, d')) : G p l e rm_Mo_tally s m args below meth c 0 0 (MQ below (fun _ => QC D cA ad 1 A (some .int) (some (0, r)) d') args s 0 0 A) 6 D cA ad 1 A 42 [(2, 0), (0, x1), (0, x2), (0, x3), (9, 0), (9, 0)] [(0, s1), (2, 52)] d := by
  unfold L_Mo_tally_b42 at h
  obtain ⟨hb16_, h⟩ := ck_some h
  refine g_iald C 52 hs1 rfl cd_B52 (nB (by decide)) hb16_ (by decide +kernel) (fun hc17_ => ?_)
  obtain ⟨v18_, ev19_, h⟩ := lt_some h
  refine g_val ev19_.symm ?_
  have hv20_ : c32 v18_ := by rw [ev19_]; exact hc17_
  refine s_istore C 4 (lo' := [(2, 0), (0, x1), (0, x2), (0, x3), (0, v18_), (9, 0)]) (by decide) (s1k (s1k (s1k (s1n (by decide) s1z)))) (by decide +kernel) ?_
  refine g_iconst C 0 (cK rfl) (by decide +kernel) ?_
  refine s_istore C 5 (lo' := [(2, 0), (0, x1), (0, x2), (0, x3), (0, v18_), (0, 0)]) (by decide) (s1k (s1k (s1k (s1k (s1n (by decide) s1z))))) (by decide +kernel) ?_
  refine g_sub (lo2 := [(2, 0), (0, x1), (0, x2), (0, x3), (0, v18_), (0, 0)]) (lsb_v (lsb_v (lsb_v (lsb_v (lsb_v (lsb_v lsb_e)))))) ?_
  obtain ⟨x21_, hx22_, h⟩ := lb_some h
  refine ok_Mo_tally_l48 C x1 x2 x3 v18_ 0 d hx1 hx2 (c32_cb hx3) hv20_ (c32_cb (Or.inl rfl)) hx22_ (fun v23_ d24_ eq25_ hv23_ => ?_)
  subst eq25_
  replace h := u1_e h
  refine g_aload_n C 0 rfl (by decide +kernel) ?_
  refine g_iload_n C 3 rfl (by decide +kernel) ?_
  obtain ⟨r27_, d26_, hr28_, h⟩ := bd_some h
  refine g_callV C mw_Mo_gives [(0, v23_)] 0 cl12 rfl (ok_Mo_gives v23_ d24_ hv23_ hr28_) cd_B0 (by decide) (nB (by decide)) (ix := 312) lk_1783 lk_1785 lkp_60 ⟨rfl, rfl, Nat.le_of_ble_eq_true rfl, Nat.le_of_ble_eq_true rfl⟩ rfl (rest := []) rfl (Nat.le_of_ble_eq_true rfl) ⟨Nat.zero_le _, Nat.zero_le _⟩ (by decide +kernel) (fun _ hc29_ => ?_)
  replace hc29_ : c32 r27_ := hc29_
  refine g_st (st2 := [(0, r27_)]) rfl ?_
  obtain ⟨rfl, rfl⟩ := ret_inj h
  exact g_iret C hc29_ hlk hr (by decide +kernel)
set_option maxHeartbeats 4000000 in
theorem ok_Mo_tally {l : Launch} {r : Int} {d' : Dt} (p1 p2 : Int) (d : Dt) (hp1 : c32 p1) (hp2 : c32 p2) (h : L_Mo_tally p1 p2 d = some (r, d')) : MC l y_Mo_tally prog_14_method_86_code 6 (some .int) rm_Mo_tally 1 [(2, 0), (0, p1), (0, p2)] d (some (0, r)) d' := by
  refine MC.of (by decide) (Nat.le_of_ble_eq_true rfl) ?_
  intro p e s m args below meth c D cA ad A C hlk hr
  replace C : Cx p s m args c prog_14_method_86_code 6 "PollBooksModel" D cA ad 1 A := C
  show G p l e rm_Mo_tally s m args below meth c 0 0 (MQ below (fun _ => QC D cA ad 1 A (some .int) (some (0, r)) d') args s 0 0 A) 6 D cA ad 1 A 0 [(2, 0), (0, p1), (0, p2)] [] d
  refine g_sub (lo2 := [(2, 0), (0, p1), (0, p2), (9, 0), (9, 0), (9, 0)]) (lsb_v (lsb_v (lsb_v (lsb_n (lsb_n (lsb_n lsb_e)))))) ?_
  unfold L_Mo_tally at h
  refine g_iload_n C 1 rfl (by decide +kernel) ?_
  refine g_if_lt C (off := 15) (tgt := 16) hp1 (by decide +kernel) (by decide) (fun hc31_ => ?_) (fun hc31_ => ?_)
  · replace h := ite_t hc31_ h
    refine g_sub (lo2 := [(2, 0), (9, 0), (9, 0), (9, 0), (9, 0), (9, 0)]) (lsb_v (lsb_c (lsb_c (lsb_c (lsb_c (lsb_c lsb_e)))))) ?_
    exact ok_Mo_tally_b16 C hlk hr d  h
  · replace h := ite_f hc31_ h
    refine g_iload_n C 1 rfl (by decide +kernel) ?_
    refine g_iconst C 3 (cK rfl) (by decide +kernel) ?_
    refine g_icmp_gt C (off := 10) (tgt := 16) hp1 (cK rfl) (by decide +kernel) (by decide) (fun hc32_ => ?_) (fun hc32_ => ?_)
    · replace h := ite_t hc32_ h
      refine g_sub (lo2 := [(2, 0), (9, 0), (9, 0), (9, 0), (9, 0), (9, 0)]) (lsb_v (lsb_c (lsb_c (lsb_c (lsb_c (lsb_c lsb_e)))))) ?_
      exact ok_Mo_tally_b16 C hlk hr d  h
    · replace h := ite_f hc32_ h
      refine g_iload_n C 2 rfl (by decide +kernel) ?_
      obtain ⟨r34_, d33_, hr35_, h⟩ := bd_some h
      refine g_callS C mw_Mo_isCandidate [(0, p2)] (ok_Mo_isCandidate p2 d hp2 hr35_) (ix := 550) lk_2112 lk_2113 ⟨rfl, rfl, Nat.le_of_ble_eq_true rfl, Nat.le_of_ble_eq_true rfl⟩ rfl (rest := []) rfl (Nat.le_of_ble_eq_true rfl) ⟨Nat.zero_le _, Nat.zero_le _⟩ (by decide +kernel) (fun _ hc36_ => ?_)
      replace hc36_ : cb r34_ := hc36_
      refine g_st (st2 := [(0, r34_)]) rfl ?_
      refine g_if_ne C (off := 9) (tgt := 22) (c32_cb hc36_) (by decide +kernel) (by decide) (fun hc37_ => ?_) (fun hc37_ => ?_)
      · replace h := ite_t hc37_ h
        refine g_sub (lo2 := [(2, 0), (9, 0), (9, 0), (9, 0), (9, 0), (9, 0)]) (lsb_v (lsb_c (lsb_c (lsb_c (lsb_c (lsb_c lsb_e)))))) ?_
        exact ok_Mo_tally_b16 C hlk hr d33_  h
      · replace h := ite_f hc37_ h
        refine g_aload_n C 0 rfl (by decide +kernel) ?_
        obtain ⟨r39_, d38_, hr40_, h⟩ := bd_some h
        refine g_callV C mw_Mo_joinAll [] 0 cl12 rfl (ok_Mo_joinAll  d33_  hr40_) cd_B0 (by decide) (nB (by decide)) (ix := 544) lk_2096 lk_2098 lkp_99 ⟨rfl, rfl, Nat.le_of_ble_eq_true rfl, Nat.le_of_ble_eq_true rfl⟩ rfl (rest := []) rfl (Nat.le_of_ble_eq_true rfl) ⟨Nat.zero_le _, Nat.zero_le _⟩ (by decide +kernel) (fun _ hc41_ => ?_)
        refine g_st (st2 := []) rfl ?_
        refine g_iconst C 0 (cK rfl) (by decide +kernel) ?_
        refine s_istore_n C 3 (lo' := [(2, 0), (0, p1), (0, p2), (0, 0), (9, 0), (9, 0)]) (by decide) (s1k (s1k (s1n (by decide) s1z))) (by decide +kernel) ?_
        refine g_aload_n C 0 rfl (by decide +kernel) ?_
        refine g_getR C cl12 0 72 52 rfl cd_B0 ⟨by decide, rfl, by decide⟩ rfl rfl (nB (by decide)) (ix := 176) lk_1474 (by decide +kernel) ?_
        refine g_iload_n C 1 rfl (by decide +kernel) ?_
        refine g_iconst C 3 (cK rfl) (by decide +kernel) ?_
        refine g_icmp_ne C (off := 7) (tgt := 41) hp1 (cK rfl) (by decide +kernel) (by decide) (fun hc42_ => ?_) (fun hc42_ => ?_)
        · replace h := ite_t hc42_ h
          refine g_iconst C 0 (cK rfl) (by decide +kernel) ?_
          refine g_goto C 42 (off := 4) (by decide +kernel) (by decide) ?_
          refine g_sub (lo2 := [(2, 0), (0, p1), (0, p2), (0, 0), (9, 0), (9, 0)]) (lsb_v (lsb_v (lsb_v (lsb_v (lsb_c (lsb_c lsb_e)))))) ?_
          exact ok_Mo_tally_b42 C hlk hr p1 p2 0 0 d38_ hp1 hp2 (Or.inl rfl) (c32_cb (Or.inl rfl)) h
        · replace h := ite_f hc42_ h
          refine g_iload_n C 1 rfl (by decide +kernel) ?_
          refine g_sub (lo2 := [(2, 0), (0, p1), (0, p2), (0, 0), (9, 0), (9, 0)]) (lsb_v (lsb_v (lsb_v (lsb_v (lsb_c (lsb_c lsb_e)))))) ?_
          exact ok_Mo_tally_b42 C hlk hr p1 p2 0 p1 d38_ hp1 hp2 (Or.inl rfl) hp1 h
/-! PollBooksModel.reach(I)Z -/
def y_Mo_reach : MethodName := ⟨"PollBooksModel", "reach", "(I)Z"⟩
def rm_Mo_reach : Room := { frames := 1, cells := 0, slots := 0, locals := 21 }
theorem mw_Mo_reach : MW y_Mo_reach prog_14_method_87_code 2 (some .boolean) 1 := ⟨lk_2118, lk_14, by decide +kernel⟩
def L_Mo_reach_b10 (d : Dt) : Option (Int × Dt) :=
  bd (L_Mo_is 1 d) (fun r2_ d1_ => some (r2_, d1_))
def L_Mo_reach (p1 : Int) (d : Dt) : Option (Int × Dt) :=
  if p1 < 0 then L_Mo_reach_b10 d else if 30 < p1 then L_Mo_reach_b10 d else bd (L_Mo_is 0 (up2 d 0 79 p1)) (fun r8_ d7_ => some (r8_, d7_))
set_option maxHeartbeats 4000000 in
theorem ok_Mo_reach_b10 {p : Program} {l : Launch} {e : Env} {s : State} {m : MethodId} {args : Array Value} {below : List Frame} {meth : Method} {c : Code} {D : va_G} {cA : Nat → ClassId} {ad : Nat → Nat} {A : Nat → Prop} (C : Cx p s m args c prog_14_method_87_code 2 "PollBooksModel" D cA ad 1 A) (hlk : meth.locks = false) (hr : meth.sig.returnType = (some .boolean)) {r : Int} {d' : Dt} (d : Dt)  (h : L_Mo_reach_b10 d = some (r, d')) : G p l e rm_Mo_reach s m args below meth c 0 0 (MQ below (fun _ => QC D cA ad 1 A (some .boolean) (some (0, r)) d') args s 0 0 A) 2 D cA ad 1 A 10 [(2, 0), (9, 0)] [] d := by
  unfold L_Mo_reach_b10 at h
  refine g_aload_n C 0 rfl (by decide +kernel) ?_
  refine g_iconst C 1 (cK rfl) (by decide +kernel) ?_
  obtain ⟨r2_, d1_, hr3_, h⟩ := bd_some h
  refine g_callV C mw_Mo_is [(0, 1)] 0 cl12 rfl (ok_Mo_is 1 d (c32_cb (Or.inr rfl)) hr3_) cd_B0 (by decide) (nB (by decide)) (ix := 276) lk_1741 lk_1743 lkp_57 ⟨rfl, rfl, Nat.le_of_ble_eq_true rfl, Nat.le_of_ble_eq_true rfl⟩ rfl (rest := []) rfl (Nat.le_of_ble_eq_true rfl) ⟨Nat.zero_le _, Nat.zero_le _⟩ (by decide +kernel) (fun _ hc4_ => ?_)
  replace hc4_ : cb r2_ := hc4_
  refine g_st (st2 := [(0, r2_)]) rfl ?_
  obtain ⟨rfl, rfl⟩ := ret_inj h
  exact g_zret C hc4_ hlk hr (by decide +kernel)
set_option maxHeartbeats 4000000 in
theorem ok_Mo_reach {l : Launch} {r : Int} {d' : Dt} (p1 : Int) (d : Dt) (hp1 : c32 p1) (h : L_Mo_reach p1 d = some (r, d')) : MC l y_Mo_reach prog_14_method_87_code 2 (some .boolean) rm_Mo_reach 1 [(2, 0), (0, p1)] d (some (0, r)) d' := by
  refine MC.of (by decide) (Nat.le_of_ble_eq_true rfl) ?_
  intro p e s m args below meth c D cA ad A C hlk hr
  replace C : Cx p s m args c prog_14_method_87_code 2 "PollBooksModel" D cA ad 1 A := C
  show G p l e rm_Mo_reach s m args below meth c 0 0 (MQ below (fun _ => QC D cA ad 1 A (some .boolean) (some (0, r)) d') args s 0 0 A) 2 D cA ad 1 A 0 [(2, 0), (0, p1)] [] d
  refine g_sub (lo2 := [(2, 0), (0, p1)]) (lsb_v (lsb_v lsb_e)) ?_
  unfold L_Mo_reach at h
  refine g_iload_n C 1 rfl (by decide +kernel) ?_
  refine g_if_lt C (off := 9) (tgt := 10) hp1 (by decide +kernel) (by decide) (fun hc5_ => ?_) (fun hc5_ => ?_)
  · replace h := ite_t hc5_ h
    refine g_sub (lo2 := [(2, 0), (9, 0)]) (lsb_v (lsb_c lsb_e)) ?_
    exact ok_Mo_reach_b10 C hlk hr d  h
  · replace h := ite_f hc5_ h
    refine g_iload_n C 1 rfl (by decide +kernel) ?_
    refine g_bipush C 30 (by decide) (by decide +kernel) ?_
    refine g_icmp_le C (off := 9) (tgt := 16) hp1 (cK rfl) (by decide +kernel) (by decide) (fun hc6_ => ?_) (fun hc6_ => ?_)
    · replace h := ite_t hc6_ h
      refine g_sub (lo2 := [(2, 0), (9, 0)]) (lsb_v (lsb_c lsb_e)) ?_
      exact ok_Mo_reach_b10 C hlk hr d  h
    · replace h := ite_f hc6_ h
      refine g_aload_n C 0 rfl (by decide +kernel) ?_
      refine g_iload_n C 1 rfl (by decide +kernel) ?_
      refine g_putI C cl12 0 79 hp1 rfl cd_B0 ⟨by decide, rfl, by decide⟩ rfl (nB (by decide)) (ix := 197) lk_1481 rfl rfl (by decide +kernel) ?_
      refine g_aload_n C 0 rfl (by decide +kernel) ?_
      refine g_iconst C 0 (cK rfl) (by decide +kernel) ?_
      obtain ⟨r8_, d7_, hr9_, h⟩ := bd_some h
      refine g_callV C mw_Mo_is [(0, 0)] 0 cl12 rfl (ok_Mo_is 0 (up2 d 0 79 p1) (c32_cb (Or.inl rfl)) hr9_) cd_B0 (by decide) (nB (by decide)) (ix := 276) lk_1741 lk_1743 lkp_57 ⟨rfl, rfl, Nat.le_of_ble_eq_true rfl, Nat.le_of_ble_eq_true rfl⟩ rfl (rest := []) rfl (Nat.le_of_ble_eq_true rfl) ⟨Nat.zero_le _, Nat.zero_le _⟩ (by decide +kernel) (fun _ hc10_ => ?_)
      replace hc10_ : cb r8_ := hc10_
      refine g_st (st2 := [(0, r8_)]) rfl ?_
      obtain ⟨rfl, rfl⟩ := ret_inj h
      exact g_zret C hc10_ hlk hr (by decide +kernel)
/-! PollBooksModel.whoIs(I)I -/
def y_Mo_whoIs : MethodName := ⟨"PollBooksModel", "whoIs", "(I)I"⟩
def rm_Mo_whoIs : Room := { frames := 2, cells := 0, slots := 0, locals := 56 }
theorem mw_Mo_whoIs : MW y_Mo_whoIs prog_14_method_88_code 6 (some .int) 1 := ⟨lk_2126, lk_14, by decide +kernel⟩
def L_Mo_whoIs_b121 (x1 x2 x3 x4 : Int) (d : Dt) : Option ((Int × Int × Int × Int × Dt) ⊕ ((Int × Dt))) :=
  some (Sum.inl (x1, x2, x3, (w32 (x4 + 1)), d))
def L_Mo_whoIs_b118 (x1 x2 x4 x5 : Int) (d : Dt) : Option ((Int × Int × Int × Int × Dt) ⊕ ((Int × Dt))) :=
  L_Mo_whoIs_b121 x1 x2 x5 x4 d
def L_Mo_whoIs_b106 (x1 x2 x3 x4 x5 s1 : Int) (d : Dt) : Option ((Int × Int × Int × Int × Dt) ⊕ ((Int × Dt))) :=
  if x5 < x3 then L_Mo_whoIs_b118 x1 x4 x4 x5 (up2 d 0 80 s1) else L_Mo_whoIs_b118 x1 x2 x4 x5 (up2 d 0 80 s1)
def L_Mo_whoIs_b73 (x1 x2 x3 x4 s0 s1 : Int) (d : Dt) : Option ((Int × Int × Int × Int × Dt) ⊕ ((Int × Dt))) :=
  lt_ (w32 (s0 + s1)) (fun v2_ => if (d 0 79) < v2_ then L_Mo_whoIs_b121 x1 x2 x3 x4 d else if x3 < v2_ then L_Mo_whoIs_b121 x1 x2 x3 x4 d else if v2_ < x3 then L_Mo_whoIs_b106 x1 x2 x3 x4 v2_ 1 d else L_Mo_whoIs_b106 x1 x2 x3 x4 v2_ 0 d)
def L_Mo_whoIs_y14 (x1 x2 x3 x4 : Int) (d : Dt) : Option ((Int × Int × Int × Int × Dt) ⊕ ((Int × Dt))) :=
  if x4 < (d 0 7) then ck ((0 : Int) ≤ x1 ∧ x1 < 90) (ck ((0 : Int) ≤ x4 ∧ x4 < 40) (bd (L_Mo_farOf (d 57 x1.toNat) (d 7 x4.toNat) d) (fun r16_ d15_ => ck ((0 : Int) ≤ x1 ∧ x1 < 90) (if (d15_ 53 x1.toNat) = (-1) then L_Mo_whoIs_b73 x1 x2 x3 x4 (w32 (3 * r16_)) 0 d15_ else ck ((0 : Int) ≤ x1 ∧ x1 < 90) (ck ((0 : Int) ≤ x4 ∧ x4 < 40) (if (d15_ 53 x1.toNat) = (d15_ 8 x4.toNat) then L_Mo_whoIs_b73 x1 x2 x3 x4 (w32 (3 * r16_)) 0 d15_ else L_Mo_whoIs_b73 x1 x2 x3 x4 (w32 (3 * r16_)) 2 d15_)))))) else some (Sum.inr (x2, d))
def L_Mo_whoIs_l14 (x1 x2 x3 x4 : Int) (d : Dt) : Option ((Int × Dt)) := lpF (fun q : Int × Int × Int × Int × Dt => L_Mo_whoIs_y14 q.1 q.2.1 q.2.2.1 q.2.2.2.1 q.2.2.2.2) FU (x1, x2, x3, x4, d)
def L_Mo_whoIs (p1 : Int) (d : Dt) : Option (Int × Dt) :=
  lb (L_Mo_whoIs_l14 p1 (-1) 100000000 0 (up2 d 0 80 1)) (fun q32_ => u1 q32_ (fun v29_ d30_ => some (v29_, d30_)))
set_option maxHeartbeats 4000000 in
theorem ok_Mo_whoIs_b121 {p : Program} {l : Launch} {e : Env} {s : State} {m : MethodId} {args : Array Value} {below : List Frame} {meth : Method} {c : Code} {D : va_G} {cA : Nat → ClassId} {ad : Nat → Nat} {A : Nat → Prop} (C : Cx p s m args c prog_14_method_88_code 6 "PollBooksModel" D cA ad 1 A) {Q : State → Prop} {o : (Int × Int × Int × Int × Dt) ⊕ ((Int × Dt))} (x1 x2 x3 x4 : Int) (d : Dt) (hx1 : c32 x1) (hx2 : c32 x2) (hx3 : c32 x3) (hx4 : c32 x4) (h : L_Mo_whoIs_b121 x1 x2 x3 x4 d = some o) (kb : ∀ (y0 y1 y2 y3 : Int) (e' : Dt), o = .inl (y0, y1, y2, y3, e') → c32 y0 → c32 y1 → c32 y2 → c32 y3 → G p l e rm_Mo_whoIs s m args below meth c 0 0 Q 6 D cA ad 1 A 14 [(2, 0), (0, y0), (0, y1), (0, y2), (0, y3), (9, 0)] [] e') (k0 : ∀ (y0 : Int) (e' : Dt), o = .inr (y0, e') → c32 y0 → G p l e rm_Mo_whoIs s m args below meth c 0 0 Q 6 D cA ad 1 A 127 [(9, 0), (9, 0), (0, y0), (9, 0), (9, 0), (9, 0)] [] e') : G p l e rm_Mo_whoIs s m args below meth c 0 0 Q 6 D cA ad 1 A 121 [(2, 0), (0, x1), (0, x2), (0, x3), (0, x4), (9, 0)] [] d := by
  unfold L_Mo_whoIs_b121 at h
  refine s_iinc C 4 1 (lo' := [(2, 0), (0, x1), (0, x2), (0, x3), (0, (w32 (x4 + 1))), (9, 0)]) rfl (by decide) (s1k (s1k (s1k (s1n (by decide) s1z)))) (by decide +kernel) ?_
  refine g_goto C 14 (off := (-110)) (by decide +kernel) (by decide) ?_
  refine g_sub (lo2 := [(2, 0), (0, x1), (0, x2), (0, x3), (0, (w32 (x4 + 1))), (9, 0)]) (lsb_v (lsb_v (lsb_v (lsb_v (lsb_v (lsb_c lsb_e)))))) ?_
  obtain rfl := Option.some.inj h
  exact kb x1 x2 x3 (w32 (x4 + 1)) d rfl hx1 hx2 hx3 (w32_c _)
set_option maxHeartbeats 4000000 in
theorem ok_Mo_whoIs_b118 {p : Program} {l : Launch} {e : Env} {s : State} {m : MethodId} {args : Array Value} {below : List Frame} {meth : Method} {c : Code} {D : va_G} {cA : Nat → ClassId} {ad : Nat → Nat} {A : Nat → Prop} (C : Cx p s m args c prog_14_method_88_code 6 "PollBooksModel" D cA ad 1 A) {Q : State → Prop} {o : (Int × Int × Int × Int × Dt) ⊕ ((Int × Dt))} (x1 x2 x4 x5 : Int) (d : Dt) (hx1 : c32 x1) (hx2 : c32 x2) (hx4 : c32 x4) (hx5 : c32 x5) (h : L_Mo_whoIs_b118 x1 x2 x4 x5 d = some o) (kb : ∀ (y0 y1 y2 y3 : Int) (e' : Dt), o = .inl (y0, y1, y2, y3, e') → c32 y0 → c32 y1 → c32 y2 → c32 y3 → G p l e rm_Mo_whoIs s m args below meth c 0 0 Q 6 D cA ad 1 A 14 [(2, 0), (0, y0), (0, y1), (0, y2), (0, y3), (9, 0)] [] e') (k0 : ∀ (y0 : Int) (e' : Dt), o = .inr (y0, e') → c32 y0 → G p l e rm_Mo_whoIs s m args below meth c 0 0 Q 6 D cA ad 1 A 127 [(9, 0), (9, 0), (0, y0), (9, 0), (9, 0), (9, 0)] [] e') : G p l e rm_Mo_whoIs s m args below meth c 0 0 Q 6 D cA ad 1 A 118 [(2, 0), (0, x1), (0, x2), (9, 0), (0, x4), (0, x5)] [] d := by
  unfold L_Mo_whoIs_b118 at h
  refine g_iload C 5 rfl (by decide +kernel) ?_
  refine s_istore_n C 3 (lo' := [(2, 0), (0, x1), (0, x2), (0, x5), (0, x4), (0, x5)]) (by decide) (s1k (s1k (s1n (by decide) s1z))) (by decide +kernel) ?_
  refine g_sub (lo2 := [(2, 0), (0, x1), (0, x2), (0, x5), (0, x4), (9, 0)]) (lsb_v (lsb_v (lsb_v (lsb_v (lsb_v (lsb_c lsb_e)))))) ?_
  exact ok_Mo_whoIs_b121 C x1 x2 x5 x4 d hx1 hx2 hx5 hx4 h kb k0
set_option maxHeartbeats 4000000 in
theorem ok_Mo_whoIs_b106 {p : Program} {l : Launch} {e : Env} {s : State} {m : MethodId} {args : Array Value} {below : List Frame} {meth : Method} {c : Code} {D : va_G} {cA : Nat → ClassId} {ad : Nat → Nat} {A : Nat → Prop} (C : Cx p s m args c prog_14_method_88_code 6 "PollBooksModel" D cA ad 1 A) {Q : State → Prop} {o : (Int × Int × Int × Int × Dt) ⊕ ((Int × Dt))} (x1 x2 x3 x4 x5 s1 : Int) (d : Dt) (hx1 : c32 x1) (hx2 : c32 x2) (hx3 : c32 x3) (hx4 : c32 x4) (hx5 : c32 x5) (hs1 : cb s1) (h : L_Mo_whoIs_b106 x1 x2 x3 x4 x5 s1 d = some o) (kb : ∀ (y0 y1 y2 y3 : Int) (e' : Dt), o = .inl (y0, y1, y2, y3, e') → c32 y0 → c32 y1 → c32 y2 → c32 y3 → G p l e rm_Mo_whoIs s m args below meth c 0 0 Q 6 D cA ad 1 A 14 [(2, 0), (0, y0), (0, y1), (0, y2), (0, y3), (9, 0)] [] e') (k0 : ∀ (y0 : Int) (e' : Dt), o = .inr (y0, e') → c32 y0 → G p l e rm_Mo_whoIs s m args below meth c 0 0 Q 6 D cA ad 1 A 127 [(9, 0), (9, 0), (0, y0), (9, 0), (9, 0), (9, 0)] [] e') : G p l e rm_Mo_whoIs s m args below meth c 0 0 Q 6 D cA ad 1 A 106 [(2, 0), (0, x1), (0, x2), (0, x3), (0, x4), (0, x5)] [(0, s1), (2, 0)] d := by
  unfold L_Mo_whoIs_b106 at h
  refine g_putZ C cl12 0 80 hs1 rfl cd_B0 ⟨by decide, rfl, by decide⟩ rfl (nB (by decide)) (ix := 554) lk_1482 rfl rfl (by decide +kernel) ?_
  refine g_iload C 5 rfl (by decide +kernel) ?_
  refine g_iload_n C 3 rfl (by decide +kernel) ?_
  refine g_icmp_ge C (off := 6) (tgt := 118) hx5 hx3 (by decide +kernel) (by decide) (fun hc1_ => ?_) (fun hc1_ => ?_)
  · replace h := ite_t hc1_ h
    refine g_iload C 4 rfl (by decide +kernel) ?_
    refine s_istore_n C 2 (lo' := [(2, 0), (0, x1), (0, x4), (0, x3), (0, x4), (0, x5)]) (by decide) (s1k (s1n (by decide) s1z)) (by decide +kernel) ?_
    refine g_sub (lo2 := [(2, 0), (0, x1), (0, x4), (9, 0), (0, x4), (0, x5)]) (lsb_v (lsb_v (lsb_v (lsb_c (lsb_v (lsb_v lsb_e)))))) ?_
    exact ok_Mo_whoIs_b118 C x1 x4 x4 x5 (up2 d 0 80 s1) hx1 hx4 hx4 hx5 h kb k0
  · replace h := ite_f hc1_ h
    refine g_sub (lo2 := [(2, 0), (0, x1), (0, x2), (9, 0), (0, x4), (0, x5)]) (lsb_v (lsb_v (lsb_v (lsb_c (lsb_v (lsb_v lsb_e)))))) ?_
    exact ok_Mo_whoIs_b118 C x1 x2 x4 x5 (up2 d 0 80 s1) hx1 hx2 hx4 hx5 h kb k0
set_option maxHeartbeats 4000000 in
theorem ok_Mo_whoIs_b73 {p : Program} {l : Launch} {e : Env} {s : State} {m : MethodId} {args : Array Value} {below : List Frame} {meth : Method} {c : Code} {D : va_G} {cA : Nat → ClassId} {ad : Nat → Nat} {A : Nat → Prop} (C : Cx p s m args c prog_14_method_88_code 6 "PollBooksModel" D cA ad 1 A) {Q : State → Prop} {o : (Int × Int × Int × Int × Dt) ⊕ ((Int × Dt))} (x1 x2 x3 x4 s0 s1 : Int) (d : Dt) (hx1 : c32 x1) (hx2 : c32 x2) (hx3 : c32 x3) (hx4 : c32 x4) (hs0 : c32 s0) (hs1 : c32 s1) (h : L_Mo_whoIs_b73 x1 x2 x3 x4 s0 s1 d = some o) (kb : ∀ (y0 y1 y2 y3 : Int) (e' : Dt), o = .inl (y0, y1, y2, y3, e') → c32 y0 → c32 y1 → c32 y2 → c32 y3 → G p l e rm_Mo_whoIs s m args below meth c 0 0 Q 6 D cA ad 1 A 14 [(2, 0), (0, y0), (0, y1), (0, y2), (0, y3), (9, 0)] [] e') (k0 : ∀ (y0 : Int) (e' : Dt), o = .inr (y0, e') → c32 y0 → G p l e rm_Mo_whoIs s m args below meth c 0 0 Q 6 D cA ad 1 A 127 [(9, 0), (9, 0), (0, y0), (9, 0), (9, 0), (9, 0)] [] e') : G p l e rm_Mo_whoIs s m args below meth c 0 0 Q 6 D cA ad 1 A 73 [(2, 0), (0, x1), (0, x2), (0, x3), (0, x4), (9, 0)] [(0, s1), (0, s0)] d := by
  unfold L_Mo_whoIs_b73 at h
  refine g_iadd C (by decide +kernel) ?_
  obtain ⟨v2_, ev3_, h⟩ := lt_some h
  refine g_val ev3_.symm ?_
  have hv4_ : c32 v2_ := by rw [ev3_]; exact (w32_c _)
  refine s_istore C 5 (lo' := [(2, 0), (0, x1), (0, x2), (0, x3), (0, x4), (0, v2_)]) (by decide) (s1k (s1k (s1k (s1k (s1n (by decide) s1z))))) (by decide +kernel) ?_
  refine g_iload C 5 rfl (by decide +kernel) ?_
  refine g_aload_n C 0 rfl (by decide +kernel) ?_
  refine g_getI C cl12 0 79 rfl cd_B0 ⟨by decide, rfl, by decide⟩ rfl (nB (by decide)) (ix := 197) lk_1481 (by decide +kernel) (fun hc5_ => ?_)
  refine g_icmp_gt C (off := 39) (tgt := 121) hv4_ hc5_ (by decide +kernel) (by decide) (fun hc6_ => ?_) (fun hc6_ => ?_)
  · replace h := ite_t hc6_ h
    refine g_sub (lo2 := [(2, 0), (0, x1), (0, x2), (0, x3), (0, x4), (9, 0)]) (lsb_v (lsb_v (lsb_v (lsb_v (lsb_v (lsb_c lsb_e)))))) ?_
    exact ok_Mo_whoIs_b121 C x1 x2 x3 x4 d hx1 hx2 hx3 hx4 h kb k0
  · replace h := ite_f hc6_ h
    refine g_iload C 5 rfl (by decide +kernel) ?_
    refine g_iload_n C 3 rfl (by decide +kernel) ?_
    refine g_icmp_le C (off := 6) (tgt := 94) hv4_ hx3 (by decide +kernel) (by decide) (fun hc7_ => ?_) (fun hc7_ => ?_)
    · replace h := ite_t hc7_ h
      refine g_goto C 121 (off := 30) (by decide +kernel) (by decide) ?_
      refine g_sub (lo2 := [(2, 0), (0, x1), (0, x2), (0, x3), (0, x4), (9, 0)]) (lsb_v (lsb_v (lsb_v (lsb_v (lsb_v (lsb_c lsb_e)))))) ?_
      exact ok_Mo_whoIs_b121 C x1 x2 x3 x4 d hx1 hx2 hx3 hx4 h kb k0
    · replace h := ite_f hc7_ h
      refine g_aload_n C 0 rfl (by decide +kernel) ?_
      refine g_iload C 5 rfl (by decide +kernel) ?_
      refine g_iload_n C 3 rfl (by decide +kernel) ?_
      refine g_icmp_ge C (off := 7) (tgt := 105) hv4_ hx3 (by decide +kernel) (by decide) (fun hc8_ => ?_) (fun hc8_ => ?_)
      · replace h := ite_t hc8_ h
        refine g_iconst C 1 (cK rfl) (by decide +kernel) ?_
        refine g_goto C 106 (off := 4) (by decide +kernel) (by decide) ?_
        refine g_sub (lo2 := [(2, 0), (0, x1), (0, x2), (0, x3), (0, x4), (0, v2_)]) (lsb_v (lsb_v (lsb_v (lsb_v (lsb_v (lsb_v lsb_e)))))) ?_
        exact ok_Mo_whoIs_b106 C x1 x2 x3 x4 v2_ 1 d hx1 hx2 hx3 hx4 hv4_ (Or.inr rfl) h kb k0
      · replace h := ite_f hc8_ h
        refine g_iconst C 0 (cK rfl) (by decide +kernel) ?_
        refine g_sub (lo2 := [(2, 0), (0, x1), (0, x2), (0, x3), (0, x4), (0, v2_)]) (lsb_v (lsb_v (lsb_v (lsb_v (lsb_v (lsb_v lsb_e)))))) ?_
        exact ok_Mo_whoIs_b106 C x1 x2 x3 x4 v2_ 0 d hx1 hx2 hx3 hx4 hv4_ (Or.inl rfl) h kb k0
set_option maxHeartbeats 4000000 in
theorem ok_Mo_whoIs_y14 {p : Program} {l : Launch} {e : Env} {s : State} {m : MethodId} {args : Array Value} {below : List Frame} {meth : Method} {c : Code} {D : va_G} {cA : Nat → ClassId} {ad : Nat → Nat} {A : Nat → Prop} (C : Cx p s m args c prog_14_method_88_code 6 "PollBooksModel" D cA ad 1 A) {Q : State → Prop} {o : (Int × Int × Int × Int × Dt) ⊕ ((Int × Dt))} (x1 x2 x3 x4 : Int) (d : Dt) (hx1 : c32 x1) (hx2 : c32 x2) (hx3 : c32 x3) (hx4 : c32 x4) (h : L_Mo_whoIs_y14 x1 x2 x3 x4 d = some o) (kb : ∀ (y0 y1 y2 y3 : Int) (e' : Dt), o = .inl (y0, y1, y2, y3, e') → c32 y0 → c32 y1 → c32 y2 → c32 y3 → G p l e rm_Mo_whoIs s m args below meth c 0 0 Q 6 D cA ad 1 A 14 [(2, 0), (0, y0), (0, y1), (0, y2), (0, y3), (9, 0)] [] e') (k0 : ∀ (y0 : Int) (e' : Dt), o = .inr (y0, e') → c32 y0 → G p l e rm_Mo_whoIs s m args below meth c 0 0 Q 6 D cA ad 1 A 127 [(9, 0), (9, 0), (0, y0), (9, 0), (9, 0), (9, 0)] [] e') : G p l e rm_Mo_whoIs s m args below meth c 0 0 Q 6 D cA ad 1 A 14 [(2, 0), (0, x1), (0, x2), (0, x3), (0, x4), (9, 0)] [] d := by
  unfold L_Mo_whoIs_y14 at h
  refine g_iload C 4 rfl (by decide +kernel) ?_
  refine g_aload_n C 0 rfl (by decide +kernel) ?_
  refine g_getI C cl12 0 7 rfl cd_B0 ⟨by decide, rfl, by decide⟩ rfl (nB (by decide)) (ix := 319) lk_1409 (by decide +kernel) (fun hc9_ => ?_)
  refine g_icmp_ge C (off := 107) (tgt := 127) hx4 hc9_ (by decide +kernel) (by decide) (fun hc10_ => ?_) (fun hc10_ => ?_)
  · replace h := ite_t hc10_ h
    refine g_iconst C 3 (cK rfl) (by decide +kernel) ?_
    refine g_aload_n C 0 rfl (by decide +kernel) ?_
    refine g_aload_n C 0 rfl (by decide +kernel) ?_
    refine g_getR C cl12 0 77 57 rfl cd_B0 ⟨by decide, rfl, by decide⟩ rfl rfl (nB (by decide)) (ix := 191) lk_1479 (by decide +kernel) ?_
    refine g_iload_n C 1 rfl (by decide +kernel) ?_
    obtain ⟨hb11_, h⟩ := ck_some h
    refine g_lald C 57 hx1 rfl cd_B57 (nB (by decide)) hb11_ (by decide +kernel) (fun hc12_ => ?_)
    refine g_aload_n C 0 rfl (by decide +kernel) ?_
    refine g_getR C cl12 0 13 7 rfl cd_B0 ⟨by decide, rfl, by decide⟩ rfl rfl (nB (by decide)) (ix := 33) lk_1415 (by decide +kernel) ?_
    refine g_iload C 4 rfl (by decide +kernel) ?_
    obtain ⟨hb13_, h⟩ := ck_some h
    refine g_lald C 7 hx4 rfl cd_B7 (nB (by decide)) hb13_ (by decide +kernel) (fun hc14_ => ?_)
    obtain ⟨r16_, d15_, hr17_, h⟩ := bd_some h
    refine g_callV C mw_Mo_farOf [(1, (d 57 x1.toNat)), (1, (d 7 x4.toNat))] 0 cl12 rfl (ok_Mo_farOf (d 57 x1.toNat) (d 7 x4.toNat) d hc12_ hc14_ hr17_) cd_B0 (by decide) (nB (by decide)) (ix := 308) lk_1775 lk_1777 lkp_59 ⟨rfl, rfl, Nat.le_of_ble_eq_true rfl, Nat.le_of_ble_eq_true rfl⟩ rfl (rest := [(0, 3)]) rfl (Nat.le_of_ble_eq_true rfl) ⟨Nat.zero_le _, Nat.zero_le _⟩ (by decide +kernel) (fun _ hc18_ => ?_)
    replace hc18_ : c32 r16_ := hc18_
    refine g_st (st2 := [(0, r16_), (0, 3)]) rfl ?_
    refine g_imul C (by decide +kernel) ?_
    refine g_aload_n C 0 rfl (by decide +kernel) ?_
    refine g_getR C cl12 0 73 53 rfl cd_B0 ⟨by decide, rfl, by decide⟩ rfl rfl (nB (by decide)) (ix := 179) lk_1475 (by decide +kernel) ?_
    refine g_iload_n C 1 rfl (by decide +kernel) ?_
    obtain ⟨hb19_, h⟩ := ck_some h
    refine g_iald C 53 hx1 rfl cd_B53 (nB (by decide)) hb19_ (by decide +kernel) (fun hc20_ => ?_)
    refine g_iconst C (-1) (cK rfl) (by decide +kernel) ?_
    refine g_icmp_eq C (off := 23) (tgt := 72) hc20_ (cK rfl) (by decide +kernel) (by decide) (fun hc21_ => ?_) (fun hc21_ => ?_)
    · replace h := ite_t hc21_ h
      refine g_iconst C 0 (cK rfl) (by decide +kernel) ?_
      refine g_sub (lo2 := [(2, 0), (0, x1), (0, x2), (0, x3), (0, x4), (9, 0)]) (lsb_v (lsb_v (lsb_v (lsb_v (lsb_v (lsb_c lsb_e)))))) ?_
      exact ok_Mo_whoIs_b73 C x1 x2 x3 x4 (w32 (3 * r16_)) 0 d15_ hx1 hx2 hx3 hx4 (w32_c _) (c32_cb (Or.inl rfl)) h kb k0
    · replace h := ite_f hc21_ h
      refine g_aload_n C 0 rfl (by decide +kernel) ?_
      refine g_getR C cl12 0 73 53 rfl cd_B0 ⟨by decide, rfl, by decide⟩ rfl rfl (nB (by decide)) (ix := 179) lk_1475 (by decide +kernel) ?_
      refine g_iload_n C 1 rfl (by decide +kernel) ?_
      obtain ⟨hb22_, h⟩ := ck_some h
      refine g_iald C 53 hx1 rfl cd_B53 (nB (by decide)) hb22_ (by decide +kernel) (fun hc23_ => ?_)
      refine g_aload_n C 0 rfl (by decide +kernel) ?_
      refine g_getR C cl12 0 14 8 rfl cd_B0 ⟨by decide, rfl, by decide⟩ rfl rfl (nB (by decide)) (ix := 36) lk_1416 (by decide +kernel) ?_
      refine g_iload C 4 rfl (by decide +kernel) ?_
      obtain ⟨hb24_, h⟩ := ck_some h
      refine g_iald C 8 hx4 rfl cd_B8 (nB (by decide)) hb24_ (by decide +kernel) (fun hc25_ => ?_)
      refine g_icmp_eq C (off := 7) (tgt := 72) hc23_ hc25_ (by decide +kernel) (by decide) (fun hc26_ => ?_) (fun hc26_ => ?_)
      · replace h := ite_t hc26_ h
        refine g_iconst C 0 (cK rfl) (by decide +kernel) ?_
        refine g_sub (lo2 := [(2, 0), (0, x1), (0, x2), (0, x3), (0, x4), (9, 0)]) (lsb_v (lsb_v (lsb_v (lsb_v (lsb_v (lsb_c lsb_e)))))) ?_
        exact ok_Mo_whoIs_b73 C x1 x2 x3 x4 (w32 (3 * r16_)) 0 d15_ hx1 hx2 hx3 hx4 (w32_c _) (c32_cb (Or.inl rfl)) h kb k0
      · replace h := ite_f hc26_ h
        refine g_iconst C 2 (cK rfl) (by decide +kernel) ?_
        refine g_goto C 73 (off := 4) (by decide +kernel) (by decide) ?_
        refine g_sub (lo2 := [(2, 0), (0, x1), (0, x2), (0, x3), (0, x4), (9, 0)]) (lsb_v (lsb_v (lsb_v (lsb_v (lsb_v (lsb_c lsb_e)))))) ?_
        exact ok_Mo_whoIs_b73 C x1 x2 x3 x4 (w32 (3 * r16_)) 2 d15_ hx1 hx2 hx3 hx4 (w32_c _) (cK rfl) h kb k0
  · replace h := ite_f hc10_ h
    refine g_sub (lo2 := [(9, 0), (9, 0), (0, x2), (9, 0), (9, 0), (9, 0)]) (lsb_c (lsb_c (lsb_v (lsb_c (lsb_c (lsb_c lsb_e)))))) ?_
    obtain rfl := Option.some.inj h
    exact k0 x2 d rfl hx2
set_option maxHeartbeats 4000000 in
theorem ok_Mo_whoIs_n14 {p : Program} {l : Launch} {e : Env} {s : State} {m : MethodId} {args : Array Value} {below : List Frame} {meth : Method} {c : Code} {D : va_G} {cA : Nat → ClassId} {ad : Nat → Nat} {A : Nat → Prop} (C : Cx p s m args c prog_14_method_88_code 6 "PollBooksModel" D cA ad 1 A) {Q : State → Prop} {x : (Int × Dt)} : ∀ (n : Nat) (x1 x2 x3 x4 : Int) (d : Dt), c32 x1 → c32 x2 → c32 x3 → c32 x4 → lpF (fun q : Int × Int × Int × Int × Dt => L_Mo_whoIs_y14 q.1 q.2.1 q.2.2.1 q.2.2.2.1 q.2.2.2.2) n (x1, x2, x3, x4, d) = some x → (∀ (y0 : Int) (e' : Dt), x = (y0, e') → c32 y0 → G p l e rm_Mo_whoIs s m args below meth c 0 0 Q 6 D cA ad 1 A 127 [(9, 0), (9, 0), (0, y0), (9, 0), (9, 0), (9, 0)] [] e') → G p l e rm_Mo_whoIs s m args below meth c 0 0 Q 6 D cA ad 1 A 14 [(2, 0), (0, x1), (0, x2), (0, x3), (0, x4), (9, 0)] [] d := by
  intro n
  induction n with
  | zero => intro x1 x2 x3 x4 d g0 g1 g2 g3 h k0; cases h
  | succ n ih =>
    intro x1 x2 x3 x4 d g0 g1 g2 g3 h k0
    rcases lpF_some h with h | ⟨⟨v0_, v1_, v2_, v3_, e0_⟩, h1, h⟩
    · exact ok_Mo_whoIs_y14 C x1 x2 x3 x4 d g0 g1 g2 g3 h (fun z0_ z1_ z2_ z3_ e1_ eq w0_ w1_ w2_ w3_ => by cases eq) (fun z0_ e1_ eq w0_ => k0 _ _ (by cases eq; rfl) w0_)
    · exact ok_Mo_whoIs_y14 C x1 x2 x3 x4 d g0 g1 g2 g3 h1 (fun z0_ z1_ z2_ z3_ e1_ eq w0_ w1_ w2_ w3_ => by cases eq; exact ih _ _ _ _ _ w0_ w1_ w2_ w3_ h k0) (fun z0_ e1_ eq w0_ => by cases eq)
set_option maxHeartbeats 4000000 in
theorem ok_Mo_whoIs_l14 {p : Program} {l : Launch} {e : Env} {s : State} {m : MethodId} {args : Array Value} {below : List Frame} {meth : Method} {c : Code} {D : va_G} {cA : Nat → ClassId} {ad : Nat → Nat} {A : Nat → Prop} (C : Cx p s m args c prog_14_method_88_code 6 "PollBooksModel" D cA ad 1 A) {Q : State → Prop} {x : (Int × Dt)} (x1 x2 x3 x4 : Int) (d : Dt) (hx1 : c32 x1) (hx2 : c32 x2) (hx3 : c32 x3) (hx4 : c32 x4) (h : L_Mo_whoIs_l14 x1 x2 x3 x4 d = some x) (k0 : ∀ (y0 : Int) (e' : Dt), x = (y0, e') → c32 y0 → G p l e rm_Mo_whoIs s m args below meth c 0 0 Q 6 D cA ad 1 A 127 [(9, 0), (9, 0), (0, y0), (9, 0), (9, 0), (9, 0)] [] e') : G p l e rm_Mo_whoIs s m args below meth c 0 0 Q 6 D cA ad 1 A 14 [(2, 0), (0, x1), (0, x2), (0, x3), (0, x4), (9, 0)] [] d :=
  ok_Mo_whoIs_n14 C FU x1 x2 x3 x4 d hx1 hx2 hx3 hx4 h k0
set_option maxHeartbeats 4000000 in
theorem ok_Mo_whoIs {l : Launch} {r : Int} {d' : Dt} (p1 : Int) (d : Dt) (hp1 : c32 p1) (h : L_Mo_whoIs p1 d = some (r, d')) : MC l y_Mo_whoIs prog_14_method_88_code 6 (some .int) rm_Mo_whoIs 1 [(2, 0), (0, p1)] d (some (0, r)) d' := by
  refine MC.of (by decide) (Nat.le_of_ble_eq_true rfl) ?_
  intro p e s m args below meth c D cA ad A C hlk hr
  replace C : Cx p s m args c prog_14_method_88_code 6 "PollBooksModel" D cA ad 1 A := C
  show G p l e rm_Mo_whoIs s m args below meth c 0 0 (MQ below (fun _ => QC D cA ad 1 A (some .int) (some (0, r)) d') args s 0 0 A) 6 D cA ad 1 A 0 [(2, 0), (0, p1)] [] d
  refine g_sub (lo2 := [(2, 0), (0, p1), (9, 0), (9, 0), (9, 0), (9, 0)]) (lsb_v (lsb_v (lsb_n (lsb_n (lsb_n (lsb_n lsb_e)))))) ?_
  unfold L_Mo_whoIs at h
  refine g_iconst C (-1) (cK rfl) (by decide +kernel) ?_
  refine s_istore_n C 2 (lo' := [(2, 0), (0, p1), (0, (-1)), (9, 0), (9, 0), (9, 0)]) (by decide) (s1k (s1n (by decide) s1z)) (by decide +kernel) ?_
  refine g_ldcw C (ix := 553) (v := 100000000) lk_2127 (by decide +kernel) ?_
  refine s_istore_n C 3 (lo' := [(2, 0), (0, p1), (0, (-1)), (0, 100000000), (9, 0), (9, 0)]) (by decide) (s1k (s1k (s1n (by decide) s1z))) (by decide +kernel) ?_
  refine g_aload_n C 0 rfl (by decide +kernel) ?_
  refine g_iconst C 1 (cK rfl) (by decide +kernel) ?_
  refine g_putZ C cl12 0 80 (Or.inr rfl) rfl cd_B0 ⟨by decide, rfl, by decide⟩ rfl (nB (by decide)) (ix := 554) lk_1482 rfl rfl (by decide +kernel) ?_
  refine g_iconst C 0 (cK rfl) (by decide +kernel) ?_
  refine s_istore C 4 (lo' := [(2, 0), (0, p1), (0, (-1)), (0, 100000000), (0, 0), (9, 0)]) (by decide) (s1k (s1k (s1k (s1n (by decide) s1z)))) (by decide +kernel) ?_
  refine g_sub (lo2 := [(2, 0), (0, p1), (0, (-1)), (0, 100000000), (0, 0), (9, 0)]) (lsb_v (lsb_v (lsb_v (lsb_v (lsb_v (lsb_c lsb_e)))))) ?_
  obtain ⟨x27_, hx28_, h⟩ := lb_some h
  refine ok_Mo_whoIs_l14 C p1 (-1) 100000000 0 (up2 d 0 80 1) hp1 (cK rfl) (cK rfl) (c32_cb (Or.inl rfl)) hx28_ (fun v29_ d30_ eq31_ hv29_ => ?_)
  subst eq31_
  replace h := u1_e h
  refine g_iload_n C 2 rfl (by decide +kernel) ?_
  obtain ⟨rfl, rfl⟩ := ret_inj h
  exact g_iret C hv29_ hlk hr (by decide +kernel)
/-! PollBooksModel.who(I)I -/
def y_Mo_who : MethodName := ⟨"PollBooksModel", "who", "(I)I"⟩
def rm_Mo_who : Room := { frames := 3, cells := 0, slots := 0, locals := 81 }
theorem mw_Mo_who : MW y_Mo_who prog_14_method_89_code 3 (some .int) 1 := ⟨lk_2122, lk_14, by decide +kernel⟩
def L_Mo_who (p1 : Int) (d : Dt) : Option (Int × Dt) :=
  bd (L_Mo_isEntry p1 d) (fun r2_ d1_ => if r2_ = 0 then bd (L_Mo_refuse 1 d1_) (fun r7_ d6_ => some (r7_, d6_)) else bd (L_Mo_whoIs p1 d1_) (fun r11_ d10_ => if r11_ = (-1) then bd (L_Mo_refuse 6 d10_) (fun r16_ d15_ => some (r16_, d15_)) else bd (L_Mo_gives r11_ d10_) (fun r20_ d19_ => some (r20_, d19_))))
set_option maxHeartbeats 4000000 in
theorem ok_Mo_who {l : Launch} {r : Int} {d' : Dt} (p1 : Int) (d : Dt) (hp1 : c32 p1) (h : L_Mo_who p1 d = some (r, d')) : MC l y_Mo_who prog_14_method_89_code 3 (some .int) rm_Mo_who 1 [(2, 0), (0, p1)] d (some (0, r)) d' := by
  refine MC.of (by decide) (Nat.le_of_ble_eq_true rfl) ?_
  intro p e s m args below meth c D cA ad A C hlk hr
  replace C : Cx p s m args c prog_14_method_89_code 3 "PollBooksModel" D cA ad 1 A := C
  show G p l e rm_Mo_who s m args below meth c 0 0 (MQ below (fun _ => QC D cA ad 1 A (some .int) (some (0, r)) d') args s 0 0 A) 3 D cA ad 1 A 0 [(2, 0), (0, p1)] [] d
  refine g_sub (lo2 := [(2, 0), (0, p1), (9, 0)]) (lsb_v (lsb_v (lsb_n lsb_e))) ?_
  unfold L_Mo_who at h
  refine g_aload_n C 0 rfl (by decide +kernel) ?_
  refine g_iload_n C 1 rfl (by decide +kernel) ?_
  obtain ⟨r2_, d1_, hr3_, h⟩ := bd_some h
  refine g_callV C mw_Mo_isEntry [(0, p1)] 0 cl12 rfl (ok_Mo_isEntry p1 d hp1 hr3_) cd_B0 (by decide) (nB (by decide)) (ix := 541) lk_2092 lk_2094 lkp_98 ⟨rfl, rfl, Nat.le_of_ble_eq_true rfl, Nat.le_of_ble_eq_true rfl⟩ rfl (rest := []) rfl (Nat.le_of_ble_eq_true rfl) ⟨Nat.zero_le _, Nat.zero_le _⟩ (by decide +kernel) (fun _ hc4_ => ?_)
  replace hc4_ : cb r2_ := hc4_
  refine g_st (st2 := [(0, r2_)]) rfl ?_
  refine g_if_ne C (off := 9) (tgt := 14) (c32_cb hc4_) (by decide +kernel) (by decide) (fun hc5_ => ?_) (fun hc5_ => ?_)
  · replace h := ite_t hc5_ h
    refine g_aload_n C 0 rfl (by decide +kernel) ?_
    refine g_iconst C 1 (cK rfl) (by decide +kernel) ?_
    obtain ⟨r7_, d6_, hr8_, h⟩ := bd_some h
    refine g_callV C mw_Mo_refuse [(0, 1)] 0 cl12 rfl (ok_Mo_refuse 1 d1_ (c32_cb (Or.inr rfl)) hr8_) cd_B0 (by decide) (nB (by decide)) (ix := 316) lk_1787 lk_1789 lkp_61 ⟨rfl, rfl, Nat.le_of_ble_eq_true rfl, Nat.le_of_ble_eq_true rfl⟩ rfl (rest := []) rfl (Nat.le_of_ble_eq_true rfl) ⟨Nat.zero_le _, Nat.zero_le _⟩ (by decide +kernel) (fun _ hc9_ => ?_)
    replace hc9_ : c32 r7_ := hc9_
    refine g_st (st2 := [(0, r7_)]) rfl ?_
    obtain ⟨rfl, rfl⟩ := ret_inj h
    exact g_iret C hc9_ hlk hr (by decide +kernel)
  · replace h := ite_f hc5_ h
    refine g_aload_n C 0 rfl (by decide +kernel) ?_
    refine g_iload_n C 1 rfl (by decide +kernel) ?_
    obtain ⟨r11_, d10_, hr12_, h⟩ := bd_some h
    refine g_callV C mw_Mo_whoIs [(0, p1)] 0 cl12 rfl (ok_Mo_whoIs p1 d1_ hp1 hr12_) cd_B0 (by decide) (nB (by decide)) (ix := 558) lk_2123 lk_2125 lkp_101 ⟨rfl, rfl, Nat.le_of_ble_eq_true rfl, Nat.le_of_ble_eq_true rfl⟩ rfl (rest := []) rfl (Nat.le_of_ble_eq_true rfl) ⟨Nat.zero_le _, Nat.zero_le _⟩ (by decide +kernel) (fun _ hc13_ => ?_)
    replace hc13_ : c32 r11_ := hc13_
    refine g_st (st2 := [(0, r11_)]) rfl ?_
    refine s_istore_n C 2 (lo' := [(2, 0), (0, p1), (0, r11_)]) (by decide) (s1k (s1n (by decide) s1z)) (by decide +kernel) ?_
    refine g_iload_n C 2 rfl (by decide +kernel) ?_
    refine g_iconst C (-1) (cK rfl) (by decide +kernel) ?_
    refine g_icmp_ne C (off := 12) (tgt := 34) hc13_ (cK rfl) (by decide +kernel) (by decide) (fun hc14_ => ?_) (fun hc14_ => ?_)
    · replace h := ite_t hc14_ h
      refine g_aload_n C 0 rfl (by decide +kernel) ?_
      refine g_bipush C 6 (by decide) (by decide +kernel) ?_
      obtain ⟨r16_, d15_, hr17_, h⟩ := bd_some h
      refine g_callV C mw_Mo_refuse [(0, 6)] 0 cl12 rfl (ok_Mo_refuse 6 d10_ (cK rfl) hr17_) cd_B0 (by decide) (nB (by decide)) (ix := 316) lk_1787 lk_1789 lkp_61 ⟨rfl, rfl, Nat.le_of_ble_eq_true rfl, Nat.le_of_ble_eq_true rfl⟩ rfl (rest := []) rfl (Nat.le_of_ble_eq_true rfl) ⟨Nat.zero_le _, Nat.zero_le _⟩ (by decide +kernel) (fun _ hc18_ => ?_)
      replace hc18_ : c32 r16_ := hc18_
      refine g_st (st2 := [(0, r16_)]) rfl ?_
      refine g_goto C 39 (off := 8) (by decide +kernel) (by decide) ?_
      obtain ⟨rfl, rfl⟩ := ret_inj h
      exact g_iret C hc18_ hlk hr (by decide +kernel)
    · replace h := ite_f hc14_ h
      refine g_aload_n C 0 rfl (by decide +kernel) ?_
      refine g_iload_n C 2 rfl (by decide +kernel) ?_
      obtain ⟨r20_, d19_, hr21_, h⟩ := bd_some h
      refine g_callV C mw_Mo_gives [(0, r11_)] 0 cl12 rfl (ok_Mo_gives r11_ d10_ hc13_ hr21_) cd_B0 (by decide) (nB (by decide)) (ix := 312) lk_1783 lk_1785 lkp_60 ⟨rfl, rfl, Nat.le_of_ble_eq_true rfl, Nat.le_of_ble_eq_true rfl⟩ rfl (rest := []) rfl (Nat.le_of_ble_eq_true rfl) ⟨Nat.zero_le _, Nat.zero_le _⟩ (by decide +kernel) (fun _ hc22_ => ?_)
      replace hc22_ : c32 r20_ := hc22_
      refine g_st (st2 := [(0, r20_)]) rfl ?_
      obtain ⟨rfl, rfl⟩ := ret_inj h
      exact g_iret C hc22_ hlk hr (by decide +kernel)
/-! PollBooksModel.isTwice(II)Z -/
def y_Mo_isTwice : MethodName := ⟨"PollBooksModel", "isTwice", "(II)Z"⟩
def rm_Mo_isTwice : Room := { frames := 3, cells := 0, slots := 0, locals := 81 }
theorem mw_Mo_isTwice : MW y_Mo_isTwice prog_14_method_90_code 4 (some .boolean) 2 := ⟨lk_2135, lk_14, by decide +kernel⟩
def L_Mo_isTwice_y2 (x1 x2 x3 : Int) (d : Dt) : Option ((Int × Int × Int × Dt) ⊕ ((Dt) ⊕ (Dt))) :=
  if x3 < x1 then bd (L_Mo_whoIs x3 d) (fun r3_ d2_ => if r3_ = x2 then some (Sum.inr (Sum.inr (d2_))) else some (Sum.inl (x1, x2, (w32 (x3 + 1)), d2_))) else some (Sum.inr (Sum.inl (d)))
def L_Mo_isTwice_l2 (x1 x2 x3 : Int) (d : Dt) : Option ((Dt) ⊕ (Dt)) := lpF (fun q : Int × Int × Int × Dt => L_Mo_isTwice_y2 q.1 q.2.1 q.2.2.1 q.2.2.2) FU (x1, x2, x3, d)
def L_Mo_isTwice (p1 p2 : Int) (d : Dt) : Option (Int × Dt) :=
  lb (L_Mo_isTwice_l2 p1 p2 0 d) (fun q13_ => sm q13_ (fun q14_ => u0 q14_ (fun d9_ => some (0, d9_))) (fun q15_ => u0 q15_ (fun d11_ => some (1, d11_))))
set_option maxHeartbeats 4000000 in
theorem ok_Mo_isTwice_y2 {p : Program} {l : Launch} {e : Env} {s : State} {m : MethodId} {args : Array Value} {below : List Frame} {meth : Method} {c : Code} {D : va_G} {cA : Nat → ClassId} {ad : Nat → Nat} {A : Nat → Prop} (C : Cx p s m args c prog_14_method_90_code 4 "PollBooksModel" D cA ad 1 A) {Q : State → Prop} {o : (Int × Int × Int × Dt) ⊕ ((Dt) ⊕ (Dt))} (x1 x2 x3 : Int) (d : Dt) (hx1 : c32 x1) (hx2 : c32 x2) (hx3 : c32 x3) (h : L_Mo_isTwice_y2 x1 x2 x3 d = some o) (kb : ∀ (y0 y1 y2 : Int) (e' : Dt), o = .inl (y0, y1, y2, e') → c32 y0 → c32 y1 → c32 y2 → G p l e rm_Mo_isTwice s m args below meth c 0 0 Q 4 D cA ad 1 A 2 [(2, 0), (0, y0), (0, y1), (0, y2)] [] e') (k0 : ∀ (e' : Dt), o = .inr (Sum.inl (e')) → G p l e rm_Mo_isTwice s m args below meth c 0 0 Q 4 D cA ad 1 A 24 [(9, 0), (9, 0), (9, 0), (9, 0)] [] e') (k1 : ∀ (e' : Dt), o = .inr (Sum.inr (e')) → G p l e rm_Mo_isTwice s m args below meth c 0 0 Q 4 D cA ad 1 A 16 [(9, 0), (9, 0), (9, 0), (9, 0)] [] e') : G p l e rm_Mo_isTwice s m args below meth c 0 0 Q 4 D cA ad 1 A 2 [(2, 0), (0, x1), (0, x2), (0, x3)] [] d := by
  unfold L_Mo_isTwice_y2 at h
  refine g_iload_n C 3 rfl (by decide +kernel) ?_
  refine g_iload_n C 1 rfl (by decide +kernel) ?_
  refine g_icmp_ge C (off := 20) (tgt := 24) hx3 hx1 (by decide +kernel) (by decide) (fun hc1_ => ?_) (fun hc1_ => ?_)
  · replace h := ite_t hc1_ h
    refine g_aload_n C 0 rfl (by decide +kernel) ?_
    refine g_iload_n C 3 rfl (by decide +kernel) ?_
    obtain ⟨r3_, d2_, hr4_, h⟩ := bd_some h
    refine g_callV C mw_Mo_whoIs [(0, x3)] 0 cl12 rfl (ok_Mo_whoIs x3 d hx3 hr4_) cd_B0 (by decide) (nB (by decide)) (ix := 558) lk_2123 lk_2125 lkp_101 ⟨rfl, rfl, Nat.le_of_ble_eq_true rfl, Nat.le_of_ble_eq_true rfl⟩ rfl (rest := []) rfl (Nat.le_of_ble_eq_true rfl) ⟨Nat.zero_le _, Nat.zero_le _⟩ (by decide +kernel) (fun _ hc5_ => ?_)
    replace hc5_ : c32 r3_ := hc5_
    refine g_st (st2 := [(0, r3_)]) rfl ?_
    refine g_iload_n C 2 rfl (by decide +kernel) ?_
    refine g_icmp_ne C (off := 5) (tgt := 18) hc5_ hx2 (by decide +kernel) (by decide) (fun hc6_ => ?_) (fun hc6_ => ?_)
    · replace h := ite_t hc6_ h
      refine g_sub (lo2 := [(9, 0), (9, 0), (9, 0), (9, 0)]) (lsb_c (lsb_c (lsb_c (lsb_c lsb_e)))) ?_
      obtain rfl := Option.some.inj h
      exact k1 d2_ rfl 
    · replace h := ite_f hc6_ h
      refine s_iinc C 3 1 (lo' := [(2, 0), (0, x1), (0, x2), (0, (w32 (x3 + 1)))]) rfl (by decide) (s1k (s1k (s1n (by decide) s1z))) (by decide +kernel) ?_
      refine g_goto C 2 (off := (-19)) (by decide +kernel) (by decide) ?_
      refine g_sub (lo2 := [(2, 0), (0, x1), (0, x2), (0, (w32 (x3 + 1)))]) (lsb_v (lsb_v (lsb_v (lsb_v lsb_e)))) ?_
      obtain rfl := Option.some.inj h
      exact kb x1 x2 (w32 (x3 + 1)) d2_ rfl hx1 hx2 (w32_c _)
  · replace h := ite_f hc1_ h
    refine g_sub (lo2 := [(9, 0), (9, 0), (9, 0), (9, 0)]) (lsb_c (lsb_c (lsb_c (lsb_c lsb_e)))) ?_
    obtain rfl := Option.some.inj h
    exact k0 d rfl 
set_option maxHeartbeats 4000000 in
theorem ok_Mo_isTwice_n2 {p : Program} {l : Launch} {e : Env} {s : State} {m : MethodId} {args : Array Value} {below : List Frame} {meth : Method} {c : Code} {D : va_G} {cA : Nat → ClassId} {ad : Nat → Nat} {A : Nat → Prop} (C : Cx p s m args c prog_14_method_90_code 4 "PollBooksModel" D cA ad 1 A) {Q : State → Prop} {x : (Dt) ⊕ (Dt)} : ∀ (n : Nat) (x1 x2 x3 : Int) (d : Dt), c32 x1 → c32 x2 → c32 x3 → lpF (fun q : Int × Int × Int × Dt => L_Mo_isTwice_y2 q.1 q.2.1 q.2.2.1 q.2.2.2) n (x1, x2, x3, d) = some x → (∀ (e' : Dt), x = (Sum.inl (e')) → G p l e rm_Mo_isTwice s m args below meth c 0 0 Q 4 D cA ad 1 A 24 [(9, 0), (9, 0), (9, 0), (9, 0)] [] e') → (∀ (e' : Dt), x = (Sum.inr (e')) → G p l e rm_Mo_isTwice s m args below meth c 0 0 Q 4 D cA ad 1 A 16 [(9, 0), (9, 0), (9, 0), (9, 0)] [] e') → G p l e rm_Mo_isTwice s m args below meth c 0 0 Q 4 D cA ad 1 A 2 [(2, 0), (0, x1), (0, x2), (0, x3)] [] d := by
  intro n
  induction n with
  | zero => intro x1 x2 x3 d g0 g1 g2 h k0 k1; cases h
  | succ n ih =>
    intro x1 x2 x3 d g0 g1 g2 h k0 k1
    rcases lpF_some h with h | ⟨⟨v0_, v1_, v2_, e0_⟩, h1, h⟩
    · exact ok_Mo_isTwice_y2 C x1 x2 x3 d g0 g1 g2 h (fun z0_ z1_ z2_ e1_ eq w0_ w1_ w2_ => by cases eq) (fun e1_ eq => k0 _ (by cases eq; rfl) ) (fun e1_ eq => k1 _ (by cases eq; rfl) )
    · exact ok_Mo_isTwice_y2 C x1 x2 x3 d g0 g1 g2 h1 (fun z0_ z1_ z2_ e1_ eq w0_ w1_ w2_ => by cases eq; exact ih _ _ _ _ w0_ w1_ w2_ h k0 k1) (fun e1_ eq => by cases eq) (fun e1_ eq => by cases eq)
set_option maxHeartbeats 4000000 in
theorem ok_Mo_isTwice_l2 {p : Program} {l : Launch} {e : Env} {s : State} {m : MethodId} {args : Array Value} {below : List Frame} {meth : Method} {c : Code} {D : va_G} {cA : Nat → ClassId} {ad : Nat → Nat} {A : Nat → Prop} (C : Cx p s m args c prog_14_method_90_code 4 "PollBooksModel" D cA ad 1 A) {Q : State → Prop} {x : (Dt) ⊕ (Dt)} (x1 x2 x3 : Int) (d : Dt) (hx1 : c32 x1) (hx2 : c32 x2) (hx3 : c32 x3) (h : L_Mo_isTwice_l2 x1 x2 x3 d = some x) (k0 : ∀ (e' : Dt), x = (Sum.inl (e')) → G p l e rm_Mo_isTwice s m args below meth c 0 0 Q 4 D cA ad 1 A 24 [(9, 0), (9, 0), (9, 0), (9, 0)] [] e') (k1 : ∀ (e' : Dt), x = (Sum.inr (e')) → G p l e rm_Mo_isTwice s m args below meth c 0 0 Q 4 D cA ad 1 A 16 [(9, 0), (9, 0), (9, 0), (9, 0)] [] e') : G p l e rm_Mo_isTwice s m args below meth c 0 0 Q 4 D cA ad 1 A 2 [(2, 0), (0, x1), (0, x2), (0, x3)] [] d :=
  ok_Mo_isTwice_n2 C FU x1 x2 x3 d hx1 hx2 hx3 h k0 k1
set_option maxHeartbeats 4000000 in
theorem ok_Mo_isTwice {l : Launch} {r : Int} {d' : Dt} (p1 p2 : Int) (d : Dt) (hp1 : c32 p1) (hp2 : c32 p2) (h : L_Mo_isTwice p1 p2 d = some (r, d')) : MC l y_Mo_isTwice prog_14_method_90_code 4 (some .boolean) rm_Mo_isTwice 1 [(2, 0), (0, p1), (0, p2)] d (some (0, r)) d' := by
  refine MC.of (by decide) (Nat.le_of_ble_eq_true rfl) ?_
  intro p e s m args below meth c D cA ad A C hlk hr
  replace C : Cx p s m args c prog_14_method_90_code 4 "PollBooksModel" D cA ad 1 A := C
  show G p l e rm_Mo_isTwice s m args below meth c 0 0 (MQ below (fun _ => QC D cA ad 1 A (some .boolean) (some (0, r)) d') args s 0 0 A) 4 D cA ad 1 A 0 [(2, 0), (0, p1), (0, p2)] [] d
  refine g_sub (lo2 := [(2, 0), (0, p1), (0, p2), (9, 0)]) (lsb_v (lsb_v (lsb_v (lsb_n lsb_e)))) ?_
  unfold L_Mo_isTwice at h
  refine g_iconst C 0 (cK rfl) (by decide +kernel) ?_
  refine s_istore_n C 3 (lo' := [(2, 0), (0, p1), (0, p2), (0, 0)]) (by decide) (s1k (s1k (s1n (by decide) s1z))) (by decide +kernel) ?_
  refine g_sub (lo2 := [(2, 0), (0, p1), (0, p2), (0, 0)]) (lsb_v (lsb_v (lsb_v (lsb_v lsb_e)))) ?_
  obtain ⟨x7_, hx8_, h⟩ := lb_some h
  refine ok_Mo_isTwice_l2 C p1 p2 0 d hp1 hp2 (c32_cb (Or.inl rfl)) hx8_ (fun d9_ eq10_ => ?_) (fun d11_ eq12_ => ?_)
  · subst eq10_
    replace h := sml_e h
    replace h := u0_e h
    refine g_iconst C 0 (cK rfl) (by decide +kernel) ?_
    obtain ⟨rfl, rfl⟩ := ret_inj h
    exact g_zret C (Or.inl rfl) hlk hr (by decide +kernel)
  · subst eq12_
    replace h := smr_e h
    replace h := u0_e h
    refine g_iconst C 1 (cK rfl) (by decide +kernel) ?_
    obtain ⟨rfl, rfl⟩ := ret_inj h
    exact g_zret C (Or.inr rfl) hlk hr (by decide +kernel)
/-! PollBooksModel.sure(II)I -/
def y_Mo_sure : MethodName := ⟨"PollBooksModel", "sure", "(II)I"⟩
def rm_Mo_sure : Room := { frames := 4, cells := 0, slots := 0, locals := 104 }
theorem mw_Mo_sure : MW y_Mo_sure prog_14_method_91_code 5 (some .int) 2 := ⟨lk_2131, lk_14, by decide +kernel⟩
def L_Mo_sure_b17 (d : Dt) : Option (Int × Dt) :=
  bd (L_Mo_refuse 1 d) (fun r2_ d1_ => some (r2_, d1_))
def L_Mo_sure_b74 (s1 : Int) (d : Dt) : Option (Int × Dt) :=
  bd (L_Mo_gives s1 d) (fun r6_ d5_ => some (r6_, d5_))
def L_Mo_sure (p1 p2 : Int) (d : Dt) : Option (Int × Dt) :=
  bd (L_Mo_isEntry p1 d) (fun r10_ d9_ => if r10_ = 0 then L_Mo_sure_b17 d9_ else if p2 < 0 then L_Mo_sure_b17 d9_ else if 1 < p2 then L_Mo_sure_b17 d9_ else bd (L_Mo_whoIs p1 d9_) (fun r17_ d16_ => lt_ (d16_ 0 80) (fun v21_ => if r17_ = (-1) then bd (L_Mo_refuse 6 d16_) (fun r26_ d25_ => some (r26_, d25_)) else if p2 = 0 then if v21_ = 0 then L_Mo_sure_b74 0 d16_ else L_Mo_sure_b74 1 d16_ else bd (L_Mo_isTwice p1 r17_ d16_) (fun r32_ d31_ => if r32_ = 0 then L_Mo_sure_b74 0 d31_ else L_Mo_sure_b74 1 d31_))))
set_option maxHeartbeats 4000000 in
theorem ok_Mo_sure_b17 {p : Program} {l : Launch} {e : Env} {s : State} {m : MethodId} {args : Array Value} {below : List Frame} {meth : Method} {c : Code} {D : va_G} {cA : Nat → ClassId} {ad : Nat → Nat} {A : Nat → Prop} (C : Cx p s m args c prog_14_method_91_code 5 "PollBooksModel" D cA ad 1 A) (hlk : meth.locks = false) (hr : meth.sig.returnType = (some .int)) {r : Int} {d' : Dt} (d : Dt)  (h : L_Mo_sure_b17 d = some (r, d')) : G p l e rm_Mo_sure s m args below meth c 0 0 (MQ below (fun _ => QC D cA ad 1 A (some .int) (some (0, r)) d') args s 0 0 A) 5 D cA ad 1 A 17 [(2, 0), (9, 0), (9, 0), (9, 0), (9, 0)] [] d := by
  unfold L_Mo_sure_b17 at h
  refine g_aload_n C 0 rfl (by decide +kernel) ?_
  refine g_iconst C 1 (cK rfl) (by decide +kernel) ?_
  obtain ⟨r2_, d1_, hr3_, h⟩ := bd_some h
  refine g_callV C mw_Mo_refuse [(0, 1)] 0 cl12 rfl (ok_Mo_refuse 1 d (c32_cb (Or.inr rfl)) hr3_) cd_B0 (by decide) (nB (by decide)) (ix := 316) lk_1787 lk_1789 lkp_61 ⟨rfl, rfl, Nat.le_of_ble_eq_true rfl, Nat.le_of_ble_eq_true rfl⟩ rfl (rest := []) rfl (Nat.le_of_ble_eq_true rfl) ⟨Nat.zero_le _, Nat.zero_le _⟩ (by decide +kernel) (fun _ hc4_ => ?_)
  replace hc4_ : c32 r2_ := hc4_
  refine g_st (st2 := [(0, r2_)]) rfl ?_
  obtain ⟨rfl, rfl⟩ := ret_inj h
  exact g_iret C hc4_ hlk hr (by decide +kernel)
set_option maxHeartbeats 4000000 in
theorem ok_Mo_sure_b74 {p : Program} {l : Launch} {e : Env} {s : State} {m : MethodId} {args : Array Value} {below : List Frame} {meth : Method} {c : Code} {D : va_G} {cA : Nat → ClassId} {ad : Nat → Nat} {A : Nat → Prop} (C : Cx p s m args c prog_14_method_91_code 5 "PollBooksModel" D cA ad 1 A) (hlk : meth.locks = false) (hr : meth.sig.returnType = (some .int)) {r : Int} {d' : Dt} (s1 : Int) (d : Dt) (hs1 : cb s1) (h : L_Mo_sure_b74 s1 d = some (r, d')) : G p l e rm_Mo_sure s m args below meth c 0 0 (MQ below (fun _ => QC D cA ad 1 A (some .int) (some (0, r)) d') args s 0 0 A) 5 D cA ad 1 A 74 [(9, 0), (9, 0), (9, 0), (9, 0), (9, 0)] [(0, s1), (2, 0)] d := by
  unfold L_Mo_sure_b74 at h
  obtain ⟨r6_, d5_, hr7_, h⟩ := bd_some h
  refine g_callV C mw_Mo_gives [(0, s1)] 0 cl12 rfl (ok_Mo_gives s1 d (c32_cb hs1) hr7_) cd_B0 (by decide) (nB (by decide)) (ix := 312) lk_1783 lk_1785 lkp_60 ⟨rfl, rfl, Nat.le_of_ble_eq_true rfl, Nat.le_of_ble_eq_true rfl⟩ rfl (rest := []) rfl (Nat.le_of_ble_eq_true rfl) ⟨Nat.zero_le _, Nat.zero_le _⟩ (by decide +kernel) (fun _ hc8_ => ?_)
  replace hc8_ : c32 r6_ := hc8_
  refine g_st (st2 := [(0, r6_)]) rfl ?_
  obtain ⟨rfl, rfl⟩ := ret_inj h
  exact g_iret C hc8_ hlk hr (by decide +kernel)
set_option maxHeartbeats 4000000 in
theorem ok_Mo_sure {l : Launch} {r : Int} {d' : Dt} (p1 p2 : Int) (d : Dt) (hp1 : c32 p1) (hp2 : c32 p2) (h : L_Mo_sure p1 p2 d = some (r, d')) : MC l y_Mo_sure prog_14_method_91_code 5 (some .int) rm_Mo_sure 1 [(2, 0), (0, p1), (0, p2)] d (some (0, r)) d' := by
  refine MC.of (by decide) (Nat.le_of_ble_eq_true rfl) ?_
  intro p e s m args below meth c D cA ad A C hlk hr
  replace C : Cx p s m args c prog_14_method_91_code 5 "PollBooksModel" D cA ad 1 A := C
  show G p l e rm_Mo_sure s m args below meth c 0 0 (MQ below (fun _ => QC D cA ad 1 A (some .int) (some (0, r)) d') args s 0 0 A) 5 D cA ad 1 A 0 [(2, 0), (0, p1), (0, p2)] [] d
  refine g_sub (lo2 := [(2, 0), (0, p1), (0, p2), (9, 0), (9, 0)]) (lsb_v (lsb_v (lsb_v (lsb_n (lsb_n lsb_e))))) ?_
  unfold L_Mo_sure at h
  refine g_aload_n C 0 rfl (by decide +kernel) ?_
  refine g_iload_n C 1 rfl (by decide +kernel) ?_
  obtain ⟨r10_, d9_, hr11_, h⟩ := bd_some h
  refine g_callV C mw_Mo_isEntry [(0, p1)] 0 cl12 rfl (ok_Mo_isEntry p1 d hp1 hr11_) cd_B0 (by decide) (nB (by decide)) (ix := 541) lk_2092 lk_2094 lkp_98 ⟨rfl, rfl, Nat.le_of_ble_eq_true rfl, Nat.le_of_ble_eq_true rfl⟩ rfl (rest := []) rfl (Nat.le_of_ble_eq_true rfl) ⟨Nat.zero_le _, Nat.zero_le _⟩ (by decide +kernel) (fun _ hc12_ => ?_)
  replace hc12_ : cb r10_ := hc12_
  refine g_st (st2 := [(0, r10_)]) rfl ?_
  refine g_if_eq C (off := 12) (tgt := 17) (c32_cb hc12_) (by decide +kernel) (by decide) (fun hc13_ => ?_) (fun hc13_ => ?_)
  · replace h := ite_t hc13_ h
    refine g_sub (lo2 := [(2, 0), (9, 0), (9, 0), (9, 0), (9, 0)]) (lsb_v (lsb_c (lsb_c (lsb_c (lsb_c lsb_e))))) ?_
    exact ok_Mo_sure_b17 C hlk hr d9_  h
  · replace h := ite_f hc13_ h
    refine g_iload_n C 2 rfl (by decide +kernel) ?_
    refine g_if_lt C (off := 8) (tgt := 17) hp2 (by decide +kernel) (by decide) (fun hc14_ => ?_) (fun hc14_ => ?_)
    · replace h := ite_t hc14_ h
      refine g_sub (lo2 := [(2, 0), (9, 0), (9, 0), (9, 0), (9, 0)]) (lsb_v (lsb_c (lsb_c (lsb_c (lsb_c lsb_e))))) ?_
      exact ok_Mo_sure_b17 C hlk hr d9_  h
    · replace h := ite_f hc14_ h
      refine g_iload_n C 2 rfl (by decide +kernel) ?_
      refine g_iconst C 1 (cK rfl) (by decide +kernel) ?_
      refine g_icmp_le C (off := 9) (tgt := 23) hp2 (c32_cb (Or.inr rfl)) (by decide +kernel) (by decide) (fun hc15_ => ?_) (fun hc15_ => ?_)
      · replace h := ite_t hc15_ h
        refine g_sub (lo2 := [(2, 0), (9, 0), (9, 0), (9, 0), (9, 0)]) (lsb_v (lsb_c (lsb_c (lsb_c (lsb_c lsb_e))))) ?_
        exact ok_Mo_sure_b17 C hlk hr d9_  h
      · replace h := ite_f hc15_ h
        refine g_aload_n C 0 rfl (by decide +kernel) ?_
        refine g_iload_n C 1 rfl (by decide +kernel) ?_
        obtain ⟨r17_, d16_, hr18_, h⟩ := bd_some h
        refine g_callV C mw_Mo_whoIs [(0, p1)] 0 cl12 rfl (ok_Mo_whoIs p1 d9_ hp1 hr18_) cd_B0 (by decide) (nB (by decide)) (ix := 558) lk_2123 lk_2125 lkp_101 ⟨rfl, rfl, Nat.le_of_ble_eq_true rfl, Nat.le_of_ble_eq_true rfl⟩ rfl (rest := []) rfl (Nat.le_of_ble_eq_true rfl) ⟨Nat.zero_le _, Nat.zero_le _⟩ (by decide +kernel) (fun _ hc19_ => ?_)
        replace hc19_ : c32 r17_ := hc19_
        refine g_st (st2 := [(0, r17_)]) rfl ?_
        refine s_istore_n C 3 (lo' := [(2, 0), (0, p1), (0, p2), (0, r17_), (9, 0)]) (by decide) (s1k (s1k (s1n (by decide) s1z))) (by decide +kernel) ?_
        refine g_aload_n C 0 rfl (by decide +kernel) ?_
        refine g_getZ C cl12 0 80 rfl cd_B0 ⟨by decide, rfl, by decide⟩ rfl (nB (by decide)) (ix := 554) lk_1482 (by decide +kernel) (fun hc20_ => ?_)
        obtain ⟨v21_, ev22_, h⟩ := lt_some h
        refine g_val ev22_.symm ?_
        have hv23_ : cb v21_ := by rw [ev22_]; exact hc20_
        refine s_istore C 4 (lo' := [(2, 0), (0, p1), (0, p2), (0, r17_), (0, v21_)]) (by decide) (s1k (s1k (s1k (s1n (by decide) s1z)))) (by decide +kernel) ?_
        refine g_iload_n C 3 rfl (by decide +kernel) ?_
        refine g_iconst C (-1) (cK rfl) (by decide +kernel) ?_
        refine g_icmp_ne C (off := 10) (tgt := 47) hc19_ (cK rfl) (by decide +kernel) (by decide) (fun hc24_ => ?_) (fun hc24_ => ?_)
        · replace h := ite_t hc24_ h
          refine g_aload_n C 0 rfl (by decide +kernel) ?_
          refine g_bipush C 6 (by decide) (by decide +kernel) ?_
          obtain ⟨r26_, d25_, hr27_, h⟩ := bd_some h
          refine g_callV C mw_Mo_refuse [(0, 6)] 0 cl12 rfl (ok_Mo_refuse 6 d16_ (cK rfl) hr27_) cd_B0 (by decide) (nB (by decide)) (ix := 316) lk_1787 lk_1789 lkp_61 ⟨rfl, rfl, Nat.le_of_ble_eq_true rfl, Nat.le_of_ble_eq_true rfl⟩ rfl (rest := []) rfl (Nat.le_of_ble_eq_true rfl) ⟨Nat.zero_le _, Nat.zero_le _⟩ (by decide +kernel) (fun _ hc28_ => ?_)
          replace hc28_ : c32 r26_ := hc28_
          refine g_st (st2 := [(0, r26_)]) rfl ?_
          obtain ⟨rfl, rfl⟩ := ret_inj h
          exact g_iret C hc28_ hlk hr (by decide +kernel)
        · replace h := ite_f hc24_ h
          refine g_aload_n C 0 rfl (by decide +kernel) ?_
          refine g_iload_n C 2 rfl (by decide +kernel) ?_
          refine g_if_ne C (off := 11) (tgt := 60) hp2 (by decide +kernel) (by decide) (fun hc29_ => ?_) (fun hc29_ => ?_)
          · replace h := ite_t hc29_ h
            refine g_iload C 4 rfl (by decide +kernel) ?_
            refine g_if_eq C (off := 19) (tgt := 73) (c32_cb hv23_) (by decide +kernel) (by decide) (fun hc30_ => ?_) (fun hc30_ => ?_)
            · replace h := ite_t hc30_ h
              refine g_iconst C 0 (cK rfl) (by decide +kernel) ?_
              refine g_sub (lo2 := [(9, 0), (9, 0), (9, 0), (9, 0), (9, 0)]) (lsb_c (lsb_c (lsb_c (lsb_c (lsb_c lsb_e))))) ?_
              exact ok_Mo_sure_b74 C hlk hr 0 d16_ (Or.inl rfl) h
            · replace h := ite_f hc30_ h
              refine g_goto C 69 (off := 12) (by decide +kernel) (by decide) ?_
              refine g_iconst C 1 (cK rfl) (by decide +kernel) ?_
              refine g_goto C 74 (off := 4) (by decide +kernel) (by decide) ?_
              refine g_sub (lo2 := [(9, 0), (9, 0), (9, 0), (9, 0), (9, 0)]) (lsb_c (lsb_c (lsb_c (lsb_c (lsb_c lsb_e))))) ?_
              exact ok_Mo_sure_b74 C hlk hr 1 d16_ (Or.inr rfl) h
          · replace h := ite_f hc29_ h
            refine g_aload_n C 0 rfl (by decide +kernel) ?_
            refine g_iload_n C 1 rfl (by decide +kernel) ?_
            refine g_iload_n C 3 rfl (by decide +kernel) ?_
            obtain ⟨r32_, d31_, hr33_, h⟩ := bd_some h
            refine g_callV C mw_Mo_isTwice [(0, p1), (0, r17_)] 0 cl12 rfl (ok_Mo_isTwice p1 r17_ d16_ hp1 hc19_ hr33_) cd_B0 (by decide) (nB (by decide)) (ix := 561) lk_2132 lk_2134 lkp_102 ⟨rfl, rfl, Nat.le_of_ble_eq_true rfl, Nat.le_of_ble_eq_true rfl⟩ rfl (rest := [(2, 0)]) rfl (Nat.le_of_ble_eq_true rfl) ⟨Nat.zero_le _, Nat.zero_le _⟩ (by decide +kernel) (fun _ hc34_ => ?_)
            replace hc34_ : cb r32_ := hc34_
            refine g_st (st2 := [(0, r32_), (2, 0)]) rfl ?_
            refine g_if_eq C (off := 7) (tgt := 73) (c32_cb hc34_) (by decide +kernel) (by decide) (fun hc35_ => ?_) (fun hc35_ => ?_)
            · replace h := ite_t hc35_ h
              refine g_iconst C 0 (cK rfl) (by decide +kernel) ?_
              refine g_sub (lo2 := [(9, 0), (9, 0), (9, 0), (9, 0), (9, 0)]) (lsb_c (lsb_c (lsb_c (lsb_c (lsb_c lsb_e))))) ?_
              exact ok_Mo_sure_b74 C hlk hr 0 d31_ (Or.inl rfl) h
            · replace h := ite_f hc35_ h
              refine g_iconst C 1 (cK rfl) (by decide +kernel) ?_
              refine g_goto C 74 (off := 4) (by decide +kernel) (by decide) ?_
              refine g_sub (lo2 := [(9, 0), (9, 0), (9, 0), (9, 0), (9, 0)]) (lsb_c (lsb_c (lsb_c (lsb_c (lsb_c lsb_e))))) ?_
              exact ok_Mo_sure_b74 C hlk hr 1 d31_ (Or.inr rfl) h
/-! PollBooksModel.offer(III)I -/
def y_Mo_offer : MethodName := ⟨"PollBooksModel", "offer", "(III)I"⟩
def rm_Mo_offer : Room := { frames := 1, cells := 0, slots := 0, locals := 21 }
theorem mw_Mo_offer : MW y_Mo_offer prog_14_method_92_code 4 (some .int) 3 := ⟨lk_2139, lk_14, by decide +kernel⟩
def L_Mo_offer_b22 (d : Dt) : Option (Int × Dt) :=
  bd (L_Mo_refuse 1 d) (fun r2_ d1_ => some (r2_, d1_))
def L_Mo_offer (p1 p2 p3 : Int) (d : Dt) : Option (Int × Dt) :=
  bd (L_Mo_isPerson p1 d) (fun r6_ d5_ => if r6_ = 0 then L_Mo_offer_b22 d5_ else bd (L_Mo_isSet p2 d5_) (fun r11_ d10_ => if r11_ = 0 then L_Mo_offer_b22 d10_ else bd (L_Mo_isMinute p3 d10_) (fun r16_ d15_ => if r16_ = 0 then L_Mo_offer_b22 d15_ else if (d15_ 0 87) = 20 then bd (L_Mo_refuse 4 d15_) (fun r23_ d22_ => some (r23_, d22_)) else ck ((0 : Int) ≤ (d15_ 0 87) ∧ (d15_ 0 87) < 20) (ck ((0 : Int) ≤ (d15_ 0 87) ∧ (d15_ 0 87) < 20) (ck ((0 : Int) ≤ (d15_ 0 87) ∧ (d15_ 0 87) < 20) (bd (L_Mo_gives (w32 ((w32 ((d15_ 0 87) + 1)) - 1)) (up2 (up2 (up2 (up2 d15_ 59 ((d15_ 0 87)).toNat p1) 60 ((d15_ 0 87)).toNat p2) 61 ((d15_ 0 87)).toNat p3) 0 87 (w32 ((d15_ 0 87) + 1)))) (fun r35_ d34_ => some (r35_, d34_))))))))
set_option maxHeartbeats 4000000 in
theorem ok_Mo_offer_b22 {p : Program} {l : Launch} {e : Env} {s : State} {m : MethodId} {args : Array Value} {below : List Frame} {meth : Method} {c : Code} {D : va_G} {cA : Nat → ClassId} {ad : Nat → Nat} {A : Nat → Prop} (C : Cx p s m args c prog_14_method_92_code 4 "PollBooksModel" D cA ad 1 A) (hlk : meth.locks = false) (hr : meth.sig.returnType = (some .int)) {r : Int} {d' : Dt} (d : Dt)  (h : L_Mo_offer_b22 d = some (r, d')) : G p l e rm_Mo_offer s m args below meth c 0 0 (MQ below (fun _ => QC D cA ad 1 A (some .int) (some (0, r)) d') args s 0 0 A) 4 D cA ad 1 A 22 [(2, 0), (9, 0), (9, 0), (9, 0)] [] d := by
  unfold L_Mo_offer_b22 at h
  refine g_aload_n C 0 rfl (by decide +kernel) ?_
  refine g_iconst C 1 (cK rfl) (by decide +kernel) ?_
  obtain ⟨r2_, d1_, hr3_, h⟩ := bd_some h
  refine g_callV C mw_Mo_refuse [(0, 1)] 0 cl12 rfl (ok_Mo_refuse 1 d (c32_cb (Or.inr rfl)) hr3_) cd_B0 (by decide) (nB (by decide)) (ix := 316) lk_1787 lk_1789 lkp_61 ⟨rfl, rfl, Nat.le_of_ble_eq_true rfl, Nat.le_of_ble_eq_true rfl⟩ rfl (rest := []) rfl (Nat.le_of_ble_eq_true rfl) ⟨Nat.zero_le _, Nat.zero_le _⟩ (by decide +kernel) (fun _ hc4_ => ?_)
  replace hc4_ : c32 r2_ := hc4_
  refine g_st (st2 := [(0, r2_)]) rfl ?_
  obtain ⟨rfl, rfl⟩ := ret_inj h
  exact g_iret C hc4_ hlk hr (by decide +kernel)
set_option maxHeartbeats 4000000 in
theorem ok_Mo_offer {l : Launch} {r : Int} {d' : Dt} (p1 p2 p3 : Int) (d : Dt) (hp1 : c32 p1) (hp2 : c32 p2) (hp3 : c32 p3) (h : L_Mo_offer p1 p2 p3 d = some (r, d')) : MC l y_Mo_offer prog_14_method_92_code 4 (some .int) rm_Mo_offer 1 [(2, 0), (0, p1), (0, p2), (0, p3)] d (some (0, r)) d' := by
  refine MC.of (by decide) (Nat.le_of_ble_eq_true rfl) ?_
  intro p e s m args below meth c D cA ad A C hlk hr
  replace C : Cx p s m args c prog_14_method_92_code 4 "PollBooksModel" D cA ad 1 A := C
  show G p l e rm_Mo_offer s m args below meth c 0 0 (MQ below (fun _ => QC D cA ad 1 A (some .int) (some (0, r)) d') args s 0 0 A) 4 D cA ad 1 A 0 [(2, 0), (0, p1), (0, p2), (0, p3)] [] d
  refine g_sub (lo2 := [(2, 0), (0, p1), (0, p2), (0, p3)]) (lsb_v (lsb_v (lsb_v (lsb_v lsb_e)))) ?_
  unfold L_Mo_offer at h
  refine g_aload_n C 0 rfl (by decide +kernel) ?_
  refine g_iload_n C 1 rfl (by decide +kernel) ?_
  obtain ⟨r6_, d5_, hr7_, h⟩ := bd_some h
  refine g_callV C mw_Mo_isPerson [(0, p1)] 0 cl12 rfl (ok_Mo_isPerson p1 d hp1 hr7_) cd_B0 (by decide) (nB (by decide)) (ix := 331) lk_1805 lk_1807 lkp_62 ⟨rfl, rfl, Nat.le_of_ble_eq_true rfl, Nat.le_of_ble_eq_true rfl⟩ rfl (rest := []) rfl (Nat.le_of_ble_eq_true rfl) ⟨Nat.zero_le _, Nat.zero_le _⟩ (by decide +kernel) (fun _ hc8_ => ?_)
  replace hc8_ : cb r6_ := hc8_
  refine g_st (st2 := [(0, r6_)]) rfl ?_
  refine g_if_eq C (off := 17) (tgt := 22) (c32_cb hc8_) (by decide +kernel) (by decide) (fun hc9_ => ?_) (fun hc9_ => ?_)
  · replace h := ite_t hc9_ h
    refine g_sub (lo2 := [(2, 0), (9, 0), (9, 0), (9, 0)]) (lsb_v (lsb_c (lsb_c (lsb_c lsb_e)))) ?_
    exact ok_Mo_offer_b22 C hlk hr d5_  h
  · replace h := ite_f hc9_ h
    refine g_iload_n C 2 rfl (by decide +kernel) ?_
    obtain ⟨r11_, d10_, hr12_, h⟩ := bd_some h
    refine g_callS C mw_Mo_isSet [(0, p2)] (ok_Mo_isSet p2 d5_ hp2 hr12_) (ix := 523) lk_2065 lk_2066 ⟨rfl, rfl, Nat.le_of_ble_eq_true rfl, Nat.le_of_ble_eq_true rfl⟩ rfl (rest := []) rfl (Nat.le_of_ble_eq_true rfl) ⟨Nat.zero_le _, Nat.zero_le _⟩ (by decide +kernel) (fun _ hc13_ => ?_)
    replace hc13_ : cb r11_ := hc13_
    refine g_st (st2 := [(0, r11_)]) rfl ?_
    refine g_if_eq C (off := 10) (tgt := 22) (c32_cb hc13_) (by decide +kernel) (by decide) (fun hc14_ => ?_) (fun hc14_ => ?_)
    · replace h := ite_t hc14_ h
      refine g_sub (lo2 := [(2, 0), (9, 0), (9, 0), (9, 0)]) (lsb_v (lsb_c (lsb_c (lsb_c lsb_e)))) ?_
      exact ok_Mo_offer_b22 C hlk hr d10_  h
    · replace h := ite_f hc14_ h
      refine g_iload_n C 3 rfl (by decide +kernel) ?_
      obtain ⟨r16_, d15_, hr17_, h⟩ := bd_some h
      refine g_callS C mw_Mo_isMinute [(0, p3)] (ok_Mo_isMinute p3 d10_ hp3 hr17_) (ix := 507) lk_2010 lk_2011 ⟨rfl, rfl, Nat.le_of_ble_eq_true rfl, Nat.le_of_ble_eq_true rfl⟩ rfl (rest := []) rfl (Nat.le_of_ble_eq_true rfl) ⟨Nat.zero_le _, Nat.zero_le _⟩ (by decide +kernel) (fun _ hc18_ => ?_)
      replace hc18_ : cb r16_ := hc18_
      refine g_st (st2 := [(0, r16_)]) rfl ?_
      refine g_if_ne C (off := 9) (tgt := 28) (c32_cb hc18_) (by decide +kernel) (by decide) (fun hc19_ => ?_) (fun hc19_ => ?_)
      · replace h := ite_t hc19_ h
        refine g_sub (lo2 := [(2, 0), (9, 0), (9, 0), (9, 0)]) (lsb_v (lsb_c (lsb_c (lsb_c lsb_e)))) ?_
        exact ok_Mo_offer_b22 C hlk hr d15_  h
      · replace h := ite_f hc19_ h
        refine g_aload_n C 0 rfl (by decide +kernel) ?_
        refine g_getI C cl12 0 87 rfl cd_B0 ⟨by decide, rfl, by decide⟩ rfl (nB (by decide)) (ix := 564) lk_1489 (by decide +kernel) (fun hc20_ => ?_)
        refine g_bipush C 20 (by decide) (by decide +kernel) ?_
        refine g_icmp_ne C (off := 9) (tgt := 43) hc20_ (cK rfl) (by decide +kernel) (by decide) (fun hc21_ => ?_) (fun hc21_ => ?_)
        · replace h := ite_t hc21_ h
          refine g_aload_n C 0 rfl (by decide +kernel) ?_
          refine g_iconst C 4 (cK rfl) (by decide +kernel) ?_
          obtain ⟨r23_, d22_, hr24_, h⟩ := bd_some h
          refine g_callV C mw_Mo_refuse [(0, 4)] 0 cl12 rfl (ok_Mo_refuse 4 d15_ (cK rfl) hr24_) cd_B0 (by decide) (nB (by decide)) (ix := 316) lk_1787 lk_1789 lkp_61 ⟨rfl, rfl, Nat.le_of_ble_eq_true rfl, Nat.le_of_ble_eq_true rfl⟩ rfl (rest := []) rfl (Nat.le_of_ble_eq_true rfl) ⟨Nat.zero_le _, Nat.zero_le _⟩ (by decide +kernel) (fun _ hc25_ => ?_)
          replace hc25_ : c32 r23_ := hc25_
          refine g_st (st2 := [(0, r23_)]) rfl ?_
          obtain ⟨rfl, rfl⟩ := ret_inj h
          exact g_iret C hc25_ hlk hr (by decide +kernel)
        · replace h := ite_f hc21_ h
          refine g_aload_n C 0 rfl (by decide +kernel) ?_
          refine g_getR C cl12 0 81 59 rfl cd_B0 ⟨by decide, rfl, by decide⟩ rfl rfl (nB (by decide)) (ix := 200) lk_1483 (by decide +kernel) ?_
          refine g_aload_n C 0 rfl (by decide +kernel) ?_
          refine g_getI C cl12 0 87 rfl cd_B0 ⟨by decide, rfl, by decide⟩ rfl (nB (by decide)) (ix := 564) lk_1489 (by decide +kernel) (fun hc26_ => ?_)
          refine g_iload_n C 1 rfl (by decide +kernel) ?_
          obtain ⟨hb27_, h⟩ := ck_some h
          refine g_iast C 59 hp1 hc26_ rfl cd_B59 (nB (by decide)) hb27_ (by decide +kernel) ?_
          refine g_aload_n C 0 rfl (by decide +kernel) ?_
          refine g_getR C cl12 0 82 60 rfl cd_B0 ⟨by decide, rfl, by decide⟩ rfl rfl (nB (by decide)) (ix := 203) lk_1484 (by decide +kernel) ?_
          refine g_aload_n C 0 rfl (by decide +kernel) ?_
          refine g_getI C cl12 0 87 rfl cd_B0 ⟨by decide, rfl, by decide⟩ rfl (nB (by decide)) (ix := 564) lk_1489 (by decide +kernel) (fun hc28_ => ?_)
          refine g_val (y := (d15_ 0 87)) rfl ?_
          replace hc28_ : c32 (d15_ 0 87) := hc28_
          refine g_iload_n C 2 rfl (by decide +kernel) ?_
          obtain ⟨hb29_, h⟩ := ck_some h
          refine g_iast C 60 hp2 hc28_ rfl cd_B60 (nB (by decide)) hb29_ (by decide +kernel) ?_
          refine g_aload_n C 0 rfl (by decide +kernel) ?_
          refine g_getR C cl12 0 83 61 rfl cd_B0 ⟨by decide, rfl, by decide⟩ rfl rfl (nB (by decide)) (ix := 206) lk_1485 (by decide +kernel) ?_
          refine g_aload_n C 0 rfl (by decide +kernel) ?_
          refine g_getI C cl12 0 87 rfl cd_B0 ⟨by decide, rfl, by decide⟩ rfl (nB (by decide)) (ix := 564) lk_1489 (by decide +kernel) (fun hc30_ => ?_)
          refine g_val (y := (d15_ 0 87)) rfl ?_
          replace hc30_ : c32 (d15_ 0 87) := hc30_
          refine g_iload_n C 3 rfl (by decide +kernel) ?_
          obtain ⟨hb31_, h⟩ := ck_some h
          refine g_iast C 61 hp3 hc30_ rfl cd_B61 (nB (by decide)) hb31_ (by decide +kernel) ?_
          refine g_aload_n C 0 rfl (by decide +kernel) ?_
          refine g_dup C tg2 (by decide +kernel) ?_
          refine g_getI C cl12 0 87 rfl cd_B0 ⟨by decide, rfl, by decide⟩ rfl (nB (by decide)) (ix := 564) lk_1489 (by decide +kernel) (fun hc32_ => ?_)
          refine g_val (y := (d15_ 0 87)) rfl ?_
          replace hc32_ : c32 (d15_ 0 87) := hc32_
          refine g_iconst C 1 (cK rfl) (by decide +kernel) ?_
          refine g_iadd C (by decide +kernel) ?_
          refine g_putI C cl12 0 87 (w32_c _) rfl cd_B0 ⟨by decide, rfl, by decide⟩ rfl (nB (by decide)) (ix := 564) lk_1489 rfl rfl (by decide +kernel) ?_
          refine g_aload_n C 0 rfl (by decide +kernel) ?_
          refine g_aload_n C 0 rfl (by decide +kernel) ?_
          refine g_getI C cl12 0 87 rfl cd_B0 ⟨by decide, rfl, by decide⟩ rfl (nB (by decide)) (ix := 564) lk_1489 (by decide +kernel) (fun hc33_ => ?_)
          refine g_val (y := (w32 ((d15_ 0 87) + 1))) rfl ?_
          replace hc33_ : c32 (w32 ((d15_ 0 87) + 1)) := hc33_
          refine g_iconst C 1 (cK rfl) (by decide +kernel) ?_
          refine g_isub C (by decide +kernel) ?_
          obtain ⟨r35_, d34_, hr36_, h⟩ := bd_some h
          refine g_callV C mw_Mo_gives [(0, (w32 ((w32 ((d15_ 0 87) + 1)) - 1)))] 0 cl12 rfl (ok_Mo_gives (w32 ((w32 ((d15_ 0 87) + 1)) - 1)) (up2 (up2 (up2 (up2 d15_ 59 ((d15_ 0 87)).toNat p1) 60 ((d15_ 0 87)).toNat p2) 61 ((d15_ 0 87)).toNat p3) 0 87 (w32 ((d15_ 0 87) + 1))) (w32_c _) hr36_) cd_B0 (by decide) (nB (by decide)) (ix := 312) lk_1783 lk_1785 lkp_60 ⟨rfl, rfl, Nat.le_of_ble_eq_true rfl, Nat.le_of_ble_eq_true rfl⟩ rfl (rest := []) rfl (Nat.le_of_ble_eq_true rfl) ⟨Nat.zero_le _, Nat.zero_le _⟩ (by decide +kernel) (fun _ hc37_ => ?_)
          replace hc37_ : c32 r35_ := hc37_
          refine g_st (st2 := [(0, r35_)]) rfl ?_
          obtain ⟨rfl, rfl⟩ := ret_inj h
          exact g_iret C hc37_ hlk hr (by decide +kernel)
