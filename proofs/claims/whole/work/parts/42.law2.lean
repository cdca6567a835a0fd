section CASES2
variable {p : Program} {l : Launch} {e : Env} {s : State} {m : MethodId} {below : List Frame} {meth : Method} {c : Code} {b L : Nat} {xs : Nat → Int32} {D : va_G} {cA : Nat → ClassId} {st0 : Nat → Nat} {cells slots : Nat}
variable {pc i : Nat} {st : List AV} {dA dB : Dt}
set_option maxHeartbeats 8000000 in
set_option maxRecDepth 100000 in
theorem case_15 (C : LC p s m meth c b L xs D cA st0) {Rel : Dt → Dt → Prop} (hsim : Sim_rules Rel) (hi : i + 6 < L) (hc : cells + 7 ≤ 600000 ∧ slots + 710 ≤ 7302250) (hCA : CN 0 dA) (hCB : CN 1 dB) (hRel : Rel dA dB) (kk : ∀ dA' dB', Rel dA' dB' → GL p l e s m below meth c b D cA st0 (cells + 7) (slots + 710) 2222 i [] dA' dB') : GL p l e s m below meth c b D cA st0 cells slots 1022 i [] dA dB := by
  have hL9 := C.2.2.2.2.2.2.2.2.2.2.1
  obtain ⟨r, dA2, dB2, hA2, hB2, hR2⟩ := hsim (XI xs (i + 1)) (XI xs (i + 2)) dA dB XI_c XI_c hCA hCB hRel
  refine l_ld1 C (by decide +kernel) ?_
  refine l_ld0 C (by decide +kernel) ?_
  refine l_i3 C (by decide +kernel) ?_
  refine l_iconst C 1 (by decide +kernel) ?_
  refine l_iadd C (z := ((i + 1 : Nat) : Int)) (ad7 ⟨hi, hL9⟩ 1 (by decide)) (by decide +kernel) ?_
  refine l_iald C (i + 1) (by omega) (by decide +kernel) ?_
  refine l_ld0 C (by decide +kernel) ?_
  refine l_i3 C (by decide +kernel) ?_
  refine l_iconst C 2 (by decide +kernel) ?_
  refine l_iadd C (z := ((i + 2 : Nat) : Int)) (ad7 ⟨hi, hL9⟩ 2 (by decide)) (by decide +kernel) ?_
  refine l_iald C (i + 2) (by omega) (by decide +kernel) ?_
  refine l_callA C mw_PB_rules [(0, XI xs (i + 1)), (0, XI xs (i + 2))] (ok_PB_rules (XI xs (i + 1)) (XI xs (i + 2)) dA XI_c XI_c hA2) (tgC (by decide) (tgC (by decide) tgN)) (tgC (by decide) tgN) (ix := 89) lk_874 lk_875 lk_876 ⟨rfl, rfl, Nat.le_of_ble_eq_true rfl, Nat.le_of_ble_eq_true rfl⟩ rfl (st := []) rfl (show 0 ≤ 8 by decide) ⟨Nat.le_trans (by omega) rm_c, Nat.le_trans (by omega) rm_s⟩ (by decide +kernel) (fun _ => ?_)
  refine l_ld2 C (by decide +kernel) ?_
  refine l_ld0 C (by decide +kernel) ?_
  refine l_i3 C (by decide +kernel) ?_
  refine l_iconst C 1 (by decide +kernel) ?_
  refine l_iadd C (z := ((i + 1 : Nat) : Int)) (ad7 ⟨hi, hL9⟩ 1 (by decide)) (by decide +kernel) ?_
  refine l_iald C (i + 1) (by omega) (by decide +kernel) ?_
  refine l_ld0 C (by decide +kernel) ?_
  refine l_i3 C (by decide +kernel) ?_
  refine l_iconst C 2 (by decide +kernel) ?_
  refine l_iadd C (z := ((i + 2 : Nat) : Int)) (ad7 ⟨hi, hL9⟩ 2 (by decide)) (by decide +kernel) ?_
  refine l_iald C (i + 2) (by omega) (by decide +kernel) ?_
  refine l_callB C mw_Mo_rules [(0, XI xs (i + 1)), (0, XI xs (i + 2))] (ok_Mo_rules (XI xs (i + 1)) (XI xs (i + 2)) dB XI_c XI_c hB2) (tgC (by decide) (tgC (by decide) tgN)) (tgC (by decide) tgN) (ix := 93) lk_1990 lk_1991 lk_1992 ⟨rfl, rfl, Nat.le_of_ble_eq_true rfl, Nat.le_of_ble_eq_true rfl⟩ rfl (st := [(0, r)]) rfl (show (1 + 0) ≤ 8 by decide) ⟨Nat.le_trans (by omega) rm_c, Nat.le_trans (by omega) rm_s⟩ (by decide +kernel) (fun _ => ?_)
  refine l_icmpeq C (off := 1172) (tgt := 2222) (by decide +kernel) (by decide) ?_
  refine l_widen (k := cells + 7) (n := slots + 710) (by omega) (by omega) ?_
  exact kk dA2 dB2 hR2
set_option maxHeartbeats 8000000 in
set_option maxRecDepth 100000 in
theorem case_16 (C : LC p s m meth c b L xs D cA st0) {Rel : Dt → Dt → Prop} (hsim : Sim_struck Rel) (hi : i + 6 < L) (hc : cells + 7 ≤ 600000 ∧ slots + 710 ≤ 7302250) (hCA : CN 0 dA) (hCB : CN 1 dB) (hRel : Rel dA dB) (kk : ∀ dA' dB', Rel dA' dB' → GL p l e s m below meth c b D cA st0 (cells + 7) (slots + 710) 2222 i [] dA' dB') : GL p l e s m below meth c b D cA st0 cells slots 1055 i [] dA dB := by
  have hL9 := C.2.2.2.2.2.2.2.2.2.2.1
  obtain ⟨r, dA2, dB2, hA2, hB2, hR2⟩ := hsim (XI xs (i + 1)) (XI xs (i + 2)) (XI xs (i + 3)) dA dB XI_c XI_c XI_c hCA hCB hRel
  refine l_ld1 C (by decide +kernel) ?_
  refine l_ld0 C (by decide +kernel) ?_
  refine l_i3 C (by decide +kernel) ?_
  refine l_iconst C 1 (by decide +kernel) ?_
  refine l_iadd C (z := ((i + 1 : Nat) : Int)) (ad7 ⟨hi, hL9⟩ 1 (by decide)) (by decide +kernel) ?_
  refine l_iald C (i + 1) (by omega) (by decide +kernel) ?_
  refine l_ld0 C (by decide +kernel) ?_
  refine l_i3 C (by decide +kernel) ?_
  refine l_iconst C 2 (by decide +kernel) ?_
  refine l_iadd C (z := ((i + 2 : Nat) : Int)) (ad7 ⟨hi, hL9⟩ 2 (by decide)) (by decide +kernel) ?_
  refine l_iald C (i + 2) (by omega) (by decide +kernel) ?_
  refine l_ld0 C (by decide +kernel) ?_
  refine l_i3 C (by decide +kernel) ?_
  refine l_iconst C 3 (by decide +kernel) ?_
  refine l_iadd C (z := ((i + 3 : Nat) : Int)) (ad7 ⟨hi, hL9⟩ 3 (by decide)) (by decide +kernel) ?_
  refine l_iald C (i + 3) (by omega) (by decide +kernel) ?_
  refine l_callA C mw_PB_struck [(0, XI xs (i + 1)), (0, XI xs (i + 2)), (0, XI xs (i + 3))] (ok_PB_struck (XI xs (i + 1)) (XI xs (i + 2)) (XI xs (i + 3)) dA XI_c XI_c XI_c hA2) (tgC (by decide) (tgC (by decide) (tgC (by decide) tgN))) (tgC (by decide) tgN) (ix := 94) lk_894 lk_895 lk_896 ⟨rfl, rfl, Nat.le_of_ble_eq_true rfl, Nat.le_of_ble_eq_true rfl⟩ rfl (st := []) rfl (show 0 ≤ 8 by decide) ⟨Nat.le_trans (by omega) rm_c, Nat.le_trans (by omega) rm_s⟩ (by decide +kernel) (fun _ => ?_)
  refine l_ld2 C (by decide +kernel) ?_
  refine l_ld0 C (by decide +kernel) ?_
  refine l_i3 C (by decide +kernel) ?_
  refine l_iconst C 1 (by decide +kernel) ?_
  refine l_iadd C (z := ((i + 1 : Nat) : Int)) (ad7 ⟨hi, hL9⟩ 1 (by decide)) (by decide +kernel) ?_
  refine l_iald C (i + 1) (by omega) (by decide +kernel) ?_
  refine l_ld0 C (by decide +kernel) ?_
  refine l_i3 C (by decide +kernel) ?_
  refine l_iconst C 2 (by decide +kernel) ?_
  refine l_iadd C (z := ((i + 2 : Nat) : Int)) (ad7 ⟨hi, hL9⟩ 2 (by decide)) (by decide +kernel) ?_
  refine l_iald C (i + 2) (by omega) (by decide +kernel) ?_
  refine l_ld0 C (by decide +kernel) ?_
  refine l_i3 C (by decide +kernel) ?_
  refine l_iconst C 3 (by decide +kernel) ?_
  refine l_iadd C (z := ((i + 3 : Nat) : Int)) (ad7 ⟨hi, hL9⟩ 3 (by decide)) (by decide +kernel) ?_
  refine l_iald C (i + 3) (by omega) (by decide +kernel) ?_
  refine l_callB C mw_Mo_struck [(0, XI xs (i + 1)), (0, XI xs (i + 2)), (0, XI xs (i + 3))] (ok_Mo_struck (XI xs (i + 1)) (XI xs (i + 2)) (XI xs (i + 3)) dB XI_c XI_c XI_c hB2) (tgC (by decide) (tgC (by decide) (tgC (by decide) tgN))) (tgC (by decide) tgN) (ix := 97) lk_1998 lk_1999 lk_2000 ⟨rfl, rfl, Nat.le_of_ble_eq_true rfl, Nat.le_of_ble_eq_true rfl⟩ rfl (st := [(0, r)]) rfl (show (1 + 0) ≤ 8 by decide) ⟨Nat.le_trans (by omega) rm_c, Nat.le_trans (by omega) rm_s⟩ (by decide +kernel) (fun _ => ?_)
  refine l_icmpeq C (off := 1129) (tgt := 2222) (by decide +kernel) (by decide) ?_
  refine l_widen (k := cells + 7) (n := slots + 710) (by omega) (by omega) ?_
  exact kk dA2 dB2 hR2
set_option maxHeartbeats 8000000 in
set_option maxRecDepth 100000 in
theorem case_17 (C : LC p s m meth c b L xs D cA st0) {Rel : Dt → Dt → Prop} (hsim : Sim_right Rel) (hi : i + 6 < L) (hc : cells + 7 ≤ 600000 ∧ slots + 710 ≤ 7302250) (hCA : CN 0 dA) (hCB : CN 1 dB) (hRel : Rel dA dB) (kk : ∀ dA' dB', Rel dA' dB' → GL p l e s m below meth c b D cA st0 (cells + 7) (slots + 710) 2222 i [] dA' dB') : GL p l e s m below meth c b D cA st0 cells slots 1098 i [] dA dB := by
  have hL9 := C.2.2.2.2.2.2.2.2.2.2.1
  obtain ⟨r, dA2, dB2, hA2, hB2, hR2⟩ := hsim (XI xs (i + 1)) (XI xs (i + 2)) (XI xs (i + 3)) (XI xs (i + 4)) dA dB XI_c XI_c XI_c XI_c hCA hCB hRel
  refine l_ld1 C (by decide +kernel) ?_
  refine l_ld0 C (by decide +kernel) ?_
  refine l_i3 C (by decide +kernel) ?_
  refine l_iconst C 1 (by decide +kernel) ?_
  refine l_iadd C (z := ((i + 1 : Nat) : Int)) (ad7 ⟨hi, hL9⟩ 1 (by decide)) (by decide +kernel) ?_
  refine l_iald C (i + 1) (by omega) (by decide +kernel) ?_
  refine l_ld0 C (by decide +kernel) ?_
  refine l_i3 C (by decide +kernel) ?_
  refine l_iconst C 2 (by decide +kernel) ?_
  refine l_iadd C (z := ((i + 2 : Nat) : Int)) (ad7 ⟨hi, hL9⟩ 2 (by decide)) (by decide +kernel) ?_
  refine l_iald C (i + 2) (by omega) (by decide +kernel) ?_
  refine l_ld0 C (by decide +kernel) ?_
  refine l_i3 C (by decide +kernel) ?_
  refine l_iconst C 3 (by decide +kernel) ?_
  refine l_iadd C (z := ((i + 3 : Nat) : Int)) (ad7 ⟨hi, hL9⟩ 3 (by decide)) (by decide +kernel) ?_
  refine l_iald C (i + 3) (by omega) (by decide +kernel) ?_
  refine l_ld0 C (by decide +kernel) ?_
  refine l_i3 C (by decide +kernel) ?_
  refine l_iconst C 4 (by decide +kernel) ?_
  refine l_iadd C (z := ((i + 4 : Nat) : Int)) (ad7 ⟨hi, hL9⟩ 4 (by decide)) (by decide +kernel) ?_
  refine l_iald C (i + 4) (by omega) (by decide +kernel) ?_
  refine l_callA C mw_PB_right [(0, XI xs (i + 1)), (0, XI xs (i + 2)), (0, XI xs (i + 3)), (0, XI xs (i + 4))] (ok_PB_right (XI xs (i + 1)) (XI xs (i + 2)) (XI xs (i + 3)) (XI xs (i + 4)) dA XI_c XI_c XI_c XI_c hA2) (tgC (by decide) (tgC (by decide) (tgC (by decide) (tgC (by decide) tgN)))) (tgC (by decide) tgN) (ix := 98) lk_903 lk_904 lk_905 ⟨rfl, rfl, Nat.le_of_ble_eq_true rfl, Nat.le_of_ble_eq_true rfl⟩ rfl (st := []) rfl (show 0 ≤ 8 by decide) ⟨Nat.le_trans (by omega) rm_c, Nat.le_trans (by omega) rm_s⟩ (by decide +kernel) (fun _ => ?_)
  refine l_ld2 C (by decide +kernel) ?_
  refine l_ld0 C (by decide +kernel) ?_
  refine l_i3 C (by decide +kernel) ?_
  refine l_iconst C 1 (by decide +kernel) ?_
  refine l_iadd C (z := ((i + 1 : Nat) : Int)) (ad7 ⟨hi, hL9⟩ 1 (by decide)) (by decide +kernel) ?_
  refine l_iald C (i + 1) (by omega) (by decide +kernel) ?_
  refine l_ld0 C (by decide +kernel) ?_
  refine l_i3 C (by decide +kernel) ?_
  refine l_iconst C 2 (by decide +kernel) ?_
  refine l_iadd C (z := ((i + 2 : Nat) : Int)) (ad7 ⟨hi, hL9⟩ 2 (by decide)) (by decide +kernel) ?_
  refine l_iald C (i + 2) (by omega) (by decide +kernel) ?_
  refine l_ld0 C (by decide +kernel) ?_
  refine l_i3 C (by decide +kernel) ?_
  refine l_iconst C 3 (by decide +kernel) ?_
  refine l_iadd C (z := ((i + 3 : Nat) : Int)) (ad7 ⟨hi, hL9⟩ 3 (by decide)) (by decide +kernel) ?_
  refine l_iald C (i + 3) (by omega) (by decide +kernel) ?_
  refine l_ld0 C (by decide +kernel) ?_
  refine l_i3 C (by decide +kernel) ?_
  refine l_iconst C 4 (by decide +kernel) ?_
  refine l_iadd C (z := ((i + 4 : Nat) : Int)) (ad7 ⟨hi, hL9⟩ 4 (by decide)) (by decide +kernel) ?_
  refine l_iald C (i + 4) (by omega) (by decide +kernel) ?_
  refine l_callB C mw_Mo_right [(0, XI xs (i + 1)), (0, XI xs (i + 2)), (0, XI xs (i + 3)), (0, XI xs (i + 4))] (ok_Mo_right (XI xs (i + 1)) (XI xs (i + 2)) (XI xs (i + 3)) (XI xs (i + 4)) dB XI_c XI_c XI_c XI_c hB2) (tgC (by decide) (tgC (by decide) (tgC (by decide) (tgC (by decide) tgN)))) (tgC (by decide) tgN) (ix := 101) lk_2002 lk_2003 lk_2004 ⟨rfl, rfl, Nat.le_of_ble_eq_true rfl, Nat.le_of_ble_eq_true rfl⟩ rfl (st := [(0, r)]) rfl (show (1 + 0) ≤ 8 by decide) ⟨Nat.le_trans (by omega) rm_c, Nat.le_trans (by omega) rm_s⟩ (by decide +kernel) (fun _ => ?_)
  refine l_icmpeq C (off := 1076) (tgt := 2222) (by decide +kernel) (by decide) ?_
  refine l_widen (k := cells + 7) (n := slots + 710) (by omega) (by omega) ?_
  exact kk dA2 dB2 hR2
set_option maxHeartbeats 8000000 in
set_option maxRecDepth 100000 in
theorem case_18 (C : LC p s m meth c b L xs D cA st0) {Rel : Dt → Dt → Prop} (hsim : Sim_why Rel) (hi : i + 6 < L) (hc : cells + 7 ≤ 600000 ∧ slots + 710 ≤ 7302250) (hCA : CN 0 dA) (hCB : CN 1 dB) (hRel : Rel dA dB) (kk : ∀ dA' dB', Rel dA' dB' → GL p l e s m below meth c b D cA st0 (cells + 7) (slots + 710) 2222 i [] dA' dB') : GL p l e s m below meth c b D cA st0 cells slots 1151 i [] dA dB := by
  have hL9 := C.2.2.2.2.2.2.2.2.2.2.1
  obtain ⟨r, dA2, dB2, hA2, hB2, hR2⟩ := hsim (XI xs (i + 1)) (XI xs (i + 2)) (XI xs (i + 3)) (XI xs (i + 4)) dA dB XI_c XI_c XI_c XI_c hCA hCB hRel
  refine l_ld1 C (by decide +kernel) ?_
  refine l_ld0 C (by decide +kernel) ?_
  refine l_i3 C (by decide +kernel) ?_
  refine l_iconst C 1 (by decide +kernel) ?_
  refine l_iadd C (z := ((i + 1 : Nat) : Int)) (ad7 ⟨hi, hL9⟩ 1 (by decide)) (by decide +kernel) ?_
  refine l_iald C (i + 1) (by omega) (by decide +kernel) ?_
  refine l_ld0 C (by decide +kernel) ?_
  refine l_i3 C (by decide +kernel) ?_
  refine l_iconst C 2 (by decide +kernel) ?_
  refine l_iadd C (z := ((i + 2 : Nat) : Int)) (ad7 ⟨hi, hL9⟩ 2 (by decide)) (by decide +kernel) ?_
  refine l_iald C (i + 2) (by omega) (by decide +kernel) ?_
  refine l_ld0 C (by decide +kernel) ?_
  refine l_i3 C (by decide +kernel) ?_
  refine l_iconst C 3 (by decide +kernel) ?_
  refine l_iadd C (z := ((i + 3 : Nat) : Int)) (ad7 ⟨hi, hL9⟩ 3 (by decide)) (by decide +kernel) ?_
  refine l_iald C (i + 3) (by omega) (by decide +kernel) ?_
  refine l_ld0 C (by decide +kernel) ?_
  refine l_i3 C (by decide +kernel) ?_
  refine l_iconst C 4 (by decide +kernel) ?_
  refine l_iadd C (z := ((i + 4 : Nat) : Int)) (ad7 ⟨hi, hL9⟩ 4 (by decide)) (by decide +kernel) ?_
  refine l_iald C (i + 4) (by omega) (by decide +kernel) ?_
  refine l_callA C mw_PB_why [(0, XI xs (i + 1)), (0, XI xs (i + 2)), (0, XI xs (i + 3)), (0, XI xs (i + 4))] (ok_PB_why (XI xs (i + 1)) (XI xs (i + 2)) (XI xs (i + 3)) (XI xs (i + 4)) dA XI_c XI_c XI_c XI_c hA2) (tgC (by decide) (tgC (by decide) (tgC (by decide) (tgC (by decide) tgN)))) (tgC (by decide) tgN) (ix := 102) lk_957 lk_958 lk_959 ⟨rfl, rfl, Nat.le_of_ble_eq_true rfl, Nat.le_of_ble_eq_true rfl⟩ rfl (st := []) rfl (show 0 ≤ 8 by decide) ⟨Nat.le_trans (by omega) rm_c, Nat.le_trans (by omega) rm_s⟩ (by decide +kernel) (fun _ => ?_)
  refine l_ld2 C (by decide +kernel) ?_
  refine l_ld0 C (by decide +kernel) ?_
  refine l_i3 C (by decide +kernel) ?_
  refine l_iconst C 1 (by decide +kernel) ?_
  refine l_iadd C (z := ((i + 1 : Nat) : Int)) (ad7 ⟨hi, hL9⟩ 1 (by decide)) (by decide +kernel) ?_
  refine l_iald C (i + 1) (by omega) (by decide +kernel) ?_
  refine l_ld0 C (by decide +kernel) ?_
  refine l_i3 C (by decide +kernel) ?_
  refine l_iconst C 2 (by decide +kernel) ?_
  refine l_iadd C (z := ((i + 2 : Nat) : Int)) (ad7 ⟨hi, hL9⟩ 2 (by decide)) (by decide +kernel) ?_
  refine l_iald C (i + 2) (by omega) (by decide +kernel) ?_
  refine l_ld0 C (by decide +kernel) ?_
  refine l_i3 C (by decide +kernel) ?_
  refine l_iconst C 3 (by decide +kernel) ?_
  refine l_iadd C (z := ((i + 3 : Nat) : Int)) (ad7 ⟨hi, hL9⟩ 3 (by decide)) (by decide +kernel) ?_
  refine l_iald C (i + 3) (by omega) (by decide +kernel) ?_
  refine l_ld0 C (by decide +kernel) ?_
  refine l_i3 C (by decide +kernel) ?_
  refine l_iconst C 4 (by decide +kernel) ?_
  refine l_iadd C (z := ((i + 4 : Nat) : Int)) (ad7 ⟨hi, hL9⟩ 4 (by decide)) (by decide +kernel) ?_
  refine l_iald C (i + 4) (by omega) (by decide +kernel) ?_
  refine l_callB C mw_Mo_why [(0, XI xs (i + 1)), (0, XI xs (i + 2)), (0, XI xs (i + 3)), (0, XI xs (i + 4))] (ok_Mo_why (XI xs (i + 1)) (XI xs (i + 2)) (XI xs (i + 3)) (XI xs (i + 4)) dB XI_c XI_c XI_c XI_c hB2) (tgC (by decide) (tgC (by decide) (tgC (by decide) (tgC (by decide) tgN)))) (tgC (by decide) tgN) (ix := 105) lk_2041 lk_2042 lk_2043 ⟨rfl, rfl, Nat.le_of_ble_eq_true rfl, Nat.le_of_ble_eq_true rfl⟩ rfl (st := [(0, r)]) rfl (show (1 + 0) ≤ 8 by decide) ⟨Nat.le_trans (by omega) rm_c, Nat.le_trans (by omega) rm_s⟩ (by decide +kernel) (fun _ => ?_)
  refine l_icmpeq C (off := 1023) (tgt := 2222) (by decide +kernel) (by decide) ?_
  refine l_widen (k := cells + 7) (n := slots + 710) (by omega) (by omega) ?_
  exact kk dA2 dB2 hR2
set_option maxHeartbeats 8000000 in
set_option maxRecDepth 100000 in
theorem case_19 (C : LC p s m meth c b L xs D cA st0) {Rel : Dt → Dt → Prop} (hsim : Sim_voided Rel) (hi : i + 6 < L) (hc : cells + 7 ≤ 600000 ∧ slots + 710 ≤ 7302250) (hCA : CN 0 dA) (hCB : CN 1 dB) (hRel : Rel dA dB) (kk : ∀ dA' dB', Rel dA' dB' → GL p l e s m below meth c b D cA st0 (cells + 7) (slots + 710) 2222 i [] dA' dB') : GL p l e s m below meth c b D cA st0 cells slots 1204 i [] dA dB := by
  have hL9 := C.2.2.2.2.2.2.2.2.2.2.1
  obtain ⟨r, dA2, dB2, hA2, hB2, hR2⟩ := hsim (XI xs (i + 1)) (XI xs (i + 2)) (XI xs (i + 3)) (XI xs (i + 4)) dA dB XI_c XI_c XI_c XI_c hCA hCB hRel
  refine l_ld1 C (by decide +kernel) ?_
  refine l_ld0 C (by decide +kernel) ?_
  refine l_i3 C (by decide +kernel) ?_
  refine l_iconst C 1 (by decide +kernel) ?_
  refine l_iadd C (z := ((i + 1 : Nat) : Int)) (ad7 ⟨hi, hL9⟩ 1 (by decide)) (by decide +kernel) ?_
  refine l_iald C (i + 1) (by omega) (by decide +kernel) ?_
  refine l_ld0 C (by decide +kernel) ?_
  refine l_i3 C (by decide +kernel) ?_
  refine l_iconst C 2 (by decide +kernel) ?_
  refine l_iadd C (z := ((i + 2 : Nat) : Int)) (ad7 ⟨hi, hL9⟩ 2 (by decide)) (by decide +kernel) ?_
  refine l_iald C (i + 2) (by omega) (by decide +kernel) ?_
  refine l_ld0 C (by decide +kernel) ?_
  refine l_i3 C (by decide +kernel) ?_
  refine l_iconst C 3 (by decide +kernel) ?_
  refine l_iadd C (z := ((i + 3 : Nat) : Int)) (ad7 ⟨hi, hL9⟩ 3 (by decide)) (by decide +kernel) ?_
  refine l_iald C (i + 3) (by omega) (by decide +kernel) ?_
  refine l_ld0 C (by decide +kernel) ?_
  refine l_i3 C (by decide +kernel) ?_
  refine l_iconst C 4 (by decide +kernel) ?_
  refine l_iadd C (z := ((i + 4 : Nat) : Int)) (ad7 ⟨hi, hL9⟩ 4 (by decide)) (by decide +kernel) ?_
  refine l_iald C (i + 4) (by omega) (by decide +kernel) ?_
  refine l_callA C mw_PB_voided [(0, XI xs (i + 1)), (0, XI xs (i + 2)), (0, XI xs (i + 3)), (0, XI xs (i + 4))] (ok_PB_voided (XI xs (i + 1)) (XI xs (i + 2)) (XI xs (i + 3)) (XI xs (i + 4)) dA XI_c XI_c XI_c XI_c hA2) (tgC (by decide) (tgC (by decide) (tgC (by decide) (tgC (by decide) tgN)))) (tgC (by decide) tgN) (ix := 106) lk_965 lk_966 lk_967 ⟨rfl, rfl, Nat.le_of_ble_eq_true rfl, Nat.le_of_ble_eq_true rfl⟩ rfl (st := []) rfl (show 0 ≤ 8 by decide) ⟨Nat.le_trans (by omega) rm_c, Nat.le_trans (by omega) rm_s⟩ (by decide +kernel) (fun _ => ?_)
  refine l_ld2 C (by decide +kernel) ?_
  refine l_ld0 C (by decide +kernel) ?_
  refine l_i3 C (by decide +kernel) ?_
  refine l_iconst C 1 (by decide +kernel) ?_
  refine l_iadd C (z := ((i + 1 : Nat) : Int)) (ad7 ⟨hi, hL9⟩ 1 (by decide)) (by decide +kernel) ?_
  refine l_iald C (i + 1) (by omega) (by decide +kernel) ?_
  refine l_ld0 C (by decide +kernel) ?_
  refine l_i3 C (by decide +kernel) ?_
  refine l_iconst C 2 (by decide +kernel) ?_
  refine l_iadd C (z := ((i + 2 : Nat) : Int)) (ad7 ⟨hi, hL9⟩ 2 (by decide)) (by decide +kernel) ?_
  refine l_iald C (i + 2) (by omega) (by decide +kernel) ?_
  refine l_ld0 C (by decide +kernel) ?_
  refine l_i3 C (by decide +kernel) ?_
  refine l_iconst C 3 (by decide +kernel) ?_
  refine l_iadd C (z := ((i + 3 : Nat) : Int)) (ad7 ⟨hi, hL9⟩ 3 (by decide)) (by decide +kernel) ?_
  refine l_iald C (i + 3) (by omega) (by decide +kernel) ?_
  refine l_ld0 C (by decide +kernel) ?_
  refine l_i3 C (by decide +kernel) ?_
  refine l_iconst C 4 (by decide +kernel) ?_
  refine l_iadd C (z := ((i + 4 : Nat) : Int)) (ad7 ⟨hi, hL9⟩ 4 (by decide)) (by decide +kernel) ?_
  refine l_iald C (i + 4) (by omega) (by decide +kernel) ?_
  refine l_callB C mw_Mo_voided [(0, XI xs (i + 1)), (0, XI xs (i + 2)), (0, XI xs (i + 3)), (0, XI xs (i + 4))] (ok_Mo_voided (XI xs (i + 1)) (XI xs (i + 2)) (XI xs (i + 3)) (XI xs (i + 4)) dB XI_c XI_c XI_c XI_c hB2) (tgC (by decide) (tgC (by decide) (tgC (by decide) (tgC (by decide) tgN)))) (tgC (by decide) tgN) (ix := 109) lk_2045 lk_2046 lk_2047 ⟨rfl, rfl, Nat.le_of_ble_eq_true rfl, Nat.le_of_ble_eq_true rfl⟩ rfl (st := [(0, r)]) rfl (show (1 + 0) ≤ 8 by decide) ⟨Nat.le_trans (by omega) rm_c, Nat.le_trans (by omega) rm_s⟩ (by decide +kernel) (fun _ => ?_)
  refine l_icmpeq C (off := 970) (tgt := 2222) (by decide +kernel) (by decide) ?_
  refine l_widen (k := cells + 7) (n := slots + 710) (by omega) (by omega) ?_
  exact kk dA2 dB2 hR2
set_option maxHeartbeats 8000000 in
set_option maxRecDepth 100000 in
theorem case_20 (C : LC p s m meth c b L xs D cA st0) {Rel : Dt → Dt → Prop} (hsim : Sim_names Rel) (hi : i + 6 < L) (hc : cells + 7 ≤ 600000 ∧ slots + 710 ≤ 7302250) (hCA : CN 0 dA) (hCB : CN 1 dB) (hRel : Rel dA dB) (kk : ∀ dA' dB', Rel dA' dB' → GL p l e s m below meth c b D cA st0 (cells + 7) (slots + 710) 2222 i [] dA' dB') : GL p l e s m below meth c b D cA st0 cells slots 1257 i [] dA dB := by
  have hL9 := C.2.2.2.2.2.2.2.2.2.2.1
  obtain ⟨r, dA2, dB2, hA2, hB2, hR2⟩ := hsim (XI xs (i + 1)) (XI xs (i + 2)) dA dB XI_c XI_c hCA hCB hRel
  refine l_ld1 C (by decide +kernel) ?_
  refine l_ld0 C (by decide +kernel) ?_
  refine l_i3 C (by decide +kernel) ?_
  refine l_iconst C 1 (by decide +kernel) ?_
  refine l_iadd C (z := ((i + 1 : Nat) : Int)) (ad7 ⟨hi, hL9⟩ 1 (by decide)) (by decide +kernel) ?_
  refine l_iald C (i + 1) (by omega) (by decide +kernel) ?_
  refine l_ld0 C (by decide +kernel) ?_
  refine l_i3 C (by decide +kernel) ?_
  refine l_iconst C 2 (by decide +kernel) ?_
  refine l_iadd C (z := ((i + 2 : Nat) : Int)) (ad7 ⟨hi, hL9⟩ 2 (by decide)) (by decide +kernel) ?_
  refine l_iald C (i + 2) (by omega) (by decide +kernel) ?_
  refine l_callA C mw_PB_names [(0, XI xs (i + 1)), (0, XI xs (i + 2))] (ok_PB_names (XI xs (i + 1)) (XI xs (i + 2)) dA XI_c XI_c hA2) (tgC (by decide) (tgC (by decide) tgN)) (tgC (by decide) tgN) (ix := 110) lk_973 lk_974 lk_975 ⟨rfl, rfl, Nat.le_of_ble_eq_true rfl, Nat.le_of_ble_eq_true rfl⟩ rfl (st := []) rfl (show 0 ≤ 8 by decide) ⟨Nat.le_trans (by omega) rm_c, Nat.le_trans (by omega) rm_s⟩ (by decide +kernel) (fun _ => ?_)
  refine l_ld2 C (by decide +kernel) ?_
  refine l_ld0 C (by decide +kernel) ?_
  refine l_i3 C (by decide +kernel) ?_
  refine l_iconst C 1 (by decide +kernel) ?_
  refine l_iadd C (z := ((i + 1 : Nat) : Int)) (ad7 ⟨hi, hL9⟩ 1 (by decide)) (by decide +kernel) ?_
  refine l_iald C (i + 1) (by omega) (by decide +kernel) ?_
  refine l_ld0 C (by decide +kernel) ?_
  refine l_i3 C (by decide +kernel) ?_
  refine l_iconst C 2 (by decide +kernel) ?_
  refine l_iadd C (z := ((i + 2 : Nat) : Int)) (ad7 ⟨hi, hL9⟩ 2 (by decide)) (by decide +kernel) ?_
  refine l_iald C (i + 2) (by omega) (by decide +kernel) ?_
  refine l_callB C mw_Mo_names [(0, XI xs (i + 1)), (0, XI xs (i + 2))] (ok_Mo_names (XI xs (i + 1)) (XI xs (i + 2)) dB XI_c XI_c hB2) (tgC (by decide) (tgC (by decide) tgN)) (tgC (by decide) tgN) (ix := 113) lk_2053 lk_2054 lk_2055 ⟨rfl, rfl, Nat.le_of_ble_eq_true rfl, Nat.le_of_ble_eq_true rfl⟩ rfl (st := [(0, r)]) rfl (show (1 + 0) ≤ 8 by decide) ⟨Nat.le_trans (by omega) rm_c, Nat.le_trans (by omega) rm_s⟩ (by decide +kernel) (fun _ => ?_)
  refine l_icmpeq C (off := 937) (tgt := 2222) (by decide +kernel) (by decide) ?_
  refine l_widen (k := cells + 7) (n := slots + 710) (by omega) (by omega) ?_
  exact kk dA2 dB2 hR2
set_option maxHeartbeats 8000000 in
set_option maxRecDepth 100000 in
theorem case_21 (C : LC p s m meth c b L xs D cA st0) {Rel : Dt → Dt → Prop} (hsim : Sim_entry Rel) (hi : i + 6 < L) (hc : cells + 7 ≤ 600000 ∧ slots + 710 ≤ 7302250) (hCA : CN 0 dA) (hCB : CN 1 dB) (hRel : Rel dA dB) (kk : ∀ dA' dB', Rel dA' dB' → GL p l e s m below meth c b D cA st0 (cells + 7) (slots + 710) 2222 i [] dA' dB') : GL p l e s m below meth c b D cA st0 cells slots 1290 i [] dA dB := by
  have hL9 := C.2.2.2.2.2.2.2.2.2.2.1
  obtain ⟨r, dA2, dB2, hA2, hB2, hR2⟩ := hsim (XI xs (i + 1)) (lor (lshl (XI xs (i + 2)) 32) (land (XI xs (i + 3)) (4294967295))) (XI xs (i + 4)) (XI xs (i + 5)) (XI xs (i + 6)) dA dB XI_c (l_c _) XI_c XI_c XI_c hCA hCB hRel
  refine l_ld1 C (by decide +kernel) ?_
  refine l_ld0 C (by decide +kernel) ?_
  refine l_i3 C (by decide +kernel) ?_
  refine l_iconst C 1 (by decide +kernel) ?_
  refine l_iadd C (z := ((i + 1 : Nat) : Int)) (ad7 ⟨hi, hL9⟩ 1 (by decide)) (by decide +kernel) ?_
  refine l_iald C (i + 1) (by omega) (by decide +kernel) ?_
  refine l_ld0 C (by decide +kernel) ?_
  refine l_i3 C (by decide +kernel) ?_
  refine l_iconst C 2 (by decide +kernel) ?_
  refine l_iadd C (z := ((i + 2 : Nat) : Int)) (ad7 ⟨hi, hL9⟩ 2 (by decide)) (by decide +kernel) ?_
  refine l_iald C (i + 2) (by omega) (by decide +kernel) ?_
  refine l_i2l C XI_c (by decide +kernel) ?_
  refine l_bipush C 32 (by decide) (by decide +kernel) ?_
  refine l_lshl C (by decide +kernel) ?_
  refine l_ld0 C (by decide +kernel) ?_
  refine l_i3 C (by decide +kernel) ?_
  refine l_iconst C 3 (by decide +kernel) ?_
  refine l_iadd C (z := ((i + 3 : Nat) : Int)) (ad7 ⟨hi, hL9⟩ 3 (by decide)) (by decide +kernel) ?_
  refine l_iald C (i + 3) (by omega) (by decide +kernel) ?_
  refine l_i2l C XI_c (by decide +kernel) ?_
  refine l_ldc2 C (ix := 23) (v := 4294967295) lk_2251 (by decide +kernel) ?_
  refine l_land C (by decide +kernel) ?_
  refine l_lor C (by decide +kernel) ?_
  refine l_ld0 C (by decide +kernel) ?_
  refine l_i3 C (by decide +kernel) ?_
  refine l_iconst C 4 (by decide +kernel) ?_
  refine l_iadd C (z := ((i + 4 : Nat) : Int)) (ad7 ⟨hi, hL9⟩ 4 (by decide)) (by decide +kernel) ?_
  refine l_iald C (i + 4) (by omega) (by decide +kernel) ?_
  refine l_ld0 C (by decide +kernel) ?_
  refine l_i3 C (by decide +kernel) ?_
  refine l_iconst C 5 (by decide +kernel) ?_
  refine l_iadd C (z := ((i + 5 : Nat) : Int)) (ad7 ⟨hi, hL9⟩ 5 (by decide)) (by decide +kernel) ?_
  refine l_iald C (i + 5) (by omega) (by decide +kernel) ?_
  refine l_ld0 C (by decide +kernel) ?_
  refine l_i3 C (by decide +kernel) ?_
  refine l_bipush C 6 (by decide) (by decide +kernel) ?_
  refine l_iadd C (z := ((i + 6 : Nat) : Int)) (ad7 ⟨hi, hL9⟩ 6 (by decide)) (by decide +kernel) ?_
  refine l_iald C (i + 6) (by omega) (by decide +kernel) ?_
  refine l_callA C mw_PB_entry [(0, XI xs (i + 1)), (1, lor (lshl (XI xs (i + 2)) 32) (land (XI xs (i + 3)) (4294967295))), (0, XI xs (i + 4)), (0, XI xs (i + 5)), (0, XI xs (i + 6))] (ok_PB_entry (XI xs (i + 1)) (lor (lshl (XI xs (i + 2)) 32) (land (XI xs (i + 3)) (4294967295))) (XI xs (i + 4)) (XI xs (i + 5)) (XI xs (i + 6)) dA XI_c (l_c _) XI_c XI_c XI_c hA2) (tgC (by decide) (tgC (by decide) (tgC (by decide) (tgC (by decide) (tgC (by decide) tgN))))) (tgC (by decide) tgN) (ix := 114) lk_981 lk_982 lk_983 ⟨rfl, rfl, Nat.le_of_ble_eq_true rfl, Nat.le_of_ble_eq_true rfl⟩ rfl (st := []) rfl (show 0 ≤ 8 by decide) ⟨Nat.le_trans (by omega) rm_c, Nat.le_trans (by omega) rm_s⟩ (by decide +kernel) (fun _ => ?_)
  refine l_ld2 C (by decide +kernel) ?_
  refine l_ld0 C (by decide +kernel) ?_
  refine l_i3 C (by decide +kernel) ?_
  refine l_iconst C 1 (by decide +kernel) ?_
  refine l_iadd C (z := ((i + 1 : Nat) : Int)) (ad7 ⟨hi, hL9⟩ 1 (by decide)) (by decide +kernel) ?_
  refine l_iald C (i + 1) (by omega) (by decide +kernel) ?_
  refine l_ld0 C (by decide +kernel) ?_
  refine l_i3 C (by decide +kernel) ?_
  refine l_iconst C 2 (by decide +kernel) ?_
  refine l_iadd C (z := ((i + 2 : Nat) : Int)) (ad7 ⟨hi, hL9⟩ 2 (by decide)) (by decide +kernel) ?_
  refine l_iald C (i + 2) (by omega) (by decide +kernel) ?_
  refine l_i2l C XI_c (by decide +kernel) ?_
  refine l_bipush C 32 (by decide) (by decide +kernel) ?_
  refine l_lshl C (by decide +kernel) ?_
  refine l_ld0 C (by decide +kernel) ?_
  refine l_i3 C (by decide +kernel) ?_
  refine l_iconst C 3 (by decide +kernel) ?_
  refine l_iadd C (z := ((i + 3 : Nat) : Int)) (ad7 ⟨hi, hL9⟩ 3 (by decide)) (by decide +kernel) ?_
  refine l_iald C (i + 3) (by omega) (by decide +kernel) ?_
  refine l_i2l C XI_c (by decide +kernel) ?_
  refine l_ldc2 C (ix := 23) (v := 4294967295) lk_2251 (by decide +kernel) ?_
  refine l_land C (by decide +kernel) ?_
  refine l_lor C (by decide +kernel) ?_
  refine l_ld0 C (by decide +kernel) ?_
  refine l_i3 C (by decide +kernel) ?_
  refine l_iconst C 4 (by decide +kernel) ?_
  refine l_iadd C (z := ((i + 4 : Nat) : Int)) (ad7 ⟨hi, hL9⟩ 4 (by decide)) (by decide +kernel) ?_
  refine l_iald C (i + 4) (by omega) (by decide +kernel) ?_
  refine l_ld0 C (by decide +kernel) ?_
  refine l_i3 C (by decide +kernel) ?_
  refine l_iconst C 5 (by decide +kernel) ?_
  refine l_iadd C (z := ((i + 5 : Nat) : Int)) (ad7 ⟨hi, hL9⟩ 5 (by decide)) (by decide +kernel) ?_
  refine l_iald C (i + 5) (by omega) (by decide +kernel) ?_
  refine l_ld0 C (by decide +kernel) ?_
  refine l_i3 C (by decide +kernel) ?_
  refine l_bipush C 6 (by decide) (by decide +kernel) ?_
  refine l_iadd C (z := ((i + 6 : Nat) : Int)) (ad7 ⟨hi, hL9⟩ 6 (by decide)) (by decide +kernel) ?_
  refine l_iald C (i + 6) (by omega) (by decide +kernel) ?_
  refine l_callB C mw_Mo_entry [(0, XI xs (i + 1)), (1, lor (lshl (XI xs (i + 2)) 32) (land (XI xs (i + 3)) (4294967295))), (0, XI xs (i + 4)), (0, XI xs (i + 5)), (0, XI xs (i + 6))] (ok_Mo_entry (XI xs (i + 1)) (lor (lshl (XI xs (i + 2)) 32) (land (XI xs (i + 3)) (4294967295))) (XI xs (i + 4)) (XI xs (i + 5)) (XI xs (i + 6)) dB XI_c (l_c _) XI_c XI_c XI_c hB2) (tgC (by decide) (tgC (by decide) (tgC (by decide) (tgC (by decide) (tgC (by decide) tgN))))) (tgC (by decide) tgN) (ix := 118) lk_2061 lk_2062 lk_2063 ⟨rfl, rfl, Nat.le_of_ble_eq_true rfl, Nat.le_of_ble_eq_true rfl⟩ rfl (st := [(0, r)]) rfl (show (1 + 0) ≤ 8 by decide) ⟨Nat.le_trans (by omega) rm_c, Nat.le_trans (by omega) rm_s⟩ (by decide +kernel) (fun _ => ?_)
  refine l_icmpeq C (off := 842) (tgt := 2222) (by decide +kernel) (by decide) ?_
  refine l_widen (k := cells + 7) (n := slots + 710) (by omega) (by omega) ?_
  exact kk dA2 dB2 hR2
set_option maxHeartbeats 8000000 in
set_option maxRecDepth 100000 in
theorem case_22 (C : LC p s m meth c b L xs D cA st0) {Rel : Dt → Dt → Prop} (hsim : Sim_join Rel) (hi : i + 6 < L) (hc : cells + 7 ≤ 600000 ∧ slots + 710 ≤ 7302250) (hCA : CN 0 dA) (hCB : CN 1 dB) (hRel : Rel dA dB) (kk : ∀ dA' dB', Rel dA' dB' → GL p l e s m below meth c b D cA st0 (cells + 7) (slots + 710) 2222 i [] dA' dB') : GL p l e s m below meth c b D cA st0 cells slots 1385 i [] dA dB := by
  have hL9 := C.2.2.2.2.2.2.2.2.2.2.1
  obtain ⟨r, dA2, dB2, hA2, hB2, hR2⟩ := hsim (XI xs (i + 1)) dA dB XI_c hCA hCB hRel
  refine l_ld1 C (by decide +kernel) ?_
  refine l_ld0 C (by decide +kernel) ?_
  refine l_i3 C (by decide +kernel) ?_
  refine l_iconst C 1 (by decide +kernel) ?_
  refine l_iadd C (z := ((i + 1 : Nat) : Int)) (ad7 ⟨hi, hL9⟩ 1 (by decide)) (by decide +kernel) ?_
  refine l_iald C (i + 1) (by omega) (by decide +kernel) ?_
  refine l_callA C mw_PB_join [(0, XI xs (i + 1))] (ok_PB_join (XI xs (i + 1)) dA XI_c hA2) (tgC (by decide) tgN) (tgC (by decide) tgN) (ix := 119) lk_1018 lk_1019 lk_1020 ⟨rfl, rfl, Nat.le_of_ble_eq_true rfl, Nat.le_of_ble_eq_true rfl⟩ rfl (st := []) rfl (show 0 ≤ 8 by decide) ⟨Nat.le_trans (by omega) rm_c, Nat.le_trans (by omega) rm_s⟩ (by decide +kernel) (fun _ => ?_)
  refine l_ld2 C (by decide +kernel) ?_
  refine l_ld0 C (by decide +kernel) ?_
  refine l_i3 C (by decide +kernel) ?_
  refine l_iconst C 1 (by decide +kernel) ?_
  refine l_iadd C (z := ((i + 1 : Nat) : Int)) (ad7 ⟨hi, hL9⟩ 1 (by decide)) (by decide +kernel) ?_
  refine l_iald C (i + 1) (by omega) (by decide +kernel) ?_
  refine l_callB C mw_Mo_join [(0, XI xs (i + 1))] (ok_Mo_join (XI xs (i + 1)) dB XI_c hB2) (tgC (by decide) tgN) (tgC (by decide) tgN) (ix := 122) lk_2068 lk_2069 lk_2070 ⟨rfl, rfl, Nat.le_of_ble_eq_true rfl, Nat.le_of_ble_eq_true rfl⟩ rfl (st := [(0, r)]) rfl (show (1 + 0) ≤ 8 by decide) ⟨Nat.le_trans (by omega) rm_c, Nat.le_trans (by omega) rm_s⟩ (by decide +kernel) (fun _ => ?_)
  refine l_icmpeq C (off := 819) (tgt := 2222) (by decide +kernel) (by decide) ?_
  refine l_widen (k := cells + 7) (n := slots + 710) (by omega) (by omega) ?_
  exact kk dA2 dB2 hR2
set_option maxHeartbeats 8000000 in
set_option maxRecDepth 100000 in
theorem case_23 (C : LC p s m meth c b L xs D cA st0) {Rel : Dt → Dt → Prop} (hsim : Sim_mate Rel) (hi : i + 6 < L) (hc : cells + 7 ≤ 600000 ∧ slots + 710 ≤ 7302250) (hCA : CN 0 dA) (hCB : CN 1 dB) (hRel : Rel dA dB) (kk : ∀ dA' dB', Rel dA' dB' → GL p l e s m below meth c b D cA st0 (cells + 7) (slots + 710) 2222 i [] dA' dB') : GL p l e s m below meth c b D cA st0 cells slots 1408 i [] dA dB := by
  have hL9 := C.2.2.2.2.2.2.2.2.2.2.1
  obtain ⟨r, dA2, dB2, hA2, hB2, hR2⟩ := hsim (XI xs (i + 1)) (XI xs (i + 2)) dA dB XI_c XI_c hCA hCB hRel
  refine l_ld1 C (by decide +kernel) ?_
  refine l_ld0 C (by decide +kernel) ?_
  refine l_i3 C (by decide +kernel) ?_
  refine l_iconst C 1 (by decide +kernel) ?_
  refine l_iadd C (z := ((i + 1 : Nat) : Int)) (ad7 ⟨hi, hL9⟩ 1 (by decide)) (by decide +kernel) ?_
  refine l_iald C (i + 1) (by omega) (by decide +kernel) ?_
  refine l_ld0 C (by decide +kernel) ?_
  refine l_i3 C (by decide +kernel) ?_
  refine l_iconst C 2 (by decide +kernel) ?_
  refine l_iadd C (z := ((i + 2 : Nat) : Int)) (ad7 ⟨hi, hL9⟩ 2 (by decide)) (by decide +kernel) ?_
  refine l_iald C (i + 2) (by omega) (by decide +kernel) ?_
  refine l_callA C mw_PB_mate [(0, XI xs (i + 1)), (0, XI xs (i + 2))] (ok_PB_mate (XI xs (i + 1)) (XI xs (i + 2)) dA XI_c XI_c hA2) (tgC (by decide) (tgC (by decide) tgN)) (tgC (by decide) tgN) (ix := 123) lk_1042 lk_1043 lk_1044 ⟨rfl, rfl, Nat.le_of_ble_eq_true rfl, Nat.le_of_ble_eq_true rfl⟩ rfl (st := []) rfl (show 0 ≤ 8 by decide) ⟨Nat.le_trans (by omega) rm_c, Nat.le_trans (by omega) rm_s⟩ (by decide +kernel) (fun _ => ?_)
  refine l_ld2 C (by decide +kernel) ?_
  refine l_ld0 C (by decide +kernel) ?_
  refine l_i3 C (by decide +kernel) ?_
  refine l_iconst C 1 (by decide +kernel) ?_
  refine l_iadd C (z := ((i + 1 : Nat) : Int)) (ad7 ⟨hi, hL9⟩ 1 (by decide)) (by decide +kernel) ?_
  refine l_iald C (i + 1) (by omega) (by decide +kernel) ?_
  refine l_ld0 C (by decide +kernel) ?_
  refine l_i3 C (by decide +kernel) ?_
  refine l_iconst C 2 (by decide +kernel) ?_
  refine l_iadd C (z := ((i + 2 : Nat) : Int)) (ad7 ⟨hi, hL9⟩ 2 (by decide)) (by decide +kernel) ?_
  refine l_iald C (i + 2) (by omega) (by decide +kernel) ?_
  refine l_callB C mw_Mo_mate [(0, XI xs (i + 1)), (0, XI xs (i + 2))] (ok_Mo_mate (XI xs (i + 1)) (XI xs (i + 2)) dB XI_c XI_c hB2) (tgC (by decide) (tgC (by decide) tgN)) (tgC (by decide) tgN) (ix := 126) lk_2088 lk_2089 lk_2090 ⟨rfl, rfl, Nat.le_of_ble_eq_true rfl, Nat.le_of_ble_eq_true rfl⟩ rfl (st := [(0, r)]) rfl (show (1 + 0) ≤ 8 by decide) ⟨Nat.le_trans (by omega) rm_c, Nat.le_trans (by omega) rm_s⟩ (by decide +kernel) (fun _ => ?_)
  refine l_icmpeq C (off := 786) (tgt := 2222) (by decide +kernel) (by decide) ?_
  refine l_widen (k := cells + 7) (n := slots + 710) (by omega) (by omega) ?_
  exact kk dA2 dB2 hR2
set_option maxHeartbeats 8000000 in
set_option maxRecDepth 100000 in
theorem case_24 (C : LC p s m meth c b L xs D cA st0) {Rel : Dt → Dt → Prop} (hsim : Sim_joined Rel) (hi : i + 6 < L) (hc : cells + 7 ≤ 600000 ∧ slots + 710 ≤ 7302250) (hCA : CN 0 dA) (hCB : CN 1 dB) (hRel : Rel dA dB) (kk : ∀ dA' dB', Rel dA' dB' → GL p l e s m below meth c b D cA st0 (cells + 7) (slots + 710) 2222 i [] dA' dB') : GL p l e s m below meth c b D cA st0 cells slots 1441 i [] dA dB := by
  have hL9 := C.2.2.2.2.2.2.2.2.2.2.1
  obtain ⟨r, dA2, dB2, hA2, hB2, hR2⟩ := hsim (XI xs (i + 1)) dA dB XI_c hCA hCB hRel
  refine l_ld1 C (by decide +kernel) ?_
  refine l_ld0 C (by decide +kernel) ?_
  refine l_i3 C (by decide +kernel) ?_
  refine l_iconst C 1 (by decide +kernel) ?_
  refine l_iadd C (z := ((i + 1 : Nat) : Int)) (ad7 ⟨hi, hL9⟩ 1 (by decide)) (by decide +kernel) ?_
  refine l_iald C (i + 1) (by omega) (by decide +kernel) ?_
  refine l_callA C mw_PB_joined [(0, XI xs (i + 1))] (ok_PB_joined (XI xs (i + 1)) dA XI_c hA2) (tgC (by decide) tgN) (tgC (by decide) tgN) (ix := 127) lk_1054 lk_1055 lk_1056 ⟨rfl, rfl, Nat.le_of_ble_eq_true rfl, Nat.le_of_ble_eq_true rfl⟩ rfl (st := []) rfl (show 0 ≤ 8 by decide) ⟨Nat.le_trans (by omega) rm_c, Nat.le_trans (by omega) rm_s⟩ (by decide +kernel) (fun _ => ?_)
  refine l_ld2 C (by decide +kernel) ?_
  refine l_ld0 C (by decide +kernel) ?_
  refine l_i3 C (by decide +kernel) ?_
  refine l_iconst C 1 (by decide +kernel) ?_
  refine l_iadd C (z := ((i + 1 : Nat) : Int)) (ad7 ⟨hi, hL9⟩ 1 (by decide)) (by decide +kernel) ?_
  refine l_iald C (i + 1) (by omega) (by decide +kernel) ?_
  refine l_callB C mw_Mo_joined [(0, XI xs (i + 1))] (ok_Mo_joined (XI xs (i + 1)) dB XI_c hB2) (tgC (by decide) tgN) (tgC (by decide) tgN) (ix := 130) lk_2100 lk_2101 lk_2102 ⟨rfl, rfl, Nat.le_of_ble_eq_true rfl, Nat.le_of_ble_eq_true rfl⟩ rfl (st := [(0, r)]) rfl (show (1 + 0) ≤ 8 by decide) ⟨Nat.le_trans (by omega) rm_c, Nat.le_trans (by omega) rm_s⟩ (by decide +kernel) (fun _ => ?_)
  refine l_icmpeq C (off := 763) (tgt := 2222) (by decide +kernel) (by decide) ?_
  refine l_widen (k := cells + 7) (n := slots + 710) (by omega) (by omega) ?_
  exact kk dA2 dB2 hR2
set_option maxHeartbeats 8000000 in
set_option maxRecDepth 100000 in
theorem case_25 (C : LC p s m meth c b L xs D cA st0) {Rel : Dt → Dt → Prop} (hsim : Sim_tally Rel) (hi : i + 6 < L) (hc : cells + 7 ≤ 600000 ∧ slots + 710 ≤ 7302250) (hCA : CN 0 dA) (hCB : CN 1 dB) (hRel : Rel dA dB) (kk : ∀ dA' dB', Rel dA' dB' → GL p l e s m below meth c b D cA st0 (cells + 7) (slots + 710) 2222 i [] dA' dB') : GL p l e s m below meth c b D cA st0 cells slots 1464 i [] dA dB := by
  have hL9 := C.2.2.2.2.2.2.2.2.2.2.1
  obtain ⟨r, dA2, dB2, hA2, hB2, hR2⟩ := hsim (XI xs (i + 1)) (XI xs (i + 2)) dA dB XI_c XI_c hCA hCB hRel
  refine l_ld1 C (by decide +kernel) ?_
  refine l_ld0 C (by decide +kernel) ?_
  refine l_i3 C (by decide +kernel) ?_
  refine l_iconst C 1 (by decide +kernel) ?_
  refine l_iadd C (z := ((i + 1 : Nat) : Int)) (ad7 ⟨hi, hL9⟩ 1 (by decide)) (by decide +kernel) ?_
  refine l_iald C (i + 1) (by omega) (by decide +kernel) ?_
  refine l_ld0 C (by decide +kernel) ?_
  refine l_i3 C (by decide +kernel) ?_
  refine l_iconst C 2 (by decide +kernel) ?_
  refine l_iadd C (z := ((i + 2 : Nat) : Int)) (ad7 ⟨hi, hL9⟩ 2 (by decide)) (by decide +kernel) ?_
  refine l_iald C (i + 2) (by omega) (by decide +kernel) ?_
  refine l_callA C mw_PB_tally [(0, XI xs (i + 1)), (0, XI xs (i + 2))] (ok_PB_tally (XI xs (i + 1)) (XI xs (i + 2)) dA XI_c XI_c hA2) (tgC (by decide) (tgC (by decide) tgN)) (tgC (by decide) tgN) (ix := 131) lk_1062 lk_1063 lk_1064 ⟨rfl, rfl, Nat.le_of_ble_eq_true rfl, Nat.le_of_ble_eq_true rfl⟩ rfl (st := []) rfl (show 0 ≤ 8 by decide) ⟨Nat.le_trans (by omega) rm_c, Nat.le_trans (by omega) rm_s⟩ (by decide +kernel) (fun _ => ?_)
  refine l_ld2 C (by decide +kernel) ?_
  refine l_ld0 C (by decide +kernel) ?_
  refine l_i3 C (by decide +kernel) ?_
  refine l_iconst C 1 (by decide +kernel) ?_
  refine l_iadd C (z := ((i + 1 : Nat) : Int)) (ad7 ⟨hi, hL9⟩ 1 (by decide)) (by decide +kernel) ?_
  refine l_iald C (i + 1) (by omega) (by decide +kernel) ?_
  refine l_ld0 C (by decide +kernel) ?_
  refine l_i3 C (by decide +kernel) ?_
  refine l_iconst C 2 (by decide +kernel) ?_
  refine l_iadd C (z := ((i + 2 : Nat) : Int)) (ad7 ⟨hi, hL9⟩ 2 (by decide)) (by decide +kernel) ?_
  refine l_iald C (i + 2) (by omega) (by decide +kernel) ?_
  refine l_callB C mw_Mo_tally [(0, XI xs (i + 1)), (0, XI xs (i + 2))] (ok_Mo_tally (XI xs (i + 1)) (XI xs (i + 2)) dB XI_c XI_c hB2) (tgC (by decide) (tgC (by decide) tgN)) (tgC (by decide) tgN) (ix := 134) lk_2108 lk_2109 lk_2110 ⟨rfl, rfl, Nat.le_of_ble_eq_true rfl, Nat.le_of_ble_eq_true rfl⟩ rfl (st := [(0, r)]) rfl (show (1 + 0) ≤ 8 by decide) ⟨Nat.le_trans (by omega) rm_c, Nat.le_trans (by omega) rm_s⟩ (by decide +kernel) (fun _ => ?_)
  refine l_icmpeq C (off := 730) (tgt := 2222) (by decide +kernel) (by decide) ?_
  refine l_widen (k := cells + 7) (n := slots + 710) (by omega) (by omega) ?_
  exact kk dA2 dB2 hR2
set_option maxHeartbeats 8000000 in
set_option maxRecDepth 100000 in
theorem case_26 (C : LC p s m meth c b L xs D cA st0) {Rel : Dt → Dt → Prop} (hsim : Sim_reach Rel) (hi : i + 6 < L) (hc : cells + 7 ≤ 600000 ∧ slots + 710 ≤ 7302250) (hCA : CN 0 dA) (hCB : CN 1 dB) (hRel : Rel dA dB) (kk : ∀ dA' dB', Rel dA' dB' → GL p l e s m below meth c b D cA st0 (cells + 7) (slots + 710) 2222 i [] dA' dB') : GL p l e s m below meth c b D cA st0 cells slots 1497 i [] dA dB := by
  have hL9 := C.2.2.2.2.2.2.2.2.2.2.1
  obtain ⟨r, dA2, dB2, hA2, hB2, hR2⟩ := hsim (XI xs (i + 1)) dA dB XI_c hCA hCB hRel
  refine l_ld1 C (by decide +kernel) ?_
  refine l_ld0 C (by decide +kernel) ?_
  refine l_i3 C (by decide +kernel) ?_
  refine l_iconst C 1 (by decide +kernel) ?_
  refine l_iadd C (z := ((i + 1 : Nat) : Int)) (ad7 ⟨hi, hL9⟩ 1 (by decide)) (by decide +kernel) ?_
  refine l_iald C (i + 1) (by omega) (by decide +kernel) ?_
  refine l_callA C mw_PB_reach [(0, XI xs (i + 1))] (ok_PB_reach (XI xs (i + 1)) dA XI_c hA2) (tgC (by decide) tgN) (tgC (by decide) tgN) (ix := 135) lk_1077 lk_1078 lk_1079 ⟨rfl, rfl, Nat.le_of_ble_eq_true rfl, Nat.le_of_ble_eq_true rfl⟩ rfl (st := []) rfl (show 0 ≤ 8 by decide) ⟨Nat.le_trans (by omega) rm_c, Nat.le_trans (by omega) rm_s⟩ (by decide +kernel) (fun _ => ?_)
  refine l_ld2 C (by decide +kernel) ?_
  refine l_ld0 C (by decide +kernel) ?_
  refine l_i3 C (by decide +kernel) ?_
  refine l_iconst C 1 (by decide +kernel) ?_
  refine l_iadd C (z := ((i + 1 : Nat) : Int)) (ad7 ⟨hi, hL9⟩ 1 (by decide)) (by decide +kernel) ?_
  refine l_iald C (i + 1) (by omega) (by decide +kernel) ?_
  refine l_callB C mw_Mo_reach [(0, XI xs (i + 1))] (ok_Mo_reach (XI xs (i + 1)) dB XI_c hB2) (tgC (by decide) tgN) (tgC (by decide) tgN) (ix := 138) lk_2115 lk_2116 lk_2117 ⟨rfl, rfl, Nat.le_of_ble_eq_true rfl, Nat.le_of_ble_eq_true rfl⟩ rfl (st := [(0, r)]) rfl (show (1 + 0) ≤ 8 by decide) ⟨Nat.le_trans (by omega) rm_c, Nat.le_trans (by omega) rm_s⟩ (by decide +kernel) (fun _ => ?_)
  refine l_icmpeq C (off := 707) (tgt := 2222) (by decide +kernel) (by decide) ?_
  refine l_widen (k := cells + 7) (n := slots + 710) (by omega) (by omega) ?_
  exact kk dA2 dB2 hR2
set_option maxHeartbeats 8000000 in
set_option maxRecDepth 100000 in
theorem case_27 (C : LC p s m meth c b L xs D cA st0) {Rel : Dt → Dt → Prop} (hsim : Sim_who Rel) (hi : i + 6 < L) (hc : cells + 7 ≤ 600000 ∧ slots + 710 ≤ 7302250) (hCA : CN 0 dA) (hCB : CN 1 dB) (hRel : Rel dA dB) (kk : ∀ dA' dB', Rel dA' dB' → GL p l e s m below meth c b D cA st0 (cells + 7) (slots + 710) 2222 i [] dA' dB') : GL p l e s m below meth c b D cA st0 cells slots 1520 i [] dA dB := by
  have hL9 := C.2.2.2.2.2.2.2.2.2.2.1
  obtain ⟨r, dA2, dB2, hA2, hB2, hR2⟩ := hsim (XI xs (i + 1)) dA dB XI_c hCA hCB hRel
  refine l_ld1 C (by decide +kernel) ?_
  refine l_ld0 C (by decide +kernel) ?_
  refine l_i3 C (by decide +kernel) ?_
  refine l_iconst C 1 (by decide +kernel) ?_
  refine l_iadd C (z := ((i + 1 : Nat) : Int)) (ad7 ⟨hi, hL9⟩ 1 (by decide)) (by decide +kernel) ?_
  refine l_iald C (i + 1) (by omega) (by decide +kernel) ?_
  refine l_callA C mw_PB_who [(0, XI xs (i + 1))] (ok_PB_who (XI xs (i + 1)) dA XI_c hA2) (tgC (by decide) tgN) (tgC (by decide) tgN) (ix := 139) lk_1086 lk_1087 lk_1088 ⟨rfl, rfl, Nat.le_of_ble_eq_true rfl, Nat.le_of_ble_eq_true rfl⟩ rfl (st := []) rfl (show 0 ≤ 8 by decide) ⟨Nat.le_trans (by omega) rm_c, Nat.le_trans (by omega) rm_s⟩ (by decide +kernel) (fun _ => ?_)
  refine l_ld2 C (by decide +kernel) ?_
  refine l_ld0 C (by decide +kernel) ?_
  refine l_i3 C (by decide +kernel) ?_
  refine l_iconst C 1 (by decide +kernel) ?_
  refine l_iadd C (z := ((i + 1 : Nat) : Int)) (ad7 ⟨hi, hL9⟩ 1 (by decide)) (by decide +kernel) ?_
  refine l_iald C (i + 1) (by omega) (by decide +kernel) ?_
  refine l_callB C mw_Mo_who [(0, XI xs (i + 1))] (ok_Mo_who (XI xs (i + 1)) dB XI_c hB2) (tgC (by decide) tgN) (tgC (by decide) tgN) (ix := 142) lk_2119 lk_2120 lk_2121 ⟨rfl, rfl, Nat.le_of_ble_eq_true rfl, Nat.le_of_ble_eq_true rfl⟩ rfl (st := [(0, r)]) rfl (show (1 + 0) ≤ 8 by decide) ⟨Nat.le_trans (by omega) rm_c, Nat.le_trans (by omega) rm_s⟩ (by decide +kernel) (fun _ => ?_)
  refine l_icmpeq C (off := 684) (tgt := 2222) (by decide +kernel) (by decide) ?_
  refine l_widen (k := cells + 7) (n := slots + 710) (by omega) (by omega) ?_
  exact kk dA2 dB2 hR2
set_option maxHeartbeats 8000000 in
set_option maxRecDepth 100000 in
theorem case_28 (C : LC p s m meth c b L xs D cA st0) {Rel : Dt → Dt → Prop} (hsim : Sim_sure Rel) (hi : i + 6 < L) (hc : cells + 7 ≤ 600000 ∧ slots + 710 ≤ 7302250) (hCA : CN 0 dA) (hCB : CN 1 dB) (hRel : Rel dA dB) (kk : ∀ dA' dB', Rel dA' dB' → GL p l e s m below meth c b D cA st0 (cells + 7) (slots + 710) 2222 i [] dA' dB') : GL p l e s m below meth c b D cA st0 cells slots 1543 i [] dA dB := by
  have hL9 := C.2.2.2.2.2.2.2.2.2.2.1
  obtain ⟨r, dA2, dB2, hA2, hB2, hR2⟩ := hsim (XI xs (i + 1)) (XI xs (i + 2)) dA dB XI_c XI_c hCA hCB hRel
  refine l_ld1 C (by decide +kernel) ?_
  refine l_ld0 C (by decide +kernel) ?_
  refine l_i3 C (by decide +kernel) ?_
  refine l_iconst C 1 (by decide +kernel) ?_
  refine l_iadd C (z := ((i + 1 : Nat) : Int)) (ad7 ⟨hi, hL9⟩ 1 (by decide)) (by decide +kernel) ?_
  refine l_iald C (i + 1) (by omega) (by decide +kernel) ?_
  refine l_ld0 C (by decide +kernel) ?_
  refine l_i3 C (by decide +kernel) ?_
  refine l_iconst C 2 (by decide +kernel) ?_
  refine l_iadd C (z := ((i + 2 : Nat) : Int)) (ad7 ⟨hi, hL9⟩ 2 (by decide)) (by decide +kernel) ?_
  refine l_iald C (i + 2) (by omega) (by decide +kernel) ?_
  refine l_callA C mw_PB_sure [(0, XI xs (i + 1)), (0, XI xs (i + 2))] (ok_PB_sure (XI xs (i + 1)) (XI xs (i + 2)) dA XI_c XI_c hA2) (tgC (by decide) (tgC (by decide) tgN)) (tgC (by decide) tgN) (ix := 143) lk_1094 lk_1095 lk_1096 ⟨rfl, rfl, Nat.le_of_ble_eq_true rfl, Nat.le_of_ble_eq_true rfl⟩ rfl (st := []) rfl (show 0 ≤ 8 by decide) ⟨Nat.le_trans (by omega) rm_c, Nat.le_trans (by omega) rm_s⟩ (by decide +kernel) (fun _ => ?_)
  refine l_ld2 C (by decide +kernel) ?_
  refine l_ld0 C (by decide +kernel) ?_
  refine l_i3 C (by decide +kernel) ?_
  refine l_iconst C 1 (by decide +kernel) ?_
  refine l_iadd C (z := ((i + 1 : Nat) : Int)) (ad7 ⟨hi, hL9⟩ 1 (by decide)) (by decide +kernel) ?_
  refine l_iald C (i + 1) (by omega) (by decide +kernel) ?_
  refine l_ld0 C (by decide +kernel) ?_
  refine l_i3 C (by decide +kernel) ?_
  refine l_iconst C 2 (by decide +kernel) ?_
  refine l_iadd C (z := ((i + 2 : Nat) : Int)) (ad7 ⟨hi, hL9⟩ 2 (by decide)) (by decide +kernel) ?_
  refine l_iald C (i + 2) (by omega) (by decide +kernel) ?_
  refine l_callB C mw_Mo_sure [(0, XI xs (i + 1)), (0, XI xs (i + 2))] (ok_Mo_sure (XI xs (i + 1)) (XI xs (i + 2)) dB XI_c XI_c hB2) (tgC (by decide) (tgC (by decide) tgN)) (tgC (by decide) tgN) (ix := 146) lk_2128 lk_2129 lk_2130 ⟨rfl, rfl, Nat.le_of_ble_eq_true rfl, Nat.le_of_ble_eq_true rfl⟩ rfl (st := [(0, r)]) rfl (show (1 + 0) ≤ 8 by decide) ⟨Nat.le_trans (by omega) rm_c, Nat.le_trans (by omega) rm_s⟩ (by decide +kernel) (fun _ => ?_)
  refine l_icmpeq C (off := 651) (tgt := 2222) (by decide +kernel) (by decide) ?_
  refine l_widen (k := cells + 7) (n := slots + 710) (by omega) (by omega) ?_
  exact kk dA2 dB2 hR2
set_option maxHeartbeats 8000000 in
set_option maxRecDepth 100000 in
theorem case_29 (C : LC p s m meth c b L xs D cA st0) {Rel : Dt → Dt → Prop} (hsim : Sim_offer Rel) (hi : i + 6 < L) (hc : cells + 7 ≤ 600000 ∧ slots + 710 ≤ 7302250) (hCA : CN 0 dA) (hCB : CN 1 dB) (hRel : Rel dA dB) (kk : ∀ dA' dB', Rel dA' dB' → GL p l e s m below meth c b D cA st0 (cells + 7) (slots + 710) 2222 i [] dA' dB') : GL p l e s m below meth c b D cA st0 cells slots 1576 i [] dA dB := by
  have hL9 := C.2.2.2.2.2.2.2.2.2.2.1
  obtain ⟨r, dA2, dB2, hA2, hB2, hR2⟩ := hsim (XI xs (i + 1)) (XI xs (i + 2)) (XI xs (i + 3)) dA dB XI_c XI_c XI_c hCA hCB hRel
  refine l_ld1 C (by decide +kernel) ?_
  refine l_ld0 C (by decide +kernel) ?_
  refine l_i3 C (by decide +kernel) ?_
  refine l_iconst C 1 (by decide +kernel) ?_
  refine l_iadd C (z := ((i + 1 : Nat) : Int)) (ad7 ⟨hi, hL9⟩ 1 (by decide)) (by decide +kernel) ?_
  refine l_iald C (i + 1) (by omega) (by decide +kernel) ?_
  refine l_ld0 C (by decide +kernel) ?_
  refine l_i3 C (by decide +kernel) ?_
  refine l_iconst C 2 (by decide +kernel) ?_
  refine l_iadd C (z := ((i + 2 : Nat) : Int)) (ad7 ⟨hi, hL9⟩ 2 (by decide)) (by decide +kernel) ?_
  refine l_iald C (i + 2) (by omega) (by decide +kernel) ?_
  refine l_ld0 C (by decide +kernel) ?_
  refine l_i3 C (by decide +kernel) ?_
  refine l_iconst C 3 (by decide +kernel) ?_
  refine l_iadd C (z := ((i + 3 : Nat) : Int)) (ad7 ⟨hi, hL9⟩ 3 (by decide)) (by decide +kernel) ?_
  refine l_iald C (i + 3) (by omega) (by decide +kernel) ?_
  refine l_callA C mw_PB_offer [(0, XI xs (i + 1)), (0, XI xs (i + 2)), (0, XI xs (i + 3))] (ok_PB_offer (XI xs (i + 1)) (XI xs (i + 2)) (XI xs (i + 3)) dA XI_c XI_c XI_c hA2) (tgC (by decide) (tgC (by decide) (tgC (by decide) tgN))) (tgC (by decide) tgN) (ix := 147) lk_1107 lk_1108 lk_1109 ⟨rfl, rfl, Nat.le_of_ble_eq_true rfl, Nat.le_of_ble_eq_true rfl⟩ rfl (st := []) rfl (show 0 ≤ 8 by decide) ⟨Nat.le_trans (by omega) rm_c, Nat.le_trans (by omega) rm_s⟩ (by decide +kernel) (fun _ => ?_)
  refine l_ld2 C (by decide +kernel) ?_
  refine l_ld0 C (by decide +kernel) ?_
  refine l_i3 C (by decide +kernel) ?_
  refine l_iconst C 1 (by decide +kernel) ?_
  refine l_iadd C (z := ((i + 1 : Nat) : Int)) (ad7 ⟨hi, hL9⟩ 1 (by decide)) (by decide +kernel) ?_
  refine l_iald C (i + 1) (by omega) (by decide +kernel) ?_
  refine l_ld0 C (by decide +kernel) ?_
  refine l_i3 C (by decide +kernel) ?_
  refine l_iconst C 2 (by decide +kernel) ?_
  refine l_iadd C (z := ((i + 2 : Nat) : Int)) (ad7 ⟨hi, hL9⟩ 2 (by decide)) (by decide +kernel) ?_
  refine l_iald C (i + 2) (by omega) (by decide +kernel) ?_
  refine l_ld0 C (by decide +kernel) ?_
  refine l_i3 C (by decide +kernel) ?_
  refine l_iconst C 3 (by decide +kernel) ?_
  refine l_iadd C (z := ((i + 3 : Nat) : Int)) (ad7 ⟨hi, hL9⟩ 3 (by decide)) (by decide +kernel) ?_
  refine l_iald C (i + 3) (by omega) (by decide +kernel) ?_
  refine l_callB C mw_Mo_offer [(0, XI xs (i + 1)), (0, XI xs (i + 2)), (0, XI xs (i + 3))] (ok_Mo_offer (XI xs (i + 1)) (XI xs (i + 2)) (XI xs (i + 3)) dB XI_c XI_c XI_c hB2) (tgC (by decide) (tgC (by decide) (tgC (by decide) tgN))) (tgC (by decide) tgN) (ix := 150) lk_2136 lk_2137 lk_2138 ⟨rfl, rfl, Nat.le_of_ble_eq_true rfl, Nat.le_of_ble_eq_true rfl⟩ rfl (st := [(0, r)]) rfl (show (1 + 0) ≤ 8 by decide) ⟨Nat.le_trans (by omega) rm_c, Nat.le_trans (by omega) rm_s⟩ (by decide +kernel) (fun _ => ?_)
  refine l_icmpeq C (off := 608) (tgt := 2222) (by decide +kernel) (by decide) ?_
  refine l_widen (k := cells + 7) (n := slots + 710) (by omega) (by omega) ?_
  exact kk dA2 dB2 hR2
end CASES2
