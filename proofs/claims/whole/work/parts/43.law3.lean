section CASES3
variable {p : Program} {l : Launch} {e : Env} {s : State} {m : MethodId} {below : List Frame} {meth : Method} {c : Code} {b L : Nat} {xs : Nat → Int32} {D : va_G} {cA : Nat → ClassId} {st0 : Nat → Nat} {cells slots : Nat}
variable {pc i : Nat} {st : List AV} {dA dB : Dt}
set_option maxHeartbeats 8000000 in
set_option maxRecDepth 100000 in
theorem case_30 (C : LC p s m meth c b L xs D cA st0) {Rel : Dt → Dt → Prop} (hsim : Sim_standing Rel) (hi : i + 6 < L) (hc : cells + 7 ≤ 600000 ∧ slots + 710 ≤ 7302250) (hCA : CN 0 dA) (hCB : CN 1 dB) (hRel : Rel dA dB) (kk : ∀ dA' dB', Rel dA' dB' → GL p l e s m below meth c b D cA st0 (cells + 7) (slots + 710) 2222 i [] dA' dB') : GL p l e s m below meth c b D cA st0 cells slots 1619 i [] dA dB := by
  have hL9 := C.2.2.2.2.2.2.2.2.2.2.1
  obtain ⟨r, dA2, dB2, hA2, hB2, hR2⟩ := hsim (XI xs (i + 1)) (XI xs (i + 2)) (XI xs (i + 3)) dA dB XI_c XI_c XI_c hCA hCB hRel
  refine l_ld1 C (by decide +kernel) ?_
  refine l_ld0 C (by decide +kernel) ?_
  refine l_i3 C (by decide +kernel) ?_
  refine l_iconst C 1 (by decide +kernel) ?_
  refine l_iadd C (z := ((i + 1 : Nat) : Int)) (ad7 ⟨hi, hL9⟩ 1 (by decide)) (by decide +kernel) ?_
  refine l_iald C (i + 1) (by omega) (by decide +kernel) ?_
  refine l_ld0 C (by decide +kernel) ?_
  refine l_i3 C (by decide +kernel) ?_
  refine l_iconst C 2 (by decide +kernel) ?_
  refine l_iadd C (z := ((i + 2 : Nat) : Int)) (ad7 ⟨hi, hL9⟩ 2 (by decide)) (by decide +kernel) ?_
  refine l_iald C (i + 2) (by omega) (by decide +kernel) ?_
  refine l_ld0 C (by decide +kernel) ?_
  refine l_i3 C (by decide +kernel) ?_
  refine l_iconst C 3 (by decide +kernel) ?_
  refine l_iadd C (z := ((i + 3 : Nat) : Int)) (ad7 ⟨hi, hL9⟩ 3 (by decide)) (by decide +kernel) ?_
  refine l_iald C (i + 3) (by omega) (by decide +kernel) ?_
  refine l_callA C mw_PB_standing [(0, XI xs (i + 1)), (0, XI xs (i + 2)), (0, XI xs (i + 3))] (ok_PB_standing (XI xs (i + 1)) (XI xs (i + 2)) (XI xs (i + 3)) dA XI_c XI_c XI_c hA2) (tgC (by decide) (tgC (by decide) (tgC (by decide) tgN))) (tgC (by decide) tgN) (ix := 151) lk_1119 lk_1120 lk_1121 ⟨rfl, rfl, Nat.le_of_ble_eq_true rfl, Nat.le_of_ble_eq_true rfl⟩ rfl (st := []) rfl (show 0 ≤ 8 by decide) ⟨Nat.le_trans (by omega) rm_c, Nat.le_trans (by omega) rm_s⟩ (by decide +kernel) (fun _ => ?_)
  refine l_ld2 C (by decide +kernel) ?_
  refine l_ld0 C (by decide +kernel) ?_
  refine l_i3 C (by decide +kernel) ?_
  refine l_iconst C 1 (by decide +kernel) ?_
  refine l_iadd C (z := ((i + 1 : Nat) : Int)) (ad7 ⟨hi, hL9⟩ 1 (by decide)) (by decide +kernel) ?_
  refine l_iald C (i + 1) (by omega) (by decide +kernel) ?_
  refine l_ld0 C (by decide +kernel) ?_
  refine l_i3 C (by decide +kernel) ?_
  refine l_iconst C 2 (by decide +kernel) ?_
  refine l_iadd C (z := ((i + 2 : Nat) : Int)) (ad7 ⟨hi, hL9⟩ 2 (by decide)) (by decide +kernel) ?_
  refine l_iald C (i + 2) (by omega) (by decide +kernel) ?_
  refine l_ld0 C (by decide +kernel) ?_
  refine l_i3 C (by decide +kernel) ?_
  refine l_iconst C 3 (by decide +kernel) ?_
  refine l_iadd C (z := ((i + 3 : Nat) : Int)) (ad7 ⟨hi, hL9⟩ 3 (by decide)) (by decide +kernel) ?_
  refine l_iald C (i + 3) (by omega) (by decide +kernel) ?_
  refine l_callB C mw_Mo_standing [(0, XI xs (i + 1)), (0, XI xs (i + 2)), (0, XI xs (i + 3))] (ok_Mo_standing (XI xs (i + 1)) (XI xs (i + 2)) (XI xs (i + 3)) dB XI_c XI_c XI_c hB2) (tgC (by decide) (tgC (by decide) (tgC (by decide) tgN))) (tgC (by decide) tgN) (ix := 154) lk_2140 lk_2141 lk_2142 ⟨rfl, rfl, Nat.le_of_ble_eq_true rfl, Nat.le_of_ble_eq_true rfl⟩ rfl (st := [(0, r)]) rfl (show (1 + 0) ≤ 8 by decide) ⟨Nat.le_trans (by omega) rm_c, Nat.le_trans (by omega) rm_s⟩ (by decide +kernel) (fun _ => ?_)
  refine l_icmpeq C (off := 565) (tgt := 2222) (by decide +kernel) (by decide) ?_
  refine l_widen (k := cells + 7) (n := slots + 710) (by omega) (by omega) ?_
  exact kk dA2 dB2 hR2
set_option maxHeartbeats 8000000 in
set_option maxRecDepth 100000 in
theorem case_31 (C : LC p s m meth c b L xs D cA st0) {Rel : Dt → Dt → Prop} (hsim : Sim_stands Rel) (hi : i + 6 < L) (hc : cells + 7 ≤ 600000 ∧ slots + 710 ≤ 7302250) (hCA : CN 0 dA) (hCB : CN 1 dB) (hRel : Rel dA dB) (kk : ∀ dA' dB', Rel dA' dB' → GL p l e s m below meth c b D cA st0 (cells + 7) (slots + 710) 2222 i [] dA' dB') : GL p l e s m below meth c b D cA st0 cells slots 1662 i [] dA dB := by
  have hL9 := C.2.2.2.2.2.2.2.2.2.2.1
  obtain ⟨r, dA2, dB2, hA2, hB2, hR2⟩ := hsim (XI xs (i + 1)) (XI xs (i + 2)) (XI xs (i + 3)) dA dB XI_c XI_c XI_c hCA hCB hRel
  refine l_ld1 C (by decide +kernel) ?_
  refine l_ld0 C (by decide +kernel) ?_
  refine l_i3 C (by decide +kernel) ?_
  refine l_iconst C 1 (by decide +kernel) ?_
  refine l_iadd C (z := ((i + 1 : Nat) : Int)) (ad7 ⟨hi, hL9⟩ 1 (by decide)) (by decide +kernel) ?_
  refine l_iald C (i + 1) (by omega) (by decide +kernel) ?_
  refine l_ld0 C (by decide +kernel) ?_
  refine l_i3 C (by decide +kernel) ?_
  refine l_iconst C 2 (by decide +kernel) ?_
  refine l_iadd C (z := ((i + 2 : Nat) : Int)) (ad7 ⟨hi, hL9⟩ 2 (by decide)) (by decide +kernel) ?_
  refine l_iald C (i + 2) (by omega) (by decide +kernel) ?_
  refine l_ld0 C (by decide +kernel) ?_
  refine l_i3 C (by decide +kernel) ?_
  refine l_iconst C 3 (by decide +kernel) ?_
  refine l_iadd C (z := ((i + 3 : Nat) : Int)) (ad7 ⟨hi, hL9⟩ 3 (by decide)) (by decide +kernel) ?_
  refine l_iald C (i + 3) (by omega) (by decide +kernel) ?_
  refine l_callA C mw_PB_stands [(0, XI xs (i + 1)), (0, XI xs (i + 2)), (0, XI xs (i + 3))] (ok_PB_stands (XI xs (i + 1)) (XI xs (i + 2)) (XI xs (i + 3)) dA XI_c XI_c XI_c hA2) (tgC (by decide) (tgC (by decide) (tgC (by decide) tgN))) (tgC (by decide) tgN) (ix := 155) lk_1143 lk_1144 lk_1145 ⟨rfl, rfl, Nat.le_of_ble_eq_true rfl, Nat.le_of_ble_eq_true rfl⟩ rfl (st := []) rfl (show 0 ≤ 8 by decide) ⟨Nat.le_trans (by omega) rm_c, Nat.le_trans (by omega) rm_s⟩ (by decide +kernel) (fun _ => ?_)
  refine l_ld2 C (by decide +kernel) ?_
  refine l_ld0 C (by decide +kernel) ?_
  refine l_i3 C (by decide +kernel) ?_
  refine l_iconst C 1 (by decide +kernel) ?_
  refine l_iadd C (z := ((i + 1 : Nat) : Int)) (ad7 ⟨hi, hL9⟩ 1 (by decide)) (by decide +kernel) ?_
  refine l_iald C (i + 1) (by omega) (by decide +kernel) ?_
  refine l_ld0 C (by decide +kernel) ?_
  refine l_i3 C (by decide +kernel) ?_
  refine l_iconst C 2 (by decide +kernel) ?_
  refine l_iadd C (z := ((i + 2 : Nat) : Int)) (ad7 ⟨hi, hL9⟩ 2 (by decide)) (by decide +kernel) ?_
  refine l_iald C (i + 2) (by omega) (by decide +kernel) ?_
  refine l_ld0 C (by decide +kernel) ?_
  refine l_i3 C (by decide +kernel) ?_
  refine l_iconst C 3 (by decide +kernel) ?_
  refine l_iadd C (z := ((i + 3 : Nat) : Int)) (ad7 ⟨hi, hL9⟩ 3 (by decide)) (by decide +kernel) ?_
  refine l_iald C (i + 3) (by omega) (by decide +kernel) ?_
  refine l_callB C mw_Mo_stands [(0, XI xs (i + 1)), (0, XI xs (i + 2)), (0, XI xs (i + 3))] (ok_Mo_stands (XI xs (i + 1)) (XI xs (i + 2)) (XI xs (i + 3)) dB XI_c XI_c XI_c hB2) (tgC (by decide) (tgC (by decide) (tgC (by decide) tgN))) (tgC (by decide) tgN) (ix := 158) lk_2155 lk_2156 lk_2157 ⟨rfl, rfl, Nat.le_of_ble_eq_true rfl, Nat.le_of_ble_eq_true rfl⟩ rfl (st := [(0, r)]) rfl (show (1 + 0) ≤ 8 by decide) ⟨Nat.le_trans (by omega) rm_c, Nat.le_trans (by omega) rm_s⟩ (by decide +kernel) (fun _ => ?_)
  refine l_icmpeq C (off := 522) (tgt := 2222) (by decide +kernel) (by decide) ?_
  refine l_widen (k := cells + 7) (n := slots + 710) (by omega) (by omega) ?_
  exact kk dA2 dB2 hR2
set_option maxHeartbeats 8000000 in
set_option maxRecDepth 100000 in
theorem case_32 (C : LC p s m meth c b L xs D cA st0) {Rel : Dt → Dt → Prop} (hsim : Sim_poll Rel) (hi : i + 6 < L) (hc : cells + 7 ≤ 600000 ∧ slots + 710 ≤ 7302250) (hCA : CN 0 dA) (hCB : CN 1 dB) (hRel : Rel dA dB) (kk : ∀ dA' dB', Rel dA' dB' → GL p l e s m below meth c b D cA st0 (cells + 7) (slots + 710) 2222 i [] dA' dB') : GL p l e s m below meth c b D cA st0 cells slots 1705 i [] dA dB := by
  have hL9 := C.2.2.2.2.2.2.2.2.2.2.1
  obtain ⟨r, dA2, dB2, hA2, hB2, hR2⟩ := hsim (XI xs (i + 1)) (XI xs (i + 2)) (XI xs (i + 3)) ((if XI xs (i + 4) = 0 then 0 else 1)) dA dB XI_c XI_c XI_c (cb_if _) hCA hCB hRel
  refine l_ld1 C (by decide +kernel) ?_
  refine l_ld0 C (by decide +kernel) ?_
  refine l_i3 C (by decide +kernel) ?_
  refine l_iconst C 1 (by decide +kernel) ?_
  refine l_iadd C (z := ((i + 1 : Nat) : Int)) (ad7 ⟨hi, hL9⟩ 1 (by decide)) (by decide +kernel) ?_
  refine l_iald C (i + 1) (by omega) (by decide +kernel) ?_
  refine l_ld0 C (by decide +kernel) ?_
  refine l_i3 C (by decide +kernel) ?_
  refine l_iconst C 2 (by decide +kernel) ?_
  refine l_iadd C (z := ((i + 2 : Nat) : Int)) (ad7 ⟨hi, hL9⟩ 2 (by decide)) (by decide +kernel) ?_
  refine l_iald C (i + 2) (by omega) (by decide +kernel) ?_
  refine l_ld0 C (by decide +kernel) ?_
  refine l_i3 C (by decide +kernel) ?_
  refine l_iconst C 3 (by decide +kernel) ?_
  refine l_iadd C (z := ((i + 3 : Nat) : Int)) (ad7 ⟨hi, hL9⟩ 3 (by decide)) (by decide +kernel) ?_
  refine l_iald C (i + 3) (by omega) (by decide +kernel) ?_
  refine l_ld0 C (by decide +kernel) ?_
  refine l_i3 C (by decide +kernel) ?_
  refine l_iconst C 4 (by decide +kernel) ?_
  refine l_iadd C (z := ((i + 4 : Nat) : Int)) (ad7 ⟨hi, hL9⟩ 4 (by decide)) (by decide +kernel) ?_
  refine l_iald C (i + 4) (by omega) (by decide +kernel) ?_
  refine l_bool C XI_c (off := 7) (off2 := 4) (tgt := 1733) (tgt2 := 1734) (by decide +kernel) (by decide +kernel) (by decide +kernel) (by decide +kernel) (by decide) (by decide) (by decide) ?_
  refine l_callA C mw_PB_poll [(0, XI xs (i + 1)), (0, XI xs (i + 2)), (0, XI xs (i + 3)), (0, (if XI xs (i + 4) = 0 then 0 else 1))] (ok_PB_poll (XI xs (i + 1)) (XI xs (i + 2)) (XI xs (i + 3)) ((if XI xs (i + 4) = 0 then 0 else 1)) dA XI_c XI_c XI_c (cb_if _) hA2) (tgC (by decide) (tgC (by decide) (tgC (by decide) (tgC (by decide) tgN)))) (tgC (by decide) tgN) (ix := 159) lk_1164 lk_1165 lk_1166 ⟨rfl, rfl, Nat.le_of_ble_eq_true rfl, Nat.le_of_ble_eq_true rfl⟩ rfl (st := []) rfl (show 0 ≤ 8 by decide) ⟨Nat.le_trans (by omega) rm_c, Nat.le_trans (by omega) rm_s⟩ (by decide +kernel) (fun _ => ?_)
  refine l_ld2 C (by decide +kernel) ?_
  refine l_ld0 C (by decide +kernel) ?_
  refine l_i3 C (by decide +kernel) ?_
  refine l_iconst C 1 (by decide +kernel) ?_
  refine l_iadd C (z := ((i + 1 : Nat) : Int)) (ad7 ⟨hi, hL9⟩ 1 (by decide)) (by decide +kernel) ?_
  refine l_iald C (i + 1) (by omega) (by decide +kernel) ?_
  refine l_ld0 C (by decide +kernel) ?_
  refine l_i3 C (by decide +kernel) ?_
  refine l_iconst C 2 (by decide +kernel) ?_
  refine l_iadd C (z := ((i + 2 : Nat) : Int)) (ad7 ⟨hi, hL9⟩ 2 (by decide)) (by decide +kernel) ?_
  refine l_iald C (i + 2) (by omega) (by decide +kernel) ?_
  refine l_ld0 C (by decide +kernel) ?_
  refine l_i3 C (by decide +kernel) ?_
  refine l_iconst C 3 (by decide +kernel) ?_
  refine l_iadd C (z := ((i + 3 : Nat) : Int)) (ad7 ⟨hi, hL9⟩ 3 (by decide)) (by decide +kernel) ?_
  refine l_iald C (i + 3) (by omega) (by decide +kernel) ?_
  refine l_ld0 C (by decide +kernel) ?_
  refine l_i3 C (by decide +kernel) ?_
  refine l_iconst C 4 (by decide +kernel) ?_
  refine l_iadd C (z := ((i + 4 : Nat) : Int)) (ad7 ⟨hi, hL9⟩ 4 (by decide)) (by decide +kernel) ?_
  refine l_iald C (i + 4) (by omega) (by decide +kernel) ?_
  refine l_bool C XI_c (off := 7) (off2 := 4) (tgt := 1765) (tgt2 := 1766) (by decide +kernel) (by decide +kernel) (by decide +kernel) (by decide +kernel) (by decide) (by decide) (by decide) ?_
  refine l_callB C mw_Mo_poll [(0, XI xs (i + 1)), (0, XI xs (i + 2)), (0, XI xs (i + 3)), (0, (if XI xs (i + 4) = 0 then 0 else 1))] (ok_Mo_poll (XI xs (i + 1)) (XI xs (i + 2)) (XI xs (i + 3)) ((if XI xs (i + 4) = 0 then 0 else 1)) dB XI_c XI_c XI_c (cb_if _) hB2) (tgC (by decide) (tgC (by decide) (tgC (by decide) (tgC (by decide) tgN)))) (tgC (by decide) tgN) (ix := 163) lk_2163 lk_2164 lk_2165 ⟨rfl, rfl, Nat.le_of_ble_eq_true rfl, Nat.le_of_ble_eq_true rfl⟩ rfl (st := [(0, r)]) rfl (show (1 + 0) ≤ 8 by decide) ⟨Nat.le_trans (by omega) rm_c, Nat.le_trans (by omega) rm_s⟩ (by decide +kernel) (fun _ => ?_)
  refine l_icmpeq C (off := 453) (tgt := 2222) (by decide +kernel) (by decide) ?_
  refine l_widen (k := cells + 7) (n := slots + 710) (by omega) (by omega) ?_
  exact kk dA2 dB2 hR2
set_option maxHeartbeats 8000000 in
set_option maxRecDepth 100000 in
theorem case_33 (C : LC p s m meth c b L xs D cA st0) {Rel : Dt → Dt → Prop} (hsim : Sim_seated Rel) (hi : i + 6 < L) (hc : cells + 7 ≤ 600000 ∧ slots + 710 ≤ 7302250) (hCA : CN 0 dA) (hCB : CN 1 dB) (hRel : Rel dA dB) (kk : ∀ dA' dB', Rel dA' dB' → GL p l e s m below meth c b D cA st0 (cells + 7) (slots + 710) 2222 i [] dA' dB') : GL p l e s m below meth c b D cA st0 cells slots 1774 i [] dA dB := by
  have hL9 := C.2.2.2.2.2.2.2.2.2.2.1
  obtain ⟨r, dA2, dB2, hA2, hB2, hR2⟩ := hsim (XI xs (i + 1)) (XI xs (i + 2)) (XI xs (i + 3)) ((if XI xs (i + 4) = 0 then 0 else 1)) dA dB XI_c XI_c XI_c (cb_if _) hCA hCB hRel
  refine l_ld1 C (by decide +kernel) ?_
  refine l_ld0 C (by decide +kernel) ?_
  refine l_i3 C (by decide +kernel) ?_
  refine l_iconst C 1 (by decide +kernel) ?_
  refine l_iadd C (z := ((i + 1 : Nat) : Int)) (ad7 ⟨hi, hL9⟩ 1 (by decide)) (by decide +kernel) ?_
  refine l_iald C (i + 1) (by omega) (by decide +kernel) ?_
  refine l_ld0 C (by decide +kernel) ?_
  refine l_i3 C (by decide +kernel) ?_
  refine l_iconst C 2 (by decide +kernel) ?_
  refine l_iadd C (z := ((i + 2 : Nat) : Int)) (ad7 ⟨hi, hL9⟩ 2 (by decide)) (by decide +kernel) ?_
  refine l_iald C (i + 2) (by omega) (by decide +kernel) ?_
  refine l_ld0 C (by decide +kernel) ?_
  refine l_i3 C (by decide +kernel) ?_
  refine l_iconst C 3 (by decide +kernel) ?_
  refine l_iadd C (z := ((i + 3 : Nat) : Int)) (ad7 ⟨hi, hL9⟩ 3 (by decide)) (by decide +kernel) ?_
  refine l_iald C (i + 3) (by omega) (by decide +kernel) ?_
  refine l_ld0 C (by decide +kernel) ?_
  refine l_i3 C (by decide +kernel) ?_
  refine l_iconst C 4 (by decide +kernel) ?_
  refine l_iadd C (z := ((i + 4 : Nat) : Int)) (ad7 ⟨hi, hL9⟩ 4 (by decide)) (by decide +kernel) ?_
  refine l_iald C (i + 4) (by omega) (by decide +kernel) ?_
  refine l_bool C XI_c (off := 7) (off2 := 4) (tgt := 1802) (tgt2 := 1803) (by decide +kernel) (by decide +kernel) (by decide +kernel) (by decide +kernel) (by decide) (by decide) (by decide) ?_
  refine l_callA C mw_PB_seated [(0, XI xs (i + 1)), (0, XI xs (i + 2)), (0, XI xs (i + 3)), (0, (if XI xs (i + 4) = 0 then 0 else 1))] (ok_PB_seated (XI xs (i + 1)) (XI xs (i + 2)) (XI xs (i + 3)) ((if XI xs (i + 4) = 0 then 0 else 1)) dA XI_c XI_c XI_c (cb_if _) hA2) (tgC (by decide) (tgC (by decide) (tgC (by decide) (tgC (by decide) tgN)))) (tgC (by decide) tgN) (ix := 164) lk_1168 lk_1169 lk_1170 ⟨rfl, rfl, Nat.le_of_ble_eq_true rfl, Nat.le_of_ble_eq_true rfl⟩ rfl (st := []) rfl (show 0 ≤ 8 by decide) ⟨Nat.le_trans (by omega) rm_c, Nat.le_trans (by omega) rm_s⟩ (by decide +kernel) (fun _ => ?_)
  refine l_ld2 C (by decide +kernel) ?_
  refine l_ld0 C (by decide +kernel) ?_
  refine l_i3 C (by decide +kernel) ?_
  refine l_iconst C 1 (by decide +kernel) ?_
  refine l_iadd C (z := ((i + 1 : Nat) : Int)) (ad7 ⟨hi, hL9⟩ 1 (by decide)) (by decide +kernel) ?_
  refine l_iald C (i + 1) (by omega) (by decide +kernel) ?_
  refine l_ld0 C (by decide +kernel) ?_
  refine l_i3 C (by decide +kernel) ?_
  refine l_iconst C 2 (by decide +kernel) ?_
  refine l_iadd C (z := ((i + 2 : Nat) : Int)) (ad7 ⟨hi, hL9⟩ 2 (by decide)) (by decide +kernel) ?_
  refine l_iald C (i + 2) (by omega) (by decide +kernel) ?_
  refine l_ld0 C (by decide +kernel) ?_
  refine l_i3 C (by decide +kernel) ?_
  refine l_iconst C 3 (by decide +kernel) ?_
  refine l_iadd C (z := ((i + 3 : Nat) : Int)) (ad7 ⟨hi, hL9⟩ 3 (by decide)) (by decide +kernel) ?_
  refine l_iald C (i + 3) (by omega) (by decide +kernel) ?_
  refine l_ld0 C (by decide +kernel) ?_
  refine l_i3 C (by decide +kernel) ?_
  refine l_iconst C 4 (by decide +kernel) ?_
  refine l_iadd C (z := ((i + 4 : Nat) : Int)) (ad7 ⟨hi, hL9⟩ 4 (by decide)) (by decide +kernel) ?_
  refine l_iald C (i + 4) (by omega) (by decide +kernel) ?_
  refine l_bool C XI_c (off := 7) (off2 := 4) (tgt := 1834) (tgt2 := 1835) (by decide +kernel) (by decide +kernel) (by decide +kernel) (by decide +kernel) (by decide) (by decide) (by decide) ?_
  refine l_callB C mw_Mo_seated [(0, XI xs (i + 1)), (0, XI xs (i + 2)), (0, XI xs (i + 3)), (0, (if XI xs (i + 4) = 0 then 0 else 1))] (ok_Mo_seated (XI xs (i + 1)) (XI xs (i + 2)) (XI xs (i + 3)) ((if XI xs (i + 4) = 0 then 0 else 1)) dB XI_c XI_c XI_c (cb_if _) hB2) (tgC (by decide) (tgC (by decide) (tgC (by decide) (tgC (by decide) tgN)))) (tgC (by decide) tgN) (ix := 167) lk_2171 lk_2172 lk_2173 ⟨rfl, rfl, Nat.le_of_ble_eq_true rfl, Nat.le_of_ble_eq_true rfl⟩ rfl (st := [(0, r)]) rfl (show (1 + 0) ≤ 8 by decide) ⟨Nat.le_trans (by omega) rm_c, Nat.le_trans (by omega) rm_s⟩ (by decide +kernel) (fun _ => ?_)
  refine l_icmpeq C (off := 384) (tgt := 2222) (by decide +kernel) (by decide) ?_
  refine l_widen (k := cells + 7) (n := slots + 710) (by omega) (by omega) ?_
  exact kk dA2 dB2 hR2
set_option maxHeartbeats 8000000 in
set_option maxRecDepth 100000 in
theorem case_34 (C : LC p s m meth c b L xs D cA st0) {Rel : Dt → Dt → Prop} (hsim : Sim_ground Rel) (hi : i + 6 < L) (hc : cells + 7 ≤ 600000 ∧ slots + 710 ≤ 7302250) (hCA : CN 0 dA) (hCB : CN 1 dB) (hRel : Rel dA dB) (kk : ∀ dA' dB', Rel dA' dB' → GL p l e s m below meth c b D cA st0 (cells + 7) (slots + 710) 2222 i [] dA' dB') : GL p l e s m below meth c b D cA st0 cells slots 1843 i [] dA dB := by
  have hL9 := C.2.2.2.2.2.2.2.2.2.2.1
  obtain ⟨r, dA2, dB2, hA2, hB2, hR2⟩ := hsim ((if XI xs (i + 1) = 0 then 0 else 1)) (XI xs (i + 2)) dA dB (cb_if _) XI_c hCA hCB hRel
  refine l_ld1 C (by decide +kernel) ?_
  refine l_ld0 C (by decide +kernel) ?_
  refine l_i3 C (by decide +kernel) ?_
  refine l_iconst C 1 (by decide +kernel) ?_
  refine l_iadd C (z := ((i + 1 : Nat) : Int)) (ad7 ⟨hi, hL9⟩ 1 (by decide)) (by decide +kernel) ?_
  refine l_iald C (i + 1) (by omega) (by decide +kernel) ?_
  refine l_bool C XI_c (off := 7) (off2 := 4) (tgt := 1856) (tgt2 := 1857) (by decide +kernel) (by decide +kernel) (by decide +kernel) (by decide +kernel) (by decide) (by decide) (by decide) ?_
  refine l_ld0 C (by decide +kernel) ?_
  refine l_i3 C (by decide +kernel) ?_
  refine l_iconst C 2 (by decide +kernel) ?_
  refine l_iadd C (z := ((i + 2 : Nat) : Int)) (ad7 ⟨hi, hL9⟩ 2 (by decide)) (by decide +kernel) ?_
  refine l_iald C (i + 2) (by omega) (by decide +kernel) ?_
  refine l_callA C mw_PB_ground [(0, (if XI xs (i + 1) = 0 then 0 else 1)), (0, XI xs (i + 2))] (ok_PB_ground ((if XI xs (i + 1) = 0 then 0 else 1)) (XI xs (i + 2)) dA (cb_if _) XI_c hA2) (tgC (by decide) (tgC (by decide) tgN)) (tgC (by decide) tgN) (ix := 168) lk_1178 lk_1179 lk_1180 ⟨rfl, rfl, Nat.le_of_ble_eq_true rfl, Nat.le_of_ble_eq_true rfl⟩ rfl (st := []) rfl (show 0 ≤ 8 by decide) ⟨Nat.le_trans (by omega) rm_c, Nat.le_trans (by omega) rm_s⟩ (by decide +kernel) (fun _ => ?_)
  refine l_ld2 C (by decide +kernel) ?_
  refine l_ld0 C (by decide +kernel) ?_
  refine l_i3 C (by decide +kernel) ?_
  refine l_iconst C 1 (by decide +kernel) ?_
  refine l_iadd C (z := ((i + 1 : Nat) : Int)) (ad7 ⟨hi, hL9⟩ 1 (by decide)) (by decide +kernel) ?_
  refine l_iald C (i + 1) (by omega) (by decide +kernel) ?_
  refine l_bool C XI_c (off := 7) (off2 := 4) (tgt := 1878) (tgt2 := 1879) (by decide +kernel) (by decide +kernel) (by decide +kernel) (by decide +kernel) (by decide) (by decide) (by decide) ?_
  refine l_ld0 C (by decide +kernel) ?_
  refine l_i3 C (by decide +kernel) ?_
  refine l_iconst C 2 (by decide +kernel) ?_
  refine l_iadd C (z := ((i + 2 : Nat) : Int)) (ad7 ⟨hi, hL9⟩ 2 (by decide)) (by decide +kernel) ?_
  refine l_iald C (i + 2) (by omega) (by decide +kernel) ?_
  refine l_callB C mw_Mo_ground [(0, (if XI xs (i + 1) = 0 then 0 else 1)), (0, XI xs (i + 2))] (ok_Mo_ground ((if XI xs (i + 1) = 0 then 0 else 1)) (XI xs (i + 2)) dB (cb_if _) XI_c hB2) (tgC (by decide) (tgC (by decide) tgN)) (tgC (by decide) tgN) (ix := 172) lk_2179 lk_2180 lk_2181 ⟨rfl, rfl, Nat.le_of_ble_eq_true rfl, Nat.le_of_ble_eq_true rfl⟩ rfl (st := [(0, r)]) rfl (show (1 + 0) ≤ 8 by decide) ⟨Nat.le_trans (by omega) rm_c, Nat.le_trans (by omega) rm_s⟩ (by decide +kernel) (fun _ => ?_)
  refine l_icmpeq C (off := 335) (tgt := 2222) (by decide +kernel) (by decide) ?_
  refine l_widen (k := cells + 7) (n := slots + 710) (by omega) (by omega) ?_
  exact kk dA2 dB2 hR2
set_option maxHeartbeats 8000000 in
set_option maxRecDepth 100000 in
theorem case_35 (C : LC p s m meth c b L xs D cA st0) {Rel : Dt → Dt → Prop} (hsim : Sim_against Rel) (hi : i + 6 < L) (hc : cells + 7 ≤ 600000 ∧ slots + 710 ≤ 7302250) (hCA : CN 0 dA) (hCB : CN 1 dB) (hRel : Rel dA dB) (kk : ∀ dA' dB', Rel dA' dB' → GL p l e s m below meth c b D cA st0 (cells + 7) (slots + 710) 2222 i [] dA' dB') : GL p l e s m below meth c b D cA st0 cells slots 1892 i [] dA dB := by
  have hL9 := C.2.2.2.2.2.2.2.2.2.2.1
  obtain ⟨r, dA2, dB2, hA2, hB2, hR2⟩ := hsim (XI xs (i + 1)) (XI xs (i + 2)) dA dB XI_c XI_c hCA hCB hRel
  refine l_ld1 C (by decide +kernel) ?_
  refine l_ld0 C (by decide +kernel) ?_
  refine l_i3 C (by decide +kernel) ?_
  refine l_iconst C 1 (by decide +kernel) ?_
  refine l_iadd C (z := ((i + 1 : Nat) : Int)) (ad7 ⟨hi, hL9⟩ 1 (by decide)) (by decide +kernel) ?_
  refine l_iald C (i + 1) (by omega) (by decide +kernel) ?_
  refine l_ld0 C (by decide +kernel) ?_
  refine l_i3 C (by decide +kernel) ?_
  refine l_iconst C 2 (by decide +kernel) ?_
  refine l_iadd C (z := ((i + 2 : Nat) : Int)) (ad7 ⟨hi, hL9⟩ 2 (by decide)) (by decide +kernel) ?_
  refine l_iald C (i + 2) (by omega) (by decide +kernel) ?_
  refine l_callA C mw_PB_against [(0, XI xs (i + 1)), (0, XI xs (i + 2))] (ok_PB_against (XI xs (i + 1)) (XI xs (i + 2)) dA XI_c XI_c hA2) (tgC (by decide) (tgC (by decide) tgN)) (tgC (by decide) tgN) (ix := 173) lk_1194 lk_1195 lk_1196 ⟨rfl, rfl, Nat.le_of_ble_eq_true rfl, Nat.le_of_ble_eq_true rfl⟩ rfl (st := []) rfl (show 0 ≤ 8 by decide) ⟨Nat.le_trans (by omega) rm_c, Nat.le_trans (by omega) rm_s⟩ (by decide +kernel) (fun _ => ?_)
  refine l_ld2 C (by decide +kernel) ?_
  refine l_ld0 C (by decide +kernel) ?_
  refine l_i3 C (by decide +kernel) ?_
  refine l_iconst C 1 (by decide +kernel) ?_
  refine l_iadd C (z := ((i + 1 : Nat) : Int)) (ad7 ⟨hi, hL9⟩ 1 (by decide)) (by decide +kernel) ?_
  refine l_iald C (i + 1) (by omega) (by decide +kernel) ?_
  refine l_ld0 C (by decide +kernel) ?_
  refine l_i3 C (by decide +kernel) ?_
  refine l_iconst C 2 (by decide +kernel) ?_
  refine l_iadd C (z := ((i + 2 : Nat) : Int)) (ad7 ⟨hi, hL9⟩ 2 (by decide)) (by decide +kernel) ?_
  refine l_iald C (i + 2) (by omega) (by decide +kernel) ?_
  refine l_callB C mw_Mo_against [(0, XI xs (i + 1)), (0, XI xs (i + 2))] (ok_Mo_against (XI xs (i + 1)) (XI xs (i + 2)) dB XI_c XI_c hB2) (tgC (by decide) (tgC (by decide) tgN)) (tgC (by decide) tgN) (ix := 177) lk_2183 lk_2184 lk_2185 ⟨rfl, rfl, Nat.le_of_ble_eq_true rfl, Nat.le_of_ble_eq_true rfl⟩ rfl (st := [(0, r)]) rfl (show (1 + 0) ≤ 8 by decide) ⟨Nat.le_trans (by omega) rm_c, Nat.le_trans (by omega) rm_s⟩ (by decide +kernel) (fun _ => ?_)
  refine l_icmpeq C (off := 302) (tgt := 2222) (by decide +kernel) (by decide) ?_
  refine l_widen (k := cells + 7) (n := slots + 710) (by omega) (by omega) ?_
  exact kk dA2 dB2 hR2
set_option maxHeartbeats 8000000 in
set_option maxRecDepth 100000 in
theorem case_36 (C : LC p s m meth c b L xs D cA st0) {Rel : Dt → Dt → Prop} (hsim : Sim_written Rel) (hi : i + 6 < L) (hc : cells + 7 ≤ 600000 ∧ slots + 710 ≤ 7302250) (hCA : CN 0 dA) (hCB : CN 1 dB) (hRel : Rel dA dB) (kk : ∀ dA' dB', Rel dA' dB' → GL p l e s m below meth c b D cA st0 (cells + 7) (slots + 710) 2222 i [] dA' dB') : GL p l e s m below meth c b D cA st0 cells slots 1925 i [] dA dB := by
  have hL9 := C.2.2.2.2.2.2.2.2.2.2.1
  obtain ⟨r, dA2, dB2, hA2, hB2, hR2⟩ := hsim (XI xs (i + 1)) (XI xs (i + 2)) dA dB XI_c XI_c hCA hCB hRel
  refine l_ld1 C (by decide +kernel) ?_
  refine l_ld0 C (by decide +kernel) ?_
  refine l_i3 C (by decide +kernel) ?_
  refine l_iconst C 1 (by decide +kernel) ?_
  refine l_iadd C (z := ((i + 1 : Nat) : Int)) (ad7 ⟨hi, hL9⟩ 1 (by decide)) (by decide +kernel) ?_
  refine l_iald C (i + 1) (by omega) (by decide +kernel) ?_
  refine l_ld0 C (by decide +kernel) ?_
  refine l_i3 C (by decide +kernel) ?_
  refine l_iconst C 2 (by decide +kernel) ?_
  refine l_iadd C (z := ((i + 2 : Nat) : Int)) (ad7 ⟨hi, hL9⟩ 2 (by decide)) (by decide +kernel) ?_
  refine l_iald C (i + 2) (by omega) (by decide +kernel) ?_
  refine l_callA C mw_PB_written [(0, XI xs (i + 1)), (0, XI xs (i + 2))] (ok_PB_written (XI xs (i + 1)) (XI xs (i + 2)) dA XI_c XI_c hA2) (tgC (by decide) (tgC (by decide) tgN)) (tgC (by decide) tgN) (ix := 178) lk_1210 lk_1211 lk_1212 ⟨rfl, rfl, Nat.le_of_ble_eq_true rfl, Nat.le_of_ble_eq_true rfl⟩ rfl (st := []) rfl (show 0 ≤ 8 by decide) ⟨Nat.le_trans (by omega) rm_c, Nat.le_trans (by omega) rm_s⟩ (by decide +kernel) (fun _ => ?_)
  refine l_ld2 C (by decide +kernel) ?_
  refine l_ld0 C (by decide +kernel) ?_
  refine l_i3 C (by decide +kernel) ?_
  refine l_iconst C 1 (by decide +kernel) ?_
  refine l_iadd C (z := ((i + 1 : Nat) : Int)) (ad7 ⟨hi, hL9⟩ 1 (by decide)) (by decide +kernel) ?_
  refine l_iald C (i + 1) (by omega) (by decide +kernel) ?_
  refine l_ld0 C (by decide +kernel) ?_
  refine l_i3 C (by decide +kernel) ?_
  refine l_iconst C 2 (by decide +kernel) ?_
  refine l_iadd C (z := ((i + 2 : Nat) : Int)) (ad7 ⟨hi, hL9⟩ 2 (by decide)) (by decide +kernel) ?_
  refine l_iald C (i + 2) (by omega) (by decide +kernel) ?_
  refine l_callB C mw_Mo_written [(0, XI xs (i + 1)), (0, XI xs (i + 2))] (ok_Mo_written (XI xs (i + 1)) (XI xs (i + 2)) dB XI_c XI_c hB2) (tgC (by decide) (tgC (by decide) tgN)) (tgC (by decide) tgN) (ix := 181) lk_2187 lk_2188 lk_2189 ⟨rfl, rfl, Nat.le_of_ble_eq_true rfl, Nat.le_of_ble_eq_true rfl⟩ rfl (st := [(0, r)]) rfl (show (1 + 0) ≤ 8 by decide) ⟨Nat.le_trans (by omega) rm_c, Nat.le_trans (by omega) rm_s⟩ (by decide +kernel) (fun _ => ?_)
  refine l_icmpeq C (off := 269) (tgt := 2222) (by decide +kernel) (by decide) ?_
  refine l_widen (k := cells + 7) (n := slots + 710) (by omega) (by omega) ?_
  exact kk dA2 dB2 hR2
set_option maxHeartbeats 8000000 in
set_option maxRecDepth 100000 in
theorem case_37 (C : LC p s m meth c b L xs D cA st0) {Rel : Dt → Dt → Prop} (hsim : Sim_turns Rel) (hi : i + 6 < L) (hc : cells + 7 ≤ 600000 ∧ slots + 710 ≤ 7302250) (hCA : CN 0 dA) (hCB : CN 1 dB) (hRel : Rel dA dB) (kk : ∀ dA' dB', Rel dA' dB' → GL p l e s m below meth c b D cA st0 (cells + 7) (slots + 710) 2222 i [] dA' dB') : GL p l e s m below meth c b D cA st0 cells slots 1958 i [] dA dB := by
  have hL9 := C.2.2.2.2.2.2.2.2.2.2.1
  obtain ⟨r, dA2, dB2, hA2, hB2, hR2⟩ := hsim (XI xs (i + 1)) (XI xs (i + 2)) dA dB XI_c XI_c hCA hCB hRel
  refine l_ld1 C (by decide +kernel) ?_
  refine l_ld0 C (by decide +kernel) ?_
  refine l_i3 C (by decide +kernel) ?_
  refine l_iconst C 1 (by decide +kernel) ?_
  refine l_iadd C (z := ((i + 1 : Nat) : Int)) (ad7 ⟨hi, hL9⟩ 1 (by decide)) (by decide +kernel) ?_
  refine l_iald C (i + 1) (by omega) (by decide +kernel) ?_
  refine l_ld0 C (by decide +kernel) ?_
  refine l_i3 C (by decide +kernel) ?_
  refine l_iconst C 2 (by decide +kernel) ?_
  refine l_iadd C (z := ((i + 2 : Nat) : Int)) (ad7 ⟨hi, hL9⟩ 2 (by decide)) (by decide +kernel) ?_
  refine l_iald C (i + 2) (by omega) (by decide +kernel) ?_
  refine l_callA C mw_PB_turns [(0, XI xs (i + 1)), (0, XI xs (i + 2))] (ok_PB_turns (XI xs (i + 1)) (XI xs (i + 2)) dA XI_c XI_c hA2) (tgC (by decide) (tgC (by decide) tgN)) (tgC (by decide) tgN) (ix := 182) lk_1238 lk_1239 lk_1240 ⟨rfl, rfl, Nat.le_of_ble_eq_true rfl, Nat.le_of_ble_eq_true rfl⟩ rfl (st := []) rfl (show 0 ≤ 8 by decide) ⟨Nat.le_trans (by omega) rm_c, Nat.le_trans (by omega) rm_s⟩ (by decide +kernel) (fun _ => ?_)
  refine l_ld2 C (by decide +kernel) ?_
  refine l_ld0 C (by decide +kernel) ?_
  refine l_i3 C (by decide +kernel) ?_
  refine l_iconst C 1 (by decide +kernel) ?_
  refine l_iadd C (z := ((i + 1 : Nat) : Int)) (ad7 ⟨hi, hL9⟩ 1 (by decide)) (by decide +kernel) ?_
  refine l_iald C (i + 1) (by omega) (by decide +kernel) ?_
  refine l_ld0 C (by decide +kernel) ?_
  refine l_i3 C (by decide +kernel) ?_
  refine l_iconst C 2 (by decide +kernel) ?_
  refine l_iadd C (z := ((i + 2 : Nat) : Int)) (ad7 ⟨hi, hL9⟩ 2 (by decide)) (by decide +kernel) ?_
  refine l_iald C (i + 2) (by omega) (by decide +kernel) ?_
  refine l_callB C mw_Mo_turns [(0, XI xs (i + 1)), (0, XI xs (i + 2))] (ok_Mo_turns (XI xs (i + 1)) (XI xs (i + 2)) dB XI_c XI_c hB2) (tgC (by decide) (tgC (by decide) tgN)) (tgC (by decide) tgN) (ix := 185) lk_2199 lk_2200 lk_2201 ⟨rfl, rfl, Nat.le_of_ble_eq_true rfl, Nat.le_of_ble_eq_true rfl⟩ rfl (st := [(0, r)]) rfl (show (1 + 0) ≤ 8 by decide) ⟨Nat.le_trans (by omega) rm_c, Nat.le_trans (by omega) rm_s⟩ (by decide +kernel) (fun _ => ?_)
  refine l_icmpeq C (off := 236) (tgt := 2222) (by decide +kernel) (by decide) ?_
  refine l_widen (k := cells + 7) (n := slots + 710) (by omega) (by omega) ?_
  exact kk dA2 dB2 hR2
set_option maxHeartbeats 8000000 in
set_option maxRecDepth 100000 in
theorem case_38 (C : LC p s m meth c b L xs D cA st0) {Rel : Dt → Dt → Prop} (hsim : Sim_member Rel) (hi : i + 6 < L) (hc : cells + 7 ≤ 600000 ∧ slots + 710 ≤ 7302250) (hCA : CN 0 dA) (hCB : CN 1 dB) (hRel : Rel dA dB) (kk : ∀ dA' dB', Rel dA' dB' → GL p l e s m below meth c b D cA st0 (cells + 7) (slots + 710) 2222 i [] dA' dB') : GL p l e s m below meth c b D cA st0 cells slots 1991 i [] dA dB := by
  have hL9 := C.2.2.2.2.2.2.2.2.2.2.1
  obtain ⟨r, dA2, dB2, hA2, hB2, hR2⟩ := hsim (XI xs (i + 1)) (XI xs (i + 2)) dA dB XI_c XI_c hCA hCB hRel
  refine l_ld1 C (by decide +kernel) ?_
  refine l_ld0 C (by decide +kernel) ?_
  refine l_i3 C (by decide +kernel) ?_
  refine l_iconst C 1 (by decide +kernel) ?_
  refine l_iadd C (z := ((i + 1 : Nat) : Int)) (ad7 ⟨hi, hL9⟩ 1 (by decide)) (by decide +kernel) ?_
  refine l_iald C (i + 1) (by omega) (by decide +kernel) ?_
  refine l_ld0 C (by decide +kernel) ?_
  refine l_i3 C (by decide +kernel) ?_
  refine l_iconst C 2 (by decide +kernel) ?_
  refine l_iadd C (z := ((i + 2 : Nat) : Int)) (ad7 ⟨hi, hL9⟩ 2 (by decide)) (by decide +kernel) ?_
  refine l_iald C (i + 2) (by omega) (by decide +kernel) ?_
  refine l_callA C mw_PB_member [(0, XI xs (i + 1)), (0, XI xs (i + 2))] (ok_PB_member (XI xs (i + 1)) (XI xs (i + 2)) dA XI_c XI_c hA2) (tgC (by decide) (tgC (by decide) tgN)) (tgC (by decide) tgN) (ix := 186) lk_1268 lk_1269 lk_1270 ⟨rfl, rfl, Nat.le_of_ble_eq_true rfl, Nat.le_of_ble_eq_true rfl⟩ rfl (st := []) rfl (show 0 ≤ 8 by decide) ⟨Nat.le_trans (by omega) rm_c, Nat.le_trans (by omega) rm_s⟩ (by decide +kernel) (fun _ => ?_)
  refine l_ld2 C (by decide +kernel) ?_
  refine l_ld0 C (by decide +kernel) ?_
  refine l_i3 C (by decide +kernel) ?_
  refine l_iconst C 1 (by decide +kernel) ?_
  refine l_iadd C (z := ((i + 1 : Nat) : Int)) (ad7 ⟨hi, hL9⟩ 1 (by decide)) (by decide +kernel) ?_
  refine l_iald C (i + 1) (by omega) (by decide +kernel) ?_
  refine l_ld0 C (by decide +kernel) ?_
  refine l_i3 C (by decide +kernel) ?_
  refine l_iconst C 2 (by decide +kernel) ?_
  refine l_iadd C (z := ((i + 2 : Nat) : Int)) (ad7 ⟨hi, hL9⟩ 2 (by decide)) (by decide +kernel) ?_
  refine l_iald C (i + 2) (by omega) (by decide +kernel) ?_
  refine l_callB C mw_Mo_member [(0, XI xs (i + 1)), (0, XI xs (i + 2))] (ok_Mo_member (XI xs (i + 1)) (XI xs (i + 2)) dB XI_c XI_c hB2) (tgC (by decide) (tgC (by decide) tgN)) (tgC (by decide) tgN) (ix := 189) lk_2207 lk_2208 lk_2209 ⟨rfl, rfl, Nat.le_of_ble_eq_true rfl, Nat.le_of_ble_eq_true rfl⟩ rfl (st := [(0, r)]) rfl (show (1 + 0) ≤ 8 by decide) ⟨Nat.le_trans (by omega) rm_c, Nat.le_trans (by omega) rm_s⟩ (by decide +kernel) (fun _ => ?_)
  refine l_icmpeq C (off := 203) (tgt := 2222) (by decide +kernel) (by decide) ?_
  refine l_widen (k := cells + 7) (n := slots + 710) (by omega) (by omega) ?_
  exact kk dA2 dB2 hR2
set_option maxHeartbeats 8000000 in
set_option maxRecDepth 100000 in
theorem case_39 (C : LC p s m meth c b L xs D cA st0) {Rel : Dt → Dt → Prop} (hsim : Sim_kin Rel) (hi : i + 6 < L) (hc : cells + 7 ≤ 600000 ∧ slots + 710 ≤ 7302250) (hCA : CN 0 dA) (hCB : CN 1 dB) (hRel : Rel dA dB) (kk : ∀ dA' dB', Rel dA' dB' → GL p l e s m below meth c b D cA st0 (cells + 7) (slots + 710) 2222 i [] dA' dB') : GL p l e s m below meth c b D cA st0 cells slots 2024 i [] dA dB := by
  have hL9 := C.2.2.2.2.2.2.2.2.2.2.1
  obtain ⟨r, dA2, dB2, hA2, hB2, hR2⟩ := hsim (XI xs (i + 1)) (XI xs (i + 2)) dA dB XI_c XI_c hCA hCB hRel
  refine l_ld1 C (by decide +kernel) ?_
  refine l_ld0 C (by decide +kernel) ?_
  refine l_i3 C (by decide +kernel) ?_
  refine l_iconst C 1 (by decide +kernel) ?_
  refine l_iadd C (z := ((i + 1 : Nat) : Int)) (ad7 ⟨hi, hL9⟩ 1 (by decide)) (by decide +kernel) ?_
  refine l_iald C (i + 1) (by omega) (by decide +kernel) ?_
  refine l_ld0 C (by decide +kernel) ?_
  refine l_i3 C (by decide +kernel) ?_
  refine l_iconst C 2 (by decide +kernel) ?_
  refine l_iadd C (z := ((i + 2 : Nat) : Int)) (ad7 ⟨hi, hL9⟩ 2 (by decide)) (by decide +kernel) ?_
  refine l_iald C (i + 2) (by omega) (by decide +kernel) ?_
  refine l_callA C mw_PB_kin [(0, XI xs (i + 1)), (0, XI xs (i + 2))] (ok_PB_kin (XI xs (i + 1)) (XI xs (i + 2)) dA XI_c XI_c hA2) (tgC (by decide) (tgC (by decide) tgN)) (tgC (by decide) tgN) (ix := 190) lk_1283 lk_1284 lk_1285 ⟨rfl, rfl, Nat.le_of_ble_eq_true rfl, Nat.le_of_ble_eq_true rfl⟩ rfl (st := []) rfl (show 0 ≤ 8 by decide) ⟨Nat.le_trans (by omega) rm_c, Nat.le_trans (by omega) rm_s⟩ (by decide +kernel) (fun _ => ?_)
  refine l_ld2 C (by decide +kernel) ?_
  refine l_ld0 C (by decide +kernel) ?_
  refine l_i3 C (by decide +kernel) ?_
  refine l_iconst C 1 (by decide +kernel) ?_
  refine l_iadd C (z := ((i + 1 : Nat) : Int)) (ad7 ⟨hi, hL9⟩ 1 (by decide)) (by decide +kernel) ?_
  refine l_iald C (i + 1) (by omega) (by decide +kernel) ?_
  refine l_ld0 C (by decide +kernel) ?_
  refine l_i3 C (by decide +kernel) ?_
  refine l_iconst C 2 (by decide +kernel) ?_
  refine l_iadd C (z := ((i + 2 : Nat) : Int)) (ad7 ⟨hi, hL9⟩ 2 (by decide)) (by decide +kernel) ?_
  refine l_iald C (i + 2) (by omega) (by decide +kernel) ?_
  refine l_callB C mw_Mo_kin [(0, XI xs (i + 1)), (0, XI xs (i + 2))] (ok_Mo_kin (XI xs (i + 1)) (XI xs (i + 2)) dB XI_c XI_c hB2) (tgC (by decide) (tgC (by decide) tgN)) (tgC (by decide) tgN) (ix := 193) lk_2214 lk_2215 lk_2216 ⟨rfl, rfl, Nat.le_of_ble_eq_true rfl, Nat.le_of_ble_eq_true rfl⟩ rfl (st := [(0, r)]) rfl (show (1 + 0) ≤ 8 by decide) ⟨Nat.le_trans (by omega) rm_c, Nat.le_trans (by omega) rm_s⟩ (by decide +kernel) (fun _ => ?_)
  refine l_icmpeq C (off := 170) (tgt := 2222) (by decide +kernel) (by decide) ?_
  refine l_widen (k := cells + 7) (n := slots + 710) (by omega) (by omega) ?_
  exact kk dA2 dB2 hR2
set_option maxHeartbeats 8000000 in
set_option maxRecDepth 100000 in
theorem case_40 (C : LC p s m meth c b L xs D cA st0) {Rel : Dt → Dt → Prop} (hsim : Sim_draw Rel) (hi : i + 6 < L) (hc : cells + 7 ≤ 600000 ∧ slots + 710 ≤ 7302250) (hCA : CN 0 dA) (hCB : CN 1 dB) (hRel : Rel dA dB) (kk : ∀ dA' dB', Rel dA' dB' → GL p l e s m below meth c b D cA st0 (cells + 7) (slots + 710) 2222 i [] dA' dB') : GL p l e s m below meth c b D cA st0 cells slots 2057 i [] dA dB := by
  have hL9 := C.2.2.2.2.2.2.2.2.2.2.1
  obtain ⟨r, dA2, dB2, hA2, hB2, hR2⟩ := hsim (XI xs (i + 1)) (XI xs (i + 2)) (XI xs (i + 3)) dA dB XI_c XI_c XI_c hCA hCB hRel
  refine l_ld1 C (by decide +kernel) ?_
  refine l_ld0 C (by decide +kernel) ?_
  refine l_i3 C (by decide +kernel) ?_
  refine l_iconst C 1 (by decide +kernel) ?_
  refine l_iadd C (z := ((i + 1 : Nat) : Int)) (ad7 ⟨hi, hL9⟩ 1 (by decide)) (by decide +kernel) ?_
  refine l_iald C (i + 1) (by omega) (by decide +kernel) ?_
  refine l_ld0 C (by decide +kernel) ?_
  refine l_i3 C (by decide +kernel) ?_
  refine l_iconst C 2 (by decide +kernel) ?_
  refine l_iadd C (z := ((i + 2 : Nat) : Int)) (ad7 ⟨hi, hL9⟩ 2 (by decide)) (by decide +kernel) ?_
  refine l_iald C (i + 2) (by omega) (by decide +kernel) ?_
  refine l_ld0 C (by decide +kernel) ?_
  refine l_i3 C (by decide +kernel) ?_
  refine l_iconst C 3 (by decide +kernel) ?_
  refine l_iadd C (z := ((i + 3 : Nat) : Int)) (ad7 ⟨hi, hL9⟩ 3 (by decide)) (by decide +kernel) ?_
  refine l_iald C (i + 3) (by omega) (by decide +kernel) ?_
  refine l_callA C mw_PB_draw [(0, XI xs (i + 1)), (0, XI xs (i + 2)), (0, XI xs (i + 3))] (ok_PB_draw (XI xs (i + 1)) (XI xs (i + 2)) (XI xs (i + 3)) dA XI_c XI_c XI_c hA2) (tgC (by decide) (tgC (by decide) (tgC (by decide) tgN))) (tgC (by decide) tgN) (ix := 194) lk_1291 lk_1292 lk_1293 ⟨rfl, rfl, Nat.le_of_ble_eq_true rfl, Nat.le_of_ble_eq_true rfl⟩ rfl (st := []) rfl (show 0 ≤ 8 by decide) ⟨Nat.le_trans (by omega) rm_c, Nat.le_trans (by omega) rm_s⟩ (by decide +kernel) (fun _ => ?_)
  refine l_ld2 C (by decide +kernel) ?_
  refine l_ld0 C (by decide +kernel) ?_
  refine l_i3 C (by decide +kernel) ?_
  refine l_iconst C 1 (by decide +kernel) ?_
  refine l_iadd C (z := ((i + 1 : Nat) : Int)) (ad7 ⟨hi, hL9⟩ 1 (by decide)) (by decide +kernel) ?_
  refine l_iald C (i + 1) (by omega) (by decide +kernel) ?_
  refine l_ld0 C (by decide +kernel) ?_
  refine l_i3 C (by decide +kernel) ?_
  refine l_iconst C 2 (by decide +kernel) ?_
  refine l_iadd C (z := ((i + 2 : Nat) : Int)) (ad7 ⟨hi, hL9⟩ 2 (by decide)) (by decide +kernel) ?_
  refine l_iald C (i + 2) (by omega) (by decide +kernel) ?_
  refine l_ld0 C (by decide +kernel) ?_
  refine l_i3 C (by decide +kernel) ?_
  refine l_iconst C 3 (by decide +kernel) ?_
  refine l_iadd C (z := ((i + 3 : Nat) : Int)) (ad7 ⟨hi, hL9⟩ 3 (by decide)) (by decide +kernel) ?_
  refine l_iald C (i + 3) (by omega) (by decide +kernel) ?_
  refine l_callB C mw_Mo_draw [(0, XI xs (i + 1)), (0, XI xs (i + 2)), (0, XI xs (i + 3))] (ok_Mo_draw (XI xs (i + 1)) (XI xs (i + 2)) (XI xs (i + 3)) dB XI_c XI_c XI_c hB2) (tgC (by decide) (tgC (by decide) (tgC (by decide) tgN))) (tgC (by decide) tgN) (ix := 197) lk_2218 lk_2219 lk_2220 ⟨rfl, rfl, Nat.le_of_ble_eq_true rfl, Nat.le_of_ble_eq_true rfl⟩ rfl (st := [(0, r)]) rfl (show (1 + 0) ≤ 8 by decide) ⟨Nat.le_trans (by omega) rm_c, Nat.le_trans (by omega) rm_s⟩ (by decide +kernel) (fun _ => ?_)
  refine l_icmpeq C (off := 127) (tgt := 2222) (by decide +kernel) (by decide) ?_
  refine l_widen (k := cells + 7) (n := slots + 710) (by omega) (by omega) ?_
  exact kk dA2 dB2 hR2
set_option maxHeartbeats 8000000 in
set_option maxRecDepth 100000 in
theorem case_41 (C : LC p s m meth c b L xs D cA st0) {Rel : Dt → Dt → Prop} (hsim : Sim_bench Rel) (hi : i + 6 < L) (hc : cells + 7 ≤ 600000 ∧ slots + 710 ≤ 7302250) (hCA : CN 0 dA) (hCB : CN 1 dB) (hRel : Rel dA dB) (kk : ∀ dA' dB', Rel dA' dB' → GL p l e s m below meth c b D cA st0 (cells + 7) (slots + 710) 2222 i [] dA' dB') : GL p l e s m below meth c b D cA st0 cells slots 2100 i [] dA dB := by
  have hL9 := C.2.2.2.2.2.2.2.2.2.2.1
  obtain ⟨r, dA2, dB2, hA2, hB2, hR2⟩ := hsim (XI xs (i + 1)) dA dB XI_c hCA hCB hRel
  refine l_ld1 C (by decide +kernel) ?_
  refine l_ld0 C (by decide +kernel) ?_
  refine l_i3 C (by decide +kernel) ?_
  refine l_iconst C 1 (by decide +kernel) ?_
  refine l_iadd C (z := ((i + 1 : Nat) : Int)) (ad7 ⟨hi, hL9⟩ 1 (by decide)) (by decide +kernel) ?_
  refine l_iald C (i + 1) (by omega) (by decide +kernel) ?_
  refine l_callA C mw_PB_bench [(0, XI xs (i + 1))] (ok_PB_bench (XI xs (i + 1)) dA XI_c hA2) (tgC (by decide) tgN) (tgC (by decide) tgN) (ix := 198) lk_1328 lk_1329 lk_1330 ⟨rfl, rfl, Nat.le_of_ble_eq_true rfl, Nat.le_of_ble_eq_true rfl⟩ rfl (st := []) rfl (show 0 ≤ 8 by decide) ⟨Nat.le_trans (by omega) rm_c, Nat.le_trans (by omega) rm_s⟩ (by decide +kernel) (fun _ => ?_)
  refine l_ld2 C (by decide +kernel) ?_
  refine l_ld0 C (by decide +kernel) ?_
  refine l_i3 C (by decide +kernel) ?_
  refine l_iconst C 1 (by decide +kernel) ?_
  refine l_iadd C (z := ((i + 1 : Nat) : Int)) (ad7 ⟨hi, hL9⟩ 1 (by decide)) (by decide +kernel) ?_
  refine l_iald C (i + 1) (by omega) (by decide +kernel) ?_
  refine l_callB C mw_Mo_bench [(0, XI xs (i + 1))] (ok_Mo_bench (XI xs (i + 1)) dB XI_c hB2) (tgC (by decide) tgN) (tgC (by decide) tgN) (ix := 201) lk_2226 lk_2227 lk_2228 ⟨rfl, rfl, Nat.le_of_ble_eq_true rfl, Nat.le_of_ble_eq_true rfl⟩ rfl (st := [(0, r)]) rfl (show (1 + 0) ≤ 8 by decide) ⟨Nat.le_trans (by omega) rm_c, Nat.le_trans (by omega) rm_s⟩ (by decide +kernel) (fun _ => ?_)
  refine l_icmpeq C (off := 104) (tgt := 2222) (by decide +kernel) (by decide) ?_
  refine l_widen (k := cells + 7) (n := slots + 710) (by omega) (by omega) ?_
  exact kk dA2 dB2 hR2
set_option maxHeartbeats 8000000 in
set_option maxRecDepth 100000 in
theorem case_42 (C : LC p s m meth c b L xs D cA st0) {Rel : Dt → Dt → Prop} (hsim : Sim_miles Rel) (hi : i + 6 < L) (hc : cells + 7 ≤ 600000 ∧ slots + 710 ≤ 7302250) (hCA : CN 0 dA) (hCB : CN 1 dB) (hRel : Rel dA dB) (kk : ∀ dA' dB', Rel dA' dB' → GL p l e s m below meth c b D cA st0 (cells + 7) (slots + 710) 2222 i [] dA' dB') : GL p l e s m below meth c b D cA st0 cells slots 2123 i [] dA dB := by
  have hL9 := C.2.2.2.2.2.2.2.2.2.2.1
  obtain ⟨r, dA2, dB2, hA2, hB2, hR2⟩ := hsim (XI xs (i + 1)) (XI xs (i + 2)) (XI xs (i + 3)) dA dB XI_c XI_c XI_c hCA hCB hRel
  refine l_ld1 C (by decide +kernel) ?_
  refine l_ld0 C (by decide +kernel) ?_
  refine l_i3 C (by decide +kernel) ?_
  refine l_iconst C 1 (by decide +kernel) ?_
  refine l_iadd C (z := ((i + 1 : Nat) : Int)) (ad7 ⟨hi, hL9⟩ 1 (by decide)) (by decide +kernel) ?_
  refine l_iald C (i + 1) (by omega) (by decide +kernel) ?_
  refine l_ld0 C (by decide +kernel) ?_
  refine l_i3 C (by decide +kernel) ?_
  refine l_iconst C 2 (by decide +kernel) ?_
  refine l_iadd C (z := ((i + 2 : Nat) : Int)) (ad7 ⟨hi, hL9⟩ 2 (by decide)) (by decide +kernel) ?_
  refine l_iald C (i + 2) (by omega) (by decide +kernel) ?_
  refine l_ld0 C (by decide +kernel) ?_
  refine l_i3 C (by decide +kernel) ?_
  refine l_iconst C 3 (by decide +kernel) ?_
  refine l_iadd C (z := ((i + 3 : Nat) : Int)) (ad7 ⟨hi, hL9⟩ 3 (by decide)) (by decide +kernel) ?_
  refine l_iald C (i + 3) (by omega) (by decide +kernel) ?_
  refine l_callA C mw_PB_miles [(0, XI xs (i + 1)), (0, XI xs (i + 2)), (0, XI xs (i + 3))] (ok_PB_miles (XI xs (i + 1)) (XI xs (i + 2)) (XI xs (i + 3)) dA XI_c XI_c XI_c hA2) (tgC (by decide) (tgC (by decide) (tgC (by decide) tgN))) (tgC (by decide) tgN) (ix := 202) lk_1340 lk_1341 lk_1342 ⟨rfl, rfl, Nat.le_of_ble_eq_true rfl, Nat.le_of_ble_eq_true rfl⟩ rfl (st := []) rfl (show 0 ≤ 8 by decide) ⟨Nat.le_trans (by omega) rm_c, Nat.le_trans (by omega) rm_s⟩ (by decide +kernel) (fun _ => ?_)
  refine l_ld2 C (by decide +kernel) ?_
  refine l_ld0 C (by decide +kernel) ?_
  refine l_i3 C (by decide +kernel) ?_
  refine l_iconst C 1 (by decide +kernel) ?_
  refine l_iadd C (z := ((i + 1 : Nat) : Int)) (ad7 ⟨hi, hL9⟩ 1 (by decide)) (by decide +kernel) ?_
  refine l_iald C (i + 1) (by omega) (by decide +kernel) ?_
  refine l_ld0 C (by decide +kernel) ?_
  refine l_i3 C (by decide +kernel) ?_
  refine l_iconst C 2 (by decide +kernel) ?_
  refine l_iadd C (z := ((i + 2 : Nat) : Int)) (ad7 ⟨hi, hL9⟩ 2 (by decide)) (by decide +kernel) ?_
  refine l_iald C (i + 2) (by omega) (by decide +kernel) ?_
  refine l_ld0 C (by decide +kernel) ?_
  refine l_i3 C (by decide +kernel) ?_
  refine l_iconst C 3 (by decide +kernel) ?_
  refine l_iadd C (z := ((i + 3 : Nat) : Int)) (ad7 ⟨hi, hL9⟩ 3 (by decide)) (by decide +kernel) ?_
  refine l_iald C (i + 3) (by omega) (by decide +kernel) ?_
  refine l_callB C mw_Mo_miles [(0, XI xs (i + 1)), (0, XI xs (i + 2)), (0, XI xs (i + 3))] (ok_Mo_miles (XI xs (i + 1)) (XI xs (i + 2)) (XI xs (i + 3)) dB XI_c XI_c XI_c hB2) (tgC (by decide) (tgC (by decide) (tgC (by decide) tgN))) (tgC (by decide) tgN) (ix := 205) lk_2230 lk_2231 lk_2232 ⟨rfl, rfl, Nat.le_of_ble_eq_true rfl, Nat.le_of_ble_eq_true rfl⟩ rfl (st := [(0, r)]) rfl (show (1 + 0) ≤ 8 by decide) ⟨Nat.le_trans (by omega) rm_c, Nat.le_trans (by omega) rm_s⟩ (by decide +kernel) (fun _ => ?_)
  refine l_icmpeq C (off := 61) (tgt := 2222) (by decide +kernel) (by decide) ?_
  refine l_widen (k := cells + 7) (n := slots + 710) (by omega) (by omega) ?_
  exact kk dA2 dB2 hR2
set_option maxHeartbeats 8000000 in
set_option maxRecDepth 100000 in
theorem case_43 (C : LC p s m meth c b L xs D cA st0) {Rel : Dt → Dt → Prop} (hsim : Sim_coaches Rel) (hi : i + 6 < L) (hc : cells + 7 ≤ 600000 ∧ slots + 710 ≤ 7302250) (hCA : CN 0 dA) (hCB : CN 1 dB) (hRel : Rel dA dB) (kk : ∀ dA' dB', Rel dA' dB' → GL p l e s m below meth c b D cA st0 (cells + 7) (slots + 710) 2222 i [] dA' dB') : GL p l e s m below meth c b D cA st0 cells slots 2166 i [] dA dB := by
  have hL9 := C.2.2.2.2.2.2.2.2.2.2.1
  obtain ⟨r, dA2, dB2, hA2, hB2, hR2⟩ := hsim (XI xs (i + 1)) (XI xs (i + 2)) (XI xs (i + 3)) dA dB XI_c XI_c XI_c hCA hCB hRel
  refine l_ld1 C (by decide +kernel) ?_
  refine l_ld0 C (by decide +kernel) ?_
  refine l_i3 C (by decide +kernel) ?_
  refine l_iconst C 1 (by decide +kernel) ?_
  refine l_iadd C (z := ((i + 1 : Nat) : Int)) (ad7 ⟨hi, hL9⟩ 1 (by decide)) (by decide +kernel) ?_
  refine l_iald C (i + 1) (by omega) (by decide +kernel) ?_
  refine l_ld0 C (by decide +kernel) ?_
  refine l_i3 C (by decide +kernel) ?_
  refine l_iconst C 2 (by decide +kernel) ?_
  refine l_iadd C (z := ((i + 2 : Nat) : Int)) (ad7 ⟨hi, hL9⟩ 2 (by decide)) (by decide +kernel) ?_
  refine l_iald C (i + 2) (by omega) (by decide +kernel) ?_
  refine l_ld0 C (by decide +kernel) ?_
  refine l_i3 C (by decide +kernel) ?_
  refine l_iconst C 3 (by decide +kernel) ?_
  refine l_iadd C (z := ((i + 3 : Nat) : Int)) (ad7 ⟨hi, hL9⟩ 3 (by decide)) (by decide +kernel) ?_
  refine l_iald C (i + 3) (by omega) (by decide +kernel) ?_
  refine l_callA C mw_PB_coaches [(0, XI xs (i + 1)), (0, XI xs (i + 2)), (0, XI xs (i + 3))] (ok_PB_coaches (XI xs (i + 1)) (XI xs (i + 2)) (XI xs (i + 3)) dA XI_c XI_c XI_c hA2) (tgC (by decide) (tgC (by decide) (tgC (by decide) tgN))) (tgC (by decide) tgN) (ix := 206) lk_1348 lk_1349 lk_1350 ⟨rfl, rfl, Nat.le_of_ble_eq_true rfl, Nat.le_of_ble_eq_true rfl⟩ rfl (st := []) rfl (show 0 ≤ 8 by decide) ⟨Nat.le_trans (by omega) rm_c, Nat.le_trans (by omega) rm_s⟩ (by decide +kernel) (fun _ => ?_)
  refine l_ld2 C (by decide +kernel) ?_
  refine l_ld0 C (by decide +kernel) ?_
  refine l_i3 C (by decide +kernel) ?_
  refine l_iconst C 1 (by decide +kernel) ?_
  refine l_iadd C (z := ((i + 1 : Nat) : Int)) (ad7 ⟨hi, hL9⟩ 1 (by decide)) (by decide +kernel) ?_
  refine l_iald C (i + 1) (by omega) (by decide +kernel) ?_
  refine l_ld0 C (by decide +kernel) ?_
  refine l_i3 C (by decide +kernel) ?_
  refine l_iconst C 2 (by decide +kernel) ?_
  refine l_iadd C (z := ((i + 2 : Nat) : Int)) (ad7 ⟨hi, hL9⟩ 2 (by decide)) (by decide +kernel) ?_
  refine l_iald C (i + 2) (by omega) (by decide +kernel) ?_
  refine l_ld0 C (by decide +kernel) ?_
  refine l_i3 C (by decide +kernel) ?_
  refine l_iconst C 3 (by decide +kernel) ?_
  refine l_iadd C (z := ((i + 3 : Nat) : Int)) (ad7 ⟨hi, hL9⟩ 3 (by decide)) (by decide +kernel) ?_
  refine l_iald C (i + 3) (by omega) (by decide +kernel) ?_
  refine l_callB C mw_Mo_coaches [(0, XI xs (i + 1)), (0, XI xs (i + 2)), (0, XI xs (i + 3))] (ok_Mo_coaches (XI xs (i + 1)) (XI xs (i + 2)) (XI xs (i + 3)) dB XI_c XI_c XI_c hB2) (tgC (by decide) (tgC (by decide) (tgC (by decide) tgN))) (tgC (by decide) tgN) (ix := 209) lk_2234 lk_2235 lk_2236 ⟨rfl, rfl, Nat.le_of_ble_eq_true rfl, Nat.le_of_ble_eq_true rfl⟩ rfl (st := [(0, r)]) rfl (show (1 + 0) ≤ 8 by decide) ⟨Nat.le_trans (by omega) rm_c, Nat.le_trans (by omega) rm_s⟩ (by decide +kernel) (fun _ => ?_)
  refine l_icmpeq C (off := 18) (tgt := 2222) (by decide +kernel) (by decide) ?_
  refine l_widen (k := cells + 7) (n := slots + 710) (by omega) (by omega) ?_
  exact kk dA2 dB2 hR2
set_option maxHeartbeats 8000000 in
set_option maxRecDepth 100000 in
theorem case_44 (C : LC p s m meth c b L xs D cA st0) {Rel : Dt → Dt → Prop} (hsim : Sim_coachMany Rel) (hi : i + 6 < L) (hc : cells + 7 ≤ 600000 ∧ slots + 710 ≤ 7302250) (hCA : CN 0 dA) (hCB : CN 1 dB) (hRel : Rel dA dB) (kk : ∀ dA' dB', Rel dA' dB' → GL p l e s m below meth c b D cA st0 (cells + 7) (slots + 710) 2222 i [] dA' dB') : GL p l e s m below meth c b D cA st0 cells slots 2209 i [] dA dB := by
  have hL9 := C.2.2.2.2.2.2.2.2.2.2.1
  obtain ⟨r, dA2, dB2, hA2, hB2, hR2⟩ := hsim  dA dB  hCA hCB hRel
  refine l_ld1 C (by decide +kernel) ?_
  refine l_callA C mw_PB_coachMany [] (ok_PB_coachMany  dA  hA2) tgN (tgC (by decide) tgN) (ix := 210) lk_1388 lk_1389 lk_1390 ⟨rfl, rfl, Nat.le_of_ble_eq_true rfl, Nat.le_of_ble_eq_true rfl⟩ rfl (st := []) rfl (show 0 ≤ 8 by decide) ⟨Nat.le_trans (by omega) rm_c, Nat.le_trans (by omega) rm_s⟩ (by decide +kernel) (fun _ => ?_)
  refine l_ld2 C (by decide +kernel) ?_
  refine l_callB C mw_Mo_coachMany [] (ok_Mo_coachMany  dB  hB2) tgN (tgC (by decide) tgN) (ix := 213) lk_2247 lk_2248 lk_2249 ⟨rfl, rfl, Nat.le_of_ble_eq_true rfl, Nat.le_of_ble_eq_true rfl⟩ rfl (st := [(0, r)]) rfl (show (1 + 0) ≤ 8 by decide) ⟨Nat.le_trans (by omega) rm_c, Nat.le_trans (by omega) rm_s⟩ (by decide +kernel) (fun _ => ?_)
  refine l_icmpeq C (off := 5) (tgt := 2222) (by decide +kernel) (by decide) ?_
  refine l_widen (k := cells + 7) (n := slots + 710) (by omega) (by omega) ?_
  exact kk dA2 dB2 hR2
end CASES3
