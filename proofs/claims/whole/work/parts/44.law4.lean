section LOOP
variable {p : Program} {l : Launch} {e : Env} {s : State} {m : MethodId} {below : List Frame} {meth : Method} {c : Code} {b L : Nat} {xs : Nat → Int32} {D : va_G} {cA : Nat → ClassId} {st0 : Nat → Nat} {cells slots : Nat}
variable {pc i : Nat} {st : List AV} {dA dB : Dt}
def Sims (Rel : Dt → Dt → Prop) : Prop := Sim_status Rel ∧ Sim_tray Rel ∧ Sim_write Rel ∧ Sim_read Rel ∧ Sim_pour Rel ∧ Sim_far Rel ∧ Sim_person Rel ∧ Sim_hold Rel ∧ Sim_split Rel ∧ Sim_pay Rel ∧ Sim_asof Rel ∧ Sim_fact Rel ∧ Sim_feed Rel ∧ Sim_text Rel ∧ Sim_fault Rel ∧ Sim_rules Rel ∧ Sim_struck Rel ∧ Sim_right Rel ∧ Sim_why Rel ∧ Sim_voided Rel ∧ Sim_names Rel ∧ Sim_entry Rel ∧ Sim_join Rel ∧ Sim_mate Rel ∧ Sim_joined Rel ∧ Sim_tally Rel ∧ Sim_reach Rel ∧ Sim_who Rel ∧ Sim_sure Rel ∧ Sim_offer Rel ∧ Sim_standing Rel ∧ Sim_stands Rel ∧ Sim_poll Rel ∧ Sim_seated Rel ∧ Sim_ground Rel ∧ Sim_against Rel ∧ Sim_written Rel ∧ Sim_turns Rel ∧ Sim_member Rel ∧ Sim_kin Rel ∧ Sim_draw Rel ∧ Sim_bench Rel ∧ Sim_miles Rel ∧ Sim_coaches Rel ∧ Sim_coachMany Rel
theorem l_cn (k : CN 0 dA → CN 1 dB → GL p l e s m below meth c b D cA st0 cells slots pc i st dA dB) : GL p l e s m below meth c b D cA st0 cells slots pc i st dA dB := fun ad bd ha hb ls H locs hl hP hD hA hB hS => k hA hB ad bd ha hb ls H locs hl hP hD hA hB hS
theorem l_tableIn (C : LC p s m meth c b L xs D cA st0) {dflt lw hg off : Int} {offs : Array Int} {len : Nat} {x : Int} (v : Int) {tgt : Nat} (hx : c32 x) (hd : decode code pc = .ok (.tableswitch dflt lw hg offs, len)) (h : x = v) (hv : ¬ v < lw ∧ ¬ hg < v ∧ offs[(v - lw).toNat]? = some off) (ht : (pc : Int) + off = (tgt : Int)) (k : GL p l e s m below meth c b D cA st0 cells slots tgt i st dA dB) : GL p l e s m below meth c b D cA st0 cells slots pc i ((0, x) :: st) dA dB := by
  intro ad bd ha hb ls H locs hl hP hD hA hB hS
  subst h
  exact lv_tableIn C.1 C.2.1 hd (by rw [i_t hx]; exact hv.1) (by rw [i_t hx]; exact hv.2.1) (by rw [i_t hx]; exact hv.2.2) ht (k ad bd ha hb ls H locs hl hP hD hA hB hS)
theorem l_tableOut (C : LC p s m meth c b L xs D cA st0) {dflt lw hg : Int} {offs : Array Int} {len : Nat} {x : Int} {tgt : Nat} (hx : c32 x) (hd : decode code pc = .ok (.tableswitch dflt lw hg offs, len)) (h : x < lw ∨ hg < x) (ht : (pc : Int) + dflt = (tgt : Int)) (k : GL p l e s m below meth c b D cA st0 cells slots tgt i st dA dB) : GL p l e s m below meth c b D cA st0 cells slots pc i ((0, x) :: st) dA dB :=
  fun ad bd ha hb ls H locs hl hP hD hA hB hS => lv_tableOut C.1 C.2.1 hd (by rw [i_t hx]; exact h) ht (k ad bd ha hb ls H locs hl hP hD hA hB hS)
theorem d_sw : decode code 33 = .ok (.tableswitch 2189 0 44 #[195, 208, 251, 324, 358, 421, 514, 587, 662, 705, 784, 807, 860, 923, 966, 989, 1022, 1065, 1118, 1171, 1224, 1257, 1352, 1375, 1408, 1431, 1464, 1487, 1510, 1543, 1586, 1629, 1672, 1741, 1810, 1859, 1892, 1925, 1958, 1991, 2024, 2067, 2090, 2133, 2176], 195) := by decide +kernel
set_option maxHeartbeats 8000000 in
set_option maxRecDepth 100000 in
theorem law_loop (C : LC p s m meth c b L xs D cA st0) {Rel : Dt → Dt → Prop} (hs : Sims Rel) : ∀ (n k : Nat) (dA dB : Dt), L < 7 * k + 7 * n → 7 * k ≤ L → Rel dA dB → GL p l e s m below meth c b D cA st0 (167 + 7 * k) (33516 + 710 * k) 18 (7 * k) [] dA dB := by
  intro n
  have hL9 := C.2.2.2.2.2.2.2.2.2.2.1
  induction n with
  | zero => intro k dA dB h1 h2; omega
  | succ n ih =>
    intro k dA dB h1 h2 hRel
    refine l_i3 C (by decide +kernel) ?_
    refine l_ld0 C (by decide +kernel) ?_
    refine l_alen C (by decide +kernel) ?_
    refine l_bipush C 7 (by decide) (by decide +kernel) ?_
    refine l_isub C (z := (L : Int) - 7) (w32_id (by unfold c32; omega)) (by decide +kernel) ?_
    refine l_icmpgt C (off := 2204) (tgt := 2228) (by unfold c32; omega) (by unfold c32; omega) (by decide +kernel) (by decide) (fun hc => ?_) (fun hc => ?_)
    · refine l_iconst C 1 (by decide +kernel) ?_
      exact l_end C (by omega) (by omega) (by decide +kernel)
    · have hi : 7 * k + 6 < L := by omega
      refine l_ld0 C (by decide +kernel) ?_
      refine l_i3 C (by decide +kernel) ?_
      refine l_iald C (7 * k) (by omega) (by decide +kernel) ?_
      refine l_bipush C 63 (by decide) (by decide +kernel) ?_
      refine l_iand C (by decide +kernel) ?_
      have hback : ∀ dA' dB', Rel dA' dB' → GL p l e s m below meth c b D cA st0 (167 + 7 * k + 7) (33516 + 710 * k + 710) 2222 (7 * k) [] dA' dB' := by
        intro dA' dB' hR'
        refine l_iinc C (by omega) (by decide +kernel) ?_
        refine l_goto C 18 (off := -2207) (by decide +kernel) (by decide) ?_
        exact ih (k + 1) dA' dB' (by omega) (by omega) hR'
      have hcs : 167 + 7 * k + 7 ≤ 600000 ∧ 33516 + 710 * k + 710 ≤ 7302250 := by omega
      have hx : c32 (iand (XI xs (7 * k)) 63) := i_c _
      refine l_cn (fun hCA hCB => ?_)
      by_cases h0 : iand (XI xs (7 * k)) 63 = 0
      · exact l_tableIn C (off := 195) 0 (tgt := 228) hx d_sw h0 (by decide) (by decide) (case_0 C hs.1 hi hcs hCA hCB hRel hback)
      by_cases h1 : iand (XI xs (7 * k)) 63 = 1
      · exact l_tableIn C (off := 208) 1 (tgt := 241) hx d_sw h1 (by decide) (by decide) (case_1 C hs.2.1 hi hcs hCA hCB hRel hback)
      by_cases h2 : iand (XI xs (7 * k)) 63 = 2
      · exact l_tableIn C (off := 251) 2 (tgt := 284) hx d_sw h2 (by decide) (by decide) (case_2 C hs.2.2.1 hi hcs hCA hCB hRel hback)
      by_cases h3 : iand (XI xs (7 * k)) 63 = 3
      · exact l_tableIn C (off := 324) 3 (tgt := 357) hx d_sw h3 (by decide) (by decide) (case_3 C hs.2.2.2.1 hi hcs hCA hCB hRel hback)
      by_cases h4 : iand (XI xs (7 * k)) 63 = 4
      · exact l_tableIn C (off := 358) 4 (tgt := 391) hx d_sw h4 (by decide) (by decide) (case_4 C hs.2.2.2.2.1 hi hcs hCA hCB hRel hback)
      by_cases h5 : iand (XI xs (7 * k)) 63 = 5
      · exact l_tableIn C (off := 421) 5 (tgt := 454) hx d_sw h5 (by decide) (by decide) (case_5 C hs.2.2.2.2.2.1 hi hcs hCA hCB hRel hback)
      by_cases h6 : iand (XI xs (7 * k)) 63 = 6
      · exact l_tableIn C (off := 514) 6 (tgt := 547) hx d_sw h6 (by decide) (by decide) (case_6 C hs.2.2.2.2.2.2.1 hi hcs hCA hCB hRel hback)
      by_cases h7 : iand (XI xs (7 * k)) 63 = 7
      · exact l_tableIn C (off := 587) 7 (tgt := 620) hx d_sw h7 (by decide) (by decide) (case_7 C hs.2.2.2.2.2.2.2.1 hi hcs hCA hCB hRel hback)
      by_cases h8 : iand (XI xs (7 * k)) 63 = 8
      · exact l_tableIn C (off := 662) 8 (tgt := 695) hx d_sw h8 (by decide) (by decide) (case_8 C hs.2.2.2.2.2.2.2.2.1 hi hcs hCA hCB hRel hback)
      by_cases h9 : iand (XI xs (7 * k)) 63 = 9
      · exact l_tableIn C (off := 705) 9 (tgt := 738) hx d_sw h9 (by decide) (by decide) (case_9 C hs.2.2.2.2.2.2.2.2.2.1 hi hcs hCA hCB hRel hback)
      by_cases h10 : iand (XI xs (7 * k)) 63 = 10
      · exact l_tableIn C (off := 784) 10 (tgt := 817) hx d_sw h10 (by decide) (by decide) (case_10 C hs.2.2.2.2.2.2.2.2.2.2.1 hi hcs hCA hCB hRel hback)
      by_cases h11 : iand (XI xs (7 * k)) 63 = 11
      · exact l_tableIn C (off := 807) 11 (tgt := 840) hx d_sw h11 (by decide) (by decide) (case_11 C hs.2.2.2.2.2.2.2.2.2.2.2.1 hi hcs hCA hCB hRel hback)
      by_cases h12 : iand (XI xs (7 * k)) 63 = 12
      · exact l_tableIn C (off := 860) 12 (tgt := 893) hx d_sw h12 (by decide) (by decide) (case_12 C hs.2.2.2.2.2.2.2.2.2.2.2.2.1 hi hcs hCA hCB hRel hback)
      by_cases h13 : iand (XI xs (7 * k)) 63 = 13
      · exact l_tableIn C (off := 923) 13 (tgt := 956) hx d_sw h13 (by decide) (by decide) (case_13 C hs.2.2.2.2.2.2.2.2.2.2.2.2.2.1 hi hcs hCA hCB hRel hback)
      by_cases h14 : iand (XI xs (7 * k)) 63 = 14
      · exact l_tableIn C (off := 966) 14 (tgt := 999) hx d_sw h14 (by decide) (by decide) (case_14 C hs.2.2.2.2.2.2.2.2.2.2.2.2.2.2.1 hi hcs hCA hCB hRel hback)
      by_cases h15 : iand (XI xs (7 * k)) 63 = 15
      · exact l_tableIn C (off := 989) 15 (tgt := 1022) hx d_sw h15 (by decide) (by decide) (case_15 C hs.2.2.2.2.2.2.2.2.2.2.2.2.2.2.2.1 hi hcs hCA hCB hRel hback)
      by_cases h16 : iand (XI xs (7 * k)) 63 = 16
      · exact l_tableIn C (off := 1022) 16 (tgt := 1055) hx d_sw h16 (by decide) (by decide) (case_16 C hs.2.2.2.2.2.2.2.2.2.2.2.2.2.2.2.2.1 hi hcs hCA hCB hRel hback)
      by_cases h17 : iand (XI xs (7 * k)) 63 = 17
      · exact l_tableIn C (off := 1065) 17 (tgt := 1098) hx d_sw h17 (by decide) (by decide) (case_17 C hs.2.2.2.2.2.2.2.2.2.2.2.2.2.2.2.2.2.1 hi hcs hCA hCB hRel hback)
      by_cases h18 : iand (XI xs (7 * k)) 63 = 18
      · exact l_tableIn C (off := 1118) 18 (tgt := 1151) hx d_sw h18 (by decide) (by decide) (case_18 C hs.2.2.2.2.2.2.2.2.2.2.2.2.2.2.2.2.2.2.1 hi hcs hCA hCB hRel hback)
      by_cases h19 : iand (XI xs (7 * k)) 63 = 19
      · exact l_tableIn C (off := 1171) 19 (tgt := 1204) hx d_sw h19 (by decide) (by decide) (case_19 C hs.2.2.2.2.2.2.2.2.2.2.2.2.2.2.2.2.2.2.2.1 hi hcs hCA hCB hRel hback)
      by_cases h20 : iand (XI xs (7 * k)) 63 = 20
      · exact l_tableIn C (off := 1224) 20 (tgt := 1257) hx d_sw h20 (by decide) (by decide) (case_20 C hs.2.2.2.2.2.2.2.2.2.2.2.2.2.2.2.2.2.2.2.2.1 hi hcs hCA hCB hRel hback)
      by_cases h21 : iand (XI xs (7 * k)) 63 = 21
      · exact l_tableIn C (off := 1257) 21 (tgt := 1290) hx d_sw h21 (by decide) (by decide) (case_21 C hs.2.2.2.2.2.2.2.2.2.2.2.2.2.2.2.2.2.2.2.2.2.1 hi hcs hCA hCB hRel hback)
      by_cases h22 : iand (XI xs (7 * k)) 63 = 22
      · exact l_tableIn C (off := 1352) 22 (tgt := 1385) hx d_sw h22 (by decide) (by decide) (case_22 C hs.2.2.2.2.2.2.2.2.2.2.2.2.2.2.2.2.2.2.2.2.2.2.1 hi hcs hCA hCB hRel hback)
      by_cases h23 : iand (XI xs (7 * k)) 63 = 23
      · exact l_tableIn C (off := 1375) 23 (tgt := 1408) hx d_sw h23 (by decide) (by decide) (case_23 C hs.2.2.2.2.2.2.2.2.2.2.2.2.2.2.2.2.2.2.2.2.2.2.2.1 hi hcs hCA hCB hRel hback)
      by_cases h24 : iand (XI xs (7 * k)) 63 = 24
      · exact l_tableIn C (off := 1408) 24 (tgt := 1441) hx d_sw h24 (by decide) (by decide) (case_24 C hs.2.2.2.2.2.2.2.2.2.2.2.2.2.2.2.2.2.2.2.2.2.2.2.2.1 hi hcs hCA hCB hRel hback)
      by_cases h25 : iand (XI xs (7 * k)) 63 = 25
      · exact l_tableIn C (off := 1431) 25 (tgt := 1464) hx d_sw h25 (by decide) (by decide) (case_25 C hs.2.2.2.2.2.2.2.2.2.2.2.2.2.2.2.2.2.2.2.2.2.2.2.2.2.1 hi hcs hCA hCB hRel hback)
      by_cases h26 : iand (XI xs (7 * k)) 63 = 26
      · exact l_tableIn C (off := 1464) 26 (tgt := 1497) hx d_sw h26 (by decide) (by decide) (case_26 C hs.2.2.2.2.2.2.2.2.2.2.2.2.2.2.2.2.2.2.2.2.2.2.2.2.2.2.1 hi hcs hCA hCB hRel hback)
      by_cases h27 : iand (XI xs (7 * k)) 63 = 27
      · exact l_tableIn C (off := 1487) 27 (tgt := 1520) hx d_sw h27 (by decide) (by decide) (case_27 C hs.2.2.2.2.2.2.2.2.2.2.2.2.2.2.2.2.2.2.2.2.2.2.2.2.2.2.2.1 hi hcs hCA hCB hRel hback)
      by_cases h28 : iand (XI xs (7 * k)) 63 = 28
      · exact l_tableIn C (off := 1510) 28 (tgt := 1543) hx d_sw h28 (by decide) (by decide) (case_28 C hs.2.2.2.2.2.2.2.2.2.2.2.2.2.2.2.2.2.2.2.2.2.2.2.2.2.2.2.2.1 hi hcs hCA hCB hRel hback)
      by_cases h29 : iand (XI xs (7 * k)) 63 = 29
      · exact l_tableIn C (off := 1543) 29 (tgt := 1576) hx d_sw h29 (by decide) (by decide) (case_29 C hs.2.2.2.2.2.2.2.2.2.2.2.2.2.2.2.2.2.2.2.2.2.2.2.2.2.2.2.2.2.1 hi hcs hCA hCB hRel hback)
      by_cases h30 : iand (XI xs (7 * k)) 63 = 30
      · exact l_tableIn C (off := 1586) 30 (tgt := 1619) hx d_sw h30 (by decide) (by decide) (case_30 C hs.2.2.2.2.2.2.2.2.2.2.2.2.2.2.2.2.2.2.2.2.2.2.2.2.2.2.2.2.2.2.1 hi hcs hCA hCB hRel hback)
      by_cases h31 : iand (XI xs (7 * k)) 63 = 31
      · exact l_tableIn C (off := 1629) 31 (tgt := 1662) hx d_sw h31 (by decide) (by decide) (case_31 C hs.2.2.2.2.2.2.2.2.2.2.2.2.2.2.2.2.2.2.2.2.2.2.2.2.2.2.2.2.2.2.2.1 hi hcs hCA hCB hRel hback)
      by_cases h32 : iand (XI xs (7 * k)) 63 = 32
      · exact l_tableIn C (off := 1672) 32 (tgt := 1705) hx d_sw h32 (by decide) (by decide) (case_32 C hs.2.2.2.2.2.2.2.2.2.2.2.2.2.2.2.2.2.2.2.2.2.2.2.2.2.2.2.2.2.2.2.2.1 hi hcs hCA hCB hRel hback)
      by_cases h33 : iand (XI xs (7 * k)) 63 = 33
      · exact l_tableIn C (off := 1741) 33 (tgt := 1774) hx d_sw h33 (by decide) (by decide) (case_33 C hs.2.2.2.2.2.2.2.2.2.2.2.2.2.2.2.2.2.2.2.2.2.2.2.2.2.2.2.2.2.2.2.2.2.1 hi hcs hCA hCB hRel hback)
      by_cases h34 : iand (XI xs (7 * k)) 63 = 34
      · exact l_tableIn C (off := 1810) 34 (tgt := 1843) hx d_sw h34 (by decide) (by decide) (case_34 C hs.2.2.2.2.2.2.2.2.2.2.2.2.2.2.2.2.2.2.2.2.2.2.2.2.2.2.2.2.2.2.2.2.2.2.1 hi hcs hCA hCB hRel hback)
      by_cases h35 : iand (XI xs (7 * k)) 63 = 35
      · exact l_tableIn C (off := 1859) 35 (tgt := 1892) hx d_sw h35 (by decide) (by decide) (case_35 C hs.2.2.2.2.2.2.2.2.2.2.2.2.2.2.2.2.2.2.2.2.2.2.2.2.2.2.2.2.2.2.2.2.2.2.2.1 hi hcs hCA hCB hRel hback)
      by_cases h36 : iand (XI xs (7 * k)) 63 = 36
      · exact l_tableIn C (off := 1892) 36 (tgt := 1925) hx d_sw h36 (by decide) (by decide) (case_36 C hs.2.2.2.2.2.2.2.2.2.2.2.2.2.2.2.2.2.2.2.2.2.2.2.2.2.2.2.2.2.2.2.2.2.2.2.2.1 hi hcs hCA hCB hRel hback)
      by_cases h37 : iand (XI xs (7 * k)) 63 = 37
      · exact l_tableIn C (off := 1925) 37 (tgt := 1958) hx d_sw h37 (by decide) (by decide) (case_37 C hs.2.2.2.2.2.2.2.2.2.2.2.2.2.2.2.2.2.2.2.2.2.2.2.2.2.2.2.2.2.2.2.2.2.2.2.2.2.1 hi hcs hCA hCB hRel hback)
      by_cases h38 : iand (XI xs (7 * k)) 63 = 38
      · exact l_tableIn C (off := 1958) 38 (tgt := 1991) hx d_sw h38 (by decide) (by decide) (case_38 C hs.2.2.2.2.2.2.2.2.2.2.2.2.2.2.2.2.2.2.2.2.2.2.2.2.2.2.2.2.2.2.2.2.2.2.2.2.2.2.1 hi hcs hCA hCB hRel hback)
      by_cases h39 : iand (XI xs (7 * k)) 63 = 39
      · exact l_tableIn C (off := 1991) 39 (tgt := 2024) hx d_sw h39 (by decide) (by decide) (case_39 C hs.2.2.2.2.2.2.2.2.2.2.2.2.2.2.2.2.2.2.2.2.2.2.2.2.2.2.2.2.2.2.2.2.2.2.2.2.2.2.2.1 hi hcs hCA hCB hRel hback)
      by_cases h40 : iand (XI xs (7 * k)) 63 = 40
      · exact l_tableIn C (off := 2024) 40 (tgt := 2057) hx d_sw h40 (by decide) (by decide) (case_40 C hs.2.2.2.2.2.2.2.2.2.2.2.2.2.2.2.2.2.2.2.2.2.2.2.2.2.2.2.2.2.2.2.2.2.2.2.2.2.2.2.2.1 hi hcs hCA hCB hRel hback)
      by_cases h41 : iand (XI xs (7 * k)) 63 = 41
      · exact l_tableIn C (off := 2067) 41 (tgt := 2100) hx d_sw h41 (by decide) (by decide) (case_41 C hs.2.2.2.2.2.2.2.2.2.2.2.2.2.2.2.2.2.2.2.2.2.2.2.2.2.2.2.2.2.2.2.2.2.2.2.2.2.2.2.2.2.1 hi hcs hCA hCB hRel hback)
      by_cases h42 : iand (XI xs (7 * k)) 63 = 42
      · exact l_tableIn C (off := 2090) 42 (tgt := 2123) hx d_sw h42 (by decide) (by decide) (case_42 C hs.2.2.2.2.2.2.2.2.2.2.2.2.2.2.2.2.2.2.2.2.2.2.2.2.2.2.2.2.2.2.2.2.2.2.2.2.2.2.2.2.2.2.1 hi hcs hCA hCB hRel hback)
      by_cases h43 : iand (XI xs (7 * k)) 63 = 43
      · exact l_tableIn C (off := 2133) 43 (tgt := 2166) hx d_sw h43 (by decide) (by decide) (case_43 C hs.2.2.2.2.2.2.2.2.2.2.2.2.2.2.2.2.2.2.2.2.2.2.2.2.2.2.2.2.2.2.2.2.2.2.2.2.2.2.2.2.2.2.2.1 hi hcs hCA hCB hRel hback)
      by_cases h44 : iand (XI xs (7 * k)) 63 = 44
      · exact l_tableIn C (off := 2176) 44 (tgt := 2209) hx d_sw h44 (by decide) (by decide) (case_44 C hs.2.2.2.2.2.2.2.2.2.2.2.2.2.2.2.2.2.2.2.2.2.2.2.2.2.2.2.2.2.2.2.2.2.2.2.2.2.2.2.2.2.2.2.2 hi hcs hCA hCB hRel hback)
      refine l_tableOut C (tgt := 2222) hx d_sw ?_ (by decide) (l_widen (by omega) (by omega) (hback dA dB hRel))
      omega
end LOOP
/-! the beginning: two new objects -/
section BEGIN_
variable {p : Program} {l : Launch} {e : Env} {s : State} {m : MethodId} {below : List Frame} {meth : Method} {c : Code} {b L : Nat} {xs : Nat → Int32} {D : va_G} {cA : Nat → ClassId} {st0 : Nat → Nat} {cells slots : Nat} {pc : Nat}
theorem fq_blank {ad1 ad2 : Nat → Nat} {wd k ci n : Nat} (hcd : cd wd k = (ci, n)) (hci : ci < 20) (j : Nat) : fq ad1 ci (dzv wd k) j = fq ad2 ci (dzv wd k) j := by
  unfold fq
  split <;> first | rfl | skip
  rename_i n0 n1 n2
  have h4 : dzv wd k j = -1 := by
    have m0 : ft ci j ≠ 0 := n0
    have m1 : ft ci j ≠ 1 := n1
    have m2 : ft ci j ≠ 2 := n2
    unfold dzv isRf
    rw [hcd]
    simp only [hci, if_true]
    rw [if_pos (decide_eq_true (by omega))]
  rw [h4]; rfl
theorem l_make (C : LC p s m meth c b L xs D cA st0) {ci N wd k0 ix1 ix2 n0 mL : Nat} {Cn : String} {T : u_T} {ty : Nat → FieldType} (K : ClsOk ci Cn T N ty) {y : MethodName} {cy : ByteArray} {rm : Room} (Wm : MW y cy mL none 0) {F : Nat → Bool} {ks : List Nat} {mc ms : Nat} {d d' : Dt} (hcd : cd wd k0 = (ci, n0)) (hci : ci < 20 ∧ nf ci = N) (hz : ∀ j, d k0 j = dzv wd k0 j) (hM : KC l y cy mL rm wd F [] k0 ks mc ms [] d d') (hF0 : F k0 = false) (hdef : ∀ j, j < N → defaultValue (ty j) = fq id ci (dzv wd k0) j) (w1 : Cond.classLink R_law ix1 Cn ∈ lw_ok) (w2 : Cond.instantiable Cn N ∈ lw_ok) (w3 : Cond.initialized Cn ∈ lw_ok) (w4 : Cond.methodLink R_law ix2 y ∈ lw_ok) (w5 : Cond.instanceMethod y ∈ lw_ok) (hy1 : y.name = "<init>") (hR : rm.cells = mc ∧ rm.slots = ms ∧ rm.frames + 1 ≤ room_1.frames ∧ 8 + (mL + 11) + rm.locals ≤ room_1.locals) (hcs : cells + 1 + mc ≤ room_1.cells ∧ slots + N + ms ≤ room_1.slots)
    (hd1 : decode code pc = .ok (.new ix1, 3)) (hd2 : decode code (pc + 3) = .ok (.dup, 1)) (hd3 : decode code (pc + 3 + 1) = .ok (.invokespecial ix2, 3)) {ws : va_W} {ls : Array Slot} {H : Heap} {locs : List Loc} (hsz : ls.size = 4) (hP : va_P D classes ws H) (hD : va_D (AL s) ws) (hS : va_S (AL s) s.heap H locs)
    (kk : ∀ (ad : Nat → Nat) (H1 : Heap) (locs1 : List Loc), (∀ k, F k = false → k ≠ k0 → ad k = st0 k) → va_P D classes (ws ++ wq wd ks cA ad d') H1 → va_D (AL s) (ws ++ wq wd ks cA ad d') → ks.Nodup → va_S (AL s) s.heap H1 locs1 → W p l e room_1 s m #[Value.ref b] below meth c H1 locs1 (cells + 1 + mc) (slots + N + ms) (lw_Z below #[Value.ref b] s) (F0 m (pc + 3 + 1 + 3) ls [.ref (ad k0)])) : W p l e room_1 s m #[Value.ref b] below meth c H locs cells slots (lw_Z below #[Value.ref b] s) (F0 m pc ls []) := by
  obtain ⟨c1, c2, c3, c4, c5, c6, c7, c8, c9, c10, c11, c12, c13⟩ := C
  have hts := c5.at (args := #[Value.ref b])
  refine va_new (ci := ci) (C := Cn) (T := T) (N := N) (fs := (List.range (nf ci)).map (fq id ci (dzv wd k0))) c1 c2 hts K.1 ty K.2.1 c4 (hts _ w1) (hts _ w2) (hts _ w3) c6 hP hD hS (fun q h => h) K.2.2.2 (fun j hj => ?_) (Nat.le_trans (Nat.le_add_right _ _) hcs.1) (Nat.le_trans (Nat.le_add_right _ _) hcs.2) hd1 (fun q H1 hP1 hD1 hS1 => ?_)
  · rw [hdef j hj]
    unfold vp_V
    rw [List.getD_eq_getElem?_getD, fq_at hj hci.2]; rfl
  refine lv_dup c1 c2 hd2 rfl ?_
  have hd0 : d k0 = dzv wd k0 := funext hz
  have e1 : wq wd [k0] cA (fun k => if k = k0 then q else st0 k) d = [(q, .inr (ci, (List.range (nf ci)).map (fq id ci (dzv wd k0))))] := by
    show [((if k0 = k0 then q else st0 k0), entQ cA _ wd k0 (d k0))] = _
    have e9 : (List.range (nf ci)).map (fq (fun k => if k = k0 then q else st0 k) ci (dzv wd k0)) = (List.range (nf ci)).map (fq id ci (dzv wd k0)) := List.map_congr_left (fun j _ => fq_blank hcd hci.1 j)
    rw [if_pos rfl, entQ_obj hcd hci.1, hd0, e9]
  have hPq : va_P D classes (ws ++ wq wd [k0] cA (fun k => if k = k0 then q else st0 k) d) H1 := by rw [e1]; exact hP1
  have hDq : va_D (AL s) (ws ++ wq wd [k0] cA (fun k => if k = k0 then q else st0 k) d) := by rw [e1]; exact hD1
  have hown := right_D hDq
  have hF := fr_L hown hS1
  have hrun := va_runI (p := p) (l := l) (e := e) (R := room_1) (s := s) (m := m) (args := #[Value.ref b]) (below := below) (meth := meth) (c := c) (H := H1) (locs := locs) (cells := cells + 1) (slots := slots + N) (Ts := lw_ok) (b := q) (As := []) (rest := [.ref q]) (g := F0 m (pc + 3 + 1) ls [.ref q, .ref q]) (bytes := cy) (maxL := mL) (n := 0) ⟨c1, c2, c3, c4, hts⟩ (hM D cA (fun k => if k = k0 then q else st0 k) H1.size) ⟨callB_of 0 hts (goodIn_1 Wm.1 rfl) rfl hR.1 hR.2.1 (hts _ Wm.2.1) (hts _ w4) Wm.2.2 hR.2.2, hy1, hts _ w5⟩ ⟨blindK, fun U hU hW => ⟨by
      show #[Value.ref q] = (List.map (cv (fun k => if k = k0 then q else st0 k)) [(2, (k0 : Int))]).toArray
      rw [List.map_cons, cv_r, if_pos rfl]; rfl, by rw [hU], by rw [hU]; exact right_P hPq, hown.self, va_K.moved hW.alike c6, c5.warm hW, va_AO.moved hW.alike c7⟩⟩ rfl rfl hsz rfl (show 2 * 0 + (1 + 0) ≤ 8 by decide) hd3 hcs
  intro T9 hT X
  obtain ⟨v, st₀, t, T', Lo, h0, X', hL, e2, e3, ⟨hv, ⟨ad1, ha1, hP2, hD2, hRI2, hn2⟩, hz2, hk2⟩, hgo⟩ := hrun T9 hT X
  cases v with
  | some v => cases hv
  | none =>
  rw [h0] at hz2 hk2
  obtain ⟨hP3, hD3⟩ := jn2 hPq hDq hk2 hF hP2 hD2
  have hS3 : va_S (AL s) s.heap t.heap (locs ++ Lo) := ⟨Nat.le_trans hS1.1 hz2, fun q h1 h2 => by rw [hk2 q (Nat.lt_of_lt_of_le h1 hS1.1) (fun z => h2 (hF q z))]; exact hS1.2.1 q h1 h2, fun q hq => by
      rcases List.mem_append.mp hq with h | h
      · exact hS1.2.2 q h
      · exact hF _ (hL q h)⟩
  have hq0 : ad1 k0 = q := (ha1 k0 hF0).trans (if_pos rfl)
  obtain ⟨t2, a1, b1⟩ := kk ad1 t.heap (locs ++ Lo) (fun k hk hk0 => (ha1 k hk).trans (if_neg hk0)) hP3 hD3 hn2 hS3 T' e2 X'
  rw [hq0] at a1
  exact ⟨t2, hgo t2 a1, b1⟩
end BEGIN_
