/-! PollBooksModel.<init> -/
def y_Mo_init : MethodName := ⟨"PollBooksModel", "<init>", "()V"⟩
def rm_Mo_init : Room := { frames := 1, cells := 80, slots := 24393, locals := 20 }
theorem mw_Mo_init : MW y_Mo_init prog_14_method_1_code 1 none 0 := ⟨lk_1400, lk_14, by decide +kernel⟩
def F_Mo_init (k : Nat) : Bool := decide (0 < k ∧ k < 81)
def mk_Mo_init (d : Dt) : Dt := (up2 (up2 (up2 (up2 (up2 (up2 (up2 (up2 (up2 (up2 (up2 (up2 (up2 (up2 (up2 (up2 (up2 (up2 (up2 (up2 (up2 (up2 (up2 (up2 (up2 (up2 (up2 (up2 (up2 (up2 (up2 (up2 (up2 (up2 (up2 (up2 (up2 (up2 (up2 (up2 (up2 (up2 (up2 (up2 (up2 (up2 (up2 (up2 (up2 (up2 (up2 (up2 (up2 (up2 (up2 (up2 (up2 (up2 (up2 (up2 (up2 (up2 (up2 (up2 (up2 (up2 (up2 (up2 (up2 (up2 (up2 (up2 (up2 (up2 (up2 (up2 (up2 (up2 (up2 (up2 (up2 (up2 (up2 (up2 (up2 (up2 (up2 (up2 (up2 (up2 (up2 (up2 (up2 (up2 (up2 (up2 (up2 (up2 (up2 (up2 (up2 (up2 (up2 (up2 (up2 (up2 (up2 (up2 (up2 (up2 (up2 (up2 (up2 (up2 (up2 (up2 (up2 (up2 (up2 (up2 (up2 (up2 (up2 (up2 (up2 (up2 (up2 (up2 (up2 (up2 (up2 (up2 (up2 (up2 (up2 (up2 (up2 (up2 d 0 1 1) 2 0 (-1)) 2 1 (-1)) 2 2 (-1)) 2 3 (-1)) 0 2 2) 0 3 3) 0 4 4) 0 5 5) 0 6 6) 0 12 9999) 0 13 7) 0 14 8) 0 15 9) 0 16 10) 0 17 11) 0 18 12) 0 19 13) 0 20 14) 0 21 15) 0 22 16) 0 23 17) 0 24 18) 0 25 19) 0 26 20) 0 27 21) 0 28 22) 0 29 23) 0 30 24) 0 31 25) 0 38 (-1)) 0 39 (-1)) 0 44 26) 0 45 27) 0 46 28) 0 47 29) 0 48 30) 0 49 31) 0 50 32) 0 51 33) 0 52 34) 0 53 35) 0 54 36) 0 55 37) 0 56 38) 0 57 39) 0 58 40) 0 59 41) 0 60 42) 0 61 43) 0 62 44) 0 63 45) 0 64 46) 0 65 47) 0 66 48) 0 67 49) 0 69 50) 0 70 51) 0 72 52) 0 73 53) 0 74 54) 0 75 55) 0 76 56) 0 77 57) 0 78 58) 0 79 6) 0 81 59) 0 82 60) 0 83 61) 0 84 62) 0 85 63) 0 86 64) 0 88 65) 0 89 66) 0 90 67) 0 91 68) 0 93 69) 0 94 70) 0 95 71) 0 96 72) 0 97 73) 0 98 74) 75 0 10) 75 1 10) 75 2 10) 75 3 10) 75 4 10) 75 5 10) 75 6 10) 75 7 10) 75 8 10) 75 9 10) 75 10 10) 75 11 10) 75 12 10) 75 13 10) 75 14 10) 75 15 10) 75 16 10) 75 17 10) 75 18 10) 75 19 10) 75 20 10) 75 21 10) 75 22 10) 75 23 10) 75 24 10) 75 25 10) 75 26 10) 75 27 10) 75 28 10) 75 29 10) 75 30 10) 75 31 10) 75 32 10) 75 33 10) 75 34 10) 75 35 10) 75 36 10) 75 37 10) 75 38 10) 75 39 10) 75 40 10) 75 41 10) 75 42 10) 75 43 10) 75 44 10) 75 45 10) 75 46 10) 75 47 10) 75 48 10) 0 102 75) 0 103 76) 0 104 77) 0 105 78) 0 106 79) 0 107 80) 0 108 (-1))
theorem mk_Mo_init_out (d : Dt) (k : Nat) (hk : k < 0 ∨ 81 ≤ k) : mk_Mo_init d k = d k := by
  unfold mk_Mo_init
  rw [up2_K _ _ _ (by omega)]
  rw [up2_K _ _ _ (by omega)]
  rw [up2_K _ _ _ (by omega)]
  rw [up2_K _ _ _ (by omega)]
  rw [up2_K _ _ _ (by omega)]
  rw [up2_K _ _ _ (by omega)]
  rw [up2_K _ _ _ (by omega)]
  rw [up2_K _ _ _ (by omega)]
  rw [up2_K _ _ _ (by omega)]
  rw [up2_K _ _ _ (by omega)]
  rw [up2_K _ _ _ (by omega)]
  rw [up2_K _ _ _ (by omega)]
  rw [up2_K _ _ _ (by omega)]
  rw [up2_K _ _ _ (by omega)]
  rw [up2_K _ _ _ (by omega)]
  rw [up2_K _ _ _ (by omega)]
  rw [up2_K _ _ _ (by omega)]
  rw [up2_K _ _ _ (by omega)]
  rw [up2_K _ _ _ (by omega)]
  rw [up2_K _ _ _ (by omega)]
  rw [up2_K _ _ _ (by omega)]
  rw [up2_K _ _ _ (by omega)]
  rw [up2_K _ _ _ (by omega)]
  rw [up2_K _ _ _ (by omega)]
  rw [up2_K _ _ _ (by omega)]
  rw [up2_K _ _ _ (by omega)]
  rw [up2_K _ _ _ (by omega)]
  rw [up2_K _ _ _ (by omega)]
  rw [up2_K _ _ _ (by omega)]
  rw [up2_K _ _ _ (by omega)]
  rw [up2_K _ _ _ (by omega)]
  rw [up2_K _ _ _ (by omega)]
  rw [up2_K _ _ _ (by omega)]
  rw [up2_K _ _ _ (by omega)]
  rw [up2_K _ _ _ (by omega)]
  rw [up2_K _ _ _ (by omega)]
  rw [up2_K _ _ _ (by omega)]
  rw [up2_K _ _ _ (by omega)]
  rw [up2_K _ _ _ (by omega)]
  rw [up2_K _ _ _ (by omega)]
  rw [up2_K _ _ _ (by omega)]
  rw [up2_K _ _ _ (by omega)]
  rw [up2_K _ _ _ (by omega)]
  rw [up2_K _ _ _ (by omega)]
  rw [up2_K _ _ _ (by omega)]
  rw [up2_K _ _ _ (by omega)]
  rw [up2_K _ _ _ (by omega)]
  rw [up2_K _ _ _ (by omega)]
  rw [up2_K _ _ _ (by omega)]
  rw [up2_K _ _ _ (by omega)]
  rw [up2_K _ _ _ (by omega)]
  rw [up2_K _ _ _ (by omega)]
  rw [up2_K _ _ _ (by omega)]
  rw [up2_K _ _ _ (by omega)]
  rw [up2_K _ _ _ (by omega)]
  rw [up2_K _ _ _ (by omega)]
  rw [up2_K _ _ _ (by omega)]
  rw [up2_K _ _ _ (by omega)]
  rw [up2_K _ _ _ (by omega)]
  rw [up2_K _ _ _ (by omega)]
  rw [up2_K _ _ _ (by omega)]
  rw [up2_K _ _ _ (by omega)]
  rw [up2_K _ _ _ (by omega)]
  rw [up2_K _ _ _ (by omega)]
  rw [up2_K _ _ _ (by omega)]
  rw [up2_K _ _ _ (by omega)]
  rw [up2_K _ _ _ (by omega)]
  rw [up2_K _ _ _ (by omega)]
  rw [up2_K _ _ _ (by omega)]
  rw [up2_K _ _ _ (by omega)]
  rw [up2_K _ _ _ (by omega)]
  rw [up2_K _ _ _ (by omega)]
  rw [up2_K _ _ _ (by omega)]
  rw [up2_K _ _ _ (by omega)]
  rw [up2_K _ _ _ (by omega)]
  rw [up2_K _ _ _ (by omega)]
  rw [up2_K _ _ _ (by omega)]
  rw [up2_K _ _ _ (by omega)]
  rw [up2_K _ _ _ (by omega)]
  rw [up2_K _ _ _ (by omega)]
  rw [up2_K _ _ _ (by omega)]
  rw [up2_K _ _ _ (by omega)]
  rw [up2_K _ _ _ (by omega)]
  rw [up2_K _ _ _ (by omega)]
  rw [up2_K _ _ _ (by omega)]
  rw [up2_K _ _ _ (by omega)]
  rw [up2_K _ _ _ (by omega)]
  rw [up2_K _ _ _ (by omega)]
  rw [up2_K _ _ _ (by omega)]
  rw [up2_K _ _ _ (by omega)]
  rw [up2_K _ _ _ (by omega)]
  rw [up2_K _ _ _ (by omega)]
  rw [up2_K _ _ _ (by omega)]
  rw [up2_K _ _ _ (by omega)]
  rw [up2_K _ _ _ (by omega)]
  rw [up2_K _ _ _ (by omega)]
  rw [up2_K _ _ _ (by omega)]
  rw [up2_K _ _ _ (by omega)]
  rw [up2_K _ _ _ (by omega)]
  rw [up2_K _ _ _ (by omega)]
  rw [up2_K _ _ _ (by omega)]
  rw [up2_K _ _ _ (by omega)]
  rw [up2_K _ _ _ (by omega)]
  rw [up2_K _ _ _ (by omega)]
  rw [up2_K _ _ _ (by omega)]
  rw [up2_K _ _ _ (by omega)]
  rw [up2_K _ _ _ (by omega)]
  rw [up2_K _ _ _ (by omega)]
  rw [up2_K _ _ _ (by omega)]
  rw [up2_K _ _ _ (by omega)]
  rw [up2_K _ _ _ (by omega)]
  rw [up2_K _ _ _ (by omega)]
  rw [up2_K _ _ _ (by omega)]
  rw [up2_K _ _ _ (by omega)]
  rw [up2_K _ _ _ (by omega)]
  rw [up2_K _ _ _ (by omega)]
  rw [up2_K _ _ _ (by omega)]
  rw [up2_K _ _ _ (by omega)]
  rw [up2_K _ _ _ (by omega)]
  rw [up2_K _ _ _ (by omega)]
  rw [up2_K _ _ _ (by omega)]
  rw [up2_K _ _ _ (by omega)]
  rw [up2_K _ _ _ (by omega)]
  rw [up2_K _ _ _ (by omega)]
  rw [up2_K _ _ _ (by omega)]
  rw [up2_K _ _ _ (by omega)]
  rw [up2_K _ _ _ (by omega)]
  rw [up2_K _ _ _ (by omega)]
  rw [up2_K _ _ _ (by omega)]
  rw [up2_K _ _ _ (by omega)]
  rw [up2_K _ _ _ (by omega)]
  rw [up2_K _ _ _ (by omega)]
  rw [up2_K _ _ _ (by omega)]
  rw [up2_K _ _ _ (by omega)]
  rw [up2_K _ _ _ (by omega)]
  rw [up2_K _ _ _ (by omega)]
  rw [up2_K _ _ _ (by omega)]
  rw [up2_K _ _ _ (by omega)]
set_option maxHeartbeats 8000000 in
set_option maxRecDepth 100000 in
theorem ok_Mo_init {l : Launch} (d : Dt) (hz : ∀ k, 0 ≤ k → k < 81 → ∀ j, d k j = dzv 1 k j) : KC l y_Mo_init prog_14_method_1_code 1 rm_Mo_init 1 F_Mo_init [] 0 [0, 1, 2, 3, 4, 5, 6, 7, 8, 9, 10, 11, 12, 13, 14, 15, 16, 17, 18, 19, 20, 21, 22, 23, 24, 25, 26, 27, 28, 29, 30, 31, 32, 33, 34, 35, 36, 37, 38, 39, 40, 41, 42, 43, 44, 45, 46, 47, 48, 49, 50, 51, 52, 53, 54, 55, 56, 57, 58, 59, 60, 61, 62, 63, 64, 65, 66, 67, 68, 69, 70, 71, 72, 73, 74, 75, 76, 77, 78, 79, 80] 80 24393 [] d (mk_Mo_init d) := by
  refine KC.of (by decide) rfl (Nat.le_of_ble_eq_true rfl) (by decide) (fun q hq j hj => by rw [List.mem_singleton.mp hq] at hj ⊢; rw [hz 0 (by decide) (by decide) j]; unfold dzv; rw [if_pos hj]; exact Or.inl (by decide)) ?_
  intro p e s m args below meth c D cA ad0 A C hinit hlk hr
  replace C : Cq p s m args meth c prog_14_method_1_code 1 "PollBooksModel" D cA F_Mo_init [] A := C
  show Gq p l e rm_Mo_init s m args below meth c 0 0 _ 1 D cA ad0 1 F_Mo_init [] A [0] 0 [(2, 0)] [] d
  unfold mk_Mo_init
  refine q_aload_n C 0 (x := 0) rfl (by decide +kernel) ?_
  refine q_objInit C (ix := 1) lk_1401 lk_28 lk_29 ⟨Nat.le_of_ble_eq_true rfl, Nat.le_of_ble_eq_true rfl⟩ (by decide +kernel) ?_
  refine q_aload_n C 0 (x := 0) rfl (by decide +kernel) ?_
  refine q_iconst C 4 (by decide +kernel) ?_
  refine q_newaI C 1 cd_B1 (by decide) (by decide) (fun j => hz 1 (by decide) (by decide) j) (okl_of (by decide +kernel)) (okl_of (by decide +kernel)) (by decide) rfl (cK rfl) lk_50 (by decide) ⟨Nat.le_of_ble_eq_true rfl, Nat.le_of_ble_eq_true rfl⟩ (by decide +kernel) ?_
  refine q_ks (ks2 := [0, 1]) rfl ?_
  refine q_putR C cl12 0 0 1 1 rfl cd_B0 ⟨by decide, rfl, by decide⟩ (by decide) (by decide) (ix := 7) lk_1403 rfl hinit rfl (fun _ => rfl) (fun _ => rfl) (by decide +kernel) ?_
  refine q_aload_n C 0 (x := 0) rfl (by decide +kernel) ?_
  refine q_iconst C 4 (by decide +kernel) ?_
  refine q_newaI C 2 cd_B2 (by decide) (by decide) (fun j => hz 2 (by decide) (by decide) j) (okl_of (by decide +kernel)) (okl_of (by decide +kernel)) (by decide) rfl (cK rfl) lk_50 (by decide) ⟨Nat.le_of_ble_eq_true rfl, Nat.le_of_ble_eq_true rfl⟩ (by decide +kernel) ?_
  refine q_ks (ks2 := [0, 1, 2]) rfl ?_
  refine q_dup C (by decide +kernel) ?_
  refine q_iconst C 0 (by decide +kernel) ?_
  refine q_iconst C (-1) (by decide +kernel) ?_
  refine q_iast C 2 2 (v := (-1)) (i := 0) rfl (cK rfl) (cK rfl) cd_B2 (by decide) (by decide +kernel) ?_
  refine q_dup C (by decide +kernel) ?_
  refine q_iconst C 1 (by decide +kernel) ?_
  refine q_iconst C (-1) (by decide +kernel) ?_
  refine q_iast C 2 2 (v := (-1)) (i := 1) rfl (cK rfl) (cK rfl) cd_B2 (by decide) (by decide +kernel) ?_
  refine q_dup C (by decide +kernel) ?_
  refine q_iconst C 2 (by decide +kernel) ?_
  refine q_iconst C (-1) (by decide +kernel) ?_
  refine q_iast C 2 2 (v := (-1)) (i := 2) rfl (cK rfl) (cK rfl) cd_B2 (by decide) (by decide +kernel) ?_
  refine q_dup C (by decide +kernel) ?_
  refine q_iconst C 3 (by decide +kernel) ?_
  refine q_iconst C (-1) (by decide +kernel) ?_
  refine q_iast C 2 2 (v := (-1)) (i := 3) rfl (cK rfl) (cK rfl) cd_B2 (by decide) (by decide +kernel) ?_
  refine q_putR C cl12 0 0 2 2 rfl cd_B0 ⟨by decide, rfl, by decide⟩ (by decide) (by decide) (ix := 13) lk_1404 rfl hinit rfl (fun _ => rfl) (fun _ => rfl) (by decide +kernel) ?_
  refine q_aload_n C 0 (x := 0) rfl (by decide +kernel) ?_
  refine q_sipush C 240 (by decide) (by decide +kernel) ?_
  refine q_newaJ C 3 cd_B3 (by decide) (by decide) (fun j => hz 3 (by decide) (by decide) j) (okl_of (by decide +kernel)) (okl_of (by decide +kernel)) (by decide) rfl (cK rfl) lk_49 (by decide) ⟨Nat.le_of_ble_eq_true rfl, Nat.le_of_ble_eq_true rfl⟩ (by decide +kernel) ?_
  refine q_ks (ks2 := [0, 1, 2, 3]) rfl ?_
  refine q_putR C cl12 0 0 3 3 rfl cd_B0 ⟨by decide, rfl, by decide⟩ (by decide) (by decide) (ix := 16) lk_1405 rfl hinit rfl (fun _ => rfl) (fun _ => rfl) (by decide +kernel) ?_
  refine q_aload_n C 0 (x := 0) rfl (by decide +kernel) ?_
  refine q_bipush C 8 (by decide) (by decide +kernel) ?_
  refine q_newaI C 4 cd_B4 (by decide) (by decide) (fun j => hz 4 (by decide) (by decide) j) (okl_of (by decide +kernel)) (okl_of (by decide +kernel)) (by decide) rfl (cK rfl) lk_50 (by decide) ⟨Nat.le_of_ble_eq_true rfl, Nat.le_of_ble_eq_true rfl⟩ (by decide +kernel) ?_
  refine q_ks (ks2 := [0, 1, 2, 3, 4]) rfl ?_
  refine q_putR C cl12 0 0 4 4 rfl cd_B0 ⟨by decide, rfl, by decide⟩ (by decide) (by decide) (ix := 20) lk_1406 rfl hinit rfl (fun _ => rfl) (fun _ => rfl) (by decide +kernel) ?_
  refine q_aload_n C 0 (x := 0) rfl (by decide +kernel) ?_
  refine q_bipush C 8 (by decide) (by decide +kernel) ?_
  refine q_newaI C 5 cd_B5 (by decide) (by decide) (fun j => hz 5 (by decide) (by decide) j) (okl_of (by decide +kernel)) (okl_of (by decide +kernel)) (by decide) rfl (cK rfl) lk_50 (by decide) ⟨Nat.le_of_ble_eq_true rfl, Nat.le_of_ble_eq_true rfl⟩ (by decide +kernel) ?_
  refine q_ks (ks2 := [0, 1, 2, 3, 4, 5]) rfl ?_
  refine q_putR C cl12 0 0 5 5 rfl cd_B0 ⟨by decide, rfl, by decide⟩ (by decide) (by decide) (ix := 23) lk_1407 rfl hinit rfl (fun _ => rfl) (fun _ => rfl) (by decide +kernel) ?_
  refine q_aload_n C 0 (x := 0) rfl (by decide +kernel) ?_
  refine q_bipush C 9 (by decide) (by decide +kernel) ?_
  refine q_newaI C 6 cd_B6 (by decide) (by decide) (fun j => hz 6 (by decide) (by decide) j) (okl_of (by decide +kernel)) (okl_of (by decide +kernel)) (by decide) rfl (cK rfl) lk_50 (by decide) ⟨Nat.le_of_ble_eq_true rfl, Nat.le_of_ble_eq_true rfl⟩ (by decide +kernel) ?_
  refine q_ks (ks2 := [0, 1, 2, 3, 4, 5, 6]) rfl ?_
  refine q_putR C cl12 0 0 6 6 rfl cd_B0 ⟨by decide, rfl, by decide⟩ (by decide) (by decide) (ix := 26) lk_1408 rfl hinit rfl (fun _ => rfl) (fun _ => rfl) (by decide +kernel) ?_
  refine q_aload_n C 0 (x := 0) rfl (by decide +kernel) ?_
  refine q_sipush C 9999 (by decide) (by decide +kernel) ?_
  refine q_putI C cl12 0 0 12 rfl cd_B0 ⟨by decide, rfl, by decide⟩ (by decide) (ix := 29) lk_1414 rfl rfl rfl (by decide +kernel) ?_
  refine q_aload_n C 0 (x := 0) rfl (by decide +kernel) ?_
  refine q_bipush C 40 (by decide) (by decide +kernel) ?_
  refine q_newaJ C 7 cd_B7 (by decide) (by decide) (fun j => hz 7 (by decide) (by decide) j) (okl_of (by decide +kernel)) (okl_of (by decide +kernel)) (by decide) rfl (cK rfl) lk_49 (by decide) ⟨Nat.le_of_ble_eq_true rfl, Nat.le_of_ble_eq_true rfl⟩ (by decide +kernel) ?_
  refine q_ks (ks2 := [0, 1, 2, 3, 4, 5, 6, 7]) rfl ?_
  refine q_putR C cl12 0 0 13 7 rfl cd_B0 ⟨by decide, rfl, by decide⟩ (by decide) (by decide) (ix := 33) lk_1415 rfl hinit rfl (fun _ => rfl) (fun _ => rfl) (by decide +kernel) ?_
  refine q_aload_n C 0 (x := 0) rfl (by decide +kernel) ?_
  refine q_bipush C 40 (by decide) (by decide +kernel) ?_
  refine q_newaI C 8 cd_B8 (by decide) (by decide) (fun j => hz 8 (by decide) (by decide) j) (okl_of (by decide +kernel)) (okl_of (by decide +kernel)) (by decide) rfl (cK rfl) lk_50 (by decide) ⟨Nat.le_of_ble_eq_true rfl, Nat.le_of_ble_eq_true rfl⟩ (by decide +kernel) ?_
  refine q_ks (ks2 := [0, 1, 2, 3, 4, 5, 6, 7, 8]) rfl ?_
  refine q_putR C cl12 0 0 14 8 rfl cd_B0 ⟨by decide, rfl, by decide⟩ (by decide) (by decide) (ix := 36) lk_1416 rfl hinit rfl (fun _ => rfl) (fun _ => rfl) (by decide +kernel) ?_
  refine q_aload_n C 0 (x := 0) rfl (by decide +kernel) ?_
  refine q_bipush C 40 (by decide) (by decide +kernel) ?_
  refine q_newaI C 9 cd_B9 (by decide) (by decide) (fun j => hz 9 (by decide) (by decide) j) (okl_of (by decide +kernel)) (okl_of (by decide +kernel)) (by decide) rfl (cK rfl) lk_50 (by decide) ⟨Nat.le_of_ble_eq_true rfl, Nat.le_of_ble_eq_true rfl⟩ (by decide +kernel) ?_
  refine q_ks (ks2 := [0, 1, 2, 3, 4, 5, 6, 7, 8, 9]) rfl ?_
  refine q_putR C cl12 0 0 15 9 rfl cd_B0 ⟨by decide, rfl, by decide⟩ (by decide) (by decide) (ix := 39) lk_1417 rfl hinit rfl (fun _ => rfl) (fun _ => rfl) (by decide +kernel) ?_
  refine q_aload_n C 0 (x := 0) rfl (by decide +kernel) ?_
  refine q_bipush C 80 (by decide) (by decide +kernel) ?_
  refine q_newaI C 10 cd_B10 (by decide) (by decide) (fun j => hz 10 (by decide) (by decide) j) (okl_of (by decide +kernel)) (okl_of (by decide +kernel)) (by decide) rfl (cK rfl) lk_50 (by decide) ⟨Nat.le_of_ble_eq_true rfl, Nat.le_of_ble_eq_true rfl⟩ (by decide +kernel) ?_
  refine q_ks (ks2 := [0, 1, 2, 3, 4, 5, 6, 7, 8, 9, 10]) rfl ?_
  refine q_putR C cl12 0 0 16 10 rfl cd_B0 ⟨by decide, rfl, by decide⟩ (by decide) (by decide) (ix := 42) lk_1418 rfl hinit rfl (fun _ => rfl) (fun _ => rfl) (by decide +kernel) ?_
  refine q_aload_n C 0 (x := 0) rfl (by decide +kernel) ?_
  refine q_bipush C 80 (by decide) (by decide +kernel) ?_
  refine q_newaI C 11 cd_B11 (by decide) (by decide) (fun j => hz 11 (by decide) (by decide) j) (okl_of (by decide +kernel)) (okl_of (by decide +kernel)) (by decide) rfl (cK rfl) lk_50 (by decide) ⟨Nat.le_of_ble_eq_true rfl, Nat.le_of_ble_eq_true rfl⟩ (by decide +kernel) ?_
  refine q_ks (ks2 := [0, 1, 2, 3, 4, 5, 6, 7, 8, 9, 10, 11]) rfl ?_
  refine q_putR C cl12 0 0 17 11 rfl cd_B0 ⟨by decide, rfl, by decide⟩ (by decide) (by decide) (ix := 45) lk_1419 rfl hinit rfl (fun _ => rfl) (fun _ => rfl) (by decide +kernel) ?_
  refine q_aload_n C 0 (x := 0) rfl (by decide +kernel) ?_
  refine q_bipush C 80 (by decide) (by decide +kernel) ?_
  refine q_newaI C 12 cd_B12 (by decide) (by decide) (fun j => hz 12 (by decide) (by decide) j) (okl_of (by decide +kernel)) (okl_of (by decide +kernel)) (by decide) rfl (cK rfl) lk_50 (by decide) ⟨Nat.le_of_ble_eq_true rfl, Nat.le_of_ble_eq_true rfl⟩ (by decide +kernel) ?_
  refine q_ks (ks2 := [0, 1, 2, 3, 4, 5, 6, 7, 8, 9, 10, 11, 12]) rfl ?_
  refine q_putR C cl12 0 0 18 12 rfl cd_B0 ⟨by decide, rfl, by decide⟩ (by decide) (by decide) (ix := 48) lk_1420 rfl hinit rfl (fun _ => rfl) (fun _ => rfl) (by decide +kernel) ?_
  refine q_aload_n C 0 (x := 0) rfl (by decide +kernel) ?_
  refine q_bipush C 80 (by decide) (by decide +kernel) ?_
  refine q_newaI C 13 cd_B13 (by decide) (by decide) (fun j => hz 13 (by decide) (by decide) j) (okl_of (by decide +kernel)) (okl_of (by decide +kernel)) (by decide) rfl (cK rfl) lk_50 (by decide) ⟨Nat.le_of_ble_eq_true rfl, Nat.le_of_ble_eq_true rfl⟩ (by decide +kernel) ?_
  refine q_ks (ks2 := [0, 1, 2, 3, 4, 5, 6, 7, 8, 9, 10, 11, 12, 13]) rfl ?_
  refine q_putR C cl12 0 0 19 13 rfl cd_B0 ⟨by decide, rfl, by decide⟩ (by decide) (by decide) (ix := 51) lk_1421 rfl hinit rfl (fun _ => rfl) (fun _ => rfl) (by decide +kernel) ?_
  refine q_aload_n C 0 (x := 0) rfl (by decide +kernel) ?_
  refine q_bipush C 80 (by decide) (by decide +kernel) ?_
  refine q_newaI C 14 cd_B14 (by decide) (by decide) (fun j => hz 14 (by decide) (by decide) j) (okl_of (by decide +kernel)) (okl_of (by decide +kernel)) (by decide) rfl (cK rfl) lk_50 (by decide) ⟨Nat.le_of_ble_eq_true rfl, Nat.le_of_ble_eq_true rfl⟩ (by decide +kernel) ?_
  refine q_ks (ks2 := [0, 1, 2, 3, 4, 5, 6, 7, 8, 9, 10, 11, 12, 13, 14]) rfl ?_
  refine q_putR C cl12 0 0 20 14 rfl cd_B0 ⟨by decide, rfl, by decide⟩ (by decide) (by decide) (ix := 54) lk_1422 rfl hinit rfl (fun _ => rfl) (fun _ => rfl) (by decide +kernel) ?_
  refine q_aload_n C 0 (x := 0) rfl (by decide +kernel) ?_
  refine q_bipush C 80 (by decide) (by decide +kernel) ?_
  refine q_newaI C 15 cd_B15 (by decide) (by decide) (fun j => hz 15 (by decide) (by decide) j) (okl_of (by decide +kernel)) (okl_of (by decide +kernel)) (by decide) rfl (cK rfl) lk_50 (by decide) ⟨Nat.le_of_ble_eq_true rfl, Nat.le_of_ble_eq_true rfl⟩ (by decide +kernel) ?_
  refine q_ks (ks2 := [0, 1, 2, 3, 4, 5, 6, 7, 8, 9, 10, 11, 12, 13, 14, 15]) rfl ?_
  refine q_putR C cl12 0 0 21 15 rfl cd_B0 ⟨by decide, rfl, by decide⟩ (by decide) (by decide) (ix := 57) lk_1423 rfl hinit rfl (fun _ => rfl) (fun _ => rfl) (by decide +kernel) ?_
  refine q_aload_n C 0 (x := 0) rfl (by decide +kernel) ?_
  refine q_bipush C 30 (by decide) (by decide +kernel) ?_
  refine q_newaI C 16 cd_B16 (by decide) (by decide) (fun j => hz 16 (by decide) (by decide) j) (okl_of (by decide +kernel)) (okl_of (by decide +kernel)) (by decide) rfl (cK rfl) lk_50 (by decide) ⟨Nat.le_of_ble_eq_true rfl, Nat.le_of_ble_eq_true rfl⟩ (by decide +kernel) ?_
  refine q_ks (ks2 := [0, 1, 2, 3, 4, 5, 6, 7, 8, 9, 10, 11, 12, 13, 14, 15, 16]) rfl ?_
  refine q_putR C cl12 0 0 22 16 rfl cd_B0 ⟨by decide, rfl, by decide⟩ (by decide) (by decide) (ix := 60) lk_1424 rfl hinit rfl (fun _ => rfl) (fun _ => rfl) (by decide +kernel) ?_
  refine q_aload_n C 0 (x := 0) rfl (by decide +kernel) ?_
  refine q_bipush C 30 (by decide) (by decide +kernel) ?_
  refine q_newaI C 17 cd_B17 (by decide) (by decide) (fun j => hz 17 (by decide) (by decide) j) (okl_of (by decide +kernel)) (okl_of (by decide +kernel)) (by decide) rfl (cK rfl) lk_50 (by decide) ⟨Nat.le_of_ble_eq_true rfl, Nat.le_of_ble_eq_true rfl⟩ (by decide +kernel) ?_
  refine q_ks (ks2 := [0, 1, 2, 3, 4, 5, 6, 7, 8, 9, 10, 11, 12, 13, 14, 15, 16, 17]) rfl ?_
  refine q_putR C cl12 0 0 23 17 rfl cd_B0 ⟨by decide, rfl, by decide⟩ (by decide) (by decide) (ix := 63) lk_1425 rfl hinit rfl (fun _ => rfl) (fun _ => rfl) (by decide +kernel) ?_
  refine q_aload_n C 0 (x := 0) rfl (by decide +kernel) ?_
  refine q_bipush C 30 (by decide) (by decide +kernel) ?_
  refine q_newaI C 18 cd_B18 (by decide) (by decide) (fun j => hz 18 (by decide) (by decide) j) (okl_of (by decide +kernel)) (okl_of (by decide +kernel)) (by decide) rfl (cK rfl) lk_50 (by decide) ⟨Nat.le_of_ble_eq_true rfl, Nat.le_of_ble_eq_true rfl⟩ (by decide +kernel) ?_
  refine q_ks (ks2 := [0, 1, 2, 3, 4, 5, 6, 7, 8, 9, 10, 11, 12, 13, 14, 15, 16, 17, 18]) rfl ?_
  refine q_putR C cl12 0 0 24 18 rfl cd_B0 ⟨by decide, rfl, by decide⟩ (by decide) (by decide) (ix := 66) lk_1426 rfl hinit rfl (fun _ => rfl) (fun _ => rfl) (by decide +kernel) ?_
  refine q_aload_n C 0 (x := 0) rfl (by decide +kernel) ?_
  refine q_bipush C 60 (by decide) (by decide +kernel) ?_
  refine q_newaI C 19 cd_B19 (by decide) (by decide) (fun j => hz 19 (by decide) (by decide) j) (okl_of (by decide +kernel)) (okl_of (by decide +kernel)) (by decide) rfl (cK rfl) lk_50 (by decide) ⟨Nat.le_of_ble_eq_true rfl, Nat.le_of_ble_eq_true rfl⟩ (by decide +kernel) ?_
  refine q_ks (ks2 := [0, 1, 2, 3, 4, 5, 6, 7, 8, 9, 10, 11, 12, 13, 14, 15, 16, 17, 18, 19]) rfl ?_
  refine q_putR C cl12 0 0 25 19 rfl cd_B0 ⟨by decide, rfl, by decide⟩ (by decide) (by decide) (ix := 69) lk_1427 rfl hinit rfl (fun _ => rfl) (fun _ => rfl) (by decide +kernel) ?_
  refine q_aload_n C 0 (x := 0) rfl (by decide +kernel) ?_
  refine q_bipush C 60 (by decide) (by decide +kernel) ?_
  refine q_newaI C 20 cd_B20 (by decide) (by decide) (fun j => hz 20 (by decide) (by decide) j) (okl_of (by decide +kernel)) (okl_of (by decide +kernel)) (by decide) rfl (cK rfl) lk_50 (by decide) ⟨Nat.le_of_ble_eq_true rfl, Nat.le_of_ble_eq_true rfl⟩ (by decide +kernel) ?_
  refine q_ks (ks2 := [0, 1, 2, 3, 4, 5, 6, 7, 8, 9, 10, 11, 12, 13, 14, 15, 16, 17, 18, 19, 20]) rfl ?_
  refine q_putR C cl12 0 0 26 20 rfl cd_B0 ⟨by decide, rfl, by decide⟩ (by decide) (by decide) (ix := 72) lk_1428 rfl hinit rfl (fun _ => rfl) (fun _ => rfl) (by decide +kernel) ?_
  refine q_aload_n C 0 (x := 0) rfl (by decide +kernel) ?_
  refine q_bipush C 60 (by decide) (by decide +kernel) ?_
  refine q_newaI C 21 cd_B21 (by decide) (by decide) (fun j => hz 21 (by decide) (by decide) j) (okl_of (by decide +kernel)) (okl_of (by decide +kernel)) (by decide) rfl (cK rfl) lk_50 (by decide) ⟨Nat.le_of_ble_eq_true rfl, Nat.le_of_ble_eq_true rfl⟩ (by decide +kernel) ?_
  refine q_ks (ks2 := [0, 1, 2, 3, 4, 5, 6, 7, 8, 9, 10, 11, 12, 13, 14, 15, 16, 17, 18, 19, 20, 21]) rfl ?_
  refine q_putR C cl12 0 0 27 21 rfl cd_B0 ⟨by decide, rfl, by decide⟩ (by decide) (by decide) (ix := 75) lk_1429 rfl hinit rfl (fun _ => rfl) (fun _ => rfl) (by decide +kernel) ?_
  refine q_aload_n C 0 (x := 0) rfl (by decide +kernel) ?_
  refine q_bipush C 60 (by decide) (by decide +kernel) ?_
  refine q_newaI C 22 cd_B22 (by decide) (by decide) (fun j => hz 22 (by decide) (by decide) j) (okl_of (by decide +kernel)) (okl_of (by decide +kernel)) (by decide) rfl (cK rfl) lk_50 (by decide) ⟨Nat.le_of_ble_eq_true rfl, Nat.le_of_ble_eq_true rfl⟩ (by decide +kernel) ?_
  refine q_ks (ks2 := [0, 1, 2, 3, 4, 5, 6, 7, 8, 9, 10, 11, 12, 13, 14, 15, 16, 17, 18, 19, 20, 21, 22]) rfl ?_
  refine q_putR C cl12 0 0 28 22 rfl cd_B0 ⟨by decide, rfl, by decide⟩ (by decide) (by decide) (ix := 78) lk_1430 rfl hinit rfl (fun _ => rfl) (fun _ => rfl) (by decide +kernel) ?_
  refine q_aload_n C 0 (x := 0) rfl (by decide +kernel) ?_
  refine q_bipush C 60 (by decide) (by decide +kernel) ?_
  refine q_newaZ C 23 cd_B23 (by decide) (by decide) (fun j => hz 23 (by decide) (by decide) j) (okl_of (by decide +kernel)) (okl_of (by decide +kernel)) (by decide) rfl (cK rfl) lk_265 (by decide) ⟨Nat.le_of_ble_eq_true rfl, Nat.le_of_ble_eq_true rfl⟩ (by decide +kernel) ?_
  refine q_ks (ks2 := [0, 1, 2, 3, 4, 5, 6, 7, 8, 9, 10, 11, 12, 13, 14, 15, 16, 17, 18, 19, 20, 21, 22, 23]) rfl ?_
  refine q_putR C cl12 0 0 29 23 rfl cd_B0 ⟨by decide, rfl, by decide⟩ (by decide) (by decide) (ix := 81) lk_1431 rfl hinit rfl (fun _ => rfl) (fun _ => rfl) (by decide +kernel) ?_
  refine q_aload_n C 0 (x := 0) rfl (by decide +kernel) ?_
  refine q_sipush C 600 (by decide) (by decide +kernel) ?_
  refine q_newaB C 24 cd_B24 (by decide) (by decide) (fun j => hz 24 (by decide) (by decide) j) (okl_of (by decide +kernel)) (okl_of (by decide +kernel)) (by decide) rfl (cK rfl) lk_194 (by decide) ⟨Nat.le_of_ble_eq_true rfl, Nat.le_of_ble_eq_true rfl⟩ (by decide +kernel) ?_
  refine q_ks (ks2 := [0, 1, 2, 3, 4, 5, 6, 7, 8, 9, 10, 11, 12, 13, 14, 15, 16, 17, 18, 19, 20, 21, 22, 23, 24]) rfl ?_
  refine q_putR C cl12 0 0 30 24 rfl cd_B0 ⟨by decide, rfl, by decide⟩ (by decide) (by decide) (ix := 85) lk_1432 rfl hinit rfl (fun _ => rfl) (fun _ => rfl) (by decide +kernel) ?_
  refine q_aload_n C 0 (x := 0) rfl (by decide +kernel) ?_
  refine q_sipush C 600 (by decide) (by decide +kernel) ?_
  refine q_newaB C 25 cd_B25 (by decide) (by decide) (fun j => hz 25 (by decide) (by decide) j) (okl_of (by decide +kernel)) (okl_of (by decide +kernel)) (by decide) rfl (cK rfl) lk_194 (by decide) ⟨Nat.le_of_ble_eq_true rfl, Nat.le_of_ble_eq_true rfl⟩ (by decide +kernel) ?_
  refine q_ks (ks2 := [0, 1, 2, 3, 4, 5, 6, 7, 8, 9, 10, 11, 12, 13, 14, 15, 16, 17, 18, 19, 20, 21, 22, 23, 24, 25]) rfl ?_
  refine q_putR C cl12 0 0 31 25 rfl cd_B0 ⟨by decide, rfl, by decide⟩ (by decide) (by decide) (ix := 89) lk_1433 rfl hinit rfl (fun _ => rfl) (fun _ => rfl) (by decide +kernel) ?_
  refine q_aload_n C 0 (x := 0) rfl (by decide +kernel) ?_
  refine q_iconst C (-1) (by decide +kernel) ?_
  refine q_putI C cl12 0 0 38 rfl cd_B0 ⟨by decide, rfl, by decide⟩ (by decide) (ix := 92) lk_1440 rfl rfl rfl (by decide +kernel) ?_
  refine q_aload_n C 0 (x := 0) rfl (by decide +kernel) ?_
  refine q_iconst C (-1) (by decide +kernel) ?_
  refine q_putI C cl12 0 0 39 rfl cd_B0 ⟨by decide, rfl, by decide⟩ (by decide) (ix := 95) lk_1441 rfl rfl rfl (by decide +kernel) ?_
  refine q_aload_n C 0 (x := 0) rfl (by decide +kernel) ?_
  refine q_bipush C 6 (by decide) (by decide +kernel) ?_
  refine q_newaI C 26 cd_B26 (by decide) (by decide) (fun j => hz 26 (by decide) (by decide) j) (okl_of (by decide +kernel)) (okl_of (by decide +kernel)) (by decide) rfl (cK rfl) lk_50 (by decide) ⟨Nat.le_of_ble_eq_true rfl, Nat.le_of_ble_eq_true rfl⟩ (by decide +kernel) ?_
  refine q_ks (ks2 := [0, 1, 2, 3, 4, 5, 6, 7, 8, 9, 10, 11, 12, 13, 14, 15, 16, 17, 18, 19, 20, 21, 22, 23, 24, 25, 26]) rfl ?_
  refine q_putR C cl12 0 0 44 26 rfl cd_B0 ⟨by decide, rfl, by decide⟩ (by decide) (by decide) (ix := 98) lk_1446 rfl hinit rfl (fun _ => rfl) (fun _ => rfl) (by decide +kernel) ?_
  refine q_aload_n C 0 (x := 0) rfl (by decide +kernel) ?_
  refine q_bipush C 6 (by decide) (by decide +kernel) ?_
  refine q_newaI C 27 cd_B27 (by decide) (by decide) (fun j => hz 27 (by decide) (by decide) j) (okl_of (by decide +kernel)) (okl_of (by decide +kernel)) (by decide) rfl (cK rfl) lk_50 (by decide) ⟨Nat.le_of_ble_eq_true rfl, Nat.le_of_ble_eq_true rfl⟩ (by decide +kernel) ?_
  refine q_ks (ks2 := [0, 1, 2, 3, 4, 5, 6, 7, 8, 9, 10, 11, 12, 13, 14, 15, 16, 17, 18, 19, 20, 21, 22, 23, 24, 25, 26, 27]) rfl ?_
  refine q_putR C cl12 0 0 45 27 rfl cd_B0 ⟨by decide, rfl, by decide⟩ (by decide) (by decide) (ix := 101) lk_1447 rfl hinit rfl (fun _ => rfl) (fun _ => rfl) (by decide +kernel) ?_
  refine q_aload_n C 0 (x := 0) rfl (by decide +kernel) ?_
  refine q_bipush C 6 (by decide) (by decide +kernel) ?_
  refine q_newaI C 28 cd_B28 (by decide) (by decide) (fun j => hz 28 (by decide) (by decide) j) (okl_of (by decide +kernel)) (okl_of (by decide +kernel)) (by decide) rfl (cK rfl) lk_50 (by decide) ⟨Nat.le_of_ble_eq_true rfl, Nat.le_of_ble_eq_true rfl⟩ (by decide +kernel) ?_
  refine q_ks (ks2 := [0, 1, 2, 3, 4, 5, 6, 7, 8, 9, 10, 11, 12, 13, 14, 15, 16, 17, 18, 19, 20, 21, 22, 23, 24, 25, 26, 27, 28]) rfl ?_
  refine q_putR C cl12 0 0 46 28 rfl cd_B0 ⟨by decide, rfl, by decide⟩ (by decide) (by decide) (ix := 104) lk_1448 rfl hinit rfl (fun _ => rfl) (fun _ => rfl) (by decide +kernel) ?_
  refine q_aload_n C 0 (x := 0) rfl (by decide +kernel) ?_
  refine q_bipush C 120 (by decide) (by decide +kernel) ?_
  refine q_newaI C 29 cd_B29 (by decide) (by decide) (fun j => hz 29 (by decide) (by decide) j) (okl_of (by decide +kernel)) (okl_of (by decide +kernel)) (by decide) rfl (cK rfl) lk_50 (by decide) ⟨Nat.le_of_ble_eq_true rfl, Nat.le_of_ble_eq_true rfl⟩ (by decide +kernel) ?_
  refine q_ks (ks2 := [0, 1, 2, 3, 4, 5, 6, 7, 8, 9, 10, 11, 12, 13, 14, 15, 16, 17, 18, 19, 20, 21, 22, 23, 24, 25, 26, 27, 28, 29]) rfl ?_
  refine q_putR C cl12 0 0 47 29 rfl cd_B0 ⟨by decide, rfl, by decide⟩ (by decide) (by decide) (ix := 107) lk_1449 rfl hinit rfl (fun _ => rfl) (fun _ => rfl) (by decide +kernel) ?_
  refine q_aload_n C 0 (x := 0) rfl (by decide +kernel) ?_
  refine q_bipush C 120 (by decide) (by decide +kernel) ?_
  refine q_newaI C 30 cd_B30 (by decide) (by decide) (fun j => hz 30 (by decide) (by decide) j) (okl_of (by decide +kernel)) (okl_of (by decide +kernel)) (by decide) rfl (cK rfl) lk_50 (by decide) ⟨Nat.le_of_ble_eq_true rfl, Nat.le_of_ble_eq_true rfl⟩ (by decide +kernel) ?_
  refine q_ks (ks2 := [0, 1, 2, 3, 4, 5, 6, 7, 8, 9, 10, 11, 12, 13, 14, 15, 16, 17, 18, 19, 20, 21, 22, 23, 24, 25, 26, 27, 28, 29, 30]) rfl ?_
  refine q_putR C cl12 0 0 48 30 rfl cd_B0 ⟨by decide, rfl, by decide⟩ (by decide) (by decide) (ix := 110) lk_1450 rfl hinit rfl (fun _ => rfl) (fun _ => rfl) (by decide +kernel) ?_
  refine q_aload_n C 0 (x := 0) rfl (by decide +kernel) ?_
  refine q_bipush C 120 (by decide) (by decide +kernel) ?_
  refine q_newaI C 31 cd_B31 (by decide) (by decide) (fun j => hz 31 (by decide) (by decide) j) (okl_of (by decide +kernel)) (okl_of (by decide +kernel)) (by decide) rfl (cK rfl) lk_50 (by decide) ⟨Nat.le_of_ble_eq_true rfl, Nat.le_of_ble_eq_true rfl⟩ (by decide +kernel) ?_
  refine q_ks (ks2 := [0, 1, 2, 3, 4, 5, 6, 7, 8, 9, 10, 11, 12, 13, 14, 15, 16, 17, 18, 19, 20, 21, 22, 23, 24, 25, 26, 27, 28, 29, 30, 31]) rfl ?_
  refine q_putR C cl12 0 0 49 31 rfl cd_B0 ⟨by decide, rfl, by decide⟩ (by decide) (by decide) (ix := 113) lk_1451 rfl hinit rfl (fun _ => rfl) (fun _ => rfl) (by decide +kernel) ?_
  refine q_aload_n C 0 (x := 0) rfl (by decide +kernel) ?_
  refine q_bipush C 120 (by decide) (by decide +kernel) ?_
  refine q_newaI C 32 cd_B32 (by decide) (by decide) (fun j => hz 32 (by decide) (by decide) j) (okl_of (by decide +kernel)) (okl_of (by decide +kernel)) (by decide) rfl (cK rfl) lk_50 (by decide) ⟨Nat.le_of_ble_eq_true rfl, Nat.le_of_ble_eq_true rfl⟩ (by decide +kernel) ?_
  refine q_ks (ks2 := [0, 1, 2, 3, 4, 5, 6, 7, 8, 9, 10, 11, 12, 13, 14, 15, 16, 17, 18, 19, 20, 21, 22, 23, 24, 25, 26, 27, 28, 29, 30, 31, 32]) rfl ?_
  refine q_putR C cl12 0 0 50 32 rfl cd_B0 ⟨by decide, rfl, by decide⟩ (by decide) (by decide) (ix := 116) lk_1452 rfl hinit rfl (fun _ => rfl) (fun _ => rfl) (by decide +kernel) ?_
  refine q_aload_n C 0 (x := 0) rfl (by decide +kernel) ?_
  refine q_bipush C 120 (by decide) (by decide +kernel) ?_
  refine q_newaI C 33 cd_B33 (by decide) (by decide) (fun j => hz 33 (by decide) (by decide) j) (okl_of (by decide +kernel)) (okl_of (by decide +kernel)) (by decide) rfl (cK rfl) lk_50 (by decide) ⟨Nat.le_of_ble_eq_true rfl, Nat.le_of_ble_eq_true rfl⟩ (by decide +kernel) ?_
  refine q_ks (ks2 := [0, 1, 2, 3, 4, 5, 6, 7, 8, 9, 10, 11, 12, 13, 14, 15, 16, 17, 18, 19, 20, 21, 22, 23, 24, 25, 26, 27, 28, 29, 30, 31, 32, 33]) rfl ?_
  refine q_putR C cl12 0 0 51 33 rfl cd_B0 ⟨by decide, rfl, by decide⟩ (by decide) (by decide) (ix := 119) lk_1453 rfl hinit rfl (fun _ => rfl) (fun _ => rfl) (by decide +kernel) ?_
  refine q_aload_n C 0 (x := 0) rfl (by decide +kernel) ?_
  refine q_bipush C 120 (by decide) (by decide +kernel) ?_
  refine q_newaI C 34 cd_B34 (by decide) (by decide) (fun j => hz 34 (by decide) (by decide) j) (okl_of (by decide +kernel)) (okl_of (by decide +kernel)) (by decide) rfl (cK rfl) lk_50 (by decide) ⟨Nat.le_of_ble_eq_true rfl, Nat.le_of_ble_eq_true rfl⟩ (by decide +kernel) ?_
  refine q_ks (ks2 := [0, 1, 2, 3, 4, 5, 6, 7, 8, 9, 10, 11, 12, 13, 14, 15, 16, 17, 18, 19, 20, 21, 22, 23, 24, 25, 26, 27, 28, 29, 30, 31, 32, 33, 34]) rfl ?_
  refine q_putR C cl12 0 0 52 34 rfl cd_B0 ⟨by decide, rfl, by decide⟩ (by decide) (by decide) (ix := 122) lk_1454 rfl hinit rfl (fun _ => rfl) (fun _ => rfl) (by decide +kernel) ?_
  refine q_aload_n C 0 (x := 0) rfl (by decide +kernel) ?_
  refine q_bipush C 120 (by decide) (by decide +kernel) ?_
  refine q_newaJ C 35 cd_B35 (by decide) (by decide) (fun j => hz 35 (by decide) (by decide) j) (okl_of (by decide +kernel)) (okl_of (by decide +kernel)) (by decide) rfl (cK rfl) lk_49 (by decide) ⟨Nat.le_of_ble_eq_true rfl, Nat.le_of_ble_eq_true rfl⟩ (by decide +kernel) ?_
  refine q_ks (ks2 := [0, 1, 2, 3, 4, 5, 6, 7, 8, 9, 10, 11, 12, 13, 14, 15, 16, 17, 18, 19, 20, 21, 22, 23, 24, 25, 26, 27, 28, 29, 30, 31, 32, 33, 34, 35]) rfl ?_
  refine q_putR C cl12 0 0 53 35 rfl cd_B0 ⟨by decide, rfl, by decide⟩ (by decide) (by decide) (ix := 125) lk_1455 rfl hinit rfl (fun _ => rfl) (fun _ => rfl) (by decide +kernel) ?_
  refine q_aload_n C 0 (x := 0) rfl (by decide +kernel) ?_
  refine q_bipush C 120 (by decide) (by decide +kernel) ?_
  refine q_newaJ C 36 cd_B36 (by decide) (by decide) (fun j => hz 36 (by decide) (by decide) j) (okl_of (by decide +kernel)) (okl_of (by decide +kernel)) (by decide) rfl (cK rfl) lk_49 (by decide) ⟨Nat.le_of_ble_eq_true rfl, Nat.le_of_ble_eq_true rfl⟩ (by decide +kernel) ?_
  refine q_ks (ks2 := [0, 1, 2, 3, 4, 5, 6, 7, 8, 9, 10, 11, 12, 13, 14, 15, 16, 17, 18, 19, 20, 21, 22, 23, 24, 25, 26, 27, 28, 29, 30, 31, 32, 33, 34, 35, 36]) rfl ?_
  refine q_putR C cl12 0 0 54 36 rfl cd_B0 ⟨by decide, rfl, by decide⟩ (by decide) (by decide) (ix := 128) lk_1456 rfl hinit rfl (fun _ => rfl) (fun _ => rfl) (by decide +kernel) ?_
  refine q_aload_n C 0 (x := 0) rfl (by decide +kernel) ?_
  refine q_sipush C 1500 (by decide) (by decide +kernel) ?_
  refine q_newaI C 37 cd_B37 (by decide) (by decide) (fun j => hz 37 (by decide) (by decide) j) (okl_of (by decide +kernel)) (okl_of (by decide +kernel)) (by decide) rfl (cK rfl) lk_50 (by decide) ⟨Nat.le_of_ble_eq_true rfl, Nat.le_of_ble_eq_true rfl⟩ (by decide +kernel) ?_
  refine q_ks (ks2 := [0, 1, 2, 3, 4, 5, 6, 7, 8, 9, 10, 11, 12, 13, 14, 15, 16, 17, 18, 19, 20, 21, 22, 23, 24, 25, 26, 27, 28, 29, 30, 31, 32, 33, 34, 35, 36, 37]) rfl ?_
  refine q_putR C cl12 0 0 55 37 rfl cd_B0 ⟨by decide, rfl, by decide⟩ (by decide) (by decide) (ix := 131) lk_1457 rfl hinit rfl (fun _ => rfl) (fun _ => rfl) (by decide +kernel) ?_
  refine q_aload_n C 0 (x := 0) rfl (by decide +kernel) ?_
  refine q_sipush C 1500 (by decide) (by decide +kernel) ?_
  refine q_newaI C 38 cd_B38 (by decide) (by decide) (fun j => hz 38 (by decide) (by decide) j) (okl_of (by decide +kernel)) (okl_of (by decide +kernel)) (by decide) rfl (cK rfl) lk_50 (by decide) ⟨Nat.le_of_ble_eq_true rfl, Nat.le_of_ble_eq_true rfl⟩ (by decide +kernel) ?_
  refine q_ks (ks2 := [0, 1, 2, 3, 4, 5, 6, 7, 8, 9, 10, 11, 12, 13, 14, 15, 16, 17, 18, 19, 20, 21, 22, 23, 24, 25, 26, 27, 28, 29, 30, 31, 32, 33, 34, 35, 36, 37, 38]) rfl ?_
  refine q_putR C cl12 0 0 56 38 rfl cd_B0 ⟨by decide, rfl, by decide⟩ (by decide) (by decide) (ix := 134) lk_1458 rfl hinit rfl (fun _ => rfl) (fun _ => rfl) (by decide +kernel) ?_
  refine q_aload_n C 0 (x := 0) rfl (by decide +kernel) ?_
  refine q_sipush C 1500 (by decide) (by decide +kernel) ?_
  refine q_newaI C 39 cd_B39 (by decide) (by decide) (fun j => hz 39 (by decide) (by decide) j) (okl_of (by decide +kernel)) (okl_of (by decide +kernel)) (by decide) rfl (cK rfl) lk_50 (by decide) ⟨Nat.le_of_ble_eq_true rfl, Nat.le_of_ble_eq_true rfl⟩ (by decide +kernel) ?_
  refine q_ks (ks2 := [0, 1, 2, 3, 4, 5, 6, 7, 8, 9, 10, 11, 12, 13, 14, 15, 16, 17, 18, 19, 20, 21, 22, 23, 24, 25, 26, 27, 28, 29, 30, 31, 32, 33, 34, 35, 36, 37, 38, 39]) rfl ?_
  refine q_putR C cl12 0 0 57 39 rfl cd_B0 ⟨by decide, rfl, by decide⟩ (by decide) (by decide) (ix := 137) lk_1459 rfl hinit rfl (fun _ => rfl) (fun _ => rfl) (by decide +kernel) ?_
  refine q_aload_n C 0 (x := 0) rfl (by decide +kernel) ?_
  refine q_sipush C 1500 (by decide) (by decide +kernel) ?_
  refine q_newaI C 40 cd_B40 (by decide) (by decide) (fun j => hz 40 (by decide) (by decide) j) (okl_of (by decide +kernel)) (okl_of (by decide +kernel)) (by decide) rfl (cK rfl) lk_50 (by decide) ⟨Nat.le_of_ble_eq_true rfl, Nat.le_of_ble_eq_true rfl⟩ (by decide +kernel) ?_
  refine q_ks (ks2 := [0, 1, 2, 3, 4, 5, 6, 7, 8, 9, 10, 11, 12, 13, 14, 15, 16, 17, 18, 19, 20, 21, 22, 23, 24, 25, 26, 27, 28, 29, 30, 31, 32, 33, 34, 35, 36, 37, 38, 39, 40]) rfl ?_
  refine q_putR C cl12 0 0 58 40 rfl cd_B0 ⟨by decide, rfl, by decide⟩ (by decide) (by decide) (ix := 140) lk_1460 rfl hinit rfl (fun _ => rfl) (fun _ => rfl) (by decide +kernel) ?_
  refine q_aload_n C 0 (x := 0) rfl (by decide +kernel) ?_
  refine q_sipush C 1500 (by decide) (by decide +kernel) ?_
  refine q_newaZ C 41 cd_B41 (by decide) (by decide) (fun j => hz 41 (by decide) (by decide) j) (okl_of (by decide +kernel)) (okl_of (by decide +kernel)) (by decide) rfl (cK rfl) lk_265 (by decide) ⟨Nat.le_of_ble_eq_true rfl, Nat.le_of_ble_eq_true rfl⟩ (by decide +kernel) ?_
  refine q_ks (ks2 := [0, 1, 2, 3, 4, 5, 6, 7, 8, 9, 10, 11, 12, 13, 14, 15, 16, 17, 18, 19, 20, 21, 22, 23, 24, 25, 26, 27, 28, 29, 30, 31, 32, 33, 34, 35, 36, 37, 38, 39, 40, 41]) rfl ?_
  refine q_putR C cl12 0 0 59 41 rfl cd_B0 ⟨by decide, rfl, by decide⟩ (by decide) (by decide) (ix := 143) lk_1461 rfl hinit rfl (fun _ => rfl) (fun _ => rfl) (by decide +kernel) ?_
  refine q_aload_n C 0 (x := 0) rfl (by decide +kernel) ?_
  refine q_sipush C 1500 (by decide) (by decide +kernel) ?_
  refine q_newaZ C 42 cd_B42 (by decide) (by decide) (fun j => hz 42 (by decide) (by decide) j) (okl_of (by decide +kernel)) (okl_of (by decide +kernel)) (by decide) rfl (cK rfl) lk_265 (by decide) ⟨Nat.le_of_ble_eq_true rfl, Nat.le_of_ble_eq_true rfl⟩ (by decide +kernel) ?_
  refine q_ks (ks2 := [0, 1, 2, 3, 4, 5, 6, 7, 8, 9, 10, 11, 12, 13, 14, 15, 16, 17, 18, 19, 20, 21, 22, 23, 24, 25, 26, 27, 28, 29, 30, 31, 32, 33, 34, 35, 36, 37, 38, 39, 40, 41, 42]) rfl ?_
  refine q_putR C cl12 0 0 60 42 rfl cd_B0 ⟨by decide, rfl, by decide⟩ (by decide) (by decide) (ix := 146) lk_1462 rfl hinit rfl (fun _ => rfl) (fun _ => rfl) (by decide +kernel) ?_
  refine q_aload_n C 0 (x := 0) rfl (by decide +kernel) ?_
  refine q_sipush C 4000 (by decide) (by decide +kernel) ?_
  refine q_newaI C 43 cd_B43 (by decide) (by decide) (fun j => hz 43 (by decide) (by decide) j) (okl_of (by decide +kernel)) (okl_of (by decide +kernel)) (by decide) rfl (cK rfl) lk_50 (by decide) ⟨Nat.le_of_ble_eq_true rfl, Nat.le_of_ble_eq_true rfl⟩ (by decide +kernel) ?_
  refine q_ks (ks2 := [0, 1, 2, 3, 4, 5, 6, 7, 8, 9, 10, 11, 12, 13, 14, 15, 16, 17, 18, 19, 20, 21, 22, 23, 24, 25, 26, 27, 28, 29, 30, 31, 32, 33, 34, 35, 36, 37, 38, 39, 40, 41, 42, 43]) rfl ?_
  refine q_putR C cl12 0 0 61 43 rfl cd_B0 ⟨by decide, rfl, by decide⟩ (by decide) (by decide) (ix := 149) lk_1463 rfl hinit rfl (fun _ => rfl) (fun _ => rfl) (by decide +kernel) ?_
  refine q_aload_n C 0 (x := 0) rfl (by decide +kernel) ?_
  refine q_sipush C 4000 (by decide) (by decide +kernel) ?_
  refine q_newaI C 44 cd_B44 (by decide) (by decide) (fun j => hz 44 (by decide) (by decide) j) (okl_of (by decide +kernel)) (okl_of (by decide +kernel)) (by decide) rfl (cK rfl) lk_50 (by decide) ⟨Nat.le_of_ble_eq_true rfl, Nat.le_of_ble_eq_true rfl⟩ (by decide +kernel) ?_
  refine q_ks (ks2 := [0, 1, 2, 3, 4, 5, 6, 7, 8, 9, 10, 11, 12, 13, 14, 15, 16, 17, 18, 19, 20, 21, 22, 23, 24, 25, 26, 27, 28, 29, 30, 31, 32, 33, 34, 35, 36, 37, 38, 39, 40, 41, 42, 43, 44]) rfl ?_
  refine q_putR C cl12 0 0 62 44 rfl cd_B0 ⟨by decide, rfl, by decide⟩ (by decide) (by decide) (ix := 152) lk_1464 rfl hinit rfl (fun _ => rfl) (fun _ => rfl) (by decide +kernel) ?_
  refine q_aload_n C 0 (x := 0) rfl (by decide +kernel) ?_
  refine q_bipush C 8 (by decide) (by decide +kernel) ?_
  refine q_newaI C 45 cd_B45 (by decide) (by decide) (fun j => hz 45 (by decide) (by decide) j) (okl_of (by decide +kernel)) (okl_of (by decide +kernel)) (by decide) rfl (cK rfl) lk_50 (by decide) ⟨Nat.le_of_ble_eq_true rfl, Nat.le_of_ble_eq_true rfl⟩ (by decide +kernel) ?_
  refine q_ks (ks2 := [0, 1, 2, 3, 4, 5, 6, 7, 8, 9, 10, 11, 12, 13, 14, 15, 16, 17, 18, 19, 20, 21, 22, 23, 24, 25, 26, 27, 28, 29, 30, 31, 32, 33, 34, 35, 36, 37, 38, 39, 40, 41, 42, 43, 44, 45]) rfl ?_
  refine q_putR C cl12 0 0 63 45 rfl cd_B0 ⟨by decide, rfl, by decide⟩ (by decide) (by decide) (ix := 155) lk_1465 rfl hinit rfl (fun _ => rfl) (fun _ => rfl) (by decide +kernel) ?_
  refine q_aload_n C 0 (x := 0) rfl (by decide +kernel) ?_
  refine q_bipush C 8 (by decide) (by decide +kernel) ?_
  refine q_newaI C 46 cd_B46 (by decide) (by decide) (fun j => hz 46 (by decide) (by decide) j) (okl_of (by decide +kernel)) (okl_of (by decide +kernel)) (by decide) rfl (cK rfl) lk_50 (by decide) ⟨Nat.le_of_ble_eq_true rfl, Nat.le_of_ble_eq_true rfl⟩ (by decide +kernel) ?_
  refine q_ks (ks2 := [0, 1, 2, 3, 4, 5, 6, 7, 8, 9, 10, 11, 12, 13, 14, 15, 16, 17, 18, 19, 20, 21, 22, 23, 24, 25, 26, 27, 28, 29, 30, 31, 32, 33, 34, 35, 36, 37, 38, 39, 40, 41, 42, 43, 44, 45, 46]) rfl ?_
  refine q_putR C cl12 0 0 64 46 rfl cd_B0 ⟨by decide, rfl, by decide⟩ (by decide) (by decide) (ix := 158) lk_1466 rfl hinit rfl (fun _ => rfl) (fun _ => rfl) (by decide +kernel) ?_
  refine q_aload_n C 0 (x := 0) rfl (by decide +kernel) ?_
  refine q_bipush C 100 (by decide) (by decide +kernel) ?_
  refine q_newaI C 47 cd_B47 (by decide) (by decide) (fun j => hz 47 (by decide) (by decide) j) (okl_of (by decide +kernel)) (okl_of (by decide +kernel)) (by decide) rfl (cK rfl) lk_50 (by decide) ⟨Nat.le_of_ble_eq_true rfl, Nat.le_of_ble_eq_true rfl⟩ (by decide +kernel) ?_
  refine q_ks (ks2 := [0, 1, 2, 3, 4, 5, 6, 7, 8, 9, 10, 11, 12, 13, 14, 15, 16, 17, 18, 19, 20, 21, 22, 23, 24, 25, 26, 27, 28, 29, 30, 31, 32, 33, 34, 35, 36, 37, 38, 39, 40, 41, 42, 43, 44, 45, 46, 47]) rfl ?_
  refine q_putR C cl12 0 0 65 47 rfl cd_B0 ⟨by decide, rfl, by decide⟩ (by decide) (by decide) (ix := 161) lk_1467 rfl hinit rfl (fun _ => rfl) (fun _ => rfl) (by decide +kernel) ?_
  refine q_aload_n C 0 (x := 0) rfl (by decide +kernel) ?_
  refine q_iconst C 5 (by decide +kernel) ?_
  refine q_newaI C 48 cd_B48 (by decide) (by decide) (fun j => hz 48 (by decide) (by decide) j) (okl_of (by decide +kernel)) (okl_of (by decide +kernel)) (by decide) rfl (cK rfl) lk_50 (by decide) ⟨Nat.le_of_ble_eq_true rfl, Nat.le_of_ble_eq_true rfl⟩ (by decide +kernel) ?_
  refine q_ks (ks2 := [0, 1, 2, 3, 4, 5, 6, 7, 8, 9, 10, 11, 12, 13, 14, 15, 16, 17, 18, 19, 20, 21, 22, 23, 24, 25, 26, 27, 28, 29, 30, 31, 32, 33, 34, 35, 36, 37, 38, 39, 40, 41, 42, 43, 44, 45, 46, 47, 48]) rfl ?_
  refine q_putR C cl12 0 0 66 48 rfl cd_B0 ⟨by decide, rfl, by decide⟩ (by decide) (by decide) (ix := 164) lk_1468 rfl hinit rfl (fun _ => rfl) (fun _ => rfl) (by decide +kernel) ?_
  refine q_aload_n C 0 (x := 0) rfl (by decide +kernel) ?_
  refine q_bipush C 100 (by decide) (by decide +kernel) ?_
  refine q_newaZ C 49 cd_B49 (by decide) (by decide) (fun j => hz 49 (by decide) (by decide) j) (okl_of (by decide +kernel)) (okl_of (by decide +kernel)) (by decide) rfl (cK rfl) lk_265 (by decide) ⟨Nat.le_of_ble_eq_true rfl, Nat.le_of_ble_eq_true rfl⟩ (by decide +kernel) ?_
  refine q_ks (ks2 := [0, 1, 2, 3, 4, 5, 6, 7, 8, 9, 10, 11, 12, 13, 14, 15, 16, 17, 18, 19, 20, 21, 22, 23, 24, 25, 26, 27, 28, 29, 30, 31, 32, 33, 34, 35, 36, 37, 38, 39, 40, 41, 42, 43, 44, 45, 46, 47, 48, 49]) rfl ?_
  refine q_putR C cl12 0 0 67 49 rfl cd_B0 ⟨by decide, rfl, by decide⟩ (by decide) (by decide) (ix := 167) lk_1469 rfl hinit rfl (fun _ => rfl) (fun _ => rfl) (by decide +kernel) ?_
  refine q_aload_n C 0 (x := 0) rfl (by decide +kernel) ?_
  refine q_bipush C 9 (by decide) (by decide +kernel) ?_
  refine q_newaJ C 50 cd_B50 (by decide) (by decide) (fun j => hz 50 (by decide) (by decide) j) (okl_of (by decide +kernel)) (okl_of (by decide +kernel)) (by decide) rfl (cK rfl) lk_49 (by decide) ⟨Nat.le_of_ble_eq_true rfl, Nat.le_of_ble_eq_true rfl⟩ (by decide +kernel) ?_
  refine q_ks (ks2 := [0, 1, 2, 3, 4, 5, 6, 7, 8, 9, 10, 11, 12, 13, 14, 15, 16, 17, 18, 19, 20, 21, 22, 23, 24, 25, 26, 27, 28, 29, 30, 31, 32, 33, 34, 35, 36, 37, 38, 39, 40, 41, 42, 43, 44, 45, 46, 47, 48, 49, 50]) rfl ?_
  refine q_putR C cl12 0 0 69 50 rfl cd_B0 ⟨by decide, rfl, by decide⟩ (by decide) (by decide) (ix := 170) lk_1471 rfl hinit rfl (fun _ => rfl) (fun _ => rfl) (by decide +kernel) ?_
  refine q_aload_n C 0 (x := 0) rfl (by decide +kernel) ?_
  refine q_sipush C 700 (by decide) (by decide +kernel) ?_
  refine q_newaJ C 51 cd_B51 (by decide) (by decide) (fun j => hz 51 (by decide) (by decide) j) (okl_of (by decide +kernel)) (okl_of (by decide +kernel)) (by decide) rfl (cK rfl) lk_49 (by decide) ⟨Nat.le_of_ble_eq_true rfl, Nat.le_of_ble_eq_true rfl⟩ (by decide +kernel) ?_
  refine q_ks (ks2 := [0, 1, 2, 3, 4, 5, 6, 7, 8, 9, 10, 11, 12, 13, 14, 15, 16, 17, 18, 19, 20, 21, 22, 23, 24, 25, 26, 27, 28, 29, 30, 31, 32, 33, 34, 35, 36, 37, 38, 39, 40, 41, 42, 43, 44, 45, 46, 47, 48, 49, 50, 51]) rfl ?_
  refine q_putR C cl12 0 0 70 51 rfl cd_B0 ⟨by decide, rfl, by decide⟩ (by decide) (by decide) (ix := 173) lk_1472 rfl hinit rfl (fun _ => rfl) (fun _ => rfl) (by decide +kernel) ?_
  refine q_aload_n C 0 (x := 0) rfl (by decide +kernel) ?_
  refine q_iconst C 3 (by decide +kernel) ?_
  refine q_newaI C 52 cd_B52 (by decide) (by decide) (fun j => hz 52 (by decide) (by decide) j) (okl_of (by decide +kernel)) (okl_of (by decide +kernel)) (by decide) rfl (cK rfl) lk_50 (by decide) ⟨Nat.le_of_ble_eq_true rfl, Nat.le_of_ble_eq_true rfl⟩ (by decide +kernel) ?_
  refine q_ks (ks2 := [0, 1, 2, 3, 4, 5, 6, 7, 8, 9, 10, 11, 12, 13, 14, 15, 16, 17, 18, 19, 20, 21, 22, 23, 24, 25, 26, 27, 28, 29, 30, 31, 32, 33, 34, 35, 36, 37, 38, 39, 40, 41, 42, 43, 44, 45, 46, 47, 48, 49, 50, 51, 52]) rfl ?_
  refine q_putR C cl12 0 0 72 52 rfl cd_B0 ⟨by decide, rfl, by decide⟩ (by decide) (by decide) (ix := 176) lk_1474 rfl hinit rfl (fun _ => rfl) (fun _ => rfl) (by decide +kernel) ?_
  refine q_aload_n C 0 (x := 0) rfl (by decide +kernel) ?_
  refine q_bipush C 90 (by decide) (by decide +kernel) ?_
  refine q_newaI C 53 cd_B53 (by decide) (by decide) (fun j => hz 53 (by decide) (by decide) j) (okl_of (by decide +kernel)) (okl_of (by decide +kernel)) (by decide) rfl (cK rfl) lk_50 (by decide) ⟨Nat.le_of_ble_eq_true rfl, Nat.le_of_ble_eq_true rfl⟩ (by decide +kernel) ?_
  refine q_ks (ks2 := [0, 1, 2, 3, 4, 5, 6, 7, 8, 9, 10, 11, 12, 13, 14, 15, 16, 17, 18, 19, 20, 21, 22, 23, 24, 25, 26, 27, 28, 29, 30, 31, 32, 33, 34, 35, 36, 37, 38, 39, 40, 41, 42, 43, 44, 45, 46, 47, 48, 49, 50, 51, 52, 53]) rfl ?_
  refine q_putR C cl12 0 0 73 53 rfl cd_B0 ⟨by decide, rfl, by decide⟩ (by decide) (by decide) (ix := 179) lk_1475 rfl hinit rfl (fun _ => rfl) (fun _ => rfl) (by decide +kernel) ?_
  refine q_aload_n C 0 (x := 0) rfl (by decide +kernel) ?_
  refine q_bipush C 90 (by decide) (by decide +kernel) ?_
  refine q_newaI C 54 cd_B54 (by decide) (by decide) (fun j => hz 54 (by decide) (by decide) j) (okl_of (by decide +kernel)) (okl_of (by decide +kernel)) (by decide) rfl (cK rfl) lk_50 (by decide) ⟨Nat.le_of_ble_eq_true rfl, Nat.le_of_ble_eq_true rfl⟩ (by decide +kernel) ?_
  refine q_ks (ks2 := [0, 1, 2, 3, 4, 5, 6, 7, 8, 9, 10, 11, 12, 13, 14, 15, 16, 17, 18, 19, 20, 21, 22, 23, 24, 25, 26, 27, 28, 29, 30, 31, 32, 33, 34, 35, 36, 37, 38, 39, 40, 41, 42, 43, 44, 45, 46, 47, 48, 49, 50, 51, 52, 53, 54]) rfl ?_
  refine q_putR C cl12 0 0 74 54 rfl cd_B0 ⟨by decide, rfl, by decide⟩ (by decide) (by decide) (ix := 182) lk_1476 rfl hinit rfl (fun _ => rfl) (fun _ => rfl) (by decide +kernel) ?_
  refine q_aload_n C 0 (x := 0) rfl (by decide +kernel) ?_
  refine q_bipush C 90 (by decide) (by decide +kernel) ?_
  refine q_newaI C 55 cd_B55 (by decide) (by decide) (fun j => hz 55 (by decide) (by decide) j) (okl_of (by decide +kernel)) (okl_of (by decide +kernel)) (by decide) rfl (cK rfl) lk_50 (by decide) ⟨Nat.le_of_ble_eq_true rfl, Nat.le_of_ble_eq_true rfl⟩ (by decide +kernel) ?_
  refine q_ks (ks2 := [0, 1, 2, 3, 4, 5, 6, 7, 8, 9, 10, 11, 12, 13, 14, 15, 16, 17, 18, 19, 20, 21, 22, 23, 24, 25, 26, 27, 28, 29, 30, 31, 32, 33, 34, 35, 36, 37, 38, 39, 40, 41, 42, 43, 44, 45, 46, 47, 48, 49, 50, 51, 52, 53, 54, 55]) rfl ?_
  refine q_putR C cl12 0 0 75 55 rfl cd_B0 ⟨by decide, rfl, by decide⟩ (by decide) (by decide) (ix := 185) lk_1477 rfl hinit rfl (fun _ => rfl) (fun _ => rfl) (by decide +kernel) ?_
  refine q_aload_n C 0 (x := 0) rfl (by decide +kernel) ?_
  refine q_bipush C 60 (by decide) (by decide +kernel) ?_
  refine q_newaI C 56 cd_B56 (by decide) (by decide) (fun j => hz 56 (by decide) (by decide) j) (okl_of (by decide +kernel)) (okl_of (by decide +kernel)) (by decide) rfl (cK rfl) lk_50 (by decide) ⟨Nat.le_of_ble_eq_true rfl, Nat.le_of_ble_eq_true rfl⟩ (by decide +kernel) ?_
  refine q_ks (ks2 := [0, 1, 2, 3, 4, 5, 6, 7, 8, 9, 10, 11, 12, 13, 14, 15, 16, 17, 18, 19, 20, 21, 22, 23, 24, 25, 26, 27, 28, 29, 30, 31, 32, 33, 34, 35, 36, 37, 38, 39, 40, 41, 42, 43, 44, 45, 46, 47, 48, 49, 50, 51, 52, 53, 54, 55, 56]) rfl ?_
  refine q_putR C cl12 0 0 76 56 rfl cd_B0 ⟨by decide, rfl, by decide⟩ (by decide) (by decide) (ix := 188) lk_1478 rfl hinit rfl (fun _ => rfl) (fun _ => rfl) (by decide +kernel) ?_
  refine q_aload_n C 0 (x := 0) rfl (by decide +kernel) ?_
  refine q_bipush C 90 (by decide) (by decide +kernel) ?_
  refine q_newaJ C 57 cd_B57 (by decide) (by decide) (fun j => hz 57 (by decide) (by decide) j) (okl_of (by decide +kernel)) (okl_of (by decide +kernel)) (by decide) rfl (cK rfl) lk_49 (by decide) ⟨Nat.le_of_ble_eq_true rfl, Nat.le_of_ble_eq_true rfl⟩ (by decide +kernel) ?_
  refine q_ks (ks2 := [0, 1, 2, 3, 4, 5, 6, 7, 8, 9, 10, 11, 12, 13, 14, 15, 16, 17, 18, 19, 20, 21, 22, 23, 24, 25, 26, 27, 28, 29, 30, 31, 32, 33, 34, 35, 36, 37, 38, 39, 40, 41, 42, 43, 44, 45, 46, 47, 48, 49, 50, 51, 52, 53, 54, 55, 56, 57]) rfl ?_
  refine q_putR C cl12 0 0 77 57 rfl cd_B0 ⟨by decide, rfl, by decide⟩ (by decide) (by decide) (ix := 191) lk_1479 rfl hinit rfl (fun _ => rfl) (fun _ => rfl) (by decide +kernel) ?_
  refine q_aload_n C 0 (x := 0) rfl (by decide +kernel) ?_
  refine q_sipush C 961 (by decide) (by decide +kernel) ?_
  refine q_newaI C 58 cd_B58 (by decide) (by decide) (fun j => hz 58 (by decide) (by decide) j) (okl_of (by decide +kernel)) (okl_of (by decide +kernel)) (by decide) rfl (cK rfl) lk_50 (by decide) ⟨Nat.le_of_ble_eq_true rfl, Nat.le_of_ble_eq_true rfl⟩ (by decide +kernel) ?_
  refine q_ks (ks2 := [0, 1, 2, 3, 4, 5, 6, 7, 8, 9, 10, 11, 12, 13, 14, 15, 16, 17, 18, 19, 20, 21, 22, 23, 24, 25, 26, 27, 28, 29, 30, 31, 32, 33, 34, 35, 36, 37, 38, 39, 40, 41, 42, 43, 44, 45, 46, 47, 48, 49, 50, 51, 52, 53, 54, 55, 56, 57, 58]) rfl ?_
  refine q_putR C cl12 0 0 78 58 rfl cd_B0 ⟨by decide, rfl, by decide⟩ (by decide) (by decide) (ix := 194) lk_1480 rfl hinit rfl (fun _ => rfl) (fun _ => rfl) (by decide +kernel) ?_
  refine q_aload_n C 0 (x := 0) rfl (by decide +kernel) ?_
  refine q_bipush C 6 (by decide) (by decide +kernel) ?_
  refine q_putI C cl12 0 0 79 rfl cd_B0 ⟨by decide, rfl, by decide⟩ (by decide) (ix := 197) lk_1481 rfl rfl rfl (by decide +kernel) ?_
  refine q_aload_n C 0 (x := 0) rfl (by decide +kernel) ?_
  refine q_bipush C 20 (by decide) (by decide +kernel) ?_
  refine q_newaI C 59 cd_B59 (by decide) (by decide) (fun j => hz 59 (by decide) (by decide) j) (okl_of (by decide +kernel)) (okl_of (by decide +kernel)) (by decide) rfl (cK rfl) lk_50 (by decide) ⟨Nat.le_of_ble_eq_true rfl, Nat.le_of_ble_eq_true rfl⟩ (by decide +kernel) ?_
  refine q_ks (ks2 := [0, 1, 2, 3, 4, 5, 6, 7, 8, 9, 10, 11, 12, 13, 14, 15, 16, 17, 18, 19, 20, 21, 22, 23, 24, 25, 26, 27, 28, 29, 30, 31, 32, 33, 34, 35, 36, 37, 38, 39, 40, 41, 42, 43, 44, 45, 46, 47, 48, 49, 50, 51, 52, 53, 54, 55, 56, 57, 58, 59]) rfl ?_
  refine q_putR C cl12 0 0 81 59 rfl cd_B0 ⟨by decide, rfl, by decide⟩ (by decide) (by decide) (ix := 200) lk_1483 rfl hinit rfl (fun _ => rfl) (fun _ => rfl) (by decide +kernel) ?_
  refine q_aload_n C 0 (x := 0) rfl (by decide +kernel) ?_
  refine q_bipush C 20 (by decide) (by decide +kernel) ?_
  refine q_newaI C 60 cd_B60 (by decide) (by decide) (fun j => hz 60 (by decide) (by decide) j) (okl_of (by decide +kernel)) (okl_of (by decide +kernel)) (by decide) rfl (cK rfl) lk_50 (by decide) ⟨Nat.le_of_ble_eq_true rfl, Nat.le_of_ble_eq_true rfl⟩ (by decide +kernel) ?_
  refine q_ks (ks2 := [0, 1, 2, 3, 4, 5, 6, 7, 8, 9, 10, 11, 12, 13, 14, 15, 16, 17, 18, 19, 20, 21, 22, 23, 24, 25, 26, 27, 28, 29, 30, 31, 32, 33, 34, 35, 36, 37, 38, 39, 40, 41, 42, 43, 44, 45, 46, 47, 48, 49, 50, 51, 52, 53, 54, 55, 56, 57, 58, 59, 60]) rfl ?_
  refine q_putR C cl12 0 0 82 60 rfl cd_B0 ⟨by decide, rfl, by decide⟩ (by decide) (by decide) (ix := 203) lk_1484 rfl hinit rfl (fun _ => rfl) (fun _ => rfl) (by decide +kernel) ?_
  refine q_aload_n C 0 (x := 0) rfl (by decide +kernel) ?_
  refine q_bipush C 20 (by decide) (by decide +kernel) ?_
  refine q_newaI C 61 cd_B61 (by decide) (by decide) (fun j => hz 61 (by decide) (by decide) j) (okl_of (by decide +kernel)) (okl_of (by decide +kernel)) (by decide) rfl (cK rfl) lk_50 (by decide) ⟨Nat.le_of_ble_eq_true rfl, Nat.le_of_ble_eq_true rfl⟩ (by decide +kernel) ?_
  refine q_ks (ks2 := [0, 1, 2, 3, 4, 5, 6, 7, 8, 9, 10, 11, 12, 13, 14, 15, 16, 17, 18, 19, 20, 21, 22, 23, 24, 25, 26, 27, 28, 29, 30, 31, 32, 33, 34, 35, 36, 37, 38, 39, 40, 41, 42, 43, 44, 45, 46, 47, 48, 49, 50, 51, 52, 53, 54, 55, 56, 57, 58, 59, 60, 61]) rfl ?_
  refine q_putR C cl12 0 0 83 61 rfl cd_B0 ⟨by decide, rfl, by decide⟩ (by decide) (by decide) (ix := 206) lk_1485 rfl hinit rfl (fun _ => rfl) (fun _ => rfl) (by decide +kernel) ?_
  refine q_aload_n C 0 (x := 0) rfl (by decide +kernel) ?_
  refine q_bipush C 30 (by decide) (by decide +kernel) ?_
  refine q_newaI C 62 cd_B62 (by decide) (by decide) (fun j => hz 62 (by decide) (by decide) j) (okl_of (by decide +kernel)) (okl_of (by decide +kernel)) (by decide) rfl (cK rfl) lk_50 (by decide) ⟨Nat.le_of_ble_eq_true rfl, Nat.le_of_ble_eq_true rfl⟩ (by decide +kernel) ?_
  refine q_ks (ks2 := [0, 1, 2, 3, 4, 5, 6, 7, 8, 9, 10, 11, 12, 13, 14, 15, 16, 17, 18, 19, 20, 21, 22, 23, 24, 25, 26, 27, 28, 29, 30, 31, 32, 33, 34, 35, 36, 37, 38, 39, 40, 41, 42, 43, 44, 45, 46, 47, 48, 49, 50, 51, 52, 53, 54, 55, 56, 57, 58, 59, 60, 61, 62]) rfl ?_
  refine q_putR C cl12 0 0 84 62 rfl cd_B0 ⟨by decide, rfl, by decide⟩ (by decide) (by decide) (ix := 209) lk_1486 rfl hinit rfl (fun _ => rfl) (fun _ => rfl) (by decide +kernel) ?_
  refine q_aload_n C 0 (x := 0) rfl (by decide +kernel) ?_
  refine q_bipush C 20 (by decide) (by decide +kernel) ?_
  refine q_newaI C 63 cd_B63 (by decide) (by decide) (fun j => hz 63 (by decide) (by decide) j) (okl_of (by decide +kernel)) (okl_of (by decide +kernel)) (by decide) rfl (cK rfl) lk_50 (by decide) ⟨Nat.le_of_ble_eq_true rfl, Nat.le_of_ble_eq_true rfl⟩ (by decide +kernel) ?_
  refine q_ks (ks2 := [0, 1, 2, 3, 4, 5, 6, 7, 8, 9, 10, 11, 12, 13, 14, 15, 16, 17, 18, 19, 20, 21, 22, 23, 24, 25, 26, 27, 28, 29, 30, 31, 32, 33, 34, 35, 36, 37, 38, 39, 40, 41, 42, 43, 44, 45, 46, 47, 48, 49, 50, 51, 52, 53, 54, 55, 56, 57, 58, 59, 60, 61, 62, 63]) rfl ?_
  refine q_putR C cl12 0 0 85 63 rfl cd_B0 ⟨by decide, rfl, by decide⟩ (by decide) (by decide) (ix := 212) lk_1487 rfl hinit rfl (fun _ => rfl) (fun _ => rfl) (by decide +kernel) ?_
  refine q_aload_n C 0 (x := 0) rfl (by decide +kernel) ?_
  refine q_iconst C 4 (by decide +kernel) ?_
  refine q_newaI C 64 cd_B64 (by decide) (by decide) (fun j => hz 64 (by decide) (by decide) j) (okl_of (by decide +kernel)) (okl_of (by decide +kernel)) (by decide) rfl (cK rfl) lk_50 (by decide) ⟨Nat.le_of_ble_eq_true rfl, Nat.le_of_ble_eq_true rfl⟩ (by decide +kernel) ?_
  refine q_ks (ks2 := [0, 1, 2, 3, 4, 5, 6, 7, 8, 9, 10, 11, 12, 13, 14, 15, 16, 17, 18, 19, 20, 21, 22, 23, 24, 25, 26, 27, 28, 29, 30, 31, 32, 33, 34, 35, 36, 37, 38, 39, 40, 41, 42, 43, 44, 45, 46, 47, 48, 49, 50, 51, 52, 53, 54, 55, 56, 57, 58, 59, 60, 61, 62, 63, 64]) rfl ?_
  refine q_putR C cl12 0 0 86 64 rfl cd_B0 ⟨by decide, rfl, by decide⟩ (by decide) (by decide) (ix := 215) lk_1488 rfl hinit rfl (fun _ => rfl) (fun _ => rfl) (by decide +kernel) ?_
  refine q_aload_n C 0 (x := 0) rfl (by decide +kernel) ?_
  refine q_bipush C 10 (by decide) (by decide +kernel) ?_
  refine q_newaI C 65 cd_B65 (by decide) (by decide) (fun j => hz 65 (by decide) (by decide) j) (okl_of (by decide +kernel)) (okl_of (by decide +kernel)) (by decide) rfl (cK rfl) lk_50 (by decide) ⟨Nat.le_of_ble_eq_true rfl, Nat.le_of_ble_eq_true rfl⟩ (by decide +kernel) ?_
  refine q_ks (ks2 := [0, 1, 2, 3, 4, 5, 6, 7, 8, 9, 10, 11, 12, 13, 14, 15, 16, 17, 18, 19, 20, 21, 22, 23, 24, 25, 26, 27, 28, 29, 30, 31, 32, 33, 34, 35, 36, 37, 38, 39, 40, 41, 42, 43, 44, 45, 46, 47, 48, 49, 50, 51, 52, 53, 54, 55, 56, 57, 58, 59, 60, 61, 62, 63, 64, 65]) rfl ?_
  refine q_putR C cl12 0 0 88 65 rfl cd_B0 ⟨by decide, rfl, by decide⟩ (by decide) (by decide) (ix := 218) lk_1490 rfl hinit rfl (fun _ => rfl) (fun _ => rfl) (by decide +kernel) ?_
  refine q_aload_n C 0 (x := 0) rfl (by decide +kernel) ?_
  refine q_bipush C 10 (by decide) (by decide +kernel) ?_
  refine q_newaI C 66 cd_B66 (by decide) (by decide) (fun j => hz 66 (by decide) (by decide) j) (okl_of (by decide +kernel)) (okl_of (by decide +kernel)) (by decide) rfl (cK rfl) lk_50 (by decide) ⟨Nat.le_of_ble_eq_true rfl, Nat.le_of_ble_eq_true rfl⟩ (by decide +kernel) ?_
  refine q_ks (ks2 := [0, 1, 2, 3, 4, 5, 6, 7, 8, 9, 10, 11, 12, 13, 14, 15, 16, 17, 18, 19, 20, 21, 22, 23, 24, 25, 26, 27, 28, 29, 30, 31, 32, 33, 34, 35, 36, 37, 38, 39, 40, 41, 42, 43, 44, 45, 46, 47, 48, 49, 50, 51, 52, 53, 54, 55, 56, 57, 58, 59, 60, 61, 62, 63, 64, 65, 66]) rfl ?_
  refine q_putR C cl12 0 0 89 66 rfl cd_B0 ⟨by decide, rfl, by decide⟩ (by decide) (by decide) (ix := 221) lk_1491 rfl hinit rfl (fun _ => rfl) (fun _ => rfl) (by decide +kernel) ?_
  refine q_aload_n C 0 (x := 0) rfl (by decide +kernel) ?_
  refine q_iconst C 4 (by decide +kernel) ?_
  refine q_newaI C 67 cd_B67 (by decide) (by decide) (fun j => hz 67 (by decide) (by decide) j) (okl_of (by decide +kernel)) (okl_of (by decide +kernel)) (by decide) rfl (cK rfl) lk_50 (by decide) ⟨Nat.le_of_ble_eq_true rfl, Nat.le_of_ble_eq_true rfl⟩ (by decide +kernel) ?_
  refine q_ks (ks2 := [0, 1, 2, 3, 4, 5, 6, 7, 8, 9, 10, 11, 12, 13, 14, 15, 16, 17, 18, 19, 20, 21, 22, 23, 24, 25, 26, 27, 28, 29, 30, 31, 32, 33, 34, 35, 36, 37, 38, 39, 40, 41, 42, 43, 44, 45, 46, 47, 48, 49, 50, 51, 52, 53, 54, 55, 56, 57, 58, 59, 60, 61, 62, 63, 64, 65, 66, 67]) rfl ?_
  refine q_putR C cl12 0 0 90 67 rfl cd_B0 ⟨by decide, rfl, by decide⟩ (by decide) (by decide) (ix := 224) lk_1492 rfl hinit rfl (fun _ => rfl) (fun _ => rfl) (by decide +kernel) ?_
  refine q_aload_n C 0 (x := 0) rfl (by decide +kernel) ?_
  refine q_bipush C 10 (by decide) (by decide +kernel) ?_
  refine q_newaZ C 68 cd_B68 (by decide) (by decide) (fun j => hz 68 (by decide) (by decide) j) (okl_of (by decide +kernel)) (okl_of (by decide +kernel)) (by decide) rfl (cK rfl) lk_265 (by decide) ⟨Nat.le_of_ble_eq_true rfl, Nat.le_of_ble_eq_true rfl⟩ (by decide +kernel) ?_
  refine q_ks (ks2 := [0, 1, 2, 3, 4, 5, 6, 7, 8, 9, 10, 11, 12, 13, 14, 15, 16, 17, 18, 19, 20, 21, 22, 23, 24, 25, 26, 27, 28, 29, 30, 31, 32, 33, 34, 35, 36, 37, 38, 39, 40, 41, 42, 43, 44, 45, 46, 47, 48, 49, 50, 51, 52, 53, 54, 55, 56, 57, 58, 59, 60, 61, 62, 63, 64, 65, 66, 67, 68]) rfl ?_
  refine q_putR C cl12 0 0 91 68 rfl cd_B0 ⟨by decide, rfl, by decide⟩ (by decide) (by decide) (ix := 227) lk_1493 rfl hinit rfl (fun _ => rfl) (fun _ => rfl) (by decide +kernel) ?_
  refine q_aload_n C 0 (x := 0) rfl (by decide +kernel) ?_
  refine q_bipush C 30 (by decide) (by decide +kernel) ?_
  refine q_newaI C 69 cd_B69 (by decide) (by decide) (fun j => hz 69 (by decide) (by decide) j) (okl_of (by decide +kernel)) (okl_of (by decide +kernel)) (by decide) rfl (cK rfl) lk_50 (by decide) ⟨Nat.le_of_ble_eq_true rfl, Nat.le_of_ble_eq_true rfl⟩ (by decide +kernel) ?_
  refine q_ks (ks2 := [0, 1, 2, 3, 4, 5, 6, 7, 8, 9, 10, 11, 12, 13, 14, 15, 16, 17, 18, 19, 20, 21, 22, 23, 24, 25, 26, 27, 28, 29, 30, 31, 32, 33, 34, 35, 36, 37, 38, 39, 40, 41, 42, 43, 44, 45, 46, 47, 48, 49, 50, 51, 52, 53, 54, 55, 56, 57, 58, 59, 60, 61, 62, 63, 64, 65, 66, 67, 68, 69]) rfl ?_
  refine q_putR C cl12 0 0 93 69 rfl cd_B0 ⟨by decide, rfl, by decide⟩ (by decide) (by decide) (ix := 230) lk_1495 rfl hinit rfl (fun _ => rfl) (fun _ => rfl) (by decide +kernel) ?_
  refine q_aload_n C 0 (x := 0) rfl (by decide +kernel) ?_
  refine q_bipush C 30 (by decide) (by decide +kernel) ?_
  refine q_newaI C 70 cd_B70 (by decide) (by decide) (fun j => hz 70 (by decide) (by decide) j) (okl_of (by decide +kernel)) (okl_of (by decide +kernel)) (by decide) rfl (cK rfl) lk_50 (by decide) ⟨Nat.le_of_ble_eq_true rfl, Nat.le_of_ble_eq_true rfl⟩ (by decide +kernel) ?_
  refine q_ks (ks2 := [0, 1, 2, 3, 4, 5, 6, 7, 8, 9, 10, 11, 12, 13, 14, 15, 16, 17, 18, 19, 20, 21, 22, 23, 24, 25, 26, 27, 28, 29, 30, 31, 32, 33, 34, 35, 36, 37, 38, 39, 40, 41, 42, 43, 44, 45, 46, 47, 48, 49, 50, 51, 52, 53, 54, 55, 56, 57, 58, 59, 60, 61, 62, 63, 64, 65, 66, 67, 68, 69, 70]) rfl ?_
  refine q_putR C cl12 0 0 94 70 rfl cd_B0 ⟨by decide, rfl, by decide⟩ (by decide) (by decide) (ix := 233) lk_1496 rfl hinit rfl (fun _ => rfl) (fun _ => rfl) (by decide +kernel) ?_
  refine q_aload_n C 0 (x := 0) rfl (by decide +kernel) ?_
  refine q_iconst C 4 (by decide +kernel) ?_
  refine q_newaI C 71 cd_B71 (by decide) (by decide) (fun j => hz 71 (by decide) (by decide) j) (okl_of (by decide +kernel)) (okl_of (by decide +kernel)) (by decide) rfl (cK rfl) lk_50 (by decide) ⟨Nat.le_of_ble_eq_true rfl, Nat.le_of_ble_eq_true rfl⟩ (by decide +kernel) ?_
  refine q_ks (ks2 := [0, 1, 2, 3, 4, 5, 6, 7, 8, 9, 10, 11, 12, 13, 14, 15, 16, 17, 18, 19, 20, 21, 22, 23, 24, 25, 26, 27, 28, 29, 30, 31, 32, 33, 34, 35, 36, 37, 38, 39, 40, 41, 42, 43, 44, 45, 46, 47, 48, 49, 50, 51, 52, 53, 54, 55, 56, 57, 58, 59, 60, 61, 62, 63, 64, 65, 66, 67, 68, 69, 70, 71]) rfl ?_
  refine q_putR C cl12 0 0 95 71 rfl cd_B0 ⟨by decide, rfl, by decide⟩ (by decide) (by decide) (ix := 236) lk_1497 rfl hinit rfl (fun _ => rfl) (fun _ => rfl) (by decide +kernel) ?_
  refine q_aload_n C 0 (x := 0) rfl (by decide +kernel) ?_
  refine q_bipush C 30 (by decide) (by decide +kernel) ?_
  refine q_newaI C 72 cd_B72 (by decide) (by decide) (fun j => hz 72 (by decide) (by decide) j) (okl_of (by decide +kernel)) (okl_of (by decide +kernel)) (by decide) rfl (cK rfl) lk_50 (by decide) ⟨Nat.le_of_ble_eq_true rfl, Nat.le_of_ble_eq_true rfl⟩ (by decide +kernel) ?_
  refine q_ks (ks2 := [0, 1, 2, 3, 4, 5, 6, 7, 8, 9, 10, 11, 12, 13, 14, 15, 16, 17, 18, 19, 20, 21, 22, 23, 24, 25, 26, 27, 28, 29, 30, 31, 32, 33, 34, 35, 36, 37, 38, 39, 40, 41, 42, 43, 44, 45, 46, 47, 48, 49, 50, 51, 52, 53, 54, 55, 56, 57, 58, 59, 60, 61, 62, 63, 64, 65, 66, 67, 68, 69, 70, 71, 72]) rfl ?_
  refine q_putR C cl12 0 0 96 72 rfl cd_B0 ⟨by decide, rfl, by decide⟩ (by decide) (by decide) (ix := 239) lk_1498 rfl hinit rfl (fun _ => rfl) (fun _ => rfl) (by decide +kernel) ?_
  refine q_aload_n C 0 (x := 0) rfl (by decide +kernel) ?_
  refine q_bipush C 30 (by decide) (by decide +kernel) ?_
  refine q_newaI C 73 cd_B73 (by decide) (by decide) (fun j => hz 73 (by decide) (by decide) j) (okl_of (by decide +kernel)) (okl_of (by decide +kernel)) (by decide) rfl (cK rfl) lk_50 (by decide) ⟨Nat.le_of_ble_eq_true rfl, Nat.le_of_ble_eq_true rfl⟩ (by decide +kernel) ?_
  refine q_ks (ks2 := [0, 1, 2, 3, 4, 5, 6, 7, 8, 9, 10, 11, 12, 13, 14, 15, 16, 17, 18, 19, 20, 21, 22, 23, 24, 25, 26, 27, 28, 29, 30, 31, 32, 33, 34, 35, 36, 37, 38, 39, 40, 41, 42, 43, 44, 45, 46, 47, 48, 49, 50, 51, 52, 53, 54, 55, 56, 57, 58, 59, 60, 61, 62, 63, 64, 65, 66, 67, 68, 69, 70, 71, 72, 73]) rfl ?_
  refine q_putR C cl12 0 0 97 73 rfl cd_B0 ⟨by decide, rfl, by decide⟩ (by decide) (by decide) (ix := 242) lk_1499 rfl hinit rfl (fun _ => rfl) (fun _ => rfl) (by decide +kernel) ?_
  refine q_aload_n C 0 (x := 0) rfl (by decide +kernel) ?_
  refine q_bipush C 30 (by decide) (by decide +kernel) ?_
  refine q_newaI C 74 cd_B74 (by decide) (by decide) (fun j => hz 74 (by decide) (by decide) j) (okl_of (by decide +kernel)) (okl_of (by decide +kernel)) (by decide) rfl (cK rfl) lk_50 (by decide) ⟨Nat.le_of_ble_eq_true rfl, Nat.le_of_ble_eq_true rfl⟩ (by decide +kernel) ?_
  refine q_ks (ks2 := [0, 1, 2, 3, 4, 5, 6, 7, 8, 9, 10, 11, 12, 13, 14, 15, 16, 17, 18, 19, 20, 21, 22, 23, 24, 25, 26, 27, 28, 29, 30, 31, 32, 33, 34, 35, 36, 37, 38, 39, 40, 41, 42, 43, 44, 45, 46, 47, 48, 49, 50, 51, 52, 53, 54, 55, 56, 57, 58, 59, 60, 61, 62, 63, 64, 65, 66, 67, 68, 69, 70, 71, 72, 73, 74]) rfl ?_
  refine q_putR C cl12 0 0 98 74 rfl cd_B0 ⟨by decide, rfl, by decide⟩ (by decide) (by decide) (ix := 245) lk_1500 rfl hinit rfl (fun _ => rfl) (fun _ => rfl) (by decide +kernel) ?_
  refine q_aload_n C 0 (x := 0) rfl (by decide +kernel) ?_
  refine q_bipush C 49 (by decide) (by decide +kernel) ?_
  refine q_newaI C 75 cd_B75 (by decide) (by decide) (fun j => hz 75 (by decide) (by decide) j) (okl_of (by decide +kernel)) (okl_of (by decide +kernel)) (by decide) rfl (cK rfl) lk_50 (by decide) ⟨Nat.le_of_ble_eq_true rfl, Nat.le_of_ble_eq_true rfl⟩ (by decide +kernel) ?_
  refine q_ks (ks2 := [0, 1, 2, 3, 4, 5, 6, 7, 8, 9, 10, 11, 12, 13, 14, 15, 16, 17, 18, 19, 20, 21, 22, 23, 24, 25, 26, 27, 28, 29, 30, 31, 32, 33, 34, 35, 36, 37, 38, 39, 40, 41, 42, 43, 44, 45, 46, 47, 48, 49, 50, 51, 52, 53, 54, 55, 56, 57, 58, 59, 60, 61, 62, 63, 64, 65, 66, 67, 68, 69, 70, 71, 72, 73, 74, 75]) rfl ?_
  refine q_dup C (by decide +kernel) ?_
  refine q_iconst C 0 (by decide +kernel) ?_
  refine q_bipush C 10 (by decide) (by decide +kernel) ?_
  refine q_iast C 75 75 (v := 10) (i := 0) rfl (cK rfl) (cK rfl) cd_B75 (by decide) (by decide +kernel) ?_
  refine q_dup C (by decide +kernel) ?_
  refine q_iconst C 1 (by decide +kernel) ?_
  refine q_bipush C 10 (by decide) (by decide +kernel) ?_
  refine q_iast C 75 75 (v := 10) (i := 1) rfl (cK rfl) (cK rfl) cd_B75 (by decide) (by decide +kernel) ?_
  refine q_dup C (by decide +kernel) ?_
  refine q_iconst C 2 (by decide +kernel) ?_
  refine q_bipush C 10 (by decide) (by decide +kernel) ?_
  refine q_iast C 75 75 (v := 10) (i := 2) rfl (cK rfl) (cK rfl) cd_B75 (by decide) (by decide +kernel) ?_
  refine q_dup C (by decide +kernel) ?_
  refine q_iconst C 3 (by decide +kernel) ?_
  refine q_bipush C 10 (by decide) (by decide +kernel) ?_
  refine q_iast C 75 75 (v := 10) (i := 3) rfl (cK rfl) (cK rfl) cd_B75 (by decide) (by decide +kernel) ?_
  refine q_dup C (by decide +kernel) ?_
  refine q_iconst C 4 (by decide +kernel) ?_
  refine q_bipush C 10 (by decide) (by decide +kernel) ?_
  refine q_iast C 75 75 (v := 10) (i := 4) rfl (cK rfl) (cK rfl) cd_B75 (by decide) (by decide +kernel) ?_
  refine q_dup C (by decide +kernel) ?_
  refine q_iconst C 5 (by decide +kernel) ?_
  refine q_bipush C 10 (by decide) (by decide +kernel) ?_
  refine q_iast C 75 75 (v := 10) (i := 5) rfl (cK rfl) (cK rfl) cd_B75 (by decide) (by decide +kernel) ?_
  refine q_dup C (by decide +kernel) ?_
  refine q_bipush C 6 (by decide) (by decide +kernel) ?_
  refine q_bipush C 10 (by decide) (by decide +kernel) ?_
  refine q_iast C 75 75 (v := 10) (i := 6) rfl (cK rfl) (cK rfl) cd_B75 (by decide) (by decide +kernel) ?_
  refine q_dup C (by decide +kernel) ?_
  refine q_bipush C 7 (by decide) (by decide +kernel) ?_
  refine q_bipush C 10 (by decide) (by decide +kernel) ?_
  refine q_iast C 75 75 (v := 10) (i := 7) rfl (cK rfl) (cK rfl) cd_B75 (by decide) (by decide +kernel) ?_
  refine q_dup C (by decide +kernel) ?_
  refine q_bipush C 8 (by decide) (by decide +kernel) ?_
  refine q_bipush C 10 (by decide) (by decide +kernel) ?_
  refine q_iast C 75 75 (v := 10) (i := 8) rfl (cK rfl) (cK rfl) cd_B75 (by decide) (by decide +kernel) ?_
  refine q_dup C (by decide +kernel) ?_
  refine q_bipush C 9 (by decide) (by decide +kernel) ?_
  refine q_bipush C 10 (by decide) (by decide +kernel) ?_
  refine q_iast C 75 75 (v := 10) (i := 9) rfl (cK rfl) (cK rfl) cd_B75 (by decide) (by decide +kernel) ?_
  refine q_dup C (by decide +kernel) ?_
  refine q_bipush C 10 (by decide) (by decide +kernel) ?_
  refine q_bipush C 10 (by decide) (by decide +kernel) ?_
  refine q_iast C 75 75 (v := 10) (i := 10) rfl (cK rfl) (cK rfl) cd_B75 (by decide) (by decide +kernel) ?_
  refine q_dup C (by decide +kernel) ?_
  refine q_bipush C 11 (by decide) (by decide +kernel) ?_
  refine q_bipush C 10 (by decide) (by decide +kernel) ?_
  refine q_iast C 75 75 (v := 10) (i := 11) rfl (cK rfl) (cK rfl) cd_B75 (by decide) (by decide +kernel) ?_
  refine q_dup C (by decide +kernel) ?_
  refine q_bipush C 12 (by decide) (by decide +kernel) ?_
  refine q_bipush C 10 (by decide) (by decide +kernel) ?_
  refine q_iast C 75 75 (v := 10) (i := 12) rfl (cK rfl) (cK rfl) cd_B75 (by decide) (by decide +kernel) ?_
  refine q_dup C (by decide +kernel) ?_
  refine q_bipush C 13 (by decide) (by decide +kernel) ?_
  refine q_bipush C 10 (by decide) (by decide +kernel) ?_
  refine q_iast C 75 75 (v := 10) (i := 13) rfl (cK rfl) (cK rfl) cd_B75 (by decide) (by decide +kernel) ?_
  refine q_dup C (by decide +kernel) ?_
  refine q_bipush C 14 (by decide) (by decide +kernel) ?_
  refine q_bipush C 10 (by decide) (by decide +kernel) ?_
  refine q_iast C 75 75 (v := 10) (i := 14) rfl (cK rfl) (cK rfl) cd_B75 (by decide) (by decide +kernel) ?_
  refine q_dup C (by decide +kernel) ?_
  refine q_bipush C 15 (by decide) (by decide +kernel) ?_
  refine q_bipush C 10 (by decide) (by decide +kernel) ?_
  refine q_iast C 75 75 (v := 10) (i := 15) rfl (cK rfl) (cK rfl) cd_B75 (by decide) (by decide +kernel) ?_
  refine q_dup C (by decide +kernel) ?_
  refine q_bipush C 16 (by decide) (by decide +kernel) ?_
  refine q_bipush C 10 (by decide) (by decide +kernel) ?_
  refine q_iast C 75 75 (v := 10) (i := 16) rfl (cK rfl) (cK rfl) cd_B75 (by decide) (by decide +kernel) ?_
  refine q_dup C (by decide +kernel) ?_
  refine q_bipush C 17 (by decide) (by decide +kernel) ?_
  refine q_bipush C 10 (by decide) (by decide +kernel) ?_
  refine q_iast C 75 75 (v := 10) (i := 17) rfl (cK rfl) (cK rfl) cd_B75 (by decide) (by decide +kernel) ?_
  refine q_dup C (by decide +kernel) ?_
  refine q_bipush C 18 (by decide) (by decide +kernel) ?_
  refine q_bipush C 10 (by decide) (by decide +kernel) ?_
  refine q_iast C 75 75 (v := 10) (i := 18) rfl (cK rfl) (cK rfl) cd_B75 (by decide) (by decide +kernel) ?_
  refine q_dup C (by decide +kernel) ?_
  refine q_bipush C 19 (by decide) (by decide +kernel) ?_
  refine q_bipush C 10 (by decide) (by decide +kernel) ?_
  refine q_iast C 75 75 (v := 10) (i := 19) rfl (cK rfl) (cK rfl) cd_B75 (by decide) (by decide +kernel) ?_
  refine q_dup C (by decide +kernel) ?_
  refine q_bipush C 20 (by decide) (by decide +kernel) ?_
  refine q_bipush C 10 (by decide) (by decide +kernel) ?_
  refine q_iast C 75 75 (v := 10) (i := 20) rfl (cK rfl) (cK rfl) cd_B75 (by decide) (by decide +kernel) ?_
  refine q_dup C (by decide +kernel) ?_
  refine q_bipush C 21 (by decide) (by decide +kernel) ?_
  refine q_bipush C 10 (by decide) (by decide +kernel) ?_
  refine q_iast C 75 75 (v := 10) (i := 21) rfl (cK rfl) (cK rfl) cd_B75 (by decide) (by decide +kernel) ?_
  refine q_dup C (by decide +kernel) ?_
  refine q_bipush C 22 (by decide) (by decide +kernel) ?_
  refine q_bipush C 10 (by decide) (by decide +kernel) ?_
  refine q_iast C 75 75 (v := 10) (i := 22) rfl (cK rfl) (cK rfl) cd_B75 (by decide) (by decide +kernel) ?_
  refine q_dup C (by decide +kernel) ?_
  refine q_bipush C 23 (by decide) (by decide +kernel) ?_
  refine q_bipush C 10 (by decide) (by decide +kernel) ?_
  refine q_iast C 75 75 (v := 10) (i := 23) rfl (cK rfl) (cK rfl) cd_B75 (by decide) (by decide +kernel) ?_
  refine q_dup C (by decide +kernel) ?_
  refine q_bipush C 24 (by decide) (by decide +kernel) ?_
  refine q_bipush C 10 (by decide) (by decide +kernel) ?_
  refine q_iast C 75 75 (v := 10) (i := 24) rfl (cK rfl) (cK rfl) cd_B75 (by decide) (by decide +kernel) ?_
  refine q_dup C (by decide +kernel) ?_
  refine q_bipush C 25 (by decide) (by decide +kernel) ?_
  refine q_bipush C 10 (by decide) (by decide +kernel) ?_
  refine q_iast C 75 75 (v := 10) (i := 25) rfl (cK rfl) (cK rfl) cd_B75 (by decide) (by decide +kernel) ?_
  refine q_dup C (by decide +kernel) ?_
  refine q_bipush C 26 (by decide) (by decide +kernel) ?_
  refine q_bipush C 10 (by decide) (by decide +kernel) ?_
  refine q_iast C 75 75 (v := 10) (i := 26) rfl (cK rfl) (cK rfl) cd_B75 (by decide) (by decide +kernel) ?_
  refine q_dup C (by decide +kernel) ?_
  refine q_bipush C 27 (by decide) (by decide +kernel) ?_
  refine q_bipush C 10 (by decide) (by decide +kernel) ?_
  refine q_iast C 75 75 (v := 10) (i := 27) rfl (cK rfl) (cK rfl) cd_B75 (by decide) (by decide +kernel) ?_
  refine q_dup C (by decide +kernel) ?_
  refine q_bipush C 28 (by decide) (by decide +kernel) ?_
  refine q_bipush C 10 (by decide) (by decide +kernel) ?_
  refine q_iast C 75 75 (v := 10) (i := 28) rfl (cK rfl) (cK rfl) cd_B75 (by decide) (by decide +kernel) ?_
  refine q_dup C (by decide +kernel) ?_
  refine q_bipush C 29 (by decide) (by decide +kernel) ?_
  refine q_bipush C 10 (by decide) (by decide +kernel) ?_
  refine q_iast C 75 75 (v := 10) (i := 29) rfl (cK rfl) (cK rfl) cd_B75 (by decide) (by decide +kernel) ?_
  refine q_dup C (by decide +kernel) ?_
  refine q_bipush C 30 (by decide) (by decide +kernel) ?_
  refine q_bipush C 10 (by decide) (by decide +kernel) ?_
  refine q_iast C 75 75 (v := 10) (i := 30) rfl (cK rfl) (cK rfl) cd_B75 (by decide) (by decide +kernel) ?_
  refine q_dup C (by decide +kernel) ?_
  refine q_bipush C 31 (by decide) (by decide +kernel) ?_
  refine q_bipush C 10 (by decide) (by decide +kernel) ?_
  refine q_iast C 75 75 (v := 10) (i := 31) rfl (cK rfl) (cK rfl) cd_B75 (by decide) (by decide +kernel) ?_
  refine q_dup C (by decide +kernel) ?_
  refine q_bipush C 32 (by decide) (by decide +kernel) ?_
  refine q_bipush C 10 (by decide) (by decide +kernel) ?_
  refine q_iast C 75 75 (v := 10) (i := 32) rfl (cK rfl) (cK rfl) cd_B75 (by decide) (by decide +kernel) ?_
  refine q_dup C (by decide +kernel) ?_
  refine q_bipush C 33 (by decide) (by decide +kernel) ?_
  refine q_bipush C 10 (by decide) (by decide +kernel) ?_
  refine q_iast C 75 75 (v := 10) (i := 33) rfl (cK rfl) (cK rfl) cd_B75 (by decide) (by decide +kernel) ?_
  refine q_dup C (by decide +kernel) ?_
  refine q_bipush C 34 (by decide) (by decide +kernel) ?_
  refine q_bipush C 10 (by decide) (by decide +kernel) ?_
  refine q_iast C 75 75 (v := 10) (i := 34) rfl (cK rfl) (cK rfl) cd_B75 (by decide) (by decide +kernel) ?_
  refine q_dup C (by decide +kernel) ?_
  refine q_bipush C 35 (by decide) (by decide +kernel) ?_
  refine q_bipush C 10 (by decide) (by decide +kernel) ?_
  refine q_iast C 75 75 (v := 10) (i := 35) rfl (cK rfl) (cK rfl) cd_B75 (by decide) (by decide +kernel) ?_
  refine q_dup C (by decide +kernel) ?_
  refine q_bipush C 36 (by decide) (by decide +kernel) ?_
  refine q_bipush C 10 (by decide) (by decide +kernel) ?_
  refine q_iast C 75 75 (v := 10) (i := 36) rfl (cK rfl) (cK rfl) cd_B75 (by decide) (by decide +kernel) ?_
  refine q_dup C (by decide +kernel) ?_
  refine q_bipush C 37 (by decide) (by decide +kernel) ?_
  refine q_bipush C 10 (by decide) (by decide +kernel) ?_
  refine q_iast C 75 75 (v := 10) (i := 37) rfl (cK rfl) (cK rfl) cd_B75 (by decide) (by decide +kernel) ?_
  refine q_dup C (by decide +kernel) ?_
  refine q_bipush C 38 (by decide) (by decide +kernel) ?_
  refine q_bipush C 10 (by decide) (by decide +kernel) ?_
  refine q_iast C 75 75 (v := 10) (i := 38) rfl (cK rfl) (cK rfl) cd_B75 (by decide) (by decide +kernel) ?_
  refine q_dup C (by decide +kernel) ?_
  refine q_bipush C 39 (by decide) (by decide +kernel) ?_
  refine q_bipush C 10 (by decide) (by decide +kernel) ?_
  refine q_iast C 75 75 (v := 10) (i := 39) rfl (cK rfl) (cK rfl) cd_B75 (by decide) (by decide +kernel) ?_
  refine q_dup C (by decide +kernel) ?_
  refine q_bipush C 40 (by decide) (by decide +kernel) ?_
  refine q_bipush C 10 (by decide) (by decide +kernel) ?_
  refine q_iast C 75 75 (v := 10) (i := 40) rfl (cK rfl) (cK rfl) cd_B75 (by decide) (by decide +kernel) ?_
  refine q_dup C (by decide +kernel) ?_
  refine q_bipush C 41 (by decide) (by decide +kernel) ?_
  refine q_bipush C 10 (by decide) (by decide +kernel) ?_
  refine q_iast C 75 75 (v := 10) (i := 41) rfl (cK rfl) (cK rfl) cd_B75 (by decide) (by decide +kernel) ?_
  refine q_dup C (by decide +kernel) ?_
  refine q_bipush C 42 (by decide) (by decide +kernel) ?_
  refine q_bipush C 10 (by decide) (by decide +kernel) ?_
  refine q_iast C 75 75 (v := 10) (i := 42) rfl (cK rfl) (cK rfl) cd_B75 (by decide) (by decide +kernel) ?_
  refine q_dup C (by decide +kernel) ?_
  refine q_bipush C 43 (by decide) (by decide +kernel) ?_
  refine q_bipush C 10 (by decide) (by decide +kernel) ?_
  refine q_iast C 75 75 (v := 10) (i := 43) rfl (cK rfl) (cK rfl) cd_B75 (by decide) (by decide +kernel) ?_
  refine q_dup C (by decide +kernel) ?_
  refine q_bipush C 44 (by decide) (by decide +kernel) ?_
  refine q_bipush C 10 (by decide) (by decide +kernel) ?_
  refine q_iast C 75 75 (v := 10) (i := 44) rfl (cK rfl) (cK rfl) cd_B75 (by decide) (by decide +kernel) ?_
  refine q_dup C (by decide +kernel) ?_
  refine q_bipush C 45 (by decide) (by decide +kernel) ?_
  refine q_bipush C 10 (by decide) (by decide +kernel) ?_
  refine q_iast C 75 75 (v := 10) (i := 45) rfl (cK rfl) (cK rfl) cd_B75 (by decide) (by decide +kernel) ?_
  refine q_dup C (by decide +kernel) ?_
  refine q_bipush C 46 (by decide) (by decide +kernel) ?_
  refine q_bipush C 10 (by decide) (by decide +kernel) ?_
  refine q_iast C 75 75 (v := 10) (i := 46) rfl (cK rfl) (cK rfl) cd_B75 (by decide) (by decide +kernel) ?_
  refine q_dup C (by decide +kernel) ?_
  refine q_bipush C 47 (by decide) (by decide +kernel) ?_
  refine q_bipush C 10 (by decide) (by decide +kernel) ?_
  refine q_iast C 75 75 (v := 10) (i := 47) rfl (cK rfl) (cK rfl) cd_B75 (by decide) (by decide +kernel) ?_
  refine q_dup C (by decide +kernel) ?_
  refine q_bipush C 48 (by decide) (by decide +kernel) ?_
  refine q_bipush C 10 (by decide) (by decide +kernel) ?_
  refine q_iast C 75 75 (v := 10) (i := 48) rfl (cK rfl) (cK rfl) cd_B75 (by decide) (by decide +kernel) ?_
  refine q_putR C cl12 0 0 102 75 rfl cd_B0 ⟨by decide, rfl, by decide⟩ (by decide) (by decide) (ix := 248) lk_1504 rfl hinit rfl (fun _ => rfl) (fun _ => rfl) (by decide +kernel) ?_
  refine q_aload_n C 0 (x := 0) rfl (by decide +kernel) ?_
  refine q_bipush C 7 (by decide) (by decide +kernel) ?_
  refine q_newaI C 76 cd_B76 (by decide) (by decide) (fun j => hz 76 (by decide) (by decide) j) (okl_of (by decide +kernel)) (okl_of (by decide +kernel)) (by decide) rfl (cK rfl) lk_50 (by decide) ⟨Nat.le_of_ble_eq_true rfl, Nat.le_of_ble_eq_true rfl⟩ (by decide +kernel) ?_
  refine q_ks (ks2 := [0, 1, 2, 3, 4, 5, 6, 7, 8, 9, 10, 11, 12, 13, 14, 15, 16, 17, 18, 19, 20, 21, 22, 23, 24, 25, 26, 27, 28, 29, 30, 31, 32, 33, 34, 35, 36, 37, 38, 39, 40, 41, 42, 43, 44, 45, 46, 47, 48, 49, 50, 51, 52, 53, 54, 55, 56, 57, 58, 59, 60, 61, 62, 63, 64, 65, 66, 67, 68, 69, 70, 71, 72, 73, 74, 75, 76]) rfl ?_
  refine q_putR C cl12 0 0 103 76 rfl cd_B0 ⟨by decide, rfl, by decide⟩ (by decide) (by decide) (ix := 251) lk_1505 rfl hinit rfl (fun _ => rfl) (fun _ => rfl) (by decide +kernel) ?_
  refine q_aload_n C 0 (x := 0) rfl (by decide +kernel) ?_
  refine q_sipush C 896 (by decide) (by decide +kernel) ?_
  refine q_newaI C 77 cd_B77 (by decide) (by decide) (fun j => hz 77 (by decide) (by decide) j) (okl_of (by decide +kernel)) (okl_of (by decide +kernel)) (by decide) rfl (cK rfl) lk_50 (by decide) ⟨Nat.le_of_ble_eq_true rfl, Nat.le_of_ble_eq_true rfl⟩ (by decide +kernel) ?_
  refine q_ks (ks2 := [0, 1, 2, 3, 4, 5, 6, 7, 8, 9, 10, 11, 12, 13, 14, 15, 16, 17, 18, 19, 20, 21, 22, 23, 24, 25, 26, 27, 28, 29, 30, 31, 32, 33, 34, 35, 36, 37, 38, 39, 40, 41, 42, 43, 44, 45, 46, 47, 48, 49, 50, 51, 52, 53, 54, 55, 56, 57, 58, 59, 60, 61, 62, 63, 64, 65, 66, 67, 68, 69, 70, 71, 72, 73, 74, 75, 76, 77]) rfl ?_
  refine q_putR C cl12 0 0 104 77 rfl cd_B0 ⟨by decide, rfl, by decide⟩ (by decide) (by decide) (ix := 254) lk_1506 rfl hinit rfl (fun _ => rfl) (fun _ => rfl) (by decide +kernel) ?_
  refine q_aload_n C 0 (x := 0) rfl (by decide +kernel) ?_
  refine q_sipush C 128 (by decide) (by decide +kernel) ?_
  refine q_newaI C 78 cd_B78 (by decide) (by decide) (fun j => hz 78 (by decide) (by decide) j) (okl_of (by decide +kernel)) (okl_of (by decide +kernel)) (by decide) rfl (cK rfl) lk_50 (by decide) ⟨Nat.le_of_ble_eq_true rfl, Nat.le_of_ble_eq_true rfl⟩ (by decide +kernel) ?_
  refine q_ks (ks2 := [0, 1, 2, 3, 4, 5, 6, 7, 8, 9, 10, 11, 12, 13, 14, 15, 16, 17, 18, 19, 20, 21, 22, 23, 24, 25, 26, 27, 28, 29, 30, 31, 32, 33, 34, 35, 36, 37, 38, 39, 40, 41, 42, 43, 44, 45, 46, 47, 48, 49, 50, 51, 52, 53, 54, 55, 56, 57, 58, 59, 60, 61, 62, 63, 64, 65, 66, 67, 68, 69, 70, 71, 72, 73, 74, 75, 76, 77, 78]) rfl ?_
  refine q_putR C cl12 0 0 105 78 rfl cd_B0 ⟨by decide, rfl, by decide⟩ (by decide) (by decide) (ix := 257) lk_1507 rfl hinit rfl (fun _ => rfl) (fun _ => rfl) (by decide +kernel) ?_
  refine q_aload_n C 0 (x := 0) rfl (by decide +kernel) ?_
  refine q_sipush C 128 (by decide) (by decide +kernel) ?_
  refine q_newaI C 79 cd_B79 (by decide) (by decide) (fun j => hz 79 (by decide) (by decide) j) (okl_of (by decide +kernel)) (okl_of (by decide +kernel)) (by decide) rfl (cK rfl) lk_50 (by decide) ⟨Nat.le_of_ble_eq_true rfl, Nat.le_of_ble_eq_true rfl⟩ (by decide +kernel) ?_
  refine q_ks (ks2 := [0, 1, 2, 3, 4, 5, 6, 7, 8, 9, 10, 11, 12, 13, 14, 15, 16, 17, 18, 19, 20, 21, 22, 23, 24, 25, 26, 27, 28, 29, 30, 31, 32, 33, 34, 35, 36, 37, 38, 39, 40, 41, 42, 43, 44, 45, 46, 47, 48, 49, 50, 51, 52, 53, 54, 55, 56, 57, 58, 59, 60, 61, 62, 63, 64, 65, 66, 67, 68, 69, 70, 71, 72, 73, 74, 75, 76, 77, 78, 79]) rfl ?_
  refine q_putR C cl12 0 0 106 79 rfl cd_B0 ⟨by decide, rfl, by decide⟩ (by decide) (by decide) (ix := 260) lk_1508 rfl hinit rfl (fun _ => rfl) (fun _ => rfl) (by decide +kernel) ?_
  refine q_aload_n C 0 (x := 0) rfl (by decide +kernel) ?_
  refine q_sipush C 128 (by decide) (by decide +kernel) ?_
  refine q_newaI C 80 cd_B80 (by decide) (by decide) (fun j => hz 80 (by decide) (by decide) j) (okl_of (by decide +kernel)) (okl_of (by decide +kernel)) (by decide) rfl (cK rfl) lk_50 (by decide) ⟨Nat.le_of_ble_eq_true rfl, Nat.le_of_ble_eq_true rfl⟩ (by decide +kernel) ?_
  refine q_ks (ks2 := [0, 1, 2, 3, 4, 5, 6, 7, 8, 9, 10, 11, 12, 13, 14, 15, 16, 17, 18, 19, 20, 21, 22, 23, 24, 25, 26, 27, 28, 29, 30, 31, 32, 33, 34, 35, 36, 37, 38, 39, 40, 41, 42, 43, 44, 45, 46, 47, 48, 49, 50, 51, 52, 53, 54, 55, 56, 57, 58, 59, 60, 61, 62, 63, 64, 65, 66, 67, 68, 69, 70, 71, 72, 73, 74, 75, 76, 77, 78, 79, 80]) rfl ?_
  refine q_putR C cl12 0 0 107 80 rfl cd_B0 ⟨by decide, rfl, by decide⟩ (by decide) (by decide) (ix := 263) lk_1509 rfl hinit rfl (fun _ => rfl) (fun _ => rfl) (by decide +kernel) ?_
  refine q_aload_n C 0 (x := 0) rfl (by decide +kernel) ?_
  refine q_iconst C (-1) (by decide +kernel) ?_
  refine q_putI C cl12 0 0 108 rfl cd_B0 ⟨by decide, rfl, by decide⟩ (by decide) (ix := 266) lk_1510 rfl rfl rfl (by decide +kernel) ?_
  exact q_vret C hlk hr (by decide +kernel)
