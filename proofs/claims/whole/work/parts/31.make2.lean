theorem okl_n {E ks : List Nat} : okl E ks [] := fun _ h => absurd h List.not_mem_nil
theorem okl_b {E ks : List Nat} {b : Nat} (h : b ∈ ks) : okl E ks [(2, (b : Int))] := fun v hv _ => by rw [List.mem_singleton.mp hv]; exact Or.inr (Or.inl (by rw [show ((b : Int)).toNat = b from Int.toNat_natCast b]; exact h))
theorem h3_n : ∀ v ∈ ([] : List AV), v.1 < 3 := fun _ h => absurd h List.not_mem_nil
theorem h3_b {x : Int} : ∀ v ∈ ([(2, x)] : List AV), v.1 < 3 := fun v hv => by rw [List.mem_singleton.mp hv]; show 2 < 3; decide
theorem cd_S79 : cd 0 79 = (9, 10) := rfl
theorem cd_S80 : cd 0 80 = (21, 20) := rfl
theorem cd_S81 : cd 0 81 = (21, 20) := rfl
theorem cd_S82 : cd 0 82 = (20, 20) := rfl
theorem cd_S83 : cd 0 83 = (20, 20) := rfl
theorem cd_S84 : cd 0 84 = (20, 20) := rfl
theorem cd_S85 : cd 0 85 = (20, 600) := rfl
/-! Arrays.fill of ints, as data -/
theorem lpF_FU {σ ρ : Type} {f : σ → Option (σ ⊕ ρ)} (I : σ → Prop) (μ : σ → Nat) (P : ρ → Prop) (step : ∀ s, I s → (∃ s', f s = some (.inl s') ∧ I s' ∧ μ s' < μ s) ∨ ∃ r, f s = some (.inr r) ∧ P r) (s : σ) (hI : I s) (hm : μ s < 1000000) : ∃ r, lpF f FU s = some r ∧ P r := lpF_rule I μ P step FU s hI hm
theorem fillI_run (arr len : Nat) (v : Int) (d : Dt) (hl : len < 100000) : ∃ d', L_Ar_fill_aII arr len v d = some (0, d') ∧ (∀ k, k ≠ arr → d' k = d k) ∧ ∀ j, d' arr j = if j < len then v else d arr j := by
  obtain ⟨r, h1, h2, h3⟩ := lpF_FU (f := fun q : Int × Int × Int × Dt => L_Ar_fill_aII_y5 arr len q.1 q.2.1 q.2.2.1 q.2.2.2)
    (fun q => q.1 = v ∧ 0 ≤ q.2.1 ∧ q.2.1 ≤ len ∧ q.2.2.1 = len ∧ (∀ k, k ≠ arr → q.2.2.2 k = d k) ∧ ∀ j : Nat, q.2.2.2 arr j = if (j : Int) < q.2.1 then v else d arr j)
    (fun q => ((len : Int) - q.2.1).toNat)
    (fun r => (∀ k, k ≠ arr → r k = d k) ∧ ∀ j, r arr j = if j < len then v else d arr j)
    (by
      rintro ⟨x1, x2, x3, e⟩ ⟨i1, i2, i3, i4, i5, i6⟩
      dsimp only at i1 i2 i3 i4 i5 i6 ⊢
      subst i1
      subst i4
      unfold L_Ar_fill_aII_y5
      by_cases h : x2 < (len : Int)
      · left
        have hw : w32 (x2 + 1) = x2 + 1 := w32_id (by unfold c32; omega)
        rw [if_pos h, ck_pos ⟨i2, h⟩]
        refine ⟨_, rfl, ⟨rfl, by dsimp only; rw [hw]; omega, by dsimp only; rw [hw]; omega, rfl, fun k hk => ?_, fun j => ?_⟩, by dsimp only; rw [hw]; omega⟩
        · dsimp only
          rw [up2_K _ _ _ hk]; exact i5 k hk
        · dsimp only
          rw [hw]
          by_cases hj : j = x2.toNat
          · subst hj
            rw [up2_s, if_pos (by omega)]
          · rw [up2_j _ _ _ hj, i6 j]
            by_cases h2 : (j : Int) < x2
            · rw [if_pos h2, if_pos (by omega)]
            · rw [if_neg h2, if_neg (by omega)]
      · right
        rw [if_neg h]
        refine ⟨_, rfl, i5, fun j => ?_⟩
        rw [i6 j]
        have hx : x2 = (len : Int) := by omega
        subst hx
        by_cases h2 : j < len
        · rw [if_pos (by omega), if_pos h2]
        · rw [if_neg (by omega), if_neg h2])
    (v, 0, (len : Int), d) ⟨rfl, (show (0 : Int) ≤ 0 by decide), by dsimp only; omega, rfl, fun _ _ => rfl, fun j => by dsimp only; rw [if_neg (by omega)]⟩ (by dsimp only; omega)
  refine ⟨r, ?_, h2, h3⟩
  unfold L_Ar_fill_aII
  rw [ck_pos hl]
  show lb (L_Ar_fill_aII_l5 arr len v 0 (len : Int) d) (fun q => u0 q (fun d9 => some (0, d9))) = some (0, r)
  unfold L_Ar_fill_aII_l5
  rw [h1]
  rfl
theorem fill_run (wf N : Nat) (v : Int) (hw : wf = 2 ∧ N = 4 ∨ wf = 3 ∧ N = 49) (hv : c32 v) (f : Nat → Int) (hf : ∀ j, f j = 0) : ∃ d2 d2p : Dt, d2 0 = f ∧ CN wf d2 ∧ L_Ar_fill_aII 0 N v d2 = some (0, d2p) ∧ d2p 0 = fun j => if j < N then v else f j := by
  obtain ⟨d', h1, h2, h3⟩ := fillI_run 0 N v (fun q => if q = 0 then f else fun _ => 0) (by omega)
  refine ⟨_, d', rfl, ⟨fun k j => ?_, ?_⟩, h1, ?_⟩
  · have hz : (if k = 0 then f else fun _ => (0 : Int)) j = 0 := by
      by_cases hk : k = 0
      · rw [if_pos hk]; exact hf j
      · rw [if_neg hk]
    show cnk (cd wf k) j ((if k = 0 then f else fun _ => (0 : Int)) j)
    rw [hz]
    have hcb : cb 0 := Or.inl rfl
    have h32 : c32 0 := cK rfl
    have h64 : c64 0 := cL rfl
    unfold cnk
    split
    · exact h32
    · exact h64
    · decide
    · exact hcb
    · trivial
    · split
      · exact h32
      · exact h64
      · exact hcb
      · trivial
  · rw [if_neg (by decide)]; decide
  · funext j
    rw [h3 j]
    rfl
/-! PollBooks$Statute.<init> -/
def y_St_init : MethodName := ⟨"PollBooks$Statute", "<init>", "()V"⟩
def rm_St_init : Room := { frames := 1, cells := 6, slots := 700, locals := 20 }
theorem mw_St_init : MW y_St_init prog_11_method_1_code 1 none 0 := ⟨lk_149, lk_7, by decide +kernel⟩
def F_St_init (b k : Nat) : Bool := decide (b < k ∧ k < b + 7)
def mk_St_init (b : Nat) (d : Dt) : Dt := (up2 (up2 (up2 (up2 (up2 (up2 d b 4 ((b + 1) : Nat)) b 5 ((b + 2) : Nat)) b 6 ((b + 3) : Nat)) b 7 ((b + 4) : Nat)) b 8 ((b + 5) : Nat)) b 9 ((b + 6) : Nat))
theorem mk_St_init_out (b : Nat) (d : Dt) (k : Nat) (hk : k < b ∨ b + 7 ≤ k) : mk_St_init b d k = d k := by
  unfold mk_St_init
  rw [up2_K _ _ _ (by omega)]
  rw [up2_K _ _ _ (by omega)]
  rw [up2_K _ _ _ (by omega)]
  rw [up2_K _ _ _ (by omega)]
  rw [up2_K _ _ _ (by omega)]
  rw [up2_K _ _ _ (by omega)]
set_option maxHeartbeats 4000000 in
theorem ok_St_init {l : Launch} (b : Nat) (h0 : cd 0 b = (9, 10)) (h1 : cd 0 (b + 1) = (21, 20)) (h2 : cd 0 (b + 2) = (21, 20)) (h3 : cd 0 (b + 3) = (20, 20)) (h4 : cd 0 (b + 4) = (20, 20)) (h5 : cd 0 (b + 5) = (20, 20)) (h6 : cd 0 (b + 6) = (20, 600)) (d : Dt) (hz : ∀ o, o < 7 → ∀ j, d (b + o) j = dzv 0 (b + o) j) : KC l y_St_init prog_11_method_1_code 1 rm_St_init 0 (F_St_init b) [] b [b, (b + 1), (b + 2), (b + 3), (b + 4), (b + 5), (b + 6)] 6 700 [] d (mk_St_init b d) := by
  refine KC.of (by decide) rfl (Nat.le_of_ble_eq_true rfl) (fun x hx => absurd hx List.not_mem_nil) (fun q hq j hj => by rw [List.mem_singleton.mp hq] at hj ⊢; have h9 := hz 0 (by decide) j; rw [Nat.add_zero] at h9; rw [h9]; unfold dzv; rw [if_pos hj]; exact Or.inl (by decide)) ?_
  intro p e s m args below meth c D cA ad0 A C hinit hlk hr
  replace C : Cq p s m args meth c prog_11_method_1_code 1 "PollBooks$Statute" D cA (F_St_init b) [] A := C
  show Gq p l e rm_St_init s m args below meth c 0 0 _ 1 D cA ad0 0 (F_St_init b) [] A [b] 0 [(2, (b : Int))] [] d
  unfold mk_St_init
  refine q_aload_n C 0 (x := b) rfl (by decide +kernel) ?_
  refine q_objInit C (ix := 1) lk_150 lk_28 lk_29 ⟨Nat.le_of_ble_eq_true rfl, Nat.le_of_ble_eq_true rfl⟩ (by decide +kernel) ?_
  refine q_aload_n C 0 (x := b) rfl (by decide +kernel) ?_
  refine q_bipush C 20 (by decide) (by decide +kernel) ?_
  refine q_newaJ C (b + 1) h1 (by simp [F_St_init]) (by simp) (fun j => by skip; exact hz 1 (by decide) j) (okl_b (by simp)) (okl_b (by simp)) (h3_b) rfl (cK rfl) lk_49 (by decide) ⟨Nat.le_of_ble_eq_true rfl, Nat.le_of_ble_eq_true rfl⟩ (by decide +kernel) ?_
  refine q_ks (ks2 := [b, (b + 1)]) rfl ?_
  refine q_putR C cl9 b 0 4 (b + 1) rfl h0 ⟨by decide, rfl, by decide⟩ (by decide) (Or.inl (by simp)) (ix := 9) lk_161 rfl hinit rfl (fun _ => rfl) (fun _ => rfl) (by decide +kernel) ?_
  refine q_aload_n C 0 (x := b) rfl (by decide +kernel) ?_
  refine q_bipush C 20 (by decide) (by decide +kernel) ?_
  refine q_newaJ C (b + 2) h2 (by simp [F_St_init]) (by simp) (fun j => by rw [up2_k _ _ _ _ (by omega)]; exact hz 2 (by decide) j) (okl_b (by simp)) (okl_b (by simp)) (h3_b) rfl (cK rfl) lk_49 (by decide) ⟨Nat.le_of_ble_eq_true rfl, Nat.le_of_ble_eq_true rfl⟩ (by decide +kernel) ?_
  refine q_ks (ks2 := [b, (b + 1), (b + 2)]) rfl ?_
  refine q_putR C cl9 b 0 5 (b + 2) rfl h0 ⟨by decide, rfl, by decide⟩ (by decide) (Or.inl (by simp)) (ix := 13) lk_163 rfl hinit rfl (fun _ => rfl) (fun _ => rfl) (by decide +kernel) ?_
  refine q_aload_n C 0 (x := b) rfl (by decide +kernel) ?_
  refine q_bipush C 20 (by decide) (by decide +kernel) ?_
  refine q_newaI C (b + 3) h3 (by simp [F_St_init]) (by simp) (fun j => by rw [up2_k _ _ _ _ (by omega)]; rw [up2_k _ _ _ _ (by omega)]; exact hz 3 (by decide) j) (okl_b (by simp)) (okl_b (by simp)) (h3_b) rfl (cK rfl) lk_50 (by decide) ⟨Nat.le_of_ble_eq_true rfl, Nat.le_of_ble_eq_true rfl⟩ (by decide +kernel) ?_
  refine q_ks (ks2 := [b, (b + 1), (b + 2), (b + 3)]) rfl ?_
  refine q_putR C cl9 b 0 6 (b + 3) rfl h0 ⟨by decide, rfl, by decide⟩ (by decide) (Or.inl (by simp)) (ix := 16) lk_165 rfl hinit rfl (fun _ => rfl) (fun _ => rfl) (by decide +kernel) ?_
  refine q_aload_n C 0 (x := b) rfl (by decide +kernel) ?_
  refine q_bipush C 20 (by decide) (by decide +kernel) ?_
  refine q_newaI C (b + 4) h4 (by simp [F_St_init]) (by simp) (fun j => by rw [up2_k _ _ _ _ (by omega)]; rw [up2_k _ _ _ _ (by omega)]; rw [up2_k _ _ _ _ (by omega)]; exact hz 4 (by decide) j) (okl_b (by simp)) (okl_b (by simp)) (h3_b) rfl (cK rfl) lk_50 (by decide) ⟨Nat.le_of_ble_eq_true rfl, Nat.le_of_ble_eq_true rfl⟩ (by decide +kernel) ?_
  refine q_ks (ks2 := [b, (b + 1), (b + 2), (b + 3), (b + 4)]) rfl ?_
  refine q_putR C cl9 b 0 7 (b + 4) rfl h0 ⟨by decide, rfl, by decide⟩ (by decide) (Or.inl (by simp)) (ix := 20) lk_167 rfl hinit rfl (fun _ => rfl) (fun _ => rfl) (by decide +kernel) ?_
  refine q_aload_n C 0 (x := b) rfl (by decide +kernel) ?_
  refine q_bipush C 20 (by decide) (by decide +kernel) ?_
  refine q_newaI C (b + 5) h5 (by simp [F_St_init]) (by simp) (fun j => by rw [up2_k _ _ _ _ (by omega)]; rw [up2_k _ _ _ _ (by omega)]; rw [up2_k _ _ _ _ (by omega)]; rw [up2_k _ _ _ _ (by omega)]; exact hz 5 (by decide) j) (okl_b (by simp)) (okl_b (by simp)) (h3_b) rfl (cK rfl) lk_50 (by decide) ⟨Nat.le_of_ble_eq_true rfl, Nat.le_of_ble_eq_true rfl⟩ (by decide +kernel) ?_
  refine q_ks (ks2 := [b, (b + 1), (b + 2), (b + 3), (b + 4), (b + 5)]) rfl ?_
  refine q_putR C cl9 b 0 8 (b + 5) rfl h0 ⟨by decide, rfl, by decide⟩ (by decide) (Or.inl (by simp)) (ix := 23) lk_169 rfl hinit rfl (fun _ => rfl) (fun _ => rfl) (by decide +kernel) ?_
  refine q_aload_n C 0 (x := b) rfl (by decide +kernel) ?_
  refine q_sipush C 600 (by decide) (by decide +kernel) ?_
  refine q_newaI C (b + 6) h6 (by simp [F_St_init]) (by simp) (fun j => by rw [up2_k _ _ _ _ (by omega)]; rw [up2_k _ _ _ _ (by omega)]; rw [up2_k _ _ _ _ (by omega)]; rw [up2_k _ _ _ _ (by omega)]; rw [up2_k _ _ _ _ (by omega)]; exact hz 6 (by decide) j) (okl_b (by simp)) (okl_b (by simp)) (h3_b) rfl (cK rfl) lk_50 (by decide) ⟨Nat.le_of_ble_eq_true rfl, Nat.le_of_ble_eq_true rfl⟩ (by decide +kernel) ?_
  refine q_ks (ks2 := [b, (b + 1), (b + 2), (b + 3), (b + 4), (b + 5), (b + 6)]) rfl ?_
  refine q_putR C cl9 b 0 9 (b + 6) rfl h0 ⟨by decide, rfl, by decide⟩ (by decide) (Or.inl (by simp)) (ix := 28) lk_171 rfl hinit rfl (fun _ => rfl) (fun _ => rfl) (by decide +kernel) ?_
  exact q_vret C hlk hr (by decide +kernel)
/-! PollBooks$People.<init> -/
def y_Pe_init : MethodName := ⟨"PollBooks$People", "<init>", "()V"⟩
def rm_Pe_init : Room := { frames := 1, cells := 3, slots := 120, locals := 20 }
theorem mw_Pe_init : MW y_Pe_init prog_7_method_1_code 1 none 0 := ⟨lk_55, lk_4, by decide +kernel⟩
def F_Pe_init (k : Nat) : Bool := decide (7 < k ∧ k < 11)
def mk_Pe_init (d : Dt) : Dt := (up2 (up2 (up2 d 7 0 8) 7 1 9) 7 2 10)
theorem mk_Pe_init_out (d : Dt) (k : Nat) (hk : k < 7 ∨ 11 ≤ k) : mk_Pe_init d k = d k := by
  unfold mk_Pe_init
  rw [up2_K _ _ _ (by omega)]
  rw [up2_K _ _ _ (by omega)]
  rw [up2_K _ _ _ (by omega)]
set_option maxHeartbeats 8000000 in
set_option maxRecDepth 100000 in
theorem ok_Pe_init {l : Launch} (d : Dt) (hz : ∀ k, 7 ≤ k → k < 11 → ∀ j, d k j = dzv 0 k j) : KC l y_Pe_init prog_7_method_1_code 1 rm_Pe_init 0 F_Pe_init [] 7 [7, 8, 9, 10] 3 120 [] d (mk_Pe_init d) := by
  refine KC.of (by decide) rfl (Nat.le_of_ble_eq_true rfl) (by decide) (fun q hq j hj => by rw [List.mem_singleton.mp hq] at hj ⊢; rw [hz 7 (by decide) (by decide) j]; unfold dzv; rw [if_pos hj]; exact Or.inl (by decide)) ?_
  intro p e s m args below meth c D cA ad0 A C hinit hlk hr
  replace C : Cq p s m args meth c prog_7_method_1_code 1 "PollBooks$People" D cA F_Pe_init [] A := C
  show Gq p l e rm_Pe_init s m args below meth c 0 0 _ 1 D cA ad0 0 F_Pe_init [] A [7] 0 [(2, 7)] [] d
  unfold mk_Pe_init
  refine q_aload_n C 0 (x := 7) rfl (by decide +kernel) ?_
  refine q_objInit C (ix := 1) lk_56 lk_28 lk_29 ⟨Nat.le_of_ble_eq_true rfl, Nat.le_of_ble_eq_true rfl⟩ (by decide +kernel) ?_
  refine q_aload_n C 0 (x := 7) rfl (by decide +kernel) ?_
  refine q_bipush C 40 (by decide) (by decide +kernel) ?_
  refine q_newaJ C 8 cd_A8 (by decide) (by decide) (fun j => hz 8 (by decide) (by decide) j) (okl_of (by decide +kernel)) (okl_of (by decide +kernel)) (by decide) rfl (cK rfl) lk_49 (by decide) ⟨Nat.le_of_ble_eq_true rfl, Nat.le_of_ble_eq_true rfl⟩ (by decide +kernel) ?_
  refine q_ks (ks2 := [7, 8]) rfl ?_
  refine q_putR C cl5 7 0 0 8 rfl cd_A7 ⟨by decide, rfl, by decide⟩ (by decide) (by decide) (ix := 9) lk_57 rfl hinit rfl (fun _ => rfl) (fun _ => rfl) (by decide +kernel) ?_
  refine q_aload_n C 0 (x := 7) rfl (by decide +kernel) ?_
  refine q_bipush C 40 (by decide) (by decide +kernel) ?_
  refine q_newaI C 9 cd_A9 (by decide) (by decide) (fun j => hz 9 (by decide) (by decide) j) (okl_of (by decide +kernel)) (okl_of (by decide +kernel)) (by decide) rfl (cK rfl) lk_50 (by decide) ⟨Nat.le_of_ble_eq_true rfl, Nat.le_of_ble_eq_true rfl⟩ (by decide +kernel) ?_
  refine q_ks (ks2 := [7, 8, 9]) rfl ?_
  refine q_putR C cl5 7 0 1 9 rfl cd_A7 ⟨by decide, rfl, by decide⟩ (by decide) (by decide) (ix := 13) lk_59 rfl hinit rfl (fun _ => rfl) (fun _ => rfl) (by decide +kernel) ?_
  refine q_aload_n C 0 (x := 7) rfl (by decide +kernel) ?_
  refine q_bipush C 40 (by decide) (by decide +kernel) ?_
  refine q_newaI C 10 cd_A10 (by decide) (by decide) (fun j => hz 10 (by decide) (by decide) j) (okl_of (by decide +kernel)) (okl_of (by decide +kernel)) (by decide) rfl (cK rfl) lk_50 (by decide) ⟨Nat.le_of_ble_eq_true rfl, Nat.le_of_ble_eq_true rfl⟩ (by decide +kernel) ?_
  refine q_ks (ks2 := [7, 8, 9, 10]) rfl ?_
  refine q_putR C cl5 7 0 2 10 rfl cd_A7 ⟨by decide, rfl, by decide⟩ (by decide) (by decide) (ix := 17) lk_62 rfl hinit rfl (fun _ => rfl) (fun _ => rfl) (by decide +kernel) ?_
  exact q_vret C hlk hr (by decide +kernel)
/-! PollBooks$Records.<init> -/
def y_Re_init : MethodName := ⟨"PollBooks$Records", "<init>", "(LPollBooks$People;)V"⟩
def rm_Re_init : Room := { frames := 1, cells := 13, slots := 810, locals := 20 }
theorem mw_Re_init : MW y_Re_init prog_9_method_1_code 2 none 1 := ⟨lk_79, lk_5, by decide +kernel⟩
def F_Re_init (k : Nat) : Bool := decide (11 < k ∧ k < 25)
def mk_Re_init (d : Dt) : Dt := (up2 (up2 (up2 (up2 (up2 (up2 (up2 (up2 (up2 (up2 (up2 (up2 (up2 (up2 (up2 d 11 1 9999) 11 3 12) 11 4 13) 11 5 14) 11 6 15) 11 7 16) 11 8 17) 11 10 18) 11 11 19) 11 12 20) 11 14 21) 11 15 22) 11 16 23) 11 17 24) 11 0 7)
theorem mk_Re_init_out (d : Dt) (k : Nat) (hk : k < 11 ∨ 25 ≤ k) : mk_Re_init d k = d k := by
  unfold mk_Re_init
  rw [up2_K _ _ _ (by omega)]
  rw [up2_K _ _ _ (by omega)]
  rw [up2_K _ _ _ (by omega)]
  rw [up2_K _ _ _ (by omega)]
  rw [up2_K _ _ _ (by omega)]
  rw [up2_K _ _ _ (by omega)]
  rw [up2_K _ _ _ (by omega)]
  rw [up2_K _ _ _ (by omega)]
  rw [up2_K _ _ _ (by omega)]
  rw [up2_K _ _ _ (by omega)]
  rw [up2_K _ _ _ (by omega)]
  rw [up2_K _ _ _ (by omega)]
  rw [up2_K _ _ _ (by omega)]
  rw [up2_K _ _ _ (by omega)]
  rw [up2_K _ _ _ (by omega)]
set_option maxHeartbeats 8000000 in
set_option maxRecDepth 100000 in
theorem ok_Re_init {l : Launch} (d : Dt) (hz : ∀ k, 11 ≤ k → k < 25 → ∀ j, d k j = dzv 0 k j) : KC l y_Re_init prog_9_method_1_code 2 rm_Re_init 0 F_Re_init [7] 11 [11, 12, 13, 14, 15, 16, 17, 18, 19, 20, 21, 22, 23, 24] 13 810 [(2, 7)] d (mk_Re_init d) := by
  refine KC.of (by decide) rfl (Nat.le_of_ble_eq_true rfl) (by decide) (fun q hq j hj => by rw [List.mem_singleton.mp hq] at hj ⊢; rw [hz 11 (by decide) (by decide) j]; unfold dzv; rw [if_pos hj]; exact Or.inl (by decide)) ?_
  intro p e s m args below meth c D cA ad0 A C hinit hlk hr
  replace C : Cq p s m args meth c prog_9_method_1_code 2 "PollBooks$Records" D cA F_Re_init [7] A := C
  show Gq p l e rm_Re_init s m args below meth c 0 0 _ 2 D cA ad0 0 F_Re_init [7] A [11] 0 [(2, 11), (2, 7)] [] d
  unfold mk_Re_init
  refine q_aload_n C 0 (x := 11) rfl (by decide +kernel) ?_
  refine q_objInit C (ix := 3) lk_80 lk_28 lk_29 ⟨Nat.le_of_ble_eq_true rfl, Nat.le_of_ble_eq_true rfl⟩ (by decide +kernel) ?_
  refine q_aload_n C 0 (x := 11) rfl (by decide +kernel) ?_
  refine q_sipush C 9999 (by decide) (by decide +kernel) ?_
  refine q_putI C cl7 11 0 1 rfl cd_A11 ⟨by decide, rfl, by decide⟩ (by decide) (ix := 9) lk_82 rfl rfl rfl (by decide +kernel) ?_
  refine q_aload_n C 0 (x := 11) rfl (by decide +kernel) ?_
  refine q_bipush C 80 (by decide) (by decide +kernel) ?_
  refine q_newaI C 12 cd_A12 (by decide) (by decide) (fun j => hz 12 (by decide) (by decide) j) (okl_of (by decide +kernel)) (okl_of (by decide +kernel)) (by decide) rfl (cK rfl) lk_50 (by decide) ⟨Nat.le_of_ble_eq_true rfl, Nat.le_of_ble_eq_true rfl⟩ (by decide +kernel) ?_
  refine q_ks (ks2 := [11, 12]) rfl ?_
  refine q_putR C cl7 11 0 3 12 rfl cd_A11 ⟨by decide, rfl, by decide⟩ (by decide) (by decide) (ix := 15) lk_84 rfl hinit rfl (fun _ => rfl) (fun _ => rfl) (by decide +kernel) ?_
  refine q_aload_n C 0 (x := 11) rfl (by decide +kernel) ?_
  refine q_bipush C 80 (by decide) (by decide +kernel) ?_
  refine q_newaI C 13 cd_A13 (by decide) (by decide) (fun j => hz 13 (by decide) (by decide) j) (okl_of (by decide +kernel)) (okl_of (by decide +kernel)) (by decide) rfl (cK rfl) lk_50 (by decide) ⟨Nat.le_of_ble_eq_true rfl, Nat.le_of_ble_eq_true rfl⟩ (by decide +kernel) ?_
  refine q_ks (ks2 := [11, 12, 13]) rfl ?_
  refine q_putR C cl7 11 0 4 13 rfl cd_A11 ⟨by decide, rfl, by decide⟩ (by decide) (by decide) (ix := 19) lk_85 rfl hinit rfl (fun _ => rfl) (fun _ => rfl) (by decide +kernel) ?_
  refine q_aload_n C 0 (x := 11) rfl (by decide +kernel) ?_
  refine q_bipush C 80 (by decide) (by decide +kernel) ?_
  refine q_newaI C 14 cd_A14 (by decide) (by decide) (fun j => hz 14 (by decide) (by decide) j) (okl_of (by decide +kernel)) (okl_of (by decide +kernel)) (by decide) rfl (cK rfl) lk_50 (by decide) ⟨Nat.le_of_ble_eq_true rfl, Nat.le_of_ble_eq_true rfl⟩ (by decide +kernel) ?_
  refine q_ks (ks2 := [11, 12, 13, 14]) rfl ?_
  refine q_putR C cl7 11 0 5 14 rfl cd_A11 ⟨by decide, rfl, by decide⟩ (by decide) (by decide) (ix := 22) lk_86 rfl hinit rfl (fun _ => rfl) (fun _ => rfl) (by decide +kernel) ?_
  refine q_aload_n C 0 (x := 11) rfl (by decide +kernel) ?_
  refine q_bipush C 80 (by decide) (by decide +kernel) ?_
  refine q_newaI C 15 cd_A15 (by decide) (by decide) (fun j => hz 15 (by decide) (by decide) j) (okl_of (by decide +kernel)) (okl_of (by decide +kernel)) (by decide) rfl (cK rfl) lk_50 (by decide) ⟨Nat.le_of_ble_eq_true rfl, Nat.le_of_ble_eq_true rfl⟩ (by decide +kernel) ?_
  refine q_ks (ks2 := [11, 12, 13, 14, 15]) rfl ?_
  refine q_putR C cl7 11 0 6 15 rfl cd_A11 ⟨by decide, rfl, by decide⟩ (by decide) (by decide) (ix := 25) lk_87 rfl hinit rfl (fun _ => rfl) (fun _ => rfl) (by decide +kernel) ?_
  refine q_aload_n C 0 (x := 11) rfl (by decide +kernel) ?_
  refine q_bipush C 80 (by decide) (by decide +kernel) ?_
  refine q_newaI C 16 cd_A16 (by decide) (by decide) (fun j => hz 16 (by decide) (by decide) j) (okl_of (by decide +kernel)) (okl_of (by decide +kernel)) (by decide) rfl (cK rfl) lk_50 (by decide) ⟨Nat.le_of_ble_eq_true rfl, Nat.le_of_ble_eq_true rfl⟩ (by decide +kernel) ?_
  refine q_ks (ks2 := [11, 12, 13, 14, 15, 16]) rfl ?_
  refine q_putR C cl7 11 0 7 16 rfl cd_A11 ⟨by decide, rfl, by decide⟩ (by decide) (by decide) (ix := 28) lk_88 rfl hinit rfl (fun _ => rfl) (fun _ => rfl) (by decide +kernel) ?_
  refine q_aload_n C 0 (x := 11) rfl (by decide +kernel) ?_
  refine q_bipush C 80 (by decide) (by decide +kernel) ?_
  refine q_newaI C 17 cd_A17 (by decide) (by decide) (fun j => hz 17 (by decide) (by decide) j) (okl_of (by decide +kernel)) (okl_of (by decide +kernel)) (by decide) rfl (cK rfl) lk_50 (by decide) ⟨Nat.le_of_ble_eq_true rfl, Nat.le_of_ble_eq_true rfl⟩ (by decide +kernel) ?_
  refine q_ks (ks2 := [11, 12, 13, 14, 15, 16, 17]) rfl ?_
  refine q_putR C cl7 11 0 8 17 rfl cd_A11 ⟨by decide, rfl, by decide⟩ (by decide) (by decide) (ix := 31) lk_89 rfl hinit rfl (fun _ => rfl) (fun _ => rfl) (by decide +kernel) ?_
  refine q_aload_n C 0 (x := 11) rfl (by decide +kernel) ?_
  refine q_bipush C 30 (by decide) (by decide +kernel) ?_
  refine q_newaI C 18 cd_A18 (by decide) (by decide) (fun j => hz 18 (by decide) (by decide) j) (okl_of (by decide +kernel)) (okl_of (by decide +kernel)) (by decide) rfl (cK rfl) lk_50 (by decide) ⟨Nat.le_of_ble_eq_true rfl, Nat.le_of_ble_eq_true rfl⟩ (by decide +kernel) ?_
  refine q_ks (ks2 := [11, 12, 13, 14, 15, 16, 17, 18]) rfl ?_
  refine q_putR C cl7 11 0 10 18 rfl cd_A11 ⟨by decide, rfl, by decide⟩ (by decide) (by decide) (ix := 34) lk_91 rfl hinit rfl (fun _ => rfl) (fun _ => rfl) (by decide +kernel) ?_
  refine q_aload_n C 0 (x := 11) rfl (by decide +kernel) ?_
  refine q_bipush C 30 (by decide) (by decide +kernel) ?_
  refine q_newaI C 19 cd_A19 (by decide) (by decide) (fun j => hz 19 (by decide) (by decide) j) (okl_of (by decide +kernel)) (okl_of (by decide +kernel)) (by decide) rfl (cK rfl) lk_50 (by decide) ⟨Nat.le_of_ble_eq_true rfl, Nat.le_of_ble_eq_true rfl⟩ (by decide +kernel) ?_
  refine q_ks (ks2 := [11, 12, 13, 14, 15, 16, 17, 18, 19]) rfl ?_
  refine q_putR C cl7 11 0 11 19 rfl cd_A11 ⟨by decide, rfl, by decide⟩ (by decide) (by decide) (ix := 37) lk_92 rfl hinit rfl (fun _ => rfl) (fun _ => rfl) (by decide +kernel) ?_
  refine q_aload_n C 0 (x := 11) rfl (by decide +kernel) ?_
  refine q_bipush C 30 (by decide) (by decide +kernel) ?_
  refine q_newaI C 20 cd_A20 (by decide) (by decide) (fun j => hz 20 (by decide) (by decide) j) (okl_of (by decide +kernel)) (okl_of (by decide +kernel)) (by decide) rfl (cK rfl) lk_50 (by decide) ⟨Nat.le_of_ble_eq_true rfl, Nat.le_of_ble_eq_true rfl⟩ (by decide +kernel) ?_
  refine q_ks (ks2 := [11, 12, 13, 14, 15, 16, 17, 18, 19, 20]) rfl ?_
  refine q_putR C cl7 11 0 12 20 rfl cd_A11 ⟨by decide, rfl, by decide⟩ (by decide) (by decide) (ix := 40) lk_93 rfl hinit rfl (fun _ => rfl) (fun _ => rfl) (by decide +kernel) ?_
  refine q_aload_n C 0 (x := 11) rfl (by decide +kernel) ?_
  refine q_bipush C 60 (by decide) (by decide +kernel) ?_
  refine q_newaI C 21 cd_A21 (by decide) (by decide) (fun j => hz 21 (by decide) (by decide) j) (okl_of (by decide +kernel)) (okl_of (by decide +kernel)) (by decide) rfl (cK rfl) lk_50 (by decide) ⟨Nat.le_of_ble_eq_true rfl, Nat.le_of_ble_eq_true rfl⟩ (by decide +kernel) ?_
  refine q_ks (ks2 := [11, 12, 13, 14, 15, 16, 17, 18, 19, 20, 21]) rfl ?_
  refine q_putR C cl7 11 0 14 21 rfl cd_A11 ⟨by decide, rfl, by decide⟩ (by decide) (by decide) (ix := 43) lk_95 rfl hinit rfl (fun _ => rfl) (fun _ => rfl) (by decide +kernel) ?_
  refine q_aload_n C 0 (x := 11) rfl (by decide +kernel) ?_
  refine q_bipush C 60 (by decide) (by decide +kernel) ?_
  refine q_newaI C 22 cd_A22 (by decide) (by decide) (fun j => hz 22 (by decide) (by decide) j) (okl_of (by decide +kernel)) (okl_of (by decide +kernel)) (by decide) rfl (cK rfl) lk_50 (by decide) ⟨Nat.le_of_ble_eq_true rfl, Nat.le_of_ble_eq_true rfl⟩ (by decide +kernel) ?_
  refine q_ks (ks2 := [11, 12, 13, 14, 15, 16, 17, 18, 19, 20, 21, 22]) rfl ?_
  refine q_putR C cl7 11 0 15 22 rfl cd_A11 ⟨by decide, rfl, by decide⟩ (by decide) (by decide) (ix := 46) lk_96 rfl hinit rfl (fun _ => rfl) (fun _ => rfl) (by decide +kernel) ?_
  refine q_aload_n C 0 (x := 11) rfl (by decide +kernel) ?_
  refine q_bipush C 60 (by decide) (by decide +kernel) ?_
  refine q_newaI C 23 cd_A23 (by decide) (by decide) (fun j => hz 23 (by decide) (by decide) j) (okl_of (by decide +kernel)) (okl_of (by decide +kernel)) (by decide) rfl (cK rfl) lk_50 (by decide) ⟨Nat.le_of_ble_eq_true rfl, Nat.le_of_ble_eq_true rfl⟩ (by decide +kernel) ?_
  refine q_ks (ks2 := [11, 12, 13, 14, 15, 16, 17, 18, 19, 20, 21, 22, 23]) rfl ?_
  refine q_putR C cl7 11 0 16 23 rfl cd_A11 ⟨by decide, rfl, by decide⟩ (by decide) (by decide) (ix := 49) lk_97 rfl hinit rfl (fun _ => rfl) (fun _ => rfl) (by decide +kernel) ?_
  refine q_aload_n C 0 (x := 11) rfl (by decide +kernel) ?_
  refine q_bipush C 60 (by decide) (by decide +kernel) ?_
  refine q_newaI C 24 cd_A24 (by decide) (by decide) (fun j => hz 24 (by decide) (by decide) j) (okl_of (by decide +kernel)) (okl_of (by decide +kernel)) (by decide) rfl (cK rfl) lk_50 (by decide) ⟨Nat.le_of_ble_eq_true rfl, Nat.le_of_ble_eq_true rfl⟩ (by decide +kernel) ?_
  refine q_ks (ks2 := [11, 12, 13, 14, 15, 16, 17, 18, 19, 20, 21, 22, 23, 24]) rfl ?_
  refine q_putR C cl7 11 0 17 24 rfl cd_A11 ⟨by decide, rfl, by decide⟩ (by decide) (by decide) (ix := 52) lk_98 rfl hinit rfl (fun _ => rfl) (fun _ => rfl) (by decide +kernel) ?_
  refine q_aload_n C 0 (x := 11) rfl (by decide +kernel) ?_
  refine q_aload_n C 1 (x := 7) rfl (by decide +kernel) ?_
  refine q_putR C cl7 11 0 0 7 rfl cd_A11 ⟨by decide, rfl, by decide⟩ (by decide) (by decide) (ix := 55) lk_81 rfl hinit rfl (fun _ => rfl) (fun _ => rfl) (by decide +kernel) ?_
  exact q_vret C hlk hr (by decide +kernel)
/-! PollBooks$Laws.<init> -/
def y_La_init : MethodName := ⟨"PollBooks$Laws", "<init>", "(LPollBooks$Records;)V"⟩
def rm_La_init : Room := { frames := 1, cells := 6, slots := 346, locals := 20 }
theorem mw_La_init : MW y_La_init prog_5_method_1_code 2 none 1 := ⟨lk_227, lk_8, by decide +kernel⟩
def F_La_init (k : Nat) : Bool := decide (30 < k ∧ k < 37)
def mk_La_init (d : Dt) : Dt := (up2 (up2 (up2 (up2 (up2 (up2 (up2 (up2 (up2 d 30 1 31) 30 3 32) 30 4 33) 30 5 34) 30 7 (-1)) 30 8 (-1)) 30 9 35) 30 10 36) 30 0 11)
theorem mk_La_init_out (d : Dt) (k : Nat) (hk : k < 30 ∨ 37 ≤ k) : mk_La_init d k = d k := by
  unfold mk_La_init
  rw [up2_K _ _ _ (by omega)]
  rw [up2_K _ _ _ (by omega)]
  rw [up2_K _ _ _ (by omega)]
  rw [up2_K _ _ _ (by omega)]
  rw [up2_K _ _ _ (by omega)]
  rw [up2_K _ _ _ (by omega)]
  rw [up2_K _ _ _ (by omega)]
  rw [up2_K _ _ _ (by omega)]
  rw [up2_K _ _ _ (by omega)]
set_option maxHeartbeats 8000000 in
set_option maxRecDepth 100000 in
theorem ok_La_init {l : Launch} (d : Dt) (hz : ∀ k, 30 ≤ k → k < 37 → ∀ j, d k j = dzv 0 k j) : KC l y_La_init prog_5_method_1_code 2 rm_La_init 0 F_La_init [11] 30 [30, 31, 32, 33, 34, 35, 36] 6 346 [(2, 11)] d (mk_La_init d) := by
  refine KC.of (by decide) rfl (Nat.le_of_ble_eq_true rfl) (by decide) (fun q hq j hj => by rw [List.mem_singleton.mp hq] at hj ⊢; rw [hz 30 (by decide) (by decide) j]; unfold dzv; rw [if_pos hj]; exact Or.inl (by decide)) ?_
  intro p e s m args below meth c D cA ad0 A C hinit hlk hr
  replace C : Cq p s m args meth c prog_5_method_1_code 2 "PollBooks$Laws" D cA F_La_init [11] A := C
  show Gq p l e rm_La_init s m args below meth c 0 0 _ 2 D cA ad0 0 F_La_init [11] A [30] 0 [(2, 30), (2, 11)] [] d
  unfold mk_La_init
  refine q_aload_n C 0 (x := 30) rfl (by decide +kernel) ?_
  refine q_objInit C (ix := 7) lk_228 lk_28 lk_29 ⟨Nat.le_of_ble_eq_true rfl, Nat.le_of_ble_eq_true rfl⟩ (by decide +kernel) ?_
  refine q_aload_n C 0 (x := 30) rfl (by decide +kernel) ?_
  refine q_iconst C 5 (by decide +kernel) ?_
  refine q_newaS C 31 cd_A31 (by decide) (by decide) (fun j => hz 31 (by decide) (by decide) j) (okl_of (by decide +kernel)) (okl_of (by decide +kernel)) (by decide) rfl (cK rfl) (ix := 3) lk_229 (by decide) ⟨Nat.le_of_ble_eq_true rfl, Nat.le_of_ble_eq_true rfl⟩ (by decide +kernel) ?_
  refine q_ks (ks2 := [30, 31]) rfl ?_
  refine q_putR C cl3 30 0 1 31 rfl cd_A30 ⟨by decide, rfl, by decide⟩ (by decide) (by decide) (ix := 13) lk_232 rfl hinit rfl (fun _ => rfl) (fun _ => rfl) (by decide +kernel) ?_
  refine q_aload_n C 0 (x := 30) rfl (by decide +kernel) ?_
  refine q_bipush C 100 (by decide) (by decide +kernel) ?_
  refine q_newaS C 32 cd_A32 (by decide) (by decide) (fun j => hz 32 (by decide) (by decide) j) (okl_of (by decide +kernel)) (okl_of (by decide +kernel)) (by decide) rfl (cK rfl) (ix := 3) lk_229 (by decide) ⟨Nat.le_of_ble_eq_true rfl, Nat.le_of_ble_eq_true rfl⟩ (by decide +kernel) ?_
  refine q_ks (ks2 := [30, 31, 32]) rfl ?_
  refine q_putR C cl3 30 0 3 32 rfl cd_A30 ⟨by decide, rfl, by decide⟩ (by decide) (by decide) (ix := 17) lk_234 rfl hinit rfl (fun _ => rfl) (fun _ => rfl) (by decide +kernel) ?_
  refine q_aload_n C 0 (x := 30) rfl (by decide +kernel) ?_
  refine q_bipush C 100 (by decide) (by decide +kernel) ?_
  refine q_newaI C 33 cd_A33 (by decide) (by decide) (fun j => hz 33 (by decide) (by decide) j) (okl_of (by decide +kernel)) (okl_of (by decide +kernel)) (by decide) rfl (cK rfl) lk_50 (by decide) ⟨Nat.le_of_ble_eq_true rfl, Nat.le_of_ble_eq_true rfl⟩ (by decide +kernel) ?_
  refine q_ks (ks2 := [30, 31, 32, 33]) rfl ?_
  refine q_putR C cl3 30 0 4 33 rfl cd_A30 ⟨by decide, rfl, by decide⟩ (by decide) (by decide) (ix := 20) lk_235 rfl hinit rfl (fun _ => rfl) (fun _ => rfl) (by decide +kernel) ?_
  refine q_aload_n C 0 (x := 30) rfl (by decide +kernel) ?_
  refine q_bipush C 100 (by decide) (by decide +kernel) ?_
  refine q_newaZ C 34 cd_A34 (by decide) (by decide) (fun j => hz 34 (by decide) (by decide) j) (okl_of (by decide +kernel)) (okl_of (by decide +kernel)) (by decide) rfl (cK rfl) lk_265 (by decide) ⟨Nat.le_of_ble_eq_true rfl, Nat.le_of_ble_eq_true rfl⟩ (by decide +kernel) ?_
  refine q_ks (ks2 := [30, 31, 32, 33, 34]) rfl ?_
  refine q_putR C cl3 30 0 5 34 rfl cd_A30 ⟨by decide, rfl, by decide⟩ (by decide) (by decide) (ix := 24) lk_236 rfl hinit rfl (fun _ => rfl) (fun _ => rfl) (by decide +kernel) ?_
  refine q_aload_n C 0 (x := 30) rfl (by decide +kernel) ?_
  refine q_iconst C (-1) (by decide +kernel) ?_
  refine q_putI C cl3 30 0 7 rfl cd_A30 ⟨by decide, rfl, by decide⟩ (by decide) (ix := 28) lk_238 rfl rfl rfl (by decide +kernel) ?_
  refine q_aload_n C 0 (x := 30) rfl (by decide +kernel) ?_
  refine q_iconst C (-1) (by decide +kernel) ?_
  refine q_putI C cl3 30 0 8 rfl cd_A30 ⟨by decide, rfl, by decide⟩ (by decide) (ix := 32) lk_239 rfl rfl rfl (by decide +kernel) ?_
  refine q_aload_n C 0 (x := 30) rfl (by decide +kernel) ?_
  refine q_bipush C 9 (by decide) (by decide +kernel) ?_
  refine q_newaJ C 35 cd_A35 (by decide) (by decide) (fun j => hz 35 (by decide) (by decide) j) (okl_of (by decide +kernel)) (okl_of (by decide +kernel)) (by decide) rfl (cK rfl) lk_49 (by decide) ⟨Nat.le_of_ble_eq_true rfl, Nat.le_of_ble_eq_true rfl⟩ (by decide +kernel) ?_
  refine q_ks (ks2 := [30, 31, 32, 33, 34, 35]) rfl ?_
  refine q_putR C cl3 30 0 9 35 rfl cd_A30 ⟨by decide, rfl, by decide⟩ (by decide) (by decide) (ix := 35) lk_240 rfl hinit rfl (fun _ => rfl) (fun _ => rfl) (by decide +kernel) ?_
  refine q_aload_n C 0 (x := 30) rfl (by decide +kernel) ?_
  refine q_bipush C 32 (by decide) (by decide +kernel) ?_
  refine q_newaJ C 36 cd_A36 (by decide) (by decide) (fun j => hz 36 (by decide) (by decide) j) (okl_of (by decide +kernel)) (okl_of (by decide +kernel)) (by decide) rfl (cK rfl) lk_49 (by decide) ⟨Nat.le_of_ble_eq_true rfl, Nat.le_of_ble_eq_true rfl⟩ (by decide +kernel) ?_
  refine q_ks (ks2 := [30, 31, 32, 33, 34, 35, 36]) rfl ?_
  refine q_putR C cl3 30 0 10 36 rfl cd_A30 ⟨by decide, rfl, by decide⟩ (by decide) (by decide) (ix := 39) lk_241 rfl hinit rfl (fun _ => rfl) (fun _ => rfl) (by decide +kernel) ?_
  refine q_aload_n C 0 (x := 30) rfl (by decide +kernel) ?_
  refine q_aload_n C 1 (x := 11) rfl (by decide +kernel) ?_
  refine q_putR C cl3 30 0 0 11 rfl cd_A30 ⟨by decide, rfl, by decide⟩ (by decide) (by decide) (ix := 42) lk_231 rfl hinit rfl (fun _ => rfl) (fun _ => rfl) (by decide +kernel) ?_
  exact q_vret C hlk hr (by decide +kernel)
/-! PollBooks$Books.<init> -/
def y_Bo_init : MethodName := ⟨"PollBooks$Books", "<init>", "()V"⟩
def rm_Bo_init : Room := { frames := 1, cells := 11, slots := 3256, locals := 20 }
theorem mw_Bo_init : MW y_Bo_init prog_2_method_1_code 1 none 0 := ⟨lk_270, lk_9, by decide +kernel⟩
def F_Bo_init (k : Nat) : Bool := decide (37 < k ∧ k < 49)
def mk_Bo_init (d : Dt) : Dt := (up2 (up2 (up2 (up2 (up2 (up2 (up2 (up2 (up2 (up2 (up2 (up2 d 37 0 38) 37 1 39) 37 2 40) 37 3 41) 37 4 42) 37 5 43) 37 6 44) 37 7 45) 37 8 46) 37 9 47) 37 10 1) 37 11 48)
theorem mk_Bo_init_out (d : Dt) (k : Nat) (hk : k < 37 ∨ 49 ≤ k) : mk_Bo_init d k = d k := by
  unfold mk_Bo_init
  rw [up2_K _ _ _ (by omega)]
  rw [up2_K _ _ _ (by omega)]
  rw [up2_K _ _ _ (by omega)]
  rw [up2_K _ _ _ (by omega)]
  rw [up2_K _ _ _ (by omega)]
  rw [up2_K _ _ _ (by omega)]
  rw [up2_K _ _ _ (by omega)]
  rw [up2_K _ _ _ (by omega)]
  rw [up2_K _ _ _ (by omega)]
  rw [up2_K _ _ _ (by omega)]
  rw [up2_K _ _ _ (by omega)]
  rw [up2_K _ _ _ (by omega)]
set_option maxHeartbeats 8000000 in
set_option maxRecDepth 100000 in
theorem ok_Bo_init {l : Launch} (d : Dt) (hz : ∀ k, 37 ≤ k → k < 49 → ∀ j, d k j = dzv 0 k j) : KC l y_Bo_init prog_2_method_1_code 1 rm_Bo_init 0 F_Bo_init [] 37 [37, 38, 39, 40, 41, 42, 43, 44, 45, 46, 47, 48] 11 3256 [] d (mk_Bo_init d) := by
  refine KC.of (by decide) rfl (Nat.le_of_ble_eq_true rfl) (by decide) (fun q hq j hj => by rw [List.mem_singleton.mp hq] at hj ⊢; rw [hz 37 (by decide) (by decide) j]; unfold dzv; rw [if_pos hj]; exact Or.inl (by decide)) ?_
  intro p e s m args below meth c D cA ad0 A C hinit hlk hr
  replace C : Cq p s m args meth c prog_2_method_1_code 1 "PollBooks$Books" D cA F_Bo_init [] A := C
  show Gq p l e rm_Bo_init s m args below meth c 0 0 _ 1 D cA ad0 0 F_Bo_init [] A [37] 0 [(2, 37)] [] d
  unfold mk_Bo_init
  refine q_aload_n C 0 (x := 37) rfl (by decide +kernel) ?_
  refine q_objInit C (ix := 5) lk_271 lk_28 lk_29 ⟨Nat.le_of_ble_eq_true rfl, Nat.le_of_ble_eq_true rfl⟩ (by decide +kernel) ?_
  refine q_aload_n C 0 (x := 37) rfl (by decide +kernel) ?_
  refine q_bipush C 90 (by decide) (by decide +kernel) ?_
  refine q_newaJ C 38 cd_A38 (by decide) (by decide) (fun j => hz 38 (by decide) (by decide) j) (okl_of (by decide +kernel)) (okl_of (by decide +kernel)) (by decide) rfl (cK rfl) lk_49 (by decide) ⟨Nat.le_of_ble_eq_true rfl, Nat.le_of_ble_eq_true rfl⟩ (by decide +kernel) ?_
  refine q_ks (ks2 := [37, 38]) rfl ?_
  refine q_putR C cl0 37 0 0 38 rfl cd_A37 ⟨by decide, rfl, by decide⟩ (by decide) (by decide) (ix := 11) lk_272 rfl hinit rfl (fun _ => rfl) (fun _ => rfl) (by decide +kernel) ?_
  refine q_aload_n C 0 (x := 37) rfl (by decide +kernel) ?_
  refine q_bipush C 90 (by decide) (by decide +kernel) ?_
  refine q_newaI C 39 cd_A39 (by decide) (by decide) (fun j => hz 39 (by decide) (by decide) j) (okl_of (by decide +kernel)) (okl_of (by decide +kernel)) (by decide) rfl (cK rfl) lk_50 (by decide) ⟨Nat.le_of_ble_eq_true rfl, Nat.le_of_ble_eq_true rfl⟩ (by decide +kernel) ?_
  refine q_ks (ks2 := [37, 38, 39]) rfl ?_
  refine q_putR C cl0 37 0 1 39 rfl cd_A37 ⟨by decide, rfl, by decide⟩ (by decide) (by decide) (ix := 15) lk_274 rfl hinit rfl (fun _ => rfl) (fun _ => rfl) (by decide +kernel) ?_
  refine q_aload_n C 0 (x := 37) rfl (by decide +kernel) ?_
  refine q_bipush C 90 (by decide) (by decide +kernel) ?_
  refine q_newaI C 40 cd_A40 (by decide) (by decide) (fun j => hz 40 (by decide) (by decide) j) (okl_of (by decide +kernel)) (okl_of (by decide +kernel)) (by decide) rfl (cK rfl) lk_50 (by decide) ⟨Nat.le_of_ble_eq_true rfl, Nat.le_of_ble_eq_true rfl⟩ (by decide +kernel) ?_
  refine q_ks (ks2 := [37, 38, 39, 40]) rfl ?_
  refine q_putR C cl0 37 0 2 40 rfl cd_A37 ⟨by decide, rfl, by decide⟩ (by decide) (by decide) (ix := 19) lk_276 rfl hinit rfl (fun _ => rfl) (fun _ => rfl) (by decide +kernel) ?_
  refine q_aload_n C 0 (x := 37) rfl (by decide +kernel) ?_
  refine q_bipush C 90 (by decide) (by decide +kernel) ?_
  refine q_newaI C 41 cd_A41 (by decide) (by decide) (fun j => hz 41 (by decide) (by decide) j) (okl_of (by decide +kernel)) (okl_of (by decide +kernel)) (by decide) rfl (cK rfl) lk_50 (by decide) ⟨Nat.le_of_ble_eq_true rfl, Nat.le_of_ble_eq_true rfl⟩ (by decide +kernel) ?_
  refine q_ks (ks2 := [37, 38, 39, 40, 41]) rfl ?_
  refine q_putR C cl0 37 0 3 41 rfl cd_A37 ⟨by decide, rfl, by decide⟩ (by decide) (by decide) (ix := 22) lk_278 rfl hinit rfl (fun _ => rfl) (fun _ => rfl) (by decide +kernel) ?_
  refine q_aload_n C 0 (x := 37) rfl (by decide +kernel) ?_
  refine q_iconst C 3 (by decide +kernel) ?_
  refine q_newaI C 42 cd_A42 (by decide) (by decide) (fun j => hz 42 (by decide) (by decide) j) (okl_of (by decide +kernel)) (okl_of (by decide +kernel)) (by decide) rfl (cK rfl) lk_50 (by decide) ⟨Nat.le_of_ble_eq_true rfl, Nat.le_of_ble_eq_true rfl⟩ (by decide +kernel) ?_
  refine q_ks (ks2 := [37, 38, 39, 40, 41, 42]) rfl ?_
  refine q_putR C cl0 37 0 4 42 rfl cd_A37 ⟨by decide, rfl, by decide⟩ (by decide) (by decide) (ix := 25) lk_279 rfl hinit rfl (fun _ => rfl) (fun _ => rfl) (by decide +kernel) ?_
  refine q_aload_n C 0 (x := 37) rfl (by decide +kernel) ?_
  refine q_sipush C 1800 (by decide) (by decide +kernel) ?_
  refine q_newaI C 43 cd_A43 (by decide) (by decide) (fun j => hz 43 (by decide) (by decide) j) (okl_of (by decide +kernel)) (okl_of (by decide +kernel)) (by decide) rfl (cK rfl) lk_50 (by decide) ⟨Nat.le_of_ble_eq_true rfl, Nat.le_of_ble_eq_true rfl⟩ (by decide +kernel) ?_
  refine q_ks (ks2 := [37, 38, 39, 40, 41, 42, 43]) rfl ?_
  refine q_putR C cl0 37 0 5 43 rfl cd_A37 ⟨by decide, rfl, by decide⟩ (by decide) (by decide) (ix := 28) lk_281 rfl hinit rfl (fun _ => rfl) (fun _ => rfl) (by decide +kernel) ?_
  refine q_aload_n C 0 (x := 37) rfl (by decide +kernel) ?_
  refine q_sipush C 961 (by decide) (by decide +kernel) ?_
  refine q_newaI C 44 cd_A44 (by decide) (by decide) (fun j => hz 44 (by decide) (by decide) j) (okl_of (by decide +kernel)) (okl_of (by decide +kernel)) (by decide) rfl (cK rfl) lk_50 (by decide) ⟨Nat.le_of_ble_eq_true rfl, Nat.le_of_ble_eq_true rfl⟩ (by decide +kernel) ?_
  refine q_ks (ks2 := [37, 38, 39, 40, 41, 42, 43, 44]) rfl ?_
  refine q_putR C cl0 37 0 6 44 rfl cd_A37 ⟨by decide, rfl, by decide⟩ (by decide) (by decide) (ix := 31) lk_282 rfl hinit rfl (fun _ => rfl) (fun _ => rfl) (by decide +kernel) ?_
  refine q_aload_n C 0 (x := 37) rfl (by decide +kernel) ?_
  refine q_iconst C 3 (by decide +kernel) ?_
  refine q_newaI C 45 cd_A45 (by decide) (by decide) (fun j => hz 45 (by decide) (by decide) j) (okl_of (by decide +kernel)) (okl_of (by decide +kernel)) (by decide) rfl (cK rfl) lk_50 (by decide) ⟨Nat.le_of_ble_eq_true rfl, Nat.le_of_ble_eq_true rfl⟩ (by decide +kernel) ?_
  refine q_ks (ks2 := [37, 38, 39, 40, 41, 42, 43, 44, 45]) rfl ?_
  refine q_putR C cl0 37 0 7 45 rfl cd_A37 ⟨by decide, rfl, by decide⟩ (by decide) (by decide) (ix := 34) lk_283 rfl hinit rfl (fun _ => rfl) (fun _ => rfl) (by decide +kernel) ?_
  refine q_aload_n C 0 (x := 37) rfl (by decide +kernel) ?_
  refine q_bipush C 90 (by decide) (by decide +kernel) ?_
  refine q_newaI C 46 cd_A46 (by decide) (by decide) (fun j => hz 46 (by decide) (by decide) j) (okl_of (by decide +kernel)) (okl_of (by decide +kernel)) (by decide) rfl (cK rfl) lk_50 (by decide) ⟨Nat.le_of_ble_eq_true rfl, Nat.le_of_ble_eq_true rfl⟩ (by decide +kernel) ?_
  refine q_ks (ks2 := [37, 38, 39, 40, 41, 42, 43, 44, 45, 46]) rfl ?_
  refine q_putR C cl0 37 0 8 46 rfl cd_A37 ⟨by decide, rfl, by decide⟩ (by decide) (by decide) (ix := 37) lk_284 rfl hinit rfl (fun _ => rfl) (fun _ => rfl) (by decide +kernel) ?_
  refine q_aload_n C 0 (x := 37) rfl (by decide +kernel) ?_
  refine q_bipush C 30 (by decide) (by decide +kernel) ?_
  refine q_newaI C 47 cd_A47 (by decide) (by decide) (fun j => hz 47 (by decide) (by decide) j) (okl_of (by decide +kernel)) (okl_of (by decide +kernel)) (by decide) rfl (cK rfl) lk_50 (by decide) ⟨Nat.le_of_ble_eq_true rfl, Nat.le_of_ble_eq_true rfl⟩ (by decide +kernel) ?_
  refine q_ks (ks2 := [37, 38, 39, 40, 41, 42, 43, 44, 45, 46, 47]) rfl ?_
  refine q_putR C cl0 37 0 9 47 rfl cd_A37 ⟨by decide, rfl, by decide⟩ (by decide) (by decide) (ix := 40) lk_285 rfl hinit rfl (fun _ => rfl) (fun _ => rfl) (by decide +kernel) ?_
  refine q_aload_n C 0 (x := 37) rfl (by decide +kernel) ?_
  refine q_iconst C 1 (by decide +kernel) ?_
  refine q_putI C cl0 37 0 10 rfl cd_A37 ⟨by decide, rfl, by decide⟩ (by decide) (ix := 43) lk_286 rfl rfl rfl (by decide +kernel) ?_
  refine q_aload_n C 0 (x := 37) rfl (by decide +kernel) ?_
  refine q_bipush C 9 (by decide) (by decide +kernel) ?_
  refine q_newaI C 48 cd_A48 (by decide) (by decide) (fun j => hz 48 (by decide) (by decide) j) (okl_of (by decide +kernel)) (okl_of (by decide +kernel)) (by decide) rfl (cK rfl) lk_50 (by decide) ⟨Nat.le_of_ble_eq_true rfl, Nat.le_of_ble_eq_true rfl⟩ (by decide +kernel) ?_
  refine q_ks (ks2 := [37, 38, 39, 40, 41, 42, 43, 44, 45, 46, 47, 48]) rfl ?_
  refine q_putR C cl0 37 0 11 48 rfl cd_A37 ⟨by decide, rfl, by decide⟩ (by decide) (by decide) (ix := 47) lk_287 rfl hinit rfl (fun _ => rfl) (fun _ => rfl) (by decide +kernel) ?_
  exact q_vret C hlk hr (by decide +kernel)
/-! PollBooks$Poll.<init> -/
def y_Po_init : MethodName := ⟨"PollBooks$Poll", "<init>", "(LPollBooks$People;LPollBooks$Books;LPollBooks$Laws;)V"⟩
def rm_Po_init : Room := { frames := 1, cells := 8, slots := 163, locals := 20 }
theorem mw_Po_init : MW y_Po_init prog_8_method_1_code 4 none 3 := ⟨lk_317, lk_10, by decide +kernel⟩
def F_Po_init (k : Nat) : Bool := decide (49 < k ∧ k < 58)
def mk_Po_init (d : Dt) : Dt := (up2 (up2 (up2 (up2 (up2 (up2 (up2 (up2 (up2 (up2 (up2 (up2 d 49 3 6) 49 4 50) 49 5 51) 49 6 52) 49 7 53) 49 8 54) 49 9 55) 49 10 56) 49 12 57) 49 0 7) 49 1 37) 49 2 30)
theorem mk_Po_init_out (d : Dt) (k : Nat) (hk : k < 49 ∨ 58 ≤ k) : mk_Po_init d k = d k := by
  unfold mk_Po_init
  rw [up2_K _ _ _ (by omega)]
  rw [up2_K _ _ _ (by omega)]
  rw [up2_K _ _ _ (by omega)]
  rw [up2_K _ _ _ (by omega)]
  rw [up2_K _ _ _ (by omega)]
  rw [up2_K _ _ _ (by omega)]
  rw [up2_K _ _ _ (by omega)]
  rw [up2_K _ _ _ (by omega)]
  rw [up2_K _ _ _ (by omega)]
  rw [up2_K _ _ _ (by omega)]
  rw [up2_K _ _ _ (by omega)]
  rw [up2_K _ _ _ (by omega)]
set_option maxHeartbeats 8000000 in
set_option maxRecDepth 100000 in
theorem ok_Po_init {l : Launch} (d : Dt) (hz : ∀ k, 49 ≤ k → k < 58 → ∀ j, d k j = dzv 0 k j) : KC l y_Po_init prog_8_method_1_code 4 rm_Po_init 0 F_Po_init [7, 37, 30] 49 [49, 50, 51, 52, 53, 54, 55, 56, 57] 8 163 [(2, 7), (2, 37), (2, 30)] d (mk_Po_init d) := by
  refine KC.of (by decide) rfl (Nat.le_of_ble_eq_true rfl) (by decide) (fun q hq j hj => by rw [List.mem_singleton.mp hq] at hj ⊢; rw [hz 49 (by decide) (by decide) j]; unfold dzv; rw [if_pos hj]; exact Or.inl (by decide)) ?_
  intro p e s m args below meth c D cA ad0 A C hinit hlk hr
  replace C : Cq p s m args meth c prog_8_method_1_code 4 "PollBooks$Poll" D cA F_Po_init [7, 37, 30] A := C
  show Gq p l e rm_Po_init s m args below meth c 0 0 _ 4 D cA ad0 0 F_Po_init [7, 37, 30] A [49] 0 [(2, 49), (2, 7), (2, 37), (2, 30)] [] d
  unfold mk_Po_init
  refine q_aload_n C 0 (x := 49) rfl (by decide +kernel) ?_
  refine q_objInit C (ix := 3) lk_318 lk_28 lk_29 ⟨Nat.le_of_ble_eq_true rfl, Nat.le_of_ble_eq_true rfl⟩ (by decide +kernel) ?_
  refine q_aload_n C 0 (x := 49) rfl (by decide +kernel) ?_
  refine q_bipush C 6 (by decide) (by decide +kernel) ?_
  refine q_putI C cl6 49 0 3 rfl cd_A49 ⟨by decide, rfl, by decide⟩ (by decide) (ix := 11) lk_322 rfl rfl rfl (by decide +kernel) ?_
  refine q_aload_n C 0 (x := 49) rfl (by decide +kernel) ?_
  refine q_bipush C 30 (by decide) (by decide +kernel) ?_
  refine q_newaI C 50 cd_A50 (by decide) (by decide) (fun j => hz 50 (by decide) (by decide) j) (okl_of (by decide +kernel)) (okl_of (by decide +kernel)) (by decide) rfl (cK rfl) lk_50 (by decide) ⟨Nat.le_of_ble_eq_true rfl, Nat.le_of_ble_eq_true rfl⟩ (by decide +kernel) ?_
  refine q_ks (ks2 := [49, 50]) rfl ?_
  refine q_putR C cl6 49 0 4 50 rfl cd_A49 ⟨by decide, rfl, by decide⟩ (by decide) (by decide) (ix := 17) lk_323 rfl hinit rfl (fun _ => rfl) (fun _ => rfl) (by decide +kernel) ?_
  refine q_aload_n C 0 (x := 49) rfl (by decide +kernel) ?_
  refine q_bipush C 30 (by decide) (by decide +kernel) ?_
  refine q_newaI C 51 cd_A51 (by decide) (by decide) (fun j => hz 51 (by decide) (by decide) j) (okl_of (by decide +kernel)) (okl_of (by decide +kernel)) (by decide) rfl (cK rfl) lk_50 (by decide) ⟨Nat.le_of_ble_eq_true rfl, Nat.le_of_ble_eq_true rfl⟩ (by decide +kernel) ?_
  refine q_ks (ks2 := [49, 50, 51]) rfl ?_
  refine q_putR C cl6 49 0 5 51 rfl cd_A49 ⟨by decide, rfl, by decide⟩ (by decide) (by decide) (ix := 21) lk_324 rfl hinit rfl (fun _ => rfl) (fun _ => rfl) (by decide +kernel) ?_
  refine q_aload_n C 0 (x := 49) rfl (by decide +kernel) ?_
  refine q_bipush C 30 (by decide) (by decide +kernel) ?_
  refine q_newaZ C 52 cd_A52 (by decide) (by decide) (fun j => hz 52 (by decide) (by decide) j) (okl_of (by decide +kernel)) (okl_of (by decide +kernel)) (by decide) rfl (cK rfl) lk_265 (by decide) ⟨Nat.le_of_ble_eq_true rfl, Nat.le_of_ble_eq_true rfl⟩ (by decide +kernel) ?_
  refine q_ks (ks2 := [49, 50, 51, 52]) rfl ?_
  refine q_putR C cl6 49 0 6 52 rfl cd_A49 ⟨by decide, rfl, by decide⟩ (by decide) (by decide) (ix := 24) lk_325 rfl hinit rfl (fun _ => rfl) (fun _ => rfl) (by decide +kernel) ?_
  refine q_aload_n C 0 (x := 49) rfl (by decide +kernel) ?_
  refine q_bipush C 9 (by decide) (by decide +kernel) ?_
  refine q_newaI C 53 cd_A53 (by decide) (by decide) (fun j => hz 53 (by decide) (by decide) j) (okl_of (by decide +kernel)) (okl_of (by decide +kernel)) (by decide) rfl (cK rfl) lk_50 (by decide) ⟨Nat.le_of_ble_eq_true rfl, Nat.le_of_ble_eq_true rfl⟩ (by decide +kernel) ?_
  refine q_ks (ks2 := [49, 50, 51, 52, 53]) rfl ?_
  refine q_putR C cl6 49 0 7 53 rfl cd_A49 ⟨by decide, rfl, by decide⟩ (by decide) (by decide) (ix := 28) lk_326 rfl hinit rfl (fun _ => rfl) (fun _ => rfl) (by decide +kernel) ?_
  refine q_aload_n C 0 (x := 49) rfl (by decide +kernel) ?_
  refine q_bipush C 20 (by decide) (by decide +kernel) ?_
  refine q_newaI C 54 cd_A54 (by decide) (by decide) (fun j => hz 54 (by decide) (by decide) j) (okl_of (by decide +kernel)) (okl_of (by decide +kernel)) (by decide) rfl (cK rfl) lk_50 (by decide) ⟨Nat.le_of_ble_eq_true rfl, Nat.le_of_ble_eq_true rfl⟩ (by decide +kernel) ?_
  refine q_ks (ks2 := [49, 50, 51, 52, 53, 54]) rfl ?_
  refine q_putR C cl6 49 0 8 54 rfl cd_A49 ⟨by decide, rfl, by decide⟩ (by decide) (by decide) (ix := 31) lk_327 rfl hinit rfl (fun _ => rfl) (fun _ => rfl) (by decide +kernel) ?_
  refine q_aload_n C 0 (x := 49) rfl (by decide +kernel) ?_
  refine q_bipush C 20 (by decide) (by decide +kernel) ?_
  refine q_newaI C 55 cd_A55 (by decide) (by decide) (fun j => hz 55 (by decide) (by decide) j) (okl_of (by decide +kernel)) (okl_of (by decide +kernel)) (by decide) rfl (cK rfl) lk_50 (by decide) ⟨Nat.le_of_ble_eq_true rfl, Nat.le_of_ble_eq_true rfl⟩ (by decide +kernel) ?_
  refine q_ks (ks2 := [49, 50, 51, 52, 53, 54, 55]) rfl ?_
  refine q_putR C cl6 49 0 9 55 rfl cd_A49 ⟨by decide, rfl, by decide⟩ (by decide) (by decide) (ix := 34) lk_328 rfl hinit rfl (fun _ => rfl) (fun _ => rfl) (by decide +kernel) ?_
  refine q_aload_n C 0 (x := 49) rfl (by decide +kernel) ?_
  refine q_bipush C 20 (by decide) (by decide +kernel) ?_
  refine q_newaI C 56 cd_A56 (by decide) (by decide) (fun j => hz 56 (by decide) (by decide) j) (okl_of (by decide +kernel)) (okl_of (by decide +kernel)) (by decide) rfl (cK rfl) lk_50 (by decide) ⟨Nat.le_of_ble_eq_true rfl, Nat.le_of_ble_eq_true rfl⟩ (by decide +kernel) ?_
  refine q_ks (ks2 := [49, 50, 51, 52, 53, 54, 55, 56]) rfl ?_
  refine q_putR C cl6 49 0 10 56 rfl cd_A49 ⟨by decide, rfl, by decide⟩ (by decide) (by decide) (ix := 37) lk_329 rfl hinit rfl (fun _ => rfl) (fun _ => rfl) (by decide +kernel) ?_
  refine q_aload_n C 0 (x := 49) rfl (by decide +kernel) ?_
  refine q_iconst C 4 (by decide +kernel) ?_
  refine q_newaI C 57 cd_A57 (by decide) (by decide) (fun j => hz 57 (by decide) (by decide) j) (okl_of (by decide +kernel)) (okl_of (by decide +kernel)) (by decide) rfl (cK rfl) lk_50 (by decide) ⟨Nat.le_of_ble_eq_true rfl, Nat.le_of_ble_eq_true rfl⟩ (by decide +kernel) ?_
  refine q_ks (ks2 := [49, 50, 51, 52, 53, 54, 55, 56, 57]) rfl ?_
  refine q_putR C cl6 49 0 12 57 rfl cd_A49 ⟨by decide, rfl, by decide⟩ (by decide) (by decide) (ix := 40) lk_332 rfl hinit rfl (fun _ => rfl) (fun _ => rfl) (by decide +kernel) ?_
  refine q_aload_n C 0 (x := 49) rfl (by decide +kernel) ?_
  refine q_aload_n C 1 (x := 7) rfl (by decide +kernel) ?_
  refine q_putR C cl6 49 0 0 7 rfl cd_A49 ⟨by decide, rfl, by decide⟩ (by decide) (by decide) (ix := 43) lk_319 rfl hinit rfl (fun _ => rfl) (fun _ => rfl) (by decide +kernel) ?_
  refine q_aload_n C 0 (x := 49) rfl (by decide +kernel) ?_
  refine q_aload_n C 2 (x := 37) rfl (by decide +kernel) ?_
  refine q_putR C cl6 49 0 1 37 rfl cd_A49 ⟨by decide, rfl, by decide⟩ (by decide) (by decide) (ix := 47) lk_320 rfl hinit rfl (fun _ => rfl) (fun _ => rfl) (by decide +kernel) ?_
  refine q_aload_n C 0 (x := 49) rfl (by decide +kernel) ?_
  refine q_aload_n C 3 (x := 30) rfl (by decide +kernel) ?_
  refine q_putR C cl6 49 0 2 30 rfl cd_A49 ⟨by decide, rfl, by decide⟩ (by decide) (by decide) (ix := 51) lk_321 rfl hinit rfl (fun _ => rfl) (fun _ => rfl) (by decide +kernel) ?_
  exact q_vret C hlk hr (by decide +kernel)
/-! PollBooks$Grounds.<init> -/
def y_Gr_init : MethodName := ⟨"PollBooks$Grounds", "<init>", "(LPollBooks$Books;LPollBooks$Poll;)V"⟩
def rm_Gr_init : Room := { frames := 1, cells := 5, slots := 38, locals := 20 }
theorem mw_Gr_init : MW y_Gr_init prog_3_method_1_code 3 none 2 := ⟨lk_365, lk_11, by decide +kernel⟩
def F_Gr_init (k : Nat) : Bool := decide (58 < k ∧ k < 64)
def mk_Gr_init (d : Dt) : Dt := (up2 (up2 (up2 (up2 (up2 (up2 (up2 d 58 2 59) 58 3 60) 58 4 61) 58 6 62) 58 7 63) 58 0 37) 58 1 49)
theorem mk_Gr_init_out (d : Dt) (k : Nat) (hk : k < 58 ∨ 64 ≤ k) : mk_Gr_init d k = d k := by
  unfold mk_Gr_init
  rw [up2_K _ _ _ (by omega)]
  rw [up2_K _ _ _ (by omega)]
  rw [up2_K _ _ _ (by omega)]
  rw [up2_K _ _ _ (by omega)]
  rw [up2_K _ _ _ (by omega)]
  rw [up2_K _ _ _ (by omega)]
  rw [up2_K _ _ _ (by omega)]
set_option maxHeartbeats 8000000 in
set_option maxRecDepth 100000 in
theorem ok_Gr_init {l : Launch} (d : Dt) (hz : ∀ k, 58 ≤ k → k < 64 → ∀ j, d k j = dzv 0 k j) : KC l y_Gr_init prog_3_method_1_code 3 rm_Gr_init 0 F_Gr_init [37, 49] 58 [58, 59, 60, 61, 62, 63] 5 38 [(2, 37), (2, 49)] d (mk_Gr_init d) := by
  refine KC.of (by decide) rfl (Nat.le_of_ble_eq_true rfl) (by decide) (fun q hq j hj => by rw [List.mem_singleton.mp hq] at hj ⊢; rw [hz 58 (by decide) (by decide) j]; unfold dzv; rw [if_pos hj]; exact Or.inl (by decide)) ?_
  intro p e s m args below meth c D cA ad0 A C hinit hlk hr
  replace C : Cq p s m args meth c prog_3_method_1_code 3 "PollBooks$Grounds" D cA F_Gr_init [37, 49] A := C
  show Gq p l e rm_Gr_init s m args below meth c 0 0 _ 3 D cA ad0 0 F_Gr_init [37, 49] A [58] 0 [(2, 58), (2, 37), (2, 49)] [] d
  unfold mk_Gr_init
  refine q_aload_n C 0 (x := 58) rfl (by decide +kernel) ?_
  refine q_objInit C (ix := 3) lk_366 lk_28 lk_29 ⟨Nat.le_of_ble_eq_true rfl, Nat.le_of_ble_eq_true rfl⟩ (by decide +kernel) ?_
  refine q_aload_n C 0 (x := 58) rfl (by decide +kernel) ?_
  refine q_bipush C 10 (by decide) (by decide +kernel) ?_
  refine q_newaZ C 59 cd_A59 (by decide) (by decide) (fun j => hz 59 (by decide) (by decide) j) (okl_of (by decide +kernel)) (okl_of (by decide +kernel)) (by decide) rfl (cK rfl) lk_265 (by decide) ⟨Nat.le_of_ble_eq_true rfl, Nat.le_of_ble_eq_true rfl⟩ (by decide +kernel) ?_
  refine q_ks (ks2 := [58, 59]) rfl ?_
  refine q_putR C cl1 58 0 2 59 rfl cd_A58 ⟨by decide, rfl, by decide⟩ (by decide) (by decide) (ix := 11) lk_369 rfl hinit rfl (fun _ => rfl) (fun _ => rfl) (by decide +kernel) ?_
  refine q_aload_n C 0 (x := 58) rfl (by decide +kernel) ?_
  refine q_bipush C 10 (by decide) (by decide +kernel) ?_
  refine q_newaI C 60 cd_A60 (by decide) (by decide) (fun j => hz 60 (by decide) (by decide) j) (okl_of (by decide +kernel)) (okl_of (by decide +kernel)) (by decide) rfl (cK rfl) lk_50 (by decide) ⟨Nat.le_of_ble_eq_true rfl, Nat.le_of_ble_eq_true rfl⟩ (by decide +kernel) ?_
  refine q_ks (ks2 := [58, 59, 60]) rfl ?_
  refine q_putR C cl1 58 0 3 60 rfl cd_A58 ⟨by decide, rfl, by decide⟩ (by decide) (by decide) (ix := 15) lk_370 rfl hinit rfl (fun _ => rfl) (fun _ => rfl) (by decide +kernel) ?_
  refine q_aload_n C 0 (x := 58) rfl (by decide +kernel) ?_
  refine q_bipush C 10 (by decide) (by decide +kernel) ?_
  refine q_newaI C 61 cd_A61 (by decide) (by decide) (fun j => hz 61 (by decide) (by decide) j) (okl_of (by decide +kernel)) (okl_of (by decide +kernel)) (by decide) rfl (cK rfl) lk_50 (by decide) ⟨Nat.le_of_ble_eq_true rfl, Nat.le_of_ble_eq_true rfl⟩ (by decide +kernel) ?_
  refine q_ks (ks2 := [58, 59, 60, 61]) rfl ?_
  refine q_putR C cl1 58 0 4 61 rfl cd_A58 ⟨by decide, rfl, by decide⟩ (by decide) (by decide) (ix := 19) lk_371 rfl hinit rfl (fun _ => rfl) (fun _ => rfl) (by decide +kernel) ?_
  refine q_aload_n C 0 (x := 58) rfl (by decide +kernel) ?_
  refine q_iconst C 4 (by decide +kernel) ?_
  refine q_newaI C 62 cd_A62 (by decide) (by decide) (fun j => hz 62 (by decide) (by decide) j) (okl_of (by decide +kernel)) (okl_of (by decide +kernel)) (by decide) rfl (cK rfl) lk_50 (by decide) ⟨Nat.le_of_ble_eq_true rfl, Nat.le_of_ble_eq_true rfl⟩ (by decide +kernel) ?_
  refine q_ks (ks2 := [58, 59, 60, 61, 62]) rfl ?_
  refine q_putR C cl1 58 0 6 62 rfl cd_A58 ⟨by decide, rfl, by decide⟩ (by decide) (by decide) (ix := 22) lk_373 rfl hinit rfl (fun _ => rfl) (fun _ => rfl) (by decide +kernel) ?_
  refine q_aload_n C 0 (x := 58) rfl (by decide +kernel) ?_
  refine q_iconst C 4 (by decide +kernel) ?_
  refine q_newaI C 63 cd_A63 (by decide) (by decide) (fun j => hz 63 (by decide) (by decide) j) (okl_of (by decide +kernel)) (okl_of (by decide +kernel)) (by decide) rfl (cK rfl) lk_50 (by decide) ⟨Nat.le_of_ble_eq_true rfl, Nat.le_of_ble_eq_true rfl⟩ (by decide +kernel) ?_
  refine q_ks (ks2 := [58, 59, 60, 61, 62, 63]) rfl ?_
  refine q_putR C cl1 58 0 7 63 rfl cd_A58 ⟨by decide, rfl, by decide⟩ (by decide) (by decide) (ix := 25) lk_374 rfl hinit rfl (fun _ => rfl) (fun _ => rfl) (by decide +kernel) ?_
  refine q_aload_n C 0 (x := 58) rfl (by decide +kernel) ?_
  refine q_aload_n C 1 (x := 37) rfl (by decide +kernel) ?_
  refine q_putR C cl1 58 0 0 37 rfl cd_A58 ⟨by decide, rfl, by decide⟩ (by decide) (by decide) (ix := 28) lk_367 rfl hinit rfl (fun _ => rfl) (fun _ => rfl) (by decide +kernel) ?_
  refine q_aload_n C 0 (x := 58) rfl (by decide +kernel) ?_
  refine q_aload_n C 2 (x := 49) rfl (by decide +kernel) ?_
  refine q_putR C cl1 58 0 1 49 rfl cd_A58 ⟨by decide, rfl, by decide⟩ (by decide) (by decide) (ix := 32) lk_368 rfl hinit rfl (fun _ => rfl) (fun _ => rfl) (by decide +kernel) ?_
  exact q_vret C hlk hr (by decide +kernel)
/-! PollBooks$Jury.<init> -/
def y_Ju_init : MethodName := ⟨"PollBooks$Jury", "<init>", "()V"⟩
def rm_Ju_init : Room := { frames := 1, cells := 6, slots := 154, locals := 20 }
theorem mw_Ju_init : MW y_Ju_init prog_4_method_1_code 1 none 0 := ⟨lk_405, lk_12, by decide +kernel⟩
def F_Ju_init (k : Nat) : Bool := decide (64 < k ∧ k < 71)
def mk_Ju_init (d : Dt) : Dt := (up2 (up2 (up2 (up2 (up2 (up2 d 64 0 65) 64 1 66) 64 3 67) 64 4 68) 64 5 69) 64 6 70)
theorem mk_Ju_init_out (d : Dt) (k : Nat) (hk : k < 64 ∨ 71 ≤ k) : mk_Ju_init d k = d k := by
  unfold mk_Ju_init
  rw [up2_K _ _ _ (by omega)]
  rw [up2_K _ _ _ (by omega)]
  rw [up2_K _ _ _ (by omega)]
  rw [up2_K _ _ _ (by omega)]
  rw [up2_K _ _ _ (by omega)]
  rw [up2_K _ _ _ (by omega)]
set_option maxHeartbeats 8000000 in
set_option maxRecDepth 100000 in
theorem ok_Ju_init {l : Launch} (d : Dt) (hz : ∀ k, 64 ≤ k → k < 71 → ∀ j, d k j = dzv 0 k j) : KC l y_Ju_init prog_4_method_1_code 1 rm_Ju_init 0 F_Ju_init [] 64 [64, 65, 66, 67, 68, 69, 70] 6 154 [] d (mk_Ju_init d) := by
  refine KC.of (by decide) rfl (Nat.le_of_ble_eq_true rfl) (by decide) (fun q hq j hj => by rw [List.mem_singleton.mp hq] at hj ⊢; rw [hz 64 (by decide) (by decide) j]; unfold dzv; rw [if_pos hj]; exact Or.inl (by decide)) ?_
  intro p e s m args below meth c D cA ad0 A C hinit hlk hr
  replace C : Cq p s m args meth c prog_4_method_1_code 1 "PollBooks$Jury" D cA F_Ju_init [] A := C
  show Gq p l e rm_Ju_init s m args below meth c 0 0 _ 1 D cA ad0 0 F_Ju_init [] A [64] 0 [(2, 64)] [] d
  unfold mk_Ju_init
  refine q_aload_n C 0 (x := 64) rfl (by decide +kernel) ?_
  refine q_objInit C (ix := 3) lk_406 lk_28 lk_29 ⟨Nat.le_of_ble_eq_true rfl, Nat.le_of_ble_eq_true rfl⟩ (by decide +kernel) ?_
  refine q_aload_n C 0 (x := 64) rfl (by decide +kernel) ?_
  refine q_bipush C 30 (by decide) (by decide +kernel) ?_
  refine q_newaI C 65 cd_A65 (by decide) (by decide) (fun j => hz 65 (by decide) (by decide) j) (okl_of (by decide +kernel)) (okl_of (by decide +kernel)) (by decide) rfl (cK rfl) lk_50 (by decide) ⟨Nat.le_of_ble_eq_true rfl, Nat.le_of_ble_eq_true rfl⟩ (by decide +kernel) ?_
  refine q_ks (ks2 := [64, 65]) rfl ?_
  refine q_putR C cl2 64 0 0 65 rfl cd_A64 ⟨by decide, rfl, by decide⟩ (by decide) (by decide) (ix := 11) lk_407 rfl hinit rfl (fun _ => rfl) (fun _ => rfl) (by decide +kernel) ?_
  refine q_aload_n C 0 (x := 64) rfl (by decide +kernel) ?_
  refine q_bipush C 30 (by decide) (by decide +kernel) ?_
  refine q_newaI C 66 cd_A66 (by decide) (by decide) (fun j => hz 66 (by decide) (by decide) j) (okl_of (by decide +kernel)) (okl_of (by decide +kernel)) (by decide) rfl (cK rfl) lk_50 (by decide) ⟨Nat.le_of_ble_eq_true rfl, Nat.le_of_ble_eq_true rfl⟩ (by decide +kernel) ?_
  refine q_ks (ks2 := [64, 65, 66]) rfl ?_
  refine q_putR C cl2 64 0 1 66 rfl cd_A64 ⟨by decide, rfl, by decide⟩ (by decide) (by decide) (ix := 15) lk_408 rfl hinit rfl (fun _ => rfl) (fun _ => rfl) (by decide +kernel) ?_
  refine q_aload_n C 0 (x := 64) rfl (by decide +kernel) ?_
  refine q_iconst C 4 (by decide +kernel) ?_
  refine q_newaI C 67 cd_A67 (by decide) (by decide) (fun j => hz 67 (by decide) (by decide) j) (okl_of (by decide +kernel)) (okl_of (by decide +kernel)) (by decide) rfl (cK rfl) lk_50 (by decide) ⟨Nat.le_of_ble_eq_true rfl, Nat.le_of_ble_eq_true rfl⟩ (by decide +kernel) ?_
  refine q_ks (ks2 := [64, 65, 66, 67]) rfl ?_
  refine q_putR C cl2 64 0 3 67 rfl cd_A64 ⟨by decide, rfl, by decide⟩ (by decide) (by decide) (ix := 18) lk_410 rfl hinit rfl (fun _ => rfl) (fun _ => rfl) (by decide +kernel) ?_
  refine q_aload_n C 0 (x := 64) rfl (by decide +kernel) ?_
  refine q_bipush C 30 (by decide) (by decide +kernel) ?_
  refine q_newaI C 68 cd_A68 (by decide) (by decide) (fun j => hz 68 (by decide) (by decide) j) (okl_of (by decide +kernel)) (okl_of (by decide +kernel)) (by decide) rfl (cK rfl) lk_50 (by decide) ⟨Nat.le_of_ble_eq_true rfl, Nat.le_of_ble_eq_true rfl⟩ (by decide +kernel) ?_
  refine q_ks (ks2 := [64, 65, 66, 67, 68]) rfl ?_
  refine q_putR C cl2 64 0 4 68 rfl cd_A64 ⟨by decide, rfl, by decide⟩ (by decide) (by decide) (ix := 21) lk_411 rfl hinit rfl (fun _ => rfl) (fun _ => rfl) (by decide +kernel) ?_
  refine q_aload_n C 0 (x := 64) rfl (by decide +kernel) ?_
  refine q_bipush C 30 (by decide) (by decide +kernel) ?_
  refine q_newaZ C 69 cd_A69 (by decide) (by decide) (fun j => hz 69 (by decide) (by decide) j) (okl_of (by decide +kernel)) (okl_of (by decide +kernel)) (by decide) rfl (cK rfl) lk_265 (by decide) ⟨Nat.le_of_ble_eq_true rfl, Nat.le_of_ble_eq_true rfl⟩ (by decide +kernel) ?_
  refine q_ks (ks2 := [64, 65, 66, 67, 68, 69]) rfl ?_
  refine q_putR C cl2 64 0 5 69 rfl cd_A64 ⟨by decide, rfl, by decide⟩ (by decide) (by decide) (ix := 24) lk_412 rfl hinit rfl (fun _ => rfl) (fun _ => rfl) (by decide +kernel) ?_
  refine q_aload_n C 0 (x := 64) rfl (by decide +kernel) ?_
  refine q_bipush C 30 (by decide) (by decide +kernel) ?_
  refine q_newaI C 70 cd_A70 (by decide) (by decide) (fun j => hz 70 (by decide) (by decide) j) (okl_of (by decide +kernel)) (okl_of (by decide +kernel)) (by decide) rfl (cK rfl) lk_50 (by decide) ⟨Nat.le_of_ble_eq_true rfl, Nat.le_of_ble_eq_true rfl⟩ (by decide +kernel) ?_
  refine q_ks (ks2 := [64, 65, 66, 67, 68, 69, 70]) rfl ?_
  refine q_putR C cl2 64 0 6 70 rfl cd_A64 ⟨by decide, rfl, by decide⟩ (by decide) (by decide) (ix := 28) lk_413 rfl hinit rfl (fun _ => rfl) (fun _ => rfl) (by decide +kernel) ?_
  exact q_vret C hlk hr (by decide +kernel)
/-! PollBooks$Parser.<init> -/
def y_Pa_init : MethodName := ⟨"PollBooks$Parser", "<init>", "()V"⟩
def rm_Pa_init : Room := { frames := 2, cells := 11, slots := 3113, locals := 40 }
theorem mw_Pa_init : MW y_Pa_init prog_6_method_1_code 1 none 0 := ⟨lk_143, lk_6, by decide +kernel⟩
def F_Pa_init (k : Nat) : Bool := decide (25 < k ∧ k < 30 ∨ 79 ≤ k ∧ k < 86)
def mk_Pa_init (d : Dt) : Dt := (up2 (up2 (up2 (mk_St_init 79 (up2 (up2 (up2 (up2 d 25 0 26) 25 2 27) 25 3 28) 25 4 29)) 25 6 79) 25 7 (-1)) 25 8 (-1))
theorem mk_Pa_init_out (d : Dt) (k : Nat) (hk : k < 25 ∨ 30 ≤ k ∧ k < 79 ∨ 86 ≤ k) : mk_Pa_init d k = d k := by
  unfold mk_Pa_init
  rw [up2_K _ _ _ (by omega)]
  rw [up2_K _ _ _ (by omega)]
  rw [up2_K _ _ _ (by omega)]
  rw [mk_St_init_out 79 _ _ (by omega)]
  rw [up2_K _ _ _ (by omega)]
  rw [up2_K _ _ _ (by omega)]
  rw [up2_K _ _ _ (by omega)]
  rw [up2_K _ _ _ (by omega)]
set_option maxHeartbeats 8000000 in
set_option maxRecDepth 100000 in
theorem ok_Pa_init {l : Launch} (d : Dt) (hz : ∀ k, 25 ≤ k → k < 86 → ∀ j, d k j = dzv 0 k j) : KC l y_Pa_init prog_6_method_1_code 1 rm_Pa_init 0 F_Pa_init [] 25 [25, 26, 27, 28, 29, 79, 80, 81, 82, 83, 84, 85] 11 3113 [] d (mk_Pa_init d) := by
  refine KC.of (by decide) rfl (Nat.le_of_ble_eq_true rfl) (by decide) (fun q hq j hj => by rw [List.mem_singleton.mp hq] at hj ⊢; rw [hz 25 (by decide) (by decide) j]; unfold dzv; rw [if_pos hj]; exact Or.inl (by decide)) ?_
  intro p e s m args below meth c D cA ad0 A C hinit hlk hr
  replace C : Cq p s m args meth c prog_6_method_1_code 1 "PollBooks$Parser" D cA F_Pa_init [] A := C
  show Gq p l e rm_Pa_init s m args below meth c 0 0 _ 1 D cA ad0 0 F_Pa_init [] A [25] 0 [(2, 25)] [] d
  unfold mk_Pa_init
  refine q_aload_n C 0 (x := 25) rfl (by decide +kernel) ?_
  refine q_objInit C (ix := 3) lk_144 lk_28 lk_29 ⟨Nat.le_of_ble_eq_true rfl, Nat.le_of_ble_eq_true rfl⟩ (by decide +kernel) ?_
  refine q_aload_n C 0 (x := 25) rfl (by decide +kernel) ?_
  refine q_sipush C 600 (by decide) (by decide +kernel) ?_
  refine q_newaB C 26 cd_A26 (by decide) (by decide) (fun j => hz 26 (by decide) (by decide) j) (okl_of (by decide +kernel)) (okl_of (by decide +kernel)) (by decide) rfl (cK rfl) lk_194 (by decide) ⟨Nat.le_of_ble_eq_true rfl, Nat.le_of_ble_eq_true rfl⟩ (by decide +kernel) ?_
  refine q_ks (ks2 := [25, 26]) rfl ?_
  refine q_putR C cl4 25 0 0 26 rfl cd_A25 ⟨by decide, rfl, by decide⟩ (by decide) (by decide) (ix := 11) lk_195 rfl hinit rfl (fun _ => rfl) (fun _ => rfl) (by decide +kernel) ?_
  refine q_aload_n C 0 (x := 25) rfl (by decide +kernel) ?_
  refine q_sipush C 601 (by decide) (by decide +kernel) ?_
  refine q_newaI C 27 cd_A27 (by decide) (by decide) (fun j => hz 27 (by decide) (by decide) j) (okl_of (by decide +kernel)) (okl_of (by decide +kernel)) (by decide) rfl (cK rfl) lk_50 (by decide) ⟨Nat.le_of_ble_eq_true rfl, Nat.le_of_ble_eq_true rfl⟩ (by decide +kernel) ?_
  refine q_ks (ks2 := [25, 26, 27]) rfl ?_
  refine q_putR C cl4 25 0 2 27 rfl cd_A25 ⟨by decide, rfl, by decide⟩ (by decide) (by decide) (ix := 15) lk_197 rfl hinit rfl (fun _ => rfl) (fun _ => rfl) (by decide +kernel) ?_
  refine q_aload_n C 0 (x := 25) rfl (by decide +kernel) ?_
  refine q_sipush C 601 (by decide) (by decide +kernel) ?_
  refine q_newaJ C 28 cd_A28 (by decide) (by decide) (fun j => hz 28 (by decide) (by decide) j) (okl_of (by decide +kernel)) (okl_of (by decide +kernel)) (by decide) rfl (cK rfl) lk_49 (by decide) ⟨Nat.le_of_ble_eq_true rfl, Nat.le_of_ble_eq_true rfl⟩ (by decide +kernel) ?_
  refine q_ks (ks2 := [25, 26, 27, 28]) rfl ?_
  refine q_putR C cl4 25 0 3 28 rfl cd_A25 ⟨by decide, rfl, by decide⟩ (by decide) (by decide) (ix := 19) lk_198 rfl hinit rfl (fun _ => rfl) (fun _ => rfl) (by decide +kernel) ?_
  refine q_aload_n C 0 (x := 25) rfl (by decide +kernel) ?_
  refine q_sipush C 601 (by decide) (by decide +kernel) ?_
  refine q_newaI C 29 cd_A29 (by decide) (by decide) (fun j => hz 29 (by decide) (by decide) j) (okl_of (by decide +kernel)) (okl_of (by decide +kernel)) (by decide) rfl (cK rfl) lk_50 (by decide) ⟨Nat.le_of_ble_eq_true rfl, Nat.le_of_ble_eq_true rfl⟩ (by decide +kernel) ?_
  refine q_ks (ks2 := [25, 26, 27, 28, 29]) rfl ?_
  refine q_putR C cl4 25 0 4 29 rfl cd_A25 ⟨by decide, rfl, by decide⟩ (by decide) (by decide) (ix := 23) lk_199 rfl hinit rfl (fun _ => rfl) (fun _ => rfl) (by decide +kernel) ?_
  refine q_aload_n C 0 (x := 25) rfl (by decide +kernel) ?_
  refine q_new C cl9 79 cd_S79 ⟨by decide, rfl⟩ (by decide) (by decide) (fun j => hz 79 (by decide) (by decide) j) (okl_of (by decide +kernel)) (okl_of (by decide +kernel)) (by decide) (ix := 26) lk_145 lk_146 lk_7 (by decide +kernel) ⟨Nat.le_of_ble_eq_true rfl, Nat.le_of_ble_eq_true rfl⟩ (by decide +kernel) ?_
  refine q_ks (ks2 := [25, 26, 27, 28, 29, 79]) rfl ?_
  refine q_dup C (by decide +kernel) ?_
  refine q_callN C mw_St_init [] 79 [25, 26, 27, 28, 29] (ksT := [79, 80, 81, 82, 83, 84, 85]) rfl (ok_St_init 79 rfl rfl rfl rfl rfl rfl rfl (up2 (up2 (up2 (up2 d 25 0 26) 25 2 27) 25 3 28) 25 4 29) (fun o ho j => by rw [up2_k _ _ _ _ (by omega)]; rw [up2_k _ _ _ _ (by omega)]; rw [up2_k _ _ _ _ (by omega)]; rw [up2_k _ _ _ _ (by omega)]; exact hz _ (by omega) (by omega) j)) (ix := 28) lk_147 lk_148 rfl ⟨rfl, rfl, Nat.le_of_ble_eq_true rfl, Nat.le_of_ble_eq_true rfl⟩ rfl (rest := [(2, 79), (2, 25)]) rfl (Nat.le_of_ble_eq_true rfl) ⟨Nat.le_of_ble_eq_true rfl, Nat.le_of_ble_eq_true rfl⟩ (fun k hk => ⟨by simp [F_St_init] at hk; simp [F_Pa_init]; omega, by simp [F_St_init] at hk; simp; omega⟩) (by decide) (by decide) (by decide) (fun k hk => mk_St_init_out 79 _ k (by simp at hk; omega)) (okl_of (by decide +kernel)) (okl_of (by decide +kernel)) (by decide) (by decide +kernel) ?_
  refine q_ks (ks2 := [25, 26, 27, 28, 29, 79, 80, 81, 82, 83, 84, 85]) rfl ?_
  refine q_putM C cl4 25 0 6 79 rfl cd_A25 ⟨by decide, rfl, by decide⟩ (by decide) (by decide) (ix := 29) lk_201 rfl (fun _ => rfl) (fun _ => rfl) (by decide +kernel) ?_
  refine q_aload_n C 0 (x := 25) rfl (by decide +kernel) ?_
  refine q_iconst C (-1) (by decide +kernel) ?_
  refine q_putI C cl4 25 0 7 rfl cd_A25 ⟨by decide, rfl, by decide⟩ (by decide) (ix := 33) lk_202 rfl rfl rfl (by decide +kernel) ?_
  refine q_aload_n C 0 (x := 25) rfl (by decide +kernel) ?_
  refine q_iconst C (-1) (by decide +kernel) ?_
  refine q_putI C cl4 25 0 8 rfl cd_A25 ⟨by decide, rfl, by decide⟩ (by decide) (ix := 37) lk_203 rfl rfl rfl (by decide +kernel) ?_
  exact q_vret C hlk hr (by decide +kernel)
/-! PollBooks$Trays.<init> -/
def y_Tr_init : MethodName := ⟨"PollBooks$Trays", "<init>", "()V"⟩
def rm_Tr_init : Room := { frames := 1, cells := 3, slots := 248, locals := 23 }
theorem mw_Tr_init : MW y_Tr_init prog_12_method_1_code 1 none 0 := ⟨lk_34, lk_2, by decide +kernel⟩
def F_Tr_init (k : Nat) : Bool := decide (3 < k ∧ k < 7)
def mk_Tr_init (d : Dt) : Dt := (fun q => if q = 6 then (fun j => if j < 4 then (-1) else (up2 (up2 (up2 d 3 0 4) 3 1 5) 3 2 6) 6 j) else (up2 (up2 (up2 d 3 0 4) 3 1 5) 3 2 6) q)
theorem mk_Tr_init_out (d : Dt) (k : Nat) (hk : k < 3 ∨ 7 ≤ k) : mk_Tr_init d k = d k := by
  unfold mk_Tr_init
  rw [if_neg (by omega)]
  rw [up2_K _ _ _ (by omega)]
  rw [up2_K _ _ _ (by omega)]
  rw [up2_K _ _ _ (by omega)]
set_option maxHeartbeats 8000000 in
set_option maxRecDepth 100000 in
theorem ok_Tr_init {l : Launch} (d : Dt) (hz : ∀ k, 3 ≤ k → k < 7 → ∀ j, d k j = dzv 0 k j) : KC l y_Tr_init prog_12_method_1_code 1 rm_Tr_init 0 F_Tr_init [] 3 [3, 4, 5, 6] 3 248 [] d (mk_Tr_init d) := by
  refine KC.of (by decide) rfl (Nat.le_of_ble_eq_true rfl) (by decide) (fun q hq j hj => by rw [List.mem_singleton.mp hq] at hj ⊢; rw [hz 3 (by decide) (by decide) j]; unfold dzv; rw [if_pos hj]; exact Or.inl (by decide)) ?_
  intro p e s m args below meth c D cA ad0 A C hinit hlk hr
  replace C : Cq p s m args meth c prog_12_method_1_code 1 "PollBooks$Trays" D cA F_Tr_init [] A := C
  show Gq p l e rm_Tr_init s m args below meth c 0 0 _ 1 D cA ad0 0 F_Tr_init [] A [3] 0 [(2, 3)] [] d
  unfold mk_Tr_init
  refine q_aload_n C 0 (x := 3) rfl (by decide +kernel) ?_
  refine q_objInit C (ix := 3) lk_35 lk_28 lk_29 ⟨Nat.le_of_ble_eq_true rfl, Nat.le_of_ble_eq_true rfl⟩ (by decide +kernel) ?_
  refine q_aload_n C 0 (x := 3) rfl (by decide +kernel) ?_
  refine q_sipush C 240 (by decide) (by decide +kernel) ?_
  refine q_newaJ C 4 cd_A4 (by decide) (by decide) (fun j => hz 4 (by decide) (by decide) j) (okl_of (by decide +kernel)) (okl_of (by decide +kernel)) (by decide) rfl (cK rfl) lk_49 (by decide) ⟨Nat.le_of_ble_eq_true rfl, Nat.le_of_ble_eq_true rfl⟩ (by decide +kernel) ?_
  refine q_ks (ks2 := [3, 4]) rfl ?_
  refine q_putR C cl10 3 0 0 4 rfl cd_A3 ⟨by decide, rfl, by decide⟩ (by decide) (by decide) (ix := 11) lk_39 rfl hinit rfl (fun _ => rfl) (fun _ => rfl) (by decide +kernel) ?_
  refine q_aload_n C 0 (x := 3) rfl (by decide +kernel) ?_
  refine q_iconst C 4 (by decide +kernel) ?_
  refine q_newaI C 5 cd_A5 (by decide) (by decide) (fun j => hz 5 (by decide) (by decide) j) (okl_of (by decide +kernel)) (okl_of (by decide +kernel)) (by decide) rfl (cK rfl) lk_50 (by decide) ⟨Nat.le_of_ble_eq_true rfl, Nat.le_of_ble_eq_true rfl⟩ (by decide +kernel) ?_
  refine q_ks (ks2 := [3, 4, 5]) rfl ?_
  refine q_putR C cl10 3 0 1 5 rfl cd_A3 ⟨by decide, rfl, by decide⟩ (by decide) (by decide) (ix := 15) lk_40 rfl hinit rfl (fun _ => rfl) (fun _ => rfl) (by decide +kernel) ?_
  refine q_aload_n C 0 (x := 3) rfl (by decide +kernel) ?_
  refine q_iconst C 4 (by decide +kernel) ?_
  refine q_newaI C 6 cd_A6 (by decide) (by decide) (fun j => hz 6 (by decide) (by decide) j) (okl_of (by decide +kernel)) (okl_of (by decide +kernel)) (by decide) rfl (cK rfl) lk_50 (by decide) ⟨Nat.le_of_ble_eq_true rfl, Nat.le_of_ble_eq_true rfl⟩ (by decide +kernel) ?_
  refine q_ks (ks2 := [3, 4, 5, 6]) rfl ?_
  refine q_putR C cl10 3 0 2 6 rfl cd_A3 ⟨by decide, rfl, by decide⟩ (by decide) (by decide) (ix := 19) lk_41 rfl hinit rfl (fun _ => rfl) (fun _ => rfl) (by decide +kernel) ?_
  refine q_aload_n C 0 (x := 3) rfl (by decide +kernel) ?_
  refine q_getR C cl10 3 0 2 6 rfl cd_A3 ⟨by decide, rfl, by decide⟩ (by decide) rfl (ix := 19) lk_41 (by decide +kernel) ?_
  refine q_iconst C (-1) (by decide +kernel) ?_
  obtain ⟨d2, d2p, hq1, hq2, hq3, hq4⟩ := fill_run 2 4 (-1) (by decide) (cK rfl) ((up2 (up2 (up2 d 3 0 4) 3 1 5) 3 2 6) 6) (fun j => ((fun j => hz 6 (by decide) (by decide) j) j).trans (dzv_a cd_A6 (by decide)))
  refine q_fill C mw_Ar_fill_aII 2 6 3 4 (v := (-1)) (d2 := d2) (d2' := d2p) [0, 1, 2] [3, 4, 5] rfl cd_A6 (by decide) rfl hq2 hq1 (ok_Ar_fill_aII 0 4 rfl (fun _ => by unfold nOf; rw [if_neg (by decide), if_neg (by decide)]; decide) (-1) d2 (cK rfl) hq3) (by decide) (by decide) (by decide) (by decide) (by decide) (by decide) (by decide) (ix := 22) lk_36 lk_37 ⟨rfl, rfl, Nat.le_of_ble_eq_true rfl, Nat.le_of_ble_eq_true rfl⟩ ⟨Nat.le_of_ble_eq_true rfl, Nat.le_of_ble_eq_true rfl⟩ (by decide +kernel) ?_
  rw [hq4]
  refine q_ks (ks2 := [3, 4, 5, 6]) rfl ?_
  exact q_vret C hlk hr (by decide +kernel)
/-! PollBooks$Roads.<init> -/
def y_Ro_init : MethodName := ⟨"PollBooks$Roads", "<init>", "()V"⟩
def rm_Ro_init : Room := { frames := 1, cells := 7, slots := 638, locals := 23 }
theorem mw_Ro_init : MW y_Ro_init prog_10_method_1_code 1 none 0 := ⟨lk_436, lk_13, by decide +kernel⟩
def F_Ro_init (k : Nat) : Bool := decide (71 < k ∧ k < 79)
def mk_Ro_init (d : Dt) : Dt := (fun q => if q = 72 then (fun j => if j < 49 then 10 else (up2 (up2 (up2 (up2 (up2 (up2 (up2 (up2 d 71 0 72) 71 1 73) 71 2 74) 71 3 75) 71 4 76) 71 5 77) 71 6 78) 71 8 (-1)) 72 j) else (up2 (up2 (up2 (up2 (up2 (up2 (up2 (up2 d 71 0 72) 71 1 73) 71 2 74) 71 3 75) 71 4 76) 71 5 77) 71 6 78) 71 8 (-1)) q)
theorem mk_Ro_init_out (d : Dt) (k : Nat) (hk : k < 71 ∨ 79 ≤ k) : mk_Ro_init d k = d k := by
  unfold mk_Ro_init
  rw [if_neg (by omega)]
  rw [up2_K _ _ _ (by omega)]
  rw [up2_K _ _ _ (by omega)]
  rw [up2_K _ _ _ (by omega)]
  rw [up2_K _ _ _ (by omega)]
  rw [up2_K _ _ _ (by omega)]
  rw [up2_K _ _ _ (by omega)]
  rw [up2_K _ _ _ (by omega)]
  rw [up2_K _ _ _ (by omega)]
set_option maxHeartbeats 8000000 in
set_option maxRecDepth 100000 in
theorem ok_Ro_init {l : Launch} (d : Dt) (hz : ∀ k, 71 ≤ k → k < 79 → ∀ j, d k j = dzv 0 k j) : KC l y_Ro_init prog_10_method_1_code 1 rm_Ro_init 0 F_Ro_init [] 71 [71, 73, 74, 75, 76, 77, 78, 72] 7 638 [] d (mk_Ro_init d) := by
  refine KC.of (by decide) rfl (Nat.le_of_ble_eq_true rfl) (by decide) (fun q hq j hj => by rw [List.mem_singleton.mp hq] at hj ⊢; rw [hz 71 (by decide) (by decide) j]; unfold dzv; rw [if_pos hj]; exact Or.inl (by decide)) ?_
  intro p e s m args below meth c D cA ad0 A C hinit hlk hr
  replace C : Cq p s m args meth c prog_10_method_1_code 1 "PollBooks$Roads" D cA F_Ro_init [] A := C
  show Gq p l e rm_Ro_init s m args below meth c 0 0 _ 1 D cA ad0 0 F_Ro_init [] A [71] 0 [(2, 71)] [] d
  unfold mk_Ro_init
  refine q_aload_n C 0 (x := 71) rfl (by decide +kernel) ?_
  refine q_objInit C (ix := 5) lk_437 lk_28 lk_29 ⟨Nat.le_of_ble_eq_true rfl, Nat.le_of_ble_eq_true rfl⟩ (by decide +kernel) ?_
  refine q_aload_n C 0 (x := 71) rfl (by decide +kernel) ?_
  refine q_bipush C 49 (by decide) (by decide +kernel) ?_
  refine q_newaI C 72 cd_A72 (by decide) (by decide) (fun j => hz 72 (by decide) (by decide) j) (okl_of (by decide +kernel)) (okl_of (by decide +kernel)) (by decide) rfl (cK rfl) lk_50 (by decide) ⟨Nat.le_of_ble_eq_true rfl, Nat.le_of_ble_eq_true rfl⟩ (by decide +kernel) ?_
  refine q_ks (ks2 := [71, 72]) rfl ?_
  refine q_putR C cl8 71 0 0 72 rfl cd_A71 ⟨by decide, rfl, by decide⟩ (by decide) (by decide) (ix := 11) lk_439 rfl hinit rfl (fun _ => rfl) (fun _ => rfl) (by decide +kernel) ?_
  refine q_aload_n C 0 (x := 71) rfl (by decide +kernel) ?_
  refine q_bipush C 7 (by decide) (by decide +kernel) ?_
  refine q_newaI C 73 cd_A73 (by decide) (by decide) (fun j => hz 73 (by decide) (by decide) j) (okl_of (by decide +kernel)) (okl_of (by decide +kernel)) (by decide) rfl (cK rfl) lk_50 (by decide) ⟨Nat.le_of_ble_eq_true rfl, Nat.le_of_ble_eq_true rfl⟩ (by decide +kernel) ?_
  refine q_ks (ks2 := [71, 72, 73]) rfl ?_
  refine q_putR C cl8 71 0 1 73 rfl cd_A71 ⟨by decide, rfl, by decide⟩ (by decide) (by decide) (ix := 15) lk_440 rfl hinit rfl (fun _ => rfl) (fun _ => rfl) (by decide +kernel) ?_
  refine q_aload_n C 0 (x := 71) rfl (by decide +kernel) ?_
  refine q_bipush C 6 (by decide) (by decide +kernel) ?_
  refine q_newaI C 74 cd_A74 (by decide) (by decide) (fun j => hz 74 (by decide) (by decide) j) (okl_of (by decide +kernel)) (okl_of (by decide +kernel)) (by decide) rfl (cK rfl) lk_50 (by decide) ⟨Nat.le_of_ble_eq_true rfl, Nat.le_of_ble_eq_true rfl⟩ (by decide +kernel) ?_
  refine q_ks (ks2 := [71, 72, 73, 74]) rfl ?_
  refine q_putR C cl8 71 0 2 74 rfl cd_A71 ⟨by decide, rfl, by decide⟩ (by decide) (by decide) (ix := 18) lk_441 rfl hinit rfl (fun _ => rfl) (fun _ => rfl) (by decide +kernel) ?_
  refine q_aload_n C 0 (x := 71) rfl (by decide +kernel) ?_
  refine q_bipush C 64 (by decide) (by decide +kernel) ?_
  refine q_newaI C 75 cd_A75 (by decide) (by decide) (fun j => hz 75 (by decide) (by decide) j) (okl_of (by decide +kernel)) (okl_of (by decide +kernel)) (by decide) rfl (cK rfl) lk_50 (by decide) ⟨Nat.le_of_ble_eq_true rfl, Nat.le_of_ble_eq_true rfl⟩ (by decide +kernel) ?_
  refine q_ks (ks2 := [71, 72, 73, 74, 75]) rfl ?_
  refine q_putR C cl8 71 0 3 75 rfl cd_A71 ⟨by decide, rfl, by decide⟩ (by decide) (by decide) (ix := 21) lk_442 rfl hinit rfl (fun _ => rfl) (fun _ => rfl) (by decide +kernel) ?_
  refine q_aload_n C 0 (x := 71) rfl (by decide +kernel) ?_
  refine q_sipush C 384 (by decide) (by decide +kernel) ?_
  refine q_newaI C 76 cd_A76 (by decide) (by decide) (fun j => hz 76 (by decide) (by decide) j) (okl_of (by decide +kernel)) (okl_of (by decide +kernel)) (by decide) rfl (cK rfl) lk_50 (by decide) ⟨Nat.le_of_ble_eq_true rfl, Nat.le_of_ble_eq_true rfl⟩ (by decide +kernel) ?_
  refine q_ks (ks2 := [71, 72, 73, 74, 75, 76]) rfl ?_
  refine q_putR C cl8 71 0 4 76 rfl cd_A71 ⟨by decide, rfl, by decide⟩ (by decide) (by decide) (ix := 24) lk_443 rfl hinit rfl (fun _ => rfl) (fun _ => rfl) (by decide +kernel) ?_
  refine q_aload_n C 0 (x := 71) rfl (by decide +kernel) ?_
  refine q_bipush C 64 (by decide) (by decide +kernel) ?_
  refine q_newaI C 77 cd_A77 (by decide) (by decide) (fun j => hz 77 (by decide) (by decide) j) (okl_of (by decide +kernel)) (okl_of (by decide +kernel)) (by decide) rfl (cK rfl) lk_50 (by decide) ⟨Nat.le_of_ble_eq_true rfl, Nat.le_of_ble_eq_true rfl⟩ (by decide +kernel) ?_
  refine q_ks (ks2 := [71, 72, 73, 74, 75, 76, 77]) rfl ?_
  refine q_putR C cl8 71 0 5 77 rfl cd_A71 ⟨by decide, rfl, by decide⟩ (by decide) (by decide) (ix := 27) lk_444 rfl hinit rfl (fun _ => rfl) (fun _ => rfl) (by decide +kernel) ?_
  refine q_aload_n C 0 (x := 71) rfl (by decide +kernel) ?_
  refine q_bipush C 64 (by decide) (by decide +kernel) ?_
  refine q_newaI C 78 cd_A78 (by decide) (by decide) (fun j => hz 78 (by decide) (by decide) j) (okl_of (by decide +kernel)) (okl_of (by decide +kernel)) (by decide) rfl (cK rfl) lk_50 (by decide) ⟨Nat.le_of_ble_eq_true rfl, Nat.le_of_ble_eq_true rfl⟩ (by decide +kernel) ?_
  refine q_ks (ks2 := [71, 72, 73, 74, 75, 76, 77, 78]) rfl ?_
  refine q_putR C cl8 71 0 6 78 rfl cd_A71 ⟨by decide, rfl, by decide⟩ (by decide) (by decide) (ix := 30) lk_445 rfl hinit rfl (fun _ => rfl) (fun _ => rfl) (by decide +kernel) ?_
  refine q_aload_n C 0 (x := 71) rfl (by decide +kernel) ?_
  refine q_iconst C (-1) (by decide +kernel) ?_
  refine q_putI C cl8 71 0 8 rfl cd_A71 ⟨by decide, rfl, by decide⟩ (by decide) (ix := 33) lk_447 rfl rfl rfl (by decide +kernel) ?_
  refine q_aload_n C 0 (x := 71) rfl (by decide +kernel) ?_
  refine q_getR C cl8 71 0 0 72 rfl cd_A71 ⟨by decide, rfl, by decide⟩ (by decide) rfl (ix := 11) lk_439 (by decide +kernel) ?_
  refine q_bipush C 10 (by decide) (by decide +kernel) ?_
  obtain ⟨d2, d2p, hq1, hq2, hq3, hq4⟩ := fill_run 3 49 10 (by decide) (cK rfl) ((up2 (up2 (up2 (up2 (up2 (up2 (up2 (up2 d 71 0 72) 71 1 73) 71 2 74) 71 3 75) 71 4 76) 71 5 77) 71 6 78) 71 8 (-1)) 72) (fun j => ((fun j => hz 72 (by decide) (by decide) j) j).trans (dzv_a cd_A72 (by decide)))
  refine q_fill C mw_Ar_fill_aII 3 72 1 49 (v := 10) (d2 := d2) (d2' := d2p) [0, 2, 3, 4, 5, 6, 7] [71, 73, 74, 75, 76, 77, 78] rfl cd_A72 (by decide) rfl hq2 hq1 (ok_Ar_fill_aII 0 49 rfl (fun _ => by unfold nOf; rw [if_neg (by decide), if_neg (by decide)]; decide) 10 d2 (cK rfl) hq3) (by decide) (by decide) (by decide) (by decide) (by decide) (by decide) (by decide) (ix := 37) lk_438 lk_37 ⟨rfl, rfl, Nat.le_of_ble_eq_true rfl, Nat.le_of_ble_eq_true rfl⟩ ⟨Nat.le_of_ble_eq_true rfl, Nat.le_of_ble_eq_true rfl⟩ (by decide +kernel) ?_
  rw [hq4]
  refine q_ks (ks2 := [71, 73, 74, 75, 76, 77, 78, 72]) rfl ?_
  exact q_vret C hlk hr (by decide +kernel)
/-! PollBooks.<init> -/
def y_PB_init : MethodName := ⟨"PollBooks", "<init>", "()V"⟩
def rm_PB_init : Room := { frames := 3, cells := 85, slots := 9001, locals := 60 }
theorem mw_PB_init : MW y_PB_init prog_1_method_1_code 1 none 0 := ⟨lk_26, lk_1, by decide +kernel⟩
def F_PB_init (k : Nat) : Bool := decide (0 < k ∧ k < 86)
def mk_PB_init (d : Dt) : Dt := (up2 (up2 (up2 (mk_Ro_init (up2 (mk_Ju_init (up2 (mk_Gr_init (up2 (mk_Po_init (up2 (mk_Bo_init (up2 (mk_La_init (up2 (mk_Pa_init (up2 (mk_Re_init (up2 (mk_Pe_init (up2 (mk_Tr_init (up2 d 0 0 0)) 0 1 3)) 0 2 7)) 0 3 11)) 0 4 25)) 0 5 30)) 0 6 37)) 0 7 49)) 0 8 58)) 0 9 64)) 0 10 71) 0 11 1) 0 12 2)
theorem mk_PB_init_out (d : Dt) (k : Nat) (hk : k < 0 ∨ 86 ≤ k) : mk_PB_init d k = d k := by
  unfold mk_PB_init
  rw [up2_K _ _ _ (by omega)]
  rw [up2_K _ _ _ (by omega)]
  rw [up2_K _ _ _ (by omega)]
  rw [mk_Ro_init_out _ _ (by omega)]
  rw [up2_K _ _ _ (by omega)]
  rw [mk_Ju_init_out _ _ (by omega)]
  rw [up2_K _ _ _ (by omega)]
  rw [mk_Gr_init_out _ _ (by omega)]
  rw [up2_K _ _ _ (by omega)]
  rw [mk_Po_init_out _ _ (by omega)]
  rw [up2_K _ _ _ (by omega)]
  rw [mk_Bo_init_out _ _ (by omega)]
  rw [up2_K _ _ _ (by omega)]
  rw [mk_La_init_out _ _ (by omega)]
  rw [up2_K _ _ _ (by omega)]
  rw [mk_Pa_init_out _ _ (by omega)]
  rw [up2_K _ _ _ (by omega)]
  rw [mk_Re_init_out _ _ (by omega)]
  rw [up2_K _ _ _ (by omega)]
  rw [mk_Pe_init_out _ _ (by omega)]
  rw [up2_K _ _ _ (by omega)]
  rw [mk_Tr_init_out _ _ (by omega)]
  rw [up2_K _ _ _ (by omega)]
set_option maxHeartbeats 8000000 in
set_option maxRecDepth 100000 in
theorem ok_PB_init {l : Launch} (d : Dt) (hz : ∀ k, 0 ≤ k → k < 86 → ∀ j, d k j = dzv 0 k j) : KC l y_PB_init prog_1_method_1_code 1 rm_PB_init 0 F_PB_init [] 0 [0, 3, 4, 5, 6, 7, 8, 9, 10, 11, 12, 13, 14, 15, 16, 17, 18, 19, 20, 21, 22, 23, 24, 25, 26, 27, 28, 29, 79, 80, 81, 82, 83, 84, 85, 30, 31, 32, 33, 34, 35, 36, 37, 38, 39, 40, 41, 42, 43, 44, 45, 46, 47, 48, 49, 50, 51, 52, 53, 54, 55, 56, 57, 58, 59, 60, 61, 62, 63, 64, 65, 66, 67, 68, 69, 70, 71, 73, 74, 75, 76, 77, 78, 72, 1, 2] 85 9001 [] d (mk_PB_init d) := by
  refine KC.of (by decide) rfl (Nat.le_of_ble_eq_true rfl) (by decide) (fun q hq j hj => by rw [List.mem_singleton.mp hq] at hj ⊢; rw [hz 0 (by decide) (by decide) j]; unfold dzv; rw [if_pos hj]; exact Or.inl (by decide)) ?_
  intro p e s m args below meth c D cA ad0 A C hinit hlk hr
  replace C : Cq p s m args meth c prog_1_method_1_code 1 "PollBooks" D cA F_PB_init [] A := C
  show Gq p l e rm_PB_init s m args below meth c 0 0 _ 1 D cA ad0 0 F_PB_init [] A [0] 0 [(2, 0)] [] d
  unfold mk_PB_init
  refine q_aload_n C 0 (x := 0) rfl (by decide +kernel) ?_
  refine q_objInit C (ix := 1) lk_27 lk_28 lk_29 ⟨Nat.le_of_ble_eq_true rfl, Nat.le_of_ble_eq_true rfl⟩ (by decide +kernel) ?_
  refine q_aload_n C 0 (x := 0) rfl (by decide +kernel) ?_
  refine q_iconst C 0 (by decide +kernel) ?_
  refine q_putI C cl11 0 0 0 rfl cd_A0 ⟨by decide, rfl, by decide⟩ (by decide) (ix := 9) lk_467 rfl rfl rfl (by decide +kernel) ?_
  refine q_aload_n C 0 (x := 0) rfl (by decide +kernel) ?_
  refine q_new C cl10 3 cd_A3 ⟨by decide, rfl⟩ (by decide) (by decide) (fun j => hz 3 (by decide) (by decide) j) (okl_of (by decide +kernel)) (okl_of (by decide +kernel)) (by decide) (ix := 13) lk_30 lk_31 lk_2 (by decide +kernel) ⟨Nat.le_of_ble_eq_true rfl, Nat.le_of_ble_eq_true rfl⟩ (by decide +kernel) ?_
  refine q_ks (ks2 := [0, 3]) rfl ?_
  refine q_dup C (by decide +kernel) ?_
  refine q_call C mw_Tr_init [] 3 [0] (ksT := [3, 4, 5, 6]) rfl (ok_Tr_init (up2 d 0 0 0) (fun k h1 h2 j => by rw [up2_k _ _ _ _ (by omega)]; exact hz k (by omega) (by omega) j)) (ix := 15) lk_32 lk_33 rfl ⟨rfl, rfl, Nat.le_of_ble_eq_true rfl, Nat.le_of_ble_eq_true rfl⟩ rfl (rest := [(2, 3), (2, 0)]) rfl (Nat.le_of_ble_eq_true rfl) ⟨Nat.le_of_ble_eq_true rfl, Nat.le_of_ble_eq_true rfl⟩ (fun k hk => ⟨by simp [F_Tr_init] at hk; simp [F_PB_init]; omega, by simp [F_Tr_init] at hk; simp; omega⟩) (by decide) (by decide) (by decide) (fun k hk => mk_Tr_init_out _ k (by simp at hk; omega)) (okl_of (by decide +kernel)) (okl_of (by decide +kernel)) (by decide) (by decide +kernel) ?_
  refine q_ks (ks2 := [0, 3, 4, 5, 6]) rfl ?_
  refine q_putR C cl11 0 0 1 3 rfl cd_A0 ⟨by decide, rfl, by decide⟩ (by decide) (by decide) (ix := 16) lk_468 rfl hinit rfl (fun _ => rfl) (fun _ => rfl) (by decide +kernel) ?_
  refine q_aload_n C 0 (x := 0) rfl (by decide +kernel) ?_
  refine q_new C cl5 7 cd_A7 ⟨by decide, rfl⟩ (by decide) (by decide) (fun j => by rw [up2_k _ _ _ _ (by decide)]; rw [mk_Tr_init_out _ 7 (by decide)]; rw [up2_k _ _ _ _ (by decide)]; exact hz 7 (by decide) (by decide) j) (okl_of (by decide +kernel)) (okl_of (by decide +kernel)) (by decide) (ix := 20) lk_51 lk_52 lk_4 (by decide +kernel) ⟨Nat.le_of_ble_eq_true rfl, Nat.le_of_ble_eq_true rfl⟩ (by decide +kernel) ?_
  refine q_ks (ks2 := [0, 3, 4, 5, 6, 7]) rfl ?_
  refine q_dup C (by decide +kernel) ?_
  refine q_callN C mw_Pe_init [] 7 [0, 3, 4, 5, 6] (ksT := [7, 8, 9, 10]) rfl (ok_Pe_init (up2 (mk_Tr_init (up2 d 0 0 0)) 0 1 3) (fun k h1 h2 j => by rw [up2_k _ _ _ _ (by omega)]; rw [mk_Tr_init_out _ _ (by omega)]; rw [up2_k _ _ _ _ (by omega)]; exact hz k (by omega) (by omega) j)) (ix := 22) lk_53 lk_54 rfl ⟨rfl, rfl, Nat.le_of_ble_eq_true rfl, Nat.le_of_ble_eq_true rfl⟩ rfl (rest := [(2, 7), (2, 0)]) rfl (Nat.le_of_ble_eq_true rfl) ⟨Nat.le_of_ble_eq_true rfl, Nat.le_of_ble_eq_true rfl⟩ (fun k hk => ⟨by simp [F_Pe_init] at hk; simp [F_PB_init]; omega, by simp [F_Pe_init] at hk; simp; omega⟩) (by decide) (by decide) (by decide) (fun k hk => mk_Pe_init_out _ k (by simp at hk; omega)) (okl_of (by decide +kernel)) (okl_of (by decide +kernel)) (by decide) (by decide +kernel) ?_
  refine q_ks (ks2 := [0, 3, 4, 5, 6, 7, 8, 9, 10]) rfl ?_
  refine q_putR C cl11 0 0 2 7 rfl cd_A0 ⟨by decide, rfl, by decide⟩ (by decide) (by decide) (ix := 23) lk_469 rfl hinit rfl (fun _ => rfl) (fun _ => rfl) (by decide +kernel) ?_
  refine q_aload_n C 0 (x := 0) rfl (by decide +kernel) ?_
  refine q_new C cl7 11 cd_A11 ⟨by decide, rfl⟩ (by decide) (by decide) (fun j => by rw [up2_k _ _ _ _ (by decide)]; rw [mk_Pe_init_out _ 11 (by decide)]; rw [up2_k _ _ _ _ (by decide)]; rw [mk_Tr_init_out _ 11 (by decide)]; rw [up2_k _ _ _ _ (by decide)]; exact hz 11 (by decide) (by decide) j) (okl_of (by decide +kernel)) (okl_of (by decide +kernel)) (by decide) (ix := 27) lk_75 lk_76 lk_5 (by decide +kernel) ⟨Nat.le_of_ble_eq_true rfl, Nat.le_of_ble_eq_true rfl⟩ (by decide +kernel) ?_
  refine q_ks (ks2 := [0, 3, 4, 5, 6, 7, 8, 9, 10, 11]) rfl ?_
  refine q_dup C (by decide +kernel) ?_
  refine q_aload_n C 0 (x := 0) rfl (by decide +kernel) ?_
  refine q_getR C cl11 0 0 2 7 rfl cd_A0 ⟨by decide, rfl, by decide⟩ (by decide) (by rw [up2_s]; try rfl) (ix := 23) lk_469 (by decide +kernel) ?_
  refine q_call C mw_Re_init [(2, 7)] 11 [0, 3, 4, 5, 6, 7, 8, 9, 10] (ksT := [11, 12, 13, 14, 15, 16, 17, 18, 19, 20, 21, 22, 23, 24]) rfl (ok_Re_init (up2 (mk_Pe_init (up2 (mk_Tr_init (up2 d 0 0 0)) 0 1 3)) 0 2 7) (fun k h1 h2 j => by rw [up2_k _ _ _ _ (by omega)]; rw [mk_Pe_init_out _ _ (by omega)]; rw [up2_k _ _ _ _ (by omega)]; rw [mk_Tr_init_out _ _ (by omega)]; rw [up2_k _ _ _ _ (by omega)]; exact hz k (by omega) (by omega) j)) (ix := 29) lk_77 lk_78 rfl ⟨rfl, rfl, Nat.le_of_ble_eq_true rfl, Nat.le_of_ble_eq_true rfl⟩ rfl (rest := [(2, 11), (2, 0)]) rfl (Nat.le_of_ble_eq_true rfl) ⟨Nat.le_of_ble_eq_true rfl, Nat.le_of_ble_eq_true rfl⟩ (fun k hk => ⟨by simp [F_Re_init] at hk; simp [F_PB_init]; omega, by simp [F_Re_init] at hk; simp; omega⟩) (by decide) (by decide) (by decide) (fun k hk => mk_Re_init_out _ k (by simp at hk; omega)) (okl_of (by decide +kernel)) (okl_of (by decide +kernel)) (by decide) (by decide +kernel) ?_
  refine q_ks (ks2 := [0, 3, 4, 5, 6, 7, 8, 9, 10, 11, 12, 13, 14, 15, 16, 17, 18, 19, 20, 21, 22, 23, 24]) rfl ?_
  refine q_putR C cl11 0 0 3 11 rfl cd_A0 ⟨by decide, rfl, by decide⟩ (by decide) (by decide) (ix := 32) lk_470 rfl hinit rfl (fun _ => rfl) (fun _ => rfl) (by decide +kernel) ?_
  refine q_aload_n C 0 (x := 0) rfl (by decide +kernel) ?_
  refine q_new C cl4 25 cd_A25 ⟨by decide, rfl⟩ (by decide) (by decide) (fun j => by rw [up2_k _ _ _ _ (by decide)]; rw [mk_Re_init_out _ 25 (by decide)]; rw [up2_k _ _ _ _ (by decide)]; rw [mk_Pe_init_out _ 25 (by decide)]; rw [up2_k _ _ _ _ (by decide)]; rw [mk_Tr_init_out _ 25 (by decide)]; rw [up2_k _ _ _ _ (by decide)]; exact hz 25 (by decide) (by decide) j) (okl_of (by decide +kernel)) (okl_of (by decide +kernel)) (by decide) (ix := 36) lk_139 lk_140 lk_6 (by decide +kernel) ⟨Nat.le_of_ble_eq_true rfl, Nat.le_of_ble_eq_true rfl⟩ (by decide +kernel) ?_
  refine q_ks (ks2 := [0, 3, 4, 5, 6, 7, 8, 9, 10, 11, 12, 13, 14, 15, 16, 17, 18, 19, 20, 21, 22, 23, 24, 25]) rfl ?_
  refine q_dup C (by decide +kernel) ?_
  refine q_callN C mw_Pa_init [] 25 [0, 3, 4, 5, 6, 7, 8, 9, 10, 11, 12, 13, 14, 15, 16, 17, 18, 19, 20, 21, 22, 23, 24] (ksT := [25, 26, 27, 28, 29, 79, 80, 81, 82, 83, 84, 85]) rfl (ok_Pa_init (up2 (mk_Re_init (up2 (mk_Pe_init (up2 (mk_Tr_init (up2 d 0 0 0)) 0 1 3)) 0 2 7)) 0 3 11) (fun k h1 h2 j => by rw [up2_k _ _ _ _ (by omega)]; rw [mk_Re_init_out _ _ (by omega)]; rw [up2_k _ _ _ _ (by omega)]; rw [mk_Pe_init_out _ _ (by omega)]; rw [up2_k _ _ _ _ (by omega)]; rw [mk_Tr_init_out _ _ (by omega)]; rw [up2_k _ _ _ _ (by omega)]; exact hz k (by omega) (by omega) j)) (ix := 38) lk_141 lk_142 rfl ⟨rfl, rfl, Nat.le_of_ble_eq_true rfl, Nat.le_of_ble_eq_true rfl⟩ rfl (rest := [(2, 25), (2, 0)]) rfl (Nat.le_of_ble_eq_true rfl) ⟨Nat.le_of_ble_eq_true rfl, Nat.le_of_ble_eq_true rfl⟩ (fun k hk => ⟨by simp [F_Pa_init] at hk; simp [F_PB_init]; omega, by simp [F_Pa_init] at hk; simp; omega⟩) (by decide) (by decide) (by decide) (fun k hk => mk_Pa_init_out _ k (by simp at hk; omega)) (okl_of (by decide +kernel)) (okl_of (by decide +kernel)) (by decide) (by decide +kernel) ?_
  refine q_ks (ks2 := [0, 3, 4, 5, 6, 7, 8, 9, 10, 11, 12, 13, 14, 15, 16, 17, 18, 19, 20, 21, 22, 23, 24, 25, 26, 27, 28, 29, 79, 80, 81, 82, 83, 84, 85]) rfl ?_
  refine q_putR C cl11 0 0 4 25 rfl cd_A0 ⟨by decide, rfl, by decide⟩ (by decide) (by decide) (ix := 39) lk_471 rfl hinit rfl (fun _ => rfl) (fun _ => rfl) (by decide +kernel) ?_
  refine q_aload_n C 0 (x := 0) rfl (by decide +kernel) ?_
  refine q_new C cl3 30 cd_A30 ⟨by decide, rfl⟩ (by decide) (by decide) (fun j => by rw [up2_k _ _ _ _ (by decide)]; rw [mk_Pa_init_out _ 30 (by decide)]; rw [up2_k _ _ _ _ (by decide)]; rw [mk_Re_init_out _ 30 (by decide)]; rw [up2_k _ _ _ _ (by decide)]; rw [mk_Pe_init_out _ 30 (by decide)]; rw [up2_k _ _ _ _ (by decide)]; rw [mk_Tr_init_out _ 30 (by decide)]; rw [up2_k _ _ _ _ (by decide)]; exact hz 30 (by decide) (by decide) j) (okl_of (by decide +kernel)) (okl_of (by decide +kernel)) (by decide) (ix := 43) lk_223 lk_224 lk_8 (by decide +kernel) ⟨Nat.le_of_ble_eq_true rfl, Nat.le_of_ble_eq_true rfl⟩ (by decide +kernel) ?_
  refine q_ks (ks2 := [0, 3, 4, 5, 6, 7, 8, 9, 10, 11, 12, 13, 14, 15, 16, 17, 18, 19, 20, 21, 22, 23, 24, 25, 26, 27, 28, 29, 79, 80, 81, 82, 83, 84, 85, 30]) rfl ?_
  refine q_dup C (by decide +kernel) ?_
  refine q_aload_n C 0 (x := 0) rfl (by decide +kernel) ?_
  refine q_getR C cl11 0 0 3 11 rfl cd_A0 ⟨by decide, rfl, by decide⟩ (by decide) (by rw [up2_j _ _ _ (by decide)]; rw [mk_Pa_init_out _ _ (by decide)]; rw [up2_s]; try rfl) (ix := 32) lk_470 (by decide +kernel) ?_
  refine q_call C mw_La_init [(2, 11)] 30 [0, 3, 4, 5, 6, 7, 8, 9, 10, 11, 12, 13, 14, 15, 16, 17, 18, 19, 20, 21, 22, 23, 24, 25, 26, 27, 28, 29, 79, 80, 81, 82, 83, 84, 85] (ksT := [30, 31, 32, 33, 34, 35, 36]) rfl (ok_La_init (up2 (mk_Pa_init (up2 (mk_Re_init (up2 (mk_Pe_init (up2 (mk_Tr_init (up2 d 0 0 0)) 0 1 3)) 0 2 7)) 0 3 11)) 0 4 25) (fun k h1 h2 j => by rw [up2_k _ _ _ _ (by omega)]; rw [mk_Pa_init_out _ _ (by omega)]; rw [up2_k _ _ _ _ (by omega)]; rw [mk_Re_init_out _ _ (by omega)]; rw [up2_k _ _ _ _ (by omega)]; rw [mk_Pe_init_out _ _ (by omega)]; rw [up2_k _ _ _ _ (by omega)]; rw [mk_Tr_init_out _ _ (by omega)]; rw [up2_k _ _ _ _ (by omega)]; exact hz k (by omega) (by omega) j)) (ix := 45) lk_225 lk_226 rfl ⟨rfl, rfl, Nat.le_of_ble_eq_true rfl, Nat.le_of_ble_eq_true rfl⟩ rfl (rest := [(2, 30), (2, 0)]) rfl (Nat.le_of_ble_eq_true rfl) ⟨Nat.le_of_ble_eq_true rfl, Nat.le_of_ble_eq_true rfl⟩ (fun k hk => ⟨by simp [F_La_init] at hk; simp [F_PB_init]; omega, by simp [F_La_init] at hk; simp; omega⟩) (by decide) (by decide) (by decide) (fun k hk => mk_La_init_out _ k (by simp at hk; omega)) (okl_of (by decide +kernel)) (okl_of (by decide +kernel)) (by decide) (by decide +kernel) ?_
  refine q_ks (ks2 := [0, 3, 4, 5, 6, 7, 8, 9, 10, 11, 12, 13, 14, 15, 16, 17, 18, 19, 20, 21, 22, 23, 24, 25, 26, 27, 28, 29, 79, 80, 81, 82, 83, 84, 85, 30, 31, 32, 33, 34, 35, 36]) rfl ?_
  refine q_putR C cl11 0 0 5 30 rfl cd_A0 ⟨by decide, rfl, by decide⟩ (by decide) (by decide) (ix := 48) lk_472 rfl hinit rfl (fun _ => rfl) (fun _ => rfl) (by decide +kernel) ?_
  refine q_aload_n C 0 (x := 0) rfl (by decide +kernel) ?_
  refine q_new C cl0 37 cd_A37 ⟨by decide, rfl⟩ (by decide) (by decide) (fun j => by rw [up2_k _ _ _ _ (by decide)]; rw [mk_La_init_out _ 37 (by decide)]; rw [up2_k _ _ _ _ (by decide)]; rw [mk_Pa_init_out _ 37 (by decide)]; rw [up2_k _ _ _ _ (by decide)]; rw [mk_Re_init_out _ 37 (by decide)]; rw [up2_k _ _ _ _ (by decide)]; rw [mk_Pe_init_out _ 37 (by decide)]; rw [up2_k _ _ _ _ (by decide)]; rw [mk_Tr_init_out _ 37 (by decide)]; rw [up2_k _ _ _ _ (by decide)]; exact hz 37 (by decide) (by decide) j) (okl_of (by decide +kernel)) (okl_of (by decide +kernel)) (by decide) (ix := 52) lk_266 lk_267 lk_9 (by decide +kernel) ⟨Nat.le_of_ble_eq_true rfl, Nat.le_of_ble_eq_true rfl⟩ (by decide +kernel) ?_
  refine q_ks (ks2 := [0, 3, 4, 5, 6, 7, 8, 9, 10, 11, 12, 13, 14, 15, 16, 17, 18, 19, 20, 21, 22, 23, 24, 25, 26, 27, 28, 29, 79, 80, 81, 82, 83, 84, 85, 30, 31, 32, 33, 34, 35, 36, 37]) rfl ?_
  refine q_dup C (by decide +kernel) ?_
  refine q_callN C mw_Bo_init [] 37 [0, 3, 4, 5, 6, 7, 8, 9, 10, 11, 12, 13, 14, 15, 16, 17, 18, 19, 20, 21, 22, 23, 24, 25, 26, 27, 28, 29, 79, 80, 81, 82, 83, 84, 85, 30, 31, 32, 33, 34, 35, 36] (ksT := [37, 38, 39, 40, 41, 42, 43, 44, 45, 46, 47, 48]) rfl (ok_Bo_init (up2 (mk_La_init (up2 (mk_Pa_init (up2 (mk_Re_init (up2 (mk_Pe_init (up2 (mk_Tr_init (up2 d 0 0 0)) 0 1 3)) 0 2 7)) 0 3 11)) 0 4 25)) 0 5 30) (fun k h1 h2 j => by rw [up2_k _ _ _ _ (by omega)]; rw [mk_La_init_out _ _ (by omega)]; rw [up2_k _ _ _ _ (by omega)]; rw [mk_Pa_init_out _ _ (by omega)]; rw [up2_k _ _ _ _ (by omega)]; rw [mk_Re_init_out _ _ (by omega)]; rw [up2_k _ _ _ _ (by omega)]; rw [mk_Pe_init_out _ _ (by omega)]; rw [up2_k _ _ _ _ (by omega)]; rw [mk_Tr_init_out _ _ (by omega)]; rw [up2_k _ _ _ _ (by omega)]; exact hz k (by omega) (by omega) j)) (ix := 54) lk_268 lk_269 rfl ⟨rfl, rfl, Nat.le_of_ble_eq_true rfl, Nat.le_of_ble_eq_true rfl⟩ rfl (rest := [(2, 37), (2, 0)]) rfl (Nat.le_of_ble_eq_true rfl) ⟨Nat.le_of_ble_eq_true rfl, Nat.le_of_ble_eq_true rfl⟩ (fun k hk => ⟨by simp [F_Bo_init] at hk; simp [F_PB_init]; omega, by simp [F_Bo_init] at hk; simp; omega⟩) (by decide) (by decide) (by decide) (fun k hk => mk_Bo_init_out _ k (by simp at hk; omega)) (okl_of (by decide +kernel)) (okl_of (by decide +kernel)) (by decide) (by decide +kernel) ?_
  refine q_ks (ks2 := [0, 3, 4, 5, 6, 7, 8, 9, 10, 11, 12, 13, 14, 15, 16, 17, 18, 19, 20, 21, 22, 23, 24, 25, 26, 27, 28, 29, 79, 80, 81, 82, 83, 84, 85, 30, 31, 32, 33, 34, 35, 36, 37, 38, 39, 40, 41, 42, 43, 44, 45, 46, 47, 48]) rfl ?_
  refine q_putR C cl11 0 0 6 37 rfl cd_A0 ⟨by decide, rfl, by decide⟩ (by decide) (by decide) (ix := 55) lk_473 rfl hinit rfl (fun _ => rfl) (fun _ => rfl) (by decide +kernel) ?_
  refine q_aload_n C 0 (x := 0) rfl (by decide +kernel) ?_
  refine q_new C cl6 49 cd_A49 ⟨by decide, rfl⟩ (by decide) (by decide) (fun j => by rw [up2_k _ _ _ _ (by decide)]; rw [mk_Bo_init_out _ 49 (by decide)]; rw [up2_k _ _ _ _ (by decide)]; rw [mk_La_init_out _ 49 (by decide)]; rw [up2_k _ _ _ _ (by decide)]; rw [mk_Pa_init_out _ 49 (by decide)]; rw [up2_k _ _ _ _ (by decide)]; rw [mk_Re_init_out _ 49 (by decide)]; rw [up2_k _ _ _ _ (by decide)]; rw [mk_Pe_init_out _ 49 (by decide)]; rw [up2_k _ _ _ _ (by decide)]; rw [mk_Tr_init_out _ 49 (by decide)]; rw [up2_k _ _ _ _ (by decide)]; exact hz 49 (by decide) (by decide) j) (okl_of (by decide +kernel)) (okl_of (by decide +kernel)) (by decide) (ix := 59) lk_313 lk_314 lk_10 (by decide +kernel) ⟨Nat.le_of_ble_eq_true rfl, Nat.le_of_ble_eq_true rfl⟩ (by decide +kernel) ?_
  refine q_ks (ks2 := [0, 3, 4, 5, 6, 7, 8, 9, 10, 11, 12, 13, 14, 15, 16, 17, 18, 19, 20, 21, 22, 23, 24, 25, 26, 27, 28, 29, 79, 80, 81, 82, 83, 84, 85, 30, 31, 32, 33, 34, 35, 36, 37, 38, 39, 40, 41, 42, 43, 44, 45, 46, 47, 48, 49]) rfl ?_
  refine q_dup C (by decide +kernel) ?_
  refine q_aload_n C 0 (x := 0) rfl (by decide +kernel) ?_
  refine q_getR C cl11 0 0 2 7 rfl cd_A0 ⟨by decide, rfl, by decide⟩ (by decide) (by rw [up2_j _ _ _ (by decide)]; rw [mk_Bo_init_out _ _ (by decide)]; rw [up2_j _ _ _ (by decide)]; rw [mk_La_init_out _ _ (by decide)]; rw [up2_j _ _ _ (by decide)]; rw [mk_Pa_init_out _ _ (by decide)]; rw [up2_j _ _ _ (by decide)]; rw [mk_Re_init_out _ _ (by decide)]; rw [up2_s]; try rfl) (ix := 23) lk_469 (by decide +kernel) ?_
  refine q_aload_n C 0 (x := 0) rfl (by decide +kernel) ?_
  refine q_getR C cl11 0 0 6 37 rfl cd_A0 ⟨by decide, rfl, by decide⟩ (by decide) (by rw [up2_s]; try rfl) (ix := 55) lk_473 (by decide +kernel) ?_
  refine q_aload_n C 0 (x := 0) rfl (by decide +kernel) ?_
  refine q_getR C cl11 0 0 5 30 rfl cd_A0 ⟨by decide, rfl, by decide⟩ (by decide) (by rw [up2_j _ _ _ (by decide)]; rw [mk_Bo_init_out _ _ (by decide)]; rw [up2_s]; try rfl) (ix := 48) lk_472 (by decide +kernel) ?_
  refine q_call C mw_Po_init [(2, 7), (2, 37), (2, 30)] 49 [0, 3, 4, 5, 6, 7, 8, 9, 10, 11, 12, 13, 14, 15, 16, 17, 18, 19, 20, 21, 22, 23, 24, 25, 26, 27, 28, 29, 79, 80, 81, 82, 83, 84, 85, 30, 31, 32, 33, 34, 35, 36, 37, 38, 39, 40, 41, 42, 43, 44, 45, 46, 47, 48] (ksT := [49, 50, 51, 52, 53, 54, 55, 56, 57]) rfl (ok_Po_init (up2 (mk_Bo_init (up2 (mk_La_init (up2 (mk_Pa_init (up2 (mk_Re_init (up2 (mk_Pe_init (up2 (mk_Tr_init (up2 d 0 0 0)) 0 1 3)) 0 2 7)) 0 3 11)) 0 4 25)) 0 5 30)) 0 6 37) (fun k h1 h2 j => by rw [up2_k _ _ _ _ (by omega)]; rw [mk_Bo_init_out _ _ (by omega)]; rw [up2_k _ _ _ _ (by omega)]; rw [mk_La_init_out _ _ (by omega)]; rw [up2_k _ _ _ _ (by omega)]; rw [mk_Pa_init_out _ _ (by omega)]; rw [up2_k _ _ _ _ (by omega)]; rw [mk_Re_init_out _ _ (by omega)]; rw [up2_k _ _ _ _ (by omega)]; rw [mk_Pe_init_out _ _ (by omega)]; rw [up2_k _ _ _ _ (by omega)]; rw [mk_Tr_init_out _ _ (by omega)]; rw [up2_k _ _ _ _ (by omega)]; exact hz k (by omega) (by omega) j)) (ix := 61) lk_315 lk_316 rfl ⟨rfl, rfl, Nat.le_of_ble_eq_true rfl, Nat.le_of_ble_eq_true rfl⟩ rfl (rest := [(2, 49), (2, 0)]) rfl (Nat.le_of_ble_eq_true rfl) ⟨Nat.le_of_ble_eq_true rfl, Nat.le_of_ble_eq_true rfl⟩ (fun k hk => ⟨by simp [F_Po_init] at hk; simp [F_PB_init]; omega, by simp [F_Po_init] at hk; simp; omega⟩) (by decide) (by decide) (by decide) (fun k hk => mk_Po_init_out _ k (by simp at hk; omega)) (okl_of (by decide +kernel)) (okl_of (by decide +kernel)) (by decide) (by decide +kernel) ?_
  refine q_ks (ks2 := [0, 3, 4, 5, 6, 7, 8, 9, 10, 11, 12, 13, 14, 15, 16, 17, 18, 19, 20, 21, 22, 23, 24, 25, 26, 27, 28, 29, 79, 80, 81, 82, 83, 84, 85, 30, 31, 32, 33, 34, 35, 36, 37, 38, 39, 40, 41, 42, 43, 44, 45, 46, 47, 48, 49, 50, 51, 52, 53, 54, 55, 56, 57]) rfl ?_
  refine q_putR C cl11 0 0 7 49 rfl cd_A0 ⟨by decide, rfl, by decide⟩ (by decide) (by decide) (ix := 64) lk_474 rfl hinit rfl (fun _ => rfl) (fun _ => rfl) (by decide +kernel) ?_
  refine q_aload_n C 0 (x := 0) rfl (by decide +kernel) ?_
  refine q_new C cl1 58 cd_A58 ⟨by decide, rfl⟩ (by decide) (by decide) (fun j => by rw [up2_k _ _ _ _ (by decide)]; rw [mk_Po_init_out _ 58 (by decide)]; rw [up2_k _ _ _ _ (by decide)]; rw [mk_Bo_init_out _ 58 (by decide)]; rw [up2_k _ _ _ _ (by decide)]; rw [mk_La_init_out _ 58 (by decide)]; rw [up2_k _ _ _ _ (by decide)]; rw [mk_Pa_init_out _ 58 (by decide)]; rw [up2_k _ _ _ _ (by decide)]; rw [mk_Re_init_out _ 58 (by decide)]; rw [up2_k _ _ _ _ (by decide)]; rw [mk_Pe_init_out _ 58 (by decide)]; rw [up2_k _ _ _ _ (by decide)]; rw [mk_Tr_init_out _ 58 (by decide)]; rw [up2_k _ _ _ _ (by decide)]; exact hz 58 (by decide) (by decide) j) (okl_of (by decide +kernel)) (okl_of (by decide +kernel)) (by decide) (ix := 68) lk_361 lk_362 lk_11 (by decide +kernel) ⟨Nat.le_of_ble_eq_true rfl, Nat.le_of_ble_eq_true rfl⟩ (by decide +kernel) ?_
  refine q_ks (ks2 := [0, 3, 4, 5, 6, 7, 8, 9, 10, 11, 12, 13, 14, 15, 16, 17, 18, 19, 20, 21, 22, 23, 24, 25, 26, 27, 28, 29, 79, 80, 81, 82, 83, 84, 85, 30, 31, 32, 33, 34, 35, 36, 37, 38, 39, 40, 41, 42, 43, 44, 45, 46, 47, 48, 49, 50, 51, 52, 53, 54, 55, 56, 57, 58]) rfl ?_
  refine q_dup C (by decide +kernel) ?_
  refine q_aload_n C 0 (x := 0) rfl (by decide +kernel) ?_
  refine q_getR C cl11 0 0 6 37 rfl cd_A0 ⟨by decide, rfl, by decide⟩ (by decide) (by rw [up2_j _ _ _ (by decide)]; rw [mk_Po_init_out _ _ (by decide)]; rw [up2_s]; try rfl) (ix := 55) lk_473 (by decide +kernel) ?_
  refine q_aload_n C 0 (x := 0) rfl (by decide +kernel) ?_
  refine q_getR C cl11 0 0 7 49 rfl cd_A0 ⟨by decide, rfl, by decide⟩ (by decide) (by rw [up2_s]; try rfl) (ix := 64) lk_474 (by decide +kernel) ?_
  refine q_call C mw_Gr_init [(2, 37), (2, 49)] 58 [0, 3, 4, 5, 6, 7, 8, 9, 10, 11, 12, 13, 14, 15, 16, 17, 18, 19, 20, 21, 22, 23, 24, 25, 26, 27, 28, 29, 79, 80, 81, 82, 83, 84, 85, 30, 31, 32, 33, 34, 35, 36, 37, 38, 39, 40, 41, 42, 43, 44, 45, 46, 47, 48, 49, 50, 51, 52, 53, 54, 55, 56, 57] (ksT := [58, 59, 60, 61, 62, 63]) rfl (ok_Gr_init (up2 (mk_Po_init (up2 (mk_Bo_init (up2 (mk_La_init (up2 (mk_Pa_init (up2 (mk_Re_init (up2 (mk_Pe_init (up2 (mk_Tr_init (up2 d 0 0 0)) 0 1 3)) 0 2 7)) 0 3 11)) 0 4 25)) 0 5 30)) 0 6 37)) 0 7 49) (fun k h1 h2 j => by rw [up2_k _ _ _ _ (by omega)]; rw [mk_Po_init_out _ _ (by omega)]; rw [up2_k _ _ _ _ (by omega)]; rw [mk_Bo_init_out _ _ (by omega)]; rw [up2_k _ _ _ _ (by omega)]; rw [mk_La_init_out _ _ (by omega)]; rw [up2_k _ _ _ _ (by omega)]; rw [mk_Pa_init_out _ _ (by omega)]; rw [up2_k _ _ _ _ (by omega)]; rw [mk_Re_init_out _ _ (by omega)]; rw [up2_k _ _ _ _ (by omega)]; rw [mk_Pe_init_out _ _ (by omega)]; rw [up2_k _ _ _ _ (by omega)]; rw [mk_Tr_init_out _ _ (by omega)]; rw [up2_k _ _ _ _ (by omega)]; exact hz k (by omega) (by omega) j)) (ix := 70) lk_363 lk_364 rfl ⟨rfl, rfl, Nat.le_of_ble_eq_true rfl, Nat.le_of_ble_eq_true rfl⟩ rfl (rest := [(2, 58), (2, 0)]) rfl (Nat.le_of_ble_eq_true rfl) ⟨Nat.le_of_ble_eq_true rfl, Nat.le_of_ble_eq_true rfl⟩ (fun k hk => ⟨by simp [F_Gr_init] at hk; simp [F_PB_init]; omega, by simp [F_Gr_init] at hk; simp; omega⟩) (by decide) (by decide) (by decide) (fun k hk => mk_Gr_init_out _ k (by simp at hk; omega)) (okl_of (by decide +kernel)) (okl_of (by decide +kernel)) (by decide) (by decide +kernel) ?_
  refine q_ks (ks2 := [0, 3, 4, 5, 6, 7, 8, 9, 10, 11, 12, 13, 14, 15, 16, 17, 18, 19, 20, 21, 22, 23, 24, 25, 26, 27, 28, 29, 79, 80, 81, 82, 83, 84, 85, 30, 31, 32, 33, 34, 35, 36, 37, 38, 39, 40, 41, 42, 43, 44, 45, 46, 47, 48, 49, 50, 51, 52, 53, 54, 55, 56, 57, 58, 59, 60, 61, 62, 63]) rfl ?_
  refine q_putR C cl11 0 0 8 58 rfl cd_A0 ⟨by decide, rfl, by decide⟩ (by decide) (by decide) (ix := 73) lk_475 rfl hinit rfl (fun _ => rfl) (fun _ => rfl) (by decide +kernel) ?_
  refine q_aload_n C 0 (x := 0) rfl (by decide +kernel) ?_
  refine q_new C cl2 64 cd_A64 ⟨by decide, rfl⟩ (by decide) (by decide) (fun j => by rw [up2_k _ _ _ _ (by decide)]; rw [mk_Gr_init_out _ 64 (by decide)]; rw [up2_k _ _ _ _ (by decide)]; rw [mk_Po_init_out _ 64 (by decide)]; rw [up2_k _ _ _ _ (by decide)]; rw [mk_Bo_init_out _ 64 (by decide)]; rw [up2_k _ _ _ _ (by decide)]; rw [mk_La_init_out _ 64 (by decide)]; rw [up2_k _ _ _ _ (by decide)]; rw [mk_Pa_init_out _ 64 (by decide)]; rw [up2_k _ _ _ _ (by decide)]; rw [mk_Re_init_out _ 64 (by decide)]; rw [up2_k _ _ _ _ (by decide)]; rw [mk_Pe_init_out _ 64 (by decide)]; rw [up2_k _ _ _ _ (by decide)]; rw [mk_Tr_init_out _ 64 (by decide)]; rw [up2_k _ _ _ _ (by decide)]; exact hz 64 (by decide) (by decide) j) (okl_of (by decide +kernel)) (okl_of (by decide +kernel)) (by decide) (ix := 77) lk_401 lk_402 lk_12 (by decide +kernel) ⟨Nat.le_of_ble_eq_true rfl, Nat.le_of_ble_eq_true rfl⟩ (by decide +kernel) ?_
  refine q_ks (ks2 := [0, 3, 4, 5, 6, 7, 8, 9, 10, 11, 12, 13, 14, 15, 16, 17, 18, 19, 20, 21, 22, 23, 24, 25, 26, 27, 28, 29, 79, 80, 81, 82, 83, 84, 85, 30, 31, 32, 33, 34, 35, 36, 37, 38, 39, 40, 41, 42, 43, 44, 45, 46, 47, 48, 49, 50, 51, 52, 53, 54, 55, 56, 57, 58, 59, 60, 61, 62, 63, 64]) rfl ?_
  refine q_dup C (by decide +kernel) ?_
  refine q_callN C mw_Ju_init [] 64 [0, 3, 4, 5, 6, 7, 8, 9, 10, 11, 12, 13, 14, 15, 16, 17, 18, 19, 20, 21, 22, 23, 24, 25, 26, 27, 28, 29, 79, 80, 81, 82, 83, 84, 85, 30, 31, 32, 33, 34, 35, 36, 37, 38, 39, 40, 41, 42, 43, 44, 45, 46, 47, 48, 49, 50, 51, 52, 53, 54, 55, 56, 57, 58, 59, 60, 61, 62, 63] (ksT := [64, 65, 66, 67, 68, 69, 70]) rfl (ok_Ju_init (up2 (mk_Gr_init (up2 (mk_Po_init (up2 (mk_Bo_init (up2 (mk_La_init (up2 (mk_Pa_init (up2 (mk_Re_init (up2 (mk_Pe_init (up2 (mk_Tr_init (up2 d 0 0 0)) 0 1 3)) 0 2 7)) 0 3 11)) 0 4 25)) 0 5 30)) 0 6 37)) 0 7 49)) 0 8 58) (fun k h1 h2 j => by rw [up2_k _ _ _ _ (by omega)]; rw [mk_Gr_init_out _ _ (by omega)]; rw [up2_k _ _ _ _ (by omega)]; rw [mk_Po_init_out _ _ (by omega)]; rw [up2_k _ _ _ _ (by omega)]; rw [mk_Bo_init_out _ _ (by omega)]; rw [up2_k _ _ _ _ (by omega)]; rw [mk_La_init_out _ _ (by omega)]; rw [up2_k _ _ _ _ (by omega)]; rw [mk_Pa_init_out _ _ (by omega)]; rw [up2_k _ _ _ _ (by omega)]; rw [mk_Re_init_out _ _ (by omega)]; rw [up2_k _ _ _ _ (by omega)]; rw [mk_Pe_init_out _ _ (by omega)]; rw [up2_k _ _ _ _ (by omega)]; rw [mk_Tr_init_out _ _ (by omega)]; rw [up2_k _ _ _ _ (by omega)]; exact hz k (by omega) (by omega) j)) (ix := 79) lk_403 lk_404 rfl ⟨rfl, rfl, Nat.le_of_ble_eq_true rfl, Nat.le_of_ble_eq_true rfl⟩ rfl (rest := [(2, 64), (2, 0)]) rfl (Nat.le_of_ble_eq_true rfl) ⟨Nat.le_of_ble_eq_true rfl, Nat.le_of_ble_eq_true rfl⟩ (fun k hk => ⟨by simp [F_Ju_init] at hk; simp [F_PB_init]; omega, by simp [F_Ju_init] at hk; simp; omega⟩) (by decide) (by decide) (by decide) (fun k hk => mk_Ju_init_out _ k (by simp at hk; omega)) (okl_of (by decide +kernel)) (okl_of (by decide +kernel)) (by decide) (by decide +kernel) ?_
  refine q_ks (ks2 := [0, 3, 4, 5, 6, 7, 8, 9, 10, 11, 12, 13, 14, 15, 16, 17, 18, 19, 20, 21, 22, 23, 24, 25, 26, 27, 28, 29, 79, 80, 81, 82, 83, 84, 85, 30, 31, 32, 33, 34, 35, 36, 37, 38, 39, 40, 41, 42, 43, 44, 45, 46, 47, 48, 49, 50, 51, 52, 53, 54, 55, 56, 57, 58, 59, 60, 61, 62, 63, 64, 65, 66, 67, 68, 69, 70]) rfl ?_
  refine q_putR C cl11 0 0 9 64 rfl cd_A0 ⟨by decide, rfl, by decide⟩ (by decide) (by decide) (ix := 80) lk_476 rfl hinit rfl (fun _ => rfl) (fun _ => rfl) (by decide +kernel) ?_
  refine q_aload_n C 0 (x := 0) rfl (by decide +kernel) ?_
  refine q_new C cl8 71 cd_A71 ⟨by decide, rfl⟩ (by decide) (by decide) (fun j => by rw [up2_k _ _ _ _ (by decide)]; rw [mk_Ju_init_out _ 71 (by decide)]; rw [up2_k _ _ _ _ (by decide)]; rw [mk_Gr_init_out _ 71 (by decide)]; rw [up2_k _ _ _ _ (by decide)]; rw [mk_Po_init_out _ 71 (by decide)]; rw [up2_k _ _ _ _ (by decide)]; rw [mk_Bo_init_out _ 71 (by decide)]; rw [up2_k _ _ _ _ (by decide)]; rw [mk_La_init_out _ 71 (by decide)]; rw [up2_k _ _ _ _ (by decide)]; rw [mk_Pa_init_out _ 71 (by decide)]; rw [up2_k _ _ _ _ (by decide)]; rw [mk_Re_init_out _ 71 (by decide)]; rw [up2_k _ _ _ _ (by decide)]; rw [mk_Pe_init_out _ 71 (by decide)]; rw [up2_k _ _ _ _ (by decide)]; rw [mk_Tr_init_out _ 71 (by decide)]; rw [up2_k _ _ _ _ (by decide)]; exact hz 71 (by decide) (by decide) j) (okl_of (by decide +kernel)) (okl_of (by decide +kernel)) (by decide) (ix := 84) lk_432 lk_433 lk_13 (by decide +kernel) ⟨Nat.le_of_ble_eq_true rfl, Nat.le_of_ble_eq_true rfl⟩ (by decide +kernel) ?_
  refine q_ks (ks2 := [0, 3, 4, 5, 6, 7, 8, 9, 10, 11, 12, 13, 14, 15, 16, 17, 18, 19, 20, 21, 22, 23, 24, 25, 26, 27, 28, 29, 79, 80, 81, 82, 83, 84, 85, 30, 31, 32, 33, 34, 35, 36, 37, 38, 39, 40, 41, 42, 43, 44, 45, 46, 47, 48, 49, 50, 51, 52, 53, 54, 55, 56, 57, 58, 59, 60, 61, 62, 63, 64, 65, 66, 67, 68, 69, 70, 71]) rfl ?_
  refine q_dup C (by decide +kernel) ?_
  refine q_call C mw_Ro_init [] 71 [0, 3, 4, 5, 6, 7, 8, 9, 10, 11, 12, 13, 14, 15, 16, 17, 18, 19, 20, 21, 22, 23, 24, 25, 26, 27, 28, 29, 79, 80, 81, 82, 83, 84, 85, 30, 31, 32, 33, 34, 35, 36, 37, 38, 39, 40, 41, 42, 43, 44, 45, 46, 47, 48, 49, 50, 51, 52, 53, 54, 55, 56, 57, 58, 59, 60, 61, 62, 63, 64, 65, 66, 67, 68, 69, 70] (ksT := [71, 73, 74, 75, 76, 77, 78, 72]) rfl (ok_Ro_init (up2 (mk_Ju_init (up2 (mk_Gr_init (up2 (mk_Po_init (up2 (mk_Bo_init (up2 (mk_La_init (up2 (mk_Pa_init (up2 (mk_Re_init (up2 (mk_Pe_init (up2 (mk_Tr_init (up2 d 0 0 0)) 0 1 3)) 0 2 7)) 0 3 11)) 0 4 25)) 0 5 30)) 0 6 37)) 0 7 49)) 0 8 58)) 0 9 64) (fun k h1 h2 j => by rw [up2_k _ _ _ _ (by omega)]; rw [mk_Ju_init_out _ _ (by omega)]; rw [up2_k _ _ _ _ (by omega)]; rw [mk_Gr_init_out _ _ (by omega)]; rw [up2_k _ _ _ _ (by omega)]; rw [mk_Po_init_out _ _ (by omega)]; rw [up2_k _ _ _ _ (by omega)]; rw [mk_Bo_init_out _ _ (by omega)]; rw [up2_k _ _ _ _ (by omega)]; rw [mk_La_init_out _ _ (by omega)]; rw [up2_k _ _ _ _ (by omega)]; rw [mk_Pa_init_out _ _ (by omega)]; rw [up2_k _ _ _ _ (by omega)]; rw [mk_Re_init_out _ _ (by omega)]; rw [up2_k _ _ _ _ (by omega)]; rw [mk_Pe_init_out _ _ (by omega)]; rw [up2_k _ _ _ _ (by omega)]; rw [mk_Tr_init_out _ _ (by omega)]; rw [up2_k _ _ _ _ (by omega)]; exact hz k (by omega) (by omega) j)) (ix := 86) lk_434 lk_435 rfl ⟨rfl, rfl, Nat.le_of_ble_eq_true rfl, Nat.le_of_ble_eq_true rfl⟩ rfl (rest := [(2, 71), (2, 0)]) rfl (Nat.le_of_ble_eq_true rfl) ⟨Nat.le_of_ble_eq_true rfl, Nat.le_of_ble_eq_true rfl⟩ (fun k hk => ⟨by simp [F_Ro_init] at hk; simp [F_PB_init]; omega, by simp [F_Ro_init] at hk; simp; omega⟩) (by decide) (by decide) (by decide) (fun k hk => mk_Ro_init_out _ k (by simp at hk; omega)) (okl_of (by decide +kernel)) (okl_of (by decide +kernel)) (by decide) (by decide +kernel) ?_
  refine q_ks (ks2 := [0, 3, 4, 5, 6, 7, 8, 9, 10, 11, 12, 13, 14, 15, 16, 17, 18, 19, 20, 21, 22, 23, 24, 25, 26, 27, 28, 29, 79, 80, 81, 82, 83, 84, 85, 30, 31, 32, 33, 34, 35, 36, 37, 38, 39, 40, 41, 42, 43, 44, 45, 46, 47, 48, 49, 50, 51, 52, 53, 54, 55, 56, 57, 58, 59, 60, 61, 62, 63, 64, 65, 66, 67, 68, 69, 70, 71, 73, 74, 75, 76, 77, 78, 72]) rfl ?_
  refine q_putR C cl11 0 0 10 71 rfl cd_A0 ⟨by decide, rfl, by decide⟩ (by decide) (by decide) (ix := 87) lk_477 rfl hinit rfl (fun _ => rfl) (fun _ => rfl) (by decide +kernel) ?_
  refine q_aload_n C 0 (x := 0) rfl (by decide +kernel) ?_
  refine q_bipush C 9 (by decide) (by decide +kernel) ?_
  refine q_newaI C 1 cd_A1 (by decide) (by decide) (fun j => by rw [up2_k _ _ _ _ (by decide)]; rw [mk_Ro_init_out _ 1 (by decide)]; rw [up2_k _ _ _ _ (by decide)]; rw [mk_Ju_init_out _ 1 (by decide)]; rw [up2_k _ _ _ _ (by decide)]; rw [mk_Gr_init_out _ 1 (by decide)]; rw [up2_k _ _ _ _ (by decide)]; rw [mk_Po_init_out _ 1 (by decide)]; rw [up2_k _ _ _ _ (by decide)]; rw [mk_Bo_init_out _ 1 (by decide)]; rw [up2_k _ _ _ _ (by decide)]; rw [mk_La_init_out _ 1 (by decide)]; rw [up2_k _ _ _ _ (by decide)]; rw [mk_Pa_init_out _ 1 (by decide)]; rw [up2_k _ _ _ _ (by decide)]; rw [mk_Re_init_out _ 1 (by decide)]; rw [up2_k _ _ _ _ (by decide)]; rw [mk_Pe_init_out _ 1 (by decide)]; rw [up2_k _ _ _ _ (by decide)]; rw [mk_Tr_init_out _ 1 (by decide)]; rw [up2_k _ _ _ _ (by decide)]; exact hz 1 (by decide) (by decide) j) (okl_of (by decide +kernel)) (okl_of (by decide +kernel)) (by decide) rfl (cK rfl) lk_50 (by decide) ⟨Nat.le_of_ble_eq_true rfl, Nat.le_of_ble_eq_true rfl⟩ (by decide +kernel) ?_
  refine q_ks (ks2 := [0, 3, 4, 5, 6, 7, 8, 9, 10, 11, 12, 13, 14, 15, 16, 17, 18, 19, 20, 21, 22, 23, 24, 25, 26, 27, 28, 29, 79, 80, 81, 82, 83, 84, 85, 30, 31, 32, 33, 34, 35, 36, 37, 38, 39, 40, 41, 42, 43, 44, 45, 46, 47, 48, 49, 50, 51, 52, 53, 54, 55, 56, 57, 58, 59, 60, 61, 62, 63, 64, 65, 66, 67, 68, 69, 70, 71, 73, 74, 75, 76, 77, 78, 72, 1]) rfl ?_
  refine q_putR C cl11 0 0 11 1 rfl cd_A0 ⟨by decide, rfl, by decide⟩ (by decide) (by decide) (ix := 91) lk_478 rfl hinit rfl (fun _ => rfl) (fun _ => rfl) (by decide +kernel) ?_
  refine q_aload_n C 0 (x := 0) rfl (by decide +kernel) ?_
  refine q_bipush C 7 (by decide) (by decide +kernel) ?_
  refine q_newaJ C 2 cd_A2 (by decide) (by decide) (fun j => by rw [up2_k _ _ _ _ (by decide)]; rw [up2_k _ _ _ _ (by decide)]; rw [mk_Ro_init_out _ 2 (by decide)]; rw [up2_k _ _ _ _ (by decide)]; rw [mk_Ju_init_out _ 2 (by decide)]; rw [up2_k _ _ _ _ (by decide)]; rw [mk_Gr_init_out _ 2 (by decide)]; rw [up2_k _ _ _ _ (by decide)]; rw [mk_Po_init_out _ 2 (by decide)]; rw [up2_k _ _ _ _ (by decide)]; rw [mk_Bo_init_out _ 2 (by decide)]; rw [up2_k _ _ _ _ (by decide)]; rw [mk_La_init_out _ 2 (by decide)]; rw [up2_k _ _ _ _ (by decide)]; rw [mk_Pa_init_out _ 2 (by decide)]; rw [up2_k _ _ _ _ (by decide)]; rw [mk_Re_init_out _ 2 (by decide)]; rw [up2_k _ _ _ _ (by decide)]; rw [mk_Pe_init_out _ 2 (by decide)]; rw [up2_k _ _ _ _ (by decide)]; rw [mk_Tr_init_out _ 2 (by decide)]; rw [up2_k _ _ _ _ (by decide)]; exact hz 2 (by decide) (by decide) j) (okl_of (by decide +kernel)) (okl_of (by decide +kernel)) (by decide) rfl (cK rfl) lk_49 (by decide) ⟨Nat.le_of_ble_eq_true rfl, Nat.le_of_ble_eq_true rfl⟩ (by decide +kernel) ?_
  refine q_ks (ks2 := [0, 3, 4, 5, 6, 7, 8, 9, 10, 11, 12, 13, 14, 15, 16, 17, 18, 19, 20, 21, 22, 23, 24, 25, 26, 27, 28, 29, 79, 80, 81, 82, 83, 84, 85, 30, 31, 32, 33, 34, 35, 36, 37, 38, 39, 40, 41, 42, 43, 44, 45, 46, 47, 48, 49, 50, 51, 52, 53, 54, 55, 56, 57, 58, 59, 60, 61, 62, 63, 64, 65, 66, 67, 68, 69, 70, 71, 73, 74, 75, 76, 77, 78, 72, 1, 2]) rfl ?_
  refine q_putR C cl11 0 0 12 2 rfl cd_A0 ⟨by decide, rfl, by decide⟩ (by decide) (by decide) (ix := 95) lk_479 rfl hinit rfl (fun _ => rfl) (fun _ => rfl) (by decide +kernel) ?_
  exact q_vret C hlk hr (by decide +kernel)
