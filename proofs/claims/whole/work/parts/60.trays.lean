/-! pure: words for the lifted functions; TRAYS -/
theorem bd_s {β : Type} {r : Int} {d : Dt} {f : Int → Dt → Option β} : bd (some (r, d)) f = f r d := rfl
theorem lb_s {α β : Type} {a : α} {f : α → Option β} : lb (some a) f = f a := rfl
theorem ck_n {α : Type} {c : Prop} [Decidable c] {k : Option α} (h : ¬ c) : ck c k = none := if_neg h
theorem w32_s {x : Int} (h1 : -2147483648 ≤ x) (h2 : x < 2147483648) : w32 x = x := w32_id ⟨h1, h2⟩
theorem w64_s {x : Int} (h1 : -9223372036854775808 ≤ x) (h2 : x < 9223372036854775808) : w64 x = x := w64_id ⟨h1, h2⟩
theorem fillJ_run (arr len : Nat) (f t v : Int) (d : Dt) (hl : len < 100000) (h0 : 0 ≤ f) (h1 : f ≤ t) (h2 : t ≤ len) : ∃ d', L_Ar_fill_aJIIJ arr len f t v d = some (0, d') ∧ (∀ k, k ≠ arr → d' k = d k) ∧ ∀ j : Nat, d' arr j = if f ≤ (j : Int) ∧ (j : Int) < t then v else d arr j := by
  obtain ⟨r, e1, e2, e3⟩ := lpF_FU (f := fun q : Int × Int × Int × Dt => L_Ar_fill_aJIIJ_y10 arr len q.1 q.2.1 q.2.2.1 q.2.2.2)
    (fun q => q.1 = t ∧ q.2.1 = v ∧ f ≤ q.2.2.1 ∧ q.2.2.1 ≤ t ∧ (∀ k, k ≠ arr → q.2.2.2 k = d k) ∧ ∀ j : Nat, q.2.2.2 arr j = if f ≤ (j : Int) ∧ (j : Int) < q.2.2.1 then v else d arr j)
    (fun q => (t - q.2.2.1).toNat)
    (fun r => (∀ k, k ≠ arr → r k = d k) ∧ ∀ j : Nat, r arr j = if f ≤ (j : Int) ∧ (j : Int) < t then v else d arr j)
    (by
      rintro ⟨x1, x2, x3, e⟩ ⟨i1, i2, i3, i4, i5, i6⟩
      dsimp only at i1 i2 i3 i4 i5 i6 ⊢
      subst i1
      subst i2
      unfold L_Ar_fill_aJIIJ_y10
      by_cases h : x3 < x1
      · left
        have hw : w32 (x3 + 1) = x3 + 1 := w32_s (by omega) (by omega)
        rw [if_pos h, ck_pos ⟨by omega, by omega⟩, hw]
        refine ⟨_, rfl, ⟨rfl, rfl, by dsimp only; omega, by dsimp only; omega, fun k hk => ?_, fun j => ?_⟩, by dsimp only; omega⟩
        · dsimp only
          rw [up2_K _ _ _ hk]; exact i5 k hk
        · dsimp only
          by_cases hj : j = x3.toNat
          · subst hj
            rw [up2_s, if_pos (by omega)]
          · rw [up2_j _ _ _ hj, i6 j]
            by_cases h2 : f ≤ (j : Int) ∧ (j : Int) < x3
            · rw [if_pos h2, if_pos (by omega)]
            · rw [if_neg h2, if_neg (by omega)]
      · right
        rw [if_neg h]
        refine ⟨_, rfl, i5, fun j => ?_⟩
        have hx : x3 = x1 := by omega
        subst hx
        exact i6 j)
    (t, v, f, d) ⟨rfl, rfl, by dsimp only; omega, by dsimp only; omega, fun _ _ => rfl, fun j => by dsimp only; rw [if_neg (by omega)]⟩ (by dsimp only; omega)
  refine ⟨r, ?_, e2, e3⟩
  unfold L_Ar_fill_aJIIJ L_Ar_rangeCheck
  rw [ck_pos hl, if_neg (by omega), if_neg (by omega), if_neg (by omega), bd_s]
  show lb (L_Ar_fill_aJIIJ_l10 arr len t v f d) (fun q => u0 q (fun d9 => some (0, d9))) = some (0, r)
  unfold L_Ar_fill_aJIIJ_l10
  rw [e1]
  rfl
def RS (dA dB : Dt) : Prop := dA 0 0 = dB 0 0
def RT (dA dB : Dt) : Prop := (∀ t, t < 4 → dA 5 t = dB 1 t ∧ dA 6 t = dB 2 t ∧ 0 ≤ dA 5 t ∧ dA 5 t ≤ 3 ∧ -1 ≤ dA 6 t ∧ dA 6 t ≤ 60) ∧ ∀ j, j < 240 → dA 4 j = dB 3 j
theorem canBe_e (p : Int) (d : Dt) : L_Tr_canBe p d = some (if 0 ≤ p ∧ p < 4 then 1 else 0, d) := by
  unfold L_Tr_canBe
  by_cases h : p < 0
  · rw [if_pos h, if_neg (by omega)]
  · rw [if_neg h]
    by_cases h2 : p < 4
    · rw [if_pos h2, if_pos (by omega)]
    · rw [if_neg h2, if_neg (by omega)]
theorem isTray_e (p : Int) (d : Dt) : L_Mo_isTray p d = some (if 0 ≤ p ∧ p < 4 then 1 else 0, d) := by
  unfold L_Mo_isTray
  by_cases h : p < 0
  · rw [if_pos h, if_neg (by omega)]
  · rw [if_neg h]
    by_cases h2 : p < 4
    · rw [if_pos h2, if_pos (by omega)]
    · rw [if_neg h2, if_neg (by omega)]
theorem within_e (x a b : Int) (d : Dt) : L_PB_within x a b d = some (if a ≤ x ∧ x ≤ b then 1 else 0, d) := by
  unfold L_PB_within
  by_cases h : x < a
  · rw [if_pos h, if_neg (by omega)]
  · rw [if_neg h]
    by_cases h2 : b < x
    · rw [if_pos h2, if_neg (by omega)]
    · rw [if_neg h2, if_pos (by omega)]
/-- how a place of a TRAY is wrong -/
def stPl (tr pl many : Int) : Int := if 0 ≤ tr ∧ tr < 4 then (if many = -1 then 2 else if 0 ≤ pl ∧ pl < many then 0 else 3) else 1
theorem plA (p1 p2 : Int) (d : Dt) (h2 : c32 p2) : L_PB_trayPlaceStatus p1 p2 d = some (stPl p1 p2 (d 6 p1.toNat), d) := by
  obtain ⟨a1, a2⟩ := h2
  unfold L_PB_trayPlaceStatus L_Tr_isThere L_Tr_reaches stPl
  rw [canBe_e, bd_s]
  by_cases h : 0 ≤ p1 ∧ p1 < 4
  · rw [if_pos h, if_neg (by decide), if_pos h, ck_pos h, w64_s (by omega) (by omega)]
    by_cases hm : d 6 p1.toNat = -1
    · rw [if_pos hm, bd_s, if_pos rfl, if_pos hm]
    · rw [if_neg hm, bd_s, if_neg (by decide), if_neg hm]
      by_cases hp : p2 < 0
      · rw [if_pos hp, bd_s, if_pos rfl, if_neg (by omega)]
      · rw [if_neg hp, ck_pos h]
        by_cases hq : d 6 p1.toNat < p2 + 1
        · rw [if_pos hq, bd_s, if_pos rfl, if_neg (by omega)]
        · rw [if_neg hq, bd_s, if_neg (by decide), if_pos (by omega)]
  · rw [if_neg h, if_pos rfl, if_neg h]
theorem plB (p1 p2 : Int) (d : Dt) : L_Mo_wrongPlace p1 p2 d = some (stPl p1 p2 (d 2 p1.toNat), d) := by
  unfold L_Mo_wrongPlace stPl
  rw [isTray_e, bd_s]
  by_cases h : 0 ≤ p1 ∧ p1 < 4
  · rw [if_pos h, if_neg (by decide), if_pos h, ck_pos h]
    by_cases hm : d 2 p1.toNat = -1
    · rw [if_pos hm, if_pos hm]
    · rw [if_neg hm, if_neg hm]
      by_cases hp : p2 < 0
      · rw [if_pos hp, if_neg (by omega)]
      · rw [if_neg hp, ck_pos h]
        by_cases hq : p2 < d 2 p1.toNat
        · rw [if_pos hq, if_pos (by omega)]
        · rw [if_neg hq, if_neg (by omega)]
  · rw [if_neg h, if_pos rfl, if_neg h]
/-- a number cut to a sort -/
def cutv (sort v : Int) : Int := if sort = 0 then w8 (w32 v) else if sort = 1 then w16 (w32 v) else if sort = 2 then w32 v else v
theorem cutA (s v : Int) (d : Dt) : L_Tr_cut s v d = some (cutv s v, d) := by
  unfold L_Tr_cut cutv
  by_cases h : s = 0
  · rw [if_pos h, if_pos h]
  · rw [if_neg h, if_neg h]
    by_cases h : s = 1
    · rw [if_pos h, if_pos h]
    · rw [if_neg h, if_neg h]
      by_cases h : s = 2
      · rw [if_pos h, if_pos h]
      · rw [if_neg h, if_neg h]
theorem cutB (s v : Int) (d : Dt) : L_Mo_cut v s d = some (cutv s v, d) := by
  unfold L_Mo_cut cutv
  by_cases h : s = 0
  · rw [if_pos h, if_pos h]
  · rw [if_neg h, if_neg h]
    by_cases h : s = 1
    · rw [if_pos h, if_pos h]
    · rw [if_neg h, if_neg h]
      by_cases h : s = 2
      · rw [if_pos h, if_pos h]
      · rw [if_neg h, if_neg h]
/-- a place of a TRAY as a place of the row -/
theorem ix_A {p1 p2 : Int} (h : 0 ≤ p1 ∧ p1 < 4) (h2 : 0 ≤ p2 ∧ p2 < 60) : w32 (w32 (p1 * 60) + p2) = 60 * p1 + p2 := by
  rw [w32_s (x := p1 * 60) (by omega) (by omega), w32_s (by omega) (by omega)]; omega
theorem ix_B {p1 p2 : Int} (h : 0 ≤ p1 ∧ p1 < 4) (h2 : 0 ≤ p2 ∧ p2 < 60) : w32 (w32 (60 * p1) + p2) = 60 * p1 + p2 := by
  rw [w32_s (x := 60 * p1) (by omega) (by omega), w32_s (by omega) (by omega)]
theorem RT.st {dA dB : Dt} {u v : Int} (h : RT dA dB) : RT (up2 dA 0 0 u) (up2 dB 0 0 v) := by
  unfold RT at h ⊢
  simp only [up2_K _ _ _ (show (5 : Nat) ≠ 0 by decide), up2_K _ _ _ (show (1 : Nat) ≠ 0 by decide), up2_K _ _ _ (show (6 : Nat) ≠ 0 by decide), up2_K _ _ _ (show (2 : Nat) ≠ 0 by decide), up2_K _ _ _ (show (4 : Nat) ≠ 0 by decide), up2_K _ _ _ (show (3 : Nat) ≠ 0 by decide)]
  exact h
theorem stPl_0 {p1 p2 m : Int} (hs : stPl p1 p2 m = 0) : (0 ≤ p1 ∧ p1 < 4) ∧ 0 ≤ p2 ∧ p2 < m := by
  unfold stPl at hs
  by_cases h : 0 ≤ p1 ∧ p1 < 4
  · rw [if_pos h] at hs
    by_cases hm : m = -1
    · rw [if_pos hm] at hs; cases hs
    · rw [if_neg hm] at hs
      by_cases hq : 0 ≤ p2 ∧ p2 < m
      · exact ⟨h, hq⟩
      · rw [if_neg hq] at hs; cases hs
  · rw [if_neg h] at hs; cases hs
theorem stPl_n {p1 p2 m : Int} (hs : ¬ stPl p1 p2 m = 0) : 0 < stPl p1 p2 m := by
  revert hs
  unfold stPl
  split
  · split
    · intro _; decide
    · split
      · intro h; exact absurd rfl h
      · intro _; decide
  · intro _; decide
theorem stPl_e {dA dB : Dt} {p1 p2 : Int} (hR : RT dA dB) : stPl p1 p2 (dA 6 p1.toNat) = stPl p1 p2 (dB 2 p1.toNat) := by
  by_cases h : 0 ≤ p1 ∧ p1 < 4
  · rw [(hR.1 p1.toNat (by omega)).2.1]
  · unfold stPl; rw [if_neg h, if_neg h]
theorem RT.put {dA dB : Dt} {i : Nat} {v : Int} (h : RT dA dB) : RT (up2 dA 4 i v) (up2 dB 3 i v) := by
  unfold RT at h ⊢
  simp only [up2_K _ _ _ (show (5 : Nat) ≠ 4 by decide), up2_K _ _ _ (show (1 : Nat) ≠ 3 by decide), up2_K _ _ _ (show (6 : Nat) ≠ 4 by decide), up2_K _ _ _ (show (2 : Nat) ≠ 3 by decide)]
  refine ⟨h.1, fun j hj => ?_⟩
  by_cases hi : j = i
  · subst hi; rw [up2_s, up2_s]
  · rw [up2_j _ _ _ hi, up2_j _ _ _ hi]; exact h.2 j hj
theorem T_write {p1 p2 p3 : Int} {dA dB : Dt} (h2 : c32 p2) (hR : RT dA dB) : ∃ (r : Int) (dA' dB' : Dt), L_PB_write p1 p2 p3 dA = some (r, dA') ∧ L_Mo_write p1 p2 p3 dB = some (r, dB') ∧ RS dA' dB' ∧ RT dA' dB' := by
  unfold L_PB_write L_Mo_write
  rw [plA p1 p2 dA h2, plB, bd_s, bd_s, stPl_e hR]
  by_cases hs : stPl p1 p2 (dB 2 p1.toNat) = 0
  · obtain ⟨h, hp⟩ := stPl_0 hs
    have ht := hR.1 p1.toNat (by omega)
    have hp6 : 0 ≤ p2 ∧ p2 < 60 := by have := ht.2.2.2.2.2; rw [ht.2.1] at this; omega
    rw [hs, if_pos rfl, if_pos rfl, ck_pos h, cutB, bd_s, ix_B h hp6, ck_pos ⟨by omega, by omega⟩]
    unfold L_Tr_put L_Mo_write_b34 L_Mo_is L_PB_write_b27
    rw [ck_pos h, cutA, bd_s, ix_A h hp6, ck_pos ⟨by omega, by omega⟩, bd_s, if_pos rfl, bd_s]
    rw [up2_K _ _ _ (show (5 : Nat) ≠ 0 by decide), up2_k _ _ _ _ (show (0 : Nat) ≠ 4 by decide), up2_s, if_pos rfl, ht.1]
    refine ⟨_, _, _, rfl, rfl, ?_, ?_⟩
    · unfold RS; rw [up2_k _ _ _ _ (show (0 : Nat) ≠ 4 by decide), up2_s, up2_s]
    · have h9 := (hR.st (u := 0) (v := 0)).put (i := (60 * p1 + p2).toNat) (v := cutv (dB 1 p1.toNat) p3)
      have h8 : RT (up2 (up2 dA 0 0 0) 4 (60 * p1 + p2).toNat (cutv (dB 1 p1.toNat) p3)) (up2 dB 3 (60 * p1 + p2).toNat (cutv (dB 1 p1.toNat) p3)) := by
        unfold RT at h9 ⊢
        simp only [up2_K _ _ _ (show (1 : Nat) ≠ 0 by decide), up2_K _ _ _ (show (2 : Nat) ≠ 0 by decide), up2_K _ _ _ (show (1 : Nat) ≠ 3 by decide), up2_K _ _ _ (show (2 : Nat) ≠ 3 by decide)] at h9 ⊢
        refine ⟨h9.1, fun j hj => ?_⟩
        rw [h9.2 j hj]
        by_cases hi : j = (60 * p1 + p2).toNat
        · subst hi; rw [up2_s, up2_s]
        · rw [up2_j _ _ _ hi, up2_j _ _ _ hi, up2_k _ _ _ _ (show (3 : Nat) ≠ 0 by decide)]
      have h7 := h8
      unfold RT at h7 ⊢
      simp only [up2_K _ _ _ (show (1 : Nat) ≠ 0 by decide), up2_K _ _ _ (show (2 : Nat) ≠ 0 by decide), up2_K _ _ _ (show (3 : Nat) ≠ 0 by decide)]
      exact h7
  · rw [if_neg hs, if_neg hs]
    unfold L_PB_write_b27 L_Mo_write_b34 L_Mo_is
    rw [up2_s, if_neg hs, if_neg hs, bd_s]
    refine ⟨_, _, _, rfl, rfl, ?_, hR.st⟩
    unfold RS; rw [up2_s, up2_s]
theorem T_read {p1 p2 : Int} {dA dB : Dt} (h2 : c32 p2) (hR : RT dA dB) : ∃ (r : Int) (dA' dB' : Dt), L_PB_read p1 p2 dA = some (r, dA') ∧ L_Mo_read p1 p2 dB = some (r, dB') ∧ RS dA' dB' ∧ RT dA' dB' := by
  unfold L_PB_read L_Mo_read
  rw [plA p1 p2 dA h2, plB, bd_s, bd_s, stPl_e hR]
  by_cases hs : stPl p1 p2 (dB 2 p1.toNat) = 0
  · obtain ⟨h, hp⟩ := stPl_0 hs
    have ht := hR.1 p1.toNat (by omega)
    have hp6 : 0 ≤ p2 ∧ p2 < 60 := by have := ht.2.2.2.2.2; rw [ht.2.1] at this; omega
    rw [hs, if_pos rfl, if_neg (by decide)]
    unfold L_Tr_at
    rw [ix_A h hp6, ix_B h hp6, ck_pos ⟨by omega, by omega⟩, ck_pos ⟨by omega, by omega⟩, bd_s]
    have hj := hR.2 (60 * p1 + p2).toNat (by omega)
    refine ⟨_, _, up2 dB 0 0 0, rfl, ?_, ?_, hR.st⟩
    · rw [up2_K _ _ _ (show (4 : Nat) ≠ 0 by decide), hj]
    · unfold RS; rw [up2_s, up2_s]
  · rw [if_neg hs, if_pos (stPl_n hs)]
    refine ⟨_, _, _, rfl, rfl, ?_, hR.st⟩
    unfold RS; rw [up2_s, up2_s]
theorem loop_tray (x1 x3 : Int) (d : Dt) (h1 : 0 ≤ x1 ∧ x1 < 4) (h3 : 0 ≤ x3 ∧ x3 ≤ 60) : ∃ d', L_Mo_tray_l49 x1 x3 0 d = some d' ∧ (∀ k, k ≠ 3 → d' k = d k) ∧ ∀ j : Nat, d' 3 j = if 60 * x1 ≤ (j : Int) ∧ (j : Int) < 60 * x1 + x3 then 0 else d 3 j := by
  unfold L_Mo_tray_l49
  obtain ⟨r, e1, e2, e3⟩ := lpF_FU (f := fun q : Int × Int × Int × Dt => L_Mo_tray_y49 q.1 q.2.1 q.2.2.1 q.2.2.2)
    (fun q => q.1 = x1 ∧ q.2.1 = x3 ∧ 0 ≤ q.2.2.1 ∧ q.2.2.1 ≤ x3 ∧ (∀ k, k ≠ 3 → q.2.2.2 k = d k) ∧ ∀ j : Nat, q.2.2.2 3 j = if 60 * x1 ≤ (j : Int) ∧ (j : Int) < 60 * x1 + q.2.2.1 then 0 else d 3 j)
    (fun q => (x3 - q.2.2.1).toNat)
    (fun r => (∀ k, k ≠ 3 → r k = d k) ∧ ∀ j : Nat, r 3 j = if 60 * x1 ≤ (j : Int) ∧ (j : Int) < 60 * x1 + x3 then 0 else d 3 j)
    (by
      rintro ⟨y1, y3, y4, e⟩ ⟨i1, i2, i3, i4, i5, i6⟩
      dsimp only at i1 i2 i3 i4 i5 i6 ⊢
      subst i1
      subst i2
      unfold L_Mo_tray_y49
      by_cases h : y4 < y3
      · left
        rw [if_pos h, ix_B h1 ⟨by omega, by omega⟩, w32_s (x := y4 + 1) (by omega) (by omega), ck_pos ⟨by omega, by omega⟩]
        refine ⟨_, rfl, ⟨rfl, rfl, by dsimp only; omega, by dsimp only; omega, fun k hk => ?_, fun j => ?_⟩, by dsimp only; omega⟩
        · dsimp only
          rw [up2_K _ _ _ hk]; exact i5 k hk
        · dsimp only
          by_cases hj : j = (60 * y1 + y4).toNat
          · subst hj
            rw [up2_s, if_pos (by omega)]
          · rw [up2_j _ _ _ hj, i6 j]
            by_cases h2 : 60 * y1 ≤ (j : Int) ∧ (j : Int) < 60 * y1 + y4
            · rw [if_pos h2, if_pos (by omega)]
            · rw [if_neg h2, if_neg (by omega)]
      · right
        rw [if_neg h]
        have hx : y4 = y3 := by omega
        subst hx
        exact ⟨_, rfl, i5, i6⟩)
    (x1, x3, 0, d) ⟨rfl, rfl, (show (0 : Int) ≤ 0 by decide), by dsimp only; omega, fun _ _ => rfl, fun j => by dsimp only; rw [if_neg (by omega)]⟩ (by dsimp only; omega)
  exact ⟨r, e1, e2, e3⟩
theorem T_tray {p1 p2 p3 : Int} {dA dB : Dt} (hR : RT dA dB) : ∃ (r : Int) (dA' dB' : Dt), L_PB_tray p1 p2 p3 dA = some (r, dA') ∧ L_Mo_tray p1 p2 p3 dB = some (r, dB') ∧ RS dA' dB' ∧ RT dA' dB' := by
  have bad : (∃ (r : Int) (dA' dB' : Dt), L_PB_tray_b40 p1 p2 p3 0 dA = some (r, dA') ∧ L_Mo_tray_b26 dB = some (r, dB') ∧ RS dA' dB' ∧ RT dA' dB') := by
    unfold L_PB_tray_b40 L_PB_tray_b53 L_Mo_tray_b26 L_Mo_is
    rw [if_pos rfl, if_pos rfl, if_neg (by decide), bd_s]
    refine ⟨_, _, _, rfl, rfl, ?_, hR.st⟩
    unfold RS; rw [up2_s, up2_s]
  unfold L_PB_tray L_Mo_tray
  rw [canBe_e, isTray_e, bd_s, bd_s]
  by_cases h : 0 ≤ p1 ∧ p1 < 4
  · rw [if_pos h, if_neg (by decide), if_neg (by decide), within_e, bd_s]
    by_cases hs : 0 ≤ p2 ∧ p2 ≤ 3
    · rw [if_pos hs, if_neg (by decide), within_e, bd_s, if_neg (show ¬ p2 < 0 by omega), if_neg (show ¬ 3 < p2 by omega)]
      by_cases hm : 0 ≤ p3 ∧ p3 ≤ 60
      · rw [if_pos hm, if_neg (by decide), if_neg (show ¬ p3 < 0 by omega), if_neg (show ¬ 60 < p3 by omega), ck_pos h, ck_pos h]
        unfold L_PB_tray_b40 L_PB_tray_b53 L_Tr_lay
        rw [if_neg (by decide), if_neg (by decide), ck_pos h, ck_pos h]
        rw [w32_s (x := p1 * 60) (by omega) (by omega), w32_s (x := p1 * 60 + p3) (by omega) (by omega)]
        obtain ⟨eA, a1, a2, a3⟩ := fillJ_run 4 240 (p1 * 60) (p1 * 60 + p3) 0 (up2 (up2 (up2 dA 0 0 0) 5 p1.toNat p2) 6 p1.toNat p3) (by decide) (by omega) (by omega) (by omega)
        obtain ⟨eB, b1, b2, b3⟩ := loop_tray p1 p3 (up2 (up2 dB 1 p1.toNat p2) 2 p1.toNat p3) h hm
        rw [a1, b1, bd_s, bd_s, lb_s]
        unfold u0 L_Mo_is
        dsimp only
        rw [if_pos rfl, bd_s]
        refine ⟨_, _, _, rfl, rfl, ?_, ?_⟩
        · unfold RS
          rw [a2 0 (by decide), up2_s, up2_k _ _ _ _ (by decide), up2_k _ _ _ _ (by decide), up2_s]
        · refine ⟨fun t ht => ?_, fun j hj => ?_⟩
          · have hr := hR.1 t ht
            rw [up2_K _ _ _ (show (1 : Nat) ≠ 0 by decide), up2_K _ _ _ (show (2 : Nat) ≠ 0 by decide), a2 5 (by decide), a2 6 (by decide), b2 1 (by decide), b2 2 (by decide)]
            rw [up2_K _ _ _ (show (5 : Nat) ≠ 6 by decide), up2_K _ _ _ (show (1 : Nat) ≠ 2 by decide)]
            by_cases hp : t = p1.toNat
            · subst hp
              rw [up2_s, up2_s, up2_s, up2_s]
              exact ⟨rfl, rfl, by omega, by omega, by omega, by omega⟩
            · rw [up2_j _ _ _ hp, up2_j _ _ _ hp, up2_j _ _ _ hp, up2_j _ _ _ hp, up2_k _ _ _ _ (show (5 : Nat) ≠ 0 by decide), up2_k _ _ _ _ (show (6 : Nat) ≠ 5 by decide), up2_k _ _ _ _ (show (6 : Nat) ≠ 0 by decide), up2_k _ _ _ _ (show (2 : Nat) ≠ 1 by decide)]
              exact hr
          · rw [up2_K _ _ _ (show (3 : Nat) ≠ 0 by decide), a3 j, b3 j]
            by_cases hc : 60 * p1 ≤ (j : Int) ∧ (j : Int) < 60 * p1 + p3
            · rw [if_pos (by omega), if_pos hc]
            · rw [if_neg (by omega), if_neg hc, up2_k _ _ _ _ (show (4 : Nat) ≠ 6 by decide), up2_k _ _ _ _ (show (4 : Nat) ≠ 5 by decide), up2_k _ _ _ _ (show (4 : Nat) ≠ 0 by decide), up2_k _ _ _ _ (show (3 : Nat) ≠ 2 by decide), up2_k _ _ _ _ (show (3 : Nat) ≠ 1 by decide)]
              exact hR.2 j hj
      · rw [if_neg hm, if_pos rfl]
        by_cases h3 : p3 < 0
        · rw [if_pos h3]; exact bad
        · rw [if_neg h3, if_pos (show 60 < p3 by omega)]; exact bad
    · rw [if_neg hs, if_pos rfl]
      by_cases h3 : p2 < 0
      · rw [if_pos h3]; exact bad
      · rw [if_neg h3, if_pos (show 3 < p2 by omega)]; exact bad
  · rw [if_neg h, if_pos rfl, if_pos rfl]; exact bad
