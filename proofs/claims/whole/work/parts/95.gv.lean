/-! GROUNDS: votes with a set of them, ranks, how many a set has -/
def vtG (d : Dt) (g : Nat) : Int := if d 68 g = 0 then (sett d (d 65 g).toNat : Int) else d 60 (d 65 g).toNat
def sgG (d : Dt) (g : Nat) : Int := if d 68 g = 0 then -1 else 1
def gV (d : Dt) (set : Int) (c : Nat) : Nat → Int
  | 0 => sumB (fun e => (sett d e : Int)) c (d 52 0).toNat
  | g + 1 => if bitI set g = 0 then gV d set c g else gV d set c g + bitI (vtG d g) c * sgG d g
theorem bs_b (d : Dt) (g : Nat) (s : Int) (c : Nat) : -1 ≤ bitI s c * sgG d g ∧ bitI s c * sgG d g ≤ 1 := by
  have h := bitI_b s c
  unfold sgG
  rcases h with h | h <;> rw [h] <;> split <;> omega
theorem gV_b {dA dB : Dt} (hB : RB dA dB) (set : Int) (c : Nat) : ∀ g : Nat, -(g : Int) ≤ gV dB set c g ∧ gV dB set c g ≤ 30 + g
  | 0 => by
    have z := hB.1 0 (by decide)
    have h := sumB_b (fun e => (sett dB e : Int)) c (dB 52 0).toNat
    simp only [gV]; omega
  | g + 1 => by
    have ih := gV_b hB set c g
    have h := bs_b dB g (vtG dB g) c
    simp only [gV]
    by_cases q : bitI set g = 0
    · rw [if_pos q]; omega
    · rw [if_neg q]; omega
def rk (v : Nat → Int) (x : Nat) : Nat → Int
  | 0 => 0
  | c + 1 => if v x < v c ∨ (v c = v x ∧ c < x) then rk v x c + 1 else rk v x c
theorem rk_b (v : Nat → Int) (x : Nat) : ∀ c : Nat, 0 ≤ rk v x c ∧ rk v x c ≤ c
  | 0 => by simp only [rk]; omega
  | c + 1 => by
    have ih := rk_b v x c
    simp only [rk]; split <;> omega
theorem rk_cg (v w : Nat → Int) (x : Nat) : ∀ c : Nat, (∀ i, i < c → v i = w i) → v x = w x → rk v x c = rk w x c
  | 0, _, _ => rfl
  | c + 1, h, hx => by simp only [rk, h c (by omega), hx, rk_cg v w x c (fun i hi => h i (by omega)) hx]
theorem rankOf_e (arr : Nat) (x : Nat) (hx : x < 4) (d : Dt) : L_PB_rankOf arr 4 (x : Int) d = some (rk (d arr) x 4, d) := by
  have e1 := lp_seq (f := fun q : Int × Int × Int × Dt => L_PB_rankOf_y4 arr 4 q.1 q.2.1 q.2.2.1 q.2.2.2) (fun c => ((x : Int), rk (d arr) x c, (c : Int), d)) 4 (r := (rk (d arr) x 4, d))
    (by
      intro c hc
      have hb := rk_b (d arr) x c
      dsimp only
      unfold L_PB_rankOf_y4 L_PB_rankOf_b32 L_PB_rankOf_b35
      simp only [tn_i, if_pos (show (c : Int) < 4 by omega), ck_pos (show (0 : Int) ≤ (c : Int) ∧ (c : Int) < ((4 : Nat) : Int) by omega), ck_pos (show (0 : Int) ≤ (x : Int) ∧ (x : Int) < ((4 : Nat) : Int) by omega), w32_i (show c < 2147483647 by omega), w32_s (x := rk (d arr) x c + 1) (by omega) (by omega), rk]
      by_cases q1 : d arr x < d arr c
      · rw [if_pos q1, if_pos (Or.inl q1)]
      · rw [if_neg q1]
        by_cases q2 : d arr c = d arr x
        · rw [if_pos q2]
          by_cases q3 : (c : Int) < (x : Int)
          · rw [if_pos q3, if_pos (Or.inr ⟨q2, by omega⟩)]
          · rw [if_neg q3, if_neg (by omega)]
        · rw [if_neg q2, if_neg (by omega)])
    (by
      dsimp only
      unfold L_PB_rankOf_y4
      rw [if_neg (by omega)]) (by omega)
  unfold L_PB_rankOf L_PB_rankOf_l4
  rw [show lpF (fun q : Int × Int × Int × Dt => L_PB_rankOf_y4 arr 4 q.1 q.2.1 q.2.2.1 q.2.2.2) FU ((x : Int), 0, 0, d) = _ from e1, lb_e, u1_q]
theorem ahead_e (x : Nat) (hx : x < 4) (d : Dt) : L_Mo_ahead (x : Int) d = some (rk (d 64) x 4, d) := by
  have e1 := lp_seq (f := fun q : Int × Int × Int × Dt => L_Mo_ahead_y4 q.1 q.2.1 q.2.2.1 q.2.2.2) (fun c => ((x : Int), rk (d 64) x c, (c : Int), d)) 4 (r := (rk (d 64) x 4, d))
    (by
      intro c hc
      have hb := rk_b (d 64) x c
      dsimp only
      unfold L_Mo_ahead_y4 L_Mo_ahead_b50
      simp only [tn_i, lt_e, if_pos (show (c : Int) < 4 by omega), ck_pos (show (0 : Int) ≤ (c : Int) ∧ (c : Int) < 4 by omega), ck_pos (show (0 : Int) ≤ (x : Int) ∧ (x : Int) < 4 by omega), w32_i (show c < 2147483647 by omega), w32_s (x := rk (d 64) x c + 1) (by omega) (by omega), Int.add_zero, w32_s (x := rk (d 64) x c) (by omega) (by omega), rk]
      by_cases q1 : d 64 x < d 64 c
      · rw [if_pos q1, if_pos (Or.inl q1)]
      · rw [if_neg q1]
        by_cases q2 : d 64 c = d 64 x
        · rw [if_pos q2]
          by_cases q3 : (c : Int) < (x : Int)
          · rw [if_pos q3, if_pos (Or.inr ⟨q2, by omega⟩)]
          · rw [if_neg q3, if_neg (by omega)]
        · rw [if_neg q2, if_neg (by omega)])
    (by
      dsimp only
      unfold L_Mo_ahead_y4
      rw [if_neg (by omega)]) (by omega)
  unfold L_Mo_ahead L_Mo_ahead_l4
  rw [show lpF (fun q : Int × Int × Int × Dt => L_Mo_ahead_y4 q.1 q.2.1 q.2.2.1 q.2.2.2) FU ((x : Int), 0, 0, d) = _ from e1, lb_e, u1_q]
/-- how many a small set has -/
def bk : Nat → Nat → Nat
  | 0, _ => 0
  | f + 1, x => if x = 0 then 0 else 1 + bk f (x &&& (x - 1))
theorem bk_s : ∀ x : Fin 1024, x.val = 0 ∨ bk 10 x.val = 1 + bk 10 (x.val &&& (x.val - 1)) := by decide +kernel
theorem bk_b : ∀ (f x : Nat), bk f x ≤ f
  | 0, _ => Nat.le_refl 0
  | f + 1, x => by
    have := bk_b f (x &&& (x - 1))
    simp only [bk]; split <;> omega
theorem bits_e (x : Nat) (hx : x < 1024) (d : Dt) : L_Mo_bits (x : Int) d = some ((bk 10 x : Int), d) := by
  have hb := bk_b 10 x
  obtain ⟨r, e1, e2⟩ := lpF_FU (f := fun q : Int × Int × Dt => L_Mo_bits_y4 q.1 q.2.1 q.2.2)
    (fun q => ∃ y : Nat, q.2.1 = (y : Int) ∧ y < 1024 ∧ q.2.2 = d ∧ 0 ≤ q.1 ∧ q.1 + (bk 10 y : Int) = (bk 10 x : Int)) (fun q => q.2.1.toNat) (fun r => r = ((bk 10 x : Int), d))
    (by
      rintro ⟨a, b, e⟩ ⟨y, i1, i2, i3, i4, i5⟩
      dsimp only at i1 i3 i4 i5 ⊢
      subst i1
      subst i3
      unfold L_Mo_bits_y4
      rcases bk_s ⟨y, i2⟩ with h | h
      · right
        dsimp only at h
        subst h
        rw [if_pos (by rfl)]
        have h0 : bk 10 0 = 0 := rfl
        rw [h0] at i5
        refine ⟨_, rfl, ?_⟩
        rw [show a = (bk 10 x : Int) by omega]
      · dsimp only at h
        by_cases hy : y = 0
        · subst hy; simp [bk] at h
        · left
          have hle : y &&& (y - 1) ≤ y - 1 := Nat.and_le_right
          rw [if_neg (by omega), w32_s (x := (y : Int) - 1) (by omega) (by omega), show (y : Int) - 1 = ((y - 1 : Nat) : Int) by omega, iand_n y (y - 1) (by omega) (by omega), lt_e, w32_s (x := a + 1) (by omega) (by omega)]
          refine ⟨_, rfl, ⟨y &&& (y - 1), rfl, by omega, rfl, by dsimp only; omega, by dsimp only; omega⟩, ?_⟩
          dsimp only
          omega)
    (0, (x : Int), d) ⟨x, rfl, hx, rfl, by dsimp only; omega, by dsimp only; omega⟩ (by dsimp only; omega)
  unfold L_Mo_bits L_Mo_bits_l4
  rw [e1, lb_e, e2, u1_q]
def bcX (p1 : Int) : Int :=
  let v1 := w32 (p1 - (iand (iushr p1 1) 1431655765))
  let v4 := w32 ((iand v1 858993459) + (iand (iushr v1 2) 858993459))
  let v7 := iand (w32 (v4 + (iushr v4 4))) 252645135
  let v10 := w32 (v7 + (iushr v7 8))
  let v13 := w32 (v10 + (iushr v10 16))
  iand v13 63
theorem bcX_e : ∀ x : Fin 1024, bcX (x.val : Int) = (bk 10 x.val : Int) := by decide +kernel
theorem bitCount_e (x : Nat) (hx : x < 1024) (d : Dt) : L_In_bitCount (x : Int) d = some ((bk 10 x : Int), d) := by
  have h := bcX_e ⟨x, hx⟩
  dsimp only at h
  unfold L_In_bitCount
  rw [lt_e, lt_e, lt_e, lt_e, lt_e, ← h]
  rfl
