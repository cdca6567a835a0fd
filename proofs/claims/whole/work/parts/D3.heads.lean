/-! text: what goes ahead of the RULES, each side -/
theorem w8_i {x : Int} (h1 : -128 ≤ x) (h2 : x < 128) : w8 x = x := by
  unfold w8 Int.bmod
  have : ((256 : Nat) : Int) = 256 := rfl
  rw [this]
  dsimp only
  split <;> omega
noncomputable def tkE (xs : Dt) (q33_ : Int × Dt) : Option (Int × Dt) := u1 q33_ (fun v23_ d24_ => if v23_ = 0 then some ((-1), d24_) else ck (d24_ GH 0 = xs GH 0 ∧ xs GH 0 ≤ 5) (ck (stt d24_ (d24_ 25 6)) (ckP (okRI d24_) (some ((d24_ 25 6), (mkst d24_))))))
theorem takeHead {xs : Dt} {T n : Nat} (hT : T ≤ 4) (hG : xs GH 0 = (T : Int) + 1) (h25 : xs 25 6 = 79 + 7 * (T : Int)) (hn : n ≤ 600) : ∃ (x0 : Dt) (N : Nat), L_Pa_take (n : Int) xs = lb (lpF stK FU (1, 0, x0)) (tkE xs) ∧ tkA x0 (xs 26) n N ∧ (∀ k, k ≠ 25 → k ≠ 27 → k ≠ 28 → k ≠ 29 → k ≠ 79 + 7 * T → x0 k = xs k) ∧ (∀ j, j ≠ 1 → j ≠ 5 → j ≠ 7 → j ≠ 8 → x0 25 j = xs 25 j) ∧ (x0 25 1 = 0 ∧ x0 25 5 = 0 ∧ x0 25 7 = 0 ∧ x0 25 8 = -1) ∧ (∀ j, j ≠ 2 → j ≠ 3 → x0 (79 + 7 * T) j = xs (79 + 7 * T) j) ∧ x0 (79 + 7 * T) 2 = 0 ∧ x0 (79 + 7 * T) 3 = 0 := by
  have hst : stt xs (79 + 7 * (T : Int)) := stt_t hG T (by omega)
  have hst2 : stt (up2 xs (79 + 7 * T) 2 0) (79 + 7 * (T : Int)) := stt_up hst (up2_K _ _ _ (by show 1000000 ≠ _; omega))
  obtain ⟨xc, hxc⟩ : ∃ xc, xc = up2 (up2 xs (79 + 7 * T) 2 0) (79 + 7 * T) 3 0 := ⟨_, rfl⟩
  obtain ⟨xd, hxd⟩ : ∃ xd, xd = up2 (up2 (up2 (up2 xc 25 1 0) 25 7 0) 25 8 (-1)) 25 5 0 := ⟨_, rfl⟩
  obtain ⟨N, x0, e1, e2, e3⟩ := scan_e xd n hn
  have kc : ∀ k, k ≠ 79 + 7 * T → xc k = xs k := fun k hk => by rw [hxc, up2_K _ _ _ hk, up2_K _ _ _ hk]
  have kd' : ∀ k, k ≠ 25 → xd k = xc k := fun k hk => by rw [hxd, up2_K _ _ _ hk, up2_K _ _ _ hk, up2_K _ _ _ hk, up2_K _ _ _ hk]
  have k26 : xd 26 = xs 26 := by rw [kd' 26 (by decide), kc 26 (by omega)]
  rw [k26] at e3
  have x25 : x0 25 = xd 25 := e2 25 (by decide) (by decide) (by decide)
  have x79 : x0 (79 + 7 * T) = xc (79 + 7 * T) := by rw [e2 _ (by omega) (by omega) (by omega), kd' _ (by omega)]
  refine ⟨x0, N, ?_, e3, fun k k1 k2 k3 k4 k5 => by rw [e2 k k2 k3 k4, kd' k k1, kc k k5], fun j j1 j5 j7 j8 => by rw [x25, hxd, up2_j _ _ _ j5, up2_j _ _ _ j8, up2_j _ _ _ j7, up2_j _ _ _ j1, kc 25 (by omega)], ⟨?_, ?_, ?_, ?_⟩, fun j j2 j3 => by rw [x79, hxc, up2_j _ _ _ j3, up2_j _ _ _ j2], ?_, ?_⟩
  · unfold L_Pa_take L_St_clear L_Pa_take_l36
    rw [h25, ck_pos hst, ck_pos hst, tn79, Nat.add_zero, ck_pos hst2, ← hxc, bd_e, ← hxd, e1, bd_e]
    rfl
  · rw [x25, hxd, up2_j _ _ _ (by decide), up2_j _ _ _ (by decide), up2_j _ _ _ (by decide), up2_s]
  · rw [x25, hxd, up2_s]
  · rw [x25, hxd, up2_j _ _ _ (by decide), up2_j _ _ _ (by decide), up2_s]
  · rw [x25, hxd, up2_j _ _ _ (by decide), up2_s]
  · rw [x79, hxc, up2_j _ _ _ (by decide), up2_s]
  · rw [x79, hxc, up2_s]
def txE (q82_ : Int × Int × Int × Int × Dt) : Option (Int × Dt) := u4 q82_ (fun v76_ v77_ v78_ v79_ d80_ => L_Mo_text_b170 v76_ v77_ v78_ v79_ d80_)
theorem textHead {dB : Dt} {f : Nat → Int} {T n : Nat} {p2 p3 : Int} (hT : T ≤ 4) (h41 : dB 0 41 = (T : Int)) (hn : n ≤ 600) (hn2 : (n : Int) ≤ dB 0 32) (h2 : 0 ≤ p2 ∧ p2 ≤ 9999) (h3 : 1 ≤ p3 ∧ p3 ≤ 127) (hf : ∀ k, k < n → dB 24 k = f k) (hb : ∀ k, k < n → -128 ≤ f k ∧ f k ≤ 127) : ∃ y0 : Dt, L_Mo_text (n : Int) p2 p3 dB = lb (lpF stX FU (p2, p3, dB 0 42, dB 0 43, y0)) txE ∧ tkB y0 f n (ps f n 0) ∧ (y0 0 40 = 0 ∧ y0 0 39 = -1 ∧ y0 0 32 = 0 ∧ y0 28 T = 0) ∧ (∀ c, c ≠ 0 → c ≠ 25 → c ≠ 28 → y0 c = dB c) ∧ (∀ j, j ≠ T → y0 28 j = dB 28 j) ∧ ∀ j, (j < 32 ∨ j = 38 ∨ 40 < j) → y0 0 j = dB 0 j := by
  obtain ⟨ya, hya⟩ : ∃ ya, ya = up2 dB 0 33 (n : Int) := ⟨_, rfl⟩
  have ka : ∀ c, c ≠ 0 → ya c = dB c := fun c hc => by rw [hya, up2_K _ _ _ hc]
  have fa : ∀ j, j ≠ 33 → ya 0 j = dB 0 j := fun j hj => by rw [hya, up2_j _ _ _ hj]
  obtain ⟨yb, e1, e2, e3⟩ := lp_inv (f := fun q : Int × Int × Int × Int × Dt => L_Mo_text_y58 q.1 q.2.1 q.2.2.1 q.2.2.2.1 q.2.2.2.2) (fun i y => ((n : Int), p2, p3, (i : Int), y)) (fun y => (p2, p3, y))
    (fun i y => (∀ c, c ≠ 25 → y c = ya c) ∧ ∀ k, k < i → y 25 k = f k) n
    (by
      rintro i y hi ⟨g1, g2⟩
      refine ⟨up2 y 25 i (f i), ?_, fun c hc => by rw [up2_K _ _ _ hc]; exact g1 c hc, fun k hk => ?_⟩
      · dsimp only
        unfold L_Mo_text_y58
        rw [if_pos (by omega), ck_pos ⟨by omega, by omega⟩, ck_pos ⟨by omega, by omega⟩, tn_i, w32_i (show i < 2147483647 by omega), g1 24 (by decide), ka 24 (by decide), hf i hi, w8_i (hb i hi).1 (by have := (hb i hi).2; omega)]
      · by_cases q : k = i
        · rw [q, up2_s]
        · rw [up2_j _ _ _ q]; exact g2 k (by omega))
    (by
      rintro y _
      dsimp only
      unfold L_Mo_text_y58
      rw [if_neg (by omega)]) (by omega) ya ⟨fun _ _ => rfl, fun k hk => by omega⟩
  obtain ⟨yc, hyc⟩ : ∃ yc, yc = up2 (up2 (up2 (up2 (up2 yb 0 32 0) 0 40 0) 0 39 (-1)) 0 36 0) 28 T 0 := ⟨_, rfl⟩
  have kc : ∀ c, c ≠ 0 → c ≠ 28 → yc c = yb c := fun c h0 h28 => by rw [hyc, up2_K _ _ _ h28, up2_K _ _ _ h0, up2_K _ _ _ h0, up2_K _ _ _ h0, up2_K _ _ _ h0]
  have fc : ∀ j, j ≠ 32 → j ≠ 40 → j ≠ 39 → j ≠ 36 → yc 0 j = yb 0 j := fun j q1 q2 q3 q4 => by rw [hyc, up2_K _ _ _ (by decide), up2_j _ _ _ q4, up2_j _ _ _ q3, up2_j _ _ _ q2, up2_j _ _ _ q1]
  have b0 : ∀ j, yb 0 j = ya 0 j := fun j => by rw [e2 0 (by decide)]
  have t0 : txB yc f n := by
    refine ⟨?_, fun k hk => ?_, hb⟩
    · rw [fc 33 (by decide) (by decide) (by decide) (by decide), b0, hya, up2_s]
    · rw [kc 25 (by decide) (by decide)]; exact e3 k hk
  obtain ⟨y0, n1, n2, n3⟩ := next_e t0 hn 0 (by omega) (by rw [hyc, up2_K _ _ _ (by decide), up2_s]; rfl)
  have c41 : yb 0 41 = (T : Int) := by rw [b0, fa 41 (by decide)]; exact h41
  have n10 : ¬ ((1 : Int) = 0) := by decide
  refine ⟨y0, ?_, n3, ⟨?_, ?_, ?_, ?_⟩, fun c c0 c25 c28 => by rw [n2.1 c c0, kc c c0 c28, e2 c c25, ka c c0], fun j hj => by rw [n2.1 28 (by decide), hyc, up2_j _ _ _ hj, up2_K _ _ _ (by decide), up2_K _ _ _ (by decide), up2_K _ _ _ (by decide), up2_K _ _ _ (by decide), e2 28 (by decide), ka 28 (by decide)], fun j hj => by rw [n2.2 j (by omega) (by omega) (by omega) (by omega), fc j (by omega) (by omega) (by omega) (by omega), b0, fa j (by omega)]⟩
  · unfold L_Mo_text L_Mo_text_l58 L_Mo_text_l130
    rw [if_neg (by omega), if_neg (by omega), e_Mo_isDay, bd_e, if_pos h2, if_neg n10, if_neg (by omega), if_neg (by omega), if_neg (by omega), ← hya]
    rw [show lpF (fun q : Int × Int × Int × Int × Dt => L_Mo_text_y58 q.1 q.2.1 q.2.2.1 q.2.2.2.1 q.2.2.2.2) FU ((n : Int), p2, p3, 0, ya) = _ from e1, lb_e, u2_q, c41, ck_pos ⟨by omega, by omega⟩, lt_e, lt_e, tn_i, ← hyc, n1, bd_e, b0, b0, fa 42 (by decide), fa 43 (by decide)]
    rfl
  · rw [n2.2 40 (by decide) (by decide) (by decide) (by decide), hyc, up2_K _ _ _ (by decide), up2_j _ _ _ (by decide), up2_j _ _ _ (by decide), up2_s]
  · rw [n2.2 39 (by decide) (by decide) (by decide) (by decide), hyc, up2_K _ _ _ (by decide), up2_j _ _ _ (by decide), up2_s]
  · rw [n2.2 32 (by decide) (by decide) (by decide) (by decide), hyc, up2_K _ _ _ (by decide), up2_j _ _ _ (by decide), up2_j _ _ _ (by decide), up2_j _ _ _ (by decide), up2_s]
  · rw [n2.1 28 (by decide), hyc, up2_s]
