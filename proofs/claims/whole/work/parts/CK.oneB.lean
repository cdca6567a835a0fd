/-! TESTS: the reference's states -/
def mG (k s : Nat) (y0 y : Dt) : Prop := (∀ c, c ≠ 0 → (c < 37 ∨ 46 < c) → y c = y0 c) ∧ (∀ j, (j < 34 ∨ 37 < j) → j ≠ 39 → j ≠ 40 → j ≠ 42 → j ≠ 43 → y 0 j = y0 0 j) ∧ (∀ c i, 37 ≤ c → c ≤ 42 → i < k → y c i = y0 c i) ∧ ∀ i, i < s → y 43 i = y0 43 i ∧ y 44 i = y0 44 i
theorem mG.rf (k s : Nat) (y : Dt) : mG k s y y := ⟨fun _ _ _ => rfl, fun _ _ _ _ _ _ => rfl, fun _ _ _ _ _ => rfl, fun _ _ => ⟨rfl, rfl⟩⟩
theorem mG.tr {k s : Nat} {x y z : Dt} (h : mG k s x y) (h2 : mG k s y z) : mG k s x z := ⟨fun c a b => by rw [h2.1 c a b]; exact h.1 c a b, fun j a b c d e => by rw [h2.2.1 j a b c d e]; exact h.2.1 j a b c d e, fun c i a b d => by rw [h2.2.2.1 c i a b d]; exact h.2.2.1 c i a b d, fun i hi => by rw [(h2.2.2.2 i hi).1, (h2.2.2.2 i hi).2]; exact h.2.2.2 i hi⟩
theorem mG.mo {k s k' s' : Nat} {x y : Dt} (h : mG k s x y) (hk : k' ≤ k) (hs : s' ≤ s) : mG k' s' x y := ⟨h.1, h.2.1, fun c i a b d => h.2.2.1 c i a b (by omega), fun i hi => h.2.2.2 i (by omega)⟩
theorem mS.g {s : Nat} {x y : Dt} (h : mS s x y) (k : Nat) : mG k s x y := ⟨fun c a b => h.1 c a (by omega) (by omega) (by omega) (by omega), fun j a b c d _ => h.2.1 j a b c d, fun c i a b _ => by rw [h.1 c (by omega) (by omega) (by omega) (by omega) (by omega)], h.2.2⟩
theorem nxF.g {x y : Dt} (h : nxF x y) (k s : Nat) : mG k s x y := ⟨fun c a _ => h.1 c a, fun j a _ _ _ _ => h.2 j (by omega) (by omega) (by omega) (by omega), fun c i a b _ => by rw [h.1 c (by omega)], fun i _ => ⟨by rw [h.1 43 (by decide)], by rw [h.1 44 (by decide)]⟩⟩
theorem mG.uc {k s : Nat} {x y : Dt} (h : mG k s x y) (c j : Nat) (v : Int) (hc : 37 ≤ c ∧ c ≤ 42) (hj : k ≤ j) : mG k s x (up2 y c j v) := by
  refine h.tr ⟨fun c' a b => up2_K _ _ _ (by omega), fun j' _ _ _ _ _ => by rw [up2_K _ _ _ (by omega)], fun c' i a b d => ?_, fun i _ => ⟨by rw [up2_K _ _ _ (by omega)], by rw [up2_K _ _ _ (by omega)]⟩⟩
  by_cases q : c' = c
  · rw [q, up2_j _ _ _ (by omega)]
  · rw [up2_K _ _ _ q]
theorem mG.uf {k s : Nat} {x y : Dt} (h : mG k s x y) (j : Nat) (v : Int) (hj : j = 39 ∨ j = 40 ∨ j = 42 ∨ j = 43) : mG k s x (up2 y 0 j v) :=
  h.tr ⟨fun c' a b => up2_K _ _ _ a, fun j' _ _ _ _ _ => by rw [up2_j _ _ _ (by omega)], fun c' i a b d => by rw [up2_K _ _ _ (by omega)], fun i _ => ⟨by rw [up2_K _ _ _ (by decide)], by rw [up2_K _ _ _ (by decide)]⟩⟩
def QB (f : Nat → Int) (n N O B : Nat) (y : Dt) (t k s : Nat) : Prop := tkB y f n (ps f n t) ∧ (y 0 40 = 0 ∧ y 0 39 = -1) ∧ (y 0 43 = (k : Int) ∧ y 0 42 = (s : Int)) ∧ (t ≤ N ∧ 3 * k ≤ 3 * O + t ∧ s ≤ B + t) ∧ ∀ i, i < k → y 39 i ≤ (s : Int)
def QE (f : Nat → Int) (n : Nat) (y : Dt) (e : Int × Nat) : Prop := y 0 40 = ftK f n (ps f n e.2) e.1 ∧ y 0 39 = (ps f n e.2 : Int)
theorem segP_of (f g : Nat → Int) : ∀ (l : List (Int × Int)) (s : Nat), (∀ i, i < l.length → f (s + i) = (l.getD i (0, 0)).1 ∧ g (s + i) = (l.getD i (0, 0)).2) → segP f g s l.length = l
  | [], _, _ => rfl
  | a :: l, s, h => by
    have h0 := h 0 (by simp)
    have ih := segP_of f g l (s + 1) (fun i hi => by
      have := h (i + 1) (by simp only [List.length_cons]; omega)
      rw [show s + (i + 1) = s + 1 + i by omega] at this
      exact this)
    show (f s, g s) :: segP f g (s + 1) l.length = a :: l
    rw [ih, show f s = a.1 from h0.1, show g s = a.2 from h0.2]
theorem segP_cg (f g f' g' : Nat → Int) : ∀ (n a : Nat), (∀ i, a ≤ i → i < a + n → f' i = f i ∧ g' i = g i) → segP f' g' a n = segP f g a n
  | 0, _, _ => rfl
  | n + 1, a, h => by
    simp only [segP]
    rw [(h a (by omega) (by omega)).1, (h a (by omega) (by omega)).2, segP_cg f g f' g' n (a + 1) (fun i h1 h2 => h i (by omega) (by omega))]
theorem onesR_mG {y y' : Dt} {k0 s0 i : Nat} {o : One} (h : onesR y i o) (hi : i < k0) (h39 : y 39 i ≤ (s0 : Int)) (m1 : ∀ c i, 37 ≤ c → c ≤ 42 → i < k0 → y' c i = y c i) (m2 : ∀ i, i < s0 → y' 43 i = y 43 i ∧ y' 44 i = y 44 i) : onesR y' i o := by
  obtain ⟨h1, h2, h3, lf, nl, nr, p1, p2, p3, p4, p5, p6⟩ := h
  have e : ∀ c, 37 ≤ c → c ≤ 42 → y' c i = y c i := fun c a b => m1 c i a b hi
  rw [p3] at h39
  refine ⟨by rw [e 42 (by decide) (by decide)]; exact h1, by rw [e 41 (by decide) (by decide)]; exact h2, by rw [e 40 (by decide) (by decide)]; exact h3, lf, nl, nr, by rw [e 37 (by decide) (by decide)]; exact p1, by rw [e 38 (by decide) (by decide)]; exact p2, by rw [e 39 (by decide) (by decide)]; exact p3, p4, ?_, ?_⟩
  · rw [segP_cg (y 43) (y 44) (y' 43) (y' 44) nl lf (fun j _ hj => m2 j (by omega))]; exact p5
  · rw [segP_cg (y 43) (y 44) (y' 43) (y' 44) nr (lf + nl) (fun j _ hj => m2 j (by omega))]; exact p6
theorem QB.nx {f : Nat → Int} {n N O B t k s : Nat} {y : Dt} (hN : tN f n N) (h : QB f n N O B y t k s) (hk : ¬ KK f n t = 0) : ∃ y', L_Mo_next y = some (0, y') ∧ QB f n N O B y' (t + 1) k s ∧ nxF y y' := by
  obtain ⟨h1, ⟨h2, h2'⟩, ⟨h3, h3'⟩, ⟨h4, h4', h4''⟩, h5⟩ := h
  have ht := hN.lt h4 hk
  obtain ⟨y', e1, e2, e3⟩ := nextB_e h1 hN.2.1
  have u : ∀ j, 38 ≤ j → y' 0 j = y 0 j := fun j hj => e2.2 j (by omega) (by omega) (by omega) (by omega)
  refine ⟨y', e1, ⟨e3, ⟨by rw [u 40 (by decide)]; exact h2, by rw [u 39 (by decide)]; exact h2'⟩, ⟨by rw [u 43 (by decide)]; exact h3, by rw [u 42 (by decide)]; exact h3'⟩, ⟨by omega, by omega, by omega⟩, fun i hi => by rw [e2.1 39 (by decide)]; exact h5 i hi⟩, e2⟩
theorem QB.uc {f : Nat → Int} {n N O B t k s : Nat} {y : Dt} (h : QB f n N O B y t k s) (c j : Nat) (v : Int) (hc : c ≠ 0 ∧ c ≠ 25 ∧ c ≠ 39) : QB f n N O B (up2 y c j v) t k s := by
  obtain ⟨h1, h2, h3, h4, h5⟩ := h
  have u : up2 y c j v 0 = y 0 := up2_K _ _ _ (by omega)
  refine ⟨h1.cg (fun j _ => by rw [u]) (up2_K _ _ _ (by omega)), by rw [u]; exact h2, by rw [u]; exact h3, h4, fun i hi => by rw [up2_K _ _ _ (by omega)]; exact h5 i hi⟩
theorem QB.fl {f : Nat → Int} {n N O B t k s : Nat} {y : Dt} (h : QB f n N O B y t k s) (e : Int) : ∃ y', L_Mo_fails e y = some (0, y') ∧ QE f n y' (e, t) ∧ ∀ k s, mG k s y y' := by
  refine ⟨_, fails_e h.1 h.2.1.1 e, ⟨?_, ?_⟩, fun k s => ((mG.rf k s y).uf 40 _ (by omega)).uf 39 _ (by omega)⟩
  · rw [up2_j _ _ _ (by decide), up2_s]
  · rw [up2_s]
theorem QB.s1 {f : Nat → Int} {n N O B t k s : Nat} {y : Dt} (h : QB f n N O B y t k s) {c : Int} (h1 : 40 ≤ c ∧ c ≤ 62) (hk : KK f n t = c) : L_Mo_isSign c y = some (1, y) ∧ y 0 37 = c := by
  have hk' : kd f n (ps f n t) = c := hk
  refine ⟨by rw [isSign_e h.1 c h1.1 h1.2, if_pos hk'], ?_⟩
  obtain ⟨_, _, _, _, _, _, e7, _⟩ := tok_e f n (ps f n t) h.1.1.2.2
  rw [h.1.2.2.2.2]; exact ((e7 c h1.1 h1.2).2 hk').2
theorem QB.s0 {f : Nat → Int} {n N O B t k s : Nat} {y : Dt} (h : QB f n N O B y t k s) {c : Int} (h1 : 40 ≤ c ∧ c ≤ 62) (hk : ¬ KK f n t = c) : L_Mo_isSign c y = some (0, y) := by
  have hk' : ¬ kd f n (ps f n t) = c := hk
  rw [isSign_e h.1 c h1.1 h1.2, if_neg hk']
theorem QB.ky {f : Nat → Int} {n N O B t k s : Nat} {y : Dt} (hN : tN f n N) (h : QB f n N O B y t k s) (c : Int) : L_Mo_isKey c y = some (if kB (KK f n t) = c then 1 else 0, y) := isKey_e h.1 hN.2.1 c
theorem kB_i (k : Int) : (kB k = 0 ↔ k = 16) ∧ (kB k = 6 ↔ k = 18) ∧ (kB k = 7 ↔ k = 23) ∧ (kB k = 8 ↔ k = 24) ∧ (kB k = 9 ↔ k = 25) ∧ (kB k = 10 ↔ k = 26) := by
  unfold kB
  by_cases h16 : k = 16
  · subst h16; decide
  by_cases h17 : k = 17
  · subst h17; decide
  by_cases h18 : k = 18
  · subst h18; decide
  by_cases h19 : k = 19
  · subst h19; decide
  by_cases h20 : k = 20
  · subst h20; decide
  by_cases h21 : k = 21
  · subst h21; decide
  by_cases h22 : k = 22
  · subst h22; decide
  rw [if_neg h16, if_neg h17, if_neg h18, if_neg h19, if_neg h20, if_neg h21, if_neg h22]
  by_cases h : 23 ≤ k ∧ k ≤ 26
  · rw [if_pos h]; omega
  · rw [if_neg h]; omega
theorem sum_q {f : Nat → Int} {n N O B t k s : Nat} {y : Dt} (hN : tN f n N) (hB : B ≤ 3000) (h : QB f n N O B y t k s) : ∃ r y', L_Mo_sum y = some (r, y') ∧ Sum.elim (fun q => r = 1 ∧ QB f n N O B y' q.1 k (s + q.2.length) ∧ mS s y y' ∧ segP (y' 43) (y' 44) s q.2.length = q.2) (fun e => r = 0 ∧ QE f n y' e ∧ mS s y y') (sS (KK f n) (VV f n) 601 6 t false 0 []) := by
  obtain ⟨h1, h2, ⟨h3, h3'⟩, ⟨h4, h4', h4''⟩, h5⟩ := h
  have hv := vOk_e f n hN.2.2.2
  obtain ⟨r, y', e1, e2⟩ := sum_e hN (⟨h1, h2, ⟨h3', fun i hi => absurd hi (by simp)⟩, mS.rf s y, h4⟩ : PB f n N s y y t []) B hB h4''
  refine ⟨r, y', e1, ?_⟩
  cases hs : sS (KK f n) (VV f n) 601 6 t false 0 [] with
  | inr e =>
    rw [hs] at e2
    exact ⟨e2.1, ⟨e2.2.1, e2.2.2.1⟩, e2.2.2.2⟩
  | inl q =>
    rw [hs] at e2
    obtain ⟨rfl, g1, g2, g3, g4, g5⟩ := e2
    obtain ⟨a1, a2, a3⟩ := sS_top _ _ hv hs
    refine ⟨rfl, ⟨g1, g2, ⟨by rw [g4.2.1 43 (by decide) (by decide) (by decide) (by decide)]; exact h3, g3.1⟩, ⟨g5, by omega, by omega⟩, fun i hi => ?_⟩, g4, segP_of _ _ _ _ g3.2⟩
    rw [g4.1 39 (by decide) (by decide) (by decide) (by decide) (by decide)]
    have := h5 i hi
    omega
