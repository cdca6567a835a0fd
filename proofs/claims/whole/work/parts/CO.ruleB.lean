/-! RULES: the reference's TESTS, NAMES, HOURS -/
def mQ (T r k s : Nat) (y0 y : Dt) : Prop := (∀ c, c ≠ 0 → (c < 28 ∨ 46 < c) → y c = y0 c) ∧ (∀ j, (j < 34 ∨ 37 < j) → j ≠ 39 → j ≠ 40 → j ≠ 42 → j ≠ 43 → y 0 j = y0 0 j) ∧ (∀ j, j ≠ T → y 28 j = y0 28 j) ∧ (∀ c i, 29 ≤ c → c ≤ 36 → i < r → y c i = y0 c i) ∧ (∀ c i, 37 ≤ c → c ≤ 42 → i < k → y c i = y0 c i) ∧ ∀ i, i < s → y 43 i = y0 43 i ∧ y 44 i = y0 44 i
theorem mQ.rf (T r k s : Nat) (y : Dt) : mQ T r k s y y := ⟨fun _ _ _ => rfl, fun _ _ _ _ _ _ => rfl, fun _ _ => rfl, fun _ _ _ _ _ => rfl, fun _ _ _ _ _ => rfl, fun _ _ => ⟨rfl, rfl⟩⟩
theorem mQ.tr {T r k s : Nat} {x y z : Dt} (h : mQ T r k s x y) (h2 : mQ T r k s y z) : mQ T r k s x z := ⟨fun c a b => by rw [h2.1 c a b]; exact h.1 c a b, fun j a b c d e => by rw [h2.2.1 j a b c d e]; exact h.2.1 j a b c d e, fun j a => by rw [h2.2.2.1 j a]; exact h.2.2.1 j a, fun c i a b d => by rw [h2.2.2.2.1 c i a b d]; exact h.2.2.2.1 c i a b d, fun c i a b d => by rw [h2.2.2.2.2.1 c i a b d]; exact h.2.2.2.2.1 c i a b d, fun i hi => by rw [(h2.2.2.2.2.2 i hi).1, (h2.2.2.2.2.2 i hi).2]; exact h.2.2.2.2.2 i hi⟩
theorem mQ.mo {T r k s r' k' s' : Nat} {x y : Dt} (h : mQ T r k s x y) (hr : r' ≤ r) (hk : k' ≤ k) (hs : s' ≤ s) : mQ T r' k' s' x y := ⟨h.1, h.2.1, h.2.2.1, fun c i a b d => h.2.2.2.1 c i a b (by omega), fun c i a b d => h.2.2.2.2.1 c i a b (by omega), fun i hi => h.2.2.2.2.2 i (by omega)⟩
theorem mG.q {k s : Nat} {x y : Dt} (h : mG k s x y) (T r : Nat) : mQ T r k s x y := ⟨fun c a b => h.1 c a (by omega), h.2.1, fun j _ => by rw [h.1 28 (by decide) (by decide)], fun c i a b _ => by rw [h.1 c (by omega) (by omega)], h.2.2.1, h.2.2.2⟩
theorem mQ.uc {T r k s : Nat} {x y : Dt} (h : mQ T r k s x y) (c j : Nat) (v : Int) (hc : 29 ≤ c ∧ c ≤ 36) (hj : r ≤ j) : mQ T r k s x (up2 y c j v) := by
  refine h.tr ⟨fun c' a b => up2_K _ _ _ (by omega), fun j' _ _ _ _ _ => by rw [up2_K _ _ _ (by omega)], fun j' _ => by rw [up2_K _ _ _ (by omega)], fun c' i a b d => ?_, fun c' i a b d => by rw [up2_K _ _ _ (by omega)], fun i _ => ⟨by rw [up2_K _ _ _ (by omega)], by rw [up2_K _ _ _ (by omega)]⟩⟩
  by_cases q : c' = c
  · rw [q, up2_j _ _ _ (by omega)]
  · rw [up2_K _ _ _ q]
theorem onesL_Q {y y' : Dt} {k0 s0 : Nat} (h39 : ∀ i, i < k0 → y 39 i ≤ (s0 : Int)) (m1 : ∀ c i, 37 ≤ c → c ≤ 42 → i < k0 → y' c i = y c i) (m2 : ∀ i, i < s0 → y' 43 i = y 43 i ∧ y' 44 i = y 44 i) : ∀ (l : List One) (k : Nat), onesL y k l → k + l.length ≤ k0 → onesL y' k l
  | [], _, _, _ => trivial
  | o :: l, k, h, hk => by
    rw [List.length_cons] at hk
    exact ⟨onesR_mG h.1 (show k < k0 by omega) (h39 k (by omega)) m1 m2, onesL_Q h39 m1 m2 l (k + 1) h.2 (by omega)⟩
theorem tests_e {f : Nat → Int} {n N O B t k s r : Nat} {y : Dt} (hN : tN f n N) (hB : B ≤ 3000) (hO1 : O ≤ 1200) (h : QB f n N O B y t k s) (hr : r < 120) (T : Nat) : ∃ rr y', L_Mo_tests (r : Int) y = some (rr, y') ∧ Sum.elim (fun q => rr = 1 ∧ ∃ s', s ≤ s' ∧ QB f n N O B y' q.1 (k + q.2.1.length + q.2.2.length) s' ∧ onesL y' k q.2.1 ∧ onesL y' (k + q.2.1.length) q.2.2 ∧ y' 33 r = ((k + q.2.1.length : Nat) : Int) ∧ y' 34 r = ((k + q.2.1.length + q.2.2.length : Nat) : Int) ∧ (∀ c, 28 ≤ c → c ≤ 36 → c ≠ 33 → c ≠ 34 → y' c = y c) ∧ mQ T r k s y y') (fun e => rr = 0 ∧ QE f n y' e ∧ mQ T r k s y y') (ttS (KK f n) (VV f n) t) := by
  have n10 : ¬ ((1 : Int) = 0) := by decide
  have cr : (0 : Int) ≤ (r : Int) ∧ (r : Int) < 120 := by omega
  obtain ⟨r1, y1, e1, e2⟩ := test_e hN hB hO1 h
  unfold L_Mo_tests ttS
  rw [e1, bd_e]
  cases h1 : tsS (KK f n) (VV f n) 601 t true with
  | inr e =>
    rw [h1] at e2
    obtain ⟨rfl, e3, e4⟩ := e2
    rw [if_pos rfl, Sum.elim_inr]
    exact ⟨0, y1, rfl, rfl, e3, e4.q T r⟩
  | inl q =>
    rw [h1] at e2
    obtain ⟨rfl, s1, le1, q1, o1, m1⟩ := e2
    rw [if_neg n10, ck_pos cr, ck_pos cr, tn_i, q1.2.2.1.1, Sum.elim_inl]
    obtain ⟨y2, hy2⟩ : ∃ y2, y2 = up2 (up2 y1 33 r ((k + q.2.length : Nat) : Int)) 34 r ((k + q.2.length : Nat) : Int) := ⟨_, rfl⟩
    rw [← hy2]
    have q2 : QB f n N O B y2 q.1 (k + q.2.length) s1 := by rw [hy2]; exact (q1.uc 33 r _ (by decide)).uc 34 r _ (by decide)
    have m2 : mQ T r k s y y2 := by rw [hy2]; exact ((m1.q T r).uc 33 r _ (by decide) (by omega)).uc 34 r _ (by decide) (by omega)
    have c2 : ∀ c, c ≠ 33 → c ≠ 34 → y2 c = y1 c := fun c a b => by rw [hy2, up2_K _ _ _ b, up2_K _ _ _ a]
    have o2 : onesL y2 k q.2 := onesL_cg (fun c _ _ => c2 c (by omega) (by omega)) q.2 k o1
    have v33 : y2 33 r = ((k + q.2.length : Nat) : Int) := by rw [hy2, up2_K _ _ _ (by decide), up2_s]
    have v34 : y2 34 r = ((k + q.2.length : Nat) : Int) := by rw [hy2, up2_s]
    have k2 : ∀ c, 28 ≤ c → c ≤ 36 → c ≠ 33 → c ≠ 34 → y2 c = y c := fun c a b d e => by rw [c2 c d e]; exact m1.1 c (by omega) (by omega)
    rw [q2.ky hN 6, bd_e]
    try dsimp only
    by_cases kk : KK f n q.1 = 18
    · obtain ⟨y3, d1, q3, n3⟩ := q2.nx hN (by omega)
      obtain ⟨r4, y4, e4, e5⟩ := test_e hN hB hO1 q3
      rw [if_pos ((kB_i _).2.1.2 kk), if_neg n10, d1, bd_e, e4, bd_e, if_pos kk]
      cases h2 : tsS (KK f n) (VV f n) 601 (q.1 + 1) true with
      | inr e =>
        rw [h2] at e5
        obtain ⟨rfl, e6, e7⟩ := e5
        rw [if_pos rfl, Sum.elim_inr]
        exact ⟨0, y4, rfl, rfl, e6, (m2.tr ((n3.g k s).q T r)).tr ((e7.q T r).mo (Nat.le_refl r) (by omega) (by omega))⟩
      | inl u =>
        rw [h2] at e5
        obtain ⟨rfl, s4, le4, q4, o4, m4⟩ := e5
        rw [if_neg n10, ck_pos cr, q4.2.2.1.1, Sum.elim_inl]
        have m24 : mG (k + q.2.length) s1 y2 y4 := (n3.g _ _).tr m4
        have o24 : onesL y4 k q.2 := onesL_Q q2.2.2.2.2 m24.2.2.1 m24.2.2.2 q.2 k o2 (by omega)
        have u34 : ∀ c, c ≠ 34 → up2 y4 34 r ((k + q.2.length + u.2.length : Nat) : Int) c = y4 c := fun c a => up2_K _ _ _ a
        refine ⟨1, _, rfl, rfl, s4, by omega, q4.uc 34 r _ (by decide), onesL_cg (fun c _ _ => u34 c (by omega)) q.2 k o24, onesL_cg (fun c _ _ => u34 c (by omega)) u.2 _ o4, ?_, up2_s _ _ _ _, fun c a b d e => ?_, (m2.tr ((m24.q T r).mo (Nat.le_refl r) (by omega) (by omega))).uc 34 r _ (by decide) (by omega)⟩
        · rw [u34 33 (by decide), m24.1 33 (by decide) (by decide)]; exact v33
        · rw [u34 c e, m24.1 c (by omega) (by omega)]; exact k2 c a b d e
    · rw [if_neg (fun z => kk ((kB_i _).2.1.1 z)), if_pos rfl, if_neg kk]
      exact ⟨1, y2, rfl, rfl, s1, le1, q2, o2, trivial, v33, v34, k2, m2⟩
theorem number_e {f : Nat → Int} {n N O B t k s : Nat} {y : Dt} (h : QB f n N O B y t k s) (lo hi : Int) : Sum.elim (fun v => L_Mo_number lo hi y = some (1, y) ∧ y 0 37 = v ∧ lo ≤ v ∧ v ≤ hi ∧ KK f n t = 2) (fun e => ∃ y', L_Mo_number lo hi y = some (0, y') ∧ QE f n y' e ∧ ∀ k s, mG k s y y') (numS (KK f n) (VV f n) t lo hi) := by
  have h34 : y 0 34 = tyB f n (ps f n t) := h.1.2.2.2.1
  have h37 : y 0 37 = vB f n (ps f n t) := h.1.2.2.2.2
  obtain ⟨_, _, _, _, e5, e6, _⟩ := tok_e f n (ps f n t) h.1.1.2.2
  unfold L_Mo_number L_Mo_number_b30 numS
  rw [h34]
  by_cases k2 : KK f n t = 2
  · have k2' : kd f n (ps f n t) = 2 := k2
    have v37 : y 0 37 = VV f n t := by rw [h37]; exact (e6 k2').1
    rw [if_pos (e5.2 k2'), v37, if_pos k2]
    by_cases w : lo ≤ VV f n t ∧ VV f n t ≤ hi
    · rw [if_pos w, if_neg (by omega), if_neg (by omega), Sum.elim_inl]
      exact ⟨rfl, rfl, w.1, w.2, k2⟩
    · rw [if_neg w, Sum.elim_inr]
      obtain ⟨y', c1, c2⟩ := h.fl 6
      rw [c1, bd_e, if_pos rfl]
      by_cases z : VV f n t < lo
      · rw [if_pos z]; exact ⟨y', rfl, c2⟩
      · rw [if_neg z, if_pos (by omega)]; exact ⟨y', rfl, c2⟩
  · rw [if_neg (fun z => k2 (e5.1 z)), if_neg k2, Sum.elim_inr]
    obtain ⟨y', c1, c2⟩ := h.fl 2
    rw [c1, bd_e]
    exact ⟨y', rfl, c2⟩
theorem readNames_e {f : Nat → Int} {n N O B t k s r : Nat} {y : Dt} (hN : tN f n N) (h : QB f n N O B y t k s) (hr : r < 120) (T : Nat) : ∃ rr y', L_Mo_readNames (r : Int) y = some (rr, y') ∧ Sum.elim (fun v => rr = 1 ∧ QB f n N O B y' (t + 1) k s ∧ y' 30 r = v ∧ (1 ≤ v ∧ v ≤ 4) ∧ (∀ c, c ≠ 0 → c ≠ 30 → y' c = y c) ∧ mQ T r k s y y') (fun e => rr = 0 ∧ QE f n y' e ∧ mQ T r k s y y') (numS (KK f n) (VV f n) t 1 4) := by
  have n10 : ¬ ((1 : Int) = 0) := by decide
  have cr : (0 : Int) ≤ (r : Int) ∧ (r : Int) < 120 := by omega
  have e := number_e h 1 4
  unfold L_Mo_readNames
  cases h1 : numS (KK f n) (VV f n) t 1 4 with
  | inr q =>
    rw [h1] at e
    obtain ⟨y', e1, e2, e3⟩ := e
    rw [e1, bd_e, if_pos rfl]
    exact ⟨0, y', rfl, rfl, e2, (e3 k s).q T r⟩
  | inl v =>
    rw [h1] at e
    obtain ⟨e1, e2, e3, e4, e5⟩ := e
    have qa := h.uc 30 r v (by decide)
    obtain ⟨y', d1, d2, d3⟩ := qa.nx hN (by omega)
    rw [e1, bd_e, if_neg n10, ck_pos cr, tn_i, e2, d1, bd_e]
    exact ⟨1, y', rfl, rfl, d2, by rw [d3.1 30 (by decide), up2_s], ⟨e3, e4⟩, fun c a b => by rw [d3.1 c a, up2_K _ _ _ b], ((mQ.rf T r k s y).uc 30 r v (by decide) (by omega)).tr ((d3.g k s).q T r)⟩
theorem readHours_e {f : Nat → Int} {n N O B t k s r : Nat} {y : Dt} (hN : tN f n N) (h : QB f n N O B y t k s) (hr : r < 120) (T : Nat) : ∃ rr y', L_Mo_readHours (r : Int) y = some (rr, y') ∧ Sum.elim (fun v => rr = 1 ∧ QB f n N O B y' (t + 3) k s ∧ y' 30 r = v.1 ∧ y' 31 r = v.2 ∧ (∀ c, c ≠ 0 → c ≠ 30 → c ≠ 31 → y' c = y c) ∧ mQ T r k s y y') (fun e => rr = 0 ∧ QE f n y' e ∧ mQ T r k s y y') (hrS (KK f n) (VV f n) t) := by
  have n10 : ¬ ((1 : Int) = 0) := by decide
  have cr : (0 : Int) ≤ (r : Int) ∧ (r : Int) < 120 := by omega
  have e := number_e h 0 1439
  unfold L_Mo_readHours hrS
  cases h1 : numS (KK f n) (VV f n) t 0 1439 with
  | inr q =>
    rw [h1] at e
    obtain ⟨y', e1, e2, e3⟩ := e
    rw [e1, bd_e, if_pos rfl, Sum.elim_inr]
    exact ⟨0, y', rfl, rfl, e2, (e3 k s).q T r⟩
  | inl v =>
    rw [h1] at e
    obtain ⟨e1, e2, e3, e4, e5⟩ := e
    have qa := h.uc 30 r v (by decide)
    obtain ⟨ya, d1, d2, d3⟩ := qa.nx hN (by omega)
    have a30 : ya 30 r = v := by rw [d3.1 30 (by decide), up2_s]
    have ma : mQ T r k s y ya := ((mQ.rf T r k s y).uc 30 r v (by decide) (by omega)).tr ((d3.g k s).q T r)
    rw [e1, bd_e, if_neg n10, ck_pos cr, tn_i, e2, d1, bd_e, d2.ky hN 7, bd_e, Sum.elim_inl]
    by_cases kk : KK f n (t + 1) = 23
    · obtain ⟨yb, g1, g2, g3⟩ := d2.nx hN (by omega)
      have b30 : yb 30 r = v := by rw [g3.1 30 (by decide)]; exact a30
      have mb : mQ T r k s y yb := ma.tr ((g3.g k s).q T r)
      rw [if_pos ((kB_i _).2.2.1.2 kk), if_neg n10, g1, bd_e, ck_pos cr, b30, if_pos kk]
      have e' := number_e g2 v 1439
      show ∃ rr y', _ ∧ Sum.elim _ _ (Sum.elim _ _ (numS (KK f n) (VV f n) (t + 1 + 1) v 1439))
      cases h2 : numS (KK f n) (VV f n) (t + 1 + 1) v 1439 with
      | inr q =>
        rw [h2] at e'
        obtain ⟨y', i1, i2, i3⟩ := e'
        rw [i1, bd_e, if_pos rfl, Sum.elim_inr]
        exact ⟨0, y', rfl, rfl, i2, mb.tr ((i3 k s).q T r)⟩
      | inl w =>
        rw [h2] at e'
        obtain ⟨i1, i2, i3, i4, i5⟩ := e'
        have qb := g2.uc 31 r w (by decide)
        obtain ⟨yc, j1, j2, j3⟩ := qb.nx hN (by omega)
        rw [i1, bd_e, if_neg n10, ck_pos cr, i2, j1, bd_e, Sum.elim_inl]
        refine ⟨1, yc, rfl, rfl, j2, by rw [j3.1 30 (by decide), up2_K _ _ _ (by decide)]; exact b30, by rw [j3.1 31 (by decide), up2_s], fun c a b d => by rw [j3.1 c a, up2_K _ _ _ d, g3.1 c a, d3.1 c a, up2_K _ _ _ b], (mb.uc 31 r w (by decide) (by omega)).tr ((j3.g k s).q T r)⟩
    · obtain ⟨yb, g1, g2, g3⟩ := d2.fl 2
      rw [if_neg (fun z => kk ((kB_i _).2.2.1.1 z)), if_pos rfl, g1, bd_e, if_neg kk]
      exact ⟨0, yb, rfl, rfl, g2, ma.tr ((g3 k s).q T r)⟩
