/-! WHO: the reference finds the nearest anew -/
/-- the reference's cells that no call leaves anything in for the next -/
def sB (k : Nat) : Bool := [4, 5, 6, 25, 45, 46, 47, 48, 49, 50, 51, 56, 58, 62, 63, 64, 67, 72, 73, 76, 77, 78, 79, 80].contains k
def sF (j : Nat) : Bool := [33, 34, 35, 36, 37, 40, 68, 71, 80].contains j
def Core (dB d : Dt) : Prop := (∀ k, k ≠ 0 → sB k = false → d k = dB k) ∧ ∀ j, sF j = false → d 0 j = dB 0 j
theorem Core.rf (d : Dt) : Core d d := ⟨fun _ _ _ => rfl, fun _ _ => rfl⟩
theorem Core.fr {dB x x' : Dt} {o : List (Nat × Nat)} {a : List Nat} (h : Core dB x) (hf : Fr o a false x x') (h1 : (o.all (fun p => (p.1 == 0 && sF p.2) || sB p.1)) = true) (h2 : (a.all sB) = true) : Core dB x' := by
  have ha : ∀ k, sB k = false → a.contains k = false := by
    intro k hk
    cases hc : a.contains k with
    | false => rfl
    | true =>
      have := List.all_eq_true.mp h2 k (List.contains_iff_mem.mp hc)
      rw [hk] at this; cases this
  constructor
  · intro k hk hs
    rw [← h.1 k hk hs]
    funext j
    refine hf.2 k j ?_ (ha k hs) (fun q => by cases q)
    cases hc : o.contains (k, j) with
    | false => rfl
    | true =>
      have := List.all_eq_true.mp h1 (k, j) (List.contains_iff_mem.mp hc)
      have hk0 : (k == 0) = false := by simpa using hk
      simp only [hs, hk0, Bool.false_and, Bool.or_false] at this
      cases this
  · intro j hj
    rw [← h.2 j hj]
    refine hf.2 0 j ?_ (ha 0 (by decide)) (fun q => by cases q)
    cases hc : o.contains (0, j) with
    | false => rfl
    | true =>
      have := List.all_eq_true.mp h1 (0, j) (List.contains_iff_mem.mp hc)
      have h0 : sB 0 = false := by decide
      simp only [h0, hj, Bool.and_false, Bool.or_false] at this
      cases this
theorem Core.s456 {dB x x' : Dt} (h : Core dB x) (a : ∀ k, k ≠ 4 → k ≠ 5 → k ≠ 6 → x' k = x k) : Core dB x' := by
  have hn : ∀ k, sB k = false → k ≠ 4 ∧ k ≠ 5 ∧ k ≠ 6 := by
    intro k hk
    refine ⟨?_, ?_, ?_⟩ <;> (intro q; subst q; revert hk; decide)
  constructor
  · intro k hk hs
    obtain ⟨q1, q2, q3⟩ := hn k hs
    rw [a k q1 q2 q3]; exact h.1 k hk hs
  · intro j hj
    rw [a 0 (by decide) (by decide) (by decide)]; exact h.2 j hj
theorem Core.s80 {dB x : Dt} (h : Core dB x) (v : Int) : Core dB (up2 x 0 80 v) := by
  constructor
  · intro k hk hs; rw [up2_K _ _ _ hk]; exact h.1 k hk hs
  · intro j hj
    have : j ≠ 80 := by intro q; subst q; revert hj; decide
    rw [up2_j _ _ _ this]; exact h.2 j hj
def wP (d : Dt) (e n : Nat) : Int := if nF d e n ≤ d 0 79 then nP d e n else -1
def wN (d : Dt) (e n : Nat) : Int := if nF d e n ≤ d 0 79 then nF d e n else 100000000
def wS (d : Dt) (e n : Nat) : Int := if nF d e n ≤ d 0 79 then nS d e n else 1
theorem whoStep (dB x : Dt) (e i : Nat) (he : e < 90) (hi : i < 40) (hn : (i : Int) < dB 0 7) (hq : 0 ≤ dB 0 79 ∧ dB 0 79 ≤ 30) (n1 : isNm (dB 57 e)) (n2 : isNm (dB 7 i)) (f1 : Core dB x) (f3 : x 0 80 = wS dB e i) : ∃ x', L_Mo_whoIs_y14 (e : Int) (wP dB e i) (wN dB e i) (i : Int) x = some (Sum.inl ((e : Int), wP dB e (i + 1), wN dB e (i + 1), ((i + 1 : Nat) : Int), x')) ∧ Core dB x' ∧ x' 0 80 = wS dB e (i + 1) := by
  have e57 : x 57 e = dB 57 e := by rw [f1.1 57 (by decide) (by decide)]
  have e7 : x 7 i = dB 7 i := by rw [f1.1 7 (by decide) (by decide)]
  obtain ⟨d1, a1, a2⟩ := farB' (p1 := x 57 e) (p2 := x 7 i) (by rw [e57]; exact n1) (by rw [e7]; exact n2) x
  have g1 : Core dB d1 := f1.s456 a2
  have g3 : d1 0 80 = wS dB e i := by rw [a2 0 (by decide) (by decide) (by decide)]; exact f3
  rw [e57, e7] at a1
  have hfb := farV_b (dB 57 e) (dB 7 i)
  obtain ⟨D, hD⟩ : ∃ D, D = dB_ dB e i := ⟨_, rfl⟩
  have hDb : 0 ≤ D ∧ D ≤ 50 := by rw [hD]; exact distV_b _ _ _ _
  have key : L_Mo_whoIs_y14 (e : Int) (wP dB e i) (wN dB e i) (i : Int) x = (if dB 0 79 < D then L_Mo_whoIs_b121 (e : Int) (wP dB e i) (wN dB e i) (i : Int) d1 else if wN dB e i < D then L_Mo_whoIs_b121 (e : Int) (wP dB e i) (wN dB e i) (i : Int) d1 else if D < wN dB e i then L_Mo_whoIs_b106 (e : Int) (wP dB e i) (wN dB e i) (i : Int) D 1 d1 else L_Mo_whoIs_b106 (e : Int) (wP dB e i) (wN dB e i) (i : Int) D 0 d1) := by
    unfold L_Mo_whoIs_y14 L_Mo_whoIs_b73
    simp only [f1.2 7 (by decide), if_pos hn, tn_i, ck_pos (show (0 : Int) ≤ (e : Int) ∧ (e : Int) < 90 by omega), ck_pos (show (0 : Int) ≤ (i : Int) ∧ (i : Int) < 40 by omega), e57, e7, a1, bd_e, g1.1 53 (by decide) (by decide), g1.1 8 (by decide) (by decide), w32_s (x := 3 * farV (dB 57 e) (dB 7 i)) (by omega) (by omega), w32_s (x := 3 * farV (dB 57 e) (dB 7 i) + 0) (by omega) (by omega), w32_s (x := 3 * farV (dB 57 e) (dB 7 i) + 2) (by omega) (by omega), lt_e, g1.2 79 (by decide)]
    have hu : D = distV (dB 57 e) (dB 53 e) (dB 7 i) (dB 8 i) := hD
    unfold distV at hu
    by_cases h1 : dB 53 e = -1
    · rw [if_neg (fun q => q.1 h1)] at hu
      rw [if_pos h1, ← hu]
    · rw [if_neg h1]
      by_cases h2 : dB 53 e = dB 8 i
      · rw [if_neg (fun q => q.2 h2)] at hu
        rw [if_pos h2, ← hu]
      · rw [if_pos ⟨h1, h2⟩] at hu
        rw [if_neg h2, ← hu]
  rw [key]
  have hF : nF dB e (i + 1) = if D < nF dB e i then D else nF dB e i := by simp only [nF, hD]
  have hPp : nP dB e (i + 1) = if D < nF dB e i then (i : Int) else nP dB e i := by simp only [nP, hD]
  have hSs : nS dB e (i + 1) = if D < nF dB e i then 1 else if D = nF dB e i then 0 else nS dB e i := by simp only [nS, hD]
  have hb := nF_b dB e i
  unfold L_Mo_whoIs_b106 L_Mo_whoIs_b118 L_Mo_whoIs_b121
  simp only [w32_i (show i < 2147483647 by omega)]
  unfold wP wN wS
  rw [hF, hPp, hSs]
  unfold wS at g3
  by_cases q1 : nF dB e i ≤ dB 0 79
  · rw [if_pos q1] at g3
    by_cases q2 : D < nF dB e i
    · simp only [if_pos q1, if_pos q2, if_neg (show ¬ dB 0 79 < D by omega), if_neg (show ¬ nF dB e i < D by omega), if_pos (show D ≤ dB 0 79 by omega)]
      exact ⟨_, rfl, g1.s80 _, up2_s _ _ _ _⟩
    · by_cases q3 : D = nF dB e i
      · simp only [if_pos q1, if_neg q2, if_pos q3, if_neg (show ¬ dB 0 79 < D by omega), if_neg (show ¬ nF dB e i < D by omega)]
        exact ⟨up2 d1 0 80 0, by rw [q3], g1.s80 _, up2_s _ _ _ _⟩
      · simp only [if_pos q1, if_neg q2, if_neg q3, if_pos (show nF dB e i < D by omega)]
        by_cases q4 : dB 0 79 < D
        · simp only [if_pos q4]; exact ⟨_, rfl, g1, g3⟩
        · simp only [if_neg q4]; exact ⟨_, rfl, g1, g3⟩
  · rw [if_neg q1] at g3
    by_cases q4 : dB 0 79 < D
    · have q5 : ¬ (if D < nF dB e i then D else nF dB e i) ≤ dB 0 79 := by split <;> omega
      simp only [if_neg q1, if_pos q4, if_neg q5]
      exact ⟨_, rfl, g1, g3⟩
    · simp only [if_neg q1, if_neg q4, if_pos (show D < nF dB e i by omega), if_neg (show ¬ (100000000 : Int) < D by omega), if_pos (show D < (100000000 : Int) by omega), if_pos (show D ≤ dB 0 79 by omega)]
      exact ⟨_, rfl, g1.s80 _, up2_s _ _ _ _⟩
theorem whoIs_e {dA dB : Dt} (hP : RP dA dB) (hH : RH dA dB) (hB : RB dA dB) (hQ : RQ dA dB) {d : Dt} (hd : Core dB d) (e : Nat) (he : (e : Int) < dB 52 0) : ∃ d', L_Mo_whoIs (e : Int) d = some (wP dB e (dB 0 7).toNat, d') ∧ Core dB d' ∧ d' 0 80 = wS dB e (dB 0 7).toNat := by
  obtain ⟨_, z1, z2⟩ := hB.1 0 (by decide)
  obtain ⟨_, z3, z4⟩ := hP
  have hn1 := (hB.e0 e he).2.2.2.2.1
  have h0 : ¬ nF dB e 0 ≤ dB 0 79 := by
    show ¬ (31 : Int) ≤ dB 0 79
    have := hQ.2.2; omega
  obtain ⟨d', e1, e2, e3⟩ := lp_inv (f := fun q : Int × Int × Int × Int × Dt => L_Mo_whoIs_y14 q.1 q.2.1 q.2.2.1 q.2.2.2.1 q.2.2.2.2) (fun i x => ((e : Int), wP dB e i, wN dB e i, (i : Int), x)) (fun x => (wP dB e (dB 0 7).toNat, x))
    (fun i x => Core dB x ∧ x 0 80 = wS dB e i) (dB 0 7).toNat
    (by
      rintro i x hi ⟨f1, f3⟩
      exact whoStep dB x e i (by omega) (by omega) (by omega) ⟨hQ.2.1, hQ.2.2⟩ hn1 (hH i (by omega)).2.2.2.1 f1 f3)
    (by
      rintro x ⟨f1, f3⟩
      dsimp only
      unfold L_Mo_whoIs_y14
      rw [f1.2 7 (by decide), if_neg (by omega)]) (by omega) (up2 d 0 80 1) (by
      refine ⟨hd.s80 _, ?_⟩
      rw [up2_s]; unfold wS
      rw [if_neg h0])
  refine ⟨d', ?_, e2, e3⟩
  have w0 : wP dB e 0 = -1 ∧ wN dB e 0 = 100000000 := by
    unfold wP wN
    rw [if_neg h0, if_neg h0]
    exact ⟨rfl, rfl⟩
  rw [w0.1, w0.2] at e1
  unfold L_Mo_whoIs L_Mo_whoIs_l14
  rw [show lpF (fun q : Int × Int × Int × Int × Dt => L_Mo_whoIs_y14 q.1 q.2.1 q.2.2.1 q.2.2.2.1 q.2.2.2.2) FU ((e : Int), -1, 100000000, 0, up2 d 0 80 1) = _ from e1, lb_e, u1_q]
/-- a loop that looks for the first place where something holds -/
theorem lp_find {σ ρ : Type} {f : σ → Option (σ ⊕ ρ)} (S : Nat → Dt → σ) (Rh : Nat → Dt → ρ) (Re : Dt → ρ) (I : Dt → Prop) (hit : Nat → Prop) (n : Nat) (hs : ∀ i d, i < n → I d → (hit i ∧ ∃ d', f (S i d) = some (.inr (Rh i d')) ∧ I d') ∨ (¬ hit i ∧ ∃ d', f (S i d) = some (.inl (S (i + 1) d')) ∧ I d')) (he : ∀ d, I d → ∃ d', f (S n d) = some (.inr (Re d')) ∧ I d') (hn : n < 1000000) (d0 : Dt) (h0 : I d0) : ∃ d', I d' ∧ ((∃ i, i < n ∧ hit i ∧ (∀ j, j < i → ¬ hit j) ∧ lpF f FU (S 0 d0) = some (Rh i d')) ∨ ((∀ i, i < n → ¬ hit i) ∧ lpF f FU (S 0 d0) = some (Re d'))) := by
  have key : ∀ (k m : Nat), m + k = n → ∀ fuel, k < fuel → ∀ d, I d → ∃ d', I d' ∧ ((∃ i, m ≤ i ∧ i < n ∧ hit i ∧ (∀ j, m ≤ j → j < i → ¬ hit j) ∧ lpF f fuel (S m d) = some (Rh i d')) ∨ ((∀ i, m ≤ i → i < n → ¬ hit i) ∧ lpF f fuel (S m d) = some (Re d'))) := by
    intro k
    induction k with
    | zero =>
      intro m hm fuel hf d hI
      obtain ⟨g, rfl⟩ : ∃ g, fuel = g + 1 := ⟨fuel - 1, by omega⟩
      have : m = n := by omega
      subst this
      obtain ⟨d', e1, e2⟩ := he d hI
      refine ⟨d', e2, Or.inr ⟨fun i h1 h2 => by omega, ?_⟩⟩
      unfold lpF; rw [e1]
    | succ k ih =>
      intro m hm fuel hf d hI
      obtain ⟨g, rfl⟩ : ∃ g, fuel = g + 1 := ⟨fuel - 1, by omega⟩
      rcases hs m d (by omega) hI with ⟨hh, d', e1, e2⟩ | ⟨hh, d', e1, e2⟩
      · refine ⟨d', e2, Or.inl ⟨m, Nat.le_refl m, by omega, hh, fun j h1 h2 => by omega, ?_⟩⟩
        unfold lpF; rw [e1]
      · obtain ⟨d2, a1, a2⟩ := ih (m + 1) (by omega) g (by omega) d' e2
        refine ⟨d2, a1, ?_⟩
        rcases a2 with ⟨i, b1, b2, b3, b4, b5⟩ | ⟨b1, b2⟩
        · refine Or.inl ⟨i, by omega, b2, b3, fun j h1 h2 => ?_, ?_⟩
          · by_cases hj : j = m
            · subst hj; exact hh
            · exact b4 j (by omega) h2
          · unfold lpF; rw [e1]; exact b5
        · refine Or.inr ⟨fun j h1 h2 => ?_, ?_⟩
          · by_cases hj : j = m
            · subst hj; exact hh
            · exact b1 j (by omega) h2
          · unfold lpF; rw [e1]; exact b2
  obtain ⟨d', a1, a2⟩ := key n 0 (by omega) FU (by show n < 1000000; omega) d0 h0
  refine ⟨d', a1, ?_⟩
  rcases a2 with ⟨i, b1, b2, b3, b4, b5⟩ | ⟨b1, b2⟩
  · exact Or.inl ⟨i, b2, b3, fun j h => b4 j (by omega) h, b5⟩
  · exact Or.inr ⟨fun i h => b1 i (by omega) h, b2⟩
theorem personOf_e {d dB : Dt} (hB : RB d dB) (hQ : RQ d dB) (hN : RN d dB) (e : Nat) (he : (e : Int) < dB 52 0) : L_Po_personOf (e : Int) d = some (wP dB e (dB 0 7).toNat, d) := by
  obtain ⟨_, z1, z2⟩ := hB.1 0 (by decide)
  obtain ⟨n1, n2, n3⟩ := hN e he
  unfold L_Po_personOf wP
  rw [tn_i, ck_pos ⟨by omega, by omega⟩, ck_pos ⟨by omega, by omega⟩, n1, n2, hQ.1]
  by_cases h : dB 0 79 < nF dB e (dB 0 7).toNat
  · rw [if_pos h, if_neg (by omega)]
  · rw [if_neg h, if_pos (by omega)]
/-- an earlier ENTRY is the same PERSON -/
def twc (d : Dt) (e : Nat) (p : Int) : Prop := ∃ i, i < e ∧ wP d i (d 0 7).toNat = p
theorem isTwiceA {d dB : Dt} (hB : RB d dB) (hQ : RQ d dB) (hN : RN d dB) (e : Nat) (he : (e : Int) < dB 52 0) : ∃ r, L_Po_isTwice (e : Int) d = some (r, d) ∧ ((r = 1 ∧ wP dB e (dB 0 7).toNat ≠ -1 ∧ twc dB e (wP dB e (dB 0 7).toNat)) ∨ (r = 0 ∧ ¬ (wP dB e (dB 0 7).toNat ≠ -1 ∧ twc dB e (wP dB e (dB 0 7).toNat)))) := by
  obtain ⟨_, z1, z2⟩ := hB.1 0 (by decide)
  obtain ⟨d', rfl, a2⟩ := lp_find (f := fun q : Int × Int × Int × Dt => L_Po_isTwice_y8 q.1 q.2.1 q.2.2.1 q.2.2.2) (fun i x => ((e : Int), wP dB e (dB 0 7).toNat, (i : Int), x)) (fun _ x => Sum.inr x) (fun x => Sum.inl x) (fun x => x = d) (fun i => wP dB e (dB 0 7).toNat ≠ -1 ∧ wP dB i (dB 0 7).toNat = wP dB e (dB 0 7).toNat) e
    (by
      rintro i x hi rfl
      dsimp only
      unfold L_Po_isTwice_y8 L_Po_isTwice_b29
      rw [if_pos (by omega), w32_i (by omega)]
      by_cases q1 : wP dB e (dB 0 7).toNat = -1
      · right
        rw [if_pos q1]
        exact ⟨fun q => q.1 q1, _, rfl, rfl⟩
      · rw [if_neg q1, personOf_e hB hQ hN i (by omega), bd_e]
        by_cases q2 : wP dB i (dB 0 7).toNat = wP dB e (dB 0 7).toNat
        · left; rw [if_pos q2]; exact ⟨⟨q1, q2⟩, _, rfl, rfl⟩
        · right; rw [if_neg q2]; exact ⟨fun q => q2 q.2, _, rfl, rfl⟩)
    (by
      rintro x rfl
      dsimp only
      unfold L_Po_isTwice_y8
      rw [if_neg (by omega)]
      exact ⟨_, rfl, rfl⟩) (by omega) d rfl
  unfold L_Po_isTwice L_Po_isTwice_l8
  rw [personOf_e hB hQ hN e he, bd_e]
  rcases a2 with ⟨i, b1, b2, b3, b4⟩ | ⟨b1, b2⟩
  · rw [show lpF (fun q : Int × Int × Int × Dt => L_Po_isTwice_y8 q.1 q.2.1 q.2.2.1 q.2.2.2) FU ((e : Int), wP dB e (dB 0 7).toNat, 0, d') = _ from b4, lb_e, smr_, u0_q]
    exact ⟨_, rfl, Or.inl ⟨rfl, b2.1, i, b1, b2.2⟩⟩
  · rw [show lpF (fun q : Int × Int × Int × Dt => L_Po_isTwice_y8 q.1 q.2.1 q.2.2.1 q.2.2.2) FU ((e : Int), wP dB e (dB 0 7).toNat, 0, d') = _ from b2, lb_e, sml_, u0_q]
    refine ⟨_, rfl, Or.inr ⟨rfl, ?_⟩⟩
    rintro ⟨q1, i, q2, q3⟩
    exact b1 i q2 ⟨q1, q3⟩
theorem isTwiceB {dA dB : Dt} (hP : RP dA dB) (hH : RH dA dB) (hB : RB dA dB) (hQ : RQ dA dB) {d : Dt} (hd : Core dB d) (e : Nat) (p : Int) (he : (e : Int) ≤ dB 52 0) : ∃ r d', L_Mo_isTwice (e : Int) p d = some (r, d') ∧ Core dB d' ∧ ((r = 1 ∧ twc dB e p) ∨ (r = 0 ∧ ¬ twc dB e p)) := by
  obtain ⟨_, z1, z2⟩ := hB.1 0 (by decide)
  obtain ⟨d', a1, a2⟩ := lp_find (f := fun q : Int × Int × Int × Dt => L_Mo_isTwice_y2 q.1 q.2.1 q.2.2.1 q.2.2.2) (fun i x => ((e : Int), p, (i : Int), x)) (fun _ x => Sum.inr x) (fun x => Sum.inl x) (fun x => Core dB x) (fun i => wP dB i (dB 0 7).toNat = p) e
    (by
      intro i x hi hx
      obtain ⟨x', b1, b2, b3⟩ := whoIs_e hP hH hB hQ hx i (by omega)
      dsimp only
      unfold L_Mo_isTwice_y2
      rw [if_pos (by omega), w32_i (by omega), b1, bd_e]
      by_cases q2 : wP dB i (dB 0 7).toNat = p
      · left; rw [if_pos q2]; exact ⟨q2, _, rfl, b2⟩
      · right; rw [if_neg q2]; exact ⟨q2, _, rfl, b2⟩)
    (by
      intro x hx
      dsimp only
      unfold L_Mo_isTwice_y2
      rw [if_neg (by omega)]
      exact ⟨_, rfl, hx⟩) (by omega) d hd
  unfold L_Mo_isTwice L_Mo_isTwice_l2
  rcases a2 with ⟨i, b1, b2, b3, b4⟩ | ⟨b1, b2⟩
  · rw [show lpF (fun q : Int × Int × Int × Dt => L_Mo_isTwice_y2 q.1 q.2.1 q.2.2.1 q.2.2.2) FU ((e : Int), p, 0, d) = _ from b4, lb_e, smr_, u0_q]
    exact ⟨_, _, rfl, a1, Or.inl ⟨rfl, i, b1, b2⟩⟩
  · rw [show lpF (fun q : Int × Int × Int × Dt => L_Mo_isTwice_y2 q.1 q.2.1 q.2.2.1 q.2.2.2) FU ((e : Int), p, 0, d) = _ from b2, lb_e, sml_, u0_q]
    refine ⟨_, _, rfl, a1, Or.inr ⟨rfl, ?_⟩⟩
    rintro ⟨i, q2, q3⟩
    exact b1 i q2 q3
