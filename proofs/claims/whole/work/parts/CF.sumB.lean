/-! SUMS: the reference's states -/
theorem lp_l {σ ρ : Type} {f : σ → Option (σ ⊕ ρ)} {s s' : σ} (g : Nat) (h : f s = some (.inl s')) : lpF f (g + 1) s = lpF f g s' := by
  rw [show lpF f (g + 1) s = (match f s with | none => none | some (.inr r) => some r | some (.inl s') => lpF f g s') from rfl, h]
theorem lp_r {σ ρ : Type} {f : σ → Option (σ ⊕ ρ)} {s : σ} {r : ρ} (g : Nat) (h : f s = some (.inr r)) : lpF f (g + 1) s = some r := by
  rw [show lpF f (g + 1) s = (match f s with | none => none | some (.inr r) => some r | some (.inl s') => lpF f g s') from rfl, h]
def mS (s : Nat) (y0 y : Dt) : Prop := (∀ k, k ≠ 0 → k ≠ 43 → k ≠ 44 → k ≠ 45 → k ≠ 46 → y k = y0 k) ∧ (∀ j, (j < 34 ∨ 37 < j) → j ≠ 39 → j ≠ 40 → j ≠ 42 → y 0 j = y0 0 j) ∧ ∀ i, i < s → y 43 i = y0 43 i ∧ y 44 i = y0 44 i
theorem mS.rf (s : Nat) (y : Dt) : mS s y y := ⟨fun _ _ _ _ _ _ => rfl, fun _ _ _ _ _ => rfl, fun _ _ => ⟨rfl, rfl⟩⟩
theorem mS.tr {s : Nat} {x y z : Dt} (h : mS s x y) (h2 : mS s y z) : mS s x z := ⟨fun k a b c d e => by rw [h2.1 k a b c d e]; exact h.1 k a b c d e, fun j a b c d => by rw [h2.2.1 j a b c d]; exact h.2.1 j a b c d, fun i hi => by rw [(h2.2.2 i hi).1, (h2.2.2 i hi).2]; exact h.2.2 i hi⟩
theorem mS.mo {s s' : Nat} {x y : Dt} (h : mS s x y) (hs : s' ≤ s) : mS s' x y := ⟨h.1, h.2.1, fun i hi => h.2.2 i (by omega)⟩
def tN (f : Nat → Int) (n N : Nat) : Prop := N ≤ n ∧ n ≤ 600 ∧ kd f n (ps f n N) = 0 ∧ ∀ k, k < n → -128 ≤ f k ∧ f k ≤ 127
def PB (f : Nat → Int) (n N s : Nat) (y0 y : Dt) (t : Nat) (acc : List (Int × Int)) : Prop := tkB y f n (ps f n t) ∧ (y 0 40 = 0 ∧ y 0 39 = -1) ∧ sgB y s acc ∧ mS s y0 y ∧ t ≤ N
def PBE (f : Nat → Int) (n s : Nat) (y0 y : Dt) (e : Int × Nat) : Prop := y 0 40 = ftK f n (ps f n e.2) e.1 ∧ y 0 39 = (ps f n e.2 : Int) ∧ mS s y0 y
theorem tN.lt {f : Nat → Int} {n N t : Nat} (hN : tN f n N) (ht : t ≤ N) (hk : ¬ KK f n t = 0) : t < N := by
  rcases (Classical.em (t < N)).symm with q | q
  · have e : t = N := by omega
    rw [e] at hk; exact absurd hN.2.2.1 hk
  · exact q
theorem sgB.cg {y y' : Dt} {s : Nat} {acc : List (Int × Int)} (h : sgB y s acc) (h42 : y' 0 42 = y 0 42) (h43 : y' 43 = y 43) (h44 : y' 44 = y 44) : sgB y' s acc := by
  unfold sgB at h ⊢; rw [h42, h43, h44]; exact h
theorem tkB.cg {y y' : Dt} {f : Nat → Int} {n p : Nat} (h : tkB y f n p) (h0 : ∀ j, (j = 33 ∨ j = 34 ∨ j = 35 ∨ j = 36 ∨ j = 37) → y' 0 j = y 0 j) (h25 : y' 25 = y 25) : tkB y' f n p := by
  obtain ⟨h1, h2, h3, h4, h5⟩ := h
  exact ⟨h1.cg (h0 33 (by omega)) h25, by rw [h0 35 (by omega)]; exact h2, by rw [h0 36 (by omega)]; exact h3, by rw [h0 34 (by omega)]; exact h4, by rw [h0 37 (by omega)]; exact h5⟩
theorem PB.nx {f : Nat → Int} {n N s t : Nat} {y0 y : Dt} {acc : List (Int × Int)} (hN : tN f n N) (h : PB f n N s y0 y t acc) (hk : ¬ KK f n t = 0) : ∃ y', L_Mo_next y = some (0, y') ∧ PB f n N s y0 y' (t + 1) acc ∧ y' 45 = y 45 ∧ y' 46 = y 46 := by
  obtain ⟨h1, ⟨h2, h2'⟩, h3, h4, h5⟩ := h
  have ht := hN.lt h5 hk
  obtain ⟨y', e1, e2, e3⟩ := nextB_e h1 hN.2.1
  refine ⟨y', e1, ⟨e3, ⟨by rw [e2.2 40 (by decide) (by decide) (by decide) (by decide)]; exact h2, by rw [e2.2 39 (by decide) (by decide) (by decide) (by decide)]; exact h2'⟩, h3.cg (e2.2 42 (by decide) (by decide) (by decide) (by decide)) (e2.1 43 (by decide)) (e2.1 44 (by decide)), h4.tr ⟨fun k a _ _ _ _ => e2.1 k a, fun j a _ _ _ => e2.2 j (by omega) (by omega) (by omega) (by omega), fun i _ => ⟨by rw [e2.1 43 (by decide)], by rw [e2.1 44 (by decide)]⟩⟩, by omega⟩, e2.1 45 (by decide), e2.1 46 (by decide)⟩
theorem PB.pt {f : Nat → Int} {n N s t : Nat} {y0 y : Dt} {acc : List (Int × Int)} (h : PB f n N s y0 y t acc) (hl : s + acc.length < 4000) (a b : Int) : ∃ y', L_Mo_puts a b y = some (0, y') ∧ PB f n N s y0 y' t (acc ++ [(a, b)]) ∧ y' 45 = y 45 ∧ y' 46 = y 46 := by
  obtain ⟨h1, ⟨h2, h2'⟩, h3, h4, h5⟩ := h
  obtain ⟨y', e1, e2, e3, e4, e5⟩ := puts_e h3 hl a b
  exact ⟨y', e1, ⟨h1.cg (fun j hj => e4 j (by omega)) (e3 25 (by decide) (by decide) (by decide)), ⟨by rw [e4 40 (by decide)]; exact h2, by rw [e4 39 (by decide)]; exact h2'⟩, e2, h4.tr ⟨fun k a b c _ _ => e3 k a b c, fun j _ _ _ a => e4 j a, e5⟩, h5⟩, e3 45 (by decide) (by decide) (by decide), e3 46 (by decide) (by decide) (by decide)⟩
theorem PB.fl {f : Nat → Int} {n N s t : Nat} {y0 y : Dt} {acc : List (Int × Int)} (h : PB f n N s y0 y t acc) (k : Int) : ∃ y', L_Mo_fails k y = some (0, y') ∧ PBE f n s y0 y' (k, t) := by
  obtain ⟨h1, ⟨h2, h2'⟩, h3, h4, h5⟩ := h
  refine ⟨_, fails_e h1 h2 k, ?_, ?_, h4.tr ⟨fun k a _ _ _ _ => by rw [up2_K _ _ _ a, up2_K _ _ _ a], fun j _ a b _ => by rw [up2_j _ _ _ a, up2_j _ _ _ b], fun i _ => ⟨by rw [up2_K _ _ _ (by decide), up2_K _ _ _ (by decide)], by rw [up2_K _ _ _ (by decide), up2_K _ _ _ (by decide)]⟩⟩⟩
  · rw [up2_j _ _ _ (by decide), up2_s]
  · rw [up2_s]
theorem PB.uw {f : Nat → Int} {n N s t : Nat} {y0 y : Dt} {acc : List (Int × Int)} (h : PB f n N s y0 y t acc) (k j : Nat) (v : Int) (hk : k = 45 ∨ k = 46) : PB f n N s y0 (up2 y k j v) t acc := by
  obtain ⟨h1, ⟨h2, h2'⟩, h3, h4, h5⟩ := h
  have u : ∀ k', k' ≠ 45 → k' ≠ 46 → up2 y k j v k' = y k' := fun k' a b => up2_K _ _ _ (by omega)
  exact ⟨h1.cg (fun j _ => by rw [u 0 (by decide) (by decide)]) (u 25 (by decide) (by decide)), ⟨by rw [u 0 (by decide) (by decide)]; exact h2, by rw [u 0 (by decide) (by decide)]; exact h2'⟩, h3.cg (by rw [u 0 (by decide) (by decide)]) (u 43 (by decide) (by decide)) (u 44 (by decide) (by decide)), h4.tr ⟨fun k' _ _ _ a b => u k' a b, fun j _ _ _ _ => by rw [u 0 (by decide) (by decide)], fun i _ => ⟨by rw [u 43 (by decide) (by decide)], by rw [u 44 (by decide) (by decide)]⟩⟩, h5⟩
theorem PB.s1 {f : Nat → Int} {n N s t : Nat} {y0 y : Dt} {acc : List (Int × Int)} (h : PB f n N s y0 y t acc) {c : Int} (h1 : 40 ≤ c ∧ c ≤ 62) (hk : KK f n t = c) : L_Mo_isSign c y = some (1, y) ∧ y 0 37 = c := by
  have hk' : kd f n (ps f n t) = c := hk
  refine ⟨by rw [isSign_e h.1 c h1.1 h1.2, if_pos hk'], ?_⟩
  obtain ⟨_, _, _, _, _, _, e7, _⟩ := tok_e f n (ps f n t) h.1.1.2.2
  rw [h.1.2.2.2.2]; exact ((e7 c h1.1 h1.2).2 hk').2
theorem PB.s0 {f : Nat → Int} {n N s t : Nat} {y0 y : Dt} {acc : List (Int × Int)} (h : PB f n N s y0 y t acc) {c : Int} (h1 : 40 ≤ c ∧ c ≤ 62) (hk : ¬ KK f n t = c) : L_Mo_isSign c y = some (0, y) := by
  have hk' : ¬ kd f n (ps f n t) = c := hk
  rw [isSign_e h.1 c h1.1 h1.2, if_neg hk']
theorem PB.va {f : Nat → Int} {n N s t : Nat} {y0 y : Dt} {acc : List (Int × Int)} (hN : tN f n N) (h : PB f n N s y0 y t acc) : L_Mo_inWords 1000004 y = some (if KK f n t = 4 then VV f n t else -1, y) := by
  have i4 := inWords_e h.1 hN.2.1 1000004 (Or.inr rfl)
  rw [(tok_e f n (ps f n t) h.1.1.2.2).2.1] at i4
  exact i4
