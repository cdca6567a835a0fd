/-! FAULTS have a kind -/
theorem atmS_f (K V : Nat → Int) (inner : Nat → List (Int × Int) → (Nat × List (Int × Int)) ⊕ (Int × Nat)) (hi : ∀ t a e, inner t a = Sum.inr e → 1 ≤ e.1) {dl t : Nat} {acc : List (Int × Int)} {e : Int × Nat} (h : atmS K V inner dl t acc = Sum.inr e) : 1 ≤ e.1 := by
  unfold atmS at h
  by_cases k2 : K t = 2
  · rw [if_pos k2] at h; cases h
  · rw [if_neg k2] at h
    by_cases k4 : K t = 4
    · rw [if_pos k4] at h; cases h
    · rw [if_neg k4] at h
      by_cases k40 : K t = 40
      · rw [if_pos k40] at h
        by_cases d0 : dl = 0
        · rw [if_pos d0] at h
          rw [← Sum.inr.inj h]; exact (by decide : (1 : Int) ≤ 5)
        · rw [if_neg d0] at h
          cases hq : inner (t + 1) acc with
          | inr e' =>
            rw [hq, Sum.elim_inr] at h
            rw [← Sum.inr.inj h]; exact hi _ _ _ hq
          | inl q =>
            rw [hq, Sum.elim_inl] at h
            by_cases k41 : K q.1 = 41
            · rw [if_pos k41] at h; cases h
            · rw [if_neg k41] at h
              rw [← Sum.inr.inj h]; exact (by decide : (1 : Int) ≤ 2)
      · rw [if_neg k40] at h
        rw [← Sum.inr.inj h]; exact (by decide : (1 : Int) ≤ 2)
theorem sS_f (K V : Nat → Int) : ∀ (fu dl t : Nat) (times : Bool) (op : Int) (acc : List (Int × Int)) (e : Int × Nat), sS K V fu dl t times op acc = Sum.inr e → 1 ≤ e.1
  | 0, dl, t, times, op, acc, e, h => by
    simp only [sS] at h
    rw [← Sum.inr.inj h]; exact (by decide : (1 : Int) ≤ 2)
  | fu + 1, dl, t, times, op, acc, e, h => by
    simp only [sS] at h
    cases ha : atmS K V (fun t' a => sS K V fu (dl - 1) t' false 0 a) dl t acc with
    | inr e' =>
      rw [ha, Sum.elim_inr] at h
      rw [← Sum.inr.inj h]
      exact atmS_f K V _ (fun t a e h => sS_f K V fu (dl - 1) t false 0 a e h) ha
    | inl r =>
      rw [ha, Sum.elim_inl] at h
      by_cases k42 : K r.1 = 42
      · rw [if_pos k42] at h; exact sS_f K V fu dl _ _ _ _ e h
      · rw [if_neg k42] at h
        by_cases kp : K r.1 = 43 ∨ K r.1 = 45
        · rw [if_pos kp] at h; exact sS_f K V fu dl _ _ _ _ e h
        · rw [if_neg kp] at h; cases h
theorem oneS_f (K V : Nat → Int) {t : Nat} {e : Int × Nat} (h : oneS K V t = Sum.inr e) : 1 ≤ e.1 := by
  unfold oneS at h
  cases h1 : sS K V 601 6 (if K t = 26 then t + 1 else t) false 0 [] with
  | inr e' =>
    rw [h1, Sum.elim_inr] at h
    rw [← Sum.inr.inj h]; exact sS_f _ _ _ _ _ _ _ _ _ h1
  | inl q =>
    rw [h1, Sum.elim_inl] at h
    by_cases c : K q.1 = 60 ∨ K q.1 = 61 ∨ K q.1 = 62
    · rw [if_pos c] at h
      cases h2 : sS K V 601 6 (q.1 + 1) false 0 [] with
      | inr e' =>
        rw [h2, Sum.elim_inr] at h
        rw [← Sum.inr.inj h]; exact sS_f _ _ _ _ _ _ _ _ _ h2
      | inl u => rw [h2, Sum.elim_inl] at h; cases h
    · rw [if_neg c] at h
      rw [← Sum.inr.inj h]; exact (by decide : (1 : Int) ≤ 2)
theorem tsS_f (K V : Nat → Int) : ∀ (fu t : Nat) (b : Bool) (e : Int × Nat), tsS K V fu t b = Sum.inr e → 1 ≤ e.1
  | 0, t, b, e, h => by
    simp only [tsS] at h
    rw [← Sum.inr.inj h]; exact (by decide : (1 : Int) ≤ 2)
  | fu + 1, t, b, e, h => by
    simp only [tsS] at h
    cases h1 : oneS K V t with
    | inr e' =>
      rw [h1, Sum.elim_inr] at h
      rw [← Sum.inr.inj h]; exact oneS_f K V h1
    | inl q =>
      rw [h1, Sum.elim_inl] at h
      have go : ∀ b', Sum.elim (fun u : Nat × List One => (Sum.inl (u.1, (b, q.2) :: u.2) : (Nat × List One) ⊕ (Int × Nat))) (fun e => Sum.inr e) (tsS K V fu (q.1 + 1) b') = Sum.inr e → 1 ≤ e.1 := by
        intro b' h'
        cases h2 : tsS K V fu (q.1 + 1) b' with
        | inr e' =>
          rw [h2, Sum.elim_inr] at h'
          rw [← Sum.inr.inj h']; exact tsS_f K V fu _ _ _ h2
        | inl u => rw [h2, Sum.elim_inl] at h'; cases h'
      by_cases k25 : K q.1 = 25
      · rw [if_pos k25] at h; exact go false h
      · rw [if_neg k25] at h
        by_cases k24 : K q.1 = 24
        · rw [if_pos k24] at h; exact go true h
        · rw [if_neg k24] at h; cases h
theorem ttS_f (K V : Nat → Int) {t : Nat} {e : Int × Nat} (h : ttS K V t = Sum.inr e) : 1 ≤ e.1 := by
  unfold ttS at h
  cases h1 : tsS K V 601 t true with
  | inr e' =>
    rw [h1, Sum.elim_inr] at h
    rw [← Sum.inr.inj h]; exact tsS_f K V _ _ _ _ h1
  | inl q =>
    rw [h1, Sum.elim_inl] at h
    by_cases k : K q.1 = 18
    · rw [if_pos k] at h
      cases h2 : tsS K V 601 (q.1 + 1) true with
      | inr e' =>
        rw [h2, Sum.elim_inr] at h
        rw [← Sum.inr.inj h]; exact tsS_f K V _ _ _ _ h2
      | inl u => rw [h2, Sum.elim_inl] at h; cases h
    · rw [if_neg k] at h; cases h
theorem numS_f (K V : Nat → Int) {t : Nat} {lo hi : Int} {e : Int × Nat} (h : numS K V t lo hi = Sum.inr e) : 1 ≤ e.1 := by
  unfold numS at h
  by_cases k : K t = 2
  · rw [if_pos k] at h
    by_cases w : lo ≤ V t ∧ V t ≤ hi
    · rw [if_pos w] at h; cases h
    · rw [if_neg w] at h
      rw [← Sum.inr.inj h]; exact (by decide : (1 : Int) ≤ 6)
  · rw [if_neg k] at h
    rw [← Sum.inr.inj h]; exact (by decide : (1 : Int) ≤ 2)
theorem hrS_f (K V : Nat → Int) {t : Nat} {e : Int × Nat} (h : hrS K V t = Sum.inr e) : 1 ≤ e.1 := by
  unfold hrS at h
  cases h1 : numS K V t 0 1439 with
  | inr e' =>
    rw [h1, Sum.elim_inr] at h
    rw [← Sum.inr.inj h]; exact numS_f K V h1
  | inl a =>
    rw [h1, Sum.elim_inl] at h
    by_cases k : K (t + 1) = 23
    · rw [if_pos k] at h
      cases h2 : numS K V (t + 2) a 1439 with
      | inr e' =>
        rw [h2, Sum.elim_inr] at h
        rw [← Sum.inr.inj h]; exact numS_f K V h2
      | inl b => rw [h2, Sum.elim_inl] at h; cases h
    · rw [if_neg k] at h
      rw [← Sum.inr.inj h]; exact (by decide : (1 : Int) ≤ 2)
/-! RULES: labels, both sides -/
theorem CS.op {f : Nat → Int} {n N T t m : Nat} {x : Dt} {C : List Int} (h : CS f n N T x t C m) (hm : m < 20) (p1 p2 : Int) : ∃ z, L_Pa_takeLabels_b98 p1 p2 x = some (1, z) ∧ CS f n N T z t C m ∧ rF T m C.length x z ∧ z (79 + 7 * T + 1) m = p1 ∧ z (79 + 7 * T + 2) m = p2 := by
  obtain ⟨⟨a1, a2, a3, a4⟩, ⟨d1, ⟨d2, d2'⟩, d3, d4⟩, h2⟩ := h
  have e := openRule_e d2 d2' h2 hm p1 p2
  obtain ⟨z, hz⟩ : ∃ z, z = up2 (up2 x (79 + 7 * T + 1) m p1) (79 + 7 * T + 2) m p2 := ⟨_, rfl⟩
  rw [← hz] at e
  have zk : ∀ k, k ≠ 79 + 7 * T + 1 → k ≠ 79 + 7 * T + 2 → z k = x k := fun k k1 k2 => by rw [hz, up2_K _ _ _ k2, up2_K _ _ _ k1]
  have hGH : z GH = x GH := zk GH (by show 1000000 ≠ _; omega) (by show 1000000 ≠ _; omega)
  have z25 : z 25 = x 25 := zk 25 (by omega) (by omega)
  have z79 : z (79 + 7 * T) = x (79 + 7 * T) := zk _ (by omega) (by omega)
  have z6' := zk (79 + 7 * T + 6) (by omega) (by omega)
  have z1' : ∀ j, j ≠ m → z (79 + 7 * T + 1) j = x (79 + 7 * T + 1) j := fun j hj => by rw [hz, up2_K _ _ _ (by omega), up2_j _ _ _ hj]
  have z2' : ∀ j, j ≠ m → z (79 + 7 * T + 2) j = x (79 + 7 * T + 2) j := fun j hj => by rw [hz, up2_j _ _ _ hj, up2_K _ _ _ (by omega)]
  refine ⟨z, ?_, ⟨⟨a1.cg (zk 27 (by omega) (by omega)) (zk 28 (by omega) (by omega)) (zk 29 (by omega) (by omega)), by rw [z25]; exact a2, a3, by rw [z25]; exact a4⟩, ⟨by rw [z25]; exact d1, ⟨by rw [hGH]; exact d2, d2'⟩, by rw [z79]; exact d3, fun i hi => by rw [z6']; exact d4 i hi⟩, by rw [z79]; exact h2⟩, ⟨fun k _ b => zk k (by omega) (by omega), fun j _ _ _ => by rw [z25], fun a i h1 h2 hi => ?_, fun j _ => by rw [z6']⟩, ?_, ?_⟩
  · unfold L_Pa_takeLabels_b98
    rw [d1, ck_pos (stt_t d2 T (by omega)), e, bd_e]
  · have : a = 1 ∨ a = 2 ∨ a = 3 ∨ a = 4 ∨ a = 5 := by omega
    rcases this with rfl | rfl | rfl | rfl | rfl
    · exact z1' i (by omega)
    · exact z2' i (by omega)
    · rw [zk _ (by omega) (by omega)]
    · rw [zk _ (by omega) (by omega)]
    · rw [zk _ (by omega) (by omega)]
  · rw [hz, up2_K _ _ _ (by omega), up2_s]
  · rw [hz, up2_s]
theorem labB_e {y : Dt} {r0 m : Nat} (hm : r0 + m < 120) (l : Int) : ((∀ i, i < m → ¬ y 35 (r0 + i) = l) ∧ L_Mo_rule_l66 l ((r0 + m : Nat) : Int) (r0 : Int) y = some (Sum.inl (l, ((r0 + m : Nat) : Int), y))) ∨ ((∃ i, i < m ∧ y 35 (r0 + i) = l) ∧ L_Mo_rule_l66 l ((r0 + m : Nat) : Int) (r0 : Int) y = some (Sum.inr y)) := by
  have step : ∀ i, i < m → ¬ y 35 (r0 + i) = l → L_Mo_rule_y66 l ((r0 + m : Nat) : Int) ((r0 + i : Nat) : Int) y = some (Sum.inl (l, ((r0 + m : Nat) : Int), ((r0 + (i + 1) : Nat) : Int), y)) := by
    intro i hi hv
    unfold L_Mo_rule_y66
    rw [if_pos (by omega), ck_pos ⟨by omega, by omega⟩, tn_i, if_neg hv, w32_i (show r0 + i < 2147483647 by omega)]
    rfl
  rcases least_ (fun i => y 35 (r0 + i) = l) m with h | ⟨i, hi, h, hj⟩
  · refine Or.inl ⟨h, ?_⟩
    have e := lp_seq (f := fun q : Int × Int × Int × Dt => L_Mo_rule_y66 q.1 q.2.1 q.2.2.1 q.2.2.2) (fun i => (l, ((r0 + m : Nat) : Int), ((r0 + i : Nat) : Int), y)) m (r := Sum.inl (l, ((r0 + m : Nat) : Int), y)) (fun i hi => step i hi (h i hi))
      (by
        show L_Mo_rule_y66 l ((r0 + m : Nat) : Int) ((r0 + m : Nat) : Int) y = _
        unfold L_Mo_rule_y66
        rw [if_neg (by omega)]) (by omega)
    exact e
  · refine Or.inr ⟨⟨i, hi, h⟩, ?_⟩
    have e := lp_seq (f := fun q : Int × Int × Int × Dt => L_Mo_rule_y66 q.1 q.2.1 q.2.2.1 q.2.2.2) (fun i => (l, ((r0 + m : Nat) : Int), ((r0 + i : Nat) : Int), y)) i (r := Sum.inr y) (fun j hj' => step j (by omega) (hj j hj'))
      (by
        show L_Mo_rule_y66 l ((r0 + m : Nat) : Int) ((r0 + i : Nat) : Int) y = _
        unfold L_Mo_rule_y66
        rw [if_pos (by omega), ck_pos ⟨by omega, by omega⟩, tn_i, if_pos h]) (by omega)
    exact e
def bad (f : Nat → Int) (n T r k s : Nat) (x y : Dt) (LA LB : Option (Int × Dt)) : Prop := ∃ e x' y', LA = some (0, x') ∧ LB = some (0, y') ∧ FA f n x' e ∧ QE f n y' e ∧ rF T 0 0 x x' ∧ mQ T r k s y y' ∧ 1 ≤ e.1
theorem labJ {f : Nat → Int} {n N O B T t m k s : Nat} {x y : Dt} {C : List Int} (hN : tN f n N) (hT : T ≤ 4) (hx : CS f n N T x t C m) (hy : QB f n N O B y t k s) (h41 : y 0 41 = (T : Int)) (h28 : y 28 T = (m : Int)) (hm : m ≤ 20) (hlb : ∀ i, i < m → lbR (x (79 + 7 * T + 1) i) (y 35 (20 * T + i))) :
    bad f n T (20 * T + m) k s x y (L_Pa_takeLabels x) (L_Mo_rule y) ∨ ∃ x' y' t', L_Pa_takeLabels x = some (1, x') ∧ L_Mo_rule y = L_Mo_rule_b161 ((20 * T + m : Nat) : Int) y' ∧ m < 20 ∧ t < t' ∧ CS f n N T x' t' C m ∧ QB f n N O B y' t' k s ∧ (y' 28 = y 28 ∧ y' 0 41 = (T : Int)) ∧ lbR (x' (79 + 7 * T + 1) m) (y' 35 (20 * T + m)) ∧ tgR (x' (79 + 7 * T + 2) m) (y' 36 (20 * T + m)) ∧ rF T m C.length x x' ∧ mQ T (20 * T + m) k s y y' := by
  have n10 : ¬ ((1 : Int) = 0) := by decide
  obtain ⟨_, a2, a3, _⟩ := hx.1
  have hNn := hx.1.1.1
  have hn6 := hN.2.1
  have ct : (0 : Int) ≤ (t : Int) ∧ (t : Int) < 601 := by omega
  have cT : (0 : Int) ≤ (T : Int) ∧ (T : Int) < 6 := by omega
  have hst : ∀ {x' : Dt} {t' : Nat} {C' : List Int} {m' : Nat}, CS f n N T x' t' C' m' → stt x' (x' 25 6) := fun q => by rw [q.2.1.1]; exact stt_t q.2.1.2.1.1 T (by omega)
  have hlab := labelHere_e hy.1 hn6
  obtain ⟨_, _, _, _, _, _, _, _, _, e10⟩ := tok_e f n (ps f n t) hN.2.2.2
  unfold L_Pa_takeLabels L_Mo_rule
  rw [a2, ck_pos ct, lt_e, hx.kn, bd_e, tn_i, hlab, bd_e]
  by_cases k3 : KK f n t = 3
  · have k3' : kd f n (ps f n t) = 3 := k3
    obtain ⟨v1, hW⟩ := e10 k3'
    obtain ⟨w, hw⟩ : ∃ w, w = wd f (ps f n t) (en f n (ps f n t)) := ⟨_, rfl⟩
    rw [← hw] at v1 hW
    have hp := pk_pos w hW
    rw [if_pos k3, if_pos k3', ← hw, if_neg (show ¬ pk8 w = -1 by omega), h41, ck_pos cT, tn_i, h28, ck_pos (hst hx), hx.2.1.1, tn79, Nat.add_zero, hx.2.2]
    by_cases m20 : m = 20
    · left
      obtain ⟨x', c1, c2, c3, _⟩ := hx.rf 3
      obtain ⟨y', d1, d2, d3⟩ := hy.fl 3
      refine ⟨(3, t), x', y', ?_, ?_, c2, d2, c3, (d3 k s).q T _, (by decide : (1 : Int) ≤ 3)⟩
      · rw [if_neg (show ¬ (m : Int) < 20 by omega), c1, bd_e]
      · rw [if_pos (show (m : Int) = 20 by omega), d1, bd_e]
    · have hm20 : m < 20 := by omega
      rw [if_pos (show (m : Int) < 20 by omega), if_neg (show ¬ (m : Int) = 20 by omega), ck_pos (by rw [← hx.2.1.1]; exact hst hx), ck_pos cT, w32_s (x := 20 * (T : Int)) (by omega) (by omega), show 20 * (T : Int) = ((20 * T : Nat) : Int) by omega, show ((20 * T : Nat) : Int) + (m : Int) = ((20 * T + m : Nat) : Int) by omega, w32_s (x := ((20 * T + m : Nat) : Int)) (by omega) (by omega), lt_e, lt_e, (hx.lt (by omega)).2, show VV f n t = pk5 w from v1]
      have cr : (0 : Int) ≤ ((20 * T + m : Nat) : Int) ∧ ((20 * T + m : Nat) : Int) < 120 := by omega
      have iff : (∃ i, i < m ∧ x (79 + 7 * T + 1) i = pk5 w) ↔ ∃ i, i < m ∧ y 35 (20 * T + i) = pk8 w := by
        have one : ∀ i, i < m → (x (79 + 7 * T + 1) i = pk5 w ↔ y 35 (20 * T + i) = pk8 w) := fun i hi => tg_lb (Or.inr (hlb i hi)) ⟨w, hW, rfl, rfl⟩
        constructor
        · rintro ⟨i, hi, e⟩; exact ⟨i, hi, (one i hi).1 e⟩
        · rintro ⟨i, hi, e⟩; exact ⟨i, hi, (one i hi).2 e⟩
      rcases hasLabel_e hx.2.1.2.1.1 (by omega) hx.2.2 hm (pk5 w) with ⟨n1, e1⟩ | ⟨n1, e1⟩
      · rcases labB_e (y := y) (r0 := 20 * T) (m := m) (by omega) (pk8 w) with ⟨n2, e2⟩ | ⟨n2, e2⟩
        · rw [e1, bd_e, if_pos rfl, e2, lb_e, sml_, u2_q, ck_pos cr, ck_pos cr, tn_i]
          obtain ⟨xa, b1, b2, b3, b4⟩ := hx.nx (by omega)
          obtain ⟨ya, hya⟩ : ∃ ya, ya = up2 (up2 y 35 (20 * T + m) (pk8 w)) 36 (20 * T + m) (-1) := ⟨_, rfl⟩
          have qa : QB f n N O B ya t k s := by rw [hya]; exact (hy.uc 35 _ _ (by decide)).uc 36 _ _ (by decide)
          have ma : mQ T (20 * T + m) k s y ya := by rw [hya]; exact ((mQ.rf T (20 * T + m) k s y).uc 35 _ _ (by decide) (by omega)).uc 36 _ _ (by decide) (by omega)
          have ka : ∀ c, c ≠ 35 → c ≠ 36 → ya c = y c := fun c z1 z2 => by rw [hya, up2_K _ _ _ z2, up2_K _ _ _ z1]
          have a35 : ya 35 (20 * T + m) = pk8 w := by rw [hya, up2_K _ _ _ (by decide), up2_s]
          have a36 : ya 36 (20 * T + m) = -1 := by rw [hya, up2_s]
          rw [← hya]
          obtain ⟨yb, c1, c2, c3⟩ := qa.nx hN (by omega)
          have mb : mQ T (20 * T + m) k s y yb := ma.tr ((c3.g k s).q T _)
          have kb : ∀ c, c ≠ 0 → c ≠ 35 → c ≠ 36 → yb c = y c := fun c z0 z1 z2 => by rw [c3.1 c z0]; exact ka c z1 z2
          have f41 : yb 0 41 = (T : Int) := by rw [c3.2 41 (by decide) (by decide) (by decide) (by decide), ka 0 (by decide) (by decide)]; exact h41
          have b35 : yb 35 (20 * T + m) = pk8 w := by rw [c3.1 35 (by decide)]; exact a35
          have b36 : yb 36 (20 * T + m) = -1 := by rw [c3.1 36 (by decide)]; exact a36
          rw [b1, bd_e, b2.kn, bd_e, c1, bd_e, c2.ky hN 0, bd_e]
          by_cases k16 : KK f n (t + 1) = 16
          · obtain ⟨xc, g1, g2, g3, g4⟩ := b2.nx (by omega)
            obtain ⟨yc, i1, i2, i3⟩ := c2.nx hN (by omega)
            have ct2 : (0 : Int) ≤ ((t + 1 + 1 : Nat) : Int) ∧ ((t + 1 + 1 : Nat) : Int) < 601 := by have := g2.1.2.2.1; omega
            rw [if_pos k16, g1, bd_e, g2.1.2.1, ck_pos ct2, lt_e, tn_i, if_pos ((kB_i _).1.2 k16), if_neg n10, i1, bd_e, labelHere_e i2.1 hn6, bd_e, ck_pos cr, ck_pos cr, up2_s]
            have mc : mQ T (20 * T + m) k s y yc := mb.tr ((i3.g k s).q T _)
            have kc : ∀ c, c ≠ 0 → c ≠ 35 → c ≠ 36 → yc c = y c := fun c z0 z1 z2 => by rw [i3.1 c z0]; exact kb c z0 z1 z2
            have g41 : yc 0 41 = (T : Int) := by rw [i3.2 41 (by decide) (by decide) (by decide) (by decide)]; exact f41
            have c35 : yc 35 (20 * T + m) = pk8 w := by rw [i3.1 35 (by decide)]; exact b35
            obtain ⟨r2, xd, j1, j2⟩ := g2.pz 3 (by decide)
            rw [j1, bd_e]
            by_cases k3b : KK f n (t + 1 + 1) = 3
            · have k3b' : kd f n (ps f n (t + 1 + 1)) = 3 := k3b
              obtain ⟨_, _, _, _, _, _, _, _, _, e10b⟩ := tok_e f n (ps f n (t + 1 + 1)) hN.2.2.2
              obtain ⟨v2, hW2⟩ := e10b k3b'
              obtain ⟨w2, hw2⟩ : ∃ w2, w2 = wd f (ps f n (t + 1 + 1)) (en f n (ps f n (t + 1 + 1))) := ⟨_, rfl⟩
              rw [← hw2] at v2 hW2
              have hp2 := pk_pos w2 hW2
              rw [if_pos k3b] at j2
              obtain ⟨rfl, j3, j4, j5⟩ := j2
              right
              obtain ⟨z, z1, z2, z3, z4, z5⟩ := j3.op hm20 (pk5 w) (pk5 w2)
              have qd := i2.uc 36 (20 * T + m) (pk8 w2) (by decide)
              obtain ⟨yd, l1, l2, l3⟩ := qd.nx hN (by omega)
              have ed : yd 35 (20 * T + m) = pk8 w ∧ yd 36 (20 * T + m) = pk8 w2 ∧ yd 28 = y 28 ∧ yd 0 41 = (T : Int) := by
                refine ⟨?_, ?_, ?_, ?_⟩
                · rw [l3.1 35 (by decide), up2_K _ _ _ (by decide)]; exact c35
                · rw [l3.1 36 (by decide), up2_s]
                · rw [l3.1 28 (by decide), up2_K _ _ _ (by decide)]; exact kc 28 (by decide) (by decide) (by decide)
                · rw [l3.2 41 (by decide) (by decide) (by decide) (by decide), up2_K _ _ _ (by decide)]; exact g41
              refine ⟨z, yd, t + 1 + 1 + 1, ?_, ?_, hm20, by omega, z2, l2, ⟨ed.2.2.1, ed.2.2.2⟩, ?_, ?_, (((b3 m).tr (g3 m)).tr (j4 m)).tr z3, (mc.uc 36 _ _ (by decide) (by omega)).tr ((l3.g k s).q T _)⟩
              · rw [if_neg n10, (g2.lt (by omega)).2, show VV f n (t + 1 + 1) = pk5 w2 from v2]; exact z1
              · rw [if_pos k3b', ← hw2, if_neg (by omega), l1, bd_e]
              · rw [z4, ed.1]; exact ⟨w, hW, rfl, rfl⟩
              · rw [z5, ed.2.1]; exact Or.inr ⟨w2, hW2, rfl, rfl⟩
            · have k3b' : ¬ kd f n (ps f n (t + 1 + 1)) = 3 := k3b
              rw [if_neg k3b] at j2
              obtain ⟨rfl, j3, j4⟩ := j2
              left
              obtain ⟨yd, l1, l2, l3⟩ := (i2.uc 36 (20 * T + m) (-1) (by decide)).fl 2
              refine ⟨(2, t + 1 + 1), xd, yd, ?_, ?_, j3, l2, ((((b3 0).tr (g3 0)).mo (by omega) (by omega)).tr j4), (mc.uc 36 _ _ (by decide) (by omega)).tr ((l3 k s).q T _), (by decide : (1 : Int) ≤ 2)⟩
              · rw [if_pos rfl]
              · rw [if_neg k3b', if_pos rfl, l1, bd_e]
          · right
            rw [if_neg k16, if_neg (fun z => k16 ((kB_i _).1.1 z)), if_pos rfl]
            obtain ⟨z, z1, z2, z3, z4, z5⟩ := b2.op hm20 (pk5 w) 0
            refine ⟨z, yb, t + 1, z1, rfl, hm20, by omega, z2, c2, ⟨kb 28 (by decide) (by decide) (by decide), f41⟩, ?_, ?_, (b3 m).tr z3, mb⟩
            · rw [z4, b35]; exact ⟨w, hW, rfl, rfl⟩
            · rw [z5, b36]; exact Or.inl ⟨rfl, rfl⟩
        · exact absurd (iff.2 n2) (fun ⟨i, hi, e⟩ => n1 i hi e)
      · rcases labB_e (y := y) (r0 := 20 * T) (m := m) (by omega) (pk8 w) with ⟨n2, e2⟩ | ⟨n2, e2⟩
        · exact absurd (iff.1 n1) (fun ⟨i, hi, e⟩ => n2 i hi e)
        · left
          obtain ⟨x', c1, c2, c3, _⟩ := hx.rf 4
          obtain ⟨y', d1, d2, d3⟩ := hy.fl 4
          refine ⟨(4, t), x', y', ?_, ?_, c2, d2, c3, (d3 k s).q T _, (by decide : (1 : Int) ≤ 4)⟩
          · rw [e1, bd_e, if_neg n10, c1, bd_e]
          · rw [e2, lb_e, smr_, u0_q, d1, bd_e]
  · have k3' : ¬ kd f n (ps f n t) = 3 := k3
    left
    obtain ⟨x', c1, c2, c3, _⟩ := hx.rf 2
    obtain ⟨y', d1, d2, d3⟩ := hy.fl 2
    refine ⟨(2, t), x', y', ?_, ?_, c2, d2, c3, (d3 k s).q T _, (by decide : (1 : Int) ≤ 2)⟩
    · rw [if_neg k3, c1, bd_e]
    · rw [if_neg k3', if_pos rfl, d1, bd_e]
