/-! written, turns -/
theorem T_written {p1 p2 : Int} {dA dB : Dt} (hB : RB dA dB) (hC : RC dA dB) (hM : RM dA dB) (hG : RG dA dB) (hV : RV dA dB) : ∃ (r : Int) (dA' dB' : Dt), L_PB_written p1 p2 dA = some (r, dA') ∧ L_Mo_written p1 p2 dB = some (r, dB') ∧ RS dA' dB' ∧ RM dA' dB' := by
  have bad : ∃ (r : Int) (dA' dB' : Dt), L_PB_written_b24 p1 p2 1 dA = some (r, dA') ∧ L_Mo_written_b21 dB = some (r, dB') ∧ RS dA' dB' ∧ RM dA' dB' := by
    unfold L_PB_written_b24 L_Mo_written_b21
    simp only [i10, if_false, e_ref, bd_e]
    exact ⟨_, _, _, rfl, rfl, RS.of, RMup hM 1 1⟩
  unfold L_PB_written L_Mo_written L_Gr_isSetOfThem
  simp only [e_PB_isCandidate, e_Mo_isCandidate, bd_e]
  by_cases c0 : 0 ≤ p1 ∧ p1 ≤ 3
  · simp only [if_pos c0, if_pos (show 0 ≤ p1 ∧ p1 < 4 by omega), i10, if_false, hG.1]
    by_cases c1 : p2 < 0
    · simp only [if_pos c1, bd_e, if_true]; exact bad
    · simp only [if_neg c1]
      by_cases c2 : p2 < ishl 1 (dB 0 92)
      · obtain ⟨x, rfl⟩ : ∃ x : Nat, p1 = (x : Int) := ⟨p1.toNat, by omega⟩
        have hB0 : RB (up2 dA 0 0 0) dB := hB.cgA (fun k h1 h2 => up2_K _ _ _ (by omega))
        have hC0 : RC (up2 dA 0 0 0) dB := hC.cgA (up2_K _ _ _ (by decide))
        have hM0 : RM (up2 dA 0 0 0) dB := hM.cgA (by rw [up2_K _ _ _ (by decide)]) (fun k h1 h2 => up2_K _ _ _ (by omega))
        obtain ⟨y, a1, a2, a3, a4⟩ := cwA_e hB0 hC0 hM0
        have y1 : ∀ k, k ≠ 0 → k ≠ 37 → k ≠ 44 → k ≠ 45 → k ≠ 46 → k ≠ 47 → k ≠ 63 → y k = dA k := fun k h0 h1 h2 h3 h4 h5 h6 => by rw [a2 k h1 h2 h3 h4 h5 h6, up2_K _ _ _ h0]
        obtain ⟨z, b1, b2, b3, b4⟩ := addGr_e (d := y) (hB.cgA (fun k h1 h2 => y1 k (by omega) (by omega) (by omega) (by omega) (by omega) (by omega) (by omega))) (hC.cgA (y1 43 (by decide) (by decide) (by decide) (by decide) (by decide) (by decide) (by decide))) a3 (hG.cgA (by rw [y1 58 (by decide) (by decide) (by decide) (by decide) (by decide) (by decide) (by decide)]) (fun k h1 h2 => y1 k (by omega) (by omega) (by omega) (by omega) (by omega) (by omega) (by omega))) (hV.cgA (y1 49 (by decide) (by decide) (by decide) (by decide) (by decide) (by decide) (by decide)) (fun k h1 h2 => y1 k (by omega) (by omega) (by omega) (by omega) (by omega) (by omega) (by omega))) p2 a4
        obtain ⟨u, k1, k2⟩ := readW_e hB (Core.rf dB)
        obtain ⟨w, m1, m2, m3⟩ := cwB_e hB hG hV k2 p2
        unfold L_PB_written_b24 L_Gr_countWith
        simp only [if_pos c2, i10, if_true, if_false, bd_e, a1, b1, k1, m1, tn_i, ck_pos (show (0 : Int) ≤ (x : Int) ∧ (x : Int) < 4 by omega), ck_pos (show (62 : Int) = 62 by rfl), e_giv, b4 x (by omega), m3 x (by omega)]
        refine ⟨_, _, _, rfl, rfl, ?_, ?_⟩
        · unfold RS
          rw [b2 0 (by decide) (by decide) (by decide) (by decide) (by decide) (by decide), a2 0 (by decide) (by decide) (by decide) (by decide) (by decide) (by decide), up2_s, up2_s]
        · exact b3.cgB ((k2.s64 m2).1.bk.up 0 0)
      · simp only [if_neg c2, bd_e, if_true]; exact bad
  · simp only [if_neg c0, if_neg (show ¬ (0 ≤ p1 ∧ p1 < 4) by omega), if_true]; exact bad
/-- a set of GROUNDS can be, and seats the CANDIDATE -/
def okB (d : Dt) (x s : Nat) : Bool := (List.range (d 0 92).toNat).all (fun g => decide (¬ (¬ bitI (s : Int) g = 0 ∧ ¬ iand (d 66 g) (s : Int) = 0))) && decide (rk (fun c => gV d (s : Int) c (d 0 92).toNat) x 4 < 2)
theorem okB_e (d : Dt) (x s : Nat) : okB d x s = true ↔ ((∀ g, g < (d 0 92).toNat → ¬ clash d (s : Int) g) ∧ rk (fun c => gV d (s : Int) c (d 0 92).toNat) x 4 < 2) := by
  unfold okB clash
  rw [Bool.and_eq_true, List.all_eq_true, decide_eq_true_eq]
  constructor
  · rintro ⟨h1, h2⟩
    refine ⟨fun g hg => ?_, h2⟩
    have := h1 g (List.mem_range.mpr hg)
    rwa [decide_eq_true_eq] at this
  · rintro ⟨h1, h2⟩
    refine ⟨fun g hg => ?_, h2⟩
    rw [decide_eq_true_eq]
    exact h1 g (List.mem_range.mp hg)
def tF (d : Dt) (x : Nat) : Nat → Int
  | 0 => -1
  | s + 1 => if okB d x s = true ∧ (tF d x s = -1 ∨ (bk 10 s : Int) < tF d x s) then (bk 10 s : Int) else tF d x s
def tR (d : Dt) (x : Nat) : Nat → Int
  | 0 => 0
  | s + 1 => if okB d x s = true ∧ (tF d x s = -1 ∨ (bk 10 s : Int) < tF d x s) then 1 else if okB d x s = true ∧ (bk 10 s : Int) = tF d x s then tR d x s + 1 else tR d x s
def tW (d : Dt) (x : Nat) : Nat → Int
  | 0 => 0
  | s + 1 => if okB d x s = true ∧ (tF d x s = -1 ∨ (bk 10 s : Int) < tF d x s) then (s : Int) else tW d x s
theorem tF_b (d : Dt) (x : Nat) : ∀ s : Nat, -1 ≤ tF d x s ∧ tF d x s ≤ 10
  | 0 => by simp only [tF]; omega
  | s + 1 => by
    have ih := tF_b d x s
    have h := bk_b 10 s
    simp only [tF]; split <;> omega
theorem tR_b (d : Dt) (x : Nat) : ∀ s : Nat, 0 ≤ tR d x s ∧ tR d x s ≤ s
  | 0 => by simp only [tR]; omega
  | s + 1 => by
    have ih := tR_b d x s
    simp only [tR]; split
    · omega
    · split <;> omega
theorem gr1024 (n : Nat) (h : n ≤ 10) : 2 ^ n ≤ 1024 := Nat.pow_le_pow_right (n := 2) (by decide) h
theorem seats_e {d dB : Dt} (hB : RB d dB) (hC : RC d dB) (hM : RM d dB) (hG : RG d dB) (hV : RV d dB) (x s : Nat) (hx : x < 4) (h63 : ∀ c, c < 4 → d 63 c = sumB (fun e => (sett dB e : Int)) c (dB 52 0).toNat) : ∃ d', L_Gr_seats (x : Int) (s : Int) d = some (if rk (fun c => gV dB (s : Int) c (dB 0 92).toNat) x 4 < 2 then 1 else 0, d') ∧ (∀ k, k ≠ 37 → k ≠ 44 → k ≠ 45 → k ≠ 46 → k ≠ 47 → k ≠ 62 → d' k = d k) ∧ RM d' dB := by
  obtain ⟨z, b1, b2, b3, b4⟩ := addGr_e hB hC hM hG hV (s : Int) h63
  refine ⟨z, ?_, b2, b3⟩
  unfold L_Gr_seats
  rw [b1, bd_e, rankOf_e 62 x hx, bd_e, rk_cg (z 62) (fun c => gV dB (s : Int) c (dB 0 92).toNat) x 4 b4 (b4 x hx)]
  split <;> rfl
def tA (d : Dt) (x s : Nat) : Int := if tF d x s = -1 then 11 else tF d x s
theorem search_e {d dB : Dt} (hB : RB d dB) (hC : RC d dB) (hM : RM d dB) (hG : RG d dB) (hV : RV d dB) (x : Nat) (hx : x < 4) : ∃ d', L_Gr_search (x : Int) d = some (if tF dB x (2 ^ (dB 0 92).toNat) = -1 then 0 else 1, d') ∧ (∀ k, k ≠ 37 → k ≠ 44 → k ≠ 45 → k ≠ 46 → k ≠ 47 → k ≠ 58 → k ≠ 62 → k ≠ 63 → d' k = d k) ∧ d' 58 5 = d 58 5 ∧ RM d' dB ∧ (¬ tF dB x (2 ^ (dB 0 92).toNat) = -1 → d' 58 8 = tF dB x (2 ^ (dB 0 92).toNat) ∧ d' 58 9 = tR dB x (2 ^ (dB 0 92).toNat) ∧ d' 58 10 = tW dB x (2 ^ (dB 0 92).toNat)) := by
  obtain ⟨y0, a1, a2, a3, a4⟩ := cwA_e hB hC hM
  obtain ⟨g1, g2, _⟩ := id hG
  obtain ⟨N, hN⟩ : ∃ N : Nat, dB 0 92 = (N : Int) := ⟨(dB 0 92).toNat, by omega⟩
  have hN10 : 2 ^ N ≤ 1024 := gr1024 N (by omega)
  have hNt : (dB 0 92).toNat = N := by omega
  rw [hNt]
  obtain ⟨d', e1, e2, e3, e4, e5, e6⟩ := lp_inv (f := fun q : Int × Int × Dt => L_Gr_search_y12 q.1 q.2.1 q.2.2) (fun s y => ((x : Int), (s : Int), y)) (fun y => y)
    (fun s y => (∀ k, k ≠ 37 → k ≠ 44 → k ≠ 45 → k ≠ 46 → k ≠ 47 → k ≠ 58 → k ≠ 62 → y k = y0 k) ∧ y 58 5 = d 58 5 ∧ RM y dB ∧ y 58 8 = tA dB x s ∧ (¬ tF dB x s = -1 → y 58 9 = tR dB x s ∧ y 58 10 = tW dB x s)) (2 ^ N)
    (by
      rintro s y hs ⟨f1, f2, f3, f4, f5⟩
      have hk : ∀ k, k ≠ 37 → k ≠ 44 → k ≠ 45 → k ≠ 46 → k ≠ 47 → k ≠ 58 → k ≠ 62 → k ≠ 63 → y k = d k := fun k h1 h2 h3 h4 h5 h6 h7 h8 => by rw [f1 k h1 h2 h3 h4 h5 h6 h7, a2 k h1 h2 h3 h4 h5 h8]
      have hBy : RB y dB := hB.cgA (fun k h1 h2 => hk k (by omega) (by omega) (by omega) (by omega) (by omega) (by omega) (by omega) (by omega))
      have hCy : RC y dB := hC.cgA (hk 43 (by decide) (by decide) (by decide) (by decide) (by decide) (by decide) (by decide) (by decide))
      have hGy : RG y dB := hG.cgA f2 (fun k h1 h2 => hk k (by omega) (by omega) (by omega) (by omega) (by omega) (by omega) (by omega) (by omega))
      have hVy : RV y dB := hV.cgA (hk 49 (by decide) (by decide) (by decide) (by decide) (by decide) (by decide) (by decide) (by decide)) (fun k h1 h2 => hk k (by omega) (by omega) (by omega) (by omega) (by omega) (by omega) (by omega) (by omega))
      have hb := bk_b 10 s
      have htb := tF_b dB x s
      have htr := tR_b dB x s
      have y58 : y 58 5 = (N : Int) := by rw [f2, g1, hN]
      have skip : ∀ y', (∀ k, k ≠ 37 → k ≠ 44 → k ≠ 45 → k ≠ 46 → k ≠ 47 → k ≠ 62 → y' k = y k) → RM y' dB → (¬ okB dB x s = true ∨ tA dB x s < (bk 10 s : Int)) → ∃ d', L_Gr_search_b85 (x : Int) (s : Int) y' = some (Sum.inl ((x : Int), ((s + 1 : Nat) : Int), d')) ∧ (∀ k, k ≠ 37 → k ≠ 44 → k ≠ 45 → k ≠ 46 → k ≠ 47 → k ≠ 58 → k ≠ 62 → d' k = y0 k) ∧ d' 58 5 = d 58 5 ∧ RM d' dB ∧ d' 58 8 = tA dB x (s + 1) ∧ (¬ tF dB x (s + 1) = -1 → d' 58 9 = tR dB x (s + 1) ∧ d' 58 10 = tW dB x (s + 1)) := by
        intro y' l1 l2 l3
        have n1 : ¬ (okB dB x s = true ∧ (tF dB x s = -1 ∨ (bk 10 s : Int) < tF dB x s)) := by
          rintro ⟨q1, q2⟩
          rcases l3 with l3 | l3
          · exact l3 q1
          · unfold tA at l3
            by_cases q3 : tF dB x s = -1
            · rw [if_pos q3] at l3; omega
            · rw [if_neg q3] at l3; omega
        have n2 : ¬ (okB dB x s = true ∧ (bk 10 s : Int) = tF dB x s) := by
          rintro ⟨q1, q2⟩
          rcases l3 with l3 | l3
          · exact l3 q1
          · unfold tA at l3
            rw [if_neg (by omega)] at l3; omega
        have m1 : tF dB x (s + 1) = tF dB x s := by simp only [tF]; rw [if_neg n1]
        have m2 : tR dB x (s + 1) = tR dB x s := by simp only [tR]; rw [if_neg n1, if_neg n2]
        have m3 : tW dB x (s + 1) = tW dB x s := by simp only [tW]; rw [if_neg n1]
        have m4 : tA dB x (s + 1) = tA dB x s := by unfold tA; rw [m1]
        have l58 : y' 58 = y 58 := l1 58 (by decide) (by decide) (by decide) (by decide) (by decide) (by decide)
        unfold L_Gr_search_b85
        rw [w32_i (show s < 2147483647 by omega), m1, m2, m3, m4]
        refine ⟨_, rfl, ?_, ?_, l2, ?_, ?_⟩
        · intro k h1 h2 h3 h4 h5 h6 h7; rw [l1 k h1 h2 h3 h4 h5 h7]; exact f1 k h1 h2 h3 h4 h5 h6 h7
        · rw [l58]; exact f2
        · rw [l58]; exact f4
        · rw [l58]; exact f5
      dsimp only
      unfold L_Gr_search_y12
      rw [y58, ishl1 N (by omega), if_pos (by omega), bitCount_e s (by omega), bd_e, f4]
      by_cases q1 : tA dB x s < (bk 10 s : Int)
      · rw [if_pos q1]; exact skip y (fun _ _ _ _ _ _ _ => rfl) f3 (Or.inr q1)
      · rw [if_neg q1]
        obtain ⟨r, c1, c2⟩ := canAllBe_e hGy (s : Int)
        rw [c1, bd_e]
        rcases c2 with ⟨rfl, g, hg1, hg2⟩ | ⟨rfl, c3⟩
        · rw [if_pos rfl]
          exact skip y (fun _ _ _ _ _ _ _ => rfl) f3 (Or.inl (fun q => ((okB_e dB x s).1 q).1 g hg1 hg2))
        · rw [if_neg (by decide)]
          obtain ⟨z, b1, b2, b3⟩ := seats_e hBy hCy f3 hGy hVy x s hx (fun c hc => by rw [f1 63 (by decide) (by decide) (by decide) (by decide) (by decide) (by decide) (by decide)]; exact a4 c hc)
          rw [b1, bd_e]
          by_cases q2 : rk (fun c => gV dB (s : Int) c (dB 0 92).toNat) x 4 < 2
          · rw [if_pos q2, if_neg (by decide)]
            have hok : okB dB x s = true := (okB_e dB x s).2 ⟨c3, q2⟩
            have z58 : z 58 = y 58 := b2 58 (by decide) (by decide) (by decide) (by decide) (by decide) (by decide)
            unfold L_Gr_search_b75 L_Gr_search_b85
            rw [z58, f4, w32_i (show s < 2147483647 by omega)]
            by_cases q3 : (bk 10 s : Int) < tA dB x s
            · rw [if_pos q3]
              have p1 : okB dB x s = true ∧ (tF dB x s = -1 ∨ (bk 10 s : Int) < tF dB x s) := by
                refine ⟨hok, ?_⟩
                unfold tA at q3
                by_cases q4 : tF dB x s = -1
                · exact Or.inl q4
                · rw [if_neg q4] at q3; exact Or.inr q3
              have m1 : tF dB x (s + 1) = (bk 10 s : Int) := by simp only [tF]; rw [if_pos p1]
              have m2 : tR dB x (s + 1) = 1 := by simp only [tR]; rw [if_pos p1]
              have m3 : tW dB x (s + 1) = (s : Int) := by simp only [tW]; rw [if_pos p1]
              have m4 : tA dB x (s + 1) = (bk 10 s : Int) := by unfold tA; rw [m1, if_neg (by omega)]
              simp (disch := decide) only [up2_s, up2_j]
              rw [w32_s (x := 0 + 1) (by decide) (by decide), m4]
              refine ⟨_, rfl, ?_, ?_, ?_, ?_, ?_⟩
              · intro k h1 h2 h3 h4 h5 h6 h7
                rw [up2_K _ _ _ h6, up2_K _ _ _ h6, up2_K _ _ _ h6, up2_K _ _ _ h6, b2 k h1 h2 h3 h4 h5 h7]; exact f1 k h1 h2 h3 h4 h5 h6 h7
              · simp (disch := decide) only [up2_j]; rw [z58]; exact f2
              · exact b3.cgA (by simp (disch := decide) only [up2_K]) (fun k h1 h2 => by rw [up2_K _ _ _ (by omega), up2_K _ _ _ (by omega), up2_K _ _ _ (by omega), up2_K _ _ _ (by omega)])
              · simp (disch := decide) only [up2_s, up2_j]
              · intro _
                rw [m2, m3]
                simp (disch := decide) only [up2_s, up2_j]
                exact ⟨rfl, trivial⟩
            · rw [if_neg q3]
              have p0 : ¬ tF dB x s = -1 := by
                intro q4
                unfold tA at q3; rw [if_pos q4] at q3; omega
              have p2 : (bk 10 s : Int) = tF dB x s := by
                unfold tA at q1 q3; rw [if_neg p0] at q1 q3; omega
              have n1 : ¬ (okB dB x s = true ∧ (tF dB x s = -1 ∨ (bk 10 s : Int) < tF dB x s)) := by rintro ⟨_, q⟩; omega
              have m1 : tF dB x (s + 1) = tF dB x s := by simp only [tF]; rw [if_neg n1]
              have m2 : tR dB x (s + 1) = tR dB x s + 1 := by simp only [tR]; rw [if_neg n1, if_pos ⟨hok, p2⟩]
              have m3 : tW dB x (s + 1) = tW dB x s := by simp only [tW]; rw [if_neg n1]
              have m4 : tA dB x (s + 1) = tA dB x s := by unfold tA; rw [m1]
              obtain ⟨r1, r2⟩ := f5 p0
              rw [r1, w32_s (x := tR dB x s + 1) (by omega) (by omega), m4, m1, m2, m3]
              refine ⟨_, rfl, ?_, ?_, ?_, ?_, ?_⟩
              · intro k h1 h2 h3 h4 h5 h6 h7
                rw [up2_K _ _ _ h6, b2 k h1 h2 h3 h4 h5 h7]; exact f1 k h1 h2 h3 h4 h5 h6 h7
              · simp (disch := decide) only [up2_j]; rw [z58]; exact f2
              · exact b3.cgA (by simp (disch := decide) only [up2_K]) (fun k h1 h2 => by rw [up2_K _ _ _ (by omega)])
              · simp (disch := decide) only [up2_s, up2_j]; rw [z58]; exact f4
              · intro _
                simp (disch := decide) only [up2_s, up2_j]
                rw [z58]; exact ⟨trivial, r2⟩
          · rw [if_neg q2, if_pos rfl]
            exact skip z b2 b3 (Or.inl (fun q => q2 ((okB_e dB x s).1 q).2)))
    (by
      rintro y ⟨_, f2, _⟩
      dsimp only
      unfold L_Gr_search_y12
      rw [f2, g1, hN, ishl1 N (by omega), if_neg (by omega)]) (by omega) (up2 y0 58 8 11) (by
      refine ⟨fun k _ _ _ _ _ h6 _ => up2_K _ _ _ h6, ?_, ?_, ?_, fun q => absurd rfl q⟩
      · rw [up2_j _ _ _ (by decide), a2 58 (by decide) (by decide) (by decide) (by decide) (by decide) (by decide)]
      · exact a3.cgA (by rw [up2_K _ _ _ (by decide)]) (fun k h1 h2 => up2_K _ _ _ (by omega))
      · rw [up2_s]; rfl)
  have htb := tF_b dB x (2 ^ N)
  refine ⟨d', ?_, ?_, e3, e4, ?_⟩
  · unfold L_Gr_search L_Gr_search_l12
    rw [a1, bd_e, show lpF (fun q : Int × Int × Dt => L_Gr_search_y12 q.1 q.2.1 q.2.2) FU ((x : Int), 0, up2 y0 58 8 11) = _ from e1, lb_e, u0_q, e5]
    unfold tA
    by_cases q : tF dB x (2 ^ N) = -1
    · rw [if_pos q, if_pos q, if_pos (by decide)]
    · rw [if_neg q, if_neg q, if_neg (by omega)]
  · intro k h1 h2 h3 h4 h5 h6 h7 h8; rw [e2 k h1 h2 h3 h4 h5 h6 h7, a2 k h1 h2 h3 h4 h5 h8]
  · intro q
    obtain ⟨r1, r2⟩ := e6 q
    refine ⟨?_, r1, r2⟩
    rw [e5]; unfold tA; rw [if_neg q]
