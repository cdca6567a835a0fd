/-! POLL: entries and offers, the class's side -/
theorem wP_rg {dA dB : Dt} (hP : RP dA dB) (hQ : RQ dA dB) (e : Nat) : wP dB e (dB 0 7).toNat = -1 ∨ (0 ≤ wP dB e (dB 0 7).toNat ∧ wP dB e (dB 0 7).toNat < dB 0 7 ∧ wP dB e (dB 0 7).toNat = nP dB e (dB 0 7).toNat) := by
  have h1 := nP_b dB e (dB 0 7).toNat
  obtain ⟨_, q1, q2⟩ := hQ
  obtain ⟨_, p1, p2⟩ := hP
  unfold wP
  by_cases q : nF dB e (dB 0 7).toNat ≤ dB 0 79
  · rw [if_pos q]; right; exact ⟨h1.1 (by omega), by omega, rfl⟩
  · rw [if_neg q]; left; rfl
def twb (d : Dt) (e : Nat) (p : Int) : Bool := (List.range e).any (fun i => decide (wP d i (d 0 7).toNat = p))
theorem twb_e (d : Dt) (e : Nat) (p : Int) : twb d e p = true ↔ twc d e p := by
  unfold twb twc
  rw [List.any_eq_true]
  constructor
  · rintro ⟨i, h1, h2⟩; exact ⟨i, List.mem_range.mp h1, of_decide_eq_true h2⟩
  · rintro ⟨i, h1, h2⟩; exact ⟨i, List.mem_range.mpr h1, decide_eq_true h2⟩
def eV (W : Int → Int → Nat → Int) (dB : Dt) (e : Nat) : Int := if wP dB e (dB 0 7).toNat = -1 then 1 else if twb dB e (wP dB e (dB 0 7).toNat) = true then 2 else W (wP dB e (dB 0 7).toNat) (dB 54 e) (sett dB e)
def vb (W : Int → Int → Nat → Int) (dB : Dt) : Nat → Nat
  | 0 => 0
  | e + 1 => if eV W dB e = 0 then vb W dB e ||| 2 ^ (wP dB e (dB 0 7).toNat).toNat else vb W dB e
def sE (W : Int → Int → Nat → Int) (dB : Dt) (c : Nat) : Nat → Int
  | 0 => 0
  | e + 1 => sE W dB c e + (if eV W dB e = 0 then bitI ((sett dB e : Nat) : Int) c else 0)
def ob (W : Int → Int → Nat → Int) (dB : Dt) : Nat → Nat
  | 0 => vb W dB (dB 52 0).toNat
  | i + 1 => if (if (ob W dB i).testBit (dB 59 i).toNat = true then 2 else W (dB 59 i) (dB 61 i) (dB 60 i).toNat) = 0 then ob W dB i ||| 2 ^ (dB 59 i).toNat else ob W dB i
def oV (W : Int → Int → Nat → Int) (dB : Dt) (i : Nat) : Int := if (ob W dB i).testBit (dB 59 i).toNat = true then 2 else W (dB 59 i) (dB 61 i) (dB 60 i).toNat
theorem ob_s (W : Int → Int → Nat → Int) (dB : Dt) (i : Nat) : ob W dB (i + 1) = if oV W dB i = 0 then ob W dB i ||| 2 ^ (dB 59 i).toNat else ob W dB i := rfl
def sO (W : Int → Int → Nat → Int) (dB : Dt) (c : Nat) : Nat → Int
  | 0 => 0
  | i + 1 => sO W dB c i + (if oV W dB i = 0 then bitI (dB 60 i) c else 0)
theorem sE_b (W : Int → Int → Nat → Int) (dB : Dt) (c : Nat) : ∀ n : Nat, 0 ≤ sE W dB c n ∧ sE W dB c n ≤ n
  | 0 => by simp only [sE]; omega
  | n + 1 => by
    have ih := sE_b W dB c n
    have := bitI_b ((sett dB n : Nat) : Int) c
    simp only [sE]; split <;> omega
theorem sO_b (W : Int → Int → Nat → Int) (dB : Dt) (c : Nat) : ∀ n : Nat, 0 ≤ sO W dB c n ∧ sO W dB c n ≤ n
  | 0 => by simp only [sO]; omega
  | n + 1 => by
    have ih := sO_b W dB c n
    have := bitI_b (dB 60 n) c
    simp only [sO]; split <;> omega
theorem or_lt (a n : Nat) (ha : a < 2 ^ 40) (hn : n < 40) : a ||| 2 ^ n < 2 ^ 40 := Nat.or_lt_two_pow ha (Nat.pow_lt_pow_right (by decide) hn)
theorem vb_b {dA dB : Dt} (hP : RP dA dB) (hQ : RQ dA dB) (W : Int → Int → Nat → Int) : ∀ n : Nat, vb W dB n < 2 ^ 40
  | 0 => by simp only [vb]; decide
  | n + 1 => by
    have ih := vb_b hP hQ W n
    simp only [vb]
    split
    · refine or_lt _ _ ih ?_
      have hp := hP.2.2
      rcases wP_rg hP hQ n with h | ⟨h1, h2, _⟩
      · rw [h]; decide
      · omega
    · exact ih
theorem ob_b {dA dB : Dt} (hP : RP dA dB) (hQ : RQ dA dB) (hV : RV dA dB) (W : Int → Int → Nat → Int) : ∀ n : Nat, (n : Int) ≤ dB 0 87 → ob W dB n < 2 ^ 40
  | 0, _ => vb_b hP hQ W _
  | n + 1, h => by
    have ih := ob_b hP hQ hV W n (by omega)
    rw [ob_s]
    split
    · refine or_lt _ _ ih ?_
      have := hV.2.2 n (by omega)
      have hp := hP.2.2
      omega
    · exact ih
def EA (dA dB x : Dt) : Prop := JA dA dB x ∧ RB x dB ∧ RQ x dB ∧ RN x dB ∧ RC x dB ∧ RM x dB ∧ RV x dB
theorem EA.cg {dA dB x x' : Dt} (h : EA dA dB x) (hk : ∀ k, ((7 ≤ k ∧ k ≤ 25) ∨ k = 31 ∨ (38 ≤ k ∧ k ≤ 43) ∨ (49 ≤ k ∧ k ≤ 56) ∨ 79 ≤ k) → x' k = x k) (h302 : x' 30 2 = x 30 2) (hK : RLk x' dB) (hM : RM x' dB) : EA dA dB x' := by
  obtain ⟨h1, h2, h3, h4, h5, h6, h7⟩ := h
  refine ⟨h1.cg (fun k q => hk k (by omega)) h302 hK, h2.cgA (fun k q1 q2 => hk k (by omega)), ?_, ?_, h5.cgA (hk 43 (by omega)), hM, h7.cgA (hk 49 (by omega)) (fun k q1 q2 => hk k (by omega))⟩
  · unfold RQ at h3 ⊢; rw [hk 49 (by omega)]; exact h3
  · unfold RN at h4 ⊢; rw [hk 50 (by omega), hk 51 (by omega), hk 52 (by omega)]; exact h4
theorem entryA_e {dA dB x : Dt} {place : Nat} {day : Int} {W : Int → Int → Nat → Int} (hW : WW dA dB place day W) (h : EA dA dB x) (e : Nat) (he : (e : Int) < dB 52 0) : ∃ x', L_Po_entryStanding (e : Int) (place : Int) day x = some (eV W dB e, x') ∧ EA dA dB x' ∧ (∀ k, k ≠ 30 → k ≠ 32 → k ≠ 33 → k ≠ 34 → k ≠ 35 → k ≠ 36 → k ≠ 37 → k ≠ 44 → k ≠ 45 → k ≠ 46 → k ≠ 47 → x' k = x k) ∧ (0 ≤ eV W dB e ∧ eV W dB e ≤ 7) := by
  obtain ⟨hJ, hB, hQ, hN, hC, hM, hV⟩ := id h
  obtain ⟨_, z1, z2⟩ := hB.1 0 (by decide)
  have hP := hJ.2.2.2.1
  obtain ⟨r, t1, t2⟩ := isTwiceA hB hQ hN e he
  unfold L_Po_entryStanding eV
  rw [personOf_e hB hQ hN e he, bd_e]
  rcases wP_rg hP hQ e with hw | ⟨w1, w2, w3⟩
  · rw [if_pos hw, if_pos hw]; exact ⟨_, rfl, h, fun _ _ _ _ _ _ _ _ _ _ _ _ => rfl, by decide⟩
  · have hne : ¬ wP dB e (dB 0 7).toNat = -1 := by omega
    rw [if_neg hne, if_neg hne, t1, bd_e]
    rcases t2 with ⟨rfl, _, tw⟩ | ⟨rfl, tw⟩
    · rw [if_neg (by decide), if_pos ((twb_e _ _ _).2 tw)]; exact ⟨_, rfl, h, fun _ _ _ _ _ _ _ _ _ _ _ _ => rfl, by decide⟩
    · have hnt : ¬ twb dB e (wP dB e (dB 0 7).toNat) = true := fun q => tw ⟨hne, (twb_e _ _ _).1 q⟩
      obtain ⟨y, a1, a2, a3⟩ := jset_e hB hC hM e he
      have hKy : RLk y dB := hJ.2.1.cgA (a2 30 (by decide) (by decide) (by decide) (by decide) (by decide)) (a2 32 (by decide) (by decide) (by decide) (by decide) (by decide)) (a2 33 (by decide) (by decide) (by decide) (by decide) (by decide)) (a2 34 (by decide) (by decide) (by decide) (by decide) (by decide))
      have hEy : EA dA dB y := h.cg (fun k q => a2 k (by omega) (by omega) (by omega) (by omega) (by omega)) (by rw [a2 30 (by decide) (by decide) (by decide) (by decide) (by decide)]) hKy a3
      obtain ⟨wb, wa, _⟩ := hW (wP dB e (dB 0 7).toNat) (dB 54 e) (sett dB e) ⟨w1, w2⟩ (sett_b dB e)
      obtain ⟨u, b1, b2, b3, b4⟩ := wa y hEy.1
      have e40 := (hB.e0 e he).2.2.1
      rw [if_pos rfl, if_neg hnt, ck_pos ⟨by omega, by omega⟩, tn_i, a1, bd_e, e40, b1, bd_e]
      refine ⟨u, rfl, hEy.cg (fun k q => b2 k (by omega) (by omega) (by omega) (by omega) (by omega) (by omega)) b3 b4 ?_, fun k q1 q2 q3 q4 q5 q6 q7 q8 q9 q10 q11 => ?_, wb⟩
      · exact a3.cgA (by rw [b2 37 (by decide) (by decide) (by decide) (by decide) (by decide) (by decide)]) (fun k q1 q2 => b2 k (by omega) (by omega) (by omega) (by omega) (by omega) (by omega))
      · rw [b2 k q1 q2 q3 q4 q5 q6]; exact a2 k q7 q8 q9 q10 q11
theorem add57 {dA dB x : Dt} (h : EA dA dB x) (set : Int) (hb : ∀ c, c < 4 → -1000 ≤ x 57 c ∧ x 57 c ≤ 1000) : ∃ x', L_PB_addSet 57 4 set 1 x = some (0, x') ∧ EA dA dB x' ∧ (∀ k, k ≠ 57 → x' k = x k) ∧ ∀ c, c < 4 → x' 57 c = x 57 c + bitI set c := by
  obtain ⟨x', a1, a2, a3⟩ := addSet_e 57 set 1 x (Or.inl rfl) hb
  refine ⟨x', a1, h.cg (fun k q => a2 k (by omega)) (by rw [a2 30 (by decide)]) (h.1.2.1.cgA (a2 30 (by decide)) (a2 32 (by decide)) (a2 33 (by decide)) (a2 34 (by decide))) (h.2.2.2.2.2.1.cgA (by rw [a2 37 (by decide)]) (fun k q1 q2 => a2 k (by omega))), a2, fun c hc => by rw [a3 c hc, Int.mul_one]⟩
theorem countEA {dA dB x : Dt} {place : Nat} {day : Int} {W : Int → Int → Nat → Int} (hW : WW dA dB place day W) (h : EA dA dB x) : ∃ x', L_Po_countEntries (place : Int) day x = some ((vb W dB (dB 52 0).toNat : Int), x') ∧ EA dA dB x' ∧ x' 0 = x 0 ∧ ∀ c, c < 4 → x' 57 c = sE W dB c (dB 52 0).toNat := by
  obtain ⟨hJ, hB, hQ, hN, hC, hM, hV⟩ := id h
  obtain ⟨z0, z1, z2⟩ := hB.1 0 (by decide)
  have hP := hJ.2.2.2.1
  obtain ⟨y0, a1, a2, a3⟩ := fillI_run 57 4 0 x (by decide)
  have h0 : EA dA dB y0 := h.cg (fun k q => a2 k (by omega)) (by rw [a2 30 (by decide)]) (hJ.2.1.cgA (a2 30 (by decide)) (a2 32 (by decide)) (a2 33 (by decide)) (a2 34 (by decide))) (hM.cgA (by rw [a2 37 (by decide)]) (fun k q1 q2 => a2 k (by omega)))
  obtain ⟨u, e1, e2, e3, e4⟩ := lp_inv (f := fun q : Int × Int × Int × Int × Dt => L_Po_countEntries_y13 q.1 q.2.1 q.2.2.1 q.2.2.2.1 q.2.2.2.2) (fun e y => ((place : Int), day, (vb W dB e : Int), (e : Int), y)) (fun y => ((vb W dB (dB 52 0).toNat : Int), y))
    (fun e y => EA dA dB y ∧ y 0 = x 0 ∧ ∀ c, c < 4 → y 57 c = sE W dB c e) (dB 52 0).toNat
    (by
      rintro e y he ⟨f1, f2, f3⟩
      have he' : (e : Int) < dB 52 0 := by omega
      have y42 : y 42 0 = dB 52 0 := (f1.2.1.1 0 (by decide)).1
      obtain ⟨u, b1, b2, b3, b4⟩ := entryA_e hW f1 e he'
      have u57 : u 57 = y 57 := b3 57 (by decide) (by decide) (by decide) (by decide) (by decide) (by decide) (by decide) (by decide) (by decide) (by decide) (by decide)
      have u0 : u 0 = x 0 := by rw [b3 0 (by decide) (by decide) (by decide) (by decide) (by decide) (by decide) (by decide) (by decide) (by decide) (by decide) (by decide)]; exact f2
      dsimp only
      unfold L_Po_countEntries_y13 L_Po_countEntries_b67
      rw [y42, if_pos (by omega), b1, bd_e, w32_i (show e < 2147483647 by omega)]
      by_cases q : eV W dB e = 0
      · have hv : vb W dB (e + 1) = vb W dB e ||| 2 ^ (wP dB e (dB 0 7).toNat).toNat := by simp only [vb, if_pos q]
        have hw : 0 ≤ wP dB e (dB 0 7).toNat ∧ wP dB e (dB 0 7).toNat < dB 0 7 ∧ wP dB e (dB 0 7).toNat = nP dB e (dB 0 7).toNat := by
          rcases wP_rg hP hQ e with hw | hw
          · unfold eV at q; rw [if_pos hw] at q; omega
          · exact hw
        obtain ⟨n, hn⟩ : ∃ n : Nat, wP dB e (dB 0 7).toNat = (n : Int) := ⟨(wP dB e (dB 0 7).toNat).toNat, by omega⟩
        have hn40 : n < 40 := by have := hP.2.2; omega
        have u50 : u 50 e = (n : Int) := by rw [(b2.2.2.2.1 e he').1, ← hw.2.2, hn]
        obtain ⟨u2, c1, c2, c3⟩ := jset_e b2.2.1 b2.2.2.2.2.1 b2.2.2.2.2.2.1 e he'
        have hK2 : RLk u2 dB := b2.1.2.1.cgA (c2 30 (by decide) (by decide) (by decide) (by decide) (by decide)) (c2 32 (by decide) (by decide) (by decide) (by decide) (by decide)) (c2 33 (by decide) (by decide) (by decide) (by decide) (by decide)) (c2 34 (by decide) (by decide) (by decide) (by decide) (by decide))
        have hE2 : EA dA dB u2 := b2.cg (fun k q => c2 k (by omega) (by omega) (by omega) (by omega) (by omega)) (by rw [c2 30 (by decide) (by decide) (by decide) (by decide) (by decide)]) hK2 c3
        have u257 : u2 57 = y 57 := by rw [c2 57 (by decide) (by decide) (by decide) (by decide) (by decide)]; exact u57
        obtain ⟨u3, g1, g2, g3, g4⟩ := add57 hE2 ((sett dB e : Nat) : Int) (fun c hc => by rw [u257, f3 c hc]; have := sE_b W dB c e; omega)
        have hvb := vb_b hP hQ W e
        have p40 : (2 : Nat) ^ n < 2 ^ 40 := Nat.pow_lt_pow_right (by decide) hn40
        rw [if_pos q, ck_pos ⟨by omega, by omega⟩, tn_i, u50, lshl1 n (by omega), lor_n (vb W dB e) (2 ^ n) (Nat.lt_of_lt_of_le hvb (by decide)) (Nat.lt_of_lt_of_le p40 (by decide)), lt_e, c1, bd_e, g1, bd_e, hv, hn, tn_i]
        refine ⟨u3, rfl, g2, ?_, fun c hc => ?_⟩
        · rw [g3 0 (by decide), c2 0 (by decide) (by decide) (by decide) (by decide) (by decide)]; exact u0
        · rw [g4 c hc, u257, f3 c hc]; simp only [sE, if_pos q]
      · have hv : vb W dB (e + 1) = vb W dB e := by simp only [vb, if_neg q]
        rw [if_neg q, hv]
        exact ⟨u, rfl, b2, u0, fun c hc => by rw [u57, f3 c hc]; simp only [sE, if_neg q]; omega⟩)
    (by
      rintro y ⟨f1, f2, f3⟩
      have y42 : y 42 0 = dB 52 0 := (f1.2.1.1 0 (by decide)).1
      dsimp only
      unfold L_Po_countEntries_y13
      rw [y42, if_neg (by omega)]) (by omega) y0 ⟨h0, a2 0 (by decide), fun c hc => by rw [a3 c, if_pos hc]; rfl⟩
  refine ⟨u, ?_, e2, e3, e4⟩
  unfold L_Po_countEntries L_Po_countEntries_l13
  rw [a1, bd_e, show lpF (fun q : Int × Int × Int × Int × Dt => L_Po_countEntries_y13 q.1 q.2.1 q.2.2.1 q.2.2.2.1 q.2.2.2.2) FU ((place : Int), day, 0, 0, y0) = _ from e1, lb_e, u1_q]
def lastO (W : Int → Int → Nat → Int) (dB : Dt) : Nat → Int
  | 0 => 0
  | i + 1 => oV W dB i
theorem countOA {dA dB x : Dt} {place : Nat} {day : Int} {W : Int → Int → Nat → Int} (hW : WW dA dB place day W) (h : EA dA dB x) (lim : Nat) (hl : (lim : Int) ≤ dB 0 87) (h57 : ∀ c, c < 4 → x 57 c = sE W dB c (dB 52 0).toNat) : ∃ x', L_Po_countOffers (vb W dB (dB 52 0).toNat : Int) (lim : Int) (place : Int) day x = some (lastO W dB lim, x') ∧ EA dA dB x' ∧ x' 0 = x 0 ∧ ∀ c, c < 4 → x' 57 c = sE W dB c (dB 52 0).toNat + sO W dB c lim := by
  obtain ⟨hJ, hB, hQ, hN, hC, hM, hV⟩ := id h
  obtain ⟨z0, z1, z2⟩ := hB.1 0 (by decide)
  have hP := hJ.2.2.2.1
  have hl20 := hV.2.1.2
  obtain ⟨u, e1, e2, e3, e4⟩ := lp_inv (f := fun q : Int × Int × Int × Int × Int × Int × Dt => L_Po_countOffers_y9 q.1 q.2.1 q.2.2.1 q.2.2.2.1 q.2.2.2.2.1 q.2.2.2.2.2.1 q.2.2.2.2.2.2) (fun i y => ((lim : Int), (place : Int), day, (ob W dB i : Int), lastO W dB i, (i : Int), y)) (fun y => (lastO W dB lim, y))
    (fun i y => EA dA dB y ∧ y 0 = x 0 ∧ ∀ c, c < 4 → y 57 c = sE W dB c (dB 52 0).toNat + sO W dB c i) lim
    (by
      rintro i y hi ⟨f1, f2, f3⟩
      have hi' : (i : Int) < dB 0 87 := by omega
      have hVy := f1.2.2.2.2.2.2
      obtain ⟨o1, o2, o3, o4, o5, o6, o7, o8, o9⟩ := hVy.2.2 i hi'
      have y49 := hVy.1
      obtain ⟨n, hn⟩ : ∃ n : Nat, dB 59 i = (n : Int) := ⟨(dB 59 i).toNat, by omega⟩
      obtain ⟨s, hs⟩ : ∃ s : Nat, dB 60 i = (s : Int) := ⟨(dB 60 i).toNat, by omega⟩
      have hn40 : n < 40 := by have := hP.2.2; omega
      have hob := ob_b hP hQ hV W i (by omega)
      have p40 : (2 : Nat) ^ n < 2 ^ 40 := Nat.pow_lt_pow_right (by decide) hn40
      have c20 : (0 : Int) ≤ (i : Int) ∧ (i : Int) < 20 := by omega
      obtain ⟨wb, wa, _⟩ := hW (dB 59 i) (dB 61 i) s ⟨o4, o5⟩ (by omega)
      obtain ⟨u, b1, b2, b3, b4⟩ := wa y f1.1
      have hEu : EA dA dB u := f1.cg (fun k q => b2 k (by omega) (by omega) (by omega) (by omega) (by omega) (by omega)) b3 b4 (f1.2.2.2.2.2.1.cgA (by rw [b2 37 (by decide) (by decide) (by decide) (by decide) (by decide) (by decide)]) (fun k q1 q2 => b2 k (by omega) (by omega) (by omega) (by omega) (by omega) (by omega)))
      have u57 : u 57 = y 57 := b2 57 (by decide) (by decide) (by decide) (by decide) (by decide) (by decide)
      have u55 : u 55 i = (s : Int) := by rw [b2 55 (by decide) (by decide) (by decide) (by decide) (by decide) (by decide), o2, hs]
      have u0 : u 0 = x 0 := by rw [b2 0 (by decide) (by decide) (by decide) (by decide) (by decide) (by decide)]; exact f2
      have hoV : oV W dB i = if (ob W dB i).testBit n = true then 2 else W (n : Int) (dB 61 i) s := by unfold oV; rw [hn, tn_i, hs, tn_i]
      have hso := sO_b W dB
      have hse := sE_b W dB
      rw [hn] at b1
      dsimp only
      unfold L_Po_countOffers_y9 L_Po_countOffers_b50 L_Po_countOffers_b85 L_Po_countOffers_b116
      rw [if_pos (by omega), y49, if_pos hi', ck_pos c20, tn_i, o1, lt_e, hn, lbit (ob W dB i) n (Nat.lt_of_lt_of_le hob (by decide)) (by omega), o2, o3, hs, w32_i (show i < 2147483647 by omega), ob_s, show lastO W dB (i + 1) = oV W dB i from rfl, hn, tn_i]
      by_cases q : (ob W dB i).testBit n = true
      · rw [if_pos q] at hoV
        rw [if_pos q, if_neg (by decide), if_neg (by decide), if_neg (by decide), hoV, if_neg (by decide)]
        exact ⟨y, rfl, f1, f2, fun c hc => by rw [f3 c hc]; simp only [sO, hoV, if_neg (show ¬ (2 : Int) = 0 by decide)]; omega⟩
      · rw [if_neg q] at hoV
        rw [if_neg q, if_pos rfl, if_pos rfl, ck_pos c20, ck_pos c20, b1, bd_e, hoV]
        by_cases q2 : W (n : Int) (dB 61 i) s = 0
        · obtain ⟨u3, g1, g2, g3, g4⟩ := add57 hEu ((s : Nat) : Int) (fun c hc => by rw [u57, f3 c hc]; have := hso c i; have := hse c (dB 52 0).toNat; omega)
          rw [if_pos q2, if_pos q2, lshl1 n (by omega), lor_n (ob W dB i) (2 ^ n) (Nat.lt_of_lt_of_le hob (by decide)) (Nat.lt_of_lt_of_le p40 (by decide)), lt_e, ck_pos c20, u55, g1, bd_e]
          refine ⟨u3, rfl, g2, by rw [g3 0 (by decide)]; exact u0, fun c hc => ?_⟩
          rw [g4 c hc, u57, f3 c hc]; simp only [sO, hoV, if_pos q2, hs]; omega
        · rw [if_neg q2, if_neg q2]
          exact ⟨u, rfl, hEu, u0, fun c hc => by rw [u57, f3 c hc]; simp only [sO, hoV, if_neg q2]; omega⟩)
    (by
      rintro y ⟨f1, f2, f3⟩
      dsimp only
      unfold L_Po_countOffers_y9
      rw [if_neg (by omega)]) (by omega) x ⟨h, rfl, fun c hc => by rw [h57 c hc]; simp only [sO]; omega⟩
  refine ⟨u, ?_, e2, e3, e4⟩
  unfold L_Po_countOffers L_Po_countOffers_l9
  rw [show lpF (fun q : Int × Int × Int × Int × Int × Int × Dt => L_Po_countOffers_y9 q.1 q.2.1 q.2.2.1 q.2.2.2.1 q.2.2.2.2.1 q.2.2.2.2.2.1 q.2.2.2.2.2.2) FU ((lim : Int), (place : Int), day, (vb W dB (dB 52 0).toNat : Int), 0, 0, x) = _ from e1, lb_e, u1_q]
