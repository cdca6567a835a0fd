/-! COACHES: the class's tables filled -/
def tabO (x : Dt) (K home : Nat) (ps : Nat → Nat) (mi : Nat → Int) (S l : Nat) : Prop := EqO x K home ps mi S l ∧ 0 ≤ x 76 (S * 6 + l) ∧ x 76 (S * 6 + l) ≤ 1000 * S
theorem EqO.cg {x x' : Dt} {K home : Nat} {ps : Nat → Nat} {mi : Nat → Int} {S l : Nat} (h : EqO x K home ps mi S l) (h1 : x' 76 (S * 6 + l) = x 76 (S * 6 + l)) (h2 : ∀ k, k < K → x' 76 (dif S (2 ^ l) * 6 + k) = x 76 (dif S (2 ^ l) * 6 + k)) : EqO x' K home ps mi S l := by
  unfold EqO at h ⊢
  rw [h1, h]
  exact fm_cg _ _ _ _ _ K (fun k hk => ⟨rfl, fun _ => by rw [h2 k hk]⟩)
theorem outward_e {d : Dt} {K home : Nat} {ps : Nat → Nat} {rs mi : Nat → Int} (hA : AC d K ps rs mi) (hb : BC K ps rs mi) (hh : home < 7) : ∃ d', L_Ro_fillOutward (home : Int) d = some (0, d') ∧ (∀ k, k ≠ 76 → d' k = d k) ∧ ∀ S l, 1 ≤ S → S < 2 ^ K → l < K → S.testBit l = true → tabO d' K home ps mi S l := by
  obtain ⟨b1, b2, b3, b4⟩ := id hb
  have h64 := p64 K b1
  obtain ⟨d', e1, e2, e3⟩ := lp_inv (f := fun q : Int × Int × Dt => L_Ro_fillOutward_y2 q.1 q.2.1 q.2.2) (fun t x => ((home : Int), ((t + 1 : Nat) : Int), x)) (fun x => x)
    (fun t x => (∀ k, k ≠ 76 → x k = d k) ∧ ∀ S l, 1 ≤ S → S < t + 1 → l < K → S.testBit l = true → tabO x K home ps mi S l) (2 ^ K - 1)
    (by
      rintro t x ht ⟨f1, f2⟩
      have hAx : AC x K ps rs mi := hA.cg (fun k h1 h2 => f1 k (by omega))
      obtain ⟨x', k1, k2, k3, k4⟩ := lp_inv (f := fun q : Int × Int × Int × Dt => L_Ro_fillOutward_y14 q.1 q.2.1 q.2.2.1 q.2.2.2) (fun l y => ((home : Int), ((t + 1 : Nat) : Int), (l : Int), y)) (fun y => ((home : Int), ((t + 1 : Nat) : Int), y))
        (fun l y => (∀ k, k ≠ 76 → y k = x k) ∧ (∀ q, q < (t + 1) * 6 → y 76 q = x 76 q) ∧ ∀ l', l' < l → (t + 1).testBit l' = true → tabO y K home ps mi (t + 1) l') K
        (by
          rintro l y hl ⟨l1, l2, l3⟩
          have hAy : AC y K ps rs mi := hAx.cg (fun k h1 h2 => l1 k (by omega))
          have hold : ∀ S' k, S' < t + 1 → k < K → S'.testBit k = true → 0 ≤ y 76 (S' * 6 + k) ∧ y 76 (S' * 6 + k) ≤ 1000 * S' := by
            intro S' k h1 h2 h3
            have h0 : 1 ≤ S' := by
              by_cases z : S' = 0
              · subst z; rw [Nat.zero_testBit] at h3; cases h3
              · omega
            rw [l2 _ (by omega)]
            exact (f2 S' k h0 h1 h2 h3).2
          dsimp only
          unfold L_Ro_fillOutward_y14 L_Ro_fillOutward_b48
          rw [hAy.1, if_pos (by omega), ibit (t + 1) l (by omega) (by omega), w32_i (show l < 2147483647 by omega)]
          by_cases q : (t + 1).testBit l = true
          · have hdl := dif_lt (t + 1) l (by omega) q
            have hbd := EqO.bound (x := y) (home := home) hb hh (t + 1) l (by omega) hl q hold
            rw [if_pos q, if_neg (by decide), shortest_e hAy hb hh (t + 1) l (by omega) hl q hold, bd_e, ix6 (t + 1) l (by omega) (by omega), ck_pos ⟨by omega, by omega⟩, tn_i]
            refine ⟨_, rfl, ?_, ?_, ?_⟩
            · intro k hk; rw [up2_K _ _ _ hk]; exact l1 k hk
            · intro q2 hq2; rw [up2_j _ _ _ (by omega)]; exact l2 q2 hq2
            · intro l' hl' hb'
              by_cases e : l' = l
              · subst e
                refine ⟨?_, ?_⟩
                · unfold EqO
                  rw [up2_s]
                  exact fm_cg _ _ _ _ _ K (fun k hk => ⟨rfl, fun _ => by rw [up2_j _ _ _ (by omega)]⟩)
                · rw [up2_s]; exact hbd
              · obtain ⟨t1, t2⟩ := l3 l' (by omega) hb'
                have hdl' := dif_lt (t + 1) l' (by omega) hb'
                refine ⟨t1.cg (by rw [up2_j _ _ _ (by omega)]) (fun k hk => by rw [up2_j _ _ _ (by omega)]), ?_⟩
                rw [up2_j _ _ _ (by omega)]; exact t2
          · rw [if_neg q, if_pos rfl]
            refine ⟨y, rfl, l1, l2, fun l' hl' hb' => ?_⟩
            by_cases e : l' = l
            · subst e; exact absurd hb' q
            · exact l3 l' (by omega) hb')
        (by
          rintro y ⟨l1, _⟩
          dsimp only
          unfold L_Ro_fillOutward_y14
          rw [l1 71 (by decide), hAx.1, if_neg (by omega)]) (by omega) x ⟨fun _ _ => rfl, fun _ _ => rfl, fun l' h => by omega⟩
      refine ⟨x', ?_, ?_, ?_⟩
      · dsimp only
        unfold L_Ro_fillOutward_y2 L_Ro_fillOutward_l14
        rw [hAx.1, ishl1 K (by omega), if_pos (by omega), show lpF (fun q : Int × Int × Int × Dt => L_Ro_fillOutward_y14 q.1 q.2.1 q.2.2.1 q.2.2.2) FU ((home : Int), ((t + 1 : Nat) : Int), 0, x) = _ from k1, lb_e, u2_q, w32_i (show t + 1 < 2147483647 by omega)]
      · intro k hk; rw [k2 k hk]; exact f1 k hk
      · intro S l h1 h2 h3 h4
        by_cases e : S = t + 1
        · subst e; exact k4 l h3 h4
        · obtain ⟨t1, t2⟩ := f2 S l h1 (by omega) h3 h4
          have hdl := dif_le S (2 ^ l)
          refine ⟨t1.cg (k3 _ (by omega)) (fun k hk => k3 _ (by omega)), ?_⟩
          rw [k3 _ (by omega)]; exact t2)
    (by
      rintro x ⟨f1, _⟩
      dsimp only
      have hp : 0 < 2 ^ K := Nat.two_pow_pos K
      unfold L_Ro_fillOutward_y2
      rw [f1 71 (by decide), hA.1, ishl1 K (by omega), if_neg (by omega)]) (by omega) d ⟨fun _ _ => rfl, fun S l h1 h2 => by omega⟩
  refine ⟨d', ?_, e2, fun S l h1 h2 h3 h4 => e3 S l h1 (by omega) h3 h4⟩
  unfold L_Ro_fillOutward L_Ro_fillOutward_l2
  rw [show lpF (fun q : Int × Int × Dt => L_Ro_fillOutward_y2 q.1 q.2.1 q.2.2) FU ((home : Int), 1, d) = _ from e1, lb_e, u0_q]
def trA (x : Dt) (K home : Nat) (ps : Nat → Nat) (mi : Nat → Int) (S : Nat) : Int := fm (fun l => S.testBit l) (fun l => x 76 (S * 6 + l) + mi (ps l * 7 + home)) 1000000 K
theorem trA_b (x : Dt) (K home : Nat) (ps : Nat → Nat) (rs mi : Nat → Int) (hb : BC K ps rs mi) (hh : home < 7) (S : Nat) (hO : ∀ l, l < K → S.testBit l = true → 0 ≤ x 76 (S * 6 + l)) : 0 ≤ trA x K home ps mi S ∧ trA x K home ps mi S ≤ 1000000 := by
  obtain ⟨b1, b2, b3, b4⟩ := hb
  unfold trA
  refine ⟨?_, fm_0 _ _ _ K⟩
  rcases fm_at (fun l => S.testBit l) (fun l => x 76 (S * 6 + l) + mi (ps l * 7 + home)) 1000000 K with e | ⟨k, e1, e2, e3⟩
  · rw [e]; decide
  · rw [e3]
    have := hO k e1 e2
    have := b4 (ps k * 7 + home) (by have := b2 k e1; omega)
    omega
theorem tours_e {d : Dt} {K home : Nat} {ps : Nat → Nat} {rs mi : Nat → Int} (hA : AC d K ps rs mi) (hb : BC K ps rs mi) (hh : home < 7) (hO : ∀ S l, 1 ≤ S → S < 2 ^ K → l < K → S.testBit l = true → tabO d K home ps mi S l) : ∃ d', L_Ro_fillTours (home : Int) d = some (0, d') ∧ (∀ k, k ≠ 77 → d' k = d k) ∧ ∀ S, 1 ≤ S → S < 2 ^ K → d' 77 S = trA d K home ps mi S := by
  obtain ⟨b1, b2, b3, b4⟩ := id hb
  have h64 := p64 K b1
  have hp : 0 < 2 ^ K := Nat.two_pow_pos K
  obtain ⟨d', e1, e2, e3⟩ := lp_inv (f := fun q : Int × Int × Dt => L_Ro_fillTours_y2 q.1 q.2.1 q.2.2) (fun t x => ((home : Int), ((t + 1 : Nat) : Int), x)) (fun x => x)
    (fun t x => (∀ k, k ≠ 77 → x k = d k) ∧ ∀ S, 1 ≤ S → S < t + 1 → x 77 S = trA d K home ps mi S) (2 ^ K - 1)
    (by
      rintro t x ht ⟨f1, f2⟩
      have hAx : AC x K ps rs mi := hA.cg (fun k h1 h2 => f1 k (by omega))
      obtain ⟨a1, a2, a3, a4⟩ := hAx
      obtain ⟨x', k1, k2, k3, k4⟩ := lp_inv (f := fun q : Int × Int × Int × Dt => L_Ro_fillTours_y22 q.1 q.2.1 q.2.2.1 q.2.2.2) (fun l y => ((home : Int), ((t + 1 : Nat) : Int), (l : Int), y)) (fun y => ((home : Int), ((t + 1 : Nat) : Int), y))
        (fun l y => (∀ k, k ≠ 77 → y k = x k) ∧ (∀ q, q ≠ t + 1 → y 77 q = x 77 q) ∧ y 77 (t + 1) = fm (fun l => (t + 1).testBit l) (fun l => d 76 ((t + 1) * 6 + l) + mi (ps l * 7 + home)) 1000000 l) K
        (by
          rintro l y hl ⟨l1, l2, l3⟩
          have hpl := b2 l hl
          have hm := b4 (ps l * 7 + home) (by omega)
          dsimp only
          unfold L_Ro_fillTours_y22 L_Ro_fillTours_b85
          rw [l1 71 (by decide), a1, if_pos (by omega), ibit (t + 1) l (by omega) (by omega), w32_i (show l < 2147483647 by omega)]
          by_cases q : (t + 1).testBit l = true
          · obtain ⟨_, o1, o2⟩ := hO (t + 1) l (by omega) (by omega) hl q
            rw [if_pos q, if_neg (by decide), ck_pos ⟨by omega, by omega⟩, tn_i, tn_i, l1 74 (by decide), a2 l hl, ix7 (ps l) home hpl hh, ck_pos ⟨by omega, by omega⟩, tn_i, lt_e, ck_pos ⟨by omega, by omega⟩, ix6 (t + 1) l (by omega) (by omega), ck_pos ⟨by omega, by omega⟩, ck_pos ⟨by omega, by omega⟩, tn_i, l1 72 (by decide), a4, l1 76 (by decide), f1 76 (by decide), w32_s (x := d 76 ((t + 1) * 6 + l) + mi (ps l * 7 + home)) (by omega) (by omega), l3, jmin_e]
            refine ⟨_, rfl, ?_, ?_, ?_⟩
            · intro k hk; rw [up2_K _ _ _ hk]; exact l1 k hk
            · intro q2 hq2; rw [up2_j _ _ _ hq2]; exact l2 q2 hq2
            · rw [up2_s]; simp only [fm]; rw [if_pos q]
          · rw [if_neg q, if_pos rfl]
            refine ⟨y, rfl, l1, l2, ?_⟩
            simp only [fm]; rw [if_neg q]; exact l3)
        (by
          rintro y ⟨l1, _⟩
          dsimp only
          unfold L_Ro_fillTours_y22
          rw [l1 71 (by decide), a1, if_neg (by omega)]) (by omega) (up2 x 77 (t + 1) 1000000) ⟨fun k hk => up2_K _ _ _ hk, fun q hq => up2_j _ _ _ hq, by rw [up2_s]; rfl⟩
      refine ⟨x', ?_, ?_, ?_⟩
      · dsimp only
        unfold L_Ro_fillTours_y2 L_Ro_fillTours_l22
        rw [a1, ishl1 K (by omega), if_pos (by omega), ck_pos ⟨by omega, by omega⟩, tn_i, show lpF (fun q : Int × Int × Int × Dt => L_Ro_fillTours_y22 q.1 q.2.1 q.2.2.1 q.2.2.2) FU ((home : Int), ((t + 1 : Nat) : Int), 0, up2 x 77 (t + 1) 1000000) = _ from k1, lb_e, u2_q, w32_i (show t + 1 < 2147483647 by omega)]
      · intro k hk; rw [k2 k hk]; exact f1 k hk
      · intro S h1 h2
        by_cases e : S = t + 1
        · subst e; exact k4
        · rw [k3 S e]; exact f2 S h1 (by omega))
    (by
      rintro x ⟨f1, _⟩
      dsimp only
      unfold L_Ro_fillTours_y2
      rw [f1 71 (by decide), hA.1, ishl1 K (by omega), if_neg (by omega)]) (by omega) d ⟨fun _ _ => rfl, fun S h1 h2 => by omega⟩
  refine ⟨d', ?_, e2, fun S h1 h2 => e3 S h1 (by omega)⟩
  unfold L_Ro_fillTours L_Ro_fillTours_l2
  rw [show lpF (fun q : Int × Int × Dt => L_Ro_fillTours_y2 q.1 q.2.1 q.2.2) FU ((home : Int), 1, d) = _ from e1, lb_e, u0_q]
def fmL (c : Nat → Bool) (t : Nat → Int) (z : Int) (P : List Nat) : Int := P.foldl (fun a T => if c T = true then min a (t T) else a) z
theorem fmL_s (c : Nat → Bool) (t : Nat → Int) (z : Int) (P : List Nat) (T : Nat) : fmL c t z (P ++ [T]) = if c T = true then min (fmL c t z P) (t T) else fmL c t z P := by
  unfold fmL; rw [List.foldl_append]; rfl
theorem fmL_e (c : Nat → Bool) (t : Nat → Int) : ∀ (P : List Nat) (z : Int), fmL c t z P ≤ z ∧ (∀ T, T ∈ P → c T = true → fmL c t z P ≤ t T) ∧ (fmL c t z P = z ∨ ∃ T, T ∈ P ∧ c T = true ∧ fmL c t z P = t T)
  | [], z => ⟨Int.le_refl z, fun T h => absurd h List.not_mem_nil, Or.inl rfl⟩
  | U :: P, z => by
    obtain ⟨h1, h2, h3⟩ := fmL_e c t P (if c U = true then min z (t U) else z)
    have e : fmL c t z (U :: P) = fmL c t (if c U = true then min z (t U) else z) P := rfl
    rw [e]
    by_cases q : c U = true
    · rw [if_pos q] at h1 h2 h3 ⊢
      refine ⟨by omega, fun T hT hc => ?_, ?_⟩
      · rcases List.mem_cons.mp hT with rfl | hm
        · omega
        · exact h2 T hm hc
      · rcases h3 with h3 | ⟨T, g1, g2, g3⟩
        · by_cases q2 : z ≤ t U
          · left; omega
          · right; exact ⟨U, List.mem_cons_self, q, by omega⟩
        · right; exact ⟨T, List.mem_cons_of_mem _ g1, g2, g3⟩
    · rw [if_neg q] at h1 h2 h3 ⊢
      refine ⟨h1, fun T hT hc => ?_, ?_⟩
      · rcases List.mem_cons.mp hT with rfl | hm
        · exact absurd hc q
        · exact h2 T hm hc
      · rcases h3 with h3 | ⟨T, g1, g2, g3⟩
        · exact Or.inl h3
        · right; exact ⟨T, List.mem_cons_of_mem _ g1, g2, g3⟩
theorem fmL_cg (c : Nat → Bool) (t t' : Nat → Int) : ∀ (P : List Nat) (z : Int), (∀ T, T ∈ P → t T = t' T) → fmL c t z P = fmL c t' z P
  | [], _, _ => rfl
  | U :: P, z, h => by
    show fmL c t (if c U = true then min z (t U) else z) P = fmL c t' (if c U = true then min z (t' U) else z) P
    rw [h U List.mem_cons_self]
    exact fmL_cg c t t' P _ (fun T hT => h T (List.mem_cons_of_mem _ hT))
/-- the least cost of a set of stops: one coach takes its lowest -/
def okT (ld : Nat → Int) (room : Int) (S T : Nat) : Bool := T.testBit (lowI 7 S) && decide (ld T ≤ room)
def EqC (x : Dt) (ld tr : Nat → Int) (room : Int) (S : Nat) : Prop := x 78 S = fmL (okT ld room S) (fun T => tr T * 64 + 1 + x 78 (dif S T)) 64000000 (visS S)
theorem dif_lt2 (S T : Nat) (hS : S < 128) (hT : T < 128) (h0 : T ≠ 0) (hsub : T &&& S = T) : dif S T < S := by
  obtain ⟨i, hi, hb⟩ := ex_bit T 7 h0 (by omega)
  have h1 := dif_le S T
  have h2 := dif_t S T i (by omega)
  have h3 := (sub_t S T hS hT).1 hsub i hi hb
  rw [h3, hb] at h2
  by_cases e : dif S T = S
  · rw [e, h3] at h2; cases h2
  · omega
theorem share_e {d : Dt} {K : Nat} (ld tr : Nat → Int) (room : Int) (hK : K ≤ 6) (h71 : d 71 7 = (K : Int)) (h75 : ∀ S, S < 2 ^ K → d 75 S = ld S) (h77 : ∀ S, 1 ≤ S → S < 2 ^ K → d 77 S = tr S ∧ 0 ≤ tr S ∧ tr S ≤ 1000000) : ∃ d', L_Ro_shareOut room d = some (d' 78 (2 ^ K - 1), d') ∧ (∀ k, k ≠ 78 → d' k = d k) ∧ d' 78 0 = 0 ∧ (∀ S, S < 2 ^ K → 0 ≤ d' 78 S ∧ d' 78 S ≤ 64000000) ∧ ∀ S, 1 ≤ S → S < 2 ^ K → EqC d' ld tr room S := by
  have h64 := p64 K hK
  have hp : 0 < 2 ^ K := Nat.two_pow_pos K
  obtain ⟨d', e1, e2, e3, e4, e5⟩ := lp_inv (f := fun q : Int × Int × Int × Dt => L_Ro_shareOut_y18 q.1 q.2.1 q.2.2.1 q.2.2.2) (fun t x => (room, ((2 ^ K - 1 : Nat) : Int), ((t + 1 : Nat) : Int), x)) (fun x => (((2 ^ K - 1 : Nat) : Int), x))
    (fun t x => (∀ k, k ≠ 78 → x k = d k) ∧ x 78 0 = 0 ∧ (∀ S, S < t + 1 → 0 ≤ x 78 S ∧ x 78 S ≤ 64000000) ∧ ∀ S, 1 ≤ S → S < t + 1 → EqC x ld tr room S) (2 ^ K - 1)
    (by
      rintro t x ht ⟨f1, f2, f3, f4⟩
      obtain ⟨S, hS⟩ : ∃ S, S = t + 1 := ⟨_, rfl⟩
      rw [← hS] at f3 f4 ⊢
      obtain ⟨x', k1, k2, k3, k4⟩ := lp_vis (f := fun q : Int × Int × Int × Int × Int × Dt => L_Ro_shareOut_y40 q.1 q.2.1 q.2.2.1 q.2.2.2.1 q.2.2.2.2.1 q.2.2.2.2.2) S (by omega) (fun T y => (room, ((2 ^ K - 1 : Nat) : Int), (S : Int), ((2 ^ lowI 7 S : Nat) : Int), (T : Int), y)) (fun y => (room, ((2 ^ K - 1 : Nat) : Int), (S : Int), y))
        (fun P y => (∀ k, k ≠ 78 → y k = x k) ∧ (∀ q, q ≠ S → y 78 q = x 78 q) ∧ y 78 S = fmL (okT ld room S) (fun T => tr T * 64 + 1 + x 78 (dif S T)) 64000000 P)
        (by
          rintro P T y hT0 hT hsub ⟨l1, l2, l3⟩
          have hTS : T ≤ S := by have : T &&& S ≤ S := Nat.and_le_right; omega
          have hdl := dif_lt2 S T (by omega) hT hT0 hsub
          obtain ⟨t1, t2, t3⟩ := h77 T (by omega) (by omega)
          have hc := f3 (dif S T) hdl
          have hlow : lowI 7 S < 7 := by
            rcases lowI_p ⟨S, by omega⟩ with h | ⟨_, _, h3, _⟩
            · dsimp only at h; omega
            · exact h3
          have hle : (T - 1) &&& S ≤ T - 1 := Nat.and_le_left
          have b107 : ∀ y', L_Ro_shareOut_b107 room ((2 ^ K - 1 : Nat) : Int) (S : Int) ((2 ^ lowI 7 S : Nat) : Int) (T : Int) y' = some (Sum.inl (room, ((2 ^ K - 1 : Nat) : Int), (S : Int), ((2 ^ lowI 7 S : Nat) : Int), (((T - 1) &&& S : Nat) : Int), y')) := by
            intro y'
            unfold L_Ro_shareOut_b107
            rw [w32_s (x := (T : Int) - 1) (by omega) (by omega), show (T : Int) - 1 = ((T - 1 : Nat) : Int) by omega, iand_n (T - 1) S (by omega) (by omega), lt_e]
          dsimp only
          unfold L_Ro_shareOut_y40
          rw [if_pos (by omega)]
          by_cases q1 : T.testBit (lowI 7 S) = true
          · rw [if_neg (fun z => (andlow T (lowI 7 S) (by omega) (by omega)).1 z q1), ck_pos ⟨by omega, by omega⟩, tn_i, l1 75 (by decide), f1 75 (by decide), h75 T (by omega)]
            by_cases q2 : room < ld T
            · rw [if_pos q2, b107]
              refine ⟨y, rfl, l1, l2, ?_⟩
              rw [fmL_s, if_neg (by unfold okT; rw [Bool.and_eq_true, decide_eq_true_eq]; omega)]; exact l3
            · rw [if_neg q2, iand_dif S T (by omega) (by omega), ck_pos ⟨by omega, by omega⟩, ck_pos ⟨by omega, by omega⟩, tn_i, l1 77 (by decide), f1 77 (by decide), t1, tn_i, l2 _ (by omega), w32_s (x := tr T * 64) (by omega) (by omega), w32_s (x := tr T * 64 + 1) (by omega) (by omega), w32_s (x := tr T * 64 + 1 + x 78 (dif S T)) (by omega) (by omega), lt_e, ck_pos ⟨by omega, by omega⟩, ck_pos ⟨by omega, by omega⟩, b107, l3, jmin_e]
              refine ⟨_, rfl, ?_, ?_, ?_⟩
              · intro k hk; rw [up2_K _ _ _ hk]; exact l1 k hk
              · intro q hq; rw [up2_j _ _ _ hq]; exact l2 q hq
              · rw [up2_s, fmL_s, if_pos (by unfold okT; rw [Bool.and_eq_true, decide_eq_true_eq]; exact ⟨q1, by omega⟩)]
          · rw [if_pos ((andlow T (lowI 7 S) (by omega) (by omega)).2 q1), b107]
            refine ⟨y, rfl, l1, l2, ?_⟩
            rw [fmL_s, if_neg (by unfold okT; rw [Bool.and_eq_true]; exact fun z => q1 z.1)]; exact l3)
        (by
          intro y
          dsimp only
          unfold L_Ro_shareOut_y40
          rw [if_neg (by decide)]) (up2 x 78 S 64000000) ⟨fun k hk => up2_K _ _ _ hk, fun q hq => up2_j _ _ _ hq, by rw [up2_s]; rfl⟩
      refine ⟨x', ?_, ?_, ?_, ?_, ?_⟩
      · dsimp only
        unfold L_Ro_shareOut_y18 L_Ro_shareOut_l40
        rw [if_neg (by omega), low_e S (by omega) (by omega), lt_e, ck_pos ⟨by omega, by omega⟩, tn_i, k1, lb_e, u3_q, w32_i (show S < 2147483647 by omega)]
      · intro k hk; rw [k2 k hk]; exact f1 k hk
      · rw [k3 0 (by omega)]; exact f2
      · intro S' hS'
        by_cases e : S' = S
        · subst e
          rw [k4]
          obtain ⟨m1, m2, m3⟩ := fmL_e (okT ld room S') (fun T => tr T * 64 + 1 + x 78 (dif S' T)) (visS S') 64000000
          refine ⟨?_, m1⟩
          rcases m3 with m3 | ⟨T, g1, g2, g3⟩
          · rw [m3]; decide
          · rw [g3]
            obtain ⟨v1, v2, v3⟩ := (visS_m S' T (by omega)).1 g1
            have hTS : T ≤ S' := by have : T &&& S' ≤ S' := Nat.and_le_right; omega
            have := f3 (dif S' T) (dif_lt2 S' T (by omega) v2 v1 v3)
            have := h77 T (by omega) (by omega)
            omega
        · rw [k3 S' e]; exact f3 S' (by omega)
      · intro S' h1 h2
        unfold EqC
        by_cases e : S' = S
        · subst e
          rw [k4]
          refine fmL_cg _ _ _ _ _ (fun T hT => ?_)
          obtain ⟨v1, v2, v3⟩ := (visS_m S' T (by omega)).1 hT
          have := dif_lt2 S' T (by omega) v2 v1 v3
          rw [k3 _ (by omega)]
        · rw [k3 S' e]
          have := f4 S' h1 (by omega)
          unfold EqC at this
          rw [this]
          refine fmL_cg _ _ _ _ _ (fun T hT => ?_)
          have := dif_le S' T
          rw [k3 _ (by omega)])
    (by
      rintro x _
      dsimp only
      unfold L_Ro_shareOut_y18
      rw [if_pos (by omega)]) (by omega) (up2 d 78 0 0) ⟨fun k hk => up2_K _ _ _ hk, by rw [up2_s], fun S h => by
        have : S = 0 := by omega
        subst this; rw [up2_s]; omega, fun S h1 h2 => by omega⟩
  refine ⟨d', ?_, e2, e3, fun S h => e4 S (by omega), fun S h1 h2 => e5 S h1 (by omega)⟩
  unfold L_Ro_shareOut L_Ro_shareOut_l18
  rw [h71, ishl1 K (by omega), w32_s (x := ((2 ^ K : Nat) : Int) - 1) (by omega) (by omega), show ((2 ^ K : Nat) : Int) - 1 = ((2 ^ K - 1 : Nat) : Int) by omega, lt_e, show lpF (fun q : Int × Int × Int × Dt => L_Ro_shareOut_y18 q.1 q.2.1 q.2.2.1 q.2.2.2) FU (room, ((2 ^ K - 1 : Nat) : Int), 1, up2 d 78 0 0) = _ from e1, lb_e, u1_q, ck_pos ⟨by omega, by omega⟩, tn_i]
