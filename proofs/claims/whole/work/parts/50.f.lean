/-! frames: which places may change -/
def Fr (o : List (Nat × Nat)) (a : List Nat) (y : Bool) (d d' : Dt) : Prop := d' GH = d GH ∧ ∀ k j, o.contains (k, j) = false → a.contains k = false → (y = true → k < 79 ∨ 121 ≤ k) → d' k j = d k j
theorem Fr.rfl {o : List (Nat × Nat)} {a : List Nat} {y : Bool} {d : Dt} : Fr o a y d d := ⟨_root_.rfl, fun _ _ _ _ _ => _root_.rfl⟩
theorem Fr.g {o : List (Nat × Nat)} {a : List Nat} {y : Bool} {d e : Dt} (h : Fr o a y d e) (hg : d GH 0 ≤ 6) : e GH 0 ≤ 6 := by rw [h.1]; exact hg
theorem Fr.tr0 {o : List (Nat × Nat)} {a : List Nat} {y : Bool} {d e f : Dt} (h : Fr o a y d e) (h2 : Fr o a y e f) : Fr o a y d f := ⟨h2.1.trans h.1, fun k j h1 h3 h4 => (h2.2 k j h1 h3 h4).trans (h.2 k j h1 h3 h4)⟩
theorem Fr.wk {o o2 : List (Nat × Nat)} {a a2 : List Nat} {y y2 : Bool} {e f : Dt} (h2 : Fr o2 a2 y2 e f) (ho : (o2.all (fun x => o.contains x)) = true) (ha : (a2.all (fun x => a.contains x)) = true) (hy : y2 = true → y = true) : Fr o a y e f := by
  refine ⟨h2.1, fun k j h1 h3 h4 => h2.2 k j ?_ ?_ (fun z => h4 (hy z))⟩
  · cases hc : o2.contains (k, j) with
    | false => rfl
    | true =>
      have := List.all_eq_true.mp ho (k, j) (List.contains_iff_mem.mp hc)
      rw [h1] at this; cases this
  · cases hc : a2.contains k with
    | false => rfl
    | true =>
      have := List.all_eq_true.mp ha k (List.contains_iff_mem.mp hc)
      rw [h3] at this; cases this
theorem Fr.tr {o o2 : List (Nat × Nat)} {a a2 : List Nat} {y y2 : Bool} {d e f : Dt} (h : Fr o a y d e) (h2 : Fr o2 a2 y2 e f) (ho : (o2.all (fun x => o.contains x)) = true) (ha : (a2.all (fun x => a.contains x)) = true) (hy : y2 = true → y = true) : Fr o a y d f := h.tr0 (h2.wk ho ha hy)
theorem Fr.upo {o : List (Nat × Nat)} {a : List Nat} {y : Bool} {d e : Dt} {k j : Nat} {v : Int} (h : Fr o a y d e) (hm : o.contains (k, j) = true) (hk : k ≠ GH) : Fr o a y d (up2 e k j v) := by
  refine ⟨by rw [up2_K _ _ _ (fun z => hk z.symm)]; exact h.1, fun k' j' h1 h3 h4 => ?_⟩
  by_cases hkk : k' = k
  · subst hkk
    by_cases hjj : j' = j
    · subst hjj; rw [hm] at h1; cases h1
    · rw [up2_j _ _ _ hjj]; exact h.2 k' j' h1 h3 h4
  · rw [up2_k _ _ _ _ hkk]; exact h.2 k' j' h1 h3 h4
theorem Fr.upa {o : List (Nat × Nat)} {a : List Nat} {y : Bool} {d e : Dt} {k j : Nat} {v : Int} (h : Fr o a y d e) (hm : a.contains k = true) (hk : k ≠ GH) : Fr o a y d (up2 e k j v) := by
  refine ⟨by rw [up2_K _ _ _ (fun z => hk z.symm)]; exact h.1, fun k' j' h1 h3 h4 => ?_⟩
  by_cases hkk : k' = k
  · subst hkk; rw [hm] at h3; cases h3
  · rw [up2_k _ _ _ _ hkk]; exact h.2 k' j' h1 h3 h4
theorem Fr.cpa {o : List (Nat × Nat)} {a : List Nat} {y : Bool} {d e : Dt} {k sp k1 dp n : Nat} (h : Fr o a y d e) (hm : a.contains k1 = true) (hk : k1 ≠ GH) : Fr o a y d (cp2 e k sp k1 dp n) := by
  have hc : ∀ k', k' ≠ k1 → cp2 e k sp k1 dp n k' = e k' := fun k' hk' => by unfold cp2; rw [if_neg hk']
  refine ⟨by rw [hc _ (fun z => hk z.symm)]; exact h.1, fun k' j' h1 h3 h4 => ?_⟩
  by_cases hkk : k' = k1
  · subst hkk; rw [hm] at h3; cases h3
  · rw [hc _ hkk]; exact h.2 k' j' h1 h3 h4
theorem Fr.upd {o : List (Nat × Nat)} {a : List Nat} {d e : Dt} {x v : Int} {c j : Nat} (h : Fr o a true d e) (hg : d GH 0 ≤ 6) (hs : stt e x) (hc : c < 7) : Fr o a true d (up2 e (x.toNat + c) j v) := by
  have hg2 := h.g hg
  have h1 := hs.1
  have h2 := hs.2.1
  have h3 := hs.2.2
  have hk : x.toNat + c < 121 := by omega
  have hGH : GH = 1000000 := _root_.rfl
  refine ⟨by rw [up2_K _ _ _ (by omega)]; exact h.1, fun k' j' g1 g3 g4 => ?_⟩
  have := g4 _root_.rfl
  rw [up2_k _ _ _ _ (by omega)]; exact h.2 k' j' g1 g3 g4
theorem lpF_fr {σ ρ : Type} {f : σ → Option (σ ⊕ ρ)} {o : List (Nat × Nat)} {a : List Nat} {y : Bool} (hs : σ → Dt) (he : ρ → Dt) (hst : ∀ q x, hs q GH 0 ≤ 6 → f q = some x → (∀ q', x = .inl q' → Fr o a y (hs q) (hs q')) ∧ ∀ r, x = .inr r → Fr o a y (hs q) (he r)) : ∀ (n : Nat) (q : σ) (r : ρ), hs q GH 0 ≤ 6 → lpF f n q = some r → Fr o a y (hs q) (he r) := by
  intro n
  induction n with
  | zero => intro q r _ h; cases h
  | succ n ih =>
    intro q r hg h
    rcases lpF_some h with h | ⟨q', h1, h⟩
    · exact (hst q _ hg h).2 r _root_.rfl
    · have h2 := (hst q _ hg h1).1 q' _root_.rfl
      exact h2.tr0 (ih q' r (h2.g hg) h)
/-! frames of Ar_fill_aII -/
def wo_Ar_fill_aII : List (Nat × Nat) := []
def he_Ar_fill_aII_5 (q : (Dt)) : Dt := q
def hb_Ar_fill_aII_5 (o : (Int × Int × Int × Dt) ⊕ ((Dt))) : Dt := match o with
  | .inl q => q.2.2.2
  | .inr r => he_Ar_fill_aII_5 r
theorem fr_Ar_fill_aII_y5 (arr0 len0 : Nat) {o : (Int × Int × Int × Dt) ⊕ ((Dt))} (x1 x2 x3 : Int) (d : Dt) (hg : d GH 0 ≤ 6) (hnarr0 : arr0 ≠ GH) (h : L_Ar_fill_aII_y5 arr0 len0 x1 x2 x3 d = some o) : Fr wo_Ar_fill_aII [arr0] false d (hb_Ar_fill_aII_5 o) := by
  have f0 : Fr wo_Ar_fill_aII [arr0] false d d := Fr.rfl
  unfold L_Ar_fill_aII_y5 at h
  rcases ite_some h with ⟨hc1_, h⟩ | ⟨hc1_, h⟩
  · obtain ⟨hb2_, h⟩ := ck_some h
    obtain rfl := Option.some.inj h
    exact (Fr.upa f0 (by simp) hnarr0)
  · obtain rfl := Option.some.inj h
    exact f0
theorem fr_Ar_fill_aII_l5 (arr0 len0 : Nat) {x : (Dt)} (x1 x2 x3 : Int) (d : Dt) (hg : d GH 0 ≤ 6) (hnarr0 : arr0 ≠ GH) (h : L_Ar_fill_aII_l5 arr0 len0 x1 x2 x3 d = some x) : Fr wo_Ar_fill_aII [arr0] false d (he_Ar_fill_aII_5 x) :=
  lpF_fr (f := fun q : Int × Int × Int × Dt => L_Ar_fill_aII_y5 arr0 len0 q.1 q.2.1 q.2.2.1 q.2.2.2) (fun q => q.2.2.2) he_Ar_fill_aII_5 (fun q x hq hx => ⟨fun q2 e2 => by subst e2; exact fr_Ar_fill_aII_y5 arr0 len0 q.1 q.2.1 q.2.2.1 q.2.2.2 hq hnarr0 hx, fun r2 e2 => by subst e2; exact fr_Ar_fill_aII_y5 arr0 len0 q.1 q.2.1 q.2.2.1 q.2.2.2 hq hnarr0 hx⟩) FU _ x hg h
theorem fr_Ar_fill_aII (arr0 len0 : Nat) {r : Int} {d' : Dt} (p2 : Int) (d : Dt) (hg : d GH 0 ≤ 6) (hnarr0 : arr0 ≠ GH) (h : L_Ar_fill_aII arr0 len0 p2 d = some (r, d')) : Fr wo_Ar_fill_aII [arr0] false d d' := by
  have f0 : Fr wo_Ar_fill_aII [arr0] false d d := Fr.rfl
  unfold L_Ar_fill_aII at h
  obtain ⟨hc3_, h⟩ := ck_some h
  obtain ⟨v4_, ev5_, h⟩ := lt_some h
  obtain ⟨x7_, hx8_, h⟩ := lb_some h
  have fx7_ := Fr.tr0 f0 (fr_Ar_fill_aII_l5 arr0 len0 p2 0 v4_ d (Fr.g f0 hg) hnarr0 hx8_)
  obtain ⟨d9_, rfl⟩ : ∃ z, z = x7_ := ⟨_, rfl⟩
  have fd9_ : Fr wo_Ar_fill_aII [arr0] false d d9_ := fx7_
  replace h := u0_e h
  obtain ⟨rfl, rfl⟩ := ret_inj h
  exact fd9_
/-! frames of PB_status -/
def wo_PB_status : List (Nat × Nat) := []
theorem fr_PB_status {r : Int} {d' : Dt} (d : Dt) (hg : d GH 0 ≤ 6) (h : L_PB_status d = some (r, d')) : Fr wo_PB_status [] false d d' := by
  have f0 : Fr wo_PB_status [] false d d := Fr.rfl
  unfold L_PB_status at h
  obtain ⟨rfl, rfl⟩ := ret_inj h
  exact f0
/-! frames of Tr_canBe -/
def wo_Tr_canBe : List (Nat × Nat) := []
theorem fr_Tr_canBe {r : Int} {d' : Dt} (p1 : Int) (d : Dt) (hg : d GH 0 ≤ 6) (h : L_Tr_canBe p1 d = some (r, d')) : Fr wo_Tr_canBe [] false d d' := by
  have f0 : Fr wo_Tr_canBe [] false d d := Fr.rfl
  unfold L_Tr_canBe at h
  rcases ite_some h with ⟨hc1_, h⟩ | ⟨hc1_, h⟩
  · obtain ⟨rfl, rfl⟩ := ret_inj h
    exact f0
  · rcases ite_some h with ⟨hc2_, h⟩ | ⟨hc2_, h⟩
    · obtain ⟨rfl, rfl⟩ := ret_inj h
      exact f0
    · obtain ⟨rfl, rfl⟩ := ret_inj h
      exact f0
/-! frames of PB_within -/
def wo_PB_within : List (Nat × Nat) := []
theorem fr_PB_within {r : Int} {d' : Dt} (p1 p2 p3 : Int) (d : Dt) (hg : d GH 0 ≤ 6) (h : L_PB_within p1 p2 p3 d = some (r, d')) : Fr wo_PB_within [] false d d' := by
  have f0 : Fr wo_PB_within [] false d d := Fr.rfl
  unfold L_PB_within at h
  rcases ite_some h with ⟨hc1_, h⟩ | ⟨hc1_, h⟩
  · obtain ⟨rfl, rfl⟩ := ret_inj h
    exact f0
  · rcases ite_some h with ⟨hc2_, h⟩ | ⟨hc2_, h⟩
    · obtain ⟨rfl, rfl⟩ := ret_inj h
      exact f0
    · obtain ⟨rfl, rfl⟩ := ret_inj h
      exact f0
/-! frames of Ar_rangeCheck -/
def wo_Ar_rangeCheck : List (Nat × Nat) := []
theorem fr_Ar_rangeCheck {r : Int} {d' : Dt} (p1 p2 p3 : Int) (d : Dt) (hg : d GH 0 ≤ 6) (h : L_Ar_rangeCheck p1 p2 p3 d = some (r, d')) : Fr wo_Ar_rangeCheck [] false d d' := by
  have f0 : Fr wo_Ar_rangeCheck [] false d d := Fr.rfl
  unfold L_Ar_rangeCheck at h
  rcases ite_some h with ⟨hc1_, h⟩ | ⟨hc1_, h⟩
  · cases h
  · rcases ite_some h with ⟨hc2_, h⟩ | ⟨hc2_, h⟩
    · cases h
    · rcases ite_some h with ⟨hc3_, h⟩ | ⟨hc3_, h⟩
      · cases h
      · obtain ⟨rfl, rfl⟩ := ret_inj h
        exact f0
/-! frames of Ar_fill_aJIIJ -/
def wo_Ar_fill_aJIIJ : List (Nat × Nat) := []
def he_Ar_fill_aJIIJ_10 (q : (Dt)) : Dt := q
def hb_Ar_fill_aJIIJ_10 (o : (Int × Int × Int × Dt) ⊕ ((Dt))) : Dt := match o with
  | .inl q => q.2.2.2
  | .inr r => he_Ar_fill_aJIIJ_10 r
theorem fr_Ar_fill_aJIIJ_y10 (arr0 len0 : Nat) {o : (Int × Int × Int × Dt) ⊕ ((Dt))} (x2 x3 x5 : Int) (d : Dt) (hg : d GH 0 ≤ 6) (hnarr0 : arr0 ≠ GH) (h : L_Ar_fill_aJIIJ_y10 arr0 len0 x2 x3 x5 d = some o) : Fr wo_Ar_fill_aJIIJ [arr0] false d (hb_Ar_fill_aJIIJ_10 o) := by
  have f0 : Fr wo_Ar_fill_aJIIJ [arr0] false d d := Fr.rfl
  unfold L_Ar_fill_aJIIJ_y10 at h
  rcases ite_some h with ⟨hc1_, h⟩ | ⟨hc1_, h⟩
  · obtain ⟨hb2_, h⟩ := ck_some h
    obtain rfl := Option.some.inj h
    exact (Fr.upa f0 (by simp) hnarr0)
  · obtain rfl := Option.some.inj h
    exact f0
theorem fr_Ar_fill_aJIIJ_l10 (arr0 len0 : Nat) {x : (Dt)} (x2 x3 x5 : Int) (d : Dt) (hg : d GH 0 ≤ 6) (hnarr0 : arr0 ≠ GH) (h : L_Ar_fill_aJIIJ_l10 arr0 len0 x2 x3 x5 d = some x) : Fr wo_Ar_fill_aJIIJ [arr0] false d (he_Ar_fill_aJIIJ_10 x) :=
  lpF_fr (f := fun q : Int × Int × Int × Dt => L_Ar_fill_aJIIJ_y10 arr0 len0 q.1 q.2.1 q.2.2.1 q.2.2.2) (fun q => q.2.2.2) he_Ar_fill_aJIIJ_10 (fun q x hq hx => ⟨fun q2 e2 => by subst e2; exact fr_Ar_fill_aJIIJ_y10 arr0 len0 q.1 q.2.1 q.2.2.1 q.2.2.2 hq hnarr0 hx, fun r2 e2 => by subst e2; exact fr_Ar_fill_aJIIJ_y10 arr0 len0 q.1 q.2.1 q.2.2.1 q.2.2.2 hq hnarr0 hx⟩) FU _ x hg h
theorem fr_Ar_fill_aJIIJ (arr0 len0 : Nat) {r : Int} {d' : Dt} (p2 p3 p4 : Int) (d : Dt) (hg : d GH 0 ≤ 6) (hnarr0 : arr0 ≠ GH) (h : L_Ar_fill_aJIIJ arr0 len0 p2 p3 p4 d = some (r, d')) : Fr wo_Ar_fill_aJIIJ [arr0] false d d' := by
  have f0 : Fr wo_Ar_fill_aJIIJ [arr0] false d d := Fr.rfl
  unfold L_Ar_fill_aJIIJ at h
  obtain ⟨hc3_, h⟩ := ck_some h
  obtain ⟨r5_, d4_, hr6_, h⟩ := bd_some h
  have fd4_ : Fr wo_Ar_fill_aJIIJ [arr0] false d d4_ := Fr.tr f0 (fr_Ar_rangeCheck (len0 : Int) p2 p3 d (Fr.g f0 hg) hr6_) (by decide) (by simp) (by decide)
  obtain ⟨x8_, hx9_, h⟩ := lb_some h
  have fx8_ := Fr.tr0 fd4_ (fr_Ar_fill_aJIIJ_l10 arr0 len0 p3 p4 p2 d4_ (Fr.g fd4_ hg) hnarr0 hx9_)
  obtain ⟨d10_, rfl⟩ : ∃ z, z = x8_ := ⟨_, rfl⟩
  have fd10_ : Fr wo_Ar_fill_aJIIJ [arr0] false d d10_ := fx8_
  replace h := u0_e h
  obtain ⟨rfl, rfl⟩ := ret_inj h
  exact fd10_
/-! frames of Tr_lay -/
def wo_Tr_lay : List (Nat × Nat) := []
theorem fr_Tr_lay {r : Int} {d' : Dt} (p1 p2 p3 : Int) (d : Dt) (hg : d GH 0 ≤ 6) (h : L_Tr_lay p1 p2 p3 d = some (r, d')) : Fr wo_Tr_lay [4, 5, 6] false d d' := by
  have f0 : Fr wo_Tr_lay [4, 5, 6] false d d := Fr.rfl
  unfold L_Tr_lay at h
  obtain ⟨hb1_, h⟩ := ck_some h
  obtain ⟨hb2_, h⟩ := ck_some h
  obtain ⟨r4_, d3_, hr5_, h⟩ := bd_some h
  have fd3_ : Fr wo_Tr_lay [4, 5, 6] false d d3_ := Fr.tr (Fr.upa (Fr.upa f0 rfl (by decide)) rfl (by decide)) (fr_Ar_fill_aJIIJ 4 240 (w32 (p1 * 60)) (w32 ((w32 (p1 * 60)) + p3)) 0 (up2 (up2 d 5 p1.toNat p2) 6 p1.toNat p3) (Fr.g (Fr.upa (Fr.upa f0 rfl (by decide)) rfl (by decide)) hg) (by decide) hr5_) (by decide) (by decide) (by decide)
  obtain ⟨rfl, rfl⟩ := ret_inj h
  exact fd3_
/-! frames of PB_tray -/
def wo_PB_tray : List (Nat × Nat) := [(0, 0)]
theorem fr_PB_tray_b53 {r : Int} {d' : Dt} (x1 x2 x3 x4 s1 : Int) (d : Dt) (hg : d GH 0 ≤ 6) (h : L_PB_tray_b53 x1 x2 x3 x4 s1 d = some (r, d')) : Fr wo_PB_tray [4, 5, 6] false d d' := by
  have f0 : Fr wo_PB_tray [4, 5, 6] false d d := Fr.rfl
  unfold L_PB_tray_b53 at h
  rcases ite_some h with ⟨hc1_, h⟩ | ⟨hc1_, h⟩
  · obtain ⟨rfl, rfl⟩ := ret_inj h
    exact (Fr.upo f0 rfl (by decide))
  · obtain ⟨r3_, d2_, hr4_, h⟩ := bd_some h
    have fd2_ : Fr wo_PB_tray [4, 5, 6] false d d2_ := Fr.tr (Fr.upo f0 rfl (by decide)) (fr_Tr_lay x1 x2 x3 (up2 d 0 0 s1) (Fr.g (Fr.upo f0 rfl (by decide)) hg) hr4_) (by decide) (by decide) (by decide)
    obtain ⟨rfl, rfl⟩ := ret_inj h
    exact fd2_
theorem fr_PB_tray_b40 {r : Int} {d' : Dt} (x1 x2 x3 s0 : Int) (d : Dt) (hg : d GH 0 ≤ 6) (h : L_PB_tray_b40 x1 x2 x3 s0 d = some (r, d')) : Fr wo_PB_tray [4, 5, 6] false d d' := by
  have f0 : Fr wo_PB_tray [4, 5, 6] false d d := Fr.rfl
  unfold L_PB_tray_b40 at h
  rcases ite_some h with ⟨hc6_, h⟩ | ⟨hc6_, h⟩
  · exact Fr.tr0 f0 (fr_PB_tray_b53 x1 x2 x3 s0 1 d (Fr.g f0 hg) h)
  · exact Fr.tr0 f0 (fr_PB_tray_b53 x1 x2 x3 s0 0 d (Fr.g f0 hg) h)
theorem fr_PB_tray {r : Int} {d' : Dt} (p1 p2 p3 : Int) (d : Dt) (hg : d GH 0 ≤ 6) (h : L_PB_tray p1 p2 p3 d = some (r, d')) : Fr wo_PB_tray [4, 5, 6] false d d' := by
  have f0 : Fr wo_PB_tray [4, 5, 6] false d d := Fr.rfl
  unfold L_PB_tray at h
  obtain ⟨r8_, d7_, hr9_, h⟩ := bd_some h
  have fd7_ : Fr wo_PB_tray [4, 5, 6] false d d7_ := Fr.tr f0 (fr_Tr_canBe p1 d (Fr.g f0 hg) hr9_) (by decide) (by decide) (by decide)
  rcases ite_some h with ⟨hc11_, h⟩ | ⟨hc11_, h⟩
  · exact Fr.tr0 fd7_ (fr_PB_tray_b40 p1 p2 p3 0 d7_ (Fr.g fd7_ hg) h)
  · obtain ⟨r13_, d12_, hr14_, h⟩ := bd_some h
    have fd12_ : Fr wo_PB_tray [4, 5, 6] false d d12_ := Fr.tr fd7_ (fr_PB_within p2 0 3 d7_ (Fr.g fd7_ hg) hr14_) (by decide) (by decide) (by decide)
    rcases ite_some h with ⟨hc16_, h⟩ | ⟨hc16_, h⟩
    · exact Fr.tr0 fd12_ (fr_PB_tray_b40 p1 p2 p3 0 d12_ (Fr.g fd12_ hg) h)
    · obtain ⟨r18_, d17_, hr19_, h⟩ := bd_some h
      have fd17_ : Fr wo_PB_tray [4, 5, 6] false d d17_ := Fr.tr fd12_ (fr_PB_within p3 0 60 d12_ (Fr.g fd12_ hg) hr19_) (by decide) (by decide) (by decide)
      rcases ite_some h with ⟨hc21_, h⟩ | ⟨hc21_, h⟩
      · exact Fr.tr0 fd17_ (fr_PB_tray_b40 p1 p2 p3 0 d17_ (Fr.g fd17_ hg) h)
      · exact Fr.tr0 fd17_ (fr_PB_tray_b40 p1 p2 p3 1 d17_ (Fr.g fd17_ hg) h)
/-! frames of Tr_isThere -/
def wo_Tr_isThere : List (Nat × Nat) := []
theorem fr_Tr_isThere {r : Int} {d' : Dt} (p1 : Int) (d : Dt) (hg : d GH 0 ≤ 6) (h : L_Tr_isThere p1 d = some (r, d')) : Fr wo_Tr_isThere [] false d d' := by
  have f0 : Fr wo_Tr_isThere [] false d d := Fr.rfl
  unfold L_Tr_isThere at h
  obtain ⟨hb1_, h⟩ := ck_some h
  rcases ite_some h with ⟨hc3_, h⟩ | ⟨hc3_, h⟩
  · obtain ⟨rfl, rfl⟩ := ret_inj h
    exact f0
  · obtain ⟨rfl, rfl⟩ := ret_inj h
    exact f0
/-! frames of Tr_reaches -/
def wo_Tr_reaches : List (Nat × Nat) := []
theorem fr_Tr_reaches {r : Int} {d' : Dt} (p1 p2 p3 : Int) (d : Dt) (hg : d GH 0 ≤ 6) (h : L_Tr_reaches p1 p2 p3 d = some (r, d')) : Fr wo_Tr_reaches [] false d d' := by
  have f0 : Fr wo_Tr_reaches [] false d d := Fr.rfl
  unfold L_Tr_reaches at h
  rcases ite_some h with ⟨hc1_, h⟩ | ⟨hc1_, h⟩
  · obtain ⟨rfl, rfl⟩ := ret_inj h
    exact f0
  · obtain ⟨hb2_, h⟩ := ck_some h
    rcases ite_some h with ⟨hc4_, h⟩ | ⟨hc4_, h⟩
    · obtain ⟨rfl, rfl⟩ := ret_inj h
      exact f0
    · obtain ⟨rfl, rfl⟩ := ret_inj h
      exact f0
/-! frames of PB_trayPlaceStatus -/
def wo_PB_trayPlaceStatus : List (Nat × Nat) := []
theorem fr_PB_trayPlaceStatus {r : Int} {d' : Dt} (p1 p2 : Int) (d : Dt) (hg : d GH 0 ≤ 6) (h : L_PB_trayPlaceStatus p1 p2 d = some (r, d')) : Fr wo_PB_trayPlaceStatus [] false d d' := by
  have f0 : Fr wo_PB_trayPlaceStatus [] false d d := Fr.rfl
  unfold L_PB_trayPlaceStatus at h
  obtain ⟨r2_, d1_, hr3_, h⟩ := bd_some h
  have fd1_ : Fr wo_PB_trayPlaceStatus [] false d d1_ := Fr.tr f0 (fr_Tr_canBe p1 d (Fr.g f0 hg) hr3_) (by decide) (by decide) (by decide)
  rcases ite_some h with ⟨hc5_, h⟩ | ⟨hc5_, h⟩
  · obtain ⟨rfl, rfl⟩ := ret_inj h
    exact fd1_
  · obtain ⟨r7_, d6_, hr8_, h⟩ := bd_some h
    have fd6_ : Fr wo_PB_trayPlaceStatus [] false d d6_ := Fr.tr fd1_ (fr_Tr_isThere p1 d1_ (Fr.g fd1_ hg) hr8_) (by decide) (by decide) (by decide)
    rcases ite_some h with ⟨hc10_, h⟩ | ⟨hc10_, h⟩
    · obtain ⟨rfl, rfl⟩ := ret_inj h
      exact fd6_
    · obtain ⟨r12_, d11_, hr13_, h⟩ := bd_some h
      have fd11_ : Fr wo_PB_trayPlaceStatus [] false d d11_ := Fr.tr fd6_ (fr_Tr_reaches p1 p2 1 d6_ (Fr.g fd6_ hg) hr13_) (by decide) (by decide) (by decide)
      rcases ite_some h with ⟨hc15_, h⟩ | ⟨hc15_, h⟩
      · obtain ⟨rfl, rfl⟩ := ret_inj h
        exact fd11_
      · obtain ⟨rfl, rfl⟩ := ret_inj h
        exact fd11_
/-! frames of Tr_cut -/
def wo_Tr_cut : List (Nat × Nat) := []
theorem fr_Tr_cut {r : Int} {d' : Dt} (p1 p2 : Int) (d : Dt) (hg : d GH 0 ≤ 6) (h : L_Tr_cut p1 p2 d = some (r, d')) : Fr wo_Tr_cut [] false d d' := by
  have f0 : Fr wo_Tr_cut [] false d d := Fr.rfl
  unfold L_Tr_cut at h
  rcases ite_some h with ⟨hc1_, h⟩ | ⟨hc1_, h⟩
  · obtain ⟨rfl, rfl⟩ := ret_inj h
    exact f0
  · rcases ite_some h with ⟨hc2_, h⟩ | ⟨hc2_, h⟩
    · obtain ⟨rfl, rfl⟩ := ret_inj h
      exact f0
    · rcases ite_some h with ⟨hc3_, h⟩ | ⟨hc3_, h⟩
      · obtain ⟨rfl, rfl⟩ := ret_inj h
        exact f0
      · obtain ⟨rfl, rfl⟩ := ret_inj h
        exact f0
/-! frames of Tr_put -/
def wo_Tr_put : List (Nat × Nat) := []
theorem fr_Tr_put {r : Int} {d' : Dt} (p1 p2 p3 : Int) (d : Dt) (hg : d GH 0 ≤ 6) (h : L_Tr_put p1 p2 p3 d = some (r, d')) : Fr wo_Tr_put [4] false d d' := by
  have f0 : Fr wo_Tr_put [4] false d d := Fr.rfl
  unfold L_Tr_put at h
  obtain ⟨hb1_, h⟩ := ck_some h
  obtain ⟨r4_, d3_, hr5_, h⟩ := bd_some h
  have fd3_ : Fr wo_Tr_put [4] false d d3_ := Fr.tr f0 (fr_Tr_cut (d 5 p1.toNat) p3 d (Fr.g f0 hg) hr5_) (by decide) (by decide) (by decide)
  obtain ⟨hb7_, h⟩ := ck_some h
  obtain ⟨rfl, rfl⟩ := ret_inj h
  exact (Fr.upa fd3_ rfl (by decide))
/-! frames of PB_write -/
def wo_PB_write : List (Nat × Nat) := [(0, 0)]
theorem fr_PB_write_b27 {r : Int} {d' : Dt} (d : Dt) (hg : d GH 0 ≤ 6) (h : L_PB_write_b27 d = some (r, d')) : Fr wo_PB_write [4] false d d' := by
  have f0 : Fr wo_PB_write [4] false d d := Fr.rfl
  unfold L_PB_write_b27 at h
  rcases ite_some h with ⟨hc2_, h⟩ | ⟨hc2_, h⟩
  · obtain ⟨rfl, rfl⟩ := ret_inj h
    exact f0
  · obtain ⟨rfl, rfl⟩ := ret_inj h
    exact f0
theorem fr_PB_write {r : Int} {d' : Dt} (p1 p2 p3 : Int) (d : Dt) (hg : d GH 0 ≤ 6) (h : L_PB_write p1 p2 p3 d = some (r, d')) : Fr wo_PB_write [4] false d d' := by
  have f0 : Fr wo_PB_write [4] false d d := Fr.rfl
  unfold L_PB_write at h
  obtain ⟨r4_, d3_, hr5_, h⟩ := bd_some h
  have fd3_ : Fr wo_PB_write [4] false d d3_ := Fr.tr f0 (fr_PB_trayPlaceStatus p1 p2 d (Fr.g f0 hg) hr5_) (by decide) (by decide) (by decide)
  rcases ite_some h with ⟨hc8_, h⟩ | ⟨hc8_, h⟩
  · obtain ⟨r10_, d9_, hr11_, h⟩ := bd_some h
    have fd9_ : Fr wo_PB_write [4] false d d9_ := Fr.tr (Fr.upo fd3_ rfl (by decide)) (fr_Tr_put p1 p2 p3 (up2 d3_ 0 0 r4_) (Fr.g (Fr.upo fd3_ rfl (by decide)) hg) hr11_) (by decide) (by decide) (by decide)
    exact Fr.tr0 fd9_ (fr_PB_write_b27  d9_ (Fr.g fd9_ hg) h)
  · exact Fr.tr0 (Fr.upo fd3_ rfl (by decide)) (fr_PB_write_b27  (up2 d3_ 0 0 r4_) (Fr.g (Fr.upo fd3_ rfl (by decide)) hg) h)
/-! frames of Tr_at -/
def wo_Tr_at : List (Nat × Nat) := []
theorem fr_Tr_at {r : Int} {d' : Dt} (p1 p2 : Int) (d : Dt) (hg : d GH 0 ≤ 6) (h : L_Tr_at p1 p2 d = some (r, d')) : Fr wo_Tr_at [] false d d' := by
  have f0 : Fr wo_Tr_at [] false d d := Fr.rfl
  unfold L_Tr_at at h
  obtain ⟨hb1_, h⟩ := ck_some h
  obtain ⟨rfl, rfl⟩ := ret_inj h
  exact f0
/-! frames of PB_read -/
def wo_PB_read : List (Nat × Nat) := [(0, 0)]
theorem fr_PB_read {r : Int} {d' : Dt} (p1 p2 : Int) (d : Dt) (hg : d GH 0 ≤ 6) (h : L_PB_read p1 p2 d = some (r, d')) : Fr wo_PB_read [] false d d' := by
  have f0 : Fr wo_PB_read [] false d d := Fr.rfl
  unfold L_PB_read at h
  obtain ⟨r2_, d1_, hr3_, h⟩ := bd_some h
  have fd1_ : Fr wo_PB_read [] false d d1_ := Fr.tr f0 (fr_PB_trayPlaceStatus p1 p2 d (Fr.g f0 hg) hr3_) (by decide) (by decide) (by decide)
  rcases ite_some h with ⟨hc6_, h⟩ | ⟨hc6_, h⟩
  · obtain ⟨r8_, d7_, hr9_, h⟩ := bd_some h
    have fd7_ : Fr wo_PB_read [] false d d7_ := Fr.tr (Fr.upo fd1_ rfl (by decide)) (fr_Tr_at p1 p2 (up2 d1_ 0 0 r2_) (Fr.g (Fr.upo fd1_ rfl (by decide)) hg) hr9_) (by decide) (by decide) (by decide)
    obtain ⟨rfl, rfl⟩ := ret_inj h
    exact fd7_
  · obtain ⟨rfl, rfl⟩ := ret_inj h
    exact (Fr.upo fd1_ rfl (by decide))
/-! frames of Tr_alike -/
def wo_Tr_alike : List (Nat × Nat) := []
theorem fr_Tr_alike {r : Int} {d' : Dt} (p1 p2 : Int) (d : Dt) (hg : d GH 0 ≤ 6) (h : L_Tr_alike p1 p2 d = some (r, d')) : Fr wo_Tr_alike [] false d d' := by
  have f0 : Fr wo_Tr_alike [] false d d := Fr.rfl
  unfold L_Tr_alike at h
  obtain ⟨hb1_, h⟩ := ck_some h
  obtain ⟨hb3_, h⟩ := ck_some h
  rcases ite_some h with ⟨hc5_, h⟩ | ⟨hc5_, h⟩
  · obtain ⟨rfl, rfl⟩ := ret_inj h
    exact f0
  · obtain ⟨rfl, rfl⟩ := ret_inj h
    exact f0
/-! frames of PB_pourStatus -/
def wo_PB_pourStatus : List (Nat × Nat) := []
theorem fr_PB_pourStatus {r : Int} {d' : Dt} (p1 p2 p3 p4 p5 : Int) (d : Dt) (hg : d GH 0 ≤ 6) (h : L_PB_pourStatus p1 p2 p3 p4 p5 d = some (r, d')) : Fr wo_PB_pourStatus [] false d d' := by
  have f0 : Fr wo_PB_pourStatus [] false d d := Fr.rfl
  unfold L_PB_pourStatus at h
  obtain ⟨r2_, d1_, hr3_, h⟩ := bd_some h
  have fd1_ : Fr wo_PB_pourStatus [] false d d1_ := Fr.tr f0 (fr_Tr_canBe p1 d (Fr.g f0 hg) hr3_) (by decide) (by decide) (by decide)
  rcases ite_some h with ⟨hc5_, h⟩ | ⟨hc5_, h⟩
  · obtain ⟨rfl, rfl⟩ := ret_inj h
    exact fd1_
  · obtain ⟨r7_, d6_, hr8_, h⟩ := bd_some h
    have fd6_ : Fr wo_PB_pourStatus [] false d d6_ := Fr.tr fd1_ (fr_Tr_canBe p3 d1_ (Fr.g fd1_ hg) hr8_) (by decide) (by decide) (by decide)
    rcases ite_some h with ⟨hc10_, h⟩ | ⟨hc10_, h⟩
    · obtain ⟨rfl, rfl⟩ := ret_inj h
      exact fd6_
    · rcases ite_some h with ⟨hc11_, h⟩ | ⟨hc11_, h⟩
      · obtain ⟨rfl, rfl⟩ := ret_inj h
        exact fd6_
      · rcases ite_some h with ⟨hc12_, h⟩ | ⟨hc12_, h⟩
        · obtain ⟨rfl, rfl⟩ := ret_inj h
          exact fd6_
        · rcases ite_some h with ⟨hc13_, h⟩ | ⟨hc13_, h⟩
          · obtain ⟨rfl, rfl⟩ := ret_inj h
            exact fd6_
          · obtain ⟨r15_, d14_, hr16_, h⟩ := bd_some h
            have fd14_ : Fr wo_PB_pourStatus [] false d d14_ := Fr.tr fd6_ (fr_Tr_isThere p1 d6_ (Fr.g fd6_ hg) hr16_) (by decide) (by decide) (by decide)
            rcases ite_some h with ⟨hc18_, h⟩ | ⟨hc18_, h⟩
            · obtain ⟨rfl, rfl⟩ := ret_inj h
              exact fd14_
            · obtain ⟨r20_, d19_, hr21_, h⟩ := bd_some h
              have fd19_ : Fr wo_PB_pourStatus [] false d d19_ := Fr.tr fd14_ (fr_Tr_isThere p3 d14_ (Fr.g fd14_ hg) hr21_) (by decide) (by decide) (by decide)
              rcases ite_some h with ⟨hc23_, h⟩ | ⟨hc23_, h⟩
              · obtain ⟨rfl, rfl⟩ := ret_inj h
                exact fd19_
              · obtain ⟨r25_, d24_, hr26_, h⟩ := bd_some h
                have fd24_ : Fr wo_PB_pourStatus [] false d d24_ := Fr.tr fd19_ (fr_Tr_alike p1 p3 d19_ (Fr.g fd19_ hg) hr26_) (by decide) (by decide) (by decide)
                rcases ite_some h with ⟨hc28_, h⟩ | ⟨hc28_, h⟩
                · obtain ⟨rfl, rfl⟩ := ret_inj h
                  exact fd24_
                · obtain ⟨r30_, d29_, hr31_, h⟩ := bd_some h
                  have fd29_ : Fr wo_PB_pourStatus [] false d d29_ := Fr.tr fd24_ (fr_Tr_reaches p1 p2 p5 d24_ (Fr.g fd24_ hg) hr31_) (by decide) (by decide) (by decide)
                  rcases ite_some h with ⟨hc33_, h⟩ | ⟨hc33_, h⟩
                  · obtain ⟨rfl, rfl⟩ := ret_inj h
                    exact fd29_
                  · obtain ⟨r35_, d34_, hr36_, h⟩ := bd_some h
                    have fd34_ : Fr wo_PB_pourStatus [] false d d34_ := Fr.tr fd29_ (fr_Tr_reaches p3 p4 p5 d29_ (Fr.g fd29_ hg) hr36_) (by decide) (by decide) (by decide)
                    rcases ite_some h with ⟨hc38_, h⟩ | ⟨hc38_, h⟩
                    · obtain ⟨rfl, rfl⟩ := ret_inj h
                      exact fd34_
                    · obtain ⟨rfl, rfl⟩ := ret_inj h
                      exact fd34_
/-! frames of Tr_move -/
def wo_Tr_move : List (Nat × Nat) := []
theorem fr_Tr_move {r : Int} {d' : Dt} (p1 p2 p3 p4 p5 : Int) (d : Dt) (hg : d GH 0 ≤ 6) (h : L_Tr_move p1 p2 p3 p4 p5 d = some (r, d')) : Fr wo_Tr_move [4] false d d' := by
  have f0 : Fr wo_Tr_move [4] false d d := Fr.rfl
  unfold L_Tr_move at h
  obtain ⟨hb1_, h⟩ := ck_some h
  obtain ⟨rfl, rfl⟩ := ret_inj h
  exact (Fr.cpa f0 rfl (by decide))
/-! frames of PB_pour -/
def wo_PB_pour : List (Nat × Nat) := [(0, 0)]
theorem fr_PB_pour_b36 {r : Int} {d' : Dt} (d : Dt) (hg : d GH 0 ≤ 6) (h : L_PB_pour_b36 d = some (r, d')) : Fr wo_PB_pour [4] false d d' := by
  have f0 : Fr wo_PB_pour [4] false d d := Fr.rfl
  unfold L_PB_pour_b36 at h
  rcases ite_some h with ⟨hc2_, h⟩ | ⟨hc2_, h⟩
  · obtain ⟨rfl, rfl⟩ := ret_inj h
    exact f0
  · obtain ⟨rfl, rfl⟩ := ret_inj h
    exact f0
theorem fr_PB_pour {r : Int} {d' : Dt} (p1 p2 p3 p4 p5 : Int) (d : Dt) (hg : d GH 0 ≤ 6) (h : L_PB_pour p1 p2 p3 p4 p5 d = some (r, d')) : Fr wo_PB_pour [4] false d d' := by
  have f0 : Fr wo_PB_pour [4] false d d := Fr.rfl
  unfold L_PB_pour at h
  obtain ⟨r4_, d3_, hr5_, h⟩ := bd_some h
  have fd3_ : Fr wo_PB_pour [4] false d d3_ := Fr.tr f0 (fr_PB_pourStatus p1 p2 p3 p4 p5 d (Fr.g f0 hg) hr5_) (by decide) (by decide) (by decide)
  rcases ite_some h with ⟨hc8_, h⟩ | ⟨hc8_, h⟩
  · obtain ⟨r10_, d9_, hr11_, h⟩ := bd_some h
    have fd9_ : Fr wo_PB_pour [4] false d d9_ := Fr.tr (Fr.upo fd3_ rfl (by decide)) (fr_Tr_move p1 p2 p3 p4 p5 (up2 d3_ 0 0 r4_) (Fr.g (Fr.upo fd3_ rfl (by decide)) hg) hr11_) (by decide) (by decide) (by decide)
    exact Fr.tr0 fd9_ (fr_PB_pour_b36  d9_ (Fr.g fd9_ hg) h)
  · exact Fr.tr0 (Fr.upo fd3_ rfl (by decide)) (fr_PB_pour_b36  (up2 d3_ 0 0 r4_) (Fr.g (Fr.upo fd3_ rfl (by decide)) hg) h)
/-! frames of PB_isName -/
def wo_PB_isName : List (Nat × Nat) := []
def he_PB_isName_5 (r : (Int × Int × Dt) ⊕ (Dt)) : Dt := match r with
  | .inl q => q.2.2
  | .inr q => q
def hb_PB_isName_5 (o : (Int × Int × Int × Dt) ⊕ ((Int × Int × Dt) ⊕ (Dt))) : Dt := match o with
  | .inl q => q.2.2.2
  | .inr r => he_PB_isName_5 r
theorem fr_PB_isName_y5 {o : (Int × Int × Int × Dt) ⊕ ((Int × Int × Dt) ⊕ (Dt))} (x0 x2 x4 : Int) (d : Dt) (hg : d GH 0 ≤ 6) (h : L_PB_isName_y5 x0 x2 x4 d = some o) : Fr wo_PB_isName [] false d (hb_PB_isName_5 o) := by
  have f0 : Fr wo_PB_isName [] false d d := Fr.rfl
  unfold L_PB_isName_y5 at h
  rcases ite_some h with ⟨hc1_, h⟩ | ⟨hc1_, h⟩
  · rcases ite_some h with ⟨hc2_, h⟩ | ⟨hc2_, h⟩
    · obtain rfl := Option.some.inj h
      exact f0
    · obtain ⟨r4_, d3_, hr5_, h⟩ := bd_some h
      have fd3_ : Fr wo_PB_isName [] false d d3_ := Fr.tr f0 (fr_PB_within (land x2 31) 1 26 d (Fr.g f0 hg) hr5_) (by decide) (by decide) (by decide)
      rcases ite_some h with ⟨hc7_, h⟩ | ⟨hc7_, h⟩
      · obtain rfl := Option.some.inj h
        exact fd3_
      · obtain ⟨v8_, ev9_, h⟩ := lt_some h
        obtain rfl := Option.some.inj h
        exact fd3_
  · obtain rfl := Option.some.inj h
    exact f0
theorem fr_PB_isName_l5 {x : (Int × Int × Dt) ⊕ (Dt)} (x0 x2 x4 : Int) (d : Dt) (hg : d GH 0 ≤ 6) (h : L_PB_isName_l5 x0 x2 x4 d = some x) : Fr wo_PB_isName [] false d (he_PB_isName_5 x) :=
  lpF_fr (f := fun q : Int × Int × Int × Dt => L_PB_isName_y5 q.1 q.2.1 q.2.2.1 q.2.2.2) (fun q => q.2.2.2) he_PB_isName_5 (fun q x hq hx => ⟨fun q2 e2 => by subst e2; exact fr_PB_isName_y5 q.1 q.2.1 q.2.2.1 q.2.2.2 hq hx, fun r2 e2 => by subst e2; exact fr_PB_isName_y5 q.1 q.2.1 q.2.2.1 q.2.2.2 hq hx⟩) FU _ x hg h
theorem fr_PB_isName_b45 {r : Int} {d' : Dt} (x0 x2 : Int) (d : Dt) (hg : d GH 0 ≤ 6) (h : L_PB_isName_b45 x0 x2 d = some (r, d')) : Fr wo_PB_isName [] false d d' := by
  have f0 : Fr wo_PB_isName [] false d d := Fr.rfl
  unfold L_PB_isName_b45 at h
  rcases ite_some h with ⟨hc11_, h⟩ | ⟨hc11_, h⟩
  · obtain ⟨rfl, rfl⟩ := ret_inj h
    exact f0
  · rcases ite_some h with ⟨hc12_, h⟩ | ⟨hc12_, h⟩
    · obtain ⟨rfl, rfl⟩ := ret_inj h
      exact f0
    · obtain ⟨rfl, rfl⟩ := ret_inj h
      exact f0
theorem fr_PB_isName {r : Int} {d' : Dt} (p1 : Int) (d : Dt) (hg : d GH 0 ≤ 6) (h : L_PB_isName p1 d = some (r, d')) : Fr wo_PB_isName [] false d d' := by
  have f0 : Fr wo_PB_isName [] false d d := Fr.rfl
  unfold L_PB_isName at h
  obtain ⟨x13_, hx14_, h⟩ := lb_some h
  have fx13_ := Fr.tr0 f0 (fr_PB_isName_l5 p1 p1 0 d (Fr.g f0 hg) hx14_)
  rcases x13_ with ⟨v15_, v16_, d17_⟩ | d19_
  · have fd17_ : Fr wo_PB_isName [] false d d17_ := fx13_
    replace h := sml_e h
    replace h := u2_e h
    exact Fr.tr0 fd17_ (fr_PB_isName_b45 v15_ v16_ d17_ (Fr.g fd17_ hg) h)
  · have fd19_ : Fr wo_PB_isName [] false d d19_ := fx13_
    replace h := smr_e h
    replace h := u0_e h
    obtain ⟨rfl, rfl⟩ := ret_inj h
    exact fd19_
/-! frames of PB_lettersOf -/
def wo_PB_lettersOf : List (Nat × Nat) := []
def he_PB_lettersOf_2 (q : (Int × Dt)) : Dt := q.2
def hb_PB_lettersOf_2 (o : (Int × Int × Dt) ⊕ ((Int × Dt))) : Dt := match o with
  | .inl q => q.2.2
  | .inr r => he_PB_lettersOf_2 r
theorem fr_PB_lettersOf_y2 {o : (Int × Int × Dt) ⊕ ((Int × Dt))} (x0 x2 : Int) (d : Dt) (hg : d GH 0 ≤ 6) (h : L_PB_lettersOf_y2 x0 x2 d = some o) : Fr wo_PB_lettersOf [] false d (hb_PB_lettersOf_2 o) := by
  have f0 : Fr wo_PB_lettersOf [] false d d := Fr.rfl
  unfold L_PB_lettersOf_y2 at h
  rcases ite_some h with ⟨hc1_, h⟩ | ⟨hc1_, h⟩
  · rcases ite_some h with ⟨hc2_, h⟩ | ⟨hc2_, h⟩
    · obtain rfl := Option.some.inj h
      exact f0
    · obtain rfl := Option.some.inj h
      exact f0
  · obtain rfl := Option.some.inj h
    exact f0
theorem fr_PB_lettersOf_l2 {x : (Int × Dt)} (x0 x2 : Int) (d : Dt) (hg : d GH 0 ≤ 6) (h : L_PB_lettersOf_l2 x0 x2 d = some x) : Fr wo_PB_lettersOf [] false d (he_PB_lettersOf_2 x) :=
  lpF_fr (f := fun q : Int × Int × Dt => L_PB_lettersOf_y2 q.1 q.2.1 q.2.2) (fun q => q.2.2) he_PB_lettersOf_2 (fun q x hq hx => ⟨fun q2 e2 => by subst e2; exact fr_PB_lettersOf_y2 q.1 q.2.1 q.2.2 hq hx, fun r2 e2 => by subst e2; exact fr_PB_lettersOf_y2 q.1 q.2.1 q.2.2 hq hx⟩) FU _ x hg h
theorem fr_PB_lettersOf {r : Int} {d' : Dt} (p1 : Int) (d : Dt) (hg : d GH 0 ≤ 6) (h : L_PB_lettersOf p1 d = some (r, d')) : Fr wo_PB_lettersOf [] false d d' := by
  have f0 : Fr wo_PB_lettersOf [] false d d := Fr.rfl
  unfold L_PB_lettersOf at h
  obtain ⟨x3_, hx4_, h⟩ := lb_some h
  have fx3_ := Fr.tr0 f0 (fr_PB_lettersOf_l2 p1 0 d (Fr.g f0 hg) hx4_)
  obtain ⟨v5_, d6_⟩ := x3_
  have fd6_ : Fr wo_PB_lettersOf [] false d d6_ := fx3_
  replace h := u1_e h
  obtain ⟨rfl, rfl⟩ := ret_inj h
  exact fd6_
/-! frames of PB_lettersApart -/
def wo_PB_lettersApart : List (Nat × Nat) := []
def he_PB_lettersApart_23 (q : (Int × Int × Int × Int × Dt)) : Dt := q.2.2.2.2
def hb_PB_lettersApart_23 (o : (Int × Int × Int × Int × Int × Dt) ⊕ ((Int × Int × Int × Int × Dt))) : Dt := match o with
  | .inl q => q.2.2.2.2.2
  | .inr r => he_PB_lettersApart_23 r
def he_PB_lettersApart_83 (q : (Int × Int × Int × Int × Int × Dt)) : Dt := q.2.2.2.2.2
def hb_PB_lettersApart_83 (o : (Int × Int × Int × Int × Int × Int × Int × Int × Dt) ⊕ ((Int × Int × Int × Int × Int × Dt))) : Dt := match o with
  | .inl q => q.2.2.2.2.2.2.2.2
  | .inr r => he_PB_lettersApart_83 r
def he_PB_lettersApart_46 (q : (Int × Dt)) : Dt := q.2
def hb_PB_lettersApart_46 (o : (Int × Int × Int × Int × Int × Dt) ⊕ ((Int × Dt))) : Dt := match o with
  | .inl q => q.2.2.2.2.2
  | .inr r => he_PB_lettersApart_46 r
theorem fr_PB_lettersApart_y23 (arr2 len2 : Nat) {o : (Int × Int × Int × Int × Int × Dt) ⊕ ((Int × Int × Int × Int × Dt))} (x0 x2 x5 x6 x7 : Int) (d : Dt) (hg : d GH 0 ≤ 6) (hnarr2 : arr2 ≠ GH) (h : L_PB_lettersApart_y23 arr2 len2 x0 x2 x5 x6 x7 d = some o) : Fr wo_PB_lettersApart [arr2] false d (hb_PB_lettersApart_23 o) := by
  have f0 : Fr wo_PB_lettersApart [arr2] false d d := Fr.rfl
  unfold L_PB_lettersApart_y23 at h
  rcases ite_some h with ⟨hc1_, h⟩ | ⟨hc1_, h⟩
  · obtain rfl := Option.some.inj h
    exact f0
  · obtain ⟨hb2_, h⟩ := ck_some h
    obtain rfl := Option.some.inj h
    exact (Fr.upa f0 (by simp) hnarr2)
theorem fr_PB_lettersApart_l23 (arr2 len2 : Nat) {x : (Int × Int × Int × Int × Dt)} (x0 x2 x5 x6 x7 : Int) (d : Dt) (hg : d GH 0 ≤ 6) (hnarr2 : arr2 ≠ GH) (h : L_PB_lettersApart_l23 arr2 len2 x0 x2 x5 x6 x7 d = some x) : Fr wo_PB_lettersApart [arr2] false d (he_PB_lettersApart_23 x) :=
  lpF_fr (f := fun q : Int × Int × Int × Int × Int × Dt => L_PB_lettersApart_y23 arr2 len2 q.1 q.2.1 q.2.2.1 q.2.2.2.1 q.2.2.2.2.1 q.2.2.2.2.2) (fun q => q.2.2.2.2.2) he_PB_lettersApart_23 (fun q x hq hx => ⟨fun q2 e2 => by subst e2; exact fr_PB_lettersApart_y23 arr2 len2 q.1 q.2.1 q.2.2.1 q.2.2.2.1 q.2.2.2.2.1 q.2.2.2.2.2 hq hnarr2 hx, fun r2 e2 => by subst e2; exact fr_PB_lettersApart_y23 arr2 len2 q.1 q.2.1 q.2.2.1 q.2.2.2.1 q.2.2.2.2.1 q.2.2.2.2.2 hq hnarr2 hx⟩) FU _ x hg h
theorem fr_PB_lettersApart_b128 (arr2 len2 : Nat) {o : (Int × Int × Int × Int × Int × Int × Int × Int × Dt) ⊕ ((Int × Int × Int × Int × Int × Dt))} (x0 x2 x5 x6 x7 x8 x11 s0 s1 : Int) (d : Dt) (hg : d GH 0 ≤ 6) (hnarr2 : arr2 ≠ GH) (h : L_PB_lettersApart_b128 arr2 len2 x0 x2 x5 x6 x7 x8 x11 s0 s1 d = some o) : Fr wo_PB_lettersApart [arr2] false d (hb_PB_lettersApart_83 o) := by
  have f0 : Fr wo_PB_lettersApart [arr2] false d d := Fr.rfl
  unfold L_PB_lettersApart_b128 at h
  obtain ⟨v3_, ev4_, h⟩ := lt_some h
  obtain ⟨hb6_, h⟩ := ck_some h
  obtain ⟨v8_, ev9_, h⟩ := lt_some h
  obtain ⟨hb11_, h⟩ := ck_some h
  obtain ⟨hb13_, h⟩ := ck_some h
  obtain ⟨hb15_, h⟩ := ck_some h
  obtain rfl := Option.some.inj h
  exact (Fr.upa f0 (by simp) hnarr2)
theorem fr_PB_lettersApart_b114 (arr2 len2 : Nat) {o : (Int × Int × Int × Int × Int × Int × Int × Int × Dt) ⊕ ((Int × Int × Int × Int × Int × Dt))} (x0 x2 x5 x6 x7 x8 x10 x11 s0 : Int) (d : Dt) (hg : d GH 0 ≤ 6) (hnarr2 : arr2 ≠ GH) (h : L_PB_lettersApart_b114 arr2 len2 x0 x2 x5 x6 x7 x8 x10 x11 s0 d = some o) : Fr wo_PB_lettersApart [arr2] false d (hb_PB_lettersApart_83 o) := by
  have f0 : Fr wo_PB_lettersApart [arr2] false d d := Fr.rfl
  unfold L_PB_lettersApart_b114 at h
  rcases ite_some h with ⟨hc16_, h⟩ | ⟨hc16_, h⟩
  · exact Fr.tr0 f0 (fr_PB_lettersApart_b128 arr2 len2 x0 x2 x5 x6 x7 x8 x11 x10 1 d (Fr.g f0 hg) hnarr2 h)
  · exact Fr.tr0 f0 (fr_PB_lettersApart_b128 arr2 len2 x0 x2 x5 x6 x7 x8 x11 x10 0 d (Fr.g f0 hg) hnarr2 h)
theorem fr_PB_lettersApart_y83 (arr2 len2 : Nat) {o : (Int × Int × Int × Int × Int × Int × Int × Int × Dt) ⊕ ((Int × Int × Int × Int × Int × Dt))} (x0 x2 x5 x6 x7 x8 x10 x11 : Int) (d : Dt) (hg : d GH 0 ≤ 6) (hnarr2 : arr2 ≠ GH) (h : L_PB_lettersApart_y83 arr2 len2 x0 x2 x5 x6 x7 x8 x10 x11 d = some o) : Fr wo_PB_lettersApart [arr2] false d (hb_PB_lettersApart_83 o) := by
  have f0 : Fr wo_PB_lettersApart [arr2] false d d := Fr.rfl
  unfold L_PB_lettersApart_y83 at h
  rcases ite_some h with ⟨hc17_, h⟩ | ⟨hc17_, h⟩
  · obtain rfl := Option.some.inj h
    exact f0
  · rcases ite_some h with ⟨hc18_, h⟩ | ⟨hc18_, h⟩
    · exact Fr.tr0 f0 (fr_PB_lettersApart_b114 arr2 len2 x0 x2 x5 x6 x7 x8 x10 x11 1 d (Fr.g f0 hg) hnarr2 h)
    · exact Fr.tr0 f0 (fr_PB_lettersApart_b114 arr2 len2 x0 x2 x5 x6 x7 x8 x10 x11 0 d (Fr.g f0 hg) hnarr2 h)
theorem fr_PB_lettersApart_l83 (arr2 len2 : Nat) {x : (Int × Int × Int × Int × Int × Dt)} (x0 x2 x5 x6 x7 x8 x10 x11 : Int) (d : Dt) (hg : d GH 0 ≤ 6) (hnarr2 : arr2 ≠ GH) (h : L_PB_lettersApart_l83 arr2 len2 x0 x2 x5 x6 x7 x8 x10 x11 d = some x) : Fr wo_PB_lettersApart [arr2] false d (he_PB_lettersApart_83 x) :=
  lpF_fr (f := fun q : Int × Int × Int × Int × Int × Int × Int × Int × Dt => L_PB_lettersApart_y83 arr2 len2 q.1 q.2.1 q.2.2.1 q.2.2.2.1 q.2.2.2.2.1 q.2.2.2.2.2.1 q.2.2.2.2.2.2.1 q.2.2.2.2.2.2.2.1 q.2.2.2.2.2.2.2.2) (fun q => q.2.2.2.2.2.2.2.2) he_PB_lettersApart_83 (fun q x hq hx => ⟨fun q2 e2 => by subst e2; exact fr_PB_lettersApart_y83 arr2 len2 q.1 q.2.1 q.2.2.1 q.2.2.2.1 q.2.2.2.2.1 q.2.2.2.2.2.1 q.2.2.2.2.2.2.1 q.2.2.2.2.2.2.2.1 q.2.2.2.2.2.2.2.2 hq hnarr2 hx, fun r2 e2 => by subst e2; exact fr_PB_lettersApart_y83 arr2 len2 q.1 q.2.1 q.2.2.1 q.2.2.2.1 q.2.2.2.2.1 q.2.2.2.2.2.1 q.2.2.2.2.2.2.1 q.2.2.2.2.2.2.2.1 q.2.2.2.2.2.2.2.2 hq hnarr2 hx⟩) FU _ x hg h
theorem fr_PB_lettersApart_y46 (arr2 len2 : Nat) {o : (Int × Int × Int × Int × Int × Dt) ⊕ ((Int × Dt))} (x0 x2 x5 x6 x7 : Int) (d : Dt) (hg : d GH 0 ≤ 6) (hnarr2 : arr2 ≠ GH) (h : L_PB_lettersApart_y46 arr2 len2 x0 x2 x5 x6 x7 d = some o) : Fr wo_PB_lettersApart [arr2] false d (hb_PB_lettersApart_46 o) := by
  have f0 : Fr wo_PB_lettersApart [arr2] false d d := Fr.rfl
  unfold L_PB_lettersApart_y46 at h
  rcases ite_some h with ⟨hc19_, h⟩ | ⟨hc19_, h⟩
  · obtain rfl := Option.some.inj h
    exact f0
  · obtain ⟨v20_, ev21_, h⟩ := lt_some h
    obtain ⟨hb23_, h⟩ := ck_some h
    obtain ⟨v25_, ev26_, h⟩ := lt_some h
    obtain ⟨hb28_, h⟩ := ck_some h
    obtain ⟨x29_, hx30_, h⟩ := lb_some h
    have fx29_ := Fr.tr0 (Fr.upa f0 (by simp) hnarr2) (fr_PB_lettersApart_l83 arr2 len2 x0 x2 x5 x6 x7 v20_ v25_ 1 (up2 d arr2 0 x7) (Fr.g (Fr.upa f0 (by simp) hnarr2) hg) hnarr2 hx30_)
    obtain ⟨v31_, v32_, v33_, v34_, v35_, d36_⟩ := x29_
    have fd36_ : Fr wo_PB_lettersApart [arr2] false d d36_ := fx29_
    replace h := u5_e h
    obtain rfl := Option.some.inj h
    exact fd36_
theorem fr_PB_lettersApart_l46 (arr2 len2 : Nat) {x : (Int × Dt)} (x0 x2 x5 x6 x7 : Int) (d : Dt) (hg : d GH 0 ≤ 6) (hnarr2 : arr2 ≠ GH) (h : L_PB_lettersApart_l46 arr2 len2 x0 x2 x5 x6 x7 d = some x) : Fr wo_PB_lettersApart [arr2] false d (he_PB_lettersApart_46 x) :=
  lpF_fr (f := fun q : Int × Int × Int × Int × Int × Dt => L_PB_lettersApart_y46 arr2 len2 q.1 q.2.1 q.2.2.1 q.2.2.2.1 q.2.2.2.2.1 q.2.2.2.2.2) (fun q => q.2.2.2.2.2) he_PB_lettersApart_46 (fun q x hq hx => ⟨fun q2 e2 => by subst e2; exact fr_PB_lettersApart_y46 arr2 len2 q.1 q.2.1 q.2.2.1 q.2.2.2.1 q.2.2.2.2.1 q.2.2.2.2.2 hq hnarr2 hx, fun r2 e2 => by subst e2; exact fr_PB_lettersApart_y46 arr2 len2 q.1 q.2.1 q.2.2.1 q.2.2.2.1 q.2.2.2.2.1 q.2.2.2.2.2 hq hnarr2 hx⟩) FU _ x hg h
theorem fr_PB_lettersApart (arr2 len2 : Nat) {r : Int} {d' : Dt} (p1 p2 : Int) (d : Dt) (hg : d GH 0 ≤ 6) (hnarr2 : arr2 ≠ GH) (h : L_PB_lettersApart arr2 len2 p1 p2 d = some (r, d')) : Fr wo_PB_lettersApart [arr2] false d d' := by
  have f0 : Fr wo_PB_lettersApart [arr2] false d d := Fr.rfl
  unfold L_PB_lettersApart at h
  obtain ⟨r40_, d39_, hr41_, h⟩ := bd_some h
  have fd39_ : Fr wo_PB_lettersApart [arr2] false d d39_ := Fr.tr f0 (fr_PB_lettersOf p1 d (Fr.g f0 hg) hr41_) (by decide) (by simp) (by decide)
  obtain ⟨r44_, d43_, hr45_, h⟩ := bd_some h
  have fd43_ : Fr wo_PB_lettersApart [arr2] false d d43_ := Fr.tr fd39_ (fr_PB_lettersOf p2 d39_ (Fr.g fd39_ hg) hr45_) (by decide) (by simp) (by decide)
  obtain ⟨hc47_, h⟩ := ck_some h
  obtain ⟨v48_, ev49_, h⟩ := lt_some h
  obtain ⟨x51_, hx52_, h⟩ := lb_some h
  have fx51_ := Fr.tr0 fd43_ (fr_PB_lettersApart_l23 arr2 len2 p1 p2 r40_ v48_ 0 d43_ (Fr.g fd43_ hg) hnarr2 hx52_)
  obtain ⟨v53_, v54_, v55_, v56_, d57_⟩ := x51_
  have fd57_ : Fr wo_PB_lettersApart [arr2] false d d57_ := fx51_
  replace h := u4_e h
  obtain ⟨x59_, hx60_, h⟩ := lb_some h
  have fx59_ := Fr.tr0 fd57_ (fr_PB_lettersApart_l46 arr2 len2 v53_ v54_ v55_ v56_ 1 d57_ (Fr.g fd57_ hg) hnarr2 hx60_)
  obtain ⟨v61_, d62_⟩ := x59_
  have fd62_ : Fr wo_PB_lettersApart [arr2] false d d62_ := fx59_
  replace h := u1_e h
  obtain ⟨hb64_, h⟩ := ck_some h
  obtain ⟨rfl, rfl⟩ := ret_inj h
  exact fd62_
/-! frames of PB_far -/
def wo_PB_far : List (Nat × Nat) := [(0, 0)]
theorem fr_PB_far_b20 {r : Int} {d' : Dt} (x1 x3 s1 : Int) (d : Dt) (hg : d GH 0 ≤ 6) (h : L_PB_far_b20 x1 x3 s1 d = some (r, d')) : Fr wo_PB_far [1] false d d' := by
  have f0 : Fr wo_PB_far [1] false d d := Fr.rfl
  unfold L_PB_far_b20 at h
  rcases ite_some h with ⟨hc2_, h⟩ | ⟨hc2_, h⟩
  · obtain ⟨r4_, d3_, hr5_, h⟩ := bd_some h
    have fd3_ : Fr wo_PB_far [1] false d d3_ := Fr.tr (Fr.upo f0 rfl (by decide)) (fr_PB_lettersApart 1 9 x1 x3 (up2 d 0 0 s1) (Fr.g (Fr.upo f0 rfl (by decide)) hg) (by decide) hr5_) (by decide) (by decide) (by decide)
    obtain ⟨rfl, rfl⟩ := ret_inj h
    exact fd3_
  · obtain ⟨rfl, rfl⟩ := ret_inj h
    exact (Fr.upo f0 rfl (by decide))
theorem fr_PB_far {r : Int} {d' : Dt} (p1 p2 : Int) (d : Dt) (hg : d GH 0 ≤ 6) (h : L_PB_far p1 p2 d = some (r, d')) : Fr wo_PB_far [1] false d d' := by
  have f0 : Fr wo_PB_far [1] false d d := Fr.rfl
  unfold L_PB_far at h
  obtain ⟨r8_, d7_, hr9_, h⟩ := bd_some h
  have fd7_ : Fr wo_PB_far [1] false d d7_ := Fr.tr f0 (fr_PB_isName p1 d (Fr.g f0 hg) hr9_) (by decide) (by decide) (by decide)
  rcases ite_some h with ⟨hc11_, h⟩ | ⟨hc11_, h⟩
  · exact Fr.tr0 fd7_ (fr_PB_far_b20 p1 p2 1 d7_ (Fr.g fd7_ hg) h)
  · obtain ⟨r13_, d12_, hr14_, h⟩ := bd_some h
    have fd12_ : Fr wo_PB_far [1] false d d12_ := Fr.tr fd7_ (fr_PB_isName p2 d7_ (Fr.g fd7_ hg) hr14_) (by decide) (by decide) (by decide)
    rcases ite_some h with ⟨hc16_, h⟩ | ⟨hc16_, h⟩
    · exact Fr.tr0 fd12_ (fr_PB_far_b20 p1 p2 1 d12_ (Fr.g fd12_ hg) h)
    · exact Fr.tr0 fd12_ (fr_PB_far_b20 p1 p2 0 d12_ (Fr.g fd12_ hg) h)
/-! frames of PB_isPlace -/
def wo_PB_isPlace : List (Nat × Nat) := []
theorem fr_PB_isPlace {r : Int} {d' : Dt} (p1 : Int) (d : Dt) (hg : d GH 0 ≤ 6) (h : L_PB_isPlace p1 d = some (r, d')) : Fr wo_PB_isPlace [] false d d' := by
  have f0 : Fr wo_PB_isPlace [] false d d := Fr.rfl
  unfold L_PB_isPlace at h
  obtain ⟨r2_, d1_, hr3_, h⟩ := bd_some h
  have fd1_ : Fr wo_PB_isPlace [] false d d1_ := Fr.tr f0 (fr_PB_within p1 0 6 d (Fr.g f0 hg) hr3_) (by decide) (by decide) (by decide)
  obtain ⟨rfl, rfl⟩ := ret_inj h
  exact fd1_
/-! frames of Pe_isFull -/
def wo_Pe_isFull : List (Nat × Nat) := []
theorem fr_Pe_isFull {r : Int} {d' : Dt} (d : Dt) (hg : d GH 0 ≤ 6) (h : L_Pe_isFull d = some (r, d')) : Fr wo_Pe_isFull [] false d d' := by
  have f0 : Fr wo_Pe_isFull [] false d d := Fr.rfl
  unfold L_Pe_isFull at h
  rcases ite_some h with ⟨hc2_, h⟩ | ⟨hc2_, h⟩
  · obtain ⟨rfl, rfl⟩ := ret_inj h
    exact f0
  · obtain ⟨rfl, rfl⟩ := ret_inj h
    exact f0
/-! frames of Pe_add -/
def wo_Pe_add : List (Nat × Nat) := [(7, 3)]
theorem fr_Pe_add {r : Int} {d' : Dt} (p1 p2 p3 : Int) (d : Dt) (hg : d GH 0 ≤ 6) (h : L_Pe_add p1 p2 p3 d = some (r, d')) : Fr wo_Pe_add [8, 9, 10] false d d' := by
  have f0 : Fr wo_Pe_add [8, 9, 10] false d d := Fr.rfl
  unfold L_Pe_add at h
  obtain ⟨hb2_, h⟩ := ck_some h
  obtain ⟨hb4_, h⟩ := ck_some h
  obtain ⟨hb6_, h⟩ := ck_some h
  obtain ⟨rfl, rfl⟩ := ret_inj h
  exact (Fr.upo (Fr.upa (Fr.upa (Fr.upa f0 rfl (by decide)) rfl (by decide)) rfl (by decide)) rfl (by decide))
/-! frames of Po_distance -/
def wo_Po_distance : List (Nat × Nat) := []
theorem fr_Po_distance_b77 {r : Int} {d' : Dt} (s0 s1 : Int) (d : Dt) (hg : d GH 0 ≤ 6) (h : L_Po_distance_b77 s0 s1 d = some (r, d')) : Fr wo_Po_distance [53] false d d' := by
  have f0 : Fr wo_Po_distance [53] false d d := Fr.rfl
  unfold L_Po_distance_b77 at h
  obtain ⟨rfl, rfl⟩ := ret_inj h
  exact f0
theorem fr_Po_distance_b62 {r : Int} {d' : Dt} (x3 s0 : Int) (d : Dt) (hg : d GH 0 ≤ 6) (h : L_Po_distance_b62 x3 s0 d = some (r, d')) : Fr wo_Po_distance [53] false d d' := by
  have f0 : Fr wo_Po_distance [53] false d d := Fr.rfl
  unfold L_Po_distance_b62 at h
  rcases ite_some h with ⟨hc1_, h⟩ | ⟨hc1_, h⟩
  · exact Fr.tr0 f0 (fr_Po_distance_b77 (w32 (3 * x3)) 0 d (Fr.g f0 hg) h)
  · exact Fr.tr0 f0 (fr_Po_distance_b77 (w32 (3 * x3)) 2 d (Fr.g f0 hg) h)
theorem fr_Po_distance {r : Int} {d' : Dt} (p1 p2 : Int) (d : Dt) (hg : d GH 0 ≤ 6) (h : L_Po_distance p1 p2 d = some (r, d')) : Fr wo_Po_distance [53] false d d' := by
  have f0 : Fr wo_Po_distance [53] false d d := Fr.rfl
  unfold L_Po_distance at h
  obtain ⟨hb2_, h⟩ := ck_some h
  obtain ⟨hb4_, h⟩ := ck_some h
  obtain ⟨r7_, d6_, hr8_, h⟩ := bd_some h
  have fd6_ : Fr wo_Po_distance [53] false d d6_ := Fr.tr f0 (fr_PB_lettersApart 53 9 (d 38 p1.toNat) (d 8 p2.toNat) d (Fr.g f0 hg) (by decide) hr8_) (by decide) (by decide) (by decide)
  obtain ⟨hb10_, h⟩ := ck_some h
  obtain ⟨v12_, ev13_, h⟩ := lt_some h
  rcases ite_some h with ⟨hc15_, h⟩ | ⟨hc15_, h⟩
  · exact Fr.tr0 fd6_ (fr_Po_distance_b62 r7_ 0 d6_ (Fr.g fd6_ hg) h)
  · obtain ⟨hb16_, h⟩ := ck_some h
    rcases ite_some h with ⟨hc18_, h⟩ | ⟨hc18_, h⟩
    · exact Fr.tr0 fd6_ (fr_Po_distance_b62 r7_ 0 d6_ (Fr.g fd6_ hg) h)
    · exact Fr.tr0 fd6_ (fr_Po_distance_b62 r7_ 1 d6_ (Fr.g fd6_ hg) h)
/-! frames of Po_compare -/
def wo_Po_compare : List (Nat × Nat) := []
theorem fr_Po_compare {r : Int} {d' : Dt} (p1 p2 : Int) (d : Dt) (hg : d GH 0 ≤ 6) (h : L_Po_compare p1 p2 d = some (r, d')) : Fr wo_Po_compare [50, 51, 52, 53] false d d' := by
  have f0 : Fr wo_Po_compare [50, 51, 52, 53] false d d := Fr.rfl
  unfold L_Po_compare at h
  obtain ⟨r2_, d1_, hr3_, h⟩ := bd_some h
  have fd1_ : Fr wo_Po_compare [50, 51, 52, 53] false d d1_ := Fr.tr f0 (fr_Po_distance p1 p2 d (Fr.g f0 hg) hr3_) (by decide) (by decide) (by decide)
  obtain ⟨hb5_, h⟩ := ck_some h
  rcases ite_some h with ⟨hc7_, h⟩ | ⟨hc7_, h⟩
  · obtain ⟨hb8_, h⟩ := ck_some h
    obtain ⟨hb9_, h⟩ := ck_some h
    obtain ⟨hb10_, h⟩ := ck_some h
    obtain ⟨rfl, rfl⟩ := ret_inj h
    exact (Fr.upa (Fr.upa (Fr.upa fd1_ rfl (by decide)) rfl (by decide)) rfl (by decide))
  · obtain ⟨hb11_, h⟩ := ck_some h
    rcases ite_some h with ⟨hc13_, h⟩ | ⟨hc13_, h⟩
    · obtain ⟨hb14_, h⟩ := ck_some h
      obtain ⟨rfl, rfl⟩ := ret_inj h
      exact (Fr.upa fd1_ rfl (by decide))
    · obtain ⟨rfl, rfl⟩ := ret_inj h
      exact fd1_
/-! frames of Po_meetPerson -/
def wo_Po_meetPerson : List (Nat × Nat) := []
def he_Po_meetPerson_2 (q : (Dt)) : Dt := q
def hb_Po_meetPerson_2 (o : (Int × Int × Dt) ⊕ ((Dt))) : Dt := match o with
  | .inl q => q.2.2
  | .inr r => he_Po_meetPerson_2 r
theorem fr_Po_meetPerson_y2 {o : (Int × Int × Dt) ⊕ ((Dt))} (x1 x2 : Int) (d : Dt) (hg : d GH 0 ≤ 6) (h : L_Po_meetPerson_y2 x1 x2 d = some o) : Fr wo_Po_meetPerson [50, 51, 52, 53] false d (hb_Po_meetPerson_2 o) := by
  have f0 : Fr wo_Po_meetPerson [50, 51, 52, 53] false d d := Fr.rfl
  unfold L_Po_meetPerson_y2 at h
  rcases ite_some h with ⟨hc2_, h⟩ | ⟨hc2_, h⟩
  · obtain ⟨r4_, d3_, hr5_, h⟩ := bd_some h
    have fd3_ : Fr wo_Po_meetPerson [50, 51, 52, 53] false d d3_ := Fr.tr f0 (fr_Po_compare x2 x1 d (Fr.g f0 hg) hr5_) (by decide) (by decide) (by decide)
    obtain rfl := Option.some.inj h
    exact fd3_
  · obtain rfl := Option.some.inj h
    exact f0
theorem fr_Po_meetPerson_l2 {x : (Dt)} (x1 x2 : Int) (d : Dt) (hg : d GH 0 ≤ 6) (h : L_Po_meetPerson_l2 x1 x2 d = some x) : Fr wo_Po_meetPerson [50, 51, 52, 53] false d (he_Po_meetPerson_2 x) :=
  lpF_fr (f := fun q : Int × Int × Dt => L_Po_meetPerson_y2 q.1 q.2.1 q.2.2) (fun q => q.2.2) he_Po_meetPerson_2 (fun q x hq hx => ⟨fun q2 e2 => by subst e2; exact fr_Po_meetPerson_y2 q.1 q.2.1 q.2.2 hq hx, fun r2 e2 => by subst e2; exact fr_Po_meetPerson_y2 q.1 q.2.1 q.2.2 hq hx⟩) FU _ x hg h
theorem fr_Po_meetPerson {r : Int} {d' : Dt} (p1 : Int) (d : Dt) (hg : d GH 0 ≤ 6) (h : L_Po_meetPerson p1 d = some (r, d')) : Fr wo_Po_meetPerson [50, 51, 52, 53] false d d' := by
  have f0 : Fr wo_Po_meetPerson [50, 51, 52, 53] false d d := Fr.rfl
  unfold L_Po_meetPerson at h
  obtain ⟨x7_, hx8_, h⟩ := lb_some h
  have fx7_ := Fr.tr0 f0 (fr_Po_meetPerson_l2 p1 0 d (Fr.g f0 hg) hx8_)
  obtain ⟨d9_, rfl⟩ : ∃ z, z = x7_ := ⟨_, rfl⟩
  have fd9_ : Fr wo_Po_meetPerson [50, 51, 52, 53] false d d9_ := fx7_
  replace h := u0_e h
  obtain ⟨rfl, rfl⟩ := ret_inj h
  exact fd9_
/-! frames of PB_person -/
def wo_PB_person : List (Nat × Nat) := [(0, 0), (7, 3)]
theorem fr_PB_person_b59 {r : Int} {d' : Dt} (x1 x3 x4 s1 : Int) (d : Dt) (hg : d GH 0 ≤ 6) (h : L_PB_person_b59 x1 x3 x4 s1 d = some (r, d')) : Fr wo_PB_person [8, 9, 10, 50, 51, 52, 53] false d d' := by
  have f0 : Fr wo_PB_person [8, 9, 10, 50, 51, 52, 53] false d d := Fr.rfl
  unfold L_PB_person_b59 at h
  rcases ite_some h with ⟨hc2_, h⟩ | ⟨hc2_, h⟩
  · obtain ⟨r4_, d3_, hr5_, h⟩ := bd_some h
    have fd3_ : Fr wo_PB_person [8, 9, 10, 50, 51, 52, 53] false d d3_ := Fr.tr (Fr.upo f0 rfl (by decide)) (fr_Pe_add x1 x3 x4 (up2 d 0 0 s1) (Fr.g (Fr.upo f0 rfl (by decide)) hg) hr5_) (by decide) (by decide) (by decide)
    obtain ⟨r8_, d7_, hr9_, h⟩ := bd_some h
    have fd7_ : Fr wo_PB_person [8, 9, 10, 50, 51, 52, 53] false d d7_ := Fr.tr fd3_ (fr_Po_meetPerson r4_ d3_ (Fr.g fd3_ hg) hr9_) (by decide) (by decide) (by decide)
    obtain ⟨rfl, rfl⟩ := ret_inj h
    exact fd7_
  · obtain ⟨rfl, rfl⟩ := ret_inj h
    exact (Fr.upo f0 rfl (by decide))
theorem fr_PB_person_b32 {r : Int} {d' : Dt} (x1 x3 x4 s0 : Int) (d : Dt) (hg : d GH 0 ≤ 6) (h : L_PB_person_b32 x1 x3 x4 s0 d = some (r, d')) : Fr wo_PB_person [8, 9, 10, 50, 51, 52, 53] false d d' := by
  have f0 : Fr wo_PB_person [8, 9, 10, 50, 51, 52, 53] false d d := Fr.rfl
  unfold L_PB_person_b32 at h
  rcases ite_some h with ⟨hc11_, h⟩ | ⟨hc11_, h⟩
  · exact Fr.tr0 f0 (fr_PB_person_b59 x1 x3 x4 1 d (Fr.g f0 hg) h)
  · obtain ⟨r13_, d12_, hr14_, h⟩ := bd_some h
    have fd12_ : Fr wo_PB_person [8, 9, 10, 50, 51, 52, 53] false d d12_ := Fr.tr f0 (fr_Pe_isFull  d (Fr.g f0 hg) hr14_) (by decide) (by decide) (by decide)
    rcases ite_some h with ⟨hc16_, h⟩ | ⟨hc16_, h⟩
    · exact Fr.tr0 fd12_ (fr_PB_person_b59 x1 x3 x4 0 d12_ (Fr.g fd12_ hg) h)
    · exact Fr.tr0 fd12_ (fr_PB_person_b59 x1 x3 x4 4 d12_ (Fr.g fd12_ hg) h)
theorem fr_PB_person {r : Int} {d' : Dt} (p1 p2 p3 : Int) (d : Dt) (hg : d GH 0 ≤ 6) (h : L_PB_person p1 p2 p3 d = some (r, d')) : Fr wo_PB_person [8, 9, 10, 50, 51, 52, 53] false d d' := by
  have f0 : Fr wo_PB_person [8, 9, 10, 50, 51, 52, 53] false d d := Fr.rfl
  unfold L_PB_person at h
  obtain ⟨r18_, d17_, hr19_, h⟩ := bd_some h
  have fd17_ : Fr wo_PB_person [8, 9, 10, 50, 51, 52, 53] false d d17_ := Fr.tr f0 (fr_PB_isName p1 d (Fr.g f0 hg) hr19_) (by decide) (by decide) (by decide)
  rcases ite_some h with ⟨hc21_, h⟩ | ⟨hc21_, h⟩
  · exact Fr.tr0 fd17_ (fr_PB_person_b32 p1 p2 p3 0 d17_ (Fr.g fd17_ hg) h)
  · obtain ⟨r23_, d22_, hr24_, h⟩ := bd_some h
    have fd22_ : Fr wo_PB_person [8, 9, 10, 50, 51, 52, 53] false d d22_ := Fr.tr fd17_ (fr_PB_within p2 0 19 d17_ (Fr.g fd17_ hg) hr24_) (by decide) (by decide) (by decide)
    rcases ite_some h with ⟨hc26_, h⟩ | ⟨hc26_, h⟩
    · exact Fr.tr0 fd22_ (fr_PB_person_b32 p1 p2 p3 0 d22_ (Fr.g fd22_ hg) h)
    · obtain ⟨r28_, d27_, hr29_, h⟩ := bd_some h
      have fd27_ : Fr wo_PB_person [8, 9, 10, 50, 51, 52, 53] false d d27_ := Fr.tr fd22_ (fr_PB_isPlace p3 d22_ (Fr.g fd22_ hg) hr29_) (by decide) (by decide) (by decide)
      rcases ite_some h with ⟨hc31_, h⟩ | ⟨hc31_, h⟩
      · exact Fr.tr0 fd27_ (fr_PB_person_b32 p1 p2 p3 0 d27_ (Fr.g fd27_ hg) h)
      · exact Fr.tr0 fd27_ (fr_PB_person_b32 p1 p2 p3 1 d27_ (Fr.g fd27_ hg) h)
/-! frames of Pe_has -/
def wo_Pe_has : List (Nat × Nat) := []
theorem fr_Pe_has {r : Int} {d' : Dt} (p1 : Int) (d : Dt) (hg : d GH 0 ≤ 6) (h : L_Pe_has p1 d = some (r, d')) : Fr wo_Pe_has [] false d d' := by
  have f0 : Fr wo_Pe_has [] false d d := Fr.rfl
  unfold L_Pe_has at h
  rcases ite_some h with ⟨hc1_, h⟩ | ⟨hc1_, h⟩
  · obtain ⟨rfl, rfl⟩ := ret_inj h
    exact f0
  · rcases ite_some h with ⟨hc3_, h⟩ | ⟨hc3_, h⟩
    · obtain ⟨rfl, rfl⟩ := ret_inj h
      exact f0
    · obtain ⟨rfl, rfl⟩ := ret_inj h
      exact f0
/-! frames of PB_isDay -/
def wo_PB_isDay : List (Nat × Nat) := []
theorem fr_PB_isDay {r : Int} {d' : Dt} (p1 : Int) (d : Dt) (hg : d GH 0 ≤ 6) (h : L_PB_isDay p1 d = some (r, d')) : Fr wo_PB_isDay [] false d d' := by
  have f0 : Fr wo_PB_isDay [] false d d := Fr.rfl
  unfold L_PB_isDay at h
  obtain ⟨r2_, d1_, hr3_, h⟩ := bd_some h
  have fd1_ : Fr wo_PB_isDay [] false d d1_ := Fr.tr f0 (fr_PB_within p1 0 9999 d (Fr.g f0 hg) hr3_) (by decide) (by decide) (by decide)
  obtain ⟨rfl, rfl⟩ := ret_inj h
  exact fd1_
/-! frames of Re_holdingsFull -/
def wo_Re_holdingsFull : List (Nat × Nat) := []
theorem fr_Re_holdingsFull {r : Int} {d' : Dt} (d : Dt) (hg : d GH 0 ≤ 6) (h : L_Re_holdingsFull d = some (r, d')) : Fr wo_Re_holdingsFull [] false d d' := by
  have f0 : Fr wo_Re_holdingsFull [] false d d := Fr.rfl
  unfold L_Re_holdingsFull at h
  rcases ite_some h with ⟨hc2_, h⟩ | ⟨hc2_, h⟩
  · obtain ⟨rfl, rfl⟩ := ret_inj h
    exact f0
  · obtain ⟨rfl, rfl⟩ := ret_inj h
    exact f0
/-! frames of Re_isGone -/
def wo_Re_isGone : List (Nat × Nat) := []
theorem fr_Re_isGone {r : Int} {d' : Dt} (p1 : Int) (d : Dt) (hg : d GH 0 ≤ 6) (h : L_Re_isGone p1 d = some (r, d')) : Fr wo_Re_isGone [] false d d' := by
  have f0 : Fr wo_Re_isGone [] false d d := Fr.rfl
  unfold L_Re_isGone at h
  rcases ite_some h with ⟨hc2_, h⟩ | ⟨hc2_, h⟩
  · obtain ⟨rfl, rfl⟩ := ret_inj h
    exact f0
  · obtain ⟨rfl, rfl⟩ := ret_inj h
    exact f0
/-! frames of PB_recordStatus -/
def wo_PB_recordStatus : List (Nat × Nat) := []
theorem fr_PB_recordStatus {r : Int} {d' : Dt} (p1 p2 p3 : Int) (d : Dt) (hg : d GH 0 ≤ 6) (h : L_PB_recordStatus p1 p2 p3 d = some (r, d')) : Fr wo_PB_recordStatus [] false d d' := by
  have f0 : Fr wo_PB_recordStatus [] false d d := Fr.rfl
  unfold L_PB_recordStatus at h
  rcases ite_some h with ⟨hc1_, h⟩ | ⟨hc1_, h⟩
  · obtain ⟨rfl, rfl⟩ := ret_inj h
    exact f0
  · rcases ite_some h with ⟨hc2_, h⟩ | ⟨hc2_, h⟩
    · obtain ⟨r4_, d3_, hr5_, h⟩ := bd_some h
      have fd3_ : Fr wo_PB_recordStatus [] false d d3_ := Fr.tr f0 (fr_Re_isGone p3 d (Fr.g f0 hg) hr5_) (by decide) (by decide) (by decide)
      rcases ite_some h with ⟨hc7_, h⟩ | ⟨hc7_, h⟩
      · obtain ⟨rfl, rfl⟩ := ret_inj h
        exact fd3_
      · obtain ⟨rfl, rfl⟩ := ret_inj h
        exact fd3_
    · obtain ⟨rfl, rfl⟩ := ret_inj h
      exact f0
/-! frames of Re_addHolding -/
def wo_Re_addHolding : List (Nat × Nat) := [(11, 2), (11, 9)]
theorem fr_Re_addHolding {r : Int} {d' : Dt} (p1 p2 p3 p4 p5 p6 : Int) (d : Dt) (hg : d GH 0 ≤ 6) (h : L_Re_addHolding p1 p2 p3 p4 p5 p6 d = some (r, d')) : Fr wo_Re_addHolding [12, 13, 14, 15, 16, 17] false d d' := by
  have f0 : Fr wo_Re_addHolding [12, 13, 14, 15, 16, 17] false d d := Fr.rfl
  unfold L_Re_addHolding at h
  obtain ⟨hb2_, h⟩ := ck_some h
  obtain ⟨hb4_, h⟩ := ck_some h
  obtain ⟨hb6_, h⟩ := ck_some h
  obtain ⟨hb8_, h⟩ := ck_some h
  obtain ⟨hb10_, h⟩ := ck_some h
  obtain ⟨hb12_, h⟩ := ck_some h
  obtain ⟨rfl, rfl⟩ := ret_inj h
  exact (Fr.upo (Fr.upo (Fr.upa (Fr.upa (Fr.upa (Fr.upa (Fr.upa (Fr.upa f0 rfl (by decide)) rfl (by decide)) rfl (by decide)) rfl (by decide)) rfl (by decide)) rfl (by decide)) rfl (by decide)) rfl (by decide))
/-! frames of PB_hold -/
def wo_PB_hold : List (Nat × Nat) := [(0, 0), (11, 2), (11, 9)]
theorem fr_PB_hold_b115 {r : Int} {d' : Dt} (d : Dt) (hg : d GH 0 ≤ 6) (h : L_PB_hold_b115 d = some (r, d')) : Fr wo_PB_hold [12, 13, 14, 15, 16, 17] false d d' := by
  have f0 : Fr wo_PB_hold [12, 13, 14, 15, 16, 17] false d d := Fr.rfl
  unfold L_PB_hold_b115 at h
  rcases ite_some h with ⟨hc2_, h⟩ | ⟨hc2_, h⟩
  · obtain ⟨rfl, rfl⟩ := ret_inj h
    exact f0
  · obtain ⟨rfl, rfl⟩ := ret_inj h
    exact f0
theorem fr_PB_hold_b71 {r : Int} {d' : Dt} (x1 x2 x3 x4 x5 x6 s0 : Int) (d : Dt) (hg : d GH 0 ≤ 6) (h : L_PB_hold_b71 x1 x2 x3 x4 x5 x6 s0 d = some (r, d')) : Fr wo_PB_hold [12, 13, 14, 15, 16, 17] false d d' := by
  have f0 : Fr wo_PB_hold [12, 13, 14, 15, 16, 17] false d d := Fr.rfl
  unfold L_PB_hold_b71 at h
  obtain ⟨r4_, d3_, hr5_, h⟩ := bd_some h
  have fd3_ : Fr wo_PB_hold [12, 13, 14, 15, 16, 17] false d d3_ := Fr.tr f0 (fr_Re_holdingsFull  d (Fr.g f0 hg) hr5_) (by decide) (by decide) (by decide)
  obtain ⟨r8_, d7_, hr9_, h⟩ := bd_some h
  have fd7_ : Fr wo_PB_hold [12, 13, 14, 15, 16, 17] false d d7_ := Fr.tr fd3_ (fr_PB_recordStatus s0 r4_ x6 d3_ (Fr.g fd3_ hg) hr9_) (by decide) (by decide) (by decide)
  rcases ite_some h with ⟨hc12_, h⟩ | ⟨hc12_, h⟩
  · obtain ⟨r14_, d13_, hr15_, h⟩ := bd_some h
    have fd13_ : Fr wo_PB_hold [12, 13, 14, 15, 16, 17] false d d13_ := Fr.tr (Fr.upo fd7_ rfl (by decide)) (fr_Re_addHolding x1 x2 x3 x4 x5 x6 (up2 d7_ 0 0 r8_) (Fr.g (Fr.upo fd7_ rfl (by decide)) hg) hr15_) (by decide) (by decide) (by decide)
    exact Fr.tr0 fd13_ (fr_PB_hold_b115  d13_ (Fr.g fd13_ hg) h)
  · exact Fr.tr0 (Fr.upo fd7_ rfl (by decide)) (fr_PB_hold_b115  (up2 d7_ 0 0 r8_) (Fr.g (Fr.upo fd7_ rfl (by decide)) hg) h)
theorem fr_PB_hold {r : Int} {d' : Dt} (p1 p2 p3 p4 p5 p6 : Int) (d : Dt) (hg : d GH 0 ≤ 6) (h : L_PB_hold p1 p2 p3 p4 p5 p6 d = some (r, d')) : Fr wo_PB_hold [12, 13, 14, 15, 16, 17] false d d' := by
  have f0 : Fr wo_PB_hold [12, 13, 14, 15, 16, 17] false d d := Fr.rfl
  unfold L_PB_hold at h
  obtain ⟨r18_, d17_, hr19_, h⟩ := bd_some h
  have fd17_ : Fr wo_PB_hold [12, 13, 14, 15, 16, 17] false d d17_ := Fr.tr f0 (fr_Pe_has p1 d (Fr.g f0 hg) hr19_) (by decide) (by decide) (by decide)
  rcases ite_some h with ⟨hc21_, h⟩ | ⟨hc21_, h⟩
  · exact Fr.tr0 fd17_ (fr_PB_hold_b71 p1 p2 p3 p4 p5 p6 0 d17_ (Fr.g fd17_ hg) h)
  · obtain ⟨r23_, d22_, hr24_, h⟩ := bd_some h
    have fd22_ : Fr wo_PB_hold [12, 13, 14, 15, 16, 17] false d d22_ := Fr.tr fd17_ (fr_PB_within p2 0 39 d17_ (Fr.g fd17_ hg) hr24_) (by decide) (by decide) (by decide)
    rcases ite_some h with ⟨hc26_, h⟩ | ⟨hc26_, h⟩
    · exact Fr.tr0 fd22_ (fr_PB_hold_b71 p1 p2 p3 p4 p5 p6 0 d22_ (Fr.g fd22_ hg) h)
    · obtain ⟨r28_, d27_, hr29_, h⟩ := bd_some h
      have fd27_ : Fr wo_PB_hold [12, 13, 14, 15, 16, 17] false d d27_ := Fr.tr fd22_ (fr_PB_within p3 1 1000 d22_ (Fr.g fd22_ hg) hr29_) (by decide) (by decide) (by decide)
      rcases ite_some h with ⟨hc31_, h⟩ | ⟨hc31_, h⟩
      · exact Fr.tr0 fd27_ (fr_PB_hold_b71 p1 p2 p3 p4 p5 p6 0 d27_ (Fr.g fd27_ hg) h)
      · obtain ⟨r33_, d32_, hr34_, h⟩ := bd_some h
        have fd32_ : Fr wo_PB_hold [12, 13, 14, 15, 16, 17] false d d32_ := Fr.tr fd27_ (fr_PB_isDay p4 d27_ (Fr.g fd27_ hg) hr34_) (by decide) (by decide) (by decide)
        rcases ite_some h with ⟨hc36_, h⟩ | ⟨hc36_, h⟩
        · exact Fr.tr0 fd32_ (fr_PB_hold_b71 p1 p2 p3 p4 p5 p6 0 d32_ (Fr.g fd32_ hg) h)
        · obtain ⟨r38_, d37_, hr39_, h⟩ := bd_some h
          have fd37_ : Fr wo_PB_hold [12, 13, 14, 15, 16, 17] false d d37_ := Fr.tr fd32_ (fr_PB_isDay p5 d32_ (Fr.g fd32_ hg) hr39_) (by decide) (by decide) (by decide)
          rcases ite_some h with ⟨hc41_, h⟩ | ⟨hc41_, h⟩
          · exact Fr.tr0 fd37_ (fr_PB_hold_b71 p1 p2 p3 p4 p5 p6 0 d37_ (Fr.g fd37_ hg) h)
          · rcases ite_some h with ⟨hc42_, h⟩ | ⟨hc42_, h⟩
            · exact Fr.tr0 fd37_ (fr_PB_hold_b71 p1 p2 p3 p4 p5 p6 0 d37_ (Fr.g fd37_ hg) h)
            · obtain ⟨r44_, d43_, hr45_, h⟩ := bd_some h
              have fd43_ : Fr wo_PB_hold [12, 13, 14, 15, 16, 17] false d d43_ := Fr.tr fd37_ (fr_PB_isDay p6 d37_ (Fr.g fd37_ hg) hr45_) (by decide) (by decide) (by decide)
              rcases ite_some h with ⟨hc47_, h⟩ | ⟨hc47_, h⟩
              · exact Fr.tr0 fd43_ (fr_PB_hold_b71 p1 p2 p3 p4 p5 p6 0 d43_ (Fr.g fd43_ hg) h)
              · exact Fr.tr0 fd43_ (fr_PB_hold_b71 p1 p2 p3 p4 p5 p6 1 d43_ (Fr.g fd43_ hg) h)
/-! frames of Re_splitsFull -/
def wo_Re_splitsFull : List (Nat × Nat) := []
theorem fr_Re_splitsFull {r : Int} {d' : Dt} (d : Dt) (hg : d GH 0 ≤ 6) (h : L_Re_splitsFull d = some (r, d')) : Fr wo_Re_splitsFull [] false d d' := by
  have f0 : Fr wo_Re_splitsFull [] false d d := Fr.rfl
  unfold L_Re_splitsFull at h
  rcases ite_some h with ⟨hc2_, h⟩ | ⟨hc2_, h⟩
  · obtain ⟨rfl, rfl⟩ := ret_inj h
    exact f0
  · obtain ⟨rfl, rfl⟩ := ret_inj h
    exact f0
/-! frames of Re_addSplit -/
def wo_Re_addSplit : List (Nat × Nat) := [(11, 2), (11, 13)]
theorem fr_Re_addSplit {r : Int} {d' : Dt} (p1 p2 p3 : Int) (d : Dt) (hg : d GH 0 ≤ 6) (h : L_Re_addSplit p1 p2 p3 d = some (r, d')) : Fr wo_Re_addSplit [18, 19, 20] false d d' := by
  have f0 : Fr wo_Re_addSplit [18, 19, 20] false d d := Fr.rfl
  unfold L_Re_addSplit at h
  obtain ⟨hb2_, h⟩ := ck_some h
  obtain ⟨hb4_, h⟩ := ck_some h
  obtain ⟨hb6_, h⟩ := ck_some h
  obtain ⟨rfl, rfl⟩ := ret_inj h
  exact (Fr.upo (Fr.upo (Fr.upa (Fr.upa (Fr.upa f0 rfl (by decide)) rfl (by decide)) rfl (by decide)) rfl (by decide)) rfl (by decide))
/-! frames of PB_split -/
def wo_PB_split : List (Nat × Nat) := [(0, 0), (11, 2), (11, 13)]
theorem fr_PB_split_b68 {r : Int} {d' : Dt} (d : Dt) (hg : d GH 0 ≤ 6) (h : L_PB_split_b68 d = some (r, d')) : Fr wo_PB_split [18, 19, 20] false d d' := by
  have f0 : Fr wo_PB_split [18, 19, 20] false d d := Fr.rfl
  unfold L_PB_split_b68 at h
  rcases ite_some h with ⟨hc2_, h⟩ | ⟨hc2_, h⟩
  · obtain ⟨rfl, rfl⟩ := ret_inj h
    exact f0
  · obtain ⟨rfl, rfl⟩ := ret_inj h
    exact f0
theorem fr_PB_split_b31 {r : Int} {d' : Dt} (x1 x2 x3 s0 : Int) (d : Dt) (hg : d GH 0 ≤ 6) (h : L_PB_split_b31 x1 x2 x3 s0 d = some (r, d')) : Fr wo_PB_split [18, 19, 20] false d d' := by
  have f0 : Fr wo_PB_split [18, 19, 20] false d d := Fr.rfl
  unfold L_PB_split_b31 at h
  obtain ⟨r4_, d3_, hr5_, h⟩ := bd_some h
  have fd3_ : Fr wo_PB_split [18, 19, 20] false d d3_ := Fr.tr f0 (fr_Re_splitsFull  d (Fr.g f0 hg) hr5_) (by decide) (by decide) (by decide)
  obtain ⟨r8_, d7_, hr9_, h⟩ := bd_some h
  have fd7_ : Fr wo_PB_split [18, 19, 20] false d d7_ := Fr.tr fd3_ (fr_PB_recordStatus s0 r4_ x3 d3_ (Fr.g fd3_ hg) hr9_) (by decide) (by decide) (by decide)
  rcases ite_some h with ⟨hc12_, h⟩ | ⟨hc12_, h⟩
  · obtain ⟨r14_, d13_, hr15_, h⟩ := bd_some h
    have fd13_ : Fr wo_PB_split [18, 19, 20] false d d13_ := Fr.tr (Fr.upo fd7_ rfl (by decide)) (fr_Re_addSplit x1 x2 x3 (up2 d7_ 0 0 r8_) (Fr.g (Fr.upo fd7_ rfl (by decide)) hg) hr15_) (by decide) (by decide) (by decide)
    exact Fr.tr0 fd13_ (fr_PB_split_b68  d13_ (Fr.g fd13_ hg) h)
  · exact Fr.tr0 (Fr.upo fd7_ rfl (by decide)) (fr_PB_split_b68  (up2 d7_ 0 0 r8_) (Fr.g (Fr.upo fd7_ rfl (by decide)) hg) h)
theorem fr_PB_split {r : Int} {d' : Dt} (p1 p2 p3 : Int) (d : Dt) (hg : d GH 0 ≤ 6) (h : L_PB_split p1 p2 p3 d = some (r, d')) : Fr wo_PB_split [18, 19, 20] false d d' := by
  have f0 : Fr wo_PB_split [18, 19, 20] false d d := Fr.rfl
  unfold L_PB_split at h
  obtain ⟨r18_, d17_, hr19_, h⟩ := bd_some h
  have fd17_ : Fr wo_PB_split [18, 19, 20] false d d17_ := Fr.tr f0 (fr_PB_within p1 0 39 d (Fr.g f0 hg) hr19_) (by decide) (by decide) (by decide)
  rcases ite_some h with ⟨hc21_, h⟩ | ⟨hc21_, h⟩
  · exact Fr.tr0 fd17_ (fr_PB_split_b31 p1 p2 p3 0 d17_ (Fr.g fd17_ hg) h)
  · obtain ⟨r23_, d22_, hr24_, h⟩ := bd_some h
    have fd22_ : Fr wo_PB_split [18, 19, 20] false d d22_ := Fr.tr fd17_ (fr_PB_isDay p2 d17_ (Fr.g fd17_ hg) hr24_) (by decide) (by decide) (by decide)
    rcases ite_some h with ⟨hc26_, h⟩ | ⟨hc26_, h⟩
    · exact Fr.tr0 fd22_ (fr_PB_split_b31 p1 p2 p3 0 d22_ (Fr.g fd22_ hg) h)
    · obtain ⟨r28_, d27_, hr29_, h⟩ := bd_some h
      have fd27_ : Fr wo_PB_split [18, 19, 20] false d d27_ := Fr.tr fd22_ (fr_PB_isDay p3 d22_ (Fr.g fd22_ hg) hr29_) (by decide) (by decide) (by decide)
      rcases ite_some h with ⟨hc31_, h⟩ | ⟨hc31_, h⟩
      · exact Fr.tr0 fd27_ (fr_PB_split_b31 p1 p2 p3 0 d27_ (Fr.g fd27_ hg) h)
      · exact Fr.tr0 fd27_ (fr_PB_split_b31 p1 p2 p3 1 d27_ (Fr.g fd27_ hg) h)
/-! frames of Re_paymentsFull -/
def wo_Re_paymentsFull : List (Nat × Nat) := []
theorem fr_Re_paymentsFull {r : Int} {d' : Dt} (d : Dt) (hg : d GH 0 ≤ 6) (h : L_Re_paymentsFull d = some (r, d')) : Fr wo_Re_paymentsFull [] false d d' := by
  have f0 : Fr wo_Re_paymentsFull [] false d d := Fr.rfl
  unfold L_Re_paymentsFull at h
  rcases ite_some h with ⟨hc2_, h⟩ | ⟨hc2_, h⟩
  · obtain ⟨rfl, rfl⟩ := ret_inj h
    exact f0
  · obtain ⟨rfl, rfl⟩ := ret_inj h
    exact f0
/-! frames of Re_addPayment -/
def wo_Re_addPayment : List (Nat × Nat) := [(11, 2), (11, 18)]
theorem fr_Re_addPayment_b28 {r : Int} {d' : Dt} (x3 x5 s1 s2 : Int) (d : Dt) (hg : d GH 0 ≤ 6) (h : L_Re_addPayment_b28 x3 x5 s1 s2 d = some (r, d')) : Fr wo_Re_addPayment [21, 22, 23, 24] false d d' := by
  have f0 : Fr wo_Re_addPayment [21, 22, 23, 24] false d d := Fr.rfl
  unfold L_Re_addPayment_b28 at h
  obtain ⟨hb1_, h⟩ := ck_some h
  obtain ⟨hb3_, h⟩ := ck_some h
  obtain ⟨hb5_, h⟩ := ck_some h
  obtain ⟨rfl, rfl⟩ := ret_inj h
  exact (Fr.upo (Fr.upo (Fr.upa (Fr.upa (Fr.upa f0 rfl (by decide)) rfl (by decide)) rfl (by decide)) rfl (by decide)) rfl (by decide))
theorem fr_Re_addPayment {r : Int} {d' : Dt} (p1 p2 p3 p4 p5 : Int) (d : Dt) (hg : d GH 0 ≤ 6) (h : L_Re_addPayment p1 p2 p3 p4 p5 d = some (r, d')) : Fr wo_Re_addPayment [21, 22, 23, 24] false d d' := by
  have f0 : Fr wo_Re_addPayment [21, 22, 23, 24] false d d := Fr.rfl
  unfold L_Re_addPayment at h
  obtain ⟨hb8_, h⟩ := ck_some h
  rcases ite_some h with ⟨hc10_, h⟩ | ⟨hc10_, h⟩
  · exact Fr.tr0 (Fr.upa f0 rfl (by decide)) (fr_Re_addPayment_b28 p3 p5 (d 11 18) 0 (up2 d 21 ((d 11 18)).toNat p1) (Fr.g (Fr.upa f0 rfl (by decide)) hg) h)
  · exact Fr.tr0 (Fr.upa f0 rfl (by decide)) (fr_Re_addPayment_b28 p3 p5 (d 11 18) p2 (up2 d 21 ((d 11 18)).toNat p1) (Fr.g (Fr.upa f0 rfl (by decide)) hg) h)
/-! frames of PB_pay -/
def wo_PB_pay : List (Nat × Nat) := [(0, 0), (11, 2), (11, 18)]
theorem fr_PB_pay_b85 {r : Int} {d' : Dt} (d : Dt) (hg : d GH 0 ≤ 6) (h : L_PB_pay_b85 d = some (r, d')) : Fr wo_PB_pay [21, 22, 23, 24] false d d' := by
  have f0 : Fr wo_PB_pay [21, 22, 23, 24] false d d := Fr.rfl
  unfold L_PB_pay_b85 at h
  rcases ite_some h with ⟨hc2_, h⟩ | ⟨hc2_, h⟩
  · obtain ⟨rfl, rfl⟩ := ret_inj h
    exact f0
  · obtain ⟨rfl, rfl⟩ := ret_inj h
    exact f0
theorem fr_PB_pay_b43 {r : Int} {d' : Dt} (x1 x2 x3 x4 x5 s0 : Int) (d : Dt) (hg : d GH 0 ≤ 6) (h : L_PB_pay_b43 x1 x2 x3 x4 x5 s0 d = some (r, d')) : Fr wo_PB_pay [21, 22, 23, 24] false d d' := by
  have f0 : Fr wo_PB_pay [21, 22, 23, 24] false d d := Fr.rfl
  unfold L_PB_pay_b43 at h
  obtain ⟨r4_, d3_, hr5_, h⟩ := bd_some h
  have fd3_ : Fr wo_PB_pay [21, 22, 23, 24] false d d3_ := Fr.tr f0 (fr_Re_paymentsFull  d (Fr.g f0 hg) hr5_) (by decide) (by decide) (by decide)
  obtain ⟨r8_, d7_, hr9_, h⟩ := bd_some h
  have fd7_ : Fr wo_PB_pay [21, 22, 23, 24] false d d7_ := Fr.tr fd3_ (fr_PB_recordStatus s0 r4_ x5 d3_ (Fr.g fd3_ hg) hr9_) (by decide) (by decide) (by decide)
  rcases ite_some h with ⟨hc12_, h⟩ | ⟨hc12_, h⟩
  · obtain ⟨r14_, d13_, hr15_, h⟩ := bd_some h
    have fd13_ : Fr wo_PB_pay [21, 22, 23, 24] false d d13_ := Fr.tr (Fr.upo fd7_ rfl (by decide)) (fr_Re_addPayment x1 x2 x3 x4 x5 (up2 d7_ 0 0 r8_) (Fr.g (Fr.upo fd7_ rfl (by decide)) hg) hr15_) (by decide) (by decide) (by decide)
    exact Fr.tr0 fd13_ (fr_PB_pay_b85  d13_ (Fr.g fd13_ hg) h)
  · exact Fr.tr0 (Fr.upo fd7_ rfl (by decide)) (fr_PB_pay_b85  (up2 d7_ 0 0 r8_) (Fr.g (Fr.upo fd7_ rfl (by decide)) hg) h)
theorem fr_PB_pay {r : Int} {d' : Dt} (p1 p2 p3 p4 p5 : Int) (d : Dt) (hg : d GH 0 ≤ 6) (h : L_PB_pay p1 p2 p3 p4 p5 d = some (r, d')) : Fr wo_PB_pay [21, 22, 23, 24] false d d' := by
  have f0 : Fr wo_PB_pay [21, 22, 23, 24] false d d := Fr.rfl
  unfold L_PB_pay at h
  obtain ⟨r18_, d17_, hr19_, h⟩ := bd_some h
  have fd17_ : Fr wo_PB_pay [21, 22, 23, 24] false d d17_ := Fr.tr f0 (fr_Pe_has p1 d (Fr.g f0 hg) hr19_) (by decide) (by decide) (by decide)
  rcases ite_some h with ⟨hc21_, h⟩ | ⟨hc21_, h⟩
  · exact Fr.tr0 fd17_ (fr_PB_pay_b43 p1 p2 p3 p4 p5 0 d17_ (Fr.g fd17_ hg) h)
  · obtain ⟨r23_, d22_, hr24_, h⟩ := bd_some h
    have fd22_ : Fr wo_PB_pay [21, 22, 23, 24] false d d22_ := Fr.tr fd17_ (fr_PB_within p2 1 1000 d17_ (Fr.g fd17_ hg) hr24_) (by decide) (by decide) (by decide)
    rcases ite_some h with ⟨hc26_, h⟩ | ⟨hc26_, h⟩
    · exact Fr.tr0 fd22_ (fr_PB_pay_b43 p1 p2 p3 p4 p5 0 d22_ (Fr.g fd22_ hg) h)
    · obtain ⟨r28_, d27_, hr29_, h⟩ := bd_some h
      have fd27_ : Fr wo_PB_pay [21, 22, 23, 24] false d d27_ := Fr.tr fd22_ (fr_PB_isDay p3 d22_ (Fr.g fd22_ hg) hr29_) (by decide) (by decide) (by decide)
      rcases ite_some h with ⟨hc31_, h⟩ | ⟨hc31_, h⟩
      · exact Fr.tr0 fd27_ (fr_PB_pay_b43 p1 p2 p3 p4 p5 0 d27_ (Fr.g fd27_ hg) h)
      · obtain ⟨r33_, d32_, hr34_, h⟩ := bd_some h
        have fd32_ : Fr wo_PB_pay [21, 22, 23, 24] false d d32_ := Fr.tr fd27_ (fr_PB_isDay p5 d27_ (Fr.g fd27_ hg) hr34_) (by decide) (by decide) (by decide)
        rcases ite_some h with ⟨hc36_, h⟩ | ⟨hc36_, h⟩
        · exact Fr.tr0 fd32_ (fr_PB_pay_b43 p1 p2 p3 p4 p5 0 d32_ (Fr.g fd32_ hg) h)
        · exact Fr.tr0 fd32_ (fr_PB_pay_b43 p1 p2 p3 p4 p5 1 d32_ (Fr.g fd32_ hg) h)
/-! frames of Re_lookBackFrom -/
def wo_Re_lookBackFrom : List (Nat × Nat) := [(11, 1)]
theorem fr_Re_lookBackFrom {r : Int} {d' : Dt} (p1 : Int) (d : Dt) (hg : d GH 0 ≤ 6) (h : L_Re_lookBackFrom p1 d = some (r, d')) : Fr wo_Re_lookBackFrom [] false d d' := by
  have f0 : Fr wo_Re_lookBackFrom [] false d d := Fr.rfl
  unfold L_Re_lookBackFrom at h
  obtain ⟨rfl, rfl⟩ := ret_inj h
  exact (Fr.upo f0 rfl (by decide))
/-! frames of PB_asof -/
def wo_PB_asof : List (Nat × Nat) := [(0, 0), (11, 1)]
theorem fr_PB_asof_b31 {r : Int} {d' : Dt} (d : Dt) (hg : d GH 0 ≤ 6) (h : L_PB_asof_b31 d = some (r, d')) : Fr wo_PB_asof [] false d d' := by
  have f0 : Fr wo_PB_asof [] false d d := Fr.rfl
  unfold L_PB_asof_b31 at h
  rcases ite_some h with ⟨hc2_, h⟩ | ⟨hc2_, h⟩
  · obtain ⟨rfl, rfl⟩ := ret_inj h
    exact f0
  · obtain ⟨rfl, rfl⟩ := ret_inj h
    exact f0
theorem fr_PB_asof_b13 {r : Int} {d' : Dt} (x1 s1 : Int) (d : Dt) (hg : d GH 0 ≤ 6) (h : L_PB_asof_b13 x1 s1 d = some (r, d')) : Fr wo_PB_asof [] false d d' := by
  have f0 : Fr wo_PB_asof [] false d d := Fr.rfl
  unfold L_PB_asof_b13 at h
  rcases ite_some h with ⟨hc4_, h⟩ | ⟨hc4_, h⟩
  · obtain ⟨r6_, d5_, hr7_, h⟩ := bd_some h
    have fd5_ : Fr wo_PB_asof [] false d d5_ := Fr.tr (Fr.upo f0 rfl (by decide)) (fr_Re_lookBackFrom x1 (up2 d 0 0 s1) (Fr.g (Fr.upo f0 rfl (by decide)) hg) hr7_) (by decide) (by decide) (by decide)
    exact Fr.tr0 fd5_ (fr_PB_asof_b31  d5_ (Fr.g fd5_ hg) h)
  · exact Fr.tr0 (Fr.upo f0 rfl (by decide)) (fr_PB_asof_b31  (up2 d 0 0 s1) (Fr.g (Fr.upo f0 rfl (by decide)) hg) h)
theorem fr_PB_asof {r : Int} {d' : Dt} (p1 : Int) (d : Dt) (hg : d GH 0 ≤ 6) (h : L_PB_asof p1 d = some (r, d')) : Fr wo_PB_asof [] false d d' := by
  have f0 : Fr wo_PB_asof [] false d d := Fr.rfl
  unfold L_PB_asof at h
  obtain ⟨r10_, d9_, hr11_, h⟩ := bd_some h
  have fd9_ : Fr wo_PB_asof [] false d d9_ := Fr.tr f0 (fr_PB_isDay p1 d (Fr.g f0 hg) hr11_) (by decide) (by decide) (by decide)
  rcases ite_some h with ⟨hc13_, h⟩ | ⟨hc13_, h⟩
  · exact Fr.tr0 fd9_ (fr_PB_asof_b13 p1 1 d9_ (Fr.g fd9_ hg) h)
  · exact Fr.tr0 fd9_ (fr_PB_asof_b13 p1 0 d9_ (Fr.g fd9_ hg) h)
/-! frames of Re_tellLand -/
def wo_Re_tellLand : List (Nat × Nat) := []
def he_Re_tellLand_15 (q : (Int × Int × Int × Int × Dt)) : Dt := q.2.2.2.2
def hb_Re_tellLand_15 (o : (Int × Int × Int × Int × Int × Int × Int × Dt) ⊕ ((Int × Int × Int × Int × Dt))) : Dt := match o with
  | .inl q => q.2.2.2.2.2.2.2
  | .inr r => he_Re_tellLand_15 r
theorem fr_Re_tellLand_b118 (arr2 len2 : Nat) {o : (Int × Int × Int × Int × Int × Int × Int × Dt) ⊕ ((Int × Int × Int × Int × Dt))} (x1 x2 x4 x6 x8 x9 x11 : Int) (d : Dt) (hg : d GH 0 ≤ 6) (hnarr2 : arr2 ≠ GH) (h : L_Re_tellLand_b118 arr2 len2 x1 x2 x4 x6 x8 x9 x11 d = some o) : Fr wo_Re_tellLand [arr2] false d (hb_Re_tellLand_15 o) := by
  have f0 : Fr wo_Re_tellLand [arr2] false d d := Fr.rfl
  unfold L_Re_tellLand_b118 at h
  obtain rfl := Option.some.inj h
  exact f0
theorem fr_Re_tellLand_y15 (arr2 len2 : Nat) {o : (Int × Int × Int × Int × Int × Int × Int × Dt) ⊕ ((Int × Int × Int × Int × Dt))} (x1 x2 x4 x6 x8 x9 x11 : Int) (d : Dt) (hg : d GH 0 ≤ 6) (hnarr2 : arr2 ≠ GH) (h : L_Re_tellLand_y15 arr2 len2 x1 x2 x4 x6 x8 x9 x11 d = some o) : Fr wo_Re_tellLand [arr2] false d (hb_Re_tellLand_15 o) := by
  have f0 : Fr wo_Re_tellLand [arr2] false d d := Fr.rfl
  unfold L_Re_tellLand_y15 at h
  rcases ite_some h with ⟨hc2_, h⟩ | ⟨hc2_, h⟩
  · obtain ⟨hb3_, h⟩ := ck_some h
    rcases ite_some h with ⟨hc5_, h⟩ | ⟨hc5_, h⟩
    · obtain ⟨hb6_, h⟩ := ck_some h
      rcases ite_some h with ⟨hc8_, h⟩ | ⟨hc8_, h⟩
      · exact Fr.tr0 f0 (fr_Re_tellLand_b118 arr2 len2 x1 x2 x4 x6 x8 x9 x11 d (Fr.g f0 hg) hnarr2 h)
      · obtain ⟨hb9_, h⟩ := ck_some h
        rcases ite_some h with ⟨hc11_, h⟩ | ⟨hc11_, h⟩
        · exact Fr.tr0 f0 (fr_Re_tellLand_b118 arr2 len2 x1 x2 x4 x6 x8 x9 x11 d (Fr.g f0 hg) hnarr2 h)
        · obtain ⟨hb12_, h⟩ := ck_some h
          rcases ite_some h with ⟨hc15_, h⟩ | ⟨hc15_, h⟩
          · exact Fr.tr0 f0 (fr_Re_tellLand_b118 arr2 len2 x1 x2 x4 x6 x8 x9 x11 d (Fr.g f0 hg) hnarr2 h)
          · obtain ⟨hb16_, h⟩ := ck_some h
            obtain ⟨v18_, ev19_, h⟩ := lt_some h
            obtain ⟨hb21_, h⟩ := ck_some h
            obtain ⟨v23_, ev24_, h⟩ := lt_some h
            obtain ⟨hb26_, h⟩ := ck_some h
            obtain ⟨v28_, ev29_, h⟩ := lt_some h
            exact Fr.tr0 f0 (fr_Re_tellLand_b118 arr2 len2 x1 x2 v18_ v23_ (w32 (x8 + 1)) v28_ x11 d (Fr.g f0 hg) hnarr2 h)
    · exact Fr.tr0 f0 (fr_Re_tellLand_b118 arr2 len2 x1 x2 x4 x6 x8 x9 x11 d (Fr.g f0 hg) hnarr2 h)
  · obtain rfl := Option.some.inj h
    exact f0
theorem fr_Re_tellLand_l15 (arr2 len2 : Nat) {x : (Int × Int × Int × Int × Dt)} (x1 x2 x4 x6 x8 x9 x11 : Int) (d : Dt) (hg : d GH 0 ≤ 6) (hnarr2 : arr2 ≠ GH) (h : L_Re_tellLand_l15 arr2 len2 x1 x2 x4 x6 x8 x9 x11 d = some x) : Fr wo_Re_tellLand [arr2] false d (he_Re_tellLand_15 x) :=
  lpF_fr (f := fun q : Int × Int × Int × Int × Int × Int × Int × Dt => L_Re_tellLand_y15 arr2 len2 q.1 q.2.1 q.2.2.1 q.2.2.2.1 q.2.2.2.2.1 q.2.2.2.2.2.1 q.2.2.2.2.2.2.1 q.2.2.2.2.2.2.2) (fun q => q.2.2.2.2.2.2.2) he_Re_tellLand_15 (fun q x hq hx => ⟨fun q2 e2 => by subst e2; exact fr_Re_tellLand_y15 arr2 len2 q.1 q.2.1 q.2.2.1 q.2.2.2.1 q.2.2.2.2.1 q.2.2.2.2.2.1 q.2.2.2.2.2.2.1 q.2.2.2.2.2.2.2 hq hnarr2 hx, fun r2 e2 => by subst e2; exact fr_Re_tellLand_y15 arr2 len2 q.1 q.2.1 q.2.2.1 q.2.2.2.1 q.2.2.2.2.1 q.2.2.2.2.2.1 q.2.2.2.2.2.2.1 q.2.2.2.2.2.2.2 hq hnarr2 hx⟩) FU _ x hg h
theorem fr_Re_tellLand (arr2 len2 : Nat) {r : Int} {d' : Dt} (p1 p2 : Int) (d : Dt) (hg : d GH 0 ≤ 6) (hnarr2 : arr2 ≠ GH) (h : L_Re_tellLand arr2 len2 p1 p2 d = some (r, d')) : Fr wo_Re_tellLand [arr2] false d d' := by
  have f0 : Fr wo_Re_tellLand [arr2] false d d := Fr.rfl
  unfold L_Re_tellLand at h
  obtain ⟨x31_, hx32_, h⟩ := lb_some h
  have fx31_ := Fr.tr0 f0 (fr_Re_tellLand_l15 arr2 len2 p1 p2 0 0 0 0 0 d (Fr.g f0 hg) hnarr2 hx32_)
  obtain ⟨v33_, v34_, v35_, v36_, d37_⟩ := x31_
  have fd37_ : Fr wo_Re_tellLand [arr2] false d d37_ := fx31_
  replace h := u4_e h
  obtain ⟨hb39_, h⟩ := ck_some h
  obtain ⟨hb40_, h⟩ := ck_some h
  obtain ⟨hb41_, h⟩ := ck_some h
  obtain ⟨rfl, rfl⟩ := ret_inj h
  exact (Fr.upa (Fr.upa (Fr.upa fd37_ (by simp) hnarr2) (by simp) hnarr2) (by simp) hnarr2)
/-! frames of Re_sinceSplit -/
def wo_Re_sinceSplit : List (Nat × Nat) := []
def he_Re_sinceSplit_8 (q : (Int × Dt)) : Dt := q.2
def hb_Re_sinceSplit_8 (o : (Int × Int × Int × Int × Dt) ⊕ ((Int × Dt))) : Dt := match o with
  | .inl q => q.2.2.2.2
  | .inr r => he_Re_sinceSplit_8 r
theorem fr_Re_sinceSplit_b86 {o : (Int × Int × Int × Int × Dt) ⊕ ((Int × Dt))} (x1 x3 x4 x5 : Int) (d : Dt) (hg : d GH 0 ≤ 6) (h : L_Re_sinceSplit_b86 x1 x3 x4 x5 d = some o) : Fr wo_Re_sinceSplit [] false d (hb_Re_sinceSplit_8 o) := by
  have f0 : Fr wo_Re_sinceSplit [] false d d := Fr.rfl
  unfold L_Re_sinceSplit_b86 at h
  obtain rfl := Option.some.inj h
  exact f0
theorem fr_Re_sinceSplit_b38 {o : (Int × Int × Int × Int × Dt) ⊕ ((Int × Dt))} (x1 x3 x4 x5 s0 : Int) (d : Dt) (hg : d GH 0 ≤ 6) (h : L_Re_sinceSplit_b38 x1 x3 x4 x5 s0 d = some o) : Fr wo_Re_sinceSplit [] false d (hb_Re_sinceSplit_8 o) := by
  have f0 : Fr wo_Re_sinceSplit [] false d d := Fr.rfl
  unfold L_Re_sinceSplit_b38 at h
  rcases ite_some h with ⟨hc1_, h⟩ | ⟨hc1_, h⟩
  · exact Fr.tr0 f0 (fr_Re_sinceSplit_b86 x1 x3 x4 x5 d (Fr.g f0 hg) h)
  · obtain ⟨hb2_, h⟩ := ck_some h
    rcases ite_some h with ⟨hc4_, h⟩ | ⟨hc4_, h⟩
    · exact Fr.tr0 f0 (fr_Re_sinceSplit_b86 x1 x3 x4 x5 d (Fr.g f0 hg) h)
    · obtain ⟨hb5_, h⟩ := ck_some h
      rcases ite_some h with ⟨hc8_, h⟩ | ⟨hc8_, h⟩
      · exact Fr.tr0 f0 (fr_Re_sinceSplit_b86 x1 x3 x4 x5 d (Fr.g f0 hg) h)
      · obtain ⟨hb9_, h⟩ := ck_some h
        obtain ⟨v11_, ev12_, h⟩ := lt_some h
        exact Fr.tr0 f0 (fr_Re_sinceSplit_b86 x1 x3 v11_ x5 d (Fr.g f0 hg) h)
theorem fr_Re_sinceSplit_y8 {o : (Int × Int × Int × Int × Dt) ⊕ ((Int × Dt))} (x1 x3 x4 x5 : Int) (d : Dt) (hg : d GH 0 ≤ 6) (h : L_Re_sinceSplit_y8 x1 x3 x4 x5 d = some o) : Fr wo_Re_sinceSplit [] false d (hb_Re_sinceSplit_8 o) := by
  have f0 : Fr wo_Re_sinceSplit [] false d d := Fr.rfl
  unfold L_Re_sinceSplit_y8 at h
  rcases ite_some h with ⟨hc15_, h⟩ | ⟨hc15_, h⟩
  · obtain ⟨hb16_, h⟩ := ck_some h
    rcases ite_some h with ⟨hc18_, h⟩ | ⟨hc18_, h⟩
    · exact Fr.tr0 f0 (fr_Re_sinceSplit_b38 x1 x3 x4 x5 0 d (Fr.g f0 hg) h)
    · exact Fr.tr0 f0 (fr_Re_sinceSplit_b38 x1 x3 x4 x5 1 d (Fr.g f0 hg) h)
  · obtain rfl := Option.some.inj h
    exact f0
theorem fr_Re_sinceSplit_l8 {x : (Int × Dt)} (x1 x3 x4 x5 : Int) (d : Dt) (hg : d GH 0 ≤ 6) (h : L_Re_sinceSplit_l8 x1 x3 x4 x5 d = some x) : Fr wo_Re_sinceSplit [] false d (he_Re_sinceSplit_8 x) :=
  lpF_fr (f := fun q : Int × Int × Int × Int × Dt => L_Re_sinceSplit_y8 q.1 q.2.1 q.2.2.1 q.2.2.2.1 q.2.2.2.2) (fun q => q.2.2.2.2) he_Re_sinceSplit_8 (fun q x hq hx => ⟨fun q2 e2 => by subst e2; exact fr_Re_sinceSplit_y8 q.1 q.2.1 q.2.2.1 q.2.2.2.1 q.2.2.2.2 hq hx, fun r2 e2 => by subst e2; exact fr_Re_sinceSplit_y8 q.1 q.2.1 q.2.2.1 q.2.2.2.1 q.2.2.2.2 hq hx⟩) FU _ x hg h
theorem fr_Re_sinceSplit {r : Int} {d' : Dt} (p1 p2 : Int) (d : Dt) (hg : d GH 0 ≤ 6) (h : L_Re_sinceSplit p1 p2 d = some (r, d')) : Fr wo_Re_sinceSplit [] false d d' := by
  have f0 : Fr wo_Re_sinceSplit [] false d d := Fr.rfl
  unfold L_Re_sinceSplit at h
  obtain ⟨x19_, hx20_, h⟩ := lb_some h
  have fx19_ := Fr.tr0 f0 (fr_Re_sinceSplit_l8 p1 p2 9999 0 d (Fr.g f0 hg) hx20_)
  obtain ⟨v21_, d22_⟩ := x19_
  have fd22_ : Fr wo_Re_sinceSplit [] false d d22_ := fx19_
  replace h := u1_e h
  obtain ⟨rfl, rfl⟩ := ret_inj h
  exact fd22_
/-! frames of PB_bit -/
def wo_PB_bit : List (Nat × Nat) := []
theorem fr_PB_bit {r : Int} {d' : Dt} (p1 : Int) (d : Dt) (hg : d GH 0 ≤ 6) (h : L_PB_bit p1 d = some (r, d')) : Fr wo_PB_bit [] false d d' := by
  have f0 : Fr wo_PB_bit [] false d d := Fr.rfl
  unfold L_PB_bit at h
  rcases ite_some h with ⟨hc1_, h⟩ | ⟨hc1_, h⟩
  · obtain ⟨rfl, rfl⟩ := ret_inj h
    exact f0
  · obtain ⟨rfl, rfl⟩ := ret_inj h
    exact f0
/-! frames of Re_paidBy -/
def wo_Re_paidBy : List (Nat × Nat) := []
def he_Re_paidBy_5 (q : (Int × Dt)) : Dt := q.2
def hb_Re_paidBy_5 (o : (Int × Int × Int × Int × Dt) ⊕ ((Int × Dt))) : Dt := match o with
  | .inl q => q.2.2.2.2
  | .inr r => he_Re_paidBy_5 r
theorem fr_Re_paidBy_b60 {o : (Int × Int × Int × Int × Dt) ⊕ ((Int × Dt))} (x1 x2 x3 x4 : Int) (d : Dt) (hg : d GH 0 ≤ 6) (h : L_Re_paidBy_b60 x1 x2 x3 x4 d = some o) : Fr wo_Re_paidBy [] false d (hb_Re_paidBy_5 o) := by
  have f0 : Fr wo_Re_paidBy [] false d d := Fr.rfl
  unfold L_Re_paidBy_b60 at h
  obtain rfl := Option.some.inj h
  exact f0
theorem fr_Re_paidBy_y5 {o : (Int × Int × Int × Int × Dt) ⊕ ((Int × Dt))} (x1 x2 x3 x4 : Int) (d : Dt) (hg : d GH 0 ≤ 6) (h : L_Re_paidBy_y5 x1 x2 x3 x4 d = some o) : Fr wo_Re_paidBy [] false d (hb_Re_paidBy_5 o) := by
  have f0 : Fr wo_Re_paidBy [] false d d := Fr.rfl
  unfold L_Re_paidBy_y5 at h
  rcases ite_some h with ⟨hc2_, h⟩ | ⟨hc2_, h⟩
  · obtain ⟨hb3_, h⟩ := ck_some h
    rcases ite_some h with ⟨hc5_, h⟩ | ⟨hc5_, h⟩
    · obtain ⟨hb6_, h⟩ := ck_some h
      rcases ite_some h with ⟨hc8_, h⟩ | ⟨hc8_, h⟩
      · exact Fr.tr0 f0 (fr_Re_paidBy_b60 x1 x2 x3 x4 d (Fr.g f0 hg) h)
      · obtain ⟨hb9_, h⟩ := ck_some h
        rcases ite_some h with ⟨hc12_, h⟩ | ⟨hc12_, h⟩
        · exact Fr.tr0 f0 (fr_Re_paidBy_b60 x1 x2 x3 x4 d (Fr.g f0 hg) h)
        · obtain ⟨hb13_, h⟩ := ck_some h
          obtain ⟨v15_, ev16_, h⟩ := lt_some h
          exact Fr.tr0 f0 (fr_Re_paidBy_b60 x1 x2 v15_ x4 d (Fr.g f0 hg) h)
    · exact Fr.tr0 f0 (fr_Re_paidBy_b60 x1 x2 x3 x4 d (Fr.g f0 hg) h)
  · obtain rfl := Option.some.inj h
    exact f0
theorem fr_Re_paidBy_l5 {x : (Int × Dt)} (x1 x2 x3 x4 : Int) (d : Dt) (hg : d GH 0 ≤ 6) (h : L_Re_paidBy_l5 x1 x2 x3 x4 d = some x) : Fr wo_Re_paidBy [] false d (he_Re_paidBy_5 x) :=
  lpF_fr (f := fun q : Int × Int × Int × Int × Dt => L_Re_paidBy_y5 q.1 q.2.1 q.2.2.1 q.2.2.2.1 q.2.2.2.2) (fun q => q.2.2.2.2) he_Re_paidBy_5 (fun q x hq hx => ⟨fun q2 e2 => by subst e2; exact fr_Re_paidBy_y5 q.1 q.2.1 q.2.2.1 q.2.2.2.1 q.2.2.2.2 hq hx, fun r2 e2 => by subst e2; exact fr_Re_paidBy_y5 q.1 q.2.1 q.2.2.1 q.2.2.2.1 q.2.2.2.2 hq hx⟩) FU _ x hg h
theorem fr_Re_paidBy {r : Int} {d' : Dt} (p1 p2 : Int) (d : Dt) (hg : d GH 0 ≤ 6) (h : L_Re_paidBy p1 p2 d = some (r, d')) : Fr wo_Re_paidBy [] false d d' := by
  have f0 : Fr wo_Re_paidBy [] false d d := Fr.rfl
  unfold L_Re_paidBy at h
  obtain ⟨x18_, hx19_, h⟩ := lb_some h
  have fx18_ := Fr.tr0 f0 (fr_Re_paidBy_l5 p1 p2 0 0 d (Fr.g f0 hg) hx19_)
  obtain ⟨v20_, d21_⟩ := x18_
  have fd21_ : Fr wo_Re_paidBy [] false d d21_ := fx18_
  replace h := u1_e h
  obtain ⟨rfl, rfl⟩ := ret_inj h
  exact fd21_
/-! frames of Re_tell -/
def wo_Re_tell : List (Nat × Nat) := []
theorem fr_Re_tell_b57 (arr3 len3 : Nat) {r : Int} {d' : Dt} (x1 x3 s1 s2 : Int) (d : Dt) (hg : d GH 0 ≤ 6) (hnarr3 : arr3 ≠ GH) (h : L_Re_tell_b57 arr3 len3 x1 x3 s1 s2 d = some (r, d')) : Fr wo_Re_tell [arr3] false d d' := by
  have f0 : Fr wo_Re_tell [arr3] false d d := Fr.rfl
  unfold L_Re_tell_b57 at h
  obtain ⟨r2_, d1_, hr3_, h⟩ := bd_some h
  have fd1_ : Fr wo_Re_tell [arr3] false d d1_ := Fr.tr f0 (fr_PB_bit s2 d (Fr.g f0 hg) hr3_) (by decide) (by simp) (by decide)
  obtain ⟨hb5_, h⟩ := ck_some h
  obtain ⟨r7_, d6_, hr8_, h⟩ := bd_some h
  have fd6_ : Fr wo_Re_tell [arr3] false d d6_ := Fr.tr (Fr.upa fd1_ (by simp) hnarr3) (fr_Re_paidBy x1 x3 (up2 d1_ arr3 s1.toNat r2_) (Fr.g (Fr.upa fd1_ (by simp) hnarr3) hg) hr8_) (by decide) (by simp) (by decide)
  obtain ⟨hb10_, h⟩ := ck_some h
  obtain ⟨rfl, rfl⟩ := ret_inj h
  exact (Fr.upa fd6_ (by simp) hnarr3)
theorem fr_Re_tell (arr3 len3 : Nat) {r : Int} {d' : Dt} (p1 p2 p3 : Int) (d : Dt) (hg : d GH 0 ≤ 6) (hnarr3 : arr3 ≠ GH) (h : L_Re_tell arr3 len3 p1 p2 p3 d = some (r, d')) : Fr wo_Re_tell [arr3] false d d' := by
  have f0 : Fr wo_Re_tell [arr3] false d d := Fr.rfl
  unfold L_Re_tell at h
  obtain ⟨r12_, d11_, hr13_, h⟩ := bd_some h
  have fd11_ : Fr wo_Re_tell [arr3] false d d11_ := Fr.tr f0 (fr_Re_tellLand arr3 len3 p1 p3 d (Fr.g f0 hg) hnarr3 hr13_) (by decide) (by simp) (by decide)
  obtain ⟨r16_, d15_, hr17_, h⟩ := bd_some h
  have fd15_ : Fr wo_Re_tell [arr3] false d d15_ := Fr.tr fd11_ (fr_Re_sinceSplit r12_ p3 d11_ (Fr.g fd11_ hg) hr17_) (by decide) (by simp) (by decide)
  obtain ⟨hb19_, h⟩ := ck_some h
  obtain ⟨hb20_, h⟩ := ck_some h
  obtain ⟨hb22_, h⟩ := ck_some h
  obtain ⟨hb23_, h⟩ := ck_some h
  rcases ite_some h with ⟨hc25_, h⟩ | ⟨hc25_, h⟩
  · exact Fr.tr0 (Fr.upa (Fr.upa fd15_ (by simp) hnarr3) (by simp) hnarr3) (fr_Re_tell_b57 arr3 len3 p1 p3 5 1 (up2 (up2 d15_ arr3 3 r16_) arr3 4 ((up2 d15_ arr3 3 r16_) 9 p1.toNat)) (Fr.g (Fr.upa (Fr.upa fd15_ (by simp) hnarr3) (by simp) hnarr3) hg) hnarr3 h)
  · exact Fr.tr0 (Fr.upa (Fr.upa fd15_ (by simp) hnarr3) (by simp) hnarr3) (fr_Re_tell_b57 arr3 len3 p1 p3 5 0 (up2 (up2 d15_ arr3 3 r16_) arr3 4 ((up2 d15_ arr3 3 r16_) 9 p1.toNat)) (Fr.g (Fr.upa (Fr.upa fd15_ (by simp) hnarr3) (by simp) hnarr3) hg) hnarr3 h)
/-! frames of PB_fact -/
def wo_PB_fact : List (Nat × Nat) := [(0, 0)]
theorem fr_PB_fact_b56 {r : Int} {d' : Dt} (x1 x2 x3 x4 x5 s1 : Int) (d : Dt) (hg : d GH 0 ≤ 6) (h : L_PB_fact_b56 x1 x2 x3 x4 x5 s1 d = some (r, d')) : Fr wo_PB_fact [2] false d d' := by
  have f0 : Fr wo_PB_fact [2] false d d := Fr.rfl
  unfold L_PB_fact_b56 at h
  rcases ite_some h with ⟨hc1_, h⟩ | ⟨hc1_, h⟩
  · obtain ⟨rfl, rfl⟩ := ret_inj h
    exact (Fr.upo f0 rfl (by decide))
  · obtain ⟨r3_, d2_, hr4_, h⟩ := bd_some h
    have fd2_ : Fr wo_PB_fact [2] false d d2_ := Fr.tr (Fr.upo f0 rfl (by decide)) (fr_Re_tell 2 7 x1 x2 x3 (up2 d 0 0 s1) (Fr.g (Fr.upo f0 rfl (by decide)) hg) (by decide) hr4_) (by decide) (by decide) (by decide)
    obtain ⟨hb6_, h⟩ := ck_some h
    obtain ⟨rfl, rfl⟩ := ret_inj h
    exact fd2_
theorem fr_PB_fact_b43 {r : Int} {d' : Dt} (x1 x2 x3 x4 s0 : Int) (d : Dt) (hg : d GH 0 ≤ 6) (h : L_PB_fact_b43 x1 x2 x3 x4 s0 d = some (r, d')) : Fr wo_PB_fact [2] false d d' := by
  have f0 : Fr wo_PB_fact [2] false d d := Fr.rfl
  unfold L_PB_fact_b43 at h
  rcases ite_some h with ⟨hc8_, h⟩ | ⟨hc8_, h⟩
  · exact Fr.tr0 f0 (fr_PB_fact_b56 x1 x2 x3 x4 s0 1 d (Fr.g f0 hg) h)
  · exact Fr.tr0 f0 (fr_PB_fact_b56 x1 x2 x3 x4 s0 0 d (Fr.g f0 hg) h)
theorem fr_PB_fact {r : Int} {d' : Dt} (p1 p2 p3 p4 : Int) (d : Dt) (hg : d GH 0 ≤ 6) (h : L_PB_fact p1 p2 p3 p4 d = some (r, d')) : Fr wo_PB_fact [2] false d d' := by
  have f0 : Fr wo_PB_fact [2] false d d := Fr.rfl
  unfold L_PB_fact at h
  obtain ⟨r10_, d9_, hr11_, h⟩ := bd_some h
  have fd9_ : Fr wo_PB_fact [2] false d d9_ := Fr.tr f0 (fr_Pe_has p1 d (Fr.g f0 hg) hr11_) (by decide) (by decide) (by decide)
  rcases ite_some h with ⟨hc13_, h⟩ | ⟨hc13_, h⟩
  · exact Fr.tr0 fd9_ (fr_PB_fact_b43 p1 p2 p3 p4 0 d9_ (Fr.g fd9_ hg) h)
  · obtain ⟨r15_, d14_, hr16_, h⟩ := bd_some h
    have fd14_ : Fr wo_PB_fact [2] false d d14_ := Fr.tr fd9_ (fr_PB_isPlace p2 d9_ (Fr.g fd9_ hg) hr16_) (by decide) (by decide) (by decide)
    rcases ite_some h with ⟨hc18_, h⟩ | ⟨hc18_, h⟩
    · exact Fr.tr0 fd14_ (fr_PB_fact_b43 p1 p2 p3 p4 0 d14_ (Fr.g fd14_ hg) h)
    · obtain ⟨r20_, d19_, hr21_, h⟩ := bd_some h
      have fd19_ : Fr wo_PB_fact [2] false d d19_ := Fr.tr fd14_ (fr_PB_isDay p3 d14_ (Fr.g fd14_ hg) hr21_) (by decide) (by decide) (by decide)
      rcases ite_some h with ⟨hc23_, h⟩ | ⟨hc23_, h⟩
      · exact Fr.tr0 fd19_ (fr_PB_fact_b43 p1 p2 p3 p4 0 d19_ (Fr.g fd19_ hg) h)
      · obtain ⟨r25_, d24_, hr26_, h⟩ := bd_some h
        have fd24_ : Fr wo_PB_fact [2] false d d24_ := Fr.tr fd19_ (fr_PB_within p4 0 6 d19_ (Fr.g fd19_ hg) hr26_) (by decide) (by decide) (by decide)
        rcases ite_some h with ⟨hc28_, h⟩ | ⟨hc28_, h⟩
        · exact Fr.tr0 fd24_ (fr_PB_fact_b43 p1 p2 p3 p4 0 d24_ (Fr.g fd24_ hg) h)
        · exact Fr.tr0 fd24_ (fr_PB_fact_b43 p1 p2 p3 p4 1 d24_ (Fr.g fd24_ hg) h)
/-! frames of Pa_hasRoom -/
def wo_Pa_hasRoom : List (Nat × Nat) := []
theorem fr_Pa_hasRoom {r : Int} {d' : Dt} (d : Dt) (hg : d GH 0 ≤ 6) (h : L_Pa_hasRoom d = some (r, d')) : Fr wo_Pa_hasRoom [] false d d' := by
  have f0 : Fr wo_Pa_hasRoom [] false d d := Fr.rfl
  unfold L_Pa_hasRoom at h
  rcases ite_some h with ⟨hc2_, h⟩ | ⟨hc2_, h⟩
  · obtain ⟨rfl, rfl⟩ := ret_inj h
    exact f0
  · obtain ⟨rfl, rfl⟩ := ret_inj h
    exact f0
/-! frames of Pa_append -/
def wo_Pa_append : List (Nat × Nat) := [(25, 1)]
def he_Pa_append_3 (q : (Dt)) : Dt := q
def hb_Pa_append_3 (o : (Int × Int × Dt) ⊕ ((Dt))) : Dt := match o with
  | .inl q => q.2.2
  | .inr r => he_Pa_append_3 r
theorem fr_Pa_append_y3 {o : (Int × Int × Dt) ⊕ ((Dt))} (x1 x2 : Int) (d : Dt) (hg : d GH 0 ≤ 6) (h : L_Pa_append_y3 x1 x2 d = some o) : Fr wo_Pa_append [26] false d (hb_Pa_append_3 o) := by
  have f0 : Fr wo_Pa_append [26] false d d := Fr.rfl
  unfold L_Pa_append_y3 at h
  rcases ite_some h with ⟨hc1_, h⟩ | ⟨hc1_, h⟩
  · obtain rfl := Option.some.inj h
    exact f0
  · rcases ite_some h with ⟨hc3_, h⟩ | ⟨hc3_, h⟩
    · obtain ⟨hb5_, h⟩ := ck_some h
      obtain rfl := Option.some.inj h
      exact (Fr.upo (Fr.upa f0 rfl (by decide)) rfl (by decide))
    · obtain rfl := Option.some.inj h
      exact f0
theorem fr_Pa_append_l3 {x : (Dt)} (x1 x2 : Int) (d : Dt) (hg : d GH 0 ≤ 6) (h : L_Pa_append_l3 x1 x2 d = some x) : Fr wo_Pa_append [26] false d (he_Pa_append_3 x) :=
  lpF_fr (f := fun q : Int × Int × Dt => L_Pa_append_y3 q.1 q.2.1 q.2.2) (fun q => q.2.2) he_Pa_append_3 (fun q x hq hx => ⟨fun q2 e2 => by subst e2; exact fr_Pa_append_y3 q.1 q.2.1 q.2.2 hq hx, fun r2 e2 => by subst e2; exact fr_Pa_append_y3 q.1 q.2.1 q.2.2 hq hx⟩) FU _ x hg h
theorem fr_Pa_append {r : Int} {d' : Dt} (p1 : Int) (d : Dt) (hg : d GH 0 ≤ 6) (h : L_Pa_append p1 d = some (r, d')) : Fr wo_Pa_append [26] false d d' := by
  have f0 : Fr wo_Pa_append [26] false d d := Fr.rfl
  unfold L_Pa_append at h
  obtain ⟨x7_, hx8_, h⟩ := lb_some h
  have fx7_ := Fr.tr0 f0 (fr_Pa_append_l3 p1 24 d (Fr.g f0 hg) hx8_)
  obtain ⟨d9_, rfl⟩ : ∃ z, z = x7_ := ⟨_, rfl⟩
  have fd9_ : Fr wo_Pa_append [26] false d d9_ := fx7_
  replace h := u0_e h
  obtain ⟨rfl, rfl⟩ := ret_inj h
  exact fd9_
/-! frames of Pa_taped -/
def wo_Pa_taped : List (Nat × Nat) := []
theorem fr_Pa_taped {r : Int} {d' : Dt} (d : Dt) (hg : d GH 0 ≤ 6) (h : L_Pa_taped d = some (r, d')) : Fr wo_Pa_taped [] false d d' := by
  have f0 : Fr wo_Pa_taped [] false d d := Fr.rfl
  unfold L_Pa_taped at h
  obtain ⟨rfl, rfl⟩ := ret_inj h
  exact f0
/-! frames of PB_feed -/
def wo_PB_feed : List (Nat × Nat) := [(25, 1)]
theorem fr_PB_feed {r : Int} {d' : Dt} (p1 p2 p3 p4 p5 : Int) (d : Dt) (hg : d GH 0 ≤ 6) (h : L_PB_feed p1 p2 p3 p4 p5 d = some (r, d')) : Fr wo_PB_feed [26] false d d' := by
  have f0 : Fr wo_PB_feed [26] false d d := Fr.rfl
  unfold L_PB_feed at h
  obtain ⟨r2_, d1_, hr3_, h⟩ := bd_some h
  have fd1_ : Fr wo_PB_feed [26] false d d1_ := Fr.tr f0 (fr_Pa_hasRoom  d (Fr.g f0 hg) hr3_) (by decide) (by decide) (by decide)
  rcases ite_some h with ⟨hc5_, h⟩ | ⟨hc5_, h⟩
  · obtain ⟨rfl, rfl⟩ := ret_inj h
    exact fd1_
  · obtain ⟨r7_, d6_, hr8_, h⟩ := bd_some h
    have fd6_ : Fr wo_PB_feed [26] false d d6_ := Fr.tr fd1_ (fr_Pa_append p1 d1_ (Fr.g fd1_ hg) hr8_) (by decide) (by decide) (by decide)
    obtain ⟨r11_, d10_, hr12_, h⟩ := bd_some h
    have fd10_ : Fr wo_PB_feed [26] false d d10_ := Fr.tr fd6_ (fr_Pa_append p2 d6_ (Fr.g fd6_ hg) hr12_) (by decide) (by decide) (by decide)
    obtain ⟨r15_, d14_, hr16_, h⟩ := bd_some h
    have fd14_ : Fr wo_PB_feed [26] false d d14_ := Fr.tr fd10_ (fr_Pa_append p3 d10_ (Fr.g fd10_ hg) hr16_) (by decide) (by decide) (by decide)
    obtain ⟨r19_, d18_, hr20_, h⟩ := bd_some h
    have fd18_ : Fr wo_PB_feed [26] false d d18_ := Fr.tr fd14_ (fr_Pa_append p4 d14_ (Fr.g fd14_ hg) hr20_) (by decide) (by decide) (by decide)
    obtain ⟨r23_, d22_, hr24_, h⟩ := bd_some h
    have fd22_ : Fr wo_PB_feed [26] false d d22_ := Fr.tr fd18_ (fr_Pa_append p5 d18_ (Fr.g fd18_ hg) hr24_) (by decide) (by decide) (by decide)
    obtain ⟨r27_, d26_, hr28_, h⟩ := bd_some h
    have fd26_ : Fr wo_PB_feed [26] false d d26_ := Fr.tr fd22_ (fr_Pa_taped  d22_ (Fr.g fd22_ hg) hr28_) (by decide) (by decide) (by decide)
    obtain ⟨rfl, rfl⟩ := ret_inj h
    exact fd26_
/-! frames of La_isFull -/
def wo_La_isFull : List (Nat × Nat) := []
theorem fr_La_isFull {r : Int} {d' : Dt} (d : Dt) (hg : d GH 0 ≤ 6) (h : L_La_isFull d = some (r, d')) : Fr wo_La_isFull [] false d d' := by
  have f0 : Fr wo_La_isFull [] false d d := Fr.rfl
  unfold L_La_isFull at h
  rcases ite_some h with ⟨hc2_, h⟩ | ⟨hc2_, h⟩
  · obtain ⟨rfl, rfl⟩ := ret_inj h
    exact f0
  · obtain ⟨rfl, rfl⟩ := ret_inj h
    exact f0
/-! frames of St_clear -/
def wo_St_clear : List (Nat × Nat) := []
theorem fr_St_clear {r : Int} {d' : Dt} (this : Int) (d : Dt) (hg : d GH 0 ≤ 6) (h : L_St_clear this d = some (r, d')) : Fr wo_St_clear [] true d d' := by
  have f0 : Fr wo_St_clear [] true d d := Fr.rfl
  unfold L_St_clear at h
  obtain ⟨hs1_, h⟩ := ck_some h
  obtain ⟨hs2_, h⟩ := ck_some h
  obtain ⟨rfl, rfl⟩ := ret_inj h
  exact (Fr.upd (Fr.upd f0 hg hs1_ (by decide)) hg hs2_ (by decide))
/-! frames of Pa_isLetter -/
def wo_Pa_isLetter : List (Nat × Nat) := []
theorem fr_Pa_isLetter {r : Int} {d' : Dt} (p1 : Int) (d : Dt) (hg : d GH 0 ≤ 6) (h : L_Pa_isLetter p1 d = some (r, d')) : Fr wo_Pa_isLetter [] false d d' := by
  have f0 : Fr wo_Pa_isLetter [] false d d := Fr.rfl
  unfold L_Pa_isLetter at h
  rcases ite_some h with ⟨hc1_, h⟩ | ⟨hc1_, h⟩
  · obtain ⟨rfl, rfl⟩ := ret_inj h
    exact f0
  · rcases ite_some h with ⟨hc2_, h⟩ | ⟨hc2_, h⟩
    · obtain ⟨rfl, rfl⟩ := ret_inj h
      exact f0
    · obtain ⟨rfl, rfl⟩ := ret_inj h
      exact f0
/-! frames of Pa_isDigit -/
def wo_Pa_isDigit : List (Nat × Nat) := []
theorem fr_Pa_isDigit {r : Int} {d' : Dt} (p1 : Int) (d : Dt) (hg : d GH 0 ≤ 6) (h : L_Pa_isDigit p1 d = some (r, d')) : Fr wo_Pa_isDigit [] false d d' := by
  have f0 : Fr wo_Pa_isDigit [] false d d := Fr.rfl
  unfold L_Pa_isDigit at h
  rcases ite_some h with ⟨hc1_, h⟩ | ⟨hc1_, h⟩
  · obtain ⟨rfl, rfl⟩ := ret_inj h
    exact f0
  · rcases ite_some h with ⟨hc2_, h⟩ | ⟨hc2_, h⟩
    · obtain ⟨rfl, rfl⟩ := ret_inj h
      exact f0
    · obtain ⟨rfl, rfl⟩ := ret_inj h
      exact f0
/-! frames of Pa_endOfRun -/
def wo_Pa_endOfRun : List (Nat × Nat) := []
def he_Pa_endOfRun_31 (q : (Int × Dt)) : Dt := q.2
def hb_Pa_endOfRun_31 (o : (Int × Int × Int × Dt) ⊕ ((Int × Dt))) : Dt := match o with
  | .inl q => q.2.2.2
  | .inr r => he_Pa_endOfRun_31 r
theorem fr_Pa_endOfRun_b70 {o : (Int × Int × Int × Dt) ⊕ ((Int × Dt))} (x2 x3 x4 : Int) (d : Dt) (hg : d GH 0 ≤ 6) (h : L_Pa_endOfRun_b70 x2 x3 x4 d = some o) : Fr wo_Pa_endOfRun [] false d (hb_Pa_endOfRun_31 o) := by
  have f0 : Fr wo_Pa_endOfRun [] false d d := Fr.rfl
  unfold L_Pa_endOfRun_b70 at h
  obtain rfl := Option.some.inj h
  exact f0
theorem fr_Pa_endOfRun_y31 {o : (Int × Int × Int × Dt) ⊕ ((Int × Dt))} (x2 x3 x4 : Int) (d : Dt) (hg : d GH 0 ≤ 6) (h : L_Pa_endOfRun_y31 x2 x3 x4 d = some o) : Fr wo_Pa_endOfRun [] false d (hb_Pa_endOfRun_31 o) := by
  have f0 : Fr wo_Pa_endOfRun [] false d d := Fr.rfl
  unfold L_Pa_endOfRun_y31 at h
  rcases ite_some h with ⟨hc1_, h⟩ | ⟨hc1_, h⟩
  · rcases ite_some h with ⟨hc2_, h⟩ | ⟨hc2_, h⟩
    · obtain ⟨hb3_, h⟩ := ck_some h
      obtain ⟨r6_, d5_, hr7_, h⟩ := bd_some h
      have fd5_ : Fr wo_Pa_endOfRun [] false d d5_ := Fr.tr f0 (fr_Pa_isDigit (d 26 x4.toNat) d (Fr.g f0 hg) hr7_) (by decide) (by decide) (by decide)
      rcases ite_some h with ⟨hc9_, h⟩ | ⟨hc9_, h⟩
      · obtain rfl := Option.some.inj h
        exact fd5_
      · exact Fr.tr0 fd5_ (fr_Pa_endOfRun_b70 x2 x3 x4 d5_ (Fr.g fd5_ hg) h)
    · obtain ⟨hb10_, h⟩ := ck_some h
      obtain ⟨r13_, d12_, hr14_, h⟩ := bd_some h
      have fd12_ : Fr wo_Pa_endOfRun [] false d d12_ := Fr.tr f0 (fr_Pa_isLetter (d 26 x4.toNat) d (Fr.g f0 hg) hr14_) (by decide) (by decide) (by decide)
      rcases ite_some h with ⟨hc16_, h⟩ | ⟨hc16_, h⟩
      · obtain rfl := Option.some.inj h
        exact fd12_
      · exact Fr.tr0 fd12_ (fr_Pa_endOfRun_b70 x2 x3 x4 d12_ (Fr.g fd12_ hg) h)
  · obtain rfl := Option.some.inj h
    exact f0
theorem fr_Pa_endOfRun_l31 {x : (Int × Dt)} (x2 x3 x4 : Int) (d : Dt) (hg : d GH 0 ≤ 6) (h : L_Pa_endOfRun_l31 x2 x3 x4 d = some x) : Fr wo_Pa_endOfRun [] false d (he_Pa_endOfRun_31 x) :=
  lpF_fr (f := fun q : Int × Int × Int × Dt => L_Pa_endOfRun_y31 q.1 q.2.1 q.2.2.1 q.2.2.2) (fun q => q.2.2.2) he_Pa_endOfRun_31 (fun q x hq hx => ⟨fun q2 e2 => by subst e2; exact fr_Pa_endOfRun_y31 q.1 q.2.1 q.2.2.1 q.2.2.2 hq hx, fun r2 e2 => by subst e2; exact fr_Pa_endOfRun_y31 q.1 q.2.1 q.2.2.1 q.2.2.2 hq hx⟩) FU _ x hg h
theorem fr_Pa_endOfRun {r : Int} {d' : Dt} (p1 p2 : Int) (d : Dt) (hg : d GH 0 ≤ 6) (h : L_Pa_endOfRun p1 p2 d = some (r, d')) : Fr wo_Pa_endOfRun [] false d d' := by
  have f0 : Fr wo_Pa_endOfRun [] false d d := Fr.rfl
  unfold L_Pa_endOfRun at h
  obtain ⟨hb17_, h⟩ := ck_some h
  obtain ⟨r20_, d19_, hr21_, h⟩ := bd_some h
  have fd19_ : Fr wo_Pa_endOfRun [] false d d19_ := Fr.tr f0 (fr_Pa_isLetter (d 26 p1.toNat) d (Fr.g f0 hg) hr21_) (by decide) (by decide) (by decide)
  obtain ⟨v23_, ev24_, h⟩ := lt_some h
  rcases ite_some h with ⟨hc26_, h⟩ | ⟨hc26_, h⟩
  · obtain ⟨hb27_, h⟩ := ck_some h
    obtain ⟨r30_, d29_, hr31_, h⟩ := bd_some h
    have fd29_ : Fr wo_Pa_endOfRun [] false d d29_ := Fr.tr fd19_ (fr_Pa_isDigit (d19_ 26 p1.toNat) d19_ (Fr.g fd19_ hg) hr31_) (by decide) (by decide) (by decide)
    rcases ite_some h with ⟨hc33_, h⟩ | ⟨hc33_, h⟩
    · obtain ⟨rfl, rfl⟩ := ret_inj h
      exact fd29_
    · obtain ⟨x34_, hx35_, h⟩ := lb_some h
      have fx34_ := Fr.tr0 fd29_ (fr_Pa_endOfRun_l31 p2 r20_ v23_ d29_ (Fr.g fd29_ hg) hx35_)
      obtain ⟨v36_, d37_⟩ := x34_
      have fd37_ : Fr wo_Pa_endOfRun [] false d d37_ := fx34_
      replace h := u1_e h
      obtain ⟨rfl, rfl⟩ := ret_inj h
      exact fd37_
  · obtain ⟨x40_, hx41_, h⟩ := lb_some h
    have fx40_ := Fr.tr0 fd19_ (fr_Pa_endOfRun_l31 p2 r20_ v23_ d19_ (Fr.g fd19_ hg) hx41_)
    obtain ⟨v42_, d43_⟩ := x40_
    have fd43_ : Fr wo_Pa_endOfRun [] false d d43_ := fx40_
    replace h := u1_e h
    obtain ⟨rfl, rfl⟩ := ret_inj h
    exact fd43_
/-! frames of Pa_indexIn -/
def wo_Pa_indexIn : List (Nat × Nat) := []
def he_Pa_indexIn_2 (r : (Dt) ⊕ (Int × Dt)) : Dt := match r with
  | .inl q => q
  | .inr q => q.2
def hb_Pa_indexIn_2 (o : (Int × Int × Int × Dt) ⊕ ((Dt) ⊕ (Int × Dt))) : Dt := match o with
  | .inl q => q.2.2.2
  | .inr r => he_Pa_indexIn_2 r
theorem fr_Pa_indexIn_y2 {o : (Int × Int × Int × Dt) ⊕ ((Dt) ⊕ (Int × Dt))} (x0 x1 x3 : Int) (d : Dt) (hg : d GH 0 ≤ 6) (h : L_Pa_indexIn_y2 x0 x1 x3 d = some o) : Fr wo_Pa_indexIn [] false d (hb_Pa_indexIn_2 o) := by
  have f0 : Fr wo_Pa_indexIn [] false d d := Fr.rfl
  unfold L_Pa_indexIn_y2 at h
  obtain ⟨hs1_, h⟩ := ck_some h
  rcases ite_some h with ⟨hc2_, h⟩ | ⟨hc2_, h⟩
  · obtain ⟨hs3_, h⟩ := ck_some h
    obtain ⟨hb4_, h⟩ := ck_some h
    rcases ite_some h with ⟨hc6_, h⟩ | ⟨hc6_, h⟩
    · obtain rfl := Option.some.inj h
      exact f0
    · obtain rfl := Option.some.inj h
      exact f0
  · obtain rfl := Option.some.inj h
    exact f0
theorem fr_Pa_indexIn_l2 {x : (Dt) ⊕ (Int × Dt)} (x0 x1 x3 : Int) (d : Dt) (hg : d GH 0 ≤ 6) (h : L_Pa_indexIn_l2 x0 x1 x3 d = some x) : Fr wo_Pa_indexIn [] false d (he_Pa_indexIn_2 x) :=
  lpF_fr (f := fun q : Int × Int × Int × Dt => L_Pa_indexIn_y2 q.1 q.2.1 q.2.2.1 q.2.2.2) (fun q => q.2.2.2) he_Pa_indexIn_2 (fun q x hq hx => ⟨fun q2 e2 => by subst e2; exact fr_Pa_indexIn_y2 q.1 q.2.1 q.2.2.1 q.2.2.2 hq hx, fun r2 e2 => by subst e2; exact fr_Pa_indexIn_y2 q.1 q.2.1 q.2.2.1 q.2.2.2 hq hx⟩) FU _ x hg h
theorem fr_Pa_indexIn {r : Int} {d' : Dt} (p1 p2 : Int) (d : Dt) (hg : d GH 0 ≤ 6) (h : L_Pa_indexIn p1 p2 d = some (r, d')) : Fr wo_Pa_indexIn [] false d d' := by
  have f0 : Fr wo_Pa_indexIn [] false d d := Fr.rfl
  unfold L_Pa_indexIn at h
  obtain ⟨x7_, hx8_, h⟩ := lb_some h
  have fx7_ := Fr.tr0 f0 (fr_Pa_indexIn_l2 p1 p2 0 d (Fr.g f0 hg) hx8_)
  rcases x7_ with d9_ | ⟨v11_, d12_⟩
  · have fd9_ : Fr wo_Pa_indexIn [] false d d9_ := fx7_
    replace h := sml_e h
    replace h := u0_e h
    obtain ⟨rfl, rfl⟩ := ret_inj h
    exact fd9_
  · have fd12_ : Fr wo_Pa_indexIn [] false d d12_ := fx7_
    replace h := smr_e h
    replace h := u1_e h
    obtain ⟨rfl, rfl⟩ := ret_inj h
    exact fd12_
/-! frames of Pa_scanWord -/
def wo_Pa_scanWord : List (Nat × Nat) := []
def he_Pa_scanWord_22 (q : (Int × Int × Dt)) : Dt := q.2.2
def hb_Pa_scanWord_22 (o : (Int × Int × Int × Int × Dt) ⊕ ((Int × Int × Dt))) : Dt := match o with
  | .inl q => q.2.2.2.2
  | .inr r => he_Pa_scanWord_22 r
theorem fr_Pa_scanWord_y22 {o : (Int × Int × Int × Int × Dt) ⊕ ((Int × Int × Dt))} (x1 x3 x4 x6 : Int) (d : Dt) (hg : d GH 0 ≤ 6) (h : L_Pa_scanWord_y22 x1 x3 x4 x6 d = some o) : Fr wo_Pa_scanWord [27, 28] false d (hb_Pa_scanWord_22 o) := by
  have f0 : Fr wo_Pa_scanWord [27, 28] false d d := Fr.rfl
  unfold L_Pa_scanWord_y22 at h
  rcases ite_some h with ⟨hc1_, h⟩ | ⟨hc1_, h⟩
  · obtain ⟨hb2_, h⟩ := ck_some h
    obtain ⟨v4_, ev5_, h⟩ := lt_some h
    obtain rfl := Option.some.inj h
    exact f0
  · obtain rfl := Option.some.inj h
    exact f0
theorem fr_Pa_scanWord_l22 {x : (Int × Int × Dt)} (x1 x3 x4 x6 : Int) (d : Dt) (hg : d GH 0 ≤ 6) (h : L_Pa_scanWord_l22 x1 x3 x4 x6 d = some x) : Fr wo_Pa_scanWord [27, 28] false d (he_Pa_scanWord_22 x) :=
  lpF_fr (f := fun q : Int × Int × Int × Int × Dt => L_Pa_scanWord_y22 q.1 q.2.1 q.2.2.1 q.2.2.2.1 q.2.2.2.2) (fun q => q.2.2.2.2) he_Pa_scanWord_22 (fun q x hq hx => ⟨fun q2 e2 => by subst e2; exact fr_Pa_scanWord_y22 q.1 q.2.1 q.2.2.1 q.2.2.2.1 q.2.2.2.2 hq hx, fun r2 e2 => by subst e2; exact fr_Pa_scanWord_y22 q.1 q.2.1 q.2.2.1 q.2.2.2.1 q.2.2.2.2 hq hx⟩) FU _ x hg h
theorem fr_Pa_scanWord_b131 {r : Int} {d' : Dt} (s1 s2 : Int) (d : Dt) (hg : d GH 0 ≤ 6) (h : L_Pa_scanWord_b131 s1 s2 d = some (r, d')) : Fr wo_Pa_scanWord [27, 28] false d d' := by
  have f0 : Fr wo_Pa_scanWord [27, 28] false d d := Fr.rfl
  unfold L_Pa_scanWord_b131 at h
  obtain ⟨hb7_, h⟩ := ck_some h
  obtain ⟨rfl, rfl⟩ := ret_inj h
  exact (Fr.upa f0 rfl (by decide))
theorem fr_Pa_scanWord_b111 {r : Int} {d' : Dt} (x1 x4 x7 s1 s2 : Int) (d : Dt) (hg : d GH 0 ≤ 6) (h : L_Pa_scanWord_b111 x1 x4 x7 s1 s2 d = some (r, d')) : Fr wo_Pa_scanWord [27, 28] false d d' := by
  have f0 : Fr wo_Pa_scanWord [27, 28] false d d := Fr.rfl
  unfold L_Pa_scanWord_b111 at h
  obtain ⟨hb8_, h⟩ := ck_some h
  rcases ite_some h with ⟨hc9_, h⟩ | ⟨hc9_, h⟩
  · exact Fr.tr0 (Fr.upa f0 rfl (by decide)) (fr_Pa_scanWord_b131 x1 x4 (up2 d 27 s1.toNat s2) (Fr.g (Fr.upa f0 rfl (by decide)) hg) h)
  · exact Fr.tr0 (Fr.upa f0 rfl (by decide)) (fr_Pa_scanWord_b131 x1 x7 (up2 d 27 s1.toNat s2) (Fr.g (Fr.upa f0 rfl (by decide)) hg) h)
theorem fr_Pa_scanWord {r : Int} {d' : Dt} (p1 p2 p3 : Int) (d : Dt) (hg : d GH 0 ≤ 6) (h : L_Pa_scanWord p1 p2 p3 d = some (r, d')) : Fr wo_Pa_scanWord [27, 28] false d d' := by
  have f0 : Fr wo_Pa_scanWord [27, 28] false d d := Fr.rfl
  unfold L_Pa_scanWord at h
  rcases ite_some h with ⟨hc10_, h⟩ | ⟨hc10_, h⟩
  · obtain ⟨hb11_, h⟩ := ck_some h
    obtain ⟨rfl, rfl⟩ := ret_inj h
    exact (Fr.upa f0 rfl (by decide))
  · obtain ⟨x12_, hx13_, h⟩ := lb_some h
    have fx12_ := Fr.tr0 f0 (fr_Pa_scanWord_l22 p1 p3 0 p2 d (Fr.g f0 hg) hx13_)
    obtain ⟨v14_, v15_, d16_⟩ := x12_
    have fd16_ : Fr wo_Pa_scanWord [27, 28] false d d16_ := fx12_
    replace h := u2_e h
    obtain ⟨r19_, d18_, hr20_, h⟩ := bd_some h
    have fd18_ : Fr wo_Pa_scanWord [27, 28] false d d18_ := Fr.tr fd16_ (fr_Pa_indexIn 1000001 v15_ d16_ (Fr.g fd16_ hg) hr20_) (by decide) (by decide) (by decide)
    obtain ⟨r23_, d22_, hr24_, h⟩ := bd_some h
    have fd22_ : Fr wo_Pa_scanWord [27, 28] false d d22_ := Fr.tr fd18_ (fr_Pa_indexIn 1000002 v15_ d18_ (Fr.g fd18_ hg) hr24_) (by decide) (by decide) (by decide)
    rcases ite_some h with ⟨hc26_, h⟩ | ⟨hc26_, h⟩
    · rcases ite_some h with ⟨hc27_, h⟩ | ⟨hc27_, h⟩
      · exact Fr.tr0 fd22_ (fr_Pa_scanWord_b111 v14_ v15_ r23_ v14_ 3 d22_ (Fr.g fd22_ hg) h)
      · exact Fr.tr0 fd22_ (fr_Pa_scanWord_b111 v14_ v15_ r23_ v14_ 4 d22_ (Fr.g fd22_ hg) h)
    · obtain ⟨hb28_, h⟩ := ck_some h
      obtain ⟨rfl, rfl⟩ := ret_inj h
      exact (Fr.upa fd22_ rfl (by decide))
/-! frames of Pa_scanToken -/
def wo_Pa_scanToken : List (Nat × Nat) := []
def he_Pa_scanToken_62 (q : (Dt)) : Dt := q
def hb_Pa_scanToken_62 (o : (Int × Int × Int × Dt) ⊕ ((Dt))) : Dt := match o with
  | .inl q => q.2.2.2
  | .inr r => he_Pa_scanToken_62 r
theorem fr_Pa_scanToken_y62 {o : (Int × Int × Int × Dt) ⊕ ((Dt))} (x1 x3 x5 : Int) (d : Dt) (hg : d GH 0 ≤ 6) (h : L_Pa_scanToken_y62 x1 x3 x5 d = some o) : Fr wo_Pa_scanToken [27, 28] false d (hb_Pa_scanToken_62 o) := by
  have f0 : Fr wo_Pa_scanToken [27, 28] false d d := Fr.rfl
  unfold L_Pa_scanToken_y62 at h
  rcases ite_some h with ⟨hc1_, h⟩ | ⟨hc1_, h⟩
  · obtain ⟨hb2_, h⟩ := ck_some h
    obtain ⟨hb4_, h⟩ := ck_some h
    obtain ⟨hb6_, h⟩ := ck_some h
    obtain rfl := Option.some.inj h
    exact (Fr.upa f0 rfl (by decide))
  · obtain rfl := Option.some.inj h
    exact f0
theorem fr_Pa_scanToken_l62 {x : (Dt)} (x1 x3 x5 : Int) (d : Dt) (hg : d GH 0 ≤ 6) (h : L_Pa_scanToken_l62 x1 x3 x5 d = some x) : Fr wo_Pa_scanToken [27, 28] false d (he_Pa_scanToken_62 x) :=
  lpF_fr (f := fun q : Int × Int × Int × Dt => L_Pa_scanToken_y62 q.1 q.2.1 q.2.2.1 q.2.2.2) (fun q => q.2.2.2) he_Pa_scanToken_62 (fun q x hq hx => ⟨fun q2 e2 => by subst e2; exact fr_Pa_scanToken_y62 q.1 q.2.1 q.2.2.1 q.2.2.2 hq hx, fun r2 e2 => by subst e2; exact fr_Pa_scanToken_y62 q.1 q.2.1 q.2.2.1 q.2.2.2 hq hx⟩) FU _ x hg h
theorem fr_Pa_scanToken_b164 {r : Int} {d' : Dt} (s1 s2 : Int) (d : Dt) (hg : d GH 0 ≤ 6) (h : L_Pa_scanToken_b164 s1 s2 d = some (r, d')) : Fr wo_Pa_scanToken [27, 28] false d d' := by
  have f0 : Fr wo_Pa_scanToken [27, 28] false d d := Fr.rfl
  unfold L_Pa_scanToken_b164 at h
  obtain ⟨hb7_, h⟩ := ck_some h
  obtain ⟨rfl, rfl⟩ := ret_inj h
  exact (Fr.upa f0 rfl (by decide))
theorem fr_Pa_scanToken_b146 {r : Int} {d' : Dt} (x1 x4 s0 : Int) (d : Dt) (hg : d GH 0 ≤ 6) (h : L_Pa_scanToken_b146 x1 x4 s0 d = some (r, d')) : Fr wo_Pa_scanToken [27, 28] false d d' := by
  have f0 : Fr wo_Pa_scanToken [27, 28] false d d := Fr.rfl
  unfold L_Pa_scanToken_b146 at h
  rcases ite_some h with ⟨hc8_, h⟩ | ⟨hc8_, h⟩
  · exact Fr.tr0 f0 (fr_Pa_scanToken_b164 x1 1 d (Fr.g f0 hg) h)
  · exact Fr.tr0 f0 (fr_Pa_scanToken_b164 x1 x4 d (Fr.g f0 hg) h)
theorem fr_Pa_scanToken_b120 {r : Int} {d' : Dt} (x1 x4 : Int) (d : Dt) (hg : d GH 0 ≤ 6) (h : L_Pa_scanToken_b120 x1 x4 d = some (r, d')) : Fr wo_Pa_scanToken [27, 28] false d d' := by
  have f0 : Fr wo_Pa_scanToken [27, 28] false d d := Fr.rfl
  unfold L_Pa_scanToken_b120 at h
  rcases ite_some h with ⟨hc9_, h⟩ | ⟨hc9_, h⟩
  · exact Fr.tr0 f0 (fr_Pa_scanToken_b146 x1 x4 1 d (Fr.g f0 hg) h)
  · rcases ite_some h with ⟨hc10_, h⟩ | ⟨hc10_, h⟩
    · exact Fr.tr0 f0 (fr_Pa_scanToken_b146 x1 x4 0 d (Fr.g f0 hg) h)
    · rcases ite_some h with ⟨hc11_, h⟩ | ⟨hc11_, h⟩
      · exact Fr.tr0 f0 (fr_Pa_scanToken_b146 x1 x4 0 d (Fr.g f0 hg) h)
      · exact Fr.tr0 f0 (fr_Pa_scanToken_b146 x1 x4 1 d (Fr.g f0 hg) h)
theorem fr_Pa_scanToken_b58 {r : Int} {d' : Dt} (x1 x2 x3 s1 s2 : Int) (d : Dt) (hg : d GH 0 ≤ 6) (h : L_Pa_scanToken_b58 x1 x2 x3 s1 s2 d = some (r, d')) : Fr wo_Pa_scanToken [27, 28] false d d' := by
  have f0 : Fr wo_Pa_scanToken [27, 28] false d d := Fr.rfl
  unfold L_Pa_scanToken_b58 at h
  obtain ⟨hb12_, h⟩ := ck_some h
  obtain ⟨x13_, hx14_, h⟩ := lb_some h
  have fx13_ := Fr.tr0 (Fr.upa f0 rfl (by decide)) (fr_Pa_scanToken_l62 x1 x3 x2 (up2 d 27 s1.toNat s2) (Fr.g (Fr.upa f0 rfl (by decide)) hg) hx14_)
  obtain ⟨d15_, rfl⟩ : ∃ z, z = x13_ := ⟨_, rfl⟩
  have fd15_ : Fr wo_Pa_scanToken [27, 28] false d d15_ := fx13_
  replace h := u0_e h
  obtain ⟨rfl, rfl⟩ := ret_inj h
  exact fd15_
theorem fr_Pa_scanToken {r : Int} {d' : Dt} (p1 p2 p3 : Int) (d : Dt) (hg : d GH 0 ≤ 6) (h : L_Pa_scanToken p1 p2 p3 d = some (r, d')) : Fr wo_Pa_scanToken [27, 28] false d d' := by
  have f0 : Fr wo_Pa_scanToken [27, 28] false d d := Fr.rfl
  unfold L_Pa_scanToken at h
  obtain ⟨hb18_, h⟩ := ck_some h
  obtain ⟨v20_, ev21_, h⟩ := lt_some h
  obtain ⟨hb23_, h⟩ := ck_some h
  obtain ⟨r25_, d24_, hr26_, h⟩ := bd_some h
  have fd24_ : Fr wo_Pa_scanToken [27, 28] false d d24_ := Fr.tr (Fr.upa f0 rfl (by decide)) (fr_Pa_isLetter v20_ (up2 d 28 p1.toNat 0) (Fr.g (Fr.upa f0 rfl (by decide)) hg) hr26_) (by decide) (by decide) (by decide)
  rcases ite_some h with ⟨hc28_, h⟩ | ⟨hc28_, h⟩
  · obtain ⟨r30_, d29_, hr31_, h⟩ := bd_some h
    have fd29_ : Fr wo_Pa_scanToken [27, 28] false d d29_ := Fr.tr fd24_ (fr_Pa_isDigit v20_ d24_ (Fr.g fd24_ hg) hr31_) (by decide) (by decide) (by decide)
    rcases ite_some h with ⟨hc33_, h⟩ | ⟨hc33_, h⟩
    · rcases ite_some h with ⟨hc34_, h⟩ | ⟨hc34_, h⟩
      · exact Fr.tr0 fd29_ (fr_Pa_scanToken_b120 p1 v20_ d29_ (Fr.g fd29_ hg) h)
      · rcases ite_some h with ⟨hc35_, h⟩ | ⟨hc35_, h⟩
        · exact Fr.tr0 fd29_ (fr_Pa_scanToken_b120 p1 v20_ d29_ (Fr.g fd29_ hg) h)
        · exact Fr.tr0 fd29_ (fr_Pa_scanToken_b146 p1 v20_ 1 d29_ (Fr.g fd29_ hg) h)
    · rcases ite_some h with ⟨hc36_, h⟩ | ⟨hc36_, h⟩
      · exact Fr.tr0 fd29_ (fr_Pa_scanToken_b58 p1 p2 p3 p1 1 d29_ (Fr.g fd29_ hg) h)
      · exact Fr.tr0 fd29_ (fr_Pa_scanToken_b58 p1 p2 p3 p1 2 d29_ (Fr.g fd29_ hg) h)
  · obtain ⟨r38_, d37_, hr39_, h⟩ := bd_some h
    have fd37_ : Fr wo_Pa_scanToken [27, 28] false d d37_ := Fr.tr fd24_ (fr_Pa_scanWord p1 p2 p3 d24_ (Fr.g fd24_ hg) hr39_) (by decide) (by decide) (by decide)
    obtain ⟨rfl, rfl⟩ := ret_inj h
    exact fd37_
/-! frames of Pa_scan -/
def wo_Pa_scan : List (Nat × Nat) := []
def he_Pa_scan_7 (q : (Int × Int × Dt)) : Dt := q.2.2
def hb_Pa_scan_7 (o : (Int × Int × Int × Int × Dt) ⊕ ((Int × Int × Dt))) : Dt := match o with
  | .inl q => q.2.2.2.2
  | .inr r => he_Pa_scan_7 r
theorem fr_Pa_scan_b75 {o : (Int × Int × Int × Int × Dt) ⊕ ((Int × Int × Dt))} (x1 x2 x3 x4 : Int) (d : Dt) (hg : d GH 0 ≤ 6) (h : L_Pa_scan_b75 x1 x2 x3 x4 d = some o) : Fr wo_Pa_scan [27, 28, 29] false d (hb_Pa_scan_7 o) := by
  have f0 : Fr wo_Pa_scan [27, 28, 29] false d d := Fr.rfl
  unfold L_Pa_scan_b75 at h
  obtain rfl := Option.some.inj h
  exact f0
theorem fr_Pa_scan_b40 {o : (Int × Int × Int × Int × Dt) ⊕ ((Int × Int × Dt))} (x1 x2 x3 x4 : Int) (d : Dt) (hg : d GH 0 ≤ 6) (h : L_Pa_scan_b40 x1 x2 x3 x4 d = some o) : Fr wo_Pa_scan [27, 28, 29] false d (hb_Pa_scan_7 o) := by
  have f0 : Fr wo_Pa_scan [27, 28, 29] false d d := Fr.rfl
  unfold L_Pa_scan_b40 at h
  exact Fr.tr0 f0 (fr_Pa_scan_b75 x1 x2 (w32 (x3 + 1)) x4 d (Fr.g f0 hg) h)
theorem fr_Pa_scan_y7 {o : (Int × Int × Int × Int × Dt) ⊕ ((Int × Int × Dt))} (x1 x2 x3 x4 : Int) (d : Dt) (hg : d GH 0 ≤ 6) (h : L_Pa_scan_y7 x1 x2 x3 x4 d = some o) : Fr wo_Pa_scan [27, 28, 29] false d (hb_Pa_scan_7 o) := by
  have f0 : Fr wo_Pa_scan [27, 28, 29] false d d := Fr.rfl
  unfold L_Pa_scan_y7 at h
  rcases ite_some h with ⟨hc1_, h⟩ | ⟨hc1_, h⟩
  · rcases ite_some h with ⟨hc2_, h⟩ | ⟨hc2_, h⟩
    · obtain ⟨hb3_, h⟩ := ck_some h
      obtain ⟨v5_, ev6_, h⟩ := lt_some h
      rcases ite_some h with ⟨hc8_, h⟩ | ⟨hc8_, h⟩
      · exact Fr.tr0 f0 (fr_Pa_scan_b40 x1 x2 x3 x4 d (Fr.g f0 hg) h)
      · rcases ite_some h with ⟨hc9_, h⟩ | ⟨hc9_, h⟩
        · exact Fr.tr0 f0 (fr_Pa_scan_b40 x1 x2 x3 x4 d (Fr.g f0 hg) h)
        · obtain ⟨r11_, d10_, hr12_, h⟩ := bd_some h
          have fd10_ : Fr wo_Pa_scan [27, 28, 29] false d d10_ := Fr.tr f0 (fr_Pa_endOfRun x3 x1 d (Fr.g f0 hg) hr12_) (by decide) (by decide) (by decide)
          obtain ⟨hb14_, h⟩ := ck_some h
          obtain ⟨r16_, d15_, hr17_, h⟩ := bd_some h
          have fd15_ : Fr wo_Pa_scan [27, 28, 29] false d d15_ := Fr.tr (Fr.upa fd10_ rfl (by decide)) (fr_Pa_scanToken x2 x3 r11_ (up2 d10_ 29 x2.toNat x3) (Fr.g (Fr.upa fd10_ rfl (by decide)) hg) hr17_) (by decide) (by decide) (by decide)
          exact Fr.tr0 fd15_ (fr_Pa_scan_b75 x1 (w32 (x2 + 1)) r11_ x4 d15_ (Fr.g fd15_ hg) h)
    · obtain rfl := Option.some.inj h
      exact f0
  · obtain rfl := Option.some.inj h
    exact f0
theorem fr_Pa_scan_l7 {x : (Int × Int × Dt)} (x1 x2 x3 x4 : Int) (d : Dt) (hg : d GH 0 ≤ 6) (h : L_Pa_scan_l7 x1 x2 x3 x4 d = some x) : Fr wo_Pa_scan [27, 28, 29] false d (he_Pa_scan_7 x) :=
  lpF_fr (f := fun q : Int × Int × Int × Int × Dt => L_Pa_scan_y7 q.1 q.2.1 q.2.2.1 q.2.2.2.1 q.2.2.2.2) (fun q => q.2.2.2.2) he_Pa_scan_7 (fun q x hq hx => ⟨fun q2 e2 => by subst e2; exact fr_Pa_scan_y7 q.1 q.2.1 q.2.2.1 q.2.2.2.1 q.2.2.2.2 hq hx, fun r2 e2 => by subst e2; exact fr_Pa_scan_y7 q.1 q.2.1 q.2.2.1 q.2.2.2.1 q.2.2.2.2 hq hx⟩) FU _ x hg h
theorem fr_Pa_scan_b81 {r : Int} {d' : Dt} (x1 x2 : Int) (d : Dt) (hg : d GH 0 ≤ 6) (h : L_Pa_scan_b81 x1 x2 d = some (r, d')) : Fr wo_Pa_scan [27, 28, 29] false d d' := by
  have f0 : Fr wo_Pa_scan [27, 28, 29] false d d := Fr.rfl
  unfold L_Pa_scan_b81 at h
  obtain ⟨hb19_, h⟩ := ck_some h
  obtain ⟨hb20_, h⟩ := ck_some h
  obtain ⟨rfl, rfl⟩ := ret_inj h
  exact (Fr.upa (Fr.upa f0 rfl (by decide)) rfl (by decide))
theorem fr_Pa_scan {r : Int} {d' : Dt} (p1 : Int) (d : Dt) (hg : d GH 0 ≤ 6) (h : L_Pa_scan p1 d = some (r, d')) : Fr wo_Pa_scan [27, 28, 29] false d d' := by
  have f0 : Fr wo_Pa_scan [27, 28, 29] false d d := Fr.rfl
  unfold L_Pa_scan at h
  obtain ⟨x21_, hx22_, h⟩ := lb_some h
  have fx21_ := Fr.tr0 f0 (fr_Pa_scan_l7 p1 0 0 0 d (Fr.g f0 hg) hx22_)
  obtain ⟨v23_, v24_, d25_⟩ := x21_
  have fd25_ : Fr wo_Pa_scan [27, 28, 29] false d d25_ := fx21_
  replace h := u2_e h
  exact Fr.tr0 fd25_ (fr_Pa_scan_b81 v23_ v24_ d25_ (Fr.g fd25_ hg) h)
/-! frames of Pa_kind -/
def wo_Pa_kind : List (Nat × Nat) := []
theorem fr_Pa_kind {r : Int} {d' : Dt} (d : Dt) (hg : d GH 0 ≤ 6) (h : L_Pa_kind d = some (r, d')) : Fr wo_Pa_kind [] false d d' := by
  have f0 : Fr wo_Pa_kind [] false d d := Fr.rfl
  unfold L_Pa_kind at h
  obtain ⟨hb2_, h⟩ := ck_some h
  obtain ⟨rfl, rfl⟩ := ret_inj h
  exact f0
/-! frames of Pa_refuse -/
def wo_Pa_refuse : List (Nat × Nat) := [(25, 7), (25, 8)]
theorem fr_Pa_refuse_b19 {r : Int} {d' : Dt} (s1 : Int) (d : Dt) (hg : d GH 0 ≤ 6) (h : L_Pa_refuse_b19 s1 d = some (r, d')) : Fr wo_Pa_refuse [] false d d' := by
  have f0 : Fr wo_Pa_refuse [] false d d := Fr.rfl
  unfold L_Pa_refuse_b19 at h
  obtain ⟨hb2_, h⟩ := ck_some h
  obtain ⟨rfl, rfl⟩ := ret_inj h
  exact (Fr.upo (Fr.upo f0 rfl (by decide)) rfl (by decide))
theorem fr_Pa_refuse {r : Int} {d' : Dt} (p1 : Int) (d : Dt) (hg : d GH 0 ≤ 6) (h : L_Pa_refuse p1 d = some (r, d')) : Fr wo_Pa_refuse [] false d d' := by
  have f0 : Fr wo_Pa_refuse [] false d d := Fr.rfl
  unfold L_Pa_refuse at h
  obtain ⟨hb5_, h⟩ := ck_some h
  rcases ite_some h with ⟨hc7_, h⟩ | ⟨hc7_, h⟩
  · exact Fr.tr0 f0 (fr_Pa_refuse_b19 1 d (Fr.g f0 hg) h)
  · exact Fr.tr0 f0 (fr_Pa_refuse_b19 p1 d (Fr.g f0 hg) h)
/-! frames of St_hasLabel -/
def wo_St_hasLabel : List (Nat × Nat) := []
def he_St_hasLabel_2 (r : (Dt) ⊕ (Dt)) : Dt := match r with
  | .inl q => q
  | .inr q => q
def hb_St_hasLabel_2 (o : (Int × Int × Int × Dt) ⊕ ((Dt) ⊕ (Dt))) : Dt := match o with
  | .inl q => q.2.2.2
  | .inr r => he_St_hasLabel_2 r
theorem fr_St_hasLabel_y2 {o : (Int × Int × Int × Dt) ⊕ ((Dt) ⊕ (Dt))} (x0 x1 x3 : Int) (d : Dt) (hg : d GH 0 ≤ 6) (h : L_St_hasLabel_y2 x0 x1 x3 d = some o) : Fr wo_St_hasLabel [] false d (hb_St_hasLabel_2 o) := by
  have f0 : Fr wo_St_hasLabel [] false d d := Fr.rfl
  unfold L_St_hasLabel_y2 at h
  obtain ⟨hs1_, h⟩ := ck_some h
  rcases ite_some h with ⟨hc3_, h⟩ | ⟨hc3_, h⟩
  · obtain ⟨hs4_, h⟩ := ck_some h
    obtain ⟨hs5_, h⟩ := ck_some h
    obtain ⟨hb6_, h⟩ := ck_some h
    rcases ite_some h with ⟨hc8_, h⟩ | ⟨hc8_, h⟩
    · obtain rfl := Option.some.inj h
      exact f0
    · obtain rfl := Option.some.inj h
      exact f0
  · obtain rfl := Option.some.inj h
    exact f0
theorem fr_St_hasLabel_l2 {x : (Dt) ⊕ (Dt)} (x0 x1 x3 : Int) (d : Dt) (hg : d GH 0 ≤ 6) (h : L_St_hasLabel_l2 x0 x1 x3 d = some x) : Fr wo_St_hasLabel [] false d (he_St_hasLabel_2 x) :=
  lpF_fr (f := fun q : Int × Int × Int × Dt => L_St_hasLabel_y2 q.1 q.2.1 q.2.2.1 q.2.2.2) (fun q => q.2.2.2) he_St_hasLabel_2 (fun q x hq hx => ⟨fun q2 e2 => by subst e2; exact fr_St_hasLabel_y2 q.1 q.2.1 q.2.2.1 q.2.2.2 hq hx, fun r2 e2 => by subst e2; exact fr_St_hasLabel_y2 q.1 q.2.1 q.2.2.1 q.2.2.2 hq hx⟩) FU _ x hg h
theorem fr_St_hasLabel {r : Int} {d' : Dt} (this p1 : Int) (d : Dt) (hg : d GH 0 ≤ 6) (h : L_St_hasLabel this p1 d = some (r, d')) : Fr wo_St_hasLabel [] false d d' := by
  have f0 : Fr wo_St_hasLabel [] false d d := Fr.rfl
  unfold L_St_hasLabel at h
  obtain ⟨x9_, hx10_, h⟩ := lb_some h
  have fx9_ := Fr.tr0 f0 (fr_St_hasLabel_l2 this p1 0 d (Fr.g f0 hg) hx10_)
  rcases x9_ with d11_ | d13_
  · have fd11_ : Fr wo_St_hasLabel [] false d d11_ := fx9_
    replace h := sml_e h
    replace h := u0_e h
    obtain ⟨rfl, rfl⟩ := ret_inj h
    exact fd11_
  · have fd13_ : Fr wo_St_hasLabel [] false d d13_ := fx9_
    replace h := smr_e h
    replace h := u0_e h
    obtain ⟨rfl, rfl⟩ := ret_inj h
    exact fd13_
/-! frames of Pa_next -/
def wo_Pa_next : List (Nat × Nat) := [(25, 5)]
theorem fr_Pa_next {r : Int} {d' : Dt} (d : Dt) (hg : d GH 0 ≤ 6) (h : L_Pa_next d = some (r, d')) : Fr wo_Pa_next [] false d d' := by
  have f0 : Fr wo_Pa_next [] false d d := Fr.rfl
  unfold L_Pa_next at h
  obtain ⟨hb2_, h⟩ := ck_some h
  rcases ite_some h with ⟨hc4_, h⟩ | ⟨hc4_, h⟩
  · obtain ⟨rfl, rfl⟩ := ret_inj h
    exact f0
  · rcases ite_some h with ⟨hc6_, h⟩ | ⟨hc6_, h⟩
    · obtain ⟨rfl, rfl⟩ := ret_inj h
      exact (Fr.upo f0 rfl (by decide))
    · obtain ⟨rfl, rfl⟩ := ret_inj h
      exact f0
/-! frames of Pa_passes -/
def wo_Pa_passes : List (Nat × Nat) := [(25, 5), (25, 7), (25, 8)]
theorem fr_Pa_passes {r : Int} {d' : Dt} (p1 : Int) (d : Dt) (hg : d GH 0 ≤ 6) (h : L_Pa_passes p1 d = some (r, d')) : Fr wo_Pa_passes [] false d d' := by
  have f0 : Fr wo_Pa_passes [] false d d := Fr.rfl
  unfold L_Pa_passes at h
  obtain ⟨hb2_, h⟩ := ck_some h
  rcases ite_some h with ⟨hc4_, h⟩ | ⟨hc4_, h⟩
  · obtain ⟨r6_, d5_, hr7_, h⟩ := bd_some h
    have fd5_ : Fr wo_Pa_passes [] false d d5_ := Fr.tr f0 (fr_Pa_next  d (Fr.g f0 hg) hr7_) (by decide) (by decide) (by decide)
    obtain ⟨rfl, rfl⟩ := ret_inj h
    exact fd5_
  · obtain ⟨r10_, d9_, hr11_, h⟩ := bd_some h
    have fd9_ : Fr wo_Pa_passes [] false d d9_ := Fr.tr f0 (fr_Pa_refuse 2 d (Fr.g f0 hg) hr11_) (by decide) (by decide) (by decide)
    obtain ⟨rfl, rfl⟩ := ret_inj h
    exact fd9_
/-! frames of St_openRule -/
def wo_St_openRule : List (Nat × Nat) := []
theorem fr_St_openRule {r : Int} {d' : Dt} (this p1 p2 : Int) (d : Dt) (hg : d GH 0 ≤ 6) (h : L_St_openRule this p1 p2 d = some (r, d')) : Fr wo_St_openRule [] true d d' := by
  have f0 : Fr wo_St_openRule [] true d d := Fr.rfl
  unfold L_St_openRule at h
  obtain ⟨hs1_, h⟩ := ck_some h
  rcases ite_some h with ⟨hc3_, h⟩ | ⟨hc3_, h⟩
  · obtain ⟨hs4_, h⟩ := ck_some h
    obtain ⟨hs5_, h⟩ := ck_some h
    obtain ⟨hs7_, h⟩ := ck_some h
    obtain ⟨hb8_, h⟩ := ck_some h
    obtain ⟨hs9_, h⟩ := ck_some h
    obtain ⟨hs10_, h⟩ := ck_some h
    obtain ⟨hs12_, h⟩ := ck_some h
    obtain ⟨hb13_, h⟩ := ck_some h
    obtain ⟨rfl, rfl⟩ := ret_inj h
    exact (Fr.upd (Fr.upd f0 hg hs7_ (by decide)) hg hs12_ (by decide))
  · obtain ⟨rfl, rfl⟩ := ret_inj h
    exact f0
/-! frames of Pa_takeLabels -/
def wo_Pa_takeLabels : List (Nat × Nat) := [(25, 5), (25, 7), (25, 8)]
theorem fr_Pa_takeLabels_b98 {r : Int} {d' : Dt} (x1 x3 : Int) (d : Dt) (hg : d GH 0 ≤ 6) (h : L_Pa_takeLabels_b98 x1 x3 d = some (r, d')) : Fr wo_Pa_takeLabels [] true d d' := by
  have f0 : Fr wo_Pa_takeLabels [] true d d := Fr.rfl
  unfold L_Pa_takeLabels_b98 at h
  obtain ⟨hs4_, h⟩ := ck_some h
  obtain ⟨r2_, d1_, hr3_, h⟩ := bd_some h
  have fd1_ : Fr wo_Pa_takeLabels [] true d d1_ := Fr.tr f0 (fr_St_openRule (d 25 6) x1 x3 d (Fr.g f0 hg) hr3_) (by decide) (by decide) (by decide)
  obtain ⟨rfl, rfl⟩ := ret_inj h
  exact fd1_
theorem fr_Pa_takeLabels {r : Int} {d' : Dt} (d : Dt) (hg : d GH 0 ≤ 6) (h : L_Pa_takeLabels d = some (r, d')) : Fr wo_Pa_takeLabels [] true d d' := by
  have f0 : Fr wo_Pa_takeLabels [] true d d := Fr.rfl
  unfold L_Pa_takeLabels at h
  obtain ⟨hb7_, h⟩ := ck_some h
  obtain ⟨v9_, ev10_, h⟩ := lt_some h
  obtain ⟨r13_, d12_, hr14_, h⟩ := bd_some h
  have fd12_ : Fr wo_Pa_takeLabels [] true d d12_ := Fr.tr f0 (fr_Pa_kind  d (Fr.g f0 hg) hr14_) (by decide) (by decide) (by decide)
  rcases ite_some h with ⟨hc16_, h⟩ | ⟨hc16_, h⟩
  · obtain ⟨hs17_, h⟩ := ck_some h
    rcases ite_some h with ⟨hc19_, h⟩ | ⟨hc19_, h⟩
    · obtain ⟨hs23_, h⟩ := ck_some h
      obtain ⟨r21_, d20_, hr22_, h⟩ := bd_some h
      have fd20_ : Fr wo_Pa_takeLabels [] true d d20_ := Fr.tr fd12_ (fr_St_hasLabel (d12_ 25 6) v9_ d12_ (Fr.g fd12_ hg) hr22_) (by decide) (by decide) (by decide)
      rcases ite_some h with ⟨hc25_, h⟩ | ⟨hc25_, h⟩
      · obtain ⟨r27_, d26_, hr28_, h⟩ := bd_some h
        have fd26_ : Fr wo_Pa_takeLabels [] true d d26_ := Fr.tr fd20_ (fr_Pa_next  d20_ (Fr.g fd20_ hg) hr28_) (by decide) (by decide) (by decide)
        obtain ⟨r31_, d30_, hr32_, h⟩ := bd_some h
        have fd30_ : Fr wo_Pa_takeLabels [] true d d30_ := Fr.tr fd26_ (fr_Pa_kind  d26_ (Fr.g fd26_ hg) hr32_) (by decide) (by decide) (by decide)
        rcases ite_some h with ⟨hc34_, h⟩ | ⟨hc34_, h⟩
        · obtain ⟨r36_, d35_, hr37_, h⟩ := bd_some h
          have fd35_ : Fr wo_Pa_takeLabels [] true d d35_ := Fr.tr fd30_ (fr_Pa_next  d30_ (Fr.g fd30_ hg) hr37_) (by decide) (by decide) (by decide)
          obtain ⟨hb40_, h⟩ := ck_some h
          obtain ⟨v42_, ev43_, h⟩ := lt_some h
          obtain ⟨r46_, d45_, hr47_, h⟩ := bd_some h
          have fd45_ : Fr wo_Pa_takeLabels [] true d d45_ := Fr.tr fd35_ (fr_Pa_passes 3 d35_ (Fr.g fd35_ hg) hr47_) (by decide) (by decide) (by decide)
          rcases ite_some h with ⟨hc49_, h⟩ | ⟨hc49_, h⟩
          · obtain ⟨rfl, rfl⟩ := ret_inj h
            exact fd45_
          · exact Fr.tr0 fd45_ (fr_Pa_takeLabels_b98 v9_ v42_ d45_ (Fr.g fd45_ hg) h)
        · exact Fr.tr0 fd30_ (fr_Pa_takeLabels_b98 v9_ 0 d30_ (Fr.g fd30_ hg) h)
      · obtain ⟨r51_, d50_, hr52_, h⟩ := bd_some h
        have fd50_ : Fr wo_Pa_takeLabels [] true d d50_ := Fr.tr fd20_ (fr_Pa_refuse 4 d20_ (Fr.g fd20_ hg) hr52_) (by decide) (by decide) (by decide)
        obtain ⟨rfl, rfl⟩ := ret_inj h
        exact fd50_
    · obtain ⟨r55_, d54_, hr56_, h⟩ := bd_some h
      have fd54_ : Fr wo_Pa_takeLabels [] true d d54_ := Fr.tr fd12_ (fr_Pa_refuse 3 d12_ (Fr.g fd12_ hg) hr56_) (by decide) (by decide) (by decide)
      obtain ⟨rfl, rfl⟩ := ret_inj h
      exact fd54_
  · obtain ⟨r59_, d58_, hr60_, h⟩ := bd_some h
    have fd58_ : Fr wo_Pa_takeLabels [] true d d58_ := Fr.tr fd12_ (fr_Pa_refuse 2 d12_ (Fr.g fd12_ hg) hr60_) (by decide) (by decide) (by decide)
    obtain ⟨rfl, rfl⟩ := ret_inj h
    exact fd58_
/-! frames of St_addCode -/
def wo_St_addCode : List (Nat × Nat) := []
theorem fr_St_addCode {r : Int} {d' : Dt} (this p1 : Int) (d : Dt) (hg : d GH 0 ≤ 6) (h : L_St_addCode this p1 d = some (r, d')) : Fr wo_St_addCode [] true d d' := by
  have f0 : Fr wo_St_addCode [] true d d := Fr.rfl
  unfold L_St_addCode at h
  obtain ⟨hs1_, h⟩ := ck_some h
  obtain ⟨hs3_, h⟩ := ck_some h
  obtain ⟨hs4_, h⟩ := ck_some h
  rcases ite_some h with ⟨hc5_, h⟩ | ⟨hc5_, h⟩
  · obtain ⟨hs6_, h⟩ := ck_some h
    obtain ⟨hs7_, h⟩ := ck_some h
    obtain ⟨hs9_, h⟩ := ck_some h
    obtain ⟨hb10_, h⟩ := ck_some h
    obtain ⟨hs11_, h⟩ := ck_some h
    obtain ⟨hs13_, h⟩ := ck_some h
    obtain ⟨rfl, rfl⟩ := ret_inj h
    exact (Fr.upd (Fr.upd f0 hg hs9_ (by decide)) hg hs13_ (by decide))
  · obtain ⟨rfl, rfl⟩ := ret_inj h
    exact f0
def wo_Pa_rec : List (Nat × Nat) := [(25, 5), (25, 7), (25, 8)]
/-! frames of Pa_takeAtom -/
def wo_Pa_takeAtom : List (Nat × Nat) := wo_Pa_rec
theorem fr_Pa_takeAtom_b44 (rec : Int → Dt → Option (Int × Dt)) {r : Int} {d' : Dt} (s0 s1 : Int) (d : Dt) (hg : d GH 0 ≤ 6) (hrec : ∀ (q : Int) (e : Dt) (r : Int) (e' : Dt), e GH 0 ≤ 6 → rec q e = some (r, e') → Fr wo_Pa_takeAtom [] true e e') (h : L_Pa_takeAtom_b44 rec s0 s1 d = some (r, d')) : Fr wo_Pa_takeAtom [] true d d' := by
  have f0 : Fr wo_Pa_takeAtom [] true d d := Fr.rfl
  unfold L_Pa_takeAtom_b44 at h
  obtain ⟨hs4_, h⟩ := ck_some h
  obtain ⟨r2_, d1_, hr3_, h⟩ := bd_some h
  have fd1_ : Fr wo_Pa_takeAtom [] true d d1_ := Fr.tr f0 (fr_St_addCode s0 s1 d (Fr.g f0 hg) hr3_) (by decide) (by decide) (by decide)
  obtain ⟨r7_, d6_, hr8_, h⟩ := bd_some h
  have fd6_ : Fr wo_Pa_takeAtom [] true d d6_ := Fr.tr fd1_ (fr_Pa_next  d1_ (Fr.g fd1_ hg) hr8_) (by decide) (by decide) (by decide)
  obtain ⟨rfl, rfl⟩ := ret_inj h
  exact fd6_
theorem fr_Pa_takeAtom_b15 (rec : Int → Dt → Option (Int × Dt)) {r : Int} {d' : Dt} (x2 : Int) (d : Dt) (hg : d GH 0 ≤ 6) (hrec : ∀ (q : Int) (e : Dt) (r : Int) (e' : Dt), e GH 0 ≤ 6 → rec q e = some (r, e') → Fr wo_Pa_takeAtom [] true e e') (h : L_Pa_takeAtom_b15 rec x2 d = some (r, d')) : Fr wo_Pa_takeAtom [] true d d' := by
  have f0 : Fr wo_Pa_takeAtom [] true d d := Fr.rfl
  unfold L_Pa_takeAtom_b15 at h
  obtain ⟨hb11_, h⟩ := ck_some h
  obtain ⟨v13_, ev14_, h⟩ := lt_some h
  rcases ite_some h with ⟨hc16_, h⟩ | ⟨hc16_, h⟩
  · exact Fr.tr0 f0 (fr_Pa_takeAtom_b44 rec (d 25 6) (w32 (128 + v13_)) d (Fr.g f0 hg) hrec h)
  · exact Fr.tr0 f0 (fr_Pa_takeAtom_b44 rec (d 25 6) v13_ d (Fr.g f0 hg) hrec h)
theorem fr_Pa_takeAtom (rec : Int → Dt → Option (Int × Dt)) {r : Int} {d' : Dt} (p1 : Int) (d : Dt) (hg : d GH 0 ≤ 6) (hrec : ∀ (q : Int) (e : Dt) (r : Int) (e' : Dt), e GH 0 ≤ 6 → rec q e = some (r, e') → Fr wo_Pa_takeAtom [] true e e') (h : L_Pa_takeAtom rec p1 d = some (r, d')) : Fr wo_Pa_takeAtom [] true d d' := by
  have f0 : Fr wo_Pa_takeAtom [] true d d := Fr.rfl
  unfold L_Pa_takeAtom at h
  obtain ⟨r18_, d17_, hr19_, h⟩ := bd_some h
  have fd17_ : Fr wo_Pa_takeAtom [] true d d17_ := Fr.tr f0 (fr_Pa_kind  d (Fr.g f0 hg) hr19_) (by decide) (by decide) (by decide)
  rcases ite_some h with ⟨hc21_, h⟩ | ⟨hc21_, h⟩
  · exact Fr.tr0 fd17_ (fr_Pa_takeAtom_b15 rec r18_ d17_ (Fr.g fd17_ hg) hrec h)
  · rcases ite_some h with ⟨hc22_, h⟩ | ⟨hc22_, h⟩
    · exact Fr.tr0 fd17_ (fr_Pa_takeAtom_b15 rec r18_ d17_ (Fr.g fd17_ hg) hrec h)
    · rcases ite_some h with ⟨hc23_, h⟩ | ⟨hc23_, h⟩
      · rcases ite_some h with ⟨hc24_, h⟩ | ⟨hc24_, h⟩
        · obtain ⟨r26_, d25_, hr27_, h⟩ := bd_some h
          have fd25_ : Fr wo_Pa_takeAtom [] true d d25_ := Fr.tr fd17_ (fr_Pa_next  d17_ (Fr.g fd17_ hg) hr27_) (by decide) (by decide) (by decide)
          obtain ⟨r30_, d29_, hr31_, h⟩ := bd_some h
          have fd29_ := Fr.tr0 fd25_ (hrec (w32 (p1 + 1)) d25_ _ _ (Fr.g fd25_ hg) hr31_)
          rcases ite_some h with ⟨hc33_, h⟩ | ⟨hc33_, h⟩
          · obtain ⟨rfl, rfl⟩ := ret_inj h
            exact fd29_
          · obtain ⟨r35_, d34_, hr36_, h⟩ := bd_some h
            have fd34_ : Fr wo_Pa_takeAtom [] true d d34_ := Fr.tr fd29_ (fr_Pa_kind  d29_ (Fr.g fd29_ hg) hr36_) (by decide) (by decide) (by decide)
            rcases ite_some h with ⟨hc38_, h⟩ | ⟨hc38_, h⟩
            · obtain ⟨r40_, d39_, hr41_, h⟩ := bd_some h
              have fd39_ : Fr wo_Pa_takeAtom [] true d d39_ := Fr.tr fd34_ (fr_Pa_next  d34_ (Fr.g fd34_ hg) hr41_) (by decide) (by decide) (by decide)
              obtain ⟨rfl, rfl⟩ := ret_inj h
              exact fd39_
            · obtain ⟨r44_, d43_, hr45_, h⟩ := bd_some h
              have fd43_ : Fr wo_Pa_takeAtom [] true d d43_ := Fr.tr fd34_ (fr_Pa_refuse 2 d34_ (Fr.g fd34_ hg) hr45_) (by decide) (by decide) (by decide)
              obtain ⟨rfl, rfl⟩ := ret_inj h
              exact fd43_
        · obtain ⟨r48_, d47_, hr49_, h⟩ := bd_some h
          have fd47_ : Fr wo_Pa_takeAtom [] true d d47_ := Fr.tr fd17_ (fr_Pa_refuse 5 d17_ (Fr.g fd17_ hg) hr49_) (by decide) (by decide) (by decide)
          obtain ⟨rfl, rfl⟩ := ret_inj h
          exact fd47_
      · obtain ⟨r52_, d51_, hr53_, h⟩ := bd_some h
        have fd51_ : Fr wo_Pa_takeAtom [] true d d51_ := Fr.tr fd17_ (fr_Pa_refuse 2 d17_ (Fr.g fd17_ hg) hr53_) (by decide) (by decide) (by decide)
        obtain ⟨rfl, rfl⟩ := ret_inj h
        exact fd51_
/-! frames of Pa_takeSum -/
def wo_Pa_takeSum : List (Nat × Nat) := wo_Pa_rec
def he_Pa_takeSum_7 (r : (Dt) ⊕ (Dt) ⊕ (Dt)) : Dt := match r with
  | .inl q => q
  | .inr (.inl q) => q
  | .inr (.inr q) => q
def hb_Pa_takeSum_7 (o : (Int × Int × Int × Int × Dt) ⊕ ((Dt) ⊕ (Dt) ⊕ (Dt))) : Dt := match o with
  | .inl q => q.2.2.2.2
  | .inr r => he_Pa_takeSum_7 r
theorem fr_Pa_takeSum_b89 (rec : Int → Dt → Option (Int × Dt)) {o : (Int × Int × Int × Int × Dt) ⊕ ((Dt) ⊕ (Dt) ⊕ (Dt))} (x1 x2 x3 x4 : Int) (d : Dt) (hg : d GH 0 ≤ 6) (hrec : ∀ (q : Int) (e : Dt) (r : Int) (e' : Dt), e GH 0 ≤ 6 → rec q e = some (r, e') → Fr wo_Pa_takeSum [] true e e') (h : L_Pa_takeSum_b89 rec x1 x2 x3 x4 d = some o) : Fr wo_Pa_takeSum [] true d (hb_Pa_takeSum_7 o) := by
  have f0 : Fr wo_Pa_takeSum [] true d d := Fr.rfl
  unfold L_Pa_takeSum_b89 at h
  obtain ⟨r2_, d1_, hr3_, h⟩ := bd_some h
  have fd1_ : Fr wo_Pa_takeSum [] true d d1_ := Fr.tr f0 (fr_Pa_next  d (Fr.g f0 hg) hr3_) (by decide) (by decide) (by decide)
  obtain rfl := Option.some.inj h
  exact fd1_
theorem fr_Pa_takeSum_b70 (rec : Int → Dt → Option (Int × Dt)) {o : (Int × Int × Int × Int × Dt) ⊕ ((Dt) ⊕ (Dt) ⊕ (Dt))} (x1 x2 x4 : Int) (d : Dt) (hg : d GH 0 ≤ 6) (hrec : ∀ (q : Int) (e : Dt) (r : Int) (e' : Dt), e GH 0 ≤ 6 → rec q e = some (r, e') → Fr wo_Pa_takeSum [] true e e') (h : L_Pa_takeSum_b70 rec x1 x2 x4 d = some o) : Fr wo_Pa_takeSum [] true d (hb_Pa_takeSum_7 o) := by
  have f0 : Fr wo_Pa_takeSum [] true d d := Fr.rfl
  unfold L_Pa_takeSum_b70 at h
  obtain ⟨r6_, d5_, hr7_, h⟩ := bd_some h
  have fd5_ : Fr wo_Pa_takeSum [] true d d5_ := Fr.tr f0 (fr_Pa_kind  d (Fr.g f0 hg) hr7_) (by decide) (by decide) (by decide)
  rcases ite_some h with ⟨hc9_, h⟩ | ⟨hc9_, h⟩
  · exact Fr.tr0 fd5_ (fr_Pa_takeSum_b89 rec x1 x2 r6_ x4 d5_ (Fr.g fd5_ hg) hrec h)
  · rcases ite_some h with ⟨hc10_, h⟩ | ⟨hc10_, h⟩
    · exact Fr.tr0 fd5_ (fr_Pa_takeSum_b89 rec x1 x2 r6_ x4 d5_ (Fr.g fd5_ hg) hrec h)
    · obtain rfl := Option.some.inj h
      exact fd5_
theorem fr_Pa_takeSum_b52 (rec : Int → Dt → Option (Int × Dt)) {o : (Int × Int × Int × Int × Dt) ⊕ ((Dt) ⊕ (Dt) ⊕ (Dt))} (x1 x3 x4 s0 : Int) (d : Dt) (hg : d GH 0 ≤ 6) (hrec : ∀ (q : Int) (e : Dt) (r : Int) (e' : Dt), e GH 0 ≤ 6 → rec q e = some (r, e') → Fr wo_Pa_takeSum [] true e e') (h : L_Pa_takeSum_b52 rec x1 x3 x4 s0 d = some o) : Fr wo_Pa_takeSum [] true d (hb_Pa_takeSum_7 o) := by
  have f0 : Fr wo_Pa_takeSum [] true d d := Fr.rfl
  unfold L_Pa_takeSum_b52 at h
  rcases ite_some h with ⟨hc11_, h⟩ | ⟨hc11_, h⟩
  · rcases ite_some h with ⟨hc12_, h⟩ | ⟨hc12_, h⟩
    · exact Fr.tr0 f0 (fr_Pa_takeSum_b70 rec x1 s0 x4 d (Fr.g f0 hg) hrec h)
    · obtain ⟨hs16_, h⟩ := ck_some h
      obtain ⟨r14_, d13_, hr15_, h⟩ := bd_some h
      have fd13_ : Fr wo_Pa_takeSum [] true d d13_ := Fr.tr f0 (fr_St_addCode (d 25 6) x3 d (Fr.g f0 hg) hr15_) (by decide) (by decide) (by decide)
      exact Fr.tr0 fd13_ (fr_Pa_takeSum_b70 rec x1 s0 x4 d13_ (Fr.g fd13_ hg) hrec h)
  · exact Fr.tr0 f0 (fr_Pa_takeSum_b89 rec x1 s0 x3 x4 d (Fr.g f0 hg) hrec h)
theorem fr_Pa_takeSum_b38 (rec : Int → Dt → Option (Int × Dt)) {o : (Int × Int × Int × Int × Dt) ⊕ ((Dt) ⊕ (Dt) ⊕ (Dt))} (x1 x3 x4 : Int) (d : Dt) (hg : d GH 0 ≤ 6) (hrec : ∀ (q : Int) (e : Dt) (r : Int) (e' : Dt), e GH 0 ≤ 6 → rec q e = some (r, e') → Fr wo_Pa_takeSum [] true e e') (h : L_Pa_takeSum_b38 rec x1 x3 x4 d = some o) : Fr wo_Pa_takeSum [] true d (hb_Pa_takeSum_7 o) := by
  have f0 : Fr wo_Pa_takeSum [] true d d := Fr.rfl
  unfold L_Pa_takeSum_b38 at h
  obtain ⟨r19_, d18_, hr20_, h⟩ := bd_some h
  have fd18_ : Fr wo_Pa_takeSum [] true d d18_ := Fr.tr f0 (fr_Pa_kind  d (Fr.g f0 hg) hr20_) (by decide) (by decide) (by decide)
  rcases ite_some h with ⟨hc22_, h⟩ | ⟨hc22_, h⟩
  · exact Fr.tr0 fd18_ (fr_Pa_takeSum_b52 rec x1 x3 x4 1 d18_ (Fr.g fd18_ hg) hrec h)
  · exact Fr.tr0 fd18_ (fr_Pa_takeSum_b52 rec x1 x3 x4 0 d18_ (Fr.g fd18_ hg) hrec h)
theorem fr_Pa_takeSum_y7 (rec : Int → Dt → Option (Int × Dt)) {o : (Int × Int × Int × Int × Dt) ⊕ ((Dt) ⊕ (Dt) ⊕ (Dt))} (x1 x2 x3 x4 : Int) (d : Dt) (hg : d GH 0 ≤ 6) (hrec : ∀ (q : Int) (e : Dt) (r : Int) (e' : Dt), e GH 0 ≤ 6 → rec q e = some (r, e') → Fr wo_Pa_takeSum [] true e e') (h : L_Pa_takeSum_y7 rec x1 x2 x3 x4 d = some o) : Fr wo_Pa_takeSum [] true d (hb_Pa_takeSum_7 o) := by
  have f0 : Fr wo_Pa_takeSum [] true d d := Fr.rfl
  unfold L_Pa_takeSum_y7 at h
  rcases ite_some h with ⟨hc23_, h⟩ | ⟨hc23_, h⟩
  · obtain ⟨r25_, d24_, hr26_, h⟩ := bd_some h
    have fd24_ : Fr wo_Pa_takeSum [] true d d24_ := Fr.tr f0 (fr_Pa_takeAtom rec x1 d (Fr.g f0 hg) hrec hr26_) (by decide) (by decide) (by decide)
    rcases ite_some h with ⟨hc28_, h⟩ | ⟨hc28_, h⟩
    · obtain rfl := Option.some.inj h
      exact fd24_
    · rcases ite_some h with ⟨hc29_, h⟩ | ⟨hc29_, h⟩
      · exact Fr.tr0 fd24_ (fr_Pa_takeSum_b38 rec x1 x3 x4 d24_ (Fr.g fd24_ hg) hrec h)
      · obtain ⟨hs33_, h⟩ := ck_some h
        obtain ⟨r31_, d30_, hr32_, h⟩ := bd_some h
        have fd30_ : Fr wo_Pa_takeSum [] true d d30_ := Fr.tr fd24_ (fr_St_addCode (d24_ 25 6) 42 d24_ (Fr.g fd24_ hg) hr32_) (by decide) (by decide) (by decide)
        exact Fr.tr0 fd30_ (fr_Pa_takeSum_b38 rec x1 x3 x4 d30_ (Fr.g fd30_ hg) hrec h)
  · obtain rfl := Option.some.inj h
    exact f0
theorem fr_Pa_takeSum_l7 (rec : Int → Dt → Option (Int × Dt)) {x : (Dt) ⊕ (Dt) ⊕ (Dt)} (x1 x2 x3 x4 : Int) (d : Dt) (hg : d GH 0 ≤ 6) (hrec : ∀ (q : Int) (e : Dt) (r : Int) (e' : Dt), e GH 0 ≤ 6 → rec q e = some (r, e') → Fr wo_Pa_takeSum [] true e e') (h : L_Pa_takeSum_l7 rec x1 x2 x3 x4 d = some x) : Fr wo_Pa_takeSum [] true d (he_Pa_takeSum_7 x) :=
  lpF_fr (f := fun q : Int × Int × Int × Int × Dt => L_Pa_takeSum_y7 rec q.1 q.2.1 q.2.2.1 q.2.2.2.1 q.2.2.2.2) (fun q => q.2.2.2.2) he_Pa_takeSum_7 (fun q x hq hx => ⟨fun q2 e2 => by subst e2; exact fr_Pa_takeSum_y7 rec q.1 q.2.1 q.2.2.1 q.2.2.2.1 q.2.2.2.2 hq hrec hx, fun r2 e2 => by subst e2; exact fr_Pa_takeSum_y7 rec q.1 q.2.1 q.2.2.1 q.2.2.2.1 q.2.2.2.2 hq hrec hx⟩) FU _ x hg h
theorem fr_Pa_takeSum (rec : Int → Dt → Option (Int × Dt)) {r : Int} {d' : Dt} (p1 : Int) (d : Dt) (hg : d GH 0 ≤ 6) (hrec : ∀ (q : Int) (e : Dt) (r : Int) (e' : Dt), e GH 0 ≤ 6 → rec q e = some (r, e') → Fr wo_Pa_takeSum [] true e e') (h : L_Pa_takeSum rec p1 d = some (r, d')) : Fr wo_Pa_takeSum [] true d d' := by
  have f0 : Fr wo_Pa_takeSum [] true d d := Fr.rfl
  unfold L_Pa_takeSum at h
  obtain ⟨x35_, hx36_, h⟩ := lb_some h
  have fx35_ := Fr.tr0 f0 (fr_Pa_takeSum_l7 rec p1 0 (-1) 0 d (Fr.g f0 hg) hrec hx36_)
  rcases x35_ with d37_ | d43_ | d45_
  · have fd37_ : Fr wo_Pa_takeSum [] true d d37_ := fx35_
    replace h := sml_e h
    replace h := u0_e h
    obtain ⟨r40_, d39_, hr41_, h⟩ := bd_some h
    have fd39_ : Fr wo_Pa_takeSum [] true d d39_ := Fr.tr fd37_ (fr_Pa_refuse 2 d37_ (Fr.g fd37_ hg) hr41_) (by decide) (by decide) (by decide)
    obtain ⟨rfl, rfl⟩ := ret_inj h
    exact fd39_
  · have fd43_ : Fr wo_Pa_takeSum [] true d d43_ := fx35_
    replace h := smr_e h
    replace h := sml_e h
    replace h := u0_e h
    obtain ⟨rfl, rfl⟩ := ret_inj h
    exact fd43_
  · have fd45_ : Fr wo_Pa_takeSum [] true d d45_ := fx35_
    replace h := smr_e h
    replace h := smr_e h
    replace h := u0_e h
    obtain ⟨rfl, rfl⟩ := ret_inj h
    exact fd45_
def wo_Pa_TS : List (Nat × Nat) := wo_Pa_rec
theorem fr_TS : ∀ (n : Nat) (q : Int) (e : Dt) (r : Int) (e' : Dt), e GH 0 ≤ 6 → TS n q e = some (r, e') → Fr wo_Pa_rec [] true e e'
  | 0, _, _, _, _, _, h => by cases h
  | n + 1, q, e, r, e', hg, h => fr_Pa_takeSum (TS n) q e hg (fr_TS n) h
theorem fr_Pa_TS {r : Int} {e' : Dt} (q : Int) (e : Dt) (hg : e GH 0 ≤ 6) (h : L_Pa_TS q e = some (r, e')) : Fr wo_Pa_TS [] true e e' := fr_TS 8 q e r e' hg h
/-! frames of Pa_takeTest -/
def wo_Pa_takeTest : List (Nat × Nat) := [(25, 5), (25, 7), (25, 8)]
def he_Pa_takeTest_6 (r : (Dt) ⊕ (Dt) ⊕ (Dt) ⊕ (Dt) ⊕ (Dt)) : Dt := match r with
  | .inl q => q
  | .inr (.inl q) => q
  | .inr (.inr (.inl q)) => q
  | .inr (.inr (.inr (.inl q))) => q
  | .inr (.inr (.inr (.inr q))) => q
def hb_Pa_takeTest_6 (o : (Int × Int × Int × Dt) ⊕ ((Dt) ⊕ (Dt) ⊕ (Dt) ⊕ (Dt) ⊕ (Dt))) : Dt := match o with
  | .inl q => q.2.2.2
  | .inr r => he_Pa_takeTest_6 r
theorem fr_Pa_takeTest_b184 {o : (Int × Int × Int × Dt) ⊕ ((Dt) ⊕ (Dt) ⊕ (Dt) ⊕ (Dt) ⊕ (Dt))} (x1 x2 x3 : Int) (d : Dt) (hg : d GH 0 ≤ 6) (h : L_Pa_takeTest_b184 x1 x2 x3 d = some o) : Fr wo_Pa_takeTest [] true d (hb_Pa_takeTest_6 o) := by
  have f0 : Fr wo_Pa_takeTest [] true d d := Fr.rfl
  unfold L_Pa_takeTest_b184 at h
  obtain ⟨r2_, d1_, hr3_, h⟩ := bd_some h
  have fd1_ : Fr wo_Pa_takeTest [] true d d1_ := Fr.tr f0 (fr_Pa_next  d (Fr.g f0 hg) hr3_) (by decide) (by decide) (by decide)
  obtain rfl := Option.some.inj h
  exact fd1_
theorem fr_Pa_takeTest_b177 {o : (Int × Int × Int × Dt) ⊕ ((Dt) ⊕ (Dt) ⊕ (Dt) ⊕ (Dt) ⊕ (Dt))} (x1 x3 s0 : Int) (d : Dt) (hg : d GH 0 ≤ 6) (h : L_Pa_takeTest_b177 x1 x3 s0 d = some o) : Fr wo_Pa_takeTest [] true d (hb_Pa_takeTest_6 o) := by
  have f0 : Fr wo_Pa_takeTest [] true d d := Fr.rfl
  unfold L_Pa_takeTest_b177 at h
  rcases ite_some h with ⟨hc5_, h⟩ | ⟨hc5_, h⟩
  · obtain rfl := Option.some.inj h
    exact f0
  · exact Fr.tr0 f0 (fr_Pa_takeTest_b184 x1 s0 x3 d (Fr.g f0 hg) h)
theorem fr_Pa_takeTest_b163 {o : (Int × Int × Int × Dt) ⊕ ((Dt) ⊕ (Dt) ⊕ (Dt) ⊕ (Dt) ⊕ (Dt))} (x1 x3 : Int) (d : Dt) (hg : d GH 0 ≤ 6) (h : L_Pa_takeTest_b163 x1 x3 d = some o) : Fr wo_Pa_takeTest [] true d (hb_Pa_takeTest_6 o) := by
  have f0 : Fr wo_Pa_takeTest [] true d d := Fr.rfl
  unfold L_Pa_takeTest_b163 at h
  obtain ⟨r7_, d6_, hr8_, h⟩ := bd_some h
  have fd6_ : Fr wo_Pa_takeTest [] true d d6_ := Fr.tr f0 (fr_Pa_kind  d (Fr.g f0 hg) hr8_) (by decide) (by decide) (by decide)
  rcases ite_some h with ⟨hc10_, h⟩ | ⟨hc10_, h⟩
  · exact Fr.tr0 fd6_ (fr_Pa_takeTest_b177 x1 x3 1 d6_ (Fr.g fd6_ hg) h)
  · exact Fr.tr0 fd6_ (fr_Pa_takeTest_b177 x1 x3 0 d6_ (Fr.g fd6_ hg) h)
theorem fr_Pa_takeTest_b145 {o : (Int × Int × Int × Dt) ⊕ ((Dt) ⊕ (Dt) ⊕ (Dt) ⊕ (Dt) ⊕ (Dt))} (x2 x3 s0 : Int) (d : Dt) (hg : d GH 0 ≤ 6) (h : L_Pa_takeTest_b145 x2 x3 s0 d = some o) : Fr wo_Pa_takeTest [] true d (hb_Pa_takeTest_6 o) := by
  have f0 : Fr wo_Pa_takeTest [] true d d := Fr.rfl
  unfold L_Pa_takeTest_b145 at h
  rcases ite_some h with ⟨hc11_, h⟩ | ⟨hc11_, h⟩
  · rcases ite_some h with ⟨hc12_, h⟩ | ⟨hc12_, h⟩
    · exact Fr.tr0 f0 (fr_Pa_takeTest_b163 s0 x3 d (Fr.g f0 hg) h)
    · obtain ⟨hs16_, h⟩ := ck_some h
      obtain ⟨r14_, d13_, hr15_, h⟩ := bd_some h
      have fd13_ : Fr wo_Pa_takeTest [] true d d13_ := Fr.tr f0 (fr_St_addCode (d 25 6) 24 d (Fr.g f0 hg) hr15_) (by decide) (by decide) (by decide)
      exact Fr.tr0 fd13_ (fr_Pa_takeTest_b163 s0 x3 d13_ (Fr.g fd13_ hg) h)
  · exact Fr.tr0 f0 (fr_Pa_takeTest_b184 s0 x2 x3 d (Fr.g f0 hg) h)
theorem fr_Pa_takeTest_b131 {o : (Int × Int × Int × Dt) ⊕ ((Dt) ⊕ (Dt) ⊕ (Dt) ⊕ (Dt) ⊕ (Dt))} (x2 x3 : Int) (d : Dt) (hg : d GH 0 ≤ 6) (h : L_Pa_takeTest_b131 x2 x3 d = some o) : Fr wo_Pa_takeTest [] true d (hb_Pa_takeTest_6 o) := by
  have f0 : Fr wo_Pa_takeTest [] true d d := Fr.rfl
  unfold L_Pa_takeTest_b131 at h
  obtain ⟨r19_, d18_, hr20_, h⟩ := bd_some h
  have fd18_ : Fr wo_Pa_takeTest [] true d d18_ := Fr.tr f0 (fr_Pa_kind  d (Fr.g f0 hg) hr20_) (by decide) (by decide) (by decide)
  rcases ite_some h with ⟨hc22_, h⟩ | ⟨hc22_, h⟩
  · exact Fr.tr0 fd18_ (fr_Pa_takeTest_b145 x2 x3 1 d18_ (Fr.g fd18_ hg) h)
  · exact Fr.tr0 fd18_ (fr_Pa_takeTest_b145 x2 x3 0 d18_ (Fr.g fd18_ hg) h)
theorem fr_Pa_takeTest_b118 {o : (Int × Int × Int × Dt) ⊕ ((Dt) ⊕ (Dt) ⊕ (Dt) ⊕ (Dt) ⊕ (Dt))} (x1 x2 x3 : Int) (d : Dt) (hg : d GH 0 ≤ 6) (h : L_Pa_takeTest_b118 x1 x2 x3 d = some o) : Fr wo_Pa_takeTest [] true d (hb_Pa_takeTest_6 o) := by
  have f0 : Fr wo_Pa_takeTest [] true d d := Fr.rfl
  unfold L_Pa_takeTest_b118 at h
  rcases ite_some h with ⟨hc23_, h⟩ | ⟨hc23_, h⟩
  · exact Fr.tr0 f0 (fr_Pa_takeTest_b131 x2 x3 d (Fr.g f0 hg) h)
  · obtain ⟨hs27_, h⟩ := ck_some h
    obtain ⟨r25_, d24_, hr26_, h⟩ := bd_some h
    have fd24_ : Fr wo_Pa_takeTest [] true d d24_ := Fr.tr f0 (fr_St_addCode (d 25 6) 25 d (Fr.g f0 hg) hr26_) (by decide) (by decide) (by decide)
    exact Fr.tr0 fd24_ (fr_Pa_takeTest_b131 x2 x3 d24_ (Fr.g fd24_ hg) h)
theorem fr_Pa_takeTest_b81 {o : (Int × Int × Int × Dt) ⊕ ((Dt) ⊕ (Dt) ⊕ (Dt) ⊕ (Dt) ⊕ (Dt))} (x1 x2 x3 x4 x5 : Int) (d : Dt) (hg : d GH 0 ≤ 6) (h : L_Pa_takeTest_b81 x1 x2 x3 x4 x5 d = some o) : Fr wo_Pa_takeTest [] true d (hb_Pa_takeTest_6 o) := by
  have f0 : Fr wo_Pa_takeTest [] true d d := Fr.rfl
  unfold L_Pa_takeTest_b81 at h
  obtain ⟨r30_, d29_, hr31_, h⟩ := bd_some h
  have fd29_ : Fr wo_Pa_takeTest [] true d d29_ := Fr.tr f0 (fr_Pa_next  d (Fr.g f0 hg) hr31_) (by decide) (by decide) (by decide)
  obtain ⟨r34_, d33_, hr35_, h⟩ := bd_some h
  have fd33_ : Fr wo_Pa_takeTest [] true d d33_ := Fr.tr fd29_ (fr_Pa_TS 0 d29_ (Fr.g fd29_ hg) hr35_) (by decide) (by decide) (by decide)
  rcases ite_some h with ⟨hc37_, h⟩ | ⟨hc37_, h⟩
  · obtain rfl := Option.some.inj h
    exact fd33_
  · obtain ⟨hs41_, h⟩ := ck_some h
    obtain ⟨r39_, d38_, hr40_, h⟩ := bd_some h
    have fd38_ : Fr wo_Pa_takeTest [] true d d38_ := Fr.tr fd33_ (fr_St_addCode (d33_ 25 6) x5 d33_ (Fr.g fd33_ hg) hr40_) (by decide) (by decide) (by decide)
    rcases ite_some h with ⟨hc43_, h⟩ | ⟨hc43_, h⟩
    · exact Fr.tr0 fd38_ (fr_Pa_takeTest_b118 x1 x2 x3 d38_ (Fr.g fd38_ hg) h)
    · obtain ⟨hs47_, h⟩ := ck_some h
      obtain ⟨r45_, d44_, hr46_, h⟩ := bd_some h
      have fd44_ : Fr wo_Pa_takeTest [] true d d44_ := Fr.tr fd38_ (fr_St_addCode (d38_ 25 6) 26 d38_ (Fr.g fd38_ hg) hr46_) (by decide) (by decide) (by decide)
      exact Fr.tr0 fd44_ (fr_Pa_takeTest_b118 x1 x2 x3 d44_ (Fr.g fd44_ hg) h)
theorem fr_Pa_takeTest_b38 {o : (Int × Int × Int × Dt) ⊕ ((Dt) ⊕ (Dt) ⊕ (Dt) ⊕ (Dt) ⊕ (Dt))} (x1 x2 x3 x4 : Int) (d : Dt) (hg : d GH 0 ≤ 6) (h : L_Pa_takeTest_b38 x1 x2 x3 x4 d = some o) : Fr wo_Pa_takeTest [] true d (hb_Pa_takeTest_6 o) := by
  have f0 : Fr wo_Pa_takeTest [] true d d := Fr.rfl
  unfold L_Pa_takeTest_b38 at h
  obtain ⟨r50_, d49_, hr51_, h⟩ := bd_some h
  have fd49_ : Fr wo_Pa_takeTest [] true d d49_ := Fr.tr f0 (fr_Pa_TS 0 d (Fr.g f0 hg) hr51_) (by decide) (by decide) (by decide)
  rcases ite_some h with ⟨hc53_, h⟩ | ⟨hc53_, h⟩
  · obtain rfl := Option.some.inj h
    exact fd49_
  · obtain ⟨r55_, d54_, hr56_, h⟩ := bd_some h
    have fd54_ : Fr wo_Pa_takeTest [] true d d54_ := Fr.tr fd49_ (fr_Pa_kind  d49_ (Fr.g fd49_ hg) hr56_) (by decide) (by decide) (by decide)
    rcases ite_some h with ⟨hc58_, h⟩ | ⟨hc58_, h⟩
    · exact Fr.tr0 fd54_ (fr_Pa_takeTest_b81 x1 x2 x3 x4 r55_ d54_ (Fr.g fd54_ hg) h)
    · rcases ite_some h with ⟨hc59_, h⟩ | ⟨hc59_, h⟩
      · exact Fr.tr0 fd54_ (fr_Pa_takeTest_b81 x1 x2 x3 x4 r55_ d54_ (Fr.g fd54_ hg) h)
      · rcases ite_some h with ⟨hc60_, h⟩ | ⟨hc60_, h⟩
        · exact Fr.tr0 fd54_ (fr_Pa_takeTest_b81 x1 x2 x3 x4 r55_ d54_ (Fr.g fd54_ hg) h)
        · obtain rfl := Option.some.inj h
          exact fd54_
theorem fr_Pa_takeTest_b27 {o : (Int × Int × Int × Dt) ⊕ ((Dt) ⊕ (Dt) ⊕ (Dt) ⊕ (Dt) ⊕ (Dt))} (x1 x2 x3 s0 : Int) (d : Dt) (hg : d GH 0 ≤ 6) (h : L_Pa_takeTest_b27 x1 x2 x3 s0 d = some o) : Fr wo_Pa_takeTest [] true d (hb_Pa_takeTest_6 o) := by
  have f0 : Fr wo_Pa_takeTest [] true d d := Fr.rfl
  unfold L_Pa_takeTest_b27 at h
  rcases ite_some h with ⟨hc61_, h⟩ | ⟨hc61_, h⟩
  · exact Fr.tr0 f0 (fr_Pa_takeTest_b38 x1 x2 x3 s0 d (Fr.g f0 hg) h)
  · obtain ⟨r63_, d62_, hr64_, h⟩ := bd_some h
    have fd62_ : Fr wo_Pa_takeTest [] true d d62_ := Fr.tr f0 (fr_Pa_next  d (Fr.g f0 hg) hr64_) (by decide) (by decide) (by decide)
    exact Fr.tr0 fd62_ (fr_Pa_takeTest_b38 x1 x2 x3 s0 d62_ (Fr.g fd62_ hg) h)
theorem fr_Pa_takeTest_y6 {o : (Int × Int × Int × Dt) ⊕ ((Dt) ⊕ (Dt) ⊕ (Dt) ⊕ (Dt) ⊕ (Dt))} (x1 x2 x3 : Int) (d : Dt) (hg : d GH 0 ≤ 6) (h : L_Pa_takeTest_y6 x1 x2 x3 d = some o) : Fr wo_Pa_takeTest [] true d (hb_Pa_takeTest_6 o) := by
  have f0 : Fr wo_Pa_takeTest [] true d d := Fr.rfl
  unfold L_Pa_takeTest_y6 at h
  rcases ite_some h with ⟨hc66_, h⟩ | ⟨hc66_, h⟩
  · obtain ⟨r68_, d67_, hr69_, h⟩ := bd_some h
    have fd67_ : Fr wo_Pa_takeTest [] true d d67_ := Fr.tr f0 (fr_Pa_kind  d (Fr.g f0 hg) hr69_) (by decide) (by decide) (by decide)
    rcases ite_some h with ⟨hc71_, h⟩ | ⟨hc71_, h⟩
    · exact Fr.tr0 fd67_ (fr_Pa_takeTest_b27 x1 x2 x3 1 d67_ (Fr.g fd67_ hg) h)
    · exact Fr.tr0 fd67_ (fr_Pa_takeTest_b27 x1 x2 x3 0 d67_ (Fr.g fd67_ hg) h)
  · obtain rfl := Option.some.inj h
    exact f0
theorem fr_Pa_takeTest_l6 {x : (Dt) ⊕ (Dt) ⊕ (Dt) ⊕ (Dt) ⊕ (Dt)} (x1 x2 x3 : Int) (d : Dt) (hg : d GH 0 ≤ 6) (h : L_Pa_takeTest_l6 x1 x2 x3 d = some x) : Fr wo_Pa_takeTest [] true d (he_Pa_takeTest_6 x) :=
  lpF_fr (f := fun q : Int × Int × Int × Dt => L_Pa_takeTest_y6 q.1 q.2.1 q.2.2.1 q.2.2.2) (fun q => q.2.2.2) he_Pa_takeTest_6 (fun q x hq hx => ⟨fun q2 e2 => by subst e2; exact fr_Pa_takeTest_y6 q.1 q.2.1 q.2.2.1 q.2.2.2 hq hx, fun r2 e2 => by subst e2; exact fr_Pa_takeTest_y6 q.1 q.2.1 q.2.2.1 q.2.2.2 hq hx⟩) FU _ x hg h
theorem fr_Pa_takeTest {r : Int} {d' : Dt} (d : Dt) (hg : d GH 0 ≤ 6) (h : L_Pa_takeTest d = some (r, d')) : Fr wo_Pa_takeTest [] true d d' := by
  have f0 : Fr wo_Pa_takeTest [] true d d := Fr.rfl
  unfold L_Pa_takeTest at h
  obtain ⟨x72_, hx73_, h⟩ := lb_some h
  have fx72_ := Fr.tr0 f0 (fr_Pa_takeTest_l6 0 0 0 d (Fr.g f0 hg) hx73_)
  rcases x72_ with d74_ | d80_ | d82_ | d88_ | d90_
  · have fd74_ : Fr wo_Pa_takeTest [] true d d74_ := fx72_
    replace h := sml_e h
    replace h := u0_e h
    obtain ⟨r77_, d76_, hr78_, h⟩ := bd_some h
    have fd76_ : Fr wo_Pa_takeTest [] true d d76_ := Fr.tr fd74_ (fr_Pa_refuse 2 d74_ (Fr.g fd74_ hg) hr78_) (by decide) (by decide) (by decide)
    obtain ⟨rfl, rfl⟩ := ret_inj h
    exact fd76_
  · have fd80_ : Fr wo_Pa_takeTest [] true d d80_ := fx72_
    replace h := smr_e h
    replace h := sml_e h
    replace h := u0_e h
    obtain ⟨rfl, rfl⟩ := ret_inj h
    exact fd80_
  · have fd82_ : Fr wo_Pa_takeTest [] true d d82_ := fx72_
    replace h := smr_e h
    replace h := smr_e h
    replace h := sml_e h
    replace h := u0_e h
    obtain ⟨r85_, d84_, hr86_, h⟩ := bd_some h
    have fd84_ : Fr wo_Pa_takeTest [] true d d84_ := Fr.tr fd82_ (fr_Pa_refuse 2 d82_ (Fr.g fd82_ hg) hr86_) (by decide) (by decide) (by decide)
    obtain ⟨rfl, rfl⟩ := ret_inj h
    exact fd84_
  · have fd88_ : Fr wo_Pa_takeTest [] true d d88_ := fx72_
    replace h := smr_e h
    replace h := smr_e h
    replace h := smr_e h
    replace h := sml_e h
    replace h := u0_e h
    obtain ⟨rfl, rfl⟩ := ret_inj h
    exact fd88_
  · have fd90_ : Fr wo_Pa_takeTest [] true d d90_ := fx72_
    replace h := smr_e h
    replace h := smr_e h
    replace h := smr_e h
    replace h := smr_e h
    replace h := u0_e h
    obtain ⟨rfl, rfl⟩ := ret_inj h
    exact fd90_
/-! frames of St_closeRule -/
def wo_St_closeRule : List (Nat × Nat) := []
theorem fr_St_closeRule {r : Int} {d' : Dt} (this p1 p2 p3 : Int) (d : Dt) (hg : d GH 0 ≤ 6) (h : L_St_closeRule this p1 p2 p3 d = some (r, d')) : Fr wo_St_closeRule [] true d d' := by
  have f0 : Fr wo_St_closeRule [] true d d := Fr.rfl
  unfold L_St_closeRule at h
  obtain ⟨hs1_, h⟩ := ck_some h
  rcases ite_some h with ⟨hc3_, h⟩ | ⟨hc3_, h⟩
  · obtain ⟨hs4_, h⟩ := ck_some h
    obtain ⟨hs5_, h⟩ := ck_some h
    obtain ⟨hs7_, h⟩ := ck_some h
    obtain ⟨hb8_, h⟩ := ck_some h
    obtain ⟨hs9_, h⟩ := ck_some h
    obtain ⟨hs10_, h⟩ := ck_some h
    obtain ⟨hs12_, h⟩ := ck_some h
    obtain ⟨hb13_, h⟩ := ck_some h
    obtain ⟨hs14_, h⟩ := ck_some h
    obtain ⟨hs15_, h⟩ := ck_some h
    obtain ⟨hs17_, h⟩ := ck_some h
    obtain ⟨hb18_, h⟩ := ck_some h
    obtain ⟨hs19_, h⟩ := ck_some h
    obtain ⟨hs21_, h⟩ := ck_some h
    obtain ⟨rfl, rfl⟩ := ret_inj h
    exact (Fr.upd (Fr.upd (Fr.upd (Fr.upd f0 hg hs7_ (by decide)) hg hs12_ (by decide)) hg hs17_ (by decide)) hg hs21_ (by decide))
  · obtain ⟨rfl, rfl⟩ := ret_inj h
    exact f0
/-! frames of Pa_takeTests -/
def wo_Pa_takeTests : List (Nat × Nat) := [(25, 5), (25, 7), (25, 8)]
theorem fr_Pa_takeTests_b66 {r : Int} {d' : Dt} (x1 x2 : Int) (d : Dt) (hg : d GH 0 ≤ 6) (h : L_Pa_takeTests_b66 x1 x2 d = some (r, d')) : Fr wo_Pa_takeTests [] true d d' := by
  have f0 : Fr wo_Pa_takeTests [] true d d := Fr.rfl
  unfold L_Pa_takeTests_b66 at h
  obtain ⟨hs1_, h⟩ := ck_some h
  obtain ⟨hs6_, h⟩ := ck_some h
  obtain ⟨r4_, d3_, hr5_, h⟩ := bd_some h
  have fd3_ : Fr wo_Pa_takeTests [] true d d3_ := Fr.tr f0 (fr_St_closeRule (d 25 6) x1 x2 (d ((d 25 6).toNat + 0) 3) d (Fr.g f0 hg) hr5_) (by decide) (by decide) (by decide)
  obtain ⟨rfl, rfl⟩ := ret_inj h
  exact fd3_
theorem fr_Pa_takeTests {r : Int} {d' : Dt} (d : Dt) (hg : d GH 0 ≤ 6) (h : L_Pa_takeTests d = some (r, d')) : Fr wo_Pa_takeTests [] true d d' := by
  have f0 : Fr wo_Pa_takeTests [] true d d := Fr.rfl
  unfold L_Pa_takeTests at h
  obtain ⟨r9_, d8_, hr10_, h⟩ := bd_some h
  have fd8_ : Fr wo_Pa_takeTests [] true d d8_ := Fr.tr f0 (fr_Pa_kind  d (Fr.g f0 hg) hr10_) (by decide) (by decide) (by decide)
  obtain ⟨hs12_, h⟩ := ck_some h
  obtain ⟨v14_, ev15_, h⟩ := lt_some h
  obtain ⟨r18_, d17_, hr19_, h⟩ := bd_some h
  have fd17_ : Fr wo_Pa_takeTests [] true d d17_ := Fr.tr fd8_ (fr_Pa_next  d8_ (Fr.g fd8_ hg) hr19_) (by decide) (by decide) (by decide)
  obtain ⟨r22_, d21_, hr23_, h⟩ := bd_some h
  have fd21_ : Fr wo_Pa_takeTests [] true d d21_ := Fr.tr fd17_ (fr_Pa_takeTest  d17_ (Fr.g fd17_ hg) hr23_) (by decide) (by decide) (by decide)
  rcases ite_some h with ⟨hc25_, h⟩ | ⟨hc25_, h⟩
  · obtain ⟨rfl, rfl⟩ := ret_inj h
    exact fd21_
  · obtain ⟨r27_, d26_, hr28_, h⟩ := bd_some h
    have fd26_ : Fr wo_Pa_takeTests [] true d d26_ := Fr.tr fd21_ (fr_Pa_kind  d21_ (Fr.g fd21_ hg) hr28_) (by decide) (by decide) (by decide)
    rcases ite_some h with ⟨hc30_, h⟩ | ⟨hc30_, h⟩
    · obtain ⟨r32_, d31_, hr33_, h⟩ := bd_some h
      have fd31_ : Fr wo_Pa_takeTests [] true d d31_ := Fr.tr fd26_ (fr_Pa_next  d26_ (Fr.g fd26_ hg) hr33_) (by decide) (by decide) (by decide)
      obtain ⟨r36_, d35_, hr37_, h⟩ := bd_some h
      have fd35_ : Fr wo_Pa_takeTests [] true d d35_ := Fr.tr fd31_ (fr_Pa_takeTest  d31_ (Fr.g fd31_ hg) hr37_) (by decide) (by decide) (by decide)
      rcases ite_some h with ⟨hc39_, h⟩ | ⟨hc39_, h⟩
      · obtain ⟨rfl, rfl⟩ := ret_inj h
        exact fd35_
      · obtain ⟨hs43_, h⟩ := ck_some h
        obtain ⟨r41_, d40_, hr42_, h⟩ := bd_some h
        have fd40_ : Fr wo_Pa_takeTests [] true d d40_ := Fr.tr fd35_ (fr_St_addCode (d35_ 25 6) 26 d35_ (Fr.g fd35_ hg) hr42_) (by decide) (by decide) (by decide)
        obtain ⟨hs48_, h⟩ := ck_some h
        obtain ⟨r46_, d45_, hr47_, h⟩ := bd_some h
        have fd45_ : Fr wo_Pa_takeTests [] true d d45_ := Fr.tr fd40_ (fr_St_addCode (d40_ 25 6) 25 d40_ (Fr.g fd40_ hg) hr47_) (by decide) (by decide) (by decide)
        exact Fr.tr0 fd45_ (fr_Pa_takeTests_b66 r9_ v14_ d45_ (Fr.g fd45_ hg) h)
    · exact Fr.tr0 fd26_ (fr_Pa_takeTests_b66 r9_ v14_ d26_ (Fr.g fd26_ hg) h)
/-! frames of Pa_takeNumber -/
def wo_Pa_takeNumber : List (Nat × Nat) := [(25, 5), (25, 7), (25, 8)]
theorem fr_Pa_takeNumber_b45 {r : Int} {d' : Dt} (d : Dt) (hg : d GH 0 ≤ 6) (h : L_Pa_takeNumber_b45 d = some (r, d')) : Fr wo_Pa_takeNumber [] false d d' := by
  have f0 : Fr wo_Pa_takeNumber [] false d d := Fr.rfl
  unfold L_Pa_takeNumber_b45 at h
  obtain ⟨r2_, d1_, hr3_, h⟩ := bd_some h
  have fd1_ : Fr wo_Pa_takeNumber [] false d d1_ := Fr.tr f0 (fr_Pa_refuse 6 d (Fr.g f0 hg) hr3_) (by decide) (by decide) (by decide)
  obtain ⟨rfl, rfl⟩ := ret_inj h
  exact fd1_
theorem fr_Pa_takeNumber {r : Int} {d' : Dt} (p1 p2 : Int) (d : Dt) (hg : d GH 0 ≤ 6) (h : L_Pa_takeNumber p1 p2 d = some (r, d')) : Fr wo_Pa_takeNumber [] false d d' := by
  have f0 : Fr wo_Pa_takeNumber [] false d d := Fr.rfl
  unfold L_Pa_takeNumber at h
  obtain ⟨hb6_, h⟩ := ck_some h
  obtain ⟨v8_, ev9_, h⟩ := lt_some h
  obtain ⟨hb12_, h⟩ := ck_some h
  rcases ite_some h with ⟨hc14_, h⟩ | ⟨hc14_, h⟩
  · rcases ite_some h with ⟨hc15_, h⟩ | ⟨hc15_, h⟩
    · exact Fr.tr0 f0 (fr_Pa_takeNumber_b45  d (Fr.g f0 hg) h)
    · rcases ite_some h with ⟨hc16_, h⟩ | ⟨hc16_, h⟩
      · exact Fr.tr0 f0 (fr_Pa_takeNumber_b45  d (Fr.g f0 hg) h)
      · obtain ⟨r18_, d17_, hr19_, h⟩ := bd_some h
        have fd17_ : Fr wo_Pa_takeNumber [] false d d17_ := Fr.tr f0 (fr_Pa_next  d (Fr.g f0 hg) hr19_) (by decide) (by decide) (by decide)
        obtain ⟨rfl, rfl⟩ := ret_inj h
        exact fd17_
  · obtain ⟨r22_, d21_, hr23_, h⟩ := bd_some h
    have fd21_ : Fr wo_Pa_takeNumber [] false d d21_ := Fr.tr f0 (fr_Pa_refuse 2 d (Fr.g f0 hg) hr23_) (by decide) (by decide) (by decide)
    obtain ⟨rfl, rfl⟩ := ret_inj h
    exact fd21_
/-! frames of Pa_takeNames -/
def wo_Pa_takeNames : List (Nat × Nat) := [(25, 5), (25, 7), (25, 8)]
theorem fr_Pa_takeNames {r : Int} {d' : Dt} (d : Dt) (hg : d GH 0 ≤ 6) (h : L_Pa_takeNames d = some (r, d')) : Fr wo_Pa_takeNames [] true d d' := by
  have f0 : Fr wo_Pa_takeNames [] true d d := Fr.rfl
  unfold L_Pa_takeNames at h
  obtain ⟨r2_, d1_, hr3_, h⟩ := bd_some h
  have fd1_ : Fr wo_Pa_takeNames [] true d d1_ := Fr.tr f0 (fr_Pa_next  d (Fr.g f0 hg) hr3_) (by decide) (by decide) (by decide)
  obtain ⟨r6_, d5_, hr7_, h⟩ := bd_some h
  have fd5_ : Fr wo_Pa_takeNames [] true d d5_ := Fr.tr fd1_ (fr_Pa_takeNumber 1 4 d1_ (Fr.g fd1_ hg) hr7_) (by decide) (by decide) (by decide)
  obtain ⟨hs12_, h⟩ := ck_some h
  obtain ⟨r10_, d9_, hr11_, h⟩ := bd_some h
  have fd9_ : Fr wo_Pa_takeNames [] true d d9_ := Fr.tr fd5_ (fr_St_closeRule (d5_ 25 6) 21 r6_ (-1) d5_ (Fr.g fd5_ hg) hr11_) (by decide) (by decide) (by decide)
  rcases ite_some h with ⟨hc14_, h⟩ | ⟨hc14_, h⟩
  · obtain ⟨rfl, rfl⟩ := ret_inj h
    exact fd9_
  · obtain ⟨rfl, rfl⟩ := ret_inj h
    exact fd9_
/-! frames of Pa_takeHours -/
def wo_Pa_takeHours : List (Nat × Nat) := [(25, 5), (25, 7), (25, 8)]
theorem fr_Pa_takeHours {r : Int} {d' : Dt} (d : Dt) (hg : d GH 0 ≤ 6) (h : L_Pa_takeHours d = some (r, d')) : Fr wo_Pa_takeHours [] true d d' := by
  have f0 : Fr wo_Pa_takeHours [] true d d := Fr.rfl
  unfold L_Pa_takeHours at h
  obtain ⟨r2_, d1_, hr3_, h⟩ := bd_some h
  have fd1_ : Fr wo_Pa_takeHours [] true d d1_ := Fr.tr f0 (fr_Pa_next  d (Fr.g f0 hg) hr3_) (by decide) (by decide) (by decide)
  obtain ⟨r6_, d5_, hr7_, h⟩ := bd_some h
  have fd5_ : Fr wo_Pa_takeHours [] true d d5_ := Fr.tr fd1_ (fr_Pa_takeNumber 0 1439 d1_ (Fr.g fd1_ hg) hr7_) (by decide) (by decide) (by decide)
  rcases ite_some h with ⟨hc9_, h⟩ | ⟨hc9_, h⟩
  · obtain ⟨rfl, rfl⟩ := ret_inj h
    exact fd5_
  · obtain ⟨r11_, d10_, hr12_, h⟩ := bd_some h
    have fd10_ : Fr wo_Pa_takeHours [] true d d10_ := Fr.tr fd5_ (fr_Pa_passes 23 d5_ (Fr.g fd5_ hg) hr12_) (by decide) (by decide) (by decide)
    rcases ite_some h with ⟨hc14_, h⟩ | ⟨hc14_, h⟩
    · obtain ⟨rfl, rfl⟩ := ret_inj h
      exact fd10_
    · obtain ⟨r16_, d15_, hr17_, h⟩ := bd_some h
      have fd15_ : Fr wo_Pa_takeHours [] true d d15_ := Fr.tr fd10_ (fr_Pa_takeNumber r6_ 1439 d10_ (Fr.g fd10_ hg) hr17_) (by decide) (by decide) (by decide)
      obtain ⟨hs22_, h⟩ := ck_some h
      obtain ⟨r20_, d19_, hr21_, h⟩ := bd_some h
      have fd19_ : Fr wo_Pa_takeHours [] true d d19_ := Fr.tr fd15_ (fr_St_closeRule (d15_ 25 6) 22 r6_ r16_ d15_ (Fr.g fd15_ hg) hr21_) (by decide) (by decide) (by decide)
      rcases ite_some h with ⟨hc24_, h⟩ | ⟨hc24_, h⟩
      · obtain ⟨rfl, rfl⟩ := ret_inj h
        exact fd19_
      · obtain ⟨rfl, rfl⟩ := ret_inj h
        exact fd19_
/-! frames of Pa_takeRule -/
def wo_Pa_takeRule : List (Nat × Nat) := [(25, 5), (25, 7), (25, 8)]
theorem fr_Pa_takeRule {r : Int} {d' : Dt} (d : Dt) (hg : d GH 0 ≤ 6) (h : L_Pa_takeRule d = some (r, d')) : Fr wo_Pa_takeRule [] true d d' := by
  have f0 : Fr wo_Pa_takeRule [] true d d := Fr.rfl
  unfold L_Pa_takeRule at h
  obtain ⟨r2_, d1_, hr3_, h⟩ := bd_some h
  have fd1_ : Fr wo_Pa_takeRule [] true d d1_ := Fr.tr f0 (fr_Pa_takeLabels  d (Fr.g f0 hg) hr3_) (by decide) (by decide) (by decide)
  rcases ite_some h with ⟨hc5_, h⟩ | ⟨hc5_, h⟩
  · obtain ⟨rfl, rfl⟩ := ret_inj h
    exact fd1_
  · obtain ⟨r7_, d6_, hr8_, h⟩ := bd_some h
    have fd6_ : Fr wo_Pa_takeRule [] true d d6_ := Fr.tr fd1_ (fr_Pa_passes 58 d1_ (Fr.g fd1_ hg) hr8_) (by decide) (by decide) (by decide)
    rcases ite_some h with ⟨hc10_, h⟩ | ⟨hc10_, h⟩
    · obtain ⟨rfl, rfl⟩ := ret_inj h
      exact fd6_
    · obtain ⟨r12_, d11_, hr13_, h⟩ := bd_some h
      have fd11_ : Fr wo_Pa_takeRule [] true d d11_ := Fr.tr fd6_ (fr_Pa_kind  d6_ (Fr.g fd6_ hg) hr13_) (by decide) (by decide) (by decide)
      rcases ite_some h with ⟨hc15_, h⟩ | ⟨hc15_, h⟩
      · obtain ⟨r17_, d16_, hr18_, h⟩ := bd_some h
        have fd16_ : Fr wo_Pa_takeRule [] true d d16_ := Fr.tr fd11_ (fr_Pa_takeTests  d11_ (Fr.g fd11_ hg) hr18_) (by decide) (by decide) (by decide)
        rcases ite_some h with ⟨hc20_, h⟩ | ⟨hc20_, h⟩
        · obtain ⟨rfl, rfl⟩ := ret_inj h
          exact fd16_
        · obtain ⟨r22_, d21_, hr23_, h⟩ := bd_some h
          have fd21_ : Fr wo_Pa_takeRule [] true d d21_ := Fr.tr fd16_ (fr_Pa_passes 59 d16_ (Fr.g fd16_ hg) hr23_) (by decide) (by decide) (by decide)
          rcases ite_some h with ⟨hc25_, h⟩ | ⟨hc25_, h⟩
          · obtain ⟨rfl, rfl⟩ := ret_inj h
            exact fd21_
          · obtain ⟨rfl, rfl⟩ := ret_inj h
            exact fd21_
      · rcases ite_some h with ⟨hc26_, h⟩ | ⟨hc26_, h⟩
        · obtain ⟨r28_, d27_, hr29_, h⟩ := bd_some h
          have fd27_ : Fr wo_Pa_takeRule [] true d d27_ := Fr.tr fd11_ (fr_Pa_refuse 2 d11_ (Fr.g fd11_ hg) hr29_) (by decide) (by decide) (by decide)
          obtain ⟨rfl, rfl⟩ := ret_inj h
          exact fd27_
        · rcases ite_some h with ⟨hc31_, h⟩ | ⟨hc31_, h⟩
          · obtain ⟨r33_, d32_, hr34_, h⟩ := bd_some h
            have fd32_ : Fr wo_Pa_takeRule [] true d d32_ := Fr.tr fd11_ (fr_Pa_takeTests  d11_ (Fr.g fd11_ hg) hr34_) (by decide) (by decide) (by decide)
            rcases ite_some h with ⟨hc36_, h⟩ | ⟨hc36_, h⟩
            · obtain ⟨rfl, rfl⟩ := ret_inj h
              exact fd32_
            · obtain ⟨r38_, d37_, hr39_, h⟩ := bd_some h
              have fd37_ : Fr wo_Pa_takeRule [] true d d37_ := Fr.tr fd32_ (fr_Pa_passes 59 d32_ (Fr.g fd32_ hg) hr39_) (by decide) (by decide) (by decide)
              rcases ite_some h with ⟨hc41_, h⟩ | ⟨hc41_, h⟩
              · obtain ⟨rfl, rfl⟩ := ret_inj h
                exact fd37_
              · obtain ⟨rfl, rfl⟩ := ret_inj h
                exact fd37_
          · rcases ite_some h with ⟨hc42_, h⟩ | ⟨hc42_, h⟩
            · obtain ⟨r44_, d43_, hr45_, h⟩ := bd_some h
              have fd43_ : Fr wo_Pa_takeRule [] true d d43_ := Fr.tr fd11_ (fr_Pa_takeTests  d11_ (Fr.g fd11_ hg) hr45_) (by decide) (by decide) (by decide)
              rcases ite_some h with ⟨hc47_, h⟩ | ⟨hc47_, h⟩
              · obtain ⟨rfl, rfl⟩ := ret_inj h
                exact fd43_
              · obtain ⟨r49_, d48_, hr50_, h⟩ := bd_some h
                have fd48_ : Fr wo_Pa_takeRule [] true d d48_ := Fr.tr fd43_ (fr_Pa_passes 59 d43_ (Fr.g fd43_ hg) hr50_) (by decide) (by decide) (by decide)
                rcases ite_some h with ⟨hc52_, h⟩ | ⟨hc52_, h⟩
                · obtain ⟨rfl, rfl⟩ := ret_inj h
                  exact fd48_
                · obtain ⟨rfl, rfl⟩ := ret_inj h
                  exact fd48_
            · rcases ite_some h with ⟨hc53_, h⟩ | ⟨hc53_, h⟩
              · obtain ⟨r55_, d54_, hr56_, h⟩ := bd_some h
                have fd54_ : Fr wo_Pa_takeRule [] true d d54_ := Fr.tr fd11_ (fr_Pa_takeNames  d11_ (Fr.g fd11_ hg) hr56_) (by decide) (by decide) (by decide)
                rcases ite_some h with ⟨hc58_, h⟩ | ⟨hc58_, h⟩
                · obtain ⟨rfl, rfl⟩ := ret_inj h
                  exact fd54_
                · obtain ⟨r60_, d59_, hr61_, h⟩ := bd_some h
                  have fd59_ : Fr wo_Pa_takeRule [] true d d59_ := Fr.tr fd54_ (fr_Pa_passes 59 d54_ (Fr.g fd54_ hg) hr61_) (by decide) (by decide) (by decide)
                  rcases ite_some h with ⟨hc63_, h⟩ | ⟨hc63_, h⟩
                  · obtain ⟨rfl, rfl⟩ := ret_inj h
                    exact fd59_
                  · obtain ⟨rfl, rfl⟩ := ret_inj h
                    exact fd59_
              · rcases ite_some h with ⟨hc64_, h⟩ | ⟨hc64_, h⟩
                · obtain ⟨r66_, d65_, hr67_, h⟩ := bd_some h
                  have fd65_ : Fr wo_Pa_takeRule [] true d d65_ := Fr.tr fd11_ (fr_Pa_takeHours  d11_ (Fr.g fd11_ hg) hr67_) (by decide) (by decide) (by decide)
                  rcases ite_some h with ⟨hc69_, h⟩ | ⟨hc69_, h⟩
                  · obtain ⟨rfl, rfl⟩ := ret_inj h
                    exact fd65_
                  · obtain ⟨r71_, d70_, hr72_, h⟩ := bd_some h
                    have fd70_ : Fr wo_Pa_takeRule [] true d d70_ := Fr.tr fd65_ (fr_Pa_passes 59 d65_ (Fr.g fd65_ hg) hr72_) (by decide) (by decide) (by decide)
                    rcases ite_some h with ⟨hc74_, h⟩ | ⟨hc74_, h⟩
                    · obtain ⟨rfl, rfl⟩ := ret_inj h
                      exact fd70_
                    · obtain ⟨rfl, rfl⟩ := ret_inj h
                      exact fd70_
                · obtain ⟨r76_, d75_, hr77_, h⟩ := bd_some h
                  have fd75_ : Fr wo_Pa_takeRule [] true d d75_ := Fr.tr fd11_ (fr_Pa_refuse 2 d11_ (Fr.g fd11_ hg) hr77_) (by decide) (by decide) (by decide)
                  obtain ⟨rfl, rfl⟩ := ret_inj h
                  exact fd75_
/-! frames of La_beginsBehind -/
def wo_La_beginsBehind : List (Nat × Nat) := []
theorem fr_La_beginsBehind {r : Int} {d' : Dt} (p1 p2 : Int) (d : Dt) (hg : d GH 0 ≤ 6) (h : L_La_beginsBehind p1 p2 d = some (r, d')) : Fr wo_La_beginsBehind [] false d d' := by
  have f0 : Fr wo_La_beginsBehind [] false d d := Fr.rfl
  unfold L_La_beginsBehind at h
  rcases ite_some h with ⟨hc1_, h⟩ | ⟨hc1_, h⟩
  · obtain ⟨rfl, rfl⟩ := ret_inj h
    exact f0
  · obtain ⟨hs2_, h⟩ := ck_some h
    rcases ite_some h with ⟨hc4_, h⟩ | ⟨hc4_, h⟩
    · obtain ⟨rfl, rfl⟩ := ret_inj h
      exact f0
    · obtain ⟨rfl, rfl⟩ := ret_inj h
      exact f0
/-! frames of La_enact -/
def wo_La_enact : List (Nat × Nat) := [(30, 2), (30, 7)]
def he_La_enact_16 (q : (Int × Int × Dt)) : Dt := q.2.2
def hb_La_enact_16 (o : (Int × Int × Int × Dt) ⊕ ((Int × Int × Dt))) : Dt := match o with
  | .inl q => q.2.2.2
  | .inr r => he_La_enact_16 r
theorem fr_La_enact_y16 {o : (Int × Int × Int × Dt) ⊕ ((Int × Int × Dt))} (x1 x2 x4 : Int) (d : Dt) (hg : d GH 0 ≤ 6) (h : L_La_enact_y16 x1 x2 x4 d = some o) : Fr wo_La_enact [31] true d (hb_La_enact_16 o) := by
  have f0 : Fr wo_La_enact [31] true d d := Fr.rfl
  unfold L_La_enact_y16 at h
  rcases ite_some h with ⟨hc1_, h⟩ | ⟨hc1_, h⟩
  · obtain ⟨hb2_, h⟩ := ck_some h
    obtain ⟨r4_, d3_, hr5_, h⟩ := bd_some h
    have fd3_ : Fr wo_La_enact [31] true d d3_ := Fr.tr f0 (fr_La_beginsBehind (d 31 ((w32 (x4 - 1))).toNat) x2 d (Fr.g f0 hg) hr5_) (by decide) (by decide) (by decide)
    rcases ite_some h with ⟨hc7_, h⟩ | ⟨hc7_, h⟩
    · obtain rfl := Option.some.inj h
      exact fd3_
    · obtain ⟨hb8_, h⟩ := ck_some h
      obtain ⟨hb9_, h⟩ := ck_some h
      obtain ⟨hs10_, h⟩ := ck_some h
      obtain rfl := Option.some.inj h
      exact (Fr.upa fd3_ rfl (by decide))
  · obtain rfl := Option.some.inj h
    exact f0
theorem fr_La_enact_l16 {x : (Int × Int × Dt)} (x1 x2 x4 : Int) (d : Dt) (hg : d GH 0 ≤ 6) (h : L_La_enact_l16 x1 x2 x4 d = some x) : Fr wo_La_enact [31] true d (he_La_enact_16 x) :=
  lpF_fr (f := fun q : Int × Int × Int × Dt => L_La_enact_y16 q.1 q.2.1 q.2.2.1 q.2.2.2) (fun q => q.2.2.2) he_La_enact_16 (fun q x hq hx => ⟨fun q2 e2 => by subst e2; exact fr_La_enact_y16 q.1 q.2.1 q.2.2.1 q.2.2.2 hq hx, fun r2 e2 => by subst e2; exact fr_La_enact_y16 q.1 q.2.1 q.2.2.1 q.2.2.2 hq hx⟩) FU _ x hg h
theorem fr_La_enact_b59 {r : Int} {d' : Dt} (x1 x4 : Int) (d : Dt) (hg : d GH 0 ≤ 6) (h : L_La_enact_b59 x1 x4 d = some (r, d')) : Fr wo_La_enact [31] true d d' := by
  have f0 : Fr wo_La_enact [31] true d d := Fr.rfl
  unfold L_La_enact_b59 at h
  obtain ⟨hb11_, h⟩ := ck_some h
  obtain ⟨hs12_, h⟩ := ck_some h
  obtain ⟨rfl, rfl⟩ := ret_inj h
  exact (Fr.upo (Fr.upo (Fr.upa f0 rfl (by decide)) rfl (by decide)) rfl (by decide))
theorem fr_La_enact {r : Int} {d' : Dt} (p1 p2 p3 : Int) (d : Dt) (hg : d GH 0 ≤ 6) (h : L_La_enact p1 p2 p3 d = some (r, d')) : Fr wo_La_enact [31] true d d' := by
  have f0 : Fr wo_La_enact [31] true d d := Fr.rfl
  unfold L_La_enact at h
  obtain ⟨hs14_, h⟩ := ck_some h
  obtain ⟨hs15_, h⟩ := ck_some h
  obtain ⟨v17_, ev18_, h⟩ := lt_some h
  obtain ⟨x20_, hx21_, h⟩ := lb_some h
  have fx20_ := Fr.tr0 (Fr.upd (Fr.upd f0 hg hs14_ (by decide)) hg hs15_ (by decide)) (fr_La_enact_l16 p1 p2 v17_ (up2 (up2 d (p1.toNat + 0) 0 p2) (p1.toNat + 0) 1 p3) (Fr.g (Fr.upd (Fr.upd f0 hg hs14_ (by decide)) hg hs15_ (by decide)) hg) hx21_)
  obtain ⟨v22_, v23_, d24_⟩ := x20_
  have fd24_ : Fr wo_La_enact [31] true d d24_ := fx20_
  replace h := u2_e h
  exact Fr.tr0 fd24_ (fr_La_enact_b59 v22_ v23_ d24_ (Fr.g fd24_ hg) h)
/-! frames of Pa_faultKind -/
def wo_Pa_faultKind : List (Nat × Nat) := []
theorem fr_Pa_faultKind {r : Int} {d' : Dt} (d : Dt) (hg : d GH 0 ≤ 6) (h : L_Pa_faultKind d = some (r, d')) : Fr wo_Pa_faultKind [] false d d' := by
  have f0 : Fr wo_Pa_faultKind [] false d d := Fr.rfl
  unfold L_Pa_faultKind at h
  obtain ⟨rfl, rfl⟩ := ret_inj h
  exact f0
/-! frames of Pa_faultPlace -/
def wo_Pa_faultPlace : List (Nat × Nat) := []
theorem fr_Pa_faultPlace {r : Int} {d' : Dt} (d : Dt) (hg : d GH 0 ≤ 6) (h : L_Pa_faultPlace d = some (r, d')) : Fr wo_Pa_faultPlace [] false d d' := by
  have f0 : Fr wo_Pa_faultPlace [] false d d := Fr.rfl
  unfold L_Pa_faultPlace at h
  obtain ⟨rfl, rfl⟩ := ret_inj h
  exact f0
/-! frames of PB_fault -/
def wo_PB_fault : List (Nat × Nat) := []
theorem fr_PB_fault {r : Int} {d' : Dt} (p1 : Int) (d : Dt) (hg : d GH 0 ≤ 6) (h : L_PB_fault p1 d = some (r, d')) : Fr wo_PB_fault [] false d d' := by
  have f0 : Fr wo_PB_fault [] false d d := Fr.rfl
  unfold L_PB_fault at h
  rcases ite_some h with ⟨hc1_, h⟩ | ⟨hc1_, h⟩
  · obtain ⟨r3_, d2_, hr4_, h⟩ := bd_some h
    have fd2_ : Fr wo_PB_fault [] false d d2_ := Fr.tr f0 (fr_Pa_faultKind  d (Fr.g f0 hg) hr4_) (by decide) (by decide) (by decide)
    obtain ⟨rfl, rfl⟩ := ret_inj h
    exact fd2_
  · rcases ite_some h with ⟨hc6_, h⟩ | ⟨hc6_, h⟩
    · obtain ⟨r8_, d7_, hr9_, h⟩ := bd_some h
      have fd7_ : Fr wo_PB_fault [] false d d7_ := Fr.tr f0 (fr_Pa_faultPlace  d (Fr.g f0 hg) hr9_) (by decide) (by decide) (by decide)
      obtain ⟨rfl, rfl⟩ := ret_inj h
      exact fd7_
    · obtain ⟨rfl, rfl⟩ := ret_inj h
      exact f0
/-! frames of St_isInForce -/
def wo_St_isInForce : List (Nat × Nat) := []
theorem fr_St_isInForce {r : Int} {d' : Dt} (this p1 p2 : Int) (d : Dt) (hg : d GH 0 ≤ 6) (h : L_St_isInForce this p1 p2 d = some (r, d')) : Fr wo_St_isInForce [] false d d' := by
  have f0 : Fr wo_St_isInForce [] false d d := Fr.rfl
  unfold L_St_isInForce at h
  obtain ⟨hs1_, h⟩ := ck_some h
  rcases ite_some h with ⟨hc3_, h⟩ | ⟨hc3_, h⟩
  · obtain ⟨rfl, rfl⟩ := ret_inj h
    exact f0
  · obtain ⟨hs4_, h⟩ := ck_some h
    rcases ite_some h with ⟨hc6_, h⟩ | ⟨hc6_, h⟩
    · obtain ⟨rfl, rfl⟩ := ret_inj h
      exact f0
    · obtain ⟨rfl, rfl⟩ := ret_inj h
      exact f0
/-! frames of La_isStruckFromBehind -/
def wo_La_isStruckFromBehind : List (Nat × Nat) := []
def he_La_isStruckFromBehind_30 (r : (Dt) ⊕ (Dt)) : Dt := match r with
  | .inl q => q
  | .inr q => q
def hb_La_isStruckFromBehind_30 (o : (Int × Int × Dt) ⊕ ((Dt) ⊕ (Dt))) : Dt := match o with
  | .inl q => q.2.2
  | .inr r => he_La_isStruckFromBehind_30 r
theorem fr_La_isStruckFromBehind_b73 {o : (Int × Int × Dt) ⊕ ((Dt) ⊕ (Dt))} (x3 x5 : Int) (d : Dt) (hg : d GH 0 ≤ 6) (h : L_La_isStruckFromBehind_b73 x3 x5 d = some o) : Fr wo_La_isStruckFromBehind [] false d (hb_La_isStruckFromBehind_30 o) := by
  have f0 : Fr wo_La_isStruckFromBehind [] false d d := Fr.rfl
  unfold L_La_isStruckFromBehind_b73 at h
  obtain rfl := Option.some.inj h
  exact f0
theorem fr_La_isStruckFromBehind_y30 {o : (Int × Int × Dt) ⊕ ((Dt) ⊕ (Dt))} (x3 x5 : Int) (d : Dt) (hg : d GH 0 ≤ 6) (h : L_La_isStruckFromBehind_y30 x3 x5 d = some o) : Fr wo_La_isStruckFromBehind [] false d (hb_La_isStruckFromBehind_30 o) := by
  have f0 : Fr wo_La_isStruckFromBehind [] false d d := Fr.rfl
  unfold L_La_isStruckFromBehind_y30 at h
  rcases ite_some h with ⟨hc2_, h⟩ | ⟨hc2_, h⟩
  · obtain ⟨hb3_, h⟩ := ck_some h
    rcases ite_some h with ⟨hc4_, h⟩ | ⟨hc4_, h⟩
    · exact Fr.tr0 f0 (fr_La_isStruckFromBehind_b73 x3 x5 d (Fr.g f0 hg) h)
    · obtain ⟨hs5_, h⟩ := ck_some h
      obtain ⟨hb6_, h⟩ := ck_some h
      obtain ⟨hs8_, h⟩ := ck_some h
      obtain ⟨hb9_, h⟩ := ck_some h
      rcases ite_some h with ⟨hc11_, h⟩ | ⟨hc11_, h⟩
      · obtain rfl := Option.some.inj h
        exact f0
      · exact Fr.tr0 f0 (fr_La_isStruckFromBehind_b73 x3 x5 d (Fr.g f0 hg) h)
  · obtain rfl := Option.some.inj h
    exact f0
theorem fr_La_isStruckFromBehind_l30 {x : (Dt) ⊕ (Dt)} (x3 x5 : Int) (d : Dt) (hg : d GH 0 ≤ 6) (h : L_La_isStruckFromBehind_l30 x3 x5 d = some x) : Fr wo_La_isStruckFromBehind [] false d (he_La_isStruckFromBehind_30 x) :=
  lpF_fr (f := fun q : Int × Int × Dt => L_La_isStruckFromBehind_y30 q.1 q.2.1 q.2.2) (fun q => q.2.2) he_La_isStruckFromBehind_30 (fun q x hq hx => ⟨fun q2 e2 => by subst e2; exact fr_La_isStruckFromBehind_y30 q.1 q.2.1 q.2.2 hq hx, fun r2 e2 => by subst e2; exact fr_La_isStruckFromBehind_y30 q.1 q.2.1 q.2.2 hq hx⟩) FU _ x hg h
theorem fr_La_isStruckFromBehind {r : Int} {d' : Dt} (p1 : Int) (d : Dt) (hg : d GH 0 ≤ 6) (h : L_La_isStruckFromBehind p1 d = some (r, d')) : Fr wo_La_isStruckFromBehind [] false d d' := by
  have f0 : Fr wo_La_isStruckFromBehind [] false d d := Fr.rfl
  unfold L_La_isStruckFromBehind at h
  obtain ⟨hb12_, h⟩ := ck_some h
  rcases ite_some h with ⟨hc13_, h⟩ | ⟨hc13_, h⟩
  · obtain ⟨rfl, rfl⟩ := ret_inj h
    exact f0
  · obtain ⟨hs14_, h⟩ := ck_some h
    obtain ⟨hb15_, h⟩ := ck_some h
    obtain ⟨hs17_, h⟩ := ck_some h
    obtain ⟨hb18_, h⟩ := ck_some h
    obtain ⟨v20_, ev21_, h⟩ := lt_some h
    obtain ⟨v23_, ev24_, h⟩ := lt_some h
    obtain ⟨x26_, hx27_, h⟩ := lb_some h
    have fx26_ := Fr.tr0 f0 (fr_La_isStruckFromBehind_l30 v20_ v23_ d (Fr.g f0 hg) hx27_)
    rcases x26_ with d28_ | d30_
    · have fd28_ : Fr wo_La_isStruckFromBehind [] false d d28_ := fx26_
      replace h := sml_e h
      replace h := u0_e h
      obtain ⟨rfl, rfl⟩ := ret_inj h
      exact fd28_
    · have fd30_ : Fr wo_La_isStruckFromBehind [] false d d30_ := fx26_
      replace h := smr_e h
      replace h := u0_e h
      obtain ⟨rfl, rfl⟩ := ret_inj h
      exact fd30_
/-! frames of La_gather -/
def wo_La_gather : List (Nat × Nat) := [(30, 6), (30, 7), (30, 8)]
def he_La_gather_68 (q : (Int × Int × Int × Dt)) : Dt := q.2.2.2
def hb_La_gather_68 (o : (Int × Int × Int × Int × Int × Dt) ⊕ ((Int × Int × Int × Dt))) : Dt := match o with
  | .inl q => q.2.2.2.2.2
  | .inr r => he_La_gather_68 r
def he_La_gather_34 (q : (Dt)) : Dt := q
def hb_La_gather_34 (o : (Int × Int × Int × Dt) ⊕ ((Dt))) : Dt := match o with
  | .inl q => q.2.2.2
  | .inr r => he_La_gather_34 r
def he_La_gather_133 (q : (Dt)) : Dt := q
def hb_La_gather_133 (o : (Int × Dt) ⊕ ((Dt))) : Dt := match o with
  | .inl q => q.2
  | .inr r => he_La_gather_133 r
theorem fr_La_gather_y133 {o : (Int × Dt) ⊕ ((Dt))} (x3 : Int) (d : Dt) (hg : d GH 0 ≤ 6) (h : L_La_gather_y133 x3 d = some o) : Fr wo_La_gather [32, 33, 34] false d (hb_La_gather_133 o) := by
  have f0 : Fr wo_La_gather [32, 33, 34] false d d := Fr.rfl
  unfold L_La_gather_y133 at h
  rcases ite_some h with ⟨hc2_, h⟩ | ⟨hc2_, h⟩
  · obtain ⟨r4_, d3_, hr5_, h⟩ := bd_some h
    have fd3_ : Fr wo_La_gather [32, 33, 34] false d d3_ := Fr.tr f0 (fr_La_isStruckFromBehind x3 d (Fr.g f0 hg) hr5_) (by decide) (by decide) (by decide)
    obtain ⟨hb7_, h⟩ := ck_some h
    obtain rfl := Option.some.inj h
    exact (Fr.upa fd3_ rfl (by decide))
  · obtain rfl := Option.some.inj h
    exact f0
theorem fr_La_gather_l133 {x : (Dt)} (x3 : Int) (d : Dt) (hg : d GH 0 ≤ 6) (h : L_La_gather_l133 x3 d = some x) : Fr wo_La_gather [32, 33, 34] false d (he_La_gather_133 x) :=
  lpF_fr (f := fun q : Int × Dt => L_La_gather_y133 q.1 q.2) (fun q => q.2) he_La_gather_133 (fun q x hq hx => ⟨fun q2 e2 => by subst e2; exact fr_La_gather_y133 q.1 q.2 hq hx, fun r2 e2 => by subst e2; exact fr_La_gather_y133 q.1 q.2 hq hx⟩) FU _ x hg h
theorem fr_La_gather_y68 {o : (Int × Int × Int × Int × Int × Dt) ⊕ ((Int × Int × Int × Dt))} (x1 x2 x3 x4 x5 : Int) (d : Dt) (hg : d GH 0 ≤ 6) (h : L_La_gather_y68 x1 x2 x3 x4 x5 d = some o) : Fr wo_La_gather [32, 33, 34] false d (hb_La_gather_68 o) := by
  have f0 : Fr wo_La_gather [32, 33, 34] false d d := Fr.rfl
  unfold L_La_gather_y68 at h
  obtain ⟨hs8_, h⟩ := ck_some h
  rcases ite_some h with ⟨hc10_, h⟩ | ⟨hc10_, h⟩
  · rcases ite_some h with ⟨hc12_, h⟩ | ⟨hc12_, h⟩
    · obtain ⟨hb14_, h⟩ := ck_some h
      obtain ⟨hs15_, h⟩ := ck_some h
      obtain ⟨hb17_, h⟩ := ck_some h
      obtain rfl := Option.some.inj h
      exact (Fr.upo (Fr.upa (Fr.upa f0 rfl (by decide)) rfl (by decide)) rfl (by decide))
    · obtain rfl := Option.some.inj h
      exact f0
  · obtain rfl := Option.some.inj h
    exact f0
theorem fr_La_gather_l68 {x : (Int × Int × Int × Dt)} (x1 x2 x3 x4 x5 : Int) (d : Dt) (hg : d GH 0 ≤ 6) (h : L_La_gather_l68 x1 x2 x3 x4 x5 d = some x) : Fr wo_La_gather [32, 33, 34] false d (he_La_gather_68 x) :=
  lpF_fr (f := fun q : Int × Int × Int × Int × Int × Dt => L_La_gather_y68 q.1 q.2.1 q.2.2.1 q.2.2.2.1 q.2.2.2.2.1 q.2.2.2.2.2) (fun q => q.2.2.2.2.2) he_La_gather_68 (fun q x hq hx => ⟨fun q2 e2 => by subst e2; exact fr_La_gather_y68 q.1 q.2.1 q.2.2.1 q.2.2.2.1 q.2.2.2.2.1 q.2.2.2.2.2 hq hx, fun r2 e2 => by subst e2; exact fr_La_gather_y68 q.1 q.2.1 q.2.2.1 q.2.2.2.1 q.2.2.2.2.1 q.2.2.2.2.2 hq hx⟩) FU _ x hg h
theorem fr_La_gather_b125 {o : (Int × Int × Int × Dt) ⊕ ((Dt))} (x1 x2 x3 : Int) (d : Dt) (hg : d GH 0 ≤ 6) (h : L_La_gather_b125 x1 x2 x3 d = some o) : Fr wo_La_gather [32, 33, 34] false d (hb_La_gather_34 o) := by
  have f0 : Fr wo_La_gather [32, 33, 34] false d d := Fr.rfl
  unfold L_La_gather_b125 at h
  obtain rfl := Option.some.inj h
  exact f0
theorem fr_La_gather_y34 {o : (Int × Int × Int × Dt) ⊕ ((Dt))} (x1 x2 x3 : Int) (d : Dt) (hg : d GH 0 ≤ 6) (h : L_La_gather_y34 x1 x2 x3 d = some o) : Fr wo_La_gather [32, 33, 34] false d (hb_La_gather_34 o) := by
  have f0 : Fr wo_La_gather [32, 33, 34] false d d := Fr.rfl
  unfold L_La_gather_y34 at h
  rcases ite_some h with ⟨hc20_, h⟩ | ⟨hc20_, h⟩
  · obtain ⟨hb21_, h⟩ := ck_some h
    rcases ite_some h with ⟨hc22_, h⟩ | ⟨hc22_, h⟩
    · exact Fr.tr0 f0 (fr_La_gather_b125 x1 x2 x3 d (Fr.g f0 hg) h)
    · obtain ⟨hs26_, h⟩ := ck_some h
      obtain ⟨r24_, d23_, hr25_, h⟩ := bd_some h
      have fd23_ : Fr wo_La_gather [32, 33, 34] false d d23_ := Fr.tr f0 (fr_St_isInForce (d 31 x3.toNat) x1 x2 d (Fr.g f0 hg) hr25_) (by decide) (by decide) (by decide)
      rcases ite_some h with ⟨hc28_, h⟩ | ⟨hc28_, h⟩
      · exact Fr.tr0 fd23_ (fr_La_gather_b125 x1 x2 x3 d23_ (Fr.g fd23_ hg) h)
      · obtain ⟨x29_, hx30_, h⟩ := lb_some h
        have fx29_ := Fr.tr0 fd23_ (fr_La_gather_l68 x1 x2 x3 (d 31 x3.toNat) 0 d23_ (Fr.g fd23_ hg) hx30_)
        obtain ⟨v31_, v32_, v33_, d34_⟩ := x29_
        have fd34_ : Fr wo_La_gather [32, 33, 34] false d d34_ := fx29_
        replace h := u3_e h
        exact Fr.tr0 fd34_ (fr_La_gather_b125 v31_ v32_ v33_ d34_ (Fr.g fd34_ hg) h)
  · obtain rfl := Option.some.inj h
    exact f0
theorem fr_La_gather_l34 {x : (Dt)} (x1 x2 x3 : Int) (d : Dt) (hg : d GH 0 ≤ 6) (h : L_La_gather_l34 x1 x2 x3 d = some x) : Fr wo_La_gather [32, 33, 34] false d (he_La_gather_34 x) :=
  lpF_fr (f := fun q : Int × Int × Int × Dt => L_La_gather_y34 q.1 q.2.1 q.2.2.1 q.2.2.2) (fun q => q.2.2.2) he_La_gather_34 (fun q x hq hx => ⟨fun q2 e2 => by subst e2; exact fr_La_gather_y34 q.1 q.2.1 q.2.2.1 q.2.2.2 hq hx, fun r2 e2 => by subst e2; exact fr_La_gather_y34 q.1 q.2.1 q.2.2.1 q.2.2.2 hq hx⟩) FU _ x hg h
theorem fr_La_gather_b17 {r : Int} {d' : Dt} (x1 x2 : Int) (d : Dt) (hg : d GH 0 ≤ 6) (h : L_La_gather_b17 x1 x2 d = some (r, d')) : Fr wo_La_gather [32, 33, 34] false d d' := by
  have f0 : Fr wo_La_gather [32, 33, 34] false d d := Fr.rfl
  unfold L_La_gather_b17 at h
  obtain ⟨x37_, hx38_, h⟩ := lb_some h
  have fx37_ := Fr.tr0 (Fr.upo (Fr.upo (Fr.upo f0 rfl (by decide)) rfl (by decide)) rfl (by decide)) (fr_La_gather_l34 x1 x2 0 (up2 (up2 (up2 d 30 7 x1) 30 8 x2) 30 6 0) (Fr.g (Fr.upo (Fr.upo (Fr.upo f0 rfl (by decide)) rfl (by decide)) rfl (by decide)) hg) hx38_)
  obtain ⟨d39_, rfl⟩ : ∃ z, z = x37_ := ⟨_, rfl⟩
  have fd39_ : Fr wo_La_gather [32, 33, 34] false d d39_ := fx37_
  replace h := u0_e h
  obtain ⟨x41_, hx42_, h⟩ := lb_some h
  have fx41_ := Fr.tr0 fd39_ (fr_La_gather_l133 0 d39_ (Fr.g fd39_ hg) hx42_)
  obtain ⟨d43_, rfl⟩ : ∃ z, z = x41_ := ⟨_, rfl⟩
  have fd43_ : Fr wo_La_gather [32, 33, 34] false d d43_ := fx41_
  replace h := u0_e h
  obtain ⟨rfl, rfl⟩ := ret_inj h
  exact fd43_
theorem fr_La_gather {r : Int} {d' : Dt} (p1 p2 : Int) (d : Dt) (hg : d GH 0 ≤ 6) (h : L_La_gather p1 p2 d = some (r, d')) : Fr wo_La_gather [32, 33, 34] false d d' := by
  have f0 : Fr wo_La_gather [32, 33, 34] false d d := Fr.rfl
  unfold L_La_gather at h
  rcases ite_some h with ⟨hc48_, h⟩ | ⟨hc48_, h⟩
  · rcases ite_some h with ⟨hc50_, h⟩ | ⟨hc50_, h⟩
    · obtain ⟨rfl, rfl⟩ := ret_inj h
      exact f0
    · exact Fr.tr0 f0 (fr_La_gather_b17 p1 p2 d (Fr.g f0 hg) h)
  · exact Fr.tr0 f0 (fr_La_gather_b17 p1 p2 d (Fr.g f0 hg) h)
/-! frames of La_countAt -/
def wo_La_countAt : List (Nat × Nat) := [(30, 6), (30, 7), (30, 8)]
theorem fr_La_countAt {r : Int} {d' : Dt} (p1 p2 : Int) (d : Dt) (hg : d GH 0 ≤ 6) (h : L_La_countAt p1 p2 d = some (r, d')) : Fr wo_La_countAt [32, 33, 34] false d d' := by
  have f0 : Fr wo_La_countAt [32, 33, 34] false d d := Fr.rfl
  unfold L_La_countAt at h
  obtain ⟨r2_, d1_, hr3_, h⟩ := bd_some h
  have fd1_ : Fr wo_La_countAt [32, 33, 34] false d d1_ := Fr.tr f0 (fr_La_gather p1 p2 d (Fr.g f0 hg) hr3_) (by decide) (by decide) (by decide)
  obtain ⟨rfl, rfl⟩ := ret_inj h
  exact fd1_
/-! frames of PB_rules -/
def wo_PB_rules : List (Nat × Nat) := [(0, 0), (30, 6), (30, 7), (30, 8)]
theorem fr_PB_rules_b20 {r : Int} {d' : Dt} (x1 x2 s1 : Int) (d : Dt) (hg : d GH 0 ≤ 6) (h : L_PB_rules_b20 x1 x2 s1 d = some (r, d')) : Fr wo_PB_rules [32, 33, 34] false d d' := by
  have f0 : Fr wo_PB_rules [32, 33, 34] false d d := Fr.rfl
  unfold L_PB_rules_b20 at h
  rcases ite_some h with ⟨hc2_, h⟩ | ⟨hc2_, h⟩
  · obtain ⟨r4_, d3_, hr5_, h⟩ := bd_some h
    have fd3_ : Fr wo_PB_rules [32, 33, 34] false d d3_ := Fr.tr (Fr.upo f0 rfl (by decide)) (fr_La_countAt x1 x2 (up2 d 0 0 s1) (Fr.g (Fr.upo f0 rfl (by decide)) hg) hr5_) (by decide) (by decide) (by decide)
    obtain ⟨rfl, rfl⟩ := ret_inj h
    exact fd3_
  · obtain ⟨rfl, rfl⟩ := ret_inj h
    exact (Fr.upo f0 rfl (by decide))
theorem fr_PB_rules {r : Int} {d' : Dt} (p1 p2 : Int) (d : Dt) (hg : d GH 0 ≤ 6) (h : L_PB_rules p1 p2 d = some (r, d')) : Fr wo_PB_rules [32, 33, 34] false d d' := by
  have f0 : Fr wo_PB_rules [32, 33, 34] false d d := Fr.rfl
  unfold L_PB_rules at h
  obtain ⟨r8_, d7_, hr9_, h⟩ := bd_some h
  have fd7_ : Fr wo_PB_rules [32, 33, 34] false d d7_ := Fr.tr f0 (fr_PB_isPlace p1 d (Fr.g f0 hg) hr9_) (by decide) (by decide) (by decide)
  rcases ite_some h with ⟨hc11_, h⟩ | ⟨hc11_, h⟩
  · exact Fr.tr0 fd7_ (fr_PB_rules_b20 p1 p2 1 d7_ (Fr.g fd7_ hg) h)
  · obtain ⟨r13_, d12_, hr14_, h⟩ := bd_some h
    have fd12_ : Fr wo_PB_rules [32, 33, 34] false d d12_ := Fr.tr fd7_ (fr_PB_isDay p2 d7_ (Fr.g fd7_ hg) hr14_) (by decide) (by decide) (by decide)
    rcases ite_some h with ⟨hc16_, h⟩ | ⟨hc16_, h⟩
    · exact Fr.tr0 fd12_ (fr_PB_rules_b20 p1 p2 1 d12_ (Fr.g fd12_ hg) h)
    · exact Fr.tr0 fd12_ (fr_PB_rules_b20 p1 p2 0 d12_ (Fr.g fd12_ hg) h)
/-! frames of La_isStruck -/
def wo_La_isStruck : List (Nat × Nat) := []
theorem fr_La_isStruck {r : Int} {d' : Dt} (p1 : Int) (d : Dt) (hg : d GH 0 ≤ 6) (h : L_La_isStruck p1 d = some (r, d')) : Fr wo_La_isStruck [] false d d' := by
  have f0 : Fr wo_La_isStruck [] false d d := Fr.rfl
  unfold L_La_isStruck at h
  obtain ⟨hb1_, h⟩ := ck_some h
  obtain ⟨rfl, rfl⟩ := ret_inj h
  exact f0
/-! frames of PB_struck -/
def wo_PB_struck : List (Nat × Nat) := [(0, 0), (30, 6), (30, 7), (30, 8)]
theorem fr_PB_struck_b49 {r : Int} {d' : Dt} (x3 x4 s1 : Int) (d : Dt) (hg : d GH 0 ≤ 6) (h : L_PB_struck_b49 x3 x4 s1 d = some (r, d')) : Fr wo_PB_struck [32, 33, 34] false d d' := by
  have f0 : Fr wo_PB_struck [32, 33, 34] false d d := Fr.rfl
  unfold L_PB_struck_b49 at h
  rcases ite_some h with ⟨hc1_, h⟩ | ⟨hc1_, h⟩
  · obtain ⟨rfl, rfl⟩ := ret_inj h
    exact (Fr.upo f0 rfl (by decide))
  · obtain ⟨r3_, d2_, hr4_, h⟩ := bd_some h
    have fd2_ : Fr wo_PB_struck [32, 33, 34] false d d2_ := Fr.tr (Fr.upo f0 rfl (by decide)) (fr_La_isStruck x3 (up2 d 0 0 s1) (Fr.g (Fr.upo f0 rfl (by decide)) hg) hr4_) (by decide) (by decide) (by decide)
    obtain ⟨r7_, d6_, hr8_, h⟩ := bd_some h
    have fd6_ : Fr wo_PB_struck [32, 33, 34] false d d6_ := Fr.tr fd2_ (fr_PB_bit r3_ d2_ (Fr.g fd2_ hg) hr8_) (by decide) (by decide) (by decide)
    obtain ⟨rfl, rfl⟩ := ret_inj h
    exact fd6_
theorem fr_PB_struck_b36 {r : Int} {d' : Dt} (x3 s0 : Int) (d : Dt) (hg : d GH 0 ≤ 6) (h : L_PB_struck_b36 x3 s0 d = some (r, d')) : Fr wo_PB_struck [32, 33, 34] false d d' := by
  have f0 : Fr wo_PB_struck [32, 33, 34] false d d := Fr.rfl
  unfold L_PB_struck_b36 at h
  rcases ite_some h with ⟨hc10_, h⟩ | ⟨hc10_, h⟩
  · exact Fr.tr0 f0 (fr_PB_struck_b49 x3 s0 1 d (Fr.g f0 hg) h)
  · exact Fr.tr0 f0 (fr_PB_struck_b49 x3 s0 0 d (Fr.g f0 hg) h)
theorem fr_PB_struck {r : Int} {d' : Dt} (p1 p2 p3 : Int) (d : Dt) (hg : d GH 0 ≤ 6) (h : L_PB_struck p1 p2 p3 d = some (r, d')) : Fr wo_PB_struck [32, 33, 34] false d d' := by
  have f0 : Fr wo_PB_struck [32, 33, 34] false d d := Fr.rfl
  unfold L_PB_struck at h
  obtain ⟨r12_, d11_, hr13_, h⟩ := bd_some h
  have fd11_ : Fr wo_PB_struck [32, 33, 34] false d d11_ := Fr.tr f0 (fr_PB_isPlace p1 d (Fr.g f0 hg) hr13_) (by decide) (by decide) (by decide)
  rcases ite_some h with ⟨hc15_, h⟩ | ⟨hc15_, h⟩
  · exact Fr.tr0 fd11_ (fr_PB_struck_b36 p3 0 d11_ (Fr.g fd11_ hg) h)
  · obtain ⟨r17_, d16_, hr18_, h⟩ := bd_some h
    have fd16_ : Fr wo_PB_struck [32, 33, 34] false d d16_ := Fr.tr fd11_ (fr_PB_isDay p2 d11_ (Fr.g fd11_ hg) hr18_) (by decide) (by decide) (by decide)
    rcases ite_some h with ⟨hc20_, h⟩ | ⟨hc20_, h⟩
    · exact Fr.tr0 fd16_ (fr_PB_struck_b36 p3 0 d16_ (Fr.g fd16_ hg) h)
    · rcases ite_some h with ⟨hc21_, h⟩ | ⟨hc21_, h⟩
      · exact Fr.tr0 fd16_ (fr_PB_struck_b36 p3 0 d16_ (Fr.g fd16_ hg) h)
      · obtain ⟨r23_, d22_, hr24_, h⟩ := bd_some h
        have fd22_ : Fr wo_PB_struck [32, 33, 34] false d d22_ := Fr.tr fd16_ (fr_La_countAt p1 p2 d16_ (Fr.g fd16_ hg) hr24_) (by decide) (by decide) (by decide)
        rcases ite_some h with ⟨hc26_, h⟩ | ⟨hc26_, h⟩
        · exact Fr.tr0 fd22_ (fr_PB_struck_b36 p3 1 d22_ (Fr.g fd22_ hg) h)
        · exact Fr.tr0 fd22_ (fr_PB_struck_b36 p3 0 d22_ (Fr.g fd22_ hg) h)
/-! frames of PB_isMinute -/
def wo_PB_isMinute : List (Nat × Nat) := []
theorem fr_PB_isMinute {r : Int} {d' : Dt} (p1 : Int) (d : Dt) (hg : d GH 0 ≤ 6) (h : L_PB_isMinute p1 d = some (r, d')) : Fr wo_PB_isMinute [] false d d' := by
  have f0 : Fr wo_PB_isMinute [] false d d := Fr.rfl
  unfold L_PB_isMinute at h
  obtain ⟨r2_, d1_, hr3_, h⟩ := bd_some h
  have fd1_ : Fr wo_PB_isMinute [] false d d1_ := Fr.tr f0 (fr_PB_within p1 0 1439 d (Fr.g f0 hg) hr3_) (by decide) (by decide) (by decide)
  obtain ⟨rfl, rfl⟩ := ret_inj h
  exact fd1_
/-! frames of PB_comerStatus -/
def wo_PB_comerStatus : List (Nat × Nat) := []
theorem fr_PB_comerStatus {r : Int} {d' : Dt} (p1 p2 p3 p4 : Int) (d : Dt) (hg : d GH 0 ≤ 6) (h : L_PB_comerStatus p1 p2 p3 p4 d = some (r, d')) : Fr wo_PB_comerStatus [] false d d' := by
  have f0 : Fr wo_PB_comerStatus [] false d d := Fr.rfl
  unfold L_PB_comerStatus at h
  obtain ⟨r2_, d1_, hr3_, h⟩ := bd_some h
  have fd1_ : Fr wo_PB_comerStatus [] false d d1_ := Fr.tr f0 (fr_Pe_has p1 d (Fr.g f0 hg) hr3_) (by decide) (by decide) (by decide)
  rcases ite_some h with ⟨hc5_, h⟩ | ⟨hc5_, h⟩
  · obtain ⟨rfl, rfl⟩ := ret_inj h
    exact fd1_
  · obtain ⟨r7_, d6_, hr8_, h⟩ := bd_some h
    have fd6_ : Fr wo_PB_comerStatus [] false d d6_ := Fr.tr fd1_ (fr_PB_isPlace p2 d1_ (Fr.g fd1_ hg) hr8_) (by decide) (by decide) (by decide)
    rcases ite_some h with ⟨hc10_, h⟩ | ⟨hc10_, h⟩
    · obtain ⟨rfl, rfl⟩ := ret_inj h
      exact fd6_
    · obtain ⟨r12_, d11_, hr13_, h⟩ := bd_some h
      have fd11_ : Fr wo_PB_comerStatus [] false d d11_ := Fr.tr fd6_ (fr_PB_isDay p3 d6_ (Fr.g fd6_ hg) hr13_) (by decide) (by decide) (by decide)
      rcases ite_some h with ⟨hc15_, h⟩ | ⟨hc15_, h⟩
      · obtain ⟨rfl, rfl⟩ := ret_inj h
        exact fd11_
      · obtain ⟨r17_, d16_, hr18_, h⟩ := bd_some h
        have fd16_ : Fr wo_PB_comerStatus [] false d d16_ := Fr.tr fd11_ (fr_PB_isMinute p4 d11_ (Fr.g fd11_ hg) hr18_) (by decide) (by decide) (by decide)
        rcases ite_some h with ⟨hc20_, h⟩ | ⟨hc20_, h⟩
        · obtain ⟨rfl, rfl⟩ := ret_inj h
          exact fd16_
        · obtain ⟨rfl, rfl⟩ := ret_inj h
          exact fd16_
/-! frames of La_bring -/
def wo_La_bring : List (Nat × Nat) := [(30, 6), (30, 7), (30, 8)]
theorem fr_La_bring {r : Int} {d' : Dt} (p1 p2 p3 p4 : Int) (d : Dt) (hg : d GH 0 ≤ 6) (h : L_La_bring p1 p2 p3 p4 d = some (r, d')) : Fr wo_La_bring [32, 33, 34, 35] false d d' := by
  have f0 : Fr wo_La_bring [32, 33, 34, 35] false d d := Fr.rfl
  unfold L_La_bring at h
  obtain ⟨r2_, d1_, hr3_, h⟩ := bd_some h
  have fd1_ : Fr wo_La_bring [32, 33, 34, 35] false d d1_ := Fr.tr f0 (fr_La_gather p2 p3 d (Fr.g f0 hg) hr3_) (by decide) (by decide) (by decide)
  obtain ⟨r6_, d5_, hr7_, h⟩ := bd_some h
  have fd5_ : Fr wo_La_bring [32, 33, 34, 35] false d d5_ := Fr.tr fd1_ (fr_Re_tell 35 9 p1 p2 p3 d1_ (Fr.g fd1_ hg) (by decide) hr7_) (by decide) (by decide) (by decide)
  obtain ⟨rfl, rfl⟩ := ret_inj h
  exact (Fr.upa (Fr.upa fd5_ rfl (by decide)) rfl (by decide))
/-! frames of La_says -/
def wo_La_says : List (Nat × Nat) := []
theorem fr_La_says {r : Int} {d' : Dt} (p1 p2 : Int) (d : Dt) (hg : d GH 0 ≤ 6) (h : L_La_says p1 p2 d = some (r, d')) : Fr wo_La_says [] false d d' := by
  have f0 : Fr wo_La_says [] false d d := Fr.rfl
  unfold L_La_says at h
  obtain ⟨hb1_, h⟩ := ck_some h
  rcases ite_some h with ⟨hc2_, h⟩ | ⟨hc2_, h⟩
  · obtain ⟨rfl, rfl⟩ := ret_inj h
    exact f0
  · obtain ⟨hb3_, h⟩ := ck_some h
    rcases ite_some h with ⟨hc5_, h⟩ | ⟨hc5_, h⟩
    · obtain ⟨hs6_, h⟩ := ck_some h
      obtain ⟨hb7_, h⟩ := ck_some h
      obtain ⟨hs9_, h⟩ := ck_some h
      obtain ⟨hb10_, h⟩ := ck_some h
      rcases ite_some h with ⟨hc12_, h⟩ | ⟨hc12_, h⟩
      · obtain ⟨rfl, rfl⟩ := ret_inj h
        exact f0
      · obtain ⟨rfl, rfl⟩ := ret_inj h
        exact f0
    · obtain ⟨rfl, rfl⟩ := ret_inj h
      exact f0
/-! frames of La_lastOf -/
def wo_La_lastOf : List (Nat × Nat) := []
def he_La_lastOf_7 (r : (Dt) ⊕ (Int × Dt)) : Dt := match r with
  | .inl q => q
  | .inr q => q.2
def hb_La_lastOf_7 (o : (Int × Int × Dt) ⊕ ((Dt) ⊕ (Int × Dt))) : Dt := match o with
  | .inl q => q.2.2
  | .inr r => he_La_lastOf_7 r
theorem fr_La_lastOf_y7 {o : (Int × Int × Dt) ⊕ ((Dt) ⊕ (Int × Dt))} (x1 x2 : Int) (d : Dt) (hg : d GH 0 ≤ 6) (h : L_La_lastOf_y7 x1 x2 d = some o) : Fr wo_La_lastOf [] false d (hb_La_lastOf_7 o) := by
  have f0 : Fr wo_La_lastOf [] false d d := Fr.rfl
  unfold L_La_lastOf_y7 at h
  rcases ite_some h with ⟨hc1_, h⟩ | ⟨hc1_, h⟩
  · obtain rfl := Option.some.inj h
    exact f0
  · obtain ⟨r3_, d2_, hr4_, h⟩ := bd_some h
    have fd2_ : Fr wo_La_lastOf [] false d d2_ := Fr.tr f0 (fr_La_says x2 x1 d (Fr.g f0 hg) hr4_) (by decide) (by decide) (by decide)
    rcases ite_some h with ⟨hc6_, h⟩ | ⟨hc6_, h⟩
    · obtain rfl := Option.some.inj h
      exact fd2_
    · obtain rfl := Option.some.inj h
      exact fd2_
theorem fr_La_lastOf_l7 {x : (Dt) ⊕ (Int × Dt)} (x1 x2 : Int) (d : Dt) (hg : d GH 0 ≤ 6) (h : L_La_lastOf_l7 x1 x2 d = some x) : Fr wo_La_lastOf [] false d (he_La_lastOf_7 x) :=
  lpF_fr (f := fun q : Int × Int × Dt => L_La_lastOf_y7 q.1 q.2.1 q.2.2) (fun q => q.2.2) he_La_lastOf_7 (fun q x hq hx => ⟨fun q2 e2 => by subst e2; exact fr_La_lastOf_y7 q.1 q.2.1 q.2.2 hq hx, fun r2 e2 => by subst e2; exact fr_La_lastOf_y7 q.1 q.2.1 q.2.2 hq hx⟩) FU _ x hg h
theorem fr_La_lastOf {r : Int} {d' : Dt} (p1 : Int) (d : Dt) (hg : d GH 0 ≤ 6) (h : L_La_lastOf p1 d = some (r, d')) : Fr wo_La_lastOf [] false d d' := by
  have f0 : Fr wo_La_lastOf [] false d d := Fr.rfl
  unfold L_La_lastOf at h
  obtain ⟨v8_, ev9_, h⟩ := lt_some h
  obtain ⟨x11_, hx12_, h⟩ := lb_some h
  have fx11_ := Fr.tr0 f0 (fr_La_lastOf_l7 p1 v8_ d (Fr.g f0 hg) hx12_)
  rcases x11_ with d13_ | ⟨v15_, d16_⟩
  · have fd13_ : Fr wo_La_lastOf [] false d d13_ := fx11_
    replace h := sml_e h
    replace h := u0_e h
    obtain ⟨rfl, rfl⟩ := ret_inj h
    exact fd13_
  · have fd16_ : Fr wo_La_lastOf [] false d d16_ := fx11_
    replace h := smr_e h
    replace h := u1_e h
    obtain ⟨rfl, rfl⟩ := ret_inj h
    exact fd16_
/-! frames of La_firstNumber -/
def wo_La_firstNumber : List (Nat × Nat) := []
theorem fr_La_firstNumber {r : Int} {d' : Dt} (p1 : Int) (d : Dt) (hg : d GH 0 ≤ 6) (h : L_La_firstNumber p1 d = some (r, d')) : Fr wo_La_firstNumber [] false d d' := by
  have f0 : Fr wo_La_firstNumber [] false d d := Fr.rfl
  unfold L_La_firstNumber at h
  obtain ⟨hb1_, h⟩ := ck_some h
  rcases ite_some h with ⟨hc2_, h⟩ | ⟨hc2_, h⟩
  · obtain ⟨rfl, rfl⟩ := ret_inj h
    exact f0
  · obtain ⟨hs3_, h⟩ := ck_some h
    obtain ⟨hb4_, h⟩ := ck_some h
    obtain ⟨hs6_, h⟩ := ck_some h
    obtain ⟨hb7_, h⟩ := ck_some h
    obtain ⟨rfl, rfl⟩ := ret_inj h
    exact f0
/-! frames of La_secondNumber -/
def wo_La_secondNumber : List (Nat × Nat) := []
theorem fr_La_secondNumber {r : Int} {d' : Dt} (p1 : Int) (d : Dt) (hg : d GH 0 ≤ 6) (h : L_La_secondNumber p1 d = some (r, d')) : Fr wo_La_secondNumber [] false d d' := by
  have f0 : Fr wo_La_secondNumber [] false d d := Fr.rfl
  unfold L_La_secondNumber at h
  obtain ⟨hb1_, h⟩ := ck_some h
  rcases ite_some h with ⟨hc2_, h⟩ | ⟨hc2_, h⟩
  · obtain ⟨rfl, rfl⟩ := ret_inj h
    exact f0
  · obtain ⟨hs3_, h⟩ := ck_some h
    obtain ⟨hb4_, h⟩ := ck_some h
    obtain ⟨hs6_, h⟩ := ck_some h
    obtain ⟨hb7_, h⟩ := ck_some h
    obtain ⟨rfl, rfl⟩ := ret_inj h
    exact f0
/-! frames of La_closedBy -/
def wo_La_closedBy : List (Nat × Nat) := []
theorem fr_La_closedBy {r : Int} {d' : Dt} (d : Dt) (hg : d GH 0 ≤ 6) (h : L_La_closedBy d = some (r, d')) : Fr wo_La_closedBy [] false d d' := by
  have f0 : Fr wo_La_closedBy [] false d d := Fr.rfl
  unfold L_La_closedBy at h
  obtain ⟨r2_, d1_, hr3_, h⟩ := bd_some h
  have fd1_ : Fr wo_La_closedBy [] false d d1_ := Fr.tr f0 (fr_La_lastOf 22 d (Fr.g f0 hg) hr3_) (by decide) (by decide) (by decide)
  rcases ite_some h with ⟨hc5_, h⟩ | ⟨hc5_, h⟩
  · obtain ⟨rfl, rfl⟩ := ret_inj h
    exact fd1_
  · obtain ⟨r8_, d7_, hr9_, h⟩ := bd_some h
    have fd7_ : Fr wo_La_closedBy [] false d d7_ := Fr.tr fd1_ (fr_La_firstNumber r2_ d1_ (Fr.g fd1_ hg) hr9_) (by decide) (by decide) (by decide)
    obtain ⟨r12_, d11_, hr13_, h⟩ := bd_some h
    have fd11_ : Fr wo_La_closedBy [] false d d11_ := Fr.tr fd7_ (fr_La_secondNumber r2_ d7_ (Fr.g fd7_ hg) hr13_) (by decide) (by decide) (by decide)
    obtain ⟨r16_, d15_, hr17_, h⟩ := bd_some h
    have fd15_ : Fr wo_La_closedBy [] false d d15_ := Fr.tr fd11_ (fr_PB_within (d1_ 35 7) r8_ r12_ d11_ (Fr.g fd11_ hg) hr17_) (by decide) (by decide) (by decide)
    rcases ite_some h with ⟨hc19_, h⟩ | ⟨hc19_, h⟩
    · obtain ⟨rfl, rfl⟩ := ret_inj h
      exact fd15_
    · obtain ⟨rfl, rfl⟩ := ret_inj h
      exact fd15_
/-! frames of La_reckon -/
def wo_La_reckon : List (Nat × Nat) := []
theorem fr_La_reckon {r : Int} {d' : Dt} (p1 p2 p3 : Int) (d : Dt) (hg : d GH 0 ≤ 6) (h : L_La_reckon p1 p2 p3 d = some (r, d')) : Fr wo_La_reckon [] false d d' := by
  have f0 : Fr wo_La_reckon [] false d d := Fr.rfl
  unfold L_La_reckon at h
  rcases ite_some h with ⟨hc1_, h⟩ | ⟨hc1_, h⟩
  · obtain ⟨rfl, rfl⟩ := ret_inj h
    exact f0
  · rcases ite_some h with ⟨hc2_, h⟩ | ⟨hc2_, h⟩
    · obtain ⟨rfl, rfl⟩ := ret_inj h
      exact f0
    · rcases ite_some h with ⟨hc3_, h⟩ | ⟨hc3_, h⟩
      · obtain ⟨rfl, rfl⟩ := ret_inj h
        exact f0
      · rcases ite_some h with ⟨hc4_, h⟩ | ⟨hc4_, h⟩
        · obtain ⟨rfl, rfl⟩ := ret_inj h
          exact f0
        · rcases ite_some h with ⟨hc5_, h⟩ | ⟨hc5_, h⟩
          · rcases ite_some h with ⟨hc6_, h⟩ | ⟨hc6_, h⟩
            · obtain ⟨rfl, rfl⟩ := ret_inj h
              exact f0
            · obtain ⟨rfl, rfl⟩ := ret_inj h
              exact f0
          · rcases ite_some h with ⟨hc7_, h⟩ | ⟨hc7_, h⟩
            · rcases ite_some h with ⟨hc8_, h⟩ | ⟨hc8_, h⟩
              · obtain ⟨rfl, rfl⟩ := ret_inj h
                exact f0
              · obtain ⟨rfl, rfl⟩ := ret_inj h
                exact f0
            · rcases ite_some h with ⟨hc9_, h⟩ | ⟨hc9_, h⟩
              · rcases ite_some h with ⟨hc10_, h⟩ | ⟨hc10_, h⟩
                · obtain ⟨rfl, rfl⟩ := ret_inj h
                  exact f0
                · obtain ⟨rfl, rfl⟩ := ret_inj h
                  exact f0
              · obtain ⟨rfl, rfl⟩ := ret_inj h
                exact f0
/-! frames of La_holds -/
def wo_La_holds : List (Nat × Nat) := []
def he_La_holds_40 (q : (Int × Dt)) : Dt := q.2
def hb_La_holds_40 (o : (Int × Int × Int × Int × Dt) ⊕ ((Int × Dt))) : Dt := match o with
  | .inl q => q.2.2.2.2
  | .inr r => he_La_holds_40 r
theorem fr_La_holds_b187 {o : (Int × Int × Int × Int × Dt) ⊕ ((Int × Dt))} (x3 x4 x5 x6 : Int) (d : Dt) (hg : d GH 0 ≤ 6) (h : L_La_holds_b187 x3 x4 x5 x6 d = some o) : Fr wo_La_holds [36] false d (hb_La_holds_40 o) := by
  have f0 : Fr wo_La_holds [36] false d d := Fr.rfl
  unfold L_La_holds_b187 at h
  obtain rfl := Option.some.inj h
  exact f0
theorem fr_La_holds_b105 {o : (Int × Int × Int × Int × Dt) ⊕ ((Int × Dt))} (x3 x4 x5 x6 s1 s2 : Int) (d : Dt) (hg : d GH 0 ≤ 6) (h : L_La_holds_b105 x3 x4 x5 x6 s1 s2 d = some o) : Fr wo_La_holds [36] false d (hb_La_holds_40 o) := by
  have f0 : Fr wo_La_holds [36] false d d := Fr.rfl
  unfold L_La_holds_b105 at h
  obtain ⟨hb1_, h⟩ := ck_some h
  exact Fr.tr0 (Fr.upa f0 rfl (by decide)) (fr_La_holds_b187 x3 x4 (w32 (x5 + 1)) x6 (up2 d 36 s1.toNat s2) (Fr.g (Fr.upa f0 rfl (by decide)) hg) h)
theorem fr_La_holds_b68 {o : (Int × Int × Int × Int × Dt) ⊕ ((Int × Dt))} (x3 x4 x5 x6 x7 : Int) (d : Dt) (hg : d GH 0 ≤ 6) (h : L_La_holds_b68 x3 x4 x5 x6 x7 d = some o) : Fr wo_La_holds [36] false d (hb_La_holds_40 o) := by
  have f0 : Fr wo_La_holds [36] false d d := Fr.rfl
  unfold L_La_holds_b68 at h
  rcases ite_some h with ⟨hc2_, h⟩ | ⟨hc2_, h⟩
  · rcases ite_some h with ⟨hc3_, h⟩ | ⟨hc3_, h⟩
    · obtain ⟨hb4_, h⟩ := ck_some h
      exact Fr.tr0 f0 (fr_La_holds_b105 x3 x4 x5 x6 x5 (d 35 x7.toNat) d (Fr.g f0 hg) h)
    · exact Fr.tr0 f0 (fr_La_holds_b105 x3 x4 x5 x6 x5 (w32 (x7 - 128)) d (Fr.g f0 hg) h)
  · exact Fr.tr0 f0 (fr_La_holds_b187 x3 x4 x5 x6 d (Fr.g f0 hg) h)
theorem fr_La_holds_y40 {o : (Int × Int × Int × Int × Dt) ⊕ ((Int × Dt))} (x3 x4 x5 x6 : Int) (d : Dt) (hg : d GH 0 ≤ 6) (h : L_La_holds_y40 x3 x4 x5 x6 d = some o) : Fr wo_La_holds [36] false d (hb_La_holds_40 o) := by
  have f0 : Fr wo_La_holds [36] false d d := Fr.rfl
  unfold L_La_holds_y40 at h
  rcases ite_some h with ⟨hc6_, h⟩ | ⟨hc6_, h⟩
  · obtain ⟨hs7_, h⟩ := ck_some h
    obtain ⟨hb8_, h⟩ := ck_some h
    obtain ⟨v10_, ev11_, h⟩ := lt_some h
    rcases ite_some h with ⟨hc13_, h⟩ | ⟨hc13_, h⟩
    · rcases ite_some h with ⟨hc14_, h⟩ | ⟨hc14_, h⟩
      · exact Fr.tr0 f0 (fr_La_holds_b68 x3 x4 x5 x6 v10_ d (Fr.g f0 hg) h)
      · rcases ite_some h with ⟨hc15_, h⟩ | ⟨hc15_, h⟩
        · rcases ite_some h with ⟨hc16_, h⟩ | ⟨hc16_, h⟩
          · exact Fr.tr0 f0 (fr_La_holds_b187 x3 x4 x5 x6 d (Fr.g f0 hg) h)
          · obtain ⟨hb17_, h⟩ := ck_some h
            obtain ⟨hb19_, h⟩ := ck_some h
            exact Fr.tr0 (Fr.upa f0 rfl (by decide)) (fr_La_holds_b187 x3 x4 x5 x6 (up2 d 36 ((w32 (x5 - 1))).toNat (w64 (1 - (d 36 ((w32 (x5 - 1))).toNat)))) (Fr.g (Fr.upa f0 rfl (by decide)) hg) h)
        · rcases ite_some h with ⟨hc20_, h⟩ | ⟨hc20_, h⟩
          · exact Fr.tr0 f0 (fr_La_holds_b187 x3 x4 x5 x6 d (Fr.g f0 hg) h)
          · obtain ⟨hb21_, h⟩ := ck_some h
            obtain ⟨hb23_, h⟩ := ck_some h
            obtain ⟨r26_, d25_, hr27_, h⟩ := bd_some h
            have fd25_ : Fr wo_La_holds [36] false d d25_ := Fr.tr f0 (fr_La_reckon v10_ (d 36 ((w32 ((w32 (x5 + (-1))) - 1))).toNat) (d 36 ((w32 (x5 + (-1)))).toNat) d (Fr.g f0 hg) hr27_) (by decide) (by decide) (by decide)
            obtain ⟨hb29_, h⟩ := ck_some h
            exact Fr.tr0 (Fr.upa fd25_ rfl (by decide)) (fr_La_holds_b187 x3 x4 (w32 (x5 + (-1))) x6 (up2 d25_ 36 ((w32 ((w32 (x5 + (-1))) - 1))).toNat r26_) (Fr.g (Fr.upa fd25_ rfl (by decide)) hg) h)
    · exact Fr.tr0 f0 (fr_La_holds_b68 x3 x4 x5 x6 v10_ d (Fr.g f0 hg) h)
  · obtain rfl := Option.some.inj h
    exact f0
theorem fr_La_holds_l40 {x : (Int × Dt)} (x3 x4 x5 x6 : Int) (d : Dt) (hg : d GH 0 ≤ 6) (h : L_La_holds_l40 x3 x4 x5 x6 d = some x) : Fr wo_La_holds [36] false d (he_La_holds_40 x) :=
  lpF_fr (f := fun q : Int × Int × Int × Int × Dt => L_La_holds_y40 q.1 q.2.1 q.2.2.1 q.2.2.2.1 q.2.2.2.2) (fun q => q.2.2.2.2) he_La_holds_40 (fun q x hq hx => ⟨fun q2 e2 => by subst e2; exact fr_La_holds_y40 q.1 q.2.1 q.2.2.1 q.2.2.2.1 q.2.2.2.2 hq hx, fun r2 e2 => by subst e2; exact fr_La_holds_y40 q.1 q.2.1 q.2.2.1 q.2.2.2.1 q.2.2.2.2 hq hx⟩) FU _ x hg h
theorem fr_La_holds {r : Int} {d' : Dt} (p1 : Int) (d : Dt) (hg : d GH 0 ≤ 6) (h : L_La_holds p1 d = some (r, d')) : Fr wo_La_holds [36] false d d' := by
  have f0 : Fr wo_La_holds [36] false d d := Fr.rfl
  unfold L_La_holds at h
  obtain ⟨hb30_, h⟩ := ck_some h
  rcases ite_some h with ⟨hc31_, h⟩ | ⟨hc31_, h⟩
  · obtain ⟨rfl, rfl⟩ := ret_inj h
    exact f0
  · obtain ⟨hs32_, h⟩ := ck_some h
    obtain ⟨r34_, d33_, hr35_, h⟩ := bd_some h
    have fd33_ : Fr wo_La_holds [36] false d d33_ := Fr.tr f0 (fr_La_secondNumber p1 d (Fr.g f0 hg) hr35_) (by decide) (by decide) (by decide)
    obtain ⟨hs37_, h⟩ := ck_some h
    obtain ⟨v38_, ev39_, h⟩ := lt_some h
    obtain ⟨r42_, d41_, hr43_, h⟩ := bd_some h
    have fd41_ : Fr wo_La_holds [36] false d d41_ := Fr.tr fd33_ (fr_La_firstNumber p1 d33_ (Fr.g fd33_ hg) hr43_) (by decide) (by decide) (by decide)
    obtain ⟨x45_, hx46_, h⟩ := lb_some h
    have fx45_ := Fr.tr0 fd41_ (fr_La_holds_l40 ((d 32 p1.toNat) + 6) v38_ 0 r42_ d41_ (Fr.g fd41_ hg) hx46_)
    obtain ⟨v47_, d48_⟩ := x45_
    have fd48_ : Fr wo_La_holds [36] false d d48_ := fx45_
    replace h := u1_e h
    rcases ite_some h with ⟨hc50_, h⟩ | ⟨hc50_, h⟩
    · obtain ⟨hb51_, h⟩ := ck_some h
      rcases ite_some h with ⟨hc53_, h⟩ | ⟨hc53_, h⟩
      · obtain ⟨rfl, rfl⟩ := ret_inj h
        exact fd48_
      · obtain ⟨rfl, rfl⟩ := ret_inj h
        exact fd48_
    · obtain ⟨rfl, rfl⟩ := ret_inj h
      exact fd48_
/-! frames of La_firstHolding -/
def wo_La_firstHolding : List (Nat × Nat) := []
def he_La_firstHolding_2 (r : (Dt) ⊕ (Int × Dt)) : Dt := match r with
  | .inl q => q
  | .inr q => q.2
def hb_La_firstHolding_2 (o : (Int × Int × Dt) ⊕ ((Dt) ⊕ (Int × Dt))) : Dt := match o with
  | .inl q => q.2.2
  | .inr r => he_La_firstHolding_2 r
theorem fr_La_firstHolding_b29 {o : (Int × Int × Dt) ⊕ ((Dt) ⊕ (Int × Dt))} (x1 x2 : Int) (d : Dt) (hg : d GH 0 ≤ 6) (h : L_La_firstHolding_b29 x1 x2 d = some o) : Fr wo_La_firstHolding [36] false d (hb_La_firstHolding_2 o) := by
  have f0 : Fr wo_La_firstHolding [36] false d d := Fr.rfl
  unfold L_La_firstHolding_b29 at h
  obtain rfl := Option.some.inj h
  exact f0
theorem fr_La_firstHolding_y2 {o : (Int × Int × Dt) ⊕ ((Dt) ⊕ (Int × Dt))} (x1 x2 : Int) (d : Dt) (hg : d GH 0 ≤ 6) (h : L_La_firstHolding_y2 x1 x2 d = some o) : Fr wo_La_firstHolding [36] false d (hb_La_firstHolding_2 o) := by
  have f0 : Fr wo_La_firstHolding [36] false d d := Fr.rfl
  unfold L_La_firstHolding_y2 at h
  rcases ite_some h with ⟨hc2_, h⟩ | ⟨hc2_, h⟩
  · obtain ⟨r4_, d3_, hr5_, h⟩ := bd_some h
    have fd3_ : Fr wo_La_firstHolding [36] false d d3_ := Fr.tr f0 (fr_La_says x2 x1 d (Fr.g f0 hg) hr5_) (by decide) (by decide) (by decide)
    rcases ite_some h with ⟨hc7_, h⟩ | ⟨hc7_, h⟩
    · exact Fr.tr0 fd3_ (fr_La_firstHolding_b29 x1 x2 d3_ (Fr.g fd3_ hg) h)
    · obtain ⟨r9_, d8_, hr10_, h⟩ := bd_some h
      have fd8_ : Fr wo_La_firstHolding [36] false d d8_ := Fr.tr fd3_ (fr_La_holds x2 d3_ (Fr.g fd3_ hg) hr10_) (by decide) (by decide) (by decide)
      rcases ite_some h with ⟨hc12_, h⟩ | ⟨hc12_, h⟩
      · exact Fr.tr0 fd8_ (fr_La_firstHolding_b29 x1 x2 d8_ (Fr.g fd8_ hg) h)
      · obtain rfl := Option.some.inj h
        exact fd8_
  · obtain rfl := Option.some.inj h
    exact f0
theorem fr_La_firstHolding_l2 {x : (Dt) ⊕ (Int × Dt)} (x1 x2 : Int) (d : Dt) (hg : d GH 0 ≤ 6) (h : L_La_firstHolding_l2 x1 x2 d = some x) : Fr wo_La_firstHolding [36] false d (he_La_firstHolding_2 x) :=
  lpF_fr (f := fun q : Int × Int × Dt => L_La_firstHolding_y2 q.1 q.2.1 q.2.2) (fun q => q.2.2) he_La_firstHolding_2 (fun q x hq hx => ⟨fun q2 e2 => by subst e2; exact fr_La_firstHolding_y2 q.1 q.2.1 q.2.2 hq hx, fun r2 e2 => by subst e2; exact fr_La_firstHolding_y2 q.1 q.2.1 q.2.2 hq hx⟩) FU _ x hg h
theorem fr_La_firstHolding {r : Int} {d' : Dt} (p1 : Int) (d : Dt) (hg : d GH 0 ≤ 6) (h : L_La_firstHolding p1 d = some (r, d')) : Fr wo_La_firstHolding [36] false d d' := by
  have f0 : Fr wo_La_firstHolding [36] false d d := Fr.rfl
  unfold L_La_firstHolding at h
  obtain ⟨x13_, hx14_, h⟩ := lb_some h
  have fx13_ := Fr.tr0 f0 (fr_La_firstHolding_l2 p1 0 d (Fr.g f0 hg) hx14_)
  rcases x13_ with d15_ | ⟨v17_, d18_⟩
  · have fd15_ : Fr wo_La_firstHolding [36] false d d15_ := fx13_
    replace h := sml_e h
    replace h := u0_e h
    obtain ⟨rfl, rfl⟩ := ret_inj h
    exact fd15_
  · have fd18_ : Fr wo_La_firstHolding [36] false d d18_ := fx13_
    replace h := smr_e h
    replace h := u1_e h
    obtain ⟨rfl, rfl⟩ := ret_inj h
    exact fd18_
/-! frames of La_rightNow -/
def wo_La_rightNow : List (Nat × Nat) := []
theorem fr_La_rightNow {r : Int} {d' : Dt} (d : Dt) (hg : d GH 0 ≤ 6) (h : L_La_rightNow d = some (r, d')) : Fr wo_La_rightNow [36] false d d' := by
  have f0 : Fr wo_La_rightNow [36] false d d := Fr.rfl
  unfold L_La_rightNow at h
  obtain ⟨r2_, d1_, hr3_, h⟩ := bd_some h
  have fd1_ : Fr wo_La_rightNow [36] false d d1_ := Fr.tr f0 (fr_La_closedBy  d (Fr.g f0 hg) hr3_) (by decide) (by decide) (by decide)
  rcases ite_some h with ⟨hc5_, h⟩ | ⟨hc5_, h⟩
  · obtain ⟨r7_, d6_, hr8_, h⟩ := bd_some h
    have fd6_ : Fr wo_La_rightNow [36] false d d6_ := Fr.tr fd1_ (fr_La_firstHolding 19 d1_ (Fr.g fd1_ hg) hr8_) (by decide) (by decide) (by decide)
    rcases ite_some h with ⟨hc10_, h⟩ | ⟨hc10_, h⟩
    · obtain ⟨r12_, d11_, hr13_, h⟩ := bd_some h
      have fd11_ : Fr wo_La_rightNow [36] false d d11_ := Fr.tr fd6_ (fr_La_firstHolding 17 d6_ (Fr.g fd6_ hg) hr13_) (by decide) (by decide) (by decide)
      rcases ite_some h with ⟨hc15_, h⟩ | ⟨hc15_, h⟩
      · obtain ⟨rfl, rfl⟩ := ret_inj h
        exact fd11_
      · obtain ⟨rfl, rfl⟩ := ret_inj h
        exact fd11_
    · obtain ⟨rfl, rfl⟩ := ret_inj h
      exact fd6_
  · obtain ⟨rfl, rfl⟩ := ret_inj h
    exact fd1_
/-! frames of PB_right -/
def wo_PB_right : List (Nat × Nat) := [(0, 0), (30, 6), (30, 7), (30, 8)]
theorem fr_PB_right {r : Int} {d' : Dt} (p1 p2 p3 p4 : Int) (d : Dt) (hg : d GH 0 ≤ 6) (h : L_PB_right p1 p2 p3 p4 d = some (r, d')) : Fr wo_PB_right [32, 33, 34, 35, 36] false d d' := by
  have f0 : Fr wo_PB_right [32, 33, 34, 35, 36] false d d := Fr.rfl
  unfold L_PB_right at h
  obtain ⟨r2_, d1_, hr3_, h⟩ := bd_some h
  have fd1_ : Fr wo_PB_right [32, 33, 34, 35, 36] false d d1_ := Fr.tr f0 (fr_PB_comerStatus p1 p2 p3 p4 d (Fr.g f0 hg) hr3_) (by decide) (by decide) (by decide)
  rcases ite_some h with ⟨hc6_, h⟩ | ⟨hc6_, h⟩
  · obtain ⟨r8_, d7_, hr9_, h⟩ := bd_some h
    have fd7_ : Fr wo_PB_right [32, 33, 34, 35, 36] false d d7_ := Fr.tr (Fr.upo fd1_ rfl (by decide)) (fr_La_bring p1 p2 p3 p4 (up2 d1_ 0 0 r2_) (Fr.g (Fr.upo fd1_ rfl (by decide)) hg) hr9_) (by decide) (by decide) (by decide)
    obtain ⟨r12_, d11_, hr13_, h⟩ := bd_some h
    have fd11_ : Fr wo_PB_right [32, 33, 34, 35, 36] false d d11_ := Fr.tr fd7_ (fr_La_rightNow  d7_ (Fr.g fd7_ hg) hr13_) (by decide) (by decide) (by decide)
    obtain ⟨rfl, rfl⟩ := ret_inj h
    exact fd11_
  · obtain ⟨rfl, rfl⟩ := ret_inj h
    exact (Fr.upo fd1_ rfl (by decide))
/-! frames of La_reasonNow -/
def wo_La_reasonNow : List (Nat × Nat) := []
theorem fr_La_reasonNow {r : Int} {d' : Dt} (d : Dt) (hg : d GH 0 ≤ 6) (h : L_La_reasonNow d = some (r, d')) : Fr wo_La_reasonNow [36] false d d' := by
  have f0 : Fr wo_La_reasonNow [36] false d d := Fr.rfl
  unfold L_La_reasonNow at h
  obtain ⟨r2_, d1_, hr3_, h⟩ := bd_some h
  have fd1_ : Fr wo_La_reasonNow [36] false d d1_ := Fr.tr f0 (fr_La_closedBy  d (Fr.g f0 hg) hr3_) (by decide) (by decide) (by decide)
  rcases ite_some h with ⟨hc5_, h⟩ | ⟨hc5_, h⟩
  · obtain ⟨r7_, d6_, hr8_, h⟩ := bd_some h
    have fd6_ : Fr wo_La_reasonNow [36] false d d6_ := Fr.tr fd1_ (fr_La_firstHolding 19 d1_ (Fr.g fd1_ hg) hr8_) (by decide) (by decide) (by decide)
    rcases ite_some h with ⟨hc10_, h⟩ | ⟨hc10_, h⟩
    · obtain ⟨r12_, d11_, hr13_, h⟩ := bd_some h
      have fd11_ : Fr wo_La_reasonNow [36] false d d11_ := Fr.tr fd6_ (fr_La_firstHolding 17 d6_ (Fr.g fd6_ hg) hr13_) (by decide) (by decide) (by decide)
      obtain ⟨rfl, rfl⟩ := ret_inj h
      exact fd11_
    · obtain ⟨rfl, rfl⟩ := ret_inj h
      exact fd6_
  · obtain ⟨rfl, rfl⟩ := ret_inj h
    exact fd1_
/-! frames of PB_why -/
def wo_PB_why : List (Nat × Nat) := [(0, 0), (30, 6), (30, 7), (30, 8)]
theorem fr_PB_why_b56 {r : Int} {d' : Dt} (x5 s1 : Int) (d : Dt) (hg : d GH 0 ≤ 6) (h : L_PB_why_b56 x5 s1 d = some (r, d')) : Fr wo_PB_why [32, 33, 34, 35, 36] false d d' := by
  have f0 : Fr wo_PB_why [32, 33, 34, 35, 36] false d d := Fr.rfl
  unfold L_PB_why_b56 at h
  obtain ⟨rfl, rfl⟩ := ret_inj h
  exact (Fr.upo f0 rfl (by decide))
theorem fr_PB_why {r : Int} {d' : Dt} (p1 p2 p3 p4 : Int) (d : Dt) (hg : d GH 0 ≤ 6) (h : L_PB_why p1 p2 p3 p4 d = some (r, d')) : Fr wo_PB_why [32, 33, 34, 35, 36] false d d' := by
  have f0 : Fr wo_PB_why [32, 33, 34, 35, 36] false d d := Fr.rfl
  unfold L_PB_why at h
  obtain ⟨r2_, d1_, hr3_, h⟩ := bd_some h
  have fd1_ : Fr wo_PB_why [32, 33, 34, 35, 36] false d d1_ := Fr.tr f0 (fr_PB_comerStatus p1 p2 p3 p4 d (Fr.g f0 hg) hr3_) (by decide) (by decide) (by decide)
  rcases ite_some h with ⟨hc6_, h⟩ | ⟨hc6_, h⟩
  · obtain ⟨r8_, d7_, hr9_, h⟩ := bd_some h
    have fd7_ : Fr wo_PB_why [32, 33, 34, 35, 36] false d d7_ := Fr.tr (Fr.upo fd1_ rfl (by decide)) (fr_La_bring p1 p2 p3 p4 (up2 d1_ 0 0 r2_) (Fr.g (Fr.upo fd1_ rfl (by decide)) hg) hr9_) (by decide) (by decide) (by decide)
    obtain ⟨r12_, d11_, hr13_, h⟩ := bd_some h
    have fd11_ : Fr wo_PB_why [32, 33, 34, 35, 36] false d d11_ := Fr.tr fd7_ (fr_La_reasonNow  d7_ (Fr.g fd7_ hg) hr13_) (by decide) (by decide) (by decide)
    rcases ite_some h with ⟨hc15_, h⟩ | ⟨hc15_, h⟩
    · exact Fr.tr0 fd11_ (fr_PB_why_b56 r12_ 6 d11_ (Fr.g fd11_ hg) h)
    · exact Fr.tr0 fd11_ (fr_PB_why_b56 r12_ 0 d11_ (Fr.g fd11_ hg) h)
  · obtain ⟨rfl, rfl⟩ := ret_inj h
    exact (Fr.upo fd1_ rfl (by decide))
/-! frames of La_voidNow -/
def wo_La_voidNow : List (Nat × Nat) := []
theorem fr_La_voidNow {r : Int} {d' : Dt} (d : Dt) (hg : d GH 0 ≤ 6) (h : L_La_voidNow d = some (r, d')) : Fr wo_La_voidNow [36] false d d' := by
  have f0 : Fr wo_La_voidNow [36] false d d := Fr.rfl
  unfold L_La_voidNow at h
  obtain ⟨r2_, d1_, hr3_, h⟩ := bd_some h
  have fd1_ : Fr wo_La_voidNow [36] false d d1_ := Fr.tr f0 (fr_La_firstHolding 20 d (Fr.g f0 hg) hr3_) (by decide) (by decide) (by decide)
  rcases ite_some h with ⟨hc5_, h⟩ | ⟨hc5_, h⟩
  · obtain ⟨rfl, rfl⟩ := ret_inj h
    exact fd1_
  · obtain ⟨rfl, rfl⟩ := ret_inj h
    exact fd1_
/-! frames of PB_voided -/
def wo_PB_voided : List (Nat × Nat) := [(0, 0), (30, 6), (30, 7), (30, 8)]
theorem fr_PB_voided {r : Int} {d' : Dt} (p1 p2 p3 p4 : Int) (d : Dt) (hg : d GH 0 ≤ 6) (h : L_PB_voided p1 p2 p3 p4 d = some (r, d')) : Fr wo_PB_voided [32, 33, 34, 35, 36] false d d' := by
  have f0 : Fr wo_PB_voided [32, 33, 34, 35, 36] false d d := Fr.rfl
  unfold L_PB_voided at h
  obtain ⟨r2_, d1_, hr3_, h⟩ := bd_some h
  have fd1_ : Fr wo_PB_voided [32, 33, 34, 35, 36] false d d1_ := Fr.tr f0 (fr_PB_comerStatus p1 p2 p3 p4 d (Fr.g f0 hg) hr3_) (by decide) (by decide) (by decide)
  rcases ite_some h with ⟨hc6_, h⟩ | ⟨hc6_, h⟩
  · obtain ⟨r8_, d7_, hr9_, h⟩ := bd_some h
    have fd7_ : Fr wo_PB_voided [32, 33, 34, 35, 36] false d d7_ := Fr.tr (Fr.upo fd1_ rfl (by decide)) (fr_La_bring p1 p2 p3 p4 (up2 d1_ 0 0 r2_) (Fr.g (Fr.upo fd1_ rfl (by decide)) hg) hr9_) (by decide) (by decide) (by decide)
    obtain ⟨r12_, d11_, hr13_, h⟩ := bd_some h
    have fd11_ : Fr wo_PB_voided [32, 33, 34, 35, 36] false d d11_ := Fr.tr fd7_ (fr_La_voidNow  d7_ (Fr.g fd7_ hg) hr13_) (by decide) (by decide) (by decide)
    obtain ⟨r16_, d15_, hr17_, h⟩ := bd_some h
    have fd15_ : Fr wo_PB_voided [32, 33, 34, 35, 36] false d d15_ := Fr.tr fd11_ (fr_PB_bit r12_ d11_ (Fr.g fd11_ hg) hr17_) (by decide) (by decide) (by decide)
    obtain ⟨rfl, rfl⟩ := ret_inj h
    exact fd15_
  · obtain ⟨rfl, rfl⟩ := ret_inj h
    exact (Fr.upo fd1_ rfl (by decide))
/-! frames of La_namesAt -/
def wo_La_namesAt : List (Nat × Nat) := [(30, 6), (30, 7), (30, 8)]
theorem fr_La_namesAt {r : Int} {d' : Dt} (p1 p2 : Int) (d : Dt) (hg : d GH 0 ≤ 6) (h : L_La_namesAt p1 p2 d = some (r, d')) : Fr wo_La_namesAt [32, 33, 34] false d d' := by
  have f0 : Fr wo_La_namesAt [32, 33, 34] false d d := Fr.rfl
  unfold L_La_namesAt at h
  obtain ⟨r2_, d1_, hr3_, h⟩ := bd_some h
  have fd1_ : Fr wo_La_namesAt [32, 33, 34] false d d1_ := Fr.tr f0 (fr_La_gather p1 p2 d (Fr.g f0 hg) hr3_) (by decide) (by decide) (by decide)
  obtain ⟨r6_, d5_, hr7_, h⟩ := bd_some h
  have fd5_ : Fr wo_La_namesAt [32, 33, 34] false d d5_ := Fr.tr fd1_ (fr_La_lastOf 21 d1_ (Fr.g fd1_ hg) hr7_) (by decide) (by decide) (by decide)
  rcases ite_some h with ⟨hc9_, h⟩ | ⟨hc9_, h⟩
  · obtain ⟨rfl, rfl⟩ := ret_inj h
    exact fd5_
  · obtain ⟨r11_, d10_, hr12_, h⟩ := bd_some h
    have fd10_ : Fr wo_La_namesAt [32, 33, 34] false d d10_ := Fr.tr fd5_ (fr_La_firstNumber r6_ d5_ (Fr.g fd5_ hg) hr12_) (by decide) (by decide) (by decide)
    obtain ⟨rfl, rfl⟩ := ret_inj h
    exact fd10_
/-! frames of PB_names -/
def wo_PB_names : List (Nat × Nat) := [(0, 0), (30, 6), (30, 7), (30, 8)]
theorem fr_PB_names_b20 {r : Int} {d' : Dt} (x1 x2 s1 : Int) (d : Dt) (hg : d GH 0 ≤ 6) (h : L_PB_names_b20 x1 x2 s1 d = some (r, d')) : Fr wo_PB_names [32, 33, 34] false d d' := by
  have f0 : Fr wo_PB_names [32, 33, 34] false d d := Fr.rfl
  unfold L_PB_names_b20 at h
  rcases ite_some h with ⟨hc2_, h⟩ | ⟨hc2_, h⟩
  · obtain ⟨r4_, d3_, hr5_, h⟩ := bd_some h
    have fd3_ : Fr wo_PB_names [32, 33, 34] false d d3_ := Fr.tr (Fr.upo f0 rfl (by decide)) (fr_La_namesAt x1 x2 (up2 d 0 0 s1) (Fr.g (Fr.upo f0 rfl (by decide)) hg) hr5_) (by decide) (by decide) (by decide)
    obtain ⟨rfl, rfl⟩ := ret_inj h
    exact fd3_
  · obtain ⟨rfl, rfl⟩ := ret_inj h
    exact (Fr.upo f0 rfl (by decide))
theorem fr_PB_names {r : Int} {d' : Dt} (p1 p2 : Int) (d : Dt) (hg : d GH 0 ≤ 6) (h : L_PB_names p1 p2 d = some (r, d')) : Fr wo_PB_names [32, 33, 34] false d d' := by
  have f0 : Fr wo_PB_names [32, 33, 34] false d d := Fr.rfl
  unfold L_PB_names at h
  obtain ⟨r8_, d7_, hr9_, h⟩ := bd_some h
  have fd7_ : Fr wo_PB_names [32, 33, 34] false d d7_ := Fr.tr f0 (fr_PB_isPlace p1 d (Fr.g f0 hg) hr9_) (by decide) (by decide) (by decide)
  rcases ite_some h with ⟨hc11_, h⟩ | ⟨hc11_, h⟩
  · exact Fr.tr0 fd7_ (fr_PB_names_b20 p1 p2 1 d7_ (Fr.g fd7_ hg) h)
  · obtain ⟨r13_, d12_, hr14_, h⟩ := bd_some h
    have fd12_ : Fr wo_PB_names [32, 33, 34] false d d12_ := Fr.tr fd7_ (fr_PB_isDay p2 d7_ (Fr.g fd7_ hg) hr14_) (by decide) (by decide) (by decide)
    rcases ite_some h with ⟨hc16_, h⟩ | ⟨hc16_, h⟩
    · exact Fr.tr0 fd12_ (fr_PB_names_b20 p1 p2 1 d12_ (Fr.g fd12_ hg) h)
    · exact Fr.tr0 fd12_ (fr_PB_names_b20 p1 p2 0 d12_ (Fr.g fd12_ hg) h)
/-! frames of PB_isSet -/
def wo_PB_isSet : List (Nat × Nat) := []
theorem fr_PB_isSet {r : Int} {d' : Dt} (p1 : Int) (d : Dt) (hg : d GH 0 ≤ 6) (h : L_PB_isSet p1 d = some (r, d')) : Fr wo_PB_isSet [] false d d' := by
  have f0 : Fr wo_PB_isSet [] false d d := Fr.rfl
  unfold L_PB_isSet at h
  obtain ⟨r2_, d1_, hr3_, h⟩ := bd_some h
  have fd1_ : Fr wo_PB_isSet [] false d d1_ := Fr.tr f0 (fr_PB_within p1 1 15 d (Fr.g f0 hg) hr3_) (by decide) (by decide) (by decide)
  obtain ⟨rfl, rfl⟩ := ret_inj h
  exact fd1_
/-! frames of Bo_isFull -/
def wo_Bo_isFull : List (Nat × Nat) := []
theorem fr_Bo_isFull {r : Int} {d' : Dt} (p1 : Int) (d : Dt) (hg : d GH 0 ≤ 6) (h : L_Bo_isFull p1 d = some (r, d')) : Fr wo_Bo_isFull [] false d d' := by
  have f0 : Fr wo_Bo_isFull [] false d d := Fr.rfl
  unfold L_Bo_isFull at h
  obtain ⟨hb1_, h⟩ := ck_some h
  rcases ite_some h with ⟨hc3_, h⟩ | ⟨hc3_, h⟩
  · obtain ⟨rfl, rfl⟩ := ret_inj h
    exact f0
  · obtain ⟨rfl, rfl⟩ := ret_inj h
    exact f0
/-! frames of Bo_costPlace -/
def wo_Bo_costPlace : List (Nat × Nat) := []
theorem fr_Bo_costPlace {r : Int} {d' : Dt} (p1 p2 p3 : Int) (d : Dt) (hg : d GH 0 ≤ 6) (h : L_Bo_costPlace p1 p2 p3 d = some (r, d')) : Fr wo_Bo_costPlace [] false d d' := by
  have f0 : Fr wo_Bo_costPlace [] false d d := Fr.rfl
  unfold L_Bo_costPlace at h
  obtain ⟨rfl, rfl⟩ := ret_inj h
  exact f0
/-! frames of Bo_setCost -/
def wo_Bo_setCost : List (Nat × Nat) := []
theorem fr_Bo_setCost_b120 {r : Int} {d' : Dt} (x1 x2 x3 x5 : Int) (d : Dt) (hg : d GH 0 ≤ 6) (h : L_Bo_setCost_b120 x1 x2 x3 x5 d = some (r, d')) : Fr wo_Bo_setCost [43, 48] false d d' := by
  have f0 : Fr wo_Bo_setCost [43, 48] false d d := Fr.rfl
  unfold L_Bo_setCost_b120 at h
  obtain ⟨r2_, d1_, hr3_, h⟩ := bd_some h
  have fd1_ : Fr wo_Bo_setCost [43, 48] false d d1_ := Fr.tr f0 (fr_Bo_costPlace x1 x2 x3 d (Fr.g f0 hg) hr3_) (by decide) (by decide) (by decide)
  obtain ⟨hb5_, h⟩ := ck_some h
  obtain ⟨rfl, rfl⟩ := ret_inj h
  exact (Fr.upa fd1_ rfl (by decide))
theorem fr_Bo_setCost_b72 {r : Int} {d' : Dt} (x1 x2 x3 x4 x5 : Int) (d : Dt) (hg : d GH 0 ≤ 6) (h : L_Bo_setCost_b72 x1 x2 x3 x4 x5 d = some (r, d')) : Fr wo_Bo_setCost [43, 48] false d d' := by
  have f0 : Fr wo_Bo_setCost [43, 48] false d d := Fr.rfl
  unfold L_Bo_setCost_b72 at h
  obtain ⟨hb6_, h⟩ := ck_some h
  obtain ⟨hb8_, h⟩ := ck_some h
  obtain ⟨v10_, ev11_, h⟩ := lt_some h
  obtain ⟨hb13_, h⟩ := ck_some h
  obtain ⟨hb15_, h⟩ := ck_some h
  rcases ite_some h with ⟨hc17_, h⟩ | ⟨hc17_, h⟩
  · exact Fr.tr0 f0 (fr_Bo_setCost_b120 x1 x2 x3 v10_ d (Fr.g f0 hg) h)
  · exact Fr.tr0 f0 (fr_Bo_setCost_b120 x1 x2 x3 (w32 (v10_ + 4)) d (Fr.g f0 hg) h)
theorem fr_Bo_setCost {r : Int} {d' : Dt} (p1 p2 p3 : Int) (d : Dt) (hg : d GH 0 ≤ 6) (h : L_Bo_setCost p1 p2 p3 d = some (r, d')) : Fr wo_Bo_setCost [43, 48] false d d' := by
  have f0 : Fr wo_Bo_setCost [43, 48] false d d := Fr.rfl
  unfold L_Bo_setCost at h
  obtain ⟨v18_, ev19_, h⟩ := lt_some h
  obtain ⟨hb21_, h⟩ := ck_some h
  obtain ⟨hb23_, h⟩ := ck_some h
  obtain ⟨r26_, d25_, hr27_, h⟩ := bd_some h
  have fd25_ : Fr wo_Bo_setCost [43, 48] false d d25_ := Fr.tr f0 (fr_PB_lettersApart 48 9 (d 38 p2.toNat) (d 38 v18_.toNat) d (Fr.g f0 hg) (by decide) hr27_) (by decide) (by decide) (by decide)
  obtain ⟨v29_, ev30_, h⟩ := lt_some h
  obtain ⟨hb32_, h⟩ := ck_some h
  rcases ite_some h with ⟨hc34_, h⟩ | ⟨hc34_, h⟩
  · exact Fr.tr0 fd25_ (fr_Bo_setCost_b72 p1 p2 p3 v18_ v29_ d25_ (Fr.g fd25_ hg) h)
  · obtain ⟨hb35_, h⟩ := ck_some h
    rcases ite_some h with ⟨hc37_, h⟩ | ⟨hc37_, h⟩
    · exact Fr.tr0 fd25_ (fr_Bo_setCost_b72 p1 p2 p3 v18_ v29_ d25_ (Fr.g fd25_ hg) h)
    · obtain ⟨hb38_, h⟩ := ck_some h
      obtain ⟨hb40_, h⟩ := ck_some h
      rcases ite_some h with ⟨hc42_, h⟩ | ⟨hc42_, h⟩
      · exact Fr.tr0 fd25_ (fr_Bo_setCost_b72 p1 p2 p3 v18_ v29_ d25_ (Fr.g fd25_ hg) h)
      · exact Fr.tr0 fd25_ (fr_Bo_setCost_b72 p1 p2 p3 v18_ (w32 (v29_ + 2)) d25_ (Fr.g fd25_ hg) h)
/-! frames of Bo_costAgainstOthers -/
def wo_Bo_costAgainstOthers : List (Nat × Nat) := []
def he_Bo_costAgainstOthers_9 (q : (Int × Int × Dt)) : Dt := q.2.2
def hb_Bo_costAgainstOthers_9 (o : (Int × Int × Int × Dt) ⊕ ((Int × Int × Dt))) : Dt := match o with
  | .inl q => q.2.2.2
  | .inr r => he_Bo_costAgainstOthers_9 r
def he_Bo_costAgainstOthers_2 (q : (Dt)) : Dt := q
def hb_Bo_costAgainstOthers_2 (o : (Int × Int × Dt) ⊕ ((Dt))) : Dt := match o with
  | .inl q => q.2.2
  | .inr r => he_Bo_costAgainstOthers_2 r
theorem fr_Bo_costAgainstOthers_y9 {o : (Int × Int × Int × Dt) ⊕ ((Int × Int × Dt))} (x1 x2 x3 : Int) (d : Dt) (hg : d GH 0 ≤ 6) (h : L_Bo_costAgainstOthers_y9 x1 x2 x3 d = some o) : Fr wo_Bo_costAgainstOthers [43, 48] false d (hb_Bo_costAgainstOthers_9 o) := by
  have f0 : Fr wo_Bo_costAgainstOthers [43, 48] false d d := Fr.rfl
  unfold L_Bo_costAgainstOthers_y9 at h
  obtain ⟨hb1_, h⟩ := ck_some h
  rcases ite_some h with ⟨hc3_, h⟩ | ⟨hc3_, h⟩
  · obtain ⟨r5_, d4_, hr6_, h⟩ := bd_some h
    have fd4_ : Fr wo_Bo_costAgainstOthers [43, 48] false d d4_ := Fr.tr f0 (fr_Bo_setCost x2 x1 x3 d (Fr.g f0 hg) hr6_) (by decide) (by decide) (by decide)
    obtain rfl := Option.some.inj h
    exact fd4_
  · obtain rfl := Option.some.inj h
    exact f0
theorem fr_Bo_costAgainstOthers_l9 {x : (Int × Int × Dt)} (x1 x2 x3 : Int) (d : Dt) (hg : d GH 0 ≤ 6) (h : L_Bo_costAgainstOthers_l9 x1 x2 x3 d = some x) : Fr wo_Bo_costAgainstOthers [43, 48] false d (he_Bo_costAgainstOthers_9 x) :=
  lpF_fr (f := fun q : Int × Int × Int × Dt => L_Bo_costAgainstOthers_y9 q.1 q.2.1 q.2.2.1 q.2.2.2) (fun q => q.2.2.2) he_Bo_costAgainstOthers_9 (fun q x hq hx => ⟨fun q2 e2 => by subst e2; exact fr_Bo_costAgainstOthers_y9 q.1 q.2.1 q.2.2.1 q.2.2.2 hq hx, fun r2 e2 => by subst e2; exact fr_Bo_costAgainstOthers_y9 q.1 q.2.1 q.2.2.1 q.2.2.2 hq hx⟩) FU _ x hg h
theorem fr_Bo_costAgainstOthers_y2 {o : (Int × Int × Dt) ⊕ ((Dt))} (x1 x2 : Int) (d : Dt) (hg : d GH 0 ≤ 6) (h : L_Bo_costAgainstOthers_y2 x1 x2 d = some o) : Fr wo_Bo_costAgainstOthers [43, 48] false d (hb_Bo_costAgainstOthers_2 o) := by
  have f0 : Fr wo_Bo_costAgainstOthers [43, 48] false d d := Fr.rfl
  unfold L_Bo_costAgainstOthers_y2 at h
  rcases ite_some h with ⟨hc8_, h⟩ | ⟨hc8_, h⟩
  · obtain ⟨x9_, hx10_, h⟩ := lb_some h
    have fx9_ := Fr.tr0 f0 (fr_Bo_costAgainstOthers_l9 x1 x2 0 d (Fr.g f0 hg) hx10_)
    obtain ⟨v11_, v12_, d13_⟩ := x9_
    have fd13_ : Fr wo_Bo_costAgainstOthers [43, 48] false d d13_ := fx9_
    replace h := u2_e h
    obtain rfl := Option.some.inj h
    exact fd13_
  · obtain rfl := Option.some.inj h
    exact f0
theorem fr_Bo_costAgainstOthers_l2 {x : (Dt)} (x1 x2 : Int) (d : Dt) (hg : d GH 0 ≤ 6) (h : L_Bo_costAgainstOthers_l2 x1 x2 d = some x) : Fr wo_Bo_costAgainstOthers [43, 48] false d (he_Bo_costAgainstOthers_2 x) :=
  lpF_fr (f := fun q : Int × Int × Dt => L_Bo_costAgainstOthers_y2 q.1 q.2.1 q.2.2) (fun q => q.2.2) he_Bo_costAgainstOthers_2 (fun q x hq hx => ⟨fun q2 e2 => by subst e2; exact fr_Bo_costAgainstOthers_y2 q.1 q.2.1 q.2.2 hq hx, fun r2 e2 => by subst e2; exact fr_Bo_costAgainstOthers_y2 q.1 q.2.1 q.2.2 hq hx⟩) FU _ x hg h
theorem fr_Bo_costAgainstOthers {r : Int} {d' : Dt} (p1 : Int) (d : Dt) (hg : d GH 0 ≤ 6) (h : L_Bo_costAgainstOthers p1 d = some (r, d')) : Fr wo_Bo_costAgainstOthers [43, 48] false d d' := by
  have f0 : Fr wo_Bo_costAgainstOthers [43, 48] false d d := Fr.rfl
  unfold L_Bo_costAgainstOthers at h
  obtain ⟨x16_, hx17_, h⟩ := lb_some h
  have fx16_ := Fr.tr0 f0 (fr_Bo_costAgainstOthers_l2 p1 1 d (Fr.g f0 hg) hx17_)
  obtain ⟨d18_, rfl⟩ : ∃ z, z = x16_ := ⟨_, rfl⟩
  have fd18_ : Fr wo_Bo_costAgainstOthers [43, 48] false d d18_ := fx16_
  replace h := u0_e h
  obtain ⟨rfl, rfl⟩ := ret_inj h
  exact fd18_
/-! frames of Bo_add -/
def wo_Bo_add : List (Nat × Nat) := [(37, 10)]
def he_Bo_add_83 (q : (Int × Dt)) : Dt := q.2
def hb_Bo_add_83 (o : (Int × Int × Int × Dt) ⊕ ((Int × Dt))) : Dt := match o with
  | .inl q => q.2.2.2
  | .inr r => he_Bo_add_83 r
theorem fr_Bo_add_y83 {o : (Int × Int × Int × Dt) ⊕ ((Int × Dt))} (x1 x7 x9 : Int) (d : Dt) (hg : d GH 0 ≤ 6) (h : L_Bo_add_y83 x1 x7 x9 d = some o) : Fr wo_Bo_add [38, 39, 40, 41, 42, 43, 48] false d (hb_Bo_add_83 o) := by
  have f0 : Fr wo_Bo_add [38, 39, 40, 41, 42, 43, 48] false d d := Fr.rfl
  unfold L_Bo_add_y83 at h
  rcases ite_some h with ⟨hc2_, h⟩ | ⟨hc2_, h⟩
  · obtain ⟨r4_, d3_, hr5_, h⟩ := bd_some h
    have fd3_ : Fr wo_Bo_add [38, 39, 40, 41, 42, 43, 48] false d d3_ := Fr.tr f0 (fr_Bo_setCost x1 x9 x7 d (Fr.g f0 hg) hr5_) (by decide) (by decide) (by decide)
    obtain rfl := Option.some.inj h
    exact fd3_
  · obtain rfl := Option.some.inj h
    exact f0
theorem fr_Bo_add_l83 {x : (Int × Dt)} (x1 x7 x9 : Int) (d : Dt) (hg : d GH 0 ≤ 6) (h : L_Bo_add_l83 x1 x7 x9 d = some x) : Fr wo_Bo_add [38, 39, 40, 41, 42, 43, 48] false d (he_Bo_add_83 x) :=
  lpF_fr (f := fun q : Int × Int × Int × Dt => L_Bo_add_y83 q.1 q.2.1 q.2.2.1 q.2.2.2) (fun q => q.2.2.2) he_Bo_add_83 (fun q x hq hx => ⟨fun q2 e2 => by subst e2; exact fr_Bo_add_y83 q.1 q.2.1 q.2.2.1 q.2.2.2 hq hx, fun r2 e2 => by subst e2; exact fr_Bo_add_y83 q.1 q.2.1 q.2.2.1 q.2.2.2 hq hx⟩) FU _ x hg h
theorem fr_Bo_add {r : Int} {d' : Dt} (p1 p2 p3 p4 p5 : Int) (d : Dt) (hg : d GH 0 ≤ 6) (h : L_Bo_add p1 p2 p3 p4 p5 d = some (r, d')) : Fr wo_Bo_add [38, 39, 40, 41, 42, 43, 48] false d d' := by
  have f0 : Fr wo_Bo_add [38, 39, 40, 41, 42, 43, 48] false d d := Fr.rfl
  unfold L_Bo_add at h
  obtain ⟨hb7_, h⟩ := ck_some h
  obtain ⟨v9_, ev10_, h⟩ := lt_some h
  obtain ⟨v12_, ev13_, h⟩ := lt_some h
  obtain ⟨hb15_, h⟩ := ck_some h
  obtain ⟨hb16_, h⟩ := ck_some h
  obtain ⟨hb17_, h⟩ := ck_some h
  obtain ⟨hb18_, h⟩ := ck_some h
  obtain ⟨hb19_, h⟩ := ck_some h
  obtain ⟨hb21_, h⟩ := ck_some h
  rcases ite_some h with ⟨hc22_, h⟩ | ⟨hc22_, h⟩
  · obtain ⟨r24_, d23_, hr25_, h⟩ := bd_some h
    have fd23_ : Fr wo_Bo_add [38, 39, 40, 41, 42, 43, 48] false d d23_ := Fr.tr (Fr.upo (Fr.upa (Fr.upa (Fr.upa (Fr.upa (Fr.upa f0 rfl (by decide)) rfl (by decide)) rfl (by decide)) rfl (by decide)) rfl (by decide)) rfl (by decide)) (fr_Bo_costAgainstOthers v9_ (up2 (up2 (up2 (up2 (up2 (up2 d 38 v12_.toNat p2) 39 v12_.toNat p3) 40 v12_.toNat p4) 41 v12_.toNat p5) 42 p1.toNat (w32 ((d 42 p1.toNat) + 1))) 37 10 0) (Fr.g (Fr.upo (Fr.upa (Fr.upa (Fr.upa (Fr.upa (Fr.upa f0 rfl (by decide)) rfl (by decide)) rfl (by decide)) rfl (by decide)) rfl (by decide)) rfl (by decide)) hg) hr25_) (by decide) (by decide) (by decide)
    obtain ⟨rfl, rfl⟩ := ret_inj h
    exact fd23_
  · obtain ⟨x27_, hx28_, h⟩ := lb_some h
    have fx27_ := Fr.tr0 (Fr.upo (Fr.upa (Fr.upa (Fr.upa (Fr.upa (Fr.upa f0 rfl (by decide)) rfl (by decide)) rfl (by decide)) rfl (by decide)) rfl (by decide)) rfl (by decide)) (fr_Bo_add_l83 p1 v9_ 0 (up2 (up2 (up2 (up2 (up2 (up2 d 38 v12_.toNat p2) 39 v12_.toNat p3) 40 v12_.toNat p4) 41 v12_.toNat p5) 42 p1.toNat (w32 ((d 42 p1.toNat) + 1))) 37 10 0) (Fr.g (Fr.upo (Fr.upa (Fr.upa (Fr.upa (Fr.upa (Fr.upa f0 rfl (by decide)) rfl (by decide)) rfl (by decide)) rfl (by decide)) rfl (by decide)) rfl (by decide)) hg) hx28_)
    obtain ⟨v29_, d30_⟩ := x27_
    have fd30_ : Fr wo_Bo_add [38, 39, 40, 41, 42, 43, 48] false d d30_ := fx27_
    replace h := u1_e h
    obtain ⟨rfl, rfl⟩ := ret_inj h
    exact fd30_
/-! frames of Po_meetEntry -/
def wo_Po_meetEntry : List (Nat × Nat) := []
def he_Po_meetEntry_17 (q : (Dt)) : Dt := q
def hb_Po_meetEntry_17 (o : (Int × Int × Dt) ⊕ ((Dt))) : Dt := match o with
  | .inl q => q.2.2
  | .inr r => he_Po_meetEntry_17 r
theorem fr_Po_meetEntry_y17 {o : (Int × Int × Dt) ⊕ ((Dt))} (x1 x2 : Int) (d : Dt) (hg : d GH 0 ≤ 6) (h : L_Po_meetEntry_y17 x1 x2 d = some o) : Fr wo_Po_meetEntry [50, 51, 52, 53] false d (hb_Po_meetEntry_17 o) := by
  have f0 : Fr wo_Po_meetEntry [50, 51, 52, 53] false d d := Fr.rfl
  unfold L_Po_meetEntry_y17 at h
  rcases ite_some h with ⟨hc2_, h⟩ | ⟨hc2_, h⟩
  · obtain ⟨r4_, d3_, hr5_, h⟩ := bd_some h
    have fd3_ : Fr wo_Po_meetEntry [50, 51, 52, 53] false d d3_ := Fr.tr f0 (fr_Po_compare x1 x2 d (Fr.g f0 hg) hr5_) (by decide) (by decide) (by decide)
    obtain rfl := Option.some.inj h
    exact fd3_
  · obtain rfl := Option.some.inj h
    exact f0
theorem fr_Po_meetEntry_l17 {x : (Dt)} (x1 x2 : Int) (d : Dt) (hg : d GH 0 ≤ 6) (h : L_Po_meetEntry_l17 x1 x2 d = some x) : Fr wo_Po_meetEntry [50, 51, 52, 53] false d (he_Po_meetEntry_17 x) :=
  lpF_fr (f := fun q : Int × Int × Dt => L_Po_meetEntry_y17 q.1 q.2.1 q.2.2) (fun q => q.2.2) he_Po_meetEntry_17 (fun q x hq hx => ⟨fun q2 e2 => by subst e2; exact fr_Po_meetEntry_y17 q.1 q.2.1 q.2.2 hq hx, fun r2 e2 => by subst e2; exact fr_Po_meetEntry_y17 q.1 q.2.1 q.2.2 hq hx⟩) FU _ x hg h
theorem fr_Po_meetEntry {r : Int} {d' : Dt} (p1 : Int) (d : Dt) (hg : d GH 0 ≤ 6) (h : L_Po_meetEntry p1 d = some (r, d')) : Fr wo_Po_meetEntry [50, 51, 52, 53] false d d' := by
  have f0 : Fr wo_Po_meetEntry [50, 51, 52, 53] false d d := Fr.rfl
  unfold L_Po_meetEntry at h
  obtain ⟨hb7_, h⟩ := ck_some h
  obtain ⟨hb8_, h⟩ := ck_some h
  obtain ⟨x9_, hx10_, h⟩ := lb_some h
  have fx9_ := Fr.tr0 (Fr.upa (Fr.upa f0 rfl (by decide)) rfl (by decide)) (fr_Po_meetEntry_l17 p1 0 (up2 (up2 d 50 p1.toNat (-1)) 51 p1.toNat 31) (Fr.g (Fr.upa (Fr.upa f0 rfl (by decide)) rfl (by decide)) hg) hx10_)
  obtain ⟨d11_, rfl⟩ : ∃ z, z = x9_ := ⟨_, rfl⟩
  have fd11_ : Fr wo_Po_meetEntry [50, 51, 52, 53] false d d11_ := fx9_
  replace h := u0_e h
  obtain ⟨rfl, rfl⟩ := ret_inj h
  exact fd11_
/-! frames of PB_entry -/
def wo_PB_entry : List (Nat × Nat) := [(0, 0), (37, 10)]
theorem fr_PB_entry_b83 {r : Int} {d' : Dt} (x1 x2 x4 x5 x6 s1 : Int) (d : Dt) (hg : d GH 0 ≤ 6) (h : L_PB_entry_b83 x1 x2 x4 x5 x6 s1 d = some (r, d')) : Fr wo_PB_entry [38, 39, 40, 41, 42, 43, 48, 50, 51, 52, 53] false d d' := by
  have f0 : Fr wo_PB_entry [38, 39, 40, 41, 42, 43, 48, 50, 51, 52, 53] false d d := Fr.rfl
  unfold L_PB_entry_b83 at h
  rcases ite_some h with ⟨hc2_, h⟩ | ⟨hc2_, h⟩
  · obtain ⟨r4_, d3_, hr5_, h⟩ := bd_some h
    have fd3_ : Fr wo_PB_entry [38, 39, 40, 41, 42, 43, 48, 50, 51, 52, 53] false d d3_ := Fr.tr (Fr.upo f0 rfl (by decide)) (fr_Bo_add x1 x2 x4 x5 x6 (up2 d 0 0 s1) (Fr.g (Fr.upo f0 rfl (by decide)) hg) hr5_) (by decide) (by decide) (by decide)
    rcases ite_some h with ⟨hc7_, h⟩ | ⟨hc7_, h⟩
    · obtain ⟨r9_, d8_, hr10_, h⟩ := bd_some h
      have fd8_ : Fr wo_PB_entry [38, 39, 40, 41, 42, 43, 48, 50, 51, 52, 53] false d d8_ := Fr.tr fd3_ (fr_Po_meetEntry r4_ d3_ (Fr.g fd3_ hg) hr10_) (by decide) (by decide) (by decide)
      obtain ⟨rfl, rfl⟩ := ret_inj h
      exact fd8_
    · obtain ⟨rfl, rfl⟩ := ret_inj h
      exact fd3_
  · obtain ⟨rfl, rfl⟩ := ret_inj h
    exact (Fr.upo f0 rfl (by decide))
theorem fr_PB_entry_b55 {r : Int} {d' : Dt} (x1 x2 x4 x5 x6 s0 : Int) (d : Dt) (hg : d GH 0 ≤ 6) (h : L_PB_entry_b55 x1 x2 x4 x5 x6 s0 d = some (r, d')) : Fr wo_PB_entry [38, 39, 40, 41, 42, 43, 48, 50, 51, 52, 53] false d d' := by
  have f0 : Fr wo_PB_entry [38, 39, 40, 41, 42, 43, 48, 50, 51, 52, 53] false d d := Fr.rfl
  unfold L_PB_entry_b55 at h
  rcases ite_some h with ⟨hc12_, h⟩ | ⟨hc12_, h⟩
  · exact Fr.tr0 f0 (fr_PB_entry_b83 x1 x2 x4 x5 x6 1 d (Fr.g f0 hg) h)
  · obtain ⟨r14_, d13_, hr15_, h⟩ := bd_some h
    have fd13_ : Fr wo_PB_entry [38, 39, 40, 41, 42, 43, 48, 50, 51, 52, 53] false d d13_ := Fr.tr f0 (fr_Bo_isFull x1 d (Fr.g f0 hg) hr15_) (by decide) (by decide) (by decide)
    rcases ite_some h with ⟨hc17_, h⟩ | ⟨hc17_, h⟩
    · exact Fr.tr0 fd13_ (fr_PB_entry_b83 x1 x2 x4 x5 x6 0 d13_ (Fr.g fd13_ hg) h)
    · exact Fr.tr0 fd13_ (fr_PB_entry_b83 x1 x2 x4 x5 x6 4 d13_ (Fr.g fd13_ hg) h)
theorem fr_PB_entry {r : Int} {d' : Dt} (p1 p2 p3 p4 p5 : Int) (d : Dt) (hg : d GH 0 ≤ 6) (h : L_PB_entry p1 p2 p3 p4 p5 d = some (r, d')) : Fr wo_PB_entry [38, 39, 40, 41, 42, 43, 48, 50, 51, 52, 53] false d d' := by
  have f0 : Fr wo_PB_entry [38, 39, 40, 41, 42, 43, 48, 50, 51, 52, 53] false d d := Fr.rfl
  unfold L_PB_entry at h
  obtain ⟨r19_, d18_, hr20_, h⟩ := bd_some h
  have fd18_ : Fr wo_PB_entry [38, 39, 40, 41, 42, 43, 48, 50, 51, 52, 53] false d d18_ := Fr.tr f0 (fr_PB_within p1 0 2 d (Fr.g f0 hg) hr20_) (by decide) (by decide) (by decide)
  rcases ite_some h with ⟨hc22_, h⟩ | ⟨hc22_, h⟩
  · exact Fr.tr0 fd18_ (fr_PB_entry_b55 p1 p2 p3 p4 p5 0 d18_ (Fr.g fd18_ hg) h)
  · obtain ⟨r24_, d23_, hr25_, h⟩ := bd_some h
    have fd23_ : Fr wo_PB_entry [38, 39, 40, 41, 42, 43, 48, 50, 51, 52, 53] false d d23_ := Fr.tr fd18_ (fr_PB_isName p2 d18_ (Fr.g fd18_ hg) hr25_) (by decide) (by decide) (by decide)
    rcases ite_some h with ⟨hc27_, h⟩ | ⟨hc27_, h⟩
    · exact Fr.tr0 fd23_ (fr_PB_entry_b55 p1 p2 p3 p4 p5 0 d23_ (Fr.g fd23_ hg) h)
    · obtain ⟨r29_, d28_, hr30_, h⟩ := bd_some h
      have fd28_ : Fr wo_PB_entry [38, 39, 40, 41, 42, 43, 48, 50, 51, 52, 53] false d d28_ := Fr.tr fd23_ (fr_PB_within p3 (-1) 19 d23_ (Fr.g fd23_ hg) hr30_) (by decide) (by decide) (by decide)
      rcases ite_some h with ⟨hc32_, h⟩ | ⟨hc32_, h⟩
      · exact Fr.tr0 fd28_ (fr_PB_entry_b55 p1 p2 p3 p4 p5 0 d28_ (Fr.g fd28_ hg) h)
      · obtain ⟨r34_, d33_, hr35_, h⟩ := bd_some h
        have fd33_ : Fr wo_PB_entry [38, 39, 40, 41, 42, 43, 48, 50, 51, 52, 53] false d d33_ := Fr.tr fd28_ (fr_PB_isMinute p4 d28_ (Fr.g fd28_ hg) hr35_) (by decide) (by decide) (by decide)
        rcases ite_some h with ⟨hc37_, h⟩ | ⟨hc37_, h⟩
        · exact Fr.tr0 fd33_ (fr_PB_entry_b55 p1 p2 p3 p4 p5 0 d33_ (Fr.g fd33_ hg) h)
        · obtain ⟨r39_, d38_, hr40_, h⟩ := bd_some h
          have fd38_ : Fr wo_PB_entry [38, 39, 40, 41, 42, 43, 48, 50, 51, 52, 53] false d d38_ := Fr.tr fd33_ (fr_PB_isSet p5 d33_ (Fr.g fd33_ hg) hr40_) (by decide) (by decide) (by decide)
          rcases ite_some h with ⟨hc42_, h⟩ | ⟨hc42_, h⟩
          · exact Fr.tr0 fd38_ (fr_PB_entry_b55 p1 p2 p3 p4 p5 0 d38_ (Fr.g fd38_ hg) h)
          · exact Fr.tr0 fd38_ (fr_PB_entry_b55 p1 p2 p3 p4 p5 1 d38_ (Fr.g fd38_ hg) h)
/-! frames of Bo_weigh -/
def wo_Bo_weigh : List (Nat × Nat) := []
def he_Bo_weigh_25 (q : (Int × Int × Int × Int × Dt)) : Dt := q.2.2.2.2
def hb_Bo_weigh_25 (o : (Int × Int × Int × Int × Int × Dt) ⊕ ((Int × Int × Int × Int × Dt))) : Dt := match o with
  | .inl q => q.2.2.2.2.2
  | .inr r => he_Bo_weigh_25 r
def he_Bo_weigh_17 (q : (Int × Dt)) : Dt := q.2
def hb_Bo_weigh_17 (o : (Int × Int × Int × Int × Dt) ⊕ ((Int × Dt))) : Dt := match o with
  | .inl q => q.2.2.2.2
  | .inr r => he_Bo_weigh_17 r
theorem fr_Bo_weigh_b136 {o : (Int × Int × Int × Int × Int × Dt) ⊕ ((Int × Int × Int × Int × Dt))} (x1 x2 x3 x4 x5 x6 : Int) (d : Dt) (hg : d GH 0 ≤ 6) (h : L_Bo_weigh_b136 x1 x2 x3 x4 x5 x6 d = some o) : Fr wo_Bo_weigh [44, 45] false d (hb_Bo_weigh_25 o) := by
  have f0 : Fr wo_Bo_weigh [44, 45] false d d := Fr.rfl
  unfold L_Bo_weigh_b136 at h
  obtain ⟨hb1_, h⟩ := ck_some h
  obtain rfl := Option.some.inj h
  exact (Fr.upa f0 rfl (by decide))
theorem fr_Bo_weigh_y25 {o : (Int × Int × Int × Int × Int × Dt) ⊕ ((Int × Int × Int × Int × Dt))} (x1 x2 x3 x4 x5 : Int) (d : Dt) (hg : d GH 0 ≤ 6) (h : L_Bo_weigh_y25 x1 x2 x3 x4 x5 d = some o) : Fr wo_Bo_weigh [44, 45] false d (hb_Bo_weigh_25 o) := by
  have f0 : Fr wo_Bo_weigh [44, 45] false d d := Fr.rfl
  unfold L_Bo_weigh_y25 at h
  rcases ite_some h with ⟨hc2_, h⟩ | ⟨hc2_, h⟩
  · obtain rfl := Option.some.inj h
    exact f0
  · obtain ⟨v3_, ev4_, h⟩ := lt_some h
    rcases ite_some h with ⟨hc6_, h⟩ | ⟨hc6_, h⟩
    · rcases ite_some h with ⟨hc7_, h⟩ | ⟨hc7_, h⟩
      · obtain ⟨hb8_, h⟩ := ck_some h
        obtain ⟨hb10_, h⟩ := ck_some h
        obtain ⟨v12_, ev13_, h⟩ := lt_some h
        obtain ⟨r16_, d15_, hr17_, h⟩ := bd_some h
        have fd15_ : Fr wo_Bo_weigh [44, 45] false d d15_ := Fr.tr f0 (fr_Bo_costPlace x1 x4 x5 d (Fr.g f0 hg) hr17_) (by decide) (by decide) (by decide)
        obtain ⟨hb19_, h⟩ := ck_some h
        obtain ⟨hb21_, h⟩ := ck_some h
        obtain ⟨v23_, ev24_, h⟩ := lt_some h
        obtain ⟨v26_, ev27_, h⟩ := lt_some h
        exact Fr.tr0 fd15_ (fr_Bo_weigh_b136 x1 x2 x3 x4 x5 v26_ d15_ (Fr.g fd15_ hg) h)
      · exact Fr.tr0 f0 (fr_Bo_weigh_b136 x1 x2 x3 x4 x5 v3_ d (Fr.g f0 hg) h)
    · exact Fr.tr0 f0 (fr_Bo_weigh_b136 x1 x2 x3 x4 x5 v3_ d (Fr.g f0 hg) h)
theorem fr_Bo_weigh_l25 {x : (Int × Int × Int × Int × Dt)} (x1 x2 x3 x4 x5 : Int) (d : Dt) (hg : d GH 0 ≤ 6) (h : L_Bo_weigh_l25 x1 x2 x3 x4 x5 d = some x) : Fr wo_Bo_weigh [44, 45] false d (he_Bo_weigh_25 x) :=
  lpF_fr (f := fun q : Int × Int × Int × Int × Int × Dt => L_Bo_weigh_y25 q.1 q.2.1 q.2.2.1 q.2.2.2.1 q.2.2.2.2.1 q.2.2.2.2.2) (fun q => q.2.2.2.2.2) he_Bo_weigh_25 (fun q x hq hx => ⟨fun q2 e2 => by subst e2; exact fr_Bo_weigh_y25 q.1 q.2.1 q.2.2.1 q.2.2.2.1 q.2.2.2.2.1 q.2.2.2.2.2 hq hx, fun r2 e2 => by subst e2; exact fr_Bo_weigh_y25 q.1 q.2.1 q.2.2.1 q.2.2.2.1 q.2.2.2.2.1 q.2.2.2.2.2 hq hx⟩) FU _ x hg h
theorem fr_Bo_weigh_y17 {o : (Int × Int × Int × Int × Dt) ⊕ ((Int × Dt))} (x1 x2 x3 x4 : Int) (d : Dt) (hg : d GH 0 ≤ 6) (h : L_Bo_weigh_y17 x1 x2 x3 x4 d = some o) : Fr wo_Bo_weigh [44, 45] false d (hb_Bo_weigh_17 o) := by
  have f0 : Fr wo_Bo_weigh [44, 45] false d d := Fr.rfl
  unfold L_Bo_weigh_y17 at h
  rcases ite_some h with ⟨hc29_, h⟩ | ⟨hc29_, h⟩
  · obtain rfl := Option.some.inj h
    exact f0
  · obtain ⟨x30_, hx31_, h⟩ := lb_some h
    have fx30_ := Fr.tr0 f0 (fr_Bo_weigh_l25 x1 x2 x3 x4 x3 d (Fr.g f0 hg) hx31_)
    obtain ⟨v32_, v33_, v34_, v35_, d36_⟩ := x30_
    have fd36_ : Fr wo_Bo_weigh [44, 45] false d d36_ := fx30_
    replace h := u4_e h
    obtain rfl := Option.some.inj h
    exact fd36_
theorem fr_Bo_weigh_l17 {x : (Int × Dt)} (x1 x2 x3 x4 : Int) (d : Dt) (hg : d GH 0 ≤ 6) (h : L_Bo_weigh_l17 x1 x2 x3 x4 d = some x) : Fr wo_Bo_weigh [44, 45] false d (he_Bo_weigh_17 x) :=
  lpF_fr (f := fun q : Int × Int × Int × Int × Dt => L_Bo_weigh_y17 q.1 q.2.1 q.2.2.1 q.2.2.2.1 q.2.2.2.2) (fun q => q.2.2.2.2) he_Bo_weigh_17 (fun q x hq hx => ⟨fun q2 e2 => by subst e2; exact fr_Bo_weigh_y17 q.1 q.2.1 q.2.2.1 q.2.2.2.1 q.2.2.2.2 hq hx, fun r2 e2 => by subst e2; exact fr_Bo_weigh_y17 q.1 q.2.1 q.2.2.1 q.2.2.2.1 q.2.2.2.2 hq hx⟩) FU _ x hg h
theorem fr_Bo_weigh {r : Int} {d' : Dt} (p1 : Int) (d : Dt) (hg : d GH 0 ≤ 6) (h : L_Bo_weigh p1 d = some (r, d')) : Fr wo_Bo_weigh [44, 45] false d d' := by
  have f0 : Fr wo_Bo_weigh [44, 45] false d d := Fr.rfl
  unfold L_Bo_weigh at h
  obtain ⟨v40_, ev41_, h⟩ := lt_some h
  obtain ⟨hb43_, h⟩ := ck_some h
  obtain ⟨v45_, ev46_, h⟩ := lt_some h
  obtain ⟨x48_, hx49_, h⟩ := lb_some h
  have fx48_ := Fr.tr0 f0 (fr_Bo_weigh_l17 p1 v40_ v45_ v40_ d (Fr.g f0 hg) hx49_)
  obtain ⟨v50_, d51_⟩ := x48_
  have fd51_ : Fr wo_Bo_weigh [44, 45] false d d51_ := fx48_
  replace h := u1_e h
  obtain ⟨hb54_, h⟩ := ck_some h
  obtain ⟨rfl, rfl⟩ := ret_inj h
  exact (Fr.upa fd51_ rfl (by decide))
/-! frames of Bo_pair -/
def wo_Bo_pair : List (Nat × Nat) := []
def he_Bo_pair_20 (q : (Int × Int × Int × Int × Dt)) : Dt := q.2.2.2.2
def hb_Bo_pair_20 (o : (Int × Int × Int × Int × Int × Dt) ⊕ ((Int × Int × Int × Int × Dt))) : Dt := match o with
  | .inl q => q.2.2.2.2.2
  | .inr r => he_Bo_pair_20 r
def he_Bo_pair_4 (q : (Dt)) : Dt := q
def hb_Bo_pair_4 (o : (Int × Int × Int × Dt) ⊕ ((Dt))) : Dt := match o with
  | .inl q => q.2.2.2
  | .inr r => he_Bo_pair_4 r
theorem fr_Bo_pair_b100 {o : (Int × Int × Int × Int × Int × Dt) ⊕ ((Int × Int × Int × Int × Dt))} (x1 x2 x3 x4 x5 : Int) (d : Dt) (hg : d GH 0 ≤ 6) (h : L_Bo_pair_b100 x1 x2 x3 x4 x5 d = some o) : Fr wo_Bo_pair [46] false d (hb_Bo_pair_20 o) := by
  have f0 : Fr wo_Bo_pair [46] false d d := Fr.rfl
  unfold L_Bo_pair_b100 at h
  obtain rfl := Option.some.inj h
  exact f0
theorem fr_Bo_pair_y20 {o : (Int × Int × Int × Int × Int × Dt) ⊕ ((Int × Int × Int × Int × Dt))} (x1 x2 x3 x4 x5 : Int) (d : Dt) (hg : d GH 0 ≤ 6) (h : L_Bo_pair_y20 x1 x2 x3 x4 x5 d = some o) : Fr wo_Bo_pair [46] false d (hb_Bo_pair_20 o) := by
  have f0 : Fr wo_Bo_pair [46] false d d := Fr.rfl
  unfold L_Bo_pair_y20 at h
  obtain ⟨hb1_, h⟩ := ck_some h
  rcases ite_some h with ⟨hc3_, h⟩ | ⟨hc3_, h⟩
  · rcases ite_some h with ⟨hc4_, h⟩ | ⟨hc4_, h⟩
    · obtain ⟨v5_, ev6_, h⟩ := lt_some h
      obtain ⟨r9_, d8_, hr10_, h⟩ := bd_some h
      have fd8_ : Fr wo_Bo_pair [46] false d d8_ := Fr.tr f0 (fr_Bo_costPlace x1 x3 x5 d (Fr.g f0 hg) hr10_) (by decide) (by decide) (by decide)
      obtain ⟨hb12_, h⟩ := ck_some h
      obtain ⟨hb14_, h⟩ := ck_some h
      obtain ⟨v16_, ev17_, h⟩ := lt_some h
      obtain ⟨hb19_, h⟩ := ck_some h
      rcases ite_some h with ⟨hc21_, h⟩ | ⟨hc21_, h⟩
      · exact Fr.tr0 fd8_ (fr_Bo_pair_b100 x1 x2 x3 x5 x5 d8_ (Fr.g fd8_ hg) h)
      · exact Fr.tr0 fd8_ (fr_Bo_pair_b100 x1 x2 x3 x4 x5 d8_ (Fr.g fd8_ hg) h)
    · obtain rfl := Option.some.inj h
      exact f0
  · obtain rfl := Option.some.inj h
    exact f0
theorem fr_Bo_pair_l20 {x : (Int × Int × Int × Int × Dt)} (x1 x2 x3 x4 x5 : Int) (d : Dt) (hg : d GH 0 ≤ 6) (h : L_Bo_pair_l20 x1 x2 x3 x4 x5 d = some x) : Fr wo_Bo_pair [46] false d (he_Bo_pair_20 x) :=
  lpF_fr (f := fun q : Int × Int × Int × Int × Int × Dt => L_Bo_pair_y20 q.1 q.2.1 q.2.2.1 q.2.2.2.1 q.2.2.2.2.1 q.2.2.2.2.2) (fun q => q.2.2.2.2.2) he_Bo_pair_20 (fun q x hq hx => ⟨fun q2 e2 => by subst e2; exact fr_Bo_pair_y20 q.1 q.2.1 q.2.2.1 q.2.2.2.1 q.2.2.2.2.1 q.2.2.2.2.2 hq hx, fun r2 e2 => by subst e2; exact fr_Bo_pair_y20 q.1 q.2.1 q.2.2.1 q.2.2.2.1 q.2.2.2.2.1 q.2.2.2.2.2 hq hx⟩) FU _ x hg h
theorem fr_Bo_pair_b133 {o : (Int × Int × Int × Dt) ⊕ ((Dt))} (x1 x3 s0 : Int) (d : Dt) (hg : d GH 0 ≤ 6) (h : L_Bo_pair_b133 x1 x3 s0 d = some o) : Fr wo_Bo_pair [46] false d (hb_Bo_pair_4 o) := by
  have f0 : Fr wo_Bo_pair [46] false d d := Fr.rfl
  unfold L_Bo_pair_b133 at h
  obtain rfl := Option.some.inj h
  exact f0
theorem fr_Bo_pair_b106 {o : (Int × Int × Int × Dt) ⊕ ((Dt))} (x1 x2 x3 x4 : Int) (d : Dt) (hg : d GH 0 ≤ 6) (h : L_Bo_pair_b106 x1 x2 x3 x4 d = some o) : Fr wo_Bo_pair [46] false d (hb_Bo_pair_4 o) := by
  have f0 : Fr wo_Bo_pair [46] false d d := Fr.rfl
  unfold L_Bo_pair_b106 at h
  obtain ⟨hb22_, h⟩ := ck_some h
  rcases ite_some h with ⟨hc23_, h⟩ | ⟨hc23_, h⟩
  · exact Fr.tr0 (Fr.upa f0 rfl (by decide)) (fr_Bo_pair_b133 x1 x3 x2 (up2 d 46 ((w32 ((w32 (x1 * 30)) + x3))).toNat x4) (Fr.g (Fr.upa f0 rfl (by decide)) hg) h)
  · exact Fr.tr0 (Fr.upa f0 rfl (by decide)) (fr_Bo_pair_b133 x1 x3 (w32 (x4 + 1)) (up2 d 46 ((w32 ((w32 (x1 * 30)) + x3))).toNat x4) (Fr.g (Fr.upa f0 rfl (by decide)) hg) h)
theorem fr_Bo_pair_y4 {o : (Int × Int × Int × Dt) ⊕ ((Dt))} (x1 x2 x3 : Int) (d : Dt) (hg : d GH 0 ≤ 6) (h : L_Bo_pair_y4 x1 x2 x3 d = some o) : Fr wo_Bo_pair [46] false d (hb_Bo_pair_4 o) := by
  have f0 : Fr wo_Bo_pair [46] false d d := Fr.rfl
  unfold L_Bo_pair_y4 at h
  rcases ite_some h with ⟨hc25_, h⟩ | ⟨hc25_, h⟩
  · obtain ⟨x26_, hx27_, h⟩ := lb_some h
    have fx26_ := Fr.tr0 f0 (fr_Bo_pair_l20 x1 x2 x3 (-1) x2 d (Fr.g f0 hg) hx27_)
    obtain ⟨v28_, v29_, v30_, v31_, d32_⟩ := x26_
    have fd32_ : Fr wo_Bo_pair [46] false d d32_ := fx26_
    replace h := u4_e h
    exact Fr.tr0 fd32_ (fr_Bo_pair_b106 v28_ v29_ v30_ v31_ d32_ (Fr.g fd32_ hg) h)
  · obtain rfl := Option.some.inj h
    exact f0
theorem fr_Bo_pair_l4 {x : (Dt)} (x1 x2 x3 : Int) (d : Dt) (hg : d GH 0 ≤ 6) (h : L_Bo_pair_l4 x1 x2 x3 d = some x) : Fr wo_Bo_pair [46] false d (he_Bo_pair_4 x) :=
  lpF_fr (f := fun q : Int × Int × Int × Dt => L_Bo_pair_y4 q.1 q.2.1 q.2.2.1 q.2.2.2) (fun q => q.2.2.2) he_Bo_pair_4 (fun q x hq hx => ⟨fun q2 e2 => by subst e2; exact fr_Bo_pair_y4 q.1 q.2.1 q.2.2.1 q.2.2.2 hq hx, fun r2 e2 => by subst e2; exact fr_Bo_pair_y4 q.1 q.2.1 q.2.2.1 q.2.2.2 hq hx⟩) FU _ x hg h
theorem fr_Bo_pair {r : Int} {d' : Dt} (p1 : Int) (d : Dt) (hg : d GH 0 ≤ 6) (h : L_Bo_pair p1 d = some (r, d')) : Fr wo_Bo_pair [46] false d d' := by
  have f0 : Fr wo_Bo_pair [46] false d d := Fr.rfl
  unfold L_Bo_pair at h
  obtain ⟨x35_, hx36_, h⟩ := lb_some h
  have fx35_ := Fr.tr0 f0 (fr_Bo_pair_l4 p1 0 0 d (Fr.g f0 hg) hx36_)
  obtain ⟨d37_, rfl⟩ : ∃ z, z = x35_ := ⟨_, rfl⟩
  have fd37_ : Fr wo_Bo_pair [46] false d d37_ := fx35_
  replace h := u0_e h
  obtain ⟨rfl, rfl⟩ := ret_inj h
  exact fd37_
/-! frames of Bo_majority -/
def wo_Bo_majority : List (Nat × Nat) := []
def he_Bo_majority_27 (q : (Int × Int × Int × Int × Int × Dt)) : Dt := q.2.2.2.2.2
def hb_Bo_majority_27 (o : (Int × Int × Int × Int × Int × Int × Dt) ⊕ ((Int × Int × Int × Int × Int × Dt))) : Dt := match o with
  | .inl q => q.2.2.2.2.2.2
  | .inr r => he_Bo_majority_27 r
def he_Bo_majority_4 (q : (Int × Dt)) : Dt := q.2
def hb_Bo_majority_4 (o : (Int × Int × Int × Dt) ⊕ ((Int × Dt))) : Dt := match o with
  | .inl q => q.2.2.2
  | .inr r => he_Bo_majority_4 r
theorem fr_Bo_majority_b78 {o : (Int × Int × Int × Int × Int × Int × Dt) ⊕ ((Int × Int × Int × Int × Int × Dt))} (x1 x2 x3 x4 x5 x6 : Int) (d : Dt) (hg : d GH 0 ≤ 6) (h : L_Bo_majority_b78 x1 x2 x3 x4 x5 x6 d = some o) : Fr wo_Bo_majority [] false d (hb_Bo_majority_27 o) := by
  have f0 : Fr wo_Bo_majority [] false d d := Fr.rfl
  unfold L_Bo_majority_b78 at h
  obtain rfl := Option.some.inj h
  exact f0
theorem fr_Bo_majority_y27 {o : (Int × Int × Int × Int × Int × Int × Dt) ⊕ ((Int × Int × Int × Int × Int × Dt))} (x1 x2 x3 x4 x5 x6 : Int) (d : Dt) (hg : d GH 0 ≤ 6) (h : L_Bo_majority_y27 x1 x2 x3 x4 x5 x6 d = some o) : Fr wo_Bo_majority [] false d (hb_Bo_majority_27 o) := by
  have f0 : Fr wo_Bo_majority [] false d d := Fr.rfl
  unfold L_Bo_majority_y27 at h
  rcases ite_some h with ⟨hc1_, h⟩ | ⟨hc1_, h⟩
  · obtain ⟨hb2_, h⟩ := ck_some h
    obtain ⟨v4_, ev5_, h⟩ := lt_some h
    rcases ite_some h with ⟨hc7_, h⟩ | ⟨hc7_, h⟩
    · exact Fr.tr0 f0 (fr_Bo_majority_b78 x1 x2 x3 x4 x5 x6 d (Fr.g f0 hg) h)
    · obtain ⟨hb8_, h⟩ := ck_some h
      obtain ⟨v10_, ev11_, h⟩ := lt_some h
      exact Fr.tr0 f0 (fr_Bo_majority_b78 x1 x2 x3 (w32 (x4 + 1)) v10_ x6 d (Fr.g f0 hg) h)
  · obtain rfl := Option.some.inj h
    exact f0
theorem fr_Bo_majority_l27 {x : (Int × Int × Int × Int × Int × Dt)} (x1 x2 x3 x4 x5 x6 : Int) (d : Dt) (hg : d GH 0 ≤ 6) (h : L_Bo_majority_l27 x1 x2 x3 x4 x5 x6 d = some x) : Fr wo_Bo_majority [] false d (he_Bo_majority_27 x) :=
  lpF_fr (f := fun q : Int × Int × Int × Int × Int × Int × Dt => L_Bo_majority_y27 q.1 q.2.1 q.2.2.1 q.2.2.2.1 q.2.2.2.2.1 q.2.2.2.2.2.1 q.2.2.2.2.2.2) (fun q => q.2.2.2.2.2.2) he_Bo_majority_27 (fun q x hq hx => ⟨fun q2 e2 => by subst e2; exact fr_Bo_majority_y27 q.1 q.2.1 q.2.2.1 q.2.2.2.1 q.2.2.2.2.1 q.2.2.2.2.2.1 q.2.2.2.2.2.2 hq hx, fun r2 e2 => by subst e2; exact fr_Bo_majority_y27 q.1 q.2.1 q.2.2.1 q.2.2.2.1 q.2.2.2.2.1 q.2.2.2.2.2.1 q.2.2.2.2.2.2 hq hx⟩) FU _ x hg h
theorem fr_Bo_majority_b133 {o : (Int × Int × Int × Dt) ⊕ ((Int × Dt))} (x1 x2 x3 : Int) (d : Dt) (hg : d GH 0 ≤ 6) (h : L_Bo_majority_b133 x1 x2 x3 d = some o) : Fr wo_Bo_majority [] false d (hb_Bo_majority_4 o) := by
  have f0 : Fr wo_Bo_majority [] false d d := Fr.rfl
  unfold L_Bo_majority_b133 at h
  obtain rfl := Option.some.inj h
  exact f0
theorem fr_Bo_majority_b127 {o : (Int × Int × Int × Dt) ⊕ ((Int × Dt))} (x1 x2 x3 : Int) (d : Dt) (hg : d GH 0 ≤ 6) (h : L_Bo_majority_b127 x1 x2 x3 d = some o) : Fr wo_Bo_majority [] false d (hb_Bo_majority_4 o) := by
  have f0 : Fr wo_Bo_majority [] false d d := Fr.rfl
  unfold L_Bo_majority_b127 at h
  obtain ⟨v13_, ev14_, h⟩ := lt_some h
  exact Fr.tr0 f0 (fr_Bo_majority_b133 x1 v13_ x3 d (Fr.g f0 hg) h)
theorem fr_Bo_majority_b102 {o : (Int × Int × Int × Dt) ⊕ ((Int × Dt))} (x1 x2 x3 x4 x5 s0 : Int) (d : Dt) (hg : d GH 0 ≤ 6) (h : L_Bo_majority_b102 x1 x2 x3 x4 x5 s0 d = some o) : Fr wo_Bo_majority [] false d (hb_Bo_majority_4 o) := by
  have f0 : Fr wo_Bo_majority [] false d d := Fr.rfl
  unfold L_Bo_majority_b102 at h
  rcases ite_some h with ⟨hc16_, h⟩ | ⟨hc16_, h⟩
  · exact Fr.tr0 f0 (fr_Bo_majority_b127 x1 x2 x3 d (Fr.g f0 hg) h)
  · rcases ite_some h with ⟨hc17_, h⟩ | ⟨hc17_, h⟩
    · rcases ite_some h with ⟨hc18_, h⟩ | ⟨hc18_, h⟩
      · exact Fr.tr0 f0 (fr_Bo_majority_b133 x1 x2 x3 d (Fr.g f0 hg) h)
      · exact Fr.tr0 f0 (fr_Bo_majority_b127 x1 x2 x3 d (Fr.g f0 hg) h)
    · exact Fr.tr0 f0 (fr_Bo_majority_b133 x1 x2 x3 d (Fr.g f0 hg) h)
theorem fr_Bo_majority_y4 {o : (Int × Int × Int × Dt) ⊕ ((Int × Dt))} (x1 x2 x3 : Int) (d : Dt) (hg : d GH 0 ≤ 6) (h : L_Bo_majority_y4 x1 x2 x3 d = some o) : Fr wo_Bo_majority [] false d (hb_Bo_majority_4 o) := by
  have f0 : Fr wo_Bo_majority [] false d d := Fr.rfl
  unfold L_Bo_majority_y4 at h
  rcases ite_some h with ⟨hc19_, h⟩ | ⟨hc19_, h⟩
  · obtain ⟨hb20_, h⟩ := ck_some h
    obtain ⟨v22_, ev23_, h⟩ := lt_some h
    obtain ⟨x25_, hx26_, h⟩ := lb_some h
    have fx25_ := Fr.tr0 f0 (fr_Bo_majority_l27 x1 x2 x3 1 v22_ 1 d (Fr.g f0 hg) hx26_)
    obtain ⟨v27_, v28_, v29_, v30_, v31_, d32_⟩ := x25_
    have fd32_ : Fr wo_Bo_majority [] false d d32_ := fx25_
    replace h := u5_e h
    obtain ⟨hb34_, h⟩ := ck_some h
    rcases ite_some h with ⟨hc36_, h⟩ | ⟨hc36_, h⟩
    · exact Fr.tr0 fd32_ (fr_Bo_majority_b102 v27_ v28_ v29_ v30_ v31_ 0 d32_ (Fr.g fd32_ hg) h)
    · exact Fr.tr0 fd32_ (fr_Bo_majority_b102 v27_ v28_ v29_ v30_ v31_ 1 d32_ (Fr.g fd32_ hg) h)
  · obtain rfl := Option.some.inj h
    exact f0
theorem fr_Bo_majority_l4 {x : (Int × Dt)} (x1 x2 x3 : Int) (d : Dt) (hg : d GH 0 ≤ 6) (h : L_Bo_majority_l4 x1 x2 x3 d = some x) : Fr wo_Bo_majority [] false d (he_Bo_majority_4 x) :=
  lpF_fr (f := fun q : Int × Int × Int × Dt => L_Bo_majority_y4 q.1 q.2.1 q.2.2.1 q.2.2.2) (fun q => q.2.2.2) he_Bo_majority_4 (fun q x hq hx => ⟨fun q2 e2 => by subst e2; exact fr_Bo_majority_y4 q.1 q.2.1 q.2.2.1 q.2.2.2 hq hx, fun r2 e2 => by subst e2; exact fr_Bo_majority_y4 q.1 q.2.1 q.2.2.1 q.2.2.2 hq hx⟩) FU _ x hg h
theorem fr_Bo_majority {r : Int} {d' : Dt} (p1 : Int) (d : Dt) (hg : d GH 0 ≤ 6) (h : L_Bo_majority p1 d = some (r, d')) : Fr wo_Bo_majority [] false d d' := by
  have f0 : Fr wo_Bo_majority [] false d d := Fr.rfl
  unfold L_Bo_majority at h
  obtain ⟨x38_, hx39_, h⟩ := lb_some h
  have fx38_ := Fr.tr0 f0 (fr_Bo_majority_l4 p1 0 0 d (Fr.g f0 hg) hx39_)
  obtain ⟨v40_, d41_⟩ := x38_
  have fd41_ : Fr wo_Bo_majority [] false d d41_ := fx38_
  replace h := u1_e h
  obtain ⟨rfl, rfl⟩ := ret_inj h
  exact fd41_
/-! frames of Bo_settle -/
def wo_Bo_settle : List (Nat × Nat) := [(37, 10)]
def he_Bo_settle_15 (q : (Dt)) : Dt := q
def hb_Bo_settle_15 (o : (Int × Dt) ⊕ ((Dt))) : Dt := match o with
  | .inl q => q.2
  | .inr r => he_Bo_settle_15 r
def he_Bo_settle_38 (q : (Dt)) : Dt := q
def hb_Bo_settle_38 (o : (Int × Dt) ⊕ ((Dt))) : Dt := match o with
  | .inl q => q.2
  | .inr r => he_Bo_settle_38 r
theorem fr_Bo_settle_y15 {o : (Int × Dt) ⊕ ((Dt))} (x1 : Int) (d : Dt) (hg : d GH 0 ≤ 6) (h : L_Bo_settle_y15 x1 d = some o) : Fr wo_Bo_settle [44, 45, 46, 47] false d (hb_Bo_settle_15 o) := by
  have f0 : Fr wo_Bo_settle [44, 45, 46, 47] false d d := Fr.rfl
  unfold L_Bo_settle_y15 at h
  rcases ite_some h with ⟨hc1_, h⟩ | ⟨hc1_, h⟩
  · obtain ⟨r3_, d2_, hr4_, h⟩ := bd_some h
    have fd2_ : Fr wo_Bo_settle [44, 45, 46, 47] false d d2_ := Fr.tr f0 (fr_Bo_weigh x1 d (Fr.g f0 hg) hr4_) (by decide) (by decide) (by decide)
    obtain ⟨r7_, d6_, hr8_, h⟩ := bd_some h
    have fd6_ : Fr wo_Bo_settle [44, 45, 46, 47] false d d6_ := Fr.tr fd2_ (fr_Bo_pair x1 d2_ (Fr.g fd2_ hg) hr8_) (by decide) (by decide) (by decide)
    obtain rfl := Option.some.inj h
    exact fd6_
  · obtain rfl := Option.some.inj h
    exact f0
theorem fr_Bo_settle_l15 {x : (Dt)} (x1 : Int) (d : Dt) (hg : d GH 0 ≤ 6) (h : L_Bo_settle_l15 x1 d = some x) : Fr wo_Bo_settle [44, 45, 46, 47] false d (he_Bo_settle_15 x) :=
  lpF_fr (f := fun q : Int × Dt => L_Bo_settle_y15 q.1 q.2) (fun q => q.2) he_Bo_settle_15 (fun q x hq hx => ⟨fun q2 e2 => by subst e2; exact fr_Bo_settle_y15 q.1 q.2 hq hx, fun r2 e2 => by subst e2; exact fr_Bo_settle_y15 q.1 q.2 hq hx⟩) FU _ x hg h
theorem fr_Bo_settle_y38 {o : (Int × Dt) ⊕ ((Dt))} (x1 : Int) (d : Dt) (hg : d GH 0 ≤ 6) (h : L_Bo_settle_y38 x1 d = some o) : Fr wo_Bo_settle [44, 45, 46, 47] false d (hb_Bo_settle_38 o) := by
  have f0 : Fr wo_Bo_settle [44, 45, 46, 47] false d d := Fr.rfl
  unfold L_Bo_settle_y38 at h
  rcases ite_some h with ⟨hc11_, h⟩ | ⟨hc11_, h⟩
  · obtain ⟨r13_, d12_, hr14_, h⟩ := bd_some h
    have fd12_ : Fr wo_Bo_settle [44, 45, 46, 47] false d d12_ := Fr.tr f0 (fr_Bo_majority x1 d (Fr.g f0 hg) hr14_) (by decide) (by decide) (by decide)
    obtain ⟨hb16_, h⟩ := ck_some h
    obtain rfl := Option.some.inj h
    exact (Fr.upa fd12_ rfl (by decide))
  · obtain rfl := Option.some.inj h
    exact f0
theorem fr_Bo_settle_l38 {x : (Dt)} (x1 : Int) (d : Dt) (hg : d GH 0 ≤ 6) (h : L_Bo_settle_l38 x1 d = some x) : Fr wo_Bo_settle [44, 45, 46, 47] false d (he_Bo_settle_38 x) :=
  lpF_fr (f := fun q : Int × Dt => L_Bo_settle_y38 q.1 q.2) (fun q => q.2) he_Bo_settle_38 (fun q x hq hx => ⟨fun q2 e2 => by subst e2; exact fr_Bo_settle_y38 q.1 q.2 hq hx, fun r2 e2 => by subst e2; exact fr_Bo_settle_y38 q.1 q.2 hq hx⟩) FU _ x hg h
theorem fr_Bo_settle {r : Int} {d' : Dt} (d : Dt) (hg : d GH 0 ≤ 6) (h : L_Bo_settle d = some (r, d')) : Fr wo_Bo_settle [44, 45, 46, 47] false d d' := by
  have f0 : Fr wo_Bo_settle [44, 45, 46, 47] false d d := Fr.rfl
  unfold L_Bo_settle at h
  rcases ite_some h with ⟨hc18_, h⟩ | ⟨hc18_, h⟩
  · obtain ⟨x19_, hx20_, h⟩ := lb_some h
    have fx19_ := Fr.tr0 (Fr.upo f0 rfl (by decide)) (fr_Bo_settle_l15 1 (up2 d 37 10 1) (Fr.g (Fr.upo f0 rfl (by decide)) hg) hx20_)
    obtain ⟨d21_, rfl⟩ : ∃ z, z = x19_ := ⟨_, rfl⟩
    have fd21_ : Fr wo_Bo_settle [44, 45, 46, 47] false d d21_ := fx19_
    replace h := u0_e h
    obtain ⟨x23_, hx24_, h⟩ := lb_some h
    have fx23_ := Fr.tr0 fd21_ (fr_Bo_settle_l38 0 d21_ (Fr.g fd21_ hg) hx24_)
    obtain ⟨d25_, rfl⟩ : ∃ z, z = x23_ := ⟨_, rfl⟩
    have fd25_ : Fr wo_Bo_settle [44, 45, 46, 47] false d d25_ := fx23_
    replace h := u0_e h
    obtain ⟨rfl, rfl⟩ := ret_inj h
    exact fd25_
  · obtain ⟨rfl, rfl⟩ := ret_inj h
    exact f0
/-! frames of Bo_totalCost -/
def wo_Bo_totalCost : List (Nat × Nat) := [(37, 10)]
theorem fr_Bo_totalCost {r : Int} {d' : Dt} (p1 : Int) (d : Dt) (hg : d GH 0 ≤ 6) (h : L_Bo_totalCost p1 d = some (r, d')) : Fr wo_Bo_totalCost [44, 45, 46, 47] false d d' := by
  have f0 : Fr wo_Bo_totalCost [44, 45, 46, 47] false d d := Fr.rfl
  unfold L_Bo_totalCost at h
  obtain ⟨r2_, d1_, hr3_, h⟩ := bd_some h
  have fd1_ : Fr wo_Bo_totalCost [44, 45, 46, 47] false d d1_ := Fr.tr f0 (fr_Bo_settle  d (Fr.g f0 hg) hr3_) (by decide) (by decide) (by decide)
  obtain ⟨hb5_, h⟩ := ck_some h
  obtain ⟨rfl, rfl⟩ := ret_inj h
  exact fd1_
/-! frames of PB_join -/
def wo_PB_join : List (Nat × Nat) := [(0, 0), (37, 10)]
theorem fr_PB_join_b18 {r : Int} {d' : Dt} (x1 s1 : Int) (d : Dt) (hg : d GH 0 ≤ 6) (h : L_PB_join_b18 x1 s1 d = some (r, d')) : Fr wo_PB_join [44, 45, 46, 47] false d d' := by
  have f0 : Fr wo_PB_join [44, 45, 46, 47] false d d := Fr.rfl
  unfold L_PB_join_b18 at h
  rcases ite_some h with ⟨hc2_, h⟩ | ⟨hc2_, h⟩
  · obtain ⟨r4_, d3_, hr5_, h⟩ := bd_some h
    have fd3_ : Fr wo_PB_join [44, 45, 46, 47] false d d3_ := Fr.tr (Fr.upo f0 rfl (by decide)) (fr_Bo_totalCost x1 (up2 d 0 0 s1) (Fr.g (Fr.upo f0 rfl (by decide)) hg) hr5_) (by decide) (by decide) (by decide)
    obtain ⟨rfl, rfl⟩ := ret_inj h
    exact fd3_
  · obtain ⟨rfl, rfl⟩ := ret_inj h
    exact (Fr.upo f0 rfl (by decide))
theorem fr_PB_join {r : Int} {d' : Dt} (p1 : Int) (d : Dt) (hg : d GH 0 ≤ 6) (h : L_PB_join p1 d = some (r, d')) : Fr wo_PB_join [44, 45, 46, 47] false d d' := by
  have f0 : Fr wo_PB_join [44, 45, 46, 47] false d d := Fr.rfl
  unfold L_PB_join at h
  obtain ⟨r8_, d7_, hr9_, h⟩ := bd_some h
  have fd7_ : Fr wo_PB_join [44, 45, 46, 47] false d d7_ := Fr.tr f0 (fr_PB_within p1 1 2 d (Fr.g f0 hg) hr9_) (by decide) (by decide) (by decide)
  rcases ite_some h with ⟨hc11_, h⟩ | ⟨hc11_, h⟩
  · exact Fr.tr0 fd7_ (fr_PB_join_b18 p1 1 d7_ (Fr.g fd7_ hg) h)
  · exact Fr.tr0 fd7_ (fr_PB_join_b18 p1 0 d7_ (Fr.g fd7_ hg) h)
