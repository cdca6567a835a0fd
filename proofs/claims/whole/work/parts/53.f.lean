/-! frames of Mo_bench -/
def wo_Mo_bench : List (Nat × Nat) := [(0, 0)]
theorem fr_Mo_bench_b27 {r : Int} {d' : Dt} (d : Dt) (hg : d GH 0 ≤ 6) (h : L_Mo_bench_b27 d = some (r, d')) : Fr wo_Mo_bench [] false d d' := by
  have f0 : Fr wo_Mo_bench [] false d d := Fr.rfl
  unfold L_Mo_bench_b27 at h
  obtain ⟨r2_, d1_, hr3_, h⟩ := bd_some h
  have fd1_ : Fr wo_Mo_bench [] false d d1_ := Fr.tr f0 (fr_Mo_refuse 6 d (Fr.g f0 hg) hr3_) (by decide) (by decide) (by decide)
  obtain ⟨rfl, rfl⟩ := ret_inj h
  exact fd1_
theorem fr_Mo_bench {r : Int} {d' : Dt} (p1 : Int) (d : Dt) (hg : d GH 0 ≤ 6) (h : L_Mo_bench p1 d = some (r, d')) : Fr wo_Mo_bench [] false d d' := by
  have f0 : Fr wo_Mo_bench [] false d d := Fr.rfl
  unfold L_Mo_bench at h
  rcases ite_some h with ⟨hc5_, h⟩ | ⟨hc5_, h⟩
  · obtain ⟨r7_, d6_, hr8_, h⟩ := bd_some h
    have fd6_ : Fr wo_Mo_bench [] false d d6_ := Fr.tr f0 (fr_Mo_refuse 1 d (Fr.g f0 hg) hr8_) (by decide) (by decide) (by decide)
    obtain ⟨rfl, rfl⟩ := ret_inj h
    exact fd6_
  · rcases ite_some h with ⟨hc11_, h⟩ | ⟨hc11_, h⟩
    · exact Fr.tr0 f0 (fr_Mo_bench_b27  d (Fr.g f0 hg) h)
    · rcases ite_some h with ⟨hc13_, h⟩ | ⟨hc13_, h⟩
      · obtain ⟨hb14_, h⟩ := ck_some h
        obtain ⟨r17_, d16_, hr18_, h⟩ := bd_some h
        have fd16_ : Fr wo_Mo_bench [] false d d16_ := Fr.tr f0 (fr_Mo_gives (d 74 p1.toNat) d (Fr.g f0 hg) hr18_) (by decide) (by decide) (by decide)
        obtain ⟨rfl, rfl⟩ := ret_inj h
        exact fd16_
      · exact Fr.tr0 f0 (fr_Mo_bench_b27  d (Fr.g f0 hg) h)
/-! frames of Mo_miles -/
def wo_Mo_miles : List (Nat × Nat) := [(0, 0)]
theorem fr_Mo_miles_b31 {r : Int} {d' : Dt} (d : Dt) (hg : d GH 0 ≤ 6) (h : L_Mo_miles_b31 d = some (r, d')) : Fr wo_Mo_miles [75] false d d' := by
  have f0 : Fr wo_Mo_miles [75] false d d := Fr.rfl
  unfold L_Mo_miles_b31 at h
  obtain ⟨r2_, d1_, hr3_, h⟩ := bd_some h
  have fd1_ : Fr wo_Mo_miles [75] false d d1_ := Fr.tr f0 (fr_Mo_is 1 d (Fr.g f0 hg) hr3_) (by decide) (by decide) (by decide)
  obtain ⟨rfl, rfl⟩ := ret_inj h
  exact fd1_
theorem fr_Mo_miles {r : Int} {d' : Dt} (p1 p2 p3 : Int) (d : Dt) (hg : d GH 0 ≤ 6) (h : L_Mo_miles p1 p2 p3 d = some (r, d')) : Fr wo_Mo_miles [75] false d d' := by
  have f0 : Fr wo_Mo_miles [75] false d d := Fr.rfl
  unfold L_Mo_miles at h
  obtain ⟨r6_, d5_, hr7_, h⟩ := bd_some h
  have fd5_ : Fr wo_Mo_miles [75] false d d5_ := Fr.tr f0 (fr_Mo_isPlace p1 d (Fr.g f0 hg) hr7_) (by decide) (by decide) (by decide)
  rcases ite_some h with ⟨hc9_, h⟩ | ⟨hc9_, h⟩
  · exact Fr.tr0 fd5_ (fr_Mo_miles_b31  d5_ (Fr.g fd5_ hg) h)
  · obtain ⟨r11_, d10_, hr12_, h⟩ := bd_some h
    have fd10_ : Fr wo_Mo_miles [75] false d d10_ := Fr.tr fd5_ (fr_Mo_isPlace p2 d5_ (Fr.g fd5_ hg) hr12_) (by decide) (by decide) (by decide)
    rcases ite_some h with ⟨hc14_, h⟩ | ⟨hc14_, h⟩
    · exact Fr.tr0 fd10_ (fr_Mo_miles_b31  d10_ (Fr.g fd10_ hg) h)
    · rcases ite_some h with ⟨hc15_, h⟩ | ⟨hc15_, h⟩
      · exact Fr.tr0 fd10_ (fr_Mo_miles_b31  d10_ (Fr.g fd10_ hg) h)
      · rcases ite_some h with ⟨hc16_, h⟩ | ⟨hc16_, h⟩
        · exact Fr.tr0 fd10_ (fr_Mo_miles_b31  d10_ (Fr.g fd10_ hg) h)
        · rcases ite_some h with ⟨hc17_, h⟩ | ⟨hc17_, h⟩
          · exact Fr.tr0 fd10_ (fr_Mo_miles_b31  d10_ (Fr.g fd10_ hg) h)
          · obtain ⟨hb18_, h⟩ := ck_some h
            obtain ⟨hb19_, h⟩ := ck_some h
            obtain ⟨r21_, d20_, hr22_, h⟩ := bd_some h
            have fd20_ : Fr wo_Mo_miles [75] false d d20_ := Fr.tr (Fr.upa (Fr.upa fd10_ rfl (by decide)) rfl (by decide)) (fr_Mo_is 0 (up2 (up2 d10_ 75 ((w32 ((w32 (7 * p1)) + p2))).toNat p3) 75 ((w32 ((w32 (7 * p2)) + p1))).toNat p3) (Fr.g (Fr.upa (Fr.upa fd10_ rfl (by decide)) rfl (by decide)) hg) hr22_) (by decide) (by decide) (by decide)
            obtain ⟨rfl, rfl⟩ := ret_inj h
            exact fd20_
/-! frames of Mo_walk -/
def wo_Mo_walk : List (Nat × Nat) := []
def he_Mo_walk_95 (q : (Int × Int × Int × Dt)) : Dt := q.2.2.2
def hb_Mo_walk_95 (o : (Int × Int × Int × Int × Int × Dt) ⊕ ((Int × Int × Int × Dt))) : Dt := match o with
  | .inl q => q.2.2.2.2.2
  | .inr r => he_Mo_walk_95 r
def he_Mo_walk_20 (q : (Int × Int × Dt)) : Dt := q.2.2
def hb_Mo_walk_20 (o : (Int × Int × Int × Dt) ⊕ ((Int × Int × Dt))) : Dt := match o with
  | .inl q => q.2.2.2
  | .inr r => he_Mo_walk_20 r
def he_Mo_walk_2 (q : (Dt)) : Dt := q
def hb_Mo_walk_2 (o : (Int × Int × Dt) ⊕ ((Dt))) : Dt := match o with
  | .inl q => q.2.2
  | .inr r => he_Mo_walk_2 r
theorem fr_Mo_walk_b183 {o : (Int × Int × Int × Int × Int × Dt) ⊕ ((Int × Int × Int × Dt))} (x1 x2 x3 x4 x5 : Int) (d : Dt) (hg : d GH 0 ≤ 6) (h : L_Mo_walk_b183 x1 x2 x3 x4 x5 d = some o) : Fr wo_Mo_walk [77, 78] false d (hb_Mo_walk_95 o) := by
  have f0 : Fr wo_Mo_walk [77, 78] false d d := Fr.rfl
  unfold L_Mo_walk_b183 at h
  obtain rfl := Option.some.inj h
  exact f0
theorem fr_Mo_walk_y95 {o : (Int × Int × Int × Int × Int × Dt) ⊕ ((Int × Int × Int × Dt))} (x1 x2 x3 x4 x5 : Int) (d : Dt) (hg : d GH 0 ≤ 6) (h : L_Mo_walk_y95 x1 x2 x3 x4 x5 d = some o) : Fr wo_Mo_walk [77, 78] false d (hb_Mo_walk_95 o) := by
  have f0 : Fr wo_Mo_walk [77, 78] false d d := Fr.rfl
  unfold L_Mo_walk_y95 at h
  rcases ite_some h with ⟨hc1_, h⟩ | ⟨hc1_, h⟩
  · rcases ite_some h with ⟨hc2_, h⟩ | ⟨hc2_, h⟩
    · obtain ⟨hb3_, h⟩ := ck_some h
      rcases ite_some h with ⟨hc5_, h⟩ | ⟨hc5_, h⟩
      · obtain ⟨hb6_, h⟩ := ck_some h
        obtain ⟨hb8_, h⟩ := ck_some h
        obtain ⟨hb10_, h⟩ := ck_some h
        obtain ⟨hb12_, h⟩ := ck_some h
        exact Fr.tr0 (Fr.upa f0 rfl (by decide)) (fr_Mo_walk_b183 x1 x2 x3 x4 x5 (up2 d 77 ((w32 ((w32 (7 * x2)) + x3))).toNat (jmin (d 77 ((w32 ((w32 (7 * x2)) + x3))).toNat) (w32 ((d 77 ((w32 ((w32 (7 * x4)) + x5))).toNat) + (d 75 ((w32 ((w32 (7 * x5)) + x3))).toNat))))) (Fr.g (Fr.upa f0 rfl (by decide)) hg) h)
      · exact Fr.tr0 f0 (fr_Mo_walk_b183 x1 x2 x3 x4 x5 d (Fr.g f0 hg) h)
    · exact Fr.tr0 f0 (fr_Mo_walk_b183 x1 x2 x3 x4 x5 d (Fr.g f0 hg) h)
  · obtain rfl := Option.some.inj h
    exact f0
theorem fr_Mo_walk_l95 {x : (Int × Int × Int × Dt)} (x1 x2 x3 x4 x5 : Int) (d : Dt) (hg : d GH 0 ≤ 6) (h : L_Mo_walk_l95 x1 x2 x3 x4 x5 d = some x) : Fr wo_Mo_walk [77, 78] false d (he_Mo_walk_95 x) :=
  lpF_fr (f := fun q : Int × Int × Int × Int × Int × Dt => L_Mo_walk_y95 q.1 q.2.1 q.2.2.1 q.2.2.2.1 q.2.2.2.2.1 q.2.2.2.2.2) (fun q => q.2.2.2.2.2) he_Mo_walk_95 (fun q x hq hx => ⟨fun q2 e2 => by subst e2; exact fr_Mo_walk_y95 q.1 q.2.1 q.2.2.1 q.2.2.2.1 q.2.2.2.2.1 q.2.2.2.2.2 hq hx, fun r2 e2 => by subst e2; exact fr_Mo_walk_y95 q.1 q.2.1 q.2.2.1 q.2.2.2.1 q.2.2.2.2.1 q.2.2.2.2.2 hq hx⟩) FU _ x hg h
theorem fr_Mo_walk_b227 {o : (Int × Int × Int × Dt) ⊕ ((Int × Int × Dt))} (x1 x2 x3 : Int) (d : Dt) (hg : d GH 0 ≤ 6) (h : L_Mo_walk_b227 x1 x2 x3 d = some o) : Fr wo_Mo_walk [77, 78] false d (hb_Mo_walk_20 o) := by
  have f0 : Fr wo_Mo_walk [77, 78] false d d := Fr.rfl
  unfold L_Mo_walk_b227 at h
  obtain rfl := Option.some.inj h
  exact f0
theorem fr_Mo_walk_b92 {o : (Int × Int × Int × Dt) ⊕ ((Int × Int × Dt))} (x1 x2 x3 x4 : Int) (d : Dt) (hg : d GH 0 ≤ 6) (h : L_Mo_walk_b92 x1 x2 x3 x4 d = some o) : Fr wo_Mo_walk [77, 78] false d (hb_Mo_walk_20 o) := by
  have f0 : Fr wo_Mo_walk [77, 78] false d d := Fr.rfl
  unfold L_Mo_walk_b92 at h
  obtain ⟨x13_, hx14_, h⟩ := lb_some h
  have fx13_ := Fr.tr0 f0 (fr_Mo_walk_l95 x1 x2 x3 x4 0 d (Fr.g f0 hg) hx14_)
  obtain ⟨v15_, v16_, v17_, d18_⟩ := x13_
  have fd18_ : Fr wo_Mo_walk [77, 78] false d d18_ := fx13_
  replace h := u3_e h
  obtain ⟨hb20_, h⟩ := ck_some h
  obtain ⟨hb22_, h⟩ := ck_some h
  obtain ⟨hb24_, h⟩ := ck_some h
  obtain ⟨hb26_, h⟩ := ck_some h
  exact Fr.tr0 (Fr.upa fd18_ rfl (by decide)) (fr_Mo_walk_b227 v15_ v16_ v17_ (up2 d18_ 78 v16_.toNat (jmin (d18_ 78 v16_.toNat) (w32 ((d18_ 77 ((w32 ((w32 (7 * v16_)) + v17_))).toNat) + (d18_ 75 ((w32 ((w32 (7 * v17_)) + v15_))).toNat))))) (Fr.g (Fr.upa fd18_ rfl (by decide)) hg) h)
theorem fr_Mo_walk_y20 {o : (Int × Int × Int × Dt) ⊕ ((Int × Int × Dt))} (x1 x2 x3 : Int) (d : Dt) (hg : d GH 0 ≤ 6) (h : L_Mo_walk_y20 x1 x2 x3 d = some o) : Fr wo_Mo_walk [77, 78] false d (hb_Mo_walk_20 o) := by
  have f0 : Fr wo_Mo_walk [77, 78] false d d := Fr.rfl
  unfold L_Mo_walk_y20 at h
  rcases ite_some h with ⟨hc28_, h⟩ | ⟨hc28_, h⟩
  · obtain ⟨hb29_, h⟩ := ck_some h
    rcases ite_some h with ⟨hc30_, h⟩ | ⟨hc30_, h⟩
    · exact Fr.tr0 (Fr.upa f0 rfl (by decide)) (fr_Mo_walk_b227 x1 x2 x3 (up2 d 77 ((w32 ((w32 (7 * x2)) + x3))).toNat 100000000) (Fr.g (Fr.upa f0 rfl (by decide)) hg) h)
    · rcases ite_some h with ⟨hc31_, h⟩ | ⟨hc31_, h⟩
      · exact Fr.tr0 (Fr.upa f0 rfl (by decide)) (fr_Mo_walk_b227 x1 x2 x3 (up2 d 77 ((w32 ((w32 (7 * x2)) + x3))).toNat 100000000) (Fr.g (Fr.upa f0 rfl (by decide)) hg) h)
      · obtain ⟨v32_, ev33_, h⟩ := lt_some h
        rcases ite_some h with ⟨hc35_, h⟩ | ⟨hc35_, h⟩
        · obtain ⟨hb36_, h⟩ := ck_some h
          obtain ⟨hb38_, h⟩ := ck_some h
          exact Fr.tr0 (Fr.upa (Fr.upa f0 rfl (by decide)) rfl (by decide)) (fr_Mo_walk_b92 x1 x2 x3 v32_ (up2 (up2 d 77 ((w32 ((w32 (7 * x2)) + x3))).toNat 100000000) 77 ((w32 ((w32 (7 * x2)) + x3))).toNat (d 75 ((w32 ((w32 (7 * x1)) + x3))).toNat)) (Fr.g (Fr.upa (Fr.upa f0 rfl (by decide)) rfl (by decide)) hg) h)
        · exact Fr.tr0 (Fr.upa f0 rfl (by decide)) (fr_Mo_walk_b92 x1 x2 x3 v32_ (up2 d 77 ((w32 ((w32 (7 * x2)) + x3))).toNat 100000000) (Fr.g (Fr.upa f0 rfl (by decide)) hg) h)
  · obtain rfl := Option.some.inj h
    exact f0
theorem fr_Mo_walk_l20 {x : (Int × Int × Dt)} (x1 x2 x3 : Int) (d : Dt) (hg : d GH 0 ≤ 6) (h : L_Mo_walk_l20 x1 x2 x3 d = some x) : Fr wo_Mo_walk [77, 78] false d (he_Mo_walk_20 x) :=
  lpF_fr (f := fun q : Int × Int × Int × Dt => L_Mo_walk_y20 q.1 q.2.1 q.2.2.1 q.2.2.2) (fun q => q.2.2.2) he_Mo_walk_20 (fun q x hq hx => ⟨fun q2 e2 => by subst e2; exact fr_Mo_walk_y20 q.1 q.2.1 q.2.2.1 q.2.2.2 hq hx, fun r2 e2 => by subst e2; exact fr_Mo_walk_y20 q.1 q.2.1 q.2.2.1 q.2.2.2 hq hx⟩) FU _ x hg h
theorem fr_Mo_walk_y2 {o : (Int × Int × Dt) ⊕ ((Dt))} (x1 x2 : Int) (d : Dt) (hg : d GH 0 ≤ 6) (h : L_Mo_walk_y2 x1 x2 d = some o) : Fr wo_Mo_walk [77, 78] false d (hb_Mo_walk_2 o) := by
  have f0 : Fr wo_Mo_walk [77, 78] false d d := Fr.rfl
  unfold L_Mo_walk_y2 at h
  rcases ite_some h with ⟨hc39_, h⟩ | ⟨hc39_, h⟩
  · obtain ⟨hb40_, h⟩ := ck_some h
    obtain ⟨x41_, hx42_, h⟩ := lb_some h
    have fx41_ := Fr.tr0 (Fr.upa f0 rfl (by decide)) (fr_Mo_walk_l20 x1 x2 0 (up2 d 78 x2.toNat 100000000) (Fr.g (Fr.upa f0 rfl (by decide)) hg) hx42_)
    obtain ⟨v43_, v44_, d45_⟩ := x41_
    have fd45_ : Fr wo_Mo_walk [77, 78] false d d45_ := fx41_
    replace h := u2_e h
    obtain rfl := Option.some.inj h
    exact fd45_
  · obtain rfl := Option.some.inj h
    exact f0
theorem fr_Mo_walk_l2 {x : (Dt)} (x1 x2 : Int) (d : Dt) (hg : d GH 0 ≤ 6) (h : L_Mo_walk_l2 x1 x2 d = some x) : Fr wo_Mo_walk [77, 78] false d (he_Mo_walk_2 x) :=
  lpF_fr (f := fun q : Int × Int × Dt => L_Mo_walk_y2 q.1 q.2.1 q.2.2) (fun q => q.2.2) he_Mo_walk_2 (fun q x hq hx => ⟨fun q2 e2 => by subst e2; exact fr_Mo_walk_y2 q.1 q.2.1 q.2.2 hq hx, fun r2 e2 => by subst e2; exact fr_Mo_walk_y2 q.1 q.2.1 q.2.2 hq hx⟩) FU _ x hg h
theorem fr_Mo_walk {r : Int} {d' : Dt} (p1 : Int) (d : Dt) (hg : d GH 0 ≤ 6) (h : L_Mo_walk p1 d = some (r, d')) : Fr wo_Mo_walk [77, 78] false d d' := by
  have f0 : Fr wo_Mo_walk [77, 78] false d d := Fr.rfl
  unfold L_Mo_walk at h
  obtain ⟨x48_, hx49_, h⟩ := lb_some h
  have fx48_ := Fr.tr0 f0 (fr_Mo_walk_l2 p1 1 d (Fr.g f0 hg) hx49_)
  obtain ⟨d50_, rfl⟩ : ∃ z, z = x48_ := ⟨_, rfl⟩
  have fd50_ : Fr wo_Mo_walk [77, 78] false d d50_ := fx48_
  replace h := u0_e h
  obtain ⟨rfl, rfl⟩ := ret_inj h
  exact fd50_
/-! frames of Mo_load -/
def wo_Mo_load : List (Nat × Nat) := []
def he_Mo_load_4 (q : (Int × Dt)) : Dt := q.2
def hb_Mo_load_4 (o : (Int × Int × Int × Dt) ⊕ ((Int × Dt))) : Dt := match o with
  | .inl q => q.2.2.2
  | .inr r => he_Mo_load_4 r
theorem fr_Mo_load_b30 {o : (Int × Int × Int × Dt) ⊕ ((Int × Dt))} (x1 x3 s0 s1 : Int) (d : Dt) (hg : d GH 0 ≤ 6) (h : L_Mo_load_b30 x1 x3 s0 s1 d = some o) : Fr wo_Mo_load [] false d (hb_Mo_load_4 o) := by
  have f0 : Fr wo_Mo_load [] false d d := Fr.rfl
  unfold L_Mo_load_b30 at h
  obtain ⟨v1_, ev2_, h⟩ := lt_some h
  obtain rfl := Option.some.inj h
  exact f0
theorem fr_Mo_load_y4 {o : (Int × Int × Int × Dt) ⊕ ((Int × Dt))} (x1 x2 x3 : Int) (d : Dt) (hg : d GH 0 ≤ 6) (h : L_Mo_load_y4 x1 x2 x3 d = some o) : Fr wo_Mo_load [] false d (hb_Mo_load_4 o) := by
  have f0 : Fr wo_Mo_load [] false d d := Fr.rfl
  unfold L_Mo_load_y4 at h
  rcases ite_some h with ⟨hc4_, h⟩ | ⟨hc4_, h⟩
  · rcases ite_some h with ⟨hc5_, h⟩ | ⟨hc5_, h⟩
    · obtain ⟨hb6_, h⟩ := ck_some h
      exact Fr.tr0 f0 (fr_Mo_load_b30 x1 x3 x2 (d 76 x3.toNat) d (Fr.g f0 hg) h)
    · exact Fr.tr0 f0 (fr_Mo_load_b30 x1 x3 x2 0 d (Fr.g f0 hg) h)
  · obtain rfl := Option.some.inj h
    exact f0
theorem fr_Mo_load_l4 {x : (Int × Dt)} (x1 x2 x3 : Int) (d : Dt) (hg : d GH 0 ≤ 6) (h : L_Mo_load_l4 x1 x2 x3 d = some x) : Fr wo_Mo_load [] false d (he_Mo_load_4 x) :=
  lpF_fr (f := fun q : Int × Int × Int × Dt => L_Mo_load_y4 q.1 q.2.1 q.2.2.1 q.2.2.2) (fun q => q.2.2.2) he_Mo_load_4 (fun q x hq hx => ⟨fun q2 e2 => by subst e2; exact fr_Mo_load_y4 q.1 q.2.1 q.2.2.1 q.2.2.2 hq hx, fun r2 e2 => by subst e2; exact fr_Mo_load_y4 q.1 q.2.1 q.2.2.1 q.2.2.2 hq hx⟩) FU _ x hg h
theorem fr_Mo_load {r : Int} {d' : Dt} (p1 : Int) (d : Dt) (hg : d GH 0 ≤ 6) (h : L_Mo_load p1 d = some (r, d')) : Fr wo_Mo_load [] false d d' := by
  have f0 : Fr wo_Mo_load [] false d d := Fr.rfl
  unfold L_Mo_load at h
  obtain ⟨x8_, hx9_, h⟩ := lb_some h
  have fx8_ := Fr.tr0 f0 (fr_Mo_load_l4 p1 0 0 d (Fr.g f0 hg) hx9_)
  obtain ⟨v10_, d11_⟩ := x8_
  have fd11_ : Fr wo_Mo_load [] false d d11_ := fx8_
  replace h := u1_e h
  obtain ⟨rfl, rfl⟩ := ret_inj h
  exact fd11_
/-! frames of Mo_coaches -/
def wo_Mo_coaches : List (Nat × Nat) := [(0, 0), (0, 108)]
def he_Mo_coaches_67 (r : (Int × Int × Int × Dt) ⊕ (Dt)) : Dt := match r with
  | .inl q => q.2.2.2
  | .inr q => q
def hb_Mo_coaches_67 (o : (Int × Int × Int × Int × Dt) ⊕ ((Int × Int × Int × Dt) ⊕ (Dt))) : Dt := match o with
  | .inl q => q.2.2.2.2
  | .inr r => he_Mo_coaches_67 r
def he_Mo_coaches_134 (q : (Int × Int × Int × Int × Int × Dt)) : Dt := q.2.2.2.2.2
def hb_Mo_coaches_134 (o : (Int × Int × Int × Int × Int × Int × Int × Dt) ⊕ ((Int × Int × Int × Int × Int × Dt))) : Dt := match o with
  | .inl q => q.2.2.2.2.2.2.2
  | .inr r => he_Mo_coaches_134 r
def he_Mo_coaches_315 (q : (Int × Int × Int × Int × Int × Dt)) : Dt := q.2.2.2.2.2
def hb_Mo_coaches_315 (o : (Int × Int × Int × Int × Int × Int × Int × Dt) ⊕ ((Int × Int × Int × Int × Int × Dt))) : Dt := match o with
  | .inl q => q.2.2.2.2.2.2.2
  | .inr r => he_Mo_coaches_315 r
def he_Mo_coaches_272 (q : (Int × Int × Int × Dt)) : Dt := q.2.2.2
def hb_Mo_coaches_272 (o : (Int × Int × Int × Int × Int × Dt) ⊕ ((Int × Int × Int × Dt))) : Dt := match o with
  | .inl q => q.2.2.2.2.2
  | .inr r => he_Mo_coaches_272 r
theorem fr_Mo_coaches_y67 {o : (Int × Int × Int × Int × Dt) ⊕ ((Int × Int × Int × Dt) ⊕ (Dt))} (x1 x2 x3 x4 : Int) (d : Dt) (hg : d GH 0 ≤ 6) (h : L_Mo_coaches_y67 x1 x2 x3 x4 d = some o) : Fr wo_Mo_coaches [76, 77, 78, 79, 80] false d (hb_Mo_coaches_67 o) := by
  have f0 : Fr wo_Mo_coaches [76, 77, 78, 79, 80] false d d := Fr.rfl
  unfold L_Mo_coaches_y67 at h
  rcases ite_some h with ⟨hc1_, h⟩ | ⟨hc1_, h⟩
  · obtain ⟨hb2_, h⟩ := ck_some h
    rcases ite_some h with ⟨hc4_, h⟩ | ⟨hc4_, h⟩
    · obtain rfl := Option.some.inj h
      exact f0
    · obtain ⟨hb5_, h⟩ := ck_some h
      rcases ite_some h with ⟨hc7_, h⟩ | ⟨hc7_, h⟩
      · obtain rfl := Option.some.inj h
        exact f0
      · obtain rfl := Option.some.inj h
        exact f0
  · obtain rfl := Option.some.inj h
    exact f0
theorem fr_Mo_coaches_l67 {x : (Int × Int × Int × Dt) ⊕ (Dt)} (x1 x2 x3 x4 : Int) (d : Dt) (hg : d GH 0 ≤ 6) (h : L_Mo_coaches_l67 x1 x2 x3 x4 d = some x) : Fr wo_Mo_coaches [76, 77, 78, 79, 80] false d (he_Mo_coaches_67 x) :=
  lpF_fr (f := fun q : Int × Int × Int × Int × Dt => L_Mo_coaches_y67 q.1 q.2.1 q.2.2.1 q.2.2.2.1 q.2.2.2.2) (fun q => q.2.2.2.2) he_Mo_coaches_67 (fun q x hq hx => ⟨fun q2 e2 => by subst e2; exact fr_Mo_coaches_y67 q.1 q.2.1 q.2.2.1 q.2.2.2.1 q.2.2.2.2 hq hx, fun r2 e2 => by subst e2; exact fr_Mo_coaches_y67 q.1 q.2.1 q.2.2.1 q.2.2.2.1 q.2.2.2.2 hq hx⟩) FU _ x hg h
theorem fr_Mo_coaches_b244 {o : (Int × Int × Int × Int × Int × Int × Int × Dt) ⊕ ((Int × Int × Int × Int × Int × Dt))} (x1 x2 x3 x4 x5 x6 x7 : Int) (d : Dt) (hg : d GH 0 ≤ 6) (h : L_Mo_coaches_b244 x1 x2 x3 x4 x5 x6 x7 d = some o) : Fr wo_Mo_coaches [76, 77, 78, 79, 80] false d (hb_Mo_coaches_134 o) := by
  have f0 : Fr wo_Mo_coaches [76, 77, 78, 79, 80] false d d := Fr.rfl
  unfold L_Mo_coaches_b244 at h
  obtain rfl := Option.some.inj h
  exact f0
theorem fr_Mo_coaches_b180 {o : (Int × Int × Int × Int × Int × Int × Int × Dt) ⊕ ((Int × Int × Int × Int × Int × Dt))} (x1 x2 x3 x4 x5 x6 x7 x8 s0 : Int) (d : Dt) (hg : d GH 0 ≤ 6) (h : L_Mo_coaches_b180 x1 x2 x3 x4 x5 x6 x7 x8 s0 d = some o) : Fr wo_Mo_coaches [76, 77, 78, 79, 80] false d (hb_Mo_coaches_134 o) := by
  have f0 : Fr wo_Mo_coaches [76, 77, 78, 79, 80] false d d := Fr.rfl
  unfold L_Mo_coaches_b180 at h
  obtain ⟨v8_, ev9_, h⟩ := lt_some h
  obtain ⟨hb11_, h⟩ := ck_some h
  obtain ⟨v13_, ev14_, h⟩ := lt_some h
  obtain ⟨hb16_, h⟩ := ck_some h
  obtain ⟨hb17_, h⟩ := ck_some h
  rcases ite_some h with ⟨hc19_, h⟩ | ⟨hc19_, h⟩
  · obtain ⟨v20_, ev21_, h⟩ := lt_some h
    exact Fr.tr0 (Fr.upa f0 rfl (by decide)) (fr_Mo_coaches_b244 x1 x2 x3 v13_ v8_ v20_ x7 (up2 d 76 x7.toNat (w32 (x8 - (w32 (s0 * x3))))) (Fr.g (Fr.upa f0 rfl (by decide)) hg) h)
  · exact Fr.tr0 (Fr.upa f0 rfl (by decide)) (fr_Mo_coaches_b244 x1 x2 x3 v13_ v8_ x6 x7 (up2 d 76 x7.toNat (w32 (x8 - (w32 (s0 * x3))))) (Fr.g (Fr.upa f0 rfl (by decide)) hg) h)
theorem fr_Mo_coaches_b164 {o : (Int × Int × Int × Int × Int × Int × Int × Dt) ⊕ ((Int × Int × Int × Int × Int × Dt))} (x1 x2 x3 x4 x5 x6 x7 s0 : Int) (d : Dt) (hg : d GH 0 ≤ 6) (h : L_Mo_coaches_b164 x1 x2 x3 x4 x5 x6 x7 s0 d = some o) : Fr wo_Mo_coaches [76, 77, 78, 79, 80] false d (hb_Mo_coaches_134 o) := by
  have f0 : Fr wo_Mo_coaches [76, 77, 78, 79, 80] false d d := Fr.rfl
  unfold L_Mo_coaches_b164 at h
  rcases ite_some h with ⟨hc23_, h⟩ | ⟨hc23_, h⟩
  · obtain ⟨hc24_, h⟩ := ck_some h
    exact Fr.tr0 f0 (fr_Mo_coaches_b180 x1 x2 x3 x4 x5 x6 x7 s0 (idiv s0 x3) d (Fr.g f0 hg) h)
  · exact Fr.tr0 f0 (fr_Mo_coaches_b180 x1 x2 x3 x4 x5 x6 x7 s0 0 d (Fr.g f0 hg) h)
theorem fr_Mo_coaches_y134 {o : (Int × Int × Int × Int × Int × Int × Int × Dt) ⊕ ((Int × Int × Int × Int × Int × Dt))} (x1 x2 x3 x4 x5 x6 x7 : Int) (d : Dt) (hg : d GH 0 ≤ 6) (h : L_Mo_coaches_y134 x1 x2 x3 x4 x5 x6 x7 d = some o) : Fr wo_Mo_coaches [76, 77, 78, 79, 80] false d (hb_Mo_coaches_134 o) := by
  have f0 : Fr wo_Mo_coaches [76, 77, 78, 79, 80] false d d := Fr.rfl
  unfold L_Mo_coaches_y134 at h
  rcases ite_some h with ⟨hc25_, h⟩ | ⟨hc25_, h⟩
  · rcases ite_some h with ⟨hc26_, h⟩ | ⟨hc26_, h⟩
    · exact Fr.tr0 f0 (fr_Mo_coaches_b164 x1 x2 x3 x4 x5 x6 x7 0 d (Fr.g f0 hg) h)
    · obtain ⟨hb27_, h⟩ := ck_some h
      exact Fr.tr0 f0 (fr_Mo_coaches_b164 x1 x2 x3 x4 x5 x6 x7 (w32 (d 3 ((w32 ((w32 (60 * x2)) + x7))).toNat)) d (Fr.g f0 hg) h)
  · obtain rfl := Option.some.inj h
    exact f0
theorem fr_Mo_coaches_l134 {x : (Int × Int × Int × Int × Int × Dt)} (x1 x2 x3 x4 x5 x6 x7 : Int) (d : Dt) (hg : d GH 0 ≤ 6) (h : L_Mo_coaches_l134 x1 x2 x3 x4 x5 x6 x7 d = some x) : Fr wo_Mo_coaches [76, 77, 78, 79, 80] false d (he_Mo_coaches_134 x) :=
  lpF_fr (f := fun q : Int × Int × Int × Int × Int × Int × Int × Dt => L_Mo_coaches_y134 q.1 q.2.1 q.2.2.1 q.2.2.2.1 q.2.2.2.2.1 q.2.2.2.2.2.1 q.2.2.2.2.2.2.1 q.2.2.2.2.2.2.2) (fun q => q.2.2.2.2.2.2.2) he_Mo_coaches_134 (fun q x hq hx => ⟨fun q2 e2 => by subst e2; exact fr_Mo_coaches_y134 q.1 q.2.1 q.2.2.1 q.2.2.2.1 q.2.2.2.2.1 q.2.2.2.2.2.1 q.2.2.2.2.2.2.1 q.2.2.2.2.2.2.2 hq hx, fun r2 e2 => by subst e2; exact fr_Mo_coaches_y134 q.1 q.2.1 q.2.2.1 q.2.2.2.1 q.2.2.2.2.1 q.2.2.2.2.2.1 q.2.2.2.2.2.2.1 q.2.2.2.2.2.2.2 hq hx⟩) FU _ x hg h
theorem fr_Mo_coaches_b436 {o : (Int × Int × Int × Int × Int × Int × Int × Dt) ⊕ ((Int × Int × Int × Int × Int × Dt))} (x3 x4 x5 x6 x7 x8 x9 : Int) (d : Dt) (hg : d GH 0 ≤ 6) (h : L_Mo_coaches_b436 x3 x4 x5 x6 x7 x8 x9 d = some o) : Fr wo_Mo_coaches [76, 77, 78, 79, 80] false d (hb_Mo_coaches_315 o) := by
  have f0 : Fr wo_Mo_coaches [76, 77, 78, 79, 80] false d d := Fr.rfl
  unfold L_Mo_coaches_b436 at h
  obtain ⟨v29_, ev30_, h⟩ := lt_some h
  obtain rfl := Option.some.inj h
  exact f0
theorem fr_Mo_coaches_b418 {o : (Int × Int × Int × Int × Int × Int × Int × Dt) ⊕ ((Int × Int × Int × Int × Int × Dt))} (x3 x4 x5 x6 x7 x8 x9 x10 x11 : Int) (d : Dt) (hg : d GH 0 ≤ 6) (h : L_Mo_coaches_b418 x3 x4 x5 x6 x7 x8 x9 x10 x11 d = some o) : Fr wo_Mo_coaches [76, 77, 78, 79, 80] false d (hb_Mo_coaches_315 o) := by
  have f0 : Fr wo_Mo_coaches [76, 77, 78, 79, 80] false d d := Fr.rfl
  unfold L_Mo_coaches_b418 at h
  obtain ⟨hb32_, h⟩ := ck_some h
  obtain ⟨hb33_, h⟩ := ck_some h
  exact Fr.tr0 (Fr.upa (Fr.upa f0 rfl (by decide)) rfl (by decide)) (fr_Mo_coaches_b436 x3 x4 x5 x6 x7 x8 x9 (up2 (up2 d 79 x7.toNat x10) 80 x7.toNat x11) (Fr.g (Fr.upa (Fr.upa f0 rfl (by decide)) rfl (by decide)) hg) h)
theorem fr_Mo_coaches_y315 {o : (Int × Int × Int × Int × Int × Int × Int × Dt) ⊕ ((Int × Int × Int × Int × Int × Dt))} (x3 x4 x5 x6 x7 x8 x9 : Int) (d : Dt) (hg : d GH 0 ≤ 6) (h : L_Mo_coaches_y315 x3 x4 x5 x6 x7 x8 x9 d = some o) : Fr wo_Mo_coaches [76, 77, 78, 79, 80] false d (hb_Mo_coaches_315 o) := by
  have f0 : Fr wo_Mo_coaches [76, 77, 78, 79, 80] false d d := Fr.rfl
  unfold L_Mo_coaches_y315 at h
  rcases ite_some h with ⟨hc34_, h⟩ | ⟨hc34_, h⟩
  · rcases ite_some h with ⟨hc35_, h⟩ | ⟨hc35_, h⟩
    · exact Fr.tr0 f0 (fr_Mo_coaches_b436 x3 x4 x5 x6 x7 x8 x9 d (Fr.g f0 hg) h)
    · obtain ⟨r37_, d36_, hr38_, h⟩ := bd_some h
      have fd36_ : Fr wo_Mo_coaches [76, 77, 78, 79, 80] false d d36_ := Fr.tr f0 (fr_Mo_load x9 d (Fr.g f0 hg) hr38_) (by decide) (by decide) (by decide)
      rcases ite_some h with ⟨hc40_, h⟩ | ⟨hc40_, h⟩
      · exact Fr.tr0 fd36_ (fr_Mo_coaches_b436 x3 x4 x5 x6 x7 x8 x9 d36_ (Fr.g fd36_ hg) h)
      · obtain ⟨hb41_, h⟩ := ck_some h
        obtain ⟨hb43_, h⟩ := ck_some h
        obtain ⟨v45_, ev46_, h⟩ := lt_some h
        obtain ⟨hb48_, h⟩ := ck_some h
        obtain ⟨v50_, ev51_, h⟩ := lt_some h
        obtain ⟨hb53_, h⟩ := ck_some h
        rcases ite_some h with ⟨hc55_, h⟩ | ⟨hc55_, h⟩
        · exact Fr.tr0 fd36_ (fr_Mo_coaches_b436 x3 x4 x5 x6 x7 x8 x9 d36_ (Fr.g fd36_ hg) h)
        · obtain ⟨hb56_, h⟩ := ck_some h
          rcases ite_some h with ⟨hc58_, h⟩ | ⟨hc58_, h⟩
          · obtain ⟨hb59_, h⟩ := ck_some h
            rcases ite_some h with ⟨hc61_, h⟩ | ⟨hc61_, h⟩
            · exact Fr.tr0 fd36_ (fr_Mo_coaches_b418 x3 x4 x5 x6 x7 x8 x9 v45_ v50_ d36_ (Fr.g fd36_ hg) h)
            · exact Fr.tr0 fd36_ (fr_Mo_coaches_b436 x3 x4 x5 x6 x7 x8 x9 d36_ (Fr.g fd36_ hg) h)
          · exact Fr.tr0 fd36_ (fr_Mo_coaches_b418 x3 x4 x5 x6 x7 x8 x9 v45_ v50_ d36_ (Fr.g fd36_ hg) h)
  · obtain rfl := Option.some.inj h
    exact f0
theorem fr_Mo_coaches_l315 {x : (Int × Int × Int × Int × Int × Dt)} (x3 x4 x5 x6 x7 x8 x9 : Int) (d : Dt) (hg : d GH 0 ≤ 6) (h : L_Mo_coaches_l315 x3 x4 x5 x6 x7 x8 x9 d = some x) : Fr wo_Mo_coaches [76, 77, 78, 79, 80] false d (he_Mo_coaches_315 x) :=
  lpF_fr (f := fun q : Int × Int × Int × Int × Int × Int × Int × Dt => L_Mo_coaches_y315 q.1 q.2.1 q.2.2.1 q.2.2.2.1 q.2.2.2.2.1 q.2.2.2.2.2.1 q.2.2.2.2.2.2.1 q.2.2.2.2.2.2.2) (fun q => q.2.2.2.2.2.2.2) he_Mo_coaches_315 (fun q x hq hx => ⟨fun q2 e2 => by subst e2; exact fr_Mo_coaches_y315 q.1 q.2.1 q.2.2.1 q.2.2.2.1 q.2.2.2.2.1 q.2.2.2.2.2.1 q.2.2.2.2.2.2.1 q.2.2.2.2.2.2.2 hq hx, fun r2 e2 => by subst e2; exact fr_Mo_coaches_y315 q.1 q.2.1 q.2.2.1 q.2.2.2.1 q.2.2.2.2.1 q.2.2.2.2.2.1 q.2.2.2.2.2.2.1 q.2.2.2.2.2.2.2 hq hx⟩) FU _ x hg h
theorem fr_Mo_coaches_b448 {o : (Int × Int × Int × Int × Int × Dt) ⊕ ((Int × Int × Int × Dt))} (x3 x4 x5 x6 x7 : Int) (d : Dt) (hg : d GH 0 ≤ 6) (h : L_Mo_coaches_b448 x3 x4 x5 x6 x7 d = some o) : Fr wo_Mo_coaches [76, 77, 78, 79, 80] false d (hb_Mo_coaches_272 o) := by
  have f0 : Fr wo_Mo_coaches [76, 77, 78, 79, 80] false d d := Fr.rfl
  unfold L_Mo_coaches_b448 at h
  obtain rfl := Option.some.inj h
  exact f0
theorem fr_Mo_coaches_y272 {o : (Int × Int × Int × Int × Int × Dt) ⊕ ((Int × Int × Int × Dt))} (x3 x4 x5 x6 x7 : Int) (d : Dt) (hg : d GH 0 ≤ 6) (h : L_Mo_coaches_y272 x3 x4 x5 x6 x7 d = some o) : Fr wo_Mo_coaches [76, 77, 78, 79, 80] false d (hb_Mo_coaches_272 o) := by
  have f0 : Fr wo_Mo_coaches [76, 77, 78, 79, 80] false d d := Fr.rfl
  unfold L_Mo_coaches_y272 at h
  rcases ite_some h with ⟨hc62_, h⟩ | ⟨hc62_, h⟩
  · rcases ite_some h with ⟨hc63_, h⟩ | ⟨hc63_, h⟩
    · obtain ⟨v64_, ev65_, h⟩ := lt_some h
      obtain ⟨hb67_, h⟩ := ck_some h
      obtain ⟨x68_, hx69_, h⟩ := lb_some h
      have fx68_ := Fr.tr0 (Fr.upa f0 rfl (by decide)) (fr_Mo_coaches_l315 x3 x4 x5 x6 x7 v64_ x7 (up2 d 79 x7.toNat 100000000) (Fr.g (Fr.upa f0 rfl (by decide)) hg) hx69_)
      obtain ⟨v70_, v71_, v72_, v73_, v74_, d75_⟩ := x68_
      have fd75_ : Fr wo_Mo_coaches [76, 77, 78, 79, 80] false d d75_ := fx68_
      replace h := u5_e h
      exact Fr.tr0 fd75_ (fr_Mo_coaches_b448 v70_ v71_ v72_ v73_ v74_ d75_ (Fr.g fd75_ hg) h)
    · exact Fr.tr0 f0 (fr_Mo_coaches_b448 x3 x4 x5 x6 x7 d (Fr.g f0 hg) h)
  · obtain rfl := Option.some.inj h
    exact f0
theorem fr_Mo_coaches_l272 {x : (Int × Int × Int × Dt)} (x3 x4 x5 x6 x7 : Int) (d : Dt) (hg : d GH 0 ≤ 6) (h : L_Mo_coaches_l272 x3 x4 x5 x6 x7 d = some x) : Fr wo_Mo_coaches [76, 77, 78, 79, 80] false d (he_Mo_coaches_272 x) :=
  lpF_fr (f := fun q : Int × Int × Int × Int × Int × Dt => L_Mo_coaches_y272 q.1 q.2.1 q.2.2.1 q.2.2.2.1 q.2.2.2.2.1 q.2.2.2.2.2) (fun q => q.2.2.2.2.2) he_Mo_coaches_272 (fun q x hq hx => ⟨fun q2 e2 => by subst e2; exact fr_Mo_coaches_y272 q.1 q.2.1 q.2.2.1 q.2.2.2.1 q.2.2.2.2.1 q.2.2.2.2.2 hq hx, fun r2 e2 => by subst e2; exact fr_Mo_coaches_y272 q.1 q.2.1 q.2.2.1 q.2.2.2.1 q.2.2.2.2.1 q.2.2.2.2.2 hq hx⟩) FU _ x hg h
theorem fr_Mo_coaches_b25 {r : Int} {d' : Dt} (d : Dt) (hg : d GH 0 ≤ 6) (h : L_Mo_coaches_b25 d = some (r, d')) : Fr wo_Mo_coaches [76, 77, 78, 79, 80] false d d' := by
  have f0 : Fr wo_Mo_coaches [76, 77, 78, 79, 80] false d d := Fr.rfl
  unfold L_Mo_coaches_b25 at h
  obtain ⟨r79_, d78_, hr80_, h⟩ := bd_some h
  have fd78_ : Fr wo_Mo_coaches [76, 77, 78, 79, 80] false d d78_ := Fr.tr f0 (fr_Mo_refuse 1 d (Fr.g f0 hg) hr80_) (by decide) (by decide) (by decide)
  obtain ⟨rfl, rfl⟩ := ret_inj h
  exact fd78_
theorem fr_Mo_coaches_b110 {r : Int} {d' : Dt} (d : Dt) (hg : d GH 0 ≤ 6) (h : L_Mo_coaches_b110 d = some (r, d')) : Fr wo_Mo_coaches [76, 77, 78, 79, 80] false d d' := by
  have f0 : Fr wo_Mo_coaches [76, 77, 78, 79, 80] false d d := Fr.rfl
  unfold L_Mo_coaches_b110 at h
  obtain ⟨r83_, d82_, hr84_, h⟩ := bd_some h
  have fd82_ : Fr wo_Mo_coaches [76, 77, 78, 79, 80] false d d82_ := Fr.tr f0 (fr_Mo_refuse 1 d (Fr.g f0 hg) hr84_) (by decide) (by decide) (by decide)
  obtain ⟨rfl, rfl⟩ := ret_inj h
  exact fd82_
theorem fr_Mo_coaches {r : Int} {d' : Dt} (p1 p2 p3 : Int) (d : Dt) (hg : d GH 0 ≤ 6) (h : L_Mo_coaches p1 p2 p3 d = some (r, d')) : Fr wo_Mo_coaches [76, 77, 78, 79, 80] false d d' := by
  have f0 : Fr wo_Mo_coaches [76, 77, 78, 79, 80] false d d := Fr.rfl
  unfold L_Mo_coaches at h
  obtain ⟨r87_, d86_, hr88_, h⟩ := bd_some h
  have fd86_ : Fr wo_Mo_coaches [76, 77, 78, 79, 80] false d d86_ := Fr.tr f0 (fr_Mo_isPlace p1 d (Fr.g f0 hg) hr88_) (by decide) (by decide) (by decide)
  rcases ite_some h with ⟨hc90_, h⟩ | ⟨hc90_, h⟩
  · exact Fr.tr0 fd86_ (fr_Mo_coaches_b25  d86_ (Fr.g fd86_ hg) h)
  · obtain ⟨r92_, d91_, hr93_, h⟩ := bd_some h
    have fd91_ : Fr wo_Mo_coaches [76, 77, 78, 79, 80] false d d91_ := Fr.tr fd86_ (fr_Mo_isTray p2 d86_ (Fr.g fd86_ hg) hr93_) (by decide) (by decide) (by decide)
    rcases ite_some h with ⟨hc95_, h⟩ | ⟨hc95_, h⟩
    · exact Fr.tr0 fd91_ (fr_Mo_coaches_b25  d91_ (Fr.g fd91_ hg) h)
    · rcases ite_some h with ⟨hc96_, h⟩ | ⟨hc96_, h⟩
      · exact Fr.tr0 fd91_ (fr_Mo_coaches_b25  d91_ (Fr.g fd91_ hg) h)
      · rcases ite_some h with ⟨hc97_, h⟩ | ⟨hc97_, h⟩
        · exact Fr.tr0 fd91_ (fr_Mo_coaches_b25  d91_ (Fr.g fd91_ hg) h)
        · obtain ⟨hb98_, h⟩ := ck_some h
          rcases ite_some h with ⟨hc100_, h⟩ | ⟨hc100_, h⟩
          · obtain ⟨r102_, d101_, hr103_, h⟩ := bd_some h
            have fd101_ : Fr wo_Mo_coaches [76, 77, 78, 79, 80] false d d101_ := Fr.tr fd91_ (fr_Mo_refuse 2 d91_ (Fr.g fd91_ hg) hr103_) (by decide) (by decide) (by decide)
            obtain ⟨rfl, rfl⟩ := ret_inj h
            exact fd101_
          · obtain ⟨hb105_, h⟩ := ck_some h
            rcases ite_some h with ⟨hc107_, h⟩ | ⟨hc107_, h⟩
            · obtain ⟨r109_, d108_, hr110_, h⟩ := bd_some h
              have fd108_ : Fr wo_Mo_coaches [76, 77, 78, 79, 80] false d d108_ := Fr.tr fd91_ (fr_Mo_refuse 3 d91_ (Fr.g fd91_ hg) hr110_) (by decide) (by decide) (by decide)
              obtain ⟨rfl, rfl⟩ := ret_inj h
              exact fd108_
            · obtain ⟨x112_, hx113_, h⟩ := lb_some h
              have fx112_ := Fr.tr0 fd91_ (fr_Mo_coaches_l67 p1 p2 p3 0 d91_ (Fr.g fd91_ hg) hx113_)
              rcases x112_ with ⟨v114_, v115_, v116_, d117_⟩ | d149_
              · have fd117_ : Fr wo_Mo_coaches [76, 77, 78, 79, 80] false d d117_ := fx112_
                replace h := sml_e h
                replace h := u3_e h
                obtain ⟨x119_, hx120_, h⟩ := lb_some h
                have fx119_ := Fr.tr0 fd117_ (fr_Mo_coaches_l134 v114_ v115_ v116_ 0 0 0 0 d117_ (Fr.g fd117_ hg) hx120_)
                obtain ⟨v121_, v122_, v123_, v124_, v125_, d126_⟩ := x119_
                have fd126_ : Fr wo_Mo_coaches [76, 77, 78, 79, 80] false d d126_ := fx119_
                replace h := u5_e h
                obtain ⟨r129_, d128_, hr130_, h⟩ := bd_some h
                have fd128_ : Fr wo_Mo_coaches [76, 77, 78, 79, 80] false d d128_ := Fr.tr fd126_ (fr_Mo_walk v121_ d126_ (Fr.g fd126_ hg) hr130_) (by decide) (by decide) (by decide)
                obtain ⟨x132_, hx133_, h⟩ := lb_some h
                have fx132_ := Fr.tr0 (Fr.upa (Fr.upa fd128_ rfl (by decide)) rfl (by decide)) (fr_Mo_coaches_l272 v122_ v123_ v124_ v125_ 1 (up2 (up2 d128_ 79 0 0) 80 0 0) (Fr.g (Fr.upa (Fr.upa fd128_ rfl (by decide)) rfl (by decide)) hg) hx133_)
                obtain ⟨v134_, v135_, v136_, d137_⟩ := x132_
                have fd137_ : Fr wo_Mo_coaches [76, 77, 78, 79, 80] false d d137_ := fx132_
                replace h := u3_e h
                obtain ⟨hb139_, h⟩ := ck_some h
                obtain ⟨hb141_, h⟩ := ck_some h
                obtain ⟨r144_, d143_, hr145_, h⟩ := bd_some h
                have fd143_ : Fr wo_Mo_coaches [76, 77, 78, 79, 80] false d d143_ := Fr.tr (Fr.upo fd137_ rfl (by decide)) (fr_Mo_gives (w32 (v134_ + (d137_ 79 v136_.toNat))) (up2 d137_ 0 108 (w32 (v135_ + (d137_ 80 v136_.toNat)))) (Fr.g (Fr.upo fd137_ rfl (by decide)) hg) hr145_) (by decide) (by decide) (by decide)
                obtain ⟨rfl, rfl⟩ := ret_inj h
                exact fd143_
              · have fd149_ : Fr wo_Mo_coaches [76, 77, 78, 79, 80] false d d149_ := fx112_
                replace h := smr_e h
                replace h := u0_e h
                exact Fr.tr0 fd149_ (fr_Mo_coaches_b110  d149_ (Fr.g fd149_ hg) h)
/-! frames of Mo_coachMany -/
def wo_Mo_coachMany : List (Nat × Nat) := [(0, 0)]
theorem fr_Mo_coachMany {r : Int} {d' : Dt} (d : Dt) (hg : d GH 0 ≤ 6) (h : L_Mo_coachMany d = some (r, d')) : Fr wo_Mo_coachMany [] false d d' := by
  have f0 : Fr wo_Mo_coachMany [] false d d := Fr.rfl
  unfold L_Mo_coachMany at h
  rcases ite_some h with ⟨hc2_, h⟩ | ⟨hc2_, h⟩
  · obtain ⟨r4_, d3_, hr5_, h⟩ := bd_some h
    have fd3_ : Fr wo_Mo_coachMany [] false d d3_ := Fr.tr f0 (fr_Mo_refuse 6 d (Fr.g f0 hg) hr5_) (by decide) (by decide) (by decide)
    obtain ⟨rfl, rfl⟩ := ret_inj h
    exact fd3_
  · obtain ⟨r9_, d8_, hr10_, h⟩ := bd_some h
    have fd8_ : Fr wo_Mo_coachMany [] false d d8_ := Fr.tr f0 (fr_Mo_gives (d 0 108) d (Fr.g f0 hg) hr10_) (by decide) (by decide) (by decide)
    obtain ⟨rfl, rfl⟩ := ret_inj h
    exact fd8_
