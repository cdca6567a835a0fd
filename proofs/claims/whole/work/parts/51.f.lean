/-! frames of Bo_has -/
def wo_Bo_has : List (Nat × Nat) := []
theorem fr_Bo_has {r : Int} {d' : Dt} (p1 p2 : Int) (d : Dt) (hg : d GH 0 ≤ 6) (h : L_Bo_has p1 p2 d = some (r, d')) : Fr wo_Bo_has [] false d d' := by
  have f0 : Fr wo_Bo_has [] false d d := Fr.rfl
  unfold L_Bo_has at h
  rcases ite_some h with ⟨hc1_, h⟩ | ⟨hc1_, h⟩
  · obtain ⟨rfl, rfl⟩ := ret_inj h
    exact f0
  · obtain ⟨hb2_, h⟩ := ck_some h
    rcases ite_some h with ⟨hc4_, h⟩ | ⟨hc4_, h⟩
    · obtain ⟨rfl, rfl⟩ := ret_inj h
      exact f0
    · obtain ⟨rfl, rfl⟩ := ret_inj h
      exact f0
/-! frames of Bo_mateOf -/
def wo_Bo_mateOf : List (Nat × Nat) := [(37, 10)]
theorem fr_Bo_mateOf {r : Int} {d' : Dt} (p1 p2 : Int) (d : Dt) (hg : d GH 0 ≤ 6) (h : L_Bo_mateOf p1 p2 d = some (r, d')) : Fr wo_Bo_mateOf [44, 45, 46, 47] false d d' := by
  have f0 : Fr wo_Bo_mateOf [44, 45, 46, 47] false d d := Fr.rfl
  unfold L_Bo_mateOf at h
  obtain ⟨r2_, d1_, hr3_, h⟩ := bd_some h
  have fd1_ : Fr wo_Bo_mateOf [44, 45, 46, 47] false d d1_ := Fr.tr f0 (fr_Bo_settle  d (Fr.g f0 hg) hr3_) (by decide) (by decide) (by decide)
  obtain ⟨hb5_, h⟩ := ck_some h
  obtain ⟨rfl, rfl⟩ := ret_inj h
  exact fd1_
/-! frames of PB_mate -/
def wo_PB_mate : List (Nat × Nat) := [(0, 0), (37, 10)]
theorem fr_PB_mate_b70 {r : Int} {d' : Dt} (x4 s1 : Int) (d : Dt) (hg : d GH 0 ≤ 6) (h : L_PB_mate_b70 x4 s1 d = some (r, d')) : Fr wo_PB_mate [44, 45, 46, 47] false d d' := by
  have f0 : Fr wo_PB_mate [44, 45, 46, 47] false d d := Fr.rfl
  unfold L_PB_mate_b70 at h
  obtain ⟨rfl, rfl⟩ := ret_inj h
  exact (Fr.upo f0 rfl (by decide))
theorem fr_PB_mate_b47 {r : Int} {d' : Dt} (x3 s0 : Int) (d : Dt) (hg : d GH 0 ≤ 6) (h : L_PB_mate_b47 x3 s0 d = some (r, d')) : Fr wo_PB_mate [44, 45, 46, 47] false d d' := by
  have f0 : Fr wo_PB_mate [44, 45, 46, 47] false d d := Fr.rfl
  unfold L_PB_mate_b47 at h
  rcases ite_some h with ⟨hc1_, h⟩ | ⟨hc1_, h⟩
  · exact Fr.tr0 f0 (fr_PB_mate_b70 s0 1 d (Fr.g f0 hg) h)
  · rcases ite_some h with ⟨hc2_, h⟩ | ⟨hc2_, h⟩
    · exact Fr.tr0 f0 (fr_PB_mate_b70 s0 6 d (Fr.g f0 hg) h)
    · exact Fr.tr0 f0 (fr_PB_mate_b70 s0 0 d (Fr.g f0 hg) h)
theorem fr_PB_mate_b29 {r : Int} {d' : Dt} (x1 x2 s0 : Int) (d : Dt) (hg : d GH 0 ≤ 6) (h : L_PB_mate_b29 x1 x2 s0 d = some (r, d')) : Fr wo_PB_mate [44, 45, 46, 47] false d d' := by
  have f0 : Fr wo_PB_mate [44, 45, 46, 47] false d d := Fr.rfl
  unfold L_PB_mate_b29 at h
  rcases ite_some h with ⟨hc3_, h⟩ | ⟨hc3_, h⟩
  · exact Fr.tr0 f0 (fr_PB_mate_b47 s0 (-1) d (Fr.g f0 hg) h)
  · obtain ⟨r5_, d4_, hr6_, h⟩ := bd_some h
    have fd4_ : Fr wo_PB_mate [44, 45, 46, 47] false d d4_ := Fr.tr f0 (fr_Bo_mateOf x1 x2 d (Fr.g f0 hg) hr6_) (by decide) (by decide) (by decide)
    exact Fr.tr0 fd4_ (fr_PB_mate_b47 s0 r5_ d4_ (Fr.g fd4_ hg) h)
theorem fr_PB_mate {r : Int} {d' : Dt} (p1 p2 : Int) (d : Dt) (hg : d GH 0 ≤ 6) (h : L_PB_mate p1 p2 d = some (r, d')) : Fr wo_PB_mate [44, 45, 46, 47] false d d' := by
  have f0 : Fr wo_PB_mate [44, 45, 46, 47] false d d := Fr.rfl
  unfold L_PB_mate at h
  obtain ⟨r9_, d8_, hr10_, h⟩ := bd_some h
  have fd8_ : Fr wo_PB_mate [44, 45, 46, 47] false d d8_ := Fr.tr f0 (fr_PB_within p1 1 2 d (Fr.g f0 hg) hr10_) (by decide) (by decide) (by decide)
  rcases ite_some h with ⟨hc12_, h⟩ | ⟨hc12_, h⟩
  · exact Fr.tr0 fd8_ (fr_PB_mate_b29 p1 p2 0 d8_ (Fr.g fd8_ hg) h)
  · obtain ⟨r14_, d13_, hr15_, h⟩ := bd_some h
    have fd13_ : Fr wo_PB_mate [44, 45, 46, 47] false d d13_ := Fr.tr fd8_ (fr_Bo_has 0 p2 d8_ (Fr.g fd8_ hg) hr15_) (by decide) (by decide) (by decide)
    rcases ite_some h with ⟨hc17_, h⟩ | ⟨hc17_, h⟩
    · exact Fr.tr0 fd13_ (fr_PB_mate_b29 p1 p2 0 d13_ (Fr.g fd13_ hg) h)
    · exact Fr.tr0 fd13_ (fr_PB_mate_b29 p1 p2 1 d13_ (Fr.g fd13_ hg) h)
/-! frames of Bo_joinedSet -/
def wo_Bo_joinedSet : List (Nat × Nat) := [(37, 10)]
theorem fr_Bo_joinedSet {r : Int} {d' : Dt} (p1 : Int) (d : Dt) (hg : d GH 0 ≤ 6) (h : L_Bo_joinedSet p1 d = some (r, d')) : Fr wo_Bo_joinedSet [44, 45, 46, 47] false d d' := by
  have f0 : Fr wo_Bo_joinedSet [44, 45, 46, 47] false d d := Fr.rfl
  unfold L_Bo_joinedSet at h
  obtain ⟨r2_, d1_, hr3_, h⟩ := bd_some h
  have fd1_ : Fr wo_Bo_joinedSet [44, 45, 46, 47] false d d1_ := Fr.tr f0 (fr_Bo_settle  d (Fr.g f0 hg) hr3_) (by decide) (by decide) (by decide)
  obtain ⟨hb5_, h⟩ := ck_some h
  obtain ⟨rfl, rfl⟩ := ret_inj h
  exact fd1_
/-! frames of PB_joined -/
def wo_PB_joined : List (Nat × Nat) := [(0, 0), (37, 10)]
theorem fr_PB_joined_b18 {r : Int} {d' : Dt} (x1 s1 : Int) (d : Dt) (hg : d GH 0 ≤ 6) (h : L_PB_joined_b18 x1 s1 d = some (r, d')) : Fr wo_PB_joined [44, 45, 46, 47] false d d' := by
  have f0 : Fr wo_PB_joined [44, 45, 46, 47] false d d := Fr.rfl
  unfold L_PB_joined_b18 at h
  rcases ite_some h with ⟨hc2_, h⟩ | ⟨hc2_, h⟩
  · obtain ⟨r4_, d3_, hr5_, h⟩ := bd_some h
    have fd3_ : Fr wo_PB_joined [44, 45, 46, 47] false d d3_ := Fr.tr (Fr.upo f0 rfl (by decide)) (fr_Bo_joinedSet x1 (up2 d 0 0 s1) (Fr.g (Fr.upo f0 rfl (by decide)) hg) hr5_) (by decide) (by decide) (by decide)
    obtain ⟨rfl, rfl⟩ := ret_inj h
    exact fd3_
  · obtain ⟨rfl, rfl⟩ := ret_inj h
    exact (Fr.upo f0 rfl (by decide))
theorem fr_PB_joined {r : Int} {d' : Dt} (p1 : Int) (d : Dt) (hg : d GH 0 ≤ 6) (h : L_PB_joined p1 d = some (r, d')) : Fr wo_PB_joined [44, 45, 46, 47] false d d' := by
  have f0 : Fr wo_PB_joined [44, 45, 46, 47] false d d := Fr.rfl
  unfold L_PB_joined at h
  obtain ⟨r8_, d7_, hr9_, h⟩ := bd_some h
  have fd7_ : Fr wo_PB_joined [44, 45, 46, 47] false d d7_ := Fr.tr f0 (fr_Bo_has 0 p1 d (Fr.g f0 hg) hr9_) (by decide) (by decide) (by decide)
  rcases ite_some h with ⟨hc11_, h⟩ | ⟨hc11_, h⟩
  · exact Fr.tr0 fd7_ (fr_PB_joined_b18 p1 1 d7_ (Fr.g fd7_ hg) h)
  · exact Fr.tr0 fd7_ (fr_PB_joined_b18 p1 0 d7_ (Fr.g fd7_ hg) h)
/-! frames of PB_isCandidate -/
def wo_PB_isCandidate : List (Nat × Nat) := []
theorem fr_PB_isCandidate {r : Int} {d' : Dt} (p1 : Int) (d : Dt) (hg : d GH 0 ≤ 6) (h : L_PB_isCandidate p1 d = some (r, d')) : Fr wo_PB_isCandidate [] false d d' := by
  have f0 : Fr wo_PB_isCandidate [] false d d := Fr.rfl
  unfold L_PB_isCandidate at h
  obtain ⟨r2_, d1_, hr3_, h⟩ := bd_some h
  have fd1_ : Fr wo_PB_isCandidate [] false d d1_ := Fr.tr f0 (fr_PB_within p1 0 3 d (Fr.g f0 hg) hr3_) (by decide) (by decide) (by decide)
  obtain ⟨rfl, rfl⟩ := ret_inj h
  exact fd1_
/-! frames of Bo_countJoined -/
def wo_Bo_countJoined : List (Nat × Nat) := [(37, 10)]
def he_Bo_countJoined_8 (q : (Int × Dt)) : Dt := q.2
def hb_Bo_countJoined_8 (o : (Int × Int × Int × Dt) ⊕ ((Int × Dt))) : Dt := match o with
  | .inl q => q.2.2.2
  | .inr r => he_Bo_countJoined_8 r
theorem fr_Bo_countJoined_y8 {o : (Int × Int × Int × Dt) ⊕ ((Int × Dt))} (x1 x2 x3 : Int) (d : Dt) (hg : d GH 0 ≤ 6) (h : L_Bo_countJoined_y8 x1 x2 x3 d = some o) : Fr wo_Bo_countJoined [44, 45, 46, 47] false d (hb_Bo_countJoined_8 o) := by
  have f0 : Fr wo_Bo_countJoined [44, 45, 46, 47] false d d := Fr.rfl
  unfold L_Bo_countJoined_y8 at h
  rcases ite_some h with ⟨hc2_, h⟩ | ⟨hc2_, h⟩
  · obtain ⟨hb3_, h⟩ := ck_some h
    obtain ⟨v5_, ev6_, h⟩ := lt_some h
    obtain rfl := Option.some.inj h
    exact f0
  · obtain rfl := Option.some.inj h
    exact f0
theorem fr_Bo_countJoined_l8 {x : (Int × Dt)} (x1 x2 x3 : Int) (d : Dt) (hg : d GH 0 ≤ 6) (h : L_Bo_countJoined_l8 x1 x2 x3 d = some x) : Fr wo_Bo_countJoined [44, 45, 46, 47] false d (he_Bo_countJoined_8 x) :=
  lpF_fr (f := fun q : Int × Int × Int × Dt => L_Bo_countJoined_y8 q.1 q.2.1 q.2.2.1 q.2.2.2) (fun q => q.2.2.2) he_Bo_countJoined_8 (fun q x hq hx => ⟨fun q2 e2 => by subst e2; exact fr_Bo_countJoined_y8 q.1 q.2.1 q.2.2.1 q.2.2.2 hq hx, fun r2 e2 => by subst e2; exact fr_Bo_countJoined_y8 q.1 q.2.1 q.2.2.1 q.2.2.2 hq hx⟩) FU _ x hg h
theorem fr_Bo_countJoined {r : Int} {d' : Dt} (p1 : Int) (d : Dt) (hg : d GH 0 ≤ 6) (h : L_Bo_countJoined p1 d = some (r, d')) : Fr wo_Bo_countJoined [44, 45, 46, 47] false d d' := by
  have f0 : Fr wo_Bo_countJoined [44, 45, 46, 47] false d d := Fr.rfl
  unfold L_Bo_countJoined at h
  obtain ⟨r9_, d8_, hr10_, h⟩ := bd_some h
  have fd8_ : Fr wo_Bo_countJoined [44, 45, 46, 47] false d d8_ := Fr.tr f0 (fr_Bo_settle  d (Fr.g f0 hg) hr10_) (by decide) (by decide) (by decide)
  obtain ⟨x12_, hx13_, h⟩ := lb_some h
  have fx12_ := Fr.tr0 fd8_ (fr_Bo_countJoined_l8 p1 0 0 d8_ (Fr.g fd8_ hg) hx13_)
  obtain ⟨v14_, d15_⟩ := x12_
  have fd15_ : Fr wo_Bo_countJoined [44, 45, 46, 47] false d d15_ := fx12_
  replace h := u1_e h
  obtain ⟨rfl, rfl⟩ := ret_inj h
  exact fd15_
/-! frames of Bo_countWritten -/
def wo_Bo_countWritten : List (Nat × Nat) := []
def he_Bo_countWritten_5 (q : (Int × Dt)) : Dt := q.2
def hb_Bo_countWritten_5 (o : (Int × Int × Int × Int × Dt) ⊕ ((Int × Dt))) : Dt := match o with
  | .inl q => q.2.2.2.2
  | .inr r => he_Bo_countWritten_5 r
theorem fr_Bo_countWritten_y5 {o : (Int × Int × Int × Int × Dt) ⊕ ((Int × Dt))} (x1 x2 x3 x4 : Int) (d : Dt) (hg : d GH 0 ≤ 6) (h : L_Bo_countWritten_y5 x1 x2 x3 x4 d = some o) : Fr wo_Bo_countWritten [] false d (hb_Bo_countWritten_5 o) := by
  have f0 : Fr wo_Bo_countWritten [] false d d := Fr.rfl
  unfold L_Bo_countWritten_y5 at h
  obtain ⟨hb1_, h⟩ := ck_some h
  rcases ite_some h with ⟨hc3_, h⟩ | ⟨hc3_, h⟩
  · obtain ⟨hb4_, h⟩ := ck_some h
    obtain ⟨v6_, ev7_, h⟩ := lt_some h
    obtain rfl := Option.some.inj h
    exact f0
  · obtain rfl := Option.some.inj h
    exact f0
theorem fr_Bo_countWritten_l5 {x : (Int × Dt)} (x1 x2 x3 x4 : Int) (d : Dt) (hg : d GH 0 ≤ 6) (h : L_Bo_countWritten_l5 x1 x2 x3 x4 d = some x) : Fr wo_Bo_countWritten [] false d (he_Bo_countWritten_5 x) :=
  lpF_fr (f := fun q : Int × Int × Int × Int × Dt => L_Bo_countWritten_y5 q.1 q.2.1 q.2.2.1 q.2.2.2.1 q.2.2.2.2) (fun q => q.2.2.2.2) he_Bo_countWritten_5 (fun q x hq hx => ⟨fun q2 e2 => by subst e2; exact fr_Bo_countWritten_y5 q.1 q.2.1 q.2.2.1 q.2.2.2.1 q.2.2.2.2 hq hx, fun r2 e2 => by subst e2; exact fr_Bo_countWritten_y5 q.1 q.2.1 q.2.2.1 q.2.2.2.1 q.2.2.2.2 hq hx⟩) FU _ x hg h
theorem fr_Bo_countWritten {r : Int} {d' : Dt} (p1 p2 : Int) (d : Dt) (hg : d GH 0 ≤ 6) (h : L_Bo_countWritten p1 p2 d = some (r, d')) : Fr wo_Bo_countWritten [] false d d' := by
  have f0 : Fr wo_Bo_countWritten [] false d d := Fr.rfl
  unfold L_Bo_countWritten at h
  obtain ⟨x9_, hx10_, h⟩ := lb_some h
  have fx9_ := Fr.tr0 f0 (fr_Bo_countWritten_l5 p1 p2 0 0 d (Fr.g f0 hg) hx10_)
  obtain ⟨v11_, d12_⟩ := x9_
  have fd12_ : Fr wo_Bo_countWritten [] false d d12_ := fx9_
  replace h := u1_e h
  obtain ⟨rfl, rfl⟩ := ret_inj h
  exact fd12_
/-! frames of PB_tally -/
def wo_PB_tally : List (Nat × Nat) := [(0, 0), (37, 10)]
theorem fr_PB_tally_b25 {r : Int} {d' : Dt} (x1 x2 s1 : Int) (d : Dt) (hg : d GH 0 ≤ 6) (h : L_PB_tally_b25 x1 x2 s1 d = some (r, d')) : Fr wo_PB_tally [44, 45, 46, 47] false d d' := by
  have f0 : Fr wo_PB_tally [44, 45, 46, 47] false d d := Fr.rfl
  unfold L_PB_tally_b25 at h
  rcases ite_some h with ⟨hc2_, h⟩ | ⟨hc2_, h⟩
  · rcases ite_some h with ⟨hc3_, h⟩ | ⟨hc3_, h⟩
    · obtain ⟨r5_, d4_, hr6_, h⟩ := bd_some h
      have fd4_ : Fr wo_PB_tally [44, 45, 46, 47] false d d4_ := Fr.tr (Fr.upo f0 rfl (by decide)) (fr_Bo_countJoined x2 (up2 d 0 0 s1) (Fr.g (Fr.upo f0 rfl (by decide)) hg) hr6_) (by decide) (by decide) (by decide)
      obtain ⟨rfl, rfl⟩ := ret_inj h
      exact fd4_
    · obtain ⟨r9_, d8_, hr10_, h⟩ := bd_some h
      have fd8_ : Fr wo_PB_tally [44, 45, 46, 47] false d d8_ := Fr.tr (Fr.upo f0 rfl (by decide)) (fr_Bo_countWritten x1 x2 (up2 d 0 0 s1) (Fr.g (Fr.upo f0 rfl (by decide)) hg) hr10_) (by decide) (by decide) (by decide)
      obtain ⟨rfl, rfl⟩ := ret_inj h
      exact fd8_
  · obtain ⟨rfl, rfl⟩ := ret_inj h
    exact (Fr.upo f0 rfl (by decide))
theorem fr_PB_tally {r : Int} {d' : Dt} (p1 p2 : Int) (d : Dt) (hg : d GH 0 ≤ 6) (h : L_PB_tally p1 p2 d = some (r, d')) : Fr wo_PB_tally [44, 45, 46, 47] false d d' := by
  have f0 : Fr wo_PB_tally [44, 45, 46, 47] false d d := Fr.rfl
  unfold L_PB_tally at h
  obtain ⟨r13_, d12_, hr14_, h⟩ := bd_some h
  have fd12_ : Fr wo_PB_tally [44, 45, 46, 47] false d d12_ := Fr.tr f0 (fr_PB_within p1 0 3 d (Fr.g f0 hg) hr14_) (by decide) (by decide) (by decide)
  rcases ite_some h with ⟨hc16_, h⟩ | ⟨hc16_, h⟩
  · exact Fr.tr0 fd12_ (fr_PB_tally_b25 p1 p2 1 d12_ (Fr.g fd12_ hg) h)
  · obtain ⟨r18_, d17_, hr19_, h⟩ := bd_some h
    have fd17_ : Fr wo_PB_tally [44, 45, 46, 47] false d d17_ := Fr.tr fd12_ (fr_PB_isCandidate p2 d12_ (Fr.g fd12_ hg) hr19_) (by decide) (by decide) (by decide)
    rcases ite_some h with ⟨hc21_, h⟩ | ⟨hc21_, h⟩
    · exact Fr.tr0 fd17_ (fr_PB_tally_b25 p1 p2 1 d17_ (Fr.g fd17_ hg) h)
    · exact Fr.tr0 fd17_ (fr_PB_tally_b25 p1 p2 0 d17_ (Fr.g fd17_ hg) h)
/-! frames of Po_reachTo -/
def wo_Po_reachTo : List (Nat × Nat) := [(49, 3)]
theorem fr_Po_reachTo {r : Int} {d' : Dt} (p1 : Int) (d : Dt) (hg : d GH 0 ≤ 6) (h : L_Po_reachTo p1 d = some (r, d')) : Fr wo_Po_reachTo [] false d d' := by
  have f0 : Fr wo_Po_reachTo [] false d d := Fr.rfl
  unfold L_Po_reachTo at h
  obtain ⟨rfl, rfl⟩ := ret_inj h
  exact (Fr.upo f0 rfl (by decide))
/-! frames of PB_reach -/
def wo_PB_reach : List (Nat × Nat) := [(0, 0), (49, 3)]
theorem fr_PB_reach_b36 {r : Int} {d' : Dt} (d : Dt) (hg : d GH 0 ≤ 6) (h : L_PB_reach_b36 d = some (r, d')) : Fr wo_PB_reach [] false d d' := by
  have f0 : Fr wo_PB_reach [] false d d := Fr.rfl
  unfold L_PB_reach_b36 at h
  rcases ite_some h with ⟨hc2_, h⟩ | ⟨hc2_, h⟩
  · obtain ⟨rfl, rfl⟩ := ret_inj h
    exact f0
  · obtain ⟨rfl, rfl⟩ := ret_inj h
    exact f0
theorem fr_PB_reach_b18 {r : Int} {d' : Dt} (x1 s1 : Int) (d : Dt) (hg : d GH 0 ≤ 6) (h : L_PB_reach_b18 x1 s1 d = some (r, d')) : Fr wo_PB_reach [] false d d' := by
  have f0 : Fr wo_PB_reach [] false d d := Fr.rfl
  unfold L_PB_reach_b18 at h
  rcases ite_some h with ⟨hc4_, h⟩ | ⟨hc4_, h⟩
  · obtain ⟨r6_, d5_, hr7_, h⟩ := bd_some h
    have fd5_ : Fr wo_PB_reach [] false d d5_ := Fr.tr (Fr.upo f0 rfl (by decide)) (fr_Po_reachTo x1 (up2 d 0 0 s1) (Fr.g (Fr.upo f0 rfl (by decide)) hg) hr7_) (by decide) (by decide) (by decide)
    exact Fr.tr0 fd5_ (fr_PB_reach_b36  d5_ (Fr.g fd5_ hg) h)
  · exact Fr.tr0 (Fr.upo f0 rfl (by decide)) (fr_PB_reach_b36  (up2 d 0 0 s1) (Fr.g (Fr.upo f0 rfl (by decide)) hg) h)
theorem fr_PB_reach {r : Int} {d' : Dt} (p1 : Int) (d : Dt) (hg : d GH 0 ≤ 6) (h : L_PB_reach p1 d = some (r, d')) : Fr wo_PB_reach [] false d d' := by
  have f0 : Fr wo_PB_reach [] false d d := Fr.rfl
  unfold L_PB_reach at h
  obtain ⟨r10_, d9_, hr11_, h⟩ := bd_some h
  have fd9_ : Fr wo_PB_reach [] false d d9_ := Fr.tr f0 (fr_PB_within p1 0 30 d (Fr.g f0 hg) hr11_) (by decide) (by decide) (by decide)
  rcases ite_some h with ⟨hc13_, h⟩ | ⟨hc13_, h⟩
  · exact Fr.tr0 fd9_ (fr_PB_reach_b18 p1 1 d9_ (Fr.g fd9_ hg) h)
  · exact Fr.tr0 fd9_ (fr_PB_reach_b18 p1 0 d9_ (Fr.g fd9_ hg) h)
/-! frames of Po_personOf -/
def wo_Po_personOf : List (Nat × Nat) := []
theorem fr_Po_personOf {r : Int} {d' : Dt} (p1 : Int) (d : Dt) (hg : d GH 0 ≤ 6) (h : L_Po_personOf p1 d = some (r, d')) : Fr wo_Po_personOf [] false d d' := by
  have f0 : Fr wo_Po_personOf [] false d d := Fr.rfl
  unfold L_Po_personOf at h
  obtain ⟨hb1_, h⟩ := ck_some h
  rcases ite_some h with ⟨hc4_, h⟩ | ⟨hc4_, h⟩
  · obtain ⟨rfl, rfl⟩ := ret_inj h
    exact f0
  · obtain ⟨hb5_, h⟩ := ck_some h
    obtain ⟨rfl, rfl⟩ := ret_inj h
    exact f0
/-! frames of PB_who -/
def wo_PB_who : List (Nat × Nat) := [(0, 0)]
theorem fr_PB_who_b47 {r : Int} {d' : Dt} (x3 s1 : Int) (d : Dt) (hg : d GH 0 ≤ 6) (h : L_PB_who_b47 x3 s1 d = some (r, d')) : Fr wo_PB_who [] false d d' := by
  have f0 : Fr wo_PB_who [] false d d := Fr.rfl
  unfold L_PB_who_b47 at h
  obtain ⟨rfl, rfl⟩ := ret_inj h
  exact (Fr.upo f0 rfl (by decide))
theorem fr_PB_who_b26 {r : Int} {d' : Dt} (x2 s0 : Int) (d : Dt) (hg : d GH 0 ≤ 6) (h : L_PB_who_b26 x2 s0 d = some (r, d')) : Fr wo_PB_who [] false d d' := by
  have f0 : Fr wo_PB_who [] false d d := Fr.rfl
  unfold L_PB_who_b26 at h
  rcases ite_some h with ⟨hc1_, h⟩ | ⟨hc1_, h⟩
  · exact Fr.tr0 f0 (fr_PB_who_b47 s0 1 d (Fr.g f0 hg) h)
  · rcases ite_some h with ⟨hc2_, h⟩ | ⟨hc2_, h⟩
    · exact Fr.tr0 f0 (fr_PB_who_b47 s0 6 d (Fr.g f0 hg) h)
    · exact Fr.tr0 f0 (fr_PB_who_b47 s0 0 d (Fr.g f0 hg) h)
theorem fr_PB_who {r : Int} {d' : Dt} (p1 : Int) (d : Dt) (hg : d GH 0 ≤ 6) (h : L_PB_who p1 d = some (r, d')) : Fr wo_PB_who [] false d d' := by
  have f0 : Fr wo_PB_who [] false d d := Fr.rfl
  unfold L_PB_who at h
  obtain ⟨r4_, d3_, hr5_, h⟩ := bd_some h
  have fd3_ : Fr wo_PB_who [] false d d3_ := Fr.tr f0 (fr_Bo_has 0 p1 d (Fr.g f0 hg) hr5_) (by decide) (by decide) (by decide)
  rcases ite_some h with ⟨hc7_, h⟩ | ⟨hc7_, h⟩
  · exact Fr.tr0 fd3_ (fr_PB_who_b26 r4_ (-1) d3_ (Fr.g fd3_ hg) h)
  · obtain ⟨r9_, d8_, hr10_, h⟩ := bd_some h
    have fd8_ : Fr wo_PB_who [] false d d8_ := Fr.tr fd3_ (fr_Po_personOf p1 d3_ (Fr.g fd3_ hg) hr10_) (by decide) (by decide) (by decide)
    exact Fr.tr0 fd8_ (fr_PB_who_b26 r4_ r9_ d8_ (Fr.g fd8_ hg) h)
/-! frames of Po_isSure -/
def wo_Po_isSure : List (Nat × Nat) := []
theorem fr_Po_isSure {r : Int} {d' : Dt} (p1 : Int) (d : Dt) (hg : d GH 0 ≤ 6) (h : L_Po_isSure p1 d = some (r, d')) : Fr wo_Po_isSure [] false d d' := by
  have f0 : Fr wo_Po_isSure [] false d d := Fr.rfl
  unfold L_Po_isSure at h
  obtain ⟨hb1_, h⟩ := ck_some h
  obtain ⟨rfl, rfl⟩ := ret_inj h
  exact f0
/-! frames of Po_isTwice -/
def wo_Po_isTwice : List (Nat × Nat) := []
def he_Po_isTwice_8 (r : (Dt) ⊕ (Dt)) : Dt := match r with
  | .inl q => q
  | .inr q => q
def hb_Po_isTwice_8 (o : (Int × Int × Int × Dt) ⊕ ((Dt) ⊕ (Dt))) : Dt := match o with
  | .inl q => q.2.2.2
  | .inr r => he_Po_isTwice_8 r
theorem fr_Po_isTwice_b29 {o : (Int × Int × Int × Dt) ⊕ ((Dt) ⊕ (Dt))} (x1 x2 x3 : Int) (d : Dt) (hg : d GH 0 ≤ 6) (h : L_Po_isTwice_b29 x1 x2 x3 d = some o) : Fr wo_Po_isTwice [] false d (hb_Po_isTwice_8 o) := by
  have f0 : Fr wo_Po_isTwice [] false d d := Fr.rfl
  unfold L_Po_isTwice_b29 at h
  obtain rfl := Option.some.inj h
  exact f0
theorem fr_Po_isTwice_y8 {o : (Int × Int × Int × Dt) ⊕ ((Dt) ⊕ (Dt))} (x1 x2 x3 : Int) (d : Dt) (hg : d GH 0 ≤ 6) (h : L_Po_isTwice_y8 x1 x2 x3 d = some o) : Fr wo_Po_isTwice [] false d (hb_Po_isTwice_8 o) := by
  have f0 : Fr wo_Po_isTwice [] false d d := Fr.rfl
  unfold L_Po_isTwice_y8 at h
  rcases ite_some h with ⟨hc1_, h⟩ | ⟨hc1_, h⟩
  · rcases ite_some h with ⟨hc2_, h⟩ | ⟨hc2_, h⟩
    · exact Fr.tr0 f0 (fr_Po_isTwice_b29 x1 x2 x3 d (Fr.g f0 hg) h)
    · obtain ⟨r4_, d3_, hr5_, h⟩ := bd_some h
      have fd3_ : Fr wo_Po_isTwice [] false d d3_ := Fr.tr f0 (fr_Po_personOf x3 d (Fr.g f0 hg) hr5_) (by decide) (by decide) (by decide)
      rcases ite_some h with ⟨hc7_, h⟩ | ⟨hc7_, h⟩
      · obtain rfl := Option.some.inj h
        exact fd3_
      · exact Fr.tr0 fd3_ (fr_Po_isTwice_b29 x1 x2 x3 d3_ (Fr.g fd3_ hg) h)
  · obtain rfl := Option.some.inj h
    exact f0
theorem fr_Po_isTwice_l8 {x : (Dt) ⊕ (Dt)} (x1 x2 x3 : Int) (d : Dt) (hg : d GH 0 ≤ 6) (h : L_Po_isTwice_l8 x1 x2 x3 d = some x) : Fr wo_Po_isTwice [] false d (he_Po_isTwice_8 x) :=
  lpF_fr (f := fun q : Int × Int × Int × Dt => L_Po_isTwice_y8 q.1 q.2.1 q.2.2.1 q.2.2.2) (fun q => q.2.2.2) he_Po_isTwice_8 (fun q x hq hx => ⟨fun q2 e2 => by subst e2; exact fr_Po_isTwice_y8 q.1 q.2.1 q.2.2.1 q.2.2.2 hq hx, fun r2 e2 => by subst e2; exact fr_Po_isTwice_y8 q.1 q.2.1 q.2.2.1 q.2.2.2 hq hx⟩) FU _ x hg h
theorem fr_Po_isTwice {r : Int} {d' : Dt} (p1 : Int) (d : Dt) (hg : d GH 0 ≤ 6) (h : L_Po_isTwice p1 d = some (r, d')) : Fr wo_Po_isTwice [] false d d' := by
  have f0 : Fr wo_Po_isTwice [] false d d := Fr.rfl
  unfold L_Po_isTwice at h
  obtain ⟨r9_, d8_, hr10_, h⟩ := bd_some h
  have fd8_ : Fr wo_Po_isTwice [] false d d8_ := Fr.tr f0 (fr_Po_personOf p1 d (Fr.g f0 hg) hr10_) (by decide) (by decide) (by decide)
  obtain ⟨x12_, hx13_, h⟩ := lb_some h
  have fx12_ := Fr.tr0 fd8_ (fr_Po_isTwice_l8 p1 r9_ 0 d8_ (Fr.g fd8_ hg) hx13_)
  rcases x12_ with d14_ | d16_
  · have fd14_ : Fr wo_Po_isTwice [] false d d14_ := fx12_
    replace h := sml_e h
    replace h := u0_e h
    obtain ⟨rfl, rfl⟩ := ret_inj h
    exact fd14_
  · have fd16_ : Fr wo_Po_isTwice [] false d d16_ := fx12_
    replace h := smr_e h
    replace h := u0_e h
    obtain ⟨rfl, rfl⟩ := ret_inj h
    exact fd16_
/-! frames of PB_sure -/
def wo_PB_sure : List (Nat × Nat) := [(0, 0)]
theorem fr_PB_sure_b90 {r : Int} {d' : Dt} (s0 : Int) (d : Dt) (hg : d GH 0 ≤ 6) (h : L_PB_sure_b90 s0 d = some (r, d')) : Fr wo_PB_sure [] false d d' := by
  have f0 : Fr wo_PB_sure [] false d d := Fr.rfl
  unfold L_PB_sure_b90 at h
  obtain ⟨r2_, d1_, hr3_, h⟩ := bd_some h
  have fd1_ : Fr wo_PB_sure [] false d d1_ := Fr.tr f0 (fr_PB_bit s0 d (Fr.g f0 hg) hr3_) (by decide) (by decide) (by decide)
  obtain ⟨rfl, rfl⟩ := ret_inj h
  exact fd1_
theorem fr_PB_sure_b55 {r : Int} {d' : Dt} (x1 x2 s1 : Int) (d : Dt) (hg : d GH 0 ≤ 6) (h : L_PB_sure_b55 x1 x2 s1 d = some (r, d')) : Fr wo_PB_sure [] false d d' := by
  have f0 : Fr wo_PB_sure [] false d d := Fr.rfl
  unfold L_PB_sure_b55 at h
  rcases ite_some h with ⟨hc6_, h⟩ | ⟨hc6_, h⟩
  · rcases ite_some h with ⟨hc7_, h⟩ | ⟨hc7_, h⟩
    · obtain ⟨r9_, d8_, hr10_, h⟩ := bd_some h
      have fd8_ : Fr wo_PB_sure [] false d d8_ := Fr.tr (Fr.upo f0 rfl (by decide)) (fr_Po_isSure x1 (up2 d 0 0 s1) (Fr.g (Fr.upo f0 rfl (by decide)) hg) hr10_) (by decide) (by decide) (by decide)
      exact Fr.tr0 fd8_ (fr_PB_sure_b90 r9_ d8_ (Fr.g fd8_ hg) h)
    · obtain ⟨r13_, d12_, hr14_, h⟩ := bd_some h
      have fd12_ : Fr wo_PB_sure [] false d d12_ := Fr.tr (Fr.upo f0 rfl (by decide)) (fr_Po_isTwice x1 (up2 d 0 0 s1) (Fr.g (Fr.upo f0 rfl (by decide)) hg) hr14_) (by decide) (by decide) (by decide)
      exact Fr.tr0 fd12_ (fr_PB_sure_b90 r13_ d12_ (Fr.g fd12_ hg) h)
  · obtain ⟨rfl, rfl⟩ := ret_inj h
    exact (Fr.upo f0 rfl (by decide))
theorem fr_PB_sure_b27 {r : Int} {d' : Dt} (x1 x2 s0 : Int) (d : Dt) (hg : d GH 0 ≤ 6) (h : L_PB_sure_b27 x1 x2 s0 d = some (r, d')) : Fr wo_PB_sure [] false d d' := by
  have f0 : Fr wo_PB_sure [] false d d := Fr.rfl
  unfold L_PB_sure_b27 at h
  rcases ite_some h with ⟨hc16_, h⟩ | ⟨hc16_, h⟩
  · exact Fr.tr0 f0 (fr_PB_sure_b55 x1 x2 1 d (Fr.g f0 hg) h)
  · obtain ⟨r18_, d17_, hr19_, h⟩ := bd_some h
    have fd17_ : Fr wo_PB_sure [] false d d17_ := Fr.tr f0 (fr_Po_personOf x1 d (Fr.g f0 hg) hr19_) (by decide) (by decide) (by decide)
    rcases ite_some h with ⟨hc21_, h⟩ | ⟨hc21_, h⟩
    · exact Fr.tr0 fd17_ (fr_PB_sure_b55 x1 x2 6 d17_ (Fr.g fd17_ hg) h)
    · exact Fr.tr0 fd17_ (fr_PB_sure_b55 x1 x2 0 d17_ (Fr.g fd17_ hg) h)
theorem fr_PB_sure {r : Int} {d' : Dt} (p1 p2 : Int) (d : Dt) (hg : d GH 0 ≤ 6) (h : L_PB_sure p1 p2 d = some (r, d')) : Fr wo_PB_sure [] false d d' := by
  have f0 : Fr wo_PB_sure [] false d d := Fr.rfl
  unfold L_PB_sure at h
  obtain ⟨r23_, d22_, hr24_, h⟩ := bd_some h
  have fd22_ : Fr wo_PB_sure [] false d d22_ := Fr.tr f0 (fr_Bo_has 0 p1 d (Fr.g f0 hg) hr24_) (by decide) (by decide) (by decide)
  rcases ite_some h with ⟨hc26_, h⟩ | ⟨hc26_, h⟩
  · exact Fr.tr0 fd22_ (fr_PB_sure_b27 p1 p2 0 d22_ (Fr.g fd22_ hg) h)
  · obtain ⟨r28_, d27_, hr29_, h⟩ := bd_some h
    have fd27_ : Fr wo_PB_sure [] false d d27_ := Fr.tr fd22_ (fr_PB_within p2 0 1 d22_ (Fr.g fd22_ hg) hr29_) (by decide) (by decide) (by decide)
    rcases ite_some h with ⟨hc31_, h⟩ | ⟨hc31_, h⟩
    · exact Fr.tr0 fd27_ (fr_PB_sure_b27 p1 p2 0 d27_ (Fr.g fd27_ hg) h)
    · exact Fr.tr0 fd27_ (fr_PB_sure_b27 p1 p2 1 d27_ (Fr.g fd27_ hg) h)
/-! frames of Po_offersFull -/
def wo_Po_offersFull : List (Nat × Nat) := []
theorem fr_Po_offersFull {r : Int} {d' : Dt} (d : Dt) (hg : d GH 0 ≤ 6) (h : L_Po_offersFull d = some (r, d')) : Fr wo_Po_offersFull [] false d d' := by
  have f0 : Fr wo_Po_offersFull [] false d d := Fr.rfl
  unfold L_Po_offersFull at h
  rcases ite_some h with ⟨hc2_, h⟩ | ⟨hc2_, h⟩
  · obtain ⟨rfl, rfl⟩ := ret_inj h
    exact f0
  · obtain ⟨rfl, rfl⟩ := ret_inj h
    exact f0
/-! frames of Po_addOffer -/
def wo_Po_addOffer : List (Nat × Nat) := [(49, 11)]
theorem fr_Po_addOffer {r : Int} {d' : Dt} (p1 p2 p3 : Int) (d : Dt) (hg : d GH 0 ≤ 6) (h : L_Po_addOffer p1 p2 p3 d = some (r, d')) : Fr wo_Po_addOffer [54, 55, 56] false d d' := by
  have f0 : Fr wo_Po_addOffer [54, 55, 56] false d d := Fr.rfl
  unfold L_Po_addOffer at h
  obtain ⟨hb2_, h⟩ := ck_some h
  obtain ⟨hb4_, h⟩ := ck_some h
  obtain ⟨hb6_, h⟩ := ck_some h
  obtain ⟨rfl, rfl⟩ := ret_inj h
  exact (Fr.upo (Fr.upa (Fr.upa (Fr.upa f0 rfl (by decide)) rfl (by decide)) rfl (by decide)) rfl (by decide))
/-! frames of PB_offer -/
def wo_PB_offer : List (Nat × Nat) := [(0, 0), (49, 11)]
theorem fr_PB_offer_b57 {r : Int} {d' : Dt} (x1 x2 x3 s1 : Int) (d : Dt) (hg : d GH 0 ≤ 6) (h : L_PB_offer_b57 x1 x2 x3 s1 d = some (r, d')) : Fr wo_PB_offer [54, 55, 56] false d d' := by
  have f0 : Fr wo_PB_offer [54, 55, 56] false d d := Fr.rfl
  unfold L_PB_offer_b57 at h
  rcases ite_some h with ⟨hc2_, h⟩ | ⟨hc2_, h⟩
  · obtain ⟨r4_, d3_, hr5_, h⟩ := bd_some h
    have fd3_ : Fr wo_PB_offer [54, 55, 56] false d d3_ := Fr.tr (Fr.upo f0 rfl (by decide)) (fr_Po_addOffer x1 x2 x3 (up2 d 0 0 s1) (Fr.g (Fr.upo f0 rfl (by decide)) hg) hr5_) (by decide) (by decide) (by decide)
    obtain ⟨rfl, rfl⟩ := ret_inj h
    exact fd3_
  · obtain ⟨rfl, rfl⟩ := ret_inj h
    exact (Fr.upo f0 rfl (by decide))
theorem fr_PB_offer_b30 {r : Int} {d' : Dt} (x1 x2 x3 s0 : Int) (d : Dt) (hg : d GH 0 ≤ 6) (h : L_PB_offer_b30 x1 x2 x3 s0 d = some (r, d')) : Fr wo_PB_offer [54, 55, 56] false d d' := by
  have f0 : Fr wo_PB_offer [54, 55, 56] false d d := Fr.rfl
  unfold L_PB_offer_b30 at h
  rcases ite_some h with ⟨hc7_, h⟩ | ⟨hc7_, h⟩
  · exact Fr.tr0 f0 (fr_PB_offer_b57 x1 x2 x3 1 d (Fr.g f0 hg) h)
  · obtain ⟨r9_, d8_, hr10_, h⟩ := bd_some h
    have fd8_ : Fr wo_PB_offer [54, 55, 56] false d d8_ := Fr.tr f0 (fr_Po_offersFull  d (Fr.g f0 hg) hr10_) (by decide) (by decide) (by decide)
    rcases ite_some h with ⟨hc12_, h⟩ | ⟨hc12_, h⟩
    · exact Fr.tr0 fd8_ (fr_PB_offer_b57 x1 x2 x3 0 d8_ (Fr.g fd8_ hg) h)
    · exact Fr.tr0 fd8_ (fr_PB_offer_b57 x1 x2 x3 4 d8_ (Fr.g fd8_ hg) h)
theorem fr_PB_offer {r : Int} {d' : Dt} (p1 p2 p3 : Int) (d : Dt) (hg : d GH 0 ≤ 6) (h : L_PB_offer p1 p2 p3 d = some (r, d')) : Fr wo_PB_offer [54, 55, 56] false d d' := by
  have f0 : Fr wo_PB_offer [54, 55, 56] false d d := Fr.rfl
  unfold L_PB_offer at h
  obtain ⟨r14_, d13_, hr15_, h⟩ := bd_some h
  have fd13_ : Fr wo_PB_offer [54, 55, 56] false d d13_ := Fr.tr f0 (fr_Pe_has p1 d (Fr.g f0 hg) hr15_) (by decide) (by decide) (by decide)
  rcases ite_some h with ⟨hc17_, h⟩ | ⟨hc17_, h⟩
  · exact Fr.tr0 fd13_ (fr_PB_offer_b30 p1 p2 p3 0 d13_ (Fr.g fd13_ hg) h)
  · obtain ⟨r19_, d18_, hr20_, h⟩ := bd_some h
    have fd18_ : Fr wo_PB_offer [54, 55, 56] false d d18_ := Fr.tr fd13_ (fr_PB_isSet p2 d13_ (Fr.g fd13_ hg) hr20_) (by decide) (by decide) (by decide)
    rcases ite_some h with ⟨hc22_, h⟩ | ⟨hc22_, h⟩
    · exact Fr.tr0 fd18_ (fr_PB_offer_b30 p1 p2 p3 0 d18_ (Fr.g fd18_ hg) h)
    · obtain ⟨r24_, d23_, hr25_, h⟩ := bd_some h
      have fd23_ : Fr wo_PB_offer [54, 55, 56] false d d23_ := Fr.tr fd18_ (fr_PB_isMinute p3 d18_ (Fr.g fd18_ hg) hr25_) (by decide) (by decide) (by decide)
      rcases ite_some h with ⟨hc27_, h⟩ | ⟨hc27_, h⟩
      · exact Fr.tr0 fd23_ (fr_PB_offer_b30 p1 p2 p3 0 d23_ (Fr.g fd23_ hg) h)
      · exact Fr.tr0 fd23_ (fr_PB_offer_b30 p1 p2 p3 1 d23_ (Fr.g fd23_ hg) h)
/-! frames of In_bitCount -/
def wo_In_bitCount : List (Nat × Nat) := []
theorem fr_In_bitCount {r : Int} {d' : Dt} (p1 : Int) (d : Dt) (hg : d GH 0 ≤ 6) (h : L_In_bitCount p1 d = some (r, d')) : Fr wo_In_bitCount [] false d d' := by
  have f0 : Fr wo_In_bitCount [] false d d := Fr.rfl
  unfold L_In_bitCount at h
  obtain ⟨v1_, ev2_, h⟩ := lt_some h
  obtain ⟨v4_, ev5_, h⟩ := lt_some h
  obtain ⟨v7_, ev8_, h⟩ := lt_some h
  obtain ⟨v10_, ev11_, h⟩ := lt_some h
  obtain ⟨v13_, ev14_, h⟩ := lt_some h
  obtain ⟨rfl, rfl⟩ := ret_inj h
  exact f0
/-! frames of Po_judge -/
def wo_Po_judge : List (Nat × Nat) := [(30, 6), (30, 7), (30, 8)]
theorem fr_Po_judge {r : Int} {d' : Dt} (p1 p2 p3 p4 p5 : Int) (d : Dt) (hg : d GH 0 ≤ 6) (h : L_Po_judge p1 p2 p3 p4 p5 d = some (r, d')) : Fr wo_Po_judge [32, 33, 34, 35, 36] false d d' := by
  have f0 : Fr wo_Po_judge [32, 33, 34, 35, 36] false d d := Fr.rfl
  unfold L_Po_judge at h
  obtain ⟨r2_, d1_, hr3_, h⟩ := bd_some h
  have fd1_ : Fr wo_Po_judge [32, 33, 34, 35, 36] false d d1_ := Fr.tr f0 (fr_La_bring p1 p4 p5 p2 d (Fr.g f0 hg) hr3_) (by decide) (by decide) (by decide)
  obtain ⟨r6_, d5_, hr7_, h⟩ := bd_some h
  have fd5_ : Fr wo_Po_judge [32, 33, 34, 35, 36] false d d5_ := Fr.tr fd1_ (fr_La_rightNow  d1_ (Fr.g fd1_ hg) hr7_) (by decide) (by decide) (by decide)
  rcases ite_some h with ⟨hc9_, h⟩ | ⟨hc9_, h⟩
  · obtain ⟨r11_, d10_, hr12_, h⟩ := bd_some h
    have fd10_ : Fr wo_Po_judge [32, 33, 34, 35, 36] false d d10_ := Fr.tr fd5_ (fr_La_voidNow  d5_ (Fr.g fd5_ hg) hr12_) (by decide) (by decide) (by decide)
    rcases ite_some h with ⟨hc14_, h⟩ | ⟨hc14_, h⟩
    · obtain ⟨r16_, d15_, hr17_, h⟩ := bd_some h
      have fd15_ : Fr wo_Po_judge [32, 33, 34, 35, 36] false d d15_ := Fr.tr fd10_ (fr_In_bitCount p3 d10_ (Fr.g fd10_ hg) hr17_) (by decide) (by decide) (by decide)
      rcases ite_some h with ⟨hc19_, h⟩ | ⟨hc19_, h⟩
      · obtain ⟨rfl, rfl⟩ := ret_inj h
        exact fd15_
      · obtain ⟨r21_, d20_, hr22_, h⟩ := bd_some h
        have fd20_ : Fr wo_Po_judge [32, 33, 34, 35, 36] false d d20_ := Fr.tr fd15_ (fr_La_namesAt p4 p5 d15_ (Fr.g fd15_ hg) hr22_) (by decide) (by decide) (by decide)
        rcases ite_some h with ⟨hc24_, h⟩ | ⟨hc24_, h⟩
        · obtain ⟨rfl, rfl⟩ := ret_inj h
          exact fd20_
        · obtain ⟨rfl, rfl⟩ := ret_inj h
          exact fd20_
    · obtain ⟨rfl, rfl⟩ := ret_inj h
      exact fd10_
  · obtain ⟨rfl, rfl⟩ := ret_inj h
    exact fd5_
/-! frames of Po_entryStanding -/
def wo_Po_entryStanding : List (Nat × Nat) := [(30, 6), (30, 7), (30, 8), (37, 10)]
theorem fr_Po_entryStanding {r : Int} {d' : Dt} (p1 p2 p3 : Int) (d : Dt) (hg : d GH 0 ≤ 6) (h : L_Po_entryStanding p1 p2 p3 d = some (r, d')) : Fr wo_Po_entryStanding [32, 33, 34, 35, 36, 44, 45, 46, 47] false d d' := by
  have f0 : Fr wo_Po_entryStanding [32, 33, 34, 35, 36, 44, 45, 46, 47] false d d := Fr.rfl
  unfold L_Po_entryStanding at h
  obtain ⟨r2_, d1_, hr3_, h⟩ := bd_some h
  have fd1_ : Fr wo_Po_entryStanding [32, 33, 34, 35, 36, 44, 45, 46, 47] false d d1_ := Fr.tr f0 (fr_Po_personOf p1 d (Fr.g f0 hg) hr3_) (by decide) (by decide) (by decide)
  rcases ite_some h with ⟨hc5_, h⟩ | ⟨hc5_, h⟩
  · obtain ⟨rfl, rfl⟩ := ret_inj h
    exact fd1_
  · obtain ⟨r7_, d6_, hr8_, h⟩ := bd_some h
    have fd6_ : Fr wo_Po_entryStanding [32, 33, 34, 35, 36, 44, 45, 46, 47] false d d6_ := Fr.tr fd1_ (fr_Po_isTwice p1 d1_ (Fr.g fd1_ hg) hr8_) (by decide) (by decide) (by decide)
    rcases ite_some h with ⟨hc10_, h⟩ | ⟨hc10_, h⟩
    · obtain ⟨hb11_, h⟩ := ck_some h
      obtain ⟨r14_, d13_, hr15_, h⟩ := bd_some h
      have fd13_ : Fr wo_Po_entryStanding [32, 33, 34, 35, 36, 44, 45, 46, 47] false d d13_ := Fr.tr fd6_ (fr_Bo_joinedSet p1 d6_ (Fr.g fd6_ hg) hr15_) (by decide) (by decide) (by decide)
      obtain ⟨r18_, d17_, hr19_, h⟩ := bd_some h
      have fd17_ : Fr wo_Po_entryStanding [32, 33, 34, 35, 36, 44, 45, 46, 47] false d d17_ := Fr.tr fd13_ (fr_Po_judge r2_ (d6_ 40 p1.toNat) r14_ p2 p3 d13_ (Fr.g fd13_ hg) hr19_) (by decide) (by decide) (by decide)
      obtain ⟨rfl, rfl⟩ := ret_inj h
      exact fd17_
    · obtain ⟨rfl, rfl⟩ := ret_inj h
      exact fd6_
/-! frames of PB_standing -/
def wo_PB_standing : List (Nat × Nat) := [(0, 0), (30, 6), (30, 7), (30, 8), (37, 10)]
theorem fr_PB_standing_b32 {r : Int} {d' : Dt} (x1 x2 x3 s1 : Int) (d : Dt) (hg : d GH 0 ≤ 6) (h : L_PB_standing_b32 x1 x2 x3 s1 d = some (r, d')) : Fr wo_PB_standing [32, 33, 34, 35, 36, 44, 45, 46, 47] false d d' := by
  have f0 : Fr wo_PB_standing [32, 33, 34, 35, 36, 44, 45, 46, 47] false d d := Fr.rfl
  unfold L_PB_standing_b32 at h
  rcases ite_some h with ⟨hc2_, h⟩ | ⟨hc2_, h⟩
  · obtain ⟨r4_, d3_, hr5_, h⟩ := bd_some h
    have fd3_ : Fr wo_PB_standing [32, 33, 34, 35, 36, 44, 45, 46, 47] false d d3_ := Fr.tr (Fr.upo f0 rfl (by decide)) (fr_Po_entryStanding x1 x2 x3 (up2 d 0 0 s1) (Fr.g (Fr.upo f0 rfl (by decide)) hg) hr5_) (by decide) (by decide) (by decide)
    obtain ⟨rfl, rfl⟩ := ret_inj h
    exact fd3_
  · obtain ⟨rfl, rfl⟩ := ret_inj h
    exact (Fr.upo f0 rfl (by decide))
theorem fr_PB_standing {r : Int} {d' : Dt} (p1 p2 p3 : Int) (d : Dt) (hg : d GH 0 ≤ 6) (h : L_PB_standing p1 p2 p3 d = some (r, d')) : Fr wo_PB_standing [32, 33, 34, 35, 36, 44, 45, 46, 47] false d d' := by
  have f0 : Fr wo_PB_standing [32, 33, 34, 35, 36, 44, 45, 46, 47] false d d := Fr.rfl
  unfold L_PB_standing at h
  obtain ⟨r8_, d7_, hr9_, h⟩ := bd_some h
  have fd7_ : Fr wo_PB_standing [32, 33, 34, 35, 36, 44, 45, 46, 47] false d d7_ := Fr.tr f0 (fr_Bo_has 0 p1 d (Fr.g f0 hg) hr9_) (by decide) (by decide) (by decide)
  rcases ite_some h with ⟨hc11_, h⟩ | ⟨hc11_, h⟩
  · exact Fr.tr0 fd7_ (fr_PB_standing_b32 p1 p2 p3 1 d7_ (Fr.g fd7_ hg) h)
  · obtain ⟨r13_, d12_, hr14_, h⟩ := bd_some h
    have fd12_ : Fr wo_PB_standing [32, 33, 34, 35, 36, 44, 45, 46, 47] false d d12_ := Fr.tr fd7_ (fr_PB_isPlace p2 d7_ (Fr.g fd7_ hg) hr14_) (by decide) (by decide) (by decide)
    rcases ite_some h with ⟨hc16_, h⟩ | ⟨hc16_, h⟩
    · exact Fr.tr0 fd12_ (fr_PB_standing_b32 p1 p2 p3 1 d12_ (Fr.g fd12_ hg) h)
    · obtain ⟨r18_, d17_, hr19_, h⟩ := bd_some h
      have fd17_ : Fr wo_PB_standing [32, 33, 34, 35, 36, 44, 45, 46, 47] false d d17_ := Fr.tr fd12_ (fr_PB_isDay p3 d12_ (Fr.g fd12_ hg) hr19_) (by decide) (by decide) (by decide)
      rcases ite_some h with ⟨hc21_, h⟩ | ⟨hc21_, h⟩
      · exact Fr.tr0 fd17_ (fr_PB_standing_b32 p1 p2 p3 1 d17_ (Fr.g fd17_ hg) h)
      · exact Fr.tr0 fd17_ (fr_PB_standing_b32 p1 p2 p3 0 d17_ (Fr.g fd17_ hg) h)
/-! frames of Po_hasOffer -/
def wo_Po_hasOffer : List (Nat × Nat) := []
theorem fr_Po_hasOffer {r : Int} {d' : Dt} (p1 : Int) (d : Dt) (hg : d GH 0 ≤ 6) (h : L_Po_hasOffer p1 d = some (r, d')) : Fr wo_Po_hasOffer [] false d d' := by
  have f0 : Fr wo_Po_hasOffer [] false d d := Fr.rfl
  unfold L_Po_hasOffer at h
  rcases ite_some h with ⟨hc1_, h⟩ | ⟨hc1_, h⟩
  · obtain ⟨rfl, rfl⟩ := ret_inj h
    exact f0
  · rcases ite_some h with ⟨hc3_, h⟩ | ⟨hc3_, h⟩
    · obtain ⟨rfl, rfl⟩ := ret_inj h
      exact f0
    · obtain ⟨rfl, rfl⟩ := ret_inj h
      exact f0
/-! frames of PB_addSet -/
def wo_PB_addSet : List (Nat × Nat) := []
def he_PB_addSet_2 (q : (Dt)) : Dt := q
def hb_PB_addSet_2 (o : (Int × Int × Int × Dt) ⊕ ((Dt))) : Dt := match o with
  | .inl q => q.2.2.2
  | .inr r => he_PB_addSet_2 r
theorem fr_PB_addSet_y2 (arr0 len0 : Nat) {o : (Int × Int × Int × Dt) ⊕ ((Dt))} (x1 x2 x3 : Int) (d : Dt) (hg : d GH 0 ≤ 6) (hnarr0 : arr0 ≠ GH) (h : L_PB_addSet_y2 arr0 len0 x1 x2 x3 d = some o) : Fr wo_PB_addSet [arr0] false d (hb_PB_addSet_2 o) := by
  have f0 : Fr wo_PB_addSet [arr0] false d d := Fr.rfl
  unfold L_PB_addSet_y2 at h
  rcases ite_some h with ⟨hc1_, h⟩ | ⟨hc1_, h⟩
  · obtain ⟨hb2_, h⟩ := ck_some h
    obtain ⟨hb4_, h⟩ := ck_some h
    obtain rfl := Option.some.inj h
    exact (Fr.upa f0 (by simp) hnarr0)
  · obtain rfl := Option.some.inj h
    exact f0
theorem fr_PB_addSet_l2 (arr0 len0 : Nat) {x : (Dt)} (x1 x2 x3 : Int) (d : Dt) (hg : d GH 0 ≤ 6) (hnarr0 : arr0 ≠ GH) (h : L_PB_addSet_l2 arr0 len0 x1 x2 x3 d = some x) : Fr wo_PB_addSet [arr0] false d (he_PB_addSet_2 x) :=
  lpF_fr (f := fun q : Int × Int × Int × Dt => L_PB_addSet_y2 arr0 len0 q.1 q.2.1 q.2.2.1 q.2.2.2) (fun q => q.2.2.2) he_PB_addSet_2 (fun q x hq hx => ⟨fun q2 e2 => by subst e2; exact fr_PB_addSet_y2 arr0 len0 q.1 q.2.1 q.2.2.1 q.2.2.2 hq hnarr0 hx, fun r2 e2 => by subst e2; exact fr_PB_addSet_y2 arr0 len0 q.1 q.2.1 q.2.2.1 q.2.2.2 hq hnarr0 hx⟩) FU _ x hg h
theorem fr_PB_addSet (arr0 len0 : Nat) {r : Int} {d' : Dt} (p2 p3 : Int) (d : Dt) (hg : d GH 0 ≤ 6) (hnarr0 : arr0 ≠ GH) (h : L_PB_addSet arr0 len0 p2 p3 d = some (r, d')) : Fr wo_PB_addSet [arr0] false d d' := by
  have f0 : Fr wo_PB_addSet [arr0] false d d := Fr.rfl
  unfold L_PB_addSet at h
  obtain ⟨x5_, hx6_, h⟩ := lb_some h
  have fx5_ := Fr.tr0 f0 (fr_PB_addSet_l2 arr0 len0 p2 p3 0 d (Fr.g f0 hg) hnarr0 hx6_)
  obtain ⟨d7_, rfl⟩ : ∃ z, z = x5_ := ⟨_, rfl⟩
  have fd7_ : Fr wo_PB_addSet [arr0] false d d7_ := fx5_
  replace h := u0_e h
  obtain ⟨rfl, rfl⟩ := ret_inj h
  exact fd7_
/-! frames of Po_countEntries -/
def wo_Po_countEntries : List (Nat × Nat) := [(30, 6), (30, 7), (30, 8), (37, 10)]
def he_Po_countEntries_13 (q : (Int × Dt)) : Dt := q.2
def hb_Po_countEntries_13 (o : (Int × Int × Int × Int × Dt) ⊕ ((Int × Dt))) : Dt := match o with
  | .inl q => q.2.2.2.2
  | .inr r => he_Po_countEntries_13 r
theorem fr_Po_countEntries_b67 {o : (Int × Int × Int × Int × Dt) ⊕ ((Int × Dt))} (x1 x2 x3 x5 : Int) (d : Dt) (hg : d GH 0 ≤ 6) (h : L_Po_countEntries_b67 x1 x2 x3 x5 d = some o) : Fr wo_Po_countEntries [32, 33, 34, 35, 36, 44, 45, 46, 47, 57] false d (hb_Po_countEntries_13 o) := by
  have f0 : Fr wo_Po_countEntries [32, 33, 34, 35, 36, 44, 45, 46, 47, 57] false d d := Fr.rfl
  unfold L_Po_countEntries_b67 at h
  obtain rfl := Option.some.inj h
  exact f0
theorem fr_Po_countEntries_y13 {o : (Int × Int × Int × Int × Dt) ⊕ ((Int × Dt))} (x1 x2 x3 x5 : Int) (d : Dt) (hg : d GH 0 ≤ 6) (h : L_Po_countEntries_y13 x1 x2 x3 x5 d = some o) : Fr wo_Po_countEntries [32, 33, 34, 35, 36, 44, 45, 46, 47, 57] false d (hb_Po_countEntries_13 o) := by
  have f0 : Fr wo_Po_countEntries [32, 33, 34, 35, 36, 44, 45, 46, 47, 57] false d d := Fr.rfl
  unfold L_Po_countEntries_y13 at h
  rcases ite_some h with ⟨hc2_, h⟩ | ⟨hc2_, h⟩
  · obtain ⟨r4_, d3_, hr5_, h⟩ := bd_some h
    have fd3_ : Fr wo_Po_countEntries [32, 33, 34, 35, 36, 44, 45, 46, 47, 57] false d d3_ := Fr.tr f0 (fr_Po_entryStanding x5 x1 x2 d (Fr.g f0 hg) hr5_) (by decide) (by decide) (by decide)
    rcases ite_some h with ⟨hc7_, h⟩ | ⟨hc7_, h⟩
    · obtain ⟨hb8_, h⟩ := ck_some h
      obtain ⟨v10_, ev11_, h⟩ := lt_some h
      obtain ⟨r14_, d13_, hr15_, h⟩ := bd_some h
      have fd13_ : Fr wo_Po_countEntries [32, 33, 34, 35, 36, 44, 45, 46, 47, 57] false d d13_ := Fr.tr fd3_ (fr_Bo_joinedSet x5 d3_ (Fr.g fd3_ hg) hr15_) (by decide) (by decide) (by decide)
      obtain ⟨r18_, d17_, hr19_, h⟩ := bd_some h
      have fd17_ : Fr wo_Po_countEntries [32, 33, 34, 35, 36, 44, 45, 46, 47, 57] false d d17_ := Fr.tr fd13_ (fr_PB_addSet 57 4 r14_ 1 d13_ (Fr.g fd13_ hg) (by decide) hr19_) (by decide) (by decide) (by decide)
      exact Fr.tr0 fd17_ (fr_Po_countEntries_b67 x1 x2 v10_ x5 d17_ (Fr.g fd17_ hg) h)
    · exact Fr.tr0 fd3_ (fr_Po_countEntries_b67 x1 x2 x3 x5 d3_ (Fr.g fd3_ hg) h)
  · obtain rfl := Option.some.inj h
    exact f0
theorem fr_Po_countEntries_l13 {x : (Int × Dt)} (x1 x2 x3 x5 : Int) (d : Dt) (hg : d GH 0 ≤ 6) (h : L_Po_countEntries_l13 x1 x2 x3 x5 d = some x) : Fr wo_Po_countEntries [32, 33, 34, 35, 36, 44, 45, 46, 47, 57] false d (he_Po_countEntries_13 x) :=
  lpF_fr (f := fun q : Int × Int × Int × Int × Dt => L_Po_countEntries_y13 q.1 q.2.1 q.2.2.1 q.2.2.2.1 q.2.2.2.2) (fun q => q.2.2.2.2) he_Po_countEntries_13 (fun q x hq hx => ⟨fun q2 e2 => by subst e2; exact fr_Po_countEntries_y13 q.1 q.2.1 q.2.2.1 q.2.2.2.1 q.2.2.2.2 hq hx, fun r2 e2 => by subst e2; exact fr_Po_countEntries_y13 q.1 q.2.1 q.2.2.1 q.2.2.2.1 q.2.2.2.2 hq hx⟩) FU _ x hg h
theorem fr_Po_countEntries {r : Int} {d' : Dt} (p1 p2 : Int) (d : Dt) (hg : d GH 0 ≤ 6) (h : L_Po_countEntries p1 p2 d = some (r, d')) : Fr wo_Po_countEntries [32, 33, 34, 35, 36, 44, 45, 46, 47, 57] false d d' := by
  have f0 : Fr wo_Po_countEntries [32, 33, 34, 35, 36, 44, 45, 46, 47, 57] false d d := Fr.rfl
  unfold L_Po_countEntries at h
  obtain ⟨r22_, d21_, hr23_, h⟩ := bd_some h
  have fd21_ : Fr wo_Po_countEntries [32, 33, 34, 35, 36, 44, 45, 46, 47, 57] false d d21_ := Fr.tr f0 (fr_Ar_fill_aII 57 4 0 d (Fr.g f0 hg) (by decide) hr23_) (by decide) (by decide) (by decide)
  obtain ⟨x25_, hx26_, h⟩ := lb_some h
  have fx25_ := Fr.tr0 fd21_ (fr_Po_countEntries_l13 p1 p2 0 0 d21_ (Fr.g fd21_ hg) hx26_)
  obtain ⟨v27_, d28_⟩ := x25_
  have fd28_ : Fr wo_Po_countEntries [32, 33, 34, 35, 36, 44, 45, 46, 47, 57] false d d28_ := fx25_
  replace h := u1_e h
  obtain ⟨rfl, rfl⟩ := ret_inj h
  exact fd28_
/-! frames of Po_countOffers -/
def wo_Po_countOffers : List (Nat × Nat) := [(30, 6), (30, 7), (30, 8)]
def he_Po_countOffers_9 (q : (Int × Dt)) : Dt := q.2
def hb_Po_countOffers_9 (o : (Int × Int × Int × Int × Int × Int × Dt) ⊕ ((Int × Dt))) : Dt := match o with
  | .inl q => q.2.2.2.2.2.2
  | .inr r => he_Po_countOffers_9 r
theorem fr_Po_countOffers_b116 {o : (Int × Int × Int × Int × Int × Int × Dt) ⊕ ((Int × Dt))} (x3 x4 x5 x6 x8 x9 : Int) (d : Dt) (hg : d GH 0 ≤ 6) (h : L_Po_countOffers_b116 x3 x4 x5 x6 x8 x9 d = some o) : Fr wo_Po_countOffers [32, 33, 34, 35, 36, 57] false d (hb_Po_countOffers_9 o) := by
  have f0 : Fr wo_Po_countOffers [32, 33, 34, 35, 36, 57] false d d := Fr.rfl
  unfold L_Po_countOffers_b116 at h
  obtain rfl := Option.some.inj h
  exact f0
theorem fr_Po_countOffers_b85 {o : (Int × Int × Int × Int × Int × Int × Dt) ⊕ ((Int × Dt))} (x3 x4 x5 x6 x9 x10 s0 : Int) (d : Dt) (hg : d GH 0 ≤ 6) (h : L_Po_countOffers_b85 x3 x4 x5 x6 x9 x10 s0 d = some o) : Fr wo_Po_countOffers [32, 33, 34, 35, 36, 57] false d (hb_Po_countOffers_9 o) := by
  have f0 : Fr wo_Po_countOffers [32, 33, 34, 35, 36, 57] false d d := Fr.rfl
  unfold L_Po_countOffers_b85 at h
  rcases ite_some h with ⟨hc1_, h⟩ | ⟨hc1_, h⟩
  · obtain ⟨v2_, ev3_, h⟩ := lt_some h
    obtain ⟨hb5_, h⟩ := ck_some h
    obtain ⟨r8_, d7_, hr9_, h⟩ := bd_some h
    have fd7_ : Fr wo_Po_countOffers [32, 33, 34, 35, 36, 57] false d d7_ := Fr.tr f0 (fr_PB_addSet 57 4 (d 55 x9.toNat) 1 d (Fr.g f0 hg) (by decide) hr9_) (by decide) (by decide) (by decide)
    exact Fr.tr0 fd7_ (fr_Po_countOffers_b116 x3 x4 x5 v2_ s0 x9 d7_ (Fr.g fd7_ hg) h)
  · exact Fr.tr0 f0 (fr_Po_countOffers_b116 x3 x4 x5 x6 s0 x9 d (Fr.g f0 hg) h)
theorem fr_Po_countOffers_b50 {o : (Int × Int × Int × Int × Int × Int × Dt) ⊕ ((Int × Dt))} (x3 x4 x5 x6 x9 x10 s0 : Int) (d : Dt) (hg : d GH 0 ≤ 6) (h : L_Po_countOffers_b50 x3 x4 x5 x6 x9 x10 s0 d = some o) : Fr wo_Po_countOffers [32, 33, 34, 35, 36, 57] false d (hb_Po_countOffers_9 o) := by
  have f0 : Fr wo_Po_countOffers [32, 33, 34, 35, 36, 57] false d d := Fr.rfl
  unfold L_Po_countOffers_b50 at h
  rcases ite_some h with ⟨hc11_, h⟩ | ⟨hc11_, h⟩
  · obtain ⟨hb12_, h⟩ := ck_some h
    obtain ⟨hb14_, h⟩ := ck_some h
    obtain ⟨r17_, d16_, hr18_, h⟩ := bd_some h
    have fd16_ : Fr wo_Po_countOffers [32, 33, 34, 35, 36, 57] false d d16_ := Fr.tr f0 (fr_Po_judge x10 (d 56 x9.toNat) (d 55 x9.toNat) x4 x5 d (Fr.g f0 hg) hr18_) (by decide) (by decide) (by decide)
    exact Fr.tr0 fd16_ (fr_Po_countOffers_b85 x3 x4 x5 x6 x9 x10 r17_ d16_ (Fr.g fd16_ hg) h)
  · exact Fr.tr0 f0 (fr_Po_countOffers_b85 x3 x4 x5 x6 x9 x10 2 d (Fr.g f0 hg) h)
theorem fr_Po_countOffers_y9 {o : (Int × Int × Int × Int × Int × Int × Dt) ⊕ ((Int × Dt))} (x3 x4 x5 x6 x8 x9 : Int) (d : Dt) (hg : d GH 0 ≤ 6) (h : L_Po_countOffers_y9 x3 x4 x5 x6 x8 x9 d = some o) : Fr wo_Po_countOffers [32, 33, 34, 35, 36, 57] false d (hb_Po_countOffers_9 o) := by
  have f0 : Fr wo_Po_countOffers [32, 33, 34, 35, 36, 57] false d d := Fr.rfl
  unfold L_Po_countOffers_y9 at h
  rcases ite_some h with ⟨hc20_, h⟩ | ⟨hc20_, h⟩
  · rcases ite_some h with ⟨hc22_, h⟩ | ⟨hc22_, h⟩
    · obtain ⟨hb23_, h⟩ := ck_some h
      obtain ⟨v25_, ev26_, h⟩ := lt_some h
      rcases ite_some h with ⟨hc28_, h⟩ | ⟨hc28_, h⟩
      · exact Fr.tr0 f0 (fr_Po_countOffers_b50 x3 x4 x5 x6 x9 v25_ 0 d (Fr.g f0 hg) h)
      · exact Fr.tr0 f0 (fr_Po_countOffers_b50 x3 x4 x5 x6 x9 v25_ 1 d (Fr.g f0 hg) h)
    · obtain rfl := Option.some.inj h
      exact f0
  · obtain rfl := Option.some.inj h
    exact f0
theorem fr_Po_countOffers_l9 {x : (Int × Dt)} (x3 x4 x5 x6 x8 x9 : Int) (d : Dt) (hg : d GH 0 ≤ 6) (h : L_Po_countOffers_l9 x3 x4 x5 x6 x8 x9 d = some x) : Fr wo_Po_countOffers [32, 33, 34, 35, 36, 57] false d (he_Po_countOffers_9 x) :=
  lpF_fr (f := fun q : Int × Int × Int × Int × Int × Int × Dt => L_Po_countOffers_y9 q.1 q.2.1 q.2.2.1 q.2.2.2.1 q.2.2.2.2.1 q.2.2.2.2.2.1 q.2.2.2.2.2.2) (fun q => q.2.2.2.2.2.2) he_Po_countOffers_9 (fun q x hq hx => ⟨fun q2 e2 => by subst e2; exact fr_Po_countOffers_y9 q.1 q.2.1 q.2.2.1 q.2.2.2.1 q.2.2.2.2.1 q.2.2.2.2.2.1 q.2.2.2.2.2.2 hq hx, fun r2 e2 => by subst e2; exact fr_Po_countOffers_y9 q.1 q.2.1 q.2.2.1 q.2.2.2.1 q.2.2.2.2.1 q.2.2.2.2.2.1 q.2.2.2.2.2.2 hq hx⟩) FU _ x hg h
theorem fr_Po_countOffers {r : Int} {d' : Dt} (p1 p2 p3 p4 : Int) (d : Dt) (hg : d GH 0 ≤ 6) (h : L_Po_countOffers p1 p2 p3 p4 d = some (r, d')) : Fr wo_Po_countOffers [32, 33, 34, 35, 36, 57] false d d' := by
  have f0 : Fr wo_Po_countOffers [32, 33, 34, 35, 36, 57] false d d := Fr.rfl
  unfold L_Po_countOffers at h
  obtain ⟨x29_, hx30_, h⟩ := lb_some h
  have fx29_ := Fr.tr0 f0 (fr_Po_countOffers_l9 p2 p3 p4 p1 0 0 d (Fr.g f0 hg) hx30_)
  obtain ⟨v31_, d32_⟩ := x29_
  have fd32_ : Fr wo_Po_countOffers [32, 33, 34, 35, 36, 57] false d d32_ := fx29_
  replace h := u1_e h
  obtain ⟨rfl, rfl⟩ := ret_inj h
  exact fd32_
/-! frames of PB_stands -/
def wo_PB_stands : List (Nat × Nat) := [(0, 0), (30, 6), (30, 7), (30, 8), (37, 10)]
theorem fr_PB_stands_b31 {r : Int} {d' : Dt} (x1 x2 x3 s1 : Int) (d : Dt) (hg : d GH 0 ≤ 6) (h : L_PB_stands_b31 x1 x2 x3 s1 d = some (r, d')) : Fr wo_PB_stands [32, 33, 34, 35, 36, 44, 45, 46, 47, 57] false d d' := by
  have f0 : Fr wo_PB_stands [32, 33, 34, 35, 36, 44, 45, 46, 47, 57] false d d := Fr.rfl
  unfold L_PB_stands_b31 at h
  rcases ite_some h with ⟨hc2_, h⟩ | ⟨hc2_, h⟩
  · obtain ⟨r4_, d3_, hr5_, h⟩ := bd_some h
    have fd3_ : Fr wo_PB_stands [32, 33, 34, 35, 36, 44, 45, 46, 47, 57] false d d3_ := Fr.tr (Fr.upo f0 rfl (by decide)) (fr_Po_countEntries x2 x3 (up2 d 0 0 s1) (Fr.g (Fr.upo f0 rfl (by decide)) hg) hr5_) (by decide) (by decide) (by decide)
    obtain ⟨r8_, d7_, hr9_, h⟩ := bd_some h
    have fd7_ : Fr wo_PB_stands [32, 33, 34, 35, 36, 44, 45, 46, 47, 57] false d d7_ := Fr.tr fd3_ (fr_Po_countOffers r4_ (w32 (x1 + 1)) x2 x3 d3_ (Fr.g fd3_ hg) hr9_) (by decide) (by decide) (by decide)
    obtain ⟨rfl, rfl⟩ := ret_inj h
    exact fd7_
  · obtain ⟨rfl, rfl⟩ := ret_inj h
    exact (Fr.upo f0 rfl (by decide))
theorem fr_PB_stands {r : Int} {d' : Dt} (p1 p2 p3 : Int) (d : Dt) (hg : d GH 0 ≤ 6) (h : L_PB_stands p1 p2 p3 d = some (r, d')) : Fr wo_PB_stands [32, 33, 34, 35, 36, 44, 45, 46, 47, 57] false d d' := by
  have f0 : Fr wo_PB_stands [32, 33, 34, 35, 36, 44, 45, 46, 47, 57] false d d := Fr.rfl
  unfold L_PB_stands at h
  obtain ⟨r12_, d11_, hr13_, h⟩ := bd_some h
  have fd11_ : Fr wo_PB_stands [32, 33, 34, 35, 36, 44, 45, 46, 47, 57] false d d11_ := Fr.tr f0 (fr_Po_hasOffer p1 d (Fr.g f0 hg) hr13_) (by decide) (by decide) (by decide)
  rcases ite_some h with ⟨hc15_, h⟩ | ⟨hc15_, h⟩
  · exact Fr.tr0 fd11_ (fr_PB_stands_b31 p1 p2 p3 1 d11_ (Fr.g fd11_ hg) h)
  · obtain ⟨r17_, d16_, hr18_, h⟩ := bd_some h
    have fd16_ : Fr wo_PB_stands [32, 33, 34, 35, 36, 44, 45, 46, 47, 57] false d d16_ := Fr.tr fd11_ (fr_PB_isPlace p2 d11_ (Fr.g fd11_ hg) hr18_) (by decide) (by decide) (by decide)
    rcases ite_some h with ⟨hc20_, h⟩ | ⟨hc20_, h⟩
    · exact Fr.tr0 fd16_ (fr_PB_stands_b31 p1 p2 p3 1 d16_ (Fr.g fd16_ hg) h)
    · obtain ⟨r22_, d21_, hr23_, h⟩ := bd_some h
      have fd21_ : Fr wo_PB_stands [32, 33, 34, 35, 36, 44, 45, 46, 47, 57] false d d21_ := Fr.tr fd16_ (fr_PB_isDay p3 d16_ (Fr.g fd16_ hg) hr23_) (by decide) (by decide) (by decide)
      rcases ite_some h with ⟨hc25_, h⟩ | ⟨hc25_, h⟩
      · exact Fr.tr0 fd21_ (fr_PB_stands_b31 p1 p2 p3 1 d21_ (Fr.g fd21_ hg) h)
      · exact Fr.tr0 fd21_ (fr_PB_stands_b31 p1 p2 p3 0 d21_ (Fr.g fd21_ hg) h)
/-! frames of PB_poll -/
def wo_PB_poll : List (Nat × Nat) := [(0, 0), (30, 6), (30, 7), (30, 8), (37, 10)]
theorem fr_PB_poll_b72 {r : Int} {d' : Dt} (x1 x2 x3 s1 s2 : Int) (d : Dt) (hg : d GH 0 ≤ 6) (h : L_PB_poll_b72 x1 x2 x3 s1 s2 d = some (r, d')) : Fr wo_PB_poll [32, 33, 34, 35, 36, 44, 45, 46, 47, 57] false d d' := by
  have f0 : Fr wo_PB_poll [32, 33, 34, 35, 36, 44, 45, 46, 47, 57] false d d := Fr.rfl
  unfold L_PB_poll_b72 at h
  obtain ⟨r2_, d1_, hr3_, h⟩ := bd_some h
  have fd1_ : Fr wo_PB_poll [32, 33, 34, 35, 36, 44, 45, 46, 47, 57] false d d1_ := Fr.tr f0 (fr_Po_countOffers s1 s2 x2 x3 d (Fr.g f0 hg) hr3_) (by decide) (by decide) (by decide)
  obtain ⟨hb5_, h⟩ := ck_some h
  obtain ⟨rfl, rfl⟩ := ret_inj h
  exact fd1_
theorem fr_PB_poll_b27 {r : Int} {d' : Dt} (x1 x2 x3 x4 s1 : Int) (d : Dt) (hg : d GH 0 ≤ 6) (h : L_PB_poll_b27 x1 x2 x3 x4 s1 d = some (r, d')) : Fr wo_PB_poll [32, 33, 34, 35, 36, 44, 45, 46, 47, 57] false d d' := by
  have f0 : Fr wo_PB_poll [32, 33, 34, 35, 36, 44, 45, 46, 47, 57] false d d := Fr.rfl
  unfold L_PB_poll_b27 at h
  rcases ite_some h with ⟨hc8_, h⟩ | ⟨hc8_, h⟩
  · obtain ⟨r10_, d9_, hr11_, h⟩ := bd_some h
    have fd9_ : Fr wo_PB_poll [32, 33, 34, 35, 36, 44, 45, 46, 47, 57] false d d9_ := Fr.tr (Fr.upo f0 rfl (by decide)) (fr_Po_countEntries x2 x3 (up2 d 0 0 s1) (Fr.g (Fr.upo f0 rfl (by decide)) hg) hr11_) (by decide) (by decide) (by decide)
    rcases ite_some h with ⟨hc13_, h⟩ | ⟨hc13_, h⟩
    · exact Fr.tr0 fd9_ (fr_PB_poll_b72 x1 x2 x3 r10_ 0 d9_ (Fr.g fd9_ hg) h)
    · exact Fr.tr0 fd9_ (fr_PB_poll_b72 x1 x2 x3 r10_ (d9_ 49 11) d9_ (Fr.g fd9_ hg) h)
  · obtain ⟨rfl, rfl⟩ := ret_inj h
    exact (Fr.upo f0 rfl (by decide))
theorem fr_PB_poll {r : Int} {d' : Dt} (p1 p2 p3 p4 : Int) (d : Dt) (hg : d GH 0 ≤ 6) (h : L_PB_poll p1 p2 p3 p4 d = some (r, d')) : Fr wo_PB_poll [32, 33, 34, 35, 36, 44, 45, 46, 47, 57] false d d' := by
  have f0 : Fr wo_PB_poll [32, 33, 34, 35, 36, 44, 45, 46, 47, 57] false d d := Fr.rfl
  unfold L_PB_poll at h
  obtain ⟨r16_, d15_, hr17_, h⟩ := bd_some h
  have fd15_ : Fr wo_PB_poll [32, 33, 34, 35, 36, 44, 45, 46, 47, 57] false d d15_ := Fr.tr f0 (fr_PB_isCandidate p1 d (Fr.g f0 hg) hr17_) (by decide) (by decide) (by decide)
  rcases ite_some h with ⟨hc19_, h⟩ | ⟨hc19_, h⟩
  · exact Fr.tr0 fd15_ (fr_PB_poll_b27 p1 p2 p3 p4 1 d15_ (Fr.g fd15_ hg) h)
  · obtain ⟨r21_, d20_, hr22_, h⟩ := bd_some h
    have fd20_ : Fr wo_PB_poll [32, 33, 34, 35, 36, 44, 45, 46, 47, 57] false d d20_ := Fr.tr fd15_ (fr_PB_isPlace p2 d15_ (Fr.g fd15_ hg) hr22_) (by decide) (by decide) (by decide)
    rcases ite_some h with ⟨hc24_, h⟩ | ⟨hc24_, h⟩
    · exact Fr.tr0 fd20_ (fr_PB_poll_b27 p1 p2 p3 p4 1 d20_ (Fr.g fd20_ hg) h)
    · obtain ⟨r26_, d25_, hr27_, h⟩ := bd_some h
      have fd25_ : Fr wo_PB_poll [32, 33, 34, 35, 36, 44, 45, 46, 47, 57] false d d25_ := Fr.tr fd20_ (fr_PB_isDay p3 d20_ (Fr.g fd20_ hg) hr27_) (by decide) (by decide) (by decide)
      rcases ite_some h with ⟨hc29_, h⟩ | ⟨hc29_, h⟩
      · exact Fr.tr0 fd25_ (fr_PB_poll_b27 p1 p2 p3 p4 1 d25_ (Fr.g fd25_ hg) h)
      · exact Fr.tr0 fd25_ (fr_PB_poll_b27 p1 p2 p3 p4 0 d25_ (Fr.g fd25_ hg) h)
/-! frames of PB_rankOf -/
def wo_PB_rankOf : List (Nat × Nat) := []
def he_PB_rankOf_4 (q : (Int × Dt)) : Dt := q.2
def hb_PB_rankOf_4 (o : (Int × Int × Int × Dt) ⊕ ((Int × Dt))) : Dt := match o with
  | .inl q => q.2.2.2
  | .inr r => he_PB_rankOf_4 r
theorem fr_PB_rankOf_b35 (arr0 len0 : Nat) {o : (Int × Int × Int × Dt) ⊕ ((Int × Dt))} (x1 x2 x3 : Int) (d : Dt) (hg : d GH 0 ≤ 6) (hnarr0 : arr0 ≠ GH) (h : L_PB_rankOf_b35 arr0 len0 x1 x2 x3 d = some o) : Fr wo_PB_rankOf [] false d (hb_PB_rankOf_4 o) := by
  have f0 : Fr wo_PB_rankOf [] false d d := Fr.rfl
  unfold L_PB_rankOf_b35 at h
  obtain rfl := Option.some.inj h
  exact f0
theorem fr_PB_rankOf_b32 (arr0 len0 : Nat) {o : (Int × Int × Int × Dt) ⊕ ((Int × Dt))} (x1 x2 x3 : Int) (d : Dt) (hg : d GH 0 ≤ 6) (hnarr0 : arr0 ≠ GH) (h : L_PB_rankOf_b32 arr0 len0 x1 x2 x3 d = some o) : Fr wo_PB_rankOf [] false d (hb_PB_rankOf_4 o) := by
  have f0 : Fr wo_PB_rankOf [] false d d := Fr.rfl
  unfold L_PB_rankOf_b32 at h
  exact Fr.tr0 f0 (fr_PB_rankOf_b35 arr0 len0 x1 (w32 (x2 + 1)) x3 d (Fr.g f0 hg) hnarr0 h)
theorem fr_PB_rankOf_y4 (arr0 len0 : Nat) {o : (Int × Int × Int × Dt) ⊕ ((Int × Dt))} (x1 x2 x3 : Int) (d : Dt) (hg : d GH 0 ≤ 6) (hnarr0 : arr0 ≠ GH) (h : L_PB_rankOf_y4 arr0 len0 x1 x2 x3 d = some o) : Fr wo_PB_rankOf [] false d (hb_PB_rankOf_4 o) := by
  have f0 : Fr wo_PB_rankOf [] false d d := Fr.rfl
  unfold L_PB_rankOf_y4 at h
  rcases ite_some h with ⟨hc1_, h⟩ | ⟨hc1_, h⟩
  · obtain ⟨hb2_, h⟩ := ck_some h
    obtain ⟨hb4_, h⟩ := ck_some h
    rcases ite_some h with ⟨hc6_, h⟩ | ⟨hc6_, h⟩
    · exact Fr.tr0 f0 (fr_PB_rankOf_b32 arr0 len0 x1 x2 x3 d (Fr.g f0 hg) hnarr0 h)
    · obtain ⟨hb7_, h⟩ := ck_some h
      obtain ⟨hb9_, h⟩ := ck_some h
      rcases ite_some h with ⟨hc11_, h⟩ | ⟨hc11_, h⟩
      · rcases ite_some h with ⟨hc12_, h⟩ | ⟨hc12_, h⟩
        · exact Fr.tr0 f0 (fr_PB_rankOf_b32 arr0 len0 x1 x2 x3 d (Fr.g f0 hg) hnarr0 h)
        · exact Fr.tr0 f0 (fr_PB_rankOf_b35 arr0 len0 x1 x2 x3 d (Fr.g f0 hg) hnarr0 h)
      · exact Fr.tr0 f0 (fr_PB_rankOf_b35 arr0 len0 x1 x2 x3 d (Fr.g f0 hg) hnarr0 h)
  · obtain rfl := Option.some.inj h
    exact f0
theorem fr_PB_rankOf_l4 (arr0 len0 : Nat) {x : (Int × Dt)} (x1 x2 x3 : Int) (d : Dt) (hg : d GH 0 ≤ 6) (hnarr0 : arr0 ≠ GH) (h : L_PB_rankOf_l4 arr0 len0 x1 x2 x3 d = some x) : Fr wo_PB_rankOf [] false d (he_PB_rankOf_4 x) :=
  lpF_fr (f := fun q : Int × Int × Int × Dt => L_PB_rankOf_y4 arr0 len0 q.1 q.2.1 q.2.2.1 q.2.2.2) (fun q => q.2.2.2) he_PB_rankOf_4 (fun q x hq hx => ⟨fun q2 e2 => by subst e2; exact fr_PB_rankOf_y4 arr0 len0 q.1 q.2.1 q.2.2.1 q.2.2.2 hq hnarr0 hx, fun r2 e2 => by subst e2; exact fr_PB_rankOf_y4 arr0 len0 q.1 q.2.1 q.2.2.1 q.2.2.2 hq hnarr0 hx⟩) FU _ x hg h
theorem fr_PB_rankOf (arr0 len0 : Nat) {r : Int} {d' : Dt} (p2 : Int) (d : Dt) (hg : d GH 0 ≤ 6) (hnarr0 : arr0 ≠ GH) (h : L_PB_rankOf arr0 len0 p2 d = some (r, d')) : Fr wo_PB_rankOf [] false d d' := by
  have f0 : Fr wo_PB_rankOf [] false d d := Fr.rfl
  unfold L_PB_rankOf at h
  obtain ⟨x13_, hx14_, h⟩ := lb_some h
  have fx13_ := Fr.tr0 f0 (fr_PB_rankOf_l4 arr0 len0 p2 0 0 d (Fr.g f0 hg) hnarr0 hx14_)
  obtain ⟨v15_, d16_⟩ := x13_
  have fd16_ : Fr wo_PB_rankOf [] false d d16_ := fx13_
  replace h := u1_e h
  obtain ⟨rfl, rfl⟩ := ret_inj h
  exact fd16_
/-! frames of PB_candidateAt -/
def wo_PB_candidateAt : List (Nat × Nat) := []
def he_PB_candidateAt_2 (r : (Dt) ⊕ (Int × Dt)) : Dt := match r with
  | .inl q => q
  | .inr q => q.2
def hb_PB_candidateAt_2 (o : (Int × Int × Dt) ⊕ ((Dt) ⊕ (Int × Dt))) : Dt := match o with
  | .inl q => q.2.2
  | .inr r => he_PB_candidateAt_2 r
theorem fr_PB_candidateAt_y2 (arr0 len0 : Nat) {o : (Int × Int × Dt) ⊕ ((Dt) ⊕ (Int × Dt))} (x1 x2 : Int) (d : Dt) (hg : d GH 0 ≤ 6) (hnarr0 : arr0 ≠ GH) (h : L_PB_candidateAt_y2 arr0 len0 x1 x2 d = some o) : Fr wo_PB_candidateAt [] false d (hb_PB_candidateAt_2 o) := by
  have f0 : Fr wo_PB_candidateAt [] false d d := Fr.rfl
  unfold L_PB_candidateAt_y2 at h
  rcases ite_some h with ⟨hc1_, h⟩ | ⟨hc1_, h⟩
  · obtain ⟨r3_, d2_, hr4_, h⟩ := bd_some h
    have fd2_ : Fr wo_PB_candidateAt [] false d d2_ := Fr.tr f0 (fr_PB_rankOf arr0 len0 x2 d (Fr.g f0 hg) hnarr0 hr4_) (by decide) (by decide) (by decide)
    rcases ite_some h with ⟨hc6_, h⟩ | ⟨hc6_, h⟩
    · obtain rfl := Option.some.inj h
      exact fd2_
    · obtain rfl := Option.some.inj h
      exact fd2_
  · obtain rfl := Option.some.inj h
    exact f0
theorem fr_PB_candidateAt_l2 (arr0 len0 : Nat) {x : (Dt) ⊕ (Int × Dt)} (x1 x2 : Int) (d : Dt) (hg : d GH 0 ≤ 6) (hnarr0 : arr0 ≠ GH) (h : L_PB_candidateAt_l2 arr0 len0 x1 x2 d = some x) : Fr wo_PB_candidateAt [] false d (he_PB_candidateAt_2 x) :=
  lpF_fr (f := fun q : Int × Int × Dt => L_PB_candidateAt_y2 arr0 len0 q.1 q.2.1 q.2.2) (fun q => q.2.2) he_PB_candidateAt_2 (fun q x hq hx => ⟨fun q2 e2 => by subst e2; exact fr_PB_candidateAt_y2 arr0 len0 q.1 q.2.1 q.2.2 hq hnarr0 hx, fun r2 e2 => by subst e2; exact fr_PB_candidateAt_y2 arr0 len0 q.1 q.2.1 q.2.2 hq hnarr0 hx⟩) FU _ x hg h
theorem fr_PB_candidateAt (arr0 len0 : Nat) {r : Int} {d' : Dt} (p2 : Int) (d : Dt) (hg : d GH 0 ≤ 6) (hnarr0 : arr0 ≠ GH) (h : L_PB_candidateAt arr0 len0 p2 d = some (r, d')) : Fr wo_PB_candidateAt [] false d d' := by
  have f0 : Fr wo_PB_candidateAt [] false d d := Fr.rfl
  unfold L_PB_candidateAt at h
  obtain ⟨x7_, hx8_, h⟩ := lb_some h
  have fx7_ := Fr.tr0 f0 (fr_PB_candidateAt_l2 arr0 len0 p2 0 d (Fr.g f0 hg) hnarr0 hx8_)
  rcases x7_ with d9_ | ⟨v11_, d12_⟩
  · have fd9_ : Fr wo_PB_candidateAt [] false d d9_ := fx7_
    replace h := sml_e h
    replace h := u0_e h
    obtain ⟨rfl, rfl⟩ := ret_inj h
    exact fd9_
  · have fd12_ : Fr wo_PB_candidateAt [] false d d12_ := fx7_
    replace h := smr_e h
    replace h := u1_e h
    obtain ⟨rfl, rfl⟩ := ret_inj h
    exact fd12_
/-! frames of PB_seated -/
def wo_PB_seated : List (Nat × Nat) := [(0, 0), (30, 6), (30, 7), (30, 8), (37, 10)]
theorem fr_PB_seated_b75 {r : Int} {d' : Dt} (x1 x2 x3 s1 s2 : Int) (d : Dt) (hg : d GH 0 ≤ 6) (h : L_PB_seated_b75 x1 x2 x3 s1 s2 d = some (r, d')) : Fr wo_PB_seated [32, 33, 34, 35, 36, 44, 45, 46, 47, 57] false d d' := by
  have f0 : Fr wo_PB_seated [32, 33, 34, 35, 36, 44, 45, 46, 47, 57] false d d := Fr.rfl
  unfold L_PB_seated_b75 at h
  obtain ⟨r2_, d1_, hr3_, h⟩ := bd_some h
  have fd1_ : Fr wo_PB_seated [32, 33, 34, 35, 36, 44, 45, 46, 47, 57] false d d1_ := Fr.tr f0 (fr_Po_countOffers s1 s2 x2 x3 d (Fr.g f0 hg) hr3_) (by decide) (by decide) (by decide)
  obtain ⟨r6_, d5_, hr7_, h⟩ := bd_some h
  have fd5_ : Fr wo_PB_seated [32, 33, 34, 35, 36, 44, 45, 46, 47, 57] false d d5_ := Fr.tr fd1_ (fr_PB_candidateAt 57 4 x1 d1_ (Fr.g fd1_ hg) (by decide) hr7_) (by decide) (by decide) (by decide)
  obtain ⟨rfl, rfl⟩ := ret_inj h
  exact fd5_
theorem fr_PB_seated_b30 {r : Int} {d' : Dt} (x1 x2 x3 x4 s1 : Int) (d : Dt) (hg : d GH 0 ≤ 6) (h : L_PB_seated_b30 x1 x2 x3 x4 s1 d = some (r, d')) : Fr wo_PB_seated [32, 33, 34, 35, 36, 44, 45, 46, 47, 57] false d d' := by
  have f0 : Fr wo_PB_seated [32, 33, 34, 35, 36, 44, 45, 46, 47, 57] false d d := Fr.rfl
  unfold L_PB_seated_b30 at h
  rcases ite_some h with ⟨hc10_, h⟩ | ⟨hc10_, h⟩
  · obtain ⟨r12_, d11_, hr13_, h⟩ := bd_some h
    have fd11_ : Fr wo_PB_seated [32, 33, 34, 35, 36, 44, 45, 46, 47, 57] false d d11_ := Fr.tr (Fr.upo f0 rfl (by decide)) (fr_Po_countEntries x2 x3 (up2 d 0 0 s1) (Fr.g (Fr.upo f0 rfl (by decide)) hg) hr13_) (by decide) (by decide) (by decide)
    rcases ite_some h with ⟨hc15_, h⟩ | ⟨hc15_, h⟩
    · exact Fr.tr0 fd11_ (fr_PB_seated_b75 x1 x2 x3 r12_ 0 d11_ (Fr.g fd11_ hg) h)
    · exact Fr.tr0 fd11_ (fr_PB_seated_b75 x1 x2 x3 r12_ (d11_ 49 11) d11_ (Fr.g fd11_ hg) h)
  · obtain ⟨rfl, rfl⟩ := ret_inj h
    exact (Fr.upo f0 rfl (by decide))
theorem fr_PB_seated {r : Int} {d' : Dt} (p1 p2 p3 p4 : Int) (d : Dt) (hg : d GH 0 ≤ 6) (h : L_PB_seated p1 p2 p3 p4 d = some (r, d')) : Fr wo_PB_seated [32, 33, 34, 35, 36, 44, 45, 46, 47, 57] false d d' := by
  have f0 : Fr wo_PB_seated [32, 33, 34, 35, 36, 44, 45, 46, 47, 57] false d d := Fr.rfl
  unfold L_PB_seated at h
  obtain ⟨r18_, d17_, hr19_, h⟩ := bd_some h
  have fd17_ : Fr wo_PB_seated [32, 33, 34, 35, 36, 44, 45, 46, 47, 57] false d d17_ := Fr.tr f0 (fr_PB_within p1 0 1 d (Fr.g f0 hg) hr19_) (by decide) (by decide) (by decide)
  rcases ite_some h with ⟨hc21_, h⟩ | ⟨hc21_, h⟩
  · exact Fr.tr0 fd17_ (fr_PB_seated_b30 p1 p2 p3 p4 1 d17_ (Fr.g fd17_ hg) h)
  · obtain ⟨r23_, d22_, hr24_, h⟩ := bd_some h
    have fd22_ : Fr wo_PB_seated [32, 33, 34, 35, 36, 44, 45, 46, 47, 57] false d d22_ := Fr.tr fd17_ (fr_PB_isPlace p2 d17_ (Fr.g fd17_ hg) hr24_) (by decide) (by decide) (by decide)
    rcases ite_some h with ⟨hc26_, h⟩ | ⟨hc26_, h⟩
    · exact Fr.tr0 fd22_ (fr_PB_seated_b30 p1 p2 p3 p4 1 d22_ (Fr.g fd22_ hg) h)
    · obtain ⟨r28_, d27_, hr29_, h⟩ := bd_some h
      have fd27_ : Fr wo_PB_seated [32, 33, 34, 35, 36, 44, 45, 46, 47, 57] false d d27_ := Fr.tr fd22_ (fr_PB_isDay p3 d22_ (Fr.g fd22_ hg) hr29_) (by decide) (by decide) (by decide)
      rcases ite_some h with ⟨hc31_, h⟩ | ⟨hc31_, h⟩
      · exact Fr.tr0 fd27_ (fr_PB_seated_b30 p1 p2 p3 p4 1 d27_ (Fr.g fd27_ hg) h)
      · exact Fr.tr0 fd27_ (fr_PB_seated_b30 p1 p2 p3 p4 0 d27_ (Fr.g fd27_ hg) h)
/-! frames of Gr_isFull -/
def wo_Gr_isFull : List (Nat × Nat) := []
theorem fr_Gr_isFull {r : Int} {d' : Dt} (d : Dt) (hg : d GH 0 ≤ 6) (h : L_Gr_isFull d = some (r, d')) : Fr wo_Gr_isFull [] false d d' := by
  have f0 : Fr wo_Gr_isFull [] false d d := Fr.rfl
  unfold L_Gr_isFull at h
  rcases ite_some h with ⟨hc2_, h⟩ | ⟨hc2_, h⟩
  · obtain ⟨rfl, rfl⟩ := ret_inj h
    exact f0
  · obtain ⟨rfl, rfl⟩ := ret_inj h
    exact f0
/-! frames of Gr_isTold -/
def wo_Gr_isTold : List (Nat × Nat) := []
def he_Gr_isTold_2 (r : (Dt) ⊕ (Dt)) : Dt := match r with
  | .inl q => q
  | .inr q => q
def hb_Gr_isTold_2 (o : (Int × Int × Int × Dt) ⊕ ((Dt) ⊕ (Dt))) : Dt := match o with
  | .inl q => q.2.2.2
  | .inr r => he_Gr_isTold_2 r
theorem fr_Gr_isTold_b32 {o : (Int × Int × Int × Dt) ⊕ ((Dt) ⊕ (Dt))} (x1 x2 x3 : Int) (d : Dt) (hg : d GH 0 ≤ 6) (h : L_Gr_isTold_b32 x1 x2 x3 d = some o) : Fr wo_Gr_isTold [] false d (hb_Gr_isTold_2 o) := by
  have f0 : Fr wo_Gr_isTold [] false d d := Fr.rfl
  unfold L_Gr_isTold_b32 at h
  obtain rfl := Option.some.inj h
  exact f0
theorem fr_Gr_isTold_y2 {o : (Int × Int × Int × Dt) ⊕ ((Dt) ⊕ (Dt))} (x1 x2 x3 : Int) (d : Dt) (hg : d GH 0 ≤ 6) (h : L_Gr_isTold_y2 x1 x2 x3 d = some o) : Fr wo_Gr_isTold [] false d (hb_Gr_isTold_2 o) := by
  have f0 : Fr wo_Gr_isTold [] false d d := Fr.rfl
  unfold L_Gr_isTold_y2 at h
  rcases ite_some h with ⟨hc2_, h⟩ | ⟨hc2_, h⟩
  · obtain ⟨hb3_, h⟩ := ck_some h
    rcases ite_some h with ⟨hc5_, h⟩ | ⟨hc5_, h⟩
    · obtain ⟨hb6_, h⟩ := ck_some h
      rcases ite_some h with ⟨hc8_, h⟩ | ⟨hc8_, h⟩
      · obtain rfl := Option.some.inj h
        exact f0
      · exact Fr.tr0 f0 (fr_Gr_isTold_b32 x1 x2 x3 d (Fr.g f0 hg) h)
    · exact Fr.tr0 f0 (fr_Gr_isTold_b32 x1 x2 x3 d (Fr.g f0 hg) h)
  · obtain rfl := Option.some.inj h
    exact f0
theorem fr_Gr_isTold_l2 {x : (Dt) ⊕ (Dt)} (x1 x2 x3 : Int) (d : Dt) (hg : d GH 0 ≤ 6) (h : L_Gr_isTold_l2 x1 x2 x3 d = some x) : Fr wo_Gr_isTold [] false d (he_Gr_isTold_2 x) :=
  lpF_fr (f := fun q : Int × Int × Int × Dt => L_Gr_isTold_y2 q.1 q.2.1 q.2.2.1 q.2.2.2) (fun q => q.2.2.2) he_Gr_isTold_2 (fun q x hq hx => ⟨fun q2 e2 => by subst e2; exact fr_Gr_isTold_y2 q.1 q.2.1 q.2.2.1 q.2.2.2 hq hx, fun r2 e2 => by subst e2; exact fr_Gr_isTold_y2 q.1 q.2.1 q.2.2.1 q.2.2.2 hq hx⟩) FU _ x hg h
theorem fr_Gr_isTold {r : Int} {d' : Dt} (p1 p2 : Int) (d : Dt) (hg : d GH 0 ≤ 6) (h : L_Gr_isTold p1 p2 d = some (r, d')) : Fr wo_Gr_isTold [] false d d' := by
  have f0 : Fr wo_Gr_isTold [] false d d := Fr.rfl
  unfold L_Gr_isTold at h
  obtain ⟨x9_, hx10_, h⟩ := lb_some h
  have fx9_ := Fr.tr0 f0 (fr_Gr_isTold_l2 p1 p2 0 d (Fr.g f0 hg) hx10_)
  rcases x9_ with d11_ | d13_
  · have fd11_ : Fr wo_Gr_isTold [] false d d11_ := fx9_
    replace h := sml_e h
    replace h := u0_e h
    obtain ⟨rfl, rfl⟩ := ret_inj h
    exact fd11_
  · have fd13_ : Fr wo_Gr_isTold [] false d d13_ := fx9_
    replace h := smr_e h
    replace h := u0_e h
    obtain ⟨rfl, rfl⟩ := ret_inj h
    exact fd13_
/-! frames of Gr_add -/
def wo_Gr_add : List (Nat × Nat) := [(58, 5)]
theorem fr_Gr_add {r : Int} {d' : Dt} (p1 p2 : Int) (d : Dt) (hg : d GH 0 ≤ 6) (h : L_Gr_add p1 p2 d = some (r, d')) : Fr wo_Gr_add [59, 60] false d d' := by
  have f0 : Fr wo_Gr_add [59, 60] false d d := Fr.rfl
  unfold L_Gr_add at h
  obtain ⟨hb2_, h⟩ := ck_some h
  obtain ⟨hb4_, h⟩ := ck_some h
  obtain ⟨rfl, rfl⟩ := ret_inj h
  exact (Fr.upo (Fr.upa (Fr.upa f0 rfl (by decide)) rfl (by decide)) rfl (by decide))
/-! frames of PB_ground -/
def wo_PB_ground : List (Nat × Nat) := [(0, 0), (58, 5)]
theorem fr_PB_ground_b78 {r : Int} {d' : Dt} (x1 x2 : Int) (d : Dt) (hg : d GH 0 ≤ 6) (h : L_PB_ground_b78 x1 x2 d = some (r, d')) : Fr wo_PB_ground [59, 60] false d d' := by
  have f0 : Fr wo_PB_ground [59, 60] false d d := Fr.rfl
  unfold L_PB_ground_b78 at h
  rcases ite_some h with ⟨hc2_, h⟩ | ⟨hc2_, h⟩
  · obtain ⟨r4_, d3_, hr5_, h⟩ := bd_some h
    have fd3_ : Fr wo_PB_ground [59, 60] false d d3_ := Fr.tr f0 (fr_Gr_add x1 x2 d (Fr.g f0 hg) hr5_) (by decide) (by decide) (by decide)
    obtain ⟨rfl, rfl⟩ := ret_inj h
    exact fd3_
  · obtain ⟨rfl, rfl⟩ := ret_inj h
    exact f0
theorem fr_PB_ground_b75 {r : Int} {d' : Dt} (x1 x2 s1 : Int) (d : Dt) (hg : d GH 0 ≤ 6) (h : L_PB_ground_b75 x1 x2 s1 d = some (r, d')) : Fr wo_PB_ground [59, 60] false d d' := by
  have f0 : Fr wo_PB_ground [59, 60] false d d := Fr.rfl
  unfold L_PB_ground_b75 at h
  exact Fr.tr0 (Fr.upo f0 rfl (by decide)) (fr_PB_ground_b78 x1 x2 (up2 d 0 0 s1) (Fr.g (Fr.upo f0 rfl (by decide)) hg) h)
theorem fr_PB_ground_b38 {r : Int} {d' : Dt} (x1 x2 : Int) (d : Dt) (hg : d GH 0 ≤ 6) (h : L_PB_ground_b38 x1 x2 d = some (r, d')) : Fr wo_PB_ground [59, 60] false d d' := by
  have f0 : Fr wo_PB_ground [59, 60] false d d := Fr.rfl
  unfold L_PB_ground_b38 at h
  obtain ⟨r8_, d7_, hr9_, h⟩ := bd_some h
  have fd7_ : Fr wo_PB_ground [59, 60] false d d7_ := Fr.tr f0 (fr_Gr_isFull  d (Fr.g f0 hg) hr9_) (by decide) (by decide) (by decide)
  rcases ite_some h with ⟨hc11_, h⟩ | ⟨hc11_, h⟩
  · obtain ⟨r13_, d12_, hr14_, h⟩ := bd_some h
    have fd12_ : Fr wo_PB_ground [59, 60] false d d12_ := Fr.tr fd7_ (fr_Gr_isTold x1 x2 d7_ (Fr.g fd7_ hg) hr14_) (by decide) (by decide) (by decide)
    rcases ite_some h with ⟨hc16_, h⟩ | ⟨hc16_, h⟩
    · exact Fr.tr0 fd12_ (fr_PB_ground_b75 x1 x2 0 d12_ (Fr.g fd12_ hg) h)
    · exact Fr.tr0 fd12_ (fr_PB_ground_b75 x1 x2 7 d12_ (Fr.g fd12_ hg) h)
  · exact Fr.tr0 (Fr.upo fd7_ rfl (by decide)) (fr_PB_ground_b78 x1 x2 (up2 d7_ 0 0 4) (Fr.g (Fr.upo fd7_ rfl (by decide)) hg) h)
theorem fr_PB_ground_b30 {r : Int} {d' : Dt} (x1 x2 : Int) (d : Dt) (hg : d GH 0 ≤ 6) (h : L_PB_ground_b30 x1 x2 d = some (r, d')) : Fr wo_PB_ground [59, 60] false d d' := by
  have f0 : Fr wo_PB_ground [59, 60] false d d := Fr.rfl
  unfold L_PB_ground_b30 at h
  exact Fr.tr0 (Fr.upo f0 rfl (by decide)) (fr_PB_ground_b78 x1 x2 (up2 d 0 0 1) (Fr.g (Fr.upo f0 rfl (by decide)) hg) h)
theorem fr_PB_ground {r : Int} {d' : Dt} (p1 p2 : Int) (d : Dt) (hg : d GH 0 ≤ 6) (h : L_PB_ground p1 p2 d = some (r, d')) : Fr wo_PB_ground [59, 60] false d d' := by
  have f0 : Fr wo_PB_ground [59, 60] false d d := Fr.rfl
  unfold L_PB_ground at h
  rcases ite_some h with ⟨hc17_, h⟩ | ⟨hc17_, h⟩
  · obtain ⟨r19_, d18_, hr20_, h⟩ := bd_some h
    have fd18_ : Fr wo_PB_ground [59, 60] false d d18_ := Fr.tr f0 (fr_Bo_has 0 p2 d (Fr.g f0 hg) hr20_) (by decide) (by decide) (by decide)
    rcases ite_some h with ⟨hc22_, h⟩ | ⟨hc22_, h⟩
    · exact Fr.tr0 fd18_ (fr_PB_ground_b30 p1 p2 d18_ (Fr.g fd18_ hg) h)
    · exact Fr.tr0 fd18_ (fr_PB_ground_b38 p1 p2 d18_ (Fr.g fd18_ hg) h)
  · obtain ⟨r24_, d23_, hr25_, h⟩ := bd_some h
    have fd23_ : Fr wo_PB_ground [59, 60] false d d23_ := Fr.tr f0 (fr_Po_hasOffer p2 d (Fr.g f0 hg) hr25_) (by decide) (by decide) (by decide)
    rcases ite_some h with ⟨hc27_, h⟩ | ⟨hc27_, h⟩
    · exact Fr.tr0 fd23_ (fr_PB_ground_b30 p1 p2 d23_ (Fr.g fd23_ hg) h)
    · exact Fr.tr0 fd23_ (fr_PB_ground_b38 p1 p2 d23_ (Fr.g fd23_ hg) h)
/-! frames of Gr_has -/
def wo_Gr_has : List (Nat × Nat) := []
theorem fr_Gr_has {r : Int} {d' : Dt} (p1 : Int) (d : Dt) (hg : d GH 0 ≤ 6) (h : L_Gr_has p1 d = some (r, d')) : Fr wo_Gr_has [] false d d' := by
  have f0 : Fr wo_Gr_has [] false d d := Fr.rfl
  unfold L_Gr_has at h
  rcases ite_some h with ⟨hc1_, h⟩ | ⟨hc1_, h⟩
  · obtain ⟨rfl, rfl⟩ := ret_inj h
    exact f0
  · rcases ite_some h with ⟨hc3_, h⟩ | ⟨hc3_, h⟩
    · obtain ⟨rfl, rfl⟩ := ret_inj h
      exact f0
    · obtain ⟨rfl, rfl⟩ := ret_inj h
      exact f0
/-! frames of Gr_areRivals -/
def wo_Gr_areRivals : List (Nat × Nat) := []
theorem fr_Gr_areRivals {r : Int} {d' : Dt} (p1 p2 : Int) (d : Dt) (hg : d GH 0 ≤ 6) (h : L_Gr_areRivals p1 p2 d = some (r, d')) : Fr wo_Gr_areRivals [] false d d' := by
  have f0 : Fr wo_Gr_areRivals [] false d d := Fr.rfl
  unfold L_Gr_areRivals at h
  obtain ⟨hb1_, h⟩ := ck_some h
  rcases ite_some h with ⟨hc3_, h⟩ | ⟨hc3_, h⟩
  · obtain ⟨rfl, rfl⟩ := ret_inj h
    exact f0
  · obtain ⟨rfl, rfl⟩ := ret_inj h
    exact f0
/-! frames of Gr_setRivals -/
def wo_Gr_setRivals : List (Nat × Nat) := []
theorem fr_Gr_setRivals {r : Int} {d' : Dt} (p1 p2 : Int) (d : Dt) (hg : d GH 0 ≤ 6) (h : L_Gr_setRivals p1 p2 d = some (r, d')) : Fr wo_Gr_setRivals [61] false d d' := by
  have f0 : Fr wo_Gr_setRivals [61] false d d := Fr.rfl
  unfold L_Gr_setRivals at h
  obtain ⟨hb1_, h⟩ := ck_some h
  obtain ⟨hb3_, h⟩ := ck_some h
  obtain ⟨hb4_, h⟩ := ck_some h
  obtain ⟨hb6_, h⟩ := ck_some h
  obtain ⟨rfl, rfl⟩ := ret_inj h
  exact (Fr.upa (Fr.upa f0 rfl (by decide)) rfl (by decide))
/-! frames of PB_against -/
def wo_PB_against : List (Nat × Nat) := [(0, 0)]
theorem fr_PB_against_b79 {r : Int} {d' : Dt} (d : Dt) (hg : d GH 0 ≤ 6) (h : L_PB_against_b79 d = some (r, d')) : Fr wo_PB_against [61] false d d' := by
  have f0 : Fr wo_PB_against [61] false d d := Fr.rfl
  unfold L_PB_against_b79 at h
  rcases ite_some h with ⟨hc2_, h⟩ | ⟨hc2_, h⟩
  · obtain ⟨rfl, rfl⟩ := ret_inj h
    exact f0
  · obtain ⟨rfl, rfl⟩ := ret_inj h
    exact f0
theorem fr_PB_against_b60 {r : Int} {d' : Dt} (x1 x2 s1 : Int) (d : Dt) (hg : d GH 0 ≤ 6) (h : L_PB_against_b60 x1 x2 s1 d = some (r, d')) : Fr wo_PB_against [61] false d d' := by
  have f0 : Fr wo_PB_against [61] false d d := Fr.rfl
  unfold L_PB_against_b60 at h
  rcases ite_some h with ⟨hc4_, h⟩ | ⟨hc4_, h⟩
  · obtain ⟨r6_, d5_, hr7_, h⟩ := bd_some h
    have fd5_ : Fr wo_PB_against [61] false d d5_ := Fr.tr (Fr.upo f0 rfl (by decide)) (fr_Gr_setRivals x1 x2 (up2 d 0 0 s1) (Fr.g (Fr.upo f0 rfl (by decide)) hg) hr7_) (by decide) (by decide) (by decide)
    exact Fr.tr0 fd5_ (fr_PB_against_b79  d5_ (Fr.g fd5_ hg) h)
  · exact Fr.tr0 (Fr.upo f0 rfl (by decide)) (fr_PB_against_b79  (up2 d 0 0 s1) (Fr.g (Fr.upo f0 rfl (by decide)) hg) h)
theorem fr_PB_against_b32 {r : Int} {d' : Dt} (x1 x2 s0 : Int) (d : Dt) (hg : d GH 0 ≤ 6) (h : L_PB_against_b32 x1 x2 s0 d = some (r, d')) : Fr wo_PB_against [61] false d d' := by
  have f0 : Fr wo_PB_against [61] false d d := Fr.rfl
  unfold L_PB_against_b32 at h
  rcases ite_some h with ⟨hc9_, h⟩ | ⟨hc9_, h⟩
  · exact Fr.tr0 f0 (fr_PB_against_b60 x1 x2 1 d (Fr.g f0 hg) h)
  · obtain ⟨r11_, d10_, hr12_, h⟩ := bd_some h
    have fd10_ : Fr wo_PB_against [61] false d d10_ := Fr.tr f0 (fr_Gr_areRivals x1 x2 d (Fr.g f0 hg) hr12_) (by decide) (by decide) (by decide)
    rcases ite_some h with ⟨hc14_, h⟩ | ⟨hc14_, h⟩
    · exact Fr.tr0 fd10_ (fr_PB_against_b60 x1 x2 0 d10_ (Fr.g fd10_ hg) h)
    · exact Fr.tr0 fd10_ (fr_PB_against_b60 x1 x2 7 d10_ (Fr.g fd10_ hg) h)
theorem fr_PB_against {r : Int} {d' : Dt} (p1 p2 : Int) (d : Dt) (hg : d GH 0 ≤ 6) (h : L_PB_against p1 p2 d = some (r, d')) : Fr wo_PB_against [61] false d d' := by
  have f0 : Fr wo_PB_against [61] false d d := Fr.rfl
  unfold L_PB_against at h
  obtain ⟨r16_, d15_, hr17_, h⟩ := bd_some h
  have fd15_ : Fr wo_PB_against [61] false d d15_ := Fr.tr f0 (fr_Gr_has p1 d (Fr.g f0 hg) hr17_) (by decide) (by decide) (by decide)
  rcases ite_some h with ⟨hc19_, h⟩ | ⟨hc19_, h⟩
  · exact Fr.tr0 fd15_ (fr_PB_against_b32 p1 p2 0 d15_ (Fr.g fd15_ hg) h)
  · obtain ⟨r21_, d20_, hr22_, h⟩ := bd_some h
    have fd20_ : Fr wo_PB_against [61] false d d20_ := Fr.tr fd15_ (fr_Gr_has p2 d15_ (Fr.g fd15_ hg) hr22_) (by decide) (by decide) (by decide)
    rcases ite_some h with ⟨hc24_, h⟩ | ⟨hc24_, h⟩
    · exact Fr.tr0 fd20_ (fr_PB_against_b32 p1 p2 0 d20_ (Fr.g fd20_ hg) h)
    · rcases ite_some h with ⟨hc25_, h⟩ | ⟨hc25_, h⟩
      · exact Fr.tr0 fd20_ (fr_PB_against_b32 p1 p2 0 d20_ (Fr.g fd20_ hg) h)
      · exact Fr.tr0 fd20_ (fr_PB_against_b32 p1 p2 1 d20_ (Fr.g fd20_ hg) h)
/-! frames of Gr_isSetOfThem -/
def wo_Gr_isSetOfThem : List (Nat × Nat) := []
theorem fr_Gr_isSetOfThem {r : Int} {d' : Dt} (p1 : Int) (d : Dt) (hg : d GH 0 ≤ 6) (h : L_Gr_isSetOfThem p1 d = some (r, d')) : Fr wo_Gr_isSetOfThem [] false d d' := by
  have f0 : Fr wo_Gr_isSetOfThem [] false d d := Fr.rfl
  unfold L_Gr_isSetOfThem at h
  rcases ite_some h with ⟨hc1_, h⟩ | ⟨hc1_, h⟩
  · obtain ⟨rfl, rfl⟩ := ret_inj h
    exact f0
  · rcases ite_some h with ⟨hc3_, h⟩ | ⟨hc3_, h⟩
    · obtain ⟨rfl, rfl⟩ := ret_inj h
      exact f0
    · obtain ⟨rfl, rfl⟩ := ret_inj h
      exact f0
/-! frames of Gr_countWritten -/
def wo_Gr_countWritten : List (Nat × Nat) := [(37, 10)]
def he_Gr_countWritten_2 (q : (Dt)) : Dt := q
def hb_Gr_countWritten_2 (o : (Int × Dt) ⊕ ((Dt))) : Dt := match o with
  | .inl q => q.2
  | .inr r => he_Gr_countWritten_2 r
theorem fr_Gr_countWritten_y2 {o : (Int × Dt) ⊕ ((Dt))} (x1 : Int) (d : Dt) (hg : d GH 0 ≤ 6) (h : L_Gr_countWritten_y2 x1 d = some o) : Fr wo_Gr_countWritten [44, 45, 46, 47, 63] false d (hb_Gr_countWritten_2 o) := by
  have f0 : Fr wo_Gr_countWritten [44, 45, 46, 47, 63] false d d := Fr.rfl
  unfold L_Gr_countWritten_y2 at h
  rcases ite_some h with ⟨hc1_, h⟩ | ⟨hc1_, h⟩
  · obtain ⟨r3_, d2_, hr4_, h⟩ := bd_some h
    have fd2_ : Fr wo_Gr_countWritten [44, 45, 46, 47, 63] false d d2_ := Fr.tr f0 (fr_Bo_countJoined x1 d (Fr.g f0 hg) hr4_) (by decide) (by decide) (by decide)
    obtain ⟨hb6_, h⟩ := ck_some h
    obtain rfl := Option.some.inj h
    exact (Fr.upa fd2_ rfl (by decide))
  · obtain rfl := Option.some.inj h
    exact f0
theorem fr_Gr_countWritten_l2 {x : (Dt)} (x1 : Int) (d : Dt) (hg : d GH 0 ≤ 6) (h : L_Gr_countWritten_l2 x1 d = some x) : Fr wo_Gr_countWritten [44, 45, 46, 47, 63] false d (he_Gr_countWritten_2 x) :=
  lpF_fr (f := fun q : Int × Dt => L_Gr_countWritten_y2 q.1 q.2) (fun q => q.2) he_Gr_countWritten_2 (fun q x hq hx => ⟨fun q2 e2 => by subst e2; exact fr_Gr_countWritten_y2 q.1 q.2 hq hx, fun r2 e2 => by subst e2; exact fr_Gr_countWritten_y2 q.1 q.2 hq hx⟩) FU _ x hg h
theorem fr_Gr_countWritten {r : Int} {d' : Dt} (d : Dt) (hg : d GH 0 ≤ 6) (h : L_Gr_countWritten d = some (r, d')) : Fr wo_Gr_countWritten [44, 45, 46, 47, 63] false d d' := by
  have f0 : Fr wo_Gr_countWritten [44, 45, 46, 47, 63] false d d := Fr.rfl
  unfold L_Gr_countWritten at h
  obtain ⟨x7_, hx8_, h⟩ := lb_some h
  have fx7_ := Fr.tr0 f0 (fr_Gr_countWritten_l2 0 d (Fr.g f0 hg) hx8_)
  obtain ⟨d9_, rfl⟩ : ∃ z, z = x7_ := ⟨_, rfl⟩
  have fd9_ : Fr wo_Gr_countWritten [44, 45, 46, 47, 63] false d d9_ := fx7_
  replace h := u0_e h
  obtain ⟨rfl, rfl⟩ := ret_inj h
  exact fd9_
/-! frames of Po_offerSet -/
def wo_Po_offerSet : List (Nat × Nat) := []
theorem fr_Po_offerSet {r : Int} {d' : Dt} (p1 : Int) (d : Dt) (hg : d GH 0 ≤ 6) (h : L_Po_offerSet p1 d = some (r, d')) : Fr wo_Po_offerSet [] false d d' := by
  have f0 : Fr wo_Po_offerSet [] false d d := Fr.rfl
  unfold L_Po_offerSet at h
  obtain ⟨hb1_, h⟩ := ck_some h
  obtain ⟨rfl, rfl⟩ := ret_inj h
  exact f0
/-! frames of Gr_addGrounds -/
def wo_Gr_addGrounds : List (Nat × Nat) := [(37, 10)]
def he_Gr_addGrounds_16 (q : (Dt)) : Dt := q
def hb_Gr_addGrounds_16 (o : (Int × Int × Dt) ⊕ ((Dt))) : Dt := match o with
  | .inl q => q.2.2
  | .inr r => he_Gr_addGrounds_16 r
theorem fr_Gr_addGrounds_b92 {o : (Int × Int × Dt) ⊕ ((Dt))} (x1 x2 : Int) (d : Dt) (hg : d GH 0 ≤ 6) (h : L_Gr_addGrounds_b92 x1 x2 d = some o) : Fr wo_Gr_addGrounds [44, 45, 46, 47, 62] false d (hb_Gr_addGrounds_16 o) := by
  have f0 : Fr wo_Gr_addGrounds [44, 45, 46, 47, 62] false d d := Fr.rfl
  unfold L_Gr_addGrounds_b92 at h
  obtain rfl := Option.some.inj h
  exact f0
theorem fr_Gr_addGrounds_b89 {o : (Int × Int × Dt) ⊕ ((Dt))} (x1 x2 s1 s2 : Int) (d : Dt) (hg : d GH 0 ≤ 6) (h : L_Gr_addGrounds_b89 x1 x2 s1 s2 d = some o) : Fr wo_Gr_addGrounds [44, 45, 46, 47, 62] false d (hb_Gr_addGrounds_16 o) := by
  have f0 : Fr wo_Gr_addGrounds [44, 45, 46, 47, 62] false d d := Fr.rfl
  unfold L_Gr_addGrounds_b89 at h
  obtain ⟨r2_, d1_, hr3_, h⟩ := bd_some h
  have fd1_ : Fr wo_Gr_addGrounds [44, 45, 46, 47, 62] false d d1_ := Fr.tr f0 (fr_PB_addSet 62 4 s1 s2 d (Fr.g f0 hg) (by decide) hr3_) (by decide) (by decide) (by decide)
  exact Fr.tr0 fd1_ (fr_Gr_addGrounds_b92 x1 x2 d1_ (Fr.g fd1_ hg) h)
theorem fr_Gr_addGrounds_b67 {o : (Int × Int × Dt) ⊕ ((Dt))} (x1 x2 s0 : Int) (d : Dt) (hg : d GH 0 ≤ 6) (h : L_Gr_addGrounds_b67 x1 x2 s0 d = some o) : Fr wo_Gr_addGrounds [44, 45, 46, 47, 62] false d (hb_Gr_addGrounds_16 o) := by
  have f0 : Fr wo_Gr_addGrounds [44, 45, 46, 47, 62] false d d := Fr.rfl
  unfold L_Gr_addGrounds_b67 at h
  obtain ⟨hb5_, h⟩ := ck_some h
  rcases ite_some h with ⟨hc7_, h⟩ | ⟨hc7_, h⟩
  · exact Fr.tr0 f0 (fr_Gr_addGrounds_b89 x1 x2 s0 (-1) d (Fr.g f0 hg) h)
  · exact Fr.tr0 f0 (fr_Gr_addGrounds_b89 x1 x2 s0 1 d (Fr.g f0 hg) h)
theorem fr_Gr_addGrounds_y16 {o : (Int × Int × Dt) ⊕ ((Dt))} (x1 x2 : Int) (d : Dt) (hg : d GH 0 ≤ 6) (h : L_Gr_addGrounds_y16 x1 x2 d = some o) : Fr wo_Gr_addGrounds [44, 45, 46, 47, 62] false d (hb_Gr_addGrounds_16 o) := by
  have f0 : Fr wo_Gr_addGrounds [44, 45, 46, 47, 62] false d d := Fr.rfl
  unfold L_Gr_addGrounds_y16 at h
  rcases ite_some h with ⟨hc9_, h⟩ | ⟨hc9_, h⟩
  · rcases ite_some h with ⟨hc10_, h⟩ | ⟨hc10_, h⟩
    · exact Fr.tr0 f0 (fr_Gr_addGrounds_b92 x1 x2 d (Fr.g f0 hg) h)
    · obtain ⟨hb11_, h⟩ := ck_some h
      obtain ⟨v13_, ev14_, h⟩ := lt_some h
      obtain ⟨hb16_, h⟩ := ck_some h
      rcases ite_some h with ⟨hc18_, h⟩ | ⟨hc18_, h⟩
      · obtain ⟨r20_, d19_, hr21_, h⟩ := bd_some h
        have fd19_ : Fr wo_Gr_addGrounds [44, 45, 46, 47, 62] false d d19_ := Fr.tr f0 (fr_Bo_joinedSet v13_ d (Fr.g f0 hg) hr21_) (by decide) (by decide) (by decide)
        exact Fr.tr0 fd19_ (fr_Gr_addGrounds_b67 x1 x2 r20_ d19_ (Fr.g fd19_ hg) h)
      · obtain ⟨r24_, d23_, hr25_, h⟩ := bd_some h
        have fd23_ : Fr wo_Gr_addGrounds [44, 45, 46, 47, 62] false d d23_ := Fr.tr f0 (fr_Po_offerSet v13_ d (Fr.g f0 hg) hr25_) (by decide) (by decide) (by decide)
        exact Fr.tr0 fd23_ (fr_Gr_addGrounds_b67 x1 x2 r24_ d23_ (Fr.g fd23_ hg) h)
  · obtain rfl := Option.some.inj h
    exact f0
theorem fr_Gr_addGrounds_l16 {x : (Dt)} (x1 x2 : Int) (d : Dt) (hg : d GH 0 ≤ 6) (h : L_Gr_addGrounds_l16 x1 x2 d = some x) : Fr wo_Gr_addGrounds [44, 45, 46, 47, 62] false d (he_Gr_addGrounds_16 x) :=
  lpF_fr (f := fun q : Int × Int × Dt => L_Gr_addGrounds_y16 q.1 q.2.1 q.2.2) (fun q => q.2.2) he_Gr_addGrounds_16 (fun q x hq hx => ⟨fun q2 e2 => by subst e2; exact fr_Gr_addGrounds_y16 q.1 q.2.1 q.2.2 hq hx, fun r2 e2 => by subst e2; exact fr_Gr_addGrounds_y16 q.1 q.2.1 q.2.2 hq hx⟩) FU _ x hg h
theorem fr_Gr_addGrounds {r : Int} {d' : Dt} (p1 : Int) (d : Dt) (hg : d GH 0 ≤ 6) (h : L_Gr_addGrounds p1 d = some (r, d')) : Fr wo_Gr_addGrounds [44, 45, 46, 47, 62] false d d' := by
  have f0 : Fr wo_Gr_addGrounds [44, 45, 46, 47, 62] false d d := Fr.rfl
  unfold L_Gr_addGrounds at h
  obtain ⟨hb27_, h⟩ := ck_some h
  obtain ⟨x28_, hx29_, h⟩ := lb_some h
  have fx28_ := Fr.tr0 (Fr.cpa f0 rfl (by decide)) (fr_Gr_addGrounds_l16 p1 0 (cp2 d 63 0 62 0 4) (Fr.g (Fr.cpa f0 rfl (by decide)) hg) hx29_)
  obtain ⟨d30_, rfl⟩ : ∃ z, z = x28_ := ⟨_, rfl⟩
  have fd30_ : Fr wo_Gr_addGrounds [44, 45, 46, 47, 62] false d d30_ := fx28_
  replace h := u0_e h
  obtain ⟨rfl, rfl⟩ := ret_inj h
  exact fd30_
/-! frames of Gr_countWith -/
def wo_Gr_countWith : List (Nat × Nat) := [(37, 10)]
theorem fr_Gr_countWith {r : Int} {d' : Dt} (p1 : Int) (d : Dt) (hg : d GH 0 ≤ 6) (h : L_Gr_countWith p1 d = some (r, d')) : Fr wo_Gr_countWith [44, 45, 46, 47, 62, 63] false d d' := by
  have f0 : Fr wo_Gr_countWith [44, 45, 46, 47, 62, 63] false d d := Fr.rfl
  unfold L_Gr_countWith at h
  obtain ⟨r2_, d1_, hr3_, h⟩ := bd_some h
  have fd1_ : Fr wo_Gr_countWith [44, 45, 46, 47, 62, 63] false d d1_ := Fr.tr f0 (fr_Gr_countWritten  d (Fr.g f0 hg) hr3_) (by decide) (by decide) (by decide)
  obtain ⟨r6_, d5_, hr7_, h⟩ := bd_some h
  have fd5_ : Fr wo_Gr_countWith [44, 45, 46, 47, 62, 63] false d d5_ := Fr.tr fd1_ (fr_Gr_addGrounds p1 d1_ (Fr.g fd1_ hg) hr7_) (by decide) (by decide) (by decide)
  obtain ⟨rfl, rfl⟩ := ret_inj h
  exact fd5_
/-! frames of PB_written -/
def wo_PB_written : List (Nat × Nat) := [(0, 0), (37, 10)]
theorem fr_PB_written_b24 {r : Int} {d' : Dt} (x1 x2 s1 : Int) (d : Dt) (hg : d GH 0 ≤ 6) (h : L_PB_written_b24 x1 x2 s1 d = some (r, d')) : Fr wo_PB_written [44, 45, 46, 47, 62, 63] false d d' := by
  have f0 : Fr wo_PB_written [44, 45, 46, 47, 62, 63] false d d := Fr.rfl
  unfold L_PB_written_b24 at h
  rcases ite_some h with ⟨hc2_, h⟩ | ⟨hc2_, h⟩
  · obtain ⟨r4_, d3_, hr5_, h⟩ := bd_some h
    have fd3_ : Fr wo_PB_written [44, 45, 46, 47, 62, 63] false d d3_ := Fr.tr (Fr.upo f0 rfl (by decide)) (fr_Gr_countWith x2 (up2 d 0 0 s1) (Fr.g (Fr.upo f0 rfl (by decide)) hg) hr5_) (by decide) (by decide) (by decide)
    obtain ⟨he7_, hh8_⟩ := ck_some h
    subst he7_
    replace h := hh8_
    obtain ⟨hb9_, h⟩ := ck_some h
    obtain ⟨rfl, rfl⟩ := ret_inj h
    exact fd3_
  · obtain ⟨rfl, rfl⟩ := ret_inj h
    exact (Fr.upo f0 rfl (by decide))
theorem fr_PB_written {r : Int} {d' : Dt} (p1 p2 : Int) (d : Dt) (hg : d GH 0 ≤ 6) (h : L_PB_written p1 p2 d = some (r, d')) : Fr wo_PB_written [44, 45, 46, 47, 62, 63] false d d' := by
  have f0 : Fr wo_PB_written [44, 45, 46, 47, 62, 63] false d d := Fr.rfl
  unfold L_PB_written at h
  obtain ⟨r12_, d11_, hr13_, h⟩ := bd_some h
  have fd11_ : Fr wo_PB_written [44, 45, 46, 47, 62, 63] false d d11_ := Fr.tr f0 (fr_PB_isCandidate p1 d (Fr.g f0 hg) hr13_) (by decide) (by decide) (by decide)
  rcases ite_some h with ⟨hc15_, h⟩ | ⟨hc15_, h⟩
  · exact Fr.tr0 fd11_ (fr_PB_written_b24 p1 p2 1 d11_ (Fr.g fd11_ hg) h)
  · obtain ⟨r17_, d16_, hr18_, h⟩ := bd_some h
    have fd16_ : Fr wo_PB_written [44, 45, 46, 47, 62, 63] false d d16_ := Fr.tr fd11_ (fr_Gr_isSetOfThem p2 d11_ (Fr.g fd11_ hg) hr18_) (by decide) (by decide) (by decide)
    rcases ite_some h with ⟨hc20_, h⟩ | ⟨hc20_, h⟩
    · exact Fr.tr0 fd16_ (fr_PB_written_b24 p1 p2 1 d16_ (Fr.g fd16_ hg) h)
    · exact Fr.tr0 fd16_ (fr_PB_written_b24 p1 p2 0 d16_ (Fr.g fd16_ hg) h)
/-! frames of Gr_canAllBe -/
def wo_Gr_canAllBe : List (Nat × Nat) := []
def he_Gr_canAllBe_2 (r : (Dt) ⊕ (Dt)) : Dt := match r with
  | .inl q => q
  | .inr q => q
def hb_Gr_canAllBe_2 (o : (Int × Int × Dt) ⊕ ((Dt) ⊕ (Dt))) : Dt := match o with
  | .inl q => q.2.2
  | .inr r => he_Gr_canAllBe_2 r
theorem fr_Gr_canAllBe_b31 {o : (Int × Int × Dt) ⊕ ((Dt) ⊕ (Dt))} (x1 x2 : Int) (d : Dt) (hg : d GH 0 ≤ 6) (h : L_Gr_canAllBe_b31 x1 x2 d = some o) : Fr wo_Gr_canAllBe [] false d (hb_Gr_canAllBe_2 o) := by
  have f0 : Fr wo_Gr_canAllBe [] false d d := Fr.rfl
  unfold L_Gr_canAllBe_b31 at h
  obtain rfl := Option.some.inj h
  exact f0
theorem fr_Gr_canAllBe_y2 {o : (Int × Int × Dt) ⊕ ((Dt) ⊕ (Dt))} (x1 x2 : Int) (d : Dt) (hg : d GH 0 ≤ 6) (h : L_Gr_canAllBe_y2 x1 x2 d = some o) : Fr wo_Gr_canAllBe [] false d (hb_Gr_canAllBe_2 o) := by
  have f0 : Fr wo_Gr_canAllBe [] false d d := Fr.rfl
  unfold L_Gr_canAllBe_y2 at h
  rcases ite_some h with ⟨hc2_, h⟩ | ⟨hc2_, h⟩
  · rcases ite_some h with ⟨hc3_, h⟩ | ⟨hc3_, h⟩
    · exact Fr.tr0 f0 (fr_Gr_canAllBe_b31 x1 x2 d (Fr.g f0 hg) h)
    · obtain ⟨hb4_, h⟩ := ck_some h
      rcases ite_some h with ⟨hc6_, h⟩ | ⟨hc6_, h⟩
      · exact Fr.tr0 f0 (fr_Gr_canAllBe_b31 x1 x2 d (Fr.g f0 hg) h)
      · obtain rfl := Option.some.inj h
        exact f0
  · obtain rfl := Option.some.inj h
    exact f0
theorem fr_Gr_canAllBe_l2 {x : (Dt) ⊕ (Dt)} (x1 x2 : Int) (d : Dt) (hg : d GH 0 ≤ 6) (h : L_Gr_canAllBe_l2 x1 x2 d = some x) : Fr wo_Gr_canAllBe [] false d (he_Gr_canAllBe_2 x) :=
  lpF_fr (f := fun q : Int × Int × Dt => L_Gr_canAllBe_y2 q.1 q.2.1 q.2.2) (fun q => q.2.2) he_Gr_canAllBe_2 (fun q x hq hx => ⟨fun q2 e2 => by subst e2; exact fr_Gr_canAllBe_y2 q.1 q.2.1 q.2.2 hq hx, fun r2 e2 => by subst e2; exact fr_Gr_canAllBe_y2 q.1 q.2.1 q.2.2 hq hx⟩) FU _ x hg h
theorem fr_Gr_canAllBe {r : Int} {d' : Dt} (p1 : Int) (d : Dt) (hg : d GH 0 ≤ 6) (h : L_Gr_canAllBe p1 d = some (r, d')) : Fr wo_Gr_canAllBe [] false d d' := by
  have f0 : Fr wo_Gr_canAllBe [] false d d := Fr.rfl
  unfold L_Gr_canAllBe at h
  obtain ⟨x7_, hx8_, h⟩ := lb_some h
  have fx7_ := Fr.tr0 f0 (fr_Gr_canAllBe_l2 p1 0 d (Fr.g f0 hg) hx8_)
  rcases x7_ with d9_ | d11_
  · have fd9_ : Fr wo_Gr_canAllBe [] false d d9_ := fx7_
    replace h := sml_e h
    replace h := u0_e h
    obtain ⟨rfl, rfl⟩ := ret_inj h
    exact fd9_
  · have fd11_ : Fr wo_Gr_canAllBe [] false d d11_ := fx7_
    replace h := smr_e h
    replace h := u0_e h
    obtain ⟨rfl, rfl⟩ := ret_inj h
    exact fd11_
/-! frames of Gr_seats -/
def wo_Gr_seats : List (Nat × Nat) := [(37, 10)]
theorem fr_Gr_seats {r : Int} {d' : Dt} (p1 p2 : Int) (d : Dt) (hg : d GH 0 ≤ 6) (h : L_Gr_seats p1 p2 d = some (r, d')) : Fr wo_Gr_seats [44, 45, 46, 47, 62] false d d' := by
  have f0 : Fr wo_Gr_seats [44, 45, 46, 47, 62] false d d := Fr.rfl
  unfold L_Gr_seats at h
  obtain ⟨r2_, d1_, hr3_, h⟩ := bd_some h
  have fd1_ : Fr wo_Gr_seats [44, 45, 46, 47, 62] false d d1_ := Fr.tr f0 (fr_Gr_addGrounds p2 d (Fr.g f0 hg) hr3_) (by decide) (by decide) (by decide)
  obtain ⟨r6_, d5_, hr7_, h⟩ := bd_some h
  have fd5_ : Fr wo_Gr_seats [44, 45, 46, 47, 62] false d d5_ := Fr.tr fd1_ (fr_PB_rankOf 62 4 p1 d1_ (Fr.g fd1_ hg) (by decide) hr7_) (by decide) (by decide) (by decide)
  rcases ite_some h with ⟨hc9_, h⟩ | ⟨hc9_, h⟩
  · obtain ⟨rfl, rfl⟩ := ret_inj h
    exact fd5_
  · obtain ⟨rfl, rfl⟩ := ret_inj h
    exact fd5_
/-! frames of Gr_search -/
def wo_Gr_search : List (Nat × Nat) := [(37, 10), (58, 8), (58, 9), (58, 10)]
def he_Gr_search_12 (q : (Dt)) : Dt := q
def hb_Gr_search_12 (o : (Int × Int × Dt) ⊕ ((Dt))) : Dt := match o with
  | .inl q => q.2.2
  | .inr r => he_Gr_search_12 r
theorem fr_Gr_search_b85 {o : (Int × Int × Dt) ⊕ ((Dt))} (x1 x2 : Int) (d : Dt) (hg : d GH 0 ≤ 6) (h : L_Gr_search_b85 x1 x2 d = some o) : Fr wo_Gr_search [44, 45, 46, 47, 62, 63] false d (hb_Gr_search_12 o) := by
  have f0 : Fr wo_Gr_search [44, 45, 46, 47, 62, 63] false d d := Fr.rfl
  unfold L_Gr_search_b85 at h
  obtain rfl := Option.some.inj h
  exact f0
theorem fr_Gr_search_b75 {o : (Int × Int × Dt) ⊕ ((Dt))} (x1 x2 : Int) (d : Dt) (hg : d GH 0 ≤ 6) (h : L_Gr_search_b75 x1 x2 d = some o) : Fr wo_Gr_search [44, 45, 46, 47, 62, 63] false d (hb_Gr_search_12 o) := by
  have f0 : Fr wo_Gr_search [44, 45, 46, 47, 62, 63] false d d := Fr.rfl
  unfold L_Gr_search_b75 at h
  exact Fr.tr0 (Fr.upo f0 rfl (by decide)) (fr_Gr_search_b85 x1 x2 (up2 d 58 9 (w32 ((d 58 9) + 1))) (Fr.g (Fr.upo f0 rfl (by decide)) hg) h)
theorem fr_Gr_search_y12 {o : (Int × Int × Dt) ⊕ ((Dt))} (x1 x2 : Int) (d : Dt) (hg : d GH 0 ≤ 6) (h : L_Gr_search_y12 x1 x2 d = some o) : Fr wo_Gr_search [44, 45, 46, 47, 62, 63] false d (hb_Gr_search_12 o) := by
  have f0 : Fr wo_Gr_search [44, 45, 46, 47, 62, 63] false d d := Fr.rfl
  unfold L_Gr_search_y12 at h
  rcases ite_some h with ⟨hc3_, h⟩ | ⟨hc3_, h⟩
  · obtain ⟨r5_, d4_, hr6_, h⟩ := bd_some h
    have fd4_ : Fr wo_Gr_search [44, 45, 46, 47, 62, 63] false d d4_ := Fr.tr f0 (fr_In_bitCount x2 d (Fr.g f0 hg) hr6_) (by decide) (by decide) (by decide)
    rcases ite_some h with ⟨hc9_, h⟩ | ⟨hc9_, h⟩
    · exact Fr.tr0 fd4_ (fr_Gr_search_b85 x1 x2 d4_ (Fr.g fd4_ hg) h)
    · obtain ⟨r11_, d10_, hr12_, h⟩ := bd_some h
      have fd10_ : Fr wo_Gr_search [44, 45, 46, 47, 62, 63] false d d10_ := Fr.tr fd4_ (fr_Gr_canAllBe x2 d4_ (Fr.g fd4_ hg) hr12_) (by decide) (by decide) (by decide)
      rcases ite_some h with ⟨hc14_, h⟩ | ⟨hc14_, h⟩
      · exact Fr.tr0 fd10_ (fr_Gr_search_b85 x1 x2 d10_ (Fr.g fd10_ hg) h)
      · obtain ⟨r16_, d15_, hr17_, h⟩ := bd_some h
        have fd15_ : Fr wo_Gr_search [44, 45, 46, 47, 62, 63] false d d15_ := Fr.tr fd10_ (fr_Gr_seats x1 x2 d10_ (Fr.g fd10_ hg) hr17_) (by decide) (by decide) (by decide)
        rcases ite_some h with ⟨hc19_, h⟩ | ⟨hc19_, h⟩
        · exact Fr.tr0 fd15_ (fr_Gr_search_b85 x1 x2 d15_ (Fr.g fd15_ hg) h)
        · rcases ite_some h with ⟨hc21_, h⟩ | ⟨hc21_, h⟩
          · exact Fr.tr0 (Fr.upo (Fr.upo (Fr.upo fd15_ rfl (by decide)) rfl (by decide)) rfl (by decide)) (fr_Gr_search_b75 x1 x2 (up2 (up2 (up2 d15_ 58 8 r5_) 58 9 0) 58 10 x2) (Fr.g (Fr.upo (Fr.upo (Fr.upo fd15_ rfl (by decide)) rfl (by decide)) rfl (by decide)) hg) h)
          · exact Fr.tr0 fd15_ (fr_Gr_search_b75 x1 x2 d15_ (Fr.g fd15_ hg) h)
  · obtain rfl := Option.some.inj h
    exact f0
theorem fr_Gr_search_l12 {x : (Dt)} (x1 x2 : Int) (d : Dt) (hg : d GH 0 ≤ 6) (h : L_Gr_search_l12 x1 x2 d = some x) : Fr wo_Gr_search [44, 45, 46, 47, 62, 63] false d (he_Gr_search_12 x) :=
  lpF_fr (f := fun q : Int × Int × Dt => L_Gr_search_y12 q.1 q.2.1 q.2.2) (fun q => q.2.2) he_Gr_search_12 (fun q x hq hx => ⟨fun q2 e2 => by subst e2; exact fr_Gr_search_y12 q.1 q.2.1 q.2.2 hq hx, fun r2 e2 => by subst e2; exact fr_Gr_search_y12 q.1 q.2.1 q.2.2 hq hx⟩) FU _ x hg h
theorem fr_Gr_search {r : Int} {d' : Dt} (p1 : Int) (d : Dt) (hg : d GH 0 ≤ 6) (h : L_Gr_search p1 d = some (r, d')) : Fr wo_Gr_search [44, 45, 46, 47, 62, 63] false d d' := by
  have f0 : Fr wo_Gr_search [44, 45, 46, 47, 62, 63] false d d := Fr.rfl
  unfold L_Gr_search at h
  obtain ⟨r23_, d22_, hr24_, h⟩ := bd_some h
  have fd22_ : Fr wo_Gr_search [44, 45, 46, 47, 62, 63] false d d22_ := Fr.tr f0 (fr_Gr_countWritten  d (Fr.g f0 hg) hr24_) (by decide) (by decide) (by decide)
  obtain ⟨x26_, hx27_, h⟩ := lb_some h
  have fx26_ := Fr.tr0 (Fr.upo fd22_ rfl (by decide)) (fr_Gr_search_l12 p1 0 (up2 d22_ 58 8 11) (Fr.g (Fr.upo fd22_ rfl (by decide)) hg) hx27_)
  obtain ⟨d28_, rfl⟩ : ∃ z, z = x26_ := ⟨_, rfl⟩
  have fd28_ : Fr wo_Gr_search [44, 45, 46, 47, 62, 63] false d d28_ := fx26_
  replace h := u0_e h
  rcases ite_some h with ⟨hc31_, h⟩ | ⟨hc31_, h⟩
  · obtain ⟨rfl, rfl⟩ := ret_inj h
    exact fd28_
  · obtain ⟨rfl, rfl⟩ := ret_inj h
    exact fd28_
/-! frames of Gr_fewest -/
def wo_Gr_fewest : List (Nat × Nat) := []
theorem fr_Gr_fewest {r : Int} {d' : Dt} (d : Dt) (hg : d GH 0 ≤ 6) (h : L_Gr_fewest d = some (r, d')) : Fr wo_Gr_fewest [] false d d' := by
  have f0 : Fr wo_Gr_fewest [] false d d := Fr.rfl
  unfold L_Gr_fewest at h
  obtain ⟨rfl, rfl⟩ := ret_inj h
  exact f0
/-! frames of Gr_rivals -/
def wo_Gr_rivals : List (Nat × Nat) := []
theorem fr_Gr_rivals {r : Int} {d' : Dt} (d : Dt) (hg : d GH 0 ≤ 6) (h : L_Gr_rivals d = some (r, d')) : Fr wo_Gr_rivals [] false d d' := by
  have f0 : Fr wo_Gr_rivals [] false d d := Fr.rfl
  unfold L_Gr_rivals at h
  obtain ⟨rfl, rfl⟩ := ret_inj h
  exact f0
/-! frames of Gr_first -/
def wo_Gr_first : List (Nat × Nat) := []
theorem fr_Gr_first {r : Int} {d' : Dt} (d : Dt) (hg : d GH 0 ≤ 6) (h : L_Gr_first d = some (r, d')) : Fr wo_Gr_first [] false d d' := by
  have f0 : Fr wo_Gr_first [] false d d := Fr.rfl
  unfold L_Gr_first at h
  obtain ⟨rfl, rfl⟩ := ret_inj h
  exact f0
/-! frames of PB_turns -/
def wo_PB_turns : List (Nat × Nat) := [(0, 0), (37, 10), (58, 8), (58, 9), (58, 10)]
theorem fr_PB_turns_b67 {r : Int} {d' : Dt} (x2 s1 : Int) (d : Dt) (hg : d GH 0 ≤ 6) (h : L_PB_turns_b67 x2 s1 d = some (r, d')) : Fr wo_PB_turns [44, 45, 46, 47, 62, 63] false d d' := by
  have f0 : Fr wo_PB_turns [44, 45, 46, 47, 62, 63] false d d := Fr.rfl
  unfold L_PB_turns_b67 at h
  rcases ite_some h with ⟨hc2_, h⟩ | ⟨hc2_, h⟩
  · rcases ite_some h with ⟨hc3_, h⟩ | ⟨hc3_, h⟩
    · obtain ⟨r5_, d4_, hr6_, h⟩ := bd_some h
      have fd4_ : Fr wo_PB_turns [44, 45, 46, 47, 62, 63] false d d4_ := Fr.tr (Fr.upo f0 rfl (by decide)) (fr_Gr_fewest  (up2 d 0 0 s1) (Fr.g (Fr.upo f0 rfl (by decide)) hg) hr6_) (by decide) (by decide) (by decide)
      obtain ⟨rfl, rfl⟩ := ret_inj h
      exact fd4_
    · rcases ite_some h with ⟨hc8_, h⟩ | ⟨hc8_, h⟩
      · obtain ⟨r10_, d9_, hr11_, h⟩ := bd_some h
        have fd9_ : Fr wo_PB_turns [44, 45, 46, 47, 62, 63] false d d9_ := Fr.tr (Fr.upo f0 rfl (by decide)) (fr_Gr_rivals  (up2 d 0 0 s1) (Fr.g (Fr.upo f0 rfl (by decide)) hg) hr11_) (by decide) (by decide) (by decide)
        obtain ⟨rfl, rfl⟩ := ret_inj h
        exact fd9_
      · obtain ⟨r14_, d13_, hr15_, h⟩ := bd_some h
        have fd13_ : Fr wo_PB_turns [44, 45, 46, 47, 62, 63] false d d13_ := Fr.tr (Fr.upo f0 rfl (by decide)) (fr_Gr_first  (up2 d 0 0 s1) (Fr.g (Fr.upo f0 rfl (by decide)) hg) hr15_) (by decide) (by decide) (by decide)
        obtain ⟨rfl, rfl⟩ := ret_inj h
        exact fd13_
  · obtain ⟨rfl, rfl⟩ := ret_inj h
    exact (Fr.upo f0 rfl (by decide))
theorem fr_PB_turns_b45 {r : Int} {d' : Dt} (x2 x3 s0 : Int) (d : Dt) (hg : d GH 0 ≤ 6) (h : L_PB_turns_b45 x2 x3 s0 d = some (r, d')) : Fr wo_PB_turns [44, 45, 46, 47, 62, 63] false d d' := by
  have f0 : Fr wo_PB_turns [44, 45, 46, 47, 62, 63] false d d := Fr.rfl
  unfold L_PB_turns_b45 at h
  rcases ite_some h with ⟨hc17_, h⟩ | ⟨hc17_, h⟩
  · exact Fr.tr0 f0 (fr_PB_turns_b67 x2 1 d (Fr.g f0 hg) h)
  · rcases ite_some h with ⟨hc18_, h⟩ | ⟨hc18_, h⟩
    · exact Fr.tr0 f0 (fr_PB_turns_b67 x2 6 d (Fr.g f0 hg) h)
    · exact Fr.tr0 f0 (fr_PB_turns_b67 x2 0 d (Fr.g f0 hg) h)
theorem fr_PB_turns_b24 {r : Int} {d' : Dt} (x1 x2 s0 : Int) (d : Dt) (hg : d GH 0 ≤ 6) (h : L_PB_turns_b24 x1 x2 s0 d = some (r, d')) : Fr wo_PB_turns [44, 45, 46, 47, 62, 63] false d d' := by
  have f0 : Fr wo_PB_turns [44, 45, 46, 47, 62, 63] false d d := Fr.rfl
  unfold L_PB_turns_b24 at h
  rcases ite_some h with ⟨hc19_, h⟩ | ⟨hc19_, h⟩
  · exact Fr.tr0 f0 (fr_PB_turns_b45 x2 s0 0 d (Fr.g f0 hg) h)
  · obtain ⟨r21_, d20_, hr22_, h⟩ := bd_some h
    have fd20_ : Fr wo_PB_turns [44, 45, 46, 47, 62, 63] false d d20_ := Fr.tr f0 (fr_Gr_search x1 d (Fr.g f0 hg) hr22_) (by decide) (by decide) (by decide)
    rcases ite_some h with ⟨hc24_, h⟩ | ⟨hc24_, h⟩
    · exact Fr.tr0 fd20_ (fr_PB_turns_b45 x2 s0 0 d20_ (Fr.g fd20_ hg) h)
    · exact Fr.tr0 fd20_ (fr_PB_turns_b45 x2 s0 1 d20_ (Fr.g fd20_ hg) h)
theorem fr_PB_turns {r : Int} {d' : Dt} (p1 p2 : Int) (d : Dt) (hg : d GH 0 ≤ 6) (h : L_PB_turns p1 p2 d = some (r, d')) : Fr wo_PB_turns [44, 45, 46, 47, 62, 63] false d d' := by
  have f0 : Fr wo_PB_turns [44, 45, 46, 47, 62, 63] false d d := Fr.rfl
  unfold L_PB_turns at h
  obtain ⟨r26_, d25_, hr27_, h⟩ := bd_some h
  have fd25_ : Fr wo_PB_turns [44, 45, 46, 47, 62, 63] false d d25_ := Fr.tr f0 (fr_PB_isCandidate p1 d (Fr.g f0 hg) hr27_) (by decide) (by decide) (by decide)
  rcases ite_some h with ⟨hc29_, h⟩ | ⟨hc29_, h⟩
  · exact Fr.tr0 fd25_ (fr_PB_turns_b24 p1 p2 0 d25_ (Fr.g fd25_ hg) h)
  · obtain ⟨r31_, d30_, hr32_, h⟩ := bd_some h
    have fd30_ : Fr wo_PB_turns [44, 45, 46, 47, 62, 63] false d d30_ := Fr.tr fd25_ (fr_PB_within p2 0 2 d25_ (Fr.g fd25_ hg) hr32_) (by decide) (by decide) (by decide)
    rcases ite_some h with ⟨hc34_, h⟩ | ⟨hc34_, h⟩
    · exact Fr.tr0 fd30_ (fr_PB_turns_b24 p1 p2 0 d30_ (Fr.g fd30_ hg) h)
    · exact Fr.tr0 fd30_ (fr_PB_turns_b24 p1 p2 1 d30_ (Fr.g fd30_ hg) h)
/-! frames of Ju_isFull -/
def wo_Ju_isFull : List (Nat × Nat) := []
theorem fr_Ju_isFull {r : Int} {d' : Dt} (d : Dt) (hg : d GH 0 ≤ 6) (h : L_Ju_isFull d = some (r, d')) : Fr wo_Ju_isFull [] false d d' := by
  have f0 : Fr wo_Ju_isFull [] false d d := Fr.rfl
  unfold L_Ju_isFull at h
  rcases ite_some h with ⟨hc2_, h⟩ | ⟨hc2_, h⟩
  · obtain ⟨rfl, rfl⟩ := ret_inj h
    exact f0
  · obtain ⟨rfl, rfl⟩ := ret_inj h
    exact f0
/-! frames of Ju_add -/
def wo_Ju_add : List (Nat × Nat) := [(64, 2)]
theorem fr_Ju_add {r : Int} {d' : Dt} (p1 p2 : Int) (d : Dt) (hg : d GH 0 ≤ 6) (h : L_Ju_add p1 p2 d = some (r, d')) : Fr wo_Ju_add [65, 66] false d d' := by
  have f0 : Fr wo_Ju_add [65, 66] false d d := Fr.rfl
  unfold L_Ju_add at h
  obtain ⟨hb2_, h⟩ := ck_some h
  obtain ⟨hb4_, h⟩ := ck_some h
  obtain ⟨rfl, rfl⟩ := ret_inj h
  exact (Fr.upo (Fr.upa (Fr.upa f0 rfl (by decide)) rfl (by decide)) rfl (by decide))
/-! frames of PB_member -/
def wo_PB_member : List (Nat × Nat) := [(0, 0), (64, 2)]
theorem fr_PB_member_b56 {r : Int} {d' : Dt} (x1 x2 s1 : Int) (d : Dt) (hg : d GH 0 ≤ 6) (h : L_PB_member_b56 x1 x2 s1 d = some (r, d')) : Fr wo_PB_member [65, 66] false d d' := by
  have f0 : Fr wo_PB_member [65, 66] false d d := Fr.rfl
  unfold L_PB_member_b56 at h
  rcases ite_some h with ⟨hc2_, h⟩ | ⟨hc2_, h⟩
  · obtain ⟨r4_, d3_, hr5_, h⟩ := bd_some h
    have fd3_ : Fr wo_PB_member [65, 66] false d d3_ := Fr.tr (Fr.upo f0 rfl (by decide)) (fr_Ju_add x1 x2 (up2 d 0 0 s1) (Fr.g (Fr.upo f0 rfl (by decide)) hg) hr5_) (by decide) (by decide) (by decide)
    obtain ⟨rfl, rfl⟩ := ret_inj h
    exact fd3_
  · obtain ⟨rfl, rfl⟩ := ret_inj h
    exact (Fr.upo f0 rfl (by decide))
theorem fr_PB_member_b31 {r : Int} {d' : Dt} (x1 x2 s0 : Int) (d : Dt) (hg : d GH 0 ≤ 6) (h : L_PB_member_b31 x1 x2 s0 d = some (r, d')) : Fr wo_PB_member [65, 66] false d d' := by
  have f0 : Fr wo_PB_member [65, 66] false d d := Fr.rfl
  unfold L_PB_member_b31 at h
  rcases ite_some h with ⟨hc7_, h⟩ | ⟨hc7_, h⟩
  · exact Fr.tr0 f0 (fr_PB_member_b56 x1 x2 1 d (Fr.g f0 hg) h)
  · obtain ⟨r9_, d8_, hr10_, h⟩ := bd_some h
    have fd8_ : Fr wo_PB_member [65, 66] false d d8_ := Fr.tr f0 (fr_Ju_isFull  d (Fr.g f0 hg) hr10_) (by decide) (by decide) (by decide)
    rcases ite_some h with ⟨hc12_, h⟩ | ⟨hc12_, h⟩
    · exact Fr.tr0 fd8_ (fr_PB_member_b56 x1 x2 0 d8_ (Fr.g fd8_ hg) h)
    · exact Fr.tr0 fd8_ (fr_PB_member_b56 x1 x2 4 d8_ (Fr.g fd8_ hg) h)
theorem fr_PB_member {r : Int} {d' : Dt} (p1 p2 : Int) (d : Dt) (hg : d GH 0 ≤ 6) (h : L_PB_member p1 p2 d = some (r, d')) : Fr wo_PB_member [65, 66] false d d' := by
  have f0 : Fr wo_PB_member [65, 66] false d d := Fr.rfl
  unfold L_PB_member at h
  obtain ⟨r14_, d13_, hr15_, h⟩ := bd_some h
  have fd13_ : Fr wo_PB_member [65, 66] false d d13_ := Fr.tr f0 (fr_PB_within p1 (-9) 9 d (Fr.g f0 hg) hr15_) (by decide) (by decide) (by decide)
  rcases ite_some h with ⟨hc17_, h⟩ | ⟨hc17_, h⟩
  · exact Fr.tr0 fd13_ (fr_PB_member_b31 p1 p2 0 d13_ (Fr.g fd13_ hg) h)
  · obtain ⟨r19_, d18_, hr20_, h⟩ := bd_some h
    have fd18_ : Fr wo_PB_member [65, 66] false d d18_ := Fr.tr fd13_ (fr_PB_within p2 0 20 d13_ (Fr.g fd13_ hg) hr20_) (by decide) (by decide) (by decide)
    rcases ite_some h with ⟨hc22_, h⟩ | ⟨hc22_, h⟩
    · exact Fr.tr0 fd18_ (fr_PB_member_b31 p1 p2 0 d18_ (Fr.g fd18_ hg) h)
    · exact Fr.tr0 fd18_ (fr_PB_member_b31 p1 p2 1 d18_ (Fr.g fd18_ hg) h)
/-! frames of Ju_tellKin -/
def wo_Ju_tellKin : List (Nat × Nat) := []
theorem fr_Ju_tellKin {r : Int} {d' : Dt} (p1 p2 : Int) (d : Dt) (hg : d GH 0 ≤ 6) (h : L_Ju_tellKin p1 p2 d = some (r, d')) : Fr wo_Ju_tellKin [67] false d d' := by
  have f0 : Fr wo_Ju_tellKin [67] false d d := Fr.rfl
  unfold L_Ju_tellKin at h
  obtain ⟨hb1_, h⟩ := ck_some h
  obtain ⟨rfl, rfl⟩ := ret_inj h
  exact (Fr.upa f0 rfl (by decide))
/-! frames of PB_kin -/
def wo_PB_kin : List (Nat × Nat) := [(0, 0)]
theorem fr_PB_kin_b44 {r : Int} {d' : Dt} (d : Dt) (hg : d GH 0 ≤ 6) (h : L_PB_kin_b44 d = some (r, d')) : Fr wo_PB_kin [67] false d d' := by
  have f0 : Fr wo_PB_kin [67] false d d := Fr.rfl
  unfold L_PB_kin_b44 at h
  rcases ite_some h with ⟨hc2_, h⟩ | ⟨hc2_, h⟩
  · obtain ⟨rfl, rfl⟩ := ret_inj h
    exact f0
  · obtain ⟨rfl, rfl⟩ := ret_inj h
    exact f0
theorem fr_PB_kin_b25 {r : Int} {d' : Dt} (x1 x2 s1 : Int) (d : Dt) (hg : d GH 0 ≤ 6) (h : L_PB_kin_b25 x1 x2 s1 d = some (r, d')) : Fr wo_PB_kin [67] false d d' := by
  have f0 : Fr wo_PB_kin [67] false d d := Fr.rfl
  unfold L_PB_kin_b25 at h
  rcases ite_some h with ⟨hc4_, h⟩ | ⟨hc4_, h⟩
  · obtain ⟨r6_, d5_, hr7_, h⟩ := bd_some h
    have fd5_ : Fr wo_PB_kin [67] false d d5_ := Fr.tr (Fr.upo f0 rfl (by decide)) (fr_Ju_tellKin x1 x2 (up2 d 0 0 s1) (Fr.g (Fr.upo f0 rfl (by decide)) hg) hr7_) (by decide) (by decide) (by decide)
    exact Fr.tr0 fd5_ (fr_PB_kin_b44  d5_ (Fr.g fd5_ hg) h)
  · exact Fr.tr0 (Fr.upo f0 rfl (by decide)) (fr_PB_kin_b44  (up2 d 0 0 s1) (Fr.g (Fr.upo f0 rfl (by decide)) hg) h)
theorem fr_PB_kin {r : Int} {d' : Dt} (p1 p2 : Int) (d : Dt) (hg : d GH 0 ≤ 6) (h : L_PB_kin p1 p2 d = some (r, d')) : Fr wo_PB_kin [67] false d d' := by
  have f0 : Fr wo_PB_kin [67] false d d := Fr.rfl
  unfold L_PB_kin at h
  obtain ⟨r10_, d9_, hr11_, h⟩ := bd_some h
  have fd9_ : Fr wo_PB_kin [67] false d d9_ := Fr.tr f0 (fr_PB_isCandidate p1 d (Fr.g f0 hg) hr11_) (by decide) (by decide) (by decide)
  rcases ite_some h with ⟨hc13_, h⟩ | ⟨hc13_, h⟩
  · exact Fr.tr0 fd9_ (fr_PB_kin_b25 p1 p2 1 d9_ (Fr.g fd9_ hg) h)
  · obtain ⟨r15_, d14_, hr16_, h⟩ := bd_some h
    have fd14_ : Fr wo_PB_kin [67] false d d14_ := Fr.tr fd9_ (fr_PB_within p2 0 20 d9_ (Fr.g fd9_ hg) hr16_) (by decide) (by decide) (by decide)
    rcases ite_some h with ⟨hc18_, h⟩ | ⟨hc18_, h⟩
    · exact Fr.tr0 fd14_ (fr_PB_kin_b25 p1 p2 1 d14_ (Fr.g fd14_ hg) h)
    · exact Fr.tr0 fd14_ (fr_PB_kin_b25 p1 p2 0 d14_ (Fr.g fd14_ hg) h)
/-! frames of Ju_isKin -/
def wo_Ju_isKin : List (Nat × Nat) := []
def he_Ju_isKin_2 (r : (Dt) ⊕ (Dt)) : Dt := match r with
  | .inl q => q
  | .inr q => q
def hb_Ju_isKin_2 (o : (Int × Int × Dt) ⊕ ((Dt) ⊕ (Dt))) : Dt := match o with
  | .inl q => q.2.2
  | .inr r => he_Ju_isKin_2 r
theorem fr_Ju_isKin_b23 {o : (Int × Int × Dt) ⊕ ((Dt) ⊕ (Dt))} (x1 x2 : Int) (d : Dt) (hg : d GH 0 ≤ 6) (h : L_Ju_isKin_b23 x1 x2 d = some o) : Fr wo_Ju_isKin [] false d (hb_Ju_isKin_2 o) := by
  have f0 : Fr wo_Ju_isKin [] false d d := Fr.rfl
  unfold L_Ju_isKin_b23 at h
  obtain rfl := Option.some.inj h
  exact f0
theorem fr_Ju_isKin_y2 {o : (Int × Int × Dt) ⊕ ((Dt) ⊕ (Dt))} (x1 x2 : Int) (d : Dt) (hg : d GH 0 ≤ 6) (h : L_Ju_isKin_y2 x1 x2 d = some o) : Fr wo_Ju_isKin [] false d (hb_Ju_isKin_2 o) := by
  have f0 : Fr wo_Ju_isKin [] false d d := Fr.rfl
  unfold L_Ju_isKin_y2 at h
  rcases ite_some h with ⟨hc1_, h⟩ | ⟨hc1_, h⟩
  · rcases ite_some h with ⟨hc2_, h⟩ | ⟨hc2_, h⟩
    · exact Fr.tr0 f0 (fr_Ju_isKin_b23 x1 x2 d (Fr.g f0 hg) h)
    · obtain ⟨hb3_, h⟩ := ck_some h
      rcases ite_some h with ⟨hc5_, h⟩ | ⟨hc5_, h⟩
      · obtain rfl := Option.some.inj h
        exact f0
      · exact Fr.tr0 f0 (fr_Ju_isKin_b23 x1 x2 d (Fr.g f0 hg) h)
  · obtain rfl := Option.some.inj h
    exact f0
theorem fr_Ju_isKin_l2 {x : (Dt) ⊕ (Dt)} (x1 x2 : Int) (d : Dt) (hg : d GH 0 ≤ 6) (h : L_Ju_isKin_l2 x1 x2 d = some x) : Fr wo_Ju_isKin [] false d (he_Ju_isKin_2 x) :=
  lpF_fr (f := fun q : Int × Int × Dt => L_Ju_isKin_y2 q.1 q.2.1 q.2.2) (fun q => q.2.2) he_Ju_isKin_2 (fun q x hq hx => ⟨fun q2 e2 => by subst e2; exact fr_Ju_isKin_y2 q.1 q.2.1 q.2.2 hq hx, fun r2 e2 => by subst e2; exact fr_Ju_isKin_y2 q.1 q.2.1 q.2.2 hq hx⟩) FU _ x hg h
theorem fr_Ju_isKin {r : Int} {d' : Dt} (p1 : Int) (d : Dt) (hg : d GH 0 ≤ 6) (h : L_Ju_isKin p1 d = some (r, d')) : Fr wo_Ju_isKin [] false d d' := by
  have f0 : Fr wo_Ju_isKin [] false d d := Fr.rfl
  unfold L_Ju_isKin at h
  obtain ⟨x6_, hx7_, h⟩ := lb_some h
  have fx6_ := Fr.tr0 f0 (fr_Ju_isKin_l2 p1 0 d (Fr.g f0 hg) hx7_)
  rcases x6_ with d8_ | d10_
  · have fd8_ : Fr wo_Ju_isKin [] false d d8_ := fx6_
    replace h := sml_e h
    replace h := u0_e h
    obtain ⟨rfl, rfl⟩ := ret_inj h
    exact fd8_
  · have fd10_ : Fr wo_Ju_isKin [] false d d10_ := fx6_
    replace h := smr_e h
    replace h := u0_e h
    obtain ⟨rfl, rfl⟩ := ret_inj h
    exact fd10_
/-! frames of Ju_fillPool -/
def wo_Ju_fillPool : List (Nat × Nat) := []
def he_Ju_fillPool_4 (q : (Int × Dt)) : Dt := q.2
def hb_Ju_fillPool_4 (o : (Int × Int × Dt) ⊕ ((Int × Dt))) : Dt := match o with
  | .inl q => q.2.2
  | .inr r => he_Ju_fillPool_4 r
theorem fr_Ju_fillPool_b35 {o : (Int × Int × Dt) ⊕ ((Int × Dt))} (x1 x2 : Int) (d : Dt) (hg : d GH 0 ≤ 6) (h : L_Ju_fillPool_b35 x1 x2 d = some o) : Fr wo_Ju_fillPool [68] false d (hb_Ju_fillPool_4 o) := by
  have f0 : Fr wo_Ju_fillPool [68] false d d := Fr.rfl
  unfold L_Ju_fillPool_b35 at h
  obtain rfl := Option.some.inj h
  exact f0
theorem fr_Ju_fillPool_y4 {o : (Int × Int × Dt) ⊕ ((Int × Dt))} (x1 x2 : Int) (d : Dt) (hg : d GH 0 ≤ 6) (h : L_Ju_fillPool_y4 x1 x2 d = some o) : Fr wo_Ju_fillPool [68] false d (hb_Ju_fillPool_4 o) := by
  have f0 : Fr wo_Ju_fillPool [68] false d d := Fr.rfl
  unfold L_Ju_fillPool_y4 at h
  rcases ite_some h with ⟨hc2_, h⟩ | ⟨hc2_, h⟩
  · obtain ⟨hb3_, h⟩ := ck_some h
    obtain ⟨r6_, d5_, hr7_, h⟩ := bd_some h
    have fd5_ : Fr wo_Ju_fillPool [68] false d d5_ := Fr.tr f0 (fr_Ju_isKin (d 66 x2.toNat) d (Fr.g f0 hg) hr7_) (by decide) (by decide) (by decide)
    rcases ite_some h with ⟨hc9_, h⟩ | ⟨hc9_, h⟩
    · obtain ⟨hb10_, h⟩ := ck_some h
      exact Fr.tr0 (Fr.upa fd5_ rfl (by decide)) (fr_Ju_fillPool_b35 (w32 (x1 + 1)) x2 (up2 d5_ 68 x1.toNat x2) (Fr.g (Fr.upa fd5_ rfl (by decide)) hg) h)
    · exact Fr.tr0 fd5_ (fr_Ju_fillPool_b35 x1 x2 d5_ (Fr.g fd5_ hg) h)
  · obtain rfl := Option.some.inj h
    exact f0
theorem fr_Ju_fillPool_l4 {x : (Int × Dt)} (x1 x2 : Int) (d : Dt) (hg : d GH 0 ≤ 6) (h : L_Ju_fillPool_l4 x1 x2 d = some x) : Fr wo_Ju_fillPool [68] false d (he_Ju_fillPool_4 x) :=
  lpF_fr (f := fun q : Int × Int × Dt => L_Ju_fillPool_y4 q.1 q.2.1 q.2.2) (fun q => q.2.2) he_Ju_fillPool_4 (fun q x hq hx => ⟨fun q2 e2 => by subst e2; exact fr_Ju_fillPool_y4 q.1 q.2.1 q.2.2 hq hx, fun r2 e2 => by subst e2; exact fr_Ju_fillPool_y4 q.1 q.2.1 q.2.2 hq hx⟩) FU _ x hg h
theorem fr_Ju_fillPool {r : Int} {d' : Dt} (d : Dt) (hg : d GH 0 ≤ 6) (h : L_Ju_fillPool d = some (r, d')) : Fr wo_Ju_fillPool [68] false d d' := by
  have f0 : Fr wo_Ju_fillPool [68] false d d := Fr.rfl
  unfold L_Ju_fillPool at h
  obtain ⟨x11_, hx12_, h⟩ := lb_some h
  have fx11_ := Fr.tr0 f0 (fr_Ju_fillPool_l4 0 0 d (Fr.g f0 hg) hx12_)
  obtain ⟨v13_, d14_⟩ := x11_
  have fd14_ : Fr wo_Ju_fillPool [68] false d d14_ := fx11_
  replace h := u1_e h
  obtain ⟨rfl, rfl⟩ := ret_inj h
  exact fd14_
/-! frames of Ju_drawFromPool -/
def wo_Ju_drawFromPool : List (Nat × Nat) := []
theorem fr_Ju_drawFromPool {r : Int} {d' : Dt} (p1 p2 : Int) (d : Dt) (hg : d GH 0 ≤ 6) (h : L_Ju_drawFromPool p1 p2 d = some (r, d')) : Fr wo_Ju_drawFromPool [68, 69] false d d' := by
  have f0 : Fr wo_Ju_drawFromPool [68, 69] false d d := Fr.rfl
  unfold L_Ju_drawFromPool at h
  obtain ⟨hb1_, h⟩ := ck_some h
  obtain ⟨hb3_, h⟩ := ck_some h
  obtain ⟨hb4_, h⟩ := ck_some h
  obtain ⟨rfl, rfl⟩ := ret_inj h
  exact (Fr.cpa (Fr.upa f0 rfl (by decide)) rfl (by decide))
/-! frames of Ju_strikeOne -/
def wo_Ju_strikeOne : List (Nat × Nat) := []
def he_Ju_strikeOne_4 (q : (Int × Dt)) : Dt := q.2
def hb_Ju_strikeOne_4 (o : (Int × Int × Int × Dt) ⊕ ((Int × Dt))) : Dt := match o with
  | .inl q => q.2.2.2
  | .inr r => he_Ju_strikeOne_4 r
theorem fr_Ju_strikeOne_b81 {o : (Int × Int × Int × Dt) ⊕ ((Int × Dt))} (x1 x2 x3 : Int) (d : Dt) (hg : d GH 0 ≤ 6) (h : L_Ju_strikeOne_b81 x1 x2 x3 d = some o) : Fr wo_Ju_strikeOne [69] false d (hb_Ju_strikeOne_4 o) := by
  have f0 : Fr wo_Ju_strikeOne [69] false d d := Fr.rfl
  unfold L_Ju_strikeOne_b81 at h
  obtain rfl := Option.some.inj h
  exact f0
theorem fr_Ju_strikeOne_b80 {o : (Int × Int × Int × Dt) ⊕ ((Int × Dt))} (x1 x3 s0 : Int) (d : Dt) (hg : d GH 0 ≤ 6) (h : L_Ju_strikeOne_b80 x1 x3 s0 d = some o) : Fr wo_Ju_strikeOne [69] false d (hb_Ju_strikeOne_4 o) := by
  have f0 : Fr wo_Ju_strikeOne [69] false d d := Fr.rfl
  unfold L_Ju_strikeOne_b80 at h
  exact Fr.tr0 f0 (fr_Ju_strikeOne_b81 x1 s0 x3 d (Fr.g f0 hg) h)
theorem fr_Ju_strikeOne_b68 {o : (Int × Int × Int × Dt) ⊕ ((Int × Dt))} (x1 x2 x3 s0 : Int) (d : Dt) (hg : d GH 0 ≤ 6) (h : L_Ju_strikeOne_b68 x1 x2 x3 s0 d = some o) : Fr wo_Ju_strikeOne [69] false d (hb_Ju_strikeOne_4 o) := by
  have f0 : Fr wo_Ju_strikeOne [69] false d d := Fr.rfl
  unfold L_Ju_strikeOne_b68 at h
  rcases ite_some h with ⟨hc1_, h⟩ | ⟨hc1_, h⟩
  · exact Fr.tr0 f0 (fr_Ju_strikeOne_b80 x1 x3 x2 d (Fr.g f0 hg) h)
  · exact Fr.tr0 f0 (fr_Ju_strikeOne_b80 x1 x3 x3 d (Fr.g f0 hg) h)
theorem fr_Ju_strikeOne_y4 {o : (Int × Int × Int × Dt) ⊕ ((Int × Dt))} (x1 x2 x3 : Int) (d : Dt) (hg : d GH 0 ≤ 6) (h : L_Ju_strikeOne_y4 x1 x2 x3 d = some o) : Fr wo_Ju_strikeOne [69] false d (hb_Ju_strikeOne_4 o) := by
  have f0 : Fr wo_Ju_strikeOne [69] false d d := Fr.rfl
  unfold L_Ju_strikeOne_y4 at h
  rcases ite_some h with ⟨hc3_, h⟩ | ⟨hc3_, h⟩
  · obtain ⟨hb4_, h⟩ := ck_some h
    rcases ite_some h with ⟨hc6_, h⟩ | ⟨hc6_, h⟩
    · exact Fr.tr0 f0 (fr_Ju_strikeOne_b81 x1 x2 x3 d (Fr.g f0 hg) h)
    · rcases ite_some h with ⟨hc7_, h⟩ | ⟨hc7_, h⟩
      · exact Fr.tr0 f0 (fr_Ju_strikeOne_b68 x1 x2 x3 1 d (Fr.g f0 hg) h)
      · rcases ite_some h with ⟨hc8_, h⟩ | ⟨hc8_, h⟩
        · obtain ⟨hb9_, h⟩ := ck_some h
          obtain ⟨hb11_, h⟩ := ck_some h
          rcases ite_some h with ⟨hc13_, h⟩ | ⟨hc13_, h⟩
          · exact Fr.tr0 f0 (fr_Ju_strikeOne_b68 x1 x2 x3 1 d (Fr.g f0 hg) h)
          · exact Fr.tr0 f0 (fr_Ju_strikeOne_b68 x1 x2 x3 0 d (Fr.g f0 hg) h)
        · obtain ⟨hb14_, h⟩ := ck_some h
          obtain ⟨hb16_, h⟩ := ck_some h
          rcases ite_some h with ⟨hc18_, h⟩ | ⟨hc18_, h⟩
          · exact Fr.tr0 f0 (fr_Ju_strikeOne_b68 x1 x2 x3 1 d (Fr.g f0 hg) h)
          · exact Fr.tr0 f0 (fr_Ju_strikeOne_b68 x1 x2 x3 0 d (Fr.g f0 hg) h)
  · obtain rfl := Option.some.inj h
    exact f0
theorem fr_Ju_strikeOne_l4 {x : (Int × Dt)} (x1 x2 x3 : Int) (d : Dt) (hg : d GH 0 ≤ 6) (h : L_Ju_strikeOne_l4 x1 x2 x3 d = some x) : Fr wo_Ju_strikeOne [69] false d (he_Ju_strikeOne_4 x) :=
  lpF_fr (f := fun q : Int × Int × Int × Dt => L_Ju_strikeOne_y4 q.1 q.2.1 q.2.2.1 q.2.2.2) (fun q => q.2.2.2) he_Ju_strikeOne_4 (fun q x hq hx => ⟨fun q2 e2 => by subst e2; exact fr_Ju_strikeOne_y4 q.1 q.2.1 q.2.2.1 q.2.2.2 hq hx, fun r2 e2 => by subst e2; exact fr_Ju_strikeOne_y4 q.1 q.2.1 q.2.2.1 q.2.2.2 hq hx⟩) FU _ x hg h
theorem fr_Ju_strikeOne {r : Int} {d' : Dt} (p1 : Int) (d : Dt) (hg : d GH 0 ≤ 6) (h : L_Ju_strikeOne p1 d = some (r, d')) : Fr wo_Ju_strikeOne [69] false d d' := by
  have f0 : Fr wo_Ju_strikeOne [69] false d d := Fr.rfl
  unfold L_Ju_strikeOne at h
  obtain ⟨x19_, hx20_, h⟩ := lb_some h
  have fx19_ := Fr.tr0 f0 (fr_Ju_strikeOne_l4 p1 (-1) 0 d (Fr.g f0 hg) hx20_)
  obtain ⟨v21_, d22_⟩ := x19_
  have fd22_ : Fr wo_Ju_strikeOne [69] false d d22_ := fx19_
  replace h := u1_e h
  rcases ite_some h with ⟨hc24_, h⟩ | ⟨hc24_, h⟩
  · obtain ⟨rfl, rfl⟩ := ret_inj h
    exact fd22_
  · obtain ⟨hb25_, h⟩ := ck_some h
    obtain ⟨rfl, rfl⟩ := ret_inj h
    exact (Fr.upa fd22_ rfl (by decide))
/-! frames of Ju_fillBench -/
def wo_Ju_fillBench : List (Nat × Nat) := [(64, 7)]
def he_Ju_fillBench_7 (q : (Dt)) : Dt := q
def hb_Ju_fillBench_7 (o : (Int × Dt) ⊕ ((Dt))) : Dt := match o with
  | .inl q => q.2
  | .inr r => he_Ju_fillBench_7 r
theorem fr_Ju_fillBench_b44 {o : (Int × Dt) ⊕ ((Dt))} (x1 : Int) (d : Dt) (hg : d GH 0 ≤ 6) (h : L_Ju_fillBench_b44 x1 d = some o) : Fr wo_Ju_fillBench [70] false d (hb_Ju_fillBench_7 o) := by
  have f0 : Fr wo_Ju_fillBench [70] false d d := Fr.rfl
  unfold L_Ju_fillBench_b44 at h
  obtain rfl := Option.some.inj h
  exact f0
theorem fr_Ju_fillBench_y7 {o : (Int × Dt) ⊕ ((Dt))} (x1 : Int) (d : Dt) (hg : d GH 0 ≤ 6) (h : L_Ju_fillBench_y7 x1 d = some o) : Fr wo_Ju_fillBench [70] false d (hb_Ju_fillBench_7 o) := by
  have f0 : Fr wo_Ju_fillBench [70] false d d := Fr.rfl
  unfold L_Ju_fillBench_y7 at h
  rcases ite_some h with ⟨hc2_, h⟩ | ⟨hc2_, h⟩
  · obtain ⟨hb3_, h⟩ := ck_some h
    rcases ite_some h with ⟨hc5_, h⟩ | ⟨hc5_, h⟩
    · exact Fr.tr0 f0 (fr_Ju_fillBench_b44 x1 d (Fr.g f0 hg) h)
    · obtain ⟨hb7_, h⟩ := ck_some h
      exact Fr.tr0 (Fr.upo (Fr.upa f0 rfl (by decide)) rfl (by decide)) (fr_Ju_fillBench_b44 x1 (up2 (up2 d 70 ((d 64 7)).toNat x1) 64 7 (w32 ((d 64 7) + 1))) (Fr.g (Fr.upo (Fr.upa f0 rfl (by decide)) rfl (by decide)) hg) h)
  · obtain rfl := Option.some.inj h
    exact f0
theorem fr_Ju_fillBench_l7 {x : (Dt)} (x1 : Int) (d : Dt) (hg : d GH 0 ≤ 6) (h : L_Ju_fillBench_l7 x1 d = some x) : Fr wo_Ju_fillBench [70] false d (he_Ju_fillBench_7 x) :=
  lpF_fr (f := fun q : Int × Dt => L_Ju_fillBench_y7 q.1 q.2) (fun q => q.2) he_Ju_fillBench_7 (fun q x hq hx => ⟨fun q2 e2 => by subst e2; exact fr_Ju_fillBench_y7 q.1 q.2 hq hx, fun r2 e2 => by subst e2; exact fr_Ju_fillBench_y7 q.1 q.2 hq hx⟩) FU _ x hg h
theorem fr_Ju_fillBench {r : Int} {d' : Dt} (d : Dt) (hg : d GH 0 ≤ 6) (h : L_Ju_fillBench d = some (r, d')) : Fr wo_Ju_fillBench [70] false d d' := by
  have f0 : Fr wo_Ju_fillBench [70] false d d := Fr.rfl
  unfold L_Ju_fillBench at h
  obtain ⟨x9_, hx10_, h⟩ := lb_some h
  have fx9_ := Fr.tr0 (Fr.upo f0 rfl (by decide)) (fr_Ju_fillBench_l7 0 (up2 d 64 7 0) (Fr.g (Fr.upo f0 rfl (by decide)) hg) hx10_)
  obtain ⟨d11_, rfl⟩ : ∃ z, z = x9_ := ⟨_, rfl⟩
  have fd11_ : Fr wo_Ju_fillBench [70] false d d11_ := fx9_
  replace h := u0_e h
  obtain ⟨rfl, rfl⟩ := ret_inj h
  exact fd11_
/-! frames of Ju_form -/
def wo_Ju_form : List (Nat × Nat) := [(64, 7)]
def he_Ju_form_17 (q : (Int × Int × Int × Int × Dt)) : Dt := q.2.2.2.2
def hb_Ju_form_17 (o : (Int × Int × Int × Int × Int × Dt) ⊕ ((Int × Int × Int × Int × Dt))) : Dt := match o with
  | .inl q => q.2.2.2.2.2
  | .inr r => he_Ju_form_17 r
def he_Ju_form_47 (q : (Int × Int × Dt)) : Dt := q.2.2
def hb_Ju_form_47 (o : (Int × Int × Int × Int × Int × Dt) ⊕ ((Int × Int × Dt))) : Dt := match o with
  | .inl q => q.2.2.2.2.2
  | .inr r => he_Ju_form_47 r
def he_Ju_form_103 (q : (Dt)) : Dt := q
def hb_Ju_form_103 (o : (Int × Int × Int × Dt) ⊕ ((Dt))) : Dt := match o with
  | .inl q => q.2.2.2
  | .inr r => he_Ju_form_103 r
theorem fr_Ju_form_y17 {o : (Int × Int × Int × Int × Int × Dt) ⊕ ((Int × Int × Int × Int × Dt))} (x1 x2 x3 x4 x5 : Int) (d : Dt) (hg : d GH 0 ≤ 6) (h : L_Ju_form_y17 x1 x2 x3 x4 x5 d = some o) : Fr wo_Ju_form [68, 69, 70] false d (hb_Ju_form_17 o) := by
  have f0 : Fr wo_Ju_form [68, 69, 70] false d d := Fr.rfl
  unfold L_Ju_form_y17 at h
  rcases ite_some h with ⟨hc2_, h⟩ | ⟨hc2_, h⟩
  · obtain ⟨hb3_, h⟩ := ck_some h
    obtain rfl := Option.some.inj h
    exact (Fr.upa f0 rfl (by decide))
  · obtain rfl := Option.some.inj h
    exact f0
theorem fr_Ju_form_l17 {x : (Int × Int × Int × Int × Dt)} (x1 x2 x3 x4 x5 : Int) (d : Dt) (hg : d GH 0 ≤ 6) (h : L_Ju_form_l17 x1 x2 x3 x4 x5 d = some x) : Fr wo_Ju_form [68, 69, 70] false d (he_Ju_form_17 x) :=
  lpF_fr (f := fun q : Int × Int × Int × Int × Int × Dt => L_Ju_form_y17 q.1 q.2.1 q.2.2.1 q.2.2.2.1 q.2.2.2.2.1 q.2.2.2.2.2) (fun q => q.2.2.2.2.2) he_Ju_form_17 (fun q x hq hx => ⟨fun q2 e2 => by subst e2; exact fr_Ju_form_y17 q.1 q.2.1 q.2.2.1 q.2.2.2.1 q.2.2.2.2.1 q.2.2.2.2.2 hq hx, fun r2 e2 => by subst e2; exact fr_Ju_form_y17 q.1 q.2.1 q.2.2.1 q.2.2.2.1 q.2.2.2.2.1 q.2.2.2.2.2 hq hx⟩) FU _ x hg h
theorem fr_Ju_form_y47 {o : (Int × Int × Int × Int × Int × Dt) ⊕ ((Int × Int × Dt))} (x1 x2 x4 x5 x7 : Int) (d : Dt) (hg : d GH 0 ≤ 6) (h : L_Ju_form_y47 x1 x2 x4 x5 x7 d = some o) : Fr wo_Ju_form [68, 69, 70] false d (hb_Ju_form_47 o) := by
  have f0 : Fr wo_Ju_form [68, 69, 70] false d d := Fr.rfl
  unfold L_Ju_form_y47 at h
  rcases ite_some h with ⟨hc4_, h⟩ | ⟨hc4_, h⟩
  · rcases ite_some h with ⟨hc5_, h⟩ | ⟨hc5_, h⟩
    · obtain ⟨v6_, ev7_, h⟩ := lt_some h
      obtain ⟨hc9_, h⟩ := ck_some h
      obtain ⟨r11_, d10_, hr12_, h⟩ := bd_some h
      have fd10_ : Fr wo_Ju_form [68, 69, 70] false d d10_ := Fr.tr f0 (fr_Ju_drawFromPool (w32 (lrem (ldiv v6_ 65536) x4)) x4 d (Fr.g f0 hg) hr12_) (by decide) (by decide) (by decide)
      obtain rfl := Option.some.inj h
      exact fd10_
    · obtain rfl := Option.some.inj h
      exact f0
  · obtain rfl := Option.some.inj h
    exact f0
theorem fr_Ju_form_l47 {x : (Int × Int × Dt)} (x1 x2 x4 x5 x7 : Int) (d : Dt) (hg : d GH 0 ≤ 6) (h : L_Ju_form_l47 x1 x2 x4 x5 x7 d = some x) : Fr wo_Ju_form [68, 69, 70] false d (he_Ju_form_47 x) :=
  lpF_fr (f := fun q : Int × Int × Int × Int × Int × Dt => L_Ju_form_y47 q.1 q.2.1 q.2.2.1 q.2.2.2.1 q.2.2.2.2.1 q.2.2.2.2.2) (fun q => q.2.2.2.2.2) he_Ju_form_47 (fun q x hq hx => ⟨fun q2 e2 => by subst e2; exact fr_Ju_form_y47 q.1 q.2.1 q.2.2.1 q.2.2.2.1 q.2.2.2.2.1 q.2.2.2.2.2 hq hx, fun r2 e2 => by subst e2; exact fr_Ju_form_y47 q.1 q.2.1 q.2.2.1 q.2.2.2.1 q.2.2.2.2.1 q.2.2.2.2.2 hq hx⟩) FU _ x hg h
theorem fr_Ju_form_b124 {o : (Int × Int × Int × Dt) ⊕ ((Dt))} (x1 x2 x7 s1 : Int) (d : Dt) (hg : d GH 0 ≤ 6) (h : L_Ju_form_b124 x1 x2 x7 s1 d = some o) : Fr wo_Ju_form [68, 69, 70] false d (hb_Ju_form_103 o) := by
  have f0 : Fr wo_Ju_form [68, 69, 70] false d d := Fr.rfl
  unfold L_Ju_form_b124 at h
  obtain ⟨r15_, d14_, hr16_, h⟩ := bd_some h
  have fd14_ : Fr wo_Ju_form [68, 69, 70] false d d14_ := Fr.tr f0 (fr_Ju_strikeOne s1 d (Fr.g f0 hg) hr16_) (by decide) (by decide) (by decide)
  obtain rfl := Option.some.inj h
  exact fd14_
theorem fr_Ju_form_y103 {o : (Int × Int × Int × Dt) ⊕ ((Dt))} (x1 x2 x7 : Int) (d : Dt) (hg : d GH 0 ≤ 6) (h : L_Ju_form_y103 x1 x2 x7 d = some o) : Fr wo_Ju_form [68, 69, 70] false d (hb_Ju_form_103 o) := by
  have f0 : Fr wo_Ju_form [68, 69, 70] false d d := Fr.rfl
  unfold L_Ju_form_y103 at h
  rcases ite_some h with ⟨hc18_, h⟩ | ⟨hc18_, h⟩
  · rcases ite_some h with ⟨hc19_, h⟩ | ⟨hc19_, h⟩
    · exact Fr.tr0 f0 (fr_Ju_form_b124 x1 x2 x7 1 d (Fr.g f0 hg) h)
    · exact Fr.tr0 f0 (fr_Ju_form_b124 x1 x2 x7 0 d (Fr.g f0 hg) h)
  · obtain rfl := Option.some.inj h
    exact f0
theorem fr_Ju_form_l103 {x : (Dt)} (x1 x2 x7 : Int) (d : Dt) (hg : d GH 0 ≤ 6) (h : L_Ju_form_l103 x1 x2 x7 d = some x) : Fr wo_Ju_form [68, 69, 70] false d (he_Ju_form_103 x) :=
  lpF_fr (f := fun q : Int × Int × Int × Dt => L_Ju_form_y103 q.1 q.2.1 q.2.2.1 q.2.2.2) (fun q => q.2.2.2) he_Ju_form_103 (fun q x hq hx => ⟨fun q2 e2 => by subst e2; exact fr_Ju_form_y103 q.1 q.2.1 q.2.2.1 q.2.2.2 hq hx, fun r2 e2 => by subst e2; exact fr_Ju_form_y103 q.1 q.2.1 q.2.2.1 q.2.2.2 hq hx⟩) FU _ x hg h
theorem fr_Ju_form_b100 {r : Int} {d' : Dt} (x1 x2 : Int) (d : Dt) (hg : d GH 0 ≤ 6) (h : L_Ju_form_b100 x1 x2 d = some (r, d')) : Fr wo_Ju_form [68, 69, 70] false d d' := by
  have f0 : Fr wo_Ju_form [68, 69, 70] false d d := Fr.rfl
  unfold L_Ju_form_b100 at h
  obtain ⟨x20_, hx21_, h⟩ := lb_some h
  have fx20_ := Fr.tr0 f0 (fr_Ju_form_l103 x1 x2 0 d (Fr.g f0 hg) hx21_)
  obtain ⟨d22_, rfl⟩ : ∃ z, z = x20_ := ⟨_, rfl⟩
  have fd22_ : Fr wo_Ju_form [68, 69, 70] false d d22_ := fx20_
  replace h := u0_e h
  obtain ⟨r25_, d24_, hr26_, h⟩ := bd_some h
  have fd24_ : Fr wo_Ju_form [68, 69, 70] false d d24_ := Fr.tr fd22_ (fr_Ju_fillBench  d22_ (Fr.g fd22_ hg) hr26_) (by decide) (by decide) (by decide)
  obtain ⟨rfl, rfl⟩ := ret_inj h
  exact fd24_
theorem fr_Ju_form {r : Int} {d' : Dt} (p1 p2 p3 : Int) (d : Dt) (hg : d GH 0 ≤ 6) (h : L_Ju_form p1 p2 p3 d = some (r, d')) : Fr wo_Ju_form [68, 69, 70] false d d' := by
  have f0 : Fr wo_Ju_form [68, 69, 70] false d d := Fr.rfl
  unfold L_Ju_form at h
  obtain ⟨r30_, d29_, hr31_, h⟩ := bd_some h
  have fd29_ : Fr wo_Ju_form [68, 69, 70] false d d29_ := Fr.tr f0 (fr_Ju_fillPool  d (Fr.g f0 hg) hr31_) (by decide) (by decide) (by decide)
  rcases ite_some h with ⟨hc33_, h⟩ | ⟨hc33_, h⟩
  · obtain ⟨rfl, rfl⟩ := ret_inj h
    exact fd29_
  · obtain ⟨x34_, hx35_, h⟩ := lb_some h
    have fx34_ := Fr.tr0 fd29_ (fr_Ju_form_l17 p1 p2 p3 r30_ 0 d29_ (Fr.g fd29_ hg) hx35_)
    obtain ⟨v36_, v37_, v38_, v39_, d40_⟩ := x34_
    have fd40_ : Fr wo_Ju_form [68, 69, 70] false d d40_ := fx34_
    replace h := u4_e h
    obtain ⟨x42_, hx43_, h⟩ := lb_some h
    have fx42_ := Fr.tr0 fd40_ (fr_Ju_form_l47 v36_ v37_ v39_ v38_ 0 d40_ (Fr.g fd40_ hg) hx43_)
    obtain ⟨v44_, v45_, d46_⟩ := x42_
    have fd46_ : Fr wo_Ju_form [68, 69, 70] false d d46_ := fx42_
    replace h := u2_e h
    exact Fr.tr0 fd46_ (fr_Ju_form_b100 v44_ v45_ d46_ (Fr.g fd46_ hg) h)
/-! frames of Ju_leanOfBench -/
def wo_Ju_leanOfBench : List (Nat × Nat) := []
def he_Ju_leanOfBench_4 (q : (Int × Dt)) : Dt := q.2
def hb_Ju_leanOfBench_4 (o : (Int × Int × Dt) ⊕ ((Int × Dt))) : Dt := match o with
  | .inl q => q.2.2
  | .inr r => he_Ju_leanOfBench_4 r
theorem fr_Ju_leanOfBench_y4 {o : (Int × Int × Dt) ⊕ ((Int × Dt))} (x1 x2 : Int) (d : Dt) (hg : d GH 0 ≤ 6) (h : L_Ju_leanOfBench_y4 x1 x2 d = some o) : Fr wo_Ju_leanOfBench [] false d (hb_Ju_leanOfBench_4 o) := by
  have f0 : Fr wo_Ju_leanOfBench [] false d d := Fr.rfl
  unfold L_Ju_leanOfBench_y4 at h
  rcases ite_some h with ⟨hc2_, h⟩ | ⟨hc2_, h⟩
  · obtain ⟨hb3_, h⟩ := ck_some h
    obtain ⟨hb5_, h⟩ := ck_some h
    obtain ⟨v7_, ev8_, h⟩ := lt_some h
    obtain rfl := Option.some.inj h
    exact f0
  · obtain rfl := Option.some.inj h
    exact f0
theorem fr_Ju_leanOfBench_l4 {x : (Int × Dt)} (x1 x2 : Int) (d : Dt) (hg : d GH 0 ≤ 6) (h : L_Ju_leanOfBench_l4 x1 x2 d = some x) : Fr wo_Ju_leanOfBench [] false d (he_Ju_leanOfBench_4 x) :=
  lpF_fr (f := fun q : Int × Int × Dt => L_Ju_leanOfBench_y4 q.1 q.2.1 q.2.2) (fun q => q.2.2) he_Ju_leanOfBench_4 (fun q x hq hx => ⟨fun q2 e2 => by subst e2; exact fr_Ju_leanOfBench_y4 q.1 q.2.1 q.2.2 hq hx, fun r2 e2 => by subst e2; exact fr_Ju_leanOfBench_y4 q.1 q.2.1 q.2.2 hq hx⟩) FU _ x hg h
theorem fr_Ju_leanOfBench {r : Int} {d' : Dt} (d : Dt) (hg : d GH 0 ≤ 6) (h : L_Ju_leanOfBench d = some (r, d')) : Fr wo_Ju_leanOfBench [] false d d' := by
  have f0 : Fr wo_Ju_leanOfBench [] false d d := Fr.rfl
  unfold L_Ju_leanOfBench at h
  obtain ⟨x10_, hx11_, h⟩ := lb_some h
  have fx10_ := Fr.tr0 f0 (fr_Ju_leanOfBench_l4 0 0 d (Fr.g f0 hg) hx11_)
  obtain ⟨v12_, d13_⟩ := x10_
  have fd13_ : Fr wo_Ju_leanOfBench [] false d d13_ := fx10_
  replace h := u1_e h
  obtain ⟨rfl, rfl⟩ := ret_inj h
  exact fd13_
/-! frames of PB_draw -/
def wo_PB_draw : List (Nat × Nat) := [(0, 0), (64, 7)]
theorem fr_PB_draw_b80 {r : Int} {d' : Dt} (s1 : Int) (d : Dt) (hg : d GH 0 ≤ 6) (h : L_PB_draw_b80 s1 d = some (r, d')) : Fr wo_PB_draw [68, 69, 70] false d d' := by
  have f0 : Fr wo_PB_draw [68, 69, 70] false d d := Fr.rfl
  unfold L_PB_draw_b80 at h
  rcases ite_some h with ⟨hc2_, h⟩ | ⟨hc2_, h⟩
  · obtain ⟨r4_, d3_, hr5_, h⟩ := bd_some h
    have fd3_ : Fr wo_PB_draw [68, 69, 70] false d d3_ := Fr.tr (Fr.upo f0 rfl (by decide)) (fr_Ju_leanOfBench  (up2 d 0 0 s1) (Fr.g (Fr.upo f0 rfl (by decide)) hg) hr5_) (by decide) (by decide) (by decide)
    obtain ⟨rfl, rfl⟩ := ret_inj h
    exact fd3_
  · obtain ⟨rfl, rfl⟩ := ret_inj h
    exact (Fr.upo f0 rfl (by decide))
theorem fr_PB_draw_b57 {r : Int} {d' : Dt} (x4 s0 : Int) (d : Dt) (hg : d GH 0 ≤ 6) (h : L_PB_draw_b57 x4 s0 d = some (r, d')) : Fr wo_PB_draw [68, 69, 70] false d d' := by
  have f0 : Fr wo_PB_draw [68, 69, 70] false d d := Fr.rfl
  unfold L_PB_draw_b57 at h
  rcases ite_some h with ⟨hc7_, h⟩ | ⟨hc7_, h⟩
  · exact Fr.tr0 f0 (fr_PB_draw_b80 1 d (Fr.g f0 hg) h)
  · rcases ite_some h with ⟨hc8_, h⟩ | ⟨hc8_, h⟩
    · exact Fr.tr0 f0 (fr_PB_draw_b80 6 d (Fr.g f0 hg) h)
    · exact Fr.tr0 f0 (fr_PB_draw_b80 0 d (Fr.g f0 hg) h)
theorem fr_PB_draw_b32 {r : Int} {d' : Dt} (x1 x2 x3 s0 : Int) (d : Dt) (hg : d GH 0 ≤ 6) (h : L_PB_draw_b32 x1 x2 x3 s0 d = some (r, d')) : Fr wo_PB_draw [68, 69, 70] false d d' := by
  have f0 : Fr wo_PB_draw [68, 69, 70] false d d := Fr.rfl
  unfold L_PB_draw_b32 at h
  rcases ite_some h with ⟨hc9_, h⟩ | ⟨hc9_, h⟩
  · exact Fr.tr0 f0 (fr_PB_draw_b57 s0 0 d (Fr.g f0 hg) h)
  · obtain ⟨r11_, d10_, hr12_, h⟩ := bd_some h
    have fd10_ : Fr wo_PB_draw [68, 69, 70] false d d10_ := Fr.tr f0 (fr_Ju_form x1 x2 x3 d (Fr.g f0 hg) hr12_) (by decide) (by decide) (by decide)
    rcases ite_some h with ⟨hc14_, h⟩ | ⟨hc14_, h⟩
    · exact Fr.tr0 fd10_ (fr_PB_draw_b57 s0 0 d10_ (Fr.g fd10_ hg) h)
    · exact Fr.tr0 fd10_ (fr_PB_draw_b57 s0 1 d10_ (Fr.g fd10_ hg) h)
theorem fr_PB_draw {r : Int} {d' : Dt} (p1 p2 p3 : Int) (d : Dt) (hg : d GH 0 ≤ 6) (h : L_PB_draw p1 p2 p3 d = some (r, d')) : Fr wo_PB_draw [68, 69, 70] false d d' := by
  have f0 : Fr wo_PB_draw [68, 69, 70] false d d := Fr.rfl
  unfold L_PB_draw at h
  obtain ⟨r16_, d15_, hr17_, h⟩ := bd_some h
  have fd15_ : Fr wo_PB_draw [68, 69, 70] false d d15_ := Fr.tr f0 (fr_PB_within p1 1 30 d (Fr.g f0 hg) hr17_) (by decide) (by decide) (by decide)
  rcases ite_some h with ⟨hc19_, h⟩ | ⟨hc19_, h⟩
  · exact Fr.tr0 fd15_ (fr_PB_draw_b32 p1 p2 p3 0 d15_ (Fr.g fd15_ hg) h)
  · obtain ⟨r21_, d20_, hr22_, h⟩ := bd_some h
    have fd20_ : Fr wo_PB_draw [68, 69, 70] false d d20_ := Fr.tr fd15_ (fr_PB_within p2 0 p1 d15_ (Fr.g fd15_ hg) hr22_) (by decide) (by decide) (by decide)
    rcases ite_some h with ⟨hc24_, h⟩ | ⟨hc24_, h⟩
    · exact Fr.tr0 fd20_ (fr_PB_draw_b32 p1 p2 p3 0 d20_ (Fr.g fd20_ hg) h)
    · rcases ite_some h with ⟨hc25_, h⟩ | ⟨hc25_, h⟩
      · exact Fr.tr0 fd20_ (fr_PB_draw_b32 p1 p2 p3 0 d20_ (Fr.g fd20_ hg) h)
      · exact Fr.tr0 fd20_ (fr_PB_draw_b32 p1 p2 p3 1 d20_ (Fr.g fd20_ hg) h)
/-! frames of Ju_benchSize -/
def wo_Ju_benchSize : List (Nat × Nat) := []
theorem fr_Ju_benchSize {r : Int} {d' : Dt} (d : Dt) (hg : d GH 0 ≤ 6) (h : L_Ju_benchSize d = some (r, d')) : Fr wo_Ju_benchSize [] false d d' := by
  have f0 : Fr wo_Ju_benchSize [] false d d := Fr.rfl
  unfold L_Ju_benchSize at h
  obtain ⟨rfl, rfl⟩ := ret_inj h
  exact f0
/-! frames of Ju_benchAt -/
def wo_Ju_benchAt : List (Nat × Nat) := []
theorem fr_Ju_benchAt {r : Int} {d' : Dt} (p1 : Int) (d : Dt) (hg : d GH 0 ≤ 6) (h : L_Ju_benchAt p1 d = some (r, d')) : Fr wo_Ju_benchAt [] false d d' := by
  have f0 : Fr wo_Ju_benchAt [] false d d := Fr.rfl
  unfold L_Ju_benchAt at h
  obtain ⟨hb1_, h⟩ := ck_some h
  obtain ⟨rfl, rfl⟩ := ret_inj h
  exact f0
/-! frames of PB_bench -/
def wo_PB_bench : List (Nat × Nat) := [(0, 0)]
theorem fr_PB_bench_b26 {r : Int} {d' : Dt} (x1 s1 : Int) (d : Dt) (hg : d GH 0 ≤ 6) (h : L_PB_bench_b26 x1 s1 d = some (r, d')) : Fr wo_PB_bench [] false d d' := by
  have f0 : Fr wo_PB_bench [] false d d := Fr.rfl
  unfold L_PB_bench_b26 at h
  rcases ite_some h with ⟨hc2_, h⟩ | ⟨hc2_, h⟩
  · obtain ⟨r4_, d3_, hr5_, h⟩ := bd_some h
    have fd3_ : Fr wo_PB_bench [] false d d3_ := Fr.tr (Fr.upo f0 rfl (by decide)) (fr_Ju_benchAt x1 (up2 d 0 0 s1) (Fr.g (Fr.upo f0 rfl (by decide)) hg) hr5_) (by decide) (by decide) (by decide)
    obtain ⟨rfl, rfl⟩ := ret_inj h
    exact fd3_
  · obtain ⟨rfl, rfl⟩ := ret_inj h
    exact (Fr.upo f0 rfl (by decide))
theorem fr_PB_bench {r : Int} {d' : Dt} (p1 : Int) (d : Dt) (hg : d GH 0 ≤ 6) (h : L_PB_bench p1 d = some (r, d')) : Fr wo_PB_bench [] false d d' := by
  have f0 : Fr wo_PB_bench [] false d d := Fr.rfl
  unfold L_PB_bench at h
  rcases ite_some h with ⟨hc7_, h⟩ | ⟨hc7_, h⟩
  · exact Fr.tr0 f0 (fr_PB_bench_b26 p1 1 d (Fr.g f0 hg) h)
  · obtain ⟨r9_, d8_, hr10_, h⟩ := bd_some h
    have fd8_ : Fr wo_PB_bench [] false d d8_ := Fr.tr f0 (fr_Ju_benchSize  d (Fr.g f0 hg) hr10_) (by decide) (by decide) (by decide)
    rcases ite_some h with ⟨hc12_, h⟩ | ⟨hc12_, h⟩
    · exact Fr.tr0 fd8_ (fr_PB_bench_b26 p1 0 d8_ (Fr.g fd8_ hg) h)
    · exact Fr.tr0 fd8_ (fr_PB_bench_b26 p1 6 d8_ (Fr.g fd8_ hg) h)
/-! frames of Ro_setMiles -/
def wo_Ro_setMiles : List (Nat × Nat) := []
theorem fr_Ro_setMiles {r : Int} {d' : Dt} (p1 p2 p3 : Int) (d : Dt) (hg : d GH 0 ≤ 6) (h : L_Ro_setMiles p1 p2 p3 d = some (r, d')) : Fr wo_Ro_setMiles [72] false d d' := by
  have f0 : Fr wo_Ro_setMiles [72] false d d := Fr.rfl
  unfold L_Ro_setMiles at h
  obtain ⟨hb1_, h⟩ := ck_some h
  obtain ⟨hb2_, h⟩ := ck_some h
  obtain ⟨rfl, rfl⟩ := ret_inj h
  exact (Fr.upa (Fr.upa f0 rfl (by decide)) rfl (by decide))
/-! frames of PB_miles -/
def wo_PB_miles : List (Nat × Nat) := [(0, 0)]
theorem fr_PB_miles_b49 {r : Int} {d' : Dt} (x1 x2 x3 x4 s1 : Int) (d : Dt) (hg : d GH 0 ≤ 6) (h : L_PB_miles_b49 x1 x2 x3 x4 s1 d = some (r, d')) : Fr wo_PB_miles [72] false d d' := by
  have f0 : Fr wo_PB_miles [72] false d d := Fr.rfl
  unfold L_PB_miles_b49 at h
  rcases ite_some h with ⟨hc1_, h⟩ | ⟨hc1_, h⟩
  · obtain ⟨rfl, rfl⟩ := ret_inj h
    exact (Fr.upo f0 rfl (by decide))
  · obtain ⟨r3_, d2_, hr4_, h⟩ := bd_some h
    have fd2_ : Fr wo_PB_miles [72] false d d2_ := Fr.tr (Fr.upo f0 rfl (by decide)) (fr_Ro_setMiles x1 x2 x3 (up2 d 0 0 s1) (Fr.g (Fr.upo f0 rfl (by decide)) hg) hr4_) (by decide) (by decide) (by decide)
    obtain ⟨rfl, rfl⟩ := ret_inj h
    exact fd2_
theorem fr_PB_miles_b36 {r : Int} {d' : Dt} (x1 x2 x3 s0 : Int) (d : Dt) (hg : d GH 0 ≤ 6) (h : L_PB_miles_b36 x1 x2 x3 s0 d = some (r, d')) : Fr wo_PB_miles [72] false d d' := by
  have f0 : Fr wo_PB_miles [72] false d d := Fr.rfl
  unfold L_PB_miles_b36 at h
  rcases ite_some h with ⟨hc6_, h⟩ | ⟨hc6_, h⟩
  · exact Fr.tr0 f0 (fr_PB_miles_b49 x1 x2 x3 s0 1 d (Fr.g f0 hg) h)
  · exact Fr.tr0 f0 (fr_PB_miles_b49 x1 x2 x3 s0 0 d (Fr.g f0 hg) h)
theorem fr_PB_miles {r : Int} {d' : Dt} (p1 p2 p3 : Int) (d : Dt) (hg : d GH 0 ≤ 6) (h : L_PB_miles p1 p2 p3 d = some (r, d')) : Fr wo_PB_miles [72] false d d' := by
  have f0 : Fr wo_PB_miles [72] false d d := Fr.rfl
  unfold L_PB_miles at h
  obtain ⟨r8_, d7_, hr9_, h⟩ := bd_some h
  have fd7_ : Fr wo_PB_miles [72] false d d7_ := Fr.tr f0 (fr_PB_isPlace p1 d (Fr.g f0 hg) hr9_) (by decide) (by decide) (by decide)
  rcases ite_some h with ⟨hc11_, h⟩ | ⟨hc11_, h⟩
  · exact Fr.tr0 fd7_ (fr_PB_miles_b36 p1 p2 p3 0 d7_ (Fr.g fd7_ hg) h)
  · obtain ⟨r13_, d12_, hr14_, h⟩ := bd_some h
    have fd12_ : Fr wo_PB_miles [72] false d d12_ := Fr.tr fd7_ (fr_PB_isPlace p2 d7_ (Fr.g fd7_ hg) hr14_) (by decide) (by decide) (by decide)
    rcases ite_some h with ⟨hc16_, h⟩ | ⟨hc16_, h⟩
    · exact Fr.tr0 fd12_ (fr_PB_miles_b36 p1 p2 p3 0 d12_ (Fr.g fd12_ hg) h)
    · rcases ite_some h with ⟨hc17_, h⟩ | ⟨hc17_, h⟩
      · exact Fr.tr0 fd12_ (fr_PB_miles_b36 p1 p2 p3 0 d12_ (Fr.g fd12_ hg) h)
      · obtain ⟨r19_, d18_, hr20_, h⟩ := bd_some h
        have fd18_ : Fr wo_PB_miles [72] false d d18_ := Fr.tr fd12_ (fr_PB_within p3 1 1000 d12_ (Fr.g fd12_ hg) hr20_) (by decide) (by decide) (by decide)
        rcases ite_some h with ⟨hc22_, h⟩ | ⟨hc22_, h⟩
        · exact Fr.tr0 fd18_ (fr_PB_miles_b36 p1 p2 p3 0 d18_ (Fr.g fd18_ hg) h)
        · exact Fr.tr0 fd18_ (fr_PB_miles_b36 p1 p2 p3 1 d18_ (Fr.g fd18_ hg) h)
/-! frames of PB_coachStatus -/
def wo_PB_coachStatus : List (Nat × Nat) := []
def he_PB_coachStatus_64 (r : (Dt) ⊕ (Dt)) : Dt := match r with
  | .inl q => q
  | .inr q => q
def hb_PB_coachStatus_64 (o : (Int × Int × Dt) ⊕ ((Dt) ⊕ (Dt))) : Dt := match o with
  | .inl q => q.2.2
  | .inr r => he_PB_coachStatus_64 r
theorem fr_PB_coachStatus_y64 {o : (Int × Int × Dt) ⊕ ((Dt) ⊕ (Dt))} (x2 x4 : Int) (d : Dt) (hg : d GH 0 ≤ 6) (h : L_PB_coachStatus_y64 x2 x4 d = some o) : Fr wo_PB_coachStatus [] false d (hb_PB_coachStatus_64 o) := by
  have f0 : Fr wo_PB_coachStatus [] false d d := Fr.rfl
  unfold L_PB_coachStatus_y64 at h
  rcases ite_some h with ⟨hc1_, h⟩ | ⟨hc1_, h⟩
  · obtain ⟨r3_, d2_, hr4_, h⟩ := bd_some h
    have fd2_ : Fr wo_PB_coachStatus [] false d d2_ := Fr.tr f0 (fr_Tr_at x2 x4 d (Fr.g f0 hg) hr4_) (by decide) (by decide) (by decide)
    obtain ⟨r7_, d6_, hr8_, h⟩ := bd_some h
    have fd6_ : Fr wo_PB_coachStatus [] false d d6_ := Fr.tr fd2_ (fr_PB_within r3_ 0 100 d2_ (Fr.g fd2_ hg) hr8_) (by decide) (by decide) (by decide)
    rcases ite_some h with ⟨hc10_, h⟩ | ⟨hc10_, h⟩
    · obtain rfl := Option.some.inj h
      exact fd6_
    · obtain rfl := Option.some.inj h
      exact fd6_
  · obtain rfl := Option.some.inj h
    exact f0
theorem fr_PB_coachStatus_l64 {x : (Dt) ⊕ (Dt)} (x2 x4 : Int) (d : Dt) (hg : d GH 0 ≤ 6) (h : L_PB_coachStatus_l64 x2 x4 d = some x) : Fr wo_PB_coachStatus [] false d (he_PB_coachStatus_64 x) :=
  lpF_fr (f := fun q : Int × Int × Dt => L_PB_coachStatus_y64 q.1 q.2.1 q.2.2) (fun q => q.2.2) he_PB_coachStatus_64 (fun q x hq hx => ⟨fun q2 e2 => by subst e2; exact fr_PB_coachStatus_y64 q.1 q.2.1 q.2.2 hq hx, fun r2 e2 => by subst e2; exact fr_PB_coachStatus_y64 q.1 q.2.1 q.2.2 hq hx⟩) FU _ x hg h
theorem fr_PB_coachStatus {r : Int} {d' : Dt} (p1 p2 p3 : Int) (d : Dt) (hg : d GH 0 ≤ 6) (h : L_PB_coachStatus p1 p2 p3 d = some (r, d')) : Fr wo_PB_coachStatus [] false d d' := by
  have f0 : Fr wo_PB_coachStatus [] false d d := Fr.rfl
  unfold L_PB_coachStatus at h
  obtain ⟨r12_, d11_, hr13_, h⟩ := bd_some h
  have fd11_ : Fr wo_PB_coachStatus [] false d d11_ := Fr.tr f0 (fr_PB_isPlace p1 d (Fr.g f0 hg) hr13_) (by decide) (by decide) (by decide)
  rcases ite_some h with ⟨hc15_, h⟩ | ⟨hc15_, h⟩
  · obtain ⟨rfl, rfl⟩ := ret_inj h
    exact fd11_
  · obtain ⟨r17_, d16_, hr18_, h⟩ := bd_some h
    have fd16_ : Fr wo_PB_coachStatus [] false d d16_ := Fr.tr fd11_ (fr_Tr_canBe p2 d11_ (Fr.g fd11_ hg) hr18_) (by decide) (by decide) (by decide)
    rcases ite_some h with ⟨hc20_, h⟩ | ⟨hc20_, h⟩
    · obtain ⟨rfl, rfl⟩ := ret_inj h
      exact fd16_
    · obtain ⟨r22_, d21_, hr23_, h⟩ := bd_some h
      have fd21_ : Fr wo_PB_coachStatus [] false d d21_ := Fr.tr fd16_ (fr_PB_within p3 1 20 d16_ (Fr.g fd16_ hg) hr23_) (by decide) (by decide) (by decide)
      rcases ite_some h with ⟨hc25_, h⟩ | ⟨hc25_, h⟩
      · obtain ⟨rfl, rfl⟩ := ret_inj h
        exact fd21_
      · obtain ⟨r27_, d26_, hr28_, h⟩ := bd_some h
        have fd26_ : Fr wo_PB_coachStatus [] false d d26_ := Fr.tr fd21_ (fr_Tr_isThere p2 d21_ (Fr.g fd21_ hg) hr28_) (by decide) (by decide) (by decide)
        rcases ite_some h with ⟨hc30_, h⟩ | ⟨hc30_, h⟩
        · obtain ⟨rfl, rfl⟩ := ret_inj h
          exact fd26_
        · obtain ⟨r32_, d31_, hr33_, h⟩ := bd_some h
          have fd31_ : Fr wo_PB_coachStatus [] false d d31_ := Fr.tr fd26_ (fr_Tr_reaches p2 0 7 d26_ (Fr.g fd26_ hg) hr33_) (by decide) (by decide) (by decide)
          rcases ite_some h with ⟨hc35_, h⟩ | ⟨hc35_, h⟩
          · obtain ⟨rfl, rfl⟩ := ret_inj h
            exact fd31_
          · obtain ⟨x36_, hx37_, h⟩ := lb_some h
            have fx36_ := Fr.tr0 fd31_ (fr_PB_coachStatus_l64 p2 0 d31_ (Fr.g fd31_ hg) hx37_)
            rcases x36_ with d38_ | d40_
            · have fd38_ : Fr wo_PB_coachStatus [] false d d38_ := fx36_
              replace h := sml_e h
              replace h := u0_e h
              obtain ⟨rfl, rfl⟩ := ret_inj h
              exact fd38_
            · have fd40_ : Fr wo_PB_coachStatus [] false d d40_ := fx36_
              replace h := smr_e h
              replace h := u0_e h
              obtain ⟨rfl, rfl⟩ := ret_inj h
              exact fd40_
/-! frames of Ro_setWaiting -/
def wo_Ro_setWaiting : List (Nat × Nat) := []
theorem fr_Ro_setWaiting {r : Int} {d' : Dt} (p1 p2 : Int) (d : Dt) (hg : d GH 0 ≤ 6) (h : L_Ro_setWaiting p1 p2 d = some (r, d')) : Fr wo_Ro_setWaiting [73] false d d' := by
  have f0 : Fr wo_Ro_setWaiting [73] false d d := Fr.rfl
  unfold L_Ro_setWaiting at h
  obtain ⟨hb1_, h⟩ := ck_some h
  obtain ⟨rfl, rfl⟩ := ret_inj h
  exact (Fr.upa f0 rfl (by decide))
/-! frames of Ro_fillLoads -/
def wo_Ro_fillLoads : List (Nat × Nat) := []
def he_Ro_fillLoads_21 (q : (Int × Dt)) : Dt := q.2
def hb_Ro_fillLoads_21 (o : (Int × Int × Dt) ⊕ ((Int × Dt))) : Dt := match o with
  | .inl q => q.2.2
  | .inr r => he_Ro_fillLoads_21 r
def he_Ro_fillLoads_2 (q : (Dt)) : Dt := q
def hb_Ro_fillLoads_2 (o : (Int × Dt) ⊕ ((Dt))) : Dt := match o with
  | .inl q => q.2
  | .inr r => he_Ro_fillLoads_2 r
theorem fr_Ro_fillLoads_y21 {o : (Int × Int × Dt) ⊕ ((Int × Dt))} (x1 x2 : Int) (d : Dt) (hg : d GH 0 ≤ 6) (h : L_Ro_fillLoads_y21 x1 x2 d = some o) : Fr wo_Ro_fillLoads [75] false d (hb_Ro_fillLoads_21 o) := by
  have f0 : Fr wo_Ro_fillLoads [75] false d d := Fr.rfl
  unfold L_Ro_fillLoads_y21 at h
  rcases ite_some h with ⟨hc2_, h⟩ | ⟨hc2_, h⟩
  · obtain ⟨hb3_, h⟩ := ck_some h
    obtain ⟨hb5_, h⟩ := ck_some h
    obtain ⟨hb7_, h⟩ := ck_some h
    obtain ⟨hb9_, h⟩ := ck_some h
    obtain rfl := Option.some.inj h
    exact (Fr.upa f0 rfl (by decide))
  · obtain rfl := Option.some.inj h
    exact f0
theorem fr_Ro_fillLoads_l21 {x : (Int × Dt)} (x1 x2 : Int) (d : Dt) (hg : d GH 0 ≤ 6) (h : L_Ro_fillLoads_l21 x1 x2 d = some x) : Fr wo_Ro_fillLoads [75] false d (he_Ro_fillLoads_21 x) :=
  lpF_fr (f := fun q : Int × Int × Dt => L_Ro_fillLoads_y21 q.1 q.2.1 q.2.2) (fun q => q.2.2) he_Ro_fillLoads_21 (fun q x hq hx => ⟨fun q2 e2 => by subst e2; exact fr_Ro_fillLoads_y21 q.1 q.2.1 q.2.2 hq hx, fun r2 e2 => by subst e2; exact fr_Ro_fillLoads_y21 q.1 q.2.1 q.2.2 hq hx⟩) FU _ x hg h
theorem fr_Ro_fillLoads_y2 {o : (Int × Dt) ⊕ ((Dt))} (x1 : Int) (d : Dt) (hg : d GH 0 ≤ 6) (h : L_Ro_fillLoads_y2 x1 d = some o) : Fr wo_Ro_fillLoads [75] false d (hb_Ro_fillLoads_2 o) := by
  have f0 : Fr wo_Ro_fillLoads [75] false d d := Fr.rfl
  unfold L_Ro_fillLoads_y2 at h
  rcases ite_some h with ⟨hc11_, h⟩ | ⟨hc11_, h⟩
  · obtain ⟨hb12_, h⟩ := ck_some h
    obtain ⟨x13_, hx14_, h⟩ := lb_some h
    have fx13_ := Fr.tr0 (Fr.upa f0 rfl (by decide)) (fr_Ro_fillLoads_l21 x1 0 (up2 d 75 x1.toNat 0) (Fr.g (Fr.upa f0 rfl (by decide)) hg) hx14_)
    obtain ⟨v15_, d16_⟩ := x13_
    have fd16_ : Fr wo_Ro_fillLoads [75] false d d16_ := fx13_
    replace h := u1_e h
    obtain rfl := Option.some.inj h
    exact fd16_
  · obtain rfl := Option.some.inj h
    exact f0
theorem fr_Ro_fillLoads_l2 {x : (Dt)} (x1 : Int) (d : Dt) (hg : d GH 0 ≤ 6) (h : L_Ro_fillLoads_l2 x1 d = some x) : Fr wo_Ro_fillLoads [75] false d (he_Ro_fillLoads_2 x) :=
  lpF_fr (f := fun q : Int × Dt => L_Ro_fillLoads_y2 q.1 q.2) (fun q => q.2) he_Ro_fillLoads_2 (fun q x hq hx => ⟨fun q2 e2 => by subst e2; exact fr_Ro_fillLoads_y2 q.1 q.2 hq hx, fun r2 e2 => by subst e2; exact fr_Ro_fillLoads_y2 q.1 q.2 hq hx⟩) FU _ x hg h
theorem fr_Ro_fillLoads {r : Int} {d' : Dt} (d : Dt) (hg : d GH 0 ≤ 6) (h : L_Ro_fillLoads d = some (r, d')) : Fr wo_Ro_fillLoads [75] false d d' := by
  have f0 : Fr wo_Ro_fillLoads [75] false d d := Fr.rfl
  unfold L_Ro_fillLoads at h
  obtain ⟨x19_, hx20_, h⟩ := lb_some h
  have fx19_ := Fr.tr0 f0 (fr_Ro_fillLoads_l2 0 d (Fr.g f0 hg) hx20_)
  obtain ⟨d21_, rfl⟩ : ∃ z, z = x19_ := ⟨_, rfl⟩
  have fd21_ : Fr wo_Ro_fillLoads [75] false d d21_ := fx19_
  replace h := u0_e h
  obtain ⟨rfl, rfl⟩ := ret_inj h
  exact fd21_
/-! frames of Ro_shortestTo -/
def wo_Ro_shortestTo : List (Nat × Nat) := []
def he_Ro_shortestTo_40 (q : (Int × Dt)) : Dt := q.2
def hb_Ro_shortestTo_40 (o : (Int × Int × Int × Int × Dt) ⊕ ((Int × Dt))) : Dt := match o with
  | .inl q => q.2.2.2.2
  | .inr r => he_Ro_shortestTo_40 r
theorem fr_Ro_shortestTo_b106 {o : (Int × Int × Int × Int × Dt) ⊕ ((Int × Dt))} (x3 x4 x5 x6 : Int) (d : Dt) (hg : d GH 0 ≤ 6) (h : L_Ro_shortestTo_b106 x3 x4 x5 x6 d = some o) : Fr wo_Ro_shortestTo [] false d (hb_Ro_shortestTo_40 o) := by
  have f0 : Fr wo_Ro_shortestTo [] false d d := Fr.rfl
  unfold L_Ro_shortestTo_b106 at h
  obtain rfl := Option.some.inj h
  exact f0
theorem fr_Ro_shortestTo_y40 {o : (Int × Int × Int × Int × Dt) ⊕ ((Int × Dt))} (x3 x4 x5 x6 : Int) (d : Dt) (hg : d GH 0 ≤ 6) (h : L_Ro_shortestTo_y40 x3 x4 x5 x6 d = some o) : Fr wo_Ro_shortestTo [] false d (hb_Ro_shortestTo_40 o) := by
  have f0 : Fr wo_Ro_shortestTo [] false d d := Fr.rfl
  unfold L_Ro_shortestTo_y40 at h
  rcases ite_some h with ⟨hc2_, h⟩ | ⟨hc2_, h⟩
  · rcases ite_some h with ⟨hc3_, h⟩ | ⟨hc3_, h⟩
    · exact Fr.tr0 f0 (fr_Ro_shortestTo_b106 x3 x4 x5 x6 d (Fr.g f0 hg) h)
    · obtain ⟨hb4_, h⟩ := ck_some h
      obtain ⟨hb6_, h⟩ := ck_some h
      obtain ⟨hb8_, h⟩ := ck_some h
      obtain ⟨v10_, ev11_, h⟩ := lt_some h
      obtain ⟨hb13_, h⟩ := ck_some h
      obtain ⟨v15_, ev16_, h⟩ := lt_some h
      exact Fr.tr0 f0 (fr_Ro_shortestTo_b106 x3 x4 v15_ x6 d (Fr.g f0 hg) h)
  · obtain rfl := Option.some.inj h
    exact f0
theorem fr_Ro_shortestTo_l40 {x : (Int × Dt)} (x3 x4 x5 x6 : Int) (d : Dt) (hg : d GH 0 ≤ 6) (h : L_Ro_shortestTo_l40 x3 x4 x5 x6 d = some x) : Fr wo_Ro_shortestTo [] false d (he_Ro_shortestTo_40 x) :=
  lpF_fr (f := fun q : Int × Int × Int × Int × Dt => L_Ro_shortestTo_y40 q.1 q.2.1 q.2.2.1 q.2.2.2.1 q.2.2.2.2) (fun q => q.2.2.2.2) he_Ro_shortestTo_40 (fun q x hq hx => ⟨fun q2 e2 => by subst e2; exact fr_Ro_shortestTo_y40 q.1 q.2.1 q.2.2.1 q.2.2.2.1 q.2.2.2.2 hq hx, fun r2 e2 => by subst e2; exact fr_Ro_shortestTo_y40 q.1 q.2.1 q.2.2.1 q.2.2.2.1 q.2.2.2.2 hq hx⟩) FU _ x hg h
theorem fr_Ro_shortestTo_b35 {r : Int} {d' : Dt} (x3 x4 s0 : Int) (d : Dt) (hg : d GH 0 ≤ 6) (h : L_Ro_shortestTo_b35 x3 x4 s0 d = some (r, d')) : Fr wo_Ro_shortestTo [] false d d' := by
  have f0 : Fr wo_Ro_shortestTo [] false d d := Fr.rfl
  unfold L_Ro_shortestTo_b35 at h
  obtain ⟨x18_, hx19_, h⟩ := lb_some h
  have fx18_ := Fr.tr0 f0 (fr_Ro_shortestTo_l40 x3 x4 s0 0 d (Fr.g f0 hg) hx19_)
  obtain ⟨v20_, d21_⟩ := x18_
  have fd21_ : Fr wo_Ro_shortestTo [] false d d21_ := fx18_
  replace h := u1_e h
  obtain ⟨rfl, rfl⟩ := ret_inj h
  exact fd21_
theorem fr_Ro_shortestTo {r : Int} {d' : Dt} (p1 p2 p3 : Int) (d : Dt) (hg : d GH 0 ≤ 6) (h : L_Ro_shortestTo p1 p2 p3 d = some (r, d')) : Fr wo_Ro_shortestTo [] false d d' := by
  have f0 : Fr wo_Ro_shortestTo [] false d d := Fr.rfl
  unfold L_Ro_shortestTo at h
  obtain ⟨v24_, ev25_, h⟩ := lt_some h
  rcases ite_some h with ⟨hc27_, h⟩ | ⟨hc27_, h⟩
  · obtain ⟨hb28_, h⟩ := ck_some h
    obtain ⟨hb30_, h⟩ := ck_some h
    exact Fr.tr0 f0 (fr_Ro_shortestTo_b35 p3 v24_ (d 72 ((w32 ((w32 (p1 * 7)) + (d 74 p3.toNat)))).toNat) d (Fr.g f0 hg) h)
  · exact Fr.tr0 f0 (fr_Ro_shortestTo_b35 p3 v24_ 1000000 d (Fr.g f0 hg) h)
/-! frames of Ro_fillOutward -/
def wo_Ro_fillOutward : List (Nat × Nat) := []
def he_Ro_fillOutward_14 (q : (Int × Int × Dt)) : Dt := q.2.2
def hb_Ro_fillOutward_14 (o : (Int × Int × Int × Dt) ⊕ ((Int × Int × Dt))) : Dt := match o with
  | .inl q => q.2.2.2
  | .inr r => he_Ro_fillOutward_14 r
def he_Ro_fillOutward_2 (q : (Dt)) : Dt := q
def hb_Ro_fillOutward_2 (o : (Int × Int × Dt) ⊕ ((Dt))) : Dt := match o with
  | .inl q => q.2.2
  | .inr r => he_Ro_fillOutward_2 r
theorem fr_Ro_fillOutward_b48 {o : (Int × Int × Int × Dt) ⊕ ((Int × Int × Dt))} (x1 x2 x3 : Int) (d : Dt) (hg : d GH 0 ≤ 6) (h : L_Ro_fillOutward_b48 x1 x2 x3 d = some o) : Fr wo_Ro_fillOutward [76] false d (hb_Ro_fillOutward_14 o) := by
  have f0 : Fr wo_Ro_fillOutward [76] false d d := Fr.rfl
  unfold L_Ro_fillOutward_b48 at h
  obtain rfl := Option.some.inj h
  exact f0
theorem fr_Ro_fillOutward_y14 {o : (Int × Int × Int × Dt) ⊕ ((Int × Int × Dt))} (x1 x2 x3 : Int) (d : Dt) (hg : d GH 0 ≤ 6) (h : L_Ro_fillOutward_y14 x1 x2 x3 d = some o) : Fr wo_Ro_fillOutward [76] false d (hb_Ro_fillOutward_14 o) := by
  have f0 : Fr wo_Ro_fillOutward [76] false d d := Fr.rfl
  unfold L_Ro_fillOutward_y14 at h
  rcases ite_some h with ⟨hc2_, h⟩ | ⟨hc2_, h⟩
  · rcases ite_some h with ⟨hc3_, h⟩ | ⟨hc3_, h⟩
    · exact Fr.tr0 f0 (fr_Ro_fillOutward_b48 x1 x2 x3 d (Fr.g f0 hg) h)
    · obtain ⟨r5_, d4_, hr6_, h⟩ := bd_some h
      have fd4_ : Fr wo_Ro_fillOutward [76] false d d4_ := Fr.tr f0 (fr_Ro_shortestTo x1 x2 x3 d (Fr.g f0 hg) hr6_) (by decide) (by decide) (by decide)
      obtain ⟨hb8_, h⟩ := ck_some h
      exact Fr.tr0 (Fr.upa fd4_ rfl (by decide)) (fr_Ro_fillOutward_b48 x1 x2 x3 (up2 d4_ 76 ((w32 ((w32 (x2 * 6)) + x3))).toNat r5_) (Fr.g (Fr.upa fd4_ rfl (by decide)) hg) h)
  · obtain rfl := Option.some.inj h
    exact f0
theorem fr_Ro_fillOutward_l14 {x : (Int × Int × Dt)} (x1 x2 x3 : Int) (d : Dt) (hg : d GH 0 ≤ 6) (h : L_Ro_fillOutward_l14 x1 x2 x3 d = some x) : Fr wo_Ro_fillOutward [76] false d (he_Ro_fillOutward_14 x) :=
  lpF_fr (f := fun q : Int × Int × Int × Dt => L_Ro_fillOutward_y14 q.1 q.2.1 q.2.2.1 q.2.2.2) (fun q => q.2.2.2) he_Ro_fillOutward_14 (fun q x hq hx => ⟨fun q2 e2 => by subst e2; exact fr_Ro_fillOutward_y14 q.1 q.2.1 q.2.2.1 q.2.2.2 hq hx, fun r2 e2 => by subst e2; exact fr_Ro_fillOutward_y14 q.1 q.2.1 q.2.2.1 q.2.2.2 hq hx⟩) FU _ x hg h
theorem fr_Ro_fillOutward_y2 {o : (Int × Int × Dt) ⊕ ((Dt))} (x1 x2 : Int) (d : Dt) (hg : d GH 0 ≤ 6) (h : L_Ro_fillOutward_y2 x1 x2 d = some o) : Fr wo_Ro_fillOutward [76] false d (hb_Ro_fillOutward_2 o) := by
  have f0 : Fr wo_Ro_fillOutward [76] false d d := Fr.rfl
  unfold L_Ro_fillOutward_y2 at h
  rcases ite_some h with ⟨hc10_, h⟩ | ⟨hc10_, h⟩
  · obtain ⟨x11_, hx12_, h⟩ := lb_some h
    have fx11_ := Fr.tr0 f0 (fr_Ro_fillOutward_l14 x1 x2 0 d (Fr.g f0 hg) hx12_)
    obtain ⟨v13_, v14_, d15_⟩ := x11_
    have fd15_ : Fr wo_Ro_fillOutward [76] false d d15_ := fx11_
    replace h := u2_e h
    obtain rfl := Option.some.inj h
    exact fd15_
  · obtain rfl := Option.some.inj h
    exact f0
theorem fr_Ro_fillOutward_l2 {x : (Dt)} (x1 x2 : Int) (d : Dt) (hg : d GH 0 ≤ 6) (h : L_Ro_fillOutward_l2 x1 x2 d = some x) : Fr wo_Ro_fillOutward [76] false d (he_Ro_fillOutward_2 x) :=
  lpF_fr (f := fun q : Int × Int × Dt => L_Ro_fillOutward_y2 q.1 q.2.1 q.2.2) (fun q => q.2.2) he_Ro_fillOutward_2 (fun q x hq hx => ⟨fun q2 e2 => by subst e2; exact fr_Ro_fillOutward_y2 q.1 q.2.1 q.2.2 hq hx, fun r2 e2 => by subst e2; exact fr_Ro_fillOutward_y2 q.1 q.2.1 q.2.2 hq hx⟩) FU _ x hg h
theorem fr_Ro_fillOutward {r : Int} {d' : Dt} (p1 : Int) (d : Dt) (hg : d GH 0 ≤ 6) (h : L_Ro_fillOutward p1 d = some (r, d')) : Fr wo_Ro_fillOutward [76] false d d' := by
  have f0 : Fr wo_Ro_fillOutward [76] false d d := Fr.rfl
  unfold L_Ro_fillOutward at h
  obtain ⟨x18_, hx19_, h⟩ := lb_some h
  have fx18_ := Fr.tr0 f0 (fr_Ro_fillOutward_l2 p1 1 d (Fr.g f0 hg) hx19_)
  obtain ⟨d20_, rfl⟩ : ∃ z, z = x18_ := ⟨_, rfl⟩
  have fd20_ : Fr wo_Ro_fillOutward [76] false d d20_ := fx18_
  replace h := u0_e h
  obtain ⟨rfl, rfl⟩ := ret_inj h
  exact fd20_
/-! frames of Ro_fillTours -/
def wo_Ro_fillTours : List (Nat × Nat) := []
def he_Ro_fillTours_22 (q : (Int × Int × Dt)) : Dt := q.2.2
def hb_Ro_fillTours_22 (o : (Int × Int × Int × Dt) ⊕ ((Int × Int × Dt))) : Dt := match o with
  | .inl q => q.2.2.2
  | .inr r => he_Ro_fillTours_22 r
def he_Ro_fillTours_2 (q : (Dt)) : Dt := q
def hb_Ro_fillTours_2 (o : (Int × Int × Dt) ⊕ ((Dt))) : Dt := match o with
  | .inl q => q.2.2
  | .inr r => he_Ro_fillTours_2 r
theorem fr_Ro_fillTours_b85 {o : (Int × Int × Int × Dt) ⊕ ((Int × Int × Dt))} (x1 x2 x3 : Int) (d : Dt) (hg : d GH 0 ≤ 6) (h : L_Ro_fillTours_b85 x1 x2 x3 d = some o) : Fr wo_Ro_fillTours [77] false d (hb_Ro_fillTours_22 o) := by
  have f0 : Fr wo_Ro_fillTours [77] false d d := Fr.rfl
  unfold L_Ro_fillTours_b85 at h
  obtain rfl := Option.some.inj h
  exact f0
theorem fr_Ro_fillTours_y22 {o : (Int × Int × Int × Dt) ⊕ ((Int × Int × Dt))} (x1 x2 x3 : Int) (d : Dt) (hg : d GH 0 ≤ 6) (h : L_Ro_fillTours_y22 x1 x2 x3 d = some o) : Fr wo_Ro_fillTours [77] false d (hb_Ro_fillTours_22 o) := by
  have f0 : Fr wo_Ro_fillTours [77] false d d := Fr.rfl
  unfold L_Ro_fillTours_y22 at h
  rcases ite_some h with ⟨hc2_, h⟩ | ⟨hc2_, h⟩
  · rcases ite_some h with ⟨hc3_, h⟩ | ⟨hc3_, h⟩
    · exact Fr.tr0 f0 (fr_Ro_fillTours_b85 x1 x2 x3 d (Fr.g f0 hg) h)
    · obtain ⟨hb4_, h⟩ := ck_some h
      obtain ⟨hb6_, h⟩ := ck_some h
      obtain ⟨v8_, ev9_, h⟩ := lt_some h
      obtain ⟨hb11_, h⟩ := ck_some h
      obtain ⟨hb13_, h⟩ := ck_some h
      obtain ⟨hb15_, h⟩ := ck_some h
      exact Fr.tr0 (Fr.upa f0 rfl (by decide)) (fr_Ro_fillTours_b85 x1 x2 x3 (up2 d 77 x2.toNat (jmin (d 77 x2.toNat) (w32 ((d 76 ((w32 ((w32 (x2 * 6)) + x3))).toNat) + v8_)))) (Fr.g (Fr.upa f0 rfl (by decide)) hg) h)
  · obtain rfl := Option.some.inj h
    exact f0
theorem fr_Ro_fillTours_l22 {x : (Int × Int × Dt)} (x1 x2 x3 : Int) (d : Dt) (hg : d GH 0 ≤ 6) (h : L_Ro_fillTours_l22 x1 x2 x3 d = some x) : Fr wo_Ro_fillTours [77] false d (he_Ro_fillTours_22 x) :=
  lpF_fr (f := fun q : Int × Int × Int × Dt => L_Ro_fillTours_y22 q.1 q.2.1 q.2.2.1 q.2.2.2) (fun q => q.2.2.2) he_Ro_fillTours_22 (fun q x hq hx => ⟨fun q2 e2 => by subst e2; exact fr_Ro_fillTours_y22 q.1 q.2.1 q.2.2.1 q.2.2.2 hq hx, fun r2 e2 => by subst e2; exact fr_Ro_fillTours_y22 q.1 q.2.1 q.2.2.1 q.2.2.2 hq hx⟩) FU _ x hg h
theorem fr_Ro_fillTours_y2 {o : (Int × Int × Dt) ⊕ ((Dt))} (x1 x2 : Int) (d : Dt) (hg : d GH 0 ≤ 6) (h : L_Ro_fillTours_y2 x1 x2 d = some o) : Fr wo_Ro_fillTours [77] false d (hb_Ro_fillTours_2 o) := by
  have f0 : Fr wo_Ro_fillTours [77] false d d := Fr.rfl
  unfold L_Ro_fillTours_y2 at h
  rcases ite_some h with ⟨hc17_, h⟩ | ⟨hc17_, h⟩
  · obtain ⟨hb18_, h⟩ := ck_some h
    obtain ⟨x19_, hx20_, h⟩ := lb_some h
    have fx19_ := Fr.tr0 (Fr.upa f0 rfl (by decide)) (fr_Ro_fillTours_l22 x1 x2 0 (up2 d 77 x2.toNat 1000000) (Fr.g (Fr.upa f0 rfl (by decide)) hg) hx20_)
    obtain ⟨v21_, v22_, d23_⟩ := x19_
    have fd23_ : Fr wo_Ro_fillTours [77] false d d23_ := fx19_
    replace h := u2_e h
    obtain rfl := Option.some.inj h
    exact fd23_
  · obtain rfl := Option.some.inj h
    exact f0
theorem fr_Ro_fillTours_l2 {x : (Dt)} (x1 x2 : Int) (d : Dt) (hg : d GH 0 ≤ 6) (h : L_Ro_fillTours_l2 x1 x2 d = some x) : Fr wo_Ro_fillTours [77] false d (he_Ro_fillTours_2 x) :=
  lpF_fr (f := fun q : Int × Int × Dt => L_Ro_fillTours_y2 q.1 q.2.1 q.2.2) (fun q => q.2.2) he_Ro_fillTours_2 (fun q x hq hx => ⟨fun q2 e2 => by subst e2; exact fr_Ro_fillTours_y2 q.1 q.2.1 q.2.2 hq hx, fun r2 e2 => by subst e2; exact fr_Ro_fillTours_y2 q.1 q.2.1 q.2.2 hq hx⟩) FU _ x hg h
theorem fr_Ro_fillTours {r : Int} {d' : Dt} (p1 : Int) (d : Dt) (hg : d GH 0 ≤ 6) (h : L_Ro_fillTours p1 d = some (r, d')) : Fr wo_Ro_fillTours [77] false d d' := by
  have f0 : Fr wo_Ro_fillTours [77] false d d := Fr.rfl
  unfold L_Ro_fillTours at h
  obtain ⟨x26_, hx27_, h⟩ := lb_some h
  have fx26_ := Fr.tr0 f0 (fr_Ro_fillTours_l2 p1 1 d (Fr.g f0 hg) hx27_)
  obtain ⟨d28_, rfl⟩ : ∃ z, z = x26_ := ⟨_, rfl⟩
  have fd28_ : Fr wo_Ro_fillTours [77] false d d28_ := fx26_
  replace h := u0_e h
  obtain ⟨rfl, rfl⟩ := ret_inj h
  exact fd28_
/-! frames of Ro_shareOut -/
def wo_Ro_shareOut : List (Nat × Nat) := []
def he_Ro_shareOut_40 (q : (Int × Int × Int × Dt)) : Dt := q.2.2.2
def hb_Ro_shareOut_40 (o : (Int × Int × Int × Int × Int × Dt) ⊕ ((Int × Int × Int × Dt))) : Dt := match o with
  | .inl q => q.2.2.2.2.2
  | .inr r => he_Ro_shareOut_40 r
def he_Ro_shareOut_18 (q : (Int × Dt)) : Dt := q.2
def hb_Ro_shareOut_18 (o : (Int × Int × Int × Dt) ⊕ ((Int × Dt))) : Dt := match o with
  | .inl q => q.2.2.2
  | .inr r => he_Ro_shareOut_18 r
theorem fr_Ro_shareOut_b107 {o : (Int × Int × Int × Int × Int × Dt) ⊕ ((Int × Int × Int × Dt))} (x1 x2 x3 x4 x5 : Int) (d : Dt) (hg : d GH 0 ≤ 6) (h : L_Ro_shareOut_b107 x1 x2 x3 x4 x5 d = some o) : Fr wo_Ro_shareOut [78] false d (hb_Ro_shareOut_40 o) := by
  have f0 : Fr wo_Ro_shareOut [78] false d d := Fr.rfl
  unfold L_Ro_shareOut_b107 at h
  obtain ⟨v1_, ev2_, h⟩ := lt_some h
  obtain rfl := Option.some.inj h
  exact f0
theorem fr_Ro_shareOut_y40 {o : (Int × Int × Int × Int × Int × Dt) ⊕ ((Int × Int × Int × Dt))} (x1 x2 x3 x4 x5 : Int) (d : Dt) (hg : d GH 0 ≤ 6) (h : L_Ro_shareOut_y40 x1 x2 x3 x4 x5 d = some o) : Fr wo_Ro_shareOut [78] false d (hb_Ro_shareOut_40 o) := by
  have f0 : Fr wo_Ro_shareOut [78] false d d := Fr.rfl
  unfold L_Ro_shareOut_y40 at h
  rcases ite_some h with ⟨hc4_, h⟩ | ⟨hc4_, h⟩
  · rcases ite_some h with ⟨hc5_, h⟩ | ⟨hc5_, h⟩
    · exact Fr.tr0 f0 (fr_Ro_shareOut_b107 x1 x2 x3 x4 x5 d (Fr.g f0 hg) h)
    · obtain ⟨hb6_, h⟩ := ck_some h
      rcases ite_some h with ⟨hc8_, h⟩ | ⟨hc8_, h⟩
      · exact Fr.tr0 f0 (fr_Ro_shareOut_b107 x1 x2 x3 x4 x5 d (Fr.g f0 hg) h)
      · obtain ⟨hb9_, h⟩ := ck_some h
        obtain ⟨hb11_, h⟩ := ck_some h
        obtain ⟨v13_, ev14_, h⟩ := lt_some h
        obtain ⟨hb16_, h⟩ := ck_some h
        obtain ⟨hb18_, h⟩ := ck_some h
        exact Fr.tr0 (Fr.upa f0 rfl (by decide)) (fr_Ro_shareOut_b107 x1 x2 x3 x4 x5 (up2 d 78 x3.toNat (jmin (d 78 x3.toNat) v13_)) (Fr.g (Fr.upa f0 rfl (by decide)) hg) h)
  · obtain rfl := Option.some.inj h
    exact f0
theorem fr_Ro_shareOut_l40 {x : (Int × Int × Int × Dt)} (x1 x2 x3 x4 x5 : Int) (d : Dt) (hg : d GH 0 ≤ 6) (h : L_Ro_shareOut_l40 x1 x2 x3 x4 x5 d = some x) : Fr wo_Ro_shareOut [78] false d (he_Ro_shareOut_40 x) :=
  lpF_fr (f := fun q : Int × Int × Int × Int × Int × Dt => L_Ro_shareOut_y40 q.1 q.2.1 q.2.2.1 q.2.2.2.1 q.2.2.2.2.1 q.2.2.2.2.2) (fun q => q.2.2.2.2.2) he_Ro_shareOut_40 (fun q x hq hx => ⟨fun q2 e2 => by subst e2; exact fr_Ro_shareOut_y40 q.1 q.2.1 q.2.2.1 q.2.2.2.1 q.2.2.2.2.1 q.2.2.2.2.2 hq hx, fun r2 e2 => by subst e2; exact fr_Ro_shareOut_y40 q.1 q.2.1 q.2.2.1 q.2.2.2.1 q.2.2.2.2.1 q.2.2.2.2.2 hq hx⟩) FU _ x hg h
theorem fr_Ro_shareOut_y18 {o : (Int × Int × Int × Dt) ⊕ ((Int × Dt))} (x1 x2 x3 : Int) (d : Dt) (hg : d GH 0 ≤ 6) (h : L_Ro_shareOut_y18 x1 x2 x3 d = some o) : Fr wo_Ro_shareOut [78] false d (hb_Ro_shareOut_18 o) := by
  have f0 : Fr wo_Ro_shareOut [78] false d d := Fr.rfl
  unfold L_Ro_shareOut_y18 at h
  rcases ite_some h with ⟨hc19_, h⟩ | ⟨hc19_, h⟩
  · obtain rfl := Option.some.inj h
    exact f0
  · obtain ⟨v20_, ev21_, h⟩ := lt_some h
    obtain ⟨hb23_, h⟩ := ck_some h
    obtain ⟨x24_, hx25_, h⟩ := lb_some h
    have fx24_ := Fr.tr0 (Fr.upa f0 rfl (by decide)) (fr_Ro_shareOut_l40 x1 x2 x3 v20_ x3 (up2 d 78 x3.toNat 64000000) (Fr.g (Fr.upa f0 rfl (by decide)) hg) hx25_)
    obtain ⟨v26_, v27_, v28_, d29_⟩ := x24_
    have fd29_ : Fr wo_Ro_shareOut [78] false d d29_ := fx24_
    replace h := u3_e h
    obtain rfl := Option.some.inj h
    exact fd29_
theorem fr_Ro_shareOut_l18 {x : (Int × Dt)} (x1 x2 x3 : Int) (d : Dt) (hg : d GH 0 ≤ 6) (h : L_Ro_shareOut_l18 x1 x2 x3 d = some x) : Fr wo_Ro_shareOut [78] false d (he_Ro_shareOut_18 x) :=
  lpF_fr (f := fun q : Int × Int × Int × Dt => L_Ro_shareOut_y18 q.1 q.2.1 q.2.2.1 q.2.2.2) (fun q => q.2.2.2) he_Ro_shareOut_18 (fun q x hq hx => ⟨fun q2 e2 => by subst e2; exact fr_Ro_shareOut_y18 q.1 q.2.1 q.2.2.1 q.2.2.2 hq hx, fun r2 e2 => by subst e2; exact fr_Ro_shareOut_y18 q.1 q.2.1 q.2.2.1 q.2.2.2 hq hx⟩) FU _ x hg h
theorem fr_Ro_shareOut {r : Int} {d' : Dt} (p1 : Int) (d : Dt) (hg : d GH 0 ≤ 6) (h : L_Ro_shareOut p1 d = some (r, d')) : Fr wo_Ro_shareOut [78] false d d' := by
  have f0 : Fr wo_Ro_shareOut [78] false d d := Fr.rfl
  unfold L_Ro_shareOut at h
  obtain ⟨v33_, ev34_, h⟩ := lt_some h
  obtain ⟨x36_, hx37_, h⟩ := lb_some h
  have fx36_ := Fr.tr0 (Fr.upa f0 rfl (by decide)) (fr_Ro_shareOut_l18 p1 v33_ 1 (up2 d 78 0 0) (Fr.g (Fr.upa f0 rfl (by decide)) hg) hx37_)
  obtain ⟨v38_, d39_⟩ := x36_
  have fd39_ : Fr wo_Ro_shareOut [78] false d d39_ := fx36_
  replace h := u1_e h
  obtain ⟨hb41_, h⟩ := ck_some h
  obtain ⟨rfl, rfl⟩ := ret_inj h
  exact fd39_
/-! frames of Ro_send -/
def wo_Ro_send : List (Nat × Nat) := [(71, 7), (71, 8)]
def he_Ro_send_13 (q : (Int × Int × Int × Int × Dt)) : Dt := q.2.2.2.2
def hb_Ro_send_13 (o : (Int × Int × Int × Int × Int × Dt) ⊕ ((Int × Int × Int × Int × Dt))) : Dt := match o with
  | .inl q => q.2.2.2.2.2
  | .inr r => he_Ro_send_13 r
theorem fr_Ro_send_b131 {o : (Int × Int × Int × Int × Int × Dt) ⊕ ((Int × Int × Int × Int × Dt))} (x1 x2 x3 x4 x5 : Int) (d : Dt) (hg : d GH 0 ≤ 6) (h : L_Ro_send_b131 x1 x2 x3 x4 x5 d = some o) : Fr wo_Ro_send [73, 74, 75, 76, 77, 78] false d (hb_Ro_send_13 o) := by
  have f0 : Fr wo_Ro_send [73, 74, 75, 76, 77, 78] false d d := Fr.rfl
  unfold L_Ro_send_b131 at h
  obtain rfl := Option.some.inj h
  exact f0
theorem fr_Ro_send_b48 {o : (Int × Int × Int × Int × Int × Dt) ⊕ ((Int × Int × Int × Int × Dt))} (x1 x2 x3 x4 x5 s0 : Int) (d : Dt) (hg : d GH 0 ≤ 6) (h : L_Ro_send_b48 x1 x2 x3 x4 x5 s0 d = some o) : Fr wo_Ro_send [73, 74, 75, 76, 77, 78] false d (hb_Ro_send_13 o) := by
  have f0 : Fr wo_Ro_send [73, 74, 75, 76, 77, 78] false d d := Fr.rfl
  unfold L_Ro_send_b48 at h
  obtain ⟨hb1_, h⟩ := ck_some h
  obtain ⟨v3_, ev4_, h⟩ := lt_some h
  obtain ⟨v6_, ev7_, h⟩ := lt_some h
  obtain ⟨hb9_, h⟩ := ck_some h
  obtain ⟨hb11_, h⟩ := ck_some h
  obtain ⟨hb12_, h⟩ := ck_some h
  rcases ite_some h with ⟨hc14_, h⟩ | ⟨hc14_, h⟩
  · rcases ite_some h with ⟨hc16_, h⟩ | ⟨hc16_, h⟩
    · obtain ⟨hb18_, h⟩ := ck_some h
      exact Fr.tr0 (Fr.upo (Fr.upa (Fr.upa f0 rfl (by decide)) rfl (by decide)) rfl (by decide)) (fr_Ro_send_b131 x1 x2 v3_ v6_ x5 (up2 (up2 (up2 d 73 x5.toNat (w32 ((d 73 x5.toNat) - (w32 (s0 * x2))))) 74 ((d 71 7)).toNat x5) 71 7 (w32 ((d 71 7) + 1))) (Fr.g (Fr.upo (Fr.upa (Fr.upa f0 rfl (by decide)) rfl (by decide)) rfl (by decide)) hg) h)
    · exact Fr.tr0 (Fr.upa f0 rfl (by decide)) (fr_Ro_send_b131 x1 x2 v3_ v6_ x5 (up2 d 73 x5.toNat (w32 ((d 73 x5.toNat) - (w32 (s0 * x2))))) (Fr.g (Fr.upa f0 rfl (by decide)) hg) h)
  · exact Fr.tr0 (Fr.upa f0 rfl (by decide)) (fr_Ro_send_b131 x1 x2 v3_ v6_ x5 (up2 d 73 x5.toNat (w32 ((d 73 x5.toNat) - (w32 (s0 * x2))))) (Fr.g (Fr.upa f0 rfl (by decide)) hg) h)
theorem fr_Ro_send_y13 {o : (Int × Int × Int × Int × Int × Dt) ⊕ ((Int × Int × Int × Int × Dt))} (x1 x2 x3 x4 x5 : Int) (d : Dt) (hg : d GH 0 ≤ 6) (h : L_Ro_send_y13 x1 x2 x3 x4 x5 d = some o) : Fr wo_Ro_send [73, 74, 75, 76, 77, 78] false d (hb_Ro_send_13 o) := by
  have f0 : Fr wo_Ro_send [73, 74, 75, 76, 77, 78] false d d := Fr.rfl
  unfold L_Ro_send_y13 at h
  rcases ite_some h with ⟨hc20_, h⟩ | ⟨hc20_, h⟩
  · obtain ⟨hb21_, h⟩ := ck_some h
    rcases ite_some h with ⟨hc23_, h⟩ | ⟨hc23_, h⟩
    · rcases ite_some h with ⟨hc24_, h⟩ | ⟨hc24_, h⟩
      · obtain ⟨hb25_, h⟩ := ck_some h
        obtain ⟨hc27_, h⟩ := ck_some h
        exact Fr.tr0 f0 (fr_Ro_send_b48 x1 x2 x3 x4 x5 (idiv (d 73 x5.toNat) x2) d (Fr.g f0 hg) h)
      · exact Fr.tr0 f0 (fr_Ro_send_b48 x1 x2 x3 x4 x5 0 d (Fr.g f0 hg) h)
    · exact Fr.tr0 f0 (fr_Ro_send_b48 x1 x2 x3 x4 x5 0 d (Fr.g f0 hg) h)
  · obtain rfl := Option.some.inj h
    exact f0
theorem fr_Ro_send_l13 {x : (Int × Int × Int × Int × Dt)} (x1 x2 x3 x4 x5 : Int) (d : Dt) (hg : d GH 0 ≤ 6) (h : L_Ro_send_l13 x1 x2 x3 x4 x5 d = some x) : Fr wo_Ro_send [73, 74, 75, 76, 77, 78] false d (he_Ro_send_13 x) :=
  lpF_fr (f := fun q : Int × Int × Int × Int × Int × Dt => L_Ro_send_y13 q.1 q.2.1 q.2.2.1 q.2.2.2.1 q.2.2.2.2.1 q.2.2.2.2.2) (fun q => q.2.2.2.2.2) he_Ro_send_13 (fun q x hq hx => ⟨fun q2 e2 => by subst e2; exact fr_Ro_send_y13 q.1 q.2.1 q.2.2.1 q.2.2.2.1 q.2.2.2.2.1 q.2.2.2.2.2 hq hx, fun r2 e2 => by subst e2; exact fr_Ro_send_y13 q.1 q.2.1 q.2.2.1 q.2.2.2.1 q.2.2.2.2.1 q.2.2.2.2.2 hq hx⟩) FU _ x hg h
theorem fr_Ro_send {r : Int} {d' : Dt} (p1 p2 : Int) (d : Dt) (hg : d GH 0 ≤ 6) (h : L_Ro_send p1 p2 d = some (r, d')) : Fr wo_Ro_send [73, 74, 75, 76, 77, 78] false d d' := by
  have f0 : Fr wo_Ro_send [73, 74, 75, 76, 77, 78] false d d := Fr.rfl
  unfold L_Ro_send at h
  obtain ⟨x28_, hx29_, h⟩ := lb_some h
  have fx28_ := Fr.tr0 (Fr.upo f0 rfl (by decide)) (fr_Ro_send_l13 p1 p2 0 0 0 (up2 d 71 7 0) (Fr.g (Fr.upo f0 rfl (by decide)) hg) hx29_)
  obtain ⟨v30_, v31_, v32_, v33_, d34_⟩ := x28_
  have fd34_ : Fr wo_Ro_send [73, 74, 75, 76, 77, 78] false d d34_ := fx28_
  replace h := u4_e h
  obtain ⟨r37_, d36_, hr38_, h⟩ := bd_some h
  have fd36_ : Fr wo_Ro_send [73, 74, 75, 76, 77, 78] false d d36_ := Fr.tr fd34_ (fr_Ro_fillLoads  d34_ (Fr.g fd34_ hg) hr38_) (by decide) (by decide) (by decide)
  obtain ⟨r41_, d40_, hr42_, h⟩ := bd_some h
  have fd40_ : Fr wo_Ro_send [73, 74, 75, 76, 77, 78] false d d40_ := Fr.tr fd36_ (fr_Ro_fillOutward v30_ d36_ (Fr.g fd36_ hg) hr42_) (by decide) (by decide) (by decide)
  obtain ⟨r45_, d44_, hr46_, h⟩ := bd_some h
  have fd44_ : Fr wo_Ro_send [73, 74, 75, 76, 77, 78] false d d44_ := Fr.tr fd40_ (fr_Ro_fillTours v30_ d40_ (Fr.g fd40_ hg) hr46_) (by decide) (by decide) (by decide)
  obtain ⟨r49_, d48_, hr50_, h⟩ := bd_some h
  have fd48_ : Fr wo_Ro_send [73, 74, 75, 76, 77, 78] false d d48_ := Fr.tr fd44_ (fr_Ro_shareOut v31_ d44_ (Fr.g fd44_ hg) hr50_) (by decide) (by decide) (by decide)
  obtain ⟨rfl, rfl⟩ := ret_inj h
  exact (Fr.upo fd48_ rfl (by decide))
/-! frames of PB_coaches -/
def wo_PB_coaches : List (Nat × Nat) := [(0, 0), (71, 7), (71, 8)]
def he_PB_coaches_23 (q : (Int × Int × Dt)) : Dt := q.2.2
def hb_PB_coaches_23 (o : (Int × Int × Int × Int × Dt) ⊕ ((Int × Int × Dt))) : Dt := match o with
  | .inl q => q.2.2.2.2
  | .inr r => he_PB_coaches_23 r
theorem fr_PB_coaches_b57 {o : (Int × Int × Int × Int × Dt) ⊕ ((Int × Int × Dt))} (x1 x2 x3 x4 s1 s2 : Int) (d : Dt) (hg : d GH 0 ≤ 6) (h : L_PB_coaches_b57 x1 x2 x3 x4 s1 s2 d = some o) : Fr wo_PB_coaches [73, 74, 75, 76, 77, 78] false d (hb_PB_coaches_23 o) := by
  have f0 : Fr wo_PB_coaches [73, 74, 75, 76, 77, 78] false d d := Fr.rfl
  unfold L_PB_coaches_b57 at h
  obtain ⟨r2_, d1_, hr3_, h⟩ := bd_some h
  have fd1_ : Fr wo_PB_coaches [73, 74, 75, 76, 77, 78] false d d1_ := Fr.tr f0 (fr_Ro_setWaiting s1 s2 d (Fr.g f0 hg) hr3_) (by decide) (by decide) (by decide)
  obtain rfl := Option.some.inj h
  exact fd1_
theorem fr_PB_coaches_y23 {o : (Int × Int × Int × Int × Dt) ⊕ ((Int × Int × Dt))} (x1 x2 x3 x4 : Int) (d : Dt) (hg : d GH 0 ≤ 6) (h : L_PB_coaches_y23 x1 x2 x3 x4 d = some o) : Fr wo_PB_coaches [73, 74, 75, 76, 77, 78] false d (hb_PB_coaches_23 o) := by
  have f0 : Fr wo_PB_coaches [73, 74, 75, 76, 77, 78] false d d := Fr.rfl
  unfold L_PB_coaches_y23 at h
  rcases ite_some h with ⟨hc5_, h⟩ | ⟨hc5_, h⟩
  · rcases ite_some h with ⟨hc6_, h⟩ | ⟨hc6_, h⟩
    · exact Fr.tr0 f0 (fr_PB_coaches_b57 x1 x2 x3 x4 x4 0 d (Fr.g f0 hg) h)
    · obtain ⟨r8_, d7_, hr9_, h⟩ := bd_some h
      have fd7_ : Fr wo_PB_coaches [73, 74, 75, 76, 77, 78] false d d7_ := Fr.tr f0 (fr_Tr_at x2 x4 d (Fr.g f0 hg) hr9_) (by decide) (by decide) (by decide)
      exact Fr.tr0 fd7_ (fr_PB_coaches_b57 x1 x2 x3 x4 x4 (w32 r8_) d7_ (Fr.g fd7_ hg) h)
  · obtain rfl := Option.some.inj h
    exact f0
theorem fr_PB_coaches_l23 {x : (Int × Int × Dt)} (x1 x2 x3 x4 : Int) (d : Dt) (hg : d GH 0 ≤ 6) (h : L_PB_coaches_l23 x1 x2 x3 x4 d = some x) : Fr wo_PB_coaches [73, 74, 75, 76, 77, 78] false d (he_PB_coaches_23 x) :=
  lpF_fr (f := fun q : Int × Int × Int × Int × Dt => L_PB_coaches_y23 q.1 q.2.1 q.2.2.1 q.2.2.2.1 q.2.2.2.2) (fun q => q.2.2.2.2) he_PB_coaches_23 (fun q x hq hx => ⟨fun q2 e2 => by subst e2; exact fr_PB_coaches_y23 q.1 q.2.1 q.2.2.1 q.2.2.2.1 q.2.2.2.2 hq hx, fun r2 e2 => by subst e2; exact fr_PB_coaches_y23 q.1 q.2.1 q.2.2.1 q.2.2.2.1 q.2.2.2.2 hq hx⟩) FU _ x hg h
theorem fr_PB_coaches {r : Int} {d' : Dt} (p1 p2 p3 : Int) (d : Dt) (hg : d GH 0 ≤ 6) (h : L_PB_coaches p1 p2 p3 d = some (r, d')) : Fr wo_PB_coaches [73, 74, 75, 76, 77, 78] false d d' := by
  have f0 : Fr wo_PB_coaches [73, 74, 75, 76, 77, 78] false d d := Fr.rfl
  unfold L_PB_coaches at h
  obtain ⟨r12_, d11_, hr13_, h⟩ := bd_some h
  have fd11_ : Fr wo_PB_coaches [73, 74, 75, 76, 77, 78] false d d11_ := Fr.tr f0 (fr_PB_coachStatus p1 p2 p3 d (Fr.g f0 hg) hr13_) (by decide) (by decide) (by decide)
  rcases ite_some h with ⟨hc16_, h⟩ | ⟨hc16_, h⟩
  · obtain ⟨x17_, hx18_, h⟩ := lb_some h
    have fx17_ := Fr.tr0 (Fr.upo fd11_ rfl (by decide)) (fr_PB_coaches_l23 p1 p2 p3 0 (up2 d11_ 0 0 r12_) (Fr.g (Fr.upo fd11_ rfl (by decide)) hg) hx18_)
    obtain ⟨v19_, v20_, d21_⟩ := x17_
    have fd21_ : Fr wo_PB_coaches [73, 74, 75, 76, 77, 78] false d d21_ := fx17_
    replace h := u2_e h
    obtain ⟨r24_, d23_, hr25_, h⟩ := bd_some h
    have fd23_ : Fr wo_PB_coaches [73, 74, 75, 76, 77, 78] false d d23_ := Fr.tr fd21_ (fr_Ro_send v19_ v20_ d21_ (Fr.g fd21_ hg) hr25_) (by decide) (by decide) (by decide)
    obtain ⟨rfl, rfl⟩ := ret_inj h
    exact fd23_
  · obtain ⟨rfl, rfl⟩ := ret_inj h
    exact (Fr.upo fd11_ rfl (by decide))
/-! frames of Ro_coachesSent -/
def wo_Ro_coachesSent : List (Nat × Nat) := []
theorem fr_Ro_coachesSent {r : Int} {d' : Dt} (d : Dt) (hg : d GH 0 ≤ 6) (h : L_Ro_coachesSent d = some (r, d')) : Fr wo_Ro_coachesSent [] false d d' := by
  have f0 : Fr wo_Ro_coachesSent [] false d d := Fr.rfl
  unfold L_Ro_coachesSent at h
  obtain ⟨rfl, rfl⟩ := ret_inj h
  exact f0
/-! frames of PB_coachMany -/
def wo_PB_coachMany : List (Nat × Nat) := [(0, 0)]
theorem fr_PB_coachMany_b20 {r : Int} {d' : Dt} (x1 s1 : Int) (d : Dt) (hg : d GH 0 ≤ 6) (h : L_PB_coachMany_b20 x1 s1 d = some (r, d')) : Fr wo_PB_coachMany [] false d d' := by
  have f0 : Fr wo_PB_coachMany [] false d d := Fr.rfl
  unfold L_PB_coachMany_b20 at h
  obtain ⟨rfl, rfl⟩ := ret_inj h
  exact (Fr.upo f0 rfl (by decide))
theorem fr_PB_coachMany {r : Int} {d' : Dt} (d : Dt) (hg : d GH 0 ≤ 6) (h : L_PB_coachMany d = some (r, d')) : Fr wo_PB_coachMany [] false d d' := by
  have f0 : Fr wo_PB_coachMany [] false d d := Fr.rfl
  unfold L_PB_coachMany at h
  obtain ⟨r2_, d1_, hr3_, h⟩ := bd_some h
  have fd1_ : Fr wo_PB_coachMany [] false d d1_ := Fr.tr f0 (fr_Ro_coachesSent  d (Fr.g f0 hg) hr3_) (by decide) (by decide) (by decide)
  rcases ite_some h with ⟨hc5_, h⟩ | ⟨hc5_, h⟩
  · exact Fr.tr0 fd1_ (fr_PB_coachMany_b20 r2_ 6 d1_ (Fr.g fd1_ hg) h)
  · exact Fr.tr0 fd1_ (fr_PB_coachMany_b20 r2_ 0 d1_ (Fr.g fd1_ hg) h)
/-! frames of Mo_status -/
def wo_Mo_status : List (Nat × Nat) := []
theorem fr_Mo_status {r : Int} {d' : Dt} (d : Dt) (hg : d GH 0 ≤ 6) (h : L_Mo_status d = some (r, d')) : Fr wo_Mo_status [] false d d' := by
  have f0 : Fr wo_Mo_status [] false d d := Fr.rfl
  unfold L_Mo_status at h
  obtain ⟨rfl, rfl⟩ := ret_inj h
  exact f0
/-! frames of Mo_isTray -/
def wo_Mo_isTray : List (Nat × Nat) := []
theorem fr_Mo_isTray {r : Int} {d' : Dt} (p1 : Int) (d : Dt) (hg : d GH 0 ≤ 6) (h : L_Mo_isTray p1 d = some (r, d')) : Fr wo_Mo_isTray [] false d d' := by
  have f0 : Fr wo_Mo_isTray [] false d d := Fr.rfl
  unfold L_Mo_isTray at h
  rcases ite_some h with ⟨hc1_, h⟩ | ⟨hc1_, h⟩
  · obtain ⟨rfl, rfl⟩ := ret_inj h
    exact f0
  · rcases ite_some h with ⟨hc2_, h⟩ | ⟨hc2_, h⟩
    · obtain ⟨rfl, rfl⟩ := ret_inj h
      exact f0
    · obtain ⟨rfl, rfl⟩ := ret_inj h
      exact f0
/-! frames of Mo_is -/
def wo_Mo_is : List (Nat × Nat) := [(0, 0)]
theorem fr_Mo_is {r : Int} {d' : Dt} (p1 : Int) (d : Dt) (hg : d GH 0 ≤ 6) (h : L_Mo_is p1 d = some (r, d')) : Fr wo_Mo_is [] false d d' := by
  have f0 : Fr wo_Mo_is [] false d d := Fr.rfl
  unfold L_Mo_is at h
  rcases ite_some h with ⟨hc1_, h⟩ | ⟨hc1_, h⟩
  · obtain ⟨rfl, rfl⟩ := ret_inj h
    exact (Fr.upo f0 rfl (by decide))
  · obtain ⟨rfl, rfl⟩ := ret_inj h
    exact (Fr.upo f0 rfl (by decide))
/-! frames of Mo_tray -/
def wo_Mo_tray : List (Nat × Nat) := [(0, 0)]
def he_Mo_tray_49 (q : (Dt)) : Dt := q
def hb_Mo_tray_49 (o : (Int × Int × Int × Dt) ⊕ ((Dt))) : Dt := match o with
  | .inl q => q.2.2.2
  | .inr r => he_Mo_tray_49 r
theorem fr_Mo_tray_y49 {o : (Int × Int × Int × Dt) ⊕ ((Dt))} (x1 x3 x4 : Int) (d : Dt) (hg : d GH 0 ≤ 6) (h : L_Mo_tray_y49 x1 x3 x4 d = some o) : Fr wo_Mo_tray [1, 2, 3] false d (hb_Mo_tray_49 o) := by
  have f0 : Fr wo_Mo_tray [1, 2, 3] false d d := Fr.rfl
  unfold L_Mo_tray_y49 at h
  rcases ite_some h with ⟨hc1_, h⟩ | ⟨hc1_, h⟩
  · obtain ⟨hb2_, h⟩ := ck_some h
    obtain rfl := Option.some.inj h
    exact (Fr.upa f0 rfl (by decide))
  · obtain rfl := Option.some.inj h
    exact f0
theorem fr_Mo_tray_l49 {x : (Dt)} (x1 x3 x4 : Int) (d : Dt) (hg : d GH 0 ≤ 6) (h : L_Mo_tray_l49 x1 x3 x4 d = some x) : Fr wo_Mo_tray [1, 2, 3] false d (he_Mo_tray_49 x) :=
  lpF_fr (f := fun q : Int × Int × Int × Dt => L_Mo_tray_y49 q.1 q.2.1 q.2.2.1 q.2.2.2) (fun q => q.2.2.2) he_Mo_tray_49 (fun q x hq hx => ⟨fun q2 e2 => by subst e2; exact fr_Mo_tray_y49 q.1 q.2.1 q.2.2.1 q.2.2.2 hq hx, fun r2 e2 => by subst e2; exact fr_Mo_tray_y49 q.1 q.2.1 q.2.2.1 q.2.2.2 hq hx⟩) FU _ x hg h
theorem fr_Mo_tray_b26 {r : Int} {d' : Dt} (d : Dt) (hg : d GH 0 ≤ 6) (h : L_Mo_tray_b26 d = some (r, d')) : Fr wo_Mo_tray [1, 2, 3] false d d' := by
  have f0 : Fr wo_Mo_tray [1, 2, 3] false d d := Fr.rfl
  unfold L_Mo_tray_b26 at h
  obtain ⟨r4_, d3_, hr5_, h⟩ := bd_some h
  have fd3_ : Fr wo_Mo_tray [1, 2, 3] false d d3_ := Fr.tr f0 (fr_Mo_is 1 d (Fr.g f0 hg) hr5_) (by decide) (by decide) (by decide)
  obtain ⟨rfl, rfl⟩ := ret_inj h
  exact fd3_
theorem fr_Mo_tray {r : Int} {d' : Dt} (p1 p2 p3 : Int) (d : Dt) (hg : d GH 0 ≤ 6) (h : L_Mo_tray p1 p2 p3 d = some (r, d')) : Fr wo_Mo_tray [1, 2, 3] false d d' := by
  have f0 : Fr wo_Mo_tray [1, 2, 3] false d d := Fr.rfl
  unfold L_Mo_tray at h
  obtain ⟨r8_, d7_, hr9_, h⟩ := bd_some h
  have fd7_ : Fr wo_Mo_tray [1, 2, 3] false d d7_ := Fr.tr f0 (fr_Mo_isTray p1 d (Fr.g f0 hg) hr9_) (by decide) (by decide) (by decide)
  rcases ite_some h with ⟨hc11_, h⟩ | ⟨hc11_, h⟩
  · exact Fr.tr0 fd7_ (fr_Mo_tray_b26  d7_ (Fr.g fd7_ hg) h)
  · rcases ite_some h with ⟨hc12_, h⟩ | ⟨hc12_, h⟩
    · exact Fr.tr0 fd7_ (fr_Mo_tray_b26  d7_ (Fr.g fd7_ hg) h)
    · rcases ite_some h with ⟨hc13_, h⟩ | ⟨hc13_, h⟩
      · exact Fr.tr0 fd7_ (fr_Mo_tray_b26  d7_ (Fr.g fd7_ hg) h)
      · rcases ite_some h with ⟨hc14_, h⟩ | ⟨hc14_, h⟩
        · exact Fr.tr0 fd7_ (fr_Mo_tray_b26  d7_ (Fr.g fd7_ hg) h)
        · rcases ite_some h with ⟨hc15_, h⟩ | ⟨hc15_, h⟩
          · exact Fr.tr0 fd7_ (fr_Mo_tray_b26  d7_ (Fr.g fd7_ hg) h)
          · obtain ⟨hb16_, h⟩ := ck_some h
            obtain ⟨hb17_, h⟩ := ck_some h
            obtain ⟨x18_, hx19_, h⟩ := lb_some h
            have fx18_ := Fr.tr0 (Fr.upa (Fr.upa fd7_ rfl (by decide)) rfl (by decide)) (fr_Mo_tray_l49 p1 p3 0 (up2 (up2 d7_ 1 p1.toNat p2) 2 p1.toNat p3) (Fr.g (Fr.upa (Fr.upa fd7_ rfl (by decide)) rfl (by decide)) hg) hx19_)
            obtain ⟨d20_, rfl⟩ : ∃ z, z = x18_ := ⟨_, rfl⟩
            have fd20_ : Fr wo_Mo_tray [1, 2, 3] false d d20_ := fx18_
            replace h := u0_e h
            obtain ⟨r23_, d22_, hr24_, h⟩ := bd_some h
            have fd22_ : Fr wo_Mo_tray [1, 2, 3] false d d22_ := Fr.tr fd20_ (fr_Mo_is 0 d20_ (Fr.g fd20_ hg) hr24_) (by decide) (by decide) (by decide)
            obtain ⟨rfl, rfl⟩ := ret_inj h
            exact fd22_
/-! frames of Mo_wrongPlace -/
def wo_Mo_wrongPlace : List (Nat × Nat) := []
theorem fr_Mo_wrongPlace {r : Int} {d' : Dt} (p1 p2 : Int) (d : Dt) (hg : d GH 0 ≤ 6) (h : L_Mo_wrongPlace p1 p2 d = some (r, d')) : Fr wo_Mo_wrongPlace [] false d d' := by
  have f0 : Fr wo_Mo_wrongPlace [] false d d := Fr.rfl
  unfold L_Mo_wrongPlace at h
  obtain ⟨r2_, d1_, hr3_, h⟩ := bd_some h
  have fd1_ : Fr wo_Mo_wrongPlace [] false d d1_ := Fr.tr f0 (fr_Mo_isTray p1 d (Fr.g f0 hg) hr3_) (by decide) (by decide) (by decide)
  rcases ite_some h with ⟨hc5_, h⟩ | ⟨hc5_, h⟩
  · obtain ⟨rfl, rfl⟩ := ret_inj h
    exact fd1_
  · obtain ⟨hb6_, h⟩ := ck_some h
    rcases ite_some h with ⟨hc8_, h⟩ | ⟨hc8_, h⟩
    · obtain ⟨rfl, rfl⟩ := ret_inj h
      exact fd1_
    · rcases ite_some h with ⟨hc9_, h⟩ | ⟨hc9_, h⟩
      · obtain ⟨rfl, rfl⟩ := ret_inj h
        exact fd1_
      · obtain ⟨hb10_, h⟩ := ck_some h
        rcases ite_some h with ⟨hc12_, h⟩ | ⟨hc12_, h⟩
        · obtain ⟨rfl, rfl⟩ := ret_inj h
          exact fd1_
        · obtain ⟨rfl, rfl⟩ := ret_inj h
          exact fd1_
/-! frames of Mo_cut -/
def wo_Mo_cut : List (Nat × Nat) := []
theorem fr_Mo_cut {r : Int} {d' : Dt} (p1 p2 : Int) (d : Dt) (hg : d GH 0 ≤ 6) (h : L_Mo_cut p1 p2 d = some (r, d')) : Fr wo_Mo_cut [] false d d' := by
  have f0 : Fr wo_Mo_cut [] false d d := Fr.rfl
  unfold L_Mo_cut at h
  rcases ite_some h with ⟨hc1_, h⟩ | ⟨hc1_, h⟩
  · obtain ⟨rfl, rfl⟩ := ret_inj h
    exact f0
  · rcases ite_some h with ⟨hc2_, h⟩ | ⟨hc2_, h⟩
    · obtain ⟨rfl, rfl⟩ := ret_inj h
      exact f0
    · rcases ite_some h with ⟨hc3_, h⟩ | ⟨hc3_, h⟩
      · obtain ⟨rfl, rfl⟩ := ret_inj h
        exact f0
      · obtain ⟨rfl, rfl⟩ := ret_inj h
        exact f0
/-! frames of Mo_write -/
def wo_Mo_write : List (Nat × Nat) := [(0, 0)]
theorem fr_Mo_write_b34 {r : Int} {d' : Dt} (x5 : Int) (d : Dt) (hg : d GH 0 ≤ 6) (h : L_Mo_write_b34 x5 d = some (r, d')) : Fr wo_Mo_write [3] false d d' := by
  have f0 : Fr wo_Mo_write [3] false d d := Fr.rfl
  unfold L_Mo_write_b34 at h
  obtain ⟨r2_, d1_, hr3_, h⟩ := bd_some h
  have fd1_ : Fr wo_Mo_write [3] false d d1_ := Fr.tr f0 (fr_Mo_is x5 d (Fr.g f0 hg) hr3_) (by decide) (by decide) (by decide)
  obtain ⟨rfl, rfl⟩ := ret_inj h
  exact fd1_
theorem fr_Mo_write {r : Int} {d' : Dt} (p1 p2 p3 : Int) (d : Dt) (hg : d GH 0 ≤ 6) (h : L_Mo_write p1 p2 p3 d = some (r, d')) : Fr wo_Mo_write [3] false d d' := by
  have f0 : Fr wo_Mo_write [3] false d d := Fr.rfl
  unfold L_Mo_write at h
  obtain ⟨r6_, d5_, hr7_, h⟩ := bd_some h
  have fd5_ : Fr wo_Mo_write [3] false d d5_ := Fr.tr f0 (fr_Mo_wrongPlace p1 p2 d (Fr.g f0 hg) hr7_) (by decide) (by decide) (by decide)
  rcases ite_some h with ⟨hc9_, h⟩ | ⟨hc9_, h⟩
  · obtain ⟨hb10_, h⟩ := ck_some h
    obtain ⟨r13_, d12_, hr14_, h⟩ := bd_some h
    have fd12_ : Fr wo_Mo_write [3] false d d12_ := Fr.tr fd5_ (fr_Mo_cut p3 (d5_ 1 p1.toNat) d5_ (Fr.g fd5_ hg) hr14_) (by decide) (by decide) (by decide)
    obtain ⟨hb16_, h⟩ := ck_some h
    exact Fr.tr0 (Fr.upa fd12_ rfl (by decide)) (fr_Mo_write_b34 r6_ (up2 d12_ 3 ((w32 ((w32 (60 * p1)) + p2))).toNat r13_) (Fr.g (Fr.upa fd12_ rfl (by decide)) hg) h)
  · exact Fr.tr0 fd5_ (fr_Mo_write_b34 r6_ d5_ (Fr.g fd5_ hg) h)
/-! frames of Mo_read -/
def wo_Mo_read : List (Nat × Nat) := [(0, 0)]
theorem fr_Mo_read {r : Int} {d' : Dt} (p1 p2 : Int) (d : Dt) (hg : d GH 0 ≤ 6) (h : L_Mo_read p1 p2 d = some (r, d')) : Fr wo_Mo_read [] false d d' := by
  have f0 : Fr wo_Mo_read [] false d d := Fr.rfl
  unfold L_Mo_read at h
  obtain ⟨r2_, d1_, hr3_, h⟩ := bd_some h
  have fd1_ : Fr wo_Mo_read [] false d d1_ := Fr.tr f0 (fr_Mo_wrongPlace p1 p2 d (Fr.g f0 hg) hr3_) (by decide) (by decide) (by decide)
  rcases ite_some h with ⟨hc6_, h⟩ | ⟨hc6_, h⟩
  · obtain ⟨rfl, rfl⟩ := ret_inj h
    exact (Fr.upo fd1_ rfl (by decide))
  · obtain ⟨hb7_, h⟩ := ck_some h
    obtain ⟨rfl, rfl⟩ := ret_inj h
    exact (Fr.upo fd1_ rfl (by decide))
/-! frames of Mo_pour -/
def wo_Mo_pour : List (Nat × Nat) := [(0, 0)]
def he_Mo_pour_118 (q : (Dt)) : Dt := q
def hb_Mo_pour_118 (o : (Int × Int × Int × Int × Int × Int × Dt) ⊕ ((Dt))) : Dt := match o with
  | .inl q => q.2.2.2.2.2.2
  | .inr r => he_Mo_pour_118 r
theorem fr_Mo_pour_b143 {o : (Int × Int × Int × Int × Int × Int × Dt) ⊕ ((Dt))} (x1 x2 x3 x4 x5 x6 s0 : Int) (d : Dt) (hg : d GH 0 ≤ 6) (h : L_Mo_pour_b143 x1 x2 x3 x4 x5 x6 s0 d = some o) : Fr wo_Mo_pour [3] false d (hb_Mo_pour_118 o) := by
  have f0 : Fr wo_Mo_pour [3] false d d := Fr.rfl
  unfold L_Mo_pour_b143 at h
  obtain ⟨hb1_, h⟩ := ck_some h
  obtain ⟨hb3_, h⟩ := ck_some h
  obtain rfl := Option.some.inj h
  exact (Fr.upa f0 rfl (by decide))
theorem fr_Mo_pour_y118 {o : (Int × Int × Int × Int × Int × Int × Dt) ⊕ ((Dt))} (x1 x2 x3 x4 x5 x6 : Int) (d : Dt) (hg : d GH 0 ≤ 6) (h : L_Mo_pour_y118 x1 x2 x3 x4 x5 x6 d = some o) : Fr wo_Mo_pour [3] false d (hb_Mo_pour_118 o) := by
  have f0 : Fr wo_Mo_pour [3] false d d := Fr.rfl
  unfold L_Mo_pour_y118 at h
  rcases ite_some h with ⟨hc4_, h⟩ | ⟨hc4_, h⟩
  · rcases ite_some h with ⟨hc5_, h⟩ | ⟨hc5_, h⟩
    · exact Fr.tr0 f0 (fr_Mo_pour_b143 x1 x2 x3 x4 x5 x6 (w32 ((w32 (x5 - 1)) - x6)) d (Fr.g f0 hg) h)
    · exact Fr.tr0 f0 (fr_Mo_pour_b143 x1 x2 x3 x4 x5 x6 x6 d (Fr.g f0 hg) h)
  · obtain rfl := Option.some.inj h
    exact f0
theorem fr_Mo_pour_l118 {x : (Dt)} (x1 x2 x3 x4 x5 x6 : Int) (d : Dt) (hg : d GH 0 ≤ 6) (h : L_Mo_pour_l118 x1 x2 x3 x4 x5 x6 d = some x) : Fr wo_Mo_pour [3] false d (he_Mo_pour_118 x) :=
  lpF_fr (f := fun q : Int × Int × Int × Int × Int × Int × Dt => L_Mo_pour_y118 q.1 q.2.1 q.2.2.1 q.2.2.2.1 q.2.2.2.2.1 q.2.2.2.2.2.1 q.2.2.2.2.2.2) (fun q => q.2.2.2.2.2.2) he_Mo_pour_118 (fun q x hq hx => ⟨fun q2 e2 => by subst e2; exact fr_Mo_pour_y118 q.1 q.2.1 q.2.2.1 q.2.2.2.1 q.2.2.2.2.1 q.2.2.2.2.2.1 q.2.2.2.2.2.2 hq hx, fun r2 e2 => by subst e2; exact fr_Mo_pour_y118 q.1 q.2.1 q.2.2.1 q.2.2.2.1 q.2.2.2.2.1 q.2.2.2.2.2.1 q.2.2.2.2.2.2 hq hx⟩) FU _ x hg h
theorem fr_Mo_pour_b28 {r : Int} {d' : Dt} (d : Dt) (hg : d GH 0 ≤ 6) (h : L_Mo_pour_b28 d = some (r, d')) : Fr wo_Mo_pour [3] false d d' := by
  have f0 : Fr wo_Mo_pour [3] false d d := Fr.rfl
  unfold L_Mo_pour_b28 at h
  obtain ⟨r7_, d6_, hr8_, h⟩ := bd_some h
  have fd6_ : Fr wo_Mo_pour [3] false d d6_ := Fr.tr f0 (fr_Mo_is 1 d (Fr.g f0 hg) hr8_) (by decide) (by decide) (by decide)
  obtain ⟨rfl, rfl⟩ := ret_inj h
  exact fd6_
theorem fr_Mo_pour_b54 {r : Int} {d' : Dt} (d : Dt) (hg : d GH 0 ≤ 6) (h : L_Mo_pour_b54 d = some (r, d')) : Fr wo_Mo_pour [3] false d d' := by
  have f0 : Fr wo_Mo_pour [3] false d d := Fr.rfl
  unfold L_Mo_pour_b54 at h
  obtain ⟨r11_, d10_, hr12_, h⟩ := bd_some h
  have fd10_ : Fr wo_Mo_pour [3] false d d10_ := Fr.tr f0 (fr_Mo_is 2 d (Fr.g f0 hg) hr12_) (by decide) (by decide) (by decide)
  obtain ⟨rfl, rfl⟩ := ret_inj h
  exact fd10_
theorem fr_Mo_pour_b109 {r : Int} {d' : Dt} (d : Dt) (hg : d GH 0 ≤ 6) (h : L_Mo_pour_b109 d = some (r, d')) : Fr wo_Mo_pour [3] false d d' := by
  have f0 : Fr wo_Mo_pour [3] false d d := Fr.rfl
  unfold L_Mo_pour_b109 at h
  obtain ⟨r15_, d14_, hr16_, h⟩ := bd_some h
  have fd14_ : Fr wo_Mo_pour [3] false d d14_ := Fr.tr f0 (fr_Mo_is 3 d (Fr.g f0 hg) hr16_) (by decide) (by decide) (by decide)
  obtain ⟨rfl, rfl⟩ := ret_inj h
  exact fd14_
theorem fr_Mo_pour {r : Int} {d' : Dt} (p1 p2 p3 p4 p5 : Int) (d : Dt) (hg : d GH 0 ≤ 6) (h : L_Mo_pour p1 p2 p3 p4 p5 d = some (r, d')) : Fr wo_Mo_pour [3] false d d' := by
  have f0 : Fr wo_Mo_pour [3] false d d := Fr.rfl
  unfold L_Mo_pour at h
  obtain ⟨r19_, d18_, hr20_, h⟩ := bd_some h
  have fd18_ : Fr wo_Mo_pour [3] false d d18_ := Fr.tr f0 (fr_Mo_isTray p1 d (Fr.g f0 hg) hr20_) (by decide) (by decide) (by decide)
  rcases ite_some h with ⟨hc22_, h⟩ | ⟨hc22_, h⟩
  · exact Fr.tr0 fd18_ (fr_Mo_pour_b28  d18_ (Fr.g fd18_ hg) h)
  · obtain ⟨r24_, d23_, hr25_, h⟩ := bd_some h
    have fd23_ : Fr wo_Mo_pour [3] false d d23_ := Fr.tr fd18_ (fr_Mo_isTray p3 d18_ (Fr.g fd18_ hg) hr25_) (by decide) (by decide) (by decide)
    rcases ite_some h with ⟨hc27_, h⟩ | ⟨hc27_, h⟩
    · exact Fr.tr0 fd23_ (fr_Mo_pour_b28  d23_ (Fr.g fd23_ hg) h)
    · rcases ite_some h with ⟨hc28_, h⟩ | ⟨hc28_, h⟩
      · exact Fr.tr0 fd23_ (fr_Mo_pour_b28  d23_ (Fr.g fd23_ hg) h)
      · rcases ite_some h with ⟨hc29_, h⟩ | ⟨hc29_, h⟩
        · exact Fr.tr0 fd23_ (fr_Mo_pour_b28  d23_ (Fr.g fd23_ hg) h)
        · rcases ite_some h with ⟨hc30_, h⟩ | ⟨hc30_, h⟩
          · exact Fr.tr0 fd23_ (fr_Mo_pour_b28  d23_ (Fr.g fd23_ hg) h)
          · obtain ⟨hb31_, h⟩ := ck_some h
            rcases ite_some h with ⟨hc33_, h⟩ | ⟨hc33_, h⟩
            · exact Fr.tr0 fd23_ (fr_Mo_pour_b54  d23_ (Fr.g fd23_ hg) h)
            · obtain ⟨hb34_, h⟩ := ck_some h
              rcases ite_some h with ⟨hc36_, h⟩ | ⟨hc36_, h⟩
              · exact Fr.tr0 fd23_ (fr_Mo_pour_b54  d23_ (Fr.g fd23_ hg) h)
              · obtain ⟨hb37_, h⟩ := ck_some h
                obtain ⟨hb39_, h⟩ := ck_some h
                rcases ite_some h with ⟨hc41_, h⟩ | ⟨hc41_, h⟩
                · obtain ⟨hb42_, h⟩ := ck_some h
                  rcases ite_some h with ⟨hc44_, h⟩ | ⟨hc44_, h⟩
                  · exact Fr.tr0 fd23_ (fr_Mo_pour_b109  d23_ (Fr.g fd23_ hg) h)
                  · obtain ⟨hb45_, h⟩ := ck_some h
                    rcases ite_some h with ⟨hc47_, h⟩ | ⟨hc47_, h⟩
                    · exact Fr.tr0 fd23_ (fr_Mo_pour_b109  d23_ (Fr.g fd23_ hg) h)
                    · obtain ⟨x48_, hx49_, h⟩ := lb_some h
                      have fx48_ := Fr.tr0 fd23_ (fr_Mo_pour_l118 p1 p2 p3 p4 p5 0 d23_ (Fr.g fd23_ hg) hx49_)
                      obtain ⟨d50_, rfl⟩ : ∃ z, z = x48_ := ⟨_, rfl⟩
                      have fd50_ : Fr wo_Mo_pour [3] false d d50_ := fx48_
                      replace h := u0_e h
                      obtain ⟨r53_, d52_, hr54_, h⟩ := bd_some h
                      have fd52_ : Fr wo_Mo_pour [3] false d d52_ := Fr.tr fd50_ (fr_Mo_is 0 d50_ (Fr.g fd50_ hg) hr54_) (by decide) (by decide) (by decide)
                      obtain ⟨rfl, rfl⟩ := ret_inj h
                      exact fd52_
                · obtain ⟨r58_, d57_, hr59_, h⟩ := bd_some h
                  have fd57_ : Fr wo_Mo_pour [3] false d d57_ := Fr.tr fd23_ (fr_Mo_is 8 d23_ (Fr.g fd23_ hg) hr59_) (by decide) (by decide) (by decide)
                  obtain ⟨rfl, rfl⟩ := ret_inj h
                  exact fd57_
/-! frames of Mo_isName -/
def wo_Mo_isName : List (Nat × Nat) := []
def he_Mo_isName_20 (q : (Int × Dt)) : Dt := q.2
def hb_Mo_isName_20 (o : (Int × Int × Dt) ⊕ ((Int × Dt))) : Dt := match o with
  | .inl q => q.2.2
  | .inr r => he_Mo_isName_20 r
theorem fr_Mo_isName_b57 {o : (Int × Int × Dt) ⊕ ((Int × Dt))} (x3 s0 : Int) (d : Dt) (hg : d GH 0 ≤ 6) (h : L_Mo_isName_b57 x3 s0 d = some o) : Fr wo_Mo_isName [] false d (hb_Mo_isName_20 o) := by
  have f0 : Fr wo_Mo_isName [] false d d := Fr.rfl
  unfold L_Mo_isName_b57 at h
  obtain ⟨v1_, ev2_, h⟩ := lt_some h
  obtain rfl := Option.some.inj h
  exact f0
theorem fr_Mo_isName_y20 {o : (Int × Int × Dt) ⊕ ((Int × Dt))} (x2 x3 : Int) (d : Dt) (hg : d GH 0 ≤ 6) (h : L_Mo_isName_y20 x2 x3 d = some o) : Fr wo_Mo_isName [] false d (hb_Mo_isName_20 o) := by
  have f0 : Fr wo_Mo_isName [] false d d := Fr.rfl
  unfold L_Mo_isName_y20 at h
  rcases ite_some h with ⟨hc4_, h⟩ | ⟨hc4_, h⟩
  · rcases ite_some h with ⟨hc5_, h⟩ | ⟨hc5_, h⟩
    · exact Fr.tr0 f0 (fr_Mo_isName_b57 x3 0 d (Fr.g f0 hg) h)
    · rcases ite_some h with ⟨hc6_, h⟩ | ⟨hc6_, h⟩
      · exact Fr.tr0 f0 (fr_Mo_isName_b57 x3 0 d (Fr.g f0 hg) h)
      · rcases ite_some h with ⟨hc7_, h⟩ | ⟨hc7_, h⟩
        · exact Fr.tr0 f0 (fr_Mo_isName_b57 x3 0 d (Fr.g f0 hg) h)
        · exact Fr.tr0 f0 (fr_Mo_isName_b57 x3 1 d (Fr.g f0 hg) h)
  · obtain rfl := Option.some.inj h
    exact f0
theorem fr_Mo_isName_l20 {x : (Int × Dt)} (x2 x3 : Int) (d : Dt) (hg : d GH 0 ≤ 6) (h : L_Mo_isName_l20 x2 x3 d = some x) : Fr wo_Mo_isName [] false d (he_Mo_isName_20 x) :=
  lpF_fr (f := fun q : Int × Int × Dt => L_Mo_isName_y20 q.1 q.2.1 q.2.2) (fun q => q.2.2) he_Mo_isName_20 (fun q x hq hx => ⟨fun q2 e2 => by subst e2; exact fr_Mo_isName_y20 q.1 q.2.1 q.2.2 hq hx, fun r2 e2 => by subst e2; exact fr_Mo_isName_y20 q.1 q.2.1 q.2.2 hq hx⟩) FU _ x hg h
theorem fr_Mo_isName {r : Int} {d' : Dt} (p1 : Int) (d : Dt) (hg : d GH 0 ≤ 6) (h : L_Mo_isName p1 d = some (r, d')) : Fr wo_Mo_isName [] false d d' := by
  have f0 : Fr wo_Mo_isName [] false d d := Fr.rfl
  unfold L_Mo_isName at h
  rcases ite_some h with ⟨hc8_, h⟩ | ⟨hc8_, h⟩
  · obtain ⟨rfl, rfl⟩ := ret_inj h
    exact f0
  · rcases ite_some h with ⟨hc9_, h⟩ | ⟨hc9_, h⟩
    · obtain ⟨x10_, hx11_, h⟩ := lb_some h
      have fx10_ := Fr.tr0 f0 (fr_Mo_isName_l20 1 p1 d (Fr.g f0 hg) hx11_)
      obtain ⟨v12_, d13_⟩ := x10_
      have fd13_ : Fr wo_Mo_isName [] false d d13_ := fx10_
      replace h := u1_e h
      obtain ⟨rfl, rfl⟩ := ret_inj h
      exact fd13_
    · obtain ⟨rfl, rfl⟩ := ret_inj h
      exact f0
/-! frames of Mo_lettersOf -/
def wo_Mo_lettersOf : List (Nat × Nat) := []
def he_Mo_lettersOf_5 (q : (Int × Dt)) : Dt := q.2
def hb_Mo_lettersOf_5 (o : (Int × Int × Dt) ⊕ ((Int × Dt))) : Dt := match o with
  | .inl q => q.2.2
  | .inr r => he_Mo_lettersOf_5 r
theorem fr_Mo_lettersOf_y5 (arr1 len1 : Nat) {o : (Int × Int × Dt) ⊕ ((Int × Dt))} (x3 x4 : Int) (d : Dt) (hg : d GH 0 ≤ 6) (hnarr1 : arr1 ≠ GH) (h : L_Mo_lettersOf_y5 arr1 len1 x3 x4 d = some o) : Fr wo_Mo_lettersOf [arr1] false d (hb_Mo_lettersOf_5 o) := by
  have f0 : Fr wo_Mo_lettersOf [arr1] false d d := Fr.rfl
  unfold L_Mo_lettersOf_y5 at h
  rcases ite_some h with ⟨hc1_, h⟩ | ⟨hc1_, h⟩
  · obtain ⟨hb2_, h⟩ := ck_some h
    obtain ⟨v3_, ev4_, h⟩ := lt_some h
    obtain rfl := Option.some.inj h
    exact (Fr.upa f0 (by simp) hnarr1)
  · obtain rfl := Option.some.inj h
    exact f0
theorem fr_Mo_lettersOf_l5 (arr1 len1 : Nat) {x : (Int × Dt)} (x3 x4 : Int) (d : Dt) (hg : d GH 0 ≤ 6) (hnarr1 : arr1 ≠ GH) (h : L_Mo_lettersOf_l5 arr1 len1 x3 x4 d = some x) : Fr wo_Mo_lettersOf [arr1] false d (he_Mo_lettersOf_5 x) :=
  lpF_fr (f := fun q : Int × Int × Dt => L_Mo_lettersOf_y5 arr1 len1 q.1 q.2.1 q.2.2) (fun q => q.2.2) he_Mo_lettersOf_5 (fun q x hq hx => ⟨fun q2 e2 => by subst e2; exact fr_Mo_lettersOf_y5 arr1 len1 q.1 q.2.1 q.2.2 hq hnarr1 hx, fun r2 e2 => by subst e2; exact fr_Mo_lettersOf_y5 arr1 len1 q.1 q.2.1 q.2.2 hq hnarr1 hx⟩) FU _ x hg h
theorem fr_Mo_lettersOf (arr1 len1 : Nat) {r : Int} {d' : Dt} (p1 : Int) (d : Dt) (hg : d GH 0 ≤ 6) (hnarr1 : arr1 ≠ GH) (h : L_Mo_lettersOf arr1 len1 p1 d = some (r, d')) : Fr wo_Mo_lettersOf [arr1] false d d' := by
  have f0 : Fr wo_Mo_lettersOf [arr1] false d d := Fr.rfl
  unfold L_Mo_lettersOf at h
  obtain ⟨x6_, hx7_, h⟩ := lb_some h
  have fx6_ := Fr.tr0 f0 (fr_Mo_lettersOf_l5 arr1 len1 0 p1 d (Fr.g f0 hg) hnarr1 hx7_)
  obtain ⟨v8_, d9_⟩ := x6_
  have fd9_ : Fr wo_Mo_lettersOf [arr1] false d d9_ := fx6_
  replace h := u1_e h
  obtain ⟨rfl, rfl⟩ := ret_inj h
  exact fd9_
/-! frames of Mo_farOf -/
def wo_Mo_farOf : List (Nat × Nat) := []
def he_Mo_farOf_23 (q : (Int × Int × Dt)) : Dt := q.2.2
def hb_Mo_farOf_23 (o : (Int × Int × Int × Dt) ⊕ ((Int × Int × Dt))) : Dt := match o with
  | .inl q => q.2.2.2
  | .inr r => he_Mo_farOf_23 r
def he_Mo_farOf_74 (q : (Int × Int × Int × Dt)) : Dt := q.2.2.2
def hb_Mo_farOf_74 (o : (Int × Int × Int × Int × Int × Dt) ⊕ ((Int × Int × Int × Dt))) : Dt := match o with
  | .inl q => q.2.2.2.2.2
  | .inr r => he_Mo_farOf_74 r
def he_Mo_farOf_48 (q : (Int × Dt)) : Dt := q.2
def hb_Mo_farOf_48 (o : (Int × Int × Int × Dt) ⊕ ((Int × Dt))) : Dt := match o with
  | .inl q => q.2.2.2
  | .inr r => he_Mo_farOf_48 r
theorem fr_Mo_farOf_y23 {o : (Int × Int × Int × Dt) ⊕ ((Int × Int × Dt))} (x5 x6 x7 : Int) (d : Dt) (hg : d GH 0 ≤ 6) (h : L_Mo_farOf_y23 x5 x6 x7 d = some o) : Fr wo_Mo_farOf [4, 5, 6] false d (hb_Mo_farOf_23 o) := by
  have f0 : Fr wo_Mo_farOf [4, 5, 6] false d d := Fr.rfl
  unfold L_Mo_farOf_y23 at h
  rcases ite_some h with ⟨hc1_, h⟩ | ⟨hc1_, h⟩
  · obtain rfl := Option.some.inj h
    exact f0
  · obtain ⟨hb2_, h⟩ := ck_some h
    obtain rfl := Option.some.inj h
    exact (Fr.upa f0 rfl (by decide))
theorem fr_Mo_farOf_l23 {x : (Int × Int × Dt)} (x5 x6 x7 : Int) (d : Dt) (hg : d GH 0 ≤ 6) (h : L_Mo_farOf_l23 x5 x6 x7 d = some x) : Fr wo_Mo_farOf [4, 5, 6] false d (he_Mo_farOf_23 x) :=
  lpF_fr (f := fun q : Int × Int × Int × Dt => L_Mo_farOf_y23 q.1 q.2.1 q.2.2.1 q.2.2.2) (fun q => q.2.2.2) he_Mo_farOf_23 (fun q x hq hx => ⟨fun q2 e2 => by subst e2; exact fr_Mo_farOf_y23 q.1 q.2.1 q.2.2.1 q.2.2.2 hq hx, fun r2 e2 => by subst e2; exact fr_Mo_farOf_y23 q.1 q.2.1 q.2.2.1 q.2.2.2 hq hx⟩) FU _ x hg h
theorem fr_Mo_farOf_b118 {o : (Int × Int × Int × Int × Int × Dt) ⊕ ((Int × Int × Int × Dt))} (x5 x6 x7 x9 x10 s0 s1 : Int) (d : Dt) (hg : d GH 0 ≤ 6) (h : L_Mo_farOf_b118 x5 x6 x7 x9 x10 s0 s1 d = some o) : Fr wo_Mo_farOf [4, 5, 6] false d (hb_Mo_farOf_74 o) := by
  have f0 : Fr wo_Mo_farOf [4, 5, 6] false d d := Fr.rfl
  unfold L_Mo_farOf_b118 at h
  obtain ⟨v3_, ev4_, h⟩ := lt_some h
  obtain ⟨hb6_, h⟩ := ck_some h
  obtain ⟨hb8_, h⟩ := ck_some h
  obtain rfl := Option.some.inj h
  exact (Fr.upa f0 rfl (by decide))
theorem fr_Mo_farOf_y74 {o : (Int × Int × Int × Int × Int × Dt) ⊕ ((Int × Int × Int × Dt))} (x5 x6 x7 x8 x9 : Int) (d : Dt) (hg : d GH 0 ≤ 6) (h : L_Mo_farOf_y74 x5 x6 x7 x8 x9 d = some o) : Fr wo_Mo_farOf [4, 5, 6] false d (hb_Mo_farOf_74 o) := by
  have f0 : Fr wo_Mo_farOf [4, 5, 6] false d d := Fr.rfl
  unfold L_Mo_farOf_y74 at h
  rcases ite_some h with ⟨hc9_, h⟩ | ⟨hc9_, h⟩
  · obtain rfl := Option.some.inj h
    exact f0
  · obtain ⟨hb10_, h⟩ := ck_some h
    obtain ⟨v12_, ev13_, h⟩ := lt_some h
    obtain ⟨hb15_, h⟩ := ck_some h
    obtain ⟨hb17_, h⟩ := ck_some h
    rcases ite_some h with ⟨hc19_, h⟩ | ⟨hc19_, h⟩
    · exact Fr.tr0 f0 (fr_Mo_farOf_b118 x5 x6 x7 x9 v12_ x8 0 d (Fr.g f0 hg) h)
    · exact Fr.tr0 f0 (fr_Mo_farOf_b118 x5 x6 x7 x9 v12_ x8 1 d (Fr.g f0 hg) h)
theorem fr_Mo_farOf_l74 {x : (Int × Int × Int × Dt)} (x5 x6 x7 x8 x9 : Int) (d : Dt) (hg : d GH 0 ≤ 6) (h : L_Mo_farOf_l74 x5 x6 x7 x8 x9 d = some x) : Fr wo_Mo_farOf [4, 5, 6] false d (he_Mo_farOf_74 x) :=
  lpF_fr (f := fun q : Int × Int × Int × Int × Int × Dt => L_Mo_farOf_y74 q.1 q.2.1 q.2.2.1 q.2.2.2.1 q.2.2.2.2.1 q.2.2.2.2.2) (fun q => q.2.2.2.2.2) he_Mo_farOf_74 (fun q x hq hx => ⟨fun q2 e2 => by subst e2; exact fr_Mo_farOf_y74 q.1 q.2.1 q.2.2.1 q.2.2.2.1 q.2.2.2.2.1 q.2.2.2.2.2 hq hx, fun r2 e2 => by subst e2; exact fr_Mo_farOf_y74 q.1 q.2.1 q.2.2.1 q.2.2.2.1 q.2.2.2.2.1 q.2.2.2.2.2 hq hx⟩) FU _ x hg h
theorem fr_Mo_farOf_y48 {o : (Int × Int × Int × Dt) ⊕ ((Int × Dt))} (x5 x6 x7 : Int) (d : Dt) (hg : d GH 0 ≤ 6) (h : L_Mo_farOf_y48 x5 x6 x7 d = some o) : Fr wo_Mo_farOf [4, 5, 6] false d (hb_Mo_farOf_48 o) := by
  have f0 : Fr wo_Mo_farOf [4, 5, 6] false d d := Fr.rfl
  unfold L_Mo_farOf_y48 at h
  rcases ite_some h with ⟨hc20_, h⟩ | ⟨hc20_, h⟩
  · obtain rfl := Option.some.inj h
    exact f0
  · obtain ⟨v22_, ev23_, h⟩ := lt_some h
    obtain ⟨x25_, hx26_, h⟩ := lb_some h
    have fx25_ := Fr.tr0 (Fr.upa f0 rfl (by decide)) (fr_Mo_farOf_l74 x5 x6 x7 v22_ 1 (up2 d 6 0 x7) (Fr.g (Fr.upa f0 rfl (by decide)) hg) hx26_)
    obtain ⟨v27_, v28_, v29_, d30_⟩ := x25_
    have fd30_ : Fr wo_Mo_farOf [4, 5, 6] false d d30_ := fx25_
    replace h := u3_e h
    obtain rfl := Option.some.inj h
    exact fd30_
theorem fr_Mo_farOf_l48 {x : (Int × Dt)} (x5 x6 x7 : Int) (d : Dt) (hg : d GH 0 ≤ 6) (h : L_Mo_farOf_l48 x5 x6 x7 d = some x) : Fr wo_Mo_farOf [4, 5, 6] false d (he_Mo_farOf_48 x) :=
  lpF_fr (f := fun q : Int × Int × Int × Dt => L_Mo_farOf_y48 q.1 q.2.1 q.2.2.1 q.2.2.2) (fun q => q.2.2.2) he_Mo_farOf_48 (fun q x hq hx => ⟨fun q2 e2 => by subst e2; exact fr_Mo_farOf_y48 q.1 q.2.1 q.2.2.1 q.2.2.2 hq hx, fun r2 e2 => by subst e2; exact fr_Mo_farOf_y48 q.1 q.2.1 q.2.2.1 q.2.2.2 hq hx⟩) FU _ x hg h
theorem fr_Mo_farOf {r : Int} {d' : Dt} (p1 p2 : Int) (d : Dt) (hg : d GH 0 ≤ 6) (h : L_Mo_farOf p1 p2 d = some (r, d')) : Fr wo_Mo_farOf [4, 5, 6] false d d' := by
  have f0 : Fr wo_Mo_farOf [4, 5, 6] false d d := Fr.rfl
  unfold L_Mo_farOf at h
  obtain ⟨r34_, d33_, hr35_, h⟩ := bd_some h
  have fd33_ : Fr wo_Mo_farOf [4, 5, 6] false d d33_ := Fr.tr f0 (fr_Mo_lettersOf 4 8 p1 d (Fr.g f0 hg) (by decide) hr35_) (by decide) (by decide) (by decide)
  obtain ⟨r38_, d37_, hr39_, h⟩ := bd_some h
  have fd37_ : Fr wo_Mo_farOf [4, 5, 6] false d d37_ := Fr.tr fd33_ (fr_Mo_lettersOf 5 8 p2 d33_ (Fr.g fd33_ hg) (by decide) hr39_) (by decide) (by decide) (by decide)
  obtain ⟨x41_, hx42_, h⟩ := lb_some h
  have fx41_ := Fr.tr0 fd37_ (fr_Mo_farOf_l23 r34_ r38_ 0 d37_ (Fr.g fd37_ hg) hx42_)
  obtain ⟨v43_, v44_, d45_⟩ := x41_
  have fd45_ : Fr wo_Mo_farOf [4, 5, 6] false d d45_ := fx41_
  replace h := u2_e h
  obtain ⟨x47_, hx48_, h⟩ := lb_some h
  have fx47_ := Fr.tr0 fd45_ (fr_Mo_farOf_l48 v43_ v44_ 1 d45_ (Fr.g fd45_ hg) hx48_)
  obtain ⟨v49_, d50_⟩ := x47_
  have fd50_ : Fr wo_Mo_farOf [4, 5, 6] false d d50_ := fx47_
  replace h := u1_e h
  obtain ⟨hb52_, h⟩ := ck_some h
  obtain ⟨rfl, rfl⟩ := ret_inj h
  exact fd50_
/-! frames of Mo_gives -/
def wo_Mo_gives : List (Nat × Nat) := [(0, 0)]
theorem fr_Mo_gives {r : Int} {d' : Dt} (p1 : Int) (d : Dt) (hg : d GH 0 ≤ 6) (h : L_Mo_gives p1 d = some (r, d')) : Fr wo_Mo_gives [] false d d' := by
  have f0 : Fr wo_Mo_gives [] false d d := Fr.rfl
  unfold L_Mo_gives at h
  obtain ⟨rfl, rfl⟩ := ret_inj h
  exact (Fr.upo f0 rfl (by decide))
/-! frames of Mo_refuse -/
def wo_Mo_refuse : List (Nat × Nat) := [(0, 0)]
theorem fr_Mo_refuse {r : Int} {d' : Dt} (p1 : Int) (d : Dt) (hg : d GH 0 ≤ 6) (h : L_Mo_refuse p1 d = some (r, d')) : Fr wo_Mo_refuse [] false d d' := by
  have f0 : Fr wo_Mo_refuse [] false d d := Fr.rfl
  unfold L_Mo_refuse at h
  obtain ⟨rfl, rfl⟩ := ret_inj h
  exact (Fr.upo f0 rfl (by decide))
/-! frames of Mo_far -/
def wo_Mo_far : List (Nat × Nat) := [(0, 0)]
theorem fr_Mo_far_b27 {r : Int} {d' : Dt} (d : Dt) (hg : d GH 0 ≤ 6) (h : L_Mo_far_b27 d = some (r, d')) : Fr wo_Mo_far [4, 5, 6] false d d' := by
  have f0 : Fr wo_Mo_far [4, 5, 6] false d d := Fr.rfl
  unfold L_Mo_far_b27 at h
  obtain ⟨r2_, d1_, hr3_, h⟩ := bd_some h
  have fd1_ : Fr wo_Mo_far [4, 5, 6] false d d1_ := Fr.tr f0 (fr_Mo_refuse 1 d (Fr.g f0 hg) hr3_) (by decide) (by decide) (by decide)
  obtain ⟨rfl, rfl⟩ := ret_inj h
  exact fd1_
theorem fr_Mo_far {r : Int} {d' : Dt} (p1 p2 : Int) (d : Dt) (hg : d GH 0 ≤ 6) (h : L_Mo_far p1 p2 d = some (r, d')) : Fr wo_Mo_far [4, 5, 6] false d d' := by
  have f0 : Fr wo_Mo_far [4, 5, 6] false d d := Fr.rfl
  unfold L_Mo_far at h
  obtain ⟨r6_, d5_, hr7_, h⟩ := bd_some h
  have fd5_ : Fr wo_Mo_far [4, 5, 6] false d d5_ := Fr.tr f0 (fr_Mo_isName p1 d (Fr.g f0 hg) hr7_) (by decide) (by decide) (by decide)
  rcases ite_some h with ⟨hc9_, h⟩ | ⟨hc9_, h⟩
  · exact Fr.tr0 fd5_ (fr_Mo_far_b27  d5_ (Fr.g fd5_ hg) h)
  · obtain ⟨r11_, d10_, hr12_, h⟩ := bd_some h
    have fd10_ : Fr wo_Mo_far [4, 5, 6] false d d10_ := Fr.tr fd5_ (fr_Mo_isName p2 d5_ (Fr.g fd5_ hg) hr12_) (by decide) (by decide) (by decide)
    rcases ite_some h with ⟨hc14_, h⟩ | ⟨hc14_, h⟩
    · exact Fr.tr0 fd10_ (fr_Mo_far_b27  d10_ (Fr.g fd10_ hg) h)
    · obtain ⟨r16_, d15_, hr17_, h⟩ := bd_some h
      have fd15_ : Fr wo_Mo_far [4, 5, 6] false d d15_ := Fr.tr fd10_ (fr_Mo_farOf p1 p2 d10_ (Fr.g fd10_ hg) hr17_) (by decide) (by decide) (by decide)
      obtain ⟨r20_, d19_, hr21_, h⟩ := bd_some h
      have fd19_ : Fr wo_Mo_far [4, 5, 6] false d d19_ := Fr.tr fd15_ (fr_Mo_gives r16_ d15_ (Fr.g fd15_ hg) hr21_) (by decide) (by decide) (by decide)
      obtain ⟨rfl, rfl⟩ := ret_inj h
      exact fd19_
/-! frames of Mo_isTrade -/
def wo_Mo_isTrade : List (Nat × Nat) := []
theorem fr_Mo_isTrade {r : Int} {d' : Dt} (p1 : Int) (d : Dt) (hg : d GH 0 ≤ 6) (h : L_Mo_isTrade p1 d = some (r, d')) : Fr wo_Mo_isTrade [] false d d' := by
  have f0 : Fr wo_Mo_isTrade [] false d d := Fr.rfl
  unfold L_Mo_isTrade at h
  rcases ite_some h with ⟨hc1_, h⟩ | ⟨hc1_, h⟩
  · obtain ⟨rfl, rfl⟩ := ret_inj h
    exact f0
  · rcases ite_some h with ⟨hc2_, h⟩ | ⟨hc2_, h⟩
    · obtain ⟨rfl, rfl⟩ := ret_inj h
      exact f0
    · obtain ⟨rfl, rfl⟩ := ret_inj h
      exact f0
/-! frames of Mo_isPlace -/
def wo_Mo_isPlace : List (Nat × Nat) := []
theorem fr_Mo_isPlace {r : Int} {d' : Dt} (p1 : Int) (d : Dt) (hg : d GH 0 ≤ 6) (h : L_Mo_isPlace p1 d = some (r, d')) : Fr wo_Mo_isPlace [] false d d' := by
  have f0 : Fr wo_Mo_isPlace [] false d d := Fr.rfl
  unfold L_Mo_isPlace at h
  rcases ite_some h with ⟨hc1_, h⟩ | ⟨hc1_, h⟩
  · obtain ⟨rfl, rfl⟩ := ret_inj h
    exact f0
  · rcases ite_some h with ⟨hc2_, h⟩ | ⟨hc2_, h⟩
    · obtain ⟨rfl, rfl⟩ := ret_inj h
      exact f0
    · obtain ⟨rfl, rfl⟩ := ret_inj h
      exact f0
/-! frames of Mo_person -/
def wo_Mo_person : List (Nat × Nat) := [(0, 0), (0, 7)]
theorem fr_Mo_person_b22 {r : Int} {d' : Dt} (d : Dt) (hg : d GH 0 ≤ 6) (h : L_Mo_person_b22 d = some (r, d')) : Fr wo_Mo_person [7, 8, 9] false d d' := by
  have f0 : Fr wo_Mo_person [7, 8, 9] false d d := Fr.rfl
  unfold L_Mo_person_b22 at h
  obtain ⟨r2_, d1_, hr3_, h⟩ := bd_some h
  have fd1_ : Fr wo_Mo_person [7, 8, 9] false d d1_ := Fr.tr f0 (fr_Mo_refuse 1 d (Fr.g f0 hg) hr3_) (by decide) (by decide) (by decide)
  obtain ⟨rfl, rfl⟩ := ret_inj h
  exact fd1_
theorem fr_Mo_person {r : Int} {d' : Dt} (p1 p2 p3 : Int) (d : Dt) (hg : d GH 0 ≤ 6) (h : L_Mo_person p1 p2 p3 d = some (r, d')) : Fr wo_Mo_person [7, 8, 9] false d d' := by
  have f0 : Fr wo_Mo_person [7, 8, 9] false d d := Fr.rfl
  unfold L_Mo_person at h
  obtain ⟨r6_, d5_, hr7_, h⟩ := bd_some h
  have fd5_ : Fr wo_Mo_person [7, 8, 9] false d d5_ := Fr.tr f0 (fr_Mo_isName p1 d (Fr.g f0 hg) hr7_) (by decide) (by decide) (by decide)
  rcases ite_some h with ⟨hc9_, h⟩ | ⟨hc9_, h⟩
  · exact Fr.tr0 fd5_ (fr_Mo_person_b22  d5_ (Fr.g fd5_ hg) h)
  · obtain ⟨r11_, d10_, hr12_, h⟩ := bd_some h
    have fd10_ : Fr wo_Mo_person [7, 8, 9] false d d10_ := Fr.tr fd5_ (fr_Mo_isTrade p2 d5_ (Fr.g fd5_ hg) hr12_) (by decide) (by decide) (by decide)
    rcases ite_some h with ⟨hc14_, h⟩ | ⟨hc14_, h⟩
    · exact Fr.tr0 fd10_ (fr_Mo_person_b22  d10_ (Fr.g fd10_ hg) h)
    · obtain ⟨r16_, d15_, hr17_, h⟩ := bd_some h
      have fd15_ : Fr wo_Mo_person [7, 8, 9] false d d15_ := Fr.tr fd10_ (fr_Mo_isPlace p3 d10_ (Fr.g fd10_ hg) hr17_) (by decide) (by decide) (by decide)
      rcases ite_some h with ⟨hc19_, h⟩ | ⟨hc19_, h⟩
      · exact Fr.tr0 fd15_ (fr_Mo_person_b22  d15_ (Fr.g fd15_ hg) h)
      · rcases ite_some h with ⟨hc21_, h⟩ | ⟨hc21_, h⟩
        · obtain ⟨r23_, d22_, hr24_, h⟩ := bd_some h
          have fd22_ : Fr wo_Mo_person [7, 8, 9] false d d22_ := Fr.tr fd15_ (fr_Mo_refuse 4 d15_ (Fr.g fd15_ hg) hr24_) (by decide) (by decide) (by decide)
          obtain ⟨rfl, rfl⟩ := ret_inj h
          exact fd22_
        · obtain ⟨hb27_, h⟩ := ck_some h
          obtain ⟨hb29_, h⟩ := ck_some h
          obtain ⟨hb31_, h⟩ := ck_some h
          obtain ⟨r35_, d34_, hr36_, h⟩ := bd_some h
          have fd34_ : Fr wo_Mo_person [7, 8, 9] false d d34_ := Fr.tr (Fr.upo (Fr.upa (Fr.upa (Fr.upa fd15_ rfl (by decide)) rfl (by decide)) rfl (by decide)) rfl (by decide)) (fr_Mo_gives (w32 ((w32 ((d15_ 0 7) + 1)) - 1)) (up2 (up2 (up2 (up2 d15_ 7 ((d15_ 0 7)).toNat p1) 8 ((d15_ 0 7)).toNat p2) 9 ((d15_ 0 7)).toNat p3) 0 7 (w32 ((d15_ 0 7) + 1))) (Fr.g (Fr.upo (Fr.upa (Fr.upa (Fr.upa fd15_ rfl (by decide)) rfl (by decide)) rfl (by decide)) rfl (by decide)) hg) hr36_) (by decide) (by decide) (by decide)
          obtain ⟨rfl, rfl⟩ := ret_inj h
          exact fd34_
/-! frames of Mo_isPerson -/
def wo_Mo_isPerson : List (Nat × Nat) := []
theorem fr_Mo_isPerson {r : Int} {d' : Dt} (p1 : Int) (d : Dt) (hg : d GH 0 ≤ 6) (h : L_Mo_isPerson p1 d = some (r, d')) : Fr wo_Mo_isPerson [] false d d' := by
  have f0 : Fr wo_Mo_isPerson [] false d d := Fr.rfl
  unfold L_Mo_isPerson at h
  rcases ite_some h with ⟨hc1_, h⟩ | ⟨hc1_, h⟩
  · obtain ⟨rfl, rfl⟩ := ret_inj h
    exact f0
  · rcases ite_some h with ⟨hc3_, h⟩ | ⟨hc3_, h⟩
    · obtain ⟨rfl, rfl⟩ := ret_inj h
      exact f0
    · obtain ⟨rfl, rfl⟩ := ret_inj h
      exact f0
/-! frames of Mo_isPlot -/
def wo_Mo_isPlot : List (Nat × Nat) := []
theorem fr_Mo_isPlot {r : Int} {d' : Dt} (p1 : Int) (d : Dt) (hg : d GH 0 ≤ 6) (h : L_Mo_isPlot p1 d = some (r, d')) : Fr wo_Mo_isPlot [] false d d' := by
  have f0 : Fr wo_Mo_isPlot [] false d d := Fr.rfl
  unfold L_Mo_isPlot at h
  rcases ite_some h with ⟨hc1_, h⟩ | ⟨hc1_, h⟩
  · obtain ⟨rfl, rfl⟩ := ret_inj h
    exact f0
  · rcases ite_some h with ⟨hc2_, h⟩ | ⟨hc2_, h⟩
    · obtain ⟨rfl, rfl⟩ := ret_inj h
      exact f0
    · obtain ⟨rfl, rfl⟩ := ret_inj h
      exact f0
/-! frames of Mo_areShillings -/
def wo_Mo_areShillings : List (Nat × Nat) := []
theorem fr_Mo_areShillings {r : Int} {d' : Dt} (p1 : Int) (d : Dt) (hg : d GH 0 ≤ 6) (h : L_Mo_areShillings p1 d = some (r, d')) : Fr wo_Mo_areShillings [] false d d' := by
  have f0 : Fr wo_Mo_areShillings [] false d d := Fr.rfl
  unfold L_Mo_areShillings at h
  rcases ite_some h with ⟨hc1_, h⟩ | ⟨hc1_, h⟩
  · obtain ⟨rfl, rfl⟩ := ret_inj h
    exact f0
  · rcases ite_some h with ⟨hc2_, h⟩ | ⟨hc2_, h⟩
    · obtain ⟨rfl, rfl⟩ := ret_inj h
      exact f0
    · obtain ⟨rfl, rfl⟩ := ret_inj h
      exact f0
/-! frames of Mo_isDay -/
def wo_Mo_isDay : List (Nat × Nat) := []
theorem fr_Mo_isDay {r : Int} {d' : Dt} (p1 : Int) (d : Dt) (hg : d GH 0 ≤ 6) (h : L_Mo_isDay p1 d = some (r, d')) : Fr wo_Mo_isDay [] false d d' := by
  have f0 : Fr wo_Mo_isDay [] false d d := Fr.rfl
  unfold L_Mo_isDay at h
  rcases ite_some h with ⟨hc1_, h⟩ | ⟨hc1_, h⟩
  · obtain ⟨rfl, rfl⟩ := ret_inj h
    exact f0
  · rcases ite_some h with ⟨hc2_, h⟩ | ⟨hc2_, h⟩
    · obtain ⟨rfl, rfl⟩ := ret_inj h
      exact f0
    · obtain ⟨rfl, rfl⟩ := ret_inj h
      exact f0
/-! frames of Mo_wrongTelling -/
def wo_Mo_wrongTelling : List (Nat × Nat) := []
theorem fr_Mo_wrongTelling {r : Int} {d' : Dt} (p1 p2 p3 : Int) (d : Dt) (hg : d GH 0 ≤ 6) (h : L_Mo_wrongTelling p1 p2 p3 d = some (r, d')) : Fr wo_Mo_wrongTelling [] false d d' := by
  have f0 : Fr wo_Mo_wrongTelling [] false d d := Fr.rfl
  unfold L_Mo_wrongTelling at h
  rcases ite_some h with ⟨hc1_, h⟩ | ⟨hc1_, h⟩
  · obtain ⟨rfl, rfl⟩ := ret_inj h
    exact f0
  · rcases ite_some h with ⟨hc3_, h⟩ | ⟨hc3_, h⟩
    · obtain ⟨rfl, rfl⟩ := ret_inj h
      exact f0
    · obtain ⟨rfl, rfl⟩ := ret_inj h
      exact f0
/-! frames of Mo_hold -/
def wo_Mo_hold : List (Nat × Nat) := [(0, 0), (0, 8), (0, 11)]
theorem fr_Mo_hold_b53 {r : Int} {d' : Dt} (d : Dt) (hg : d GH 0 ≤ 6) (h : L_Mo_hold_b53 d = some (r, d')) : Fr wo_Mo_hold [10, 11, 12, 13, 14, 15] false d d' := by
  have f0 : Fr wo_Mo_hold [10, 11, 12, 13, 14, 15] false d d := Fr.rfl
  unfold L_Mo_hold_b53 at h
  obtain ⟨r2_, d1_, hr3_, h⟩ := bd_some h
  have fd1_ : Fr wo_Mo_hold [10, 11, 12, 13, 14, 15] false d d1_ := Fr.tr f0 (fr_Mo_is 1 d (Fr.g f0 hg) hr3_) (by decide) (by decide) (by decide)
  obtain ⟨rfl, rfl⟩ := ret_inj h
  exact fd1_
theorem fr_Mo_hold {r : Int} {d' : Dt} (p1 p2 p3 p4 p5 p6 : Int) (d : Dt) (hg : d GH 0 ≤ 6) (h : L_Mo_hold p1 p2 p3 p4 p5 p6 d = some (r, d')) : Fr wo_Mo_hold [10, 11, 12, 13, 14, 15] false d d' := by
  have f0 : Fr wo_Mo_hold [10, 11, 12, 13, 14, 15] false d d := Fr.rfl
  unfold L_Mo_hold at h
  obtain ⟨r6_, d5_, hr7_, h⟩ := bd_some h
  have fd5_ : Fr wo_Mo_hold [10, 11, 12, 13, 14, 15] false d d5_ := Fr.tr f0 (fr_Mo_isPerson p1 d (Fr.g f0 hg) hr7_) (by decide) (by decide) (by decide)
  rcases ite_some h with ⟨hc9_, h⟩ | ⟨hc9_, h⟩
  · exact Fr.tr0 fd5_ (fr_Mo_hold_b53  d5_ (Fr.g fd5_ hg) h)
  · obtain ⟨r11_, d10_, hr12_, h⟩ := bd_some h
    have fd10_ : Fr wo_Mo_hold [10, 11, 12, 13, 14, 15] false d d10_ := Fr.tr fd5_ (fr_Mo_isPlot p2 d5_ (Fr.g fd5_ hg) hr12_) (by decide) (by decide) (by decide)
    rcases ite_some h with ⟨hc14_, h⟩ | ⟨hc14_, h⟩
    · exact Fr.tr0 fd10_ (fr_Mo_hold_b53  d10_ (Fr.g fd10_ hg) h)
    · obtain ⟨r16_, d15_, hr17_, h⟩ := bd_some h
      have fd15_ : Fr wo_Mo_hold [10, 11, 12, 13, 14, 15] false d d15_ := Fr.tr fd10_ (fr_Mo_areShillings p3 d10_ (Fr.g fd10_ hg) hr17_) (by decide) (by decide) (by decide)
      rcases ite_some h with ⟨hc19_, h⟩ | ⟨hc19_, h⟩
      · exact Fr.tr0 fd15_ (fr_Mo_hold_b53  d15_ (Fr.g fd15_ hg) h)
      · obtain ⟨r21_, d20_, hr22_, h⟩ := bd_some h
        have fd20_ : Fr wo_Mo_hold [10, 11, 12, 13, 14, 15] false d d20_ := Fr.tr fd15_ (fr_Mo_isDay p4 d15_ (Fr.g fd15_ hg) hr22_) (by decide) (by decide) (by decide)
        rcases ite_some h with ⟨hc24_, h⟩ | ⟨hc24_, h⟩
        · exact Fr.tr0 fd20_ (fr_Mo_hold_b53  d20_ (Fr.g fd20_ hg) h)
        · obtain ⟨r26_, d25_, hr27_, h⟩ := bd_some h
          have fd25_ : Fr wo_Mo_hold [10, 11, 12, 13, 14, 15] false d d25_ := Fr.tr fd20_ (fr_Mo_isDay p5 d20_ (Fr.g fd20_ hg) hr27_) (by decide) (by decide) (by decide)
          rcases ite_some h with ⟨hc29_, h⟩ | ⟨hc29_, h⟩
          · exact Fr.tr0 fd25_ (fr_Mo_hold_b53  d25_ (Fr.g fd25_ hg) h)
          · rcases ite_some h with ⟨hc30_, h⟩ | ⟨hc30_, h⟩
            · exact Fr.tr0 fd25_ (fr_Mo_hold_b53  d25_ (Fr.g fd25_ hg) h)
            · obtain ⟨r32_, d31_, hr33_, h⟩ := bd_some h
              have fd31_ : Fr wo_Mo_hold [10, 11, 12, 13, 14, 15] false d d31_ := Fr.tr fd25_ (fr_Mo_isDay p6 d25_ (Fr.g fd25_ hg) hr33_) (by decide) (by decide) (by decide)
              rcases ite_some h with ⟨hc35_, h⟩ | ⟨hc35_, h⟩
              · exact Fr.tr0 fd31_ (fr_Mo_hold_b53  d31_ (Fr.g fd31_ hg) h)
              · obtain ⟨r38_, d37_, hr39_, h⟩ := bd_some h
                have fd37_ : Fr wo_Mo_hold [10, 11, 12, 13, 14, 15] false d d37_ := Fr.tr fd31_ (fr_Mo_wrongTelling (d31_ 0 8) 80 p6 d31_ (Fr.g fd31_ hg) hr39_) (by decide) (by decide) (by decide)
                rcases ite_some h with ⟨hc41_, h⟩ | ⟨hc41_, h⟩
                · obtain ⟨r43_, d42_, hr44_, h⟩ := bd_some h
                  have fd42_ : Fr wo_Mo_hold [10, 11, 12, 13, 14, 15] false d d42_ := Fr.tr fd37_ (fr_Mo_is r38_ d37_ (Fr.g fd37_ hg) hr44_) (by decide) (by decide) (by decide)
                  obtain ⟨rfl, rfl⟩ := ret_inj h
                  exact fd42_
                · obtain ⟨hb47_, h⟩ := ck_some h
                  obtain ⟨hb49_, h⟩ := ck_some h
                  obtain ⟨hb51_, h⟩ := ck_some h
                  obtain ⟨hb53_, h⟩ := ck_some h
                  obtain ⟨hb55_, h⟩ := ck_some h
                  obtain ⟨hb57_, h⟩ := ck_some h
                  obtain ⟨r60_, d59_, hr61_, h⟩ := bd_some h
                  have fd59_ : Fr wo_Mo_hold [10, 11, 12, 13, 14, 15] false d d59_ := Fr.tr (Fr.upo (Fr.upa (Fr.upa (Fr.upa (Fr.upa (Fr.upa (Fr.upa (Fr.upo fd37_ rfl (by decide)) rfl (by decide)) rfl (by decide)) rfl (by decide)) rfl (by decide)) rfl (by decide)) rfl (by decide)) rfl (by decide)) (fr_Mo_is 0 (up2 (up2 (up2 (up2 (up2 (up2 (up2 (up2 d37_ 0 11 p6) 10 ((d37_ 0 8)).toNat p1) 11 ((d37_ 0 8)).toNat p2) 12 ((d37_ 0 8)).toNat p3) 13 ((d37_ 0 8)).toNat p4) 14 ((d37_ 0 8)).toNat p5) 15 ((d37_ 0 8)).toNat p6) 0 8 (w32 ((d37_ 0 8) + 1))) (Fr.g (Fr.upo (Fr.upa (Fr.upa (Fr.upa (Fr.upa (Fr.upa (Fr.upa (Fr.upo fd37_ rfl (by decide)) rfl (by decide)) rfl (by decide)) rfl (by decide)) rfl (by decide)) rfl (by decide)) rfl (by decide)) rfl (by decide)) hg) hr61_) (by decide) (by decide) (by decide)
                  obtain ⟨rfl, rfl⟩ := ret_inj h
                  exact fd59_
/-! frames of Mo_split -/
def wo_Mo_split : List (Nat × Nat) := [(0, 0), (0, 9), (0, 11)]
theorem fr_Mo_split_b21 {r : Int} {d' : Dt} (d : Dt) (hg : d GH 0 ≤ 6) (h : L_Mo_split_b21 d = some (r, d')) : Fr wo_Mo_split [16, 17, 18] false d d' := by
  have f0 : Fr wo_Mo_split [16, 17, 18] false d d := Fr.rfl
  unfold L_Mo_split_b21 at h
  obtain ⟨r2_, d1_, hr3_, h⟩ := bd_some h
  have fd1_ : Fr wo_Mo_split [16, 17, 18] false d d1_ := Fr.tr f0 (fr_Mo_is 1 d (Fr.g f0 hg) hr3_) (by decide) (by decide) (by decide)
  obtain ⟨rfl, rfl⟩ := ret_inj h
  exact fd1_
theorem fr_Mo_split {r : Int} {d' : Dt} (p1 p2 p3 : Int) (d : Dt) (hg : d GH 0 ≤ 6) (h : L_Mo_split p1 p2 p3 d = some (r, d')) : Fr wo_Mo_split [16, 17, 18] false d d' := by
  have f0 : Fr wo_Mo_split [16, 17, 18] false d d := Fr.rfl
  unfold L_Mo_split at h
  obtain ⟨r6_, d5_, hr7_, h⟩ := bd_some h
  have fd5_ : Fr wo_Mo_split [16, 17, 18] false d d5_ := Fr.tr f0 (fr_Mo_isPlot p1 d (Fr.g f0 hg) hr7_) (by decide) (by decide) (by decide)
  rcases ite_some h with ⟨hc9_, h⟩ | ⟨hc9_, h⟩
  · exact Fr.tr0 fd5_ (fr_Mo_split_b21  d5_ (Fr.g fd5_ hg) h)
  · obtain ⟨r11_, d10_, hr12_, h⟩ := bd_some h
    have fd10_ : Fr wo_Mo_split [16, 17, 18] false d d10_ := Fr.tr fd5_ (fr_Mo_isDay p2 d5_ (Fr.g fd5_ hg) hr12_) (by decide) (by decide) (by decide)
    rcases ite_some h with ⟨hc14_, h⟩ | ⟨hc14_, h⟩
    · exact Fr.tr0 fd10_ (fr_Mo_split_b21  d10_ (Fr.g fd10_ hg) h)
    · obtain ⟨r16_, d15_, hr17_, h⟩ := bd_some h
      have fd15_ : Fr wo_Mo_split [16, 17, 18] false d d15_ := Fr.tr fd10_ (fr_Mo_isDay p3 d10_ (Fr.g fd10_ hg) hr17_) (by decide) (by decide) (by decide)
      rcases ite_some h with ⟨hc19_, h⟩ | ⟨hc19_, h⟩
      · exact Fr.tr0 fd15_ (fr_Mo_split_b21  d15_ (Fr.g fd15_ hg) h)
      · obtain ⟨r22_, d21_, hr23_, h⟩ := bd_some h
        have fd21_ : Fr wo_Mo_split [16, 17, 18] false d d21_ := Fr.tr fd15_ (fr_Mo_wrongTelling (d15_ 0 9) 30 p3 d15_ (Fr.g fd15_ hg) hr23_) (by decide) (by decide) (by decide)
        rcases ite_some h with ⟨hc25_, h⟩ | ⟨hc25_, h⟩
        · obtain ⟨r27_, d26_, hr28_, h⟩ := bd_some h
          have fd26_ : Fr wo_Mo_split [16, 17, 18] false d d26_ := Fr.tr fd21_ (fr_Mo_is r22_ d21_ (Fr.g fd21_ hg) hr28_) (by decide) (by decide) (by decide)
          obtain ⟨rfl, rfl⟩ := ret_inj h
          exact fd26_
        · obtain ⟨hb31_, h⟩ := ck_some h
          obtain ⟨hb33_, h⟩ := ck_some h
          obtain ⟨hb35_, h⟩ := ck_some h
          obtain ⟨r38_, d37_, hr39_, h⟩ := bd_some h
          have fd37_ : Fr wo_Mo_split [16, 17, 18] false d d37_ := Fr.tr (Fr.upo (Fr.upa (Fr.upa (Fr.upa (Fr.upo fd21_ rfl (by decide)) rfl (by decide)) rfl (by decide)) rfl (by decide)) rfl (by decide)) (fr_Mo_is 0 (up2 (up2 (up2 (up2 (up2 d21_ 0 11 p3) 16 ((d21_ 0 9)).toNat p1) 17 ((d21_ 0 9)).toNat p2) 18 ((d21_ 0 9)).toNat p3) 0 9 (w32 ((d21_ 0 9) + 1))) (Fr.g (Fr.upo (Fr.upa (Fr.upa (Fr.upa (Fr.upo fd21_ rfl (by decide)) rfl (by decide)) rfl (by decide)) rfl (by decide)) rfl (by decide)) hg) hr39_) (by decide) (by decide) (by decide)
          obtain ⟨rfl, rfl⟩ := ret_inj h
          exact fd37_
/-! frames of Mo_pay -/
def wo_Mo_pay : List (Nat × Nat) := [(0, 0), (0, 10), (0, 11)]
theorem fr_Mo_pay_b30 {r : Int} {d' : Dt} (d : Dt) (hg : d GH 0 ≤ 6) (h : L_Mo_pay_b30 d = some (r, d')) : Fr wo_Mo_pay [19, 20, 21, 22, 23] false d d' := by
  have f0 : Fr wo_Mo_pay [19, 20, 21, 22, 23] false d d := Fr.rfl
  unfold L_Mo_pay_b30 at h
  obtain ⟨r2_, d1_, hr3_, h⟩ := bd_some h
  have fd1_ : Fr wo_Mo_pay [19, 20, 21, 22, 23] false d d1_ := Fr.tr f0 (fr_Mo_is 1 d (Fr.g f0 hg) hr3_) (by decide) (by decide) (by decide)
  obtain ⟨rfl, rfl⟩ := ret_inj h
  exact fd1_
theorem fr_Mo_pay {r : Int} {d' : Dt} (p1 p2 p3 p4 p5 : Int) (d : Dt) (hg : d GH 0 ≤ 6) (h : L_Mo_pay p1 p2 p3 p4 p5 d = some (r, d')) : Fr wo_Mo_pay [19, 20, 21, 22, 23] false d d' := by
  have f0 : Fr wo_Mo_pay [19, 20, 21, 22, 23] false d d := Fr.rfl
  unfold L_Mo_pay at h
  obtain ⟨r6_, d5_, hr7_, h⟩ := bd_some h
  have fd5_ : Fr wo_Mo_pay [19, 20, 21, 22, 23] false d d5_ := Fr.tr f0 (fr_Mo_isPerson p1 d (Fr.g f0 hg) hr7_) (by decide) (by decide) (by decide)
  rcases ite_some h with ⟨hc9_, h⟩ | ⟨hc9_, h⟩
  · exact Fr.tr0 fd5_ (fr_Mo_pay_b30  d5_ (Fr.g fd5_ hg) h)
  · obtain ⟨r11_, d10_, hr12_, h⟩ := bd_some h
    have fd10_ : Fr wo_Mo_pay [19, 20, 21, 22, 23] false d d10_ := Fr.tr fd5_ (fr_Mo_areShillings p2 d5_ (Fr.g fd5_ hg) hr12_) (by decide) (by decide) (by decide)
    rcases ite_some h with ⟨hc14_, h⟩ | ⟨hc14_, h⟩
    · exact Fr.tr0 fd10_ (fr_Mo_pay_b30  d10_ (Fr.g fd10_ hg) h)
    · obtain ⟨r16_, d15_, hr17_, h⟩ := bd_some h
      have fd15_ : Fr wo_Mo_pay [19, 20, 21, 22, 23] false d d15_ := Fr.tr fd10_ (fr_Mo_isDay p3 d10_ (Fr.g fd10_ hg) hr17_) (by decide) (by decide) (by decide)
      rcases ite_some h with ⟨hc19_, h⟩ | ⟨hc19_, h⟩
      · exact Fr.tr0 fd15_ (fr_Mo_pay_b30  d15_ (Fr.g fd15_ hg) h)
      · obtain ⟨r21_, d20_, hr22_, h⟩ := bd_some h
        have fd20_ : Fr wo_Mo_pay [19, 20, 21, 22, 23] false d d20_ := Fr.tr fd15_ (fr_Mo_isDay p5 d15_ (Fr.g fd15_ hg) hr22_) (by decide) (by decide) (by decide)
        rcases ite_some h with ⟨hc24_, h⟩ | ⟨hc24_, h⟩
        · exact Fr.tr0 fd20_ (fr_Mo_pay_b30  d20_ (Fr.g fd20_ hg) h)
        · obtain ⟨r27_, d26_, hr28_, h⟩ := bd_some h
          have fd26_ : Fr wo_Mo_pay [19, 20, 21, 22, 23] false d d26_ := Fr.tr fd20_ (fr_Mo_wrongTelling (d20_ 0 10) 60 p5 d20_ (Fr.g fd20_ hg) hr28_) (by decide) (by decide) (by decide)
          rcases ite_some h with ⟨hc30_, h⟩ | ⟨hc30_, h⟩
          · obtain ⟨r32_, d31_, hr33_, h⟩ := bd_some h
            have fd31_ : Fr wo_Mo_pay [19, 20, 21, 22, 23] false d d31_ := Fr.tr fd26_ (fr_Mo_is r27_ d26_ (Fr.g fd26_ hg) hr33_) (by decide) (by decide) (by decide)
            obtain ⟨rfl, rfl⟩ := ret_inj h
            exact fd31_
          · obtain ⟨hb36_, h⟩ := ck_some h
            obtain ⟨hb38_, h⟩ := ck_some h
            obtain ⟨hb40_, h⟩ := ck_some h
            obtain ⟨hb42_, h⟩ := ck_some h
            obtain ⟨hb44_, h⟩ := ck_some h
            obtain ⟨r47_, d46_, hr48_, h⟩ := bd_some h
            have fd46_ : Fr wo_Mo_pay [19, 20, 21, 22, 23] false d d46_ := Fr.tr (Fr.upo (Fr.upa (Fr.upa (Fr.upa (Fr.upa (Fr.upa (Fr.upo fd26_ rfl (by decide)) rfl (by decide)) rfl (by decide)) rfl (by decide)) rfl (by decide)) rfl (by decide)) rfl (by decide)) (fr_Mo_is 0 (up2 (up2 (up2 (up2 (up2 (up2 (up2 d26_ 0 11 p5) 19 ((d26_ 0 10)).toNat p1) 20 ((d26_ 0 10)).toNat p2) 21 ((d26_ 0 10)).toNat p3) 23 ((d26_ 0 10)).toNat p4) 22 ((d26_ 0 10)).toNat p5) 0 10 (w32 ((d26_ 0 10) + 1))) (Fr.g (Fr.upo (Fr.upa (Fr.upa (Fr.upa (Fr.upa (Fr.upa (Fr.upo fd26_ rfl (by decide)) rfl (by decide)) rfl (by decide)) rfl (by decide)) rfl (by decide)) rfl (by decide)) rfl (by decide)) hg) hr48_) (by decide) (by decide) (by decide)
            obtain ⟨rfl, rfl⟩ := ret_inj h
            exact fd46_
/-! frames of Mo_asof -/
def wo_Mo_asof : List (Nat × Nat) := [(0, 0), (0, 12)]
theorem fr_Mo_asof {r : Int} {d' : Dt} (p1 : Int) (d : Dt) (hg : d GH 0 ≤ 6) (h : L_Mo_asof p1 d = some (r, d')) : Fr wo_Mo_asof [] false d d' := by
  have f0 : Fr wo_Mo_asof [] false d d := Fr.rfl
  unfold L_Mo_asof at h
  obtain ⟨r2_, d1_, hr3_, h⟩ := bd_some h
  have fd1_ : Fr wo_Mo_asof [] false d d1_ := Fr.tr f0 (fr_Mo_isDay p1 d (Fr.g f0 hg) hr3_) (by decide) (by decide) (by decide)
  rcases ite_some h with ⟨hc5_, h⟩ | ⟨hc5_, h⟩
  · obtain ⟨r7_, d6_, hr8_, h⟩ := bd_some h
    have fd6_ : Fr wo_Mo_asof [] false d d6_ := Fr.tr fd1_ (fr_Mo_is 1 d1_ (Fr.g fd1_ hg) hr8_) (by decide) (by decide) (by decide)
    obtain ⟨rfl, rfl⟩ := ret_inj h
    exact fd6_
  · obtain ⟨r11_, d10_, hr12_, h⟩ := bd_some h
    have fd10_ : Fr wo_Mo_asof [] false d d10_ := Fr.tr (Fr.upo fd1_ rfl (by decide)) (fr_Mo_is 0 (up2 d1_ 0 12 p1) (Fr.g (Fr.upo fd1_ rfl (by decide)) hg) hr12_) (by decide) (by decide) (by decide)
    obtain ⟨rfl, rfl⟩ := ret_inj h
    exact fd10_
/-! frames of Mo_splitSince -/
def wo_Mo_splitSince : List (Nat × Nat) := []
def he_Mo_splitSince_7 (q : (Int × Dt)) : Dt := q.2
def hb_Mo_splitSince_7 (o : (Int × Int × Int × Int × Dt) ⊕ ((Int × Dt))) : Dt := match o with
  | .inl q => q.2.2.2.2
  | .inr r => he_Mo_splitSince_7 r
theorem fr_Mo_splitSince_b66 {o : (Int × Int × Int × Int × Dt) ⊕ ((Int × Dt))} (x1 x2 x3 x4 : Int) (d : Dt) (hg : d GH 0 ≤ 6) (h : L_Mo_splitSince_b66 x1 x2 x3 x4 d = some o) : Fr wo_Mo_splitSince [] false d (hb_Mo_splitSince_7 o) := by
  have f0 : Fr wo_Mo_splitSince [] false d d := Fr.rfl
  unfold L_Mo_splitSince_b66 at h
  obtain rfl := Option.some.inj h
  exact f0
theorem fr_Mo_splitSince_y7 {o : (Int × Int × Int × Int × Dt) ⊕ ((Int × Dt))} (x1 x2 x3 x4 : Int) (d : Dt) (hg : d GH 0 ≤ 6) (h : L_Mo_splitSince_y7 x1 x2 x3 x4 d = some o) : Fr wo_Mo_splitSince [] false d (hb_Mo_splitSince_7 o) := by
  have f0 : Fr wo_Mo_splitSince [] false d d := Fr.rfl
  unfold L_Mo_splitSince_y7 at h
  rcases ite_some h with ⟨hc2_, h⟩ | ⟨hc2_, h⟩
  · obtain ⟨hb3_, h⟩ := ck_some h
    rcases ite_some h with ⟨hc5_, h⟩ | ⟨hc5_, h⟩
    · obtain ⟨hb6_, h⟩ := ck_some h
      rcases ite_some h with ⟨hc8_, h⟩ | ⟨hc8_, h⟩
      · exact Fr.tr0 f0 (fr_Mo_splitSince_b66 x1 x2 x3 x4 d (Fr.g f0 hg) h)
      · obtain ⟨hb9_, h⟩ := ck_some h
        rcases ite_some h with ⟨hc12_, h⟩ | ⟨hc12_, h⟩
        · exact Fr.tr0 f0 (fr_Mo_splitSince_b66 x1 x2 x3 x4 d (Fr.g f0 hg) h)
        · obtain ⟨hb13_, h⟩ := ck_some h
          obtain ⟨v15_, ev16_, h⟩ := lt_some h
          exact Fr.tr0 f0 (fr_Mo_splitSince_b66 x1 x2 v15_ x4 d (Fr.g f0 hg) h)
    · exact Fr.tr0 f0 (fr_Mo_splitSince_b66 x1 x2 x3 x4 d (Fr.g f0 hg) h)
  · obtain rfl := Option.some.inj h
    exact f0
theorem fr_Mo_splitSince_l7 {x : (Int × Dt)} (x1 x2 x3 x4 : Int) (d : Dt) (hg : d GH 0 ≤ 6) (h : L_Mo_splitSince_l7 x1 x2 x3 x4 d = some x) : Fr wo_Mo_splitSince [] false d (he_Mo_splitSince_7 x) :=
  lpF_fr (f := fun q : Int × Int × Int × Int × Dt => L_Mo_splitSince_y7 q.1 q.2.1 q.2.2.1 q.2.2.2.1 q.2.2.2.2) (fun q => q.2.2.2.2) he_Mo_splitSince_7 (fun q x hq hx => ⟨fun q2 e2 => by subst e2; exact fr_Mo_splitSince_y7 q.1 q.2.1 q.2.2.1 q.2.2.2.1 q.2.2.2.2 hq hx, fun r2 e2 => by subst e2; exact fr_Mo_splitSince_y7 q.1 q.2.1 q.2.2.1 q.2.2.2.1 q.2.2.2.2 hq hx⟩) FU _ x hg h
theorem fr_Mo_splitSince {r : Int} {d' : Dt} (p1 p2 : Int) (d : Dt) (hg : d GH 0 ≤ 6) (h : L_Mo_splitSince p1 p2 d = some (r, d')) : Fr wo_Mo_splitSince [] false d d' := by
  have f0 : Fr wo_Mo_splitSince [] false d d := Fr.rfl
  unfold L_Mo_splitSince at h
  obtain ⟨x18_, hx19_, h⟩ := lb_some h
  have fx18_ := Fr.tr0 f0 (fr_Mo_splitSince_l7 p1 p2 9999 0 d (Fr.g f0 hg) hx19_)
  obtain ⟨v20_, d21_⟩ := x18_
  have fd21_ : Fr wo_Mo_splitSince [] false d d21_ := fx18_
  replace h := u1_e h
  obtain ⟨rfl, rfl⟩ := ret_inj h
  exact fd21_
/-! frames of Mo_factOf -/
def wo_Mo_factOf : List (Nat × Nat) := []
def he_Mo_factOf_60 (q : (Int × Dt)) : Dt := q.2
def hb_Mo_factOf_60 (o : (Int × Int × Int × Int × Dt) ⊕ ((Int × Dt))) : Dt := match o with
  | .inl q => q.2.2.2.2
  | .inr r => he_Mo_factOf_60 r
def he_Mo_factOf_143 (q : (Int × Dt)) : Dt := q.2
def hb_Mo_factOf_143 (o : (Int × Int × Int × Int × Int × Dt) ⊕ ((Int × Dt))) : Dt := match o with
  | .inl q => q.2.2.2.2.2
  | .inr r => he_Mo_factOf_143 r
theorem fr_Mo_factOf_b128 {o : (Int × Int × Int × Int × Dt) ⊕ ((Int × Dt))} (x1 x3 x6 s0 s1 : Int) (d : Dt) (hg : d GH 0 ≤ 6) (h : L_Mo_factOf_b128 x1 x3 x6 s0 s1 d = some o) : Fr wo_Mo_factOf [] false d (hb_Mo_factOf_60 o) := by
  have f0 : Fr wo_Mo_factOf [] false d d := Fr.rfl
  unfold L_Mo_factOf_b128 at h
  obtain ⟨v1_, ev2_, h⟩ := lt_some h
  obtain rfl := Option.some.inj h
  exact f0
theorem fr_Mo_factOf_y60 {o : (Int × Int × Int × Int × Dt) ⊕ ((Int × Dt))} (x1 x3 x5 x6 : Int) (d : Dt) (hg : d GH 0 ≤ 6) (h : L_Mo_factOf_y60 x1 x3 x5 x6 d = some o) : Fr wo_Mo_factOf [] false d (hb_Mo_factOf_60 o) := by
  have f0 : Fr wo_Mo_factOf [] false d d := Fr.rfl
  unfold L_Mo_factOf_y60 at h
  rcases ite_some h with ⟨hc5_, h⟩ | ⟨hc5_, h⟩
  · obtain ⟨hb6_, h⟩ := ck_some h
    rcases ite_some h with ⟨hc8_, h⟩ | ⟨hc8_, h⟩
    · obtain ⟨hb9_, h⟩ := ck_some h
      rcases ite_some h with ⟨hc11_, h⟩ | ⟨hc11_, h⟩
      · exact Fr.tr0 f0 (fr_Mo_factOf_b128 x1 x3 x6 x5 0 d (Fr.g f0 hg) h)
      · obtain ⟨hb12_, h⟩ := ck_some h
        rcases ite_some h with ⟨hc14_, h⟩ | ⟨hc14_, h⟩
        · exact Fr.tr0 f0 (fr_Mo_factOf_b128 x1 x3 x6 x5 0 d (Fr.g f0 hg) h)
        · obtain ⟨hb15_, h⟩ := ck_some h
          rcases ite_some h with ⟨hc18_, h⟩ | ⟨hc18_, h⟩
          · exact Fr.tr0 f0 (fr_Mo_factOf_b128 x1 x3 x6 x5 0 d (Fr.g f0 hg) h)
          · obtain ⟨hb19_, h⟩ := ck_some h
            exact Fr.tr0 f0 (fr_Mo_factOf_b128 x1 x3 x6 x5 (d 20 x6.toNat) d (Fr.g f0 hg) h)
    · exact Fr.tr0 f0 (fr_Mo_factOf_b128 x1 x3 x6 x5 0 d (Fr.g f0 hg) h)
  · obtain rfl := Option.some.inj h
    exact f0
theorem fr_Mo_factOf_l60 {x : (Int × Dt)} (x1 x3 x5 x6 : Int) (d : Dt) (hg : d GH 0 ≤ 6) (h : L_Mo_factOf_l60 x1 x3 x5 x6 d = some x) : Fr wo_Mo_factOf [] false d (he_Mo_factOf_60 x) :=
  lpF_fr (f := fun q : Int × Int × Int × Int × Dt => L_Mo_factOf_y60 q.1 q.2.1 q.2.2.1 q.2.2.2.1 q.2.2.2.2) (fun q => q.2.2.2.2) he_Mo_factOf_60 (fun q x hq hx => ⟨fun q2 e2 => by subst e2; exact fr_Mo_factOf_y60 q.1 q.2.1 q.2.2.1 q.2.2.2.1 q.2.2.2.2 hq hx, fun r2 e2 => by subst e2; exact fr_Mo_factOf_y60 q.1 q.2.1 q.2.2.1 q.2.2.2.1 q.2.2.2.2 hq hx⟩) FU _ x hg h
theorem fr_Mo_factOf_b278 {o : (Int × Int × Int × Int × Int × Dt) ⊕ ((Int × Dt))} (x1 x3 x4 x5 x6 : Int) (d : Dt) (hg : d GH 0 ≤ 6) (h : L_Mo_factOf_b278 x1 x3 x4 x5 x6 d = some o) : Fr wo_Mo_factOf [] false d (hb_Mo_factOf_143 o) := by
  have f0 : Fr wo_Mo_factOf [] false d d := Fr.rfl
  unfold L_Mo_factOf_b278 at h
  obtain rfl := Option.some.inj h
  exact f0
theorem fr_Mo_factOf_y143 {o : (Int × Int × Int × Int × Int × Dt) ⊕ ((Int × Dt))} (x1 x3 x4 x5 x6 : Int) (d : Dt) (hg : d GH 0 ≤ 6) (h : L_Mo_factOf_y143 x1 x3 x4 x5 x6 d = some o) : Fr wo_Mo_factOf [] false d (hb_Mo_factOf_143 o) := by
  have f0 : Fr wo_Mo_factOf [] false d d := Fr.rfl
  unfold L_Mo_factOf_y143 at h
  rcases ite_some h with ⟨hc22_, h⟩ | ⟨hc22_, h⟩
  · obtain ⟨hb23_, h⟩ := ck_some h
    rcases ite_some h with ⟨hc25_, h⟩ | ⟨hc25_, h⟩
    · obtain ⟨hb26_, h⟩ := ck_some h
      rcases ite_some h with ⟨hc28_, h⟩ | ⟨hc28_, h⟩
      · exact Fr.tr0 f0 (fr_Mo_factOf_b278 x1 x3 x4 x5 x6 d (Fr.g f0 hg) h)
      · obtain ⟨hb29_, h⟩ := ck_some h
        rcases ite_some h with ⟨hc31_, h⟩ | ⟨hc31_, h⟩
        · exact Fr.tr0 f0 (fr_Mo_factOf_b278 x1 x3 x4 x5 x6 d (Fr.g f0 hg) h)
        · obtain ⟨hb32_, h⟩ := ck_some h
          rcases ite_some h with ⟨hc35_, h⟩ | ⟨hc35_, h⟩
          · exact Fr.tr0 f0 (fr_Mo_factOf_b278 x1 x3 x4 x5 x6 d (Fr.g f0 hg) h)
          · rcases ite_some h with ⟨hc36_, h⟩ | ⟨hc36_, h⟩
            · obtain ⟨hb37_, h⟩ := ck_some h
              obtain ⟨v39_, ev40_, h⟩ := lt_some h
              exact Fr.tr0 f0 (fr_Mo_factOf_b278 x1 x3 x4 v39_ x6 d (Fr.g f0 hg) h)
            · rcases ite_some h with ⟨hc42_, h⟩ | ⟨hc42_, h⟩
              · exact Fr.tr0 f0 (fr_Mo_factOf_b278 x1 x3 x4 (w32 (x5 + 1)) x6 d (Fr.g f0 hg) h)
              · rcases ite_some h with ⟨hc43_, h⟩ | ⟨hc43_, h⟩
                · obtain ⟨hb44_, h⟩ := ck_some h
                  obtain ⟨v46_, ev47_, h⟩ := lt_some h
                  exact Fr.tr0 f0 (fr_Mo_factOf_b278 x1 x3 x4 v46_ x6 d (Fr.g f0 hg) h)
                · obtain ⟨hb49_, h⟩ := ck_some h
                  obtain ⟨r52_, d51_, hr53_, h⟩ := bd_some h
                  have fd51_ : Fr wo_Mo_factOf [] false d d51_ := Fr.tr f0 (fr_Mo_splitSince (d 11 x6.toNat) x3 d (Fr.g f0 hg) hr53_) (by decide) (by decide) (by decide)
                  obtain ⟨v55_, ev56_, h⟩ := lt_some h
                  exact Fr.tr0 fd51_ (fr_Mo_factOf_b278 x1 x3 x4 v55_ x6 d51_ (Fr.g fd51_ hg) h)
    · exact Fr.tr0 f0 (fr_Mo_factOf_b278 x1 x3 x4 x5 x6 d (Fr.g f0 hg) h)
  · obtain rfl := Option.some.inj h
    exact f0
theorem fr_Mo_factOf_l143 {x : (Int × Dt)} (x1 x3 x4 x5 x6 : Int) (d : Dt) (hg : d GH 0 ≤ 6) (h : L_Mo_factOf_l143 x1 x3 x4 x5 x6 d = some x) : Fr wo_Mo_factOf [] false d (he_Mo_factOf_143 x) :=
  lpF_fr (f := fun q : Int × Int × Int × Int × Int × Dt => L_Mo_factOf_y143 q.1 q.2.1 q.2.2.1 q.2.2.2.1 q.2.2.2.2.1 q.2.2.2.2.2) (fun q => q.2.2.2.2.2) he_Mo_factOf_143 (fun q x hq hx => ⟨fun q2 e2 => by subst e2; exact fr_Mo_factOf_y143 q.1 q.2.1 q.2.2.1 q.2.2.2.1 q.2.2.2.2.1 q.2.2.2.2.2 hq hx, fun r2 e2 => by subst e2; exact fr_Mo_factOf_y143 q.1 q.2.1 q.2.2.1 q.2.2.2.1 q.2.2.2.2.1 q.2.2.2.2.2 hq hx⟩) FU _ x hg h
theorem fr_Mo_factOf_b48 {r : Int} {d' : Dt} (x1 x3 x4 s0 : Int) (d : Dt) (hg : d GH 0 ≤ 6) (h : L_Mo_factOf_b48 x1 x3 x4 s0 d = some (r, d')) : Fr wo_Mo_factOf [] false d d' := by
  have f0 : Fr wo_Mo_factOf [] false d d := Fr.rfl
  unfold L_Mo_factOf_b48 at h
  rcases ite_some h with ⟨hc58_, h⟩ | ⟨hc58_, h⟩
  · obtain ⟨x59_, hx60_, h⟩ := lb_some h
    have fx59_ := Fr.tr0 f0 (fr_Mo_factOf_l60 x1 x3 s0 0 d (Fr.g f0 hg) hx60_)
    obtain ⟨v61_, d62_⟩ := x59_
    have fd62_ : Fr wo_Mo_factOf [] false d d62_ := fx59_
    replace h := u1_e h
    obtain ⟨rfl, rfl⟩ := ret_inj h
    exact fd62_
  · obtain ⟨x65_, hx66_, h⟩ := lb_some h
    have fx65_ := Fr.tr0 f0 (fr_Mo_factOf_l143 x1 x3 x4 s0 0 d (Fr.g f0 hg) hx66_)
    obtain ⟨v67_, d68_⟩ := x65_
    have fd68_ : Fr wo_Mo_factOf [] false d d68_ := fx65_
    replace h := u1_e h
    obtain ⟨rfl, rfl⟩ := ret_inj h
    exact fd68_
theorem fr_Mo_factOf {r : Int} {d' : Dt} (p1 p2 p3 p4 : Int) (d : Dt) (hg : d GH 0 ≤ 6) (h : L_Mo_factOf p1 p2 p3 p4 d = some (r, d')) : Fr wo_Mo_factOf [] false d d' := by
  have f0 : Fr wo_Mo_factOf [] false d d := Fr.rfl
  unfold L_Mo_factOf at h
  rcases ite_some h with ⟨hc71_, h⟩ | ⟨hc71_, h⟩
  · obtain ⟨hb72_, h⟩ := ck_some h
    obtain ⟨rfl, rfl⟩ := ret_inj h
    exact f0
  · rcases ite_some h with ⟨hc74_, h⟩ | ⟨hc74_, h⟩
    · obtain ⟨hb75_, h⟩ := ck_some h
      rcases ite_some h with ⟨hc77_, h⟩ | ⟨hc77_, h⟩
      · obtain ⟨rfl, rfl⟩ := ret_inj h
        exact f0
      · obtain ⟨rfl, rfl⟩ := ret_inj h
        exact f0
    · rcases ite_some h with ⟨hc78_, h⟩ | ⟨hc78_, h⟩
      · exact Fr.tr0 f0 (fr_Mo_factOf_b48 p1 p3 p4 9999 d (Fr.g f0 hg) h)
      · exact Fr.tr0 f0 (fr_Mo_factOf_b48 p1 p3 p4 0 d (Fr.g f0 hg) h)
/-! frames of Mo_fact -/
def wo_Mo_fact : List (Nat × Nat) := [(0, 0)]
theorem fr_Mo_fact_b34 {r : Int} {d' : Dt} (d : Dt) (hg : d GH 0 ≤ 6) (h : L_Mo_fact_b34 d = some (r, d')) : Fr wo_Mo_fact [] false d d' := by
  have f0 : Fr wo_Mo_fact [] false d d := Fr.rfl
  unfold L_Mo_fact_b34 at h
  obtain ⟨r2_, d1_, hr3_, h⟩ := bd_some h
  have fd1_ : Fr wo_Mo_fact [] false d d1_ := Fr.tr f0 (fr_Mo_refuse 1 d (Fr.g f0 hg) hr3_) (by decide) (by decide) (by decide)
  obtain ⟨rfl, rfl⟩ := ret_inj h
  exact fd1_
theorem fr_Mo_fact {r : Int} {d' : Dt} (p1 p2 p3 p4 : Int) (d : Dt) (hg : d GH 0 ≤ 6) (h : L_Mo_fact p1 p2 p3 p4 d = some (r, d')) : Fr wo_Mo_fact [] false d d' := by
  have f0 : Fr wo_Mo_fact [] false d d := Fr.rfl
  unfold L_Mo_fact at h
  obtain ⟨r6_, d5_, hr7_, h⟩ := bd_some h
  have fd5_ : Fr wo_Mo_fact [] false d d5_ := Fr.tr f0 (fr_Mo_isPerson p1 d (Fr.g f0 hg) hr7_) (by decide) (by decide) (by decide)
  rcases ite_some h with ⟨hc9_, h⟩ | ⟨hc9_, h⟩
  · exact Fr.tr0 fd5_ (fr_Mo_fact_b34  d5_ (Fr.g fd5_ hg) h)
  · obtain ⟨r11_, d10_, hr12_, h⟩ := bd_some h
    have fd10_ : Fr wo_Mo_fact [] false d d10_ := Fr.tr fd5_ (fr_Mo_isPlace p2 d5_ (Fr.g fd5_ hg) hr12_) (by decide) (by decide) (by decide)
    rcases ite_some h with ⟨hc14_, h⟩ | ⟨hc14_, h⟩
    · exact Fr.tr0 fd10_ (fr_Mo_fact_b34  d10_ (Fr.g fd10_ hg) h)
    · obtain ⟨r16_, d15_, hr17_, h⟩ := bd_some h
      have fd15_ : Fr wo_Mo_fact [] false d d15_ := Fr.tr fd10_ (fr_Mo_isDay p3 d10_ (Fr.g fd10_ hg) hr17_) (by decide) (by decide) (by decide)
      rcases ite_some h with ⟨hc19_, h⟩ | ⟨hc19_, h⟩
      · exact Fr.tr0 fd15_ (fr_Mo_fact_b34  d15_ (Fr.g fd15_ hg) h)
      · rcases ite_some h with ⟨hc20_, h⟩ | ⟨hc20_, h⟩
        · exact Fr.tr0 fd15_ (fr_Mo_fact_b34  d15_ (Fr.g fd15_ hg) h)
        · rcases ite_some h with ⟨hc21_, h⟩ | ⟨hc21_, h⟩
          · exact Fr.tr0 fd15_ (fr_Mo_fact_b34  d15_ (Fr.g fd15_ hg) h)
          · obtain ⟨r23_, d22_, hr24_, h⟩ := bd_some h
            have fd22_ : Fr wo_Mo_fact [] false d d22_ := Fr.tr fd15_ (fr_Mo_factOf p1 p2 p3 p4 d15_ (Fr.g fd15_ hg) hr24_) (by decide) (by decide) (by decide)
            obtain ⟨r27_, d26_, hr28_, h⟩ := bd_some h
            have fd26_ : Fr wo_Mo_fact [] false d d26_ := Fr.tr fd22_ (fr_Mo_gives r23_ d22_ (Fr.g fd22_ hg) hr28_) (by decide) (by decide) (by decide)
            obtain ⟨rfl, rfl⟩ := ret_inj h
            exact fd26_
/-! frames of Mo_four -/
def wo_Mo_four : List (Nat × Nat) := [(0, 32)]
def he_Mo_four_3 (q : (Dt)) : Dt := q
def hb_Mo_four_3 (o : (Int × Int × Dt) ⊕ ((Dt))) : Dt := match o with
  | .inl q => q.2.2
  | .inr r => he_Mo_four_3 r
theorem fr_Mo_four_y3 {o : (Int × Int × Dt) ⊕ ((Dt))} (x1 x2 : Int) (d : Dt) (hg : d GH 0 ≤ 6) (h : L_Mo_four_y3 x1 x2 d = some o) : Fr wo_Mo_four [24] false d (hb_Mo_four_3 o) := by
  have f0 : Fr wo_Mo_four [24] false d d := Fr.rfl
  unfold L_Mo_four_y3 at h
  rcases ite_some h with ⟨hc1_, h⟩ | ⟨hc1_, h⟩
  · obtain rfl := Option.some.inj h
    exact f0
  · obtain ⟨hb3_, h⟩ := ck_some h
    obtain rfl := Option.some.inj h
    exact (Fr.upo (Fr.upa f0 rfl (by decide)) rfl (by decide))
theorem fr_Mo_four_l3 {x : (Dt)} (x1 x2 : Int) (d : Dt) (hg : d GH 0 ≤ 6) (h : L_Mo_four_l3 x1 x2 d = some x) : Fr wo_Mo_four [24] false d (he_Mo_four_3 x) :=
  lpF_fr (f := fun q : Int × Int × Dt => L_Mo_four_y3 q.1 q.2.1 q.2.2) (fun q => q.2.2) he_Mo_four_3 (fun q x hq hx => ⟨fun q2 e2 => by subst e2; exact fr_Mo_four_y3 q.1 q.2.1 q.2.2 hq hx, fun r2 e2 => by subst e2; exact fr_Mo_four_y3 q.1 q.2.1 q.2.2 hq hx⟩) FU _ x hg h
theorem fr_Mo_four {r : Int} {d' : Dt} (p1 : Int) (d : Dt) (hg : d GH 0 ≤ 6) (h : L_Mo_four p1 d = some (r, d')) : Fr wo_Mo_four [24] false d d' := by
  have f0 : Fr wo_Mo_four [24] false d d := Fr.rfl
  unfold L_Mo_four at h
  obtain ⟨x5_, hx6_, h⟩ := lb_some h
  have fx5_ := Fr.tr0 f0 (fr_Mo_four_l3 p1 24 d (Fr.g f0 hg) hx6_)
  obtain ⟨d7_, rfl⟩ : ∃ z, z = x5_ := ⟨_, rfl⟩
  have fd7_ : Fr wo_Mo_four [24] false d d7_ := fx5_
  replace h := u0_e h
  obtain ⟨rfl, rfl⟩ := ret_inj h
  exact fd7_
/-! frames of Mo_feed -/
def wo_Mo_feed : List (Nat × Nat) := [(0, 32)]
theorem fr_Mo_feed {r : Int} {d' : Dt} (p1 p2 p3 p4 p5 : Int) (d : Dt) (hg : d GH 0 ≤ 6) (h : L_Mo_feed p1 p2 p3 p4 p5 d = some (r, d')) : Fr wo_Mo_feed [24] false d d' := by
  have f0 : Fr wo_Mo_feed [24] false d d := Fr.rfl
  unfold L_Mo_feed at h
  rcases ite_some h with ⟨hc2_, h⟩ | ⟨hc2_, h⟩
  · obtain ⟨rfl, rfl⟩ := ret_inj h
    exact f0
  · obtain ⟨r4_, d3_, hr5_, h⟩ := bd_some h
    have fd3_ : Fr wo_Mo_feed [24] false d d3_ := Fr.tr f0 (fr_Mo_four p1 d (Fr.g f0 hg) hr5_) (by decide) (by decide) (by decide)
    obtain ⟨r8_, d7_, hr9_, h⟩ := bd_some h
    have fd7_ : Fr wo_Mo_feed [24] false d d7_ := Fr.tr fd3_ (fr_Mo_four p2 d3_ (Fr.g fd3_ hg) hr9_) (by decide) (by decide) (by decide)
    obtain ⟨r12_, d11_, hr13_, h⟩ := bd_some h
    have fd11_ : Fr wo_Mo_feed [24] false d d11_ := Fr.tr fd7_ (fr_Mo_four p3 d7_ (Fr.g fd7_ hg) hr13_) (by decide) (by decide) (by decide)
    obtain ⟨r16_, d15_, hr17_, h⟩ := bd_some h
    have fd15_ : Fr wo_Mo_feed [24] false d d15_ := Fr.tr fd11_ (fr_Mo_four p4 d11_ (Fr.g fd11_ hg) hr17_) (by decide) (by decide) (by decide)
    obtain ⟨r20_, d19_, hr21_, h⟩ := bd_some h
    have fd19_ : Fr wo_Mo_feed [24] false d d19_ := Fr.tr fd15_ (fr_Mo_four p5 d15_ (Fr.g fd15_ hg) hr21_) (by decide) (by decide) (by decide)
    obtain ⟨rfl, rfl⟩ := ret_inj h
    exact fd19_
/-! frames of Mo_at -/
def wo_Mo_at : List (Nat × Nat) := []
theorem fr_Mo_at {r : Int} {d' : Dt} (p1 : Int) (d : Dt) (hg : d GH 0 ≤ 6) (h : L_Mo_at p1 d = some (r, d')) : Fr wo_Mo_at [] false d d' := by
  have f0 : Fr wo_Mo_at [] false d d := Fr.rfl
  unfold L_Mo_at at h
  rcases ite_some h with ⟨hc2_, h⟩ | ⟨hc2_, h⟩
  · obtain ⟨hb3_, h⟩ := ck_some h
    obtain ⟨rfl, rfl⟩ := ret_inj h
    exact f0
  · obtain ⟨rfl, rfl⟩ := ret_inj h
    exact f0
/-! frames of Mo_isSmall -/
def wo_Mo_isSmall : List (Nat × Nat) := []
theorem fr_Mo_isSmall {r : Int} {d' : Dt} (p1 : Int) (d : Dt) (hg : d GH 0 ≤ 6) (h : L_Mo_isSmall p1 d = some (r, d')) : Fr wo_Mo_isSmall [] false d d' := by
  have f0 : Fr wo_Mo_isSmall [] false d d := Fr.rfl
  unfold L_Mo_isSmall at h
  rcases ite_some h with ⟨hc1_, h⟩ | ⟨hc1_, h⟩
  · obtain ⟨rfl, rfl⟩ := ret_inj h
    exact f0
  · rcases ite_some h with ⟨hc2_, h⟩ | ⟨hc2_, h⟩
    · obtain ⟨rfl, rfl⟩ := ret_inj h
      exact f0
    · obtain ⟨rfl, rfl⟩ := ret_inj h
      exact f0
/-! frames of Mo_isDigit -/
def wo_Mo_isDigit : List (Nat × Nat) := []
theorem fr_Mo_isDigit {r : Int} {d' : Dt} (p1 : Int) (d : Dt) (hg : d GH 0 ≤ 6) (h : L_Mo_isDigit p1 d = some (r, d')) : Fr wo_Mo_isDigit [] false d d' := by
  have f0 : Fr wo_Mo_isDigit [] false d d := Fr.rfl
  unfold L_Mo_isDigit at h
  rcases ite_some h with ⟨hc1_, h⟩ | ⟨hc1_, h⟩
  · obtain ⟨rfl, rfl⟩ := ret_inj h
    exact f0
  · rcases ite_some h with ⟨hc2_, h⟩ | ⟨hc2_, h⟩
    · obtain ⟨rfl, rfl⟩ := ret_inj h
      exact f0
    · obtain ⟨rfl, rfl⟩ := ret_inj h
      exact f0
/-! frames of Mo_next -/
def wo_Mo_next : List (Nat × Nat) := [(0, 34), (0, 35), (0, 36), (0, 37)]
def he_Mo_next_81 (q : (Dt)) : Dt := q
def hb_Mo_next_81 (o : (Dt) ⊕ ((Dt))) : Dt := match o with
  | .inl q => q
  | .inr r => he_Mo_next_81 r
def he_Mo_next_128 (q : (Dt)) : Dt := q
def hb_Mo_next_128 (o : (Dt) ⊕ ((Dt))) : Dt := match o with
  | .inl q => q
  | .inr r => he_Mo_next_128 r
def he_Mo_next_0 (q : (Dt)) : Dt := q
def hb_Mo_next_0 (o : (Dt) ⊕ ((Dt))) : Dt := match o with
  | .inl q => q
  | .inr r => he_Mo_next_0 r
theorem fr_Mo_next_y81 {o : (Dt) ⊕ ((Dt))} (d : Dt) (hg : d GH 0 ≤ 6) (h : L_Mo_next_y81 d = some o) : Fr wo_Mo_next [] false d (hb_Mo_next_81 o) := by
  have f0 : Fr wo_Mo_next [] false d d := Fr.rfl
  unfold L_Mo_next_y81 at h
  obtain ⟨r3_, d2_, hr4_, h⟩ := bd_some h
  have fd2_ : Fr wo_Mo_next [] false d d2_ := Fr.tr f0 (fr_Mo_at (d 0 36) d (Fr.g f0 hg) hr4_) (by decide) (by decide) (by decide)
  obtain ⟨r7_, d6_, hr8_, h⟩ := bd_some h
  have fd6_ : Fr wo_Mo_next [] false d d6_ := Fr.tr fd2_ (fr_Mo_isSmall r3_ d2_ (Fr.g fd2_ hg) hr8_) (by decide) (by decide) (by decide)
  rcases ite_some h with ⟨hc10_, h⟩ | ⟨hc10_, h⟩
  · obtain rfl := Option.some.inj h
    exact fd6_
  · obtain rfl := Option.some.inj h
    exact (Fr.upo fd6_ rfl (by decide))
theorem fr_Mo_next_l81 {x : (Dt)} (d : Dt) (hg : d GH 0 ≤ 6) (h : L_Mo_next_l81 d = some x) : Fr wo_Mo_next [] false d (he_Mo_next_81 x) :=
  lpF_fr (f := fun q : Dt => L_Mo_next_y81 q) (fun q => q) he_Mo_next_81 (fun q x hq hx => ⟨fun q2 e2 => by subst e2; exact fr_Mo_next_y81 q hq hx, fun r2 e2 => by subst e2; exact fr_Mo_next_y81 q hq hx⟩) FU _ x hg h
theorem fr_Mo_next_y128 {o : (Dt) ⊕ ((Dt))} (d : Dt) (hg : d GH 0 ≤ 6) (h : L_Mo_next_y128 d = some o) : Fr wo_Mo_next [] false d (hb_Mo_next_128 o) := by
  have f0 : Fr wo_Mo_next [] false d d := Fr.rfl
  unfold L_Mo_next_y128 at h
  obtain ⟨r14_, d13_, hr15_, h⟩ := bd_some h
  have fd13_ : Fr wo_Mo_next [] false d d13_ := Fr.tr f0 (fr_Mo_at (d 0 36) d (Fr.g f0 hg) hr15_) (by decide) (by decide) (by decide)
  obtain ⟨r18_, d17_, hr19_, h⟩ := bd_some h
  have fd17_ : Fr wo_Mo_next [] false d d17_ := Fr.tr fd13_ (fr_Mo_isDigit r14_ d13_ (Fr.g fd13_ hg) hr19_) (by decide) (by decide) (by decide)
  rcases ite_some h with ⟨hc21_, h⟩ | ⟨hc21_, h⟩
  · obtain rfl := Option.some.inj h
    exact fd17_
  · obtain ⟨r25_, d24_, hr26_, h⟩ := bd_some h
    have fd24_ : Fr wo_Mo_next [] false d d24_ := Fr.tr fd17_ (fr_Mo_at (d17_ 0 36) d17_ (Fr.g fd17_ hg) hr26_) (by decide) (by decide) (by decide)
    obtain rfl := Option.some.inj h
    exact (Fr.upo (Fr.upo fd24_ rfl (by decide)) rfl (by decide))
theorem fr_Mo_next_l128 {x : (Dt)} (d : Dt) (hg : d GH 0 ≤ 6) (h : L_Mo_next_l128 d = some x) : Fr wo_Mo_next [] false d (he_Mo_next_128 x) :=
  lpF_fr (f := fun q : Dt => L_Mo_next_y128 q) (fun q => q) he_Mo_next_128 (fun q x hq hx => ⟨fun q2 e2 => by subst e2; exact fr_Mo_next_y128 q hq hx, fun r2 e2 => by subst e2; exact fr_Mo_next_y128 q hq hx⟩) FU _ x hg h
theorem fr_Mo_next_b26 {o : (Dt) ⊕ ((Dt))} (d : Dt) (hg : d GH 0 ≤ 6) (h : L_Mo_next_b26 d = some o) : Fr wo_Mo_next [] false d (hb_Mo_next_0 o) := by
  have f0 : Fr wo_Mo_next [] false d d := Fr.rfl
  unfold L_Mo_next_b26 at h
  obtain rfl := Option.some.inj h
  exact (Fr.upo f0 rfl (by decide))
theorem fr_Mo_next_y0 {o : (Dt) ⊕ ((Dt))} (d : Dt) (hg : d GH 0 ≤ 6) (h : L_Mo_next_y0 d = some o) : Fr wo_Mo_next [] false d (hb_Mo_next_0 o) := by
  have f0 : Fr wo_Mo_next [] false d d := Fr.rfl
  unfold L_Mo_next_y0 at h
  obtain ⟨r32_, d31_, hr33_, h⟩ := bd_some h
  have fd31_ : Fr wo_Mo_next [] false d d31_ := Fr.tr f0 (fr_Mo_at (d 0 36) d (Fr.g f0 hg) hr33_) (by decide) (by decide) (by decide)
  rcases ite_some h with ⟨hc35_, h⟩ | ⟨hc35_, h⟩
  · exact Fr.tr0 fd31_ (fr_Mo_next_b26  d31_ (Fr.g fd31_ hg) h)
  · obtain ⟨r38_, d37_, hr39_, h⟩ := bd_some h
    have fd37_ : Fr wo_Mo_next [] false d d37_ := Fr.tr fd31_ (fr_Mo_at (d31_ 0 36) d31_ (Fr.g fd31_ hg) hr39_) (by decide) (by decide) (by decide)
    rcases ite_some h with ⟨hc41_, h⟩ | ⟨hc41_, h⟩
    · exact Fr.tr0 fd37_ (fr_Mo_next_b26  d37_ (Fr.g fd37_ hg) h)
    · obtain rfl := Option.some.inj h
      exact fd37_
theorem fr_Mo_next_l0 {x : (Dt)} (d : Dt) (hg : d GH 0 ≤ 6) (h : L_Mo_next_l0 d = some x) : Fr wo_Mo_next [] false d (he_Mo_next_0 x) :=
  lpF_fr (f := fun q : Dt => L_Mo_next_y0 q) (fun q => q) he_Mo_next_0 (fun q x hq hx => ⟨fun q2 e2 => by subst e2; exact fr_Mo_next_y0 q hq hx, fun r2 e2 => by subst e2; exact fr_Mo_next_y0 q hq hx⟩) FU _ x hg h
theorem fr_Mo_next_b295 {r : Int} {d' : Dt} (s1 : Int) (d : Dt) (hg : d GH 0 ≤ 6) (h : L_Mo_next_b295 s1 d = some (r, d')) : Fr wo_Mo_next [] false d d' := by
  have f0 : Fr wo_Mo_next [] false d d := Fr.rfl
  unfold L_Mo_next_b295 at h
  obtain ⟨rfl, rfl⟩ := ret_inj h
  exact (Fr.upo f0 rfl (by decide))
theorem fr_Mo_next_b284 {r : Int} {d' : Dt} (s0 : Int) (d : Dt) (hg : d GH 0 ≤ 6) (h : L_Mo_next_b284 s0 d = some (r, d')) : Fr wo_Mo_next [] false d d' := by
  have f0 : Fr wo_Mo_next [] false d d := Fr.rfl
  unfold L_Mo_next_b284 at h
  rcases ite_some h with ⟨hc42_, h⟩ | ⟨hc42_, h⟩
  · exact Fr.tr0 f0 (fr_Mo_next_b295 1 d (Fr.g f0 hg) h)
  · exact Fr.tr0 f0 (fr_Mo_next_b295 4 d (Fr.g f0 hg) h)
theorem fr_Mo_next_b203 {r : Int} {d' : Dt} (s1 : Int) (d : Dt) (hg : d GH 0 ≤ 6) (h : L_Mo_next_b203 s1 d = some (r, d')) : Fr wo_Mo_next [] false d d' := by
  have f0 : Fr wo_Mo_next [] false d d := Fr.rfl
  unfold L_Mo_next_b203 at h
  obtain ⟨rfl, rfl⟩ := ret_inj h
  exact (Fr.upo f0 rfl (by decide))
theorem fr_Mo_next {r : Int} {d' : Dt} (d : Dt) (hg : d GH 0 ≤ 6) (h : L_Mo_next d = some (r, d')) : Fr wo_Mo_next [] false d d' := by
  have f0 : Fr wo_Mo_next [] false d d := Fr.rfl
  unfold L_Mo_next at h
  obtain ⟨x43_, hx44_, h⟩ := lb_some h
  have fx43_ := Fr.tr0 f0 (fr_Mo_next_l0  d (Fr.g f0 hg) hx44_)
  obtain ⟨d45_, rfl⟩ : ∃ z, z = x43_ := ⟨_, rfl⟩
  have fd45_ : Fr wo_Mo_next [] false d d45_ := fx43_
  replace h := u0_e h
  obtain ⟨r50_, d49_, hr51_, h⟩ := bd_some h
  have fd49_ : Fr wo_Mo_next [] false d d49_ := Fr.tr (Fr.upo fd45_ rfl (by decide)) (fr_Mo_at (d45_ 0 36) (up2 d45_ 0 35 (d45_ 0 36)) (Fr.g (Fr.upo fd45_ rfl (by decide)) hg) hr51_) (by decide) (by decide) (by decide)
  rcases ite_some h with ⟨hc53_, h⟩ | ⟨hc53_, h⟩
  · obtain ⟨rfl, rfl⟩ := ret_inj h
    exact (Fr.upo (Fr.upo fd49_ rfl (by decide)) rfl (by decide))
  · obtain ⟨r55_, d54_, hr56_, h⟩ := bd_some h
    have fd54_ : Fr wo_Mo_next [] false d d54_ := Fr.tr (Fr.upo fd49_ rfl (by decide)) (fr_Mo_isSmall r50_ (up2 d49_ 0 37 r50_) (Fr.g (Fr.upo fd49_ rfl (by decide)) hg) hr56_) (by decide) (by decide) (by decide)
    rcases ite_some h with ⟨hc58_, h⟩ | ⟨hc58_, h⟩
    · obtain ⟨r60_, d59_, hr61_, h⟩ := bd_some h
      have fd59_ : Fr wo_Mo_next [] false d d59_ := Fr.tr fd54_ (fr_Mo_isDigit r50_ d54_ (Fr.g fd54_ hg) hr61_) (by decide) (by decide) (by decide)
      rcases ite_some h with ⟨hc63_, h⟩ | ⟨hc63_, h⟩
      · rcases ite_some h with ⟨hc65_, h⟩ | ⟨hc65_, h⟩
        · exact Fr.tr0 (Fr.upo fd59_ rfl (by decide)) (fr_Mo_next_b284 1 (up2 d59_ 0 36 (w32 ((d59_ 0 36) + 1))) (Fr.g (Fr.upo fd59_ rfl (by decide)) hg) h)
        · rcases ite_some h with ⟨hc66_, h⟩ | ⟨hc66_, h⟩
          · exact Fr.tr0 (Fr.upo fd59_ rfl (by decide)) (fr_Mo_next_b284 1 (up2 d59_ 0 36 (w32 ((d59_ 0 36) + 1))) (Fr.g (Fr.upo fd59_ rfl (by decide)) hg) h)
          · rcases ite_some h with ⟨hc67_, h⟩ | ⟨hc67_, h⟩
            · exact Fr.tr0 (Fr.upo fd59_ rfl (by decide)) (fr_Mo_next_b284 1 (up2 d59_ 0 36 (w32 ((d59_ 0 36) + 1))) (Fr.g (Fr.upo fd59_ rfl (by decide)) hg) h)
            · rcases ite_some h with ⟨hc68_, h⟩ | ⟨hc68_, h⟩
              · exact Fr.tr0 (Fr.upo fd59_ rfl (by decide)) (fr_Mo_next_b284 1 (up2 d59_ 0 36 (w32 ((d59_ 0 36) + 1))) (Fr.g (Fr.upo fd59_ rfl (by decide)) hg) h)
              · rcases ite_some h with ⟨hc69_, h⟩ | ⟨hc69_, h⟩
                · exact Fr.tr0 (Fr.upo fd59_ rfl (by decide)) (fr_Mo_next_b284 1 (up2 d59_ 0 36 (w32 ((d59_ 0 36) + 1))) (Fr.g (Fr.upo fd59_ rfl (by decide)) hg) h)
                · rcases ite_some h with ⟨hc70_, h⟩ | ⟨hc70_, h⟩
                  · exact Fr.tr0 (Fr.upo fd59_ rfl (by decide)) (fr_Mo_next_b284 1 (up2 d59_ 0 36 (w32 ((d59_ 0 36) + 1))) (Fr.g (Fr.upo fd59_ rfl (by decide)) hg) h)
                  · rcases ite_some h with ⟨hc71_, h⟩ | ⟨hc71_, h⟩
                    · exact Fr.tr0 (Fr.upo fd59_ rfl (by decide)) (fr_Mo_next_b284 1 (up2 d59_ 0 36 (w32 ((d59_ 0 36) + 1))) (Fr.g (Fr.upo fd59_ rfl (by decide)) hg) h)
                    · rcases ite_some h with ⟨hc72_, h⟩ | ⟨hc72_, h⟩
                      · exact Fr.tr0 (Fr.upo fd59_ rfl (by decide)) (fr_Mo_next_b284 1 (up2 d59_ 0 36 (w32 ((d59_ 0 36) + 1))) (Fr.g (Fr.upo fd59_ rfl (by decide)) hg) h)
                      · rcases ite_some h with ⟨hc73_, h⟩ | ⟨hc73_, h⟩
                        · exact Fr.tr0 (Fr.upo fd59_ rfl (by decide)) (fr_Mo_next_b284 1 (up2 d59_ 0 36 (w32 ((d59_ 0 36) + 1))) (Fr.g (Fr.upo fd59_ rfl (by decide)) hg) h)
                        · rcases ite_some h with ⟨hc74_, h⟩ | ⟨hc74_, h⟩
                          · exact Fr.tr0 (Fr.upo fd59_ rfl (by decide)) (fr_Mo_next_b284 1 (up2 d59_ 0 36 (w32 ((d59_ 0 36) + 1))) (Fr.g (Fr.upo fd59_ rfl (by decide)) hg) h)
                          · exact Fr.tr0 (Fr.upo fd59_ rfl (by decide)) (fr_Mo_next_b284 0 (up2 d59_ 0 36 (w32 ((d59_ 0 36) + 1))) (Fr.g (Fr.upo fd59_ rfl (by decide)) hg) h)
      · obtain ⟨x75_, hx76_, h⟩ := lb_some h
        have fx75_ := Fr.tr0 (Fr.upo fd59_ rfl (by decide)) (fr_Mo_next_l128  (up2 d59_ 0 37 0) (Fr.g (Fr.upo fd59_ rfl (by decide)) hg) hx76_)
        obtain ⟨d77_, rfl⟩ : ∃ z, z = x75_ := ⟨_, rfl⟩
        have fd77_ : Fr wo_Mo_next [] false d d77_ := fx75_
        replace h := u0_e h
        rcases ite_some h with ⟨hc81_, h⟩ | ⟨hc81_, h⟩
        · exact Fr.tr0 fd77_ (fr_Mo_next_b203 1 d77_ (Fr.g fd77_ hg) h)
        · exact Fr.tr0 fd77_ (fr_Mo_next_b203 3 d77_ (Fr.g fd77_ hg) h)
    · obtain ⟨x83_, hx84_, h⟩ := lb_some h
      have fx83_ := Fr.tr0 fd54_ (fr_Mo_next_l81  d54_ (Fr.g fd54_ hg) hx84_)
      obtain ⟨d85_, rfl⟩ : ∃ z, z = x83_ := ⟨_, rfl⟩
      have fd85_ : Fr wo_Mo_next [] false d d85_ := fx83_
      replace h := u0_e h
      obtain ⟨rfl, rfl⟩ := ret_inj h
      exact (Fr.upo fd85_ rfl (by decide))
/-! frames of Sg_coder -/
def wo_Sg_coder : List (Nat × Nat) := []
theorem fr_Sg_coder {r : Int} {d' : Dt} (this : Int) (d : Dt) (hg : d GH 0 ≤ 6) (h : L_Sg_coder this d = some (r, d')) : Fr wo_Sg_coder [] false d d' := by
  have f0 : Fr wo_Sg_coder [] false d d := Fr.rfl
  unfold L_Sg_coder at h
  rcases ite_some h with ⟨hc1_, h⟩ | ⟨hc1_, h⟩
  · obtain ⟨rfl, rfl⟩ := ret_inj h
    exact f0
  · obtain ⟨hs2_, h⟩ := ck_some h
    obtain ⟨rfl, rfl⟩ := ret_inj h
    exact f0
/-! frames of Sg_length -/
def wo_Sg_length : List (Nat × Nat) := []
theorem fr_Sg_length {r : Int} {d' : Dt} (this : Int) (d : Dt) (hg : d GH 0 ≤ 6) (h : L_Sg_length this d = some (r, d')) : Fr wo_Sg_length [] false d d' := by
  have f0 : Fr wo_Sg_length [] false d d := Fr.rfl
  unfold L_Sg_length at h
  obtain ⟨hs1_, h⟩ := ck_some h
  obtain ⟨hs2_, h⟩ := ck_some h
  obtain ⟨hs6_, h⟩ := ck_some h
  obtain ⟨r4_, d3_, hr5_, h⟩ := bd_some h
  have fd3_ : Fr wo_Sg_length [] false d d3_ := Fr.tr f0 (fr_Sg_coder this d (Fr.g f0 hg) hr5_) (by decide) (by decide) (by decide)
  obtain ⟨rfl, rfl⟩ := ret_inj h
  exact fd3_
/-! frames of Sg_isLatin1 -/
def wo_Sg_isLatin1 : List (Nat × Nat) := []
theorem fr_Sg_isLatin1 {r : Int} {d' : Dt} (this : Int) (d : Dt) (hg : d GH 0 ≤ 6) (h : L_Sg_isLatin1 this d = some (r, d')) : Fr wo_Sg_isLatin1 [] false d d' := by
  have f0 : Fr wo_Sg_isLatin1 [] false d d := Fr.rfl
  unfold L_Sg_isLatin1 at h
  rcases ite_some h with ⟨hc1_, h⟩ | ⟨hc1_, h⟩
  · obtain ⟨rfl, rfl⟩ := ret_inj h
    exact f0
  · obtain ⟨hs2_, h⟩ := ck_some h
    rcases ite_some h with ⟨hc3_, h⟩ | ⟨hc3_, h⟩
    · obtain ⟨rfl, rfl⟩ := ret_inj h
      exact f0
    · obtain ⟨rfl, rfl⟩ := ret_inj h
      exact f0
/-! frames of Pr_checkIndex -/
def wo_Pr_checkIndex : List (Nat × Nat) := []
theorem fr_Pr_checkIndex {r : Int} {d' : Dt} (p1 p2 : Int) (d : Dt) (hg : d GH 0 ≤ 6) (h : L_Pr_checkIndex p1 p2 d = some (r, d')) : Fr wo_Pr_checkIndex [] false d d' := by
  have f0 : Fr wo_Pr_checkIndex [] false d d := Fr.rfl
  unfold L_Pr_checkIndex at h
  rcases ite_some h with ⟨hc1_, h⟩ | ⟨hc1_, h⟩
  · cases h
  · rcases ite_some h with ⟨hc2_, h⟩ | ⟨hc2_, h⟩
    · obtain ⟨rfl, rfl⟩ := ret_inj h
      exact f0
    · cases h
/-! frames of Sg_checkIndex -/
def wo_Sg_checkIndex : List (Nat × Nat) := []
theorem fr_Sg_checkIndex {r : Int} {d' : Dt} (p1 p2 : Int) (d : Dt) (hg : d GH 0 ≤ 6) (h : L_Sg_checkIndex p1 p2 d = some (r, d')) : Fr wo_Sg_checkIndex [] false d d' := by
  have f0 : Fr wo_Sg_checkIndex [] false d d := Fr.rfl
  unfold L_Sg_checkIndex at h
  obtain ⟨r3_, d2_, hr4_, h⟩ := bd_some h
  have fd2_ : Fr wo_Sg_checkIndex [] false d d2_ := Fr.tr f0 (fr_Pr_checkIndex p1 p2 d (Fr.g f0 hg) hr4_) (by decide) (by decide) (by decide)
  obtain ⟨rfl, rfl⟩ := ret_inj h
  exact fd2_
/-! frames of SL_charAt -/
def wo_SL_charAt : List (Nat × Nat) := []
theorem fr_SL_charAt {r : Int} {d' : Dt} (p1 p2 : Int) (d : Dt) (hg : d GH 0 ≤ 6) (h : L_SL_charAt p1 p2 d = some (r, d')) : Fr wo_SL_charAt [] false d d' := by
  have f0 : Fr wo_SL_charAt [] false d d := Fr.rfl
  unfold L_SL_charAt at h
  obtain ⟨hs1_, h⟩ := ck_some h
  obtain ⟨r3_, d2_, hr4_, h⟩ := bd_some h
  have fd2_ : Fr wo_SL_charAt [] false d d2_ := Fr.tr f0 (fr_Sg_checkIndex p2 ((kwT p1.toNat).length : Int) d (Fr.g f0 hg) hr4_) (by decide) (by decide) (by decide)
  obtain ⟨hs6_, h⟩ := ck_some h
  obtain ⟨hb7_, h⟩ := ck_some h
  obtain ⟨hc9_, h⟩ := ck_some h
  obtain ⟨rfl, rfl⟩ := ret_inj h
  exact fd2_
/-! frames of Sg_charAt -/
def wo_Sg_charAt : List (Nat × Nat) := []
theorem fr_Sg_charAt {r : Int} {d' : Dt} (this p1 : Int) (d : Dt) (hg : d GH 0 ≤ 6) (h : L_Sg_charAt this p1 d = some (r, d')) : Fr wo_Sg_charAt [] false d d' := by
  have f0 : Fr wo_Sg_charAt [] false d d := Fr.rfl
  unfold L_Sg_charAt at h
  obtain ⟨hs4_, h⟩ := ck_some h
  obtain ⟨r2_, d1_, hr3_, h⟩ := bd_some h
  have fd1_ : Fr wo_Sg_charAt [] false d d1_ := Fr.tr f0 (fr_Sg_isLatin1 this d (Fr.g f0 hg) hr3_) (by decide) (by decide) (by decide)
  rcases ite_some h with ⟨hc6_, h⟩ | ⟨hc6_, h⟩
  · cases h
  · obtain ⟨hs7_, h⟩ := ck_some h
    obtain ⟨r9_, d8_, hr10_, h⟩ := bd_some h
    have fd8_ : Fr wo_Sg_charAt [] false d d8_ := Fr.tr fd1_ (fr_SL_charAt (this + 2) p1 d1_ (Fr.g fd1_ hg) hr10_) (by decide) (by decide) (by decide)
    obtain ⟨rfl, rfl⟩ := ret_inj h
    exact fd8_
/-! frames of Mo_inWords -/
def wo_Mo_inWords : List (Nat × Nat) := []
def he_Mo_inWords_25 (q : (Int × Int × Int × Int × Dt)) : Dt := q.2.2.2.2
def hb_Mo_inWords_25 (o : (Int × Int × Int × Int × Dt) ⊕ ((Int × Int × Int × Int × Dt))) : Dt := match o with
  | .inl q => q.2.2.2.2
  | .inr r => he_Mo_inWords_25 r
def he_Mo_inWords_68 (q : (Int × Int × Int × Int × Dt)) : Dt := q.2.2.2.2
def hb_Mo_inWords_68 (o : (Int × Int × Int × Int × Int × Int × Dt) ⊕ ((Int × Int × Int × Int × Dt))) : Dt := match o with
  | .inl q => q.2.2.2.2.2.2
  | .inr r => he_Mo_inWords_68 r
def he_Mo_inWords_14 (r : (Dt) ⊕ (Int × Dt)) : Dt := match r with
  | .inl q => q
  | .inr q => q.2
def hb_Mo_inWords_14 (o : (Int × Int × Int × Dt) ⊕ ((Dt) ⊕ (Int × Dt))) : Dt := match o with
  | .inl q => q.2.2.2
  | .inr r => he_Mo_inWords_14 r
theorem fr_Mo_inWords_y25 {o : (Int × Int × Int × Int × Dt) ⊕ ((Int × Int × Int × Int × Dt))} (x1 x2 x3 x4 : Int) (d : Dt) (hg : d GH 0 ≤ 6) (h : L_Mo_inWords_y25 x1 x2 x3 x4 d = some o) : Fr wo_Mo_inWords [] false d (hb_Mo_inWords_25 o) := by
  have f0 : Fr wo_Mo_inWords [] false d d := Fr.rfl
  unfold L_Mo_inWords_y25 at h
  obtain ⟨hs4_, h⟩ := ck_some h
  obtain ⟨r2_, d1_, hr3_, h⟩ := bd_some h
  have fd1_ : Fr wo_Mo_inWords [] false d d1_ := Fr.tr f0 (fr_Sg_charAt x1 x4 d (Fr.g f0 hg) hr3_) (by decide) (by decide) (by decide)
  rcases ite_some h with ⟨hc6_, h⟩ | ⟨hc6_, h⟩
  · obtain rfl := Option.some.inj h
    exact fd1_
  · obtain rfl := Option.some.inj h
    exact fd1_
theorem fr_Mo_inWords_l25 {x : (Int × Int × Int × Int × Dt)} (x1 x2 x3 x4 : Int) (d : Dt) (hg : d GH 0 ≤ 6) (h : L_Mo_inWords_l25 x1 x2 x3 x4 d = some x) : Fr wo_Mo_inWords [] false d (he_Mo_inWords_25 x) :=
  lpF_fr (f := fun q : Int × Int × Int × Int × Dt => L_Mo_inWords_y25 q.1 q.2.1 q.2.2.1 q.2.2.2.1 q.2.2.2.2) (fun q => q.2.2.2.2) he_Mo_inWords_25 (fun q x hq hx => ⟨fun q2 e2 => by subst e2; exact fr_Mo_inWords_y25 q.1 q.2.1 q.2.2.1 q.2.2.2.1 q.2.2.2.2 hq hx, fun r2 e2 => by subst e2; exact fr_Mo_inWords_y25 q.1 q.2.1 q.2.2.1 q.2.2.2.1 q.2.2.2.2 hq hx⟩) FU _ x hg h
theorem fr_Mo_inWords_b107 {o : (Int × Int × Int × Int × Int × Int × Dt) ⊕ ((Int × Int × Int × Int × Dt))} (x1 x2 x3 x4 x6 s0 : Int) (d : Dt) (hg : d GH 0 ≤ 6) (h : L_Mo_inWords_b107 x1 x2 x3 x4 x6 s0 d = some o) : Fr wo_Mo_inWords [] false d (hb_Mo_inWords_68 o) := by
  have f0 : Fr wo_Mo_inWords [] false d d := Fr.rfl
  unfold L_Mo_inWords_b107 at h
  obtain rfl := Option.some.inj h
  exact f0
theorem fr_Mo_inWords_y68 {o : (Int × Int × Int × Int × Int × Int × Dt) ⊕ ((Int × Int × Int × Int × Dt))} (x1 x2 x3 x4 x5 x6 : Int) (d : Dt) (hg : d GH 0 ≤ 6) (h : L_Mo_inWords_y68 x1 x2 x3 x4 x5 x6 d = some o) : Fr wo_Mo_inWords [] false d (hb_Mo_inWords_68 o) := by
  have f0 : Fr wo_Mo_inWords [] false d d := Fr.rfl
  unfold L_Mo_inWords_y68 at h
  rcases ite_some h with ⟨hc7_, h⟩ | ⟨hc7_, h⟩
  · rcases ite_some h with ⟨hc8_, h⟩ | ⟨hc8_, h⟩
    · obtain rfl := Option.some.inj h
      exact f0
    · obtain ⟨hs12_, h⟩ := ck_some h
      obtain ⟨r10_, d9_, hr11_, h⟩ := bd_some h
      have fd9_ : Fr wo_Mo_inWords [] false d d9_ := Fr.tr f0 (fr_Sg_charAt x1 x6 d (Fr.g f0 hg) hr11_) (by decide) (by decide) (by decide)
      obtain ⟨r16_, d15_, hr17_, h⟩ := bd_some h
      have fd15_ : Fr wo_Mo_inWords [] false d d15_ := Fr.tr fd9_ (fr_Mo_at (w32 ((w32 ((d9_ 0 35) + x6)) - x3)) d9_ (Fr.g fd9_ hg) hr17_) (by decide) (by decide) (by decide)
      rcases ite_some h with ⟨hc19_, h⟩ | ⟨hc19_, h⟩
      · exact Fr.tr0 fd15_ (fr_Mo_inWords_b107 x1 x2 x3 x4 x6 1 d15_ (Fr.g fd15_ hg) h)
      · exact Fr.tr0 fd15_ (fr_Mo_inWords_b107 x1 x2 x3 x4 x6 0 d15_ (Fr.g fd15_ hg) h)
  · obtain rfl := Option.some.inj h
    exact f0
theorem fr_Mo_inWords_l68 {x : (Int × Int × Int × Int × Dt)} (x1 x2 x3 x4 x5 x6 : Int) (d : Dt) (hg : d GH 0 ≤ 6) (h : L_Mo_inWords_l68 x1 x2 x3 x4 x5 x6 d = some x) : Fr wo_Mo_inWords [] false d (he_Mo_inWords_68 x) :=
  lpF_fr (f := fun q : Int × Int × Int × Int × Int × Int × Dt => L_Mo_inWords_y68 q.1 q.2.1 q.2.2.1 q.2.2.2.1 q.2.2.2.2.1 q.2.2.2.2.2.1 q.2.2.2.2.2.2) (fun q => q.2.2.2.2.2.2) he_Mo_inWords_68 (fun q x hq hx => ⟨fun q2 e2 => by subst e2; exact fr_Mo_inWords_y68 q.1 q.2.1 q.2.2.1 q.2.2.2.1 q.2.2.2.2.1 q.2.2.2.2.2.1 q.2.2.2.2.2.2 hq hx, fun r2 e2 => by subst e2; exact fr_Mo_inWords_y68 q.1 q.2.1 q.2.2.1 q.2.2.2.1 q.2.2.2.2.1 q.2.2.2.2.2.1 q.2.2.2.2.2.2 hq hx⟩) FU _ x hg h
theorem fr_Mo_inWords_b115 {o : (Int × Int × Int × Dt) ⊕ ((Dt) ⊕ (Int × Dt))} (x1 x2 x4 x5 : Int) (d : Dt) (hg : d GH 0 ≤ 6) (h : L_Mo_inWords_b115 x1 x2 x4 x5 d = some o) : Fr wo_Mo_inWords [] false d (hb_Mo_inWords_14 o) := by
  have f0 : Fr wo_Mo_inWords [] false d d := Fr.rfl
  unfold L_Mo_inWords_b115 at h
  rcases ite_some h with ⟨hc20_, h⟩ | ⟨hc20_, h⟩
  · obtain ⟨v21_, ev22_, h⟩ := lt_some h
    obtain rfl := Option.some.inj h
    exact f0
  · obtain rfl := Option.some.inj h
    exact f0
theorem fr_Mo_inWords_b63 {o : (Int × Int × Int × Dt) ⊕ ((Dt) ⊕ (Int × Dt))} (x1 x2 x3 x4 s0 : Int) (d : Dt) (hg : d GH 0 ≤ 6) (h : L_Mo_inWords_b63 x1 x2 x3 x4 s0 d = some o) : Fr wo_Mo_inWords [] false d (hb_Mo_inWords_14 o) := by
  have f0 : Fr wo_Mo_inWords [] false d d := Fr.rfl
  unfold L_Mo_inWords_b63 at h
  obtain ⟨x24_, hx25_, h⟩ := lb_some h
  have fx24_ := Fr.tr0 f0 (fr_Mo_inWords_l68 x1 x2 x3 x4 s0 x3 d (Fr.g f0 hg) hx25_)
  obtain ⟨v26_, v27_, v28_, v29_, d30_⟩ := x24_
  have fd30_ : Fr wo_Mo_inWords [] false d d30_ := fx24_
  replace h := u4_e h
  exact Fr.tr0 fd30_ (fr_Mo_inWords_b115 v26_ v27_ v28_ v29_ d30_ (Fr.g fd30_ hg) h)
theorem fr_Mo_inWords_y14 {o : (Int × Int × Int × Dt) ⊕ ((Dt) ⊕ (Int × Dt))} (x1 x2 x3 : Int) (d : Dt) (hg : d GH 0 ≤ 6) (h : L_Mo_inWords_y14 x1 x2 x3 d = some o) : Fr wo_Mo_inWords [] false d (hb_Mo_inWords_14 o) := by
  have f0 : Fr wo_Mo_inWords [] false d d := Fr.rfl
  unfold L_Mo_inWords_y14 at h
  obtain ⟨hs36_, h⟩ := ck_some h
  obtain ⟨r34_, d33_, hr35_, h⟩ := bd_some h
  have fd33_ : Fr wo_Mo_inWords [] false d d33_ := Fr.tr f0 (fr_Sg_length x1 d (Fr.g f0 hg) hr35_) (by decide) (by decide) (by decide)
  rcases ite_some h with ⟨hc38_, h⟩ | ⟨hc38_, h⟩
  · obtain ⟨x39_, hx40_, h⟩ := lb_some h
    have fx39_ := Fr.tr0 fd33_ (fr_Mo_inWords_l25 x1 x2 x3 x3 d33_ (Fr.g fd33_ hg) hx40_)
    obtain ⟨v41_, v42_, v43_, v44_, d45_⟩ := x39_
    have fd45_ : Fr wo_Mo_inWords [] false d d45_ := fx39_
    replace h := u4_e h
    rcases ite_some h with ⟨hc49_, h⟩ | ⟨hc49_, h⟩
    · exact Fr.tr0 fd45_ (fr_Mo_inWords_b63 v41_ v42_ v43_ v44_ 1 d45_ (Fr.g fd45_ hg) h)
    · exact Fr.tr0 fd45_ (fr_Mo_inWords_b63 v41_ v42_ v43_ v44_ 0 d45_ (Fr.g fd45_ hg) h)
  · obtain rfl := Option.some.inj h
    exact fd33_
theorem fr_Mo_inWords_l14 {x : (Dt) ⊕ (Int × Dt)} (x1 x2 x3 : Int) (d : Dt) (hg : d GH 0 ≤ 6) (h : L_Mo_inWords_l14 x1 x2 x3 d = some x) : Fr wo_Mo_inWords [] false d (he_Mo_inWords_14 x) :=
  lpF_fr (f := fun q : Int × Int × Int × Dt => L_Mo_inWords_y14 q.1 q.2.1 q.2.2.1 q.2.2.2) (fun q => q.2.2.2) he_Mo_inWords_14 (fun q x hq hx => ⟨fun q2 e2 => by subst e2; exact fr_Mo_inWords_y14 q.1 q.2.1 q.2.2.1 q.2.2.2 hq hx, fun r2 e2 => by subst e2; exact fr_Mo_inWords_y14 q.1 q.2.1 q.2.2.1 q.2.2.2 hq hx⟩) FU _ x hg h
theorem fr_Mo_inWords {r : Int} {d' : Dt} (p1 : Int) (d : Dt) (hg : d GH 0 ≤ 6) (h : L_Mo_inWords p1 d = some (r, d')) : Fr wo_Mo_inWords [] false d d' := by
  have f0 : Fr wo_Mo_inWords [] false d d := Fr.rfl
  unfold L_Mo_inWords at h
  rcases ite_some h with ⟨hc52_, h⟩ | ⟨hc52_, h⟩
  · obtain ⟨x53_, hx54_, h⟩ := lb_some h
    have fx53_ := Fr.tr0 f0 (fr_Mo_inWords_l14 p1 0 1 d (Fr.g f0 hg) hx54_)
    rcases x53_ with d55_ | ⟨v57_, d58_⟩
    · have fd55_ : Fr wo_Mo_inWords [] false d d55_ := fx53_
      replace h := sml_e h
      replace h := u0_e h
      obtain ⟨rfl, rfl⟩ := ret_inj h
      exact fd55_
    · have fd58_ : Fr wo_Mo_inWords [] false d d58_ := fx53_
      replace h := smr_e h
      replace h := u1_e h
      obtain ⟨rfl, rfl⟩ := ret_inj h
      exact fd58_
  · obtain ⟨rfl, rfl⟩ := ret_inj h
    exact f0
