/-! frames of Mo_labelHere -/
def wo_Mo_labelHere : List (Nat × Nat) := []
def he_Mo_labelHere_55 (q : (Int × Dt)) : Dt := q.2
def hb_Mo_labelHere_55 (o : (Int × Int × Dt) ⊕ ((Int × Dt))) : Dt := match o with
  | .inl q => q.2.2
  | .inr r => he_Mo_labelHere_55 r
theorem fr_Mo_labelHere_y55 {o : (Int × Int × Dt) ⊕ ((Int × Dt))} (x1 x3 : Int) (d : Dt) (hg : d GH 0 ≤ 6) (h : L_Mo_labelHere_y55 x1 x3 d = some o) : Fr wo_Mo_labelHere [] false d (hb_Mo_labelHere_55 o) := by
  have f0 : Fr wo_Mo_labelHere [] false d d := Fr.rfl
  unfold L_Mo_labelHere_y55 at h
  rcases ite_some h with ⟨hc2_, h⟩ | ⟨hc2_, h⟩
  · obtain ⟨r4_, d3_, hr5_, h⟩ := bd_some h
    have fd3_ : Fr wo_Mo_labelHere [] false d d3_ := Fr.tr f0 (fr_Mo_at x3 d (Fr.g f0 hg) hr5_) (by decide) (by decide) (by decide)
    obtain ⟨v7_, ev8_, h⟩ := lt_some h
    obtain rfl := Option.some.inj h
    exact fd3_
  · obtain rfl := Option.some.inj h
    exact f0
theorem fr_Mo_labelHere_l55 {x : (Int × Dt)} (x1 x3 : Int) (d : Dt) (hg : d GH 0 ≤ 6) (h : L_Mo_labelHere_l55 x1 x3 d = some x) : Fr wo_Mo_labelHere [] false d (he_Mo_labelHere_55 x) :=
  lpF_fr (f := fun q : Int × Int × Dt => L_Mo_labelHere_y55 q.1 q.2.1 q.2.2) (fun q => q.2.2) he_Mo_labelHere_55 (fun q x hq hx => ⟨fun q2 e2 => by subst e2; exact fr_Mo_labelHere_y55 q.1 q.2.1 q.2.2 hq hx, fun r2 e2 => by subst e2; exact fr_Mo_labelHere_y55 q.1 q.2.1 q.2.2 hq hx⟩) FU _ x hg h
theorem fr_Mo_labelHere_b44 {r : Int} {d' : Dt} (d : Dt) (hg : d GH 0 ≤ 6) (h : L_Mo_labelHere_b44 d = some (r, d')) : Fr wo_Mo_labelHere [] false d d' := by
  have f0 : Fr wo_Mo_labelHere [] false d d := Fr.rfl
  unfold L_Mo_labelHere_b44 at h
  obtain ⟨rfl, rfl⟩ := ret_inj h
  exact f0
theorem fr_Mo_labelHere {r : Int} {d' : Dt} (d : Dt) (hg : d GH 0 ≤ 6) (h : L_Mo_labelHere d = some (r, d')) : Fr wo_Mo_labelHere [] false d d' := by
  have f0 : Fr wo_Mo_labelHere [] false d d := Fr.rfl
  unfold L_Mo_labelHere at h
  rcases ite_some h with ⟨hc11_, h⟩ | ⟨hc11_, h⟩
  · rcases ite_some h with ⟨hc14_, h⟩ | ⟨hc14_, h⟩
    · exact Fr.tr0 f0 (fr_Mo_labelHere_b44  d (Fr.g f0 hg) h)
    · obtain ⟨r16_, d15_, hr17_, h⟩ := bd_some h
      have fd15_ : Fr wo_Mo_labelHere [] false d d15_ := Fr.tr f0 (fr_Mo_inWords 1000003 d (Fr.g f0 hg) hr17_) (by decide) (by decide) (by decide)
      rcases ite_some h with ⟨hc19_, h⟩ | ⟨hc19_, h⟩
      · obtain ⟨r21_, d20_, hr22_, h⟩ := bd_some h
        have fd20_ : Fr wo_Mo_labelHere [] false d d20_ := Fr.tr fd15_ (fr_Mo_inWords 1000004 d15_ (Fr.g fd15_ hg) hr22_) (by decide) (by decide) (by decide)
        rcases ite_some h with ⟨hc24_, h⟩ | ⟨hc24_, h⟩
        · obtain ⟨v26_, ev27_, h⟩ := lt_some h
          obtain ⟨x29_, hx30_, h⟩ := lb_some h
          have fx29_ := Fr.tr0 fd20_ (fr_Mo_labelHere_l55 0 v26_ d20_ (Fr.g fd20_ hg) hx30_)
          obtain ⟨v31_, d32_⟩ := x29_
          have fd32_ : Fr wo_Mo_labelHere [] false d d32_ := fx29_
          replace h := u1_e h
          obtain ⟨rfl, rfl⟩ := ret_inj h
          exact fd32_
        · exact Fr.tr0 fd20_ (fr_Mo_labelHere_b44  d20_ (Fr.g fd20_ hg) h)
      · exact Fr.tr0 fd15_ (fr_Mo_labelHere_b44  d15_ (Fr.g fd15_ hg) h)
  · exact Fr.tr0 f0 (fr_Mo_labelHere_b44  d (Fr.g f0 hg) h)
/-! frames of Mo_fails -/
def wo_Mo_fails : List (Nat × Nat) := [(0, 39), (0, 40)]
theorem fr_Mo_fails_b21 {r : Int} {d' : Dt} (s1 : Int) (d : Dt) (hg : d GH 0 ≤ 6) (h : L_Mo_fails_b21 s1 d = some (r, d')) : Fr wo_Mo_fails [] false d d' := by
  have f0 : Fr wo_Mo_fails [] false d d := Fr.rfl
  unfold L_Mo_fails_b21 at h
  obtain ⟨rfl, rfl⟩ := ret_inj h
  exact (Fr.upo (Fr.upo f0 rfl (by decide)) rfl (by decide))
theorem fr_Mo_fails {r : Int} {d' : Dt} (p1 : Int) (d : Dt) (hg : d GH 0 ≤ 6) (h : L_Mo_fails p1 d = some (r, d')) : Fr wo_Mo_fails [] false d d' := by
  have f0 : Fr wo_Mo_fails [] false d d := Fr.rfl
  unfold L_Mo_fails at h
  rcases ite_some h with ⟨hc3_, h⟩ | ⟨hc3_, h⟩
  · rcases ite_some h with ⟨hc5_, h⟩ | ⟨hc5_, h⟩
    · exact Fr.tr0 f0 (fr_Mo_fails_b21 1 d (Fr.g f0 hg) h)
    · exact Fr.tr0 f0 (fr_Mo_fails_b21 p1 d (Fr.g f0 hg) h)
  · obtain ⟨rfl, rfl⟩ := ret_inj h
    exact f0
/-! frames of Mo_isKey -/
def wo_Mo_isKey : List (Nat × Nat) := []
theorem fr_Mo_isKey {r : Int} {d' : Dt} (p1 : Int) (d : Dt) (hg : d GH 0 ≤ 6) (h : L_Mo_isKey p1 d = some (r, d')) : Fr wo_Mo_isKey [] false d d' := by
  have f0 : Fr wo_Mo_isKey [] false d d := Fr.rfl
  unfold L_Mo_isKey at h
  obtain ⟨r2_, d1_, hr3_, h⟩ := bd_some h
  have fd1_ : Fr wo_Mo_isKey [] false d d1_ := Fr.tr f0 (fr_Mo_inWords 1000003 d (Fr.g f0 hg) hr3_) (by decide) (by decide) (by decide)
  rcases ite_some h with ⟨hc5_, h⟩ | ⟨hc5_, h⟩
  · obtain ⟨rfl, rfl⟩ := ret_inj h
    exact fd1_
  · obtain ⟨rfl, rfl⟩ := ret_inj h
    exact fd1_
/-! frames of Mo_isSign -/
def wo_Mo_isSign : List (Nat × Nat) := []
theorem fr_Mo_isSign {r : Int} {d' : Dt} (p1 : Int) (d : Dt) (hg : d GH 0 ≤ 6) (h : L_Mo_isSign p1 d = some (r, d')) : Fr wo_Mo_isSign [] false d d' := by
  have f0 : Fr wo_Mo_isSign [] false d d := Fr.rfl
  unfold L_Mo_isSign at h
  rcases ite_some h with ⟨hc2_, h⟩ | ⟨hc2_, h⟩
  · rcases ite_some h with ⟨hc4_, h⟩ | ⟨hc4_, h⟩
    · obtain ⟨rfl, rfl⟩ := ret_inj h
      exact f0
    · obtain ⟨rfl, rfl⟩ := ret_inj h
      exact f0
  · obtain ⟨rfl, rfl⟩ := ret_inj h
    exact f0
/-! frames of Mo_want -/
def wo_Mo_want : List (Nat × Nat) := [(0, 34), (0, 35), (0, 36), (0, 37), (0, 39), (0, 40)]
theorem fr_Mo_want {r : Int} {d' : Dt} (p1 : Int) (d : Dt) (hg : d GH 0 ≤ 6) (h : L_Mo_want p1 d = some (r, d')) : Fr wo_Mo_want [] false d d' := by
  have f0 : Fr wo_Mo_want [] false d d := Fr.rfl
  unfold L_Mo_want at h
  obtain ⟨r2_, d1_, hr3_, h⟩ := bd_some h
  have fd1_ : Fr wo_Mo_want [] false d d1_ := Fr.tr f0 (fr_Mo_isSign p1 d (Fr.g f0 hg) hr3_) (by decide) (by decide) (by decide)
  rcases ite_some h with ⟨hc5_, h⟩ | ⟨hc5_, h⟩
  · obtain ⟨r7_, d6_, hr8_, h⟩ := bd_some h
    have fd6_ : Fr wo_Mo_want [] false d d6_ := Fr.tr fd1_ (fr_Mo_fails 2 d1_ (Fr.g fd1_ hg) hr8_) (by decide) (by decide) (by decide)
    obtain ⟨rfl, rfl⟩ := ret_inj h
    exact fd6_
  · obtain ⟨r11_, d10_, hr12_, h⟩ := bd_some h
    have fd10_ : Fr wo_Mo_want [] false d d10_ := Fr.tr fd1_ (fr_Mo_next  d1_ (Fr.g fd1_ hg) hr12_) (by decide) (by decide) (by decide)
    obtain ⟨rfl, rfl⟩ := ret_inj h
    exact fd10_
/-! frames of Mo_number -/
def wo_Mo_number : List (Nat × Nat) := [(0, 39), (0, 40)]
theorem fr_Mo_number_b30 {r : Int} {d' : Dt} (d : Dt) (hg : d GH 0 ≤ 6) (h : L_Mo_number_b30 d = some (r, d')) : Fr wo_Mo_number [] false d d' := by
  have f0 : Fr wo_Mo_number [] false d d := Fr.rfl
  unfold L_Mo_number_b30 at h
  obtain ⟨r2_, d1_, hr3_, h⟩ := bd_some h
  have fd1_ : Fr wo_Mo_number [] false d d1_ := Fr.tr f0 (fr_Mo_fails 6 d (Fr.g f0 hg) hr3_) (by decide) (by decide) (by decide)
  rcases ite_some h with ⟨hc5_, h⟩ | ⟨hc5_, h⟩
  · obtain ⟨rfl, rfl⟩ := ret_inj h
    exact fd1_
  · obtain ⟨rfl, rfl⟩ := ret_inj h
    exact fd1_
theorem fr_Mo_number {r : Int} {d' : Dt} (p1 p2 : Int) (d : Dt) (hg : d GH 0 ≤ 6) (h : L_Mo_number p1 p2 d = some (r, d')) : Fr wo_Mo_number [] false d d' := by
  have f0 : Fr wo_Mo_number [] false d d := Fr.rfl
  unfold L_Mo_number at h
  rcases ite_some h with ⟨hc7_, h⟩ | ⟨hc7_, h⟩
  · rcases ite_some h with ⟨hc9_, h⟩ | ⟨hc9_, h⟩
    · exact Fr.tr0 f0 (fr_Mo_number_b30  d (Fr.g f0 hg) h)
    · rcases ite_some h with ⟨hc11_, h⟩ | ⟨hc11_, h⟩
      · exact Fr.tr0 f0 (fr_Mo_number_b30  d (Fr.g f0 hg) h)
      · obtain ⟨rfl, rfl⟩ := ret_inj h
        exact f0
  · obtain ⟨r13_, d12_, hr14_, h⟩ := bd_some h
    have fd12_ : Fr wo_Mo_number [] false d d12_ := Fr.tr f0 (fr_Mo_fails 2 d (Fr.g f0 hg) hr14_) (by decide) (by decide) (by decide)
    obtain ⟨rfl, rfl⟩ := ret_inj h
    exact fd12_
/-! frames of Mo_readNames -/
def wo_Mo_readNames : List (Nat × Nat) := [(0, 34), (0, 35), (0, 36), (0, 37), (0, 39), (0, 40)]
theorem fr_Mo_readNames {r : Int} {d' : Dt} (p1 : Int) (d : Dt) (hg : d GH 0 ≤ 6) (h : L_Mo_readNames p1 d = some (r, d')) : Fr wo_Mo_readNames [30] false d d' := by
  have f0 : Fr wo_Mo_readNames [30] false d d := Fr.rfl
  unfold L_Mo_readNames at h
  obtain ⟨r2_, d1_, hr3_, h⟩ := bd_some h
  have fd1_ : Fr wo_Mo_readNames [30] false d d1_ := Fr.tr f0 (fr_Mo_number 1 4 d (Fr.g f0 hg) hr3_) (by decide) (by decide) (by decide)
  rcases ite_some h with ⟨hc5_, h⟩ | ⟨hc5_, h⟩
  · obtain ⟨rfl, rfl⟩ := ret_inj h
    exact fd1_
  · obtain ⟨hb7_, h⟩ := ck_some h
    obtain ⟨r9_, d8_, hr10_, h⟩ := bd_some h
    have fd8_ : Fr wo_Mo_readNames [30] false d d8_ := Fr.tr (Fr.upa fd1_ rfl (by decide)) (fr_Mo_next  (up2 d1_ 30 p1.toNat (d1_ 0 37)) (Fr.g (Fr.upa fd1_ rfl (by decide)) hg) hr10_) (by decide) (by decide) (by decide)
    obtain ⟨rfl, rfl⟩ := ret_inj h
    exact fd8_
/-! frames of Mo_readHours -/
def wo_Mo_readHours : List (Nat × Nat) := [(0, 34), (0, 35), (0, 36), (0, 37), (0, 39), (0, 40)]
theorem fr_Mo_readHours {r : Int} {d' : Dt} (p1 : Int) (d : Dt) (hg : d GH 0 ≤ 6) (h : L_Mo_readHours p1 d = some (r, d')) : Fr wo_Mo_readHours [30, 31] false d d' := by
  have f0 : Fr wo_Mo_readHours [30, 31] false d d := Fr.rfl
  unfold L_Mo_readHours at h
  obtain ⟨r2_, d1_, hr3_, h⟩ := bd_some h
  have fd1_ : Fr wo_Mo_readHours [30, 31] false d d1_ := Fr.tr f0 (fr_Mo_number 0 1439 d (Fr.g f0 hg) hr3_) (by decide) (by decide) (by decide)
  rcases ite_some h with ⟨hc5_, h⟩ | ⟨hc5_, h⟩
  · obtain ⟨rfl, rfl⟩ := ret_inj h
    exact fd1_
  · obtain ⟨hb7_, h⟩ := ck_some h
    obtain ⟨r9_, d8_, hr10_, h⟩ := bd_some h
    have fd8_ : Fr wo_Mo_readHours [30, 31] false d d8_ := Fr.tr (Fr.upa fd1_ rfl (by decide)) (fr_Mo_next  (up2 d1_ 30 p1.toNat (d1_ 0 37)) (Fr.g (Fr.upa fd1_ rfl (by decide)) hg) hr10_) (by decide) (by decide) (by decide)
    obtain ⟨r13_, d12_, hr14_, h⟩ := bd_some h
    have fd12_ : Fr wo_Mo_readHours [30, 31] false d d12_ := Fr.tr fd8_ (fr_Mo_isKey 7 d8_ (Fr.g fd8_ hg) hr14_) (by decide) (by decide) (by decide)
    rcases ite_some h with ⟨hc16_, h⟩ | ⟨hc16_, h⟩
    · obtain ⟨r18_, d17_, hr19_, h⟩ := bd_some h
      have fd17_ : Fr wo_Mo_readHours [30, 31] false d d17_ := Fr.tr fd12_ (fr_Mo_fails 2 d12_ (Fr.g fd12_ hg) hr19_) (by decide) (by decide) (by decide)
      obtain ⟨rfl, rfl⟩ := ret_inj h
      exact fd17_
    · obtain ⟨r22_, d21_, hr23_, h⟩ := bd_some h
      have fd21_ : Fr wo_Mo_readHours [30, 31] false d d21_ := Fr.tr fd12_ (fr_Mo_next  d12_ (Fr.g fd12_ hg) hr23_) (by decide) (by decide) (by decide)
      obtain ⟨hb25_, h⟩ := ck_some h
      obtain ⟨r28_, d27_, hr29_, h⟩ := bd_some h
      have fd27_ : Fr wo_Mo_readHours [30, 31] false d d27_ := Fr.tr fd21_ (fr_Mo_number (d21_ 30 p1.toNat) 1439 d21_ (Fr.g fd21_ hg) hr29_) (by decide) (by decide) (by decide)
      rcases ite_some h with ⟨hc31_, h⟩ | ⟨hc31_, h⟩
      · obtain ⟨rfl, rfl⟩ := ret_inj h
        exact fd27_
      · obtain ⟨hb33_, h⟩ := ck_some h
        obtain ⟨r35_, d34_, hr36_, h⟩ := bd_some h
        have fd34_ : Fr wo_Mo_readHours [30, 31] false d d34_ := Fr.tr (Fr.upa fd27_ rfl (by decide)) (fr_Mo_next  (up2 d27_ 31 p1.toNat (d27_ 0 37)) (Fr.g (Fr.upa fd27_ rfl (by decide)) hg) hr36_) (by decide) (by decide) (by decide)
        obtain ⟨rfl, rfl⟩ := ret_inj h
        exact fd34_
/-! frames of Mo_puts -/
def wo_Mo_puts : List (Nat × Nat) := [(0, 42)]
theorem fr_Mo_puts {r : Int} {d' : Dt} (p1 p2 : Int) (d : Dt) (hg : d GH 0 ≤ 6) (h : L_Mo_puts p1 p2 d = some (r, d')) : Fr wo_Mo_puts [43, 44] false d d' := by
  have f0 : Fr wo_Mo_puts [43, 44] false d d := Fr.rfl
  unfold L_Mo_puts at h
  obtain ⟨hb2_, h⟩ := ck_some h
  obtain ⟨hb4_, h⟩ := ck_some h
  obtain ⟨rfl, rfl⟩ := ret_inj h
  exact (Fr.upo (Fr.upa (Fr.upa f0 rfl (by decide)) rfl (by decide)) rfl (by decide))
/-! frames of Mo_sum -/
def wo_Mo_sum : List (Nat × Nat) := [(0, 34), (0, 35), (0, 36), (0, 37), (0, 39), (0, 40), (0, 42)]
def he_Mo_sum_18 (r : (Dt) ⊕ (Dt) ⊕ (Dt) ⊕ (Dt) ⊕ (Dt)) : Dt := match r with
  | .inl q => q
  | .inr (.inl q) => q
  | .inr (.inr (.inl q)) => q
  | .inr (.inr (.inr (.inl q))) => q
  | .inr (.inr (.inr (.inr q))) => q
def hb_Mo_sum_18 (o : (Int × Int × Dt) ⊕ ((Dt) ⊕ (Dt) ⊕ (Dt) ⊕ (Dt) ⊕ (Dt))) : Dt := match o with
  | .inl q => q.2.2
  | .inr r => he_Mo_sum_18 r
theorem fr_Mo_sum_b231 {o : (Int × Int × Dt) ⊕ ((Dt) ⊕ (Dt) ⊕ (Dt) ⊕ (Dt) ⊕ (Dt))} (x1 : Int) (d : Dt) (hg : d GH 0 ≤ 6) (h : L_Mo_sum_b231 x1 d = some o) : Fr wo_Mo_sum [43, 44, 45, 46] false d (hb_Mo_sum_18 o) := by
  have f0 : Fr wo_Mo_sum [43, 44, 45, 46] false d d := Fr.rfl
  unfold L_Mo_sum_b231 at h
  obtain ⟨hb2_, h⟩ := ck_some h
  obtain ⟨r4_, d3_, hr5_, h⟩ := bd_some h
  have fd3_ : Fr wo_Mo_sum [43, 44, 45, 46] false d d3_ := Fr.tr (Fr.upa f0 rfl (by decide)) (fr_Mo_next  (up2 d 45 x1.toNat (d 0 37)) (Fr.g (Fr.upa f0 rfl (by decide)) hg) hr5_) (by decide) (by decide) (by decide)
  obtain rfl := Option.some.inj h
  exact fd3_
theorem fr_Mo_sum_b206 {o : (Int × Int × Dt) ⊕ ((Dt) ⊕ (Dt) ⊕ (Dt) ⊕ (Dt) ⊕ (Dt))} (x1 x2 : Int) (d : Dt) (hg : d GH 0 ≤ 6) (h : L_Mo_sum_b206 x1 x2 d = some o) : Fr wo_Mo_sum [43, 44, 45, 46] false d (hb_Mo_sum_18 o) := by
  have f0 : Fr wo_Mo_sum [43, 44, 45, 46] false d d := Fr.rfl
  unfold L_Mo_sum_b206 at h
  obtain ⟨hb7_, h⟩ := ck_some h
  obtain ⟨r9_, d8_, hr10_, h⟩ := bd_some h
  have fd8_ : Fr wo_Mo_sum [43, 44, 45, 46] false d d8_ := Fr.tr (Fr.upa f0 rfl (by decide)) (fr_Mo_isSign 43 (up2 d 45 x1.toNat 0) (Fr.g (Fr.upa f0 rfl (by decide)) hg) hr10_) (by decide) (by decide) (by decide)
  rcases ite_some h with ⟨hc12_, h⟩ | ⟨hc12_, h⟩
  · obtain ⟨r14_, d13_, hr15_, h⟩ := bd_some h
    have fd13_ : Fr wo_Mo_sum [43, 44, 45, 46] false d d13_ := Fr.tr fd8_ (fr_Mo_isSign 45 d8_ (Fr.g fd8_ hg) hr15_) (by decide) (by decide) (by decide)
    rcases ite_some h with ⟨hc17_, h⟩ | ⟨hc17_, h⟩
    · rcases ite_some h with ⟨hc18_, h⟩ | ⟨hc18_, h⟩
      · obtain rfl := Option.some.inj h
        exact fd13_
      · obtain ⟨r20_, d19_, hr21_, h⟩ := bd_some h
        have fd19_ : Fr wo_Mo_sum [43, 44, 45, 46] false d d19_ := Fr.tr fd13_ (fr_Mo_want 41 d13_ (Fr.g fd13_ hg) hr21_) (by decide) (by decide) (by decide)
        rcases ite_some h with ⟨hc23_, h⟩ | ⟨hc23_, h⟩
        · obtain rfl := Option.some.inj h
          exact fd19_
        · obtain rfl := Option.some.inj h
          exact fd19_
    · exact Fr.tr0 fd13_ (fr_Mo_sum_b231 x1 d13_ (Fr.g fd13_ hg) h)
  · exact Fr.tr0 fd8_ (fr_Mo_sum_b231 x1 d8_ (Fr.g fd8_ hg) h)
theorem fr_Mo_sum_b153 {o : (Int × Int × Dt) ⊕ ((Dt) ⊕ (Dt) ⊕ (Dt) ⊕ (Dt) ⊕ (Dt))} (x1 x2 : Int) (d : Dt) (hg : d GH 0 ≤ 6) (h : L_Mo_sum_b153 x1 x2 d = some o) : Fr wo_Mo_sum [43, 44, 45, 46] false d (hb_Mo_sum_18 o) := by
  have f0 : Fr wo_Mo_sum [43, 44, 45, 46] false d d := Fr.rfl
  unfold L_Mo_sum_b153 at h
  obtain ⟨hb24_, h⟩ := ck_some h
  obtain ⟨r26_, d25_, hr27_, h⟩ := bd_some h
  have fd25_ : Fr wo_Mo_sum [43, 44, 45, 46] false d d25_ := Fr.tr (Fr.upa f0 rfl (by decide)) (fr_Mo_isSign 42 (up2 d 46 x1.toNat 0) (Fr.g (Fr.upa f0 rfl (by decide)) hg) hr27_) (by decide) (by decide) (by decide)
  rcases ite_some h with ⟨hc29_, h⟩ | ⟨hc29_, h⟩
  · obtain ⟨hb30_, h⟩ := ck_some h
    rcases ite_some h with ⟨hc32_, h⟩ | ⟨hc32_, h⟩
    · exact Fr.tr0 fd25_ (fr_Mo_sum_b206 x1 x2 d25_ (Fr.g fd25_ hg) h)
    · obtain ⟨hb33_, h⟩ := ck_some h
      obtain ⟨r36_, d35_, hr37_, h⟩ := bd_some h
      have fd35_ : Fr wo_Mo_sum [43, 44, 45, 46] false d d35_ := Fr.tr fd25_ (fr_Mo_puts (d25_ 45 x1.toNat) 0 d25_ (Fr.g fd25_ hg) hr37_) (by decide) (by decide) (by decide)
      exact Fr.tr0 fd35_ (fr_Mo_sum_b206 x1 x2 d35_ (Fr.g fd35_ hg) h)
  · obtain ⟨hb39_, h⟩ := ck_some h
    obtain ⟨r41_, d40_, hr42_, h⟩ := bd_some h
    have fd40_ : Fr wo_Mo_sum [43, 44, 45, 46] false d d40_ := Fr.tr (Fr.upa fd25_ rfl (by decide)) (fr_Mo_next  (up2 d25_ 46 x1.toNat 42) (Fr.g (Fr.upa fd25_ rfl (by decide)) hg) hr42_) (by decide) (by decide) (by decide)
    obtain rfl := Option.some.inj h
    exact fd40_
theorem fr_Mo_sum_b74 {o : (Int × Int × Dt) ⊕ ((Dt) ⊕ (Dt) ⊕ (Dt) ⊕ (Dt) ⊕ (Dt))} (x1 s1 s2 : Int) (d : Dt) (hg : d GH 0 ≤ 6) (h : L_Mo_sum_b74 x1 s1 s2 d = some o) : Fr wo_Mo_sum [43, 44, 45, 46] false d (hb_Mo_sum_18 o) := by
  have f0 : Fr wo_Mo_sum [43, 44, 45, 46] false d d := Fr.rfl
  unfold L_Mo_sum_b74 at h
  obtain ⟨r45_, d44_, hr46_, h⟩ := bd_some h
  have fd44_ : Fr wo_Mo_sum [43, 44, 45, 46] false d d44_ := Fr.tr f0 (fr_Mo_puts s1 s2 d (Fr.g f0 hg) hr46_) (by decide) (by decide) (by decide)
  obtain ⟨r49_, d48_, hr50_, h⟩ := bd_some h
  have fd48_ : Fr wo_Mo_sum [43, 44, 45, 46] false d d48_ := Fr.tr fd44_ (fr_Mo_next  d44_ (Fr.g fd44_ hg) hr50_) (by decide) (by decide) (by decide)
  obtain rfl := Option.some.inj h
  exact fd48_
theorem fr_Mo_sum_b61 {o : (Int × Int × Dt) ⊕ ((Dt) ⊕ (Dt) ⊕ (Dt) ⊕ (Dt) ⊕ (Dt))} (x1 x3 s1 : Int) (d : Dt) (hg : d GH 0 ≤ 6) (h : L_Mo_sum_b61 x1 x3 s1 d = some o) : Fr wo_Mo_sum [43, 44, 45, 46] false d (hb_Mo_sum_18 o) := by
  have f0 : Fr wo_Mo_sum [43, 44, 45, 46] false d d := Fr.rfl
  unfold L_Mo_sum_b61 at h
  rcases ite_some h with ⟨hc52_, h⟩ | ⟨hc52_, h⟩
  · exact Fr.tr0 f0 (fr_Mo_sum_b74 x1 s1 (d 0 37) d (Fr.g f0 hg) h)
  · exact Fr.tr0 f0 (fr_Mo_sum_b74 x1 s1 x3 d (Fr.g f0 hg) h)
theorem fr_Mo_sum_b50 {o : (Int × Int × Dt) ⊕ ((Dt) ⊕ (Dt) ⊕ (Dt) ⊕ (Dt) ⊕ (Dt))} (x1 x3 : Int) (d : Dt) (hg : d GH 0 ≤ 6) (h : L_Mo_sum_b50 x1 x3 d = some o) : Fr wo_Mo_sum [43, 44, 45, 46] false d (hb_Mo_sum_18 o) := by
  have f0 : Fr wo_Mo_sum [43, 44, 45, 46] false d d := Fr.rfl
  unfold L_Mo_sum_b50 at h
  rcases ite_some h with ⟨hc54_, h⟩ | ⟨hc54_, h⟩
  · exact Fr.tr0 f0 (fr_Mo_sum_b61 x1 x3 0 d (Fr.g f0 hg) h)
  · exact Fr.tr0 f0 (fr_Mo_sum_b61 x1 x3 1 d (Fr.g f0 hg) h)
theorem fr_Mo_sum_y18 {o : (Int × Int × Dt) ⊕ ((Dt) ⊕ (Dt) ⊕ (Dt) ⊕ (Dt) ⊕ (Dt))} (x1 x2 : Int) (d : Dt) (hg : d GH 0 ≤ 6) (h : L_Mo_sum_y18 x1 x2 d = some o) : Fr wo_Mo_sum [43, 44, 45, 46] false d (hb_Mo_sum_18 o) := by
  have f0 : Fr wo_Mo_sum [43, 44, 45, 46] false d d := Fr.rfl
  unfold L_Mo_sum_y18 at h
  rcases ite_some h with ⟨hc56_, h⟩ | ⟨hc56_, h⟩
  · rcases ite_some h with ⟨hc57_, h⟩ | ⟨hc57_, h⟩
    · obtain ⟨hb58_, h⟩ := ck_some h
      rcases ite_some h with ⟨hc60_, h⟩ | ⟨hc60_, h⟩
      · exact Fr.tr0 f0 (fr_Mo_sum_b153 x1 x2 d (Fr.g f0 hg) h)
      · obtain ⟨r62_, d61_, hr63_, h⟩ := bd_some h
        have fd61_ : Fr wo_Mo_sum [43, 44, 45, 46] false d d61_ := Fr.tr f0 (fr_Mo_puts 42 0 d (Fr.g f0 hg) hr63_) (by decide) (by decide) (by decide)
        exact Fr.tr0 fd61_ (fr_Mo_sum_b153 x1 x2 d61_ (Fr.g fd61_ hg) h)
    · obtain ⟨r66_, d65_, hr67_, h⟩ := bd_some h
      have fd65_ : Fr wo_Mo_sum [43, 44, 45, 46] false d d65_ := Fr.tr f0 (fr_Mo_inWords 1000004 d (Fr.g f0 hg) hr67_) (by decide) (by decide) (by decide)
      rcases ite_some h with ⟨hc70_, h⟩ | ⟨hc70_, h⟩
      · exact Fr.tr0 fd65_ (fr_Mo_sum_b50 x1 r66_ d65_ (Fr.g fd65_ hg) h)
      · rcases ite_some h with ⟨hc71_, h⟩ | ⟨hc71_, h⟩
        · obtain ⟨r73_, d72_, hr74_, h⟩ := bd_some h
          have fd72_ : Fr wo_Mo_sum [43, 44, 45, 46] false d d72_ := Fr.tr fd65_ (fr_Mo_isSign 40 d65_ (Fr.g fd65_ hg) hr74_) (by decide) (by decide) (by decide)
          rcases ite_some h with ⟨hc76_, h⟩ | ⟨hc76_, h⟩
          · obtain rfl := Option.some.inj h
            exact fd72_
          · rcases ite_some h with ⟨hc77_, h⟩ | ⟨hc77_, h⟩
            · obtain rfl := Option.some.inj h
              exact fd72_
            · obtain ⟨r79_, d78_, hr80_, h⟩ := bd_some h
              have fd78_ : Fr wo_Mo_sum [43, 44, 45, 46] false d d78_ := Fr.tr fd72_ (fr_Mo_next  d72_ (Fr.g fd72_ hg) hr80_) (by decide) (by decide) (by decide)
              obtain ⟨hb82_, h⟩ := ck_some h
              obtain ⟨hb83_, h⟩ := ck_some h
              obtain rfl := Option.some.inj h
              exact (Fr.upa (Fr.upa fd78_ rfl (by decide)) rfl (by decide))
        · exact Fr.tr0 fd65_ (fr_Mo_sum_b50 x1 r66_ d65_ (Fr.g fd65_ hg) h)
  · obtain rfl := Option.some.inj h
    exact f0
theorem fr_Mo_sum_l18 {x : (Dt) ⊕ (Dt) ⊕ (Dt) ⊕ (Dt) ⊕ (Dt)} (x1 x2 : Int) (d : Dt) (hg : d GH 0 ≤ 6) (h : L_Mo_sum_l18 x1 x2 d = some x) : Fr wo_Mo_sum [43, 44, 45, 46] false d (he_Mo_sum_18 x) :=
  lpF_fr (f := fun q : Int × Int × Dt => L_Mo_sum_y18 q.1 q.2.1 q.2.2) (fun q => q.2.2) he_Mo_sum_18 (fun q x hq hx => ⟨fun q2 e2 => by subst e2; exact fr_Mo_sum_y18 q.1 q.2.1 q.2.2 hq hx, fun r2 e2 => by subst e2; exact fr_Mo_sum_y18 q.1 q.2.1 q.2.2 hq hx⟩) FU _ x hg h
theorem fr_Mo_sum {r : Int} {d' : Dt} (d : Dt) (hg : d GH 0 ≤ 6) (h : L_Mo_sum d = some (r, d')) : Fr wo_Mo_sum [43, 44, 45, 46] false d d' := by
  have f0 : Fr wo_Mo_sum [43, 44, 45, 46] false d d := Fr.rfl
  unfold L_Mo_sum at h
  obtain ⟨x84_, hx85_, h⟩ := lb_some h
  have fx84_ := Fr.tr0 (Fr.upa (Fr.upa f0 rfl (by decide)) rfl (by decide)) (fr_Mo_sum_l18 0 1 (up2 (up2 d 45 0 0) 46 0 0) (Fr.g (Fr.upa (Fr.upa f0 rfl (by decide)) rfl (by decide)) hg) hx85_)
  rcases x84_ with d86_ | d88_ | d94_ | d100_ | d102_
  · have fd86_ : Fr wo_Mo_sum [43, 44, 45, 46] false d d86_ := fx84_
    replace h := sml_e h
    replace h := u0_e h
    obtain ⟨rfl, rfl⟩ := ret_inj h
    exact fd86_
  · have fd88_ : Fr wo_Mo_sum [43, 44, 45, 46] false d d88_ := fx84_
    replace h := smr_e h
    replace h := sml_e h
    replace h := u0_e h
    obtain ⟨r91_, d90_, hr92_, h⟩ := bd_some h
    have fd90_ : Fr wo_Mo_sum [43, 44, 45, 46] false d d90_ := Fr.tr fd88_ (fr_Mo_fails 2 d88_ (Fr.g fd88_ hg) hr92_) (by decide) (by decide) (by decide)
    obtain ⟨rfl, rfl⟩ := ret_inj h
    exact fd90_
  · have fd94_ : Fr wo_Mo_sum [43, 44, 45, 46] false d d94_ := fx84_
    replace h := smr_e h
    replace h := smr_e h
    replace h := sml_e h
    replace h := u0_e h
    obtain ⟨r97_, d96_, hr98_, h⟩ := bd_some h
    have fd96_ : Fr wo_Mo_sum [43, 44, 45, 46] false d d96_ := Fr.tr fd94_ (fr_Mo_fails 5 d94_ (Fr.g fd94_ hg) hr98_) (by decide) (by decide) (by decide)
    obtain ⟨rfl, rfl⟩ := ret_inj h
    exact fd96_
  · have fd100_ : Fr wo_Mo_sum [43, 44, 45, 46] false d d100_ := fx84_
    replace h := smr_e h
    replace h := smr_e h
    replace h := smr_e h
    replace h := sml_e h
    replace h := u0_e h
    obtain ⟨rfl, rfl⟩ := ret_inj h
    exact fd100_
  · have fd102_ : Fr wo_Mo_sum [43, 44, 45, 46] false d d102_ := fx84_
    replace h := smr_e h
    replace h := smr_e h
    replace h := smr_e h
    replace h := smr_e h
    replace h := u0_e h
    obtain ⟨rfl, rfl⟩ := ret_inj h
    exact fd102_
/-! frames of Mo_one -/
def wo_Mo_one : List (Nat × Nat) := [(0, 34), (0, 35), (0, 36), (0, 37), (0, 39), (0, 40), (0, 42), (0, 43)]
theorem fr_Mo_one_b99 {r : Int} {d' : Dt} (x2 : Int) (d : Dt) (hg : d GH 0 ≤ 6) (h : L_Mo_one_b99 x2 d = some (r, d')) : Fr wo_Mo_one [37, 38, 39, 40, 41, 42, 43, 44, 45, 46] false d d' := by
  have f0 : Fr wo_Mo_one [37, 38, 39, 40, 41, 42, 43, 44, 45, 46] false d d := Fr.rfl
  unfold L_Mo_one_b99 at h
  obtain ⟨hb2_, h⟩ := ck_some h
  obtain ⟨r4_, d3_, hr5_, h⟩ := bd_some h
  have fd3_ : Fr wo_Mo_one [37, 38, 39, 40, 41, 42, 43, 44, 45, 46] false d d3_ := Fr.tr (Fr.upa f0 rfl (by decide)) (fr_Mo_next  (up2 d 40 x2.toNat (d 0 37)) (Fr.g (Fr.upa f0 rfl (by decide)) hg) hr5_) (by decide) (by decide) (by decide)
  obtain ⟨r8_, d7_, hr9_, h⟩ := bd_some h
  have fd7_ : Fr wo_Mo_one [37, 38, 39, 40, 41, 42, 43, 44, 45, 46] false d d7_ := Fr.tr fd3_ (fr_Mo_sum  d3_ (Fr.g fd3_ hg) hr9_) (by decide) (by decide) (by decide)
  rcases ite_some h with ⟨hc11_, h⟩ | ⟨hc11_, h⟩
  · obtain ⟨rfl, rfl⟩ := ret_inj h
    exact fd7_
  · obtain ⟨hb13_, h⟩ := ck_some h
    obtain ⟨rfl, rfl⟩ := ret_inj h
    exact (Fr.upo (Fr.upa fd7_ rfl (by decide)) rfl (by decide))
theorem fr_Mo_one_b37 {r : Int} {d' : Dt} (x2 : Int) (d : Dt) (hg : d GH 0 ≤ 6) (h : L_Mo_one_b37 x2 d = some (r, d')) : Fr wo_Mo_one [37, 38, 39, 40, 41, 42, 43, 44, 45, 46] false d d' := by
  have f0 : Fr wo_Mo_one [37, 38, 39, 40, 41, 42, 43, 44, 45, 46] false d d := Fr.rfl
  unfold L_Mo_one_b37 at h
  obtain ⟨hb16_, h⟩ := ck_some h
  obtain ⟨r18_, d17_, hr19_, h⟩ := bd_some h
  have fd17_ : Fr wo_Mo_one [37, 38, 39, 40, 41, 42, 43, 44, 45, 46] false d d17_ := Fr.tr (Fr.upa f0 rfl (by decide)) (fr_Mo_sum  (up2 d 37 x2.toNat (d 0 42)) (Fr.g (Fr.upa f0 rfl (by decide)) hg) hr19_) (by decide) (by decide) (by decide)
  rcases ite_some h with ⟨hc21_, h⟩ | ⟨hc21_, h⟩
  · obtain ⟨rfl, rfl⟩ := ret_inj h
    exact fd17_
  · obtain ⟨hb23_, h⟩ := ck_some h
    obtain ⟨r25_, d24_, hr26_, h⟩ := bd_some h
    have fd24_ : Fr wo_Mo_one [37, 38, 39, 40, 41, 42, 43, 44, 45, 46] false d d24_ := Fr.tr (Fr.upa fd17_ rfl (by decide)) (fr_Mo_isSign 60 (up2 d17_ 38 x2.toNat (d17_ 0 42)) (Fr.g (Fr.upa fd17_ rfl (by decide)) hg) hr26_) (by decide) (by decide) (by decide)
    rcases ite_some h with ⟨hc28_, h⟩ | ⟨hc28_, h⟩
    · obtain ⟨r30_, d29_, hr31_, h⟩ := bd_some h
      have fd29_ : Fr wo_Mo_one [37, 38, 39, 40, 41, 42, 43, 44, 45, 46] false d d29_ := Fr.tr fd24_ (fr_Mo_isSign 62 d24_ (Fr.g fd24_ hg) hr31_) (by decide) (by decide) (by decide)
      rcases ite_some h with ⟨hc33_, h⟩ | ⟨hc33_, h⟩
      · obtain ⟨r35_, d34_, hr36_, h⟩ := bd_some h
        have fd34_ : Fr wo_Mo_one [37, 38, 39, 40, 41, 42, 43, 44, 45, 46] false d d34_ := Fr.tr fd29_ (fr_Mo_isSign 61 d29_ (Fr.g fd29_ hg) hr36_) (by decide) (by decide) (by decide)
        rcases ite_some h with ⟨hc38_, h⟩ | ⟨hc38_, h⟩
        · obtain ⟨r40_, d39_, hr41_, h⟩ := bd_some h
          have fd39_ : Fr wo_Mo_one [37, 38, 39, 40, 41, 42, 43, 44, 45, 46] false d d39_ := Fr.tr fd34_ (fr_Mo_fails 2 d34_ (Fr.g fd34_ hg) hr41_) (by decide) (by decide) (by decide)
          obtain ⟨rfl, rfl⟩ := ret_inj h
          exact fd39_
        · exact Fr.tr0 fd34_ (fr_Mo_one_b99 x2 d34_ (Fr.g fd34_ hg) h)
      · exact Fr.tr0 fd29_ (fr_Mo_one_b99 x2 d29_ (Fr.g fd29_ hg) h)
    · exact Fr.tr0 fd24_ (fr_Mo_one_b99 x2 d24_ (Fr.g fd24_ hg) h)
theorem fr_Mo_one {r : Int} {d' : Dt} (p1 : Int) (d : Dt) (hg : d GH 0 ≤ 6) (h : L_Mo_one p1 d = some (r, d')) : Fr wo_Mo_one [37, 38, 39, 40, 41, 42, 43, 44, 45, 46] false d d' := by
  have f0 : Fr wo_Mo_one [37, 38, 39, 40, 41, 42, 43, 44, 45, 46] false d d := Fr.rfl
  unfold L_Mo_one at h
  obtain ⟨v44_, ev45_, h⟩ := lt_some h
  obtain ⟨hb47_, h⟩ := ck_some h
  obtain ⟨r49_, d48_, hr50_, h⟩ := bd_some h
  have fd48_ : Fr wo_Mo_one [37, 38, 39, 40, 41, 42, 43, 44, 45, 46] false d d48_ := Fr.tr (Fr.upa f0 rfl (by decide)) (fr_Mo_isKey 10 (up2 d 42 v44_.toNat p1) (Fr.g (Fr.upa f0 rfl (by decide)) hg) hr50_) (by decide) (by decide) (by decide)
  obtain ⟨hb52_, h⟩ := ck_some h
  obtain ⟨hb53_, h⟩ := ck_some h
  rcases ite_some h with ⟨hc55_, h⟩ | ⟨hc55_, h⟩
  · exact Fr.tr0 (Fr.upa fd48_ rfl (by decide)) (fr_Mo_one_b37 v44_ (up2 d48_ 41 v44_.toNat r49_) (Fr.g (Fr.upa fd48_ rfl (by decide)) hg) h)
  · obtain ⟨r57_, d56_, hr58_, h⟩ := bd_some h
    have fd56_ : Fr wo_Mo_one [37, 38, 39, 40, 41, 42, 43, 44, 45, 46] false d d56_ := Fr.tr (Fr.upa fd48_ rfl (by decide)) (fr_Mo_next  (up2 d48_ 41 v44_.toNat r49_) (Fr.g (Fr.upa fd48_ rfl (by decide)) hg) hr58_) (by decide) (by decide) (by decide)
    exact Fr.tr0 fd56_ (fr_Mo_one_b37 v44_ d56_ (Fr.g fd56_ hg) h)
/-! frames of Mo_test -/
def wo_Mo_test : List (Nat × Nat) := [(0, 34), (0, 35), (0, 36), (0, 37), (0, 39), (0, 40), (0, 42), (0, 43)]
def he_Mo_test_6 (q : (Int × Dt)) : Dt := q.2
def hb_Mo_test_6 (o : (Int × Dt) ⊕ ((Int × Dt))) : Dt := match o with
  | .inl q => q.2
  | .inr r => he_Mo_test_6 r
theorem fr_Mo_test_b28 {o : (Int × Dt) ⊕ ((Int × Dt))} (d : Dt) (hg : d GH 0 ≤ 6) (h : L_Mo_test_b28 d = some o) : Fr wo_Mo_test [37, 38, 39, 40, 41, 42, 43, 44, 45, 46] false d (hb_Mo_test_6 o) := by
  have f0 : Fr wo_Mo_test [37, 38, 39, 40, 41, 42, 43, 44, 45, 46] false d d := Fr.rfl
  unfold L_Mo_test_b28 at h
  obtain ⟨r2_, d1_, hr3_, h⟩ := bd_some h
  have fd1_ : Fr wo_Mo_test [37, 38, 39, 40, 41, 42, 43, 44, 45, 46] false d d1_ := Fr.tr f0 (fr_Mo_isKey 8 d (Fr.g f0 hg) hr3_) (by decide) (by decide) (by decide)
  obtain ⟨r6_, d5_, hr7_, h⟩ := bd_some h
  have fd5_ : Fr wo_Mo_test [37, 38, 39, 40, 41, 42, 43, 44, 45, 46] false d d5_ := Fr.tr fd1_ (fr_Mo_next  d1_ (Fr.g fd1_ hg) hr7_) (by decide) (by decide) (by decide)
  obtain ⟨r10_, d9_, hr11_, h⟩ := bd_some h
  have fd9_ : Fr wo_Mo_test [37, 38, 39, 40, 41, 42, 43, 44, 45, 46] false d d9_ := Fr.tr fd5_ (fr_Mo_one r2_ d5_ (Fr.g fd5_ hg) hr11_) (by decide) (by decide) (by decide)
  obtain rfl := Option.some.inj h
  exact fd9_
theorem fr_Mo_test_y6 {o : (Int × Dt) ⊕ ((Int × Dt))} (x1 : Int) (d : Dt) (hg : d GH 0 ≤ 6) (h : L_Mo_test_y6 x1 d = some o) : Fr wo_Mo_test [37, 38, 39, 40, 41, 42, 43, 44, 45, 46] false d (hb_Mo_test_6 o) := by
  have f0 : Fr wo_Mo_test [37, 38, 39, 40, 41, 42, 43, 44, 45, 46] false d d := Fr.rfl
  unfold L_Mo_test_y6 at h
  rcases ite_some h with ⟨hc13_, h⟩ | ⟨hc13_, h⟩
  · obtain rfl := Option.some.inj h
    exact f0
  · obtain ⟨r15_, d14_, hr16_, h⟩ := bd_some h
    have fd14_ : Fr wo_Mo_test [37, 38, 39, 40, 41, 42, 43, 44, 45, 46] false d d14_ := Fr.tr f0 (fr_Mo_isKey 8 d (Fr.g f0 hg) hr16_) (by decide) (by decide) (by decide)
    rcases ite_some h with ⟨hc18_, h⟩ | ⟨hc18_, h⟩
    · obtain ⟨r20_, d19_, hr21_, h⟩ := bd_some h
      have fd19_ : Fr wo_Mo_test [37, 38, 39, 40, 41, 42, 43, 44, 45, 46] false d d19_ := Fr.tr fd14_ (fr_Mo_isKey 9 d14_ (Fr.g fd14_ hg) hr21_) (by decide) (by decide) (by decide)
      rcases ite_some h with ⟨hc23_, h⟩ | ⟨hc23_, h⟩
      · obtain rfl := Option.some.inj h
        exact fd19_
      · exact Fr.tr0 fd19_ (fr_Mo_test_b28  d19_ (Fr.g fd19_ hg) h)
    · exact Fr.tr0 fd14_ (fr_Mo_test_b28  d14_ (Fr.g fd14_ hg) h)
theorem fr_Mo_test_l6 {x : (Int × Dt)} (x1 : Int) (d : Dt) (hg : d GH 0 ≤ 6) (h : L_Mo_test_l6 x1 d = some x) : Fr wo_Mo_test [37, 38, 39, 40, 41, 42, 43, 44, 45, 46] false d (he_Mo_test_6 x) :=
  lpF_fr (f := fun q : Int × Dt => L_Mo_test_y6 q.1 q.2) (fun q => q.2) he_Mo_test_6 (fun q x hq hx => ⟨fun q2 e2 => by subst e2; exact fr_Mo_test_y6 q.1 q.2 hq hx, fun r2 e2 => by subst e2; exact fr_Mo_test_y6 q.1 q.2 hq hx⟩) FU _ x hg h
theorem fr_Mo_test {r : Int} {d' : Dt} (d : Dt) (hg : d GH 0 ≤ 6) (h : L_Mo_test d = some (r, d')) : Fr wo_Mo_test [37, 38, 39, 40, 41, 42, 43, 44, 45, 46] false d d' := by
  have f0 : Fr wo_Mo_test [37, 38, 39, 40, 41, 42, 43, 44, 45, 46] false d d := Fr.rfl
  unfold L_Mo_test at h
  obtain ⟨r25_, d24_, hr26_, h⟩ := bd_some h
  have fd24_ : Fr wo_Mo_test [37, 38, 39, 40, 41, 42, 43, 44, 45, 46] false d d24_ := Fr.tr f0 (fr_Mo_one 1 d (Fr.g f0 hg) hr26_) (by decide) (by decide) (by decide)
  obtain ⟨x28_, hx29_, h⟩ := lb_some h
  have fx28_ := Fr.tr0 fd24_ (fr_Mo_test_l6 r25_ d24_ (Fr.g fd24_ hg) hx29_)
  obtain ⟨v30_, d31_⟩ := x28_
  have fd31_ : Fr wo_Mo_test [37, 38, 39, 40, 41, 42, 43, 44, 45, 46] false d d31_ := fx28_
  replace h := u1_e h
  obtain ⟨rfl, rfl⟩ := ret_inj h
  exact fd31_
/-! frames of Mo_tests -/
def wo_Mo_tests : List (Nat × Nat) := [(0, 34), (0, 35), (0, 36), (0, 37), (0, 39), (0, 40), (0, 42), (0, 43)]
theorem fr_Mo_tests {r : Int} {d' : Dt} (p1 : Int) (d : Dt) (hg : d GH 0 ≤ 6) (h : L_Mo_tests p1 d = some (r, d')) : Fr wo_Mo_tests [33, 34, 37, 38, 39, 40, 41, 42, 43, 44, 45, 46] false d d' := by
  have f0 : Fr wo_Mo_tests [33, 34, 37, 38, 39, 40, 41, 42, 43, 44, 45, 46] false d d := Fr.rfl
  unfold L_Mo_tests at h
  obtain ⟨r2_, d1_, hr3_, h⟩ := bd_some h
  have fd1_ : Fr wo_Mo_tests [33, 34, 37, 38, 39, 40, 41, 42, 43, 44, 45, 46] false d d1_ := Fr.tr f0 (fr_Mo_test  d (Fr.g f0 hg) hr3_) (by decide) (by decide) (by decide)
  rcases ite_some h with ⟨hc5_, h⟩ | ⟨hc5_, h⟩
  · obtain ⟨rfl, rfl⟩ := ret_inj h
    exact fd1_
  · obtain ⟨hb7_, h⟩ := ck_some h
    obtain ⟨hb9_, h⟩ := ck_some h
    obtain ⟨r11_, d10_, hr12_, h⟩ := bd_some h
    have fd10_ : Fr wo_Mo_tests [33, 34, 37, 38, 39, 40, 41, 42, 43, 44, 45, 46] false d d10_ := Fr.tr (Fr.upa (Fr.upa fd1_ rfl (by decide)) rfl (by decide)) (fr_Mo_isKey 6 (up2 (up2 d1_ 33 p1.toNat (d1_ 0 43)) 34 p1.toNat (d1_ 0 43)) (Fr.g (Fr.upa (Fr.upa fd1_ rfl (by decide)) rfl (by decide)) hg) hr12_) (by decide) (by decide) (by decide)
    rcases ite_some h with ⟨hc14_, h⟩ | ⟨hc14_, h⟩
    · obtain ⟨rfl, rfl⟩ := ret_inj h
      exact fd10_
    · obtain ⟨r16_, d15_, hr17_, h⟩ := bd_some h
      have fd15_ : Fr wo_Mo_tests [33, 34, 37, 38, 39, 40, 41, 42, 43, 44, 45, 46] false d d15_ := Fr.tr fd10_ (fr_Mo_next  d10_ (Fr.g fd10_ hg) hr17_) (by decide) (by decide) (by decide)
      obtain ⟨r20_, d19_, hr21_, h⟩ := bd_some h
      have fd19_ : Fr wo_Mo_tests [33, 34, 37, 38, 39, 40, 41, 42, 43, 44, 45, 46] false d d19_ := Fr.tr fd15_ (fr_Mo_test  d15_ (Fr.g fd15_ hg) hr21_) (by decide) (by decide) (by decide)
      rcases ite_some h with ⟨hc23_, h⟩ | ⟨hc23_, h⟩
      · obtain ⟨rfl, rfl⟩ := ret_inj h
        exact fd19_
      · obtain ⟨hb25_, h⟩ := ck_some h
        obtain ⟨rfl, rfl⟩ := ret_inj h
        exact (Fr.upa fd19_ rfl (by decide))
/-! frames of Mo_rule -/
def wo_Mo_rule : List (Nat × Nat) := [(0, 34), (0, 35), (0, 36), (0, 37), (0, 39), (0, 40), (0, 42), (0, 43)]
def he_Mo_rule_66 (r : (Int × Int × Dt) ⊕ (Dt)) : Dt := match r with
  | .inl q => q.2.2
  | .inr q => q
def hb_Mo_rule_66 (o : (Int × Int × Int × Dt) ⊕ ((Int × Int × Dt) ⊕ (Dt))) : Dt := match o with
  | .inl q => q.2.2.2
  | .inr r => he_Mo_rule_66 r
theorem fr_Mo_rule_y66 {o : (Int × Int × Int × Dt) ⊕ ((Int × Int × Dt) ⊕ (Dt))} (x1 x3 x4 : Int) (d : Dt) (hg : d GH 0 ≤ 6) (h : L_Mo_rule_y66 x1 x3 x4 d = some o) : Fr wo_Mo_rule [28, 29, 30, 31, 32, 33, 34, 35, 36, 37, 38, 39, 40, 41, 42, 43, 44, 45, 46] false d (hb_Mo_rule_66 o) := by
  have f0 : Fr wo_Mo_rule [28, 29, 30, 31, 32, 33, 34, 35, 36, 37, 38, 39, 40, 41, 42, 43, 44, 45, 46] false d d := Fr.rfl
  unfold L_Mo_rule_y66 at h
  rcases ite_some h with ⟨hc1_, h⟩ | ⟨hc1_, h⟩
  · obtain ⟨hb2_, h⟩ := ck_some h
    rcases ite_some h with ⟨hc4_, h⟩ | ⟨hc4_, h⟩
    · obtain rfl := Option.some.inj h
      exact f0
    · obtain rfl := Option.some.inj h
      exact f0
  · obtain rfl := Option.some.inj h
    exact f0
theorem fr_Mo_rule_l66 {x : (Int × Int × Dt) ⊕ (Dt)} (x1 x3 x4 : Int) (d : Dt) (hg : d GH 0 ≤ 6) (h : L_Mo_rule_l66 x1 x3 x4 d = some x) : Fr wo_Mo_rule [28, 29, 30, 31, 32, 33, 34, 35, 36, 37, 38, 39, 40, 41, 42, 43, 44, 45, 46] false d (he_Mo_rule_66 x) :=
  lpF_fr (f := fun q : Int × Int × Int × Dt => L_Mo_rule_y66 q.1 q.2.1 q.2.2.1 q.2.2.2) (fun q => q.2.2.2) he_Mo_rule_66 (fun q x hq hx => ⟨fun q2 e2 => by subst e2; exact fr_Mo_rule_y66 q.1 q.2.1 q.2.2.1 q.2.2.2 hq hx, fun r2 e2 => by subst e2; exact fr_Mo_rule_y66 q.1 q.2.1 q.2.2.1 q.2.2.2 hq hx⟩) FU _ x hg h
theorem fr_Mo_rule_b205 {r : Int} {d' : Dt} (d : Dt) (hg : d GH 0 ≤ 6) (h : L_Mo_rule_b205 d = some (r, d')) : Fr wo_Mo_rule [28, 29, 30, 31, 32, 33, 34, 35, 36, 37, 38, 39, 40, 41, 42, 43, 44, 45, 46] false d d' := by
  have f0 : Fr wo_Mo_rule [28, 29, 30, 31, 32, 33, 34, 35, 36, 37, 38, 39, 40, 41, 42, 43, 44, 45, 46] false d d := Fr.rfl
  unfold L_Mo_rule_b205 at h
  obtain ⟨r6_, d5_, hr7_, h⟩ := bd_some h
  have fd5_ : Fr wo_Mo_rule [28, 29, 30, 31, 32, 33, 34, 35, 36, 37, 38, 39, 40, 41, 42, 43, 44, 45, 46] false d d5_ := Fr.tr f0 (fr_Mo_fails 2 d (Fr.g f0 hg) hr7_) (by decide) (by decide) (by decide)
  obtain ⟨rfl, rfl⟩ := ret_inj h
  exact fd5_
theorem fr_Mo_rule_b286 {r : Int} {d' : Dt} (s0 : Int) (d : Dt) (hg : d GH 0 ≤ 6) (h : L_Mo_rule_b286 s0 d = some (r, d')) : Fr wo_Mo_rule [28, 29, 30, 31, 32, 33, 34, 35, 36, 37, 38, 39, 40, 41, 42, 43, 44, 45, 46] false d d' := by
  have f0 : Fr wo_Mo_rule [28, 29, 30, 31, 32, 33, 34, 35, 36, 37, 38, 39, 40, 41, 42, 43, 44, 45, 46] false d d := Fr.rfl
  unfold L_Mo_rule_b286 at h
  rcases ite_some h with ⟨hc9_, h⟩ | ⟨hc9_, h⟩
  · obtain ⟨rfl, rfl⟩ := ret_inj h
    exact f0
  · obtain ⟨hb11_, h⟩ := ck_some h
    obtain ⟨hb13_, h⟩ := ck_some h
    obtain ⟨r15_, d14_, hr16_, h⟩ := bd_some h
    have fd14_ : Fr wo_Mo_rule [28, 29, 30, 31, 32, 33, 34, 35, 36, 37, 38, 39, 40, 41, 42, 43, 44, 45, 46] false d d14_ := Fr.tr (Fr.upa f0 rfl (by decide)) (fr_Mo_want 59 (up2 d 28 ((d 0 41)).toNat (w32 ((d 28 ((d 0 41)).toNat) + 1))) (Fr.g (Fr.upa f0 rfl (by decide)) hg) hr16_) (by decide) (by decide) (by decide)
    obtain ⟨rfl, rfl⟩ := ret_inj h
    exact fd14_
theorem fr_Mo_rule_b161 {r : Int} {d' : Dt} (x3 : Int) (d : Dt) (hg : d GH 0 ≤ 6) (h : L_Mo_rule_b161 x3 d = some (r, d')) : Fr wo_Mo_rule [28, 29, 30, 31, 32, 33, 34, 35, 36, 37, 38, 39, 40, 41, 42, 43, 44, 45, 46] false d d' := by
  have f0 : Fr wo_Mo_rule [28, 29, 30, 31, 32, 33, 34, 35, 36, 37, 38, 39, 40, 41, 42, 43, 44, 45, 46] false d d := Fr.rfl
  unfold L_Mo_rule_b161 at h
  obtain ⟨r19_, d18_, hr20_, h⟩ := bd_some h
  have fd18_ : Fr wo_Mo_rule [28, 29, 30, 31, 32, 33, 34, 35, 36, 37, 38, 39, 40, 41, 42, 43, 44, 45, 46] false d d18_ := Fr.tr f0 (fr_Mo_want 58 d (Fr.g f0 hg) hr20_) (by decide) (by decide) (by decide)
  rcases ite_some h with ⟨hc22_, h⟩ | ⟨hc22_, h⟩
  · obtain ⟨rfl, rfl⟩ := ret_inj h
    exact fd18_
  · obtain ⟨r24_, d23_, hr25_, h⟩ := bd_some h
    have fd23_ : Fr wo_Mo_rule [28, 29, 30, 31, 32, 33, 34, 35, 36, 37, 38, 39, 40, 41, 42, 43, 44, 45, 46] false d d23_ := Fr.tr fd18_ (fr_Mo_inWords 1000003 d18_ (Fr.g fd18_ hg) hr25_) (by decide) (by decide) (by decide)
    obtain ⟨hb27_, h⟩ := ck_some h
    obtain ⟨hb28_, h⟩ := ck_some h
    rcases ite_some h with ⟨hc30_, h⟩ | ⟨hc30_, h⟩
    · exact Fr.tr0 (Fr.upa fd23_ rfl (by decide)) (fr_Mo_rule_b205  (up2 d23_ 29 x3.toNat r24_) (Fr.g (Fr.upa fd23_ rfl (by decide)) hg) h)
    · obtain ⟨hb31_, h⟩ := ck_some h
      rcases ite_some h with ⟨hc33_, h⟩ | ⟨hc33_, h⟩
      · exact Fr.tr0 (Fr.upa fd23_ rfl (by decide)) (fr_Mo_rule_b205  (up2 d23_ 29 x3.toNat r24_) (Fr.g (Fr.upa fd23_ rfl (by decide)) hg) h)
      · obtain ⟨r35_, d34_, hr36_, h⟩ := bd_some h
        have fd34_ : Fr wo_Mo_rule [28, 29, 30, 31, 32, 33, 34, 35, 36, 37, 38, 39, 40, 41, 42, 43, 44, 45, 46] false d d34_ := Fr.tr (Fr.upa fd23_ rfl (by decide)) (fr_Mo_next  (up2 d23_ 29 x3.toNat r24_) (Fr.g (Fr.upa fd23_ rfl (by decide)) hg) hr36_) (by decide) (by decide) (by decide)
        obtain ⟨hb39_, h⟩ := ck_some h
        obtain ⟨hb41_, h⟩ := ck_some h
        obtain ⟨hb43_, h⟩ := ck_some h
        obtain ⟨hb44_, h⟩ := ck_some h
        rcases ite_some h with ⟨hc46_, h⟩ | ⟨hc46_, h⟩
        · obtain ⟨r48_, d47_, hr49_, h⟩ := bd_some h
          have fd47_ : Fr wo_Mo_rule [28, 29, 30, 31, 32, 33, 34, 35, 36, 37, 38, 39, 40, 41, 42, 43, 44, 45, 46] false d d47_ := Fr.tr (Fr.upa (Fr.upa (Fr.upa fd34_ rfl (by decide)) rfl (by decide)) rfl (by decide)) (fr_Mo_readNames x3 (up2 (up2 (up2 d34_ 32 x3.toNat (d34_ 0 43)) 33 x3.toNat (d34_ 0 43)) 34 x3.toNat (d34_ 0 43)) (Fr.g (Fr.upa (Fr.upa (Fr.upa fd34_ rfl (by decide)) rfl (by decide)) rfl (by decide)) hg) hr49_) (by decide) (by decide) (by decide)
          exact Fr.tr0 fd47_ (fr_Mo_rule_b286 r48_ d47_ (Fr.g fd47_ hg) h)
        · obtain ⟨hb51_, h⟩ := ck_some h
          rcases ite_some h with ⟨hc53_, h⟩ | ⟨hc53_, h⟩
          · obtain ⟨r55_, d54_, hr56_, h⟩ := bd_some h
            have fd54_ : Fr wo_Mo_rule [28, 29, 30, 31, 32, 33, 34, 35, 36, 37, 38, 39, 40, 41, 42, 43, 44, 45, 46] false d d54_ := Fr.tr (Fr.upa (Fr.upa (Fr.upa fd34_ rfl (by decide)) rfl (by decide)) rfl (by decide)) (fr_Mo_readHours x3 (up2 (up2 (up2 d34_ 32 x3.toNat (d34_ 0 43)) 33 x3.toNat (d34_ 0 43)) 34 x3.toNat (d34_ 0 43)) (Fr.g (Fr.upa (Fr.upa (Fr.upa fd34_ rfl (by decide)) rfl (by decide)) rfl (by decide)) hg) hr56_) (by decide) (by decide) (by decide)
            exact Fr.tr0 fd54_ (fr_Mo_rule_b286 r55_ d54_ (Fr.g fd54_ hg) h)
          · obtain ⟨r59_, d58_, hr60_, h⟩ := bd_some h
            have fd58_ : Fr wo_Mo_rule [28, 29, 30, 31, 32, 33, 34, 35, 36, 37, 38, 39, 40, 41, 42, 43, 44, 45, 46] false d d58_ := Fr.tr (Fr.upa (Fr.upa (Fr.upa fd34_ rfl (by decide)) rfl (by decide)) rfl (by decide)) (fr_Mo_tests x3 (up2 (up2 (up2 d34_ 32 x3.toNat (d34_ 0 43)) 33 x3.toNat (d34_ 0 43)) 34 x3.toNat (d34_ 0 43)) (Fr.g (Fr.upa (Fr.upa (Fr.upa fd34_ rfl (by decide)) rfl (by decide)) rfl (by decide)) hg) hr60_) (by decide) (by decide) (by decide)
            exact Fr.tr0 fd58_ (fr_Mo_rule_b286 r59_ d58_ (Fr.g fd58_ hg) h)
theorem fr_Mo_rule {r : Int} {d' : Dt} (d : Dt) (hg : d GH 0 ≤ 6) (h : L_Mo_rule d = some (r, d')) : Fr wo_Mo_rule [28, 29, 30, 31, 32, 33, 34, 35, 36, 37, 38, 39, 40, 41, 42, 43, 44, 45, 46] false d d' := by
  have f0 : Fr wo_Mo_rule [28, 29, 30, 31, 32, 33, 34, 35, 36, 37, 38, 39, 40, 41, 42, 43, 44, 45, 46] false d d := Fr.rfl
  unfold L_Mo_rule at h
  obtain ⟨r63_, d62_, hr64_, h⟩ := bd_some h
  have fd62_ : Fr wo_Mo_rule [28, 29, 30, 31, 32, 33, 34, 35, 36, 37, 38, 39, 40, 41, 42, 43, 44, 45, 46] false d d62_ := Fr.tr f0 (fr_Mo_labelHere  d (Fr.g f0 hg) hr64_) (by decide) (by decide) (by decide)
  rcases ite_some h with ⟨hc66_, h⟩ | ⟨hc66_, h⟩
  · obtain ⟨r68_, d67_, hr69_, h⟩ := bd_some h
    have fd67_ : Fr wo_Mo_rule [28, 29, 30, 31, 32, 33, 34, 35, 36, 37, 38, 39, 40, 41, 42, 43, 44, 45, 46] false d d67_ := Fr.tr fd62_ (fr_Mo_fails 2 d62_ (Fr.g fd62_ hg) hr69_) (by decide) (by decide) (by decide)
    obtain ⟨rfl, rfl⟩ := ret_inj h
    exact fd67_
  · obtain ⟨hb72_, h⟩ := ck_some h
    rcases ite_some h with ⟨hc74_, h⟩ | ⟨hc74_, h⟩
    · obtain ⟨r76_, d75_, hr77_, h⟩ := bd_some h
      have fd75_ : Fr wo_Mo_rule [28, 29, 30, 31, 32, 33, 34, 35, 36, 37, 38, 39, 40, 41, 42, 43, 44, 45, 46] false d d75_ := Fr.tr fd62_ (fr_Mo_fails 3 d62_ (Fr.g fd62_ hg) hr77_) (by decide) (by decide) (by decide)
      obtain ⟨rfl, rfl⟩ := ret_inj h
      exact fd75_
    · obtain ⟨hb81_, h⟩ := ck_some h
      obtain ⟨v83_, ev84_, h⟩ := lt_some h
      obtain ⟨v87_, ev88_, h⟩ := lt_some h
      obtain ⟨x90_, hx91_, h⟩ := lb_some h
      have fx90_ := Fr.tr0 fd62_ (fr_Mo_rule_l66 r63_ v83_ v87_ d62_ (Fr.g fd62_ hg) hx91_)
      rcases x90_ with ⟨v92_, v93_, d94_⟩ | d127_
      · have fd94_ : Fr wo_Mo_rule [28, 29, 30, 31, 32, 33, 34, 35, 36, 37, 38, 39, 40, 41, 42, 43, 44, 45, 46] false d d94_ := fx90_
        replace h := sml_e h
        replace h := u2_e h
        obtain ⟨hb96_, h⟩ := ck_some h
        obtain ⟨hb97_, h⟩ := ck_some h
        obtain ⟨r99_, d98_, hr100_, h⟩ := bd_some h
        have fd98_ : Fr wo_Mo_rule [28, 29, 30, 31, 32, 33, 34, 35, 36, 37, 38, 39, 40, 41, 42, 43, 44, 45, 46] false d d98_ := Fr.tr (Fr.upa (Fr.upa fd94_ rfl (by decide)) rfl (by decide)) (fr_Mo_next  (up2 (up2 d94_ 35 v93_.toNat v92_) 36 v93_.toNat (-1)) (Fr.g (Fr.upa (Fr.upa fd94_ rfl (by decide)) rfl (by decide)) hg) hr100_) (by decide) (by decide) (by decide)
        obtain ⟨r103_, d102_, hr104_, h⟩ := bd_some h
        have fd102_ : Fr wo_Mo_rule [28, 29, 30, 31, 32, 33, 34, 35, 36, 37, 38, 39, 40, 41, 42, 43, 44, 45, 46] false d d102_ := Fr.tr fd98_ (fr_Mo_isKey 0 d98_ (Fr.g fd98_ hg) hr104_) (by decide) (by decide) (by decide)
        rcases ite_some h with ⟨hc106_, h⟩ | ⟨hc106_, h⟩
        · exact Fr.tr0 fd102_ (fr_Mo_rule_b161 v93_ d102_ (Fr.g fd102_ hg) h)
        · obtain ⟨r108_, d107_, hr109_, h⟩ := bd_some h
          have fd107_ : Fr wo_Mo_rule [28, 29, 30, 31, 32, 33, 34, 35, 36, 37, 38, 39, 40, 41, 42, 43, 44, 45, 46] false d d107_ := Fr.tr fd102_ (fr_Mo_next  d102_ (Fr.g fd102_ hg) hr109_) (by decide) (by decide) (by decide)
          obtain ⟨r112_, d111_, hr113_, h⟩ := bd_some h
          have fd111_ : Fr wo_Mo_rule [28, 29, 30, 31, 32, 33, 34, 35, 36, 37, 38, 39, 40, 41, 42, 43, 44, 45, 46] false d d111_ := Fr.tr fd107_ (fr_Mo_labelHere  d107_ (Fr.g fd107_ hg) hr113_) (by decide) (by decide) (by decide)
          obtain ⟨hb115_, h⟩ := ck_some h
          obtain ⟨hb116_, h⟩ := ck_some h
          rcases ite_some h with ⟨hc118_, h⟩ | ⟨hc118_, h⟩
          · obtain ⟨r120_, d119_, hr121_, h⟩ := bd_some h
            have fd119_ : Fr wo_Mo_rule [28, 29, 30, 31, 32, 33, 34, 35, 36, 37, 38, 39, 40, 41, 42, 43, 44, 45, 46] false d d119_ := Fr.tr (Fr.upa fd111_ rfl (by decide)) (fr_Mo_fails 2 (up2 d111_ 36 v93_.toNat r112_) (Fr.g (Fr.upa fd111_ rfl (by decide)) hg) hr121_) (by decide) (by decide) (by decide)
            obtain ⟨rfl, rfl⟩ := ret_inj h
            exact fd119_
          · obtain ⟨r124_, d123_, hr125_, h⟩ := bd_some h
            have fd123_ : Fr wo_Mo_rule [28, 29, 30, 31, 32, 33, 34, 35, 36, 37, 38, 39, 40, 41, 42, 43, 44, 45, 46] false d d123_ := Fr.tr (Fr.upa fd111_ rfl (by decide)) (fr_Mo_next  (up2 d111_ 36 v93_.toNat r112_) (Fr.g (Fr.upa fd111_ rfl (by decide)) hg) hr125_) (by decide) (by decide) (by decide)
            exact Fr.tr0 fd123_ (fr_Mo_rule_b161 v93_ d123_ (Fr.g fd123_ hg) h)
      · have fd127_ : Fr wo_Mo_rule [28, 29, 30, 31, 32, 33, 34, 35, 36, 37, 38, 39, 40, 41, 42, 43, 44, 45, 46] false d d127_ := fx90_
        replace h := smr_e h
        replace h := u0_e h
        obtain ⟨r130_, d129_, hr131_, h⟩ := bd_some h
        have fd129_ : Fr wo_Mo_rule [28, 29, 30, 31, 32, 33, 34, 35, 36, 37, 38, 39, 40, 41, 42, 43, 44, 45, 46] false d d129_ := Fr.tr fd127_ (fr_Mo_fails 4 d127_ (Fr.g fd127_ hg) hr131_) (by decide) (by decide) (by decide)
        obtain ⟨rfl, rfl⟩ := ret_inj h
        exact fd129_
/-! frames of Mo_text -/
def wo_Mo_text : List (Nat × Nat) := [(0, 0), (0, 32), (0, 33), (0, 34), (0, 35), (0, 36), (0, 37), (0, 38), (0, 39), (0, 40), (0, 41), (0, 42), (0, 43)]
def he_Mo_text_58 (q : (Int × Int × Dt)) : Dt := q.2.2
def hb_Mo_text_58 (o : (Int × Int × Int × Int × Dt) ⊕ ((Int × Int × Dt))) : Dt := match o with
  | .inl q => q.2.2.2.2
  | .inr r => he_Mo_text_58 r
def he_Mo_text_130 (q : (Int × Int × Int × Int × Dt)) : Dt := q.2.2.2.2
def hb_Mo_text_130 (o : (Int × Int × Int × Int × Dt) ⊕ ((Int × Int × Int × Int × Dt))) : Dt := match o with
  | .inl q => q.2.2.2.2
  | .inr r => he_Mo_text_130 r
theorem fr_Mo_text_y58 {o : (Int × Int × Int × Int × Dt) ⊕ ((Int × Int × Dt))} (x1 x2 x3 x4 : Int) (d : Dt) (hg : d GH 0 ≤ 6) (h : L_Mo_text_y58 x1 x2 x3 x4 d = some o) : Fr wo_Mo_text [25, 26, 27, 28, 29, 30, 31, 32, 33, 34, 35, 36, 37, 38, 39, 40, 41, 42, 43, 44, 45, 46] false d (hb_Mo_text_58 o) := by
  have f0 : Fr wo_Mo_text [25, 26, 27, 28, 29, 30, 31, 32, 33, 34, 35, 36, 37, 38, 39, 40, 41, 42, 43, 44, 45, 46] false d d := Fr.rfl
  unfold L_Mo_text_y58 at h
  rcases ite_some h with ⟨hc1_, h⟩ | ⟨hc1_, h⟩
  · obtain ⟨hb2_, h⟩ := ck_some h
    obtain ⟨hb4_, h⟩ := ck_some h
    obtain rfl := Option.some.inj h
    exact (Fr.upa f0 rfl (by decide))
  · obtain rfl := Option.some.inj h
    exact f0
theorem fr_Mo_text_l58 {x : (Int × Int × Dt)} (x1 x2 x3 x4 : Int) (d : Dt) (hg : d GH 0 ≤ 6) (h : L_Mo_text_l58 x1 x2 x3 x4 d = some x) : Fr wo_Mo_text [25, 26, 27, 28, 29, 30, 31, 32, 33, 34, 35, 36, 37, 38, 39, 40, 41, 42, 43, 44, 45, 46] false d (he_Mo_text_58 x) :=
  lpF_fr (f := fun q : Int × Int × Int × Int × Dt => L_Mo_text_y58 q.1 q.2.1 q.2.2.1 q.2.2.2.1 q.2.2.2.2) (fun q => q.2.2.2.2) he_Mo_text_58 (fun q x hq hx => ⟨fun q2 e2 => by subst e2; exact fr_Mo_text_y58 q.1 q.2.1 q.2.2.1 q.2.2.2.1 q.2.2.2.2 hq hx, fun r2 e2 => by subst e2; exact fr_Mo_text_y58 q.1 q.2.1 q.2.2.1 q.2.2.2.1 q.2.2.2.2 hq hx⟩) FU _ x hg h
theorem fr_Mo_text_y130 {o : (Int × Int × Int × Int × Dt) ⊕ ((Int × Int × Int × Int × Dt))} (x2 x3 x4 x5 : Int) (d : Dt) (hg : d GH 0 ≤ 6) (h : L_Mo_text_y130 x2 x3 x4 x5 d = some o) : Fr wo_Mo_text [25, 26, 27, 28, 29, 30, 31, 32, 33, 34, 35, 36, 37, 38, 39, 40, 41, 42, 43, 44, 45, 46] false d (hb_Mo_text_130 o) := by
  have f0 : Fr wo_Mo_text [25, 26, 27, 28, 29, 30, 31, 32, 33, 34, 35, 36, 37, 38, 39, 40, 41, 42, 43, 44, 45, 46] false d d := Fr.rfl
  unfold L_Mo_text_y130 at h
  rcases ite_some h with ⟨hc6_, h⟩ | ⟨hc6_, h⟩
  · obtain rfl := Option.some.inj h
    exact f0
  · rcases ite_some h with ⟨hc8_, h⟩ | ⟨hc8_, h⟩
    · obtain ⟨r10_, d9_, hr11_, h⟩ := bd_some h
      have fd9_ : Fr wo_Mo_text [25, 26, 27, 28, 29, 30, 31, 32, 33, 34, 35, 36, 37, 38, 39, 40, 41, 42, 43, 44, 45, 46] false d d9_ := Fr.tr f0 (fr_Mo_rule  d (Fr.g f0 hg) hr11_) (by decide) (by decide) (by decide)
      rcases ite_some h with ⟨hc13_, h⟩ | ⟨hc13_, h⟩
      · obtain rfl := Option.some.inj h
        exact (Fr.upo fd9_ rfl (by decide))
      · obtain rfl := Option.some.inj h
        exact fd9_
    · obtain rfl := Option.some.inj h
      exact f0
theorem fr_Mo_text_l130 {x : (Int × Int × Int × Int × Dt)} (x2 x3 x4 x5 : Int) (d : Dt) (hg : d GH 0 ≤ 6) (h : L_Mo_text_l130 x2 x3 x4 x5 d = some x) : Fr wo_Mo_text [25, 26, 27, 28, 29, 30, 31, 32, 33, 34, 35, 36, 37, 38, 39, 40, 41, 42, 43, 44, 45, 46] false d (he_Mo_text_130 x) :=
  lpF_fr (f := fun q : Int × Int × Int × Int × Dt => L_Mo_text_y130 q.1 q.2.1 q.2.2.1 q.2.2.2.1 q.2.2.2.2) (fun q => q.2.2.2.2) he_Mo_text_130 (fun q x hq hx => ⟨fun q2 e2 => by subst e2; exact fr_Mo_text_y130 q.1 q.2.1 q.2.2.1 q.2.2.2.1 q.2.2.2.2 hq hx, fun r2 e2 => by subst e2; exact fr_Mo_text_y130 q.1 q.2.1 q.2.2.1 q.2.2.2.1 q.2.2.2.2 hq hx⟩) FU _ x hg h
theorem fr_Mo_text_b30 {r : Int} {d' : Dt} (d : Dt) (hg : d GH 0 ≤ 6) (h : L_Mo_text_b30 d = some (r, d')) : Fr wo_Mo_text [25, 26, 27, 28, 29, 30, 31, 32, 33, 34, 35, 36, 37, 38, 39, 40, 41, 42, 43, 44, 45, 46] false d d' := by
  have f0 : Fr wo_Mo_text [25, 26, 27, 28, 29, 30, 31, 32, 33, 34, 35, 36, 37, 38, 39, 40, 41, 42, 43, 44, 45, 46] false d d := Fr.rfl
  unfold L_Mo_text_b30 at h
  obtain ⟨r16_, d15_, hr17_, h⟩ := bd_some h
  have fd15_ : Fr wo_Mo_text [25, 26, 27, 28, 29, 30, 31, 32, 33, 34, 35, 36, 37, 38, 39, 40, 41, 42, 43, 44, 45, 46] false d d15_ := Fr.tr f0 (fr_Mo_refuse 1 d (Fr.g f0 hg) hr17_) (by decide) (by decide) (by decide)
  obtain ⟨rfl, rfl⟩ := ret_inj h
  exact fd15_
theorem fr_Mo_text_b170 {r : Int} {d' : Dt} (x2 x3 x4 x5 : Int) (d : Dt) (hg : d GH 0 ≤ 6) (h : L_Mo_text_b170 x2 x3 x4 x5 d = some (r, d')) : Fr wo_Mo_text [25, 26, 27, 28, 29, 30, 31, 32, 33, 34, 35, 36, 37, 38, 39, 40, 41, 42, 43, 44, 45, 46] false d d' := by
  have f0 : Fr wo_Mo_text [25, 26, 27, 28, 29, 30, 31, 32, 33, 34, 35, 36, 37, 38, 39, 40, 41, 42, 43, 44, 45, 46] false d d := Fr.rfl
  unfold L_Mo_text_b170 at h
  rcases ite_some h with ⟨hc21_, h⟩ | ⟨hc21_, h⟩
  · obtain ⟨r23_, d22_, hr24_, h⟩ := bd_some h
    have fd22_ : Fr wo_Mo_text [25, 26, 27, 28, 29, 30, 31, 32, 33, 34, 35, 36, 37, 38, 39, 40, 41, 42, 43, 44, 45, 46] false d d22_ := Fr.tr (Fr.upo (Fr.upo (Fr.upo f0 rfl (by decide)) rfl (by decide)) rfl (by decide)) (fr_Mo_refuse 9 (up2 (up2 (up2 d 0 38 (d 0 40)) 0 42 x4) 0 43 x5) (Fr.g (Fr.upo (Fr.upo (Fr.upo f0 rfl (by decide)) rfl (by decide)) rfl (by decide)) hg) hr24_) (by decide) (by decide) (by decide)
    obtain ⟨rfl, rfl⟩ := ret_inj h
    exact fd22_
  · obtain ⟨hb27_, h⟩ := ck_some h
    obtain ⟨hb29_, h⟩ := ck_some h
    obtain ⟨hb32_, h⟩ := ck_some h
    obtain ⟨r35_, d34_, hr36_, h⟩ := bd_some h
    have fd34_ : Fr wo_Mo_text [25, 26, 27, 28, 29, 30, 31, 32, 33, 34, 35, 36, 37, 38, 39, 40, 41, 42, 43, 44, 45, 46] false d d34_ := Fr.tr (Fr.upo (Fr.upa (Fr.upa (Fr.upo f0 rfl (by decide)) rfl (by decide)) rfl (by decide)) rfl (by decide)) (fr_Mo_gives (d 28 ((w32 ((w32 ((d 0 41) + 1)) - 1))).toNat) (up2 (up2 (up2 (up2 d 0 38 (d 0 40)) 26 ((d 0 41)).toNat x2) 27 ((d 0 41)).toNat x3) 0 41 (w32 ((d 0 41) + 1))) (Fr.g (Fr.upo (Fr.upa (Fr.upa (Fr.upo f0 rfl (by decide)) rfl (by decide)) rfl (by decide)) rfl (by decide)) hg) hr36_) (by decide) (by decide) (by decide)
    obtain ⟨rfl, rfl⟩ := ret_inj h
    exact fd34_
theorem fr_Mo_text {r : Int} {d' : Dt} (p1 p2 p3 : Int) (d : Dt) (hg : d GH 0 ≤ 6) (h : L_Mo_text p1 p2 p3 d = some (r, d')) : Fr wo_Mo_text [25, 26, 27, 28, 29, 30, 31, 32, 33, 34, 35, 36, 37, 38, 39, 40, 41, 42, 43, 44, 45, 46] false d d' := by
  have f0 : Fr wo_Mo_text [25, 26, 27, 28, 29, 30, 31, 32, 33, 34, 35, 36, 37, 38, 39, 40, 41, 42, 43, 44, 45, 46] false d d := Fr.rfl
  unfold L_Mo_text at h
  rcases ite_some h with ⟨hc38_, h⟩ | ⟨hc38_, h⟩
  · exact Fr.tr0 f0 (fr_Mo_text_b30  d (Fr.g f0 hg) h)
  · rcases ite_some h with ⟨hc40_, h⟩ | ⟨hc40_, h⟩
    · exact Fr.tr0 f0 (fr_Mo_text_b30  d (Fr.g f0 hg) h)
    · obtain ⟨r42_, d41_, hr43_, h⟩ := bd_some h
      have fd41_ : Fr wo_Mo_text [25, 26, 27, 28, 29, 30, 31, 32, 33, 34, 35, 36, 37, 38, 39, 40, 41, 42, 43, 44, 45, 46] false d d41_ := Fr.tr f0 (fr_Mo_isDay p2 d (Fr.g f0 hg) hr43_) (by decide) (by decide) (by decide)
      rcases ite_some h with ⟨hc45_, h⟩ | ⟨hc45_, h⟩
      · exact Fr.tr0 fd41_ (fr_Mo_text_b30  d41_ (Fr.g fd41_ hg) h)
      · rcases ite_some h with ⟨hc46_, h⟩ | ⟨hc46_, h⟩
        · exact Fr.tr0 fd41_ (fr_Mo_text_b30  d41_ (Fr.g fd41_ hg) h)
        · rcases ite_some h with ⟨hc47_, h⟩ | ⟨hc47_, h⟩
          · exact Fr.tr0 fd41_ (fr_Mo_text_b30  d41_ (Fr.g fd41_ hg) h)
          · rcases ite_some h with ⟨hc49_, h⟩ | ⟨hc49_, h⟩
            · obtain ⟨r51_, d50_, hr52_, h⟩ := bd_some h
              have fd50_ : Fr wo_Mo_text [25, 26, 27, 28, 29, 30, 31, 32, 33, 34, 35, 36, 37, 38, 39, 40, 41, 42, 43, 44, 45, 46] false d d50_ := Fr.tr fd41_ (fr_Mo_refuse 4 d41_ (Fr.g fd41_ hg) hr52_) (by decide) (by decide) (by decide)
              obtain ⟨rfl, rfl⟩ := ret_inj h
              exact fd50_
            · obtain ⟨x54_, hx55_, h⟩ := lb_some h
              have fx54_ := Fr.tr0 (Fr.upo fd41_ rfl (by decide)) (fr_Mo_text_l58 p1 p2 p3 0 (up2 d41_ 0 33 p1) (Fr.g (Fr.upo fd41_ rfl (by decide)) hg) hx55_)
              obtain ⟨v56_, v57_, d58_⟩ := x54_
              have fd58_ : Fr wo_Mo_text [25, 26, 27, 28, 29, 30, 31, 32, 33, 34, 35, 36, 37, 38, 39, 40, 41, 42, 43, 44, 45, 46] false d d58_ := fx54_
              replace h := u2_e h
              obtain ⟨hb61_, h⟩ := ck_some h
              obtain ⟨v63_, ev64_, h⟩ := lt_some h
              obtain ⟨v67_, ev68_, h⟩ := lt_some h
              obtain ⟨r71_, d70_, hr72_, h⟩ := bd_some h
              have fd70_ : Fr wo_Mo_text [25, 26, 27, 28, 29, 30, 31, 32, 33, 34, 35, 36, 37, 38, 39, 40, 41, 42, 43, 44, 45, 46] false d d70_ := Fr.tr (Fr.upa (Fr.upo (Fr.upo (Fr.upo (Fr.upo fd58_ rfl (by decide)) rfl (by decide)) rfl (by decide)) rfl (by decide)) rfl (by decide)) (fr_Mo_next  (up2 (up2 (up2 (up2 (up2 d58_ 0 32 0) 0 40 0) 0 39 (-1)) 0 36 0) 28 ((d58_ 0 41)).toNat 0) (Fr.g (Fr.upa (Fr.upo (Fr.upo (Fr.upo (Fr.upo fd58_ rfl (by decide)) rfl (by decide)) rfl (by decide)) rfl (by decide)) rfl (by decide)) hg) hr72_) (by decide) (by decide) (by decide)
              obtain ⟨x74_, hx75_, h⟩ := lb_some h
              have fx74_ := Fr.tr0 fd70_ (fr_Mo_text_l130 v56_ v57_ v63_ v67_ d70_ (Fr.g fd70_ hg) hx75_)
              obtain ⟨v76_, v77_, v78_, v79_, d80_⟩ := x74_
              have fd80_ : Fr wo_Mo_text [25, 26, 27, 28, 29, 30, 31, 32, 33, 34, 35, 36, 37, 38, 39, 40, 41, 42, 43, 44, 45, 46] false d d80_ := fx74_
              replace h := u4_e h
              exact Fr.tr0 fd80_ (fr_Mo_text_b170 v76_ v77_ v78_ v79_ d80_ (Fr.g fd80_ hg) h)
/-! frames of Mo_fault -/
def wo_Mo_fault : List (Nat × Nat) := []
theorem fr_Mo_fault {r : Int} {d' : Dt} (p1 : Int) (d : Dt) (hg : d GH 0 ≤ 6) (h : L_Mo_fault p1 d = some (r, d')) : Fr wo_Mo_fault [] false d d' := by
  have f0 : Fr wo_Mo_fault [] false d d := Fr.rfl
  unfold L_Mo_fault at h
  rcases ite_some h with ⟨hc1_, h⟩ | ⟨hc1_, h⟩
  · obtain ⟨rfl, rfl⟩ := ret_inj h
    exact f0
  · rcases ite_some h with ⟨hc3_, h⟩ | ⟨hc3_, h⟩
    · obtain ⟨rfl, rfl⟩ := ret_inj h
      exact f0
    · obtain ⟨rfl, rfl⟩ := ret_inj h
      exact f0
/-! frames of Mo_stand -/
def wo_Mo_stand : List (Nat × Nat) := [(0, 68)]
def he_Mo_stand_45 (q : (Int × Int × Int × Int × Int × Dt)) : Dt := q.2.2.2.2.2
def hb_Mo_stand_45 (o : (Int × Int × Int × Int × Int × Dt) ⊕ ((Int × Int × Int × Int × Int × Dt))) : Dt := match o with
  | .inl q => q.2.2.2.2.2
  | .inr r => he_Mo_stand_45 r
def he_Mo_stand_5 (q : (Int × Dt)) : Dt := q.2
def hb_Mo_stand_5 (o : (Int × Int × Int × Int × Dt) ⊕ ((Int × Dt))) : Dt := match o with
  | .inl q => q.2.2.2.2
  | .inr r => he_Mo_stand_5 r
def he_Mo_stand_140 (q : (Int × Int × Dt)) : Dt := q.2.2
def hb_Mo_stand_140 (o : (Int × Int × Int × Dt) ⊕ ((Int × Int × Dt))) : Dt := match o with
  | .inl q => q.2.2.2
  | .inr r => he_Mo_stand_140 r
def he_Mo_stand_122 (q : (Dt)) : Dt := q
def hb_Mo_stand_122 (o : (Int × Int × Dt) ⊕ ((Dt))) : Dt := match o with
  | .inl q => q.2.2
  | .inr r => he_Mo_stand_122 r
def he_Mo_stand_227 (q : (Int × Dt)) : Dt := q.2
def hb_Mo_stand_227 (o : (Int × Int × Dt) ⊕ ((Int × Dt))) : Dt := match o with
  | .inl q => q.2.2
  | .inr r => he_Mo_stand_227 r
def he_Mo_stand_204 (q : (Dt)) : Dt := q
def hb_Mo_stand_204 (o : (Int × Dt) ⊕ ((Dt))) : Dt := match o with
  | .inl q => q.2
  | .inr r => he_Mo_stand_204 r
theorem fr_Mo_stand_y140 {o : (Int × Int × Int × Dt) ⊕ ((Int × Int × Dt))} (x3 x4 x5 : Int) (d : Dt) (hg : d GH 0 ≤ 6) (h : L_Mo_stand_y140 x3 x4 x5 d = some o) : Fr wo_Mo_stand [47, 48, 49] false d (hb_Mo_stand_140 o) := by
  have f0 : Fr wo_Mo_stand [47, 48, 49] false d d := Fr.rfl
  unfold L_Mo_stand_y140 at h
  obtain ⟨hb1_, h⟩ := ck_some h
  obtain ⟨hb3_, h⟩ := ck_some h
  obtain ⟨hb5_, h⟩ := ck_some h
  rcases ite_some h with ⟨hc7_, h⟩ | ⟨hc7_, h⟩
  · obtain ⟨hb9_, h⟩ := ck_some h
    obtain rfl := Option.some.inj h
    exact (Fr.upo (Fr.upa f0 rfl (by decide)) rfl (by decide))
  · obtain rfl := Option.some.inj h
    exact f0
theorem fr_Mo_stand_l140 {x : (Int × Int × Dt)} (x3 x4 x5 : Int) (d : Dt) (hg : d GH 0 ≤ 6) (h : L_Mo_stand_l140 x3 x4 x5 d = some x) : Fr wo_Mo_stand [47, 48, 49] false d (he_Mo_stand_140 x) :=
  lpF_fr (f := fun q : Int × Int × Int × Dt => L_Mo_stand_y140 q.1 q.2.1 q.2.2.1 q.2.2.2) (fun q => q.2.2.2) he_Mo_stand_140 (fun q x hq hx => ⟨fun q2 e2 => by subst e2; exact fr_Mo_stand_y140 q.1 q.2.1 q.2.2.1 q.2.2.2 hq hx, fun r2 e2 => by subst e2; exact fr_Mo_stand_y140 q.1 q.2.1 q.2.2.1 q.2.2.2 hq hx⟩) FU _ x hg h
theorem fr_Mo_stand_y45 {o : (Int × Int × Int × Int × Int × Dt) ⊕ ((Int × Int × Int × Int × Int × Dt))} (x1 x2 x3 x4 x5 : Int) (d : Dt) (hg : d GH 0 ≤ 6) (h : L_Mo_stand_y45 x1 x2 x3 x4 x5 d = some o) : Fr wo_Mo_stand [47, 48, 49] false d (hb_Mo_stand_45 o) := by
  have f0 : Fr wo_Mo_stand [47, 48, 49] false d d := Fr.rfl
  unfold L_Mo_stand_y45 at h
  rcases ite_some h with ⟨hc11_, h⟩ | ⟨hc11_, h⟩
  · obtain ⟨hb12_, h⟩ := ck_some h
    obtain ⟨hb14_, h⟩ := ck_some h
    obtain ⟨hb16_, h⟩ := ck_some h
    rcases ite_some h with ⟨hc18_, h⟩ | ⟨hc18_, h⟩
    · obtain ⟨hb19_, h⟩ := ck_some h
      obtain ⟨hb21_, h⟩ := ck_some h
      obtain rfl := Option.some.inj h
      exact (Fr.upa f0 rfl (by decide))
    · obtain rfl := Option.some.inj h
      exact f0
  · obtain rfl := Option.some.inj h
    exact f0
theorem fr_Mo_stand_l45 {x : (Int × Int × Int × Int × Int × Dt)} (x1 x2 x3 x4 x5 : Int) (d : Dt) (hg : d GH 0 ≤ 6) (h : L_Mo_stand_l45 x1 x2 x3 x4 x5 d = some x) : Fr wo_Mo_stand [47, 48, 49] false d (he_Mo_stand_45 x) :=
  lpF_fr (f := fun q : Int × Int × Int × Int × Int × Dt => L_Mo_stand_y45 q.1 q.2.1 q.2.2.1 q.2.2.2.1 q.2.2.2.2.1 q.2.2.2.2.2) (fun q => q.2.2.2.2.2) he_Mo_stand_45 (fun q x hq hx => ⟨fun q2 e2 => by subst e2; exact fr_Mo_stand_y45 q.1 q.2.1 q.2.2.1 q.2.2.2.1 q.2.2.2.2.1 q.2.2.2.2.2 hq hx, fun r2 e2 => by subst e2; exact fr_Mo_stand_y45 q.1 q.2.1 q.2.2.1 q.2.2.2.1 q.2.2.2.2.1 q.2.2.2.2.2 hq hx⟩) FU _ x hg h
theorem fr_Mo_stand_y122 {o : (Int × Int × Dt) ⊕ ((Dt))} (x3 x4 : Int) (d : Dt) (hg : d GH 0 ≤ 6) (h : L_Mo_stand_y122 x3 x4 d = some o) : Fr wo_Mo_stand [47, 48, 49] false d (hb_Mo_stand_122 o) := by
  have f0 : Fr wo_Mo_stand [47, 48, 49] false d d := Fr.rfl
  unfold L_Mo_stand_y122 at h
  rcases ite_some h with ⟨hc22_, h⟩ | ⟨hc22_, h⟩
  · obtain ⟨hb23_, h⟩ := ck_some h
    obtain ⟨v25_, ev26_, h⟩ := lt_some h
    obtain ⟨x28_, hx29_, h⟩ := lb_some h
    have fx28_ := Fr.tr0 f0 (fr_Mo_stand_l140 x3 x4 v25_ d (Fr.g f0 hg) hx29_)
    obtain ⟨v30_, v31_, d32_⟩ := x28_
    have fd32_ : Fr wo_Mo_stand [47, 48, 49] false d d32_ := fx28_
    replace h := u2_e h
    obtain rfl := Option.some.inj h
    exact fd32_
  · obtain rfl := Option.some.inj h
    exact f0
theorem fr_Mo_stand_l122 {x : (Dt)} (x3 x4 : Int) (d : Dt) (hg : d GH 0 ≤ 6) (h : L_Mo_stand_l122 x3 x4 d = some x) : Fr wo_Mo_stand [47, 48, 49] false d (he_Mo_stand_122 x) :=
  lpF_fr (f := fun q : Int × Int × Dt => L_Mo_stand_y122 q.1 q.2.1 q.2.2) (fun q => q.2.2) he_Mo_stand_122 (fun q x hq hx => ⟨fun q2 e2 => by subst e2; exact fr_Mo_stand_y122 q.1 q.2.1 q.2.2 hq hx, fun r2 e2 => by subst e2; exact fr_Mo_stand_y122 q.1 q.2.1 q.2.2 hq hx⟩) FU _ x hg h
theorem fr_Mo_stand_b285 {o : (Int × Int × Dt) ⊕ ((Int × Dt))} (x4 x5 s1 s2 : Int) (d : Dt) (hg : d GH 0 ≤ 6) (h : L_Mo_stand_b285 x4 x5 s1 s2 d = some o) : Fr wo_Mo_stand [47, 48, 49] false d (hb_Mo_stand_227 o) := by
  have f0 : Fr wo_Mo_stand [47, 48, 49] false d d := Fr.rfl
  unfold L_Mo_stand_b285 at h
  obtain ⟨hb35_, h⟩ := ck_some h
  obtain rfl := Option.some.inj h
  exact (Fr.upa f0 rfl (by decide))
theorem fr_Mo_stand_y227 {o : (Int × Int × Dt) ⊕ ((Int × Dt))} (x4 x5 : Int) (d : Dt) (hg : d GH 0 ≤ 6) (h : L_Mo_stand_y227 x4 x5 d = some o) : Fr wo_Mo_stand [47, 48, 49] false d (hb_Mo_stand_227 o) := by
  have f0 : Fr wo_Mo_stand [47, 48, 49] false d d := Fr.rfl
  unfold L_Mo_stand_y227 at h
  rcases ite_some h with ⟨hc37_, h⟩ | ⟨hc37_, h⟩
  · obtain ⟨hb38_, h⟩ := ck_some h
    rcases ite_some h with ⟨hc40_, h⟩ | ⟨hc40_, h⟩
    · obtain ⟨hb41_, h⟩ := ck_some h
      obtain ⟨hb43_, h⟩ := ck_some h
      obtain ⟨hb45_, h⟩ := ck_some h
      obtain ⟨hb47_, h⟩ := ck_some h
      rcases ite_some h with ⟨hc49_, h⟩ | ⟨hc49_, h⟩
      · exact Fr.tr0 f0 (fr_Mo_stand_b285 x4 x5 x4 1 d (Fr.g f0 hg) h)
      · exact Fr.tr0 f0 (fr_Mo_stand_b285 x4 x5 x4 0 d (Fr.g f0 hg) h)
    · exact Fr.tr0 f0 (fr_Mo_stand_b285 x4 x5 x4 1 d (Fr.g f0 hg) h)
  · obtain rfl := Option.some.inj h
    exact f0
theorem fr_Mo_stand_l227 {x : (Int × Dt)} (x4 x5 : Int) (d : Dt) (hg : d GH 0 ≤ 6) (h : L_Mo_stand_l227 x4 x5 d = some x) : Fr wo_Mo_stand [47, 48, 49] false d (he_Mo_stand_227 x) :=
  lpF_fr (f := fun q : Int × Int × Dt => L_Mo_stand_y227 q.1 q.2.1 q.2.2) (fun q => q.2.2) he_Mo_stand_227 (fun q x hq hx => ⟨fun q2 e2 => by subst e2; exact fr_Mo_stand_y227 q.1 q.2.1 q.2.2 hq hx, fun r2 e2 => by subst e2; exact fr_Mo_stand_y227 q.1 q.2.1 q.2.2 hq hx⟩) FU _ x hg h
theorem fr_Mo_stand_y204 {o : (Int × Dt) ⊕ ((Dt))} (x4 : Int) (d : Dt) (hg : d GH 0 ≤ 6) (h : L_Mo_stand_y204 x4 d = some o) : Fr wo_Mo_stand [47, 48, 49] false d (hb_Mo_stand_204 o) := by
  have f0 : Fr wo_Mo_stand [47, 48, 49] false d d := Fr.rfl
  unfold L_Mo_stand_y204 at h
  rcases ite_some h with ⟨hc51_, h⟩ | ⟨hc51_, h⟩
  · obtain ⟨hb52_, h⟩ := ck_some h
    obtain ⟨v53_, ev54_, h⟩ := lt_some h
    obtain ⟨x56_, hx57_, h⟩ := lb_some h
    have fx56_ := Fr.tr0 (Fr.upa f0 rfl (by decide)) (fr_Mo_stand_l227 x4 v53_ (up2 d 49 x4.toNat 0) (Fr.g (Fr.upa f0 rfl (by decide)) hg) hx57_)
    obtain ⟨v58_, d59_⟩ := x56_
    have fd59_ : Fr wo_Mo_stand [47, 48, 49] false d d59_ := fx56_
    replace h := u1_e h
    obtain rfl := Option.some.inj h
    exact fd59_
  · obtain rfl := Option.some.inj h
    exact f0
theorem fr_Mo_stand_l204 {x : (Dt)} (x4 : Int) (d : Dt) (hg : d GH 0 ≤ 6) (h : L_Mo_stand_l204 x4 d = some x) : Fr wo_Mo_stand [47, 48, 49] false d (he_Mo_stand_204 x) :=
  lpF_fr (f := fun q : Int × Dt => L_Mo_stand_y204 q.1 q.2) (fun q => q.2) he_Mo_stand_204 (fun q x hq hx => ⟨fun q2 e2 => by subst e2; exact fr_Mo_stand_y204 q.1 q.2 hq hx, fun r2 e2 => by subst e2; exact fr_Mo_stand_y204 q.1 q.2 hq hx⟩) FU _ x hg h
theorem fr_Mo_stand_b108 {o : (Int × Int × Int × Int × Dt) ⊕ ((Int × Dt))} (x1 x2 x3 x4 : Int) (d : Dt) (hg : d GH 0 ≤ 6) (h : L_Mo_stand_b108 x1 x2 x3 x4 d = some o) : Fr wo_Mo_stand [47, 48, 49] false d (hb_Mo_stand_5 o) := by
  have f0 : Fr wo_Mo_stand [47, 48, 49] false d d := Fr.rfl
  unfold L_Mo_stand_b108 at h
  obtain rfl := Option.some.inj h
  exact f0
theorem fr_Mo_stand_b96 {o : (Int × Int × Int × Int × Dt) ⊕ ((Int × Dt))} (x1 x2 x3 x4 x5 : Int) (d : Dt) (hg : d GH 0 ≤ 6) (h : L_Mo_stand_b96 x1 x2 x3 x4 x5 d = some o) : Fr wo_Mo_stand [47, 48, 49] false d (hb_Mo_stand_5 o) := by
  have f0 : Fr wo_Mo_stand [47, 48, 49] false d d := Fr.rfl
  unfold L_Mo_stand_b96 at h
  obtain ⟨hb62_, h⟩ := ck_some h
  exact Fr.tr0 (Fr.upa f0 rfl (by decide)) (fr_Mo_stand_b108 x1 x2 (w32 (x3 + 1)) x4 (up2 d 48 x5.toNat x4) (Fr.g (Fr.upa f0 rfl (by decide)) hg) h)
theorem fr_Mo_stand_y5 {o : (Int × Int × Int × Int × Dt) ⊕ ((Int × Dt))} (x1 x2 x3 x4 : Int) (d : Dt) (hg : d GH 0 ≤ 6) (h : L_Mo_stand_y5 x1 x2 x3 x4 d = some o) : Fr wo_Mo_stand [47, 48, 49] false d (hb_Mo_stand_5 o) := by
  have f0 : Fr wo_Mo_stand [47, 48, 49] false d d := Fr.rfl
  unfold L_Mo_stand_y5 at h
  rcases ite_some h with ⟨hc64_, h⟩ | ⟨hc64_, h⟩
  · obtain ⟨hb65_, h⟩ := ck_some h
    rcases ite_some h with ⟨hc67_, h⟩ | ⟨hc67_, h⟩
    · exact Fr.tr0 f0 (fr_Mo_stand_b108 x1 x2 x3 x4 d (Fr.g f0 hg) h)
    · obtain ⟨hb68_, h⟩ := ck_some h
      rcases ite_some h with ⟨hc70_, h⟩ | ⟨hc70_, h⟩
      · exact Fr.tr0 f0 (fr_Mo_stand_b108 x1 x2 x3 x4 d (Fr.g f0 hg) h)
      · obtain ⟨x71_, hx72_, h⟩ := lb_some h
        have fx71_ := Fr.tr0 f0 (fr_Mo_stand_l45 x1 x2 x3 x4 x3 d (Fr.g f0 hg) hx72_)
        obtain ⟨v73_, v74_, v75_, v76_, v77_, d78_⟩ := x71_
        have fd78_ : Fr wo_Mo_stand [47, 48, 49] false d d78_ := fx71_
        replace h := u5_e h
        exact Fr.tr0 fd78_ (fr_Mo_stand_b96 v73_ v74_ v75_ v76_ v77_ d78_ (Fr.g fd78_ hg) h)
  · obtain rfl := Option.some.inj h
    exact f0
theorem fr_Mo_stand_l5 {x : (Int × Dt)} (x1 x2 x3 x4 : Int) (d : Dt) (hg : d GH 0 ≤ 6) (h : L_Mo_stand_l5 x1 x2 x3 x4 d = some x) : Fr wo_Mo_stand [47, 48, 49] false d (he_Mo_stand_5 x) :=
  lpF_fr (f := fun q : Int × Int × Int × Int × Dt => L_Mo_stand_y5 q.1 q.2.1 q.2.2.1 q.2.2.2.1 q.2.2.2.2) (fun q => q.2.2.2.2) he_Mo_stand_5 (fun q x hq hx => ⟨fun q2 e2 => by subst e2; exact fr_Mo_stand_y5 q.1 q.2.1 q.2.2.1 q.2.2.2.1 q.2.2.2.2 hq hx, fun r2 e2 => by subst e2; exact fr_Mo_stand_y5 q.1 q.2.1 q.2.2.1 q.2.2.2.1 q.2.2.2.2 hq hx⟩) FU _ x hg h
theorem fr_Mo_stand {r : Int} {d' : Dt} (p1 p2 : Int) (d : Dt) (hg : d GH 0 ≤ 6) (h : L_Mo_stand p1 p2 d = some (r, d')) : Fr wo_Mo_stand [47, 48, 49] false d d' := by
  have f0 : Fr wo_Mo_stand [47, 48, 49] false d d := Fr.rfl
  unfold L_Mo_stand at h
  obtain ⟨x81_, hx82_, h⟩ := lb_some h
  have fx81_ := Fr.tr0 f0 (fr_Mo_stand_l5 p1 p2 0 0 d (Fr.g f0 hg) hx82_)
  obtain ⟨v83_, d84_⟩ := x81_
  have fd84_ : Fr wo_Mo_stand [47, 48, 49] false d d84_ := fx81_
  replace h := u1_e h
  obtain ⟨x86_, hx87_, h⟩ := lb_some h
  have fx86_ := Fr.tr0 (Fr.upo fd84_ rfl (by decide)) (fr_Mo_stand_l122 v83_ 0 (up2 d84_ 0 68 0) (Fr.g (Fr.upo fd84_ rfl (by decide)) hg) hx87_)
  obtain ⟨d88_, rfl⟩ : ∃ z, z = x86_ := ⟨_, rfl⟩
  have fd88_ : Fr wo_Mo_stand [47, 48, 49] false d d88_ := fx86_
  replace h := u0_e h
  obtain ⟨x90_, hx91_, h⟩ := lb_some h
  have fx90_ := Fr.tr0 fd88_ (fr_Mo_stand_l204 0 d88_ (Fr.g fd88_ hg) hx91_)
  obtain ⟨d92_, rfl⟩ : ∃ z, z = x90_ := ⟨_, rfl⟩
  have fd92_ : Fr wo_Mo_stand [47, 48, 49] false d d92_ := fx90_
  replace h := u0_e h
  obtain ⟨rfl, rfl⟩ := ret_inj h
  exact fd92_
/-! frames of Mo_rules -/
def wo_Mo_rules : List (Nat × Nat) := [(0, 0), (0, 68)]
theorem fr_Mo_rules_b14 {r : Int} {d' : Dt} (d : Dt) (hg : d GH 0 ≤ 6) (h : L_Mo_rules_b14 d = some (r, d')) : Fr wo_Mo_rules [47, 48, 49] false d d' := by
  have f0 : Fr wo_Mo_rules [47, 48, 49] false d d := Fr.rfl
  unfold L_Mo_rules_b14 at h
  obtain ⟨r2_, d1_, hr3_, h⟩ := bd_some h
  have fd1_ : Fr wo_Mo_rules [47, 48, 49] false d d1_ := Fr.tr f0 (fr_Mo_refuse 1 d (Fr.g f0 hg) hr3_) (by decide) (by decide) (by decide)
  obtain ⟨rfl, rfl⟩ := ret_inj h
  exact fd1_
theorem fr_Mo_rules {r : Int} {d' : Dt} (p1 p2 : Int) (d : Dt) (hg : d GH 0 ≤ 6) (h : L_Mo_rules p1 p2 d = some (r, d')) : Fr wo_Mo_rules [47, 48, 49] false d d' := by
  have f0 : Fr wo_Mo_rules [47, 48, 49] false d d := Fr.rfl
  unfold L_Mo_rules at h
  obtain ⟨r6_, d5_, hr7_, h⟩ := bd_some h
  have fd5_ : Fr wo_Mo_rules [47, 48, 49] false d d5_ := Fr.tr f0 (fr_Mo_isPlace p1 d (Fr.g f0 hg) hr7_) (by decide) (by decide) (by decide)
  rcases ite_some h with ⟨hc9_, h⟩ | ⟨hc9_, h⟩
  · exact Fr.tr0 fd5_ (fr_Mo_rules_b14  d5_ (Fr.g fd5_ hg) h)
  · obtain ⟨r11_, d10_, hr12_, h⟩ := bd_some h
    have fd10_ : Fr wo_Mo_rules [47, 48, 49] false d d10_ := Fr.tr fd5_ (fr_Mo_isDay p2 d5_ (Fr.g fd5_ hg) hr12_) (by decide) (by decide) (by decide)
    rcases ite_some h with ⟨hc14_, h⟩ | ⟨hc14_, h⟩
    · exact Fr.tr0 fd10_ (fr_Mo_rules_b14  d10_ (Fr.g fd10_ hg) h)
    · obtain ⟨r16_, d15_, hr17_, h⟩ := bd_some h
      have fd15_ : Fr wo_Mo_rules [47, 48, 49] false d d15_ := Fr.tr fd10_ (fr_Mo_stand p1 p2 d10_ (Fr.g fd10_ hg) hr17_) (by decide) (by decide) (by decide)
      obtain ⟨r21_, d20_, hr22_, h⟩ := bd_some h
      have fd20_ : Fr wo_Mo_rules [47, 48, 49] false d d20_ := Fr.tr fd15_ (fr_Mo_gives (d15_ 0 68) d15_ (Fr.g fd15_ hg) hr22_) (by decide) (by decide) (by decide)
      obtain ⟨rfl, rfl⟩ := ret_inj h
      exact fd20_
/-! frames of Mo_struck -/
def wo_Mo_struck : List (Nat × Nat) := [(0, 0), (0, 68)]
theorem fr_Mo_struck_b14 {r : Int} {d' : Dt} (d : Dt) (hg : d GH 0 ≤ 6) (h : L_Mo_struck_b14 d = some (r, d')) : Fr wo_Mo_struck [47, 48, 49] false d d' := by
  have f0 : Fr wo_Mo_struck [47, 48, 49] false d d := Fr.rfl
  unfold L_Mo_struck_b14 at h
  obtain ⟨r2_, d1_, hr3_, h⟩ := bd_some h
  have fd1_ : Fr wo_Mo_struck [47, 48, 49] false d d1_ := Fr.tr f0 (fr_Mo_refuse 1 d (Fr.g f0 hg) hr3_) (by decide) (by decide) (by decide)
  obtain ⟨rfl, rfl⟩ := ret_inj h
  exact fd1_
theorem fr_Mo_struck_b38 {r : Int} {d' : Dt} (d : Dt) (hg : d GH 0 ≤ 6) (h : L_Mo_struck_b38 d = some (r, d')) : Fr wo_Mo_struck [47, 48, 49] false d d' := by
  have f0 : Fr wo_Mo_struck [47, 48, 49] false d d := Fr.rfl
  unfold L_Mo_struck_b38 at h
  obtain ⟨r6_, d5_, hr7_, h⟩ := bd_some h
  have fd5_ : Fr wo_Mo_struck [47, 48, 49] false d d5_ := Fr.tr f0 (fr_Mo_refuse 1 d (Fr.g f0 hg) hr7_) (by decide) (by decide) (by decide)
  obtain ⟨rfl, rfl⟩ := ret_inj h
  exact fd5_
theorem fr_Mo_struck_b61 {r : Int} {d' : Dt} (s1 : Int) (d : Dt) (hg : d GH 0 ≤ 6) (h : L_Mo_struck_b61 s1 d = some (r, d')) : Fr wo_Mo_struck [47, 48, 49] false d d' := by
  have f0 : Fr wo_Mo_struck [47, 48, 49] false d d := Fr.rfl
  unfold L_Mo_struck_b61 at h
  obtain ⟨r10_, d9_, hr11_, h⟩ := bd_some h
  have fd9_ : Fr wo_Mo_struck [47, 48, 49] false d d9_ := Fr.tr f0 (fr_Mo_gives s1 d (Fr.g f0 hg) hr11_) (by decide) (by decide) (by decide)
  obtain ⟨rfl, rfl⟩ := ret_inj h
  exact fd9_
theorem fr_Mo_struck {r : Int} {d' : Dt} (p1 p2 p3 : Int) (d : Dt) (hg : d GH 0 ≤ 6) (h : L_Mo_struck p1 p2 p3 d = some (r, d')) : Fr wo_Mo_struck [47, 48, 49] false d d' := by
  have f0 : Fr wo_Mo_struck [47, 48, 49] false d d := Fr.rfl
  unfold L_Mo_struck at h
  obtain ⟨r14_, d13_, hr15_, h⟩ := bd_some h
  have fd13_ : Fr wo_Mo_struck [47, 48, 49] false d d13_ := Fr.tr f0 (fr_Mo_isPlace p1 d (Fr.g f0 hg) hr15_) (by decide) (by decide) (by decide)
  rcases ite_some h with ⟨hc17_, h⟩ | ⟨hc17_, h⟩
  · exact Fr.tr0 fd13_ (fr_Mo_struck_b14  d13_ (Fr.g fd13_ hg) h)
  · obtain ⟨r19_, d18_, hr20_, h⟩ := bd_some h
    have fd18_ : Fr wo_Mo_struck [47, 48, 49] false d d18_ := Fr.tr fd13_ (fr_Mo_isDay p2 d13_ (Fr.g fd13_ hg) hr20_) (by decide) (by decide) (by decide)
    rcases ite_some h with ⟨hc22_, h⟩ | ⟨hc22_, h⟩
    · exact Fr.tr0 fd18_ (fr_Mo_struck_b14  d18_ (Fr.g fd18_ hg) h)
    · obtain ⟨r24_, d23_, hr25_, h⟩ := bd_some h
      have fd23_ : Fr wo_Mo_struck [47, 48, 49] false d d23_ := Fr.tr fd18_ (fr_Mo_stand p1 p2 d18_ (Fr.g fd18_ hg) hr25_) (by decide) (by decide) (by decide)
      rcases ite_some h with ⟨hc27_, h⟩ | ⟨hc27_, h⟩
      · exact Fr.tr0 fd23_ (fr_Mo_struck_b38  d23_ (Fr.g fd23_ hg) h)
      · rcases ite_some h with ⟨hc29_, h⟩ | ⟨hc29_, h⟩
        · obtain ⟨hb30_, h⟩ := ck_some h
          rcases ite_some h with ⟨hc32_, h⟩ | ⟨hc32_, h⟩
          · exact Fr.tr0 fd23_ (fr_Mo_struck_b61 0 d23_ (Fr.g fd23_ hg) h)
          · exact Fr.tr0 fd23_ (fr_Mo_struck_b61 1 d23_ (Fr.g fd23_ hg) h)
        · exact Fr.tr0 fd23_ (fr_Mo_struck_b38  d23_ (Fr.g fd23_ hg) h)
/-! frames of Mo_isMinute -/
def wo_Mo_isMinute : List (Nat × Nat) := []
theorem fr_Mo_isMinute {r : Int} {d' : Dt} (p1 : Int) (d : Dt) (hg : d GH 0 ≤ 6) (h : L_Mo_isMinute p1 d = some (r, d')) : Fr wo_Mo_isMinute [] false d d' := by
  have f0 : Fr wo_Mo_isMinute [] false d d := Fr.rfl
  unfold L_Mo_isMinute at h
  rcases ite_some h with ⟨hc1_, h⟩ | ⟨hc1_, h⟩
  · obtain ⟨rfl, rfl⟩ := ret_inj h
    exact f0
  · rcases ite_some h with ⟨hc2_, h⟩ | ⟨hc2_, h⟩
    · obtain ⟨rfl, rfl⟩ := ret_inj h
      exact f0
    · obtain ⟨rfl, rfl⟩ := ret_inj h
      exact f0
/-! frames of Mo_isAsked -/
def wo_Mo_isAsked : List (Nat × Nat) := []
theorem fr_Mo_isAsked {r : Int} {d' : Dt} (p1 p2 p3 p4 : Int) (d : Dt) (hg : d GH 0 ≤ 6) (h : L_Mo_isAsked p1 p2 p3 p4 d = some (r, d')) : Fr wo_Mo_isAsked [] false d d' := by
  have f0 : Fr wo_Mo_isAsked [] false d d := Fr.rfl
  unfold L_Mo_isAsked at h
  obtain ⟨r2_, d1_, hr3_, h⟩ := bd_some h
  have fd1_ : Fr wo_Mo_isAsked [] false d d1_ := Fr.tr f0 (fr_Mo_isPerson p1 d (Fr.g f0 hg) hr3_) (by decide) (by decide) (by decide)
  rcases ite_some h with ⟨hc5_, h⟩ | ⟨hc5_, h⟩
  · obtain ⟨rfl, rfl⟩ := ret_inj h
    exact fd1_
  · obtain ⟨r7_, d6_, hr8_, h⟩ := bd_some h
    have fd6_ : Fr wo_Mo_isAsked [] false d d6_ := Fr.tr fd1_ (fr_Mo_isPlace p2 d1_ (Fr.g fd1_ hg) hr8_) (by decide) (by decide) (by decide)
    rcases ite_some h with ⟨hc10_, h⟩ | ⟨hc10_, h⟩
    · obtain ⟨rfl, rfl⟩ := ret_inj h
      exact fd6_
    · obtain ⟨r12_, d11_, hr13_, h⟩ := bd_some h
      have fd11_ : Fr wo_Mo_isAsked [] false d d11_ := Fr.tr fd6_ (fr_Mo_isDay p3 d6_ (Fr.g fd6_ hg) hr13_) (by decide) (by decide) (by decide)
      rcases ite_some h with ⟨hc15_, h⟩ | ⟨hc15_, h⟩
      · obtain ⟨rfl, rfl⟩ := ret_inj h
        exact fd11_
      · obtain ⟨r17_, d16_, hr18_, h⟩ := bd_some h
        have fd16_ : Fr wo_Mo_isAsked [] false d d16_ := Fr.tr fd11_ (fr_Mo_isMinute p4 d11_ (Fr.g fd11_ hg) hr18_) (by decide) (by decide) (by decide)
        rcases ite_some h with ⟨hc20_, h⟩ | ⟨hc20_, h⟩
        · obtain ⟨rfl, rfl⟩ := ret_inj h
          exact fd16_
        · obtain ⟨rfl, rfl⟩ := ret_inj h
          exact fd16_
/-! frames of Mo_ask -/
def wo_Mo_ask : List (Nat × Nat) := [(0, 68)]
def he_Mo_ask_3 (q : (Int × Int × Int × Dt)) : Dt := q.2.2.2
def hb_Mo_ask_3 (o : (Int × Int × Int × Int × Int × Dt) ⊕ ((Int × Int × Int × Dt))) : Dt := match o with
  | .inl q => q.2.2.2.2.2
  | .inr r => he_Mo_ask_3 r
theorem fr_Mo_ask_y3 {o : (Int × Int × Int × Int × Int × Dt) ⊕ ((Int × Int × Int × Dt))} (x1 x2 x3 x4 x5 : Int) (d : Dt) (hg : d GH 0 ≤ 6) (h : L_Mo_ask_y3 x1 x2 x3 x4 x5 d = some o) : Fr wo_Mo_ask [47, 48, 49, 50] false d (hb_Mo_ask_3 o) := by
  have f0 : Fr wo_Mo_ask [47, 48, 49, 50] false d d := Fr.rfl
  unfold L_Mo_ask_y3 at h
  rcases ite_some h with ⟨hc1_, h⟩ | ⟨hc1_, h⟩
  · obtain ⟨r3_, d2_, hr4_, h⟩ := bd_some h
    have fd2_ : Fr wo_Mo_ask [47, 48, 49, 50] false d d2_ := Fr.tr f0 (fr_Mo_factOf x1 x2 x3 x5 d (Fr.g f0 hg) hr4_) (by decide) (by decide) (by decide)
    obtain ⟨hb6_, h⟩ := ck_some h
    obtain rfl := Option.some.inj h
    exact (Fr.upa fd2_ rfl (by decide))
  · obtain rfl := Option.some.inj h
    exact f0
theorem fr_Mo_ask_l3 {x : (Int × Int × Int × Dt)} (x1 x2 x3 x4 x5 : Int) (d : Dt) (hg : d GH 0 ≤ 6) (h : L_Mo_ask_l3 x1 x2 x3 x4 x5 d = some x) : Fr wo_Mo_ask [47, 48, 49, 50] false d (he_Mo_ask_3 x) :=
  lpF_fr (f := fun q : Int × Int × Int × Int × Int × Dt => L_Mo_ask_y3 q.1 q.2.1 q.2.2.1 q.2.2.2.1 q.2.2.2.2.1 q.2.2.2.2.2) (fun q => q.2.2.2.2.2) he_Mo_ask_3 (fun q x hq hx => ⟨fun q2 e2 => by subst e2; exact fr_Mo_ask_y3 q.1 q.2.1 q.2.2.1 q.2.2.2.1 q.2.2.2.2.1 q.2.2.2.2.2 hq hx, fun r2 e2 => by subst e2; exact fr_Mo_ask_y3 q.1 q.2.1 q.2.2.1 q.2.2.2.1 q.2.2.2.2.1 q.2.2.2.2.2 hq hx⟩) FU _ x hg h
theorem fr_Mo_ask {r : Int} {d' : Dt} (p1 p2 p3 p4 : Int) (d : Dt) (hg : d GH 0 ≤ 6) (h : L_Mo_ask p1 p2 p3 p4 d = some (r, d')) : Fr wo_Mo_ask [47, 48, 49, 50] false d d' := by
  have f0 : Fr wo_Mo_ask [47, 48, 49, 50] false d d := Fr.rfl
  unfold L_Mo_ask at h
  obtain ⟨x7_, hx8_, h⟩ := lb_some h
  have fx7_ := Fr.tr0 f0 (fr_Mo_ask_l3 p1 p2 p3 p4 0 d (Fr.g f0 hg) hx8_)
  obtain ⟨v9_, v10_, v11_, d12_⟩ := x7_
  have fd12_ : Fr wo_Mo_ask [47, 48, 49, 50] false d d12_ := fx7_
  replace h := u3_e h
  obtain ⟨r15_, d14_, hr16_, h⟩ := bd_some h
  have fd14_ : Fr wo_Mo_ask [47, 48, 49, 50] false d d14_ := Fr.tr (Fr.upa (Fr.upa fd12_ rfl (by decide)) rfl (by decide)) (fr_Mo_stand v9_ v10_ (up2 (up2 d12_ 50 7 v11_) 50 8 v10_) (Fr.g (Fr.upa (Fr.upa fd12_ rfl (by decide)) rfl (by decide)) hg) hr16_) (by decide) (by decide) (by decide)
  obtain ⟨rfl, rfl⟩ := ret_inj h
  exact fd14_
/-! frames of Mo_lastOf -/
def wo_Mo_lastOf : List (Nat × Nat) := []
def he_Mo_lastOf_4 (q : (Int × Dt)) : Dt := q.2
def hb_Mo_lastOf_4 (o : (Int × Int × Int × Dt) ⊕ ((Int × Dt))) : Dt := match o with
  | .inl q => q.2.2.2
  | .inr r => he_Mo_lastOf_4 r
theorem fr_Mo_lastOf_b38 {o : (Int × Int × Int × Dt) ⊕ ((Int × Dt))} (x1 x2 x3 : Int) (d : Dt) (hg : d GH 0 ≤ 6) (h : L_Mo_lastOf_b38 x1 x2 x3 d = some o) : Fr wo_Mo_lastOf [] false d (hb_Mo_lastOf_4 o) := by
  have f0 : Fr wo_Mo_lastOf [] false d d := Fr.rfl
  unfold L_Mo_lastOf_b38 at h
  obtain rfl := Option.some.inj h
  exact f0
theorem fr_Mo_lastOf_y4 {o : (Int × Int × Int × Dt) ⊕ ((Int × Dt))} (x1 x2 x3 : Int) (d : Dt) (hg : d GH 0 ≤ 6) (h : L_Mo_lastOf_y4 x1 x2 x3 d = some o) : Fr wo_Mo_lastOf [] false d (hb_Mo_lastOf_4 o) := by
  have f0 : Fr wo_Mo_lastOf [] false d d := Fr.rfl
  unfold L_Mo_lastOf_y4 at h
  rcases ite_some h with ⟨hc2_, h⟩ | ⟨hc2_, h⟩
  · obtain ⟨hb3_, h⟩ := ck_some h
    rcases ite_some h with ⟨hc5_, h⟩ | ⟨hc5_, h⟩
    · obtain ⟨hb6_, h⟩ := ck_some h
      obtain ⟨hb8_, h⟩ := ck_some h
      rcases ite_some h with ⟨hc10_, h⟩ | ⟨hc10_, h⟩
      · exact Fr.tr0 f0 (fr_Mo_lastOf_b38 x1 x3 x3 d (Fr.g f0 hg) h)
      · exact Fr.tr0 f0 (fr_Mo_lastOf_b38 x1 x2 x3 d (Fr.g f0 hg) h)
    · exact Fr.tr0 f0 (fr_Mo_lastOf_b38 x1 x2 x3 d (Fr.g f0 hg) h)
  · obtain rfl := Option.some.inj h
    exact f0
theorem fr_Mo_lastOf_l4 {x : (Int × Dt)} (x1 x2 x3 : Int) (d : Dt) (hg : d GH 0 ≤ 6) (h : L_Mo_lastOf_l4 x1 x2 x3 d = some x) : Fr wo_Mo_lastOf [] false d (he_Mo_lastOf_4 x) :=
  lpF_fr (f := fun q : Int × Int × Int × Dt => L_Mo_lastOf_y4 q.1 q.2.1 q.2.2.1 q.2.2.2) (fun q => q.2.2.2) he_Mo_lastOf_4 (fun q x hq hx => ⟨fun q2 e2 => by subst e2; exact fr_Mo_lastOf_y4 q.1 q.2.1 q.2.2.1 q.2.2.2 hq hx, fun r2 e2 => by subst e2; exact fr_Mo_lastOf_y4 q.1 q.2.1 q.2.2.1 q.2.2.2 hq hx⟩) FU _ x hg h
theorem fr_Mo_lastOf {r : Int} {d' : Dt} (p1 : Int) (d : Dt) (hg : d GH 0 ≤ 6) (h : L_Mo_lastOf p1 d = some (r, d')) : Fr wo_Mo_lastOf [] false d d' := by
  have f0 : Fr wo_Mo_lastOf [] false d d := Fr.rfl
  unfold L_Mo_lastOf at h
  obtain ⟨x11_, hx12_, h⟩ := lb_some h
  have fx11_ := Fr.tr0 f0 (fr_Mo_lastOf_l4 p1 (-1) 0 d (Fr.g f0 hg) hx12_)
  obtain ⟨v13_, d14_⟩ := x11_
  have fd14_ : Fr wo_Mo_lastOf [] false d d14_ := fx11_
  replace h := u1_e h
  obtain ⟨rfl, rfl⟩ := ret_inj h
  exact fd14_
/-! frames of Mo_work -/
def wo_Mo_work : List (Nat × Nat) := []
def he_Mo_work_5 (q : (Dt)) : Dt := q
def hb_Mo_work_5 (o : (Int × Int × Int × Dt) ⊕ ((Dt))) : Dt := match o with
  | .inl q => q.2.2.2
  | .inr r => he_Mo_work_5 r
theorem fr_Mo_work_b132 {o : (Int × Int × Int × Dt) ⊕ ((Dt))} (x2 x3 x4 : Int) (d : Dt) (hg : d GH 0 ≤ 6) (h : L_Mo_work_b132 x2 x3 x4 d = some o) : Fr wo_Mo_work [51] false d (hb_Mo_work_5 o) := by
  have f0 : Fr wo_Mo_work [51] false d d := Fr.rfl
  unfold L_Mo_work_b132 at h
  obtain rfl := Option.some.inj h
  exact f0
theorem fr_Mo_work_b131 {o : (Int × Int × Int × Dt) ⊕ ((Dt))} (x2 x3 x4 s1 s2 : Int) (d : Dt) (hg : d GH 0 ≤ 6) (h : L_Mo_work_b131 x2 x3 x4 s1 s2 d = some o) : Fr wo_Mo_work [51] false d (hb_Mo_work_5 o) := by
  have f0 : Fr wo_Mo_work [51] false d d := Fr.rfl
  unfold L_Mo_work_b131 at h
  obtain ⟨hb1_, h⟩ := ck_some h
  exact Fr.tr0 (Fr.upa f0 rfl (by decide)) (fr_Mo_work_b132 x2 x3 x4 (up2 d 51 s1.toNat s2) (Fr.g (Fr.upa f0 rfl (by decide)) hg) h)
theorem fr_Mo_work_b59 {o : (Int × Int × Int × Dt) ⊕ ((Dt))} (x2 x3 x4 s1 s2 : Int) (d : Dt) (hg : d GH 0 ≤ 6) (h : L_Mo_work_b59 x2 x3 x4 s1 s2 d = some o) : Fr wo_Mo_work [51] false d (hb_Mo_work_5 o) := by
  have f0 : Fr wo_Mo_work [51] false d d := Fr.rfl
  unfold L_Mo_work_b59 at h
  obtain ⟨hb2_, h⟩ := ck_some h
  exact Fr.tr0 (Fr.upa f0 rfl (by decide)) (fr_Mo_work_b132 x2 (w32 (x3 + 1)) x4 (up2 d 51 s1.toNat s2) (Fr.g (Fr.upa f0 rfl (by decide)) hg) h)
theorem fr_Mo_work_y5 {o : (Int × Int × Int × Dt) ⊕ ((Dt))} (x2 x3 x4 : Int) (d : Dt) (hg : d GH 0 ≤ 6) (h : L_Mo_work_y5 x2 x3 x4 d = some o) : Fr wo_Mo_work [51] false d (hb_Mo_work_5 o) := by
  have f0 : Fr wo_Mo_work [51] false d d := Fr.rfl
  unfold L_Mo_work_y5 at h
  rcases ite_some h with ⟨hc3_, h⟩ | ⟨hc3_, h⟩
  · obtain ⟨hb4_, h⟩ := ck_some h
    obtain ⟨v6_, ev7_, h⟩ := lt_some h
    rcases ite_some h with ⟨hc9_, h⟩ | ⟨hc9_, h⟩
    · rcases ite_some h with ⟨hc10_, h⟩ | ⟨hc10_, h⟩
      · obtain ⟨hb11_, h⟩ := ck_some h
        exact Fr.tr0 f0 (fr_Mo_work_b59 x2 x3 x4 x3 (d 44 x4.toNat) d (Fr.g f0 hg) h)
      · obtain ⟨hb13_, h⟩ := ck_some h
        obtain ⟨hb15_, h⟩ := ck_some h
        exact Fr.tr0 f0 (fr_Mo_work_b59 x2 x3 x4 x3 (d 50 ((d 44 x4.toNat)).toNat) d (Fr.g f0 hg) h)
    · obtain ⟨hb17_, h⟩ := ck_some h
      obtain ⟨v19_, ev20_, h⟩ := lt_some h
      obtain ⟨hb22_, h⟩ := ck_some h
      obtain ⟨v24_, ev25_, h⟩ := lt_some h
      rcases ite_some h with ⟨hc27_, h⟩ | ⟨hc27_, h⟩
      · exact Fr.tr0 f0 (fr_Mo_work_b131 x2 (w32 (x3 + (-1))) x4 (w32 ((w32 (x3 + (-1))) - 1)) (w64 (v19_ + v24_)) d (Fr.g f0 hg) h)
      · rcases ite_some h with ⟨hc28_, h⟩ | ⟨hc28_, h⟩
        · exact Fr.tr0 f0 (fr_Mo_work_b131 x2 (w32 (x3 + (-1))) x4 (w32 ((w32 (x3 + (-1))) - 1)) (w64 (v19_ - v24_)) d (Fr.g f0 hg) h)
        · exact Fr.tr0 f0 (fr_Mo_work_b131 x2 (w32 (x3 + (-1))) x4 (w32 ((w32 (x3 + (-1))) - 1)) (w64 (v19_ * v24_)) d (Fr.g f0 hg) h)
  · obtain rfl := Option.some.inj h
    exact f0
theorem fr_Mo_work_l5 {x : (Dt)} (x2 x3 x4 : Int) (d : Dt) (hg : d GH 0 ≤ 6) (h : L_Mo_work_l5 x2 x3 x4 d = some x) : Fr wo_Mo_work [51] false d (he_Mo_work_5 x) :=
  lpF_fr (f := fun q : Int × Int × Int × Dt => L_Mo_work_y5 q.1 q.2.1 q.2.2.1 q.2.2.2) (fun q => q.2.2.2) he_Mo_work_5 (fun q x hq hx => ⟨fun q2 e2 => by subst e2; exact fr_Mo_work_y5 q.1 q.2.1 q.2.2.1 q.2.2.2 hq hx, fun r2 e2 => by subst e2; exact fr_Mo_work_y5 q.1 q.2.1 q.2.2.1 q.2.2.2 hq hx⟩) FU _ x hg h
theorem fr_Mo_work {r : Int} {d' : Dt} (p1 p2 : Int) (d : Dt) (hg : d GH 0 ≤ 6) (h : L_Mo_work p1 p2 d = some (r, d')) : Fr wo_Mo_work [51] false d d' := by
  have f0 : Fr wo_Mo_work [51] false d d := Fr.rfl
  unfold L_Mo_work at h
  obtain ⟨x29_, hx30_, h⟩ := lb_some h
  have fx29_ := Fr.tr0 f0 (fr_Mo_work_l5 p2 0 p1 d (Fr.g f0 hg) hx30_)
  obtain ⟨d31_, rfl⟩ : ∃ z, z = x29_ := ⟨_, rfl⟩
  have fd31_ : Fr wo_Mo_work [51] false d d31_ := fx29_
  replace h := u0_e h
  obtain ⟨rfl, rfl⟩ := ret_inj h
  exact fd31_
/-! frames of Mo_holds -/
def wo_Mo_holds : List (Nat × Nat) := []
def he_Mo_holds_5 (r : (Int × Dt) ⊕ (Dt)) : Dt := match r with
  | .inl q => q.2
  | .inr q => q
def hb_Mo_holds_5 (o : (Int × Int × Int × Int × Dt) ⊕ ((Int × Dt) ⊕ (Dt))) : Dt := match o with
  | .inl q => q.2.2.2.2
  | .inr r => he_Mo_holds_5 r
theorem fr_Mo_holds_b167 {o : (Int × Int × Int × Int × Dt) ⊕ ((Int × Dt) ⊕ (Dt))} (x1 x2 x4 s0 : Int) (d : Dt) (hg : d GH 0 ≤ 6) (h : L_Mo_holds_b167 x1 x2 x4 s0 d = some o) : Fr wo_Mo_holds [51] false d (hb_Mo_holds_5 o) := by
  have f0 : Fr wo_Mo_holds [51] false d d := Fr.rfl
  unfold L_Mo_holds_b167 at h
  obtain rfl := Option.some.inj h
  exact f0
theorem fr_Mo_holds_b144 {o : (Int × Int × Int × Int × Dt) ⊕ ((Int × Dt) ⊕ (Dt))} (x1 x2 x3 x4 s0 : Int) (d : Dt) (hg : d GH 0 ≤ 6) (h : L_Mo_holds_b144 x1 x2 x3 x4 s0 d = some o) : Fr wo_Mo_holds [51] false d (hb_Mo_holds_5 o) := by
  have f0 : Fr wo_Mo_holds [51] false d d := Fr.rfl
  unfold L_Mo_holds_b144 at h
  rcases ite_some h with ⟨hc1_, h⟩ | ⟨hc1_, h⟩
  · exact Fr.tr0 f0 (fr_Mo_holds_b167 x1 x2 x4 0 d (Fr.g f0 hg) h)
  · obtain ⟨hb2_, h⟩ := ck_some h
    rcases ite_some h with ⟨hc4_, h⟩ | ⟨hc4_, h⟩
    · exact Fr.tr0 f0 (fr_Mo_holds_b167 x1 x2 x4 0 d (Fr.g f0 hg) h)
    · exact Fr.tr0 f0 (fr_Mo_holds_b167 x1 x2 x4 1 d (Fr.g f0 hg) h)
theorem fr_Mo_holds_b35 {o : (Int × Int × Int × Int × Dt) ⊕ ((Int × Dt) ⊕ (Dt))} (x1 x2 x3 x4 : Int) (d : Dt) (hg : d GH 0 ≤ 6) (h : L_Mo_holds_b35 x1 x2 x3 x4 d = some o) : Fr wo_Mo_holds [51] false d (hb_Mo_holds_5 o) := by
  have f0 : Fr wo_Mo_holds [51] false d d := Fr.rfl
  unfold L_Mo_holds_b35 at h
  obtain ⟨hb5_, h⟩ := ck_some h
  obtain ⟨hb7_, h⟩ := ck_some h
  obtain ⟨r10_, d9_, hr11_, h⟩ := bd_some h
  have fd9_ : Fr wo_Mo_holds [51] false d d9_ := Fr.tr f0 (fr_Mo_work (d 37 x4.toNat) (d 38 x4.toNat) d (Fr.g f0 hg) hr11_) (by decide) (by decide) (by decide)
  obtain ⟨hb13_, h⟩ := ck_some h
  obtain ⟨hb15_, h⟩ := ck_some h
  obtain ⟨r18_, d17_, hr19_, h⟩ := bd_some h
  have fd17_ : Fr wo_Mo_holds [51] false d d17_ := Fr.tr fd9_ (fr_Mo_work (d9_ 38 x4.toNat) (d9_ 39 x4.toNat) d9_ (Fr.g fd9_ hg) hr19_) (by decide) (by decide) (by decide)
  obtain ⟨hb21_, h⟩ := ck_some h
  rcases ite_some h with ⟨hc23_, h⟩ | ⟨hc23_, h⟩
  · rcases ite_some h with ⟨hc24_, h⟩ | ⟨hc24_, h⟩
    · exact Fr.tr0 fd17_ (fr_Mo_holds_b144 x1 x2 x3 x4 1 d17_ (Fr.g fd17_ hg) h)
    · exact Fr.tr0 fd17_ (fr_Mo_holds_b144 x1 x2 x3 x4 0 d17_ (Fr.g fd17_ hg) h)
  · obtain ⟨hb25_, h⟩ := ck_some h
    rcases ite_some h with ⟨hc27_, h⟩ | ⟨hc27_, h⟩
    · rcases ite_some h with ⟨hc28_, h⟩ | ⟨hc28_, h⟩
      · exact Fr.tr0 fd17_ (fr_Mo_holds_b144 x1 x2 x3 x4 1 d17_ (Fr.g fd17_ hg) h)
      · exact Fr.tr0 fd17_ (fr_Mo_holds_b144 x1 x2 x3 x4 0 d17_ (Fr.g fd17_ hg) h)
    · rcases ite_some h with ⟨hc29_, h⟩ | ⟨hc29_, h⟩
      · exact Fr.tr0 fd17_ (fr_Mo_holds_b144 x1 x2 x3 x4 1 d17_ (Fr.g fd17_ hg) h)
      · exact Fr.tr0 fd17_ (fr_Mo_holds_b144 x1 x2 x3 x4 0 d17_ (Fr.g fd17_ hg) h)
theorem fr_Mo_holds_y5 {o : (Int × Int × Int × Int × Dt) ⊕ ((Int × Dt) ⊕ (Dt))} (x1 x2 x3 x4 : Int) (d : Dt) (hg : d GH 0 ≤ 6) (h : L_Mo_holds_y5 x1 x2 x3 x4 d = some o) : Fr wo_Mo_holds [51] false d (hb_Mo_holds_5 o) := by
  have f0 : Fr wo_Mo_holds [51] false d d := Fr.rfl
  unfold L_Mo_holds_y5 at h
  rcases ite_some h with ⟨hc30_, h⟩ | ⟨hc30_, h⟩
  · obtain ⟨hb31_, h⟩ := ck_some h
    rcases ite_some h with ⟨hc33_, h⟩ | ⟨hc33_, h⟩
    · exact Fr.tr0 f0 (fr_Mo_holds_b35 x1 x2 x3 x4 d (Fr.g f0 hg) h)
    · rcases ite_some h with ⟨hc34_, h⟩ | ⟨hc34_, h⟩
      · rcases ite_some h with ⟨hc35_, h⟩ | ⟨hc35_, h⟩
        · exact Fr.tr0 f0 (fr_Mo_holds_b35 x1 x2 1 x4 d (Fr.g f0 hg) h)
        · obtain rfl := Option.some.inj h
          exact f0
      · exact Fr.tr0 f0 (fr_Mo_holds_b35 x1 x2 x3 x4 d (Fr.g f0 hg) h)
  · obtain rfl := Option.some.inj h
    exact f0
theorem fr_Mo_holds_l5 {x : (Int × Dt) ⊕ (Dt)} (x1 x2 x3 x4 : Int) (d : Dt) (hg : d GH 0 ≤ 6) (h : L_Mo_holds_l5 x1 x2 x3 x4 d = some x) : Fr wo_Mo_holds [51] false d (he_Mo_holds_5 x) :=
  lpF_fr (f := fun q : Int × Int × Int × Int × Dt => L_Mo_holds_y5 q.1 q.2.1 q.2.2.1 q.2.2.2.1 q.2.2.2.2) (fun q => q.2.2.2.2) he_Mo_holds_5 (fun q x hq hx => ⟨fun q2 e2 => by subst e2; exact fr_Mo_holds_y5 q.1 q.2.1 q.2.2.1 q.2.2.2.1 q.2.2.2.2 hq hx, fun r2 e2 => by subst e2; exact fr_Mo_holds_y5 q.1 q.2.1 q.2.2.1 q.2.2.2.1 q.2.2.2.2 hq hx⟩) FU _ x hg h
theorem fr_Mo_holds {r : Int} {d' : Dt} (p1 p2 : Int) (d : Dt) (hg : d GH 0 ≤ 6) (h : L_Mo_holds p1 p2 d = some (r, d')) : Fr wo_Mo_holds [51] false d d' := by
  have f0 : Fr wo_Mo_holds [51] false d d := Fr.rfl
  unfold L_Mo_holds at h
  obtain ⟨x36_, hx37_, h⟩ := lb_some h
  have fx36_ := Fr.tr0 f0 (fr_Mo_holds_l5 p1 p2 1 p1 d (Fr.g f0 hg) hx37_)
  rcases x36_ with ⟨v38_, d39_⟩ | d41_
  · have fd39_ : Fr wo_Mo_holds [51] false d d39_ := fx36_
    replace h := sml_e h
    replace h := u1_e h
    obtain ⟨rfl, rfl⟩ := ret_inj h
    exact fd39_
  · have fd41_ : Fr wo_Mo_holds [51] false d d41_ := fx36_
    replace h := smr_e h
    replace h := u0_e h
    obtain ⟨rfl, rfl⟩ := ret_inj h
    exact fd41_
/-! frames of Mo_doesHold -/
def wo_Mo_doesHold : List (Nat × Nat) := []
theorem fr_Mo_doesHold {r : Int} {d' : Dt} (p1 : Int) (d : Dt) (hg : d GH 0 ≤ 6) (h : L_Mo_doesHold p1 d = some (r, d')) : Fr wo_Mo_doesHold [51] false d d' := by
  have f0 : Fr wo_Mo_doesHold [51] false d d := Fr.rfl
  unfold L_Mo_doesHold at h
  obtain ⟨hb1_, h⟩ := ck_some h
  obtain ⟨hb3_, h⟩ := ck_some h
  obtain ⟨r6_, d5_, hr7_, h⟩ := bd_some h
  have fd5_ : Fr wo_Mo_doesHold [51] false d d5_ := Fr.tr f0 (fr_Mo_holds (d 32 p1.toNat) (d 33 p1.toNat) d (Fr.g f0 hg) hr7_) (by decide) (by decide) (by decide)
  rcases ite_some h with ⟨hc9_, h⟩ | ⟨hc9_, h⟩
  · obtain ⟨rfl, rfl⟩ := ret_inj h
    exact fd5_
  · obtain ⟨hb10_, h⟩ := ck_some h
    obtain ⟨hb12_, h⟩ := ck_some h
    rcases ite_some h with ⟨hc14_, h⟩ | ⟨hc14_, h⟩
    · obtain ⟨rfl, rfl⟩ := ret_inj h
      exact fd5_
    · obtain ⟨hb15_, h⟩ := ck_some h
      obtain ⟨hb17_, h⟩ := ck_some h
      obtain ⟨r20_, d19_, hr21_, h⟩ := bd_some h
      have fd19_ : Fr wo_Mo_doesHold [51] false d d19_ := Fr.tr fd5_ (fr_Mo_holds (d5_ 33 p1.toNat) (d5_ 34 p1.toNat) d5_ (Fr.g fd5_ hg) hr21_) (by decide) (by decide) (by decide)
      rcases ite_some h with ⟨hc23_, h⟩ | ⟨hc23_, h⟩
      · obtain ⟨rfl, rfl⟩ := ret_inj h
        exact fd19_
      · obtain ⟨rfl, rfl⟩ := ret_inj h
        exact fd19_
/-! frames of Mo_firstOf -/
def wo_Mo_firstOf : List (Nat × Nat) := []
def he_Mo_firstOf_2 (r : (Dt) ⊕ (Int × Dt)) : Dt := match r with
  | .inl q => q
  | .inr q => q.2
def hb_Mo_firstOf_2 (o : (Int × Int × Dt) ⊕ ((Dt) ⊕ (Int × Dt))) : Dt := match o with
  | .inl q => q.2.2
  | .inr r => he_Mo_firstOf_2 r
theorem fr_Mo_firstOf_b49 {o : (Int × Int × Dt) ⊕ ((Dt) ⊕ (Int × Dt))} (x1 x2 : Int) (d : Dt) (hg : d GH 0 ≤ 6) (h : L_Mo_firstOf_b49 x1 x2 d = some o) : Fr wo_Mo_firstOf [51] false d (hb_Mo_firstOf_2 o) := by
  have f0 : Fr wo_Mo_firstOf [51] false d d := Fr.rfl
  unfold L_Mo_firstOf_b49 at h
  obtain rfl := Option.some.inj h
  exact f0
theorem fr_Mo_firstOf_y2 {o : (Int × Int × Dt) ⊕ ((Dt) ⊕ (Int × Dt))} (x1 x2 : Int) (d : Dt) (hg : d GH 0 ≤ 6) (h : L_Mo_firstOf_y2 x1 x2 d = some o) : Fr wo_Mo_firstOf [51] false d (hb_Mo_firstOf_2 o) := by
  have f0 : Fr wo_Mo_firstOf [51] false d d := Fr.rfl
  unfold L_Mo_firstOf_y2 at h
  rcases ite_some h with ⟨hc2_, h⟩ | ⟨hc2_, h⟩
  · obtain ⟨hb3_, h⟩ := ck_some h
    rcases ite_some h with ⟨hc5_, h⟩ | ⟨hc5_, h⟩
    · obtain ⟨hb6_, h⟩ := ck_some h
      obtain ⟨hb8_, h⟩ := ck_some h
      rcases ite_some h with ⟨hc10_, h⟩ | ⟨hc10_, h⟩
      · obtain ⟨hb11_, h⟩ := ck_some h
        obtain ⟨r14_, d13_, hr15_, h⟩ := bd_some h
        have fd13_ : Fr wo_Mo_firstOf [51] false d d13_ := Fr.tr f0 (fr_Mo_doesHold (d 47 x2.toNat) d (Fr.g f0 hg) hr15_) (by decide) (by decide) (by decide)
        rcases ite_some h with ⟨hc17_, h⟩ | ⟨hc17_, h⟩
        · exact Fr.tr0 fd13_ (fr_Mo_firstOf_b49 x1 x2 d13_ (Fr.g fd13_ hg) h)
        · obtain rfl := Option.some.inj h
          exact fd13_
      · exact Fr.tr0 f0 (fr_Mo_firstOf_b49 x1 x2 d (Fr.g f0 hg) h)
    · exact Fr.tr0 f0 (fr_Mo_firstOf_b49 x1 x2 d (Fr.g f0 hg) h)
  · obtain rfl := Option.some.inj h
    exact f0
theorem fr_Mo_firstOf_l2 {x : (Dt) ⊕ (Int × Dt)} (x1 x2 : Int) (d : Dt) (hg : d GH 0 ≤ 6) (h : L_Mo_firstOf_l2 x1 x2 d = some x) : Fr wo_Mo_firstOf [51] false d (he_Mo_firstOf_2 x) :=
  lpF_fr (f := fun q : Int × Int × Dt => L_Mo_firstOf_y2 q.1 q.2.1 q.2.2) (fun q => q.2.2) he_Mo_firstOf_2 (fun q x hq hx => ⟨fun q2 e2 => by subst e2; exact fr_Mo_firstOf_y2 q.1 q.2.1 q.2.2 hq hx, fun r2 e2 => by subst e2; exact fr_Mo_firstOf_y2 q.1 q.2.1 q.2.2 hq hx⟩) FU _ x hg h
theorem fr_Mo_firstOf {r : Int} {d' : Dt} (p1 : Int) (d : Dt) (hg : d GH 0 ≤ 6) (h : L_Mo_firstOf p1 d = some (r, d')) : Fr wo_Mo_firstOf [51] false d d' := by
  have f0 : Fr wo_Mo_firstOf [51] false d d := Fr.rfl
  unfold L_Mo_firstOf at h
  obtain ⟨x18_, hx19_, h⟩ := lb_some h
  have fx18_ := Fr.tr0 f0 (fr_Mo_firstOf_l2 p1 0 d (Fr.g f0 hg) hx19_)
  rcases x18_ with d20_ | ⟨v22_, d23_⟩
  · have fd20_ : Fr wo_Mo_firstOf [51] false d d20_ := fx18_
    replace h := sml_e h
    replace h := u0_e h
    obtain ⟨rfl, rfl⟩ := ret_inj h
    exact fd20_
  · have fd23_ : Fr wo_Mo_firstOf [51] false d d23_ := fx18_
    replace h := smr_e h
    replace h := u1_e h
    obtain ⟨rfl, rfl⟩ := ret_inj h
    exact fd23_
/-! frames of Mo_rightOf -/
def wo_Mo_rightOf : List (Nat × Nat) := [(0, 68), (0, 71)]
theorem fr_Mo_rightOf_b66 {r : Int} {d' : Dt} (d : Dt) (hg : d GH 0 ≤ 6) (h : L_Mo_rightOf_b66 d = some (r, d')) : Fr wo_Mo_rightOf [47, 48, 49, 50, 51] false d d' := by
  have f0 : Fr wo_Mo_rightOf [47, 48, 49, 50, 51] false d d := Fr.rfl
  unfold L_Mo_rightOf_b66 at h
  obtain ⟨r2_, d1_, hr3_, h⟩ := bd_some h
  have fd1_ : Fr wo_Mo_rightOf [47, 48, 49, 50, 51] false d d1_ := Fr.tr f0 (fr_Mo_firstOf 2 d (Fr.g f0 hg) hr3_) (by decide) (by decide) (by decide)
  rcases ite_some h with ⟨hc6_, h⟩ | ⟨hc6_, h⟩
  · obtain ⟨r8_, d7_, hr9_, h⟩ := bd_some h
    have fd7_ : Fr wo_Mo_rightOf [47, 48, 49, 50, 51] false d d7_ := Fr.tr (Fr.upo fd1_ rfl (by decide)) (fr_Mo_firstOf 1 (up2 d1_ 0 71 r2_) (Fr.g (Fr.upo fd1_ rfl (by decide)) hg) hr9_) (by decide) (by decide) (by decide)
    rcases ite_some h with ⟨hc12_, h⟩ | ⟨hc12_, h⟩
    · obtain ⟨rfl, rfl⟩ := ret_inj h
      exact (Fr.upo fd7_ rfl (by decide))
    · obtain ⟨rfl, rfl⟩ := ret_inj h
      exact (Fr.upo fd7_ rfl (by decide))
  · obtain ⟨rfl, rfl⟩ := ret_inj h
    exact (Fr.upo fd1_ rfl (by decide))
theorem fr_Mo_rightOf {r : Int} {d' : Dt} (p1 p2 p3 p4 : Int) (d : Dt) (hg : d GH 0 ≤ 6) (h : L_Mo_rightOf p1 p2 p3 p4 d = some (r, d')) : Fr wo_Mo_rightOf [47, 48, 49, 50, 51] false d d' := by
  have f0 : Fr wo_Mo_rightOf [47, 48, 49, 50, 51] false d d := Fr.rfl
  unfold L_Mo_rightOf at h
  obtain ⟨r14_, d13_, hr15_, h⟩ := bd_some h
  have fd13_ : Fr wo_Mo_rightOf [47, 48, 49, 50, 51] false d d13_ := Fr.tr f0 (fr_Mo_ask p1 p2 p3 p4 d (Fr.g f0 hg) hr15_) (by decide) (by decide) (by decide)
  obtain ⟨r18_, d17_, hr19_, h⟩ := bd_some h
  have fd17_ : Fr wo_Mo_rightOf [47, 48, 49, 50, 51] false d d17_ := Fr.tr fd13_ (fr_Mo_lastOf 5 d13_ (Fr.g fd13_ hg) hr19_) (by decide) (by decide) (by decide)
  rcases ite_some h with ⟨hc22_, h⟩ | ⟨hc22_, h⟩
  · exact Fr.tr0 (Fr.upo fd17_ rfl (by decide)) (fr_Mo_rightOf_b66  (up2 d17_ 0 71 r18_) (Fr.g (Fr.upo fd17_ rfl (by decide)) hg) h)
  · obtain ⟨hb24_, h⟩ := ck_some h
    obtain ⟨hb26_, h⟩ := ck_some h
    rcases ite_some h with ⟨hc28_, h⟩ | ⟨hc28_, h⟩
    · obtain ⟨rfl, rfl⟩ := ret_inj h
      exact (Fr.upo fd17_ rfl (by decide))
    · obtain ⟨hb30_, h⟩ := ck_some h
      obtain ⟨hb32_, h⟩ := ck_some h
      rcases ite_some h with ⟨hc34_, h⟩ | ⟨hc34_, h⟩
      · obtain ⟨rfl, rfl⟩ := ret_inj h
        exact (Fr.upo fd17_ rfl (by decide))
      · exact Fr.tr0 (Fr.upo fd17_ rfl (by decide)) (fr_Mo_rightOf_b66  (up2 d17_ 0 71 r18_) (Fr.g (Fr.upo fd17_ rfl (by decide)) hg) h)
/-! frames of Mo_right -/
def wo_Mo_right : List (Nat × Nat) := [(0, 0), (0, 68), (0, 71)]
theorem fr_Mo_right {r : Int} {d' : Dt} (p1 p2 p3 p4 : Int) (d : Dt) (hg : d GH 0 ≤ 6) (h : L_Mo_right p1 p2 p3 p4 d = some (r, d')) : Fr wo_Mo_right [47, 48, 49, 50, 51] false d d' := by
  have f0 : Fr wo_Mo_right [47, 48, 49, 50, 51] false d d := Fr.rfl
  unfold L_Mo_right at h
  obtain ⟨r2_, d1_, hr3_, h⟩ := bd_some h
  have fd1_ : Fr wo_Mo_right [47, 48, 49, 50, 51] false d d1_ := Fr.tr f0 (fr_Mo_isAsked p1 p2 p3 p4 d (Fr.g f0 hg) hr3_) (by decide) (by decide) (by decide)
  rcases ite_some h with ⟨hc5_, h⟩ | ⟨hc5_, h⟩
  · obtain ⟨r7_, d6_, hr8_, h⟩ := bd_some h
    have fd6_ : Fr wo_Mo_right [47, 48, 49, 50, 51] false d d6_ := Fr.tr fd1_ (fr_Mo_refuse 1 d1_ (Fr.g fd1_ hg) hr8_) (by decide) (by decide) (by decide)
    obtain ⟨rfl, rfl⟩ := ret_inj h
    exact fd6_
  · obtain ⟨r11_, d10_, hr12_, h⟩ := bd_some h
    have fd10_ : Fr wo_Mo_right [47, 48, 49, 50, 51] false d d10_ := Fr.tr fd1_ (fr_Mo_rightOf p1 p2 p3 p4 d1_ (Fr.g fd1_ hg) hr12_) (by decide) (by decide) (by decide)
    obtain ⟨r15_, d14_, hr16_, h⟩ := bd_some h
    have fd14_ : Fr wo_Mo_right [47, 48, 49, 50, 51] false d d14_ := Fr.tr fd10_ (fr_Mo_gives r11_ d10_ (Fr.g fd10_ hg) hr16_) (by decide) (by decide) (by decide)
    obtain ⟨rfl, rfl⟩ := ret_inj h
    exact fd14_
/-! frames of Mo_why -/
def wo_Mo_why : List (Nat × Nat) := [(0, 0), (0, 68), (0, 71)]
theorem fr_Mo_why {r : Int} {d' : Dt} (p1 p2 p3 p4 : Int) (d : Dt) (hg : d GH 0 ≤ 6) (h : L_Mo_why p1 p2 p3 p4 d = some (r, d')) : Fr wo_Mo_why [47, 48, 49, 50, 51] false d d' := by
  have f0 : Fr wo_Mo_why [47, 48, 49, 50, 51] false d d := Fr.rfl
  unfold L_Mo_why at h
  obtain ⟨r2_, d1_, hr3_, h⟩ := bd_some h
  have fd1_ : Fr wo_Mo_why [47, 48, 49, 50, 51] false d d1_ := Fr.tr f0 (fr_Mo_isAsked p1 p2 p3 p4 d (Fr.g f0 hg) hr3_) (by decide) (by decide) (by decide)
  rcases ite_some h with ⟨hc5_, h⟩ | ⟨hc5_, h⟩
  · obtain ⟨r7_, d6_, hr8_, h⟩ := bd_some h
    have fd6_ : Fr wo_Mo_why [47, 48, 49, 50, 51] false d d6_ := Fr.tr fd1_ (fr_Mo_refuse 1 d1_ (Fr.g fd1_ hg) hr8_) (by decide) (by decide) (by decide)
    obtain ⟨rfl, rfl⟩ := ret_inj h
    exact fd6_
  · obtain ⟨r11_, d10_, hr12_, h⟩ := bd_some h
    have fd10_ : Fr wo_Mo_why [47, 48, 49, 50, 51] false d d10_ := Fr.tr fd1_ (fr_Mo_rightOf p1 p2 p3 p4 d1_ (Fr.g fd1_ hg) hr12_) (by decide) (by decide) (by decide)
    rcases ite_some h with ⟨hc15_, h⟩ | ⟨hc15_, h⟩
    · obtain ⟨r17_, d16_, hr18_, h⟩ := bd_some h
      have fd16_ : Fr wo_Mo_why [47, 48, 49, 50, 51] false d d16_ := Fr.tr fd10_ (fr_Mo_refuse 6 d10_ (Fr.g fd10_ hg) hr18_) (by decide) (by decide) (by decide)
      obtain ⟨rfl, rfl⟩ := ret_inj h
      exact fd16_
    · obtain ⟨r22_, d21_, hr23_, h⟩ := bd_some h
      have fd21_ : Fr wo_Mo_why [47, 48, 49, 50, 51] false d d21_ := Fr.tr fd10_ (fr_Mo_gives (d10_ 0 71) d10_ (Fr.g fd10_ hg) hr23_) (by decide) (by decide) (by decide)
      obtain ⟨rfl, rfl⟩ := ret_inj h
      exact fd21_
/-! frames of Mo_isVoid -/
def wo_Mo_isVoid : List (Nat × Nat) := [(0, 68)]
theorem fr_Mo_isVoid {r : Int} {d' : Dt} (p1 p2 p3 p4 : Int) (d : Dt) (hg : d GH 0 ≤ 6) (h : L_Mo_isVoid p1 p2 p3 p4 d = some (r, d')) : Fr wo_Mo_isVoid [47, 48, 49, 50, 51] false d d' := by
  have f0 : Fr wo_Mo_isVoid [47, 48, 49, 50, 51] false d d := Fr.rfl
  unfold L_Mo_isVoid at h
  obtain ⟨r2_, d1_, hr3_, h⟩ := bd_some h
  have fd1_ : Fr wo_Mo_isVoid [47, 48, 49, 50, 51] false d d1_ := Fr.tr f0 (fr_Mo_ask p1 p2 p3 p4 d (Fr.g f0 hg) hr3_) (by decide) (by decide) (by decide)
  obtain ⟨r6_, d5_, hr7_, h⟩ := bd_some h
  have fd5_ : Fr wo_Mo_isVoid [47, 48, 49, 50, 51] false d d5_ := Fr.tr fd1_ (fr_Mo_firstOf 3 d1_ (Fr.g fd1_ hg) hr7_) (by decide) (by decide) (by decide)
  rcases ite_some h with ⟨hc9_, h⟩ | ⟨hc9_, h⟩
  · obtain ⟨rfl, rfl⟩ := ret_inj h
    exact fd5_
  · obtain ⟨rfl, rfl⟩ := ret_inj h
    exact fd5_
/-! frames of Mo_voided -/
def wo_Mo_voided : List (Nat × Nat) := [(0, 0), (0, 68)]
theorem fr_Mo_voided_b30 {r : Int} {d' : Dt} (s1 : Int) (d : Dt) (hg : d GH 0 ≤ 6) (h : L_Mo_voided_b30 s1 d = some (r, d')) : Fr wo_Mo_voided [47, 48, 49, 50, 51] false d d' := by
  have f0 : Fr wo_Mo_voided [47, 48, 49, 50, 51] false d d := Fr.rfl
  unfold L_Mo_voided_b30 at h
  obtain ⟨r2_, d1_, hr3_, h⟩ := bd_some h
  have fd1_ : Fr wo_Mo_voided [47, 48, 49, 50, 51] false d d1_ := Fr.tr f0 (fr_Mo_gives s1 d (Fr.g f0 hg) hr3_) (by decide) (by decide) (by decide)
  obtain ⟨rfl, rfl⟩ := ret_inj h
  exact fd1_
theorem fr_Mo_voided {r : Int} {d' : Dt} (p1 p2 p3 p4 : Int) (d : Dt) (hg : d GH 0 ≤ 6) (h : L_Mo_voided p1 p2 p3 p4 d = some (r, d')) : Fr wo_Mo_voided [47, 48, 49, 50, 51] false d d' := by
  have f0 : Fr wo_Mo_voided [47, 48, 49, 50, 51] false d d := Fr.rfl
  unfold L_Mo_voided at h
  obtain ⟨r6_, d5_, hr7_, h⟩ := bd_some h
  have fd5_ : Fr wo_Mo_voided [47, 48, 49, 50, 51] false d d5_ := Fr.tr f0 (fr_Mo_isAsked p1 p2 p3 p4 d (Fr.g f0 hg) hr7_) (by decide) (by decide) (by decide)
  rcases ite_some h with ⟨hc9_, h⟩ | ⟨hc9_, h⟩
  · obtain ⟨r11_, d10_, hr12_, h⟩ := bd_some h
    have fd10_ : Fr wo_Mo_voided [47, 48, 49, 50, 51] false d d10_ := Fr.tr fd5_ (fr_Mo_refuse 1 d5_ (Fr.g fd5_ hg) hr12_) (by decide) (by decide) (by decide)
    obtain ⟨rfl, rfl⟩ := ret_inj h
    exact fd10_
  · obtain ⟨r15_, d14_, hr16_, h⟩ := bd_some h
    have fd14_ : Fr wo_Mo_voided [47, 48, 49, 50, 51] false d d14_ := Fr.tr fd5_ (fr_Mo_isVoid p1 p2 p3 p4 d5_ (Fr.g fd5_ hg) hr16_) (by decide) (by decide) (by decide)
    rcases ite_some h with ⟨hc18_, h⟩ | ⟨hc18_, h⟩
    · exact Fr.tr0 fd14_ (fr_Mo_voided_b30 0 d14_ (Fr.g fd14_ hg) h)
    · exact Fr.tr0 fd14_ (fr_Mo_voided_b30 1 d14_ (Fr.g fd14_ hg) h)
/-! frames of Mo_namesAt -/
def wo_Mo_namesAt : List (Nat × Nat) := [(0, 68)]
theorem fr_Mo_namesAt {r : Int} {d' : Dt} (p1 p2 : Int) (d : Dt) (hg : d GH 0 ≤ 6) (h : L_Mo_namesAt p1 p2 d = some (r, d')) : Fr wo_Mo_namesAt [47, 48, 49] false d d' := by
  have f0 : Fr wo_Mo_namesAt [47, 48, 49] false d d := Fr.rfl
  unfold L_Mo_namesAt at h
  obtain ⟨r2_, d1_, hr3_, h⟩ := bd_some h
  have fd1_ : Fr wo_Mo_namesAt [47, 48, 49] false d d1_ := Fr.tr f0 (fr_Mo_stand p1 p2 d (Fr.g f0 hg) hr3_) (by decide) (by decide) (by decide)
  obtain ⟨r6_, d5_, hr7_, h⟩ := bd_some h
  have fd5_ : Fr wo_Mo_namesAt [47, 48, 49] false d d5_ := Fr.tr fd1_ (fr_Mo_lastOf 4 d1_ (Fr.g fd1_ hg) hr7_) (by decide) (by decide) (by decide)
  rcases ite_some h with ⟨hc9_, h⟩ | ⟨hc9_, h⟩
  · obtain ⟨rfl, rfl⟩ := ret_inj h
    exact fd5_
  · obtain ⟨hb10_, h⟩ := ck_some h
    obtain ⟨hb12_, h⟩ := ck_some h
    obtain ⟨rfl, rfl⟩ := ret_inj h
    exact fd5_
/-! frames of Mo_names -/
def wo_Mo_names : List (Nat × Nat) := [(0, 0), (0, 68)]
theorem fr_Mo_names_b27 {r : Int} {d' : Dt} (d : Dt) (hg : d GH 0 ≤ 6) (h : L_Mo_names_b27 d = some (r, d')) : Fr wo_Mo_names [47, 48, 49] false d d' := by
  have f0 : Fr wo_Mo_names [47, 48, 49] false d d := Fr.rfl
  unfold L_Mo_names_b27 at h
  obtain ⟨r2_, d1_, hr3_, h⟩ := bd_some h
  have fd1_ : Fr wo_Mo_names [47, 48, 49] false d d1_ := Fr.tr f0 (fr_Mo_refuse 1 d (Fr.g f0 hg) hr3_) (by decide) (by decide) (by decide)
  obtain ⟨rfl, rfl⟩ := ret_inj h
  exact fd1_
theorem fr_Mo_names {r : Int} {d' : Dt} (p1 p2 : Int) (d : Dt) (hg : d GH 0 ≤ 6) (h : L_Mo_names p1 p2 d = some (r, d')) : Fr wo_Mo_names [47, 48, 49] false d d' := by
  have f0 : Fr wo_Mo_names [47, 48, 49] false d d := Fr.rfl
  unfold L_Mo_names at h
  obtain ⟨r6_, d5_, hr7_, h⟩ := bd_some h
  have fd5_ : Fr wo_Mo_names [47, 48, 49] false d d5_ := Fr.tr f0 (fr_Mo_isPlace p1 d (Fr.g f0 hg) hr7_) (by decide) (by decide) (by decide)
  rcases ite_some h with ⟨hc9_, h⟩ | ⟨hc9_, h⟩
  · exact Fr.tr0 fd5_ (fr_Mo_names_b27  d5_ (Fr.g fd5_ hg) h)
  · obtain ⟨r11_, d10_, hr12_, h⟩ := bd_some h
    have fd10_ : Fr wo_Mo_names [47, 48, 49] false d d10_ := Fr.tr fd5_ (fr_Mo_isDay p2 d5_ (Fr.g fd5_ hg) hr12_) (by decide) (by decide) (by decide)
    rcases ite_some h with ⟨hc14_, h⟩ | ⟨hc14_, h⟩
    · exact Fr.tr0 fd10_ (fr_Mo_names_b27  d10_ (Fr.g fd10_ hg) h)
    · obtain ⟨r16_, d15_, hr17_, h⟩ := bd_some h
      have fd15_ : Fr wo_Mo_names [47, 48, 49] false d d15_ := Fr.tr fd10_ (fr_Mo_namesAt p1 p2 d10_ (Fr.g fd10_ hg) hr17_) (by decide) (by decide) (by decide)
      obtain ⟨r20_, d19_, hr21_, h⟩ := bd_some h
      have fd19_ : Fr wo_Mo_names [47, 48, 49] false d d19_ := Fr.tr fd15_ (fr_Mo_gives r16_ d15_ (Fr.g fd15_ hg) hr21_) (by decide) (by decide) (by decide)
      obtain ⟨rfl, rfl⟩ := ret_inj h
      exact fd19_
/-! frames of Mo_isSet -/
def wo_Mo_isSet : List (Nat × Nat) := []
theorem fr_Mo_isSet {r : Int} {d' : Dt} (p1 : Int) (d : Dt) (hg : d GH 0 ≤ 6) (h : L_Mo_isSet p1 d = some (r, d')) : Fr wo_Mo_isSet [] false d d' := by
  have f0 : Fr wo_Mo_isSet [] false d d := Fr.rfl
  unfold L_Mo_isSet at h
  rcases ite_some h with ⟨hc1_, h⟩ | ⟨hc1_, h⟩
  · obtain ⟨rfl, rfl⟩ := ret_inj h
    exact f0
  · rcases ite_some h with ⟨hc2_, h⟩ | ⟨hc2_, h⟩
    · obtain ⟨rfl, rfl⟩ := ret_inj h
      exact f0
    · obtain ⟨rfl, rfl⟩ := ret_inj h
      exact f0
/-! frames of Mo_entry -/
def wo_Mo_entry : List (Nat × Nat) := [(0, 0)]
theorem fr_Mo_entry_b46 {r : Int} {d' : Dt} (d : Dt) (hg : d GH 0 ≤ 6) (h : L_Mo_entry_b46 d = some (r, d')) : Fr wo_Mo_entry [52, 53, 54, 55, 57] false d d' := by
  have f0 : Fr wo_Mo_entry [52, 53, 54, 55, 57] false d d := Fr.rfl
  unfold L_Mo_entry_b46 at h
  obtain ⟨r2_, d1_, hr3_, h⟩ := bd_some h
  have fd1_ : Fr wo_Mo_entry [52, 53, 54, 55, 57] false d d1_ := Fr.tr f0 (fr_Mo_refuse 1 d (Fr.g f0 hg) hr3_) (by decide) (by decide) (by decide)
  obtain ⟨rfl, rfl⟩ := ret_inj h
  exact fd1_
theorem fr_Mo_entry_b30 {r : Int} {d' : Dt} (x1 x2 x4 x5 x6 : Int) (d : Dt) (hg : d GH 0 ≤ 6) (h : L_Mo_entry_b30 x1 x2 x4 x5 x6 d = some (r, d')) : Fr wo_Mo_entry [52, 53, 54, 55, 57] false d d' := by
  have f0 : Fr wo_Mo_entry [52, 53, 54, 55, 57] false d d := Fr.rfl
  unfold L_Mo_entry_b30 at h
  obtain ⟨r6_, d5_, hr7_, h⟩ := bd_some h
  have fd5_ : Fr wo_Mo_entry [52, 53, 54, 55, 57] false d d5_ := Fr.tr f0 (fr_Mo_isMinute x5 d (Fr.g f0 hg) hr7_) (by decide) (by decide) (by decide)
  rcases ite_some h with ⟨hc9_, h⟩ | ⟨hc9_, h⟩
  · exact Fr.tr0 fd5_ (fr_Mo_entry_b46  d5_ (Fr.g fd5_ hg) h)
  · obtain ⟨r11_, d10_, hr12_, h⟩ := bd_some h
    have fd10_ : Fr wo_Mo_entry [52, 53, 54, 55, 57] false d d10_ := Fr.tr fd5_ (fr_Mo_isSet x6 d5_ (Fr.g fd5_ hg) hr12_) (by decide) (by decide) (by decide)
    rcases ite_some h with ⟨hc14_, h⟩ | ⟨hc14_, h⟩
    · exact Fr.tr0 fd10_ (fr_Mo_entry_b46  d10_ (Fr.g fd10_ hg) h)
    · obtain ⟨hb15_, h⟩ := ck_some h
      rcases ite_some h with ⟨hc17_, h⟩ | ⟨hc17_, h⟩
      · obtain ⟨r19_, d18_, hr20_, h⟩ := bd_some h
        have fd18_ : Fr wo_Mo_entry [52, 53, 54, 55, 57] false d d18_ := Fr.tr fd10_ (fr_Mo_refuse 4 d10_ (Fr.g fd10_ hg) hr20_) (by decide) (by decide) (by decide)
        obtain ⟨rfl, rfl⟩ := ret_inj h
        exact fd18_
      · obtain ⟨hb22_, h⟩ := ck_some h
        obtain ⟨v24_, ev25_, h⟩ := lt_some h
        obtain ⟨hb27_, h⟩ := ck_some h
        obtain ⟨hb28_, h⟩ := ck_some h
        obtain ⟨hb29_, h⟩ := ck_some h
        obtain ⟨hb30_, h⟩ := ck_some h
        obtain ⟨hb31_, h⟩ := ck_some h
        obtain ⟨hb33_, h⟩ := ck_some h
        obtain ⟨hb34_, h⟩ := ck_some h
        obtain ⟨r37_, d36_, hr38_, h⟩ := bd_some h
        have fd36_ : Fr wo_Mo_entry [52, 53, 54, 55, 57] false d d36_ := Fr.tr (Fr.upa (Fr.upa (Fr.upa (Fr.upa (Fr.upa fd10_ rfl (by decide)) rfl (by decide)) rfl (by decide)) rfl (by decide)) rfl (by decide)) (fr_Mo_gives (w32 (((up2 (up2 (up2 (up2 (up2 d10_ 57 v24_.toNat x2) 53 v24_.toNat x4) 54 v24_.toNat x5) 55 v24_.toNat x6) 52 x1.toNat (w32 ((d10_ 52 x1.toNat) + 1))) 52 x1.toNat) - 1)) (up2 (up2 (up2 (up2 (up2 d10_ 57 v24_.toNat x2) 53 v24_.toNat x4) 54 v24_.toNat x5) 55 v24_.toNat x6) 52 x1.toNat (w32 ((d10_ 52 x1.toNat) + 1))) (Fr.g (Fr.upa (Fr.upa (Fr.upa (Fr.upa (Fr.upa fd10_ rfl (by decide)) rfl (by decide)) rfl (by decide)) rfl (by decide)) rfl (by decide)) hg) hr38_) (by decide) (by decide) (by decide)
        obtain ⟨rfl, rfl⟩ := ret_inj h
        exact fd36_
theorem fr_Mo_entry {r : Int} {d' : Dt} (p1 p2 p3 p4 p5 : Int) (d : Dt) (hg : d GH 0 ≤ 6) (h : L_Mo_entry p1 p2 p3 p4 p5 d = some (r, d')) : Fr wo_Mo_entry [52, 53, 54, 55, 57] false d d' := by
  have f0 : Fr wo_Mo_entry [52, 53, 54, 55, 57] false d d := Fr.rfl
  unfold L_Mo_entry at h
  rcases ite_some h with ⟨hc40_, h⟩ | ⟨hc40_, h⟩
  · exact Fr.tr0 f0 (fr_Mo_entry_b46  d (Fr.g f0 hg) h)
  · rcases ite_some h with ⟨hc41_, h⟩ | ⟨hc41_, h⟩
    · exact Fr.tr0 f0 (fr_Mo_entry_b46  d (Fr.g f0 hg) h)
    · obtain ⟨r43_, d42_, hr44_, h⟩ := bd_some h
      have fd42_ : Fr wo_Mo_entry [52, 53, 54, 55, 57] false d d42_ := Fr.tr f0 (fr_Mo_isName p2 d (Fr.g f0 hg) hr44_) (by decide) (by decide) (by decide)
      rcases ite_some h with ⟨hc46_, h⟩ | ⟨hc46_, h⟩
      · exact Fr.tr0 fd42_ (fr_Mo_entry_b46  d42_ (Fr.g fd42_ hg) h)
      · rcases ite_some h with ⟨hc47_, h⟩ | ⟨hc47_, h⟩
        · exact Fr.tr0 fd42_ (fr_Mo_entry_b30 p1 p2 p3 p4 p5 d42_ (Fr.g fd42_ hg) h)
        · obtain ⟨r49_, d48_, hr50_, h⟩ := bd_some h
          have fd48_ : Fr wo_Mo_entry [52, 53, 54, 55, 57] false d d48_ := Fr.tr fd42_ (fr_Mo_isTrade p3 d42_ (Fr.g fd42_ hg) hr50_) (by decide) (by decide) (by decide)
          rcases ite_some h with ⟨hc52_, h⟩ | ⟨hc52_, h⟩
          · exact Fr.tr0 fd48_ (fr_Mo_entry_b46  d48_ (Fr.g fd48_ hg) h)
          · exact Fr.tr0 fd48_ (fr_Mo_entry_b30 p1 p2 p3 p4 p5 d48_ (Fr.g fd48_ hg) h)
/-! frames of Mo_isOther -/
def wo_Mo_isOther : List (Nat × Nat) := []
theorem fr_Mo_isOther {r : Int} {d' : Dt} (p1 : Int) (d : Dt) (hg : d GH 0 ≤ 6) (h : L_Mo_isOther p1 d = some (r, d')) : Fr wo_Mo_isOther [] false d d' := by
  have f0 : Fr wo_Mo_isOther [] false d d := Fr.rfl
  unfold L_Mo_isOther at h
  rcases ite_some h with ⟨hc1_, h⟩ | ⟨hc1_, h⟩
  · obtain ⟨rfl, rfl⟩ := ret_inj h
    exact f0
  · rcases ite_some h with ⟨hc2_, h⟩ | ⟨hc2_, h⟩
    · obtain ⟨rfl, rfl⟩ := ret_inj h
      exact f0
    · obtain ⟨rfl, rfl⟩ := ret_inj h
      exact f0
/-! frames of Mo_costOf -/
def wo_Mo_costOf : List (Nat × Nat) := []
theorem fr_Mo_costOf_b102 {r : Int} {d' : Dt} (s0 s1 : Int) (d : Dt) (hg : d GH 0 ≤ 6) (h : L_Mo_costOf_b102 s0 s1 d = some (r, d')) : Fr wo_Mo_costOf [4, 5, 6] false d d' := by
  have f0 : Fr wo_Mo_costOf [4, 5, 6] false d d := Fr.rfl
  unfold L_Mo_costOf_b102 at h
  obtain ⟨rfl, rfl⟩ := ret_inj h
  exact f0
theorem fr_Mo_costOf_b81 {r : Int} {d' : Dt} (x1 x2 x3 : Int) (d : Dt) (hg : d GH 0 ≤ 6) (h : L_Mo_costOf_b81 x1 x2 x3 d = some (r, d')) : Fr wo_Mo_costOf [4, 5, 6] false d d' := by
  have f0 : Fr wo_Mo_costOf [4, 5, 6] false d d := Fr.rfl
  unfold L_Mo_costOf_b81 at h
  obtain ⟨hb1_, h⟩ := ck_some h
  obtain ⟨hb3_, h⟩ := ck_some h
  rcases ite_some h with ⟨hc5_, h⟩ | ⟨hc5_, h⟩
  · exact Fr.tr0 f0 (fr_Mo_costOf_b102 x3 0 d (Fr.g f0 hg) h)
  · exact Fr.tr0 f0 (fr_Mo_costOf_b102 x3 4 d (Fr.g f0 hg) h)
theorem fr_Mo_costOf {r : Int} {d' : Dt} (p1 p2 : Int) (d : Dt) (hg : d GH 0 ≤ 6) (h : L_Mo_costOf p1 p2 d = some (r, d')) : Fr wo_Mo_costOf [4, 5, 6] false d d' := by
  have f0 : Fr wo_Mo_costOf [4, 5, 6] false d d := Fr.rfl
  unfold L_Mo_costOf at h
  obtain ⟨hb6_, h⟩ := ck_some h
  obtain ⟨hb8_, h⟩ := ck_some h
  obtain ⟨r11_, d10_, hr12_, h⟩ := bd_some h
  have fd10_ : Fr wo_Mo_costOf [4, 5, 6] false d d10_ := Fr.tr f0 (fr_Mo_farOf (d 57 p1.toNat) (d 57 p2.toNat) d (Fr.g f0 hg) hr12_) (by decide) (by decide) (by decide)
  obtain ⟨hb14_, h⟩ := ck_some h
  obtain ⟨hb16_, h⟩ := ck_some h
  obtain ⟨v18_, ev19_, h⟩ := lt_some h
  obtain ⟨hb21_, h⟩ := ck_some h
  rcases ite_some h with ⟨hc23_, h⟩ | ⟨hc23_, h⟩
  · exact Fr.tr0 fd10_ (fr_Mo_costOf_b81 p1 p2 v18_ d10_ (Fr.g fd10_ hg) h)
  · obtain ⟨hb24_, h⟩ := ck_some h
    rcases ite_some h with ⟨hc26_, h⟩ | ⟨hc26_, h⟩
    · exact Fr.tr0 fd10_ (fr_Mo_costOf_b81 p1 p2 v18_ d10_ (Fr.g fd10_ hg) h)
    · obtain ⟨hb27_, h⟩ := ck_some h
      obtain ⟨hb29_, h⟩ := ck_some h
      rcases ite_some h with ⟨hc31_, h⟩ | ⟨hc31_, h⟩
      · exact Fr.tr0 fd10_ (fr_Mo_costOf_b81 p1 p2 v18_ d10_ (Fr.g fd10_ hg) h)
      · exact Fr.tr0 fd10_ (fr_Mo_costOf_b81 p1 p2 (w32 (v18_ + 2)) d10_ (Fr.g fd10_ hg) h)
/-! frames of Mo_paired -/
def wo_Mo_paired : List (Nat × Nat) := []
theorem fr_Mo_paired {r : Int} {d' : Dt} (p1 p2 p3 p4 : Int) (d : Dt) (hg : d GH 0 ≤ 6) (h : L_Mo_paired p1 p2 p3 p4 d = some (r, d')) : Fr wo_Mo_paired [4, 5, 6] false d d' := by
  have f0 : Fr wo_Mo_paired [4, 5, 6] false d d := Fr.rfl
  unfold L_Mo_paired at h
  obtain ⟨r2_, d1_, hr3_, h⟩ := bd_some h
  have fd1_ : Fr wo_Mo_paired [4, 5, 6] false d d1_ := Fr.tr f0 (fr_Mo_costOf p2 (w32 ((w32 (30 * p1)) + p4)) d (Fr.g f0 hg) hr3_) (by decide) (by decide) (by decide)
  obtain ⟨hb5_, h⟩ := ck_some h
  obtain ⟨rfl, rfl⟩ := ret_inj h
  exact fd1_
/-! frames of Mo_pairing -/
def wo_Mo_pairing : List (Nat × Nat) := []
def he_Mo_pairing_83 (q : (Int × Int × Int × Int × Int × Int × Dt)) : Dt := q.2.2.2.2.2.2
def hb_Mo_pairing_83 (o : (Int × Int × Int × Int × Int × Int × Int × Dt) ⊕ ((Int × Int × Int × Int × Int × Int × Dt))) : Dt := match o with
  | .inl q => q.2.2.2.2.2.2.2
  | .inr r => he_Mo_pairing_83 r
def he_Mo_pairing_25 (q : (Int × Int × Int × Int × Dt)) : Dt := q.2.2.2.2
def hb_Mo_pairing_25 (o : (Int × Int × Int × Int × Int × Dt) ⊕ ((Int × Int × Int × Int × Dt))) : Dt := match o with
  | .inl q => q.2.2.2.2.2
  | .inr r => he_Mo_pairing_25 r
def he_Mo_pairing_17 (q : (Dt)) : Dt := q
def hb_Mo_pairing_17 (o : (Int × Int × Int × Int × Dt) ⊕ ((Dt))) : Dt := match o with
  | .inl q => q.2.2.2.2
  | .inr r => he_Mo_pairing_17 r
theorem fr_Mo_pairing_y83 {o : (Int × Int × Int × Int × Int × Int × Int × Dt) ⊕ ((Int × Int × Int × Int × Int × Int × Dt))} (x1 x2 x3 x4 x5 x6 x7 : Int) (d : Dt) (hg : d GH 0 ≤ 6) (h : L_Mo_pairing_y83 x1 x2 x3 x4 x5 x6 x7 d = some o) : Fr wo_Mo_pairing [4, 5, 6, 58] false d (hb_Mo_pairing_83 o) := by
  have f0 : Fr wo_Mo_pairing [4, 5, 6, 58] false d d := Fr.rfl
  unfold L_Mo_pairing_y83 at h
  rcases ite_some h with ⟨hc1_, h⟩ | ⟨hc1_, h⟩
  · obtain ⟨r3_, d2_, hr4_, h⟩ := bd_some h
    have fd2_ : Fr wo_Mo_pairing [4, 5, 6, 58] false d d2_ := Fr.tr f0 (fr_Mo_paired x1 x4 x5 x7 d (Fr.g f0 hg) hr4_) (by decide) (by decide) (by decide)
    obtain ⟨v6_, ev7_, h⟩ := lt_some h
    obtain rfl := Option.some.inj h
    exact fd2_
  · obtain rfl := Option.some.inj h
    exact f0
theorem fr_Mo_pairing_l83 {x : (Int × Int × Int × Int × Int × Int × Dt)} (x1 x2 x3 x4 x5 x6 x7 : Int) (d : Dt) (hg : d GH 0 ≤ 6) (h : L_Mo_pairing_l83 x1 x2 x3 x4 x5 x6 x7 d = some x) : Fr wo_Mo_pairing [4, 5, 6, 58] false d (he_Mo_pairing_83 x) :=
  lpF_fr (f := fun q : Int × Int × Int × Int × Int × Int × Int × Dt => L_Mo_pairing_y83 q.1 q.2.1 q.2.2.1 q.2.2.2.1 q.2.2.2.2.1 q.2.2.2.2.2.1 q.2.2.2.2.2.2.1 q.2.2.2.2.2.2.2) (fun q => q.2.2.2.2.2.2.2) he_Mo_pairing_83 (fun q x hq hx => ⟨fun q2 e2 => by subst e2; exact fr_Mo_pairing_y83 q.1 q.2.1 q.2.2.1 q.2.2.2.1 q.2.2.2.2.1 q.2.2.2.2.2.1 q.2.2.2.2.2.2.1 q.2.2.2.2.2.2.2 hq hx, fun r2 e2 => by subst e2; exact fr_Mo_pairing_y83 q.1 q.2.1 q.2.2.1 q.2.2.2.1 q.2.2.2.2.1 q.2.2.2.2.2.1 q.2.2.2.2.2.2.1 q.2.2.2.2.2.2.2 hq hx⟩) FU _ x hg h
theorem fr_Mo_pairing_b128 {o : (Int × Int × Int × Int × Int × Dt) ⊕ ((Int × Int × Int × Int × Dt))} (x1 x2 x3 x4 x5 : Int) (d : Dt) (hg : d GH 0 ≤ 6) (h : L_Mo_pairing_b128 x1 x2 x3 x4 x5 d = some o) : Fr wo_Mo_pairing [4, 5, 6, 58] false d (hb_Mo_pairing_25 o) := by
  have f0 : Fr wo_Mo_pairing [4, 5, 6, 58] false d d := Fr.rfl
  unfold L_Mo_pairing_b128 at h
  obtain rfl := Option.some.inj h
  exact f0
theorem fr_Mo_pairing_y25 {o : (Int × Int × Int × Int × Int × Dt) ⊕ ((Int × Int × Int × Int × Dt))} (x1 x2 x3 x4 x5 : Int) (d : Dt) (hg : d GH 0 ≤ 6) (h : L_Mo_pairing_y25 x1 x2 x3 x4 x5 d = some o) : Fr wo_Mo_pairing [4, 5, 6, 58] false d (hb_Mo_pairing_25 o) := by
  have f0 : Fr wo_Mo_pairing [4, 5, 6, 58] false d d := Fr.rfl
  unfold L_Mo_pairing_y25 at h
  rcases ite_some h with ⟨hc9_, h⟩ | ⟨hc9_, h⟩
  · obtain rfl := Option.some.inj h
    exact f0
  · rcases ite_some h with ⟨hc10_, h⟩ | ⟨hc10_, h⟩
    · obtain ⟨hb11_, h⟩ := ck_some h
      exact Fr.tr0 (Fr.upa f0 rfl (by decide)) (fr_Mo_pairing_b128 x1 x2 x3 x4 x5 (up2 d 58 ((w32 ((w32 (31 * x4)) + x5))).toNat (w32 (10 * (w32 (x3 - x5))))) (Fr.g (Fr.upa f0 rfl (by decide)) hg) h)
    · obtain ⟨hb12_, h⟩ := ck_some h
      obtain ⟨v14_, ev15_, h⟩ := lt_some h
      obtain ⟨x17_, hx18_, h⟩ := lb_some h
      have fx17_ := Fr.tr0 f0 (fr_Mo_pairing_l83 x1 x2 x3 x4 x5 v14_ x5 d (Fr.g f0 hg) hx18_)
      obtain ⟨v19_, v20_, v21_, v22_, v23_, v24_, d25_⟩ := x17_
      have fd25_ : Fr wo_Mo_pairing [4, 5, 6, 58] false d d25_ := fx17_
      replace h := u6_e h
      obtain ⟨hb27_, h⟩ := ck_some h
      exact Fr.tr0 (Fr.upa fd25_ rfl (by decide)) (fr_Mo_pairing_b128 v19_ v20_ v21_ v22_ v23_ (up2 d25_ 58 ((w32 ((w32 (31 * v22_)) + v23_))).toNat v24_) (Fr.g (Fr.upa fd25_ rfl (by decide)) hg) h)
theorem fr_Mo_pairing_l25 {x : (Int × Int × Int × Int × Dt)} (x1 x2 x3 x4 x5 : Int) (d : Dt) (hg : d GH 0 ≤ 6) (h : L_Mo_pairing_l25 x1 x2 x3 x4 x5 d = some x) : Fr wo_Mo_pairing [4, 5, 6, 58] false d (he_Mo_pairing_25 x) :=
  lpF_fr (f := fun q : Int × Int × Int × Int × Int × Dt => L_Mo_pairing_y25 q.1 q.2.1 q.2.2.1 q.2.2.2.1 q.2.2.2.2.1 q.2.2.2.2.2) (fun q => q.2.2.2.2.2) he_Mo_pairing_25 (fun q x hq hx => ⟨fun q2 e2 => by subst e2; exact fr_Mo_pairing_y25 q.1 q.2.1 q.2.2.1 q.2.2.2.1 q.2.2.2.2.1 q.2.2.2.2.2 hq hx, fun r2 e2 => by subst e2; exact fr_Mo_pairing_y25 q.1 q.2.1 q.2.2.1 q.2.2.2.1 q.2.2.2.2.1 q.2.2.2.2.2 hq hx⟩) FU _ x hg h
theorem fr_Mo_pairing_y17 {o : (Int × Int × Int × Int × Dt) ⊕ ((Dt))} (x1 x2 x3 x4 : Int) (d : Dt) (hg : d GH 0 ≤ 6) (h : L_Mo_pairing_y17 x1 x2 x3 x4 d = some o) : Fr wo_Mo_pairing [4, 5, 6, 58] false d (hb_Mo_pairing_17 o) := by
  have f0 : Fr wo_Mo_pairing [4, 5, 6, 58] false d d := Fr.rfl
  unfold L_Mo_pairing_y17 at h
  rcases ite_some h with ⟨hc29_, h⟩ | ⟨hc29_, h⟩
  · obtain rfl := Option.some.inj h
    exact f0
  · obtain ⟨x30_, hx31_, h⟩ := lb_some h
    have fx30_ := Fr.tr0 f0 (fr_Mo_pairing_l25 x1 x2 x3 x4 x3 d (Fr.g f0 hg) hx31_)
    obtain ⟨v32_, v33_, v34_, v35_, d36_⟩ := x30_
    have fd36_ : Fr wo_Mo_pairing [4, 5, 6, 58] false d d36_ := fx30_
    replace h := u4_e h
    obtain rfl := Option.some.inj h
    exact fd36_
theorem fr_Mo_pairing_l17 {x : (Dt)} (x1 x2 x3 x4 : Int) (d : Dt) (hg : d GH 0 ≤ 6) (h : L_Mo_pairing_l17 x1 x2 x3 x4 d = some x) : Fr wo_Mo_pairing [4, 5, 6, 58] false d (he_Mo_pairing_17 x) :=
  lpF_fr (f := fun q : Int × Int × Int × Int × Dt => L_Mo_pairing_y17 q.1 q.2.1 q.2.2.1 q.2.2.2.1 q.2.2.2.2) (fun q => q.2.2.2.2) he_Mo_pairing_17 (fun q x hq hx => ⟨fun q2 e2 => by subst e2; exact fr_Mo_pairing_y17 q.1 q.2.1 q.2.2.1 q.2.2.2.1 q.2.2.2.2 hq hx, fun r2 e2 => by subst e2; exact fr_Mo_pairing_y17 q.1 q.2.1 q.2.2.1 q.2.2.2.1 q.2.2.2.2 hq hx⟩) FU _ x hg h
theorem fr_Mo_pairing {r : Int} {d' : Dt} (p1 : Int) (d : Dt) (hg : d GH 0 ≤ 6) (h : L_Mo_pairing p1 d = some (r, d')) : Fr wo_Mo_pairing [4, 5, 6, 58] false d d' := by
  have f0 : Fr wo_Mo_pairing [4, 5, 6, 58] false d d := Fr.rfl
  unfold L_Mo_pairing at h
  obtain ⟨v40_, ev41_, h⟩ := lt_some h
  obtain ⟨hb43_, h⟩ := ck_some h
  obtain ⟨v45_, ev46_, h⟩ := lt_some h
  obtain ⟨x48_, hx49_, h⟩ := lb_some h
  have fx48_ := Fr.tr0 f0 (fr_Mo_pairing_l17 p1 v40_ v45_ v40_ d (Fr.g f0 hg) hx49_)
  obtain ⟨d50_, rfl⟩ : ∃ z, z = x48_ := ⟨_, rfl⟩
  have fd50_ : Fr wo_Mo_pairing [4, 5, 6, 58] false d d50_ := fx48_
  replace h := u0_e h
  obtain ⟨rfl, rfl⟩ := ret_inj h
  exact fd50_
/-! frames of Mo_join -/
def wo_Mo_join : List (Nat × Nat) := [(0, 0)]
theorem fr_Mo_join {r : Int} {d' : Dt} (p1 : Int) (d : Dt) (hg : d GH 0 ≤ 6) (h : L_Mo_join p1 d = some (r, d')) : Fr wo_Mo_join [4, 5, 6, 58] false d d' := by
  have f0 : Fr wo_Mo_join [4, 5, 6, 58] false d d := Fr.rfl
  unfold L_Mo_join at h
  obtain ⟨r2_, d1_, hr3_, h⟩ := bd_some h
  have fd1_ : Fr wo_Mo_join [4, 5, 6, 58] false d d1_ := Fr.tr f0 (fr_Mo_isOther p1 d (Fr.g f0 hg) hr3_) (by decide) (by decide) (by decide)
  rcases ite_some h with ⟨hc5_, h⟩ | ⟨hc5_, h⟩
  · obtain ⟨r7_, d6_, hr8_, h⟩ := bd_some h
    have fd6_ : Fr wo_Mo_join [4, 5, 6, 58] false d d6_ := Fr.tr fd1_ (fr_Mo_refuse 1 d1_ (Fr.g fd1_ hg) hr8_) (by decide) (by decide) (by decide)
    obtain ⟨rfl, rfl⟩ := ret_inj h
    exact fd6_
  · obtain ⟨r11_, d10_, hr12_, h⟩ := bd_some h
    have fd10_ : Fr wo_Mo_join [4, 5, 6, 58] false d d10_ := Fr.tr fd1_ (fr_Mo_pairing p1 d1_ (Fr.g fd1_ hg) hr12_) (by decide) (by decide) (by decide)
    obtain ⟨r15_, d14_, hr16_, h⟩ := bd_some h
    have fd14_ : Fr wo_Mo_join [4, 5, 6, 58] false d d14_ := Fr.tr fd10_ (fr_Mo_gives r11_ d10_ (Fr.g fd10_ hg) hr16_) (by decide) (by decide) (by decide)
    obtain ⟨rfl, rfl⟩ := ret_inj h
    exact fd14_
/-! frames of Mo_isEntry -/
def wo_Mo_isEntry : List (Nat × Nat) := []
theorem fr_Mo_isEntry {r : Int} {d' : Dt} (p1 : Int) (d : Dt) (hg : d GH 0 ≤ 6) (h : L_Mo_isEntry p1 d = some (r, d')) : Fr wo_Mo_isEntry [] false d d' := by
  have f0 : Fr wo_Mo_isEntry [] false d d := Fr.rfl
  unfold L_Mo_isEntry at h
  rcases ite_some h with ⟨hc1_, h⟩ | ⟨hc1_, h⟩
  · obtain ⟨rfl, rfl⟩ := ret_inj h
    exact f0
  · rcases ite_some h with ⟨hc3_, h⟩ | ⟨hc3_, h⟩
    · obtain ⟨rfl, rfl⟩ := ret_inj h
      exact f0
    · obtain ⟨rfl, rfl⟩ := ret_inj h
      exact f0
/-! frames of Mo_joinAll -/
def wo_Mo_joinAll : List (Nat × Nat) := []
def he_Mo_joinAll_35 (q : (Int × Int × Int × Int × Dt)) : Dt := q.2.2.2.2
def hb_Mo_joinAll_35 (o : (Int × Int × Int × Int × Int × Dt) ⊕ ((Int × Int × Int × Int × Dt))) : Dt := match o with
  | .inl q => q.2.2.2.2.2
  | .inr r => he_Mo_joinAll_35 r
def he_Mo_joinAll_18 (q : (Int × Dt)) : Dt := q.2
def hb_Mo_joinAll_18 (o : (Int × Int × Int × Dt) ⊕ ((Int × Dt))) : Dt := match o with
  | .inl q => q.2.2.2
  | .inr r => he_Mo_joinAll_18 r
def he_Mo_joinAll_2 (q : (Dt)) : Dt := q
def hb_Mo_joinAll_2 (o : (Int × Dt) ⊕ ((Dt))) : Dt := match o with
  | .inl q => q.2
  | .inr r => he_Mo_joinAll_2 r
theorem fr_Mo_joinAll_b81 {o : (Int × Int × Int × Int × Int × Dt) ⊕ ((Int × Int × Int × Int × Dt))} (x1 x3 x4 x5 x6 : Int) (d : Dt) (hg : d GH 0 ≤ 6) (h : L_Mo_joinAll_b81 x1 x3 x4 x5 x6 d = some o) : Fr wo_Mo_joinAll [4, 5, 6, 56, 58] false d (hb_Mo_joinAll_35 o) := by
  have f0 : Fr wo_Mo_joinAll [4, 5, 6, 56, 58] false d d := Fr.rfl
  unfold L_Mo_joinAll_b81 at h
  obtain rfl := Option.some.inj h
  exact f0
theorem fr_Mo_joinAll_y35 {o : (Int × Int × Int × Int × Int × Dt) ⊕ ((Int × Int × Int × Int × Dt))} (x1 x3 x4 x5 x6 : Int) (d : Dt) (hg : d GH 0 ≤ 6) (h : L_Mo_joinAll_y35 x1 x3 x4 x5 x6 d = some o) : Fr wo_Mo_joinAll [4, 5, 6, 56, 58] false d (hb_Mo_joinAll_35 o) := by
  have f0 : Fr wo_Mo_joinAll [4, 5, 6, 56, 58] false d d := Fr.rfl
  unfold L_Mo_joinAll_y35 at h
  obtain ⟨hb1_, h⟩ := ck_some h
  rcases ite_some h with ⟨hc3_, h⟩ | ⟨hc3_, h⟩
  · rcases ite_some h with ⟨hc4_, h⟩ | ⟨hc4_, h⟩
    · obtain ⟨r6_, d5_, hr7_, h⟩ := bd_some h
      have fd5_ : Fr wo_Mo_joinAll [4, 5, 6, 56, 58] false d d5_ := Fr.tr f0 (fr_Mo_paired x1 x4 x3 x6 d (Fr.g f0 hg) hr7_) (by decide) (by decide) (by decide)
      obtain ⟨hb9_, h⟩ := ck_some h
      rcases ite_some h with ⟨hc11_, h⟩ | ⟨hc11_, h⟩
      · exact Fr.tr0 fd5_ (fr_Mo_joinAll_b81 x1 x3 x4 x6 x6 d5_ (Fr.g fd5_ hg) h)
      · exact Fr.tr0 fd5_ (fr_Mo_joinAll_b81 x1 x3 x4 x5 x6 d5_ (Fr.g fd5_ hg) h)
    · obtain rfl := Option.some.inj h
      exact f0
  · obtain rfl := Option.some.inj h
    exact f0
theorem fr_Mo_joinAll_l35 {x : (Int × Int × Int × Int × Dt)} (x1 x3 x4 x5 x6 : Int) (d : Dt) (hg : d GH 0 ≤ 6) (h : L_Mo_joinAll_l35 x1 x3 x4 x5 x6 d = some x) : Fr wo_Mo_joinAll [4, 5, 6, 56, 58] false d (he_Mo_joinAll_35 x) :=
  lpF_fr (f := fun q : Int × Int × Int × Int × Int × Dt => L_Mo_joinAll_y35 q.1 q.2.1 q.2.2.1 q.2.2.2.1 q.2.2.2.2.1 q.2.2.2.2.2) (fun q => q.2.2.2.2.2) he_Mo_joinAll_35 (fun q x hq hx => ⟨fun q2 e2 => by subst e2; exact fr_Mo_joinAll_y35 q.1 q.2.1 q.2.2.1 q.2.2.2.1 q.2.2.2.2.1 q.2.2.2.2.2 hq hx, fun r2 e2 => by subst e2; exact fr_Mo_joinAll_y35 q.1 q.2.1 q.2.2.1 q.2.2.2.1 q.2.2.2.2.1 q.2.2.2.2.2 hq hx⟩) FU _ x hg h
theorem fr_Mo_joinAll_b114 {o : (Int × Int × Int × Dt) ⊕ ((Int × Dt))} (x1 x3 x4 : Int) (d : Dt) (hg : d GH 0 ≤ 6) (h : L_Mo_joinAll_b114 x1 x3 x4 d = some o) : Fr wo_Mo_joinAll [4, 5, 6, 56, 58] false d (hb_Mo_joinAll_18 o) := by
  have f0 : Fr wo_Mo_joinAll [4, 5, 6, 56, 58] false d d := Fr.rfl
  unfold L_Mo_joinAll_b114 at h
  obtain rfl := Option.some.inj h
  exact f0
theorem fr_Mo_joinAll_b87 {o : (Int × Int × Int × Dt) ⊕ ((Int × Dt))} (x1 x3 x4 x5 : Int) (d : Dt) (hg : d GH 0 ≤ 6) (h : L_Mo_joinAll_b87 x1 x3 x4 x5 d = some o) : Fr wo_Mo_joinAll [4, 5, 6, 56, 58] false d (hb_Mo_joinAll_18 o) := by
  have f0 : Fr wo_Mo_joinAll [4, 5, 6, 56, 58] false d d := Fr.rfl
  unfold L_Mo_joinAll_b87 at h
  obtain ⟨hb12_, h⟩ := ck_some h
  rcases ite_some h with ⟨hc13_, h⟩ | ⟨hc13_, h⟩
  · exact Fr.tr0 (Fr.upa f0 rfl (by decide)) (fr_Mo_joinAll_b114 x1 x3 x4 (up2 d 56 ((w32 ((w32 (30 * (w32 (x1 - 1)))) + x4))).toNat x5) (Fr.g (Fr.upa f0 rfl (by decide)) hg) h)
  · obtain ⟨v14_, ev15_, h⟩ := lt_some h
    exact Fr.tr0 (Fr.upa f0 rfl (by decide)) (fr_Mo_joinAll_b114 x1 v14_ x4 (up2 d 56 ((w32 ((w32 (30 * (w32 (x1 - 1)))) + x4))).toNat x5) (Fr.g (Fr.upa f0 rfl (by decide)) hg) h)
theorem fr_Mo_joinAll_y18 {o : (Int × Int × Int × Dt) ⊕ ((Int × Dt))} (x1 x3 x4 : Int) (d : Dt) (hg : d GH 0 ≤ 6) (h : L_Mo_joinAll_y18 x1 x3 x4 d = some o) : Fr wo_Mo_joinAll [4, 5, 6, 56, 58] false d (hb_Mo_joinAll_18 o) := by
  have f0 : Fr wo_Mo_joinAll [4, 5, 6, 56, 58] false d d := Fr.rfl
  unfold L_Mo_joinAll_y18 at h
  rcases ite_some h with ⟨hc18_, h⟩ | ⟨hc18_, h⟩
  · obtain ⟨x19_, hx20_, h⟩ := lb_some h
    have fx19_ := Fr.tr0 f0 (fr_Mo_joinAll_l35 x1 x3 x4 (-1) x3 d (Fr.g f0 hg) hx20_)
    obtain ⟨v21_, v22_, v23_, v24_, d25_⟩ := x19_
    have fd25_ : Fr wo_Mo_joinAll [4, 5, 6, 56, 58] false d d25_ := fx19_
    replace h := u4_e h
    exact Fr.tr0 fd25_ (fr_Mo_joinAll_b87 v21_ v22_ v23_ v24_ d25_ (Fr.g fd25_ hg) h)
  · obtain rfl := Option.some.inj h
    exact f0
theorem fr_Mo_joinAll_l18 {x : (Int × Dt)} (x1 x3 x4 : Int) (d : Dt) (hg : d GH 0 ≤ 6) (h : L_Mo_joinAll_l18 x1 x3 x4 d = some x) : Fr wo_Mo_joinAll [4, 5, 6, 56, 58] false d (he_Mo_joinAll_18 x) :=
  lpF_fr (f := fun q : Int × Int × Int × Dt => L_Mo_joinAll_y18 q.1 q.2.1 q.2.2.1 q.2.2.2) (fun q => q.2.2.2) he_Mo_joinAll_18 (fun q x hq hx => ⟨fun q2 e2 => by subst e2; exact fr_Mo_joinAll_y18 q.1 q.2.1 q.2.2.1 q.2.2.2 hq hx, fun r2 e2 => by subst e2; exact fr_Mo_joinAll_y18 q.1 q.2.1 q.2.2.1 q.2.2.2 hq hx⟩) FU _ x hg h
theorem fr_Mo_joinAll_y2 {o : (Int × Dt) ⊕ ((Dt))} (x1 : Int) (d : Dt) (hg : d GH 0 ≤ 6) (h : L_Mo_joinAll_y2 x1 d = some o) : Fr wo_Mo_joinAll [4, 5, 6, 56, 58] false d (hb_Mo_joinAll_2 o) := by
  have f0 : Fr wo_Mo_joinAll [4, 5, 6, 56, 58] false d d := Fr.rfl
  unfold L_Mo_joinAll_y2 at h
  rcases ite_some h with ⟨hc28_, h⟩ | ⟨hc28_, h⟩
  · obtain rfl := Option.some.inj h
    exact f0
  · obtain ⟨r30_, d29_, hr31_, h⟩ := bd_some h
    have fd29_ : Fr wo_Mo_joinAll [4, 5, 6, 56, 58] false d d29_ := Fr.tr f0 (fr_Mo_pairing x1 d (Fr.g f0 hg) hr31_) (by decide) (by decide) (by decide)
    obtain ⟨x33_, hx34_, h⟩ := lb_some h
    have fx33_ := Fr.tr0 fd29_ (fr_Mo_joinAll_l18 x1 0 0 d29_ (Fr.g fd29_ hg) hx34_)
    obtain ⟨v35_, d36_⟩ := x33_
    have fd36_ : Fr wo_Mo_joinAll [4, 5, 6, 56, 58] false d d36_ := fx33_
    replace h := u1_e h
    obtain rfl := Option.some.inj h
    exact fd36_
theorem fr_Mo_joinAll_l2 {x : (Dt)} (x1 : Int) (d : Dt) (hg : d GH 0 ≤ 6) (h : L_Mo_joinAll_l2 x1 d = some x) : Fr wo_Mo_joinAll [4, 5, 6, 56, 58] false d (he_Mo_joinAll_2 x) :=
  lpF_fr (f := fun q : Int × Dt => L_Mo_joinAll_y2 q.1 q.2) (fun q => q.2) he_Mo_joinAll_2 (fun q x hq hx => ⟨fun q2 e2 => by subst e2; exact fr_Mo_joinAll_y2 q.1 q.2 hq hx, fun r2 e2 => by subst e2; exact fr_Mo_joinAll_y2 q.1 q.2 hq hx⟩) FU _ x hg h
theorem fr_Mo_joinAll {r : Int} {d' : Dt} (d : Dt) (hg : d GH 0 ≤ 6) (h : L_Mo_joinAll d = some (r, d')) : Fr wo_Mo_joinAll [4, 5, 6, 56, 58] false d d' := by
  have f0 : Fr wo_Mo_joinAll [4, 5, 6, 56, 58] false d d := Fr.rfl
  unfold L_Mo_joinAll at h
  obtain ⟨x39_, hx40_, h⟩ := lb_some h
  have fx39_ := Fr.tr0 f0 (fr_Mo_joinAll_l2 1 d (Fr.g f0 hg) hx40_)
  obtain ⟨d41_, rfl⟩ : ∃ z, z = x39_ := ⟨_, rfl⟩
  have fd41_ : Fr wo_Mo_joinAll [4, 5, 6, 56, 58] false d d41_ := fx39_
  replace h := u0_e h
  obtain ⟨rfl, rfl⟩ := ret_inj h
  exact fd41_
/-! frames of Mo_mate -/
def wo_Mo_mate : List (Nat × Nat) := [(0, 0)]
theorem fr_Mo_mate_b15 {r : Int} {d' : Dt} (d : Dt) (hg : d GH 0 ≤ 6) (h : L_Mo_mate_b15 d = some (r, d')) : Fr wo_Mo_mate [4, 5, 6, 56, 58] false d d' := by
  have f0 : Fr wo_Mo_mate [4, 5, 6, 56, 58] false d d := Fr.rfl
  unfold L_Mo_mate_b15 at h
  obtain ⟨r2_, d1_, hr3_, h⟩ := bd_some h
  have fd1_ : Fr wo_Mo_mate [4, 5, 6, 56, 58] false d d1_ := Fr.tr f0 (fr_Mo_refuse 1 d (Fr.g f0 hg) hr3_) (by decide) (by decide) (by decide)
  obtain ⟨rfl, rfl⟩ := ret_inj h
  exact fd1_
theorem fr_Mo_mate {r : Int} {d' : Dt} (p1 p2 : Int) (d : Dt) (hg : d GH 0 ≤ 6) (h : L_Mo_mate p1 p2 d = some (r, d')) : Fr wo_Mo_mate [4, 5, 6, 56, 58] false d d' := by
  have f0 : Fr wo_Mo_mate [4, 5, 6, 56, 58] false d d := Fr.rfl
  unfold L_Mo_mate at h
  obtain ⟨r6_, d5_, hr7_, h⟩ := bd_some h
  have fd5_ : Fr wo_Mo_mate [4, 5, 6, 56, 58] false d d5_ := Fr.tr f0 (fr_Mo_isOther p1 d (Fr.g f0 hg) hr7_) (by decide) (by decide) (by decide)
  rcases ite_some h with ⟨hc9_, h⟩ | ⟨hc9_, h⟩
  · exact Fr.tr0 fd5_ (fr_Mo_mate_b15  d5_ (Fr.g fd5_ hg) h)
  · obtain ⟨r11_, d10_, hr12_, h⟩ := bd_some h
    have fd10_ : Fr wo_Mo_mate [4, 5, 6, 56, 58] false d d10_ := Fr.tr fd5_ (fr_Mo_isEntry p2 d5_ (Fr.g fd5_ hg) hr12_) (by decide) (by decide) (by decide)
    rcases ite_some h with ⟨hc14_, h⟩ | ⟨hc14_, h⟩
    · exact Fr.tr0 fd10_ (fr_Mo_mate_b15  d10_ (Fr.g fd10_ hg) h)
    · obtain ⟨r16_, d15_, hr17_, h⟩ := bd_some h
      have fd15_ : Fr wo_Mo_mate [4, 5, 6, 56, 58] false d d15_ := Fr.tr fd10_ (fr_Mo_joinAll  d10_ (Fr.g fd10_ hg) hr17_) (by decide) (by decide) (by decide)
      obtain ⟨hb19_, h⟩ := ck_some h
      obtain ⟨v21_, ev22_, h⟩ := lt_some h
      rcases ite_some h with ⟨hc24_, h⟩ | ⟨hc24_, h⟩
      · obtain ⟨r26_, d25_, hr27_, h⟩ := bd_some h
        have fd25_ : Fr wo_Mo_mate [4, 5, 6, 56, 58] false d d25_ := Fr.tr fd15_ (fr_Mo_refuse 6 d15_ (Fr.g fd15_ hg) hr27_) (by decide) (by decide) (by decide)
        obtain ⟨rfl, rfl⟩ := ret_inj h
        exact fd25_
      · obtain ⟨r30_, d29_, hr31_, h⟩ := bd_some h
        have fd29_ : Fr wo_Mo_mate [4, 5, 6, 56, 58] false d d29_ := Fr.tr fd15_ (fr_Mo_gives v21_ d15_ (Fr.g fd15_ hg) hr31_) (by decide) (by decide) (by decide)
        obtain ⟨rfl, rfl⟩ := ret_inj h
        exact fd29_
/-! frames of Mo_setOf -/
def wo_Mo_setOf : List (Nat × Nat) := []
def he_Mo_setOf_27 (q : (Int × Int × Int × Int × Int × Dt)) : Dt := q.2.2.2.2.2
def hb_Mo_setOf_27 (o : (Int × Int × Int × Int × Int × Int × Dt) ⊕ ((Int × Int × Int × Int × Int × Dt))) : Dt := match o with
  | .inl q => q.2.2.2.2.2.2
  | .inr r => he_Mo_setOf_27 r
def he_Mo_setOf_4 (q : (Int × Dt)) : Dt := q.2
def hb_Mo_setOf_4 (o : (Int × Int × Int × Dt) ⊕ ((Int × Dt))) : Dt := match o with
  | .inl q => q.2.2.2
  | .inr r => he_Mo_setOf_4 r
theorem fr_Mo_setOf_b83 {o : (Int × Int × Int × Int × Int × Int × Dt) ⊕ ((Int × Int × Int × Int × Int × Dt))} (x1 x2 x3 x4 x5 x6 : Int) (d : Dt) (hg : d GH 0 ≤ 6) (h : L_Mo_setOf_b83 x1 x2 x3 x4 x5 x6 d = some o) : Fr wo_Mo_setOf [] false d (hb_Mo_setOf_27 o) := by
  have f0 : Fr wo_Mo_setOf [] false d d := Fr.rfl
  unfold L_Mo_setOf_b83 at h
  obtain rfl := Option.some.inj h
  exact f0
theorem fr_Mo_setOf_y27 {o : (Int × Int × Int × Int × Int × Int × Dt) ⊕ ((Int × Int × Int × Int × Int × Dt))} (x1 x2 x3 x4 x5 x6 : Int) (d : Dt) (hg : d GH 0 ≤ 6) (h : L_Mo_setOf_y27 x1 x2 x3 x4 x5 x6 d = some o) : Fr wo_Mo_setOf [] false d (hb_Mo_setOf_27 o) := by
  have f0 : Fr wo_Mo_setOf [] false d d := Fr.rfl
  unfold L_Mo_setOf_y27 at h
  rcases ite_some h with ⟨hc1_, h⟩ | ⟨hc1_, h⟩
  · obtain rfl := Option.some.inj h
    exact f0
  · obtain ⟨hb2_, h⟩ := ck_some h
    obtain ⟨v4_, ev5_, h⟩ := lt_some h
    rcases ite_some h with ⟨hc7_, h⟩ | ⟨hc7_, h⟩
    · exact Fr.tr0 f0 (fr_Mo_setOf_b83 x1 x2 x3 x4 x5 x6 d (Fr.g f0 hg) h)
    · obtain ⟨hb8_, h⟩ := ck_some h
      obtain ⟨v10_, ev11_, h⟩ := lt_some h
      exact Fr.tr0 f0 (fr_Mo_setOf_b83 x1 x2 x3 (w32 (x4 + 1)) v10_ x6 d (Fr.g f0 hg) h)
theorem fr_Mo_setOf_l27 {x : (Int × Int × Int × Int × Int × Dt)} (x1 x2 x3 x4 x5 x6 : Int) (d : Dt) (hg : d GH 0 ≤ 6) (h : L_Mo_setOf_l27 x1 x2 x3 x4 x5 x6 d = some x) : Fr wo_Mo_setOf [] false d (he_Mo_setOf_27 x) :=
  lpF_fr (f := fun q : Int × Int × Int × Int × Int × Int × Dt => L_Mo_setOf_y27 q.1 q.2.1 q.2.2.1 q.2.2.2.1 q.2.2.2.2.1 q.2.2.2.2.2.1 q.2.2.2.2.2.2) (fun q => q.2.2.2.2.2.2) he_Mo_setOf_27 (fun q x hq hx => ⟨fun q2 e2 => by subst e2; exact fr_Mo_setOf_y27 q.1 q.2.1 q.2.2.1 q.2.2.2.1 q.2.2.2.2.1 q.2.2.2.2.2.1 q.2.2.2.2.2.2 hq hx, fun r2 e2 => by subst e2; exact fr_Mo_setOf_y27 q.1 q.2.1 q.2.2.1 q.2.2.2.1 q.2.2.2.2.1 q.2.2.2.2.2.1 q.2.2.2.2.2.2 hq hx⟩) FU _ x hg h
theorem fr_Mo_setOf_b141 {o : (Int × Int × Int × Dt) ⊕ ((Int × Dt))} (x1 x3 s0 s1 : Int) (d : Dt) (hg : d GH 0 ≤ 6) (h : L_Mo_setOf_b141 x1 x3 s0 s1 d = some o) : Fr wo_Mo_setOf [] false d (hb_Mo_setOf_4 o) := by
  have f0 : Fr wo_Mo_setOf [] false d d := Fr.rfl
  unfold L_Mo_setOf_b141 at h
  obtain ⟨v13_, ev14_, h⟩ := lt_some h
  obtain rfl := Option.some.inj h
  exact f0
theorem fr_Mo_setOf_b126 {o : (Int × Int × Int × Dt) ⊕ ((Int × Dt))} (x1 x2 x3 s0 : Int) (d : Dt) (hg : d GH 0 ≤ 6) (h : L_Mo_setOf_b126 x1 x2 x3 s0 d = some o) : Fr wo_Mo_setOf [] false d (hb_Mo_setOf_4 o) := by
  have f0 : Fr wo_Mo_setOf [] false d d := Fr.rfl
  unfold L_Mo_setOf_b126 at h
  rcases ite_some h with ⟨hc16_, h⟩ | ⟨hc16_, h⟩
  · exact Fr.tr0 f0 (fr_Mo_setOf_b141 x1 x3 x2 0 d (Fr.g f0 hg) h)
  · exact Fr.tr0 f0 (fr_Mo_setOf_b141 x1 x3 x2 (ishl 1 x3) d (Fr.g f0 hg) h)
theorem fr_Mo_setOf_y4 {o : (Int × Int × Int × Dt) ⊕ ((Int × Dt))} (x1 x2 x3 : Int) (d : Dt) (hg : d GH 0 ≤ 6) (h : L_Mo_setOf_y4 x1 x2 x3 d = some o) : Fr wo_Mo_setOf [] false d (hb_Mo_setOf_4 o) := by
  have f0 : Fr wo_Mo_setOf [] false d d := Fr.rfl
  unfold L_Mo_setOf_y4 at h
  rcases ite_some h with ⟨hc17_, h⟩ | ⟨hc17_, h⟩
  · obtain ⟨hb18_, h⟩ := ck_some h
    obtain ⟨v20_, ev21_, h⟩ := lt_some h
    obtain ⟨x23_, hx24_, h⟩ := lb_some h
    have fx23_ := Fr.tr0 f0 (fr_Mo_setOf_l27 x1 x2 x3 1 v20_ 1 d (Fr.g f0 hg) hx24_)
    obtain ⟨v25_, v26_, v27_, v28_, v29_, d30_⟩ := x23_
    have fd30_ : Fr wo_Mo_setOf [] false d d30_ := fx23_
    replace h := u5_e h
    rcases ite_some h with ⟨hc32_, h⟩ | ⟨hc32_, h⟩
    · exact Fr.tr0 fd30_ (fr_Mo_setOf_b126 v25_ v26_ v27_ 1 d30_ (Fr.g fd30_ hg) h)
    · rcases ite_some h with ⟨hc33_, h⟩ | ⟨hc33_, h⟩
      · obtain ⟨hb34_, h⟩ := ck_some h
        rcases ite_some h with ⟨hc36_, h⟩ | ⟨hc36_, h⟩
        · exact Fr.tr0 fd30_ (fr_Mo_setOf_b126 v25_ v26_ v27_ 1 d30_ (Fr.g fd30_ hg) h)
        · exact Fr.tr0 fd30_ (fr_Mo_setOf_b126 v25_ v26_ v27_ 0 d30_ (Fr.g fd30_ hg) h)
      · exact Fr.tr0 fd30_ (fr_Mo_setOf_b126 v25_ v26_ v27_ 0 d30_ (Fr.g fd30_ hg) h)
  · obtain rfl := Option.some.inj h
    exact f0
theorem fr_Mo_setOf_l4 {x : (Int × Dt)} (x1 x2 x3 : Int) (d : Dt) (hg : d GH 0 ≤ 6) (h : L_Mo_setOf_l4 x1 x2 x3 d = some x) : Fr wo_Mo_setOf [] false d (he_Mo_setOf_4 x) :=
  lpF_fr (f := fun q : Int × Int × Int × Dt => L_Mo_setOf_y4 q.1 q.2.1 q.2.2.1 q.2.2.2) (fun q => q.2.2.2) he_Mo_setOf_4 (fun q x hq hx => ⟨fun q2 e2 => by subst e2; exact fr_Mo_setOf_y4 q.1 q.2.1 q.2.2.1 q.2.2.2 hq hx, fun r2 e2 => by subst e2; exact fr_Mo_setOf_y4 q.1 q.2.1 q.2.2.1 q.2.2.2 hq hx⟩) FU _ x hg h
theorem fr_Mo_setOf {r : Int} {d' : Dt} (p1 : Int) (d : Dt) (hg : d GH 0 ≤ 6) (h : L_Mo_setOf p1 d = some (r, d')) : Fr wo_Mo_setOf [] false d d' := by
  have f0 : Fr wo_Mo_setOf [] false d d := Fr.rfl
  unfold L_Mo_setOf at h
  obtain ⟨x38_, hx39_, h⟩ := lb_some h
  have fx38_ := Fr.tr0 f0 (fr_Mo_setOf_l4 p1 0 0 d (Fr.g f0 hg) hx39_)
  obtain ⟨v40_, d41_⟩ := x38_
  have fd41_ : Fr wo_Mo_setOf [] false d d41_ := fx38_
  replace h := u1_e h
  obtain ⟨rfl, rfl⟩ := ret_inj h
  exact fd41_
/-! frames of Mo_joined -/
def wo_Mo_joined : List (Nat × Nat) := [(0, 0)]
theorem fr_Mo_joined {r : Int} {d' : Dt} (p1 : Int) (d : Dt) (hg : d GH 0 ≤ 6) (h : L_Mo_joined p1 d = some (r, d')) : Fr wo_Mo_joined [4, 5, 6, 56, 58] false d d' := by
  have f0 : Fr wo_Mo_joined [4, 5, 6, 56, 58] false d d := Fr.rfl
  unfold L_Mo_joined at h
  obtain ⟨r2_, d1_, hr3_, h⟩ := bd_some h
  have fd1_ : Fr wo_Mo_joined [4, 5, 6, 56, 58] false d d1_ := Fr.tr f0 (fr_Mo_isEntry p1 d (Fr.g f0 hg) hr3_) (by decide) (by decide) (by decide)
  rcases ite_some h with ⟨hc5_, h⟩ | ⟨hc5_, h⟩
  · obtain ⟨r7_, d6_, hr8_, h⟩ := bd_some h
    have fd6_ : Fr wo_Mo_joined [4, 5, 6, 56, 58] false d d6_ := Fr.tr fd1_ (fr_Mo_refuse 1 d1_ (Fr.g fd1_ hg) hr8_) (by decide) (by decide) (by decide)
    obtain ⟨rfl, rfl⟩ := ret_inj h
    exact fd6_
  · obtain ⟨r11_, d10_, hr12_, h⟩ := bd_some h
    have fd10_ : Fr wo_Mo_joined [4, 5, 6, 56, 58] false d d10_ := Fr.tr fd1_ (fr_Mo_joinAll  d1_ (Fr.g fd1_ hg) hr12_) (by decide) (by decide) (by decide)
    obtain ⟨r15_, d14_, hr16_, h⟩ := bd_some h
    have fd14_ : Fr wo_Mo_joined [4, 5, 6, 56, 58] false d d14_ := Fr.tr fd10_ (fr_Mo_setOf p1 d10_ (Fr.g fd10_ hg) hr16_) (by decide) (by decide) (by decide)
    obtain ⟨r19_, d18_, hr20_, h⟩ := bd_some h
    have fd18_ : Fr wo_Mo_joined [4, 5, 6, 56, 58] false d d18_ := Fr.tr fd14_ (fr_Mo_gives r15_ d14_ (Fr.g fd14_ hg) hr20_) (by decide) (by decide) (by decide)
    obtain ⟨rfl, rfl⟩ := ret_inj h
    exact fd18_
/-! frames of Mo_isCandidate -/
def wo_Mo_isCandidate : List (Nat × Nat) := []
theorem fr_Mo_isCandidate {r : Int} {d' : Dt} (p1 : Int) (d : Dt) (hg : d GH 0 ≤ 6) (h : L_Mo_isCandidate p1 d = some (r, d')) : Fr wo_Mo_isCandidate [] false d d' := by
  have f0 : Fr wo_Mo_isCandidate [] false d d := Fr.rfl
  unfold L_Mo_isCandidate at h
  rcases ite_some h with ⟨hc1_, h⟩ | ⟨hc1_, h⟩
  · obtain ⟨rfl, rfl⟩ := ret_inj h
    exact f0
  · rcases ite_some h with ⟨hc2_, h⟩ | ⟨hc2_, h⟩
    · obtain ⟨rfl, rfl⟩ := ret_inj h
      exact f0
    · obtain ⟨rfl, rfl⟩ := ret_inj h
      exact f0
/-! frames of Mo_tally -/
def wo_Mo_tally : List (Nat × Nat) := [(0, 0)]
def he_Mo_tally_48 (q : (Int × Dt)) : Dt := q.2
def hb_Mo_tally_48 (o : (Int × Int × Int × Int × Int × Dt) ⊕ ((Int × Dt))) : Dt := match o with
  | .inl q => q.2.2.2.2.2
  | .inr r => he_Mo_tally_48 r
theorem fr_Mo_tally_b82 {o : (Int × Int × Int × Int × Int × Dt) ⊕ ((Int × Dt))} (x1 x2 x4 x5 s0 s1 : Int) (d : Dt) (hg : d GH 0 ≤ 6) (h : L_Mo_tally_b82 x1 x2 x4 x5 s0 s1 d = some o) : Fr wo_Mo_tally [4, 5, 6, 56, 58] false d (hb_Mo_tally_48 o) := by
  have f0 : Fr wo_Mo_tally [4, 5, 6, 56, 58] false d d := Fr.rfl
  unfold L_Mo_tally_b82 at h
  obtain ⟨v1_, ev2_, h⟩ := lt_some h
  obtain rfl := Option.some.inj h
  exact f0
theorem fr_Mo_tally_y48 {o : (Int × Int × Int × Int × Int × Dt) ⊕ ((Int × Dt))} (x1 x2 x3 x4 x5 : Int) (d : Dt) (hg : d GH 0 ≤ 6) (h : L_Mo_tally_y48 x1 x2 x3 x4 x5 d = some o) : Fr wo_Mo_tally [4, 5, 6, 56, 58] false d (hb_Mo_tally_48 o) := by
  have f0 : Fr wo_Mo_tally [4, 5, 6, 56, 58] false d d := Fr.rfl
  unfold L_Mo_tally_y48 at h
  rcases ite_some h with ⟨hc4_, h⟩ | ⟨hc4_, h⟩
  · rcases ite_some h with ⟨hc5_, h⟩ | ⟨hc5_, h⟩
    · obtain ⟨r7_, d6_, hr8_, h⟩ := bd_some h
      have fd6_ : Fr wo_Mo_tally [4, 5, 6, 56, 58] false d d6_ := Fr.tr f0 (fr_Mo_setOf x5 d (Fr.g f0 hg) hr8_) (by decide) (by decide) (by decide)
      exact Fr.tr0 fd6_ (fr_Mo_tally_b82 x1 x2 x4 x5 x3 r7_ d6_ (Fr.g fd6_ hg) h)
    · obtain ⟨hb10_, h⟩ := ck_some h
      exact Fr.tr0 f0 (fr_Mo_tally_b82 x1 x2 x4 x5 x3 (d 55 ((w32 ((w32 (30 * x1)) + x5))).toNat) d (Fr.g f0 hg) h)
  · obtain rfl := Option.some.inj h
    exact f0
theorem fr_Mo_tally_l48 {x : (Int × Dt)} (x1 x2 x3 x4 x5 : Int) (d : Dt) (hg : d GH 0 ≤ 6) (h : L_Mo_tally_l48 x1 x2 x3 x4 x5 d = some x) : Fr wo_Mo_tally [4, 5, 6, 56, 58] false d (he_Mo_tally_48 x) :=
  lpF_fr (f := fun q : Int × Int × Int × Int × Int × Dt => L_Mo_tally_y48 q.1 q.2.1 q.2.2.1 q.2.2.2.1 q.2.2.2.2.1 q.2.2.2.2.2) (fun q => q.2.2.2.2.2) he_Mo_tally_48 (fun q x hq hx => ⟨fun q2 e2 => by subst e2; exact fr_Mo_tally_y48 q.1 q.2.1 q.2.2.1 q.2.2.2.1 q.2.2.2.2.1 q.2.2.2.2.2 hq hx, fun r2 e2 => by subst e2; exact fr_Mo_tally_y48 q.1 q.2.1 q.2.2.1 q.2.2.2.1 q.2.2.2.2.1 q.2.2.2.2.2 hq hx⟩) FU _ x hg h
theorem fr_Mo_tally_b16 {r : Int} {d' : Dt} (d : Dt) (hg : d GH 0 ≤ 6) (h : L_Mo_tally_b16 d = some (r, d')) : Fr wo_Mo_tally [4, 5, 6, 56, 58] false d d' := by
  have f0 : Fr wo_Mo_tally [4, 5, 6, 56, 58] false d d := Fr.rfl
  unfold L_Mo_tally_b16 at h
  obtain ⟨r13_, d12_, hr14_, h⟩ := bd_some h
  have fd12_ : Fr wo_Mo_tally [4, 5, 6, 56, 58] false d d12_ := Fr.tr f0 (fr_Mo_refuse 1 d (Fr.g f0 hg) hr14_) (by decide) (by decide) (by decide)
  obtain ⟨rfl, rfl⟩ := ret_inj h
  exact fd12_
theorem fr_Mo_tally_b42 {r : Int} {d' : Dt} (x1 x2 x3 s1 : Int) (d : Dt) (hg : d GH 0 ≤ 6) (h : L_Mo_tally_b42 x1 x2 x3 s1 d = some (r, d')) : Fr wo_Mo_tally [4, 5, 6, 56, 58] false d d' := by
  have f0 : Fr wo_Mo_tally [4, 5, 6, 56, 58] false d d := Fr.rfl
  unfold L_Mo_tally_b42 at h
  obtain ⟨hb16_, h⟩ := ck_some h
  obtain ⟨v18_, ev19_, h⟩ := lt_some h
  obtain ⟨x21_, hx22_, h⟩ := lb_some h
  have fx21_ := Fr.tr0 f0 (fr_Mo_tally_l48 x1 x2 x3 v18_ 0 d (Fr.g f0 hg) hx22_)
  obtain ⟨v23_, d24_⟩ := x21_
  have fd24_ : Fr wo_Mo_tally [4, 5, 6, 56, 58] false d d24_ := fx21_
  replace h := u1_e h
  obtain ⟨r27_, d26_, hr28_, h⟩ := bd_some h
  have fd26_ : Fr wo_Mo_tally [4, 5, 6, 56, 58] false d d26_ := Fr.tr fd24_ (fr_Mo_gives v23_ d24_ (Fr.g fd24_ hg) hr28_) (by decide) (by decide) (by decide)
  obtain ⟨rfl, rfl⟩ := ret_inj h
  exact fd26_
theorem fr_Mo_tally {r : Int} {d' : Dt} (p1 p2 : Int) (d : Dt) (hg : d GH 0 ≤ 6) (h : L_Mo_tally p1 p2 d = some (r, d')) : Fr wo_Mo_tally [4, 5, 6, 56, 58] false d d' := by
  have f0 : Fr wo_Mo_tally [4, 5, 6, 56, 58] false d d := Fr.rfl
  unfold L_Mo_tally at h
  rcases ite_some h with ⟨hc31_, h⟩ | ⟨hc31_, h⟩
  · exact Fr.tr0 f0 (fr_Mo_tally_b16  d (Fr.g f0 hg) h)
  · rcases ite_some h with ⟨hc32_, h⟩ | ⟨hc32_, h⟩
    · exact Fr.tr0 f0 (fr_Mo_tally_b16  d (Fr.g f0 hg) h)
    · obtain ⟨r34_, d33_, hr35_, h⟩ := bd_some h
      have fd33_ : Fr wo_Mo_tally [4, 5, 6, 56, 58] false d d33_ := Fr.tr f0 (fr_Mo_isCandidate p2 d (Fr.g f0 hg) hr35_) (by decide) (by decide) (by decide)
      rcases ite_some h with ⟨hc37_, h⟩ | ⟨hc37_, h⟩
      · exact Fr.tr0 fd33_ (fr_Mo_tally_b16  d33_ (Fr.g fd33_ hg) h)
      · obtain ⟨r39_, d38_, hr40_, h⟩ := bd_some h
        have fd38_ : Fr wo_Mo_tally [4, 5, 6, 56, 58] false d d38_ := Fr.tr fd33_ (fr_Mo_joinAll  d33_ (Fr.g fd33_ hg) hr40_) (by decide) (by decide) (by decide)
        rcases ite_some h with ⟨hc42_, h⟩ | ⟨hc42_, h⟩
        · exact Fr.tr0 fd38_ (fr_Mo_tally_b42 p1 p2 0 0 d38_ (Fr.g fd38_ hg) h)
        · exact Fr.tr0 fd38_ (fr_Mo_tally_b42 p1 p2 0 p1 d38_ (Fr.g fd38_ hg) h)
/-! frames of Mo_reach -/
def wo_Mo_reach : List (Nat × Nat) := [(0, 0), (0, 79)]
theorem fr_Mo_reach_b10 {r : Int} {d' : Dt} (d : Dt) (hg : d GH 0 ≤ 6) (h : L_Mo_reach_b10 d = some (r, d')) : Fr wo_Mo_reach [] false d d' := by
  have f0 : Fr wo_Mo_reach [] false d d := Fr.rfl
  unfold L_Mo_reach_b10 at h
  obtain ⟨r2_, d1_, hr3_, h⟩ := bd_some h
  have fd1_ : Fr wo_Mo_reach [] false d d1_ := Fr.tr f0 (fr_Mo_is 1 d (Fr.g f0 hg) hr3_) (by decide) (by decide) (by decide)
  obtain ⟨rfl, rfl⟩ := ret_inj h
  exact fd1_
theorem fr_Mo_reach {r : Int} {d' : Dt} (p1 : Int) (d : Dt) (hg : d GH 0 ≤ 6) (h : L_Mo_reach p1 d = some (r, d')) : Fr wo_Mo_reach [] false d d' := by
  have f0 : Fr wo_Mo_reach [] false d d := Fr.rfl
  unfold L_Mo_reach at h
  rcases ite_some h with ⟨hc5_, h⟩ | ⟨hc5_, h⟩
  · exact Fr.tr0 f0 (fr_Mo_reach_b10  d (Fr.g f0 hg) h)
  · rcases ite_some h with ⟨hc6_, h⟩ | ⟨hc6_, h⟩
    · exact Fr.tr0 f0 (fr_Mo_reach_b10  d (Fr.g f0 hg) h)
    · obtain ⟨r8_, d7_, hr9_, h⟩ := bd_some h
      have fd7_ : Fr wo_Mo_reach [] false d d7_ := Fr.tr (Fr.upo f0 rfl (by decide)) (fr_Mo_is 0 (up2 d 0 79 p1) (Fr.g (Fr.upo f0 rfl (by decide)) hg) hr9_) (by decide) (by decide) (by decide)
      obtain ⟨rfl, rfl⟩ := ret_inj h
      exact fd7_
/-! frames of Mo_whoIs -/
def wo_Mo_whoIs : List (Nat × Nat) := [(0, 80)]
def he_Mo_whoIs_14 (q : (Int × Dt)) : Dt := q.2
def hb_Mo_whoIs_14 (o : (Int × Int × Int × Int × Dt) ⊕ ((Int × Dt))) : Dt := match o with
  | .inl q => q.2.2.2.2
  | .inr r => he_Mo_whoIs_14 r
theorem fr_Mo_whoIs_b121 {o : (Int × Int × Int × Int × Dt) ⊕ ((Int × Dt))} (x1 x2 x3 x4 : Int) (d : Dt) (hg : d GH 0 ≤ 6) (h : L_Mo_whoIs_b121 x1 x2 x3 x4 d = some o) : Fr wo_Mo_whoIs [4, 5, 6] false d (hb_Mo_whoIs_14 o) := by
  have f0 : Fr wo_Mo_whoIs [4, 5, 6] false d d := Fr.rfl
  unfold L_Mo_whoIs_b121 at h
  obtain rfl := Option.some.inj h
  exact f0
theorem fr_Mo_whoIs_b118 {o : (Int × Int × Int × Int × Dt) ⊕ ((Int × Dt))} (x1 x2 x4 x5 : Int) (d : Dt) (hg : d GH 0 ≤ 6) (h : L_Mo_whoIs_b118 x1 x2 x4 x5 d = some o) : Fr wo_Mo_whoIs [4, 5, 6] false d (hb_Mo_whoIs_14 o) := by
  have f0 : Fr wo_Mo_whoIs [4, 5, 6] false d d := Fr.rfl
  unfold L_Mo_whoIs_b118 at h
  exact Fr.tr0 f0 (fr_Mo_whoIs_b121 x1 x2 x5 x4 d (Fr.g f0 hg) h)
theorem fr_Mo_whoIs_b106 {o : (Int × Int × Int × Int × Dt) ⊕ ((Int × Dt))} (x1 x2 x3 x4 x5 s1 : Int) (d : Dt) (hg : d GH 0 ≤ 6) (h : L_Mo_whoIs_b106 x1 x2 x3 x4 x5 s1 d = some o) : Fr wo_Mo_whoIs [4, 5, 6] false d (hb_Mo_whoIs_14 o) := by
  have f0 : Fr wo_Mo_whoIs [4, 5, 6] false d d := Fr.rfl
  unfold L_Mo_whoIs_b106 at h
  rcases ite_some h with ⟨hc1_, h⟩ | ⟨hc1_, h⟩
  · exact Fr.tr0 (Fr.upo f0 rfl (by decide)) (fr_Mo_whoIs_b118 x1 x4 x4 x5 (up2 d 0 80 s1) (Fr.g (Fr.upo f0 rfl (by decide)) hg) h)
  · exact Fr.tr0 (Fr.upo f0 rfl (by decide)) (fr_Mo_whoIs_b118 x1 x2 x4 x5 (up2 d 0 80 s1) (Fr.g (Fr.upo f0 rfl (by decide)) hg) h)
theorem fr_Mo_whoIs_b73 {o : (Int × Int × Int × Int × Dt) ⊕ ((Int × Dt))} (x1 x2 x3 x4 s0 s1 : Int) (d : Dt) (hg : d GH 0 ≤ 6) (h : L_Mo_whoIs_b73 x1 x2 x3 x4 s0 s1 d = some o) : Fr wo_Mo_whoIs [4, 5, 6] false d (hb_Mo_whoIs_14 o) := by
  have f0 : Fr wo_Mo_whoIs [4, 5, 6] false d d := Fr.rfl
  unfold L_Mo_whoIs_b73 at h
  obtain ⟨v2_, ev3_, h⟩ := lt_some h
  rcases ite_some h with ⟨hc6_, h⟩ | ⟨hc6_, h⟩
  · exact Fr.tr0 f0 (fr_Mo_whoIs_b121 x1 x2 x3 x4 d (Fr.g f0 hg) h)
  · rcases ite_some h with ⟨hc7_, h⟩ | ⟨hc7_, h⟩
    · exact Fr.tr0 f0 (fr_Mo_whoIs_b121 x1 x2 x3 x4 d (Fr.g f0 hg) h)
    · rcases ite_some h with ⟨hc8_, h⟩ | ⟨hc8_, h⟩
      · exact Fr.tr0 f0 (fr_Mo_whoIs_b106 x1 x2 x3 x4 v2_ 1 d (Fr.g f0 hg) h)
      · exact Fr.tr0 f0 (fr_Mo_whoIs_b106 x1 x2 x3 x4 v2_ 0 d (Fr.g f0 hg) h)
theorem fr_Mo_whoIs_y14 {o : (Int × Int × Int × Int × Dt) ⊕ ((Int × Dt))} (x1 x2 x3 x4 : Int) (d : Dt) (hg : d GH 0 ≤ 6) (h : L_Mo_whoIs_y14 x1 x2 x3 x4 d = some o) : Fr wo_Mo_whoIs [4, 5, 6] false d (hb_Mo_whoIs_14 o) := by
  have f0 : Fr wo_Mo_whoIs [4, 5, 6] false d d := Fr.rfl
  unfold L_Mo_whoIs_y14 at h
  rcases ite_some h with ⟨hc10_, h⟩ | ⟨hc10_, h⟩
  · obtain ⟨hb11_, h⟩ := ck_some h
    obtain ⟨hb13_, h⟩ := ck_some h
    obtain ⟨r16_, d15_, hr17_, h⟩ := bd_some h
    have fd15_ : Fr wo_Mo_whoIs [4, 5, 6] false d d15_ := Fr.tr f0 (fr_Mo_farOf (d 57 x1.toNat) (d 7 x4.toNat) d (Fr.g f0 hg) hr17_) (by decide) (by decide) (by decide)
    obtain ⟨hb19_, h⟩ := ck_some h
    rcases ite_some h with ⟨hc21_, h⟩ | ⟨hc21_, h⟩
    · exact Fr.tr0 fd15_ (fr_Mo_whoIs_b73 x1 x2 x3 x4 (w32 (3 * r16_)) 0 d15_ (Fr.g fd15_ hg) h)
    · obtain ⟨hb22_, h⟩ := ck_some h
      obtain ⟨hb24_, h⟩ := ck_some h
      rcases ite_some h with ⟨hc26_, h⟩ | ⟨hc26_, h⟩
      · exact Fr.tr0 fd15_ (fr_Mo_whoIs_b73 x1 x2 x3 x4 (w32 (3 * r16_)) 0 d15_ (Fr.g fd15_ hg) h)
      · exact Fr.tr0 fd15_ (fr_Mo_whoIs_b73 x1 x2 x3 x4 (w32 (3 * r16_)) 2 d15_ (Fr.g fd15_ hg) h)
  · obtain rfl := Option.some.inj h
    exact f0
theorem fr_Mo_whoIs_l14 {x : (Int × Dt)} (x1 x2 x3 x4 : Int) (d : Dt) (hg : d GH 0 ≤ 6) (h : L_Mo_whoIs_l14 x1 x2 x3 x4 d = some x) : Fr wo_Mo_whoIs [4, 5, 6] false d (he_Mo_whoIs_14 x) :=
  lpF_fr (f := fun q : Int × Int × Int × Int × Dt => L_Mo_whoIs_y14 q.1 q.2.1 q.2.2.1 q.2.2.2.1 q.2.2.2.2) (fun q => q.2.2.2.2) he_Mo_whoIs_14 (fun q x hq hx => ⟨fun q2 e2 => by subst e2; exact fr_Mo_whoIs_y14 q.1 q.2.1 q.2.2.1 q.2.2.2.1 q.2.2.2.2 hq hx, fun r2 e2 => by subst e2; exact fr_Mo_whoIs_y14 q.1 q.2.1 q.2.2.1 q.2.2.2.1 q.2.2.2.2 hq hx⟩) FU _ x hg h
theorem fr_Mo_whoIs {r : Int} {d' : Dt} (p1 : Int) (d : Dt) (hg : d GH 0 ≤ 6) (h : L_Mo_whoIs p1 d = some (r, d')) : Fr wo_Mo_whoIs [4, 5, 6] false d d' := by
  have f0 : Fr wo_Mo_whoIs [4, 5, 6] false d d := Fr.rfl
  unfold L_Mo_whoIs at h
  obtain ⟨x27_, hx28_, h⟩ := lb_some h
  have fx27_ := Fr.tr0 (Fr.upo f0 rfl (by decide)) (fr_Mo_whoIs_l14 p1 (-1) 100000000 0 (up2 d 0 80 1) (Fr.g (Fr.upo f0 rfl (by decide)) hg) hx28_)
  obtain ⟨v29_, d30_⟩ := x27_
  have fd30_ : Fr wo_Mo_whoIs [4, 5, 6] false d d30_ := fx27_
  replace h := u1_e h
  obtain ⟨rfl, rfl⟩ := ret_inj h
  exact fd30_
/-! frames of Mo_who -/
def wo_Mo_who : List (Nat × Nat) := [(0, 0), (0, 80)]
theorem fr_Mo_who {r : Int} {d' : Dt} (p1 : Int) (d : Dt) (hg : d GH 0 ≤ 6) (h : L_Mo_who p1 d = some (r, d')) : Fr wo_Mo_who [4, 5, 6] false d d' := by
  have f0 : Fr wo_Mo_who [4, 5, 6] false d d := Fr.rfl
  unfold L_Mo_who at h
  obtain ⟨r2_, d1_, hr3_, h⟩ := bd_some h
  have fd1_ : Fr wo_Mo_who [4, 5, 6] false d d1_ := Fr.tr f0 (fr_Mo_isEntry p1 d (Fr.g f0 hg) hr3_) (by decide) (by decide) (by decide)
  rcases ite_some h with ⟨hc5_, h⟩ | ⟨hc5_, h⟩
  · obtain ⟨r7_, d6_, hr8_, h⟩ := bd_some h
    have fd6_ : Fr wo_Mo_who [4, 5, 6] false d d6_ := Fr.tr fd1_ (fr_Mo_refuse 1 d1_ (Fr.g fd1_ hg) hr8_) (by decide) (by decide) (by decide)
    obtain ⟨rfl, rfl⟩ := ret_inj h
    exact fd6_
  · obtain ⟨r11_, d10_, hr12_, h⟩ := bd_some h
    have fd10_ : Fr wo_Mo_who [4, 5, 6] false d d10_ := Fr.tr fd1_ (fr_Mo_whoIs p1 d1_ (Fr.g fd1_ hg) hr12_) (by decide) (by decide) (by decide)
    rcases ite_some h with ⟨hc14_, h⟩ | ⟨hc14_, h⟩
    · obtain ⟨r16_, d15_, hr17_, h⟩ := bd_some h
      have fd15_ : Fr wo_Mo_who [4, 5, 6] false d d15_ := Fr.tr fd10_ (fr_Mo_refuse 6 d10_ (Fr.g fd10_ hg) hr17_) (by decide) (by decide) (by decide)
      obtain ⟨rfl, rfl⟩ := ret_inj h
      exact fd15_
    · obtain ⟨r20_, d19_, hr21_, h⟩ := bd_some h
      have fd19_ : Fr wo_Mo_who [4, 5, 6] false d d19_ := Fr.tr fd10_ (fr_Mo_gives r11_ d10_ (Fr.g fd10_ hg) hr21_) (by decide) (by decide) (by decide)
      obtain ⟨rfl, rfl⟩ := ret_inj h
      exact fd19_
/-! frames of Mo_isTwice -/
def wo_Mo_isTwice : List (Nat × Nat) := [(0, 80)]
def he_Mo_isTwice_2 (r : (Dt) ⊕ (Dt)) : Dt := match r with
  | .inl q => q
  | .inr q => q
def hb_Mo_isTwice_2 (o : (Int × Int × Int × Dt) ⊕ ((Dt) ⊕ (Dt))) : Dt := match o with
  | .inl q => q.2.2.2
  | .inr r => he_Mo_isTwice_2 r
theorem fr_Mo_isTwice_y2 {o : (Int × Int × Int × Dt) ⊕ ((Dt) ⊕ (Dt))} (x1 x2 x3 : Int) (d : Dt) (hg : d GH 0 ≤ 6) (h : L_Mo_isTwice_y2 x1 x2 x3 d = some o) : Fr wo_Mo_isTwice [4, 5, 6] false d (hb_Mo_isTwice_2 o) := by
  have f0 : Fr wo_Mo_isTwice [4, 5, 6] false d d := Fr.rfl
  unfold L_Mo_isTwice_y2 at h
  rcases ite_some h with ⟨hc1_, h⟩ | ⟨hc1_, h⟩
  · obtain ⟨r3_, d2_, hr4_, h⟩ := bd_some h
    have fd2_ : Fr wo_Mo_isTwice [4, 5, 6] false d d2_ := Fr.tr f0 (fr_Mo_whoIs x3 d (Fr.g f0 hg) hr4_) (by decide) (by decide) (by decide)
    rcases ite_some h with ⟨hc6_, h⟩ | ⟨hc6_, h⟩
    · obtain rfl := Option.some.inj h
      exact fd2_
    · obtain rfl := Option.some.inj h
      exact fd2_
  · obtain rfl := Option.some.inj h
    exact f0
theorem fr_Mo_isTwice_l2 {x : (Dt) ⊕ (Dt)} (x1 x2 x3 : Int) (d : Dt) (hg : d GH 0 ≤ 6) (h : L_Mo_isTwice_l2 x1 x2 x3 d = some x) : Fr wo_Mo_isTwice [4, 5, 6] false d (he_Mo_isTwice_2 x) :=
  lpF_fr (f := fun q : Int × Int × Int × Dt => L_Mo_isTwice_y2 q.1 q.2.1 q.2.2.1 q.2.2.2) (fun q => q.2.2.2) he_Mo_isTwice_2 (fun q x hq hx => ⟨fun q2 e2 => by subst e2; exact fr_Mo_isTwice_y2 q.1 q.2.1 q.2.2.1 q.2.2.2 hq hx, fun r2 e2 => by subst e2; exact fr_Mo_isTwice_y2 q.1 q.2.1 q.2.2.1 q.2.2.2 hq hx⟩) FU _ x hg h
theorem fr_Mo_isTwice {r : Int} {d' : Dt} (p1 p2 : Int) (d : Dt) (hg : d GH 0 ≤ 6) (h : L_Mo_isTwice p1 p2 d = some (r, d')) : Fr wo_Mo_isTwice [4, 5, 6] false d d' := by
  have f0 : Fr wo_Mo_isTwice [4, 5, 6] false d d := Fr.rfl
  unfold L_Mo_isTwice at h
  obtain ⟨x7_, hx8_, h⟩ := lb_some h
  have fx7_ := Fr.tr0 f0 (fr_Mo_isTwice_l2 p1 p2 0 d (Fr.g f0 hg) hx8_)
  rcases x7_ with d9_ | d11_
  · have fd9_ : Fr wo_Mo_isTwice [4, 5, 6] false d d9_ := fx7_
    replace h := sml_e h
    replace h := u0_e h
    obtain ⟨rfl, rfl⟩ := ret_inj h
    exact fd9_
  · have fd11_ : Fr wo_Mo_isTwice [4, 5, 6] false d d11_ := fx7_
    replace h := smr_e h
    replace h := u0_e h
    obtain ⟨rfl, rfl⟩ := ret_inj h
    exact fd11_
/-! frames of Mo_sure -/
def wo_Mo_sure : List (Nat × Nat) := [(0, 0), (0, 80)]
theorem fr_Mo_sure_b17 {r : Int} {d' : Dt} (d : Dt) (hg : d GH 0 ≤ 6) (h : L_Mo_sure_b17 d = some (r, d')) : Fr wo_Mo_sure [4, 5, 6] false d d' := by
  have f0 : Fr wo_Mo_sure [4, 5, 6] false d d := Fr.rfl
  unfold L_Mo_sure_b17 at h
  obtain ⟨r2_, d1_, hr3_, h⟩ := bd_some h
  have fd1_ : Fr wo_Mo_sure [4, 5, 6] false d d1_ := Fr.tr f0 (fr_Mo_refuse 1 d (Fr.g f0 hg) hr3_) (by decide) (by decide) (by decide)
  obtain ⟨rfl, rfl⟩ := ret_inj h
  exact fd1_
theorem fr_Mo_sure_b74 {r : Int} {d' : Dt} (s1 : Int) (d : Dt) (hg : d GH 0 ≤ 6) (h : L_Mo_sure_b74 s1 d = some (r, d')) : Fr wo_Mo_sure [4, 5, 6] false d d' := by
  have f0 : Fr wo_Mo_sure [4, 5, 6] false d d := Fr.rfl
  unfold L_Mo_sure_b74 at h
  obtain ⟨r6_, d5_, hr7_, h⟩ := bd_some h
  have fd5_ : Fr wo_Mo_sure [4, 5, 6] false d d5_ := Fr.tr f0 (fr_Mo_gives s1 d (Fr.g f0 hg) hr7_) (by decide) (by decide) (by decide)
  obtain ⟨rfl, rfl⟩ := ret_inj h
  exact fd5_
theorem fr_Mo_sure {r : Int} {d' : Dt} (p1 p2 : Int) (d : Dt) (hg : d GH 0 ≤ 6) (h : L_Mo_sure p1 p2 d = some (r, d')) : Fr wo_Mo_sure [4, 5, 6] false d d' := by
  have f0 : Fr wo_Mo_sure [4, 5, 6] false d d := Fr.rfl
  unfold L_Mo_sure at h
  obtain ⟨r10_, d9_, hr11_, h⟩ := bd_some h
  have fd9_ : Fr wo_Mo_sure [4, 5, 6] false d d9_ := Fr.tr f0 (fr_Mo_isEntry p1 d (Fr.g f0 hg) hr11_) (by decide) (by decide) (by decide)
  rcases ite_some h with ⟨hc13_, h⟩ | ⟨hc13_, h⟩
  · exact Fr.tr0 fd9_ (fr_Mo_sure_b17  d9_ (Fr.g fd9_ hg) h)
  · rcases ite_some h with ⟨hc14_, h⟩ | ⟨hc14_, h⟩
    · exact Fr.tr0 fd9_ (fr_Mo_sure_b17  d9_ (Fr.g fd9_ hg) h)
    · rcases ite_some h with ⟨hc15_, h⟩ | ⟨hc15_, h⟩
      · exact Fr.tr0 fd9_ (fr_Mo_sure_b17  d9_ (Fr.g fd9_ hg) h)
      · obtain ⟨r17_, d16_, hr18_, h⟩ := bd_some h
        have fd16_ : Fr wo_Mo_sure [4, 5, 6] false d d16_ := Fr.tr fd9_ (fr_Mo_whoIs p1 d9_ (Fr.g fd9_ hg) hr18_) (by decide) (by decide) (by decide)
        obtain ⟨v21_, ev22_, h⟩ := lt_some h
        rcases ite_some h with ⟨hc24_, h⟩ | ⟨hc24_, h⟩
        · obtain ⟨r26_, d25_, hr27_, h⟩ := bd_some h
          have fd25_ : Fr wo_Mo_sure [4, 5, 6] false d d25_ := Fr.tr fd16_ (fr_Mo_refuse 6 d16_ (Fr.g fd16_ hg) hr27_) (by decide) (by decide) (by decide)
          obtain ⟨rfl, rfl⟩ := ret_inj h
          exact fd25_
        · rcases ite_some h with ⟨hc29_, h⟩ | ⟨hc29_, h⟩
          · rcases ite_some h with ⟨hc30_, h⟩ | ⟨hc30_, h⟩
            · exact Fr.tr0 fd16_ (fr_Mo_sure_b74 0 d16_ (Fr.g fd16_ hg) h)
            · exact Fr.tr0 fd16_ (fr_Mo_sure_b74 1 d16_ (Fr.g fd16_ hg) h)
          · obtain ⟨r32_, d31_, hr33_, h⟩ := bd_some h
            have fd31_ : Fr wo_Mo_sure [4, 5, 6] false d d31_ := Fr.tr fd16_ (fr_Mo_isTwice p1 r17_ d16_ (Fr.g fd16_ hg) hr33_) (by decide) (by decide) (by decide)
            rcases ite_some h with ⟨hc35_, h⟩ | ⟨hc35_, h⟩
            · exact Fr.tr0 fd31_ (fr_Mo_sure_b74 0 d31_ (Fr.g fd31_ hg) h)
            · exact Fr.tr0 fd31_ (fr_Mo_sure_b74 1 d31_ (Fr.g fd31_ hg) h)
/-! frames of Mo_offer -/
def wo_Mo_offer : List (Nat × Nat) := [(0, 0), (0, 87)]
theorem fr_Mo_offer_b22 {r : Int} {d' : Dt} (d : Dt) (hg : d GH 0 ≤ 6) (h : L_Mo_offer_b22 d = some (r, d')) : Fr wo_Mo_offer [59, 60, 61] false d d' := by
  have f0 : Fr wo_Mo_offer [59, 60, 61] false d d := Fr.rfl
  unfold L_Mo_offer_b22 at h
  obtain ⟨r2_, d1_, hr3_, h⟩ := bd_some h
  have fd1_ : Fr wo_Mo_offer [59, 60, 61] false d d1_ := Fr.tr f0 (fr_Mo_refuse 1 d (Fr.g f0 hg) hr3_) (by decide) (by decide) (by decide)
  obtain ⟨rfl, rfl⟩ := ret_inj h
  exact fd1_
theorem fr_Mo_offer {r : Int} {d' : Dt} (p1 p2 p3 : Int) (d : Dt) (hg : d GH 0 ≤ 6) (h : L_Mo_offer p1 p2 p3 d = some (r, d')) : Fr wo_Mo_offer [59, 60, 61] false d d' := by
  have f0 : Fr wo_Mo_offer [59, 60, 61] false d d := Fr.rfl
  unfold L_Mo_offer at h
  obtain ⟨r6_, d5_, hr7_, h⟩ := bd_some h
  have fd5_ : Fr wo_Mo_offer [59, 60, 61] false d d5_ := Fr.tr f0 (fr_Mo_isPerson p1 d (Fr.g f0 hg) hr7_) (by decide) (by decide) (by decide)
  rcases ite_some h with ⟨hc9_, h⟩ | ⟨hc9_, h⟩
  · exact Fr.tr0 fd5_ (fr_Mo_offer_b22  d5_ (Fr.g fd5_ hg) h)
  · obtain ⟨r11_, d10_, hr12_, h⟩ := bd_some h
    have fd10_ : Fr wo_Mo_offer [59, 60, 61] false d d10_ := Fr.tr fd5_ (fr_Mo_isSet p2 d5_ (Fr.g fd5_ hg) hr12_) (by decide) (by decide) (by decide)
    rcases ite_some h with ⟨hc14_, h⟩ | ⟨hc14_, h⟩
    · exact Fr.tr0 fd10_ (fr_Mo_offer_b22  d10_ (Fr.g fd10_ hg) h)
    · obtain ⟨r16_, d15_, hr17_, h⟩ := bd_some h
      have fd15_ : Fr wo_Mo_offer [59, 60, 61] false d d15_ := Fr.tr fd10_ (fr_Mo_isMinute p3 d10_ (Fr.g fd10_ hg) hr17_) (by decide) (by decide) (by decide)
      rcases ite_some h with ⟨hc19_, h⟩ | ⟨hc19_, h⟩
      · exact Fr.tr0 fd15_ (fr_Mo_offer_b22  d15_ (Fr.g fd15_ hg) h)
      · rcases ite_some h with ⟨hc21_, h⟩ | ⟨hc21_, h⟩
        · obtain ⟨r23_, d22_, hr24_, h⟩ := bd_some h
          have fd22_ : Fr wo_Mo_offer [59, 60, 61] false d d22_ := Fr.tr fd15_ (fr_Mo_refuse 4 d15_ (Fr.g fd15_ hg) hr24_) (by decide) (by decide) (by decide)
          obtain ⟨rfl, rfl⟩ := ret_inj h
          exact fd22_
        · obtain ⟨hb27_, h⟩ := ck_some h
          obtain ⟨hb29_, h⟩ := ck_some h
          obtain ⟨hb31_, h⟩ := ck_some h
          obtain ⟨r35_, d34_, hr36_, h⟩ := bd_some h
          have fd34_ : Fr wo_Mo_offer [59, 60, 61] false d d34_ := Fr.tr (Fr.upo (Fr.upa (Fr.upa (Fr.upa fd15_ rfl (by decide)) rfl (by decide)) rfl (by decide)) rfl (by decide)) (fr_Mo_gives (w32 ((w32 ((d15_ 0 87) + 1)) - 1)) (up2 (up2 (up2 (up2 d15_ 59 ((d15_ 0 87)).toNat p1) 60 ((d15_ 0 87)).toNat p2) 61 ((d15_ 0 87)).toNat p3) 0 87 (w32 ((d15_ 0 87) + 1))) (Fr.g (Fr.upo (Fr.upa (Fr.upa (Fr.upa fd15_ rfl (by decide)) rfl (by decide)) rfl (by decide)) rfl (by decide)) hg) hr36_) (by decide) (by decide) (by decide)
          obtain ⟨rfl, rfl⟩ := ret_inj h
          exact fd34_
/-! frames of Mo_bits -/
def wo_Mo_bits : List (Nat × Nat) := []
def he_Mo_bits_4 (q : (Int × Dt)) : Dt := q.2
def hb_Mo_bits_4 (o : (Int × Int × Dt) ⊕ ((Int × Dt))) : Dt := match o with
  | .inl q => q.2.2
  | .inr r => he_Mo_bits_4 r
theorem fr_Mo_bits_y4 {o : (Int × Int × Dt) ⊕ ((Int × Dt))} (x1 x2 : Int) (d : Dt) (hg : d GH 0 ≤ 6) (h : L_Mo_bits_y4 x1 x2 d = some o) : Fr wo_Mo_bits [] false d (hb_Mo_bits_4 o) := by
  have f0 : Fr wo_Mo_bits [] false d d := Fr.rfl
  unfold L_Mo_bits_y4 at h
  rcases ite_some h with ⟨hc1_, h⟩ | ⟨hc1_, h⟩
  · obtain rfl := Option.some.inj h
    exact f0
  · obtain ⟨v2_, ev3_, h⟩ := lt_some h
    obtain rfl := Option.some.inj h
    exact f0
theorem fr_Mo_bits_l4 {x : (Int × Dt)} (x1 x2 : Int) (d : Dt) (hg : d GH 0 ≤ 6) (h : L_Mo_bits_l4 x1 x2 d = some x) : Fr wo_Mo_bits [] false d (he_Mo_bits_4 x) :=
  lpF_fr (f := fun q : Int × Int × Dt => L_Mo_bits_y4 q.1 q.2.1 q.2.2) (fun q => q.2.2) he_Mo_bits_4 (fun q x hq hx => ⟨fun q2 e2 => by subst e2; exact fr_Mo_bits_y4 q.1 q.2.1 q.2.2 hq hx, fun r2 e2 => by subst e2; exact fr_Mo_bits_y4 q.1 q.2.1 q.2.2 hq hx⟩) FU _ x hg h
theorem fr_Mo_bits {r : Int} {d' : Dt} (p1 : Int) (d : Dt) (hg : d GH 0 ≤ 6) (h : L_Mo_bits p1 d = some (r, d')) : Fr wo_Mo_bits [] false d d' := by
  have f0 : Fr wo_Mo_bits [] false d d := Fr.rfl
  unfold L_Mo_bits at h
  obtain ⟨x5_, hx6_, h⟩ := lb_some h
  have fx5_ := Fr.tr0 f0 (fr_Mo_bits_l4 0 p1 d (Fr.g f0 hg) hx6_)
  obtain ⟨v7_, d8_⟩ := x5_
  have fd8_ : Fr wo_Mo_bits [] false d d8_ := fx5_
  replace h := u1_e h
  obtain ⟨rfl, rfl⟩ := ret_inj h
  exact fd8_
/-! frames of Mo_byLaw -/
def wo_Mo_byLaw : List (Nat × Nat) := [(0, 68), (0, 71)]
theorem fr_Mo_byLaw {r : Int} {d' : Dt} (p1 p2 p3 p4 p5 : Int) (d : Dt) (hg : d GH 0 ≤ 6) (h : L_Mo_byLaw p1 p2 p3 p4 p5 d = some (r, d')) : Fr wo_Mo_byLaw [47, 48, 49, 50, 51] false d d' := by
  have f0 : Fr wo_Mo_byLaw [47, 48, 49, 50, 51] false d d := Fr.rfl
  unfold L_Mo_byLaw at h
  obtain ⟨r2_, d1_, hr3_, h⟩ := bd_some h
  have fd1_ : Fr wo_Mo_byLaw [47, 48, 49, 50, 51] false d d1_ := Fr.tr f0 (fr_Mo_rightOf p1 p2 p3 p4 d (Fr.g f0 hg) hr3_) (by decide) (by decide) (by decide)
  rcases ite_some h with ⟨hc5_, h⟩ | ⟨hc5_, h⟩
  · obtain ⟨rfl, rfl⟩ := ret_inj h
    exact fd1_
  · obtain ⟨r7_, d6_, hr8_, h⟩ := bd_some h
    have fd6_ : Fr wo_Mo_byLaw [47, 48, 49, 50, 51] false d d6_ := Fr.tr fd1_ (fr_Mo_isVoid p1 p2 p3 p4 d1_ (Fr.g fd1_ hg) hr8_) (by decide) (by decide) (by decide)
    rcases ite_some h with ⟨hc10_, h⟩ | ⟨hc10_, h⟩
    · rcases ite_some h with ⟨hc11_, h⟩ | ⟨hc11_, h⟩
      · obtain ⟨rfl, rfl⟩ := ret_inj h
        exact fd6_
      · obtain ⟨r13_, d12_, hr14_, h⟩ := bd_some h
        have fd12_ : Fr wo_Mo_byLaw [47, 48, 49, 50, 51] false d d12_ := Fr.tr fd6_ (fr_Mo_bits p5 d6_ (Fr.g fd6_ hg) hr14_) (by decide) (by decide) (by decide)
        obtain ⟨r17_, d16_, hr18_, h⟩ := bd_some h
        have fd16_ : Fr wo_Mo_byLaw [47, 48, 49, 50, 51] false d d16_ := Fr.tr fd12_ (fr_Mo_namesAt p2 p3 d12_ (Fr.g fd12_ hg) hr18_) (by decide) (by decide) (by decide)
        rcases ite_some h with ⟨hc20_, h⟩ | ⟨hc20_, h⟩
        · obtain ⟨rfl, rfl⟩ := ret_inj h
          exact fd16_
        · obtain ⟨rfl, rfl⟩ := ret_inj h
          exact fd16_
    · obtain ⟨rfl, rfl⟩ := ret_inj h
      exact fd6_
/-! frames of Mo_judge -/
def wo_Mo_judge : List (Nat × Nat) := [(0, 68), (0, 71), (0, 80)]
def he_Mo_judge_6 (q : (Int × Int × Dt)) : Dt := q.2.2
def hb_Mo_judge_6 (o : (Int × Int × Int × Dt) ⊕ ((Int × Int × Dt))) : Dt := match o with
  | .inl q => q.2.2.2
  | .inr r => he_Mo_judge_6 r
def he_Mo_judge_94 (q : (Int × Int × Int × Int × Dt)) : Dt := q.2.2.2.2
def hb_Mo_judge_94 (o : (Int × Int × Int × Int × Int × Dt) ⊕ ((Int × Int × Int × Int × Dt))) : Dt := match o with
  | .inl q => q.2.2.2.2.2
  | .inr r => he_Mo_judge_94 r
def he_Mo_judge_151 (q : (Int × Int × Int × Int × Dt)) : Dt := q.2.2.2.2
def hb_Mo_judge_151 (o : (Int × Int × Int × Int × Int × Dt) ⊕ ((Int × Int × Int × Int × Dt))) : Dt := match o with
  | .inl q => q.2.2.2.2.2
  | .inr r => he_Mo_judge_151 r
def he_Mo_judge_80 (q : (Dt)) : Dt := q
def hb_Mo_judge_80 (o : (Int × Int × Int × Dt) ⊕ ((Dt))) : Dt := match o with
  | .inl q => q.2.2.2
  | .inr r => he_Mo_judge_80 r
theorem fr_Mo_judge_b71 {o : (Int × Int × Int × Dt) ⊕ ((Int × Int × Dt))} (x1 x2 x3 s1 s2 : Int) (d : Dt) (hg : d GH 0 ≤ 6) (h : L_Mo_judge_b71 x1 x2 x3 s1 s2 d = some o) : Fr wo_Mo_judge [4, 5, 6, 47, 48, 49, 50, 51, 56, 58, 62, 63] false d (hb_Mo_judge_6 o) := by
  have f0 : Fr wo_Mo_judge [4, 5, 6, 47, 48, 49, 50, 51, 56, 58, 62, 63] false d d := Fr.rfl
  unfold L_Mo_judge_b71 at h
  obtain ⟨hb1_, h⟩ := ck_some h
  obtain rfl := Option.some.inj h
  exact (Fr.upa f0 rfl (by decide))
theorem fr_Mo_judge_y6 {o : (Int × Int × Int × Dt) ⊕ ((Int × Int × Dt))} (x1 x2 x3 : Int) (d : Dt) (hg : d GH 0 ≤ 6) (h : L_Mo_judge_y6 x1 x2 x3 d = some o) : Fr wo_Mo_judge [4, 5, 6, 47, 48, 49, 50, 51, 56, 58, 62, 63] false d (hb_Mo_judge_6 o) := by
  have f0 : Fr wo_Mo_judge [4, 5, 6, 47, 48, 49, 50, 51, 56, 58, 62, 63] false d d := Fr.rfl
  unfold L_Mo_judge_y6 at h
  rcases ite_some h with ⟨hc3_, h⟩ | ⟨hc3_, h⟩
  · obtain ⟨r5_, d4_, hr6_, h⟩ := bd_some h
    have fd4_ : Fr wo_Mo_judge [4, 5, 6, 47, 48, 49, 50, 51, 56, 58, 62, 63] false d d4_ := Fr.tr f0 (fr_Mo_whoIs x3 d (Fr.g f0 hg) hr6_) (by decide) (by decide) (by decide)
    rcases ite_some h with ⟨hc8_, h⟩ | ⟨hc8_, h⟩
    · exact Fr.tr0 fd4_ (fr_Mo_judge_b71 x1 x2 x3 x3 1 d4_ (Fr.g fd4_ hg) h)
    · obtain ⟨r10_, d9_, hr11_, h⟩ := bd_some h
      have fd9_ : Fr wo_Mo_judge [4, 5, 6, 47, 48, 49, 50, 51, 56, 58, 62, 63] false d d9_ := Fr.tr fd4_ (fr_Mo_isTwice x3 r5_ d4_ (Fr.g fd4_ hg) hr11_) (by decide) (by decide) (by decide)
      rcases ite_some h with ⟨hc13_, h⟩ | ⟨hc13_, h⟩
      · obtain ⟨hb14_, h⟩ := ck_some h
        obtain ⟨r17_, d16_, hr18_, h⟩ := bd_some h
        have fd16_ : Fr wo_Mo_judge [4, 5, 6, 47, 48, 49, 50, 51, 56, 58, 62, 63] false d d16_ := Fr.tr fd9_ (fr_Mo_setOf x3 d9_ (Fr.g fd9_ hg) hr18_) (by decide) (by decide) (by decide)
        obtain ⟨r21_, d20_, hr22_, h⟩ := bd_some h
        have fd20_ : Fr wo_Mo_judge [4, 5, 6, 47, 48, 49, 50, 51, 56, 58, 62, 63] false d d20_ := Fr.tr fd16_ (fr_Mo_byLaw r5_ x1 x2 (d9_ 54 x3.toNat) r17_ d16_ (Fr.g fd16_ hg) hr22_) (by decide) (by decide) (by decide)
        exact Fr.tr0 fd20_ (fr_Mo_judge_b71 x1 x2 x3 x3 r21_ d20_ (Fr.g fd20_ hg) h)
      · exact Fr.tr0 fd9_ (fr_Mo_judge_b71 x1 x2 x3 x3 2 d9_ (Fr.g fd9_ hg) h)
  · obtain rfl := Option.some.inj h
    exact f0
theorem fr_Mo_judge_l6 {x : (Int × Int × Dt)} (x1 x2 x3 : Int) (d : Dt) (hg : d GH 0 ≤ 6) (h : L_Mo_judge_l6 x1 x2 x3 d = some x) : Fr wo_Mo_judge [4, 5, 6, 47, 48, 49, 50, 51, 56, 58, 62, 63] false d (he_Mo_judge_6 x) :=
  lpF_fr (f := fun q : Int × Int × Int × Dt => L_Mo_judge_y6 q.1 q.2.1 q.2.2.1 q.2.2.2) (fun q => q.2.2.2) he_Mo_judge_6 (fun q x hq hx => ⟨fun q2 e2 => by subst e2; exact fr_Mo_judge_y6 q.1 q.2.1 q.2.2.1 q.2.2.2 hq hx, fun r2 e2 => by subst e2; exact fr_Mo_judge_y6 q.1 q.2.1 q.2.2.1 q.2.2.2 hq hx⟩) FU _ x hg h
theorem fr_Mo_judge_b140 {o : (Int × Int × Int × Int × Int × Dt) ⊕ ((Int × Int × Int × Int × Dt))} (x1 x2 x3 x5 s0 : Int) (d : Dt) (hg : d GH 0 ≤ 6) (h : L_Mo_judge_b140 x1 x2 x3 x5 s0 d = some o) : Fr wo_Mo_judge [4, 5, 6, 47, 48, 49, 50, 51, 56, 58, 62, 63] false d (hb_Mo_judge_94 o) := by
  have f0 : Fr wo_Mo_judge [4, 5, 6, 47, 48, 49, 50, 51, 56, 58, 62, 63] false d d := Fr.rfl
  unfold L_Mo_judge_b140 at h
  obtain rfl := Option.some.inj h
  exact f0
theorem fr_Mo_judge_y94 {o : (Int × Int × Int × Int × Int × Dt) ⊕ ((Int × Int × Int × Int × Dt))} (x1 x2 x3 x4 x5 : Int) (d : Dt) (hg : d GH 0 ≤ 6) (h : L_Mo_judge_y94 x1 x2 x3 x4 x5 d = some o) : Fr wo_Mo_judge [4, 5, 6, 47, 48, 49, 50, 51, 56, 58, 62, 63] false d (hb_Mo_judge_94 o) := by
  have f0 : Fr wo_Mo_judge [4, 5, 6, 47, 48, 49, 50, 51, 56, 58, 62, 63] false d d := Fr.rfl
  unfold L_Mo_judge_y94 at h
  rcases ite_some h with ⟨hc25_, h⟩ | ⟨hc25_, h⟩
  · rcases ite_some h with ⟨hc26_, h⟩ | ⟨hc26_, h⟩
    · obtain ⟨hb27_, h⟩ := ck_some h
      rcases ite_some h with ⟨hc29_, h⟩ | ⟨hc29_, h⟩
      · obtain ⟨r31_, d30_, hr32_, h⟩ := bd_some h
        have fd30_ : Fr wo_Mo_judge [4, 5, 6, 47, 48, 49, 50, 51, 56, 58, 62, 63] false d d30_ := Fr.tr f0 (fr_Mo_whoIs x5 d (Fr.g f0 hg) hr32_) (by decide) (by decide) (by decide)
        obtain ⟨hb34_, h⟩ := ck_some h
        rcases ite_some h with ⟨hc36_, h⟩ | ⟨hc36_, h⟩
        · exact Fr.tr0 fd30_ (fr_Mo_judge_b140 x1 x2 x3 x5 1 d30_ (Fr.g fd30_ hg) h)
        · exact Fr.tr0 fd30_ (fr_Mo_judge_b140 x1 x2 x3 x5 0 d30_ (Fr.g fd30_ hg) h)
      · exact Fr.tr0 f0 (fr_Mo_judge_b140 x1 x2 x3 x5 0 d (Fr.g f0 hg) h)
    · exact Fr.tr0 f0 (fr_Mo_judge_b140 x1 x2 x3 x5 1 d (Fr.g f0 hg) h)
  · obtain rfl := Option.some.inj h
    exact f0
theorem fr_Mo_judge_l94 {x : (Int × Int × Int × Int × Dt)} (x1 x2 x3 x4 x5 : Int) (d : Dt) (hg : d GH 0 ≤ 6) (h : L_Mo_judge_l94 x1 x2 x3 x4 x5 d = some x) : Fr wo_Mo_judge [4, 5, 6, 47, 48, 49, 50, 51, 56, 58, 62, 63] false d (he_Mo_judge_94 x) :=
  lpF_fr (f := fun q : Int × Int × Int × Int × Int × Dt => L_Mo_judge_y94 q.1 q.2.1 q.2.2.1 q.2.2.2.1 q.2.2.2.2.1 q.2.2.2.2.2) (fun q => q.2.2.2.2.2) he_Mo_judge_94 (fun q x hq hx => ⟨fun q2 e2 => by subst e2; exact fr_Mo_judge_y94 q.1 q.2.1 q.2.2.1 q.2.2.2.1 q.2.2.2.2.1 q.2.2.2.2.2 hq hx, fun r2 e2 => by subst e2; exact fr_Mo_judge_y94 q.1 q.2.1 q.2.2.1 q.2.2.2.1 q.2.2.2.2.1 q.2.2.2.2.2 hq hx⟩) FU _ x hg h
theorem fr_Mo_judge_b193 {o : (Int × Int × Int × Int × Int × Dt) ⊕ ((Int × Int × Int × Int × Dt))} (x1 x2 x3 x5 s0 : Int) (d : Dt) (hg : d GH 0 ≤ 6) (h : L_Mo_judge_b193 x1 x2 x3 x5 s0 d = some o) : Fr wo_Mo_judge [4, 5, 6, 47, 48, 49, 50, 51, 56, 58, 62, 63] false d (hb_Mo_judge_151 o) := by
  have f0 : Fr wo_Mo_judge [4, 5, 6, 47, 48, 49, 50, 51, 56, 58, 62, 63] false d d := Fr.rfl
  unfold L_Mo_judge_b193 at h
  obtain rfl := Option.some.inj h
  exact f0
theorem fr_Mo_judge_y151 {o : (Int × Int × Int × Int × Int × Dt) ⊕ ((Int × Int × Int × Int × Dt))} (x1 x2 x3 x4 x5 : Int) (d : Dt) (hg : d GH 0 ≤ 6) (h : L_Mo_judge_y151 x1 x2 x3 x4 x5 d = some o) : Fr wo_Mo_judge [4, 5, 6, 47, 48, 49, 50, 51, 56, 58, 62, 63] false d (hb_Mo_judge_151 o) := by
  have f0 : Fr wo_Mo_judge [4, 5, 6, 47, 48, 49, 50, 51, 56, 58, 62, 63] false d d := Fr.rfl
  unfold L_Mo_judge_y151 at h
  rcases ite_some h with ⟨hc37_, h⟩ | ⟨hc37_, h⟩
  · rcases ite_some h with ⟨hc38_, h⟩ | ⟨hc38_, h⟩
    · obtain ⟨hb39_, h⟩ := ck_some h
      rcases ite_some h with ⟨hc41_, h⟩ | ⟨hc41_, h⟩
      · obtain ⟨hb42_, h⟩ := ck_some h
        obtain ⟨hb44_, h⟩ := ck_some h
        rcases ite_some h with ⟨hc46_, h⟩ | ⟨hc46_, h⟩
        · exact Fr.tr0 f0 (fr_Mo_judge_b193 x1 x2 x3 x5 1 d (Fr.g f0 hg) h)
        · exact Fr.tr0 f0 (fr_Mo_judge_b193 x1 x2 x3 x5 0 d (Fr.g f0 hg) h)
      · exact Fr.tr0 f0 (fr_Mo_judge_b193 x1 x2 x3 x5 0 d (Fr.g f0 hg) h)
    · exact Fr.tr0 f0 (fr_Mo_judge_b193 x1 x2 x3 x5 1 d (Fr.g f0 hg) h)
  · obtain rfl := Option.some.inj h
    exact f0
theorem fr_Mo_judge_l151 {x : (Int × Int × Int × Int × Dt)} (x1 x2 x3 x4 x5 : Int) (d : Dt) (hg : d GH 0 ≤ 6) (h : L_Mo_judge_l151 x1 x2 x3 x4 x5 d = some x) : Fr wo_Mo_judge [4, 5, 6, 47, 48, 49, 50, 51, 56, 58, 62, 63] false d (he_Mo_judge_151 x) :=
  lpF_fr (f := fun q : Int × Int × Int × Int × Int × Dt => L_Mo_judge_y151 q.1 q.2.1 q.2.2.1 q.2.2.2.1 q.2.2.2.2.1 q.2.2.2.2.2) (fun q => q.2.2.2.2.2) he_Mo_judge_151 (fun q x hq hx => ⟨fun q2 e2 => by subst e2; exact fr_Mo_judge_y151 q.1 q.2.1 q.2.2.1 q.2.2.2.1 q.2.2.2.2.1 q.2.2.2.2.2 hq hx, fun r2 e2 => by subst e2; exact fr_Mo_judge_y151 q.1 q.2.1 q.2.2.1 q.2.2.2.1 q.2.2.2.2.1 q.2.2.2.2.2 hq hx⟩) FU _ x hg h
theorem fr_Mo_judge_b239 {o : (Int × Int × Int × Dt) ⊕ ((Dt))} (x1 x2 x3 s1 s2 : Int) (d : Dt) (hg : d GH 0 ≤ 6) (h : L_Mo_judge_b239 x1 x2 x3 s1 s2 d = some o) : Fr wo_Mo_judge [4, 5, 6, 47, 48, 49, 50, 51, 56, 58, 62, 63] false d (hb_Mo_judge_80 o) := by
  have f0 : Fr wo_Mo_judge [4, 5, 6, 47, 48, 49, 50, 51, 56, 58, 62, 63] false d d := Fr.rfl
  unfold L_Mo_judge_b239 at h
  obtain ⟨hb47_, h⟩ := ck_some h
  obtain rfl := Option.some.inj h
  exact (Fr.upa f0 rfl (by decide))
theorem fr_Mo_judge_y80 {o : (Int × Int × Int × Dt) ⊕ ((Dt))} (x1 x2 x3 : Int) (d : Dt) (hg : d GH 0 ≤ 6) (h : L_Mo_judge_y80 x1 x2 x3 d = some o) : Fr wo_Mo_judge [4, 5, 6, 47, 48, 49, 50, 51, 56, 58, 62, 63] false d (hb_Mo_judge_80 o) := by
  have f0 : Fr wo_Mo_judge [4, 5, 6, 47, 48, 49, 50, 51, 56, 58, 62, 63] false d d := Fr.rfl
  unfold L_Mo_judge_y80 at h
  rcases ite_some h with ⟨hc49_, h⟩ | ⟨hc49_, h⟩
  · obtain ⟨x50_, hx51_, h⟩ := lb_some h
    have fx50_ := Fr.tr0 f0 (fr_Mo_judge_l94 x1 x2 x3 0 0 d (Fr.g f0 hg) hx51_)
    obtain ⟨v52_, v53_, v54_, v55_, d56_⟩ := x50_
    have fd56_ : Fr wo_Mo_judge [4, 5, 6, 47, 48, 49, 50, 51, 56, 58, 62, 63] false d d56_ := fx50_
    replace h := u4_e h
    obtain ⟨x58_, hx59_, h⟩ := lb_some h
    have fx58_ := Fr.tr0 fd56_ (fr_Mo_judge_l151 v52_ v53_ v54_ v55_ 0 d56_ (Fr.g fd56_ hg) hx59_)
    obtain ⟨v60_, v61_, v62_, v63_, d64_⟩ := x58_
    have fd64_ : Fr wo_Mo_judge [4, 5, 6, 47, 48, 49, 50, 51, 56, 58, 62, 63] false d d64_ := fx58_
    replace h := u4_e h
    rcases ite_some h with ⟨hc66_, h⟩ | ⟨hc66_, h⟩
    · obtain ⟨hb67_, h⟩ := ck_some h
      obtain ⟨hb69_, h⟩ := ck_some h
      obtain ⟨hb71_, h⟩ := ck_some h
      obtain ⟨r74_, d73_, hr75_, h⟩ := bd_some h
      have fd73_ : Fr wo_Mo_judge [4, 5, 6, 47, 48, 49, 50, 51, 56, 58, 62, 63] false d d73_ := Fr.tr fd64_ (fr_Mo_byLaw (d64_ 59 v62_.toNat) v60_ v61_ (d64_ 61 v62_.toNat) (d64_ 60 v62_.toNat) d64_ (Fr.g fd64_ hg) hr75_) (by decide) (by decide) (by decide)
      exact Fr.tr0 fd73_ (fr_Mo_judge_b239 v60_ v61_ v62_ v62_ r74_ d73_ (Fr.g fd73_ hg) h)
    · exact Fr.tr0 fd64_ (fr_Mo_judge_b239 v60_ v61_ v62_ v62_ 2 d64_ (Fr.g fd64_ hg) h)
  · obtain rfl := Option.some.inj h
    exact f0
theorem fr_Mo_judge_l80 {x : (Dt)} (x1 x2 x3 : Int) (d : Dt) (hg : d GH 0 ≤ 6) (h : L_Mo_judge_l80 x1 x2 x3 d = some x) : Fr wo_Mo_judge [4, 5, 6, 47, 48, 49, 50, 51, 56, 58, 62, 63] false d (he_Mo_judge_80 x) :=
  lpF_fr (f := fun q : Int × Int × Int × Dt => L_Mo_judge_y80 q.1 q.2.1 q.2.2.1 q.2.2.2) (fun q => q.2.2.2) he_Mo_judge_80 (fun q x hq hx => ⟨fun q2 e2 => by subst e2; exact fr_Mo_judge_y80 q.1 q.2.1 q.2.2.1 q.2.2.2 hq hx, fun r2 e2 => by subst e2; exact fr_Mo_judge_y80 q.1 q.2.1 q.2.2.1 q.2.2.2 hq hx⟩) FU _ x hg h
theorem fr_Mo_judge {r : Int} {d' : Dt} (p1 p2 : Int) (d : Dt) (hg : d GH 0 ≤ 6) (h : L_Mo_judge p1 p2 d = some (r, d')) : Fr wo_Mo_judge [4, 5, 6, 47, 48, 49, 50, 51, 56, 58, 62, 63] false d d' := by
  have f0 : Fr wo_Mo_judge [4, 5, 6, 47, 48, 49, 50, 51, 56, 58, 62, 63] false d d := Fr.rfl
  unfold L_Mo_judge at h
  obtain ⟨r80_, d79_, hr81_, h⟩ := bd_some h
  have fd79_ : Fr wo_Mo_judge [4, 5, 6, 47, 48, 49, 50, 51, 56, 58, 62, 63] false d d79_ := Fr.tr f0 (fr_Mo_joinAll  d (Fr.g f0 hg) hr81_) (by decide) (by decide) (by decide)
  obtain ⟨x83_, hx84_, h⟩ := lb_some h
  have fx83_ := Fr.tr0 fd79_ (fr_Mo_judge_l6 p1 p2 0 d79_ (Fr.g fd79_ hg) hx84_)
  obtain ⟨v85_, v86_, d87_⟩ := x83_
  have fd87_ : Fr wo_Mo_judge [4, 5, 6, 47, 48, 49, 50, 51, 56, 58, 62, 63] false d d87_ := fx83_
  replace h := u2_e h
  obtain ⟨x89_, hx90_, h⟩ := lb_some h
  have fx89_ := Fr.tr0 fd87_ (fr_Mo_judge_l80 v85_ v86_ 0 d87_ (Fr.g fd87_ hg) hx90_)
  obtain ⟨d91_, rfl⟩ : ∃ z, z = x89_ := ⟨_, rfl⟩
  have fd91_ : Fr wo_Mo_judge [4, 5, 6, 47, 48, 49, 50, 51, 56, 58, 62, 63] false d d91_ := fx89_
  replace h := u0_e h
  obtain ⟨rfl, rfl⟩ := ret_inj h
  exact fd91_
/-! frames of Mo_standing -/
def wo_Mo_standing : List (Nat × Nat) := [(0, 0), (0, 68), (0, 71), (0, 80)]
theorem fr_Mo_standing_b22 {r : Int} {d' : Dt} (d : Dt) (hg : d GH 0 ≤ 6) (h : L_Mo_standing_b22 d = some (r, d')) : Fr wo_Mo_standing [4, 5, 6, 47, 48, 49, 50, 51, 56, 58, 62, 63] false d d' := by
  have f0 : Fr wo_Mo_standing [4, 5, 6, 47, 48, 49, 50, 51, 56, 58, 62, 63] false d d := Fr.rfl
  unfold L_Mo_standing_b22 at h
  obtain ⟨r2_, d1_, hr3_, h⟩ := bd_some h
  have fd1_ : Fr wo_Mo_standing [4, 5, 6, 47, 48, 49, 50, 51, 56, 58, 62, 63] false d d1_ := Fr.tr f0 (fr_Mo_refuse 1 d (Fr.g f0 hg) hr3_) (by decide) (by decide) (by decide)
  obtain ⟨rfl, rfl⟩ := ret_inj h
  exact fd1_
theorem fr_Mo_standing {r : Int} {d' : Dt} (p1 p2 p3 : Int) (d : Dt) (hg : d GH 0 ≤ 6) (h : L_Mo_standing p1 p2 p3 d = some (r, d')) : Fr wo_Mo_standing [4, 5, 6, 47, 48, 49, 50, 51, 56, 58, 62, 63] false d d' := by
  have f0 : Fr wo_Mo_standing [4, 5, 6, 47, 48, 49, 50, 51, 56, 58, 62, 63] false d d := Fr.rfl
  unfold L_Mo_standing at h
  obtain ⟨r6_, d5_, hr7_, h⟩ := bd_some h
  have fd5_ : Fr wo_Mo_standing [4, 5, 6, 47, 48, 49, 50, 51, 56, 58, 62, 63] false d d5_ := Fr.tr f0 (fr_Mo_isEntry p1 d (Fr.g f0 hg) hr7_) (by decide) (by decide) (by decide)
  rcases ite_some h with ⟨hc9_, h⟩ | ⟨hc9_, h⟩
  · exact Fr.tr0 fd5_ (fr_Mo_standing_b22  d5_ (Fr.g fd5_ hg) h)
  · obtain ⟨r11_, d10_, hr12_, h⟩ := bd_some h
    have fd10_ : Fr wo_Mo_standing [4, 5, 6, 47, 48, 49, 50, 51, 56, 58, 62, 63] false d d10_ := Fr.tr fd5_ (fr_Mo_isPlace p2 d5_ (Fr.g fd5_ hg) hr12_) (by decide) (by decide) (by decide)
    rcases ite_some h with ⟨hc14_, h⟩ | ⟨hc14_, h⟩
    · exact Fr.tr0 fd10_ (fr_Mo_standing_b22  d10_ (Fr.g fd10_ hg) h)
    · obtain ⟨r16_, d15_, hr17_, h⟩ := bd_some h
      have fd15_ : Fr wo_Mo_standing [4, 5, 6, 47, 48, 49, 50, 51, 56, 58, 62, 63] false d d15_ := Fr.tr fd10_ (fr_Mo_isDay p3 d10_ (Fr.g fd10_ hg) hr17_) (by decide) (by decide) (by decide)
      rcases ite_some h with ⟨hc19_, h⟩ | ⟨hc19_, h⟩
      · exact Fr.tr0 fd15_ (fr_Mo_standing_b22  d15_ (Fr.g fd15_ hg) h)
      · obtain ⟨r21_, d20_, hr22_, h⟩ := bd_some h
        have fd20_ : Fr wo_Mo_standing [4, 5, 6, 47, 48, 49, 50, 51, 56, 58, 62, 63] false d d20_ := Fr.tr fd15_ (fr_Mo_judge p2 p3 d15_ (Fr.g fd15_ hg) hr22_) (by decide) (by decide) (by decide)
        obtain ⟨hb24_, h⟩ := ck_some h
        obtain ⟨r27_, d26_, hr28_, h⟩ := bd_some h
        have fd26_ : Fr wo_Mo_standing [4, 5, 6, 47, 48, 49, 50, 51, 56, 58, 62, 63] false d d26_ := Fr.tr fd20_ (fr_Mo_gives (d20_ 62 p1.toNat) d20_ (Fr.g fd20_ hg) hr28_) (by decide) (by decide) (by decide)
        obtain ⟨rfl, rfl⟩ := ret_inj h
        exact fd26_
/-! frames of Mo_isOffer -/
def wo_Mo_isOffer : List (Nat × Nat) := []
theorem fr_Mo_isOffer {r : Int} {d' : Dt} (p1 : Int) (d : Dt) (hg : d GH 0 ≤ 6) (h : L_Mo_isOffer p1 d = some (r, d')) : Fr wo_Mo_isOffer [] false d d' := by
  have f0 : Fr wo_Mo_isOffer [] false d d := Fr.rfl
  unfold L_Mo_isOffer at h
  rcases ite_some h with ⟨hc1_, h⟩ | ⟨hc1_, h⟩
  · obtain ⟨rfl, rfl⟩ := ret_inj h
    exact f0
  · rcases ite_some h with ⟨hc3_, h⟩ | ⟨hc3_, h⟩
    · obtain ⟨rfl, rfl⟩ := ret_inj h
      exact f0
    · obtain ⟨rfl, rfl⟩ := ret_inj h
      exact f0
/-! frames of Mo_stands -/
def wo_Mo_stands : List (Nat × Nat) := [(0, 0), (0, 68), (0, 71), (0, 80)]
theorem fr_Mo_stands_b22 {r : Int} {d' : Dt} (d : Dt) (hg : d GH 0 ≤ 6) (h : L_Mo_stands_b22 d = some (r, d')) : Fr wo_Mo_stands [4, 5, 6, 47, 48, 49, 50, 51, 56, 58, 62, 63] false d d' := by
  have f0 : Fr wo_Mo_stands [4, 5, 6, 47, 48, 49, 50, 51, 56, 58, 62, 63] false d d := Fr.rfl
  unfold L_Mo_stands_b22 at h
  obtain ⟨r2_, d1_, hr3_, h⟩ := bd_some h
  have fd1_ : Fr wo_Mo_stands [4, 5, 6, 47, 48, 49, 50, 51, 56, 58, 62, 63] false d d1_ := Fr.tr f0 (fr_Mo_refuse 1 d (Fr.g f0 hg) hr3_) (by decide) (by decide) (by decide)
  obtain ⟨rfl, rfl⟩ := ret_inj h
  exact fd1_
theorem fr_Mo_stands {r : Int} {d' : Dt} (p1 p2 p3 : Int) (d : Dt) (hg : d GH 0 ≤ 6) (h : L_Mo_stands p1 p2 p3 d = some (r, d')) : Fr wo_Mo_stands [4, 5, 6, 47, 48, 49, 50, 51, 56, 58, 62, 63] false d d' := by
  have f0 : Fr wo_Mo_stands [4, 5, 6, 47, 48, 49, 50, 51, 56, 58, 62, 63] false d d := Fr.rfl
  unfold L_Mo_stands at h
  obtain ⟨r6_, d5_, hr7_, h⟩ := bd_some h
  have fd5_ : Fr wo_Mo_stands [4, 5, 6, 47, 48, 49, 50, 51, 56, 58, 62, 63] false d d5_ := Fr.tr f0 (fr_Mo_isOffer p1 d (Fr.g f0 hg) hr7_) (by decide) (by decide) (by decide)
  rcases ite_some h with ⟨hc9_, h⟩ | ⟨hc9_, h⟩
  · exact Fr.tr0 fd5_ (fr_Mo_stands_b22  d5_ (Fr.g fd5_ hg) h)
  · obtain ⟨r11_, d10_, hr12_, h⟩ := bd_some h
    have fd10_ : Fr wo_Mo_stands [4, 5, 6, 47, 48, 49, 50, 51, 56, 58, 62, 63] false d d10_ := Fr.tr fd5_ (fr_Mo_isPlace p2 d5_ (Fr.g fd5_ hg) hr12_) (by decide) (by decide) (by decide)
    rcases ite_some h with ⟨hc14_, h⟩ | ⟨hc14_, h⟩
    · exact Fr.tr0 fd10_ (fr_Mo_stands_b22  d10_ (Fr.g fd10_ hg) h)
    · obtain ⟨r16_, d15_, hr17_, h⟩ := bd_some h
      have fd15_ : Fr wo_Mo_stands [4, 5, 6, 47, 48, 49, 50, 51, 56, 58, 62, 63] false d d15_ := Fr.tr fd10_ (fr_Mo_isDay p3 d10_ (Fr.g fd10_ hg) hr17_) (by decide) (by decide) (by decide)
      rcases ite_some h with ⟨hc19_, h⟩ | ⟨hc19_, h⟩
      · exact Fr.tr0 fd15_ (fr_Mo_stands_b22  d15_ (Fr.g fd15_ hg) h)
      · obtain ⟨r21_, d20_, hr22_, h⟩ := bd_some h
        have fd20_ : Fr wo_Mo_stands [4, 5, 6, 47, 48, 49, 50, 51, 56, 58, 62, 63] false d d20_ := Fr.tr fd15_ (fr_Mo_judge p2 p3 d15_ (Fr.g fd15_ hg) hr22_) (by decide) (by decide) (by decide)
        obtain ⟨hb24_, h⟩ := ck_some h
        obtain ⟨r27_, d26_, hr28_, h⟩ := bd_some h
        have fd26_ : Fr wo_Mo_stands [4, 5, 6, 47, 48, 49, 50, 51, 56, 58, 62, 63] false d d26_ := Fr.tr fd20_ (fr_Mo_gives (d20_ 63 p1.toNat) d20_ (Fr.g fd20_ hg) hr28_) (by decide) (by decide) (by decide)
        obtain ⟨rfl, rfl⟩ := ret_inj h
        exact fd26_
/-! frames of Mo_count -/
def wo_Mo_count : List (Nat × Nat) := [(0, 68), (0, 71), (0, 80)]
def he_Mo_count_26 (q : (Int × Int × Dt)) : Dt := q.2.2
def hb_Mo_count_26 (o : (Int × Int × Int × Dt) ⊕ ((Int × Int × Dt))) : Dt := match o with
  | .inl q => q.2.2.2
  | .inr r => he_Mo_count_26 r
def he_Mo_count_81 (q : (Int × Int × Dt)) : Dt := q.2.2
def hb_Mo_count_81 (o : (Int × Int × Int × Dt) ⊕ ((Int × Int × Dt))) : Dt := match o with
  | .inl q => q.2.2.2
  | .inr r => he_Mo_count_81 r
def he_Mo_count_9 (q : (Dt)) : Dt := q
def hb_Mo_count_9 (o : (Int × Int × Dt) ⊕ ((Dt))) : Dt := match o with
  | .inl q => q.2.2
  | .inr r => he_Mo_count_9 r
theorem fr_Mo_count_b70 {o : (Int × Int × Int × Dt) ⊕ ((Int × Int × Dt))} (x3 x4 x5 s1 s2 s3 : Int) (d : Dt) (hg : d GH 0 ≤ 6) (h : L_Mo_count_b70 x3 x4 x5 s1 s2 s3 d = some o) : Fr wo_Mo_count [4, 5, 6, 47, 48, 49, 50, 51, 56, 58, 62, 63, 64] false d (hb_Mo_count_26 o) := by
  have f0 : Fr wo_Mo_count [4, 5, 6, 47, 48, 49, 50, 51, 56, 58, 62, 63, 64] false d d := Fr.rfl
  unfold L_Mo_count_b70 at h
  obtain ⟨hb1_, h⟩ := ck_some h
  obtain rfl := Option.some.inj h
  exact (Fr.upa f0 rfl (by decide))
theorem fr_Mo_count_y26 {o : (Int × Int × Int × Dt) ⊕ ((Int × Int × Dt))} (x3 x4 x5 : Int) (d : Dt) (hg : d GH 0 ≤ 6) (h : L_Mo_count_y26 x3 x4 x5 d = some o) : Fr wo_Mo_count [4, 5, 6, 47, 48, 49, 50, 51, 56, 58, 62, 63, 64] false d (hb_Mo_count_26 o) := by
  have f0 : Fr wo_Mo_count [4, 5, 6, 47, 48, 49, 50, 51, 56, 58, 62, 63, 64] false d d := Fr.rfl
  unfold L_Mo_count_y26 at h
  rcases ite_some h with ⟨hc3_, h⟩ | ⟨hc3_, h⟩
  · obtain ⟨hb4_, h⟩ := ck_some h
    obtain ⟨hb6_, h⟩ := ck_some h
    rcases ite_some h with ⟨hc8_, h⟩ | ⟨hc8_, h⟩
    · obtain ⟨r10_, d9_, hr11_, h⟩ := bd_some h
      have fd9_ : Fr wo_Mo_count [4, 5, 6, 47, 48, 49, 50, 51, 56, 58, 62, 63, 64] false d d9_ := Fr.tr f0 (fr_Mo_setOf x5 d (Fr.g f0 hg) hr11_) (by decide) (by decide) (by decide)
      exact Fr.tr0 fd9_ (fr_Mo_count_b70 x3 x4 x5 x4 (d 64 x4.toNat) (iand (ishr r10_ x4) 1) d9_ (Fr.g fd9_ hg) h)
    · exact Fr.tr0 f0 (fr_Mo_count_b70 x3 x4 x5 x4 (d 64 x4.toNat) 0 d (Fr.g f0 hg) h)
  · obtain rfl := Option.some.inj h
    exact f0
theorem fr_Mo_count_l26 {x : (Int × Int × Dt)} (x3 x4 x5 : Int) (d : Dt) (hg : d GH 0 ≤ 6) (h : L_Mo_count_l26 x3 x4 x5 d = some x) : Fr wo_Mo_count [4, 5, 6, 47, 48, 49, 50, 51, 56, 58, 62, 63, 64] false d (he_Mo_count_26 x) :=
  lpF_fr (f := fun q : Int × Int × Int × Dt => L_Mo_count_y26 q.1 q.2.1 q.2.2.1 q.2.2.2) (fun q => q.2.2.2) he_Mo_count_26 (fun q x hq hx => ⟨fun q2 e2 => by subst e2; exact fr_Mo_count_y26 q.1 q.2.1 q.2.2.1 q.2.2.2 hq hx, fun r2 e2 => by subst e2; exact fr_Mo_count_y26 q.1 q.2.1 q.2.2.1 q.2.2.2 hq hx⟩) FU _ x hg h
theorem fr_Mo_count_b128 {o : (Int × Int × Int × Dt) ⊕ ((Int × Int × Dt))} (x3 x4 x5 s1 s2 s3 : Int) (d : Dt) (hg : d GH 0 ≤ 6) (h : L_Mo_count_b128 x3 x4 x5 s1 s2 s3 d = some o) : Fr wo_Mo_count [4, 5, 6, 47, 48, 49, 50, 51, 56, 58, 62, 63, 64] false d (hb_Mo_count_81 o) := by
  have f0 : Fr wo_Mo_count [4, 5, 6, 47, 48, 49, 50, 51, 56, 58, 62, 63, 64] false d d := Fr.rfl
  unfold L_Mo_count_b128 at h
  obtain ⟨hb13_, h⟩ := ck_some h
  obtain rfl := Option.some.inj h
  exact (Fr.upa f0 rfl (by decide))
theorem fr_Mo_count_y81 {o : (Int × Int × Int × Dt) ⊕ ((Int × Int × Dt))} (x3 x4 x5 : Int) (d : Dt) (hg : d GH 0 ≤ 6) (h : L_Mo_count_y81 x3 x4 x5 d = some o) : Fr wo_Mo_count [4, 5, 6, 47, 48, 49, 50, 51, 56, 58, 62, 63, 64] false d (hb_Mo_count_81 o) := by
  have f0 : Fr wo_Mo_count [4, 5, 6, 47, 48, 49, 50, 51, 56, 58, 62, 63, 64] false d d := Fr.rfl
  unfold L_Mo_count_y81 at h
  rcases ite_some h with ⟨hc15_, h⟩ | ⟨hc15_, h⟩
  · rcases ite_some h with ⟨hc16_, h⟩ | ⟨hc16_, h⟩
    · obtain rfl := Option.some.inj h
      exact f0
    · obtain ⟨hb17_, h⟩ := ck_some h
      obtain ⟨hb19_, h⟩ := ck_some h
      rcases ite_some h with ⟨hc21_, h⟩ | ⟨hc21_, h⟩
      · obtain ⟨hb22_, h⟩ := ck_some h
        exact Fr.tr0 f0 (fr_Mo_count_b128 x3 x4 x5 x4 (d 64 x4.toNat) (iand (ishr (d 60 x5.toNat) x4) 1) d (Fr.g f0 hg) h)
      · exact Fr.tr0 f0 (fr_Mo_count_b128 x3 x4 x5 x4 (d 64 x4.toNat) 0 d (Fr.g f0 hg) h)
  · obtain rfl := Option.some.inj h
    exact f0
theorem fr_Mo_count_l81 {x : (Int × Int × Dt)} (x3 x4 x5 : Int) (d : Dt) (hg : d GH 0 ≤ 6) (h : L_Mo_count_l81 x3 x4 x5 d = some x) : Fr wo_Mo_count [4, 5, 6, 47, 48, 49, 50, 51, 56, 58, 62, 63, 64] false d (he_Mo_count_81 x) :=
  lpF_fr (f := fun q : Int × Int × Int × Dt => L_Mo_count_y81 q.1 q.2.1 q.2.2.1 q.2.2.2) (fun q => q.2.2.2) he_Mo_count_81 (fun q x hq hx => ⟨fun q2 e2 => by subst e2; exact fr_Mo_count_y81 q.1 q.2.1 q.2.2.1 q.2.2.2 hq hx, fun r2 e2 => by subst e2; exact fr_Mo_count_y81 q.1 q.2.1 q.2.2.1 q.2.2.2 hq hx⟩) FU _ x hg h
theorem fr_Mo_count_b136 {o : (Int × Int × Dt) ⊕ ((Dt))} (x3 x4 : Int) (d : Dt) (hg : d GH 0 ≤ 6) (h : L_Mo_count_b136 x3 x4 d = some o) : Fr wo_Mo_count [4, 5, 6, 47, 48, 49, 50, 51, 56, 58, 62, 63, 64] false d (hb_Mo_count_9 o) := by
  have f0 : Fr wo_Mo_count [4, 5, 6, 47, 48, 49, 50, 51, 56, 58, 62, 63, 64] false d d := Fr.rfl
  unfold L_Mo_count_b136 at h
  obtain rfl := Option.some.inj h
  exact f0
theorem fr_Mo_count_y9 {o : (Int × Int × Dt) ⊕ ((Dt))} (x3 x4 : Int) (d : Dt) (hg : d GH 0 ≤ 6) (h : L_Mo_count_y9 x3 x4 d = some o) : Fr wo_Mo_count [4, 5, 6, 47, 48, 49, 50, 51, 56, 58, 62, 63, 64] false d (hb_Mo_count_9 o) := by
  have f0 : Fr wo_Mo_count [4, 5, 6, 47, 48, 49, 50, 51, 56, 58, 62, 63, 64] false d d := Fr.rfl
  unfold L_Mo_count_y9 at h
  rcases ite_some h with ⟨hc24_, h⟩ | ⟨hc24_, h⟩
  · obtain ⟨hb25_, h⟩ := ck_some h
    obtain ⟨x26_, hx27_, h⟩ := lb_some h
    have fx26_ := Fr.tr0 (Fr.upa f0 rfl (by decide)) (fr_Mo_count_l26 x3 x4 0 (up2 d 64 x4.toNat 0) (Fr.g (Fr.upa f0 rfl (by decide)) hg) hx27_)
    obtain ⟨v28_, v29_, d30_⟩ := x26_
    have fd30_ : Fr wo_Mo_count [4, 5, 6, 47, 48, 49, 50, 51, 56, 58, 62, 63, 64] false d d30_ := fx26_
    replace h := u2_e h
    obtain ⟨x32_, hx33_, h⟩ := lb_some h
    have fx32_ := Fr.tr0 fd30_ (fr_Mo_count_l81 v28_ v29_ 0 d30_ (Fr.g fd30_ hg) hx33_)
    obtain ⟨v34_, v35_, d36_⟩ := x32_
    have fd36_ : Fr wo_Mo_count [4, 5, 6, 47, 48, 49, 50, 51, 56, 58, 62, 63, 64] false d d36_ := fx32_
    replace h := u2_e h
    exact Fr.tr0 fd36_ (fr_Mo_count_b136 v34_ v35_ d36_ (Fr.g fd36_ hg) h)
  · obtain rfl := Option.some.inj h
    exact f0
theorem fr_Mo_count_l9 {x : (Dt)} (x3 x4 : Int) (d : Dt) (hg : d GH 0 ≤ 6) (h : L_Mo_count_l9 x3 x4 d = some x) : Fr wo_Mo_count [4, 5, 6, 47, 48, 49, 50, 51, 56, 58, 62, 63, 64] false d (he_Mo_count_9 x) :=
  lpF_fr (f := fun q : Int × Int × Dt => L_Mo_count_y9 q.1 q.2.1 q.2.2) (fun q => q.2.2) he_Mo_count_9 (fun q x hq hx => ⟨fun q2 e2 => by subst e2; exact fr_Mo_count_y9 q.1 q.2.1 q.2.2 hq hx, fun r2 e2 => by subst e2; exact fr_Mo_count_y9 q.1 q.2.1 q.2.2 hq hx⟩) FU _ x hg h
theorem fr_Mo_count {r : Int} {d' : Dt} (p1 p2 p3 : Int) (d : Dt) (hg : d GH 0 ≤ 6) (h : L_Mo_count p1 p2 p3 d = some (r, d')) : Fr wo_Mo_count [4, 5, 6, 47, 48, 49, 50, 51, 56, 58, 62, 63, 64] false d d' := by
  have f0 : Fr wo_Mo_count [4, 5, 6, 47, 48, 49, 50, 51, 56, 58, 62, 63, 64] false d d := Fr.rfl
  unfold L_Mo_count at h
  obtain ⟨r41_, d40_, hr42_, h⟩ := bd_some h
  have fd40_ : Fr wo_Mo_count [4, 5, 6, 47, 48, 49, 50, 51, 56, 58, 62, 63, 64] false d d40_ := Fr.tr f0 (fr_Mo_judge p1 p2 d (Fr.g f0 hg) hr42_) (by decide) (by decide) (by decide)
  obtain ⟨x44_, hx45_, h⟩ := lb_some h
  have fx44_ := Fr.tr0 fd40_ (fr_Mo_count_l9 p3 0 d40_ (Fr.g fd40_ hg) hx45_)
  obtain ⟨d46_, rfl⟩ : ∃ z, z = x44_ := ⟨_, rfl⟩
  have fd46_ : Fr wo_Mo_count [4, 5, 6, 47, 48, 49, 50, 51, 56, 58, 62, 63, 64] false d d46_ := fx44_
  replace h := u0_e h
  obtain ⟨rfl, rfl⟩ := ret_inj h
  exact fd46_
/-! frames of Mo_poll -/
def wo_Mo_poll : List (Nat × Nat) := [(0, 0), (0, 68), (0, 71), (0, 80)]
theorem fr_Mo_poll_b21 {r : Int} {d' : Dt} (d : Dt) (hg : d GH 0 ≤ 6) (h : L_Mo_poll_b21 d = some (r, d')) : Fr wo_Mo_poll [4, 5, 6, 47, 48, 49, 50, 51, 56, 58, 62, 63, 64] false d d' := by
  have f0 : Fr wo_Mo_poll [4, 5, 6, 47, 48, 49, 50, 51, 56, 58, 62, 63, 64] false d d := Fr.rfl
  unfold L_Mo_poll_b21 at h
  obtain ⟨r2_, d1_, hr3_, h⟩ := bd_some h
  have fd1_ : Fr wo_Mo_poll [4, 5, 6, 47, 48, 49, 50, 51, 56, 58, 62, 63, 64] false d d1_ := Fr.tr f0 (fr_Mo_refuse 1 d (Fr.g f0 hg) hr3_) (by decide) (by decide) (by decide)
  obtain ⟨rfl, rfl⟩ := ret_inj h
  exact fd1_
theorem fr_Mo_poll {r : Int} {d' : Dt} (p1 p2 p3 p4 : Int) (d : Dt) (hg : d GH 0 ≤ 6) (h : L_Mo_poll p1 p2 p3 p4 d = some (r, d')) : Fr wo_Mo_poll [4, 5, 6, 47, 48, 49, 50, 51, 56, 58, 62, 63, 64] false d d' := by
  have f0 : Fr wo_Mo_poll [4, 5, 6, 47, 48, 49, 50, 51, 56, 58, 62, 63, 64] false d d := Fr.rfl
  unfold L_Mo_poll at h
  obtain ⟨r6_, d5_, hr7_, h⟩ := bd_some h
  have fd5_ : Fr wo_Mo_poll [4, 5, 6, 47, 48, 49, 50, 51, 56, 58, 62, 63, 64] false d d5_ := Fr.tr f0 (fr_Mo_isCandidate p1 d (Fr.g f0 hg) hr7_) (by decide) (by decide) (by decide)
  rcases ite_some h with ⟨hc9_, h⟩ | ⟨hc9_, h⟩
  · exact Fr.tr0 fd5_ (fr_Mo_poll_b21  d5_ (Fr.g fd5_ hg) h)
  · obtain ⟨r11_, d10_, hr12_, h⟩ := bd_some h
    have fd10_ : Fr wo_Mo_poll [4, 5, 6, 47, 48, 49, 50, 51, 56, 58, 62, 63, 64] false d d10_ := Fr.tr fd5_ (fr_Mo_isPlace p2 d5_ (Fr.g fd5_ hg) hr12_) (by decide) (by decide) (by decide)
    rcases ite_some h with ⟨hc14_, h⟩ | ⟨hc14_, h⟩
    · exact Fr.tr0 fd10_ (fr_Mo_poll_b21  d10_ (Fr.g fd10_ hg) h)
    · obtain ⟨r16_, d15_, hr17_, h⟩ := bd_some h
      have fd15_ : Fr wo_Mo_poll [4, 5, 6, 47, 48, 49, 50, 51, 56, 58, 62, 63, 64] false d d15_ := Fr.tr fd10_ (fr_Mo_isDay p3 d10_ (Fr.g fd10_ hg) hr17_) (by decide) (by decide) (by decide)
      rcases ite_some h with ⟨hc19_, h⟩ | ⟨hc19_, h⟩
      · exact Fr.tr0 fd15_ (fr_Mo_poll_b21  d15_ (Fr.g fd15_ hg) h)
      · obtain ⟨r21_, d20_, hr22_, h⟩ := bd_some h
        have fd20_ : Fr wo_Mo_poll [4, 5, 6, 47, 48, 49, 50, 51, 56, 58, 62, 63, 64] false d d20_ := Fr.tr fd15_ (fr_Mo_count p2 p3 p4 d15_ (Fr.g fd15_ hg) hr22_) (by decide) (by decide) (by decide)
        obtain ⟨hb24_, h⟩ := ck_some h
        obtain ⟨r27_, d26_, hr28_, h⟩ := bd_some h
        have fd26_ : Fr wo_Mo_poll [4, 5, 6, 47, 48, 49, 50, 51, 56, 58, 62, 63, 64] false d d26_ := Fr.tr fd20_ (fr_Mo_gives (d20_ 64 p1.toNat) d20_ (Fr.g fd20_ hg) hr28_) (by decide) (by decide) (by decide)
        obtain ⟨rfl, rfl⟩ := ret_inj h
        exact fd26_
/-! frames of Mo_ahead -/
def wo_Mo_ahead : List (Nat × Nat) := []
def he_Mo_ahead_4 (q : (Int × Dt)) : Dt := q.2
def hb_Mo_ahead_4 (o : (Int × Int × Int × Dt) ⊕ ((Int × Dt))) : Dt := match o with
  | .inl q => q.2.2.2
  | .inr r => he_Mo_ahead_4 r
theorem fr_Mo_ahead_b50 {o : (Int × Int × Int × Dt) ⊕ ((Int × Dt))} (x1 x3 s0 s1 : Int) (d : Dt) (hg : d GH 0 ≤ 6) (h : L_Mo_ahead_b50 x1 x3 s0 s1 d = some o) : Fr wo_Mo_ahead [] false d (hb_Mo_ahead_4 o) := by
  have f0 : Fr wo_Mo_ahead [] false d d := Fr.rfl
  unfold L_Mo_ahead_b50 at h
  obtain ⟨v1_, ev2_, h⟩ := lt_some h
  obtain rfl := Option.some.inj h
  exact f0
theorem fr_Mo_ahead_y4 {o : (Int × Int × Int × Dt) ⊕ ((Int × Dt))} (x1 x2 x3 : Int) (d : Dt) (hg : d GH 0 ≤ 6) (h : L_Mo_ahead_y4 x1 x2 x3 d = some o) : Fr wo_Mo_ahead [] false d (hb_Mo_ahead_4 o) := by
  have f0 : Fr wo_Mo_ahead [] false d d := Fr.rfl
  unfold L_Mo_ahead_y4 at h
  rcases ite_some h with ⟨hc4_, h⟩ | ⟨hc4_, h⟩
  · obtain ⟨hb5_, h⟩ := ck_some h
    obtain ⟨hb7_, h⟩ := ck_some h
    rcases ite_some h with ⟨hc9_, h⟩ | ⟨hc9_, h⟩
    · exact Fr.tr0 f0 (fr_Mo_ahead_b50 x1 x3 x2 1 d (Fr.g f0 hg) h)
    · obtain ⟨hb10_, h⟩ := ck_some h
      obtain ⟨hb12_, h⟩ := ck_some h
      rcases ite_some h with ⟨hc14_, h⟩ | ⟨hc14_, h⟩
      · rcases ite_some h with ⟨hc15_, h⟩ | ⟨hc15_, h⟩
        · exact Fr.tr0 f0 (fr_Mo_ahead_b50 x1 x3 x2 1 d (Fr.g f0 hg) h)
        · exact Fr.tr0 f0 (fr_Mo_ahead_b50 x1 x3 x2 0 d (Fr.g f0 hg) h)
      · exact Fr.tr0 f0 (fr_Mo_ahead_b50 x1 x3 x2 0 d (Fr.g f0 hg) h)
  · obtain rfl := Option.some.inj h
    exact f0
theorem fr_Mo_ahead_l4 {x : (Int × Dt)} (x1 x2 x3 : Int) (d : Dt) (hg : d GH 0 ≤ 6) (h : L_Mo_ahead_l4 x1 x2 x3 d = some x) : Fr wo_Mo_ahead [] false d (he_Mo_ahead_4 x) :=
  lpF_fr (f := fun q : Int × Int × Int × Dt => L_Mo_ahead_y4 q.1 q.2.1 q.2.2.1 q.2.2.2) (fun q => q.2.2.2) he_Mo_ahead_4 (fun q x hq hx => ⟨fun q2 e2 => by subst e2; exact fr_Mo_ahead_y4 q.1 q.2.1 q.2.2.1 q.2.2.2 hq hx, fun r2 e2 => by subst e2; exact fr_Mo_ahead_y4 q.1 q.2.1 q.2.2.1 q.2.2.2 hq hx⟩) FU _ x hg h
theorem fr_Mo_ahead {r : Int} {d' : Dt} (p1 : Int) (d : Dt) (hg : d GH 0 ≤ 6) (h : L_Mo_ahead p1 d = some (r, d')) : Fr wo_Mo_ahead [] false d d' := by
  have f0 : Fr wo_Mo_ahead [] false d d := Fr.rfl
  unfold L_Mo_ahead at h
  obtain ⟨x16_, hx17_, h⟩ := lb_some h
  have fx16_ := Fr.tr0 f0 (fr_Mo_ahead_l4 p1 0 0 d (Fr.g f0 hg) hx17_)
  obtain ⟨v18_, d19_⟩ := x16_
  have fd19_ : Fr wo_Mo_ahead [] false d d19_ := fx16_
  replace h := u1_e h
  obtain ⟨rfl, rfl⟩ := ret_inj h
  exact fd19_
/-! frames of Mo_seated -/
def wo_Mo_seated : List (Nat × Nat) := [(0, 0), (0, 68), (0, 71), (0, 80)]
def he_Mo_seated_43 (q : (Int × Dt)) : Dt := q.2
def hb_Mo_seated_43 (o : (Int × Int × Int × Dt) ⊕ ((Int × Dt))) : Dt := match o with
  | .inl q => q.2.2.2
  | .inr r => he_Mo_seated_43 r
theorem fr_Mo_seated_b63 {o : (Int × Int × Int × Dt) ⊕ ((Int × Dt))} (x1 x5 x6 : Int) (d : Dt) (hg : d GH 0 ≤ 6) (h : L_Mo_seated_b63 x1 x5 x6 d = some o) : Fr wo_Mo_seated [4, 5, 6, 47, 48, 49, 50, 51, 56, 58, 62, 63, 64] false d (hb_Mo_seated_43 o) := by
  have f0 : Fr wo_Mo_seated [4, 5, 6, 47, 48, 49, 50, 51, 56, 58, 62, 63, 64] false d d := Fr.rfl
  unfold L_Mo_seated_b63 at h
  obtain rfl := Option.some.inj h
  exact f0
theorem fr_Mo_seated_y43 {o : (Int × Int × Int × Dt) ⊕ ((Int × Dt))} (x1 x5 x6 : Int) (d : Dt) (hg : d GH 0 ≤ 6) (h : L_Mo_seated_y43 x1 x5 x6 d = some o) : Fr wo_Mo_seated [4, 5, 6, 47, 48, 49, 50, 51, 56, 58, 62, 63, 64] false d (hb_Mo_seated_43 o) := by
  have f0 : Fr wo_Mo_seated [4, 5, 6, 47, 48, 49, 50, 51, 56, 58, 62, 63, 64] false d d := Fr.rfl
  unfold L_Mo_seated_y43 at h
  rcases ite_some h with ⟨hc1_, h⟩ | ⟨hc1_, h⟩
  · obtain ⟨r3_, d2_, hr4_, h⟩ := bd_some h
    have fd2_ : Fr wo_Mo_seated [4, 5, 6, 47, 48, 49, 50, 51, 56, 58, 62, 63, 64] false d d2_ := Fr.tr f0 (fr_Mo_ahead x6 d (Fr.g f0 hg) hr4_) (by decide) (by decide) (by decide)
    rcases ite_some h with ⟨hc6_, h⟩ | ⟨hc6_, h⟩
    · exact Fr.tr0 fd2_ (fr_Mo_seated_b63 x1 x6 x6 d2_ (Fr.g fd2_ hg) h)
    · exact Fr.tr0 fd2_ (fr_Mo_seated_b63 x1 x5 x6 d2_ (Fr.g fd2_ hg) h)
  · obtain rfl := Option.some.inj h
    exact f0
theorem fr_Mo_seated_l43 {x : (Int × Dt)} (x1 x5 x6 : Int) (d : Dt) (hg : d GH 0 ≤ 6) (h : L_Mo_seated_l43 x1 x5 x6 d = some x) : Fr wo_Mo_seated [4, 5, 6, 47, 48, 49, 50, 51, 56, 58, 62, 63, 64] false d (he_Mo_seated_43 x) :=
  lpF_fr (f := fun q : Int × Int × Int × Dt => L_Mo_seated_y43 q.1 q.2.1 q.2.2.1 q.2.2.2) (fun q => q.2.2.2) he_Mo_seated_43 (fun q x hq hx => ⟨fun q2 e2 => by subst e2; exact fr_Mo_seated_y43 q.1 q.2.1 q.2.2.1 q.2.2.2 hq hx, fun r2 e2 => by subst e2; exact fr_Mo_seated_y43 q.1 q.2.1 q.2.2.1 q.2.2.2 hq hx⟩) FU _ x hg h
theorem fr_Mo_seated_b23 {r : Int} {d' : Dt} (d : Dt) (hg : d GH 0 ≤ 6) (h : L_Mo_seated_b23 d = some (r, d')) : Fr wo_Mo_seated [4, 5, 6, 47, 48, 49, 50, 51, 56, 58, 62, 63, 64] false d d' := by
  have f0 : Fr wo_Mo_seated [4, 5, 6, 47, 48, 49, 50, 51, 56, 58, 62, 63, 64] false d d := Fr.rfl
  unfold L_Mo_seated_b23 at h
  obtain ⟨r8_, d7_, hr9_, h⟩ := bd_some h
  have fd7_ : Fr wo_Mo_seated [4, 5, 6, 47, 48, 49, 50, 51, 56, 58, 62, 63, 64] false d d7_ := Fr.tr f0 (fr_Mo_refuse 1 d (Fr.g f0 hg) hr9_) (by decide) (by decide) (by decide)
  obtain ⟨rfl, rfl⟩ := ret_inj h
  exact fd7_
theorem fr_Mo_seated {r : Int} {d' : Dt} (p1 p2 p3 p4 : Int) (d : Dt) (hg : d GH 0 ≤ 6) (h : L_Mo_seated p1 p2 p3 p4 d = some (r, d')) : Fr wo_Mo_seated [4, 5, 6, 47, 48, 49, 50, 51, 56, 58, 62, 63, 64] false d d' := by
  have f0 : Fr wo_Mo_seated [4, 5, 6, 47, 48, 49, 50, 51, 56, 58, 62, 63, 64] false d d := Fr.rfl
  unfold L_Mo_seated at h
  rcases ite_some h with ⟨hc11_, h⟩ | ⟨hc11_, h⟩
  · exact Fr.tr0 f0 (fr_Mo_seated_b23  d (Fr.g f0 hg) h)
  · rcases ite_some h with ⟨hc12_, h⟩ | ⟨hc12_, h⟩
    · exact Fr.tr0 f0 (fr_Mo_seated_b23  d (Fr.g f0 hg) h)
    · obtain ⟨r14_, d13_, hr15_, h⟩ := bd_some h
      have fd13_ : Fr wo_Mo_seated [4, 5, 6, 47, 48, 49, 50, 51, 56, 58, 62, 63, 64] false d d13_ := Fr.tr f0 (fr_Mo_isPlace p2 d (Fr.g f0 hg) hr15_) (by decide) (by decide) (by decide)
      rcases ite_some h with ⟨hc17_, h⟩ | ⟨hc17_, h⟩
      · exact Fr.tr0 fd13_ (fr_Mo_seated_b23  d13_ (Fr.g fd13_ hg) h)
      · obtain ⟨r19_, d18_, hr20_, h⟩ := bd_some h
        have fd18_ : Fr wo_Mo_seated [4, 5, 6, 47, 48, 49, 50, 51, 56, 58, 62, 63, 64] false d d18_ := Fr.tr fd13_ (fr_Mo_isDay p3 d13_ (Fr.g fd13_ hg) hr20_) (by decide) (by decide) (by decide)
        rcases ite_some h with ⟨hc22_, h⟩ | ⟨hc22_, h⟩
        · exact Fr.tr0 fd18_ (fr_Mo_seated_b23  d18_ (Fr.g fd18_ hg) h)
        · obtain ⟨r24_, d23_, hr25_, h⟩ := bd_some h
          have fd23_ : Fr wo_Mo_seated [4, 5, 6, 47, 48, 49, 50, 51, 56, 58, 62, 63, 64] false d d23_ := Fr.tr fd18_ (fr_Mo_count p2 p3 p4 d18_ (Fr.g fd18_ hg) hr25_) (by decide) (by decide) (by decide)
          obtain ⟨x27_, hx28_, h⟩ := lb_some h
          have fx27_ := Fr.tr0 fd23_ (fr_Mo_seated_l43 p1 0 0 d23_ (Fr.g fd23_ hg) hx28_)
          obtain ⟨v29_, d30_⟩ := x27_
          have fd30_ : Fr wo_Mo_seated [4, 5, 6, 47, 48, 49, 50, 51, 56, 58, 62, 63, 64] false d d30_ := fx27_
          replace h := u1_e h
          obtain ⟨r33_, d32_, hr34_, h⟩ := bd_some h
          have fd32_ : Fr wo_Mo_seated [4, 5, 6, 47, 48, 49, 50, 51, 56, 58, 62, 63, 64] false d d32_ := Fr.tr fd30_ (fr_Mo_gives v29_ d30_ (Fr.g fd30_ hg) hr34_) (by decide) (by decide) (by decide)
          obtain ⟨rfl, rfl⟩ := ret_inj h
          exact fd32_
/-! frames of Mo_ground -/
def wo_Mo_ground : List (Nat × Nat) := [(0, 0), (0, 92)]
def he_Mo_ground_46 (r : (Int × Int × Dt) ⊕ (Dt)) : Dt := match r with
  | .inl q => q.2.2
  | .inr q => q
def hb_Mo_ground_46 (o : (Int × Int × Int × Dt) ⊕ ((Int × Int × Dt) ⊕ (Dt))) : Dt := match o with
  | .inl q => q.2.2.2
  | .inr r => he_Mo_ground_46 r
theorem fr_Mo_ground_b81 {o : (Int × Int × Int × Dt) ⊕ ((Int × Int × Dt) ⊕ (Dt))} (x1 x2 x3 : Int) (d : Dt) (hg : d GH 0 ≤ 6) (h : L_Mo_ground_b81 x1 x2 x3 d = some o) : Fr wo_Mo_ground [65, 66, 68] false d (hb_Mo_ground_46 o) := by
  have f0 : Fr wo_Mo_ground [65, 66, 68] false d d := Fr.rfl
  unfold L_Mo_ground_b81 at h
  obtain rfl := Option.some.inj h
  exact f0
theorem fr_Mo_ground_y46 {o : (Int × Int × Int × Dt) ⊕ ((Int × Int × Dt) ⊕ (Dt))} (x1 x2 x3 : Int) (d : Dt) (hg : d GH 0 ≤ 6) (h : L_Mo_ground_y46 x1 x2 x3 d = some o) : Fr wo_Mo_ground [65, 66, 68] false d (hb_Mo_ground_46 o) := by
  have f0 : Fr wo_Mo_ground [65, 66, 68] false d d := Fr.rfl
  unfold L_Mo_ground_y46 at h
  rcases ite_some h with ⟨hc2_, h⟩ | ⟨hc2_, h⟩
  · obtain ⟨hb3_, h⟩ := ck_some h
    rcases ite_some h with ⟨hc5_, h⟩ | ⟨hc5_, h⟩
    · obtain ⟨hb6_, h⟩ := ck_some h
      rcases ite_some h with ⟨hc8_, h⟩ | ⟨hc8_, h⟩
      · obtain rfl := Option.some.inj h
        exact f0
      · exact Fr.tr0 f0 (fr_Mo_ground_b81 x1 x2 x3 d (Fr.g f0 hg) h)
    · exact Fr.tr0 f0 (fr_Mo_ground_b81 x1 x2 x3 d (Fr.g f0 hg) h)
  · obtain rfl := Option.some.inj h
    exact f0
theorem fr_Mo_ground_l46 {x : (Int × Int × Dt) ⊕ (Dt)} (x1 x2 x3 : Int) (d : Dt) (hg : d GH 0 ≤ 6) (h : L_Mo_ground_l46 x1 x2 x3 d = some x) : Fr wo_Mo_ground [65, 66, 68] false d (he_Mo_ground_46 x) :=
  lpF_fr (f := fun q : Int × Int × Int × Dt => L_Mo_ground_y46 q.1 q.2.1 q.2.2.1 q.2.2.2) (fun q => q.2.2.2) he_Mo_ground_46 (fun q x hq hx => ⟨fun q2 e2 => by subst e2; exact fr_Mo_ground_y46 q.1 q.2.1 q.2.2.1 q.2.2.2 hq hx, fun r2 e2 => by subst e2; exact fr_Mo_ground_y46 q.1 q.2.1 q.2.2.1 q.2.2.2 hq hx⟩) FU _ x hg h
theorem fr_Mo_ground_b29 {r : Int} {d' : Dt} (x1 x2 : Int) (d : Dt) (hg : d GH 0 ≤ 6) (h : L_Mo_ground_b29 x1 x2 d = some (r, d')) : Fr wo_Mo_ground [65, 66, 68] false d d' := by
  have f0 : Fr wo_Mo_ground [65, 66, 68] false d d := Fr.rfl
  unfold L_Mo_ground_b29 at h
  rcases ite_some h with ⟨hc10_, h⟩ | ⟨hc10_, h⟩
  · obtain ⟨r12_, d11_, hr13_, h⟩ := bd_some h
    have fd11_ : Fr wo_Mo_ground [65, 66, 68] false d d11_ := Fr.tr f0 (fr_Mo_refuse 4 d (Fr.g f0 hg) hr13_) (by decide) (by decide) (by decide)
    obtain ⟨rfl, rfl⟩ := ret_inj h
    exact fd11_
  · obtain ⟨x15_, hx16_, h⟩ := lb_some h
    have fx15_ := Fr.tr0 f0 (fr_Mo_ground_l46 x1 x2 0 d (Fr.g f0 hg) hx16_)
    rcases x15_ with ⟨v17_, v18_, d19_⟩ | d33_
    · have fd19_ : Fr wo_Mo_ground [65, 66, 68] false d d19_ := fx15_
      replace h := sml_e h
      replace h := u2_e h
      obtain ⟨hb22_, h⟩ := ck_some h
      obtain ⟨hb24_, h⟩ := ck_some h
      obtain ⟨hb26_, h⟩ := ck_some h
      obtain ⟨r30_, d29_, hr31_, h⟩ := bd_some h
      have fd29_ : Fr wo_Mo_ground [65, 66, 68] false d d29_ := Fr.tr (Fr.upo (Fr.upa (Fr.upa (Fr.upa fd19_ rfl (by decide)) rfl (by decide)) rfl (by decide)) rfl (by decide)) (fr_Mo_gives (w32 ((w32 ((d19_ 0 92) + 1)) - 1)) (up2 (up2 (up2 (up2 d19_ 68 ((d19_ 0 92)).toNat v17_) 65 ((d19_ 0 92)).toNat v18_) 66 ((d19_ 0 92)).toNat 0) 0 92 (w32 ((d19_ 0 92) + 1))) (Fr.g (Fr.upo (Fr.upa (Fr.upa (Fr.upa fd19_ rfl (by decide)) rfl (by decide)) rfl (by decide)) rfl (by decide)) hg) hr31_) (by decide) (by decide) (by decide)
      obtain ⟨rfl, rfl⟩ := ret_inj h
      exact fd29_
    · have fd33_ : Fr wo_Mo_ground [65, 66, 68] false d d33_ := fx15_
      replace h := smr_e h
      replace h := u0_e h
      obtain ⟨r36_, d35_, hr37_, h⟩ := bd_some h
      have fd35_ : Fr wo_Mo_ground [65, 66, 68] false d d35_ := Fr.tr fd33_ (fr_Mo_refuse 7 d33_ (Fr.g fd33_ hg) hr37_) (by decide) (by decide) (by decide)
      obtain ⟨rfl, rfl⟩ := ret_inj h
      exact fd35_
theorem fr_Mo_ground_b23 {r : Int} {d' : Dt} (d : Dt) (hg : d GH 0 ≤ 6) (h : L_Mo_ground_b23 d = some (r, d')) : Fr wo_Mo_ground [65, 66, 68] false d d' := by
  have f0 : Fr wo_Mo_ground [65, 66, 68] false d d := Fr.rfl
  unfold L_Mo_ground_b23 at h
  obtain ⟨r43_, d42_, hr44_, h⟩ := bd_some h
  have fd42_ : Fr wo_Mo_ground [65, 66, 68] false d d42_ := Fr.tr f0 (fr_Mo_refuse 1 d (Fr.g f0 hg) hr44_) (by decide) (by decide) (by decide)
  obtain ⟨rfl, rfl⟩ := ret_inj h
  exact fd42_
theorem fr_Mo_ground {r : Int} {d' : Dt} (p1 p2 : Int) (d : Dt) (hg : d GH 0 ≤ 6) (h : L_Mo_ground p1 p2 d = some (r, d')) : Fr wo_Mo_ground [65, 66, 68] false d d' := by
  have f0 : Fr wo_Mo_ground [65, 66, 68] false d d := Fr.rfl
  unfold L_Mo_ground at h
  rcases ite_some h with ⟨hc46_, h⟩ | ⟨hc46_, h⟩
  · obtain ⟨r48_, d47_, hr49_, h⟩ := bd_some h
    have fd47_ : Fr wo_Mo_ground [65, 66, 68] false d d47_ := Fr.tr f0 (fr_Mo_isEntry p2 d (Fr.g f0 hg) hr49_) (by decide) (by decide) (by decide)
    rcases ite_some h with ⟨hc51_, h⟩ | ⟨hc51_, h⟩
    · exact Fr.tr0 fd47_ (fr_Mo_ground_b23  d47_ (Fr.g fd47_ hg) h)
    · exact Fr.tr0 fd47_ (fr_Mo_ground_b29 p1 p2 d47_ (Fr.g fd47_ hg) h)
  · obtain ⟨r53_, d52_, hr54_, h⟩ := bd_some h
    have fd52_ : Fr wo_Mo_ground [65, 66, 68] false d d52_ := Fr.tr f0 (fr_Mo_isOffer p2 d (Fr.g f0 hg) hr54_) (by decide) (by decide) (by decide)
    rcases ite_some h with ⟨hc56_, h⟩ | ⟨hc56_, h⟩
    · exact Fr.tr0 fd52_ (fr_Mo_ground_b23  d52_ (Fr.g fd52_ hg) h)
    · exact Fr.tr0 fd52_ (fr_Mo_ground_b29 p1 p2 d52_ (Fr.g fd52_ hg) h)
/-! frames of Mo_against -/
def wo_Mo_against : List (Nat × Nat) := [(0, 0)]
theorem fr_Mo_against_b29 {r : Int} {d' : Dt} (d : Dt) (hg : d GH 0 ≤ 6) (h : L_Mo_against_b29 d = some (r, d')) : Fr wo_Mo_against [66] false d d' := by
  have f0 : Fr wo_Mo_against [66] false d d := Fr.rfl
  unfold L_Mo_against_b29 at h
  obtain ⟨r2_, d1_, hr3_, h⟩ := bd_some h
  have fd1_ : Fr wo_Mo_against [66] false d d1_ := Fr.tr f0 (fr_Mo_is 1 d (Fr.g f0 hg) hr3_) (by decide) (by decide) (by decide)
  obtain ⟨rfl, rfl⟩ := ret_inj h
  exact fd1_
theorem fr_Mo_against {r : Int} {d' : Dt} (p1 p2 : Int) (d : Dt) (hg : d GH 0 ≤ 6) (h : L_Mo_against p1 p2 d = some (r, d')) : Fr wo_Mo_against [66] false d d' := by
  have f0 : Fr wo_Mo_against [66] false d d := Fr.rfl
  unfold L_Mo_against at h
  rcases ite_some h with ⟨hc5_, h⟩ | ⟨hc5_, h⟩
  · exact Fr.tr0 f0 (fr_Mo_against_b29  d (Fr.g f0 hg) h)
  · rcases ite_some h with ⟨hc7_, h⟩ | ⟨hc7_, h⟩
    · rcases ite_some h with ⟨hc8_, h⟩ | ⟨hc8_, h⟩
      · exact Fr.tr0 f0 (fr_Mo_against_b29  d (Fr.g f0 hg) h)
      · rcases ite_some h with ⟨hc10_, h⟩ | ⟨hc10_, h⟩
        · rcases ite_some h with ⟨hc11_, h⟩ | ⟨hc11_, h⟩
          · exact Fr.tr0 f0 (fr_Mo_against_b29  d (Fr.g f0 hg) h)
          · obtain ⟨hb12_, h⟩ := ck_some h
            rcases ite_some h with ⟨hc14_, h⟩ | ⟨hc14_, h⟩
            · obtain ⟨r16_, d15_, hr17_, h⟩ := bd_some h
              have fd15_ : Fr wo_Mo_against [66] false d d15_ := Fr.tr f0 (fr_Mo_is 7 d (Fr.g f0 hg) hr17_) (by decide) (by decide) (by decide)
              obtain ⟨rfl, rfl⟩ := ret_inj h
              exact fd15_
            · obtain ⟨hb19_, h⟩ := ck_some h
              obtain ⟨hb21_, h⟩ := ck_some h
              obtain ⟨hb22_, h⟩ := ck_some h
              obtain ⟨hb24_, h⟩ := ck_some h
              obtain ⟨r26_, d25_, hr27_, h⟩ := bd_some h
              have fd25_ : Fr wo_Mo_against [66] false d d25_ := Fr.tr (Fr.upa (Fr.upa f0 rfl (by decide)) rfl (by decide)) (fr_Mo_is 0 (up2 (up2 d 66 p1.toNat (ior (d 66 p1.toNat) (ishl 1 p2))) 66 p2.toNat (ior ((up2 d 66 p1.toNat (ior (d 66 p1.toNat) (ishl 1 p2))) 66 p2.toNat) (ishl 1 p1))) (Fr.g (Fr.upa (Fr.upa f0 rfl (by decide)) rfl (by decide)) hg) hr27_) (by decide) (by decide) (by decide)
              obtain ⟨rfl, rfl⟩ := ret_inj h
              exact fd25_
        · exact Fr.tr0 f0 (fr_Mo_against_b29  d (Fr.g f0 hg) h)
    · exact Fr.tr0 f0 (fr_Mo_against_b29  d (Fr.g f0 hg) h)
/-! frames of Mo_readWritten -/
def wo_Mo_readWritten : List (Nat × Nat) := []
def he_Mo_readWritten_20 (q : (Int × Dt)) : Dt := q.2
def hb_Mo_readWritten_20 (o : (Int × Int × Dt) ⊕ ((Int × Dt))) : Dt := match o with
  | .inl q => q.2.2
  | .inr r => he_Mo_readWritten_20 r
def he_Mo_readWritten_6 (q : (Dt)) : Dt := q
def hb_Mo_readWritten_6 (o : (Int × Dt) ⊕ ((Dt))) : Dt := match o with
  | .inl q => q.2
  | .inr r => he_Mo_readWritten_6 r
theorem fr_Mo_readWritten_y20 {o : (Int × Int × Dt) ⊕ ((Int × Dt))} (x1 x2 : Int) (d : Dt) (hg : d GH 0 ≤ 6) (h : L_Mo_readWritten_y20 x1 x2 d = some o) : Fr wo_Mo_readWritten [4, 5, 6, 56, 58, 67] false d (hb_Mo_readWritten_20 o) := by
  have f0 : Fr wo_Mo_readWritten [4, 5, 6, 56, 58, 67] false d d := Fr.rfl
  unfold L_Mo_readWritten_y20 at h
  rcases ite_some h with ⟨hc2_, h⟩ | ⟨hc2_, h⟩
  · obtain ⟨hb3_, h⟩ := ck_some h
    obtain ⟨r6_, d5_, hr7_, h⟩ := bd_some h
    have fd5_ : Fr wo_Mo_readWritten [4, 5, 6, 56, 58, 67] false d d5_ := Fr.tr f0 (fr_Mo_setOf x2 d (Fr.g f0 hg) hr7_) (by decide) (by decide) (by decide)
    obtain ⟨hb9_, h⟩ := ck_some h
    obtain rfl := Option.some.inj h
    exact (Fr.upa fd5_ rfl (by decide))
  · obtain rfl := Option.some.inj h
    exact f0
theorem fr_Mo_readWritten_l20 {x : (Int × Dt)} (x1 x2 : Int) (d : Dt) (hg : d GH 0 ≤ 6) (h : L_Mo_readWritten_l20 x1 x2 d = some x) : Fr wo_Mo_readWritten [4, 5, 6, 56, 58, 67] false d (he_Mo_readWritten_20 x) :=
  lpF_fr (f := fun q : Int × Int × Dt => L_Mo_readWritten_y20 q.1 q.2.1 q.2.2) (fun q => q.2.2) he_Mo_readWritten_20 (fun q x hq hx => ⟨fun q2 e2 => by subst e2; exact fr_Mo_readWritten_y20 q.1 q.2.1 q.2.2 hq hx, fun r2 e2 => by subst e2; exact fr_Mo_readWritten_y20 q.1 q.2.1 q.2.2 hq hx⟩) FU _ x hg h
theorem fr_Mo_readWritten_y6 {o : (Int × Dt) ⊕ ((Dt))} (x1 : Int) (d : Dt) (hg : d GH 0 ≤ 6) (h : L_Mo_readWritten_y6 x1 d = some o) : Fr wo_Mo_readWritten [4, 5, 6, 56, 58, 67] false d (hb_Mo_readWritten_6 o) := by
  have f0 : Fr wo_Mo_readWritten [4, 5, 6, 56, 58, 67] false d d := Fr.rfl
  unfold L_Mo_readWritten_y6 at h
  rcases ite_some h with ⟨hc10_, h⟩ | ⟨hc10_, h⟩
  · obtain ⟨hb11_, h⟩ := ck_some h
    obtain ⟨x12_, hx13_, h⟩ := lb_some h
    have fx12_ := Fr.tr0 (Fr.upa f0 rfl (by decide)) (fr_Mo_readWritten_l20 x1 0 (up2 d 67 x1.toNat 0) (Fr.g (Fr.upa f0 rfl (by decide)) hg) hx13_)
    obtain ⟨v14_, d15_⟩ := x12_
    have fd15_ : Fr wo_Mo_readWritten [4, 5, 6, 56, 58, 67] false d d15_ := fx12_
    replace h := u1_e h
    obtain rfl := Option.some.inj h
    exact fd15_
  · obtain rfl := Option.some.inj h
    exact f0
theorem fr_Mo_readWritten_l6 {x : (Dt)} (x1 : Int) (d : Dt) (hg : d GH 0 ≤ 6) (h : L_Mo_readWritten_l6 x1 d = some x) : Fr wo_Mo_readWritten [4, 5, 6, 56, 58, 67] false d (he_Mo_readWritten_6 x) :=
  lpF_fr (f := fun q : Int × Dt => L_Mo_readWritten_y6 q.1 q.2) (fun q => q.2) he_Mo_readWritten_6 (fun q x hq hx => ⟨fun q2 e2 => by subst e2; exact fr_Mo_readWritten_y6 q.1 q.2 hq hx, fun r2 e2 => by subst e2; exact fr_Mo_readWritten_y6 q.1 q.2 hq hx⟩) FU _ x hg h
theorem fr_Mo_readWritten {r : Int} {d' : Dt} (d : Dt) (hg : d GH 0 ≤ 6) (h : L_Mo_readWritten d = some (r, d')) : Fr wo_Mo_readWritten [4, 5, 6, 56, 58, 67] false d d' := by
  have f0 : Fr wo_Mo_readWritten [4, 5, 6, 56, 58, 67] false d d := Fr.rfl
  unfold L_Mo_readWritten at h
  obtain ⟨r19_, d18_, hr20_, h⟩ := bd_some h
  have fd18_ : Fr wo_Mo_readWritten [4, 5, 6, 56, 58, 67] false d d18_ := Fr.tr f0 (fr_Mo_joinAll  d (Fr.g f0 hg) hr20_) (by decide) (by decide) (by decide)
  obtain ⟨x22_, hx23_, h⟩ := lb_some h
  have fx22_ := Fr.tr0 fd18_ (fr_Mo_readWritten_l6 0 d18_ (Fr.g fd18_ hg) hx23_)
  obtain ⟨d24_, rfl⟩ : ∃ z, z = x22_ := ⟨_, rfl⟩
  have fd24_ : Fr wo_Mo_readWritten [4, 5, 6, 56, 58, 67] false d d24_ := fx22_
  replace h := u0_e h
  obtain ⟨rfl, rfl⟩ := ret_inj h
  exact fd24_
/-! frames of Mo_countWritten -/
def wo_Mo_countWritten : List (Nat × Nat) := []
def he_Mo_countWritten_21 (q : (Int × Int × Dt)) : Dt := q.2.2
def hb_Mo_countWritten_21 (o : (Int × Int × Int × Dt) ⊕ ((Int × Int × Dt))) : Dt := match o with
  | .inl q => q.2.2.2
  | .inr r => he_Mo_countWritten_21 r
def he_Mo_countWritten_2 (q : (Dt)) : Dt := q
def hb_Mo_countWritten_2 (o : (Int × Int × Dt) ⊕ ((Dt))) : Dt := match o with
  | .inl q => q.2.2
  | .inr r => he_Mo_countWritten_2 r
theorem fr_Mo_countWritten_b89 {o : (Int × Int × Int × Dt) ⊕ ((Int × Int × Dt))} (x1 x2 x3 : Int) (d : Dt) (hg : d GH 0 ≤ 6) (h : L_Mo_countWritten_b89 x1 x2 x3 d = some o) : Fr wo_Mo_countWritten [64] false d (hb_Mo_countWritten_21 o) := by
  have f0 : Fr wo_Mo_countWritten [64] false d d := Fr.rfl
  unfold L_Mo_countWritten_b89 at h
  obtain rfl := Option.some.inj h
  exact f0
theorem fr_Mo_countWritten_b87 {o : (Int × Int × Int × Dt) ⊕ ((Int × Int × Dt))} (x1 x2 x3 s1 s2 s3 : Int) (d : Dt) (hg : d GH 0 ≤ 6) (h : L_Mo_countWritten_b87 x1 x2 x3 s1 s2 s3 d = some o) : Fr wo_Mo_countWritten [64] false d (hb_Mo_countWritten_21 o) := by
  have f0 : Fr wo_Mo_countWritten [64] false d d := Fr.rfl
  unfold L_Mo_countWritten_b87 at h
  obtain ⟨hb1_, h⟩ := ck_some h
  exact Fr.tr0 (Fr.upa f0 rfl (by decide)) (fr_Mo_countWritten_b89 x1 x2 x3 (up2 d 64 s1.toNat (w32 (s2 + s3))) (Fr.g (Fr.upa f0 rfl (by decide)) hg) h)
theorem fr_Mo_countWritten_y21 {o : (Int × Int × Int × Dt) ⊕ ((Int × Int × Dt))} (x1 x2 x3 : Int) (d : Dt) (hg : d GH 0 ≤ 6) (h : L_Mo_countWritten_y21 x1 x2 x3 d = some o) : Fr wo_Mo_countWritten [64] false d (hb_Mo_countWritten_21 o) := by
  have f0 : Fr wo_Mo_countWritten [64] false d d := Fr.rfl
  unfold L_Mo_countWritten_y21 at h
  rcases ite_some h with ⟨hc3_, h⟩ | ⟨hc3_, h⟩
  · rcases ite_some h with ⟨hc4_, h⟩ | ⟨hc4_, h⟩
    · obtain ⟨hb5_, h⟩ := ck_some h
      obtain ⟨hb7_, h⟩ := ck_some h
      rcases ite_some h with ⟨hc9_, h⟩ | ⟨hc9_, h⟩
      · obtain ⟨hb10_, h⟩ := ck_some h
        obtain ⟨r13_, d12_, hr14_, h⟩ := bd_some h
        have fd12_ : Fr wo_Mo_countWritten [64] false d d12_ := Fr.tr f0 (fr_Mo_setOf (d 65 x3.toNat) d (Fr.g f0 hg) hr14_) (by decide) (by decide) (by decide)
        exact Fr.tr0 fd12_ (fr_Mo_countWritten_b87 x1 x2 x3 x2 (d 64 x2.toNat) (w32 (-(iand (ishr r13_ x2) 1))) d12_ (Fr.g fd12_ hg) h)
      · obtain ⟨hb16_, h⟩ := ck_some h
        obtain ⟨hb18_, h⟩ := ck_some h
        exact Fr.tr0 f0 (fr_Mo_countWritten_b87 x1 x2 x3 x2 (d 64 x2.toNat) (iand (ishr (d 60 ((d 65 x3.toNat)).toNat) x2) 1) d (Fr.g f0 hg) h)
    · exact Fr.tr0 f0 (fr_Mo_countWritten_b89 x1 x2 x3 d (Fr.g f0 hg) h)
  · obtain rfl := Option.some.inj h
    exact f0
theorem fr_Mo_countWritten_l21 {x : (Int × Int × Dt)} (x1 x2 x3 : Int) (d : Dt) (hg : d GH 0 ≤ 6) (h : L_Mo_countWritten_l21 x1 x2 x3 d = some x) : Fr wo_Mo_countWritten [64] false d (he_Mo_countWritten_21 x) :=
  lpF_fr (f := fun q : Int × Int × Int × Dt => L_Mo_countWritten_y21 q.1 q.2.1 q.2.2.1 q.2.2.2) (fun q => q.2.2.2) he_Mo_countWritten_21 (fun q x hq hx => ⟨fun q2 e2 => by subst e2; exact fr_Mo_countWritten_y21 q.1 q.2.1 q.2.2.1 q.2.2.2 hq hx, fun r2 e2 => by subst e2; exact fr_Mo_countWritten_y21 q.1 q.2.1 q.2.2.1 q.2.2.2 hq hx⟩) FU _ x hg h
theorem fr_Mo_countWritten_y2 {o : (Int × Int × Dt) ⊕ ((Dt))} (x1 x2 : Int) (d : Dt) (hg : d GH 0 ≤ 6) (h : L_Mo_countWritten_y2 x1 x2 d = some o) : Fr wo_Mo_countWritten [64] false d (hb_Mo_countWritten_2 o) := by
  have f0 : Fr wo_Mo_countWritten [64] false d d := Fr.rfl
  unfold L_Mo_countWritten_y2 at h
  rcases ite_some h with ⟨hc20_, h⟩ | ⟨hc20_, h⟩
  · obtain ⟨hb21_, h⟩ := ck_some h
    obtain ⟨hb23_, h⟩ := ck_some h
    obtain ⟨x24_, hx25_, h⟩ := lb_some h
    have fx24_ := Fr.tr0 (Fr.upa f0 rfl (by decide)) (fr_Mo_countWritten_l21 x1 x2 0 (up2 d 64 x2.toNat (d 67 x2.toNat)) (Fr.g (Fr.upa f0 rfl (by decide)) hg) hx25_)
    obtain ⟨v26_, v27_, d28_⟩ := x24_
    have fd28_ : Fr wo_Mo_countWritten [64] false d d28_ := fx24_
    replace h := u2_e h
    obtain rfl := Option.some.inj h
    exact fd28_
  · obtain rfl := Option.some.inj h
    exact f0
theorem fr_Mo_countWritten_l2 {x : (Dt)} (x1 x2 : Int) (d : Dt) (hg : d GH 0 ≤ 6) (h : L_Mo_countWritten_l2 x1 x2 d = some x) : Fr wo_Mo_countWritten [64] false d (he_Mo_countWritten_2 x) :=
  lpF_fr (f := fun q : Int × Int × Dt => L_Mo_countWritten_y2 q.1 q.2.1 q.2.2) (fun q => q.2.2) he_Mo_countWritten_2 (fun q x hq hx => ⟨fun q2 e2 => by subst e2; exact fr_Mo_countWritten_y2 q.1 q.2.1 q.2.2 hq hx, fun r2 e2 => by subst e2; exact fr_Mo_countWritten_y2 q.1 q.2.1 q.2.2 hq hx⟩) FU _ x hg h
theorem fr_Mo_countWritten {r : Int} {d' : Dt} (p1 : Int) (d : Dt) (hg : d GH 0 ≤ 6) (h : L_Mo_countWritten p1 d = some (r, d')) : Fr wo_Mo_countWritten [64] false d d' := by
  have f0 : Fr wo_Mo_countWritten [64] false d d := Fr.rfl
  unfold L_Mo_countWritten at h
  obtain ⟨x31_, hx32_, h⟩ := lb_some h
  have fx31_ := Fr.tr0 f0 (fr_Mo_countWritten_l2 p1 0 d (Fr.g f0 hg) hx32_)
  obtain ⟨d33_, rfl⟩ : ∃ z, z = x31_ := ⟨_, rfl⟩
  have fd33_ : Fr wo_Mo_countWritten [64] false d d33_ := fx31_
  replace h := u0_e h
  obtain ⟨rfl, rfl⟩ := ret_inj h
  exact fd33_
/-! frames of Mo_written -/
def wo_Mo_written : List (Nat × Nat) := [(0, 0)]
theorem fr_Mo_written_b21 {r : Int} {d' : Dt} (d : Dt) (hg : d GH 0 ≤ 6) (h : L_Mo_written_b21 d = some (r, d')) : Fr wo_Mo_written [4, 5, 6, 56, 58, 64, 67] false d d' := by
  have f0 : Fr wo_Mo_written [4, 5, 6, 56, 58, 64, 67] false d d := Fr.rfl
  unfold L_Mo_written_b21 at h
  obtain ⟨r2_, d1_, hr3_, h⟩ := bd_some h
  have fd1_ : Fr wo_Mo_written [4, 5, 6, 56, 58, 64, 67] false d d1_ := Fr.tr f0 (fr_Mo_refuse 1 d (Fr.g f0 hg) hr3_) (by decide) (by decide) (by decide)
  obtain ⟨rfl, rfl⟩ := ret_inj h
  exact fd1_
theorem fr_Mo_written {r : Int} {d' : Dt} (p1 p2 : Int) (d : Dt) (hg : d GH 0 ≤ 6) (h : L_Mo_written p1 p2 d = some (r, d')) : Fr wo_Mo_written [4, 5, 6, 56, 58, 64, 67] false d d' := by
  have f0 : Fr wo_Mo_written [4, 5, 6, 56, 58, 64, 67] false d d := Fr.rfl
  unfold L_Mo_written at h
  obtain ⟨r6_, d5_, hr7_, h⟩ := bd_some h
  have fd5_ : Fr wo_Mo_written [4, 5, 6, 56, 58, 64, 67] false d d5_ := Fr.tr f0 (fr_Mo_isCandidate p1 d (Fr.g f0 hg) hr7_) (by decide) (by decide) (by decide)
  rcases ite_some h with ⟨hc9_, h⟩ | ⟨hc9_, h⟩
  · exact Fr.tr0 fd5_ (fr_Mo_written_b21  d5_ (Fr.g fd5_ hg) h)
  · rcases ite_some h with ⟨hc10_, h⟩ | ⟨hc10_, h⟩
    · exact Fr.tr0 fd5_ (fr_Mo_written_b21  d5_ (Fr.g fd5_ hg) h)
    · rcases ite_some h with ⟨hc12_, h⟩ | ⟨hc12_, h⟩
      · obtain ⟨r14_, d13_, hr15_, h⟩ := bd_some h
        have fd13_ : Fr wo_Mo_written [4, 5, 6, 56, 58, 64, 67] false d d13_ := Fr.tr fd5_ (fr_Mo_readWritten  d5_ (Fr.g fd5_ hg) hr15_) (by decide) (by decide) (by decide)
        obtain ⟨r18_, d17_, hr19_, h⟩ := bd_some h
        have fd17_ : Fr wo_Mo_written [4, 5, 6, 56, 58, 64, 67] false d d17_ := Fr.tr fd13_ (fr_Mo_countWritten p2 d13_ (Fr.g fd13_ hg) hr19_) (by decide) (by decide) (by decide)
        obtain ⟨hb21_, h⟩ := ck_some h
        obtain ⟨r24_, d23_, hr25_, h⟩ := bd_some h
        have fd23_ : Fr wo_Mo_written [4, 5, 6, 56, 58, 64, 67] false d d23_ := Fr.tr fd17_ (fr_Mo_gives (d17_ 64 p1.toNat) d17_ (Fr.g fd17_ hg) hr25_) (by decide) (by decide) (by decide)
        obtain ⟨rfl, rfl⟩ := ret_inj h
        exact fd23_
      · exact Fr.tr0 fd5_ (fr_Mo_written_b21  d5_ (Fr.g fd5_ hg) h)
/-! frames of Mo_canBe -/
def wo_Mo_canBe : List (Nat × Nat) := []
def he_Mo_canBe_2 (r : (Dt) ⊕ (Dt)) : Dt := match r with
  | .inl q => q
  | .inr q => q
def hb_Mo_canBe_2 (o : (Int × Int × Dt) ⊕ ((Dt) ⊕ (Dt))) : Dt := match o with
  | .inl q => q.2.2
  | .inr r => he_Mo_canBe_2 r
theorem fr_Mo_canBe_b32 {o : (Int × Int × Dt) ⊕ ((Dt) ⊕ (Dt))} (x1 x2 : Int) (d : Dt) (hg : d GH 0 ≤ 6) (h : L_Mo_canBe_b32 x1 x2 d = some o) : Fr wo_Mo_canBe [] false d (hb_Mo_canBe_2 o) := by
  have f0 : Fr wo_Mo_canBe [] false d d := Fr.rfl
  unfold L_Mo_canBe_b32 at h
  obtain rfl := Option.some.inj h
  exact f0
theorem fr_Mo_canBe_y2 {o : (Int × Int × Dt) ⊕ ((Dt) ⊕ (Dt))} (x1 x2 : Int) (d : Dt) (hg : d GH 0 ≤ 6) (h : L_Mo_canBe_y2 x1 x2 d = some o) : Fr wo_Mo_canBe [] false d (hb_Mo_canBe_2 o) := by
  have f0 : Fr wo_Mo_canBe [] false d d := Fr.rfl
  unfold L_Mo_canBe_y2 at h
  rcases ite_some h with ⟨hc2_, h⟩ | ⟨hc2_, h⟩
  · rcases ite_some h with ⟨hc3_, h⟩ | ⟨hc3_, h⟩
    · obtain ⟨hb4_, h⟩ := ck_some h
      rcases ite_some h with ⟨hc6_, h⟩ | ⟨hc6_, h⟩
      · exact Fr.tr0 f0 (fr_Mo_canBe_b32 x1 x2 d (Fr.g f0 hg) h)
      · obtain rfl := Option.some.inj h
        exact f0
    · exact Fr.tr0 f0 (fr_Mo_canBe_b32 x1 x2 d (Fr.g f0 hg) h)
  · obtain rfl := Option.some.inj h
    exact f0
theorem fr_Mo_canBe_l2 {x : (Dt) ⊕ (Dt)} (x1 x2 : Int) (d : Dt) (hg : d GH 0 ≤ 6) (h : L_Mo_canBe_l2 x1 x2 d = some x) : Fr wo_Mo_canBe [] false d (he_Mo_canBe_2 x) :=
  lpF_fr (f := fun q : Int × Int × Dt => L_Mo_canBe_y2 q.1 q.2.1 q.2.2) (fun q => q.2.2) he_Mo_canBe_2 (fun q x hq hx => ⟨fun q2 e2 => by subst e2; exact fr_Mo_canBe_y2 q.1 q.2.1 q.2.2 hq hx, fun r2 e2 => by subst e2; exact fr_Mo_canBe_y2 q.1 q.2.1 q.2.2 hq hx⟩) FU _ x hg h
theorem fr_Mo_canBe {r : Int} {d' : Dt} (p1 : Int) (d : Dt) (hg : d GH 0 ≤ 6) (h : L_Mo_canBe p1 d = some (r, d')) : Fr wo_Mo_canBe [] false d d' := by
  have f0 : Fr wo_Mo_canBe [] false d d := Fr.rfl
  unfold L_Mo_canBe at h
  obtain ⟨x7_, hx8_, h⟩ := lb_some h
  have fx7_ := Fr.tr0 f0 (fr_Mo_canBe_l2 p1 0 d (Fr.g f0 hg) hx8_)
  rcases x7_ with d9_ | d11_
  · have fd9_ : Fr wo_Mo_canBe [] false d d9_ := fx7_
    replace h := sml_e h
    replace h := u0_e h
    obtain ⟨rfl, rfl⟩ := ret_inj h
    exact fd9_
  · have fd11_ : Fr wo_Mo_canBe [] false d d11_ := fx7_
    replace h := smr_e h
    replace h := u0_e h
    obtain ⟨rfl, rfl⟩ := ret_inj h
    exact fd11_
/-! frames of Mo_turns -/
def wo_Mo_turns : List (Nat × Nat) := [(0, 0)]
def he_Mo_turns_37 (q : (Int × Int × Int × Int × Dt)) : Dt := q.2.2.2.2
def hb_Mo_turns_37 (o : (Int × Int × Int × Int × Int × Int × Dt) ⊕ ((Int × Int × Int × Int × Dt))) : Dt := match o with
  | .inl q => q.2.2.2.2.2.2
  | .inr r => he_Mo_turns_37 r
theorem fr_Mo_turns_b122 {o : (Int × Int × Int × Int × Int × Int × Dt) ⊕ ((Int × Int × Int × Int × Dt))} (x1 x2 x3 x4 x5 x6 : Int) (d : Dt) (hg : d GH 0 ≤ 6) (h : L_Mo_turns_b122 x1 x2 x3 x4 x5 x6 d = some o) : Fr wo_Mo_turns [4, 5, 6, 56, 58, 64, 67] false d (hb_Mo_turns_37 o) := by
  have f0 : Fr wo_Mo_turns [4, 5, 6, 56, 58, 64, 67] false d d := Fr.rfl
  unfold L_Mo_turns_b122 at h
  obtain rfl := Option.some.inj h
  exact f0
theorem fr_Mo_turns_b119 {o : (Int × Int × Int × Int × Int × Int × Dt) ⊕ ((Int × Int × Int × Int × Dt))} (x1 x2 x3 x4 x5 x6 : Int) (d : Dt) (hg : d GH 0 ≤ 6) (h : L_Mo_turns_b119 x1 x2 x3 x4 x5 x6 d = some o) : Fr wo_Mo_turns [4, 5, 6, 56, 58, 64, 67] false d (hb_Mo_turns_37 o) := by
  have f0 : Fr wo_Mo_turns [4, 5, 6, 56, 58, 64, 67] false d d := Fr.rfl
  unfold L_Mo_turns_b119 at h
  exact Fr.tr0 f0 (fr_Mo_turns_b122 x1 x2 x3 (w32 (x4 + 1)) x5 x6 d (Fr.g f0 hg) h)
theorem fr_Mo_turns_b106 {o : (Int × Int × Int × Int × Int × Int × Dt) ⊕ ((Int × Int × Int × Int × Dt))} (x1 x2 x6 : Int) (d : Dt) (hg : d GH 0 ≤ 6) (h : L_Mo_turns_b106 x1 x2 x6 d = some o) : Fr wo_Mo_turns [4, 5, 6, 56, 58, 64, 67] false d (hb_Mo_turns_37 o) := by
  have f0 : Fr wo_Mo_turns [4, 5, 6, 56, 58, 64, 67] false d d := Fr.rfl
  unfold L_Mo_turns_b106 at h
  obtain ⟨r2_, d1_, hr3_, h⟩ := bd_some h
  have fd1_ : Fr wo_Mo_turns [4, 5, 6, 56, 58, 64, 67] false d d1_ := Fr.tr f0 (fr_Mo_bits x6 d (Fr.g f0 hg) hr3_) (by decide) (by decide) (by decide)
  exact Fr.tr0 fd1_ (fr_Mo_turns_b119 x1 x2 r2_ 0 x6 x6 d1_ (Fr.g fd1_ hg) h)
theorem fr_Mo_turns_b62 {o : (Int × Int × Int × Int × Int × Int × Dt) ⊕ ((Int × Int × Int × Int × Dt))} (x1 x2 x3 x4 x5 x6 : Int) (d : Dt) (hg : d GH 0 ≤ 6) (h : L_Mo_turns_b62 x1 x2 x3 x4 x5 x6 d = some o) : Fr wo_Mo_turns [4, 5, 6, 56, 58, 64, 67] false d (hb_Mo_turns_37 o) := by
  have f0 : Fr wo_Mo_turns [4, 5, 6, 56, 58, 64, 67] false d d := Fr.rfl
  unfold L_Mo_turns_b62 at h
  obtain ⟨r6_, d5_, hr7_, h⟩ := bd_some h
  have fd5_ : Fr wo_Mo_turns [4, 5, 6, 56, 58, 64, 67] false d d5_ := Fr.tr f0 (fr_Mo_canBe x6 d (Fr.g f0 hg) hr7_) (by decide) (by decide) (by decide)
  rcases ite_some h with ⟨hc9_, h⟩ | ⟨hc9_, h⟩
  · exact Fr.tr0 fd5_ (fr_Mo_turns_b122 x1 x2 x3 x4 x5 x6 d5_ (Fr.g fd5_ hg) h)
  · obtain ⟨r11_, d10_, hr12_, h⟩ := bd_some h
    have fd10_ : Fr wo_Mo_turns [4, 5, 6, 56, 58, 64, 67] false d d10_ := Fr.tr fd5_ (fr_Mo_countWritten x6 d5_ (Fr.g fd5_ hg) hr12_) (by decide) (by decide) (by decide)
    obtain ⟨r15_, d14_, hr16_, h⟩ := bd_some h
    have fd14_ : Fr wo_Mo_turns [4, 5, 6, 56, 58, 64, 67] false d d14_ := Fr.tr fd10_ (fr_Mo_ahead x1 d10_ (Fr.g fd10_ hg) hr16_) (by decide) (by decide) (by decide)
    rcases ite_some h with ⟨hc18_, h⟩ | ⟨hc18_, h⟩
    · exact Fr.tr0 fd14_ (fr_Mo_turns_b122 x1 x2 x3 x4 x5 x6 d14_ (Fr.g fd14_ hg) h)
    · rcases ite_some h with ⟨hc19_, h⟩ | ⟨hc19_, h⟩
      · exact Fr.tr0 fd14_ (fr_Mo_turns_b106 x1 x2 x6 d14_ (Fr.g fd14_ hg) h)
      · obtain ⟨r21_, d20_, hr22_, h⟩ := bd_some h
        have fd20_ : Fr wo_Mo_turns [4, 5, 6, 56, 58, 64, 67] false d d20_ := Fr.tr fd14_ (fr_Mo_bits x6 d14_ (Fr.g fd14_ hg) hr22_) (by decide) (by decide) (by decide)
        rcases ite_some h with ⟨hc24_, h⟩ | ⟨hc24_, h⟩
        · exact Fr.tr0 fd20_ (fr_Mo_turns_b106 x1 x2 x6 d20_ (Fr.g fd20_ hg) h)
        · exact Fr.tr0 fd20_ (fr_Mo_turns_b119 x1 x2 x3 x4 x5 x6 d20_ (Fr.g fd20_ hg) h)
theorem fr_Mo_turns_y37 {o : (Int × Int × Int × Int × Int × Int × Dt) ⊕ ((Int × Int × Int × Int × Dt))} (x1 x2 x3 x4 x5 x6 : Int) (d : Dt) (hg : d GH 0 ≤ 6) (h : L_Mo_turns_y37 x1 x2 x3 x4 x5 x6 d = some o) : Fr wo_Mo_turns [4, 5, 6, 56, 58, 64, 67] false d (hb_Mo_turns_37 o) := by
  have f0 : Fr wo_Mo_turns [4, 5, 6, 56, 58, 64, 67] false d d := Fr.rfl
  unfold L_Mo_turns_y37 at h
  rcases ite_some h with ⟨hc26_, h⟩ | ⟨hc26_, h⟩
  · rcases ite_some h with ⟨hc27_, h⟩ | ⟨hc27_, h⟩
    · exact Fr.tr0 f0 (fr_Mo_turns_b62 x1 x2 x3 x4 x5 x6 d (Fr.g f0 hg) h)
    · obtain ⟨r29_, d28_, hr30_, h⟩ := bd_some h
      have fd28_ : Fr wo_Mo_turns [4, 5, 6, 56, 58, 64, 67] false d d28_ := Fr.tr f0 (fr_Mo_bits x6 d (Fr.g f0 hg) hr30_) (by decide) (by decide) (by decide)
      rcases ite_some h with ⟨hc32_, h⟩ | ⟨hc32_, h⟩
      · exact Fr.tr0 fd28_ (fr_Mo_turns_b122 x1 x2 x3 x4 x5 x6 d28_ (Fr.g fd28_ hg) h)
      · exact Fr.tr0 fd28_ (fr_Mo_turns_b62 x1 x2 x3 x4 x5 x6 d28_ (Fr.g fd28_ hg) h)
  · obtain rfl := Option.some.inj h
    exact f0
theorem fr_Mo_turns_l37 {x : (Int × Int × Int × Int × Dt)} (x1 x2 x3 x4 x5 x6 : Int) (d : Dt) (hg : d GH 0 ≤ 6) (h : L_Mo_turns_l37 x1 x2 x3 x4 x5 x6 d = some x) : Fr wo_Mo_turns [4, 5, 6, 56, 58, 64, 67] false d (he_Mo_turns_37 x) :=
  lpF_fr (f := fun q : Int × Int × Int × Int × Int × Int × Dt => L_Mo_turns_y37 q.1 q.2.1 q.2.2.1 q.2.2.2.1 q.2.2.2.2.1 q.2.2.2.2.2.1 q.2.2.2.2.2.2) (fun q => q.2.2.2.2.2.2) he_Mo_turns_37 (fun q x hq hx => ⟨fun q2 e2 => by subst e2; exact fr_Mo_turns_y37 q.1 q.2.1 q.2.2.1 q.2.2.2.1 q.2.2.2.2.1 q.2.2.2.2.2.1 q.2.2.2.2.2.2 hq hx, fun r2 e2 => by subst e2; exact fr_Mo_turns_y37 q.1 q.2.1 q.2.2.1 q.2.2.2.1 q.2.2.2.2.1 q.2.2.2.2.2.1 q.2.2.2.2.2.2 hq hx⟩) FU _ x hg h
theorem fr_Mo_turns_b16 {r : Int} {d' : Dt} (d : Dt) (hg : d GH 0 ≤ 6) (h : L_Mo_turns_b16 d = some (r, d')) : Fr wo_Mo_turns [4, 5, 6, 56, 58, 64, 67] false d d' := by
  have f0 : Fr wo_Mo_turns [4, 5, 6, 56, 58, 64, 67] false d d := Fr.rfl
  unfold L_Mo_turns_b16 at h
  obtain ⟨r34_, d33_, hr35_, h⟩ := bd_some h
  have fd33_ : Fr wo_Mo_turns [4, 5, 6, 56, 58, 64, 67] false d d33_ := Fr.tr f0 (fr_Mo_refuse 1 d (Fr.g f0 hg) hr35_) (by decide) (by decide) (by decide)
  obtain ⟨rfl, rfl⟩ := ret_inj h
  exact fd33_
theorem fr_Mo_turns_b161 {r : Int} {d' : Dt} (s1 : Int) (d : Dt) (hg : d GH 0 ≤ 6) (h : L_Mo_turns_b161 s1 d = some (r, d')) : Fr wo_Mo_turns [4, 5, 6, 56, 58, 64, 67] false d d' := by
  have f0 : Fr wo_Mo_turns [4, 5, 6, 56, 58, 64, 67] false d d := Fr.rfl
  unfold L_Mo_turns_b161 at h
  obtain ⟨r38_, d37_, hr39_, h⟩ := bd_some h
  have fd37_ : Fr wo_Mo_turns [4, 5, 6, 56, 58, 64, 67] false d d37_ := Fr.tr f0 (fr_Mo_gives s1 d (Fr.g f0 hg) hr39_) (by decide) (by decide) (by decide)
  obtain ⟨rfl, rfl⟩ := ret_inj h
  exact fd37_
theorem fr_Mo_turns {r : Int} {d' : Dt} (p1 p2 : Int) (d : Dt) (hg : d GH 0 ≤ 6) (h : L_Mo_turns p1 p2 d = some (r, d')) : Fr wo_Mo_turns [4, 5, 6, 56, 58, 64, 67] false d d' := by
  have f0 : Fr wo_Mo_turns [4, 5, 6, 56, 58, 64, 67] false d d := Fr.rfl
  unfold L_Mo_turns at h
  obtain ⟨r42_, d41_, hr43_, h⟩ := bd_some h
  have fd41_ : Fr wo_Mo_turns [4, 5, 6, 56, 58, 64, 67] false d d41_ := Fr.tr f0 (fr_Mo_isCandidate p1 d (Fr.g f0 hg) hr43_) (by decide) (by decide) (by decide)
  rcases ite_some h with ⟨hc45_, h⟩ | ⟨hc45_, h⟩
  · exact Fr.tr0 fd41_ (fr_Mo_turns_b16  d41_ (Fr.g fd41_ hg) h)
  · rcases ite_some h with ⟨hc46_, h⟩ | ⟨hc46_, h⟩
    · exact Fr.tr0 fd41_ (fr_Mo_turns_b16  d41_ (Fr.g fd41_ hg) h)
    · rcases ite_some h with ⟨hc47_, h⟩ | ⟨hc47_, h⟩
      · exact Fr.tr0 fd41_ (fr_Mo_turns_b16  d41_ (Fr.g fd41_ hg) h)
      · obtain ⟨r49_, d48_, hr50_, h⟩ := bd_some h
        have fd48_ : Fr wo_Mo_turns [4, 5, 6, 56, 58, 64, 67] false d d48_ := Fr.tr fd41_ (fr_Mo_readWritten  d41_ (Fr.g fd41_ hg) hr50_) (by decide) (by decide) (by decide)
        obtain ⟨x52_, hx53_, h⟩ := lb_some h
        have fx52_ := Fr.tr0 fd48_ (fr_Mo_turns_l37 p1 p2 (-1) 0 0 0 d48_ (Fr.g fd48_ hg) hx53_)
        obtain ⟨v54_, v55_, v56_, v57_, d58_⟩ := x52_
        have fd58_ : Fr wo_Mo_turns [4, 5, 6, 56, 58, 64, 67] false d d58_ := fx52_
        replace h := u4_e h
        rcases ite_some h with ⟨hc60_, h⟩ | ⟨hc60_, h⟩
        · obtain ⟨r62_, d61_, hr63_, h⟩ := bd_some h
          have fd61_ : Fr wo_Mo_turns [4, 5, 6, 56, 58, 64, 67] false d d61_ := Fr.tr fd58_ (fr_Mo_refuse 6 d58_ (Fr.g fd58_ hg) hr63_) (by decide) (by decide) (by decide)
          obtain ⟨rfl, rfl⟩ := ret_inj h
          exact fd61_
        · rcases ite_some h with ⟨hc65_, h⟩ | ⟨hc65_, h⟩
          · exact Fr.tr0 fd58_ (fr_Mo_turns_b161 v55_ d58_ (Fr.g fd58_ hg) h)
          · rcases ite_some h with ⟨hc66_, h⟩ | ⟨hc66_, h⟩
            · exact Fr.tr0 fd58_ (fr_Mo_turns_b161 v56_ d58_ (Fr.g fd58_ hg) h)
            · exact Fr.tr0 fd58_ (fr_Mo_turns_b161 v57_ d58_ (Fr.g fd58_ hg) h)
/-! frames of Mo_isKin -/
def wo_Mo_isKin : List (Nat × Nat) := []
theorem fr_Mo_isKin {r : Int} {d' : Dt} (p1 : Int) (d : Dt) (hg : d GH 0 ≤ 6) (h : L_Mo_isKin p1 d = some (r, d')) : Fr wo_Mo_isKin [] false d d' := by
  have f0 : Fr wo_Mo_isKin [] false d d := Fr.rfl
  unfold L_Mo_isKin at h
  rcases ite_some h with ⟨hc1_, h⟩ | ⟨hc1_, h⟩
  · obtain ⟨rfl, rfl⟩ := ret_inj h
    exact f0
  · rcases ite_some h with ⟨hc2_, h⟩ | ⟨hc2_, h⟩
    · obtain ⟨rfl, rfl⟩ := ret_inj h
      exact f0
    · obtain ⟨rfl, rfl⟩ := ret_inj h
      exact f0
/-! frames of Mo_member -/
def wo_Mo_member : List (Nat × Nat) := [(0, 0), (0, 99)]
theorem fr_Mo_member_b19 {r : Int} {d' : Dt} (d : Dt) (hg : d GH 0 ≤ 6) (h : L_Mo_member_b19 d = some (r, d')) : Fr wo_Mo_member [69, 70] false d d' := by
  have f0 : Fr wo_Mo_member [69, 70] false d d := Fr.rfl
  unfold L_Mo_member_b19 at h
  obtain ⟨r2_, d1_, hr3_, h⟩ := bd_some h
  have fd1_ : Fr wo_Mo_member [69, 70] false d d1_ := Fr.tr f0 (fr_Mo_refuse 1 d (Fr.g f0 hg) hr3_) (by decide) (by decide) (by decide)
  obtain ⟨rfl, rfl⟩ := ret_inj h
  exact fd1_
theorem fr_Mo_member {r : Int} {d' : Dt} (p1 p2 : Int) (d : Dt) (hg : d GH 0 ≤ 6) (h : L_Mo_member p1 p2 d = some (r, d')) : Fr wo_Mo_member [69, 70] false d d' := by
  have f0 : Fr wo_Mo_member [69, 70] false d d := Fr.rfl
  unfold L_Mo_member at h
  rcases ite_some h with ⟨hc5_, h⟩ | ⟨hc5_, h⟩
  · exact Fr.tr0 f0 (fr_Mo_member_b19  d (Fr.g f0 hg) h)
  · rcases ite_some h with ⟨hc6_, h⟩ | ⟨hc6_, h⟩
    · exact Fr.tr0 f0 (fr_Mo_member_b19  d (Fr.g f0 hg) h)
    · obtain ⟨r8_, d7_, hr9_, h⟩ := bd_some h
      have fd7_ : Fr wo_Mo_member [69, 70] false d d7_ := Fr.tr f0 (fr_Mo_isKin p2 d (Fr.g f0 hg) hr9_) (by decide) (by decide) (by decide)
      rcases ite_some h with ⟨hc11_, h⟩ | ⟨hc11_, h⟩
      · exact Fr.tr0 fd7_ (fr_Mo_member_b19  d7_ (Fr.g fd7_ hg) h)
      · rcases ite_some h with ⟨hc13_, h⟩ | ⟨hc13_, h⟩
        · obtain ⟨r15_, d14_, hr16_, h⟩ := bd_some h
          have fd14_ : Fr wo_Mo_member [69, 70] false d d14_ := Fr.tr fd7_ (fr_Mo_refuse 4 d7_ (Fr.g fd7_ hg) hr16_) (by decide) (by decide) (by decide)
          obtain ⟨rfl, rfl⟩ := ret_inj h
          exact fd14_
        · obtain ⟨hb19_, h⟩ := ck_some h
          obtain ⟨hb21_, h⟩ := ck_some h
          obtain ⟨r25_, d24_, hr26_, h⟩ := bd_some h
          have fd24_ : Fr wo_Mo_member [69, 70] false d d24_ := Fr.tr (Fr.upo (Fr.upa (Fr.upa fd7_ rfl (by decide)) rfl (by decide)) rfl (by decide)) (fr_Mo_gives (w32 ((w32 ((d7_ 0 99) + 1)) - 1)) (up2 (up2 (up2 d7_ 69 ((d7_ 0 99)).toNat p1) 70 ((d7_ 0 99)).toNat p2) 0 99 (w32 ((d7_ 0 99) + 1))) (Fr.g (Fr.upo (Fr.upa (Fr.upa fd7_ rfl (by decide)) rfl (by decide)) rfl (by decide)) hg) hr26_) (by decide) (by decide) (by decide)
          obtain ⟨rfl, rfl⟩ := ret_inj h
          exact fd24_
/-! frames of Mo_kin -/
def wo_Mo_kin : List (Nat × Nat) := [(0, 0)]
theorem fr_Mo_kin_b14 {r : Int} {d' : Dt} (d : Dt) (hg : d GH 0 ≤ 6) (h : L_Mo_kin_b14 d = some (r, d')) : Fr wo_Mo_kin [71] false d d' := by
  have f0 : Fr wo_Mo_kin [71] false d d := Fr.rfl
  unfold L_Mo_kin_b14 at h
  obtain ⟨r2_, d1_, hr3_, h⟩ := bd_some h
  have fd1_ : Fr wo_Mo_kin [71] false d d1_ := Fr.tr f0 (fr_Mo_is 1 d (Fr.g f0 hg) hr3_) (by decide) (by decide) (by decide)
  obtain ⟨rfl, rfl⟩ := ret_inj h
  exact fd1_
theorem fr_Mo_kin {r : Int} {d' : Dt} (p1 p2 : Int) (d : Dt) (hg : d GH 0 ≤ 6) (h : L_Mo_kin p1 p2 d = some (r, d')) : Fr wo_Mo_kin [71] false d d' := by
  have f0 : Fr wo_Mo_kin [71] false d d := Fr.rfl
  unfold L_Mo_kin at h
  obtain ⟨r6_, d5_, hr7_, h⟩ := bd_some h
  have fd5_ : Fr wo_Mo_kin [71] false d d5_ := Fr.tr f0 (fr_Mo_isCandidate p1 d (Fr.g f0 hg) hr7_) (by decide) (by decide) (by decide)
  rcases ite_some h with ⟨hc9_, h⟩ | ⟨hc9_, h⟩
  · exact Fr.tr0 fd5_ (fr_Mo_kin_b14  d5_ (Fr.g fd5_ hg) h)
  · obtain ⟨r11_, d10_, hr12_, h⟩ := bd_some h
    have fd10_ : Fr wo_Mo_kin [71] false d d10_ := Fr.tr fd5_ (fr_Mo_isKin p2 d5_ (Fr.g fd5_ hg) hr12_) (by decide) (by decide) (by decide)
    rcases ite_some h with ⟨hc14_, h⟩ | ⟨hc14_, h⟩
    · exact Fr.tr0 fd10_ (fr_Mo_kin_b14  d10_ (Fr.g fd10_ hg) h)
    · obtain ⟨hb15_, h⟩ := ck_some h
      obtain ⟨r17_, d16_, hr18_, h⟩ := bd_some h
      have fd16_ : Fr wo_Mo_kin [71] false d d16_ := Fr.tr (Fr.upa fd10_ rfl (by decide)) (fr_Mo_is 0 (up2 d10_ 71 p1.toNat p2) (Fr.g (Fr.upa fd10_ rfl (by decide)) hg) hr18_) (by decide) (by decide) (by decide)
      obtain ⟨rfl, rfl⟩ := ret_inj h
      exact fd16_
/-! frames of Mo_draw -/
def wo_Mo_draw : List (Nat × Nat) := [(0, 0), (0, 100), (0, 101)]
def he_Mo_draw_51 (q : (Int × Int × Int × Int × Int × Int × Dt)) : Dt := q.2.2.2.2.2.2
def hb_Mo_draw_51 (o : (Int × Int × Int × Int × Int × Int × Int × Dt) ⊕ ((Int × Int × Int × Int × Int × Int × Dt))) : Dt := match o with
  | .inl q => q.2.2.2.2.2.2.2
  | .inr r => he_Mo_draw_51 r
def he_Mo_draw_36 (q : (Int × Int × Int × Int × Dt)) : Dt := q.2.2.2.2
def hb_Mo_draw_36 (o : (Int × Int × Int × Int × Int × Dt) ⊕ ((Int × Int × Int × Int × Dt))) : Dt := match o with
  | .inl q => q.2.2.2.2.2
  | .inr r => he_Mo_draw_36 r
def he_Mo_draw_201 (q : (Int × Int × Int × Int × Int × Dt)) : Dt := q.2.2.2.2.2
def hb_Mo_draw_201 (o : (Int × Int × Int × Int × Int × Int × Dt) ⊕ ((Int × Int × Int × Int × Int × Dt))) : Dt := match o with
  | .inl q => q.2.2.2.2.2.2
  | .inr r => he_Mo_draw_201 r
def he_Mo_draw_148 (q : (Int × Int × Dt)) : Dt := q.2.2
def hb_Mo_draw_148 (o : (Int × Int × Int × Int × Int × Dt) ⊕ ((Int × Int × Dt))) : Dt := match o with
  | .inl q => q.2.2.2.2.2
  | .inr r => he_Mo_draw_148 r
def he_Mo_draw_259 (q : (Int × Int × Int × Int × Dt)) : Dt := q.2.2.2.2
def hb_Mo_draw_259 (o : (Int × Int × Int × Int × Int × Dt) ⊕ ((Int × Int × Int × Int × Dt))) : Dt := match o with
  | .inl q => q.2.2.2.2.2
  | .inr r => he_Mo_draw_259 r
def he_Mo_draw_373 (q : (Int × Int × Int × Dt)) : Dt := q.2.2.2
def hb_Mo_draw_373 (o : (Int × Int × Int × Int × Dt) ⊕ ((Int × Int × Int × Dt))) : Dt := match o with
  | .inl q => q.2.2.2.2
  | .inr r => he_Mo_draw_373 r
def he_Mo_draw_247 (q : (Int × Dt)) : Dt := q.2
def hb_Mo_draw_247 (o : (Int × Int × Int × Dt) ⊕ ((Int × Dt))) : Dt := match o with
  | .inl q => q.2.2.2
  | .inr r => he_Mo_draw_247 r
def he_Mo_draw_439 (q : (Int × Int × Int × Int × Dt)) : Dt := q.2.2.2.2
def hb_Mo_draw_439 (o : (Int × Int × Int × Int × Int × Dt) ⊕ ((Int × Int × Int × Int × Dt))) : Dt := match o with
  | .inl q => q.2.2.2.2.2
  | .inr r => he_Mo_draw_439 r
def he_Mo_draw_424 (q : (Int × Dt)) : Dt := q.2
def hb_Mo_draw_424 (o : (Int × Int × Int × Dt) ⊕ ((Int × Dt))) : Dt := match o with
  | .inl q => q.2.2.2
  | .inr r => he_Mo_draw_424 r
theorem fr_Mo_draw_y201 {o : (Int × Int × Int × Int × Int × Int × Dt) ⊕ ((Int × Int × Int × Int × Int × Dt))} (x1 x2 x4 x5 x7 x9 : Int) (d : Dt) (hg : d GH 0 ≤ 6) (h : L_Mo_draw_y201 x1 x2 x4 x5 x7 x9 d = some o) : Fr wo_Mo_draw [72, 73, 74] false d (hb_Mo_draw_201 o) := by
  have f0 : Fr wo_Mo_draw [72, 73, 74] false d d := Fr.rfl
  unfold L_Mo_draw_y201 at h
  rcases ite_some h with ⟨hc1_, h⟩ | ⟨hc1_, h⟩
  · obtain ⟨hb2_, h⟩ := ck_some h
    obtain ⟨hb4_, h⟩ := ck_some h
    obtain rfl := Option.some.inj h
    exact (Fr.upa f0 rfl (by decide))
  · obtain rfl := Option.some.inj h
    exact f0
theorem fr_Mo_draw_l201 {x : (Int × Int × Int × Int × Int × Dt)} (x1 x2 x4 x5 x7 x9 : Int) (d : Dt) (hg : d GH 0 ≤ 6) (h : L_Mo_draw_l201 x1 x2 x4 x5 x7 x9 d = some x) : Fr wo_Mo_draw [72, 73, 74] false d (he_Mo_draw_201 x) :=
  lpF_fr (f := fun q : Int × Int × Int × Int × Int × Int × Dt => L_Mo_draw_y201 q.1 q.2.1 q.2.2.1 q.2.2.2.1 q.2.2.2.2.1 q.2.2.2.2.2.1 q.2.2.2.2.2.2) (fun q => q.2.2.2.2.2.2) he_Mo_draw_201 (fun q x hq hx => ⟨fun q2 e2 => by subst e2; exact fr_Mo_draw_y201 q.1 q.2.1 q.2.2.1 q.2.2.2.1 q.2.2.2.2.1 q.2.2.2.2.2.1 q.2.2.2.2.2.2 hq hx, fun r2 e2 => by subst e2; exact fr_Mo_draw_y201 q.1 q.2.1 q.2.2.1 q.2.2.2.1 q.2.2.2.2.1 q.2.2.2.2.2.1 q.2.2.2.2.2.2 hq hx⟩) FU _ x hg h
theorem fr_Mo_draw_y373 {o : (Int × Int × Int × Int × Dt) ⊕ ((Int × Int × Int × Dt))} (x2 x7 x8 x10 : Int) (d : Dt) (hg : d GH 0 ≤ 6) (h : L_Mo_draw_y373 x2 x7 x8 x10 d = some o) : Fr wo_Mo_draw [72, 73, 74] false d (hb_Mo_draw_373 o) := by
  have f0 : Fr wo_Mo_draw [72, 73, 74] false d d := Fr.rfl
  unfold L_Mo_draw_y373 at h
  rcases ite_some h with ⟨hc5_, h⟩ | ⟨hc5_, h⟩
  · obtain ⟨hb6_, h⟩ := ck_some h
    obtain ⟨hb8_, h⟩ := ck_some h
    obtain rfl := Option.some.inj h
    exact (Fr.upa f0 rfl (by decide))
  · obtain rfl := Option.some.inj h
    exact f0
theorem fr_Mo_draw_l373 {x : (Int × Int × Int × Dt)} (x2 x7 x8 x10 : Int) (d : Dt) (hg : d GH 0 ≤ 6) (h : L_Mo_draw_l373 x2 x7 x8 x10 d = some x) : Fr wo_Mo_draw [72, 73, 74] false d (he_Mo_draw_373 x) :=
  lpF_fr (f := fun q : Int × Int × Int × Int × Dt => L_Mo_draw_y373 q.1 q.2.1 q.2.2.1 q.2.2.2.1 q.2.2.2.2) (fun q => q.2.2.2.2) he_Mo_draw_373 (fun q x hq hx => ⟨fun q2 e2 => by subst e2; exact fr_Mo_draw_y373 q.1 q.2.1 q.2.2.1 q.2.2.2.1 q.2.2.2.2 hq hx, fun r2 e2 => by subst e2; exact fr_Mo_draw_y373 q.1 q.2.1 q.2.2.1 q.2.2.2.1 q.2.2.2.2 hq hx⟩) FU _ x hg h
theorem fr_Mo_draw_y148 {o : (Int × Int × Int × Int × Int × Dt) ⊕ ((Int × Int × Dt))} (x1 x2 x4 x5 x7 : Int) (d : Dt) (hg : d GH 0 ≤ 6) (h : L_Mo_draw_y148 x1 x2 x4 x5 x7 d = some o) : Fr wo_Mo_draw [72, 73, 74] false d (hb_Mo_draw_148 o) := by
  have f0 : Fr wo_Mo_draw [72, 73, 74] false d d := Fr.rfl
  unfold L_Mo_draw_y148 at h
  rcases ite_some h with ⟨hc9_, h⟩ | ⟨hc9_, h⟩
  · obtain ⟨v10_, ev11_, h⟩ := lt_some h
    obtain ⟨hc13_, h⟩ := ck_some h
    obtain ⟨v14_, ev15_, h⟩ := lt_some h
    obtain ⟨hb17_, h⟩ := ck_some h
    obtain ⟨hb19_, h⟩ := ck_some h
    obtain ⟨x20_, hx21_, h⟩ := lb_some h
    have fx20_ := Fr.tr0 (Fr.upa f0 rfl (by decide)) (fr_Mo_draw_l201 x1 x2 x4 v10_ x7 v14_ (up2 d 73 x7.toNat (d 72 v14_.toNat)) (Fr.g (Fr.upa f0 rfl (by decide)) hg) hx21_)
    obtain ⟨v22_, v23_, v24_, v25_, v26_, d27_⟩ := x20_
    have fd27_ : Fr wo_Mo_draw [72, 73, 74] false d d27_ := fx20_
    replace h := u5_e h
    obtain rfl := Option.some.inj h
    exact fd27_
  · obtain rfl := Option.some.inj h
    exact f0
theorem fr_Mo_draw_l148 {x : (Int × Int × Dt)} (x1 x2 x4 x5 x7 : Int) (d : Dt) (hg : d GH 0 ≤ 6) (h : L_Mo_draw_l148 x1 x2 x4 x5 x7 d = some x) : Fr wo_Mo_draw [72, 73, 74] false d (he_Mo_draw_148 x) :=
  lpF_fr (f := fun q : Int × Int × Int × Int × Int × Dt => L_Mo_draw_y148 q.1 q.2.1 q.2.2.1 q.2.2.2.1 q.2.2.2.2.1 q.2.2.2.2.2) (fun q => q.2.2.2.2.2) he_Mo_draw_148 (fun q x hq hx => ⟨fun q2 e2 => by subst e2; exact fr_Mo_draw_y148 q.1 q.2.1 q.2.2.1 q.2.2.2.1 q.2.2.2.2.1 q.2.2.2.2.2 hq hx, fun r2 e2 => by subst e2; exact fr_Mo_draw_y148 q.1 q.2.1 q.2.2.1 q.2.2.2.1 q.2.2.2.2.1 q.2.2.2.2.2 hq hx⟩) FU _ x hg h
theorem fr_Mo_draw_b468 {o : (Int × Int × Int × Int × Int × Dt) ⊕ ((Int × Int × Int × Int × Dt))} (x7 x8 x9 x11 s0 : Int) (d : Dt) (hg : d GH 0 ≤ 6) (h : L_Mo_draw_b468 x7 x8 x9 x11 s0 d = some o) : Fr wo_Mo_draw [72, 73, 74] false d (hb_Mo_draw_439 o) := by
  have f0 : Fr wo_Mo_draw [72, 73, 74] false d d := Fr.rfl
  unfold L_Mo_draw_b468 at h
  obtain rfl := Option.some.inj h
  exact f0
theorem fr_Mo_draw_y439 {o : (Int × Int × Int × Int × Int × Dt) ⊕ ((Int × Int × Int × Int × Dt))} (x7 x8 x9 x10 x11 : Int) (d : Dt) (hg : d GH 0 ≤ 6) (h : L_Mo_draw_y439 x7 x8 x9 x10 x11 d = some o) : Fr wo_Mo_draw [72, 73, 74] false d (hb_Mo_draw_439 o) := by
  have f0 : Fr wo_Mo_draw [72, 73, 74] false d d := Fr.rfl
  unfold L_Mo_draw_y439 at h
  rcases ite_some h with ⟨hc30_, h⟩ | ⟨hc30_, h⟩
  · rcases ite_some h with ⟨hc31_, h⟩ | ⟨hc31_, h⟩
    · obtain ⟨hb32_, h⟩ := ck_some h
      rcases ite_some h with ⟨hc34_, h⟩ | ⟨hc34_, h⟩
      · exact Fr.tr0 f0 (fr_Mo_draw_b468 x7 x8 x9 x11 1 d (Fr.g f0 hg) h)
      · exact Fr.tr0 f0 (fr_Mo_draw_b468 x7 x8 x9 x11 0 d (Fr.g f0 hg) h)
    · exact Fr.tr0 f0 (fr_Mo_draw_b468 x7 x8 x9 x11 1 d (Fr.g f0 hg) h)
  · obtain rfl := Option.some.inj h
    exact f0
theorem fr_Mo_draw_l439 {x : (Int × Int × Int × Int × Dt)} (x7 x8 x9 x10 x11 : Int) (d : Dt) (hg : d GH 0 ≤ 6) (h : L_Mo_draw_l439 x7 x8 x9 x10 x11 d = some x) : Fr wo_Mo_draw [72, 73, 74] false d (he_Mo_draw_439 x) :=
  lpF_fr (f := fun q : Int × Int × Int × Int × Int × Dt => L_Mo_draw_y439 q.1 q.2.1 q.2.2.1 q.2.2.2.1 q.2.2.2.2.1 q.2.2.2.2.2) (fun q => q.2.2.2.2.2) he_Mo_draw_439 (fun q x hq hx => ⟨fun q2 e2 => by subst e2; exact fr_Mo_draw_y439 q.1 q.2.1 q.2.2.1 q.2.2.2.1 q.2.2.2.2.1 q.2.2.2.2.2 hq hx, fun r2 e2 => by subst e2; exact fr_Mo_draw_y439 q.1 q.2.1 q.2.2.1 q.2.2.2.1 q.2.2.2.2.1 q.2.2.2.2.2 hq hx⟩) FU _ x hg h
theorem fr_Mo_draw_b94 {o : (Int × Int × Int × Int × Int × Int × Int × Dt) ⊕ ((Int × Int × Int × Int × Int × Int × Dt))} (x1 x2 x3 x4 x5 x7 s0 : Int) (d : Dt) (hg : d GH 0 ≤ 6) (h : L_Mo_draw_b94 x1 x2 x3 x4 x5 x7 s0 d = some o) : Fr wo_Mo_draw [72, 73, 74] false d (hb_Mo_draw_51 o) := by
  have f0 : Fr wo_Mo_draw [72, 73, 74] false d d := Fr.rfl
  unfold L_Mo_draw_b94 at h
  obtain rfl := Option.some.inj h
  exact f0
theorem fr_Mo_draw_y51 {o : (Int × Int × Int × Int × Int × Int × Int × Dt) ⊕ ((Int × Int × Int × Int × Int × Int × Dt))} (x1 x2 x3 x4 x5 x6 x7 : Int) (d : Dt) (hg : d GH 0 ≤ 6) (h : L_Mo_draw_y51 x1 x2 x3 x4 x5 x6 x7 d = some o) : Fr wo_Mo_draw [72, 73, 74] false d (hb_Mo_draw_51 o) := by
  have f0 : Fr wo_Mo_draw [72, 73, 74] false d d := Fr.rfl
  unfold L_Mo_draw_y51 at h
  rcases ite_some h with ⟨hc35_, h⟩ | ⟨hc35_, h⟩
  · rcases ite_some h with ⟨hc36_, h⟩ | ⟨hc36_, h⟩
    · obtain ⟨hb37_, h⟩ := ck_some h
      rcases ite_some h with ⟨hc39_, h⟩ | ⟨hc39_, h⟩
      · obtain ⟨hb40_, h⟩ := ck_some h
        obtain ⟨hb42_, h⟩ := ck_some h
        rcases ite_some h with ⟨hc44_, h⟩ | ⟨hc44_, h⟩
        · exact Fr.tr0 f0 (fr_Mo_draw_b94 x1 x2 x3 x4 x5 x7 1 d (Fr.g f0 hg) h)
        · exact Fr.tr0 f0 (fr_Mo_draw_b94 x1 x2 x3 x4 x5 x7 0 d (Fr.g f0 hg) h)
      · exact Fr.tr0 f0 (fr_Mo_draw_b94 x1 x2 x3 x4 x5 x7 0 d (Fr.g f0 hg) h)
    · exact Fr.tr0 f0 (fr_Mo_draw_b94 x1 x2 x3 x4 x5 x7 1 d (Fr.g f0 hg) h)
  · obtain rfl := Option.some.inj h
    exact f0
theorem fr_Mo_draw_l51 {x : (Int × Int × Int × Int × Int × Int × Dt)} (x1 x2 x3 x4 x5 x6 x7 : Int) (d : Dt) (hg : d GH 0 ≤ 6) (h : L_Mo_draw_l51 x1 x2 x3 x4 x5 x6 x7 d = some x) : Fr wo_Mo_draw [72, 73, 74] false d (he_Mo_draw_51 x) :=
  lpF_fr (f := fun q : Int × Int × Int × Int × Int × Int × Int × Dt => L_Mo_draw_y51 q.1 q.2.1 q.2.2.1 q.2.2.2.1 q.2.2.2.2.1 q.2.2.2.2.2.1 q.2.2.2.2.2.2.1 q.2.2.2.2.2.2.2) (fun q => q.2.2.2.2.2.2.2) he_Mo_draw_51 (fun q x hq hx => ⟨fun q2 e2 => by subst e2; exact fr_Mo_draw_y51 q.1 q.2.1 q.2.2.1 q.2.2.2.1 q.2.2.2.2.1 q.2.2.2.2.2.1 q.2.2.2.2.2.2.1 q.2.2.2.2.2.2.2 hq hx, fun r2 e2 => by subst e2; exact fr_Mo_draw_y51 q.1 q.2.1 q.2.2.1 q.2.2.2.1 q.2.2.2.2.1 q.2.2.2.2.2.1 q.2.2.2.2.2.2.1 q.2.2.2.2.2.2.2 hq hx⟩) FU _ x hg h
theorem fr_Mo_draw_b517 {o : (Int × Int × Int × Dt) ⊕ ((Int × Dt))} (x7 x8 x9 : Int) (d : Dt) (hg : d GH 0 ≤ 6) (h : L_Mo_draw_b517 x7 x8 x9 d = some o) : Fr wo_Mo_draw [72, 73, 74] false d (hb_Mo_draw_424 o) := by
  have f0 : Fr wo_Mo_draw [72, 73, 74] false d d := Fr.rfl
  unfold L_Mo_draw_b517 at h
  obtain rfl := Option.some.inj h
  exact f0
theorem fr_Mo_draw_y424 {o : (Int × Int × Int × Dt) ⊕ ((Int × Dt))} (x7 x8 x9 : Int) (d : Dt) (hg : d GH 0 ≤ 6) (h : L_Mo_draw_y424 x7 x8 x9 d = some o) : Fr wo_Mo_draw [72, 73, 74] false d (hb_Mo_draw_424 o) := by
  have f0 : Fr wo_Mo_draw [72, 73, 74] false d d := Fr.rfl
  unfold L_Mo_draw_y424 at h
  rcases ite_some h with ⟨hc46_, h⟩ | ⟨hc46_, h⟩
  · obtain ⟨x47_, hx48_, h⟩ := lb_some h
    have fx47_ := Fr.tr0 f0 (fr_Mo_draw_l439 x7 x8 x9 0 0 d (Fr.g f0 hg) hx48_)
    obtain ⟨v49_, v50_, v51_, v52_, d53_⟩ := x47_
    have fd53_ : Fr wo_Mo_draw [72, 73, 74] false d d53_ := fx47_
    replace h := u4_e h
    rcases ite_some h with ⟨hc55_, h⟩ | ⟨hc55_, h⟩
    · exact Fr.tr0 fd53_ (fr_Mo_draw_b517 v49_ v50_ v51_ d53_ (Fr.g fd53_ hg) h)
    · obtain ⟨hb57_, h⟩ := ck_some h
      obtain ⟨hb59_, h⟩ := ck_some h
      obtain ⟨v61_, ev62_, h⟩ := lt_some h
      exact Fr.tr0 (Fr.upo (Fr.upa fd53_ rfl (by decide)) rfl (by decide)) (fr_Mo_draw_b517 v49_ v61_ v51_ (up2 (up2 d53_ 74 ((d53_ 0 100)).toNat v51_) 0 100 (w32 ((d53_ 0 100) + 1))) (Fr.g (Fr.upo (Fr.upa fd53_ rfl (by decide)) rfl (by decide)) hg) h)
  · obtain rfl := Option.some.inj h
    exact f0
theorem fr_Mo_draw_l424 {x : (Int × Dt)} (x7 x8 x9 : Int) (d : Dt) (hg : d GH 0 ≤ 6) (h : L_Mo_draw_l424 x7 x8 x9 d = some x) : Fr wo_Mo_draw [72, 73, 74] false d (he_Mo_draw_424 x) :=
  lpF_fr (f := fun q : Int × Int × Int × Dt => L_Mo_draw_y424 q.1 q.2.1 q.2.2.1 q.2.2.2) (fun q => q.2.2.2) he_Mo_draw_424 (fun q x hq hx => ⟨fun q2 e2 => by subst e2; exact fr_Mo_draw_y424 q.1 q.2.1 q.2.2.1 q.2.2.2 hq hx, fun r2 e2 => by subst e2; exact fr_Mo_draw_y424 q.1 q.2.1 q.2.2.1 q.2.2.2 hq hx⟩) FU _ x hg h
theorem fr_Mo_draw_b122 {o : (Int × Int × Int × Int × Int × Dt) ⊕ ((Int × Int × Int × Int × Dt))} (x1 x2 x3 x4 x5 : Int) (d : Dt) (hg : d GH 0 ≤ 6) (h : L_Mo_draw_b122 x1 x2 x3 x4 x5 d = some o) : Fr wo_Mo_draw [72, 73, 74] false d (hb_Mo_draw_36 o) := by
  have f0 : Fr wo_Mo_draw [72, 73, 74] false d d := Fr.rfl
  unfold L_Mo_draw_b122 at h
  obtain rfl := Option.some.inj h
  exact f0
theorem fr_Mo_draw_y36 {o : (Int × Int × Int × Int × Int × Dt) ⊕ ((Int × Int × Int × Int × Dt))} (x1 x2 x3 x4 x5 : Int) (d : Dt) (hg : d GH 0 ≤ 6) (h : L_Mo_draw_y36 x1 x2 x3 x4 x5 d = some o) : Fr wo_Mo_draw [72, 73, 74] false d (hb_Mo_draw_36 o) := by
  have f0 : Fr wo_Mo_draw [72, 73, 74] false d d := Fr.rfl
  unfold L_Mo_draw_y36 at h
  rcases ite_some h with ⟨hc66_, h⟩ | ⟨hc66_, h⟩
  · obtain ⟨x67_, hx68_, h⟩ := lb_some h
    have fx67_ := Fr.tr0 f0 (fr_Mo_draw_l51 x1 x2 x3 x4 x5 0 0 d (Fr.g f0 hg) hx68_)
    obtain ⟨v69_, v70_, v71_, v72_, v73_, v74_, d75_⟩ := x67_
    have fd75_ : Fr wo_Mo_draw [72, 73, 74] false d d75_ := fx67_
    replace h := u6_e h
    rcases ite_some h with ⟨hc77_, h⟩ | ⟨hc77_, h⟩
    · obtain ⟨hb78_, h⟩ := ck_some h
      exact Fr.tr0 (Fr.upa fd75_ rfl (by decide)) (fr_Mo_draw_b122 v69_ v70_ v71_ (w32 (v72_ + 1)) v73_ (up2 d75_ 72 v72_.toNat v73_) (Fr.g (Fr.upa fd75_ rfl (by decide)) hg) h)
    · exact Fr.tr0 fd75_ (fr_Mo_draw_b122 v69_ v70_ v71_ v72_ v73_ d75_ (Fr.g fd75_ hg) h)
  · obtain rfl := Option.some.inj h
    exact f0
theorem fr_Mo_draw_l36 {x : (Int × Int × Int × Int × Dt)} (x1 x2 x3 x4 x5 : Int) (d : Dt) (hg : d GH 0 ≤ 6) (h : L_Mo_draw_l36 x1 x2 x3 x4 x5 d = some x) : Fr wo_Mo_draw [72, 73, 74] false d (he_Mo_draw_36 x) :=
  lpF_fr (f := fun q : Int × Int × Int × Int × Int × Dt => L_Mo_draw_y36 q.1 q.2.1 q.2.2.1 q.2.2.2.1 q.2.2.2.2.1 q.2.2.2.2.2) (fun q => q.2.2.2.2.2) he_Mo_draw_36 (fun q x hq hx => ⟨fun q2 e2 => by subst e2; exact fr_Mo_draw_y36 q.1 q.2.1 q.2.2.1 q.2.2.2.1 q.2.2.2.2.1 q.2.2.2.2.2 hq hx, fun r2 e2 => by subst e2; exact fr_Mo_draw_y36 q.1 q.2.1 q.2.2.1 q.2.2.2.1 q.2.2.2.2.1 q.2.2.2.2.2 hq hx⟩) FU _ x hg h
theorem fr_Mo_draw_b363 {o : (Int × Int × Int × Int × Int × Dt) ⊕ ((Int × Int × Int × Int × Dt))} (x2 x7 x8 x9 x10 : Int) (d : Dt) (hg : d GH 0 ≤ 6) (h : L_Mo_draw_b363 x2 x7 x8 x9 x10 d = some o) : Fr wo_Mo_draw [72, 73, 74] false d (hb_Mo_draw_259 o) := by
  have f0 : Fr wo_Mo_draw [72, 73, 74] false d d := Fr.rfl
  unfold L_Mo_draw_b363 at h
  obtain rfl := Option.some.inj h
  exact f0
theorem fr_Mo_draw_b359 {o : (Int × Int × Int × Int × Int × Dt) ⊕ ((Int × Int × Int × Int × Dt))} (x2 x7 x8 x10 : Int) (d : Dt) (hg : d GH 0 ≤ 6) (h : L_Mo_draw_b359 x2 x7 x8 x10 d = some o) : Fr wo_Mo_draw [72, 73, 74] false d (hb_Mo_draw_259 o) := by
  have f0 : Fr wo_Mo_draw [72, 73, 74] false d d := Fr.rfl
  unfold L_Mo_draw_b359 at h
  exact Fr.tr0 f0 (fr_Mo_draw_b363 x2 x7 x8 x10 x10 d (Fr.g f0 hg) h)
theorem fr_Mo_draw_b328 {o : (Int × Int × Int × Int × Int × Dt) ⊕ ((Int × Int × Int × Int × Dt))} (x2 x7 x8 x9 x10 x11 x12 s0 : Int) (d : Dt) (hg : d GH 0 ≤ 6) (h : L_Mo_draw_b328 x2 x7 x8 x9 x10 x11 x12 s0 d = some o) : Fr wo_Mo_draw [72, 73, 74] false d (hb_Mo_draw_259 o) := by
  have f0 : Fr wo_Mo_draw [72, 73, 74] false d d := Fr.rfl
  unfold L_Mo_draw_b328 at h
  rcases ite_some h with ⟨hc80_, h⟩ | ⟨hc80_, h⟩
  · rcases ite_some h with ⟨hc81_, h⟩ | ⟨hc81_, h⟩
    · obtain ⟨hb82_, h⟩ := ck_some h
      obtain ⟨hb84_, h⟩ := ck_some h
      rcases ite_some h with ⟨hc86_, h⟩ | ⟨hc86_, h⟩
      · exact Fr.tr0 f0 (fr_Mo_draw_b359 x2 x7 x8 x10 d (Fr.g f0 hg) h)
      · exact Fr.tr0 f0 (fr_Mo_draw_b363 x2 x7 x8 x9 x10 d (Fr.g f0 hg) h)
    · exact Fr.tr0 f0 (fr_Mo_draw_b363 x2 x7 x8 x9 x10 d (Fr.g f0 hg) h)
  · exact Fr.tr0 f0 (fr_Mo_draw_b359 x2 x7 x8 x10 d (Fr.g f0 hg) h)
theorem fr_Mo_draw_y259 {o : (Int × Int × Int × Int × Int × Dt) ⊕ ((Int × Int × Int × Int × Dt))} (x2 x7 x8 x9 x10 : Int) (d : Dt) (hg : d GH 0 ≤ 6) (h : L_Mo_draw_y259 x2 x7 x8 x9 x10 d = some o) : Fr wo_Mo_draw [72, 73, 74] false d (hb_Mo_draw_259 o) := by
  have f0 : Fr wo_Mo_draw [72, 73, 74] false d d := Fr.rfl
  unfold L_Mo_draw_y259 at h
  rcases ite_some h with ⟨hc87_, h⟩ | ⟨hc87_, h⟩
  · obtain ⟨hb88_, h⟩ := ck_some h
    obtain ⟨hb90_, h⟩ := ck_some h
    obtain ⟨v92_, ev93_, h⟩ := lt_some h
    obtain ⟨hb95_, h⟩ := ck_some h
    obtain ⟨hb97_, h⟩ := ck_some h
    obtain ⟨v99_, ev100_, h⟩ := lt_some h
    rcases ite_some h with ⟨hc102_, h⟩ | ⟨hc102_, h⟩
    · rcases ite_some h with ⟨hc103_, h⟩ | ⟨hc103_, h⟩
      · exact Fr.tr0 f0 (fr_Mo_draw_b328 x2 x7 x8 x9 x10 v92_ v99_ 1 d (Fr.g f0 hg) h)
      · exact Fr.tr0 f0 (fr_Mo_draw_b328 x2 x7 x8 x9 x10 v92_ v99_ 0 d (Fr.g f0 hg) h)
    · rcases ite_some h with ⟨hc104_, h⟩ | ⟨hc104_, h⟩
      · exact Fr.tr0 f0 (fr_Mo_draw_b328 x2 x7 x8 x9 x10 v92_ v99_ 1 d (Fr.g f0 hg) h)
      · exact Fr.tr0 f0 (fr_Mo_draw_b328 x2 x7 x8 x9 x10 v92_ v99_ 0 d (Fr.g f0 hg) h)
  · obtain rfl := Option.some.inj h
    exact f0
theorem fr_Mo_draw_l259 {x : (Int × Int × Int × Int × Dt)} (x2 x7 x8 x9 x10 : Int) (d : Dt) (hg : d GH 0 ≤ 6) (h : L_Mo_draw_l259 x2 x7 x8 x9 x10 d = some x) : Fr wo_Mo_draw [72, 73, 74] false d (he_Mo_draw_259 x) :=
  lpF_fr (f := fun q : Int × Int × Int × Int × Int × Dt => L_Mo_draw_y259 q.1 q.2.1 q.2.2.1 q.2.2.2.1 q.2.2.2.2.1 q.2.2.2.2.2) (fun q => q.2.2.2.2.2) he_Mo_draw_259 (fun q x hq hx => ⟨fun q2 e2 => by subst e2; exact fr_Mo_draw_y259 q.1 q.2.1 q.2.2.1 q.2.2.2.1 q.2.2.2.2.1 q.2.2.2.2.2 hq hx, fun r2 e2 => by subst e2; exact fr_Mo_draw_y259 q.1 q.2.1 q.2.2.1 q.2.2.2.1 q.2.2.2.2.1 q.2.2.2.2.2 hq hx⟩) FU _ x hg h
theorem fr_Mo_draw_y247 {o : (Int × Int × Int × Dt) ⊕ ((Int × Dt))} (x2 x7 x8 : Int) (d : Dt) (hg : d GH 0 ≤ 6) (h : L_Mo_draw_y247 x2 x7 x8 d = some o) : Fr wo_Mo_draw [72, 73, 74] false d (hb_Mo_draw_247 o) := by
  have f0 : Fr wo_Mo_draw [72, 73, 74] false d d := Fr.rfl
  unfold L_Mo_draw_y247 at h
  rcases ite_some h with ⟨hc105_, h⟩ | ⟨hc105_, h⟩
  · obtain ⟨x106_, hx107_, h⟩ := lb_some h
    have fx106_ := Fr.tr0 f0 (fr_Mo_draw_l259 x2 x7 x8 0 1 d (Fr.g f0 hg) hx107_)
    obtain ⟨v108_, v109_, v110_, v111_, d112_⟩ := x106_
    have fd112_ : Fr wo_Mo_draw [72, 73, 74] false d d112_ := fx106_
    replace h := u4_e h
    obtain ⟨x114_, hx115_, h⟩ := lb_some h
    have fx114_ := Fr.tr0 fd112_ (fr_Mo_draw_l373 v108_ v109_ v110_ v111_ d112_ (Fr.g fd112_ hg) hx115_)
    obtain ⟨v116_, v117_, v118_, d119_⟩ := x114_
    have fd119_ : Fr wo_Mo_draw [72, 73, 74] false d d119_ := fx114_
    replace h := u3_e h
    obtain rfl := Option.some.inj h
    exact fd119_
  · obtain rfl := Option.some.inj h
    exact f0
theorem fr_Mo_draw_l247 {x : (Int × Dt)} (x2 x7 x8 : Int) (d : Dt) (hg : d GH 0 ≤ 6) (h : L_Mo_draw_l247 x2 x7 x8 d = some x) : Fr wo_Mo_draw [72, 73, 74] false d (he_Mo_draw_247 x) :=
  lpF_fr (f := fun q : Int × Int × Int × Dt => L_Mo_draw_y247 q.1 q.2.1 q.2.2.1 q.2.2.2) (fun q => q.2.2.2) he_Mo_draw_247 (fun q x hq hx => ⟨fun q2 e2 => by subst e2; exact fr_Mo_draw_y247 q.1 q.2.1 q.2.2.1 q.2.2.2 hq hx, fun r2 e2 => by subst e2; exact fr_Mo_draw_y247 q.1 q.2.1 q.2.2.1 q.2.2.2 hq hx⟩) FU _ x hg h
theorem fr_Mo_draw_b24 {r : Int} {d' : Dt} (d : Dt) (hg : d GH 0 ≤ 6) (h : L_Mo_draw_b24 d = some (r, d')) : Fr wo_Mo_draw [72, 73, 74] false d d' := by
  have f0 : Fr wo_Mo_draw [72, 73, 74] false d d := Fr.rfl
  unfold L_Mo_draw_b24 at h
  obtain ⟨r124_, d123_, hr125_, h⟩ := bd_some h
  have fd123_ : Fr wo_Mo_draw [72, 73, 74] false d d123_ := Fr.tr f0 (fr_Mo_refuse 1 d (Fr.g f0 hg) hr125_) (by decide) (by decide) (by decide)
  obtain ⟨rfl, rfl⟩ := ret_inj h
  exact fd123_
theorem fr_Mo_draw {r : Int} {d' : Dt} (p1 p2 p3 : Int) (d : Dt) (hg : d GH 0 ≤ 6) (h : L_Mo_draw p1 p2 p3 d = some (r, d')) : Fr wo_Mo_draw [72, 73, 74] false d d' := by
  have f0 : Fr wo_Mo_draw [72, 73, 74] false d d := Fr.rfl
  unfold L_Mo_draw at h
  rcases ite_some h with ⟨hc127_, h⟩ | ⟨hc127_, h⟩
  · exact Fr.tr0 f0 (fr_Mo_draw_b24  d (Fr.g f0 hg) h)
  · rcases ite_some h with ⟨hc128_, h⟩ | ⟨hc128_, h⟩
    · exact Fr.tr0 f0 (fr_Mo_draw_b24  d (Fr.g f0 hg) h)
    · rcases ite_some h with ⟨hc129_, h⟩ | ⟨hc129_, h⟩
      · exact Fr.tr0 f0 (fr_Mo_draw_b24  d (Fr.g f0 hg) h)
      · rcases ite_some h with ⟨hc130_, h⟩ | ⟨hc130_, h⟩
        · exact Fr.tr0 f0 (fr_Mo_draw_b24  d (Fr.g f0 hg) h)
        · rcases ite_some h with ⟨hc131_, h⟩ | ⟨hc131_, h⟩
          · exact Fr.tr0 f0 (fr_Mo_draw_b24  d (Fr.g f0 hg) h)
          · obtain ⟨x132_, hx133_, h⟩ := lb_some h
            have fx132_ := Fr.tr0 f0 (fr_Mo_draw_l36 p1 p2 p3 0 0 d (Fr.g f0 hg) hx133_)
            obtain ⟨v134_, v135_, v136_, v137_, d138_⟩ := x132_
            have fd138_ : Fr wo_Mo_draw [72, 73, 74] false d d138_ := fx132_
            replace h := u4_e h
            rcases ite_some h with ⟨hc140_, h⟩ | ⟨hc140_, h⟩
            · obtain ⟨r142_, d141_, hr143_, h⟩ := bd_some h
              have fd141_ : Fr wo_Mo_draw [72, 73, 74] false d d141_ := Fr.tr fd138_ (fr_Mo_refuse 6 d138_ (Fr.g fd138_ hg) hr143_) (by decide) (by decide) (by decide)
              obtain ⟨rfl, rfl⟩ := ret_inj h
              exact fd141_
            · obtain ⟨x145_, hx146_, h⟩ := lb_some h
              have fx145_ := Fr.tr0 fd138_ (fr_Mo_draw_l148 v134_ v135_ v137_ v136_ 0 d138_ (Fr.g fd138_ hg) hx146_)
              obtain ⟨v147_, v148_, d149_⟩ := x145_
              have fd149_ : Fr wo_Mo_draw [72, 73, 74] false d d149_ := fx145_
              replace h := u2_e h
              obtain ⟨x151_, hx152_, h⟩ := lb_some h
              have fx151_ := Fr.tr0 fd149_ (fr_Mo_draw_l247 v148_ v147_ 0 d149_ (Fr.g fd149_ hg) hx152_)
              obtain ⟨v153_, d154_⟩ := x151_
              have fd154_ : Fr wo_Mo_draw [72, 73, 74] false d d154_ := fx151_
              replace h := u1_e h
              obtain ⟨x156_, hx157_, h⟩ := lb_some h
              have fx156_ := Fr.tr0 (Fr.upo fd154_ rfl (by decide)) (fr_Mo_draw_l424 v153_ 0 0 (up2 d154_ 0 100 0) (Fr.g (Fr.upo fd154_ rfl (by decide)) hg) hx157_)
              obtain ⟨v158_, d159_⟩ := x156_
              have fd159_ : Fr wo_Mo_draw [72, 73, 74] false d d159_ := fx156_
              replace h := u1_e h
              obtain ⟨r162_, d161_, hr163_, h⟩ := bd_some h
              have fd161_ : Fr wo_Mo_draw [72, 73, 74] false d d161_ := Fr.tr (Fr.upo fd159_ rfl (by decide)) (fr_Mo_gives v158_ (up2 d159_ 0 101 1) (Fr.g (Fr.upo fd159_ rfl (by decide)) hg) hr163_) (by decide) (by decide) (by decide)
              obtain ⟨rfl, rfl⟩ := ret_inj h
              exact fd161_
