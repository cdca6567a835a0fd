/-! REFERENCES: what stands in cells 31, 32 -/
def Fs (d d' : Dt) : Prop := d' GH = d GH ∧ ∀ k j, (k = 31 ∨ k = 32) → d' k j = d k j ∨ stt d (d' k j)
theorem Fs.rfl {d : Dt} : Fs d d := ⟨_root_.rfl, fun _ _ _ => Or.inl _root_.rfl⟩
theorem Fs.g {d e : Dt} (h : Fs d e) (hg : d GH 0 ≤ 6) : e GH 0 ≤ 6 := by rw [h.1]; exact hg
theorem Fs.tr0 {d e f : Dt} (h : Fs d e) (h2 : Fs e f) : Fs d f := by
  refine ⟨h2.1.trans h.1, fun k j hk => ?_⟩
  rcases h2.2 k j hk with q | q
  · rw [q]; exact h.2 k j hk
  · exact Or.inr (stt_up q h.1.symm)
theorem Fs.up {d e : Dt} {k j : Nat} {v : Int} (h : Fs d e) (hk : k ≠ GH ∧ k ≠ 31 ∧ k ≠ 32) : Fs d (up2 e k j v) := by
  refine ⟨by rw [up2_K _ _ _ (fun z => hk.1 z.symm)]; exact h.1, fun k' j' hk' => ?_⟩
  rw [up2_K _ _ _ (by omega)]; exact h.2 k' j' hk'
theorem Fs.up3 {d e : Dt} {k j : Nat} {v : Int} (h : Fs d e) (hk : k = 31 ∨ k = 32) (hs : stt e v) : Fs d (up2 e k j v) := by
  refine ⟨by rw [up2_K _ _ _ (by show 1000000 ≠ k; omega)]; exact h.1, fun k' j' hk' => ?_⟩
  by_cases q : k' = k
  · by_cases q2 : j' = j
    · rw [q, q2, up2_s]; exact Or.inr (stt_up hs h.1.symm)
    · rw [q, up2_j _ _ _ q2, ← q]; exact h.2 k' j' hk'
  · rw [up2_K _ _ _ q]; exact h.2 k' j' hk'
theorem Fs.of {o : List (Nat × Nat)} {a : List Nat} {y : Bool} {d d' : Dt} (h : Fr o a y d d') (ha : a.contains 31 = false ∧ a.contains 32 = false) (ho : (o.all (fun p => decide (p.1 ≠ 31 ∧ p.1 ≠ 32))) = true) : Fs d d' := by
  refine ⟨h.1, fun k j hk => Or.inl (h.2 k j ?_ ?_ (fun _ => by omega))⟩
  · cases hc : o.contains (k, j) with
    | false => rfl
    | true =>
      have := of_decide_eq_true (List.all_eq_true.mp ho (k, j) (List.contains_iff_mem.mp hc))
      have t : k ≠ 31 ∧ k ≠ 32 := this
      omega
  · rcases hk with z | z
    · rw [z]; exact ha.1
    · rw [z]; exact ha.2
theorem lpF_fs {σ ρ : Type} {f : σ → Option (σ ⊕ ρ)} (hs : σ → Dt) (he : ρ → Dt) (hst : ∀ q x, hs q GH 0 ≤ 6 → f q = some x → (∀ q', x = .inl q' → Fs (hs q) (hs q')) ∧ ∀ r, x = .inr r → Fs (hs q) (he r)) : ∀ (n : Nat) (q : σ) (r : ρ), hs q GH 0 ≤ 6 → lpF f n q = some r → Fs (hs q) (he r) := by
  intro n
  induction n with
  | zero => intro q r _ h; cases h
  | succ n ih =>
    intro q r hg h
    rcases lpF_some h with h | ⟨q', h1, h⟩
    · exact (hst q _ hg h).2 r _root_.rfl
    · have h2 := (hst q _ hg h1).1 q' _root_.rfl
      exact h2.tr0 (ih q' r (h2.g hg) h)
theorem fs_La_gather_y133 {o : (Int × Dt) ⊕ ((Dt))} (x3 : Int) (d : Dt) (hg : d GH 0 ≤ 6) (h : L_La_gather_y133 x3 d = some o) : Fs d (hb_La_gather_133 o) := by
  have f0 : Fs d d := Fs.rfl
  unfold L_La_gather_y133 at h
  rcases ite_some h with ⟨hc2_, h⟩ | ⟨hc2_, h⟩
  · obtain ⟨r4_, d3_, hr5_, h⟩ := bd_some h
    have fd3_ : Fs d d3_ := Fs.tr0 f0 (Fs.of (fr_La_isStruckFromBehind x3 d (Fs.g f0 hg) hr5_) (by decide) (by decide))
    obtain ⟨hb7_, h⟩ := ck_some h
    obtain rfl := Option.some.inj h
    exact (Fs.up fd3_ (by decide))
  · obtain rfl := Option.some.inj h
    exact f0
theorem fs_La_gather_l133 {x : (Dt)} (x3 : Int) (d : Dt) (hg : d GH 0 ≤ 6) (h : L_La_gather_l133 x3 d = some x) : Fs d (he_La_gather_133 x) :=
  lpF_fs (f := fun q : Int × Dt => L_La_gather_y133 q.1 q.2) (fun q => q.2) he_La_gather_133 (fun q x hq hx => ⟨fun q2 e2 => by subst e2; exact fs_La_gather_y133 q.1 q.2 hq hx, fun r2 e2 => by subst e2; exact fs_La_gather_y133 q.1 q.2 hq hx⟩) FU _ x hg h
theorem fs_La_gather_y68 {o : (Int × Int × Int × Int × Int × Dt) ⊕ ((Int × Int × Int × Dt))} (x1 x2 x3 x4 x5 : Int) (d : Dt) (hg : d GH 0 ≤ 6) (h : L_La_gather_y68 x1 x2 x3 x4 x5 d = some o) : Fs d (hb_La_gather_68 o) := by
  have f0 : Fs d d := Fs.rfl
  unfold L_La_gather_y68 at h
  obtain ⟨hs8_, h⟩ := ck_some h
  rcases ite_some h with ⟨hc10_, h⟩ | ⟨hc10_, h⟩
  · rcases ite_some h with ⟨hc12_, h⟩ | ⟨hc12_, h⟩
    · obtain ⟨hb14_, h⟩ := ck_some h
      obtain ⟨hs15_, h⟩ := ck_some h
      obtain ⟨hb17_, h⟩ := ck_some h
      obtain rfl := Option.some.inj h
      exact (Fs.up (Fs.up (Fs.up3 f0 (by decide) hs8_) (by decide)) (by decide))
    · obtain rfl := Option.some.inj h
      exact f0
  · obtain rfl := Option.some.inj h
    exact f0
theorem fs_La_gather_l68 {x : (Int × Int × Int × Dt)} (x1 x2 x3 x4 x5 : Int) (d : Dt) (hg : d GH 0 ≤ 6) (h : L_La_gather_l68 x1 x2 x3 x4 x5 d = some x) : Fs d (he_La_gather_68 x) :=
  lpF_fs (f := fun q : Int × Int × Int × Int × Int × Dt => L_La_gather_y68 q.1 q.2.1 q.2.2.1 q.2.2.2.1 q.2.2.2.2.1 q.2.2.2.2.2) (fun q => q.2.2.2.2.2) he_La_gather_68 (fun q x hq hx => ⟨fun q2 e2 => by subst e2; exact fs_La_gather_y68 q.1 q.2.1 q.2.2.1 q.2.2.2.1 q.2.2.2.2.1 q.2.2.2.2.2 hq hx, fun r2 e2 => by subst e2; exact fs_La_gather_y68 q.1 q.2.1 q.2.2.1 q.2.2.2.1 q.2.2.2.2.1 q.2.2.2.2.2 hq hx⟩) FU _ x hg h
theorem fs_La_gather_b125 {o : (Int × Int × Int × Dt) ⊕ ((Dt))} (x1 x2 x3 : Int) (d : Dt) (hg : d GH 0 ≤ 6) (h : L_La_gather_b125 x1 x2 x3 d = some o) : Fs d (hb_La_gather_34 o) := by
  have f0 : Fs d d := Fs.rfl
  unfold L_La_gather_b125 at h
  obtain rfl := Option.some.inj h
  exact f0
theorem fs_La_gather_y34 {o : (Int × Int × Int × Dt) ⊕ ((Dt))} (x1 x2 x3 : Int) (d : Dt) (hg : d GH 0 ≤ 6) (h : L_La_gather_y34 x1 x2 x3 d = some o) : Fs d (hb_La_gather_34 o) := by
  have f0 : Fs d d := Fs.rfl
  unfold L_La_gather_y34 at h
  rcases ite_some h with ⟨hc20_, h⟩ | ⟨hc20_, h⟩
  · obtain ⟨hb21_, h⟩ := ck_some h
    rcases ite_some h with ⟨hc22_, h⟩ | ⟨hc22_, h⟩
    · exact Fs.tr0 f0 (fs_La_gather_b125 x1 x2 x3 d (Fs.g f0 hg) h)
    · obtain ⟨hs26_, h⟩ := ck_some h
      obtain ⟨r24_, d23_, hr25_, h⟩ := bd_some h
      have fd23_ : Fs d d23_ := Fs.tr0 f0 (Fs.of (fr_St_isInForce (d 31 x3.toNat) x1 x2 d (Fs.g f0 hg) hr25_) (by decide) (by decide))
      rcases ite_some h with ⟨hc28_, h⟩ | ⟨hc28_, h⟩
      · exact Fs.tr0 fd23_ (fs_La_gather_b125 x1 x2 x3 d23_ (Fs.g fd23_ hg) h)
      · obtain ⟨x29_, hx30_, h⟩ := lb_some h
        have fx29_ := Fs.tr0 fd23_ (fs_La_gather_l68 x1 x2 x3 (d 31 x3.toNat) 0 d23_ (Fs.g fd23_ hg) hx30_)
        obtain ⟨v31_, v32_, v33_, d34_⟩ := x29_
        have fd34_ : Fs d d34_ := fx29_
        replace h := u3_e h
        exact Fs.tr0 fd34_ (fs_La_gather_b125 v31_ v32_ v33_ d34_ (Fs.g fd34_ hg) h)
  · obtain rfl := Option.some.inj h
    exact f0
theorem fs_La_gather_l34 {x : (Dt)} (x1 x2 x3 : Int) (d : Dt) (hg : d GH 0 ≤ 6) (h : L_La_gather_l34 x1 x2 x3 d = some x) : Fs d (he_La_gather_34 x) :=
  lpF_fs (f := fun q : Int × Int × Int × Dt => L_La_gather_y34 q.1 q.2.1 q.2.2.1 q.2.2.2) (fun q => q.2.2.2) he_La_gather_34 (fun q x hq hx => ⟨fun q2 e2 => by subst e2; exact fs_La_gather_y34 q.1 q.2.1 q.2.2.1 q.2.2.2 hq hx, fun r2 e2 => by subst e2; exact fs_La_gather_y34 q.1 q.2.1 q.2.2.1 q.2.2.2 hq hx⟩) FU _ x hg h
theorem fs_La_gather_b17 {r : Int} {d' : Dt} (x1 x2 : Int) (d : Dt) (hg : d GH 0 ≤ 6) (h : L_La_gather_b17 x1 x2 d = some (r, d')) : Fs d d' := by
  have f0 : Fs d d := Fs.rfl
  unfold L_La_gather_b17 at h
  obtain ⟨x37_, hx38_, h⟩ := lb_some h
  have fx37_ := Fs.tr0 (Fs.up (Fs.up (Fs.up f0 (by decide)) (by decide)) (by decide)) (fs_La_gather_l34 x1 x2 0 (up2 (up2 (up2 d 30 7 x1) 30 8 x2) 30 6 0) (Fs.g (Fs.up (Fs.up (Fs.up f0 (by decide)) (by decide)) (by decide)) hg) hx38_)
  obtain ⟨d39_, rfl⟩ : ∃ z, z = x37_ := ⟨_, rfl⟩
  have fd39_ : Fs d d39_ := fx37_
  replace h := u0_e h
  obtain ⟨x41_, hx42_, h⟩ := lb_some h
  have fx41_ := Fs.tr0 fd39_ (fs_La_gather_l133 0 d39_ (Fs.g fd39_ hg) hx42_)
  obtain ⟨d43_, rfl⟩ : ∃ z, z = x41_ := ⟨_, rfl⟩
  have fd43_ : Fs d d43_ := fx41_
  replace h := u0_e h
  obtain ⟨rfl, rfl⟩ := ret_inj h
  exact fd43_
theorem fs_La_gather {r : Int} {d' : Dt} (p1 p2 : Int) (d : Dt) (hg : d GH 0 ≤ 6) (h : L_La_gather p1 p2 d = some (r, d')) : Fs d d' := by
  have f0 : Fs d d := Fs.rfl
  unfold L_La_gather at h
  rcases ite_some h with ⟨hc48_, h⟩ | ⟨hc48_, h⟩
  · rcases ite_some h with ⟨hc50_, h⟩ | ⟨hc50_, h⟩
    · obtain ⟨rfl, rfl⟩ := ret_inj h
      exact f0
    · exact Fs.tr0 f0 (fs_La_gather_b17 p1 p2 d (Fs.g f0 hg) h)
  · exact Fs.tr0 f0 (fs_La_gather_b17 p1 p2 d (Fs.g f0 hg) h)
theorem fs_La_countAt {r : Int} {d' : Dt} (p1 p2 : Int) (d : Dt) (hg : d GH 0 ≤ 6) (h : L_La_countAt p1 p2 d = some (r, d')) : Fs d d' := by
  have f0 : Fs d d := Fs.rfl
  unfold L_La_countAt at h
  obtain ⟨r2_, d1_, hr3_, h⟩ := bd_some h
  have fd1_ : Fs d d1_ := Fs.tr0 f0 (fs_La_gather p1 p2 d (Fs.g f0 hg) hr3_)
  obtain ⟨rfl, rfl⟩ := ret_inj h
  exact fd1_
theorem fs_PB_rules_b20 {r : Int} {d' : Dt} (x1 x2 s1 : Int) (d : Dt) (hg : d GH 0 ≤ 6) (h : L_PB_rules_b20 x1 x2 s1 d = some (r, d')) : Fs d d' := by
  have f0 : Fs d d := Fs.rfl
  unfold L_PB_rules_b20 at h
  rcases ite_some h with ⟨hc2_, h⟩ | ⟨hc2_, h⟩
  · obtain ⟨r4_, d3_, hr5_, h⟩ := bd_some h
    have fd3_ : Fs d d3_ := Fs.tr0 (Fs.up f0 (by decide)) (fs_La_countAt x1 x2 (up2 d 0 0 s1) (Fs.g (Fs.up f0 (by decide)) hg) hr5_)
    obtain ⟨rfl, rfl⟩ := ret_inj h
    exact fd3_
  · obtain ⟨rfl, rfl⟩ := ret_inj h
    exact (Fs.up f0 (by decide))
theorem fs_PB_rules {r : Int} {d' : Dt} (p1 p2 : Int) (d : Dt) (hg : d GH 0 ≤ 6) (h : L_PB_rules p1 p2 d = some (r, d')) : Fs d d' := by
  have f0 : Fs d d := Fs.rfl
  unfold L_PB_rules at h
  obtain ⟨r8_, d7_, hr9_, h⟩ := bd_some h
  have fd7_ : Fs d d7_ := Fs.tr0 f0 (Fs.of (fr_PB_isPlace p1 d (Fs.g f0 hg) hr9_) (by decide) (by decide))
  rcases ite_some h with ⟨hc11_, h⟩ | ⟨hc11_, h⟩
  · exact Fs.tr0 fd7_ (fs_PB_rules_b20 p1 p2 1 d7_ (Fs.g fd7_ hg) h)
  · obtain ⟨r13_, d12_, hr14_, h⟩ := bd_some h
    have fd12_ : Fs d d12_ := Fs.tr0 fd7_ (Fs.of (fr_PB_isDay p2 d7_ (Fs.g fd7_ hg) hr14_) (by decide) (by decide))
    rcases ite_some h with ⟨hc16_, h⟩ | ⟨hc16_, h⟩
    · exact Fs.tr0 fd12_ (fs_PB_rules_b20 p1 p2 1 d12_ (Fs.g fd12_ hg) h)
    · exact Fs.tr0 fd12_ (fs_PB_rules_b20 p1 p2 0 d12_ (Fs.g fd12_ hg) h)
theorem fs_PB_struck_b49 {r : Int} {d' : Dt} (x3 x4 s1 : Int) (d : Dt) (hg : d GH 0 ≤ 6) (h : L_PB_struck_b49 x3 x4 s1 d = some (r, d')) : Fs d d' := by
  have f0 : Fs d d := Fs.rfl
  unfold L_PB_struck_b49 at h
  rcases ite_some h with ⟨hc1_, h⟩ | ⟨hc1_, h⟩
  · obtain ⟨rfl, rfl⟩ := ret_inj h
    exact (Fs.up f0 (by decide))
  · obtain ⟨r3_, d2_, hr4_, h⟩ := bd_some h
    have fd2_ : Fs d d2_ := Fs.tr0 (Fs.up f0 (by decide)) (Fs.of (fr_La_isStruck x3 (up2 d 0 0 s1) (Fs.g (Fs.up f0 (by decide)) hg) hr4_) (by decide) (by decide))
    obtain ⟨r7_, d6_, hr8_, h⟩ := bd_some h
    have fd6_ : Fs d d6_ := Fs.tr0 fd2_ (Fs.of (fr_PB_bit r3_ d2_ (Fs.g fd2_ hg) hr8_) (by decide) (by decide))
    obtain ⟨rfl, rfl⟩ := ret_inj h
    exact fd6_
theorem fs_PB_struck_b36 {r : Int} {d' : Dt} (x3 s0 : Int) (d : Dt) (hg : d GH 0 ≤ 6) (h : L_PB_struck_b36 x3 s0 d = some (r, d')) : Fs d d' := by
  have f0 : Fs d d := Fs.rfl
  unfold L_PB_struck_b36 at h
  rcases ite_some h with ⟨hc10_, h⟩ | ⟨hc10_, h⟩
  · exact Fs.tr0 f0 (fs_PB_struck_b49 x3 s0 1 d (Fs.g f0 hg) h)
  · exact Fs.tr0 f0 (fs_PB_struck_b49 x3 s0 0 d (Fs.g f0 hg) h)
theorem fs_PB_struck {r : Int} {d' : Dt} (p1 p2 p3 : Int) (d : Dt) (hg : d GH 0 ≤ 6) (h : L_PB_struck p1 p2 p3 d = some (r, d')) : Fs d d' := by
  have f0 : Fs d d := Fs.rfl
  unfold L_PB_struck at h
  obtain ⟨r12_, d11_, hr13_, h⟩ := bd_some h
  have fd11_ : Fs d d11_ := Fs.tr0 f0 (Fs.of (fr_PB_isPlace p1 d (Fs.g f0 hg) hr13_) (by decide) (by decide))
  rcases ite_some h with ⟨hc15_, h⟩ | ⟨hc15_, h⟩
  · exact Fs.tr0 fd11_ (fs_PB_struck_b36 p3 0 d11_ (Fs.g fd11_ hg) h)
  · obtain ⟨r17_, d16_, hr18_, h⟩ := bd_some h
    have fd16_ : Fs d d16_ := Fs.tr0 fd11_ (Fs.of (fr_PB_isDay p2 d11_ (Fs.g fd11_ hg) hr18_) (by decide) (by decide))
    rcases ite_some h with ⟨hc20_, h⟩ | ⟨hc20_, h⟩
    · exact Fs.tr0 fd16_ (fs_PB_struck_b36 p3 0 d16_ (Fs.g fd16_ hg) h)
    · rcases ite_some h with ⟨hc21_, h⟩ | ⟨hc21_, h⟩
      · exact Fs.tr0 fd16_ (fs_PB_struck_b36 p3 0 d16_ (Fs.g fd16_ hg) h)
      · obtain ⟨r23_, d22_, hr24_, h⟩ := bd_some h
        have fd22_ : Fs d d22_ := Fs.tr0 fd16_ (fs_La_countAt p1 p2 d16_ (Fs.g fd16_ hg) hr24_)
        rcases ite_some h with ⟨hc26_, h⟩ | ⟨hc26_, h⟩
        · exact Fs.tr0 fd22_ (fs_PB_struck_b36 p3 1 d22_ (Fs.g fd22_ hg) h)
        · exact Fs.tr0 fd22_ (fs_PB_struck_b36 p3 0 d22_ (Fs.g fd22_ hg) h)
theorem fs_La_bring {r : Int} {d' : Dt} (p1 p2 p3 p4 : Int) (d : Dt) (hg : d GH 0 ≤ 6) (h : L_La_bring p1 p2 p3 p4 d = some (r, d')) : Fs d d' := by
  have f0 : Fs d d := Fs.rfl
  unfold L_La_bring at h
  obtain ⟨r2_, d1_, hr3_, h⟩ := bd_some h
  have fd1_ : Fs d d1_ := Fs.tr0 f0 (fs_La_gather p2 p3 d (Fs.g f0 hg) hr3_)
  obtain ⟨r6_, d5_, hr7_, h⟩ := bd_some h
  have fd5_ : Fs d d5_ := Fs.tr0 fd1_ (Fs.of (fr_Re_tell 35 9 p1 p2 p3 d1_ (Fs.g fd1_ hg) (by decide) hr7_) (by decide) (by decide))
  obtain ⟨rfl, rfl⟩ := ret_inj h
  exact (Fs.up (Fs.up fd5_ (by decide)) (by decide))
theorem fs_PB_right {r : Int} {d' : Dt} (p1 p2 p3 p4 : Int) (d : Dt) (hg : d GH 0 ≤ 6) (h : L_PB_right p1 p2 p3 p4 d = some (r, d')) : Fs d d' := by
  have f0 : Fs d d := Fs.rfl
  unfold L_PB_right at h
  obtain ⟨r2_, d1_, hr3_, h⟩ := bd_some h
  have fd1_ : Fs d d1_ := Fs.tr0 f0 (Fs.of (fr_PB_comerStatus p1 p2 p3 p4 d (Fs.g f0 hg) hr3_) (by decide) (by decide))
  rcases ite_some h with ⟨hc6_, h⟩ | ⟨hc6_, h⟩
  · obtain ⟨r8_, d7_, hr9_, h⟩ := bd_some h
    have fd7_ : Fs d d7_ := Fs.tr0 (Fs.up fd1_ (by decide)) (fs_La_bring p1 p2 p3 p4 (up2 d1_ 0 0 r2_) (Fs.g (Fs.up fd1_ (by decide)) hg) hr9_)
    obtain ⟨r12_, d11_, hr13_, h⟩ := bd_some h
    have fd11_ : Fs d d11_ := Fs.tr0 fd7_ (Fs.of (fr_La_rightNow  d7_ (Fs.g fd7_ hg) hr13_) (by decide) (by decide))
    obtain ⟨rfl, rfl⟩ := ret_inj h
    exact fd11_
  · obtain ⟨rfl, rfl⟩ := ret_inj h
    exact (Fs.up fd1_ (by decide))
theorem fs_PB_why_b56 {r : Int} {d' : Dt} (x5 s1 : Int) (d : Dt) (hg : d GH 0 ≤ 6) (h : L_PB_why_b56 x5 s1 d = some (r, d')) : Fs d d' := by
  have f0 : Fs d d := Fs.rfl
  unfold L_PB_why_b56 at h
  obtain ⟨rfl, rfl⟩ := ret_inj h
  exact (Fs.up f0 (by decide))
theorem fs_PB_why {r : Int} {d' : Dt} (p1 p2 p3 p4 : Int) (d : Dt) (hg : d GH 0 ≤ 6) (h : L_PB_why p1 p2 p3 p4 d = some (r, d')) : Fs d d' := by
  have f0 : Fs d d := Fs.rfl
  unfold L_PB_why at h
  obtain ⟨r2_, d1_, hr3_, h⟩ := bd_some h
  have fd1_ : Fs d d1_ := Fs.tr0 f0 (Fs.of (fr_PB_comerStatus p1 p2 p3 p4 d (Fs.g f0 hg) hr3_) (by decide) (by decide))
  rcases ite_some h with ⟨hc6_, h⟩ | ⟨hc6_, h⟩
  · obtain ⟨r8_, d7_, hr9_, h⟩ := bd_some h
    have fd7_ : Fs d d7_ := Fs.tr0 (Fs.up fd1_ (by decide)) (fs_La_bring p1 p2 p3 p4 (up2 d1_ 0 0 r2_) (Fs.g (Fs.up fd1_ (by decide)) hg) hr9_)
    obtain ⟨r12_, d11_, hr13_, h⟩ := bd_some h
    have fd11_ : Fs d d11_ := Fs.tr0 fd7_ (Fs.of (fr_La_reasonNow  d7_ (Fs.g fd7_ hg) hr13_) (by decide) (by decide))
    rcases ite_some h with ⟨hc15_, h⟩ | ⟨hc15_, h⟩
    · exact Fs.tr0 fd11_ (fs_PB_why_b56 r12_ 6 d11_ (Fs.g fd11_ hg) h)
    · exact Fs.tr0 fd11_ (fs_PB_why_b56 r12_ 0 d11_ (Fs.g fd11_ hg) h)
  · obtain ⟨rfl, rfl⟩ := ret_inj h
    exact (Fs.up fd1_ (by decide))
theorem fs_PB_voided {r : Int} {d' : Dt} (p1 p2 p3 p4 : Int) (d : Dt) (hg : d GH 0 ≤ 6) (h : L_PB_voided p1 p2 p3 p4 d = some (r, d')) : Fs d d' := by
  have f0 : Fs d d := Fs.rfl
  unfold L_PB_voided at h
  obtain ⟨r2_, d1_, hr3_, h⟩ := bd_some h
  have fd1_ : Fs d d1_ := Fs.tr0 f0 (Fs.of (fr_PB_comerStatus p1 p2 p3 p4 d (Fs.g f0 hg) hr3_) (by decide) (by decide))
  rcases ite_some h with ⟨hc6_, h⟩ | ⟨hc6_, h⟩
  · obtain ⟨r8_, d7_, hr9_, h⟩ := bd_some h
    have fd7_ : Fs d d7_ := Fs.tr0 (Fs.up fd1_ (by decide)) (fs_La_bring p1 p2 p3 p4 (up2 d1_ 0 0 r2_) (Fs.g (Fs.up fd1_ (by decide)) hg) hr9_)
    obtain ⟨r12_, d11_, hr13_, h⟩ := bd_some h
    have fd11_ : Fs d d11_ := Fs.tr0 fd7_ (Fs.of (fr_La_voidNow  d7_ (Fs.g fd7_ hg) hr13_) (by decide) (by decide))
    obtain ⟨r16_, d15_, hr17_, h⟩ := bd_some h
    have fd15_ : Fs d d15_ := Fs.tr0 fd11_ (Fs.of (fr_PB_bit r12_ d11_ (Fs.g fd11_ hg) hr17_) (by decide) (by decide))
    obtain ⟨rfl, rfl⟩ := ret_inj h
    exact fd15_
  · obtain ⟨rfl, rfl⟩ := ret_inj h
    exact (Fs.up fd1_ (by decide))
theorem fs_La_namesAt {r : Int} {d' : Dt} (p1 p2 : Int) (d : Dt) (hg : d GH 0 ≤ 6) (h : L_La_namesAt p1 p2 d = some (r, d')) : Fs d d' := by
  have f0 : Fs d d := Fs.rfl
  unfold L_La_namesAt at h
  obtain ⟨r2_, d1_, hr3_, h⟩ := bd_some h
  have fd1_ : Fs d d1_ := Fs.tr0 f0 (fs_La_gather p1 p2 d (Fs.g f0 hg) hr3_)
  obtain ⟨r6_, d5_, hr7_, h⟩ := bd_some h
  have fd5_ : Fs d d5_ := Fs.tr0 fd1_ (Fs.of (fr_La_lastOf 21 d1_ (Fs.g fd1_ hg) hr7_) (by decide) (by decide))
  rcases ite_some h with ⟨hc9_, h⟩ | ⟨hc9_, h⟩
  · obtain ⟨rfl, rfl⟩ := ret_inj h
    exact fd5_
  · obtain ⟨r11_, d10_, hr12_, h⟩ := bd_some h
    have fd10_ : Fs d d10_ := Fs.tr0 fd5_ (Fs.of (fr_La_firstNumber r6_ d5_ (Fs.g fd5_ hg) hr12_) (by decide) (by decide))
    obtain ⟨rfl, rfl⟩ := ret_inj h
    exact fd10_
theorem fs_PB_names_b20 {r : Int} {d' : Dt} (x1 x2 s1 : Int) (d : Dt) (hg : d GH 0 ≤ 6) (h : L_PB_names_b20 x1 x2 s1 d = some (r, d')) : Fs d d' := by
  have f0 : Fs d d := Fs.rfl
  unfold L_PB_names_b20 at h
  rcases ite_some h with ⟨hc2_, h⟩ | ⟨hc2_, h⟩
  · obtain ⟨r4_, d3_, hr5_, h⟩ := bd_some h
    have fd3_ : Fs d d3_ := Fs.tr0 (Fs.up f0 (by decide)) (fs_La_namesAt x1 x2 (up2 d 0 0 s1) (Fs.g (Fs.up f0 (by decide)) hg) hr5_)
    obtain ⟨rfl, rfl⟩ := ret_inj h
    exact fd3_
  · obtain ⟨rfl, rfl⟩ := ret_inj h
    exact (Fs.up f0 (by decide))
theorem fs_PB_names {r : Int} {d' : Dt} (p1 p2 : Int) (d : Dt) (hg : d GH 0 ≤ 6) (h : L_PB_names p1 p2 d = some (r, d')) : Fs d d' := by
  have f0 : Fs d d := Fs.rfl
  unfold L_PB_names at h
  obtain ⟨r8_, d7_, hr9_, h⟩ := bd_some h
  have fd7_ : Fs d d7_ := Fs.tr0 f0 (Fs.of (fr_PB_isPlace p1 d (Fs.g f0 hg) hr9_) (by decide) (by decide))
  rcases ite_some h with ⟨hc11_, h⟩ | ⟨hc11_, h⟩
  · exact Fs.tr0 fd7_ (fs_PB_names_b20 p1 p2 1 d7_ (Fs.g fd7_ hg) h)
  · obtain ⟨r13_, d12_, hr14_, h⟩ := bd_some h
    have fd12_ : Fs d d12_ := Fs.tr0 fd7_ (Fs.of (fr_PB_isDay p2 d7_ (Fs.g fd7_ hg) hr14_) (by decide) (by decide))
    rcases ite_some h with ⟨hc16_, h⟩ | ⟨hc16_, h⟩
    · exact Fs.tr0 fd12_ (fs_PB_names_b20 p1 p2 1 d12_ (Fs.g fd12_ hg) h)
    · exact Fs.tr0 fd12_ (fs_PB_names_b20 p1 p2 0 d12_ (Fs.g fd12_ hg) h)
theorem fs_Po_judge {r : Int} {d' : Dt} (p1 p2 p3 p4 p5 : Int) (d : Dt) (hg : d GH 0 ≤ 6) (h : L_Po_judge p1 p2 p3 p4 p5 d = some (r, d')) : Fs d d' := by
  have f0 : Fs d d := Fs.rfl
  unfold L_Po_judge at h
  obtain ⟨r2_, d1_, hr3_, h⟩ := bd_some h
  have fd1_ : Fs d d1_ := Fs.tr0 f0 (fs_La_bring p1 p4 p5 p2 d (Fs.g f0 hg) hr3_)
  obtain ⟨r6_, d5_, hr7_, h⟩ := bd_some h
  have fd5_ : Fs d d5_ := Fs.tr0 fd1_ (Fs.of (fr_La_rightNow  d1_ (Fs.g fd1_ hg) hr7_) (by decide) (by decide))
  rcases ite_some h with ⟨hc9_, h⟩ | ⟨hc9_, h⟩
  · obtain ⟨r11_, d10_, hr12_, h⟩ := bd_some h
    have fd10_ : Fs d d10_ := Fs.tr0 fd5_ (Fs.of (fr_La_voidNow  d5_ (Fs.g fd5_ hg) hr12_) (by decide) (by decide))
    rcases ite_some h with ⟨hc14_, h⟩ | ⟨hc14_, h⟩
    · obtain ⟨r16_, d15_, hr17_, h⟩ := bd_some h
      have fd15_ : Fs d d15_ := Fs.tr0 fd10_ (Fs.of (fr_In_bitCount p3 d10_ (Fs.g fd10_ hg) hr17_) (by decide) (by decide))
      rcases ite_some h with ⟨hc19_, h⟩ | ⟨hc19_, h⟩
      · obtain ⟨rfl, rfl⟩ := ret_inj h
        exact fd15_
      · obtain ⟨r21_, d20_, hr22_, h⟩ := bd_some h
        have fd20_ : Fs d d20_ := Fs.tr0 fd15_ (fs_La_namesAt p4 p5 d15_ (Fs.g fd15_ hg) hr22_)
        rcases ite_some h with ⟨hc24_, h⟩ | ⟨hc24_, h⟩
        · obtain ⟨rfl, rfl⟩ := ret_inj h
          exact fd20_
        · obtain ⟨rfl, rfl⟩ := ret_inj h
          exact fd20_
    · obtain ⟨rfl, rfl⟩ := ret_inj h
      exact fd10_
  · obtain ⟨rfl, rfl⟩ := ret_inj h
    exact fd5_
theorem fs_Po_entryStanding {r : Int} {d' : Dt} (p1 p2 p3 : Int) (d : Dt) (hg : d GH 0 ≤ 6) (h : L_Po_entryStanding p1 p2 p3 d = some (r, d')) : Fs d d' := by
  have f0 : Fs d d := Fs.rfl
  unfold L_Po_entryStanding at h
  obtain ⟨r2_, d1_, hr3_, h⟩ := bd_some h
  have fd1_ : Fs d d1_ := Fs.tr0 f0 (Fs.of (fr_Po_personOf p1 d (Fs.g f0 hg) hr3_) (by decide) (by decide))
  rcases ite_some h with ⟨hc5_, h⟩ | ⟨hc5_, h⟩
  · obtain ⟨rfl, rfl⟩ := ret_inj h
    exact fd1_
  · obtain ⟨r7_, d6_, hr8_, h⟩ := bd_some h
    have fd6_ : Fs d d6_ := Fs.tr0 fd1_ (Fs.of (fr_Po_isTwice p1 d1_ (Fs.g fd1_ hg) hr8_) (by decide) (by decide))
    rcases ite_some h with ⟨hc10_, h⟩ | ⟨hc10_, h⟩
    · obtain ⟨hb11_, h⟩ := ck_some h
      obtain ⟨r14_, d13_, hr15_, h⟩ := bd_some h
      have fd13_ : Fs d d13_ := Fs.tr0 fd6_ (Fs.of (fr_Bo_joinedSet p1 d6_ (Fs.g fd6_ hg) hr15_) (by decide) (by decide))
      obtain ⟨r18_, d17_, hr19_, h⟩ := bd_some h
      have fd17_ : Fs d d17_ := Fs.tr0 fd13_ (fs_Po_judge r2_ (d6_ 40 p1.toNat) r14_ p2 p3 d13_ (Fs.g fd13_ hg) hr19_)
      obtain ⟨rfl, rfl⟩ := ret_inj h
      exact fd17_
    · obtain ⟨rfl, rfl⟩ := ret_inj h
      exact fd6_
theorem fs_PB_standing_b32 {r : Int} {d' : Dt} (x1 x2 x3 s1 : Int) (d : Dt) (hg : d GH 0 ≤ 6) (h : L_PB_standing_b32 x1 x2 x3 s1 d = some (r, d')) : Fs d d' := by
  have f0 : Fs d d := Fs.rfl
  unfold L_PB_standing_b32 at h
  rcases ite_some h with ⟨hc2_, h⟩ | ⟨hc2_, h⟩
  · obtain ⟨r4_, d3_, hr5_, h⟩ := bd_some h
    have fd3_ : Fs d d3_ := Fs.tr0 (Fs.up f0 (by decide)) (fs_Po_entryStanding x1 x2 x3 (up2 d 0 0 s1) (Fs.g (Fs.up f0 (by decide)) hg) hr5_)
    obtain ⟨rfl, rfl⟩ := ret_inj h
    exact fd3_
  · obtain ⟨rfl, rfl⟩ := ret_inj h
    exact (Fs.up f0 (by decide))
theorem fs_PB_standing {r : Int} {d' : Dt} (p1 p2 p3 : Int) (d : Dt) (hg : d GH 0 ≤ 6) (h : L_PB_standing p1 p2 p3 d = some (r, d')) : Fs d d' := by
  have f0 : Fs d d := Fs.rfl
  unfold L_PB_standing at h
  obtain ⟨r8_, d7_, hr9_, h⟩ := bd_some h
  have fd7_ : Fs d d7_ := Fs.tr0 f0 (Fs.of (fr_Bo_has 0 p1 d (Fs.g f0 hg) hr9_) (by decide) (by decide))
  rcases ite_some h with ⟨hc11_, h⟩ | ⟨hc11_, h⟩
  · exact Fs.tr0 fd7_ (fs_PB_standing_b32 p1 p2 p3 1 d7_ (Fs.g fd7_ hg) h)
  · obtain ⟨r13_, d12_, hr14_, h⟩ := bd_some h
    have fd12_ : Fs d d12_ := Fs.tr0 fd7_ (Fs.of (fr_PB_isPlace p2 d7_ (Fs.g fd7_ hg) hr14_) (by decide) (by decide))
    rcases ite_some h with ⟨hc16_, h⟩ | ⟨hc16_, h⟩
    · exact Fs.tr0 fd12_ (fs_PB_standing_b32 p1 p2 p3 1 d12_ (Fs.g fd12_ hg) h)
    · obtain ⟨r18_, d17_, hr19_, h⟩ := bd_some h
      have fd17_ : Fs d d17_ := Fs.tr0 fd12_ (Fs.of (fr_PB_isDay p3 d12_ (Fs.g fd12_ hg) hr19_) (by decide) (by decide))
      rcases ite_some h with ⟨hc21_, h⟩ | ⟨hc21_, h⟩
      · exact Fs.tr0 fd17_ (fs_PB_standing_b32 p1 p2 p3 1 d17_ (Fs.g fd17_ hg) h)
      · exact Fs.tr0 fd17_ (fs_PB_standing_b32 p1 p2 p3 0 d17_ (Fs.g fd17_ hg) h)
theorem fs_Po_countEntries_b67 {o : (Int × Int × Int × Int × Dt) ⊕ ((Int × Dt))} (x1 x2 x3 x5 : Int) (d : Dt) (hg : d GH 0 ≤ 6) (h : L_Po_countEntries_b67 x1 x2 x3 x5 d = some o) : Fs d (hb_Po_countEntries_13 o) := by
  have f0 : Fs d d := Fs.rfl
  unfold L_Po_countEntries_b67 at h
  obtain rfl := Option.some.inj h
  exact f0
theorem fs_Po_countEntries_y13 {o : (Int × Int × Int × Int × Dt) ⊕ ((Int × Dt))} (x1 x2 x3 x5 : Int) (d : Dt) (hg : d GH 0 ≤ 6) (h : L_Po_countEntries_y13 x1 x2 x3 x5 d = some o) : Fs d (hb_Po_countEntries_13 o) := by
  have f0 : Fs d d := Fs.rfl
  unfold L_Po_countEntries_y13 at h
  rcases ite_some h with ⟨hc2_, h⟩ | ⟨hc2_, h⟩
  · obtain ⟨r4_, d3_, hr5_, h⟩ := bd_some h
    have fd3_ : Fs d d3_ := Fs.tr0 f0 (fs_Po_entryStanding x5 x1 x2 d (Fs.g f0 hg) hr5_)
    rcases ite_some h with ⟨hc7_, h⟩ | ⟨hc7_, h⟩
    · obtain ⟨hb8_, h⟩ := ck_some h
      obtain ⟨v10_, ev11_, h⟩ := lt_some h
      obtain ⟨r14_, d13_, hr15_, h⟩ := bd_some h
      have fd13_ : Fs d d13_ := Fs.tr0 fd3_ (Fs.of (fr_Bo_joinedSet x5 d3_ (Fs.g fd3_ hg) hr15_) (by decide) (by decide))
      obtain ⟨r18_, d17_, hr19_, h⟩ := bd_some h
      have fd17_ : Fs d d17_ := Fs.tr0 fd13_ (Fs.of (fr_PB_addSet 57 4 r14_ 1 d13_ (Fs.g fd13_ hg) (by decide) hr19_) (by decide) (by decide))
      exact Fs.tr0 fd17_ (fs_Po_countEntries_b67 x1 x2 v10_ x5 d17_ (Fs.g fd17_ hg) h)
    · exact Fs.tr0 fd3_ (fs_Po_countEntries_b67 x1 x2 x3 x5 d3_ (Fs.g fd3_ hg) h)
  · obtain rfl := Option.some.inj h
    exact f0
theorem fs_Po_countEntries_l13 {x : (Int × Dt)} (x1 x2 x3 x5 : Int) (d : Dt) (hg : d GH 0 ≤ 6) (h : L_Po_countEntries_l13 x1 x2 x3 x5 d = some x) : Fs d (he_Po_countEntries_13 x) :=
  lpF_fs (f := fun q : Int × Int × Int × Int × Dt => L_Po_countEntries_y13 q.1 q.2.1 q.2.2.1 q.2.2.2.1 q.2.2.2.2) (fun q => q.2.2.2.2) he_Po_countEntries_13 (fun q x hq hx => ⟨fun q2 e2 => by subst e2; exact fs_Po_countEntries_y13 q.1 q.2.1 q.2.2.1 q.2.2.2.1 q.2.2.2.2 hq hx, fun r2 e2 => by subst e2; exact fs_Po_countEntries_y13 q.1 q.2.1 q.2.2.1 q.2.2.2.1 q.2.2.2.2 hq hx⟩) FU _ x hg h
theorem fs_Po_countEntries {r : Int} {d' : Dt} (p1 p2 : Int) (d : Dt) (hg : d GH 0 ≤ 6) (h : L_Po_countEntries p1 p2 d = some (r, d')) : Fs d d' := by
  have f0 : Fs d d := Fs.rfl
  unfold L_Po_countEntries at h
  obtain ⟨r22_, d21_, hr23_, h⟩ := bd_some h
  have fd21_ : Fs d d21_ := Fs.tr0 f0 (Fs.of (fr_Ar_fill_aII 57 4 0 d (Fs.g f0 hg) (by decide) hr23_) (by decide) (by decide))
  obtain ⟨x25_, hx26_, h⟩ := lb_some h
  have fx25_ := Fs.tr0 fd21_ (fs_Po_countEntries_l13 p1 p2 0 0 d21_ (Fs.g fd21_ hg) hx26_)
  obtain ⟨v27_, d28_⟩ := x25_
  have fd28_ : Fs d d28_ := fx25_
  replace h := u1_e h
  obtain ⟨rfl, rfl⟩ := ret_inj h
  exact fd28_
theorem fs_Po_countOffers_b116 {o : (Int × Int × Int × Int × Int × Int × Dt) ⊕ ((Int × Dt))} (x3 x4 x5 x6 x8 x9 : Int) (d : Dt) (hg : d GH 0 ≤ 6) (h : L_Po_countOffers_b116 x3 x4 x5 x6 x8 x9 d = some o) : Fs d (hb_Po_countOffers_9 o) := by
  have f0 : Fs d d := Fs.rfl
  unfold L_Po_countOffers_b116 at h
  obtain rfl := Option.some.inj h
  exact f0
theorem fs_Po_countOffers_b85 {o : (Int × Int × Int × Int × Int × Int × Dt) ⊕ ((Int × Dt))} (x3 x4 x5 x6 x9 x10 s0 : Int) (d : Dt) (hg : d GH 0 ≤ 6) (h : L_Po_countOffers_b85 x3 x4 x5 x6 x9 x10 s0 d = some o) : Fs d (hb_Po_countOffers_9 o) := by
  have f0 : Fs d d := Fs.rfl
  unfold L_Po_countOffers_b85 at h
  rcases ite_some h with ⟨hc1_, h⟩ | ⟨hc1_, h⟩
  · obtain ⟨v2_, ev3_, h⟩ := lt_some h
    obtain ⟨hb5_, h⟩ := ck_some h
    obtain ⟨r8_, d7_, hr9_, h⟩ := bd_some h
    have fd7_ : Fs d d7_ := Fs.tr0 f0 (Fs.of (fr_PB_addSet 57 4 (d 55 x9.toNat) 1 d (Fs.g f0 hg) (by decide) hr9_) (by decide) (by decide))
    exact Fs.tr0 fd7_ (fs_Po_countOffers_b116 x3 x4 x5 v2_ s0 x9 d7_ (Fs.g fd7_ hg) h)
  · exact Fs.tr0 f0 (fs_Po_countOffers_b116 x3 x4 x5 x6 s0 x9 d (Fs.g f0 hg) h)
theorem fs_Po_countOffers_b50 {o : (Int × Int × Int × Int × Int × Int × Dt) ⊕ ((Int × Dt))} (x3 x4 x5 x6 x9 x10 s0 : Int) (d : Dt) (hg : d GH 0 ≤ 6) (h : L_Po_countOffers_b50 x3 x4 x5 x6 x9 x10 s0 d = some o) : Fs d (hb_Po_countOffers_9 o) := by
  have f0 : Fs d d := Fs.rfl
  unfold L_Po_countOffers_b50 at h
  rcases ite_some h with ⟨hc11_, h⟩ | ⟨hc11_, h⟩
  · obtain ⟨hb12_, h⟩ := ck_some h
    obtain ⟨hb14_, h⟩ := ck_some h
    obtain ⟨r17_, d16_, hr18_, h⟩ := bd_some h
    have fd16_ : Fs d d16_ := Fs.tr0 f0 (fs_Po_judge x10 (d 56 x9.toNat) (d 55 x9.toNat) x4 x5 d (Fs.g f0 hg) hr18_)
    exact Fs.tr0 fd16_ (fs_Po_countOffers_b85 x3 x4 x5 x6 x9 x10 r17_ d16_ (Fs.g fd16_ hg) h)
  · exact Fs.tr0 f0 (fs_Po_countOffers_b85 x3 x4 x5 x6 x9 x10 2 d (Fs.g f0 hg) h)
theorem fs_Po_countOffers_y9 {o : (Int × Int × Int × Int × Int × Int × Dt) ⊕ ((Int × Dt))} (x3 x4 x5 x6 x8 x9 : Int) (d : Dt) (hg : d GH 0 ≤ 6) (h : L_Po_countOffers_y9 x3 x4 x5 x6 x8 x9 d = some o) : Fs d (hb_Po_countOffers_9 o) := by
  have f0 : Fs d d := Fs.rfl
  unfold L_Po_countOffers_y9 at h
  rcases ite_some h with ⟨hc20_, h⟩ | ⟨hc20_, h⟩
  · rcases ite_some h with ⟨hc22_, h⟩ | ⟨hc22_, h⟩
    · obtain ⟨hb23_, h⟩ := ck_some h
      obtain ⟨v25_, ev26_, h⟩ := lt_some h
      rcases ite_some h with ⟨hc28_, h⟩ | ⟨hc28_, h⟩
      · exact Fs.tr0 f0 (fs_Po_countOffers_b50 x3 x4 x5 x6 x9 v25_ 0 d (Fs.g f0 hg) h)
      · exact Fs.tr0 f0 (fs_Po_countOffers_b50 x3 x4 x5 x6 x9 v25_ 1 d (Fs.g f0 hg) h)
    · obtain rfl := Option.some.inj h
      exact f0
  · obtain rfl := Option.some.inj h
    exact f0
theorem fs_Po_countOffers_l9 {x : (Int × Dt)} (x3 x4 x5 x6 x8 x9 : Int) (d : Dt) (hg : d GH 0 ≤ 6) (h : L_Po_countOffers_l9 x3 x4 x5 x6 x8 x9 d = some x) : Fs d (he_Po_countOffers_9 x) :=
  lpF_fs (f := fun q : Int × Int × Int × Int × Int × Int × Dt => L_Po_countOffers_y9 q.1 q.2.1 q.2.2.1 q.2.2.2.1 q.2.2.2.2.1 q.2.2.2.2.2.1 q.2.2.2.2.2.2) (fun q => q.2.2.2.2.2.2) he_Po_countOffers_9 (fun q x hq hx => ⟨fun q2 e2 => by subst e2; exact fs_Po_countOffers_y9 q.1 q.2.1 q.2.2.1 q.2.2.2.1 q.2.2.2.2.1 q.2.2.2.2.2.1 q.2.2.2.2.2.2 hq hx, fun r2 e2 => by subst e2; exact fs_Po_countOffers_y9 q.1 q.2.1 q.2.2.1 q.2.2.2.1 q.2.2.2.2.1 q.2.2.2.2.2.1 q.2.2.2.2.2.2 hq hx⟩) FU _ x hg h
theorem fs_Po_countOffers {r : Int} {d' : Dt} (p1 p2 p3 p4 : Int) (d : Dt) (hg : d GH 0 ≤ 6) (h : L_Po_countOffers p1 p2 p3 p4 d = some (r, d')) : Fs d d' := by
  have f0 : Fs d d := Fs.rfl
  unfold L_Po_countOffers at h
  obtain ⟨x29_, hx30_, h⟩ := lb_some h
  have fx29_ := Fs.tr0 f0 (fs_Po_countOffers_l9 p2 p3 p4 p1 0 0 d (Fs.g f0 hg) hx30_)
  obtain ⟨v31_, d32_⟩ := x29_
  have fd32_ : Fs d d32_ := fx29_
  replace h := u1_e h
  obtain ⟨rfl, rfl⟩ := ret_inj h
  exact fd32_
theorem fs_PB_stands_b31 {r : Int} {d' : Dt} (x1 x2 x3 s1 : Int) (d : Dt) (hg : d GH 0 ≤ 6) (h : L_PB_stands_b31 x1 x2 x3 s1 d = some (r, d')) : Fs d d' := by
  have f0 : Fs d d := Fs.rfl
  unfold L_PB_stands_b31 at h
  rcases ite_some h with ⟨hc2_, h⟩ | ⟨hc2_, h⟩
  · obtain ⟨r4_, d3_, hr5_, h⟩ := bd_some h
    have fd3_ : Fs d d3_ := Fs.tr0 (Fs.up f0 (by decide)) (fs_Po_countEntries x2 x3 (up2 d 0 0 s1) (Fs.g (Fs.up f0 (by decide)) hg) hr5_)
    obtain ⟨r8_, d7_, hr9_, h⟩ := bd_some h
    have fd7_ : Fs d d7_ := Fs.tr0 fd3_ (fs_Po_countOffers r4_ (w32 (x1 + 1)) x2 x3 d3_ (Fs.g fd3_ hg) hr9_)
    obtain ⟨rfl, rfl⟩ := ret_inj h
    exact fd7_
  · obtain ⟨rfl, rfl⟩ := ret_inj h
    exact (Fs.up f0 (by decide))
theorem fs_PB_stands {r : Int} {d' : Dt} (p1 p2 p3 : Int) (d : Dt) (hg : d GH 0 ≤ 6) (h : L_PB_stands p1 p2 p3 d = some (r, d')) : Fs d d' := by
  have f0 : Fs d d := Fs.rfl
  unfold L_PB_stands at h
  obtain ⟨r12_, d11_, hr13_, h⟩ := bd_some h
  have fd11_ : Fs d d11_ := Fs.tr0 f0 (Fs.of (fr_Po_hasOffer p1 d (Fs.g f0 hg) hr13_) (by decide) (by decide))
  rcases ite_some h with ⟨hc15_, h⟩ | ⟨hc15_, h⟩
  · exact Fs.tr0 fd11_ (fs_PB_stands_b31 p1 p2 p3 1 d11_ (Fs.g fd11_ hg) h)
  · obtain ⟨r17_, d16_, hr18_, h⟩ := bd_some h
    have fd16_ : Fs d d16_ := Fs.tr0 fd11_ (Fs.of (fr_PB_isPlace p2 d11_ (Fs.g fd11_ hg) hr18_) (by decide) (by decide))
    rcases ite_some h with ⟨hc20_, h⟩ | ⟨hc20_, h⟩
    · exact Fs.tr0 fd16_ (fs_PB_stands_b31 p1 p2 p3 1 d16_ (Fs.g fd16_ hg) h)
    · obtain ⟨r22_, d21_, hr23_, h⟩ := bd_some h
      have fd21_ : Fs d d21_ := Fs.tr0 fd16_ (Fs.of (fr_PB_isDay p3 d16_ (Fs.g fd16_ hg) hr23_) (by decide) (by decide))
      rcases ite_some h with ⟨hc25_, h⟩ | ⟨hc25_, h⟩
      · exact Fs.tr0 fd21_ (fs_PB_stands_b31 p1 p2 p3 1 d21_ (Fs.g fd21_ hg) h)
      · exact Fs.tr0 fd21_ (fs_PB_stands_b31 p1 p2 p3 0 d21_ (Fs.g fd21_ hg) h)
theorem fs_PB_poll_b72 {r : Int} {d' : Dt} (x1 x2 x3 s1 s2 : Int) (d : Dt) (hg : d GH 0 ≤ 6) (h : L_PB_poll_b72 x1 x2 x3 s1 s2 d = some (r, d')) : Fs d d' := by
  have f0 : Fs d d := Fs.rfl
  unfold L_PB_poll_b72 at h
  obtain ⟨r2_, d1_, hr3_, h⟩ := bd_some h
  have fd1_ : Fs d d1_ := Fs.tr0 f0 (fs_Po_countOffers s1 s2 x2 x3 d (Fs.g f0 hg) hr3_)
  obtain ⟨hb5_, h⟩ := ck_some h
  obtain ⟨rfl, rfl⟩ := ret_inj h
  exact fd1_
theorem fs_PB_poll_b27 {r : Int} {d' : Dt} (x1 x2 x3 x4 s1 : Int) (d : Dt) (hg : d GH 0 ≤ 6) (h : L_PB_poll_b27 x1 x2 x3 x4 s1 d = some (r, d')) : Fs d d' := by
  have f0 : Fs d d := Fs.rfl
  unfold L_PB_poll_b27 at h
  rcases ite_some h with ⟨hc8_, h⟩ | ⟨hc8_, h⟩
  · obtain ⟨r10_, d9_, hr11_, h⟩ := bd_some h
    have fd9_ : Fs d d9_ := Fs.tr0 (Fs.up f0 (by decide)) (fs_Po_countEntries x2 x3 (up2 d 0 0 s1) (Fs.g (Fs.up f0 (by decide)) hg) hr11_)
    rcases ite_some h with ⟨hc13_, h⟩ | ⟨hc13_, h⟩
    · exact Fs.tr0 fd9_ (fs_PB_poll_b72 x1 x2 x3 r10_ 0 d9_ (Fs.g fd9_ hg) h)
    · exact Fs.tr0 fd9_ (fs_PB_poll_b72 x1 x2 x3 r10_ (d9_ 49 11) d9_ (Fs.g fd9_ hg) h)
  · obtain ⟨rfl, rfl⟩ := ret_inj h
    exact (Fs.up f0 (by decide))
theorem fs_PB_poll {r : Int} {d' : Dt} (p1 p2 p3 p4 : Int) (d : Dt) (hg : d GH 0 ≤ 6) (h : L_PB_poll p1 p2 p3 p4 d = some (r, d')) : Fs d d' := by
  have f0 : Fs d d := Fs.rfl
  unfold L_PB_poll at h
  obtain ⟨r16_, d15_, hr17_, h⟩ := bd_some h
  have fd15_ : Fs d d15_ := Fs.tr0 f0 (Fs.of (fr_PB_isCandidate p1 d (Fs.g f0 hg) hr17_) (by decide) (by decide))
  rcases ite_some h with ⟨hc19_, h⟩ | ⟨hc19_, h⟩
  · exact Fs.tr0 fd15_ (fs_PB_poll_b27 p1 p2 p3 p4 1 d15_ (Fs.g fd15_ hg) h)
  · obtain ⟨r21_, d20_, hr22_, h⟩ := bd_some h
    have fd20_ : Fs d d20_ := Fs.tr0 fd15_ (Fs.of (fr_PB_isPlace p2 d15_ (Fs.g fd15_ hg) hr22_) (by decide) (by decide))
    rcases ite_some h with ⟨hc24_, h⟩ | ⟨hc24_, h⟩
    · exact Fs.tr0 fd20_ (fs_PB_poll_b27 p1 p2 p3 p4 1 d20_ (Fs.g fd20_ hg) h)
    · obtain ⟨r26_, d25_, hr27_, h⟩ := bd_some h
      have fd25_ : Fs d d25_ := Fs.tr0 fd20_ (Fs.of (fr_PB_isDay p3 d20_ (Fs.g fd20_ hg) hr27_) (by decide) (by decide))
      rcases ite_some h with ⟨hc29_, h⟩ | ⟨hc29_, h⟩
      · exact Fs.tr0 fd25_ (fs_PB_poll_b27 p1 p2 p3 p4 1 d25_ (Fs.g fd25_ hg) h)
      · exact Fs.tr0 fd25_ (fs_PB_poll_b27 p1 p2 p3 p4 0 d25_ (Fs.g fd25_ hg) h)
theorem fs_PB_seated_b75 {r : Int} {d' : Dt} (x1 x2 x3 s1 s2 : Int) (d : Dt) (hg : d GH 0 ≤ 6) (h : L_PB_seated_b75 x1 x2 x3 s1 s2 d = some (r, d')) : Fs d d' := by
  have f0 : Fs d d := Fs.rfl
  unfold L_PB_seated_b75 at h
  obtain ⟨r2_, d1_, hr3_, h⟩ := bd_some h
  have fd1_ : Fs d d1_ := Fs.tr0 f0 (fs_Po_countOffers s1 s2 x2 x3 d (Fs.g f0 hg) hr3_)
  obtain ⟨r6_, d5_, hr7_, h⟩ := bd_some h
  have fd5_ : Fs d d5_ := Fs.tr0 fd1_ (Fs.of (fr_PB_candidateAt 57 4 x1 d1_ (Fs.g fd1_ hg) (by decide) hr7_) (by decide) (by decide))
  obtain ⟨rfl, rfl⟩ := ret_inj h
  exact fd5_
theorem fs_PB_seated_b30 {r : Int} {d' : Dt} (x1 x2 x3 x4 s1 : Int) (d : Dt) (hg : d GH 0 ≤ 6) (h : L_PB_seated_b30 x1 x2 x3 x4 s1 d = some (r, d')) : Fs d d' := by
  have f0 : Fs d d := Fs.rfl
  unfold L_PB_seated_b30 at h
  rcases ite_some h with ⟨hc10_, h⟩ | ⟨hc10_, h⟩
  · obtain ⟨r12_, d11_, hr13_, h⟩ := bd_some h
    have fd11_ : Fs d d11_ := Fs.tr0 (Fs.up f0 (by decide)) (fs_Po_countEntries x2 x3 (up2 d 0 0 s1) (Fs.g (Fs.up f0 (by decide)) hg) hr13_)
    rcases ite_some h with ⟨hc15_, h⟩ | ⟨hc15_, h⟩
    · exact Fs.tr0 fd11_ (fs_PB_seated_b75 x1 x2 x3 r12_ 0 d11_ (Fs.g fd11_ hg) h)
    · exact Fs.tr0 fd11_ (fs_PB_seated_b75 x1 x2 x3 r12_ (d11_ 49 11) d11_ (Fs.g fd11_ hg) h)
  · obtain ⟨rfl, rfl⟩ := ret_inj h
    exact (Fs.up f0 (by decide))
theorem fs_PB_seated {r : Int} {d' : Dt} (p1 p2 p3 p4 : Int) (d : Dt) (hg : d GH 0 ≤ 6) (h : L_PB_seated p1 p2 p3 p4 d = some (r, d')) : Fs d d' := by
  have f0 : Fs d d := Fs.rfl
  unfold L_PB_seated at h
  obtain ⟨r18_, d17_, hr19_, h⟩ := bd_some h
  have fd17_ : Fs d d17_ := Fs.tr0 f0 (Fs.of (fr_PB_within p1 0 1 d (Fs.g f0 hg) hr19_) (by decide) (by decide))
  rcases ite_some h with ⟨hc21_, h⟩ | ⟨hc21_, h⟩
  · exact Fs.tr0 fd17_ (fs_PB_seated_b30 p1 p2 p3 p4 1 d17_ (Fs.g fd17_ hg) h)
  · obtain ⟨r23_, d22_, hr24_, h⟩ := bd_some h
    have fd22_ : Fs d d22_ := Fs.tr0 fd17_ (Fs.of (fr_PB_isPlace p2 d17_ (Fs.g fd17_ hg) hr24_) (by decide) (by decide))
    rcases ite_some h with ⟨hc26_, h⟩ | ⟨hc26_, h⟩
    · exact Fs.tr0 fd22_ (fs_PB_seated_b30 p1 p2 p3 p4 1 d22_ (Fs.g fd22_ hg) h)
    · obtain ⟨r28_, d27_, hr29_, h⟩ := bd_some h
      have fd27_ : Fs d d27_ := Fs.tr0 fd22_ (Fs.of (fr_PB_isDay p3 d22_ (Fs.g fd22_ hg) hr29_) (by decide) (by decide))
      rcases ite_some h with ⟨hc31_, h⟩ | ⟨hc31_, h⟩
      · exact Fs.tr0 fd27_ (fs_PB_seated_b30 p1 p2 p3 p4 1 d27_ (Fs.g fd27_ hg) h)
      · exact Fs.tr0 fd27_ (fs_PB_seated_b30 p1 p2 p3 p4 0 d27_ (Fs.g fd27_ hg) h)
