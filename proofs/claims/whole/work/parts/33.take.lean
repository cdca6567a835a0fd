/-! from cells with references as data to the worlds, and back; the TEXT that is made in the middle of a run -/
def rfd (wd : Nat) (d : Dt) : Dt := fun k j => if (cd wd k).1 < 20 ∧ ft (cd wd k).1 j = 3 then ((rf (cd wd k).1 k j : Nat) : Int) else d k j
theorem ent_rfd {wd k : Nat} {cA : Nat → ClassId} {ad : Nat → Nat} {d : Dt} : entQ cA ad wd k (rfd wd d k) = ent cA ad wd k (d k) := by
  unfold entQ ent
  by_cases hc : (cd wd k).1 < 20
  · rw [if_pos hc, if_pos hc]
    congr 2
    apply List.map_congr_left
    intro j _
    unfold fq fv rfd
    by_cases h3 : ft (cd wd k).1 j = 3
    · rw [h3]
      simp only [hc, true_and, if_true]
      have hz : ¬ (((rf (cd wd k).1 k j : Nat) : Int) < 0) := by omega
      simp [orf, hz, va_rf]
    · simp only [h3, and_false, if_false]
      generalize ft (cd wd k).1 j = t at h3
      match t, h3 with
      | 0, _ => rfl
      | 1, _ => rfl
      | 2, _ => rfl
      | 3, h => exact absurd rfl h
      | t + 4, _ => rfl
  · rw [if_neg hc, if_neg hc]
    have e1 : rfd wd d k = d k := by funext j; unfold rfd; rw [if_neg (fun h => hc h.1)]
    rw [e1]
theorem wld_wq {wd : Nat} {cA : Nat → ClassId} {ad : Nat → Nat} {d : Dt} : wld wd cA ad d = wq wd (List.range (nOf wd d)) cA ad (rfd wd d) := by
  unfold wld wq
  apply List.map_congr_left
  intro k _
  rw [ent_rfd]
theorem wq_congr {wd : Nat} {cA : Nat → ClassId} {ad : Nat → Nat} {d d' : Dt} {ks : List Nat} (h : ∀ k ∈ ks, d k = d' k) : wq wd ks cA ad d = wq wd ks cA ad d' := by
  unfold wq
  apply List.map_congr_left
  intro k hk
  rw [h k hk]
theorem wq_perm {D : va_G} {wd : Nat} {cA : Nat → ClassId} {ad : Nat → Nat} {d : Dt} {ks ks2 : List Nat} {A : Nat → Prop} {H : Heap} (hn : ks2.Nodup) (hs : ∀ x ∈ ks2, x ∈ ks) (hP : va_P D classes (wq wd ks cA ad d) H) (hD : va_D A (wq wd ks cA ad d)) (hn1 : ks.Nodup) : va_P D classes (wq wd ks2 cA ad d) H ∧ va_D A (wq wd ks2 cA ad d) := by
  have hat : ∀ (i : Nat) (q : Nat × va_E), (wq wd ks2 cA ad d)[i]? = some q → ∃ (k j : Nat), ks2[i]? = some k ∧ ks[j]? = some k ∧ q = (ad k, entQ cA ad wd k (d k)) ∧ (wq wd ks cA ad d)[j]? = some q := by
    intro i q h
    unfold wq at h
    rw [List.getElem?_map] at h
    cases hk : ks2[i]? with
    | none => rw [hk] at h; cases h
    | some k =>
      rw [hk] at h
      obtain ⟨j, hj⟩ := List.getElem?_of_mem (hs k (List.mem_of_getElem? hk))
      have e : q = (ad k, entQ cA ad wd k (d k)) := (Option.some.inj h).symm
      exact ⟨k, j, rfl, hj, e, by rw [e]; exact wq_at hj⟩
  refine ⟨fun i q h => ?_, fun i i' q q' h h' e => ?_, fun i q h => ?_⟩
  · obtain ⟨k, j, -, -, -, hj⟩ := hat i q h
    exact hP j q hj
  · obtain ⟨k, j, h1, h2, e1, hj⟩ := hat i q h
    obtain ⟨k', j', h1', h2', e1', hj'⟩ := hat i' q' h'
    have hjj := hD.1 j j' q q' hj hj' e
    subst hjj
    rw [h2] at h2'
    cases h2'
    exact nd_inj hn h1 h1'
  · obtain ⟨k, j, -, -, -, hj⟩ := hat i q h
    exact hD.2 j q hj
/-- how many cells: the next TEXT's first -/
def nxt (d : Dt) : Nat := 79 + 7 * (d GH 0).toNat
def mkst (d : Dt) : Dt := fun k j => if k = 25 ∧ j = 6 then (nxt d : Int) else if k = GH ∧ j = 0 then d GH 0 + 1 else if nxt d ≤ k ∧ k < nxt d + 7 then 0 else d k j
def okRI (d : Dt) : Prop := RI 0 [] (List.range (nOf 0 d)) (rfd 0 d)
theorem cd_new {n o : Nat} (ho : o < 7) : cd 0 (79 + 7 * n + o) = cdA1.getD o (99, 0) := by
  unfold cd
  rw [if_pos rfl, if_neg (by omega)]
  congr 1
  omega
theorem nOf_eq {d1 d2 : Dt} (h : d1 GH 0 = d2 GH 0) : nOf 0 d1 = nOf 0 d2 := by unfold nOf; rw [h]
noncomputable def ckP {α : Type} (c : Prop) (k : Option α) : Option α := @ck α c (Classical.propDecidable c) k
theorem ckP_some {α : Type} {c : Prop} {k : Option α} {o : α} (h : ckP c k = some o) : c ∧ k = some o := @ck_some α c (Classical.propDecidable c) k o h
theorem ckP_pos {α : Type} {c : Prop} {k : Option α} (h : c) : ckP c k = k := @ck_pos α c (Classical.propDecidable c) k h
theorem okl_take {d : Dt} {x : Int} (h : stt d x) : okl [] (List.range (nOf 0 d)) [(2, 25), (9, 0), (9, 0), (2, x)] := by
  intro v hv h2
  simp only [List.mem_cons, List.not_mem_nil, or_false] at hv
  rcases hv with rfl | rfl | rfl | rfl
  · exact Or.inr (Or.inl (List.mem_range.mpr (by show 25 < nxt d; unfold nxt; omega)))
  · exact absurd (show (9 : Nat) = 2 from h2) (by decide)
  · exact absurd (show (9 : Nat) = 2 from h2) (by decide)
  · exact Or.inr (Or.inl (List.mem_range.mpr (by
      show x.toNat < nxt d
      have h1 := h.1
      have h3 := h.2.1
      unfold nxt
      omega)))
theorem lo_text {d : Dt} {ad : Nat → Nat} {a b c : Int} (ad1 : Nat → Nat) (h : ∀ k, k < nOf 0 d ∨ GH ≤ k → ad1 k = ad k) : (∀ v ∈ ([(2, 0), (0, a), (0, b), (0, c), (9, 0), (9, 0)] : List AV), v.1 < 3 → cv ad1 v = cv ad v) ∧ ([] : List AV).map (cv ad1) = ([] : List AV).map (cv ad) := by
  refine ⟨fun v hv h3 => ?_, rfl⟩
  simp only [List.mem_cons, List.not_mem_nil, or_false] at hv
  have h0 : ad1 0 = ad 0 := h 0 (Or.inl (by show 0 < nxt d; unfold nxt; omega))
  rcases hv with rfl | rfl | rfl | rfl | rfl | rfl
  · exact cv_same h3 (fun _ => Or.inr h0)
  · rfl
  · rfl
  · rfl
  · exact absurd h3 (by decide)
  · exact absurd h3 (by decide)
section TAKE
variable {p : Program} {l : Launch} {e : Env} {R : Room} {s : State} {m : MethodId} {args : Array Value} {below : List Frame} {meth : Method} {c : Code} {cells slots : Nat} {Q : State → Prop} {cc : ByteArray} {nL : Nat} {own : String} {D : va_G} {cA : Nat → ClassId} {ad : Nat → Nat} {A : Nat → Prop}
variable {pc : Nat} {lo rest : List AV} {d : Dt}
theorem Cx.re {ad' : Nat → Nat} (C : Cx p s m args c cc nL own D cA ad 0 A) (h : ∀ k, GH ≤ k → ad' k = ad k) : Cx p s m args c cc nL own D cA ad' 0 A := by
  obtain ⟨h1, h2, h3, h4, h5, h6, h7, h8⟩ := C
  refine ⟨h1, h2, h3, h4, h5, h6, h7, fun e => ?_, fun e => by cases e⟩
  have h9 := h8.1 rfl
  unfold EX0 at h9 ⊢
  rw [h 1000001 (by decide), h 1000002 (by decide)]
  exact h9
theorem nOf0 (d : Dt) : nOf 0 d = nxt d := rfl
theorem nxt_lt (hC : CN 0 d) : nxt d + 7 < GH := by
  have h1 := hC.2.1
  have h2 := hC.2.2
  have h4 : GH = 1000000 := rfl
  unfold nxt
  omega
/-- the data behind the making: what entQ reads is what ent reads of mkst -/
theorem mkst_data (hC : CN 0 d) (hle : d GH 0 ≤ 5) : ∀ k, k < nxt d + 7 → rfd 0 (mkst d) k = up2 (mk_St_init (nxt d) (fun q => if nxt d ≤ q ∧ q < nxt d + 7 then dzv 0 q else rfd 0 d q)) 25 6 (nxt d : Int) k := by
  intro k hk
  have hG := nxt_lt hC
  have hb : 79 ≤ nxt d := by unfold nxt; omega
  funext j
  by_cases hn : nxt d ≤ k
  · have hk25 : k ≠ 25 := by omega
    rw [up2_k _ _ _ _ hk25]
    obtain ⟨o, rfl⟩ : ∃ o, k = nxt d + o := ⟨k - nxt d, by omega⟩
    have ho : o < 7 := by omega
    have hcd : cd 0 (nxt d + o) = cdA1.getD o (99, 0) := cd_new ho
    have hm : mkst d (nxt d + o) j = 0 := by
      unfold mkst
      rw [if_neg (fun h => hk25 h.1), if_neg (fun h => by have := h.1; omega), if_pos ⟨by omega, by omega⟩]
    by_cases ho0 : o = 0
    · subst ho0
      rw [Nat.add_zero] at hcd hm ⊢
      have hcd : cd 0 (nxt d) = (9, 10) := hcd
      have hz : dzv 0 (nxt d) j = if (3 ≤ ft 9 j) then -1 else 0 := by
        unfold dzv isRf
        rw [hcd]
        show (if (if (9 : Nat) < 20 then decide (3 ≤ ft 9 j) else decide (24 ≤ 9)) = true then (-1 : Int) else 0) = _
        rw [if_pos (show (9 : Nat) < 20 by decide)]
        simp only [decide_eq_true_eq]
      have hl : rfd 0 (mkst d) (nxt d) j = if ft 9 j = 3 then ((rf 9 (nxt d) j : Nat) : Int) else 0 := by
        unfold rfd
        rw [hcd, hm]
        simp only [show (9 : Nat) < 20 by decide, true_and]
      have hb0 : (if nxt d ≤ nxt d ∧ nxt d < nxt d + 7 then dzv 0 (nxt d) else rfd 0 d (nxt d)) j = if (3 ≤ ft 9 j) then -1 else 0 := by rw [if_pos ⟨Nat.le_refl _, by omega⟩, hz]
      rw [hl]
      unfold mk_St_init
      by_cases hj : j < 10
      · have hj10 : j = 0 ∨ j = 1 ∨ j = 2 ∨ j = 3 ∨ j = 4 ∨ j = 5 ∨ j = 6 ∨ j = 7 ∨ j = 8 ∨ j = 9 := by omega
        rcases hj10 with rfl | rfl | rfl | rfl | rfl | rfl | rfl | rfl | rfl | rfl
        · rw [up2_j _ _ _ (by decide), up2_j _ _ _ (by decide), up2_j _ _ _ (by decide), up2_j _ _ _ (by decide), up2_j _ _ _ (by decide), up2_j _ _ _ (by decide)]; exact hb0.symm
        · rw [up2_j _ _ _ (by decide), up2_j _ _ _ (by decide), up2_j _ _ _ (by decide), up2_j _ _ _ (by decide), up2_j _ _ _ (by decide), up2_j _ _ _ (by decide)]; exact hb0.symm
        · rw [up2_j _ _ _ (by decide), up2_j _ _ _ (by decide), up2_j _ _ _ (by decide), up2_j _ _ _ (by decide), up2_j _ _ _ (by decide), up2_j _ _ _ (by decide)]; exact hb0.symm
        · rw [up2_j _ _ _ (by decide), up2_j _ _ _ (by decide), up2_j _ _ _ (by decide), up2_j _ _ _ (by decide), up2_j _ _ _ (by decide), up2_j _ _ _ (by decide)]; exact hb0.symm
        · rw [up2_j _ _ _ (by decide), up2_j _ _ _ (by decide), up2_j _ _ _ (by decide), up2_j _ _ _ (by decide), up2_j _ _ _ (by decide), up2_s]; rfl
        · rw [up2_j _ _ _ (by decide), up2_j _ _ _ (by decide), up2_j _ _ _ (by decide), up2_j _ _ _ (by decide), up2_s]; rfl
        · rw [up2_j _ _ _ (by decide), up2_j _ _ _ (by decide), up2_j _ _ _ (by decide), up2_s]; rfl
        · rw [up2_j _ _ _ (by decide), up2_j _ _ _ (by decide), up2_s]; rfl
        · rw [up2_j _ _ _ (by decide), up2_s]; rfl
        · rw [up2_s]; rfl
      · have hf : ft 9 j = 0 := by
          show ([0, 0, 0, 0, 3, 3, 3, 3, 3, 3] : List Nat).getD j 0 = 0
          rw [List.getD_eq_getElem?_getD, List.getElem?_eq_none (by show 10 ≤ j; omega)]; rfl
        rw [up2_j _ _ _ (by omega), up2_j _ _ _ (by omega), up2_j _ _ _ (by omega), up2_j _ _ _ (by omega), up2_j _ _ _ (by omega), up2_j _ _ _ (by omega)]
        show _ = (if nxt d ≤ nxt d ∧ nxt d < nxt d + 7 then dzv 0 (nxt d) else rfd 0 d (nxt d)) j
        rw [hb0, hf]
        rfl
    · have h20 : 20 ≤ (cdA1.getD o (99, 0)).1 ∧ (cdA1.getD o (99, 0)).1 < 24 := by
        have ho7 : o = 1 ∨ o = 2 ∨ o = 3 ∨ o = 4 ∨ o = 5 ∨ o = 6 := by omega
        rcases ho7 with rfl | rfl | rfl | rfl | rfl | rfl <;> decide
      have hl : rfd 0 (mkst d) (nxt d + o) j = 0 := by
        unfold rfd
        rw [if_neg (fun h => by have h1 := h.1; rw [hcd] at h1; omega), hm]
      rw [hl]
      unfold mk_St_init
      rw [up2_k _ _ _ _ (by omega), up2_k _ _ _ _ (by omega), up2_k _ _ _ _ (by omega), up2_k _ _ _ _ (by omega), up2_k _ _ _ _ (by omega), up2_k _ _ _ _ (by omega)]
      show 0 = (if nxt d ≤ nxt d + o ∧ nxt d + o < nxt d + 7 then dzv 0 (nxt d + o) else rfd 0 d (nxt d + o)) j
      rw [if_pos ⟨by omega, by omega⟩, dzv_a (t := (cdA1.getD o (99, 0)).1) (n := (cdA1.getD o (99, 0)).2) hcd h20]
  · have hks : k ≠ GH := by omega
    have hkn : ¬ (nxt d ≤ k ∧ k < nxt d + 7) := fun h => hn h.1
    by_cases hkj : k = 25 ∧ j = 6
    · obtain ⟨rfl, rfl⟩ := hkj
      rw [up2_s]
      unfold rfd
      rw [if_neg (by decide)]
      unfold mkst
      rw [if_pos ⟨rfl, rfl⟩]
    · have e1 : mkst d k j = d k j := by
        unfold mkst
        rw [if_neg hkj, if_neg (fun h => hks h.1), if_neg hkn]
      have e2 : rfd 0 (mkst d) k j = rfd 0 d k j := by
        unfold rfd
        rw [e1]
      have e3 : up2 (mk_St_init (nxt d) (fun q => if nxt d ≤ q ∧ q < nxt d + 7 then dzv 0 q else rfd 0 d q)) 25 6 (nxt d : Int) k j = mk_St_init (nxt d) (fun q => if nxt d ≤ q ∧ q < nxt d + 7 then dzv 0 q else rfd 0 d q) k j := by
        by_cases h25 : k = 25
        · subst h25
          exact up2_j _ _ _ (fun h => hkj ⟨rfl, h⟩)
        · exact up2_k _ _ _ _ h25
      rw [e2, e3, mk_St_init_out _ _ _ (Or.inl (by omega))]
      show _ = (if nxt d ≤ k ∧ k < nxt d + 7 then dzv 0 k else rfd 0 d k) j
      rw [if_neg hkn]
theorem nxt_mkst (hC : CN 0 d) (hle : d GH 0 ≤ 5) : nxt (mkst d) = nxt d + 7 := by
  have h1 := hC.2.1
  have e1 : mkst d GH 0 = d GH 0 + 1 := by
    unfold mkst
    rw [if_neg (by decide), if_pos ⟨rfl, rfl⟩]
  unfold nxt
  rw [e1]
  omega
theorem CN_mkst (hC : CN 0 d) (hle : d GH 0 ≤ 5) : CN 0 (mkst d) := by
  have hG := nxt_lt hC
  have hb : 79 ≤ nxt d := by unfold nxt; omega
  have e1 : mkst d GH 0 = d GH 0 + 1 := by
    unfold mkst
    rw [if_neg (by decide), if_pos ⟨rfl, rfl⟩]
  have h1 := hC.2.1
  refine ⟨fun k j => ?_, by rw [e1]; omega, by rw [e1]; omega⟩
  unfold mkst
  by_cases hkj : k = 25 ∧ j = 6
  · rw [if_pos hkj]
    obtain ⟨rfl, rfl⟩ := hkj
    trivial
  · rw [if_neg hkj]
    by_cases hg : k = GH ∧ j = 0
    · rw [if_pos hg]
      obtain ⟨rfl, rfl⟩ := hg
      have h9 := hC.1 GH 0
      have h8 : cnk (cd 0 GH) 0 (d GH 0 + 1) := by
        have e2 : cd 0 GH = cdA1.getD ((GH - 79) % 7) (99, 0) := by unfold cd; rw [if_pos rfl, if_neg (by decide)]
        rw [e2]
        show cnk (20, 600) 0 (d GH 0 + 1)
        show c32 (d GH 0 + 1)
        unfold c32
        omega
      exact h8
    · rw [if_neg hg]
      by_cases hn : nxt d ≤ k ∧ k < nxt d + 7
      · rw [if_pos hn]
        unfold cnk
        have hcb : cb 0 := Or.inl rfl
        have h32 : c32 0 := cK rfl
        have h64 : c64 0 := cL rfl
        split
        · exact h32
        · exact h64
        · decide
        · exact hcb
        · trivial
        · split
          · exact h32
          · exact h64
          · exact hcb
          · trivial
      · rw [if_neg hn]
        exact hC.1 k j
theorem rng7 (n : Nat) : List.range (n + 7) = List.range n ++ [n, n + 1, n + 2, n + 3, n + 4, n + 5, n + 6] := by
  simp only [List.range_succ, List.append_assoc, List.cons_append, List.nil_append]
def Fn (b k : Nat) : Bool := decide (b ≤ k ∧ k < b + 7)
/-- draft = new Statute(); in the middle of a walk over the world -/
theorem g_mkst (C : Cx p s m args c cc nL "PollBooks$Parser" D cA ad 0 A) (hAO : va_AO "PollBooks$Statute" s) (hlo : okl [] (List.range (nOf 0 d)) lo) (hRI : okRI d) (hle : d GH 0 ≤ 5) {i1 i2 i3 : Nat} {host : String} (w1 : Cond.classLink "PollBooks$Parser" i1 R9 ∈ lw_ok) (w2 : Cond.instantiable R9 10 ∈ lw_ok) (w3 : Cond.initialized R9 ∈ lw_ok) (w4 : Cond.methodLinkNest "PollBooks$Parser" i2 y_St_init host ∈ lw_ok) (w5 : Cond.instanceMethod y_St_init ∈ lw_ok) (w6 : Cond.fieldLink "PollBooks$Parser" i3 (T4 6).1 (T4 6).2.1 (T4 6).2.2.1 ∈ lw_ok) (hR : cells + 7 ≤ R.cells ∧ slots + 710 ≤ R.slots ∧ 2 ≤ R.frames ∧ 40 ≤ R.locals)
    (hd1 : decode cc pc = .ok (.new i1, 3)) (hd2 : decode cc (pc + 3) = .ok (.dup, 1)) (hd3 : decode cc (pc + 3 + 1) = .ok (.invokespecial i2, 3)) (hd4 : decode cc (pc + 3 + 1 + 3) = .ok (.putfield i3, 3))
    (kk : ∀ ad' : Nat → Nat, (∀ k, k < nOf 0 d ∨ GH ≤ k → ad' k = ad k) → G p l e R s m args below meth c (cells + 7) (slots + 710) Q nL D cA ad' 0 A (pc + 3 + 1 + 3 + 3) lo [] (mkst d)) : G p l e R s m args below meth c cells slots Q nL D cA ad 0 A pc lo [(2, 25)] d := by
  intro ls H locs hl hH hS
  have hC := hH.2.2
  have hG := nxt_lt hC
  have hb : 79 ≤ nxt d := by unfold nxt; omega
  have hn0 : nOf 0 d = nxt d := rfl
  rw [hn0] at hlo kk
  have hRI : RI 0 [] (List.range (nxt d)) (rfd 0 d) := hRI
  have hnd : (List.range (nxt d)).Nodup := List.nodup_range
  have hdd : ∀ k ∈ List.range (nxt d), rfd 0 d k = (fun q => if nxt d ≤ q ∧ q < nxt d + 7 then dzv 0 q else rfd 0 d q) k := by
    intro k hk
    have := List.mem_range.mp hk
    show _ = if nxt d ≤ k ∧ k < nxt d + 7 then dzv 0 k else rfd 0 d k
    rw [if_neg (by omega)]
  have hw : wld 0 cA ad d = wq 0 (List.range (nxt d)) cA ad (fun q => if nxt d ≤ q ∧ q < nxt d + 7 then dzv 0 q else rfd 0 d q) := by
    rw [wld_wq, hn0]
    exact wq_congr hdd
  have hRI2 : RI 0 [] (List.range (nxt d)) (fun q => if nxt d ≤ q ∧ q < nxt d + 7 then dzv 0 q else rfd 0 d q) := by
    intro k hk j hj
    rw [← hdd k hk]
    exact hRI k hk j hj
  have hz : ∀ o, o < 7 → ∀ j, (fun q => if nxt d ≤ q ∧ q < nxt d + 7 then dzv 0 q else rfd 0 d q) (nxt d + o) j = dzv 0 (nxt d + o) j := by
    intro o ho j
    show (if nxt d ≤ nxt d + o ∧ nxt d + o < nxt d + 7 then dzv 0 (nxt d + o) else rfd 0 d (nxt d + o)) j = _
    rw [if_pos ⟨by omega, by omega⟩]
  have Cq9 : Cq p s m args meth c cc nL "PollBooks$Parser" D cA (Fn (nxt d)) [] A := ⟨C.1, C.2.1, C.2.2.1, C.2.2.2.1, C.2.2.2.2.1, C.2.2.2.2.2.1, C.2.2.2.2.2.2.1, trivial, hAO, fun x hx => absurd hx List.not_mem_nil⟩
  generalize hd0 : (fun q => if nxt d ≤ q ∧ q < nxt d + 7 then dzv 0 q else rfd 0 d q) = d0 at hw hRI2 hz
  have hfin : Gq p l e R s m args below meth c (cells + 1 + 6) (slots + 10 + 700) Q nL D cA ad 0 (Fn (nxt d)) [] A (List.range (nxt d) ++ [nxt d, nxt d + 1, nxt d + 2, nxt d + 3, nxt d + 4, nxt d + 5, nxt d + 6]) (pc + 3 + 1 + 3 + 3) lo [] (up2 (mk_St_init (nxt d) d0) 25 6 (nxt d : Int)) := by
    intro hn9 hR9 ad' ha' ls' H' locs' hl' hP' hD' hS'
    have hk' := kk ad' (fun k hk => ha' k (by unfold Fn; rw [decide_eq_false_iff_not]; omega))
    refine hk' ls' H' locs' hl' ⟨?_, ?_, CN_mkst hC hle⟩ hS'
    · rw [wld_wq, nOf0, nxt_mkst hC hle, rng7, wq_congr (d' := up2 (mk_St_init (nxt d) d0) 25 6 (nxt d : Int)) (fun k hk => by rw [← hd0]; exact mkst_data hC hle k (by rw [← rng7] at hk; exact List.mem_range.mp hk))]
      exact hP'
    · rw [wld_wq, nOf0, nxt_mkst hC hle, rng7, wq_congr (d' := up2 (mk_St_init (nxt d) d0) 25 6 (nxt d : Int)) (fun k hk => by rw [← hd0]; exact mkst_data hC hle k (by rw [← rng7] at hk; exact List.mem_range.mp hk))]
      exact hD'
  have hT : ∀ x, x ∈ List.range (nxt d) ↔ x < nxt d := fun x => List.mem_range
  have h25 : (25 : Nat) ∈ List.range (nxt d) := List.mem_range.mpr (by omega)
  have hok25 : okl [] (List.range (nxt d)) [(2, (25 : Int))] := fun v hv _ => by rw [List.mem_singleton.mp hv]; exact Or.inr (Or.inl h25)
  have h3' : ∀ v ∈ ([(2, (25 : Int))] : List AV), v.1 < 3 := fun v hv => by rw [List.mem_singleton.mp hv]; show 2 < 3; decide
  have cdn : ∀ o, o < 7 → cd 0 (nxt d + o) = cdA1.getD o (99, 0) := fun o ho => cd_new ho
  have c0 : cd 0 (nxt d) = (9, 10) := cdn 0 (by decide)
  have hi25 : (List.range (nxt d) ++ [nxt d, nxt d + 1, nxt d + 2, nxt d + 3, nxt d + 4, nxt d + 5, nxt d + 6])[25]? = some 25 := by rw [List.getElem?_append_left (by rw [List.length_range]; omega), List.getElem?_range (by omega)]
  have hgrow : ∀ {lo' : List AV}, okl [] (List.range (nxt d)) lo' → okl [] (List.range (nxt d) ++ [nxt d]) lo' := fun h v hv h2 => okr_grow _ (h v hv h2)
  have hmk : ∀ k, k ∉ [nxt d, nxt d + 1, nxt d + 2, nxt d + 3, nxt d + 4, nxt d + 5, nxt d + 6] → mk_St_init (nxt d) d0 k = d0 k := by
    intro k hk
    refine mk_St_init_out _ _ _ ?_
    simp only [List.mem_cons, List.not_mem_nil, or_false, not_or] at hk
    omega
  have h4 := q_putM (p := p) (l := l) (e := e) (R := R) (s := s) (m := m) (args := args) (below := below) (meth := meth) (c := c) (cells := cells + 1 + 6) (slots := slots + 10 + 700) (Q := Q) (nL := nL) (ad0 := ad) (wd := 0) (rest := []) (lo := lo) (d := mk_St_init (nxt d) d0) (pc := pc + 3 + 1 + 3) Cq9 cl4 25 25 6 (nxt d) hi25 cd_A25 ⟨by decide, rfl, by decide⟩ (by decide) (Or.inl (List.mem_append_right _ List.mem_cons_self)) w6 rfl (fun _ => rfl) (fun _ => rfl) hd4 hfin
  have h3 := q_callN (p := p) (l := l) (e := e) (R := R) (s := s) (m := m) (args := args) (below := below) (meth := meth) (c := c) (cells := cells + 1) (slots := slots + 10) (Q := Q) (nL := nL) (ad0 := ad) (wd := 0) (rest := [(2, ((nxt d : Nat) : Int)), (2, ((25 : Nat) : Int))]) (lo := lo) (d := d0) (pc := pc + 3 + 1) (ks := List.range (nxt d) ++ [nxt d]) Cq9 mw_St_init [] (nxt d) (List.range (nxt d)) rfl (ok_St_init (nxt d) c0 (cdn 1 (by decide)) (cdn 2 (by decide)) (cdn 3 (by decide)) (cdn 4 (by decide)) (cdn 5 (by decide)) (cdn 6 (by decide)) d0 hz) w4 w5 rfl ⟨rfl, rfl, hR.2.2.1, Nat.le_trans (by decide) hR.2.2.2⟩ rfl (st := [(2, ((nxt d : Nat) : Int)), (2, ((nxt d : Nat) : Int)), (2, ((25 : Nat) : Int))]) rfl (show (1 + (1 + 0)) ≤ 8 by decide) ⟨by omega, by omega⟩
    (fun k hk => by
      unfold F_St_init at hk
      have hk := of_decide_eq_true hk
      refine ⟨decide_eq_true (by omega), fun z => ?_⟩
      rcases List.mem_append.mp z with z | z
      · have := List.mem_range.mp z; omega
      · have := List.mem_singleton.mp z; omega)
    (fun k hk => by
      unfold F_St_init
      simp only [List.mem_cons, List.not_mem_nil, or_false] at hk
      rw [decide_eq_true_eq]
      omega) List.mem_cons_self (fun x hx => absurd hx List.not_mem_nil) hmk (hgrow hlo)
    (fun v hv h2 => by
      simp only [List.mem_cons, List.not_mem_nil, or_false] at hv
      rcases hv with rfl | rfl
      · exact Or.inr (Or.inl (List.mem_append_right _ (List.mem_singleton.mpr (Int.toNat_natCast _))))
      · exact Or.inr (Or.inl (List.mem_append_left _ h25)))
    (fun v hv => by
      simp only [List.mem_cons, List.not_mem_nil, or_false] at hv
      rcases hv with rfl | rfl <;> (show 2 < 3; decide)) hd3 h4
  have h2 := q_dup (p := p) (l := l) (e := e) (R := R) (s := s) (m := m) (args := args) (below := below) (meth := meth) (c := c) (cells := cells + 1) (slots := slots + 10) (Q := Q) (nL := nL) (ad0 := ad) (wd := 0) (rest := [(2, ((25 : Nat) : Int))]) (lo := lo) (d := d0) (pc := pc + 3) (ks := List.range (nxt d) ++ [nxt d]) Cq9 hd2 h3
  have h1 := q_new (p := p) (l := l) (e := e) (R := R) (s := s) (m := m) (args := args) (below := below) (meth := meth) (c := c) (cells := cells) (slots := slots) (Q := Q) (nL := nL) (ad0 := ad) (wd := 0) (rest := [(2, ((25 : Nat) : Int))]) (lo := lo) (d := d0) (pc := pc) (ks := List.range (nxt d)) Cq9 cl9 (nxt d) c0 ⟨by decide, rfl⟩ (decide_eq_true ⟨Nat.le_refl _, by omega⟩) (fun z => by have := List.mem_range.mp z; omega) (hz 0 (by decide)) hlo hok25 h3' w1 w2 w3 (fun j hj => by
      have hzz : dzv 0 (nxt d) = fun j => if (3 ≤ ft 9 j) then -1 else 0 := by
        funext j
        unfold dzv isRf
        rw [c0]
        show (if (if (9 : Nat) < 20 then decide (3 ≤ ft 9 j) else decide (24 ≤ 9)) = true then (-1 : Int) else 0) = _
        rw [if_pos (show (9 : Nat) < 20 by decide)]
        simp only [decide_eq_true_eq]
      rw [hzz]
      revert j hj
      decide) ⟨by omega, by omega⟩ hd1 h2
  have h9 := h1 hnd hRI2 ad (fun _ _ => rfl) ls H locs hl (by rw [← hw]; exact hH.1) (by rw [← hw]; exact hH.2.1) hS
  exact h9
/-! contracts that make a TEXT -/
def QA (D : va_G) (cA : Nat → ClassId) (ad : Nat → Nat) (A : Nat → Prop) (rt : Option FieldType) (r : Option AV) (n0 : Nat) (d' : Dt) : State → Outcome → State → Prop := fun st oc t => ∃ ad' : Nat → Nat, (∀ k, k < n0 ∨ GH ≤ k → ad' k = ad k) ∧ oc = .returned (r.map (cv ad')) ∧ HP D cA ad' 0 A d' t.heap ∧ va_F A st t ∧ cnr rt r
def MA (l : Launch) (y : MethodName) (cc : ByteArray) (mL : Nat) (rt : Option FieldType) (rm : Room) (av : List AV) (d : Dt) (r : Option AV) (d' : Dt) : Prop :=
  ∀ (D : va_G) (cA : Nat → ClassId) (ad : Nat → Nat) (sz : Nat), Met l y [.code y cc mL rt] rm (va_Pc (av.map (cv ad)) (fun U => U.heap.size = sz ∧ WS D cA ad 0 (va_A (wld 0 cA ad d) sz) d U ∧ va_AO "PollBooks$Statute" U)) (fun _ => QA D cA ad (va_A (wld 0 cA ad d) sz) rt r (nOf 0 d) d') 7 710 (va_A (wld 0 cA ad d) sz)
theorem MA.of {y : MethodName} {cy : ByteArray} {mL : Nat} {rt : Option FieldType} {rm : Room} {av : List AV} {r : Option AV} {d' : Dt} (hy : plainName y.cls = true) (hav : (lo0 av).length ≤ mL)
    (body : ∀ (p : Program) (e : Env) (s : State) (m : MethodId) (args : Array Value) (below : List Frame) (meth : Method) (c : Code) (D : va_G) (cA : Nat → ClassId) (ad : Nat → Nat) (A : Nat → Prop), Cx p s m args c cy mL y.cls D cA ad 0 A → va_AO "PollBooks$Statute" s → meth.locks = false → meth.sig.returnType = rt →
      G p l e rm s m args below meth c 0 0 (MQ below (fun _ => QA D cA ad A rt r (nOf 0 d) d') args s 7 710 A) mL D cA ad 0 A 0 (lo0 av) [] d) : MA l y cy mL rt rm av d r d' := by
  intro D cA ad sz
  refine Met.ofW (cc := cy) (maxL := mL) (ret := rt) hy rfl ?_
  intro p e s m args below meth c s₁ B hml hv
  obtain ⟨rfl, hsz, ⟨hH, hK, hT, hX⟩, hO⟩ := hv
  subst hsz
  have C : Cx p s m (av.map (cv ad)).toArray c cy mL y.cls D cA ad 0 (va_A (wld 0 cA ad d) s.heap.size) := ⟨B.exec, B.bytes, hml, findClass_of_methodNamed B.named, hT, hK, fun q h => Or.inr h, hX⟩
  have hG := body p e s m _ below meth c D cA ad _ C hO B.notSynchronized B.returns
  rw [lg_entry_eq]
  have hl := lv_entry (av.map (cv ad)) (n := mL) (by rw [lo0_len]; exact hav)
  refine hG _ s.heap [] ⟨hl.1, hl.2.1, fun i v h1 h2 => ?_⟩ hH va_S.rf
  have h3 := lo0_args (ad := ad) av 0 i v h1 h2
  rw [Nat.zero_add] at h3
  exact hl.2.2 (i, cv ad v) h3
theorem a_iret {ad1 : Nat → Nat} {n0 : Nat} (C : Cx p s m args c cc nL own D cA ad1 0 A) {x : Int} (hx : c32 x) (hag : ∀ k, k < n0 ∨ GH ≤ k → ad1 k = ad k) (hcs : cells ≤ 7 ∧ slots ≤ 710) (hlk : meth.locks = false) (hr : meth.sig.returnType = some .int) (hd : decode cc pc = .ok (.ireturn, 1)) : G p l e R s m args below meth c cells slots (MQ below (fun _ => QA D cA ad A (some .int) (some (0, x)) n0 d) args s 7 710 A) nL D cA ad1 0 A pc lo [(0, x)] d :=
  fun ls H locs hl hH hS => W.widen hcs.1 hcs.2 (W.iret (v := Int32.ofInt x) C.1 C.2.1 hr (fun t ht hW => ⟨ad1, hag, rfl, by rw [ht]; exact hH, hS.F ht, hx⟩) hS.2.2 hd hlk)
theorem a_aret {ad1 : Nat → Nat} {n0 : Nat} (C : Cx p s m args c cc nL own D cA ad1 0 A) {x : Int} {ty : FieldType} (hty : (∃ n, ty = .object n) ∨ ∃ t, ty = .array t) (hag : ∀ k, k < n0 ∨ GH ≤ k → ad1 k = ad k) (hcs : cells ≤ 7 ∧ slots ≤ 710) (hlk : meth.locks = false) (hr : meth.sig.returnType = some ty) (hd : decode cc pc = .ok (.areturn, 1)) : G p l e R s m args below meth c cells slots (MQ below (fun _ => QA D cA ad A (some ty) (some (2, x)) n0 d) args s 7 710 A) nL D cA ad1 0 A pc lo [(2, x)] d :=
  fun ls H locs hl hH hS => W.widen hcs.1 hcs.2 (W.aret (v := va_rf (orf ad1 x)) C.1 C.2.1 hr hty (va_rf_or _) (fun t ht hW => ⟨ad1, hag, rfl, by rw [ht]; exact hH, hS.F ht, (by rcases hty with ⟨n, rfl⟩ | ⟨t, rfl⟩ <;> trivial)⟩) hS.2.2 hd hlk)
theorem blindA {av : List AV} {sz : Nat} : FrameBlind (va_Pc (av.map (cv ad)) (fun U => U.heap.size = sz ∧ WS D cA ad 0 (va_A (wld 0 cA ad d) sz) d U ∧ va_AO "PollBooks$Statute" U)) := by
  intro a U g mk h
  obtain ⟨h0, h1, ⟨h2, h3, h4, h5⟩, h6⟩ := h
  exact ⟨h0, h1, ⟨h2, va_K.moved (u := U) (U := U.calling g mk a) (Vm.Alike.refl U.vm) h3, TB.same (u := U) (U := U.calling g mk a) rfl h4, EX.same (u := U) (U := U.calling g mk a) rfl h5⟩, va_AO.moved (u := U) (U := U.calling g mk a) (Vm.Alike.refl U.vm) h6⟩
/-- a call of take -/
theorem a_callV (C : Cx p s m args c cc nL own D cA ad 0 A) (hAO : va_AO "PollBooks$Statute" s) {y : MethodName} {cy : ByteArray} {mL : Nat} {rt : Option FieldType} {rm : Room} {n : Nat} (W : MW y cy mL rt n) (As : List AV) {x : Int} (k : Nat) {ci n9 : Nat} {Cn : String} {T : u_T} {N : Nat} {ty : Nat → FieldType} (K : ClsOk ci Cn T N ty) {r : Option AV} {d' : Dt} (hk : x = (k : Int)) (hM : MA l y cy mL rt rm ((2, x) :: As) d r d') (hcd : cd 0 k = (ci, n9)) (hci : ci < 20) (hn : k < nOf 0 d) {ix : Nat}
    (hlk : Cond.methodLink own ix y ∈ lw_ok) (hin : Cond.instanceMethod y ∈ lw_ok) (hse : Cond.selects Cn y y ∈ lw_ok) (hR : rm.cells = 7 ∧ rm.slots = 710 ∧ rm.frames + 1 ≤ R.frames ∧ 8 + (mL + 11) + rm.locals ≤ R.locals) (hA : As.length = n) {st : List AV} (hst : st = As.reverse ++ (2, x) :: rest) (hw : (rest.map (fun v => if v.1 = 1 then 2 else 1)).sum ≤ 8) (hcs : cells + 7 ≤ R.cells ∧ slots + 710 ≤ R.slots) (hd : decode cc pc = .ok (.invokevirtual ix, 3))
    (kk : CN 0 d' → cnr rt r → ∀ ad1 : Nat → Nat, (∀ k, k < nOf 0 d ∨ GH ≤ k → ad1 k = ad k) → G p l e R s m args below meth c (cells + 7) (slots + 710) Q nL D cA ad1 0 A (pc + 3) lo (r.toList ++ rest) d') (hlo : ∀ ad1 : Nat → Nat, (∀ k, k < nOf 0 d ∨ GH ≤ k → ad1 k = ad k) → (∀ v ∈ lo, v.1 < 3 → cv ad1 v = cv ad v) ∧ rest.map (cv ad1) = rest.map (cv ad)) : G p l e R s m args below meth c cells slots Q nL D cA ad 0 A pc lo st d := by
  intro ls H locs hl hH hS
  subst hst
  subst hk
  have hat := wld_at (cA := cA) (ad := ad) hn
  rw [ent_obj hcd hci] at hat
  have hts := C.2.2.2.2.1.at (args := args)
  have hpre : ∀ U : State, U.heap = H → s.WarmedH U.vm → U.heap.size = H.size ∧ WS D cA ad 0 (va_A (wld 0 cA ad d) H.size) d U ∧ va_AO "PollBooks$Statute" U := fun U hU hW => ⟨(pre_of C hH hS hU hW).1, (pre_of C hH hS hU hW).2, va_AO.moved hW.alike hAO⟩
  have hr := va_runV (p := p) (l := l) (e := e) (R := R) (s := s) (m := m) (args := args) (below := below) (meth := meth) (c := c) (H := H) (locs := locs) (cells := cells) (slots := slots) (Ts := lw_ok) (C := Cn) (b := ad k) (As := As.map (cv ad)) (rest := rest.map (cv ad)) (g := F0 m pc ls ((As.reverse ++ (2, (k : Int)) :: rest).map (cv ad))) (bytes := cy) (maxL := mL) (ret := rt) (n := n) ⟨C.1, C.2.1, C.2.2.1, C.2.2.2.1, hts⟩ (hM D cA ad H.size) ⟨callB_of n hts (goodIn_1 W.1 rfl) rfl hR.1 hR.2.1 (hts _ W.2.1) (hts _ hlk) W.2.2 hR.2.2, hts _ hin, hts _ hse⟩ ⟨blindA, va_recv C.2.2.2.2.2.1 hH.1 K.2.2.2 hat, fun U hU hW => ⟨by rw [List.map_cons, cv_r], hpre U hU hW⟩⟩ rfl (by rw [List.length_map]; exact hA) hl.1 (by
    show (As.reverse ++ (2, (k : Int)) :: rest).map (cv ad) = _
    rw [List.map_append, List.map_cons, cv_r, List.map_reverse]) (by show 2 * 0 + _ ≤ 8; rw [Nat.mul_zero, Nat.zero_add]; exact cat_le hw) hd hcs
  intro T hT X
  obtain ⟨v, st₀, t, T', L, h0, X', hL, e1, e2, ⟨ad1, hag, hv, hHt, ⟨hz, hk⟩, hcn⟩, hst⟩ := hr T hT X
  have hF := free_in hH.2.1 hS C.2.2.2.2.2.2.1
  have hv2 : v = r.map (cv ad1) := by cases hv; rfl
  subst hv2
  rw [h0] at hz hk
  have hH' : HP D cA ad1 0 A d' T'.heap := ⟨by rw [e1]; exact hHt.1, hHt.2.1.weaken (fun _ _ _ h => hF _ h), hHt.2.2⟩
  have hS' : va_S A s.heap T'.heap (locs ++ L) := ⟨Nat.le_trans hS.1 (by rw [e1]; exact hz), fun q h1 h2 => by rw [e1, hk q (Nat.lt_of_lt_of_le h1 hS.1) (fun z => h2 (hF q z))]; exact hS.2.1 q h1 h2, fun q hq => by
      rcases List.mem_append.mp hq with h | h
      · exact hS.2.2 q h
      · exact hF _ (hL q h)⟩
  have hlo1 := hlo ad1 hag
  obtain ⟨t2, a1, b1⟩ := kk hHt.2.2 hcn ad1 hag ls T'.heap (locs ++ L) ⟨hl.1, hl.2.1, fun i v h1 h2 => by rw [hlo1.1 v (List.mem_of_getElem? h1) h2]; exact hl.2.2 i v h1 h2⟩ hH' hS' T' rfl X'
  refine ⟨t2, hst t2 ?_, b1⟩
  have e3 : (r.map (cv ad1)).toList ++ rest.map (cv ad) = (r.toList ++ rest).map (cv ad1) := by rw [List.map_append, hlo1.2]; cases r <;> rfl
  show Steps p.tables e below (T'.setTop { F0 m pc ls ((As.reverse ++ (2, (k : Int)) :: rest).map (cv ad)) with pc := (F0 m pc ls ((As.reverse ++ (2, (k : Int)) :: rest).map (cv ad))).pc + 3, stack := (r.map (cv ad1)).toList ++ rest.map (cv ad) }) t2
  rw [e3]
  exact a1
end TAKE
