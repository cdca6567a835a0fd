/-! cells that are made: the world of some cells ks, references as data -/
def fq (ad : Nat → Nat) (c : Nat) (f : Nat → Int) (j : Nat) : Value := match ft c j with
  | 0 => .int (Int32.ofInt (f j))
  | 1 => .long (Int64.ofInt (f j))
  | 2 => .int (Int32.ofInt (f j))
  | _ => va_rf (orf ad (f j))
def entQ (cA : Nat → ClassId) (ad : Nat → Nat) (wd k : Nat) (f : Nat → Int) : va_E :=
  if (cd wd k).1 < 20 then .inr ((cd wd k).1, (List.range (nf (cd wd k).1)).map (fq ad (cd wd k).1 f)) else .inl (entA cA ad (cd wd k).1 (cd wd k).2 f)
theorem nd_inj {α : Type} : ∀ {l : List α} {i j : Nat} {a : α}, l.Nodup → l[i]? = some a → l[j]? = some a → i = j
  | [], i, j, a, _, h, _ => by simp at h
  | x :: l, 0, 0, a, _, _, _ => rfl
  | x :: l, 0, j + 1, a, hn, h, h' => by
    cases h
    exact absurd (List.mem_of_getElem? (show l[j]? = some x from h')) (List.nodup_cons.mp hn).1
  | x :: l, i + 1, 0, a, hn, h, h' => by
    cases h'
    exact absurd (List.mem_of_getElem? (show l[i]? = some x from h)) (List.nodup_cons.mp hn).1
  | x :: l, i + 1, j + 1, a, hn, h, h' => congrArg (· + 1) (nd_inj (List.nodup_cons.mp hn).2 (show l[i]? = some a from h) (show l[j]? = some a from h'))
def wq (wd : Nat) (ks : List Nat) (cA : Nat → ClassId) (ad : Nat → Nat) (d : Dt) : va_W := ks.map (fun k => (ad k, entQ cA ad wd k (d k)))
/-- a place of a cell that holds a reference -/
def isRf (wd k j : Nat) : Bool := if (cd wd k).1 < 20 then 3 ≤ ft (cd wd k).1 j else 24 ≤ (cd wd k).1
/-- a cell's data when it is made -/
def dzv (wd k j : Nat) : Int := if isRf wd k j = true then -1 else 0
theorem isRf_a {wd k j t n : Nat} (h : cd wd k = (t, n)) (ht : 20 ≤ t ∧ t < 24) : ¬ isRf wd k j = true := by
  unfold isRf
  rw [h]
  show ¬ (if t < 20 then decide (3 ≤ ft t j) else decide (24 ≤ t)) = true
  rw [if_neg (by omega), decide_eq_true_eq]; omega
theorem dzv_a {wd k j t n : Nat} (h : cd wd k = (t, n)) (ht : 20 ≤ t ∧ t < 24) : dzv wd k j = 0 := by
  unfold dzv isRf
  rw [h]
  rw [if_neg (by show ¬ (if t < 20 then decide (3 ≤ ft t j) else decide (24 ≤ t)) = true; rw [if_neg (by omega), decide_eq_true_eq]; omega)]
theorem dzv_s {wd k j n : Nat} (h : cd wd k = (24, n)) : dzv wd k j = -1 := by
  unfold dzv isRf
  rw [h]; rfl
def oklb (E ks : List Nat) (lo : List AV) : Bool := lo.all (fun v => v.1 != 2 || (decide (v.2 < 0) || ks.contains v.2.toNat || E.contains v.2.toNat))
def okr (E ks : List Nat) (x : Int) : Prop := x < 0 ∨ (x.toNat ∈ ks ∨ x.toNat ∈ E)
def RI (wd : Nat) (E ks : List Nat) (d : Dt) : Prop := ∀ k ∈ ks, ∀ j, isRf wd k j = true → okr E ks (d k j)
def okl (E ks : List Nat) (lo : List AV) : Prop := ∀ v ∈ lo, v.1 = 2 → okr E ks v.2
theorem okl_of {E ks : List Nat} {lo : List AV} (h : oklb E ks lo = true) : okl E ks lo := by
  intro v hv h2
  have h1 := List.all_eq_true.mp h v hv
  simp only [h2, bne_self_eq_false, Bool.false_or, Bool.or_eq_true, decide_eq_true_eq, List.contains_iff_mem] at h1
  rcases h1 with (h1 | h1) | h1
  · exact Or.inl h1
  · exact Or.inr (Or.inl h1)
  · exact Or.inr (Or.inr h1)
theorem okr_grow {E ks : List Nat} {x : Int} (k : Nat) (h : okr E ks x) : okr E (ks ++ [k]) x := by
  rcases h with h | h | h
  · exact Or.inl h
  · exact Or.inr (Or.inl (List.mem_append_left _ h))
  · exact Or.inr (Or.inr h)
theorem orf_eq {E ks : List Nat} {x : Int} {ad ad' : Nat → Nat} {k : Nat} (hF : k ∉ E) (hk : k ∉ ks) (ha : ∀ q, q ≠ k → ad' q = ad q) (h : okr E ks x) : orf ad' x = orf ad x := by
  unfold orf
  by_cases hx : x < 0
  · rw [if_pos hx, if_pos hx]
  · rw [if_neg hx, if_neg hx]
    rcases h with h | h | h
    · exact absurd h hx
    · rw [ha _ (fun e => hk (e ▸ h))]
    · rw [ha _ (fun e => hF (e ▸ h))]
theorem cv_eqq {E ks : List Nat} {v : AV} {ad ad' : Nat → Nat} {k : Nat} (hF : k ∉ E) (hk : k ∉ ks) (ha : ∀ q, q ≠ k → ad' q = ad q) (h : v.1 = 2 → okr E ks v.2) (hv : v.1 < 3) : cv ad' v = cv ad v := by
  obtain ⟨t, x⟩ := v
  match t, h, hv with
  | 0, _, _ => rfl
  | 1, _, _ => rfl
  | 2, h, _ => show va_rf (orf ad' x) = va_rf (orf ad x); rw [orf_eq hF hk ha (h rfl)]
  | t + 3, _, hv => exact absurd hv (by show ¬ t + 3 < 3; omega)
theorem cd_kind {wd q : Nat} (hc : ¬ (cd wd q).1 < 20) (n0 : (cd wd q).1 ≠ 20) (n1 : (cd wd q).1 ≠ 21) (n2 : (cd wd q).1 ≠ 22) (n3 : (cd wd q).1 ≠ 23) : (cd wd q).1 = 24 ∨ (cd wd q).1 = 99 := by
  have hA0 : ∀ x ∈ cdA0, x.1 < 25 := by decide
  have hA1 : ∀ x ∈ cdA1, x.1 < 25 := by decide
  have hB0 : ∀ x ∈ cdB0, x.1 < 25 := by decide
  have hg : ∀ (L : List (Nat × Nat)) (i : Nat), (∀ x ∈ L, x.1 < 25) → (L.getD i (99, 0)).1 < 25 ∨ (L.getD i (99, 0)).1 = 99 := by
    intro L i hL
    rw [List.getD_eq_getElem?_getD]
    cases h : L[i]? with
    | none => exact Or.inr rfl
    | some x => exact Or.inl (hL x (List.mem_of_getElem? h))
  have h1 : (cd wd q).1 < 25 ∨ (cd wd q).1 = 99 := by
    unfold cd
    split
    · split
      · exact hg _ _ hA0
      · exact hg _ _ hA1
    · split
      · exact hg _ _ hB0
      · split
        · exact Or.inl (show 20 < 25 by decide)
        · exact Or.inr rfl
  omega
theorem entQ_eq {wd : Nat} {cA : Nat → ClassId} {E ks : List Nat} {f : Nat → Int} {ad ad' : Nat → Nat} {k q : Nat} (hF : k ∉ E) (hk : k ∉ ks) (ha : ∀ q, q ≠ k → ad' q = ad q) (h : ∀ j, isRf wd q j = true → okr E ks (f j)) : entQ cA ad' wd q f = entQ cA ad wd q f := by
  unfold entQ
  by_cases hc : (cd wd q).1 < 20
  · rw [if_pos hc, if_pos hc]
    congr 2
    apply List.map_congr_left
    intro j _
    have h1 := h j
    unfold isRf at h1
    rw [if_pos hc] at h1
    unfold fq
    split <;> first | rfl | skip
    rename_i n0 n1 n2
    rw [orf_eq hF hk ha (h1 (by
      have : ft (cd wd q).1 j ≠ 0 := n0
      have : ft (cd wd q).1 j ≠ 1 := n1
      have : ft (cd wd q).1 j ≠ 2 := n2
      exact decide_eq_true (by omega)))]
  · rw [if_neg hc, if_neg hc]
    congr 1
    unfold entA
    split <;> first | rfl | skip
    rename_i n0 n1 n2 n3
    have h4 : 24 ≤ (cd wd q).1 := by rcases cd_kind hc n0 n1 n2 n3 with h | h <;> omega
    have h1 : (fun j => orf ad' (f j)) = fun j => orf ad (f j) := funext (fun j => orf_eq hF hk ha (h j (by unfold isRf; rw [if_neg hc]; exact decide_eq_true h4)))
    rw [h1]
theorem wq_eq {wd : Nat} {cA : Nat → ClassId} {E ks : List Nat} {d : Dt} {ad ad' : Nat → Nat} {k : Nat} (hF : k ∉ E) (hk : k ∉ ks) (ha : ∀ q, q ≠ k → ad' q = ad q) (h : RI wd E ks d) : wq wd ks cA ad' d = wq wd ks cA ad d := by
  unfold wq
  apply List.map_congr_left
  intro q hq
  rw [ha q (fun e => hk (e ▸ hq)), entQ_eq hF hk ha (h q hq)]
theorem wq_at {wd : Nat} {cA : Nat → ClassId} {ks : List Nat} {d : Dt} {ad : Nat → Nat} {i k : Nat} (h : ks[i]? = some k) : (wq wd ks cA ad d)[i]? = some (ad k, entQ cA ad wd k (d k)) := by
  unfold wq; rw [List.getElem?_map, h]; rfl
theorem entQ_obj {wd : Nat} {cA : Nat → ClassId} {ad : Nat → Nat} {k ci n : Nat} {f : Nat → Int} (h : cd wd k = (ci, n)) (hc : ci < 20) : entQ cA ad wd k f = .inr (ci, (List.range (nf ci)).map (fq ad ci f)) := by
  unfold entQ; rw [h]; exact if_pos hc
theorem entQ_arr {wd : Nat} {cA : Nat → ClassId} {ad : Nat → Nat} {k t n : Nat} {f : Nat → Int} (h : cd wd k = (t, n)) (hc : ¬ t < 20) : entQ cA ad wd k f = .inl (entA cA ad t n f) := by
  unfold entQ; rw [h]; exact if_neg hc
/-- a cell that stands once is set -/
theorem wq_set {wd : Nat} {cA : Nat → ClassId} {ks : List Nat} {d d' : Dt} {ad : Nat → Nat} {i k : Nat} (hi : ks[i]? = some k) (hn : ks.Nodup) (ho : ∀ q, q ≠ k → d' q = d q) : (wq wd ks cA ad d).set i (ad k, entQ cA ad wd k (d' k)) = wq wd ks cA ad d' := by
  apply List.ext_getElem?
  intro j
  rw [List.getElem?_set]
  unfold wq
  simp only [List.length_map, List.getElem?_map]
  have hl : i < ks.length := (List.getElem?_eq_some_iff.mp hi).1
  by_cases hj : i = j
  · subst hj
    rw [if_pos rfl, if_pos hl, hi]; rfl
  · rw [if_neg hj]
    cases hq : ks[j]? with
    | none => rfl
    | some q =>
      show some (ad q, entQ cA ad wd q (d q)) = some (ad q, entQ cA ad wd q (d' q))
      rw [ho q (fun e => hj ?_)]
      subst e
      exact nd_inj hn hi hq
section MAKE
variable {p : Program} {l : Launch} {e : Env} {R : Room} {s : State} {m : MethodId} {args : Array Value} {below : List Frame} {meth : Method} {c : Code} {cells slots : Nat} {Q : State → Prop} {cc : ByteArray} {nL : Nat} {own : String} {D : va_G} {cA : Nat → ClassId} {ad0 : Nat → Nat} {wd : Nat} {A : Nat → Prop} {F : Nat → Bool} {E : List Nat}
variable {pc : Nat} {lo rest : List AV} {d : Dt} {ks : List Nat}
def Cq (p : Program) (s : State) (m : MethodId) (args : Array Value) (meth : Method) (c : Code) (cc : ByteArray) (nL : Nat) (own : String) (D : va_G) (cA : Nat → ClassId) (F : Nat → Bool) (E : List Nat) (A : Nat → Prop) : Prop :=
  p.tables.exec = Jvm.exec ∧ c.code = cc ∧ c.maxLocals = nL ∧ s.vm.findClass own = some m.cls ∧ TB s ∧ va_K D classes (tysOf cA) s ∧ (∀ q, s.heap.size ≤ q → A q) ∧ True ∧ va_AO "PollBooks$Statute" s ∧ ∀ x ∈ E, F x = false
def Gq (p : Program) (l : Launch) (e : Env) (R : Room) (s : State) (m : MethodId) (args : Array Value) (below : List Frame) (meth : Method) (c : Code) (cells slots : Nat) (Q : State → Prop) (nL : Nat) (D : va_G) (cA : Nat → ClassId) (ad0 : Nat → Nat) (wd : Nat) (F : Nat → Bool) (E : List Nat) (A : Nat → Prop) (ks : List Nat) (pc : Nat) (lo st : List AV) (d : Dt) : Prop :=
  ks.Nodup → RI wd E ks d → ∀ (ad : Nat → Nat), (∀ k, F k = false → ad k = ad0 k) → ∀ (ls : Array Slot) (H : Heap) (locs : List Loc), LR ad ls nL lo → va_P D classes (wq wd ks cA ad d) H → va_D A (wq wd ks cA ad d) → va_S A s.heap H locs → W p l e R s m args below meth c H locs cells slots Q (F0 m pc ls (st.map (cv ad)))
theorem q_iconst (C : Cq p s m args meth c cc nL own D cA F E A) (n : Int) (hd : decode cc pc = .ok (.iconst n, 1)) (k : Gq p l e R s m args below meth c cells slots Q nL D cA ad0 wd F E A ks (pc + 1) lo ((0, n) :: rest) d) : Gq p l e R s m args below meth c cells slots Q nL D cA ad0 wd F E A ks pc lo rest d :=
  fun hn hR ad ha ls H locs hl hP hD hS => lv_iconst C.1 C.2.1 hd rfl (k hn hR ad ha ls H locs hl hP hD hS)
theorem q_bipush (C : Cq p s m args meth c cc nL own D cA F E A) (n : Int) (hn : (Int8.ofInt n).toInt32 = Int32.ofInt n) (hd : decode cc pc = .ok (.bipush n, 2)) (k : Gq p l e R s m args below meth c cells slots Q nL D cA ad0 wd F E A ks (pc + 2) lo ((0, n) :: rest) d) : Gq p l e R s m args below meth c cells slots Q nL D cA ad0 wd F E A ks pc lo rest d :=
  fun hn1 hR ad ha ls H locs hl hP hD hS => lv_bipush C.1 C.2.1 hd hn (k hn1 hR ad ha ls H locs hl hP hD hS)
theorem q_sipush (C : Cq p s m args meth c cc nL own D cA F E A) (n : Int) (hn : (Int16.ofInt n).toInt32 = Int32.ofInt n) (hd : decode cc pc = .ok (.sipush n, 3)) (k : Gq p l e R s m args below meth c cells slots Q nL D cA ad0 wd F E A ks (pc + 3) lo ((0, n) :: rest) d) : Gq p l e R s m args below meth c cells slots Q nL D cA ad0 wd F E A ks pc lo rest d :=
  fun hn1 hR ad ha ls H locs hl hP hD hS => lv_sipush C.1 C.2.1 hd hn (k hn1 hR ad ha ls H locs hl hP hD hS)
theorem q_aload_n (C : Cq p s m args meth c cc nL own D cA F E A) (i : Fin 4) {x : Nat} (h : lo[(i : Nat)]? = some (2, (x : Int))) (hd : decode cc pc = .ok (.aload_n i, 1)) (k : Gq p l e R s m args below meth c cells slots Q nL D cA ad0 wd F E A ks (pc + 1) lo ((2, (x : Int)) :: rest) d) : Gq p l e R s m args below meth c cells slots Q nL D cA ad0 wd F E A ks pc lo rest d := by
  intro hn hR ad ha ls H locs hl hP hD hS
  have h1 := hl.2.2 _ _ h (by decide : (2 : Nat) < 3)
  rw [cv_r] at h1
  have h2 : W p l e R s m args below meth c H locs cells slots Q (F0 m (pc + 1) ls (cv ad (2, (x : Int)) :: rest.map (cv ad))) := k hn hR ad ha ls H locs hl hP hD hS
  rw [cv_r] at h2
  exact lv_aload_n C.1 C.2.1 hd rfl h1 h2
theorem q_dup (C : Cq p s m args meth c cc nL own D cA F E A) {x : Int} (hd : decode cc pc = .ok (.dup, 1)) (k : Gq p l e R s m args below meth c cells slots Q nL D cA ad0 wd F E A ks (pc + 1) lo ((2, x) :: (2, x) :: rest) d) : Gq p l e R s m args below meth c cells slots Q nL D cA ad0 wd F E A ks pc lo ((2, x) :: rest) d :=
  fun hn hR ad ha ls H locs hl hP hD hS => lv_dup C.1 C.2.1 hd (cv_cat ad (2, x) tg2) (k hn hR ad ha ls H locs hl hP hD hS)
theorem lr_grow {ad ad' : Nat → Nat} {ls : Array Slot} {k : Nat} (hF : k ∉ E) (hk : k ∉ ks) (ha : ∀ q, q ≠ k → ad' q = ad q) (ho : okl E ks lo) (h : LR ad ls nL lo) : LR ad' ls nL lo :=
  ⟨h.1, h.2.1, fun i v h1 h2 => by rw [cv_eqq hF hk ha (ho v (List.mem_of_getElem? h1)) h2]; exact h.2.2 i v h1 h2⟩
theorem st_grow {ad ad' : Nat → Nat} {k : Nat} (hF : k ∉ E) (hk : k ∉ ks) (ha : ∀ q, q ≠ k → ad' q = ad q) : ∀ {st : List AV}, (∀ v ∈ st, v.1 < 3) → okl E ks st → st.map (cv ad') = st.map (cv ad)
  | [], _, _ => rfl
  | v :: st, h3, h => by
    rw [List.map_cons, List.map_cons, cv_eqq hF hk ha (h v List.mem_cons_self) (h3 v List.mem_cons_self), st_grow hF hk ha (fun w hw => h3 w (List.mem_cons_of_mem _ hw)) (fun w hw => h w (List.mem_cons_of_mem _ hw))]
/-- a new cell at the end -/
theorem grow {ad : Nat → Nat} {k q : Nat} {H : Heap} {en : va_E} (hF : k ∉ E) (hk : k ∉ ks) (hR : RI wd E ks d) (hRk : ∀ j, isRf wd k j = true → d k j < 0) (he : ∀ ad' : Nat → Nat, entQ cA ad' wd k (d k) = en) (hP : va_P D classes (wq wd ks cA ad d ++ [(q, en)]) H) (hD : va_D A (wq wd ks cA ad d ++ [(q, en)])) :
    RI wd E (ks ++ [k]) d ∧ (let ad' := fun z => if z = k then q else ad z; va_P D classes (wq wd (ks ++ [k]) cA ad' d) H ∧ va_D A (wq wd (ks ++ [k]) cA ad' d)) := by
  have ha : ∀ z, z ≠ k → (fun z => if z = k then q else ad z) z = ad z := fun z hz => if_neg hz
  have e1 : wq wd (ks ++ [k]) cA (fun z => if z = k then q else ad z) d = wq wd ks cA ad d ++ [(q, en)] := by
    have e2 := wq_eq (cA := cA) (ad := ad) (ad' := fun z => if z = k then q else ad z) hF hk ha hR
    unfold wq at e2 ⊢
    rw [List.map_append, e2]
    congr 1
    show [((if k = k then q else ad k), entQ cA _ wd k (d k))] = _
    rw [if_pos rfl, he]
  refine ⟨fun z hz j hj => ?_, ?_⟩
  · rcases List.mem_append.mp hz with h | h
    · exact okr_grow k (hR z h j hj)
    · rw [List.mem_singleton.mp h] at hj ⊢
      exact Or.inl (hRk j hj)
  · dsimp only
    rw [e1]
    exact ⟨hP, hD⟩
theorem ag_grow {ad : Nat → Nat} {k q : Nat} (hF : F k = true) (ha : ∀ z, F z = false → ad z = ad0 z) : ∀ z, F z = false → (fun z => if z = k then q else ad z) z = ad0 z := by
  intro z hz
  show (if z = k then q else ad z) = ad0 z
  rw [if_neg (fun e => by rw [e, hF] at hz; cases hz)]
  exact ha z hz
theorem nd_grow {k : Nat} (hn : ks.Nodup) (hk : k ∉ ks) : (ks ++ [k]).Nodup := by
  rw [List.nodup_append]
  refine ⟨hn, List.nodup_cons.mpr ⟨List.not_mem_nil, List.nodup_nil⟩, fun a ha b hb e => ?_⟩
  rw [List.mem_singleton.mp hb] at e
  exact hk (e ▸ ha)
theorem q_newaI (C : Cq p s m args meth c cc nL own D cA F E A) (k : Nat) {N : Nat} {n : Int} (hcd : cd wd k = (20, N)) (hF : F k = true) (hk : k ∉ ks) (hz : ∀ j, d k j = dzv wd k j) (ho : okl E ks lo) (hor : okl E ks rest) (h3 : ∀ v ∈ rest, v.1 < 3) (hnn : n = (N : Int)) (hc : c32 n) (hw : Cond.arrayClass .int ∈ lw_ok) (hb : N * 4 ≤ 536870912) (hr : cells + 1 ≤ R.cells ∧ slots + N ≤ R.slots) (hd : decode cc pc = .ok (.newarray .int, 2)) (kk : Gq p l e R s m args below meth c (cells + 1) (slots + N) Q nL D cA ad0 wd F E A (ks ++ [k]) (pc + 2) lo ((2, (k : Int)) :: rest) d) : Gq p l e R s m args below meth c cells slots Q nL D cA ad0 wd F E A ks pc lo ((0, n) :: rest) d := by
  intro hn hR ad ha ls H locs hl hP hD hS
  have hts := C.2.2.2.2.1.at (args := args)
  have hFE : k ∉ E := fun z => by rw [C.2.2.2.2.2.2.2.2.2 k z] at hF; cases hF
  have hn0 : 0 ≤ n := by omega
  refine va_newa (atype := .int) C.1 C.2.1 (hts _ hw) rfl C.2.2.2.2.2.1 hP hD hS C.2.2.2.2.2.2.1 (N' := N) (a0 := (N, .inl (fun _ => 0))) (fun _ => rfl) (i_nn hc hn0) (by rw [i_cl hc]; omega) hb hr.1 hr.2 hd (fun q cA' H1 hK1 hP1 hD1 hS1 => ?_)
  have e0 : cA' = cA 0 := by
    have h1 := (C.2.2.2.2.2.1.2 0 _ rfl).2
    have h2 := (hK1.2 5 _ rfl).2
    exact Option.some.inj (h2.symm.trans h1)
  subst e0
  have he : ∀ ad' : Nat → Nat, entQ cA ad' wd k (d k) = .inl (cA 0, N, .inl (fun _ => 0)) := by
    intro ad'
    have hf : (fun j => Int32.ofInt (d k j)) = fun _ => 0 := funext (fun j => by rw [hz j, dzv_a hcd (by decide)]; rfl)
    rw [entQ_arr hcd (by decide)]
    show Sum.inl (cA 0, N, Sum.inl (fun j => Int32.ofInt (d k j))) = _
    rw [hf]
  obtain ⟨hR', hP', hD'⟩ := grow (q := q) hFE hk hR (fun j hj => absurd hj (isRf_a hcd (by decide))) he hP1 hD1
  have h9 := kk (nd_grow hn hk) hR' _ (ag_grow hF ha) ls H1 locs (lr_grow hFE hk (fun z hz => if_neg hz) ho hl) hP' hD' hS1
  rw [List.map_cons, cv_r, st_grow hFE hk (fun z hz => if_neg hz) h3 hor, if_pos rfl] at h9
  exact h9
theorem q_newaJ (C : Cq p s m args meth c cc nL own D cA F E A) (k : Nat) {N : Nat} {n : Int} (hcd : cd wd k = (21, N)) (hF : F k = true) (hk : k ∉ ks) (hz : ∀ j, d k j = dzv wd k j) (ho : okl E ks lo) (hor : okl E ks rest) (h3 : ∀ v ∈ rest, v.1 < 3) (hnn : n = (N : Int)) (hc : c32 n) (hw : Cond.arrayClass .long ∈ lw_ok) (hb : N * 8 ≤ 536870912) (hr : cells + 1 ≤ R.cells ∧ slots + N ≤ R.slots) (hd : decode cc pc = .ok (.newarray .long, 2)) (kk : Gq p l e R s m args below meth c (cells + 1) (slots + N) Q nL D cA ad0 wd F E A (ks ++ [k]) (pc + 2) lo ((2, (k : Int)) :: rest) d) : Gq p l e R s m args below meth c cells slots Q nL D cA ad0 wd F E A ks pc lo ((0, n) :: rest) d := by
  intro hn hR ad ha ls H locs hl hP hD hS
  have hts := C.2.2.2.2.1.at (args := args)
  have hFE : k ∉ E := fun z => by rw [C.2.2.2.2.2.2.2.2.2 k z] at hF; cases hF
  have hn0 : 0 ≤ n := by omega
  refine va_newa (atype := .long) C.1 C.2.1 (hts _ hw) rfl C.2.2.2.2.2.1 hP hD hS C.2.2.2.2.2.2.1 (N' := N) (a0 := (N, .inr (.inl (fun _ => 0)))) (fun _ => rfl) (i_nn hc hn0) (by rw [i_cl hc]; omega) hb hr.1 hr.2 hd (fun q cA' H1 hK1 hP1 hD1 hS1 => ?_)
  have e0 : cA' = cA 1 := by
    have h1 := (C.2.2.2.2.2.1.2 1 _ rfl).2
    have h2 := (hK1.2 5 _ rfl).2
    exact Option.some.inj (h2.symm.trans h1)
  subst e0
  have he : ∀ ad' : Nat → Nat, entQ cA ad' wd k (d k) = .inl (cA 1, N, .inr (.inl (fun _ => 0))) := by
    intro ad'
    have hf : (fun j => Int64.ofInt (d k j)) = fun _ => 0 := funext (fun j => by rw [hz j, dzv_a hcd (by decide)]; rfl)
    rw [entQ_arr hcd (by decide)]
    show Sum.inl (cA 1, N, Sum.inr (Sum.inl (fun j => Int64.ofInt (d k j)))) = _
    rw [hf]
  obtain ⟨hR', hP', hD'⟩ := grow (q := q) hFE hk hR (fun j hj => absurd hj (isRf_a hcd (by decide))) he hP1 hD1
  have h9 := kk (nd_grow hn hk) hR' _ (ag_grow hF ha) ls H1 locs (lr_grow hFE hk (fun z hz => if_neg hz) ho hl) hP' hD' hS1
  rw [List.map_cons, cv_r, st_grow hFE hk (fun z hz => if_neg hz) h3 hor, if_pos rfl] at h9
  exact h9
theorem q_newaB (C : Cq p s m args meth c cc nL own D cA F E A) (k : Nat) {N : Nat} {n : Int} (hcd : cd wd k = (22, N)) (hF : F k = true) (hk : k ∉ ks) (hz : ∀ j, d k j = dzv wd k j) (ho : okl E ks lo) (hor : okl E ks rest) (h3 : ∀ v ∈ rest, v.1 < 3) (hnn : n = (N : Int)) (hc : c32 n) (hw : Cond.arrayClass .byte ∈ lw_ok) (hb : N * 1 ≤ 536870912) (hr : cells + 1 ≤ R.cells ∧ slots + N ≤ R.slots) (hd : decode cc pc = .ok (.newarray .byte, 2)) (kk : Gq p l e R s m args below meth c (cells + 1) (slots + N) Q nL D cA ad0 wd F E A (ks ++ [k]) (pc + 2) lo ((2, (k : Int)) :: rest) d) : Gq p l e R s m args below meth c cells slots Q nL D cA ad0 wd F E A ks pc lo ((0, n) :: rest) d := by
  intro hn hR ad ha ls H locs hl hP hD hS
  have hts := C.2.2.2.2.1.at (args := args)
  have hFE : k ∉ E := fun z => by rw [C.2.2.2.2.2.2.2.2.2 k z] at hF; cases hF
  have hn0 : 0 ≤ n := by omega
  refine va_newa (atype := .byte) C.1 C.2.1 (hts _ hw) rfl C.2.2.2.2.2.1 hP hD hS C.2.2.2.2.2.2.1 (N' := N) (a0 := (N, .inl (fun _ => 0))) (fun _ => rfl) (i_nn hc hn0) (by rw [i_cl hc]; omega) hb hr.1 hr.2 hd (fun q cA' H1 hK1 hP1 hD1 hS1 => ?_)
  have e0 : cA' = cA 2 := by
    have h1 := (C.2.2.2.2.2.1.2 2 _ rfl).2
    have h2 := (hK1.2 5 _ rfl).2
    exact Option.some.inj (h2.symm.trans h1)
  subst e0
  have he : ∀ ad' : Nat → Nat, entQ cA ad' wd k (d k) = .inl (cA 2, N, .inl (fun _ => 0)) := by
    intro ad'
    have hf : (fun j => Int32.ofInt (d k j)) = fun _ => 0 := funext (fun j => by rw [hz j, dzv_a hcd (by decide)]; rfl)
    rw [entQ_arr hcd (by decide)]
    show Sum.inl (cA 2, N, Sum.inl (fun j => Int32.ofInt (d k j))) = _
    rw [hf]
  obtain ⟨hR', hP', hD'⟩ := grow (q := q) hFE hk hR (fun j hj => absurd hj (isRf_a hcd (by decide))) he hP1 hD1
  have h9 := kk (nd_grow hn hk) hR' _ (ag_grow hF ha) ls H1 locs (lr_grow hFE hk (fun z hz => if_neg hz) ho hl) hP' hD' hS1
  rw [List.map_cons, cv_r, st_grow hFE hk (fun z hz => if_neg hz) h3 hor, if_pos rfl] at h9
  exact h9
theorem q_newaZ (C : Cq p s m args meth c cc nL own D cA F E A) (k : Nat) {N : Nat} {n : Int} (hcd : cd wd k = (23, N)) (hF : F k = true) (hk : k ∉ ks) (hz : ∀ j, d k j = dzv wd k j) (ho : okl E ks lo) (hor : okl E ks rest) (h3 : ∀ v ∈ rest, v.1 < 3) (hnn : n = (N : Int)) (hc : c32 n) (hw : Cond.arrayClass .boolean ∈ lw_ok) (hb : N * 1 ≤ 536870912) (hr : cells + 1 ≤ R.cells ∧ slots + N ≤ R.slots) (hd : decode cc pc = .ok (.newarray .boolean, 2)) (kk : Gq p l e R s m args below meth c (cells + 1) (slots + N) Q nL D cA ad0 wd F E A (ks ++ [k]) (pc + 2) lo ((2, (k : Int)) :: rest) d) : Gq p l e R s m args below meth c cells slots Q nL D cA ad0 wd F E A ks pc lo ((0, n) :: rest) d := by
  intro hn hR ad ha ls H locs hl hP hD hS
  have hts := C.2.2.2.2.1.at (args := args)
  have hFE : k ∉ E := fun z => by rw [C.2.2.2.2.2.2.2.2.2 k z] at hF; cases hF
  have hn0 : 0 ≤ n := by omega
  refine va_newa (atype := .boolean) C.1 C.2.1 (hts _ hw) rfl C.2.2.2.2.2.1 hP hD hS C.2.2.2.2.2.2.1 (N' := N) (a0 := (N, .inl (fun _ => 0))) (fun _ => rfl) (i_nn hc hn0) (by rw [i_cl hc]; omega) hb hr.1 hr.2 hd (fun q cA' H1 hK1 hP1 hD1 hS1 => ?_)
  have e0 : cA' = cA 3 := by
    have h1 := (C.2.2.2.2.2.1.2 3 _ rfl).2
    have h2 := (hK1.2 5 _ rfl).2
    exact Option.some.inj (h2.symm.trans h1)
  subst e0
  have he : ∀ ad' : Nat → Nat, entQ cA ad' wd k (d k) = .inl (cA 3, N, .inl (fun _ => 0)) := by
    intro ad'
    have hf : (fun j => Int32.ofInt (d k j)) = fun _ => 0 := funext (fun j => by rw [hz j, dzv_a hcd (by decide)]; rfl)
    rw [entQ_arr hcd (by decide)]
    show Sum.inl (cA 3, N, Sum.inl (fun j => Int32.ofInt (d k j))) = _
    rw [hf]
  obtain ⟨hR', hP', hD'⟩ := grow (q := q) hFE hk hR (fun j hj => absurd hj (isRf_a hcd (by decide))) he hP1 hD1
  have h9 := kk (nd_grow hn hk) hR' _ (ag_grow hF ha) ls H1 locs (lr_grow hFE hk (fun z hz => if_neg hz) ho hl) hP' hD' hS1
  rw [List.map_cons, cv_r, st_grow hFE hk (fun z hz => if_neg hz) h3 hor, if_pos rfl] at h9
  exact h9
theorem q_newaS (C : Cq p s m args meth c cc nL own D cA F E A) (k : Nat) {N ix : Nat} {n : Int} (hcd : cd wd k = (24, N)) (hF : F k = true) (hk : k ∉ ks) (hz : ∀ j, d k j = dzv wd k j) (ho : okl E ks lo) (hor : okl E ks rest) (h3 : ∀ v ∈ rest, v.1 < 3) (hnn : n = (N : Int)) (hc : c32 n) (hw : Cond.classLink own ix "PollBooks$Statute" ∈ lw_ok) (hb : N * 4 ≤ 536870912) (hr : cells + 1 ≤ R.cells ∧ slots + N ≤ R.slots) (hd : decode cc pc = .ok (.anewarray ix, 3)) (kk : Gq p l e R s m args below meth c (cells + 1) (slots + N) Q nL D cA ad0 wd F E A (ks ++ [k]) (pc + 3) lo ((2, (k : Int)) :: rest) d) : Gq p l e R s m args below meth c cells slots Q nL D cA ad0 wd F E A ks pc lo ((0, n) :: rest) d := by
  intro hn hR ad ha ls H locs hl hP hD hS
  have hts := C.2.2.2.2.1.at (args := args)
  have hFE : k ∉ E := fun z => by rw [C.2.2.2.2.2.2.2.2.2 k z] at hF; cases hF
  have hn0 : 0 ≤ n := by omega
  refine va_newq C.1 C.2.1 C.2.2.2.1 (hts _ hw) C.2.2.2.2.2.2.2.2.1 C.2.2.2.2.2.1 hP hD hS C.2.2.2.2.2.2.1 (N' := N) (i_nn hc hn0) (by rw [i_cl hc]; omega) hb hr.1 hr.2 hd (fun q cA' H1 hK1 hP1 hD1 hS1 => ?_)
  have e0 : cA' = cA 4 := by
    obtain ⟨_, _, _, _, _, h1⟩ := (C.2.2.2.2.2.1.2 4 _ rfl).2
    obtain ⟨_, _, _, _, _, h2⟩ := (hK1.2 5 _ rfl).2
    exact Option.some.inj (h2.symm.trans h1)
  subst e0
  have he : ∀ ad' : Nat → Nat, entQ cA ad' wd k (d k) = .inl (cA 4, N, .inr (.inr (.inr (.inr (fun _ => none))))) := by
    intro ad'
    have hf : (fun j => orf ad' (d k j)) = fun _ => none := funext (fun j => by rw [hz j, dzv_s hcd]; rfl)
    rw [entQ_arr hcd (by decide)]
    show Sum.inl (cA 4, N, Sum.inr (Sum.inr (Sum.inr (Sum.inr (fun j => orf ad' (d k j)))))) = _
    rw [hf]
  obtain ⟨hR', hP', hD'⟩ := grow (q := q) hFE hk hR (fun j hj => by rw [hz j, dzv_s hcd]; decide) he hP1 hD1
  have h9 := kk (nd_grow hn hk) hR' _ (ag_grow hF ha) ls H1 locs (lr_grow hFE hk (fun z hz => if_neg hz) ho hl) hP' hD' hS1
  rw [List.map_cons, cv_r, st_grow hFE hk (fun z hz => if_neg hz) h3 hor, if_pos rfl] at h9
  exact h9
theorem fq_at {ad : Nat → Nat} {ci j N : Nat} {f : Nat → Int} (hj : j < N) (hN : nf ci = N) : ((List.range (nf ci)).map (fq ad ci f))[j]? = some (fq ad ci f j) := by
  rw [List.getElem?_map, List.getElem?_range (by omega)]; rfl
theorem up_fq {ad : Nat → Nat} {ci k j N : Nat} {v : Int} {w : Value} (hn : nf ci = N) (hj : j < N) (hw : fq ad ci (up2 d k j v k) j = w) : ((List.range (nf ci)).map (fq ad ci (d k))).set j w = (List.range (nf ci)).map (fq ad ci (up2 d k j v k)) := by
  apply List.ext_getElem?
  intro i
  rw [List.getElem?_set]
  simp only [List.length_map, List.length_range, List.getElem?_map]
  by_cases hi : j = i
  · subst hi
    rw [if_pos rfl, if_pos (by omega), List.getElem?_range (by omega), ← hw]; rfl
  · rw [if_neg hi]
    by_cases hl : i < nf ci
    · rw [List.getElem?_range hl]
      show some _ = some _
      congr 1
      unfold fq
      rw [up2_j d k v (fun e => hi e.symm)]
    · rw [List.getElem?_eq_none (by rw [List.length_range]; omega)]; rfl
theorem ri_up {k j : Nat} {v : Int} (hR : RI wd E ks d) (hv : isRf wd k j = true → okr E ks v) : RI wd E ks (up2 d k j v) := by
  intro q hq i hi
  unfold up2
  by_cases h1 : q = k
  · subst h1
    rw [if_pos rfl]
    by_cases h2 : i = j
    · subst h2
      simp only [if_true]; exact hv hi
    · simp only [h2, if_false]; exact hR q hq i hi
  · rw [if_neg h1]; exact hR q hq i hi
/-- a field of an int or a boolean -/
theorem q_putI (C : Cq p s m args meth c cc nL own D cA F E A) {ci N : Nat} {Cn : String} {T : u_T} {ty : Nat → FieldType} (K : ClsOk ci Cn T N ty) (k i j : Nat) {n : Nat} {v : Int} (hi : ks[i]? = some k) (hcd : cd wd k = (ci, n)) (hci : ci < 20 ∧ nf ci = N ∧ j < N) (hf : ft ci j = 0 ∨ ft ci j = 2) {ix : Nat} (hw : Cond.fieldLink own ix (T j).1 (T j).2.1 (T j).2.2.1 ∈ lw_ok) (hfin : (T j).2.2.2 = false) (hnar : narrow (ty j) (.int (Int32.ofInt v)) = .int (Int32.ofInt v)) (hfit : fits (ty j) (.int (Int32.ofInt v)) = true)
    (hd : decode cc pc = .ok (.putfield ix, 3)) (kk : Gq p l e R s m args below meth c cells slots Q nL D cA ad0 wd F E A ks (pc + 3) lo rest (up2 d k j v)) : Gq p l e R s m args below meth c cells slots Q nL D cA ad0 wd F E A ks pc lo ((0, v) :: (2, (k : Int)) :: rest) d := by
  intro hn hR ad ha ls H locs hl hP hD hS
  have hat := wq_at (wd := wd) (cA := cA) (ad := ad) (d := d) hi
  rw [entQ_obj hcd hci.1] at hat
  show W p l e R s m args below meth c H locs cells slots Q (F0 m pc ls (cv ad (0, v) :: cv ad (2, (k : Int)) :: rest.map (cv ad)))
  rw [cv_r]
  refine va_put (D := D) (ci := ci) (C := Cn) (T := T) (N := N) C.1 C.2.1 C.2.2.2.2.1.at K.1 ty K.2.1 K.2.2.1 C.2.2.2.1 C.2.2.2.2.2.1 hP hD hS i hat K.2.2.2 j hci.2.2 (C.2.2.2.2.1.at _ hw) (fun _ h => h) hfin (K.2.1 j hci.2.2) hnar hfit (by rw [List.length_map, List.length_range]; omega) hd (fun H1 locs1 hP1 hD1 hS1 => ?_)
  have e1 : (wq wd ks cA ad d).set i (ad k, .inr (ci, ((List.range (nf ci)).map (fq ad ci (d k))).set j (.int (Int32.ofInt v)))) = wq wd ks cA ad (up2 d k j v) := by
    rw [up_fq (v := v) hci.2.1 hci.2.2 (by unfold fq; rw [up2_s]; rcases hf with h | h <;> rw [h] <;> rfl), ← entQ_obj (wd := wd) (cA := cA) (ad := ad) (f := up2 d k j v k) hcd hci.1]
    exact wq_set hi hn (fun q hq => up2_K d j v hq)
  have hP1 : va_P D classes ((wq wd ks cA ad d).set i (ad k, .inr (ci, ((List.range (nf ci)).map (fq ad ci (d k))).set j (.int (Int32.ofInt v))))) H1 := hP1
  have hD1 : va_D A ((wq wd ks cA ad d).set i (ad k, .inr (ci, ((List.range (nf ci)).map (fq ad ci (d k))).set j (.int (Int32.ofInt v))))) := hD1
  rw [e1] at hP1 hD1
  exact kk hn (ri_up hR (fun h => absurd h (by unfold isRf; rw [hcd]; simp only [hci.1, if_true]; rcases hf with h | h <;> rw [h] <;> decide))) ad ha ls H1 locs1 hl hP1 hD1 hS1
/-- a field of a reference -/
theorem q_putR (C : Cq p s m args meth c cc nL own D cA F E A) {ci N : Nat} {Cn : String} {T : u_T} {ty : Nat → FieldType} (K : ClsOk ci Cn T N ty) (k i j y : Nat) {n : Nat} (hi : ks[i]? = some k) (hcd : cd wd k = (ci, n)) (hci : ci < 20 ∧ nf ci = N ∧ j < N) (hf : ft ci j = 3 ∨ ft ci j = 4) (hy : y ∈ ks ∨ y ∈ E) {ix : Nat} (hw : Cond.fieldLink own ix (T j).1 (T j).2.1 (T j).2.2.1 ∈ lw_ok) (hfin : (T j).2.2.2 = true) (hinit : meth.name = "<init>") (hdecl : (T j).1 = own) (hnar : ∀ a, narrow (ty j) (.ref a) = .ref a) (hfit : ∀ a, fits (ty j) (.ref a) = true)
    (hd : decode cc pc = .ok (.putfield ix, 3)) (kk : Gq p l e R s m args below meth c cells slots Q nL D cA ad0 wd F E A ks (pc + 3) lo rest (up2 d k j (y : Int))) : Gq p l e R s m args below meth c cells slots Q nL D cA ad0 wd F E A ks pc lo ((2, (y : Int)) :: (2, (k : Int)) :: rest) d := by
  intro hn hR ad ha ls H locs hl hP hD hS
  have hat := wq_at (wd := wd) (cA := cA) (ad := ad) (d := d) hi
  rw [entQ_obj hcd hci.1] at hat
  show W p l e R s m args below meth c H locs cells slots Q (F0 m pc ls (cv ad (2, (y : Int)) :: cv ad (2, (k : Int)) :: rest.map (cv ad)))
  rw [cv_r, cv_r]
  refine va_putF (D := D) (ci := ci) (C := Cn) (T := T) (N := N) C.1 C.2.1 C.2.2.2.2.1.at K.1 ty K.2.1 K.2.2.1 C.2.2.2.1 C.2.2.2.2.2.1 hP hD hS i hat K.2.2.2 j hci.2.2 (C.2.2.2.2.1.at _ hw) (fun _ h => h) hfin hinit hdecl (K.2.1 j hci.2.2) (hnar _) (hfit _) (by rw [List.length_map, List.length_range]; omega) hd (fun H1 locs1 hP1 hD1 hS1 => ?_)
  have hy0 : ¬ ((y : Int) < 0) := by omega
  have e1 : (wq wd ks cA ad d).set i (ad k, .inr (ci, ((List.range (nf ci)).map (fq ad ci (d k))).set j (.ref (ad y)))) = wq wd ks cA ad (up2 d k j (y : Int)) := by
    rw [up_fq (v := (y : Int)) hci.2.1 hci.2.2 (by unfold fq; rw [up2_s]; rcases hf with h | h <;> rw [h] <;> simp [orf, hy0, va_rf]), ← entQ_obj (wd := wd) (cA := cA) (ad := ad) (f := up2 d k j (y : Int) k) hcd hci.1]
    exact wq_set hi hn (fun q hq => up2_K d j _ hq)
  rw [e1] at hP1 hD1
  exact kk hn (ri_up hR (fun _ => Or.inr (by rw [show ((y : Int)).toNat = y from Int.toNat_natCast y]; exact hy))) ad ha ls H1 locs1 hl hP1 hD1 hS1
/-- a field of a reference -/
theorem q_putM (C : Cq p s m args meth c cc nL own D cA F E A) {ci N : Nat} {Cn : String} {T : u_T} {ty : Nat → FieldType} (K : ClsOk ci Cn T N ty) (k i j y : Nat) {n : Nat} (hi : ks[i]? = some k) (hcd : cd wd k = (ci, n)) (hci : ci < 20 ∧ nf ci = N ∧ j < N) (hf : ft ci j = 3 ∨ ft ci j = 4) (hy : y ∈ ks ∨ y ∈ E) {ix : Nat} (hw : Cond.fieldLink own ix (T j).1 (T j).2.1 (T j).2.2.1 ∈ lw_ok) (hfin : (T j).2.2.2 = false) (hnar : ∀ a, narrow (ty j) (.ref a) = .ref a) (hfit : ∀ a, fits (ty j) (.ref a) = true)
    (hd : decode cc pc = .ok (.putfield ix, 3)) (kk : Gq p l e R s m args below meth c cells slots Q nL D cA ad0 wd F E A ks (pc + 3) lo rest (up2 d k j (y : Int))) : Gq p l e R s m args below meth c cells slots Q nL D cA ad0 wd F E A ks pc lo ((2, (y : Int)) :: (2, (k : Int)) :: rest) d := by
  intro hn hR ad ha ls H locs hl hP hD hS
  have hat := wq_at (wd := wd) (cA := cA) (ad := ad) (d := d) hi
  rw [entQ_obj hcd hci.1] at hat
  show W p l e R s m args below meth c H locs cells slots Q (F0 m pc ls (cv ad (2, (y : Int)) :: cv ad (2, (k : Int)) :: rest.map (cv ad)))
  rw [cv_r, cv_r]
  refine va_put (D := D) (ci := ci) (C := Cn) (T := T) (N := N) C.1 C.2.1 C.2.2.2.2.1.at K.1 ty K.2.1 K.2.2.1 C.2.2.2.1 C.2.2.2.2.2.1 hP hD hS i hat K.2.2.2 j hci.2.2 (C.2.2.2.2.1.at _ hw) (fun _ h => h) hfin (K.2.1 j hci.2.2) (hnar _) (hfit _) (by rw [List.length_map, List.length_range]; omega) hd (fun H1 locs1 hP1 hD1 hS1 => ?_)
  have hy0 : ¬ ((y : Int) < 0) := by omega
  have e1 : (wq wd ks cA ad d).set i (ad k, .inr (ci, ((List.range (nf ci)).map (fq ad ci (d k))).set j (.ref (ad y)))) = wq wd ks cA ad (up2 d k j (y : Int)) := by
    rw [up_fq (v := (y : Int)) hci.2.1 hci.2.2 (by unfold fq; rw [up2_s]; rcases hf with h | h <;> rw [h] <;> simp [orf, hy0, va_rf]), ← entQ_obj (wd := wd) (cA := cA) (ad := ad) (f := up2 d k j (y : Int) k) hcd hci.1]
    exact wq_set hi hn (fun q hq => up2_K d j _ hq)
  rw [e1] at hP1 hD1
  exact kk hn (ri_up hR (fun _ => Or.inr (by rw [show ((y : Int)).toNat = y from Int.toNat_natCast y]; exact hy))) ad ha ls H1 locs1 hl hP1 hD1 hS1
theorem q_iast (C : Cq p s m args meth c cc nL own D cA F E A) (k i0 : Nat) {n : Nat} {i v : Int} (hi0 : ks[i0]? = some k) (hv : c32 v) (hi : c32 i) (hcd : cd wd k = (20, n)) (hin : 0 ≤ i ∧ i < (n : Int)) (hd : decode cc pc = .ok (.iastore, 1)) (kk : Gq p l e R s m args below meth c cells slots Q nL D cA ad0 wd F E A ks (pc + 1) lo rest (up2 d k i.toNat v)) : Gq p l e R s m args below meth c cells slots Q nL D cA ad0 wd F E A ks pc lo ((0, v) :: (0, i) :: (2, (k : Int)) :: rest) d := by
  intro hn hR ad ha ls H locs hl hP hD hS
  have hat := wq_at (wd := wd) (cA := cA) (ad := ad) (d := d) hi0
  rw [entQ_arr hcd (by omega)] at hat
  show W p l e R s m args below meth c H locs cells slots Q (F0 m pc ls (cv ad (0, v) :: cv ad (0, i) :: cv ad (2, (k : Int)) :: rest.map (cv ad)))
  rw [cv_r]
  refine va_iast (t0 := 0) C.1 C.2.1 C.2.2.2.2.2.1 hP hD hS i0 hat rfl (i_in hi hin) hd (fun H1 locs1 hP1 hD1 hS1 => ?_)
  rw [i_cl hi] at hP1 hD1
  have e1 : (wq wd ks cA ad d).set i0 (ad k, .inl (cA 0, n, .inl (upd (fun j => Int32.ofInt (d k j)) i.toNat (Int32.ofInt v)))) = wq wd ks cA ad (up2 d k i.toNat v) := by
    have hf : upd (fun j => Int32.ofInt (d k j)) i.toNat (Int32.ofInt v) = fun j => Int32.ofInt (up2 d k i.toNat v k j) := by
      funext j
      unfold upd up2
      simp only [if_true]
      by_cases hj : j = i.toNat
      · rw [if_pos hj, if_pos hj]
      · rw [if_neg hj, if_neg hj]
    rw [hf, ← wq_set (d' := up2 d k i.toNat v) hi0 hn (fun q hq => up2_K d _ _ hq), entQ_arr hcd (by omega)]
    rfl
  rw [e1] at hP1 hD1
  exact kk hn (ri_up hR (fun h => absurd h (isRf_a hcd (by decide)))) ad ha ls H1 locs1 hl hP1 hD1 hS1
theorem q_objInit (C : Cq p s m args meth c cc nL own D cA F E A) {x ix : Nat} (hlk : Cond.methodLink own ix Lib.objectInit ∈ lw_ok) (hin : Cond.instanceMethod Lib.objectInit ∈ lw_ok) (hco : Cond.code Lib.objectInit ⟨#[0xb1]⟩ 1 none ∈ lw_ok) (hR1 : 1 ≤ R.frames ∧ 20 ≤ R.locals) (hd : decode cc pc = .ok (.invokespecial ix, 3)) (kk : Gq p l e R s m args below meth c cells slots Q nL D cA ad0 wd F E A ks (pc + 3) lo [] d) : Gq p l e R s m args below meth c cells slots Q nL D cA ad0 wd F E A ks pc lo [(2, (x : Int))] d := by
  intro hn hR ad ha ls H locs hl hP hD hS
  have hts := C.2.2.2.2.1.at (args := args)
  show W p l e R s m args below meth c H locs cells slots Q (F0 m pc ls [cv ad (2, (x : Int))])
  rw [cv_r]
  refine W.objInit C.1 C.2.1 C.2.2.2.1 (hts _ hlk) (hts _ hin) (hts _ hco) rfl (by rw [C.2.2.1]; exact hl.1) rfl hd hR1.1 (Nat.le_trans (by show 2 * 0 + 0 + 12 ≤ 20; omega) hR1.2) ?_
  exact kk hn hR ad ha ls H locs hl hP hD hS
theorem q_getR (C : Cq p s m args meth c cc nL own D cA F E A) {ci N : Nat} {Cn : String} {T : u_T} {ty : Nat → FieldType} (K : ClsOk ci Cn T N ty) (k i j y : Nat) {n : Nat} (hi : ks[i]? = some k) (hcd : cd wd k = (ci, n)) (hci : ci < 20 ∧ nf ci = N ∧ j < N) (hf : ft ci j = 3 ∨ ft ci j = 4) (hy : d k j = (y : Int)) {ix : Nat} (hw : Cond.fieldLink own ix (T j).1 (T j).2.1 (T j).2.2.1 ∈ lw_ok)
    (hd : decode cc pc = .ok (.getfield ix, 3)) (kk : Gq p l e R s m args below meth c cells slots Q nL D cA ad0 wd F E A ks (pc + 3) lo ((2, (y : Int)) :: rest) d) : Gq p l e R s m args below meth c cells slots Q nL D cA ad0 wd F E A ks pc lo ((2, (k : Int)) :: rest) d := by
  intro hn hR ad ha ls H locs hl hP hD hS
  have hat := wq_at (wd := wd) (cA := cA) (ad := ad) (d := d) hi
  rw [entQ_obj hcd hci.1] at hat
  have h2 : W p l e R s m args below meth c H locs cells slots Q (F0 m (pc + 3) ls (cv ad (2, (y : Int)) :: rest.map (cv ad))) := kk hn hR ad ha ls H locs hl hP hD hS
  show W p l e R s m args below meth c H locs cells slots Q (F0 m pc ls (cv ad (2, (k : Int)) :: rest.map (cv ad)))
  rw [cv_r]
  have e1 : fq ad ci (d k) j = cv ad (2, (y : Int)) := by unfold fq; rcases hf with h | h <;> rw [h, hy] <;> rfl
  refine va_get (D := D) (ci := ci) (C := Cn) (T := T) (N := N) C.1 C.2.1 C.2.2.2.2.1.at K.1 C.2.2.2.1 C.2.2.2.2.2.1 hP i hat K.2.2.2 j hci.2.2 (C.2.2.2.2.1.at _ hw) (fun _ h => h) (fq_at hci.2.2 hci.2.1) hd ?_
  rw [e1]
  exact h2
def QK (D : va_G) (cA : Nat → ClassId) (ad0 : Nat → Nat) (wd : Nat) (F : Nat → Bool) (E : List Nat) (A : Nat → Prop) (ks : List Nat) (d' : Dt) : State → Outcome → State → Prop := fun st oc t => oc = .returned none ∧ (∃ ad : Nat → Nat, (∀ k, F k = false → ad k = ad0 k) ∧ va_P D classes (wq wd ks cA ad d') t.heap ∧ va_D A (wq wd ks cA ad d') ∧ RI wd E ks d' ∧ ks.Nodup) ∧ va_F A st t
theorem q_vret (C : Cq p s m args meth c cc nL own D cA F E A) (hlk : meth.locks = false) (hr : meth.sig.returnType = none) (hd : decode cc pc = .ok (.return_, 1)) : Gq p l e R s m args below meth c cells slots (MQ below (fun _ => QK D cA ad0 wd F E A ks d) args s cells slots A) nL D cA ad0 wd F E A ks pc lo [] d :=
  fun hn hR ad ha ls H locs hl hP hD hS => W.vret C.1 C.2.1 hr (fun t ht hW => ⟨rfl, ⟨ad, ha, by rw [ht]; exact hP, hD, hR, hn⟩, hS.F ht⟩) hS.2.2 hd hlk
theorem q_ks {ks2 : List Nat} {st : List AV} (h : ks = ks2) (k : Gq p l e R s m args below meth c cells slots Q nL D cA ad0 wd F E A ks2 pc lo st d) : Gq p l e R s m args below meth c cells slots Q nL D cA ad0 wd F E A ks pc lo st d := by subst h; exact k
theorem q_sub {lo2 st : List AV} (h : lsb lo lo2) (k : Gq p l e R s m args below meth c cells slots Q nL D cA ad0 wd F E A ks pc lo2 st d) : Gq p l e R s m args below meth c cells slots Q nL D cA ad0 wd F E A ks pc lo st d :=
  fun hn hR ad ha ls H locs hl hP hD hS => k hn hR ad ha ls H locs ⟨hl.1, hl.2.1, fun i v h1 h2 => hl.2.2 i v (lsb_at h h1 h2) h2⟩ hP hD hS
/-- a new object, blank -/
theorem q_new (C : Cq p s m args meth c cc nL own D cA F E A) {ci N : Nat} {Cn : String} {T : u_T} {ty : Nat → FieldType} (K : ClsOk ci Cn T N ty) (k : Nat) {n : Nat} (hcd : cd wd k = (ci, n)) (hci : ci < 20 ∧ nf ci = N) (hF : F k = true) (hk : k ∉ ks) (hz : ∀ j, d k j = dzv wd k j) (ho : okl E ks lo) (hor : okl E ks rest) (h3 : ∀ v ∈ rest, v.1 < 3) {ix : Nat} (hcl : Cond.classLink own ix Cn ∈ lw_ok) (hinst : Cond.instantiable Cn N ∈ lw_ok) (hini : Cond.initialized Cn ∈ lw_ok) (hdef : ∀ j, j < N → defaultValue (ty j) = fq id ci (dzv wd k) j) (hr : cells + 1 ≤ R.cells ∧ slots + N ≤ R.slots) (hd : decode cc pc = .ok (.new ix, 3))
    (kk : Gq p l e R s m args below meth c (cells + 1) (slots + N) Q nL D cA ad0 wd F E A (ks ++ [k]) (pc + 3) lo ((2, (k : Int)) :: rest) d) : Gq p l e R s m args below meth c cells slots Q nL D cA ad0 wd F E A ks pc lo rest d := by
  intro hn hR ad ha ls H locs hl hP hD hS
  have hts := C.2.2.2.2.1.at (args := args)
  have hFE : k ∉ E := fun z => by rw [C.2.2.2.2.2.2.2.2.2 k z] at hF; cases hF
  have hd0 : d k = dzv wd k := funext hz
  have hfq : ∀ (ad1 ad2 : Nat → Nat) (j : Nat), fq ad1 ci (dzv wd k) j = fq ad2 ci (dzv wd k) j := by
    intro ad1 ad2 j
    unfold fq
    split <;> first | rfl | skip
    rename_i n0 n1 n2
    have h4 : dzv wd k j = -1 := by
      have m0 : ft ci j ≠ 0 := n0
      have m1 : ft ci j ≠ 1 := n1
      have m2 : ft ci j ≠ 2 := n2
      unfold dzv isRf
      rw [hcd]
      simp only [hci.1, if_true]
      rw [if_pos (decide_eq_true (by omega))]
    rw [h4]; rfl
  refine va_new (ci := ci) (C := Cn) (T := T) (N := N) (fs := (List.range (nf ci)).map (fq id ci (dzv wd k))) C.1 C.2.1 hts K.1 ty K.2.1 C.2.2.2.1 (hts _ hcl) (hts _ hinst) (hts _ hini) C.2.2.2.2.2.1 hP hD hS C.2.2.2.2.2.2.1 K.2.2.2 (fun j hj => ?_) hr.1 hr.2 hd (fun q H1 hP1 hD1 hS1 => ?_)
  · rw [hdef j hj]
    unfold vp_V
    rw [List.getD_eq_getElem?_getD, fq_at hj hci.2]; rfl
  have he : ∀ ad' : Nat → Nat, entQ cA ad' wd k (d k) = .inr (ci, (List.range (nf ci)).map (fq id ci (dzv wd k))) := by
    intro ad'
    rw [entQ_obj hcd hci.1, hd0]
    congr 2
    exact List.map_congr_left (fun j _ => hfq ad' id j)
  obtain ⟨hR', hP', hD'⟩ := grow (q := q) hFE hk hR (fun j hj => by rw [hz j]; unfold dzv; rw [if_pos hj]; decide) he hP1 hD1
  have h9 := kk (nd_grow hn hk) hR' _ (ag_grow hF ha) ls H1 locs (lr_grow hFE hk (fun z hz => if_neg hz) ho hl) hP' hD' hS1
  rw [List.map_cons, cv_r, st_grow hFE hk (fun z hz => if_neg hz) h3 hor, if_pos rfl] at h9
  exact h9
/-! a constructor's contract, and its call -/
def WK (D : va_G) (cA : Nat → ClassId) (ad0 : Nat → Nat) (wd k0 : Nat) (d : Dt) (sz : Nat) (U : State) : Prop := va_P D classes (wq wd [k0] cA ad0 d) U.heap ∧ va_D (va_A (wq wd [k0] cA ad0 d) sz) (wq wd [k0] cA ad0 d) ∧ va_K D classes (tysOf cA) U ∧ TB U ∧ va_AO "PollBooks$Statute" U
def KC (l : Launch) (y : MethodName) (cc : ByteArray) (mL : Nat) (rm : Room) (wd : Nat) (F : Nat → Bool) (E : List Nat) (k0 : Nat) (ks : List Nat) (mc ms : Nat) (av : List AV) (d d' : Dt) : Prop :=
  ∀ (D : va_G) (cA : Nat → ClassId) (ad0 : Nat → Nat) (sz : Nat), Met l y [.code y cc mL none] rm (va_Pc (((2, (k0 : Int)) :: av).map (cv ad0)) (fun U => U.heap.size = sz ∧ WK D cA ad0 wd k0 d sz U)) (fun _ => QK D cA ad0 wd F E (va_A (wq wd [k0] cA ad0 d) sz) ks d') mc ms (va_A (wq wd [k0] cA ad0 d) sz)
theorem KC.of {y : MethodName} {cy : ByteArray} {mL : Nat} {rm : Room} {av : List AV} {d' : Dt} {k0 mc ms : Nat} (hy : plainName y.cls = true) (hy1 : y.name = "<init>") (hav : (lo0 ((2, (k0 : Int)) :: av)).length ≤ mL) (hE : ∀ x ∈ E, F x = false) (hR : RI wd E [k0] d)
    (body : ∀ (p : Program) (e : Env) (s : State) (m : MethodId) (args : Array Value) (below : List Frame) (meth : Method) (c : Code) (D : va_G) (cA : Nat → ClassId) (ad0 : Nat → Nat) (A : Nat → Prop), Cq p s m args meth c cy mL y.cls D cA F E A → meth.name = "<init>" → meth.locks = false → meth.sig.returnType = none →
      Gq p l e rm s m args below meth c 0 0 (MQ below (fun _ => QK D cA ad0 wd F E A ks d') args s mc ms A) mL D cA ad0 wd F E A [k0] 0 (lo0 ((2, (k0 : Int)) :: av)) [] d) : KC l y cy mL rm wd F E k0 ks mc ms av d d' := by
  intro D cA ad sz
  refine Met.ofW (cc := cy) (maxL := mL) (ret := none) hy rfl ?_
  intro p e s m args below meth c s₁ B hml hv
  obtain ⟨rfl, hsz, hP, hD, hK, hT, hO⟩ := hv
  subst hsz
  have hnm : meth.name = "<init>" := by rw [(name_of_methodNamed B.named B.method).1]; exact hy1
  have C : Cq p s m (((2, (k0 : Int)) :: av).map (cv ad)).toArray meth c cy mL y.cls D cA F E (va_A (wq wd [k0] cA ad d) s.heap.size) := ⟨B.exec, B.bytes, hml, findClass_of_methodNamed B.named, hT, hK, fun q h => Or.inr h, trivial, hO, hE⟩
  have hG := body p e s m _ below meth c D cA ad _ C hnm B.notSynchronized B.returns
  rw [lg_entry_eq]
  have hl := lv_entry (((2, (k0 : Int)) :: av).map (cv ad)) (n := mL) (by rw [lo0_len]; exact hav)
  refine hG (List.nodup_cons.mpr ⟨List.not_mem_nil, List.nodup_nil⟩) hR ad (fun _ _ => rfl) _ s.heap [] ⟨hl.1, hl.2.1, fun i v h1 h2 => ?_⟩ hP hD va_S.rf
  have h3 := lo0_args (ad := ad) ((2, (k0 : Int)) :: av) 0 i v h1 h2
  rw [Nat.zero_add] at h3
  exact hl.2.2 (i, cv ad v) h3
theorem blindK {av : List Value} {sz k0 : Nat} {ad : Nat → Nat} : FrameBlind (va_Pc av (fun U => U.heap.size = sz ∧ WK D cA ad wd k0 d sz U)) := by
  intro a U g mk h
  obtain ⟨h0, h1, h2, h3, h4, h5, h6⟩ := h
  exact ⟨h0, h1, h2, h3, va_K.moved (u := U) (U := U.calling g mk a) (Vm.Alike.refl U.vm) h4, TB.same (u := U) (U := U.calling g mk a) rfl h5, va_AO.moved (u := U) (U := U.calling g mk a) (Vm.Alike.refl U.vm) h6⟩
theorem app_at {wr wc : va_W} : (List.range wr.length).map (fun i => (wr ++ wc)[i]?) = wr.map some := by
  apply List.ext_getElem?
  intro i
  rw [List.getElem?_map, List.getElem?_map]
  by_cases hi : i < wr.length
  · rw [List.getElem?_range hi, List.getElem?_eq_getElem hi]
    show some ((wr ++ wc)[i]?) = some (some wr[i])
    rw [List.getElem?_append_left hi, List.getElem?_eq_getElem hi]
  · rw [List.getElem?_eq_none (by rw [List.length_range]; omega), List.getElem?_eq_none (by omega)]; rfl
theorem nd_range : ∀ (n m : Nat), va_nd ((List.range' n m)) = true
  | _, 0 => rfl
  | n, m + 1 => by
    show (decide (n ∉ List.range' (n + 1) m) && va_nd (List.range' (n + 1) m)) = true
    rw [nd_range (n + 1) m, Bool.and_true]
    refine decide_eq_true (fun h => ?_)
    have := List.mem_range'_1.mp h
    omega
theorem cv_same {ad ad1 : Nat → Nat} {v : AV} (hv : v.1 < 3) (h : v.1 = 2 → v.2 < 0 ∨ ad1 v.2.toNat = ad v.2.toNat) : cv ad1 v = cv ad v := by
  obtain ⟨t, x⟩ := v
  match t, h, hv with
  | 0, _, _ => rfl
  | 1, _, _ => rfl
  | 2, h, _ =>
    show va_rf (orf ad1 x) = va_rf (orf ad x)
    unfold orf
    by_cases hx : x < 0
    · rw [if_pos hx, if_pos hx]
    · rw [if_neg hx, if_neg hx]
      rcases h rfl with h | h
      · exact absurd h hx
      · rw [h]
  | t + 3, _, hv => exact absurd hv (by show ¬ t + 3 < 3; omega)
theorem ent_same {ad ad1 : Nat → Nat} {q : Nat} {f : Nat → Int} (h : ∀ j, isRf wd q j = true → f j < 0 ∨ ad1 (f j).toNat = ad (f j).toNat) : entQ cA ad1 wd q f = entQ cA ad wd q f := by
  have ho : ∀ j, isRf wd q j = true → orf ad1 (f j) = orf ad (f j) := by
    intro j hj
    unfold orf
    by_cases hx : f j < 0
    · rw [if_pos hx, if_pos hx]
    · rw [if_neg hx, if_neg hx]
      rcases h j hj with h | h
      · exact absurd h hx
      · rw [h]
  unfold entQ
  by_cases hc : (cd wd q).1 < 20
  · rw [if_pos hc, if_pos hc]
    congr 2
    apply List.map_congr_left
    intro j _
    have h1 := ho j
    unfold isRf at h1
    rw [if_pos hc] at h1
    unfold fq
    split <;> first | rfl | skip
    rename_i n0 n1 n2
    rw [h1 (by
      have : ft (cd wd q).1 j ≠ 0 := n0
      have : ft (cd wd q).1 j ≠ 1 := n1
      have : ft (cd wd q).1 j ≠ 2 := n2
      exact decide_eq_true (by omega))]
  · rw [if_neg hc, if_neg hc]
    congr 1
    unfold entA
    split <;> first | rfl | skip
    rename_i n0 n1 n2 n3
    have h4 : 24 ≤ (cd wd q).1 := by rcases cd_kind hc n0 n1 n2 n3 with h | h <;> omega
    have h1 : (fun j => orf ad1 (f j)) = fun j => orf ad (f j) := funext (fun j => ho j (by unfold isRf; rw [if_neg hc]; exact decide_eq_true h4))
    rw [h1]
/-- behind a constructor's call: what came back stands in place of the blank object -/
theorem q_back (C : Cq p s m args meth c cc nL own D cA F E A) {kT : Nat} {ksr ksT : List Nat} {F' : Nat → Bool} {E' : List Nat} {d' : Dt} {mc ms : Nat} {st0 : List Value} {ad : Nat → Nat} {H : Heap} {locs : List Loc} {ls : Array Slot} (hks : ks = ksr ++ [kT])
    (hFF : ∀ k, F' k = true → F k = true ∧ k ∉ ks) (hsT : ∀ k ∈ ksT, k = kT ∨ F' k = true) (hT : kT ∈ ksT) (hE' : ∀ x ∈ E', x ∈ ks ∨ x ∈ E) (hout : ∀ k, k ∉ ksT → d' k = d k) (hok : okl E ks lo) (hor : okl E ks rest) (h3 : ∀ v ∈ rest, v.1 < 3)
    (hn : ks.Nodup) (hRI : RI wd E ks d) (ha : ∀ k, F k = false → ad k = ad0 k) (hl : LR ad ls nL lo) (hP : va_P D classes (wq wd ks cA ad d) H) (hD : va_D A (wq wd ks cA ad d)) (hS : va_S A s.heap H locs)
    (hr : va_Run p l e R s m args below meth c H locs cells slots mc ms (F0 m pc ls st0) (rest.map (cv ad)) (QK D cA ad wd F' E' (va_A (wq wd [kT] cA ad d) H.size) ksT d') (va_A (wq wd [kT] cA ad d) H.size))
    (kk : Gq p l e R s m args below meth c (cells + mc) (slots + ms) Q nL D cA ad0 wd F E A (ksr ++ ksT) (pc + 3) lo rest d') : W p l e R s m args below meth c H locs cells slots Q (F0 m pc ls st0) := by
  intro T hT0 X
  obtain ⟨v, st₀, t, T', L, h0, X', hL, e1, e2, ⟨hv, ⟨ad1, ha1, hP1, hD1, hRI1, hn1⟩, hz, hk⟩, hst⟩ := hr T hT0 X
  cases v with
  | some v => cases hv
  | none =>
  rw [h0] at hz hk
  subst hks
  have ew : wq wd (ksr ++ [kT]) cA ad d = wq wd ksr cA ad d ++ wq wd [kT] cA ad d := by unfold wq; rw [List.map_append]
  have hlen : (wq wd ksr cA ad d).length = ksr.length := by unfold wq; rw [List.length_map]
  have hkr : kT ∉ ksr := by
    rw [List.nodup_append] at hn
    exact fun h => hn.2.2 kT h kT (List.mem_singleton.mpr rfl) rfl
  have hFo : ∀ x, x ∈ ksr ++ [kT] ∨ x ∈ E → F' x = false := by
    intro x hx
    cases hf : F' x with
    | false => rfl
    | true =>
      have h1 := hFF x hf
      rcases hx with hx | hx
      · exact absurd hx h1.2
      · have h2 := C.2.2.2.2.2.2.2.2.2 x hx
        rw [h1.1] at h2; cases h2
  have hsame : ∀ x, okr E (ksr ++ [kT]) x → x < 0 ∨ ad1 x.toNat = ad x.toNat := by
    intro x hx
    rcases hx with hx | hx
    · exact Or.inl hx
    · exact Or.inr (ha1 _ (hFo _ hx))
  have er : wq wd ksr cA ad1 d' = wq wd ksr cA ad d := by
    unfold wq
    apply List.map_congr_left
    intro q hq
    have hqT : q ∉ ksT := by
      intro z
      rcases hsT q z with e | e
      · exact hkr (e ▸ hq)
      · exact (hFF q e).2 (List.mem_append_left _ hq)
    rw [hout q hqT, ha1 q (hFo q (Or.inl (List.mem_append_left _ hq))), ent_same (fun j hj => hsame _ (hRI q (List.mem_append_left _ hq) j hj))]
  have hF9 : ∀ q, va_A (wq wd [kT] cA ad d) H.size q → A q := by
    intro q h
    rcases h with ⟨k, en, h⟩ | h
    · have h1 : (wq wd (ksr ++ [kT]) cA ad d)[ksr.length + k]? = some (q, en) := by rw [ew, List.getElem?_append_right (by omega), hlen, Nat.add_sub_cancel_left]; exact h
      exact hD.2 _ (q, en) h1
    · exact C.2.2.2.2.2.2.1 q (Nat.le_trans hS.1 h)
  rw [ew] at hP hD
  obtain ⟨hP2, hD2⟩ := va_join (wr := wq wd ksr cA ad d) (wc := wq wd [kT] cA ad d) (w1 := wq wd ksT cA ad1 d') hP hD [ksr.length] (List.range (wq wd ksr cA ad d).length) (by
    show [(wq wd ksr cA ad d ++ wq wd [kT] cA ad d)[ksr.length]?] = _
    rw [List.getElem?_append_right (by omega), hlen, Nat.sub_self]; rfl) app_at (by rw [List.range_eq_range']; exact nd_range _ _) (fun i hi h => by
    have h1 := List.mem_range.mp hi
    rw [List.mem_singleton.mp h, hlen] at h1
    omega) hk hF9 hP1 hD1
  have ew2 : wq wd (ksr ++ ksT) cA ad1 d' = wq wd ksr cA ad d ++ wq wd ksT cA ad1 d' := by rw [← er]; unfold wq; rw [List.map_append]
  have hS' : va_S A s.heap t.heap (locs ++ L) := ⟨Nat.le_trans hS.1 hz, fun q h1 h2 => by rw [hk q (Nat.lt_of_lt_of_le h1 hS.1) (fun z => h2 (hF9 q z))]; exact hS.2.1 q h1 h2, fun q hq => by
      rcases List.mem_append.mp hq with h | h
      · exact hS.2.2 q h
      · exact hF9 _ (hL q h)⟩
  have hn2 : (ksr ++ ksT).Nodup := by
    rw [List.nodup_append] at hn ⊢
    refine ⟨hn.1, hn1, fun a ha2 b hb e => ?_⟩
    subst e
    rcases hsT a hb with e | e
    · exact hkr (e ▸ ha2)
    · exact (hFF a e).2 (List.mem_append_left _ ha2)
  have hRI2 : RI wd E (ksr ++ ksT) d' := by
    intro q hq j hj
    have up : ∀ x, x ∈ ksr ++ [kT] → x ∈ ksr ++ ksT := by
      intro x hx
      rcases List.mem_append.mp hx with h | h
      · exact List.mem_append_left _ h
      · rw [List.mem_singleton.mp h]; exact List.mem_append_right _ hT
    rcases List.mem_append.mp hq with h | h
    · have hqT : q ∉ ksT := by
        intro z
        rcases hsT q z with e | e
        · exact hkr (e ▸ h)
        · exact (hFF q e).2 (List.mem_append_left _ h)
      rw [hout q hqT]
      rcases hRI q (List.mem_append_left _ h) j hj with h1 | h1 | h1
      · exact Or.inl h1
      · exact Or.inr (Or.inl (up _ h1))
      · exact Or.inr (Or.inr h1)
    · rcases hRI1 q h j hj with h1 | h1 | h1
      · exact Or.inl h1
      · exact Or.inr (Or.inl (List.mem_append_right _ h1))
      · rcases hE' _ h1 with h2 | h2
        · exact Or.inr (Or.inl (up _ h2))
        · exact Or.inr (Or.inr h2)
  have hlo : LR ad1 ls nL lo := ⟨hl.1, hl.2.1, fun i v h1 h2 => by rw [cv_same h2 (fun h => hsame _ (hok v (List.mem_of_getElem? h1) h))]; exact hl.2.2 i v h1 h2⟩
  have hre : rest.map (cv ad1) = rest.map (cv ad) := List.map_congr_left (fun v hv => cv_same (h3 v hv) (fun h => hsame _ (hor v hv h)))
  have hag : ∀ k, F k = false → ad1 k = ad0 k := by
    intro k hk2
    rw [ha1 k ?_, ha k hk2]
    cases hf : F' k with
    | false => rfl
    | true => rw [(hFF k hf).1] at hk2; cases hk2
  obtain ⟨t2, a1, b1⟩ := kk hn2 hRI2 ad1 hag ls t.heap (locs ++ L) hlo (by rw [ew2]; exact hP2) (by rw [ew2]; exact hD2) hS' T' e1 X'
  refine ⟨t2, hst t2 ?_, b1⟩
  rw [hre] at a1
  exact a1
theorem preK (C : Cq p s m args meth c cc nL own D cA F E A) {kT : Nat} {ksr : List Nat} {ad : Nat → Nat} {H : Heap} {locs : List Loc} (hks : ks = ksr ++ [kT]) (hP : va_P D classes (wq wd ks cA ad d) H) (hD : va_D A (wq wd ks cA ad d)) {U : State} (hU : U.heap = H) (hW : s.WarmedH U.vm) : U.heap.size = H.size ∧ WK D cA ad wd kT d H.size U := by
  subst hks
  have h1 : (wq wd (ksr ++ [kT]) cA ad d)[ksr.length]? = some (ad kT, entQ cA ad wd kT (d kT)) := wq_at (by rw [List.getElem?_append_right (Nat.le_refl _), Nat.sub_self]; rfl)
  have hP9 := hP.sub (ws' := wq wd [kT] cA ad d) [ksr.length] (by show [_].filterMap _ = _; rw [List.filterMap_cons_some h1]; rfl)
  have hD9 : va_D (va_A (wq wd [kT] cA ad d) H.size) (wq wd [kT] cA ad d) := by
    refine ⟨fun i j p q hi hj _ => ?_, fun k q hq => Or.inl ⟨k, q.2, hq⟩⟩
    have h2 := (List.getElem?_eq_some_iff.mp hi).1
    have h3 := (List.getElem?_eq_some_iff.mp hj).1
    simp only [wq, List.map_cons, List.map_nil, List.length_cons, List.length_nil] at h2 h3
    omega
  obtain ⟨-, -, -, -, hT, hK, hA, -, hO, -⟩ := C
  exact ⟨by rw [hU], by rw [hU]; exact hP9, hD9, va_K.moved hW.alike hK, hT.warm hW, va_AO.moved hW.alike hO⟩
theorem q_call (C : Cq p s m args meth c cc nL own D cA F E A) {y : MethodName} {cy : ByteArray} {mL : Nat} {rm : Room} {n : Nat} (W : MW y cy mL none n) (As : List AV) (kT : Nat) (ksr : List Nat) {ksT : List Nat} {F' : Nat → Bool} {E' : List Nat} {d' : Dt} {mc ms : Nat} (hks : ks = ksr ++ [kT]) (hM : KC l y cy mL rm wd F' E' kT ksT mc ms As d d') {ix : Nat} (hlk : Cond.methodLink own ix y ∈ lw_ok) (hin : Cond.instanceMethod y ∈ lw_ok) (hy1 : y.name = "<init>") (hR : rm.cells = mc ∧ rm.slots = ms ∧ rm.frames + 1 ≤ R.frames ∧ 8 + (mL + 11) + rm.locals ≤ R.locals) (hA : As.length = n) {st : List AV} (hst : st = As.reverse ++ (2, (kT : Int)) :: rest) (hw : (rest.map (fun v => if v.1 = 1 then 2 else 1)).sum ≤ 8) (hcs : cells + mc ≤ R.cells ∧ slots + ms ≤ R.slots)
    (hFF : ∀ k, F' k = true → F k = true ∧ k ∉ ks) (hsT : ∀ k ∈ ksT, k = kT ∨ F' k = true) (hT : kT ∈ ksT) (hE' : ∀ x ∈ E', x ∈ ks ∨ x ∈ E) (hout : ∀ k, k ∉ ksT → d' k = d k) (hok : okl E ks lo) (hor : okl E ks rest) (h3 : ∀ v ∈ rest, v.1 < 3) (hd : decode cc pc = .ok (.invokespecial ix, 3))
    (kk : Gq p l e R s m args below meth c (cells + mc) (slots + ms) Q nL D cA ad0 wd F E A (ksr ++ ksT) (pc + 3) lo rest d') : Gq p l e R s m args below meth c cells slots Q nL D cA ad0 wd F E A ks pc lo st d := by
  intro hn hRI ad ha ls H locs hl hP hD hS
  subst hst
  have hts := C.2.2.2.2.1.at (args := args)
  refine q_back C (st0 := (As.reverse ++ (2, (kT : Int)) :: rest).map (cv ad)) hks hFF hsT hT hE' hout hok hor h3 hn hRI ha hl hP hD hS (va_runI (Ts := lw_ok) (b := ad kT) (As := As.map (cv ad)) (bytes := cy) (maxL := mL) (n := n) ⟨C.1, C.2.1, C.2.2.1, C.2.2.2.1, hts⟩ (hM D cA ad H.size) ⟨callB_of n hts (goodIn_1 W.1 rfl) rfl hR.1 hR.2.1 (hts _ W.2.1) (hts _ hlk) W.2.2 hR.2.2, hy1, hts _ hin⟩ ⟨blindK, fun U hU hW => ⟨?_, preK C (locs := locs) hks hP hD hU hW⟩⟩ rfl (by rw [List.length_map]; exact hA) hl.1 ?_ (by show 2 * 0 + _ ≤ 8; rw [Nat.mul_zero, Nat.zero_add]; exact cat_le hw) hd hcs) kk
  · rw [List.map_cons, cv_r]
  · show (As.reverse ++ (2, (kT : Int)) :: rest).map (cv ad) = _
    rw [List.map_append, List.map_cons, cv_r, List.map_reverse]
theorem q_callN (C : Cq p s m args meth c cc nL own D cA F E A) {y : MethodName} {cy : ByteArray} {mL : Nat} {rm : Room} {n : Nat} {host : String} (W : MW y cy mL none n) (As : List AV) (kT : Nat) (ksr : List Nat) {ksT : List Nat} {F' : Nat → Bool} {E' : List Nat} {d' : Dt} {mc ms : Nat} (hks : ks = ksr ++ [kT]) (hM : KC l y cy mL rm wd F' E' kT ksT mc ms As d d') {ix : Nat} (hlk : Cond.methodLinkNest own ix y host ∈ lw_ok) (hin : Cond.instanceMethod y ∈ lw_ok) (hy1 : y.name = "<init>") (hR : rm.cells = mc ∧ rm.slots = ms ∧ rm.frames + 1 ≤ R.frames ∧ 8 + (mL + 11) + rm.locals ≤ R.locals) (hA : As.length = n) {st : List AV} (hst : st = As.reverse ++ (2, (kT : Int)) :: rest) (hw : (rest.map (fun v => if v.1 = 1 then 2 else 1)).sum ≤ 8) (hcs : cells + mc ≤ R.cells ∧ slots + ms ≤ R.slots)
    (hFF : ∀ k, F' k = true → F k = true ∧ k ∉ ks) (hsT : ∀ k ∈ ksT, k = kT ∨ F' k = true) (hT : kT ∈ ksT) (hE' : ∀ x ∈ E', x ∈ ks ∨ x ∈ E) (hout : ∀ k, k ∉ ksT → d' k = d k) (hok : okl E ks lo) (hor : okl E ks rest) (h3 : ∀ v ∈ rest, v.1 < 3) (hd : decode cc pc = .ok (.invokespecial ix, 3))
    (kk : Gq p l e R s m args below meth c (cells + mc) (slots + ms) Q nL D cA ad0 wd F E A (ksr ++ ksT) (pc + 3) lo rest d') : Gq p l e R s m args below meth c cells slots Q nL D cA ad0 wd F E A ks pc lo st d := by
  intro hn hRI ad ha ls H locs hl hP hD hS
  subst hst
  have hts := C.2.2.2.2.1.at (args := args)
  refine q_back C (st0 := (As.reverse ++ (2, (kT : Int)) :: rest).map (cv ad)) hks hFF hsT hT hE' hout hok hor h3 hn hRI ha hl hP hD hS (va_runIN (Ts := lw_ok) (host := host) (b := ad kT) (As := As.map (cv ad)) (bytes := cy) (maxL := mL) (n := n) ⟨C.1, C.2.1, C.2.2.1, C.2.2.2.1, hts⟩ (hM D cA ad H.size) ⟨va_cnB n hts (goodIn_1 W.1 rfl) rfl hR.1 hR.2.1 (C.2.2.2.2.1 _ hlk) (hts _ W.2.1) W.2.2 hR.2.2, hy1, hts _ hin⟩ ⟨blindK, fun U hU hW => ⟨?_, preK C (locs := locs) hks hP hD hU hW⟩⟩ rfl (by rw [List.length_map]; exact hA) hl.1 ?_ (by show 2 * 0 + _ ≤ 8; rw [Nat.mul_zero, Nat.zero_add]; exact cat_le hw) hd hcs) kk
  · rw [List.map_cons, cv_r]
  · show (As.reverse ++ (2, (kT : Int)) :: rest).map (cv ad) = _
    rw [List.map_append, List.map_cons, cv_r, List.map_reverse]
/-- Arrays.fill of one row of ints, in the middle of a making -/
theorem q_fill (C : Cq p s m args meth c cc nL own D cA F E A) {y : MethodName} {cy : ByteArray} {mL : Nat} {rm : Room} (Wm : MW y cy mL none 2) (wf k i N : Nat) {v : Int} {d2 d2' : Dt} (isR ksr : List Nat) (hi : ks[i]? = some k) (hcd : cd wd k = (20, N)) (hwf : wf = 2 ∨ wf = 3) (hcf : cd wf 0 = (20, N)) (hCN : CN wf d2) (hd2 : d2 0 = d k) (hM : MC l y cy mL none rm wf [(2, 0), (0, v)] d2 none d2')
    (hRR : isR.map (fun j => ks[j]?) = ksr.map some) (hnd : va_nd isR = true) (hdis : ∀ j ∈ isR, j ∉ [i]) (hn2 : (ksr ++ [k]).Nodup) (hsub : ∀ x ∈ ksr ++ [k], x ∈ ks) (hsup : ∀ x ∈ ks, x ∈ ksr ++ [k]) (hkr : k ∉ ksr)
    {ix : Nat} (hlk : Cond.methodLink own ix y ∈ lw_ok) (hin : Cond.static y ∈ lw_ok) (hR : rm.cells = 0 ∧ rm.slots = 0 ∧ rm.frames + 1 ≤ R.frames ∧ 8 + (mL + 11) + rm.locals ≤ R.locals) (hcs : cells ≤ R.cells ∧ slots ≤ R.slots) (hd : decode cc pc = .ok (.invokestatic ix, 3))
    (kk : Gq p l e R s m args below meth c cells slots Q nL D cA ad0 wd F E A (ksr ++ [k]) (pc + 3) lo [] (fun q => if q = k then d2' 0 else d q)) : Gq p l e R s m args below meth c cells slots Q nL D cA ad0 wd F E A ks pc lo [(0, v), (2, (k : Int))] d := by
  intro hn hRI ad ha ls H locs hl hP hD hS
  have hts := C.2.2.2.2.1.at (args := args)
  have hw1 : wf ≠ 0 ∧ wf ≠ 1 := by rcases hwf with rfl | rfl <;> decide
  have hnO : ∀ dd : Dt, nOf wf dd = 1 := fun dd => by unfold nOf; rw [if_neg hw1.1, if_neg hw1.2]
  have e2 : ∀ dd : Dt, wld wf cA (fun _ => ad k) dd = [(ad k, .inl (cA 0, N, .inl (fun j => Int32.ofInt (dd 0 j))))] := by
    intro dd
    unfold wld
    rw [hnO dd]
    show [(ad k, ent cA (fun _ => ad k) wf 0 (dd 0))] = _
    rw [ent_arr hcf (by decide)]; rfl
  have hat := wq_at (wd := wd) (cA := cA) (ad := ad) (d := d) hi
  rw [entQ_arr hcd (by decide)] at hat
  have hat : (wq wd ks cA ad d)[i]? = some (ad k, .inl (cA 0, N, .inl (fun j => Int32.ofInt (d k j)))) := hat
  have ew : wld wf cA (fun _ => ad k) d2 = [(ad k, .inl (cA 0, N, .inl (fun j => Int32.ofInt (d k j))))] := by rw [e2 d2, hd2]
  have hP9 : va_P D classes (wld wf cA (fun _ => ad k) d2) H := by
    rw [ew]
    exact hP.sub [i] (by show [_].filterMap _ = _; rw [List.filterMap_cons_some hat]; rfl)
  have hEX : ∀ (B : Nat → Prop) (U : State), EX wf (fun _ => ad k) B U U.heap := fun B U => ⟨fun h => absurd h hw1.1, fun h => absurd h hw1.2⟩
  have hrun := va_runS (p := p) (l := l) (e := e) (R := R) (s := s) (m := m) (args := args) (below := below) (meth := meth) (c := c) (H := H) (locs := locs) (cells := cells) (slots := slots) (Ts := lw_ok) (As := [.ref (ad k), .int (Int32.ofInt v)]) (rest := []) (g := F0 m pc ls [.int (Int32.ofInt v), .ref (ad k)]) (bytes := cy) (maxL := mL) (ret := none) (n := 2) ⟨C.1, C.2.1, C.2.2.1, C.2.2.2.1, hts⟩ (hM D cA (fun _ => ad k) H.size) ⟨callB_of 2 hts (goodIn_1 Wm.1 rfl) rfl hR.1 hR.2.1 (hts _ Wm.2.1) (hts _ hlk) Wm.2.2 hR.2.2, hts _ hin⟩ ⟨blind, fun U hU hW => ⟨by rfl, ⟨by rw [hU], ⟨by rw [hU]; exact hP9, (by
    rw [ew]
    refine ⟨fun i j p q hi hj _ => ?_, fun k q hq => Or.inl ⟨k, q.2, hq⟩⟩
    have h2 := (List.getElem?_eq_some_iff.mp hi).1
    have h3 := (List.getElem?_eq_some_iff.mp hj).1
    simp only [List.length_cons, List.length_nil] at h2 h3
    omega), hCN⟩, va_K.moved hW.alike C.2.2.2.2.2.1, C.2.2.2.2.1.warm hW, hEX _ U⟩⟩⟩ rfl rfl hl.1 rfl (by show 2 * 0 + 0 ≤ 8; omega) hd hcs
  have hq0 : cv ad (2, (k : Int)) = .ref (ad k) := cv_r ad k
  show W p l e R s m args below meth c H locs cells slots Q (F0 m pc ls [cv ad (0, v), cv ad (2, (k : Int))])
  rw [hq0]
  intro T hT0 X
  obtain ⟨v0, st₀, t, T', L, h0, X', hL, e1, e3, ⟨hv0, hHt, ⟨hz, hk⟩, -⟩, hst⟩ := hrun T hT0 X
  cases v0 with
  | some v0 => cases hv0
  | none =>
  rw [h0] at hz hk
  have hwd : wq wd ksr cA ad (fun q => if q = k then d2' 0 else d q) = wq wd ksr cA ad d := by
    unfold wq
    apply List.map_congr_left
    intro q hq
    have hqk : q ≠ k := fun e => hkr (e ▸ hq)
    show (ad q, entQ cA ad wd q (if q = k then d2' 0 else d q)) = _
    rw [if_neg hqk]
  have hF9 : ∀ q, va_A (wld wf cA (fun _ => ad k) d2) H.size q → A q := by
    rw [ew]
    intro q h
    rcases h with ⟨j, en, h⟩ | h
    · have hj := (List.getElem?_eq_some_iff.mp h).1
      simp only [List.length_cons, List.length_nil] at hj
      have hj0 : j = 0 := by omega
      subst hj0
      cases h
      exact hD.2 i _ hat
    · exact C.2.2.2.2.2.2.1 q (Nat.le_trans hS.1 h)
  have hP1 : va_P D classes [(ad k, .inl (cA 0, N, .inl (fun j => Int32.ofInt (d2' 0 j))))] t.heap := by rw [← e2 d2']; exact hHt.1
  have hD1 : va_D (va_A (wld wf cA (fun _ => ad k) d2) H.size) [(ad k, .inl (cA 0, N, .inl (fun j => Int32.ofInt (d2' 0 j))))] := by rw [← e2 d2']; exact hHt.2.1
  rw [ew] at hk hD1 hF9 hL
  obtain ⟨hP2, hD2⟩ := va_join (wr := wq wd ksr cA ad d) hP hD [i] isR (by show [(wq wd ks cA ad d)[i]?] = _; rw [hat]; rfl) (by
    have h1 : isR.map (fun j => (wq wd ks cA ad d)[j]?) = (isR.map (fun j => ks[j]?)).map (Option.map (fun k => (ad k, entQ cA ad wd k (d k)))) := by
      rw [List.map_map]
      apply List.map_congr_left
      intro j _
      unfold wq
      rw [List.getElem?_map]; rfl
    rw [h1, hRR, List.map_map]
    unfold wq
    rw [List.map_map]; rfl) hnd hdis hk hF9 hP1 hD1
  have ew2 : wq wd (ksr ++ [k]) cA ad (fun q => if q = k then d2' 0 else d q) = wq wd ksr cA ad d ++ [(ad k, .inl (cA 0, N, .inl (fun j => Int32.ofInt (d2' 0 j))))] := by
    rw [← hwd]
    unfold wq
    rw [List.map_append]
    congr 1
    show [(ad k, entQ cA ad wd k (if k = k then d2' 0 else d k))] = _
    rw [if_pos rfl, entQ_arr hcd (by decide)]; rfl
  have hS' : va_S A s.heap t.heap (locs ++ L) := ⟨Nat.le_trans hS.1 hz, fun q h1 h2 => by rw [hk q (Nat.lt_of_lt_of_le h1 hS.1) (fun z => h2 (hF9 q z))]; exact hS.2.1 q h1 h2, fun q hq => by
      rcases List.mem_append.mp hq with h | h
      · exact hS.2.2 q h
      · exact hF9 _ (hL q h)⟩
  have hRI2 : RI wd E (ksr ++ [k]) (fun q => if q = k then d2' 0 else d q) := by
    intro q hq j hj
    by_cases hqk : q = k
    · subst hqk
      exact absurd hj (isRf_a hcd (by decide))
    · show okr E (ksr ++ [k]) ((if q = k then d2' 0 else d q) j)
      rw [if_neg hqk]
      rcases hRI q (hsub q hq) j hj with h1 | h1 | h1
      · exact Or.inl h1
      · exact Or.inr (Or.inl (hsup _ h1))
      · exact Or.inr (Or.inr h1)
  obtain ⟨t2, a1, b1⟩ := kk hn2 hRI2 ad ha ls t.heap (locs ++ L) hl (by rw [ew2]; exact hP2) (by rw [ew2]; exact hD2) hS' T' e1 X'
  exact ⟨t2, hst t2 a1, b1⟩
end MAKE
