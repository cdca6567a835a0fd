/-! the world of data, and the machine's goal over it -/
def orf (ad : Nat → Nat) (x : Int) : Option Nat := if x < 0 then none else some (ad x.toNat)
def cv (ad : Nat → Nat) (v : AV) : Value := match v.1 with
  | 0 => .int (Int32.ofInt v.2)
  | 1 => .long (Int64.ofInt v.2)
  | _ => va_rf (orf ad v.2)
theorem cv_r (ad : Nat → Nat) (k : Nat) : cv ad (2, (k : Int)) = .ref (ad k) := by
  show va_rf (orf ad (k : Int)) = _
  have h : ¬ ((k : Int) < 0) := by omega
  simp [orf, h, va_rf]
def fv (ad : Nat → Nat) (c k : Nat) (f : Nat → Int) (j : Nat) : Value := match ft c j with
  | 0 => .int (Int32.ofInt (f j))
  | 1 => .long (Int64.ofInt (f j))
  | 2 => .int (Int32.ofInt (f j))
  | 3 => .ref (ad (rf c k j))
  | _ => va_rf (orf ad (f j))
def entA (cA : Nat → ClassId) (ad : Nat → Nat) (t n : Nat) (f : Nat → Int) : ClassId × vp_A := match t with
  | 20 => (cA 0, n, .inl (fun j => Int32.ofInt (f j)))
  | 21 => (cA 1, n, .inr (.inl (fun j => Int64.ofInt (f j))))
  | 22 => (cA 2, n, .inl (fun j => Int32.ofInt (f j)))
  | 23 => (cA 3, n, .inl (fun j => Int32.ofInt (f j)))
  | _ => (cA 4, n, .inr (.inr (.inr (.inr (fun j => orf ad (f j))))))
def ent (cA : Nat → ClassId) (ad : Nat → Nat) (wd k : Nat) (f : Nat → Int) : va_E :=
  if (cd wd k).1 < 20 then .inr ((cd wd k).1, (List.range (nf (cd wd k).1)).map (fv ad (cd wd k).1 k f)) else .inl (entA cA ad (cd wd k).1 (cd wd k).2 f)
def wld (wd : Nat) (cA : Nat → ClassId) (ad : Nat → Nat) (d : Dt) : va_W := (List.range (nOf wd d)).map (fun k => (ad k, ent cA ad wd k (d k)))
def cnk (t : Nat × Nat) (j : Nat) (x : Int) : Prop := match t.1 with
  | 20 => c32 x
  | 21 => c64 x
  | 22 => -128 ≤ x ∧ x < 128
  | 23 => cb x
  | 24 => True
  | c => match ft c j with
    | 0 => c32 x
    | 1 => c64 x
    | 2 => cb x
    | _ => True
def CN (wd : Nat) (d : Dt) : Prop := (∀ k j, cnk (cd wd k) j (d k j)) ∧ 0 ≤ d GH 0 ∧ d GH 0 ≤ 6
def tysOf (cA : Nat → ClassId) : List (ClassId × FieldType) := [(cA 0, .int), (cA 1, .long), (cA 2, .byte), (cA 3, .boolean), (cA 4, .object "PollBooks$Statute")]
def TB (U : State) : Prop := ∀ w ∈ lw_ok, va_Nw w U
def HP (D : va_G) (cA : Nat → ClassId) (ad : Nat → Nat) (wd : Nat) (A : Nat → Prop) (d : Dt) (H : Heap) : Prop := va_P D classes (wld wd cA ad d) H ∧ va_D A (wld wd cA ad d) ∧ CN wd d
def LR (ad : Nat → Nat) (ls : Array Slot) (nL : Nat) (lo : List AV) : Prop := ls.size = nL ∧ lv_wf ls ∧ ∀ (i : Nat) (v : AV), lo[i]? = some v → v.1 < 3 → ls[i]? = some (.val (cv ad v))
/-! the static arrays and the texts that nobody writes: their addresses are ad's from GH on -/
def kwT (id : Nat) : List Int := match id with
  | 1000001 => [21091364019, 13369, 719722099, 2098, 736548, 14726323, 8902227, 655, 498, 1476, 14836]
  | 1000002 => [394692, 17186451, 267652, 20459828, 21562501, 277925, 525604, 446125701, 4153]
  | 1000005 => [32, 115, 116, 114, 105, 107, 101, 115, 32, 109, 97, 121, 32, 98, 97, 114, 32, 118, 111, 105, 100, 32, 110, 97, 109, 101, 115, 32, 104, 111, 117, 114, 115, 32, 117, 110, 108, 101, 115, 115, 32, 116, 111, 32, 111, 114, 32, 97, 110, 100, 32, 110, 111, 116, 32]
  | 1000006 => [32, 108, 97, 110, 100, 32, 112, 108, 111, 116, 115, 32, 104, 101, 108, 100, 32, 115, 112, 108, 105, 116, 32, 116, 114, 97, 100, 101, 32, 104, 111, 109, 101, 32, 112, 97, 105, 100, 32, 109, 105, 110, 117, 116, 101, 32, 100, 97, 121, 32]
  | _ => []
def kw (id j : Nat) : Int := (kwT id).getD j 0
def EX0 (ad : Nat → Nat) (A : Nat → Prop) (U : State) (H : Heap) : Prop :=
  (va_Z "PollBooks$Parser" "KEYWORDS" "[J" (.ref (ad 1000001)) A U H ∧ va_T .long (ad 1000001) 11 (fun j => .long (Int64.ofInt (kw 1000001 j))) A U H) ∧
  (va_Z "PollBooks$Parser" "VARIABLES" "[J" (.ref (ad 1000002)) A U H ∧ va_T .long (ad 1000002) 9 (fun j => .long (Int64.ofInt (kw 1000002 j))) A U H)
def EXs (ad : Nat → Nat) (ix : Nat) (tx : String) (i L : Nat) (A : Nat → Prop) (U : State) (H : Heap) : Prop :=
  vk_R "PollBooksModel" ix tx (ad (1000003 + i)) U ∧ va_O "java/lang/String" (ad (1000003 + i)) A U H ∧ va_OF "java/lang/String" "coder" "B" (.int 0) (ad (1000003 + i)) A U H ∧ va_OF "java/lang/String" "value" "[B" (.ref (ad (1000005 + i))) (ad (1000003 + i)) A U H ∧ va_T .byte (ad (1000005 + i)) L (fun j => .int (Int32.ofInt (kw (1000005 + i) j))) A U H
def EX1 (ad : Nat → Nat) (A : Nat → Prop) (U : State) (H : Heap) : Prop :=
  EXs ad 408 " strikes may bar void names hours unless to or and not " 0 55 A U H ∧ EXs ad 429 " land plots held split trade home paid minute day " 1 50 A U H ∧ va_Z "java/lang/String" "COMPACT_STRINGS" "Z" (.int 1) A U H ∧ (va_Z "jdk/internal/util/Preconditions" "SIOOBE_FORMATTER" "Ljava/util/function/BiFunction;" .null A U H ∨ va_Z "jdk/internal/util/Preconditions" "SIOOBE_FORMATTER" "Ljava/util/function/BiFunction;" (.ref (ad 1000007)) A U H)
theorem EX0.moved {ad : Nat → Nat} {A : Nat → Prop} {u U : State} {H : Heap} (hW : u.WarmedH U.vm) (h : EX0 ad A u H) : EX0 ad A U H := ⟨⟨h.1.1.moved hW.alike, h.1.2.moved hW.alike⟩, ⟨h.2.1.moved hW.alike, h.2.2.moved hW.alike⟩⟩
theorem al_same {u U : State} (hv : U.vm = u.vm) : u.vm.Alike U.vm := by rw [hv]; exact Vm.Alike.refl u.vm
theorem EX0.same {ad : Nat → Nat} {A : Nat → Prop} {u U : State} {H : Heap} (hv : U.vm = u.vm) (h : EX0 ad A u H) : EX0 ad A U H := ⟨⟨h.1.1.moved (al_same hv), h.1.2.moved (al_same hv)⟩, ⟨h.2.1.moved (al_same hv), h.2.2.moved (al_same hv)⟩⟩
theorem EX0.kept {ad : Nat → Nat} {A : Nat → Prop} {U : State} {H H1 : Heap} (h : EX0 ad A U H) (hq : ∀ a : Nat, a < H.size → ¬ A a → H1[a]? = H[a]?) : EX0 ad A U H1 := ⟨⟨h.1.1.kept hq, h.1.2.kept hq⟩, ⟨h.2.1.kept hq, h.2.2.kept hq⟩⟩
theorem EX0.narrow {ad : Nat → Nat} {A B : Nat → Prop} {U : State} {H : Heap} (h : EX0 ad A U H) (hAB : ∀ q, B q → A q) : EX0 ad B U H := ⟨⟨h.1.1.narrow hAB, h.1.2.narrow hAB⟩, ⟨h.2.1.narrow hAB, h.2.2.narrow hAB⟩⟩
theorem EXs.moved {ad : Nat → Nat} {ix : Nat} {tx : String} {i L : Nat} {A : Nat → Prop} {u U : State} {H : Heap} (hW : u.WarmedH U.vm) (h : EXs ad ix tx i L A u H) : EXs ad ix tx i L A U H := ⟨h.1.warm hW, h.2.1.moved hW.alike, h.2.2.1.moved hW.alike, h.2.2.2.1.moved hW.alike, h.2.2.2.2.moved hW.alike⟩
theorem EXs.same {ad : Nat → Nat} {ix : Nat} {tx : String} {i L : Nat} {A : Nat → Prop} {u U : State} {H : Heap} (hv : U.vm = u.vm) (h : EXs ad ix tx i L A u H) : EXs ad ix tx i L A U H := ⟨h.1.same hv, h.2.1.moved (al_same hv), h.2.2.1.moved (al_same hv), h.2.2.2.1.moved (al_same hv), h.2.2.2.2.moved (al_same hv)⟩
theorem EXs.kept {ad : Nat → Nat} {ix : Nat} {tx : String} {i L : Nat} {A : Nat → Prop} {U : State} {H H1 : Heap} (h : EXs ad ix tx i L A U H) (hq : ∀ a : Nat, a < H.size → ¬ A a → H1[a]? = H[a]?) : EXs ad ix tx i L A U H1 := ⟨h.1, h.2.1.kept hq, h.2.2.1.kept hq, h.2.2.2.1.kept hq, h.2.2.2.2.kept hq⟩
theorem EXs.narrow {ad : Nat → Nat} {ix : Nat} {tx : String} {i L : Nat} {A B : Nat → Prop} {U : State} {H : Heap} (h : EXs ad ix tx i L A U H) (hAB : ∀ q, B q → A q) : EXs ad ix tx i L B U H := ⟨h.1, h.2.1.narrow hAB, h.2.2.1.narrow hAB, h.2.2.2.1.narrow hAB, h.2.2.2.2.narrow hAB⟩
theorem EX1.moved {ad : Nat → Nat} {A : Nat → Prop} {u U : State} {H : Heap} (hW : u.WarmedH U.vm) (h : EX1 ad A u H) : EX1 ad A U H := ⟨h.1.moved hW, h.2.1.moved hW, h.2.2.1.moved hW.alike, h.2.2.2.imp (fun z => z.moved hW.alike) (fun z => z.moved hW.alike)⟩
theorem EX1.same {ad : Nat → Nat} {A : Nat → Prop} {u U : State} {H : Heap} (hv : U.vm = u.vm) (h : EX1 ad A u H) : EX1 ad A U H := ⟨h.1.same hv, h.2.1.same hv, h.2.2.1.moved (al_same hv), h.2.2.2.imp (fun z => z.moved (al_same hv)) (fun z => z.moved (al_same hv))⟩
theorem EX1.kept {ad : Nat → Nat} {A : Nat → Prop} {U : State} {H H1 : Heap} (h : EX1 ad A U H) (hq : ∀ a : Nat, a < H.size → ¬ A a → H1[a]? = H[a]?) : EX1 ad A U H1 := ⟨h.1.kept hq, h.2.1.kept hq, h.2.2.1.kept hq, h.2.2.2.imp (fun z => z.kept hq) (fun z => z.kept hq)⟩
theorem EX1.narrow {ad : Nat → Nat} {A B : Nat → Prop} {U : State} {H : Heap} (h : EX1 ad A U H) (hAB : ∀ q, B q → A q) : EX1 ad B U H := ⟨h.1.narrow hAB, h.2.1.narrow hAB, h.2.2.1.narrow hAB, h.2.2.2.imp (fun z => z.narrow hAB) (fun z => z.narrow hAB)⟩
def EX (wd : Nat) (ad : Nat → Nat) (A : Nat → Prop) (U : State) (H : Heap) : Prop :=
  (wd = 0 → EX0 ad A U H) ∧ (wd = 1 → EX1 ad A U H)
theorem EX.moved {wd : Nat} {ad : Nat → Nat} {A : Nat → Prop} {u U : State} {H : Heap} (hW : u.WarmedH U.vm) (h : EX wd ad A u H) : EX wd ad A U H := ⟨fun e => (h.1 e).moved hW, fun e => (h.2 e).moved hW⟩
theorem EX.same {wd : Nat} {ad : Nat → Nat} {A : Nat → Prop} {u U : State} {H : Heap} (hv : U.vm = u.vm) (h : EX wd ad A u H) : EX wd ad A U H := ⟨fun e => (h.1 e).same hv, fun e => (h.2 e).same hv⟩
theorem EX.kept {wd : Nat} {ad : Nat → Nat} {A : Nat → Prop} {U : State} {H H1 : Heap} (h : EX wd ad A U H) (hq : ∀ a : Nat, a < H.size → ¬ A a → H1[a]? = H[a]?) : EX wd ad A U H1 := ⟨fun e => (h.1 e).kept hq, fun e => (h.2 e).kept hq⟩
theorem EX.narrow {wd : Nat} {ad : Nat → Nat} {A B : Nat → Prop} {U : State} {H : Heap} (h : EX wd ad A U H) (hAB : ∀ q, B q → A q) : EX wd ad B U H := ⟨fun e => (h.1 e).narrow hAB, fun e => (h.2 e).narrow hAB⟩
theorem TB.at {U : State} {args : Array Value} (h : TB U) : ∀ w ∈ lw_ok, w.before args U = true := by
  intro w hw
  have h1 := h w hw
  have h2 := (List.mem_filter.mp hw).2
  cases w <;> first | exact va_Nw.use rfl h1 | exact h1 | (exfalso; revert h2; simp [okw, goodWord, nest, Cond.onTables]; done)
theorem TB.warm {s U : State} (hW : s.WarmedH U.vm) (h : TB s) : TB U := by
  intro w hw
  have h1 := h w hw
  have h2 := (List.mem_filter.mp hw).2
  simp only [okw, Bool.or_eq_true] at h2
  rcases h2 with h2 | h2
  · exact word_at hW (good_of_word h2) h1
  · cases w <;> first | exact va_Nw.warmF hW h1 | exact va_Nw.warmM hW h1 | (exfalso; revert h2; simp [nest]; done)
theorem TB.same {u U : State} (hv : u.vm = U.vm) (h : TB u) : TB U := by
  intro w hw
  have h1 := h w hw
  have h2 := (List.mem_filter.mp hw).2
  cases w <;> first | exact va_Nw.same rfl hv h1 | (exact word_at (a' := #[]) (s := u) (U := U) (by rw [← hv]; exact State.WarmedH.refl u) (Or.inr ⟨_, rfl⟩) h1) | (exfalso; revert h2; simp [okw, goodWord, nest, Cond.onTables]; done)
theorem wld_at {wd : Nat} {cA : Nat → ClassId} {ad : Nat → Nat} {d : Dt} {k : Nat} (h : k < nOf wd d) : (wld wd cA ad d)[k]? = some (ad k, ent cA ad wd k (d k)) := by
  unfold wld
  rw [List.getElem?_map, List.getElem?_range h]; rfl
theorem wld_len {wd : Nat} {cA : Nat → ClassId} {ad : Nat → Nat} {d : Dt} : (wld wd cA ad d).length = nOf wd d := by
  unfold wld; rw [List.length_map, List.length_range]
theorem nOf_up {wd : Nat} {d : Dt} {k j : Nat} {v : Int} (hC : CN wd d) (h : k < nOf wd d) : nOf wd (up2 d k j v) = nOf wd d := by
  have hk : GH ≠ k := by
    intro e
    unfold nOf at h
    have h1 := hC.2.1
    have h2 := hC.2.2
    subst e
    split at h
    · have h3 : (d GH 0).toNat ≤ 6 := by omega
      have h4 : GH = 1000000 := rfl
      omega
    · have h4 : GH = 1000000 := rfl
      split at h <;> omega
  unfold nOf
  rw [up2_k d j 0 v hk]
theorem wld_set {wd : Nat} {cA : Nat → ClassId} {ad : Nat → Nat} {d d' : Dt} {k : Nat} (hn : nOf wd d' = nOf wd d) (ho : ∀ q, q ≠ k → d' q = d q) : (wld wd cA ad d).set k (ad k, ent cA ad wd k (d' k)) = wld wd cA ad d' := by
  apply List.ext_getElem?
  intro i
  rw [List.getElem?_set]
  unfold wld
  rw [hn]
  simp only [List.length_map, List.length_range, List.getElem?_map]
  by_cases hi : k = i
  · subst hi
    rw [if_pos rfl]
    by_cases hl : k < nOf wd d
    · rw [if_pos hl, List.getElem?_range hl]; rfl
    · rw [if_neg hl, List.getElem?_eq_none (by rw [List.length_range]; omega)]; rfl
  · rw [if_neg hi]
    by_cases hl : i < nOf wd d
    · rw [List.getElem?_range hl]
      show some (ad i, ent cA ad wd i (d i)) = some (ad i, ent cA ad wd i (d' i))
      rw [ho i (fun e => hi e.symm)]
    · rw [List.getElem?_eq_none (by rw [List.length_range]; omega)]; rfl
theorem CN.up {wd : Nat} {d : Dt} {k j : Nat} {v : Int} (hC : CN wd d) (hn : k < nOf wd d) (hv : cnk (cd wd k) j v) : CN wd (up2 d k j v) := by
  refine ⟨fun k' j' => ?_, ?_⟩
  · unfold up2
    by_cases h1 : k' = k
    · subst h1
      rw [if_pos rfl]
      by_cases h2 : j' = j
      · subst h2; simp only [if_true]; exact hv
      · simp only [h2, if_false]; exact hC.1 k' j'
    · rw [if_neg h1]; exact hC.1 k' j'
  · have hk : GH ≠ k := by
      intro e
      have h1 := hC.2.1
      have h2 := hC.2.2
      have h4 : GH = 1000000 := rfl
      subst e
      unfold nOf at hn
      split at hn
      · omega
      · split at hn <;> omega
    rw [up2_k d j 0 v hk]; exact hC.2
section MACH
variable {p : Program} {l : Launch} {e : Env} {R : Room} {s : State} {m : MethodId} {args : Array Value} {below : List Frame} {meth : Method} {c : Code} {cells slots : Nat} {Q : State → Prop} {cc : ByteArray} {nL : Nat} {own : String} {D : va_G} {cA : Nat → ClassId} {ad : Nat → Nat} {wd : Nat} {A : Nat → Prop}
variable {pc : Nat} {lo rest : List AV} {d : Dt}
def Cx (p : Program) (s : State) (m : MethodId) (args : Array Value) (c : Code) (cc : ByteArray) (nL : Nat) (own : String) (D : va_G) (cA : Nat → ClassId) (ad : Nat → Nat) (wd : Nat) (A : Nat → Prop) : Prop :=
  p.tables.exec = Jvm.exec ∧ c.code = cc ∧ c.maxLocals = nL ∧ s.vm.findClass own = some m.cls ∧ TB s ∧ va_K D classes (tysOf cA) s ∧ (∀ q, s.heap.size ≤ q → A q) ∧ EX wd ad A s s.heap
def G (p : Program) (l : Launch) (e : Env) (R : Room) (s : State) (m : MethodId) (args : Array Value) (below : List Frame) (meth : Method) (c : Code) (cells slots : Nat) (Q : State → Prop) (nL : Nat) (D : va_G) (cA : Nat → ClassId) (ad : Nat → Nat) (wd : Nat) (A : Nat → Prop) (pc : Nat) (lo st : List AV) (d : Dt) : Prop :=
  ∀ (ls : Array Slot) (H : Heap) (locs : List Loc), LR ad ls nL lo → HP D cA ad wd A d H → va_S A s.heap H locs → W p l e R s m args below meth c H locs cells slots Q (F0 m pc ls (st.map (cv ad)))
/-! constants, loads, stores -/
theorem g_iconst (C : Cx p s m args c cc nL own D cA ad wd A) (n : Int) (hn : c32 n) (hd : decode cc pc = .ok (.iconst n, 1)) (k : G p l e R s m args below meth c cells slots Q nL D cA ad wd A (pc + 1) lo ((0, n) :: rest) d) : G p l e R s m args below meth c cells slots Q nL D cA ad wd A pc lo rest d :=
  fun ls H locs hl hH hS => lv_iconst C.1 C.2.1 hd rfl (k ls H locs hl hH hS)
theorem g_bipush (C : Cx p s m args c cc nL own D cA ad wd A) (n : Int) (hn : (Int8.ofInt n).toInt32 = Int32.ofInt n) (hd : decode cc pc = .ok (.bipush n, 2)) (k : G p l e R s m args below meth c cells slots Q nL D cA ad wd A (pc + 2) lo ((0, n) :: rest) d) : G p l e R s m args below meth c cells slots Q nL D cA ad wd A pc lo rest d :=
  fun ls H locs hl hH hS => lv_bipush C.1 C.2.1 hd hn (k ls H locs hl hH hS)
theorem g_sipush (C : Cx p s m args c cc nL own D cA ad wd A) (n : Int) (hn : (Int16.ofInt n).toInt32 = Int32.ofInt n) (hd : decode cc pc = .ok (.sipush n, 3)) (k : G p l e R s m args below meth c cells slots Q nL D cA ad wd A (pc + 3) lo ((0, n) :: rest) d) : G p l e R s m args below meth c cells slots Q nL D cA ad wd A pc lo rest d :=
  fun ls H locs hl hH hS => lv_sipush C.1 C.2.1 hd hn (k ls H locs hl hH hS)
theorem g_lconst (C : Cx p s m args c cc nL own D cA ad wd A) (n : Fin 2) {v : Int} (hn : Int64.ofNat (n : Nat) = Int64.ofInt v) (hd : decode cc pc = .ok (.lconst n, 1)) (k : G p l e R s m args below meth c cells slots Q nL D cA ad wd A (pc + 1) lo ((1, v) :: rest) d) : G p l e R s m args below meth c cells slots Q nL D cA ad wd A pc lo rest d :=
  fun ls H locs hl hH hS => lv_lconst C.1 C.2.1 hd hn (k ls H locs hl hH hS)
theorem g_ldcw (C : Cx p s m args c cc nL own D cA ad wd A) {ix : Nat} {v : Int} (hw : Cond.constant own ix (Int32.ofInt v) ∈ lw_ok) (hd : decode cc pc = .ok (.ldc_w ix, 3)) (k : G p l e R s m args below meth c cells slots Q nL D cA ad wd A (pc + 3) lo ((0, v) :: rest) d) : G p l e R s m args below meth c cells slots Q nL D cA ad wd A pc lo rest d :=
  fun ls H locs hl hH hS => lv_ldcw C.1 C.2.1 C.2.2.2.1 (C.2.2.2.2.1.at _ hw) hd (k ls H locs hl hH hS)
theorem g_ldc (C : Cx p s m args c cc nL own D cA ad wd A) {ix : Nat} {v : Int} (hw : Cond.constant own ix (Int32.ofInt v) ∈ lw_ok) (hd : decode cc pc = .ok (.ldc ix, 2)) (k : G p l e R s m args below meth c cells slots Q nL D cA ad wd A (pc + 2) lo ((0, v) :: rest) d) : G p l e R s m args below meth c cells slots Q nL D cA ad wd A pc lo rest d :=
  fun ls H locs hl hH hS => lv_ldc C.1 C.2.1 C.2.2.2.1 (C.2.2.2.2.1.at _ hw) hd (k ls H locs hl hH hS)
theorem g_ldc2 (C : Cx p s m args c cc nL own D cA ad wd A) {ix : Nat} {v : Int} (hw : Cond.constantLong own ix (Int64.ofInt v) ∈ lw_ok) (hd : decode cc pc = .ok (.ldc2_w ix, 3)) (k : G p l e R s m args below meth c cells slots Q nL D cA ad wd A (pc + 3) lo ((1, v) :: rest) d) : G p l e R s m args below meth c cells slots Q nL D cA ad wd A pc lo rest d :=
  fun ls H locs hl hH hS => lv_ldc2 C.1 C.2.1 C.2.2.2.1 (C.2.2.2.2.1.at _ hw) hd (k ls H locs hl hH hS)
theorem g_null (C : Cx p s m args c cc nL own D cA ad wd A) (hd : decode cc pc = .ok (.aconst_null, 1)) (k : G p l e R s m args below meth c cells slots Q nL D cA ad wd A (pc + 1) lo ((2, -1) :: rest) d) : G p l e R s m args below meth c cells slots Q nL D cA ad wd A pc lo rest d :=
  fun ls H locs hl hH hS => lv_null C.1 C.2.1 hd (k ls H locs hl hH hS)
theorem g_iload_n (C : Cx p s m args c cc nL own D cA ad wd A) (i : Fin 4) {x : Int} (h : lo[(i : Nat)]? = some (0, x)) (hd : decode cc pc = .ok (.iload_n i, 1)) (k : G p l e R s m args below meth c cells slots Q nL D cA ad wd A (pc + 1) lo ((0, x) :: rest) d) : G p l e R s m args below meth c cells slots Q nL D cA ad wd A pc lo rest d :=
  fun ls H locs hl hH hS => lv_iload_n C.1 C.2.1 hd rfl (hl.2.2 _ _ h (by decide : (0 : Nat) < 3)) (k ls H locs hl hH hS)
theorem g_iload (C : Cx p s m args c cc nL own D cA ad wd A) (i : Nat) {x : Int} (h : lo[i]? = some (0, x)) (hd : decode cc pc = .ok (.iload i, 2)) (k : G p l e R s m args below meth c cells slots Q nL D cA ad wd A (pc + 2) lo ((0, x) :: rest) d) : G p l e R s m args below meth c cells slots Q nL D cA ad wd A pc lo rest d :=
  fun ls H locs hl hH hS => lv_iload C.1 C.2.1 hd (hl.2.2 _ _ h (by decide : (0 : Nat) < 3)) (k ls H locs hl hH hS)
theorem g_lload_n (C : Cx p s m args c cc nL own D cA ad wd A) (i : Fin 4) {x : Int} (h : lo[(i : Nat)]? = some (1, x)) (hd : decode cc pc = .ok (.lload_n i, 1)) (k : G p l e R s m args below meth c cells slots Q nL D cA ad wd A (pc + 1) lo ((1, x) :: rest) d) : G p l e R s m args below meth c cells slots Q nL D cA ad wd A pc lo rest d :=
  fun ls H locs hl hH hS => lv_lload_n C.1 C.2.1 hd rfl (hl.2.2 _ _ h (by decide : (1 : Nat) < 3)) (k ls H locs hl hH hS)
theorem g_lload (C : Cx p s m args c cc nL own D cA ad wd A) (i : Nat) {x : Int} (h : lo[i]? = some (1, x)) (hd : decode cc pc = .ok (.lload i, 2)) (k : G p l e R s m args below meth c cells slots Q nL D cA ad wd A (pc + 2) lo ((1, x) :: rest) d) : G p l e R s m args below meth c cells slots Q nL D cA ad wd A pc lo rest d :=
  fun ls H locs hl hH hS => lv_lload C.1 C.2.1 hd (hl.2.2 _ _ h (by decide : (1 : Nat) < 3)) (k ls H locs hl hH hS)
theorem g_aload_n (C : Cx p s m args c cc nL own D cA ad wd A) (i : Fin 4) {x : Int} (h : lo[(i : Nat)]? = some (2, x)) (hd : decode cc pc = .ok (.aload_n i, 1)) (k : G p l e R s m args below meth c cells slots Q nL D cA ad wd A (pc + 1) lo ((2, x) :: rest) d) : G p l e R s m args below meth c cells slots Q nL D cA ad wd A pc lo rest d := by
  intro ls H locs hl hH hS
  have h1 := hl.2.2 _ _ h (by decide : (2 : Nat) < 3)
  have h2 : W p l e R s m args below meth c H locs cells slots Q (F0 m (pc + 1) ls (va_rf (orf ad x) :: rest.map (cv ad))) := k ls H locs hl hH hS
  have h1 : ls[(i : Nat)]? = some (.val (va_rf (orf ad x))) := h1
  revert h1 h2
  unfold orf
  split
  · intro h2 h1; exact lv_aload_nN C.1 C.2.1 hd rfl h1 h2
  · intro h2 h1; exact lv_aload_n C.1 C.2.1 hd rfl h1 h2
theorem g_aload (C : Cx p s m args c cc nL own D cA ad wd A) (i : Nat) {x : Int} (h : lo[i]? = some (2, x)) (hd : decode cc pc = .ok (.aload i, 2)) (k : G p l e R s m args below meth c cells slots Q nL D cA ad wd A (pc + 2) lo ((2, x) :: rest) d) : G p l e R s m args below meth c cells slots Q nL D cA ad wd A pc lo rest d := by
  intro ls H locs hl hH hS
  have h1 := hl.2.2 _ _ h (by decide : (2 : Nat) < 3)
  have h2 : W p l e R s m args below meth c H locs cells slots Q (F0 m (pc + 2) ls (va_rf (orf ad x) :: rest.map (cv ad))) := k ls H locs hl hH hS
  have h1 : ls[i]? = some (.val (va_rf (orf ad x))) := h1
  revert h1 h2
  unfold orf
  split
  · intro h2 h1; exact lv_aloadN C.1 C.2.1 hd h1 h2
  · intro h2 h1; exact lv_aload C.1 C.2.1 hd h1 h2
/-! stores -/
def prs (ad : Nat → Nat) (lo : List AV) : List (Nat × Value) := (lo.zipIdx).filterMap (fun q => if q.1.1 < 3 then some (q.2, cv ad q.1) else none)
theorem prs_mem {lo : List AV} {i : Nat} {x : Value} : (i, x) ∈ prs ad lo ↔ ∃ v : AV, lo[i]? = some v ∧ v.1 < 3 ∧ cv ad v = x := by
  unfold prs
  rw [List.mem_filterMap]
  constructor
  · rintro ⟨⟨v, j⟩, h1, h2⟩
    have h3 := List.mem_zipIdx_iff_getElem?.mp h1
    by_cases hv : v.1 < 3
    · simp only [hv, if_true, Option.some.injEq, Prod.mk.injEq] at h2
      obtain ⟨rfl, rfl⟩ := h2
      exact ⟨v, h3, hv, rfl⟩
    · simp [hv] at h2
  · rintro ⟨v, h1, h2, rfl⟩
    exact ⟨(v, i), List.mem_zipIdx_iff_getElem?.mpr h1, by simp [h2]⟩
theorem LR.has {ls : Array Slot} (h : LR ad ls nL lo) : lv_has ls nL (prs ad lo) := ⟨h.1, h.2.1, fun q hq => by
  obtain ⟨i, x⟩ := q
  obtain ⟨v, h1, h2, rfl⟩ := prs_mem.mp hq
  exact h.2.2 i v h1 h2⟩
theorem cv_cat (ad : Nat → Nat) (v : AV) (h : v.1 ≠ 1) : (cv ad v).category = 1 := by
  obtain ⟨t, x⟩ := v
  match t, h with
  | 0, _ => rfl
  | 1, h => exact absurd rfl h
  | t + 2, _ =>
    show (va_rf (orf ad x)).category = 1
    rcases va_rf_or (orf ad x) with e | ⟨a, e⟩ <;> rw [e] <;> rfl
/-- the locals behind a store of one slot: its place, and a long that began a place ahead of it is gone -/
def st1 (lo : List AV) (i : Nat) (v : AV) : List AV := (lo.mapIdx (fun j x => if j + 1 = i ∧ x.1 = 1 then (9, 0) else x)).set i v
def st2 (lo : List AV) (i : Nat) (v : AV) : List AV := ((lo.mapIdx (fun j x => if (j + 1 = i ∧ x.1 = 1) ∨ j = i + 1 then (9, 0) else x))).set i v
theorem LR.st1 {ls ls' : Array Slot} {i : Nat} {v : AV} (h : LR ad ls nL lo) (h' : lv_has ls' nL ((i, cv ad v) :: (prs ad lo).filter (fun q => !(q.1 == i) && !(q.1 + 1 == i && q.2.category == 2)))) : LR ad ls' nL (st1 lo i v) := by
  refine ⟨h'.1, h'.2.1, fun j x hj hx => ?_⟩
  unfold _root_.Jvm.Pilot.CPollBooksLaw_law_r9818_e4fec2.st1 at hj
  rw [List.getElem?_set] at hj
  by_cases hi : i = j
  · subst hi
    rw [if_pos rfl] at hj
    split at hj
    · cases hj
      exact h'.2.2 (i, cv ad v) List.mem_cons_self
    · cases hj
  · rw [if_neg hi, List.getElem?_mapIdx] at hj
    cases hg : lo[j]? with
    | none => rw [hg] at hj; cases hj
    | some y =>
      rw [hg] at hj
      simp only [Option.map_some, Option.some.injEq] at hj
      by_cases hb : j + 1 = i ∧ y.1 = 1
      · rw [if_pos hb] at hj; subst hj; exact absurd hx (by decide)
      · rw [if_neg hb] at hj
        subst hj
        refine h'.2.2 (j, cv ad y) (List.mem_cons_of_mem _ (List.mem_filter.mpr ⟨prs_mem.mpr ⟨y, hg, hx, rfl⟩, ?_⟩))
        have e1 : (j == i) = false := by simp [Ne.symm hi]
        by_cases hji : j + 1 = i
        · have hy : y.1 ≠ 1 := fun e => hb ⟨hji, e⟩
          simp [e1, cv_cat ad y hy]
        · simp [e1, hji]
theorem LR.st2 {ls ls' : Array Slot} {i : Nat} {v : AV} (h : LR ad ls nL lo) (h' : lv_has ls' nL ((i, cv ad v) :: (prs ad lo).filter (fun q => !(q.1 == i) && (!(q.1 == i + 1) && !(q.1 + 1 == i && q.2.category == 2))))) : LR ad ls' nL (st2 lo i v) := by
  refine ⟨h'.1, h'.2.1, fun j x hj hx => ?_⟩
  unfold _root_.Jvm.Pilot.CPollBooksLaw_law_r9818_e4fec2.st2 at hj
  rw [List.getElem?_set] at hj
  by_cases hi : i = j
  · subst hi
    rw [if_pos rfl] at hj
    split at hj
    · cases hj
      exact h'.2.2 (i, cv ad v) List.mem_cons_self
    · cases hj
  · rw [if_neg hi, List.getElem?_mapIdx] at hj
    cases hg : lo[j]? with
    | none => rw [hg] at hj; cases hj
    | some y =>
      rw [hg] at hj
      simp only [Option.map_some, Option.some.injEq] at hj
      by_cases hb : (j + 1 = i ∧ y.1 = 1) ∨ j = i + 1
      · rw [if_pos hb] at hj; subst hj; exact absurd hx (by decide)
      · rw [if_neg hb] at hj
        subst hj
        refine h'.2.2 (j, cv ad y) (List.mem_cons_of_mem _ (List.mem_filter.mpr ⟨prs_mem.mpr ⟨y, hg, hx, rfl⟩, ?_⟩))
        have e1 : (j == i) = false := by simp [Ne.symm hi]
        have e2 : (j == i + 1) = false := by simp only [beq_eq_false_iff_ne]; exact fun e => hb (Or.inr e)
        by_cases hji : j + 1 = i
        · have hy : y.1 ≠ 1 := fun e => hb (Or.inl ⟨hji, e⟩)
          simp [e1, e2, cv_cat ad y hy]
        · simp [e1, e2, hji]
theorem g_istore_n (C : Cx p s m args c cc nL own D cA ad wd A) (i : Fin 4) {x : Int} {lo' : List AV} (hi : (i : Nat) < nL) (hl' : st1 lo i (0, x) = lo') (hd : decode cc pc = .ok (.istore_n i, 1)) (k : G p l e R s m args below meth c cells slots Q nL D cA ad wd A (pc + 1) lo' rest d) : G p l e R s m args below meth c cells slots Q nL D cA ad wd A pc lo ((0, x) :: rest) d :=
  fun ls H locs hl hH hS => lv_istore_n C.1 C.2.1 hd rfl hl.has hi rfl (fun ls' h' => k ls' H locs (hl' ▸ hl.st1 h') hH hS)
theorem g_istore (C : Cx p s m args c cc nL own D cA ad wd A) (i : Nat) {x : Int} {lo' : List AV} (hi : i < nL) (hl' : st1 lo i (0, x) = lo') (hd : decode cc pc = .ok (.istore i, 2)) (k : G p l e R s m args below meth c cells slots Q nL D cA ad wd A (pc + 2) lo' rest d) : G p l e R s m args below meth c cells slots Q nL D cA ad wd A pc lo ((0, x) :: rest) d :=
  fun ls H locs hl hH hS => lv_istore C.1 C.2.1 hd hl.has hi rfl (fun ls' h' => k ls' H locs (hl' ▸ hl.st1 h') hH hS)
theorem g_lstore_n (C : Cx p s m args c cc nL own D cA ad wd A) (i : Fin 4) {x : Int} {lo' : List AV} (hi : (i : Nat) + 1 < nL) (hl' : st2 lo i (1, x) = lo') (hd : decode cc pc = .ok (.lstore_n i, 1)) (k : G p l e R s m args below meth c cells slots Q nL D cA ad wd A (pc + 1) lo' rest d) : G p l e R s m args below meth c cells slots Q nL D cA ad wd A pc lo ((1, x) :: rest) d :=
  fun ls H locs hl hH hS => lv_lstore_n C.1 C.2.1 hd rfl hl.has hi rfl (fun ls' h' => k ls' H locs (hl' ▸ hl.st2 h') hH hS)
theorem g_lstore (C : Cx p s m args c cc nL own D cA ad wd A) (i : Nat) {x : Int} {lo' : List AV} (hi : i + 1 < nL) (hl' : st2 lo i (1, x) = lo') (hd : decode cc pc = .ok (.lstore i, 2)) (k : G p l e R s m args below meth c cells slots Q nL D cA ad wd A (pc + 2) lo' rest d) : G p l e R s m args below meth c cells slots Q nL D cA ad wd A pc lo ((1, x) :: rest) d :=
  fun ls H locs hl hH hS => lv_lstore C.1 C.2.1 hd hl.has hi rfl (fun ls' h' => k ls' H locs (hl' ▸ hl.st2 h') hH hS)
theorem g_astore_n (C : Cx p s m args c cc nL own D cA ad wd A) (i : Fin 4) {x : Int} {lo' : List AV} (hi : (i : Nat) < nL) (hl' : st1 lo i (2, x) = lo') (hd : decode cc pc = .ok (.astore_n i, 1)) (k : G p l e R s m args below meth c cells slots Q nL D cA ad wd A (pc + 1) lo' rest d) : G p l e R s m args below meth c cells slots Q nL D cA ad wd A pc lo ((2, x) :: rest) d := by
  intro ls H locs hl hH hS
  have h0 : ∀ ls', lv_has ls' nL ((i.val, va_rf (orf ad x)) :: (prs ad lo).filter (fun q => !(q.1 == i.val) && !(q.1 + 1 == i.val && q.2.category == 2))) → W p l e R s m args below meth c H locs cells slots Q (F0 m (pc + 1) ls' (rest.map (cv ad))) := fun ls' h' => k ls' H locs (hl' ▸ hl.st1 (v := (2, x)) h') hH hS
  show W p l e R s m args below meth c H locs cells slots Q (F0 m pc ls (va_rf (orf ad x) :: rest.map (cv ad)))
  revert h0
  unfold orf
  split
  · intro h0; exact lv_astore_nN C.1 C.2.1 hd rfl hl.has hi rfl h0
  · intro h0; exact lv_astore_n C.1 C.2.1 hd rfl hl.has hi rfl h0
theorem g_astore (C : Cx p s m args c cc nL own D cA ad wd A) (i : Nat) {x : Int} {lo' : List AV} (hi : i < nL) (hl' : st1 lo i (2, x) = lo') (hd : decode cc pc = .ok (.astore i, 2)) (k : G p l e R s m args below meth c cells slots Q nL D cA ad wd A (pc + 2) lo' rest d) : G p l e R s m args below meth c cells slots Q nL D cA ad wd A pc lo ((2, x) :: rest) d := by
  intro ls H locs hl hH hS
  have h0 : ∀ ls', lv_has ls' nL ((i, va_rf (orf ad x)) :: (prs ad lo).filter (fun q => !(q.1 == i) && !(q.1 + 1 == i && q.2.category == 2))) → W p l e R s m args below meth c H locs cells slots Q (F0 m (pc + 2) ls' (rest.map (cv ad))) := fun ls' h' => k ls' H locs (hl' ▸ hl.st1 (v := (2, x)) h') hH hS
  show W p l e R s m args below meth c H locs cells slots Q (F0 m pc ls (va_rf (orf ad x) :: rest.map (cv ad)))
  revert h0
  unfold orf
  split
  · intro h0; exact lv_astoreN C.1 C.2.1 hd hl.has hi rfl h0
  · intro h0; exact lv_astore C.1 C.2.1 hd hl.has hi rfl h0
theorem g_iinc (C : Cx p s m args c cc nL own D cA ad wd A) (i : Nat) (n : Int) {x : Int} {lo' : List AV} (h : lo[i]? = some (0, x)) (hi : i < nL) (hl' : st1 lo i (0, w32 (x + n)) = lo') (hd : decode cc pc = .ok (.iinc i n, 3)) (k : G p l e R s m args below meth c cells slots Q nL D cA ad wd A (pc + 3) lo' rest d) : G p l e R s m args below meth c cells slots Q nL D cA ad wd A pc lo rest d := by
  intro ls H locs hl hH hS
  obtain ⟨q, hq⟩ := List.getElem?_of_mem (prs_mem (ad := ad) (lo := lo).mpr ⟨(0, x), h, (by decide : (0 : Nat) < 3), rfl⟩)
  refine lv_iinc (v := Int32.ofInt (w32 (x + n))) C.1 C.2.1 hd hl.has hq ?_ hi rfl (fun ls' h' => k ls' H locs (hl' ▸ hl.st1 (v := (0, w32 (x + n))) h') hH hS)
  rw [i_w, Int32.ofInt_add]
/-! stack -/
theorem g_dup (C : Cx p s m args c cc nL own D cA ad wd A) {v : AV} (hv : v.1 ≠ 1) (hd : decode cc pc = .ok (.dup, 1)) (k : G p l e R s m args below meth c cells slots Q nL D cA ad wd A (pc + 1) lo (v :: v :: rest) d) : G p l e R s m args below meth c cells slots Q nL D cA ad wd A pc lo (v :: rest) d :=
  fun ls H locs hl hH hS => lv_dup C.1 C.2.1 hd (cv_cat ad v hv) (k ls H locs hl hH hS)
theorem g_pop (C : Cx p s m args c cc nL own D cA ad wd A) {v : AV} (hv : v.1 ≠ 1) (hd : decode cc pc = .ok (.pop, 1)) (k : G p l e R s m args below meth c cells slots Q nL D cA ad wd A (pc + 1) lo rest d) : G p l e R s m args below meth c cells slots Q nL D cA ad wd A pc lo (v :: rest) d :=
  fun ls H locs hl hH hS => lv_pop C.1 C.2.1 hd (cv_cat ad v hv) (k ls H locs hl hH hS)
theorem g_dup2 (C : Cx p s m args c cc nL own D cA ad wd A) {v w : AV} (hv : v.1 ≠ 1) (hw : w.1 ≠ 1) (hd : decode cc pc = .ok (.dup2, 1)) (k : G p l e R s m args below meth c cells slots Q nL D cA ad wd A (pc + 1) lo (v :: w :: v :: w :: rest) d) : G p l e R s m args below meth c cells slots Q nL D cA ad wd A pc lo (v :: w :: rest) d :=
  fun ls H locs hl hH hS => lv_dup2_11 C.1 C.2.1 hd (cv_cat ad v hv) (cv_cat ad w hw) (k ls H locs hl hH hS)
/-! arithmetic -/
theorem g_iadd (C : Cx p s m args c cc nL own D cA ad wd A) {a b : Int} (hd : decode cc pc = .ok (.iadd, 1)) (k : G p l e R s m args below meth c cells slots Q nL D cA ad wd A (pc + 1) lo ((0, w32 (a + b)) :: rest) d) : G p l e R s m args below meth c cells slots Q nL D cA ad wd A pc lo ((0, b) :: (0, a) :: rest) d := by
  intro ls H locs hl hH hS
  have h2 : W p l e R s m args below meth c H locs cells slots Q (F0 m (pc + 1) ls (.int (Int32.ofInt (w32 (a + b))) :: rest.map (cv ad))) := k ls H locs hl hH hS
  rw [i_w, Int32.ofInt_add] at h2
  exact lv_iadd C.1 C.2.1 hd h2
theorem g_isub (C : Cx p s m args c cc nL own D cA ad wd A) {a b : Int} (hd : decode cc pc = .ok (.isub, 1)) (k : G p l e R s m args below meth c cells slots Q nL D cA ad wd A (pc + 1) lo ((0, w32 (a - b)) :: rest) d) : G p l e R s m args below meth c cells slots Q nL D cA ad wd A pc lo ((0, b) :: (0, a) :: rest) d := by
  intro ls H locs hl hH hS
  have h2 : W p l e R s m args below meth c H locs cells slots Q (F0 m (pc + 1) ls (.int (Int32.ofInt (w32 (a - b))) :: rest.map (cv ad))) := k ls H locs hl hH hS
  rw [i_w, Int32.ofInt_sub] at h2
  exact lv_isub C.1 C.2.1 hd h2
theorem g_imul (C : Cx p s m args c cc nL own D cA ad wd A) {a b : Int} (hd : decode cc pc = .ok (.imul, 1)) (k : G p l e R s m args below meth c cells slots Q nL D cA ad wd A (pc + 1) lo ((0, w32 (a * b)) :: rest) d) : G p l e R s m args below meth c cells slots Q nL D cA ad wd A pc lo ((0, b) :: (0, a) :: rest) d := by
  intro ls H locs hl hH hS
  have h2 : W p l e R s m args below meth c H locs cells slots Q (F0 m (pc + 1) ls (.int (Int32.ofInt (w32 (a * b))) :: rest.map (cv ad))) := k ls H locs hl hH hS
  rw [i_w, Int32.ofInt_mul] at h2
  exact lv_imul C.1 C.2.1 hd h2
theorem g_ineg (C : Cx p s m args c cc nL own D cA ad wd A) {a : Int} (hd : decode cc pc = .ok (.ineg, 1)) (k : G p l e R s m args below meth c cells slots Q nL D cA ad wd A (pc + 1) lo ((0, w32 (-a)) :: rest) d) : G p l e R s m args below meth c cells slots Q nL D cA ad wd A pc lo ((0, a) :: rest) d := by
  intro ls H locs hl hH hS
  have h2 : W p l e R s m args below meth c H locs cells slots Q (F0 m (pc + 1) ls (.int (Int32.ofInt (w32 (-a))) :: rest.map (cv ad))) := k ls H locs hl hH hS
  rw [i_w, Int32.ofInt_neg] at h2
  exact lv_ineg C.1 C.2.1 hd h2
theorem g_ladd (C : Cx p s m args c cc nL own D cA ad wd A) {a b : Int} (hd : decode cc pc = .ok (.ladd, 1)) (k : G p l e R s m args below meth c cells slots Q nL D cA ad wd A (pc + 1) lo ((1, w64 (a + b)) :: rest) d) : G p l e R s m args below meth c cells slots Q nL D cA ad wd A pc lo ((1, b) :: (1, a) :: rest) d := by
  intro ls H locs hl hH hS
  have h2 : W p l e R s m args below meth c H locs cells slots Q (F0 m (pc + 1) ls (.long (Int64.ofInt (w64 (a + b))) :: rest.map (cv ad))) := k ls H locs hl hH hS
  rw [l_w, Int64.ofInt_add] at h2
  exact lv_ladd C.1 C.2.1 hd h2
theorem g_lsub (C : Cx p s m args c cc nL own D cA ad wd A) {a b : Int} (hd : decode cc pc = .ok (.lsub, 1)) (k : G p l e R s m args below meth c cells slots Q nL D cA ad wd A (pc + 1) lo ((1, w64 (a - b)) :: rest) d) : G p l e R s m args below meth c cells slots Q nL D cA ad wd A pc lo ((1, b) :: (1, a) :: rest) d := by
  intro ls H locs hl hH hS
  have h2 : W p l e R s m args below meth c H locs cells slots Q (F0 m (pc + 1) ls (.long (Int64.ofInt (w64 (a - b))) :: rest.map (cv ad))) := k ls H locs hl hH hS
  rw [l_w, Int64.ofInt_sub] at h2
  exact lv_lsub C.1 C.2.1 hd h2
theorem g_lmul (C : Cx p s m args c cc nL own D cA ad wd A) {a b : Int} (hd : decode cc pc = .ok (.lmul, 1)) (k : G p l e R s m args below meth c cells slots Q nL D cA ad wd A (pc + 1) lo ((1, w64 (a * b)) :: rest) d) : G p l e R s m args below meth c cells slots Q nL D cA ad wd A pc lo ((1, b) :: (1, a) :: rest) d := by
  intro ls H locs hl hH hS
  have h2 : W p l e R s m args below meth c H locs cells slots Q (F0 m (pc + 1) ls (.long (Int64.ofInt (w64 (a * b))) :: rest.map (cv ad))) := k ls H locs hl hH hS
  rw [l_w, Int64.ofInt_mul] at h2
  exact lv_lmul C.1 C.2.1 hd h2
theorem g_iand (C : Cx p s m args c cc nL own D cA ad wd A) {a b : Int} (hd : decode cc pc = .ok (.iand, 1)) (k : G p l e R s m args below meth c cells slots Q nL D cA ad wd A (pc + 1) lo ((0, iand a b) :: rest) d) : G p l e R s m args below meth c cells slots Q nL D cA ad wd A pc lo ((0, b) :: (0, a) :: rest) d := by
  intro ls H locs hl hH hS
  have h2 : W p l e R s m args below meth c H locs cells slots Q (F0 m (pc + 1) ls (.int (Int32.ofInt (iand a b)) :: rest.map (cv ad))) := k ls H locs hl hH hS
  unfold _root_.Jvm.Pilot.CPollBooksLaw_law_r9818_e4fec2.iand at h2
  rw [Int32.ofInt_toInt] at h2
  exact lv_iand C.1 C.2.1 hd h2
theorem g_ior (C : Cx p s m args c cc nL own D cA ad wd A) {a b : Int} (hd : decode cc pc = .ok (.ior, 1)) (k : G p l e R s m args below meth c cells slots Q nL D cA ad wd A (pc + 1) lo ((0, ior a b) :: rest) d) : G p l e R s m args below meth c cells slots Q nL D cA ad wd A pc lo ((0, b) :: (0, a) :: rest) d := by
  intro ls H locs hl hH hS
  have h2 : W p l e R s m args below meth c H locs cells slots Q (F0 m (pc + 1) ls (.int (Int32.ofInt (ior a b)) :: rest.map (cv ad))) := k ls H locs hl hH hS
  unfold _root_.Jvm.Pilot.CPollBooksLaw_law_r9818_e4fec2.ior at h2
  rw [Int32.ofInt_toInt] at h2
  exact lv_ior C.1 C.2.1 hd h2
theorem g_ixor (C : Cx p s m args c cc nL own D cA ad wd A) {a b : Int} (hd : decode cc pc = .ok (.ixor, 1)) (k : G p l e R s m args below meth c cells slots Q nL D cA ad wd A (pc + 1) lo ((0, ixor a b) :: rest) d) : G p l e R s m args below meth c cells slots Q nL D cA ad wd A pc lo ((0, b) :: (0, a) :: rest) d := by
  intro ls H locs hl hH hS
  have h2 : W p l e R s m args below meth c H locs cells slots Q (F0 m (pc + 1) ls (.int (Int32.ofInt (ixor a b)) :: rest.map (cv ad))) := k ls H locs hl hH hS
  unfold _root_.Jvm.Pilot.CPollBooksLaw_law_r9818_e4fec2.ixor at h2
  rw [Int32.ofInt_toInt] at h2
  exact lv_ixor C.1 C.2.1 hd h2
theorem g_ishl (C : Cx p s m args c cc nL own D cA ad wd A) {a b : Int} (hd : decode cc pc = .ok (.ishl, 1)) (k : G p l e R s m args below meth c cells slots Q nL D cA ad wd A (pc + 1) lo ((0, ishl a b) :: rest) d) : G p l e R s m args below meth c cells slots Q nL D cA ad wd A pc lo ((0, b) :: (0, a) :: rest) d := by
  intro ls H locs hl hH hS
  have h2 : W p l e R s m args below meth c H locs cells slots Q (F0 m (pc + 1) ls (.int (Int32.ofInt (ishl a b)) :: rest.map (cv ad))) := k ls H locs hl hH hS
  unfold _root_.Jvm.Pilot.CPollBooksLaw_law_r9818_e4fec2.ishl at h2
  rw [Int32.ofInt_toInt] at h2
  exact lv_ishl C.1 C.2.1 hd h2
theorem g_ishr (C : Cx p s m args c cc nL own D cA ad wd A) {a b : Int} (hd : decode cc pc = .ok (.ishr, 1)) (k : G p l e R s m args below meth c cells slots Q nL D cA ad wd A (pc + 1) lo ((0, ishr a b) :: rest) d) : G p l e R s m args below meth c cells slots Q nL D cA ad wd A pc lo ((0, b) :: (0, a) :: rest) d := by
  intro ls H locs hl hH hS
  have h2 : W p l e R s m args below meth c H locs cells slots Q (F0 m (pc + 1) ls (.int (Int32.ofInt (ishr a b)) :: rest.map (cv ad))) := k ls H locs hl hH hS
  unfold _root_.Jvm.Pilot.CPollBooksLaw_law_r9818_e4fec2.ishr at h2
  rw [Int32.ofInt_toInt] at h2
  exact lv_ishr C.1 C.2.1 hd h2
theorem g_land (C : Cx p s m args c cc nL own D cA ad wd A) {a b : Int} (hd : decode cc pc = .ok (.land, 1)) (k : G p l e R s m args below meth c cells slots Q nL D cA ad wd A (pc + 1) lo ((1, land a b) :: rest) d) : G p l e R s m args below meth c cells slots Q nL D cA ad wd A pc lo ((1, b) :: (1, a) :: rest) d := by
  intro ls H locs hl hH hS
  have h2 : W p l e R s m args below meth c H locs cells slots Q (F0 m (pc + 1) ls (.long (Int64.ofInt (land a b)) :: rest.map (cv ad))) := k ls H locs hl hH hS
  unfold _root_.Jvm.Pilot.CPollBooksLaw_law_r9818_e4fec2.land at h2
  rw [Int64.ofInt_toInt] at h2
  exact lv_land C.1 C.2.1 hd h2
theorem g_lor (C : Cx p s m args c cc nL own D cA ad wd A) {a b : Int} (hd : decode cc pc = .ok (.lor, 1)) (k : G p l e R s m args below meth c cells slots Q nL D cA ad wd A (pc + 1) lo ((1, lor a b) :: rest) d) : G p l e R s m args below meth c cells slots Q nL D cA ad wd A pc lo ((1, b) :: (1, a) :: rest) d := by
  intro ls H locs hl hH hS
  have h2 : W p l e R s m args below meth c H locs cells slots Q (F0 m (pc + 1) ls (.long (Int64.ofInt (lor a b)) :: rest.map (cv ad))) := k ls H locs hl hH hS
  unfold _root_.Jvm.Pilot.CPollBooksLaw_law_r9818_e4fec2.lor at h2
  rw [Int64.ofInt_toInt] at h2
  exact lv_lor C.1 C.2.1 hd h2
theorem g_lxor (C : Cx p s m args c cc nL own D cA ad wd A) {a b : Int} (hd : decode cc pc = .ok (.lxor, 1)) (k : G p l e R s m args below meth c cells slots Q nL D cA ad wd A (pc + 1) lo ((1, lxor a b) :: rest) d) : G p l e R s m args below meth c cells slots Q nL D cA ad wd A pc lo ((1, b) :: (1, a) :: rest) d := by
  intro ls H locs hl hH hS
  have h2 : W p l e R s m args below meth c H locs cells slots Q (F0 m (pc + 1) ls (.long (Int64.ofInt (lxor a b)) :: rest.map (cv ad))) := k ls H locs hl hH hS
  unfold _root_.Jvm.Pilot.CPollBooksLaw_law_r9818_e4fec2.lxor at h2
  rw [Int64.ofInt_toInt] at h2
  exact lv_lxor C.1 C.2.1 hd h2
theorem g_iushr (C : Cx p s m args c cc nL own D cA ad wd A) {a b : Int} (hd : decode cc pc = .ok (.iushr, 1)) (k : G p l e R s m args below meth c cells slots Q nL D cA ad wd A (pc + 1) lo ((0, iushr a b) :: rest) d) : G p l e R s m args below meth c cells slots Q nL D cA ad wd A pc lo ((0, b) :: (0, a) :: rest) d :=
  fun ls H locs hl hH hS => lv_iushr C.1 C.2.1 hd (Int32.ofInt_toInt _).symm (k ls H locs hl hH hS)
theorem g_lshl (C : Cx p s m args c cc nL own D cA ad wd A) {a b : Int} (hd : decode cc pc = .ok (.lshl, 1)) (k : G p l e R s m args below meth c cells slots Q nL D cA ad wd A (pc + 1) lo ((1, lshl a b) :: rest) d) : G p l e R s m args below meth c cells slots Q nL D cA ad wd A pc lo ((0, b) :: (1, a) :: rest) d :=
  fun ls H locs hl hH hS => lv_lshl C.1 C.2.1 hd (Int64.ofInt_toInt _).symm (k ls H locs hl hH hS)
theorem g_lshr (C : Cx p s m args c cc nL own D cA ad wd A) {a b : Int} (hd : decode cc pc = .ok (.lshr, 1)) (k : G p l e R s m args below meth c cells slots Q nL D cA ad wd A (pc + 1) lo ((1, lshr a b) :: rest) d) : G p l e R s m args below meth c cells slots Q nL D cA ad wd A pc lo ((0, b) :: (1, a) :: rest) d :=
  fun ls H locs hl hH hS => lv_lshr C.1 C.2.1 hd (Int64.ofInt_toInt _).symm (k ls H locs hl hH hS)
theorem g_lushr (C : Cx p s m args c cc nL own D cA ad wd A) {a b : Int} (hd : decode cc pc = .ok (.lushr, 1)) (k : G p l e R s m args below meth c cells slots Q nL D cA ad wd A (pc + 1) lo ((1, lushr a b) :: rest) d) : G p l e R s m args below meth c cells slots Q nL D cA ad wd A pc lo ((0, b) :: (1, a) :: rest) d :=
  fun ls H locs hl hH hS => lv_lushr C.1 C.2.1 hd (Int64.ofInt_toInt _).symm (k ls H locs hl hH hS)
theorem g_idiv (C : Cx p s m args c cc nL own D cA ad wd A) {a b : Int} (hb : c32 b) (h0 : ¬ b = 0) (hd : decode cc pc = .ok (.idiv, 1)) (k : G p l e R s m args below meth c cells slots Q nL D cA ad wd A (pc + 1) lo ((0, idiv a b) :: rest) d) : G p l e R s m args below meth c cells slots Q nL D cA ad wd A pc lo ((0, b) :: (0, a) :: rest) d := by
  intro ls H locs hl hH hS
  have h2 : W p l e R s m args below meth c H locs cells slots Q (F0 m (pc + 1) ls (.int (Int32.ofInt (idiv a b)) :: rest.map (cv ad))) := k ls H locs hl hH hS
  unfold _root_.Jvm.Pilot.CPollBooksLaw_law_r9818_e4fec2.idiv at h2
  rw [Int32.ofInt_toInt] at h2
  exact lv_idiv C.1 C.2.1 hd (fun z => h0 ((i_inj hb (by unfold c32; omega)).mp (z.trans (by rfl)))) h2
theorem g_irem (C : Cx p s m args c cc nL own D cA ad wd A) {a b : Int} (hb : c32 b) (h0 : ¬ b = 0) (hd : decode cc pc = .ok (.irem, 1)) (k : G p l e R s m args below meth c cells slots Q nL D cA ad wd A (pc + 1) lo ((0, irem a b) :: rest) d) : G p l e R s m args below meth c cells slots Q nL D cA ad wd A pc lo ((0, b) :: (0, a) :: rest) d := by
  intro ls H locs hl hH hS
  have h2 : W p l e R s m args below meth c H locs cells slots Q (F0 m (pc + 1) ls (.int (Int32.ofInt (irem a b)) :: rest.map (cv ad))) := k ls H locs hl hH hS
  unfold _root_.Jvm.Pilot.CPollBooksLaw_law_r9818_e4fec2.irem at h2
  rw [Int32.ofInt_toInt] at h2
  exact lv_irem C.1 C.2.1 hd (fun z => h0 ((i_inj hb (by unfold c32; omega)).mp (z.trans (by rfl)))) h2
theorem g_ldiv (C : Cx p s m args c cc nL own D cA ad wd A) {a b : Int} (hb : c64 b) (h0 : ¬ b = 0) (hd : decode cc pc = .ok (.ldiv, 1)) (k : G p l e R s m args below meth c cells slots Q nL D cA ad wd A (pc + 1) lo ((1, ldiv a b) :: rest) d) : G p l e R s m args below meth c cells slots Q nL D cA ad wd A pc lo ((1, b) :: (1, a) :: rest) d := by
  intro ls H locs hl hH hS
  have h2 : W p l e R s m args below meth c H locs cells slots Q (F0 m (pc + 1) ls (.long (Int64.ofInt (ldiv a b)) :: rest.map (cv ad))) := k ls H locs hl hH hS
  unfold _root_.Jvm.Pilot.CPollBooksLaw_law_r9818_e4fec2.ldiv at h2
  rw [Int64.ofInt_toInt] at h2
  exact lv_ldiv C.1 C.2.1 hd (fun z => h0 ((l_inj hb (by unfold c64; omega)).mp (z.trans (by rfl)))) h2
theorem g_lrem (C : Cx p s m args c cc nL own D cA ad wd A) {a b : Int} (hb : c64 b) (h0 : ¬ b = 0) (hd : decode cc pc = .ok (.lrem, 1)) (k : G p l e R s m args below meth c cells slots Q nL D cA ad wd A (pc + 1) lo ((1, lrem a b) :: rest) d) : G p l e R s m args below meth c cells slots Q nL D cA ad wd A pc lo ((1, b) :: (1, a) :: rest) d := by
  intro ls H locs hl hH hS
  have h2 : W p l e R s m args below meth c H locs cells slots Q (F0 m (pc + 1) ls (.long (Int64.ofInt (lrem a b)) :: rest.map (cv ad))) := k ls H locs hl hH hS
  unfold _root_.Jvm.Pilot.CPollBooksLaw_law_r9818_e4fec2.lrem at h2
  rw [Int64.ofInt_toInt] at h2
  exact lv_lrem C.1 C.2.1 hd (fun z => h0 ((l_inj hb (by unfold c64; omega)).mp (z.trans (by rfl)))) h2
theorem g_i2l (C : Cx p s m args c cc nL own D cA ad wd A) {a : Int} (ha : c32 a) (hd : decode cc pc = .ok (.i2l, 1)) (k : G p l e R s m args below meth c cells slots Q nL D cA ad wd A (pc + 1) lo ((1, a) :: rest) d) : G p l e R s m args below meth c cells slots Q nL D cA ad wd A pc lo ((0, a) :: rest) d := by
  intro ls H locs hl hH hS
  refine lv_i2l C.1 C.2.1 hd ?_ (k ls H locs hl hH hS)
  apply Int64.toInt_inj.mp
  rw [Int32.toInt_toInt64, i_t ha, l_t (c64_32 ha)]
theorem g_l2i (C : Cx p s m args c cc nL own D cA ad wd A) {a : Int} (hd : decode cc pc = .ok (.l2i, 1)) (k : G p l e R s m args below meth c cells slots Q nL D cA ad wd A (pc + 1) lo ((0, w32 a) :: rest) d) : G p l e R s m args below meth c cells slots Q nL D cA ad wd A pc lo ((1, a) :: rest) d := by
  intro ls H locs hl hH hS
  refine lv_l2i C.1 C.2.1 hd ?_ (k ls H locs hl hH hS)
  show (Int64.ofInt a).toInt32 = Int32.ofInt (w32 a)
  rw [i_w, Int64.toInt32_ofInt]
theorem g_i2b (C : Cx p s m args c cc nL own D cA ad wd A) {a : Int} (ha : c32 a) (hd : decode cc pc = .ok (.i2b, 1)) (k : G p l e R s m args below meth c cells slots Q nL D cA ad wd A (pc + 1) lo ((0, w8 a) :: rest) d) : G p l e R s m args below meth c cells slots Q nL D cA ad wd A pc lo ((0, a) :: rest) d := by
  intro ls H locs hl hH hS
  refine lv_i2b C.1 C.2.1 hd ?_ (k ls H locs hl hH hS)
  apply Int32.toInt_inj.mp
  rw [Int8.toInt_toInt32, Int32.toInt_toInt8, i_t ha, i_t (c32_8 a)]; rfl
theorem g_i2s (C : Cx p s m args c cc nL own D cA ad wd A) {a : Int} (ha : c32 a) (hd : decode cc pc = .ok (.i2s, 1)) (k : G p l e R s m args below meth c cells slots Q nL D cA ad wd A (pc + 1) lo ((0, w16 a) :: rest) d) : G p l e R s m args below meth c cells slots Q nL D cA ad wd A pc lo ((0, a) :: rest) d := by
  intro ls H locs hl hH hS
  refine lv_i2s C.1 C.2.1 hd ?_ (k ls H locs hl hH hS)
  apply Int32.toInt_inj.mp
  rw [Int16.toInt_toInt32, Int32.toInt_toInt16, i_t ha, i_t (c32_16 a)]; rfl
theorem g_i2c (C : Cx p s m args c cc nL own D cA ad wd A) {a : Int} (ha : 0 ≤ a ∧ a < 65536) (hd : decode cc pc = .ok (.i2c, 1)) (k : G p l e R s m args below meth c cells slots Q nL D cA ad wd A (pc + 1) lo ((0, a) :: rest) d) : G p l e R s m args below meth c cells slots Q nL D cA ad wd A pc lo ((0, a) :: rest) d := by
  intro ls H locs hl hH hS
  refine lv_i2c C.1 C.2.1 hd ?_ (k ls H locs hl hH hS)
  have hc : c32 a := by unfold c32; omega
  exact lg_i2c_word (by rw [i_t hc]; exact ha.1) (by rw [i_t hc]; exact ha.2)
/-! branches: each by '=' or '<' -/
theorem g_goto (C : Cx p s m args c cc nL own D cA ad wd A) {off : Int} (tgt : Nat) (hd : decode cc pc = .ok (.goto off, 3)) (ht : (pc : Int) + off = (tgt : Int)) (k : G p l e R s m args below meth c cells slots Q nL D cA ad wd A tgt lo rest d) : G p l e R s m args below meth c cells slots Q nL D cA ad wd A pc lo rest d :=
  fun ls H locs hl hH hS => lv_goto C.1 C.2.1 hd ht (k ls H locs hl hH hS)
theorem g_icmp_eq (C : Cx p s m args c cc nL own D cA ad wd A) {a b : Int} {off : Int} {tgt : Nat} (ha : c32 a) (hb : c32 b) (hd : decode cc pc = .ok (.if_icmp .eq off, 3)) (ht : (pc : Int) + off = (tgt : Int)) (kt : a = b → G p l e R s m args below meth c cells slots Q nL D cA ad wd A tgt lo rest d) (kf : ¬ (a = b) → G p l e R s m args below meth c cells slots Q nL D cA ad wd A (pc + 3) lo rest d) : G p l e R s m args below meth c cells slots Q nL D cA ad wd A pc lo ((0, b) :: (0, a) :: rest) d := by
  intro ls H locs hl hH hS
  have hq := i_inj ha hb
  by_cases hc : a = b
  · have k := kt hc ls H locs hl hH hS
    refine lv_icmp_eq C.1 C.2.1 hd ht (fun z => ?_) (fun z => ?_) <;> first | exact k | exact absurd z (by first | exact fun w => w (hq.mpr hc) | exact fun w => (Int32.not_le.mpr (hq.mpr hc)) w | exact fun w => absurd (hq.mpr hc) (Int32.not_lt.mpr w) | exact fun w => w (Int32.le_of_lt (hq.mpr hc)))  | exact absurd (hq.mpr hc) z | exact absurd (hq.mpr hc) (fun w => z w) | exact absurd (hq.mpr hc) (Int32.not_lt.mpr z) | exact absurd (hq.mpr hc) (Int32.not_lt.mpr (Int32.not_lt.mp z))
  · have k := kf hc ls H locs hl hH hS
    refine lv_icmp_eq C.1 C.2.1 hd ht (fun z => ?_) (fun z => ?_) <;> first | exact k | exact absurd (hq.mp z) hc | exact absurd (hq.mp (Decidable.not_not.mp z)) hc | exact absurd (hq.mp (Int32.not_le.mp z)) hc
theorem g_if_eq (C : Cx p s m args c cc nL own D cA ad wd A) {a : Int} {off : Int} {tgt : Nat} (ha : c32 a) (hd : decode cc pc = .ok (.ifCond .eq off, 3)) (ht : (pc : Int) + off = (tgt : Int)) (kt : a = 0 → G p l e R s m args below meth c cells slots Q nL D cA ad wd A tgt lo rest d) (kf : ¬ (a = 0) → G p l e R s m args below meth c cells slots Q nL D cA ad wd A (pc + 3) lo rest d) : G p l e R s m args below meth c cells slots Q nL D cA ad wd A pc lo ((0, a) :: rest) d := by
  intro ls H locs hl hH hS
  have hq := i_inj ha (show c32 0 by unfold c32; omega)
  by_cases hc : a = 0
  · have k := kt hc ls H locs hl hH hS
    refine lv_if_eq C.1 C.2.1 hd ht (fun z => ?_) (fun z => ?_) <;> first | exact k | exact absurd z (by first | exact fun w => w (hq.mpr hc) | exact fun w => (Int32.not_le.mpr (hq.mpr hc)) w | exact fun w => absurd (hq.mpr hc) (Int32.not_lt.mpr w) | exact fun w => w (Int32.le_of_lt (hq.mpr hc)))  | exact absurd (hq.mpr hc) z | exact absurd (hq.mpr hc) (fun w => z w) | exact absurd (hq.mpr hc) (Int32.not_lt.mpr z) | exact absurd (hq.mpr hc) (Int32.not_lt.mpr (Int32.not_lt.mp z))
  · have k := kf hc ls H locs hl hH hS
    refine lv_if_eq C.1 C.2.1 hd ht (fun z => ?_) (fun z => ?_) <;> first | exact k | exact absurd (hq.mp z) hc | exact absurd (hq.mp (Decidable.not_not.mp z)) hc | exact absurd (hq.mp (Int32.not_le.mp z)) hc
theorem g_icmp_ne (C : Cx p s m args c cc nL own D cA ad wd A) {a b : Int} {off : Int} {tgt : Nat} (ha : c32 a) (hb : c32 b) (hd : decode cc pc = .ok (.if_icmp .ne off, 3)) (ht : (pc : Int) + off = (tgt : Int)) (kt : a = b → G p l e R s m args below meth c cells slots Q nL D cA ad wd A (pc + 3) lo rest d) (kf : ¬ (a = b) → G p l e R s m args below meth c cells slots Q nL D cA ad wd A tgt lo rest d) : G p l e R s m args below meth c cells slots Q nL D cA ad wd A pc lo ((0, b) :: (0, a) :: rest) d := by
  intro ls H locs hl hH hS
  have hq := i_inj ha hb
  by_cases hc : a = b
  · have k := kt hc ls H locs hl hH hS
    refine lv_icmp_ne C.1 C.2.1 hd ht (fun z => ?_) (fun z => ?_) <;> first | exact k | exact absurd z (by first | exact fun w => w (hq.mpr hc) | exact fun w => (Int32.not_le.mpr (hq.mpr hc)) w | exact fun w => absurd (hq.mpr hc) (Int32.not_lt.mpr w) | exact fun w => w (Int32.le_of_lt (hq.mpr hc)))  | exact absurd (hq.mpr hc) z | exact absurd (hq.mpr hc) (fun w => z w) | exact absurd (hq.mpr hc) (Int32.not_lt.mpr z) | exact absurd (hq.mpr hc) (Int32.not_lt.mpr (Int32.not_lt.mp z))
  · have k := kf hc ls H locs hl hH hS
    refine lv_icmp_ne C.1 C.2.1 hd ht (fun z => ?_) (fun z => ?_) <;> first | exact k | exact absurd (hq.mp z) hc | exact absurd (hq.mp (Decidable.not_not.mp z)) hc | exact absurd (hq.mp (Int32.not_le.mp z)) hc
theorem g_if_ne (C : Cx p s m args c cc nL own D cA ad wd A) {a : Int} {off : Int} {tgt : Nat} (ha : c32 a) (hd : decode cc pc = .ok (.ifCond .ne off, 3)) (ht : (pc : Int) + off = (tgt : Int)) (kt : a = 0 → G p l e R s m args below meth c cells slots Q nL D cA ad wd A (pc + 3) lo rest d) (kf : ¬ (a = 0) → G p l e R s m args below meth c cells slots Q nL D cA ad wd A tgt lo rest d) : G p l e R s m args below meth c cells slots Q nL D cA ad wd A pc lo ((0, a) :: rest) d := by
  intro ls H locs hl hH hS
  have hq := i_inj ha (show c32 0 by unfold c32; omega)
  by_cases hc : a = 0
  · have k := kt hc ls H locs hl hH hS
    refine lv_if_ne C.1 C.2.1 hd ht (fun z => ?_) (fun z => ?_) <;> first | exact k | exact absurd z (by first | exact fun w => w (hq.mpr hc) | exact fun w => (Int32.not_le.mpr (hq.mpr hc)) w | exact fun w => absurd (hq.mpr hc) (Int32.not_lt.mpr w) | exact fun w => w (Int32.le_of_lt (hq.mpr hc)))  | exact absurd (hq.mpr hc) z | exact absurd (hq.mpr hc) (fun w => z w) | exact absurd (hq.mpr hc) (Int32.not_lt.mpr z) | exact absurd (hq.mpr hc) (Int32.not_lt.mpr (Int32.not_lt.mp z))
  · have k := kf hc ls H locs hl hH hS
    refine lv_if_ne C.1 C.2.1 hd ht (fun z => ?_) (fun z => ?_) <;> first | exact k | exact absurd (hq.mp z) hc | exact absurd (hq.mp (Decidable.not_not.mp z)) hc | exact absurd (hq.mp (Int32.not_le.mp z)) hc
theorem g_icmp_lt (C : Cx p s m args c cc nL own D cA ad wd A) {a b : Int} {off : Int} {tgt : Nat} (ha : c32 a) (hb : c32 b) (hd : decode cc pc = .ok (.if_icmp .lt off, 3)) (ht : (pc : Int) + off = (tgt : Int)) (kt : a < b → G p l e R s m args below meth c cells slots Q nL D cA ad wd A tgt lo rest d) (kf : ¬ (a < b) → G p l e R s m args below meth c cells slots Q nL D cA ad wd A (pc + 3) lo rest d) : G p l e R s m args below meth c cells slots Q nL D cA ad wd A pc lo ((0, b) :: (0, a) :: rest) d := by
  intro ls H locs hl hH hS
  have hq := i_lt ha hb
  by_cases hc : a < b
  · have k := kt hc ls H locs hl hH hS
    refine lv_icmp_lt C.1 C.2.1 hd ht (fun z => ?_) (fun z => ?_) <;> first | exact k | exact absurd z (by first | exact fun w => w (hq.mpr hc) | exact fun w => (Int32.not_le.mpr (hq.mpr hc)) w | exact fun w => absurd (hq.mpr hc) (Int32.not_lt.mpr w) | exact fun w => w (Int32.le_of_lt (hq.mpr hc)))  | exact absurd (hq.mpr hc) z | exact absurd (hq.mpr hc) (fun w => z w) | exact absurd (hq.mpr hc) (Int32.not_lt.mpr z) | exact absurd (hq.mpr hc) (Int32.not_lt.mpr (Int32.not_lt.mp z))
  · have k := kf hc ls H locs hl hH hS
    refine lv_icmp_lt C.1 C.2.1 hd ht (fun z => ?_) (fun z => ?_) <;> first | exact k | exact absurd (hq.mp z) hc | exact absurd (hq.mp (Decidable.not_not.mp z)) hc | exact absurd (hq.mp (Int32.not_le.mp z)) hc
theorem g_if_lt (C : Cx p s m args c cc nL own D cA ad wd A) {a : Int} {off : Int} {tgt : Nat} (ha : c32 a) (hd : decode cc pc = .ok (.ifCond .lt off, 3)) (ht : (pc : Int) + off = (tgt : Int)) (kt : a < 0 → G p l e R s m args below meth c cells slots Q nL D cA ad wd A tgt lo rest d) (kf : ¬ (a < 0) → G p l e R s m args below meth c cells slots Q nL D cA ad wd A (pc + 3) lo rest d) : G p l e R s m args below meth c cells slots Q nL D cA ad wd A pc lo ((0, a) :: rest) d := by
  intro ls H locs hl hH hS
  have hq := i_lt ha (show c32 0 by unfold c32; omega)
  by_cases hc : a < 0
  · have k := kt hc ls H locs hl hH hS
    refine lv_if_lt C.1 C.2.1 hd ht (fun z => ?_) (fun z => ?_) <;> first | exact k | exact absurd z (by first | exact fun w => w (hq.mpr hc) | exact fun w => (Int32.not_le.mpr (hq.mpr hc)) w | exact fun w => absurd (hq.mpr hc) (Int32.not_lt.mpr w) | exact fun w => w (Int32.le_of_lt (hq.mpr hc)))  | exact absurd (hq.mpr hc) z | exact absurd (hq.mpr hc) (fun w => z w) | exact absurd (hq.mpr hc) (Int32.not_lt.mpr z) | exact absurd (hq.mpr hc) (Int32.not_lt.mpr (Int32.not_lt.mp z))
  · have k := kf hc ls H locs hl hH hS
    refine lv_if_lt C.1 C.2.1 hd ht (fun z => ?_) (fun z => ?_) <;> first | exact k | exact absurd (hq.mp z) hc | exact absurd (hq.mp (Decidable.not_not.mp z)) hc | exact absurd (hq.mp (Int32.not_le.mp z)) hc
theorem g_icmp_ge (C : Cx p s m args c cc nL own D cA ad wd A) {a b : Int} {off : Int} {tgt : Nat} (ha : c32 a) (hb : c32 b) (hd : decode cc pc = .ok (.if_icmp .ge off, 3)) (ht : (pc : Int) + off = (tgt : Int)) (kt : a < b → G p l e R s m args below meth c cells slots Q nL D cA ad wd A (pc + 3) lo rest d) (kf : ¬ (a < b) → G p l e R s m args below meth c cells slots Q nL D cA ad wd A tgt lo rest d) : G p l e R s m args below meth c cells slots Q nL D cA ad wd A pc lo ((0, b) :: (0, a) :: rest) d := by
  intro ls H locs hl hH hS
  have hq := i_lt ha hb
  by_cases hc : a < b
  · have k := kt hc ls H locs hl hH hS
    refine lv_icmp_ge C.1 C.2.1 hd ht (fun z => ?_) (fun z => ?_) <;> first | exact k | exact absurd z (by first | exact fun w => w (hq.mpr hc) | exact fun w => (Int32.not_le.mpr (hq.mpr hc)) w | exact fun w => absurd (hq.mpr hc) (Int32.not_lt.mpr w) | exact fun w => w (Int32.le_of_lt (hq.mpr hc)))  | exact absurd (hq.mpr hc) z | exact absurd (hq.mpr hc) (fun w => z w) | exact absurd (hq.mpr hc) (Int32.not_lt.mpr z) | exact absurd (hq.mpr hc) (Int32.not_lt.mpr (Int32.not_lt.mp z))
  · have k := kf hc ls H locs hl hH hS
    refine lv_icmp_ge C.1 C.2.1 hd ht (fun z => ?_) (fun z => ?_) <;> first | exact k | exact absurd (hq.mp z) hc | exact absurd (hq.mp (Decidable.not_not.mp z)) hc | exact absurd (hq.mp (Int32.not_le.mp z)) hc
theorem g_if_ge (C : Cx p s m args c cc nL own D cA ad wd A) {a : Int} {off : Int} {tgt : Nat} (ha : c32 a) (hd : decode cc pc = .ok (.ifCond .ge off, 3)) (ht : (pc : Int) + off = (tgt : Int)) (kt : a < 0 → G p l e R s m args below meth c cells slots Q nL D cA ad wd A (pc + 3) lo rest d) (kf : ¬ (a < 0) → G p l e R s m args below meth c cells slots Q nL D cA ad wd A tgt lo rest d) : G p l e R s m args below meth c cells slots Q nL D cA ad wd A pc lo ((0, a) :: rest) d := by
  intro ls H locs hl hH hS
  have hq := i_lt ha (show c32 0 by unfold c32; omega)
  by_cases hc : a < 0
  · have k := kt hc ls H locs hl hH hS
    refine lv_if_ge C.1 C.2.1 hd ht (fun z => ?_) (fun z => ?_) <;> first | exact k | exact absurd z (by first | exact fun w => w (hq.mpr hc) | exact fun w => (Int32.not_le.mpr (hq.mpr hc)) w | exact fun w => absurd (hq.mpr hc) (Int32.not_lt.mpr w) | exact fun w => w (Int32.le_of_lt (hq.mpr hc)))  | exact absurd (hq.mpr hc) z | exact absurd (hq.mpr hc) (fun w => z w) | exact absurd (hq.mpr hc) (Int32.not_lt.mpr z) | exact absurd (hq.mpr hc) (Int32.not_lt.mpr (Int32.not_lt.mp z))
  · have k := kf hc ls H locs hl hH hS
    refine lv_if_ge C.1 C.2.1 hd ht (fun z => ?_) (fun z => ?_) <;> first | exact k | exact absurd (hq.mp z) hc | exact absurd (hq.mp (Decidable.not_not.mp z)) hc | exact absurd (hq.mp (Int32.not_le.mp z)) hc
theorem g_icmp_gt (C : Cx p s m args c cc nL own D cA ad wd A) {a b : Int} {off : Int} {tgt : Nat} (ha : c32 a) (hb : c32 b) (hd : decode cc pc = .ok (.if_icmp .gt off, 3)) (ht : (pc : Int) + off = (tgt : Int)) (kt : b < a → G p l e R s m args below meth c cells slots Q nL D cA ad wd A tgt lo rest d) (kf : ¬ (b < a) → G p l e R s m args below meth c cells slots Q nL D cA ad wd A (pc + 3) lo rest d) : G p l e R s m args below meth c cells slots Q nL D cA ad wd A pc lo ((0, b) :: (0, a) :: rest) d := by
  intro ls H locs hl hH hS
  have hq := i_lt hb ha
  by_cases hc : b < a
  · have k := kt hc ls H locs hl hH hS
    refine lv_icmp_gt C.1 C.2.1 hd ht (fun z => ?_) (fun z => ?_) <;> first | exact k | exact absurd z (by first | exact fun w => w (hq.mpr hc) | exact fun w => (Int32.not_le.mpr (hq.mpr hc)) w | exact fun w => absurd (hq.mpr hc) (Int32.not_lt.mpr w) | exact fun w => w (Int32.le_of_lt (hq.mpr hc)))  | exact absurd (hq.mpr hc) z | exact absurd (hq.mpr hc) (fun w => z w) | exact absurd (hq.mpr hc) (Int32.not_lt.mpr z) | exact absurd (hq.mpr hc) (Int32.not_lt.mpr (Int32.not_lt.mp z))
  · have k := kf hc ls H locs hl hH hS
    refine lv_icmp_gt C.1 C.2.1 hd ht (fun z => ?_) (fun z => ?_) <;> first | exact k | exact absurd (hq.mp z) hc | exact absurd (hq.mp (Decidable.not_not.mp z)) hc | exact absurd (hq.mp (Int32.not_le.mp z)) hc
theorem g_if_gt (C : Cx p s m args c cc nL own D cA ad wd A) {a : Int} {off : Int} {tgt : Nat} (ha : c32 a) (hd : decode cc pc = .ok (.ifCond .gt off, 3)) (ht : (pc : Int) + off = (tgt : Int)) (kt : 0 < a → G p l e R s m args below meth c cells slots Q nL D cA ad wd A tgt lo rest d) (kf : ¬ (0 < a) → G p l e R s m args below meth c cells slots Q nL D cA ad wd A (pc + 3) lo rest d) : G p l e R s m args below meth c cells slots Q nL D cA ad wd A pc lo ((0, a) :: rest) d := by
  intro ls H locs hl hH hS
  have hq := i_lt (show c32 0 by unfold c32; omega) ha
  by_cases hc : 0 < a
  · have k := kt hc ls H locs hl hH hS
    refine lv_if_gt C.1 C.2.1 hd ht (fun z => ?_) (fun z => ?_) <;> first | exact k | exact absurd z (by first | exact fun w => w (hq.mpr hc) | exact fun w => (Int32.not_le.mpr (hq.mpr hc)) w | exact fun w => absurd (hq.mpr hc) (Int32.not_lt.mpr w) | exact fun w => w (Int32.le_of_lt (hq.mpr hc)))  | exact absurd (hq.mpr hc) z | exact absurd (hq.mpr hc) (fun w => z w) | exact absurd (hq.mpr hc) (Int32.not_lt.mpr z) | exact absurd (hq.mpr hc) (Int32.not_lt.mpr (Int32.not_lt.mp z))
  · have k := kf hc ls H locs hl hH hS
    refine lv_if_gt C.1 C.2.1 hd ht (fun z => ?_) (fun z => ?_) <;> first | exact k | exact absurd (hq.mp z) hc | exact absurd (hq.mp (Decidable.not_not.mp z)) hc | exact absurd (hq.mp (Int32.not_le.mp z)) hc
theorem g_icmp_le (C : Cx p s m args c cc nL own D cA ad wd A) {a b : Int} {off : Int} {tgt : Nat} (ha : c32 a) (hb : c32 b) (hd : decode cc pc = .ok (.if_icmp .le off, 3)) (ht : (pc : Int) + off = (tgt : Int)) (kt : b < a → G p l e R s m args below meth c cells slots Q nL D cA ad wd A (pc + 3) lo rest d) (kf : ¬ (b < a) → G p l e R s m args below meth c cells slots Q nL D cA ad wd A tgt lo rest d) : G p l e R s m args below meth c cells slots Q nL D cA ad wd A pc lo ((0, b) :: (0, a) :: rest) d := by
  intro ls H locs hl hH hS
  have hq := i_lt hb ha
  by_cases hc : b < a
  · have k := kt hc ls H locs hl hH hS
    refine lv_icmp_le C.1 C.2.1 hd ht (fun z => ?_) (fun z => ?_) <;> first | exact k | exact absurd z (by first | exact fun w => w (hq.mpr hc) | exact fun w => (Int32.not_le.mpr (hq.mpr hc)) w | exact fun w => absurd (hq.mpr hc) (Int32.not_lt.mpr w) | exact fun w => w (Int32.le_of_lt (hq.mpr hc)))  | exact absurd (hq.mpr hc) z | exact absurd (hq.mpr hc) (fun w => z w) | exact absurd (hq.mpr hc) (Int32.not_lt.mpr z) | exact absurd (hq.mpr hc) (Int32.not_lt.mpr (Int32.not_lt.mp z))
  · have k := kf hc ls H locs hl hH hS
    refine lv_icmp_le C.1 C.2.1 hd ht (fun z => ?_) (fun z => ?_) <;> first | exact k | exact absurd (hq.mp z) hc | exact absurd (hq.mp (Decidable.not_not.mp z)) hc | exact absurd (hq.mp (Int32.not_le.mp z)) hc
theorem g_if_le (C : Cx p s m args c cc nL own D cA ad wd A) {a : Int} {off : Int} {tgt : Nat} (ha : c32 a) (hd : decode cc pc = .ok (.ifCond .le off, 3)) (ht : (pc : Int) + off = (tgt : Int)) (kt : 0 < a → G p l e R s m args below meth c cells slots Q nL D cA ad wd A (pc + 3) lo rest d) (kf : ¬ (0 < a) → G p l e R s m args below meth c cells slots Q nL D cA ad wd A tgt lo rest d) : G p l e R s m args below meth c cells slots Q nL D cA ad wd A pc lo ((0, a) :: rest) d := by
  intro ls H locs hl hH hS
  have hq := i_lt (show c32 0 by unfold c32; omega) ha
  by_cases hc : 0 < a
  · have k := kt hc ls H locs hl hH hS
    refine lv_if_le C.1 C.2.1 hd ht (fun z => ?_) (fun z => ?_) <;> first | exact k | exact absurd z (by first | exact fun w => w (hq.mpr hc) | exact fun w => (Int32.not_le.mpr (hq.mpr hc)) w | exact fun w => absurd (hq.mpr hc) (Int32.not_lt.mpr w) | exact fun w => w (Int32.le_of_lt (hq.mpr hc)))  | exact absurd (hq.mpr hc) z | exact absurd (hq.mpr hc) (fun w => z w) | exact absurd (hq.mpr hc) (Int32.not_lt.mpr z) | exact absurd (hq.mpr hc) (Int32.not_lt.mpr (Int32.not_lt.mp z))
  · have k := kf hc ls H locs hl hH hS
    refine lv_if_le C.1 C.2.1 hd ht (fun z => ?_) (fun z => ?_) <;> first | exact k | exact absurd (hq.mp z) hc | exact absurd (hq.mp (Decidable.not_not.mp z)) hc | exact absurd (hq.mp (Int32.not_le.mp z)) hc
theorem g_ifnull (C : Cx p s m args c cc nL own D cA ad wd A) {off : Int} {tgt : Nat} {x : Int} (hd : decode cc pc = .ok (.ifnull off, 3)) (ht : (pc : Int) + off = (tgt : Int)) (kt : x < 0 → G p l e R s m args below meth c cells slots Q nL D cA ad wd A tgt lo rest d) (kf : ¬ x < 0 → G p l e R s m args below meth c cells slots Q nL D cA ad wd A (pc + 3) lo rest d) : G p l e R s m args below meth c cells slots Q nL D cA ad wd A pc lo ((2, x) :: rest) d := by
  intro ls H locs hl hH hS
  show W p l e R s m args below meth c H locs cells slots Q (F0 m pc ls (va_rf (orf ad x) :: rest.map (cv ad)))
  unfold orf
  split
  · rename_i h; exact lv_ifnullN C.1 C.2.1 hd ht (kt h ls H locs hl hH hS)
  · rename_i h; exact lv_ifnull C.1 C.2.1 hd (kf h ls H locs hl hH hS)
theorem g_ifnonnull (C : Cx p s m args c cc nL own D cA ad wd A) {off : Int} {tgt : Nat} {x : Int} (hd : decode cc pc = .ok (.ifnonnull off, 3)) (ht : (pc : Int) + off = (tgt : Int)) (kt : x < 0 → G p l e R s m args below meth c cells slots Q nL D cA ad wd A (pc + 3) lo rest d) (kf : ¬ x < 0 → G p l e R s m args below meth c cells slots Q nL D cA ad wd A tgt lo rest d) : G p l e R s m args below meth c cells slots Q nL D cA ad wd A pc lo ((2, x) :: rest) d := by
  intro ls H locs hl hH hS
  show W p l e R s m args below meth c H locs cells slots Q (F0 m pc ls (va_rf (orf ad x) :: rest.map (cv ad)))
  unfold orf
  split
  · rename_i h; exact lv_ifnonnullN C.1 C.2.1 hd (kt h ls H locs hl hH hS)
  · rename_i h; exact lv_ifnonnull C.1 C.2.1 hd ht (kf h ls H locs hl hH hS)
theorem g_tableIn (C : Cx p s m args c cc nL own D cA ad wd A) {dflt lw hg off : Int} {offs : Array Int} {len : Nat} {x : Int} (v : Int) {tgt : Nat} (hx : c32 x) (hd : decode cc pc = .ok (.tableswitch dflt lw hg offs, len)) (h : x = v) (hv : ¬ v < lw ∧ ¬ hg < v ∧ offs[(v - lw).toNat]? = some off) (ht : (pc : Int) + off = (tgt : Int)) (k : G p l e R s m args below meth c cells slots Q nL D cA ad wd A tgt lo rest d) : G p l e R s m args below meth c cells slots Q nL D cA ad wd A pc lo ((0, x) :: rest) d := by
  intro ls H locs hl hH hS
  subst h
  exact lv_tableIn C.1 C.2.1 hd (by rw [i_t hx]; exact hv.1) (by rw [i_t hx]; exact hv.2.1) (by rw [i_t hx]; exact hv.2.2) ht (k ls H locs hl hH hS)
theorem g_tableOut (C : Cx p s m args c cc nL own D cA ad wd A) {dflt lw hg : Int} {offs : Array Int} {len : Nat} {x : Int} {tgt : Nat} (hx : c32 x) (hd : decode cc pc = .ok (.tableswitch dflt lw hg offs, len)) (h : x < lw ∨ hg < x) (ht : (pc : Int) + dflt = (tgt : Int)) (k : G p l e R s m args below meth c cells slots Q nL D cA ad wd A tgt lo rest d) : G p l e R s m args below meth c cells slots Q nL D cA ad wd A pc lo ((0, x) :: rest) d :=
  fun ls H locs hl hH hS => lv_tableOut C.1 C.2.1 hd (by rw [i_t hx]; exact h) ht (k ls H locs hl hH hS)
theorem g_lookup (C : Cx p s m args c cc nL own D cA ad wd A) {dflt off : Int} {ps : Array (Int × Int)} {len : Nat} {x : Int} {tgt : Nat} (hx : c32 x) (hd : decode cc pc = .ok (.lookupswitch dflt ps, len)) (hp : (ps.toList.zip (ps.toList.drop 1)).all (fun (a, next) => a.1 < next.1) = true) (ho : Op.lookupswitch.offset ps.toList dflt x = off) (ht : (pc : Int) + off = (tgt : Int)) (k : G p l e R s m args below meth c cells slots Q nL D cA ad wd A tgt lo rest d) : G p l e R s m args below meth c cells slots Q nL D cA ad wd A pc lo ((0, x) :: rest) d :=
  fun ls H locs hl hH hS => lv_lookup C.1 C.2.1 hd hp (by rw [i_t hx]; exact ho) ht (k ls H locs hl hH hS)
end MACH
