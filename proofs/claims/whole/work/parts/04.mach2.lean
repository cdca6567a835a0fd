/-! fields, arrays, calls, ends -/
def lb {α β : Type} (o : Option α) (f : α → Option β) : Option β := match o with
  | some a => f a
  | none => none
theorem lb_some {α β : Type} {o : Option α} {f : α → Option β} {r : β} (h : lb o f = some r) : ∃ a, o = some a ∧ f a = some r := by
  match o, h with
  | some a, h => exact ⟨a, rfl, h⟩
def lt_ {β : Type} (x : Int) (f : Int → Option β) : Option β := f x
theorem lt_some {β : Type} {x : Int} {f : Int → Option β} {r : β} (h : lt_ x f = some r) : ∃ y, y = x ∧ f y = some r := ⟨x, rfl, h⟩
def sm {α β γ : Type} (x : α ⊕ β) (f : α → Option γ) (g : β → Option γ) : Option γ := match x with
  | .inl a => f a
  | .inr b => g b
theorem sml_e {α β γ : Type} {a : α} {f : α → Option γ} {g : β → Option γ} {o : Option γ} (h : sm (.inl a) f g = o) : f a = o := h
theorem smr_e {α β γ : Type} {b : β} {f : α → Option γ} {g : β → Option γ} {o : Option γ} (h : sm (.inr b) f g = o) : g b = o := h
def u0 {β : Type} (x : Dt) (f : Dt → Option β) : Option β := f x
theorem u0_e {β : Type} {d : Dt} {f : Dt → Option β} {o : Option β} (h : u0 (d) f = o) : f d = o := h
def u1 {β : Type} (x : Int × Dt) (f : Int → Dt → Option β) : Option β := f x.1 x.2
theorem u1_e {β : Type} {a0 : Int} {d : Dt} {f : Int → Dt → Option β} {o : Option β} (h : u1 (a0, d) f = o) : f a0 d = o := h
def u2 {β : Type} (x : Int × Int × Dt) (f : Int → Int → Dt → Option β) : Option β := f x.1 x.2.1 x.2.2
theorem u2_e {β : Type} {a0 a1 : Int} {d : Dt} {f : Int → Int → Dt → Option β} {o : Option β} (h : u2 (a0, a1, d) f = o) : f a0 a1 d = o := h
def u3 {β : Type} (x : Int × Int × Int × Dt) (f : Int → Int → Int → Dt → Option β) : Option β := f x.1 x.2.1 x.2.2.1 x.2.2.2
theorem u3_e {β : Type} {a0 a1 a2 : Int} {d : Dt} {f : Int → Int → Int → Dt → Option β} {o : Option β} (h : u3 (a0, a1, a2, d) f = o) : f a0 a1 a2 d = o := h
def u4 {β : Type} (x : Int × Int × Int × Int × Dt) (f : Int → Int → Int → Int → Dt → Option β) : Option β := f x.1 x.2.1 x.2.2.1 x.2.2.2.1 x.2.2.2.2
theorem u4_e {β : Type} {a0 a1 a2 a3 : Int} {d : Dt} {f : Int → Int → Int → Int → Dt → Option β} {o : Option β} (h : u4 (a0, a1, a2, a3, d) f = o) : f a0 a1 a2 a3 d = o := h
def u5 {β : Type} (x : Int × Int × Int × Int × Int × Dt) (f : Int → Int → Int → Int → Int → Dt → Option β) : Option β := f x.1 x.2.1 x.2.2.1 x.2.2.2.1 x.2.2.2.2.1 x.2.2.2.2.2
theorem u5_e {β : Type} {a0 a1 a2 a3 a4 : Int} {d : Dt} {f : Int → Int → Int → Int → Int → Dt → Option β} {o : Option β} (h : u5 (a0, a1, a2, a3, a4, d) f = o) : f a0 a1 a2 a3 a4 d = o := h
def u6 {β : Type} (x : Int × Int × Int × Int × Int × Int × Dt) (f : Int → Int → Int → Int → Int → Int → Dt → Option β) : Option β := f x.1 x.2.1 x.2.2.1 x.2.2.2.1 x.2.2.2.2.1 x.2.2.2.2.2.1 x.2.2.2.2.2.2
theorem u6_e {β : Type} {a0 a1 a2 a3 a4 a5 : Int} {d : Dt} {f : Int → Int → Int → Int → Int → Int → Dt → Option β} {o : Option β} (h : u6 (a0, a1, a2, a3, a4, a5, d) f = o) : f a0 a1 a2 a3 a4 a5 d = o := h
def u7 {β : Type} (x : Int × Int × Int × Int × Int × Int × Int × Dt) (f : Int → Int → Int → Int → Int → Int → Int → Dt → Option β) : Option β := f x.1 x.2.1 x.2.2.1 x.2.2.2.1 x.2.2.2.2.1 x.2.2.2.2.2.1 x.2.2.2.2.2.2.1 x.2.2.2.2.2.2.2
theorem u7_e {β : Type} {a0 a1 a2 a3 a4 a5 a6 : Int} {d : Dt} {f : Int → Int → Int → Int → Int → Int → Int → Dt → Option β} {o : Option β} (h : u7 (a0, a1, a2, a3, a4, a5, a6, d) f = o) : f a0 a1 a2 a3 a4 a5 a6 d = o := h
def u8 {β : Type} (x : Int × Int × Int × Int × Int × Int × Int × Int × Dt) (f : Int → Int → Int → Int → Int → Int → Int → Int → Dt → Option β) : Option β := f x.1 x.2.1 x.2.2.1 x.2.2.2.1 x.2.2.2.2.1 x.2.2.2.2.2.1 x.2.2.2.2.2.2.1 x.2.2.2.2.2.2.2.1 x.2.2.2.2.2.2.2.2
theorem u8_e {β : Type} {a0 a1 a2 a3 a4 a5 a6 a7 : Int} {d : Dt} {f : Int → Int → Int → Int → Int → Int → Int → Int → Dt → Option β} {o : Option β} (h : u8 (a0, a1, a2, a3, a4, a5, a6, a7, d) f = o) : f a0 a1 a2 a3 a4 a5 a6 a7 d = o := h
def u9 {β : Type} (x : Int × Int × Int × Int × Int × Int × Int × Int × Int × Dt) (f : Int → Int → Int → Int → Int → Int → Int → Int → Int → Dt → Option β) : Option β := f x.1 x.2.1 x.2.2.1 x.2.2.2.1 x.2.2.2.2.1 x.2.2.2.2.2.1 x.2.2.2.2.2.2.1 x.2.2.2.2.2.2.2.1 x.2.2.2.2.2.2.2.2.1 x.2.2.2.2.2.2.2.2.2
theorem u9_e {β : Type} {a0 a1 a2 a3 a4 a5 a6 a7 a8 : Int} {d : Dt} {f : Int → Int → Int → Int → Int → Int → Int → Int → Int → Dt → Option β} {o : Option β} (h : u9 (a0, a1, a2, a3, a4, a5, a6, a7, a8, d) f = o) : f a0 a1 a2 a3 a4 a5 a6 a7 a8 d = o := h
theorem cK {x : Int} (h : decide (-2147483648 ≤ x ∧ x < 2147483648) = true) : c32 x := (of_decide_eq_true h : -2147483648 ≤ x ∧ x < 2147483648)
theorem cL {x : Int} (h : decide (-9223372036854775808 ≤ x ∧ x < 9223372036854775808) = true) : c64 x := (of_decide_eq_true h : -9223372036854775808 ≤ x ∧ x < 9223372036854775808)
theorem c32_b {x : Int} (h : -128 ≤ x ∧ x < 128) : c32 x := by unfold c32; omega
theorem c32_ch {x : Int} (h : 0 ≤ x ∧ x < 65536) : c32 x := by unfold c32; omega
abbrev stt (d : Dt) (x : Int) : Prop := 79 ≤ x ∧ x < 79 + 7 * d GH 0 ∧ (x - 79) % 7 = 0
theorem stt_k {d : Dt} {x : Int} (h : stt d x) : x = ((x.toNat : Nat) : Int) := by have := h.1; omega
theorem stt_ko {d : Dt} {x : Int} (h : stt d x) (o : Nat) : x + (o : Int) = ((x.toNat + o : Nat) : Int) := by have := h.1; omega
theorem stt_n {d : Dt} {x : Int} (h : stt d x) (o : Nat) (ho : o < 7) : x.toNat + o < nOf 0 d := by
  obtain ⟨h1, h2, h3⟩ := h
  unfold nOf; rw [if_pos rfl]; omega
theorem stt_cd {d : Dt} {x : Int} (h : stt d x) (o : Nat) (ho : o < 7) : cd 0 (x.toNat + o) = cdA1.getD o (99, 0) := by
  obtain ⟨h1, h2, h3⟩ := h
  unfold cd
  rw [if_pos rfl, if_neg (by omega)]
  congr 1
  omega
section MACH2
variable {p : Program} {l : Launch} {e : Env} {R : Room} {s : State} {m : MethodId} {args : Array Value} {below : List Frame} {meth : Method} {c : Code} {cells slots : Nat} {Q : State → Prop} {cc : ByteArray} {nL : Nat} {own : String} {D : va_G} {cA : Nat → ClassId} {ad : Nat → Nat} {wd : Nat} {A : Nat → Prop}
variable {pc : Nat} {lo rest : List AV} {d : Dt}
theorem i_cl {i : Int} (h : c32 i) : (Int32.ofInt i).toNatClampNeg = i.toNat := by
  show (Int32.ofInt i).toInt.toNat = i.toNat
  rw [i_t h]
theorem i_in {i : Int} {n : Nat} (h : c32 i) (hi : 0 ≤ i ∧ i < (n : Int)) : vp_in (Int32.ofInt i) n := by
  rw [vp_in_iff, i_t h]; exact hi
theorem nA {d : Dt} {k : Nat} (h : k < 79) : k < nOf 0 d := by unfold nOf; rw [if_pos rfl]; omega
theorem nB {d : Dt} {k : Nat} (h : k < 81) : k < nOf 1 d := by unfold nOf; rw [if_neg (by decide), if_pos rfl]; exact h
theorem ent_obj {k ci n : Nat} {f : Nat → Int} (h : cd wd k = (ci, n)) (hc : ci < 20) : ent cA ad wd k f = .inr (ci, (List.range (nf ci)).map (fv ad ci k f)) := by
  unfold ent; rw [h]; exact if_pos hc
theorem ent_arr {k t n : Nat} {f : Nat → Int} (h : cd wd k = (t, n)) (hc : ¬ t < 20) : ent cA ad wd k f = .inl (entA cA ad t n f) := by
  unfold ent; rw [h]; exact if_neg hc
theorem fs_at {ci k j N : Nat} {f : Nat → Int} (hj : j < N) (hN : nf ci = N) : ((List.range (nf ci)).map (fv ad ci k f))[j]? = some (fv ad ci k f j) := by
  rw [List.getElem?_map, List.getElem?_range (by omega)]; rfl
/-- any field: its value is that of the cell -/
theorem g_get0 (C : Cx p s m args c cc nL own D cA ad wd A) {ci N : Nat} {Cn : String} {T : u_T} {ty : Nat → FieldType} (K : ClsOk ci Cn T N ty) (k j : Nat) {n : Nat} {x : Int} (hk : x = (k : Int)) (hcd : cd wd k = (ci, n)) (hci : ci < 20 ∧ nf ci = N ∧ j < N) (hn : k < nOf wd d) {ix : Nat} (hw : Cond.fieldLink own ix (T j).1 (T j).2.1 (T j).2.2.1 ∈ lw_ok) {v : AV} (hv : fv ad ci k (d k) j = cv ad v)
    (hd : decode cc pc = .ok (.getfield ix, 3)) (kk : CN wd d → G p l e R s m args below meth c cells slots Q nL D cA ad wd A (pc + 3) lo (v :: rest) d) : G p l e R s m args below meth c cells slots Q nL D cA ad wd A pc lo ((2, x) :: rest) d := by
  intro ls H locs hl hH hS
  subst hk
  have hat := wld_at (cA := cA) (ad := ad) hn
  rw [ent_obj hcd hci.1] at hat
  show W p l e R s m args below meth c H locs cells slots Q (F0 m pc ls (cv ad (2, (k : Int)) :: rest.map (cv ad)))
  rw [cv_r]
  refine va_get (D := D) (ci := ci) (C := Cn) (T := T) (N := N) C.1 C.2.1 C.2.2.2.2.1.at K.1 C.2.2.2.1 C.2.2.2.2.2.1 hH.1 k hat K.2.2.2 j hci.2.2 (C.2.2.2.2.1.at _ hw) (fun _ h => h) (fs_at hci.2.2 hci.2.1) hd ?_
  have h2 := kk hH.2.2 ls H locs hl hH hS
  rw [hv]
  exact h2
theorem g_get0N (C : Cx p s m args c cc nL own D cA ad wd A) {ci N : Nat} {Cn host : String} {T : u_T} {ty : Nat → FieldType} (K : ClsOk ci Cn T N ty) (k j : Nat) {n : Nat} {x : Int} (hk : x = (k : Int)) (hcd : cd wd k = (ci, n)) (hci : ci < 20 ∧ nf ci = N ∧ j < N) (hn : k < nOf wd d) {ix : Nat} (hw : Cond.fieldLinkNest own ix (T j).1 (T j).2.1 (T j).2.2.1 host ∈ lw_ok) {v : AV} (hv : fv ad ci k (d k) j = cv ad v)
    (hd : decode cc pc = .ok (.getfield ix, 3)) (kk : CN wd d → G p l e R s m args below meth c cells slots Q nL D cA ad wd A (pc + 3) lo (v :: rest) d) : G p l e R s m args below meth c cells slots Q nL D cA ad wd A pc lo ((2, x) :: rest) d := by
  intro ls H locs hl hH hS
  subst hk
  have hat := wld_at (cA := cA) (ad := ad) hn
  rw [ent_obj hcd hci.1] at hat
  show W p l e R s m args below meth c H locs cells slots Q (F0 m pc ls (cv ad (2, (k : Int)) :: rest.map (cv ad)))
  rw [cv_r]
  refine va_getN (D := D) (ci := ci) (C := Cn) (T := T) (N := N) C.1 C.2.1 C.2.2.2.2.1.at K.1 C.2.2.2.1 C.2.2.2.2.2.1 hH.1 k hat K.2.2.2 j hci.2.2 (C.2.2.2.2.1.at _ hw) (fun _ h => h) (fs_at hci.2.2 hci.2.1) hd ?_
  have h2 := kk hH.2.2 ls H locs hl hH hS
  rw [hv]
  exact h2
theorem fv_I {ci k j : Nat} {f : Nat → Int} (h : ft ci j = 0) : fv ad ci k f j = cv ad (0, f j) := by unfold fv; rw [h]; rfl
theorem fv_Z {ci k j : Nat} {f : Nat → Int} (h : ft ci j = 2) : fv ad ci k f j = cv ad (0, f j) := by unfold fv; rw [h]; rfl
theorem fv_R {ci k j : Nat} {f : Nat → Int} {y : Int} (h : ft ci j = 3) (hy : ((rf ci k j : Nat) : Int) = y) : fv ad ci k f j = cv ad (2, y) := by subst hy; rw [cv_r]; unfold fv; rw [h]; rfl
theorem fv_M {ci k j : Nat} {f : Nat → Int} (h : ft ci j = 4) : fv ad ci k f j = cv ad (2, f j) := by unfold fv; rw [h]; rfl
theorem CN.i {k j ci n : Nat} (h : CN wd d) (hcd : cd wd k = (ci, n)) (hf : ci < 20 ∧ ft ci j = 0) : c32 (d k j) := by
  have h1 := h.1 k j
  rw [hcd] at h1
  obtain ⟨h2, h3⟩ := hf
  unfold cnk at h1
  dsimp only at h1
  split at h1 <;> first | omega | (rw [h3] at h1; exact h1)
theorem CN.z {k j ci n : Nat} (h : CN wd d) (hcd : cd wd k = (ci, n)) (hf : ci < 20 ∧ ft ci j = 2) : cb (d k j) := by
  have h1 := h.1 k j
  rw [hcd] at h1
  obtain ⟨h2, h3⟩ := hf
  unfold cnk at h1
  dsimp only at h1
  split at h1 <;> first | omega | (rw [h3] at h1; exact h1)
theorem cnk_i {ci n j : Nat} {v : Int} (hf : ci < 20 ∧ ft ci j = 0) (hv : c32 v) : cnk (ci, n) j v := by
  obtain ⟨h2, h3⟩ := hf
  unfold cnk
  dsimp only
  split <;> first | omega | (rw [h3]; exact hv)
theorem cnk_z {ci n j : Nat} {v : Int} (hf : ci < 20 ∧ ft ci j = 2) (hv : cb v) : cnk (ci, n) j v := by
  obtain ⟨h2, h3⟩ := hf
  unfold cnk
  dsimp only
  split <;> first | omega | (rw [h3]; exact hv)
theorem g_getI (C : Cx p s m args c cc nL own D cA ad wd A) {ci N : Nat} {Cn : String} {T : u_T} {ty : Nat → FieldType} (K : ClsOk ci Cn T N ty) (k j : Nat) {n : Nat} {x : Int} (hk : x = (k : Int)) (hcd : cd wd k = (ci, n)) (hci : ci < 20 ∧ nf ci = N ∧ j < N) (hf : ft ci j = 0) (hn : k < nOf wd d) {ix : Nat} (hw : Cond.fieldLink own ix (T j).1 (T j).2.1 (T j).2.2.1 ∈ lw_ok)
    (hd : decode cc pc = .ok (.getfield ix, 3)) (kk : c32 (d k j) → G p l e R s m args below meth c cells slots Q nL D cA ad wd A (pc + 3) lo ((0, d k j) :: rest) d) : G p l e R s m args below meth c cells slots Q nL D cA ad wd A pc lo ((2, x) :: rest) d :=
  g_get0 C K k j hk hcd hci hn hw (fv_I hf) hd (fun h => kk (h.i hcd ⟨hci.1, hf⟩))
theorem g_getZ (C : Cx p s m args c cc nL own D cA ad wd A) {ci N : Nat} {Cn : String} {T : u_T} {ty : Nat → FieldType} (K : ClsOk ci Cn T N ty) (k j : Nat) {n : Nat} {x : Int} (hk : x = (k : Int)) (hcd : cd wd k = (ci, n)) (hci : ci < 20 ∧ nf ci = N ∧ j < N) (hf : ft ci j = 2) (hn : k < nOf wd d) {ix : Nat} (hw : Cond.fieldLink own ix (T j).1 (T j).2.1 (T j).2.2.1 ∈ lw_ok)
    (hd : decode cc pc = .ok (.getfield ix, 3)) (kk : cb (d k j) → G p l e R s m args below meth c cells slots Q nL D cA ad wd A (pc + 3) lo ((0, d k j) :: rest) d) : G p l e R s m args below meth c cells slots Q nL D cA ad wd A pc lo ((2, x) :: rest) d :=
  g_get0 C K k j hk hcd hci hn hw (fv_Z hf) hd (fun h => kk (h.z hcd ⟨hci.1, hf⟩))
theorem g_getR (C : Cx p s m args c cc nL own D cA ad wd A) {ci N : Nat} {Cn : String} {T : u_T} {ty : Nat → FieldType} (K : ClsOk ci Cn T N ty) (k j : Nat) {n : Nat} {x : Int} (y : Int) (hk : x = (k : Int)) (hcd : cd wd k = (ci, n)) (hci : ci < 20 ∧ nf ci = N ∧ j < N) (hf : ft ci j = 3) (hy : ((rf ci k j : Nat) : Int) = y) (hn : k < nOf wd d) {ix : Nat} (hw : Cond.fieldLink own ix (T j).1 (T j).2.1 (T j).2.2.1 ∈ lw_ok)
    (hd : decode cc pc = .ok (.getfield ix, 3)) (kk : G p l e R s m args below meth c cells slots Q nL D cA ad wd A (pc + 3) lo ((2, y) :: rest) d) : G p l e R s m args below meth c cells slots Q nL D cA ad wd A pc lo ((2, x) :: rest) d :=
  g_get0 C K k j hk hcd hci hn hw (fv_R hf hy) hd (fun _ => kk)
theorem g_getM (C : Cx p s m args c cc nL own D cA ad wd A) {ci N : Nat} {Cn : String} {T : u_T} {ty : Nat → FieldType} (K : ClsOk ci Cn T N ty) (k j : Nat) {n : Nat} {x : Int} (hk : x = (k : Int)) (hcd : cd wd k = (ci, n)) (hci : ci < 20 ∧ nf ci = N ∧ j < N) (hf : ft ci j = 4) (hn : k < nOf wd d) {ix : Nat} (hw : Cond.fieldLink own ix (T j).1 (T j).2.1 (T j).2.2.1 ∈ lw_ok)
    (hd : decode cc pc = .ok (.getfield ix, 3)) (kk : G p l e R s m args below meth c cells slots Q nL D cA ad wd A (pc + 3) lo ((2, d k j) :: rest) d) : G p l e R s m args below meth c cells slots Q nL D cA ad wd A pc lo ((2, x) :: rest) d :=
  g_get0 C K k j hk hcd hci hn hw (fv_M hf) hd (fun _ => kk)
theorem g_getIN (C : Cx p s m args c cc nL own D cA ad wd A) {ci N : Nat} {Cn host : String} {T : u_T} {ty : Nat → FieldType} (K : ClsOk ci Cn T N ty) (k j : Nat) {n : Nat} {x : Int} (hk : x = (k : Int)) (hcd : cd wd k = (ci, n)) (hci : ci < 20 ∧ nf ci = N ∧ j < N) (hf : ft ci j = 0) (hn : k < nOf wd d) {ix : Nat} (hw : Cond.fieldLinkNest own ix (T j).1 (T j).2.1 (T j).2.2.1 host ∈ lw_ok)
    (hd : decode cc pc = .ok (.getfield ix, 3)) (kk : c32 (d k j) → G p l e R s m args below meth c cells slots Q nL D cA ad wd A (pc + 3) lo ((0, d k j) :: rest) d) : G p l e R s m args below meth c cells slots Q nL D cA ad wd A pc lo ((2, x) :: rest) d :=
  g_get0N C K k j hk hcd hci hn hw (fv_I hf) hd (fun h => kk (h.i hcd ⟨hci.1, hf⟩))
theorem g_getRN (C : Cx p s m args c cc nL own D cA ad wd A) {ci N : Nat} {Cn host : String} {T : u_T} {ty : Nat → FieldType} (K : ClsOk ci Cn T N ty) (k j : Nat) {n : Nat} {x : Int} (y : Int) (hk : x = (k : Int)) (hcd : cd wd k = (ci, n)) (hci : ci < 20 ∧ nf ci = N ∧ j < N) (hf : ft ci j = 3) (hy : ((rf ci k j : Nat) : Int) = y) (hn : k < nOf wd d) {ix : Nat} (hw : Cond.fieldLinkNest own ix (T j).1 (T j).2.1 (T j).2.2.1 host ∈ lw_ok)
    (hd : decode cc pc = .ok (.getfield ix, 3)) (kk : G p l e R s m args below meth c cells slots Q nL D cA ad wd A (pc + 3) lo ((2, y) :: rest) d) : G p l e R s m args below meth c cells slots Q nL D cA ad wd A pc lo ((2, x) :: rest) d :=
  g_get0N C K k j hk hcd hci hn hw (fv_R hf hy) hd (fun _ => kk)
theorem up_fs {ci k j N : Nat} {v : Int} {w : Value} (hn : nf ci = N) (hj : j < N) (hw : fv ad ci k (up2 d k j v k) j = w) : ((List.range (nf ci)).map (fv ad ci k (d k))).set j w = (List.range (nf ci)).map (fv ad ci k (up2 d k j v k)) := by
  apply List.ext_getElem?
  intro i
  rw [List.getElem?_set]
  simp only [List.length_map, List.length_range, List.getElem?_map]
  by_cases hi : j = i
  · subst hi
    rw [if_pos rfl, if_pos (by omega), List.getElem?_range (by omega), ← hw]; rfl
  · rw [if_neg hi]
    by_cases hl : i < nf ci
    · rw [List.getElem?_range hl]
      show some _ = some _
      congr 1
      unfold fv
      rw [up2_j d k v (fun e => hi e.symm)]
    · rw [List.getElem?_eq_none (by rw [List.length_range]; omega)]; rfl
theorem g_put0 (C : Cx p s m args c cc nL own D cA ad wd A) {ci N : Nat} {Cn : String} {T : u_T} {ty : Nat → FieldType} (K : ClsOk ci Cn T N ty) (k j : Nat) {n : Nat} {x v : Int} (hk : x = (k : Int)) (hcd : cd wd k = (ci, n)) (hci : ci < 20 ∧ nf ci = N ∧ j < N) (hn : k < nOf wd d) {ix : Nat} (hw : Cond.fieldLink own ix (T j).1 (T j).2.1 (T j).2.2.1 ∈ lw_ok) (hfin : (T j).2.2.2 = false) (hfv : fv ad ci k (up2 d k j v k) j = .int (Int32.ofInt v)) (hnar : narrow (ty j) (.int (Int32.ofInt v)) = .int (Int32.ofInt v)) (hfit : fits (ty j) (.int (Int32.ofInt v)) = true) (hcn : cnk (cd wd k) j v)
    (hd : decode cc pc = .ok (.putfield ix, 3)) (kk : G p l e R s m args below meth c cells slots Q nL D cA ad wd A (pc + 3) lo rest (up2 d k j v)) : G p l e R s m args below meth c cells slots Q nL D cA ad wd A pc lo ((0, v) :: (2, x) :: rest) d := by
  intro ls H locs hl hH hS
  subst hk
  have hat := wld_at (cA := cA) (ad := ad) hn
  rw [ent_obj hcd hci.1] at hat
  show W p l e R s m args below meth c H locs cells slots Q (F0 m pc ls (cv ad (0, v) :: cv ad (2, (k : Int)) :: rest.map (cv ad)))
  rw [cv_r]
  refine va_put (D := D) (ci := ci) (C := Cn) (T := T) (N := N) C.1 C.2.1 C.2.2.2.2.1.at K.1 ty K.2.1 K.2.2.1 C.2.2.2.1 C.2.2.2.2.2.1 hH.1 hH.2.1 hS k hat K.2.2.2 j hci.2.2 (C.2.2.2.2.1.at _ hw) (fun _ h => h) hfin (K.2.1 j hci.2.2) hnar hfit (by rw [List.length_map, List.length_range]; omega) hd (fun H1 locs1 hP hD hS1 => ?_)
  have e1 : (wld wd cA ad d).set k (ad k, .inr (ci, ((List.range (nf ci)).map (fv ad ci k (d k))).set j (.int (Int32.ofInt v)))) = wld wd cA ad (up2 d k j v) := by
    rw [up_fs hci.2.1 hci.2.2 hfv, ← ent_obj (cA := cA) (ad := ad) (f := up2 d k j v k) hcd hci.1]
    exact wld_set (nOf_up hH.2.2 hn) (fun q hq => up2_K d j v hq)
  have hP : va_P D classes ((wld wd cA ad d).set k (ad k, .inr (ci, ((List.range (nf ci)).map (fv ad ci k (d k))).set j (.int (Int32.ofInt v))))) H1 := hP
  have hD : va_D A ((wld wd cA ad d).set k (ad k, .inr (ci, ((List.range (nf ci)).map (fv ad ci k (d k))).set j (.int (Int32.ofInt v))))) := hD
  rw [e1] at hP hD
  exact kk ls H1 locs1 hl ⟨hP, hD, hH.2.2.up hn hcn⟩ hS1
theorem g_putI (C : Cx p s m args c cc nL own D cA ad wd A) {ci N : Nat} {Cn : String} {T : u_T} {ty : Nat → FieldType} (K : ClsOk ci Cn T N ty) (k j : Nat) {n : Nat} {x v : Int} (hv : c32 v) (hk : x = (k : Int)) (hcd : cd wd k = (ci, n)) (hci : ci < 20 ∧ nf ci = N ∧ j < N) (hf : ft ci j = 0) (hn : k < nOf wd d) {ix : Nat} (hw : Cond.fieldLink own ix (T j).1 (T j).2.1 (T j).2.2.1 ∈ lw_ok) (hfin : (T j).2.2.2 = false) (hty : ty j = .int)
    (hd : decode cc pc = .ok (.putfield ix, 3)) (kk : G p l e R s m args below meth c cells slots Q nL D cA ad wd A (pc + 3) lo rest (up2 d k j v)) : G p l e R s m args below meth c cells slots Q nL D cA ad wd A pc lo ((0, v) :: (2, x) :: rest) d :=
  g_put0 C K k j hk hcd hci hn hw hfin (by rw [fv_I hf, up2_s]; rfl) (by rw [hty]; rfl) (by rw [hty]; rfl) (by rw [hcd]; exact cnk_i ⟨hci.1, hf⟩ hv) hd kk
theorem g_putZ (C : Cx p s m args c cc nL own D cA ad wd A) {ci N : Nat} {Cn : String} {T : u_T} {ty : Nat → FieldType} (K : ClsOk ci Cn T N ty) (k j : Nat) {n : Nat} {x v : Int} (hv : cb v) (hk : x = (k : Int)) (hcd : cd wd k = (ci, n)) (hci : ci < 20 ∧ nf ci = N ∧ j < N) (hf : ft ci j = 2) (hn : k < nOf wd d) {ix : Nat} (hw : Cond.fieldLink own ix (T j).1 (T j).2.1 (T j).2.2.1 ∈ lw_ok) (hfin : (T j).2.2.2 = false) (hty : ty j = .boolean)
    (hd : decode cc pc = .ok (.putfield ix, 3)) (kk : G p l e R s m args below meth c cells slots Q nL D cA ad wd A (pc + 3) lo rest (up2 d k j v)) : G p l e R s m args below meth c cells slots Q nL D cA ad wd A pc lo ((0, v) :: (2, x) :: rest) d :=
  g_put0 C K k j hk hcd hci hn hw hfin (by rw [fv_Z hf, up2_s]; rfl) (by rw [hty]; rcases hv with rfl | rfl <;> rfl) (by rw [hty]; rcases hv with rfl | rfl <;> rfl) (by rw [hcd]; exact cnk_z ⟨hci.1, hf⟩ hv) hd kk
theorem g_putIN (C : Cx p s m args c cc nL own D cA ad wd A) {ci N : Nat} {Cn host : String} {T : u_T} {ty : Nat → FieldType} (K : ClsOk ci Cn T N ty) (k j : Nat) {n : Nat} {x v : Int} (hv : c32 v) (hk : x = (k : Int)) (hcd : cd wd k = (ci, n)) (hci : ci < 20 ∧ nf ci = N ∧ j < N) (hf : ft ci j = 0) (hn : k < nOf wd d) {ix : Nat} (hw : Cond.fieldLinkNest own ix (T j).1 (T j).2.1 (T j).2.2.1 host ∈ lw_ok) (hfin : (T j).2.2.2 = false) (hty : ty j = .int)
    (hd : decode cc pc = .ok (.putfield ix, 3)) (kk : G p l e R s m args below meth c cells slots Q nL D cA ad wd A (pc + 3) lo rest (up2 d k j v)) : G p l e R s m args below meth c cells slots Q nL D cA ad wd A pc lo ((0, v) :: (2, x) :: rest) d := by
  intro ls H locs hl hH hS
  subst hk
  have hat := wld_at (cA := cA) (ad := ad) hn
  rw [ent_obj hcd hci.1] at hat
  show W p l e R s m args below meth c H locs cells slots Q (F0 m pc ls (cv ad (0, v) :: cv ad (2, (k : Int)) :: rest.map (cv ad)))
  rw [cv_r]
  refine va_putN (D := D) (ci := ci) (C := Cn) (T := T) (N := N) C.1 C.2.1 C.2.2.2.2.1.at K.1 ty K.2.1 K.2.2.1 C.2.2.2.1 C.2.2.2.2.2.1 hH.1 hH.2.1 hS k hat K.2.2.2 j hci.2.2 (C.2.2.2.2.1.at _ hw) (fun _ h => h) hfin (K.2.1 j hci.2.2) (v := .int (Int32.ofInt v)) (by rw [hty]; rfl) (by rw [hty]; rfl) (by rw [List.length_map, List.length_range]; omega) hd (fun H1 locs1 hP hD hS1 => ?_)
  have e1 : (wld wd cA ad d).set k (ad k, .inr (ci, ((List.range (nf ci)).map (fv ad ci k (d k))).set j (.int (Int32.ofInt v)))) = wld wd cA ad (up2 d k j v) := by
    rw [up_fs (v := v) hci.2.1 hci.2.2 (by rw [fv_I hf, up2_s]; rfl), ← ent_obj (cA := cA) (ad := ad) (f := up2 d k j v k) hcd hci.1]
    exact wld_set (nOf_up hH.2.2 hn) (fun q hq => up2_K d j v hq)
  rw [e1] at hP hD
  exact kk ls H1 locs1 hl ⟨hP, hD, hH.2.2.up hn (by rw [hcd]; exact cnk_i ⟨hci.1, hf⟩ hv)⟩ hS1
/-! arrays -/
theorem g_iald (C : Cx p s m args c cc nL own D cA ad wd A) (k : Nat) {n : Nat} {x i : Int} (hi : c32 i) (hk : x = (k : Int)) (hcd : cd wd k = (20, n)) (hn : k < nOf wd d) (hin : 0 ≤ i ∧ i < (n : Int)) (hd : decode cc pc = .ok (.iaload, 1)) (kk : c32 (d k i.toNat) → G p l e R s m args below meth c cells slots Q nL D cA ad wd A (pc + 1) lo ((0, d k i.toNat) :: rest) d) : G p l e R s m args below meth c cells slots Q nL D cA ad wd A pc lo ((0, i) :: (2, x) :: rest) d := by
  intro ls H locs hl hH hS
  subst hk
  have hat := wld_at (cA := cA) (ad := ad) hn
  rw [ent_arr hcd (by omega)] at hat
  show W p l e R s m args below meth c H locs cells slots Q (F0 m pc ls (cv ad (0, i) :: cv ad (2, (k : Int)) :: rest.map (cv ad)))
  rw [cv_r]
  refine va_iald (t0 := 0) C.1 C.2.1 C.2.2.2.2.2.1 hH.1 k hat rfl (i_in hi hin) hd ?_
  rw [i_cl hi]
  have h1 := hH.2.2.1 k i.toNat
  rw [hcd] at h1
  exact kk h1 ls H locs hl hH hS
theorem g_lald (C : Cx p s m args c cc nL own D cA ad wd A) (k : Nat) {n : Nat} {x i : Int} (hi : c32 i) (hk : x = (k : Int)) (hcd : cd wd k = (21, n)) (hn : k < nOf wd d) (hin : 0 ≤ i ∧ i < (n : Int)) (hd : decode cc pc = .ok (.laload, 1)) (kk : c64 (d k i.toNat) → G p l e R s m args below meth c cells slots Q nL D cA ad wd A (pc + 1) lo ((1, d k i.toNat) :: rest) d) : G p l e R s m args below meth c cells slots Q nL D cA ad wd A pc lo ((0, i) :: (2, x) :: rest) d := by
  intro ls H locs hl hH hS
  subst hk
  have hat := wld_at (cA := cA) (ad := ad) hn
  rw [ent_arr hcd (by omega)] at hat
  show W p l e R s m args below meth c H locs cells slots Q (F0 m pc ls (cv ad (0, i) :: cv ad (2, (k : Int)) :: rest.map (cv ad)))
  rw [cv_r]
  refine va_lald (t0 := 1) C.1 C.2.1 C.2.2.2.2.2.1 hH.1 k hat rfl (i_in hi hin) hd ?_
  rw [i_cl hi]
  have h1 := hH.2.2.1 k i.toNat
  rw [hcd] at h1
  exact kk h1 ls H locs hl hH hS
theorem g_bald (C : Cx p s m args c cc nL own D cA ad wd A) (k : Nat) {n : Nat} {x i : Int} (hi : c32 i) (hk : x = (k : Int)) (hcd : cd wd k = (22, n)) (hn : k < nOf wd d) (hin : 0 ≤ i ∧ i < (n : Int)) (hd : decode cc pc = .ok (.baload, 1)) (kk : -128 ≤ d k i.toNat ∧ d k i.toNat < 128 → G p l e R s m args below meth c cells slots Q nL D cA ad wd A (pc + 1) lo ((0, d k i.toNat) :: rest) d) : G p l e R s m args below meth c cells slots Q nL D cA ad wd A pc lo ((0, i) :: (2, x) :: rest) d := by
  intro ls H locs hl hH hS
  subst hk
  have hat := wld_at (cA := cA) (ad := ad) hn
  rw [ent_arr hcd (by omega)] at hat
  show W p l e R s m args below meth c H locs cells slots Q (F0 m pc ls (cv ad (0, i) :: cv ad (2, (k : Int)) :: rest.map (cv ad)))
  rw [cv_r]
  refine va_bald (t0 := 2) C.1 C.2.1 C.2.2.2.2.2.1 hH.1 k hat rfl (i_in hi hin) hd ?_
  rw [i_cl hi]
  have h1 := hH.2.2.1 k i.toNat
  rw [hcd] at h1
  exact kk h1 ls H locs hl hH hS
theorem g_zald (C : Cx p s m args c cc nL own D cA ad wd A) (k : Nat) {n : Nat} {x i : Int} (hi : c32 i) (hk : x = (k : Int)) (hcd : cd wd k = (23, n)) (hn : k < nOf wd d) (hin : 0 ≤ i ∧ i < (n : Int)) (hd : decode cc pc = .ok (.baload, 1)) (kk : cb (d k i.toNat) → G p l e R s m args below meth c cells slots Q nL D cA ad wd A (pc + 1) lo ((0, d k i.toNat) :: rest) d) : G p l e R s m args below meth c cells slots Q nL D cA ad wd A pc lo ((0, i) :: (2, x) :: rest) d := by
  intro ls H locs hl hH hS
  subst hk
  have hat := wld_at (cA := cA) (ad := ad) hn
  rw [ent_arr hcd (by omega)] at hat
  show W p l e R s m args below meth c H locs cells slots Q (F0 m pc ls (cv ad (0, i) :: cv ad (2, (k : Int)) :: rest.map (cv ad)))
  rw [cv_r]
  refine va_zald (t0 := 3) C.1 C.2.1 C.2.2.2.2.2.1 hH.1 k hat rfl (i_in hi hin) hd ?_
  rw [i_cl hi]
  have h1 := hH.2.2.1 k i.toNat
  rw [hcd] at h1
  exact kk h1 ls H locs hl hH hS
theorem g_iast (C : Cx p s m args c cc nL own D cA ad wd A) (k : Nat) {n : Nat} {x i v : Int} (hv : c32 v) (hi : c32 i) (hk : x = (k : Int)) (hcd : cd wd k = (20, n)) (hn : k < nOf wd d) (hin : 0 ≤ i ∧ i < (n : Int)) (hd : decode cc pc = .ok (.iastore, 1)) (kk : G p l e R s m args below meth c cells slots Q nL D cA ad wd A (pc + 1) lo rest (up2 d k i.toNat v)) : G p l e R s m args below meth c cells slots Q nL D cA ad wd A pc lo ((0, v) :: (0, i) :: (2, x) :: rest) d := by
  intro ls H locs hl hH hS
  subst hk
  have hat := wld_at (cA := cA) (ad := ad) hn
  rw [ent_arr hcd (by omega)] at hat
  show W p l e R s m args below meth c H locs cells slots Q (F0 m pc ls (cv ad (0, v) :: cv ad (0, i) :: cv ad (2, (k : Int)) :: rest.map (cv ad)))
  rw [cv_r]
  refine va_iast (t0 := 0) C.1 C.2.1 C.2.2.2.2.2.1 hH.1 hH.2.1 hS k hat rfl (i_in hi hin) hd (fun H1 locs1 hP hD hS1 => ?_)
  rw [i_cl hi] at hP hD
  have e0 : Int32.ofInt v = Int32.ofInt v := rfl
  have e1 : (wld wd cA ad d).set k (ad k, .inl (cA 0, n, .inl (upd (fun j => Int32.ofInt (d k j)) i.toNat (Int32.ofInt v)))) = wld wd cA ad (up2 d k i.toNat v) := by
    rw [← wld_set (d' := up2 d k i.toNat v) (nOf_up hH.2.2 hn) (fun q hq => up2_K d _ _ hq), ent_arr hcd (by omega)]
    congr 2
    show Sum.inl _ = Sum.inl (cA 0, n, _)
    rw [e0]
    congr 4
    funext j
    unfold upd up2
    simp only [if_true]
    by_cases hj : j = i.toNat
    · rw [if_pos hj, if_pos hj]
    · rw [if_neg hj, if_neg hj]
  rw [e1] at hP hD
  exact kk ls H1 locs1 hl ⟨hP, hD, hH.2.2.up hn (by rw [hcd]; exact hv)⟩ hS1
theorem g_last (C : Cx p s m args c cc nL own D cA ad wd A) (k : Nat) {n : Nat} {x i v : Int} (hv : c64 v) (hi : c32 i) (hk : x = (k : Int)) (hcd : cd wd k = (21, n)) (hn : k < nOf wd d) (hin : 0 ≤ i ∧ i < (n : Int)) (hd : decode cc pc = .ok (.lastore, 1)) (kk : G p l e R s m args below meth c cells slots Q nL D cA ad wd A (pc + 1) lo rest (up2 d k i.toNat v)) : G p l e R s m args below meth c cells slots Q nL D cA ad wd A pc lo ((1, v) :: (0, i) :: (2, x) :: rest) d := by
  intro ls H locs hl hH hS
  subst hk
  have hat := wld_at (cA := cA) (ad := ad) hn
  rw [ent_arr hcd (by omega)] at hat
  show W p l e R s m args below meth c H locs cells slots Q (F0 m pc ls (cv ad (1, v) :: cv ad (0, i) :: cv ad (2, (k : Int)) :: rest.map (cv ad)))
  rw [cv_r]
  refine va_last (t0 := 1) C.1 C.2.1 C.2.2.2.2.2.1 hH.1 hH.2.1 hS k hat rfl (i_in hi hin) hd (fun H1 locs1 hP hD hS1 => ?_)
  rw [i_cl hi] at hP hD
  have e0 : Int64.ofInt v = Int64.ofInt v := rfl
  have e1 : (wld wd cA ad d).set k (ad k, .inl (cA 1, n, .inr (.inl (vp_updL (fun j => Int64.ofInt (d k j)) i.toNat (Int64.ofInt v))))) = wld wd cA ad (up2 d k i.toNat v) := by
    rw [← wld_set (d' := up2 d k i.toNat v) (nOf_up hH.2.2 hn) (fun q hq => up2_K d _ _ hq), ent_arr hcd (by omega)]
    congr 2
    show Sum.inl _ = Sum.inl (cA 1, n, _)
    rw [e0]
    congr 5
    funext j
    unfold vp_updL up2
    simp only [if_true]
    by_cases hj : j = i.toNat
    · rw [if_pos hj, if_pos hj]
    · rw [if_neg hj, if_neg hj]
  rw [e1] at hP hD
  exact kk ls H1 locs1 hl ⟨hP, hD, hH.2.2.up hn (by rw [hcd]; exact hv)⟩ hS1
theorem g_bast (C : Cx p s m args c cc nL own D cA ad wd A) (k : Nat) {n : Nat} {x i v : Int} (hv : c32 v) (hi : c32 i) (hk : x = (k : Int)) (hcd : cd wd k = (22, n)) (hn : k < nOf wd d) (hin : 0 ≤ i ∧ i < (n : Int)) (hd : decode cc pc = .ok (.bastore, 1)) (kk : G p l e R s m args below meth c cells slots Q nL D cA ad wd A (pc + 1) lo rest (up2 d k i.toNat (w8 v))) : G p l e R s m args below meth c cells slots Q nL D cA ad wd A pc lo ((0, v) :: (0, i) :: (2, x) :: rest) d := by
  intro ls H locs hl hH hS
  subst hk
  have hat := wld_at (cA := cA) (ad := ad) hn
  rw [ent_arr hcd (by omega)] at hat
  show W p l e R s m args below meth c H locs cells slots Q (F0 m pc ls (cv ad (0, v) :: cv ad (0, i) :: cv ad (2, (k : Int)) :: rest.map (cv ad)))
  rw [cv_r]
  refine va_bast (t0 := 2) C.1 C.2.1 C.2.2.2.2.2.1 hH.1 hH.2.1 hS k hat rfl (i_in hi hin) hd (fun H1 locs1 hP hD hS1 => ?_)
  rw [i_cl hi] at hP hD
  have e0 : vp_nar .byte (Int32.ofInt v) = Int32.ofInt (w8 v) := (by rw [vp_nar_byte]; apply Int32.toInt_inj.mp; rw [Int8.toInt_toInt32, Int32.toInt_toInt8, i_t hv, i_t (c32_8 v)]; rfl)
  have e1 : (wld wd cA ad d).set k (ad k, .inl (cA 2, n, .inl (upd (fun j => Int32.ofInt (d k j)) i.toNat (vp_nar .byte (Int32.ofInt v))))) = wld wd cA ad (up2 d k i.toNat (w8 v)) := by
    rw [← wld_set (d' := up2 d k i.toNat (w8 v)) (nOf_up hH.2.2 hn) (fun q hq => up2_K d _ _ hq), ent_arr hcd (by omega)]
    congr 2
    show Sum.inl _ = Sum.inl (cA 2, n, _)
    rw [e0]
    congr 4
    funext j
    unfold upd up2
    simp only [if_true]
    by_cases hj : j = i.toNat
    · rw [if_pos hj, if_pos hj]
    · rw [if_neg hj, if_neg hj]
  rw [e1] at hP hD
  exact kk ls H1 locs1 hl ⟨hP, hD, hH.2.2.up hn (by rw [hcd]; exact w8_c v)⟩ hS1
theorem g_zast (C : Cx p s m args c cc nL own D cA ad wd A) (k : Nat) {n : Nat} {x i v : Int} (hv : cb v) (hi : c32 i) (hk : x = (k : Int)) (hcd : cd wd k = (23, n)) (hn : k < nOf wd d) (hin : 0 ≤ i ∧ i < (n : Int)) (hd : decode cc pc = .ok (.bastore, 1)) (kk : G p l e R s m args below meth c cells slots Q nL D cA ad wd A (pc + 1) lo rest (up2 d k i.toNat v)) : G p l e R s m args below meth c cells slots Q nL D cA ad wd A pc lo ((0, v) :: (0, i) :: (2, x) :: rest) d := by
  intro ls H locs hl hH hS
  subst hk
  have hat := wld_at (cA := cA) (ad := ad) hn
  rw [ent_arr hcd (by omega)] at hat
  show W p l e R s m args below meth c H locs cells slots Q (F0 m pc ls (cv ad (0, v) :: cv ad (0, i) :: cv ad (2, (k : Int)) :: rest.map (cv ad)))
  rw [cv_r]
  refine va_zast (t0 := 3) C.1 C.2.1 C.2.2.2.2.2.1 hH.1 hH.2.1 hS k hat rfl (i_in hi hin) hd (fun H1 locs1 hP hD hS1 => ?_)
  rw [i_cl hi] at hP hD
  have e0 : vp_nar .boolean (Int32.ofInt v) = Int32.ofInt v := (by rcases hv with rfl | rfl <;> rfl)
  have e1 : (wld wd cA ad d).set k (ad k, .inl (cA 3, n, .inl (upd (fun j => Int32.ofInt (d k j)) i.toNat (vp_nar .boolean (Int32.ofInt v))))) = wld wd cA ad (up2 d k i.toNat v) := by
    rw [← wld_set (d' := up2 d k i.toNat v) (nOf_up hH.2.2 hn) (fun q hq => up2_K d _ _ hq), ent_arr hcd (by omega)]
    congr 2
    show Sum.inl _ = Sum.inl (cA 3, n, _)
    rw [e0]
    congr 4
    funext j
    unfold upd up2
    simp only [if_true]
    by_cases hj : j = i.toNat
    · rw [if_pos hj, if_pos hj]
    · rw [if_neg hj, if_neg hj]
  rw [e1] at hP hD
  exact kk ls H1 locs1 hl ⟨hP, hD, hH.2.2.up hn (by rw [hcd]; exact hv)⟩ hS1
theorem g_alen (C : Cx p s m args c cc nL own D cA ad wd A) (k : Nat) {t n : Nat} {x : Int} (hk : x = (k : Int)) (hcd : cd wd k = (t, n)) (ht : 20 ≤ t ∧ t < 25) (hn : k < nOf wd d) {v : Int} (hv : ((n : Nat) : Int) = v) (hd : decode cc pc = .ok (.arraylength, 1)) (kk : G p l e R s m args below meth c cells slots Q nL D cA ad wd A (pc + 1) lo ((0, v) :: rest) d) : G p l e R s m args below meth c cells slots Q nL D cA ad wd A pc lo ((2, x) :: rest) d := by
  intro ls H locs hl hH hS
  subst hk
  subst hv
  have hat := wld_at (cA := cA) (ad := ad) hn
  rw [ent_arr hcd (by omega)] at hat
  show W p l e R s m args below meth c H locs cells slots Q (F0 m pc ls (cv ad (2, (k : Int)) :: rest.map (cv ad)))
  rw [cv_r]
  obtain ⟨h1, h2⟩ := ht
  have h3 : t = 20 ∨ t = 21 ∨ t = 22 ∨ t = 23 ∨ t = 24 := by omega
  rcases h3 with rfl | rfl | rfl | rfl | rfl
  · exact va_alen (t0 := 0) C.1 C.2.1 C.2.2.2.2.2.1 hH.1 k hat rfl Int32.ofInt_eq_ofNat.symm hd (kk ls H locs hl hH hS)
  · exact va_alen (t0 := 1) C.1 C.2.1 C.2.2.2.2.2.1 hH.1 k hat rfl Int32.ofInt_eq_ofNat.symm hd (kk ls H locs hl hH hS)
  · exact va_alen (t0 := 2) C.1 C.2.1 C.2.2.2.2.2.1 hH.1 k hat rfl Int32.ofInt_eq_ofNat.symm hd (kk ls H locs hl hH hS)
  · exact va_alen (t0 := 3) C.1 C.2.1 C.2.2.2.2.2.1 hH.1 k hat rfl Int32.ofInt_eq_ofNat.symm hd (kk ls H locs hl hH hS)
  · exact va_alen (t0 := 4) C.1 C.2.1 C.2.2.2.2.2.1 hH.1 k hat rfl Int32.ofInt_eq_ofNat.symm hd (kk ls H locs hl hH hS)

/-! calls: a contract over data -/
/-- what a method's caller must bring: the world of d in the cells A, the tables' words, the texts -/
def WS (D : va_G) (cA : Nat → ClassId) (ad : Nat → Nat) (wd : Nat) (A : Nat → Prop) (d : Dt) (U : State) : Prop := HP D cA ad wd A d U.heap ∧ va_K D classes (tysOf cA) U ∧ TB U ∧ EX wd ad A U U.heap
/-- the range of an answer, by the type that the method says -/
def cnr (rt : Option FieldType) (r : Option AV) : Prop := match rt, r with
  | some .int, some v => c32 v.2
  | some .long, some v => c64 v.2
  | some .boolean, some v => cb v.2
  | some .byte, some v => -128 ≤ v.2 ∧ v.2 < 128
  | some .char, some v => 0 ≤ v.2 ∧ v.2 < 65536
  | _, _ => True
def QC (D : va_G) (cA : Nat → ClassId) (ad : Nat → Nat) (wd : Nat) (A : Nat → Prop) (rt : Option FieldType) (r : Option AV) (d' : Dt) : State → Outcome → State → Prop := fun st oc t => oc = .returned (r.map (cv ad)) ∧ HP D cA ad wd A d' t.heap ∧ va_F A st t ∧ cnr rt r
def MC (l : Launch) (y : MethodName) (cc : ByteArray) (mL : Nat) (rt : Option FieldType) (rm : Room) (wd : Nat) (av : List AV) (d : Dt) (r : Option AV) (d' : Dt) : Prop :=
  ∀ (D : va_G) (cA : Nat → ClassId) (ad : Nat → Nat) (sz : Nat), Met l y [.code y cc mL rt] rm (va_Pc (av.map (cv ad)) (fun U => U.heap.size = sz ∧ WS D cA ad wd (va_A (wld wd cA ad d) sz) d U)) (fun _ => QC D cA ad wd (va_A (wld wd cA ad d) sz) rt r d') 0 0 (va_A (wld wd cA ad d) sz)
/-- the words of a method that is called -/
def MW (y : MethodName) (cc : ByteArray) (mL : Nat) (rt : Option FieldType) (n : Nat) : Prop := Cond.code y cc mL rt ∈ lw_ok ∧ Cond.initialized y.cls ∈ lw_ok ∧ (y.cls ≠ "java/lang/invoke/MethodHandle" ∧ y.cls ≠ "java/lang/invoke/VarHandle" ∧ (parseMethodDescriptor y.desc).map (fun d => d.parameters.length) = some n)
theorem goodIn_1 {w : Cond} (h : w ∈ lw_ok) (hg : goodWord w = true) : GoodIn lw_ok [w] := by
  intro z hz
  rw [List.mem_singleton.mp hz]
  exact ⟨h, good_of_word hg⟩
theorem free_in (hD : va_D A (wld wd cA ad d)) {H : Heap} {locs : List Loc} (hS : va_S A s.heap H locs) (hA : ∀ q, s.heap.size ≤ q → A q) : ∀ q, va_A (wld wd cA ad d) H.size q → A q := by
  intro q h
  rcases h with ⟨k, e, h⟩ | h
  · exact hD.2 k (q, e) h
  · exact hA q (Nat.le_trans hS.1 h)
theorem pre_of (C : Cx p s m args c cc nL own D cA ad wd A) {H : Heap} {locs : List Loc} (hH : HP D cA ad wd A d H) (hS : va_S A s.heap H locs) {U : State} (hU : U.heap = H) (hW : s.WarmedH U.vm) : U.heap.size = H.size ∧ WS D cA ad wd (va_A (wld wd cA ad d) H.size) d U := by
  obtain ⟨-, -, -, -, hT, hK, hA, hX⟩ := C
  refine ⟨by rw [hU], ⟨by rw [hU]; exact hH.1, hH.2.1.self, hH.2.2⟩, va_K.moved hW.alike hK, hT.warm hW, ?_⟩
  rw [hU]
  exact ((hX.kept hS.2.1).narrow (free_in hH.2.1 hS hA)).moved hW
theorem blind {av : List AV} {sz : Nat} : FrameBlind (va_Pc (av.map (cv ad)) (fun U => U.heap.size = sz ∧ WS D cA ad wd (va_A (wld wd cA ad d) sz) d U)) := by
  intro a U g mk h
  obtain ⟨h0, h1, h2, h3, h4, h5⟩ := h
  exact ⟨h0, h1, h2, va_K.moved (u := U) (U := U.calling g mk a) (Vm.Alike.refl U.vm) h3, TB.same (u := U) (U := U.calling g mk a) rfl h4, EX.same (u := U) (U := U.calling g mk a) rfl h5⟩
theorem run_go (C : Cx p s m args c cc nL own D cA ad wd A) {H : Heap} {locs : List Loc} {ls : Array Slot} {st0 : List Value} {rt : Option FieldType} {r : Option AV} {d' : Dt} (hl : LR ad ls nL lo) (hH : HP D cA ad wd A d H) (hS : va_S A s.heap H locs)
    (hr : va_Run p l e R s m args below meth c H locs cells slots 0 0 (F0 m pc ls st0) (rest.map (cv ad)) (QC D cA ad wd (va_A (wld wd cA ad d) H.size) rt r d') (va_A (wld wd cA ad d) H.size))
    (k : CN wd d' → cnr rt r → G p l e R s m args below meth c cells slots Q nL D cA ad wd A (pc + 3) lo (r.toList ++ rest) d') : W p l e R s m args below meth c H locs cells slots Q (F0 m pc ls st0) := by
  intro T hT X
  obtain ⟨v, st₀, t, T', L, h0, X', hL, e1, e2, ⟨hv, hHt, ⟨hz, hk⟩, hcn⟩, st⟩ := hr T hT X
  have hF := free_in hH.2.1 hS C.2.2.2.2.2.2.1
  have hv2 : v = r.map (cv ad) := by cases hv; rfl
  subst hv2
  rw [h0] at hz hk
  have hH' : HP D cA ad wd A d' T'.heap := ⟨by rw [e1]; exact hHt.1, hHt.2.1.weaken (fun _ _ _ h => hF _ h), hHt.2.2⟩
  have hS' : va_S A s.heap T'.heap (locs ++ L) := ⟨Nat.le_trans hS.1 (by rw [e1]; exact hz), fun q h1 h2 => by rw [e1, hk q (Nat.lt_of_lt_of_le h1 hS.1) (fun z => h2 (hF q z))]; exact hS.2.1 q h1 h2, fun q hq => by
      rcases List.mem_append.mp hq with h | h
      · exact hS.2.2 q h
      · exact hF _ (hL q h)⟩
  obtain ⟨t2, a1, b1⟩ := k hHt.2.2 hcn ls T'.heap (locs ++ L) hl hH' hS' T' rfl X'
  refine ⟨t2, st t2 ?_, b1⟩
  have e3 : (r.map (cv ad)).toList ++ rest.map (cv ad) = (r.toList ++ rest).map (cv ad) := by cases r <;> rfl
  show Steps p.tables e below (T'.setTop { F0 m pc ls st0 with pc := (F0 m pc ls st0).pc + 3, stack := (r.map (cv ad)).toList ++ rest.map (cv ad) }) t2
  rw [e3]
  exact a1
theorem cat_le {rest : List AV} (h : (rest.map (fun v => if v.1 = 1 then 2 else 1)).sum ≤ 8) : ((rest.map (cv ad)).map fun v => v.category).sum ≤ 8 := by
  have e : (rest.map (cv ad)).map (fun v => v.category) = rest.map (fun v => if v.1 = 1 then 2 else 1) := by
    rw [List.map_map]
    apply List.map_congr_left
    intro v _
    show (cv ad v).category = _
    by_cases hv : v.1 = 1
    · rw [if_pos hv]
      obtain ⟨t, x⟩ := v
      cases hv
      rfl
    · rw [if_neg hv]; exact cv_cat ad v hv
  rw [e]; exact h
/-- a call of a method of an object of the world -/
theorem g_callV (C : Cx p s m args c cc nL own D cA ad wd A) {y : MethodName} {cy : ByteArray} {mL : Nat} {rt : Option FieldType} {rm : Room} {n : Nat} (W : MW y cy mL rt n) (As : List AV) {x : Int} (k : Nat) {ci n9 : Nat} {Cn : String} {T : u_T} {N : Nat} {ty : Nat → FieldType} (K : ClsOk ci Cn T N ty) {r : Option AV} {d' : Dt} (hk : x = (k : Int)) (hM : MC l y cy mL rt rm wd ((2, x) :: As) d r d') (hcd : cd wd k = (ci, n9)) (hci : ci < 20) (hn : k < nOf wd d) {ix : Nat}
    (hlk : Cond.methodLink own ix y ∈ lw_ok) (hin : Cond.instanceMethod y ∈ lw_ok) (hse : Cond.selects Cn y y ∈ lw_ok) (hR : rm.cells = 0 ∧ rm.slots = 0 ∧ rm.frames + 1 ≤ R.frames ∧ 8 + (mL + 11) + rm.locals ≤ R.locals) (hA : As.length = n) {st : List AV} (hst : st = As.reverse ++ (2, x) :: rest) (hw : (rest.map (fun v => if v.1 = 1 then 2 else 1)).sum ≤ 8) (hcs : cells ≤ R.cells ∧ slots ≤ R.slots) (hd : decode cc pc = .ok (.invokevirtual ix, 3)) (kk : CN wd d' → cnr rt r → G p l e R s m args below meth c cells slots Q nL D cA ad wd A (pc + 3) lo (r.toList ++ rest) d') : G p l e R s m args below meth c cells slots Q nL D cA ad wd A pc lo st d := by
  intro ls H locs hl hH hS
  subst hst
  subst hk
  have hat := wld_at (cA := cA) (ad := ad) hn
  rw [ent_obj hcd hci] at hat
  have hts := C.2.2.2.2.1.at (args := args)
  refine run_go C hl hH hS (va_runV (Ts := lw_ok) (C := Cn) (b := ad k) (As := As.map (cv ad)) (bytes := cy) (maxL := mL) (ret := rt) (n := n) ⟨C.1, C.2.1, C.2.2.1, C.2.2.2.1, hts⟩ (hM D cA ad H.size) ⟨callB_of n hts (goodIn_1 W.1 rfl) rfl hR.1 hR.2.1 (hts _ W.2.1) (hts _ hlk) W.2.2 hR.2.2, hts _ hin, hts _ hse⟩ ⟨blind, va_recv C.2.2.2.2.2.1 hH.1 K.2.2.2 hat, fun U hU hW => ⟨?_, pre_of C hH hS hU hW⟩⟩ rfl (by rw [List.length_map]; exact hA) hl.1 ?_ (by show 2 * 0 + _ ≤ 8; rw [Nat.mul_zero, Nat.zero_add]; exact cat_le hw) hd hcs) kk
  · rw [List.map_cons, cv_r]
  · show (As.reverse ++ (2, (k : Int)) :: rest).map (cv ad) = _
    rw [List.map_append, List.map_cons, cv_r, List.map_reverse]
/-- a call of a static method, its own class's or (nest) a mate's -/
theorem g_callS (C : Cx p s m args c cc nL own D cA ad wd A) {y : MethodName} {cy : ByteArray} {mL : Nat} {rt : Option FieldType} {rm : Room} {n : Nat} (W : MW y cy mL rt n) (As : List AV) {r : Option AV} {d' : Dt} (hM : MC l y cy mL rt rm wd As d r d') {ix : Nat}
    (hlk : Cond.methodLink own ix y ∈ lw_ok) (hin : Cond.static y ∈ lw_ok) (hR : rm.cells = 0 ∧ rm.slots = 0 ∧ rm.frames + 1 ≤ R.frames ∧ 8 + (mL + 11) + rm.locals ≤ R.locals) (hA : As.length = n) {st : List AV} (hst : st = As.reverse ++ rest) (hw : (rest.map (fun v => if v.1 = 1 then 2 else 1)).sum ≤ 8) (hcs : cells ≤ R.cells ∧ slots ≤ R.slots) (hd : decode cc pc = .ok (.invokestatic ix, 3)) (kk : CN wd d' → cnr rt r → G p l e R s m args below meth c cells slots Q nL D cA ad wd A (pc + 3) lo (r.toList ++ rest) d') : G p l e R s m args below meth c cells slots Q nL D cA ad wd A pc lo st d := by
  intro ls H locs hl hH hS
  subst hst
  have hts := C.2.2.2.2.1.at (args := args)
  refine run_go C hl hH hS (va_runS (Ts := lw_ok) (As := As.map (cv ad)) (bytes := cy) (maxL := mL) (ret := rt) (n := n) ⟨C.1, C.2.1, C.2.2.1, C.2.2.2.1, hts⟩ (hM D cA ad H.size) ⟨callB_of n hts (goodIn_1 W.1 rfl) rfl hR.1 hR.2.1 (hts _ W.2.1) (hts _ hlk) W.2.2 hR.2.2, hts _ hin⟩ ⟨blind, fun U hU hW => ⟨rfl, pre_of C hH hS hU hW⟩⟩ rfl (by rw [List.length_map]; exact hA) hl.1 ?_ (by show 2 * 0 + _ ≤ 8; rw [Nat.mul_zero, Nat.zero_add]; exact cat_le hw) hd hcs) kk
  show (As.reverse ++ rest).map (cv ad) = _
  rw [List.map_append, List.map_reverse]
theorem g_callSN (C : Cx p s m args c cc nL own D cA ad wd A) {y : MethodName} {cy : ByteArray} {mL : Nat} {rt : Option FieldType} {rm : Room} {n : Nat} (W : MW y cy mL rt n) (As : List AV) {r : Option AV} {d' : Dt} (hM : MC l y cy mL rt rm wd As d r d') {ix : Nat} {host : String}
    (hlk : Cond.methodLinkNest own ix y host ∈ lw_ok) (hin : Cond.static y ∈ lw_ok) (hR : rm.cells = 0 ∧ rm.slots = 0 ∧ rm.frames + 1 ≤ R.frames ∧ 8 + (mL + 11) + rm.locals ≤ R.locals) (hA : As.length = n) {st : List AV} (hst : st = As.reverse ++ rest) (hw : (rest.map (fun v => if v.1 = 1 then 2 else 1)).sum ≤ 8) (hcs : cells ≤ R.cells ∧ slots ≤ R.slots) (hd : decode cc pc = .ok (.invokestatic ix, 3)) (kk : CN wd d' → cnr rt r → G p l e R s m args below meth c cells slots Q nL D cA ad wd A (pc + 3) lo (r.toList ++ rest) d') : G p l e R s m args below meth c cells slots Q nL D cA ad wd A pc lo st d := by
  intro ls H locs hl hH hS
  subst hst
  have hts := C.2.2.2.2.1.at (args := args)
  refine run_go C hl hH hS (va_runSN (Ts := lw_ok) (host := host) (As := As.map (cv ad)) (bytes := cy) (maxL := mL) (ret := rt) (n := n) ⟨C.1, C.2.1, C.2.2.1, C.2.2.2.1, hts⟩ (hM D cA ad H.size) ⟨va_cnB n hts (goodIn_1 W.1 rfl) rfl hR.1 hR.2.1 (C.2.2.2.2.1 _ hlk) (hts _ W.2.1) W.2.2 hR.2.2, hts _ hin, trivial⟩ ⟨blind, fun U hU hW => ⟨rfl, pre_of C hH hS hU hW⟩⟩ rfl (by rw [List.length_map]; exact hA) hl.1 ?_ (by show 2 * 0 + _ ≤ 8; rw [Nat.mul_zero, Nat.zero_add]; exact cat_le hw) hd hcs) kk
  show (As.reverse ++ rest).map (cv ad) = _
  rw [List.map_append, List.map_reverse]
/-! ends -/
theorem g_iret (C : Cx p s m args c cc nL own D cA ad wd A) {x : Int} (hx : c32 x) (hlk : meth.locks = false) (hr : meth.sig.returnType = some .int) (hd : decode cc pc = .ok (.ireturn, 1)) : G p l e R s m args below meth c 0 0 (MQ below (fun _ => QC D cA ad wd A (some .int) (some (0, x)) d) args s 0 0 A) nL D cA ad wd A pc lo [(0, x)] d :=
  fun ls H locs hl hH hS => W.iret (v := Int32.ofInt x) C.1 C.2.1 hr (fun t ht hW => ⟨rfl, by rw [ht]; exact hH, hS.F ht, hx⟩) hS.2.2 hd hlk
theorem g_zret (C : Cx p s m args c cc nL own D cA ad wd A) {x : Int} (hx : cb x) (hlk : meth.locks = false) (hr : meth.sig.returnType = some .boolean) (hd : decode cc pc = .ok (.ireturn, 1)) : G p l e R s m args below meth c 0 0 (MQ below (fun _ => QC D cA ad wd A (some .boolean) (some (0, x)) d) args s 0 0 A) nL D cA ad wd A pc lo [(0, x)] d :=
  fun ls H locs hl hH hS => W.zret (v := Int32.ofInt x) C.1 C.2.1 hr (by rcases hx with rfl | rfl <;> rfl) (fun t ht hW => ⟨rfl, by rw [ht]; exact hH, hS.F ht, hx⟩) hS.2.2 hd hlk
theorem g_cret (C : Cx p s m args c cc nL own D cA ad wd A) {x : Int} {ty : FieldType} (hcn : cnr (some ty) (some (0, x))) (hx : narrow ty (.int (Int32.ofInt x)) = .int (Int32.ofInt x)) (hlk : meth.locks = false) (hr : meth.sig.returnType = some ty) (hd : decode cc pc = .ok (.ireturn, 1)) : G p l e R s m args below meth c 0 0 (MQ below (fun _ => QC D cA ad wd A (some ty) (some (0, x)) d) args s 0 0 A) nL D cA ad wd A pc lo [(0, x)] d :=
  fun ls H locs hl hH hS => W.zret (v := Int32.ofInt x) C.1 C.2.1 hr hx (fun t ht hW => ⟨rfl, by rw [ht]; exact hH, hS.F ht, hcn⟩) hS.2.2 hd hlk
theorem g_lret (C : Cx p s m args c cc nL own D cA ad wd A) {x : Int} (hx : c64 x) (hlk : meth.locks = false) (hr : meth.sig.returnType = some .long) (hd : decode cc pc = .ok (.lreturn, 1)) : G p l e R s m args below meth c 0 0 (MQ below (fun _ => QC D cA ad wd A (some .long) (some (1, x)) d) args s 0 0 A) nL D cA ad wd A pc lo [(1, x)] d :=
  fun ls H locs hl hH hS => W.lret (v := Int64.ofInt x) C.1 C.2.1 hr (fun t ht hW => ⟨rfl, by rw [ht]; exact hH, hS.F ht, hx⟩) hS.2.2 hd hlk
theorem g_aret (C : Cx p s m args c cc nL own D cA ad wd A) {x : Int} {ty : FieldType} (hty : (∃ n, ty = .object n) ∨ ∃ t, ty = .array t) (hlk : meth.locks = false) (hr : meth.sig.returnType = some ty) (hd : decode cc pc = .ok (.areturn, 1)) : G p l e R s m args below meth c 0 0 (MQ below (fun _ => QC D cA ad wd A (some ty) (some (2, x)) d) args s 0 0 A) nL D cA ad wd A pc lo [(2, x)] d :=
  fun ls H locs hl hH hS => W.aret (v := va_rf (orf ad x)) C.1 C.2.1 hr hty (va_rf_or _) (fun t ht hW => ⟨rfl, by rw [ht]; exact hH, hS.F ht, (by rcases hty with ⟨n, rfl⟩ | ⟨t, rfl⟩ <;> trivial)⟩) hS.2.2 hd hlk
theorem g_vret (C : Cx p s m args c cc nL own D cA ad wd A) (hlk : meth.locks = false) (hr : meth.sig.returnType = none) (hd : decode cc pc = .ok (.return_, 1)) : G p l e R s m args below meth c 0 0 (MQ below (fun _ => QC D cA ad wd A none none d) args s 0 0 A) nL D cA ad wd A pc lo [] d :=
  fun ls H locs hl hH hS => W.vret C.1 C.2.1 hr (fun t ht hW => ⟨rfl, by rw [ht]; exact hH, hS.F ht, trivial⟩) hS.2.2 hd hlk
def lo0 : List AV → List AV
  | [] => []
  | v :: r => if v.1 = 1 then v :: (9, 0) :: lo0 r else v :: lo0 r
theorem cv_c1 (ad : Nat → Nat) {v : AV} (h : v.1 = 1) : (cv ad v).category = 2 := by
  obtain ⟨t, x⟩ := v
  cases h
  rfl
theorem lo0_args : ∀ (av : List AV) (i0 i : Nat) (v : AV), (lo0 av)[i]? = some v → v.1 < 3 → (i0 + i, cv ad v) ∈ lv_args i0 (av.map (cv ad))
  | [], _, i, v, h, _ => by simp [lo0] at h
  | a :: r, i0, i, v, h, hv => by
    unfold lo0 at h
    rw [List.map_cons, lv_args]
    by_cases ha : a.1 = 1
    · rw [if_pos ha] at h
      rw [if_pos (cv_c1 ad ha)]
      match i, h with
      | 0, h => cases h; exact List.mem_cons_self
      | 1, h => cases h; exact absurd hv (by decide)
      | j + 2, h =>
        have h1 := lo0_args r (i0 + 2) j v h hv
        rw [show i0 + (j + 2) = i0 + 2 + j by omega]
        exact List.mem_cons_of_mem _ h1
    · rw [if_neg ha] at h
      rw [if_neg (by rw [cv_cat ad a ha]; decide)]
      match i, h with
      | 0, h => cases h; exact List.mem_cons_self
      | j + 1, h =>
        have h1 := lo0_args r (i0 + 1) j v h hv
        rw [show i0 + (j + 1) = i0 + 1 + j by omega]
        exact List.mem_cons_of_mem _ h1
theorem lo0_len : ∀ (av : List AV), (lg_sl (av.map (cv ad))).length = (lo0 av).length
  | [] => rfl
  | a :: r => by
    have ih := lo0_len r
    unfold lo0
    unfold lg_sl at ih ⊢
    rw [List.map_cons, List.flatMap_cons, List.length_append, ih]
    by_cases ha : a.1 = 1
    · rw [if_pos ha, if_pos (cv_c1 ad ha)]
      simp only [List.length_cons, List.length_nil]; omega
    · rw [if_neg ha, if_neg (by rw [cv_cat ad a ha]; decide)]
      simp only [List.length_cons, List.length_nil]; omega
/-- a contract out of the walk of the body -/
theorem MC.of {y : MethodName} {cy : ByteArray} {mL : Nat} {rt : Option FieldType} {rm : Room} {av : List AV} {r : Option AV} {d' : Dt} (hy : plainName y.cls = true) (hav : (lo0 av).length ≤ mL)
    (body : ∀ (p : Program) (e : Env) (s : State) (m : MethodId) (args : Array Value) (below : List Frame) (meth : Method) (c : Code) (D : va_G) (cA : Nat → ClassId) (ad : Nat → Nat) (A : Nat → Prop), Cx p s m args c cy mL y.cls D cA ad wd A → meth.locks = false → meth.sig.returnType = rt →
      G p l e rm s m args below meth c 0 0 (MQ below (fun _ => QC D cA ad wd A rt r d') args s 0 0 A) mL D cA ad wd A 0 (lo0 av) [] d) : MC l y cy mL rt rm wd av d r d' := by
  intro D cA ad sz
  refine Met.ofW (cc := cy) (maxL := mL) (ret := rt) hy rfl ?_
  intro p e s m args below meth c s₁ B hml hv
  obtain ⟨rfl, hsz, hH, hK, hT, hX⟩ := hv
  subst hsz
  have C : Cx p s m (av.map (cv ad)).toArray c cy mL y.cls D cA ad wd (va_A (wld wd cA ad d) s.heap.size) := ⟨B.exec, B.bytes, hml, findClass_of_methodNamed B.named, hT, hK, fun q h => Or.inr h, hX⟩
  have hG := body p e s m _ below meth c D cA ad _ C B.notSynchronized B.returns
  rw [lg_entry_eq]
  have hl := lv_entry (av.map (cv ad)) (n := mL) (by rw [lo0_len]; exact hav)
  refine hG _ s.heap [] ⟨hl.1, hl.2.1, fun i v h1 h2 => ?_⟩ hH va_S.rf
  have h3 := lo0_args (ad := ad) av 0 i v h1 h2
  rw [Nat.zero_add] at h3
  exact hl.2.2 (i, cv ad v) h3
end MACH2
