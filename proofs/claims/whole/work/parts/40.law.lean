/-! THE CLAIM OUT OF ONE WALK OF THE LAW'S BODY. Your part is whole_start (and what it stands on); all else here is the same for every law, but numbers. -/
def R_law : String := "PollBooksLaw"
def lw_P (b : Addr) (xs : List Int32) (args : Array Value) (s : State) : Prop := args = #[.ref b] ∧ s.IntsAt b xs ∧ xs.length ≤ 3584 ∧ (Jvm.Cond.and given_1 narrow_1).before args s = true
def lw_Q (_ : Array Value) (s : State) (o : Outcome) (t : State) : Prop := o = .returned (some (.int 1)) ∧ Framed s o t [] 600000 7302250
def lw_Z (below : List Frame) (a : Array Value) (s : State) : State → Prop := fun t => ∃ o, t.status = .running ∧ Ended t below o ∧ lw_Q a s o t
/-- the law's own end, with 1 on the stack, nothing written that was there before, its room as the claim has it -/
theorem lw_ret {p : Program} {l : Launch} {e : Env} {s : State} {m : MethodId} {below : List Frame} {meth : Method} {c : Code} {b : Nat} (hx : p.tables.exec = Jvm.exec) (hb : c.code = code) (hr : meth.sig.returnType = ret) (hlocks : meth.locks = false) {pc : Nat} {H : Heap} {ls : Array Slot} (hdg : decode code pc = .ok (.ireturn, 1)) : W p l e room_1 s m #[Value.ref b] below meth c H [] 600000 7302250 (lw_Z below #[Value.ref b] s) (F0 m pc ls [.int 1]) := by
  intro T hT X
  obtain ⟨fs, hret, hrun, hended, hW, hframe⟩ := X.leave (v := some (.int 1)) (hlocks := hlocks) (fun h => by rw [hr] at h; cases h)
  have hmeth' : T.vm.method? m = some meth := X.method'
  refine ⟨T.setFrames fs, ?_, .returned (some (.int 1)), hrun, hended, rfl, ⟨_, rfl⟩, hW, hframe⟩
  jvm_step X.here [X.here.top, hx, hb, hdg, hmeth', hr, ret, narrow_b1]
  (try refine ⟨rfl, ?_⟩); (try refine ⟨rfl, ?_⟩)
  first | (intro acts; rw [hret _ acts rfl rfl rfl]) | rw [hret _ _ rfl rfl rfl]
  exact Steps.refl _
/-- what holds at the law's entry: the machine, the code, the tables' words (any of lw_tbl by 'hts w (by decide +kernel)'), the script of L ints xs at the cell b, what the Statement gives of the start (any of its parts by flat_of_before) -/
def lw_At (p : Program) (s : State) (m : MethodId) (meth : Method) (c : Code) (b L : Nat) (xs : Nat → Int32) : Prop :=
  p.tables.exec = Jvm.exec ∧ c.code = code ∧ meth.sig.returnType = ret ∧ c.maxLocals = 4 ∧ s.vm.findClass R_law = some m.cls ∧ (∀ w ∈ lw_tbl, w.before #[Value.ref b] s = true) ∧ va_X b L xs s s.heap ∧ b < s.heap.size ∧ meth.locks = false ∧ (Jvm.Cond.and given_1 narrow_1).before #[Value.ref b] s = true
/-! the law's walk: both worlds side by side -/
def lcv (b a1 a2 : Nat) (v : AV) : Value := match v.1 with
  | 0 => .int (Int32.ofInt v.2)
  | 1 => .long (Int64.ofInt v.2)
  | 2 => .ref b
  | 3 => .ref a1
  | _ => .ref a2
def SX (st0 : Nat → Nat) (A : Nat → Prop) (s : State) : Prop := EX0 st0 A s s.heap ∧ EX1 st0 A s s.heap
def AL (s : State) : Nat → Prop := fun q => s.heap.size ≤ q
/-- what stands all along the law -/
def LC (p : Program) (s : State) (m : MethodId) (meth : Method) (c : Code) (b L : Nat) (xs : Nat → Int32) (D : va_G) (cA : Nat → ClassId) (st0 : Nat → Nat) : Prop :=
  p.tables.exec = Jvm.exec ∧ c.code = code ∧ c.maxLocals = 4 ∧ s.vm.findClass R_law = some m.cls ∧ TB s ∧ va_K D classes (tysOf cA) s ∧ va_AO "PollBooks$Statute" s ∧ SX st0 (AL s) s ∧ va_X b L xs s s.heap ∧ b < s.heap.size ∧ L ≤ 3584 ∧ meth.sig.returnType = ret ∧ meth.locks = false
def XI (xs : Nat → Int32) (j : Nat) : Int := (xs j).toInt
theorem XI_c {xs : Nat → Int32} {j : Nat} : c32 (XI xs j) := i_c _
theorem EX0_of {st0 ad : Nat → Nat} {A : Nat → Prop} {s : State} {H : Heap} (h : EX0 st0 A s H) (ha : ∀ k, GH ≤ k → ad k = st0 k) : EX0 ad A s H := by
  unfold EX0 at h ⊢
  rw [ha 1000001 (by decide), ha 1000002 (by decide)]; exact h
theorem EX1_of {st0 ad : Nat → Nat} {A : Nat → Prop} {s : State} {H : Heap} (h : EX1 st0 A s H) (ha : ∀ k, GH ≤ k → ad k = st0 k) : EX1 ad A s H := by
  unfold EX1 EXs at h ⊢
  rw [ha (1000003 + 0) (by decide), ha (1000005 + 0) (by decide), ha (1000003 + 1) (by decide), ha (1000005 + 1) (by decide), ha 1000007 (by decide)]; exact h
section LAW
variable {p : Program} {l : Launch} {e : Env} {s : State} {m : MethodId} {below : List Frame} {meth : Method} {c : Code} {b L : Nat} {xs : Nat → Int32} {D : va_G} {cA : Nat → ClassId} {st0 : Nat → Nat} {cells slots : Nat}
variable {pc i : Nat} {st : List AV} {dA dB : Dt}
def WA (cA : Nat → ClassId) (ad bd : Nat → Nat) (dA dB : Dt) : va_W := wld 0 cA ad dA ++ wld 1 cA bd dB
def GL (p : Program) (l : Launch) (e : Env) (s : State) (m : MethodId) (below : List Frame) (meth : Method) (c : Code) (b : Nat) (D : va_G) (cA : Nat → ClassId) (st0 : Nat → Nat) (cells slots : Nat) (pc i : Nat) (st : List AV) (dA dB : Dt) : Prop :=
  ∀ (ad bd : Nat → Nat), (∀ k, GH ≤ k → ad k = st0 k) → (∀ k, GH ≤ k → bd k = st0 k) → ∀ (ls : Array Slot) (H : Heap) (locs : List Loc), lv_has ls 4 [(0, .ref b), (1, .ref (ad 0)), (2, .ref (bd 0)), (3, .int (Int32.ofInt (i : Int)))] → va_P D classes (WA cA ad bd dA dB) H → va_D (AL s) (WA cA ad bd dA dB) → CN 0 dA → CN 1 dB → va_S (AL s) s.heap H locs → W p l e room_1 s m #[Value.ref b] below meth c H locs cells slots (lw_Z below #[Value.ref b] s) (F0 m pc ls (st.map (lcv b (ad 0) (bd 0))))
theorem l_iconst (C : LC p s m meth c b L xs D cA st0) (n : Int) (hd : decode code pc = .ok (.iconst n, 1)) (k : GL p l e s m below meth c b D cA st0 cells slots (pc + 1) i ((0, n) :: st) dA dB) : GL p l e s m below meth c b D cA st0 cells slots pc i st dA dB :=
  fun ad bd ha hb ls H locs hl hP hD hA hB hS => lv_iconst C.1 C.2.1 hd rfl (k ad bd ha hb ls H locs hl hP hD hA hB hS)
theorem l_bipush (C : LC p s m meth c b L xs D cA st0) (n : Int) (hn : (Int8.ofInt n).toInt32 = Int32.ofInt n) (hd : decode code pc = .ok (.bipush n, 2)) (k : GL p l e s m below meth c b D cA st0 cells slots (pc + 2) i ((0, n) :: st) dA dB) : GL p l e s m below meth c b D cA st0 cells slots pc i st dA dB :=
  fun ad bd ha hb ls H locs hl hP hD hA hB hS => lv_bipush C.1 C.2.1 hd hn (k ad bd ha hb ls H locs hl hP hD hA hB hS)
theorem l_ld0 (C : LC p s m meth c b L xs D cA st0) (hd : decode code pc = .ok (.aload_n 0, 1)) (k : GL p l e s m below meth c b D cA st0 cells slots (pc + 1) i ((2, 0) :: st) dA dB) : GL p l e s m below meth c b D cA st0 cells slots pc i st dA dB :=
  fun ad bd ha hb ls H locs hl hP hD hA hB hS => lv_aload_n C.1 C.2.1 hd rfl (lv_at hl 0 rfl) (k ad bd ha hb ls H locs hl hP hD hA hB hS)
theorem l_ld1 (C : LC p s m meth c b L xs D cA st0) (hd : decode code pc = .ok (.aload_n 1, 1)) (k : GL p l e s m below meth c b D cA st0 cells slots (pc + 1) i ((3, 0) :: st) dA dB) : GL p l e s m below meth c b D cA st0 cells slots pc i st dA dB :=
  fun ad bd ha hb ls H locs hl hP hD hA hB hS => lv_aload_n C.1 C.2.1 hd rfl (lv_at hl 1 rfl) (k ad bd ha hb ls H locs hl hP hD hA hB hS)
theorem l_ld2 (C : LC p s m meth c b L xs D cA st0) (hd : decode code pc = .ok (.aload_n 2, 1)) (k : GL p l e s m below meth c b D cA st0 cells slots (pc + 1) i ((4, 0) :: st) dA dB) : GL p l e s m below meth c b D cA st0 cells slots pc i st dA dB :=
  fun ad bd ha hb ls H locs hl hP hD hA hB hS => lv_aload_n C.1 C.2.1 hd rfl (lv_at hl 2 rfl) (k ad bd ha hb ls H locs hl hP hD hA hB hS)
theorem l_i3 (C : LC p s m meth c b L xs D cA st0) (hd : decode code pc = .ok (.iload_n 3, 1)) (k : GL p l e s m below meth c b D cA st0 cells slots (pc + 1) i ((0, (i : Int)) :: st) dA dB) : GL p l e s m below meth c b D cA st0 cells slots pc i st dA dB :=
  fun ad bd ha hb ls H locs hl hP hD hA hB hS => lv_iload_n C.1 C.2.1 hd rfl (lv_at hl 3 rfl) (k ad bd ha hb ls H locs hl hP hD hA hB hS)
theorem l_iadd (C : LC p s m meth c b L xs D cA st0) {x y z : Int} (hz : w32 (x + y) = z) (hd : decode code pc = .ok (.iadd, 1)) (k : GL p l e s m below meth c b D cA st0 cells slots (pc + 1) i ((0, z) :: st) dA dB) : GL p l e s m below meth c b D cA st0 cells slots pc i ((0, y) :: (0, x) :: st) dA dB := by
  intro ad bd ha hb ls H locs hl hP hD hA hB hS
  subst hz
  have h2 : W p l e room_1 s m #[Value.ref b] below meth c H locs cells slots (lw_Z below #[Value.ref b] s) (F0 m (pc + 1) ls (.int (Int32.ofInt (w32 (x + y))) :: st.map (lcv b (ad 0) (bd 0)))) := k ad bd ha hb ls H locs hl hP hD hA hB hS
  rw [i_w, Int32.ofInt_add] at h2
  exact lv_iadd C.1 C.2.1 hd h2
theorem l_isub (C : LC p s m meth c b L xs D cA st0) {x y z : Int} (hz : w32 (x - y) = z) (hd : decode code pc = .ok (.isub, 1)) (k : GL p l e s m below meth c b D cA st0 cells slots (pc + 1) i ((0, z) :: st) dA dB) : GL p l e s m below meth c b D cA st0 cells slots pc i ((0, y) :: (0, x) :: st) dA dB := by
  intro ad bd ha hb ls H locs hl hP hD hA hB hS
  subst hz
  have h2 : W p l e room_1 s m #[Value.ref b] below meth c H locs cells slots (lw_Z below #[Value.ref b] s) (F0 m (pc + 1) ls (.int (Int32.ofInt (w32 (x - y))) :: st.map (lcv b (ad 0) (bd 0)))) := k ad bd ha hb ls H locs hl hP hD hA hB hS
  rw [i_w, Int32.ofInt_sub] at h2
  exact lv_isub C.1 C.2.1 hd h2
theorem l_iand (C : LC p s m meth c b L xs D cA st0) {x y : Int} (hd : decode code pc = .ok (.iand, 1)) (k : GL p l e s m below meth c b D cA st0 cells slots (pc + 1) i ((0, iand x y) :: st) dA dB) : GL p l e s m below meth c b D cA st0 cells slots pc i ((0, y) :: (0, x) :: st) dA dB := by
  intro ad bd ha hb ls H locs hl hP hD hA hB hS
  have h2 : W p l e room_1 s m #[Value.ref b] below meth c H locs cells slots (lw_Z below #[Value.ref b] s) (F0 m (pc + 1) ls (.int (Int32.ofInt (iand x y)) :: st.map (lcv b (ad 0) (bd 0)))) := k ad bd ha hb ls H locs hl hP hD hA hB hS
  unfold iand at h2
  rw [Int32.ofInt_toInt] at h2
  exact lv_iand C.1 C.2.1 hd h2
theorem l_iald (C : LC p s m meth c b L xs D cA st0) (j : Nat) (hj : j < L) (hd : decode code pc = .ok (.iaload, 1)) (k : GL p l e s m below meth c b D cA st0 cells slots (pc + 1) i ((0, XI xs j) :: st) dA dB) : GL p l e s m below meth c b D cA st0 cells slots pc i ((0, (j : Int)) :: (2, 0) :: st) dA dB := by
  intro ad bd ha hb ls H locs hl hP hD hA hB hS
  obtain ⟨c1, c2, c3, c4, c5, c6, c7, c8, c9, c10, c11, c12, c13⟩ := C
  have hc : c32 (j : Int) := by unfold c32; omega
  have h2 : W p l e room_1 s m #[Value.ref b] below meth c H locs cells slots (lw_Z below #[Value.ref b] s) (F0 m (pc + 1) ls (.int (Int32.ofInt (XI xs j)) :: st.map (lcv b (ad 0) (bd 0)))) := k ad bd ha hb ls H locs hl hP hD hA hB hS
  unfold XI at h2
  rw [Int32.ofInt_toInt] at h2
  refine va_sld c1 c2 c9 c10 (Nat.not_le.mpr c10) hS (i_in hc ⟨by omega, by omega⟩) hd ?_
  rw [i_cl hc]
  exact h2
theorem l_alen (C : LC p s m meth c b L xs D cA st0) (hd : decode code pc = .ok (.arraylength, 1)) (k : GL p l e s m below meth c b D cA st0 cells slots (pc + 1) i ((0, (L : Int)) :: st) dA dB) : GL p l e s m below meth c b D cA st0 cells slots pc i ((2, 0) :: st) dA dB := by
  intro ad bd ha hb ls H locs hl hP hD hA hB hS
  obtain ⟨c1, c2, c3, c4, c5, c6, c7, c8, c9, c10, c11, c12, c13⟩ := C
  refine va_slen c1 c2 c9 c10 (Nat.not_le.mpr c10) hS hd ?_
  rw [← Int32.ofInt_eq_ofNat]
  exact k ad bd ha hb ls H locs hl hP hD hA hB hS
theorem l_i2l (C : LC p s m meth c b L xs D cA st0) {x : Int} (hx : c32 x) (hd : decode code pc = .ok (.i2l, 1)) (k : GL p l e s m below meth c b D cA st0 cells slots (pc + 1) i ((1, x) :: st) dA dB) : GL p l e s m below meth c b D cA st0 cells slots pc i ((0, x) :: st) dA dB := by
  intro ad bd ha hb ls H locs hl hP hD hA hB hS
  refine lv_i2l C.1 C.2.1 hd ?_ (k ad bd ha hb ls H locs hl hP hD hA hB hS)
  apply Int64.toInt_inj.mp
  rw [Int32.toInt_toInt64, i_t hx, l_t (c64_32 hx)]
theorem l_lshl (C : LC p s m meth c b L xs D cA st0) {x y : Int} (hd : decode code pc = .ok (.lshl, 1)) (k : GL p l e s m below meth c b D cA st0 cells slots (pc + 1) i ((1, lshl x y) :: st) dA dB) : GL p l e s m below meth c b D cA st0 cells slots pc i ((0, y) :: (1, x) :: st) dA dB :=
  fun ad bd ha hb ls H locs hl hP hD hA hB hS => lv_lshl C.1 C.2.1 hd (Int64.ofInt_toInt _).symm (k ad bd ha hb ls H locs hl hP hD hA hB hS)
theorem l_land (C : LC p s m meth c b L xs D cA st0) {x y : Int} (hd : decode code pc = .ok (.land, 1)) (k : GL p l e s m below meth c b D cA st0 cells slots (pc + 1) i ((1, land x y) :: st) dA dB) : GL p l e s m below meth c b D cA st0 cells slots pc i ((1, y) :: (1, x) :: st) dA dB := by
  intro ad bd ha hb ls H locs hl hP hD hA hB hS
  have h2 : W p l e room_1 s m #[Value.ref b] below meth c H locs cells slots (lw_Z below #[Value.ref b] s) (F0 m (pc + 1) ls (.long (Int64.ofInt (land x y)) :: st.map (lcv b (ad 0) (bd 0)))) := k ad bd ha hb ls H locs hl hP hD hA hB hS
  unfold _root_.Jvm.Pilot.CPollBooksLaw_law_r9818_e4fec2.land at h2
  rw [Int64.ofInt_toInt] at h2
  exact lv_land C.1 C.2.1 hd h2
theorem l_lor (C : LC p s m meth c b L xs D cA st0) {x y : Int} (hd : decode code pc = .ok (.lor, 1)) (k : GL p l e s m below meth c b D cA st0 cells slots (pc + 1) i ((1, lor x y) :: st) dA dB) : GL p l e s m below meth c b D cA st0 cells slots pc i ((1, y) :: (1, x) :: st) dA dB := by
  intro ad bd ha hb ls H locs hl hP hD hA hB hS
  have h2 : W p l e room_1 s m #[Value.ref b] below meth c H locs cells slots (lw_Z below #[Value.ref b] s) (F0 m (pc + 1) ls (.long (Int64.ofInt (lor x y)) :: st.map (lcv b (ad 0) (bd 0)))) := k ad bd ha hb ls H locs hl hP hD hA hB hS
  unfold _root_.Jvm.Pilot.CPollBooksLaw_law_r9818_e4fec2.lor at h2
  rw [Int64.ofInt_toInt] at h2
  exact lv_lor C.1 C.2.1 hd h2
theorem l_ldc2 (C : LC p s m meth c b L xs D cA st0) {ix : Nat} {v : Int} (hw : Cond.constantLong R_law ix (Int64.ofInt v) ∈ lw_ok) (hd : decode code pc = .ok (.ldc2_w ix, 3)) (k : GL p l e s m below meth c b D cA st0 cells slots (pc + 3) i ((1, v) :: st) dA dB) : GL p l e s m below meth c b D cA st0 cells slots pc i st dA dB :=
  fun ad bd ha hb ls H locs hl hP hD hA hB hS => lv_ldc2 C.1 C.2.1 C.2.2.2.1 (C.2.2.2.2.1.at _ hw) hd (k ad bd ha hb ls H locs hl hP hD hA hB hS)
theorem l_goto (C : LC p s m meth c b L xs D cA st0) {off : Int} (tgt : Nat) (hd : decode code pc = .ok (.goto off, 3)) (ht : (pc : Int) + off = (tgt : Int)) (k : GL p l e s m below meth c b D cA st0 cells slots tgt i st dA dB) : GL p l e s m below meth c b D cA st0 cells slots pc i st dA dB :=
  fun ad bd ha hb ls H locs hl hP hD hA hB hS => lv_goto C.1 C.2.1 hd ht (k ad bd ha hb ls H locs hl hP hD hA hB hS)
theorem l_ifeq (C : LC p s m meth c b L xs D cA st0) {x off : Int} {tgt : Nat} (hx : c32 x) (hd : decode code pc = .ok (.ifCond .eq off, 3)) (ht : (pc : Int) + off = (tgt : Int)) (kt : x = 0 → GL p l e s m below meth c b D cA st0 cells slots tgt i st dA dB) (kf : ¬ x = 0 → GL p l e s m below meth c b D cA st0 cells slots (pc + 3) i st dA dB) : GL p l e s m below meth c b D cA st0 cells slots pc i ((0, x) :: st) dA dB := by
  intro ad bd ha hb ls H locs hl hP hD hA hB hS
  have hq := i_inj hx (show c32 0 by unfold c32; omega)
  refine lv_if_eq C.1 C.2.1 hd ht (fun z => kt (hq.mp z) ad bd ha hb ls H locs hl hP hD hA hB hS) (fun z => kf (fun w => z (hq.mpr w)) ad bd ha hb ls H locs hl hP hD hA hB hS)
theorem l_icmpeq (C : LC p s m meth c b L xs D cA st0) {x off : Int} {tgt : Nat} (hd : decode code pc = .ok (.if_icmp .eq off, 3)) (ht : (pc : Int) + off = (tgt : Int)) (kt : GL p l e s m below meth c b D cA st0 cells slots tgt i st dA dB) : GL p l e s m below meth c b D cA st0 cells slots pc i ((0, x) :: (0, x) :: st) dA dB :=
  fun ad bd ha hb ls H locs hl hP hD hA hB hS => lv_icmp_eq C.1 C.2.1 hd ht (fun _ => kt ad bd ha hb ls H locs hl hP hD hA hB hS) (fun z => absurd rfl z)
theorem l_icmpgt (C : LC p s m meth c b L xs D cA st0) {x y off : Int} {tgt : Nat} (hx : c32 x) (hy : c32 y) (hd : decode code pc = .ok (.if_icmp .gt off, 3)) (ht : (pc : Int) + off = (tgt : Int)) (kt : y < x → GL p l e s m below meth c b D cA st0 cells slots tgt i st dA dB) (kf : ¬ y < x → GL p l e s m below meth c b D cA st0 cells slots (pc + 3) i st dA dB) : GL p l e s m below meth c b D cA st0 cells slots pc i ((0, y) :: (0, x) :: st) dA dB := by
  intro ad bd ha hb ls H locs hl hP hD hA hB hS
  have hq := i_lt hy hx
  by_cases hc : y < x
  · have k := kt hc ad bd ha hb ls H locs hl hP hD hA hB hS
    refine lv_icmp_gt C.1 C.2.1 hd ht (fun z => ?_) (fun z => ?_) <;> first | exact k | exact absurd (hq.mpr hc) z | exact absurd (hq.mpr hc) (Int32.not_lt.mpr z)
  · have k := kf hc ad bd ha hb ls H locs hl hP hD hA hB hS
    refine lv_icmp_gt C.1 C.2.1 hd ht (fun z => ?_) (fun z => ?_) <;> first | exact k | exact absurd (hq.mp z) hc
theorem l_lceq (C : LC p s m meth c b L xs D cA st0) {x off : Int} {tgt : Nat} (hd0 : decode code pc = .ok (.lcmp, 1)) (hd : decode code (pc + 1) = .ok (.ifCond .eq off, 3)) (ht : ((pc + 1 : Nat) : Int) + off = (tgt : Int)) (kt : GL p l e s m below meth c b D cA st0 cells slots tgt i st dA dB) : GL p l e s m below meth c b D cA st0 cells slots pc i ((1, x) :: (1, x) :: st) dA dB := by
  intro ad bd ha hb ls H locs hl hP hD hA hB hS
  refine W.lcmp C.1 C.2.1 hd0 ?_
  have e1 : lg_cmp (Int64.ofInt x) (Int64.ofInt x) = 0 := by unfold lg_cmp; simp
  show W p l e room_1 s m #[Value.ref b] below meth c H locs cells slots (lw_Z below #[Value.ref b] s) (F0 m (pc + 1) ls (.int (lg_cmp (Int64.ofInt x) (Int64.ofInt x)) :: st.map (lcv b (ad 0) (bd 0))))
  rw [e1]
  exact lv_if_eq C.1 C.2.1 hd ht (fun _ => kt ad bd ha hb ls H locs hl hP hD hA hB hS) (fun z => absurd rfl z)
theorem l_iinc (C : LC p s m meth c b L xs D cA st0) (hi : i + 7 ≤ 4000) (hd : decode code pc = .ok (.iinc 3 7, 3)) (k : GL p l e s m below meth c b D cA st0 cells slots (pc + 3) (i + 7) st dA dB) : GL p l e s m below meth c b D cA st0 cells slots pc i st dA dB := by
  intro ad bd ha hb ls H locs hl hP hD hA hB hS
  refine lv_iinc (v := Int32.ofInt ((i + 7 : Nat) : Int)) C.1 C.2.1 hd hl (k := 3) rfl ?_ (by decide) rfl (fun ls' h' => k ad bd ha hb ls' H locs (lv_sub h' [1, 2, 3, 0] rfl) hP hD hA hB hS)
  rw [show ((i + 7 : Nat) : Int) = (i : Int) + 7 by omega, Int32.ofInt_add]
theorem app_at2 {wr wc : va_W} : (List.range' wr.length wc.length).map (fun i => (wr ++ wc)[i]?) = wc.map some := by
  apply List.ext_getElem?
  intro i
  rw [List.getElem?_map, List.getElem?_map]
  by_cases hi : i < wc.length
  · rw [List.getElem?_range' hi, List.getElem?_eq_getElem hi]
    show some ((wr ++ wc)[wr.length + 1 * i]?) = some (some wc[i])
    rw [List.getElem?_append_right (by omega), List.getElem?_eq_getElem (by omega)]
    congr 3
    omega
  · rw [List.getElem?_eq_none (by rw [List.length_range']; omega), List.getElem?_eq_none (by omega)]; rfl
theorem jn2 {A0 : Nat → Prop} {wr wc w1 : va_W} {H H1 : Heap} (hP : va_P D classes (wr ++ wc) H) (hD : va_D A0 (wr ++ wc)) (hk : ∀ q : Nat, q < H.size → ¬ va_A wc H.size q → H1[q]? = H[q]?) (hF : ∀ q, va_A wc H.size q → A0 q) (hP1 : va_P D classes w1 H1) (hD1 : va_D (va_A wc H.size) w1) : va_P D classes (wr ++ w1) H1 ∧ va_D A0 (wr ++ w1) :=
  va_join (wr := wr) (wc := wc) (w1 := w1) hP hD (List.range' wr.length wc.length) (List.range wr.length) app_at2 app_at (by rw [List.range_eq_range']; exact nd_range _ _) (fun i hi h => by
    have h1 := List.mem_range.mp hi
    have h2 := List.mem_range'_1.mp h
    omega) hk hF hP1 hD1
theorem sw_at {u v : va_W} {k : Nat} {q : Nat × va_E} (h : (u ++ v)[k]? = some q) : (v ++ u)[if k < u.length then k + v.length else k - u.length]? = some q := by
  by_cases hk : k < u.length
  · rw [if_pos hk, List.getElem?_append_right (by omega)]
    rw [List.getElem?_append_left hk] at h
    rw [show k + v.length - v.length = k by omega]; exact h
  · rw [if_neg hk]
    rw [List.getElem?_append_right (by omega)] at h
    rw [List.getElem?_append_left (by have := (List.getElem?_eq_some_iff.mp h).1; omega)]; exact h
theorem swap {A0 : Nat → Prop} {u v : va_W} {H : Heap} (hP : va_P D classes (u ++ v) H) (hD : va_D A0 (u ++ v)) : va_P D classes (v ++ u) H ∧ va_D A0 (v ++ u) := by
  refine ⟨fun k q h => hP _ q (sw_at h), fun k j q r h1 h2 e => ?_, fun k q h => hD.2 _ q (sw_at h)⟩
  have h3 := hD.1 _ _ q r (sw_at h1) (sw_at h2) e
  have hk : k < (v ++ u).length := (List.getElem?_eq_some_iff.mp h1).1
  have hj : j < (v ++ u).length := (List.getElem?_eq_some_iff.mp h2).1
  rw [List.length_append] at hk hj
  split at h3 <;> split at h3 <;> omega
theorem jn1 {A0 : Nat → Prop} {wr wc w1 : va_W} {H H1 : Heap} (hP : va_P D classes (wc ++ wr) H) (hD : va_D A0 (wc ++ wr)) (hk : ∀ q : Nat, q < H.size → ¬ va_A wc H.size q → H1[q]? = H[q]?) (hF : ∀ q, va_A wc H.size q → A0 q) (hP1 : va_P D classes w1 H1) (hD1 : va_D (va_A wc H.size) w1) : va_P D classes (w1 ++ wr) H1 ∧ va_D A0 (w1 ++ wr) := by
  have h1 := swap hP hD
  have h2 := jn2 h1.1 h1.2 hk hF hP1 hD1
  exact swap h2.1 h2.2
theorem swapD {A0 : Nat → Prop} {u v : va_W} (hD : va_D A0 (u ++ v)) : va_D A0 (v ++ u) := by
  refine ⟨fun k j q r h1 h2 e => ?_, fun k q h => hD.2 _ q (sw_at h)⟩
  have h3 := hD.1 _ _ q r (sw_at h1) (sw_at h2) e
  have hk : k < (v ++ u).length := (List.getElem?_eq_some_iff.mp h1).1
  have hj : j < (v ++ u).length := (List.getElem?_eq_some_iff.mp h2).1
  rw [List.length_append] at hk hj
  split at h3 <;> split at h3 <;> omega
theorem left_P {u v : va_W} {H : Heap} (hP : va_P D classes (u ++ v) H) : va_P D classes u H := fun k q h => hP k q (by rw [List.getElem?_append_left (List.getElem?_eq_some_iff.mp h).1]; exact h)
theorem right_P {u v : va_W} {H : Heap} (hP : va_P D classes (u ++ v) H) : va_P D classes v H := fun k q h => hP (u.length + k) q (by rw [List.getElem?_append_right (by omega), Nat.add_sub_cancel_left]; exact h)
theorem left_D {A0 : Nat → Prop} {u v : va_W} (hD : va_D A0 (u ++ v)) : va_D A0 u := ⟨fun i j p q h1 h2 e => hD.1 i j p q (by rw [List.getElem?_append_left (List.getElem?_eq_some_iff.mp h1).1]; exact h1) (by rw [List.getElem?_append_left (List.getElem?_eq_some_iff.mp h2).1]; exact h2) e, fun k q h => hD.2 k q (by rw [List.getElem?_append_left (List.getElem?_eq_some_iff.mp h).1]; exact h)⟩
theorem right_D {A0 : Nat → Prop} {u v : va_W} (hD : va_D A0 (u ++ v)) : va_D A0 v := left_D (swapD hD)
theorem fr_L {w : va_W} {H : Heap} {locs : List Loc} (hD : va_D (AL s) w) (hS : va_S (AL s) s.heap H locs) : ∀ q, va_A w H.size q → AL s q := by
  intro q h
  rcases h with ⟨k, en, h⟩ | h
  · exact hD.2 k (q, en) h
  · exact Nat.le_trans hS.1 h
theorem lcv_as {ad : Nat → Nat} {a1 a2 : Nat} : ∀ {As : List AV}, (∀ v ∈ As, v.1 < 2) → As.map (cv ad) = As.map (lcv b a1 a2)
  | [], _ => rfl
  | v :: As, h => by
    rw [List.map_cons, List.map_cons, lcv_as (fun w hw => h w (List.mem_cons_of_mem _ hw))]
    congr 1
    have hv := h v List.mem_cons_self
    obtain ⟨t, x⟩ := v
    match t, hv with
    | 0, _ => rfl
    | 1, _ => rfl
    | t + 2, hv => exact absurd hv (by show ¬ t + 2 < 2; omega)
theorem lcv_cat {a1 a2 : Nat} {st : List AV} (h : (st.map (fun v => if v.1 = 1 then 2 else 1)).sum ≤ 8) : ((st.map (lcv b a1 a2)).map fun v => v.category).sum ≤ 8 := by
  have e1 : (st.map (lcv b a1 a2)).map (fun v => v.category) = st.map (fun v => if v.1 = 1 then 2 else 1) := by
    rw [List.map_map]
    apply List.map_congr_left
    intro v _
    obtain ⟨t, x⟩ := v
    match t with
    | 0 => rfl
    | 1 => rfl
    | 2 => rfl
    | 3 => rfl
    | t + 4 => rfl
  rw [e1]; exact h
theorem l_callA (C : LC p s m meth c b L xs D cA st0) {y : MethodName} {cy : ByteArray} {mL : Nat} {rt : Option FieldType} {rm : Room} {n : Nat} (Wm : MW y cy mL rt n) (As : List AV) {r : Option AV} {d2 : Dt} (hM : MC l y cy mL rt rm 0 ((2, 0) :: As) dA r d2) (hAs : ∀ v ∈ As, v.1 < 2) (hr : ∀ v ∈ r.toList, v.1 < 2) {ix : Nat}
    (hlk : Cond.methodLink R_law ix y ∈ lw_ok) (hin : Cond.instanceMethod y ∈ lw_ok) (hse : Cond.selects R11 y y ∈ lw_ok) (hR : rm.cells = 0 ∧ rm.slots = 0 ∧ rm.frames + 1 ≤ room_1.frames ∧ 8 + (mL + 11) + rm.locals ≤ room_1.locals) (hAn : As.length = n) {st1 : List AV} (hst : st1 = As.reverse ++ (3, 0) :: st) (hw : (st.map (fun v => if v.1 = 1 then 2 else 1)).sum ≤ 8) (hcs : cells + 0 ≤ room_1.cells ∧ slots + 0 ≤ room_1.slots) (hd : decode code pc = .ok (.invokevirtual ix, 3)) (kk : cnr rt r → GL p l e s m below meth c b D cA st0 cells slots (pc + 3) i (r.toList ++ st) d2 dB) : GL p l e s m below meth c b D cA st0 cells slots pc i st1 dA dB := by
  intro ad bd ha hb ls H locs hl hP hD hA hB hS
  subst hst
  obtain ⟨c1, c2, c3, c4, c5, c6, c7, c8, c9, c10, c11, c12, c13⟩ := C
  have hts := c5.at (args := #[Value.ref b])
  have hP : va_P D classes (wld 0 cA ad dA ++ wld 1 cA bd dB) H := hP
  have hD : va_D (AL s) (wld 0 cA ad dA ++ wld 1 cA bd dB) := hD
  have hown : va_D (AL s) (wld 0 cA ad dA) := left_D hD
  have hF := fr_L hown hS
  have hpre : ∀ U : State, U.heap = H → s.WarmedH U.vm → U.heap.size = H.size ∧ WS D cA ad 0 (va_A (wld 0 cA ad dA) H.size) dA U := by
    intro U hU hW
    refine ⟨by rw [hU], ⟨⟨by rw [hU]; exact left_P hP, hown.self, hA⟩, va_K.moved hW.alike c6, c5.warm hW, ?_⟩⟩
    rw [hU]
    refine ⟨fun _ => (((EX0_of c8.1 ha).kept hS.2.1).narrow hF).moved hW, fun h => by cases h⟩
  have hat : (wld 0 cA ad dA)[0]? = some (ad 0, .inr (11, (List.range (nf 11)).map (fv ad 11 0 (dA 0)))) := by
    rw [wld_at (show 0 < nOf 0 dA by exact nA (by decide)), ent_obj cd_A0 (by decide)]
  have hrun := va_runV (p := p) (l := l) (e := e) (R := room_1) (s := s) (m := m) (args := #[Value.ref b]) (below := below) (meth := meth) (c := c) (H := H) (locs := locs) (cells := cells) (slots := slots) (Ts := lw_ok) (C := R11) (b := ad 0) (As := As.map (cv ad)) (rest := st.map (lcv b (ad 0) (bd 0))) (g := F0 m pc ls ((As.reverse ++ (3, 0) :: st).map (lcv b (ad 0) (bd 0)))) (bytes := cy) (maxL := mL) (ret := rt) (n := n) ⟨c1, c2, c3, c4, hts⟩ (hM D cA ad H.size) ⟨callB_of n hts (goodIn_1 Wm.1 rfl) rfl hR.1 hR.2.1 (hts _ Wm.2.1) (hts _ hlk) Wm.2.2 hR.2.2, hts _ hin, hts _ hse⟩ ⟨blind, va_recv c6 (left_P hP) cl11.2.2.2 hat, fun U hU hW => ⟨by rw [List.map_cons]; rfl, hpre U hU hW⟩⟩ rfl (by rw [List.length_map]; exact hAn) hl.1 (by
    show (As.reverse ++ (3, 0) :: st).map (lcv b (ad 0) (bd 0)) = _
    rw [List.map_append, List.map_cons, List.map_reverse, ← lcv_as (ad := ad) hAs]; rfl) (by show 2 * 0 + _ ≤ 8; rw [Nat.mul_zero, Nat.zero_add]; exact lcv_cat hw) hd hcs
  intro T hT X
  obtain ⟨v, st₀, t, T', Lo, h0, X', hL, e1, e2, ⟨hv, hHt, ⟨hz, hk⟩, hcn⟩, hgo⟩ := hrun T hT X
  have hv2 : v = r.map (cv ad) := by cases hv; rfl
  subst hv2
  rw [h0] at hz hk
  obtain ⟨hP2, hD2⟩ := jn1 (wr := wld 1 cA bd dB) hP hD hk hF hHt.1 hHt.2.1
  have hS' : va_S (AL s) s.heap t.heap (locs ++ Lo) := ⟨Nat.le_trans hS.1 hz, fun q h1 h2 => by rw [hk q (Nat.lt_of_lt_of_le h1 hS.1) (fun z => h2 (hF q z))]; exact hS.2.1 q h1 h2, fun q hq => by
      rcases List.mem_append.mp hq with h | h
      · exact hS.2.2 q h
      · exact hF _ (hL q h)⟩
  obtain ⟨t2, a1, b1⟩ := kk hcn ad bd ha hb ls t.heap (locs ++ Lo) hl hP2 hD2 hHt.2.2 hB hS' T' e1 X'
  refine ⟨t2, hgo t2 ?_, b1⟩
  have e3 : (r.map (cv ad)).toList ++ st.map (lcv b (ad 0) (bd 0)) = (r.toList ++ st).map (lcv b (ad 0) (bd 0)) := by
    rw [List.map_append, ← lcv_as (ad := ad) hr]; cases r <;> rfl
  show Steps p.tables e below (T'.setTop { F0 m pc ls ((As.reverse ++ (3, 0) :: st).map (lcv b (ad 0) (bd 0))) with pc := (F0 m pc ls ((As.reverse ++ (3, 0) :: st).map (lcv b (ad 0) (bd 0)))).pc + 3, stack := (r.map (cv ad)).toList ++ st.map (lcv b (ad 0) (bd 0)) }) t2
  rw [e3]
  exact a1
theorem l_callB (C : LC p s m meth c b L xs D cA st0) {y : MethodName} {cy : ByteArray} {mL : Nat} {rt : Option FieldType} {rm : Room} {n : Nat} (Wm : MW y cy mL rt n) (As : List AV) {r : Option AV} {d2 : Dt} (hM : MC l y cy mL rt rm 1 ((2, 0) :: As) dB r d2) (hAs : ∀ v ∈ As, v.1 < 2) (hr : ∀ v ∈ r.toList, v.1 < 2) {ix : Nat}
    (hlk : Cond.methodLink R_law ix y ∈ lw_ok) (hin : Cond.instanceMethod y ∈ lw_ok) (hse : Cond.selects R12 y y ∈ lw_ok) (hR : rm.cells = 0 ∧ rm.slots = 0 ∧ rm.frames + 1 ≤ room_1.frames ∧ 8 + (mL + 11) + rm.locals ≤ room_1.locals) (hAn : As.length = n) {st1 : List AV} (hst : st1 = As.reverse ++ (4, 0) :: st) (hw : (st.map (fun v => if v.1 = 1 then 2 else 1)).sum ≤ 8) (hcs : cells + 0 ≤ room_1.cells ∧ slots + 0 ≤ room_1.slots) (hd : decode code pc = .ok (.invokevirtual ix, 3)) (kk : cnr rt r → GL p l e s m below meth c b D cA st0 cells slots (pc + 3) i (r.toList ++ st) dA d2) : GL p l e s m below meth c b D cA st0 cells slots pc i st1 dA dB := by
  intro ad bd ha hb ls H locs hl hP hD hA hB hS
  subst hst
  obtain ⟨c1, c2, c3, c4, c5, c6, c7, c8, c9, c10, c11, c12, c13⟩ := C
  have hts := c5.at (args := #[Value.ref b])
  have hP : va_P D classes (wld 0 cA ad dA ++ wld 1 cA bd dB) H := hP
  have hD : va_D (AL s) (wld 0 cA ad dA ++ wld 1 cA bd dB) := hD
  have hown : va_D (AL s) (wld 1 cA bd dB) := right_D hD
  have hF := fr_L hown hS
  have hpre : ∀ U : State, U.heap = H → s.WarmedH U.vm → U.heap.size = H.size ∧ WS D cA bd 1 (va_A (wld 1 cA bd dB) H.size) dB U := by
    intro U hU hW
    refine ⟨by rw [hU], ⟨⟨by rw [hU]; exact right_P hP, hown.self, hB⟩, va_K.moved hW.alike c6, c5.warm hW, ?_⟩⟩
    rw [hU]
    refine ⟨fun h => absurd h (by decide), fun _ => (((EX1_of c8.2 hb).kept hS.2.1).narrow hF).moved hW⟩
  have hat : (wld 1 cA bd dB)[0]? = some (bd 0, .inr (12, (List.range (nf 12)).map (fv bd 12 0 (dB 0)))) := by
    rw [wld_at (show 0 < nOf 1 dB by exact nB (by decide)), ent_obj cd_B0 (by decide)]
  have hrun := va_runV (p := p) (l := l) (e := e) (R := room_1) (s := s) (m := m) (args := #[Value.ref b]) (below := below) (meth := meth) (c := c) (H := H) (locs := locs) (cells := cells) (slots := slots) (Ts := lw_ok) (C := R12) (b := bd 0) (As := As.map (cv bd)) (rest := st.map (lcv b (ad 0) (bd 0))) (g := F0 m pc ls ((As.reverse ++ (4, 0) :: st).map (lcv b (ad 0) (bd 0)))) (bytes := cy) (maxL := mL) (ret := rt) (n := n) ⟨c1, c2, c3, c4, hts⟩ (hM D cA bd H.size) ⟨callB_of n hts (goodIn_1 Wm.1 rfl) rfl hR.1 hR.2.1 (hts _ Wm.2.1) (hts _ hlk) Wm.2.2 hR.2.2, hts _ hin, hts _ hse⟩ ⟨blind, va_recv c6 (right_P hP) cl12.2.2.2 hat, fun U hU hW => ⟨by rw [List.map_cons]; rfl, hpre U hU hW⟩⟩ rfl (by rw [List.length_map]; exact hAn) hl.1 (by
    show (As.reverse ++ (4, 0) :: st).map (lcv b (ad 0) (bd 0)) = _
    rw [List.map_append, List.map_cons, List.map_reverse, ← lcv_as (ad := bd) hAs]; rfl) (by show 2 * 0 + _ ≤ 8; rw [Nat.mul_zero, Nat.zero_add]; exact lcv_cat hw) hd hcs
  intro T hT X
  obtain ⟨v, st₀, t, T', Lo, h0, X', hL, e1, e2, ⟨hv, hHt, ⟨hz, hk⟩, hcn⟩, hgo⟩ := hrun T hT X
  have hv2 : v = r.map (cv bd) := by cases hv; rfl
  subst hv2
  rw [h0] at hz hk
  obtain ⟨hP2, hD2⟩ := jn2 (wr := wld 0 cA ad dA) hP hD hk hF hHt.1 hHt.2.1
  have hS' : va_S (AL s) s.heap t.heap (locs ++ Lo) := ⟨Nat.le_trans hS.1 hz, fun q h1 h2 => by rw [hk q (Nat.lt_of_lt_of_le h1 hS.1) (fun z => h2 (hF q z))]; exact hS.2.1 q h1 h2, fun q hq => by
      rcases List.mem_append.mp hq with h | h
      · exact hS.2.2 q h
      · exact hF _ (hL q h)⟩
  obtain ⟨t2, a1, b1⟩ := kk hcn ad bd ha hb ls t.heap (locs ++ Lo) hl hP2 hD2 hA hHt.2.2 hS' T' e1 X'
  refine ⟨t2, hgo t2 ?_, b1⟩
  have e3 : (r.map (cv bd)).toList ++ st.map (lcv b (ad 0) (bd 0)) = (r.toList ++ st).map (lcv b (ad 0) (bd 0)) := by
    rw [List.map_append, ← lcv_as (ad := bd) hr]; cases r <;> rfl
  show Steps p.tables e below (T'.setTop { F0 m pc ls ((As.reverse ++ (4, 0) :: st).map (lcv b (ad 0) (bd 0))) with pc := (F0 m pc ls ((As.reverse ++ (4, 0) :: st).map (lcv b (ad 0) (bd 0)))).pc + 3, stack := (r.map (cv bd)).toList ++ st.map (lcv b (ad 0) (bd 0)) }) t2
  rw [e3]
  exact a1
theorem l_callT (C : LC p s m meth c b L xs D cA st0) {y : MethodName} {cy : ByteArray} {mL : Nat} {rt : Option FieldType} {rm : Room} {n : Nat} (Wm : MW y cy mL rt n) (As : List AV) {r : Option AV} {d2 : Dt} (hM : MA l y cy mL rt rm ((2, 0) :: As) dA r d2) (hAs : ∀ v ∈ As, v.1 < 2) (hr : ∀ v ∈ r.toList, v.1 < 2) {ix : Nat}
    (hlk : Cond.methodLink R_law ix y ∈ lw_ok) (hin : Cond.instanceMethod y ∈ lw_ok) (hse : Cond.selects R11 y y ∈ lw_ok) (hR : rm.cells = 7 ∧ rm.slots = 710 ∧ rm.frames + 1 ≤ room_1.frames ∧ 8 + (mL + 11) + rm.locals ≤ room_1.locals) (hAn : As.length = n) {st1 : List AV} (hst : st1 = As.reverse ++ (3, 0) :: st) (hw : (st.map (fun v => if v.1 = 1 then 2 else 1)).sum ≤ 8) (hcs : cells + 7 ≤ room_1.cells ∧ slots + 710 ≤ room_1.slots) (hd : decode code pc = .ok (.invokevirtual ix, 3)) (kk : cnr rt r → GL p l e s m below meth c b D cA st0 (cells + 7) (slots + 710) (pc + 3) i (r.toList ++ st) d2 dB) : GL p l e s m below meth c b D cA st0 cells slots pc i st1 dA dB := by
  intro ad bd ha hb ls H locs hl hP hD hA hB hS
  subst hst
  obtain ⟨c1, c2, c3, c4, c5, c6, c7, c8, c9, c10, c11, c12, c13⟩ := C
  have hts := c5.at (args := #[Value.ref b])
  have hP : va_P D classes (wld 0 cA ad dA ++ wld 1 cA bd dB) H := hP
  have hD : va_D (AL s) (wld 0 cA ad dA ++ wld 1 cA bd dB) := hD
  have hown : va_D (AL s) (wld 0 cA ad dA) := left_D hD
  have hF := fr_L hown hS
  have hpre : ∀ U : State, U.heap = H → s.WarmedH U.vm → U.heap.size = H.size ∧ WS D cA ad 0 (va_A (wld 0 cA ad dA) H.size) dA U ∧ va_AO "PollBooks$Statute" U := by
    intro U hU hW
    refine ⟨by rw [hU], ⟨⟨by rw [hU]; exact left_P hP, hown.self, hA⟩, va_K.moved hW.alike c6, c5.warm hW, ?_⟩, va_AO.moved hW.alike c7⟩
    rw [hU]
    refine ⟨fun _ => (((EX0_of c8.1 ha).kept hS.2.1).narrow hF).moved hW, fun h => by cases h⟩
  have hat : (wld 0 cA ad dA)[0]? = some (ad 0, .inr (11, (List.range (nf 11)).map (fv ad 11 0 (dA 0)))) := by
    rw [wld_at (show 0 < nOf 0 dA by exact nA (by decide)), ent_obj cd_A0 (by decide)]
  have hrun := va_runV (p := p) (l := l) (e := e) (R := room_1) (s := s) (m := m) (args := #[Value.ref b]) (below := below) (meth := meth) (c := c) (H := H) (locs := locs) (cells := cells) (slots := slots) (Ts := lw_ok) (C := R11) (b := ad 0) (As := As.map (cv ad)) (rest := st.map (lcv b (ad 0) (bd 0))) (g := F0 m pc ls ((As.reverse ++ (3, 0) :: st).map (lcv b (ad 0) (bd 0)))) (bytes := cy) (maxL := mL) (ret := rt) (n := n) ⟨c1, c2, c3, c4, hts⟩ (hM D cA ad H.size) ⟨callB_of n hts (goodIn_1 Wm.1 rfl) rfl hR.1 hR.2.1 (hts _ Wm.2.1) (hts _ hlk) Wm.2.2 hR.2.2, hts _ hin, hts _ hse⟩ ⟨blindA, va_recv c6 (left_P hP) cl11.2.2.2 hat, fun U hU hW => ⟨by rw [List.map_cons]; rfl, hpre U hU hW⟩⟩ rfl (by rw [List.length_map]; exact hAn) hl.1 (by
    show (As.reverse ++ (3, 0) :: st).map (lcv b (ad 0) (bd 0)) = _
    rw [List.map_append, List.map_cons, List.map_reverse, ← lcv_as (ad := ad) hAs]; rfl) (by show 2 * 0 + _ ≤ 8; rw [Nat.mul_zero, Nat.zero_add]; exact lcv_cat hw) hd hcs
  intro T hT X
  obtain ⟨v, st₀, t, T', Lo, h0, X', hL, e1, e2, ⟨ad1, hag, hv, hHt, ⟨hz, hk⟩, hcn⟩, hgo⟩ := hrun T hT X
  have h00 : ad1 0 = ad 0 := hag 0 (Or.inl (nA (by decide)))
  have hv2 : v = r.map (cv ad1) := by cases hv; rfl
  subst hv2
  rw [h0] at hz hk
  obtain ⟨hP2, hD2⟩ := jn1 (wr := wld 1 cA bd dB) hP hD hk hF hHt.1 hHt.2.1
  have hS' : va_S (AL s) s.heap t.heap (locs ++ Lo) := ⟨Nat.le_trans hS.1 hz, fun q h1 h2 => by rw [hk q (Nat.lt_of_lt_of_le h1 hS.1) (fun z => h2 (hF q z))]; exact hS.2.1 q h1 h2, fun q hq => by
      rcases List.mem_append.mp hq with h | h
      · exact hS.2.2 q h
      · exact hF _ (hL q h)⟩
  obtain ⟨t2, a1, b1⟩ := kk hcn ad1 bd (fun k hk => by rw [hag k (Or.inr hk)]; exact ha k hk) hb ls t.heap (locs ++ Lo) (by rw [h00]; exact hl) hP2 hD2 hHt.2.2 hB hS' T' e1 X'
  rw [h00] at a1
  refine ⟨t2, hgo t2 ?_, b1⟩
  have e3 : (r.map (cv ad1)).toList ++ st.map (lcv b (ad 0) (bd 0)) = (r.toList ++ st).map (lcv b (ad 0) (bd 0)) := by
    rw [List.map_append, ← lcv_as (ad := ad1) hr]; cases r <;> rfl
  show Steps p.tables e below (T'.setTop { F0 m pc ls ((As.reverse ++ (3, 0) :: st).map (lcv b (ad 0) (bd 0))) with pc := (F0 m pc ls ((As.reverse ++ (3, 0) :: st).map (lcv b (ad 0) (bd 0)))).pc + 3, stack := (r.map (cv ad1)).toList ++ st.map (lcv b (ad 0) (bd 0)) }) t2
  rw [e3]
  exact a1
theorem l_widen {k n : Nat} (h1 : cells ≤ k) (h2 : slots ≤ n) (kk : GL p l e s m below meth c b D cA st0 k n pc i st dA dB) : GL p l e s m below meth c b D cA st0 cells slots pc i st dA dB :=
  fun ad bd ha hb ls H locs hl hP hD hA hB hS => W.widen h1 h2 (kk ad bd ha hb ls H locs hl hP hD hA hB hS)
theorem l_end (C : LC p s m meth c b L xs D cA st0) (h1 : cells ≤ 600000) (h2 : slots ≤ 7302250) (hd : decode code pc = .ok (.ireturn, 1)) : GL p l e s m below meth c b D cA st0 cells slots pc i [(0, 1)] dA dB := by
  intro ad bd ha hb ls H locs hl hP hD hA hB hS
  obtain ⟨c1, c2, c3, c4, c5, c6, c7, c8, c9, c10, c11, c12, c13⟩ := C
  refine W.widen h1 h2 ?_
  refine va_forget (fun q hq => hS.2.2 q hq) ?_
  exact lw_ret c1 c2 c12 c13 hd
end LAW
