/-! numbers as integers: an int is an Int within 32 bits, a long within 64 -/
abbrev Dt : Type := Nat → Nat → Int
abbrev AV : Type := Nat × Int
def w32 (x : Int) : Int := x.bmod 4294967296
def w64 (x : Int) : Int := x.bmod 18446744073709551616
def w16 (x : Int) : Int := x.bmod 65536
def w8 (x : Int) : Int := x.bmod 256
def c32 (x : Int) : Prop := -2147483648 ≤ x ∧ x < 2147483648
def c64 (x : Int) : Prop := -9223372036854775808 ≤ x ∧ x < 9223372036854775808
def cb (x : Int) : Prop := x = 0 ∨ x = 1
theorem w32_c (x : Int) : c32 (w32 x) := by
  have h1 := Int.le_bmod (x := x) (m := 4294967296) (by decide)
  have h2 := Int.bmod_lt (x := x) (m := 4294967296) (by decide)
  unfold c32 w32; omega
theorem w64_c (x : Int) : c64 (w64 x) := by
  have h1 := Int.le_bmod (x := x) (m := 18446744073709551616) (by decide)
  have h2 := Int.bmod_lt (x := x) (m := 18446744073709551616) (by decide)
  unfold c64 w64; omega
theorem w16_c (x : Int) : -32768 ≤ w16 x ∧ w16 x < 32768 := by
  have h1 := Int.le_bmod (x := x) (m := 65536) (by decide)
  have h2 := Int.bmod_lt (x := x) (m := 65536) (by decide)
  unfold w16; omega
theorem w8_c (x : Int) : -128 ≤ w8 x ∧ w8 x < 128 := by
  have h1 := Int.le_bmod (x := x) (m := 256) (by decide)
  have h2 := Int.bmod_lt (x := x) (m := 256) (by decide)
  unfold w8; omega
theorem w32_id {x : Int} (h : c32 x) : w32 x = x := by
  unfold c32 at h; unfold w32; apply Int.bmod_eq_of_le <;> omega
theorem w64_id {x : Int} (h : c64 x) : w64 x = x := by
  unfold c64 at h; unfold w64; apply Int.bmod_eq_of_le <;> omega
theorem c32_cb {x : Int} (h : cb x) : c32 x := by unfold c32; rcases h with rfl | rfl <;> omega
theorem c64_32 {x : Int} (h : c32 x) : c64 x := by unfold c32 at h; unfold c64; omega
theorem c32_16 (x : Int) : c32 (w16 x) := by have := w16_c x; unfold c32; omega
theorem c32_8 (x : Int) : c32 (w8 x) := by have := w8_c x; unfold c32; omega
theorem i_t {x : Int} (h : c32 x) : (Int32.ofInt x).toInt = x := by
  unfold c32 at h
  exact Int32.toInt_ofInt_of_le (by omega) (by omega)
theorem l_t {x : Int} (h : c64 x) : (Int64.ofInt x).toInt = x := by
  unfold c64 at h
  exact Int64.toInt_ofInt_of_le (by omega) (by omega)
theorem i_w (x : Int) : Int32.ofInt (w32 x) = Int32.ofInt x := by
  apply Int32.toInt_inj.mp
  rw [i_t (w32_c x), Int32.toInt_ofInt]; rfl
theorem l_w (x : Int) : Int64.ofInt (w64 x) = Int64.ofInt x := by
  apply Int64.toInt_inj.mp
  rw [l_t (w64_c x), Int64.toInt_ofInt]; rfl
theorem i_c (z : Int32) : c32 z.toInt := by
  have h1 := Int32.toInt_lt z
  have h2 := Int32.le_toInt z
  unfold c32; omega
theorem l_c (z : Int64) : c64 z.toInt := by
  have h1 := Int64.toInt_lt z
  have h2 := Int64.le_toInt z
  unfold c64; omega
theorem i_inj {x y : Int} (hx : c32 x) (hy : c32 y) : Int32.ofInt x = Int32.ofInt y ↔ x = y := by
  constructor
  · intro h
    have := congrArg Int32.toInt h
    rwa [i_t hx, i_t hy] at this
  · intro h; rw [h]
theorem l_inj {x y : Int} (hx : c64 x) (hy : c64 y) : Int64.ofInt x = Int64.ofInt y ↔ x = y := by
  constructor
  · intro h
    have := congrArg Int64.toInt h
    rwa [l_t hx, l_t hy] at this
  · intro h; rw [h]
theorem i_lt {x y : Int} (hx : c32 x) (hy : c32 y) : Int32.ofInt x < Int32.ofInt y ↔ x < y := by
  rw [Int32.lt_iff_toInt_lt, i_t hx, i_t hy]
theorem i_le {x y : Int} (hx : c32 x) (hy : c32 y) : Int32.ofInt x ≤ Int32.ofInt y ↔ x ≤ y := by
  rw [Int32.le_iff_toInt_le, i_t hx, i_t hy]
theorem l_lt {x y : Int} (hx : c64 x) (hy : c64 y) : Int64.ofInt x < Int64.ofInt y ↔ x < y := by
  rw [Int64.lt_iff_toInt_lt, l_t hx, l_t hy]
/-! operations whose meaning is told by the machine's own words -/
def iand (a b : Int) : Int := (Int32.ofInt a &&& Int32.ofInt b).toInt
def ior (a b : Int) : Int := (Int32.ofInt a ||| Int32.ofInt b).toInt
def ixor (a b : Int) : Int := (Int32.ofInt a ^^^ Int32.ofInt b).toInt
def ishl (a b : Int) : Int := (Int32.ofInt a <<< (Int32.ofInt b &&& 31)).toInt
def ishr (a b : Int) : Int := (Int32.ofInt a >>> (Int32.ofInt b &&& 31)).toInt
def iushr (a b : Int) : Int := ((Int32.ofInt a).toUInt32 >>> ((Int32.ofInt b).toUInt32 &&& Int32.toUInt32 31)).toInt32.toInt
def idiv (a b : Int) : Int := (Int32.ofInt a / Int32.ofInt b).toInt
def irem (a b : Int) : Int := (Int32.ofInt a - Int32.ofInt a / Int32.ofInt b * Int32.ofInt b).toInt
def land (a b : Int) : Int := (Int64.ofInt a &&& Int64.ofInt b).toInt
def lor (a b : Int) : Int := (Int64.ofInt a ||| Int64.ofInt b).toInt
def lxor (a b : Int) : Int := (Int64.ofInt a ^^^ Int64.ofInt b).toInt
def lshl (a b : Int) : Int := (Int64.ofInt a <<< ((Int32.ofInt b).toInt64 &&& 63)).toInt
def lshr (a b : Int) : Int := (Int64.ofInt a >>> ((Int32.ofInt b).toInt64 &&& 63)).toInt
def lushr (a b : Int) : Int := ((Int64.ofInt a).toUInt64 >>> ((Int32.ofInt b).toInt64.toUInt64 &&& Int64.toUInt64 63)).toInt64.toInt
def ldiv (a b : Int) : Int := (Int64.ofInt a / Int64.ofInt b).toInt
def lrem (a b : Int) : Int := (Int64.ofInt a - Int64.ofInt a / Int64.ofInt b * Int64.ofInt b).toInt
def lcmp (a b : Int) : Int := if b < a then 1 else if a = b then 0 else -1
def i2c (a : Int) : Int := a % 65536
/-! data: a cell and a place; the update of one place -/
def up2 (d : Dt) (k j : Nat) (v : Int) : Dt := fun k' => if k' = k then (fun j' => if j' = j then v else d k j') else d k'
theorem up2_s (d : Dt) (k j : Nat) (v : Int) : up2 d k j v k j = v := by simp [up2]
theorem up2_k (d : Dt) {k k' : Nat} (j j' : Nat) (v : Int) (h : k' ≠ k) : up2 d k j v k' j' = d k' j' := by simp [up2, h]
theorem up2_K (d : Dt) {k k' : Nat} (j : Nat) (v : Int) (h : k' ≠ k) : up2 d k j v k' = d k' := by funext j'; simp [up2, h]
theorem up2_j (d : Dt) (k : Nat) {j j' : Nat} (v : Int) (h : j' ≠ j) : up2 d k j v k j' = d k j' := by simp [up2, h]
/-- a stretch of one cell copied to another place -/
def cp2 (d : Dt) (k sp k2 dp n : Nat) : Dt := fun k' => if k' = k2 then (fun j' => if dp ≤ j' ∧ j' < dp + n then d k (sp + (j' - dp)) else d k2 j') else d k'
/-! the code of the lifted functions -/
def ck {α : Type} (c : Prop) [Decidable c] (k : Option α) : Option α := if c then k else none
def bd {β : Type} (o : Option (Int × Dt)) (f : Int → Dt → Option β) : Option β := match o with
  | some (r, d) => f r d
  | none => none
theorem ck_some {α : Type} {c : Prop} [Decidable c] {k : Option α} {o : α} (h : ck c k = some o) : c ∧ k = some o := by
  unfold ck at h
  by_cases hc : c
  · rw [if_pos hc] at h; exact ⟨hc, h⟩
  · rw [if_neg hc] at h; cases h
theorem ck_pos {α : Type} {c : Prop} [Decidable c] {k : Option α} (h : c) : ck c k = k := if_pos h
theorem bd_some {β : Type} {o : Option (Int × Dt)} {f : Int → Dt → Option β} {r : β} (h : bd o f = some r) : ∃ a d, o = some (a, d) ∧ f a d = some r := by
  match o, h with
  | some (a, d), h => exact ⟨a, d, rfl, h⟩
theorem bd_of {β : Type} {o : Option (Int × Dt)} {f : Int → Dt → Option β} {a : Int} {d : Dt} (h : o = some (a, d)) : bd o f = f a d := by rw [h]; rfl
theorem ite_some {α : Type} {c : Prop} [Decidable c] {x y : Option α} {o : α} (h : (if c then x else y) = some o) : (c ∧ x = some o) ∨ (¬ c ∧ y = some o) := by
  by_cases hc : c
  · rw [if_pos hc] at h; exact Or.inl ⟨hc, h⟩
  · rw [if_neg hc] at h; exact Or.inr ⟨hc, h⟩
/-- a loop with fuel -/
def lpF {σ ρ : Type} (f : σ → Option (σ ⊕ ρ)) : Nat → σ → Option ρ
  | 0, _ => none
  | n + 1, s => match f s with
    | none => none
    | some (.inr r) => some r
    | some (.inl s') => lpF f n s'
def FU : Nat := 1000000
theorem lpF_some {σ ρ : Type} {f : σ → Option (σ ⊕ ρ)} {n : Nat} {s : σ} {r : ρ} (h : lpF f (n + 1) s = some r) : f s = some (.inr r) ∨ ∃ s', f s = some (.inl s') ∧ lpF f n s' = some r := by
  unfold lpF at h
  cases hf : f s with
  | none => rw [hf] at h; cases h
  | some x =>
    cases x with
    | inr r' => rw [hf] at h; cases h; exact Or.inl rfl
    | inl s' => rw [hf] at h; exact Or.inr ⟨s', rfl, h⟩
theorem lpF_rule {σ ρ : Type} {f : σ → Option (σ ⊕ ρ)} (I : σ → Prop) (μ : σ → Nat) (P : ρ → Prop)
    (step : ∀ s, I s → (∃ s', f s = some (.inl s') ∧ I s' ∧ μ s' < μ s) ∨ ∃ r, f s = some (.inr r) ∧ P r) : ∀ (n : Nat) (s : σ), I s → μ s < n → ∃ r, lpF f n s = some r ∧ P r := by
  intro n
  induction n with
  | zero => intro s _ h; omega
  | succ n ih =>
    intro s hI hm
    rcases step s hI with ⟨s', h1, h2, h3⟩ | ⟨r, h1, h2⟩
    · obtain ⟨r, h4, h5⟩ := ih s' h2 (by omega)
      refine ⟨r, ?_, h5⟩
      unfold lpF; rw [h1]; exact h4
    · refine ⟨r, ?_, h2⟩
      unfold lpF; rw [h1]
