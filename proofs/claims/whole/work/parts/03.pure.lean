/-! PURE MACHINE: values, heap, ranges -/
abbrev PV : Type := Int ⊕ Int ⊕ Nat ⊕ UInt32 ⊕ UInt64
abbrev vI (x : Int) : PV := Sum.inl x
abbrev vJ (x : Int) : PV := Sum.inr (Sum.inl x)
abbrev vR (a : Nat) : PV := Sum.inr (Sum.inr (Sum.inl a))
abbrev vF (x : UInt32) : PV := Sum.inr (Sum.inr (Sum.inr (Sum.inl x)))
abbrev vD (x : UInt64) : PV := Sum.inr (Sum.inr (Sum.inr (Sum.inr x)))
abbrev PH : Type := Nat × (Nat → Nat) × (Nat → Nat) × (Nat → Nat → Int) × (Nat → Nat → Int) × (Nat → Nat → Nat)
def nx (h : PH) : Nat := h.1
def cl (h : PH) (q : Nat) : Nat := h.2.1 q
def ln (h : PH) (q : Nat) : Nat := h.2.2.1 q
def gi (h : PH) (q k : Nat) : Int := h.2.2.2.1 q k
def gj (h : PH) (q k : Nat) : Int := h.2.2.2.2.1 q k
def gr (h : PH) (q k : Nat) : Nat := h.2.2.2.2.2 q k
def up2 {α : Type} (f : Nat → Nat → α) (q k : Nat) (v : α) : Nat → Nat → α := fun q' k' => if q' = q ∧ k' = k then v else f q' k'
def up1 {α : Type} (f : Nat → α) (q : Nat) (v : α) : Nat → α := fun q' => if q' = q then v else f q'
def si (h : PH) (q k : Nat) (v : Int) : PH := (h.1, h.2.1, h.2.2.1, up2 h.2.2.2.1 q k v, h.2.2.2.2.1, h.2.2.2.2.2)
def sj (h : PH) (q k : Nat) (v : Int) : PH := (h.1, h.2.1, h.2.2.1, h.2.2.2.1, up2 h.2.2.2.2.1 q k v, h.2.2.2.2.2)
def sr (h : PH) (q k : Nat) (v : Nat) : PH := (h.1, h.2.1, h.2.2.1, h.2.2.2.1, h.2.2.2.2.1, up2 h.2.2.2.2.2 q k v)
/-- a new cell of class code c and length n: all its places 0 -/
def nw (h : PH) (c n : Nat) : PH := (h.1 + 1, up1 h.2.1 h.1 c, up1 h.2.2.1 h.1 n, up1 h.2.2.2.1 h.1 (fun _ => 0), up1 h.2.2.2.2.1 h.1 (fun _ => 0), up1 h.2.2.2.2.2 h.1 (fun _ => 0))
def R32 (x : Int) : Prop := -2147483648 ≤ x ∧ x < 2147483648
def R64 (x : Int) : Prop := -9223372036854775808 ≤ x ∧ x < 9223372036854775808
def w32 (x : Int) : Int := (x + 2147483648) % 4294967296 - 2147483648
def w64 (x : Int) : Int := (x + 9223372036854775808) % 18446744073709551616 - 9223372036854775808
theorem w32_id {x : Int} (h : R32 x) : w32 x = x := by unfold w32 R32 at *; omega
theorem w64_id {x : Int} (h : R64 x) : w64 x = x := by unfold w64 R64 at *; omega
theorem R32_w (x : Int) : R32 (w32 x) := by unfold w32 R32; omega
theorem R64_w (x : Int) : R64 (w64 x) := by unfold w64 R64; omega
theorem bm32 (x : Int) : x.bmod 4294967296 = w32 x := by
  unfold w32 Int.bmod
  show (if x % 4294967296 < (4294967296 + 1) / 2 then x % 4294967296 else x % 4294967296 - 4294967296) = _
  split <;> omega
theorem bm64 (x : Int) : x.bmod 18446744073709551616 = w64 x := by
  unfold w64 Int.bmod
  show (if x % 18446744073709551616 < (18446744073709551616 + 1) / 2 then x % 18446744073709551616 else x % 18446744073709551616 - 18446744073709551616) = _
  split <;> omega
theorem ti32 (x : Int) : (Int32.ofInt x).toInt = w32 x := by rw [Int32.toInt_ofInt]; exact bm32 x
theorem ti64 (x : Int) : (Int64.ofInt x).toInt = w64 x := by rw [Int64.toInt_ofInt]; exact bm64 x
theorem ow32 (x : Int) : Int32.ofInt (w32 x) = Int32.ofInt x := by rw [← ti32, Int32.ofInt_toInt]
theorem ow64 (x : Int) : Int64.ofInt (w64 x) = Int64.ofInt x := by rw [← ti64, Int64.ofInt_toInt]
theorem tr32 {x : Int} (h : R32 x) : (Int32.ofInt x).toInt = x := by rw [ti32, w32_id h]
theorem tr64 {x : Int} (h : R64 x) : (Int64.ofInt x).toInt = x := by rw [ti64, w64_id h]
theorem R32_i (x : Int32) : R32 x.toInt := ⟨by have := x.le_toInt; omega, by have := x.toInt_lt; omega⟩
theorem R64_i (x : Int64) : R64 x.toInt := ⟨by have := x.le_toInt; omega, by have := x.toInt_lt; omega⟩
theorem oi32 (x : Int32) : Int32.ofInt x.toInt = x := Int32.ofInt_toInt x
theorem oi64 (x : Int64) : Int64.ofInt x.toInt = x := Int64.ofInt_toInt x
theorem lt32 {a b : Int} (ha : R32 a) (hb : R32 b) : Int32.ofInt a < Int32.ofInt b ↔ a < b := by rw [Int32.lt_iff_toInt_lt, tr32 ha, tr32 hb]
theorem le32 {a b : Int} (ha : R32 a) (hb : R32 b) : Int32.ofInt a ≤ Int32.ofInt b ↔ a ≤ b := by rw [Int32.le_iff_toInt_le, tr32 ha, tr32 hb]
theorem eq32 {a b : Int} (ha : R32 a) (hb : R32 b) : Int32.ofInt a = Int32.ofInt b ↔ a = b := by rw [← Int32.toInt_inj, tr32 ha, tr32 hb]
theorem lt64 {a b : Int} (ha : R64 a) (hb : R64 b) : Int64.ofInt a < Int64.ofInt b ↔ a < b := by rw [Int64.lt_iff_toInt_lt, tr64 ha, tr64 hb]
theorem eq64 {a b : Int} (ha : R64 a) (hb : R64 b) : Int64.ofInt a = Int64.ofInt b ↔ a = b := by rw [← Int64.toInt_inj, tr64 ha, tr64 hb]
theorem R32_0 : R32 0 := by unfold R32; omega
theorem R64_0 : R64 0 := by unfold R64; omega
def iand (a b : Int) : Int := (Int32.ofInt a &&& Int32.ofInt b).toInt
def ior (a b : Int) : Int := (Int32.ofInt a ||| Int32.ofInt b).toInt
def ixor (a b : Int) : Int := (Int32.ofInt a ^^^ Int32.ofInt b).toInt
def ishl (a b : Int) : Int := (Int32.ofInt a <<< (Int32.ofInt b &&& 31)).toInt
def ishr (a b : Int) : Int := (Int32.ofInt a >>> (Int32.ofInt b &&& 31)).toInt
def iushr (a b : Int) : Int := ((Int32.ofInt a).toUInt32 >>> ((Int32.ofInt b).toUInt32 &&& Int32.toUInt32 31)).toInt32.toInt
def i2b (a : Int) : Int := (Int32.ofInt a).toInt8.toInt32.toInt
def i2s (a : Int) : Int := (Int32.ofInt a).toInt16.toInt32.toInt
def i2c (a : Int) : Int := ((Int32.ofInt a).toUInt32 % 65536).toInt32.toInt
def land (a b : Int) : Int := (Int64.ofInt a &&& Int64.ofInt b).toInt
def lor (a b : Int) : Int := (Int64.ofInt a ||| Int64.ofInt b).toInt
def lshl (a b : Int) : Int := (Int64.ofInt a <<< ((Int32.ofInt b).toInt64 &&& 63)).toInt
def lshr (a b : Int) : Int := (Int64.ofInt a >>> ((Int32.ofInt b).toInt64 &&& 63)).toInt
def lcmpv (a b : Int) : Int := if a < b then -1 else if a = b then 0 else 1
theorem R32_lcmp (a b : Int) : R32 (lcmpv a b) := by unfold lcmpv R32; split; omega; split <;> omega
theorem dv32 {a b : Int} (ha : R32 a) (hb : R32 b) : Int32.ofInt a / Int32.ofInt b = Int32.ofInt (w32 (a.tdiv b)) := by
  rw [← Int32.toInt_inj, ow32, ti32, Int32.toInt_div, tr32 ha, tr32 hb]; exact bm32 _
theorem dv64 {a b : Int} (ha : R64 a) (hb : R64 b) : Int64.ofInt a / Int64.ofInt b = Int64.ofInt (w64 (a.tdiv b)) := by
  rw [← Int64.toInt_inj, ow64, ti64, Int64.toInt_div, tr64 ha, tr64 hb]; exact bm64 _
theorem tm_ab {a b : Int} (h0 : b ≠ 0) : (a.tmod b).natAbs < b.natAbs := by
  rw [Int.natAbs_tmod]; exact Nat.mod_lt _ (by omega)
theorem tm32 {a b : Int} (hb : R32 b) (h0 : b ≠ 0) : R32 (a.tmod b) := by
  unfold R32 at *
  have h1 := tm_ab (a := a) h0
  omega
theorem tm64 {a b : Int} (hb : R64 b) (h0 : b ≠ 0) : R64 (a.tmod b) := by
  unfold R64 at *
  have h1 := tm_ab (a := a) h0
  omega
theorem rm32 {a b : Int} (ha : R32 a) (hb : R32 b) : Int32.ofInt a - Int32.ofInt a / Int32.ofInt b * Int32.ofInt b = Int32.ofInt (a.tmod b) := by
  rw [dv32 ha hb, ow32, ← Int32.ofInt_mul, ← Int32.ofInt_sub, Int.tmod_def, Int.mul_comm b]
theorem rm64 {a b : Int} (ha : R64 a) (hb : R64 b) : Int64.ofInt a - Int64.ofInt a / Int64.ofInt b * Int64.ofInt b = Int64.ofInt (a.tmod b) := by
  rw [dv64 ha hb, ow64, ← Int64.ofInt_mul, ← Int64.ofInt_sub, Int.tmod_def, Int.mul_comm b]
theorem il64 {a : Int} (ha : R32 a) : (Int32.ofInt a).toInt64 = Int64.ofInt a := by
  rw [← Int64.toInt_inj, Int32.toInt_toInt64, tr32 ha, tr64 (by unfold R32 R64 at *; omega)]
theorem li32 {a : Int} (ha : R64 a) : (Int64.ofInt a).toInt32 = Int32.ofInt a := by
  rw [← Int32.toInt_inj, Int64.toInt_toInt32, tr64 ha, ti32]; exact bm32 _
theorem ne32 {b : Int} (hb : R32 b) (h : b ≠ 0) : ¬ Int32.ofInt b = 0 := fun e => h (by
  have := congrArg Int32.toInt e
  rw [tr32 hb] at this
  simpa using this)
theorem ne64 {b : Int} (hb : R64 b) (h : b ≠ 0) : ¬ Int64.ofInt b = 0 := fun e => h (by
  have := congrArg Int64.toInt e
  rw [tr64 hb] at this
  simpa using this)
