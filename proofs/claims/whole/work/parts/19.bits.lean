/-! ===== Int32 by its bits: bt x i ===== -/
def bt (x : Int32) (i : Nat) : Bool := x.toBitVec.getLsbD i
theorem b_ext {x y : Int32} (h : ∀ i, i < 32 → bt x i = bt y i) : x = y := Int32.toBitVec_inj.mp (BitVec.eq_of_getLsbD_eq (fun i hi => h i hi))
theorem b_or (x y : Int32) (i : Nat) : bt (x ||| y) i = (bt x i || bt y i) := by unfold bt; rw [Int32.toBitVec_or, BitVec.getLsbD_or]
theorem b_and (x y : Int32) (i : Nat) : bt (x &&& y) i = (bt x i && bt y i) := by unfold bt; rw [Int32.toBitVec_and, BitVec.getLsbD_and]
theorem b_xor (x y : Int32) (i : Nat) : bt (x ^^^ y) i = (bt x i ^^ bt y i) := by unfold bt; rw [Int32.toBitVec_xor, BitVec.getLsbD_xor]
theorem b_big {x : Int32} {i : Nat} (h : 32 ≤ i) : bt x i = false := BitVec.getLsbD_of_ge _ _ h
theorem b_255 (i : Nat) : bt 255 i = decide (i < 8) := by
  rcases Nat.lt_or_ge i 32 with h | h
  · exact (by decide +kernel : ∀ i, i < 32 → bt 255 i = decide (i < 8)) i h
  · rw [b_big h, decide_eq_false (by omega)]
theorem b_65535 (i : Nat) : bt 65535 i = decide (i < 16) := by
  rcases Nat.lt_or_ge i 32 with h | h
  · exact (by decide +kernel : ∀ i, i < 32 → bt 65535 i = decide (i < 16)) i h
  · rw [b_big h, decide_eq_false (by omega)]
theorem b_m1 : ∀ i, i < 32 → bt (-1) i = true := by decide +kernel
theorem b_0 (i : Nat) : bt 0 i = false := BitVec.getLsbD_zero
theorem s_l : ∀ n, n < 32 → ((nI n &&& 31).toBitVec.smod 32).toNat = n := by decide +kernel
theorem s_u : ∀ n, n < 32 → (((nI n).toUInt32 &&& Int32.toUInt32 31).toBitVec % 32).toNat = n := by decide +kernel
theorem b_shl (n : Nat) (hn : n < 32) (x : Int32) {i : Nat} (hi : i < 32) : bt (x <<< (nI n &&& 31)) i = (decide (n ≤ i) && bt x (i - n)) := by
  unfold bt
  rw [Int32.toBitVec_shiftLeft]
  show (x.toBitVec <<< ((nI n &&& 31).toBitVec.smod 32).toNat).getLsbD i = _
  rw [s_l n hn, BitVec.getLsbD_shiftLeft]
  rcases Nat.lt_or_ge i n with h | h
  · simp [h, Nat.not_le.mpr h]
  · simp [hi, h, Nat.not_lt.mpr h]
theorem b_ushr (n : Nat) (hn : n < 32) (x : Int32) (i : Nat) : bt ((x.toUInt32 >>> ((nI n).toUInt32 &&& Int32.toUInt32 31)).toInt32) i = bt x (n + i) := by
  show (x.toUInt32 >>> ((nI n).toUInt32 &&& Int32.toUInt32 31)).toBitVec.getLsbD i = x.toUInt32.toBitVec.getLsbD (n + i)
  rw [UInt32.toBitVec_shiftRight]
  show (x.toUInt32.toBitVec >>> (((nI n).toUInt32 &&& Int32.toUInt32 31).toBitVec % 32).toNat).getLsbD i = _
  rw [s_u n hn, BitVec.getLsbD_ushiftRight]
theorem b_sshr (n : Nat) (hn : n < 32) (x : Int32) {i : Nat} (hi : i < 32) : bt (x >>> (nI n &&& 31)) i = if n + i < 32 then bt x (n + i) else bt x 31 := by
  unfold bt
  rw [Int32.toBitVec_shiftRight]
  show (x.toBitVec.sshiftRight ((nI n &&& 31).toBitVec.smod 32).toNat).getLsbD i = _
  rw [s_l n hn, BitVec.getLsbD_sshiftRight, BitVec.msb_eq_getLsbD_last]
  simp [hi]
theorem b_shl8 (x : Int32) {i : Nat} (hi : i < 32) : bt (x <<< ((8 : Int32) &&& 31)) i = (decide (8 ≤ i) && bt x (i - 8)) := b_shl 8 (by omega) x hi
theorem b_shl16 (x : Int32) {i : Nat} (hi : i < 32) : bt (x <<< ((16 : Int32) &&& 31)) i = (decide (16 ≤ i) && bt x (i - 16)) := b_shl 16 (by omega) x hi
theorem b_shl24 (x : Int32) {i : Nat} (hi : i < 32) : bt (x <<< ((24 : Int32) &&& 31)) i = (decide (24 ≤ i) && bt x (i - 24)) := b_shl 24 (by omega) x hi
theorem b_sshr8 (x : Int32) {i : Nat} (hi : i < 32) : bt (x >>> ((8 : Int32) &&& 31)) i = if 8 + i < 32 then bt x (8 + i) else bt x 31 := b_sshr 8 (by omega) x hi
/-! bits of Ints -/
def bit (m : Int) (w : Nat) : Bool := bt (Int32.ofInt m) w
theorem ofInt_nI (n : Nat) : Int32.ofInt (n : Int) = nI n := rfl
theorem bit_ior (a b : Int) (w : Nat) : bit (ior a b) w = (bit a w || bit b w) := by unfold bit ior; rw [oi32, b_or]
theorem bit_iand (a b : Int) (w : Nat) : bit (iand a b) w = (bit a w && bit b w) := by unfold bit iand; rw [oi32, b_and]
theorem bit_ixor (a b : Int) (w : Nat) : bit (ixor a b) w = (bit a w ^^ bit b w) := by unfold bit ixor; rw [oi32, b_xor]
theorem bit_1 : ∀ i, i < 32 → bit 1 i = decide (i = 0) := by decide +kernel
theorem bit_0 (i : Nat) : bit 0 i = false := b_0 i
theorem bit_big {a : Int} {i : Nat} (h : 32 ≤ i) : bit a i = false := b_big h
theorem bit_shl {a : Int} {n i : Nat} (hn : n < 32) (hi : i < 32) : bit (ishl a (n : Int)) i = (decide (n ≤ i) && bit a (i - n)) := by
  unfold bit ishl; rw [oi32, ofInt_nI, b_shl n hn _ hi]
theorem bit_ushr {a : Int} {n i : Nat} (hn : n < 32) : bit (iushr a (n : Int)) i = bit a (n + i) := by
  unfold bit iushr; rw [oi32, ofInt_nI, b_ushr n hn]
theorem bit_shl1 {n i : Nat} (hn : n < 32) (hi : i < 32) : bit (ishl 1 (n : Int)) i = decide (i = n) := by
  rw [bit_shl hn hi]
  by_cases h : n ≤ i
  · rw [bit_1 _ (by omega)]
    by_cases e : i = n
    · subst e; simp
    · have : i - n ≠ 0 := by omega
      simp [e, this]
  · have : i ≠ n := by omega
    simp [h, this]
theorem bit_ext {a b : Int} (ha : R32 a) (hb : R32 b) (h : ∀ i, i < 32 → bit a i = bit b i) : a = b := by
  have := b_ext (x := Int32.ofInt a) (y := Int32.ofInt b) h
  exact (eq32 ha hb).mp this
theorem R32_ior (a b : Int) : R32 (ior a b) := R32_i _
theorem R32_iand (a b : Int) : R32 (iand a b) := R32_i _
theorem R32_ixor (a b : Int) : R32 (ixor a b) := R32_i _
theorem R32_ishl (a b : Int) : R32 (ishl a b) := R32_i _
theorem R32_iushr (a b : Int) : R32 (iushr a b) := R32_i _
theorem R32_1 : R32 1 := by unfold R32; omega
/-- one bit, as it is asked by the class -/
theorem bit_ask {a : Int} {w : Nat} (hw : w < 32) : iand (iushr a (w : Int)) 1 = if bit a w then 1 else 0 := by
  refine bit_ext (R32_iand _ _) (by split <;> unfold R32 <;> omega) (fun i hi => ?_)
  rw [bit_iand, bit_ushr hw, bit_1 i hi]
  by_cases e : i = 0
  · subst e
    cases hb : bit a w with
    | true => simp [hb, bit_1]
    | false => simp [hb, bit_0]
  · cases hb : bit a w with
    | true => simp [e, bit_1 i hi]
    | false => simp [e, bit_0]
theorem s_l64 : ∀ n, n < 32 → (((nI n).toInt64 &&& 63).toBitVec.smod 64).toNat = n := by decide +kernel
theorem one64 : ∀ i, i < 64 → (Int64.ofInt 1).toBitVec.getLsbD i = decide (i = 0) := by decide +kernel
theorem bit64 {a : Int} {w : Nat} (hw : w < 32) : (Int64.ofInt a).toBitVec.getLsbD w = bit a w := by
  show (BitVec.ofInt 64 a).getLsbD w = (BitVec.ofInt 32 a).getLsbD w
  rw [BitVec.getLsbD, BitVec.getLsbD, BitVec.toNat_ofInt, BitVec.toNat_ofInt]
  have e : (a % ((2 ^ 32 : Nat) : Int)).toNat = (a % ((2 ^ 64 : Nat) : Int)).toNat % 2 ^ 32 := by omega
  rw [e, Nat.testBit_mod_two_pow]
  simp [hw]
/-- .. and by the model -/
theorem bit_askL {a : Int} {w : Nat} (hw : w < 32) : land (lshr a (w : Int)) 1 = if bit a w then 1 else 0 := by
  have key : Int64.ofInt (lshr a (w : Int)) &&& Int64.ofInt 1 = Int64.ofInt (if bit a w then 1 else 0) := by
    unfold lshr
    rw [oi64, ofInt_nI]
    apply Int64.toBitVec_inj.mp
    apply BitVec.eq_of_getLsbD_eq
    intro i hi
    rw [Int64.toBitVec_and, BitVec.getLsbD_and, one64 i hi, Int64.toBitVec_shiftRight]
    show (((Int64.ofInt a).toBitVec.sshiftRight (((nI w).toInt64 &&& 63).toBitVec.smod 64).toNat).getLsbD i && decide (i = 0)) = _
    rw [s_l64 w hw, BitVec.getLsbD_sshiftRight]
    by_cases e : i = 0
    · subst e
      rw [if_pos (by omega), Nat.add_zero, bit64 hw]
      cases hb : bit a w with
      | true => rw [if_pos rfl]; decide
      | false => rw [if_neg (by decide)]; decide
    · cases hb : bit a w with
      | true => simp [e, one64 i hi]
      | false => simp [e]
  unfold land
  rw [key]
  split <;> rfl
