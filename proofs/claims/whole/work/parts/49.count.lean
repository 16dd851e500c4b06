/-! COUNTING BITS -/
theorem oi_nat {a : Nat} (ha : a < 2147483648) : (Int32.ofInt (a : Int)).toBitVec.toNat = a := by
  show (BitVec.ofInt 32 (a : Int)).toNat = a
  rw [BitVec.ofInt_natCast, BitVec.toNat_ofNat]
  exact Nat.mod_eq_of_lt (by omega)
theorem iand_nn {a b : Nat} (ha : a < 2147483648) (hb : b < 2147483648) : iand (a : Int) (b : Int) = ((a &&& b : Nat) : Int) := by
  unfold iand
  show ((Int32.ofInt (a : Int)).toBitVec &&& (Int32.ofInt (b : Int)).toBitVec).toInt = _
  have e : ((Int32.ofInt (a : Int)).toBitVec &&& (Int32.ofInt (b : Int)).toBitVec).toNat = a &&& b := by
    rw [BitVec.toNat_and, oi_nat ha, oi_nat hb]
  rw [BitVec.toInt_eq_toNat_cond, e]
  have : a &&& b ≤ a := Nat.and_le_left
  rw [if_pos (by omega)]
theorem iushr_nn {a k : Nat} {b : Int} (ha : a < 2147483648) (hk : ((Int32.ofInt b).toUInt32 &&& Int32.toUInt32 31) = UInt32.ofNat k) (hk2 : k < 32) : iushr (a : Int) b = ((a / 2 ^ k : Nat) : Int) := by
  unfold iushr
  rw [hk]
  have e : ((Int32.ofInt (a : Int)).toUInt32 >>> UInt32.ofNat k).toNat = a / 2 ^ k := by
    rw [UInt32.toNat_shiftRight]
    have e1 : (Int32.ofInt (a : Int)).toUInt32.toNat = a := oi_nat ha
    have e2 : (UInt32.ofNat k).toNat % 32 = k := by
      rw [UInt32.toNat_ofNat']; omega
    rw [e1, e2, Nat.shiftRight_eq_div_pow]
  show ((Int32.ofInt (a : Int)).toUInt32 >>> UInt32.ofNat k).toBitVec.toInt = _
  rw [BitVec.toInt_eq_toNat_cond]
  have e3 : ((Int32.ofInt (a : Int)).toUInt32 >>> UInt32.ofNat k).toBitVec.toNat = a / 2 ^ k := e
  have : a / 2 ^ k ≤ a := Nat.div_le_self _ _
  rw [e3, if_pos (by omega)]
theorem and_split {a b c e : Nat} (hb : b < 256) (he : e < 256) : (256 * a + b) &&& (256 * c + e) = 256 * (a &&& c) + (b &&& e) := by
  have h1 : b &&& e < 2 ^ 8 := Nat.lt_of_le_of_lt Nat.and_le_left (by omega)
  apply Nat.eq_of_testBit_eq
  intro i
  rw [Nat.testBit_and, show 256 = 2 ^ 8 from rfl, Nat.testBit_two_pow_mul_add a (show b < 2 ^ 8 by omega), Nat.testBit_two_pow_mul_add c (show e < 2 ^ 8 by omega), Nat.testBit_two_pow_mul_add (a &&& c) h1]
  split
  · rw [Nat.testBit_and]
  · rw [Nat.testBit_and]
/-- four bytes -/
def by4 (a b c e : Nat) : Nat := 256 * (256 * (256 * a + b) + c) + e
theorem by4_and {a b c e m : Nat} (hb : b < 256) (hc : c < 256) (he : e < 256) (hm : m < 256) : by4 a b c e &&& by4 m m m m = by4 (a &&& m) (b &&& m) (c &&& m) (e &&& m) := by
  unfold by4
  rw [and_split he hm, and_split hc hm, and_split hb hm]
def p1 (b : Nat) : Nat := b - (b / 2 &&& 85)
def p2 (y : Nat) : Nat := (y &&& 51) + (y / 4 &&& 51)
def p3 (z : Nat) : Nat := (z + z / 16) &&& 15
def pc8 (b : Nat) : Nat := b % 2 + b / 2 % 2 + b / 4 % 2 + b / 8 % 2 + b / 16 % 2 + b / 32 % 2 + b / 64 % 2 + b / 128 % 2
theorem p_all : ∀ b : Fin 256, (b.val / 2 &&& 85) ≤ b.val ∧ p1 b.val < 256 ∧ p2 (p1 b.val) ≤ 68 ∧ p2 (p1 b.val) % 16 ≤ 4 ∧ p3 (p2 (p1 b.val)) = pc8 b.val ∧ ((b.val / 2 + 128) &&& 85) = (b.val / 2 &&& 85) ∧ (b.val / 4 + 64 &&& 51) = (b.val / 4 &&& 51) ∧ (b.val / 4 + 128 &&& 51) = (b.val / 4 &&& 51) ∧ (b.val / 4 + 192 &&& 51) = (b.val / 4 &&& 51) := by decide +kernel
theorem p_hi : ∀ z : Fin 80, ∀ j : Fin 5, (z.val + z.val / 16 + 16 * j.val &&& 15) = p3 z.val := by decide +kernel
theorem p1_half {b c : Nat} (hb : b < 256) : (b / 2 + 128 * (c % 2) &&& 85) = (b / 2 &&& 85) := by
  have := (p_all ⟨b, hb⟩).2.2.2.2.2.1
  have : c % 2 = 0 ∨ c % 2 = 1 := by omega
  rcases this with e | e <;> rw [e]
  · rfl
  · assumption
theorem p2_quar {b c : Nat} (hb : b < 256) : (b / 4 + 64 * (c % 4) &&& 51) = (b / 4 &&& 51) := by
  obtain ⟨-, -, -, -, -, -, x1, x2, x3⟩ := p_all ⟨b, hb⟩
  have : c % 4 = 0 ∨ c % 4 = 1 ∨ c % 4 = 2 ∨ c % 4 = 3 := by omega
  rcases this with e | e | e | e <;> rw [e]
  · rfl
  · exact x1
  · exact x2
  · exact x3
theorem st1 {a b c e : Nat} (ha : a < 64) (hb : b < 256) (hc : c < 256) (he : e < 256) : (by4 a b c e / 2 ^ 1 &&& by4 85 85 85 85) ≤ by4 a b c e ∧ by4 a b c e - (by4 a b c e / 2 ^ 1 &&& by4 85 85 85 85) = by4 (p1 a) (p1 b) (p1 c) (p1 e) := by
  have e1 : by4 a b c e / 2 ^ 1 = by4 (a / 2) (b / 2 + 128 * (a % 2)) (c / 2 + 128 * (b % 2)) (e / 2 + 128 * (c % 2)) := by unfold by4; omega
  rw [e1, by4_and (by omega) (by omega) (by omega) (by omega), p1_half hb, p1_half hc, p1_half he]
  have := (p_all ⟨a, by omega⟩).1
  have := (p_all ⟨b, hb⟩).1
  have := (p_all ⟨c, hc⟩).1
  have := (p_all ⟨e, he⟩).1
  unfold by4 p1
  dsimp only at *
  omega
theorem st2 {a b c e : Nat} (ha : a < 256) (hb : b < 256) (hc : c < 256) (he : e < 256) : (by4 a b c e &&& by4 51 51 51 51) + (by4 a b c e / 2 ^ 2 &&& by4 51 51 51 51) = by4 (p2 a) (p2 b) (p2 c) (p2 e) := by
  have e1 : by4 a b c e / 2 ^ 2 = by4 (a / 4) (b / 4 + 64 * (a % 4)) (c / 4 + 64 * (b % 4)) (e / 4 + 64 * (c % 4)) := by unfold by4; omega
  rw [e1, by4_and (by omega) (by omega) (by omega) (by omega), by4_and (by omega) (by omega) (by omega) (by omega), p2_quar hb, p2_quar hc, p2_quar he]
  unfold by4 p2
  omega
theorem st3 {a b c e : Nat} (ha : a ≤ 68) (hb : b ≤ 68) (hc : c ≤ 68) (he : e ≤ 68) (ha2 : a % 16 ≤ 4) (hb2 : b % 16 ≤ 4) (hc2 : c % 16 ≤ 4) : (by4 a b c e + by4 a b c e / 2 ^ 4) &&& by4 15 15 15 15 = by4 (p3 a) (p3 b) (p3 c) (p3 e) := by
  have e1 : by4 a b c e + by4 a b c e / 2 ^ 4 = by4 (a + a / 16) (b + b / 16 + 16 * (a % 16)) (c + c / 16 + 16 * (b % 16)) (e + e / 16 + 16 * (c % 16)) := by unfold by4; omega
  rw [e1, by4_and (by omega) (by omega) (by omega) (by omega)]
  have h1 := p_hi ⟨b, by omega⟩ ⟨a % 16, by omega⟩
  have h2 := p_hi ⟨c, by omega⟩ ⟨b % 16, by omega⟩
  have h3 := p_hi ⟨e, by omega⟩ ⟨c % 16, by omega⟩
  dsimp only at h1 h2 h3
  rw [h1, h2, h3]
  rfl
theorem pc8_le (b : Nat) : pc8 b ≤ 8 := by unfold pc8; omega
theorem and63 (n : Nat) : n &&& 63 = n % 64 := Nat.and_two_pow_sub_one_eq_mod n 6
def pcF (x : Int) : Int := sumF (fun w => if bit x w then 1 else 0) 32
theorem st4 {u : Nat} (hu : u < 140000000) : iand (w32 (w32 ((u : Int) + iushr (u : Int) 8) + iushr (w32 ((u : Int) + iushr (u : Int) 8)) 16)) 63 = (((u + u / 256 + (u + u / 256) / 65536) % 64 : Nat) : Int) := by
  have e1 : w32 ((u : Int) + iushr (u : Int) 8) = ((u + u / 256 : Nat) : Int) := by
    rw [iushr_nn (k := 8) (by omega) (by decide) (by omega), w32_r (by omega) (by omega)]; omega
  rw [e1, iushr_nn (k := 16) (by omega) (by decide) (by omega), w32_r (by omega) (by omega), ← Int.natCast_add, show (63 : Int) = ((63 : Nat) : Int) from rfl, iand_nn (by omega) (by decide), and63]
theorem st5 {a b c e : Nat} (h1 : e ≤ 8) (h2 : c ≤ 8) (h3 : b ≤ 8) : (by4 a b c e + by4 a b c e / 256 + (by4 a b c e + by4 a b c e / 256) / 65536) % 64 = (a + b + c + e) % 64 := by
  have e1 : by4 a b c e / 256 = 65536 * a + 256 * b + c := by unfold by4; omega
  have e2 : by4 a b c e + (65536 * a + 256 * b + c) = 65536 * (256 * a + a + b) + (256 * (b + c) + c + e) := by unfold by4; omega
  have e3 : (65536 * (256 * a + a + b) + (256 * (b + c) + c + e)) / 65536 = 256 * a + a + b := by omega
  rw [e1, e2, e3]
  omega
section
variable {d : Nat} {h : PH} {Q : Option PV → PH → Prop}
theorem c_bitCount0 {a b c e : Nat} (ha : a < 64) (hb : b < 256) (hc : c < 256) (he : e < 256) (hq : Q (some (vI ((pc8 a + pc8 b + pc8 c + pc8 e : Nat) : Int))) h) : C2 d mJ6_bitCount_0f7a4 [vI ((by4 a b c e : Nat) : Int)] h Q := by
  refine EJ6_bitCount_0f7a4 fun _ => BJ6_bitCount_0f7a4_0 ?_
  obtain ⟨a1, a2, a3, a4, a5, -⟩ := p_all ⟨a, by omega⟩
  obtain ⟨b1, b2, b3, b4, b5, -⟩ := p_all ⟨b, hb⟩
  obtain ⟨c1, c2, c3, c4, c5, -⟩ := p_all ⟨c, hc⟩
  obtain ⟨e1, e2, e3, e4, e5, -⟩ := p_all ⟨e, he⟩
  dsimp only at *
  have hx : by4 a b c e < 1073741824 := by unfold by4; omega
  obtain ⟨s1, s2⟩ := st1 ha hb hc he
  have m1 : (1431655765 : Int) = ((by4 85 85 85 85 : Nat) : Int) := by decide
  have m2 : (858993459 : Int) = ((by4 51 51 51 51 : Nat) : Int) := by decide
  have m3 : (252645135 : Int) = ((by4 15 15 15 15 : Nat) : Int) := by decide
  have A1 : iand (iushr ((by4 a b c e : Nat) : Int) 1) 1431655765 = ((by4 a b c e / 2 ^ 1 &&& by4 85 85 85 85 : Nat) : Int) := by
    rw [iushr_nn (k := 1) (by omega) (by decide) (by omega), m1, iand_nn (by omega) (by decide)]
  have A2 : w32 (((by4 a b c e : Nat) : Int) - iand (iushr ((by4 a b c e : Nat) : Int) 1) 1431655765) = ((by4 (p1 a) (p1 b) (p1 c) (p1 e) : Nat) : Int) := by
    rw [A1, ← s2, w32_r (by omega) (by omega)]; omega
  rw [A2]
  have ha1 : p1 a < 64 := by unfold p1; omega
  have hy : by4 (p1 a) (p1 b) (p1 c) (p1 e) < 1073741824 := by unfold by4; omega
  have s3 := st2 (a := p1 a) (b := p1 b) (c := p1 c) (e := p1 e) (by omega) b2 c2 e2
  have A3 : w32 (iand ((by4 (p1 a) (p1 b) (p1 c) (p1 e) : Nat) : Int) 858993459 + iand (iushr ((by4 (p1 a) (p1 b) (p1 c) (p1 e) : Nat) : Int) 2) 858993459) = ((by4 (p2 (p1 a)) (p2 (p1 b)) (p2 (p1 c)) (p2 (p1 e)) : Nat) : Int) := by
    rw [iushr_nn (k := 2) (by omega) (by decide) (by omega), m2, iand_nn (by omega) (by decide), iand_nn (by omega) (by decide), ← s3, w32_r (by omega) ?_]
    · omega
    · have : by4 (p2 (p1 a)) (p2 (p1 b)) (p2 (p1 c)) (p2 (p1 e)) < 1159000000 := by unfold by4; omega
      omega
  rw [A3]
  have hz : by4 (p2 (p1 a)) (p2 (p1 b)) (p2 (p1 c)) (p2 (p1 e)) < 1159000000 := by unfold by4; omega
  have s4 := st3 (a := p2 (p1 a)) (b := p2 (p1 b)) (c := p2 (p1 c)) (e := p2 (p1 e)) a3 b3 c3 e3 a4 b4 c4
  rw [a5, b5, c5, e5] at s4
  have A4 : iand (w32 (((by4 (p2 (p1 a)) (p2 (p1 b)) (p2 (p1 c)) (p2 (p1 e)) : Nat) : Int) + iushr ((by4 (p2 (p1 a)) (p2 (p1 b)) (p2 (p1 c)) (p2 (p1 e)) : Nat) : Int) 4)) 252645135 = ((by4 (pc8 a) (pc8 b) (pc8 c) (pc8 e) : Nat) : Int) := by
    rw [iushr_nn (k := 4) (by omega) (by decide) (by omega), w32_r (by omega) (by omega), m3, ← Int.natCast_add, iand_nn (by omega) (by decide), s4]
  rw [A4]
  have g1 := pc8_le a
  have g2 := pc8_le b
  have g3 := pc8_le c
  have g4 := pc8_le e
  have hu : by4 (pc8 a) (pc8 b) (pc8 c) (pc8 e) < 140000000 := by unfold by4; omega
  rw [st4 hu]
  have e9 : (by4 (pc8 a) (pc8 b) (pc8 c) (pc8 e) + by4 (pc8 a) (pc8 b) (pc8 c) (pc8 e) / 256 + (by4 (pc8 a) (pc8 b) (pc8 c) (pc8 e) + by4 (pc8 a) (pc8 b) (pc8 c) (pc8 e) / 256) / 65536) % 64 = pc8 a + pc8 b + pc8 c + pc8 e := by
    rw [st5 (pc8_le e) (pc8_le c) (pc8_le b)]; exact Nat.mod_eq_of_lt (by omega)
  rw [e9]; exact hq
theorem bit_nn {n : Nat} (hn : n < 2147483648) (w : Nat) : bit (n : Int) w = n.testBit w := by
  unfold bit bt
  rw [BitVec.getLsbD, oi_nat hn]
theorem sum_ext {f g : Nat → Int} : ∀ n, (∀ i, i < n → f i = g i) → sumF f n = sumF g n := by
  intro n
  induction n with
  | zero => intro _; rfl
  | succ n ih => intro e; show sumF f n + f n = sumF g n + g n; rw [ih (fun i hi => e i (by omega)), e n (by omega)]
theorem s8_all : ∀ e : Fin 256, sumF (fun w => if e.val.testBit w then 1 else 0) 8 = (pc8 e.val : Int) := by decide +kernel
theorem sum8 {r e : Nat} (he : e < 256) : ∀ m, sumF (fun w => if (256 * r + e).testBit w then 1 else 0) (m + 8) = (pc8 e : Int) + sumF (fun w => if r.testBit w then 1 else 0) m := by
  have tb : ∀ w, (256 * r + e).testBit w = if w < 8 then e.testBit w else r.testBit (w - 8) := fun w => by
    rw [show 256 = 2 ^ 8 from rfl, Nat.testBit_two_pow_mul_add r (show e < 2 ^ 8 by omega)]
  intro m
  induction m with
  | zero =>
    rw [sum_ext (g := fun w => if e.testBit w then 1 else 0) (0 + 8) (fun i hi => by have t := tb i; rw [if_pos (show i < 8 by omega)] at t; rw [t])]
    have := s8_all ⟨e, he⟩
    show sumF _ 8 = _ + 0
    rw [this, Int.add_zero]
  | succ m ih =>
    have t := tb (m + 8)
    rw [if_neg (by omega), Nat.add_sub_cancel] at t
    show sumF _ (m + 8) + (if (256 * r + e).testBit (m + 8) then 1 else 0) = _ + (sumF _ m + (if r.testBit m then 1 else 0))
    rw [ih, t]
    omega
theorem sum0 : ∀ m, sumF (fun w => if (0 : Nat).testBit w then 1 else 0) m = 0 := by
  intro m
  induction m with
  | zero => rfl
  | succ m ih => show sumF _ m + _ = _; rw [ih]; simp
theorem pcF_by {a b c e : Nat} (ha : a < 64) (hb : b < 256) (hc : c < 256) (he : e < 256) : pcF ((by4 a b c e : Nat) : Int) = ((pc8 a + pc8 b + pc8 c + pc8 e : Nat) : Int) := by
  have hx : by4 a b c e < 1073741824 := by unfold by4; omega
  unfold pcF
  rw [sum_ext (g := fun w => if (by4 a b c e).testBit w then 1 else 0) 32 (fun i _ => by rw [bit_nn (by omega)])]
  unfold by4
  have h0 := sum8 (r := 256 * (256 * a + b) + c) (e := e) he 24
  have h1 := sum8 (r := 256 * a + b) (e := c) hc 16
  have h2 := sum8 (r := a) (e := b) hb 8
  have h3 := sum8 (r := 0) (e := a) (by omega) 0
  rw [show 256 * 0 + a = a by omega] at h3
  rw [h0, h1, h2, h3]
  show _ + (_ + (_ + (_ + 0))) = _
  omega
theorem c_bitCount {x : Int} (h0 : 0 ≤ x) (h1 : x < 1073741824) (hq : Q (some (vI (pcF x))) h) : C2 d mJ6_bitCount_0f7a4 [vI x] h Q := by
  obtain ⟨n, hn⟩ := ex_nat h0
  subst hn
  have e : n = by4 (n / 16777216) (n / 65536 % 256) (n / 256 % 256) (n % 256) := by unfold by4; omega
  rw [e] at hq ⊢
  rw [pcF_by (by omega) (by omega) (by omega) (by omega)] at hq
  exact c_bitCount0 (by omega) (by omega) (by omega) (by omega) hq
end
theorem bits_rg {x : Int} (hx : R32 x) {n : Nat} (hn : n ≤ 30) (hb : ∀ w, n ≤ w → bit x w = false) : 0 ≤ x ∧ x < 1073741824 := by
  have h1 : (Int32.ofInt x).toBitVec.toNat < 2 ^ 30 := by
    apply Nat.lt_pow_two_of_testBit
    intro i hi
    exact hb i (by omega)
  have h2 : x = (Int32.ofInt x).toBitVec.toInt := (tr32 hx).symm
  rw [BitVec.toInt_eq_toNat_cond, if_pos (by omega)] at h2
  omega
theorem pcF_cut {x : Int} {n : Nat} (hn : n ≤ 32) (hb : ∀ w, n ≤ w → bit x w = false) : pcF x = sumF (fun w => if bit x w then 1 else 0) n := by
  have : ∀ m, sumF (fun w => if bit x w then (1 : Int) else 0) (n + m) = sumF (fun w => if bit x w then 1 else 0) n := by
    intro m
    induction m with
    | zero => rfl
    | succ m ih => show sumF _ (n + m) + (if bit x (n + m) then (1 : Int) else 0) = _; rw [ih, hb (n + m) (by omega)]; simp
  have h := this (32 - n)
  rw [show n + (32 - n) = 32 by omega] at h
  exact h
theorem sum_flip (P : Nat → Bool) : ∀ n : Nat, (n : Int) - sumF (fun w => if P w then 1 else 0) n = sumF (fun w => if P w then 0 else 1) n := by
  intro n
  induction n with
  | zero => rfl
  | succ n ih =>
    show ((n + 1 : Nat) : Int) - (sumF _ n + (if P n then 1 else 0)) = sumF _ n + (if P n then 0 else 1)
    rw [← ih]
    cases P n with
    | true => rw [if_pos rfl, if_pos rfl]; omega
    | false => rw [if_neg (by decide), if_neg (by decide)]; omega
