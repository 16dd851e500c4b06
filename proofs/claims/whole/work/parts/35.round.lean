/-! FLOATS: rounding, by bounds in 256ths -/
theorem near_ge {a n m : Nat} (hm : 0 < m) (h : a * m ≤ n) : a ≤ FP.Core.nearest n m := by
  have h1 : a ≤ n / m := (Nat.le_div_iff_mul_le hm).mpr h
  unfold FP.Core.nearest
  split
  · exact h1
  · split <;> omega
theorem near_le {b n m : Nat} (hm : 0 < m) (h : n ≤ b * m) : FP.Core.nearest n m ≤ b := by
  have h1 : n / m ≤ b := by
    rw [Nat.div_le_iff_le_mul_add_pred hm]
    rw [Nat.mul_comm]; omega
  rcases Nat.lt_or_ge (n / m) b with h2 | h2
  · unfold FP.Core.nearest
    split
    · omega
    · split <;> omega
  · have e : n / m = b := by omega
    have h3 : n % m = 0 := by
      have := Nat.div_add_mod n m
      rw [e, Nat.mul_comm] at this
      omega
    unfold FP.Core.nearest
    rw [h3, if_pos (by omega)]
    exact h1
/-- the leading digit -/
theorem lead_spec {n m : Nat} (hn : 0 < n) (hm : 0 < m) (h1 : n.log2 < 500) (h2 : m.log2 < 500) : m * 2 ^ (FP.Core.leading n m + 1000).toNat ≤ n * 2 ^ 1000 ∧ n * 2 ^ 1000 < m * 2 ^ (FP.Core.leading n m + 1001).toNat ∧ -501 ≤ FP.Core.leading n m ∧ FP.Core.leading n m ≤ (n.log2 : Int) - (m.log2 : Int) := by
  have a1 := Nat.log2_self_le (n := n) (by omega)
  have a2 := Nat.lt_log2_self (n := n)
  have b1 := Nat.log2_self_le (n := m) (by omega)
  have b2 := Nat.lt_log2_self (n := m)
  generalize hN : n.log2 = N at *
  generalize hM : m.log2 = M at *
  have key : ∀ (k : Int), -500 ≤ k → k ≤ 500 → (m * 2 ^ k.toNat ≤ n * 2 ^ (-k).toNat ↔ m * 2 ^ (k + 1000).toNat ≤ n * 2 ^ 1000) := by
    intro k k1 k2
    have e1 : m * 2 ^ (k + 1000).toNat = m * 2 ^ k.toNat * 2 ^ (1000 - (-k).toNat) := by rw [Nat.mul_assoc, ← Nat.pow_add]; congr 2; omega
    have e2 : n * 2 ^ 1000 = n * 2 ^ (-k).toNat * 2 ^ (1000 - (-k).toNat) := by rw [Nat.mul_assoc, ← Nat.pow_add]; congr 2; omega
    rw [e1, e2]
    exact (Nat.mul_le_mul_right_iff (Nat.two_pow_pos _)).symm
  unfold FP.Core.leading
  dsimp only
  rw [hN, hM]
  have up : n * 2 ^ 1000 < m * 2 ^ ((N : Int) - (M : Int) + 1001).toNat := by
    have e : 2 ^ (N + 1) * 2 ^ 1000 = 2 ^ M * 2 ^ ((N : Int) - (M : Int) + 1001).toNat := by rw [← Nat.pow_add, ← Nat.pow_add]; congr 1; omega
    calc n * 2 ^ 1000 < 2 ^ (N + 1) * 2 ^ 1000 := (Nat.mul_lt_mul_right (Nat.two_pow_pos _)).mpr a2
      _ = 2 ^ M * 2 ^ ((N : Int) - (M : Int) + 1001).toNat := e
      _ ≤ m * 2 ^ ((N : Int) - (M : Int) + 1001).toNat := Nat.mul_le_mul_right _ b1
  have lo : m * 2 ^ ((N : Int) - (M : Int) - 1 + 1000).toNat ≤ n * 2 ^ 1000 := by
    have e : 2 ^ (M + 1) * 2 ^ ((N : Int) - (M : Int) - 1 + 1000).toNat = 2 ^ N * 2 ^ 1000 := by rw [← Nat.pow_add, ← Nat.pow_add]; congr 1; omega
    calc m * 2 ^ ((N : Int) - (M : Int) - 1 + 1000).toNat ≤ 2 ^ (M + 1) * 2 ^ ((N : Int) - (M : Int) - 1 + 1000).toNat := Nat.mul_le_mul_right _ (Nat.le_of_lt b2)
      _ = 2 ^ N * 2 ^ 1000 := e
      _ ≤ n * 2 ^ 1000 := Nat.mul_le_mul_right _ a1
  split
  · rename_i h
    exact ⟨(key _ (by omega) (by omega)).mp h, up, by omega, by omega⟩
  · rename_i h
    refine ⟨lo, ?_, by omega, by omega⟩
    have := (not_congr (key ((N : Int) - (M : Int)) (by omega) (by omega))).mp h
    rw [show (N : Int) - (M : Int) - 1 + 1001 = (N : Int) - (M : Int) + 1000 by omega]
    omega
theorem pw_le {a b : Nat} (h : (2 : Nat) ^ a < 2 ^ b) : a < b := (Nat.pow_lt_pow_iff_right (by omega)).mp h
theorem rnd32 (s : Bool) {n m A B : Nat} {e : Int} (hn : 0 < n) (hm : 0 < m) (ln : n.log2 < 500) (lm : m.log2 < 500) (he : -400 ≤ e) (he2 : e ≤ 400) (hB : B < 2 ^ 23) (h1 : A * m * 2 ^ 592 ≤ n * 2 ^ (600 + e).toNat) (h2 : n * 2 ^ (600 + e).toNat ≤ B * m * 2 ^ 592) :
    ∃ c q, FP.Core.roundRatio FP.Core.b32 s n m e = .fin s c q ∧ c < 2 ^ 24 ∧ -149 ≤ q ∧ q ≤ 0 ∧ (q = -149 ∨ 2 ^ 23 ≤ c) ∧ A * 2 ^ 592 ≤ c * 2 ^ (600 + q).toNat ∧ c * 2 ^ (600 + q).toNat ≤ B * 2 ^ 592 := by
  obtain ⟨l1, l2, l3, l4⟩ := lead_spec hn hm ln lm
  have a1 := Nat.log2_self_le (n := n) (by omega)
  have b2 := Nat.lt_log2_self (n := m)
  have hL : FP.Core.leading n m + e ≤ 15 := by
    have e1 : (2 : Nat) ^ (n.log2 + (600 + e).toNat) < 2 ^ (23 + (m.log2 + 1) + 592) := by
      calc (2 : Nat) ^ (n.log2 + (600 + e).toNat) = 2 ^ n.log2 * 2 ^ (600 + e).toNat := Nat.pow_add _ _ _
        _ ≤ n * 2 ^ (600 + e).toNat := Nat.mul_le_mul_right _ a1
        _ ≤ B * m * 2 ^ 592 := h2
        _ < 2 ^ 23 * 2 ^ (m.log2 + 1) * 2 ^ 592 := (Nat.mul_lt_mul_right (Nat.two_pow_pos _)).mpr (Nat.mul_lt_mul'' hB b2)
        _ = 2 ^ (23 + (m.log2 + 1) + 592) := by rw [Nat.pow_add 2 (23 + (m.log2 + 1)) 592, Nat.pow_add 2 23 (m.log2 + 1)]
    have := pw_le e1
    omega
  have hq : FP.Core.quantum FP.Core.b32 n m e = max (-149) (FP.Core.leading n m + e - 23) := rfl
  have hr : FP.Core.roundRatio FP.Core.b32 s n m e = FP.Core.settle FP.Core.b32 s (FP.Core.nearest (n * 2 ^ (e - FP.Core.quantum FP.Core.b32 n m e).toNat) (m * 2 ^ (FP.Core.quantum FP.Core.b32 n m e - e).toNat)) (FP.Core.quantum FP.Core.b32 n m e) := by
    unfold FP.Core.roundRatio
    rw [if_neg (by omega)]
    rfl
  generalize FP.Core.quantum FP.Core.b32 n m e = q at *
  generalize FP.Core.leading n m = L at *
  have hq1 : -149 ≤ q := by omega
  have hq2 : q ≤ -8 := by omega
  have hD : 0 < m * 2 ^ (q - e).toNat := Nat.mul_pos hm (Nat.two_pow_pos _)
  have hXZ : (592 : Nat) = (600 + q).toNat + (-8 - q).toNat := by omega
  have hYM : (600 + e).toNat + (q - e).toNat = (600 + q).toNat + (e - q).toNat := by omega
  have key1 : A * 2 ^ (-8 - q).toNat * (m * 2 ^ (q - e).toNat) ≤ n * 2 ^ (e - q).toNat := by
    refine Nat.le_of_mul_le_mul_right (c := 2 ^ (600 + q).toNat) ?_ (Nat.two_pow_pos _)
    have e1 : A * 2 ^ (-8 - q).toNat * (m * 2 ^ (q - e).toNat) * 2 ^ (600 + q).toNat = A * m * 2 ^ 592 * 2 ^ (q - e).toNat := by
      rw [show (2 : Nat) ^ 592 = 2 ^ (600 + q).toNat * 2 ^ (-8 - q).toNat by rw [← Nat.pow_add, ← hXZ]]
      simp only [Nat.mul_assoc, Nat.mul_comm, Nat.mul_left_comm]
    have e2 : n * 2 ^ (e - q).toNat * 2 ^ (600 + q).toNat = n * 2 ^ (600 + e).toNat * 2 ^ (q - e).toNat := by
      rw [Nat.mul_assoc, Nat.mul_assoc, ← Nat.pow_add, ← Nat.pow_add, hYM, Nat.add_comm]
    rw [e1, e2]
    exact Nat.mul_le_mul_right _ h1
  have key2 : n * 2 ^ (e - q).toNat ≤ B * 2 ^ (-8 - q).toNat * (m * 2 ^ (q - e).toNat) := by
    refine Nat.le_of_mul_le_mul_right (c := 2 ^ (600 + q).toNat) ?_ (Nat.two_pow_pos _)
    have e1 : B * 2 ^ (-8 - q).toNat * (m * 2 ^ (q - e).toNat) * 2 ^ (600 + q).toNat = B * m * 2 ^ 592 * 2 ^ (q - e).toNat := by
      rw [show (2 : Nat) ^ 592 = 2 ^ (600 + q).toNat * 2 ^ (-8 - q).toNat by rw [← Nat.pow_add, ← hXZ]]
      simp only [Nat.mul_assoc, Nat.mul_comm, Nat.mul_left_comm]
    have e2 : n * 2 ^ (e - q).toNat * 2 ^ (600 + q).toNat = n * 2 ^ (600 + e).toNat * 2 ^ (q - e).toNat := by
      rw [Nat.mul_assoc, Nat.mul_assoc, ← Nat.pow_add, ← Nat.pow_add, hYM, Nat.add_comm]
    rw [e1, e2]
    exact Nat.mul_le_mul_right _ h2
  -- the significand's own bounds
  have key3 : n * 2 ^ (e - q).toNat ≤ 2 ^ 24 * (m * 2 ^ (q - e).toNat) := by
    refine Nat.le_of_mul_le_mul_right (c := 2 ^ (1000 - (e - q).toNat)) ?_ (Nat.two_pow_pos _)
    have e2 : n * 2 ^ (e - q).toNat * 2 ^ (1000 - (e - q).toNat) = n * 2 ^ 1000 := by rw [Nat.mul_assoc, ← Nat.pow_add]; congr 2; omega
    rw [e2]
    refine Nat.le_trans (Nat.le_of_lt l2) ?_
    rw [show 2 ^ 24 * (m * 2 ^ (q - e).toNat) * 2 ^ (1000 - (e - q).toNat) = m * (2 ^ 24 * 2 ^ (q - e).toNat * 2 ^ (1000 - (e - q).toNat)) by simp only [Nat.mul_assoc, Nat.mul_comm, Nat.mul_left_comm], ← Nat.pow_add, ← Nat.pow_add]
    exact Nat.mul_le_mul_left _ (Nat.pow_le_pow_right (by omega) (by omega))
  have key4 : q = -149 ∨ 2 ^ 23 * (m * 2 ^ (q - e).toNat) ≤ n * 2 ^ (e - q).toNat := by
    by_cases z : q = -149
    · exact Or.inl z
    · right
      refine Nat.le_of_mul_le_mul_right (c := 2 ^ (1000 - (e - q).toNat)) ?_ (Nat.two_pow_pos _)
      have e2 : n * 2 ^ (e - q).toNat * 2 ^ (1000 - (e - q).toNat) = n * 2 ^ 1000 := by rw [Nat.mul_assoc, ← Nat.pow_add]; congr 2; omega
      rw [e2]
      refine Nat.le_trans ?_ l1
      rw [show 2 ^ 23 * (m * 2 ^ (q - e).toNat) * 2 ^ (1000 - (e - q).toNat) = m * (2 ^ 23 * 2 ^ (q - e).toNat * 2 ^ (1000 - (e - q).toNat)) by simp only [Nat.mul_assoc, Nat.mul_comm, Nat.mul_left_comm], ← Nat.pow_add, ← Nat.pow_add]
      exact Nat.mul_le_mul_left _ (Nat.pow_le_pow_right (by omega) (by omega))
  have c1 := near_ge hD key1
  have c2 := near_le hD key2
  have c3 := near_le hD key3
  have c4 : q = -149 ∨ 2 ^ 23 ≤ FP.Core.nearest (n * 2 ^ (e - q).toNat) (m * 2 ^ (q - e).toNat) := key4.imp id (near_ge hD)
  generalize FP.Core.nearest (n * 2 ^ (e - q).toNat) (m * 2 ^ (q - e).toNat) = c at *
  have d1 : A * 2 ^ 592 ≤ c * 2 ^ (600 + q).toNat := by
    have := Nat.mul_le_mul_right (2 ^ (600 + q).toNat) c1
    rw [Nat.mul_assoc, ← Nat.pow_add, Nat.add_comm, ← hXZ] at this
    exact this
  have d2 : c * 2 ^ (600 + q).toNat ≤ B * 2 ^ 592 := by
    have := Nat.mul_le_mul_right (2 ^ (600 + q).toNat) c2
    rw [Nat.mul_assoc, ← Nat.pow_add, Nat.add_comm, ← hXZ] at this
    exact this
  by_cases hc : c < 2 ^ 24
  · refine ⟨c, q, ?_, hc, hq1, by omega, c4, d1, d2⟩
    rw [hr]
    show (if c < 2 ^ 24 then FP.Core.bound FP.Core.b32 s c q else _) = _
    rw [if_pos hc]
    show (if q ≤ FP.Core.Fmt.qmax FP.Core.b32 then _ else _) = _
    rw [if_pos (by show q ≤ 104; omega)]
  · have ec : c = 2 ^ 24 := by omega
    have e3 : (2 : Nat) ^ 23 * 2 ^ (600 + (q + 1)).toNat = c * 2 ^ (600 + q).toNat := by
      rw [ec, ← Nat.pow_add, ← Nat.pow_add]; congr 1; omega
    refine ⟨2 ^ 23, q + 1, ?_, by decide, by omega, by omega, Or.inr (Nat.le_refl _), by rw [e3]; exact d1, by rw [e3]; exact d2⟩
    rw [hr]
    show (if c < 2 ^ 24 then _ else FP.Core.bound FP.Core.b32 s (2 ^ 23) (q + 1)) = _
    rw [if_neg hc]
    show (if q + 1 ≤ FP.Core.Fmt.qmax FP.Core.b32 then _ else _) = _
    rw [if_pos (by show q + 1 ≤ 104; omega)]
theorem asm_lt {s : Bool} {e t : Nat} (he : e ≤ 254) (ht : t < 2 ^ 23) : FP.Core.assemble FP.Core.b32 s e t = s.toNat * 2 ^ 31 + e * 2 ^ 23 + t ∧ FP.Core.assemble FP.Core.b32 s e t < 2 ^ 32 := by
  have h1 : FP.Core.assemble FP.Core.b32 s e t = (s.toNat * 256 + e) * 8388608 + t := rfl
  rw [h1]
  cases s <;> simp only [Bool.toNat_false, Bool.toNat_true] <;> omega
theorem enc_at {s : Bool} {c : Nat} {q : Int} (hc : c < 2 ^ 24) (h1 : -149 ≤ q) (h2 : q ≤ 0) (h3 : q = -149 ∨ 2 ^ 23 ≤ c) : ∃ e t, e ≤ 254 ∧ t < 2 ^ 23 ∧ FP.Core.encode FP.Core.b32 (.fin s c q) = FP.Core.assemble FP.Core.b32 s e t ∧ ((e = 0 ∧ t = c ∧ q = -149) ∨ (1 ≤ e ∧ c = 2 ^ 23 + t ∧ q = -149 + ((e : Int) - 1))) := by
  show ∃ e t, e ≤ 254 ∧ t < 2 ^ 23 ∧ (if c < 8388608 then FP.Core.assemble FP.Core.b32 s 0 c else FP.Core.assemble FP.Core.b32 s ((q - (-149)).toNat + 1) (c - 8388608)) = _ ∧ _
  by_cases z : c < 8388608
  · rw [if_pos z]
    exact ⟨0, c, by omega, z, rfl, Or.inl ⟨rfl, rfl, by omega⟩⟩
  · rw [if_neg z]
    exact ⟨(q - (-149)).toNat + 1, c - 8388608, by omega, by omega, rfl, Or.inr ⟨by omega, by omega, by omega⟩⟩
theorem dec_enc {s : Bool} {c : Nat} {q : Int} (hc : c < 2 ^ 24) (h1 : -149 ≤ q) (h2 : q ≤ 0) (h3 : q = -149 ∨ 2 ^ 23 ≤ c) : FP.Core.decode FP.Core.b32 (UInt32.ofNat (FP.Core.encode FP.Core.b32 (.fin s c q))).toNat = .fin s c q := by
  obtain ⟨e, t, he, ht, h4, h5⟩ := enc_at (s := s) hc h1 h2 h3
  obtain ⟨h6, h7⟩ := asm_lt (s := s) he ht
  rw [h4, UInt32.toNat_ofNat_of_lt' h7]
  generalize FP.Core.assemble FP.Core.b32 s e t = n at *
  have fE : FP.Core.fieldE FP.Core.b32 n = e := by
    show n / 8388608 % 256 = e
    cases s <;> simp only [Bool.toNat_false, Bool.toNat_true] at h6 <;> omega
  have fT : FP.Core.fieldT FP.Core.b32 n = t := by
    show n % 8388608 = t
    cases s <;> simp only [Bool.toNat_false, Bool.toNat_true] at h6 <;> omega
  have fS : FP.Core.fieldS FP.Core.b32 n = s := by
    show (n / 8388608 / 256 % 2 == 1) = s
    cases s with
    | false =>
      simp only [Bool.toNat_false] at h6
      rw [show n / 8388608 / 256 % 2 = 0 by omega]; rfl
    | true =>
      simp only [Bool.toNat_true] at h6
      rw [show n / 8388608 / 256 % 2 = 1 by omega]; rfl
  unfold FP.Core.decode
  rw [fE, fT, fS]
  rw [if_neg (show ¬ e = FP.Core.Fmt.exps FP.Core.b32 - 1 from (by show ¬ e = 255; omega))]
  rcases h5 with ⟨a1, a2, a3⟩ | ⟨a1, a2, a3⟩
  · rw [if_pos a1, a2, a3]; rfl
  · rw [if_neg (by omega), a2, a3]; rfl
theorem n32_enc {s : Bool} {c : Nat} {q : Int} (hc : c < 2 ^ 24) (h1 : -149 ≤ q) (h2 : q ≤ 0) (h3 : q = -149 ∨ 2 ^ 23 ≤ c) : vf_n32 (UInt32.ofNat (FP.Core.encode FP.Core.b32 (.fin s c q))) := by
  obtain ⟨e, t, he, ht, h4, -⟩ := enc_at (s := s) hc h1 h2 h3
  obtain ⟨h6, h7⟩ := asm_lt (s := s) he ht
  unfold vf_n32
  rw [h4, UInt32.le_iff_toNat_le, UInt32.toNat_and, UInt32.toNat_ofNat_of_lt' h7]
  show FP.Core.assemble FP.Core.b32 s e t &&& (2 ^ 31 - 1) ≤ 2139095040
  rw [Nat.and_two_pow_sub_one_eq_mod]
  generalize FP.Core.assemble FP.Core.b32 s e t = n at *
  cases s <;> simp only [Bool.toNat_false, Bool.toNat_true] at h6 <;> omega
/-- a datum whose value is z by 2 ^ 149 -/
def DZ (D : FP.Core.Datum) (z : Int) : Prop := ∃ s c q, D = .fin s c q ∧ c < 2 ^ 24 ∧ -149 ≤ q ∧ q ≤ 0 ∧ z = FP.Core.signed s (c * 2 ^ (149 + q).toNat)
def FZ (r : UInt32) (z : Int) : Prop := DZ (FP.Core.decode FP.Core.b32 r.toNat) z
theorem sg_neg (s : Bool) (c : Nat) : FP.Core.signed (!s) c = -FP.Core.signed s c := by
  unfold FP.Core.signed
  cases s <;> simp
theorem sg_abs (s : Bool) (c : Nat) : (FP.Core.signed s c).natAbs = c := by
  unfold FP.Core.signed
  cases s <;> simp
theorem sg_mul (s : Bool) (c k : Nat) : FP.Core.signed s (c * k) = FP.Core.signed s c * (k : Int) := by
  unfold FP.Core.signed
  cases s <;> simp [Int.neg_mul]
theorem DZ.neg {D : FP.Core.Datum} {z : Int} (h : DZ D z) : DZ (FP.Core.negate D) (-z) := by
  obtain ⟨s, c, q, e, h1, h2, h3, h4⟩ := h
  exact ⟨!s, c, q, by rw [e]; rfl, h1, h2, h3, by rw [sg_neg, h4]⟩
theorem FZ_round (s : Bool) {n m A B : Nat} {e : Int} (hn : 0 < n) (hm : 0 < m) (ln : n.log2 < 500) (lm : m.log2 < 500) (he : -400 ≤ e) (he2 : e ≤ 400) (hB : B < 2 ^ 23) (h1 : A * m * 2 ^ 592 ≤ n * 2 ^ (600 + e).toNat) (h2 : n * 2 ^ (600 + e).toNat ≤ B * m * 2 ^ 592) :
    ∃ z : Nat, A * 2 ^ 141 ≤ z ∧ z ≤ B * 2 ^ 141 ∧ FZ (UInt32.ofNat (FP.Core.encode FP.Core.b32 (FP.Core.roundRatio FP.Core.b32 s n m e))) (FP.Core.signed s z) ∧ vf_n32 (UInt32.ofNat (FP.Core.encode FP.Core.b32 (FP.Core.roundRatio FP.Core.b32 s n m e))) := by
  obtain ⟨c, q, e1, c1, c2, c3, c4, c5, c6⟩ := rnd32 s hn hm ln lm he he2 hB h1 h2
  have es : (2 : Nat) ^ (600 + q).toNat = 2 ^ (149 + q).toNat * 2 ^ 451 := by rw [← Nat.pow_add]; congr 1; omega
  have eA : (2 : Nat) ^ 592 = 2 ^ 141 * 2 ^ 451 := by rw [← Nat.pow_add]
  rw [es, eA, ← Nat.mul_assoc, ← Nat.mul_assoc] at c5 c6
  refine ⟨c * 2 ^ (149 + q).toNat, Nat.le_of_mul_le_mul_right c5 (Nat.two_pow_pos _), Nat.le_of_mul_le_mul_right c6 (Nat.two_pow_pos _), ?_, ?_⟩
  · rw [e1]
    exact ⟨s, c, q, dec_enc c1 c2 c3 c4, c1, c2, c3, rfl⟩
  · rw [e1]; exact n32_enc c1 c2 c3 c4
theorem FZ_zero (s : Bool) : FZ (UInt32.ofNat (FP.Core.encode FP.Core.b32 (.fin s 0 (-149)))) 0 ∧ vf_n32 (UInt32.ofNat (FP.Core.encode FP.Core.b32 (.fin s 0 (-149)))) :=
  ⟨⟨s, 0, -149, dec_enc (by decide) (by omega) (by omega) (Or.inl rfl), by decide, by omega, by omega, by unfold FP.Core.signed; cases s <;> simp⟩, n32_enc (by decide) (by omega) (by omega) (Or.inl rfl)⟩
theorem units_eq {s : Bool} {c : Nat} {q E : Int} (h1 : E ≤ q) (h2 : -149 ≤ E) : FP.Core.signed s (FP.Core.inUnits c q E) * (2 ^ (149 + E).toNat : Nat) = FP.Core.signed s (c * 2 ^ (149 + q).toNat) := by
  rw [← sg_mul]
  congr 1
  unfold FP.Core.inUnits
  rw [Nat.mul_assoc, ← Nat.pow_add]
  congr 2; omega
theorem FZ_sum {D1 D2 : FP.Core.Datum} {x y : Int} (h1 : DZ D1 x) (h2 : DZ D2 y) : (x + y = 0 → FZ (UInt32.ofNat (FP.Core.encode FP.Core.b32 (FP.Core.round FP.Core.b32 (FP.Core.exactSum D1 D2)))) 0 ∧ vf_n32 (UInt32.ofNat (FP.Core.encode FP.Core.b32 (FP.Core.round FP.Core.b32 (FP.Core.exactSum D1 D2))))) ∧
    (∀ A B : Nat, B < 2 ^ 23 → x + y ≠ 0 → A * 2 ^ 141 ≤ (x + y).natAbs → (x + y).natAbs ≤ B * 2 ^ 141 → ∃ z : Nat, A * 2 ^ 141 ≤ z ∧ z ≤ B * 2 ^ 141 ∧ FZ (UInt32.ofNat (FP.Core.encode FP.Core.b32 (FP.Core.round FP.Core.b32 (FP.Core.exactSum D1 D2)))) (FP.Core.signed (decide (x + y < 0)) z) ∧ vf_n32 (UInt32.ofNat (FP.Core.encode FP.Core.b32 (FP.Core.round FP.Core.b32 (FP.Core.exactSum D1 D2))))) := by
  obtain ⟨s, c, q, e1, a1, a2, a3, a4⟩ := h1
  obtain ⟨t, d, r, e2, b1, b2, b3, b4⟩ := h2
  subst e1 e2
  have hu : FP.Core.sumUnits s c q t d r (min q r) * (2 ^ (149 + min q r).toNat : Nat) = x + y := by
    unfold FP.Core.sumUnits
    rw [Int.add_mul, units_eq (by omega) (by omega), units_eq (by omega) (by omega), ← a4, ← b4]
  have hrd : FP.Core.round FP.Core.b32 (FP.Core.exactSum (.fin s c q) (.fin t d r)) = FP.Core.roundRatio FP.Core.b32 (FP.Core.sumSign s t (FP.Core.sumUnits s c q t d r (min q r))) (FP.Core.sumUnits s c q t d r (min q r)).natAbs 1 (min q r) := rfl
  rw [hrd]
  generalize FP.Core.sumUnits s c q t d r (min q r) = u at *
  have hp : (0 : Int) < (2 ^ (149 + min q r).toNat : Nat) := by have := Nat.two_pow_pos (149 + min q r).toNat; omega
  refine ⟨fun h0 => ?_, fun A B hB hne hA hBB => ?_⟩
  · have u0 : u = 0 := by
      rw [h0] at hu
      rcases Int.mul_eq_zero.mp hu with z | z
      · exact z
      · omega
    have : FP.Core.roundRatio FP.Core.b32 (FP.Core.sumSign s t u) u.natAbs 1 (min q r) = .fin (FP.Core.sumSign s t u) 0 (-149) := by
      unfold FP.Core.roundRatio
      rw [if_pos (by rw [u0]; rfl)]; rfl
    rw [this]
    exact FZ_zero _
  · have u0 : u ≠ 0 := fun z => hne (by rw [← hu, z, Int.zero_mul])
    have hab : u.natAbs * 2 ^ (149 + min q r).toNat = (x + y).natAbs := by
      rw [← hu, Int.natAbs_mul]; rfl
    have hsg : FP.Core.sumSign s t u = decide (x + y < 0) := by
      unfold FP.Core.sumSign
      rw [if_neg u0, ← hu]
      congr 1
      rw [eq_iff_iff]
      constructor
      · intro z; exact Int.mul_neg_of_neg_of_pos z hp
      · intro z
        rcases Int.lt_or_le u 0 with w | w
        · exact w
        · have := Int.mul_nonneg w (Int.le_of_lt hp); omega
    have hn : 0 < u.natAbs := by omega
    have hlt : u.natAbs < 2 ^ 200 := by
      have h1 : u.natAbs * 1 ≤ u.natAbs * 2 ^ (149 + min q r).toNat := Nat.mul_le_mul_left _ (Nat.two_pow_pos _)
      have h2 : B * 2 ^ 141 < 2 ^ 23 * 2 ^ 141 := (Nat.mul_lt_mul_right (Nat.two_pow_pos _)).mpr hB
      have h3 : (2 : Nat) ^ 23 * 2 ^ 141 ≤ 2 ^ 200 := by rw [← Nat.pow_add]; exact Nat.pow_le_pow_right (by omega) (by omega)
      omega
    have es : (2 : Nat) ^ (600 + min q r).toNat = 2 ^ (149 + min q r).toNat * 2 ^ 451 := by rw [← Nat.pow_add]; congr 1; omega
    have eA : (2 : Nat) ^ 592 = 2 ^ 141 * 2 ^ 451 := by rw [← Nat.pow_add]
    have := FZ_round (FP.Core.sumSign s t u) (n := u.natAbs) (m := 1) (A := A) (B := B) (e := min q r) hn (by omega) (Nat.lt_of_lt_of_le ((Nat.log2_lt (by omega)).mpr hlt) (by omega)) (by decide) (by omega) (by omega) hB (by
      rw [es, eA, ← Nat.mul_assoc, ← Nat.mul_assoc, Nat.mul_one, hab]
      exact Nat.mul_le_mul_right _ hA) (by
      rw [es, eA, ← Nat.mul_assoc, ← Nat.mul_assoc, Nat.mul_one, hab]
      exact Nat.mul_le_mul_right _ hBB)
    rw [hsg] at this ⊢
    exact this
theorem FZ_i2f {n : Int} (h1 : -30000 ≤ n) (h2 : n ≤ 30000) : FZ (FP.i2f (Int32.ofInt n)) (n * 2 ^ 149) := by
  have e0 : FP.i2f (Int32.ofInt n) = UInt32.ofNat (FP.Core.encode FP.Core.b32 (FP.Core.roundRatio FP.Core.b32 (decide (n < 0)) n.natAbs 1 0)) := by
    show UInt32.ofNat (FP.Core.encode FP.Core.b32 (FP.Core.round FP.Core.b32 (FP.Core.ofInt (Int32.ofInt n).toInt))) = _
    rw [tr32 (by unfold R32; omega)]; rfl
  rw [e0]
  by_cases z : n = 0
  · subst z
    exact (FZ_zero false).1
  · have hlt : n.natAbs < 2 ^ 200 := Nat.lt_of_lt_of_le (show n.natAbs < 2 ^ 15 by omega) (Nat.pow_le_pow_right (by omega) (by omega))
    obtain ⟨w, w1, w2, w3, -⟩ := FZ_round (decide (n < 0)) (n := n.natAbs) (m := 1) (A := 256 * n.natAbs) (B := 256 * n.natAbs) (e := 0) (by omega) (by omega) (Nat.lt_of_lt_of_le ((Nat.log2_lt (by omega)).mpr hlt) (by omega)) (by decide) (by omega) (by omega) (by omega) (by
      rw [Nat.mul_one, show (600 + (0 : Int)).toNat = 8 + 592 from rfl, Nat.pow_add, ← Nat.mul_assoc]
      exact Nat.mul_le_mul_right _ (by omega)) (by
      rw [Nat.mul_one, show (600 + (0 : Int)).toNat = 8 + 592 from rfl, Nat.pow_add, ← Nat.mul_assoc]
      exact Nat.mul_le_mul_right _ (by omega))
    have ew : FP.Core.signed (decide (n < 0)) w = n * 2 ^ 149 := by
      have hw : w = 256 * n.natAbs * 2 ^ 141 := by omega
      have hw2 : (w : Int) = (n.natAbs : Int) * 2 ^ 149 := by
        rw [hw]
        have : (256 * n.natAbs * 2 ^ 141 : Nat) = n.natAbs * 2 ^ 149 := by
          rw [show (2 : Nat) ^ 149 = 256 * 2 ^ 141 by rw [show (256 : Nat) = 2 ^ 8 from rfl, ← Nat.pow_add], ← Nat.mul_assoc, Nat.mul_comm 256]
        rw [this]; exact Int.natCast_mul _ _
      unfold FP.Core.signed
      by_cases hn : n < 0
      · rw [decide_eq_true hn, if_pos rfl, hw2, show (n.natAbs : Int) = -n by omega, Int.neg_mul, Int.neg_neg]
      · rw [decide_eq_false hn, if_neg (by decide), hw2, show (n.natAbs : Int) = n by omega]
    rw [ew] at w3
    exact w3
theorem FZ_f2i {r : UInt32} {z : Int} (h : FZ r z) (hz : z.natAbs < 1000 * 2 ^ 149) : (FP.f2i r).toInt = if z < 0 then -((-z) / 2 ^ 149) else z / 2 ^ 149 := by
  obtain ⟨s, c, q, e, a1, a2, a3, a4⟩ := h
  have e1 : FP.f2i r = Int32.ofInt (max (-2 ^ 31) (min (2 ^ 31 - 1) (FP.Core.truncate s c q))) := by
    show FP.Core.toI (FP.Core.decode FP.Core.b32 r.toNat) = _
    rw [e]; rfl
  have e2 : FP.Core.truncate s c q = FP.Core.signed s (c * 2 ^ (149 + q).toNat / 2 ^ 149) := by
    unfold FP.Core.truncate
    congr 1
    rw [show q.toNat = 0 by omega, Nat.pow_zero, Nat.mul_one, show (2 : Nat) ^ 149 = 2 ^ (-q).toNat * 2 ^ (149 + q).toNat by rw [← Nat.pow_add]; congr 1; omega, Nat.mul_div_mul_right _ _ (Nat.two_pow_pos _)]
  have hab : z.natAbs = c * 2 ^ (149 + q).toNat := by rw [a4, sg_abs]
  rw [← hab] at e2
  have hd : z.natAbs / 2 ^ 149 < 1000 := (Nat.div_lt_iff_lt_mul (Nat.two_pow_pos _)).mpr hz
  have hc : ((z.natAbs / 2 ^ 149 : Nat) : Int) = (z.natAbs : Int) / 2 ^ 149 := Int.natCast_ediv _ _
  have hT : FP.Core.truncate s c q = if z < 0 then -((-z) / 2 ^ 149) else z / 2 ^ 149 := by
    rw [e2]
    unfold FP.Core.signed at a4 ⊢
    cases s with
    | false =>
      rw [if_neg (by decide)] at a4 ⊢
      rw [if_neg (by omega), hc, show (z.natAbs : Int) = z by omega]
    | true =>
      rw [if_pos rfl] at a4 ⊢
      rw [hc]
      by_cases z0 : z < 0
      · rw [if_pos z0, show (z.natAbs : Int) = -z by omega]
      · have : z = 0 := by omega
        rw [if_neg z0, this]; rfl
  have hb : -1000 < FP.Core.truncate s c q ∧ FP.Core.truncate s c q < 1000 := by
    rw [e2]; unfold FP.Core.signed; split <;> omega
  rw [e1, show max (-2 ^ 31) (min (2 ^ 31 - 1) (FP.Core.truncate s c q)) = FP.Core.truncate s c q by omega, tr32 (by unfold R32; omega), hT]
theorem FZ_cmp {a b : UInt32} {x y : Int} (h1 : FZ a x) (h2 : FZ b y) : FP.fcmp a b = some (compare x y) := by
  obtain ⟨s, c, q, e1, a1, a2, a3, a4⟩ := h1
  obtain ⟨t, d, r, e2, b1, b2, b3, b4⟩ := h2
  have hp : (0 : Int) < (2 ^ (149 + min q r).toNat : Nat) := by have := Nat.two_pow_pos (149 + min q r).toNat; omega
  have ex : FP.Core.signed s (FP.Core.inUnits c q (min q r)) * (2 ^ (149 + min q r).toNat : Nat) = x := by rw [units_eq (by omega) (by omega), a4]
  have ey : FP.Core.signed t (FP.Core.inUnits d r (min q r)) * (2 ^ (149 + min q r).toNat : Nat) = y := by rw [units_eq (by omega) (by omega), b4]
  show FP.Core.order (FP.Core.decode FP.Core.b32 a.toNat) (FP.Core.decode FP.Core.b32 b.toNat) = _
  rw [e1, e2]
  show some (compare (FP.Core.signed s (FP.Core.inUnits c q (min q r))) (FP.Core.signed t (FP.Core.inUnits d r (min q r)))) = _
  congr 1
  generalize FP.Core.signed s (FP.Core.inUnits c q (min q r)) = u at *
  generalize FP.Core.signed t (FP.Core.inUnits d r (min q r)) = w at *
  rcases Int.lt_trichotomy u w with z | z | z
  · have h1 : x < y := by rw [← ex, ← ey]; exact Int.mul_lt_mul_of_pos_right z hp
    rw [Int.compare_eq_lt.mpr z, Int.compare_eq_lt.mpr h1]
  · have h1 : x = y := by rw [← ex, ← ey, z]
    rw [Int.compare_eq_eq.mpr z, Int.compare_eq_eq.mpr h1]
  · have h1 : y < x := by rw [← ex, ← ey]; exact Int.mul_lt_mul_of_pos_right z hp
    rw [Int.compare_eq_gt.mpr z, Int.compare_eq_gt.mpr h1]
