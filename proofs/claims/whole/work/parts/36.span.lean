/-! FLOATS: spans -/
theorem p141 : (2 : Nat) ^ 141 = 2787593149816327892691964784081045188247552 := by decide
theorem p149 : (2 : Int) ^ 149 = 713623846352979940529142984724747568191373312 := by decide
theorem p149n : (2 : Nat) ^ 149 = 713623846352979940529142984724747568191373312 := by decide
theorem dec_lt {n : Nat} {s : Bool} {c : Nat} {q : Int} (h : FP.Core.decode FP.Core.b32 n = .fin s c q) : c < 2 ^ 24 := by
  have h0 : FP.Core.fieldT FP.Core.b32 n < 2 ^ 23 := Nat.mod_lt _ (by decide)
  have ht : FP.Core.Fmt.tails FP.Core.b32 = 2 ^ 23 := rfl
  unfold FP.Core.decode at h
  split at h
  · split at h <;> cases h
  · split at h
    · cases h; omega
    · cases h; rw [ht]; omega
/-- half of a span: the float is m, or lies between m - 1 and m, off both by 1 by 256 -/
def HB (f : UInt32) (m : Int) : Prop := ∃ z : Nat, FZ f z ∧ ((z : Int) = m * 2 ^ 149 ∨ ((256 * m - 255) * 2787593149816327892691964784081045188247552 ≤ (z : Int) ∧ (z : Int) ≤ (256 * m - 1) * 2787593149816327892691964784081045188247552))
theorem HB_flo {r : UInt32} {m : Int} {sq : Bool} (h : flo r m sq = true) : HB r m := by
  unfold flo at h
  split at h
  · rename_i c q e
    have hc := dec_lt e
    simp only [Bool.and_eq_true, decide_eq_true_eq] at h
    obtain ⟨⟨h1, h2⟩, h3⟩ := h
    have e9 : (2 : Nat) ^ (149 + q).toNat = 2 ^ (q + 40).toNat * 2 ^ 109 := by rw [← Nat.pow_add]; congr 1; omega
    refine ⟨c * 2 ^ (149 + q).toNat, ⟨false, c, q, e, hc, by omega, h1, rfl⟩, ?_⟩
    have ez : ((c * 2 ^ (149 + q).toNat : Nat) : Int) = (c : Int) * 2 ^ (q + 40).toNat * 649037107316853453566312041152512 := by
      rw [e9, ← Nat.mul_assoc, Int.natCast_mul, Int.natCast_mul]
      have a1 : ((2 ^ (q + 40).toNat : Nat) : Int) = 2 ^ (q + 40).toNat := by norm_cast
      have a2 : ((2 ^ 109 : Nat) : Int) = 649037107316853453566312041152512 := by decide
      rw [a1, a2]
    rw [ez, p149]
    generalize (c : Int) * 2 ^ (q + 40).toNat = u at *
    split at h3
    · left
      have h4 := of_decide_eq_true h3
      rw [show (2 : Int) ^ 40 = 1099511627776 by decide] at h4
      omega
    · right
      simp only [Bool.and_eq_true, decide_eq_true_eq] at h3
      rw [show (2 : Int) ^ 32 = 4294967296 by decide] at h3
      omega
  · cases h
theorem HB_range {f : UInt32} {m : Int} (h : HB f m) (hm : 1 ≤ m) (hm2 : m ≤ 100) : ∃ z : Int, FZ f z ∧ (z = m * 713623846352979940529142984724747568191373312 ∨ ((256 * m - 255) * 2787593149816327892691964784081045188247552 ≤ z ∧ z ≤ (256 * m - 1) * 2787593149816327892691964784081045188247552)) := by
  obtain ⟨z, h1, h2⟩ := h
  rw [p149] at h2
  exact ⟨z, h1, h2⟩
section
variable {d : Nat} {h : PH} {Q : Option PV → PH → Prop}
theorem cmp_l {x y : Int} : (Op.cmpValue (some (compare x y)) .l).toInt = if x < y then -1 else if x = y then 0 else 1 := by
  rcases Int.lt_trichotomy x y with z | z | z
  · rw [Int.compare_eq_lt.mpr z, if_pos z]; rfl
  · rw [Int.compare_eq_eq.mpr z, if_neg (by omega), if_pos z]; rfl
  · rw [Int.compare_eq_gt.mpr z, if_neg (by omega), if_neg (by omega)]; rfl
theorem cmp_g {x y : Int} : (Op.cmpValue (some (compare x y)) .g).toInt = if x < y then -1 else if x = y then 0 else 1 := by
  rcases Int.lt_trichotomy x y with z | z | z
  · rw [Int.compare_eq_lt.mpr z, if_pos z]; rfl
  · rw [Int.compare_eq_eq.mpr z, if_neg (by omega), if_pos z]; rfl
  · rw [Int.compare_eq_gt.mpr z, if_neg (by omega), if_neg (by omega)]; rfl
theorem c_floorOf {r : UInt32} {z : Int} (hz : FZ r z) (h1 : -500 * 713623846352979940529142984724747568191373312 ≤ z) (h2 : z ≤ 500 * 713623846352979940529142984724747568191373312) (hq : Q (some (vI (z / 713623846352979940529142984724747568191373312))) h) : C2 d mX11_floorOf [vF r] h Q := by
  have ht := FZ_f2i hz (by rw [p149n]; omega)
  rw [p149] at ht
  refine EX11_floorOf (BX11_floorOf_0 ?_)
  rw [ht]
  generalize hT : (if z < 0 then -((-z) / 713623846352979940529142984724747568191373312) else z / 713623846352979940529142984724747568191373312) = t
  have hTT : (z < 0 → t = -((-z) / 713623846352979940529142984724747568191373312)) ∧ (0 ≤ z → t = z / 713623846352979940529142984724747568191373312) := ⟨fun a => by rw [if_pos a] at hT; exact hT.symm, fun a => by rw [if_neg (by omega)] at hT; exact hT.symm⟩
  have hi := FZ_i2f (n := t) (by omega) (by omega)
  rw [p149] at hi
  rw [FZ_cmp hi hz, cmp_l]
  refine ⟨fun w => ?_, fun w => ?_⟩
  · have : t = z / 713623846352979940529142984724747568191373312 := by
      split at w
      · omega
      · split at w <;> omega
    rw [this]; exact hq
  · have : w32 (t - 1) = z / 713623846352979940529142984724747568191373312 := by
      rw [w32_r (by omega) (by omega)]
      split at w
      · omega
      · split at w <;> omega
    rw [this]; exact hq
theorem c_ceilOf {r : UInt32} {z : Int} (hz : FZ r z) (h1 : -500 * 713623846352979940529142984724747568191373312 ≤ z) (h2 : z ≤ 500 * 713623846352979940529142984724747568191373312) (hq : Q (some (vI (-((-z) / 713623846352979940529142984724747568191373312)))) h) : C2 d mX11_ceilOf [vF r] h Q := by
  have ht := FZ_f2i hz (by rw [p149n]; omega)
  rw [p149] at ht
  refine EX11_ceilOf (BX11_ceilOf_0 ?_)
  rw [ht]
  generalize hT : (if z < 0 then -((-z) / 713623846352979940529142984724747568191373312) else z / 713623846352979940529142984724747568191373312) = t
  have hTT : (z < 0 → t = -((-z) / 713623846352979940529142984724747568191373312)) ∧ (0 ≤ z → t = z / 713623846352979940529142984724747568191373312) := ⟨fun a => by rw [if_pos a] at hT; exact hT.symm, fun a => by rw [if_neg (by omega)] at hT; exact hT.symm⟩
  have hi := FZ_i2f (n := t) (by omega) (by omega)
  rw [p149] at hi
  rw [FZ_cmp hi hz, cmp_g]
  refine ⟨fun w => ?_, fun w => ?_⟩
  · have : t = -((-z) / 713623846352979940529142984724747568191373312) := by
      split at w
      · omega
      · split at w <;> omega
    rw [this]; exact hq
  · have : w32 (t + 1) = -((-z) / 713623846352979940529142984724747568191373312) := by
      rw [w32_r (by omega) (by omega)]
      split at w
      · omega
      · split at w <;> omega
    rw [this]; exact hq
/-- the sum of two floats, near a whole number or between two -/
theorem sum_near {D1 D2 : FP.Core.Datum} {x y : Int} (h1 : DZ D1 x) (h2 : DZ D2 y) {k : Int} (hk : -400 ≤ k ∧ k ≤ 400) (hxy : x + y = k * 713623846352979940529142984724747568191373312 ∨ ((256 * k + 1) * 2787593149816327892691964784081045188247552 ≤ x + y ∧ x + y ≤ (256 * k + 255) * 2787593149816327892691964784081045188247552)) :
    vf_n32 (UInt32.ofNat (FP.Core.encode FP.Core.b32 (FP.Core.round FP.Core.b32 (FP.Core.exactSum D1 D2)))) ∧ ∃ z, FZ (UInt32.ofNat (FP.Core.encode FP.Core.b32 (FP.Core.round FP.Core.b32 (FP.Core.exactSum D1 D2)))) z ∧ ((x + y = k * 713623846352979940529142984724747568191373312 ∧ z = k * 713623846352979940529142984724747568191373312) ∨ (x + y ≠ k * 713623846352979940529142984724747568191373312 ∧ (256 * k + 1) * 2787593149816327892691964784081045188247552 ≤ z ∧ z ≤ (256 * k + 255) * 2787593149816327892691964784081045188247552)) := by
  obtain ⟨s0, s1⟩ := FZ_sum h1 h2
  rw [p141] at s1
  generalize UInt32.ofNat (FP.Core.encode FP.Core.b32 (FP.Core.round FP.Core.b32 (FP.Core.exactSum D1 D2))) = r at *
  have sgp : ∀ z : Nat, FP.Core.signed false z = (z : Int) := fun z => rfl
  have sgn : ∀ z : Nat, FP.Core.signed true z = -(z : Int) := fun z => rfl
  rcases hxy with e | ⟨e1, e2⟩
  · by_cases k0 : k = 0
    · obtain ⟨a, b⟩ := s0 (by rw [e, k0]; rfl)
      exact ⟨b, 0, a, Or.inl ⟨e, by rw [k0]; rfl⟩⟩
    · obtain ⟨z, z1, z2, z3, z4⟩ := s1 (256 * k.natAbs) (256 * k.natAbs) (by omega) (by omega) (by omega) (by omega)
      refine ⟨z4, _, z3, Or.inl ⟨e, ?_⟩⟩
      by_cases kn : x + y < 0
      · rw [decide_eq_true kn, sgn]; omega
      · rw [decide_eq_false kn, sgp]; omega
  · by_cases kn : x + y < 0
    · obtain ⟨z, z1, z2, z3, z4⟩ := s1 (-(256 * k + 255)).toNat (-(256 * k + 1)).toNat (by omega) (by omega) (by omega) (by omega)
      refine ⟨z4, _, z3, Or.inr ?_⟩
      rw [decide_eq_true kn, sgn]; omega
    · obtain ⟨z, z1, z2, z3, z4⟩ := s1 (256 * k + 1).toNat (256 * k + 255).toNat (by omega) (by omega) (by omega) (by omega)
      refine ⟨z4, _, z3, Or.inr ?_⟩
      rw [decide_eq_false kn, sgp]; omega
def frB : Nat → Nat → Prop := fun q k => q = 247 ∧ (k = 18 ∨ k = 19)
theorem c_spansBy {f : UInt32} {X m : Int} (hX : 0 ≤ X ∧ X ≤ 200) (hm : 1 ≤ m ∧ m ≤ 100) (hf : HB f m) (hq : ∀ h', gi h' 247 18 = X - m → gi h' 247 19 = X + m → fr frB h h' → Q none h') : C2 (d + 1) mX11_spansBy [vR 247, vI X, vF f] h Q := by
  obtain ⟨z, hz, hzr⟩ := HB_range hf hm.1 hm.2
  have hi := FZ_i2f (n := X) (by omega) (by omega)
  rw [p149] at hi
  refine EX11_spansBy fun _ => BX11_spansBy_0 ?_
  obtain ⟨n1, y, y1, y2⟩ := sum_near (D1 := FP.Core.decode FP.Core.b32 (FP.i2f (Int32.ofInt X)).toNat) (D2 := FP.Core.negate (FP.Core.decode FP.Core.b32 f.toNat)) hi (DZ.neg hz) (k := X - m) (by omega) (by omega)
  obtain ⟨n2, w, w1, w2⟩ := sum_near (D1 := FP.Core.decode FP.Core.b32 (FP.i2f (Int32.ofInt X)).toNat) (D2 := FP.Core.decode FP.Core.b32 f.toNat) hi hz (k := if z = m * 713623846352979940529142984724747568191373312 then X + m else X + m - 1) (by split <;> omega) (by split <;> omega)
  refine ⟨n1, c_floorOf y1 (by omega) (by omega) (fun _ h1 e1 => ⟨n2, c_ceilOf w1 (by split at w2 <;> omega) (by split at w2 <;> omega) (fun _ h2 e2 => ?_)⟩)⟩
  subst e1 e2
  refine hq _ ?_ ?_ ((fr.rf.si (by unfold frB; omega)).si (by unfold frB; omega))
  · simp (disch := omega) only [gi_s0, gi_s1, gi_s2, gj_s0, gj_s1, gj_s2, gi_f0, gi_f1, gj_f0, gj_f1, gr_r0, gr_r1, gr_r2, gi_sj, gi_sr, gj_si, gj_sr, gr_si, gr_sj, gr_stI, gj_stI, gi_stJ, gr_stJ]; omega
  · simp (disch := omega) only [gi_s0, gi_s1, gi_s2, gj_s0, gj_s1, gj_s2, gi_f0, gi_f1, gj_f0, gj_f1, gr_r0, gr_r1, gr_r2, gi_sj, gi_sr, gj_si, gj_sr, gr_si, gr_sj, gr_stI, gj_stI, gi_stJ, gr_stJ]; split at w2 <;> omega
theorem n64_vf {r : UInt64} (h : n64 r = true) : vf_n64 r := by unfold n64 at h; unfold vf_n64; exact of_decide_eq_true h
theorem n32_vf {r : UInt32} (h : n32 r = true) : vf_n32 r := by unfold n32 at h; unfold vf_n32; exact of_decide_eq_true h
theorem root_fix {n : Int} {x : UInt64} (hk : nwk (FP.i2d (Int32.ofInt n)) x = true) (he : nw1 (FP.i2d (Int32.ofInt n)) x = x) (hn : vf_n32 (FP.d2f x)) (hq : Q (some (vF (FP.d2f x))) h) : ∀ k j : Nat, j + k = 60 → T2 d mX11_rootOf 5 [some (vI n), some (vD x), none, some (vI (j : Int))] [] h Q := by
  unfold nwk at hk
  simp only [Bool.and_eq_true] at hk
  obtain ⟨⟨k1, k2⟩, k3⟩ := hk
  intro k
  induction k with
  | zero => intro j hj; exact BX11_rootOf_5 ⟨fun _ => ⟨hn, hq⟩, fun z => by omega⟩
  | succ k ih =>
    intro j hj
    refine BX11_rootOf_5 ⟨fun z => by omega, fun _ => ⟨n64_vf k1, n64_vf k2, n64_vf k3, ?_⟩⟩
    have e : FP.ddiv (FP.dadd x (FP.ddiv (FP.i2d (Int32.ofInt n)) x)) 4611686018427387904 = x := he
    rw [e, w32_r (by omega) (by omega), show ((j : Int) + 1) = ((j + 1 : Nat) : Int) by omega]
    exact ih (j + 1) (by omega)
theorem root_loop {n : Int} {y : UInt64} (hn : vf_n32 (FP.d2f y)) (hq : Q (some (vF (FP.d2f y))) h) : ∀ (k j : Nat) (x : UInt64), j + k = 60 → nwl (FP.i2d (Int32.ofInt n)) k x = some y → T2 d mX11_rootOf 5 [some (vI n), some (vD x), none, some (vI (j : Int))] [] h Q := by
  intro k
  induction k with
  | zero =>
    intro j x hj hx
    have e : x = y := Option.some.inj hx
    subst e
    exact BX11_rootOf_5 ⟨fun _ => ⟨hn, hq⟩, fun z => by omega⟩
  | succ k ih =>
    intro j x hj hx
    unfold nwl at hx
    split at hx
    · rename_i hk
      split at hx
      · rename_i he
        have e : x = y := Option.some.inj hx
        subst e
        exact root_fix hk he hn hq (k + 1) j hj
      · have hk2 := hk
        unfold nwk at hk2
        simp only [Bool.and_eq_true] at hk2
        obtain ⟨⟨k1, k2⟩, k3⟩ := hk2
        refine BX11_rootOf_5 ⟨fun z => by omega, fun _ => ⟨n64_vf k1, n64_vf k2, n64_vf k3, ?_⟩⟩
        rw [w32_r (by omega) (by omega), show ((j : Int) + 1) = ((j + 1 : Nat) : Int) by omega]
        exact ih (j + 1) _ (by omega) hx
    · cases hx
theorem chkR_at {a n : Nat} (h : chkR a n = true) {k : Nat} (h1 : a ≤ k) (h2 : k < a + n) (h3 : dsq.testBit k = true) : chkN k = true := by
  have := List.all_eq_true.mp h (k - a) (List.mem_range.mpr (by omega))
  rw [show a + (k - a) = k by omega, h3] at this
  simpa using this
theorem chk_all {k : Nat} (h1 : 1 ≤ k) (h2 : k ≤ 10000) (h3 : dsq.testBit k = true) : chkN k = true := by
  by_cases a1 : k < 581
  · exact chkR_at chk_0 h1 (by omega) h3
  by_cases a2 : k < 1266
  · exact chkR_at chk_1 (by omega) (by omega) h3
  by_cases a3 : k < 2034
  · exact chkR_at chk_2 (by omega) (by omega) h3
  by_cases a4 : k < 2878
  · exact chkR_at chk_3 (by omega) (by omega) h3
  by_cases a5 : k < 3736
  · exact chkR_at chk_4 (by omega) (by omega) h3
  by_cases a6 : k < 4654
  · exact chkR_at chk_5 (by omega) (by omega) h3
  by_cases a7 : k < 5662
  · exact chkR_at chk_6 (by omega) (by omega) h3
  by_cases a8 : k < 6784
  · exact chkR_at chk_7 (by omega) (by omega) h3
  by_cases a9 : k < 8076
  · exact chkR_at chk_8 (by omega) (by omega) h3
  exact chkR_at chk_9 (by omega) (by omega) h3
theorem c_rootOf {r o : Nat} (hr : r ≤ 100) (ho : o < r) (hq : ∀ f, HB f (rtU ((r : Int) * r - (o : Int) * o)) → Q (some (vF f)) h) : C2 d mX11_rootOf [vI ((r : Int) * r - (o : Int) * o)] h Q := by
  have hb : dsq.testBit (r * r - o * o) = true := by
    have h1 := List.all_eq_true.mp dsq_ok r (List.mem_range.mpr (by omega))
    exact List.all_eq_true.mp h1 o (List.mem_range.mpr ho)
  have m1 : o * o < r * r := Nat.mul_lt_mul'' ho ho
  have m2 : r * r ≤ 100 * 100 := Nat.mul_le_mul hr hr
  have hc := chk_all (by omega) (by omega) hb
  have en : (r : Int) * r - (o : Int) * o = ((r * r - o * o : Nat) : Int) := by
    rw [Int.natCast_sub (Nat.le_of_lt m1), Int.natCast_mul, Int.natCast_mul]
  rw [en] at hq ⊢
  generalize r * r - o * o = n at *
  unfold chkN at hc
  cases hx : nwl (FP.i2d (Int32.ofInt n)) 60 (FP.i2d (Int32.ofInt n)) with
  | none => rw [hx] at hc; cases hc
  | some x =>
    rw [hx] at hc
    simp only [Bool.and_eq_true] at hc
    exact EX11_rootOf fun _ => BX11_rootOf_0 (root_loop (n32_vf hc.1) (hq _ (HB_flo hc.2)) 60 0 _ (by omega) hx)
/-- a wedge's half -/
theorem mul_half {w a : Int} (hw : 1 ≤ w ∧ w ≤ 100) (ha : 1 ≤ a ∧ a ≤ 200) : vf_n32 (FP.fmul (FP.i2f (Int32.ofInt w)) (FP.i2f (Int32.ofInt a))) ∧ FZ (FP.fmul (FP.i2f (Int32.ofInt w)) (FP.i2f (Int32.ofInt a))) (w * a * 2 ^ 149) := by
  obtain ⟨s, c, q, e1, a1, a2, a3, a4⟩ := FZ_i2f (n := w) (by omega) (by omega)
  obtain ⟨t, f, r, e2, b1, b2, b3, b4⟩ := FZ_i2f (n := a) (by omega) (by omega)
  have hp1 : ∀ (s : Bool) (n : Nat) (x : Int), 0 < x → x * 2 ^ 149 = FP.Core.signed s n → s = false ∧ (n : Int) = x * 2 ^ 149 := by
    intro s n x hx e
    have hpos : (0 : Int) < x * 2 ^ 149 := Int.mul_pos hx (by decide)
    unfold FP.Core.signed at e
    cases s with
    | false => exact ⟨rfl, e.symm⟩
    | true => rw [if_pos rfl] at e; omega
  obtain ⟨rfl, c1⟩ := hp1 _ _ _ (by omega) a4
  obtain ⟨rfl, c2⟩ := hp1 _ _ _ (by omega) b4
  obtain ⟨W, hW⟩ := ex_nat (x := w) (by omega)
  obtain ⟨A, hA⟩ := ex_nat (x := a) (by omega)
  subst hW hA
  have c1' : c * 2 ^ (149 + q).toNat = W * 2 ^ 149 := by
    have : ((c * 2 ^ (149 + q).toNat : Nat) : Int) = ((W * 2 ^ 149 : Nat) : Int) := by rw [c1]; norm_cast
    exact_mod_cast this
  have c2' : f * 2 ^ (149 + r).toNat = A * 2 ^ 149 := by
    have : ((f * 2 ^ (149 + r).toNat : Nat) : Int) = ((A * 2 ^ 149 : Nat) : Int) := by rw [c2]; norm_cast
    exact_mod_cast this
  have hcp : 0 < c := by
    rcases Nat.eq_zero_or_pos c with z | z
    · rw [z, Nat.zero_mul] at c1'
      have : 0 < W * 2 ^ 149 := Nat.mul_pos (by omega) (Nat.two_pow_pos _)
      omega
    · exact z
  have hfp : 0 < f := by
    rcases Nat.eq_zero_or_pos f with z | z
    · rw [z, Nat.zero_mul] at c2'
      have : 0 < A * 2 ^ 149 := Nat.mul_pos (by omega) (Nat.two_pow_pos _)
      omega
    · exact z
  have hprod : c * f * 2 ^ (600 + (q + r)).toNat = 256 * (W * A) * 1 * 2 ^ 592 := by
    have e3 : (2 : Nat) ^ (600 + (q + r)).toNat = 2 ^ (149 + q).toNat * 2 ^ (149 + r).toNat * 2 ^ 302 := by rw [← Nat.pow_add, ← Nat.pow_add]; congr 1; omega
    calc c * f * 2 ^ (600 + (q + r)).toNat = (c * 2 ^ (149 + q).toNat) * (f * 2 ^ (149 + r).toNat) * 2 ^ 302 := by rw [e3]; simp only [Nat.mul_assoc, Nat.mul_comm, Nat.mul_left_comm]
      _ = (W * 2 ^ 149) * (A * 2 ^ 149) * 2 ^ 302 := by rw [c1', c2']
      _ = (W * A) * (2 ^ 149 * 2 ^ 149 * 2 ^ 302) := by simp only [Nat.mul_assoc, Nat.mul_comm, Nat.mul_left_comm]
      _ = (W * A) * (256 * 2 ^ 592) := by rw [← Nat.pow_add, ← Nat.pow_add, show (256 : Nat) = 2 ^ 8 from rfl, ← Nat.pow_add]
      _ = 256 * (W * A) * 1 * 2 ^ 592 := by simp only [Nat.mul_assoc, Nat.mul_comm, Nat.mul_left_comm, Nat.mul_one, Nat.one_mul]
  have hWA : W * A ≤ 100 * 200 := Nat.mul_le_mul (by omega) (by omega)
  have hcf : c * f < 2 ^ 24 * 2 ^ 24 := Nat.mul_lt_mul'' a1 b1
  have hlog : (c * f).log2 < 500 := Nat.lt_of_lt_of_le ((Nat.log2_lt (by have := Nat.mul_pos hcp hfp; omega)).mpr (Nat.lt_of_lt_of_le hcf (by rw [← Nat.pow_add]; exact Nat.pow_le_pow_right (n := 2) (by omega) (show 24 + 24 ≤ 48 by omega)))) (by omega)
  obtain ⟨z, z1, z2, z3, z4⟩ := FZ_round false (n := c * f) (m := 1) (A := 256 * (W * A)) (B := 256 * (W * A)) (e := q + r) (Nat.mul_pos hcp hfp) (by omega) hlog (by decide) (by omega) (by omega) (by omega) (Nat.le_of_eq hprod.symm) (Nat.le_of_eq hprod)
  have em : FP.fmul (FP.i2f (Int32.ofInt (W : Int))) (FP.i2f (Int32.ofInt (A : Int))) = UInt32.ofNat (FP.Core.encode FP.Core.b32 (FP.Core.roundRatio FP.Core.b32 false (c * f) 1 (q + r))) := by
    show UInt32.ofNat (FP.Core.encode FP.Core.b32 (FP.Core.round FP.Core.b32 (FP.Core.exactProduct (FP.Core.decode FP.Core.b32 (FP.i2f (Int32.ofInt (W : Int))).toNat) (FP.Core.decode FP.Core.b32 (FP.i2f (Int32.ofInt (A : Int))).toNat)))) = _
    rw [e1, e2]; rfl
  rw [em]
  refine ⟨z4, ?_⟩
  have ez : FP.Core.signed false z = (W : Int) * A * 2 ^ 149 := by
    have h1 : z = W * A * 2 ^ 149 := by
      rw [p149n]; rw [p141] at z1 z2
      generalize W * A = U at *
      omega
    show (z : Int) = _
    rw [h1]; norm_cast
  rw [ez] at z3
  exact z3
theorem div_half {f : UInt32} {p w : Int} {m : Int} (hf : FZ f (p * 2 ^ 149)) (hp : 1 ≤ p ∧ p ≤ 20000) (hw : 1 ≤ w ∧ w ≤ 200) (hm : m = (p + w - 1) / w) (hm2 : m ≤ 100) : vf_n32 (FP.fdiv f (FP.i2f (Int32.ofInt w))) ∧ HB (FP.fdiv f (FP.i2f (Int32.ofInt w))) m := by
  obtain ⟨s, c, q, e1, a1, a2, a3, a4⟩ := hf
  obtain ⟨t, g, r, e2, b1, b2, b3, b4⟩ := FZ_i2f (n := w) (by omega) (by omega)
  have hp1 : ∀ (s : Bool) (n : Nat) (x : Int), 0 < x → x * 2 ^ 149 = FP.Core.signed s n → s = false ∧ (n : Int) = x * 2 ^ 149 := by
    intro s n x hx e
    have hpos : (0 : Int) < x * 2 ^ 149 := Int.mul_pos hx (by decide)
    unfold FP.Core.signed at e
    cases s with
    | false => exact ⟨rfl, e.symm⟩
    | true => rw [if_pos rfl] at e; omega
  obtain ⟨rfl, c1⟩ := hp1 _ _ _ (by omega) a4
  obtain ⟨rfl, c2⟩ := hp1 _ _ _ (by omega) b4
  obtain ⟨P, hP⟩ := ex_nat (x := p) (by omega)
  obtain ⟨H, hH⟩ := ex_nat (x := w) (by omega)
  subst hP hH
  have c1' : c * 2 ^ (149 + q).toNat = P * 2 ^ 149 := by
    have : ((c * 2 ^ (149 + q).toNat : Nat) : Int) = ((P * 2 ^ 149 : Nat) : Int) := by rw [c1]; norm_cast
    exact_mod_cast this
  have c2' : g * 2 ^ (149 + r).toNat = H * 2 ^ 149 := by
    have : ((g * 2 ^ (149 + r).toNat : Nat) : Int) = ((H * 2 ^ 149 : Nat) : Int) := by rw [c2]; norm_cast
    exact_mod_cast this
  have hcp : 0 < c := by
    rcases Nat.eq_zero_or_pos c with z | z
    · rw [z, Nat.zero_mul] at c1'
      have : 0 < P * 2 ^ 149 := Nat.mul_pos (by omega) (Nat.two_pow_pos _)
      omega
    · exact z
  have hgp : 0 < g := by
    rcases Nat.eq_zero_or_pos g with z | z
    · rw [z, Nat.zero_mul] at c2'
      have : 0 < H * 2 ^ 149 := Nat.mul_pos (by omega) (Nat.two_pow_pos _)
      omega
    · exact z
  have l1 : c.log2 < 500 := Nat.lt_of_lt_of_le ((Nat.log2_lt (by omega)).mpr a1) (by omega)
  have l2 : g.log2 < 500 := Nat.lt_of_lt_of_le ((Nat.log2_lt (by omega)).mpr b1) (by omega)
  -- c by g times 2 to the q - r is P by H
  have cross : ∀ K : Nat, K * H ≤ 256 * P → K * g * 2 ^ 592 ≤ c * 2 ^ (600 + (q - r)).toNat := by
    intro K hK
    refine Nat.le_of_mul_le_mul_right (c := 2 ^ (149 + r).toNat) ?_ (Nat.two_pow_pos _)
    have e3 : c * 2 ^ (600 + (q - r)).toNat * 2 ^ (149 + r).toNat = P * 256 * (2 ^ 149 * 2 ^ 592) := by
      calc c * 2 ^ (600 + (q - r)).toNat * 2 ^ (149 + r).toNat = c * 2 ^ (149 + q).toNat * 2 ^ 600 := by rw [Nat.mul_assoc, Nat.mul_assoc, ← Nat.pow_add, ← Nat.pow_add]; congr 2; omega
        _ = P * 2 ^ 149 * 2 ^ 600 := by rw [c1']
        _ = P * 256 * (2 ^ 149 * 2 ^ 592) := by rw [show (2 : Nat) ^ 600 = 256 * 2 ^ 592 by rw [show (256 : Nat) = 2 ^ 8 from rfl, ← Nat.pow_add]]; simp only [Nat.mul_assoc, Nat.mul_comm, Nat.mul_left_comm]
    have e4 : K * g * 2 ^ 592 * 2 ^ (149 + r).toNat = K * H * (2 ^ 149 * 2 ^ 592) := by
      calc K * g * 2 ^ 592 * 2 ^ (149 + r).toNat = K * (g * 2 ^ (149 + r).toNat) * 2 ^ 592 := by simp only [Nat.mul_assoc, Nat.mul_comm, Nat.mul_left_comm]
        _ = K * (H * 2 ^ 149) * 2 ^ 592 := by rw [c2']
        _ = K * H * (2 ^ 149 * 2 ^ 592) := by simp only [Nat.mul_assoc]
    rw [e3, e4]
    exact Nat.mul_le_mul_right _ (by omega)
  have cross2 : ∀ K : Nat, 256 * P ≤ K * H → c * 2 ^ (600 + (q - r)).toNat ≤ K * g * 2 ^ 592 := by
    intro K hK
    refine Nat.le_of_mul_le_mul_right (c := 2 ^ (149 + r).toNat) ?_ (Nat.two_pow_pos _)
    have e3 : c * 2 ^ (600 + (q - r)).toNat * 2 ^ (149 + r).toNat = P * 256 * (2 ^ 149 * 2 ^ 592) := by
      calc c * 2 ^ (600 + (q - r)).toNat * 2 ^ (149 + r).toNat = c * 2 ^ (149 + q).toNat * 2 ^ 600 := by rw [Nat.mul_assoc, Nat.mul_assoc, ← Nat.pow_add, ← Nat.pow_add]; congr 2; omega
        _ = P * 2 ^ 149 * 2 ^ 600 := by rw [c1']
        _ = P * 256 * (2 ^ 149 * 2 ^ 592) := by rw [show (2 : Nat) ^ 600 = 256 * 2 ^ 592 by rw [show (256 : Nat) = 2 ^ 8 from rfl, ← Nat.pow_add]]; simp only [Nat.mul_assoc, Nat.mul_comm, Nat.mul_left_comm]
    have e4 : K * g * 2 ^ 592 * 2 ^ (149 + r).toNat = K * H * (2 ^ 149 * 2 ^ 592) := by
      calc K * g * 2 ^ 592 * 2 ^ (149 + r).toNat = K * (g * 2 ^ (149 + r).toNat) * 2 ^ 592 := by simp only [Nat.mul_assoc, Nat.mul_comm, Nat.mul_left_comm]
        _ = K * (H * 2 ^ 149) * 2 ^ 592 := by rw [c2']
        _ = K * H * (2 ^ 149 * 2 ^ 592) := by simp only [Nat.mul_assoc]
    rw [e3, e4]
    exact Nat.mul_le_mul_right _ (by omega)
  have em : FP.fdiv f (FP.i2f (Int32.ofInt (H : Int))) = UInt32.ofNat (FP.Core.encode FP.Core.b32 (FP.Core.roundRatio FP.Core.b32 false c g (q - r))) := by
    show UInt32.ofNat (FP.Core.encode FP.Core.b32 (FP.Core.quotient FP.Core.b32 (FP.Core.decode FP.Core.b32 f.toNat) (FP.Core.decode FP.Core.b32 (FP.i2f (Int32.ofInt (H : Int))).toNat))) = _
    rw [e1, e2]
    show UInt32.ofNat (FP.Core.encode FP.Core.b32 (if g = 0 then _ else FP.Core.roundRatio FP.Core.b32 false c g (q - r))) = _
    rw [if_neg (by omega)]
  rw [em]
  have hm1 : 1 ≤ m := by rw [hm]; exact (Int.le_ediv_iff_mul_le (by omega)).mpr (by omega)
  obtain ⟨M, hM⟩ := ex_nat (x := m) (by omega)
  subst hM
  -- (M - 1) H < P ≤ M H
  have q1 : P ≤ M * H := by
    have h1 : (P : Int) + H - 1 < ((M : Int) + 1) * H := by
      have := Int.lt_ediv_add_one_mul_self ((P : Int) + H - 1) (show (0 : Int) < H by omega)
      rw [← hm] at this; exact this
    rw [Int.add_mul] at h1
    have : (P : Int) ≤ (M : Int) * H := by omega
    exact_mod_cast this
  have q2 : (M - 1) * H < P := by
    have h1 : (M : Int) * H ≤ (P : Int) + H - 1 := by
      have := Int.ediv_mul_le ((P : Int) + H - 1) (show (H : Int) ≠ 0 by omega)
      rw [← hm] at this; exact this
    have h2 : ((M - 1 : Nat) : Int) * H = (M : Int) * H - H := by
      rw [show ((M - 1 : Nat) : Int) = (M : Int) - 1 by omega, Int.sub_mul, Int.one_mul]
    have : ((M - 1 : Nat) : Int) * H < (P : Int) := by omega
    exact_mod_cast this
  by_cases z : P = M * H
  · obtain ⟨z, z1, z2, z3, z4⟩ := FZ_round false (n := c) (m := g) (A := 256 * M) (B := 256 * M) (e := q - r) hcp hgp l1 l2 (by omega) (by omega) (by omega) (cross _ (by rw [Nat.mul_assoc, ← z]; omega)) (cross2 _ (by rw [Nat.mul_assoc, ← z]; omega))
    refine ⟨z4, z, z3, Or.inl ?_⟩
    rw [p149]; rw [p141] at z1 z2
    omega
  · obtain ⟨M', rfl⟩ : ∃ M', M = M' + 1 := ⟨M - 1, by omega⟩
    rw [Nat.add_sub_cancel] at q2
    have hMH : (M' + 1) * H = M' * H + H := by rw [Nat.add_mul, Nat.one_mul]
    have k1 : (256 * M' + 1) * H = 256 * (M' * H) + H := by rw [Nat.add_mul, Nat.one_mul, Nat.mul_assoc]
    have k2 : (256 * M' + 255) * H = 256 * (M' * H) + 255 * H := by rw [Nat.add_mul, Nat.mul_assoc]
    obtain ⟨z, z1, z2, z3, z4⟩ := FZ_round false (n := c) (m := g) (A := 256 * M' + 1) (B := 256 * M' + 255) (e := q - r) hcp hgp l1 l2 (by omega) (by omega) (by omega) (cross _ (by rw [k1]; omega)) (cross2 _ (by rw [k2]; omega))
    refine ⟨z4, z, z3, Or.inr ?_⟩
    rw [p141] at z1 z2
    omega
end
