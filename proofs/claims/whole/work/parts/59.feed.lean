/-! THE CLASS: feeding -/
theorem iand255e (a : Int) : iand a 255 = a % 256 := by
  unfold iand
  show ((Int32.ofInt a).toBitVec &&& (Int32.ofInt 255).toBitVec).toInt = _
  have e : ((Int32.ofInt a).toBitVec &&& (Int32.ofInt 255).toBitVec).toNat = (a % 256).toNat := by
    rw [BitVec.toNat_and]
    show (BitVec.ofInt 32 a).toNat &&& 255 = _
    rw [BitVec.toNat_ofInt, show 255 = 2 ^ 8 - 1 from rfl, Nat.and_two_pow_sub_one_eq_mod]
    omega
  rw [BitVec.toInt_eq_toNat_cond, e, if_pos (by omega)]
  omega
theorem i2b_sb (a : Int) : i2b a = sb (iand a 255) := by
  rw [iand255e]
  unfold i2b sb
  rw [Int8.toInt_toInt32, Int32.toInt_toInt8, Int32.toInt_ofInt]
  have e1 : (a.bmod Int32.size).bmod (2 ^ 8) = a.bmod (2 ^ 8) := Int.bmod_bmod_of_dvd (by decide)
  rw [e1, Int.bmod_def]
  have e2 : ((2 ^ 8 : Nat) : Int) = 256 := rfl
  rw [e2]
  by_cases z : a % 256 < 128
  · rw [if_pos z, if_pos (by omega)]
  · rw [if_neg z, if_neg (by omega)]
theorem i2b_tw (a : Int) : i2b (i2b a) = i2b a := by
  rw [i2b_sb, i2b_sb, iand255e, iand255e]
  unfold sb
  split <;> split <;> omega
theorem bit_ishr {a : Int} {n i : Nat} (hn : n < 32) (hi : i < 32) : bit (ishr a (n : Int)) i = if n + i < 32 then bit a (n + i) else bit a 31 := by
  unfold bit ishr; rw [oi32, ofInt_nI, b_sshr n hn _ hi]
theorem byt_eq {x : Int} {s : Nat} (hs : s ≤ 24) : i2b (i2b (iushr x (s : Int))) = sb (iand (ishr x (s : Int)) 255) := by
  rw [i2b_tw, i2b_sb]
  congr 1
  refine bit_ext (R32_iand _ _) (R32_iand _ _) (fun i hi => ?_)
  rw [bit_iand, bit_iand, bit_ushr (by omega), bit_ishr (by omega) hi]
  have e : bit 255 i = decide (i < 8) := b_255 i
  rw [e]
  by_cases z : i < 8
  · rw [if_pos (by omega)]
  · rw [decide_eq_false z, Bool.and_false, Bool.and_false]
def frTp : Nat → Nat → Prop := fun q k => q = 65 ∨ (q = 64 ∧ k = 1)
theorem RCa.newTp {h h' : PH} {A : AS} {a : Nat} {pt : Nat → PG} {n : Nat} {tp : Nat → Int} (x : RCa h A a pt) (hF : fr frTp h h') (hok : AOK ((n, tp), A.2)) (hT : gi h' 64 1 = n ∧ ∀ i, i < n → gi h' 65 i = sb (tp i)) : RCa h' ((n, tp), A.2) a pt := by
  obtain ⟨ok, ⟨a1, a2, a3⟩, ⟨b1, b2⟩, ⟨c1, c2⟩, d1, e1', f1, g1, s1, t1, u1⟩ := x
  obtain ⟨pc, pu, pl⟩ := pg_cl a1
  have G : ∀ q k, ¬ frTp q k → gi h' q k = gi h q k := hF.1
  refine ⟨hok, ⟨a1, by rw [G _ _ (by unfold frTp; omega)]; exact a2, a3⟩, hT, ⟨by rw [G _ _ (by unfold frTp; omega)]; exact c1, by rw [G _ _ (by unfold frTp; omega)]; exact c2⟩, d1.keep (fun q k z1 z2 => G _ _ (by unfold frTp; omega)), e1'.keep (fun q k z1 z2 => G _ _ (by unfold frTp; omega)), ?_, fun i hi => ⟨fun z => ?_, fun gs z => ?_⟩, ?_, ⟨fun i hi => ⟨fun z => ?_, fun z => ?_⟩, fun j hj => ?_⟩, ⟨fun z => ?_, fun z => ?_, fun j hj => ?_⟩⟩
  · obtain ⟨n, m1, m2, m3, m4⟩ := f1
    exact ⟨n, m1, by rw [G _ _ (by unfold frTp; omega)]; exact m2, by rw [G _ _ (by unfold frTp; omega)]; exact m3, fun i hi => (m4 i hi).keep (fun q k z1 z2 => G _ _ (by unfold frTp; omega))⟩
  · rw [G _ _ (by unfold frTp; omega)]; exact (g1 i hi).1 z
  · obtain ⟨b, q1, q2, q3, q4, q5⟩ := (g1 i hi).2 gs z
    exact ⟨b, q1, by rw [G _ _ (by unfold frTp; omega)]; exact q2, q3, q4.keep (fun q k z1 z2 => G _ _ (by unfold frTp; unfold pg at z1; omega)), q5.keep (fun q k z1 z2 => G _ _ (by unfold frTp; omega))⟩
  · rcases s1 with z | ⟨z0, z1, z2, z3, z4, z5⟩
    · left; rw [G _ _ (by unfold frTp; omega)]; exact z
    · right
      have e219 : ∀ q k, 66 ≤ q → gi h' q k = gi h q k := fun q k y1 => G _ _ (by unfold frTp; omega)
      obtain ⟨x1, ⟨x2, x3, x4⟩, x5, x6, x7⟩ := z1
      refine ⟨by rw [G _ _ (by unfold frTp; omega)]; exact z0, ⟨x1, ⟨?_, ?_, ?_⟩, x5.keep (fun q k z => e219 _ _ (by omega)), x6, x7⟩, z2.keep (fun q k y1 y2 => e219 q k (by omega)), z3.keep (fun q k y => e219 q k (by omega)), by rw [e219 _ _ (by omega)]; exact z4, by rw [e219 _ _ (by omega)]; exact z5⟩
      · rw [hF.2.2 _ _ (by unfold frTp; omega)]; exact x2
      · rw [hF.2.2 _ _ (by unfold frTp; omega)]; exact x3
      · rw [e219 _ _ (by omega)]; exact x4
  · rw [G _ _ (by unfold frTp; omega)]; exact (t1.1 i hi).1 z
  · rw [G _ _ (by unfold frTp; omega), G _ _ (by unfold frTp; omega)]; exact (t1.1 i hi).2 z
  · rw [hF.2.1 _ _ (by unfold frTp; omega)]; exact t1.2 j hj
  · rw [G _ _ (by unfold frTp; omega)]; exact u1.1 z
  · rw [G _ _ (by unfold frTp; omega), G _ _ (by unfold frTp; omega)]; exact u1.2.1 z
  · rw [G _ _ (by unfold frTp; omega), G _ _ (by unfold frTp; omega)]; exact u1.2.2 j hj
def bts (a b c d e : Int) (j : Nat) : Int := iand (ishr (if j < 4 then a else if j < 8 then b else if j < 12 then c else if j < 16 then d else e) (24 - 8 * ((j % 4 : Nat) : Int))) 255
def tpU (A : AS) (w : Nat → Int) (k : Nat) : Nat → Int := fun i => if A_n A ≤ i ∧ i < A_n A + k then w (i - A_n A) else A_tp A i
def o_feed (A : AS) (a b c d e : Int) : Int × AS := if 900 < A_n A + 20 then (-5, A) else (((A_n A + 20 : Nat) : Int), ((A_n A + 20, tpU A (bts a b c d e) 20), A.2))
section
variable {d : Nat} {h : PH} {Q : Option PV → PH → Prop}
variable {A : AS} {a : Nat} {pt : Nat → PG}
theorem put_loop {x : Int} {n : Nat} (hn : n + 4 ≤ 900) (h0 : PH) (hq : ∀ h', gi h' 64 1 = ((n + 4 : Nat) : Int) → (∀ i, i < 4 → gi h' 65 (n + i) = sb (iand (ishr x (24 - 8 * (i : Int))) 255)) → (∀ i, i < n → gi h' 65 i = gi h0 65 i) → fr frTp h0 h' → Q none h') :
    ∀ (m j : Nat) (h : PH), m + j = 4 → gi h 64 1 = ((n + j : Nat) : Int) → (∀ i, i < j → gi h 65 (n + i) = sb (iand (ishr x (24 - 8 * (i : Int))) 255)) → (∀ i, i < n → gi h 65 i = gi h0 65 i) → fr frTp h0 h → T2 d mX10_putBytes 3 [some (vR 64), some (vI x), some (vI (8 * (m : Int) - 8))] [] h Q := by
  intro m
  induction m with
  | zero =>
    intro j h hj h1 h2 h3 hF
    refine BX10_putBytes_3 ⟨fun _ => ?_, fun z => by omega⟩
    have ej : j = 4 := by omega
    subst ej
    exact hq h h1 h2 h3 hF
  | succ m ih =>
    intro j h hj h1 h2 h3 hF
    refine BX10_putBytes_3 ⟨fun z => by omega, fun _ => ⟨fun z => by rw [h1] at z; omega, fun _ => ⟨by rw [h1]; omega, fun h4 e4 h5 e5 => ?_⟩⟩⟩
    subst e4 e5
    rw [h1, gi_s1 (by omega), h1, w32_r (x := ((n + j : Nat) : Int) + 1) (by omega) (by omega), w32_r (x := 8 * ((m + 1 : Nat) : Int) - 8 + -8) (by omega) (by omega), show 8 * ((m + 1 : Nat) : Int) - 8 + -8 = 8 * (m : Int) - 8 by omega]
    try simp only [Int.toNat_natCast]
    refine ih (j + 1) _ (by omega) ?_ (fun i hi => ?_) (fun i hi => ?_) ((hF.si (by unfold frTp; omega)).si (by unfold frTp; omega))
    · rw [gi_s0]; omega
    · rw [gi_s1 (by omega)]
      by_cases ei : i = j
      · subst ei
        rw [gi_s0, show 8 * ((m + 1 : Nat) : Int) - 8 = ((24 - 8 * i : Nat) : Int) by omega, byt_eq (by omega), show 24 - 8 * (i : Int) = ((24 - 8 * i : Nat) : Int) by omega]
      · rw [gi_s2 (by omega)]; exact h2 i (by omega)
    · rw [gi_s1 (by omega), gi_s2 (by omega)]; exact h3 i hi
theorem c_putBytes {x : Int} {n : Nat} (hn : n + 4 ≤ 900) (h1 : gi h 64 1 = (n : Int)) (hq : ∀ h', gi h' 64 1 = ((n + 4 : Nat) : Int) → (∀ i, i < 4 → gi h' 65 (n + i) = sb (iand (ishr x (24 - 8 * (i : Int))) 255)) → (∀ i, i < n → gi h' 65 i = gi h 65 i) → fr frTp h h' → Q none h') : C2 d mX10_putBytes [vR 64, vI x] h Q := by
  refine EX10_putBytes fun _ => BX10_putBytes_0 ?_
  have := put_loop (d := d) (x := x) hn h hq 4 0 h (by omega) h1 (fun i hi => by omega) (fun i hi => rfl) fr.rf
  exact this
theorem k_feed (X : RC h A) {x1 x2 x3 x4 x5 : Int} (hq : ∀ h', RC h' (o_feed A x1 x2 x3 x4 x5).2 → fr frCl h h' → Q (some (vI (o_feed A x1 x2 x3 x4 x5).1)) h') : C2 (d + 1) mX10_feed [vR 64, vI x1, vI x2, vI x3, vI x4, vI x5] h Q := by
  have hX := X
  obtain ⟨a, pt, X⟩ := X
  obtain ⟨b1, b2⟩ := X.2.2.1
  have o5 := X.1.2.2.2.2.1
  refine EX10_feed fun _ _ _ _ _ => BX10_feed_0 ?_
  rw [b1, w32_r (by omega) (by omega)]
  refine ⟨fun z => ?_, fun z => ?_⟩
  · unfold o_feed at hq
    rw [if_neg (by omega)] at hq
    refine c_putBytes (n := A_n A) (by omega) b1 (fun h1 p1 p2 p3 p4 => ⟨rfl, ?_⟩)
    refine c_putBytes (n := A_n A + 4) (by omega) p1 (fun h2 q1 q2 q3 q4 => ⟨rfl, ?_⟩)
    refine c_putBytes (n := A_n A + 4 + 4) (by omega) q1 (fun h3 r1 r2 r3 r4 => ⟨rfl, ?_⟩)
    refine c_putBytes (n := A_n A + 4 + 4 + 4) (by omega) r1 (fun h4 s1 s2 s3 s4 => ⟨rfl, ?_⟩)
    refine c_putBytes (n := A_n A + 4 + 4 + 4 + 4) (by omega) s1 (fun h5 t1 t2 t3 t4 => ⟨rfl, ?_⟩)
    have F : fr frTp h h5 := (((p4.tr q4).tr r4).tr s4).tr t4
    have e5 : gi h5 64 1 = ((A_n A + 20 : Nat) : Int) := by rw [t1]
    dsimp only
    rw [e5]
    refine hq h5 ⟨a, pt, X.newTp F ?_ ⟨e5, fun i hi => ?_⟩⟩ (F.mono (fun q k z => by unfold frTp at z; unfold frCl; omega))
    · refine ⟨X.1.1, X.1.2.1, X.1.2.2.1, X.1.2.2.2.1, ⟨?_, fun i => ?_⟩, X.1.2.2.2.2.2⟩
      · show A_n A + 20 ≤ 900
        omega
      · show 0 ≤ tpU A (bts x1 x2 x3 x4 x5) 20 i ∧ tpU A (bts x1 x2 x3 x4 x5) 20 i ≤ 255
        unfold tpU
        split
        · unfold bts
          rw [iand255e]; omega
        · exact o5.2 i
    · unfold tpU
      by_cases c0 : i < A_n A
      · rw [if_neg (by omega), t3 i (by omega), s3 i (by omega), r3 i (by omega), q3 i (by omega), p3 i c0]; exact b2 i c0
      · rw [if_pos (by omega)]
        obtain ⟨j, hj⟩ : ∃ j, i = A_n A + j := ⟨i - A_n A, by omega⟩
        subst hj
        rw [show A_n A + j - A_n A = j by omega]
        unfold bts
        by_cases c1 : j < 4
        · rw [if_pos c1, t3 _ (by omega), s3 _ (by omega), r3 _ (by omega), q3 _ (by omega), p2 j c1, show j % 4 = j by omega]
        · rw [if_neg c1]
          by_cases c2 : j < 8
          · rw [if_pos c2, t3 _ (by omega), s3 _ (by omega), r3 _ (by omega), show A_n A + j = A_n A + 4 + (j - 4) by omega, q2 (j - 4) (by omega), show j % 4 = j - 4 by omega]
          · rw [if_neg c2]
            by_cases c3 : j < 12
            · rw [if_pos c3, t3 _ (by omega), s3 _ (by omega), show A_n A + j = A_n A + 4 + 4 + (j - 8) by omega, r2 (j - 8) (by omega), show j % 4 = j - 8 by omega]
            · rw [if_neg c3]
              by_cases c4 : j < 16
              · rw [if_pos c4, t3 _ (by omega), show A_n A + j = A_n A + 4 + 4 + 4 + (j - 12) by omega, s2 (j - 12) (by omega), show j % 4 = j - 12 by omega]
              · rw [if_neg c4, show A_n A + j = A_n A + 4 + 4 + 4 + 4 + (j - 16) by omega, t2 (j - 16) (by omega), show j % 4 = j - 16 by omega]
  · unfold o_feed at hq
    rw [if_pos (by omega)] at hq
    exact hq h hX fr.rf
end
