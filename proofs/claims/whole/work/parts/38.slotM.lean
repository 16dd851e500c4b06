/-! THE MODEL: spans, slots -/
def frN : Nat → Nat → Prop := fun q k => (252 ≤ q ∧ q ≤ 264) ∨ (q = 247 ∧ (k = 18 ∨ k = 19 ∨ k = 31 ∨ k = 35 ∨ k = 36 ∨ k = 37))
/-- the model's page and state, as they are asked: the width, the hidden words, the shape aside -/
def MC (h : PH) (g : PG) (st : Nat → Int) (wi asd : Int) : Prop := POK g ∧ SOK g st ∧ RMp h 0 g ∧ (∀ k, k < 20 → k ≠ 18 → gi h 248 (91 + k) = st k) ∧ gi h 247 21 = st 18 ∧ gi h 247 20 = wi ∧ (∀ s, s < 32 → bit (gi h 247 22) s = decide ((s : Int) = asd)) ∧ 0 ≤ wi ∧ wi ≤ 200
theorem MC.keep {h h' : PH} {g : PG} {st : Nat → Int} {wi asd : Int} (a : MC h g st wi asd) (hF : fr frN h h') : MC h' g st wi asd := by
  obtain ⟨a1, a2, a3, a4, a5, a6, a7, a8, a9⟩ := a
  have e : ∀ j, gi h' 248 j = gi h 248 j := fun j => hF.1 _ _ (by unfold frN; omega)
  refine ⟨a1, a2, a3.keep a1 (fun j _ _ => e _), fun k h1 h2 => by rw [e]; exact a4 k h1 h2, ?_, ?_, fun s hs => ?_, a8, a9⟩
  · rw [hF.1 _ _ (by unfold frN; omega)]; exact a5
  · rw [hF.1 _ _ (by unfold frN; omega)]; exact a6
  · rw [hF.1 _ _ (by unfold frN; omega)]; exact a7 s hs
theorem MC.vw {h : PH} {g : PG} {st : Nat → Int} {wi asd : Int} (a : MC h g st wi asd) : VOK (vw g st) ∧ (gi h 248 2 = v_ln (vw g st) ∧ gi h 248 3 = v_hi (vw g st) ∧ gi h 248 4 = v_le (vw g st) ∧ gi h 248 5 = v_S (vw g st) ∧ gi h 248 6 = v_W (vw g st) ∧ gi h 248 110 = ((st 19).toNat : Nat) ∧ (st 19).toNat ≤ 9) ∧ (∀ i, i < v_S (vw g st) → gi h 248 (13 + i) = v_kd (vw g st) i ∧ gi h 248 (19 + i) = v_ac (vw g st) i ∧ gi h 248 (25 + i) = v_tl (vw g st) i ∧ gi h 248 (91 + i) = v_x (vw g st) i ∧ gi h 248 (97 + i) = v_y (vw g st) i ∧ gi h 248 (103 + i) = v_ti (vw g st) i) := by
  obtain ⟨a1, a2, a3, a4, a5, a6, a7, a8, a9⟩ := a
  obtain ⟨⟨b1, b2, b3, b4, b5, b6, b7⟩, c1, c2, l1, l2⟩ := a3
  simp only [Nat.zero_add] at b1 b2 b3 b4 b5 b6 b7 c1 c2
  have ok1 := a1.1
  obtain ⟨s1, s2, s3, s4, s5, s6⟩ := a2
  refine ⟨vw_ok a1 ⟨s1, s2, s3, s4, s5, s6⟩, ⟨b3, b4, b5, b6, b7, ?_, by omega⟩, fun i hi => ?_⟩
  · have := a4 19 (by omega) (by omega); rw [show (91 + 19) = 110 from rfl] at this; rw [this]; omega
  · have hi' : i < g_S g := hi
    obtain ⟨d1, d2, d3⟩ := c1 i hi'
    refine ⟨d1, d2, d3, a4 i (by omega) (by omega), ?_, ?_⟩
    · have := a4 (6 + i) (by omega) (by omega); rw [show 91 + (6 + i) = 97 + i by omega] at this; exact this
    · have := a4 (12 + i) (by omega) (by omega); rw [show 91 + (12 + i) = 103 + i by omega] at this; exact this
theorem w32a {k : Int} {n s : Nat} (hk : k = n) (h : n + s < 1000000) : w32 (k + (s : Int)) = ((n + s : Nat) : Int) := by rw [hk, w32_r (by omega) (by omega)]; omega
section
variable {d : Nat} {h : PH} {Q : Option PV → PH → Prop}
theorem c_isIn {a : Int} {w : Nat} (hw : w < 32) (hq : Q (some (vI (if bit a w then 1 else 0))) h) : C2 d mX11_isIn [vJ a, vI (w : Int)] h Q := by
  refine EX11_isIn fun _ _ => BX11_isIn_0 ?_
  rw [bit_askL hw]
  cases hb : bit a w with
  | true => rw [hb] at hq; exact ⟨fun z => by simp at z, fun _ => hq⟩
  | false => rw [hb] at hq; exact ⟨fun _ => hq, fun z => by simp at z⟩
variable {g : PG} {st : Nat → Int} {wi asd : Int}
def frSp : Nat → Nat → Prop := fun q k => q = 252 ∨ q = 253 ∨ (q = 247 ∧ (k = 18 ∨ k = 19))
theorem frSp_N {q k : Nat} (z : frSp q k) : frN q k := by unfold frSp at z; unfold frN; omega
theorem c_isSpanned (X : MC h g st wi asd) {s l : Nat} {y : Int} (hs : s < v_S (vw g st)) (hl : l < v_ln (vw g st)) (hy : 0 ≤ y ∧ y ≤ 1000) (hq0 : rch (vw g st) s y l < 0 → Q (some (vI 0)) h)
    (hq1 : 0 ≤ rch (vw g st) s y l → ∀ h', gi h' 247 18 = spL (vw g st) s l (rch (vw g st) s y l) → gi h' 247 19 = spR (vw g st) s l (rch (vw g st) s y l) → fr frSp h h' → Q (some (vI 1)) h') : C2 (d + 3) mX11_isSpanned [vR 247, vI (s : Int), vI (l : Int), vI y] h Q := by
  obtain ⟨ok, ⟨a1, a2, a3, a4, a5, a6, a7⟩, b⟩ := X.vw
  have X1 := X.1
  have XR := X.2.2.1
  obtain ⟨r1, r2, r3⟩ := rch_rg ok (l := l) hs (y := y)
  obtain ⟨⟨o1, o2, o3, o4, o5, o6, o7, o8⟩, ok2, -, ok4⟩ := id ok
  obtain ⟨k1, k2, k3, k4, k5, k6, k6a, k6b, k7, k8, k9, k10, k11, k12⟩ := ok2 s hs
  obtain ⟨b1, b2, b3, b4, b5, b6⟩ := b s hs
  obtain ⟨g1, g2⟩ := ok4 s l hs hl
  have hT := mul_rg (a := (l : Int)) (A := 20) (b := v_hi (vw g st)) (B := 20) (by omega) (by omega) (by omega) (by omega)
  -- the end: the gap
  have fin : ∀ (h2 : PH) (L R : Int), gi h2 247 18 = L → gi h2 247 19 = R → -500 ≤ L ∧ L ≤ 500 → -500 ≤ R ∧ R ≤ 500 → fr frSp h h2 → (∀ h', gi h' 247 18 = L - v_gp (vw g st) s l → gi h' 247 19 = R + v_gp (vw g st) s l → fr frSp h h' → Q (some (vI 1)) h') → T2 (d + 3) mX11_isSpanned 235 [some (vR 247), some (vI (s : Int)), some (vI (l : Int)), none, none, none, none, none, none] [] h2 Q := by
    intro h2 L R e1 e2 hL hR hF hqq
    refine BX11_isSpanned_235 (c_gapM X1 (XR.keep X1 (fun j _ _ => hF.1 _ _ (by unfold frSp; omega))) hs hl a7 (by rw [hF.1 _ _ (by unfold frSp; omega)]; exact a6) (fun h3 hF3 _ h4 e4 h5 e5 => ?_))
    subst e4 e5
    have f1 : gi h3 247 18 = L := by rw [hF3.1 _ _ (by unfold frX; omega)]; exact e1
    have f2 : gi h3 247 19 = R := by rw [hF3.1 _ _ (by unfold frX; omega)]; exact e2
    have eg : gapA g (st 19).toNat s l = v_gp (vw g st) s l := rfl
    rw [eg]
    refine hqq _ ?_ ?_ (((hF.tr (hF3.mono (fun q k z => by unfold frX at z; unfold frSp; omega))).si (by unfold frSp; omega)).si (by unfold frSp; omega))
    · simp (disch := omega) only [gi_s0, gi_s1, gi_s2, gj_s0, gj_s1, gj_s2, gi_f0, gi_f1, gj_f0, gj_f1, gr_r0, gr_r1, gr_r2, gi_sj, gi_sr, gj_si, gj_sr, gr_si, gr_sj, gr_stI, gj_stI, gi_stJ, gr_stJ]; rw [f1, w32_r (by omega) (by omega)]
    · simp (disch := omega) only [gi_s0, gi_s1, gi_s2, gj_s0, gj_s1, gj_s2, gi_f0, gi_f1, gj_f0, gj_f1, gr_r0, gr_r1, gr_r2, gi_sj, gi_sr, gj_si, gj_sr, gr_si, gr_sj, gr_stI, gj_stI, gi_stJ, gr_stJ]; rw [f2, w32_r (by omega) (by omega)]
  refine EX11_isSpanned fun _ _ _ => BX11_isSpanned_0 ?_
  rw [w32a (k := 25) (n := 25) rfl (by omega), w32a (k := 19) (n := 19) rfl (by omega), w32a (k := 13) (n := 13) rfl (by omega)]
  simp only [Int.toNat_natCast]
  rw [a2, b1, b2, b3]
  generalize hTT : (l : Int) * v_hi (vw g st) = T at *
  rw [w32_r (x := T) (by omega) (by omega), w32_r (x := T + v_hi (vw g st)) (by omega) (by omega), w32_r (x := y + v_tl (vw g st) s) (by omega) (by omega)]
  refine ⟨⟨by omega, by omega⟩, ⟨by omega, by omega⟩, ⟨by omega, by omega⟩, fun z => ?_, fun z => ?_⟩
  · have k6' := k6 z
    refine ⟨fun z1 => hq0 ?_, fun z1 => ⟨fun z2 => ?_, fun z2 => hq0 ?_⟩⟩
    · unfold rch; rw [if_neg (by omega), if_neg z, hTT, if_pos z1]; omega
    · have hrc : rch (vw g st) s y l = if v_kd (vw g st) s = 0 then v_ac (vw g st) s else (v_ac (vw g st) s * min (T + v_hi (vw g st) - y) (v_tl (vw g st) s) + v_tl (vw g st) s - 1) / v_tl (vw g st) s := by
        unfold rch; rw [if_neg (by omega), if_neg z, hTT, if_neg (by omega), if_neg (by omega)]
      have go : ∀ e : Int, e = min (T + v_hi (vw g st)) (y + v_tl (vw g st) s) → T2 (d + 3) mX11_isSpanned 155 [some (vR 247), some (vI (s : Int)), some (vI (l : Int)), some (vI y), none, none, none, some (vI (v_ac (vw g st) s)), none] [vI e] h Q := by
        intro e he
        refine BX11_isSpanned_155 ?_
        rw [w32a (k := 13) (n := 13) rfl (by omega), w32a (k := 91) (n := 91) rfl (by omega), w32a (k := 25) (n := 25) rfl (by omega)]
        simp only [Int.toNat_natCast]
        rw [b1, b4, b3]
        refine ⟨⟨by omega, by omega⟩, fun y2 => ⟨⟨by omega, by omega⟩, fun h2 eh2 => ⟨⟨by omega, by omega⟩, fun h3 eh3 => ?_⟩⟩, fun y2 => ⟨⟨by omega, by omega⟩, ?_⟩⟩
        · subst eh2 eh3
          have k0 : v_kd (vw g st) s = 0 := by omega
          rw [if_pos k0] at hrc
          simp (disch := omega) only [gi_s0, gi_s1, gi_s2, gj_s0, gj_s1, gj_s2, gi_f0, gi_f1, gj_f0, gj_f1, gr_r0, gr_r1, gr_r2, gi_sj, gi_sr, gj_si, gj_sr, gr_si, gr_sj, gr_stI, gj_stI, gi_stJ, gr_stJ]
          rw [b4, w32_r (by omega) (by omega)]
          refine fin _ _ _ (by simp (disch := omega) only [gi_s0, gi_s1, gi_s2, gj_s0, gj_s1, gj_s2, gi_f0, gi_f1, gj_f0, gj_f1, gr_r0, gr_r1, gr_r2, gi_sj, gi_sr, gj_si, gj_sr, gr_si, gr_sj, gr_stI, gj_stI, gi_stJ, gr_stJ]; rfl) (by simp (disch := omega) only [gi_s0, gi_s1, gi_s2, gj_s0, gj_s1, gj_s2, gi_f0, gi_f1, gj_f0, gj_f1, gr_r0, gr_r1, gr_r2, gi_sj, gi_sr, gj_si, gj_sr, gr_si, gr_sj, gr_stI, gj_stI, gi_stJ, gr_stJ]; rfl) (by omega) (by omega) ((fr.rf.si (by unfold frSp; omega)).si (by unfold frSp; omega)) (fun h' q1 q2 q3 => hq1 (by omega) h' ?_ ?_ q3)
          · rw [q1]; unfold spL; rw [if_pos k0]
          · rw [q2]; unfold spR; rw [hrc]
        · have k0 : ¬ v_kd (vw g st) s = 0 := by omega
          have k5' := k5 k0
          rw [if_neg k0] at hrc
          have eat : w32 (e - y) = min (T + v_hi (vw g st) - y) (v_tl (vw g st) s) := by rw [w32_r (by omega) (by omega), he]; omega
          rw [eat]
          have hat : 1 ≤ min (T + v_hi (vw g st) - y) (v_tl (vw g st) s) ∧ min (T + v_hi (vw g st) - y) (v_tl (vw g st) s) ≤ 200 := by omega
          generalize hA : min (T + v_hi (vw g st) - y) (v_tl (vw g st) s) = A at *
          obtain ⟨m1, m2⟩ := mul_half (w := v_ac (vw g st) s) (a := A) (by omega) hat
          have hp := mul_rg (a := v_ac (vw g st) s) (A := 100) (b := A) (B := 200) (by omega) (by omega) (by omega) (by omega)
          have hp1 : 1 ≤ v_ac (vw g st) s * A := by
            have := Int.mul_le_mul (show (1 : Int) ≤ v_ac (vw g st) s by omega) (show (1 : Int) ≤ A by omega) (by omega) (by omega)
            omega
          have hA2 : A ≤ v_tl (vw g st) s := by omega
          have hr100 : rch (vw g st) s y l ≤ 100 := by
            rw [hrc]
            have hmm : v_ac (vw g st) s * A ≤ 100 * v_tl (vw g st) s := Int.mul_le_mul k5' hA2 (by omega) (by omega)
            have hd2 : (v_ac (vw g st) s * A + v_tl (vw g st) s - 1) / v_tl (vw g st) s < 100 + 1 := (Int.ediv_lt_iff_lt_mul (by omega)).mpr (by omega)
            omega
          have hr1 : 1 ≤ rch (vw g st) s y l := by
            rw [hrc]; exact (Int.le_ediv_iff_mul_le (by omega)).mpr (by omega)
          obtain ⟨n1, n2⟩ := div_half (m := rch (vw g st) s y l) m2 (by omega) (w := v_tl (vw g st) s) k6' hrc hr100
          refine ⟨m1, ⟨by omega, by omega⟩, n1, c_spansBy (by omega) ⟨hr1, hr100⟩ n2 (fun h2 q1 q2 q3 => ⟨rfl, ?_⟩)⟩
          refine fin h2 _ _ q1 q2 (by omega) (by omega) (q3.mono (fun q k z => by unfold frB at z; unfold frSp; omega)) (fun h' u1 u2 u3 => hq1 (by omega) h' ?_ ?_ u3)
          · rw [u1]; unfold spL; rw [if_neg k0]
          · rw [u2]; rfl
      exact ⟨fun z3 => go _ (by omega), fun z3 => go _ (by omega)⟩
    · unfold rch; rw [if_neg (by omega), if_neg z, hTT]
      split
      · omega
      · omega
  · have k5' := k5 (by omega)
    have hk0 : ¬ v_kd (vw g st) s = 0 := by omega
    have go : ∀ o : Int, offS (vw g st) y l = o → 0 ≤ o → o ≤ 2000 → T2 (d + 3) mX11_isSpanned 85 [some (vR 247), some (vI (s : Int)), some (vI (l : Int)), none, none, none, none, some (vI (v_ac (vw g st) s)), none] [vI o] h Q := by
      intro o ho o0 o1
      have hrc : rch (vw g st) s y l = if o < v_ac (vw g st) s then rtU (v_ac (vw g st) s * v_ac (vw g st) s - o * o) else -1 := by
        unfold rch; rw [if_neg (by omega), if_pos z, ho]
      refine BX11_isSpanned_85 ⟨fun z1 => ?_, fun z1 => hq0 (by rw [hrc, if_neg (by omega)]; omega)⟩
      rw [if_pos z1] at hrc
      rw [w32a (k := 91) (n := 91) rfl (by omega)]
      simp only [Int.toNat_natCast]
      rw [b4]
      obtain ⟨r, hr⟩ := ex_nat (x := v_ac (vw g st) s) (by omega)
      obtain ⟨o', ho'⟩ := ex_nat (x := o) o0
      rw [hr, ho'] at hrc ⊢
      have m1 := mul_rg (a := (r : Int)) (A := 100) (b := (r : Int)) (B := 100) (by omega) (by omega) (by omega) (by omega)
      have m2 := mul_rg (a := (o' : Int)) (A := 100) (b := (o' : Int)) (B := 100) (by omega) (by omega) (by omega) (by omega)
      rw [w32_r (x := (r : Int) * r) (by omega) (by omega), w32_r (x := (o' : Int) * o') (by omega) (by omega), w32_r (by omega) (by omega)]
      have m3 : (o' : Int) * o' ≤ ((r : Int) - 1) * (r - 1) := Int.mul_le_mul (by omega) (by omega) (by omega) (by omega)
      have m4 : ((r : Int) - 1) * (r - 1) = (r : Int) * r - 2 * r + 1 := by rw [Int.sub_mul, Int.mul_sub]; omega
      obtain ⟨q1, q2, q3, q4⟩ := rtU_spec (n := (r : Int) * r - (o' : Int) * o') (by omega) (by omega)
      refine ⟨⟨by omega, by omega⟩, c_rootOf (by omega) (by omega) (fun f hf => ?_)⟩
      refine c_spansBy (by omega) ⟨q2, q3⟩ hf (fun h2 u1 u2 u3 => ⟨rfl, ?_⟩)
      refine fin h2 _ _ u1 u2 (by omega) (by omega) (u3.mono (fun q k z => by unfold frB at z; unfold frSp; omega)) (fun h' t1 t2 t3 => hq1 (by omega) h' ?_ ?_ t3)
      · rw [t1]; unfold spL; rw [if_neg hk0, hrc]
      · rw [t2]; unfold spR; rw [hrc]
    refine ⟨fun z1 => ⟨fun z2 => go 0 ?_ (by omega) (by omega), fun z2 => ?_⟩, fun z1 => ?_⟩
    · unfold offS; rw [hTT, if_neg (by omega), if_neg (by omega)]
    · rw [w32_r (by omega) (by omega)]
      refine go _ ?_ (by omega) (by omega)
      unfold offS; rw [hTT, if_neg (by omega), if_pos z2]
    · rw [w32_r (by omega) (by omega)]
      refine go _ ?_ (by omega) (by omega)
      unfold offS; rw [hTT, if_pos z1]
/-- the model's slots -/
def SM (h : PH) (L : SL) : Prop := gi h 247 31 = L.length ∧ ∀ k, k < L.length → gi h 255 k = s_li L k ∧ gi h 256 k = s_le L k ∧ gi h 257 k = s_ri L k
def BK (h : PH) (L : List (Int × Int)) : Prop := ∀ i, i < L.length → gi h 262 i = (L.getD i (0, 0)).1 ∧ gi h 263 i = (L.getD i (0, 0)).2
def frLy : Nat → Nat → Prop := fun q k => q = 252 ∨ q = 253 ∨ (q = 247 ∧ (k = 18 ∨ k = 19 ∨ k = 31)) ∨ (255 ≤ q ∧ q ≤ 258) ∨ q = 262 ∨ q = 263
theorem frLy_N {q k : Nat} (z : frLy q k) : frN q k := by unfold frLy at z; unfold frN; omega
theorem SM_app {h' : PH} {L : SL} {n : Nat} {a b : Int} (hS : SM h L) (e1 : gi h' 247 31 = (L.length : Int) + 1) (e2 : ∀ k, k < L.length → gi h' 255 k = gi h 255 k ∧ gi h' 256 k = gi h 256 k ∧ gi h' 257 k = gi h 257 k) (e3 : gi h' 255 L.length = n ∧ gi h' 256 L.length = a ∧ gi h' 257 L.length = b) : SM h' (L ++ [(n, a, b)]) := by
  refine ⟨by rw [e1, List.length_append]; simp, fun k hk => ?_⟩
  unfold s_li s_le s_ri
  by_cases z : k < L.length
  · obtain ⟨a1, a2, a3⟩ := e2 k z
    obtain ⟨b1, b2, b3⟩ := hS.2 k z
    rw [getD_app _ _ _ z, a1, a2, a3]
    exact ⟨b1, b2, b3⟩
  · have : k = L.length + 0 := by simp at hk; omega
    subst this
    rw [getD_app2]
    exact e3
/-- choosing the next block -/
theorem pick_loop {l : Nat} {B : List (Int × Int)} {fe : Int} (hB6 : B.length ≤ 6) (hB : BK h B) (hwi : 0 ≤ wi ∧ wi ≤ 200)
    (k96 : ∀ to th : Int, to ≤ wi → (∀ b ∈ B, b.2 ≤ fe ∨ to ≤ b.1) → ((to = wi ∧ th = wi) ∨ ((to, th) ∈ B ∧ fe < th ∧ to < wi)) → T2 (d + 1) mX11_laysLine 96 [some (vR 247), some (vI (l : Int)), some (vI (B.length : Int)), some (vI fe), some (vI to), some (vI th), some (vI (B.length : Int))] [] h Q) :
    ∀ (m k : Nat) (to th : Int), k + m = B.length → to ≤ wi → (∀ i, i < k → (B.getD i (0, 0)).2 ≤ fe ∨ to ≤ (B.getD i (0, 0)).1) → ((to = wi ∧ th = wi) ∨ ((to, th) ∈ B ∧ fe < th ∧ to < wi)) → T2 (d + 1) mX11_laysLine 96 [some (vR 247), some (vI (l : Int)), some (vI (B.length : Int)), some (vI fe), some (vI to), some (vI th), some (vI (k : Int))] [] h Q := by
  intro m
  induction m with
  | zero =>
    intro k to th hk ht hi ho
    have ek : k = B.length := by omega
    subst ek
    refine k96 to th ht (fun b hb => ?_) ho
    obtain ⟨i, hi2, e⟩ := List.getElem_of_mem hb
    have := hi i hi2
    rw [List.getD_eq_getElem?_getD, List.getElem?_eq_getElem hi2, e] at this
    exact this
  | succ m ih =>
    intro k to th hk ht hi ho
    have hkl : k < B.length := by omega
    obtain ⟨q1, q2⟩ := hB k hkl
    refine BX11_laysLine_96 ⟨fun z => by omega, fun _ => ⟨⟨by omega, by omega⟩, ?_⟩⟩
    simp only [Int.toNat_natCast]
    rw [q1, q2, w32_r (by omega) (by omega), show ((k : Int) + 1) = ((k + 1 : Nat) : Int) by omega]
    refine ⟨fun z => ih (k + 1) to th (by omega) ht (fun i hi2 => ?_) ho, fun z => ⟨⟨by omega, by omega⟩, fun z2 => ⟨⟨by omega, by omega⟩, ⟨by omega, by omega⟩, ih (k + 1) _ _ (by omega) (by omega) (fun i hi2 => ?_) (Or.inr ⟨getD_mem hkl, z, by omega⟩)⟩, fun z2 => ih (k + 1) to th (by omega) ht (fun i hi2 => ?_) ho⟩⟩
    · by_cases e : i = k
      · subst e; exact Or.inl z
      · exact hi i (by omega)
    · by_cases e : i = k
      · subst e; exact Or.inr (Int.le_refl _)
      · rcases hi i (by omega) with u | u
        · exact Or.inl u
        · exact Or.inr (by omega)
    · by_cases e : i = k
      · subst e; exact Or.inr z2
      · exact hi i (by omega)
theorem gaps_loop {l : Nat} {B : List (Int × Int)} (X0 : MC h g st wi asd) (hl : l < 20) (hB6 : B.length ≤ 6) (hBb : ∀ b ∈ B, -1000 ≤ b.1 ∧ b.1 < b.2 ∧ b.2 ≤ 1000) {L : SL} (hL : L.length + 7 ≤ 140) (hlen : (cutS wi (v_le (vw g st)) B).length ≤ 7)
    (hq : ∀ h', SM h' (L ++ mkL l (cutS wi (v_le (vw g st)) B)) → (∀ k, k < L.length → gi h' 258 k = gi h 258 k) → (∀ k, L.length ≤ k → k < (L ++ mkL l (cutS wi (v_le (vw g st)) B)).length → gi h' 258 k = 0) → fr frLy h h' → Q none h') :
    ∀ (m : Nat) (fe : Int) (Y : List (Int × Int)) (h1 : PH), 0 ≤ fe → fe ≤ 1000 → wi - fe ≤ m → cutS wi (v_le (vw g st)) B = Y ++ scn (covB B) (v_le (vw g st)) (wi - fe).toNat (min fe wi) none → BK h1 B → SM h1 (L ++ mkL l Y) → (∀ k, k < L.length → gi h1 258 k = gi h 258 k) → (∀ k, L.length ≤ k → k < (L ++ mkL l Y).length → gi h1 258 k = 0) → fr frLy h h1 → T2 (d + 1) mX11_laysLine 73 [some (vR 247), some (vI (l : Int)), some (vI (B.length : Int)), some (vI fe), none, none, none] [] h1 Q := by
  have hwi := X0.2.2.2.2.2.2.2
  obtain ⟨ok, ⟨-, -, a3, -, -, -, -⟩, -⟩ := X0.vw
  have ok1 := ok.1
  intro m
  induction m with
  | zero =>
    intro fe Y h1 f0 f1 fm hY hB hS c1 c2 hF
    have X := X0.keep (hF.mono (fun q k z => frLy_N z))
    refine BX11_laysLine_73 ⟨fun _ => ?_, fun z => by rw [X.2.2.2.2.2.1] at z; omega⟩
    rw [show (wi - fe).toNat = 0 by omega] at hY
    have eY : cutS wi (v_le (vw g st)) B = Y := by rw [hY]; exact List.append_nil _
    rw [eY] at hq
    exact hq h1 hS c1 c2 hF
  | succ m ih =>
    intro fe Y h1 f0 f1 fm hY hB hS c1 c2 hF
    have X := X0.keep (hF.mono (fun q k z => frLy_N z))
    have e20 : gi h1 247 20 = wi := X.2.2.2.2.2.1
    have ea3 : gi h1 248 4 = v_le (vw g st) := by rw [hF.1 _ _ (by unfold frLy; omega)]; exact a3
    rcases Int.lt_or_le fe wi with hfw | hfw
    · refine BX11_laysLine_73 ⟨fun z => by rw [e20] at z; omega, fun _ => ?_⟩
      rw [e20]
      have go := pick_loop (d := d) (h := h1) (Q := Q) (l := l) (B := B) (fe := fe) (wi := wi) hB6 hB hwi (fun to th ht hb ho => ?_) B.length 0 wi wi (by omega) (Int.le_refl _) (fun i hi => by omega) (Or.inl ⟨rfl, rfl⟩)
      · exact go
      · -- all blocks are seen
        have hth : fe < th ∧ th ≤ 1000 := by
          rcases ho with ⟨u1, u2⟩ | ⟨u1, u2, u3⟩
          · omega
          · have := hBb _ u1; exact ⟨u2, this.2.2⟩
        have hto : -1000 ≤ to := by
          rcases ho with ⟨u1, u2⟩ | ⟨u1, u2, u3⟩
          · omega
          · exact (hBb _ u1).1
        have hstep : scn (covB B) (v_le (vw g st)) (wi - fe).toNat fe none = (if v_le (vw g st) ≤ max fe to - fe then [(fe, max fe to)] else []) ++ scn (covB B) (v_le (vw g st)) (wi - th).toNat (min th wi) none := by
          refine scn_step (by omega) (a := fe) (b := max fe to) (c := th) (w := wi) (by omega) ?_ (by omega) (fun q q1 q2 => ?_) (fun q q1 q2 q3 => ?_) ?_
          · rcases ho with ⟨u1, u2⟩ | ⟨u1, u2, u3⟩
            · omega
            · have := hBb _ u1; dsimp only at this; omega
          · unfold covB
            rw [List.any_eq_false]
            intro b hbm
            have := hb b hbm
            simp only [Bool.and_eq_true, decide_eq_true_eq]
            omega
          · rcases ho with ⟨u1, u2⟩ | ⟨u1, u2, u3⟩
            · omega
            · unfold covB
              rw [List.any_eq_true]
              exact ⟨_, u1, by simp only [Bool.and_eq_true, decide_eq_true_eq]; omega⟩
          · rcases ho with ⟨u1, u2⟩ | ⟨u1, u2, u3⟩
            · omega
            · have := hBb _ u1; dsimp only at this; omega
        rw [show min fe wi = fe by omega, hstep] at hY
        refine BX11_laysLine_96 ⟨fun _ => ?_, fun z => by omega⟩
        rw [ea3, w32_r (x := to - fe) (by omega) (by omega)]
        refine ⟨fun z => ?_, fun z => ?_⟩
        · rw [if_neg (by omega), List.nil_append] at hY
          exact ih th Y h1 (by omega) hth.2 (by omega) hY hB hS c1 c2 hF
        · rw [if_pos (by omega), show max fe to = to by omega, ← List.append_assoc] at hY
          have hYl : Y.length + 1 ≤ 7 := by
            have : (cutS wi (v_le (vw g st)) B).length = Y.length + 1 + (scn (covB B) (v_le (vw g st)) (wi - th).toNat (min th wi) none).length := by rw [hY]; simp; omega
            omega
          have hn : (L ++ mkL l Y).length < 140 := by rw [List.length_append, mkL_len]; omega
          have eL : L ++ mkL l (Y ++ [(fe, to)]) = (L ++ mkL l Y) ++ [(l, fe, to)] := by rw [mkL_app, ← List.append_assoc]; rfl
          rw [hS.1]
          refine ⟨⟨by omega, by omega⟩, fun h2 e2 => ?_⟩
          subst e2
          rw [gi_s1 (by omega), hS.1]
          refine ⟨⟨by omega, by omega⟩, fun h2 e2 => ?_⟩
          subst e2
          rw [gi_s1 (by omega), gi_s1 (by omega), hS.1]
          refine ⟨⟨by omega, by omega⟩, fun h2 e2 => ?_⟩
          subst e2
          rw [gi_s1 (by omega), gi_s1 (by omega), gi_s1 (by omega), hS.1]
          refine ⟨⟨by omega, by omega⟩, fun h2 e2 h3 e3 => ?_⟩
          subst e2 e3
          simp only [Int.toNat_natCast]
          refine ih th (Y ++ [(fe, to)]) _ (by omega) hth.2 (by omega) hY (fun i hi => ?_) ?_ (fun k hk => ?_) (fun k hk1 hk2 => ?_) (((((hF.si ?_).si ?_).si ?_).si ?_).si ?_)
          · simp (disch := omega) only [gi_s0, gi_s1, gi_s2, gj_s0, gj_s1, gj_s2, gi_f0, gi_f1, gj_f0, gj_f1, gr_r0, gr_r1, gr_r2, gi_sj, gi_sr, gj_si, gj_sr, gr_si, gr_sj, gr_stI, gj_stI, gi_stJ, gr_stJ]; exact hB i hi
          · rw [eL]
            refine SM_app hS ?_ (fun k hk => ⟨?_, ?_, ?_⟩) ⟨?_, ?_, ?_⟩
            · simp (disch := omega) only [gi_s0, gi_s1, gi_s2, gj_s0, gj_s1, gj_s2, gi_f0, gi_f1, gj_f0, gj_f1, gr_r0, gr_r1, gr_r2, gi_sj, gi_sr, gj_si, gj_sr, gr_si, gr_sj, gr_stI, gj_stI, gi_stJ, gr_stJ]; rw [hS.1, w32_r (by omega) (by omega)]
            · simp (disch := omega) only [gi_s0, gi_s1, gi_s2, gj_s0, gj_s1, gj_s2, gi_f0, gi_f1, gj_f0, gj_f1, gr_r0, gr_r1, gr_r2, gi_sj, gi_sr, gj_si, gj_sr, gr_si, gr_sj, gr_stI, gj_stI, gi_stJ, gr_stJ]
            · simp (disch := omega) only [gi_s0, gi_s1, gi_s2, gj_s0, gj_s1, gj_s2, gi_f0, gi_f1, gj_f0, gj_f1, gr_r0, gr_r1, gr_r2, gi_sj, gi_sr, gj_si, gj_sr, gr_si, gr_sj, gr_stI, gj_stI, gi_stJ, gr_stJ]
            · simp (disch := omega) only [gi_s0, gi_s1, gi_s2, gj_s0, gj_s1, gj_s2, gi_f0, gi_f1, gj_f0, gj_f1, gr_r0, gr_r1, gr_r2, gi_sj, gi_sr, gj_si, gj_sr, gr_si, gr_sj, gr_stI, gj_stI, gi_stJ, gr_stJ]
            · simp (disch := omega) only [gi_s0, gi_s1, gi_s2, gj_s0, gj_s1, gj_s2, gi_f0, gi_f1, gj_f0, gj_f1, gr_r0, gr_r1, gr_r2, gi_sj, gi_sr, gj_si, gj_sr, gr_si, gr_sj, gr_stI, gj_stI, gi_stJ, gr_stJ]
            · simp (disch := omega) only [gi_s0, gi_s1, gi_s2, gj_s0, gj_s1, gj_s2, gi_f0, gi_f1, gj_f0, gj_f1, gr_r0, gr_r1, gr_r2, gi_sj, gi_sr, gj_si, gj_sr, gr_si, gr_sj, gr_stI, gj_stI, gi_stJ, gr_stJ]
            · simp (disch := omega) only [gi_s0, gi_s1, gi_s2, gj_s0, gj_s1, gj_s2, gi_f0, gi_f1, gj_f0, gj_f1, gr_r0, gr_r1, gr_r2, gi_sj, gi_sr, gj_si, gj_sr, gr_si, gr_sj, gr_stI, gj_stI, gi_stJ, gr_stJ]
          · have : k < (L ++ mkL l Y).length := by rw [List.length_append]; omega
            simp (disch := omega) only [gi_s0, gi_s1, gi_s2, gj_s0, gj_s1, gj_s2, gi_f0, gi_f1, gj_f0, gj_f1, gr_r0, gr_r1, gr_r2, gi_sj, gi_sr, gj_si, gj_sr, gr_si, gr_sj, gr_stI, gj_stI, gi_stJ, gr_stJ]; exact c1 k hk
          · rw [eL] at hk2
            by_cases e : k = (L ++ mkL l Y).length
            · subst e; simp (disch := omega) only [gi_s0, gi_s1, gi_s2, gj_s0, gj_s1, gj_s2, gi_f0, gi_f1, gj_f0, gj_f1, gr_r0, gr_r1, gr_r2, gi_sj, gi_sr, gj_si, gj_sr, gr_si, gr_sj, gr_stI, gj_stI, gi_stJ, gr_stJ]
            · have hk3 : k < (L ++ mkL l Y).length := by rw [List.length_append (as := L ++ mkL l Y)] at hk2; simp only [List.length_singleton] at hk2; omega
              simp (disch := omega) only [gi_s0, gi_s1, gi_s2, gj_s0, gj_s1, gj_s2, gi_f0, gi_f1, gj_f0, gj_f1, gr_r0, gr_r1, gr_r2, gi_sj, gi_sr, gj_si, gj_sr, gr_si, gr_sj, gr_stI, gj_stI, gi_stJ, gr_stJ]; exact c2 k hk1 hk3
          all_goals (unfold frLy; omega)
    · refine BX11_laysLine_73 ⟨fun _ => ?_, fun z => by rw [e20] at z; omega⟩
      rw [show (wi - fe).toNat = 0 by omega] at hY
      have eY : cutS wi (v_le (vw g st)) B = Y := by rw [hY]; exact List.append_nil _
      rw [eY] at hq
      exact hq h1 hS c1 c2 hF
end
