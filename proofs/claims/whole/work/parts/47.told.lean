/-! THE CLASS: images, told deeds, days -/
theorem iushr16 (a : Int) : 0 ≤ iushr a 16 ∧ iushr a 16 < 65536 := by
  unfold iushr
  have e : ((Int32.ofInt a).toUInt32 >>> ((Int32.ofInt 16).toUInt32 &&& Int32.toUInt32 31)) = (Int32.ofInt a).toUInt32 >>> 16 := by congr 1
  rw [e]
  generalize (Int32.ofInt a).toUInt32 = x
  have h1 : (x >>> 16).toNat < 65536 := by
    rw [UInt32.toNat_shiftRight]
    have := UInt32.toNat_lt x
    show x.toNat >>> 16 < 65536
    rw [Nat.shiftRight_eq_div_pow]
    omega
  have h2 : (x >>> 16).toInt32.toInt = ((x >>> 16).toNat : Int) := by
    show (x >>> 16).toBitVec.toInt = _
    rw [BitVec.toInt_eq_toNat_cond]
    have e2 : (x >>> 16).toBitVec.toNat = (x >>> 16).toNat := rfl
    rw [e2, if_pos (by omega)]
  rw [h2]; omega
def ddS (g : PG) (f : Nat → Int) : Nat → Nat → (Nat → Int) → Nat × Int × (Nat → Int)
  | 0, i, st => (i, 0, st)
  | m + 1, i, st => if (deedS g st (f i)).1 ≠ 0 then (i, (deedS g st (f i)).1, st) else ddS g f m (i + 1) (deedS g st (f i)).2
def noP (st : Nat → Int) (p : Int × (Nat → Int)) : Prop := p.1 ≠ 0 → p.2 = st
theorem deedS_no {g : PG} {st : Nat → Int} {v : Int} (h : (deedS g st v).1 ≠ 0) : (deedS g st v).2 = st := by
  have hsh : ∀ s ax b, noP st (shiftS g st s ax b) := fun s ax b => by
    unfold shiftS
    split
    · exact fun _ => rfl
    · split
      · split
        · exact fun _ => rfl
        · exact fun z => absurd rfl z
      · split
        · exact fun _ => rfl
        · exact fun z => absurd rfl z
  have hbi : ∀ s w, noP st (bindS g st s w) := fun s w => by
    unfold bindS
    split
    · exact fun _ => rfl
    · exact fun z => absurd rfl z
  have hfl : ∀ w, noP st (flipS g st w) := fun w => by
    unfold flipS
    split
    · exact fun _ => rfl
    · exact fun z => absurd rfl z
  have hdy : ∀ w, noP st (dyeS st w) := fun w => by
    unfold dyeS
    split
    · exact fun _ => rfl
    · exact fun z => absurd rfl z
  have key : noP st (deedS g st v) := by
    unfold deedS
    by_cases z1 : v < 10 ∨ 25999 < v
    · rw [if_pos z1]; exact fun _ => rfl
    rw [if_neg z1]
    by_cases z2 : v ≤ 19
    · rw [if_pos z2]; exact hdy _
    rw [if_neg z2]
    by_cases z3 : 100 ≤ v ∧ v ≤ 129
    · rw [if_pos z3]; exact hfl _
    rw [if_neg z3]
    by_cases z4 : 1000 ≤ v ∧ v ≤ 1599
    · rw [if_pos z4]; exact hbi _ _
    rw [if_neg z4]
    by_cases z5 : 10000 ≤ v ∧ v ≤ 15999
    · rw [if_pos z5]; exact hsh _ _ _
    rw [if_neg z5]
    by_cases z6 : 20000 ≤ v
    · rw [if_pos z6]; exact hsh _ _ _
    rw [if_neg z6]; exact fun _ => rfl
  exact key h
theorem ddS_ok {g : PG} (okg : POK g) {f : Nat → Int} : ∀ (m i : Nat) (st : Nat → Int), SOK g st → SOK g (ddS g f m i st).2.2 ∧ i ≤ (ddS g f m i st).1 ∧ (ddS g f m i st).1 ≤ i + m ∧ ((ddS g f m i st).1 = i + m ↔ (ddS g f m i st).2.1 = 0) ∧ ((ddS g f m i st).2.1 ≠ 0 → (deedS g (ddS g f m i st).2.2 (f (ddS g f m i st).1)).1 = (ddS g f m i st).2.1) := by
  intro m
  induction m with
  | zero => intro i st h; exact ⟨h, Nat.le_refl _, Nat.le_refl _, ⟨fun _ => rfl, fun _ => rfl⟩, fun z => absurd rfl z⟩
  | succ m ih =>
    intro i st h
    unfold ddS
    by_cases z : (deedS g st (f i)).1 ≠ 0
    · rw [if_pos z]
      refine ⟨h, Nat.le_refl _, by dsimp only; omega, ⟨fun e => by dsimp only at e; omega, fun e => absurd e z⟩, fun _ => rfl⟩
    · rw [if_neg z]
      obtain ⟨a1, a2, a3, a4, a5⟩ := ih (i + 1) _ (deedS_ok okg h (f i))
      refine ⟨a1, by omega, by omega, ⟨fun e => a4.mp (by omega), fun e => by have := a4.mpr e; omega⟩, a5⟩
/-- the deeds of a tray -/
def ddA (A : AS) (t : Nat) : Nat × Int × (Nat → Int) := ddS (A_g A) (fun i => A_vl A (40 * t + i)) (A_sz A t).toNat 0 (A_st A)
section
variable {d : Nat} {h : PH} {Q : Option PV → PH → Prop}
variable {A : AS} {a : Nat} {pt : Nat → PG}
theorem dd_loop {t : Nat} (ht : t < 4) {G : Nat × Int × (Nat → Int)} (hq : ∀ h', RCa h' A a pt → StV h' 71 G.2.2 → fr (frZ (pg a)) h h' → Q (some (vI (G.1 : Int))) h') (hso : A_so A t ≠ -1) :
    ∀ (m i : Nat) (st : Nat → Int) (h1 : PH), i + m = (A_sz A t).toNat → RCa h1 A a pt → StV h1 71 st → SOK (A_g A) st → ddS (A_g A) (fun i => A_vl A (40 * t + i)) m i st = G → fr (frZ (pg a)) h h1 → T2 (d + 2) mX10_draftDeeds 13 [some (vR 64), some (vI (t : Int)), some (vI (i : Int))] [] h1 Q := by
  intro m
  induction m with
  | zero =>
    intro i st h1 hi X hS ok hG hF
    obtain ⟨s1, s2, s3, s4⟩ := tr_sz X (t := (t : Int)) ⟨by omega, by omega⟩
    simp only [Int.toNat_natCast] at s1 s2 s3 s4
    refine BX10_draftDeeds_13 ⟨⟨by omega, by omega⟩, ?_⟩
    try simp only [Int.toNat_natCast]
    rw [(s2 hso).2]
    refine ⟨fun _ => ⟨⟨by omega, by omega⟩, ?_⟩, fun z => by omega⟩
    have e : G = (i, 0, st) := hG.symm
    rw [e] at hq
    have := hq h1 X hS hF
    rw [show A_sz A t = (i : Int) by omega]; exact this
  | succ m ih =>
    intro i st h1 hi X hS ok hG hF
    obtain ⟨s1, s2, s3, s4⟩ := tr_sz X (t := (t : Int)) ⟨by omega, by omega⟩
    simp only [Int.toNat_natCast] at s1 s2 s3 s4
    obtain ⟨okg, oks, hR, -, pc, pu, pl⟩ := X.okg
    refine BX10_draftDeeds_13 ⟨⟨by omega, by omega⟩, ?_⟩
    try simp only [Int.toNat_natCast]
    rw [(s2 hso).2]
    refine ⟨fun z => by omega, fun _ => c_current X ⟨pc, c_get ht (by omega) (fun _ => ?_)⟩⟩
    rw [X.2.2.2.2.2.2.2.2.2.1.2 _ (by omega)]
    unfold ddS at hG
    refine c_deed pc cl71 hR okg hS ok (fun h2 b1 b2 _ => ⟨fun z => ?_, fun z => ?_⟩)
    · obtain ⟨X2, F2⟩ := X.draft b2
      rw [if_neg (fun w => w z)] at hG
      rw [w32_r (by omega) (by omega), show ((i : Int) + 1) = ((i + 1 : Nat) : Int) by omega]
      exact ih (i + 1) _ h2 (by omega) X2 b1 (deedS_ok okg ok _) hG (hF.tr F2)
    · obtain ⟨X2, F2⟩ := X.draft b2
      rw [if_pos z] at hG
      rw [← hG] at hq
      rw [deedS_no z] at b1
      exact hq h2 X2 b1 (hF.tr F2)
theorem c_draftDeeds (X : RCa h A a pt) {t : Nat} (ht : t < 4) (hso : A_so A t ≠ -1) (hq : ∀ h', RCa h' A a pt → StV h' 71 (ddA A t).2.2 → fr (frZ (pg a)) h h' → Q (some (vI ((ddA A t).1 : Int))) h') : C2 (d + 2) mX10_draftDeeds [vR 64, vI (t : Int)] h Q := by
  obtain ⟨okg, oks, hR, hS, pc, pu, pl⟩ := X.okg
  refine EX10_draftDeeds fun _ => BX10_draftDeeds_0 (c_draft X (fun h1 X1 D1 F1 E1 => ⟨rfl, ?_⟩))
  exact dd_loop ht (fun h' b1 b2 b3 => hq h' b1 b2 (F1.tr b3)) hso (A_sz A t).toNat 0 (A_st A) h1 (by omega) X1 D1 oks rfl fr.rf
theorem ddA_ok (ok : AOK A) (t : Nat) : SOK (A_g A) (ddA A t).2.2 ∧ (ddA A t).1 ≤ (A_sz A t).toNat ∧ ((ddA A t).1 = (A_sz A t).toNat ↔ (ddA A t).2.1 = 0) ∧ ((ddA A t).2.1 ≠ 0 → (deedS (A_g A) (ddA A t).2.2 (A_vl A (40 * t + (ddA A t).1))).1 = (ddA A t).2.1) := by
  obtain ⟨a1, a2, a3, a4, a5⟩ := ddS_ok ok.1 (f := fun i => A_vl A (40 * t + i)) (A_sz A t).toNat 0 (A_st A) ok.2.1
  rw [Nat.zero_add] at a3 a4
  exact ⟨a1, a3, a4, a5⟩
def o_perform (A : AS) (t : Int) : Int × AS := if noT A t ≠ 0 then (noT A t, A) else if (ddA A t.toNat).1 = 0 then (0, A) else ((ddA A t.toNat).1, psh A (ddA A t.toNat).2.2)
theorem k_perform (X : RC h A) {t : Int} (hq : ∀ h', RC h' (o_perform A t).2 → fr frCl h h' → Q (some (vI (o_perform A t).1)) h') : C2 (d + 3) mX10_perform [vR 64, vI t] h Q := by
  have hX := X
  obtain ⟨a, pt, X⟩ := X
  obtain ⟨-, -, -, -, -, pu, -⟩ := X.okg
  refine EX10_perform fun _ => BX10_perform_0 (c_refusal X (fun _ => ⟨fun z => ?_, fun z => ?_⟩))
  · obtain ⟨ht, hso⟩ := noT_0 z
    obtain ⟨n, hn⟩ := ex_nat ht.1
    subst hn
    simp only [Int.toNat_natCast] at hso
    obtain ⟨a1, a2, a3, a4⟩ := ddA_ok X.1 n
    refine c_draftDeeds X (by omega) hso (fun h1 X1 D1 F1 _ => ⟨fun y => ?_, fun y => ?_⟩)
    · have e : o_perform A (n : Int) = (0, A) := by unfold o_perform; rw [if_neg (by omega), Int.toNat_natCast, if_pos (by omega)]
      rw [e] at hq
      rw [show (((ddA A n).1 : Nat) : Int) = 0 by omega]
      exact hq h1 ⟨a, pt, X1⟩ (fr_C1 pu F1)
    · have e : o_perform A (n : Int) = ((((ddA A n).1 : Nat) : Int), psh A (ddA A n).2.2) := by unfold o_perform; rw [if_neg (by omega), Int.toNat_natCast, if_neg (by omega)]
      rw [e] at hq
      exact c_takeDraft X1 D1 a1 (fun h2 X2 F2 => ⟨rfl, hq h2 ⟨a, pt, X2⟩ ((fr_C1 pu F1).tr (fr_CE F2))⟩)
  · have e : o_perform A t = (noT A t, A) := by unfold o_perform; rw [if_pos z]
    rw [e] at hq; exact hq h hX fr.rf
def plcd (v : VW) (wi asd : Int) : Int := c_n (fC v wi asd)
def r_judge (A : AS) (t w : Int) : Int := if ¬ jT t ∨ w < 0 ∨ 3 < w then -2 else if A_so A t.toNat = -1 then -6 else if w = 0 then (if (ddA A t.toNat).2.1 = 0 then -1 else (ddA A t.toNat).1) else if w = 1 then (ddA A t.toNat).2.1 else if w = 2 then plcd (vw (A_g A) (ddA A t.toNat).2.2) (A_w A) (-1) else lstL (vw (A_g A) (ddA A t.toNat).2.2) (A_w A) (-1)
theorem DN.placed {t : Nat} {v : VW} {wi asd : Int} (D : DN h t v wi asd) : gi h t 9 = plcd v wi asd := by
  obtain ⟨⟨-, ⟨n, r2⟩, -, -⟩, -, -⟩ := D
  exact r2.2.2.2.2.2.2.2.2.2.1
theorem k_judge (X : RC h A) {t w : Int} (hq : ∀ h', RC h' A → fr frCl h h' → Q (some (vI (r_judge A t w))) h') : C2 (d + 6) mX10_judge [vR 64, vI t, vI w] h Q := by
  have hX := X
  obtain ⟨a, pt, X⟩ := X
  obtain ⟨okg, oks, hR, hS, pc, pu, pl⟩ := X.okg
  unfold r_judge at hq
  have no2 : (¬ jT t ∨ w < 0 ∨ 3 < w) → Q (some (vI (-2))) h := fun z => by
    have := hq h hX fr.rf
    rw [if_pos z] at this; exact this
  refine EX10_judge fun _ _ => BX10_judge_0 (c_isTray (fun _ => ⟨fun z => no2 (Or.inl (if00 z)), fun z => ⟨fun y => no2 (by omega), fun y => ⟨fun y2 => ?_, fun y2 => no2 (by omega)⟩⟩⟩))
  have ht := if01 z
  obtain ⟨s1, s2, s3, s4⟩ := tr_sz X ht
  rw [if_neg (by omega)] at hq
  refine ⟨ht, fun u => ?_, fun u => ?_⟩
  · have hso : A_so A t.toNat ≠ -1 := fun e => by have := s1 e; omega
    rw [if_neg hso] at hq
    obtain ⟨n, hn⟩ := ex_nat ht.1
    subst hn
    simp only [Int.toNat_natCast] at hq hso s2 s3 ⊢
    obtain ⟨a1, a2, a3, a4⟩ := ddA_ok X.1 n
    refine c_draftDeeds X (by omega) hso (fun h1 X1 D1 F1 _ => ⟨ht, ?_⟩)
    obtain ⟨q1, q2, q3, q4⟩ := tr_sz X1 ht
    simp only [Int.toNat_natCast] at q1 q2 q3 q4
    rw [(q2 hso).2]
    have b62 : ∀ x : Int, (x = 0 ∧ (ddA A n).2.1 ≠ 0) ∨ (x = 1 ∧ (ddA A n).2.1 = 0) → T2 (d + 6) mX10_judge 62 [some (vR 64), some (vI (n : Int)), some (vI w), some (vI ((ddA A n).1 : Int)), none] [vI x] h1 Q := by
      intro x hx
      have hq1 := hq h1 ⟨a, pt, X1⟩ (fr_C1 pu F1)
      refine BX10_judge_62 ⟨fun w0 => ⟨fun w1 => ?_, fun w1 => ⟨fun x0 => ?_, fun x0 => ?_⟩⟩, fun w0 => ⟨fun x0 => ?_, fun x0 => ?_⟩⟩
      · refine c_try X1 D1 a1 (fun h2 X2 S2 N2 D2 K2 G2 F2 => ⟨rfl, fun w2 => ?_, fun w2 => ?_⟩)
        · have hq2 := hq h2 ⟨a, pt, X2⟩ ((fr_C1 pu F1).tr (fr_C1 pu F2))
          rw [if_neg w0, if_neg w1, if_neg w2] at hq2
          exact c_lastLine S2 N2 (fun _ => hq2)
        · have hq2 := hq h2 ⟨a, pt, X2⟩ ((fr_C1 pu F1).tr (fr_C1 pu F2))
          rw [if_neg w0, if_neg w1, if_pos w2] at hq2
          rw [N2.placed]; exact hq2
      · obtain ⟨okg1, -, hR1, -⟩ := X1.okg
        have hw : (ddA A n).2.1 ≠ 0 := by omega
        refine c_current X1 ⟨pc, c_get (by omega) (by omega) (fun _ => ?_)⟩
        rw [X1.2.2.2.2.2.2.2.2.2.1.2 _ (by omega)]
        refine c_deed pc cl71 hR1 okg D1 a1 (fun h2 c1 c2 _ => ?_)
        obtain ⟨X2, F2⟩ := X1.draft c2
        have hq2 := hq h2 ⟨a, pt, X2⟩ ((fr_C1 pu F1).tr (fr_C1 pu F2))
        rw [if_neg w0, if_pos w1] at hq2
        rw [a4 hw]; exact hq2
      · rw [if_neg w0, if_pos w1] at hq1
        rw [show (ddA A n).2.1 = 0 by omega] at hq1; exact hq1
      · rw [if_pos w0, if_neg (by omega)] at hq1; exact hq1
      · rw [if_pos w0, if_pos (by omega)] at hq1; exact hq1
    refine ⟨fun v => b62 0 (Or.inl ⟨rfl, fun e => v (by have := a3.mpr e; omega)⟩), fun v => b62 1 (Or.inr ⟨rfl, a3.mp (by omega)⟩)⟩
  · have hso : A_so A t.toNat = -1 := by
      by_cases e : A_so A t.toNat = -1
      · exact e
      · have := (s2 e).2; omega
    have := hq h hX fr.rf
    rw [if_pos hso] at this; exact this
/-- a draw -/
def nxD (x : Int) : Int := w32 (w32 (1103515245 * x) + 12345)
def dv (x : Int) : Int := iushr x 16
def drD (x : Int) : Int × Int :=
  if dv (nxD x) % 5 = 0 then (10 + dv (nxD (nxD x)) % 10, nxD (nxD x)) else if dv (nxD x) % 5 = 1 then (100 + dv (nxD (nxD x)) % 30, nxD (nxD x))
  else if dv (nxD x) % 5 = 2 then (1000 + 100 * (dv (nxD (nxD x)) % 6) + dv (nxD (nxD (nxD x))) % 30, nxD (nxD (nxD x)))
  else if dv (nxD x) % 5 = 3 then (10000 + 1000 * (dv (nxD (nxD x)) % 6) + dv (nxD (nxD (nxD x))) % 201, nxD (nxD (nxD x)))
  else (20000 + 1000 * (dv (nxD (nxD x)) % 6) + dv (nxD (nxD (nxD x))) % 201, nxD (nxD (nxD x)))
theorem c_draw {x : Int} (h16 : gi h 64 16 = x) (hq : Q (some (vI (dv (nxD x)))) (si h 64 16 (nxD x))) : C2 d mX10_draw [vR 64] h Q := by
  refine EX10_draw (BX10_draw_0 (fun h1 e1 => ?_))
  subst e1
  rw [h16, gi_s0]
  exact hq
def fr16 : Nat → Nat → Prop := fun q k => q = 64 ∧ k = 16
theorem c_drawnDeed {x : Int} (h16 : gi h 64 16 = x) (hq : ∀ h', gi h' 64 16 = (drD x).2 → fr fr16 h h' → Q (some (vI (drD x).1)) h') : C2 (d + 1) mX10_drawnDeed [vR 64] h Q := by
  have g1 := iushr16 (nxD x)
  have g2 := iushr16 (nxD (nxD x))
  have g3 := iushr16 (nxD (nxD (nxD x)))
  unfold drD dv at hq
  have F1 : fr fr16 h (si h 64 16 (nxD x)) := fr.rf.si (by unfold fr16; omega)
  have F2 := F1.si (p := 64) (k := 16) (v := nxD (nxD x)) (by unfold fr16; omega)
  have F3 := F2.si (p := 64) (k := 16) (v := nxD (nxD (nxD x))) (by unfold fr16; omega)
  refine EX10_drawnDeed (BX10_drawnDeed_0 (c_draw h16 (fun _ => ?_)))
  unfold dv
  dsimp only
  rw [Int.tmod_eq_emod_of_nonneg g1.1]
  refine ⟨fun z => c_draw gi_s0 (fun _ => ?_), fun z => c_draw gi_s0 (fun _ => ?_), fun z => c_draw gi_s0 (fun _ => c_draw gi_s0 (fun _ => ?_)), fun z => c_draw gi_s0 (fun _ => c_draw gi_s0 (fun _ => ?_)), fun z => c_draw gi_s0 (fun _ => c_draw gi_s0 (fun _ => ?_))⟩
  · unfold dv
    dsimp only
    rw [Int.tmod_eq_emod_of_nonneg g2.1, w32_r (by omega) (by omega)]
    rw [if_pos z] at hq
    exact hq _ gi_s0 F2
  · unfold dv
    dsimp only
    rw [Int.tmod_eq_emod_of_nonneg g2.1, w32_r (by omega) (by omega)]
    rw [if_neg (by omega), if_pos z] at hq
    exact hq _ gi_s0 F2
  · unfold dv
    dsimp only
    rw [Int.tmod_eq_emod_of_nonneg g2.1, Int.tmod_eq_emod_of_nonneg g3.1, w32_r (x := 100 * (iushr (nxD (nxD x)) 16 % 6)) (by omega) (by omega), w32_r (x := 1000 + 100 * (iushr (nxD (nxD x)) 16 % 6)) (by omega) (by omega), w32_r (by omega) (by omega)]
    rw [if_neg (by omega), if_neg (by omega), if_pos z] at hq
    exact hq _ gi_s0 F3
  · unfold dv
    dsimp only
    rw [Int.tmod_eq_emod_of_nonneg g2.1, Int.tmod_eq_emod_of_nonneg g3.1, w32_r (x := 1000 * (iushr (nxD (nxD x)) 16 % 6)) (by omega) (by omega), w32_r (x := 10000 + 1000 * (iushr (nxD (nxD x)) 16 % 6)) (by omega) (by omega), w32_r (by omega) (by omega)]
    rw [if_neg (by omega), if_neg (by omega), if_neg (by omega), if_pos z] at hq
    exact hq _ gi_s0 F3
  · unfold dv
    dsimp only
    rw [Int.tmod_eq_emod_of_nonneg g2.1, Int.tmod_eq_emod_of_nonneg g3.1, w32_r (x := 1000 * (iushr (nxD (nxD x)) 16 % 6)) (by omega) (by omega), w32_r (x := 20000 + 1000 * (iushr (nxD (nxD x)) 16 % 6)) (by omega) (by omega), w32_r (by omega) (by omega)]
    rw [if_neg (by omega), if_neg (by omega), if_neg (by omega), if_neg (by omega)] at hq
    exact hq _ gi_s0 F3
def dyS (g : PG) : Nat → Int → (Nat → Int) → Nat → Nat × (Nat → Int)
  | 0, _, st, n => (n, st)
  | m + 1, x, st, n => if (deedS g st (drD x).1).1 ≠ 0 then dyS g m (drD x).2 st n else dyS g m (drD x).2 (deedS g st (drD x).1).2 (n + 1)
theorem dyS_ok {g : PG} (okg : POK g) : ∀ (m : Nat) (x : Int) (st : Nat → Int) (n : Nat), SOK g st → SOK g (dyS g m x st n).2 := by
  intro m
  induction m with
  | zero => intro x st n h; exact h
  | succ m ih =>
    intro x st n h
    unfold dyS
    split
    · exact ih _ _ _ h
    · exact ih _ _ _ (deedS_ok okg h _)
def o_day (A : AS) (x t : Int) : Int × AS := if t < 1 ∨ 40 < t then (-3, A) else if (dyS (A_g A) t.toNat x (A_st A) 0).1 = 0 then (0, A) else ((dyS (A_g A) t.toNat x (A_st A) 0).1, psh A (dyS (A_g A) t.toNat x (A_st A) 0).2)
theorem RCa.k16 (X : RCa h A a pt) {h' : PH} (hF : fr fr16 h h') : RCa h' A a pt ∧ fr (frZ (pg a)) h h' := by
  obtain ⟨okg, oks, hR, hS, pc, pu, pl⟩ := X.okg
  have F : fr (frZ (pg a)) h h' := hF.mono (fun q k z => by unfold fr16 at z; unfold frZ; omega)
  refine ⟨X.keepZ F ?_ (knw.eq (hF.1 _ _ (by unfold fr16; omega)) (hF.1 _ _ (by unfold fr16; omega))), F⟩
  rw [X.2.1.2.2]
  exact hR.keep (fun q k z1 z2 => hF.1 _ _ (by unfold fr16; omega))
theorem day_loop {t : Nat} (ht : t ≤ 40) {G : Nat × (Nat → Int)} (hq : ∀ h', RCa h' A a pt → StV h' 71 G.2 → fr (frZ (pg a)) h h' → (G.1 = 0 → Q (some (vI 0)) h') ∧ (G.1 ≠ 0 → C2 (d + 2) mX10_takeDraft [vR 64] h' (onV fun h1 => Q (some (vI (G.1 : Int))) h1))) :
    ∀ (m i n : Nat) (x : Int) (st : Nat → Int) (h1 : PH), i + m = t → n ≤ i → RCa h1 A a pt → StV h1 71 st → SOK (A_g A) st → gi h1 64 16 = x → dyS (A_g A) m x st n = G → fr (frZ (pg a)) h h1 → T2 (d + 3) mX10_day 35 [some (vR 64), none, some (vI (t : Int)), some (vI (n : Int)), some (vI (i : Int))] [] h1 Q := by
  intro m
  induction m with
  | zero =>
    intro i n x st h1 hi hn X hS ok h16 hG hF
    have e : G = (n, st) := hG.symm
    rw [e] at hq
    obtain ⟨q1, q2⟩ := hq h1 X hS hF
    refine BX10_day_35 ⟨fun _ => ⟨fun z => ?_, fun z => q2 (by dsimp only; omega)⟩, fun z => by omega⟩
    rw [show (n : Int) = 0 by omega]
    exact q1 (by dsimp only; omega)
  | succ m ih =>
    intro i n x st h1 hi hn X hS ok h16 hG hF
    obtain ⟨okg, oks, hR, -, pc, pu, pl⟩ := X.okg
    refine BX10_day_35 ⟨fun z => by omega, fun _ => c_current X ⟨pc, c_drawnDeed h16 (fun h2 b1 b2 _ => ?_)⟩⟩
    obtain ⟨X2, F2⟩ := X.k16 b2
    obtain ⟨-, -, hR2, -⟩ := X2.okg
    have hS2 : StV h2 71 st := hS.keep (fun q k z1 z2 => b2.1 _ _ (by unfold fr16; omega))
    unfold dyS at hG
    rw [w32_r (x := (i : Int) + 1) (by omega) (by omega), show ((i : Int) + 1) = ((i + 1 : Nat) : Int) by omega, w32_r (x := (n : Int) + 1) (by omega) (by omega), show ((n : Int) + 1) = ((n + 1 : Nat) : Int) by omega]
    refine c_deed pc cl71 hR2 okg hS2 ok (fun h3 c1 c2 _ => ?_)
    obtain ⟨X3, F3⟩ := X2.draft c2
    have e16 : gi h3 64 16 = (drD x).2 := by rw [c2.1 _ _ (by unfold frD; omega)]; exact b1
    refine ⟨fun z => ?_, fun z => ?_⟩
    · rw [if_pos z] at hG
      rw [deedS_no z] at c1
      exact ih (i + 1) n _ st h3 (by omega) (by omega) X3 c1 ok e16 hG ((hF.tr F2).tr F3)
    · rw [if_neg (fun w => w z)] at hG
      exact ih (i + 1) (n + 1) _ _ h3 (by omega) (by omega) X3 c1 (deedS_ok okg ok _) e16 hG ((hF.tr F2).tr F3)
theorem k_day (X : RC h A) {x t : Int} (hq : ∀ h', RC h' (o_day A x t).2 → fr frCl h h' → Q (some (vI (o_day A x t).1)) h') : C2 (d + 3) mX10_day [vR 64, vI x, vI t] h Q := by
  have hX := X
  obtain ⟨a, pt, X⟩ := X
  obtain ⟨okg, oks, hR, hS, pc, pu, pl⟩ := X.okg
  have no3 : (t < 1 ∨ 40 < t) → Q (some (vI (-3))) h := fun w => by
    have e : o_day A x t = (-3, A) := by unfold o_day; rw [if_pos w]
    rw [e] at hq; exact hq h hX fr.rf
  refine EX10_day fun _ _ => BX10_day_0 ⟨fun z => no3 (by omega), fun z => ⟨fun y => ?_, fun y => no3 (by omega)⟩⟩
  refine c_draft X (fun h1 X1 D1 F1 E1 => ⟨rfl, fun h2 e2 => ?_⟩)
  subst e2
  obtain ⟨X2, F2⟩ := X1.k16 (h' := si h1 64 16 x) (fr.rf.si (by unfold fr16; omega))
  obtain ⟨n, hn⟩ := ex_nat (x := t) (by omega)
  subst hn
  refine day_loop (h := h) (by omega) (G := dyS (A_g A) n x (A_st A) 0) (fun h3 X3 D3 F3 => ⟨fun w => ?_, fun w => ?_⟩) n 0 0 x (A_st A) _ (by omega) (by omega) X2 (D1.keep (fun q k z1 z2 => gi_s1 (by omega))) oks gi_s0 rfl (F1.tr F2)
  · have e : o_day A x (n : Int) = (0, A) := by unfold o_day; rw [if_neg (by omega), Int.toNat_natCast, if_pos w]
    rw [e] at hq
    exact hq h3 ⟨a, pt, X3⟩ (fr_C1 pu F3)
  · have e : o_day A x (n : Int) = ((((dyS (A_g A) n x (A_st A) 0).1 : Nat) : Int), psh A (dyS (A_g A) n x (A_st A) 0).2) := by unfold o_day; rw [if_neg (by omega), Int.toNat_natCast, if_neg w]
    rw [e] at hq
    exact c_takeDraft X3 D3 (dyS_ok okg _ _ _ _ oks) (fun h4 X4 F4 => ⟨rfl, hq h4 ⟨a, pt, X4⟩ ((fr_C1 pu F3).tr (fr_CE F4))⟩)
def uI (A : AS) (im : Nat → Option (PG × (Nat → Int))) : AS := (A.1, A.2.1, A.2.2.1, A.2.2.2.1, im, A.2.2.2.2.2)
def uP (A : AS) (g : PG) (st : Nat → Int) : AS := (A.1, A.2.1, (g, st), [], A.2.2.2.2)
def o_image (A : AS) (i : Int) : Int × AS := if i < 0 ∨ 2 ≤ i then (-2, A) else (0, uI A (fun j => if j = i.toNat then some (A_g A, A_st A) else A_im A j))
theorem im_cl {i : Nat} (h : i < 2) : CLf (210 + 4 * i) = 9 := by
  have : i = 0 ∨ i = 1 := by omega
  rcases this with rfl | rfl <;> decide
theorem k_image (X : RC h A) {i : Int} (hq : ∀ h', RC h' (o_image A i).2 → fr frCl h h' → Q (some (vI (o_image A i).1)) h') : C2 (d + 1) mX10_image [vR 64, vI i] h Q := by
  have hX := X
  obtain ⟨a, pt, X⟩ := X
  have no2 : (i < 0 ∨ 2 ≤ i) → Q (some (vI (-2))) h := fun w => by
    have e : o_image A i = (-2, A) := by unfold o_image; rw [if_pos w]
    rw [e] at hq; exact hq h hX fr.rf
  refine EX10_image fun _ => BX10_image_0 ⟨fun z => no2 (by omega), fun z => ⟨fun y => ⟨⟨z, y⟩, fun h1 e1 => ⟨⟨z, y⟩, ?_⟩⟩, fun y => no2 (by omega)⟩⟩
  subst e1
  have e : o_image A i = (0, uI A (fun j => if j = i.toNat then some (A_g A, A_st A) else A_im A j)) := by unfold o_image; rw [if_neg (by omega)]
  rw [e] at hq
  obtain ⟨n, hn⟩ := ex_nat z
  subst hn
  simp only [Int.toNat_natCast] at hq ⊢
  refine c_copy (im_cl (by omega)) cl67 (by omega) (fun h2 b1 b2 => ⟨rfl, ?_⟩)
  obtain ⟨ok, ⟨a1, a2, a3⟩, ⟨c1, c2⟩, ⟨d1, d2⟩, e1, f1, g1, im1, s1, t1, u1⟩ := X
  obtain ⟨pc, pu, pl⟩ := pg_cl a1
  have G : ∀ q k, ¬ inS (210 + 4 * n) q → q ≠ 117 → gi h2 q k = gi h q k := fun q k z1 z2 => by rw [b2.1 q z1 k, gi_s1 z2]
  have G' : ∀ q k, q < 210 → q ≠ 117 → gi h2 q k = gi h q k := fun q k z1 z2 => G q k (by unfold inS; omega) z2
  have F : fr frCl h h2 := (fr.rf.si (by unfold frCl; omega)).tr (b2.fr.mono (fun q k z => by unfold inS at z; unfold frCl; omega))
  have e117 : ∀ j, gi h2 117 j = if j = n then (a : Int) else gi h 117 j := fun j => by
    rw [b2.1 117 (by unfold inS; omega) j, gi_si, a2]
    by_cases ej : j = n
    · rw [if_pos ⟨rfl, ej⟩, if_pos ej]
    · rw [if_neg (fun w => ej w.2), if_neg ej]
  have okg := ok.1
  refine hq h2 ⟨a, pt, ⟨ok.1, ok.2.1, ok.2.2.1, fun j gs hj => ?_, ok.2.2.2.2⟩, ⟨a1, by rw [G' _ _ (by omega) (by omega)]; exact a2, a3⟩, ⟨by rw [G' _ _ (by omega) (by omega)]; exact c1, fun j hj => by rw [G' _ _ (by omega) (by omega)]; exact c2 j hj⟩, ⟨by rw [G _ _ (by unfold inS; omega) (by omega)]; exact d1, by rw [G _ _ (by unfold inS; omega) (by omega)]; exact d2⟩, e1.keep (fun q k z1 z2 => G' _ _ (by omega) (by omega)), f1.keep (fun q k z1 z2 => G' _ _ (by omega) (by omega)), ?_, fun j hj => ?_, ?_, ⟨fun j hj => ?_, fun j hj => ?_⟩, ⟨fun w => ?_, fun w => ?_, fun j hj => ?_⟩⟩ F
  · have hj' : (if j = n then some (A_g A, A_st A) else A_im A j) = some gs := hj
    split at hj'
    · cases hj'; exact ⟨ok.1, ok.2.1⟩
    · exact ok.2.2.2.1 j gs hj'
  · obtain ⟨m, m1, m2, m3, m4⟩ := g1
    exact ⟨m, m1, by rw [G' _ _ (by omega) (by omega)]; exact m2, by rw [G' _ _ (by omega) (by omega)]; exact m3, fun i hi => (m4 i hi).keep (fun q k z1 z2 => G' _ _ (by omega) (by omega))⟩
  · show ((if j = n then some (A_g A, A_st A) else A_im A j) = none → _) ∧ ∀ gs, (if j = n then some (A_g A, A_st A) else A_im A j) = some gs → _
    rw [e117 j]
    by_cases ej : j = n
    · subst ej
      rw [if_pos rfl, if_pos rfl]
      refine ⟨fun w => (by cases w), fun gs w => ?_⟩
      cases w
      exact ⟨a, a1, rfl, a3, e1.keep (fun q k z1 z2 => G' _ _ (by omega) (by omega)), fun k hk => by rw [b1 k hk, SV_eq (h := h) (fun q hq2 j => gi_s1 (by unfold inS at hq2; omega)) k]; exact f1 k hk⟩
    · rw [if_neg ej, if_neg ej]
      refine ⟨(im1 j hj).1, fun gs w => ?_⟩
      obtain ⟨b, q1, q2, q3, q4, q5⟩ := (im1 j hj).2 gs w
      exact ⟨b, q1, q2, q3, q4.keep (fun q k z1 z2 => G' _ _ (by unfold pg at z2; omega) (by unfold pg at z1; omega)), q5.keep (fun q k z1 z2 => G _ _ (by unfold inS; omega) (by omega))⟩
  · rcases s1 with w | ⟨z0, z1, z2, z3, z4, z5⟩
    · left; rw [G' _ _ (by omega) (by omega)]; exact w
    · right
      obtain ⟨x1, ⟨x2, x3, x4⟩, x5, x6, x7⟩ := z1
      refine ⟨by rw [G' _ _ (by omega) (by omega)]; exact z0, ⟨x1, ⟨?_, ?_, ?_⟩, x5.keep (fun q k w => G' _ _ (by omega) (by omega)), x6, x7⟩, z2.keep (fun q k y1 y2 => G _ _ (by unfold inS; omega) (by omega)), z3.keep (fun q k w => G _ _ (by unfold inS; omega) (by omega)), by rw [G' _ _ (by omega) (by omega)]; exact z4, by rw [G' _ _ (by omega) (by omega)]; exact z5⟩
      · rw [b2.2.2 _ (by unfold inS; omega)]; exact x2
      · rw [b2.2.2 _ (by unfold inS; omega)]; exact x3
      · rw [G _ _ (by unfold inS; omega) (by omega)]; exact x4
  · rw [G' _ _ (by omega) (by omega), G' _ _ (by omega) (by omega)]; exact t1.1 j hj
  · rw [b2.2.1 _ (by unfold inS; omega)]; exact t1.2 j hj
  · rw [G' _ _ (by omega) (by omega)]; exact u1.1 w
  · rw [G' _ _ (by omega) (by omega), G' _ _ (by omega) (by omega)]; exact u1.2.1 w
  · rw [G' _ _ (by omega) (by omega), G' _ _ (by omega) (by omega)]; exact u1.2.2 j hj
end
