/-! THE CLASS: trays, the drawer -/
def uT (A : AS) (so sz vl : Nat → Int) : AS := (A.1, A.2.1, A.2.2.1, A.2.2.2.1, A.2.2.2.2.1, (so, sz, vl), A.2.2.2.2.2.2)
def uD (A : AS) (dk dm : Int) (kx ky : Nat → Int) : AS := (A.1, A.2.1, A.2.2.1, A.2.2.2.1, A.2.2.2.2.1, A.2.2.2.2.2.1, (dk, dm, kx, ky))
def frTD : Nat → Nat → Prop := fun q _ => 123 ≤ q ∧ q ≤ 129
theorem RCa.newTD {h h' : PH} {A B : AS} {a : Nat} {pt : Nat → PG} (x : RCa h A a pt) (hF : fr frTD h h') (hok : AOK B) (e1 : B.1 = A.1) (e2 : B.2.1 = A.2.1) (e3 : B.2.2.1 = A.2.2.1) (e4 : B.2.2.2.1 = A.2.2.2.1) (e5 : B.2.2.2.2.1 = A.2.2.2.2.1) (hT : CTr h' B) (hD : CDr h' B) : RCa h' B a pt := by
  obtain ⟨ok, ⟨a1, a2, a3⟩, ⟨b1, b2⟩, ⟨c1, c2⟩, d1, e1', f1, g1, s1, t1, u1⟩ := x
  obtain ⟨pc, pu, pl⟩ := pg_cl a1
  have G : ∀ q k, ¬ frTD q k → gi h' q k = gi h q k := hF.1
  have n1 : A_n B = A_n A := by unfold A_n; rw [e1]
  have n2 : A_tp B = A_tp A := by unfold A_tp; rw [e1]
  have n3 : A_fa B = A_fa A := by unfold A_fa; rw [e2]
  have n4 : A_fp B = A_fp A := by unfold A_fp; rw [e2]
  have n5 : A_g B = A_g A := by unfold A_g; rw [e3]
  have n6 : A_st B = A_st A := by unfold A_st; rw [e3]
  have n7 : A_pa B = A_pa A := by unfold A_pa; rw [e4]
  have n8 : A_im B = A_im A := by unfold A_im; rw [e5]
  refine ⟨hok, ⟨a1, by rw [G _ _ (by unfold frTD; omega)]; exact a2, by rw [n5]; exact a3⟩, ⟨by rw [n1, G _ _ (by unfold frTD; omega)]; exact b1, fun i hi => by rw [n2, G _ _ (by unfold frTD; omega)]; rw [n1] at hi; exact b2 i hi⟩, ⟨by rw [n3, G _ _ (by unfold frTD; omega)]; exact c1, by rw [n4, G _ _ (by unfold frTD; omega)]; exact c2⟩, d1.keep (fun q k z1 z2 => G _ _ (by unfold frTD; omega)), by rw [n6]; exact e1'.keep (fun q k z1 z2 => G _ _ (by unfold frTD; omega)), ?_, ?_, ?_, hT, hD⟩
  · rw [n7]
    obtain ⟨n, m1, m2, m3, m4⟩ := f1
    exact ⟨n, m1, by rw [G _ _ (by unfold frTD; omega)]; exact m2, by rw [G _ _ (by unfold frTD; omega)]; exact m3, fun i hi => (m4 i hi).keep (fun q k z1 z2 => G _ _ (by unfold frTD; omega))⟩
  · rw [n8]
    refine fun i hi => ⟨fun z => by rw [G _ _ (by unfold frTD; omega)]; exact (g1 i hi).1 z, fun gs z => ?_⟩
    obtain ⟨b, q1, q2, q3, q4, q5⟩ := (g1 i hi).2 gs z
    exact ⟨b, q1, by rw [G _ _ (by unfold frTD; omega)]; exact q2, q3, q4.keep (fun q k z1 z2 => G _ _ (by unfold frTD; unfold pg at z1; omega)), q5.keep (fun q k z1 z2 => G _ _ (by unfold frTD; omega))⟩
  · rw [n5, n6]
    rcases s1 with z | ⟨z0, z1, z2, z3, z4, z5⟩
    · left; rw [G _ _ (by unfold frTD; omega)]; exact z
    · right
      obtain ⟨x1, ⟨x2, x3, x4⟩, x5, x6, x7⟩ := z1
      refine ⟨by rw [G _ _ (by unfold frTD; omega)]; exact z0, ⟨x1, ⟨?_, ?_, ?_⟩, x5.keep (fun q k y => G _ _ (by unfold frTD; omega)), x6, x7⟩, z2.keep (fun q k y1 y2 => G _ _ (by unfold frTD; omega)), z3.keep (fun q k y => G _ _ (by unfold frTD; omega)), ?_, ?_⟩
      · rw [hF.2.2 _ _ (by unfold frTD; omega)]; exact x2
      · rw [hF.2.2 _ _ (by unfold frTD; omega)]; exact x3
      · rw [G _ _ (by unfold frTD; omega)]; exact x4
      · rw [G _ _ (by unfold frTD; omega)]; exact z4
      · rw [G _ _ (by unfold frTD; omega)]; exact z5
theorem fr_CT {h h' : PH} (a : fr frTD h h') : fr frCl h h' := a.mono (fun q k z => by unfold frTD at z; unfold frCl; omega)
abbrev jT (t : Int) : Prop := 0 ≤ t ∧ t < 4
/-- why a tray is refused -/
def noT (A : AS) (t : Int) : Int := if jT t then (if A_so A t.toNat = -1 then -6 else 0) else -2
section
variable {d : Nat} {h : PH} {Q : Option PV → PH → Prop}
variable {A : AS} {a : Nat} {pt : Nat → PG}
theorem c_isTray {t : Int} (hq : Q (some (vI (if jT t then 1 else 0))) h) : C2 d mX9_isTray [vR 123, vI t] h Q :=
  EX9_isTray fun _ => BX9_isTray_0 ⟨fun z => by rw [if_neg (by omega)] at hq; exact hq, fun z => ⟨fun y => by rw [if_neg (by omega)] at hq; exact hq, fun y => by rw [if_pos ⟨z, y⟩] at hq; exact hq⟩⟩
theorem tr_sz (X : RCa h A a pt) {t : Int} (ht : jT t) : (A_so A t.toNat = -1 → gi h 126 t.toNat = -1) ∧ (A_so A t.toNat ≠ -1 → gi h 125 t.toNat = A_so A t.toNat ∧ gi h 126 t.toNat = A_sz A t.toNat) ∧ (0 ≤ A_sz A t.toNat ∧ A_sz A t.toNat ≤ 40) ∧ (A_so A t.toNat ≠ -1 → 0 ≤ A_so A t.toNat ∧ A_so A t.toNat ≤ 3) := by
  have h1 := X.2.2.2.2.2.2.2.2.2.1.1 t.toNat (by omega)
  obtain ⟨h2, h3, h4, h5⟩ := X.1.2.2.2.2.2.1 t.toNat
  exact ⟨h1.1, h1.2, ⟨h4, h5⟩, fun z => by omega⟩
theorem c_refusal (X : RCa h A a pt) {t : Int} (hq : Q (some (vI (noT A t))) h) : C2 (d + 1) mX9_refusal [vR 123, vI t] h Q := by
  unfold noT at hq
  refine EX9_refusal fun _ => BX9_refusal_0 (c_isTray (fun _ => ⟨fun z => ?_, fun z => by rw [if_neg (if00 z)] at hq; exact hq⟩))
  have ht := if01 z
  obtain ⟨s1, s2, s3, s4⟩ := tr_sz X ht
  rw [if_pos ht] at hq
  refine ⟨ht, fun y => ?_, fun y => ?_⟩
  · rw [if_neg (fun e => by have := s1 e; omega)] at hq; exact hq
  · rw [if_pos] at hq
    · exact hq
    · by_cases e : A_so A t.toNat = -1
      · exact e
      · have := (s2 e).2; omega
theorem noT_0 {A : AS} {t : Int} (h : noT A t = 0) : jT t ∧ A_so A t.toNat ≠ -1 := by
  unfold noT at h
  split at h
  · rename_i ht
    split at h
    · omega
    · rename_i z; exact ⟨ht, z⟩
  · omega
theorem noT_rg (A : AS) (t : Int) : -6 ≤ noT A t ∧ noT A t ≤ 0 := by
  unfold noT
  split
  · split <;> omega
  · omega
def o_numbers (A : AS) (t so n : Int) : Int × AS := if ¬ jT t ∨ so < 0 ∨ 3 < so then (-2, A) else if n < 0 ∨ 40 < n then (-3, A) else (0, uT A (upf (A_so A) t.toNat so) (upf (A_sz A) t.toNat n) (fun j => if 40 * t.toNat ≤ j ∧ j < 40 * t.toNat + n.toNat then 0 else A_vl A j))
theorem build_loop {t n : Nat} (ht : t < 4) (hn : n ≤ 40) (hq : ∀ h', (∀ j, gj h' 124 j = if 40 * t ≤ j ∧ j < 40 * t + n then 0 else gj h 124 j) → fr (fun q _ => q = 124) h h' → (∀ q k, gi h' q k = gi h q k) → Q none h') : ∀ (m i : Nat) (h1 : PH), i + m = n → (∀ j, gj h1 124 j = if 40 * t ≤ j ∧ j < 40 * t + i then 0 else gj h 124 j) → fr (fun q _ => q = 124) h h1 → (∀ q k, gi h1 q k = gi h q k) → T2 d mX9_build 17 [some (vR 123), some (vI (t : Int)), none, some (vI (n : Int)), some (vI (i : Int))] [] h1 Q := by
  intro m
  induction m with
  | zero =>
    intro i h1 hi hj hF hg
    refine BX9_build_17 ⟨fun _ => ?_, fun z => by omega⟩
    rw [show i = n by omega] at hj
    exact hq h1 hj hF hg
  | succ m ih =>
    intro i h1 hi hj hF hg
    refine BX9_build_17 ⟨fun z => by omega, fun _ => ?_⟩
    rw [w32_r (x := (t : Int) * 40) (by omega) (by omega), w32_r (x := (t : Int) * 40 + i) (by omega) (by omega), w32_r (by omega) (by omega), show ((i : Int) + 1) = ((i + 1 : Nat) : Int) by omega, show ((t : Int) * 40 + (i : Int)).toNat = 40 * t + i by omega]
    refine ⟨⟨by omega, by omega⟩, fun h2 e2 => ?_⟩
    subst e2
    refine ih (i + 1) _ (by omega) (fun j => ?_) (hF.sj rfl) hg
    rw [gj_sj, hj j]
    by_cases e : j = 40 * t + i
    · rw [if_pos ⟨rfl, e⟩, if_pos (by omega)]
    · rw [if_neg (fun z => e z.2)]
      by_cases e2 : 40 * t ≤ j ∧ j < 40 * t + i
      · rw [if_pos e2, if_pos (by omega)]
      · rw [if_neg e2, if_neg (by omega)]
theorem k_numbers (X : RC h A) {t so n : Int} (hq : ∀ h', RC h' (o_numbers A t so n).2 → fr frCl h h' → Q (some (vI (o_numbers A t so n).1)) h') : C2 (d + 2) mX10_numbers [vR 64, vI t, vI so, vI n] h Q := by
  have hX := X
  obtain ⟨a, pt, X⟩ := X
  have no2 : (¬ jT t ∨ so < 0 ∨ 3 < so) → Q (some (vI (-2))) h := fun z => by
    have e : o_numbers A t so n = (-2, A) := by unfold o_numbers; rw [if_pos z]
    rw [e] at hq; exact hq h hX fr.rf
  refine EX10_numbers fun _ _ _ => BX10_numbers_0 (c_isTray (fun _ => ⟨fun z => no2 (Or.inl (if00 z)), fun z => ⟨fun y => no2 (by omega), fun y => ⟨fun y2 => ?_, fun y2 => no2 (by omega)⟩⟩⟩))
  have ht := if01 z
  have no3 : (n < 0 ∨ 40 < n) → Q (some (vI (-3))) h := fun w => by
    have e : o_numbers A t so n = (-3, A) := by unfold o_numbers; rw [if_neg (by omega), if_pos w]
    rw [e] at hq; exact hq h hX fr.rf
  refine ⟨fun u => no3 (by omega), fun u => ⟨fun u2 => ?_, fun u2 => no3 (by omega)⟩⟩
  have e : o_numbers A t so n = (0, uT A (upf (A_so A) t.toNat so) (upf (A_sz A) t.toNat n) (fun j => if 40 * t.toNat ≤ j ∧ j < 40 * t.toNat + n.toNat then 0 else A_vl A j)) := by unfold o_numbers; rw [if_neg (by omega), if_neg (by omega)]
  rw [e] at hq
  obtain ⟨tn, hn⟩ := ex_nat ht.1
  obtain ⟨nn, hn2⟩ := ex_nat u
  subst hn hn2
  simp only [Int.toNat_natCast] at hq
  refine EX9_build fun _ _ _ => BX9_build_0 ⟨ht, fun h1 e1 => ⟨ht, fun h2 e2 => ?_⟩⟩
  subst e1 e2
  try simp only [Int.toNat_natCast]
  refine build_loop (h := si (si h 125 tn so) 126 tn (nn : Int)) (by omega) (by omega) (fun h3 b1 b2 b3 => ⟨rfl, ?_⟩) nn 0 _ (by omega) (fun j => by rw [if_neg (by omega)]) fr.rf (fun _ _ => rfl)
  have F : fr frTD h h3 := ((fr.rf.si (by unfold frTD; omega)).si (by unfold frTD; omega)).tr (b2.mono (fun q k z => by unfold frTD; omega))
  obtain ⟨o1, o2, o3, o4, o5, o6, o7⟩ := X.1
  have t1 := X.2.2.2.2.2.2.2.2.2.1
  have u1 := X.2.2.2.2.2.2.2.2.2.2
  refine hq h3 ⟨a, pt, X.newTD F ⟨o1, o2, o3, o4, o5, fun i => ?_, o7⟩ rfl rfl rfl rfl rfl ⟨fun i hi => ?_, fun j hj => ?_⟩ ⟨fun z => ?_, fun z => ?_, fun j hj => ?_⟩⟩ (fr_CT F)
  · have := o6 i
    show -1 ≤ upf (A_so A) tn so i ∧ upf (A_so A) tn so i ≤ 3 ∧ 0 ≤ upf (A_sz A) tn nn i ∧ upf (A_sz A) tn nn i ≤ 40
    unfold upf
    split <;> omega
  · show (upf (A_so A) tn so i = -1 → _) ∧ (upf (A_so A) tn so i ≠ -1 → gi h3 125 i = upf (A_so A) tn so i ∧ gi h3 126 i = upf (A_sz A) tn nn i)
    unfold upf
    rw [b3, b3]
    by_cases ei : i = tn
    · subst ei
      rw [if_pos rfl, if_pos rfl]
      refine ⟨fun w => by omega, fun _ => ⟨?_, ?_⟩⟩
      · simp (disch := omega) only [gi_s0, gi_s1, gi_s2, gj_s0, gj_s1, gj_s2, gi_f0, gi_f1, gj_f0, gj_f1, gr_r0, gr_r1, gr_r2, gi_sj, gi_sr, gj_si, gj_sr, gr_si, gr_sj, gr_stI, gj_stI, gi_stJ, gr_stJ]
      · simp (disch := omega) only [gi_s0, gi_s1, gi_s2, gj_s0, gj_s1, gj_s2, gi_f0, gi_f1, gj_f0, gj_f1, gr_r0, gr_r1, gr_r2, gi_sj, gi_sr, gj_si, gj_sr, gr_si, gr_sj, gr_stI, gj_stI, gi_stJ, gr_stJ]
    · rw [if_neg ei, if_neg ei]
      have := t1.1 i hi
      simp (disch := omega) only [gi_s0, gi_s1, gi_s2, gj_s0, gj_s1, gj_s2, gi_f0, gi_f1, gj_f0, gj_f1, gr_r0, gr_r1, gr_r2, gi_sj, gi_sr, gj_si, gj_sr, gr_si, gr_sj, gr_stI, gj_stI, gi_stJ, gr_stJ]
      exact this
  · show gj h3 124 j = if 40 * tn ≤ j ∧ j < 40 * tn + nn then 0 else A_vl A j
    rw [b1 j, show gj (si (si h 125 tn so) 126 tn (nn : Int)) 124 j = gj h 124 j from rfl, t1.2 j hj]
  · rw [b3]; simp (disch := omega) only [gi_s0, gi_s1, gi_s2, gj_s0, gj_s1, gj_s2, gi_f0, gi_f1, gj_f0, gj_f1, gr_r0, gr_r1, gr_r2, gi_sj, gi_sr, gj_si, gj_sr, gr_si, gr_sj, gr_stI, gj_stI, gi_stJ, gr_stJ]; exact u1.1 z
  · rw [b3, b3]; simp (disch := omega) only [gi_s0, gi_s1, gi_s2, gj_s0, gj_s1, gj_s2, gi_f0, gi_f1, gj_f0, gj_f1, gr_r0, gr_r1, gr_r2, gi_sj, gi_sr, gj_si, gj_sr, gr_si, gr_sj, gr_stI, gj_stI, gi_stJ, gr_stJ]; exact u1.2.1 z
  · rw [b3, b3]; simp (disch := omega) only [gi_s0, gi_s1, gi_s2, gj_s0, gj_s1, gj_s2, gi_f0, gi_f1, gj_f0, gj_f1, gr_r0, gr_r1, gr_r2, gi_sj, gi_sr, gj_si, gj_sr, gr_si, gr_sj, gr_stI, gj_stI, gi_stJ, gr_stJ]; exact u1.2.2 j hj
def cutT (so v : Int) : Int := if so = 0 then i2b (w32 v) else if so = 1 then i2s (w32 v) else if so = 2 then w32 v else v
theorem c_get {t i : Nat} (ht : t < 4) (hi : i < 40) (hq : Q (some (vJ (gj h 124 (40 * t + i)))) h) : C2 d mX9_get [vR 123, vI (t : Int), vI (i : Int)] h Q := by
  refine EX9_get fun _ _ => BX9_get_0 ?_
  rw [w32_r (x := (t : Int) * 40) (by omega) (by omega), w32_r (by omega) (by omega), show ((t : Int) * 40 + (i : Int)).toNat = 40 * t + i by omega]
  exact ⟨⟨by omega, by omega⟩, hq⟩
theorem c_put {t i : Nat} {v so : Int} (ht : t < 4) (hi : i < 40) (hs : gi h 125 t = so) (hs0 : 0 ≤ so ∧ so ≤ 3) (hq : Q (some (vJ (cutT so v))) (sj h 124 (40 * t + i) (cutT so v))) : C2 d mX9_put [vR 123, vI (t : Int), vI (i : Int), vJ v] h Q := by
  have fin : ∀ x, x = cutT so v → T2 d mX9_put 62 [some (vR 123), some (vI (t : Int)), some (vI (i : Int)), none, none, some (vJ x), none] [] h Q := by
    intro x hx
    refine BX9_put_62 ?_
    rw [w32_r (x := (t : Int) * 40) (by omega) (by omega), w32_r (by omega) (by omega), show ((t : Int) * 40 + (i : Int)).toNat = 40 * t + i by omega]
    refine ⟨⟨by omega, by omega⟩, fun h2 e2 => ?_⟩
    subst e2
    rw [hx]; exact hq
  refine EX9_put fun _ _ _ => BX9_put_0 ?_
  try simp only [Int.toNat_natCast]
  rw [hs]
  unfold cutT at fin
  refine ⟨⟨by omega, by omega⟩, fun z => fin _ ?_, fun z => fin _ ?_, fun z => fin _ ?_, fun z => fin _ ?_⟩
  · rw [if_pos z]
  · rw [if_neg (by omega), if_pos z]
  · rw [if_neg (by omega), if_neg (by omega), if_pos z]
  · rw [if_neg (by omega), if_neg (by omega), if_neg (by omega)]
def o_write (A : AS) (t i v : Int) : Int × AS := if noT A t ≠ 0 then (noT A t, A) else if i < 0 ∨ A_sz A t.toNat ≤ i then (-7, A) else (cutT (A_so A t.toNat) v, uT A (A_so A) (A_sz A) (upf (A_vl A) (40 * t.toNat + i.toNat) (cutT (A_so A t.toNat) v)))
theorem RCa.newVl (X : RCa h A a pt) {vl : Nat → Int} {h' : PH} (hF : fr (fun q _ => q = 124) h h') (hg : ∀ q k, gi h' q k = gi h q k) (hv : ∀ j, j < 160 → gj h' 124 j = vl j) : RCa h' (uT A (A_so A) (A_sz A) vl) a pt := by
  obtain ⟨o1, o2, o3, o4, o5, o6, o7⟩ := X.1
  have t1 := X.2.2.2.2.2.2.2.2.2.1
  have u1 := X.2.2.2.2.2.2.2.2.2.2
  refine X.newTD (hF.mono (fun q k z => by unfold frTD; omega)) ⟨o1, o2, o3, o4, o5, o6, o7⟩ rfl rfl rfl rfl rfl ⟨fun i hi => ?_, hv⟩ ⟨fun z => ?_, fun z => ?_, fun j hj => ?_⟩
  · rw [hg, hg]; exact t1.1 i hi
  · rw [hg]; exact u1.1 z
  · rw [hg, hg]; exact u1.2.1 z
  · rw [hg, hg]; exact u1.2.2 j hj
theorem k_write (X : RC h A) {t i v : Int} (hq : ∀ h', RC h' (o_write A t i v).2 → fr frCl h h' → Q (some (vJ (o_write A t i v).1)) h') : C2 (d + 2) mX10_write [vR 64, vI t, vI i, vJ v] h Q := by
  have hX := X
  obtain ⟨a, pt, X⟩ := X
  refine EX10_write fun _ _ _ => BX10_write_0 (c_refusal X (fun _ => ⟨fun z => ?_, fun z => ?_⟩))
  · obtain ⟨ht, hso⟩ := noT_0 z
    obtain ⟨s1, s2, s3, s4⟩ := tr_sz X ht
    have no7 : (i < 0 ∨ A_sz A t.toNat ≤ i) → Q (some (vJ (-7))) h := fun w => by
      have e : o_write A t i v = (-7, A) := by unfold o_write; rw [if_neg (by omega), if_pos w]
      rw [e] at hq; exact hq h hX fr.rf
    refine ⟨fun y => no7 (by omega), fun y => ⟨ht, ?_⟩⟩
    rw [(s2 hso).2]
    refine ⟨fun u => ?_, fun u => no7 (by omega)⟩
    have e : o_write A t i v = (cutT (A_so A t.toNat) v, uT A (A_so A) (A_sz A) (upf (A_vl A) (40 * t.toNat + i.toNat) (cutT (A_so A t.toNat) v))) := by unfold o_write; rw [if_neg (by omega), if_neg (by omega)]
    rw [e] at hq
    obtain ⟨tn, hn⟩ := ex_nat ht.1
    obtain ⟨i', hi'⟩ := ex_nat y
    subst hn hi'
    simp only [Int.toNat_natCast] at hq s2 s3 s4 hso u
    refine c_put (by omega) (by omega) (s2 hso).1 (s4 hso) (fun _ => ?_)
    have F : fr (fun q _ => q = 124) h (sj h 124 (40 * tn + i') (cutT (A_so A tn) v)) := fr.rf.sj rfl
    refine hq _ ⟨a, pt, X.newVl F (fun _ _ => rfl) (fun j hj => ?_)⟩ (F.mono (fun q k z => by unfold frCl; omega))
    rw [gj_sj]
    unfold upf
    by_cases ej : j = 40 * tn + i'
    · rw [if_pos ⟨rfl, ej⟩, if_pos ej]
    · rw [if_neg (fun w => ej w.2), if_neg ej]; exact X.2.2.2.2.2.2.2.2.2.1.2 j hj
  · have e : o_write A t i v = (noT A t, A) := by unfold o_write; rw [if_pos z]
    rw [e] at hq; exact hq h hX fr.rf
theorem cut_small : ∀ i : Fin 30, i2b (w32 ((i.val : Int) - 5)) = (i.val : Int) - 5 ∧ i2s (w32 ((i.val : Int) - 5)) = (i.val : Int) - 5 := by decide +kernel
theorem cutT_small {so x : Int} (h1 : -5 ≤ x) (h2 : x < 25) : cutT so x = x := by
  obtain ⟨f1, f2⟩ := cut_small ⟨(x + 5).toNat, by omega⟩
  have e : (((x + 5).toNat : Nat) : Int) - 5 = x := by omega
  dsimp only at f1 f2
  rw [e] at f1 f2
  unfold cutT
  split
  · exact f1
  · split
    · exact f2
    · split
      · exact w32_r (by omega) (by omega)
      · rfl
def o_lists (A : AS) (t : Int) : Int × AS := if noT A t ≠ 0 then (noT A t, A) else (min (g_W (A_g A) : Int) (A_sz A t.toNat), uT A (A_so A) (A_sz A) (fun j => if 40 * t.toNat ≤ j ∧ j < 40 * t.toNat + (min (g_W (A_g A) : Int) (A_sz A t.toNat)).toNat then aL A ((j - 40 * t.toNat : Nat) : Int) else A_vl A j))
theorem aL_rg (X : RCa h A a pt) (w : Int) : -1 ≤ aL A w ∧ aL A w < 20 := by
  have okg1 := X.1.1.1
  have := lnW_rg (v := A_v A) (wi := A_w A) (by show 0 ≤ g_wi (A_g A); omega) (ht := aH A) w
  have e : v_ln (A_v A) = g_ln (A_g A) := rfl
  rw [e] at this
  have e2 : aL A w = lnW (A_v A) (A_w A) (aH A) w := rfl
  omega
theorem lists_loop (X : RCa h A a pt) (N : NW h A a) {t n : Nat} (ht : t < 4) (hn : n ≤ 30) (hn2 : n ≤ 40) (hso : A_so A t ≠ -1) (hq : ∀ h', (∀ j, gj h' 124 j = if 40 * t ≤ j ∧ j < 40 * t + n then aL A ((j - 40 * t : Nat) : Int) else gj h 124 j) → fr (fun q _ => q = 124) h h' → (∀ q k, gi h' q k = gi h q k) → Q (some (vI (n : Int))) h') : ∀ (m i : Nat) (h1 : PH), i + m = n → (∀ j, gj h1 124 j = if 40 * t ≤ j ∧ j < 40 * t + i then aL A ((j - 40 * t : Nat) : Int) else gj h 124 j) → fr (fun q _ => q = 124) h h1 → (∀ q k, gi h1 q k = gi h q k) → T2 (d + 1) mX10_lists 44 [some (vR 64), some (vI (t : Int)), none, some (vR 219), some (vI (n : Int)), some (vI (i : Int))] [] h1 Q := by
  intro m
  induction m with
  | zero =>
    intro i h1 hi hj hF hg
    refine BX10_lists_44 cl219 ⟨fun _ => ?_, fun z => by omega⟩
    rw [show i = n by omega] at hj
    exact hq h1 hj hF hg
  | succ m ih =>
    intro i h1 hi hj hF hg
    refine BX10_lists_44 cl219 ⟨fun z => by omega, fun _ => ?_⟩
    have S1 : StC h1 219 (pg a) 67 (A_st A 19).toNat (vw (A_g A) (A_st A)) (g_wi (A_g A)) := by
      obtain ⟨x1, ⟨x2, x3, x4⟩, x5, x6⟩ := N.1
      exact ⟨x1, ⟨by rw [hF.2.2 _ _ (by omega)]; exact x2, by rw [hF.2.2 _ _ (by omega)]; exact x3, by rw [hg]; exact x4⟩, x5.keep (fun q k z => hg _ _), x6⟩
    have P1 := N.2.2.keep (h' := h1) (fun q k z => hg _ _)
    obtain ⟨s1, s2, s3, s4⟩ := tr_sz X (t := (t : Int)) ⟨by omega, by omega⟩
    simp only [Int.toNat_natCast] at s2 s4
    have hr := aL_rg X (i : Int)
    refine c_lineOf S1 P1 (by omega) (fun _ => c_put ht (by omega) (by rw [hg]; exact (s2 hso).1) (s4 hso) (fun _ => ?_))
    have e : cutT (A_so A t) (lnW (vw (A_g A) (A_st A)) (g_wi (A_g A)) (fH (vw (A_g A) (A_st A)) (g_wi (A_g A)) (-1)) (i : Int)) = aL A (i : Int) := cutT_small (by have e2 : aL A (i : Int) = lnW (vw (A_g A) (A_st A)) (g_wi (A_g A)) (fH (vw (A_g A) (A_st A)) (g_wi (A_g A)) (-1)) (i : Int) := rfl; omega) (by have e2 : aL A (i : Int) = lnW (vw (A_g A) (A_st A)) (g_wi (A_g A)) (fH (vw (A_g A) (A_st A)) (g_wi (A_g A)) (-1)) (i : Int) := rfl; omega)
    rw [e, w32_r (by omega) (by omega), show ((i : Int) + 1) = ((i + 1 : Nat) : Int) by omega]
    refine ih (i + 1) _ (by omega) (fun j => ?_) (hF.sj rfl) hg
    rw [gj_sj, hj j]
    by_cases ej : j = 40 * t + i
    · rw [if_pos ⟨rfl, ej⟩, if_pos (by omega), show j - 40 * t = i by omega]
    · rw [if_neg (fun z => ej z.2)]
      by_cases e2 : 40 * t ≤ j ∧ j < 40 * t + i
      · rw [if_pos e2, if_pos (by omega)]
      · rw [if_neg e2, if_neg (by omega)]
theorem k_lists (X : RC h A) {t : Int} (hq : ∀ h', RC h' (o_lists A t).2 → fr frCl h h' → Q (some (vI (o_lists A t).1)) h') : C2 (d + 6) mX10_lists [vR 64, vI t] h Q := by
  have hX := X
  obtain ⟨a, pt, X⟩ := X
  obtain ⟨okg, oks, hR, hS, pc, pu, pl⟩ := X.okg
  have okg1 := okg.1
  refine EX10_lists fun _ => BX10_lists_0 (c_refusal X (fun _ => ⟨fun z => ?_, fun z => ?_⟩))
  · obtain ⟨ht, hso⟩ := noT_0 z
    have e : o_lists A t = (min (g_W (A_g A) : Int) (A_sz A t.toNat), uT A (A_so A) (A_sz A) (fun j => if 40 * t.toNat ≤ j ∧ j < 40 * t.toNat + (min (g_W (A_g A) : Int) (A_sz A t.toNat)).toNat then aL A ((j - 40 * t.toNat : Nat) : Int) else A_vl A j)) := by unfold o_lists; rw [if_neg (by omega)]
    rw [e] at hq
    refine c_setting X (fun h1 X1 N1 F1 => ⟨cl219, c_current X1 ⟨pc, ht, ?_⟩⟩)
    obtain ⟨-, -, hR1, -⟩ := X1.okg
    obtain ⟨s1, s2, s3, s4⟩ := tr_sz X1 ht
    rw [hR1.1.2.2.2.2.2.2, (s2 hso).2]
    refine c_min fun _ => ?_
    obtain ⟨tn, hn⟩ := ex_nat ht.1
    subst hn
    simp only [Int.toNat_natCast] at hq s2 s3 s4 hso ⊢
    obtain ⟨n, hn⟩ := ex_nat (x := min (g_W (A_g A) : Int) (A_sz A tn)) (by omega)
    rw [hn] at hq ⊢
    simp only [Int.toNat_natCast] at hq
    refine lists_loop X1 N1 (t := tn) (n := n) (by omega) (by omega) (by omega) hso (fun h2 b1 b2 b3 => ?_) n 0 h1 (by omega) (fun j => by rw [if_neg (by omega)]) fr.rf (fun _ _ => rfl)
    refine hq h2 ⟨a, pt, X1.newVl b2 b3 (fun j hj => ?_)⟩ (F1.tr (b2.mono (fun q k z => by unfold frCl; omega)))
    rw [b1 j, X1.2.2.2.2.2.2.2.2.2.1.2 j hj]
  · have e : o_lists A t = (noT A t, A) := by unfold o_lists; rw [if_pos z]
    rw [e] at hq; exact hq h hX fr.rf
def o_drawer (A : AS) (k n : Int) : Int × AS := if k < 0 ∨ 2 < k then (-2, A) else if n < 0 ∨ 9 < n then (-3, A) else (0, uD A k n (fun j => if j < 9 then -1 else A_kx A j) (A_ky A))
theorem k_drawer (X : RC h A) {k n : Int} (hq : ∀ h', RC h' (o_drawer A k n).2 → fr frCl h h' → Q (some (vI (o_drawer A k n).1)) h') : C2 (d + 2) mX10_drawer [vR 64, vI k, vI n] h Q := by
  have hX := X
  obtain ⟨a, pt, X⟩ := X
  have no2 : (k < 0 ∨ 2 < k) → Q (some (vI (-2))) h := fun z => by
    have e : o_drawer A k n = (-2, A) := by unfold o_drawer; rw [if_pos z]
    rw [e] at hq; exact hq h hX fr.rf
  refine EX10_drawer fun _ _ => BX10_drawer_0 ⟨fun z => no2 (by omega), fun z => ⟨fun y => ?_, fun y => no2 (by omega)⟩⟩
  have no3 : (n < 0 ∨ 9 < n) → Q (some (vI (-3))) h := fun w => by
    have e : o_drawer A k n = (-3, A) := by unfold o_drawer; rw [if_neg (by omega), if_pos w]
    rw [e] at hq; exact hq h hX fr.rf
  refine ⟨fun u => no3 (by omega), fun u => ⟨fun u2 => ?_, fun u2 => no3 (by omega)⟩⟩
  have e : o_drawer A k n = (0, uD A k n (fun j => if j < 9 then -1 else A_kx A j) (A_ky A)) := by unfold o_drawer; rw [if_neg (by omega), if_neg (by omega)]
  rw [e] at hq
  refine EX1_build fun _ _ => BX1_build_0 (fun h1 e1 h2 e2 => c_fillI (by decide) ⟨rfl, ⟨rfl, ?_⟩⟩)
  subst e1 e2
  rw [show LNf 128 = 9 by decide]
  have F : fr frTD h (stI (si (si h 127 0 k) 127 1 n) 128 (fun j => if j < 9 then -1 else gi (si (si h 127 0 k) 127 1 n) 128 j)) := ((fr.rf.si (by unfold frTD; omega)).si (by unfold frTD; omega)).stI (fun k => by unfold frTD; omega)
  obtain ⟨o1, o2, o3, o4, o5, o6, o7⟩ := X.1
  have t1 := X.2.2.2.2.2.2.2.2.2.1
  have u1 := X.2.2.2.2.2.2.2.2.2.2
  refine hq _ ⟨a, pt, X.newTD F ⟨o1, o2, o3, o4, o5, o6, by show -1 ≤ k; omega, y, u, u2, fun j => ?_⟩ rfl rfl rfl rfl rfl ⟨fun i hi => ?_, fun j hj => ?_⟩ ⟨fun w => ?_, fun w => ⟨?_, ?_⟩, fun j hj => ⟨?_, ?_⟩⟩⟩ (fr_CT F)
  · show -1 ≤ (if j < 9 then -1 else A_kx A j)
    have := o7.2.2.2.2 j
    split <;> omega
  · have := t1.1 i hi
    simp (disch := omega) only [gi_s0, gi_s1, gi_s2, gj_s0, gj_s1, gj_s2, gi_f0, gi_f1, gj_f0, gj_f1, gr_r0, gr_r1, gr_r2, gi_sj, gi_sr, gj_si, gj_sr, gr_si, gr_sj, gr_stI, gj_stI, gi_stJ, gr_stJ]
    exact this
  · exact t1.2 j hj
  · have : k = -1 := w
    omega
  · simp (disch := omega) only [gi_s0, gi_s1, gi_s2, gj_s0, gj_s1, gj_s2, gi_f0, gi_f1, gj_f0, gj_f1, gr_r0, gr_r1, gr_r2, gi_sj, gi_sr, gj_si, gj_sr, gr_si, gr_sj, gr_stI, gj_stI, gi_stJ, gr_stJ]; rfl
  · simp (disch := omega) only [gi_s0, gi_s1, gi_s2, gj_s0, gj_s1, gj_s2, gi_f0, gi_f1, gj_f0, gj_f1, gr_r0, gr_r1, gr_r2, gi_sj, gi_sr, gj_si, gj_sr, gr_si, gr_sj, gr_stI, gj_stI, gi_stJ, gr_stJ]; rfl
  · show _ = if j < 9 then -1 else A_kx A j
    simp (disch := omega) only [gi_s0, gi_s1, gi_s2, gj_s0, gj_s1, gj_s2, gi_f0, gi_f1, gj_f0, gj_f1, gr_r0, gr_r1, gr_r2, gi_sj, gi_sr, gj_si, gj_sr, gr_si, gr_sj, gr_stI, gj_stI, gi_stJ, gr_stJ]
    rw [if_pos hj, if_pos hj]
  · simp (disch := omega) only [gi_s0, gi_s1, gi_s2, gj_s0, gj_s1, gj_s2, gi_f0, gi_f1, gj_f0, gj_f1, gr_r0, gr_r1, gr_r2, gi_sj, gi_sr, gj_si, gj_sr, gr_si, gr_sj, gr_stI, gj_stI, gi_stJ, gr_stJ]; exact (u1.2.2 j hj).2
def noD (A : AS) (p : Int) : Int := if A_dk A = -1 then -6 else if p < 0 ∨ A_dm A ≤ p then -7 else 0
theorem c_refD (X : RCa h A a pt) {p : Int} (hq : Q (some (vI (noD A p))) h) : C2 d mX1_refusal [vR 127, vI p] h Q := by
  have u1 := X.2.2.2.2.2.2.2.2.2.2
  have o7 := X.1.2.2.2.2.2.2
  unfold noD at hq
  refine EX1_refusal fun _ => BX1_refusal_0 ⟨fun z => ?_, fun z => ?_⟩
  · have hk : A_dk A ≠ -1 := fun e => by have := u1.1 e; omega
    rw [if_neg hk] at hq
    rw [(u1.2.1 hk).2]
    exact ⟨fun y => by rw [if_pos (Or.inl y)] at hq; exact hq, fun y => ⟨fun w => by rw [if_neg (by omega)] at hq; exact hq, fun w => by rw [if_pos (Or.inr w)] at hq; exact hq⟩⟩
  · by_cases hk : A_dk A = -1
    · rw [if_pos hk] at hq; exact hq
    · have := (u1.2.1 hk).2; omega
theorem noD_0 {A : AS} {p : Int} (h : noD A p = 0) : A_dk A ≠ -1 ∧ 0 ≤ p ∧ p < A_dm A := by
  unfold noD at h
  split at h
  · omega
  · rename_i z
    split at h
    · omega
    · exact ⟨z, by omega, by omega⟩
def o_keep (A : AS) (p s : Int) : Int × AS := if ¬ jS A s then (-2, A) else if noD A p ≠ 0 then (noD A p, A) else if g_kd (A_g A) s.toNat ≠ A_dk A then (-8, A) else (0, uD A (A_dk A) (A_dm A) (upf (A_kx A) p.toNat (A_st A s.toNat)) (upf (A_ky A) p.toNat (A_st A (6 + s.toNat))))
theorem k_keep (X : RC h A) {p s : Int} (hq : ∀ h', RC h' (o_keep A p s).2 → fr frCl h h' → Q (some (vI (o_keep A p s).1)) h') : C2 (d + 2) mX10_keep [vR 64, vI p, vI s] h Q := by
  have hX := X
  obtain ⟨a, pt, X⟩ := X
  obtain ⟨okg, oks, hR, hS, pc, pu, pl⟩ := X.okg
  have okg1 := okg.1
  obtain ⟨o1, o2, o3, o4, o5, o6, o7⟩ := X.1
  have t1 := X.2.2.2.2.2.2.2.2.2.1
  have u1 := X.2.2.2.2.2.2.2.2.2.2
  refine EX10_keep fun _ _ => BX10_keep_0 (c_isShape X (fun _ => ⟨fun z => ?_, fun z => ?_⟩))
  · have hs : jS A s := if01 z
    refine c_refD X (fun _ => ⟨fun y => c_current X ⟨pc, ⟨by omega, by omega⟩, ?_⟩, fun y => ?_⟩)
    · obtain ⟨hk, p0, p1⟩ := noD_0 y
      obtain ⟨n, hn⟩ := ex_nat hs.1
      obtain ⟨m, hm⟩ := ex_nat p0
      subst hn hm
      have hn : n < g_S (A_g A) := by omega
      try simp only [Int.toNat_natCast]
      rw [(hR.2.1 n hn).1, (u1.2.1 hk).1]
      refine ⟨fun w => ⟨⟨by omega, by omega⟩, ⟨by omega, by omega⟩, fun h1 e1 => ⟨⟨by omega, by omega⟩, ⟨by omega, by omega⟩, fun h2 e2 => ?_⟩⟩, fun w => ?_⟩
      · subst e1 e2
        have ex : gi h 68 n = A_st A n := by have := hS n (by omega); rw [SV_1 (by omega)] at this; exact this
        have ey : gi h 69 n = A_st A (6 + n) := by have := hS (6 + n) (by omega); rw [SV_2 (by omega)] at this; exact this
        simp (disch := omega) only [gi_s0, gi_s1, gi_s2, gj_s0, gj_s1, gj_s2, gi_f0, gi_f1, gj_f0, gj_f1, gr_r0, gr_r1, gr_r2, gi_sj, gi_sr, gj_si, gj_sr, gr_si, gr_sj, gr_stI, gj_stI, gi_stJ, gr_stJ]
        rw [ex, ey]
        have e : o_keep A (m : Int) (n : Int) = (0, uD A (A_dk A) (A_dm A) (upf (A_kx A) m (A_st A n)) (upf (A_ky A) m (A_st A (6 + n)))) := by
          unfold o_keep
          simp only [Int.toNat_natCast]
          rw [if_neg (fun z => z hs), if_neg (by omega), if_neg (fun z => z w)]
        rw [e] at hq
        have F : fr frTD h (si (si h 128 m (A_st A n)) 129 m (A_st A (6 + n))) := (fr.rf.si (by unfold frTD; omega)).si (by unfold frTD; omega)
        refine hq _ ⟨a, pt, X.newTD F ⟨o1, o2, o3, o4, o5, o6, o7.1, o7.2.1, o7.2.2.1, o7.2.2.2.1, fun j => ?_⟩ rfl rfl rfl rfl rfl ⟨fun i hi => ?_, fun j hj => ?_⟩ ⟨fun w => ?_, fun w => ?_, fun j hj => ?_⟩⟩ (fr_CT F)
        · show -1 ≤ upf (A_kx A) m (A_st A n) j
          have h1 := o7.2.2.2.2 j
          have h2 := (oks.1 n (by omega)).1
          unfold upf
          split <;> omega
        · have := t1.1 i hi
          simp (disch := omega) only [gi_s0, gi_s1, gi_s2, gj_s0, gj_s1, gj_s2, gi_f0, gi_f1, gj_f0, gj_f1, gr_r0, gr_r1, gr_r2, gi_sj, gi_sr, gj_si, gj_sr, gr_si, gr_sj, gr_stI, gj_stI, gi_stJ, gr_stJ]
          exact this
        · exact t1.2 j hj
        · simp (disch := omega) only [gi_s0, gi_s1, gi_s2, gj_s0, gj_s1, gj_s2, gi_f0, gi_f1, gj_f0, gj_f1, gr_r0, gr_r1, gr_r2, gi_sj, gi_sr, gj_si, gj_sr, gr_si, gr_sj, gr_stI, gj_stI, gi_stJ, gr_stJ]; exact u1.1 w
        · simp (disch := omega) only [gi_s0, gi_s1, gi_s2, gj_s0, gj_s1, gj_s2, gi_f0, gi_f1, gj_f0, gj_f1, gr_r0, gr_r1, gr_r2, gi_sj, gi_sr, gj_si, gj_sr, gr_si, gr_sj, gr_stI, gj_stI, gi_stJ, gr_stJ]; exact u1.2.1 w
        · show gi _ _ _ = upf (A_kx A) m (A_st A n) j ∧ gi _ _ _ = upf (A_ky A) m (A_st A (6 + n)) j
          unfold upf
          by_cases ej : j = m
          · subst ej; simp (disch := omega) only [gi_s0, gi_s1, gi_s2, gj_s0, gj_s1, gj_s2, gi_f0, gi_f1, gj_f0, gj_f1, gr_r0, gr_r1, gr_r2, gi_sj, gi_sr, gj_si, gj_sr, gr_si, gr_sj, gr_stI, gj_stI, gi_stJ, gr_stJ]; simp
          · simp (disch := omega) only [gi_s0, gi_s1, gi_s2, gj_s0, gj_s1, gj_s2, gi_f0, gi_f1, gj_f0, gj_f1, gr_r0, gr_r1, gr_r2, gi_sj, gi_sr, gj_si, gj_sr, gr_si, gr_sj, gr_stI, gj_stI, gi_stJ, gr_stJ]; rw [if_neg ej, if_neg ej]; exact u1.2.2 j hj
      · have e : o_keep A (m : Int) (n : Int) = (-8, A) := by
          unfold o_keep
          simp only [Int.toNat_natCast]
          rw [if_neg (fun z => z hs), if_neg (by omega), if_pos w]
        rw [e] at hq; exact hq h hX fr.rf
    · have e : o_keep A p s = (noD A p, A) := by unfold o_keep; rw [if_neg (fun z => z hs), if_pos y]
      rw [e] at hq; exact hq h hX fr.rf
  · have e : o_keep A p s = (-2, A) := by unfold o_keep; rw [if_pos (if00 z)]
    rw [e] at hq; exact hq h hX fr.rf
def r_kept (A : AS) (p w : Int) : Int := if w < 0 ∨ 1 < w then -2 else if noD A p ≠ 0 then noD A p else if A_kx A p.toNat < 0 then -5 else if w = 0 then A_kx A p.toNat else A_ky A p.toNat
theorem k_kept (X : RC h A) {p w : Int} (hq : ∀ h', RC h' A → fr frCl h h' → Q (some (vI (r_kept A p w))) h') : C2 (d + 1) mX10_kept [vR 64, vI p, vI w] h Q := by
  have hq := hq h X fr.rf
  obtain ⟨a, pt, X⟩ := X
  have u1 := X.2.2.2.2.2.2.2.2.2.2
  have o7 := X.1.2.2.2.2.2.2
  unfold r_kept at hq
  refine EX10_kept fun _ _ => BX10_kept_0 ⟨fun z => by rw [if_pos (Or.inl z)] at hq; exact hq, fun z => ⟨fun y => ?_, fun y => by rw [if_pos (Or.inr y)] at hq; exact hq⟩⟩
  rw [if_neg (by omega)] at hq
  refine c_refD X (fun _ => ⟨fun u => ?_, fun u => by rw [if_pos u] at hq; exact hq⟩)
  rw [if_neg (by omega)] at hq
  obtain ⟨hk, p0, p1⟩ := noD_0 u
  obtain ⟨m, hm⟩ := ex_nat p0
  subst hm
  simp only [Int.toNat_natCast] at hq ⊢
  obtain ⟨c1, c2⟩ := u1.2.2 m (by omega)
  rw [c1, c2]
  refine ⟨⟨by omega, by omega⟩, fun v => ⟨fun t => ⟨⟨by omega, by omega⟩, ?_⟩, fun t => ⟨⟨by omega, by omega⟩, ?_⟩⟩, fun v => by rw [if_pos v] at hq; exact hq⟩
  · rw [if_neg (by omega), if_neg t] at hq; exact hq
  · rw [if_neg (by omega), if_pos t] at hq; exact hq
end
