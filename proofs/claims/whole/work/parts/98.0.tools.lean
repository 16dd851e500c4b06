/-! THE LAW: its tools -/
def SC (L : Nat) (sv : Nat → Int) (h : PH) : Prop := cl h 62 = 30 ∧ ln h 62 = L ∧ L ≤ 3072 ∧ (∀ j, j < L → gi h 62 j = sv j) ∧ ∀ j, R32 (sv j)
theorem SC.R {L : Nat} {sv : Nat → Int} {h : PH} (S : SC L sv h) (j : Nat) : R32 (sv j) := S.2.2.2.2 j
theorem lcmpv_self (a : Int) : lcmpv a a = 0 := by unfold lcmpv; rw [if_neg (by omega), if_pos rfl]
/-- the script stays: it lies in what was there ahead -/
theorem CallA.scr {d mc ms : Nat} {N : MD} {as : List PV} {h : PH} {Q : Option PV → PH → Prop} (c62 : cl h 62 = 30) (hc : CallA d mc ms N as h Q) (hQ : ∀ r h1, Q r h1 → cl h1 62 = 30) : CallA d mc ms N as h (fun r h1 => Q r h1 ∧ ln h1 62 = ln h 62 ∧ ∀ j, j < ln h 62 → gi h1 62 j = gi h 62 j) := by
  intro l g ho p e ha hcc hk s m args below hf happ hP hK
  obtain ⟨k, o, h1, h2, h3, ⟨r, h', a1, a2, a3, a4, a5⟩, h5⟩ := hc l g ho p e ha hcc hk s m args below hf happ hP hK
  have R0 := hP.2.1
  obtain ⟨-, -, s0, m1, -, m2, m3⟩ := R0.2.2.2.2.2.2.2.2.2.2 c62
  obtain ⟨-, -, s1, n1, -, n2, n3⟩ := a4.2.2.2.2.2.2.2.2.2.2 (hQ r h' a3)
  have es : s1 = s0 := Option.some.inj (n1.symm.trans m1)
  rw [es] at n2 n3
  have el : ln h' 62 = ln h 62 := n2.symm.trans m2
  refine ⟨k, o, h1, h2, h3, ⟨r, h', a1, a2, ⟨a3, el, fun j hj => ?_⟩, a4, a5⟩, h5⟩
  have q1 := n3 j (by rw [el]; exact hj)
  have q2 := m3 j hj
  have q3 := Option.some.inj (q1.symm.trans q2)
  have q4 : Int32.ofInt (gi h' 62 j) = Int32.ofInt (gi h 62 j) := by injection q3
  have q5 := congrArg Int32.toInt q4
  rw [tr32 (a4.2.2.2.1 _ _), tr32 (R0.2.2.2.1 _ _)] at q5
  exact q5
theorem RM.cl {h h' : PH} {A : AS} (X : RM h A) (hF : fr frCl h h') : RM h' A := by
  obtain ⟨ok, ⟨a1, a2⟩, ⟨b1, b2⟩, c1, d1, ⟨e1, e2⟩, f1, ⟨g1, g2⟩, ⟨i1, i2, i3⟩⟩ := X
  have G : ∀ q k, 247 ≤ q → gi h' q k = gi h q k := fun q k z => hF.1 _ _ (by unfold frCl; omega)
  have g248 : ∀ k, gi h' 248 k = gi h 248 k := fun k => G _ _ (by omega)
  refine ⟨ok, ⟨by rw [G _ _ (by omega)]; exact a1, fun i hi => by rw [G _ _ (by omega)]; exact a2 i hi⟩, ⟨by rw [G _ _ (by omega)]; exact b1, by rw [G _ _ (by omega)]; exact b2⟩, c1.keep ok.1 (fun j _ _ => g248 _), fun k hk => by rw [g248]; exact d1 k hk, ⟨by rw [g248]; exact e1, fun i hi k hk => by rw [g248]; exact e2 i hi k hk⟩, fun i hi => ⟨fun z => by rw [G _ _ (by omega)]; exact (f1 i hi).1 z, fun gs z => ?_⟩, ⟨fun i hi => by rw [G _ _ (by omega), G _ _ (by omega)]; exact g1 i hi, fun j hj => by rw [hF.2.1 _ _ (by unfold frCl; omega)]; exact g2 j hj⟩, ⟨by rw [G _ _ (by omega)]; exact i1, by rw [G _ _ (by omega)]; exact i2, fun j hj => by rw [G _ _ (by omega), G _ _ (by omega)]; exact i3 j hj⟩⟩
  obtain ⟨z1, z2, z3⟩ := (f1 i hi).2 gs z
  exact ⟨by rw [G _ _ (by omega)]; exact z1, z2.keep (ok.im z) (fun j _ _ => g248 _), fun k hk => by rw [g248]; exact z3 k hk⟩
theorem RC.mo {h h' : PH} {A : AS} (X : RC h A) (hF : fr frMo h h') : RC h' A := by
  obtain ⟨a, pt, x⟩ := X
  obtain ⟨ok, ⟨a1, a2, a3⟩, ⟨b1, b2⟩, ⟨c1, c2⟩, d1, e1', f1, g1, s1, t1, u1⟩ := x
  obtain ⟨pc, pu, pl⟩ := pg_cl a1
  have pga : pg a = 130 + 20 * a := rfl
  have N : ∀ q i, q < 247 → ¬ frMo q i := fun q i z => by unfold frMo; omega
  have G : ∀ q i, q < 247 → gi h' q i = gi h q i := fun q i z => hF.1 _ _ (N q i z)
  refine ⟨a, pt, ok, ⟨a1, by rw [G _ _ (by omega)]; exact a2, a3⟩, ⟨by rw [G _ _ (by omega)]; exact b1, fun i hi => by rw [G _ _ (by omega)]; exact b2 i hi⟩, ⟨by rw [G _ _ (by omega)]; exact c1, by rw [G _ _ (by omega)]; exact c2⟩, d1.keep (fun q k z1 z2 => G _ _ (by omega)), e1'.keep (fun q k z1 z2 => G _ _ (by omega)), ?_, fun i hi => ⟨fun z => ?_, fun gs z => ?_⟩, ?_, ⟨fun i hi => ⟨fun z => ?_, fun z => ?_⟩, fun j hj => ?_⟩, ⟨fun z => ?_, fun z => ?_, fun j hj => ?_⟩⟩
  · obtain ⟨n, m1, m2, m3, m4⟩ := f1
    have l10 := ok.2.2.1.2
    exact ⟨n, m1, by rw [G _ _ (by omega)]; exact m2, by rw [G _ _ (by omega)]; exact m3, fun i hi => (m4 i hi).keep (fun q k z1 z2 => G _ _ (by omega))⟩
  · rw [G _ _ (by omega)]; exact (g1 i hi).1 z
  · obtain ⟨b', q1, q2, q3, q4, q5⟩ := (g1 i hi).2 gs z
    have pgb' : pg b' = 130 + 20 * b' := rfl
    exact ⟨b', q1, by rw [G _ _ (by omega)]; exact q2, q3, q4.keep (fun q k z1 z2 => G _ _ (by omega)), q5.keep (fun q k z1 z2 => G _ _ (by omega))⟩
  · rcases s1 with z | ⟨z0, z1, z2, z3, z4, z5⟩
    · left; rw [G _ _ (by omega)]; exact z
    · right
      obtain ⟨x1, ⟨x2, x3, x4⟩, x5, x6, x7⟩ := z1
      have k1 : bit (gi h' (pg a) 17) (A_st A 19).toNat = true := by rw [G _ _ (by omega)]; exact z4
      have k2 : bit (gi h' (pg a) 18) (A_st A 19).toNat = true := by rw [G _ _ (by omega)]; exact z5
      refine ⟨by rw [G _ _ (by omega)]; exact z0, ⟨x1, ⟨?_, ?_, ?_⟩, vcl_of (by show RCp h' (pg a) (A_g A); rw [← a3]; exact d1.keep (fun q k z1 z2 => G _ _ (by omega))) (e1'.keep (fun q k z1 z2 => G _ _ (by omega))) ok.2.1 ok.1 k1 k2, x6, x7⟩, z2.keep (fun q k y1 y2 => G _ _ (by omega)), z3.keep (fun q k y => G _ _ (by omega)), k1, k2⟩
      · rw [hF.2.2 _ _ (N _ _ (by omega))]; exact x2
      · rw [hF.2.2 _ _ (N _ _ (by omega))]; exact x3
      · rw [G _ _ (by omega)]; exact x4
  · rw [G _ _ (by omega)]; exact (t1.1 i hi).1 z
  · rw [G _ _ (by omega), G _ _ (by omega)]; exact (t1.1 i hi).2 z
  · rw [hF.2.1 _ _ (N _ _ (by omega))]; exact t1.2 j hj
  · rw [G _ _ (by omega)]; exact u1.1 z
  · rw [G _ _ (by omega), G _ _ (by omega)]; exact u1.2.1 z
  · rw [G _ _ (by omega), G _ _ (by omega)]; exact u1.2.2 j hj
section
variable {d : Nat} {h : PH} {m : MD} {as : List PV} {P : Int → PH → Prop} {L : Nat} {sv : Nat → Int} {A A' : AS} {v : Int}
theorem SC.go {h1 : PH} (S : SC L sv h) (z1 : shp h1) (z5 : ln h1 62 = ln h 62) (z6 : ∀ j, j < ln h 62 → gi h1 62 j = gi h 62 j) : SC L sv h1 := ⟨(z1.2.1 62).trans (by decide), z5.trans S.2.1, S.2.2.1, fun j hj => (z6 j (by rw [S.2.1]; exact hj)).trans (S.2.2.2.1 j hj), S.2.2.2.2⟩
theorem call_clsI (hs : shp h) (S : SC L sv h) (XM : RM h A) (hc : ∀ Q : Option PV → PH → Prop, (∀ h', RC h' A' → fr frCl h h' → Q (some (vI v)) h') → C2 d m as h Q) (k : ∀ h1, shp h1 → SC L sv h1 → RC h1 A' → RM h1 A → P v h1) : Call d m as h (onI P) := by
  have c := hc (fun r h1 => r = some (vI v) ∧ RC h1 A' ∧ fr frCl h h1) (fun h' a b => ⟨rfl, a, b⟩) hs
  have c2 := CallA.scr S.1 c (fun r h1 z => (z.1.2.1 62).trans (by decide))
  refine c2.mono (fun r h1 _ z => ?_)
  obtain ⟨⟨z1, z2, z3, z4⟩, z5, z6⟩ := z
  subst z2
  exact fun _ => k h1 z1 (S.go z1 z5 z6) z3 (XM.cl z4)
theorem call_modI (hs : shp h) (S : SC L sv h) (XC : RC h A) (hc : ∀ Q : Option PV → PH → Prop, (∀ h', RM h' A' → fr frMo h h' → Q (some (vI v)) h') → C2 d m as h Q) (k : ∀ h1, shp h1 → SC L sv h1 → RC h1 A → RM h1 A' → P v h1) : Call d m as h (onI P) := by
  have c := hc (fun r h1 => r = some (vI v) ∧ RM h1 A' ∧ fr frMo h h1) (fun h' a b => ⟨rfl, a, b⟩) hs
  have c2 := CallA.scr S.1 c (fun r h1 z => (z.1.2.1 62).trans (by decide))
  refine c2.mono (fun r h1 _ z => ?_)
  obtain ⟨⟨z1, z2, z3, z4⟩, z5, z6⟩ := z
  subst z2
  exact fun _ => k h1 z1 (S.go z1 z5 z6) (XC.mo z4) z3
theorem call_clsJ (hs : shp h) (S : SC L sv h) (XM : RM h A) (hc : ∀ Q : Option PV → PH → Prop, (∀ h', RC h' A' → fr frCl h h' → Q (some (vJ v)) h') → C2 d m as h Q) (k : ∀ h1, shp h1 → SC L sv h1 → RC h1 A' → RM h1 A → P v h1) : Call d m as h (onJ P) := by
  have c := hc (fun r h1 => r = some (vJ v) ∧ RC h1 A' ∧ fr frCl h h1) (fun h' a b => ⟨rfl, a, b⟩) hs
  have c2 := CallA.scr S.1 c (fun r h1 z => (z.1.2.1 62).trans (by decide))
  refine c2.mono (fun r h1 _ z => ?_)
  obtain ⟨⟨z1, z2, z3, z4⟩, z5, z6⟩ := z
  subst z2
  exact fun _ => k h1 z1 (S.go z1 z5 z6) z3 (XM.cl z4)
theorem call_modJ (hs : shp h) (S : SC L sv h) (XC : RC h A) (hc : ∀ Q : Option PV → PH → Prop, (∀ h', RM h' A' → fr frMo h h' → Q (some (vJ v)) h') → C2 d m as h Q) (k : ∀ h1, shp h1 → SC L sv h1 → RC h1 A → RM h1 A' → P v h1) : Call d m as h (onJ P) := by
  have c := hc (fun r h1 => r = some (vJ v) ∧ RM h1 A' ∧ fr frMo h h1) (fun h' a b => ⟨rfl, a, b⟩) hs
  have c2 := CallA.scr S.1 c (fun r h1 z => (z.1.2.1 62).trans (by decide))
  refine c2.mono (fun r h1 _ z => ?_)
  obtain ⟨⟨z1, z2, z3, z4⟩, z5, z6⟩ := z
  subst z2
  exact fun _ => k h1 z1 (S.go z1 z5 z6) (XC.mo z4) z3
variable {u : Bu} {Q : Option PV → PH → Prop} {i : Nat} {st : List PV}
theorem T_push {k p0 p1 p2 p3 p4 p5 : Nat} (d1 : DI mL_law p0 (.aload_n 0) 1 p1) (d2 : DI mL_law p1 (.iload_n 3) 1 p2) (d3 : DI mL_law p2 (.iconst (k : Int)) 1 p3) (d4 : DI mL_law p3 .iadd 1 p4) (d5 : DI mL_law p4 .iaload 1 p5) (S : SC L sv h) (hk : i + k < L) (kk : T d u mL_law p5 [some (vR 62), some (vR 64), some (vR 247), some (vI (i : Int))] (vI (sv (i + k)) :: st) h Q) : T d u mL_law p0 [some (vR 62), some (vR 64), some (vR 247), some (vI (i : Int))] st h Q := by
  have l := S.2.2.1
  refine T_aload_n d1 rfl (T_iload_n d2 rfl (T_iconst d3 ⟨by omega, by omega⟩ (T_iadd d4 ?_)))
  rw [w32_r (by omega) (by omega), show (i : Int) + (k : Int) = ((i + k : Nat) : Int) by omega]
  refine T_sld d5 S.1 (by omega) (by rw [S.2.1]; omega) ?_
  rw [Int.toNat_natCast, S.2.2.2.1 _ hk]
  exact kk
end
