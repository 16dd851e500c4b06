/-! THE CLASS: calls that do deeds -/
def uS (A : AS) (st : Nat → Int) (pa : List (Nat → Int)) : AS := (A.1, A.2.1, (A_g A, st), pa, A.2.2.2.2)
def frE : Nat → Nat → Prop := fun q k => (67 ≤ q ∧ q ≤ 116) ∨ (q = 64 ∧ (k = 12 ∨ 16 ≤ k))
theorem RCa.newSt {h h' : PH} {A : AS} {a : Nat} {pt : Nat → PG} {st : Nat → Int} {pa : List (Nat → Int)} (x : RCa h A a pt) (hF : fr frE h h') (hok : AOK (uS A st pa)) (hS : StV h' 67 st) (hP : CPa h' pa) (h0 : gi h' 64 12 = 0) : RCa h' (uS A st pa) a pt := by
  obtain ⟨ok, ⟨a1, a2, a3⟩, ⟨b1, b2⟩, ⟨c1, c2⟩, d1, e1, f1, g1, s1, t1, u1⟩ := x
  obtain ⟨pc, pu, pl⟩ := pg_cl a1
  have G : ∀ q k, ¬ frE q k → gi h' q k = gi h q k := hF.1
  refine ⟨hok, ⟨a1, by rw [G _ _ (by unfold frE; omega)]; exact a2, a3⟩, ⟨by rw [G _ _ (by unfold frE; omega)]; exact b1, fun i hi => by rw [G _ _ (by unfold frE; omega)]; exact b2 i hi⟩, ⟨by rw [G _ _ (by unfold frE; omega)]; exact c1, by rw [G _ _ (by unfold frE; omega)]; exact c2⟩, d1.keep (fun q k z1 z2 => G _ _ (by unfold frE; omega)), hS, hP, fun i hi => ⟨fun z => ?_, fun gs z => ?_⟩, Or.inl h0, ⟨fun i hi => ⟨fun z => ?_, fun z => ?_⟩, fun j hj => ?_⟩, ⟨fun z => ?_, fun z => ?_, fun j hj => ?_⟩⟩
  · rw [G _ _ (by unfold frE; omega)]; exact (g1 i hi).1 z
  · obtain ⟨b, q1, q2, q3, q4, q5⟩ := (g1 i hi).2 gs z
    refine ⟨b, q1, by rw [G _ _ (by unfold frE; omega)]; exact q2, q3, q4.keep (fun q k z1 z2 => G _ _ (by unfold frE; unfold pg at z1; omega)), q5.keep (fun q k z1 z2 => G _ _ (by unfold frE; omega))⟩
  · rw [G _ _ (by unfold frE; omega)]; exact (t1.1 i hi).1 z
  · rw [G _ _ (by unfold frE; omega), G _ _ (by unfold frE; omega)]; exact (t1.1 i hi).2 z
  · rw [hF.2.1 _ _ (by unfold frE; omega)]; exact t1.2 j hj
  · rw [G _ _ (by unfold frE; omega)]; exact u1.1 z
  · rw [G _ _ (by unfold frE; omega), G _ _ (by unfold frE; omega)]; exact u1.2.1 z
  · rw [G _ _ (by unfold frE; omega), G _ _ (by unfold frE; omega)]; exact u1.2.2 j hj
theorem pst_cl {j : Nat} (h : j < 10) : CLf (77 + 4 * j) = 9 := by
  have : ∀ j : Fin 10, CLf (77 + 4 * j.val) = 9 := by decide
  exact this ⟨j, h⟩
theorem take10 {st : Nat → Int} {pa : List (Nat → Int)} (h : pa.length ≤ 10) : ((st :: pa).take 10).length = min (pa.length + 1) 10 := by rw [List.length_take]; simp; omega
theorem take10_at {st : Nat → Int} {pa : List (Nat → Int)} {i : Nat} (h : i < 10) : ((st :: pa).take 10).getD i (fun _ => 0) = (st :: pa).getD i (fun _ => 0) := by
  rw [List.getD_eq_getElem?_getD, List.getD_eq_getElem?_getD, List.getElem?_take, if_pos h]
theorem fmd10 : ∀ i : Fin 20, (0 ≤ ixor ((i.val : Int) - 10) 10 → Int.tmod ((i.val : Int) - 10) 10 = ((i.val : Int) - 10) % 10) ∧ (ixor ((i.val : Int) - 10) 10 < 0 → (Int.tmod ((i.val : Int) - 10) 10 = 0 → Int.tmod ((i.val : Int) - 10) 10 = ((i.val : Int) - 10) % 10) ∧ (Int.tmod ((i.val : Int) - 10) 10 ≠ 0 → Int.tmod ((i.val : Int) - 10) 10 + 10 = ((i.val : Int) - 10) % 10)) := by decide +kernel
theorem c_floorMod10 {d : Nat} {h : PH} {Q : Option PV → PH → Prop} {x : Int} (hx : -10 ≤ x ∧ x < 10) (hq : Q (some (vI (x % 10))) h) : C2 d mJ9_floorMod_7cf53 [vI x, vI 10] h Q := by
  obtain ⟨f1, f2⟩ := fmd10 ⟨(x + 10).toNat, by omega⟩
  have e : (((x + 10).toNat : Nat) : Int) - 10 = x := by omega
  dsimp only at f1 f2
  rw [e] at f1 f2
  refine EJ9_floorMod_7cf53 fun _ _ => BJ9_floorMod_7cf53_0 ⟨by omega, fun z => by rw [f1 z]; exact hq, fun z => ⟨fun y => by rw [(f2 z).1 y]; exact hq, fun y => ?_⟩⟩
  rw [(f2 z).2 y, w32_r (by omega) (by omega)]
  exact hq
section
variable {d : Nat} {h : PH} {Q : Option PV → PH → Prop}
variable {A : AS} {a : Nat} {pt : Nat → PG}
theorem AOK.uS {A : AS} (ok : AOK A) {st : Nat → Int} {pa : List (Nat → Int)} (h1 : SOK (A_g A) st) (h2 : ∀ s ∈ pa, SOK (A_g A) s) (h3 : pa.length ≤ 10) : AOK (uS A st pa) := ⟨ok.1, h1, ⟨h2, h3⟩, ok.2.2.2.1, ok.2.2.2.2.1, ok.2.2.2.2.2.1, ok.2.2.2.2.2.2⟩
theorem c_takeDraft (X : RCa h A a pt) {st : Nat → Int} (hd : StV h 71 st) (oks : SOK (A_g A) st) (hq : ∀ h', RCa h' (uS A st ((A_st A :: A_pa A).take 10)) a pt → fr frE h h' → Q none h') : C2 (d + 2) mX10_takeDraft [vR 64] h Q := by
  obtain ⟨okg, oks0, hR, hS, pc, pu, pl⟩ := X.okg
  obtain ⟨n, n1, n2, n3, n4⟩ := X.2.2.2.2.2.2.1
  have hl10 := X.1.2.2.1.2
  refine EX10_takeDraft (BX10_takeDraft_0 (EX4_push (BX4_push_0 cl67 ?_)))
  rw [n2]
  refine ⟨⟨by omega, by omega⟩, ?_⟩
  try simp only [Int.toNat_natCast]
  refine c_copy (pst_cl n1) cl67 (by omega) (fun h1 b1 b2 => ⟨rfl, fun h2 e2 => ?_⟩)
  subst e2
  have e1 : ∀ q k, ¬ inS (77 + 4 * n) q → gi h1 q k = gi h q k := fun q k z => b2.1 q z k
  rw [e1 75 1 (by unfold inS; omega), n2, w32_r (x := (n : Int) + 1) (by omega) (by omega)]
  rw [gi_s2 (by omega), e1 75 2 (by unfold inS; omega), n3, w32_r (by omega) (by omega)]
  refine c_min fun _ h3 e3 => ⟨rfl, ?_⟩
  subst e3
  have hm : Int.tmod ((n : Int) + 1) 10 = (((n + 1) % 10 : Nat) : Int) := by rw [Int.tmod_eq_emod_of_nonneg (by omega)]; omega
  rw [hm]
  refine c_copy cl67 cl71 (by omega) (fun h4 c1 c2 => ⟨rfl, fun h5 e5 => ?_⟩)
  subst e5
  have e4 : ∀ q k, ¬ inS 67 q → gi h4 q k = gi (si (si h1 75 1 (((n + 1) % 10 : Nat) : Int)) 75 2 (min ((A_pa A).length + 1 : Int) 10)) q k := fun q k z => c2.1 q z k
  have F : fr frE h (si h4 64 12 0) := by
    refine ((((b2.fr.mono (fun q k z => ?_)).si ?_).si ?_).tr (c2.fr.mono (fun q k z => ?_))).si ?_
    · unfold inS at z; unfold frE; omega
    · unfold frE; omega
    · unfold frE; omega
    · unfold inS at z; unfold frE; omega
    · unfold frE; omega
  refine hq _ (X.newSt F (X.1.uS oks (fun s hs => ?_) (by rw [take10 hl10]; omega)) (fun k hk => ?_) ⟨(n + 1) % 10, by omega, ?_, ?_, fun i hi => ?_⟩ gi_s0) F
  · rcases List.mem_cons.mp (List.mem_of_mem_take hs) with z | z
    · rw [z]; exact oks0
    · exact X.1.2.2.1.1 s z
  · rw [SV_eq (h := h4) (fun q hq2 j => gi_s1 (by unfold inS at hq2; omega)) k, c1 k hk, SV_eq (h := h) (fun q hq2 j => ?_) k]
    · exact hd k hk
    · unfold inS at hq2
      rw [gi_s1 (by omega), gi_s1 (by omega), e1 _ _ (by unfold inS; omega)]
  · rw [gi_s1 (by omega), e4 _ _ (by unfold inS; omega), gi_s2 (by omega), gi_s0]
  · rw [gi_s1 (by omega), e4 _ _ (by unfold inS; omega), gi_s0, take10 hl10]; omega
  · rw [take10 hl10] at hi
    rw [take10_at (by omega)]
    have ek : ∀ q k, 77 ≤ q → q ≤ 116 → gi (si h4 64 12 0) q k = gi h1 q k := fun q k z1 z2 => by
      rw [gi_s1 (by omega), e4 _ _ (by unfold inS; omega), gi_s1 (by omega), gi_s1 (by omega)]
    cases i with
    | zero =>
      rw [show ((n + 1) % 10 + 9 - 0) % 10 = n by omega, List.getD_cons_zero]
      intro k hk
      rw [SV_eq (h := h1) (fun q hq2 j => ek _ _ (by unfold inS at hq2; omega) (by unfold inS at hq2; omega)) k, b1 k hk]
      exact hS k hk
    | succ i =>
      rw [show ((n + 1) % 10 + 9 - (i + 1)) % 10 = (n + 9 - i) % 10 by omega, List.getD_cons_succ]
      have hne : (n + 9 - i) % 10 ≠ n := by omega
      intro k hk
      rw [SV_eq (h := h1) (fun q hq2 j => ek _ _ (by unfold inS at hq2; omega) (by unfold inS at hq2; omega)) k, SV_eq (h := h) (fun q hq2 j => e1 _ _ (by unfold inS at hq2 ⊢; omega)) k]
      exact n4 i (by omega) k hk
/-- the draft, copied -/
theorem c_draft (X : RCa h A a pt) (hq : ∀ h', RCa h' A a pt → StV h' 71 (A_st A) → fr (frZ (pg a)) h h' → (∀ q k, ¬ inS 71 q → gi h' q k = gi h q k) → Q none h') : C2 d mX8_copyFrom [vR 71, vR 67] h Q := by
  obtain ⟨okg, oks0, hR, hS, pc, pu, pl⟩ := X.okg
  refine c_copy cl71 cl67 (by omega) (fun h1 b1 b2 => ?_)
  have F : fr (frZ (pg a)) h h1 := b2.fr.mono (fun q k z => by unfold inS at z; unfold frZ; omega)
  refine hq h1 (X.keepZ F ?_ (knw.eq (b2.1 _ (by unfold inS; omega) _) (b2.1 _ (by unfold inS; omega) _))) (fun k hk => by rw [b1 k hk]; exact hS k hk) F (fun q k z => b2.1 q z k)
  rw [X.2.1.2.2]
  exact hR.keep (fun q k z1 z2 => b2.1 _ (by unfold inS; omega) _)
/-- the draft, changed -/
theorem RCa.draft {h h' : PH} {A : AS} {a : Nat} {pt : Nat → PG} (X : RCa h A a pt) (hF : fr (frD 71) h h') : RCa h' A a pt ∧ fr (frZ (pg a)) h h' := by
  obtain ⟨okg, oks0, hR, hS, pc, pu, pl⟩ := X.okg
  have F : fr (frZ (pg a)) h h' := hF.mono (fun q k z => by unfold frD at z; unfold frZ; omega)
  refine ⟨X.keepZ F ?_ (knw.eq (hF.1 _ _ (by unfold frD; omega)) (hF.1 _ _ (by unfold frD; omega))), F⟩
  rw [X.2.1.2.2]
  exact hR.keep (fun q k z1 z2 => hF.1 _ _ (by unfold frD; omega))
def psh (A : AS) (st : Nat → Int) : AS := uS A st ((A_st A :: A_pa A).take 10)
def o_move (A : AS) (s ax b : Int) : Int × AS := if (shiftS (A_g A) (A_st A) s ax b).1 ≠ 0 then (-10 - (shiftS (A_g A) (A_st A) s ax b).1, A) else ((shiftS (A_g A) (A_st A) s ax b).2 ((if ax = 0 then 0 else 6) + s.toNat), psh A (shiftS (A_g A) (A_st A) s ax b).2)
def o_tie (A : AS) (s w : Int) : Int × AS := if (bindS (A_g A) (A_st A) s w).1 ≠ 0 then (-10 - (bindS (A_g A) (A_st A) s w).1, A) else (A_st A (12 + s.toNat), psh A (bindS (A_g A) (A_st A) s w).2)
def o_hide (A : AS) (w : Int) : Int × AS := if (flipS (A_g A) (A_st A) w).1 ≠ 0 then (-10 - (flipS (A_g A) (A_st A) w).1, A) else (if bit ((flipS (A_g A) (A_st A) w).2 18) w.toNat then 1 else 0, psh A (flipS (A_g A) (A_st A) w).2)
def o_ink (A : AS) (n : Int) : Int × AS := if (dyeS (A_st A) n).1 ≠ 0 then (-10 - (dyeS (A_st A) n).1, A) else (A_st A 19, psh A (dyeS (A_st A) n).2)
theorem shiftS_rg (g : PG) (st : Nat → Int) (s ax b : Int) : 0 ≤ (shiftS g st s ax b).1 ∧ (shiftS g st s ax b).1 ≤ 2 ∧ ((shiftS g st s ax b).1 = 0 → 0 ≤ s ∧ s < g_S g) := by
  by_cases z : s < 0 ∨ g_S g ≤ s ∨ ax < 0 ∨ 1 < ax ∨ b < -100 ∨ 100 < b
  · unfold shiftS; rw [if_pos z]; simp
  · by_cases z2 : st ((if ax = 0 then 0 else 6) + s.toNat) + b < 0 ∨ (if ax = 0 then 200 else 400) < st ((if ax = 0 then 0 else 6) + s.toNat) + b
    · unfold shiftS; rw [if_neg z, if_pos z2]; simp
    · unfold shiftS; rw [if_neg z, if_neg z2]
      exact ⟨by simp, by simp, fun _ => by omega⟩
theorem bindS_rg (g : PG) (st : Nat → Int) (s w : Int) : 0 ≤ (bindS g st s w).1 ∧ (bindS g st s w).1 ≤ 1 ∧ ((bindS g st s w).1 = 0 → 0 ≤ s ∧ s < g_S g) := by
  unfold bindS
  split
  · simp
  · refine ⟨by simp, by simp, fun _ => by omega⟩
theorem flipS_rg (g : PG) (st : Nat → Int) (w : Int) : 0 ≤ (flipS g st w).1 ∧ (flipS g st w).1 ≤ 1 ∧ ((flipS g st w).1 = 0 → 0 ≤ w ∧ w < g_W g) := by
  unfold flipS
  split
  · simp
  · refine ⟨by simp, by simp, fun _ => by omega⟩
theorem dyeS_rg (st : Nat → Int) (n : Int) : 0 ≤ (dyeS st n).1 ∧ (dyeS st n).1 ≤ 1 := by
  unfold dyeS
  split <;> simp
theorem fr_C1 {p : Nat} {h h' : PH} (hp : p ≤ 190) (a : fr (frZ p) h h') : fr frCl h h' := a.mono (fun q k z => frZ_C hp z)
theorem fr_CE {h h' : PH} (a : fr frE h h') : fr frCl h h' := a.mono (fun q k z => by unfold frE at z; unfold frCl; omega)
theorem k_move (X : RC h A) {s ax b : Int} (hq : ∀ h', RC h' (o_move A s ax b).2 → fr frCl h h' → Q (some (vI (o_move A s ax b).1)) h') : C2 (d + 3) mX10_move [vR 64, vI s, vI ax, vI b] h Q := by
  obtain ⟨a, pt, X⟩ := X
  obtain ⟨okg, oks0, hR, hS, pc, pu, pl⟩ := X.okg
  have okg1 := okg.1
  obtain ⟨r1, r2, r3⟩ := shiftS_rg (A_g A) (A_st A) s ax b
  refine EX10_move fun _ _ _ => BX10_move_0 (c_draft X (fun h1 X1 D1 F1 E1 => ⟨rfl, c_current X1 ⟨pc, ?_⟩⟩))
  obtain ⟨-, -, hR1, -⟩ := X1.okg
  refine c_shift pc cl71 hR1 okg D1 oks0 (fun h2 b1 b2 _ => ⟨fun z => ?_, fun z => ?_⟩)
  · obtain ⟨X2, F2⟩ := X1.draft b2
    have e : o_move A s ax b = ((shiftS (A_g A) (A_st A) s ax b).2 ((if ax = 0 then 0 else 6) + s.toNat), psh A (shiftS (A_g A) (A_st A) s ax b).2) := by unfold o_move; rw [if_neg (by omega)]
    rw [e] at hq
    have hs := r3 z
    refine c_takeDraft X2 b1 (shiftS_ok okg oks0 _ _ _) (fun h3 X3 F3 => ⟨rfl, fun y => ⟨⟨by omega, by omega⟩, ?_⟩, fun y => ⟨⟨by omega, by omega⟩, ?_⟩⟩)
    · have hq1 := hq h3 ⟨a, pt, X3⟩ (((fr_C1 pu F1).tr (fr_C1 pu F2)).tr (fr_CE F3))
      have := X3.2.2.2.2.2.1 (6 + s.toNat) (by omega)
      rw [SV_2 (by omega)] at this
      rw [this]
      dsimp only at hq1
      rw [if_neg y] at hq1
      exact hq1
    · have hq1 := hq h3 ⟨a, pt, X3⟩ (((fr_C1 pu F1).tr (fr_C1 pu F2)).tr (fr_CE F3))
      have := X3.2.2.2.2.2.1 s.toNat (by omega)
      rw [SV_1 (by omega)] at this
      rw [this]
      dsimp only at hq1
      rw [if_pos y, Nat.zero_add] at hq1
      exact hq1
  · obtain ⟨X2, F2⟩ := X1.draft b2
    have e : o_move A s ax b = (-10 - (shiftS (A_g A) (A_st A) s ax b).1, A) := by unfold o_move; rw [if_pos z]
    rw [e] at hq
    rw [w32_r (by omega) (by omega)]
    exact hq h2 ⟨a, pt, X2⟩ ((fr_C1 pu F1).tr (fr_C1 pu F2))
theorem k_tie (X : RC h A) {s w : Int} (hq : ∀ h', RC h' (o_tie A s w).2 → fr frCl h h' → Q (some (vI (o_tie A s w).1)) h') : C2 (d + 3) mX10_tie [vR 64, vI s, vI w] h Q := by
  obtain ⟨a, pt, X⟩ := X
  obtain ⟨okg, oks0, hR, hS, pc, pu, pl⟩ := X.okg
  have okg1 := okg.1
  obtain ⟨r1, r2, r3⟩ := bindS_rg (A_g A) (A_st A) s w
  refine EX10_tie fun _ _ => BX10_tie_0 (c_draft X (fun h1 X1 D1 F1 E1 => ⟨rfl, c_current X1 ⟨pc, ?_⟩⟩))
  obtain ⟨-, -, hR1, hS1, -⟩ := X1.okg
  refine c_bind pc cl71 hR1 okg D1 (fun h2 b1 b2 _ => ⟨fun z => ?_, fun z => ?_⟩)
  · obtain ⟨X2, F2⟩ := X1.draft b2
    have e : o_tie A s w = (A_st A (12 + s.toNat), psh A (bindS (A_g A) (A_st A) s w).2) := by unfold o_tie; rw [if_neg (by omega)]
    rw [e] at hq
    have hs := r3 z
    refine ⟨⟨by omega, by omega⟩, c_takeDraft X2 b1 (bindS_ok okg oks0 _ _) (fun h3 X3 F3 => ⟨rfl, ?_⟩)⟩
    have hq1 := hq h3 ⟨a, pt, X3⟩ (((fr_C1 pu F1).tr (fr_C1 pu F2)).tr (fr_CE F3))
    have := X2.2.2.2.2.2.1 (12 + s.toNat) (by omega)
    rw [SV_3 (by omega)] at this
    rw [this]
    exact hq1
  · obtain ⟨X2, F2⟩ := X1.draft b2
    have e : o_tie A s w = (-10 - (bindS (A_g A) (A_st A) s w).1, A) := by unfold o_tie; rw [if_pos z]
    rw [e] at hq
    rw [w32_r (by omega) (by omega)]
    exact hq h2 ⟨a, pt, X2⟩ ((fr_C1 pu F1).tr (fr_C1 pu F2))
theorem k_hide (X : RC h A) {w : Int} (hq : ∀ h', RC h' (o_hide A w).2 → fr frCl h h' → Q (some (vI (o_hide A w).1)) h') : C2 (d + 3) mX10_hide [vR 64, vI w] h Q := by
  obtain ⟨a, pt, X⟩ := X
  obtain ⟨okg, oks0, hR, hS, pc, pu, pl⟩ := X.okg
  have okg1 := okg.1
  obtain ⟨r1, r2, r3⟩ := flipS_rg (A_g A) (A_st A) w
  refine EX10_hide fun _ => BX10_hide_0 (c_draft X (fun h1 X1 D1 F1 E1 => ⟨rfl, c_current X1 ⟨pc, ?_⟩⟩))
  obtain ⟨-, -, hR1, hS1, -⟩ := X1.okg
  refine c_flip pc cl71 hR1 D1 (fun h2 b1 b2 _ => ⟨fun z => ?_, fun z => ?_⟩)
  · obtain ⟨X2, F2⟩ := X1.draft b2
    have e : o_hide A w = (if bit ((flipS (A_g A) (A_st A) w).2 18) w.toNat then 1 else 0, psh A (flipS (A_g A) (A_st A) w).2) := by unfold o_hide; rw [if_neg (by omega)]
    rw [e] at hq
    have hs := r3 z
    obtain ⟨n, hn⟩ := ex_nat hs.1
    subst hn
    refine c_takeDraft X2 b1 (flipS_ok okg oks0 _) (fun h3 X3 F3 => ⟨rfl, c_hides cl67 (by omega) (fun _ => ?_)⟩)
    have hq1 := hq h3 ⟨a, pt, X3⟩ (((fr_C1 pu F1).tr (fr_C1 pu F2)).tr (fr_CE F3))
    have e18 : gi h3 67 3 = (flipS (A_g A) (A_st A) (n : Int)).2 18 := X3.2.2.2.2.2.1 18 (by omega)
    rw [e18]
    simp only [Int.toNat_natCast] at hq1
    exact ⟨fun u => by rw [if_neg (if00 u)] at hq1; exact hq1, fun u => by rw [if_pos (if01 u)] at hq1; exact hq1⟩
  · obtain ⟨X2, F2⟩ := X1.draft b2
    have e : o_hide A w = (-10 - (flipS (A_g A) (A_st A) w).1, A) := by unfold o_hide; rw [if_pos z]
    rw [e] at hq
    rw [w32_r (by omega) (by omega)]
    exact hq h2 ⟨a, pt, X2⟩ ((fr_C1 pu F1).tr (fr_C1 pu F2))
theorem k_ink (X : RC h A) {n : Int} (hq : ∀ h', RC h' (o_ink A n).2 → fr frCl h h' → Q (some (vI (o_ink A n).1)) h') : C2 (d + 3) mX10_ink [vR 64, vI n] h Q := by
  obtain ⟨a, pt, X⟩ := X
  obtain ⟨okg, oks0, hR, hS, pc, pu, pl⟩ := X.okg
  obtain ⟨r1, r2⟩ := dyeS_rg (A_st A) n
  refine EX10_ink fun _ => BX10_ink_0 (c_draft X (fun h1 X1 D1 F1 E1 => ⟨rfl, c_dye cl71 D1 (fun h2 b1 b2 _ => ⟨fun z => ?_, fun z => ?_⟩)⟩))
  · obtain ⟨X2, F2⟩ := X1.draft b2
    have e : o_ink A n = (A_st A 19, psh A (dyeS (A_st A) n).2) := by unfold o_ink; rw [if_neg (by omega)]
    rw [e] at hq
    refine c_takeDraft X2 b1 (dyeS_ok oks0 _) (fun h3 X3 F3 => ⟨rfl, ?_⟩)
    rw [X2.2.2.2.2.2.1.inkv]
    exact hq h3 ⟨a, pt, X3⟩ (((fr_C1 pu F1).tr (fr_C1 pu F2)).tr (fr_CE F3))
  · obtain ⟨X2, F2⟩ := X1.draft b2
    have e : o_ink A n = (-10 - (dyeS (A_st A) n).1, A) := by unfold o_ink; rw [if_pos z]
    rw [e] at hq
    rw [w32_r (by omega) (by omega)]
    exact hq h2 ⟨a, pt, X2⟩ ((fr_C1 pu F1).tr (fr_C1 pu F2))
def o_undo (A : AS) (n : Int) : Int × AS := if n < 1 ∨ (A_pa A).length < n then (-3, A) else ((A_pa A).length - n, uS A ((A_pa A).getD (n.toNat - 1) (fun _ => 0)) ((A_pa A).drop n.toNat))
theorem k_undo (X : RC h A) {n : Int} (hq : ∀ h', RC h' (o_undo A n).2 → fr frCl h h' → Q (some (vI (o_undo A n).1)) h') : C2 (d + 2) mX10_undo [vR 64, vI n] h Q := by
  obtain ⟨a, pt, X⟩ := X
  obtain ⟨okg, oks0, hR, hS, pc, pu, pl⟩ := X.okg
  obtain ⟨m, n1, n2, n3, n4⟩ := X.2.2.2.2.2.2.1
  have hl10 := X.1.2.2.1.2
  have no : n < 1 ∨ (A_pa A).length < n → Q (some (vI (-3))) h := fun z => by
    have e : o_undo A n = (-3, A) := by unfold o_undo; rw [if_pos z]
    rw [e] at hq; exact hq h ⟨a, pt, X⟩ fr.rf
  refine EX10_undo fun _ => BX10_undo_0 ?_
  rw [n3]
  refine ⟨fun z => no (by omega), fun z => ⟨fun y => ?_, fun y => no (by omega)⟩⟩
  have e : o_undo A n = ((A_pa A).length - n, uS A ((A_pa A).getD (n.toNat - 1) (fun _ => 0)) ((A_pa A).drop n.toNat)) := by unfold o_undo; rw [if_neg (by omega)]
  rw [e] at hq
  obtain ⟨k, hk⟩ := ex_nat (x := n) (by omega)
  subst hk
  simp only [Int.toNat_natCast] at hq
  refine EX4_bringBack fun _ => BX4_bringBack_0 cl67 ?_
  rw [n2, w32_r (by omega) (by omega)]
  refine c_floorMod10 (by omega) (fun _ h2 e2 h3 e3 => ?_)
  subst e2 e3
  simp (disch := omega) only [gi_s0, gi_s1, gi_s2, gj_s0, gj_s1, gj_s2, gi_f0, gi_f1, gj_f0, gj_f1, gr_r0, gr_r1, gr_r2, gi_sj, gi_sr, gj_si, gj_sr, gr_si, gr_sj, gr_stI, gj_stI, gi_stJ, gr_stJ]
  rw [n3, w32_r (by omega) (by omega)]
  have hm : ((m : Int) - (k : Int)) % 10 = (((m + 10 - k) % 10 : Nat) : Int) := by omega
  rw [hm]
  refine ⟨⟨by omega, by omega⟩, ?_⟩
  try simp only [Int.toNat_natCast]
  refine c_copy cl67 (pst_cl (by omega)) (by omega) (fun h4 c1 c2 => ⟨rfl, ⟨rfl, fun h5 e5 => ?_⟩⟩)
  subst e5
  have e4 : ∀ q j, ¬ inS 67 q → gi h4 q j = gi (si (si h 75 1 (((m + 10 - k) % 10 : Nat) : Int)) 75 2 (((A_pa A).length : Int) - k)) q j := fun q j z => c2.1 q z j
  have F : fr frE h (si h4 64 12 0) := by
    refine (((fr.rf.si ?_).si ?_).tr (c2.fr.mono (fun q k z => ?_))).si ?_
    · unfold frE; omega
    · unfold frE; omega
    · unfold inS at z; unfold frE; omega
    · unfold frE; omega
  have hmem : (A_pa A).getD (k - 1) (fun _ => 0) ∈ A_pa A := getD_mem (by omega)
  have e75 : gi (si h4 64 12 0) 75 2 = ((A_pa A).length : Int) - k := by rw [gi_s1 (by omega), e4 _ _ (by unfold inS; omega), gi_s0]
  rw [e75]
  have ek : ∀ q j, 77 ≤ q → q ≤ 116 → gi (si h4 64 12 0) q j = gi h q j := fun q j z1 z2 => by
    rw [gi_s1 (by omega), e4 _ _ (by unfold inS; omega), gi_s1 (by omega), gi_s1 (by omega)]
  refine hq _ ⟨a, pt, X.newSt F (X.1.uS (X.1.2.2.1.1 _ hmem) (fun s hs => X.1.2.2.1.1 s (List.mem_of_mem_drop hs)) (by rw [List.length_drop]; omega)) (fun j hj => ?_) ⟨(m + 10 - k) % 10, by omega, ?_, by rw [e75, List.length_drop]; omega, fun i hi => ?_⟩ gi_s0⟩ (fr_CE F)
  · rw [SV_eq (h := h4) (fun q hq2 j => gi_s1 (by unfold inS at hq2; omega)) j, c1 j hj, SV_eq (h := h) (fun q hq2 j => by unfold inS at hq2; rw [gi_s1 (by omega), gi_s1 (by omega)]) j]
    have := n4 (k - 1) (by omega)
    rw [show (m + 9 - (k - 1)) % 10 = (m + 10 - k) % 10 by omega] at this
    exact this j hj
  · rw [gi_s1 (by omega), e4 _ _ (by unfold inS; omega), gi_s2 (by omega), gi_s0]
  · rw [List.length_drop] at hi
    rw [List.getD_eq_getElem?_getD, List.getElem?_drop, ← List.getD_eq_getElem?_getD]
    intro j hj
    rw [SV_eq (h := h) (fun q hq2 j => ek _ _ (by unfold inS at hq2; omega) (by unfold inS at hq2; omega)) j]
    have := n4 (k + i) (by omega)
    rw [show (m + 9 - (k + i)) % 10 = ((m + 10 - k) % 10 + 9 - i) % 10 by omega] at this
    exact this j hj
end
