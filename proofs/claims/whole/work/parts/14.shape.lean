/-! THE SHAPE behind the constructors: it stays as it is -/
def CLl : List Nat := [11, 21, 24, 9, 20, 20, 20, 9, 20, 20, 20, 5, 25, 9, 20, 20, 20, 9, 20, 20, 20, 9, 20, 20, 20, 9, 20, 20, 20, 9, 20, 20, 20, 9, 20, 20, 20, 9, 20, 20, 20, 9, 20, 20, 20, 9, 20, 20, 20, 9, 20, 20, 20, 20, 25, 1, 20, 20, 22, 10, 22, 20, 20, 2, 20, 20, 4, 20, 20, 20, 20, 20, 9, 20, 20, 20, 3, 20, 20, 20, 3, 20, 20, 20, 20, 20, 4, 20, 20, 20, 20, 20, 9, 20, 20, 20, 3, 20, 20, 20, 3, 20, 20, 20, 20, 20, 4, 20, 20, 20, 20, 20, 9, 20, 20, 20, 3, 20, 20, 20, 3, 20, 20, 20, 20, 20, 4, 20, 20, 20, 20, 20, 9, 20, 20, 20, 3, 20, 20, 20, 3, 20, 20, 20, 20, 20, 9, 20, 20, 20, 9, 20, 20, 20, 6, 7, 8, 20, 20, 20, 20, 20, 20, 20, 20, 20, 20, 20, 20, 7, 8, 20, 20, 20, 20, 20, 20, 20, 20, 20, 20, 20, 20, 12, 20, 23, 20, 20, 20, 20, 20, 20, 20, 20, 20, 20, 20, 20, 20, 20, 20, 20, 20, 20, 20, 22, 22, 20, 20, 20, 20, 20, 20, 20, 22]
def LNl : List Nat := [0, 900, 4, 0, 6, 6, 6, 0, 6, 6, 6, 0, 10, 0, 6, 6, 6, 0, 6, 6, 6, 0, 6, 6, 6, 0, 6, 6, 6, 0, 6, 6, 6, 0, 6, 6, 6, 0, 6, 6, 6, 0, 6, 6, 6, 0, 6, 6, 6, 0, 6, 6, 6, 2, 2, 0, 30, 31, 31, 0, 160, 4, 4, 0, 9, 9, 0, 6, 6, 6, 30, 30, 0, 6, 6, 6, 0, 900, 4, 64, 0, 900, 4, 64, 300, 1200, 0, 6, 6, 6, 30, 30, 0, 6, 6, 6, 0, 900, 4, 64, 0, 900, 4, 64, 300, 1200, 0, 6, 6, 6, 30, 30, 0, 6, 6, 6, 0, 900, 4, 64, 0, 900, 4, 64, 300, 1200, 0, 6, 6, 6, 30, 30, 0, 6, 6, 6, 0, 900, 4, 64, 0, 900, 4, 64, 300, 1200, 0, 6, 6, 6, 0, 6, 6, 6, 0, 0, 0, 140, 140, 140, 140, 21, 6, 6, 30, 30, 6, 6, 366, 0, 0, 140, 140, 140, 140, 21, 6, 6, 30, 30, 6, 6, 366, 0, 3639, 2, 900, 1213, 900, 6, 6, 140, 140, 140, 140, 30, 30, 30, 6, 6, 366, 20, 30, 31, 31, 31, 31, 30, 30, 10, 9, 9, 4, 4, 160]
def CLf (q : Nat) : Nat := if q < 64 then (if 1 ≤ q ∧ q ≤ 27 then 31 else if 33 ≤ q ∧ q ≤ 59 then 32 else if q = 62 then 30 else 0) else CLl.getD (q - 64) 0
def LNf (q : Nat) : Nat := if q < 64 then 0 else LNl.getD (q - 64) 0
/-- class, field, how far ahead lies what it holds, its class, its length -/
def RFl : List (Nat × Nat × Nat × Nat × Nat) := [(0, 0, 1, 20, 30), (0, 1, 2, 20, 31), (0, 2, 3, 22, 31), (1, 2, 1, 20, 9), (1, 3, 2, 20, 9), (2, 0, 1, 20, 900), (2, 1, 2, 20, 4), (2, 2, 3, 20, 64), (3, 6, 1, 20, 6), (3, 7, 2, 20, 6), (3, 8, 3, 20, 6), (3, 10, 4, 20, 30), (3, 11, 5, 20, 30), (3, 12, 6, 9, 0), (3, 13, 10, 3, 0), (3, 14, 14, 3, 0), (3, 15, 18, 20, 300), (3, 16, 19, 20, 1200), (4, 0, 1, 25, 10), (6, 3, 1, 8, 0), (6, 4, 9, 20, 30), (6, 5, 10, 20, 30), (6, 6, 11, 20, 6), (6, 7, 12, 20, 6), (6, 8, 13, 20, 366), (7, 0, 1, 20, 140), (7, 1, 2, 20, 140), (7, 2, 3, 20, 140), (7, 3, 4, 20, 140), (7, 5, 5, 20, 21), (7, 7, 6, 20, 6), (7, 8, 7, 20, 6), (8, 0, 1, 20, 6), (8, 1, 2, 20, 6), (8, 2, 3, 20, 6), (9, 0, 1, 22, 160), (9, 1, 2, 20, 4), (9, 2, 3, 20, 4), (10, 0, 1, 21, 900), (10, 2, 154, 6, 0), (10, 3, 2, 24, 4), (10, 5, 3, 9, 0), (10, 6, 7, 9, 0), (10, 7, 11, 5, 0), (10, 8, 53, 20, 2), (10, 9, 54, 25, 2), (10, 10, 155, 7, 0), (10, 11, 169, 7, 0), (10, 13, 55, 1, 0), (10, 14, 59, 10, 0), (10, 15, 63, 2, 0), (11, 1, 1, 20, 3639), (11, 2, 2, 23, 2), (11, 3, 3, 20, 900), (11, 4, 4, 20, 1213), (11, 16, 5, 20, 900), (11, 17, 6, 20, 6), (11, 23, 7, 20, 6), (11, 24, 8, 20, 140), (11, 25, 9, 20, 140), (11, 26, 10, 20, 140), (11, 27, 11, 20, 140), (11, 28, 12, 20, 30), (11, 29, 13, 20, 30), (11, 30, 14, 20, 30), (11, 32, 15, 20, 6), (11, 33, 16, 20, 6), (11, 34, 17, 20, 366), (11, 38, 18, 20, 20), (11, 41, 19, 20, 30), (11, 43, 20, 20, 31), (11, 44, 21, 20, 31), (11, 45, 22, 22, 31), (11, 46, 23, 22, 31), (11, 47, 24, 20, 30), (11, 48, 25, 20, 30), (11, 49, 26, 20, 10), (11, 54, 27, 20, 9), (11, 55, 28, 20, 9), (11, 56, 29, 20, 4), (11, 57, 30, 20, 4), (11, 58, 31, 22, 160)]
def shp (h : PH) : Prop := nx h = 279 ∧ (∀ q, cl h q = CLf q) ∧ (∀ q, q ≠ 62 → ln h q = LNf q) ∧ (∀ r ∈ RFl, ∀ q, CLf q = r.1 + 1 → gr h q r.2.1 = q + r.2.2.1) ∧
  gr h 218 0 = 65 ∧ (∀ i, i < 4 → gr h 66 i = 130 + 20 * i) ∧ (∀ i, i < 10 → gr h 76 i = 77 + 4 * i) ∧ (∀ i, i < 2 → gr h 118 i = 210 + 4 * i) ∧
  (∀ q, CLf q = 7 → CLf (gr h q 0) = 4 ∧ CLf (gr h q 1) = 9) ∧ CLf (gr h 218 6) = 4 ∧ CLf (gr h 218 7) = 3
theorem CLf_lt {q c : Nat} (h : CLf q = c + 1) (hc : c < 26) : 64 ≤ q ∧ q < 279 := by
  unfold CLf at h
  split at h
  · split at h
    · omega
    · split at h
      · omega
      · split at h
        · omega
        · omega
  · refine ⟨by omega, ?_⟩
    rcases Nat.lt_or_ge q 279 with z | z
    · exact z
    · rw [List.getD_eq_getElem?_getD, List.getElem?_eq_none (by show CLl.length ≤ _; rw [show CLl.length = 215 from rfl]; omega)] at h
      simp at h
def RFchk : Bool := (List.range 279).all (fun q => RFl.all (fun r => decide (CLf q = r.1 + 1 → CLf (q + r.2.2.1) = r.2.2.2.1 ∧ LNf (q + r.2.2.1) = r.2.2.2.2)))
theorem RFchk_ok : RFchk = true := by decide +kernel
theorem RF_at {r : Nat × Nat × Nat × Nat × Nat} (hr : r ∈ RFl) {q : Nat} (hq : CLf q = r.1 + 1) : CLf (q + r.2.2.1) = r.2.2.2.1 ∧ LNf (q + r.2.2.1) = r.2.2.2.2 := by
  have hc : r.1 < 26 := by
    have := List.all_eq_true.mp (show RFl.all (fun r => decide (r.1 < 26)) = true by decide +kernel) r hr
    simpa using this
  have h1 := List.all_eq_true.mp RFchk_ok q (List.mem_range.mpr (CLf_lt hq hc).2)
  have h2 := List.all_eq_true.mp h1 r hr
  exact (of_decide_eq_true h2) hq
def T2 (d : Nat) (M : MD) (pc : Nat) (lo : List (Option PV)) (st : List PV) (h : PH) (Q : Option PV → PH → Prop) : Prop := shp h → T d (0, 0, 0, 0) M pc lo st h (fun r h1 => shp h1 ∧ Q r h1)
def C2 (d : Nat) (M : MD) (as : List PV) (h : PH) (Q : Option PV → PH → Prop) : Prop := shp h → Call d M as h (fun r h1 => shp h1 ∧ Q r h1)
theorem shp_si {h : PH} (hs : shp h) (q k : Nat) (v : Int) : shp (si h q k v) := hs
theorem shp_sj {h : PH} (hs : shp h) (q k : Nat) (v : Int) : shp (sj h q k v) := hs
theorem C2.mono {d : Nat} {N : MD} {as : List PV} {h : PH} {Q1 Q2 : Option PV → PH → Prop} (hc : C2 d N as h Q1) (hq : ∀ r h1, Q1 r h1 → Q2 r h1) : C2 d N as h Q2 := fun hs => (hc hs).mono (fun r h1 _ z => ⟨z.1, hq r h1 z.2⟩)
theorem C2.monoI {d : Nat} {N : MD} {as : List PV} {h : PH} {P P' : Int → PH → Prop} (hc : C2 d N as h (onI P)) (hq : ∀ x h1, P x h1 → P' x h1) : C2 d N as h (onI P') :=
  hc.mono (fun r h1 => match r with
    | none => fun z => z
    | some (.inl x) => fun z hx => hq x h1 (z hx)
    | some (.inr _) => fun z => z)
theorem C2.monoJ {d : Nat} {N : MD} {as : List PV} {h : PH} {P P' : Int → PH → Prop} (hc : C2 d N as h (onJ P)) (hq : ∀ x h1, P x h1 → P' x h1) : C2 d N as h (onJ P') :=
  hc.mono (fun r h1 => match r with
    | none => fun z => z
    | some (.inl _) => fun z => z
    | some (.inr (.inl x)) => fun z hx => hq x h1 (z hx)
    | some (.inr (.inr _)) => fun z => z)
theorem C2.monoR {d : Nat} {N : MD} {as : List PV} {h : PH} {P P' : Nat → PH → Prop} (hc : C2 d N as h (onR P)) (hq : ∀ x h1, P x h1 → P' x h1) : C2 d N as h (onR P') :=
  hc.mono (fun r h1 => match r with
    | none => fun z => z
    | some (.inl _) => fun z => z
    | some (.inr (.inl _)) => fun z => z
    | some (.inr (.inr (.inl x))) => fun z => hq x h1 z
    | some (.inr (.inr (.inr _))) => fun z => z)
theorem C2.monoF {d : Nat} {N : MD} {as : List PV} {h : PH} {P P' : UInt32 → PH → Prop} (hc : C2 d N as h (onF P)) (hq : ∀ x h1, P x h1 → P' x h1) : C2 d N as h (onF P') :=
  hc.mono (fun r h1 => match r with
    | none => fun z => z
    | some (.inl _) => fun z => z
    | some (.inr (.inl _)) => fun z => z
    | some (.inr (.inr (.inl _))) => fun z => z
    | some (.inr (.inr (.inr (.inl x)))) => fun z => hq x h1 z
    | some (.inr (.inr (.inr (.inr _)))) => fun z => z)
theorem C2.monoV {d : Nat} {N : MD} {as : List PV} {h : PH} {P P' : PH → Prop} (hc : C2 d N as h (onV P)) (hq : ∀ h1, P h1 → P' h1) : C2 d N as h (onV P') :=
  hc.mono (fun _ h1 z => ⟨z.1, hq h1 z.2⟩)
/-- entry -/
theorem C2.of {d : Nat} {M : MD} {as : List PV} {h : PH} {Q : Option PV → PH → Prop} {lo : List (Option PV)} (hy : plainName M.1.cls = true) (hn : (entA as).length ≤ M.2.2.1) (hl : entL as M.2.2.1 = lo) (k : (∀ v ∈ as, okv v) → T2 d M 0 lo [] h Q) : C2 d M as h Q := fun hs => Call.of hy hn hl (fun ho => k ho hs)
def msk (m : List Bool) (lo : List (Option PV)) : List (Option PV) := match m, lo with
  | true :: m, x :: l => x :: msk m l
  | false :: m, _ :: l => none :: msk m l
  | _, l => l
theorem msk_at {m : List Bool} {lo : List (Option PV)} {i : Nat} {v : PV} (h : (msk m lo)[i]? = some (some v)) : lo[i]? = some (some v) := by
  induction lo generalizing m i with
  | nil =>
    cases m with
    | nil => exact h
    | cons b m => cases b <;> exact h
  | cons x l ih =>
    cases m with
    | nil => exact h
    | cons b m =>
      cases b with
      | true =>
        cases i with
        | zero => exact h
        | succ i => exact ih h
      | false =>
        cases i with
        | zero => simp [msk] at h
        | succ i => exact ih h
theorem msk_len (m : List Bool) (lo : List (Option PV)) : (msk m lo).length = lo.length := by
  induction lo generalizing m with
  | nil => cases m with
    | nil => rfl
    | cons b m => cases b <;> rfl
  | cons x l ih =>
    cases m with
    | nil => rfl
    | cons b m => cases b <;> simp [msk, ih]
theorem T_msk {d : Nat} {u : Bu} {M : MD} {pc : Nat} {lo lo' : List (Option PV)} {st : List PV} {h : PH} {Q : Option PV → PH → Prop} (m : List Bool) (hl : msk m lo = lo') (k : T d u M pc lo' st h Q) : T d u M pc lo st h Q := by
  subst hl
  intro p' l e R s mm args below meth c' g H locs ls C hR hL hs hlc
  refine k p' l e R s mm args below meth c' g H locs ls C hR ⟨⟨hL.1.1, hL.1.2.1, fun q hq => ?_⟩, fun i v hv => hL.2.1 i v (msk_at hv), by rw [msk_len]; exact hL.2.2⟩ hs hlc
  obtain ⟨v, h1, h2⟩ := lst_mem hq
  have := hL.at (msk_at h1)
  rw [h2]; exact this
theorem T2_msk {d : Nat} {M : MD} {pc : Nat} {lo lo' : List (Option PV)} {st : List PV} {h : PH} {Q : Option PV → PH → Prop} (m : List Bool) (hl : msk m lo = lo') (k : T2 d M pc lo' st h Q) : T2 d M pc lo st h Q := fun hs => T_msk m hl (k hs)
section
variable {d : Nat} {M : MD} {pc pc' : Nat} {lo : List (Option PV)} {st stk : List PV} {h : PH} {Q : Option PV → PH → Prop}
theorem T2_iadd {a b : Int} (hd : DI M pc .iadd 1 pc') (k : T2 d M pc' lo (vI (w32 (a + b)) :: st) h Q) : T2 d M pc lo (vI b :: vI a :: st) h Q := fun hsp => T_iadd hd (k hsp)
theorem T2_isub {a b : Int} (hd : DI M pc .isub 1 pc') (k : T2 d M pc' lo (vI (w32 (a - b)) :: st) h Q) : T2 d M pc lo (vI b :: vI a :: st) h Q := fun hsp => T_isub hd (k hsp)
theorem T2_imul {a b : Int} (hd : DI M pc .imul 1 pc') (k : T2 d M pc' lo (vI (w32 (a * b)) :: st) h Q) : T2 d M pc lo (vI b :: vI a :: st) h Q := fun hsp => T_imul hd (k hsp)
theorem T2_ladd {a b : Int} (hd : DI M pc .ladd 1 pc') (k : T2 d M pc' lo (vJ (w64 (a + b)) :: st) h Q) : T2 d M pc lo (vJ b :: vJ a :: st) h Q := fun hsp => T_ladd hd (k hsp)
theorem T2_lsub {a b : Int} (hd : DI M pc .lsub 1 pc') (k : T2 d M pc' lo (vJ (w64 (a - b)) :: st) h Q) : T2 d M pc lo (vJ b :: vJ a :: st) h Q := fun hsp => T_lsub hd (k hsp)
theorem T2_lmul {a b : Int} (hd : DI M pc .lmul 1 pc') (k : T2 d M pc' lo (vJ (w64 (a * b)) :: st) h Q) : T2 d M pc lo (vJ b :: vJ a :: st) h Q := fun hsp => T_lmul hd (k hsp)
theorem T2_iand {a b : Int} (hd : DI M pc .iand 1 pc') (k : T2 d M pc' lo (vI (iand a b) :: st) h Q) : T2 d M pc lo (vI b :: vI a :: st) h Q := fun hsp => T_iand hd (k hsp)
theorem T2_ior {a b : Int} (hd : DI M pc .ior 1 pc') (k : T2 d M pc' lo (vI (ior a b) :: st) h Q) : T2 d M pc lo (vI b :: vI a :: st) h Q := fun hsp => T_ior hd (k hsp)
theorem T2_ixor {a b : Int} (hd : DI M pc .ixor 1 pc') (k : T2 d M pc' lo (vI (ixor a b) :: st) h Q) : T2 d M pc lo (vI b :: vI a :: st) h Q := fun hsp => T_ixor hd (k hsp)
theorem T2_land {a b : Int} (hd : DI M pc .land 1 pc') (k : T2 d M pc' lo (vJ (land a b) :: st) h Q) : T2 d M pc lo (vJ b :: vJ a :: st) h Q := fun hsp => T_land hd (k hsp)
theorem T2_lor {a b : Int} (hd : DI M pc .lor 1 pc') (k : T2 d M pc' lo (vJ (lor a b) :: st) h Q) : T2 d M pc lo (vJ b :: vJ a :: st) h Q := fun hsp => T_lor hd (k hsp)
theorem T2_ishl {a b : Int} (hd : DI M pc .ishl 1 pc') (k : T2 d M pc' lo (vI (ishl a b) :: st) h Q) : T2 d M pc lo (vI b :: vI a :: st) h Q := fun hsp => T_ishl hd (k hsp)
theorem T2_ishr {a b : Int} (hd : DI M pc .ishr 1 pc') (k : T2 d M pc' lo (vI (ishr a b) :: st) h Q) : T2 d M pc lo (vI b :: vI a :: st) h Q := fun hsp => T_ishr hd (k hsp)
theorem T2_iushr {a b : Int} (hd : DI M pc .iushr 1 pc') (k : T2 d M pc' lo (vI (iushr a b) :: st) h Q) : T2 d M pc lo (vI b :: vI a :: st) h Q := fun hsp => T_iushr hd (k hsp)
theorem T2_lshl {a b : Int} (hd : DI M pc .lshl 1 pc') (k : T2 d M pc' lo (vJ (lshl a b) :: st) h Q) : T2 d M pc lo (vI b :: vJ a :: st) h Q := fun hsp => T_lshl hd (k hsp)
theorem T2_lshr {a b : Int} (hd : DI M pc .lshr 1 pc') (k : T2 d M pc' lo (vJ (lshr a b) :: st) h Q) : T2 d M pc lo (vI b :: vJ a :: st) h Q := fun hsp => T_lshr hd (k hsp)
theorem T2_i2l {a : Int} (hd : DI M pc .i2l 1 pc') (k : T2 d M pc' lo (vJ a :: st) h Q) : T2 d M pc lo (vI a :: st) h Q := fun hsp => T_i2l hd (k hsp)
theorem T2_l2i {a : Int} (hd : DI M pc .l2i 1 pc') (k : T2 d M pc' lo (vI (w32 a) :: st) h Q) : T2 d M pc lo (vJ a :: st) h Q := fun hsp => T_l2i hd (k hsp)
theorem T2_i2b {a : Int} (hd : DI M pc .i2b 1 pc') (k : T2 d M pc' lo (vI (i2b a) :: st) h Q) : T2 d M pc lo (vI a :: st) h Q := fun hsp => T_i2b hd (k hsp)
theorem T2_i2s {a : Int} (hd : DI M pc .i2s 1 pc') (k : T2 d M pc' lo (vI (i2s a) :: st) h Q) : T2 d M pc lo (vI a :: st) h Q := fun hsp => T_i2s hd (k hsp)
theorem T2_i2c {a : Int} (hd : DI M pc .i2c 1 pc') (k : T2 d M pc' lo (vI (i2c a) :: st) h Q) : T2 d M pc lo (vI a :: st) h Q := fun hsp => T_i2c hd (k hsp)
theorem T2_idiv {a b : Int} (hd : DI M pc .idiv 1 pc') (hb : b ≠ 0) (k : T2 d M pc' lo (vI (w32 (a.tdiv b)) :: st) h Q) : T2 d M pc lo (vI b :: vI a :: st) h Q := fun hsp => T_idiv hd hb (k hsp)
theorem T2_irem {a b : Int} (hd : DI M pc .irem 1 pc') (hb : b ≠ 0) (k : T2 d M pc' lo (vI (a.tmod b) :: st) h Q) : T2 d M pc lo (vI b :: vI a :: st) h Q := fun hsp => T_irem hd hb (k hsp)
theorem T2_ldiv {a b : Int} (hd : DI M pc .ldiv 1 pc') (hb : b ≠ 0) (k : T2 d M pc' lo (vJ (w64 (a.tdiv b)) :: st) h Q) : T2 d M pc lo (vJ b :: vJ a :: st) h Q := fun hsp => T_ldiv hd hb (k hsp)
theorem T2_lrem {a b : Int} (hd : DI M pc .lrem 1 pc') (hb : b ≠ 0) (k : T2 d M pc' lo (vJ (a.tmod b) :: st) h Q) : T2 d M pc lo (vJ b :: vJ a :: st) h Q := fun hsp => T_lrem hd hb (k hsp)
theorem T2_iconst {x : Int} (hd : DI M pc (.iconst x) 1 pc') (hx : R32 x) (k : T2 d M pc' lo (vI x :: st) h Q) : T2 d M pc lo (st) h Q := fun hsp => T_iconst hd hx (k hsp)
theorem T2_bipush {x : Int} (hd : DI M pc (.bipush x) 2 pc') (hx : -128 ≤ x ∧ x < 128) (k : T2 d M pc' lo (vI x :: st) h Q) : T2 d M pc lo (st) h Q := fun hsp => T_bipush hd hx (k hsp)
theorem T2_sipush {x : Int} (hd : DI M pc (.sipush x) 3 pc') (hx : -32768 ≤ x ∧ x < 32768) (k : T2 d M pc' lo (vI x :: st) h Q) : T2 d M pc lo (st) h Q := fun hsp => T_sipush hd hx (k hsp)
theorem T2_lconst0  (hd : DI M pc (.lconst 0) 1 pc') (k : T2 d M pc' lo (vJ 0 :: st) h Q) : T2 d M pc lo (st) h Q := fun hsp => T_lconst0 hd (k hsp)
theorem T2_lconst1  (hd : DI M pc (.lconst 1) 1 pc') (k : T2 d M pc' lo (vJ 1 :: st) h Q) : T2 d M pc lo (st) h Q := fun hsp => T_lconst1 hd (k hsp)
theorem T2_ldc {i : Nat} {x : Int} (hd : DI M pc (.ldc i) 2 pc') (hw : Cond.constant M.1.cls i (Int32.ofInt x) ∈ gT) (hx : R32 x) (k : T2 d M pc' lo (vI x :: st) h Q) : T2 d M pc lo (st) h Q := fun hsp => T_ldc hd hw hx (k hsp)
theorem T2_ldcw {i : Nat} {x : Int} (hd : DI M pc (.ldc_w i) 3 pc') (hw : Cond.constant M.1.cls i (Int32.ofInt x) ∈ gT) (hx : R32 x) (k : T2 d M pc' lo (vI x :: st) h Q) : T2 d M pc lo (st) h Q := fun hsp => T_ldcw hd hw hx (k hsp)
theorem T2_ldc2 {i : Nat} {x : Int} (hd : DI M pc (.ldc2_w i) 3 pc') (hw : Cond.constantLong M.1.cls i (Int64.ofInt x) ∈ gT) (hx : R64 x) (k : T2 d M pc' lo (vJ x :: st) h Q) : T2 d M pc lo (st) h Q := fun hsp => T_ldc2 hd hw hx (k hsp)
theorem T2_ldc2d {i : Nat} {x : UInt64} (hd : DI M pc (.ldc2_w i) 3 pc') (hw : Cond.constantDouble M.1.cls i x ∈ gT) (k : T2 d M pc' lo (vD x :: st) h Q) : T2 d M pc lo (st) h Q := fun hsp => T_ldc2d hd hw (k hsp)
theorem T2_iload_n {k : Fin 4} {x : Int} (hd : DI M pc (.iload_n k) 1 pc') (hi : lo[(k : Nat)]? = some (some (vI x))) (k : T2 d M pc' lo (vI x :: st) h Q) : T2 d M pc lo (st) h Q := fun hsp => T_iload_n hd hi (k hsp)
theorem T2_iload {i : Nat} {x : Int} (hd : DI M pc (.iload i) 2 pc') (hi : lo[i]? = some (some (vI x))) (k : T2 d M pc' lo (vI x :: st) h Q) : T2 d M pc lo (st) h Q := fun hsp => T_iload hd hi (k hsp)
theorem T2_lload_n {k : Fin 4} {x : Int} (hd : DI M pc (.lload_n k) 1 pc') (hi : lo[(k : Nat)]? = some (some (vJ x))) (k : T2 d M pc' lo (vJ x :: st) h Q) : T2 d M pc lo (st) h Q := fun hsp => T_lload_n hd hi (k hsp)
theorem T2_lload {i : Nat} {x : Int} (hd : DI M pc (.lload i) 2 pc') (hi : lo[i]? = some (some (vJ x))) (k : T2 d M pc' lo (vJ x :: st) h Q) : T2 d M pc lo (st) h Q := fun hsp => T_lload hd hi (k hsp)
theorem T2_fload_n {k : Fin 4} {x : UInt32} (hd : DI M pc (.fload_n k) 1 pc') (hi : lo[(k : Nat)]? = some (some (vF x))) (k : T2 d M pc' lo (vF x :: st) h Q) : T2 d M pc lo (st) h Q := fun hsp => T_fload_n hd hi (k hsp)
theorem T2_fload {i : Nat} {x : UInt32} (hd : DI M pc (.fload i) 2 pc') (hi : lo[i]? = some (some (vF x))) (k : T2 d M pc' lo (vF x :: st) h Q) : T2 d M pc lo (st) h Q := fun hsp => T_fload hd hi (k hsp)
theorem T2_dload_n {k : Fin 4} {x : UInt64} (hd : DI M pc (.dload_n k) 1 pc') (hi : lo[(k : Nat)]? = some (some (vD x))) (k : T2 d M pc' lo (vD x :: st) h Q) : T2 d M pc lo (st) h Q := fun hsp => T_dload_n hd hi (k hsp)
theorem T2_dload {i : Nat} {x : UInt64} (hd : DI M pc (.dload i) 2 pc') (hi : lo[i]? = some (some (vD x))) (k : T2 d M pc' lo (vD x :: st) h Q) : T2 d M pc lo (st) h Q := fun hsp => T_dload hd hi (k hsp)
theorem T2_aload_n {k : Fin 4} {x : Nat} (hd : DI M pc (.aload_n k) 1 pc') (hi : lo[(k : Nat)]? = some (some (vR x))) (k : T2 d M pc' lo (vR x :: st) h Q) : T2 d M pc lo st h Q := fun hsp => T_aload_n hd hi (k hsp)
theorem T2_aload {i x : Nat} (hd : DI M pc (.aload i) 2 pc') (hi : lo[i]? = some (some (vR x))) (k : T2 d M pc' lo (vR x :: st) h Q) : T2 d M pc lo st h Q := fun hsp => T_aload hd hi (k hsp)
theorem T2_istore_n {k : Fin 4} {i : Nat} {x : Int} {lo' : List (Option PV)} (hd : DI M pc (.istore_n k) 1 pc') (hki : (k : Nat) = i) (hn : i < lo.length) (hl : lset1 lo i (vI x) = lo') (k : T2 d M pc' lo' st h Q) : T2 d M pc lo (vI x :: st) h Q := fun hsp => T_istore_n hd hki hn hl (k hsp)
theorem T2_istore {i : Nat} {x : Int} {lo' : List (Option PV)} (hd : DI M pc (.istore i) 2 pc') (hn : i < lo.length) (hl : lset1 lo i (vI x) = lo') (k : T2 d M pc' lo' st h Q) : T2 d M pc lo (vI x :: st) h Q := fun hsp => T_istore hd hn hl (k hsp)
theorem T2_lstore_n {k : Fin 4} {i : Nat} {x : Int} {lo' : List (Option PV)} (hd : DI M pc (.lstore_n k) 1 pc') (hki : (k : Nat) = i) (hn : i + 1 < lo.length) (hl : lset2 lo i (vJ x) = lo') (k : T2 d M pc' lo' st h Q) : T2 d M pc lo (vJ x :: st) h Q := fun hsp => T_lstore_n hd hki hn hl (k hsp)
theorem T2_lstore {i : Nat} {x : Int} {lo' : List (Option PV)} (hd : DI M pc (.lstore i) 2 pc') (hn : i + 1 < lo.length) (hl : lset2 lo i (vJ x) = lo') (k : T2 d M pc' lo' st h Q) : T2 d M pc lo (vJ x :: st) h Q := fun hsp => T_lstore hd hn hl (k hsp)
theorem T2_fstore_n {k : Fin 4} {i : Nat} {x : UInt32} {lo' : List (Option PV)} (hd : DI M pc (.fstore_n k) 1 pc') (hki : (k : Nat) = i) (hn : i < lo.length) (hl : lset1 lo i (vF x) = lo') (k : T2 d M pc' lo' st h Q) : T2 d M pc lo (vF x :: st) h Q := fun hsp => T_fstore_n hd hki hn hl (k hsp)
theorem T2_fstore {i : Nat} {x : UInt32} {lo' : List (Option PV)} (hd : DI M pc (.fstore i) 2 pc') (hn : i < lo.length) (hl : lset1 lo i (vF x) = lo') (k : T2 d M pc' lo' st h Q) : T2 d M pc lo (vF x :: st) h Q := fun hsp => T_fstore hd hn hl (k hsp)
theorem T2_dstore_n {k : Fin 4} {i : Nat} {x : UInt64} {lo' : List (Option PV)} (hd : DI M pc (.dstore_n k) 1 pc') (hki : (k : Nat) = i) (hn : i + 1 < lo.length) (hl : lset2 lo i (vD x) = lo') (k : T2 d M pc' lo' st h Q) : T2 d M pc lo (vD x :: st) h Q := fun hsp => T_dstore_n hd hki hn hl (k hsp)
theorem T2_dstore {i : Nat} {x : UInt64} {lo' : List (Option PV)} (hd : DI M pc (.dstore i) 2 pc') (hn : i + 1 < lo.length) (hl : lset2 lo i (vD x) = lo') (k : T2 d M pc' lo' st h Q) : T2 d M pc lo (vD x :: st) h Q := fun hsp => T_dstore hd hn hl (k hsp)
theorem T2_astore_n {k : Fin 4} {i x : Nat} {lo' : List (Option PV)} (hd : DI M pc (.astore_n k) 1 pc') (hki : (k : Nat) = i) (hn : i < lo.length) (hl : lset1 lo i (vR x) = lo') (k : T2 d M pc' lo' st h Q) : T2 d M pc lo (vR x :: st) h Q := fun hsp => T_astore_n hd hki hn hl (k hsp)
theorem T2_astore {i x : Nat} {lo' : List (Option PV)} (hd : DI M pc (.astore i) 2 pc') (hn : i < lo.length) (hl : lset1 lo i (vR x) = lo') (k : T2 d M pc' lo' st h Q) : T2 d M pc lo (vR x :: st) h Q := fun hsp => T_astore hd hn hl (k hsp)
theorem T2_iinc {i : Nat} {n : Int} {x : Int} {lo' : List (Option PV)} (hd : DI M pc (.iinc i n) 3 pc') (hi : lo[i]? = some (some (vI x))) (hl : lset1 lo i (vI (w32 (x + n))) = lo') (k : T2 d M pc' lo' st h Q) : T2 d M pc lo st h Q := fun hsp => T_iinc hd hi hl (k hsp)
theorem T2_dupI {a : Int} (hd : DI M pc .dup 1 pc') (k : T2 d M pc' lo (vI a :: vI a :: st) h Q) : T2 d M pc lo (vI a :: st) h Q := fun hsp => T_dupI hd (k hsp)
theorem T2_dup {v : PV} (hd : DI M pc .dup 1 pc') (hc : cat2 v = false) (k : T2 d M pc' lo (v :: v :: st) h Q) : T2 d M pc lo (v :: st) h Q := fun hsp => T_dup hd hc (k hsp)
theorem T2_dup2 {v w : PV} (hd : DI M pc .dup2 1 pc') (hc : cat2 v = false) (hc2 : cat2 w = false) (k : T2 d M pc' lo (v :: w :: v :: w :: st) h Q) : T2 d M pc lo (v :: w :: st) h Q := fun hsp => T_dup2 hd hc hc2 (k hsp)
theorem T2_pop2 {v : PV} (hd : DI M pc .pop2 1 pc') (hc : cat2 v = true) (k : T2 d M pc' lo st h Q) : T2 d M pc lo (v :: st) h Q := fun hsp => T_pop2 hd hc (k hsp)
theorem T2_goto {off : Int} {tgt : Nat} (hd : DI M pc (.goto off) 3 pc') (ht : (pc : Int) + off = tgt) (k : T2 d M tgt lo st h Q) : T2 d M pc lo st h Q := fun hsp => T_goto hd ht (k hsp)
theorem T2_icmp_eq {a b : Int} {off : Int} {tgt : Nat} (hd : DI M pc (.if_icmp .eq off) 3 pc') (ht : (pc : Int) + off = tgt) (kt : a = b → T2 d M tgt lo st h Q) (kf : a ≠ b → T2 d M pc' lo st h Q) : T2 d M pc lo (vI b :: vI a :: st) h Q := fun hsp => T_icmp_eq hd ht (fun z0 => kt z0 hsp) (fun z0 => kf z0 hsp)
theorem T2_if_eq {a : Int} {off : Int} {tgt : Nat} (hd : DI M pc (.ifCond .eq off) 3 pc') (ht : (pc : Int) + off = tgt) (kt : a = 0 → T2 d M tgt lo st h Q) (kf : a ≠ 0 → T2 d M pc' lo st h Q) : T2 d M pc lo (vI a :: st) h Q := fun hsp => T_if_eq hd ht (fun z0 => kt z0 hsp) (fun z0 => kf z0 hsp)
theorem T2_icmp_ne {a b : Int} {off : Int} {tgt : Nat} (hd : DI M pc (.if_icmp .ne off) 3 pc') (ht : (pc : Int) + off = tgt) (kt : a ≠ b → T2 d M tgt lo st h Q) (kf : a = b → T2 d M pc' lo st h Q) : T2 d M pc lo (vI b :: vI a :: st) h Q := fun hsp => T_icmp_ne hd ht (fun z0 => kt z0 hsp) (fun z0 => kf z0 hsp)
theorem T2_if_ne {a : Int} {off : Int} {tgt : Nat} (hd : DI M pc (.ifCond .ne off) 3 pc') (ht : (pc : Int) + off = tgt) (kt : a ≠ 0 → T2 d M tgt lo st h Q) (kf : a = 0 → T2 d M pc' lo st h Q) : T2 d M pc lo (vI a :: st) h Q := fun hsp => T_if_ne hd ht (fun z0 => kt z0 hsp) (fun z0 => kf z0 hsp)
theorem T2_icmp_lt {a b : Int} {off : Int} {tgt : Nat} (hd : DI M pc (.if_icmp .lt off) 3 pc') (ht : (pc : Int) + off = tgt) (kt : a < b → T2 d M tgt lo st h Q) (kf : b ≤ a → T2 d M pc' lo st h Q) : T2 d M pc lo (vI b :: vI a :: st) h Q := fun hsp => T_icmp_lt hd ht (fun z0 => kt z0 hsp) (fun z0 => kf z0 hsp)
theorem T2_if_lt {a : Int} {off : Int} {tgt : Nat} (hd : DI M pc (.ifCond .lt off) 3 pc') (ht : (pc : Int) + off = tgt) (kt : a < 0 → T2 d M tgt lo st h Q) (kf : 0 ≤ a → T2 d M pc' lo st h Q) : T2 d M pc lo (vI a :: st) h Q := fun hsp => T_if_lt hd ht (fun z0 => kt z0 hsp) (fun z0 => kf z0 hsp)
theorem T2_icmp_ge {a b : Int} {off : Int} {tgt : Nat} (hd : DI M pc (.if_icmp .ge off) 3 pc') (ht : (pc : Int) + off = tgt) (kt : b ≤ a → T2 d M tgt lo st h Q) (kf : a < b → T2 d M pc' lo st h Q) : T2 d M pc lo (vI b :: vI a :: st) h Q := fun hsp => T_icmp_ge hd ht (fun z0 => kt z0 hsp) (fun z0 => kf z0 hsp)
theorem T2_if_ge {a : Int} {off : Int} {tgt : Nat} (hd : DI M pc (.ifCond .ge off) 3 pc') (ht : (pc : Int) + off = tgt) (kt : 0 ≤ a → T2 d M tgt lo st h Q) (kf : a < 0 → T2 d M pc' lo st h Q) : T2 d M pc lo (vI a :: st) h Q := fun hsp => T_if_ge hd ht (fun z0 => kt z0 hsp) (fun z0 => kf z0 hsp)
theorem T2_icmp_gt {a b : Int} {off : Int} {tgt : Nat} (hd : DI M pc (.if_icmp .gt off) 3 pc') (ht : (pc : Int) + off = tgt) (kt : b < a → T2 d M tgt lo st h Q) (kf : a ≤ b → T2 d M pc' lo st h Q) : T2 d M pc lo (vI b :: vI a :: st) h Q := fun hsp => T_icmp_gt hd ht (fun z0 => kt z0 hsp) (fun z0 => kf z0 hsp)
theorem T2_if_gt {a : Int} {off : Int} {tgt : Nat} (hd : DI M pc (.ifCond .gt off) 3 pc') (ht : (pc : Int) + off = tgt) (kt : 0 < a → T2 d M tgt lo st h Q) (kf : a ≤ 0 → T2 d M pc' lo st h Q) : T2 d M pc lo (vI a :: st) h Q := fun hsp => T_if_gt hd ht (fun z0 => kt z0 hsp) (fun z0 => kf z0 hsp)
theorem T2_icmp_le {a b : Int} {off : Int} {tgt : Nat} (hd : DI M pc (.if_icmp .le off) 3 pc') (ht : (pc : Int) + off = tgt) (kt : a ≤ b → T2 d M tgt lo st h Q) (kf : b < a → T2 d M pc' lo st h Q) : T2 d M pc lo (vI b :: vI a :: st) h Q := fun hsp => T_icmp_le hd ht (fun z0 => kt z0 hsp) (fun z0 => kf z0 hsp)
theorem T2_if_le {a : Int} {off : Int} {tgt : Nat} (hd : DI M pc (.ifCond .le off) 3 pc') (ht : (pc : Int) + off = tgt) (kt : a ≤ 0 → T2 d M tgt lo st h Q) (kf : 0 < a → T2 d M pc' lo st h Q) : T2 d M pc lo (vI a :: st) h Q := fun hsp => T_if_le hd ht (fun z0 => kt z0 hsp) (fun z0 => kf z0 hsp)
theorem T2_lcmp {a b : Int} (hd : DI M pc .lcmp 1 pc') (k : T2 d M pc' lo (vI (lcmpv a b) :: st) h Q) : T2 d M pc lo (vJ b :: vJ a :: st) h Q := fun hsp => T_lcmp hd (k hsp)
theorem T2_table {x dflt low hi : Int} {offs : Array Int} {len : Nat} {n : Nat} {tg : Nat → Nat} (hd : DI M pc (.tableswitch dflt low hi offs) len pc') (hn : offs.size = n) (hhi : hi = low + n - 1) (hnn : 0 < n) (ht : ∀ j, j < n → offs[j]? = some ((tg j : Int) - pc)) {dt : Nat} (hdt : (pc : Int) + dflt = dt) (kin : ∀ j, j < n → x = low + j → T2 d M (tg j) lo st h Q) (kout : x < low ∨ low + n ≤ x → T2 d M dt lo st h Q) : T2 d M pc lo (vI x :: st) h Q := fun hsp => T_table hd hn hhi hnn ht hdt (fun y0 z0 z1 => kin y0 z0 z1 hsp) (fun z0 => kout z0 hsp)
theorem T2_acmp_ne {a b : Nat} {off : Int} {tgt : Nat} (hd : DI M pc (.if_acmp .ne off) 3 pc') (ht : (pc : Int) + off = tgt) (ha : 64 ≤ a) (hb : 64 ≤ b) (kt : a ≠ b → T2 d M tgt lo st h Q) (kf : a = b → T2 d M pc' lo st h Q) : T2 d M pc lo (vR b :: vR a :: st) h Q := fun hsp => T_acmp_ne hd ht ha hb (fun z0 => kt z0 hsp) (fun z0 => kf z0 hsp)
theorem T2_fadd {a b : UInt32} (hd : DI M pc .fadd 1 pc') (hn : vf_n32 (FP.fadd a b)) (k : T2 d M pc' lo (vF (FP.fadd a b) :: st) h Q) : T2 d M pc lo (vF b :: vF a :: st) h Q := fun hsp => T_fadd hd hn (k hsp)
theorem T2_fsub {a b : UInt32} (hd : DI M pc .fsub 1 pc') (hn : vf_n32 (FP.fsub a b)) (k : T2 d M pc' lo (vF (FP.fsub a b) :: st) h Q) : T2 d M pc lo (vF b :: vF a :: st) h Q := fun hsp => T_fsub hd hn (k hsp)
theorem T2_fmul {a b : UInt32} (hd : DI M pc .fmul 1 pc') (hn : vf_n32 (FP.fmul a b)) (k : T2 d M pc' lo (vF (FP.fmul a b) :: st) h Q) : T2 d M pc lo (vF b :: vF a :: st) h Q := fun hsp => T_fmul hd hn (k hsp)
theorem T2_fdiv {a b : UInt32} (hd : DI M pc .fdiv 1 pc') (hn : vf_n32 (FP.fdiv a b)) (k : T2 d M pc' lo (vF (FP.fdiv a b) :: st) h Q) : T2 d M pc lo (vF b :: vF a :: st) h Q := fun hsp => T_fdiv hd hn (k hsp)
theorem T2_dadd {a b : UInt64} (hd : DI M pc .dadd 1 pc') (hn : vf_n64 (FP.dadd a b)) (k : T2 d M pc' lo (vD (FP.dadd a b) :: st) h Q) : T2 d M pc lo (vD b :: vD a :: st) h Q := fun hsp => T_dadd hd hn (k hsp)
theorem T2_ddiv {a b : UInt64} (hd : DI M pc .ddiv 1 pc') (hn : vf_n64 (FP.ddiv a b)) (k : T2 d M pc' lo (vD (FP.ddiv a b) :: st) h Q) : T2 d M pc lo (vD b :: vD a :: st) h Q := fun hsp => T_ddiv hd hn (k hsp)
theorem T2_d2f {a : UInt64} (hd : DI M pc .d2f 1 pc') (hn : vf_n32 (FP.d2f a)) (k : T2 d M pc' lo (vF (FP.d2f a) :: st) h Q) : T2 d M pc lo (vD a :: st) h Q := fun hsp => T_d2f hd hn (k hsp)
theorem T2_i2d {a : Int} (hd : DI M pc .i2d 1 pc') (k : T2 d M pc' lo (vD (FP.i2d (Int32.ofInt a)) :: st) h Q) : T2 d M pc lo (vI a :: st) h Q := fun hsp => T_i2d hd (k hsp)
theorem T2_i2f {a : Int} (hd : DI M pc .i2f 1 pc') (k : T2 d M pc' lo (vF (FP.i2f (Int32.ofInt a)) :: st) h Q) : T2 d M pc lo (vI a :: st) h Q := fun hsp => T_i2f hd (k hsp)
theorem T2_f2i {a : UInt32} (hd : DI M pc .f2i 1 pc') (k : T2 d M pc' lo (vI (FP.f2i a).toInt :: st) h Q) : T2 d M pc lo (vF a :: st) h Q := fun hsp => T_f2i hd (k hsp)
theorem T2_fcmp {a b : UInt32} {op : CmpOp} (hd : DI M pc (.fcmp op) 1 pc') (k : T2 d M pc' lo (vI (Op.cmpValue (FP.fcmp a b) op).toInt :: st) h Q) : T2 d M pc lo (vF b :: vF a :: st) h Q := fun hsp => T_fcmp hd (k hsp)
theorem T2_ldcS {idx i : Nat} (hd : DI M pc (.ldc idx) 2 pc') (hi : i < 27) (hx : sIdx.getD i 0 = idx) (ho : sOwn i = M.1.cls) (k : T2 d M pc' lo (vR (1 + i) :: st) h Q) : T2 d M pc lo st h Q := fun hsp => T_ldcS hd hi hx ho (k hsp)
theorem T2_strV {idx i : Nat} (hd : DI M pc (.getfield idx) 3 pc') (hw : Cond.fieldLink M.1.cls idx "java/lang/String" "value" "[B" ∈ gT) (hi : i < 27) (k : T2 d M pc' lo (vR (33 + i) :: st) h Q) : T2 d M pc lo (vR (1 + i) :: st) h Q := fun hsp => T_strV hd hw hi (k hsp)
theorem T2_strC {idx i : Nat} (hd : DI M pc (.getfield idx) 3 pc') (hw : Cond.fieldLink M.1.cls idx "java/lang/String" "coder" "B" ∈ gT) (hi : i < 27) (k : T2 d M pc' lo (vI 0 :: st) h Q) : T2 d M pc lo (vR (1 + i) :: st) h Q := fun hsp => T_strC hd hw hi (k hsp)
theorem T2_strL {i : Nat} (hd : DI M pc .arraylength 1 pc') (hi : i < 27) (hs : sLen i < 10000) (k : T2 d M pc' lo (vI (sLen i) :: st) h Q) : T2 d M pc lo (vR (33 + i) :: st) h Q := fun hsp => T_strL hd hi hs (k hsp)
theorem T2_strB {i : Nat} {j : Int} (hd : DI M pc .baload 1 pc') (hi : i < 27) (h0 : 0 ≤ j) (h1 : j < sLen i) (hok : R32 (sChr i j.toNat)) (k : T2 d M pc' lo (vI (sChr i j.toNat) :: st) h Q) : T2 d M pc lo (vI j :: vR (33 + i) :: st) h Q := fun hsp => T_strB hd hi h0 h1 hok (k hsp)
theorem T2_cstr {idx : Nat} (hd : DI M pc (.getstatic idx) 3 pc') (hw : Cond.fieldLink M.1.cls idx "java/lang/String" "COMPACT_STRINGS" "Z" ∈ gT) (k : T2 d M pc' lo (vI 1 :: st) h Q) : T2 d M pc lo st h Q := fun hsp => T_cstr hd hw (k hsp)
theorem T2_pop {v : PV} (hd : DI M pc .pop 1 pc') (hc : cat2 v = false) (k : T2 d M pc' lo st h Q) : T2 d M pc lo (v :: st) h Q := fun hsp => T_pop hd hc (k hsp)
theorem T2_sioo {idx : Nat} (hd : DI M pc (.getstatic idx) 3 pc') (hw : Cond.fieldLink M.1.cls idx "jdk/internal/util/Preconditions" "SIOOBE_FORMATTER" "Ljava/util/function/BiFunction;" ∈ gT) (k : ∀ a, T2 d M pc' lo (vR a :: st) h Q) : T2 d M pc lo st h Q := fun hsp => T_sioo hd hw (fun a => k a hsp)
theorem T2_ret (hd : DI M pc .return_ 1 pc') (hr : M.2.2.2 = none) (hq : Q none h) : T2 d M pc lo [] h Q := fun hsp => T_ret hd hr ⟨hsp, hq⟩
theorem T2_iret {x : Int} (hd : DI M pc .ireturn 1 pc') (hr : M.2.2.2 = some .int) (hq : Q (some (vI x)) h) : T2 d M pc lo [vI x] h Q := fun hsp => T_iret hd hr ⟨hsp, hq⟩
theorem T2_zret {x : Int} (hd : DI M pc .ireturn 1 pc') (hr : M.2.2.2 = some .boolean) (hx : x = 0 ∨ x = 1) (hq : Q (some (vI x)) h) : T2 d M pc lo [vI x] h Q := fun hsp => T_zret hd hr hx ⟨hsp, hq⟩
theorem T2_zretG {x : Int} {ty : FieldType} (hd : DI M pc .ireturn 1 pc') (hr : M.2.2.2 = some ty) (hn : narrow ty (.int (Int32.ofInt x)) = .int (Int32.ofInt x)) (hq : Q (some (vI x)) h) : T2 d M pc lo [vI x] h Q := fun hsp => T_zretG hd hr hn ⟨hsp, hq⟩
theorem T2_lret {x : Int} (hd : DI M pc .lreturn 1 pc') (hr : M.2.2.2 = some .long) (hq : Q (some (vJ x)) h) : T2 d M pc lo [vJ x] h Q := fun hsp => T_lret hd hr ⟨hsp, hq⟩
theorem T2_fret {x : UInt32} (hd : DI M pc .freturn 1 pc') (hr : M.2.2.2 = some .float) (hq : Q (some (vF x)) h) : T2 d M pc lo [vF x] h Q := fun hsp => T_fret hd hr ⟨hsp, hq⟩
theorem T2_aret {a : Nat} {rt : FieldType} (hd : DI M pc .areturn 1 pc') (hr : M.2.2.2 = some rt) (hrt : (∃ n, rt = .object n) ∨ ∃ t, rt = .array t) (hq : Q (some (vR a)) h) : T2 d M pc lo [vR a] h Q := fun hsp => T_aret hd hr hrt ⟨hsp, hq⟩
theorem T2_rng (k : ((∀ q k, R32 (gi h q k)) ∧ ∀ q k, R64 (gj h q k)) → T2 d M pc lo st h Q) : T2 d M pc lo st h Q := fun hsp => T_rng (fun z => k z hsp)
theorem T2_rlo (k : (∀ (i : Nat) (v : PV), lo[i]? = some (some v) → okv v) → T2 d M pc lo st h Q) : T2 d M pc lo st h Q := fun hsp => T_rlo (fun z => k z hsp)
theorem T2_shp (k : shp h → T2 d M pc lo st h Q) : T2 d M pc lo st h Q := fun hsp => k hsp hsp
theorem T2_getI {idx c k p : Nat} (hd : DI M pc (.getfield idx) 3 pc') (hf : FL M idx c k) (hc : CLf p = c + 1) (hv : ∀ h' : PH, fv h' p c k = vI (gi h' p k)) (kk : T2 d M pc' lo (vI (gi h p k) :: st) h Q) : T2 d M pc lo (vR p :: st) h Q := fun hsp => T_get hd hf ((hsp.2.1 p).trans hc) (hv h) (kk hsp)
theorem T2_getJ {idx c k p : Nat} (hd : DI M pc (.getfield idx) 3 pc') (hf : FL M idx c k) (hc : CLf p = c + 1) (hv : ∀ h' : PH, fv h' p c k = vJ (gj h' p k)) (kk : T2 d M pc' lo (vJ (gj h p k) :: st) h Q) : T2 d M pc lo (vR p :: st) h Q := fun hsp => T_get hd hf ((hsp.2.1 p).trans hc) (hv h) (kk hsp)
/-- a reference that stays -/
theorem T2_getR {idx c k p off a b : Nat} (hd : DI M pc (.getfield idx) 3 pc') (hf : FL M idx c k) (hc : CLf p = c + 1) (hv : ∀ h' : PH, fv h' p c k = vR (gr h' p k)) (hr : (c, k, off, a, b) ∈ RFl) (kk : T2 d M pc' lo (vR (p + off) :: st) h Q) : T2 d M pc lo (vR p :: st) h Q := fun hsp => T_get hd hf ((hsp.2.1 p).trans hc) (by rw [hv h, hsp.2.2.2.1 _ hr p hc]) (kk hsp)
theorem T2_getText {idx : Nat} (hd : DI M pc (.getfield idx) 3 pc') (hf : FL M idx 5 0) (kk : T2 d M pc' lo (vR 65 :: st) h Q) : T2 d M pc lo (vR 218 :: st) h Q := fun hsp => T_get hd hf ((hsp.2.1 218).trans rfl) (by show vR (gr h 218 0) = _; rw [hsp.2.2.2.2.1]) (kk hsp)
theorem T2_getSP {idx p : Nat} (hd : DI M pc (.getfield idx) 3 pc') (hf : FL M idx 6 0) (hc : CLf p = 7) (kk : CLf (gr h p 0) = 4 → T2 d M pc' lo (vR (gr h p 0) :: st) h Q) : T2 d M pc lo (vR p :: st) h Q := fun hsp => T_get hd hf ((hsp.2.1 p).trans hc) rfl (kk (hsp.2.2.2.2.2.2.2.2.1 p hc).1 hsp)
theorem T2_getSS {idx p : Nat} (hd : DI M pc (.getfield idx) 3 pc') (hf : FL M idx 6 1) (hc : CLf p = 7) (kk : CLf (gr h p 1) = 9 → T2 d M pc' lo (vR (gr h p 1) :: st) h Q) : T2 d M pc lo (vR p :: st) h Q := fun hsp => T_get hd hf ((hsp.2.1 p).trans hc) rfl (kk (hsp.2.2.2.2.2.2.2.2.1 p hc).2 hsp)
theorem T2_getRP {idx : Nat} (hd : DI M pc (.getfield idx) 3 pc') (hf : FL M idx 5 6) (kk : CLf (gr h 218 6) = 4 → T2 d M pc' lo (vR (gr h 218 6) :: st) h Q) : T2 d M pc lo (vR 218 :: st) h Q := fun hsp => T_get hd hf ((hsp.2.1 218).trans rfl) rfl (kk hsp.2.2.2.2.2.2.2.2.2.1 hsp)
theorem T2_getRL {idx : Nat} (hd : DI M pc (.getfield idx) 3 pc') (hf : FL M idx 5 7) (kk : CLf (gr h 218 7) = 3 → T2 d M pc' lo (vR (gr h 218 7) :: st) h Q) : T2 d M pc lo (vR 218 :: st) h Q := fun hsp => T_get hd hf ((hsp.2.1 218).trans rfl) rfl (kk hsp.2.2.2.2.2.2.2.2.2.2 hsp)
theorem T2_putI {idx c k p : Nat} {x : Int} (hd : DI M pc (.putfield idx) 3 pc') (hf : FL M idx c k) (hfw : FW M c k) (hc : CLf p = c + 1) (hty : fty c k = .int) (kk : T2 d M pc' lo st (si h p k x) Q) : T2 d M pc lo (vI x :: vR p :: st) h Q := fun hsp => T_putI hd hf hfw ((hsp.2.1 p).trans hc) hty (kk hsp)
theorem T2_putZ {idx c k p : Nat} {x : Int} (hd : DI M pc (.putfield idx) 3 pc') (hf : FL M idx c k) (hfw : FW M c k) (hc : CLf p = c + 1) (hty : fty c k = .boolean) (hx : x = 0 ∨ x = 1) (kk : T2 d M pc' lo st (si h p k x) Q) : T2 d M pc lo (vI x :: vR p :: st) h Q := fun hsp => T_putZ hd hf hfw ((hsp.2.1 p).trans hc) hty hx (kk hsp)
theorem T2_putJ {idx c k p : Nat} {x : Int} (hd : DI M pc (.putfield idx) 3 pc') (hf : FL M idx c k) (hfw : FW M c k) (hc : CLf p = c + 1) (hty : fty c k = .long) (kk : T2 d M pc' lo st (sj h p k x) Q) : T2 d M pc lo (vJ x :: vR p :: st) h Q := fun hsp => T_putJ hd hf hfw ((hsp.2.1 p).trans hc) hty (kk hsp)
theorem sr_gr (h : PH) (p k x q j : Nat) : gr (sr h p k x) q j = if q = p ∧ j = k then x else gr h q j := rfl
theorem T2_putR {idx c k p x : Nat} (hd : DI M pc (.putfield idx) 3 pc') (hf : FL M idx c k) (hfw : FW M c k) (hc : CLf p = c + 1) (hty : (∃ C, fty c k = .object C) ∨ ∃ t, fty c k = .array t) (hm : (c = 6 ∧ k = 0 ∧ CLf x = 4) ∨ (c = 6 ∧ k = 1 ∧ CLf x = 9) ∨ (c = 5 ∧ p = 218 ∧ k = 6 ∧ CLf x = 4) ∨ (c = 5 ∧ p = 218 ∧ k = 7 ∧ CLf x = 3)) (kk : T2 d M pc' lo st (sr h p k x) Q) : T2 d M pc lo (vR x :: vR p :: st) h Q := by
  intro hsp
  refine T_putR hd hf hfw ((hsp.2.1 p).trans hc) hty (kk ?_)
  obtain ⟨a1, a2, a3, a4, a5, a6, a7, a8, a9, a10, a11⟩ := hsp
  have hrf : ∀ r ∈ RFl, ¬ (r.1 = c ∧ r.2.1 = k) := by
    rcases hm with ⟨rfl, rfl, -⟩ | ⟨rfl, rfl, -⟩ | ⟨rfl, -, rfl, -⟩ | ⟨rfl, -, rfl, -⟩ <;> decide
  have hne : p ≠ 66 ∧ p ≠ 76 ∧ p ≠ 118 := by
    refine ⟨?_, ?_, ?_⟩ <;> (rintro rfl; rcases hm with ⟨rfl, -⟩ | ⟨rfl, -⟩ | ⟨rfl, -⟩ | ⟨rfl, -⟩ <;> exact absurd hc (by decide))
  refine ⟨a1, a2, a3, fun r hr q hq => ?_, ?_, fun i hi => ?_, fun i hi => ?_, fun i hi => ?_, fun q hq => ?_, ?_, ?_⟩
  · rw [sr_gr, if_neg]
    · exact a4 r hr q hq
    · rintro ⟨rfl, hk⟩
      rw [hc] at hq
      exact hrf r hr ⟨by omega, hk⟩
  · rw [sr_gr, if_neg]
    · exact a5
    · rintro ⟨rfl, hk⟩
      rcases hm with ⟨rfl, -⟩ | ⟨rfl, -⟩ | ⟨-, -, rfl, -⟩ | ⟨-, -, rfl, -⟩
      · exact absurd hc (by decide)
      · exact absurd hc (by decide)
      · exact absurd hk (by decide)
      · exact absurd hk (by decide)
  · rw [sr_gr, if_neg (fun z => hne.1 z.1.symm)]; exact a6 i hi
  · rw [sr_gr, if_neg (fun z => hne.2.1 z.1.symm)]; exact a7 i hi
  · rw [sr_gr, if_neg (fun z => hne.2.2 z.1.symm)]; exact a8 i hi
  · rw [sr_gr, sr_gr]
    refine ⟨?_, ?_⟩
    · split
      · rename_i z
        obtain ⟨z1, z2⟩ := z
        rcases hm with ⟨-, -, hx⟩ | ⟨-, hk, -⟩ | ⟨-, hp, -⟩ | ⟨-, hp, -⟩
        · exact hx
        · rw [hk] at z2; exact absurd z2 (by decide)
        · rw [z1, hp] at hq; exact absurd hq (by decide)
        · rw [z1, hp] at hq; exact absurd hq (by decide)
      · exact (a9 q hq).1
    · split
      · rename_i z
        obtain ⟨z1, z2⟩ := z
        rcases hm with ⟨-, hk, -⟩ | ⟨-, -, hx⟩ | ⟨-, hp, -⟩ | ⟨-, hp, -⟩
        · rw [hk] at z2; exact absurd z2 (by decide)
        · exact hx
        · rw [z1, hp] at hq; exact absurd hq (by decide)
        · rw [z1, hp] at hq; exact absurd hq (by decide)
      · exact (a9 q hq).2
  · rw [sr_gr]
    split
    · rename_i z
      obtain ⟨z1, z2⟩ := z
      subst z1
      rcases hm with ⟨rfl, -⟩ | ⟨rfl, -⟩ | ⟨-, -, -, hx⟩ | ⟨-, -, hk, -⟩
      · exact absurd hc (by decide)
      · exact absurd hc (by decide)
      · exact hx
      · rw [hk] at z2; exact absurd z2 (by decide)
    · exact a10
  · rw [sr_gr]
    split
    · rename_i z
      obtain ⟨z1, z2⟩ := z
      subst z1
      rcases hm with ⟨rfl, -⟩ | ⟨rfl, -⟩ | ⟨-, -, hk, -⟩ | ⟨-, -, -, hx⟩
      · exact absurd hc (by decide)
      · exact absurd hc (by decide)
      · rw [hk] at z2; exact absurd z2 (by decide)
      · exact hx
    · exact a11
theorem lnf {h : PH} (hsp : shp h) {a n : Nat} (hn : LNf a = n) (h62 : a ≠ 62) : ln h a = n := (hsp.2.2.1 a h62).trans hn
theorem c62 {a c : Nat} (hc : CLf a = c) (h : c ≠ 30) : a ≠ 62 := by rintro rfl; exact h hc.symm
theorem T2_iaload {a n : Nat} {i : Int} (hd : DI M pc .iaload 1 pc') (hc : CLf a = 20) (hn : LNf a = n) (h0 : 0 ≤ i) (h1 : i < n) (k : T2 d M pc' lo (vI (gi h a i.toNat) :: st) h Q) : T2 d M pc lo (vI i :: vR a :: st) h Q := fun hsp => T_iaload hd ((hsp.2.1 a).trans hc) h0 (by rw [lnf hsp hn (c62 hc (by decide))]; exact h1) (k hsp)
theorem T2_baload {a n : Nat} {i : Int} (hd : DI M pc .baload 1 pc') (hc : CLf a = 21) (hn : LNf a = n) (h0 : 0 ≤ i) (h1 : i < n) (k : T2 d M pc' lo (vI (gi h a i.toNat) :: st) h Q) : T2 d M pc lo (vI i :: vR a :: st) h Q := fun hsp => T_baload hd ((hsp.2.1 a).trans hc) h0 (by rw [lnf hsp hn (c62 hc (by decide))]; exact h1) (k hsp)
theorem T2_zaload {a n : Nat} {i : Int} (hd : DI M pc .baload 1 pc') (hc : CLf a = 23) (hn : LNf a = n) (h0 : 0 ≤ i) (h1 : i < n) (k : T2 d M pc' lo (vI (gi h a i.toNat) :: st) h Q) : T2 d M pc lo (vI i :: vR a :: st) h Q := fun hsp => T_zaload hd ((hsp.2.1 a).trans hc) h0 (by rw [lnf hsp hn (c62 hc (by decide))]; exact h1) (k hsp)
theorem T2_laload {a n : Nat} {i : Int} (hd : DI M pc .laload 1 pc') (hc : CLf a = 22) (hn : LNf a = n) (h0 : 0 ≤ i) (h1 : i < n) (k : T2 d M pc' lo (vJ (gj h a i.toNat) :: st) h Q) : T2 d M pc lo (vI i :: vR a :: st) h Q := fun hsp => T_laload hd ((hsp.2.1 a).trans hc) h0 (by rw [lnf hsp hn (c62 hc (by decide))]; exact h1) (k hsp)
theorem T2_iastore {a n : Nat} {i x : Int} (hd : DI M pc .iastore 1 pc') (hc : CLf a = 20) (hn : LNf a = n) (h0 : 0 ≤ i) (h1 : i < n) (k : T2 d M pc' lo st (si h a i.toNat x) Q) : T2 d M pc lo (vI x :: vI i :: vR a :: st) h Q := fun hsp => T_iastore hd ((hsp.2.1 a).trans hc) h0 (by rw [lnf hsp hn (c62 hc (by decide))]; exact h1) (k hsp)
theorem T2_bastore {a n : Nat} {i x : Int} (hd : DI M pc .bastore 1 pc') (hc : CLf a = 21) (hn : LNf a = n) (h0 : 0 ≤ i) (h1 : i < n) (k : T2 d M pc' lo st (si h a i.toNat (i2b x)) Q) : T2 d M pc lo (vI x :: vI i :: vR a :: st) h Q := fun hsp => T_bastore hd ((hsp.2.1 a).trans hc) h0 (by rw [lnf hsp hn (c62 hc (by decide))]; exact h1) (k hsp)
theorem T2_zastore {a n : Nat} {i x : Int} (hd : DI M pc .bastore 1 pc') (hc : CLf a = 23) (hn : LNf a = n) (h0 : 0 ≤ i) (h1 : i < n) (k : T2 d M pc' lo st (si h a i.toNat (zb x)) Q) : T2 d M pc lo (vI x :: vI i :: vR a :: st) h Q := fun hsp => T_zastore hd ((hsp.2.1 a).trans hc) h0 (by rw [lnf hsp hn (c62 hc (by decide))]; exact h1) (k hsp)
theorem T2_lastore {a n : Nat} {i x : Int} (hd : DI M pc .lastore 1 pc') (hc : CLf a = 22) (hn : LNf a = n) (h0 : 0 ≤ i) (h1 : i < n) (k : T2 d M pc' lo st (sj h a i.toNat x) Q) : T2 d M pc lo (vJ x :: vI i :: vR a :: st) h Q := fun hsp => T_lastore hd ((hsp.2.1 a).trans hc) h0 (by rw [lnf hsp hn (c62 hc (by decide))]; exact h1) (k hsp)
theorem T2_aaldP {i : Int} (hd : DI M pc .aaload 1 pc') (h0 : 0 ≤ i) (h1 : i < 4) (k : T2 d M pc' lo (vR (130 + 20 * i.toNat) :: st) h Q) : T2 d M pc lo (vI i :: vR 66 :: st) h Q := fun hsp => T_aaloadP hd ((hsp.2.1 66).trans rfl) h0 (by rw [lnf hsp (show LNf 66 = 4 from rfl) (by decide)]; exact h1) (by rw [hsp.2.2.2.2.2.1 i.toNat (by omega)]; exact k hsp)
theorem T2_aaldG {i : Int} (hd : DI M pc .aaload 1 pc') (h0 : 0 ≤ i) (h1 : i < 10) (k : T2 d M pc' lo (vR (77 + 4 * i.toNat) :: st) h Q) : T2 d M pc lo (vI i :: vR 76 :: st) h Q := fun hsp => T_aaloadS hd ((hsp.2.1 76).trans rfl) h0 (by rw [lnf hsp (show LNf 76 = 10 from rfl) (by decide)]; exact h1) (by rw [hsp.2.2.2.2.2.2.1 i.toNat (by omega)]; exact k hsp)
theorem T2_aaldS {i : Int} (hd : DI M pc .aaload 1 pc') (h0 : 0 ≤ i) (h1 : i < 2) (k : T2 d M pc' lo (vR (210 + 4 * i.toNat) :: st) h Q) : T2 d M pc lo (vI i :: vR 118 :: st) h Q := fun hsp => T_aaloadS hd ((hsp.2.1 118).trans rfl) h0 (by rw [lnf hsp (show LNf 118 = 2 from rfl) (by decide)]; exact h1) (by rw [hsp.2.2.2.2.2.2.2.1 i.toNat (by omega)]; exact k hsp)
theorem T2_alen {a n c : Nat} (hd : DI M pc .arraylength 1 pc') (hc : CLf a = c) (hc1 : 20 ≤ c) (hc2 : c < 26) (hn : LNf a = n) (hn2 : n < 2147483648) (k : T2 d M pc' lo (vI n :: st) h Q) : T2 d M pc lo (vR a :: st) h Q := by
  intro hsp
  have e := lnf hsp hn (c62 hc (by omega))
  refine T_alen hd (by rw [hsp.2.1 a, hc]; exact hc1) (by rw [hsp.2.1 a, hc]; exact hc2) (by rw [e]; exact hn2) ?_
  rw [e]; exact k hsp
theorem T2_vI {idx n b c : Nat} {N : MD} {as : List PV} {r : vw_C} (hd : DI M pc (.invokevirtual idx) 3 pc') (hl : Cond.methodLink M.1.cls idx N.1 ∈ gT) (hN : MOK N n) (hI : IOK N) (hb : CLf b = c + 1) (hr : vwCl[c]? = some r) (hrc : N.1.cls = r.1) (hn : as.length = n) (hw : wst st ≤ 8) (hs : stk = as.reverse ++ vR b :: st)
    (hc : C2 d N (vR b :: as) h (onI fun x h1 => T2 (d + 1) M pc' lo (vI x :: st) h1 Q)) : T2 (d + 1) M pc lo stk h Q := fun hsp =>
  T_vI hd hl hN hI ((hsp.2.1 b).trans hb) hr hrc hn hw hs ((hc hsp).mono (fun r h1 _ z => match r, z with
    | some (.inl x), z => fun hx => z.2 hx z.1))
theorem T2_vJ {idx n b c : Nat} {N : MD} {as : List PV} {r : vw_C} (hd : DI M pc (.invokevirtual idx) 3 pc') (hl : Cond.methodLink M.1.cls idx N.1 ∈ gT) (hN : MOK N n) (hI : IOK N) (hb : CLf b = c + 1) (hr : vwCl[c]? = some r) (hrc : N.1.cls = r.1) (hn : as.length = n) (hw : wst st ≤ 8) (hs : stk = as.reverse ++ vR b :: st)
    (hc : C2 d N (vR b :: as) h (onJ fun x h1 => T2 (d + 1) M pc' lo (vJ x :: st) h1 Q)) : T2 (d + 1) M pc lo stk h Q := fun hsp =>
  T_vJ hd hl hN hI ((hsp.2.1 b).trans hb) hr hrc hn hw hs ((hc hsp).mono (fun r h1 _ z => match r, z with
    | some (.inr (.inl x)), z => fun hx => z.2 hx z.1))
theorem T2_vR {idx n b c : Nat} {N : MD} {as : List PV} {r : vw_C} (hd : DI M pc (.invokevirtual idx) 3 pc') (hl : Cond.methodLink M.1.cls idx N.1 ∈ gT) (hN : MOK N n) (hI : IOK N) (hb : CLf b = c + 1) (hr : vwCl[c]? = some r) (hrc : N.1.cls = r.1) (hn : as.length = n) (hw : wst st ≤ 8) (hs : stk = as.reverse ++ vR b :: st)
    (hc : C2 d N (vR b :: as) h (onR fun x h1 => T2 (d + 1) M pc' lo (vR x :: st) h1 Q)) : T2 (d + 1) M pc lo stk h Q := fun hsp =>
  T_vR hd hl hN hI ((hsp.2.1 b).trans hb) hr hrc hn hw hs ((hc hsp).mono (fun r h1 _ z => match r, z with
    | some (.inr (.inr (.inl x))), z => z.2 z.1))
theorem T2_vV {idx n b c : Nat} {N : MD} {as : List PV} {r : vw_C} (hd : DI M pc (.invokevirtual idx) 3 pc') (hl : Cond.methodLink M.1.cls idx N.1 ∈ gT) (hN : MOK N n) (hI : IOK N) (hb : CLf b = c + 1) (hr : vwCl[c]? = some r) (hrc : N.1.cls = r.1) (hn : as.length = n) (hw : wst st ≤ 8) (hs : stk = as.reverse ++ vR b :: st)
    (hc : C2 d N (vR b :: as) h (onV fun h1 => T2 (d + 1) M pc' lo st h1 Q)) : T2 (d + 1) M pc lo stk h Q := fun hsp =>
  T_vV hd hl hN hI ((hsp.2.1 b).trans hb) hr hrc hn hw hs ((hc hsp).mono (fun r h1 _ z => ⟨z.2.1, z.2.2 z.1⟩))
theorem T2_vIs {idx n i : Nat} {N : MD} {as : List PV} (hd : DI M pc (.invokevirtual idx) 3 pc') (hl : Cond.methodLink M.1.cls idx N.1 ∈ gT) (hN : MOK N n) (hI : IOK N) (hi : i < 27) (hrc : N.1.cls = "java/lang/String") (hn : as.length = n) (hw : wst st ≤ 8) (hs : stk = as.reverse ++ vR (1 + i) :: st)
    (hc : C2 d N (vR (1 + i) :: as) h (onI fun x h1 => T2 (d + 1) M pc' lo (vI x :: st) h1 Q)) : T2 (d + 1) M pc lo stk h Q := fun hsp =>
  T_vIs hd hl hN hI hi hrc hn hw hs ((hc hsp).mono (fun r h1 _ z => match r, z with
    | some (.inl x), z => fun hx => z.2 hx z.1))
theorem T2_sI {idx n : Nat} {N : MD} {as : List PV} (hd : DI M pc (.invokestatic idx) 3 pc') (hl : Cond.methodLink M.1.cls idx N.1 ∈ gT) (hN : MOK N n) (hI : Cond.static N.1 ∈ gT) (hn : as.length = n) (hw : wst st ≤ 8) (hs : stk = as.reverse ++ st)
    (hc : C2 d N as h (onI fun x h1 => T2 (d + 1) M pc' lo (vI x :: st) h1 Q)) : T2 (d + 1) M pc lo stk h Q := fun hsp =>
  T_sI hd hl hN hI hn hw hs ((hc hsp).mono (fun r h1 _ z => match r, z with
    | some (.inl x), z => fun hx => z.2 hx z.1))
theorem T2_sJ {idx n : Nat} {N : MD} {as : List PV} (hd : DI M pc (.invokestatic idx) 3 pc') (hl : Cond.methodLink M.1.cls idx N.1 ∈ gT) (hN : MOK N n) (hI : Cond.static N.1 ∈ gT) (hn : as.length = n) (hw : wst st ≤ 8) (hs : stk = as.reverse ++ st)
    (hc : C2 d N as h (onJ fun x h1 => T2 (d + 1) M pc' lo (vJ x :: st) h1 Q)) : T2 (d + 1) M pc lo stk h Q := fun hsp =>
  T_sJ hd hl hN hI hn hw hs ((hc hsp).mono (fun r h1 _ z => match r, z with
    | some (.inr (.inl x)), z => fun hx => z.2 hx z.1))
theorem T2_sF {idx n : Nat} {N : MD} {as : List PV} (hd : DI M pc (.invokestatic idx) 3 pc') (hl : Cond.methodLink M.1.cls idx N.1 ∈ gT) (hN : MOK N n) (hI : Cond.static N.1 ∈ gT) (hn : as.length = n) (hw : wst st ≤ 8) (hs : stk = as.reverse ++ st)
    (hc : C2 d N as h (onF fun x h1 => T2 (d + 1) M pc' lo (vF x :: st) h1 Q)) : T2 (d + 1) M pc lo stk h Q := fun hsp =>
  T_sF hd hl hN hI hn hw hs ((hc hsp).mono (fun r h1 _ z => match r, z with
    | some (.inr (.inr (.inr (.inl x)))), z => z.2 z.1))
theorem T2_sV {idx n : Nat} {N : MD} {as : List PV} (hd : DI M pc (.invokestatic idx) 3 pc') (hl : Cond.methodLink M.1.cls idx N.1 ∈ gT) (hN : MOK N n) (hI : Cond.static N.1 ∈ gT) (hn : as.length = n) (hw : wst st ≤ 8) (hs : stk = as.reverse ++ st)
    (hc : C2 d N as h (onV fun h1 => T2 (d + 1) M pc' lo st h1 Q)) : T2 (d + 1) M pc lo stk h Q := fun hsp =>
  T_sV hd hl hN hI hn hw hs ((hc hsp).mono (fun r h1 _ z => ⟨z.2.1, z.2.2 z.1⟩))
end
