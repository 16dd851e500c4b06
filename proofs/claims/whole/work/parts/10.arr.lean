/-! ARRAYS -/
theorem ix_nat {i : Int} (hi : R32 i) : (Int32.ofInt i).toNatClampNeg = i.toNat := by show (Int32.ofInt i).toInt.toNat = _; rw [tr32 hi]
theorem ix_neg {i : Int} (hi : R32 i) (h0 : 0 ≤ i) : ¬ Int32.ofInt i < 0 := by
  rw [Int32.lt_iff_toInt_lt, tr32 hi, Int32.toInt_zero]; omega
theorem ix_in {i : Int} {cA : ClassId} {n : Nat} {f : Nat → Value} (hi : R32 i) (h0 : 0 ≤ i) (h1 : i < n) : ¬ (Int32.ofInt i < 0 ∨ (arrV cA n f).slots.size ≤ (Int32.ofInt i).toNatClampNeg) := by
  rw [arrV_size, ix_nat hi]
  rintro (q | q)
  · exact ix_neg hi h0 q
  · omega
theorem own_app {g : Gx} {locs : List Loc} {p i : Nat} (h : ∀ q ∈ locs, own0 g q.base) (hp : 64 ≤ p) : ∀ q ∈ locs ++ [⟨ad g p, i⟩], own0 g q.base := by
  intro q hq
  rcases List.mem_append.mp hq with h1 | h1
  · exact h q h1
  · rw [List.mem_singleton.mp h1]; show bs g ≤ ad g p; rw [ad_big hp]; omega
def zb (x : Int) : Int := (vp_nar .boolean (Int32.ofInt x)).toInt
section
variable {d : Nat} {u : Bu} {M : MD} {pc pc' : Nat} {lo : List (Option PV)} {st : List PV} {h : PH} {Q : Option PV → PH → Prop}
theorem T_iaload {a : Nat} {i : Int} (hd : DI M pc .iaload 1 pc') (hc : cl h a = 20) (h0 : 0 ≤ i) (h1 : i < ln h a) (k : T d u M pc' lo (vI (gi h a i.toNat) :: st) h Q) : T d u M pc lo (vI i :: vR a :: st) h Q := by
  intro p' l e R s m args below meth c' g H locs ls C hR hL hs hlc
  obtain ⟨hd1, rfl⟩ := hd
  obtain ⟨b1, b2, b3⟩ := hR.arr (q := a) (by omega) (by omega)
  rw [hc] at b3
  have hi : R32 i := okh hs
  have hkk := k p' l e R s m args below meth c' g H locs ls C hR hL (okc (hR.2.2.2.1 _ _) (okt (okt hs))) hlc
  refine W.eq (g2 := F0 m pc ls (.int (Int32.ofInt i) :: .ref (ad g a) :: st.map (rv g))) (by rw [List.map_cons, List.map_cons, rv_ref (by omega)]; rfl) ?_
  exact W.iald (v := rv g (vI (gi h a i.toNat))) C.1 C.2.1 b3 ((C.2.2.2.2.2.2.2.2.1.1.2 0 _ rfl).1 (ln h a) (fun j => .int (Int32.ofInt (gi h a j)))) (fun q => by cases q) (ix_in hi h0 h1) (by rw [ix_nat hi]; exact arrV_read (N := ln h a) (j := i.toNat) _ _ (by omega)) rfl rfl hd1 hkk
theorem T_baload {a : Nat} {i : Int} (hd : DI M pc .baload 1 pc') (hc : cl h a = 21) (h0 : 0 ≤ i) (h1 : i < ln h a) (k : T d u M pc' lo (vI (gi h a i.toNat) :: st) h Q) : T d u M pc lo (vI i :: vR a :: st) h Q := by
  intro p' l e R s m args below meth c' g H locs ls C hR hL hs hlc
  obtain ⟨hd1, rfl⟩ := hd
  obtain ⟨b1, b2, b3⟩ := hR.arr (q := a) (by omega) (by omega)
  rw [hc] at b3
  have hi : R32 i := okh hs
  have hkk := k p' l e R s m args below meth c' g H locs ls C hR hL (okc (hR.2.2.2.1 _ _) (okt (okt hs))) hlc
  refine W.eq (g2 := F0 m pc ls (.int (Int32.ofInt i) :: .ref (ad g a) :: st.map (rv g))) (by rw [List.map_cons, List.map_cons, rv_ref (by omega)]; rfl) ?_
  exact W.bald (v := rv g (vI (gi h a i.toNat))) C.1 C.2.1 b3 ((C.2.2.2.2.2.2.2.2.1.1.2 1 _ rfl).1 (ln h a) (fun j => .int (Int32.ofInt (gi h a j)))) (fun q => by cases q) (ix_in hi h0 h1) (by rw [ix_nat hi]; exact arrV_read (N := ln h a) (j := i.toNat) _ _ (by omega)) rfl rfl hd1 hkk
theorem T_zaload {a : Nat} {i : Int} (hd : DI M pc .baload 1 pc') (hc : cl h a = 23) (h0 : 0 ≤ i) (h1 : i < ln h a) (k : T d u M pc' lo (vI (gi h a i.toNat) :: st) h Q) : T d u M pc lo (vI i :: vR a :: st) h Q := by
  intro p' l e R s m args below meth c' g H locs ls C hR hL hs hlc
  obtain ⟨hd1, rfl⟩ := hd
  obtain ⟨b1, b2, b3⟩ := hR.arr (q := a) (by omega) (by omega)
  rw [hc] at b3
  have hi : R32 i := okh hs
  have hkk := k p' l e R s m args below meth c' g H locs ls C hR hL (okc (hR.2.2.2.1 _ _) (okt (okt hs))) hlc
  refine W.eq (g2 := F0 m pc ls (.int (Int32.ofInt i) :: .ref (ad g a) :: st.map (rv g))) (by rw [List.map_cons, List.map_cons, rv_ref (by omega)]; rfl) ?_
  exact W.zald (v := rv g (vI (gi h a i.toNat))) C.1 C.2.1 b3 ((C.2.2.2.2.2.2.2.2.1.1.2 3 _ rfl).1 (ln h a) (fun j => .int (Int32.ofInt (gi h a j)))) (fun q => by cases q) (ix_in hi h0 h1) (by rw [ix_nat hi]; exact arrV_read (N := ln h a) (j := i.toNat) _ _ (by omega)) rfl rfl hd1 hkk
theorem T_laload {a : Nat} {i : Int} (hd : DI M pc .laload 1 pc') (hc : cl h a = 22) (h0 : 0 ≤ i) (h1 : i < ln h a) (k : T d u M pc' lo (vJ (gj h a i.toNat) :: st) h Q) : T d u M pc lo (vI i :: vR a :: st) h Q := by
  intro p' l e R s m args below meth c' g H locs ls C hR hL hs hlc
  obtain ⟨hd1, rfl⟩ := hd
  obtain ⟨b1, b2, b3⟩ := hR.arr (q := a) (by omega) (by omega)
  rw [hc] at b3
  have hi : R32 i := okh hs
  have hkk := k p' l e R s m args below meth c' g H locs ls C hR hL (okc (hR.2.2.2.2.1 _ _) (okt (okt hs))) hlc
  refine W.eq (g2 := F0 m pc ls (.int (Int32.ofInt i) :: .ref (ad g a) :: st.map (rv g))) (by rw [List.map_cons, List.map_cons, rv_ref (by omega)]; rfl) ?_
  exact W.lald (v := rv g (vJ (gj h a i.toNat))) C.1 C.2.1 b3 ((C.2.2.2.2.2.2.2.2.1.1.2 2 _ rfl).1 (ln h a) (fun j => .long (Int64.ofInt (gj h a j)))) (fun q => by cases q) (ix_in hi h0 h1) (by rw [ix_nat hi]; exact arrV_read (N := ln h a) (j := i.toNat) _ _ (by omega)) rfl rfl hd1 hkk
theorem T_aaloadP {a : Nat} {i : Int} (hd : DI M pc .aaload 1 pc') (hc : cl h a = 24) (h0 : 0 ≤ i) (h1 : i < ln h a) (k : T d u M pc' lo (vR (gr h a i.toNat) :: st) h Q) : T d u M pc lo (vI i :: vR a :: st) h Q := by
  intro p' l e R s m args below meth c' g H locs ls C hR hL hs hlc
  obtain ⟨hd1, rfl⟩ := hd
  obtain ⟨b1, b2, b3⟩ := hR.arr (q := a) (by omega) (by omega)
  rw [hc] at b3
  have hi : R32 i := okh hs
  have hkk := k p' l e R s m args below meth c' g H locs ls C hR hL (okc trivial (okt (okt hs))) hlc
  refine W.eq (g2 := F0 m pc ls (.int (Int32.ofInt i) :: .ref (ad g a) :: st.map (rv g))) (by rw [List.map_cons, List.map_cons, rv_ref (by omega)]; rfl) ?_
  exact W.aald (ty := .object RX3) (v := rv g (vR (gr h a i.toNat))) C.1 C.2.1 b3 ((C.2.2.2.2.2.2.2.2.1.1.2 4 _ rfl).1 (ln h a) (fun j => va_rf (rfo g (gr h a j)))) rfl (fun q => by cases q) (ix_in hi h0 h1) (by rw [ix_nat hi]; exact arrV_read (N := ln h a) (j := i.toNat) _ _ (by omega)) rfl rfl hd1 hkk
theorem T_aaloadS {a : Nat} {i : Int} (hd : DI M pc .aaload 1 pc') (hc : cl h a = 25) (h0 : 0 ≤ i) (h1 : i < ln h a) (k : T d u M pc' lo (vR (gr h a i.toNat) :: st) h Q) : T d u M pc lo (vI i :: vR a :: st) h Q := by
  intro p' l e R s m args below meth c' g H locs ls C hR hL hs hlc
  obtain ⟨hd1, rfl⟩ := hd
  obtain ⟨b1, b2, b3⟩ := hR.arr (q := a) (by omega) (by omega)
  rw [hc] at b3
  have hi : R32 i := okh hs
  have hkk := k p' l e R s m args below meth c' g H locs ls C hR hL (okc trivial (okt (okt hs))) hlc
  refine W.eq (g2 := F0 m pc ls (.int (Int32.ofInt i) :: .ref (ad g a) :: st.map (rv g))) (by rw [List.map_cons, List.map_cons, rv_ref (by omega)]; rfl) ?_
  exact W.aald (ty := .object RX8) (v := rv g (vR (gr h a i.toNat))) C.1 C.2.1 b3 ((C.2.2.2.2.2.2.2.2.1.1.2 5 _ rfl).1 (ln h a) (fun j => va_rf (rfo g (gr h a j)))) rfl (fun q => by cases q) (ix_in hi h0 h1) (by rw [ix_nat hi]; exact arrV_read (N := ln h a) (j := i.toNat) _ _ (by omega)) rfl rfl hd1 hkk
theorem T_iastore {a : Nat} {i x : Int} (hd : DI M pc .iastore 1 pc') (hc : cl h a = 20) (h0 : 0 ≤ i) (h1 : i < ln h a) (k : T d u M pc' lo st (si h a i.toNat x) Q) : T d u M pc lo (vI x :: vI i :: vR a :: st) h Q := by
  intro p' l e R s m args below meth c' g H locs ls C hR hL hs hlc
  obtain ⟨hd1, rfl⟩ := hd
  obtain ⟨b1, b2, b3⟩ := hR.arr (q := a) (by omega) (by omega)
  rw [hc] at b3
  have hi : R32 i := okh (okt hs)
  refine W.eq (g2 := F0 m pc ls (.int (Int32.ofInt x) :: .int (Int32.ofInt i) :: .ref (ad g a) :: st.map (rv g))) (by rw [List.map_cons, List.map_cons, List.map_cons, rv_ref (by omega)]; rfl) ?_
  refine W.iast C.1 C.2.1 b3 ((C.2.2.2.2.2.2.2.2.1.1.2 0 _ rfl).1 (ln h a) (fun j => .int (Int32.ofInt (gi h a j)))) (fun q => by cases q) (ix_in hi h0 h1) rfl rfl hd1 (fun H' e1 e2 e3 => ?_)
  refine k p' l e R s m args below meth c' g H' _ ls C ?_ hL (okt (okt (okt hs))) (own_app hlc b1)
  rw [ix_nat hi] at e1
  refine hR.upd (p := a) b1 b2 e2 e3 rfl rfl rfl (fun q j hq => by show (if q = a ∧ j = i.toNat then x else gi h q j) = _; rw [if_neg (fun z => hq z.1)]) (fun _ _ _ => rfl) (fun _ _ _ => rfl) (fun j => ?_) (hR.2.2.2.2.1 a) ⟨fun c2 r2 x1 x2 => absurd (List.getElem?_eq_some_iff.mp x2).1 (by rw [show cl (si h a i.toNat x) a = cl h a from rfl, hc] at x1; show ¬ c2 < 12; omega), fun _ _ => ?_⟩
  · show R32 (if a = a ∧ j = i.toNat then x else gi h a j)
    split
    · exact okh hs
    · exact hR.2.2.2.1 a j
  · rw [show cl (si h a i.toNat x) a = 20 from hc, e1]
    show some ((arrV _ _ _).setSlot _ _) = some (vp_cell _ (ln h a, _))
    rw [vp_cell_i, arrV_store]
    congr 2
    funext j
    show updV _ _ _ j = .int (Int32.ofInt (if a = a ∧ j = i.toNat then x else gi h a j))
    unfold updV
    by_cases hj : j = i.toNat
    · rw [if_pos hj, if_pos ⟨rfl, hj⟩]
    · rw [if_neg hj, if_neg (fun z => hj z.2)]
theorem T_bastore {a : Nat} {i x : Int} (hd : DI M pc .bastore 1 pc') (hc : cl h a = 21) (h0 : 0 ≤ i) (h1 : i < ln h a) (k : T d u M pc' lo st (si h a i.toNat (i2b x)) Q) : T d u M pc lo (vI x :: vI i :: vR a :: st) h Q := by
  intro p' l e R s m args below meth c' g H locs ls C hR hL hs hlc
  obtain ⟨hd1, rfl⟩ := hd
  obtain ⟨b1, b2, b3⟩ := hR.arr (q := a) (by omega) (by omega)
  rw [hc] at b3
  have hi : R32 i := okh (okt hs)
  refine W.eq (g2 := F0 m pc ls (.int (Int32.ofInt x) :: .int (Int32.ofInt i) :: .ref (ad g a) :: st.map (rv g))) (by rw [List.map_cons, List.map_cons, List.map_cons, rv_ref (by omega)]; rfl) ?_
  refine W.bast C.1 C.2.1 b3 ((C.2.2.2.2.2.2.2.2.1.1.2 1 _ rfl).1 (ln h a) (fun j => .int (Int32.ofInt (gi h a j)))) (fun q => by cases q) (ix_in hi h0 h1) rfl rfl hd1 (fun H' e1 e2 e3 => ?_)
  refine k p' l e R s m args below meth c' g H' _ ls C ?_ hL (okt (okt (okt hs))) (own_app hlc b1)
  rw [ix_nat hi] at e1
  refine hR.upd (p := a) b1 b2 e2 e3 rfl rfl rfl (fun q j hq => by show (if q = a ∧ j = i.toNat then (i2b x) else gi h q j) = _; rw [if_neg (fun z => hq z.1)]) (fun _ _ _ => rfl) (fun _ _ _ => rfl) (fun j => ?_) (hR.2.2.2.2.1 a) ⟨fun c2 r2 x1 x2 => absurd (List.getElem?_eq_some_iff.mp x2).1 (by rw [show cl (si h a i.toNat (i2b x)) a = cl h a from rfl, hc] at x1; show ¬ c2 < 12; omega), fun _ _ => ?_⟩
  · show R32 (if a = a ∧ j = i.toNat then (i2b x) else gi h a j)
    split
    · exact R32_i _
    · exact hR.2.2.2.1 a j
  · rw [show cl (si h a i.toNat (i2b x)) a = 21 from hc, e1]
    show some ((arrV _ _ _).setSlot _ _) = some (vp_cell _ (ln h a, _))
    rw [vp_cell_i, arrV_store]
    congr 2
    funext j
    show updV _ _ _ j = .int (Int32.ofInt (if a = a ∧ j = i.toNat then (i2b x) else gi h a j))
    unfold updV
    by_cases hj : j = i.toNat
    · rw [if_pos hj, if_pos ⟨rfl, hj⟩]; show narrow .byte (.int (Int32.ofInt x)) = _; rw [show i2b x = (Int32.ofInt x).toInt8.toInt32.toInt from rfl, oi32]; rfl
    · rw [if_neg hj, if_neg (fun z => hj z.2)]
theorem T_zastore {a : Nat} {i x : Int} (hd : DI M pc .bastore 1 pc') (hc : cl h a = 23) (h0 : 0 ≤ i) (h1 : i < ln h a) (k : T d u M pc' lo st (si h a i.toNat (zb x)) Q) : T d u M pc lo (vI x :: vI i :: vR a :: st) h Q := by
  intro p' l e R s m args below meth c' g H locs ls C hR hL hs hlc
  obtain ⟨hd1, rfl⟩ := hd
  obtain ⟨b1, b2, b3⟩ := hR.arr (q := a) (by omega) (by omega)
  rw [hc] at b3
  have hi : R32 i := okh (okt hs)
  refine W.eq (g2 := F0 m pc ls (.int (Int32.ofInt x) :: .int (Int32.ofInt i) :: .ref (ad g a) :: st.map (rv g))) (by rw [List.map_cons, List.map_cons, List.map_cons, rv_ref (by omega)]; rfl) ?_
  refine W.zast C.1 C.2.1 b3 ((C.2.2.2.2.2.2.2.2.1.1.2 3 _ rfl).1 (ln h a) (fun j => .int (Int32.ofInt (gi h a j)))) (fun q => by cases q) (ix_in hi h0 h1) rfl rfl hd1 (fun H' e1 e2 e3 => ?_)
  refine k p' l e R s m args below meth c' g H' _ ls C ?_ hL (okt (okt (okt hs))) (own_app hlc b1)
  rw [ix_nat hi] at e1
  refine hR.upd (p := a) b1 b2 e2 e3 rfl rfl rfl (fun q j hq => by show (if q = a ∧ j = i.toNat then (zb x) else gi h q j) = _; rw [if_neg (fun z => hq z.1)]) (fun _ _ _ => rfl) (fun _ _ _ => rfl) (fun j => ?_) (hR.2.2.2.2.1 a) ⟨fun c2 r2 x1 x2 => absurd (List.getElem?_eq_some_iff.mp x2).1 (by rw [show cl (si h a i.toNat (zb x)) a = cl h a from rfl, hc] at x1; show ¬ c2 < 12; omega), fun _ _ => ?_⟩
  · show R32 (if a = a ∧ j = i.toNat then (zb x) else gi h a j)
    split
    · exact R32_i _
    · exact hR.2.2.2.1 a j
  · rw [show cl (si h a i.toNat (zb x)) a = 23 from hc, e1]
    show some ((arrV _ _ _).setSlot _ _) = some (vp_cell _ (ln h a, _))
    rw [vp_cell_i, arrV_store]
    congr 2
    funext j
    show updV _ _ _ j = .int (Int32.ofInt (if a = a ∧ j = i.toNat then (zb x) else gi h a j))
    unfold updV
    by_cases hj : j = i.toNat
    · rw [if_pos hj, if_pos ⟨rfl, hj⟩]; show narrow .boolean (.int (Int32.ofInt x)) = _; rw [show zb x = (vp_nar .boolean (Int32.ofInt x)).toInt from rfl, oi32]; rfl
    · rw [if_neg hj, if_neg (fun z => hj z.2)]
theorem T_lastore {a : Nat} {i x : Int} (hd : DI M pc .lastore 1 pc') (hc : cl h a = 22) (h0 : 0 ≤ i) (h1 : i < ln h a) (k : T d u M pc' lo st (sj h a i.toNat x) Q) : T d u M pc lo (vJ x :: vI i :: vR a :: st) h Q := by
  intro p' l e R s m args below meth c' g H locs ls C hR hL hs hlc
  obtain ⟨hd1, rfl⟩ := hd
  obtain ⟨b1, b2, b3⟩ := hR.arr (q := a) (by omega) (by omega)
  rw [hc] at b3
  have hi : R32 i := okh (okt hs)
  refine W.eq (g2 := F0 m pc ls (.long (Int64.ofInt x) :: .int (Int32.ofInt i) :: .ref (ad g a) :: st.map (rv g))) (by rw [List.map_cons, List.map_cons, List.map_cons, rv_ref (by omega)]; rfl) ?_
  refine W.last C.1 C.2.1 b3 ((C.2.2.2.2.2.2.2.2.1.1.2 2 _ rfl).1 (ln h a) (fun j => .long (Int64.ofInt (gj h a j)))) (fun q => by cases q) (ix_in hi h0 h1) rfl rfl hd1 (fun H' e1 e2 e3 => ?_)
  refine k p' l e R s m args below meth c' g H' _ ls C ?_ hL (okt (okt (okt hs))) (own_app hlc b1)
  rw [ix_nat hi] at e1
  refine hR.upd (p := a) b1 b2 e2 e3 rfl rfl rfl (fun _ _ _ => rfl) (fun q j hq => by show (if q = a ∧ j = i.toNat then x else gj h q j) = _; rw [if_neg (fun z => hq z.1)]) (fun _ _ _ => rfl) (hR.2.2.2.1 a) (fun j => ?_) ⟨fun c2 r2 x1 x2 => absurd (List.getElem?_eq_some_iff.mp x2).1 (by rw [show cl (sj h a i.toNat x) a = cl h a from rfl, hc] at x1; show ¬ c2 < 12; omega), fun _ _ => ?_⟩
  · show R64 (if a = a ∧ j = i.toNat then x else gj h a j)
    split
    · exact okh hs
    · exact hR.2.2.2.2.1 a j
  · rw [show cl (sj h a i.toNat x) a = 22 from hc, e1]
    show some ((arrV _ _ _).setSlot _ _) = some (vp_cell _ (ln h a, _))
    rw [vp_cell_l, arrV_store]
    congr 2
    funext j
    show updV _ _ _ j = .long (Int64.ofInt (if a = a ∧ j = i.toNat then x else gj h a j))
    unfold updV
    by_cases hj : j = i.toNat
    · rw [if_pos hj, if_pos ⟨rfl, hj⟩]
    · rw [if_neg hj, if_neg (fun z => hj z.2)]
theorem T_alen {a : Nat} (hd : DI M pc .arraylength 1 pc') (hc : 20 ≤ cl h a) (hc2 : cl h a < 26) (hn : ln h a < 2147483648) (k : T d u M pc' lo (vI (ln h a) :: st) h Q) : T d u M pc lo (vR a :: st) h Q := by
  intro p' l e R s m args below meth c' g H locs ls C hR hL hs hlc
  obtain ⟨hd1, rfl⟩ := hd
  obtain ⟨b1, b2, b3⟩ := hR.arr (q := a) hc hc2
  have hkk := k p' l e R s m args below meth c' g H locs ls C hR hL (okc (show R32 _ by unfold R32; omega) (okt hs)) hlc
  refine W.eq (g2 := F0 m pc ls (.ref (ad g a) :: st.map (rv g))) (by rw [List.map_cons, rv_ref (by omega)]) ?_
  have hty : ∃ ty, s.isArrayOf (vp_cell (g.2.2.1 (cl h a - 20)) (acl g h a (cl h a))) ty ∧ (vp_cell (g.2.2.1 (cl h a - 20)) (acl g h a (cl h a))).slots.size = ln h a := by
    have hK := C.2.2.2.2.2.2.2.2.1.1.2
    rcases (show cl h a = 20 ∨ cl h a = 21 ∨ cl h a = 22 ∨ cl h a = 23 ∨ cl h a = 24 ∨ cl h a = 25 by omega) with z | z | z | z | z | z <;> rw [z]
    · exact ⟨_, (hK 0 _ rfl).1 _ _, arrV_size _ _ _⟩
    · exact ⟨_, (hK 1 _ rfl).1 _ _, arrV_size _ _ _⟩
    · exact ⟨_, (hK 2 _ rfl).1 _ _, arrV_size _ _ _⟩
    · exact ⟨_, (hK 3 _ rfl).1 _ _, arrV_size _ _ _⟩
    · exact ⟨_, (hK 4 _ rfl).1 _ _, arrV_size _ _ _⟩
    · exact ⟨_, (hK 5 _ rfl).1 _ _, arrV_size _ _ _⟩
  obtain ⟨ty, hta, hts⟩ := hty
  exact W.alen (n := Int32.ofInt (ln h a)) C.1 C.2.1 b3 hta (by rw [hts]; rfl) rfl rfl hd1 hkk
theorem T_aastoreP {a x : Nat} {i : Int} (hd : DI M pc .aastore 1 pc') (hc : cl h a = 24) (h0 : 0 ≤ i) (h1 : i < ln h a) (hx : cl h x = 3 + 1) (k : T d u M pc' lo st (sr h a i.toNat x) Q) : T d u M pc lo (vR x :: vI i :: vR a :: st) h Q := by
  intro p' l e R s m args below meth c' g H locs ls C hR hL hs hlc
  obtain ⟨hd1, rfl⟩ := hd
  obtain ⟨b1, b2, b3⟩ := hR.arr (q := a) (by omega) (by omega)
  rw [hc] at b3
  have hi : R32 i := okh (okt hs)
  have hK := C.2.2.2.2.2.2.2.2.1.1
  obtain ⟨x1, -, cellV, g1, g2, g3, -⟩ := hR.obj (r := (RX3, TX3, 19)) hx rfl
  have hcls := (hK.1 3 _ rfl).2
  obtain ⟨kA, comp, k1, k2, k3, -⟩ := (hK.2 4 _ rfl).2
  have hcomp : comp = g.1 3 := Option.some.inj (k3.symm.trans hcls.1)
  subst hcomp
  obtain ⟨kC, hkC, -⟩ := hcls.2
  refine W.eq (g2 := F0 m pc ls (.ref (ad g x) :: .int (Int32.ofInt i) :: .ref (ad g a) :: st.map (rv g))) (by rw [List.map_cons, List.map_cons, List.map_cons, rv_ref (by omega), rv_ref (by omega)]; rfl) ?_
  have hlt : (Int32.ofInt i).toNatClampNeg < ln h a := by rw [ix_nat hi]; omega
  refine W.aast C.1 C.2.1 b3 (fun q h => by cases h) (fun h => by cases h) k1 k2 rfl hkC ⟨ix_neg hi h0, Nat.lt_of_lt_of_eq hlt (arrV_size _ _ _).symm⟩ g1 (fun q h => by rw [g3] at h; cases h) (by rw [g2]; exact hkC) (by rw [g2]; exact va_assign hcls) rfl rfl hd1 fun H' e1 e2 e3 => ?_
  refine k p' l e R s m args below meth c' g H' _ ls C ?_ hL (okt (okt (okt hs))) (own_app hlc b1)
  rw [ix_nat hi] at e1
  refine hR.upd (p := a) b1 b2 e2 e3 rfl rfl rfl (fun _ _ _ => rfl) (fun _ _ _ => rfl) (fun q j hq => by show (if q = a ∧ j = i.toNat then x else gr h q j) = _; rw [if_neg (fun z => hq z.1)]) (hR.2.2.2.1 a) (hR.2.2.2.2.1 a) ⟨fun c2 r2 x1 x2 => absurd (List.getElem?_eq_some_iff.mp x2).1 (by rw [show cl (sr h a i.toNat x) a = cl h a from rfl, hc] at x1; show ¬ c2 < 12; omega), fun _ _ => ?_⟩
  rw [show cl (sr h a i.toNat x) a = 24 from hc, e1]
  show some ((arrV _ _ _).setSlot _ _) = some (vp_cell _ (ln h a, _))
  rw [vp_cell_q, arrV_store]
  congr 2
  funext j
  show updV _ _ _ j = va_rf (rfo g (if a = a ∧ j = i.toNat then x else gr h a j))
  unfold updV
  by_cases hj : j = i.toNat
  · rw [if_pos hj, if_pos ⟨rfl, hj⟩, rfo_some (by omega)]; rfl
  · rw [if_neg hj, if_neg (fun z => hj z.2)]
theorem T_aastoreS {a x : Nat} {i : Int} (hd : DI M pc .aastore 1 pc') (hc : cl h a = 25) (h0 : 0 ≤ i) (h1 : i < ln h a) (hx : cl h x = 8 + 1) (k : T d u M pc' lo st (sr h a i.toNat x) Q) : T d u M pc lo (vR x :: vI i :: vR a :: st) h Q := by
  intro p' l e R s m args below meth c' g H locs ls C hR hL hs hlc
  obtain ⟨hd1, rfl⟩ := hd
  obtain ⟨b1, b2, b3⟩ := hR.arr (q := a) (by omega) (by omega)
  rw [hc] at b3
  have hi : R32 i := okh (okt hs)
  have hK := C.2.2.2.2.2.2.2.2.1.1
  obtain ⟨x1, -, cellV, g1, g2, g3, -⟩ := hR.obj (r := (RX8, TX8, 5)) hx rfl
  have hcls := (hK.1 8 _ rfl).2
  obtain ⟨kA, comp, k1, k2, k3, -⟩ := (hK.2 5 _ rfl).2
  have hcomp : comp = g.1 8 := Option.some.inj (k3.symm.trans hcls.1)
  subst hcomp
  obtain ⟨kC, hkC, -⟩ := hcls.2
  refine W.eq (g2 := F0 m pc ls (.ref (ad g x) :: .int (Int32.ofInt i) :: .ref (ad g a) :: st.map (rv g))) (by rw [List.map_cons, List.map_cons, List.map_cons, rv_ref (by omega), rv_ref (by omega)]; rfl) ?_
  have hlt : (Int32.ofInt i).toNatClampNeg < ln h a := by rw [ix_nat hi]; omega
  refine W.aast C.1 C.2.1 b3 (fun q h => by cases h) (fun h => by cases h) k1 k2 rfl hkC ⟨ix_neg hi h0, Nat.lt_of_lt_of_eq hlt (arrV_size _ _ _).symm⟩ g1 (fun q h => by rw [g3] at h; cases h) (by rw [g2]; exact hkC) (by rw [g2]; exact va_assign hcls) rfl rfl hd1 fun H' e1 e2 e3 => ?_
  refine k p' l e R s m args below meth c' g H' _ ls C ?_ hL (okt (okt (okt hs))) (own_app hlc b1)
  rw [ix_nat hi] at e1
  refine hR.upd (p := a) b1 b2 e2 e3 rfl rfl rfl (fun _ _ _ => rfl) (fun _ _ _ => rfl) (fun q j hq => by show (if q = a ∧ j = i.toNat then x else gr h q j) = _; rw [if_neg (fun z => hq z.1)]) (hR.2.2.2.1 a) (hR.2.2.2.2.1 a) ⟨fun c2 r2 x1 x2 => absurd (List.getElem?_eq_some_iff.mp x2).1 (by rw [show cl (sr h a i.toNat x) a = cl h a from rfl, hc] at x1; show ¬ c2 < 12; omega), fun _ _ => ?_⟩
  rw [show cl (sr h a i.toNat x) a = 25 from hc, e1]
  show some ((arrV _ _ _).setSlot _ _) = some (vp_cell _ (ln h a, _))
  rw [vp_cell_q, arrV_store]
  congr 2
  funext j
  show updV _ _ _ j = va_rf (rfo g (if a = a ∧ j = i.toNat then x else gr h a j))
  unfold updV
  by_cases hj : j = i.toNat
  · rw [if_pos hj, if_pos ⟨rfl, hj⟩, rfo_some (by omega)]; rfl
  · rw [if_neg hj, if_neg (fun z => hj z.2)]
end
