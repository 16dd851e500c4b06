/-! ONE-INSTRUCTION RULES: numbers, locals, stack, branches -/
theorem okc {v : PV} {st : List PV} (hv : okv v) (hs : ∀ w ∈ st, okv w) : ∀ w ∈ v :: st, okv w := fun w hw => (List.mem_cons.mp hw).elim (fun e => e ▸ hv) (hs w)
theorem okt {v : PV} {st : List PV} (hs : ∀ w ∈ v :: st, okv w) : ∀ w ∈ st, okv w := fun w hw => hs w (List.mem_cons_of_mem _ hw)
theorem okh {v : PV} {st : List PV} (hs : ∀ w ∈ v :: st, okv w) : okv v := hs v List.mem_cons_self
section
variable {d : Nat} {u : Bu} {M : MD} {pc pc' : Nat} {lo : List (Option PV)} {st : List PV} {h : PH} {Q : Option PV → PH → Prop}
theorem T_iadd {a b : Int} (hd : DI M pc .iadd 1 pc') (k : T d u M pc' lo (vI (w32 (a + b)) :: st) h Q) : T d u M pc lo (vI b :: vI a :: st) h Q := by
  intro p l e R s m args below meth c g H locs ls C hR hL hs hlc
  obtain ⟨hd1, rfl⟩ := hd
  have hk := k p l e R s m args below meth c g H locs ls C hR hL (okc (R32_w _) (okt (okt hs))) hlc
  refine lv_iadd C.1 C.2.1 hd1 ?_
  rw [show Int32.ofInt a + Int32.ofInt b = Int32.ofInt (w32 (a + b)) from by rw [ow32, Int32.ofInt_add]]
  exact hk
theorem T_isub {a b : Int} (hd : DI M pc .isub 1 pc') (k : T d u M pc' lo (vI (w32 (a - b)) :: st) h Q) : T d u M pc lo (vI b :: vI a :: st) h Q := by
  intro p l e R s m args below meth c g H locs ls C hR hL hs hlc
  obtain ⟨hd1, rfl⟩ := hd
  have hk := k p l e R s m args below meth c g H locs ls C hR hL (okc (R32_w _) (okt (okt hs))) hlc
  refine lv_isub C.1 C.2.1 hd1 ?_
  rw [show Int32.ofInt a - Int32.ofInt b = Int32.ofInt (w32 (a - b)) from by rw [ow32, Int32.ofInt_sub]]
  exact hk
theorem T_imul {a b : Int} (hd : DI M pc .imul 1 pc') (k : T d u M pc' lo (vI (w32 (a * b)) :: st) h Q) : T d u M pc lo (vI b :: vI a :: st) h Q := by
  intro p l e R s m args below meth c g H locs ls C hR hL hs hlc
  obtain ⟨hd1, rfl⟩ := hd
  have hk := k p l e R s m args below meth c g H locs ls C hR hL (okc (R32_w _) (okt (okt hs))) hlc
  refine lv_imul C.1 C.2.1 hd1 ?_
  rw [show Int32.ofInt a * Int32.ofInt b = Int32.ofInt (w32 (a * b)) from by rw [ow32, Int32.ofInt_mul]]
  exact hk
theorem T_ladd {a b : Int} (hd : DI M pc .ladd 1 pc') (k : T d u M pc' lo (vJ (w64 (a + b)) :: st) h Q) : T d u M pc lo (vJ b :: vJ a :: st) h Q := by
  intro p l e R s m args below meth c g H locs ls C hR hL hs hlc
  obtain ⟨hd1, rfl⟩ := hd
  have hk := k p l e R s m args below meth c g H locs ls C hR hL (okc (R64_w _) (okt (okt hs))) hlc
  refine lv_ladd C.1 C.2.1 hd1 ?_
  rw [show Int64.ofInt a + Int64.ofInt b = Int64.ofInt (w64 (a + b)) from by rw [ow64, Int64.ofInt_add]]
  exact hk
theorem T_lsub {a b : Int} (hd : DI M pc .lsub 1 pc') (k : T d u M pc' lo (vJ (w64 (a - b)) :: st) h Q) : T d u M pc lo (vJ b :: vJ a :: st) h Q := by
  intro p l e R s m args below meth c g H locs ls C hR hL hs hlc
  obtain ⟨hd1, rfl⟩ := hd
  have hk := k p l e R s m args below meth c g H locs ls C hR hL (okc (R64_w _) (okt (okt hs))) hlc
  refine lv_lsub C.1 C.2.1 hd1 ?_
  rw [show Int64.ofInt a - Int64.ofInt b = Int64.ofInt (w64 (a - b)) from by rw [ow64, Int64.ofInt_sub]]
  exact hk
theorem T_lmul {a b : Int} (hd : DI M pc .lmul 1 pc') (k : T d u M pc' lo (vJ (w64 (a * b)) :: st) h Q) : T d u M pc lo (vJ b :: vJ a :: st) h Q := by
  intro p l e R s m args below meth c g H locs ls C hR hL hs hlc
  obtain ⟨hd1, rfl⟩ := hd
  have hk := k p l e R s m args below meth c g H locs ls C hR hL (okc (R64_w _) (okt (okt hs))) hlc
  refine lv_lmul C.1 C.2.1 hd1 ?_
  rw [show Int64.ofInt a * Int64.ofInt b = Int64.ofInt (w64 (a * b)) from by rw [ow64, Int64.ofInt_mul]]
  exact hk
theorem T_iand {a b : Int} (hd : DI M pc .iand 1 pc') (k : T d u M pc' lo (vI (iand a b) :: st) h Q) : T d u M pc lo (vI b :: vI a :: st) h Q := by
  intro p l e R s m args below meth c g H locs ls C hR hL hs hlc
  obtain ⟨hd1, rfl⟩ := hd
  have hk := k p l e R s m args below meth c g H locs ls C hR hL (okc (R32_i _) (okt (okt hs))) hlc
  refine lv_iand C.1 C.2.1 hd1 ?_
  rw [show Int32.ofInt a &&& Int32.ofInt b = Int32.ofInt (iand a b) from (oi32 _).symm]
  exact hk
theorem T_ior {a b : Int} (hd : DI M pc .ior 1 pc') (k : T d u M pc' lo (vI (ior a b) :: st) h Q) : T d u M pc lo (vI b :: vI a :: st) h Q := by
  intro p l e R s m args below meth c g H locs ls C hR hL hs hlc
  obtain ⟨hd1, rfl⟩ := hd
  have hk := k p l e R s m args below meth c g H locs ls C hR hL (okc (R32_i _) (okt (okt hs))) hlc
  refine lv_ior C.1 C.2.1 hd1 ?_
  rw [show Int32.ofInt a ||| Int32.ofInt b = Int32.ofInt (ior a b) from (oi32 _).symm]
  exact hk
theorem T_ixor {a b : Int} (hd : DI M pc .ixor 1 pc') (k : T d u M pc' lo (vI (ixor a b) :: st) h Q) : T d u M pc lo (vI b :: vI a :: st) h Q := by
  intro p l e R s m args below meth c g H locs ls C hR hL hs hlc
  obtain ⟨hd1, rfl⟩ := hd
  have hk := k p l e R s m args below meth c g H locs ls C hR hL (okc (R32_i _) (okt (okt hs))) hlc
  refine lv_ixor C.1 C.2.1 hd1 ?_
  rw [show Int32.ofInt a ^^^ Int32.ofInt b = Int32.ofInt (ixor a b) from (oi32 _).symm]
  exact hk
theorem T_land {a b : Int} (hd : DI M pc .land 1 pc') (k : T d u M pc' lo (vJ (land a b) :: st) h Q) : T d u M pc lo (vJ b :: vJ a :: st) h Q := by
  intro p l e R s m args below meth c g H locs ls C hR hL hs hlc
  obtain ⟨hd1, rfl⟩ := hd
  have hk := k p l e R s m args below meth c g H locs ls C hR hL (okc (R64_i _) (okt (okt hs))) hlc
  refine lv_land C.1 C.2.1 hd1 ?_
  rw [show Int64.ofInt a &&& Int64.ofInt b = Int64.ofInt (land a b) from (oi64 _).symm]
  exact hk
theorem T_lor {a b : Int} (hd : DI M pc .lor 1 pc') (k : T d u M pc' lo (vJ (lor a b) :: st) h Q) : T d u M pc lo (vJ b :: vJ a :: st) h Q := by
  intro p l e R s m args below meth c g H locs ls C hR hL hs hlc
  obtain ⟨hd1, rfl⟩ := hd
  have hk := k p l e R s m args below meth c g H locs ls C hR hL (okc (R64_i _) (okt (okt hs))) hlc
  refine lv_lor C.1 C.2.1 hd1 ?_
  rw [show Int64.ofInt a ||| Int64.ofInt b = Int64.ofInt (lor a b) from (oi64 _).symm]
  exact hk
theorem T_ishl {a b : Int} (hd : DI M pc .ishl 1 pc') (k : T d u M pc' lo (vI (ishl a b) :: st) h Q) : T d u M pc lo (vI b :: vI a :: st) h Q := by
  intro p l e R s m args below meth c g H locs ls C hR hL hs hlc
  obtain ⟨hd1, rfl⟩ := hd
  have hk := k p l e R s m args below meth c g H locs ls C hR hL (okc (R32_i _) (okt (okt hs))) hlc
  refine lv_ishl C.1 C.2.1 hd1 ?_
  rw [show Int32.ofInt a <<< (Int32.ofInt b &&& 31) = Int32.ofInt (ishl a b) from (oi32 _).symm]
  exact hk
theorem T_ishr {a b : Int} (hd : DI M pc .ishr 1 pc') (k : T d u M pc' lo (vI (ishr a b) :: st) h Q) : T d u M pc lo (vI b :: vI a :: st) h Q := by
  intro p l e R s m args below meth c g H locs ls C hR hL hs hlc
  obtain ⟨hd1, rfl⟩ := hd
  have hk := k p l e R s m args below meth c g H locs ls C hR hL (okc (R32_i _) (okt (okt hs))) hlc
  refine lv_ishr C.1 C.2.1 hd1 ?_
  rw [show Int32.ofInt a >>> (Int32.ofInt b &&& 31) = Int32.ofInt (ishr a b) from (oi32 _).symm]
  exact hk
theorem T_iushr {a b : Int} (hd : DI M pc .iushr 1 pc') (k : T d u M pc' lo (vI (iushr a b) :: st) h Q) : T d u M pc lo (vI b :: vI a :: st) h Q := by
  intro p l e R s m args below meth c g H locs ls C hR hL hs hlc
  obtain ⟨hd1, rfl⟩ := hd
  have hk := k p l e R s m args below meth c g H locs ls C hR hL (okc (R32_i _) (okt (okt hs))) hlc
  refine lv_iushr (v := Int32.ofInt (iushr a b)) C.1 C.2.1 hd1 (oi32 _).symm ?_
  exact hk
theorem T_lshl {a b : Int} (hd : DI M pc .lshl 1 pc') (k : T d u M pc' lo (vJ (lshl a b) :: st) h Q) : T d u M pc lo (vI b :: vJ a :: st) h Q := by
  intro p l e R s m args below meth c g H locs ls C hR hL hs hlc
  obtain ⟨hd1, rfl⟩ := hd
  have hk := k p l e R s m args below meth c g H locs ls C hR hL (okc (R64_i _) (okt (okt hs))) hlc
  refine lv_lshl (v := Int64.ofInt (lshl a b)) C.1 C.2.1 hd1 (oi64 _).symm ?_
  exact hk
theorem T_lshr {a b : Int} (hd : DI M pc .lshr 1 pc') (k : T d u M pc' lo (vJ (lshr a b) :: st) h Q) : T d u M pc lo (vI b :: vJ a :: st) h Q := by
  intro p l e R s m args below meth c g H locs ls C hR hL hs hlc
  obtain ⟨hd1, rfl⟩ := hd
  have hk := k p l e R s m args below meth c g H locs ls C hR hL (okc (R64_i _) (okt (okt hs))) hlc
  refine lv_lshr (v := Int64.ofInt (lshr a b)) C.1 C.2.1 hd1 (oi64 _).symm ?_
  exact hk
theorem T_i2l {a : Int} (hd : DI M pc .i2l 1 pc') (k : T d u M pc' lo (vJ a :: st) h Q) : T d u M pc lo (vI a :: st) h Q := by
  intro p l e R s m args below meth c g H locs ls C hR hL hs hlc
  obtain ⟨hd1, rfl⟩ := hd
  have hk := k p l e R s m args below meth c g H locs ls C hR hL (okc (show R64 a from by have := okh hs; unfold okv R32 at this; unfold R64; simp only at this; omega) (okt hs)) hlc
  refine lv_i2l C.1 C.2.1 hd1 (il64 (okh hs)) ?_
  exact hk
theorem T_l2i {a : Int} (hd : DI M pc .l2i 1 pc') (k : T d u M pc' lo (vI (w32 a) :: st) h Q) : T d u M pc lo (vJ a :: st) h Q := by
  intro p l e R s m args below meth c g H locs ls C hR hL hs hlc
  obtain ⟨hd1, rfl⟩ := hd
  have hk := k p l e R s m args below meth c g H locs ls C hR hL (okc (R32_w _) (okt hs)) hlc
  refine lv_l2i (v := Int32.ofInt (w32 a)) C.1 C.2.1 hd1 ((li32 (okh hs)).trans (ow32 _).symm) ?_
  exact hk
theorem T_i2b {a : Int} (hd : DI M pc .i2b 1 pc') (k : T d u M pc' lo (vI (i2b a) :: st) h Q) : T d u M pc lo (vI a :: st) h Q := by
  intro p l e R s m args below meth c g H locs ls C hR hL hs hlc
  obtain ⟨hd1, rfl⟩ := hd
  have hk := k p l e R s m args below meth c g H locs ls C hR hL (okc (R32_i _) (okt hs)) hlc
  refine lv_i2b C.1 C.2.1 hd1 (oi32 _).symm ?_
  exact hk
theorem T_i2s {a : Int} (hd : DI M pc .i2s 1 pc') (k : T d u M pc' lo (vI (i2s a) :: st) h Q) : T d u M pc lo (vI a :: st) h Q := by
  intro p l e R s m args below meth c g H locs ls C hR hL hs hlc
  obtain ⟨hd1, rfl⟩ := hd
  have hk := k p l e R s m args below meth c g H locs ls C hR hL (okc (R32_i _) (okt hs)) hlc
  refine lv_i2s C.1 C.2.1 hd1 (oi32 _).symm ?_
  exact hk
theorem T_i2c {a : Int} (hd : DI M pc .i2c 1 pc') (k : T d u M pc' lo (vI (i2c a) :: st) h Q) : T d u M pc lo (vI a :: st) h Q := by
  intro p l e R s m args below meth c g H locs ls C hR hL hs hlc
  obtain ⟨hd1, rfl⟩ := hd
  have hk := k p l e R s m args below meth c g H locs ls C hR hL (okc (R32_i _) (okt hs)) hlc
  refine lv_i2c C.1 C.2.1 hd1 (oi32 _).symm ?_
  exact hk
theorem T_idiv {a b : Int} (hd : DI M pc .idiv 1 pc') (hb : b ≠ 0) (k : T d u M pc' lo (vI (w32 (a.tdiv b)) :: st) h Q) : T d u M pc lo (vI b :: vI a :: st) h Q := by
  intro p l e R s m args below meth c g H locs ls C hR hL hs hlc
  obtain ⟨hd1, rfl⟩ := hd
  have hk := k p l e R s m args below meth c g H locs ls C hR hL (okc (R32_w _) (okt (okt hs))) hlc
  refine lv_idiv C.1 C.2.1 hd1 (ne32 (okh hs) hb) ?_
  rw [show Int32.ofInt a / Int32.ofInt b = Int32.ofInt (w32 (a.tdiv b)) from dv32 (okh (okt hs)) (okh hs)]
  exact hk
theorem T_irem {a b : Int} (hd : DI M pc .irem 1 pc') (hb : b ≠ 0) (k : T d u M pc' lo (vI (a.tmod b) :: st) h Q) : T d u M pc lo (vI b :: vI a :: st) h Q := by
  intro p l e R s m args below meth c g H locs ls C hR hL hs hlc
  obtain ⟨hd1, rfl⟩ := hd
  have hk := k p l e R s m args below meth c g H locs ls C hR hL (okc (tm32 (okh hs) hb) (okt (okt hs))) hlc
  refine lv_irem C.1 C.2.1 hd1 (ne32 (okh hs) hb) ?_
  rw [show Int32.ofInt a - Int32.ofInt a / Int32.ofInt b * Int32.ofInt b = Int32.ofInt (a.tmod b) from rm32 (okh (okt hs)) (okh hs)]
  exact hk
theorem T_ldiv {a b : Int} (hd : DI M pc .ldiv 1 pc') (hb : b ≠ 0) (k : T d u M pc' lo (vJ (w64 (a.tdiv b)) :: st) h Q) : T d u M pc lo (vJ b :: vJ a :: st) h Q := by
  intro p l e R s m args below meth c g H locs ls C hR hL hs hlc
  obtain ⟨hd1, rfl⟩ := hd
  have hk := k p l e R s m args below meth c g H locs ls C hR hL (okc (R64_w _) (okt (okt hs))) hlc
  refine lv_ldiv C.1 C.2.1 hd1 (ne64 (okh hs) hb) ?_
  rw [show Int64.ofInt a / Int64.ofInt b = Int64.ofInt (w64 (a.tdiv b)) from dv64 (okh (okt hs)) (okh hs)]
  exact hk
theorem T_lrem {a b : Int} (hd : DI M pc .lrem 1 pc') (hb : b ≠ 0) (k : T d u M pc' lo (vJ (a.tmod b) :: st) h Q) : T d u M pc lo (vJ b :: vJ a :: st) h Q := by
  intro p l e R s m args below meth c g H locs ls C hR hL hs hlc
  obtain ⟨hd1, rfl⟩ := hd
  have hk := k p l e R s m args below meth c g H locs ls C hR hL (okc (tm64 (okh hs) hb) (okt (okt hs))) hlc
  refine lv_lrem C.1 C.2.1 hd1 (ne64 (okh hs) hb) ?_
  rw [show Int64.ofInt a - Int64.ofInt a / Int64.ofInt b * Int64.ofInt b = Int64.ofInt (a.tmod b) from rm64 (okh (okt hs)) (okh hs)]
  exact hk
theorem T_iconst {x : Int} (hd : DI M pc (.iconst x) 1 pc') (hx : R32 x) (k : T d u M pc' lo (vI x :: st) h Q) : T d u M pc lo (st) h Q := by
  intro p l e R s m args below meth c g H locs ls C hR hL hs hlc
  obtain ⟨hd1, rfl⟩ := hd
  have hk := k p l e R s m args below meth c g H locs ls C hR hL (okc hx hs) hlc
  refine lv_iconst C.1 C.2.1 hd1 rfl ?_
  exact hk
theorem T_bipush {x : Int} (hd : DI M pc (.bipush x) 2 pc') (hx : -128 ≤ x ∧ x < 128) (k : T d u M pc' lo (vI x :: st) h Q) : T d u M pc lo (st) h Q := by
  intro p l e R s m args below meth c g H locs ls C hR hL hs hlc
  obtain ⟨hd1, rfl⟩ := hd
  have hk := k p l e R s m args below meth c g H locs ls C hR hL (okc (show R32 x by unfold R32; omega) hs) hlc
  refine lv_bipush (v := Int32.ofInt x) C.1 C.2.1 hd1 (by rw [← Int32.toInt_inj, Int8.toInt_toInt32, tr32 (by unfold R32; omega), Int8.toInt_ofInt_of_le (by omega) (by omega)]) ?_
  exact hk
theorem T_sipush {x : Int} (hd : DI M pc (.sipush x) 3 pc') (hx : -32768 ≤ x ∧ x < 32768) (k : T d u M pc' lo (vI x :: st) h Q) : T d u M pc lo (st) h Q := by
  intro p l e R s m args below meth c g H locs ls C hR hL hs hlc
  obtain ⟨hd1, rfl⟩ := hd
  have hk := k p l e R s m args below meth c g H locs ls C hR hL (okc (show R32 x by unfold R32; omega) hs) hlc
  refine lv_sipush (v := Int32.ofInt x) C.1 C.2.1 hd1 (by rw [← Int32.toInt_inj, Int16.toInt_toInt32, tr32 (by unfold R32; omega), Int16.toInt_ofInt_of_le (by omega) (by omega)]) ?_
  exact hk
theorem T_lconst0  (hd : DI M pc (.lconst 0) 1 pc') (k : T d u M pc' lo (vJ 0 :: st) h Q) : T d u M pc lo (st) h Q := by
  intro p l e R s m args below meth c g H locs ls C hR hL hs hlc
  obtain ⟨hd1, rfl⟩ := hd
  have hk := k p l e R s m args below meth c g H locs ls C hR hL (okc R64_0 hs) hlc
  refine lv_lconst (v := Int64.ofInt 0) C.1 C.2.1 hd1 (by decide) ?_
  exact hk
theorem T_lconst1  (hd : DI M pc (.lconst 1) 1 pc') (k : T d u M pc' lo (vJ 1 :: st) h Q) : T d u M pc lo (st) h Q := by
  intro p l e R s m args below meth c g H locs ls C hR hL hs hlc
  obtain ⟨hd1, rfl⟩ := hd
  have hk := k p l e R s m args below meth c g H locs ls C hR hL (okc (show R64 1 by unfold R64; omega) hs) hlc
  refine lv_lconst (v := Int64.ofInt 1) C.1 C.2.1 hd1 (by decide) ?_
  exact hk
theorem T_ldc {i : Nat} {x : Int} (hd : DI M pc (.ldc i) 2 pc') (hw : Cond.constant M.1.cls i (Int32.ofInt x) ∈ gT) (hx : R32 x) (k : T d u M pc' lo (vI x :: st) h Q) : T d u M pc lo (st) h Q := by
  intro p l e R s m args below meth c g H locs ls C hR hL hs hlc
  obtain ⟨hd1, rfl⟩ := hd
  have hk := k p l e R s m args below meth c g H locs ls C hR hL (okc hx hs) hlc
  refine lv_ldc C.1 C.2.1 C.2.2.2.2.1 (C.2.2.2.2.2.1 _ hw) hd1 ?_
  exact hk
theorem T_ldcw {i : Nat} {x : Int} (hd : DI M pc (.ldc_w i) 3 pc') (hw : Cond.constant M.1.cls i (Int32.ofInt x) ∈ gT) (hx : R32 x) (k : T d u M pc' lo (vI x :: st) h Q) : T d u M pc lo (st) h Q := by
  intro p l e R s m args below meth c g H locs ls C hR hL hs hlc
  obtain ⟨hd1, rfl⟩ := hd
  have hk := k p l e R s m args below meth c g H locs ls C hR hL (okc hx hs) hlc
  refine lv_ldcw C.1 C.2.1 C.2.2.2.2.1 (C.2.2.2.2.2.1 _ hw) hd1 ?_
  exact hk
theorem T_ldc2 {i : Nat} {x : Int} (hd : DI M pc (.ldc2_w i) 3 pc') (hw : Cond.constantLong M.1.cls i (Int64.ofInt x) ∈ gT) (hx : R64 x) (k : T d u M pc' lo (vJ x :: st) h Q) : T d u M pc lo (st) h Q := by
  intro p l e R s m args below meth c g H locs ls C hR hL hs hlc
  obtain ⟨hd1, rfl⟩ := hd
  have hk := k p l e R s m args below meth c g H locs ls C hR hL (okc hx hs) hlc
  refine lv_ldc2 C.1 C.2.1 C.2.2.2.2.1 (C.2.2.2.2.2.1 _ hw) hd1 ?_
  exact hk
theorem T_ldc2d {i : Nat} {x : UInt64} (hd : DI M pc (.ldc2_w i) 3 pc') (hw : Cond.constantDouble M.1.cls i x ∈ gT) (k : T d u M pc' lo (vD x :: st) h Q) : T d u M pc lo (st) h Q := by
  intro p l e R s m args below meth c g H locs ls C hR hL hs hlc
  obtain ⟨hd1, rfl⟩ := hd
  have hk := k p l e R s m args below meth c g H locs ls C hR hL (okc trivial hs) hlc
  refine lv_ldc2d C.1 C.2.1 C.2.2.2.2.1 (C.2.2.2.2.2.1 _ hw) hd1 ?_
  exact hk
theorem T_iload_n {k : Fin 4} {x : Int} (hd : DI M pc (.iload_n k) 1 pc') (hi : lo[(k : Nat)]? = some (some (vI x))) (k : T d u M pc' lo (vI x :: st) h Q) : T d u M pc lo (st) h Q := by
  intro p l e R s m args below meth c g H locs ls C hR hL hs hlc
  obtain ⟨hd1, rfl⟩ := hd
  have hk := k p l e R s m args below meth c g H locs ls C hR hL (okc (hL.2.1 _ _ hi) hs) hlc
  refine lv_iload_n C.1 C.2.1 hd1 rfl (hL.at hi) ?_
  exact hk
theorem T_iload {i : Nat} {x : Int} (hd : DI M pc (.iload i) 2 pc') (hi : lo[i]? = some (some (vI x))) (k : T d u M pc' lo (vI x :: st) h Q) : T d u M pc lo (st) h Q := by
  intro p l e R s m args below meth c g H locs ls C hR hL hs hlc
  obtain ⟨hd1, rfl⟩ := hd
  have hk := k p l e R s m args below meth c g H locs ls C hR hL (okc (hL.2.1 _ _ hi) hs) hlc
  refine lv_iload C.1 C.2.1 hd1 (hL.at hi) ?_
  exact hk
theorem T_lload_n {k : Fin 4} {x : Int} (hd : DI M pc (.lload_n k) 1 pc') (hi : lo[(k : Nat)]? = some (some (vJ x))) (k : T d u M pc' lo (vJ x :: st) h Q) : T d u M pc lo (st) h Q := by
  intro p l e R s m args below meth c g H locs ls C hR hL hs hlc
  obtain ⟨hd1, rfl⟩ := hd
  have hk := k p l e R s m args below meth c g H locs ls C hR hL (okc (hL.2.1 _ _ hi) hs) hlc
  refine lv_lload_n C.1 C.2.1 hd1 rfl (hL.at hi) ?_
  exact hk
theorem T_lload {i : Nat} {x : Int} (hd : DI M pc (.lload i) 2 pc') (hi : lo[i]? = some (some (vJ x))) (k : T d u M pc' lo (vJ x :: st) h Q) : T d u M pc lo (st) h Q := by
  intro p l e R s m args below meth c g H locs ls C hR hL hs hlc
  obtain ⟨hd1, rfl⟩ := hd
  have hk := k p l e R s m args below meth c g H locs ls C hR hL (okc (hL.2.1 _ _ hi) hs) hlc
  refine lv_lload C.1 C.2.1 hd1 (hL.at hi) ?_
  exact hk
theorem T_fload_n {k : Fin 4} {x : UInt32} (hd : DI M pc (.fload_n k) 1 pc') (hi : lo[(k : Nat)]? = some (some (vF x))) (k : T d u M pc' lo (vF x :: st) h Q) : T d u M pc lo (st) h Q := by
  intro p l e R s m args below meth c g H locs ls C hR hL hs hlc
  obtain ⟨hd1, rfl⟩ := hd
  have hk := k p l e R s m args below meth c g H locs ls C hR hL (okc (hL.2.1 _ _ hi) hs) hlc
  refine lv_fload_n C.1 C.2.1 hd1 rfl (hL.at hi) ?_
  exact hk
theorem T_fload {i : Nat} {x : UInt32} (hd : DI M pc (.fload i) 2 pc') (hi : lo[i]? = some (some (vF x))) (k : T d u M pc' lo (vF x :: st) h Q) : T d u M pc lo (st) h Q := by
  intro p l e R s m args below meth c g H locs ls C hR hL hs hlc
  obtain ⟨hd1, rfl⟩ := hd
  have hk := k p l e R s m args below meth c g H locs ls C hR hL (okc (hL.2.1 _ _ hi) hs) hlc
  refine lv_fload C.1 C.2.1 hd1 (hL.at hi) ?_
  exact hk
theorem T_dload_n {k : Fin 4} {x : UInt64} (hd : DI M pc (.dload_n k) 1 pc') (hi : lo[(k : Nat)]? = some (some (vD x))) (k : T d u M pc' lo (vD x :: st) h Q) : T d u M pc lo (st) h Q := by
  intro p l e R s m args below meth c g H locs ls C hR hL hs hlc
  obtain ⟨hd1, rfl⟩ := hd
  have hk := k p l e R s m args below meth c g H locs ls C hR hL (okc (hL.2.1 _ _ hi) hs) hlc
  refine lv_dload_n C.1 C.2.1 hd1 rfl (hL.at hi) ?_
  exact hk
theorem T_dload {i : Nat} {x : UInt64} (hd : DI M pc (.dload i) 2 pc') (hi : lo[i]? = some (some (vD x))) (k : T d u M pc' lo (vD x :: st) h Q) : T d u M pc lo (st) h Q := by
  intro p l e R s m args below meth c g H locs ls C hR hL hs hlc
  obtain ⟨hd1, rfl⟩ := hd
  have hk := k p l e R s m args below meth c g H locs ls C hR hL (okc (hL.2.1 _ _ hi) hs) hlc
  refine lv_dload C.1 C.2.1 hd1 (hL.at hi) ?_
  exact hk
theorem T_aload_n {k : Fin 4} {x : Nat} (hd : DI M pc (.aload_n k) 1 pc') (hi : lo[(k : Nat)]? = some (some (vR x))) (k : T d u M pc' lo (vR x :: st) h Q) : T d u M pc lo st h Q := by
  intro p l e R s m args below meth c g H locs ls C hR hL hs hlc
  obtain ⟨hd1, rfl⟩ := hd
  have hk := k p l e R s m args below meth c g H locs ls C hR hL (okc trivial hs) hlc
  have ha := hL.at hi
  rw [List.map_cons] at hk
  revert ha hk
  show W p l e R s m args below meth c H locs u.2.2.1 u.2.2.2 _ (F0 m (pc + 1) ls (va_rf (rfo g x) :: _)) → _ = some (Slot.val (va_rf (rfo g x))) → _
  cases rfo g x with
  | none => exact fun hk ha => lv_aload_nN C.1 C.2.1 hd1 rfl ha hk
  | some b => exact fun hk ha => lv_aload_n C.1 C.2.1 hd1 rfl ha hk
theorem T_aload {i x : Nat} (hd : DI M pc (.aload i) 2 pc') (hi : lo[i]? = some (some (vR x))) (k : T d u M pc' lo (vR x :: st) h Q) : T d u M pc lo st h Q := by
  intro p l e R s m args below meth c g H locs ls C hR hL hs hlc
  obtain ⟨hd1, rfl⟩ := hd
  have hk := k p l e R s m args below meth c g H locs ls C hR hL (okc trivial hs) hlc
  have ha := hL.at hi
  rw [List.map_cons] at hk
  revert ha hk
  show W p l e R s m args below meth c H locs u.2.2.1 u.2.2.2 _ (F0 m (pc + 2) ls (va_rf (rfo g x) :: _)) → _ = some (Slot.val (va_rf (rfo g x))) → _
  cases rfo g x with
  | none => exact fun hk ha => lv_aloadN C.1 C.2.1 hd1 ha hk
  | some b => exact fun hk ha => lv_aload C.1 C.2.1 hd1 ha hk
theorem T_istore_n {k : Fin 4} {i : Nat} {x : Int} {lo' : List (Option PV)} (hd : DI M pc (.istore_n k) 1 pc') (hki : (k : Nat) = i) (hn : i < lo.length) (hl : lset1 lo i (vI x) = lo') (k : T d u M pc' lo' st h Q) : T d u M pc lo (vI x :: st) h Q := by
  intro p l e R s m args below meth c g H locs ls C hR hL hs hlc
  obtain ⟨hd1, rfl⟩ := hd
  subst hl
  refine lv_istore_n C.1 C.2.1 hd1 hki hL.1 (by rw [← hL.2.2]; exact hn) rfl (fun ls' h' => ?_)
  exact k p l e R s m args below meth c g H locs ls' C hR (hL.set1 rfl (okh hs) h') (okt hs) hlc
theorem T_istore {i : Nat} {x : Int} {lo' : List (Option PV)} (hd : DI M pc (.istore i) 2 pc') (hn : i < lo.length) (hl : lset1 lo i (vI x) = lo') (k : T d u M pc' lo' st h Q) : T d u M pc lo (vI x :: st) h Q := by
  intro p l e R s m args below meth c g H locs ls C hR hL hs hlc
  obtain ⟨hd1, rfl⟩ := hd
  subst hl
  refine lv_istore C.1 C.2.1 hd1 hL.1 (by rw [← hL.2.2]; exact hn) rfl (fun ls' h' => ?_)
  exact k p l e R s m args below meth c g H locs ls' C hR (hL.set1 rfl (okh hs) h') (okt hs) hlc
theorem T_lstore_n {k : Fin 4} {i : Nat} {x : Int} {lo' : List (Option PV)} (hd : DI M pc (.lstore_n k) 1 pc') (hki : (k : Nat) = i) (hn : i + 1 < lo.length) (hl : lset2 lo i (vJ x) = lo') (k : T d u M pc' lo' st h Q) : T d u M pc lo (vJ x :: st) h Q := by
  intro p l e R s m args below meth c g H locs ls C hR hL hs hlc
  obtain ⟨hd1, rfl⟩ := hd
  subst hl
  refine lv_lstore_n C.1 C.2.1 hd1 hki hL.1 (by rw [← hL.2.2]; exact hn) rfl (fun ls' h' => ?_)
  exact k p l e R s m args below meth c g H locs ls' C hR (hL.set2 rfl (okh hs) h') (okt hs) hlc
theorem T_lstore {i : Nat} {x : Int} {lo' : List (Option PV)} (hd : DI M pc (.lstore i) 2 pc') (hn : i + 1 < lo.length) (hl : lset2 lo i (vJ x) = lo') (k : T d u M pc' lo' st h Q) : T d u M pc lo (vJ x :: st) h Q := by
  intro p l e R s m args below meth c g H locs ls C hR hL hs hlc
  obtain ⟨hd1, rfl⟩ := hd
  subst hl
  refine lv_lstore C.1 C.2.1 hd1 hL.1 (by rw [← hL.2.2]; exact hn) rfl (fun ls' h' => ?_)
  exact k p l e R s m args below meth c g H locs ls' C hR (hL.set2 rfl (okh hs) h') (okt hs) hlc
theorem T_fstore_n {k : Fin 4} {i : Nat} {x : UInt32} {lo' : List (Option PV)} (hd : DI M pc (.fstore_n k) 1 pc') (hki : (k : Nat) = i) (hn : i < lo.length) (hl : lset1 lo i (vF x) = lo') (k : T d u M pc' lo' st h Q) : T d u M pc lo (vF x :: st) h Q := by
  intro p l e R s m args below meth c g H locs ls C hR hL hs hlc
  obtain ⟨hd1, rfl⟩ := hd
  subst hl
  refine lv_fstore_n C.1 C.2.1 hd1 hki hL.1 (by rw [← hL.2.2]; exact hn) rfl (fun ls' h' => ?_)
  exact k p l e R s m args below meth c g H locs ls' C hR (hL.set1 rfl (okh hs) h') (okt hs) hlc
theorem T_fstore {i : Nat} {x : UInt32} {lo' : List (Option PV)} (hd : DI M pc (.fstore i) 2 pc') (hn : i < lo.length) (hl : lset1 lo i (vF x) = lo') (k : T d u M pc' lo' st h Q) : T d u M pc lo (vF x :: st) h Q := by
  intro p l e R s m args below meth c g H locs ls C hR hL hs hlc
  obtain ⟨hd1, rfl⟩ := hd
  subst hl
  refine lv_fstore C.1 C.2.1 hd1 hL.1 (by rw [← hL.2.2]; exact hn) rfl (fun ls' h' => ?_)
  exact k p l e R s m args below meth c g H locs ls' C hR (hL.set1 rfl (okh hs) h') (okt hs) hlc
theorem T_dstore_n {k : Fin 4} {i : Nat} {x : UInt64} {lo' : List (Option PV)} (hd : DI M pc (.dstore_n k) 1 pc') (hki : (k : Nat) = i) (hn : i + 1 < lo.length) (hl : lset2 lo i (vD x) = lo') (k : T d u M pc' lo' st h Q) : T d u M pc lo (vD x :: st) h Q := by
  intro p l e R s m args below meth c g H locs ls C hR hL hs hlc
  obtain ⟨hd1, rfl⟩ := hd
  subst hl
  refine lv_dstore_n C.1 C.2.1 hd1 hki hL.1 (by rw [← hL.2.2]; exact hn) rfl (fun ls' h' => ?_)
  exact k p l e R s m args below meth c g H locs ls' C hR (hL.set2 rfl (okh hs) h') (okt hs) hlc
theorem T_dstore {i : Nat} {x : UInt64} {lo' : List (Option PV)} (hd : DI M pc (.dstore i) 2 pc') (hn : i + 1 < lo.length) (hl : lset2 lo i (vD x) = lo') (k : T d u M pc' lo' st h Q) : T d u M pc lo (vD x :: st) h Q := by
  intro p l e R s m args below meth c g H locs ls C hR hL hs hlc
  obtain ⟨hd1, rfl⟩ := hd
  subst hl
  refine lv_dstore C.1 C.2.1 hd1 hL.1 (by rw [← hL.2.2]; exact hn) rfl (fun ls' h' => ?_)
  exact k p l e R s m args below meth c g H locs ls' C hR (hL.set2 rfl (okh hs) h') (okt hs) hlc
theorem T_astore_n {k : Fin 4} {i x : Nat} {lo' : List (Option PV)} (hd : DI M pc (.astore_n k) 1 pc') (hki : (k : Nat) = i) (hn : i < lo.length) (hl : lset1 lo i (vR x) = lo') (k : T d u M pc' lo' st h Q) : T d u M pc lo (vR x :: st) h Q := by
  intro p l e R s m args below meth c g H locs ls C hR hL hs hlc
  obtain ⟨hd1, rfl⟩ := hd
  subst hl
  have key : ∀ (v : Value), v = va_rf (rfo g x) → W p l e R s m args below meth c H locs u.2.2.1 u.2.2.2 (MQ below (QQ g Q) args s u.1 u.2.1 (own0 g)) (F0 m pc ls (v :: st.map (rv g))) := by
    intro v hv
    have kk : ∀ ls' : Array Slot, lv_has ls' M.2.2.1 ((i, v) :: (lst g lo).filter (fun q => !(q.1 == i) && !(q.1 + 1 == i && q.2.category == 2))) → W p l e R s m args below meth c H locs u.2.2.1 u.2.2.2 (MQ below (QQ g Q) args s u.1 u.2.1 (own0 g)) (F0 m (pc + 1) ls' (st.map (rv g))) := fun ls' h' => k p l e R s m args below meth c g H locs ls' C hR (hL.set1 (v := vR x) hv trivial h') (okt hs) hlc
    have hnn : i < M.2.2.1 := by rw [← hL.2.2]; exact hn
    revert kk
    cases hr : rfo g x with
    | none => rw [hr] at hv; subst hv; exact fun kk => lv_astore_nN C.1 C.2.1 hd1 hki hL.1 hnn rfl kk
    | some b => rw [hr] at hv; subst hv; exact fun kk => lv_astore_n C.1 C.2.1 hd1 hki hL.1 hnn rfl kk
  exact key _ rfl
theorem T_astore {i x : Nat} {lo' : List (Option PV)} (hd : DI M pc (.astore i) 2 pc') (hn : i < lo.length) (hl : lset1 lo i (vR x) = lo') (k : T d u M pc' lo' st h Q) : T d u M pc lo (vR x :: st) h Q := by
  intro p l e R s m args below meth c g H locs ls C hR hL hs hlc
  obtain ⟨hd1, rfl⟩ := hd
  subst hl
  have key : ∀ (v : Value), v = va_rf (rfo g x) → W p l e R s m args below meth c H locs u.2.2.1 u.2.2.2 (MQ below (QQ g Q) args s u.1 u.2.1 (own0 g)) (F0 m pc ls (v :: st.map (rv g))) := by
    intro v hv
    have kk : ∀ ls' : Array Slot, lv_has ls' M.2.2.1 ((i, v) :: (lst g lo).filter (fun q => !(q.1 == i) && !(q.1 + 1 == i && q.2.category == 2))) → W p l e R s m args below meth c H locs u.2.2.1 u.2.2.2 (MQ below (QQ g Q) args s u.1 u.2.1 (own0 g)) (F0 m (pc + 2) ls' (st.map (rv g))) := fun ls' h' => k p l e R s m args below meth c g H locs ls' C hR (hL.set1 (v := vR x) hv trivial h') (okt hs) hlc
    have hnn : i < M.2.2.1 := by rw [← hL.2.2]; exact hn
    revert kk
    cases hr : rfo g x with
    | none => rw [hr] at hv; subst hv; exact fun kk => lv_astoreN C.1 C.2.1 hd1 hL.1 hnn rfl kk
    | some b => rw [hr] at hv; subst hv; exact fun kk => lv_astore C.1 C.2.1 hd1 hL.1 hnn rfl kk
  exact key _ rfl
theorem T_iinc {i : Nat} {n : Int} {x : Int} {lo' : List (Option PV)} (hd : DI M pc (.iinc i n) 3 pc') (hi : lo[i]? = some (some (vI x))) (hl : lset1 lo i (vI (w32 (x + n))) = lo') (k : T d u M pc' lo' st h Q) : T d u M pc lo st h Q := by
  intro p l e R s m args below meth c g H locs ls C hR hL hs hlc
  obtain ⟨hd1, rfl⟩ := hd
  subst hl
  obtain ⟨j, hj⟩ := List.getElem?_of_mem (mem_lst (g := g) hi)
  refine lv_iinc (v := Int32.ofInt (w32 (x + n))) C.1 C.2.1 hd1 hL.1 hj (by rw [ow32, Int32.ofInt_add]) (by rw [← hL.2.2]; exact (List.getElem?_eq_some_iff.mp hi).1) rfl (fun ls' h' => ?_)
  exact k p l e R s m args below meth c g H locs ls' C hR (hL.set1 rfl (R32_w _) h') hs hlc
theorem T_dupI {a : Int} (hd : DI M pc .dup 1 pc') (k : T d u M pc' lo (vI a :: vI a :: st) h Q) : T d u M pc lo (vI a :: st) h Q := by
  intro p l e R s m args below meth c g H locs ls C hR hL hs hlc
  obtain ⟨hd1, rfl⟩ := hd
  have hk := k p l e R s m args below meth c g H locs ls C hR hL (okc (okh hs) (okc (okh hs) (okt hs))) hlc
  refine lv_dup C.1 C.2.1 hd1 rfl ?_
  exact hk
theorem T_dup {v : PV} (hd : DI M pc .dup 1 pc') (hc : cat2 v = false) (k : T d u M pc' lo (v :: v :: st) h Q) : T d u M pc lo (v :: st) h Q := by
  intro p l e R s m args below meth c g H locs ls C hR hL hs hlc
  obtain ⟨hd1, rfl⟩ := hd
  exact lv_dup C.1 C.2.1 hd1 (by rw [rv_cat, hc]; rfl) (k p l e R s m args below meth c g H locs ls C hR hL (okc (okh hs) hs) hlc)
theorem T_dup2 {v w : PV} (hd : DI M pc .dup2 1 pc') (hc : cat2 v = false) (hc2 : cat2 w = false) (k : T d u M pc' lo (v :: w :: v :: w :: st) h Q) : T d u M pc lo (v :: w :: st) h Q := by
  intro p l e R s m args below meth c g H locs ls C hR hL hs hlc
  obtain ⟨hd1, rfl⟩ := hd
  exact lv_dup2_11 C.1 C.2.1 hd1 (by rw [rv_cat, hc]; rfl) (by rw [rv_cat, hc2]; rfl) (k p l e R s m args below meth c g H locs ls C hR hL (okc (okh hs) (okc (okh (okt hs)) hs)) hlc)
theorem T_pop2 {v : PV} (hd : DI M pc .pop2 1 pc') (hc : cat2 v = true) (k : T d u M pc' lo st h Q) : T d u M pc lo (v :: st) h Q := by
  intro p l e R s m args below meth c g H locs ls C hR hL hs hlc
  obtain ⟨hd1, rfl⟩ := hd
  exact lv_pop2_2 C.1 C.2.1 hd1 (by rw [rv_cat, hc]; rfl) (k p l e R s m args below meth c g H locs ls C hR hL (okt hs) hlc)
theorem T_goto {off : Int} {tgt : Nat} (hd : DI M pc (.goto off) 3 pc') (ht : (pc : Int) + off = tgt) (k : T d u M tgt lo st h Q) : T d u M pc lo st h Q := by
  intro p l e R s m args below meth c g H locs ls C hR hL hs hlc
  exact lv_goto C.1 C.2.1 hd.1 ht (k p l e R s m args below meth c g H locs ls C hR hL hs hlc)
theorem T_icmp_eq {a b : Int} {off : Int} {tgt : Nat} (hd : DI M pc (.if_icmp .eq off) 3 pc') (ht : (pc : Int) + off = tgt) (kt : a = b → T d u M tgt lo st h Q) (kf : a ≠ b → T d u M pc' lo st h Q) : T d u M pc lo (vI b :: vI a :: st) h Q := by
  intro p l e R s m args below meth c g H locs ls C hR hL hs hlc
  obtain ⟨hd1, rfl⟩ := hd
  have ha : R32 a := okh (okt hs)
  have hb : R32 b := okh hs
  have kt := fun q => kt q p l e R s m args below meth c g H locs ls C hR hL (okt (okt hs)) hlc
  have kf := fun q => kf q p l e R s m args below meth c g H locs ls C hR hL (okt (okt hs)) hlc
  exact lv_icmp_eq C.1 C.2.1 hd1 ht (fun q => kt ((eq32 ha hb).mp q)) (fun q => kf (fun z => q ((eq32 ha hb).mpr z)))
theorem T_if_eq {a : Int} {off : Int} {tgt : Nat} (hd : DI M pc (.ifCond .eq off) 3 pc') (ht : (pc : Int) + off = tgt) (kt : a = 0 → T d u M tgt lo st h Q) (kf : a ≠ 0 → T d u M pc' lo st h Q) : T d u M pc lo (vI a :: st) h Q := by
  intro p l e R s m args below meth c g H locs ls C hR hL hs hlc
  obtain ⟨hd1, rfl⟩ := hd
  have ha : R32 a := okh hs
  have kt := fun q => kt q p l e R s m args below meth c g H locs ls C hR hL (okt hs) hlc
  have kf := fun q => kf q p l e R s m args below meth c g H locs ls C hR hL (okt hs) hlc
  have hb : R32 0 := R32_0
  exact lv_if_eq C.1 C.2.1 hd1 ht (fun q => kt ((eq32 ha hb).mp q)) (fun q => kf (fun z => q ((eq32 ha hb).mpr z)))
theorem T_icmp_ne {a b : Int} {off : Int} {tgt : Nat} (hd : DI M pc (.if_icmp .ne off) 3 pc') (ht : (pc : Int) + off = tgt) (kt : a ≠ b → T d u M tgt lo st h Q) (kf : a = b → T d u M pc' lo st h Q) : T d u M pc lo (vI b :: vI a :: st) h Q := by
  intro p l e R s m args below meth c g H locs ls C hR hL hs hlc
  obtain ⟨hd1, rfl⟩ := hd
  have ha : R32 a := okh (okt hs)
  have hb : R32 b := okh hs
  have kt := fun q => kt q p l e R s m args below meth c g H locs ls C hR hL (okt (okt hs)) hlc
  have kf := fun q => kf q p l e R s m args below meth c g H locs ls C hR hL (okt (okt hs)) hlc
  exact lv_icmp_ne C.1 C.2.1 hd1 ht (fun q => kt (fun z => q ((eq32 ha hb).mpr z))) (fun q => kf ((eq32 ha hb).mp q))
theorem T_if_ne {a : Int} {off : Int} {tgt : Nat} (hd : DI M pc (.ifCond .ne off) 3 pc') (ht : (pc : Int) + off = tgt) (kt : a ≠ 0 → T d u M tgt lo st h Q) (kf : a = 0 → T d u M pc' lo st h Q) : T d u M pc lo (vI a :: st) h Q := by
  intro p l e R s m args below meth c g H locs ls C hR hL hs hlc
  obtain ⟨hd1, rfl⟩ := hd
  have ha : R32 a := okh hs
  have kt := fun q => kt q p l e R s m args below meth c g H locs ls C hR hL (okt hs) hlc
  have kf := fun q => kf q p l e R s m args below meth c g H locs ls C hR hL (okt hs) hlc
  have hb : R32 0 := R32_0
  exact lv_if_ne C.1 C.2.1 hd1 ht (fun q => kt (fun z => q ((eq32 ha hb).mpr z))) (fun q => kf ((eq32 ha hb).mp q))
theorem T_icmp_lt {a b : Int} {off : Int} {tgt : Nat} (hd : DI M pc (.if_icmp .lt off) 3 pc') (ht : (pc : Int) + off = tgt) (kt : a < b → T d u M tgt lo st h Q) (kf : b ≤ a → T d u M pc' lo st h Q) : T d u M pc lo (vI b :: vI a :: st) h Q := by
  intro p l e R s m args below meth c g H locs ls C hR hL hs hlc
  obtain ⟨hd1, rfl⟩ := hd
  have ha : R32 a := okh (okt hs)
  have hb : R32 b := okh hs
  have kt := fun q => kt q p l e R s m args below meth c g H locs ls C hR hL (okt (okt hs)) hlc
  have kf := fun q => kf q p l e R s m args below meth c g H locs ls C hR hL (okt (okt hs)) hlc
  exact lv_icmp_lt C.1 C.2.1 hd1 ht (fun q => kt ((lt32 ha hb).mp q)) (fun q => kf (Int.not_lt.mp (fun z => q ((lt32 ha hb).mpr z))))
theorem T_if_lt {a : Int} {off : Int} {tgt : Nat} (hd : DI M pc (.ifCond .lt off) 3 pc') (ht : (pc : Int) + off = tgt) (kt : a < 0 → T d u M tgt lo st h Q) (kf : 0 ≤ a → T d u M pc' lo st h Q) : T d u M pc lo (vI a :: st) h Q := by
  intro p l e R s m args below meth c g H locs ls C hR hL hs hlc
  obtain ⟨hd1, rfl⟩ := hd
  have ha : R32 a := okh hs
  have kt := fun q => kt q p l e R s m args below meth c g H locs ls C hR hL (okt hs) hlc
  have kf := fun q => kf q p l e R s m args below meth c g H locs ls C hR hL (okt hs) hlc
  have hb : R32 0 := R32_0
  exact lv_if_lt C.1 C.2.1 hd1 ht (fun q => kt ((lt32 ha hb).mp q)) (fun q => kf (Int.not_lt.mp (fun z => q ((lt32 ha hb).mpr z))))
theorem T_icmp_ge {a b : Int} {off : Int} {tgt : Nat} (hd : DI M pc (.if_icmp .ge off) 3 pc') (ht : (pc : Int) + off = tgt) (kt : b ≤ a → T d u M tgt lo st h Q) (kf : a < b → T d u M pc' lo st h Q) : T d u M pc lo (vI b :: vI a :: st) h Q := by
  intro p l e R s m args below meth c g H locs ls C hR hL hs hlc
  obtain ⟨hd1, rfl⟩ := hd
  have ha : R32 a := okh (okt hs)
  have hb : R32 b := okh hs
  have kt := fun q => kt q p l e R s m args below meth c g H locs ls C hR hL (okt (okt hs)) hlc
  have kf := fun q => kf q p l e R s m args below meth c g H locs ls C hR hL (okt (okt hs)) hlc
  exact lv_icmp_ge C.1 C.2.1 hd1 ht (fun q => kt ((le32 hb ha).mp q)) (fun q => kf (Int.not_le.mp (fun z => q ((le32 hb ha).mpr z))))
theorem T_if_ge {a : Int} {off : Int} {tgt : Nat} (hd : DI M pc (.ifCond .ge off) 3 pc') (ht : (pc : Int) + off = tgt) (kt : 0 ≤ a → T d u M tgt lo st h Q) (kf : a < 0 → T d u M pc' lo st h Q) : T d u M pc lo (vI a :: st) h Q := by
  intro p l e R s m args below meth c g H locs ls C hR hL hs hlc
  obtain ⟨hd1, rfl⟩ := hd
  have ha : R32 a := okh hs
  have kt := fun q => kt q p l e R s m args below meth c g H locs ls C hR hL (okt hs) hlc
  have kf := fun q => kf q p l e R s m args below meth c g H locs ls C hR hL (okt hs) hlc
  have hb : R32 0 := R32_0
  exact lv_if_ge C.1 C.2.1 hd1 ht (fun q => kt ((le32 hb ha).mp q)) (fun q => kf (Int.not_le.mp (fun z => q ((le32 hb ha).mpr z))))
theorem T_icmp_gt {a b : Int} {off : Int} {tgt : Nat} (hd : DI M pc (.if_icmp .gt off) 3 pc') (ht : (pc : Int) + off = tgt) (kt : b < a → T d u M tgt lo st h Q) (kf : a ≤ b → T d u M pc' lo st h Q) : T d u M pc lo (vI b :: vI a :: st) h Q := by
  intro p l e R s m args below meth c g H locs ls C hR hL hs hlc
  obtain ⟨hd1, rfl⟩ := hd
  have ha : R32 a := okh (okt hs)
  have hb : R32 b := okh hs
  have kt := fun q => kt q p l e R s m args below meth c g H locs ls C hR hL (okt (okt hs)) hlc
  have kf := fun q => kf q p l e R s m args below meth c g H locs ls C hR hL (okt (okt hs)) hlc
  exact lv_icmp_gt C.1 C.2.1 hd1 ht (fun q => kt ((lt32 hb ha).mp q)) (fun q => kf (Int.not_lt.mp (fun z => q ((lt32 hb ha).mpr z))))
theorem T_if_gt {a : Int} {off : Int} {tgt : Nat} (hd : DI M pc (.ifCond .gt off) 3 pc') (ht : (pc : Int) + off = tgt) (kt : 0 < a → T d u M tgt lo st h Q) (kf : a ≤ 0 → T d u M pc' lo st h Q) : T d u M pc lo (vI a :: st) h Q := by
  intro p l e R s m args below meth c g H locs ls C hR hL hs hlc
  obtain ⟨hd1, rfl⟩ := hd
  have ha : R32 a := okh hs
  have kt := fun q => kt q p l e R s m args below meth c g H locs ls C hR hL (okt hs) hlc
  have kf := fun q => kf q p l e R s m args below meth c g H locs ls C hR hL (okt hs) hlc
  have hb : R32 0 := R32_0
  exact lv_if_gt C.1 C.2.1 hd1 ht (fun q => kt ((lt32 hb ha).mp q)) (fun q => kf (Int.not_lt.mp (fun z => q ((lt32 hb ha).mpr z))))
theorem T_icmp_le {a b : Int} {off : Int} {tgt : Nat} (hd : DI M pc (.if_icmp .le off) 3 pc') (ht : (pc : Int) + off = tgt) (kt : a ≤ b → T d u M tgt lo st h Q) (kf : b < a → T d u M pc' lo st h Q) : T d u M pc lo (vI b :: vI a :: st) h Q := by
  intro p l e R s m args below meth c g H locs ls C hR hL hs hlc
  obtain ⟨hd1, rfl⟩ := hd
  have ha : R32 a := okh (okt hs)
  have hb : R32 b := okh hs
  have kt := fun q => kt q p l e R s m args below meth c g H locs ls C hR hL (okt (okt hs)) hlc
  have kf := fun q => kf q p l e R s m args below meth c g H locs ls C hR hL (okt (okt hs)) hlc
  exact lv_icmp_le C.1 C.2.1 hd1 ht (fun q => kt ((le32 ha hb).mp q)) (fun q => kf (Int.not_le.mp (fun z => q ((le32 ha hb).mpr z))))
theorem T_if_le {a : Int} {off : Int} {tgt : Nat} (hd : DI M pc (.ifCond .le off) 3 pc') (ht : (pc : Int) + off = tgt) (kt : a ≤ 0 → T d u M tgt lo st h Q) (kf : 0 < a → T d u M pc' lo st h Q) : T d u M pc lo (vI a :: st) h Q := by
  intro p l e R s m args below meth c g H locs ls C hR hL hs hlc
  obtain ⟨hd1, rfl⟩ := hd
  have ha : R32 a := okh hs
  have kt := fun q => kt q p l e R s m args below meth c g H locs ls C hR hL (okt hs) hlc
  have kf := fun q => kf q p l e R s m args below meth c g H locs ls C hR hL (okt hs) hlc
  have hb : R32 0 := R32_0
  exact lv_if_le C.1 C.2.1 hd1 ht (fun q => kt ((le32 ha hb).mp q)) (fun q => kf (Int.not_le.mp (fun z => q ((le32 ha hb).mpr z))))
theorem T_lcmp {a b : Int} (hd : DI M pc .lcmp 1 pc') (k : T d u M pc' lo (vI (lcmpv a b) :: st) h Q) : T d u M pc lo (vJ b :: vJ a :: st) h Q := by
  intro p l e R s m args below meth c g H locs ls C hR hL hs hlc
  obtain ⟨hd1, rfl⟩ := hd
  have hk := k p l e R s m args below meth c g H locs ls C hR hL (okc (R32_lcmp a b) (okt (okt hs))) hlc
  have ha : R64 a := okh (okt hs)
  have hb : R64 b := okh hs
  have e9 : lg_cmp (Int64.ofInt a) (Int64.ofInt b) = Int32.ofInt (lcmpv a b) := by
    unfold lg_cmp lcmpv
    simp only [gt_iff_lt, lt64 hb ha, eq64 ha hb]
    by_cases h1 : a < b
    · rw [if_neg (by omega), if_neg (by omega), if_pos h1]; decide
    · rw [if_neg h1]
      by_cases h2 : a = b
      · rw [if_neg (by omega), if_pos h2, if_pos h2]; decide
      · rw [if_pos (by omega), if_neg h2]; decide
  refine W.lcmp C.1 C.2.1 hd1 ?_
  rw [e9]
  exact hk
theorem T_table {x dflt low hi : Int} {offs : Array Int} {len : Nat} {n : Nat} {tg : Nat → Nat} (hd : DI M pc (.tableswitch dflt low hi offs) len pc') (hn : offs.size = n) (hhi : hi = low + n - 1) (hnn : 0 < n) (ht : ∀ j, j < n → offs[j]? = some ((tg j : Int) - pc)) {dt : Nat} (hdt : (pc : Int) + dflt = dt) (kin : ∀ j, j < n → x = low + j → T d u M (tg j) lo st h Q) (kout : x < low ∨ low + n ≤ x → T d u M dt lo st h Q) : T d u M pc lo (vI x :: st) h Q := by
  intro p l e R s m args below meth c g H locs ls C hR hL hs hlc
  have hx : R32 x := okh hs
  have e9 := tr32 hx
  by_cases h1 : x < low ∨ low + n ≤ x
  · exact lv_tableOut C.1 C.2.1 hd.1 (by rw [e9]; omega) hdt (kout h1 p l e R s m args below meth c g H locs ls C hR hL (okt hs) hlc)
  · have hj : (x - low).toNat < n := by omega
    refine lv_tableIn (tgt := tg (x - low).toNat) C.1 C.2.1 hd.1 (by rw [e9]; omega) (by rw [e9]; omega) (by rw [e9]; exact ht _ hj) (by omega) ?_
    exact kin _ hj (by omega) p l e R s m args below meth c g H locs ls C hR hL (okt hs) hlc
theorem T_conv {lo' : List (Option PV)} {st' : List PV} {h' : PH} (k : T d u M pc lo' st' h' Q) (e1 : lo = lo') (e2 : st = st') (e3 : h = h') : T d u M pc lo st h Q := by subst e1 e2 e3; exact k
theorem T_acmp_ne {a b : Nat} {off : Int} {tgt : Nat} (hd : DI M pc (.if_acmp .ne off) 3 pc') (ht : (pc : Int) + off = tgt) (ha : 64 ≤ a) (hb : 64 ≤ b) (kt : a ≠ b → T d u M tgt lo st h Q) (kf : a = b → T d u M pc' lo st h Q) : T d u M pc lo (vR b :: vR a :: st) h Q := by
  intro p l e R s m args below meth c g H locs ls C hR hL hs hlc
  obtain ⟨hd1, rfl⟩ := hd
  have kt := fun q => kt q p l e R s m args below meth c g H locs ls C hR hL (okt (okt hs)) hlc
  have kf := fun q => kf q p l e R s m args below meth c g H locs ls C hR hL (okt (okt hs)) hlc
  have hi : rfo g a = rfo g b ↔ a = b := by
    unfold rfo ad
    rw [if_neg (by omega), if_neg (by omega), if_neg (by omega), if_neg (by omega)]
    constructor
    · intro q; have := Option.some.inj q; omega
    · intro q; rw [q]
  exact lv_acmp_ne C.1 C.2.1 hd1 ht (fun q => kt (fun z => q (hi.mpr z))) (fun q => kf (hi.mp q))
theorem T_fadd {a b : UInt32} (hd : DI M pc .fadd 1 pc') (hn : vf_n32 (FP.fadd a b)) (k : T d u M pc' lo (vF (FP.fadd a b) :: st) h Q) : T d u M pc lo (vF b :: vF a :: st) h Q := by
  intro p l e R s m args below meth c g H locs ls C hR hL hs hlc
  obtain ⟨hd1, rfl⟩ := hd
  exact lv_fadd C.1 C.2.1 hd1 hn (k p l e R s m args below meth c g H locs ls C hR hL (okc trivial (okt (okt hs))) hlc)
theorem T_fsub {a b : UInt32} (hd : DI M pc .fsub 1 pc') (hn : vf_n32 (FP.fsub a b)) (k : T d u M pc' lo (vF (FP.fsub a b) :: st) h Q) : T d u M pc lo (vF b :: vF a :: st) h Q := by
  intro p l e R s m args below meth c g H locs ls C hR hL hs hlc
  obtain ⟨hd1, rfl⟩ := hd
  exact lv_fsub C.1 C.2.1 hd1 hn (k p l e R s m args below meth c g H locs ls C hR hL (okc trivial (okt (okt hs))) hlc)
theorem T_fmul {a b : UInt32} (hd : DI M pc .fmul 1 pc') (hn : vf_n32 (FP.fmul a b)) (k : T d u M pc' lo (vF (FP.fmul a b) :: st) h Q) : T d u M pc lo (vF b :: vF a :: st) h Q := by
  intro p l e R s m args below meth c g H locs ls C hR hL hs hlc
  obtain ⟨hd1, rfl⟩ := hd
  exact lv_fmul C.1 C.2.1 hd1 hn (k p l e R s m args below meth c g H locs ls C hR hL (okc trivial (okt (okt hs))) hlc)
theorem T_fdiv {a b : UInt32} (hd : DI M pc .fdiv 1 pc') (hn : vf_n32 (FP.fdiv a b)) (k : T d u M pc' lo (vF (FP.fdiv a b) :: st) h Q) : T d u M pc lo (vF b :: vF a :: st) h Q := by
  intro p l e R s m args below meth c g H locs ls C hR hL hs hlc
  obtain ⟨hd1, rfl⟩ := hd
  exact lv_fdiv C.1 C.2.1 hd1 hn (k p l e R s m args below meth c g H locs ls C hR hL (okc trivial (okt (okt hs))) hlc)
theorem T_dadd {a b : UInt64} (hd : DI M pc .dadd 1 pc') (hn : vf_n64 (FP.dadd a b)) (k : T d u M pc' lo (vD (FP.dadd a b) :: st) h Q) : T d u M pc lo (vD b :: vD a :: st) h Q := by
  intro p l e R s m args below meth c g H locs ls C hR hL hs hlc
  obtain ⟨hd1, rfl⟩ := hd
  exact lv_dadd C.1 C.2.1 hd1 hn (k p l e R s m args below meth c g H locs ls C hR hL (okc trivial (okt (okt hs))) hlc)
theorem T_ddiv {a b : UInt64} (hd : DI M pc .ddiv 1 pc') (hn : vf_n64 (FP.ddiv a b)) (k : T d u M pc' lo (vD (FP.ddiv a b) :: st) h Q) : T d u M pc lo (vD b :: vD a :: st) h Q := by
  intro p l e R s m args below meth c g H locs ls C hR hL hs hlc
  obtain ⟨hd1, rfl⟩ := hd
  exact lv_ddiv C.1 C.2.1 hd1 hn (k p l e R s m args below meth c g H locs ls C hR hL (okc trivial (okt (okt hs))) hlc)
theorem T_d2f {a : UInt64} (hd : DI M pc .d2f 1 pc') (hn : vf_n32 (FP.d2f a)) (k : T d u M pc' lo (vF (FP.d2f a) :: st) h Q) : T d u M pc lo (vD a :: st) h Q := by
  intro p l e R s m args below meth c g H locs ls C hR hL hs hlc
  obtain ⟨hd1, rfl⟩ := hd
  exact lv_d2f C.1 C.2.1 hd1 hn (k p l e R s m args below meth c g H locs ls C hR hL (okc trivial (okt hs)) hlc)
theorem T_i2d {a : Int} (hd : DI M pc .i2d 1 pc') (k : T d u M pc' lo (vD (FP.i2d (Int32.ofInt a)) :: st) h Q) : T d u M pc lo (vI a :: st) h Q := by
  intro p l e R s m args below meth c g H locs ls C hR hL hs hlc
  obtain ⟨hd1, rfl⟩ := hd
  exact lv_i2d C.1 C.2.1 hd1 (k p l e R s m args below meth c g H locs ls C hR hL (okc trivial (okt hs)) hlc)
theorem T_i2f {a : Int} (hd : DI M pc .i2f 1 pc') (k : T d u M pc' lo (vF (FP.i2f (Int32.ofInt a)) :: st) h Q) : T d u M pc lo (vI a :: st) h Q := by
  intro p l e R s m args below meth c g H locs ls C hR hL hs hlc
  obtain ⟨hd1, rfl⟩ := hd
  exact lv_i2f C.1 C.2.1 hd1 (k p l e R s m args below meth c g H locs ls C hR hL (okc trivial (okt hs)) hlc)
theorem T_f2i {a : UInt32} (hd : DI M pc .f2i 1 pc') (k : T d u M pc' lo (vI (FP.f2i a).toInt :: st) h Q) : T d u M pc lo (vF a :: st) h Q := by
  intro p l e R s m args below meth c g H locs ls C hR hL hs hlc
  obtain ⟨hd1, rfl⟩ := hd
  have hk := k p l e R s m args below meth c g H locs ls C hR hL (okc (R32_i _) (okt hs)) hlc
  refine lv_f2i C.1 C.2.1 hd1 ?_
  rw [show FP.f2i a = Int32.ofInt (FP.f2i a).toInt from (oi32 _).symm]
  exact hk
theorem T_fcmp {a b : UInt32} {op : CmpOp} (hd : DI M pc (.fcmp op) 1 pc') (k : T d u M pc' lo (vI (Op.cmpValue (FP.fcmp a b) op).toInt :: st) h Q) : T d u M pc lo (vF b :: vF a :: st) h Q := by
  intro p l e R s m args below meth c g H locs ls C hR hL hs hlc
  obtain ⟨hd1, rfl⟩ := hd
  have hk := k p l e R s m args below meth c g H locs ls C hR hL (okc (R32_i _) (okt (okt hs))) hlc
  refine lv_fcmp C.1 C.2.1 hd1 ?_
  rw [show Op.cmpValue (FP.fcmp a b) op = Int32.ofInt (Op.cmpValue (FP.fcmp a b) op).toInt from (oi32 _).symm]
  exact hk
end
