/-! TEXT CONSTANTS, THE SCRIPT, STATICS OF THE JDK -/
theorem ad_str (g : Gx) {a : Nat} (h : a < 64) : ad g a = g.2.2.2.2.2 a := by unfold ad; rw [if_pos h]
theorem old_at {g : Gx} {h : PH} {H : Heap} (hR : Rel g h H) {a : Nat} (ha : ¬ own0 g a) : H[a]? = (h00 g)[a]? := hR.2.2.2.2.2.1 a (Nat.not_le.mp ha)
section
variable {d : Nat} {u : Bu} {M : MD} {pc pc' : Nat} {lo : List (Option PV)} {st stk : List PV} {h : PH} {Q : Option PV → PH → Prop}
theorem T_ldcS {idx i : Nat} (hd : DI M pc (.ldc idx) 2 pc') (hi : i < 27) (hx : sIdx.getD i 0 = idx) (ho : sOwn i = M.1.cls) (k : T d u M pc' lo (vR (1 + i) :: st) h Q) : T d u M pc lo st h Q := by
  intro p' l e R s m args below meth c' g H locs ls C hR hL hs hlc
  obtain ⟨hd1, rfl⟩ := hd
  have hkk := k p' l e R s m args below meth c' g H locs ls C hR hL (okc trivial hs) hlc
  rw [List.map_cons, rv_ref (by omega)] at hkk
  have hZ := (C.2.2.2.2.2.2.2.2.1.2.2.1 i hi).1
  rw [hx, ho] at hZ
  exact va_ldcS C.1 C.2.1 C.2.2.2.2.1 hZ hd1 hkk
theorem T_strV {idx i : Nat} (hd : DI M pc (.getfield idx) 3 pc') (hw : Cond.fieldLink M.1.cls idx "java/lang/String" "value" "[B" ∈ gT) (hi : i < 27) (k : T d u M pc' lo (vR (33 + i) :: st) h Q) : T d u M pc lo (vR (1 + i) :: st) h Q := by
  intro p' l e R s m args below meth c' g H locs ls C hR hL hs hlc
  obtain ⟨hd1, rfl⟩ := hd
  have hkk := k p' l e R s m args below meth c' g H locs ls C hR hL (okc trivial (okt hs)) hlc
  rw [List.map_cons, rv_ref (by omega)] at hkk
  obtain ⟨cf, kf, fi, f, cell, q1, q2, q3, q4, q5, q6⟩ := (C.2.2.2.2.2.2.2.2.1.2.2.1 i hi).2.2.2.1
  rw [← old_at hR q6] at q3
  refine W.eq (g2 := F0 m pc ls (.ref (ad g (1 + i)) :: st.map (rv g))) (by rw [List.map_cons, rv_ref (by omega)]) ?_
  exact W.getf C.1 C.2.1 C.2.2.2.2.1 (C.2.2.2.2.2.1 _ hw) q1 q2 q3 q4 q5 rfl rfl hd1 hkk
theorem T_strC {idx i : Nat} (hd : DI M pc (.getfield idx) 3 pc') (hw : Cond.fieldLink M.1.cls idx "java/lang/String" "coder" "B" ∈ gT) (hi : i < 27) (k : T d u M pc' lo (vI 0 :: st) h Q) : T d u M pc lo (vR (1 + i) :: st) h Q := by
  intro p' l e R s m args below meth c' g H locs ls C hR hL hs hlc
  obtain ⟨hd1, rfl⟩ := hd
  have hkk := k p' l e R s m args below meth c' g H locs ls C hR hL (okc R32_0 (okt hs)) hlc
  obtain ⟨cf, kf, fi, f, cell, q1, q2, q3, q4, q5, q6⟩ := (C.2.2.2.2.2.2.2.2.1.2.2.1 i hi).2.2.1
  rw [← old_at hR q6] at q3
  refine W.eq (g2 := F0 m pc ls (.ref (ad g (1 + i)) :: st.map (rv g))) (by rw [List.map_cons, rv_ref (by omega)]) ?_
  exact W.getf C.1 C.2.1 C.2.2.2.2.1 (C.2.2.2.2.2.1 _ hw) q1 q2 q3 q4 (v := .int 0) q5 rfl rfl hd1 hkk
theorem T_strL {i : Nat} (hd : DI M pc .arraylength 1 pc') (hi : i < 27) (hs : sLen i < 10000) (k : T d u M pc' lo (vI (sLen i) :: st) h Q) : T d u M pc lo (vR (33 + i) :: st) h Q := by
  intro p' l e R s m args below meth c' g H locs ls C hR hL hst hlc
  obtain ⟨hd1, rfl⟩ := hd
  have hkk := k p' l e R s m args below meth c' g H locs ls C hR hL (okc (show R32 _ by unfold R32; omega) (okt hst)) hlc
  obtain ⟨cell, q1, q2, q3, q4, q5, q6, q7⟩ := (C.2.2.2.2.2.2.2.2.1.2.2.1 i hi).2.2.2.2
  rw [← old_at hR q7] at q1
  refine W.eq (g2 := F0 m pc ls (.ref (ad g (33 + i)) :: st.map (rv g))) (by rw [List.map_cons, rv_ref (by omega)]) ?_
  exact W.alen (n := Int32.ofInt (sLen i)) C.1 C.2.1 q1 q2 (by rw [q5]; rfl) rfl rfl hd1 hkk
theorem T_strB {i : Nat} {j : Int} (hd : DI M pc .baload 1 pc') (hi : i < 27) (h0 : 0 ≤ j) (h1 : j < sLen i) (hok : R32 (sChr i j.toNat)) (k : T d u M pc' lo (vI (sChr i j.toNat) :: st) h Q) : T d u M pc lo (vI j :: vR (33 + i) :: st) h Q := by
  intro p' l e R s m args below meth c' g H locs ls C hR hL hs hlc
  obtain ⟨hd1, rfl⟩ := hd
  have hj : R32 j := okh hs
  have hkk := k p' l e R s m args below meth c' g H locs ls C hR hL (okc hok (okt (okt hs))) hlc
  obtain ⟨cell, q1, q2, q3, q4, q5, q6, q7⟩ := (C.2.2.2.2.2.2.2.2.1.2.2.1 i hi).2.2.2.2
  rw [← old_at hR q7] at q1
  refine W.eq (g2 := F0 m pc ls (.int (Int32.ofInt j) :: .ref (ad g (33 + i)) :: st.map (rv g))) (by rw [List.map_cons, List.map_cons, rv_ref (by omega)]; rfl) ?_
  exact W.bald C.1 C.2.1 q1 q2 q3 (by
    rw [ix_nat hj]
    rintro (z | z)
    · exact ix_neg hj h0 z
    · omega) (by rw [ix_nat hj]; exact q6 _ (by omega)) rfl rfl hd1 hkk
theorem T_cstr {idx : Nat} (hd : DI M pc (.getstatic idx) 3 pc') (hw : Cond.fieldLink M.1.cls idx "java/lang/String" "COMPACT_STRINGS" "Z" ∈ gT) (k : T d u M pc' lo (vI 1 :: st) h Q) : T d u M pc lo st h Q := by
  intro p' l e R s m args below meth c' g H locs ls C hR hL hs hlc
  obtain ⟨hd1, rfl⟩ := hd
  have hkk := k p' l e R s m args below meth c' g H locs ls C hR hL (okc (show R32 1 by unfold R32; omega) hs) hlc
  obtain ⟨cf, kf, fi, f, a, cell, h1, h2, h3, h4, h5, h6, h7, h8⟩ := C.2.2.2.2.2.2.2.2.1.2.2.2.1
  rw [← old_at hR h8] at h5
  exact W.gets C.1 C.2.1 C.2.2.2.2.1 (C.2.2.2.2.2.1 _ hw) h1 h2 h3 h4 h5 (fun e => by rw [e] at h6; cases h6) (v := .int 1) h7 rfl hd1 hkk
theorem T_sioo {idx : Nat} (hd : DI M pc (.getstatic idx) 3 pc') (hw : Cond.fieldLink M.1.cls idx "jdk/internal/util/Preconditions" "SIOOBE_FORMATTER" "Ljava/util/function/BiFunction;" ∈ gT) (k : ∀ a, T d u M pc' lo (vR a :: st) h Q) : T d u M pc lo st h Q := by
  intro p' l e R s m args below meth c' g H locs ls C hR hL hs hlc
  obtain ⟨hd1, rfl⟩ := hd
  obtain ⟨a0, -, cf, kf, fi, f, a, cell, h1, h2, h3, h4, h5, h6, h7, h8⟩ := C.2.2.2.2.2.2.2.2.1.2.2.2.2.2.2.1
  have hkk := k a0 p' l e R s m args below meth c' g H locs ls C hR hL (okc trivial hs) hlc
  rw [← old_at hR h8] at h5
  exact W.gets C.1 C.2.1 C.2.2.2.2.1 (C.2.2.2.2.2.1 _ hw) h1 h2 h3 h4 h5 (fun e => by rw [e] at h6; cases h6) h7 rfl hd1 hkk
theorem T_pop {v : PV} (hd : DI M pc .pop 1 pc') (hc : cat2 v = false) (k : T d u M pc' lo st h Q) : T d u M pc lo (v :: st) h Q := by
  intro p l e R s m args below meth c g H locs ls C hR hL hs hlc
  obtain ⟨hd1, rfl⟩ := hd
  exact lv_pop C.1 C.2.1 hd1 (by rw [rv_cat, hc]; rfl) (k p l e R s m args below meth c g H locs ls C hR hL (okt hs) hlc)
theorem T_slen (hd : DI M pc .arraylength 1 pc') (hc : cl h 62 = 30) (k : ln h 62 ≤ 3072 → T d u M pc' lo (vI (ln h 62) :: st) h Q) : T d u M pc lo (vR 62 :: st) h Q := by
  intro p' l e R s m args below meth c' g H locs ls C hR hL hst hlc
  obtain ⟨hd1, rfl⟩ := hd
  obtain ⟨z1, z2, scr, z3, z4, z5, z6⟩ := hR.2.2.2.2.2.2.2.2.2.2 hc
  have hkk := k z1 p' l e R s m args below meth c' g H locs ls C hR hL (okc (show R32 _ by unfold R32; omega) (okt hst)) hlc
  have hao := C.2.2.2.2.2.2.2.2.1.2.2.2.2.2.2.2 scr z3
  rw [← hR.2.2.2.2.2.1 _ z2] at z3
  refine W.eq (g2 := F0 m pc ls (.ref (ad g 62) :: st.map (rv g))) (by rw [List.map_cons, rv_ref (by omega)]) ?_
  exact W.alen (n := Int32.ofInt (ln h 62)) C.1 C.2.1 z3 hao (by rw [z5]; rfl) rfl rfl hd1 hkk
theorem T_sld {j : Int} (hd : DI M pc .iaload 1 pc') (hc : cl h 62 = 30) (h0 : 0 ≤ j) (h1 : j < ln h 62) (k : T d u M pc' lo (vI (gi h 62 j.toNat) :: st) h Q) : T d u M pc lo (vI j :: vR 62 :: st) h Q := by
  intro p' l e R s m args below meth c' g H locs ls C hR hL hs hlc
  obtain ⟨hd1, rfl⟩ := hd
  obtain ⟨z1, z2, scr, z3, z4, z5, z6⟩ := hR.2.2.2.2.2.2.2.2.2.2 hc
  have hj : R32 j := okh hs
  have hkk := k p' l e R s m args below meth c' g H locs ls C hR hL (okc (hR.2.2.2.1 _ _) (okt (okt hs))) hlc
  have hao := C.2.2.2.2.2.2.2.2.1.2.2.2.2.2.2.2 scr z3
  rw [← hR.2.2.2.2.2.1 _ z2] at z3
  refine W.eq (g2 := F0 m pc ls (.int (Int32.ofInt j) :: .ref (ad g 62) :: st.map (rv g))) (by rw [List.map_cons, List.map_cons, rv_ref (by omega)]; rfl) ?_
  exact W.iald C.1 C.2.1 z3 hao z4 (by
    rw [ix_nat hj]
    rintro (z | z)
    · exact ix_neg hj h0 z
    · omega) (by rw [ix_nat hj]; exact z6 _ (by omega)) rfl rfl hd1 hkk
theorem T_vIs {idx n i : Nat} {N : MD} {as : List PV} (hd : DI M pc (.invokevirtual idx) 3 pc') (hl : Cond.methodLink M.1.cls idx N.1 ∈ gT) (hN : MOK N n) (hI : IOK N) (hi : i < 27) (hrc : N.1.cls = "java/lang/String") (hn : as.length = n) (hw : wst st ≤ 8) (hs : stk = as.reverse ++ vR (1 + i) :: st)
    (hc : Call d N (vR (1 + i) :: as) h (onI fun x h1 => T (d + 1) u M pc' lo (vI x :: st) h1 Q)) : T (d + 1) u M pc lo stk h Q := by
  subst hs
  intro p' l e R s m args below meth c' g H locs ls C hR hL hs hlc
  obtain ⟨hd1, rfl⟩ := hd
  obtain ⟨hx, hcb, hret, hml, hown, hts, hlk, hnm, hK, ⟨f1, f2, f3, f4⟩, ⟨f5, f6⟩, hold, hbs⟩ := id C
  have hoa : ∀ v ∈ vR (1 + i) :: as, okv v := by
    intro v hv
    rcases List.mem_cons.mp hv with rfl | hv
    · trivial
    · exact hs v (List.mem_append_left _ (List.mem_reverse.mpr hv))
  have hos : ∀ v ∈ st, okv v := fun v hv => hs v (List.mem_append_right _ (List.mem_cons_of_mem _ hv))
  obtain ⟨cell, q1, q2, q3, q4⟩ := (hK.2.2.1 i hi).2.1
  have hrecv : ∃ cellB : Cell, H[ad g (1 + i)]? = some cellB ∧ cellB.vm.isStatics = false ∧ s.vm.findClass N.1.cls = some cellB.cls := ⟨cell, by rw [old_at hR q4]; exact q1, q2, by rw [hrc]; exact q3⟩
  have hM := hc l g hoa
  rw [List.map_cons, rv_ref (by omega)] at hM
  have cb : CallB R s args M.1.cls idx N.1 N.2.1 N.2.2.1 N.2.2.2 (wsA N) (rmd d 0 0) 0 0 n := callB_of n hts (gT_good hN) rfl rfl rfl (hts _ hN.2.1) (hts _ hl) ⟨hN.2.2.1.1, hN.2.2.1.2, hN.2.2.2.1⟩ ⟨f1, by have := hN.2.2.2.2; show 8 + (N.2.2.1 + 11) + 64 * d ≤ R.locals; omega⟩
  refine run_fin (g := g) (mc := 0) (ms := 0) (rest := st.map (rv g)) (va_runV (As := as.map (rv g)) (b := ad g (1 + i)) (C := N.1.cls) ⟨hx, hcb, hml, hown, hts⟩ hM ⟨cb, hts _ hI.1, hts _ hI.2⟩ ⟨fun a U g' mk q => ⟨q.1, q.2.1, q.2.2.1.same rfl, q.2.2.2⟩, hrecv, fun U hU hW => ⟨rfl, by rw [hU]; exact hR, hK.warm hW, hbs⟩⟩ rfl (by rw [List.length_map, hn]) hL.1.1 (by rw [List.map_append, List.map_reverse, List.map_cons, rv_ref (by omega)]) (lv_room (by rw [wst_eq]; exact hw)) hd1 ⟨by omega, by omega⟩) hlc ?_
  intro r1 h1 H1 locs1 ho hq hR1 hl1
  match r1, ho, hq with
  | some (.inl x), ho, hq => exact hq (ho _ rfl) p' l e R s m args below meth c' g H1 locs1 ls C hR1 hL (okc (ho _ rfl) hos) hl1
end
