/-! LIBRARY LINKS -/
theorem sLen_lt (i : Nat) : sLen i < 10000 := by
  unfold sLen
  rw [List.getD_eq_getElem?_getD]
  cases hq : sByt[i]? with
  | none => simp
  | some v =>
    have := List.all_eq_true.mp (show sByt.all (fun v => decide (v.length < 10000)) = true by decide +kernel) v (List.mem_of_getElem? hq)
    simpa using this
theorem sChr_ok (i j : Nat) : R32 (sChr i j) := by
  unfold sChr
  rw [List.getD_eq_getElem?_getD, List.getD_eq_getElem?_getD]
  cases hq : sByt[i]? with
  | none => simp [R32]
  | some v =>
    have h1 := List.all_eq_true.mp (show sByt.all (fun v => v.all (fun c => decide (0 ≤ c) && decide (c < 128))) = true by decide +kernel) v (List.mem_of_getElem? hq)
    show R32 ((v[j]?).getD 0)
    cases hj : v[j]? with
    | none => simp [R32]
    | some c =>
      have h2 := List.all_eq_true.mp h1 c (List.mem_of_getElem? hj)
      simp only [Bool.and_eq_true, decide_eq_true_eq] at h2
      show R32 c
      unfold R32; omega
theorem ncX11_260 : Cond.constantDouble RX11 260 4611686018427387904 ∈ gT := gT_at 1628 (by decide +kernel) (by decide +kernel)
theorem sfJ0_9 : Cond.fieldLink RJ0 9 "java/lang/String" "value" "[B" ∈ gT := (inT9 (List.mem_of_getElem? (i := 54) rfl) rfl)
theorem sfJ0_15 : Cond.fieldLink RJ0 15 "java/lang/String" "coder" "B" ∈ gT := (inT9 (List.mem_of_getElem? (i := 53) rfl) rfl)
theorem sfJ0_38 : Cond.fieldLink RJ0 38 "java/lang/String" "COMPACT_STRINGS" "Z" ∈ gT := (inT3 (List.mem_of_getElem? (i := 53) rfl) rfl)
theorem sfJ0_1053 : Cond.fieldLink RJ0 1053 "jdk/internal/util/Preconditions" "SIOOBE_FORMATTER" "Ljava/util/function/BiFunction;" ∈ gT := (inT3 (List.mem_of_getElem? (i := 96) rfl) rfl)
theorem Call.ofF {d mc ms : Nat} {M : MD} {as : List PV} {h : PH} {Q : Option PV → PH → Prop} {lo : List (Option PV)} (hy : plainFor M.1 = true) (hn : (entA as).length ≤ M.2.2.1) (hl : entL as M.2.2.1 = lo) (k : (∀ v ∈ as, okv v) → T d (mc, ms, 0, 0) M 0 lo [] h Q) : CallA d mc ms M as h Q := by
  intro l g ho
  refine MetFree.of_bodySF (code := M.2.1) (maxLocals := M.2.2.1) (ret := M.2.2.2) hy ?_ ?_
  · intro args s m h hn
    obtain ⟨meth, c, h1, h2, h3, h4, h5, h6, -, -⟩ := Cond.code_spec hn (atoms_spec (ws := wsA M) h _ List.mem_cons_self)
    exact ⟨meth, c, h1, h2, h3, h4, h5, h6⟩
  · intro p e s m args below meth c s₁ B hml hP _
    have hh0 : s₁.heap = s.heap := by rw [B.state]; rfl
    have key : W p l e (headSpec (wsA M) (rmd d mc ms)).room s m args below meth c s.heap [] 0 0 (MQ below (QQ g Q) args s mc ms (own0 g)) (entryFrame m args M.2.2.1) := by
      obtain ⟨rfl, hR, hK, hbs⟩ := hP
      have hts := atoms_spec (ws := wsA M) B.pre
      have hown : s.vm.findClass M.1.cls = some m.cls := findClass_of_methodNamed B.named
      rw [lg_entry_eq]
      subst hl
      exact k ho p l e _ s m _ below meth c g s.heap [] _ ⟨B.exec, B.bytes, B.returns, hml, hown, fun w hw => hts w (List.mem_cons_of_mem _ hw), B.notSynchronized, (name_of_methodNamed B.named B.method).1, hK, ⟨Nat.le_refl _, Nat.le_refl _, Nat.le_refl _, Nat.le_refl _⟩, ⟨Nat.zero_le _, Nat.zero_le _⟩, hR.2.2.2.2.2.1, hbs⟩ hR (Lr.entry g hn ho) (fun v hv => by cases hv) (fun q hq => by cases hq)
    obtain ⟨t, a1, o, b1, b2, b3⟩ := key s₁ hh0 (Stand.of_body B)
    exact ⟨t, o, a1, b1, b2, ⟨b3.1, b3.2⟩⟩
theorem C2.ofF {d : Nat} {M : MD} {as : List PV} {h : PH} {Q : Option PV → PH → Prop} {lo : List (Option PV)} (hy : plainFor M.1 = true) (hn : (entA as).length ≤ M.2.2.1) (hl : entL as M.2.2.1 = lo) (k : (∀ v ∈ as, okv v) → T2 d M 0 lo [] h Q) : C2 d M as h Q := fun hs => Call.ofF hy hn hl (fun ho => k ho hs)
theorem pfJ9_floorMod_7cf53 : plainFor mJ9_floorMod_7cf53.1 = true := by decide +kernel
theorem pfJ9_max_7cf53 : plainFor mJ9_max_7cf53.1 = true := by decide +kernel
theorem pfJ9_max_f86c9 : plainFor mJ9_max_f86c9.1 = true := by decide +kernel
theorem pfJ9_min_7cf53 : plainFor mJ9_min_7cf53.1 = true := by decide +kernel
theorem pfJ9_min_f86c9 : plainFor mJ9_min_f86c9.1 = true := by decide +kernel
theorem pnX10 : plainName RX10 = true := by decide
theorem pnX0 : plainName RX0 = true := by decide
theorem pnX1 : plainName RX1 = true := by decide
theorem pnX2 : plainName RX2 = true := by decide
theorem pnX3 : plainName RX3 = true := by decide
theorem pnX4 : plainName RX4 = true := by decide
theorem pnX5 : plainName RX5 = true := by decide
theorem pnX6 : plainName RX6 = true := by decide
theorem pnX7 : plainName RX7 = true := by decide
theorem pnX8 : plainName RX8 = true := by decide
theorem pnX9 : plainName RX9 = true := by decide
theorem pnX11 : plainName RX11 = true := by decide
theorem pnJ6 : plainName RJ6 = true := by decide
theorem pnJ0 : plainName RJ0 = true := by decide
theorem pnJ1 : plainName RJ1 = true := by decide
theorem pnJ7 : plainName RJ7 = true := by decide
theorem pnJ3 : plainName RJ3 = true := by decide
