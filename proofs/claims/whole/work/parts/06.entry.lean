/-! ENTRY AND ENDS -/
def entA (as : List PV) : List (Option PV) := match as with
  | [] => []
  | v :: l => match cat2 v with
    | true => some v :: none :: entA l
    | false => some v :: entA l
def entL (as : List PV) (n : Nat) : List (Option PV) := entA as ++ List.replicate (n - (entA as).length) none
theorem entA_len (g : Gx) : ∀ as : List PV, (entA as).length = (lg_sl (as.map (rv g))).length := by
  intro as
  induction as with
  | nil => rfl
  | cons v l ih =>
    have hc := rv_cat g v
    simp only [entA, List.map_cons, lg_sl, List.flatMap_cons, List.length_append] at ih ⊢
    cases h : cat2 v with
    | true => rw [h] at hc; simp at hc; simp [hc, ih]; omega
    | false => rw [h] at hc; simp at hc; simp [hc, ih]; omega
theorem entA_at (g : Gx) : ∀ (as : List PV) (j i : Nat) (v : PV), (entA as)[i]? = some (some v) → (j + i, rv g v) ∈ lv_args j (as.map (rv g)) ∧ v ∈ as := by
  intro as
  induction as with
  | nil => intro j i v h; simp [entA] at h
  | cons w l ih =>
    intro j i v h
    have hc := rv_cat g w
    simp only [entA] at h
    cases hw : cat2 w with
    | true =>
      rw [hw] at hc h
      simp only at h
      match i, h with
      | 0, h =>
        simp at h; subst h
        exact ⟨by simp [lv_args], by simp⟩
      | 1, h => simp at h
      | i + 2, h =>
        simp only [List.getElem?_cons_succ] at h
        obtain ⟨h1, h2⟩ := ih (j + 2) i v h
        refine ⟨?_, List.mem_cons_of_mem _ h2⟩
        rw [List.map_cons, lv_args, if_pos (by rw [hc]; rfl)]
        refine List.mem_cons_of_mem _ ?_
        rw [show j + (i + 2) = j + 2 + i by omega]
        exact h1
    | false =>
      rw [hw] at hc h
      simp only at h
      match i, h with
      | 0, h =>
        simp at h; subst h
        exact ⟨by simp [lv_args], by simp⟩
      | i + 1, h =>
        simp only [List.getElem?_cons_succ] at h
        obtain ⟨h1, h2⟩ := ih (j + 1) i v h
        refine ⟨?_, List.mem_cons_of_mem _ h2⟩
        rw [List.map_cons, lv_args, if_neg (by rw [hc]; decide)]
        refine List.mem_cons_of_mem _ ?_
        rw [show j + (i + 1) = j + 1 + i by omega]
        exact h1
theorem entL_at (g : Gx) {as : List PV} {n i : Nat} {v : PV} (h : (entL as n)[i]? = some (some v)) : (i, rv g v) ∈ lv_args 0 (as.map (rv g)) ∧ v ∈ as := by
  unfold entL at h
  rw [List.getElem?_append] at h
  split at h
  · have := entA_at g as 0 i v h
    rwa [Nat.zero_add] at this
  · rw [List.getElem?_replicate] at h
    split at h <;> cases h
theorem Lr.entry (g : Gx) {as : List PV} {n : Nat} (hn : (entA as).length ≤ n) (ho : ∀ v ∈ as, okv v) : Lr g n (entL as n) ((lg_sl (as.map (rv g)) ++ List.replicate (n - (lg_sl (as.map (rv g))).length) Slot.unset).toArray) := by
  have h := lv_entry (as.map (rv g)) (n := n) (by rw [← entA_len]; exact hn)
  refine ⟨⟨h.1, h.2.1, fun q hq => h.2.2 q ?_⟩, fun i v hi => ho v (entL_at g hi).2, ?_⟩
  · obtain ⟨v, h1, h2⟩ := lst_mem hq
    have := (entL_at g h1).1
    rw [← h2] at this
    exact this
  · unfold entL; rw [List.length_append, List.length_replicate]; omega
theorem Call.of {d mc ms : Nat} {M : MD} {as : List PV} {h : PH} {Q : Option PV → PH → Prop} {lo : List (Option PV)} (hy : plainName M.1.cls = true) (hn : (entA as).length ≤ M.2.2.1) (hl : entL as M.2.2.1 = lo) (k : (∀ v ∈ as, okv v) → T d (mc, ms, 0, 0) M 0 lo [] h Q) : CallA d mc ms M as h Q := by
  intro l g ho
  refine Met.ofW (cc := M.2.1) (maxL := M.2.2.1) (ret := M.2.2.2) (ws' := gT) hy rfl ?_
  intro p e s m args below meth c s₁ B hml hv
  obtain ⟨rfl, hR, hK, hbs⟩ := hv
  have hts := atoms_spec (ws := wsA M) B.pre
  have hown : s.vm.findClass M.1.cls = some m.cls := findClass_of_methodNamed B.named
  rw [lg_entry_eq]
  subst hl
  exact k ho p l e _ s m _ below meth c g s.heap [] _ ⟨B.exec, B.bytes, B.returns, hml, hown, fun w hw => hts w (List.mem_cons_of_mem _ hw), B.notSynchronized, (name_of_methodNamed B.named B.method).1, hK, ⟨Nat.le_refl _, Nat.le_refl _, Nat.le_refl _, Nat.le_refl _⟩, ⟨Nat.zero_le _, Nat.zero_le _⟩, hR.2.2.2.2.2.1, hbs⟩ hR (Lr.entry g hn ho) (fun v hv => by cases hv) (fun q hq => by cases hq)
section
variable {d : Nat} {u : Bu} {M : MD} {pc pc' : Nat} {lo : List (Option PV)} {h : PH} {Q : Option PV → PH → Prop}
theorem T_ret (hd : DI M pc .return_ 1 pc') (hr : M.2.2.2 = none) (hq : Q none h) : T d u M pc lo [] h Q := by
  intro p l e R s m args below meth c g H locs ls C hR hL hs hlc
  refine W.widen (k := u.1) (n := u.2.1) C.2.2.2.2.2.2.2.2.2.2.1.1 C.2.2.2.2.2.2.2.2.2.2.1.2 ?_
  exact W.vret C.1 C.2.1 (by rw [C.2.2.1, hr]) (fun t ht hW => ⟨none, h, rfl, fun v hv => (by cases hv), hq, (by rw [ht]; exact hR), C.2.2.2.2.2.2.2.2.1.warm hW⟩) hlc hd.1 C.2.2.2.2.2.2.1
theorem T_iret {x : Int} (hd : DI M pc .ireturn 1 pc') (hr : M.2.2.2 = some .int) (hq : Q (some (vI x)) h) : T d u M pc lo [vI x] h Q := by
  intro p l e R s m args below meth c g H locs ls C hR hL hs hlc
  refine W.widen (k := u.1) (n := u.2.1) C.2.2.2.2.2.2.2.2.2.2.1.1 C.2.2.2.2.2.2.2.2.2.2.1.2 ?_
  exact W.iret C.1 C.2.1 (by rw [C.2.2.1, hr]) (fun t ht hW => ⟨some (vI x), h, rfl, fun v hv => (by cases hv; exact hs _ (by simp)), hq, (by rw [ht]; exact hR), C.2.2.2.2.2.2.2.2.1.warm hW⟩) hlc hd.1 C.2.2.2.2.2.2.1
theorem T_zretG {x : Int} {ty : FieldType} (hd : DI M pc .ireturn 1 pc') (hr : M.2.2.2 = some ty) (hn : narrow ty (.int (Int32.ofInt x)) = .int (Int32.ofInt x)) (hq : Q (some (vI x)) h) : T d u M pc lo [vI x] h Q := by
  intro p l e R s m args below meth c g H locs ls C hR hL hs hlc
  refine W.widen (k := u.1) (n := u.2.1) C.2.2.2.2.2.2.2.2.2.2.1.1 C.2.2.2.2.2.2.2.2.2.2.1.2 ?_
  exact W.zret C.1 C.2.1 (by rw [C.2.2.1, hr]) hn (fun t ht hW => ⟨some (vI x), h, rfl, fun v hv => (by cases hv; exact hs _ (by simp)), hq, (by rw [ht]; exact hR), C.2.2.2.2.2.2.2.2.1.warm hW⟩) hlc hd.1 C.2.2.2.2.2.2.1
theorem T_zret {x : Int} (hd : DI M pc .ireturn 1 pc') (hr : M.2.2.2 = some .boolean) (hx : x = 0 ∨ x = 1) (hq : Q (some (vI x)) h) : T d u M pc lo [vI x] h Q :=
  T_zretG hd hr (by rcases hx with rfl | rfl <;> decide) hq
theorem T_lret {x : Int} (hd : DI M pc .lreturn 1 pc') (hr : M.2.2.2 = some .long) (hq : Q (some (vJ x)) h) : T d u M pc lo [vJ x] h Q := by
  intro p l e R s m args below meth c g H locs ls C hR hL hs hlc
  refine W.widen (k := u.1) (n := u.2.1) C.2.2.2.2.2.2.2.2.2.2.1.1 C.2.2.2.2.2.2.2.2.2.2.1.2 ?_
  exact W.lret C.1 C.2.1 (by rw [C.2.2.1, hr]) (fun t ht hW => ⟨some (vJ x), h, rfl, fun v hv => (by cases hv; exact hs _ (by simp)), hq, (by rw [ht]; exact hR), C.2.2.2.2.2.2.2.2.1.warm hW⟩) hlc hd.1 C.2.2.2.2.2.2.1
theorem T_fret {x : UInt32} (hd : DI M pc .freturn 1 pc') (hr : M.2.2.2 = some .float) (hq : Q (some (vF x)) h) : T d u M pc lo [vF x] h Q := by
  intro p l e R s m args below meth c g H locs ls C hR hL hs hlc
  refine W.widen (k := u.1) (n := u.2.1) C.2.2.2.2.2.2.2.2.2.2.1.1 C.2.2.2.2.2.2.2.2.2.2.1.2 ?_
  exact W.fret C.1 C.2.1 (by rw [C.2.2.1, hr]) (fun t ht hW => ⟨some (vF x), h, rfl, fun v hv => (by cases hv; exact hs _ (by simp)), hq, (by rw [ht]; exact hR), C.2.2.2.2.2.2.2.2.1.warm hW⟩) hlc hd.1 C.2.2.2.2.2.2.1
theorem rfo_or (g : Gx) (a : Nat) : va_rf (rfo g a) = .null ∨ ∃ b, va_rf (rfo g a) = .ref b := by
  cases rfo g a with
  | none => exact Or.inl rfl
  | some b => exact Or.inr ⟨b, rfl⟩
theorem T_aret {a : Nat} {rt : FieldType} (hd : DI M pc .areturn 1 pc') (hr : M.2.2.2 = some rt) (hrt : (∃ n, rt = .object n) ∨ ∃ t, rt = .array t) (hq : Q (some (vR a)) h) : T d u M pc lo [vR a] h Q := by
  intro p l e R s m args below meth c g H locs ls C hR hL hs hlc
  refine W.widen (k := u.1) (n := u.2.1) C.2.2.2.2.2.2.2.2.2.2.1.1 C.2.2.2.2.2.2.2.2.2.2.1.2 ?_
  exact W.aret C.1 C.2.1 (by rw [C.2.2.1, hr]) hrt (rfo_or g a) (fun t ht hW => ⟨some (vR a), h, rfl, fun v hv => (by cases hv; trivial), hq, (by rw [ht]; exact hR), C.2.2.2.2.2.2.2.2.1.warm hW⟩) hlc hd.1 C.2.2.2.2.2.2.1
end
