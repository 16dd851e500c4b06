/-! CALLS BY THEIR ANSWERS; NEW CELLS -/
section
variable {d : Nat} {u : Bu} {M : MD} {pc pc' : Nat} {lo : List (Option PV)} {st stk : List PV} {h : PH} {Q : Option PV → PH → Prop}
theorem bu0 (h : u.2.2.1 ≤ u.1 ∧ u.2.2.2 ≤ u.2.1) : u.2.2.1 + 0 ≤ u.1 ∧ u.2.2.2 + 0 ≤ u.2.1 := h
theorem T_bu (k : (u.2.2.1 ≤ u.1 ∧ u.2.2.2 ≤ u.2.1) → T d u M pc lo st h Q) : T d u M pc lo st h Q := by
  intro p' l e R s m args below meth c' g H locs ls C
  exact k C.2.2.2.2.2.2.2.2.2.2.1 p' l e R s m args below meth c' g H locs ls C
theorem T_vI {idx n b c : Nat} {N : MD} {as : List PV} {r : vw_C} (hd : DI M pc (.invokevirtual idx) 3 pc') (hl : Cond.methodLink M.1.cls idx N.1 ∈ gT) (hN : MOK N n) (hI : IOK N) (hb : cl h b = c + 1) (hr : vwCl[c]? = some r) (hrc : N.1.cls = r.1) (hn : as.length = n) (hw : wst st ≤ 8) (hs : stk = as.reverse ++ vR b :: st)
    (hc : Call d N (vR b :: as) h (onI fun x h1 => T (d + 1) u M pc' lo (vI x :: st) h1 Q)) : T (d + 1) u M pc lo stk h Q :=
  T_bu fun hbu => T_callV hd hl hN hI hb hr hrc hn hw hbu hs hc (fun r h1 ho hq => match r, ho, hq with
    | some (.inl x), ho, hq => hq (ho _ rfl))
theorem T_vJ {idx n b c : Nat} {N : MD} {as : List PV} {r : vw_C} (hd : DI M pc (.invokevirtual idx) 3 pc') (hl : Cond.methodLink M.1.cls idx N.1 ∈ gT) (hN : MOK N n) (hI : IOK N) (hb : cl h b = c + 1) (hr : vwCl[c]? = some r) (hrc : N.1.cls = r.1) (hn : as.length = n) (hw : wst st ≤ 8) (hs : stk = as.reverse ++ vR b :: st)
    (hc : Call d N (vR b :: as) h (onJ fun x h1 => T (d + 1) u M pc' lo (vJ x :: st) h1 Q)) : T (d + 1) u M pc lo stk h Q :=
  T_bu fun hbu => T_callV hd hl hN hI hb hr hrc hn hw hbu hs hc (fun r h1 ho hq => match r, ho, hq with
    | some (.inr (.inl x)), ho, hq => hq (ho _ rfl))
theorem T_vR {idx n b c : Nat} {N : MD} {as : List PV} {r : vw_C} (hd : DI M pc (.invokevirtual idx) 3 pc') (hl : Cond.methodLink M.1.cls idx N.1 ∈ gT) (hN : MOK N n) (hI : IOK N) (hb : cl h b = c + 1) (hr : vwCl[c]? = some r) (hrc : N.1.cls = r.1) (hn : as.length = n) (hw : wst st ≤ 8) (hs : stk = as.reverse ++ vR b :: st)
    (hc : Call d N (vR b :: as) h (onR fun x h1 => T (d + 1) u M pc' lo (vR x :: st) h1 Q)) : T (d + 1) u M pc lo stk h Q :=
  T_bu fun hbu => T_callV hd hl hN hI hb hr hrc hn hw hbu hs hc (fun r h1 ho hq => match r, ho, hq with
    | some (.inr (.inr (.inl x))), _, hq => hq)
theorem T_vV {idx n b c : Nat} {N : MD} {as : List PV} {r : vw_C} (hd : DI M pc (.invokevirtual idx) 3 pc') (hl : Cond.methodLink M.1.cls idx N.1 ∈ gT) (hN : MOK N n) (hI : IOK N) (hb : cl h b = c + 1) (hr : vwCl[c]? = some r) (hrc : N.1.cls = r.1) (hn : as.length = n) (hw : wst st ≤ 8) (hs : stk = as.reverse ++ vR b :: st)
    (hc : Call d N (vR b :: as) h (onV fun h1 => T (d + 1) u M pc' lo st h1 Q)) : T (d + 1) u M pc lo stk h Q :=
  T_bu fun hbu => T_callV hd hl hN hI hb hr hrc hn hw hbu hs hc (fun r h1 _ hq => by obtain ⟨rfl, hq⟩ := hq; exact hq)
theorem T_sI {idx n : Nat} {N : MD} {as : List PV} (hd : DI M pc (.invokestatic idx) 3 pc') (hl : Cond.methodLink M.1.cls idx N.1 ∈ gT) (hN : MOK N n) (hI : Cond.static N.1 ∈ gT) (hn : as.length = n) (hw : wst st ≤ 8) (hs : stk = as.reverse ++ st)
    (hc : Call d N as h (onI fun x h1 => T (d + 1) u M pc' lo (vI x :: st) h1 Q)) : T (d + 1) u M pc lo stk h Q :=
  T_bu fun hbu => T_callS hd hl hN hI hn hw hbu hs hc (fun r h1 ho hq => match r, ho, hq with
    | some (.inl x), ho, hq => hq (ho _ rfl))
theorem T_sJ {idx n : Nat} {N : MD} {as : List PV} (hd : DI M pc (.invokestatic idx) 3 pc') (hl : Cond.methodLink M.1.cls idx N.1 ∈ gT) (hN : MOK N n) (hI : Cond.static N.1 ∈ gT) (hn : as.length = n) (hw : wst st ≤ 8) (hs : stk = as.reverse ++ st)
    (hc : Call d N as h (onJ fun x h1 => T (d + 1) u M pc' lo (vJ x :: st) h1 Q)) : T (d + 1) u M pc lo stk h Q :=
  T_bu fun hbu => T_callS hd hl hN hI hn hw hbu hs hc (fun r h1 ho hq => match r, ho, hq with
    | some (.inr (.inl x)), ho, hq => hq (ho _ rfl))
theorem T_sF {idx n : Nat} {N : MD} {as : List PV} (hd : DI M pc (.invokestatic idx) 3 pc') (hl : Cond.methodLink M.1.cls idx N.1 ∈ gT) (hN : MOK N n) (hI : Cond.static N.1 ∈ gT) (hn : as.length = n) (hw : wst st ≤ 8) (hs : stk = as.reverse ++ st)
    (hc : Call d N as h (onF fun x h1 => T (d + 1) u M pc' lo (vF x :: st) h1 Q)) : T (d + 1) u M pc lo stk h Q :=
  T_bu fun hbu => T_callS hd hl hN hI hn hw hbu hs hc (fun r h1 ho hq => match r, ho, hq with
    | some (.inr (.inr (.inr (.inl x)))), _, hq => hq)
theorem T_sV {idx n : Nat} {N : MD} {as : List PV} (hd : DI M pc (.invokestatic idx) 3 pc') (hl : Cond.methodLink M.1.cls idx N.1 ∈ gT) (hN : MOK N n) (hI : Cond.static N.1 ∈ gT) (hn : as.length = n) (hw : wst st ≤ 8) (hs : stk = as.reverse ++ st)
    (hc : Call d N as h (onV fun h1 => T (d + 1) u M pc' lo st h1 Q)) : T (d + 1) u M pc lo stk h Q :=
  T_bu fun hbu => T_callS hd hl hN hI hn hw hbu hs hc (fun r h1 _ hq => by obtain ⟨rfl, hq⟩ := hq; exact hq)
theorem T_iV {idx n b : Nat} {N : MD} {as : List PV} {mc ms m0 s0 c0 t0 : Nat} (hd : DI M pc (.invokespecial idx) 3 pc') (hl : Cond.methodLink M.1.cls idx N.1 ∈ gT ∨ Cond.methodLinkNest M.1.cls idx N.1 RX10 ∈ nestL) (hN : MOK N n) (hret0 : N.2.2.2 = none) (hI : Cond.instanceMethod N.1 ∈ gT) (hnmi : N.1.name = "<init>") (hb : 64 ≤ b) (hn : as.length = n) (hw : wst st ≤ 8) (hbu : c0 + mc ≤ m0 ∧ t0 + ms ≤ s0) (hs : stk = as.reverse ++ vR b :: st)
    (hc : CallA d mc ms N (vR b :: as) h (onV fun h1 => T (d + 1) (m0, s0, c0 + mc, t0 + ms) M pc' lo st h1 Q)) : T (d + 1) (m0, s0, c0, t0) M pc lo stk h Q :=
  T_callI (u := (m0, s0, c0, t0)) hd hl hN hret0 hI hnmi hb hn hw hbu hs hc (fun r h1 _ hq => by obtain ⟨rfl, hq⟩ := hq; exact hq)
theorem T_objInit {idx b : Nat} (hd : DI M pc (.invokespecial idx) 3 pc') (hl : Cond.methodLink M.1.cls idx Lib.objectInit ∈ gT) (hI : Cond.instanceMethod Lib.objectInit ∈ gT) (hC : Cond.code Lib.objectInit ⟨#[0xb1]⟩ 1 none ∈ gT) (hb : 0 < b) (hw : wst st ≤ 8) (k : T (d + 1) u M pc' lo st h Q) : T (d + 1) u M pc lo (vR b :: st) h Q := by
  intro p' l e R s m args below meth c' g H locs ls C hR hL hs hlc
  obtain ⟨hd1, rfl⟩ := hd
  have hts := C.2.2.2.2.2.1
  refine W.eq (g2 := F0 m pc ls (.ref (ad g b) :: st.map (rv g))) (by rw [List.map_cons, rv_ref hb]) ?_
  refine W.objInit C.1 C.2.1 C.2.2.2.2.1 (hts _ hl) (hts _ hI) (hts _ hC) rfl (hL.1.1.trans C.2.2.2.1.symm) rfl hd1 (by have := C.2.2.2.2.2.2.2.2.2.1.1; omega) ?_ (k p' l e R s m args below meth c' g H locs ls C hR hL (okt hs) hlc)
  have h1 := lv_room (m := m) (pc := pc) (ls := ls) (rest := .ref (ad g b) :: st.map (rv g)) (st := st.map (rv g)) (by rw [wst_eq]; exact hw)
  have := C.2.2.2.2.2.2.2.2.2.1.2.1
  omega
theorem Rel.new {g : Gx} {H H' : Heap} {c n : Nat} (hR : Rel g h H) (e1 : H'.size = H.size + 1) (e2 : ∀ a, a < H.size → H'[a]? = H[a]?) (hc : c < 26) (hok : cok g (nw h c n) (nx h) H') : Rel g (nw h c n) H' := by
  obtain ⟨a1, a2, a3, a4, a5, a6, a7, a8, a9, a10, a11⟩ := hR
  have hcl : ∀ q, cl (nw h c n) q = if q = nx h then c else cl h q := fun q => rfl
  have hnx : nx (nw h c n) = nx h + 1 := rfl
  have hbs : bs g ≤ H.size := by rw [a1, ad_big a2]; omega
  refine ⟨by rw [e1, a1, hnx, ad_big a2, ad_big (by omega)]; omega, by rw [hnx]; omega, fun q hq1 hq2 => ?_, fun q k => ?_, fun q k => ?_, fun a ha => ?_, fun q => ?_, fun q => ?_, fun q => ?_, fun q => ?_, ?_⟩
  · by_cases e : q = nx h
    · subst e; exact hok
    · have hq3 : q < nx h := by omega
      have h1 : ∀ k, gi (nw h c n) q k = gi h q k := fun k => by show up1 (gi h) (nx h) (fun _ => 0) q k = _; unfold up1; rw [if_neg e]
      have h2 : ∀ k, gj (nw h c n) q k = gj h q k := fun k => by show up1 (gj h) (nx h) (fun _ => 0) q k = _; unfold up1; rw [if_neg e]
      have h3 : ∀ k, gr (nw h c n) q k = gr h q k := fun k => by show up1 (gr h) (nx h) (fun _ => 0) q k = _; unfold up1; rw [if_neg e]
      exact cok_keep (a3 q hq1 hq3) (e2 _ (by rw [a1, ad_big hq1, ad_big a2]; omega)) (by show (if q = nx h then n else ln h q) = _; rw [if_neg e]) (by rw [hcl, if_neg e]) h1 h2 h3
  · show R32 (up1 (gi h) (nx h) (fun _ => 0) q k)
    unfold up1
    split
    · exact R32_0
    · exact a4 q k
  · show R64 (up1 (gj h) (nx h) (fun _ => 0) q k)
    unfold up1
    split
    · exact R64_0
    · exact a5 q k
  · rw [e2 a (by omega)]; exact a6 a ha
  · rw [hcl, hnx]
    by_cases e : q = nx h
    · intro _ _; omega
    · rw [if_neg e]; intro z1 z2; have := a7 q z1 z2; omega
  · rw [hcl]
    by_cases e : q = nx h
    · rw [if_pos e]; omega
    · rw [if_neg e]; exact a8 q
  · rw [hcl]
    by_cases e : q = nx h
    · rw [if_pos e]; omega
    · rw [if_neg e]; exact a9 q
  · rw [hcl]
    by_cases e : q = nx h
    · rw [if_pos e]; omega
    · rw [if_neg e]; exact a10 q
  · have e : (62 : Nat) ≠ nx h := by omega
    exact a11.keep (by rw [hcl, if_neg e]) (by show (if 62 = nx h then n else ln h 62) = _; rw [if_neg e]) (fun k => by show up1 (gi h) (nx h) (fun _ => 0) 62 k = _; unfold up1; rw [if_neg e])
theorem fty_plain : ∀ c, c < 12 → ∀ k, k < 60 → fty c k ≠ .float ∧ fty c k ≠ .double := by decide +kernel
theorem dflt_fv {g : Gx} {c k n : Nat} (h1 : fty c k ≠ .float) (h2 : fty c k ≠ .double) : defaultValue (fty c k) = rv g (fv (nw h (c + 1) n) (nx h) c k) := by
  have e1 : gi (nw h (c + 1) n) (nx h) k = 0 := by show up1 (gi h) (nx h) (fun _ => 0) (nx h) k = _; unfold up1; rw [if_pos rfl]
  have e2 : gj (nw h (c + 1) n) (nx h) k = 0 := by show up1 (gj h) (nx h) (fun _ => 0) (nx h) k = _; unfold up1; rw [if_pos rfl]
  have e3 : gr (nw h (c + 1) n) (nx h) k = 0 := by show up1 (gr h) (nx h) (fun _ => 0) (nx h) k = _; unfold up1; rw [if_pos rfl]
  unfold fv
  rw [e1, e2, e3]
  cases hf : fty c k <;> first | exact absurd hf h1 | exact absurd hf h2 | rfl
theorem T_new {idx c N m0 s0 c0 t0 : Nat} {r : vw_C} (hd : DI M pc (.new idx) 3 pc') (hr : vwCl[c]? = some r) (hl : Cond.classLink M.1.cls idx r.1 ∈ gT) (hi : Cond.instantiable r.1 r.2.2 ∈ gT) (hini : Cond.initialized r.1 ∈ gT) (hN : r.2.2 = N) (hN2 : N < 60) (hbu : c0 + 1 ≤ m0 ∧ t0 + N ≤ s0) (k : 64 ≤ nx h → T d (m0, s0, c0 + 1, t0 + N) M pc' lo (vR (nx h) :: st) (nw h (c + 1) 0) Q) : T d (m0, s0, c0, t0) M pc lo st h Q := by
  intro p' l e R s m args below meth c' g H locs ls C hR hL hs hlc
  obtain ⟨hd1, rfl⟩ := hd
  obtain ⟨hx, hcb, hret, hml, hown, hts, hlk, hnm, hK, ⟨f1, f2, f3, f4⟩, ⟨f5, f6⟩, hold, hbs⟩ := id C
  subst hN
  have hlt : c < 12 := (List.getElem?_eq_some_iff.mp hr).1
  obtain ⟨hin, hty, hnm3⟩ := clsOK_all c r hr
  have hKn := hK.1.1 c _ hr
  refine W.newcK hx hcb hown (hts _ hl) (hts _ hi) (hts _ hini) rfl hd1 (Nat.le_trans hbu.1 f3) (Nat.le_trans hbu.2 f4) hKn.2.1 rfl fun H1 kC hkC e1 z1 o1 => ?_
  have hR1 : Rel g (nw h (c + 1) 0) H1 := by
    refine hR.new z1 o1 (by omega) ⟨fun c2 r2 x1 x2 => ?_, fun x1 x2 => ?_⟩
    · have hc2 : c + 1 = c2 + 1 := by
        have : cl (nw h (c + 1) 0) (nx h) = c + 1 := by show (if nx h = nx h then c + 1 else _) = _; rw [if_pos rfl]
        omega
      have : c2 = c := by omega
      subst this
      cases hr.symm.trans x2
      have hb := u_born (fty c2) hts hin hKn hkC e1 hty
      rw [← hR.1]
      exact hb.to (fun k hk => dflt_fv (fty_plain c2 hlt k (by omega)).1 (fty_plain c2 hlt k (by omega)).2)
    · have : cl (nw h (c + 1) 0) (nx h) = c + 1 := by show (if nx h = nx h then c + 1 else _) = _; rw [if_pos rfl]
      omega
  have hkk := k hR.2.1 p' l e R s m args below meth c' g H1 locs ls ⟨hx, hcb, hret, hml, hown, hts, hlk, hnm, hK, ⟨f1, f2, f3, f4⟩, hbu, hold, hbs⟩ hR1 hL (okc trivial hs) hlc
  rw [List.map_cons, rv_ref (by have := hR.2.1; omega), ← hR.1] at hkk
  exact hkk
theorem T_newarray {n m0 s0 c0 t0 cc ti : Nat} {ar : ArrayType} (hd : DI M pc (.newarray ar) 2 pc') (hw : Cond.arrayClass (newarray.typeOf ar) ∈ gT) (hc : cc = 20 ∨ cc = 21 ∨ cc = 22 ∨ cc = 23) (hty : aty cc = newarray.typeOf ar) (hti : cc = ti + 20) (hn : n ≤ 10000) (hbu : c0 + 1 ≤ m0 ∧ t0 + n ≤ s0) (k : 64 ≤ nx h → T d (m0, s0, c0 + 1, t0 + n) M pc' lo (vR (nx h) :: st) (nw h cc n) Q) : T d (m0, s0, c0, t0) M pc lo (vI n :: st) h Q := by
  intro p' l e R s m args below meth c' g H locs ls C hR hL hs hlc
  obtain ⟨hd1, rfl⟩ := hd
  obtain ⟨hx, hcb, hret, hml, hown, hts, hlk, hnm, hK, ⟨f1, f2, f3, f4⟩, ⟨f5, f6⟩, hold, hbs⟩ := id C
  have hni : R32 (n : Int) := okh hs
  have hcb2 : componentBytes (newarray.typeOf ar) ≤ 8 := by cases ar <;> decide
  refine va_newaK (N := n) hx hcb (hts _ hw) rfl hd1 rfl (ix_neg hni (by omega)) (by rw [ix_nat hni]; rfl) (by
    have := Nat.mul_le_mul hn hcb2
    omega) (Nat.le_trans hbu.1 f3) (Nat.le_trans hbu.2 f4) rfl fun H1 cA e1 z1 o1 hAr hNm => ?_
  have hclq : cl (nw h cc n) (nx h) = cc := by show (if nx h = nx h then cc else _) = _; rw [if_pos rfl]
  have hlnq : ln (nw h cc n) (nx h) = n := by show (if nx h = nx h then n else _) = _; rw [if_pos rfl]
  have g1 : ∀ k, gi (nw h cc n) (nx h) k = 0 := fun k => by show up1 (gi h) (nx h) (fun _ => 0) (nx h) k = _; unfold up1; rw [if_pos rfl]
  have g2 : ∀ k, gj (nw h cc n) (nx h) k = 0 := fun k => by show up1 (gj h) (nx h) (fun _ => 0) (nx h) k = _; unfold up1; rw [if_pos rfl]
  have hcA : g.2.2.1 ti = cA := by
    rcases hc with z | z | z | z <;> rw [z] at hty hti <;> rw [← hty] at hNm
    · have h1 : va_RA s _ _ := (hK.1.2 0 _ rfl).2
      rw [show ti = 0 by omega]
      exact Option.some.inj (h1.symm.trans hNm)
    · have h1 : va_RA s _ _ := (hK.1.2 1 _ rfl).2
      rw [show ti = 1 by omega]
      exact Option.some.inj (h1.symm.trans hNm)
    · have h1 : va_RA s _ _ := (hK.1.2 2 _ rfl).2
      rw [show ti = 2 by omega]
      exact Option.some.inj (h1.symm.trans hNm)
    · have h1 : va_RA s _ _ := (hK.1.2 3 _ rfl).2
      rw [show ti = 3 by omega]
      exact Option.some.inj (h1.symm.trans hNm)
  have hR1 : Rel g (nw h cc n) H1 := by
    refine hR.new z1 o1 (by omega) ⟨fun c2 r2 x1 x2 => ?_, fun x1 x2 => ?_⟩
    · have : c2 < 12 := (List.getElem?_eq_some_iff.mp x2).1
      omega
    · rw [← hR.1, e1, hclq, show cc - 20 = ti by omega, hcA, ← hty]
      rcases hc with z | z | z | z <;> subst z <;> simp only [acl, hlnq, g1, g2, vp_cell, aty, defaultValue] <;> rfl
  have hkk := k hR.2.1 p' l e R s m args below meth c' g H1 locs ls ⟨hx, hcb, hret, hml, hown, hts, hlk, hnm, hK, ⟨f1, f2, f3, f4⟩, hbu, hold, hbs⟩ hR1 hL (okc trivial (okt hs)) hlc
  rw [List.map_cons, rv_ref (by have := hR.2.1; omega), ← hR.1] at hkk
  exact hkk
theorem T_anew {idx n m0 s0 c0 t0 cc ti : Nat} {C : String} (hd : DI M pc (.anewarray idx) 3 pc') (hl : Cond.classLink M.1.cls idx C ∈ gT) (hc : (cc = 24 ∧ ti = 4 ∧ C = RX3) ∨ (cc = 25 ∧ ti = 5 ∧ C = RX8)) (hn : n ≤ 10000) (hbu : c0 + 1 ≤ m0 ∧ t0 + n ≤ s0) (k : 64 ≤ nx h → T d (m0, s0, c0 + 1, t0 + n) M pc' lo (vR (nx h) :: st) (nw h cc n) Q) : T d (m0, s0, c0, t0) M pc lo (vI n :: st) h Q := by
  intro p' l e R s m args below meth c' g H locs ls C0 hR hL hs hlc
  obtain ⟨hd1, rfl⟩ := hd
  obtain ⟨hx, hcb, hret, hml, hown, hts, hlk, hnm, hK, ⟨f1, f2, f3, f4⟩, ⟨f5, f6⟩, hold, hbs⟩ := id C0
  have hni : R32 (n : Int) := okh hs
  have hnn : (Int32.ofInt (n : Int)).toNatClampNeg = n := by rw [ix_nat hni]; rfl
  have hover : va_AO C s := by
    rcases hc with ⟨-, -, rfl⟩ | ⟨-, -, rfl⟩
    · exact hK.2.2.2.2.1
    · exact hK.2.2.2.2.2.1
  refine W.anew hx hcb hown (hts _ hl) (va_AO.use hover) rfl hd1 rfl (ix_neg hni (by omega)) (by rw [hnn]; omega) (Nat.le_trans hbu.1 f3) (by rw [hnn]; exact Nat.le_trans hbu.2 f4) fun cA kA comp x1 x2 x3 x4 => ?_
  rw [hnn]
  have hclq : cl (nw h cc n) (nx h) = cc := by show (if nx h = nx h then cc else _) = _; rw [if_pos rfl]
  have hlnq : ln (nw h cc n) (nx h) = n := by show (if nx h = nx h then n else _) = _; rw [if_pos rfl]
  have g3 : ∀ k, gr (nw h cc n) (nx h) k = 0 := fun k => by show up1 (gr h) (nx h) (fun _ => 0) (nx h) k = _; unfold up1; rw [if_pos rfl]
  have hcA : g.2.2.1 ti = cA := by
    rcases hc with ⟨-, rfl, rfl⟩ | ⟨-, rfl, rfl⟩
    · obtain ⟨_, _, -, -, -, h4⟩ := (hK.1.2 4 _ rfl).2
      exact Option.some.inj (h4.symm.trans x1)
    · obtain ⟨_, _, -, -, -, h4⟩ := (hK.1.2 5 _ rfl).2
      exact Option.some.inj (h4.symm.trans x1)
  generalize hH1 : H.push ({ cls := cA, slots := Array.replicate n .null, vm := .none } : Cell) = H1
  have z1 : H1.size = H.size + 1 := by rw [← hH1, Array.size_push]
  have e1 : H1[H.size]? = some (arrV cA n (fun _ => .null)) := by rw [← hH1, Array.getElem?_push_size, ← arrV_new]
  have o1 : ∀ a, a < H.size → H1[a]? = H[a]? := fun a ha => by rw [← hH1, Array.getElem?_push, if_neg (Nat.ne_of_lt ha)]
  have hR1 : Rel g (nw h cc n) H1 := by
    refine hR.new z1 o1 (by omega) ⟨fun c2 r2 y1 y2 => ?_, fun y1 y2 => ?_⟩
    · have : c2 < 12 := (List.getElem?_eq_some_iff.mp y2).1
      omega
    · rw [← hR.1, e1, hclq]
      rcases hc with ⟨z, z2, -⟩ | ⟨z, z2, -⟩ <;> subst z <;> subst z2 <;> rw [← hcA] <;> simp only [acl, hlnq, g3, vp_cell] <;> rfl
  have hkk := k hR.2.1 p' l e R s m args below meth c' g H1 locs ls ⟨hx, hcb, hret, hml, hown, hts, hlk, hnm, hK, ⟨f1, f2, f3, f4⟩, hbu, hold, hbs⟩ hR1 hL (okc trivial (okt hs)) hlc
  rw [List.map_cons, rv_ref (by have := hR.2.1; omega), ← hR.1] at hkk
  exact hkk
end
