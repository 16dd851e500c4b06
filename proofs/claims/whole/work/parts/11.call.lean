/-! CALLS -/
def MOK (N : MD) (n : Nat) : Prop := Cond.code N.1 N.2.1 N.2.2.1 N.2.2.2 ∈ gT ∧ Cond.initialized N.1.cls ∈ gT ∧ (N.1.cls ≠ "java/lang/invoke/MethodHandle" ∧ N.1.cls ≠ "java/lang/invoke/VarHandle") ∧ (parseMethodDescriptor N.1.desc).map (fun d => d.parameters.length) = some n ∧ N.2.2.1 ≤ 45
def IOK (N : MD) : Prop := Cond.instanceMethod N.1 ∈ gT ∧ Cond.selects N.1.cls N.1 N.1 ∈ gT
theorem gT_good {N : MD} {n : Nat} (hN : MOK N n) : GoodIn gT (wsA N) := by
  intro w hw
  rcases List.mem_cons.mp hw with rfl | h
  · exact ⟨hN.1, good_of_word (List.mem_filter.mp hN.1).2⟩
  · exact ⟨h, good_of_word (List.mem_filter.mp h).2⟩
theorem CallA.mono {d mc ms : Nat} {N : MD} {as : List PV} {h : PH} {Q1 Q2 : Option PV → PH → Prop} (hc : CallA d mc ms N as h Q1) (hq : ∀ r h1, (∀ v, r = some v → okv v) → Q1 r h1 → Q2 r h1) : CallA d mc ms N as h Q2 := by
  intro l g ho p e ha hcc hk s m args below hf happ hP hK
  obtain ⟨k, o, h1, h2, h3, ⟨r, h', a1, a2, a3, a4, a5⟩, h5⟩ := hc l g ho p e ha hcc hk s m args below hf happ hP hK
  exact ⟨k, o, h1, h2, h3, ⟨r, h', a1, a2, hq r h' a2 a3, a4, a5⟩, h5⟩
theorem CallA.monoI {d mc ms : Nat} {N : MD} {as : List PV} {h : PH} {P P' : Int → PH → Prop} (hc : CallA d mc ms N as h (onI P)) (hq : ∀ x h1, R32 x → P x h1 → P' x h1) : CallA d mc ms N as h (onI P') :=
  hc.mono (fun r h1 ho => match r, ho with
    | none, _ => fun z => z
    | some (.inl x), ho => fun z hx => hq x h1 hx (z hx)
    | some (.inr _), _ => fun z => z)
theorem CallA.monoJ {d mc ms : Nat} {N : MD} {as : List PV} {h : PH} {P P' : Int → PH → Prop} (hc : CallA d mc ms N as h (onJ P)) (hq : ∀ x h1, R64 x → P x h1 → P' x h1) : CallA d mc ms N as h (onJ P') :=
  hc.mono (fun r h1 ho => match r, ho with
    | none, _ => fun z => z
    | some (.inl _), _ => fun z => z
    | some (.inr (.inl x)), ho => fun z hx => hq x h1 hx (z hx)
    | some (.inr (.inr _)), _ => fun z => z)
theorem CallA.monoR {d mc ms : Nat} {N : MD} {as : List PV} {h : PH} {P P' : Nat → PH → Prop} (hc : CallA d mc ms N as h (onR P)) (hq : ∀ x h1, P x h1 → P' x h1) : CallA d mc ms N as h (onR P') :=
  hc.mono (fun r h1 ho => match r, ho with
    | none, _ => fun z => z
    | some (.inl _), _ => fun z => z
    | some (.inr (.inl _)), _ => fun z => z
    | some (.inr (.inr (.inl x))), _ => fun z => hq x h1 z
    | some (.inr (.inr (.inr _))), _ => fun z => z)
theorem CallA.monoF {d mc ms : Nat} {N : MD} {as : List PV} {h : PH} {P P' : UInt32 → PH → Prop} (hc : CallA d mc ms N as h (onF P)) (hq : ∀ x h1, P x h1 → P' x h1) : CallA d mc ms N as h (onF P') :=
  hc.mono (fun r h1 ho => match r, ho with
    | none, _ => fun z => z
    | some (.inl _), _ => fun z => z
    | some (.inr (.inl _)), _ => fun z => z
    | some (.inr (.inr (.inl _))), _ => fun z => z
    | some (.inr (.inr (.inr (.inl x)))), _ => fun z => hq x h1 z
    | some (.inr (.inr (.inr (.inr _)))), _ => fun z => z)
theorem CallA.monoV {d mc ms : Nat} {N : MD} {as : List PV} {h : PH} {P P' : PH → Prop} (hc : CallA d mc ms N as h (onV P)) (hq : ∀ h1, P h1 → P' h1) : CallA d mc ms N as h (onV P') :=
  hc.mono (fun _ h1 _ z => ⟨z.1, hq h1 z.2⟩)
def wst (st : List PV) : Nat := match st with
  | [] => 0
  | v :: l => (if cat2 v then 2 else 1) + wst l
theorem wst_eq (g : Gx) (st : List PV) : ((st.map (rv g)).map fun v => v.category).sum = wst st := by
  induction st with
  | nil => rfl
  | cons v l ih => simp only [List.map_cons, List.sum_cons, rv_cat, wst, ih]
section
variable {d : Nat} {u : Bu} {M : MD} {pc pc' : Nat} {lo : List (Option PV)} {st stk : List PV} {h : PH} {Q : Option PV → PH → Prop}
theorem run_fin {p : Program} {l : Launch} {e : Env} {R : Room} {s : State} {m : MethodId} {args : Array Value} {below : List Frame} {meth : Method} {c : Code} {H : Heap} {locs : List Loc} {cells slots mc ms : Nat} {Qz : State → Prop} {ls : Array Slot} {st0 rest : List Value} {g : Gx} {Q' : Option PV → PH → Prop} {a : Array Value}
    (hr : va_Run p l e R s m args below meth c H locs cells slots mc ms (F0 m pc ls st0) rest (QQ g Q' a) (own0 g)) (hlc : ∀ q ∈ locs, own0 g q.base)
    (kk : ∀ (r : Option PV) (h1 : PH) (H1 : Heap) (locs1 : List Loc), (∀ v, r = some v → okv v) → Q' r h1 → Rel g h1 H1 → (∀ q ∈ locs1, own0 g q.base) → W p l e R s m args below meth c H1 locs1 (cells + mc) (slots + ms) Qz (F0 m (pc + 3) ls ((r.map (rv g)).toList ++ rest))) : W p l e R s m args below meth c H locs cells slots Qz (F0 m pc ls st0) := by
  intro T hT X
  obtain ⟨v, st₀, t, T', L, h0, X', hL, e1, e2, ⟨r, h1, a1, a2, a3, a4, a5⟩, st⟩ := hr T hT X
  cases a1
  obtain ⟨t2, b1, b2⟩ := kk r h1 T'.heap (locs ++ L) a2 a3 (by rw [e1]; exact a4) (fun q hq => by
    rcases List.mem_append.mp hq with z | z
    · exact hlc q z
    · exact hL q z) T' rfl X'
  exact ⟨t2, st t2 b1, b2⟩
theorem T_callV {idx n b c : Nat} {N : MD} {as : List PV} {r : vw_C} {mc ms : Nat} {Q' : Option PV → PH → Prop} (hd : DI M pc (.invokevirtual idx) 3 pc') (hl : Cond.methodLink M.1.cls idx N.1 ∈ gT) (hN : MOK N n) (hI : IOK N) (hb : cl h b = c + 1) (hr : vwCl[c]? = some r) (hrc : N.1.cls = r.1) (hn : as.length = n) (hw : wst st ≤ 8) (hbu : u.2.2.1 + mc ≤ u.1 ∧ u.2.2.2 + ms ≤ u.2.1) (hs : stk = as.reverse ++ vR b :: st)
    (hc : CallA d mc ms N (vR b :: as) h Q') (k : ∀ r h1, (∀ v, r = some v → okv v) → Q' r h1 → T (d + 1) (u.1, u.2.1, u.2.2.1 + mc, u.2.2.2 + ms) M pc' lo (r.toList ++ st) h1 Q) : T (d + 1) u M pc lo stk h Q := by
  subst hs
  intro p' l e R s m args below meth c' g H locs ls C hR hL hs hlc
  obtain ⟨hd1, rfl⟩ := hd
  obtain ⟨hx, hcb, hret, hml, hown, hts, hlk, hnm, hK, ⟨f1, f2, f3, f4⟩, ⟨f5, f6⟩, hold, hbs⟩ := id C
  have hoa : ∀ v ∈ vR b :: as, okv v := by
    intro v hv
    rcases List.mem_cons.mp hv with rfl | hv
    · trivial
    · exact hs v (List.mem_append_left _ (List.mem_reverse.mpr hv))
  have hos : ∀ v ∈ st, okv v := fun v hv => hs v (List.mem_append_right _ (List.mem_cons_of_mem _ hv))
  obtain ⟨h64, -, cell, q1, q2, q3, -⟩ := hR.obj hb hr
  have hrecv : ∃ cellB : Cell, H[ad g b]? = some cellB ∧ cellB.vm.isStatics = false ∧ s.vm.findClass N.1.cls = some cellB.cls := ⟨cell, q1, by rw [q3]; rfl, by rw [hrc, q2]; exact (hK.1.1 c r hr).2.1⟩
  have hM := hc l g hoa
  rw [List.map_cons, rv_ref (by omega)] at hM
  have cb : CallB R s args M.1.cls idx N.1 N.2.1 N.2.2.1 N.2.2.2 (wsA N) (rmd d mc ms) mc ms n := callB_of n hts (gT_good hN) rfl rfl rfl (hts _ hN.2.1) (hts _ hl) ⟨hN.2.2.1.1, hN.2.2.1.2, hN.2.2.2.1⟩ ⟨f1, by have := hN.2.2.2.2; show 8 + (N.2.2.1 + 11) + 64 * d ≤ R.locals; omega⟩
  refine run_fin (g := g) (Q' := Q') (mc := mc) (ms := ms) (rest := st.map (rv g)) (va_runV (As := as.map (rv g)) (b := ad g b) (C := N.1.cls) ⟨hx, hcb, hml, hown, hts⟩ hM ⟨cb, hts _ hI.1, hts _ hI.2⟩ ⟨fun a U g' mk q => ⟨q.1, q.2.1, q.2.2.1.same rfl, q.2.2.2⟩, hrecv, fun U hU hW => ⟨rfl, by rw [hU]; exact hR, hK.warm hW, hbs⟩⟩ rfl (by rw [List.length_map, hn]) hL.1.1 (by rw [List.map_append, List.map_reverse, List.map_cons, rv_ref (by omega)]) (lv_room (by rw [wst_eq]; exact hw)) hd1 ⟨by omega, by omega⟩) hlc ?_
  intro r1 h1 H1 locs1 ho hq hR1 hl1
  have hkk := k r1 h1 ho hq p' l e R s m args below meth c' g H1 locs1 ls ⟨hx, hcb, hret, hml, hown, hts, hlk, hnm, hK, ⟨f1, f2, f3, f4⟩, hbu, hold, hbs⟩ hR1 hL (by
    intro v hv
    rcases List.mem_append.mp hv with z | z
    · exact ho v (by cases r1 with
        | none => cases z
        | some w => rw [List.mem_singleton.mp z])
    · exact hos v z) hl1
  have e1 : (r1.toList ++ st).map (rv g) = (r1.map (rv g)).toList ++ st.map (rv g) := by cases r1 <;> rfl
  rw [e1] at hkk
  exact hkk
theorem T_callS {idx n : Nat} {N : MD} {as : List PV} {mc ms : Nat} {Q' : Option PV → PH → Prop} (hd : DI M pc (.invokestatic idx) 3 pc') (hl : Cond.methodLink M.1.cls idx N.1 ∈ gT) (hN : MOK N n) (hI : Cond.static N.1 ∈ gT) (hn : as.length = n) (hw : wst st ≤ 8) (hbu : u.2.2.1 + mc ≤ u.1 ∧ u.2.2.2 + ms ≤ u.2.1) (hs : stk = as.reverse ++ st)
    (hc : CallA d mc ms N as h Q') (k : ∀ r h1, (∀ v, r = some v → okv v) → Q' r h1 → T (d + 1) (u.1, u.2.1, u.2.2.1 + mc, u.2.2.2 + ms) M pc' lo (r.toList ++ st) h1 Q) : T (d + 1) u M pc lo stk h Q := by
  subst hs
  intro p' l e R s m args below meth c' g H locs ls C hR hL hs hlc
  obtain ⟨hd1, rfl⟩ := hd
  obtain ⟨hx, hcb, hret, hml, hown, hts, hlk, hnm, hK, ⟨f1, f2, f3, f4⟩, ⟨f5, f6⟩, hold, hbs⟩ := id C
  have hoa : ∀ v ∈ as, okv v := fun v hv => hs v (List.mem_append_left _ (List.mem_reverse.mpr hv))
  have hos : ∀ v ∈ st, okv v := fun v hv => hs v (List.mem_append_right _ hv)
  have hM := hc l g hoa
  have cb : CallB R s args M.1.cls idx N.1 N.2.1 N.2.2.1 N.2.2.2 (wsA N) (rmd d mc ms) mc ms n := callB_of n hts (gT_good hN) rfl rfl rfl (hts _ hN.2.1) (hts _ hl) ⟨hN.2.2.1.1, hN.2.2.1.2, hN.2.2.2.1⟩ ⟨f1, by have := hN.2.2.2.2; show 8 + (N.2.2.1 + 11) + 64 * d ≤ R.locals; omega⟩
  refine run_fin (g := g) (Q' := Q') (mc := mc) (ms := ms) (rest := st.map (rv g)) (va_runS (As := as.map (rv g)) ⟨hx, hcb, hml, hown, hts⟩ hM ⟨cb, hts _ hI⟩ ⟨fun a U g' mk q => ⟨q.1, q.2.1, q.2.2.1.same rfl, q.2.2.2⟩, fun U hU hW => ⟨rfl, by rw [hU]; exact hR, hK.warm hW, hbs⟩⟩ rfl (by rw [List.length_map, hn]) hL.1.1 (by rw [List.map_append, List.map_reverse]) (lv_room (by rw [wst_eq]; exact hw)) hd1 ⟨by omega, by omega⟩) hlc ?_
  intro r1 h1 H1 locs1 ho hq hR1 hl1
  have hkk := k r1 h1 ho hq p' l e R s m args below meth c' g H1 locs1 ls ⟨hx, hcb, hret, hml, hown, hts, hlk, hnm, hK, ⟨f1, f2, f3, f4⟩, hbu, hold, hbs⟩ hR1 hL (by
    intro v hv
    rcases List.mem_append.mp hv with z | z
    · exact ho v (by cases r1 with
        | none => cases z
        | some w => rw [List.mem_singleton.mp z])
    · exact hos v z) hl1
  have e1 : (r1.toList ++ st).map (rv g) = (r1.map (rv g)).toList ++ st.map (rv g) := by cases r1 <;> rfl
  rw [e1] at hkk
  exact hkk
theorem T_callI {idx n b : Nat} {N : MD} {as : List PV} {mc ms : Nat} {Q' : Option PV → PH → Prop} (hd : DI M pc (.invokespecial idx) 3 pc') (hl : Cond.methodLink M.1.cls idx N.1 ∈ gT ∨ Cond.methodLinkNest M.1.cls idx N.1 RX10 ∈ nestL) (hN : MOK N n) (hret0 : N.2.2.2 = none) (hI : Cond.instanceMethod N.1 ∈ gT) (hnmi : N.1.name = "<init>") (hb : 64 ≤ b) (hn : as.length = n) (hw : wst st ≤ 8) (hbu : u.2.2.1 + mc ≤ u.1 ∧ u.2.2.2 + ms ≤ u.2.1) (hs : stk = as.reverse ++ vR b :: st)
    (hc : CallA d mc ms N (vR b :: as) h Q') (k : ∀ r h1, (∀ v, r = some v → okv v) → Q' r h1 → T (d + 1) (u.1, u.2.1, u.2.2.1 + mc, u.2.2.2 + ms) M pc' lo (r.toList ++ st) h1 Q) : T (d + 1) u M pc lo stk h Q := by
  subst hs
  intro p' l e R s m args below meth c' g H locs ls C hR hL hs hlc
  obtain ⟨hd1, rfl⟩ := hd
  obtain ⟨hx, hcb, hret, hml, hown, hts, hlk, hnm, hK, ⟨f1, f2, f3, f4⟩, ⟨f5, f6⟩, hold, hbs⟩ := id C
  have hoa : ∀ v ∈ vR b :: as, okv v := by
    intro v hv
    rcases List.mem_cons.mp hv with rfl | hv
    · trivial
    · exact hs v (List.mem_append_left _ (List.mem_reverse.mpr hv))
  have hos : ∀ v ∈ st, okv v := fun v hv => hs v (List.mem_append_right _ (List.mem_cons_of_mem _ hv))
  have hM := hc l g hoa
  rw [List.map_cons, rv_ref (by omega)] at hM
  have hpre : PreS s H (fun a U => a = (Value.ref (ad g b) :: as.map (rv g)).toArray ∧ Rel g h U.heap ∧ KK g U ∧ bs g ≤ (h00 g).size) (Value.ref (ad g b) :: as.map (rv g)) := ⟨fun a U g' mk q => ⟨q.1, q.2.1, q.2.2.1.same rfl, q.2.2.2⟩, fun U hU hW => ⟨rfl, by rw [hU]; exact hR, hK.warm hW, hbs⟩⟩
  have hroom : (rmd d mc ms).frames + 1 ≤ R.frames ∧ 8 + (N.2.2.1 + 11) + (rmd d mc ms).locals ≤ R.locals := ⟨f1, by have := hN.2.2.2.2; show 8 + (N.2.2.1 + 11) + 64 * d ≤ R.locals; omega⟩
  have hgd := gT_good hN
  have hrun : va_Run p' l e R s m args below meth c' H locs u.2.2.1 u.2.2.2 mc ms (F0 m pc ls ((as.reverse ++ vR b :: st).map (rv g))) (st.map (rv g)) (QQ g Q' (Value.ref (ad g b) :: as.map (rv g)).toArray) (own0 g) := by
    have hcw : Cond.code N.1 N.2.1 N.2.2.1 none ∈ wsA N := by rw [← hret0]; exact List.mem_cons_self
    rcases hl with hl | hl
    · have cb : CallB R s args M.1.cls idx N.1 N.2.1 N.2.2.1 none (wsA N) (rmd d mc ms) mc ms n := callB_of (ws' := gT) n hts hgd (by unfold wsA; rw [hret0]) rfl rfl (hts _ hN.2.1) (hts _ hl) ⟨hN.2.2.1.1, hN.2.2.1.2, hN.2.2.2.1⟩ hroom
      exact va_runI (As := as.map (rv g)) ⟨hx, hcb, hml, hown, hts⟩ hM ⟨cb, hnmi, hts _ hI⟩ hpre rfl (by rw [List.length_map, hn]) hL.1.1 (by rw [List.map_append, List.map_reverse, List.map_cons, rv_ref (by omega)]) (lv_room (by rw [wst_eq]; exact hw)) hd1 ⟨by omega, by omega⟩
    · have cb : va_CN R s args M.1.cls idx N.1 RX10 N.2.1 N.2.2.1 none (wsA N) (rmd d mc ms) mc ms n := va_cnB (ws' := gT) n hts hgd (by unfold wsA; rw [hret0]) rfl rfl (hK.2.1 _ hl) (hts _ hN.2.1) ⟨hN.2.2.1.1, hN.2.2.1.2, hN.2.2.2.1⟩ hroom
      exact va_runIN (As := as.map (rv g)) ⟨hx, hcb, hml, hown, hts⟩ hM ⟨cb, hnmi, hts _ hI⟩ hpre rfl (by rw [List.length_map, hn]) hL.1.1 (by rw [List.map_append, List.map_reverse, List.map_cons, rv_ref (by omega)]) (lv_room (by rw [wst_eq]; exact hw)) hd1 ⟨by omega, by omega⟩
  refine run_fin (g := g) (Q' := Q') hrun hlc ?_
  intro r1 h1 H1 locs1 ho hq hR1 hl1
  have hkk := k r1 h1 ho hq p' l e R s m args below meth c' g H1 locs1 ls ⟨hx, hcb, hret, hml, hown, hts, hlk, hnm, hK, ⟨f1, f2, f3, f4⟩, hbu, hold, hbs⟩ hR1 hL (by
    intro v hv
    rcases List.mem_append.mp hv with z | z
    · exact ho v (by cases r1 with
        | none => cases z
        | some w => rw [List.mem_singleton.mp z])
    · exact hos v z) hl1
  have e1 : (r1.toList ++ st).map (rv g) = (r1.map (rv g)).toList ++ st.map (rv g) := by cases r1 <;> rfl
  rw [e1] at hkk
  exact hkk
end
