/-! FIELDS -/
def FL (M : MD) (idx c k : Nat) : Prop := ∃ r : vw_C, vwCl[c]? = some r ∧ k < r.2.2 ∧ Cond.fieldLink M.1.cls idx r.1 (r.2.1 k).2.1 (r.2.1 k).2.2.1 ∈ gT ∧ (r.2.1 k).1 = r.1
/-- may be written: not final, or within its own class's constructor -/
def FW (M : MD) (c k : Nat) : Prop := ∃ r : vw_C, vwCl[c]? = some r ∧ ((r.2.1 k).2.2.2 = false ∨ ((r.2.1 k).2.2.2 = true ∧ M.1.name = "<init>" ∧ r.1 = M.1.cls))
theorem ad_big {g : Gx} {q : Nat} (h : 64 ≤ q) : ad g q = bs g + (q - 64) := by unfold ad; rw [if_neg (by omega)]
theorem ad_inj {g : Gx} {p q : Nat} (hp : 64 ≤ p) (hq : 64 ≤ q) (h : ad g p = ad g q) : p = q := by rw [ad_big hp, ad_big hq] at h; omega
theorem rfo_some {g : Gx} {q : Nat} (h : 0 < q) : rfo g q = some (ad g q) := by unfold rfo; rw [if_neg (by omega)]
theorem rv_ref {g : Gx} {q : Nat} (h : 0 < q) : rv g (vR q) = .ref (ad g q) := by show va_rf (rfo g q) = _; rw [rfo_some h]; rfl
theorem Rel.obj {g : Gx} {h : PH} {H : Heap} (hR : Rel g h H) {q c : Nat} {r : vw_C} (hc : cl h q = c + 1) (hr : vwCl[c]? = some r) : 64 ≤ q ∧ q < nx h ∧ t_OB (ad g q) (g.1 c) r.2.2 (g.2.1 c) H (fun k => rv g (fv h q c k)) := by
  have hlt : c < 12 := by
    have := (List.getElem?_eq_some_iff.mp hr).1
    exact this
  obtain ⟨h1, h2⟩ := hR.2.2.2.2.2.2.1 q (by omega) (by omega)
  exact ⟨h1, h2, (hR.2.2.1 q h1 h2).1 c r hc hr⟩
theorem Rel.arr {g : Gx} {h : PH} {H : Heap} (hR : Rel g h H) {q : Nat} (hc : 20 ≤ cl h q) (hc2 : cl h q < 26) : 64 ≤ q ∧ q < nx h ∧ H[ad g q]? = some (vp_cell (g.2.2.1 (cl h q - 20)) (acl g h q (cl h q))) := by
  obtain ⟨h1, h2⟩ := hR.2.2.2.2.2.2.1 q (by omega) (by omega)
  exact ⟨h1, h2, (hR.2.2.1 q h1 h2).2 hc hc2⟩
theorem fv_eq {h h' : PH} {q c k : Nat} (h1 : gi h' q k = gi h q k) (h2 : gj h' q k = gj h q k) (h3 : gr h' q k = gr h q k) : fv h' q c k = fv h q c k := by
  unfold fv; rw [h1, h2, h3]
theorem acl_eq {g : Gx} {h h' : PH} {q t : Nat} (h0 : ln h' q = ln h q) (h1 : ∀ k, gi h' q k = gi h q k) (h2 : ∀ k, gj h' q k = gj h q k) (h3 : ∀ k, gr h' q k = gr h q k) : acl g h' q t = acl g h q t := by
  unfold acl; simp only [h0, h1, h2, h3]
theorem cok_keep {g : Gx} {h h' : PH} {q : Nat} {H H' : Heap} (hc : cok g h q H) (e : H'[ad g q]? = H[ad g q]?) (h0 : ln h' q = ln h q) (hl : cl h' q = cl h q) (h1 : ∀ k, gi h' q k = gi h q k) (h2 : ∀ k, gj h' q k = gj h q k) (h3 : ∀ k, gr h' q k = gr h q k) : cok g h' q H' := by
  refine ⟨fun c r e1 e2 => ?_, fun e1 e2 => ?_⟩
  · rw [hl] at e1
    have := (hc.1 c r e1 e2).kept e
    exact this.to (fun k _ => by rw [fv_eq (h1 k) (h2 k) (h3 k)])
  · rw [hl] at e1 e2 ⊢
    rw [e, hc.2 e1 e2, acl_eq h0 h1 h2 h3]
/-- one cell has changed, on both sides -/
theorem Rel.upd {g : Gx} {h h' : PH} {H H' : Heap} {p : Nat} (hR : Rel g h H) (hp : 64 ≤ p) (hp2 : p < nx h) (e1 : H'.size = H.size) (e2 : ∀ a, a ≠ ad g p → H'[a]? = H[a]?) (hn : nx h' = nx h) (hcl : cl h' = cl h) (hln : ln h' = ln h)
    (hi : ∀ q k, q ≠ p → gi h' q k = gi h q k) (hj : ∀ q k, q ≠ p → gj h' q k = gj h q k) (hr : ∀ q k, q ≠ p → gr h' q k = gr h q k) (r1 : ∀ k, R32 (gi h' p k)) (r2 : ∀ k, R64 (gj h' p k)) (hc : cok g h' p H') : Rel g h' H' := by
  obtain ⟨a1, a2, a3, a4, a5, a6, a7, a8, a9, a10, a11⟩ := hR
  refine ⟨by rw [e1, a1, hn], by rw [hn]; exact a2, fun q hq1 hq2 => ?_, fun q k => ?_, fun q k => ?_, fun a ha => ?_, by rw [hcl, hn]; exact a7, by rw [hcl]; exact a8, by rw [hcl]; exact a9, by rw [hcl]; exact a10, a11.keep (by rw [hcl]) (by rw [hln]) (fun j => hi 62 j (by omega))⟩
  · rw [hn] at hq2
    by_cases e : q = p
    · subst e; exact hc
    · exact cok_keep (a3 q hq1 hq2) (e2 _ (fun z => e (ad_inj hq1 hp z))) (by rw [hln]) (by rw [hcl]) (fun k => hi q k e) (fun k => hj q k e) (fun k => hr q k e)
  · by_cases e : q = p
    · subst e; exact r1 k
    · rw [hi q k e]; exact a4 q k
  · by_cases e : q = p
    · subst e; exact r2 k
    · rw [hj q k e]; exact a5 q k
  · rw [e2 a (fun z => by rw [ad_big hp] at z; omega)]; exact a6 a ha
section
variable {d : Nat} {u : Bu} {M : MD} {pc pc' : Nat} {lo : List (Option PV)} {st : List PV} {h : PH} {Q : Option PV → PH → Prop}
theorem T_get {idx c k p : Nat} {v : PV} (hd : DI M pc (.getfield idx) 3 pc') (hf : FL M idx c k) (hc : cl h p = c + 1) (hv : fv h p c k = v) (k : T d u M pc' lo (v :: st) h Q) : T d u M pc lo (vR p :: st) h Q := by
  intro p' l e R s m args below meth c' g H locs ls C hR hL hs hlc
  obtain ⟨hd1, rfl⟩ := hd
  obtain ⟨r, hr, hk, hw, hown⟩ := hf
  have hokv : okv v := by
    rw [← hv]
    unfold fv
    split
    · exact hR.2.2.2.2.1 _ _
    · trivial
    · trivial
    · exact hR.2.2.2.1 _ _
  have hkk := k p' l e R s m args below meth c' g H locs ls C hR hL (okc hokv (okt hs)) hlc
  obtain ⟨h64, -, cell, q1, q2, q3, q4⟩ := hR.obj hc hr
  obtain ⟨hin, hty, hnm⟩ := clsOK_all c r hr
  obtain ⟨hS, hfc, kC, hkC, hkind⟩ := C.2.2.2.2.2.2.2.2.1.1.1 c _ hr
  obtain ⟨cf, kf, fi, f, hi, hsl⟩ := hS _ hk
  rw [hown] at hi
  have hst := (u_facts hfc hkC (u_lays (C.2.2.2.2.2.1) hin hk) (by rw [hown]; exact hi)).1
  refine W.eq (g2 := F0 m pc ls (.ref (ad g p) :: st.map (rv g))) (by rw [List.map_cons, rv_ref (by omega)]) ?_
  refine W.getf C.1 C.2.1 C.2.2.2.2.1 (C.2.2.2.2.2.1 _ hw) hi hst q1 (by rw [q3]; exact fun h => by cases h) (v := rv g v) ?_ rfl rfl hd1 hkk
  rw [hsl, q4 _ hk]
  show some (rv g (fv h p c _)) = _
  rw [hv]
theorem put_core {idx c k p : Nat} {v : PV} {h' : PH} (hd : DI M pc (.putfield idx) 3 pc') (hf : FL M idx c k) (hfw : FW M c k) (hc : cl h p = c + 1) (hfit : ∀ g : Gx, okv v → narrow (fty c k) (rv g v) = rv g v ∧ fits (fty c k) (rv g v) = true)
    (hn : nx h' = nx h) (hcl : cl h' = cl h) (hln : ln h' = ln h) (hi : ∀ q k, q ≠ p → gi h' q k = gi h q k) (hj : ∀ q k, q ≠ p → gj h' q k = gj h q k) (hr : ∀ q k, q ≠ p → gr h' q k = gr h q k)
    (r1 : okv v → (∀ k, R32 (gi h p k)) → ∀ k, R32 (gi h' p k)) (r2 : okv v → (∀ k, R64 (gj h p k)) → ∀ k, R64 (gj h' p k)) (hfv : ∀ j, fv h' p c j = if j = k then v else fv h p c j) (k : T d u M pc' lo st h' Q) : T d u M pc lo (v :: vR p :: st) h Q := by
  intro p' l e R s m args below meth c' g H locs ls C hR hL hs hlc
  obtain ⟨hd1, rfl⟩ := hd
  obtain ⟨r, hr0, hk, hw, hown⟩ := hf
  obtain ⟨r', hr1, hfin⟩ := hfw
  cases hr0.symm.trans hr1
  have hov : okv v := okh hs
  obtain ⟨h64, hlt, cell, q1, q2, q3, q4⟩ := hR.obj hc hr0
  obtain ⟨hin, hty, hnm⟩ := clsOK_all c r hr0
  obtain ⟨hS, hfc, kC, hkC, hkind⟩ := C.2.2.2.2.2.2.2.2.1.1.1 c _ hr0
  have hap := va_apart (own := "") (C.2.2.2.2.2.1) hin (fty c) hty hnm C.2.2.2.2.2.2.2.2.1.1 hr0
  obtain ⟨cf, kf, fi, f, hi0, hsl⟩ := hS _ hk
  have hi1 := hi0
  rw [hown] at hi1
  have hst := (u_facts hfc hkC (u_lays (C.2.2.2.2.2.1) hin hk) hi0).1
  have hlay := C.2.2.2.2.2.1 _ (hin _ (u_in_lay hk))
  unfold u_lay at hlay
  have hlocs : ∀ q ∈ locs ++ [⟨ad g p, f.slot⟩], own0 g q.base := by
    intro q hq
    rcases List.mem_append.mp hq with h | h
    · exact hlc q h
    · rw [List.mem_singleton.mp h]; show bs g ≤ ad g p; rw [ad_big h64]; omega
  have fin : ∀ H' : Heap, H'[ad g p]? = some (cell.setSlot f.slot (rv g v)) → H'.size = H.size → (∀ q, q ≠ ad g p → H'[q]? = H[q]?) → W p' l e R s m args below meth c' H' (locs ++ [⟨ad g p, f.slot⟩]) u.2.2.1 u.2.2.2 (MQ below (QQ g Q) args s u.1 u.2.1 (own0 g)) (F0 m (pc + 3) ls (st.map (rv g))) := by
    intro H' e1 e2 e3
    refine k p' l e R s m args below meth c' g H' _ ls C ?_ hL (okt (okt hs)) hlocs
    refine hR.upd h64 hlt e2 e3 hn hcl hln hi hj hr (r1 hov (hR.2.2.2.1 p)) (r2 hov (hR.2.2.2.2.1 p)) ⟨fun c2 r2 x1 x2 => ?_, fun x1 x2 => ?_⟩
    · rw [hcl, hc] at x1
      have : c2 = c := by omega
      subst this
      cases hr0.symm.trans x2
      rw [hsl] at e1
      refine t_OB.to (V := updV (fun j => rv g (fv h p c2 j)) _ (rv g v)) ⟨_, e1, q2, q3, t_set q4 hap hk (rv g v)⟩ (fun j _ => ?_)
      rw [hfv j]
      unfold updV
      split <;> rfl
    · rw [hcl, hc] at x1
      have := (List.getElem?_eq_some_iff.mp hr0).1
      exfalso
      have h12 : c < 12 := this
      omega
  refine W.eq (g2 := F0 m pc ls (rv g v :: .ref (ad g p) :: st.map (rv g))) (by rw [List.map_cons, List.map_cons, rv_ref (by omega)]) ?_
  have hft := hfit g hov
  rcases hfin with hfin | ⟨hfin, hnm2, hcls⟩
  · rw [if_neg (by rw [hfin]; decide)] at hlay
    have h6 := u_store hfc hkC hkind hlay hi0 (hty _ hk) hft.1 hft.2
    exact W.putK C.1 C.2.1 (f := f) ⟨C.2.2.2.2.1, C.2.2.2.2.2.1 _ hw, ⟨_, _, _, hi1⟩, hst⟩ (by rw [q2]; exact h6) q1 q3 (by rw [hsl]; exact k2_hasslot (q4 _ hk)) rfl rfl hd1 fin
  · rw [if_pos hfin] at hlay
    have hcf : m.cls = cf := by
      obtain ⟨_, _, c', _, _, _, -, -, hf', -, -, -, hown2, -⟩ := Cond.laysFinal_spec hlay
      have e1 : c' = cf := by have := hi0.symm.trans hf'; simp at this; exact this.1.symm
      rw [hown, hcls] at hown2
      rw [← e1]; exact Option.some.inj (C.2.2.2.2.1.symm.trans hown2)
    have h6 := u_fits hfc hkC hkind (Or.inr hlay) hi0 (hty _ hk) hft.1 hft.2
    exact W.putFinK C.1 C.2.1 C.2.2.2.2.1 (C.2.2.2.2.2.1 _ hw) hi1 hst hcf (by rw [C.2.2.2.2.2.2.2.1]; exact hnm2) (by rw [q2]; exact h6) q1 q3 (by rw [hsl]; exact k2_hasslot (q4 _ hk)) rfl rfl hd1 fin
theorem T_rng (k : ((∀ q k, R32 (gi h q k)) ∧ ∀ q k, R64 (gj h q k)) → T d u M pc lo st h Q) : T d u M pc lo st h Q := by
  intro p' l e R s m args below meth c' g H locs ls C hR hL hs hlc
  exact k ⟨hR.2.2.2.1, hR.2.2.2.2.1⟩ p' l e R s m args below meth c' g H locs ls C hR hL hs hlc
theorem T_rlo (k : (∀ (i : Nat) (v : PV), lo[i]? = some (some v) → okv v) → T d u M pc lo st h Q) : T d u M pc lo st h Q := by
  intro p' l e R s m args below meth c' g H locs ls C hR hL hs hlc
  exact k hL.2.1 p' l e R s m args below meth c' g H locs ls C hR hL hs hlc
theorem T_rst (k : (∀ v ∈ st, okv v) → T d u M pc lo st h Q) : T d u M pc lo st h Q := by
  intro p' l e R s m args below meth c' g H locs ls C hR hL hs hlc
  exact k hs p' l e R s m args below meth c' g H locs ls C hR hL hs hlc
theorem T_putI {idx c k p : Nat} {x : Int} (hd : DI M pc (.putfield idx) 3 pc') (hf : FL M idx c k) (hfw : FW M c k) (hc : cl h p = c + 1) (hty : fty c k = .int) (kk : T d u M pc' lo st (si h p k x) Q) : T d u M pc lo (vI x :: vR p :: st) h Q := by
  refine put_core (h' := si h p k x) hd hf hfw hc (fun g _ => by rw [hty]; exact ⟨rfl, rfl⟩) rfl rfl rfl (fun q j hq => by show (if q = p ∧ j = k then x else gi h q j) = _; rw [if_neg (fun z => hq z.1)]) (fun _ _ _ => rfl) (fun _ _ _ => rfl) (fun hv h1 j => ?_) (fun _ h1 => h1) (fun j => ?_) kk
  · show R32 (if p = p ∧ j = k then x else gi h p j)
    split
    · exact hv
    · exact h1 j
  · by_cases hj : j = k
    · subst hj
      rw [if_pos rfl]
      unfold fv; rw [hty]
      show vI (if p = p ∧ j = j then x else gi h p j) = vI x
      rw [if_pos ⟨rfl, rfl⟩]
    · rw [if_neg hj]
      exact fv_eq (by show (if p = p ∧ j = k then x else gi h p j) = _; rw [if_neg (fun z => hj z.2)]) rfl rfl
theorem zfit {x : Int} (hx : x = 0 ∨ x = 1) : narrow .boolean (.int (Int32.ofInt x)) = .int (Int32.ofInt x) ∧ fits .boolean (.int (Int32.ofInt x)) = true := by rcases hx with rfl | rfl <;> exact ⟨by decide, by decide⟩
theorem T_putZ {idx c k p : Nat} {x : Int} (hd : DI M pc (.putfield idx) 3 pc') (hf : FL M idx c k) (hfw : FW M c k) (hc : cl h p = c + 1) (hty : fty c k = .boolean) (hx : x = 0 ∨ x = 1) (kk : T d u M pc' lo st (si h p k x) Q) : T d u M pc lo (vI x :: vR p :: st) h Q := by
  refine put_core (h' := si h p k x) hd hf hfw hc (fun g _ => by rw [hty]; exact zfit hx) rfl rfl rfl (fun q j hq => by show (if q = p ∧ j = k then x else gi h q j) = _; rw [if_neg (fun z => hq z.1)]) (fun _ _ _ => rfl) (fun _ _ _ => rfl) (fun hv h1 j => ?_) (fun _ h1 => h1) (fun j => ?_) kk
  · show R32 (if p = p ∧ j = k then x else gi h p j)
    split
    · exact hv
    · exact h1 j
  · by_cases hj : j = k
    · subst hj
      rw [if_pos rfl]
      unfold fv; rw [hty]
      show vI (if p = p ∧ j = j then x else gi h p j) = vI x
      rw [if_pos ⟨rfl, rfl⟩]
    · rw [if_neg hj]
      exact fv_eq (by show (if p = p ∧ j = k then x else gi h p j) = _; rw [if_neg (fun z => hj z.2)]) rfl rfl
theorem T_putJ {idx c k p : Nat} {x : Int} (hd : DI M pc (.putfield idx) 3 pc') (hf : FL M idx c k) (hfw : FW M c k) (hc : cl h p = c + 1) (hty : fty c k = .long) (kk : T d u M pc' lo st (sj h p k x) Q) : T d u M pc lo (vJ x :: vR p :: st) h Q := by
  refine put_core (h' := sj h p k x) hd hf hfw hc (fun g _ => by rw [hty]; exact ⟨rfl, rfl⟩) rfl rfl rfl (fun _ _ _ => rfl) (fun q j hq => by show (if q = p ∧ j = k then x else gj h q j) = _; rw [if_neg (fun z => hq z.1)]) (fun _ _ _ => rfl) (fun _ h1 => h1) (fun hv h1 j => ?_) (fun j => ?_) kk
  · show R64 (if p = p ∧ j = k then x else gj h p j)
    split
    · exact hv
    · exact h1 j
  · by_cases hj : j = k
    · subst hj
      rw [if_pos rfl]
      unfold fv; rw [hty]
      show vJ (if p = p ∧ j = j then x else gj h p j) = vJ x
      rw [if_pos ⟨rfl, rfl⟩]
    · rw [if_neg hj]
      exact fv_eq rfl (by show (if p = p ∧ j = k then x else gj h p j) = _; rw [if_neg (fun z => hj z.2)]) rfl
theorem fitR {g : Gx} {ty : FieldType} (hty : (∃ C, ty = .object C) ∨ ∃ t, ty = .array t) (x : Nat) : narrow ty (rv g (vR x)) = rv g (vR x) ∧ fits ty (rv g (vR x)) = true := by
  rcases hty with ⟨C, rfl⟩ | ⟨t, rfl⟩ <;> (show narrow _ (va_rf (rfo g x)) = va_rf (rfo g x) ∧ fits _ (va_rf (rfo g x)) = true; cases rfo g x <;> exact ⟨rfl, rfl⟩)
theorem T_putR {idx c k p x : Nat} (hd : DI M pc (.putfield idx) 3 pc') (hf : FL M idx c k) (hfw : FW M c k) (hc : cl h p = c + 1) (hty : (∃ C, fty c k = .object C) ∨ ∃ t, fty c k = .array t) (kk : T d u M pc' lo st (sr h p k x) Q) : T d u M pc lo (vR x :: vR p :: st) h Q := by
  refine put_core (h' := sr h p k x) hd hf hfw hc (fun g _ => fitR hty x) rfl rfl rfl (fun _ _ _ => rfl) (fun _ _ _ => rfl) (fun q j hq => by show (if q = p ∧ j = k then x else gr h q j) = _; rw [if_neg (fun z => hq z.1)]) (fun _ h1 => h1) (fun _ h1 => h1) (fun j => ?_) kk
  by_cases hj : j = k
  · subst hj
    rw [if_pos rfl]
    unfold fv
    rcases hty with ⟨C, hty⟩ | ⟨t, hty⟩ <;> (rw [hty]; show vR (if p = p ∧ j = j then x else gr h p j) = vR x; rw [if_pos ⟨rfl, rfl⟩])
  · rw [if_neg hj]
    exact fv_eq rfl rfl (by show (if p = p ∧ j = k then x else gr h p j) = _; rw [if_neg (fun z => hj z.2)])
end
