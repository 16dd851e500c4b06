/-! THE MODEL: tight -/
def EQ (a b : Nat) (h : PH) (e : Nat) : OW → Prop
  | none => gi h a e = 268435456 ∧ gj h b e = 0
  | some p => gi h a e = p.1 ∧ gj h b e = p.2
theorem EQ.keep {a b a' b' : Nat} {h h' : PH} {e : Nat} {o : OW} (m : EQ a b h e o) (e1 : gi h' a' e = gi h a e) (e2 : gj h' b' e = gj h b e) : EQ a' b' h' e o := by
  cases o with
  | none => exact ⟨e1.trans m.1, e2.trans m.2⟩
  | some p => exact ⟨e1.trans m.1, e2.trans m.2⟩
def frTh : Nat → Nat → Prop := fun q _ => q = 268 ∨ q = 270
def frTi : Nat → Nat → Prop := fun q _ => 267 ≤ q ∧ q ≤ 270
theorem frTh_i {q k : Nat} (z : frTh q k) : frTi q k := by unfold frTh at z; unfold frTi; omega
theorem frTi_s {q k : Nat} (z : frTi q k) : frMs q k := by unfold frTi at z; unfold frMs; omega
theorem MB.ti {h h' : PH} {A : AS} (a : MB h A) (F : fr frTi h h') : MB h' A := a.keep (fun q k z => F.1 _ _ (by unfold frTi; omega))
def sL (A : AS) (k f e : Nat) : OW := if e < f then tD A (k + 1) e else ofA (fun j => ofr A k j e (tD A k j)) f
theorem sL_ok {A : AS} (okg : POK (A_g A)) {k : Nat} (hk : k < (aS A).length) (f e : Nat) : OKo e (sL A k f e) := by
  unfold sL
  split
  · exact tD_ok okg (k + 1) (by omega) e
  · rename_i c
    exact ofA_ok f (fun j hj => ofr_ok okg hk (by omega) (tD_ok okg k (by omega) j))
theorem sL_own {A : AS} (okg : POK (A_g A)) {k : Nat} (hk : k < (aS A).length) (f : Nat) : sL A k (f + 1) f = mg (sL A k f f) (tD A k f) := by
  unfold sL
  rw [if_pos (by omega), if_neg (by omega)]
  exact ofA_S (e := f) f _ (fun j hj => ofr_ok okg hk hj (tD_ok okg k (by omega) j)) (tD_ok okg k (by omega) f)
theorem sL_up {A : AS} {k f e : Nat} (h : f < e) : sL A k (f + 1) e = mg (sL A k f e) (ofr A k f e (tD A k f)) := by
  unfold sL
  rw [if_neg (by omega), if_neg (by omega)]; rfl
theorem sL_lo {A : AS} {k f e : Nat} (h : e < f) : sL A k (f + 1) e = sL A k f e := by
  unfold sL
  rw [if_pos (by omega), if_pos h]
section
variable {d : Nat} {h : PH} {Q : Option PV → PH → Prop}
variable {A : AS}
theorem m_betters {e : Nat} (he : e < 31) {acc : OW} (hm : EQ 268 270 h e acc) (ho : OKo e acc) {r w : Int} (hr : 0 ≤ r ∧ r ≤ 2000000) (hw : 1 ≤ w ∧ w ≤ cC) (hq : ∀ h', EQ 268 270 h' e (mg acc (some (r, w))) → (∀ j, j ≠ e → gi h' 268 j = gi h 268 j ∧ gj h' 270 j = gj h 270 j) → fr frTh h h' → Q none h') : C2 d mX11_betters [vR 247, vI (e : Int), vI r, vJ w] h Q := by
  have put : ∀ s0 : Int, mg acc (some (r, w)) = some (r, min cC s0) → T2 d mX11_betters 33 [some (vR 247), some (vI (e : Int)), some (vI r), none, none, none, none] [vJ s0] h Q := by
    intro s0 hs
    refine BX11_betters_33 ⟨⟨by omega, by omega⟩, fun h1 e1 => ⟨fun z => ⟨⟨by omega, by omega⟩, fun h2 e2 => ?_⟩, fun z => ⟨⟨by omega, by omega⟩, fun h2 e2 => ?_⟩⟩⟩
    · rw [Int.toNat_natCast] at e1 e2
      subst e2 e1
      refine hq _ ?_ (fun j hj => ⟨gi_s2 hj, gj_s2 hj⟩) ((fr.rf.si (by unfold frTh; omega)).sj (by unfold frTh; omega))
      rw [hs]
      refine ⟨gi_s0, ?_⟩
      show gj _ 270 e = min cC s0
      rw [gj_s0]; unfold cC; omega
    · rw [Int.toNat_natCast] at e1 e2
      subst e2 e1
      refine hq _ ?_ (fun j hj => ⟨gi_s2 hj, gj_s2 hj⟩) ((fr.rf.si (by unfold frTh; omega)).sj (by unfold frTh; omega))
      rw [hs]
      refine ⟨gi_s0, ?_⟩
      show gj _ 270 e = min cC s0
      rw [gj_s0]; unfold cC; omega
  refine EX11_betters fun _ _ _ => BX11_betters_0 ?_
  rw [Int.toNat_natCast]
  have hc : cC = 1000000000000000 := rfl
  cases acc with
  | none =>
    rw [hm.1, hm.2]
    refine ⟨⟨by omega, by omega⟩, fun _ => ⟨⟨by omega, by omega⟩, fun z => by omega, fun _ => put w ?_⟩, fun z => by omega⟩
    show some (r, w) = _
    rw [show min cC w = w by omega]
  | some a =>
    have oa := ho a rfl
    have eg : ∀ p q : Int × Int, mg (some p) (some q) = if p.1 < q.1 then some p else if q.1 < p.1 then some q else some (p.1, min cC (p.2 + q.2)) := fun _ _ => rfl
    have hm1 : gi h 268 e = a.1 := hm.1
    have hm2 : gj h 270 e = a.2 := hm.2
    rw [hm1, hm2]
    refine ⟨⟨by omega, by omega⟩, fun z => ⟨⟨by omega, by omega⟩, fun y => ⟨⟨by omega, by omega⟩, ?_⟩, fun y => put w ?_⟩, fun z => ?_⟩
    · rw [w64_of (by omega) (by omega)]
      refine put (a.2 + w) ?_
      rw [eg, if_neg (by show ¬ a.1 < r; omega), if_neg (by show ¬ r < a.1; omega), show a.1 = r by omega]
    · rw [eg, if_neg (by show ¬ a.1 < r; omega), if_pos (by show r < a.1; omega), show min cC w = w by omega]
    · refine hq h ?_ (fun j _ => ⟨rfl, rfl⟩) fr.rf
      rw [eg, if_pos (by show a.1 < r; omega)]
      exact hm
theorem tk_in (okg : POK (A_g A)) {k f : Nat} (hk : k < (aS A).length) (hk2 : (aS A).length ≤ 140) (hn : c_n (aC A) ≤ 30) (hf : f ≤ c_n (aC A)) {p : Int × Int} (hp : tD A k f = some p)
    (hq : ∀ h', MB h' A → (∀ e, e ≤ c_n (aC A) → EQ 268 270 h' e (sL A k (f + 1) e)) → (∀ e, e ≤ c_n (aC A) → EQ 267 269 h' e (tD A k e)) → fr frTh h h' → T2 (d + 1) mX11_takesSlot 34 [some (vR 247), some (vI (k : Int)), some (vI ((f + 1 : Nat) : Int)), none, none] [] h' Q) :
    ∀ (m t : Nat) (h1 : PH), t + m = c_n (aC A) + 1 → f < t → MB h1 A → (∀ e, e ≤ c_n (aC A) → EQ 268 270 h1 e (if e < t then sL A k (f + 1) e else sL A k f e)) → (∀ e, e ≤ c_n (aC A) → EQ 267 269 h1 e (tD A k e)) → fr frTh h h1 → T2 (d + 1) mX11_takesSlot 78 [some (vR 247), some (vI (k : Int)), some (vI (f : Int)), some (vI (t : Int)), none] [] h1 Q := by
  have po := tD_ok okg k (by omega) f p hp
  intro m
  induction m with
  | zero =>
    intro t h1 ht hft B E O F
    have e42 := B.2.1
    refine BX11_takesSlot_78 ⟨fun _ => ?_, fun z => by rw [e42] at z; omega⟩
    rw [w32_r (x := (f : Int) + 1) (by omega) (by omega), show (f : Int) + 1 = ((f + 1 : Nat) : Int) by omega]
    exact hq h1 B (fun e he => by have := E e he; rw [if_pos (by omega)] at this; exact this) O F
  | succ m ih =>
    intro t h1 ht hft B E O F
    have e42 := B.2.1
    refine BX11_takesSlot_78 ⟨fun z => by rw [e42] at z; omega, fun _ => ?_⟩
    rw [w32_r (x := (f : Int) + 1) (by omega) (by omega), show (f : Int) + 1 = ((f + 1 : Nat) : Int) by omega]
    refine m_leftIn okg B hk hk2 (by omega) (by omega) (fun _ => ⟨fun z => ?_, fun z => ?_⟩)
    · have z' : 0 ≤ aLf A k f t := z
      have up := aLf_up okg hk hft
      have s := sq2 z' up
      have of : OKo f (tD A k f) := tD_ok okg k (by omega) f
      have Of := O f hf
      rw [hp] at Of
      have f1 : gi h1 267 f = p.1 := Of.1
      have f2 : gj h1 269 f = p.2 := Of.2
      try simp only [Int.toNat_natCast]
      rw [e42, f1]
      have go : ∀ s3 : Int, s3 = (if t = c_n (aC A) then 0 else aLf A k f t * aLf A k f t) → T2 (d + 1) mX11_takesSlot 128 [some (vR 247), some (vI (k : Int)), some (vI (f : Int)), some (vI (t : Int)), none] [vI s3, vI p.1, vI (t : Int), vR 247] h1 Q := by
        intro s3 hs
        have s30 : 0 ≤ s3 ∧ s3 ≤ 40000 := by rw [hs]; split <;> omega
        refine BX11_takesSlot_128 ⟨⟨by omega, by omega⟩, ?_⟩
        rw [Int.toNat_natCast, f2, w32_r (x := p.1 + s3) (by omega) (by omega), w32_r (x := (t : Int) + 1) (by omega) (by omega), show (t : Int) + 1 = ((t + 1 : Nat) : Int) by omega]
        have Et := E t (by omega)
        rw [if_neg (by omega)] at Et
        refine m_betters (by omega) Et (sL_ok okg hk f t) (by omega) (by omega) (fun h2 E2 K2 F2 => ⟨rfl, ?_⟩)
        have eo : ofr A k f t (tD A k f) = some (p.1 + s3, p.2) := by
          rw [hp]
          show (if 0 ≤ aLf A k f t then some (p.1 + (if t = c_n (aC A) then 0 else aLf A k f t * aLf A k f t), p.2) else none) = _
          rw [if_pos z', hs]
        refine ih (t + 1) h2 (by omega) (by omega) (B.ti (F2.mono (fun q k z => frTh_i z))) (fun e he => ?_) (fun e he => (O e he).keep (F2.1 _ _ (by unfold frTh; omega)) (F2.2.1 _ _ (by unfold frTh; omega))) (F.tr F2)
        by_cases c : e = t
        · rw [c, if_pos (by omega), sL_up hft, eo]; exact E2
        · have Ee := (E e he).keep (a' := 268) (b' := 270) (h' := h2) (K2 e c).1 (K2 e c).2
          by_cases c2 : e < t
          · rw [if_pos c2] at Ee; rw [if_pos (by omega)]; exact Ee
          · rw [if_neg c2] at Ee; rw [if_neg (by omega)]; exact Ee
      refine ⟨⟨by omega, by omega⟩, fun y => ?_, fun y => ?_⟩
      · rw [show lefF (aS A) (apw A) k f t = aLf A k f t from rfl, w32_r (by omega) (by omega)]
        exact go _ (by rw [if_neg (by omega)])
      · exact go _ (by rw [if_pos (by omega)])
    · refine hq h1 B (fun e he => ?_) O F
      have Ee := E e he
      by_cases c : e < t
      · rw [if_pos c] at Ee; exact Ee
      · rw [if_neg c] at Ee
        have ng : aLf A k f e < 0 := by
          have := aLf_neg (A := A) (k := k) (f := f) (e := t) (by omega) z (e - t)
          rw [show t + (e - t) = e by omega] at this; exact this
        rw [sL_up (by omega), ofr_neg ng, mg_none]; exact Ee
theorem tk_out (okg : POK (A_g A)) {k : Nat} (hk : k < (aS A).length) (hk2 : (aS A).length ≤ 140) (hn : c_n (aC A) ≤ 30)
    (hq : ∀ h', MB h' A → (∀ e, e ≤ c_n (aC A) → EQ 268 270 h' e (tD A (k + 1) e)) → fr frTh h h' → T2 (d + 1) mX11_takesSlot 152 [some (vR 247), none, some (vI 0), none, none] [] h' Q) :
    ∀ (m f : Nat) (h1 : PH), f + m = c_n (aC A) + 1 → MB h1 A → (∀ e, e ≤ c_n (aC A) → EQ 268 270 h1 e (sL A k f e)) → (∀ e, e ≤ c_n (aC A) → EQ 267 269 h1 e (tD A k e)) → fr frTh h h1 → T2 (d + 1) mX11_takesSlot 34 [some (vR 247), some (vI (k : Int)), some (vI (f : Int)), none, none] [] h1 Q := by
  intro m
  induction m with
  | zero =>
    intro f h1 hf B E O F
    have e42 := B.2.1
    refine BX11_takesSlot_34 ⟨fun _ => ?_, fun z => by rw [e42] at z; omega⟩
    refine hq h1 B (fun e he => ?_) F
    have := E e he
    unfold sL at this
    rw [if_pos (by omega)] at this; exact this
  | succ m ih =>
    intro f h1 hf B E O F
    have e42 := B.2.1
    refine BX11_takesSlot_34 ⟨fun z => by rw [e42] at z; omega, fun _ => ⟨⟨by omega, by omega⟩, ?_⟩⟩
    rw [w32_r (x := (f : Int) + 1) (by omega) (by omega), show (f : Int) + 1 = ((f + 1 : Nat) : Int) by omega]
    try simp only [Int.toNat_natCast]
    have Of := O f (by omega)
    have of : OKo f (tD A k f) := tD_ok okg k (by omega) f
    cases ht : tD A k f with
    | none =>
      rw [ht] at Of
      rw [Of.1]
      refine ⟨fun z => absurd rfl z, fun _ => ?_⟩
      refine ih (f + 1) h1 (by omega) B (fun e he => ?_) O F
      have Ee := E e he
      by_cases c : e < f
      · rw [sL_lo c]; exact Ee
      · by_cases c2 : e = f
        · rw [c2] at Ee ⊢; rw [sL_own okg hk, ht, mg_none]; exact Ee
        · have en : ofr A k f e none = none := rfl
          rw [sL_up (by omega), ht, en, mg_none]; exact Ee
    | some p =>
      rw [ht] at Of of
      have po := of p rfl
      have f1 : gi h1 267 f = p.1 := Of.1
      have f2 : gj h1 269 f = p.2 := Of.2
      rw [f1, f2]
      refine ⟨fun _ => ⟨⟨by omega, by omega⟩, ⟨by omega, by omega⟩, ?_⟩, fun z => by omega⟩
      refine m_betters (by omega) (E f (by omega)) (sL_ok okg hk f f) (by omega) (by omega) (fun h2 E2 K2 F2 => ⟨rfl, ?_⟩)
      refine tk_in okg hk hk2 hn (by omega) ht (fun h3 B3 E3 O3 F3 => ih (f + 1) h3 (by omega) B3 E3 O3 ((F.tr F2).tr F3)) (c_n (aC A) - f) (f + 1) h2 (by omega) (by omega) (B.ti (F2.mono (fun q k z => frTh_i z))) (fun e he => ?_) (fun e he => (O e he).keep (F2.1 _ _ (by unfold frTh; omega)) (F2.2.1 _ _ (by unfold frTh; omega))) fr.rf
      by_cases c : e = f
      · rw [c, if_pos (by omega), sL_own okg hk, ht]; exact E2
      · have Ee := (E e he).keep (a' := 268) (b' := 270) (h' := h2) (K2 e c).1 (K2 e c).2
        by_cases c2 : e < f
        · rw [if_pos (by omega), sL_lo c2]; exact Ee
        · rw [if_neg (by omega)]; exact Ee
theorem m_takesSlot (okg : POK (A_g A)) {k : Nat} (hk : k < (aS A).length) (hk2 : (aS A).length ≤ 140) (hn : c_n (aC A) ≤ 30) (B : MB h A) (O : ∀ e, e ≤ c_n (aC A) → EQ 267 269 h e (tD A k e))
    (hq : ∀ h', MB h' A → (∀ e, e ≤ c_n (aC A) → EQ 267 269 h' e (tD A (k + 1) e)) → fr frTi h h' → Q none h') : C2 (d + 1) mX11_takesSlot [vR 247, vI (k : Int)] h Q := by
  refine EX11_takesSlot fun _ => BX11_takesSlot_0 ?_
  have copy : ∀ (m i : Nat) (h1 : PH), i + m = c_n (aC A) + 1 → MB h1 A → (∀ e, e ≤ c_n (aC A) → EQ 268 270 h1 e (tD A (k + 1) e)) → (∀ e, e < i → EQ 267 269 h1 e (tD A (k + 1) e)) → fr frTi h h1 → T2 (d + 1) mX11_takesSlot 152 [some (vR 247), none, some (vI (i : Int)), none, none] [] h1 Q := by
    intro m
    induction m with
    | zero =>
      intro i h1 hi B1 E1 O1 F1
      have e42 := B1.2.1
      refine BX11_takesSlot_152 ⟨fun _ => hq h1 B1 (fun e he => O1 e (by omega)) F1, fun z => by rw [e42] at z; omega⟩
    | succ m ih =>
      intro i h1 hi B1 E1 O1 F1
      have e42 := B1.2.1
      refine BX11_takesSlot_152 ⟨fun z => by rw [e42] at z; omega, fun _ => ⟨⟨by omega, by omega⟩, ⟨by omega, by omega⟩, fun h2 e2 => ⟨⟨by omega, by omega⟩, ⟨by omega, by omega⟩, fun h3 e3 => ?_⟩⟩⟩
      rw [w32_r (x := (i : Int) + 1) (by omega) (by omega), show (i : Int) + 1 = ((i + 1 : Nat) : Int) by omega]
      rw [Int.toNat_natCast] at e2 e3
      have F3 : fr frTi h1 h3 := by subst e3 e2; exact (fr.rf.si (by unfold frTi; omega)).sj (by unfold frTi; omega)
      refine ih (i + 1) h3 (by omega) (B1.ti F3) (fun e he => (E1 e he).keep ?_ ?_) (fun e he => ?_) (F1.tr F3)
      · subst e3 e2; rw [gi_sj, gi_s1 (by omega)]
      · subst e3 e2; rw [gj_s1 (by omega)]; rfl
      · by_cases c : e = i
        · subst c
          refine (E1 e (by omega)).keep ?_ ?_
          · subst e3 e2; exact gi_s0
          · subst e3 e2; rw [gj_s0]; rfl
        · refine (O1 e (by omega)).keep ?_ ?_
          · subst e3 e2; exact gi_s2 c
          · subst e3 e2; rw [gj_s2 c]; rfl
  have init : ∀ (m i : Nat) (h1 : PH), i + m = c_n (aC A) + 1 → MB h1 A → (∀ e, e < i → EQ 268 270 h1 e none) → fr frTh h h1 → T2 (d + 1) mX11_takesSlot 2 [some (vR 247), some (vI (k : Int)), some (vI (i : Int)), none, none] [] h1 Q := by
    intro m
    induction m with
    | zero =>
      intro i h1 hi B1 E1 F1
      have e42 := B1.2.1
      refine BX11_takesSlot_2 ⟨fun _ => ?_, fun z => by rw [e42] at z; omega⟩
      refine tk_out okg hk hk2 hn (fun h2 B2 E2 F2 => copy (c_n (aC A) + 1) 0 h2 (by omega) B2 E2 (fun e he => absurd he (Nat.not_lt_zero e)) ((F1.tr F2).mono (fun q k z => frTh_i z))) (c_n (aC A) + 1) 0 h1 (by omega) B1 (fun e he => ?_) (fun e he => (O e he).keep (F1.1 _ _ (by unfold frTh; omega)) (F1.2.1 _ _ (by unfold frTh; omega))) fr.rf
      have e0 : sL A k 0 e = none := by unfold sL; rw [if_neg (by omega)]; rfl
      rw [e0]; exact E1 e (by omega)
    | succ m ih =>
      intro i h1 hi B1 E1 F1
      have e42 := B1.2.1
      refine BX11_takesSlot_2 ⟨fun z => by rw [e42] at z; omega, fun _ => ⟨⟨by omega, by omega⟩, fun h2 e2 => ⟨⟨by omega, by omega⟩, fun h3 e3 => ?_⟩⟩⟩
      rw [w32_r (x := (i : Int) + 1) (by omega) (by omega), show (i : Int) + 1 = ((i + 1 : Nat) : Int) by omega]
      rw [Int.toNat_natCast] at e2 e3
      have F3 : fr frTh h1 h3 := by subst e3 e2; exact (fr.rf.si (by unfold frTh; omega)).sj (by unfold frTh; omega)
      refine ih (i + 1) h3 (by omega) (B1.ti (F3.mono (fun q k z => frTh_i z))) (fun e he => ?_) (F1.tr F3)
      by_cases c : e = i
      · subst c; subst e3 e2; exact ⟨gi_s0, gj_s0⟩
      · refine (E1 e (by omega)).keep ?_ ?_
        · subst e3 e2; exact gi_s2 c
        · subst e3 e2; exact gj_s2 c
  exact init (c_n (aC A) + 1) 0 h (by omega) B (fun e he => absurd he (Nat.not_lt_zero e)) fr.rf
theorem m_laysTight (X : RM h A) (hq : ∀ h', RM h' A → MPl h' A → (∀ e, e ≤ c_n (aC A) → EQ 267 269 h' e (tD A (aS A).length e)) → (∀ j, c_sl (aC A) j < ((aS A).length : Nat)) → fr frMo h h' → Q none h') : C2 (d + 10) mX11_laysTight [vR 247] h Q := by
  have n30 := aN_le X.1.1
  have l140 := aS_lenM X
  refine EX11_laysTight (BX11_laysTight_0 (n_now (d := d) X (fun h2 X2 M2 D2 F2 => ⟨rfl, m_laysPlaced X2 D2 (fun h3 P3 F3 => ⟨rfl, ?_⟩)⟩)))
  have F3' : fr frMs h2 h3 := F3.mono (fun q k z => by unfold frPl at z; unfold frMs; omega)
  have X3 := X2.keep F3'
  have B3 : MB h3 A := ⟨D2.1.2.1.keep (fun q k z => F3.1 _ _ (by unfold frPl; omega)), P3⟩
  have lt : ∀ j, c_sl (aC A) j < ((aS A).length : Nat) := fun j => (D2.1.2.1.2.2.2.2 j).2
  have slots : ∀ (m k : Nat) (h1 : PH), k + m = (aS A).length → MB h1 A → (∀ e, e ≤ c_n (aC A) → EQ 267 269 h1 e (tD A k e)) → fr frTi h3 h1 → T2 (d + 9 + 1) mX11_laysTight 58 [some (vR 247), some (vI (k : Int))] [] h1 Q := by
    intro m
    induction m with
    | zero =>
      intro k h1 hk B O F
      have e31 : gi h1 247 31 = (aS A).length := B.1.1.1
      refine BX11_laysTight_58 ⟨fun _ => ?_, fun z => by rw [e31] at z; omega⟩
      rw [show k = (aS A).length by omega] at O
      have F9 := F.mono (fun q k z => frTi_s z)
      exact hq h1 (X3.keep F9) B.2 O lt ((F2.tr (F3'.mono (fun q k z => frMs_o z))).tr (F9.mono (fun q k z => frMs_o z)))
    | succ m ih =>
      intro k h1 hk B O F
      have e31 : gi h1 247 31 = (aS A).length := B.1.1.1
      refine BX11_laysTight_58 ⟨fun z => by rw [e31] at z; omega, fun _ => ?_⟩
      rw [w32_r (x := (k : Int) + 1) (by omega) (by omega), show (k : Int) + 1 = ((k + 1 : Nat) : Int) by omega]
      exact m_takesSlot (d := d + 8) X.1.1 (by omega) l140 n30 B O (fun h4 B4 O4 F4 => ⟨rfl, ih (k + 1) h4 (by omega) B4 O4 (F.tr F4)⟩)
  have init : ∀ (m i : Nat) (h1 : PH), i + m = c_n (aC A) + 1 → MB h1 A → (∀ e, e < i → EQ 267 269 h1 e (tD A 0 e)) → fr frTi h3 h1 → T2 (d + 9 + 1) mX11_laysTight 10 [some (vR 247), some (vI (i : Int))] [] h1 Q := by
    intro m
    induction m with
    | zero =>
      intro i h1 hi B1 E1 F1
      have e42 := B1.2.1
      refine BX11_laysTight_10 ⟨fun _ => slots (aS A).length 0 h1 (by omega) B1 (fun e he => E1 e (by omega)) F1, fun z => by rw [e42] at z; omega⟩
    | succ m ih =>
      intro i h1 hi B1 E1 F1
      have e42 := B1.2.1
      have ci : CLf 267 = 20 := by decide +kernel
      have li : LNf 267 = 31 := by decide +kernel
      refine BX11_laysTight_10 ⟨fun z => by rw [e42] at z; omega, fun _ => ?_⟩
      have go : ∀ (s2 b2 : Int) (h3 : PH), s2 = (if i = 0 then 0 else 268435456) → b2 = (if i = 0 then 1 else 0) → h3 = sj (si h1 267 i s2) 269 i b2 → T2 (d + 9 + 1) mX11_laysTight 10 [some (vR 247), some (vI ((i + 1 : Nat) : Int))] [] h3 Q := by
        intro s2 b2 h3 hs hb e3
        have F3 : fr frTi h1 h3 := by subst e3; exact (fr.rf.si (by unfold frTi; omega)).sj (by unfold frTi; omega)
        refine ih (i + 1) h3 (by omega) (B1.ti F3) (fun e he => ?_) (F1.tr F3)
        by_cases c : e = i
        · subst c
          have et : tD A 0 e = if e = 0 then some (0, 1) else none := rfl
          rw [et]
          by_cases c0 : e = 0
          · rw [if_pos c0] at hs hb ⊢
            subst e3 hs hb
            exact ⟨gi_s0, gj_s0⟩
          · rw [if_neg c0] at hs hb ⊢
            subst e3 hs hb
            exact ⟨gi_s0, gj_s0⟩
        · refine (E1 e (by omega)).keep ?_ ?_
          · subst e3; exact gi_s2 c
          · subst e3; exact gj_s2 c
      refine ⟨fun z => BX11_laysTight_34 ci ⟨⟨by omega, by rw [li]; omega⟩, fun h4 e4 => ⟨fun _ => ⟨⟨by omega, by omega⟩, fun h5 e5 => ?_⟩, fun z0 => absurd z0 z⟩⟩, fun z => BX11_laysTight_34 ci ⟨⟨by omega, by rw [li]; omega⟩, fun h4 e4 => ⟨fun z0 => absurd z z0, fun _ => ⟨⟨by omega, by omega⟩, fun h5 e5 => ?_⟩⟩⟩⟩
      · rw [w32_r (x := (i : Int) + 1) (by omega) (by omega), show (i : Int) + 1 = ((i + 1 : Nat) : Int) by omega]
        rw [Int.toNat_natCast] at e4 e5
        exact go 268435456 0 h5 (by rw [if_neg (by omega)]) (by rw [if_neg (by omega)]) (by rw [e5, e4])
      · rw [w32_r (x := (i : Int) + 1) (by omega) (by omega), show (i : Int) + 1 = ((i + 1 : Nat) : Int) by omega]
        rw [Int.toNat_natCast] at e4 e5
        exact go 0 1 h5 (by rw [if_pos (by omega)]) (by rw [if_pos (by omega)]) (by rw [e5, e4])
  exact init (c_n (aC A) + 1) 0 h3 (by omega) B3 (fun e he => absurd he (Nat.not_lt_zero e)) fr.rf
theorem tD_end {A : AS} (lt : ∀ j, c_sl (aC A) j < ((aS A).length : Nat)) : tD A (aS A).length (c_n (aC A)) ≠ none := by
  have e : aCm A (aS A).length = c_n (aC A) := by
    have a := aCm_eq A (aS A).length
    have b := aN_eq A
    have c := cmL_all (sl := c_sl (aC A)) (k := (((aS A).length : Nat) : Int)) (g_W (A_g A)) (fun j _ _ => lt j)
    omega
  rw [← e]; exact tD_some A _
theorem n_tight (X : RM h A) (hq : ∀ h', RM h' A → fr frMo h h' → Q (some (vI (r_tight A))) h') : C2 (d + 11) mX11_tight [vR 247] h Q := by
  have n30 := aN_le X.1.1
  refine EX11_tight (BX11_tight_0 (fun h1 e1 => ?_))
  obtain ⟨X1, F1⟩ := X.z e1
  refine m_laysTight (d := d) X1 (fun h2 X2 P2 E2 lt F2 => ⟨rfl, ?_⟩)
  have hq2 := hq h2 X2 (F1.tr F2)
  unfold r_tight at hq2
  have e42 := P2.1
  dsimp only
  rw [e42]
  refine ⟨fun z => ⟨⟨by omega, by omega⟩, ?_⟩, fun z => ?_⟩
  · rw [Int.toNat_natCast]
    rw [if_neg (by omega)] at hq2
    have E := E2 (c_n (aC A)) (Nat.le_refl _)
    cases ht : tD A (aS A).length (c_n (aC A)) with
    | none => exact absurd ht (tD_end lt)
    | some p =>
      rw [ht] at E hq2
      have E1 : gi h2 267 (c_n (aC A)) = p.1 := E.1
      rw [E1]; exact hq2
  · rw [if_pos (by omega)] at hq2; exact hq2
theorem n_tightWays (X : RM h A) (hq : ∀ h', RM h' A → fr frMo h h' → Q (some (vJ (r_tightWays A))) h') : C2 (d + 11) mX11_tightWays [vR 247] h Q := by
  have n30 := aN_le X.1.1
  refine EX11_tightWays (BX11_tightWays_0 (fun h1 e1 => ?_))
  obtain ⟨X1, F1⟩ := X.z e1
  refine m_laysTight (d := d) X1 (fun h2 X2 P2 E2 lt F2 => ⟨rfl, ?_⟩)
  have hq2 := hq h2 X2 (F1.tr F2)
  unfold r_tightWays at hq2
  have e42 := P2.1
  dsimp only
  rw [e42]
  refine ⟨fun z => ⟨⟨by omega, by omega⟩, ?_⟩, fun z => ?_⟩
  · rw [Int.toNat_natCast]
    rw [if_neg (by omega)] at hq2
    have E := E2 (c_n (aC A)) (Nat.le_refl _)
    cases ht : tD A (aS A).length (c_n (aC A)) with
    | none => exact absurd ht (tD_end lt)
    | some p =>
      rw [ht] at E hq2
      have E1 : gj h2 269 (c_n (aC A)) = p.2 := E.2
      rw [E1]; exact hq2
  · rw [if_pos (by omega)] at hq2; exact hq2
end
