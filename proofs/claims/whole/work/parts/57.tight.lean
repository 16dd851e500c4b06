/-! THE CLASS: tight -/
def cC : Int := 1000000000000000
abbrev OW : Type := Option (Int × Int)
def mg : OW → OW → OW
  | none, b => b
  | some a, none => some a
  | some a, some b => if a.1 < b.1 then some a else if b.1 < a.1 then some b else some (a.1, min cC (a.2 + b.2))
def EM (h : PH) (e : Nat) : OW → Prop
  | none => gi h 121 e = 2147483647 ∧ gj h 122 e = 0
  | some p => gi h 121 e = p.1 ∧ gj h 122 e = p.2
def aLf (A : AS) (k f e : Nat) : Int := lefF (aS A) (apw A) k f e
def ofr (A : AS) (k f e : Nat) : OW → OW
  | none => none
  | some p => if 0 ≤ aLf A k f e then some (p.1 + (if e = c_n (aC A) then 0 else aLf A k f e * aLf A k f e), p.2) else none
def ofS (g : Nat → OW) : Nat → OW → OW
  | 0, a => a
  | f + 1, a => ofS g f (mg a (g f))
def tD (A : AS) : Nat → Nat → OW
  | 0, e => if e = 0 then some (0, 1) else none
  | k + 1, e => ofS (fun f => ofr A k f e (tD A k f)) e (tD A k e)
def OKo (e : Nat) (o : OW) : Prop := ∀ p, o = some p → 0 ≤ p.1 ∧ p.1 ≤ 40000 * e ∧ 1 ≤ p.2 ∧ p.2 ≤ cC
def r_tight (A : AS) : Int := if c_n (aC A) = 0 then -1 else match tD A (aS A).length (c_n (aC A)) with
  | none => 2147483647
  | some p => p.1
def r_tightWays (A : AS) : Int := if c_n (aC A) = 0 then -1 else match tD A (aS A).length (c_n (aC A)) with
  | none => 0
  | some p => p.2
theorem mg_none (a : OW) : mg a none = a := by cases a <;> rfl
theorem mg_ok {e : Nat} {a b : OW} (ha : OKo e a) (hb : OKo e b) : OKo e (mg a b) := by
  intro p hp
  cases a with
  | none => exact hb p hp
  | some x =>
    cases b with
    | none => exact ha p hp
    | some y =>
      have h1 := ha x rfl
      have h2 := hb y rfl
      have hp2 : (if x.1 < y.1 then some x else if y.1 < x.1 then some y else some (x.1, min cC (x.2 + y.2))) = some p := hp
      by_cases z : x.1 < y.1
      · rw [if_pos z] at hp2; cases hp2; exact h1
      · rw [if_neg z] at hp2
        by_cases y1 : y.1 < x.1
        · rw [if_pos y1] at hp2; cases hp2; exact h2
        · rw [if_neg y1] at hp2; cases hp2
          unfold cC at *
          dsimp only
          omega
theorem ofS_none {g : Nat → OW} : ∀ (f : Nat) (a : OW), (∀ j, j < f → g j = none) → ofS g f a = a := by
  intro f
  induction f with
  | zero => intro a _; rfl
  | succ f ih => intro a h; unfold ofS; rw [h f (by omega), mg_none]; exact ih a (fun j hj => h j (by omega))
theorem ofS_ok {g : Nat → OW} {e : Nat} : ∀ (f : Nat) (a : OW), (∀ j, j < f → OKo e (g j)) → OKo e a → OKo e (ofS g f a) := by
  intro f
  induction f with
  | zero => intro a _ h; exact h
  | succ f ih => intro a h1 h2; unfold ofS; exact ih _ (fun j hj => h1 j (by omega)) (mg_ok h2 (h1 f (by omega)))
theorem sq2 {x : Int} (h1 : 0 ≤ x) (h2 : x ≤ 200) : 0 ≤ x * x ∧ x * x ≤ 40000 := ⟨Int.mul_nonneg h1 h1, Int.mul_le_mul h2 h2 h1 (by omega)⟩
theorem aLf_up {A : AS} (okg : POK (A_g A)) {k : Nat} (hk : k < (aS A).length) {f e : Nat} (hf : f < e) : aLf A k f e ≤ 200 := by
  have o := okg.1
  have s := slt_rg (v := A_v A) (wi := A_w A) (ht := aH A) (by show 0 ≤ g_wi (A_g A); omega) (n := v_ln (A_v A)) hk
  have e1 : (slt (A_v A) (A_w A) (aH A) (v_ln (A_v A))) = aS A := rfl
  rw [e1] at s
  have t := sF_rg (apw_rg A) (e - f) f
  have w : A_w A ≤ 200 := o.2.1
  unfold aLf lefF
  omega
theorem ofr_ok {A : AS} (okg : POK (A_g A)) {k : Nat} (hk : k < (aS A).length) {f e : Nat} (hf : f < e) {o : OW} (ho : OKo f o) : OKo e (ofr A k f e o) := by
  intro p hp
  cases o with
  | none => exact absurd hp (by intro z; cases z)
  | some x =>
    have h1 := ho x rfl
    have hp2 : (if 0 ≤ aLf A k f e then some (x.1 + (if e = c_n (aC A) then 0 else aLf A k f e * aLf A k f e), x.2) else none) = some p := hp
    by_cases z : 0 ≤ aLf A k f e
    · rw [if_pos z] at hp2
      cases hp2
      have s := sq2 z (aLf_up okg hk hf)
      dsimp only
      split <;> omega
    · rw [if_neg z] at hp2; cases hp2
theorem tD_ok {A : AS} (okg : POK (A_g A)) : ∀ k, k ≤ (aS A).length → ∀ e, OKo e (tD A k e) := by
  intro k
  induction k with
  | zero =>
    intro _ e p hp
    have hp2 : (if e = 0 then some ((0 : Int), (1 : Int)) else none) = some p := hp
    split at hp2
    · cases hp2; unfold cC; dsimp only; omega
    · cases hp2
  | succ k ih =>
    intro hk e
    exact ofS_ok e _ (fun j hj => ofr_ok okg (by omega) hj (ih (by omega) j)) (ih (by omega) e)
theorem aLf_mono {A : AS} {k f g e : Nat} (h1 : g ≤ f) (h2 : f < e) : aLf A k g e ≤ aLf A k f e := by
  obtain ⟨j, rfl⟩ : ∃ j, f = g + j := ⟨f - g, by omega⟩
  induction j with
  | zero => exact Int.le_refl _
  | succ j ih =>
    have a := ih (by omega) (by omega)
    have b := apw_rg A (g + j)
    have e1 : sF (apw A) (e - (g + j)) (g + j) = apw A (g + j) + sF (apw A) (e - (g + (j + 1))) (g + j + 1) := by
      rw [show e - (g + j) = (e - (g + (j + 1))) + 1 by omega]; rfl
    unfold aLf lefF at a ⊢
    rw [e1] at a
    rw [show g + (j + 1) = g + j + 1 by omega] at a ⊢
    omega
def frBr : Nat → Nat → Prop := fun q _ => q = 121 ∨ q = 122
/-- the slots and the widths -/
def TE (h : PH) (A : AS) : Prop := SR h 220 (aS A) ∧ ∀ i, i < c_n (aC A) → gi h 120 i = apw A i
theorem TE.keep {h h' : PH} {A : AS} (t : TE h A) (F : fr frBr h h') : TE h' A := by
  obtain ⟨⟨a1, a2⟩, b⟩ := t
  refine ⟨⟨by rw [F.1 _ _ (by unfold frBr; omega)]; exact a1, fun k hk => ?_⟩, fun i hi => by rw [F.1 _ _ (by unfold frBr; omega)]; exact b i hi⟩
  rw [F.1 _ _ (by unfold frBr; omega), F.1 _ _ (by unfold frBr; omega), F.1 _ _ (by unfold frBr; omega)]; exact a2 k hk
theorem EM.keep {h h' : PH} {e : Nat} {o : OW} (m : EM h e o) (e1 : gi h' 121 e = gi h 121 e) (e2 : gj h' 122 e = gj h 122 e) : EM h' e o := by
  cases o with
  | none => exact ⟨by rw [e1]; exact m.1, by rw [e2]; exact m.2⟩
  | some p => exact ⟨by rw [e1]; exact m.1, by rw [e2]; exact m.2⟩
section
variable {d : Nat} {h : PH} {Q : Option PV → PH → Prop}
variable {A : AS} {a : Nat} {pt : Nat → PG}
theorem c_offer {e : Nat} (he : e < 31) {acc : OW} (hm : EM h e acc) (ho : OKo e acc) {r w : Int} (hr : 0 ≤ r ∧ r ≤ 2000000) (hw : 1 ≤ w ∧ w ≤ cC) (hq : ∀ h', EM h' e (mg acc (some (r, w))) → (∀ j, j ≠ e → gi h' 121 j = gi h 121 j ∧ gj h' 122 j = gj h 122 j) → fr frBr h h' → Q none h') : C2 (d + 1) mX0_offer [vR 119, vI (e : Int), vI r, vJ w] h Q := by
  unfold cC at hw
  refine EX0_offer fun _ _ _ => BX0_offer_0 ⟨⟨by omega, by omega⟩, ?_⟩
  try simp only [Int.toNat_natCast]
  have set : (mg acc (some (r, w)) = some (r, w)) → Q none (sj (si h 121 e r) 122 e w) := fun eq => by
    refine hq _ ?_ (fun j hj => ⟨?_, ?_⟩) ?_
    · rw [eq]
      exact ⟨by rw [gi_sj, gi_s0], by rw [gj_s0]⟩
    · rw [gi_sj, gi_s2 hj]
    · rw [gj_s2 hj, gj_si]
    · exact (fr.rf.si (by unfold frBr; omega)).sj (by unfold frBr; omega)
  cases acc with
  | none =>
    rw [hm.1]
    refine ⟨fun z => by omega, fun _ => ⟨⟨by omega, by omega⟩, fun h1 e1 => ⟨⟨by omega, by omega⟩, fun h2 e2 => ?_⟩⟩⟩
    subst e1 e2
    try simp only [Int.toNat_natCast]
    exact set rfl
  | some p =>
    have hp := ho p rfl
    unfold cC at hp
    rw [hm.1]
    have emg : mg (some p) (some (r, w)) = if p.1 < r then some p else if r < p.1 then some (r, w) else some (p.1, min cC (p.2 + w)) := rfl
    refine ⟨fun z => ⟨⟨by omega, by omega⟩, fun y => ?_, fun y => ⟨⟨by omega, by omega⟩, ?_⟩⟩, fun z => ⟨⟨by omega, by omega⟩, fun h1 e1 => ⟨⟨by omega, by omega⟩, fun h2 e2 => ?_⟩⟩⟩
    · rw [if_pos (by omega)] at emg
      refine hq h ?_ (fun j _ => ⟨rfl, rfl⟩) fr.rf
      rw [emg]; exact hm
    · rw [hm.2, w64_of (by omega) (by omega)]
      refine c_minJ (fun _ => ⟨⟨by omega, by omega⟩, fun h1 e1 => ?_⟩)
      subst e1
      try simp only [Int.toNat_natCast]
      rw [if_neg (by omega), if_neg (by omega)] at emg
      refine hq _ ?_ (fun j hj => ⟨?_, ?_⟩) ?_
      · rw [emg]
        exact ⟨by rw [gi_sj]; exact hm.1, by rw [gj_s0]; rfl⟩
      · rw [gi_sj]
      · rw [gj_s2 hj]
      · exact fr.rf.sj (by unfold frBr; omega)
    · subst e1 e2
      try simp only [Int.toNat_natCast]
      rw [if_neg (by omega), if_pos (by omega)] at emg
      exact set emg
theorem take_loop (okg : POK (A_g A)) {k e : Nat} (hk : k < (aS A).length) (hk2 : (aS A).length ≤ 140) (he : e ≤ c_n (aC A)) (hn : c_n (aC A) ≤ 30) {G : OW} (hq : ∀ h', EM h' e G → (∀ j, j ≠ e → gi h' 121 j = gi h 121 j ∧ gj h' 122 j = gj h 122 j) → fr frBr h h' → Q none h') :
    ∀ (f : Nat) (acc : OW) (h1 : PH), f ≤ e → TE h1 A → EM h1 e acc → OKo e acc → (∀ j, j < e → EM h1 j (tD A k j)) → (∀ j, j ≠ e → gi h1 121 j = gi h 121 j ∧ gj h1 122 j = gj h 122 j) → fr frBr h h1 → ofS (fun f => ofr A k f e (tD A k f)) f acc = G →
    T2 (d + 2) mX0_takeUpTo 8 [some (vR 119), some (vI (e : Int)), some (vI ((c_n (aC A) : Nat) : Int)), some (vR 219), some (vI (k : Int)), some (vI (sF (apw A) (e - f) f)), some (vI ((f : Int) - 1)), none, none] [] h1 Q := by
  have tok := tD_ok okg k (by omega)
  intro f
  induction f with
  | zero =>
    intro acc h1 hf T M O P S F eG
    refine BX0_takeUpTo_8 cl219 ⟨fun _ => ?_, fun z => by omega⟩
    have : acc = G := eG
    rw [this] at M
    exact hq h1 M S F
  | succ f ih =>
    intro acc h1 hf T M O P S F eG
    have tb := sF_rg (apw_rg A) (e - (f + 1)) (f + 1)
    have ab := apw_rg A f
    have e1 : sF (apw A) (e - f) f = apw A f + sF (apw A) (e - (f + 1)) (f + 1) := by
      rw [show e - f = (e - (f + 1)) + 1 by omega]; rfl
    have sr := T.1.2 k hk
    have o := okg.1
    have srr := slt_rg (v := A_v A) (wi := A_w A) (ht := aH A) (by show 0 ≤ g_wi (A_g A); omega) (n := v_ln (A_v A)) (k := k) hk
    have srr2 : 0 ≤ s_le (aS A) k ∧ s_le (aS A) k ≤ s_ri (aS A) k ∧ s_ri (aS A) k ≤ A_w A := srr.2
    have w200 : A_w A ≤ 200 := o.2.1
    have el : aLf A k f e = s_ri (aS A) k - s_le (aS A) k - sF (apw A) (e - f) f - ((e : Int) - f - 1) := rfl
    refine BX0_takeUpTo_8 cl219 ⟨fun z => by omega, fun _ => ⟨⟨by omega, by omega⟩, ?_⟩⟩
    rw [show (((f + 1 : Nat) : Int) - 1) = (f : Int) by omega]
    try simp only [Int.toNat_natCast]
    rw [T.2 f (by omega), w32_r (x := sF (apw A) (e - (f + 1)) (f + 1) + apw A f) (by omega) (by omega), w32_r (x := (e : Int) - f) (by omega) (by omega), show sF (apw A) (e - (f + 1)) (f + 1) + apw A f = sF (apw A) (e - f) f by omega]
    refine EX7_leftOver fun _ _ _ => BX7_leftOver_0 cl220 ⟨⟨by omega, by omega⟩, ⟨by omega, by omega⟩, fun _ => ?_⟩
    try simp only [Int.toNat_natCast]
    rw [sr.2.2, sr.2.1]
    rw [w32_r (x := s_ri (aS A) k - s_le (aS A) k) (by omega) (by omega), w32_r (x := s_ri (aS A) k - s_le (aS A) k - sF (apw A) (e - f) f) (by omega) (by omega), w32_r (x := (e : Int) - f - 1) (by omega) (by omega), w32_r (by omega) (by omega), ← el]
    have eG2 : ofS (fun f => ofr A k f e (tD A k f)) f (mg acc (ofr A k f e (tD A k f))) = G := eG
    refine ⟨fun z => ⟨⟨by omega, by omega⟩, ?_⟩, fun z => ?_⟩
    · have Pf := P f (by omega)
      have up := aLf_up okg hk (f := f) (e := e) (by omega)
      have sq := sq2 z up
      rw [show w32 ((f : Int) + -1) = (f : Int) - 1 by rw [w32_r (by omega) (by omega)]; omega]
      cases hf2 : tD A k f with
      | none =>
        rw [hf2] at Pf eG2
        refine ⟨fun _ => ?_, fun y => absurd Pf.1 y⟩
        have : ofr A k f e none = none := rfl
        rw [this, mg_none] at eG2
        exact ih acc h1 (by omega) T M O P S F eG2
      | some p =>
        rw [hf2] at Pf eG2
        have hp := tok f p hf2
        rw [Pf.1]
        refine ⟨fun y => by omega, fun _ => ⟨⟨by omega, by omega⟩, ?_⟩⟩
        have eo : ofr A k f e (some p) = some (p.1 + (if e = c_n (aC A) then 0 else aLf A k f e * aLf A k f e), p.2) := by
          show (if 0 ≤ aLf A k f e then _ else _) = _; rw [if_pos z]
        rw [eo] at eG2
        have at81 : ∀ x : Int, x = (if e = c_n (aC A) then 0 else aLf A k f e * aLf A k f e) → T2 (d + 2) mX0_takeUpTo 81 [some (vR 119), some (vI (e : Int)), some (vI ((c_n (aC A) : Nat) : Int)), some (vR 219), some (vI (k : Int)), some (vI (sF (apw A) (e - f) f)), some (vI (f : Int)), none, none] [vI x, vI p.1] h1 Q := by
          intro x hx
          have xr : 0 ≤ x ∧ x ≤ 40000 := by rw [hx]; split <;> omega
          refine BX0_takeUpTo_81 cl219 ⟨⟨by omega, by omega⟩, ?_⟩
          try simp only [Int.toNat_natCast]
          rw [Pf.2, w32_r (by omega) (by omega), show w32 ((f : Int) + -1) = (f : Int) - 1 by rw [w32_r (by omega) (by omega)]; omega]
          refine c_offer (by omega) M O (by omega) hp.2.2 (fun h2 b1 b2 b3 => ⟨rfl, ?_⟩)
          refine ih _ h2 (by omega) (T.keep b3) b1 ?_ (fun j hj => (P j hj).keep (b2 j (by omega)).1 (b2 j (by omega)).2) (fun j hj => ?_) (F.tr b3) ?_
          · refine mg_ok O (fun q hq2 => ?_)
            cases hq2
            dsimp only
            omega
          · rw [(b2 j hj).1, (b2 j hj).2]; exact S j hj
          · rw [hx]; exact eG2
        exact ⟨fun y => at81 _ (by rw [if_neg (by omega), w32_r (by omega) (by omega)]), fun y => at81 _ (by rw [if_pos (by omega)])⟩
    · have nn : ∀ j, j < f + 1 → ofr A k j e (tD A k j) = none := fun j hj => by
        cases tD A k j with
        | none => rfl
        | some p =>
          show (if 0 ≤ aLf A k j e then _ else _) = _
          have := aLf_mono (A := A) (k := k) (g := j) (f := f) (e := e) (by omega) (by omega)
          rw [if_neg (by omega)]
      rw [ofS_none (f + 1) acc nn] at eG
      rw [eG] at M
      exact hq h1 M S F
theorem ends_loop (okg : POK (A_g A)) {k : Nat} (hk : k < (aS A).length) (hk2 : (aS A).length ≤ 140) (hn : c_n (aC A) ≤ 30) (hq : ∀ h', TE h' A → (∀ e, e ≤ c_n (aC A) → EM h' e (tD A (k + 1) e)) → fr frBr h h' → T2 (d + 3) mX0_find 42 [some (vR 119), some (vR 219), some (vI ((c_n (aC A) : Nat) : Int)), some (vI ((k + 1 : Nat) : Int)), none] [] h' Q) :
    ∀ (e : Nat) (h1 : PH), e ≤ c_n (aC A) → TE h1 A → (∀ j, j ≤ e → EM h1 j (tD A k j)) → (∀ j, e < j → j ≤ c_n (aC A) → EM h1 j (tD A (k + 1) j)) → fr frBr h h1 → T2 (d + 3) mX0_find 56 [some (vR 119), some (vR 219), some (vI ((c_n (aC A) : Nat) : Int)), some (vI (k : Int)), some (vI (e : Int))] [] h1 Q := by
  have tok := tD_ok okg k (by omega)
  intro e
  induction e with
  | zero =>
    intro h1 he T P1 P2 F
    refine BX0_find_56 cl219 ⟨fun _ => ?_, fun z => by omega⟩
    rw [w32_r (by omega) (by omega), show ((k : Int) + 1) = ((k + 1 : Nat) : Int) by omega]
    refine hq h1 T (fun e he2 => ?_) F
    by_cases z : e = 0
    · rw [z]; exact P1 0 (Nat.le_refl _)
    · exact P2 e (by omega) he2
  | succ e ih =>
    intro h1 he T P1 P2 F
    refine BX0_find_56 cl219 ⟨fun z => by omega, fun _ => ?_⟩
    refine EX0_takeUpTo fun _ _ _ => BX0_takeUpTo_0 cl219 ?_
    rw [w32_r (x := ((e + 1 : Nat) : Int) - 1) (by omega) (by omega), show (0 : Int) = sF (apw A) (e + 1 - (e + 1)) (e + 1) by rw [Nat.sub_self]; rfl]
    refine take_loop (h := h1) okg hk hk2 he hn (G := tD A (k + 1) (e + 1)) (fun h2 b1 b2 b3 => ⟨rfl, ?_⟩) (e + 1) (tD A k (e + 1)) h1 (Nat.le_refl _) T (P1 _ (Nat.le_refl _)) (tok _) (fun j hj => P1 j (by omega)) (fun j _ => ⟨rfl, rfl⟩) fr.rf rfl
    rw [show w32 (((e + 1 : Nat) : Int) + -1) = (e : Int) by rw [w32_r (by omega) (by omega)]; omega]
    refine ih h2 (by omega) (T.keep b3) (fun j hj => (P1 j (by omega)).keep (b2 j (by omega)).1 (b2 j (by omega)).2) (fun j hj hj2 => ?_) (F.tr b3)
    by_cases z : j = e + 1
    · rw [z]; exact b1
    · exact (P2 j (by omega) hj2).keep (b2 j z).1 (b2 j z).2
theorem slots_loop2 (okg : POK (A_g A)) (hk2 : (aS A).length ≤ 140) (hn : c_n (aC A) ≤ 30) (hq : ∀ h', EM h' (c_n (aC A)) (tD A (aS A).length (c_n (aC A))) → fr frBr h h' → Q none (sj (si h' 119 3 (gi h' 121 (c_n (aC A)))) 119 4 (gj h' 122 (c_n (aC A))))) :
    ∀ (m k : Nat) (h1 : PH), k + m = (aS A).length → TE h1 A → (∀ e, e ≤ c_n (aC A) → EM h1 e (tD A k e)) → fr frBr h h1 → T2 (d + 3) mX0_find 42 [some (vR 119), some (vR 219), some (vI ((c_n (aC A) : Nat) : Int)), some (vI (k : Int)), none] [] h1 Q := by
  intro m
  induction m with
  | zero =>
    intro k h1 hk T P F
    refine BX0_find_42 cl219 ?_
    rw [T.1.1]
    refine ⟨fun _ => ⟨⟨by omega, by omega⟩, fun h2 e2 => ⟨⟨by omega, by omega⟩, fun h3 e3 => ?_⟩⟩, fun z => by omega⟩
    subst e2 e3
    try simp only [Int.toNat_natCast]
    rw [gj_si]
    have := P _ (Nat.le_refl _)
    rw [show k = (aS A).length by omega] at this
    exact hq h1 this F
  | succ m ih =>
    intro k h1 hk T P F
    refine BX0_find_42 cl219 ?_
    rw [T.1.1]
    refine ⟨fun z => by omega, fun _ => ?_⟩
    exact ends_loop okg (by omega) hk2 hn (fun h2 T2 P2 F2 => ih (k + 1) h2 (by omega) T2 P2 (F.tr F2)) (c_n (aC A)) h1 (Nat.le_refl _) T P (fun j h1 h2 => by omega) fr.rf
end
