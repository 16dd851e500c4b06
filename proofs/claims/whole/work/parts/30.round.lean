/-! THE CLASS: rounds -/
theorem stp_rg {v : VW} {L : SL} {c : CF} (hc : ∀ j, -1 ≤ c_sl c j ∧ c_sl c j < L.length) : ∀ j, -1 ≤ c_sl (stp v L c) j ∧ c_sl (stp v L c) j < L.length := by
  intro j
  have h0 := hc j
  unfold stp
  split
  · rename_i hk
    split
    · exact h0
    · split
      · show -1 ≤ upf (c_sl c) (c_w c) (c_k c) j ∧ upf (c_sl c) (c_w c) (c_k c) j < L.length
        unfold upf
        split <;> omega
      · exact h0
  · exact h0
theorem itr_rg {v : VW} {L : SL} : ∀ (n : Nat) (c : CF), (∀ j, -1 ≤ c_sl c j ∧ c_sl c j < L.length) → ∀ j, -1 ≤ c_sl (itr v L n c) j ∧ c_sl (itr v L n c) j < L.length := by
  intro n
  induction n with
  | zero => intro c hc; exact hc
  | succ n ih => intro c hc; exact ih _ (stp_rg hc)
theorem prd_rg (v : VW) (wi : Int) (ht : Nat → Int) (j : Nat) : -1 ≤ c_sl (prd v wi ht) j ∧ c_sl (prd v wi ht) j < (slA v wi ht).length :=
  itr_rg _ _ (fun j => ⟨Int.le_refl _, by show (-1 : Int) < _; omega⟩) j
theorem lnW_rg {v : VW} {wi : Int} (hw : 0 ≤ wi) {ht : Nat → Int} (w : Int) : -1 ≤ lnW v wi ht w ∧ lnW v wi ht w < v_ln v := by
  unfold lnW
  split
  · rename_i h
    obtain ⟨a, b⟩ := prd_rg v wi ht w.toNat
    have := (slt_rg (v := v) hw (ht := ht) (n := v_ln v) (k := (c_sl (prd v wi ht) w.toNat).toNat) (by unfold slA at b; omega)).1
    unfold slA
    omega
  · omega
theorem lnW_neg {v : VW} {wi : Int} {ht : Nat → Int} {w : Int} (h : w < 0) : lnW v wi ht w = -1 := by unfold lnW; rw [if_neg (by omega)]
theorem hts_rg {v : VW} (ok : VOK v) {wi asd : Int} (hw : 0 ≤ wi) (k : Nat) {i : Nat} (hi : i < v_S v) : -1 ≤ hts v wi asd k i ∧ hts v wi asd k i ≤ 1000 := by
  obtain ⟨-, -, -, -, -, -, -, -, -, -, k9, k10, k11, k12⟩ := ok.2.1 i hi
  cases k with
  | zero =>
    show -1 ≤ ht0 v asd i ∧ ht0 v asd i ≤ 1000
    unfold ht0; split <;> omega
  | succ k =>
    show -1 ≤ htN v asd (rowS v wi asd (hts v wi asd k)) i ∧ htN v asd (rowS v wi asd (hts v wi asd k)) i ≤ 1000
    unfold htN
    split
    · omega
    · split
      · omega
      · split
        · omega
        · rename_i h1 h2 h3
          have e : rowS v wi asd (hts v wi asd k) i = lnW v wi (hts v wi asd k) (v_ti v i) := by unfold rowS; rw [if_neg h1]
          rw [e] at h3 ⊢
          have := lnW_rg (v := v) hw (ht := hts v wi asd k) (v_ti v i)
          have ok1 := ok.1
          have := mul_rg (a := v_hi v) (A := 20) (b := lnW v wi (hts v wi asd k) (v_ti v i)) (B := 20) (by omega) (by omega) (by omega) (by omega)
          omega
def tdT (v : VW) (asd : Int) (i : Nat) : Int := if (i : Int) = asd then -1 else v_ti v i
def anyN (v : VW) (asd : Int) (n : Nat) : Bool := (List.range n).any (fun s => decide (v_ti v s ≠ -1) && decide ((s : Int) ≠ asd))
theorem anyN_succ (v : VW) (asd : Int) (n : Nat) : anyN v asd (n + 1) = (anyN v asd n || decide (tdT v asd n ≠ -1)) := by
  unfold anyN tdT
  rw [List.range_succ, List.any_append]
  congr 1
  rw [List.any_cons, List.any_nil, Bool.or_false]
  by_cases e : (n : Int) = asd
  · rw [if_pos e]; simp [e]
  · rw [if_neg e]; simp [e]
section
variable {d : Nat} {h : PH} {Q : Option PV → PH → Prop}
variable {t p s ink : Nat} {v : VW} {wi asd : Int}
def frG (t : Nat) : Nat → Nat → Prop := fun q _ => q = t + 11 ∨ q = t + 12
theorem free_loop (X0 : StC h t p s ink v wi) (hq : ∀ h', (∀ i, i < v_S v → gi h' (t + 11) i = ht0 v asd i ∧ gi h' (t + 12) i = tdT v asd i) → fr (frG t) h h' → Q (some (vI (if anyT v asd then 1 else 0))) h') :
    ∀ (m i : Nat) (h1 : PH), i + m = v_S v → (∀ j, j < i → gi h1 (t + 11) j = ht0 v asd j ∧ gi h1 (t + 12) j = tdT v asd j) → fr (frG t) h h1 → T2 d mX6_setFreeShapes 4 [some (vR t), some (vI asd), some (vI (if anyN v asd i then 1 else 0)), some (vI (i : Int))] [] h1 Q := by
  have ok1 := X0.2.2.2.1.1
  intro m
  induction m with
  | zero =>
    intro i h1 hi hj hF
    have X := X0.keep (hF.mono (fun q k z => by unfold frG at z; unfold frT; omega))
    obtain ⟨⟨x1, x2, x3, x3', x4, x5, x6⟩, ⟨y1, y2, y3⟩, ⟨⟨a1, a2, a3, a4, a5, a6, a7⟩, b, -⟩, -⟩ := X
    refine BX6_setFreeShapes_4 x1 ⟨fun _ => ⟨by split <;> omega, ?_⟩, fun z => by rw [y1, a4] at z; omega⟩
    have ei : i = v_S v := by omega
    subst ei
    exact hq h1 hj hF
  | succ m ih =>
    intro i h1 hi hj hF
    have X := X0.keep (hF.mono (fun q k z => by unfold frG at z; unfold frT; omega))
    obtain ⟨⟨x1, x2, x3, x3', x4, x5, x6⟩, ⟨y1, y2, y3⟩, ⟨⟨a1, a2, a3, a4, a5, a6, a7⟩, b, -⟩, -⟩ := X
    obtain ⟨b1, b2, b3, b4, b5, b6⟩ := b i (by omega)
    have step72 : T2 d mX6_setFreeShapes 72 [some (vR t), some (vI asd), some (vI (if anyN v asd i then 1 else 0)), some (vI (i : Int))] [vI (ht0 v asd i), vI (i : Int), vR (t + 11)] (si h1 (t + 12) i (tdT v asd i)) Q := by
      refine BX6_setFreeShapes_72 x1 (rf_6_6 x1) ?_
      rw [rl_6_6 x1]
      refine ⟨⟨by omega, by omega⟩, fun h2 e2 => ?_⟩
      subst e2
      simp only [Int.toNat_natCast]
      simp (disch := omega) only [gi_s0, gi_s1, gi_s2, gj_s0, gj_s1, gj_s2, gi_f0, gi_f1, gj_f0, gj_f1, gr_r0, gr_r1, gr_r2, gi_sj, gi_sr, gj_si, gj_sr, gr_si, gr_sj, gr_stI, gj_stI, gi_stJ, gr_stJ]
      rw [w32_r (by omega) (by omega), show ((i : Int) + 1) = ((i + 1 : Nat) : Int) by omega]
      have fin := ih (i + 1) (si (si h1 (t + 12) i (tdT v asd i)) (t + 11) i (ht0 v asd i)) (by omega) (fun j hj2 => by
        by_cases e : j = i
        · subst e; simp (disch := omega) only [gi_s0, gi_s1, gi_s2, gj_s0, gj_s1, gj_s2, gi_f0, gi_f1, gj_f0, gj_f1, gr_r0, gr_r1, gr_r2, gi_sj, gi_sr, gj_si, gj_sr, gr_si, gr_sj, gr_stI, gj_stI, gi_stJ, gr_stJ]; exact ⟨trivial, trivial⟩
        · simp (disch := omega) only [gi_s0, gi_s1, gi_s2, gj_s0, gj_s1, gj_s2, gi_f0, gi_f1, gj_f0, gj_f1, gr_r0, gr_r1, gr_r2, gi_sj, gi_sr, gj_si, gj_sr, gr_si, gr_sj, gr_stI, gj_stI, gi_stJ, gr_stJ]; exact hj j (by omega)) ((hF.si (by unfold frG; omega)).si (by unfold frG; omega))
      rw [anyN_succ] at fin
      refine ⟨fun z => ?_, fun z => ⟨⟨by omega, by omega⟩, fun z2 => ?_, fun z2 => ?_⟩⟩
      · have e : anyN v asd i = true := by
          cases hb : anyN v asd i with
          | true => rfl
          | false => rw [hb] at z; simp at z
        rw [e] at fin; exact fin
      · have e : anyN v asd i = false := by
          cases hb : anyN v asd i with
          | false => rfl
          | true => rw [hb] at z; simp at z
        rw [e, decide_eq_false (by omega)] at fin; exact fin
      · have e : anyN v asd i = false := by
          cases hb : anyN v asd i with
          | false => rfl
          | true => rw [hb] at z; simp at z
        rw [e, decide_eq_true z2] at fin; exact fin
    have step38 : T2 d mX6_setFreeShapes 38 [some (vR t), some (vI asd), some (vI (if anyN v asd i then 1 else 0)), some (vI (i : Int))] [vI (tdT v asd i), vI (i : Int), vR (t + 12)] h1 Q := by
      refine BX6_setFreeShapes_38 x1 (rf_6_7 x1) ?_
      rw [rl_6_7 x1]
      refine ⟨⟨by omega, by omega⟩, fun h2 e2 => ?_⟩
      subst e2
      simp only [Int.toNat_natCast]
      simp (disch := omega) only [gi_s0, gi_s1, gi_s2, gj_s0, gj_s1, gj_s2, gi_f0, gi_f1, gj_f0, gj_f1, gr_r0, gr_r1, gr_r2, gi_sj, gi_sr, gj_si, gj_sr, gr_si, gr_sj, gr_stI, gj_stI, gi_stJ, gr_stJ]
      refine ⟨fun z => BX6_setFreeShapes_59 x1 (rf_6_6 x1) ?_, fun z => ⟨⟨by omega, by omega⟩, fun z2 => ⟨⟨by omega, by omega⟩, ?_⟩, fun z2 => BX6_setFreeShapes_59 x1 (rf_6_6 x1) ?_⟩⟩
      · have e : ht0 v asd i = -1 := by unfold ht0; rw [if_pos (Or.inl z)]
        rw [← e]; exact step72
      · rw [y2]
        have e : ht0 v asd i = v_y v i := by
          unfold ht0; unfold tdT at z2; rw [if_neg z] at z2; rw [if_neg (by omega)]
        rw [b5, ← e]; exact step72
      · have e : ht0 v asd i = -1 := by
          unfold ht0; unfold tdT at z2; rw [if_neg z] at z2; rw [if_pos (Or.inr z2)]
        rw [← e]; exact step72
    refine BX6_setFreeShapes_4 x1 ⟨fun z => by rw [y1, a4] at z; omega, fun _ => ⟨fun z => ⟨⟨by omega, by omega⟩, ?_⟩, fun z => ?_⟩⟩
    · simp only [Int.toNat_natCast]
      rw [y2, b6]
      have e : tdT v asd i = v_ti v i := by unfold tdT; rw [if_neg z]
      rw [← e]; exact step38
    · have e : tdT v asd i = -1 := by unfold tdT; rw [if_pos z]
      rw [← e]; exact step38
theorem c_setFree (X : StC h t p s ink v wi) (hq : ∀ h', (∀ i, i < v_S v → gi h' (t + 11) i = ht0 v asd i ∧ gi h' (t + 12) i = tdT v asd i) → fr (frG t) h h' → Q (some (vI (if anyT v asd then 1 else 0))) h') : C2 d mX6_setFreeShapes [vR t, vI asd] h Q := by
  have := free_loop (d := d) X hq (v_S v) 0 h (by omega) (fun j hj => by omega) fr.rf
  exact EX6_setFreeShapes fun _ => BX6_setFreeShapes_0 X.1.1 this
def frH (t : Nat) : Nat → Nat → Prop := fun q _ => q = t + 11
theorem tied_loop (X0 : StC h t p s ink v wi) {n k : Nat} (hP : PO h t v wi (hts v wi asd k) n) (hH : ∀ i, i < v_S v → gi h (t + 11) i = hts v wi asd k i ∧ gi h (t + 12) i = tdT v asd i)
    (hq : ∀ h', (∀ i, i < v_S v → gi h' (t + 11) i = hts v wi asd (k + 1) i) → fr (frH t) h h' → Q none h') :
    ∀ (m i : Nat) (h1 : PH), i + m = v_S v → (∀ j, j < i → gi h1 (t + 11) j = hts v wi asd (k + 1) j) → (∀ j, i ≤ j → gi h1 (t + 11) j = gi h (t + 11) j) → fr (frH t) h h1 → T2 (d + 1) mX6_setTiedShapes 2 [some (vR t), some (vI (i : Int)), none] [] h1 Q := by
  have ok := X0.2.2.2.1
  have ok1 := ok.1
  intro m
  induction m with
  | zero =>
    intro i h1 hi hj hj2 hF
    have X := X0.keep (hF.mono (fun q k z => by unfold frH at z; unfold frT; omega))
    obtain ⟨⟨x1, x2, x3, x3', x4, x5, x6⟩, ⟨y1, y2, y3⟩, ⟨⟨a1, a2, a3, a4, a5, a6, a7⟩, b, -⟩, -⟩ := X
    refine BX6_setTiedShapes_2 x1 ⟨fun _ => ?_, fun z => by rw [y1, a4] at z; omega⟩
    have ei : i = v_S v := by omega
    subst ei
    exact hq h1 hj hF
  | succ m ih =>
    intro i h1 hi hj hj2 hF
    have X := X0.keep (hF.mono (fun q k z => by unfold frH at z; unfold frT; omega))
    obtain ⟨⟨x1, x2, x3, x3', x4, x5, x6⟩, ⟨y1, y2, y3⟩, ⟨⟨a1, a2, a3, a4, a5, a6, a7⟩, b, -⟩, -⟩ := id X
    obtain ⟨b1, b2, b3, b4, b5, b6⟩ := b i (by omega)
    have hi' : i < v_S v := by omega
    obtain ⟨z1, z2⟩ := hH i hi'
    obtain ⟨r1, r2⟩ := hts_rg ok (asd := asd) X0.2.2.2.2.1 (k + 1) hi'
    obtain ⟨-, -, -, -, -, -, -, -, -, -, k9, k10, k11, k12⟩ := ok.2.1 i hi'
    have hP1 : PO h1 t v wi (hts v wi asd k) n := hP.keep (fun q k z => hF.1 _ _ (by unfold frH; omega))
    have go : ∀ h2 : PH, h2 = si h1 (t + 11) i (hts v wi asd (k + 1) i) → T2 (d + 1) mX6_setTiedShapes 2 [some (vR t), some (vI (((i + 1 : Nat)) : Int)), none] [] h2 Q := by
      intro h2 e2
      subst e2
      refine ih (i + 1) _ (by omega) (fun j hj3 => ?_) (fun j hj3 => ?_) (hF.si (by unfold frH; omega))
      · by_cases e : j = i
        · subst e; simp (disch := omega) only [gi_s0, gi_s1, gi_s2, gj_s0, gj_s1, gj_s2, gi_f0, gi_f1, gj_f0, gj_f1, gr_r0, gr_r1, gr_r2, gi_sj, gi_sr, gj_si, gj_sr, gr_si, gr_sj, gr_stI, gj_stI, gi_stJ, gr_stJ]
        · simp (disch := omega) only [gi_s0, gi_s1, gi_s2, gj_s0, gj_s1, gj_s2, gi_f0, gi_f1, gj_f0, gj_f1, gr_r0, gr_r1, gr_r2, gi_sj, gi_sr, gj_si, gj_sr, gr_si, gr_sj, gr_stI, gj_stI, gi_stJ, gr_stJ]; exact hj j (by omega)
      · simp (disch := omega) only [gi_s0, gi_s1, gi_s2, gj_s0, gj_s1, gj_s2, gi_f0, gi_f1, gj_f0, gj_f1, gr_r0, gr_r1, gr_r2, gi_sj, gi_sr, gj_si, gj_sr, gr_si, gr_sj, gr_stI, gj_stI, gi_stJ, gr_stJ]; exact hj2 j (by omega)
    refine BX6_setTiedShapes_2 x1 ⟨fun z => by rw [y1, a4] at z; omega, fun _ => ⟨⟨by omega, by omega⟩, ?_⟩⟩
    simp only [Int.toNat_natCast]
    rw [hF.1 (t + 12) i (by unfold frH; omega), z2, w32_r (x := (i : Int) + 1) (by omega) (by omega), show ((i : Int) + 1) = ((i + 1 : Nat) : Int) by omega]
    refine ⟨fun z => ?_, fun z => ⟨⟨by omega, by omega⟩, ?_⟩⟩
    · have e : hts v wi asd (k + 1) i = hts v wi asd k i := by
        show htN v asd (rowS v wi asd (hts v wi asd k)) i = _
        unfold htN
        unfold tdT at z
        by_cases e : (i : Int) = asd
        · rw [if_pos e]
          cases k with
          | zero => show _ = ht0 v asd i; unfold ht0; rw [if_pos (Or.inl e)]
          | succ k => show _ = htN v asd _ i; unfold htN; rw [if_pos e]
        · rw [if_neg e] at z
          rw [if_neg e, if_pos z]
          cases k with
          | zero => show _ = ht0 v asd i; unfold ht0; rw [if_neg (by omega)]
          | succ k => show _ = htN v asd _ i; unfold htN; rw [if_neg e, if_pos z]
      refine ih (i + 1) h1 (by omega) (fun j hj3 => ?_) (fun j hj3 => hj2 j (by omega)) hF
      by_cases ej : j = i
      · subst ej; rw [hj2 j (Nat.le_refl _), z1, e]
      · exact hj j (by omega)
    · unfold tdT at z ⊢
      have e1 : ¬ (i : Int) = asd := fun e => z (if_pos e)
      rw [if_neg e1] at z ⊢
      have e2 : hts v wi asd (k + 1) i = if lnW v wi (hts v wi asd k) (v_ti v i) < 0 then -1 else v_y v i + v_hi v * lnW v wi (hts v wi asd k) (v_ti v i) := by
        show htN v asd (rowS v wi asd (hts v wi asd k)) i = _
        unfold htN rowS
        rw [if_neg e1, if_neg z, if_neg e1]
      have hl := lnW_rg (v := v) X0.2.2.2.2.1 (ht := hts v wi asd k) (v_ti v i)
      refine c_lineOf X hP1 (by omega) (fun _ => ⟨fun y => ⟨⟨by omega, by omega⟩, ⟨by omega, by omega⟩, fun h2 eh => ?_⟩, fun y => ⟨⟨by omega, by omega⟩, fun h2 eh => ?_⟩⟩)
      · rw [if_neg (by omega)] at e2
        have hm := mul_rg (a := v_hi v) (A := 20) (b := lnW v wi (hts v wi asd k) (v_ti v i)) (B := 20) (by omega) (by omega) (by omega) (by omega)
        rw [y1, y2, b5, a2, w32_r (x := v_hi v * lnW v wi (hts v wi asd k) (v_ti v i)) (by omega) (by omega), w32_r (by omega) (by omega), ← e2] at eh
        exact go h2 eh
      · rw [if_pos (by omega)] at e2
        rw [← e2] at eh
        exact go h2 eh
theorem c_setTied (X : StC h t p s ink v wi) {n k : Nat} (hP : PO h t v wi (hts v wi asd k) n) (hH : ∀ i, i < v_S v → gi h (t + 11) i = hts v wi asd k i ∧ gi h (t + 12) i = tdT v asd i)
    (hq : ∀ h', (∀ i, i < v_S v → gi h' (t + 11) i = hts v wi asd (k + 1) i) → fr (frH t) h h' → Q none h') : C2 (d + 1) mX6_setTiedShapes [vR t] h Q :=
  EX6_setTiedShapes (BX6_setTiedShapes_0 X.1.1 (tied_loop X hP hH hq (v_S v) 0 h (by omega) (fun j hj => by omega) (fun j _ => rfl) fr.rf))
def frM (t k : Nat) : Nat → Nat → Prop := fun q j => q = t + 13 ∧ 6 * k ≤ j ∧ j < 6 * k + 6
theorem mark_loop (X0 : StC h t p s ink v wi) {n k : Nat} (hk : k ≤ 60) (g10 : gi h t 10 = k) (hP : PO h t v wi (hts v wi asd k) n) (hH : ∀ i, i < v_S v → gi h (t + 12) i = tdT v asd i)
    (hq : ∀ h', (∀ i, i < v_S v → gi h' (t + 13) (6 * k + i) = trl v wi asd k i) → fr (frM t k) h h' → Q none h') :
    ∀ (m i : Nat) (h1 : PH), i + m = v_S v → (∀ j, j < i → gi h1 (t + 13) (6 * k + j) = trl v wi asd k j) → fr (frM t k) h h1 → T2 (d + 1) mX6_mark 2 [some (vR t), some (vI (i : Int))] [] h1 Q := by
  have ok := X0.2.2.2.1
  have ok1 := ok.1
  intro m
  induction m with
  | zero =>
    intro i h1 hi hj hF
    have X := X0.keep (hF.mono (fun q k z => by unfold frM at z; unfold frT; omega))
    obtain ⟨⟨x1, x2, x3, x3', x4, x5, x6⟩, ⟨y1, y2, y3⟩, ⟨⟨a1, a2, a3, a4, a5, a6, a7⟩, b, -⟩, -⟩ := X
    refine BX6_mark_2 x1 ⟨fun _ => ?_, fun z => by rw [y1, a4] at z; omega⟩
    have ei : i = v_S v := by omega
    subst ei
    exact hq h1 hj hF
  | succ m ih =>
    intro i h1 hi hj hF
    have X := X0.keep (hF.mono (fun q k z => by unfold frM at z; unfold frT; omega))
    obtain ⟨⟨x1, x2, x3, x3', x4, x5, x6⟩, ⟨y1, y2, y3⟩, ⟨⟨a1, a2, a3, a4, a5, a6, a7⟩, b, -⟩, -⟩ := id X
    have hi' : i < v_S v := by omega
    obtain ⟨-, -, -, -, -, -, -, -, -, -, k9, k10, k11, k12⟩ := ok.2.1 i hi'
    have hP1 : PO h1 t v wi (hts v wi asd k) n := hP.keep (fun q k z => hF.1 _ _ (by unfold frM; omega))
    refine BX6_mark_2 x1 ⟨fun z => by rw [y1, a4] at z; omega, fun _ => ⟨⟨by omega, by omega⟩, ?_⟩⟩
    simp only [Int.toNat_natCast]
    rw [hF.1 (t + 12) i (by unfold frM; omega), hH i hi', hF.1 t 10 (by unfold frM; omega), g10]
    refine c_lineOf X hP1 (by unfold tdT; split <;> omega) (fun _ => ?_)
    rw [w32_r (x := (k : Int) * 6) (by omega) (by omega), w32_r (x := (k : Int) * 6 + i) (by omega) (by omega), w32_r (x := (i : Int) + 1) (by omega) (by omega), show ((i : Int) + 1) = ((i + 1 : Nat) : Int) by omega, show ((k : Int) * 6 + (i : Int)).toNat = 6 * k + i by omega]
    have e : lnW v wi (hts v wi asd k) (tdT v asd i) = trl v wi asd k i := by
      unfold trl rowS tdT
      by_cases e : (i : Int) = asd
      · rw [if_pos e, if_pos e, lnW_neg (by omega)]
      · rw [if_neg e, if_neg e]
    refine ⟨⟨by omega, by omega⟩, fun h2 e2 => ?_⟩
    subst e2
    rw [e]
    refine ih (i + 1) _ (by omega) (fun j hj3 => ?_) (hF.si (by unfold frM; omega))
    by_cases ej : j = i
    · subst ej; simp (disch := omega) only [gi_s0, gi_s1, gi_s2, gj_s0, gj_s1, gj_s2, gi_f0, gi_f1, gj_f0, gj_f1, gr_r0, gr_r1, gr_r2, gi_sj, gi_sr, gj_si, gj_sr, gr_si, gr_sj, gr_stI, gj_stI, gi_stJ, gr_stJ]
    · simp (disch := omega) only [gi_s0, gi_s1, gi_s2, gj_s0, gj_s1, gj_s2, gi_f0, gi_f1, gj_f0, gj_f1, gr_r0, gr_r1, gr_r2, gi_sj, gi_sr, gj_si, gj_sr, gr_si, gr_sj, gr_stI, gj_stI, gi_stJ, gr_stJ]; exact hj j (by omega)
theorem c_mark (X : StC h t p s ink v wi) {n k : Nat} (hk : k ≤ 60) (g10 : gi h t 10 = k) (hP : PO h t v wi (hts v wi asd k) n) (hH : ∀ i, i < v_S v → gi h (t + 12) i = tdT v asd i)
    (hq : ∀ h', (∀ i, i < v_S v → gi h' (t + 13) (6 * k + i) = trl v wi asd k i) → fr (frM t k) h h' → Q none h') : C2 (d + 1) mX6_mark [vR t] h Q :=
  EX6_mark (BX6_mark_0 X.1.1 (mark_loop X hk g10 hP hH hq (v_S v) 0 h (by omega) (fun j hj => by omega) fr.rf))
theorem asIn_loop (X : StC h t p s ink v wi) {k j : Nat} (hk : k ≤ 60) (hj : j ≤ 60) (g10 : gi h t 10 = k) (hT : ∀ a, a = k ∨ a = j → ∀ i, i < v_S v → gi h (t + 13) (6 * a + i) = trl v wi asd a i)
    (hq : Q (some (vI (if alk v wi asd k j then 1 else 0))) h) : ∀ (m i : Nat), i + m = v_S v → (∀ a, a < i → trl v wi asd k a = trl v wi asd j a) → T2 d mX6_isAsIn 2 [some (vR t), some (vI (j : Int)), some (vI (i : Int))] [] h Q := by
  obtain ⟨⟨x1, x2, x3, x3', x4, x5, x6⟩, ⟨y1, y2, y3⟩, ⟨⟨a1, a2, a3, a4, a5, a6, a7⟩, b, -⟩, ok, w1, w2⟩ := X
  have ok1 := ok.1
  intro m
  induction m with
  | zero =>
    intro i hi ha
    refine BX6_isAsIn_2 x1 ⟨fun _ => ?_, fun z => by rw [y1, a4] at z; omega⟩
    rw [if_pos (alk_iff.mpr (fun a h => ha a (by omega)))] at hq
    exact hq
  | succ m ih =>
    intro i hi ha
    refine BX6_isAsIn_2 x1 ⟨fun z => by rw [y1, a4] at z; omega, fun _ => ?_⟩
    rw [g10, w32_r (x := (j : Int) * 6) (by omega) (by omega), w32_r (x := (j : Int) * 6 + i) (by omega) (by omega), w32_r (x := (k : Int) * 6) (by omega) (by omega), w32_r (x := (k : Int) * 6 + i) (by omega) (by omega), w32_r (x := (i : Int) + 1) (by omega) (by omega), show ((i : Int) + 1) = ((i + 1 : Nat) : Int) by omega, show ((j : Int) * 6 + (i : Int)).toNat = 6 * j + i by omega, show ((k : Int) * 6 + (i : Int)).toNat = 6 * k + i by omega, hT j (Or.inr rfl) i (by omega), hT k (Or.inl rfl) i (by omega)]
    refine ⟨⟨by omega, by omega⟩, ⟨by omega, by omega⟩, fun z => ih (i + 1) (by omega) (fun a ha2 => ?_), fun z => ?_⟩
    · by_cases e : a = i
      · subst e; exact z.symm
      · exact ha a (by omega)
    · rw [if_neg (fun e => z ((alk_iff.mp e) i (by omega)).symm)] at hq
      exact hq
theorem c_isAsIn (X : StC h t p s ink v wi) {k j : Nat} (hk : k ≤ 60) (hj : j ≤ 60) (g10 : gi h t 10 = k) (hT : ∀ a, a = k ∨ a = j → ∀ i, i < v_S v → gi h (t + 13) (6 * a + i) = trl v wi asd a i)
    (hq : Q (some (vI (if alk v wi asd k j then 1 else 0))) h) : C2 d mX6_isAsIn [vR t, vI (j : Int)] h Q :=
  EX6_isAsIn fun _ => BX6_isAsIn_0 X.1.1 (asIn_loop X hk hj g10 hT hq (v_S v) 0 (by omega) (fun a ha => by omega))
def frW (t : Nat) : Nat → Nat → Prop := fun q j => q = t ∧ (j = 11 ∨ j = 12)
theorem weigh_loop (X : StC h t p s ink v wi) {k : Nat} (hk1 : 1 ≤ k) (hk : k ≤ 60) (g10 : gi h t 10 = k) (g11 : gi h t 11 = 2) (g12 : gi h t 12 = -1) (hT : ∀ a, a ≤ k → ∀ i, i < v_S v → gi h (t + 13) (6 * a + i) = trl v wi asd a i) (hn : alk v wi asd k (k - 1) = false)
    (hq : ∀ h', gi h' t 11 = (resS v wi asd k).1 → gi h' t 12 = (resS v wi asd k).2 → fr (frW t) h h' → Q none h') : ∀ (m j : Nat), j + m = k - 1 → fst (alk v wi asd k) (k - 1) 0 = fst (alk v wi asd k) m j → T2 (d + 1) mX6_weigh 21 [some (vR t), some (vI (j : Int))] [] h Q := by
  have x1 := X.1.1
  intro m
  induction m with
  | zero =>
    intro j hj hf
    refine BX6_weigh_21 x1 ?_
    rw [g10, w32_r (by omega) (by omega)]
    refine ⟨fun _ => ?_, fun z => by omega⟩
    have e : resS v wi asd k = (2, -1) := by
      unfold resS
      rw [hn, if_neg (by decide), hf, if_pos (by unfold fst; omega)]
    refine hq h ?_ ?_ fr.rf
    · rw [e, g11]
    · rw [e, g12]
  | succ m ih =>
    intro j hj hf
    refine BX6_weigh_21 x1 ?_
    rw [g10, w32_r (x := (k : Int) - 1) (by omega) (by omega)]
    refine ⟨fun z => by omega, fun _ => ?_⟩
    refine c_isAsIn X hk (by omega) g10 (fun a ha => hT a (by omega)) (fun _ => ?_)
    rw [w32_r (x := (j : Int) + 1) (by omega) (by omega), show ((j : Int) + 1) = ((j + 1 : Nat) : Int) by omega]
    refine ⟨fun z => ?_, fun z h1 e1 h2 e2 => ?_⟩
    · have e : alk v wi asd k j = false := by
        cases hb : alk v wi asd k j with
        | false => rfl
        | true => rw [hb] at z; simp at z
      refine ih (j + 1) (by omega) ?_
      rw [hf]
      show (if alk v wi asd k j then (j : Int) else fst (alk v wi asd k) m (j + 1)) = _
      rw [e]; rfl
    · subst e1 e2
      have e : alk v wi asd k j = true := by
        cases hb : alk v wi asd k j with
        | true => rfl
        | false => rw [hb] at z; simp at z
      have e2 : resS v wi asd k = (1, (j : Int)) := by
        unfold resS
        have e3 : fst (alk v wi asd k) (k - 1) 0 = (j : Int) := by
          rw [hf]
          show (if alk v wi asd k j then (j : Int) else fst (alk v wi asd k) m (j + 1)) = _
          rw [e]; rfl
        rw [hn, if_neg (by decide), e3, if_neg (by omega)]
      refine hq _ ?_ ?_ ((fr.rf.si (by unfold frW; omega)).si (by unfold frW; omega))
      · simp (disch := omega) only [gi_s0, gi_s1, gi_s2, gj_s0, gj_s1, gj_s2, gi_f0, gi_f1, gj_f0, gj_f1, gr_r0, gr_r1, gr_r2, gi_sj, gi_sr, gj_si, gj_sr, gr_si, gr_sj, gr_stI, gj_stI, gi_stJ, gr_stJ]; rw [e2]
      · simp (disch := omega) only [gi_s0, gi_s1, gi_s2, gj_s0, gj_s1, gj_s2, gi_f0, gi_f1, gj_f0, gj_f1, gr_r0, gr_r1, gr_r2, gi_sj, gi_sr, gj_si, gj_sr, gr_si, gr_sj, gr_stI, gj_stI, gi_stJ, gr_stJ]; rw [e2]
theorem c_weigh (X : StC h t p s ink v wi) {k : Nat} (hk1 : 1 ≤ k) (hk : k ≤ 60) (g10 : gi h t 10 = k) (g11 : gi h t 11 = 2) (g12 : gi h t 12 = -1) (hT : ∀ a, a ≤ k → ∀ i, i < v_S v → gi h (t + 13) (6 * a + i) = trl v wi asd a i)
    (hq : ∀ h', gi h' t 11 = (resS v wi asd k).1 → gi h' t 12 = (resS v wi asd k).2 → fr (frW t) h h' → Q none h') : C2 (d + 1) mX6_weigh [vR t] h Q := by
  refine EX6_weigh (BX6_weigh_0 X.1.1 ?_)
  rw [g10, w32_r (by omega) (by omega), show ((k : Int) - 1) = ((k - 1 : Nat) : Int) by omega]
  refine c_isAsIn X hk (by omega) g10 (fun a ha => hT a (by omega)) (fun _ => ⟨fun z => ?_, fun z h1 e1 => ?_⟩)
  · have e : alk v wi asd k (k - 1) = false := by
      cases hb : alk v wi asd k (k - 1) with
      | false => rfl
      | true => rw [hb] at z; simp at z
    exact weigh_loop X hk1 hk g10 g11 g12 hT e hq (k - 1) 0 (by omega) rfl
  · subst e1
    have e : alk v wi asd k (k - 1) = true := by
      cases hb : alk v wi asd k (k - 1) with
      | true => rfl
      | false => rw [hb] at z; simp at z
    have e2 : resS v wi asd k = (0, -1) := by unfold resS; rw [e]; rfl
    refine hq _ ?_ ?_ (fr.rf.si (by unfold frW; omega))
    · simp (disch := omega) only [gi_s0, gi_s1, gi_s2, gj_s0, gj_s1, gj_s2, gi_f0, gi_f1, gj_f0, gj_f1, gr_r0, gr_r1, gr_r2, gi_sj, gi_sr, gj_si, gj_sr, gr_si, gr_sj, gr_stI, gj_stI, gi_stJ, gr_stJ]; rw [e2]
    · simp (disch := omega) only [gi_s0, gi_s1, gi_s2, gj_s0, gj_s1, gj_s2, gi_f0, gi_f1, gj_f0, gj_f1, gr_r0, gr_r1, gr_r2, gi_sj, gi_sr, gj_si, gj_sr, gr_si, gr_sj, gr_stI, gj_stI, gi_stJ, gr_stJ]; rw [e2, g12]
end
