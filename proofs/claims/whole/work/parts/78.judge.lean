/-! THE MODEL: judge, perform, day -/
section
variable {d : Nat} {h : PH} {Q : Option PV → PH → Prop}
variable {A : AS} {g : PG} {st : Nat → Int}
/-- the setting, asked when the state is another again -/
theorem q_placedNow {v : VW} {wi : Int} {ht : Nat → Int} (ok : VOK v) (h6 : gi h 248 6 = v_W v) (hP : PM h v wi ht) (hq : Q (some (vI (c_n (prd v wi ht)))) h) : C2 d mX11_placedNow [vR 247] h Q := by
  have ok1 := ok.1
  have loop : ∀ (m w : Nat), w + m = v_W v → T2 d mX11_placedNow 4 [some (vR 247), some (vI (sumF (fun j => if 0 ≤ c_sl (prd v wi ht) j then 1 else 0) w)), some (vI (w : Int))] [] h Q := by
    intro m
    induction m with
    | zero =>
      intro w hw
      refine BX11_placedNow_4 ⟨fun _ => ?_, fun z => by rw [h6] at z; omega⟩
      rw [show w = v_W v by omega, ← prd_n]; exact hq
    | succ m ih =>
      intro w hw
      have hr := sumF_rg (f := fun j => if 0 ≤ c_sl (prd v wi ht) j then (1 : Int) else 0) (M := 1) (fun n => by split <;> omega) w
      refine BX11_placedNow_4 ⟨fun z => by rw [h6] at z; omega, fun _ => ⟨⟨by omega, by omega⟩, ?_⟩⟩
      try simp only [Int.toNat_natCast]
      have e' : gi h 259 w = c_sl (prd v wi ht) w := (hP.2.1 w (by omega)).1
      have c4 : -1 ≤ c_sl (prd v wi ht) w := (hP.2.2.2.2 w).1
      have su : sumF (fun j => if 0 ≤ c_sl (prd v wi ht) j then (1 : Int) else 0) (w + 1) = sumF (fun j => if 0 ≤ c_sl (prd v wi ht) j then (1 : Int) else 0) w + (if 0 ≤ c_sl (prd v wi ht) w then 1 else 0) := rfl
      have := ih (w + 1) (by omega)
      rw [su] at this
      rw [e', w32_r (x := (w : Int) + 1) (by omega) (by omega), show (w : Int) + 1 = ((w + 1 : Nat) : Int) by omega]
      refine ⟨fun z => ?_, fun z => ?_⟩
      · rw [if_neg (by omega)] at this
        rw [w32_r (by omega) (by omega)]; exact this
      · rw [if_pos (by omega)] at this
        rw [w32_r (by omega) (by omega)]; exact this
  exact EX11_placedNow (BX11_placedNow_0 (loop (v_W v) 0 (by omega)))
theorem q_line {v : VW} {wi : Int} {ht : Nat → Int} (ok : VOK v) (hwi : 0 ≤ wi ∧ wi ≤ 200) (h6 : gi h 248 6 = v_W v) (hP : PM h v wi ht) {w : Int} (hw0 : 0 ≤ w) (hw : w ≤ 29) (hq : Q (some (vI (lnW v wi ht w))) h) : C2 d mX11_lineOf [vR 247, vI w] h Q := by
  have ok1 := ok.1
  obtain ⟨hS, C1, C2, C3, C4⟩ := hP
  have hN := slt_len ok hwi.1 (ht := ht) (v_ln v) (Nat.le_refl _)
  have hN2 : (slA v wi ht).length ≤ 140 := by unfold slA; omega
  have ec : c_sl (prd v wi ht) w.toNat = (prd v wi ht).2.2.2.1 w.toNat := rfl
  unfold lnW at hq
  rw [ec] at hq
  obtain ⟨c7, c8⟩ := C4 w.toNat
  refine EX11_lineOf fun _ => BX11_lineOf_0 ?_
  rw [h6]
  refine ⟨fun z => by rw [if_neg (by omega)] at hq; exact hq, fun z => ⟨⟨by omega, by omega⟩, ?_⟩⟩
  rw [(C1 w.toNat (by omega)).1]
  refine ⟨fun y => by rw [if_neg (by omega)] at hq; exact hq, fun y => ⟨⟨by omega, by omega⟩, ⟨by omega, by omega⟩, ?_⟩⟩
  rw [if_pos ⟨hw0, z, by omega⟩] at hq
  rw [(hS.2 _ (by omega)).1]
  exact hq
theorem q_lastNow {v : VW} {wi : Int} {ht : Nat → Int} (ok : VOK v) (hwi : 0 ≤ wi ∧ wi ≤ 200) (h6 : gi h 248 6 = v_W v) (hP : PM h v wi ht) (hq : Q (some (vI (lastF (fun w => lnW v wi ht w) (v_W v)))) h) : C2 (d + 1) mX11_lastNow [vR 247] h Q := by
  have ok1 := ok.1
  have loop : ∀ (m w : Nat), w + m = v_W v → T2 (d + 1) mX11_lastNow 4 [some (vR 247), some (vI (lastF (fun w => lnW v wi ht w) w)), some (vI (w : Int))] [] h Q := by
    intro m
    induction m with
    | zero =>
      intro w hw
      refine BX11_lastNow_4 ⟨fun _ => ?_, fun z => by rw [h6] at z; omega⟩
      rw [show w = v_W v by omega]; exact hq
    | succ m ih =>
      intro w hw
      refine BX11_lastNow_4 ⟨fun z => by rw [h6] at z; omega, fun _ => ?_⟩
      refine q_line ok hwi h6 hP (by omega) (by omega) (fun _ => ?_)
      have su : lastF (fun w => lnW v wi ht w) (w + 1) = max (lastF (fun w => lnW v wi ht w) w) (lnW v wi ht (w : Int)) := rfl
      have := ih (w + 1) (by omega)
      rw [su] at this
      rw [w32_r (x := (w : Int) + 1) (by omega) (by omega), show (w : Int) + 1 = ((w + 1 : Nat) : Int) by omega]
      refine ⟨fun z => ?_, fun z => q_line ok hwi h6 hP (by omega) (by omega) (fun _ => ?_)⟩
      · rw [show max (lastF (fun w => lnW v wi ht w) w) (lnW v wi ht (w : Int)) = lastF (fun w => lnW v wi ht w) w by omega] at this
        exact this
      · rw [show max (lastF (fun w => lnW v wi ht w) w) (lnW v wi ht (w : Int)) = lnW v wi ht (w : Int) by omega] at this
        exact this
  exact EX11_lastNow (BX11_lastNow_0 (loop (v_W v) 0 (by omega)))
def frTe : Nat → Nat → Prop := fun q k => frSt2 q k ∨ (q = 247 ∧ k = 39)
theorem MG.newSt {h h' : PH} {st' : Nat → Int} (X : MG h g st) (hF : fr frTe h h') (ok : SOK g st') (hS : MSt h' st') : MG h' g st' := ⟨X.1, ok, X.2.2.1.keep X.1 (fun j _ _ => hF.1 _ _ (by unfold frTe frSt2; omega)), hS⟩
theorem m_tells_loop (X : RM h A) {t : Nat} (ht : t < 4) {G : Nat × Int × (Nat → Int)} (hq : ∀ h', MG h' (A_g A) G.2.2 → gi h' 247 39 = G.2.1 → fr frTe h h' → Q (some (vI (G.1 : Int))) h') :
    ∀ (m i : Nat) (st : Nat → Int) (h1 : PH), i + m = (A_sz A t).toNat → MG h1 (A_g A) st → gi h1 247 39 = 0 → ddS (A_g A) (fun i => A_vl A (40 * t + i)) m i st = G → fr frTe h h1 → T2 (d + 4) mX11_tells 7 [some (vR 247), some (vI (t : Int)), some (vI (i : Int))] [] h1 Q := by
  have hsz := (X.1.2.2.2.2.2.1 t).2.2
  have tr := X.2.2.2.2.2.2.2.1
  intro m
  induction m with
  | zero =>
    intro i st h1 hi M1 h39 hG hF
    have e277 : gi h1 277 t = A_sz A t := by rw [hF.1 _ _ (by unfold frTe frSt2; omega)]; exact (tr.1 t ht).2
    have eG : G = (i, 0, st) := hG.symm
    refine BX11_tells_7 ?_
    try simp only [Int.toNat_natCast]
    rw [e277]
    refine ⟨⟨by omega, by omega⟩, fun _ => ⟨⟨by omega, by omega⟩, ?_⟩, fun z => by omega⟩
    subst eG
    have := hq h1 M1 h39 hF
    rw [show A_sz A t = ((i : Nat) : Int) by omega]; exact this
  | succ m ih =>
    intro i st h1 hi M1 h39 hG hF
    have e277 : gi h1 277 t = A_sz A t := by rw [hF.1 _ _ (by unfold frTe frSt2; omega)]; exact (tr.1 t ht).2
    have e278 : gj h1 278 (40 * t + i) = A_vl A (40 * t + i) := by rw [hF.2.1 _ _ (by unfold frTe frSt2; omega)]; exact tr.2 _ (by omega)
    refine BX11_tells_7 ?_
    try simp only [Int.toNat_natCast]
    rw [e277, w32_r (x := 40 * (t : Int)) (by omega) (by omega), w32_r (x := 40 * (t : Int) + (i : Int)) (by omega) (by omega), show 40 * (t : Int) + (i : Int) = ((40 * t + i : Nat) : Int) by omega]
    try simp only [Int.toNat_natCast]
    rw [e278]
    refine ⟨⟨by omega, by omega⟩, fun z => by omega, fun _ => ⟨⟨by omega, by omega⟩, m_whyNot (d := d) M1 (fun _ h2 e2 => ?_)⟩⟩
    have g39 : gi h2 247 39 = (deedS (A_g A) st (A_vl A (40 * t + i))).1 := by subst e2; exact gi_s0
    have F2 : fr frTe h1 h2 := by subst e2; exact fr.rf.si (by unfold frTe; omega)
    have M2 : MG h2 (A_g A) st := M1.keep (fun k => by subst e2; exact gi_s1 (by omega))
    have j2 : gj h2 278 (40 * t + i) = A_vl A (40 * t + i) := by subst e2; exact e278
    rw [g39, j2]
    have dd : ddS (A_g A) (fun i => A_vl A (40 * t + i)) (m + 1) i st = if (deedS (A_g A) st (A_vl A (40 * t + i))).1 ≠ 0 then (i, (deedS (A_g A) st (A_vl A (40 * t + i))).1, st) else ddS (A_g A) (fun i => A_vl A (40 * t + i)) m (i + 1) (deedS (A_g A) st (A_vl A (40 * t + i))).2 := rfl
    rw [dd] at hG
    refine ⟨fun z => ⟨⟨by omega, by omega⟩, ?_⟩, fun z => ?_⟩
    · rw [if_neg (fun e => e z)] at hG
      have vr : -2147483648 ≤ A_vl A (40 * t + i) ∧ A_vl A (40 * t + i) ≤ 2147483647 := by
        by_cases c : A_vl A (40 * t + i) < 10 ∨ 25999 < A_vl A (40 * t + i)
        · exfalso
          unfold deedS at z
          rw [if_pos c] at z; exact absurd z (show ¬ (1 : Int) = 0 by decide)
        · omega
      rw [w32_r vr.1 vr.2]
      refine m_does M2 z (fun h3 b1 b2 => ⟨rfl, ?_⟩)
      have F3 : fr frTe h2 h3 := b2.mono (fun q k z => Or.inl z)
      dsimp only
      rw [w32_r (by omega) (by omega), show (i : Int) + 1 = ((i + 1 : Nat) : Int) by omega]
      exact ih (i + 1) _ h3 (by omega) (M2.newSt F3 (deedS_ok X.1.1 M1.2.1 _) b1) (by rw [b2.1 _ _ (by unfold frSt2; omega), g39]; exact z) hG ((hF.tr F2).tr F3)
    · rw [if_pos z] at hG
      subst hG
      exact hq h2 M2 g39 (hF.tr F2)
theorem dd0_st {t : Nat} (h0 : (ddA A t).1 = 0) : (ddA A t).2.2 = A_st A := by
  unfold ddA at *
  cases hm : (A_sz A t).toNat with
  | zero => rfl
  | succ m =>
    rw [hm] at h0
    have dd : ddS (A_g A) (fun i => A_vl A (40 * t + i)) (m + 1) 0 (A_st A) = if (deedS (A_g A) (A_st A) (A_vl A (40 * t + 0))).1 ≠ 0 then (0, (deedS (A_g A) (A_st A) (A_vl A (40 * t + 0))).1, A_st A) else ddS (A_g A) (fun i => A_vl A (40 * t + i)) m (0 + 1) (deedS (A_g A) (A_st A) (A_vl A (40 * t + 0))).2 := rfl
    rw [dd] at h0 ⊢
    by_cases c : (deedS (A_g A) (A_st A) (A_vl A (40 * t + 0))).1 ≠ 0
    · rw [if_pos c]
    · rw [if_neg c] at h0
      exfalso
      have : ∀ (m i : Nat) (st : Nat → Int), i ≤ (ddS (A_g A) (fun i => A_vl A (40 * t + i)) m i st).1 := by
        intro m
        induction m with
        | zero => intro i st; exact Nat.le_refl _
        | succ m ih =>
          intro i st
          unfold ddS
          split
          · exact Nat.le_refl _
          · have := ih (i + 1) (deedS (A_g A) st (A_vl A (40 * t + i))).2
            omega
      have := this m (0 + 1) (deedS (A_g A) (A_st A) (A_vl A (40 * t + 0))).2
      omega
theorem m_tells (X : RM h A) {t : Nat} (ht : t < 4) {h1 : PH} (M1 : MG h1 (A_g A) (A_st A)) (F1 : fr frMs h h1) (hq : ∀ h', MG h' (A_g A) (ddA A t).2.2 → gi h' 247 39 = (ddA A t).2.1 → fr frTe h1 h' → Q (some (vI ((ddA A t).1 : Int))) h') : C2 (d + 4) mX11_tells [vR 247, vI (t : Int)] h1 Q := by
  refine EX11_tells fun _ => BX11_tells_0 (fun h2 e2 => ?_)
  have F2 : fr frTe h1 h2 := by subst e2; exact fr.rf.si (by unfold frTe; omega)
  have F2' : fr frMs h h2 := F1.tr (by subst e2; exact fr.rf.si (by unfold frMs; omega))
  exact m_tells_loop (X.keep F2') ht (G := ddA A t) (fun h' a1 a2 a3 => hq h' a1 a2 (F2.tr a3)) (A_sz A t).toNat 0 (A_st A) h2 (by omega) (M1.keep (fun k => by subst e2; exact gi_s1 (by omega))) (by subst e2; exact gi_s0) rfl fr.rf
def frA2 : Nat → Nat → Prop := fun q k => (q = 247 ∧ (k = 18 ∨ k = 19 ∨ k = 20 ∨ k = 21 ∨ k = 22 ∨ k = 31 ∨ k = 35 ∨ k = 36 ∨ k = 37)) ∨ (252 ≤ q ∧ q ≤ 264)
theorem m_setsNow2 (X : MG h g st) (hq : ∀ h', MC h' g st (g_wi g) (-1) → DM h' (vw g st) (g_wi g) (-1) → fr frA2 h h' → Q none h') : C2 (d + 9) mX11_setsNow [vR 247] h Q := by
  refine EX11_setsNow (BX11_setsNow_0 (m_asks X (fun h1 b1 b2 => ⟨rfl, c_sets (d := d) b1 (fun h2 c1 c2 => ⟨rfl, hq h2 (b1.keep c2) c1 ((b2.mono (fun q k z => by unfold frAs at z; unfold frA2; omega)).tr (c2.mono (fun q k z => by unfold frN at z; unfold frA2; omega)))⟩)⟩)))
theorem n_judge (X : RM h A) {t w : Int} (hq : ∀ h', RM h' A → fr frMo h h' → Q (some (vI (r_judge A t w))) h') : C2 (d + 10) mX11_judge [vR 247, vI t, vI w] h Q := by
  unfold r_judge at hq
  refine EX11_judge fun _ _ => BX11_judge_0 (fun h1 e1 => ?_)
  obtain ⟨X1, F1⟩ := X.z e1
  have hq1 := hq h1 X1 F1
  refine m_within (fun _ => ⟨fun z => ?_, fun z => ?_⟩)
  · have hw := if01 z
    refine m_noTray (d := d + 8) X1 (fun _ => ⟨fun y => ?_, fun y => ?_⟩)
    · obtain ⟨ht, hso⟩ := noT_0 y
      obtain ⟨n, hn⟩ := ex_nat ht.1
      subst hn
      simp only [Int.toNat_natCast] at hso hq
      rw [if_neg (by omega), if_neg hso] at hq
      have ddo := ddA_ok X.1 n
      refine m_stores X1.mg.2.2.2 (fun h2 b1 b2 => ⟨rfl, ?_⟩)
      have F2 : fr frMs h1 h2 := b2.mono (fun q k z => by unfold frMs; omega)
      have X2 := X1.keep F2
      refine m_tells (d := d + 5) X2 (t := n) (by omega) X2.mg fr.rf (fun h3 M3 g39 F3 _ => ?_)
      refine m_setsNow2 (d := d) M3 (fun h4 M4 D4 F4 => ⟨rfl, ?_⟩)
      have w4 : ∀ k, k < 20 → gi h4 265 k = A_st A k := fun k hk => by
        rw [F4.1 _ _ (by unfold frA2; omega), F3.1 _ _ (by unfold frTe frSt2; omega)]; exact b1 k hk
      refine m_isAgain (st := A_st A) w4 (fun h5 S5 F5 => ⟨rfl, ?_⟩)
      have F15 : fr frNs h1 h5 := (((F2.mono (B := frNs) (fun q k z => Or.inl z)).tr (F3.mono (fun q k z => by unfold frTe frSt2 at z; unfold frNs frMs; omega))).tr (F4.mono (fun q k z => by unfold frA2 at z; unfold frNs frMs; omega))).tr (F5.mono (fun q k z => by unfold frNs; omega))
      have gP : ∀ k, 111 ≤ k → gi h5 248 k = gi h1 248 k := fun k hk => by
        rw [F5.1 _ _ (by omega), F4.1 _ _ (by unfold frA2; omega), F3.1 _ _ (by unfold frTe frSt2; omega), b2.1 248 _ (by omega)]
      have p := X1.2.2.2.2.2.1
      have X5 : RM h5 A := by
        have := X1.newSt (st := A_st A) (pa := A_pa A) F15 X.1 S5 ⟨by rw [gP _ (by omega)]; exact p.1, fun i hi k hk => by rw [gP _ (by omega)]; exact p.2 i hi k hk⟩
        exact this
      have hq5 := hq h5 X5 (F1.tr (F15.mono (fun q k z => frNs_o z)))
      have g5 : gi h5 247 39 = (ddA A n).2.1 := by rw [F5.1 _ _ (by omega), F4.1 _ _ (by unfold frA2; omega)]; exact g39
      have okv : VOK (vw (A_g A) (ddA A n).2.2) := vw_ok X.1.1 ddo.1
      have h6 : gi h5 248 6 = v_W (vw (A_g A) (ddA A n).2.2) := X5.mg.fl.2.2.2.2.2.2
      have P5 : PM h5 (vw (A_g A) (ddA A n).2.2) (A_w A) (fH (vw (A_g A) (ddA A n).2.2) (A_w A) (-1)) := D4.1.2.1.keep (fun q k z => F5.1 _ _ (by omega))
      have ow := X.okm
      dsimp only
      rw [g5]
      refine ⟨fun v0 => ⟨fun v1 => ⟨fun v2 => ?_, fun v2 => ?_⟩, fun v1 => ?_⟩, fun v0 => ⟨fun v1 => ?_, fun v1 => ?_⟩⟩
      · rw [if_neg v0, if_neg v1, if_neg v2] at hq5
        exact q_lastNow (d := d + 8) okv ⟨ow.2.1, ow.2.2.1⟩ h6 P5 (fun _ => hq5)
      · rw [if_neg v0, if_neg v1, if_pos v2] at hq5
        exact q_placedNow okv h6 P5 (fun _ => hq5)
      · rw [if_neg v0, if_pos v1] at hq5; exact hq5
      · rw [if_pos v0, if_neg v1] at hq5; exact hq5
      · rw [if_pos v0, if_pos v1] at hq5; exact hq5
    · have ne := y
      unfold noT at y ⊢
      by_cases ht : jT t
      · rw [if_pos ht] at y ⊢
        by_cases hso : A_so A t.toNat = -1
        · rw [if_pos hso]
          rw [if_neg (by omega), if_pos hso] at hq1; exact hq1
        · rw [if_neg hso] at y; exact absurd rfl y
      · rw [if_neg ht]
        rw [if_pos (Or.inl ht)] at hq1; exact hq1
  · have hw := if00 z
    rw [if_pos (by omega)] at hq1; exact hq1
theorem n_perform (X : RM h A) {t : Int} (hq : ∀ h', RM h' (o_perform A t).2 → fr frMo h h' → Q (some (vI (o_perform A t).1)) h') : C2 (d + 5) mX11_perform [vR 247, vI t] h Q := by
  unfold o_perform at hq
  refine EX11_perform fun _ => BX11_perform_0 (fun h1 e1 => ?_)
  obtain ⟨X1, F1⟩ := X.z e1
  refine m_noTray (d := d + 3) X1 (fun _ => ⟨fun y => ?_, fun y => ?_⟩)
  · obtain ⟨ht, hso⟩ := noT_0 y
    rw [if_neg (fun e => e y)] at hq
    obtain ⟨n, hn⟩ := ex_nat ht.1
    subst hn
    simp only [Int.toNat_natCast] at hso hq
    have ddo := ddA_ok X.1 n
    refine m_stores X1.mg.2.2.2 (fun h2 b1 b2 => ⟨rfl, ?_⟩)
    have F2 : fr frMs h1 h2 := b2.mono (fun q k z => by unfold frMs; omega)
    have X2 := X1.keep F2
    refine m_tells (d := d) X2 (t := n) (by omega) X2.mg fr.rf (fun h3 M3 g39 F3 _ => ?_)
    have F13 : fr frNs h1 h3 := (F2.mono (B := frNs) (fun q k z => Or.inl z)).tr (F3.mono (fun q k z => by unfold frTe frSt2 at z; unfold frNs frMs; omega))
    have gP : ∀ k, 111 ≤ k → gi h3 248 k = gi h1 248 k := fun k hk => by
      rw [F3.1 _ _ (by unfold frTe frSt2; omega), b2.1 248 _ (by omega)]
    refine ⟨fun z => ?_, fun z => ?_⟩
    · have z0 : (ddA A n).1 = 0 := by omega
      rw [if_pos z0] at hq
      rw [z0]
      have st0 : (ddA A n).2.2 = A_st A := dd0_st z0
      have p := X1.2.2.2.2.2.1
      rw [st0] at M3
      exact hq h3 (X1.newSt (st := A_st A) (pa := A_pa A) F13 X.1 M3.2.2.2 ⟨by rw [gP _ (by omega)]; exact p.1, fun i hi k hk => by rw [gP _ (by omega)]; exact p.2 i hi k hk⟩) (F1.tr (F13.mono (fun q k z => frNs_o z)))
    · rw [if_neg (by omega)] at hq
      exact n_note X1 F13 (fun k hk => by rw [F3.1 _ _ (by unfold frTe frSt2; omega)]; exact b1 k hk) M3.2.2.2 (fun k k1 k2 => gP k k1) ddo.1 (fun h4 X4 _ _ F4 => ⟨rfl, hq h4 X4 (F1.tr F4)⟩)
  · rw [if_pos y] at hq
    exact hq h1 X1 F1
theorem m_draw {x b : Int} (h40 : gi h 247 40 = x) (hb : b ≠ 0) (hq : Q (some (vI (Int.tmod (dv (nxD x)) b))) (si h 247 40 (nxD x))) : C2 d mX11_draw [vR 247, vI b] h Q := by
  refine EX11_draw fun _ => BX11_draw_0 (fun h1 e1 => ?_)
  subst e1
  rw [h40, gi_s0]
  exact ⟨hb, hq⟩
def fr40 : Nat → Nat → Prop := fun q k => q = 247 ∧ k = 40
theorem dv_rg (x : Int) : 0 ≤ dv x ∧ dv x < 65536 := iushr16 x
theorem m_drawn {x : Int} (h40 : gi h 247 40 = x) (hq : ∀ h', gi h' 247 40 = (drD x).2 → fr fr40 h h' → Q (some (vI (drD x).1)) h') : C2 (d + 1) mX11_drawn [vR 247] h Q := by
  have F1 : fr fr40 h (si h 247 40 (nxD x)) := fr.rf.si ⟨rfl, rfl⟩
  have F2 : fr fr40 h (si (si h 247 40 (nxD x)) 247 40 (nxD (nxD x))) := F1.si ⟨rfl, rfl⟩
  have F3 : fr fr40 h (si (si (si h 247 40 (nxD x)) 247 40 (nxD (nxD x))) 247 40 (nxD (nxD (nxD x)))) := F2.si ⟨rfl, rfl⟩
  have r1 := dv_rg (nxD x)
  have r2 := dv_rg (nxD (nxD x))
  have r3 := dv_rg (nxD (nxD (nxD x)))
  unfold drD at hq
  refine EX11_drawn (BX11_drawn_0 (m_draw h40 (by decide) (fun _ => ?_)))
  rw [Int.tmod_eq_emod_of_nonneg r1.1]
  refine ⟨fun z => m_draw gi_s0 (by decide) (fun _ => ?_), fun z => ⟨fun y => m_draw gi_s0 (by decide) (fun _ => ?_), fun y => m_draw gi_s0 (by decide) (fun _ => ?_)⟩⟩
  · rw [Int.tmod_eq_emod_of_nonneg r2.1]
    refine ⟨fun y => m_draw gi_s0 (by decide) (fun _ => ?_), fun y => m_draw gi_s0 (by decide) (fun _ => ?_)⟩
    · dsimp only
      rw [Int.tmod_eq_emod_of_nonneg r3.1, w32_r (x := dv (nxD x) % 5 - 2) (by omega) (by omega), w32_r (x := 10000 * (dv (nxD x) % 5 - 2)) (by omega) (by omega), w32_r (x := 1000 * (dv (nxD (nxD x)) % 6)) (by omega) (by omega), w32_r (x := 10000 * (dv (nxD x) % 5 - 2) + 1000 * (dv (nxD (nxD x)) % 6)) (by omega) (by omega), w32_r (by omega) (by omega)]
      by_cases c : dv (nxD x) % 5 = 3
      · rw [if_neg (by omega), if_neg (by omega), if_neg (by omega), if_pos c] at hq
        rw [c]
        exact hq _ gi_s0 F3
      · have c4 : dv (nxD x) % 5 = 4 := by omega
        rw [if_neg (by omega), if_neg (by omega), if_neg (by omega), if_neg (by omega)] at hq
        rw [c4]
        exact hq _ gi_s0 F3
    · dsimp only
      rw [Int.tmod_eq_emod_of_nonneg r3.1, w32_r (x := 100 * (dv (nxD (nxD x)) % 6)) (by omega) (by omega), w32_r (x := 1000 + 100 * (dv (nxD (nxD x)) % 6)) (by omega) (by omega), w32_r (by omega) (by omega)]
      rw [if_neg (by omega), if_neg (by omega), if_pos y] at hq
      exact hq _ gi_s0 F3
  · dsimp only
    rw [Int.tmod_eq_emod_of_nonneg r2.1, w32_r (by omega) (by omega)]
    rw [if_neg (by omega), if_pos (by omega)] at hq
    exact hq _ gi_s0 F2
  · dsimp only
    rw [Int.tmod_eq_emod_of_nonneg r2.1, w32_r (by omega) (by omega)]
    rw [if_pos y] at hq
    exact hq _ gi_s0 F2
end
