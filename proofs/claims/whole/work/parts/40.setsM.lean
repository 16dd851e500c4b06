/-! THE MODEL: rounds -/
def RM2 (h : PH) (v : VW) (wi asd : Int) (k : Nat) : Prop := (∀ i, i < v_S v → gi h 254 i = hts v wi asd k i) ∧ PM h v wi (hts v wi asd k) ∧ (∀ a, a ≤ k → ∀ i, i < v_S v → gi h 264 (6 * a + i) = trl v wi asd a i) ∧ gi h 247 35 = k
def DM (h : PH) (v : VW) (wi asd : Int) : Prop := RM2 h v wi asd (fR v wi asd) ∧ gi h 247 36 = (setR v wi asd).2.1 ∧ gi h 247 37 = (setR v wi asd).2.2
theorem trl_rg {v : VW} {wi asd : Int} (hw : 0 ≤ wi) (k i : Nat) : -1 ≤ trl v wi asd k i ∧ trl v wi asd k i < max 1 (v_ln v : Int) := by
  unfold trl rowS
  split
  · omega
  · have := lnW_rg (v := v) hw (ht := hts v wi asd k) (v_ti v i); omega
section
variable {d : Nat} {h : PH} {Q : Option PV → PH → Prop}
variable {g : PG} {st : Nat → Int} {wi asd : Int}
theorem c_isTied (X : MC h g st wi asd) {s : Nat} (hs : s < v_S (vw g st)) (hq : Q (some (vI (if tdT (vw g st) asd s ≠ -1 then 1 else 0))) h) : C2 (d + 1) mX11_isTied [vR 247, vI (s : Int)] h Q := by
  obtain ⟨ok, ⟨a1, a2, a3, a4, a5, a6, a7⟩, b⟩ := X.vw
  have ok1 := ok.1
  obtain ⟨b1, b2, b3, b4, b5, b6⟩ := b s hs
  refine EX11_isTied fun _ => BX11_isTied_0 ?_
  rw [w32a (k := 103) (n := 103) rfl (by omega)]
  try simp only [Int.toNat_natCast]
  rw [b6]
  unfold tdT at hq
  refine ⟨⟨by omega, by omega⟩, fun z => ?_, fun z => ?_⟩
  · rw [if_neg (by split <;> omega)] at hq; exact hq
  · refine c_isIn (by omega) (fun _ => ?_)
    rw [X.2.2.2.2.2.2.1 s (by omega)]
    by_cases e : (s : Int) = asd
    · rw [if_pos e, if_neg (by omega)] at hq
      rw [decide_eq_true e]
      exact ⟨fun _ => hq, fun z => by simp at z⟩
    · rw [if_neg e, if_pos z] at hq
      rw [decide_eq_false e]
      exact ⟨fun z => by simp at z, fun _ => hq⟩
theorem c_heightIn (X : MC h g st wi asd) {s k : Nat} (hs : s < v_S (vw g st)) (hk : k ≤ 61) (hT : 1 ≤ k → gi h 264 (6 * (k - 1) + s) = trl (vw g st) wi asd (k - 1) s) (hq : Q (some (vI (hts (vw g st) wi asd k s))) h) : C2 (d + 2) mX11_heightIn [vR 247, vI (s : Int), vI (k : Int)] h Q := by
  obtain ⟨ok, ⟨a1, a2, a3, a4, a5, a6, a7⟩, b⟩ := X.vw
  have ok1 := ok.1
  have hwi := X.2.2.2.2.2.2.2
  obtain ⟨b1, b2, b3, b4, b5, b6⟩ := b s hs
  obtain ⟨-, -, -, -, -, -, -, -, -, -, k9, k10, k11, k12⟩ := ok.2.1 s hs
  refine EX11_heightIn fun _ _ => BX11_heightIn_0 (c_isIn (by omega) (fun _ => ?_))
  rw [X.2.2.2.2.2.2.1 s (by omega)]
  by_cases e : (s : Int) = asd
  · rw [decide_eq_true e]
    refine ⟨fun z => by simp at z, fun _ => ?_⟩
    have e2 : hts (vw g st) wi asd k s = -1 := by
      cases k with
      | zero => show ht0 _ _ _ = _; unfold ht0; rw [if_pos (Or.inl e)]
      | succ k => show htN _ _ _ _ = _; unfold htN; rw [if_pos e]
    rw [← e2]; exact hq
  · rw [decide_eq_false e]
    refine ⟨fun _ => c_isTied X hs (fun _ => ?_), fun z => by simp at z⟩
    have etd : tdT (vw g st) asd s = v_ti (vw g st) s := by unfold tdT; rw [if_neg e]
    rw [etd]
    have fin : ∀ x : Int, -1 ≤ x → x ≤ 20 → (if x < 0 then -1 else v_y (vw g st) s + v_hi (vw g st) * x) = hts (vw g st) wi asd k s → T2 (d + 2) mX11_heightIn 53 [some (vR 247), some (vI (s : Int)), none, none] [vI x] h Q := by
      intro x x1 x2 hx
      refine BX11_heightIn_53 ⟨fun z => ?_, fun z => ?_⟩
      · rw [w32a (k := 97) (n := 97) rfl (by omega)]
        try simp only [Int.toNat_natCast]
        rw [b5, a2]
        have hm := mul_rg (a := v_hi (vw g st)) (A := 20) (b := x) (B := 20) (by omega) (by omega) (by omega) (by omega)
        rw [w32_r (x := v_hi (vw g st) * x) (by omega) (by omega), w32_r (by omega) (by omega)]
        rw [if_neg (by omega)] at hx
        rw [hx]
        exact ⟨⟨by omega, by omega⟩, hq⟩
      · rw [if_pos (by omega)] at hx
        rw [hx]; exact hq
    refine ⟨fun z => ⟨fun y => ?_, fun y => ?_⟩, fun z => ?_⟩
    · have hti : v_ti (vw g st) s ≠ -1 := fun z2 => by rw [if_neg (by omega)] at z; omega
      have ht := trl_rg (v := vw g st) (asd := asd) hwi.1 (k - 1) s
      rw [w32_r (x := (k : Int) - 1) (by omega) (by omega), w32_r (x := 6 * ((k : Int) - 1)) (by omega) (by omega), w32_r (by omega) (by omega), show (6 * ((k : Int) - 1) + (s : Int)).toNat = 6 * (k - 1) + s by omega, hT (by omega)]
      refine ⟨⟨by omega, by omega⟩, fin _ (by omega) (by omega) ?_⟩
      obtain ⟨k', rfl⟩ : ∃ k', k = k' + 1 := ⟨k - 1, by omega⟩
      show _ = htN (vw g st) asd (trl (vw g st) wi asd k') s
      unfold htN
      rw [if_neg e, if_neg hti]
      rfl
    · have hti : v_ti (vw g st) s ≠ -1 := fun z2 => by rw [if_neg (by omega)] at z; omega
      refine fin _ (by omega) (by omega) ?_
      have k0 : k = 0 := by omega
      subst k0
      rw [if_pos (by omega)]
      show _ = ht0 (vw g st) asd s
      unfold ht0; rw [if_pos (Or.inr hti)]
    · have hti : v_ti (vw g st) s = -1 := by
        by_cases z2 : v_ti (vw g st) s = -1
        · exact z2
        · rw [if_pos z2] at z; omega
      rw [w32a (k := 97) (n := 97) rfl (by omega)]
      try simp only [Int.toNat_natCast]
      rw [b5]
      have e2 : hts (vw g st) wi asd k s = v_y (vw g st) s := by
        cases k with
        | zero => show ht0 _ _ _ = _; unfold ht0; rw [if_neg (by omega)]
        | succ k => show htN _ _ _ _ = _; unfold htN; rw [if_neg e, if_pos hti]
      rw [← e2]
      exact ⟨⟨by omega, by omega⟩, hq⟩
theorem alike_loop (X : MC h g st wi asd) {a b : Nat} (ha : a ≤ 60) (hb : b ≤ 60) (hT : ∀ c, c = a ∨ c = b → ∀ i, i < v_S (vw g st) → gi h 264 (6 * c + i) = trl (vw g st) wi asd c i)
    (hq : Q (some (vI (if alk (vw g st) wi asd a b then 1 else 0))) h) : ∀ (m i : Nat), i + m = v_S (vw g st) → (∀ c, c < i → trl (vw g st) wi asd a c = trl (vw g st) wi asd b c) → T2 d mX11_areAlike 2 [some (vR 247), some (vI (a : Int)), some (vI (b : Int)), some (vI (i : Int))] [] h Q := by
  obtain ⟨ok, ⟨a1, a2, a3, a4, a5, a6, a7⟩, -⟩ := X.vw
  have ok1 := ok.1
  intro m
  induction m with
  | zero =>
    intro i hi hc
    refine BX11_areAlike_2 ⟨fun _ => ?_, fun z => by rw [a4] at z; omega⟩
    rw [if_pos (alk_iff.mpr (fun c h => hc c (by omega)))] at hq
    exact hq
  | succ m ih =>
    intro i hi hc
    refine BX11_areAlike_2 ⟨fun z => by rw [a4] at z; omega, fun _ => ?_⟩
    rw [w32_r (x := 6 * (a : Int)) (by omega) (by omega), w32_r (x := 6 * (a : Int) + i) (by omega) (by omega), w32_r (x := 6 * (b : Int)) (by omega) (by omega), w32_r (x := 6 * (b : Int) + i) (by omega) (by omega), w32_r (x := (i : Int) + 1) (by omega) (by omega), show ((i : Int) + 1) = ((i + 1 : Nat) : Int) by omega, show (6 * (a : Int) + (i : Int)).toNat = 6 * a + i by omega, show (6 * (b : Int) + (i : Int)).toNat = 6 * b + i by omega, hT a (Or.inl rfl) i (by omega), hT b (Or.inr rfl) i (by omega)]
    refine ⟨⟨by omega, by omega⟩, ⟨by omega, by omega⟩, fun z => ih (i + 1) (by omega) (fun c hc2 => ?_), fun z => ?_⟩
    · by_cases e : c = i
      · subst e; exact z
      · exact hc c (by omega)
    · rw [if_neg (fun e => z ((alk_iff.mp e) i (by omega)))] at hq
      exact hq
theorem c_areAlike (X : MC h g st wi asd) {a b : Nat} (ha : a ≤ 60) (hb : b ≤ 60) (hT : ∀ c, c = a ∨ c = b → ∀ i, i < v_S (vw g st) → gi h 264 (6 * c + i) = trl (vw g st) wi asd c i)
    (hq : Q (some (vI (if alk (vw g st) wi asd a b then 1 else 0))) h) : C2 d mX11_areAlike [vR 247, vI (a : Int), vI (b : Int)] h Q :=
  EX11_areAlike fun _ _ => BX11_areAlike_0 (alike_loop X ha hb hT hq (v_S (vw g st)) 0 (by omega) (fun c hc => by omega))
def frGo : Nat → Nat → Prop := fun q k => (252 ≤ q ∧ q ≤ 264) ∨ (q = 247 ∧ (k = 18 ∨ k = 19 ∨ k = 31))
theorem frGo_N {q k : Nat} (z : frGo q k) : frN q k := by unfold frGo at z; unfold frN; omega
theorem goM_mark (X0 : MC h g st wi asd) {k : Nat} (hk : k ≤ 60) (hP : PM h (vw g st) wi (hts (vw g st) wi asd k)) (g35 : gi h 247 35 = k) (hH : ∀ i, i < v_S (vw g st) → gi h 254 i = hts (vw g st) wi asd k i) (hT : ∀ a, a < k → ∀ i, i < v_S (vw g st) → gi h 264 (6 * a + i) = trl (vw g st) wi asd a i)
    (hq : ∀ h', RM2 h' (vw g st) wi asd k → fr (fun q _ => q = 264) h h' → Q none h') :
    ∀ (m i : Nat) (h1 : PH), i + m = v_S (vw g st) → (∀ j, j < i → gi h1 264 (6 * k + j) = trl (vw g st) wi asd k j) → (∀ a, a < k → ∀ i, i < v_S (vw g st) → gi h1 264 (6 * a + i) = trl (vw g st) wi asd a i) → fr (fun q _ => q = 264) h h1 → T2 (d + 2) mX11_goesRound 39 [some (vR 247), some (vI (i : Int))] [] h1 Q := by
  obtain ⟨ok, ⟨a1, a2, a3, a4, a5, a6, a7⟩, b⟩ := X0.vw
  have ok1 := ok.1
  intro m
  induction m with
  | zero =>
    intro i h1 hi hj hT1 hF
    refine BX11_goesRound_39 ⟨fun _ => ?_, fun z => by rw [hF.1 _ _ (by omega), a4] at z; omega⟩
    refine hq h1 ⟨fun j hj2 => by rw [hF.1 _ _ (by omega)]; exact hH j hj2, hP.keep (fun q k z => hF.1 _ _ (by omega)), fun a ha j hj2 => ?_, by rw [hF.1 _ _ (by omega)]; exact g35⟩ hF
    by_cases e : a = k
    · subst e; exact hj j (by omega)
    · exact hT1 a (by omega) j hj2
  | succ m ih =>
    intro i h1 hi hj hT1 hF
    have hiS : i < v_S (vw g st) := by omega
    have X := X0.keep (hF.mono (fun q k z => by unfold frN; omega))
    have hP1 : PM h1 (vw g st) wi (hts (vw g st) wi asd k) := hP.keep (fun q k z => hF.1 _ _ (by omega))
    obtain ⟨-, -, -, -, -, b6⟩ := b i hiS
    obtain ⟨-, -, -, -, -, -, -, -, -, -, k9, k10, k11, k12⟩ := ok.2.1 i hiS
    have put : ∀ x h2, x = trl (vw g st) wi asd k i → h2 = si h1 264 (6 * k + i) x → T2 (d + 2) mX11_goesRound 39 [some (vR 247), some (vI ((i + 1 : Nat) : Int))] [] h2 Q := by
      intro x h2 hx eh
      subst hx eh
      refine ih (i + 1) _ (by omega) (fun j hj2 => ?_) (fun a ha j hj2 => ?_) (hF.si (by omega))
      · by_cases e : j = i
        · subst e; simp (disch := omega) only [gi_s0, gi_s1, gi_s2, gj_s0, gj_s1, gj_s2, gi_f0, gi_f1, gj_f0, gj_f1, gr_r0, gr_r1, gr_r2, gi_sj, gi_sr, gj_si, gj_sr, gr_si, gr_sj, gr_stI, gj_stI, gi_stJ, gr_stJ]
        · simp (disch := omega) only [gi_s0, gi_s1, gi_s2, gj_s0, gj_s1, gj_s2, gi_f0, gi_f1, gj_f0, gj_f1, gr_r0, gr_r1, gr_r2, gi_sj, gi_sr, gj_si, gj_sr, gr_si, gr_sj, gr_stI, gj_stI, gi_stJ, gr_stJ]; exact hj j (by omega)
      · simp (disch := omega) only [gi_s0, gi_s1, gi_s2, gj_s0, gj_s1, gj_s2, gi_f0, gi_f1, gj_f0, gj_f1, gr_r0, gr_r1, gr_r2, gi_sj, gi_sr, gj_si, gj_sr, gr_si, gr_sj, gr_stI, gj_stI, gi_stJ, gr_stJ]; exact hT1 a ha j hj2
    refine BX11_goesRound_39 ⟨fun z => by rw [hF.1 _ _ (by omega), a4] at z; omega, fun _ => ?_⟩
    refine c_isTied X hiS (fun _ => ?_)
    rw [hF.1 247 35 (by omega), g35, w32_r (x := 6 * (k : Int)) (by omega) (by omega), w32_r (x := 6 * (k : Int) + i) (by omega) (by omega), w32_r (x := (i : Int) + 1) (by omega) (by omega), show ((i : Int) + 1) = ((i + 1 : Nat) : Int) by omega, show (6 * (k : Int) + (i : Int)).toNat = 6 * k + i by omega]
    refine ⟨fun z => ⟨⟨by omega, by omega⟩, fun h2 e2 => put _ h2 ?_ e2⟩, fun z => ?_⟩
    · have htd : tdT (vw g st) asd i = -1 := by
        by_cases z2 : tdT (vw g st) asd i = -1
        · exact z2
        · rw [if_pos z2] at z; omega
      unfold trl rowS
      unfold tdT at htd
      by_cases e : (i : Int) = asd
      · rw [if_pos e]
      · rw [if_neg e] at htd ⊢
        rw [htd, lnW_neg (by omega)]
    · have htd : tdT (vw g st) asd i ≠ -1 := fun z2 => by rw [if_neg (by omega)] at z; omega
      unfold tdT at htd
      have e : ¬ (i : Int) = asd := fun e => htd (if_pos e)
      rw [if_neg e] at htd
      rw [w32a (k := 103) (n := 103) rfl (by omega)]
      try simp only [Int.toNat_natCast]
      rw [hF.1 248 (103 + i) (by omega), b6]
      refine ⟨⟨by omega, by omega⟩, c_lineM X hP1 (by omega) (by omega) (fun _ => ⟨⟨by omega, by omega⟩, fun h2 e2 => put _ h2 ?_ e2⟩)⟩
      unfold trl rowS
      rw [if_neg e]
theorem goM_loop (X0 : MC h g st wi asd) {k : Nat} (hk : k ≤ 60) (g35 : gi h 247 35 = k) (hT : ∀ a, a < k → ∀ i, i < v_S (vw g st) → gi h 264 (6 * a + i) = trl (vw g st) wi asd a i)
    (hq : ∀ h', RM2 h' (vw g st) wi asd k → fr frGo h h' → Q none h') :
    ∀ (m i : Nat) (h1 : PH), i + m = v_S (vw g st) → (∀ j, j < i → gi h1 254 j = hts (vw g st) wi asd k j) → fr (fun q _ => q = 254) h h1 → T2 (d + 7) mX11_goesRound 2 [some (vR 247), some (vI (i : Int))] [] h1 Q := by
  obtain ⟨ok, ⟨a1, a2, a3, a4, a5, a6, a7⟩, b⟩ := X0.vw
  have ok1 := ok.1
  have hwi := X0.2.2.2.2.2.2.2
  intro m
  induction m with
  | zero =>
    intro i h1 hi hj hF
    have X := X0.keep (hF.mono (fun q k z => by unfold frN; omega))
    refine BX11_goesRound_2 ⟨fun _ => ?_, fun z => by rw [hF.1 _ _ (by omega), a4] at z; omega⟩
    refine c_pours X (ht := hts (vw g st) wi asd k) (fun j hj2 => ⟨hj j (by omega), hts_rg ok hwi.1 k hj2⟩) (fun h2 b1 b2 => ⟨rfl, ?_⟩)
    have X2 := X.keep (b2.mono (fun q k z => frPo_N z))
    refine goM_mark (d := d + 5) X2 hk b1 ?_ (fun j hj2 => ?_) (fun a ha j hj2 => ?_) (fun h3 c1 c2 => hq h3 c1 (((hF.mono (fun q k z => by unfold frGo; omega)).tr (b2.mono (fun q k z => by unfold frPo frLy frQ at z; unfold frGo; omega))).tr (c2.mono (fun q k z => by unfold frGo; omega)))) (v_S (vw g st)) 0 h2 (by omega) (fun j hj2 => by omega) (fun a ha j hj2 => ?_) fr.rf
    · rw [b2.1 _ _ (by unfold frPo frLy frQ; omega), hF.1 _ _ (by omega)]; exact g35
    · rw [b2.1 _ _ (by unfold frPo frLy frQ; omega)]; exact hj j (by omega)
    · rw [b2.1 _ _ (by unfold frPo frLy frQ; omega), hF.1 _ _ (by omega)]; exact hT a ha j hj2
    · rw [b2.1 _ _ (by unfold frPo frLy frQ; omega), hF.1 _ _ (by omega)]; exact hT a ha j hj2
  | succ m ih =>
    intro i h1 hi hj hF
    have X := X0.keep (hF.mono (fun q k z => by unfold frN; omega))
    refine BX11_goesRound_2 ⟨fun z => by rw [hF.1 _ _ (by omega), a4] at z; omega, fun _ => ?_⟩
    rw [hF.1 247 35 (by omega), g35]
    refine c_heightIn X (k := k) (by omega) (by omega) (fun hk1 => by rw [hF.1 _ _ (by omega)]; exact hT (k - 1) (by omega) i (by omega)) (fun _ => ⟨⟨by omega, by omega⟩, fun h2 e2 => ?_⟩)
    subst e2
    try simp only [Int.toNat_natCast]
    rw [w32_r (by omega) (by omega), show ((i : Int) + 1) = ((i + 1 : Nat) : Int) by omega]
    refine ih (i + 1) _ (by omega) (fun j hj2 => ?_) (hF.si (by omega))
    by_cases e : j = i
    · subst e; simp (disch := omega) only [gi_s0, gi_s1, gi_s2, gj_s0, gj_s1, gj_s2, gi_f0, gi_f1, gj_f0, gj_f1, gr_r0, gr_r1, gr_r2, gi_sj, gi_sr, gj_si, gj_sr, gr_si, gr_sj, gr_stI, gj_stI, gi_stJ, gr_stJ]
    · simp (disch := omega) only [gi_s0, gi_s1, gi_s2, gj_s0, gj_s1, gj_s2, gi_f0, gi_f1, gj_f0, gj_f1, gr_r0, gr_r1, gr_r2, gi_sj, gi_sr, gj_si, gj_sr, gr_si, gr_sj, gr_stI, gj_stI, gi_stJ, gr_stJ]; exact hj j (by omega)
theorem c_goesRound (X : MC h g st wi asd) {k : Nat} (hk : k ≤ 60) (g35 : gi h 247 35 = k) (hT : ∀ a, a < k → ∀ i, i < v_S (vw g st) → gi h 264 (6 * a + i) = trl (vw g st) wi asd a i)
    (hq : ∀ h', RM2 h' (vw g st) wi asd k → fr frGo h h' → Q none h') : C2 (d + 7) mX11_goesRound [vR 247] h Q :=
  EX11_goesRound (BX11_goesRound_0 (goM_loop X hk g35 hT hq (v_S (vw g st)) 0 h (by omega) (fun j hj => by omega) fr.rf))
theorem RM2.keep {h h' : PH} {v : VW} {wi asd : Int} {k : Nat} (a : RM2 h v wi asd k) (e : ∀ q j, (254 ≤ q ∧ q ≤ 264) ∨ (q = 247 ∧ (j = 31 ∨ j = 35)) → gi h' q j = gi h q j) : RM2 h' v wi asd k := by
  obtain ⟨a1, a2, a3, a4⟩ := a
  exact ⟨fun i hi => by rw [e _ _ (by omega)]; exact a1 i hi, a2.keep (fun q k z => e _ _ (by omega)), fun a ha i hi => by rw [e _ _ (by omega)]; exact a3 a ha i hi, by rw [e _ _ (by omega)]; exact a4⟩
theorem back_loop (X0 : MC h g st wi asd) {k : Nat} (hk1 : 1 ≤ k) (hk : k ≤ 60) (hR : RM2 h (vw g st) wi asd k) (g37 : gi h 247 37 = -1)
    (hq : ∀ h', gi h' 247 37 = fst (alk (vw g st) wi asd k) (k - 1) 0 → fr (fun q j => q = 247 ∧ j = 37) h h' → T2 (d + 1) mX11_sets 126 [some (vR 247), some (vI 1), none] [] h' Q) : ∀ (m j : Nat), j + m = k - 1 → fst (alk (vw g st) wi asd k) (k - 1) 0 = fst (alk (vw g st) wi asd k) m j → T2 (d + 1) mX11_sets 85 [some (vR 247), some (vI 1), some (vI (j : Int))] [] h Q := by
  intro m
  induction m with
  | zero =>
    intro j hj hf
    refine BX11_sets_85 ?_
    rw [hR.2.2.2, w32_r (by omega) (by omega)]
    refine ⟨fun _ => hq h (by rw [hf, g37]; rfl) fr.rf, fun z => by omega⟩
  | succ m ih =>
    intro j hj hf
    refine BX11_sets_85 ?_
    rw [hR.2.2.2, w32_r (by omega) (by omega), g37]
    refine ⟨fun z => by omega, fun _ => ⟨fun z => by omega, fun _ => ?_⟩⟩
    refine c_areAlike X0 hk (by omega) (fun c hc => hR.2.2.1 c (by omega)) (fun _ => ?_)
    rw [w32_r (by omega) (by omega), show ((j : Int) + 1) = ((j + 1 : Nat) : Int) by omega]
    refine ⟨fun z => ?_, fun z h2 e2 => ?_⟩
    · have e : alk (vw g st) wi asd k j = false := by
        cases hb : alk (vw g st) wi asd k j with
        | false => rfl
        | true => rw [hb] at z; simp at z
      refine ih (j + 1) (by omega) ?_
      rw [hf]
      show (if alk (vw g st) wi asd k j then (j : Int) else fst (alk (vw g st) wi asd k) m (j + 1)) = _
      rw [e]; rfl
    · subst e2
      have e : alk (vw g st) wi asd k j = true := by
        cases hb : alk (vw g st) wi asd k j with
        | true => rfl
        | false => rw [hb] at z; simp at z
      have e3 : fst (alk (vw g st) wi asd k) (k - 1) 0 = (j : Int) := by
        rw [hf]
        show (if alk (vw g st) wi asd k j then (j : Int) else fst (alk (vw g st) wi asd k) m (j + 1)) = _
        rw [e]; rfl
      have hF : fr (fun q j => q = 247 ∧ j = 37) h (si h 247 37 (j : Int)) := fr.rf.si (by omega)
      have h37 : gi (si h 247 37 (j : Int)) 247 37 = fst (alk (vw g st) wi asd k) (k - 1) 0 := by rw [gi_s0, e3]
      refine BX11_sets_85 ⟨fun _ => hq _ h37 hF, fun _ => ⟨fun _ => hq _ h37 hF, fun z => by rw [gi_s0] at z; omega⟩⟩
theorem setsM_loop (X0 : MC h g st wi asd) (ha : anyT (vw g st) asd = true) (hq : ∀ h', DM h' (vw g st) wi asd → fr frN h h' → Q none h') :
    ∀ (m k : Nat) (h1 : PH), k + m = 59 → RM2 h1 (vw g st) wi asd k → gi h1 247 36 = 0 → gi h1 247 37 = -1 → srS (vw g st) wi asd 59 1 = srS (vw g st) wi asd (59 - k) (k + 1) → fr frN h h1 → T2 (d + 8) mX11_sets 47 [some (vR 247), some (vI 1), none] [] h1 Q := by
  intro m
  induction m with
  | zero => 
    intro k h1 hk hR g36 g37 hs hF
    have X := X0.keep hF
    obtain ⟨r1, r2, r3, r4⟩ := hR
    refine BX11_sets_47 ⟨fun z => by omega, fun _ h2 e2 => ?_⟩
    subst e2
    rw [r4, w32_r (by omega) (by omega), show ((k : Int) + 1) = ((k + 1 : Nat) : Int) by omega]
    have F2 : fr frN h1 (si h1 247 35 ((k + 1 : Nat) : Int)) := fr.rf.si (by unfold frN; omega)
    refine c_goesRound (X.keep F2) (k := k + 1) (by omega) gi_s0 (fun a ha i hi => by simp (disch := omega) only [gi_s0, gi_s1, gi_s2, gj_s0, gj_s1, gj_s2, gi_f0, gi_f1, gj_f0, gj_f1, gr_r0, gr_r1, gr_r2, gi_sj, gi_sr, gj_si, gj_sr, gr_si, gr_sj, gr_stI, gj_stI, gi_stJ, gr_stJ]; exact r3 a (by omega) i hi) (fun h3 b1 b2 => ⟨rfl, ?_⟩)
    have F3 : fr frN h h3 := (hF.tr F2).tr (b2.mono (fun q k z => frGo_N z))
    have X3 := X0.keep F3
    have q36 : gi h3 247 36 = 0 := by rw [b2.1 _ _ (by unfold frGo; omega)]; simp (disch := omega) only [gi_s0, gi_s1, gi_s2, gj_s0, gj_s1, gj_s2, gi_f0, gi_f1, gj_f0, gj_f1, gr_r0, gr_r1, gr_r2, gi_sj, gi_sr, gj_si, gj_sr, gr_si, gr_sj, gr_stI, gj_stI, gi_stJ, gr_stJ]; exact g36
    have q37 : gi h3 247 37 = -1 := by rw [b2.1 _ _ (by unfold frGo; omega)]; simp (disch := omega) only [gi_s0, gi_s1, gi_s2, gj_s0, gj_s1, gj_s2, gi_f0, gi_f1, gj_f0, gj_f1, gr_r0, gr_r1, gr_r2, gi_sj, gi_sr, gj_si, gj_sr, gr_si, gr_sj, gr_stI, gj_stI, gi_stJ, gr_stJ]; exact g37
    have b14 := b1.2.2.2
    dsimp only
    rw [b14, w32_r (by omega) (by omega), show (((k + 1 : Nat) : Int) - 1) = (k : Int) by omega]
    have eS : setR (vw g st) wi asd = (k + 1, resS (vw g st) wi asd (k + 1)) := by
      unfold setR; rw [ha, if_pos rfl, hs, show 59 - k = 0 by omega]; rfl
    have eR : fR (vw g st) wi asd = k + 1 := by unfold fR; rw [eS]
    refine c_areAlike X3 (a := k + 1) (b := k) (by omega) (by omega) (fun c hc => b1.2.2.1 c (by omega)) (fun _ => ⟨fun z => ?_, fun z => ?_⟩)
    · have hn : alk (vw g st) wi asd (k + 1) k = false := by
        cases hb : alk (vw g st) wi asd (k + 1) k with
        | false => rfl
        | true => rw [hb] at z; simp at z
      refine back_loop (d := d + 7) X3 (k := k + 1) (by omega) (by omega) b1 q37 (fun h4 c1 c2 => ?_) (k + 1 - 1) 0 (by omega) rfl
      have hres : resS (vw g st) wi asd (k + 1) = (if gi h4 247 37 = -1 then 2 else 1, gi h4 247 37) := by
        unfold resS
        rw [show k + 1 - 1 = k from rfl, hn, if_neg (by decide)]
        rw [show k + 1 - 1 = k from rfl] at c1
        rw [c1]
        rcases fst_rg (alk (vw g st) wi asd (k + 1)) k 0 with u | u
        · rw [u]; rfl
        · rw [if_neg (by omega), if_neg (by omega)]
      have fin : ∀ x : Int, x = (resS (vw g st) wi asd (k + 1)).1 → T2 (d + 8) mX11_sets 140 [some (vR 247), some (vI 1), none] [vI x, vR 247] h4 Q := by
        intro x hx
        refine BX11_sets_140 (fun h5 e5 => ?_)
        subst e5
        have F5 : fr frN h (si h4 247 36 x) := ((F3.tr (c2.mono (fun q k z => by unfold frN; omega))).si (by unfold frN; omega))
        have done : Q none (si h4 247 36 x) := by
          refine hq _ ⟨?_, ?_, ?_⟩ F5
          · rw [eR]; exact b1.keep (fun q j z => by rw [gi_si, if_neg (by omega)]; exact c2.1 _ _ (by omega))
          · rw [eS]; simp (disch := omega) only [gi_s0, gi_s1, gi_s2, gj_s0, gj_s1, gj_s2, gi_f0, gi_f1, gj_f0, gj_f1, gr_r0, gr_r1, gr_r2, gi_sj, gi_sr, gj_si, gj_sr, gr_si, gr_sj, gr_stI, gj_stI, gi_stJ, gr_stJ]; exact hx
          · rw [eS]; simp (disch := omega) only [gi_s0, gi_s1, gi_s2, gj_s0, gj_s1, gj_s2, gi_f0, gi_f1, gj_f0, gj_f1, gr_r0, gr_r1, gr_r2, gi_sj, gi_sr, gj_si, gj_sr, gr_si, gr_sj, gr_stI, gj_stI, gi_stJ, gr_stJ]; rw [hres]
        refine ⟨fun _ => done, fun _ => ⟨fun z => ?_, fun _ => done⟩⟩
        exfalso
        rw [gi_s2 (by omega), c2.1 _ _ (by omega), b14] at z
        omega
      refine BX11_sets_126 ⟨fun y => fin 2 ?_, fun y => fin 1 ?_⟩
      · rw [hres, if_pos y]
      · rw [hres, if_neg y]
    · have hn : alk (vw g st) wi asd (k + 1) k = true := by
        cases hb : alk (vw g st) wi asd (k + 1) k with
        | true => rfl
        | false => rw [hb] at z; simp at z
      have hres : resS (vw g st) wi asd (k + 1) = (0, -1) := by
        unfold resS
        rw [show k + 1 - 1 = k from rfl, hn]; rfl
      refine hq h3 ⟨?_, ?_, ?_⟩ F3
      · rw [eR]; exact b1
      · rw [eS, hres]; exact q36
      · rw [eS, hres]; exact q37
  | succ m ih =>
    intro k h1 hk hR g36 g37 hs hF
    have X := X0.keep hF
    obtain ⟨r1, r2, r3, r4⟩ := hR
    refine BX11_sets_47 ⟨fun z => by omega, fun _ h2 e2 => ?_⟩
    subst e2
    rw [r4, w32_r (by omega) (by omega), show ((k : Int) + 1) = ((k + 1 : Nat) : Int) by omega]
    have F2 : fr frN h1 (si h1 247 35 ((k + 1 : Nat) : Int)) := fr.rf.si (by unfold frN; omega)
    refine c_goesRound (X.keep F2) (k := k + 1) (by omega) gi_s0 (fun a ha i hi => by simp (disch := omega) only [gi_s0, gi_s1, gi_s2, gj_s0, gj_s1, gj_s2, gi_f0, gi_f1, gj_f0, gj_f1, gr_r0, gr_r1, gr_r2, gi_sj, gi_sr, gj_si, gj_sr, gr_si, gr_sj, gr_stI, gj_stI, gi_stJ, gr_stJ]; exact r3 a (by omega) i hi) (fun h3 b1 b2 => ⟨rfl, ?_⟩)
    have F3 : fr frN h h3 := (hF.tr F2).tr (b2.mono (fun q k z => frGo_N z))
    have X3 := X0.keep F3
    have q36 : gi h3 247 36 = 0 := by rw [b2.1 _ _ (by unfold frGo; omega)]; simp (disch := omega) only [gi_s0, gi_s1, gi_s2, gj_s0, gj_s1, gj_s2, gi_f0, gi_f1, gj_f0, gj_f1, gr_r0, gr_r1, gr_r2, gi_sj, gi_sr, gj_si, gj_sr, gr_si, gr_sj, gr_stI, gj_stI, gi_stJ, gr_stJ]; exact g36
    have q37 : gi h3 247 37 = -1 := by rw [b2.1 _ _ (by unfold frGo; omega)]; simp (disch := omega) only [gi_s0, gi_s1, gi_s2, gj_s0, gj_s1, gj_s2, gi_f0, gi_f1, gj_f0, gj_f1, gr_r0, gr_r1, gr_r2, gi_sj, gi_sr, gj_si, gj_sr, gr_si, gr_sj, gr_stI, gj_stI, gi_stJ, gr_stJ]; exact g37
    have b14 := b1.2.2.2
    dsimp only
    rw [b14, w32_r (by omega) (by omega), show (((k + 1 : Nat) : Int) - 1) = (k : Int) by omega]
    have eS : (resS (vw g st) wi asd (k + 1)).1 ≠ 2 → setR (vw g st) wi asd = (k + 1, resS (vw g st) wi asd (k + 1)) := by
      intro h2
      unfold setR; rw [ha, if_pos rfl, hs, show 59 - k = m + 1 by omega]
      show (if (resS (vw g st) wi asd (k + 1)).1 = 2 then _ else _) = _
      rw [if_neg h2]
    refine c_areAlike X3 (a := k + 1) (b := k) (by omega) (by omega) (fun c hc => b1.2.2.1 c (by omega)) (fun _ => ⟨fun z => ?_, fun z => ?_⟩)
    · have hn : alk (vw g st) wi asd (k + 1) k = false := by
        cases hb : alk (vw g st) wi asd (k + 1) k with
        | false => rfl
        | true => rw [hb] at z; simp at z
      refine back_loop (d := d + 7) X3 (k := k + 1) (by omega) (by omega) b1 q37 (fun h4 c1 c2 => ?_) (k + 1 - 1) 0 (by omega) rfl
      have hres : resS (vw g st) wi asd (k + 1) = (if gi h4 247 37 = -1 then 2 else 1, gi h4 247 37) := by
        unfold resS
        rw [show k + 1 - 1 = k from rfl, hn, if_neg (by decide)]
        rw [show k + 1 - 1 = k from rfl] at c1
        rw [c1]
        rcases fst_rg (alk (vw g st) wi asd (k + 1)) k 0 with u | u
        · rw [u]; rfl
        · rw [if_neg (by omega), if_neg (by omega)]
      have fin : ∀ x : Int, x = (resS (vw g st) wi asd (k + 1)).1 → x = 1 ∨ (x = 2 ∧ gi h4 247 37 = -1) → T2 (d + 8) mX11_sets 140 [some (vR 247), some (vI 1), none] [vI x, vR 247] h4 Q := by
        intro x hx hx2
        refine BX11_sets_140 (fun h5 e5 => ?_)
        subst e5
        have F5 : fr frN h (si h4 247 36 x) := ((F3.tr (c2.mono (fun q k z => by unfold frN; omega))).si (by unfold frN; omega))
        have hR5 : RM2 (si h4 247 36 x) (vw g st) wi asd (k + 1) := b1.keep (fun q j z => by rw [gi_si, if_neg (by omega)]; exact c2.1 _ _ (by omega))
        refine ⟨fun y => ?_, fun y => ⟨fun z h6 e6 => ?_, fun z => ?_⟩⟩
        · rw [gi_s0] at y
          have eS1 := eS (by omega)
          refine hq _ ⟨?_, ?_, ?_⟩ F5
          · rw [show fR (vw g st) wi asd = k + 1 by unfold fR; rw [eS1]]; exact hR5
          · rw [eS1]; simp (disch := omega) only [gi_s0, gi_s1, gi_s2, gj_s0, gj_s1, gj_s2, gi_f0, gi_f1, gj_f0, gj_f1, gr_r0, gr_r1, gr_r2, gi_sj, gi_sr, gj_si, gj_sr, gr_si, gr_sj, gr_stI, gj_stI, gi_stJ, gr_stJ]; exact hx
          · rw [eS1]; simp (disch := omega) only [gi_s0, gi_s1, gi_s2, gj_s0, gj_s1, gj_s2, gi_f0, gi_f1, gj_f0, gj_f1, gr_r0, gr_r1, gr_r2, gi_sj, gi_sr, gj_si, gj_sr, gr_si, gr_sj, gr_stI, gj_stI, gi_stJ, gr_stJ]; rw [hres]
        · subst e6
          rw [gi_s0] at y
          refine ih (k + 1) _ (by omega) (hR5.keep (fun q j z => by rw [gi_si, if_neg (by omega)])) gi_s0 ?_ ?_ (F5.si (by unfold frN; omega))
          · simp (disch := omega) only [gi_s0, gi_s1, gi_s2, gj_s0, gj_s1, gj_s2, gi_f0, gi_f1, gj_f0, gj_f1, gr_r0, gr_r1, gr_r2, gi_sj, gi_sr, gj_si, gj_sr, gr_si, gr_sj, gr_stI, gj_stI, gi_stJ, gr_stJ]; omega
          · rw [hs, show 59 - k = m + 1 by omega, show 59 - (k + 1) = m by omega]
            show (if (resS (vw g st) wi asd (k + 1)).1 = 2 then _ else _) = _
            rw [if_pos (by omega)]
        · exfalso
          rw [gi_s2 (by omega), c2.1 _ _ (by omega), b14] at z
          omega
      refine BX11_sets_126 ⟨fun y => fin 2 ?_ (Or.inr ⟨rfl, y⟩), fun y => fin 1 ?_ (Or.inl rfl)⟩
      · rw [hres, if_pos y]
      · rw [hres, if_neg y]
    · have hn : alk (vw g st) wi asd (k + 1) k = true := by
        cases hb : alk (vw g st) wi asd (k + 1) k with
        | true => rfl
        | false => rw [hb] at z; simp at z
      have hres : resS (vw g st) wi asd (k + 1) = (0, -1) := by
        unfold resS
        rw [show k + 1 - 1 = k from rfl, hn]; rfl
      have eS1 := eS (by rw [hres]; decide)
      refine hq h3 ⟨?_, ?_, ?_⟩ F3
      · rw [show fR (vw g st) wi asd = k + 1 by unfold fR; rw [eS1]]; exact b1
      · rw [eS1, hres]; exact q36
      · rw [eS1, hres]; exact q37
theorem ior01 (a b : Bool) : ior (if a then 1 else 0) (if b then 1 else 0) = if (a || b) then 1 else 0 := by cases a <;> cases b <;> decide
theorem any_loop (X : MC h g st wi asd) (hq : ∀ h', DM h' (vw g st) wi asd → fr frN h h' → Q none h') : ∀ (m i : Nat), i + m = v_S (vw g st) → T2 (d + 8) mX11_sets 4 [some (vR 247), some (vI (if anyN (vw g st) asd i then 1 else 0)), some (vI (i : Int))] [] h Q := by
  obtain ⟨ok, ⟨a1, a2, a3, a4, a5, a6, a7⟩, b⟩ := X.vw
  have ok1 := ok.1
  intro m
  induction m with
  | zero =>
    intro i hi
    have ei : i = v_S (vw g st) := by omega
    subst ei
    refine BX11_sets_4 ⟨fun _ h1 e1 h2 e2 h3 e3 => ?_, fun z => by rw [a4] at z; omega⟩
    subst e1 e2 e3
    have F1 : fr frN h (si (si (si h 247 35 0) 247 36 0) 247 37 (-1)) := ((fr.rf.si (by unfold frN; omega)).si (by unfold frN; omega)).si (by unfold frN; omega)
    refine c_goesRound (X.keep F1) (k := 0) (by omega) (by simp (disch := omega) only [gi_s0, gi_s1, gi_s2, gj_s0, gj_s1, gj_s2, gi_f0, gi_f1, gj_f0, gj_f1, gr_r0, gr_r1, gr_r2, gi_sj, gi_sr, gj_si, gj_sr, gr_si, gr_sj, gr_stI, gj_stI, gi_stJ, gr_stJ]; rfl) (fun a ha => by omega) (fun h4 b1 b2 => ⟨rfl, ?_⟩)
    have F4 : fr frN h h4 := F1.tr (b2.mono (fun q k z => frGo_N z))
    have q36 : gi h4 247 36 = 0 := by rw [b2.1 _ _ (by unfold frGo; omega)]; simp (disch := omega) only [gi_s0, gi_s1, gi_s2, gj_s0, gj_s1, gj_s2, gi_f0, gi_f1, gj_f0, gj_f1, gr_r0, gr_r1, gr_r2, gi_sj, gi_sr, gj_si, gj_sr, gr_si, gr_sj, gr_stI, gj_stI, gi_stJ, gr_stJ]
    have q37 : gi h4 247 37 = -1 := by rw [b2.1 _ _ (by unfold frGo; omega)]; simp (disch := omega) only [gi_s0, gi_s1, gi_s2, gj_s0, gj_s1, gj_s2, gi_f0, gi_f1, gj_f0, gj_f1, gr_r0, gr_r1, gr_r2, gi_sj, gi_sr, gj_si, gj_sr, gr_si, gr_sj, gr_stI, gj_stI, gi_stJ, gr_stJ]
    have ea : anyN (vw g st) asd (v_S (vw g st)) = anyT (vw g st) asd := rfl
    rw [ea]
    cases hb : anyT (vw g st) asd with
    | false =>
      refine BX11_sets_47 ⟨fun _ => ?_, fun z => by simp at z⟩
      have eS : setR (vw g st) wi asd = (0, 0, -1) := by unfold setR; rw [hb]; rfl
      refine hq h4 ⟨?_, ?_, ?_⟩ F4
      · rw [show fR (vw g st) wi asd = 0 by unfold fR; rw [eS]]; exact b1
      · rw [eS]; exact q36
      · rw [eS]; exact q37
    | true =>
      exact setsM_loop (d := d) X hb hq 59 0 h4 (by omega) b1 q36 q37 rfl F4
  | succ m ih =>
    intro i hi
    refine BX11_sets_4 ⟨fun z => by rw [a4] at z; omega, fun _ => ?_⟩
    refine c_isTied X (by omega) (fun _ => ?_)
    have := ih (i + 1) (by omega)
    rw [anyN_succ, ← ior01] at this
    rw [w32_r (by omega) (by omega), show ((i : Int) + 1) = ((i + 1 : Nat) : Int) by omega]
    simpa using this
theorem c_sets (X : MC h g st wi asd) (hq : ∀ h', DM h' (vw g st) wi asd → fr frN h h' → Q none h') : C2 (d + 8) mX11_sets [vR 247] h Q :=
  EX11_sets (BX11_sets_0 (any_loop X hq (v_S (vw g st)) 0 (by omega)))
end
