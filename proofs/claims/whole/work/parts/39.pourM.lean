/-! THE MODEL: lines laid, words poured -/
section
variable {d : Nat} {h : PH} {Q : Option PV → PH → Prop}
variable {g : PG} {st : Nat → Int} {wi asd : Int} {ht : Nat → Int}
theorem rch_neg {v : VW} {s l : Nat} {y : Int} (h : y < 0) : rch v s y l = -1 := by unfold rch; rw [if_pos h]
theorem lays_loop (X0 : MC h g st wi asd) {l : Nat} (hl : l < v_ln (vw g st)) (hH : ∀ i, i < v_S (vw g st) → gi h 254 i = ht i ∧ -1 ≤ ht i ∧ ht i ≤ 1000) (hS : SM h (slt (vw g st) wi ht l))
    (hq : ∀ h', SM h' (slt (vw g st) wi ht (l + 1)) → (∀ k, k < (slt (vw g st) wi ht l).length → gi h' 258 k = gi h 258 k) → (∀ k, (slt (vw g st) wi ht l).length ≤ k → k < (slt (vw g st) wi ht (l + 1)).length → gi h' 258 k = 0) → fr frLy h h' → Q none h') :
    ∀ (m i : Nat) (h1 : PH), i + m = v_S (vw g st) → BK h1 (spl (vw g st) ht l i) → fr (fun q k => frSp q k ∨ q = 262 ∨ q = 263) h h1 → T2 (d + 4) mX11_laysLine 4 [some (vR 247), some (vI (l : Int)), some (vI ((spl (vw g st) ht l i).length : Int)), some (vI (i : Int)), none, none, none] [] h1 Q := by
  obtain ⟨ok, ⟨a1, a2, a3, a4, a5, a6, a7⟩, b⟩ := X0.vw
  have ok1 := ok.1
  have hwi := X0.2.2.2.2.2.2.2
  intro m
  induction m with
  | zero =>
    intro i h1 hi hB hF
    have ei : i = v_S (vw g st) := by omega
    subst ei
    have X := X0.keep (hF.mono (fun q k z => by unfold frSp at z; unfold frN; omega))
    refine BX11_laysLine_4 ⟨fun _ => ?_, fun z => by rw [hF.1 _ _ (by unfold frSp; omega), a4] at z; omega⟩
    have hsl := slt_len ok hwi.1 (ht := ht) l (by omega)
    have hspl := spl_len (vw g st) ht l (v_S (vw g st))
    have hbl := spl_lr ok hl (ht := ht) _ (Nat.le_refl _)
    have hc7 := cutS_len (wi := wi) (le := v_le (vw g st)) (M := spl (vw g st) ht l (v_S (vw g st))) (by omega) hwi.1 (fun b hb => (hbl b hb).2.1)
    have hFy : fr frLy h h1 := hF.mono (fun q k z => by unfold frSp at z; unfold frLy; omega)
    have hS1 : SM h1 (slt (vw g st) wi ht l ++ mkL l []) := by
      show SM h1 (slt (vw g st) wi ht l ++ [])
      rw [List.append_nil]
      refine ⟨by rw [hF.1 _ _ (by unfold frSp; omega)]; exact hS.1, fun k hk => ?_⟩
      rw [hF.1 _ _ (by unfold frSp; omega), hF.1 _ _ (by unfold frSp; omega), hF.1 _ _ (by unfold frSp; omega)]; exact hS.2 k hk
    refine gaps_loop (h := h1) X (by omega) (by omega) hbl (L := slt (vw g st) wi ht l) (by omega) (by omega) (fun h' b1 b2 b3 b4 => ?_) 200 0 [] h1 (by omega) (by omega) (by omega) ?_ hB hS1 (fun k _ => rfl) (fun k z1 z2 => by simp [mkL] at z2; omega) fr.rf
    · exact hq h' b1 (fun k hk => by rw [b2 k hk, hF.1 _ _ (by unfold frSp; omega)]) b3 (hFy.tr b4)
    · rw [show wi - 0 = wi by omega, show min 0 wi = 0 by omega]; rfl
  | succ m ih =>
    intro i h1 hi hB hF
    have hiS : i < v_S (vw g st) := by omega
    have X := X0.keep (hF.mono (fun q k z => by unfold frSp at z; unfold frN; omega))
    obtain ⟨z1, z2, z3⟩ := hH i hiS
    have hspl := spl_len (vw g st) ht l i
    refine BX11_laysLine_4 ⟨fun z => by rw [hF.1 _ _ (by unfold frSp; omega), a4] at z; omega, fun _ => ⟨⟨by omega, by omega⟩, ?_⟩⟩
    try simp only [Int.toNat_natCast]
    rw [hF.1 254 i (by unfold frSp; omega), z1, w32_r (x := (i : Int) + 1) (by omega) (by omega), show ((i : Int) + 1) = ((i + 1 : Nat) : Int) by omega]
    have none_case : rch (vw g st) i (ht i) l < 0 → ∀ h2, BK h2 (spl (vw g st) ht l i) → fr (fun q k => frSp q k ∨ q = 262 ∨ q = 263) h h2 → T2 (d + 4) mX11_laysLine 4 [some (vR 247), some (vI (l : Int)), some (vI ((spl (vw g st) ht l i).length : Int)), some (vI ((i + 1 : Nat) : Int)), none, none, none] [] h2 Q := by
      intro hr h2 hB2 hF2
      have e2 : spl (vw g st) ht l (i + 1) = spl (vw g st) ht l i := by
        show spl (vw g st) ht l i ++ _ = _
        rw [if_pos hr, List.append_nil]
      have := ih (i + 1) h2 (by omega) (by rw [e2]; exact hB2) hF2
      rw [e2] at this
      exact this
    refine ⟨fun z => none_case (by rw [rch_neg (by omega)]; omega) h1 hB hF, fun z => ⟨⟨by omega, by omega⟩, ?_⟩⟩
    refine c_isSpanned X hiS hl ⟨by omega, by omega⟩ (fun hr _ => ⟨fun y => by omega, fun _ => none_case hr h1 hB hF⟩) (fun hr h2 q1 q2 q3 _ => ⟨fun _ => ⟨⟨by omega, by omega⟩, fun h3 e3 => ?_⟩, fun y => by omega⟩)
    subst e3
    refine ⟨⟨by omega, by omega⟩, fun h3 e3 => ?_⟩
    subst e3
    try simp only [Int.toNat_natCast]
    simp (disch := omega) only [gi_s0, gi_s1, gi_s2, gj_s0, gj_s1, gj_s2, gi_f0, gi_f1, gj_f0, gj_f1, gr_r0, gr_r1, gr_r2, gi_sj, gi_sr, gj_si, gj_sr, gr_si, gr_sj, gr_stI, gj_stI, gi_stJ, gr_stJ]
    rw [q1, q2, w32_r (by omega) (by omega)]
    have e2 : spl (vw g st) ht l (i + 1) = spl (vw g st) ht l i ++ [(spL (vw g st) i l (rch (vw g st) i (ht i) l), spR (vw g st) i l (rch (vw g st) i (ht i) l))] := by
      show spl (vw g st) ht l i ++ _ = _
      rw [if_neg (by omega)]
    have := ih (i + 1) (si (si h2 262 (spl (vw g st) ht l i).length (spL (vw g st) i l (rch (vw g st) i (ht i) l))) 263 (spl (vw g st) ht l i).length (spR (vw g st) i l (rch (vw g st) i (ht i) l))) (by omega) (fun j hj => ?_) (((hF.tr (q3.mono (fun q k z => Or.inl z))).si (Or.inr (Or.inl rfl))).si (Or.inr (Or.inr rfl)))
    · rw [e2, List.length_append] at this
      exact this
    · rw [e2] at hj ⊢
      by_cases ej : j < (spl (vw g st) ht l i).length
      · rw [getD_app _ _ _ ej]
        simp (disch := omega) only [gi_s0, gi_s1, gi_s2, gj_s0, gj_s1, gj_s2, gi_f0, gi_f1, gj_f0, gj_f1, gr_r0, gr_r1, gr_r2, gi_sj, gi_sr, gj_si, gj_sr, gr_si, gr_sj, gr_stI, gj_stI, gi_stJ, gr_stJ]
        rw [q3.1 _ _ (by unfold frSp; omega), q3.1 _ _ (by unfold frSp; omega)]
        exact hB j ej
      · have : j = (spl (vw g st) ht l i).length + 0 := by rw [List.length_append] at hj; simp only [List.length_singleton] at hj; omega
        subst this
        rw [getD_app2]
        simp only [Nat.add_zero]
        simp (disch := omega) only [gi_s0, gi_s1, gi_s2, gj_s0, gj_s1, gj_s2, gi_f0, gi_f1, gj_f0, gj_f1, gr_r0, gr_r1, gr_r2, gi_sj, gi_sr, gj_si, gj_sr, gr_si, gr_sj, gr_stI, gj_stI, gi_stJ, gr_stJ]
        exact ⟨rfl, rfl⟩
theorem c_laysLine (X : MC h g st wi asd) {l : Nat} (hl : l < v_ln (vw g st)) (hH : ∀ i, i < v_S (vw g st) → gi h 254 i = ht i ∧ -1 ≤ ht i ∧ ht i ≤ 1000) (hS : SM h (slt (vw g st) wi ht l))
    (hq : ∀ h', SM h' (slt (vw g st) wi ht (l + 1)) → (∀ k, k < (slt (vw g st) wi ht l).length → gi h' 258 k = gi h 258 k) → (∀ k, (slt (vw g st) wi ht l).length ≤ k → k < (slt (vw g st) wi ht (l + 1)).length → gi h' 258 k = 0) → fr frLy h h' → Q none h') : C2 (d + 4) mX11_laysLine [vR 247, vI (l : Int)] h Q :=
  EX11_laysLine fun _ => BX11_laysLine_0 (lays_loop X hl hH hS hq (v_S (vw g st)) 0 h (by omega) (fun i hi => by simp [spl] at hi) fr.rf)
theorem slots_loop (X0 : MC h g st wi asd) (hH : ∀ i, i < v_S (vw g st) → gi h 254 i = ht i ∧ -1 ≤ ht i ∧ ht i ≤ 1000)
    (hq : ∀ h', SM h' (slA (vw g st) wi ht) → (∀ k, k < (slA (vw g st) wi ht).length → gi h' 258 k = 0) → fr frLy h h' → Q none h') :
    ∀ (m l : Nat) (h1 : PH), l + m = v_ln (vw g st) → SM h1 (slt (vw g st) wi ht l) → (∀ k, k < (slt (vw g st) wi ht l).length → gi h1 258 k = 0) → fr frLy h h1 → T2 (d + 5) mX11_laysSlots 7 [some (vR 247), some (vI (l : Int))] [] h1 Q := by
  obtain ⟨ok, ⟨a1, a2, a3, a4, a5, a6, a7⟩, b⟩ := X0.vw
  have ok1 := ok.1
  intro m
  induction m with
  | zero =>
    intro l h1 hl hS h0 hF
    refine BX11_laysSlots_7 ⟨fun _ => ?_, fun z => by rw [hF.1 _ _ (by unfold frLy; omega), a1] at z; omega⟩
    have el : l = v_ln (vw g st) := by omega
    subst el
    exact hq h1 hS h0 hF
  | succ m ih =>
    intro l h1 hl hS h0 hF
    have X := X0.keep (hF.mono (fun q k z => frLy_N z))
    refine BX11_laysSlots_7 ⟨fun z => by rw [hF.1 _ _ (by unfold frLy; omega), a1] at z; omega, fun _ => ?_⟩
    refine c_laysLine X (by omega) (fun i hi => by rw [hF.1 _ _ (by unfold frLy; omega)]; exact hH i hi) hS (fun h2 b1 b2 b3 b4 => ⟨rfl, ?_⟩)
    rw [w32_r (by omega) (by omega), show ((l : Int) + 1) = ((l + 1 : Nat) : Int) by omega]
    refine ih (l + 1) h2 (by omega) b1 (fun k hk => ?_) (hF.tr b4)
    by_cases e : k < (slt (vw g st) wi ht l).length
    · rw [b2 k e]; exact h0 k e
    · exact b3 k (by omega) hk
theorem c_laysSlots (X : MC h g st wi asd) (hH : ∀ i, i < v_S (vw g st) → gi h 254 i = ht i ∧ -1 ≤ ht i ∧ ht i ≤ 1000)
    (hq : ∀ h', SM h' (slA (vw g st) wi ht) → (∀ k, k < (slA (vw g st) wi ht).length → gi h' 258 k = 0) → fr frLy h h' → Q none h') : C2 (d + 5) mX11_laysSlots [vR 247] h Q := by
  refine EX11_laysSlots (BX11_laysSlots_0 (fun h1 e1 => ?_))
  subst e1
  have hF : fr frLy h (si h 247 31 0) := fr.rf.si (by unfold frLy; omega)
  exact slots_loop (h := h) X hH hq (v_ln (vw g st)) 0 _ (by omega) ⟨gi_s0, fun k hk => by simp [slt] at hk⟩ (fun k hk => by simp [slt] at hk) hF
theorem c_isShown (X : MC h g st wi asd) {w : Nat} (hw : w < 32) (hq : Q (some (vI (if v_hd (vw g st) w then 0 else 1))) h) : C2 (d + 1) mX11_isShown [vR 247, vI (w : Int)] h Q := by
  refine EX11_isShown fun _ => BX11_isShown_0 ?_
  rw [X.2.2.2.2.1]
  refine c_isIn hw (fun _ => ?_)
  have e : v_hd (vw g st) w = bit (st 18) w := rfl
  rw [e] at hq
  cases hb : bit (st 18) w with
  | true => rw [hb] at hq; exact ⟨fun _ => hq, fun z => by simp at z⟩
  | false => rw [hb] at hq; exact ⟨fun z => by simp at z, fun _ => hq⟩
/-- the words as they are poured so far, in the model -/
def CM (h : PH) (v : VW) (N w : Nat) (F : F4) : Prop := (∀ j, j < w → gi h 259 j = F.1 j ∧ (0 ≤ F.1 j → gi h 260 j = F.2.1 j) ∧ gi h 261 j = v_wd v j) ∧ (∀ k, k < N → gi h 258 k = F.2.2.1 k ∧ 0 ≤ F.2.2.1 k ∧ F.2.2.1 k ≤ w) ∧ (∀ j, w ≤ j → F.1 j = -1) ∧ (∀ j, -1 ≤ F.1 j ∧ F.1 j < N)
def frQ : Nat → Nat → Prop := fun q _ => q = 252 ∨ q = 253 ∨ (258 ≤ q ∧ q ≤ 261)
theorem frQ_N {q k : Nat} (z : frQ q k) : frN q k := by unfold frQ at z; unfold frN; omega
theorem f4_hid {v : VW} {L : SL} {w k : Nat} {a : Int} {F : F4} (h1 : w < v_W v) (h2 : v_hd v w = true) : f4 v L w k a F = f4 v L (w + 1) k a F := by
  by_cases hk : k < L.length
  · unfold f4; obtain ⟨F1, F2, F3, n⟩ := F; rw [fnl_hid h1 hk h2]
  · rw [f4_end (Or.inr (by omega)), f4_end (Or.inr (by omega))]
theorem pour_fit (X0 : MC h g st wi asd) (hSM : SM h (slA (vw g st) wi ht)) {w : Nat} (hw : w < v_W (vw g st)) (hd : v_hd (vw g st) w = false) {F G : F4} (hC : CM h (vw g st) (slA (vw g st) wi ht).length w F) (h261 : gi h 261 w = v_wd (vw g st) w) (h259 : gi h 259 w = -1) {fe : Int}
    (k10 : ∀ (k : Nat) (fe' : Int) (F' : F4) (h' : PH), k ≤ (slA (vw g st) wi ht).length → -1 ≤ fe' ∧ fe' ≤ 1000 → CM h' (vw g st) (slA (vw g st) wi ht).length (w + 1) F' → f4 (vw g st) (slA (vw g st) wi ht) (w + 1) k (if fe' = -1 then s_le (slA (vw g st) wi ht) k else fe' + 1) F' = G → (fe' = -1 → k = 0 ∨ k = (slA (vw g st) wi ht).length) → fr frQ h h' → T2 (d + 1) mX11_pours 10 [some (vR 247), some (vI (k : Int)), some (vI fe'), some (vI ((w + 1 : Nat) : Int)), none] [] h' Q) (hfe : -1 ≤ fe ∧ fe ≤ 1000) :
    ∀ (m k : Nat) (a : Int), k + m = (slA (vw g st) wi ht).length → (k < (slA (vw g st) wi ht).length → 0 ≤ a ∧ a ≤ 1001) → f4 (vw g st) (slA (vw g st) wi ht) w k a F = G → T2 (d + 1) mX11_pours 84 [some (vR 247), some (vI (k : Int)), some (vI fe), some (vI (w : Int)), some (vI a)] [] h Q := by
  obtain ⟨ok, ⟨a1, a2, a3, a4, a5, a6, a7⟩, b⟩ := X0.vw
  have ok1 := ok.1
  have okw := ok.2.2.1 w hw
  have hwi := X0.2.2.2.2.2.2.2
  have hN := slt_len ok hwi.1 (ht := ht) (v_ln (vw g st)) (Nat.le_refl _)
  have hN2 : (slA (vw g st) wi ht).length ≤ 140 := by unfold slA; omega
  obtain ⟨C1, C2, C3, C4⟩ := hC
  intro m
  induction m with
  | zero =>
    intro k a hk ha hG
    have ek : k = (slA (vw g st) wi ht).length := by omega
    subst ek
    refine BX11_pours_84 ⟨fun _ => ?_, fun z => by rw [hSM.1] at z; omega⟩
    refine BX11_pours_132 ⟨fun z => by rw [hSM.1] at z; omega, fun _ => ?_⟩
    rw [w32_r (by omega) (by omega), show ((w : Int) + 1) = ((w + 1 : Nat) : Int) by omega]
    rw [f4_end (Or.inr (Nat.le_refl _))] at hG
    refine k10 _ fe F h (Nat.le_refl _) hfe ⟨fun j hj => ?_, fun k hk => ?_, fun j hj => C3 j (by omega), C4⟩ (by rw [f4_end (Or.inr (Nat.le_refl _))]; exact hG) (fun _ => Or.inr rfl) fr.rf
    · by_cases e : j = w
      · subst e
        rw [C3 j (Nat.le_refl _)]
        exact ⟨h259, fun z => by omega, h261⟩
      · exact C1 j (by omega)
    · obtain ⟨c1, c2, c3⟩ := C2 k hk; exact ⟨c1, c2, by omega⟩
  | succ m ih =>
    intro k a hk ha hG
    have hkN : k < (slA (vw g st) wi ht).length := by omega
    obtain ⟨s1, s2, s3⟩ := hSM.2 k hkN
    obtain ⟨r1, r2, r3, r4⟩ := slt_rg (v := vw g st) hwi.1 (ht := ht) (n := v_ln (vw g st)) hkN
    have ha' := ha hkN
    have er : s_ri (slA (vw g st) wi ht) k = s_ri (slt (vw g st) wi ht (v_ln (vw g st))) k := rfl
    refine BX11_pours_84 ⟨fun z => by rw [hSM.1] at z; omega, fun _ => ⟨⟨by omega, by omega⟩, ⟨by omega, by omega⟩, ?_⟩⟩
    try simp only [Int.toNat_natCast]
    rw [h261, s3, w32_r (x := a + v_wd (vw g st) w) (by omega) (by omega), w32_r (x := (k : Int) + 1) (by omega) (by omega), show ((k : Int) + 1) = ((k + 1 : Nat) : Int) by omega, hSM.1]
    refine ⟨fun z => ?_, fun z => ⟨fun y => ?_, fun y => ⟨⟨by omega, by omega⟩, ?_⟩⟩⟩
    · refine BX11_pours_132 ⟨fun _ => ⟨⟨by omega, by omega⟩, fun h2 e2 => ⟨⟨by omega, by omega⟩, fun h3 e3 => ⟨⟨by omega, by omega⟩, ⟨by omega, by omega⟩, fun h4 e4 => ⟨⟨by omega, by omega⟩, ?_⟩⟩⟩⟩, fun y => by rw [hSM.1] at y; omega⟩
      subst e2 e3 e4
      try simp only [Int.toNat_natCast]
      obtain ⟨c1, c2, c3⟩ := C2 k hkN
      simp (disch := omega) only [gi_s0, gi_s1, gi_s2, gj_s0, gj_s1, gj_s2, gi_f0, gi_f1, gj_f0, gj_f1, gr_r0, gr_r1, gr_r2, gi_sj, gi_sr, gj_si, gj_sr, gr_si, gr_sj, gr_stI, gj_stI, gi_stJ, gr_stJ]
      rw [c1, h261, w32_r (x := F.2.2.1 k + 1) (by omega) (by omega), w32_r (x := a + v_wd (vw g st) w) (by omega) (by omega), w32_r (by omega) (by omega), show ((w : Int) + 1) = ((w + 1 : Nat) : Int) by omega]
      obtain ⟨F1, F2, F3, n⟩ := F
      refine k10 k _ (upf F1 w k, upf F2 w a, upf F3 k (F3 k + 1), n + 1) _ (by omega) (by omega) ⟨fun j hj => ?_, fun k' hk' => ?_, fun j hj => ?_, fun j => ?_⟩ ?_ (fun z => by omega) (((fr.rf.si ?_).si ?_).si ?_)
      · show gi _ _ _ = upf F1 w k j ∧ (0 ≤ upf F1 w k j → gi _ _ _ = upf F2 w a j) ∧ _
        unfold upf
        by_cases e : j = w
        · subst e; simp (disch := omega) only [gi_s0, gi_s1, gi_s2, gj_s0, gj_s1, gj_s2, gi_f0, gi_f1, gj_f0, gj_f1, gr_r0, gr_r1, gr_r2, gi_sj, gi_sr, gj_si, gj_sr, gr_si, gr_sj, gr_stI, gj_stI, gi_stJ, gr_stJ]; simp; exact h261
        · simp (disch := omega) only [gi_s0, gi_s1, gi_s2, gj_s0, gj_s1, gj_s2, gi_f0, gi_f1, gj_f0, gj_f1, gr_r0, gr_r1, gr_r2, gi_sj, gi_sr, gj_si, gj_sr, gr_si, gr_sj, gr_stI, gj_stI, gi_stJ, gr_stJ]; rw [if_neg e, if_neg e]; exact C1 j (by omega)
      · show gi _ _ _ = upf F3 k (F3 k + 1) k' ∧ 0 ≤ upf F3 k (F3 k + 1) k' ∧ upf F3 k (F3 k + 1) k' ≤ _
        unfold upf
        by_cases e : k' = k
        · subst e; simp (disch := omega) only [gi_s0, gi_s1, gi_s2, gj_s0, gj_s1, gj_s2, gi_f0, gi_f1, gj_f0, gj_f1, gr_r0, gr_r1, gr_r2, gi_sj, gi_sr, gj_si, gj_sr, gr_si, gr_sj, gr_stI, gj_stI, gi_stJ, gr_stJ]; simp; dsimp only at c2 c3; omega
        · simp (disch := omega) only [gi_s0, gi_s1, gi_s2, gj_s0, gj_s1, gj_s2, gi_f0, gi_f1, gj_f0, gj_f1, gr_r0, gr_r1, gr_r2, gi_sj, gi_sr, gj_si, gj_sr, gr_si, gr_sj, gr_stI, gj_stI, gi_stJ, gr_stJ]; rw [if_neg e]; have := C2 k' hk'; dsimp only at this; omega
      · show upf F1 w k j = -1
        unfold upf
        rw [if_neg (by omega)]; exact C3 j (by omega)
      · show -1 ≤ upf F1 w k j ∧ upf F1 w k j < _
        unfold upf
        have := C4 j; dsimp only at this
        split <;> omega
      · rw [← hG, if_neg (by omega)]
        unfold f4
        rw [fnl_put hw hkN hd (by rw [er]; rw [er] at z; exact z)]
      all_goals (unfold frQ; omega)
    · refine ih (k + 1) a (by omega) (fun z2 => by omega) ?_
      have hG2 : f4 (vw g st) (slA (vw g st) wi ht) w (k + 1) (s_le (slA (vw g st) wi ht) (k + 1)) F = G := by
        rw [← hG]; unfold f4; obtain ⟨F1, F2, F3, n⟩ := F
        rw [← fnl_nxt hw hkN hd z]
      rw [f4_end (Or.inr (by omega))] at hG2 ⊢
      exact hG2
    · try simp only [Int.toNat_natCast]
      have hk1 : k + 1 < (slA (vw g st) wi ht).length := by omega
      obtain ⟨t1, t2, t3⟩ := hSM.2 (k + 1) hk1
      obtain ⟨u1, u2, u3, u4⟩ := slt_rg (v := vw g st) hwi.1 (ht := ht) (n := v_ln (vw g st)) hk1
      have el : s_le (slA (vw g st) wi ht) (k + 1) = s_le (slt (vw g st) wi ht (v_ln (vw g st))) (k + 1) := rfl
      rw [t2]
      refine ih (k + 1) _ (by omega) (fun _ => by omega) ?_
      rw [← hG]; unfold f4; obtain ⟨F1, F2, F3, n⟩ := F
      rw [← fnl_nxt hw hkN hd z]
theorem pours_loop (X0 : MC h g st wi asd) (hSM : SM h (slA (vw g st) wi ht)) {G : F4}
    (hq : ∀ h', CM h' (vw g st) (slA (vw g st) wi ht).length (v_W (vw g st)) G → fr frQ h h' → Q none h') :
    ∀ (m w k : Nat) (fe : Int) (F : F4) (h1 : PH), w + m = v_W (vw g st) → k ≤ (slA (vw g st) wi ht).length → -1 ≤ fe ∧ fe ≤ 1000 → CM h1 (vw g st) (slA (vw g st) wi ht).length w F → f4 (vw g st) (slA (vw g st) wi ht) w k (if fe = -1 then s_le (slA (vw g st) wi ht) k else fe + 1) F = G → (fe = -1 → k = 0 ∨ k = (slA (vw g st) wi ht).length) → fr frQ h h1 → T2 (d + 3) mX11_pours 10 [some (vR 247), some (vI (k : Int)), some (vI fe), some (vI (w : Int)), none] [] h1 Q := by
  obtain ⟨ok, ⟨a1, a2, a3, a4, a5, a6, a7⟩, b⟩ := X0.vw
  have ok1 := ok.1
  have hwi := X0.2.2.2.2.2.2.2
  have hN := slt_len ok hwi.1 (ht := ht) (v_ln (vw g st)) (Nat.le_refl _)
  have hN2 : (slA (vw g st) wi ht).length ≤ 140 := by unfold slA; omega
  intro m
  induction m with
  | zero =>
    intro w k fe F h1 hw hk hfe hC hG hk0 hF
    refine BX11_pours_10 ⟨fun _ => ?_, fun z => by rw [hF.1 _ _ (by unfold frQ; omega), a5] at z; omega⟩
    have ew : w = v_W (vw g st) := by omega
    subst ew
    rw [f4_end (Or.inl (Nat.le_refl _))] at hG
    rw [hG] at hC
    exact hq h1 hC hF
  | succ m ih =>
    intro w k fe F h1 hw hk hfe hC hG hk0 hF
    have hww : w < v_W (vw g st) := by omega
    have X := X0.keep (hF.mono (fun q k z => frQ_N z))
    have hSM1 : SM h1 (slA (vw g st) wi ht) := ⟨by rw [hF.1 _ _ (by unfold frQ; omega)]; exact hSM.1, fun k hk => by rw [hF.1 _ _ (by unfold frQ; omega), hF.1 _ _ (by unfold frQ; omega), hF.1 _ _ (by unfold frQ; omega)]; exact hSM.2 k hk⟩
    refine BX11_pours_10 ⟨fun z => by rw [hF.1 _ _ (by unfold frQ; omega), a5] at z; omega, fun _ => ⟨⟨by omega, by omega⟩, fun h2 e2 => ?_⟩⟩
    subst e2
    try simp only [Int.toNat_natCast]
    rw [gi_s1 (by omega), hF.1 248 110 (by unfold frQ; omega), a6]
    have F2 : fr frQ h (si h1 259 w (-1)) := hF.si (by unfold frQ; omega)
    have X2 := X0.keep (F2.mono (fun q k z => frQ_N z))
    refine c_widthM X2.1 X2.2.2.1 hww a7 (fun h3 b1 _ => ⟨⟨by omega, by omega⟩, fun h4 e4 => ?_⟩)
    subst e4
    have F4' : fr frQ h (si h3 261 w (widA g (st 19).toNat w)) := (F2.tr (b1.mono (fun q k z => by unfold frX at z; unfold frQ; omega))).si (by unfold frQ; omega)
    have X4 := X0.keep (F4'.mono (fun q k z => frQ_N z))
    have ewd : widA g (st 19).toNat w = v_wd (vw g st) w := rfl
    rw [ewd] at X4 F4' ⊢
    obtain ⟨C1, C2, C3, C4⟩ := hC
    have e259 : gi (si h3 261 w (v_wd (vw g st) w)) 259 w = -1 := by simp (disch := omega) only [gi_s0, gi_s1, gi_s2, gj_s0, gj_s1, gj_s2, gi_f0, gi_f1, gj_f0, gj_f1, gr_r0, gr_r1, gr_r2, gi_sj, gi_sr, gj_si, gj_sr, gr_si, gr_sj, gr_stI, gj_stI, gi_stJ, gr_stJ]; rw [b1.1 _ _ (by unfold frX; omega)]; simp (disch := omega) only [gi_s0, gi_s1, gi_s2, gj_s0, gj_s1, gj_s2, gi_f0, gi_f1, gj_f0, gj_f1, gr_r0, gr_r1, gr_r2, gi_sj, gi_sr, gj_si, gj_sr, gr_si, gr_sj, gr_stI, gj_stI, gi_stJ, gr_stJ]
    have e261 : gi (si h3 261 w (v_wd (vw g st) w)) 261 w = v_wd (vw g st) w := by simp (disch := omega) only [gi_s0, gi_s1, gi_s2, gj_s0, gj_s1, gj_s2, gi_f0, gi_f1, gj_f0, gj_f1, gr_r0, gr_r1, gr_r2, gi_sj, gi_sr, gj_si, gj_sr, gr_si, gr_sj, gr_stI, gj_stI, gi_stJ, gr_stJ]
    have ek : ∀ q j, q = 258 ∨ q = 260 ∨ (q = 259 ∧ j ≠ w) ∨ (q = 261 ∧ j ≠ w) ∨ q = 247 ∨ (255 ≤ q ∧ q ≤ 257) → gi (si h3 261 w (v_wd (vw g st) w)) q j = gi h1 q j := fun q j hqj => by
      by_cases e9 : q = 261
      · subst e9
        rw [gi_s2 (by omega), b1.1 _ _ (by unfold frX; omega), gi_s1 (by omega)]
      · rw [gi_s1 e9, b1.1 _ _ (by unfold frX; omega)]
        by_cases e8 : q = 259
        · subst e8; rw [gi_s2 (by omega)]
        · rw [gi_s1 e8]
    have hC4 : CM (si h3 261 w (v_wd (vw g st) w)) (vw g st) (slA (vw g st) wi ht).length w F := ⟨fun j hj => by rw [ek _ _ (by omega), ek _ _ (by omega), ek _ _ (by omega)]; exact C1 j hj, fun k hk => by rw [ek _ _ (by omega)]; exact C2 k hk, C3, C4⟩
    have hC5 : CM (si h3 261 w (v_wd (vw g st) w)) (vw g st) (slA (vw g st) wi ht).length (w + 1) F := ⟨fun j hj => by
        by_cases e : j = w
        · subst e; rw [C3 j (Nat.le_refl _)]; exact ⟨e259, fun z => by omega, e261⟩
        · exact hC4.1 j (by omega), fun k hk => by obtain ⟨c1, c2, c3⟩ := hC4.2.1 k hk; exact ⟨c1, c2, by omega⟩, fun j hj => C3 j (by omega), C4⟩
    have hSM4 : SM (si h3 261 w (v_wd (vw g st) w)) (slA (vw g st) wi ht) := ⟨by rw [ek _ _ (by omega)]; exact hSM1.1, fun k hk => by rw [ek _ _ (by omega), ek _ _ (by omega), ek _ _ (by omega)]; exact hSM1.2 k hk⟩
    refine c_isShown X4 (by omega) (fun _ => ?_)
    rw [w32_r (x := (w : Int) + 1) (by omega) (by omega), show ((w : Int) + 1) = ((w + 1 : Nat) : Int) by omega]
    refine ⟨fun z => ?_, fun z => ?_⟩
    · have hh : v_hd (vw g st) w = true := by
        cases hb : v_hd (vw g st) w with
        | true => rfl
        | false => rw [hb] at z; simp at z
      exact ih (w + 1) k fe F _ (by omega) hk hfe hC5 (by rw [← f4_hid hww hh]; exact hG) hk0 F4'
    · have hh : v_hd (vw g st) w = false := by
        cases hb : v_hd (vw g st) w with
        | false => rfl
        | true => rw [hb] at z; simp at z
      rw [hSM4.1]
      have k10 : ∀ (k : Nat) (fe' : Int) (F' : F4) (h' : PH), k ≤ (slA (vw g st) wi ht).length → -1 ≤ fe' ∧ fe' ≤ 1000 → CM h' (vw g st) (slA (vw g st) wi ht).length (w + 1) F' → f4 (vw g st) (slA (vw g st) wi ht) (w + 1) k (if fe' = -1 then s_le (slA (vw g st) wi ht) k else fe' + 1) F' = G → (fe' = -1 → k = 0 ∨ k = (slA (vw g st) wi ht).length) → fr frQ (si h3 261 w (v_wd (vw g st) w)) h' → T2 (d + 3) mX11_pours 10 [some (vR 247), some (vI (k : Int)), some (vI fe'), some (vI ((w + 1 : Nat) : Int)), none] [] h' Q := fun k' fe' F' h' q1 q2 q3 q4 q5 q6 => ih (w + 1) k' fe' F' h' (by omega) q1 q2 q3 q4 q5 (F4'.tr q6)
      refine ⟨fun y => ⟨fun y2 => ?_, fun y2 => ⟨⟨by omega, by omega⟩, ?_⟩⟩, fun y => ?_⟩
      · rw [if_neg y2] at hG
        rw [w32_r (by omega) (by omega)]
        exact pour_fit (h := si h3 261 w (v_wd (vw g st) w)) X4 hSM4 hww hh hC4 e261 e259 k10 hfe ((slA (vw g st) wi ht).length - k) k _ (by omega) (fun _ => by omega) hG
      · rw [if_pos y2] at hG
        try simp only [Int.toNat_natCast]
        have hkN : k < (slA (vw g st) wi ht).length := by omega
        obtain ⟨s1, s2, s3⟩ := hSM4.2 k hkN
        obtain ⟨r1, r2, r3, r4⟩ := slt_rg (v := vw g st) hwi.1 (ht := ht) (n := v_ln (vw g st)) hkN
        have el : s_le (slA (vw g st) wi ht) k = s_le (slt (vw g st) wi ht (v_ln (vw g st))) k := rfl
        rw [s2]
        exact pour_fit (h := si h3 261 w (v_wd (vw g st) w)) X4 hSM4 hww hh hC4 e261 e259 k10 hfe ((slA (vw g st) wi ht).length - k) k _ (by omega) (fun _ => by omega) hG
      · have ekN : k = (slA (vw g st) wi ht).length := by omega
        refine ih (w + 1) k fe F _ (by omega) hk hfe hC5 ?_ hk0 F4'
        rw [f4_end (Or.inr (by omega))] at hG ⊢
        exact hG
/-- poured, in the model -/
def PM (h : PH) (v : VW) (wi : Int) (ht : Nat → Int) : Prop := SM h (slA v wi ht) ∧ CM h v (slA v wi ht).length (v_W v) (prd v wi ht).2.2.2
theorem PM.keep {h h' : PH} {v : VW} {wi : Int} {ht : Nat → Int} (a : PM h v wi ht) (e : ∀ q k, (255 ≤ q ∧ q ≤ 261) ∨ (q = 247 ∧ k = 31) → gi h' q k = gi h q k) : PM h' v wi ht := by
  obtain ⟨a1, C1, C2, C3, C4⟩ := a
  refine ⟨⟨by rw [e _ _ (by omega)]; exact a1.1, fun k hk => by rw [e _ _ (by omega), e _ _ (by omega), e _ _ (by omega)]; exact a1.2 k hk⟩, fun j hj => ?_, fun k hk => ?_, C3, C4⟩
  · rw [e _ _ (by omega), e _ _ (by omega), e _ _ (by omega)]; exact C1 j hj
  · rw [e _ _ (by omega)]; exact C2 k hk
def frPo : Nat → Nat → Prop := fun q k => frLy q k ∨ frQ q k
theorem frPo_N {q k : Nat} (z : frPo q k) : frN q k := z.elim (fun z => frLy_N z) (fun z => frQ_N z)
theorem c_pours (X : MC h g st wi asd) (hH : ∀ i, i < v_S (vw g st) → gi h 254 i = ht i ∧ -1 ≤ ht i ∧ ht i ≤ 1000) (hq : ∀ h', PM h' (vw g st) wi ht → fr frPo h h' → Q none h') : C2 (d + 6) mX11_pours [vR 247] h Q := by
  refine EX11_pours (BX11_pours_0 (c_laysSlots X hH (fun h1 b1 b2 b3 => ⟨rfl, ?_⟩)))
  have X1 := X.keep (b3.mono (fun q k z => frLy_N z))
  refine pours_loop (d := d + 3) (ht := ht) X1 b1 (G := (prd (vw g st) wi ht).2.2.2) (fun h' c1 c2 => hq h' ⟨⟨?_, fun k hk => ?_⟩, c1⟩ ((b3.mono (fun q k z => Or.inl z)).tr (c2.mono (fun q k z => Or.inr z)))) (v_W (vw g st)) 0 0 (-1) (fun _ => -1, fun _ => -1, fun _ => 0, 0) h1 (by omega) (by omega) (by omega) ⟨fun j hj => by omega, fun k hk => ⟨b2 k hk, Int.le_refl _, by show (0 : Int) ≤ _; omega⟩, fun j _ => rfl, fun j => ⟨Int.le_refl _, by show (-1 : Int) < _; omega⟩⟩ rfl (fun _ => Or.inl rfl) fr.rf
  · rw [c2.1 _ _ (by unfold frQ; omega)]; exact b1.1
  · rw [c2.1 _ _ (by unfold frQ; omega), c2.1 _ _ (by unfold frQ; omega), c2.1 _ _ (by unfold frQ; omega)]; exact b1.2 k hk
theorem c_lineM (X : MC h g st wi asd) (hP : PM h (vw g st) wi ht) {w : Int} (hw0 : 0 ≤ w) (hw : w ≤ 29) (hq : Q (some (vI (lnW (vw g st) wi ht w))) h) : C2 d mX11_lineOf [vR 247, vI w] h Q := by
  obtain ⟨ok, ⟨a1, a2, a3, a4, a5, a6, a7⟩, b⟩ := X.vw
  have ok1 := ok.1
  have hwi := X.2.2.2.2.2.2.2
  obtain ⟨hS, C1, C2, C3, C4⟩ := hP
  have hN := slt_len ok hwi.1 (ht := ht) (v_ln (vw g st)) (Nat.le_refl _)
  have hN2 : (slA (vw g st) wi ht).length ≤ 140 := by unfold slA; omega
  have ec : c_sl (prd (vw g st) wi ht) w.toNat = (prd (vw g st) wi ht).2.2.2.1 w.toNat := rfl
  unfold lnW at hq
  rw [ec] at hq
  obtain ⟨c7, c8⟩ := C4 w.toNat
  refine EX11_lineOf fun _ => BX11_lineOf_0 ?_
  rw [a5]
  refine ⟨fun z => by rw [if_neg (by omega)] at hq; exact hq, fun z => ⟨⟨by omega, by omega⟩, ?_⟩⟩
  rw [(C1 w.toNat (by omega)).1]
  refine ⟨fun y => by rw [if_neg (by omega)] at hq; exact hq, fun y => ⟨⟨by omega, by omega⟩, ⟨by omega, by omega⟩, ?_⟩⟩
  rw [if_pos ⟨hw0, z, by omega⟩] at hq
  rw [(hS.2 _ (by omega)).1]
  exact hq
end
