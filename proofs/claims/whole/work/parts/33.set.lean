/-! THE CLASS: a setting as a whole -/
def RN (h : PH) (t : Nat) (v : VW) (wi asd : Int) (k : Nat) : Prop := (∀ i, i < v_S v → gi h (t + 11) i = hts v wi asd k i ∧ gi h (t + 12) i = tdT v asd i) ∧ (∃ n, PO h t v wi (hts v wi asd k) n) ∧ (∀ a, a ≤ k → ∀ i, i < v_S v → gi h (t + 13) (6 * a + i) = trl v wi asd a i) ∧ gi h t 10 = k
/-- the setting is there -/
def DN (h : PH) (t : Nat) (v : VW) (wi asd : Int) : Prop := RN h t v wi asd (fR v wi asd) ∧ gi h t 11 = (setR v wi asd).2.1 ∧ gi h t 12 = (setR v wi asd).2.2
section
variable {d : Nat} {h : PH} {Q : Option PV → PH → Prop}
variable {t p s ink : Nat} {v : VW} {wi asd : Int}
/-- one round: poured and marked -/
theorem round_go (X : StC h t p s ink v wi) {k : Nat} (hk : k ≤ 60) (g10 : gi h t 10 = k) (hH : ∀ i, i < v_S v → gi h (t + 11) i = hts v wi asd k i ∧ gi h (t + 12) i = tdT v asd i) (hT : ∀ a, a < k → ∀ i, i < v_S v → gi h (t + 13) (6 * a + i) = trl v wi asd a i)
    (hq : ∀ h', RN h' t v wi asd k → gi h' t 11 = gi h t 11 → gi h' t 12 = gi h t 12 → fr (frT t) h h' → Q none h') : C2 (d + 3) mX6_pour [vR t] h (onV fun h1 => C2 (d + 3) mX6_mark [vR t] h1 Q) := by
  have ok := X.2.2.2.1
  have ok1 := ok.1
  refine c_pour X (fun i hi => ⟨(hH i hi).1, hts_rg ok X.2.2.2.2.1 k hi⟩) (fun n h1 b1 b2 => ⟨rfl, ?_⟩)
  have b2T : fr (frT t) h h1 := b2.mono (fun q k z => frU_T z)
  have X1 := X.keep b2T
  refine c_mark X1 hk (by rw [b2.1 _ _ (by unfold frU; omega)]; exact g10) b1 (fun i hi => by rw [b2.1 _ _ (by unfold frU; omega)]; exact (hH i hi).2) (fun h2 c1 c2 => ?_)
  refine hq h2 ⟨fun i hi => ?_, ⟨n, b1.keep (fun q k z => c2.1 _ _ (by unfold frM; omega))⟩, fun a ha i hi => ?_, ?_⟩ ?_ ?_ (b2T.tr (c2.mono (fun q k z => by unfold frM at z; unfold frT; omega)))
  · rw [c2.1 _ _ (by unfold frM; omega), c2.1 _ _ (by unfold frM; omega), b2.1 _ _ (by unfold frU; omega), b2.1 _ _ (by unfold frU; omega)]; exact hH i hi
  · by_cases e : a = k
    · subst e; exact c1 i hi
    · rw [c2.1 _ _ (by unfold frM; omega), b2.1 _ _ (by unfold frU; omega)]; exact hT a (by omega) i hi
  · rw [c2.1 _ _ (by unfold frM; omega), b2.1 _ _ (by unfold frU; omega)]; exact g10
  · rw [c2.1 _ _ (by unfold frM; omega), b2.1 _ _ (by unfold frU; omega)]
  · rw [c2.1 _ _ (by unfold frM; omega), b2.1 _ _ (by unfold frU; omega)]
theorem settle_loop (X0 : StC h t p s ink v wi) (hq : ∀ h', DN h' t v wi asd → fr (frT t) h h' → Q none h') :
    ∀ (m k : Nat) (h1 : PH), k + m = 60 → RN h1 t v wi asd k → (k = 0 → gi h1 t 11 = (if anyT v asd then 2 else 0) ∧ gi h1 t 12 = -1) → (1 ≤ k → anyT v asd = true ∧ gi h1 t 11 = (resS v wi asd k).1 ∧ gi h1 t 12 = (resS v wi asd k).2 ∧ srS v wi asd 59 1 = srS v wi asd (60 - k) k) → fr (frT t) h h1 →
    T2 (d + 4) mX6_settle 82 [some (vR t), none, none, none, none, some (vI ((k + 1 : Nat) : Int))] [] h1 Q := by
  have ok := X0.2.2.2.1
  have ok1 := ok.1
  intro m
  induction m with
  | zero =>
    intro k h1 hk hR h0 hp hF
    have ek : k = 60 := by omega
    subst ek
    obtain ⟨p1, p2, p3, p4⟩ := hp (by omega)
    refine BX6_settle_82 X0.1.1 ⟨fun _ => ?_, fun z => by omega⟩
    have e : setR v wi asd = (60, resS v wi asd 60) := by unfold setR; rw [p1, if_pos rfl, p4]; rfl
    refine hq h1 ⟨?_, ?_, ?_⟩ hF
    · rw [show fR v wi asd = 60 by unfold fR; rw [e]]; exact hR
    · rw [e]; exact p2
    · rw [e]; exact p3
  | succ m ih =>
    intro k h1 hk hR h0 hp hF
    have X1 := X0.keep hF
    refine BX6_settle_82 X0.1.1 ⟨fun z => by omega, fun _ => ⟨fun z => ?_, fun z => ?_⟩⟩
    · by_cases k0 : k = 0
      · subst k0
        obtain ⟨q1, q2⟩ := h0 rfl
        have ha : anyT v asd = false := by
          cases hb : anyT v asd with
          | false => rfl
          | true => rw [hb] at q1; exact absurd q1 z
        have e : setR v wi asd = (0, 0, -1) := by unfold setR; rw [ha]; rfl
        refine hq h1 ⟨?_, ?_, ?_⟩ hF
        · rw [show fR v wi asd = 0 by unfold fR; rw [e]]; exact hR
        · rw [e, q1, ha]; rfl
        · rw [e]; exact q2
      · obtain ⟨p1, p2, p3, p4⟩ := hp (by omega)
        have e : setR v wi asd = (k, resS v wi asd k) := by
          unfold setR
          rw [p1, if_pos rfl, p4, show 60 - k = m + 1 by omega]
          show (if (resS v wi asd k).1 = 2 then _ else _) = _
          rw [if_neg (by omega)]
        refine hq h1 ⟨?_, ?_, ?_⟩ hF
        · rw [show fR v wi asd = k by unfold fR; rw [e]]; exact hR
        · rw [e]; exact p2
        · rw [e]; exact p3
    · have hg12 : gi h1 t 12 = -1 := by
        by_cases k0 : k = 0
        · exact (h0 k0).2
        · obtain ⟨p1, p2, p3, p4⟩ := hp (by omega)
          rw [p3]
          rw [p2] at z
          unfold resS at z ⊢
          split
          · rfl
          · rename_i e1
            rw [if_neg e1] at z
            split
            · rfl
            · rename_i e2
              rw [if_neg e2] at z
              simp at z
      obtain ⟨r1, ⟨n, r2⟩, r3, r4⟩ := hR
      refine c_setTied X1 r2 r1 (fun h2 b1 b2 => ⟨rfl, fun h3 e3 => ?_⟩)
      subst e3
      have b2T : fr (frT t) h1 h2 := b2.mono (fun q k z => by unfold frH at z; unfold frT; omega)
      have hF3 : fr (frT t) h1 (si h2 t 10 ((k + 1 : Nat) : Int)) := b2T.si (by unfold frT; omega)
      have X3 := X1.keep hF3
      refine round_go X3 (asd := asd) (k := k + 1) (by omega) gi_s0 (fun i hi => ⟨?_, ?_⟩) (fun a ha i hi => ?_) (fun h4 c1 c2 c3 c4 => ⟨rfl, ?_⟩)
      · simp (disch := omega) only [gi_s0, gi_s1, gi_s2, gj_s0, gj_s1, gj_s2, gi_f0, gi_f1, gj_f0, gj_f1, gr_r0, gr_r1, gr_r2, gi_sj, gi_sr, gj_si, gj_sr, gr_si, gr_sj, gr_stI, gj_stI, gi_stJ, gr_stJ]; exact b1 i hi
      · simp (disch := omega) only [gi_s0, gi_s1, gi_s2, gj_s0, gj_s1, gj_s2, gi_f0, gi_f1, gj_f0, gj_f1, gr_r0, gr_r1, gr_r2, gi_sj, gi_sr, gj_si, gj_sr, gr_si, gr_sj, gr_stI, gj_stI, gi_stJ, gr_stJ]; rw [b2.1 _ _ (by unfold frH; omega)]; exact (r1 i hi).2
      · simp (disch := omega) only [gi_s0, gi_s1, gi_s2, gj_s0, gj_s1, gj_s2, gi_f0, gi_f1, gj_f0, gj_f1, gr_r0, gr_r1, gr_r2, gi_sj, gi_sr, gj_si, gj_sr, gr_si, gr_sj, gr_stI, gj_stI, gi_stJ, gr_stJ]; rw [b2.1 _ _ (by unfold frH; omega)]; exact r3 a (by omega) i hi
      · have X4 := X3.keep c4
        have g11 : gi h4 t 11 = 2 := by rw [c2]; simp (disch := omega) only [gi_s0, gi_s1, gi_s2, gj_s0, gj_s1, gj_s2, gi_f0, gi_f1, gj_f0, gj_f1, gr_r0, gr_r1, gr_r2, gi_sj, gi_sr, gj_si, gj_sr, gr_si, gr_sj, gr_stI, gj_stI, gi_stJ, gr_stJ]; rw [b2.1 _ _ (by unfold frH; omega)]; exact z
        have g12 : gi h4 t 12 = -1 := by rw [c3]; simp (disch := omega) only [gi_s0, gi_s1, gi_s2, gj_s0, gj_s1, gj_s2, gi_f0, gi_f1, gj_f0, gj_f1, gr_r0, gr_r1, gr_r2, gi_sj, gi_sr, gj_si, gj_sr, gr_si, gr_sj, gr_stI, gj_stI, gi_stJ, gr_stJ]; rw [b2.1 _ _ (by unfold frH; omega)]; exact hg12
        refine c_weigh X4 (k := k + 1) (by omega) (by omega) c1.2.2.2 g11 g12 c1.2.2.1 (fun h5 d1 d2 d3 => ⟨rfl, ?_⟩)
        rw [w32_r (by omega) (by omega), show (((k + 1 : Nat) : Int) + 1) = ((k + 1 + 1 : Nat) : Int) by omega]
        obtain ⟨s1, ⟨n', s2⟩, s3, s4⟩ := c1
        refine ih (k + 1) h5 (by omega) ⟨fun i hi => ?_, ⟨n', s2.keep (fun q k z => d3.1 _ _ (by unfold frW; omega))⟩, fun a ha i hi => ?_, ?_⟩ (fun e => by omega) (fun _ => ⟨?_, d1, d2, ?_⟩) (((hF.tr hF3).tr c4).tr (d3.mono (fun q k z => by unfold frW at z; unfold frT; omega)))
        · rw [d3.1 _ _ (by unfold frW; omega), d3.1 _ _ (by unfold frW; omega)]; exact s1 i hi
        · rw [d3.1 _ _ (by unfold frW; omega)]; exact s3 a ha i hi
        · rw [d3.1 _ _ (by unfold frW; omega)]; exact s4
        · by_cases k0 : k = 0
          · have q1 := (h0 k0).1
            cases hb : anyT v asd with
            | true => rfl
            | false => rw [hb] at q1; rw [q1] at z; simp at z
          · exact (hp (by omega)).1
        · by_cases k0 : k = 0
          · subst k0; rfl
          · obtain ⟨p1, p2, p3, p4⟩ := hp (by omega)
            rw [p4, show 60 - k = m + 1 by omega, show 60 - (k + 1) = m by omega]
            show (if (resS v wi asd k).1 = 2 then _ else _) = _
            rw [if_pos (by omega)]
def frSt (t p : Nat) : Nat → Nat → Prop := fun q k => (t ≤ q ∧ q ≤ t + 13) ∨ (q = p ∧ (k = 17 ∨ k = 18)) ∨ q = p + 12 ∨ q = p + 13 ∨ (p + 16 ≤ q ∧ q ≤ p + 19)
def StV (h : PH) (s : Nat) (st : Nat → Int) : Prop := ∀ k, k < 20 → SV h s k = st k
theorem StV.keep {h h' : PH} {s : Nat} {st : Nat → Int} (a : StV h s st) (e : ∀ q k, s ≤ q → q ≤ s + 3 → gi h' q k = gi h q k) : StV h' s st := fun k hk => by rw [SV_eq (fun q hq j => e q j hq.1 hq.2) k]; exact a k hk
theorem StV.inkv {h : PH} {s : Nat} {st : Nat → Int} (a : StV h s st) : gi h s 4 = st 19 := a 19 (by omega)
/-- what stands of page and state makes the view -/
theorem vcl_of {g : PG} {st : Nat → Int} (hR : RCp h p g) (hs : StV h s st) (ok : SOK g st) (okg : POK g) (k1 : bit (gi h p 17) (st 19).toNat = true) (k2 : bit (gi h p 18) (st 19).toNat = true) : vcl h p s (st 19).toNat (vw g st) := by
  obtain ⟨⟨a1, a2, a3, a4, a5, a6, a7⟩, b, c, l1, l2, kk1, kk2⟩ := hR
  obtain ⟨o1, o2, o3, o4, o5, o6⟩ := ok
  have okg1 := okg.1
  refine ⟨⟨a2, a3, a4, a6, a7, by rw [hs.inkv]; omega, by omega⟩, fun i hi => ?_, fun w hw => ?_, fun w hw => kk1 _ (by omega) k1 w hw, fun i l hi hl => kk2 _ (by omega) k2 i l hi hl⟩
  · have hi' : i < g_S g := hi
    obtain ⟨b1, b2, b3⟩ := b i hi'
    refine ⟨b1, b2, b3, ?_, ?_, ?_⟩
    · have := hs i (by omega); rw [SV_1 (by omega)] at this; exact this
    · have := hs (6 + i) (by omega); rw [SV_2 (by omega)] at this; exact this
    · have := hs (12 + i) (by omega); rw [SV_3 (by omega)] at this; exact this
  · have := hs 18 (by omega); rw [SV_18] at this; rw [this]; rfl
theorem c_settle {g : PG} {st : Nat → Int} (ct : CLf t = 7) (ct1 : CLf (t + 1) = 8) (cp : CLf p = 4) (cs : CLf s = 9) (ht : 219 ≤ t) (hp : p ≤ 190) (hs : s ≤ 214) (hps : s + 3 < p ∨ p + 20 ≤ s) (hR : RCp h p g) (okg : POK g) (hS : StV h s st) (oks : SOK g st) (hw : 0 ≤ wi ∧ wi ≤ 200)
    (hq : ∀ h', StC h' t p s (st 19).toNat (vw g st) wi → DN h' t (vw g st) wi asd → RCp h' p g → (∀ j, j ≤ 9 → bit (gi h p 17) j = true → bit (gi h' p 17) j = true) → fr (frSt t p) h h' → Q none h') : C2 (d + 4) mX6_settle [vR t, vR p, vR s, vI wi, vI asd] h Q := by
  refine EX6_settle fun _ _ => BX6_settle_0 ct cp cs (fun h1 e1 h2 e2 h3 e3 => ?_)
  subst e1 e2 e3
  have hI := hS.inkv
  have o5 := oks.2.2.2.2.1
  have o6 := oks.2.2.2.2.2
  have eink : st 19 = ((st 19).toNat : Int) := by omega
  have hF0 : fr (frSt t p) h (si (sr (sr h t 0 p) t 1 s) t 2 wi) := ((fr.rf.sr (by unfold frSt; omega)).sr (by unfold frSt; omega)).si (by unfold frSt; omega)
  have eq0 : ∀ q k, q < 219 → gi (si (sr (sr h t 0 p) t 1 s) t 2 wi) q k = gi h q k := fun q k hq => by simp (disch := omega) only [gi_s0, gi_s1, gi_s2, gj_s0, gj_s1, gj_s2, gi_f0, gi_f1, gj_f0, gj_f1, gr_r0, gr_r1, gr_r2, gi_sj, gi_sr, gj_si, gj_sr, gr_si, gr_sj, gr_stI, gj_stI, gi_stJ, gr_stJ]
  rw [show gr (si (sr (sr h t 0 p) t 1 s) t 2 wi) t 0 = p by simp (disch := omega) only [gi_s0, gi_s1, gi_s2, gj_s0, gj_s1, gj_s2, gi_f0, gi_f1, gj_f0, gj_f1, gr_r0, gr_r1, gr_r2, gi_sj, gi_sr, gj_si, gj_sr, gr_si, gr_sj, gr_stI, gj_stI, gi_stJ, gr_stJ], show gr (si (sr (sr h t 0 p) t 1 s) t 2 wi) t 1 = s by simp (disch := omega) only [gi_s0, gi_s1, gi_s2, gj_s0, gj_s1, gj_s2, gi_f0, gi_f1, gj_f0, gj_f1, gr_r0, gr_r1, gr_r2, gi_sj, gi_sr, gj_si, gj_sr, gr_si, gr_sj, gr_stI, gj_stI, gi_stJ, gr_stJ], eq0 s 4 (by omega), hI, eink]
  refine c_learnWides cp (hR.keep (fun q k h1 h2 => eq0 q k (by omega))) okg (by omega) (fun h4 b1 b2 b3 b4 => ⟨rfl, ?_⟩)
  have g0 : gr h4 t 0 = p := by rw [b4.2.2 _ _ (by unfold frLW; omega)]; simp (disch := omega) only [gi_s0, gi_s1, gi_s2, gj_s0, gj_s1, gj_s2, gi_f0, gi_f1, gj_f0, gj_f1, gr_r0, gr_r1, gr_r2, gi_sj, gi_sr, gj_si, gj_sr, gr_si, gr_sj, gr_stI, gj_stI, gi_stJ, gr_stJ]
  have g1 : gr h4 t 1 = s := by rw [b4.2.2 _ _ (by unfold frLW; omega)]; simp (disch := omega) only [gi_s0, gi_s1, gi_s2, gj_s0, gj_s1, gj_s2, gi_f0, gi_f1, gj_f0, gj_f1, gr_r0, gr_r1, gr_r2, gi_sj, gi_sr, gj_si, gj_sr, gr_si, gr_sj, gr_stI, gj_stI, gi_stJ, gr_stJ]
  dsimp only
  rw [g0, g1, b4.1 s 4 (by unfold frLW; omega), eq0 s 4 (by omega), hI, eink]
  refine c_learnGaps cp b1 okg (by omega) (fun h5 c1 c2 c3 c4 => ⟨rfl, fun h6 e6 h7 e7 => ?_⟩)
  subst e6 e7
  have hF5 : fr (frSt t p) h h5 := (hF0.tr (b4.mono (fun q k z => by unfold frLW at z; unfold frSt; omega))).tr (c4.mono (fun q k z => by unfold frLG at z; unfold frSt; omega))
  have hF7 : fr (frSt t p) h (si (si h5 t 10 0) t 12 (-1)) := (hF5.si (by unfold frSt; omega)).si (by unfold frSt; omega)
  have X : StC (si (si h5 t 10 0) t 12 (-1)) t p s (st 19).toNat (vw g st) wi := by
    refine ⟨⟨ct, cp, cs, ct1, ht, hp, hs⟩, ⟨?_, ?_, ?_⟩, vcl_of (c1.keep (fun q k h1 h2 => by simp (disch := omega) only [gi_s0, gi_s1, gi_s2, gj_s0, gj_s1, gj_s2, gi_f0, gi_f1, gj_f0, gj_f1, gr_r0, gr_r1, gr_r2, gi_sj, gi_sr, gj_si, gj_sr, gr_si, gr_sj, gr_stI, gj_stI, gi_stJ, gr_stJ])) (hS.keep (fun q k h1 h2 => hF7.1 q k (by unfold frSt; omega))) oks okg ?_ ?_, vw_ok okg oks, hw.1, hw.2⟩
    · simp (disch := omega) only [gi_s0, gi_s1, gi_s2, gj_s0, gj_s1, gj_s2, gi_f0, gi_f1, gj_f0, gj_f1, gr_r0, gr_r1, gr_r2, gi_sj, gi_sr, gj_si, gj_sr, gr_si, gr_sj, gr_stI, gj_stI, gi_stJ, gr_stJ]; rw [c4.2.2 _ _ (by unfold frLG; omega)]; exact g0
    · simp (disch := omega) only [gi_s0, gi_s1, gi_s2, gj_s0, gj_s1, gj_s2, gi_f0, gi_f1, gj_f0, gj_f1, gr_r0, gr_r1, gr_r2, gi_sj, gi_sr, gj_si, gj_sr, gr_si, gr_sj, gr_stI, gj_stI, gi_stJ, gr_stJ]; rw [c4.2.2 _ _ (by unfold frLG; omega)]; exact g1
    · simp (disch := omega) only [gi_s0, gi_s1, gi_s2, gj_s0, gj_s1, gj_s2, gi_f0, gi_f1, gj_f0, gj_f1, gr_r0, gr_r1, gr_r2, gi_sj, gi_sr, gj_si, gj_sr, gr_si, gr_sj, gr_stI, gj_stI, gi_stJ, gr_stJ]; rw [c4.1 _ _ (by unfold frLG; omega), b4.1 _ _ (by unfold frLW; omega)]; simp (disch := omega) only [gi_s0, gi_s1, gi_s2, gj_s0, gj_s1, gj_s2, gi_f0, gi_f1, gj_f0, gj_f1, gr_r0, gr_r1, gr_r2, gi_sj, gi_sr, gj_si, gj_sr, gr_si, gr_sj, gr_stI, gj_stI, gi_stJ, gr_stJ]
    · simp (disch := omega) only [gi_s0, gi_s1, gi_s2, gj_s0, gj_s1, gj_s2, gi_f0, gi_f1, gj_f0, gj_f1, gr_r0, gr_r1, gr_r2, gi_sj, gi_sr, gj_si, gj_sr, gr_si, gr_sj, gr_stI, gj_stI, gi_stJ, gr_stJ]; rw [c3]; exact b2
    · simp (disch := omega) only [gi_s0, gi_s1, gi_s2, gj_s0, gj_s1, gj_s2, gi_f0, gi_f1, gj_f0, gj_f1, gr_r0, gr_r1, gr_r2, gi_sj, gi_sr, gj_si, gj_sr, gr_si, gr_sj, gr_stI, gj_stI, gi_stJ, gr_stJ]; exact c2
  refine c_setFree X (asd := asd) (fun h8 e1 e2 _ => ?_)
  have e2T : fr (frT t) (si (si h5 t 10 0) t 12 (-1)) h8 := e2.mono (fun q k z => by unfold frG at z; unfold frT; omega)
  have X8 := X.keep e2T
  have go : ∀ x : Int, x = (if anyT (vw g st) asd then 2 else 0) → T2 (d + 4) mX6_settle 68 [some (vR t), none, none, none, none, none] [vI x, vR t] h8 Q := by
    intro x hx
    refine BX6_settle_68 ct ct (fun h9 e9 => ?_)
    subst e9
    have F9 : fr (frT t) h8 (si h8 t 11 x) := fr.rf.si (by unfold frT; omega)
    have X9 := X8.keep F9
    refine round_go X9 (asd := asd) (k := 0) (by omega) ?_ (fun i hi => ?_) (fun a ha => by omega) (fun h10 f1 f2 f3 f4 => ⟨rfl, ?_⟩)
    · simp (disch := omega) only [gi_s0, gi_s1, gi_s2, gj_s0, gj_s1, gj_s2, gi_f0, gi_f1, gj_f0, gj_f1, gr_r0, gr_r1, gr_r2, gi_sj, gi_sr, gj_si, gj_sr, gr_si, gr_sj, gr_stI, gj_stI, gi_stJ, gr_stJ]; rw [e2.1 _ _ (by unfold frG; omega)]; simp (disch := omega) only [gi_s0, gi_s1, gi_s2, gj_s0, gj_s1, gj_s2, gi_f0, gi_f1, gj_f0, gj_f1, gr_r0, gr_r1, gr_r2, gi_sj, gi_sr, gj_si, gj_sr, gr_si, gr_sj, gr_stI, gj_stI, gi_stJ, gr_stJ]; rfl
    · simp (disch := omega) only [gi_s0, gi_s1, gi_s2, gj_s0, gj_s1, gj_s2, gi_f0, gi_f1, gj_f0, gj_f1, gr_r0, gr_r1, gr_r2, gi_sj, gi_sr, gj_si, gj_sr, gr_si, gr_sj, gr_stI, gj_stI, gi_stJ, gr_stJ]; exact e1 i hi
    · have X10 := X9.keep f4
      have FA : fr (frT t) (si (si h5 t 10 0) t 12 (-1)) h10 := (e2T.tr F9).tr f4
      refine settle_loop X10 (asd := asd) (fun h11 k1 k2 => ?_) 60 0 h10 (by omega) f1 (fun _ => ⟨?_, ?_⟩) (fun z => by omega) fr.rf
      · have FB := FA.tr k2
        refine hq h11 (X10.keep k2) k1 (c1.keep (fun q k h1 h2 => ?_)) (fun j hj hb => ?_) (hF7.tr (FB.mono (fun q k z => by unfold frT at z; unfold frSt; omega)))
        · rw [FB.1 _ _ (by unfold frT; omega)]; simp (disch := omega) only [gi_s0, gi_s1, gi_s2, gj_s0, gj_s1, gj_s2, gi_f0, gi_f1, gj_f0, gj_f1, gr_r0, gr_r1, gr_r2, gi_sj, gi_sr, gj_si, gj_sr, gr_si, gr_sj, gr_stI, gj_stI, gi_stJ, gr_stJ]
        · rw [FB.1 _ _ (by unfold frT; omega)]; simp (disch := omega) only [gi_s0, gi_s1, gi_s2, gj_s0, gj_s1, gj_s2, gi_f0, gi_f1, gj_f0, gj_f1, gr_r0, gr_r1, gr_r2, gi_sj, gi_sr, gj_si, gj_sr, gr_si, gr_sj, gr_stI, gj_stI, gi_stJ, gr_stJ]; rw [c3]; exact b3 j hj (by rw [eq0 _ _ (by omega)]; exact hb)
      · rw [f2]; simp (disch := omega) only [gi_s0, gi_s1, gi_s2, gj_s0, gj_s1, gj_s2, gi_f0, gi_f1, gj_f0, gj_f1, gr_r0, gr_r1, gr_r2, gi_sj, gi_sr, gj_si, gj_sr, gr_si, gr_sj, gr_stI, gj_stI, gi_stJ, gr_stJ]; exact hx
      · rw [f3]; simp (disch := omega) only [gi_s0, gi_s1, gi_s2, gj_s0, gj_s1, gj_s2, gi_f0, gi_f1, gj_f0, gj_f1, gr_r0, gr_r1, gr_r2, gi_sj, gi_sr, gj_si, gj_sr, gr_si, gr_sj, gr_stI, gj_stI, gi_stJ, gr_stJ]; rw [e2.1 _ _ (by unfold frG; omega)]; simp (disch := omega) only [gi_s0, gi_s1, gi_s2, gj_s0, gj_s1, gj_s2, gi_f0, gi_f1, gj_f0, gj_f1, gr_r0, gr_r1, gr_r2, gi_sj, gi_sr, gj_si, gj_sr, gr_si, gr_sj, gr_stI, gj_stI, gi_stJ, gr_stJ]
  refine ⟨fun z => go 0 ?_, fun z => go 2 ?_⟩
  · cases hb : anyT (vw g st) asd with
    | false => rfl
    | true => rw [hb] at z; simp at z
  · cases hb : anyT (vw g st) asd with
    | true => rfl
    | false => rw [hb] at z; simp at z
/-- the rest of the lines are cut -/
theorem rest_loop (X0 : StC h t p s ink v wi) {ht : Nat → Int} (hH : ∀ i, i < v_S v → gi h (t + 11) i = ht i ∧ -1 ≤ ht i ∧ ht i ≤ 1000) (hq : ∀ h', PO h' t v wi ht (v_ln v) → fr (frU t) h h' → gi h' t 9 = gi h t 9 → Q none h') :
    ∀ (m n : Nat) (h1 : PH), n + m = v_ln v → PO h1 t v wi ht n → gi h1 t 9 = gi h t 9 → fr (frU t) h h1 → T2 (d + 3) mX6_cutRest 8 [some (vR t), some (vI (n : Int))] [] h1 Q := by
  have ok := X0.2.2.2.1
  have ok1 := ok.1
  intro m
  induction m with
  | zero =>
    intro n h1 hn hP h9 hF
    have X := X0.keep (hF.mono (fun q k z => frU_T z))
    obtain ⟨⟨x1, x2, x3, x3', x4, x5, x6⟩, ⟨y1, y2, y3⟩, ⟨⟨a1, a2, a3, a4, a5, a6, a7⟩, -⟩, -⟩ := X
    refine BX6_cutRest_8 x1 ⟨fun _ => ?_, fun z => by rw [y1, a1] at z; omega⟩
    have en : n = v_ln v := by omega
    subst en
    exact hq h1 hP hF h9
  | succ m ih =>
    intro n h1 hn hP h9 hF
    have X := X0.keep (hF.mono (fun q k z => frU_T z))
    obtain ⟨⟨x1, x2, x3, x3', x4, x5, x6⟩, ⟨y1, y2, y3⟩, ⟨⟨a1, a2, a3, a4, a5, a6, a7⟩, -⟩, -⟩ := id X
    refine BX6_cutRest_8 x1 ⟨fun z => by rw [y1, a1] at z; omega, fun _ => ?_⟩
    obtain ⟨p1, p2, p3, p4, p5, p6⟩ := hP
    have hlen : (slt v wi ht n).length ≤ (slt v wi ht (n + 1)).length := slt_le v wi ht (Nat.le_succ n)
    refine c_cut X (l := n) (by omega) (fun i hi => by rw [hF.1 _ _ (by unfold frU; omega)]; exact hH i hi) p2 p3 p4 (fun h2 b1 b2 b3 b4 b5 b6 b7 b8 => ⟨rfl, ?_⟩)
    rw [w32_r (by omega) (by omega), show ((n : Int) + 1) = ((n + 1 : Nat) : Int) by omega]
    obtain ⟨C1, C2, C3, C4, C5, C6, C7, C8⟩ := p6
    have k9 : gi h2 t 9 = gi h1 t 9 := b8.1 _ _ (by unfold frK; omega)
    refine ih (n + 1) h2 (by omega) ⟨by omega, b1, b2, by rw [b3]; omega, fun j hj => ?_, ⟨fun j hj => ?_, fun k hk => ?_, C3, fun k hk => C4 k (by omega), by rw [k9]; exact C5, C6, fun j => ⟨(C7 j).1, by have := (C7 j).2; omega⟩, C8⟩⟩ (k9.trans h9) (hF.tr (b8.mono (fun q k z => by unfold frK at z; unfold frU; omega)))
    · by_cases ej : j = n
      · subst ej; exact ⟨b4, b5⟩
      · rw [b8.1 _ _ (by unfold frK; omega)]
        refine ⟨(p5 j (by omega)).1, ?_⟩
        by_cases ej2 : j + 1 = n
        · rw [ej2]; exact b4
        · rw [b8.1 _ _ (by unfold frK; omega)]; exact (p5 j (by omega)).2
    · rw [b8.1 _ _ (by unfold frK; omega), b8.1 _ _ (by unfold frK; omega)]; exact C1 j hj
    · by_cases z2 : k < (slt v wi ht n).length
      · rw [b6 k z2]; exact C2 k z2
      · rw [b7 k (by omega) hk, C4 k (by omega)]; exact ⟨rfl, by omega⟩
theorem c_cutRest (X : StC h t p s ink v wi) (hD : DN h t v wi asd) (hq : ∀ h', DN h' t v wi asd → PO h' t v wi (fH v wi asd) (v_ln v) → fr (frU t) h h' → Q none h') : C2 (d + 3) mX6_cutRest [vR t] h Q := by
  obtain ⟨⟨r1, ⟨n, r2⟩, r3, r4⟩, r5, r6⟩ := hD
  have ok := X.2.2.2.1
  refine EX6_cutRest (BX6_cutRest_0 X.1.1 ?_)
  rw [r2.2.2.2.1]
  refine rest_loop X (ht := fH v wi asd) (fun i hi => ⟨(r1 i hi).1, hts_rg ok X.2.2.2.2.1 _ hi⟩) (fun h' b1 b2 b3 => ?_) (v_ln v - n) n h (by have := r2.1; omega) r2 rfl fr.rf
  refine hq h' ⟨⟨fun i hi => ?_, ⟨_, b1⟩, fun a ha i hi => ?_, ?_⟩, ?_, ?_⟩ b1 b2
  · rw [b2.1 _ _ (by unfold frU; omega), b2.1 _ _ (by unfold frU; omega)]; exact r1 i hi
  · rw [b2.1 _ _ (by unfold frU; omega)]; exact r3 a ha i hi
  · rw [b2.1 _ _ (by unfold frU; omega)]; exact r4
  · rw [b2.1 _ _ (by unfold frU; omega)]; exact r5
  · rw [b2.1 _ _ (by unfold frU; omega)]; exact r6
end
