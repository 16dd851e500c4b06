/-! THE CLASS: settle, with what is known of the laws kept; what stands -/
section
variable {d : Nat} {h : PH} {Q : Option PV → PH → Prop}
theorem c_learnGaps2 {p ink : Nat} {g : PG} (cp : CLf p = 4) (hR : RCp h p g) (ok : POK g) (hi : ink ≤ 9) (hq : ∀ h', RCp h' p g → bit (gi h' p 18) ink = true → gi h' p 17 = gi h p 17 → (∀ j, j ≤ 9 → bit (gi h p 18) j = true → bit (gi h' p 18) j = true) → fr (frLG p ink) h h' → Q none h') : C2 (d + 3) mX3_learnGaps [vR p, vI (ink : Int)] h Q := by
  refine EX3_learnGaps fun _ => BX3_learnGaps_0 cp ?_
  rw [bit_ask (by omega)]
  refine ⟨fun z h1 e1 => ?_, fun z => ?_⟩
  · subst e1
    have hF1 : fr (frLG p ink) h (si h p 18 (ior (gi h p 18) (ishl 1 (ink : Int)))) := fr.rf.si (by unfold frLG; omega)
    obtain ⟨⟨a1, a2, a3, a4, a5, a6, a7⟩, b, c, l1, l2, k1, k2⟩ := hR
    have fin : ∀ h', (∀ s l, s < g_S g → l < g_ln g → gi h' (p + 19) ((ink * 6 + s) * 20 + l) = gapA g ink s l) → gi h' p 18 = ior (gi h p 18) (ishl 1 (ink : Int)) → fr (frLG p ink) h h' → Q none h' := by
      intro h' hw h17 hF
      have e : ∀ q k, ¬ frLG p ink q k → gi h' q k = gi h q k := hF.1
      refine hq h' ⟨⟨by rw [e _ _ (by unfold frLG; omega)]; exact a1, by rw [e _ _ (by unfold frLG; omega)]; exact a2, by rw [e _ _ (by unfold frLG; omega)]; exact a3, by rw [e _ _ (by unfold frLG; omega)]; exact a4, by rw [e _ _ (by unfold frLG; omega)]; exact a5, by rw [e _ _ (by unfold frLG; omega)]; exact a6, by rw [e _ _ (by unfold frLG; omega)]; exact a7⟩, fun i hi => ?_, fun w hw => ?_, l1.keep (e _ _ (by unfold frLG; omega)) (fun k => e _ _ (by unfold frLG; omega)), l2.keep (e _ _ (by unfold frLG; omega)) (fun k => e _ _ (by unfold frLG; omega)), fun j hj hb w hw2 => ?_, fun j hj hb s l hs hl => ?_⟩ ?_ (e _ _ (by unfold frLG; omega)) (fun j hj hb => ?_) hF
      · rw [e _ _ (by unfold frLG; omega), e _ _ (by unfold frLG; omega), e _ _ (by unfold frLG; omega)]; exact b i hi
      · rw [e _ _ (by unfold frLG; omega), e _ _ (by unfold frLG; omega)]; exact c w hw
      · rw [e _ _ (by unfold frLG; omega)] at hb
        rw [e _ _ (by unfold frLG; omega)]; exact k1 j hj hb w hw2
      · rw [h17, known_ior (by omega) (by omega)] at hb
        by_cases ej : j = ink
        · subst ej; exact hw s l hs hl
        · have hb2 : bit (gi h p 18) j = true := by simpa [ej] using hb
          have hW := ok.1
          rw [e _ _ (by unfold frLG; omega)]; exact k2 j hj hb2 s l hs hl
      · rw [h17, known_ior (by omega) (by omega)]; simp
      · rw [h17, known_ior (by omega) (by omega), hb]; rfl
    exact gaps_out cp ⟨⟨a1, a2, a3, a4, a5, a6, a7⟩, b, c, l1, l2, k1, k2⟩ ok hi fin (g_S g) 0 _ (by omega) (fun s' l hj => by omega) gi_s0 hF1
  · have hb0 : bit (gi h p 18) ink = true := by
      cases hb : bit (gi h p 18) ink with
      | true => rfl
      | false => rw [hb] at z; simp at z
    exact hq h hR hb0 rfl (fun j _ hb => hb) fr.rf
/-- what is known is kept -/
def knw (h h' : PH) (p : Nat) : Prop := (∀ j, j ≤ 9 → bit (gi h p 17) j = true → bit (gi h' p 17) j = true) ∧ (∀ j, j ≤ 9 → bit (gi h p 18) j = true → bit (gi h' p 18) j = true)
theorem knw.rf {h : PH} {p : Nat} : knw h h p := ⟨fun _ _ z => z, fun _ _ z => z⟩
theorem knw.tr {h1 h2 h3 : PH} {p : Nat} (a : knw h1 h2 p) (b : knw h2 h3 p) : knw h1 h3 p := ⟨fun j hj z => b.1 j hj (a.1 j hj z), fun j hj z => b.2 j hj (a.2 j hj z)⟩
theorem knw.eq {h h' : PH} {p : Nat} (e1 : gi h' p 17 = gi h p 17) (e2 : gi h' p 18 = gi h p 18) : knw h h' p := ⟨fun _ _ z => by rw [e1]; exact z, fun _ _ z => by rw [e2]; exact z⟩
variable {t p s ink : Nat} {v : VW} {wi asd : Int}
theorem c_settle2 {g : PG} {st : Nat → Int} (ct : CLf t = 7) (ct1 : CLf (t + 1) = 8) (cp : CLf p = 4) (cs : CLf s = 9) (ht : 219 ≤ t) (hp : p ≤ 190) (hs : s ≤ 214) (hps : s + 3 < p ∨ p + 20 ≤ s) (hR : RCp h p g) (okg : POK g) (hS : StV h s st) (oks : SOK g st) (hw : 0 ≤ wi ∧ wi ≤ 200)
    (hq : ∀ h', StC h' t p s (st 19).toNat (vw g st) wi → DN h' t (vw g st) wi asd → RCp h' p g → knw h h' p → bit (gi h' p 17) (st 19).toNat = true → bit (gi h' p 18) (st 19).toNat = true → fr (frSt t p) h h' → Q none h') : C2 (d + 4) mX6_settle [vR t, vR p, vR s, vI wi, vI asd] h Q := by
  refine EX6_settle fun _ _ => BX6_settle_0 ct cp cs (fun h1 e1 h2 e2 h3 e3 => ?_)
  subst e1 e2 e3
  have hI := hS.inkv
  have o5 := oks.2.2.2.2.1
  have o6 := oks.2.2.2.2.2
  have eink : st 19 = ((st 19).toNat : Int) := by omega
  have hF0 : fr (frSt t p) h (si (sr (sr h t 0 p) t 1 s) t 2 wi) := ((fr.rf.sr (by unfold frSt; omega)).sr (by unfold frSt; omega)).si (by unfold frSt; omega)
  have eq0 : ∀ q k, q < 219 → gi (si (sr (sr h t 0 p) t 1 s) t 2 wi) q k = gi h q k := fun q k hq => by simp (disch := omega) only [gi_s0, gi_s1, gi_s2, gj_s0, gj_s1, gj_s2, gi_f0, gi_f1, gj_f0, gj_f1, gr_r0, gr_r1, gr_r2, gi_sj, gi_sr, gj_si, gj_sr, gr_si, gr_sj, gr_stI, gj_stI, gi_stJ, gr_stJ]
  rw [show gr (si (sr (sr h t 0 p) t 1 s) t 2 wi) t 0 = p by simp (disch := omega) only [gi_s0, gi_s1, gi_s2, gj_s0, gj_s1, gj_s2, gi_f0, gi_f1, gj_f0, gj_f1, gr_r0, gr_r1, gr_r2, gi_sj, gi_sr, gj_si, gj_sr, gr_si, gr_sj, gr_stI, gj_stI, gi_stJ, gr_stJ], show gr (si (sr (sr h t 0 p) t 1 s) t 2 wi) t 1 = s by simp (disch := omega) only [gi_s0, gi_s1, gi_s2, gj_s0, gj_s1, gj_s2, gi_f0, gi_f1, gj_f0, gj_f1, gr_r0, gr_r1, gr_r2, gi_sj, gi_sr, gj_si, gj_sr, gr_si, gr_sj, gr_stI, gj_stI, gi_stJ, gr_stJ], eq0 s 4 (by omega), hI, eink]
  refine c_learnWides cp (hR.keep (fun q k h1 h2 => eq0 q k (by omega))) okg (by omega) (fun h4 b1 b2 b3 b4 => ⟨rfl, ?_⟩)
  have g0 : gr h4 t 0 = p := by rw [b4.2.2 _ _ (by unfold frLW; omega)]; simp (disch := omega) only [gi_s0, gi_s1, gi_s2, gj_s0, gj_s1, gj_s2, gi_f0, gi_f1, gj_f0, gj_f1, gr_r0, gr_r1, gr_r2, gi_sj, gi_sr, gj_si, gj_sr, gr_si, gr_sj, gr_stI, gj_stI, gi_stJ, gr_stJ]
  have g1 : gr h4 t 1 = s := by rw [b4.2.2 _ _ (by unfold frLW; omega)]; simp (disch := omega) only [gi_s0, gi_s1, gi_s2, gj_s0, gj_s1, gj_s2, gi_f0, gi_f1, gj_f0, gj_f1, gr_r0, gr_r1, gr_r2, gi_sj, gi_sr, gj_si, gj_sr, gr_si, gr_sj, gr_stI, gj_stI, gi_stJ, gr_stJ]
  dsimp only
  rw [g0, g1, b4.1 s 4 (by unfold frLW; omega), eq0 s 4 (by omega), hI, eink]
  refine c_learnGaps2 cp b1 okg (by omega) (fun h5 c1 c2 c3 cm c4 => ⟨rfl, fun h6 e6 h7 e7 => ?_⟩)
  subst e6 e7
  have hF5 : fr (frSt t p) h h5 := (hF0.tr (b4.mono (fun q k z => by unfold frLW at z; unfold frSt; omega))).tr (c4.mono (fun q k z => by unfold frLG at z; unfold frSt; omega))
  have hF7 : fr (frSt t p) h (si (si h5 t 10 0) t 12 (-1)) := (hF5.si (by unfold frSt; omega)).si (by unfold frSt; omega)
  have X : StC (si (si h5 t 10 0) t 12 (-1)) t p s (st 19).toNat (vw g st) wi := by
    refine ⟨⟨ct, cp, cs, ct1, ht, hp, hs⟩, ⟨?_, ?_, ?_⟩, vcl_of (c1.keep (fun q k h1 h2 => by simp (disch := omega) only [gi_s0, gi_s1, gi_s2, gj_s0, gj_s1, gj_s2, gi_f0, gi_f1, gj_f0, gj_f1, gr_r0, gr_r1, gr_r2, gi_sj, gi_sr, gj_si, gj_sr, gr_si, gr_sj, gr_stI, gj_stI, gi_stJ, gr_stJ])) (hS.keep (fun q k h1 h2 => hF7.1 q k (by unfold frSt; omega))) oks okg ?_ ?_, vw_ok okg oks, hw.1, hw.2⟩
    · simp (disch := omega) only [gi_s0, gi_s1, gi_s2, gj_s0, gj_s1, gj_s2, gi_f0, gi_f1, gj_f0, gj_f1, gr_r0, gr_r1, gr_r2, gi_sj, gi_sr, gj_si, gj_sr, gr_si, gr_sj, gr_stI, gj_stI, gi_stJ, gr_stJ]; rw [c4.2.2 _ _ (by unfold frLG; omega)]; exact g0
    · simp (disch := omega) only [gi_s0, gi_s1, gi_s2, gj_s0, gj_s1, gj_s2, gi_f0, gi_f1, gj_f0, gj_f1, gr_r0, gr_r1, gr_r2, gi_sj, gi_sr, gj_si, gj_sr, gr_si, gr_sj, gr_stI, gj_stI, gi_stJ, gr_stJ]; rw [c4.2.2 _ _ (by unfold frLG; omega)]; exact g1
    · simp (disch := omega) only [gi_s0, gi_s1, gi_s2, gj_s0, gj_s1, gj_s2, gi_f0, gi_f1, gj_f0, gj_f1, gr_r0, gr_r1, gr_r2, gi_sj, gi_sr, gj_si, gj_sr, gr_si, gr_sj, gr_stI, gj_stI, gi_stJ, gr_stJ]; rw [c4.1 _ _ (by unfold frLG; omega), b4.1 _ _ (by unfold frLW; omega)]; simp (disch := omega) only [gi_s0, gi_s1, gi_s2, gj_s0, gj_s1, gj_s2, gi_f0, gi_f1, gj_f0, gj_f1, gr_r0, gr_r1, gr_r2, gi_sj, gi_sr, gj_si, gj_sr, gr_si, gr_sj, gr_stI, gj_stI, gi_stJ, gr_stJ]
    · simp (disch := omega) only [gi_s0, gi_s1, gi_s2, gj_s0, gj_s1, gj_s2, gi_f0, gi_f1, gj_f0, gj_f1, gr_r0, gr_r1, gr_r2, gi_sj, gi_sr, gj_si, gj_sr, gr_si, gr_sj, gr_stI, gj_stI, gi_stJ, gr_stJ]; rw [c3]; exact b2
    · simp (disch := omega) only [gi_s0, gi_s1, gi_s2, gj_s0, gj_s1, gj_s2, gi_f0, gi_f1, gj_f0, gj_f1, gr_r0, gr_r1, gr_r2, gi_sj, gi_sr, gj_si, gj_sr, gr_si, gr_sj, gr_stI, gj_stI, gi_stJ, gr_stJ]; exact c2
  refine c_setFree X (asd := asd) (fun h8 e1 e2 _ => ?_)
  have e2T : fr (frT t) (si (si h5 t 10 0) t 12 (-1)) h8 := e2.mono (fun q k z => by unfold frG at z; unfold frT; omega)
  have X8 := X.keep e2T
  have go : ∀ x : Int, x = (if anyT (vw g st) asd then 2 else 0) → T2 (d + 4) mX6_settle 68 [some (vR t), none, none, none, none, none] [vI x, vR t] h8 Q := by
    intro x hx
    refine BX6_settle_68 ct ct (fun h9 e9 => ?_)
    subst e9
    have F9 : fr (frT t) h8 (si h8 t 11 x) := fr.rf.si (by unfold frT; omega)
    have X9 := X8.keep F9
    refine round_go X9 (asd := asd) (k := 0) (by omega) ?_ (fun i hi => ?_) (fun a ha => by omega) (fun h10 f1 f2 f3 f4 => ⟨rfl, ?_⟩)
    · simp (disch := omega) only [gi_s0, gi_s1, gi_s2, gj_s0, gj_s1, gj_s2, gi_f0, gi_f1, gj_f0, gj_f1, gr_r0, gr_r1, gr_r2, gi_sj, gi_sr, gj_si, gj_sr, gr_si, gr_sj, gr_stI, gj_stI, gi_stJ, gr_stJ]; rw [e2.1 _ _ (by unfold frG; omega)]; simp (disch := omega) only [gi_s0, gi_s1, gi_s2, gj_s0, gj_s1, gj_s2, gi_f0, gi_f1, gj_f0, gj_f1, gr_r0, gr_r1, gr_r2, gi_sj, gi_sr, gj_si, gj_sr, gr_si, gr_sj, gr_stI, gj_stI, gi_stJ, gr_stJ]; rfl
    · simp (disch := omega) only [gi_s0, gi_s1, gi_s2, gj_s0, gj_s1, gj_s2, gi_f0, gi_f1, gj_f0, gj_f1, gr_r0, gr_r1, gr_r2, gi_sj, gi_sr, gj_si, gj_sr, gr_si, gr_sj, gr_stI, gj_stI, gi_stJ, gr_stJ]; exact e1 i hi
    · have X10 := X9.keep f4
      have FA : fr (frT t) (si (si h5 t 10 0) t 12 (-1)) h10 := (e2T.tr F9).tr f4
      refine settle_loop X10 (asd := asd) (fun h11 k1 k2 => ?_) 60 0 h10 (by omega) f1 (fun _ => ⟨?_, ?_⟩) (fun z => by omega) fr.rf
      · have FB := FA.tr k2
        have e17 : gi h11 p 17 = gi h5 p 17 := by rw [FB.1 _ _ (by unfold frT; omega)]; simp (disch := omega) only [gi_s0, gi_s1, gi_s2, gj_s0, gj_s1, gj_s2, gi_f0, gi_f1, gj_f0, gj_f1, gr_r0, gr_r1, gr_r2, gi_sj, gi_sr, gj_si, gj_sr, gr_si, gr_sj, gr_stI, gj_stI, gi_stJ, gr_stJ]
        have e18 : gi h11 p 18 = gi h5 p 18 := by rw [FB.1 _ _ (by unfold frT; omega)]; simp (disch := omega) only [gi_s0, gi_s1, gi_s2, gj_s0, gj_s1, gj_s2, gi_f0, gi_f1, gj_f0, gj_f1, gr_r0, gr_r1, gr_r2, gi_sj, gi_sr, gj_si, gj_sr, gr_si, gr_sj, gr_stI, gj_stI, gi_stJ, gr_stJ]
        refine hq h11 (X10.keep k2) k1 (c1.keep (fun q k h1 h2 => ?_)) ⟨fun j hj hb => ?_, fun j hj hb => ?_⟩ (by rw [e17, c3]; exact b2) (by rw [e18]; exact c2) (hF7.tr (FB.mono (fun q k z => by unfold frT at z; unfold frSt; omega)))
        · rw [FB.1 _ _ (by unfold frT; omega)]; simp (disch := omega) only [gi_s0, gi_s1, gi_s2, gj_s0, gj_s1, gj_s2, gi_f0, gi_f1, gj_f0, gj_f1, gr_r0, gr_r1, gr_r2, gi_sj, gi_sr, gj_si, gj_sr, gr_si, gr_sj, gr_stI, gj_stI, gi_stJ, gr_stJ]
        · rw [e17, c3]; exact b3 j hj (by rw [eq0 _ _ (by omega)]; exact hb)
        · rw [e18]; exact cm j hj (by rw [b4.1 _ _ (by unfold frLW; omega), eq0 _ _ (by omega)]; exact hb)
      · rw [f2]; simp (disch := omega) only [gi_s0, gi_s1, gi_s2, gj_s0, gj_s1, gj_s2, gi_f0, gi_f1, gj_f0, gj_f1, gr_r0, gr_r1, gr_r2, gi_sj, gi_sr, gj_si, gj_sr, gr_si, gr_sj, gr_stI, gj_stI, gi_stJ, gr_stJ]; exact hx
      · rw [f3]; simp (disch := omega) only [gi_s0, gi_s1, gi_s2, gj_s0, gj_s1, gj_s2, gi_f0, gi_f1, gj_f0, gj_f1, gr_r0, gr_r1, gr_r2, gi_sj, gi_sr, gj_si, gj_sr, gr_si, gr_sj, gr_stI, gj_stI, gi_stJ, gr_stJ]; rw [e2.1 _ _ (by unfold frG; omega)]; simp (disch := omega) only [gi_s0, gi_s1, gi_s2, gj_s0, gj_s1, gj_s2, gi_f0, gi_f1, gj_f0, gj_f1, gr_r0, gr_r1, gr_r2, gi_sj, gi_sr, gj_si, gj_sr, gr_si, gr_sj, gr_stI, gj_stI, gi_stJ, gr_stJ]
  refine ⟨fun z => go 0 ?_, fun z => go 2 ?_⟩
  · cases hb : anyT (vw g st) asd with
    | false => rfl
    | true => rw [hb] at z; simp at z
  · cases hb : anyT (vw g st) asd with
    | true => rfl
    | false => rw [hb] at z; simp at z
end
/-! THE ABSTRACT STATE: tape, fault, page and state, what can be undone, images, trays, drawer -/
abbrev AS : Type := (Nat × (Nat → Int)) × (Int × Int) × (PG × (Nat → Int)) × List (Nat → Int) × (Nat → Option (PG × (Nat → Int))) × ((Nat → Int) × (Nat → Int) × (Nat → Int)) × (Int × Int × (Nat → Int) × (Nat → Int))
def A_n (A : AS) : Nat := A.1.1
def A_tp (A : AS) : Nat → Int := A.1.2
def A_fa (A : AS) : Int := A.2.1.1
def A_fp (A : AS) : Int := A.2.1.2
def A_g (A : AS) : PG := A.2.2.1.1
def A_st (A : AS) : Nat → Int := A.2.2.1.2
def A_pa (A : AS) : List (Nat → Int) := A.2.2.2.1
def A_im (A : AS) : Nat → Option (PG × (Nat → Int)) := A.2.2.2.2.1
def A_so (A : AS) : Nat → Int := A.2.2.2.2.2.1.1
def A_sz (A : AS) : Nat → Int := A.2.2.2.2.2.1.2.1
def A_vl (A : AS) : Nat → Int := A.2.2.2.2.2.1.2.2
def A_dk (A : AS) : Int := A.2.2.2.2.2.2.1
def A_dm (A : AS) : Int := A.2.2.2.2.2.2.2.1
def A_kx (A : AS) : Nat → Int := A.2.2.2.2.2.2.2.2.1
def A_ky (A : AS) : Nat → Int := A.2.2.2.2.2.2.2.2.2
def AOK (A : AS) : Prop := POK (A_g A) ∧ SOK (A_g A) (A_st A) ∧ ((∀ s ∈ A_pa A, SOK (A_g A) s) ∧ (A_pa A).length ≤ 10) ∧ (∀ i gs, A_im A i = some gs → POK gs.1 ∧ SOK gs.1 gs.2) ∧ (A_n A ≤ 900 ∧ ∀ i, 0 ≤ A_tp A i ∧ A_tp A i ≤ 255) ∧ (∀ i, -1 ≤ A_so A i ∧ A_so A i ≤ 3 ∧ 0 ≤ A_sz A i ∧ A_sz A i ≤ 40) ∧ (-1 ≤ A_dk A ∧ A_dk A ≤ 2 ∧ 0 ≤ A_dm A ∧ A_dm A ≤ 9 ∧ ∀ j, -1 ≤ A_kx A j)
def sb (x : Int) : Int := if x < 128 then x else x - 256
def pg (b : Nat) : Nat := 130 + 20 * b
/-- what can be undone: the latest first -/
def CPa (h : PH) (pa : List (Nat → Int)) : Prop := ∃ n : Nat, n < 10 ∧ gi h 75 1 = n ∧ gi h 75 2 = pa.length ∧ ∀ i, i < pa.length → StV h (77 + 4 * ((n + 9 - i) % 10)) (pa.getD i (fun _ => 0))
def CIm (h : PH) (pt : Nat → PG) (im : Nat → Option (PG × (Nat → Int))) : Prop := ∀ i, i < 2 → (im i = none → gi h 117 i = -1) ∧ (∀ gs, im i = some gs → ∃ b : Nat, b < 4 ∧ gi h 117 i = b ∧ pt b = gs.1 ∧ RCp h (pg b) (pt b) ∧ StV h (210 + 4 * i) gs.2)
def CSe (h : PH) (a : Nat) (g : PG) (st : Nat → Int) : Prop := gi h 64 12 = 0 ∨ (gi h 64 12 = 1 ∧ StC h 219 (pg a) 67 (st 19).toNat (vw g st) (g_wi g) ∧ DN h 219 (vw g st) (g_wi g) (-1) ∧ PO h 219 (vw g st) (g_wi g) (fH (vw g st) (g_wi g) (-1)) (g_ln g) ∧ bit (gi h (pg a) 17) (st 19).toNat = true ∧ bit (gi h (pg a) 18) (st 19).toNat = true)
def CTr (h : PH) (A : AS) : Prop := (∀ i, i < 4 → (A_so A i = -1 → gi h 126 i = -1) ∧ (A_so A i ≠ -1 → gi h 125 i = A_so A i ∧ gi h 126 i = A_sz A i)) ∧ ∀ j, j < 160 → gj h 124 j = A_vl A j
def CDr (h : PH) (A : AS) : Prop := (A_dk A = -1 → gi h 127 1 = -1) ∧ (A_dk A ≠ -1 → gi h 127 0 = A_dk A ∧ gi h 127 1 = A_dm A) ∧ ∀ j, j < 9 → gi h 128 j = A_kx A j ∧ gi h 129 j = A_ky A j
def RCa (h : PH) (A : AS) (a : Nat) (pt : Nat → PG) : Prop := AOK A ∧ (a < 4 ∧ gi h 64 4 = a ∧ pt a = A_g A) ∧ (gi h 64 1 = A_n A ∧ ∀ i, i < A_n A → gi h 65 i = sb (A_tp A i)) ∧ (gi h 218 8 = A_fa A ∧ gi h 218 9 = A_fp A) ∧ RCp h (pg a) (pt a) ∧ StV h 67 (A_st A) ∧ CPa h (A_pa A) ∧ CIm h pt (A_im A) ∧ CSe h a (A_g A) (A_st A) ∧ CTr h A ∧ CDr h A
def RC (h : PH) (A : AS) : Prop := ∃ a pt, RCa h A a pt
theorem pg_cl {b : Nat} (h : b < 4) : CLf (pg b) = 4 ∧ pg b ≤ 190 ∧ 130 ≤ pg b := by
  have : b = 0 ∨ b = 1 ∨ b = 2 ∨ b = 3 := by omega
  rcases this with rfl | rfl | rfl | rfl <;> exact ⟨by decide, by decide, by decide⟩
theorem cl219 : CLf 219 = 7 := by decide
theorem cl220 : CLf 220 = 8 := by decide
theorem cl233 : CLf 233 = 7 := by decide
theorem cl234 : CLf 234 = 8 := by decide
theorem cl67 : CLf 67 = 9 := by decide
theorem cl71 : CLf 71 = 9 := by decide
/-- what a trial may change -/
def frZ (p : Nat) : Nat → Nat → Prop := fun q k => (233 ≤ q ∧ q ≤ 246) ∨ (71 ≤ q ∧ q ≤ 74) ∨ (119 ≤ q ∧ q ≤ 122) ∨ (q = 64 ∧ 16 ≤ k) ∨ (q = p ∧ (k = 17 ∨ k = 18)) ∨ q = p + 12 ∨ q = p + 13 ∨ (p + 16 ≤ q ∧ q ≤ p + 19)
theorem DN.keep {h h' : PH} {t : Nat} {v : VW} {wi asd : Int} (a : DN h t v wi asd) (e : ∀ q k, t ≤ q → q ≤ t + 13 → gi h' q k = gi h q k) : DN h' t v wi asd := by
  obtain ⟨⟨r1, ⟨n, r2⟩, r3, r4⟩, r5, r6⟩ := a
  refine ⟨⟨fun i hi => ?_, ⟨n, r2.keep (fun q k z => e q k (by omega) (by omega))⟩, fun a ha i hi => ?_, ?_⟩, ?_, ?_⟩
  · rw [e _ _ (by omega) (by omega), e _ _ (by omega) (by omega)]; exact r1 i hi
  · rw [e _ _ (by omega) (by omega)]; exact r3 a ha i hi
  · rw [e _ _ (by omega) (by omega)]; exact r4
  · rw [e _ _ (by omega) (by omega)]; exact r5
  · rw [e _ _ (by omega) (by omega)]; exact r6
theorem RCa.keepZ {h h' : PH} {A : AS} {a : Nat} {pt : Nat → PG} (x : RCa h A a pt) (hF : fr (frZ (pg a)) h h') (hR : RCp h' (pg a) (pt a)) (hk : knw h h' (pg a)) : RCa h' A a pt := by
  obtain ⟨ok, ⟨a1, a2, a3⟩, ⟨b1, b2⟩, ⟨c1, c2⟩, d1, e1, f1, g1, s1, t1, u1⟩ := x
  obtain ⟨pc, pu, pl⟩ := pg_cl a1
  have okst := ok.2.1
  have G : ∀ q k, ¬ frZ (pg a) q k → gi h' q k = gi h q k := hF.1
  have es : ∀ q k, q < 71 → q ≠ 64 → gi h' q k = gi h q k := fun q k z z2 => G _ _ (by unfold frZ; omega)
  have hst : StV h' 67 (A_st A) := e1.keep (fun q k z1 z2 => es _ _ (by omega) (by omega))
  refine ⟨ok, ⟨a1, by rw [G _ _ (by unfold frZ; omega)]; exact a2, a3⟩, ⟨by rw [G _ _ (by unfold frZ; omega)]; exact b1, fun i hi => by rw [es _ _ (by omega) (by omega)]; exact b2 i hi⟩, ⟨by rw [G _ _ (by unfold frZ; omega)]; exact c1, by rw [G _ _ (by unfold frZ; omega)]; exact c2⟩, hR, hst, ?_, fun i hi => ⟨fun z => ?_, fun gs z => ?_⟩, ?_, ⟨fun i hi => ⟨fun z => ?_, fun z => ?_⟩, fun j hj => ?_⟩, ⟨fun z => ?_, fun z => ?_, fun j hj => ?_⟩⟩
  · obtain ⟨n, n1, n2, n3, n4⟩ := f1
    refine ⟨n, n1, by rw [G _ _ (by unfold frZ; omega)]; exact n2, by rw [G _ _ (by unfold frZ; omega)]; exact n3, fun i hi => (n4 i hi).keep (fun q k z1 z2 => G _ _ (by unfold frZ; omega))⟩
  · rw [G _ _ (by unfold frZ; omega)]; exact (g1 i hi).1 z
  · obtain ⟨b, q1, q2, q3, q4, q5⟩ := (g1 i hi).2 gs z
    refine ⟨b, q1, by rw [G _ _ (by unfold frZ; omega)]; exact q2, q3, ?_, q5.keep (fun q k z1 z2 => G _ _ (by unfold frZ; omega))⟩
    by_cases eb : b = a
    · subst eb; exact hR
    · refine q4.keep (fun q k z1 z2 => G _ _ ?_)
      unfold frZ; unfold pg at *; omega
  · rcases s1 with z | ⟨z0, z1, z2, z3, z4, z5⟩
    · left; rw [G _ _ (by unfold frZ; omega)]; exact z
    · right
      have k1 := hk.1 _ (by have := okst.2.2.2.2; omega) z4
      have k2 := hk.2 _ (by have := okst.2.2.2.2; omega) z5
      have e219 : ∀ q k, 219 ≤ q → q ≤ 232 → gi h' q k = gi h q k := fun q k y1 y2 => G _ _ (by unfold frZ; omega)
      obtain ⟨x1, ⟨x2, x3, x4⟩, x5, x6, x7⟩ := z1
      refine ⟨by rw [G _ _ (by unfold frZ; omega)]; exact z0, ⟨x1, ⟨?_, ?_, ?_⟩, vcl_of (by rw [← a3]; exact hR) hst okst ok.1 k1 k2, x6, x7⟩, z2.keep (fun q k y1 y2 => e219 q k y1 (by omega)), z3.keep (fun q k y => e219 q k (by omega) (by omega)), k1, k2⟩
      · rw [hF.2.2 _ _ (by unfold frZ; omega)]; exact x2
      · rw [hF.2.2 _ _ (by unfold frZ; omega)]; exact x3
      · rw [e219 _ _ (by omega) (by omega)]; exact x4
  · rw [G _ _ (by unfold frZ; omega)]; exact (t1.1 i hi).1 z
  · rw [G _ _ (by unfold frZ; omega), G _ _ (by unfold frZ; omega)]; exact (t1.1 i hi).2 z
  · rw [hF.2.1 _ _ (by unfold frZ; omega)]; exact t1.2 j hj
  · rw [G _ _ (by unfold frZ; omega)]; exact u1.1 z
  · rw [G _ _ (by unfold frZ; omega), G _ _ (by unfold frZ; omega)]; exact u1.2.1 z
  · rw [G _ _ (by unfold frZ; omega), G _ _ (by unfold frZ; omega)]; exact u1.2.2 j hj
/-- all that the class may change -/
def frCl : Nat → Nat → Prop := fun q _ => q < 247
section
variable {d : Nat} {h : PH} {Q : Option PV → PH → Prop}
variable {A : AS} {a : Nat} {pt : Nat → PG}
theorem c_current (X : RCa h A a pt) (hq : Q (some (vR (pg a))) h) : C2 d mX10_current [vR 64] h Q := by
  refine EX10_current (BX10_current_0 ?_)
  obtain ⟨-, ⟨a1, a2, a3⟩, -⟩ := X
  rw [a2]
  refine ⟨⟨by omega, by omega⟩, ?_⟩
  try simp only [Int.toNat_natCast]
  exact hq
theorem c_isShape (X : RCa h A a pt) {s : Int} (hq : Q (some (vI (if 0 ≤ s ∧ s < g_S (A_g A) then 1 else 0))) h) : C2 (d + 1) mX10_isShape [vR 64, vI s] h Q := by
  have e5 : gi h (pg a) 5 = g_S (A_g A) := by rw [X.2.2.2.2.1.1.2.2.2.2.2.1, X.2.1.2.2]
  refine EX10_isShape fun _ => BX10_isShape_0 ⟨fun z => by rw [if_neg (by omega)] at hq; exact hq, fun z => c_current X ⟨(pg_cl X.2.1.1).1, ?_⟩⟩
  rw [e5]
  exact ⟨fun y => by rw [if_neg (by omega)] at hq; exact hq, fun y => by rw [if_pos ⟨z, y⟩] at hq; exact hq⟩
end
