/-! PAGES: what they tell, as the class holds them; what is learned -/
abbrev PG : Type := (Int × Nat × Int × Int × Int × Nat × Nat) × (Nat → Int) × (Nat → Int) × (Nat → Int) × (Nat → Int) × (Nat → Int) × List Int × List Int
def g_wi (g : PG) : Int := g.1.1
def g_ln (g : PG) : Nat := g.1.2.1
def g_hi (g : PG) : Int := g.1.2.2.1
def g_le (g : PG) : Int := g.1.2.2.2.1
def g_to (g : PG) : Int := g.1.2.2.2.2.1
def g_S (g : PG) : Nat := g.1.2.2.2.2.2.1
def g_W (g : PG) : Nat := g.1.2.2.2.2.2.2
def g_kd (g : PG) : Nat → Int := g.2.1
def g_ac (g : PG) : Nat → Int := g.2.2.1
def g_tl (g : PG) : Nat → Int := g.2.2.2.1
def g_lt (g : PG) : Nat → Int := g.2.2.2.2.1
def g_fi (g : PG) : Nat → Int := g.2.2.2.2.2.1
def g_wl (g : PG) : List Int := g.2.2.2.2.2.2.1
def g_gl (g : PG) : List Int := g.2.2.2.2.2.2.2
def eW (ink size w fi : Int) : Nat → Int := fun i => if i = 0 then ink else if i = 1 then size else if i = 2 then w else if i = 3 then fi else 0
def eG (ink s l : Int) : Nat → Int := fun i => if i = 0 then ink else if i = 4 then s else if i = 5 then l else 0
def widA (g : PG) (ink w : Nat) : Int := max 1 (min 200 (if g_wl g = [] then g_lt g w else lawV (g_wl g) (eW ink (g_lt g w) w (g_fi g w))))
def gapA (g : PG) (ink s l : Nat) : Int := max 0 (min 20 (if g_gl g = [] then 0 else lawV (g_gl g) (eG ink s l)))
def POK (g : PG) : Prop := (10 ≤ g_wi g ∧ g_wi g ≤ 200 ∧ 1 ≤ g_ln g ∧ g_ln g ≤ 20 ∧ 1 ≤ g_hi g ∧ g_hi g ≤ 20 ∧ 1 ≤ g_le g ∧ g_le g ≤ 50 ∧ g_S g ≤ 6 ∧ g_W g ≤ 30 ∧ 0 ≤ g_to g ∧ g_to g ≤ 2000) ∧
  (∀ s, s < g_S g → 0 ≤ g_kd g s ∧ g_kd g s ≤ 2 ∧ 1 ≤ g_ac g s ∧ g_ac g s ≤ 200 ∧ (g_kd g s ≠ 0 → g_ac g s ≤ 100) ∧ (g_kd g s ≠ 1 → 1 ≤ g_tl g s ∧ g_tl g s ≤ 200) ∧ 0 ≤ g_tl g s ∧ g_tl g s ≤ 200) ∧
  (∀ w, w < g_W g → 1 ≤ g_lt g w ∧ g_lt g w ≤ 12 ∧ 1 ≤ g_fi g w ∧ g_fi g w ≤ 26) ∧
  (g_wl g = [] ∨ WT true (g_wl g) false 64) ∧ (g_gl g = [] ∨ WT false (g_gl g) false 64)
def SOK (g : PG) (st : Nat → Int) : Prop := (∀ s, s < 6 → 0 ≤ st s ∧ st s ≤ 200 ∧ 0 ≤ st (6 + s) ∧ st (6 + s) ≤ 400 ∧ -1 ≤ st (12 + s) ∧ st (12 + s) ≤ 29) ∧ (∀ s, g_S g ≤ s → s < 6 → st (12 + s) = -1) ∧ (∀ w, g_W g ≤ w → bit (st 18) w = false) ∧ R32 (st 18) ∧ 0 ≤ st 19 ∧ st 19 ≤ 9
def vw (g : PG) (st : Nat → Int) : VW := ((g_ln g, g_hi g, g_le g, g_S g, g_W g), g_kd g, g_ac g, g_tl g, st, (fun s => st (6 + s)), (fun s => st (12 + s)), (fun w => bit (st 18) w), (fun w => widA g (st 19).toNat w), fun s l => gapA g (st 19).toNat s l)
theorem vw_ok {g : PG} {st : Nat → Int} (hg : POK g) (hs : SOK g st) : VOK (vw g st) := by
  obtain ⟨g1, g2, g3, g4, g5⟩ := hg
  obtain ⟨s1, s2, s3, s4, s5, s6⟩ := hs
  refine ⟨⟨g1.2.2.1, g1.2.2.2.1, g1.2.2.2.2.1, g1.2.2.2.2.2.1, g1.2.2.2.2.2.2.1, g1.2.2.2.2.2.2.2.1, g1.2.2.2.2.2.2.2.2.1, g1.2.2.2.2.2.2.2.2.2.1⟩, fun s hs => ?_, fun w hw => ?_, fun s l hs hl => ?_⟩
  · have hs' : s < g_S g := hs
    obtain ⟨a1, a2, a3, a4, a5, a6, a7, a8⟩ := g2 s hs'
    obtain ⟨b1, b2, b3, b4, b5, b6⟩ := s1 s (by omega)
    exact ⟨a1, a2, a3, a4, a5, a6, a7, a8, b1, b2, b3, b4, b5, b6⟩
  · show 1 ≤ widA g (st 19).toNat w ∧ widA g (st 19).toNat w ≤ 200
    unfold widA; omega
  · show 0 ≤ gapA g (st 19).toNat s l ∧ gapA g (st 19).toNat s l ≤ 20
    unfold gapA; omega
theorem enO_W {ink size w fi : Int} (h1 : 0 ≤ ink ∧ ink ≤ 1000) (h2 : 0 ≤ size ∧ size ≤ 1000) (h3 : 0 ≤ w ∧ w ≤ 1000) (h4 : 0 ≤ fi ∧ fi ≤ 1000) : enO (eW ink size w fi) := fun i => by
  unfold eW
  split
  · omega
  · split
    · omega
    · split
      · omega
      · split <;> omega
theorem enO_G {ink s l : Int} (h1 : 0 ≤ ink ∧ ink ≤ 1000) (h2 : 0 ≤ s ∧ s ≤ 1000) (h3 : 0 ≤ l ∧ l ≤ 1000) : enO (eG ink s l) := fun i => by
  unfold eG
  split
  · omega
  · split
    · omega
    · split <;> omega
/-- a page of the class -/
def RCp (h : PH) (p : Nat) (g : PG) : Prop :=
  (gi h p 0 = g_wi g ∧ gi h p 1 = g_ln g ∧ gi h p 2 = g_hi g ∧ gi h p 3 = g_le g ∧ gi h p 4 = g_to g ∧ gi h p 5 = g_S g ∧ gi h p 9 = g_W g) ∧
  (∀ i, i < g_S g → gi h (p + 1) i = g_kd g i ∧ gi h (p + 2) i = g_ac g i ∧ gi h (p + 3) i = g_tl g i) ∧ (∀ w, w < g_W g → gi h (p + 4) w = g_lt g w ∧ gi h (p + 5) w = g_fi g w) ∧
  LawC h (p + 10) (g_wl g) ∧ LawC h (p + 14) (g_gl g) ∧
  (∀ ink : Nat, ink ≤ 9 → bit (gi h p 17) ink = true → ∀ w, w < g_W g → gi h (p + 18) (ink * 30 + w) = widA g ink w) ∧
  (∀ ink : Nat, ink ≤ 9 → bit (gi h p 18) ink = true → ∀ s l, s < g_S g → l < g_ln g → gi h (p + 19) ((ink * 6 + s) * 20 + l) = gapA g ink s l)
theorem LawC.keep {h h' : PH} {a : Nat} {cs : List Int} (x : LawC h a cs) (e0 : gi h' a 3 = gi h a 3) (e : ∀ k, gi h' (a + 1) k = gi h (a + 1) k) : LawC h' a cs := ⟨e0.trans x.1, x.2.1, fun i hi => (e i).trans (x.2.2 i hi)⟩
theorem RCp.keep {h h' : PH} {p : Nat} {g : PG} (a : RCp h p g) (e : ∀ q k, p ≤ q → q ≤ p + 19 → gi h' q k = gi h q k) : RCp h' p g := by
  obtain ⟨⟨a1, a2, a3, a4, a5, a6, a7⟩, b, c, l1, l2, k1, k2⟩ := a
  have ep : ∀ j k, j ≤ 19 → gi h' (p + j) k = gi h (p + j) k := fun j k hj => e _ _ (by omega) (by omega)
  have ep0 : ∀ k, gi h' p k = gi h p k := fun k => ep 0 k (by omega)
  refine ⟨⟨by rw [ep0]; exact a1, by rw [ep0]; exact a2, by rw [ep0]; exact a3, by rw [ep0]; exact a4, by rw [ep0]; exact a5, by rw [ep0]; exact a6, by rw [ep0]; exact a7⟩, fun i hi => ?_, fun w hw => ?_, l1.keep (ep 10 _ (by omega)) (fun k => ep 11 _ (by omega)), l2.keep (ep 14 _ (by omega)) (fun k => ep 15 _ (by omega)), fun ink hi hb w hw => ?_, fun ink hi hb s l hs hl => ?_⟩
  · rw [ep 1 i (by omega), ep 2 i (by omega), ep 3 i (by omega)]; exact b i hi
  · rw [ep 4 w (by omega), ep 5 w (by omega)]; exact c w hw
  · rw [ep0] at hb; rw [ep 18 _ (by omega)]; exact k1 ink hi hb w hw
  · rw [ep0] at hb; rw [ep 19 _ (by omega)]; exact k2 ink hi hb s l hs hl
section
variable {d : Nat} {h : PH} {Q : Option PV → PH → Prop}
def frO (a : Nat) : Nat → Nat → Prop := fun q _ => q = a + 2 ∨ q = a + 3
theorem c_tell {a : Nat} {W : Bool} (ca : CLf a = 3) {cs : List Int} (hL : LawC h a cs) (hw : WT W cs false 64) {i0 i1 i2 i3 : Int} {e : Nat → Int} (he : enO e) (h0 : i0 = e 0) (hW : W = true → i1 = e 1 ∧ i2 = e 2 ∧ i3 = e 3) (hG : W = false → i1 = e 4 ∧ i2 = e 5) (hq : ∀ h', fr (frO a) h h' → Q (some (vI (lawV cs e))) h') : C2 (d + 2) mX2_tell [vR a, vI i0, vI i1, vI i2, vI i3] h Q := by
  refine EX2_tell fun _ _ _ _ => BX2_tell_0 ca (fun h1 e1 h2 e2 h3 e3 h4 e4 => ?_)
  subst e1 e2 e3 e4
  have hF : fr (frO a) h (si (si (si (si h (a + 2) 0 i0) (a + 2) 1 i1) (a + 2) 2 i2) (a + 2) 3 i3) := (((fr.rf.si (Or.inl rfl)).si (Or.inl rfl)).si (Or.inl rfl)).si (Or.inl rfl)
  refine tell_loop (e := e) (W := W) ca (cs := cs) (hL.keep (hF.1 _ _ (by unfold frO; omega)) (fun k => hF.1 _ _ (by unfold frO; omega))) ⟨?_, fun z => ⟨?_, ?_, ?_⟩, fun z => ⟨?_, ?_⟩⟩ he hw.1 (fun h' hF' => hq h' (hF.tr (hF'.mono (fun q k z => Or.inr z)))) cs.length 0 [] _ (by omega) (hw.val (Nat.le_refl _) he).1 trivial (fun x hx => by cases hx) (by simp) fr.rf
  · simp (disch := omega) only [gi_s0, gi_s1, gi_s2, gj_s0, gj_s1, gj_s2, gi_f0, gi_f1, gj_f0, gj_f1, gr_r0, gr_r1, gr_r2, gi_sj, gi_sr, gj_si, gj_sr, gr_si, gr_sj, gr_stI, gj_stI, gi_stJ, gr_stJ]; exact h0
  · simp (disch := omega) only [gi_s0, gi_s1, gi_s2, gj_s0, gj_s1, gj_s2, gi_f0, gi_f1, gj_f0, gj_f1, gr_r0, gr_r1, gr_r2, gi_sj, gi_sr, gj_si, gj_sr, gr_si, gr_sj, gr_stI, gj_stI, gi_stJ, gr_stJ]; exact (hW z).1
  · simp (disch := omega) only [gi_s0, gi_s1, gi_s2, gj_s0, gj_s1, gj_s2, gi_f0, gi_f1, gj_f0, gj_f1, gr_r0, gr_r1, gr_r2, gi_sj, gi_sr, gj_si, gj_sr, gr_si, gr_sj, gr_stI, gj_stI, gi_stJ, gr_stJ]; exact (hW z).2.1
  · simp (disch := omega) only [gi_s0, gi_s1, gi_s2, gj_s0, gj_s1, gj_s2, gi_f0, gi_f1, gj_f0, gj_f1, gr_r0, gr_r1, gr_r2, gi_sj, gi_sr, gj_si, gj_sr, gr_si, gr_sj, gr_stI, gj_stI, gi_stJ, gr_stJ]; exact (hW z).2.2
  · simp (disch := omega) only [gi_s0, gi_s1, gi_s2, gj_s0, gj_s1, gj_s2, gi_f0, gi_f1, gj_f0, gj_f1, gr_r0, gr_r1, gr_r2, gi_sj, gi_sr, gj_si, gj_sr, gr_si, gr_sj, gr_stI, gj_stI, gi_stJ, gr_stJ]; exact (hG z).1
  · simp (disch := omega) only [gi_s0, gi_s1, gi_s2, gj_s0, gj_s1, gj_s2, gi_f0, gi_f1, gj_f0, gj_f1, gr_r0, gr_r1, gr_r2, gi_sj, gi_sr, gj_si, gj_sr, gr_si, gr_sj, gr_stI, gj_stI, gi_stJ, gr_stJ]; exact (hG z).2
theorem c_within {x lo up : Int} (hq : Q (some (vI (max lo (min up x)))) h) : C2 (d + 1) mX2_within [vI x, vI lo, vI up] h Q :=
  EX2_within fun _ _ _ => BX2_within_0 (c_min fun _ => c_max fun _ => hq)
def frLW (p ink : Nat) : Nat → Nat → Prop := fun q k => (q = p ∧ k = 17) ∨ q = p + 12 ∨ q = p + 13 ∨ (q = p + 18 ∧ ink * 30 ≤ k ∧ k < ink * 30 + 30)
def frLG (p ink : Nat) : Nat → Nat → Prop := fun q k => (q = p ∧ k = 18) ∨ q = p + 16 ∨ q = p + 17 ∨ (q = p + 19 ∧ ink * 120 ≤ k ∧ k < ink * 120 + 120)
theorem lenz {l : List Int} (h : (l.length : Int) = 0) : l = [] := by cases l with
  | nil => rfl
  | cons a t => simp at h; omega
theorem lenp {l : List Int} (h : (l.length : Int) ≠ 0) : l ≠ [] := fun e => h (by rw [e]; rfl)
theorem wides_loop {p ink : Nat} {g : PG} {B : Int} (cp : CLf p = 4) (hR : RCp h p g) (ok : POK g) (hi : ink ≤ 9) (hq : ∀ h', (∀ w, w < g_W g → gi h' (p + 18) (ink * 30 + w) = widA g ink w) → gi h' p 17 = B → fr (frLW p ink) h h' → Q none h') :
    ∀ (m w : Nat) (h1 : PH), w + m = g_W g → (∀ j, j < w → gi h1 (p + 18) (ink * 30 + j) = widA g ink j) → gi h1 p 17 = B → fr (frLW p ink) h h1 → T2 (d + 3) mX3_learnWides 26 [some (vR p), some (vI (ink : Int)), some (vI (w : Int)), none] [] h1 Q := by
  obtain ⟨⟨a1, a2, a3, a4, a5, a6, a7⟩, b, c, l1, l2, k1, k2⟩ := hR
  obtain ⟨ok1, ok2, ok3, ok4, ok5⟩ := ok
  intro m
  induction m with
  | zero =>
    intro w h1 hw hj hB hF
    refine BX3_learnWides_26 cp ⟨fun _ => ?_, fun z => by rw [hF.1 p 9 (by unfold frLW; omega), a7] at z; omega⟩
    exact hq h1 (fun j hj2 => hj j (by omega)) hB hF
  | succ m ih =>
    intro w h1 hw hj hB hF
    have hww : w < g_W g := by omega
    obtain ⟨t1, t2, t3, t4⟩ := ok3 w hww
    obtain ⟨c1, c2⟩ := c w hww
    have fin : ∀ (x : Int) (h2 : PH), max 1 (min 200 x) = widA g ink w → fr (frO (p + 10)) h1 h2 → T2 (d + 3) mX3_learnWides 74 [some (vR p), some (vI (ink : Int)), some (vI (w : Int)), none] [vI x] h2 Q := by
      intro x h2 hx hF2
      refine BX3_learnWides_74 cp (c_within fun _ => ?_)
      rw [hx, w32_r (x := (ink : Int) * 30) (by omega) (by omega), w32_r (x := (ink : Int) * 30 + w) (by omega) (by omega), w32_r (x := (w : Int) + 1) (by omega) (by omega), show ((w : Int) + 1) = ((w + 1 : Nat) : Int) by omega, show ((ink : Int) * 30 + (w : Int)).toNat = ink * 30 + w by omega]
      refine ⟨⟨by omega, by omega⟩, fun h3 e3 => ?_⟩
      subst e3
      refine ih (w + 1) _ (by omega) (fun j hj2 => ?_) (by simp (disch := omega) only [gi_s0, gi_s1, gi_s2]; rw [hF2.1 _ _ (by unfold frO; omega)]; exact hB) ((hF.tr (hF2.mono (fun q k z => by unfold frO at z; unfold frLW; omega))).si (by unfold frLW; omega))
      by_cases e : j = w
      · subst e; simp (disch := omega) only [gi_s0, gi_s1, gi_s2, gj_s0, gj_s1, gj_s2, gi_f0, gi_f1, gj_f0, gj_f1, gr_r0, gr_r1, gr_r2, gi_sj, gi_sr, gj_si, gj_sr, gr_si, gr_sj, gr_stI, gj_stI, gi_stJ, gr_stJ]
      · simp (disch := omega) only [gi_s0, gi_s1, gi_s2, gj_s0, gj_s1, gj_s2, gi_f0, gi_f1, gj_f0, gj_f1, gr_r0, gr_r1, gr_r2, gi_sj, gi_sr, gj_si, gj_sr, gr_si, gr_sj, gr_stI, gj_stI, gi_stJ, gr_stJ]; rw [hF2.1 _ _ (by unfold frO; omega)]; exact hj j (by omega)
    refine BX3_learnWides_26 cp ⟨fun z => by rw [hF.1 p 9 (by unfold frLW; omega), a7] at z; omega, fun _ => ?_⟩
    simp only [Int.toNat_natCast]
    rw [hF.1 (p + 10) 3 (by unfold frLW; omega), l1.1, hF.1 (p + 4) w (by unfold frLW; omega), c1, hF.1 (p + 5) w (by unfold frLW; omega), c2]
    refine ⟨fun z => ⟨⟨by omega, by omega⟩, ⟨by omega, by omega⟩, ?_⟩, fun z => ⟨⟨by omega, by omega⟩, ?_⟩⟩
    · have hne := lenp z
      have hwt : WT true (g_wl g) false 64 := ok4.resolve_left hne
      refine c_tell (rf_3_13 cp) (l1.keep (hF.1 _ _ (by unfold frLW; omega)) (fun k => hF.1 _ _ (by unfold frLW; omega))) hwt (e := eW ink (g_lt g w) w (g_fi g w)) (enO_W (by omega) (by omega) (by omega) (by omega)) rfl (fun _ => ⟨rfl, rfl, rfl⟩) (fun z => by cases z) (fun h2 hF2 _ => fin _ h2 ?_ hF2)
      unfold widA; rw [if_neg hne]
    · have hnil := lenz z
      refine fin _ h1 ?_ fr.rf
      unfold widA; rw [if_pos hnil]
theorem known_ior {a : Int} {i j : Nat} (hi : i < 32) (hj : j < 32) : bit (ior a (ishl 1 (i : Int))) j = (bit a j || decide (j = i)) := by rw [bit_ior, bit_shl1 hi hj]
theorem c_learnWides {p ink : Nat} {g : PG} (cp : CLf p = 4) (hR : RCp h p g) (ok : POK g) (hi : ink ≤ 9) (hq : ∀ h', RCp h' p g → bit (gi h' p 17) ink = true → (∀ j, j ≤ 9 → bit (gi h p 17) j = true → bit (gi h' p 17) j = true) → fr (frLW p ink) h h' → Q none h') : C2 (d + 3) mX3_learnWides [vR p, vI (ink : Int)] h Q := by
  refine EX3_learnWides fun _ => BX3_learnWides_0 cp ?_
  rw [bit_ask (by omega)]
  refine ⟨fun z h1 e1 => ?_, fun z => ?_⟩
  · subst e1
    have hF1 : fr (frLW p ink) h (si h p 17 (ior (gi h p 17) (ishl 1 (ink : Int)))) := fr.rf.si (by unfold frLW; omega)
    have hb0 : bit (gi h p 17) ink = false := by
      cases hb : bit (gi h p 17) ink with
      | false => rfl
      | true => rw [hb] at z; simp at z
    obtain ⟨⟨a1, a2, a3, a4, a5, a6, a7⟩, b, c, l1, l2, k1, k2⟩ := hR
    have fin : ∀ h', (∀ w, w < g_W g → gi h' (p + 18) (ink * 30 + w) = widA g ink w) → gi h' p 17 = ior (gi h p 17) (ishl 1 (ink : Int)) → fr (frLW p ink) h h' → Q none h' := by
      intro h' hw h17 hF
      have e : ∀ q k, ¬ frLW p ink q k → gi h' q k = gi h q k := hF.1
      refine hq h' ⟨⟨by rw [e _ _ (by unfold frLW; omega)]; exact a1, by rw [e _ _ (by unfold frLW; omega)]; exact a2, by rw [e _ _ (by unfold frLW; omega)]; exact a3, by rw [e _ _ (by unfold frLW; omega)]; exact a4, by rw [e _ _ (by unfold frLW; omega)]; exact a5, by rw [e _ _ (by unfold frLW; omega)]; exact a6, by rw [e _ _ (by unfold frLW; omega)]; exact a7⟩, fun i hi => ?_, fun w hw => ?_, l1.keep (e _ _ (by unfold frLW; omega)) (fun k => e _ _ (by unfold frLW; omega)), l2.keep (e _ _ (by unfold frLW; omega)) (fun k => e _ _ (by unfold frLW; omega)), fun j hj hb w hw2 => ?_, fun j hj hb s l hs hl => ?_⟩ ?_ (fun j hj hb => ?_) hF
      · rw [e _ _ (by unfold frLW; omega), e _ _ (by unfold frLW; omega), e _ _ (by unfold frLW; omega)]; exact b i hi
      · rw [e _ _ (by unfold frLW; omega), e _ _ (by unfold frLW; omega)]; exact c w hw
      · rw [h17, known_ior (by omega) (by omega)] at hb
        by_cases ej : j = ink
        · subst ej; exact hw w hw2
        · have hb2 : bit (gi h p 17) j = true := by simpa [ej] using hb
          have hW := ok.1
          rw [e _ _ (by unfold frLW; omega)]; exact k1 j hj hb2 w hw2
      · rw [e _ _ (by unfold frLW; omega)] at hb
        rw [e _ _ (by unfold frLW; omega)]; exact k2 j hj hb s l hs hl
      · rw [h17, known_ior (by omega) (by omega)]; simp
      · rw [h17, known_ior (by omega) (by omega), hb]; rfl
    exact wides_loop cp ⟨⟨a1, a2, a3, a4, a5, a6, a7⟩, b, c, l1, l2, k1, k2⟩ ok hi fin (g_W g) 0 _ (by omega) (fun j hj => by omega) gi_s0 hF1
  · have hb0 : bit (gi h p 17) ink = true := by
      cases hb : bit (gi h p 17) ink with
      | true => rfl
      | false => rw [hb] at z; simp at z
    exact hq h hR hb0 (fun j _ hb => hb) fr.rf
theorem gaps_in {p ink : Nat} {g : PG} {B : Int} (cp : CLf p = 4) (hR : RCp h p g) (ok : POK g) (hi : ink ≤ 9) {s : Nat} (hs : s < g_S g)
    (hq : ∀ h', (∀ s' l, s' < s + 1 → l < g_ln g → gi h' (p + 19) ((ink * 6 + s') * 20 + l) = gapA g ink s' l) → gi h' p 18 = B → fr (frLG p ink) h h' → T2 (d + 3) mX3_learnGaps 26 [some (vR p), some (vI (ink : Int)), some (vI ((s + 1 : Nat) : Int)), none, none] [] h' Q) :
    ∀ (m l : Nat) (h1 : PH), l + m = g_ln g → (∀ s' l', s' < s ∨ (s' = s ∧ l' < l) → l' < g_ln g → gi h1 (p + 19) ((ink * 6 + s') * 20 + l') = gapA g ink s' l') → gi h1 p 18 = B → fr (frLG p ink) h h1 → T2 (d + 3) mX3_learnGaps 36 [some (vR p), some (vI (ink : Int)), some (vI (s : Int)), some (vI (l : Int)), none] [] h1 Q := by
  obtain ⟨⟨a1, a2, a3, a4, a5, a6, a7⟩, b, c, l1, l2, k1, k2⟩ := hR
  obtain ⟨ok1, ok2, ok3, ok4, ok5⟩ := ok
  intro m
  induction m with
  | zero =>
    intro l h1 hl hj hB hF
    refine BX3_learnGaps_36 cp ⟨fun _ => ?_, fun z => by rw [hF.1 p 1 (by unfold frLG; omega), a2] at z; omega⟩
    rw [w32_r (by omega) (by omega), show ((s : Int) + 1) = ((s + 1 : Nat) : Int) by omega]
    exact hq h1 (fun s' l' h2 h3 => hj s' l' (by omega) h3) hB hF
  | succ m ih =>
    intro l h1 hl hj hB hF
    have fin : ∀ (x : Int) (h2 : PH), max 0 (min 20 x) = gapA g ink s l → fr (frO (p + 14)) h1 h2 → T2 (d + 3) mX3_learnGaps 69 [some (vR p), some (vI (ink : Int)), some (vI (s : Int)), some (vI (l : Int)), none] [vI x] h2 Q := by
      intro x h2 hx hF2
      refine BX3_learnGaps_69 cp (c_within fun _ => ?_)
      rw [hx, w32_r (x := (ink : Int) * 6) (by omega) (by omega), w32_r (x := (ink : Int) * 6 + s) (by omega) (by omega), w32_r (x := ((ink : Int) * 6 + s) * 20) (by omega) (by omega), w32_r (x := ((ink : Int) * 6 + s) * 20 + l) (by omega) (by omega), w32_r (x := (l : Int) + 1) (by omega) (by omega), show ((l : Int) + 1) = ((l + 1 : Nat) : Int) by omega, show (((ink : Int) * 6 + s) * 20 + (l : Int)).toNat = (ink * 6 + s) * 20 + l by omega]
      refine ⟨⟨by omega, by omega⟩, fun h3 e3 => ?_⟩
      subst e3
      refine ih (l + 1) _ (by omega) (fun s' l' hj2 hl' => ?_) (by simp (disch := omega) only [gi_s0, gi_s1, gi_s2]; rw [hF2.1 _ _ (by unfold frO; omega)]; exact hB) ((hF.tr (hF2.mono (fun q k z => by unfold frO at z; unfold frLG; omega))).si (by unfold frLG; omega))
      by_cases e : s' = s ∧ l' = l
      · obtain ⟨rfl, rfl⟩ := e; simp (disch := omega) only [gi_s0, gi_s1, gi_s2]
      · simp (disch := omega) only [gi_s0, gi_s1, gi_s2]; rw [hF2.1 _ _ (by unfold frO; omega)]; exact hj s' l' (by omega) hl'
    refine BX3_learnGaps_36 cp ⟨fun z => by rw [hF.1 p 1 (by unfold frLG; omega), a2] at z; omega, fun _ => ?_⟩
    rw [hF.1 (p + 14) 3 (by unfold frLG; omega), l2.1]
    refine ⟨fun z => ?_, fun z => ?_⟩
    · have hne := lenp z
      have hwt : WT false (g_gl g) false 64 := ok5.resolve_left hne
      refine c_tell (rf_3_14 cp) (l2.keep (hF.1 _ _ (by unfold frLG; omega)) (fun k => hF.1 _ _ (by unfold frLG; omega))) hwt (e := eG ink s l) (enO_G (by omega) (by omega) (by omega)) rfl (fun z => by cases z) (fun _ => ⟨rfl, rfl⟩) (fun h2 hF2 _ => fin _ h2 ?_ hF2)
      unfold gapA; rw [if_neg hne]
    · have hnil := lenz z
      refine fin _ h1 ?_ fr.rf
      unfold gapA; rw [if_pos hnil]
theorem gaps_out {p ink : Nat} {g : PG} {B : Int} (cp : CLf p = 4) (hR : RCp h p g) (ok : POK g) (hi : ink ≤ 9) (hq : ∀ h', (∀ s l, s < g_S g → l < g_ln g → gi h' (p + 19) ((ink * 6 + s) * 20 + l) = gapA g ink s l) → gi h' p 18 = B → fr (frLG p ink) h h' → Q none h') :
    ∀ (m s : Nat) (h1 : PH), s + m = g_S g → (∀ s' l, s' < s → l < g_ln g → gi h1 (p + 19) ((ink * 6 + s') * 20 + l) = gapA g ink s' l) → gi h1 p 18 = B → fr (frLG p ink) h h1 → T2 (d + 3) mX3_learnGaps 26 [some (vR p), some (vI (ink : Int)), some (vI (s : Int)), none, none] [] h1 Q := by
  intro m
  induction m with
  | zero =>
    intro s h1 hs hj hB hF
    refine BX3_learnGaps_26 cp ⟨fun _ => ?_, fun z => by rw [hF.1 p 5 (by unfold frLG; omega), hR.1.2.2.2.2.2.1] at z; omega⟩
    exact hq h1 (fun s' l h2 h3 => hj s' l (by omega) h3) hB hF
  | succ m ih =>
    intro s h1 hs hj hB hF
    refine BX3_learnGaps_26 cp ⟨fun z => by rw [hF.1 p 5 (by unfold frLG; omega), hR.1.2.2.2.2.2.1] at z; omega, fun _ => ?_⟩
    exact gaps_in cp hR ok hi (s := s) (by omega) (fun h' b1 b2 b3 => ih (s + 1) h' (by omega) b1 b2 b3) (g_ln g) 0 h1 (by omega) (fun s' l' h2 h3 => hj s' l' (by omega) h3) hB hF
theorem c_learnGaps {p ink : Nat} {g : PG} (cp : CLf p = 4) (hR : RCp h p g) (ok : POK g) (hi : ink ≤ 9) (hq : ∀ h', RCp h' p g → bit (gi h' p 18) ink = true → gi h' p 17 = gi h p 17 → fr (frLG p ink) h h' → Q none h') : C2 (d + 3) mX3_learnGaps [vR p, vI (ink : Int)] h Q := by
  refine EX3_learnGaps fun _ => BX3_learnGaps_0 cp ?_
  rw [bit_ask (by omega)]
  refine ⟨fun z h1 e1 => ?_, fun z => ?_⟩
  · subst e1
    have hF1 : fr (frLG p ink) h (si h p 18 (ior (gi h p 18) (ishl 1 (ink : Int)))) := fr.rf.si (by unfold frLG; omega)
    obtain ⟨⟨a1, a2, a3, a4, a5, a6, a7⟩, b, c, l1, l2, k1, k2⟩ := hR
    have fin : ∀ h', (∀ s l, s < g_S g → l < g_ln g → gi h' (p + 19) ((ink * 6 + s) * 20 + l) = gapA g ink s l) → gi h' p 18 = ior (gi h p 18) (ishl 1 (ink : Int)) → fr (frLG p ink) h h' → Q none h' := by
      intro h' hw h17 hF
      have e : ∀ q k, ¬ frLG p ink q k → gi h' q k = gi h q k := hF.1
      refine hq h' ⟨⟨by rw [e _ _ (by unfold frLG; omega)]; exact a1, by rw [e _ _ (by unfold frLG; omega)]; exact a2, by rw [e _ _ (by unfold frLG; omega)]; exact a3, by rw [e _ _ (by unfold frLG; omega)]; exact a4, by rw [e _ _ (by unfold frLG; omega)]; exact a5, by rw [e _ _ (by unfold frLG; omega)]; exact a6, by rw [e _ _ (by unfold frLG; omega)]; exact a7⟩, fun i hi => ?_, fun w hw => ?_, l1.keep (e _ _ (by unfold frLG; omega)) (fun k => e _ _ (by unfold frLG; omega)), l2.keep (e _ _ (by unfold frLG; omega)) (fun k => e _ _ (by unfold frLG; omega)), fun j hj hb w hw2 => ?_, fun j hj hb s l hs hl => ?_⟩ ?_ (e _ _ (by unfold frLG; omega)) hF
      · rw [e _ _ (by unfold frLG; omega), e _ _ (by unfold frLG; omega), e _ _ (by unfold frLG; omega)]; exact b i hi
      · rw [e _ _ (by unfold frLG; omega), e _ _ (by unfold frLG; omega)]; exact c w hw
      · rw [e _ _ (by unfold frLG; omega)] at hb
        rw [e _ _ (by unfold frLG; omega)]; exact k1 j hj hb w hw2
      · rw [h17, known_ior (by omega) (by omega)] at hb
        by_cases ej : j = ink
        · subst ej; exact hw s l hs hl
        · have hb2 : bit (gi h p 18) j = true := by simpa [ej] using hb
          have hW := ok.1
          rw [e _ _ (by unfold frLG; omega)]; exact k2 j hj hb2 s l hs hl
      · rw [h17, known_ior (by omega) (by omega)]; simp
    exact gaps_out cp ⟨⟨a1, a2, a3, a4, a5, a6, a7⟩, b, c, l1, l2, k1, k2⟩ ok hi fin (g_S g) 0 _ (by omega) (fun s' l hj => by omega) gi_s0 hF1
  · have hb0 : bit (gi h p 18) ink = true := by
      cases hb : bit (gi h p 18) ink with
      | true => rfl
      | false => rw [hb] at z; simp at z
    exact hq h hR hb0 rfl fr.rf
end
