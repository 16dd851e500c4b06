/-! THE CLASS: a page is poured, round by round -/
theorem CFm.mono {h : PH} {t K w w' : Nat} {F : F4} (a : CFm h t K w F) (hw : w ≤ w') : CFm h t K w' F := by
  obtain ⟨C1, C2, C3, C4, C5, C6, C7, C8⟩ := a
  exact ⟨C1, fun k hk => ⟨(C2 k hk).1, by have := (C2 k hk).2; omega⟩, C3, C4, C5, by omega, C7, fun j hj => C8 j (by omega)⟩
/-- poured, at these heights: n lines are cut -/
def PO (h : PH) (t : Nat) (v : VW) (wi : Int) (ht : Nat → Int) (n : Nat) : Prop := n ≤ v_ln v ∧ SR h (t + 1) (slt v wi ht n) ∧ SP h (t + 1) [] ∧ gi h (t + 1) 6 = n ∧ (∀ l, l < n → gi h (t + 6) l = (slt v wi ht l).length ∧ gi h (t + 6) (l + 1) = (slt v wi ht (l + 1)).length) ∧ CFm h t (slt v wi ht n).length (v_W v) (prd v wi ht).2.2.2
theorem PO.keep {h h' : PH} {t : Nat} {v : VW} {wi : Int} {ht : Nat → Int} {n : Nat} (a : PO h t v wi ht n) (e : ∀ q k, (t + 1 ≤ q ∧ q ≤ t + 10) ∨ (q = t ∧ k = 9) → gi h' q k = gi h q k) : PO h' t v wi ht n := by
  obtain ⟨a1, a2, a3, a4, a5, a6⟩ := a
  obtain ⟨C1, C2, C3, C4, C5, C6, C7, C8⟩ := a6
  refine ⟨a1, a2.keep (e _ _ (by omega)) (fun k => ⟨e _ _ (by omega), e _ _ (by omega), e _ _ (by omega)⟩), ⟨by rw [e _ _ (by omega)]; exact a3.1, a3.2.1, fun i hi => by simp at hi⟩, by rw [e _ _ (by omega)]; exact a4, fun l hl => ?_, ⟨fun j hj => ?_, fun k hk => ?_, C3, C4, by rw [e _ _ (by omega)]; exact C5, C6, C7, C8⟩⟩
  · rw [e _ _ (by omega), e _ _ (by omega)]; exact a5 l hl
  · rw [e _ _ (by omega), e _ _ (by omega)]; exact C1 j hj
  · rw [e _ _ (by omega)]; exact C2 k hk
section
variable {d : Nat} {h : PH} {Q : Option PV → PH → Prop}
variable {t p s ink : Nat} {v : VW} {wi : Int} {ht : Nat → Int}
def frU (t : Nat) : Nat → Nat → Prop := fun q k => (q = t ∧ k = 9) ∨ (t + 1 ≤ q ∧ q ≤ t + 10)
theorem frU_T {t q k : Nat} (z : frU t q k) : frT t q k := by unfold frU at z; unfold frT; omega
theorem prd_f4 : (prd v wi ht).2.2.2 = f4 v (slA v wi ht) 0 0 (s_le (slA v wi ht) 0) (fun _ => -1, fun _ => -1, fun _ => 0, 0) := rfl
theorem pour_in (X0 : StC h t p s ink v wi) {l : Nat} (hl : l < v_ln v)
    (k32 : ∀ (w : Nat) (F : F4) (h' : PH), w ≤ v_W v → f4 v (slA v wi ht) w (slt v wi ht (l + 1)).length (s_le (slA v wi ht) (slt v wi ht (l + 1)).length) F = (prd v wi ht).2.2.2 → CFm h' t (slt v wi ht (l + 1)).length w F → fr (frF t) h h' → T2 (d + 3) mX6_pour 32 [some (vR t), some (vI (w : Int)), some (vI ((l + 1 : Nat) : Int)), none] [] h' Q)
    (hS : SR h (t + 1) (slt v wi ht (l + 1))) :
    ∀ (m i w : Nat) (F : F4) (h1 : PH), i + m = (slt v wi ht (l + 1)).length → w ≤ v_W v → f4 v (slA v wi ht) w i (s_le (slA v wi ht) i) F = (prd v wi ht).2.2.2 → CFm h1 t (slt v wi ht (l + 1)).length w F → fr (frF t) h h1 → T2 (d + 3) mX6_pour 69 [some (vR t), some (vI (w : Int)), some (vI (l : Int)), some (vI (i : Int))] [] h1 Q := by
  have ok := X0.2.2.2.1
  have ok1 := ok.1
  have hsl := slt_len ok X0.2.2.2.2.1 (ht := ht) (l + 1) (by omega)
  intro m
  induction m with
  | zero =>
    intro i w F h1 hi hw hG hC hF
    have e4 : gi h1 (t + 1) 4 = (slt v wi ht (l + 1)).length := by rw [hF.1 _ _ (by unfold frF; omega)]; exact hS.1
    refine BX6_pour_69 X0.1.1 ⟨fun _ => ?_, fun z => by omega⟩
    rw [w32_r (by omega) (by omega), show ((l : Int) + 1) = ((l + 1 : Nat) : Int) by omega]
    have ei : i = (slt v wi ht (l + 1)).length := by omega
    subst ei
    exact k32 w F h1 hw hG hC hF
  | succ m ih =>
    intro i w F h1 hi hw hG hC hF
    have e4 : gi h1 (t + 1) 4 = (slt v wi ht (l + 1)).length := by rw [hF.1 _ _ (by unfold frF; omega)]; exact hS.1
    refine BX6_pour_69 X0.1.1 ⟨fun z => by omega, fun _ => ?_⟩
    have X := X0.keep (hF.mono (fun q k z => by unfold frF at z; unfold frT; omega))
    have hik : i < (slt v wi ht (l + 1)).length := by omega
    have hat := slt_at v wi ht (show l + 1 ≤ v_ln v by omega) hik
    obtain ⟨s1, s2, s3⟩ := hS.2 i hik
    obtain ⟨r1, r2, r3, r4⟩ := slt_rg X0.2.2.2.2.1 hik
    have hLl : i < (slA v wi ht).length := Nat.lt_of_lt_of_le hik (slt_le v wi ht (show l + 1 ≤ v_ln v by omega))
    have el : s_le (slA v wi ht) i = s_le (slt v wi ht (l + 1)) i := by unfold s_le slA; rw [hat]
    have er : s_ri (slA v wi ht) i = s_ri (slt v wi ht (l + 1)) i := by unfold s_ri slA; rw [hat]
    have hwi := X0.2.2.2.2.2
    refine c_fill X (L := slA v wi ht) (K := (slt v wi ht (l + 1)).length) (F := F) (by omega) hik hLl ?_ ?_ (by omega) (by omega) hw hC (fun w' F' h' b1 b2 b3 b4 _ => ?_)
    · rw [hF.1 _ _ (by unfold frF; omega), el]; exact s2
    · rw [hF.1 _ _ (by unfold frF; omega), er]; exact s3
    · rw [w32_r (by omega) (by omega), show ((i : Int) + 1) = ((i + 1 : Nat) : Int) by omega]
      exact ih (i + 1) w' F' h' (by omega) b1 (b2.trans hG) b3 (hF.tr b4)
theorem pour_out (X0 : StC h t p s ink v wi) (hH : ∀ i, i < v_S v → gi h (t + 11) i = ht i ∧ -1 ≤ ht i ∧ ht i ≤ 1000)
    (hq : ∀ (n : Nat) (h' : PH), PO h' t v wi ht n → fr (frU t) h h' → Q none h') :
    ∀ (m l w : Nat) (F : F4) (h1 : PH), l + m = v_ln v → w ≤ v_W v → f4 v (slA v wi ht) w (slt v wi ht l).length (s_le (slA v wi ht) (slt v wi ht l).length) F = (prd v wi ht).2.2.2 → CFm h1 t (slt v wi ht l).length w F → SR h1 (t + 1) (slt v wi ht l) → SP h1 (t + 1) [] → gi h1 (t + 1) 6 = l → (∀ j, j < l → gi h1 (t + 6) j = (slt v wi ht j).length ∧ gi h1 (t + 6) (j + 1) = (slt v wi ht (j + 1)).length) → fr (frU t) h h1 → T2 (d + 3) mX6_pour 32 [some (vR t), some (vI (w : Int)), some (vI (l : Int)), none] [] h1 Q := by
  have ok := X0.2.2.2.1
  have ok1 := ok.1
  intro m
  induction m with
  | zero =>
    intro l w F h1 hl hw hG hC hS hP g6 hB hF
    have X := X0.keep (hF.mono (fun q k z => frU_T z))
    obtain ⟨⟨x1, x2, x3, x3', x4, x5, x6⟩, ⟨y1, y2, y3⟩, ⟨⟨a1, a2, a3, a4, a5, a6, a7⟩, -⟩, -⟩ := X
    have el : l = v_ln v := by omega
    subst el
    refine BX6_pour_32 x1 ⟨fun _ => ?_, fun z => by rw [y1, a1] at z; omega⟩
    rw [f4_end (Or.inr (show (slA v wi ht).length ≤ (slt v wi ht (v_ln v)).length from Nat.le_refl _))] at hG
    exact hq (v_ln v) h1 ⟨Nat.le_refl _, hS, hP, g6, hB, by rw [← hG]; exact hC.mono hw⟩ hF
  | succ m ih =>
    intro l w F h1 hl hw hG hC hS hP g6 hB hF
    have X := X0.keep (hF.mono (fun q k z => frU_T z))
    obtain ⟨⟨x1, x2, x3, x3', x4, x5, x6⟩, ⟨y1, y2, y3⟩, ⟨⟨a1, a2, a3, a4, a5, a6, a7⟩, -⟩, -⟩ := id X
    refine BX6_pour_32 x1 ⟨fun z => by rw [y1, a1] at z; omega, fun _ => ⟨fun z => ?_, fun z => ?_⟩⟩
    · rw [y1, a5] at z
      rw [f4_end (Or.inl (by omega))] at hG
      exact hq l h1 ⟨by omega, hS, hP, g6, hB, by rw [← hG]; exact hC.mono hw⟩ hF
    · have hlen : (slt v wi ht l).length ≤ (slt v wi ht (l + 1)).length := slt_le v wi ht (Nat.le_succ l)
      have hH1 : ∀ i, i < v_S v → gi h1 (t + 11) i = ht i ∧ -1 ≤ ht i ∧ ht i ≤ 1000 := fun i hi => by
        rw [hF.1 _ _ (by unfold frU; omega)]; exact hH i hi
      refine c_cut X (l := l) (by omega) hH1 hS hP g6 (fun h2 b1 b2 b3 b4 b5 b6 b7 b8 => ⟨rfl, ⟨by omega, by omega⟩, ?_⟩)
      simp only [Int.toNat_natCast]
      rw [b4]
      have X2 := X.keep (b8.mono (fun q k z => frK_T z))
      have hF2 : fr (frU t) h h2 := hF.tr (b8.mono (fun q k z => by unfold frK at z; unfold frU; omega))
      obtain ⟨C1, C2, C3, C4, C5, C6, C7, C8⟩ := hC
      refine pour_in X2 (l := l) (by omega) (fun w' F' h3 c1 c2 c3 c4 => ?_) b1 ((slt v wi ht (l + 1)).length - (slt v wi ht l).length) (slt v wi ht l).length w F h2 (by omega) hw hG ⟨fun j hj => ?_, fun k hk => ?_, C3, fun k hk => C4 k (by omega), ?_, C6, fun j => ⟨(C7 j).1, by have := (C7 j).2; omega⟩, C8⟩ fr.rf
      · have e : ∀ q k, q = t + 1 ∨ q = t + 2 ∨ q = t + 3 ∨ q = t + 4 ∨ q = t + 6 → gi h3 q k = gi h2 q k := fun q k z => c4.1 q k (by unfold frF; omega)
        refine ih (l + 1) w' F' h3 (by omega) c1 c2 c3 (b1.keep (e _ _ (by omega)) (fun k => ⟨e _ _ (by omega), e _ _ (by omega), e _ _ (by omega)⟩)) ⟨by rw [e _ _ (by omega)]; exact b2.1, b2.2.1, fun i hi => by simp at hi⟩ (by rw [e _ _ (by omega), b3]; omega) (fun j hj => ?_) (hF2.tr (c4.mono (fun q k z => by unfold frF at z; unfold frU; omega)))
        rw [e _ _ (by omega), e _ _ (by omega)]
        by_cases ej : j = l
        · subst ej; exact ⟨b4, b5⟩
        · rw [b8.1 _ _ (by unfold frK; omega)]
          refine ⟨(hB j (by omega)).1, ?_⟩
          by_cases ej2 : j + 1 = l
          · rw [ej2]; exact b4
          · rw [b8.1 _ _ (by unfold frK; omega)]; exact (hB j (by omega)).2
      · rw [b8.1 _ _ (by unfold frK; omega), b8.1 _ _ (by unfold frK; omega)]; exact C1 j hj
      · by_cases z2 : k < (slt v wi ht l).length
        · rw [b6 k z2]; exact C2 k z2
        · rw [b7 k (by omega) hk, C4 k (by omega)]; exact ⟨rfl, by omega⟩
      · rw [b8.1 _ _ (by unfold frK; omega)]; exact C5
theorem c_pour (X : StC h t p s ink v wi) (hH : ∀ i, i < v_S v → gi h (t + 11) i = ht i ∧ -1 ≤ ht i ∧ ht i ≤ 1000) (hq : ∀ (n : Nat) (h' : PH), PO h' t v wi ht n → fr (frU t) h h' → Q none h') : C2 (d + 3) mX6_pour [vR t] h Q := by
  have c0 := X.1.1
  refine EX6_pour (BX6_pour_0 c0 (c_fillI (rf_6_4 c0) ⟨rfl, c_fillI (rf_6_5 c0) ⟨rfl, EX7_clear (BX7_clear_0 X.1.2.2.2.1 (fun h1 e1 h2 e2 h3 e3 => ⟨rfl, fun h4 e4 => ?_⟩))⟩⟩))
  subst e1 e2 e3 e4
  rw [rl_6_4 c0, rl_6_5 c0]
  have hF : fr (frU t) h (si (si (si (si (stI (stI h (t + 9) (fun j => if j < 30 then -1 else gi h (t + 9) j)) (t + 10) (fun j => if j < 30 then -1 else gi (stI h (t + 9) (fun j => if j < 30 then -1 else gi h (t + 9) j)) (t + 10) j)) (t + 1) 4 0) (t + 1) 6 0) (t + 1) 9 0) t 9 0) := by
    refine (((((fr.rf.stI (fun k => ?_)).stI (fun k => ?_)).si ?_).si ?_).si ?_).si ?_ <;> (unfold frU; omega)
  refine pour_out (h := h) X hH hq (v_ln v) 0 0 (fun _ => -1, fun _ => -1, fun _ => 0, 0) _ (by omega) (by omega) rfl ⟨fun j hj => ?_, fun k hk => by simp [slt] at hk, fun k => Int.le_refl _, fun k _ => rfl, ?_, Nat.le_refl _, fun j => ⟨Int.le_refl _, by show (-1 : Int) < _; omega⟩, fun j _ => rfl⟩ ⟨?_, fun k hk => by simp [slt] at hk⟩ ⟨?_, by simp, fun i hi => by simp at hi⟩ ?_ (fun j hj => by omega) hF
  · simp (disch := omega) only [gi_s0, gi_s1, gi_s2, gj_s0, gj_s1, gj_s2, gi_f0, gi_f1, gj_f0, gj_f1, gr_r0, gr_r1, gr_r2, gi_sj, gi_sr, gj_si, gj_sr, gr_si, gr_sj, gr_stI, gj_stI, gi_stJ, gr_stJ]
    exact ⟨if_pos hj, if_pos hj⟩
  · simp (disch := omega) only [gi_s0, gi_s1, gi_s2, gj_s0, gj_s1, gj_s2, gi_f0, gi_f1, gj_f0, gj_f1, gr_r0, gr_r1, gr_r2, gi_sj, gi_sr, gj_si, gj_sr, gr_si, gr_sj, gr_stI, gj_stI, gi_stJ, gr_stJ]; rfl
  · simp (disch := omega) only [gi_s0, gi_s1, gi_s2, gj_s0, gj_s1, gj_s2, gi_f0, gi_f1, gj_f0, gj_f1, gr_r0, gr_r1, gr_r2, gi_sj, gi_sr, gj_si, gj_sr, gr_si, gr_sj, gr_stI, gj_stI, gi_stJ, gr_stJ]; rfl
  · simp (disch := omega) only [gi_s0, gi_s1, gi_s2, gj_s0, gj_s1, gj_s2, gi_f0, gi_f1, gj_f0, gj_f1, gr_r0, gr_r1, gr_r2, gi_sj, gi_sr, gj_si, gj_sr, gr_si, gr_sj, gr_stI, gj_stI, gi_stJ, gr_stJ]; rfl
  · simp (disch := omega) only [gi_s0, gi_s1, gi_s2, gj_s0, gj_s1, gj_s2, gi_f0, gi_f1, gj_f0, gj_f1, gr_r0, gr_r1, gr_r2, gi_sj, gi_sr, gj_si, gj_sr, gr_si, gr_sj, gr_stI, gj_stI, gi_stJ, gr_stJ]; rfl
/-- the line of a word -/
theorem c_lineOf (X : StC h t p s ink v wi) {n : Nat} (hP : PO h t v wi ht n) {w : Int} (hw : w ≤ 29) (hq : Q (some (vI (lnW v wi ht w))) h) : C2 d mX6_lineOf [vR t, vI w] h Q := by
  obtain ⟨⟨x1, x2, x3, x3', x4, x5, x6⟩, ⟨y1, y2, y3⟩, ⟨⟨a1, a2, a3, a4, a5, a6, a7⟩, -⟩, ok, w1, w2⟩ := X
  obtain ⟨p1, p2, p3, p4, p5, C1, C2, C3, C4, C5, C6, C7, C8⟩ := hP
  have ok1 := ok.1
  have hsl := slt_len ok w1 (ht := ht) n p1
  unfold lnW at hq
  refine EX6_lineOf fun _ => BX6_lineOf_0 x1 ⟨fun z => by rw [if_neg (by omega)] at hq; exact hq, fun z => ?_⟩
  rw [y1, a5]
  refine ⟨fun z2 => by rw [if_neg (by omega)] at hq; exact hq, fun z2 => ⟨⟨by omega, by omega⟩, ?_⟩⟩
  rw [(C1 w.toNat (by omega)).1]
  obtain ⟨c7, c8⟩ := C7 w.toNat
  refine ⟨fun z3 => ⟨⟨by omega, by omega⟩, ⟨by omega, by omega⟩, ?_⟩, fun z3 => ?_⟩
  · rw [if_pos ⟨z, z2, z3⟩] at hq
    have hk : ((prd v wi ht).2.2.2.1 w.toNat).toNat < (slt v wi ht n).length := by omega
    rw [(p2.2 _ hk).1]
    have e : s_li (slA v wi ht) ((prd v wi ht).2.2.2.1 w.toNat).toNat = s_li (slt v wi ht n) ((prd v wi ht).2.2.2.1 w.toNat).toNat := by unfold s_li slA; rw [slt_at v wi ht p1 hk]
    rw [← e]
    exact hq
  · rw [if_neg (fun e => by have := e.2.2; have e2 : c_sl (prd v wi ht) w.toNat = (prd v wi ht).2.2.2.1 w.toNat := rfl; omega)] at hq
    exact hq
theorem slot_lt {n : Nat} (hP : PO h t v wi ht n) (j : Nat) : -1 ≤ c_sl (prd v wi ht) j ∧ c_sl (prd v wi ht) j < (slt v wi ht n).length := hP.2.2.2.2.2.2.2.2.2.2.2.1 j
end
