/-! THE MODEL: what stands; the setting of now -/
def MTp (h : PH) (A : AS) : Prop := gi h 247 5 = A_n A ∧ ∀ i, i < A_n A → gi h 250 i = A_tp A i
def MSt (h : PH) (st : Nat → Int) : Prop := ∀ k, k < 20 → gi h 248 (91 + k) = st k
def MPa (h : PH) (pa : List (Nat → Int)) : Prop := gi h 248 111 = pa.length ∧ ∀ i, i < pa.length → ∀ k, k < 20 → gi h 248 (112 + 20 * (pa.length - 1 - i) + k) = pa.getD i (fun _ => 0) k
def MIm (h : PH) (im : Nat → Option (PG × (Nat → Int))) : Prop := ∀ i, i < 2 → (im i = none → gi h 249 i = 0) ∧ (∀ gs, im i = some gs → gi h 249 i = 1 ∧ RMp h (1213 * (i + 1)) gs.1 ∧ ∀ k, k < 20 → gi h 248 (1213 * (i + 1) + (91 + k)) = gs.2 k)
def MTr (h : PH) (A : AS) : Prop := (∀ i, i < 4 → gi h 276 i = A_so A i ∧ gi h 277 i = A_sz A i) ∧ ∀ j, j < 160 → gj h 278 j = A_vl A j
def MDr (h : PH) (A : AS) : Prop := gi h 247 52 = A_dk A ∧ gi h 247 53 = A_dm A ∧ ∀ j, j < 9 → gi h 274 j = A_kx A j ∧ gi h 275 j = A_ky A j
def RM (h : PH) (A : AS) : Prop := AOK A ∧ MTp h A ∧ (gi h 247 13 = A_fa A ∧ gi h 247 14 = A_fp A) ∧ RMp h 0 (A_g A) ∧ MSt h (A_st A) ∧ MPa h (A_pa A) ∧ MIm h (A_im A) ∧ MTr h A ∧ MDr h A
/-- what the model works with -/
def frMs : Nat → Nat → Prop := fun q k => (q = 247 ∧ k ≠ 5 ∧ k ≠ 13 ∧ k ≠ 14 ∧ k ≠ 52 ∧ k ≠ 53) ∨ (251 ≤ q ∧ q ≤ 273)
def frMo : Nat → Nat → Prop := fun q _ => 247 ≤ q
theorem frMs_o {q k : Nat} (z : frMs q k) : frMo q k := by unfold frMs at z; unfold frMo; omega
theorem frN_Ms {q k : Nat} (z : frN q k) : frMs q k := by unfold frN at z; unfold frMs; omega
theorem AOK.im {A : AS} (ok : AOK A) {i : Nat} {gs : PG × (Nat → Int)} (h : A_im A i = some gs) : POK gs.1 := (ok.2.2.2.1 i gs h).1
theorem RM.keep {h h' : PH} {A : AS} (X : RM h A) (hF : fr frMs h h') : RM h' A := by
  obtain ⟨ok, ⟨a1, a2⟩, ⟨b1, b2⟩, c1, d1, ⟨e1, e2⟩, f1, ⟨g1, g2⟩, ⟨i1, i2, i3⟩⟩ := X
  have G : ∀ q k, ¬ frMs q k → gi h' q k = gi h q k := hF.1
  have g248 : ∀ k, gi h' 248 k = gi h 248 k := fun k => G _ _ (by unfold frMs; omega)
  refine ⟨ok, ⟨by rw [G _ _ (by unfold frMs; omega)]; exact a1, fun i hi => by rw [G _ _ (by unfold frMs; omega)]; exact a2 i hi⟩, ⟨by rw [G _ _ (by unfold frMs; omega)]; exact b1, by rw [G _ _ (by unfold frMs; omega)]; exact b2⟩, c1.keep ok.1 (fun j _ _ => g248 _), fun k hk => by rw [g248]; exact d1 k hk, ⟨by rw [g248]; exact e1, fun i hi k hk => by rw [g248]; exact e2 i hi k hk⟩, fun i hi => ⟨fun z => by rw [G _ _ (by unfold frMs; omega)]; exact (f1 i hi).1 z, fun gs z => ?_⟩, ⟨fun i hi => by rw [G _ _ (by unfold frMs; omega), G _ _ (by unfold frMs; omega)]; exact g1 i hi, fun j hj => by rw [hF.2.1 _ _ (by unfold frMs; omega)]; exact g2 j hj⟩, ⟨by rw [G _ _ (by unfold frMs; omega)]; exact i1, by rw [G _ _ (by unfold frMs; omega)]; exact i2, fun j hj => by rw [G _ _ (by unfold frMs; omega), G _ _ (by unfold frMs; omega)]; exact i3 j hj⟩⟩
  obtain ⟨z1, z2, z3⟩ := (f1 i hi).2 gs z
  exact ⟨by rw [G _ _ (by unfold frMs; omega)]; exact z1, z2.keep (ok.im z) (fun j _ _ => g248 _), fun k hk => by rw [g248]; exact z3 k hk⟩
/-- page and state, in the model -/
def MG (h : PH) (g : PG) (st : Nat → Int) : Prop := POK g ∧ SOK g st ∧ RMp h 0 g ∧ MSt h st
theorem RM.mg {h : PH} {A : AS} (X : RM h A) : MG h (A_g A) (A_st A) := ⟨X.1.1, X.1.2.1, X.2.2.2.1, X.2.2.2.2.1⟩
theorem MG.keep {h h' : PH} {g : PG} {st : Nat → Int} (X : MG h g st) (e : ∀ k, gi h' 248 k = gi h 248 k) : MG h' g st := ⟨X.1, X.2.1, X.2.2.1.keep X.1 (fun j _ _ => e _), fun k hk => by rw [e]; exact X.2.2.2 k hk⟩
theorem MG.fl {h : PH} {g : PG} {st : Nat → Int} (X : MG h g st) : gi h 248 0 = g_to g ∧ gi h 248 1 = g_wi g ∧ gi h 248 2 = g_ln g ∧ gi h 248 3 = g_hi g ∧ gi h 248 4 = g_le g ∧ gi h 248 5 = g_S g ∧ gi h 248 6 = g_W g := by
  have := X.2.2.1.1
  simp only [Nat.zero_add] at this
  exact this
theorem li_lo {v : VW} {wi : Int} {ht : Nat → Int} (hw : 0 ≤ wi) {l N k : Nat} (hl : l ≤ N) (hk : k < (slt v wi ht l).length) : s_li (slt v wi ht N) k < l := by
  unfold s_li
  rw [slt_at v wi ht hl hk]
  exact (slt_rg hw hk).1
theorem li_hi {v : VW} {wi : Int} {ht : Nat → Int} {l : Nat} : ∀ {N k : Nat}, l ≤ N → (slt v wi ht l).length ≤ k → k < (slt v wi ht N).length → l ≤ s_li (slt v wi ht N) k := by
  intro N
  induction N with
  | zero => intro k h1 h2 h3; exact absurd h3 (Nat.not_lt_zero k)
  | succ N ih =>
    intro k h1 h2 h3
    by_cases e : l = N + 1
    · subst e; omega
    · by_cases c : k < (slt v wi ht N).length
      · have := ih (by omega) h2 c
        unfold s_li at *
        rw [slt_at v wi ht (by omega : N ≤ N + 1) c]
        exact this
      · unfold s_li
        have e2 : slt v wi ht (N + 1) = slt v wi ht N ++ (cutS wi (v_le v) (spl v ht N (v_S v))).map (fun a => (N, a.1, a.2)) := rfl
        rw [e2, List.length_append, List.length_map] at h3
        rw [e2, show k = (slt v wi ht N).length + (k - (slt v wi ht N).length) by omega, getD_app2]
        have : ∀ (M : List (Int × Int)) (j : Nat), j < M.length → ((M.map (fun a => (N, a.1, a.2))).getD j (0, 0, 0)).1 = N := by
          intro M
          induction M with
          | nil => intro j h; exact absurd h (Nat.not_lt_zero j)
          | cons x xs ih => intro j h; cases j with
            | zero => rfl
            | succ j => rw [List.map_cons, List.getD_cons_succ]; exact ih j (by simpa using h)
        rw [this _ _ (by omega)]
        omega
section
variable {d : Nat} {h : PH} {Q : Option PV → PH → Prop}
theorem m_within {a lo up : Int} (hq : Q (some (vI (if lo ≤ a ∧ a ≤ up then 1 else 0))) h) : C2 d mX11_within [vJ a, vJ lo, vJ up] h Q := by
  refine EX11_within fun _ _ _ => BX11_within_0 ⟨fun z => ?_, fun z => ⟨fun y => ?_, fun y => ?_⟩⟩
  · rw [if_neg (by omega)] at hq; exact hq
  · rw [if_neg (by omega)] at hq; exact hq
  · rw [if_pos (by omega)] at hq; exact hq
variable {g : PG} {st : Nat → Int}
theorem m_isShape (X : MG h g st) {s : Int} (hq : Q (some (vI (if 0 ≤ s ∧ s < g_S g then 1 else 0))) h) : C2 (d + 1) mX11_isShape [vR 247, vJ s] h Q := by
  have ok1 := X.1.1
  refine EX11_isShape fun _ => BX11_isShape_0 ?_
  rw [X.fl.2.2.2.2.2.1, w32_r (by omega) (by omega)]
  refine m_within (fun _ => ⟨by split <;> omega, ?_⟩)
  by_cases e : 0 ≤ s ∧ s < g_S g
  · rw [if_pos e] at hq; rw [if_pos (by omega)]; exact hq
  · rw [if_neg e] at hq; rw [if_neg (by omega)]; exact hq
theorem m_isWord (X : MG h g st) {s : Int} (hq : Q (some (vI (if 0 ≤ s ∧ s < g_W g then 1 else 0))) h) : C2 (d + 1) mX11_isWord [vR 247, vJ s] h Q := by
  have ok1 := X.1.1
  refine EX11_isWord fun _ => BX11_isWord_0 ?_
  rw [X.fl.2.2.2.2.2.2, w32_r (by omega) (by omega)]
  refine m_within (fun _ => ⟨by split <;> omega, ?_⟩)
  by_cases e : 0 ≤ s ∧ s < g_W g
  · rw [if_pos e] at hq; rw [if_pos (by omega)]; exact hq
  · rw [if_neg e] at hq; rw [if_neg (by omega)]; exact hq
theorem m_isRow (X : MG h g st) {s : Int} (hq : Q (some (vI (if 0 ≤ s ∧ s < g_ln g then 1 else 0))) h) : C2 (d + 1) mX11_isRow [vR 247, vJ s] h Q := by
  have ok1 := X.1.1
  refine EX11_isRow fun _ => BX11_isRow_0 ?_
  rw [X.fl.2.2.1, w32_r (by omega) (by omega)]
  refine m_within (fun _ => ⟨by split <;> omega, ?_⟩)
  by_cases e : 0 ≤ s ∧ s < g_ln g
  · rw [if_pos e] at hq; rw [if_pos (by omega)]; exact hq
  · rw [if_neg e] at hq; rw [if_neg (by omega)]; exact hq
def frAs : Nat → Nat → Prop := fun q k => q = 247 ∧ (k = 20 ∨ k = 21 ∨ k = 22)
theorem m_asks (X : MG h g st) (hq : ∀ h', MC h' g st (g_wi g) (-1) → fr frAs h h' → Q none h') : C2 d mX11_asks [vR 247] h Q := by
  have ok1 := X.1.1
  have e18 := X.2.2.2 18 (by omega)
  refine EX11_asks (BX11_asks_0 (fun h1 e1 h2 e2 h3 e3 => ?_))
  have F : fr frAs h h3 := by subst e3 e2 e1; exact ((fr.rf.si (by unfold frAs; omega)).si (by unfold frAs; omega)).si (by unfold frAs; omega)
  have g8 : ∀ k, gi h3 248 k = gi h 248 k := fun k => F.1 _ _ (by unfold frAs; omega)
  have Y := X.keep g8
  refine hq h3 ⟨Y.1, Y.2.1, Y.2.2.1, fun k hk _ => Y.2.2.2 k hk, ?_, ?_, fun s hs => ?_, by omega, by omega⟩ F
  · subst e3 e2 e1; simp (disch := omega) only [gi_s0, gi_s1, gi_s2, gj_s0, gj_s1, gj_s2, gi_f0, gi_f1, gj_f0, gj_f1, gr_r0, gr_r1, gr_r2, gi_sj, gi_sr, gj_si, gj_sr, gr_si, gr_sj, gr_stI, gj_stI, gi_stJ, gr_stJ]; exact e18
  · subst e3 e2 e1; simp (disch := omega) only [gi_s0, gi_s1, gi_s2, gj_s0, gj_s1, gj_s2, gi_f0, gi_f1, gj_f0, gj_f1, gr_r0, gr_r1, gr_r2, gi_sj, gi_sr, gj_si, gj_sr, gr_si, gr_sj, gr_stI, gj_stI, gi_stJ, gr_stJ]; exact X.fl.2.1
  · subst e3; rw [gi_s0, bit_0]; exact (decide_eq_false (by omega)).symm
theorem MC.keepF {h h' : PH} {g : PG} {st : Nat → Int} {wi asd : Int} (a : MC h g st wi asd) (e8 : ∀ k, gi h' 248 k = gi h 248 k) (e7 : gi h' 247 20 = gi h 247 20 ∧ gi h' 247 21 = gi h 247 21 ∧ gi h' 247 22 = gi h 247 22) : MC h' g st wi asd := by
  obtain ⟨a1, a2, a3, a4, a5, a6, a7, a8⟩ := a
  exact ⟨a1, a2, a3.keep a1 (fun j _ _ => e8 _), fun k h1 h2 => by rw [e8]; exact a4 k h1 h2, by rw [e7.2.1]; exact a5, by rw [e7.1]; exact a6, fun s hs => by rw [e7.2.2]; exact a7 s hs, a8⟩
theorem m_setsNow (X : MG h g st) (hq : ∀ h', MC h' g st (g_wi g) (-1) → DM h' (vw g st) (g_wi g) (-1) → fr frMs h h' → Q none h') : C2 (d + 9) mX11_setsNow [vR 247] h Q := by
  refine EX11_setsNow (BX11_setsNow_0 (m_asks X (fun h1 b1 b2 => ⟨rfl, c_sets (d := d) b1 (fun h2 c1 c2 => ⟨rfl, hq h2 (b1.keep c2) c1 ((b2.mono (fun q k z => by unfold frAs at z; unfold frMs; omega)).tr (c2.mono (fun q k z => frN_Ms z)))⟩)⟩)))
variable {wi asd : Int}
theorem m_placed_loop (X : MC h g st wi asd) {ht : Nat → Int} (hP : PM h (vw g st) wi ht) (hq : Q (some (vI (c_n (prd (vw g st) wi ht)))) h) : ∀ (m w : Nat), w + m = v_W (vw g st) → T2 d mX11_placedNow 4 [some (vR 247), some (vI (sumF (fun j => if 0 ≤ c_sl (prd (vw g st) wi ht) j then 1 else 0) w)), some (vI (w : Int))] [] h Q := by
  obtain ⟨ok, ⟨a1, a2, a3, a4, a5, a6, a7⟩, b⟩ := X.vw
  have ok1 := ok.1
  intro m
  induction m with
  | zero =>
    intro w hw
    refine BX11_placedNow_4 ⟨fun _ => ?_, fun z => by rw [a5] at z; omega⟩
    rw [show w = v_W (vw g st) by omega, ← prd_n]; exact hq
  | succ m ih =>
    intro w hw
    have hr := sumF_rg (f := fun j => if 0 ≤ c_sl (prd (vw g st) wi ht) j then (1 : Int) else 0) (M := 1) (fun n => by split <;> omega) w
    refine BX11_placedNow_4 ⟨fun z => by rw [a5] at z; omega, fun _ => ⟨⟨by omega, by omega⟩, ?_⟩⟩
    try simp only [Int.toNat_natCast]
    have e := (hP.2.1 w (by omega)).1
    have e' : gi h 259 w = c_sl (prd (vw g st) wi ht) w := e
    have c4 : -1 ≤ c_sl (prd (vw g st) wi ht) w := (hP.2.2.2.2 w).1
    have su : sumF (fun j => if 0 ≤ c_sl (prd (vw g st) wi ht) j then (1 : Int) else 0) (w + 1) = sumF (fun j => if 0 ≤ c_sl (prd (vw g st) wi ht) j then (1 : Int) else 0) w + (if 0 ≤ c_sl (prd (vw g st) wi ht) w then 1 else 0) := rfl
    have := ih (w + 1) (by omega)
    rw [su] at this
    rw [e', w32_r (x := (w : Int) + 1) (by omega) (by omega), show (w : Int) + 1 = ((w + 1 : Nat) : Int) by omega]
    refine ⟨fun z => ?_, fun z => ?_⟩
    · rw [if_neg (by omega)] at this
      rw [w32_r (by omega) (by omega)]; exact this
    · rw [if_pos (by omega)] at this
      rw [w32_r (by omega) (by omega)]; exact this
theorem m_placedNow (X : MC h g st wi asd) (hD : DM h (vw g st) wi asd) (hq : Q (some (vI (plcd (vw g st) wi asd))) h) : C2 d mX11_placedNow [vR 247] h Q :=
  EX11_placedNow (BX11_placedNow_0 (m_placed_loop X hD.1.2.1 hq (v_W (vw g st)) 0 (by omega)))
theorem m_last_loop (X : MC h g st wi asd) {ht : Nat → Int} (hP : PM h (vw g st) wi ht) (hq : Q (some (vI (lastF (fun w => lnW (vw g st) wi ht w) (v_W (vw g st))))) h) : ∀ (m w : Nat), w + m = v_W (vw g st) → T2 (d + 1) mX11_lastNow 4 [some (vR 247), some (vI (lastF (fun w => lnW (vw g st) wi ht w) w)), some (vI (w : Int))] [] h Q := by
  obtain ⟨ok, ⟨a1, a2, a3, a4, a5, a6, a7⟩, b⟩ := X.vw
  have ok1 := ok.1
  intro m
  induction m with
  | zero =>
    intro w hw
    refine BX11_lastNow_4 ⟨fun _ => ?_, fun z => by rw [a5] at z; omega⟩
    rw [show w = v_W (vw g st) by omega]; exact hq
  | succ m ih =>
    intro w hw
    refine BX11_lastNow_4 ⟨fun z => by rw [a5] at z; omega, fun _ => ?_⟩
    refine c_lineM X hP (by omega) (by omega) (fun _ => ?_)
    have su : lastF (fun w => lnW (vw g st) wi ht w) (w + 1) = max (lastF (fun w => lnW (vw g st) wi ht w) w) (lnW (vw g st) wi ht (w : Int)) := rfl
    have := ih (w + 1) (by omega)
    rw [su] at this
    rw [w32_r (x := (w : Int) + 1) (by omega) (by omega), show (w : Int) + 1 = ((w + 1 : Nat) : Int) by omega]
    refine ⟨fun z => ?_, fun z => c_lineM X hP (by omega) (by omega) (fun _ => ?_)⟩
    · rw [show max (lastF (fun w => lnW (vw g st) wi ht w) w) (lnW (vw g st) wi ht (w : Int)) = lastF (fun w => lnW (vw g st) wi ht w) w by omega] at this
      exact this
    · rw [show max (lastF (fun w => lnW (vw g st) wi ht w) w) (lnW (vw g st) wi ht (w : Int)) = lnW (vw g st) wi ht (w : Int) by omega] at this
      exact this
theorem m_lastNow (X : MC h g st wi asd) (hD : DM h (vw g st) wi asd) (hq : Q (some (vI (lstL (vw g st) wi asd))) h) : C2 (d + 1) mX11_lastNow [vR 247] h Q :=
  EX11_lastNow (BX11_lastNow_0 (m_last_loop X hD.1.2.1 hq (v_W (vw g st)) 0 (by omega)))
end
section
variable {d : Nat} {h : PH} {Q : Option PV → PH → Prop}
variable {A : AS}
/-- a call begins -/
theorem RM.z (X : RM h A) {h1 : PH} (e : h1 = si h 247 0 0) : RM h1 A ∧ fr frMo h h1 := by
  subst e
  exact ⟨X.keep (fr.rf.si (by unfold frMs; omega)), fr.rf.si (by unfold frMo; omega)⟩
theorem n_now (X : RM h A) (hq : ∀ h', RM h' A → MC h' (A_g A) (A_st A) (A_w A) (-1) → DM h' (A_v A) (A_w A) (-1) → fr frMo h h' → Q none h') : C2 (d + 9) mX11_setsNow [vR 247] h Q :=
  m_setsNow X.mg (fun h' b1 b2 b3 => hq h' (X.keep b3) b1 b2 (b3.mono (fun q k z => frMs_o z)))
theorem n_fault (X : RM h A) {w : Int} (hq : ∀ h', RM h' A → fr frMo h h' → Q (some (vI (r_fault A w))) h') : C2 d mX11_fault [vR 247, vI w] h Q := by
  unfold r_fault at hq
  refine EX11_fault fun _ => BX11_fault_0 (fun h1 e1 => ?_)
  obtain ⟨X1, F1⟩ := X.z e1
  have hq1 := hq h1 X1 F1
  obtain ⟨c1, c2⟩ := X1.2.2.1
  refine ⟨fun z => ⟨fun y => ?_, fun y => ?_⟩, fun z => ?_⟩
  · rw [if_neg z, if_neg y] at hq1; exact hq1
  · rw [if_neg z, if_pos y] at hq1; rw [c2]; exact hq1
  · rw [if_pos z] at hq1; rw [c1]; exact hq1
theorem n_set (X : RM h A) {w : Int} (hq : ∀ h', RM h' A → fr frMo h h' → Q (some (vI (r_set A w))) h') : C2 (d + 1) mX11_set [vR 247, vI w] h Q := by
  unfold r_set at hq
  refine EX11_set fun _ => BX11_set_0 (fun h1 e1 => ?_)
  obtain ⟨X1, F1⟩ := X.z e1
  have hq1 := hq h1 X1 F1
  obtain ⟨-, f1, f2, f3, f4, -⟩ := X1.mg.fl
  refine m_within (fun _ => ⟨fun z => ?_, fun z => ?_⟩)
  · have := if00 z
    rw [if_neg (by omega), if_neg (by omega), if_neg (by omega), if_neg (by omega)] at hq1; exact hq1
  · have hw := if01 z
    rw [w32_r (by omega) (by omega)]
    refine ⟨⟨by omega, by omega⟩, ?_⟩
    have : w = 0 ∨ w = 1 ∨ w = 2 ∨ w = 3 := by omega
    rcases this with rfl | rfl | rfl | rfl
    · rw [if_pos rfl] at hq1; rw [show ((1 : Int) + 0).toNat = 1 from rfl, f1]; exact hq1
    · rw [if_neg (by decide), if_pos rfl] at hq1; rw [show ((1 : Int) + 1).toNat = 2 from rfl, f2]; exact hq1
    · rw [if_neg (by decide), if_neg (by decide), if_pos rfl] at hq1; rw [show ((1 : Int) + 2).toNat = 3 from rfl, f3]; exact hq1
    · rw [if_neg (by decide), if_neg (by decide), if_neg (by decide), if_pos rfl] at hq1; rw [show ((1 : Int) + 3).toNat = 4 from rfl, f4]; exact hq1
theorem n_shape (X : RM h A) {s w : Int} (hq : ∀ h', RM h' A → fr frMo h h' → Q (some (vI (r_shape A s w))) h') : C2 (d + 10) mX11_shape [vR 247, vI s, vI w] h Q := by
  unfold r_shape at hq
  refine EX11_shape fun _ _ => BX11_shape_0 (fun h1 e1 => ?_)
  obtain ⟨X1, F1⟩ := X.z e1
  have hq1 := hq h1 X1 F1
  have ok1 := X.1.1.1
  refine m_isShape (d := d + 8) X1.mg (fun _ => ⟨fun z => ?_, fun z => ?_⟩)
  · have hi2 : 0 ≤ s ∧ s < g_S (A_g A) := if01 z
    have hi : iS A s := hi2
    rw [if_pos hi] at hq1
    obtain ⟨n, hn⟩ := ex_nat hi2.1
    subst hn
    simp only [Int.toNat_natCast] at hq hq1 ⊢
    have kd := (X1.mg.2.2.1.2.1 n (by omega)).1
    rw [Nat.zero_add] at kd
    refine ⟨fun y => ?_, fun y => ?_, fun y => ?_, fun y => ?_, fun y => ?_, fun y => ?_⟩
    · rw [if_pos y] at hq1
      rw [w32a (k := 13) (n := 13) (s := n) rfl (by omega), Int.toNat_natCast, kd]
      exact ⟨⟨by omega, by omega⟩, hq1⟩
    · rw [if_neg (by omega), if_pos y] at hq1
      rw [w32a (k := 91) (n := 91) (s := n) rfl (by omega), Int.toNat_natCast, X1.mg.2.2.2 n (by omega)]
      exact ⟨⟨by omega, by omega⟩, hq1⟩
    · rw [if_neg (by omega), if_neg (by omega), if_pos y] at hq1
      rw [w32a (k := 97) (n := 97) (s := n) rfl (by omega), Int.toNat_natCast, show 97 + n = 91 + (6 + n) by omega, X1.mg.2.2.2 (6 + n) (by omega)]
      exact ⟨⟨by omega, by omega⟩, hq1⟩
    · rw [if_neg (by omega), if_neg (by omega), if_neg (by omega), if_pos y] at hq1
      rw [w32a (k := 103) (n := 103) (s := n) rfl (by omega), Int.toNat_natCast, show 103 + n = 91 + (12 + n) by omega, X1.mg.2.2.2 (12 + n) (by omega)]
      exact ⟨⟨by omega, by omega⟩, hq1⟩
    · refine n_now (d := d) X1 (fun h2 X2 M2 D2 F2 => ⟨rfl, ⟨by omega, by omega⟩, ?_⟩)
      have hq2 := hq h2 X2 (F1.tr F2)
      rw [if_pos hi, if_neg (by omega), if_neg (by omega), if_neg (by omega), if_neg (by omega), if_pos y] at hq2
      rw [D2.1.1 n (by show n < g_S (A_g A); omega)]
      exact hq2
    · rw [if_neg (by omega), if_neg (by omega), if_neg (by omega), if_neg (by omega), if_neg (by omega)] at hq1
      exact hq1
  · have hi2 : ¬ (0 ≤ s ∧ s < g_S (A_g A)) := if00 z
    have hi : ¬ iS A s := hi2
    rw [if_neg hi] at hq1; exact hq1
end
