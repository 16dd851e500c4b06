/-! THE CLASS: a page is read -/
section
variable {d : Nat} {h : PH} {Q : Option PV → PH → Prop}
variable {f : Nat → Int} {n p : Nat}
theorem g_line {s : QS} (Ev : EVp h f n p) (X : RQ h f n p (.ok s)) (h6 : g_S s.2.1 ≤ 6) (hW : g_W s.2.1 ≤ 30) (hq : ∀ h', RQ h' f n p (lineP f n s) → fr (frRd p) h h' → Q none h') : C2 (d + 53) mX5_line [vR 218] h Q := by
  have T0 := Ev.1
  have x0 := X.1
  unfold lineP at hq
  refine EX5_line (BX5_line_0 ?_)
  refine c_isWordK (d := d + 47) (i := 7) (K := 6) (by omega) T0 x0 (by omega) rfl (fun z _ => ⟨fun y => absurd y (by decide), fun _ => ?_⟩) (fun z1 _ => ⟨fun _ => ?_, fun y => absurd rfl y⟩)
  · have e : t_k s.1 = 6 := isK_ok.mp z
    rw [if_pos (by omega), e] at hq
    exact g_outline (d := d + 45) (by omega) Ev X h6 (fun h1 y1 f1 => ⟨rfl, hq h1 y1 f1⟩)
  have n1 : t_k s.1 ≠ 6 := fun e => z1 (isK_ok.mpr e)
  refine c_isWordK (d := d + 47) (i := 8) (K := 7) (by omega) T0 x0 (by omega) rfl (fun z _ => ⟨fun y => absurd y (by decide), fun _ => ?_⟩) (fun z2 _ => ⟨fun _ => ?_, fun y => absurd rfl y⟩)
  · have e : t_k s.1 = 7 := isK_ok.mp z
    rw [if_pos (by omega), e] at hq
    exact g_outline (d := d + 45) (by omega) Ev X h6 (fun h1 y1 f1 => ⟨rfl, hq h1 y1 f1⟩)
  have n2 : t_k s.1 ≠ 7 := fun e => z2 (isK_ok.mpr e)
  refine c_isWordK (d := d + 47) (i := 9) (K := 8) (by omega) T0 x0 (by omega) rfl (fun z _ => ⟨fun y => absurd y (by decide), fun _ => ?_⟩) (fun z3 _ => ⟨fun _ => ?_, fun y => absurd rfl y⟩)
  · have e : t_k s.1 = 8 := isK_ok.mp z
    rw [if_pos (by omega), e] at hq
    exact g_outline (d := d + 45) (by omega) Ev X h6 (fun h1 y1 f1 => ⟨rfl, hq h1 y1 f1⟩)
  have n3 : t_k s.1 ≠ 8 := fun e => z3 (isK_ok.mpr e)
  rw [if_neg (by omega)] at hq
  refine c_isWordK (d := d + 47) (i := 10) (K := 9) (by omega) T0 x0 (by omega) rfl (fun z _ => ⟨fun y => absurd y (by decide), fun _ => ?_⟩) (fun z4 _ => ⟨fun _ => ?_, fun y => absurd rfl y⟩)
  · have e : t_k s.1 = 9 := isK_ok.mp z
    rw [if_pos e] at hq
    exact g_tie (d := d + 45) Ev X h6 (fun h1 y1 f1 => ⟨rfl, hq h1 y1 f1⟩)
  have n4 : t_k s.1 ≠ 9 := fun e => z4 (isK_ok.mpr e)
  rw [if_neg n4] at hq
  refine c_isWordK (d := d + 47) (i := 11) (K := 10) (by omega) T0 x0 (by omega) rfl (fun z _ => ⟨fun y => absurd y (by decide), fun _ => ?_⟩) (fun z5 _ => ⟨fun _ => ?_, fun y => absurd rfl y⟩)
  · have e : t_k s.1 = 10 := isK_ok.mp z
    rw [if_pos e] at hq
    exact g_words (d := d + 46) Ev X hW (fun h1 y1 f1 => ⟨rfl, hq h1 y1 f1⟩)
  have n5 : t_k s.1 ≠ 10 := fun e => z5 (isK_ok.mpr e)
  rw [if_neg n5] at hq
  refine c_isWordK (d := d + 47) (i := 2) (K := 1) (by omega) T0 x0 (by omega) rfl (fun z _ => ⟨fun y => absurd y (by decide), fun _ => ?_⟩) (fun z6 _ => ⟨fun _ => ?_, fun y => absurd rfl y⟩)
  · have e : t_k s.1 = 1 := isK_ok.mp z
    rw [if_pos e] at hq
    rw [Ev.2.1]
    exact g_law (d := d) (W := true) Ev X (fun h1 y1 f1 => ⟨rfl, hq h1 y1 f1⟩)
  have n6 : t_k s.1 ≠ 1 := fun e => z6 (isK_ok.mpr e)
  rw [if_neg n6] at hq
  refine c_isWordK (d := d + 47) (i := 24) (K := 11) (by omega) T0 x0 (by omega) rfl (fun z _ => ⟨fun y => absurd y (by decide), fun _ => ?_⟩) (fun z7 _ => ⟨fun _ => ?_, fun y => absurd rfl y⟩)
  · have e : t_k s.1 = 11 := isK_ok.mp z
    rw [if_pos e] at hq
    rw [Ev.2.1]
    exact g_law (d := d) (W := false) Ev X (fun h1 y1 f1 => ⟨rfl, hq h1 y1 f1⟩)
  have n7 : t_k s.1 ≠ 11 := fun e => z7 (isK_ok.mpr e)
  rw [if_neg n7] at hq
  exact c_fail x0 (by decide) (fun h1 y1 f1 => ⟨rfl, hq h1 y1 (kF2 f1)⟩)
def tkq : ER QS → ER TK
  | .ok s => .ok s.1
  | .error e => .error e
theorem RQ.tk {r : ER QS} (X : RQ h f n p r) : RT h f n (tkq r) := by
  cases r with
  | ok s => exact X.1
  | error e => exact X
def closeQ (f : Nat → Int) (n : Nat) (s1 : QS) : ER QS := bq (eatT f n 30 s1.1) fun t => .ok (toldQ (t, s1.2))
theorem lines_loop : ∀ (m j : Nat) (h : PH) (r : ER QS), j + m = 900 → EVp h f n p → RQ h f n p r → (∀ s, r = .ok s → QI f n (WT true) (WT false) s) → (∀ h', RQ h' f n p (bq r (linesP f n m)) → fr (frRd p) h h' → Q none h') → T2 (d + 54) mX5_read 42 [some (vR 218), none, none, some (vI (j : Int))] [] h Q := by
  intro m
  induction m with
  | zero =>
    intro j h r hj Ev X hI hq
    refine BX5_read_42 ⟨fun _ => hq h ?_ fr.rf, fun z => by omega⟩
    cases r with
    | error e => exact X
    | ok s => exact X
  | succ m ih =>
    intro j h r hj Ev X hI hq
    have pl : 130 ≤ p ∧ p ≤ 190 := ⟨Ev.2.2.2.1, Ev.2.2.2.2.1⟩
    have hn := Ev.1.1
    refine BX5_read_42 ⟨fun z => by omega, fun _ => ?_⟩
    cases r with
    | error e =>
      have X' : RT h f n (.error e) := X
      exact ⟨fun _ => hq h X fr.rf, fun z => absurd (X'.1.symm.trans z) X'.2.1⟩
    | ok s =>
      have x0 := X.1
      have q := hI s rfl
      refine ⟨fun z => absurd x0.2.1 z, fun _ => ⟨fun z => ?_, fun z => ?_⟩⟩
      · have e26 : t_k s.1 = 26 := (ktc_z x0.1).mp (x0.2.2.2.2.2.2.1.symm.trans z)
        refine hq h ?_ fr.rf
        show RQ h f n p (if t_k s.1 = 26 then .ok s else _)
        rw [if_pos e26]
        exact X
      · have e26 : t_k s.1 ≠ 26 := fun e => z (x0.2.2.2.2.2.2.1.trans ((ktc_z x0.1).mpr e))
        refine g_line (d := d) Ev X q.2.1.2.2.2.2.2.2.2.2.1 q.2.1.2.2.2.2.2.2.2.2.2.1 (fun h1 y1 f1 => ⟨rfl, ?_⟩)
        have Ev1 := Ev.keep f1
        refine c_sign (d := d + 47) (K := 30) (by omega) (by decide) Ev1.1 y1.tk (fun h2 y2 f2 => ⟨rfl, fun h3 e3 => ?_⟩)
        have Ev2 := Ev1.keep (kF2 f2)
        rw [Ev2.2.1] at e3
        have F3 : fr (frRd p) h h3 := by subst e3; exact (f1.tr (kF2 f2)).si (by unfold frRd; omega)
        rw [w32_r (x := (j : Int) + 1) (by omega) (by omega), show (j : Int) + 1 = ((j + 1 : Nat) : Int) by omega]
        have y3 : RT h3 f n (bq (tkq (lineP f n s)) (eatT f n 30)) := by subst e3; exact y2.keep (fun k => gi_s1 (by omega))
        have elp : bq (.ok s) (linesP f n (m + 1)) = bq (bq (lineP f n s) (closeQ f n)) (linesP f n m) := by
          show (if t_k s.1 = 26 then .ok s else bq (lineP f n s) fun s1 => bq (eatT f n 30 s1.1) fun t => linesP f n m (toldQ (t, s1.2))) = _
          rw [if_neg e26]
          generalize lineP f n s = r1
          cases r1 with
          | error e => rfl
          | ok s1 =>
            show bq (eatT f n 30 s1.1) _ = bq (bq (eatT f n 30 s1.1) _) _
            generalize eatT f n 30 s1.1 = r2
            cases r2 <;> rfl
        rw [elp] at hq
        refine ih (j + 1) h3 (bq (lineP f n s) (closeQ f n)) (by omega) (Ev.keep F3) ?_ (fun s' e => ?_) (fun h4 y4 f4 => hq h4 y4 (F3.tr f4))
        · cases hl : lineP f n s with
          | error e => rw [hl] at y3; exact y3
          | ok s1 =>
            rw [hl] at y3 y1
            have q1 := line_ok (MkW true) (MkW false) q hl
            have y3' : RT h3 f n (eatT f n 30 s1.1) := y3
            show RQ h3 f n p (bq (eatT f n 30 s1.1) fun t => .ok (toldQ (t, s1.2)))
            cases ht : eatT f n 30 s1.1 with
            | error e => rw [ht] at y3'; exact y3'
            | ok t =>
              rw [ht] at y3'
              obtain ⟨-, xP, xS⟩ := y1
              have g3 : ∀ q k, q ≠ 218 → ¬ (q = p ∧ k = 4) → gi h3 q k = gi h1 q k := fun q k c1 c2 => by
                subst e3
                rw [gi_si, if_neg c2, gF2 f2 _ _ c1]
              obtain ⟨⟨c1, c2, c3, c4, c5, c6, c7⟩, bb, cc, l1, l2, k1, k2⟩ := xP
              have q2 := q1.2.1.2.2.2.2.2.2.2.2.2.2
              have q3 := q1.1.2.1
              have q4 := q1.1.2.2.1
              refine ⟨y3', ⟨⟨by rw [g3 _ _ (by omega) (by omega)]; exact c1, by rw [g3 _ _ (by omega) (by omega)]; exact c2, by rw [g3 _ _ (by omega) (by omega)]; exact c3, by rw [g3 _ _ (by omega) (by omega)]; exact c4, ?_, by rw [g3 _ _ (by omega) (by omega)]; exact c6, by rw [g3 _ _ (by omega) (by omega)]; exact c7⟩, fun i hi => ?_, fun w hw => ?_, l1.keep (g3 _ _ (by omega) (by omega)) (fun k => g3 _ _ (by omega) (by omega)), l2.keep (g3 _ _ (by omega) (by omega)) (fun k => g3 _ _ (by omega) (by omega)), by rw [g3 _ _ (by omega) (by omega)]; exact k1, by rw [g3 _ _ (by omega) (by omega)]; exact k2⟩, xS.keepP (fun q k z1 z2 => g3 _ _ (by omega) (by omega))⟩
              · subst e3
                rw [gi_s0, gF2 f2 _ _ (by omega), c5, w32_r (by omega) (by omega)]; rfl
              · rw [g3 _ _ (by omega) (by omega), g3 _ _ (by omega) (by omega), g3 _ _ (by omega) (by omega)]; exact bb i hi
              · rw [g3 _ _ (by omega) (by omega), g3 _ _ (by omega) (by omega)]; exact cc w hw
        · obtain ⟨s1, hl, e⟩ := bq_ok e
          obtain ⟨t, ht, e⟩ := bq_ok e
          cases e
          have q1 := line_ok (MkW true) (MkW false) q hl
          obtain ⟨o, pp⟩ := eatT_ok (by decide) ht q1.1
          exact told_ok q1 o pp
def frPg (p : Nat) : Nat → Nat → Prop := fun q _ => q = 218 ∨ (p ≤ q ∧ q ≤ p + 19)
theorem frRd_Pg {p q k : Nat} (z : frRd p q k) : frPg p q k := by unfold frRd at z; unfold frPg; omega
theorem g_clear (cp : CLf p = 4) (c6 : CLf (p + 6) = 9) (hq : ∀ h', (gi h' p 5 = 0 ∧ gi h' p 9 = 0 ∧ gi h' (p + 10) 3 = 0 ∧ gi h' (p + 14) 3 = 0 ∧ gi h' p 17 = 0 ∧ gi h' p 18 = 0) → StV h' (p + 6) st0 → fr (fun q _ => p ≤ q ∧ q ≤ p + 19) h h' → Q none h') : C2 (d + 2) mX3_clear [vR p] h Q := by
  refine EX3_clear (BX3_clear_0 cp (fun h1 e1 h2 e2 h3 e3 h4 e4 h5 e5 h6 e6 h7 e7 => ?_))
  have F7 : fr (fun q _ => p ≤ q ∧ q ≤ p + 19) h h7 := by
    subst e7 e6 e5 e4 e3 e2 e1
    exact ((((((fr.rf.si (by omega)).si (by omega)).si (by omega)).si (by omega)).si (by omega)).si (by omega)).si (by omega)
  refine c_clearS c6 (fun h8 b1 b2 => ⟨rfl, fun h9 e9 h10 e10 h11 e11 h12 e12 => ?_⟩)
  have F8 : fr (fun q _ => p ≤ q ∧ q ≤ p + 19) h h8 := F7.tr (b2.fr.mono (fun q k z => by unfold inS at z; omega))
  subst e12 e11 e10 e9
  refine hq _ ⟨?_, ?_, ?_, ?_, ?_, ?_⟩ (fun k hk => ?_) ((((F8.si (by omega)).si (by omega)).si (by omega)).si (by omega))
  · simp (disch := omega) only [gi_s0, gi_s1, gi_s2, gj_s0, gj_s1, gj_s2, gi_f0, gi_f1, gj_f0, gj_f1, gr_r0, gr_r1, gr_r2, gi_sj, gi_sr, gj_si, gj_sr, gr_si, gr_sj, gr_stI, gj_stI, gi_stJ, gr_stJ]; rw [b2.1 _ (by unfold inS; omega)]; subst e7 e6; simp (disch := omega) only [gi_s0, gi_s1, gi_s2, gj_s0, gj_s1, gj_s2, gi_f0, gi_f1, gj_f0, gj_f1, gr_r0, gr_r1, gr_r2, gi_sj, gi_sr, gj_si, gj_sr, gr_si, gr_sj, gr_stI, gj_stI, gi_stJ, gr_stJ]
  · simp (disch := omega) only [gi_s0, gi_s1, gi_s2, gj_s0, gj_s1, gj_s2, gi_f0, gi_f1, gj_f0, gj_f1, gr_r0, gr_r1, gr_r2, gi_sj, gi_sr, gj_si, gj_sr, gr_si, gr_sj, gr_stI, gj_stI, gi_stJ, gr_stJ]; rw [b2.1 _ (by unfold inS; omega)]; subst e7; simp (disch := omega) only [gi_s0, gi_s1, gi_s2, gj_s0, gj_s1, gj_s2, gi_f0, gi_f1, gj_f0, gj_f1, gr_r0, gr_r1, gr_r2, gi_sj, gi_sr, gj_si, gj_sr, gr_si, gr_sj, gr_stI, gj_stI, gi_stJ, gr_stJ]
  · simp (disch := omega) only [gi_s0, gi_s1, gi_s2, gj_s0, gj_s1, gj_s2, gi_f0, gi_f1, gj_f0, gj_f1, gr_r0, gr_r1, gr_r2, gi_sj, gi_sr, gj_si, gj_sr, gr_si, gr_sj, gr_stI, gj_stI, gi_stJ, gr_stJ]
  · simp (disch := omega) only [gi_s0, gi_s1, gi_s2, gj_s0, gj_s1, gj_s2, gi_f0, gi_f1, gj_f0, gj_f1, gr_r0, gr_r1, gr_r2, gi_sj, gi_sr, gj_si, gj_sr, gr_si, gr_sj, gr_stI, gj_stI, gi_stJ, gr_stJ]
  · simp (disch := omega) only [gi_s0, gi_s1, gi_s2, gj_s0, gj_s1, gj_s2, gi_f0, gi_f1, gj_f0, gj_f1, gr_r0, gr_r1, gr_r2, gi_sj, gi_sr, gj_si, gj_sr, gr_si, gr_sj, gr_stI, gj_stI, gi_stJ, gr_stJ]
  · simp (disch := omega) only [gi_s0, gi_s1, gi_s2, gj_s0, gj_s1, gj_s2, gi_f0, gi_f1, gj_f0, gj_f1, gr_r0, gr_r1, gr_r2, gi_sj, gi_sr, gj_si, gj_sr, gr_si, gr_sj, gr_stI, gj_stI, gi_stJ, gr_stJ]
  · rw [SV_eq (h := h8) (fun q hq2 j => ?_) k, b1 k hk]
    · rfl
    · unfold inS at hq2; simp (disch := omega) only [gi_s0, gi_s1, gi_s2, gj_s0, gj_s1, gj_s2, gi_f0, gi_f1, gj_f0, gj_f1, gr_r0, gr_r1, gr_r2, gi_sj, gi_sr, gj_si, gj_sr, gr_si, gr_sj, gr_stI, gj_stI, gi_stJ, gr_stJ]
theorem g_read (T0 : TPc h f n) (cp : CLf p = 4 ∧ CLf (p + 6) = 9) (pl : 130 ≤ p ∧ p ≤ 190) (ev : CLf (p + 10) = 3 ∧ CLf (p + 14) = 3 ∧ (CLf (p + 2) = 20 ∧ LNf (p + 2) = 6) ∧ CLf (p + 3) = 20 ∧ LNf (p + 3) = 6) (hq : ∀ h', RQ h' f n p (bq (bq (nxt f n (26, 0, 0, 0)) (headP f n)) (linesP f n 900)) → fr (frPg p) h h' → Q none h') : C2 (d + 54) mX5_read [vR 218, vI (n : Int), vR p] h Q := by
  refine EX5_read fun _ => BX5_read_0 cp.1 (fun h1 e1 h2 e2 h3 e3 h4 e4 h5 e5 => ?_)
  have F5 : fr (frPg p) h h5 := by
    subst e5 e4 e3 e2 e1
    exact ((((fr.rf.si (by unfold frPg; omega)).si (by unfold frPg; omega)).si (by unfold frPg; omega)).si (by unfold frPg; omega)).sr (by unfold frPg; omega)
  have r5 : gr h5 218 6 = p := by subst e5; exact gr_r0
  rw [r5]
  refine g_clear (d := d + 51) cp.1 cp.2 (fun h6 z1 z2 f6 => ⟨rfl, ?_⟩)
  have F6 : fr (frPg p) h h6 := F5.tr (f6.mono (fun q k z => Or.inr z))
  have G6 : ∀ k, gi h6 218 k = gi h5 218 k := fun k => f6.1 _ _ (by omega)
  have r6 : gr h6 218 6 = p := by rw [f6.2.2 _ _ (by omega)]; exact r5
  have T6 : TPc h6 f n := T0.keep (fun k => F6.1 _ _ (by unfold frPg; omega))
  refine c_next0 (d := d + 48) (t := (26, 0, 0, 0)) T6 (Nat.zero_le _) ?_ ?_ ?_ ?_ (fun h7 y7 f7 => ⟨rfl, ?_⟩)
  · rw [G6]; subst e5 e4 e3; simp (disch := omega) only [gi_s0, gi_s1, gi_s2, gj_s0, gj_s1, gj_s2, gi_f0, gi_f1, gj_f0, gj_f1, gr_r0, gr_r1, gr_r2, gi_sj, gi_sr, gj_si, gj_sr, gr_si, gr_sj, gr_stI, gj_stI, gi_stJ, gr_stJ]
  · rw [G6]; subst e5 e4; simp (disch := omega) only [gi_s0, gi_s1, gi_s2, gj_s0, gj_s1, gj_s2, gi_f0, gi_f1, gj_f0, gj_f1, gr_r0, gr_r1, gr_r2, gi_sj, gi_sr, gj_si, gj_sr, gr_si, gr_sj, gr_stI, gj_stI, gi_stJ, gr_stJ]
  · rw [G6]; subst e5 e4 e3 e2 e1; simp (disch := omega) only [gi_s0, gi_s1, gi_s2, gj_s0, gj_s1, gj_s2, gi_f0, gi_f1, gj_f0, gj_f1, gr_r0, gr_r1, gr_r2, gi_sj, gi_sr, gj_si, gj_sr, gr_si, gr_sj, gr_stI, gj_stI, gi_stJ, gr_stJ]
  · rw [G6]; subst e5 e4 e3 e2; simp (disch := omega) only [gi_s0, gi_s1, gi_s2, gj_s0, gj_s1, gj_s2, gi_f0, gi_f1, gj_f0, gj_f1, gr_r0, gr_r1, gr_r2, gi_sj, gi_sr, gj_si, gj_sr, gr_si, gr_sj, gr_stI, gj_stI, gi_stJ, gr_stJ]; rfl
  have Ev7 : EVp h7 f n p := ⟨T6.keep (fun k => gF2 f7 _ _ (by omega)), by rw [f7.2.2 _ _ (by unfold frTk; omega)]; exact r6, cp.1, pl.1, pl.2, ev⟩
  have y7' : RT h7 f n (nxt f n (26, 0, 0, 0)) := y7
  refine g_head (d := d + 46) Ev7 y7' ?_ (z2.keepP (fun q k c1 c2 => gF2 f7 _ _ (by omega))) (fun h8 y8 f8 => ⟨rfl, ?_⟩)
  · rw [gF2 f7 _ _ (by omega), gF2 f7 _ _ (by omega), gF2 f7 _ _ (by omega), gF2 f7 _ _ (by omega), gF2 f7 _ _ (by omega), gF2 f7 _ _ (by omega)]
    exact z1
  have F8 : fr (frPg p) h h8 := (F6.tr (f7.mono (fun q k z => frRd_Pg (frTk_Rd z)))).tr (f8.mono (fun q k z => frRd_Pg z))
  refine lines_loop (d := d) 900 0 h8 _ (by omega) (Ev7.keep f8) y8 (fun s e => ?_) (fun h9 y9 f9 => hq h9 y9 (F8.tr (f9.mono (fun q k z => frRd_Pg z))))
  obtain ⟨t, ht, e⟩ := bq_ok e
  have o0 : okU f n (26, 0, 0, 0) := ⟨fun w => by exfalso; have : (26 : Int) ≤ 24 := w.2; omega, Nat.le_refl _, Nat.zero_le _, by decide, fun w => absurd rfl w, fun w => by exfalso; have : (26 : Int) = 25 := w; omega⟩
  exact head_ok (nxt_okV ht o0).1 e
end
