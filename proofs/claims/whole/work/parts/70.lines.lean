/-! THE CLASS: ties, words, laws of a page -/
theorem RPg.keep' {h h' : PH} {p : Nat} {g : PG} (a : RPg h p g) (e : ∀ q k, p ≤ q → q ≤ p + 19 → (q < p + 6 ∨ p + 10 ≤ q) → gi h' q k = gi h q k) : RPg h' p g := by
  obtain ⟨⟨a1, a2, a3, a4, a5, a6, a7⟩, b, c, l1, l2, k1, k2⟩ := a
  have ep : ∀ j k, j ≤ 19 → (j < 6 ∨ 10 ≤ j) → gi h' (p + j) k = gi h (p + j) k := fun j k hj hj2 => e _ _ (by omega) (by omega) (by omega)
  have ep0 : ∀ k, gi h' p k = gi h p k := fun k => ep 0 k (by omega) (by omega)
  refine ⟨⟨by rw [ep0]; exact a1, by rw [ep0]; exact a2, by rw [ep0]; exact a3, by rw [ep0]; exact a4, by rw [ep0]; exact a5, by rw [ep0]; exact a6, by rw [ep0]; exact a7⟩, fun i hi => ?_, fun w hw => ?_, l1.keep (ep 10 _ (by omega) (by omega)) (fun k => ep 11 _ (by omega) (by omega)), l2.keep (ep 14 _ (by omega) (by omega)) (fun k => ep 15 _ (by omega) (by omega)), by rw [ep0]; exact k1, by rw [ep0]; exact k2⟩
  · rw [ep 1 i (by omega) (by omega), ep 2 i (by omega) (by omega), ep 3 i (by omega) (by omega)]; exact b i hi
  · rw [ep 4 w (by omega) (by omega), ep 5 w (by omega) (by omega)]; exact c w hw
section
variable {d : Nat} {h : PH} {Q : Option PV → PH → Prop}
variable {f : Nat → Int} {n p : Nat}
theorem RT.isok {r : ER TK} (X : RT h f n r) : gi h 218 8 = 0 ↔ ∃ t, r = .ok t := by
  cases r with
  | ok t => exact ⟨fun _ => ⟨t, rfl⟩, fun _ => X.2.1⟩
  | error e => exact ⟨fun z => absurd (X.1.symm.trans z) X.2.1, fun ⟨t, z⟩ => by cases z⟩
theorem g_tie {s : QS} (Ev : EVp h f n p) (X : RQ h f n p (.ok s)) (h6 : g_S s.2.1 ≤ 6) (hq : ∀ h', RQ h' f n p (tieP f n s) → fr (frRd p) h h' → Q none h') : C2 (d + 7) mX5_tieLine [vR 218] h Q := by
  have pl : 130 ≤ p ∧ p ≤ 190 := ⟨Ev.2.2.2.1, Ev.2.2.2.2.1⟩
  obtain ⟨x0, xP, xS⟩ := id X
  have e5 : gi h p 5 = g_S s.2.1 := xP.1.2.2.2.2.2.1
  refine EX5_tieLine (BX5_tieLine_0 (c_next Ev.1 x0 (fun h1 x1 f1 => ⟨rfl, ?_⟩)))
  have Ev1 := Ev.keep (kF2 f1)
  dsimp only
  rw [Ev1.2.1, gF2 f1 _ _ (by omega), e5, w32_r (by omega) (by omega)]
  refine c_number Ev1.1 x1 (fun h2 v1 x2 f2 _ => ?_)
  have Ev2 := Ev1.keep (kF2 f2)
  refine c_number Ev2.1 x2.tk (fun h3 v2 x3 f3 _ => ?_)
  have Ev3 := Ev2.keep (kF2 f3)
  have F3 : fr (frRd p) h h3 := ((kF2 f1).tr (kF2 f2)).tr (kF2 f3)
  have eq1 : bq (.ok s.1) (nxt f n) = nxt f n s.1 := rfl
  rw [eq1] at x1 x2 x3
  generalize hA1 : bq (nxt f n s.1) (numT f n 0 ((g_S s.2.1 : Int) - 1)) = A1 at *
  generalize hA2 : bq (tk2 A1) (numT f n 0 29) = A2 at *
  have et : tieP f n s = bq A2 fun b => bq A1 fun a => .ok (b.2, s.2.1, upf s.2.2 (12 + a.1.toNat) b.1) := by
    unfold tieP
    subst hA2 hA1
    generalize nxt f n s.1 = r1
    cases r1 with
    | error e => simp only [bq_e, tk2_e]
    | ok t1 =>
      simp only [bq_o]
      generalize numT f n 0 ((g_S s.2.1 : Int) - 1) t1 = r2
      cases r2 with
      | error e => simp only [bq_e, tk2_e]
      | ok a => simp only [bq_o, tk2_o]
  rw [et] at hq
  have g3 : ∀ q k, q ≠ 218 → gi h3 q k = gi h q k := fun q k z => by rw [gF2 f3 _ _ z, gF2 f2 _ _ z, gF2 f1 _ _ z]
  cases A2 with
  | error e =>
    have x3' : RT h3 f n (.error e) := x3
    exact ⟨fun _ => hq h3 x3' F3, fun z => absurd (x3'.1.symm.trans z) x3'.2.1⟩
  | ok b =>
    obtain ⟨a', qa, -⟩ := bq_ok hA2
    obtain ⟨a, qa, -⟩ := tk2_ok qa
    rw [qa] at x2 hA1 hq
    obtain ⟨t1, -, qn⟩ := bq_ok hA1
    have nv := numT_vl qn
    have va : v1 = a.1 := x2.1
    have vb : v2 = b.1 := x3.1
    refine ⟨fun z => absurd x3.2.2.1 z, fun _ => ⟨fun z => by omega, fun _ => ⟨fun z => by omega, fun _ => ⟨by omega, fun h4 e4 => ?_⟩⟩⟩⟩
    rw [Ev3.2.1, va, vb] at e4
    subst e4
    refine hq _ ⟨RT.keep x3.2 (fun k => gi_s1 (by omega)), xP.keep' (fun q k z1 z2 z3 => ?_), ?_⟩ (F3.si (by unfold frRd; omega))
    · rw [gi_s1 (by omega), g3 _ _ (by omega)]
    · refine SV_all (F := upf s.2.2 (12 + a.1.toNat) b.1) (fun j hj => ?_) (fun j hj => ?_) (fun j hj => ?_) ?_ ?_
      · have := xS j (by omega); rw [SV_1 hj] at this
        unfold upf
        rw [if_neg (by omega), gi_s1 (by omega), g3 _ _ (by omega)]; exact this
      · have := xS (6 + j) (by omega); rw [SV_2 hj] at this
        unfold upf
        rw [if_neg (by omega), gi_s1 (by omega), g3 _ _ (by omega)]; exact this
      · have := xS (12 + j) (by omega); rw [SV_3 hj] at this
        unfold upf
        by_cases ej : j = a.1.toNat
        · rw [if_pos (by omega), ej, gi_s0]
        · rw [if_neg (by omega), gi_s2 (by omega), g3 _ _ (by omega)]; exact this
      · unfold upf
        rw [if_neg (by omega), gi_s1 (by omega), g3 _ _ (by omega)]; exact xS 18 (by omega)
      · unfold upf
        rw [if_neg (by omega), gi_s1 (by omega), g3 _ _ (by omega)]; exact xS 19 (by omega)
theorem StV.keepP {h h' : PH} {p : Nat} {st : Nat → Int} (a : StV h (p + 6) st) (e : ∀ q k, p + 6 ≤ q → q ≤ p + 9 → gi h' q k = gi h q k) : StV h' (p + 6) st := a.keep (fun q k z1 z2 => e q k (by omega) (by omega))
theorem words_loop : ∀ (m j : Nat) (h : PH) (r : ER QS), j + m = 900 → EVp h f n p → RQ h f n p r → (∀ s, r = .ok s → g_W s.2.1 ≤ 30) → (∀ h', RQ h' f n p (bq r (wordsL f n m)) → fr (frRd p) h h' → Q none h') → T2 (d + 6) mX5_wordsLine 6 [some (vR 218), some (vI (j : Int)), none] [] h Q := by
  intro m
  induction m with
  | zero =>
    intro j h r hj Ev X hW hq
    refine BX5_wordsLine_6 ⟨fun _ => hq h ?_ fr.rf, fun z => by omega⟩
    cases r with
    | error e => exact X
    | ok s => exact X
  | succ m ih =>
    intro j h r hj Ev X hW hq
    have pl : 130 ≤ p ∧ p ≤ 190 := ⟨Ev.2.2.2.1, Ev.2.2.2.2.1⟩
    have hn := Ev.1.1
    refine BX5_wordsLine_6 ⟨fun z => by omega, fun _ => ?_⟩
    cases r with
    | error e =>
      have X' : RT h f n (.error e) := X
      exact ⟨fun _ => hq h X fr.rf, fun z => by rw [X'.2.2.2] at z; exact absurd z (by decide)⟩
    | ok s =>
      obtain ⟨x0, xP, xS⟩ := id X
      obtain ⟨a0, a1, a2, a3, a4, a5, a6, a7⟩ := id x0
      have e9 : gi h p 9 = g_W s.2.1 := xP.1.2.2.2.2.2.2
      have hWs := hW s rfl
      have b1 := a0.1.2.1
      have b2 := a0.1.2.2.1
      rw [Ev.2.1, e9, a6, a5, a4, w32_r (x := (t_b s.1 : Int) - t_a s.1) (by omega) (by omega)]
      try simp only [Int.toNat_natCast]
      -- one turn of the text
      have one : ∀ h', RQ h' f n p (wordsL f n (m + 1) s) → fr (frRd p) h h' → Q none h' := fun h' y F => hq h' y F
      have unf : ∀ (c1 : 0 ≤ t_k s.1 ∧ t_k s.1 ≤ 24), wordsL f n (m + 1) s = if 12 < t_b s.1 - t_a s.1 then .error (3, t_a s.1) else if g_W s.2.1 = 30 then .error (4, t_a s.1) else bq (nxt f n s.1) fun t => wordsL f n m (t, ((g_wi s.2.1, g_ln s.2.1, g_hi s.2.1, g_le s.2.1, g_to s.2.1, g_S s.2.1, g_W s.2.1 + 1), g_kd s.2.1, g_ac s.2.1, g_tl s.2.1, upf (g_lt s.2.1) (g_W s.2.1) ((t_b s.1 : Int) - t_a s.1), upf (g_fi s.2.1) (g_W s.2.1) (f (t_a s.1) - 97 + 1), g_wl s.2.1, g_gl s.2.1), s.2.2) := fun c1 => by
        show (if t_k s.1 < 0 ∨ 24 < t_k s.1 then _ else _) = _
        rw [if_neg (by omega)]
      have dead : ∀ (k : Int) (hk : k ≠ 0), wordsL f n (m + 1) s = .error (k, t_a s.1) → C2 (d + 5) mX5_fail [vR 218, vI k] h (onV fun h1 => T2 (d + 6) mX5_wordsLine 120 [some (vR 218), some (vI (j : Int)), none] [] h1 Q) := by
        intro k hk he
        refine c_fail x0 hk (fun h1 y1 f1 => ⟨rfl, BX5_wordsLine_120 ?_⟩)
        have Ev1 := Ev.keep (kF2 f1)
        refine c_next Ev1.1 y1 (fun h2 y2 f2 => ⟨rfl, ?_⟩)
        dsimp only
        rw [w32_r (by omega) (by omega), show (j : Int) + 1 = ((j + 1 : Nat) : Int) by omega]
        refine ih (j + 1) h2 (.error (k, t_a s.1)) (by omega) (Ev1.keep (kF2 f2)) y2 (fun s' e => by cases e) (fun h3 y3 f3 => one h3 ?_ (((kF2 f1).tr (kF2 f2)).tr f3))
        rw [he]; exact y3
      refine ⟨fun z => ?_, fun z => ?_⟩
      · refine one h ?_ fr.rf
        have : t_k s.1 < 0 ∨ 24 < t_k s.1 := by
          rcases a0.kd with y | y | y | y
          · exact absurd (ktc_lo y.2) z
          · omega
          · omega
          · omega
        have e : wordsL f n (m + 1) s = .ok s := by
          show (if t_k s.1 < 0 ∨ 24 < t_k s.1 then _ else _) = _
          rw [if_pos this]
        rw [e]; exact X
      · have k24 := (ktc_97 a0).mp z
        have k0 := (a0.2.1 k24).1
        have un := unf ⟨k0, k24⟩
        refine ⟨fun y => ⟨fun w => ⟨⟨by omega, by omega⟩, fun h1 e1 => ?_⟩, fun w => dead 4 (by decide) (by rw [un, if_neg (by omega), if_pos (by omega)])⟩, fun y => dead 3 (by decide) (by rw [un, if_pos (by omega)])⟩
        have hta := a0.1.2.2.2.2.1 (by omega)
        have g13 : gi h1 218 3 = t_a s.1 := by subst e1; rw [gi_s1 (by omega)]; exact a4
        have g165 : gi h1 65 (t_a s.1) = f (t_a s.1) := by subst e1; rw [gi_s1 (by omega), Ev.1.2.2 _ (by omega), sb_L (a0.1.1 ⟨k0, k24⟩)]
        have g16 : gr h1 218 6 = p := by subst e1; exact Ev.2.1
        have hf := Ev.1.2.1 (t_a s.1)
        rw [g13, g16]
        try simp only [Int.toNat_natCast]
        rw [g165, w32_r (x := f (t_a s.1) - 97) (by omega) (by omega), w32_r (by omega) (by omega)]
        refine ⟨⟨by omega, by omega⟩, ⟨by omega, by omega⟩, fun h2 e2 h3 e3 => BX5_wordsLine_120 ?_⟩
        have g26 : gr h2 218 6 = p := by subst e2; exact g16
        have g29 : gi h2 p 9 = g_W s.2.1 := by subst e2 e1; rw [gi_s1 (by omega), gi_s1 (by omega)]; exact e9
        rw [g26, g29, w32_r (by omega) (by omega)] at e3
        have F3 : fr (frRd p) h h3 := by subst e3 e2 e1; exact ((fr.rf.si (by unfold frRd; omega)).si (by unfold frRd; omega)).si (by unfold frRd; omega)
        have Ev3 := Ev.keep F3
        have x3 : RT h3 f n (.ok s.1) := x0.keep (fun k => by subst e3 e2 e1; simp (disch := omega) only [gi_s0, gi_s1, gi_s2, gj_s0, gj_s1, gj_s2, gi_f0, gi_f1, gj_f0, gj_f1, gr_r0, gr_r1, gr_r2, gi_sj, gi_sr, gj_si, gj_sr, gr_si, gr_sj, gr_stI, gj_stI, gi_stJ, gr_stJ])
        refine c_next Ev3.1 x3 (fun h4 y4 f4 => ⟨rfl, ?_⟩)
        dsimp only
        rw [w32_r (by omega) (by omega), show (j : Int) + 1 = ((j + 1 : Nat) : Int) by omega]
        have y4' : RT h4 f n (nxt f n s.1) := y4
        refine ih (j + 1) h4 (bq (nxt f n s.1) fun t => .ok (t, ((g_wi s.2.1, g_ln s.2.1, g_hi s.2.1, g_le s.2.1, g_to s.2.1, g_S s.2.1, g_W s.2.1 + 1), g_kd s.2.1, g_ac s.2.1, g_tl s.2.1, upf (g_lt s.2.1) (g_W s.2.1) ((t_b s.1 : Int) - t_a s.1), upf (g_fi s.2.1) (g_W s.2.1) (f (t_a s.1) - 97 + 1), g_wl s.2.1, g_gl s.2.1), s.2.2)) (by omega) (Ev3.keep (kF2 f4)) ?_ (fun s' e => ?_) (fun h5 y5 f5 => one h5 ?_ ((F3.tr (kF2 f4)).tr f5))
        · cases hx : nxt f n s.1 with
          | error e => rw [hx] at y4'; exact y4'
          | ok t =>
            rw [hx] at y4'
            have G : ∀ q k, q ≠ 218 → ¬ (q = p ∧ k = 9) → ¬ (k = g_W s.2.1 ∧ (q = p + 4 ∨ q = p + 5)) → gi h4 q k = gi h q k := by
              intro q k c1 c2 c3
              rw [gF2 f4 _ _ c1]
              subst e3 e2 e1
              rw [gi_si, if_neg (by omega), gi_si, if_neg (by omega), gi_si, if_neg (by omega)]
            have kk : gi h4 (p + 4) (g_W s.2.1) = (t_b s.1 : Int) - t_a s.1 ∧ gi h4 (p + 5) (g_W s.2.1) = f (t_a s.1) - 97 + 1 ∧ gi h4 p 9 = (g_W s.2.1 : Int) + 1 := by
              rw [gF2 f4 _ _ (by omega), gF2 f4 _ _ (by omega), gF2 f4 _ _ (by omega)]
              subst e3 e2 e1
              refine ⟨?_, ?_, ?_⟩
              · simp (disch := omega) only [gi_s0, gi_s1, gi_s2, gj_s0, gj_s1, gj_s2, gi_f0, gi_f1, gj_f0, gj_f1, gr_r0, gr_r1, gr_r2, gi_sj, gi_sr, gj_si, gj_sr, gr_si, gr_sj, gr_stI, gj_stI, gi_stJ, gr_stJ]
              · simp (disch := omega) only [gi_s0, gi_s1, gi_s2, gj_s0, gj_s1, gj_s2, gi_f0, gi_f1, gj_f0, gj_f1, gr_r0, gr_r1, gr_r2, gi_sj, gi_sr, gj_si, gj_sr, gr_si, gr_sj, gr_stI, gj_stI, gi_stJ, gr_stJ]
              · simp (disch := omega) only [gi_s0, gi_s1, gi_s2, gj_s0, gj_s1, gj_s2, gi_f0, gi_f1, gj_f0, gj_f1, gr_r0, gr_r1, gr_r2, gi_sj, gi_sr, gj_si, gj_sr, gr_si, gr_sj, gr_stI, gj_stI, gi_stJ, gr_stJ]
            obtain ⟨⟨c1, c2, c3, c4, c5, c6, c7⟩, bb, cc, l1, l2, k1, k2⟩ := xP
            refine ⟨y4', ⟨⟨by rw [G _ _ (by omega) (by omega) (by omega)]; exact c1, by rw [G _ _ (by omega) (by omega) (by omega)]; exact c2, by rw [G _ _ (by omega) (by omega) (by omega)]; exact c3, by rw [G _ _ (by omega) (by omega) (by omega)]; exact c4, by rw [G _ _ (by omega) (by omega) (by omega)]; exact c5, by rw [G _ _ (by omega) (by omega) (by omega)]; exact c6, ?_⟩, fun i hi => ?_, fun w hw => ?_, l1.keep (G _ _ (by omega) (by omega) (by omega)) (fun k => G _ _ (by omega) (by omega) (by omega)), l2.keep (G _ _ (by omega) (by omega) (by omega)) (fun k => G _ _ (by omega) (by omega) (by omega)), by rw [G _ _ (by omega) (by omega) (by omega)]; exact k1, by rw [G _ _ (by omega) (by omega) (by omega)]; exact k2⟩, xS.keepP (fun q k z1 z2 => G _ _ (by omega) (by omega) (by omega))⟩
            · rw [kk.2.2]; show (g_W s.2.1 : Int) + 1 = ((g_W s.2.1 + 1 : Nat) : Int); omega
            · rw [G _ _ (by omega) (by omega) (by omega), G _ _ (by omega) (by omega) (by omega), G _ _ (by omega) (by omega) (by omega)]; exact bb i hi
            · have hw' : w < g_W s.2.1 + 1 := hw
              show gi h4 (p + 4) w = upf (g_lt s.2.1) (g_W s.2.1) ((t_b s.1 : Int) - t_a s.1) w ∧ gi h4 (p + 5) w = upf (g_fi s.2.1) (g_W s.2.1) (f (t_a s.1) - 97 + 1) w
              unfold upf
              by_cases ew : w = g_W s.2.1
              · rw [if_pos ew, if_pos ew, ew]; exact ⟨kk.1, kk.2.1⟩
              · rw [if_neg ew, if_neg ew, G _ _ (by omega) (by omega) (by omega), G _ _ (by omega) (by omega) (by omega)]
                exact cc w (by omega)
        · obtain ⟨t, -, e⟩ := bq_ok e
          cases e
          show g_W s.2.1 + 1 ≤ 30
          omega
        · rw [un, if_neg (by omega), if_neg (by omega)]
          rw [bq_as] at y5
          exact y5
theorem g_words {s : QS} (Ev : EVp h f n p) (X : RQ h f n p (.ok s)) (hW : g_W s.2.1 ≤ 30) (hq : ∀ h', RQ h' f n p (wordsP f n s) → fr (frRd p) h h' → Q none h') : C2 (d + 6) mX5_wordsLine [vR 218] h Q := by
  refine EX5_wordsLine (BX5_wordsLine_0 (c_next Ev.1 X.1 (fun h1 x1 f1 => ⟨rfl, ?_⟩)))
  have pl : 130 ≤ p ∧ p ≤ 190 := ⟨Ev.2.2.2.1, Ev.2.2.2.2.1⟩
  refine words_loop 900 0 h1 (bq (nxt f n s.1) fun t => .ok (t, s.2)) (by omega) (Ev.keep (kF2 f1)) ?_ (fun s' e => ?_) (fun h2 y2 f2 => hq h2 ?_ ((kF2 f1).tr f2))
  · have x1' : RT h1 f n (nxt f n s.1) := x1
    cases hx : nxt f n s.1 with
    | error e => rw [hx] at x1'; exact x1'
    | ok t => rw [hx] at x1'; exact ⟨x1', X.2.1.keep (fun q k z1 z2 => gF2 f1 _ _ (by omega)), X.2.2.keepP (fun q k z1 z2 => gF2 f1 _ _ (by omega))⟩
  · obtain ⟨t, -, e⟩ := bq_ok e
    cases e
    exact hW
  · rw [bq_as] at y2
    exact y2
theorem g_law {s : QS} {W : Bool} (Ev : EVp h f n p) (X : RQ h f n p (.ok s)) (hq : ∀ h', RQ h' f n p (lawP f n W s) → fr (frRd p) h h' → Q none h') : C2 (d + 52) mX5_lawLine [vR 218, vR (p + (if W then 10 else 14))] h Q := by
  have pl : 130 ≤ p ∧ p ≤ 190 := ⟨Ev.2.2.2.1, Ev.2.2.2.2.1⟩
  obtain ⟨x0, xP, xS⟩ := id X
  generalize hla : p + (if W then 10 else 14) = la
  have la1 : la = (if W then p + 10 else p + 14) := by rw [← hla]; split <;> rfl
  have la2 : la = p + 10 ∨ la = p + 14 := by rw [la1]; split; exact Or.inl rfl; exact Or.inr rfl
  have cla : CLf la = 3 := by rcases la2 with e | e <;> rw [e]; exact Ev.2.2.2.2.2.1; exact Ev.2.2.2.2.2.2.1
  refine EX5_lawLine (BX5_lawLine_0 cla (fun h1 e1 h2 e2 => ?_))
  have r1 : gr h1 218 7 = la := by subst e1; exact gr_r0
  rw [r1] at e2
  have F2 : fr (frRd p) h h2 := by subst e2 e1; exact (fr.rf.sr (by unfold frRd; omega)).si (by unfold frRd; omega)
  have Ev2 := Ev.keep F2
  have x2 : RT h2 f n (.ok s.1) := x0.keep (fun k => by subst e2 e1; simp (disch := omega) only [gi_s0, gi_s1, gi_s2, gj_s0, gj_s1, gj_s2, gi_f0, gi_f1, gj_f0, gj_f1, gr_r0, gr_r1, gr_r2, gi_sj, gi_sr, gj_si, gj_sr, gr_si, gr_sj, gr_stI, gj_stI, gi_stJ, gr_stJ])
  have g2 : ∀ q k, ¬ (q = la ∧ k = 3) → gi h2 q k = gi h q k := fun q k z => by subst e2 e1; rw [gi_si, if_neg z]; rfl
  have l2 : gi h2 la 3 = 0 := by subst e2; exact gi_s0
  have r2 : gr h2 218 7 = la := by subst e2; exact r1
  refine c_next (d := d + 46) Ev2.1 x2 (fun h3 x3 f3 => ⟨rfl, ?_⟩)
  have Ev3 := Ev2.keep (kF2 f3)
  refine c_sign (d := d + 45) (K := 31) (by omega) (by decide) Ev3.1 x3 (fun h4 x4 f4 => ⟨rfl, ?_⟩)
  have Ev4 := Ev3.keep (kF2 f4)
  have En : ENV h4 f n p la W := ⟨Ev4.1, Ev4.2.1, by rw [f4.2.2 _ _ (by unfold frTk; omega), f3.2.2 _ _ (by unfold frTk; omega)]; exact r2, cla, pl.1, pl.2, la1⟩
  have l4 : gi h4 la 3 = 0 := by rw [gF2 f4 _ _ (by omega), gF2 f3 _ _ (by omega)]; exact l2
  have eq1 : bq (bq (.ok s.1) (nxt f n)) (eatT f n 31) = bq (nxt f n s.1) (eatT f n 31) := rfl
  rw [eq1] at x4
  generalize hr4 : bq (nxt f n s.1) (eatT f n 31) = r4 at *
  have XS : RS h4 f n la 0 (bq r4 fun t => .ok (t, [])) := by
    cases r4 with
    | error e => exact ⟨x4, by omega, by omega⟩
    | ok t => exact ⟨x4, ⟨l4, Nat.zero_le _, fun i hi => absurd hi (Nat.not_lt_zero i)⟩, by show (0 : Int) + 0 ≤ (t_a t : Int); omega⟩
  have MS := lc_sum (f := f) (n := n) (p := p) (la := la) (W := W) (r := 6) (by omega) (l_lvl 6 (by omega))
  have e6 : (6 : Int) - ((6 : Nat) : Int) = 0 := by decide
  rw [e6] at MS
  refine MS (d + 51) h4 _ 0 _ (by omega) (by omega) En XS (fun h5 x5 f5 => ⟨rfl, hq h5 ?_ (((F2.tr (kF2 f3)).tr (kF2 f4)).tr (f5.mono (fun q k z => ?_)))⟩)
  · have el : lawP f n W s = bq (bdn (bq r4 fun t => .ok (t, [])) (sumP f n W (lvl f n W 6))) fun l => .ok (l.1, (s.2.1.1, g_kd s.2.1, g_ac s.2.1, g_tl s.2.1, g_lt s.2.1, g_fi s.2.1, (if W then l.2 else g_wl s.2.1), (if W then g_gl s.2.1 else l.2)), s.2.2) := by
      unfold lawP
      subst hr4
      generalize nxt f n s.1 = q1
      cases q1 with
      | error e => rfl
      | ok t1 =>
        simp only [bq_o]
        generalize eatT f n 31 t1 = q2
        cases q2 with
        | error e => rfl
        | ok t2 => rfl
    rw [el]
    generalize bdn (bq r4 fun t => .ok (t, [])) (sumP f n W (lvl f n W 6)) = rr at *
    cases rr with
    | error e => exact x5.1
    | ok l =>
      have G : ∀ q k, q ≠ 218 → ¬ (q = la ∧ k = 3) → q ≠ la + 1 → gi h5 q k = gi h q k := by
        intro q k c1 c2 c3
        rw [f5.1 _ _ (by unfold frLa frTk; omega), gF2 f4 _ _ c1, gF2 f3 _ _ c1, g2 _ _ c2]
      obtain ⟨⟨c1, c2, c3, c4, c5, c6, c7⟩, bb, cc, l1, l2', k1, k2⟩ := xP
      have xl := x5.2.1
      refine ⟨x5.1, ⟨⟨by rw [G _ _ (by omega) (by omega) (by omega)]; exact c1, by rw [G _ _ (by omega) (by omega) (by omega)]; exact c2, by rw [G _ _ (by omega) (by omega) (by omega)]; exact c3, by rw [G _ _ (by omega) (by omega) (by omega)]; exact c4, by rw [G _ _ (by omega) (by omega) (by omega)]; exact c5, by rw [G _ _ (by omega) (by omega) (by omega)]; exact c6, by rw [G _ _ (by omega) (by omega) (by omega)]; exact c7⟩, fun i hi => ?_, fun w hw => ?_, ?_, ?_, by rw [G _ _ (by omega) (by omega) (by omega)]; exact k1, by rw [G _ _ (by omega) (by omega) (by omega)]; exact k2⟩, xS.keepP (fun q k z1 z2 => G _ _ (by omega) (by omega) (by omega))⟩
      · rw [G _ _ (by omega) (by omega) (by omega), G _ _ (by omega) (by omega) (by omega), G _ _ (by omega) (by omega) (by omega)]; exact bb i hi
      · rw [G _ _ (by omega) (by omega) (by omega), G _ _ (by omega) (by omega) (by omega)]; exact cc w hw
      · cases W with
        | true => rw [if_pos rfl] at la1; subst la1; exact xl
        | false => rw [if_neg (by decide)] at la1; exact l1.keep (G _ _ (by omega) (by omega) (by omega)) (fun k => G _ _ (by omega) (by omega) (by omega))
      · cases W with
        | true => rw [if_pos rfl] at la1; exact l2'.keep (G _ _ (by omega) (by omega) (by omega)) (fun k => G _ _ (by omega) (by omega) (by omega))
        | false => rw [if_neg (by decide)] at la1; subst la1; exact xl
  · unfold frLa frTk at z
    unfold frRd
    omega
end
