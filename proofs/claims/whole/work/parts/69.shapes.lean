/-! THE CLASS: lines of a page -/
section
variable {d : Nat} {h : PH} {Q : Option PV → PH → Prop}
variable {f : Nat → Int} {n p : Nat}
theorem bq_o {α β : Type} {a : α} {F : α → ER β} : bq (.ok a) F = F a := rfl
theorem bq_e {α β : Type} {e : Int × Nat} {F : α → ER β} : bq (.error e) F = .error e := rfl
theorem tk2_o {a : Int × TK} : tk2 (.ok a) = .ok a.2 := rfl
theorem tk2_e {e : Int × Nat} : tk2 (.error e) = .error e := rfl
theorem gF2 {h1 h2 : PH} (a : fr frTk h1 h2) (q k : Nat) (z : q ≠ 218) : gi h2 q k = gi h1 q k := a.1 _ _ (by unfold frTk; omega)
theorem kF2 {h1 h2 : PH} (a : fr frTk h1 h2) : fr (frRd p) h1 h2 := a.mono (fun q k z => frTk_Rd z)
theorem g_outline {s : QS} {kd : Int} (hkd : 0 ≤ kd ∧ kd ≤ 2) (Ev : EVp h f n p) (X : RQ h f n p (.ok s)) (h6 : g_S s.2.1 ≤ 6) (hq : ∀ h', RQ h' f n p (shapeP f n kd s) → fr (frRd p) h h' → Q none h') : C2 (d + 7) mX5_outline [vR 218, vI kd] h Q := by
  have pl : 130 ≤ p ∧ p ≤ 190 := ⟨Ev.2.2.2.1, Ev.2.2.2.2.1⟩
  obtain ⟨x0, xP, xS⟩ := id X
  have e5 : gi h p 5 = g_S s.2.1 := xP.1.2.2.2.2.2.1
  refine EX5_outline fun _ => BX5_outline_0 ?_
  rw [Ev.2.1, e5]
  try simp only [Int.toNat_natCast]
  refine And.symm ⟨fun z => ?_, fun z => ?_⟩
  · refine c_fail x0 (by decide) (fun h1 b1 b2 => ⟨rfl, hq h1 ?_ (kF2 b2)⟩)
    unfold shapeP
    rw [if_pos (by omega)]
    exact b1
  have hS6 : g_S s.2.1 < 6 := by omega
  refine c_next Ev.1 x0 (fun h1 x1 f1 => ⟨rfl, ⟨by omega, by omega⟩, fun h2 e2 => ?_⟩)
  have Ev1 := Ev.keep (kF2 f1)
  rw [Ev1.2.1] at e2
  have F2 : fr (frRd p) h h2 := by subst e2; exact (kF2 f1).si (by unfold frRd; omega)
  have Ev2 := Ev.keep F2
  have y2 : RT h2 f n (bq (.ok s.1) (nxt f n)) := by subst e2; exact x1.keep (fun k => gi_s1 (by omega))
  refine c_number Ev2.1 y2 (fun h3 v1 x3 f3 _ => ⟨⟨by omega, by omega⟩, fun h4 e4 => ?_⟩)
  rw [Ev2.2.1] at e4
  have F4 : fr (frRd p) h h4 := by subst e4; exact (F2.tr (kF2 f3)).si (by unfold frRd; omega)
  have Ev4 := Ev.keep F4
  have y4 : RT h4 f n (tk2 (bq (bq (.ok s.1) (nxt f n)) (numT f n 0 200))) := by subst e4; exact x3.tk.keep (fun k => gi_s1 (by omega))
  refine c_number Ev4.1 y4 (fun h5 v2 x5 f5 _ => ⟨⟨by omega, by omega⟩, fun h6' e6 => ?_⟩)
  rw [Ev4.2.1] at e6
  have F6 : fr (frRd p) h h6' := by subst e6; exact (F4.tr (kF2 f5)).si (by unfold frRd; omega)
  have Ev6 := Ev.keep F6
  generalize hA1 : bq (bq (.ok s.1) (nxt f n)) (numT f n 0 200) = A1 at *
  have y6 : RT h6' f n (tk2 (bq (tk2 A1) (numT f n 0 400))) := by subst e6; exact x5.tk.keep (fun k => gi_s1 (by omega))
  generalize hA2 : bq (tk2 A1) (numT f n 0 400) = A2 at *
  rw [Ev6.2.1]
  -- the page's rows behind all
  have go : ∀ u : Int, u = (if kd = 0 then 200 else 100) → T2 (d + 6 + 1) mX5_outline 96 [some (vR 218), some (vI kd), some (vI (g_S s.2.1 : Int))] [vI u, vI 1, vR 218, vI (g_S s.2.1 : Int), vR (p + 2)] h6' Q := by
    intro u hu
    obtain ⟨-, -, -, -, -, -, -, ⟨c2a, c2b⟩, c3a, c3b⟩ := id Ev
    refine BX5_outline_96 c2a ?_
    rw [c2b]
    refine c_number Ev6.1 y6 (fun h7 v3 x7 f7 _ => ⟨⟨by omega, by omega⟩, fun h8 e8 => ?_⟩)
    try simp only [Int.toNat_natCast]
    simp only [Int.toNat_natCast] at e8
    have F8 : fr (frRd p) h h8 := by subst e8; exact (F6.tr (kF2 f7)).si (by unfold frRd; omega)
    have Ev8 := Ev.keep F8
    have y8 : RT h8 f n (tk2 (bq (tk2 A2) (numT f n 1 u))) := by subst e8; exact x7.tk.keep (fun k => gi_s1 (by omega))
    generalize hA3 : bq (tk2 A2) (numT f n 1 u) = A3 at *
    rw [Ev8.2.1]
    -- the last number is read, or none is
    have fin : ∀ (h9 : PH) (v4 : Int) (A4 : ER (Int × TK)), A4 = (bq A3 fun a => if kd = 1 then .ok (0, a.2) else numT f n 1 200 a.2) → RTn h9 f n v4 A4 → fr frTk h8 h9 → T2 (d + 6 + 1) mX5_outline 125 [some (vR 218), none, none] [vI v4, vI (g_S s.2.1 : Int), vR (p + 3)] h9 Q := by
      intro h9 v4 A4 hA4 x9 f9
      have Ev9 := Ev8.keep (kF2 f9)
      refine BX5_outline_125 c3a ?_
      rw [c3b]
      refine ⟨⟨by omega, by omega⟩, fun h10 e10 h11 e11 => ?_⟩
      simp only [Int.toNat_natCast] at e10
      have r10 : gr h10 218 6 = p := by subst e10; exact Ev9.2.1
      rw [r10] at e11
      have F11 : fr (frRd p) h h11 := by subst e11 e10; exact ((F8.tr (kF2 f9)).si (by unfold frRd; omega)).si (by unfold frRd; omega)
      refine hq h11 ?_ F11
      have y11 : RT h11 f n (tk2 A4) := by subst e11 e10; exact x9.tk.keep (fun k => by simp (disch := omega) only [gi_s0, gi_s1, gi_s2, gj_s0, gj_s1, gj_s2, gi_f0, gi_f1, gj_f0, gj_f1, gr_r0, gr_r1, gr_r2, gi_sj, gi_sr, gj_si, gj_sr, gr_si, gr_sj, gr_stI, gj_stI, gi_stJ, gr_stJ])
      have sh : shapeP f n kd s = bq A4 fun b => bq A3 fun a => bq A2 fun y => bq A1 fun x => .ok (b.2, ((g_wi s.2.1, g_ln s.2.1, g_hi s.2.1, g_le s.2.1, g_to s.2.1, g_S s.2.1 + 1, g_W s.2.1), upf (g_kd s.2.1) (g_S s.2.1) kd, upf (g_ac s.2.1) (g_S s.2.1) a.1, upf (g_tl s.2.1) (g_S s.2.1) b.1, g_lt s.2.1, g_fi s.2.1, g_wl s.2.1, g_gl s.2.1), upf (upf s.2.2 (g_S s.2.1) x.1) (6 + g_S s.2.1) y.1) := by
        unfold shapeP
        rw [if_neg (by omega)]
        subst hA4 hA3 hA2 hA1 hu
        have e0 : bq (.ok s.1) (nxt f n) = nxt f n s.1 := rfl
        rw [e0]
        generalize nxt f n s.1 = r1
        cases r1 with
        | error e => simp only [bq_e, tk2_e]
        | ok t1 =>
          simp only [bq_o]
          generalize numT f n 0 200 t1 = r2
          cases r2 with
          | error e => simp only [bq_e, tk2_e]
          | ok x =>
            simp only [bq_o, tk2_o]
            generalize numT f n 0 400 x.2 = r3
            cases r3 with
            | error e => simp only [bq_e, tk2_e]
            | ok y =>
              simp only [bq_o, tk2_o]
              generalize numT f n 1 (if kd = 0 then 200 else 100) y.2 = r4
              cases r4 with
              | error e => simp only [bq_e]
              | ok a => simp only [bq_o]
      rw [sh]
      cases A4 with
      | error e => exact y11
      | ok b =>
        have vb := x9.1
        obtain ⟨a, qa, -⟩ := bq_ok hA4.symm
        rw [qa] at x7 hA3 ⊢
        have va := x7.1
        obtain ⟨ya, qy, -⟩ := bq_ok hA3
        obtain ⟨y, qy, -⟩ := tk2_ok qy
        rw [qy] at x5 hA2 ⊢
        have vy := x5.1
        obtain ⟨xa, qx, -⟩ := bq_ok hA2
        obtain ⟨x, qx, -⟩ := tk2_ok qx
        rw [qx] at x3 ⊢
        have vx := x3.1
        have G : ∀ q k, q ≠ 218 → ¬ (q = p ∧ k = 5) → ¬ (k = g_S s.2.1 ∧ (q = p + 1 ∨ q = p + 2 ∨ q = p + 3 ∨ q = p + 7 ∨ q = p + 8)) → gi h11 q k = gi h q k := by
          intro q k c1 c2 c3
          subst e11 e10
          rw [gi_si, if_neg (by omega), gi_si, if_neg (by omega), gF2 f9 _ _ c1]
          subst e8
          rw [gi_si, if_neg (by omega), gF2 f7 _ _ c1]
          subst e6
          rw [gi_si, if_neg (by omega), gF2 f5 _ _ c1]
          subst e4
          rw [gi_si, if_neg (by omega), gF2 f3 _ _ c1]
          subst e2
          rw [gi_si, if_neg (by omega), gF2 f1 _ _ c1]
        have kk : gi h11 (p + 1) (g_S s.2.1) = kd ∧ gi h11 (p + 7) (g_S s.2.1) = v1 ∧ gi h11 (p + 8) (g_S s.2.1) = v2 ∧ gi h11 (p + 2) (g_S s.2.1) = v3 ∧ gi h11 (p + 3) (g_S s.2.1) = v4 := by
          subst e11 e10
          refine ⟨?_, ?_, ?_, ?_, ?_⟩
          · rw [gi_s1 (by omega), gi_s1 (by omega), gF2 f9 _ _ (by omega)]
            subst e8
            rw [gi_s1 (by omega), gF2 f7 _ _ (by omega)]
            subst e6
            rw [gi_s1 (by omega), gF2 f5 _ _ (by omega)]
            subst e4
            rw [gi_s1 (by omega), gF2 f3 _ _ (by omega)]
            subst e2
            exact gi_s0
          · rw [gi_s1 (by omega), gi_s1 (by omega), gF2 f9 _ _ (by omega)]
            subst e8
            rw [gi_s1 (by omega), gF2 f7 _ _ (by omega)]
            subst e6
            rw [gi_s1 (by omega), gF2 f5 _ _ (by omega)]
            subst e4
            exact gi_s0
          · rw [gi_s1 (by omega), gi_s1 (by omega), gF2 f9 _ _ (by omega)]
            subst e8
            rw [gi_s1 (by omega), gF2 f7 _ _ (by omega)]
            subst e6
            exact gi_s0
          · rw [gi_s1 (by omega), gi_s1 (by omega), gF2 f9 _ _ (by omega)]
            subst e8
            exact gi_s0
          · rw [gi_s1 (by omega), gi_s0]
        have m5 : gi h11 p 5 = (g_S s.2.1 : Int) + 1 := by
          subst e11
          rw [gi_s0]
          have : gi h10 p 5 = g_S s.2.1 := by
            subst e10
            rw [gi_s1 (by omega), gF2 f9 _ _ (by omega)]
            subst e8
            rw [gi_s1 (by omega), gF2 f7 _ _ (by omega)]
            subst e6
            rw [gi_s1 (by omega), gF2 f5 _ _ (by omega)]
            subst e4
            rw [gi_s1 (by omega), gF2 f3 _ _ (by omega)]
            subst e2
            rw [gi_s1 (by omega), gF2 f1 _ _ (by omega)]
            exact e5
          rw [this, w32_r (by omega) (by omega)]
        obtain ⟨⟨a1, a2, a3, a4, a5, a6, a7⟩, bb, cc, l1, l2, k1, k2⟩ := xP
        refine ⟨y11, ⟨⟨by rw [G _ _ (by omega) (by omega) (by omega)]; exact a1, by rw [G _ _ (by omega) (by omega) (by omega)]; exact a2, by rw [G _ _ (by omega) (by omega) (by omega)]; exact a3, by rw [G _ _ (by omega) (by omega) (by omega)]; exact a4, by rw [G _ _ (by omega) (by omega) (by omega)]; exact a5, ?_, by rw [G _ _ (by omega) (by omega) (by omega)]; exact a7⟩, fun i hi => ?_, fun w hw => ?_, l1.keep (G _ _ (by omega) (by omega) (by omega)) (fun k => G _ _ (by omega) (by omega) (by omega)), l2.keep (G _ _ (by omega) (by omega) (by omega)) (fun k => G _ _ (by omega) (by omega) (by omega)), by rw [G _ _ (by omega) (by omega) (by omega)]; exact k1, by rw [G _ _ (by omega) (by omega) (by omega)]; exact k2⟩, ?_⟩
        · rw [m5]; show (g_S s.2.1 : Int) + 1 = ((g_S s.2.1 + 1 : Nat) : Int); omega
        · have hi' : i < g_S s.2.1 + 1 := hi
          show gi h11 (p + 1) i = upf (g_kd s.2.1) (g_S s.2.1) kd i ∧ gi h11 (p + 2) i = upf (g_ac s.2.1) (g_S s.2.1) a.1 i ∧ gi h11 (p + 3) i = upf (g_tl s.2.1) (g_S s.2.1) b.1 i
          unfold upf
          by_cases ei : i = g_S s.2.1
          · subst ei
            rw [if_pos rfl, if_pos rfl, if_pos rfl]
            exact ⟨kk.1, by rw [kk.2.2.2.1, va], by rw [kk.2.2.2.2, vb]⟩
          · rw [if_neg ei, if_neg ei, if_neg ei, G _ _ (by omega) (by omega) (by omega), G _ _ (by omega) (by omega) (by omega), G _ _ (by omega) (by omega) (by omega)]
            exact bb i (by omega)
        · rw [G _ _ (by omega) (by omega) (by omega), G _ _ (by omega) (by omega) (by omega)]; exact cc w hw
        · refine SV_all (F := upf (upf s.2.2 (g_S s.2.1) x.1) (6 + g_S s.2.1) y.1) (fun j hj => ?_) (fun j hj => ?_) (fun j hj => ?_) ?_ ?_
          · have := xS j (by omega); rw [SV_1 hj] at this
            unfold upf
            rw [if_neg (by omega)]
            by_cases ej : j = g_S s.2.1
            · rw [if_pos ej, ej]; exact kk.2.1.trans vx
            · rw [if_neg ej, G _ _ (by omega) (by omega) (by omega)]; exact this
          · have := xS (6 + j) (by omega); rw [SV_2 hj] at this
            unfold upf
            by_cases ej : j = g_S s.2.1
            · rw [if_pos (by omega), ej]; exact kk.2.2.1.trans vy
            · rw [if_neg (by omega), if_neg (by omega), G _ _ (by omega) (by omega) (by omega)]; exact this
          · have := xS (12 + j) (by omega); rw [SV_3 hj] at this
            unfold upf
            rw [if_neg (by omega), if_neg (by omega), G _ _ (by omega) (by omega) (by omega)]; exact this
          · unfold upf
            rw [if_neg (by omega), if_neg (by omega), G _ _ (by omega) (by omega) (by omega)]; exact xS 18 (by omega)
          · unfold upf
            rw [if_neg (by omega), if_neg (by omega), G _ _ (by omega) (by omega) (by omega)]; exact xS 19 (by omega)
    refine ⟨fun hk => c_number Ev8.1 y8 (fun h9 v4 x9 f9 _ => fin h9 v4 _ ?_ x9 f9), fun hk => fin h8 0 _ rfl ?_ fr.rf⟩
    · rw [tk2_bq]; simp only [if_neg hk]
    · simp only [if_pos hk]
      cases A3 with
      | error e => exact y8
      | ok a => exact ⟨rfl, y8⟩
  refine ⟨fun hk => go 100 (by rw [if_neg hk]), fun hk => go 200 (by rw [if_pos hk])⟩
end
