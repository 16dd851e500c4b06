/-! THE MODEL: shapes and ties of a page -/
section
variable {d : Nat} {h : PH} {Q : Option PV → PH → Prop}
variable {f : Nat → Int} {n : Nat}
theorem MTn.s1 {x : Int} {r : ER (Int × TK)} {k : Nat} {v : Int} (X : MTn h f n x r) : MT (si h 251 k v) f n (tk2 r) := X.tk.s1
theorem n_shapeL {s : QS} {kd : Int} (hkd : t_k s.1 = 6 + kd ∧ 0 ≤ kd ∧ kd ≤ 2) (T : TPm h f n) (X : MQr h f n (.ok s)) (h6 : g_S s.2.1 ≤ 6) (hWs : g_W s.2.1 ≤ 30) (hq : ∀ h', MQr h' f n (shapeP f n kd s) → fr frRm h h' → Q none h') : C2 (d + 8) mX11_readShape [vR 247] h Q := by
  obtain ⟨x0, c, xc, xc2, xP, xS, xN⟩ := id X
  have e5 : gi h 251 5 = g_S s.2.1 := xP.1.2.2.2.2.2.1
  have e9 : gi h 247 9 = t_k s.1 := x0.2.2.1
  refine EX11_readShape (BX11_readShape_0 (d := d + 7) ?_)
  rw [e5, e9, hkd.1, w32_r (x := 6 + kd - 6) (by omega) (by omega), show 6 + kd - 6 = kd by omega]
  refine And.symm ⟨fun z => ?_, fun z => ?_⟩
  · refine m_fails (by decide) x0 (fun h1 b1 b2 b3 => ⟨rfl, BX11_readShape_26 ⟨fun w => absurd w b2, fun _ => hq h1 ?_ (kFm b3)⟩⟩)
    unfold shapeP
    rw [if_pos (by omega)]
    exact b1
  have hS6 : g_S s.2.1 < 6 := by omega
  refine BX11_readShape_26 ⟨fun _ => ?_, fun w => absurd x0.2.1 w⟩
  rw [w32a (k := 13) (n := 13) (s := g_S s.2.1) rfl (by omega), w32a (k := 91) (n := 91) (s := g_S s.2.1) rfl (by omega), w32a (k := 97) (n := 97) (s := g_S s.2.1) rfl (by omega), w32a (k := 19) (n := 19) (s := g_S s.2.1) rfl (by omega)]
  try simp only [Int.toNat_natCast]
  refine m_nextT (d := d + 1) T x0 (fun h1 x1 _ f1' => ⟨rfl, ⟨by omega, by omega⟩, fun h2 e2 => ?_⟩)
  have f1 : fr frMt h h1 := f1'.mono (fun q k z => frNx_t z)
  have F2 : fr frRm h h2 := by subst e2; exact (kFm f1).si (by unfold frRm; omega)
  have y2 : MT h2 f n (nxt f n s.1) := by subst e2; exact x1.s1
  refine m_takes (d := d) (T.rd F2) y2 (fun h3 v1 x3 f3 _ => ⟨⟨by omega, by omega⟩, fun h4 e4 => ?_⟩)
  have F4 : fr frRm h h4 := by subst e4; exact (F2.tr (kFm f3)).si (by unfold frRm; omega)
  generalize hA1 : bq (nxt f n s.1) (numT f n 0 200) = A1 at *
  have y4 : MT h4 f n (tk2 A1) := by subst e4; exact x3.s1
  refine m_takes (d := d) (T.rd F4) y4 (fun h5 v2 x5 f5 _ => ⟨⟨by omega, by omega⟩, fun h6' e6 => ?_⟩)
  have F6 : fr frRm h h6' := by subst e6; exact (F4.tr (kFm f5)).si (by unfold frRm; omega)
  generalize hA2 : bq (tk2 A1) (numT f n 0 400) = A2 at *
  have y6 : MT h6' f n (tk2 A2) := by subst e6; exact x5.s1
  have go : ∀ u : Int, u = (if kd = 0 then 200 else 100) → T2 (d + 7 + 1) mX11_readShape 104 [some (vR 247), some (vI (g_S s.2.1 : Int)), some (vI kd)] [vI u, vI 1, vR 247, vI ((19 + g_S s.2.1 : Nat) : Int), vR 251] h6' Q := by
    intro u hu
    have L251 : LNf 251 = 1213 := by decide
    refine BX11_readShape_104 (by decide) ?_
    rw [L251]
    refine m_takes (d := d) (T.rd F6) y6 (fun h7 v3 x7 f7 _ => ⟨⟨by omega, by omega⟩, fun h8 e8 => ?_⟩)
    simp only [Int.toNat_natCast] at e8
    rw [w32a (k := 25) (n := 25) (s := g_S s.2.1) rfl (by omega)]
    have F8 : fr frRm h h8 := by subst e8; exact (F6.tr (kFm f7)).si (by unfold frRm; omega)
    generalize hA3 : bq (tk2 A2) (numT f n 1 u) = A3 at *
    have y8 : MT h8 f n (tk2 A3) := by subst e8; exact x7.s1
    have fin : ∀ (h9 : PH) (v4 : Int) (A4 : ER (Int × TK)), A4 = (bq A3 fun a => if kd = 1 then .ok (0, a.2) else numT f n 1 200 a.2) → MTn h9 f n v4 A4 → fr frMt h8 h9 → T2 (d + 7 + 1) mX11_readShape 133 [some (vR 247), none, none] [vI v4, vI ((25 + g_S s.2.1 : Nat) : Int), vR 251] h9 Q := by
      intro h9 v4 A4 hA4 x9 f9
      refine BX11_readShape_133 (by decide) ?_
      rw [L251]
      try simp only [Int.toNat_natCast]
      have sh : shapeP f n kd s = bq A4 fun b => bq A3 fun a => bq A2 fun y => bq A1 fun x => .ok (b.2, ((g_wi s.2.1, g_ln s.2.1, g_hi s.2.1, g_le s.2.1, g_to s.2.1, g_S s.2.1 + 1, g_W s.2.1), upf (g_kd s.2.1) (g_S s.2.1) kd, upf (g_ac s.2.1) (g_S s.2.1) a.1, upf (g_tl s.2.1) (g_S s.2.1) b.1, g_lt s.2.1, g_fi s.2.1, g_wl s.2.1, g_gl s.2.1), upf (upf s.2.2 (g_S s.2.1) x.1) (6 + g_S s.2.1) y.1) := by
        unfold shapeP
        rw [if_neg (by omega)]
        subst hA4 hA3 hA2 hA1 hu
        generalize nxt f n s.1 = r1
        cases r1 with
        | error e => simp only [bq_e, tk2_e]
        | ok t1 =>
          simp only [bq_o]
          generalize numT f n 0 200 t1 = r2
          cases r2 with
          | error e => simp only [bq_e, tk2_e]
          | ok x =>
            simp only [bq_o, tk2_o]
            generalize numT f n 0 400 x.2 = r3
            cases r3 with
            | error e => simp only [bq_e, tk2_e]
            | ok y =>
              simp only [bq_o, tk2_o]
              generalize numT f n 1 (if kd = 0 then 200 else 100) y.2 = r4
              cases r4 with
              | error e => simp only [bq_e]
              | ok a => simp only [bq_o]
      rw [sh] at hq
      refine ⟨⟨by omega, by omega⟩, fun h10 e10 => ?_⟩
      have F10 : fr frRm h h10 := by subst e10; exact (F8.tr (kFm f9)).si (by unfold frRm; omega)
      have y10 : MT h10 f n (tk2 A4) := by subst e10; exact x9.s1
      cases A4 with
      | error e =>
        refine ⟨fun _ => hq h10 y10 F10, fun _ h11 e11 => hq h11 ?_ ?_⟩
        · subst e11; exact y10.s1
        · subst e11; exact F10.si (by unfold frRm; omega)
      | ok b =>
        have y10' : MT h10 f n (.ok b.2) := y10
        refine ⟨fun w => absurd y10'.2.1 w, fun _ h11 e11 => ?_⟩
        have F11 : fr frRm h h11 := by subst e11; exact F10.si (by unfold frRm; omega)
        refine hq h11 ?_ F11
        have y11 : MT h11 f n (.ok b.2) := by subst e11; exact y10'.s1
        have vb := x9.1
        obtain ⟨a, qa, qb⟩ := bq_ok hA4.symm
        rw [qa] at x7 hA3 ⊢
        have va := x7.1
        obtain ⟨ya, qy, qa2⟩ := bq_ok hA3
        obtain ⟨y, qy, qy3⟩ := tk2_ok qy
        rw [qy] at x5 hA2 ⊢
        have vy := x5.1
        obtain ⟨xa, qx, qy2⟩ := bq_ok hA2
        obtain ⟨x, qx, qx3⟩ := tk2_ok qx
        rw [qx] at x3 hA1 ⊢
        have vx := x3.1
        obtain ⟨t1, qt, qx2⟩ := bq_ok hA1
        have adv : t_a s.1 ≤ t_a b.2 := by
          obtain ⟨o1, p1⟩ := nxT_ok (by omega) qt x0.1.1
          obtain ⟨o2, -, -, p2⟩ := numT_ok qx2 o1
          rw [← qx3] at qy2
          obtain ⟨o3, -, -, p3⟩ := numT_ok qy2 o2
          rw [← qy3] at qa2
          obtain ⟨o4, -, -, p4⟩ := numT_ok qa2 o3
          by_cases k1 : kd = 1
          · rw [if_pos k1] at qb
            cases qb
            show t_a s.1 ≤ t_a a.2
            omega
          · rw [if_neg k1] at qb
            obtain ⟨o5, -, -, p5⟩ := numT_ok qb o4
            omega
        have G10 : ∀ k, k ≠ 13 + g_S s.2.1 → k ≠ 19 + g_S s.2.1 → k ≠ 25 + g_S s.2.1 → k ≠ 91 + g_S s.2.1 → k ≠ 97 + g_S s.2.1 → gi h10 251 k = gi h 251 k := by
          intro k c1 c2 c3 c4 c5
          subst e10
          rw [gi_s2 c3, gFm f9 _ _ (by omega)]
          subst e8
          rw [gi_s2 c2, gFm f7 _ _ (by omega)]
          subst e6
          rw [gi_s2 c5, gFm f5 _ _ (by omega)]
          subst e4
          rw [gi_s2 c4, gFm f3 _ _ (by omega)]
          subst e2
          rw [gi_s2 c1, gFm f1 _ _ (by omega)]
        have G : ∀ k, k ≠ 5 → k ≠ 13 + g_S s.2.1 → k ≠ 19 + g_S s.2.1 → k ≠ 25 + g_S s.2.1 → k ≠ 91 + g_S s.2.1 → k ≠ 97 + g_S s.2.1 → gi h11 251 k = gi h 251 k := by
          intro k c0 c1 c2 c3 c4 c5
          rw [← G10 k c1 c2 c3 c4 c5]
          subst e11
          exact gi_s2 c0
        have m5 : gi h11 251 5 = (g_S s.2.1 : Int) + 1 := by
          have : gi h10 251 5 = g_S s.2.1 := by rw [G10 _ (by omega) (by omega) (by omega) (by omega) (by omega)]; exact e5
          subst e11
          rw [gi_s0, this, w32_r (by omega) (by omega)]
        have kk : gi h11 251 (13 + g_S s.2.1) = kd ∧ gi h11 251 (91 + g_S s.2.1) = v1 ∧ gi h11 251 (97 + g_S s.2.1) = v2 ∧ gi h11 251 (19 + g_S s.2.1) = v3 ∧ gi h11 251 (25 + g_S s.2.1) = v4 := by
          subst e11 e10
          refine ⟨?_, ?_, ?_, ?_, ?_⟩
          · rw [gi_s2 (by omega), gi_s2 (by omega), gFm f9 _ _ (by omega)]
            subst e8
            rw [gi_s2 (by omega), gFm f7 _ _ (by omega)]
            subst e6
            rw [gi_s2 (by omega), gFm f5 _ _ (by omega)]
            subst e4
            rw [gi_s2 (by omega), gFm f3 _ _ (by omega)]
            subst e2
            exact gi_s0
          · rw [gi_s2 (by omega), gi_s2 (by omega), gFm f9 _ _ (by omega)]
            subst e8
            rw [gi_s2 (by omega), gFm f7 _ _ (by omega)]
            subst e6
            rw [gi_s2 (by omega), gFm f5 _ _ (by omega)]
            subst e4
            exact gi_s0
          · rw [gi_s2 (by omega), gi_s2 (by omega), gFm f9 _ _ (by omega)]
            subst e8
            rw [gi_s2 (by omega), gFm f7 _ _ (by omega)]
            subst e6
            exact gi_s0
          · rw [gi_s2 (by omega), gi_s2 (by omega), gFm f9 _ _ (by omega)]
            subst e8
            exact gi_s0
          · rw [gi_s2 (by omega), gi_s0]
        obtain ⟨⟨a0, a1, a2, a3, a4, a5, a6⟩, bb, cc, l1, l2⟩ := xP
        refine ⟨y11, c, by rw [G _ (by omega) (by omega) (by omega) (by omega) (by omega) (by omega)]; exact xc, by show c ≤ t_a b.2; omega, ⟨⟨by rw [G _ (by omega) (by omega) (by omega) (by omega) (by omega) (by omega)]; exact a0, by rw [G _ (by omega) (by omega) (by omega) (by omega) (by omega) (by omega)]; exact a1, by rw [G _ (by omega) (by omega) (by omega) (by omega) (by omega) (by omega)]; exact a2, by rw [G _ (by omega) (by omega) (by omega) (by omega) (by omega) (by omega)]; exact a3, by rw [G _ (by omega) (by omega) (by omega) (by omega) (by omega) (by omega)]; exact a4, ?_, by rw [G _ (by omega) (by omega) (by omega) (by omega) (by omega) (by omega)]; exact a6⟩, fun i hi => ?_, fun w hw => ?_, ?_, ?_⟩, fun k hk => ?_, by rw [G _ (by omega) (by omega) (by omega) (by omega) (by omega) (by omega)]; exact xN⟩
        · rw [m5]; show (g_S s.2.1 : Int) + 1 = ((g_S s.2.1 + 1 : Nat) : Int); omega
        · have hi' : i < g_S s.2.1 + 1 := hi
          show gi h11 251 (13 + i) = upf (g_kd s.2.1) (g_S s.2.1) kd i ∧ gi h11 251 (19 + i) = upf (g_ac s.2.1) (g_S s.2.1) a.1 i ∧ gi h11 251 (25 + i) = upf (g_tl s.2.1) (g_S s.2.1) b.1 i
          unfold upf
          by_cases ei : i = g_S s.2.1
          · subst ei
            rw [if_pos rfl, if_pos rfl, if_pos rfl]
            exact ⟨kk.1, by rw [kk.2.2.2.1, va], by rw [kk.2.2.2.2, vb]⟩
          · rw [if_neg ei, if_neg ei, if_neg ei, G _ (by omega) (by omega) (by omega) (by omega) (by omega) (by omega), G _ (by omega) (by omega) (by omega) (by omega) (by omega) (by omega), G _ (by omega) (by omega) (by omega) (by omega) (by omega) (by omega)]
            exact bb i (by omega)
        · have hw' : w < g_W s.2.1 := hw
          have hw30 : w < 30 := by omega
          rw [G _ (by omega) (by omega) (by omega) (by omega) (by omega) (by omega), G _ (by omega) (by omega) (by omega) (by omega) (by omega) (by omega)]; exact cc w hw
        · exact l1.keep (by omega) (Nat.le_refl _) (fun j hj => G _ (by omega) (by omega) (by omega) (by omega) (by omega) (by omega))
        · exact l2.keep (by omega) (Nat.le_refl _) (fun j hj => G _ (by omega) (by omega) (by omega) (by omega) (by omega) (by omega))
        · show gi h11 251 (91 + k) = upf (upf s.2.2 (g_S s.2.1) x.1) (6 + g_S s.2.1) y.1 k
          unfold upf
          by_cases e1 : k = 6 + g_S s.2.1
          · rw [if_pos e1, e1, show 91 + (6 + g_S s.2.1) = 97 + g_S s.2.1 by omega]; exact kk.2.2.1.trans vy
          · rw [if_neg e1]
            by_cases e2' : k = g_S s.2.1
            · rw [if_pos e2', e2']; exact kk.2.1.trans vx
            · rw [if_neg e2', G _ (by omega) (by omega) (by omega) (by omega) (by omega) (by omega)]; exact xS k hk
    refine ⟨fun hk => m_takes (d := d) (T.rd F8) y8 (fun h9 v4 x9 f9 _ => fin h9 v4 _ ?_ x9 f9), fun hk => fin h8 0 _ rfl ?_ fr.rf⟩
    · rw [tk2_bq]; simp only [if_neg hk]
    · simp only [if_pos hk]
      cases A3 with
      | error e => exact y8
      | ok a => exact ⟨rfl, y8⟩
  refine ⟨fun hk => go 100 (by rw [if_neg hk]), fun hk => go 200 (by rw [if_pos hk])⟩
theorem n_tieL {s : QS} (k26 : t_k s.1 ≠ 26) (T : TPm h f n) (X : MQr h f n (.ok s)) (h6 : g_S s.2.1 ≤ 6) (hWs : g_W s.2.1 ≤ 30) (hq : ∀ h', MQr h' f n (tieP f n s) → fr frRm h h' → Q none h') : C2 (d + 8) mX11_readTie [vR 247] h Q := by
  obtain ⟨x0, c, xc, xc2, xP, xS, xN⟩ := id X
  have e5 : gi h 251 5 = g_S s.2.1 := xP.1.2.2.2.2.2.1
  refine EX11_readTie (BX11_readTie_0 (d := d + 7) (m_nextT (d := d + 1) T x0 (fun h1 x1 _ f1' => ⟨rfl, ?_⟩)))
  have f1 : fr frMt h h1 := f1'.mono (fun q k z => frNx_t z)
  have T1 := T.mt f1
  dsimp only
  rw [gFm f1 _ _ (by omega), e5, w32_r (by omega) (by omega)]
  refine m_takes2 (d := d) T1 x1 (fun h2 v1 x2 r2 f2 _ => ?_)
  have T2' := T1.mt f2
  refine m_takes2 (d := d) T2' x2.tk (fun h3 v2 x3 r3 f3 _ => ?_)
  have F3 : fr frRm h h3 := ((kFm f1).tr (kFm f2)).tr (kFm f3)
  generalize hA1 : bq (nxt f n s.1) (numT f n 0 ((g_S s.2.1 : Int) - 1)) = A1 at *
  generalize hA2 : bq (tk2 A1) (numT f n 0 29) = A2 at *
  have et : tieP f n s = bq A2 fun b => bq A1 fun a => .ok (b.2, s.2.1, upf s.2.2 (12 + a.1.toNat) b.1) := by
    unfold tieP
    subst hA2 hA1
    generalize nxt f n s.1 = r1
    cases r1 with
    | error e => simp only [bq_e, tk2_e]
    | ok t1 =>
      simp only [bq_o]
      generalize numT f n 0 ((g_S s.2.1 : Int) - 1) t1 = r2
      cases r2 with
      | error e => simp only [bq_e, tk2_e]
      | ok a => simp only [bq_o, tk2_o]
  rw [et] at hq
  have g3 : ∀ q k, q ≠ 247 → gi h3 q k = gi h q k := fun q k z => by rw [gFm f3 _ _ z, gFm f2 _ _ z, gFm f1 _ _ z]
  have vr : gi h3 247 11 = 0 → ∃ a, A1 = .ok a ∧ v1 = a.1 ∧ 0 ≤ v1 ∧ v1 < 6 := fun w => by
    obtain ⟨⟨t, ht⟩, -, -⟩ := r3 w
    obtain ⟨a, qa, -⟩ := tk2_ok ht
    rw [qa] at x2 hA1
    obtain ⟨t1, -, qn⟩ := bq_ok hA1
    have nv := numT_vl qn
    have va : v1 = a.1 := x2.1
    exact ⟨a, qa, va, by omega, by omega⟩
  cases A2 with
  | error e =>
    have x3' : MT h3 f n (.error e) := x3
    refine ⟨fun _ => hq h3 x3' F3, fun z => ?_⟩
    obtain ⟨a, qa, va, v0, v6⟩ := vr z
    rw [w32_r (by omega) (by omega)]
    refine ⟨⟨by omega, by omega⟩, fun h4 e4 => ?_⟩
    subst e4
    exact hq _ x3'.s1 (F3.si (by unfold frRm; omega))
  | ok b =>
    refine ⟨fun z => absurd x3.2.2.1 z, fun z => ?_⟩
    obtain ⟨a, qa, va, v0, v6⟩ := vr z
    rw [qa] at x2 hA1 hA2 hq
    obtain ⟨t1, qt, qn⟩ := bq_ok hA1
    have nv := numT_vl qn
    have vb : v2 = b.1 := x3.1
    have adv : t_a s.1 ≤ t_a b.2 := by
      obtain ⟨o1, p1⟩ := nxT_ok k26 qt x0.1.1
      obtain ⟨o2, -, -, p2⟩ := numT_ok qn o1
      obtain ⟨o3, -, -, p3⟩ := numT_ok (t := a.2) hA2 o2
      omega
    rw [w32_r (by omega) (by omega)]
    refine ⟨⟨by omega, by omega⟩, fun h4 e4 => ?_⟩
    rw [show (103 + v1).toNat = 103 + a.1.toNat by omega] at e4
    have G : ∀ k, k ≠ 103 + a.1.toNat → gi h4 251 k = gi h 251 k := fun k z => by subst e4; rw [gi_s2 z, g3 _ _ (by omega)]
    have y4 : MT h4 f n (.ok b.2) := by subst e4; exact x3.2.s1
    refine hq h4 ?_ (by subst e4; exact F3.si (by unfold frRm; omega))
    obtain ⟨⟨a0, a1, a2, a3, a4, a5, a6⟩, bb, cc, l1, l2⟩ := xP
    refine ⟨y4, c, by rw [G _ (by omega)]; exact xc, by show c ≤ t_a b.2; omega, ⟨⟨by rw [G _ (by omega)]; exact a0, by rw [G _ (by omega)]; exact a1, by rw [G _ (by omega)]; exact a2, by rw [G _ (by omega)]; exact a3, by rw [G _ (by omega)]; exact a4, by rw [G _ (by omega)]; exact a5, by rw [G _ (by omega)]; exact a6⟩, fun i hi => ?_, fun w hw => ?_, ?_, ?_⟩, fun k hk => ?_, by rw [G _ (by omega)]; exact xN⟩
    · have hi' : i < g_S s.2.1 := hi
      rw [G _ (by omega), G _ (by omega), G _ (by omega)]; exact bb i hi
    · have hw' : w < g_W s.2.1 := hw
      have hw30 : w < 30 := by omega
      rw [G _ (by omega), G _ (by omega)]; exact cc w hw
    · exact l1.keep (by omega) (Nat.le_refl _) (fun j hj => G _ (by omega))
    · exact l2.keep (by omega) (Nat.le_refl _) (fun j hj => G _ (by omega))
    · show gi h4 251 (91 + k) = upf s.2.2 (12 + a.1.toNat) b.1 k
      unfold upf
      by_cases e1 : k = 12 + a.1.toNat
      · rw [if_pos e1, e1, ← vb]
        subst e4
        rw [show 91 + (12 + a.1.toNat) = 103 + a.1.toNat by omega, gi_s0]
      · rw [if_neg e1, G _ (by omega)]; exact xS k hk
end
