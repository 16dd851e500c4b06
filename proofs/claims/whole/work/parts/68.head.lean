/-! THE CLASS: pages are read -/
def RPg (h : PH) (p : Nat) (g : PG) : Prop :=
  (gi h p 0 = g_wi g ∧ gi h p 1 = g_ln g ∧ gi h p 2 = g_hi g ∧ gi h p 3 = g_le g ∧ gi h p 4 = g_to g ∧ gi h p 5 = g_S g ∧ gi h p 9 = g_W g) ∧
  (∀ i, i < g_S g → gi h (p + 1) i = g_kd g i ∧ gi h (p + 2) i = g_ac g i ∧ gi h (p + 3) i = g_tl g i) ∧ (∀ w, w < g_W g → gi h (p + 4) w = g_lt g w ∧ gi h (p + 5) w = g_fi g w) ∧
  LawC h (p + 10) (g_wl g) ∧ LawC h (p + 14) (g_gl g) ∧ gi h p 17 = 0 ∧ gi h p 18 = 0
theorem RPg.RCp {h : PH} {p : Nat} {g : PG} (a : RPg h p g) : RCp h p g := by
  obtain ⟨a1, a2, a3, a4, a5, a6, a7⟩ := a
  refine ⟨a1, a2, a3, a4, a5, fun ink _ hb => ?_, fun ink _ hb => ?_⟩
  · rw [a6, bit_0] at hb; cases hb
  · rw [a7, bit_0] at hb; cases hb
def RQ (h : PH) (f : Nat → Int) (n p : Nat) : ER QS → Prop
  | .ok s => RT h f n (.ok s.1) ∧ RPg h p s.2.1 ∧ StV h (p + 6) s.2.2
  | .error e => RT h f n (.error e)
def EVp (h : PH) (f : Nat → Int) (n p : Nat) : Prop := TPc h f n ∧ gr h 218 6 = p ∧ CLf p = 4 ∧ 130 ≤ p ∧ p ≤ 190 ∧ CLf (p + 10) = 3 ∧ CLf (p + 14) = 3 ∧ (CLf (p + 2) = 20 ∧ LNf (p + 2) = 6) ∧ CLf (p + 3) = 20 ∧ LNf (p + 3) = 6
def frRd (p : Nat) : Nat → Nat → Prop := fun q k => (q = 218 ∧ k ≠ 6) ∨ (p ≤ q ∧ q ≤ p + 19)
theorem EVp.keep {h h' : PH} {f : Nat → Int} {n p : Nat} (E : EVp h f n p) (hF : fr (frRd p) h h') : EVp h' f n p := by
  obtain ⟨e1, e2, e3, e4, e5⟩ := E
  exact ⟨e1.keep (fun k => hF.1 _ _ (by unfold frRd; omega)), by rw [hF.2.2 _ _ (by unfold frRd; omega)]; exact e2, e3, e4, e5⟩
theorem frTk_Rd {p q k : Nat} (z : frTk q k) : frRd p q k := by unfold frTk at z; unfold frRd; omega
theorem RPg.keep {h h' : PH} {p : Nat} {g : PG} (a : RPg h p g) (e : ∀ q k, p ≤ q → q ≤ p + 19 → gi h' q k = gi h q k) : RPg h' p g := by
  obtain ⟨⟨a1, a2, a3, a4, a5, a6, a7⟩, b, c, l1, l2, k1, k2⟩ := a
  have ep : ∀ j k, j ≤ 19 → gi h' (p + j) k = gi h (p + j) k := fun j k hj => e _ _ (by omega) (by omega)
  have ep0 : ∀ k, gi h' p k = gi h p k := fun k => ep 0 k (by omega)
  refine ⟨⟨by rw [ep0]; exact a1, by rw [ep0]; exact a2, by rw [ep0]; exact a3, by rw [ep0]; exact a4, by rw [ep0]; exact a5, by rw [ep0]; exact a6, by rw [ep0]; exact a7⟩, fun i hi => ?_, fun w hw => ?_, l1.keep (ep 10 _ (by omega)) (fun k => ep 11 _ (by omega)), l2.keep (ep 14 _ (by omega)) (fun k => ep 15 _ (by omega)), by rw [ep0]; exact k1, by rw [ep0]; exact k2⟩
  · rw [ep 1 i (by omega), ep 2 i (by omega), ep 3 i (by omega)]; exact b i hi
  · rw [ep 4 w (by omega), ep 5 w (by omega)]; exact c w hw
theorem bq_er {α β γ : Type} {r : ER α} {F : α → ER β} {G : α → ER γ} {e : Int × Nat} (hFG : ∀ a, F a = .error e → G a = .error e) (h : bq r F = .error e) : bq r G = .error e := by
  cases r with
  | ok a => exact hFG a h
  | error x => cases h; rfl
def tk2 (r : ER (Int × TK)) : ER TK := bq r fun a => .ok a.2
theorem RTn.tk {h : PH} {f : Nat → Int} {n : Nat} {x : Int} {r : ER (Int × TK)} (X : RTn h f n x r) : RT h f n (tk2 r) := by
  cases r with
  | ok a => exact X.2
  | error e => exact X
theorem RTn.vl {h : PH} {f : Nat → Int} {n : Nat} {x : Int} {a : Int × TK} (X : RTn h f n x (.ok a)) : x = a.1 := X.1
theorem tk2_ok {r : ER (Int × TK)} {t : TK} (h : tk2 r = .ok t) : ∃ a, r = .ok a ∧ a.2 = t := by
  cases r with
  | ok a => cases h; exact ⟨a, rfl, rfl⟩
  | error e => cases h
theorem tk2_bq {β : Type} {r : ER (Int × TK)} {F : TK → ER β} : bq (tk2 r) F = bq r fun a => F a.2 := by cases r <;> rfl
theorem bq_as {α β γ : Type} (r : ER α) (F : α → ER β) (G : β → ER γ) : bq (bq r F) G = bq r fun a => bq (F a) G := by cases r <;> rfl
section
variable {d : Nat} {h : PH} {Q : Option PV → PH → Prop}
variable {f : Nat → Int} {n p : Nat}
theorem numT_vl {lo up : Int} {t : TK} {a : Int × TK} (h : numT f n lo up t = .ok a) : lo ≤ a.1 ∧ a.1 ≤ up ∧ nxt f n t = .ok a.2 ∧ t_k t = 25 := by
  unfold numT at h
  split at h
  · cases h
  · split at h
    · cases h
    · obtain ⟨u, h1, h2⟩ := bq_ok h
      cases h2
      exact ⟨by show lo ≤ t_n t; omega, by show t_n t ≤ up; omega, h1, by omega⟩
theorem g_head {r : ER TK} (Ev : EVp h f n p) (X : RT h f n r) (hg : gi h p 5 = 0 ∧ gi h p 9 = 0 ∧ gi h (p + 10) 3 = 0 ∧ gi h (p + 14) 3 = 0 ∧ gi h p 17 = 0 ∧ gi h p 18 = 0) (hS : StV h (p + 6) st0) (hq : ∀ h', RQ h' f n p (bq r (headP f n)) → fr (frRd p) h h' → Q none h') : C2 (d + 7) mX5_head [vR 218] h Q := by
  have pl : 130 ≤ p ∧ p ≤ 190 := ⟨Ev.2.2.2.1, Ev.2.2.2.2.1⟩
  have T0 := Ev.1
  have p0 := Ev.2.1
  have kT : ∀ {h1 h2 : PH}, TPc h1 f n → fr (frRd p) h1 h2 → TPc h2 f n := fun a b => a.keep (fun k => b.1 _ _ (by unfold frRd; omega))
  have kP : ∀ {h1 h2 : PH}, gr h1 218 6 = p → fr (frRd p) h1 h2 → gr h2 218 6 = p := fun a b => by rw [b.2.2 _ _ (by unfold frRd; omega)]; exact a
  have kF : ∀ {h1 h2 : PH}, fr frTk h1 h2 → fr (frRd p) h1 h2 := fun a => a.mono (fun q k z => frTk_Rd z)
  have gF : ∀ {h1 h2 : PH}, fr frTk h1 h2 → ∀ q k, q ≠ 218 → gi h2 q k = gi h1 q k := fun a q k z => a.1 _ _ (by unfold frTk; omega)
  refine EX5_head (BX5_head_0 ?_)
  refine c_name (i := 1) (K := 0) (by omega) T0 X (by omega) rfl (fun h1 x1 f1 => ⟨rfl, ?_⟩)
  have T1 := kT T0 (kF f1)
  refine c_name (i := 2) (K := 1) (by omega) T1 x1 (by omega) rfl (fun h2 x2 f2 => ⟨rfl, ?_⟩)
  have T2 := kT T1 (kF f2)
  refine c_number T2 x2 (fun h3 v1 x3 f3 _ h4 e4 => ?_)
  rw [kP (kP p0 (kF f1)) (kF f2)] at e4
  have F4 : fr (frRd p) h h4 := by
    subst e4
    exact (((kF f1).tr (kF f2)).tr (kF f3)).si (by unfold frRd; omega)
  have y4 : RT h4 f n (tk2 (bq (bq (bq r (eatT f n 0)) (eatT f n 1)) (numT f n 10 200))) := by subst e4; exact x3.tk.keep (fun k => gi_s1 (by omega))
  have w4 : gi h4 p 0 = v1 := by subst e4; exact gi_s0
  refine c_name (i := 3) (K := 2) (by omega) (kT T0 F4) y4 (by omega) rfl (fun h5 x5 f5 => ⟨rfl, ?_⟩)
  refine c_number (kT (kT T0 F4) (kF f5)) x5 (fun h6 v2 x6 f6 _ h7 e7 => ?_)
  rw [kP (kP p0 F4) (kF f5)] at e7
  have F7 : fr (frRd p) h h7 := by
    subst e7
    exact ((F4.tr (kF f5)).tr (kF f6)).si (by unfold frRd; omega)
  have y7 : RT h7 f n (tk2 (bq (bq (tk2 (bq (bq (bq r (eatT f n 0)) (eatT f n 1)) (numT f n 10 200))) (eatT f n 2)) (numT f n 1 20))) := by subst e7; exact x6.tk.keep (fun k => gi_s1 (by omega))
  have w7 : gi h7 p 0 = v1 ∧ gi h7 p 1 = v2 := by
    subst e7
    exact ⟨by rw [gi_s2 (by omega), gF f6 _ _ (by omega), gF f5 _ _ (by omega)]; exact w4, gi_s0⟩
  refine c_name (i := 4) (K := 3) (by omega) (kT T0 F7) y7 (by omega) rfl (fun h8 x8 f8 => ⟨rfl, ?_⟩)
  refine c_number (kT (kT T0 F7) (kF f8)) x8 (fun h9 v3 x9 f9 _ h10 e10 => ?_)
  rw [kP (kP p0 F7) (kF f8)] at e10
  have F10 : fr (frRd p) h h10 := by
    subst e10
    exact ((F7.tr (kF f8)).tr (kF f9)).si (by unfold frRd; omega)
  generalize hA2 : bq (bq (tk2 (bq (bq (bq r (eatT f n 0)) (eatT f n 1)) (numT f n 10 200))) (eatT f n 2)) (numT f n 1 20) = A2 at *
  have y10 : RT h10 f n (tk2 (bq (bq (tk2 A2) (eatT f n 3)) (numT f n 1 20))) := by subst e10; exact x9.tk.keep (fun k => gi_s1 (by omega))
  have w10 : gi h10 p 0 = v1 ∧ gi h10 p 1 = v2 ∧ gi h10 p 2 = v3 := by
    subst e10
    exact ⟨by rw [gi_s2 (by omega), gF f9 _ _ (by omega), gF f8 _ _ (by omega)]; exact w7.1, by rw [gi_s2 (by omega), gF f9 _ _ (by omega), gF f8 _ _ (by omega)]; exact w7.2, gi_s0⟩
  refine c_name (i := 5) (K := 4) (by omega) (kT T0 F10) y10 (by omega) rfl (fun h11 x11 f11 => ⟨rfl, ?_⟩)
  refine c_number (kT (kT T0 F10) (kF f11)) x11 (fun h12 v4 x12 f12 _ h13 e13 => ?_)
  rw [kP (kP p0 F10) (kF f11)] at e13
  have F13 : fr (frRd p) h h13 := by
    subst e13
    exact ((F10.tr (kF f11)).tr (kF f12)).si (by unfold frRd; omega)
  generalize hA3 : bq (bq (tk2 A2) (eatT f n 3)) (numT f n 1 20) = A3 at *
  have y13 : RT h13 f n (tk2 (bq (bq (tk2 A3) (eatT f n 4)) (numT f n 1 50))) := by subst e13; exact x12.tk.keep (fun k => gi_s1 (by omega))
  have w13 : gi h13 p 0 = v1 ∧ gi h13 p 1 = v2 ∧ gi h13 p 2 = v3 ∧ gi h13 p 3 = v4 := by
    subst e13
    exact ⟨by rw [gi_s2 (by omega), gF f12 _ _ (by omega), gF f11 _ _ (by omega)]; exact w10.1, by rw [gi_s2 (by omega), gF f12 _ _ (by omega), gF f11 _ _ (by omega)]; exact w10.2.1, by rw [gi_s2 (by omega), gF f12 _ _ (by omega), gF f11 _ _ (by omega)]; exact w10.2.2, gi_s0⟩
  refine c_name (i := 6) (K := 5) (by omega) (kT T0 F13) y13 (by omega) rfl (fun h14 x14 f14 => ⟨rfl, ?_⟩)
  refine c_number (kT (kT T0 F13) (kF f14)) x14 (fun h15 v5 x15 f15 _ h16 e16 => ?_)
  rw [kP (kP p0 F13) (kF f14)] at e16
  have F16 : fr (frRd p) h h16 := by
    subst e16
    exact ((F13.tr (kF f14)).tr (kF f15)).si (by unfold frRd; omega)
  generalize hA4 : bq (bq (tk2 A3) (eatT f n 4)) (numT f n 1 50) = A4 at *
  have y16 : RT h16 f n (tk2 (bq (bq (tk2 A4) (eatT f n 5)) (numT f n 0 9))) := by subst e16; exact x15.tk.keep (fun k => gi_s1 (by omega))
  generalize hA5 : bq (bq (tk2 A4) (eatT f n 5)) (numT f n 0 9) = A5 at *
  refine c_sign (K := 30) (by omega) (by decide) (kT T0 F16) y16 (fun h17 x17 f17 => ⟨rfl, fun h18 e18 => ?_⟩)
  rw [kP (kP p0 F16) (kF f17)] at e18
  have F18 : fr (frRd p) h h18 := by
    subst e18
    exact (F16.tr (kF f17)).si (by unfold frRd; omega)
  refine hq h18 ?_ F18
  have x18 : RT h18 f n (bq (tk2 A5) (eatT f n 30)) := by subst e18; exact x17.keep (fun k => gi_s1 (by omega))
  cases hR : bq (tk2 A5) (eatT f n 30) with
  | error e =>
    rw [hR] at x18
    have : bq r (headP f n) = .error e := by
      subst hA5 hA4 hA3 hA2
      simp only [tk2_bq, bq_as] at hR
      refine bq_er (fun t ht => ?_) hR
      unfold headP
      refine bq_er (fun t1 ht => ?_) ht
      refine bq_er (fun t2 ht => ?_) ht
      refine bq_er (fun t3 ht => ?_) ht
      refine bq_er (fun t4 ht => ?_) ht
      refine bq_er (fun t5 ht => ?_) ht
      refine bq_er (fun t6 ht => ?_) ht
      refine bq_er (fun t7 ht => ?_) ht
      refine bq_er (fun t8 ht => ?_) ht
      refine bq_er (fun t9 ht => ?_) ht
      refine bq_er (fun t10 ht => ?_) ht
      refine bq_er (fun t11 ht => ?_) ht
      rw [ht]; rfl
    rw [this]
    exact x18
  | ok t =>
    rw [hR] at x18
    obtain ⟨u5, q5, r5⟩ := bq_ok hR
    obtain ⟨a5, q5, s5⟩ := tk2_ok q5
    rw [q5] at x15
    have v5e := x15.1
    rw [q5] at hA5
    obtain ⟨u4, q4, r4⟩ := bq_ok hA5
    obtain ⟨u4', q4, r4'⟩ := bq_ok q4
    obtain ⟨a4, q4, s4⟩ := tk2_ok q4
    rw [q4] at x12
    have v4e := x12.1
    rw [q4] at hA4
    obtain ⟨u3, q3, r3⟩ := bq_ok hA4
    obtain ⟨u3', q3, r3'⟩ := bq_ok q3
    obtain ⟨a3, q3, s3⟩ := tk2_ok q3
    rw [q3] at x9
    have v3e := x9.1
    rw [q3] at hA3
    obtain ⟨u2, q2, r2⟩ := bq_ok hA3
    obtain ⟨u2', q2, r2'⟩ := bq_ok q2
    obtain ⟨a2, q2, s2⟩ := tk2_ok q2
    rw [q2] at x6
    have v2e := x6.1
    rw [q2] at hA2
    obtain ⟨u1, q1, r1⟩ := bq_ok hA2
    obtain ⟨u1', q1, r1'⟩ := bq_ok q1
    obtain ⟨a1, q1, s1⟩ := tk2_ok q1
    have x3' : RTn h3 f n v1 (bq (bq (bq r (eatT f n 0)) (eatT f n 1)) (numT f n 10 200)) := x3
    rw [q1] at x3'
    have v1e := x3'.1
    obtain ⟨u0, q0, r0⟩ := bq_ok q1
    obtain ⟨u0', q0, r0'⟩ := bq_ok q0
    obtain ⟨t0, q0, r0''⟩ := bq_ok q0
    subst q0
    have n2 := (numT_vl r1).1
    have : bq (.ok t0) (headP f n) = .ok (t, ((a1.1, a2.1.toNat, a3.1, a4.1, 1, 0, 0), g0.2), upf st0 19 a5.1) := by
      show headP f n t0 = _
      unfold headP
      rw [r0'']
      show bq (eatT f n 1 u0') _ = _
      rw [r0']
      show bq (numT f n 10 200 u0) _ = _
      rw [r0]
      show bq (eatT f n 2 a1.2) _ = _
      rw [s1, r1']
      show bq (numT f n 1 20 u1) _ = _
      rw [r1]
      show bq (eatT f n 3 a2.2) _ = _
      rw [s2, r2']
      show bq (numT f n 1 20 u2) _ = _
      rw [r2]
      show bq (eatT f n 4 a3.2) _ = _
      rw [s3, r3']
      show bq (numT f n 1 50 u3) _ = _
      rw [r3]
      show bq (eatT f n 5 a4.2) _ = _
      rw [s4, r4']
      show bq (numT f n 0 9 u4) _ = _
      rw [r4]
      show bq (eatT f n 30 a5.2) _ = _
      rw [s5, r5]
      rfl
    rw [this]
    have G : ∀ q k, q ≠ 218 → ¬ (q = p ∧ (k = 0 ∨ k = 1 ∨ k = 2 ∨ k = 3 ∨ k = 4)) → ¬ (q = p + 6 ∧ k = 4) → gi h18 q k = gi h q k := by
      intro q k c1 c2 c3
      subst e18
      rw [gi_si, if_neg (by omega), gF f17 _ _ c1]
      subst e16
      rw [gi_si, if_neg (by omega), gF f15 _ _ c1, gF f14 _ _ c1]
      subst e13
      rw [gi_si, if_neg (by omega), gF f12 _ _ c1, gF f11 _ _ c1]
      subst e10
      rw [gi_si, if_neg (by omega), gF f9 _ _ c1, gF f8 _ _ c1]
      subst e7
      rw [gi_si, if_neg (by omega), gF f6 _ _ c1, gF f5 _ _ c1]
      subst e4
      rw [gi_si, if_neg (by omega), gF f3 _ _ c1, gF f2 _ _ c1, gF f1 _ _ c1]
    have K : ∀ k, k ≤ 3 → gi h18 p k = gi h13 p k := by
      intro k hk
      subst e18
      rw [gi_si, if_neg (by omega), gF f17 _ _ (by omega)]
      subst e16
      rw [gi_si, if_neg (by omega), gF f15 _ _ (by omega), gF f14 _ _ (by omega)]
    refine ⟨x18, ⟨⟨?_, ?_, ?_, ?_, ?_, ?_, ?_⟩, fun i hi => absurd hi (Nat.not_lt_zero i), fun w hw => absurd hw (Nat.not_lt_zero w), ⟨?_, Nat.zero_le _, fun i hi => absurd hi (Nat.not_lt_zero i)⟩, ⟨?_, Nat.zero_le _, fun i hi => absurd hi (Nat.not_lt_zero i)⟩, ?_, ?_⟩, ?_⟩
    · rw [K 0 (by omega), w13.1]; exact v1e
    · rw [K 1 (by omega), w13.2.1, v2e]
      show a2.1 = ((a2.1.toNat : Nat) : Int)
      omega
    · rw [K 2 (by omega), w13.2.2.1]; exact v3e
    · rw [K 3 (by omega), w13.2.2.2]; exact v4e
    · subst e18; exact gi_s0
    · rw [G _ _ (by omega) (by omega) (by omega)]; exact hg.1
    · rw [G _ _ (by omega) (by omega) (by omega)]; exact hg.2.1
    · rw [G _ _ (by omega) (by omega) (by omega)]; exact hg.2.2.1
    · rw [G _ _ (by omega) (by omega) (by omega)]; exact hg.2.2.2.1
    · rw [G _ _ (by omega) (by omega) (by omega)]; exact hg.2.2.2.2.1
    · rw [G _ _ (by omega) (by omega) (by omega)]; exact hg.2.2.2.2.2
    · refine SV_all (F := upf st0 19 a5.1) (fun j hj => ?_) (fun j hj => ?_) (fun j hj => ?_) ?_ ?_
      · rw [G _ _ (by omega) (by omega) (by omega), ← SV_1 (s := p + 6) hj, hS j (by omega)]; unfold upf; rw [if_neg (by omega)]
      · rw [G _ _ (by omega) (by omega) (by omega), ← SV_2 (s := p + 6) hj, hS (6 + j) (by omega)]; unfold upf; rw [if_neg (by omega)]
      · rw [G _ _ (by omega) (by omega) (by omega), ← SV_3 (s := p + 6) hj, hS (12 + j) (by omega)]; unfold upf; rw [if_neg (by omega)]
      · rw [G _ _ (by omega) (by omega) (by omega)]; exact hS 18 (by omega)
      · subst e18
        rw [gi_si, if_neg (by omega), gF f17 _ _ (by omega)]
        subst e16
        rw [gi_s0]; exact v5e
end
