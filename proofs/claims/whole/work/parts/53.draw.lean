/-! THE CLASS: drawing lots -/
def FxL (f : Int → Int) (A : AS) (u v : Nat) : Int := f (lot (g_W (A_g A)) (lot (g_W (A_g A)) (A_st A 18) u) v)
section
variable {d : Nat} {h : PH} {Q : Option PV → PH → Prop}
variable {A : AS} {a : Nat} {pt : Nat → PG}
/-- the draft is the state but for what is hidden -/
def Dr (h : PH) (A : AS) : Prop := ∃ hd, StV h 71 (hdS A hd)
theorem hdS_up (A : AS) (x y : Int) : upf (hdS A x) 18 y = hdS A y := by
  funext k
  unfold hdS upf
  split <;> rfl
theorem row_loop (X0 : RCa h A a pt) {n : Int} {u lim : Nat} (hu : u < 10) (hl : lim ≤ 10) {x0 y0 : Int} (hx0 : 0 ≤ x0 ∧ x0 ≤ 50000) (hy0 : 0 ≤ y0 ∧ y0 ≤ 50000)
    (hq : ∀ h', RCa h' A a pt → Dr h' A → gi h' 64 17 = x0 + sF (fun v => (if v = u then 1 else 2) * FxL (fineL A) A u v) (lim - u) u → gi h' 64 18 = y0 + sF (fun v => (if v = u then 1 else 2) * FxL (linsL A) A u v) (lim - u) u → fr (frZ (pg a)) h h' → T2 (d + 6) mX10_drawLots 33 [some (vR 64), some (vI n), some (vI ((u + 1 : Nat) : Int)), none, none] [] h' Q) :
    ∀ (m v : Nat) (x y : Int) (h1 : PH), v + m = lim → RCa h1 A a pt → Dr h1 A → gi h1 64 17 = x → gi h1 64 18 = y → 0 ≤ x → x + 2 * m ≤ 60000 → 0 ≤ y → y + 50 * m ≤ 60000 → x + sF (fun v => (if v = u then 1 else 2) * FxL (fineL A) A u v) m v = x0 + sF (fun v => (if v = u then 1 else 2) * FxL (fineL A) A u v) (lim - u) u → y + sF (fun v => (if v = u then 1 else 2) * FxL (linsL A) A u v) m v = y0 + sF (fun v => (if v = u then 1 else 2) * FxL (linsL A) A u v) (lim - u) u → fr (frZ (pg a)) h h1 → T2 (d + 6) mX10_drawLots 56 [some (vR 64), some (vI n), some (vI (u : Int)), some (vI (lim : Int)), some (vI (v : Int))] [] h1 Q := by
  obtain ⟨okg, oks, -, -, pc, pu, pl⟩ := X0.okg
  have hh0 : hOK A (A_st A 18) := ⟨oks.2.2.1, oks.2.2.2.1⟩
  intro m
  induction m with
  | zero =>
    intro v x y h1 hv X D h17 h18 p1 p2 p3 p4 ex ey F
    refine BX10_drawLots_56 ⟨fun _ => ?_, fun z => by omega⟩
    rw [w32_r (by omega) (by omega), show ((u : Int) + 1) = ((u + 1 : Nat) : Int) by omega]
    have zx : sF (fun v => (if v = u then 1 else 2) * FxL (fineL A) A u v) 0 v = 0 := rfl
    have zy : sF (fun v => (if v = u then 1 else 2) * FxL (linsL A) A u v) 0 v = 0 := rfl
    exact hq h1 X D (by rw [h17, ← ex, zx]; omega) (by rw [h18, ← ey, zy]; omega) F
  | succ m ih =>
    intro v x y h1 hv X D h17 h18 p1 p2 p3 p4 ex ey F
    obtain ⟨-, -, hR, hS, -⟩ := X.okg
    obtain ⟨hd, D⟩ := D
    refine BX10_drawLots_56 ⟨fun z => by omega, fun _ => ?_⟩
    refine c_lotBit X (fun _ => c_lotBit X (fun _ h2 e2 => ?_))
    subst e2
    have hh : hOK A (lot (g_W (A_g A)) (lot (g_W (A_g A)) (A_st A 18) u) v) := (hh0.lot (by omega)).lot (by omega)
    have e3 : ior (ior (gi h1 67 3) (if u < g_W (A_g A) then ishl 1 (u : Int) else 0)) (if v < g_W (A_g A) then ishl 1 (v : Int) else 0) = lot (g_W (A_g A)) (lot (g_W (A_g A)) (A_st A 18) u) v := by
      rw [show gi h1 67 3 = A_st A 18 from hS 18 (by omega)]; rfl
    rw [e3]
    have D2 : StV (si h1 71 3 (lot (g_W (A_g A)) (lot (g_W (A_g A)) (A_st A 18) u) v)) 71 (hdS A (lot (g_W (A_g A)) (lot (g_W (A_g A)) (A_st A 18) u) v)) := by
      have := D.upd (k := 18) (v := lot (g_W (A_g A)) (lot (g_W (A_g A)) (A_st A 18) u) v) (by omega)
      rw [hdS_up] at this
      exact this
    obtain ⟨X2, F2⟩ := X.draft (h' := si h1 71 3 (lot (g_W (A_g A)) (lot (g_W (A_g A)) (A_st A 18) u) v)) (fr.rf.si (by unfold frD; omega))
    have f1 := fineL_rg A (lot (g_W (A_g A)) (lot (g_W (A_g A)) (A_st A 18) u) v)
    have f2 := linsL_rg okg oks hh
    have go : ∀ t : Nat, t = (if v = u then 1 else 2) → T2 (d + 6) mX10_drawLots 101 [some (vR 64), some (vI n), some (vI (u : Int)), some (vI (lim : Int)), some (vI (v : Int))] [vI (t : Int), vR 64] (si h1 71 3 (lot (g_W (A_g A)) (lot (g_W (A_g A)) (A_st A 18) u) v)) Q := by
      intro t ht
      have t2 : t ≤ 2 := by rw [ht]; split <;> omega
      have tc : (t : Int) = if v = u then 1 else 2 := by rw [ht]; split <;> rfl
      refine BX10_drawLots_101 (c_addDraw X2 hh D2 (x := x) (y := y) (by rw [gi_s1 (by omega)]; exact h17) (by rw [gi_s1 (by omega)]; exact h18) (by omega) (by omega) t2 (fun h3 X3 D3 k1 k2 F3 => ⟨rfl, ?_⟩))
      rw [w32_r (by omega) (by omega), show ((v : Int) + 1) = ((v + 1 : Nat) : Int) by omega]
      have m1 : (t : Int) * fineL A (lot (g_W (A_g A)) (lot (g_W (A_g A)) (A_st A 18) u) v) ≤ 2 * fineL A (lot (g_W (A_g A)) (lot (g_W (A_g A)) (A_st A 18) u) v) := Int.mul_le_mul_of_nonneg_right (by omega) f1.1
      have m2 : 0 ≤ (t : Int) * fineL A (lot (g_W (A_g A)) (lot (g_W (A_g A)) (A_st A 18) u) v) := Int.mul_nonneg (by omega) f1.1
      have m3 : (t : Int) * linsL A (lot (g_W (A_g A)) (lot (g_W (A_g A)) (A_st A 18) u) v) ≤ 2 * linsL A (lot (g_W (A_g A)) (lot (g_W (A_g A)) (A_st A 18) u) v) := Int.mul_le_mul_of_nonneg_right (by omega) f2.1
      have m4 : 0 ≤ (t : Int) * linsL A (lot (g_W (A_g A)) (lot (g_W (A_g A)) (A_st A 18) u) v) := Int.mul_nonneg (by omega) f2.1
      refine ih (v + 1) _ _ h3 (by omega) X3 ⟨_, D3⟩ k1 k2 (by omega) (by omega) (by omega) (by omega) ?_ ?_ ((F.tr F2).tr F3)
      · rw [← ex, tc]
        show _ = x + ((if v = u then 1 else 2) * FxL (fineL A) A u v + sF _ m (v + 1))
        unfold FxL
        omega
      · rw [← ey, tc]
        show _ = y + ((if v = u then 1 else 2) * FxL (linsL A) A u v + sF _ m (v + 1))
        unfold FxL
        omega
    exact ⟨fun z => go 2 (by rw [if_neg (by omega)]), fun z => go 1 (by rw [if_pos (by omega)])⟩
theorem out_loop (X0 : RCa h A a pt) {n : Int} (hn : n = 1 ∨ n = 2) {gx gy : Int}
    (hq : ∀ h', RCa h' A a pt → gi h' 64 17 = gx → gi h' 64 18 = gy → fr (frZ (pg a)) h h' → Q none h') :
    ∀ (m u : Nat) (x y : Int) (h1 : PH), u + m = 10 → RCa h1 A a pt → Dr h1 A → gi h1 64 17 = x → gi h1 64 18 = y → 0 ≤ x → x + 20 * m ≤ 50000 → 0 ≤ y → y + 500 * m ≤ 50000 → x + sF (rwF (FxL (fineL A) A) n) m u = gx → y + sF (rwF (FxL (linsL A) A) n) m u = gy → fr (frZ (pg a)) h h1 → T2 (d + 6) mX10_drawLots 33 [some (vR 64), some (vI n), some (vI (u : Int)), none, none] [] h1 Q := by
  obtain ⟨okg, oks, -, -, pc, pu, pl⟩ := X0.okg
  have hh0 : hOK A (A_st A 18) := ⟨oks.2.2.1, oks.2.2.2.1⟩
  intro m
  induction m with
  | zero =>
    intro u x y h1 hv X D h17 h18 p1 p2 p3 p4 ex ey F
    refine BX10_drawLots_33 ⟨fun _ => ?_, fun z => by omega⟩
    have zx : sF (rwF (FxL (fineL A) A) n) 0 u = 0 := rfl
    have zy : sF (rwF (FxL (linsL A) A) n) 0 u = 0 := rfl
    exact hq h1 X (by rw [h17, ← ex, zx]; omega) (by rw [h18, ← ey, zy]; omega) F
  | succ m ih =>
    intro u x y h1 hv X D h17 h18 p1 p2 p3 p4 ex ey F
    refine BX10_drawLots_33 ⟨fun z => by omega, fun _ => ?_⟩
    have go : ∀ lim : Nat, lim = (if n = 2 then 10 else u + 1) → T2 (d + 6) mX10_drawLots 56 [some (vR 64), some (vI n), some (vI (u : Int)), some (vI (lim : Int)), some (vI (u : Int))] [] h1 Q := by
      intro lim hl
      have l1 : lim ≤ 10 ∧ u < lim := by rw [hl]; split <;> omega
      have r1 : 0 ≤ rwF (FxL (fineL A) A) n u ∧ rwF (FxL (fineL A) A) n u ≤ 20 := by
        have := sF_rg (g := fun v => (if v = u then 1 else 2) * FxL (fineL A) A u v) (M := 2) (fun v => by
          have f1 := fineL_rg A (lot (g_W (A_g A)) (lot (g_W (A_g A)) (A_st A 18) u) v)
          unfold FxL
          split <;> omega) (lim - u) u
        unfold rwF
        rw [← hl]
        omega
      have r2 : 0 ≤ rwF (FxL (linsL A) A) n u ∧ rwF (FxL (linsL A) A) n u ≤ 500 := by
        have key : ∀ k v : Nat, v + k ≤ 10 → 0 ≤ sF (fun v => (if v = u then 1 else 2) * FxL (linsL A) A u v) k v ∧ sF (fun v => (if v = u then 1 else 2) * FxL (linsL A) A u v) k v ≤ 50 * k := by
          intro k
          induction k with
          | zero => intro v _; unfold sF; omega
          | succ k ih2 =>
            intro v hv
            have b := ih2 (v + 1) (by omega)
            have f2 := linsL_rg okg oks ((hh0.lot (u := u) (by omega)).lot (u := v) (by omega))
            show 0 ≤ (if v = u then 1 else 2) * linsL A _ + sF _ k (v + 1) ∧ (if v = u then 1 else 2) * linsL A _ + sF _ k (v + 1) ≤ _
            split <;> omega
        have := key (lim - u) u (by omega)
        unfold rwF
        rw [← hl]
        omega
      have ex2 : rwF (FxL (fineL A) A) n u = sF (fun v => (if v = u then 1 else 2) * FxL (fineL A) A u v) (lim - u) u := by unfold rwF; rw [← hl]
      have ey2 : rwF (FxL (linsL A) A) n u = sF (fun v => (if v = u then 1 else 2) * FxL (linsL A) A u v) (lim - u) u := by unfold rwF; rw [← hl]
      have ex3 : sF (rwF (FxL (fineL A) A) n) (m + 1) u = rwF (FxL (fineL A) A) n u + sF (rwF (FxL (fineL A) A) n) m (u + 1) := rfl
      have ey3 : sF (rwF (FxL (linsL A) A) n) (m + 1) u = rwF (FxL (linsL A) A) n u + sF (rwF (FxL (linsL A) A) n) m (u + 1) := rfl
      refine row_loop X (n := n) (u := u) (lim := lim) (by omega) l1.1 (x0 := x) (y0 := y) (by omega) (by omega) (fun h2 X2 D2 k1 k2 F2 => ?_) (lim - u) u x y h1 (by omega) X D h17 h18 p1 (by omega) p3 (by omega) rfl rfl fr.rf
      rw [← ex2] at k1
      rw [← ey2] at k2
      exact ih (u + 1) _ _ h2 (by omega) X2 D2 k1 k2 (by omega) (by omega) (by omega) (by omega) (by omega) (by omega) (F.tr F2)
    refine ⟨fun z => ?_, fun z => go 10 (by rw [if_pos z])⟩
    rw [w32_r (by omega) (by omega)]
    exact go (u + 1) (by rw [if_neg z])
theorem c_drawLots (X : RCa h A a pt) {n : Nat} (hn : n ≤ 2) (hq : ∀ h', RCa h' A a pt → gi h' 64 17 = lotS (fineL A) (g_W (A_g A)) n (A_st A 18) → gi h' 64 18 = lotS (linsL A) (g_W (A_g A)) n (A_st A 18) → fr (frZ (pg a)) h h' → Q none h') : C2 (d + 6) mX10_drawLots [vR 64, vI (n : Int)] h Q := by
  obtain ⟨okg, oks, hR, hS, pc, pu, pl⟩ := X.okg
  have hh0 : hOK A (A_st A 18) := ⟨oks.2.2.1, oks.2.2.2.1⟩
  refine EX10_drawLots fun _ => BX10_drawLots_0 (fun h1 e1 h2 e2 => ?_)
  subst e1 e2
  obtain ⟨X1, F1⟩ := X.k17 (k := 17) (x := 0) (by omega)
  obtain ⟨X2, F2⟩ := X1.k17 (k := 18) (x := 0) (by omega)
  refine c_draft X2 (fun h3 X3 D3 F3 E3 => ⟨rfl, ?_⟩)
  have g17 : gi h3 64 17 = 0 := by rw [E3 64 17 (by unfold inS; omega), gi_s2 (by omega), gi_s0]
  have g18 : gi h3 64 18 = 0 := by rw [E3 64 18 (by unfold inS; omega), gi_s0]
  have D4 : StV h3 71 (hdS A (A_st A 18)) := fun k hk => by
    rw [D3 k hk]
    unfold hdS upf
    split
    · rename_i e; rw [e]
    · rfl
  have sy : ∀ (f : Int → Int), ∀ u v, u < 10 → v < 10 → FxL f A u v = FxL f A v u := fun f u v hu hv => by unfold FxL; rw [lot_cm (by omega) (by omega)]
  have val : ∀ f : Int → Int, (n = 1 ∨ n = 2) → sF (rwF (FxL f A) (n : Int)) 10 0 = lotS f (g_W (A_g A)) n (A_st A 18) := by
    intro f hn2
    rcases hn2 with rfl | rfl
    · rw [sgl _ (by decide)]
      show sumF (fun u => FxL f A u u) 10 = sumF (fun u => f (lot (g_W (A_g A)) (A_st A 18) u)) 10
      refine sum_ext 10 (fun i hi => ?_)
      unfold FxL; rw [lot_tw (by omega)]
    · -- all symmetric below ten
      have e := dbl (fun u v => if u < 10 ∧ v < 10 then FxL f A u v else 0) (fun u v => by
        by_cases z : u < 10 ∧ v < 10
        · rw [if_pos z, if_pos ⟨z.2, z.1⟩]; exact sy f u v z.1 z.2
        · rw [if_neg z, if_neg (fun w => z ⟨w.2, w.1⟩)])
      have e1 : sF (rwF (FxL f A) 2) 10 0 = sF (rwF (fun u v => if u < 10 ∧ v < 10 then FxL f A u v else 0) 2) 10 0 := by
        simp [sF, rwF]
      have e2 : sumF (fun u => sumF (fun v => if u < 10 ∧ v < 10 then FxL f A u v else 0) 10) 10 = sumF (fun u => sumF (fun v => FxL f A u v) 10) 10 :=
        sum_ext 10 (fun u hu => sum_ext 10 (fun v hv => if_pos ⟨hu, hv⟩))
      show sF (rwF (FxL f A) 2) 10 0 = _
      rw [e1, e, e2]
      rfl
  refine ⟨fun z => ?_, fun z => ?_⟩
  · exact out_loop X3 (n := (n : Int)) (by omega) (gx := lotS (fineL A) (g_W (A_g A)) n (A_st A 18)) (gy := lotS (linsL A) (g_W (A_g A)) n (A_st A 18)) (fun h' X' k1 k2 F' => hq h' X' k1 k2 (((F1.tr F2).tr F3).tr F')) 10 0 0 0 h3 (by omega) X3 ⟨_, D4⟩ g17 g18 (by omega) (by omega) (by omega) (by omega) (by rw [val _ (by omega)]; omega) (by rw [val _ (by omega)]; omega) fr.rf
  · have n0 : n = 0 := by omega
    subst n0
    refine c_addDraw X3 (n := 1) hh0 D4 g17 g18 (by omega) (by omega) (by omega) (fun h4 X4 D5 k1 k2 F4 => ⟨rfl, hq h4 X4 ?_ ?_ (((F1.tr F2).tr F3).tr F4)⟩)
    · rw [k1]; show 0 + 1 * fineL A (A_st A 18) = fineL A (A_st A 18); omega
    · rw [k2]; show 0 + 1 * linsL A (A_st A 18) = linsL A (A_st A 18); omega
theorem c_refusedLots {n what : Int} (hq : Q (some (vI (if what < 0 ∨ 1 < what then -2 else if n < 0 ∨ 2 < n then -3 else 0))) h) : C2 d mX10_refusedLots [vI n, vI what] h Q := by
  refine EX10_refusedLots fun _ _ => BX10_refusedLots_0 ⟨fun z => ?_, fun z => ⟨fun y => ⟨fun u => ?_, fun u => ⟨fun u2 => ?_, fun u2 => ?_⟩⟩, fun y => ?_⟩⟩
  · rw [if_pos (by omega)] at hq; exact hq
  · rw [if_neg (by omega), if_pos (by omega)] at hq; exact hq
  · rw [if_neg (by omega), if_neg (by omega)] at hq; exact hq
  · rw [if_neg (by omega), if_pos (by omega)] at hq; exact hq
  · rw [if_pos (by omega)] at hq; exact hq
theorem c_lotsIn {n : Nat} (hn : n ≤ 2) (hq : Q (some (vI ((10 ^ n : Nat) : Int))) h) : C2 d mX10_lotsIn [vI (n : Int)] h Q := by
  refine EX10_lotsIn fun _ => BX10_lotsIn_0 ⟨fun z => ⟨fun y => ?_, fun y => ?_⟩, fun z => ?_⟩
  · rw [show n = 2 by omega] at hq; exact hq
  · rw [show n = 1 by omega] at hq; exact hq
  · rw [show n = 0 by omega] at hq; exact hq
theorem pow_le {n : Nat} (hn : n ≤ 2) : 0 < 10 ^ n ∧ 10 ^ n ≤ 100 := by
  have : n = 0 ∨ n = 1 ∨ n = 2 := by omega
  rcases this with rfl | rfl | rfl <;> decide
theorem k_chance (X : RC h A) {n what : Int} (hq : ∀ h', RC h' A → fr frCl h h' → Q (some (vI (r_chance A n what))) h') : C2 (d + 7) mX10_chance [vR 64, vI n, vI what] h Q := by
  have hX := X
  obtain ⟨a, pt, X⟩ := X
  obtain ⟨okg, oks, -, -, pc, pu, pl⟩ := X.okg
  have hh0 : hOK A (A_st A 18) := ⟨oks.2.2.1, oks.2.2.2.1⟩
  unfold r_chance r_lots at hq
  refine EX10_chance fun _ _ => BX10_chance_0 (c_refusedLots (fun _ => ?_))
  by_cases z : what < 0 ∨ 1 < what
  · have := hq h hX fr.rf
    rw [if_pos z] at this ⊢
    exact ⟨fun w => absurd w (by decide), fun _ => this⟩
  · by_cases y : n < 0 ∨ 2 < n
    · have := hq h hX fr.rf
      rw [if_neg z, if_pos y] at this ⊢
      exact ⟨fun w => absurd w (by decide), fun _ => this⟩
    · rw [if_neg z, if_neg y] at hq ⊢
      refine ⟨fun _ => ?_, fun w => absurd rfl w⟩
      obtain ⟨m, hm⟩ := ex_nat (x := n) (by omega)
      subst hm
      rw [Int.toNat_natCast] at hq
      have pl2 := pow_le (n := m) (by omega)
      refine c_drawLots X (by omega) (fun h1 X1 k1 k2 F1 => ⟨rfl, c_lotsIn (by omega) (fun _ => ?_)⟩)
      rw [k1]
      have rg := lotS_rg (A := A) (f := fineL A) (M := 1) (fun hd _ => fineL_rg A hd) m _ hh0
      exact c_lowest (by omega) pl2 (fun _ => hq h1 ⟨a, pt, X1⟩ (fr_C1 pu F1))
theorem k_mean (X : RC h A) {n what : Int} (hq : ∀ h', RC h' A → fr frCl h h' → Q (some (vI (r_mean A n what))) h') : C2 (d + 7) mX10_mean [vR 64, vI n, vI what] h Q := by
  have hX := X
  obtain ⟨a, pt, X⟩ := X
  obtain ⟨okg, oks, -, -, pc, pu, pl⟩ := X.okg
  have hh0 : hOK A (A_st A 18) := ⟨oks.2.2.1, oks.2.2.2.1⟩
  unfold r_mean r_lots at hq
  refine EX10_mean fun _ _ => BX10_mean_0 (c_refusedLots (fun _ => ?_))
  by_cases z : what < 0 ∨ 1 < what
  · have := hq h hX fr.rf
    rw [if_pos z] at this ⊢
    exact ⟨fun w => absurd w (by decide), fun _ => this⟩
  · by_cases y : n < 0 ∨ 2 < n
    · have := hq h hX fr.rf
      rw [if_neg z, if_pos y] at this ⊢
      exact ⟨fun w => absurd w (by decide), fun _ => this⟩
    · rw [if_neg z, if_neg y] at hq ⊢
      refine ⟨fun _ => ?_, fun w => absurd rfl w⟩
      obtain ⟨m, hm⟩ := ex_nat (x := n) (by omega)
      subst hm
      rw [Int.toNat_natCast] at hq
      have pl2 := pow_le (n := m) (by omega)
      refine c_drawLots X (by omega) (fun h1 X1 k1 k2 F1 => ⟨rfl, c_lotsIn (by omega) (fun _ => ?_)⟩)
      rw [k2]
      have rg := lotS_rg (A := A) (f := linsL A) (M := 21) (fun hd hh => linsL_rg okg oks hh) m _ hh0
      exact c_lowest (by omega) pl2 (fun _ => hq h1 ⟨a, pt, X1⟩ (fr_C1 pu F1))
end
