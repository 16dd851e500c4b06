/-! THE MODEL: page -/
section
variable {f : Nat → Int} {n : Nat}
theorem line_adv {s s' : QS} (q : QI f n (WT true) (WT false) s) (h : lineP f n s = .ok s') : t_a s.1 ≤ t_a s'.1 := by
  unfold lineP at h
  obtain ⟨q1, q2, q3⟩ := id q
  by_cases z1 : 6 ≤ t_k s.1 ∧ t_k s.1 ≤ 8
  · rw [if_pos z1] at h
    unfold shapeP at h
    by_cases z : g_S s.2.1 = 6
    · rw [if_pos z] at h; cases h
    rw [if_neg z] at h
    obtain ⟨t, h1, h⟩ := bq_ok h
    obtain ⟨x, h2, h⟩ := bq_ok h
    obtain ⟨y, h3, h⟩ := bq_ok h
    obtain ⟨a, h4, h⟩ := bq_ok h
    obtain ⟨b, h5, h⟩ := bq_ok h
    obtain ⟨o1, p1⟩ := nxT_ok (by omega) h1 q1
    obtain ⟨o2, -, -, p2⟩ := numT_ok h2 o1
    obtain ⟨o3, -, -, p3⟩ := numT_ok h3 o2
    obtain ⟨o4, -, -, p4⟩ := numT_ok h4 o3
    cases h
    show t_a s.1 ≤ t_a b.2
    by_cases k1 : t_k s.1 - 6 = 1
    · rw [if_pos k1] at h5
      cases h5
      show t_a s.1 ≤ t_a a.2
      omega
    · rw [if_neg k1] at h5
      obtain ⟨o5, -, -, p5⟩ := numT_ok h5 o4
      omega
  rw [if_neg z1] at h
  by_cases z2 : t_k s.1 = 9
  · rw [if_pos z2] at h
    unfold tieP at h
    obtain ⟨t, h1, h⟩ := bq_ok h
    obtain ⟨a, h2, h⟩ := bq_ok h
    obtain ⟨b, h3, h⟩ := bq_ok h
    obtain ⟨o1, p1⟩ := nxT_ok (by omega) h1 q1
    obtain ⟨o2, -, -, p2⟩ := numT_ok h2 o1
    obtain ⟨o3, -, -, p3⟩ := numT_ok h3 o2
    cases h
    show t_a s.1 ≤ t_a b.2
    omega
  rw [if_neg z2] at h
  by_cases z3 : t_k s.1 = 10
  · rw [if_pos z3] at h
    unfold wordsP at h
    obtain ⟨t, h1, h⟩ := bq_ok h
    obtain ⟨o1, p1⟩ := nxT_ok (by omega) h1 q1
    have w := (wordsL_ok 900 (t, s.2) s' ⟨o1, ⟨q2.1, q2.2.1, q2.2.2.1, q2.2.2.2.1, q2.2.2.2.2.1, q2.2.2.2.2.2.1, q2.2.2.2.2.2.2.1, q2.2.2.2.2.2.2.2.1, q2.2.2.2.2.2.2.2.2.1, q2.2.2.2.2.2.2.2.2.2.1, q2.2.2.2.2.2.2.2.2.2.2.1, by show g_to s.2.1 ≤ (t_a t : Int); omega⟩, q3⟩ h).2
    have w' : t_a t ≤ t_a s'.1 := w
    omega
  rw [if_neg z3] at h
  have law : ∀ W : Bool, t_k s.1 ≠ 26 → lawP f n W s = .ok s' → t_a s.1 ≤ t_a s'.1 := fun W hk h => by
    unfold lawP at h
    obtain ⟨t1, h1, h⟩ := bq_ok h
    obtain ⟨t2, h2, h⟩ := bq_ok h
    obtain ⟨l, h3, h⟩ := bq_ok h
    obtain ⟨o1, p1⟩ := nxT_ok hk h1 q1
    obtain ⟨o2, p2⟩ := eatT_ok (by decide) h2 o1
    obtain ⟨o3, c, e3, w3, p3⟩ := sum_ty (MkW W) (lvl_ty (MkW W) 6) (t2, []) l h3 o2
    have p3' : c.length + t_a t2 ≤ t_a l.1 := p3
    cases h
    show t_a s.1 ≤ t_a l.1
    omega
  by_cases z4 : t_k s.1 = 1
  · rw [if_pos z4] at h; exact law true (by omega) h
  rw [if_neg z4] at h
  by_cases z5 : t_k s.1 = 11
  · rw [if_pos z5] at h; exact law false (by omega) h
  rw [if_neg z5] at h
  cases h
end
section
variable {d : Nat} {h : PH} {Q : Option PV → PH → Prop}
variable {f : Nat → Int} {n : Nat}
theorem n_line {s : QS} (T : TPm h f n) (X : MQr h f n (.ok s)) (hS : g_S s.2.1 ≤ 6) (hW : g_W s.2.1 ≤ 30) (hq : ∀ h', MQr h' f n (lineP f n s) → fr frRm h h' → Q none h') : C2 (d + 55) mX11_readLine [vR 247] h Q := by
  have x0 := X.1
  have e9 : gi h 247 9 = t_k s.1 := x0.2.2.1
  unfold lineP at hq
  have at33 : ¬ (6 ≤ t_k s.1 ∧ t_k s.1 ≤ 8) → T2 (d + 54 + 1) mX11_readLine 33 [some (vR 247)] [] h Q := fun z => by
    rw [if_neg z] at hq
    refine BX11_readLine_33 (d := d + 54) (m_is (by decide) x0 (fun z _ => ⟨fun w => absurd w (by decide), fun _ => ?_⟩) (fun n4 _ => ⟨fun _ => ?_, fun w => absurd rfl w⟩))
    · have e := isK_ok.mp z
      rw [if_pos e] at hq
      exact n_tieL (d := d + 46) (by omega) T X hS hW (fun h1 y1 f1 => ⟨rfl, hq h1 y1 f1⟩)
    rw [if_neg (fun e => n4 (isK_ok.mpr e))] at hq
    refine m_is (by decide) x0 (fun z _ => ⟨fun w => absurd w (by decide), fun _ => ?_⟩) (fun n5 _ => ⟨fun _ => ?_, fun w => absurd rfl w⟩)
    · have e := isK_ok.mp z
      rw [if_pos e] at hq
      exact n_wordsL (d := d + 47) T X hS hW (fun h1 y1 f1 => ⟨rfl, hq h1 y1 f1⟩)
    rw [if_neg (fun e => n5 (isK_ok.mpr e))] at hq
    refine m_is (by decide) x0 (fun z _ => ⟨fun w => absurd w (by decide), fun _ => ?_⟩) (fun n6 _ => ⟨fun _ => ?_, fun w => absurd rfl w⟩)
    · have e := isK_ok.mp z
      rw [if_pos e] at hq
      exact n_lawL (d := d) (W := true) rfl (by omega) T X hS hW (fun h1 y1 f1 => ⟨rfl, hq h1 y1 f1⟩)
    rw [if_neg (fun e => n6 (isK_ok.mpr e))] at hq
    refine m_is (by decide) x0 (fun z _ => ⟨fun w => absurd w (by decide), fun _ => ?_⟩) (fun n7 _ => ⟨fun _ => ?_, fun w => absurd rfl w⟩)
    · have e := isK_ok.mp z
      rw [if_pos e] at hq
      exact n_lawL (d := d) (W := false) rfl (by omega) T X hS hW (fun h1 y1 f1 => ⟨rfl, hq h1 y1 f1⟩)
    rw [if_neg (fun e => n7 (isK_ok.mpr e))] at hq
    exact m_fails (by decide) x0 (fun h1 y1 _ f1 => ⟨rfl, hq h1 y1 (kFm f1)⟩)
  refine EX11_readLine (BX11_readLine_0 (d := d + 54) ?_)
  rw [e9]
  refine ⟨fun _ => ⟨fun z => at33 (by omega), fun z => ⟨fun y => at33 (by omega), fun y => ?_⟩⟩, fun w => absurd x0.2.1 w⟩
  rw [if_pos ⟨z, y⟩] at hq
  exact n_shapeL (d := d + 46) (kd := t_k s.1 - 6) ⟨by omega, by omega, by omega⟩ T X hS hW (fun h1 y1 f1 => ⟨rfl, hq h1 y1 f1⟩)
theorem n_close {r : ER QS} {P : PH → Prop} (T : TPm h f n) (X : MQr h f n r) (hI : ∀ s, r = .ok s → QI f n (WT true) (WT false) s) (hq : ∀ h', MQr h' f n (bq r (closeQ f n)) → (∀ e, r = .error e → gi h' 247 11 ≠ 0) → fr frRm h h' → P h') : C2 (d + 8) mX11_closes [vR 247] h (onV fun h2 => P h2) := by
  refine EX11_closes (BX11_closes_0 (d := d + 7) (m_eatF (K := 30) (by decide) T X.tk (fun h1 x1 z1 f1 => BX11_closes_14 (fun h2 e2 => ⟨rfl, ?_⟩))))
  have F2 : fr frRm h h2 := by subst e2; exact (kFm f1).si (by unfold frRm; omega)
  have x2 : MT h2 f n (bq (tkq r) (eatT f n 30)) := by subst e2; exact x1.s1
  have g2 : ∀ k, gi h2 247 k = gi h1 247 k := fun k => by subst e2; exact gi_s1 (by omega)
  refine hq h2 ?_ (fun e he w => ?_) F2
  · cases r with
    | error e => exact x2
    | ok s =>
      have x2' : MT h2 f n (eatT f n 30 s.1) := x2
      show MQr h2 f n (bq (eatT f n 30 s.1) fun t => .ok (toldQ (t, s.2)))
      cases ht : eatT f n 30 s.1 with
      | error e => rw [ht] at x2'; exact x2'
      | ok t =>
        rw [ht] at x2'
        obtain ⟨x0, c, xc, xc2, xP, xS, xN⟩ := id X
        have q := hI s rfl
        have q2 := q.2.1.2.2.2.2.2.2.2.2.2.2
        have q3 := q.1.2.1
        have q4 := q.1.2.2.1
        have hn := T.1
        have adv := (eatT_ok (by decide) ht q.1).2
        have G : ∀ k, k ≠ 0 → gi h2 251 k = gi h 251 k := fun k z => by subst e2; rw [gi_s2 z, gFm f1 _ _ (by omega)]
        obtain ⟨⟨a0, a1, a2, a3, a4, a5, a6⟩, bb, cc, l1, l2⟩ := xP
        have z0 : gi h2 251 0 = g_to s.2.1 + 1 := by
          have : gi h1 251 0 = g_to s.2.1 := by rw [gFm f1 _ _ (by omega)]; exact a0
          subst e2
          rw [gi_s0, this, w32_r (by omega) (by omega)]
        refine ⟨x2', c, by rw [G _ (by omega)]; exact xc, by show c ≤ t_a t; omega, ⟨⟨z0, by rw [G _ (by omega)]; exact a1, by rw [G _ (by omega)]; exact a2, by rw [G _ (by omega)]; exact a3, by rw [G _ (by omega)]; exact a4, by rw [G _ (by omega)]; exact a5, by rw [G _ (by omega)]; exact a6⟩, fun i hi => by rw [G _ (by omega), G _ (by omega), G _ (by omega)]; exact bb i hi, fun w hw => by rw [G _ (by omega), G _ (by omega)]; exact cc w hw, l1.keep (by omega) (Nat.le_refl _) (fun j _ => G _ (by omega)), l2.keep (by omega) (Nat.le_refl _) (fun j _ => G _ (by omega))⟩, fun k hk => by rw [G _ (by omega)]; exact xS k hk, by rw [G _ (by omega)]; exact xN⟩
  · subst he
    rw [g2] at w
    obtain ⟨t, ht, -⟩ := z1 e rfl w
    cases ht
theorem n_lines : ∀ (m : Nat) (h : PH) (r : ER QS), TPm h f n → MQr h f n r → (∀ s, r = .ok s → QI f n (WT true) (WT false) s ∧ n ≤ t_a s.1 + m) → (∀ h', MQr h' f n (bq r (linesP f n m)) → (∀ e, bq r (linesP f n m) = .error e → gi h' 247 11 ≠ 0) → fr frRm h h' → T2 (d + 56) mX11_page 88 [some (vR 247), none, none] [] h' Q) → T2 (d + 56) mX11_page 61 [some (vR 247), none, none] [] h Q := by
  have err : ∀ (h : PH) (e : Int × Nat), TPm h f n → MQr h f n (.error e) → (∀ h', MQr h' f n (.error e) → gi h' 247 11 ≠ 0 → fr frRm h h' → T2 (d + 56) mX11_page 88 [some (vR 247), none, none] [] h' Q) → T2 (d + 56) mX11_page 61 [some (vR 247), none, none] [] h Q := fun h e T X hq => by
    refine BX11_page_61 (d := d + 55) ⟨fun w => hq h X w fr.rf, fun z => ?_⟩
    have X' : MT h f n (.error e) := X
    rcases id X' with ⟨a, b, -⟩ | ⟨a, b, -⟩
    · exact absurd (a.symm.trans z) b
    · rw [b]
      refine ⟨fun w => absurd w (by decide), fun _ => ?_⟩
      refine EX11_readLine (BX11_readLine_0 (d := d + 54) ?_)
      rw [b]
      refine ⟨fun _ => ⟨fun w => absurd w (by decide), fun _ => ⟨fun _ => ?_, fun w => absurd w (by decide)⟩⟩, fun w => absurd a w⟩
      refine BX11_readLine_33 (d := d + 54) (m_is (by decide) X' (fun z => absurd z isK_err) (fun _ _ => ⟨fun _ => ?_, fun w => absurd rfl w⟩))
      refine m_is (by decide) X' (fun z => absurd z isK_err) (fun _ _ => ⟨fun _ => ?_, fun w => absurd rfl w⟩)
      refine m_is (by decide) X' (fun z => absurd z isK_err) (fun _ _ => ⟨fun _ => ?_, fun w => absurd rfl w⟩)
      refine m_is (by decide) X' (fun z => absurd z isK_err) (fun _ _ => ⟨fun _ => ?_, fun w => absurd rfl w⟩)
      refine m_fails (by decide) X' (fun h1 y1 y2 f1 => ⟨rfl, rfl, ?_⟩)
      have T1 := T.mt f1
      have y1' : MQr h1 f n (.error e) := y1
      refine n_close (d := d + 47) T1 y1' (fun s hs => by cases hs) (fun h2 b1 b2 b3 => ?_)
      have n2 := b2 e rfl
      exact BX11_page_61 (d := d + 55) ⟨fun w => hq h2 b1 w ((kFm f1).tr b3), fun w => absurd w n2⟩
  intro m
  induction m with
  | zero =>
    intro h r T X hI hq
    cases r with
    | error e => exact err h e T X (fun h' a b c => hq h' a (fun _ _ => b) c)
    | ok s =>
      have x0 := X.1
      have hl := (hI s rfl).2
      have k26 : t_k s.1 = 26 := by
        apply Classical.byContradiction
        intro k
        have := x0.1.1.2.2.2.2.1 k
        have := x0.1.1.2.2.1
        omega
      refine BX11_page_61 (d := d + 55) ⟨fun w => absurd x0.2.1 w, fun z => ?_⟩
      rw [x0.2.2.1, k26]
      exact ⟨fun _ => hq h X (fun e he => by cases he) fr.rf, fun w => absurd rfl w⟩
  | succ m ih =>
    intro h r T X hI hq
    cases r with
    | error e => exact err h e T X (fun h' a b c => hq h' a (fun _ _ => b) c)
    | ok s =>
      have x0 := X.1
      obtain ⟨q, hl⟩ := hI s rfl
      refine BX11_page_61 (d := d + 55) ⟨fun w => absurd x0.2.1 w, fun z => ?_⟩
      rw [x0.2.2.1]
      by_cases e26 : t_k s.1 = 26
      · refine ⟨fun _ => ?_, fun w => absurd e26 w⟩
        have e : bq (.ok s) (linesP f n (m + 1)) = .ok s := by
          show (if t_k s.1 = 26 then (Except.ok s : ER QS) else _) = _
          rw [if_pos e26]
        rw [e] at hq
        exact hq h X (fun e he => by cases he) fr.rf
      · refine ⟨fun w => absurd w e26, fun _ => ?_⟩
        have elp : bq (.ok s) (linesP f n (m + 1)) = bq (bq (lineP f n s) (closeQ f n)) (linesP f n m) := by
          show (if t_k s.1 = 26 then .ok s else bq (lineP f n s) fun s1 => bq (eatT f n 30 s1.1) fun t => linesP f n m (toldQ (t, s1.2))) = _
          rw [if_neg e26]
          generalize lineP f n s = r1
          cases r1 with
          | error e => rfl
          | ok s1 =>
            show bq (eatT f n 30 s1.1) _ = bq (bq (eatT f n 30 s1.1) _) _
            generalize eatT f n 30 s1.1 = r2
            cases r2 <;> rfl
        rw [elp] at hq
        refine n_line (d := d) T X q.2.1.2.2.2.2.2.2.2.2.1 q.2.1.2.2.2.2.2.2.2.2.2.1 (fun h1 y1 f1 => ⟨rfl, ?_⟩)
        have T1 := T.rd f1
        refine n_close (d := d + 47) T1 y1 (fun s1 hs => line_ok (MkW true) (MkW false) q hs) (fun h2 b1 b2 b3 => ?_)
        refine ih h2 _ (T1.rd b3) b1 (fun s' e => ?_) (fun h3 c1 c2 c3 => hq h3 c1 c2 ((f1.tr b3).tr c3))
        obtain ⟨s1, hl1, e⟩ := bq_ok e
        obtain ⟨t, ht, e⟩ := bq_ok e
        cases e
        have q1 := line_ok (MkW true) (MkW false) q hl1
        obtain ⟨o, pp⟩ := eatT_ok (by decide) ht q1.1
        have ad := line_adv q hl1
        exact ⟨told_ok q1 o pp, by show n ≤ t_a t + m; omega⟩
/-- the plain page -/
def plnV (k : Nat) : Int := if k = 1 then 40 else if k = 2 then 10 else if k = 3 then 5 else if k = 4 then 4 else if 103 ≤ k ∧ k < 109 then -1 else 0
theorem n_plain {l0 : Nat} (cl0 : CLf l0 = 20) (ln0 : 1213 ≤ LNf l0) (hq : ∀ h', (∀ k, k < 1213 → gi h' l0 k = plnV k) → fr (fun q k => q = l0 ∧ k < 1213) h h' → Q none h') : C2 d mX11_plain [vR l0] h Q := by
  have tie : ∀ (m j : Nat) (h1 : PH), j + m = 6 → (∀ k, k < 1213 → gi h1 l0 k = if 103 + j ≤ k ∧ k < 109 then 0 else plnV k) → fr (fun q k => q = l0 ∧ k < 1213) h h1 → T2 d mX11_plain 39 [some (vR l0), some (vI (j : Int))] [] h1 Q := by
    intro m
    induction m with
    | zero =>
      intro j h1 hj h2 hF
      refine BX11_plain_39 cl0 ⟨fun _ => hq h1 (fun k hk => ?_) hF, fun z => by omega⟩
      rw [h2 k hk, if_neg (by omega)]
    | succ m ih =>
      intro j h1 hj h2 hF
      refine BX11_plain_39 cl0 ⟨fun z => by omega, fun _ => ?_⟩
      rw [w32a (k := 103) (n := 103) (s := j) rfl (by omega), w32_r (x := (j : Int) + 1) (by omega) (by omega), show (j : Int) + 1 = ((j + 1 : Nat) : Int) by omega]
      try simp only [Int.toNat_natCast]
      refine ⟨⟨by omega, by omega⟩, fun h3 e3 => ?_⟩
      subst e3
      refine ih (j + 1) _ (by omega) (fun k hk => ?_) (hF.si ⟨rfl, by omega⟩)
      by_cases e : k = 103 + j
      · rw [e, gi_s0, if_neg (by omega)]
        unfold plnV
        rw [if_neg (by omega), if_neg (by omega), if_neg (by omega), if_neg (by omega), if_pos (by omega)]
      · rw [gi_s2 e, h2 k hk]
        by_cases c : 103 + j ≤ k ∧ k < 109
        · rw [if_pos c, if_pos (by omega)]
        · rw [if_neg c, if_neg (by omega)]
  have zer : ∀ (m j : Nat) (h1 : PH), j + m = 1213 → (∀ k, k < j → gi h1 l0 k = 0) → fr (fun q k => q = l0 ∧ k < 1213) h h1 → T2 d mX11_plain 2 [some (vR l0), some (vI (j : Int))] [] h1 Q := by
    intro m
    induction m with
    | zero =>
      intro j h1 hj h2 hF
      refine BX11_plain_2 cl0 ⟨fun _ => ⟨⟨by omega, by omega⟩, fun h3 e3 => ⟨⟨by omega, by omega⟩, fun h4 e4 => ⟨⟨by omega, by omega⟩, fun h5 e5 => ⟨⟨by omega, by omega⟩, fun h6 e6 => ?_⟩⟩⟩⟩, fun z => by omega⟩
      subst e6 e5 e4 e3
      refine tie 6 0 _ (by omega) (fun k hk => ?_) ((((hF.si ⟨rfl, by omega⟩).si ⟨rfl, by omega⟩).si ⟨rfl, by omega⟩).si ⟨rfl, by omega⟩)
      unfold plnV
      by_cases c4 : k = 4
      · rw [c4, gi_s0]; rfl
      by_cases c3 : k = 3
      · rw [c3, gi_s2 (by omega), gi_s0]; rfl
      by_cases c2 : k = 2
      · rw [c2, gi_s2 (by omega), gi_s2 (by omega), gi_s0]; rfl
      by_cases c1 : k = 1
      · rw [c1, gi_s2 (by omega), gi_s2 (by omega), gi_s2 (by omega), gi_s0]; rfl
      rw [gi_s2 c4, gi_s2 c3, gi_s2 c2, gi_s2 c1, h2 k (by omega), if_neg c1, if_neg c2, if_neg c3, if_neg c4]
      by_cases c : 103 + 0 ≤ k ∧ k < 109
      · rw [if_pos c]
      · rw [if_neg c, if_neg (by omega)]
    | succ m ih =>
      intro j h1 hj h2 hF
      refine BX11_plain_2 cl0 ⟨fun z => by omega, fun _ => ?_⟩
      rw [w32_r (x := (j : Int) + 1) (by omega) (by omega), show (j : Int) + 1 = ((j + 1 : Nat) : Int) by omega]
      try simp only [Int.toNat_natCast]
      refine ⟨⟨by omega, by omega⟩, fun h3 e3 => ?_⟩
      subst e3
      refine ih (j + 1) _ (by omega) (fun k hk => ?_) (hF.si ⟨rfl, by omega⟩)
      by_cases e : k = j
      · rw [e, gi_s0]
      · rw [gi_s2 e]; exact h2 k (by omega)
  exact EX11_plain (BX11_plain_0 cl0 (zer 1213 0 h (by omega) (fun k hk => absurd hk (Nat.not_lt_zero k)) fr.rf))
theorem next_0 (T : TPm h f n) (h7 : gi h 247 7 = 0) (h11 : gi h 247 11 = 0) (hq : ∀ h', MT h' f n (nxt f n (26, 0, 0, 0)) → fr frMt h h' → Q none h') : C2 (d + 6) mX11_next [vR 247] h Q := by
  refine m_next0 (b := 0) T (Nat.zero_le _) h7 (fun h' z9 z6 z7 z10 F => hq h' ?_ (F.mono (fun q k z => frNx_t z)))
  have e11 : gi h' 247 11 = 0 := by rw [F.1 _ _ (by unfold frNx; omega)]; exact h11
  show MT h' f n (if t_k (tok f n 0) = 27 then .error (1, t_a (tok f n 0)) else .ok (tok f n 0))
  by_cases c27 : t_k (tok f n 0) = 27
  · rw [if_pos c27]
    exact Or.inr ⟨e11, by rw [z9, c27], rfl, z6, tok27 c27⟩
  · rw [if_neg c27]
    exact ⟨tok_GT f n 0 (Nat.zero_le _) c27, e11, z9, z6, z7, z10⟩
end
