/-! THE CLASS: laws are read, level by level -/
section
variable {d : Nat} {h : PH} {Q : Option PV → PH → Prop}
variable {f : Nat → Int} {n p la : Nat} {W : Bool}
theorem term_loop {A : LPr} {D0 : Nat} {x : Int} (hM : MCt f n p la W mX5_atom [vR 218, vI x] D0 A) : ∀ (m j : Nat) (h : PH) (r : ER LSt) (k : Int), j + m = 900 → D0 ≤ d + 5 → 0 ≤ k → ENV h f n p la W → RS h f n la k r → (∀ h', RS h' f n la k (bdn r (manyP f n opT A m)) → fr (frLa la) h h' → Q none h') → T2 (d + 6) mX5_term 7 [some (vR 218), some (vI x), some (vI (j : Int))] [] h Q := by
  intro m
  induction m with
  | zero =>
    intro j h r k hj hD hk En X hq
    exact BX5_term_7 ⟨fun _ => hq h (many_end X (fun _ _ => Or.inr rfl)) fr.rf, fun z => by omega⟩
  | succ m ih =>
    intro j h r k hj hD hk En X hq
    refine BX5_term_7 ⟨fun z => by omega, fun _ => ⟨fun z => hq h (many_end X (fun s e => Or.inl ?_)) fr.rf, fun z => ?_⟩⟩
    · subst e
      have a6 := X.1.2.2.2.2.2.2.1
      unfold opT
      rw [if_neg (fun w => z (by rw [a6, w]; decide))]
    · cases r with
      | error e => rw [X.1.2.2.2] at z; exact absurd z (by decide)
      | ok s =>
        have a6 := X.1.2.2.2.2.2.2.1
        rw [a6] at z
        have k34 : t_k s.1 = 34 := (ktc_eq X.1.1 (K := 34) (by omega)).mp (by rw [z]; decide)
        refine many_core (op := opT) (g := A) (m := m) hk hM hD En X (c := 3002) (by rw [k34]; decide) (by decide) (by omega) (by decide) (fun h3 hc b1 b2 => ?_)
        rw [w32_r (by omega) (by omega), show (j : Int) + 1 = ((j + 1 : Nat) : Int) by omega]
        exact ih (j + 1) h3 _ k (by omega) hD hk (En.keep b2) b1 (fun h' c1 c2 => hq h' (hc h' c1) (b2.tr c2))
theorem l_term {r : Nat} (hr : r ≤ 6) {inn : Option (LPr × LPr × LPr)} (hI : INC f n p la W r inn) : MCt f n p la W mX5_term [vR 218, vI (6 - (r : Int))] (8 + 7 * r) (termP f n W inn) := by
  intro D h Q k r0 hD hk En X hq
  obtain ⟨d, rfl⟩ : ∃ d, D = d + 6 := ⟨D - 6, by omega⟩
  refine EX5_term fun _ => BX5_term_0 (l_atom hr hI _ h _ k r0 (by omega) hk En X (fun h1 b1 b2 => ⟨rfl, ?_⟩))
  refine term_loop (l_atom hr hI) 900 0 h1 _ k (by omega) (by omega) hk (En.keep b2) b1 (fun h2 c1 c2 => hq h2 ?_ (b2.tr c2))
  rw [bdn_as] at c1
  exact c1
theorem sum_loop {A : LPr} {D0 : Nat} {x : Int} (hM : MCt f n p la W mX5_term [vR 218, vI x] D0 A) : ∀ (m j : Nat) (h : PH) (r : ER LSt) (k : Int), j + m = 900 → D0 ≤ d + 5 → 0 ≤ k → ENV h f n p la W → RS h f n la k r → (∀ h', RS h' f n la k (bdn r (manyP f n opA A m)) → fr (frLa la) h h' → Q none h') → T2 (d + 6) mX5_sum 7 [some (vR 218), some (vI x), some (vI (j : Int)), none] [] h Q := by
  intro m
  induction m with
  | zero =>
    intro j h r k hj hD hk En X hq
    exact BX5_sum_7 ⟨fun _ => hq h (many_end X (fun _ _ => Or.inr rfl)) fr.rf, fun z => by omega⟩
  | succ m ih =>
    intro j h r k hj hD hk En X hq
    have go : ∀ (s : LSt) (c x' : Int), r = .ok s → opA (t_k s.1) = c → c ≠ -1 → t_k s.1 ≠ 26 → x' = enc c → T2 (d + 6) mX5_sum 48 [some (vR 218), some (vI x), some (vI (j : Int)), none] [vI x'] h Q := by
      intro s c x' hr hc hn h26 hx
      subst hr
      refine BX5_sum_48 (many_core (op := opA) (g := A) (m := m) hk hM hD En X (c := c) hc hn h26 hx (fun h3 hcc b1 b2 => ?_))
      rw [w32_r (by omega) (by omega), show (j : Int) + 1 = ((j + 1 : Nat) : Int) by omega]
      exact ih (j + 1) h3 _ k (by omega) hD hk (En.keep b2) b1 (fun h' c1 c2 => hq h' (hcc h' c1) (b2.tr c2))
    refine BX5_sum_7 ⟨fun z => by omega, fun _ => ⟨fun z => BX5_sum_32 ⟨fun y => absurd z y, fun _ => ?_⟩, fun z => ⟨fun y => hq h (many_end X (fun s e => Or.inl ?_)) fr.rf, fun y => BX5_sum_32 ⟨fun _ => ?_, fun w => absurd w z⟩⟩⟩⟩
    · cases r with
      | error e => rw [X.1.2.2.2] at z; exact absurd z (by decide)
      | ok s =>
        have a6 := X.1.2.2.2.2.2.2.1
        rw [a6] at z
        have k32 : t_k s.1 = 32 := (ktc_eq X.1.1 (K := 32) (by omega)).mp (by rw [z]; decide)
        exact go s 3000 _ rfl (by rw [k32]; decide) (by decide) (by omega) (by decide)
    · subst e
      have a6 := X.1.2.2.2.2.2.2.1
      unfold opA
      rw [if_neg (fun w => z (by rw [a6, w]; decide)), if_neg (fun w => y (by rw [a6, w]; decide))]
    · cases r with
      | error e => rw [X.1.2.2.2] at y; exact absurd y (by decide)
      | ok s =>
        have a6 := X.1.2.2.2.2.2.2.1
        rw [a6] at y
        have k33 : t_k s.1 = 33 := (ktc_eq X.1.1 (K := 33) (by omega)).mp (by rw [y]; decide)
        exact go s 3001 _ rfl (by rw [k33]; decide) (by decide) (by omega) (by decide)
theorem lc_sum {r : Nat} (hr : r ≤ 6) {inn : Option (LPr × LPr × LPr)} (hI : INC f n p la W r inn) : MCt f n p la W mX5_sum [vR 218, vI (6 - (r : Int))] (9 + 7 * r) (sumP f n W inn) := by
  intro D h Q k r0 hD hk En X hq
  obtain ⟨d, rfl⟩ : ∃ d, D = d + 6 := ⟨D - 6, by omega⟩
  refine EX5_sum fun _ => BX5_sum_0 (l_term hr hI _ h _ k r0 (by omega) hk En X (fun h1 b1 b2 => ⟨rfl, ?_⟩))
  refine sum_loop (l_term hr hI) 900 0 h1 _ k (by omega) (by omega) hk (En.keep b2) b1 (fun h2 c1 c2 => hq h2 ?_ (b2.tr c2))
  rw [bdn_as] at c1
  exact c1
theorem un23n {s : LSt} (e : t_k s.1 = 23) : unitP f n W none s = lEr 4 s := by unfold unitP; rw [if_pos e]
theorem un23s {s : LSt} {g : LPr × LPr × LPr} (e : t_k s.1 = 23) : unitP f n W (some g) s = bdn (lNx f n s) fun s1 => bdn (g.2.2 s1) fun s2 => .ok (lPu 3006 s2) := by unfold unitP; rw [if_pos e]
theorem un37n {s : LSt} (e : t_k s.1 = 37) : unitP f n W none s = lEr 4 s := by unfold unitP; rw [if_neg (by omega), if_pos e]
theorem un37s {s : LSt} {g : LPr × LPr × LPr} (e : t_k s.1 = 37) : unitP f n W (some g) s = bdn (lNx f n s) fun s1 => bdn (g.2.1 s1) (eat f n 38) := by unfold unitP; rw [if_neg (by omega), if_pos e]
theorem l_unit {r : Nat} (hr : r ≤ 6) {inn : Option (LPr × LPr × LPr)} (hI : INC f n p la W r inn) : MCt f n p la W mX5_unit [vR 218, vI (6 - (r : Int))] (10 + 7 * r) (unitP f n W inn) := by
  intro D h Q k r0 hD hk En X hq
  obtain ⟨d, rfl⟩ : ∃ d, D = d + 7 := ⟨D - 7, by omega⟩
  -- a comparison
  have cmp : (∀ s, r0 = .ok s → t_k s.1 ≠ 23 ∧ t_k s.1 ≠ 37) → C2 (d + 6) mX5_sum [vR 218, vI (6 - (r : Int))] h (onV fun h812 => ((gi h812 218 2) ≠ 61 → ((gi h812 218 2) ≠ 60 → ((gi h812 218 2) ≠ 62 → T2 (d + 6 + 1) mX5_unit 117 [some (vR 218), some (vI (6 - (r : Int))), none] [vI 0] h812 Q) ∧ ((gi h812 218 2) = 62 → T2 (d + 6 + 1) mX5_unit 117 [some (vR 218), some (vI (6 - (r : Int))), none] [vI (-10)] h812 Q)) ∧ ((gi h812 218 2) = 60 → T2 (d + 6 + 1) mX5_unit 117 [some (vR 218), some (vI (6 - (r : Int))), none] [vI (-9)] h812 Q)) ∧ ((gi h812 218 2) = 61 → T2 (d + 6 + 1) mX5_unit 117 [some (vR 218), some (vI (6 - (r : Int))), none] [vI (-8)] h812 Q)) := fun hn => by
    have efin : ∀ h', RS h' f n la k (bdn (bdn r0 (sumP f n W inn)) fun s1 => if opC (t_k s1.1) = -1 then lEr 2 s1 else bdn (lNx f n s1) fun s2 => bdn (sumP f n W inn s2) fun s3 => .ok (lPu (opC (t_k s1.1)) s3)) → RS h' f n la k (bdn r0 (unitP f n W inn)) := fun h' y => by
      cases r0 with
      | error e => exact y
      | ok s =>
        show RS h' f n la k (unitP f n W inn s)
        unfold unitP
        rw [if_neg (hn s rfl).1, if_neg (hn s rfl).2]
        exact y
    refine lc_sum hr hI _ h _ k r0 (by omega) hk En X (fun h1 b1 b2 => ⟨rfl, ?_⟩)
    have E1 := En.keep b2
    have go : ∀ (s : LSt) (x : Int), bdn r0 (sumP f n W inn) = .ok s → opC (t_k s.1) ≠ -1 → x ≠ 0 → x = enc (opC (t_k s.1)) → T2 (d + 6 + 1) mX5_unit 117 [some (vR 218), some (vI (6 - (r : Int))), none] [vI x] h1 Q := by
      intro s x hs ho hx0 hx
      rw [hs] at b1
      refine BX5_unit_117 ⟨fun _ => BX5_unit_127 ?_, fun z => absurd z hx0⟩
      refine L_next (j := k + 1) (by omega) E1 b1 (fun s' e => by cases e; have := opC_k ho; omega) (fun h2 c1 c2 => ⟨rfl, ?_⟩)
      have E2 := E1.keep c2
      refine lc_sum hr hI _ h2 _ (k + 1) _ (by omega) (by omega) E2 c1 (fun h3 d1 d2 => ⟨rfl, ?_⟩)
      have E3 := E2.keep d2
      dsimp only
      rw [E3.2.2.1]
      refine L_add (j := k) (c := opC (t_k s.1)) (by omega) E3 d1 (fun s' e => RS.l9 E3 (by omega : (1 : Int) ≤ k + 1) (e ▸ d1)) (fun _ _ => hx) (fun h4 e1 e2 => ⟨rfl, hq h4 (efin h4 ?_) (((b2.tr c2).tr d2).tr e2)⟩)
      rw [hs]
      show RS h4 f n la k (if opC (t_k s.1) = -1 then lEr 2 s else bdn (lNx f n s) fun s2 => bdn (sumP f n W inn s2) fun s3 => .ok (lPu (opC (t_k s.1)) s3))
      rw [if_neg ho]
      rw [bdn_as] at e1
      exact e1
    have stop : (∀ s, bdn r0 (sumP f n W inn) = .ok s → opC (t_k s.1) = -1) → T2 (d + 6 + 1) mX5_unit 117 [some (vR 218), some (vI (6 - (r : Int))), none] [vI 0] h1 Q := by
      intro hs
      generalize hrs : bdn r0 (sumP f n W inn) = rs at b1 hs efin
      refine BX5_unit_117 ⟨fun z => absurd rfl z, fun _ => L_fail (by decide) E1 b1 (fun h2 c1 c2 => ⟨rfl, BX5_unit_127 ?_⟩)⟩
      have nok : ∀ s, bdn rs (lEr 2) ≠ .ok s := fun s e => by cases rs <;> cases e
      have E2 := E1.keep c2
      refine L_next (j := k + 1) (by omega) E2 c1 (fun s' e => absurd e (nok s')) (fun h3 d1 d2 => ⟨rfl, ?_⟩)
      have E3 := E2.keep d2
      refine lc_sum hr hI _ h3 _ (k + 1) _ (by omega) (by omega) E3 d1 (fun h4 e1 e2 => ⟨rfl, ?_⟩)
      have E4 := E3.keep e2
      dsimp only
      rw [E4.2.2.1]
      have nok2 : ∀ s, bdn (bdn (bdn rs (lEr 2)) (lNx f n)) (sumP f n W inn) ≠ .ok s := fun s e => by
        obtain ⟨x, hx, -⟩ := bdn_ok e
        obtain ⟨y, hy, -⟩ := bdn_ok hx
        exact nok y hy
      refine L_add (j := k) (c := 0) (by omega) E4 e1 (fun s' e => absurd e (nok2 s')) (fun s' e => absurd e (nok2 s')) (fun h5 f1 f2 => ⟨rfl, hq h5 (efin h5 ?_) ((((b2.tr c2).tr d2).tr e2).tr f2)⟩)
      cases rs with
      | error e => exact f1
      | ok s =>
        show RS h5 f n la k (if opC (t_k s.1) = -1 then lEr 2 s else _)
        rw [if_pos (hs s rfl)]
        exact f1
    cases hrs : bdn r0 (sumP f n W inn) with
    | error e =>
      rw [hrs] at b1
      have t1 := b1.1.2.2.2
      refine ⟨fun _ => ⟨fun _ => ⟨fun _ => stop (fun s e => by rw [hrs] at e; cases e), fun z => by rw [t1] at z; exact absurd z (by decide)⟩, fun z => by rw [t1] at z; exact absurd z (by decide)⟩, fun z => by rw [t1] at z; exact absurd z (by decide)⟩
    | ok s =>
      rw [hrs] at b1
      have a6 := b1.1.2.2.2.2.2.2.1
      have g1 := b1.1.1
      refine ⟨fun z1 => ⟨fun z2 => ⟨fun z3 => stop (fun s' e => ?_), fun z => ?_⟩, fun z => ?_⟩, fun z => ?_⟩
      · rw [hrs] at e
        cases e
        unfold opC
        rw [if_neg (fun w => z1 (by rw [a6, w]; decide)), if_neg (fun w => z2 (by rw [a6, w]; decide)), if_neg (fun w => z3 (by rw [a6, w]; decide))]
      · have kk : t_k s.1 = 41 := (ktc_eq g1 (K := 41) (by omega)).mp (by rw [← a6, z]; decide)
        exact go s _ hrs (by rw [kk]; decide) (by decide) (by rw [kk]; decide)
      · have kk : t_k s.1 = 40 := (ktc_eq g1 (K := 40) (by omega)).mp (by rw [← a6, z]; decide)
        exact go s _ hrs (by rw [kk]; decide) (by decide) (by rw [kk]; decide)
      · have kk : t_k s.1 = 39 := (ktc_eq g1 (K := 39) (by omega)).mp (by rw [← a6, z]; decide)
        exact go s _ hrs (by rw [kk]; decide) (by decide) (by rw [kk]; decide)
  refine EX5_unit fun _ => BX5_unit_0 (c_isWordK (i := 13) (K := 23) (by omega) En.1 X.tk (by omega) rfl (fun z _ => ⟨fun y => absurd y (by decide), fun _ => ?_⟩) (fun z _ => ⟨fun _ => ⟨fun y => cmp (fun s e => ?_), fun y => ?_⟩, fun y => absurd rfl y⟩))
  · cases r0 with
    | error e => exact absurd z isK_err
    | ok s =>
      have k23 : t_k s.1 = 23 := isK_ok.mp z
      refine L_goesIn hr En X (by omega) (fun hr0 h1 b1 b2 _ => ⟨fun v => absurd v (by decide), fun _ => ?_⟩) (fun hr0 h1 b1 b2 _ => ⟨fun _ => ?_, fun v => absurd rfl v⟩)
      · cases inn with
        | none => exact absurd hI (by show ¬ r = 0; omega)
        | some g =>
          rw [w32_r (by omega) (by omega)]
          have E1 := En.keep b2
          refine hI.2.2.2 _ h1 _ (k + 1) _ (by omega) (by omega) E1 b1 (fun h2 c1 c2 => ⟨rfl, ?_⟩)
          have E2 := E1.keep c2
          dsimp only
          rw [E2.2.2.1]
          refine L_add (j := k) (c := 3006) (by omega) E2 c1 (fun s' e => RS.l9 E2 (by omega : (1 : Int) ≤ k + 1) (e ▸ c1)) (fun _ _ => by decide) (fun h3 d1 d2 => ⟨rfl, hq h3 ?_ ((b2.tr c2).tr d2)⟩)
          show RS h3 f n la k (unitP f n W (some g) s)
          rw [un23s k23]
          rw [bdn_as] at d1
          exact d1
      · cases inn with
        | none => exact hq h1 (by show RS h1 f n la k (unitP f n W none s); rw [un23n k23]; exact b1) b2
        | some g => exact absurd hI.1 (by omega)
  · subst e
    have a6 := X.1.2.2.2.2.2.2.1
    exact ⟨fun w => z (isK_ok.mpr w), fun w => y (by rw [a6, w]; decide)⟩
  · cases r0 with
    | error e => rw [X.1.2.2.2] at y; exact absurd y (by decide)
    | ok s =>
      have a6 := X.1.2.2.2.2.2.2.1
      rw [a6] at y
      have k37 : t_k s.1 = 37 := (ktc_eq X.1.1 (K := 37) (by omega)).mp (by rw [y]; decide)
      refine L_goesIn hr En X (by omega) (fun hr0 h1 b1 b2 _ => ⟨fun v => absurd v (by decide), fun _ => ?_⟩) (fun hr0 h1 b1 b2 _ => ⟨fun _ => ?_, fun v => absurd rfl v⟩)
      · cases inn with
        | none => exact absurd hI (by show ¬ r = 0; omega)
        | some g =>
          rw [w32_r (by omega) (by omega)]
          have E1 := En.keep b2
          refine hI.2.2.1 _ h1 _ (k + 1) _ (by omega) (by omega) E1 b1 (fun h2 c1 c2 => ⟨rfl, ?_⟩)
          refine L_sign (K := 38) (by omega) (by decide) (E1.keep c2) (k := k) ?_ (fun h3 d1 d2 => ⟨rfl, hq h3 (by show RS h3 f n la k (unitP f n W (some g) s); rw [un37s k37]; rw [bdn_as] at d1; exact d1) ((b2.tr c2).tr d2)⟩)
          cases hx : bdn (lNx f n s) g.2.1 with
          | error e => rw [hx] at c1; exact c1
          | ok s2 => rw [hx] at c1; exact ⟨c1.1, c1.2.1, by have := c1.2.2; omega⟩
      · cases inn with
        | none => exact hq h1 (by show RS h1 f n la k (unitP f n W none s); rw [un37n k37]; exact b1) b2
        | some g => exact absurd hI.1 (by omega)
theorem both_loop {A : LPr} {D0 : Nat} {x : Int} (hM : MCt f n p la W mX5_unit [vR 218, vI x] D0 A) : ∀ (m j : Nat) (h : PH) (r : ER LSt) (k : Int), j + m = 900 → D0 ≤ d + 5 → 0 ≤ k → ENV h f n p la W → RS h f n la k r → (∀ h', RS h' f n la k (bdn r (manyP f n opB A m)) → fr (frLa la) h h' → Q none h') → T2 (d + 6) mX5_both 7 [some (vR 218), some (vI x), some (vI (j : Int))] [] h Q := by
  intro m
  induction m with
  | zero =>
    intro j h r k hj hD hk En X hq
    exact BX5_both_7 ⟨fun _ => hq h (many_end X (fun _ _ => Or.inr rfl)) fr.rf, fun z => by omega⟩
  | succ m ih =>
    intro j h r k hj hD hk En X hq
    refine BX5_both_7 ⟨fun z => by omega, fun _ => c_isWordK (i := 14) (K := 21) (by omega) En.1 X.tk (by omega) rfl (fun z _ => ⟨fun y => absurd y (by decide), fun _ => ?_⟩) (fun z _ => ⟨fun _ => hq h (many_end X (fun s e => Or.inl ?_)) fr.rf, fun y => absurd rfl y⟩)⟩
    · cases r with
      | error e => exact absurd z isK_err
      | ok s =>
        have kk : t_k s.1 = 21 := isK_ok.mp z
        refine many_core (op := opB) (g := A) (m := m) hk hM hD En X (c := 3007) (by rw [kk]; decide) (by decide) (by omega) (by decide) (fun h3 hc b1 b2 => ?_)
        rw [w32_r (by omega) (by omega), show (j : Int) + 1 = ((j + 1 : Nat) : Int) by omega]
        exact ih (j + 1) h3 _ k (by omega) hD hk (En.keep b2) b1 (fun h' c1 c2 => hq h' (hc h' c1) (b2.tr c2))
    · subst e
      unfold opB
      exact if_neg (fun w => z (isK_ok.mpr w))
theorem l_both {r : Nat} (hr : r ≤ 6) {inn : Option (LPr × LPr × LPr)} (hI : INC f n p la W r inn) : MCt f n p la W mX5_both [vR 218, vI (6 - (r : Int))] (11 + 7 * r) (bothP f n W inn) := by
  intro D h Q k r0 hD hk En X hq
  obtain ⟨d, rfl⟩ : ∃ d, D = d + 6 := ⟨D - 6, by omega⟩
  refine EX5_both fun _ => BX5_both_0 (l_unit hr hI _ h _ k r0 (by omega) hk En X (fun h1 b1 b2 => ⟨rfl, ?_⟩))
  refine both_loop (l_unit hr hI) 900 0 h1 _ k (by omega) (by omega) hk (En.keep b2) b1 (fun h2 c1 c2 => hq h2 ?_ (b2.tr c2))
  rw [bdn_as] at c1
  exact c1
theorem truth_loop {A : LPr} {D0 : Nat} {x : Int} (hM : MCt f n p la W mX5_both [vR 218, vI x] D0 A) : ∀ (m j : Nat) (h : PH) (r : ER LSt) (k : Int), j + m = 900 → D0 ≤ d + 5 → 0 ≤ k → ENV h f n p la W → RS h f n la k r → (∀ h', RS h' f n la k (bdn r (manyP f n opO A m)) → fr (frLa la) h h' → Q none h') → T2 (d + 6) mX5_truth 7 [some (vR 218), some (vI x), some (vI (j : Int))] [] h Q := by
  intro m
  induction m with
  | zero =>
    intro j h r k hj hD hk En X hq
    exact BX5_truth_7 ⟨fun _ => hq h (many_end X (fun _ _ => Or.inr rfl)) fr.rf, fun z => by omega⟩
  | succ m ih =>
    intro j h r k hj hD hk En X hq
    refine BX5_truth_7 ⟨fun z => by omega, fun _ => c_isWordK (i := 15) (K := 22) (by omega) En.1 X.tk (by omega) rfl (fun z _ => ⟨fun y => absurd y (by decide), fun _ => ?_⟩) (fun z _ => ⟨fun _ => hq h (many_end X (fun s e => Or.inl ?_)) fr.rf, fun y => absurd rfl y⟩)⟩
    · cases r with
      | error e => exact absurd z isK_err
      | ok s =>
        have kk : t_k s.1 = 22 := isK_ok.mp z
        refine many_core (op := opO) (g := A) (m := m) hk hM hD En X (c := 3008) (by rw [kk]; decide) (by decide) (by omega) (by decide) (fun h3 hc b1 b2 => ?_)
        rw [w32_r (by omega) (by omega), show (j : Int) + 1 = ((j + 1 : Nat) : Int) by omega]
        exact ih (j + 1) h3 _ k (by omega) hD hk (En.keep b2) b1 (fun h' c1 c2 => hq h' (hc h' c1) (b2.tr c2))
    · subst e
      unfold opO
      exact if_neg (fun w => z (isK_ok.mpr w))
theorem l_truth {r : Nat} (hr : r ≤ 6) {inn : Option (LPr × LPr × LPr)} (hI : INC f n p la W r inn) : MCt f n p la W mX5_truth [vR 218, vI (6 - (r : Int))] (12 + 7 * r) (truthP f n W inn) := by
  intro D h Q k r0 hD hk En X hq
  obtain ⟨d, rfl⟩ : ∃ d, D = d + 6 := ⟨D - 6, by omega⟩
  refine EX5_truth fun _ => BX5_truth_0 (l_both hr hI _ h _ k r0 (by omega) hk En X (fun h1 b1 b2 => ⟨rfl, ?_⟩))
  refine truth_loop (l_both hr hI) 900 0 h1 _ k (by omega) (by omega) hk (En.keep b2) b1 (fun h2 c1 c2 => hq h2 ?_ (b2.tr c2))
  rw [bdn_as] at c1
  exact c1
theorem l_lvl : ∀ r, r ≤ 6 → INC f n p la W r (lvl f n W r) := by
  intro r
  induction r with
  | zero => intro _; exact rfl
  | succ r ih =>
    intro hr
    have hI := ih (by omega)
    have e : 6 - ((r + 1 : Nat) : Int) + 1 = 6 - (r : Int) := by omega
    refine ⟨by omega, ?_, ?_, ?_⟩
    · rw [e]; exact lc_sum (by omega) hI
    · rw [e]; exact l_truth (by omega) hI
    · rw [e]; exact l_unit (by omega) hI
end
