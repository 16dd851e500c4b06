/-! THE MODEL: laws are read -/
def MCm (f : Nat → Int) (n b : Nat) (W : Bool) (m : MD) (x : Int) (D0 : Nat) (P : LPr) : Prop := ∀ (D : Nat) (h : PH) (Q : Option PV → PH → Prop) (k : Int) (r : ER LSt), D0 ≤ D → 0 ≤ k → ENm h f n W → MS h f n b k r → (∀ h', MS h' f n b k (bdn r P) → fr (frLm b) h h' → Q none h') → C2 D m [vR 247, vI x] h Q
def INM (f : Nat → Int) (n b : Nat) (W : Bool) (r : Nat) : Option (LPr × LPr × LPr) → Prop
  | none => r = 0
  | some g => 0 < r ∧ MCm f n b W mX11_readSum (6 - (r : Int) + 1) (11 + 7 * (r - 1)) g.1 ∧ MCm f n b W mX11_readTruth (6 - (r : Int) + 1) (14 + 7 * (r - 1)) g.2.1 ∧ MCm f n b W mX11_readUnit (6 - (r : Int) + 1) (12 + 7 * (r - 1)) g.2.2
def PRG (f : Nat → Int) (n : Nat) (g : LPr) : Prop := ∀ s s' : LSt, g s = .ok s' → okU f n s.1 → t_a s.1 ≤ t_a s'.1
theorem TY.prg {f : Nat → Int} {n : Nat} {WT : List Int → Bool → Nat → Prop} {c : Bool} {m : Nat} {P : LPr} (h : TY f n WT c m P) : PRG f n P := fun s s' e ok => by
  obtain ⟨-, cs, -, -, z⟩ := h s s' e ok
  omega
section
variable {d : Nat} {h : PH} {Q : Option PV → PH → Prop}
variable {f : Nat → Int} {n b : Nat} {W : Bool}
theorem m_wordOf {K : Int} (h15 : gi h 247 15 = (if W then 0 else 1)) (hq : Q (some (vI (wdOf W K))) h) : C2 d mX11_wordOf [vR 247, vI K] h Q := by
  have out : K < 5 ∨ 21 ≤ K → wdOf W K = -1 := fun z => by
    unfold wdOf
    rw [if_neg (by omega), if_neg (by omega), if_neg (by omega)]
  refine EX11_wordOf fun _ => BX11_wordOf_0 ?_
  rw [h15]
  cases W with
  | true =>
    refine ⟨fun z => absurd rfl z, fun _ => BX11_wordOf_12 ⟨fun z => ?_, fun z => ?_, fun z => ?_, fun z => ?_, fun z => ?_, fun z => ?_, fun z => ?_, fun z => ?_, fun z => ?_, fun z => ?_, fun z => ?_, fun z => ⟨fun y => absurd y (by decide), fun _ => ?_⟩, fun z => ⟨fun y => absurd y (by decide), fun _ => ?_⟩, fun z => ⟨fun y => absurd y (by decide), fun _ => ?_⟩, fun z => ⟨fun y => absurd y (by decide), fun _ => ?_⟩, fun z => ⟨fun y => absurd y (by decide), fun _ => ?_⟩, fun z => by rw [out z] at hq; exact hq⟩⟩ <;> (subst z; exact hq)
  | false =>
    refine ⟨fun _ => BX11_wordOf_12 ⟨fun z => ?_, fun z => ?_, fun z => ?_, fun z => ?_, fun z => ?_, fun z => ?_, fun z => ?_, fun z => ?_, fun z => ?_, fun z => ?_, fun z => ?_, fun z => ⟨fun _ => ?_, fun y => absurd rfl y⟩, fun z => ⟨fun _ => ?_, fun y => absurd rfl y⟩, fun z => ⟨fun _ => ?_, fun y => absurd rfl y⟩, fun z => ⟨fun _ => ?_, fun y => absurd rfl y⟩, fun z => ⟨fun _ => ?_, fun y => absurd rfl y⟩, fun z => by rw [out z] at hq; exact hq⟩, fun z => absurd z (by decide)⟩ <;> (subst z; exact hq)
theorem n_if {r : Nat} (hr : r ≤ 6) {inn : Option (LPr × LPr × LPr)} (hI : INM f n b W r inn) {D : Nat} (hD : 8 + 7 * r ≤ D) {k : Int} (hk : 0 ≤ k) {s : LSt} (k12 : t_k s.1 = 12) (En : ENm h f n W) (X : MS h f n b k (.ok s)) (hq : ∀ h', MS h' f n b k (atomP f n W inn s) → fr (frLm b) h h' → Q none h') : C2 D mX11_readIf [vR 247, vI (6 - (r : Int))] h Q := by
  obtain ⟨d, rfl⟩ : ∃ d, D = d + 8 := ⟨D - 8, by omega⟩
  refine EX11_readIf fun _ => BX11_readIf_0 (d := d + 7) (N_goesIn (d := d) hr En X (by omega) (fun hr0 h1 b1 b2 _ => ⟨fun _ => ?_, fun v => absurd v (by decide)⟩) (fun hr0 h1 b1 b2 _ => ⟨fun v => absurd rfl v, fun _ => ?_⟩))
  · cases inn with
    | none => exact absurd hI (by show ¬ r = 0; omega)
    | some g =>
      rw [w32_r (by omega) (by omega)]
      have E1 := En.keep b2
      refine hI.2.2.1 _ h1 _ (k + 1) _ (by omega) (by omega) E1 b1 (fun h2 c1 c2 => ⟨rfl, ?_⟩)
      have E2 := E1.keep c2
      refine N_eat (K := 13) (by decide) E2 c1 (fun h3 d1 d2 => ?_)
      have E3 := E2.keep d2
      refine BX11_readIf_30 (d := d + 7) ?_
      rw [w32_r (by omega) (by omega)]
      refine hI.2.1 _ h3 _ (k + 1) _ (by omega) (by omega) E3 d1 (fun h4 e1 e2 => ⟨rfl, ?_⟩)
      have E4 := E3.keep e2
      refine N_eat (K := 14) (by decide) E4 e1 (fun h5 f1 f2 => ?_)
      have E5 := E4.keep f2
      refine BX11_readIf_51 (d := d + 7) ?_
      rw [w32_r (by omega) (by omega)]
      refine hI.2.1 _ h5 _ (k + 1) _ (by omega) (by omega) E5 f1 (fun h6 g1 g2 => ⟨rfl, ?_⟩)
      have E6 := E5.keep g2
      refine N_eat (K := 15) (by decide) E6 g1 (fun h7 i1 i2 => BX11_readIf_72 (d := d + 7) ?_)
      have E7 := E6.keep i2
      refine N_add (c := 3009) hk E7 i1 (fun h8 j1 j2 => ⟨rfl, hq h8 ?_ (((((((b2.tr c2).tr d2).tr e2).tr f2).tr g2).tr i2).tr j2)⟩)
      rw [bdn_as, bdn_as, bdn_as, bdn_as, bdn_as, bdn_as] at j1
      rw [at12s k12]
      exact j1
  · cases inn with
    | none => exact hq h1 (by rw [at12n k12]; exact b1) b2
    | some g => exact absurd hI.1 (by omega)
theorem n_atom {r : Nat} (hr : r ≤ 6) {inn : Option (LPr × LPr × LPr)} (hI : INM f n b W r inn) : MCm f n b W mX11_readAtom (6 - (r : Int)) (9 + 7 * r) (atomP f n W inn) := by
  intro D h Q k r0 hD hk En X hq
  obtain ⟨d, rfl⟩ : ∃ d, D = d + 9 := ⟨D - 9, by omega⟩
  have at66 : (∀ s, r0 = .ok s → t_k s.1 ≠ 25 ∧ wdOf W (t_k s.1) = -1) → T2 (d + 9) mX11_readAtom 66 [some (vR 247), some (vI (6 - (r : Int)))] [] h Q := fun hn => by
    refine BX11_readAtom_66 (d := d + 8) (N_is (K := 35) (by decide) X (fun s hs k35 _ => ⟨fun w => absurd w (by decide), fun _ => ?_⟩) (fun h35 _ => ⟨fun _ => N_is (K := 12) (by decide) X (fun s hs k12 _ => ⟨fun w => absurd w (by decide), fun _ => ?_⟩) (fun h12 _ => ⟨fun _ => ?_, fun w => absurd rfl w⟩), fun w => absurd rfl w⟩))
    · subst hs
      refine N_goesIn (d := d + 1) hr En X (by omega) (fun hr0 h1 b1 b2 _ => ⟨fun _ => ?_, fun v => absurd v (by decide)⟩) (fun hr0 h1 b1 b2 _ => ⟨fun v => absurd rfl v, fun _ => ?_⟩)
      · cases inn with
        | none => exact absurd hI (by show ¬ r = 0; omega)
        | some g =>
          rw [w32_r (by omega) (by omega)]
          have E1 := En.keep b2
          refine hI.2.1 _ h1 _ (k + 1) _ (by omega) (by omega) E1 b1 (fun h2 c1 c2 => ⟨rfl, ?_⟩)
          refine N_eat (K := 36) (P := fun h => Q none h) (d := d + 1) (by decide) (E1.keep c2) c1 (fun h3 d1 d2 => hq h3 ?_ ((b2.tr c2).tr d2))
          show MS h3 f n b k (atomP f n W (some g) s)
          rw [at35s k35]
          rw [bdn_as] at d1
          exact d1.le (by omega)
      · cases inn with
        | none => exact hq h1 (by show MS h1 f n b k (atomP f n W none s); rw [at35n k35]; exact b1) b2
        | some g => exact absurd hI.1 (by omega)
    · subst hs
      exact n_if hr hI (by omega) hk k12 En X (fun h1 b1 b2 => ⟨rfl, hq h1 b1 b2⟩)
    · refine N_fail' (j := k) (by decide) X (fun h1 b1 b2 => ⟨rfl, hq h1 ?_ b2⟩)
      cases r0 with
      | error e => exact b1
      | ok s =>
        show MS h1 f n b k (atomP f n W inn s)
        unfold atomP
        rw [if_neg (hn s rfl).1, if_neg (fun e => e (hn s rfl).2), if_neg (h35 s rfl), if_neg (h12 s rfl)]
        exact b1
  refine EX11_readAtom fun _ => BX11_readAtom_0 (d := d + 8) (N_is (K := 25) (by decide) X (fun s hs k25 _ => ⟨fun w => absurd w (by decide), fun _ => ?_⟩) (fun h25 _ => ⟨fun _ => ⟨fun z => at66 (fun s hs => ?_), fun z => ?_⟩, fun w => absurd rfl w⟩))
  · subst hs
    have h26 : t_k s.1 ≠ 26 := by omega
    try dsimp only
    rw [X.1.2.2.2.2.2 k25]
    refine N_code (j := k - 1) (by omega) (Or.inr ⟨s, rfl⟩) En X (fun s' e => by cases e; exact X.l9' En hk h26) (fun w => absurd rfl (w s)) (fun h1 b1 b2 => ⟨rfl, ?_⟩)
    have b1' : MS h1 f n b (k - 1) (.ok (lPu (t_n s.1) s)) := b1
    refine N_next (d := d + 2) (j := k) (by omega) (En.keep b2) b1' h26 (fun h2 c1 c2 => ⟨rfl, hq h2 ?_ (b2.tr c2)⟩)
    show MS h2 f n b k (atomP f n W inn s)
    unfold atomP
    rw [if_pos k25]
    exact c1
  · subst hs
    exact absurd X.1.2.1 z
  · cases r0 with
    | error e =>
      have e9 : gi h 247 9 = 27 := by
        rcases X.1 with ⟨a, a2, a3⟩ | ⟨a1, a2, -⟩
        · exact absurd (a.symm.trans z) a2
        · exact a2
      try dsimp only
      rw [e9]
      refine m_wordOf En.2 (fun _ => ?_)
      have e27 : wdOf W 27 = -1 := by cases W <;> decide
      rw [e27]
      exact ⟨fun _ => at66 (fun s hs => by cases hs), fun w => absurd rfl w⟩
    | ok s =>
      have e9 := X.1.2.2.1
      try dsimp only
      rw [e9]
      refine m_wordOf En.2 (fun _ => ⟨fun y => at66 (fun s' hs => by cases hs; exact ⟨h25 s rfl, y⟩), fun y => ?_⟩)
      try dsimp only
      rw [e9]
      have h26 : t_k s.1 ≠ 26 := fun e => y (by rw [e]; cases W <;> decide)
      have wr := wdOf_ok y
      refine m_wordOf En.2 (fun _ => ?_)
      dsimp only
      rw [w32_r (by omega) (by omega)]
      refine N_code (j := k - 1) (by omega) (Or.inr ⟨s, rfl⟩) En X (fun s' e => by cases e; exact X.l9' En hk h26) (fun w => absurd rfl (w s)) (fun h1 b1 b2 => ⟨rfl, ?_⟩)
      have b1' : MS h1 f n b (k - 1) (.ok (lPu (1000 + wdOf W (t_k s.1)) s)) := b1
      refine N_next (d := d + 2) (j := k) (by omega) (En.keep b2) b1' h26 (fun h2 c1 c2 => ⟨rfl, hq h2 ?_ (b2.tr c2)⟩)
      show MS h2 f n b k (atomP f n W inn s)
      unfold atomP
      rw [if_neg (h25 s rfl), if_pos y]
      exact c1
theorem n_prog {g : LPr} (hg : PRG f n g) {s s3 : LSt} {c : Int} (ok : okU f n s.1) (h26 : t_k s.1 ≠ 26) (h : bdn (bdn (lNx f n s) g) (fun s2 => .ok (lPu c s2)) = .ok s3) : t_a s.1 + 1 ≤ t_a s3.1 := by
  obtain ⟨s2, h2, h3⟩ := bdn_ok h
  obtain ⟨s1, h1, h2'⟩ := bdn_ok h2
  cases h3
  obtain ⟨o1, -, o3⟩ := lNx_ok2 f n h26 h1 ok
  have := hg s1 s2 h2' o1
  show t_a s.1 + 1 ≤ t_a s2.1
  omega
theorem n_many {Tm : PH → Prop} {op : Int → Int} {g : LPr} (hop : ∀ K, op K ≠ -1 → K ≠ 26) (hg : PRG f n g) {k : Int}
    (hstep : ∀ (h : PH) (r : ER LSt), ENm h f n W → MS h f n b k r → ((∀ s, r = .ok s → op (t_k s.1) = -1) → Q none h) → (∀ s, r = .ok s → op (t_k s.1) ≠ -1 → ∀ h', MS h' f n b k (bdn (bdn (lNx f n s) g) (fun s2 => .ok (lPu (op (t_k s.1)) s2))) → fr (frLm b) h h' → Tm h') → Tm h) :
    ∀ (m : Nat) (h : PH) (r : ER LSt), ENm h f n W → MS h f n b k r → (∀ s, r = .ok s → n ≤ t_a s.1 + m) → (∀ h', MS h' f n b k (bdn r (manyP f n op g m)) → fr (frLm b) h h' → Q none h') → Tm h := by
  intro m
  induction m with
  | zero =>
    intro h r En X hl hq
    have stop : Q none h := hq h (by cases r <;> exact X) fr.rf
    refine hstep h r En X (fun _ => stop) (fun s hs ho => ?_)
    subst hs
    have h26 := hop _ ho
    have := X.1.1.1.2.2.2.2.1 h26
    have := X.1.1.1.2.2.1
    have := hl s rfl
    omega
  | succ m ih =>
    intro h r En X hl hq
    refine hstep h r En X (fun hs => hq h ?_ fr.rf) (fun s hs ho h1 b1 b2 => ?_)
    · cases r with
      | error e => exact X
      | ok s =>
        show MS h f n b k (manyP f n op g (m + 1) s)
        rw [many_stop (hs s rfl)]; exact X
    · subst hs
      have h26 := hop _ ho
      refine ih h1 _ (En.keep b2) b1 (fun s3 e3 => ?_) (fun h2 c1 c2 => hq h2 ?_ (b2.tr c2))
      · have := n_prog hg X.1.1.1 h26 e3
        have := hl s rfl
        omega
      · rw [many_step rfl ho] at c1
        exact c1
end
