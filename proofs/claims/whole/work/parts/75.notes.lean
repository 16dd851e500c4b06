/-! THE MODEL: spans, counts; what is noted -/
theorem bitsF_more {P : Nat → Bool} {m : Nat} : ∀ n, m ≤ n → (∀ i, m ≤ i → i < n → P i = false) → bitsF P n = bitsF P m := by
  intro n
  induction n with
  | zero => intro h1 _; rw [show m = 0 by omega]
  | succ n ih =>
    intro h1 h2
    by_cases e : m = n + 1
    · rw [e]
    · show (if P n then _ else bitsF P n) = _
      rw [h2 n (by omega) (by omega), if_neg (by decide)]
      exact ih (by omega) (fun i a b => h2 i a (by omega))
section
variable {d : Nat} {h : PH} {Q : Option PV → PH → Prop}
variable {A : AS}
theorem n_span (X : RM h A) {s l what : Int} (hq : ∀ h', RM h' A → fr frMo h h' → Q (some (vI (r_span A s l what))) h') : C2 (d + 10) mX11_span [vR 247, vI s, vI l, vI what] h Q := by
  unfold r_span at hq
  have ok1 := X.1.1.1
  refine EX11_span fun _ _ _ => BX11_span_0 (fun h1 e1 => ?_)
  obtain ⟨X1, F1⟩ := X.z e1
  have hq1 := hq h1 X1 F1
  refine m_isShape (d := d + 8) X1.mg (fun _ => ⟨fun z => ?_, fun z => ?_⟩)
  · have hi : ¬ jS A s := if00 z
    rw [if_neg (fun e => hi e.1)] at hq1; exact hq1
  have hs : jS A s := if01 z
  refine m_isRow (d := d + 8) X1.mg (fun _ => ⟨fun y => ?_, fun y => ?_⟩)
  · have hi : ¬ jL A l := if00 y
    rw [if_neg (fun e => hi e.2.1)] at hq1; exact hq1
  have hl : jL A l := if01 y
  refine m_within (fun _ => ⟨fun x => ?_, fun x => ?_⟩)
  · have hw := if01 x
    refine n_now (d := d) X1 (fun h2 X2 M2 D2 F2 => ⟨rfl, ?_⟩)
    have hq2 := hq h2 X2 (F1.tr F2)
    obtain ⟨n, hn⟩ := ex_nat hs.1
    obtain ⟨m, hm⟩ := ex_nat hl.1
    subst hn hm
    rw [if_pos ⟨hs, hl, hw⟩] at hq hq2
    simp only [Int.toNat_natCast] at hq hq2
    have hnS : n < g_S (A_g A) := by omega
    have hmL : m < g_ln (A_g A) := by omega
    have e254 : gi h2 254 n = aH A n := D2.1.1 n hnS
    have rg : -1 ≤ aH A n ∧ aH A n ≤ 1000 := hts_rg X.okm.1 X.okm.2.1 _ hnS
    dsimp only
    try simp only [Int.toNat_natCast]
    rw [e254]
    refine ⟨⟨by omega, by omega⟩, fun c => ?_, fun c => ⟨⟨by omega, by omega⟩, ?_⟩⟩
    · rw [if_pos (by rw [c, rch_neg (by decide)]; decide)] at hq2; exact hq2
    · refine c_isSpanned (d := d + 6) M2 hnS hmL (by omega) (fun c1 _ => ⟨fun v => absurd rfl v, fun _ => ?_⟩) (fun c1 h3 g18 g19 F3 _ => ⟨fun _ => ?_, fun v => absurd v (by decide)⟩)
      · rw [if_pos (show rch (A_v A) n (aH A n) m < 0 from c1)] at hq2; exact hq2
      · have F3' : fr frMs h2 h3 := F3.mono (fun q k z => frN_Ms (frSp_N z))
        have hq3 := hq h3 (X2.keep F3') ((F1.tr F2).tr (F3'.mono (fun q k z => frMs_o z)))
        have c2 : ¬ rch (A_v A) n (aH A n) m < 0 := Int.not_lt.mpr c1
        rw [if_neg c2] at hq3
        refine ⟨fun v => ?_, fun v => ?_⟩
        · rw [if_neg v] at hq3; rw [g19]; exact hq3
        · rw [if_pos v] at hq3; rw [g18]; exact hq3
  · have hw := if00 x
    rw [if_neg (fun e => hw e.2.2)] at hq1; exact hq1
theorem m_tied_loop (X : RM h A) (hq : Q (some (vI (bitsF (fun s => decide (A_st A (12 + s) ≠ -1)) (g_S (A_g A))))) h) : ∀ m i : Nat, i + m = g_S (A_g A) → T2 d mX11_tiedSet 4 [some (vR 247), some (vI (bitsF (fun s => decide (A_st A (12 + s) ≠ -1)) i)), some (vI (i : Int))] [] h Q := by
  have ok1 := X.1.1.1
  have e5 := X.mg.fl.2.2.2.2.2.1
  intro m
  induction m with
  | zero =>
    intro i hi
    refine BX11_tiedSet_4 ⟨fun _ => ?_, fun z => by rw [e5] at z; omega⟩
    rw [show i = g_S (A_g A) by omega]; exact hq
  | succ m ih =>
    intro i hi
    refine BX11_tiedSet_4 ⟨fun z => by rw [e5] at z; omega, fun _ => ?_⟩
    rw [w32a (k := 103) (n := 103) (s := i) rfl (by omega), w32_r (x := (i : Int) + 1) (by omega) (by omega), show (i : Int) + 1 = ((i + 1 : Nat) : Int) by omega]
    try simp only [Int.toNat_natCast]
    rw [show 103 + i = 91 + (12 + i) by omega, X.mg.2.2.2 (12 + i) (by omega)]
    have := ih (i + 1) (by omega)
    unfold bitsF at this
    refine ⟨⟨by omega, by omega⟩, fun z => ?_, fun z => ?_⟩
    · have e : decide (A_st A (12 + i) ≠ -1) = false := decide_eq_false (fun e => e z)
      rw [e] at this; rw [ior0 (R32_bitsF _ _)]; exact this
    · have e : decide (A_st A (12 + i) ≠ -1) = true := decide_eq_true z
      rw [e] at this; exact this
theorem n_count (X : RM h A) {w : Int} (hq : ∀ h', RM h' A → fr frMo h h' → Q (some (vI (r_count A w))) h') : C2 (d + 10) mX11_count [vR 247, vI w] h Q := by
  unfold r_count at hq
  refine EX11_count fun _ => BX11_count_0 (fun h1 e1 => ?_)
  obtain ⟨X1, F1⟩ := X.z e1
  have hq1 := hq h1 X1 F1
  obtain ⟨f0, f1, f2, f3, f4, f5, f6⟩ := X1.mg.fl
  have s18 := X1.mg.2.2.2 18 (by omega)
  have s19 := X1.mg.2.2.2 19 (by omega)
  rw [show 91 + 18 = 109 from rfl] at s18
  rw [show 91 + 19 = 110 from rfl] at s19
  refine ⟨fun z => ?_, fun z => ?_, fun z => ?_, fun z => ?_, fun z => ?_, fun z => ?_, fun z => ?_, fun z => ?_, fun z => ?_, fun z => ?_⟩
  · rw [f5]; rw [if_pos z] at hq1; exact hq1
  · rw [f6]; rw [if_neg (by omega), if_pos z] at hq1; exact hq1
  · rw [s19]; rw [if_neg (by omega), if_neg (by omega), if_pos z] at hq1; exact hq1
  · rw [s18]; rw [if_neg (by omega), if_neg (by omega), if_neg (by omega), if_pos z] at hq1; exact hq1
  · rw [if_neg (by omega), if_neg (by omega), if_neg (by omega), if_neg (by omega), if_pos z] at hq1
    refine EX11_tiedSet (BX11_tiedSet_0 (m_tied_loop X1 (fun _ => ?_) (g_S (A_g A)) 0 (by omega)))
    rw [← bitsF_more 6 X.1.1.1.2.2.2.2.2.2.2.2.1 (fun i a b => decide_eq_false (fun e => e (X.1.2.1.2.1 i a b)))]
    exact hq1
  · refine n_now (d := d) X1 (fun h2 X2 M2 D2 F2 => ⟨rfl, ?_⟩)
    have hq2 := hq h2 X2 (F1.tr F2)
    rw [if_neg (by omega), if_neg (by omega), if_neg (by omega), if_neg (by omega), if_neg (by omega), if_pos z] at hq2
    dsimp only
    rw [D2.1.2.1.1.1]; exact hq2
  · rw [X1.2.2.2.2.2.1.1]; rw [if_neg (by omega), if_neg (by omega), if_neg (by omega), if_neg (by omega), if_neg (by omega), if_neg (by omega), if_pos z] at hq1; exact hq1
  · rw [X1.2.1.1]; rw [if_neg (by omega), if_neg (by omega), if_neg (by omega), if_neg (by omega), if_neg (by omega), if_neg (by omega), if_neg (by omega), if_pos z] at hq1; exact hq1
  · rw [f0]; rw [if_neg (by omega), if_neg (by omega), if_neg (by omega), if_neg (by omega), if_neg (by omega), if_neg (by omega), if_neg (by omega), if_neg (by omega), if_pos z] at hq1; exact hq1
  · rw [if_neg (by omega), if_neg (by omega), if_neg (by omega), if_neg (by omega), if_neg (by omega), if_neg (by omega), if_neg (by omega), if_neg (by omega), if_neg (by omega)] at hq1; exact hq1
/-- the state is stored -/
theorem m_stores {st : Nat → Int} (X : MSt h st) (hq : ∀ h', (∀ k, k < 20 → gi h' 265 k = st k) → fr (fun q _ => q = 265) h h' → Q none h') : C2 d mX11_stores [vR 247] h Q := by
  have loop : ∀ (m k : Nat) (h1 : PH), k + m = 20 → (∀ j, j < k → gi h1 265 j = st j) → fr (fun q _ => q = 265) h h1 → T2 d mX11_stores 2 [some (vR 247), some (vI (k : Int))] [] h1 Q := by
    intro m
    induction m with
    | zero => intro k h1 hk h2 hF; exact BX11_stores_2 ⟨fun _ => hq h1 (fun j hj => h2 j (by omega)) hF, fun z => by omega⟩
    | succ m ih =>
      intro k h1 hk h2 hF
      refine BX11_stores_2 ⟨fun z => by omega, fun _ => ?_⟩
      rw [w32a (k := 91) (n := 91) (s := k) rfl (by omega), w32_r (x := (k : Int) + 1) (by omega) (by omega), show (k : Int) + 1 = ((k + 1 : Nat) : Int) by omega]
      try simp only [Int.toNat_natCast]
      refine ⟨⟨by omega, by omega⟩, ⟨by omega, by omega⟩, fun h3 e3 => ?_⟩
      subst e3
      rw [hF.1 248 (91 + k) (by omega), X k (by omega)]
      refine ih (k + 1) _ (by omega) (fun j hj => ?_) (hF.si rfl)
      by_cases e : j = k
      · rw [e, gi_s0]
      · rw [gi_s2 (by omega)]; exact h2 j (by omega)
  exact EX11_stores (BX11_stores_0 (loop 20 0 h (by omega) (fun j hj => absurd hj (Nat.not_lt_zero j)) fr.rf))
/-- .. and laid again -/
theorem m_isAgain {st : Nat → Int} (X : ∀ k, k < 20 → gi h 265 k = st k) (hq : ∀ h', MSt h' st → fr (fun q k => q = 248 ∧ 91 ≤ k ∧ k < 111) h h' → Q none h') : C2 d mX11_isAgain [vR 247] h Q := by
  have loop : ∀ (m k : Nat) (h1 : PH), k + m = 20 → (∀ j, j < k → gi h1 248 (91 + j) = st j) → fr (fun q k => q = 248 ∧ 91 ≤ k ∧ k < 111) h h1 → T2 d mX11_isAgain 2 [some (vR 247), some (vI (k : Int))] [] h1 Q := by
    intro m
    induction m with
    | zero => intro k h1 hk h2 hF; exact BX11_isAgain_2 ⟨fun _ => hq h1 (fun j hj => h2 j (by omega)) hF, fun z => by omega⟩
    | succ m ih =>
      intro k h1 hk h2 hF
      refine BX11_isAgain_2 ⟨fun z => by omega, fun _ => ?_⟩
      rw [w32a (k := 91) (n := 91) (s := k) rfl (by omega), w32_r (x := (k : Int) + 1) (by omega) (by omega), show (k : Int) + 1 = ((k + 1 : Nat) : Int) by omega]
      try simp only [Int.toNat_natCast]
      refine ⟨⟨by omega, by omega⟩, ⟨by omega, by omega⟩, fun h3 e3 => ?_⟩
      subst e3
      rw [hF.1 265 k (by omega), X k (by omega)]
      refine ih (k + 1) _ (by omega) (fun j hj => ?_) (hF.si ⟨rfl, by omega, by omega⟩)
      by_cases e : j = k
      · rw [e, gi_s0]
      · rw [gi_s2 (by omega)]; exact h2 j (by omega)
  exact EX11_isAgain (BX11_isAgain_0 (loop 20 0 h (by omega) (fun j hj => absurd hj (Nat.not_lt_zero j)) fr.rf))
def frNo : Nat → Nat → Prop := fun q k => q = 248 ∧ 111 ≤ k ∧ k < 312
theorem m_notes {st0 : Nat → Int} {pa : List (Nat → Int)} (X : ∀ k, k < 20 → gi h 265 k = st0 k) (hP : MPa h pa) (hl : pa.length ≤ 10) (hq : ∀ h', MPa h' ((st0 :: pa).take 10) → fr frNo h h' → Q none h') : C2 d mX11_notes [vR 247] h Q := by
  -- the last twenty are laid
  have lay : ∀ (n : Nat) (h0 : PH), n ≤ 9 → gi h0 248 111 = (n : Int) → (∀ k, k < 20 → gi h0 265 k = st0 k) → fr frNo h h0 → (∀ h', gi h' 248 111 = ((n + 1 : Nat) : Int) → (∀ k, k < 20 → gi h' 248 (112 + 20 * n + k) = st0 k) → (∀ k, k < 20 * n → gi h' 248 (112 + k) = gi h0 248 (112 + k)) → fr frNo h h' → Q none h') → T2 d mX11_notes 59 [some (vR 247), some (vI 0)] [] h0 Q := by
    intro n h0 hn h111 h265 hF0 hq2
    have loop : ∀ (m k : Nat) (h1 : PH), k + m = 20 → (∀ j, j < k → gi h1 248 (112 + 20 * n + j) = st0 j) → fr (fun q i => q = 248 ∧ 112 + 20 * n ≤ i ∧ i < 112 + 20 * n + 20) h0 h1 → T2 d mX11_notes 59 [some (vR 247), some (vI (k : Int))] [] h1 Q := by
      intro m
      induction m with
      | zero =>
        intro k h1 hk h2 hF
        refine BX11_notes_59 ⟨fun _ h3 e3 => ?_, fun z => by omega⟩
        rw [hF.1 248 111 (by omega), h111, w32_r (by omega) (by omega)] at e3
        subst e3
        refine hq2 _ ?_ (fun j hj => ?_) (fun j hj => ?_) ((hF0.tr (hF.mono (fun q k z => by unfold frNo; omega))).si (by unfold frNo; omega))
        · rw [gi_s0]; omega
        · rw [gi_s2 (by omega)]; exact h2 j (by omega)
        · rw [gi_s2 (by omega), hF.1 248 _ (by omega)]
      | succ m ih =>
        intro k h1 hk h2 hF
        refine BX11_notes_59 ⟨fun z => by omega, fun _ => ?_⟩
        rw [hF.1 248 111 (by omega), h111, w32_r (x := 20 * (n : Int)) (by omega) (by omega), w32_r (x := 112 + 20 * (n : Int)) (by omega) (by omega), w32_r (x := 112 + 20 * (n : Int) + (k : Int)) (by omega) (by omega), w32_r (x := (k : Int) + 1) (by omega) (by omega), show (k : Int) + 1 = ((k + 1 : Nat) : Int) by omega, show 112 + 20 * (n : Int) + (k : Int) = ((112 + 20 * n + k : Nat) : Int) by omega]
        try simp only [Int.toNat_natCast]
        refine ⟨⟨by omega, by omega⟩, ⟨by omega, by omega⟩, fun h3 e3 => ?_⟩
        subst e3
        rw [hF.1 265 k (by omega), h265 k (by omega)]
        refine ih (k + 1) _ (by omega) (fun j hj => ?_) (hF.si ⟨rfl, by omega, by omega⟩)
        by_cases e : j = k
        · rw [e, gi_s0]
        · rw [gi_s2 (by omega)]; exact h2 j (by omega)
    exact loop 20 0 h0 (by omega) (fun j hj => absurd hj (Nat.not_lt_zero j)) fr.rf
  obtain ⟨p1, p2⟩ := hP
  refine EX11_notes (BX11_notes_0 ⟨fun z => ?_, fun z => ?_⟩)
  · rw [p1] at z
    refine lay pa.length h (by omega) p1 X fr.rf (fun h' q1 q2 q3 qF => hq h' ⟨?_, fun i hi k hk => ?_⟩ qF)
    · rw [q1, take10 hl]; omega
    · rw [take10 hl] at hi ⊢
      rw [take10_at (by omega)]
      cases i with
      | zero => rw [List.getD_cons_zero, show min (pa.length + 1) 10 - 1 - 0 = pa.length by omega]; exact q2 k hk
      | succ i =>
        have := p2 i (by omega) k hk
        rw [List.getD_cons_succ, ← this, show 112 + 20 * (min (pa.length + 1) 10 - 1 - (i + 1)) + k = 112 + (20 * (pa.length - 1 - i) + k) by omega, show 112 + 20 * (pa.length - 1 - i) + k = 112 + (20 * (pa.length - 1 - i) + k) by omega]
        exact q3 _ (by omega)
  · rw [p1] at z
    have shf : ∀ (m k : Nat) (h1 : PH), k + m = 180 → (∀ j, j < k → gi h1 248 (112 + j) = gi h 248 (132 + j)) → (∀ j, k ≤ j → j < 200 → gi h1 248 (112 + j) = gi h 248 (112 + j)) → fr (fun q i => q = 248 ∧ 112 ≤ i ∧ i < 312) h h1 → T2 d mX11_notes 14 [some (vR 247), some (vI (k : Int))] [] h1 Q := by
      intro m
      induction m with
      | zero =>
        intro k h1 hk h2 h3 hF
        refine BX11_notes_14 ⟨fun _ h4 e4 => ?_, fun z => by omega⟩
        rw [hF.1 248 111 (by omega), p1, w32_r (by omega) (by omega)] at e4
        have F4 : fr frNo h h4 := by subst e4; exact (hF.mono (fun q k z => by unfold frNo; omega)).si (by unfold frNo; omega)
        refine lay 9 h4 (by omega) (by subst e4; rw [gi_s0]; omega) (fun k hk => by rw [F4.1 _ _ (by unfold frNo; omega)]; exact X k hk) F4 (fun h' q1 q2 q3 qF => hq h' ⟨?_, fun i hi k hk => ?_⟩ qF)
        · rw [q1, take10 hl]; omega
        · rw [take10 hl] at hi ⊢
          rw [take10_at (by omega)]
          cases i with
          | zero => rw [List.getD_cons_zero, show min (pa.length + 1) 10 - 1 - 0 = 9 by omega]; exact q2 k hk
          | succ i =>
            have := p2 i (by omega) k hk
            rw [List.getD_cons_succ, ← this, show 112 + 20 * (min (pa.length + 1) 10 - 1 - (i + 1)) + k = 112 + (20 * (8 - i) + k) by omega, q3 _ (by omega)]
            subst e4
            rw [gi_s2 (by omega), h2 _ (by omega), show 132 + (20 * (8 - i) + k) = 112 + 20 * (pa.length - 1 - i) + k by omega]
      | succ m ih =>
        intro k h1 hk h2 h3 hF
        refine BX11_notes_14 ⟨fun z => by omega, fun _ => ?_⟩
        rw [w32a (k := 132) (n := 132) (s := k) rfl (by omega), w32a (k := 112) (n := 112) (s := k) rfl (by omega), w32_r (x := (k : Int) + 1) (by omega) (by omega), show (k : Int) + 1 = ((k + 1 : Nat) : Int) by omega]
        try simp only [Int.toNat_natCast]
        refine ⟨⟨by omega, by omega⟩, ⟨by omega, by omega⟩, fun h4 e4 => ?_⟩
        subst e4
        refine ih (k + 1) _ (by omega) (fun j hj => ?_) (fun j hj hj2 => ?_) (hF.si ⟨rfl, by omega, by omega⟩)
        · by_cases e : j = k
          · subst e
            have := h3 (20 + j) (by omega) (by omega)
            rw [gi_s0, show 132 + j = 112 + (20 + j) by omega, this]
          · rw [gi_s2 (by omega)]; exact h2 j (by omega)
        · rw [gi_s2 (by omega)]; exact h3 j (by omega) hj2
    exact shf 180 0 h (by omega) (fun j hj => absurd hj (Nat.not_lt_zero j)) (fun j _ _ => rfl) fr.rf
/-- a new state of now -/
def frNs : Nat → Nat → Prop := fun q k => frMs q k ∨ (q = 248 ∧ 91 ≤ k ∧ k < 312)
theorem RM.newSt {h h' : PH} {st : Nat → Int} {pa : List (Nat → Int)} (X : RM h A) (hF : fr frNs h h') (hok : AOK (uS A st pa)) (hS : MSt h' st) (hP : MPa h' pa) : RM h' (uS A st pa) := by
  obtain ⟨ok, ⟨a1, a2⟩, ⟨b1, b2⟩, c1, d1, ⟨e1, e2⟩, f1, ⟨g1, g2⟩, ⟨i1, i2, i3⟩⟩ := X
  have G : ∀ q k, ¬ frNs q k → gi h' q k = gi h q k := hF.1
  refine ⟨hok, ⟨by rw [G _ _ (by unfold frNs frMs; omega)]; exact a1, fun i hi => by rw [G _ _ (by unfold frNs frMs; omega)]; exact a2 i hi⟩, ⟨by rw [G _ _ (by unfold frNs frMs; omega)]; exact b1, by rw [G _ _ (by unfold frNs frMs; omega)]; exact b2⟩, c1.keep ok.1 (fun j _ _ => G _ _ (by unfold frNs frMs; omega)), hS, hP, fun i hi => ⟨fun z => by rw [G _ _ (by unfold frNs frMs; omega)]; exact (f1 i hi).1 z, fun gs z => ?_⟩, ⟨fun i hi => by rw [G _ _ (by unfold frNs frMs; omega), G _ _ (by unfold frNs frMs; omega)]; exact g1 i hi, fun j hj => by rw [hF.2.1 _ _ (by unfold frNs frMs; omega)]; exact g2 j hj⟩, ⟨by rw [G _ _ (by unfold frNs frMs; omega)]; exact i1, by rw [G _ _ (by unfold frNs frMs; omega)]; exact i2, fun j hj => by rw [G _ _ (by unfold frNs frMs; omega), G _ _ (by unfold frNs frMs; omega)]; exact i3 j hj⟩⟩
  obtain ⟨z1, z2, z3⟩ := (f1 i hi).2 gs z
  exact ⟨by rw [G _ _ (by unfold frNs frMs; omega)]; exact z1, z2.keep (ok.im z) (fun j _ _ => G _ _ (by unfold frNs frMs; omega)), fun k hk => by rw [G _ _ (by unfold frNs frMs; omega)]; exact z3 k hk⟩
theorem frNs_o {q k : Nat} (z : frNs q k) : frMo q k := by unfold frNs frMs at z; unfold frMo; omega
theorem uS_self : uS A (A_st A) (A_pa A) = A := rfl
theorem psh_ok (ok : AOK A) {st : Nat → Int} (h : SOK (A_g A) st) : AOK (psh A st) := ok.uS h (fun s hs => by
  rcases List.mem_cons.mp (List.mem_of_mem_take hs) with z | z
  · rw [z]; exact ok.2.1
  · exact ok.2.2.1.1 s z) (by rw [take10 ok.2.2.1.2]; omega)
/-- a deed that was done is noted -/
theorem n_note (X : RM h A) {st : Nat → Int} {h1 : PH} (F : fr frNs h h1) (hs : ∀ k, k < 20 → gi h1 265 k = A_st A k) (hS : MSt h1 st) (hP : ∀ k, 111 ≤ k → k < 312 → gi h1 248 k = gi h 248 k) (oks : SOK (A_g A) st) (hq : ∀ h', RM h' (psh A st) → MSt h' st → (∀ k, k < 20 → gi h' 265 k = A_st A k) → fr frMo h h' → Q none h') : C2 d mX11_notes [vR 247] h1 Q := by
  have p := X.2.2.2.2.2.1
  have hl := X.1.2.2.1.2
  refine m_notes hs (pa := A_pa A) ⟨by rw [hP _ (by omega) (by omega)]; exact p.1, fun i hi k hk => by rw [hP _ (by omega) (by omega)]; exact p.2 i hi k hk⟩ hl (fun h2 b1 b2 => ?_)
  have F2 : fr frNs h h2 := F.tr (b2.mono (fun q k z => by unfold frNo at z; unfold frNs; omega))
  have S2 : MSt h2 st := fun k hk => by rw [b2.1 _ _ (by unfold frNo; omega)]; exact hS k hk
  exact hq h2 (X.newSt F2 (psh_ok X.1 oks) S2 b1) S2 (fun k hk => by rw [b2.1 _ _ (by unfold frNo; omega)]; exact hs k hk) (F2.mono (fun q k z => frNs_o z))
end
