/-! THE MODEL: numbers, lists, images, feeding -/
section
variable {d : Nat} {h : PH} {Q : Option PV → PH → Prop}
variable {A : AS}
theorem n_numbers (X : RM h A) {t so n : Int} (hq : ∀ h', RM h' (o_numbers A t so n).2 → fr frMo h h' → Q (some (vI (o_numbers A t so n).1)) h') : C2 (d + 1) mX11_numbers [vR 247, vI t, vI so, vI n] h Q := by
  unfold o_numbers at hq
  obtain ⟨o1, o2, o3, o4, o5, o6, o7⟩ := X.1
  refine EX11_numbers fun _ _ _ => BX11_numbers_0 (fun h1 e1 => ?_)
  obtain ⟨X1, F1⟩ := X.z e1
  obtain ⟨t1, t2⟩ := X1.2.2.2.2.2.2.2.1
  obtain ⟨u1, u2, u3⟩ := X1.2.2.2.2.2.2.2.2
  refine m_within (fun _ => ⟨fun z => ?_, fun z => ?_⟩)
  · have ht := if00 z
    rw [if_pos (by omega)] at hq
    exact hq h1 X1 F1
  have ht := if01 z
  refine m_within (fun _ => ⟨fun y => ?_, fun y => ?_⟩)
  · have hs := if01 y
    refine m_within (fun _ => ⟨fun x => ⟨by omega, fun h2 e2 => ⟨by omega, fun h3 e3 => ?_⟩⟩, fun x => ?_⟩)
    · have hn := if01 x
      rw [if_neg (by omega), if_neg (by omega)] at hq
      obtain ⟨tn, htn⟩ := ex_nat ht.1
      obtain ⟨nn, hnn⟩ := ex_nat hn.1
      subst htn hnn
      simp only [Int.toNat_natCast] at hq e2 e3
      have loop : ∀ (m j : Nat) (h4 : PH), j + m = nn → (∀ i, i < 160 → gj h4 278 i = if 40 * tn ≤ i ∧ i < 40 * tn + j then 0 else gj h1 278 i) → (∀ q k, gi h4 q k = gi h3 q k) → fr (fun q _ => q = 278) h3 h4 → T2 (d + 1) mX11_numbers 64 [some (vR 247), some (vI (tn : Int)), none, some (vI (nn : Int)), some (vI (j : Int))] [] h4 Q := by
        intro m
        induction m with
        | zero =>
          intro j h4 hj h5 h6 hF
          refine BX11_numbers_64 ⟨fun _ => ?_, fun z => by omega⟩
          have F4 : fr frTd h1 h4 := by
            refine fr.tr (h2 := h3) ?_ (hF.mono (fun q k z => by unfold frTd; omega))
            subst e3 e2
            exact (fr.rf.si (by unfold frTd; omega)).si (by unfold frTd; omega)
          refine hq h4 (X1.newTD F4 ⟨o1, o2, o3, o4, o5, fun i => ?_, o7⟩ rfl rfl rfl rfl rfl ⟨fun i hi => ⟨?_, ?_⟩, fun i hi => ?_⟩ ⟨?_, ?_, fun i hi => ?_⟩) (F1.tr (F4.mono (fun q k z => frTd_o z)))
          · have := o6 i
            show -1 ≤ upf (A_so A) tn so i ∧ upf (A_so A) tn so i ≤ 3 ∧ 0 ≤ upf (A_sz A) tn nn i ∧ upf (A_sz A) tn nn i ≤ 40
            unfold upf
            split <;> omega
          · show gi h4 276 i = upf (A_so A) tn so i
            unfold upf
            rw [h6]
            subst e3 e2
            rw [gi_s1 (by omega)]
            by_cases e : i = tn
            · rw [if_pos e, e, gi_s0]
            · rw [if_neg e, gi_s2 e]; exact (t1 i hi).1
          · show gi h4 277 i = upf (A_sz A) tn (nn : Int) i
            unfold upf
            rw [h6]
            subst e3 e2
            by_cases e : i = tn
            · rw [if_pos e, e, gi_s0]
            · rw [if_neg e, gi_s2 e, gi_s1 (by omega)]; exact (t1 i hi).2
          · show gj h4 278 i = if 40 * tn ≤ i ∧ i < 40 * tn + nn then 0 else A_vl A i
            rw [h5 i hi, show j = nn by omega, t2 i hi]
          · rw [h6]; subst e3 e2; simp (disch := omega) only [gi_s0, gi_s1, gi_s2, gj_s0, gj_s1, gj_s2, gi_f0, gi_f1, gj_f0, gj_f1, gr_r0, gr_r1, gr_r2, gi_sj, gi_sr, gj_si, gj_sr, gr_si, gr_sj, gr_stI, gj_stI, gi_stJ, gr_stJ]; exact u1
          · rw [h6]; subst e3 e2; simp (disch := omega) only [gi_s0, gi_s1, gi_s2, gj_s0, gj_s1, gj_s2, gi_f0, gi_f1, gj_f0, gj_f1, gr_r0, gr_r1, gr_r2, gi_sj, gi_sr, gj_si, gj_sr, gr_si, gr_sj, gr_stI, gj_stI, gi_stJ, gr_stJ]; exact u2
          · rw [h6, h6]; subst e3 e2; simp (disch := omega) only [gi_s0, gi_s1, gi_s2, gj_s0, gj_s1, gj_s2, gi_f0, gi_f1, gj_f0, gj_f1, gr_r0, gr_r1, gr_r2, gi_sj, gi_sr, gj_si, gj_sr, gr_si, gr_sj, gr_stI, gj_stI, gi_stJ, gr_stJ]; exact u3 i hi
        | succ m ih =>
          intro j h4 hj h5 h6 hF
          refine BX11_numbers_64 ⟨fun z => by omega, fun _ => ?_⟩
          rw [w32_r (x := 40 * (tn : Int)) (by omega) (by omega), w32_r (x := 40 * (tn : Int) + (j : Int)) (by omega) (by omega), show 40 * (tn : Int) + (j : Int) = ((40 * tn + j : Nat) : Int) by omega, w32_r (x := (j : Int) + 1) (by omega) (by omega), show (j : Int) + 1 = ((j + 1 : Nat) : Int) by omega]
          try simp only [Int.toNat_natCast]
          refine ⟨⟨by omega, by omega⟩, fun h7 e7 => ?_⟩
          subst e7
          refine ih (j + 1) _ (by omega) (fun i hi => ?_) h6 (hF.sj rfl)
          by_cases e : i = 40 * tn + j
          · rw [e, gj_s0, if_pos (by omega)]
          · rw [gj_s2 e, h5 i hi]
            by_cases c : 40 * tn ≤ i ∧ i < 40 * tn + j
            · rw [if_pos c, if_pos (by omega)]
            · rw [if_neg c, if_neg (by omega)]
      refine loop nn 0 h3 (by omega) (fun i hi => ?_) (fun q k => rfl) fr.rf
      rw [if_neg (by omega)]
      subst e3 e2
      rfl
    · have hn := if00 x
      rw [if_neg (by omega), if_pos (by omega)] at hq
      exact hq h1 X1 F1
  · have hs := if00 y
    rw [if_pos (by omega)] at hq
    exact hq h1 X1 F1
theorem n_lists (X : RM h A) {t : Int} (hq : ∀ h', RM h' (o_lists A t).2 → fr frMo h h' → Q (some (vI (o_lists A t).1)) h') : C2 (d + 10) mX11_lists [vR 247, vI t] h Q := by
  unfold o_lists at hq
  have ok1 := X.1.1.1
  refine EX11_lists fun _ => BX11_lists_0 (fun h1 e1 => ?_)
  obtain ⟨X1, F1⟩ := X.z e1
  refine m_noTray (d := d + 8) X1 (fun _ => ⟨fun y => ?_, fun y => ?_⟩)
  · obtain ⟨ht, hso⟩ := noT_0 y
    rw [if_neg (fun e => e y)] at hq
    obtain ⟨n, hn⟩ := ex_nat ht.1
    subst hn
    simp only [Int.toNat_natCast] at hso hq
    have hsz := X.1.2.2.2.2.2.1 n
    refine n_now (d := d) X1 (fun h2 X2 M2 D2 F2 => ⟨rfl, ?_⟩)
    obtain ⟨t1, t2⟩ := X2.2.2.2.2.2.2.2.1
    have e6 := X2.mg.fl.2.2.2.2.2.2
    try dsimp only
    try simp only [Int.toNat_natCast]
    rw [(t1 n (by omega)).2, e6]
    generalize hN : (min (g_W (A_g A) : Int) (A_sz A n)).toNat = N at hq
    have loop : ∀ (m j : Nat) (h4 : PH), j + m = N → (∀ i, i < 160 → gj h4 278 i = if 40 * n ≤ i ∧ i < 40 * n + j then aL A ((i - 40 * n : Nat) : Int) else A_vl A i) → (∀ q k, gi h4 q k = gi h2 q k) → fr (fun q _ => q = 278) h2 h4 → T2 (d + 9 + 1) mX11_lists 57 [some (vR 247), some (vI (n : Int)), none, some (vI (N : Int)), some (vI (j : Int))] [] h4 Q := by
      intro m
      induction m with
      | zero =>
        intro j h4 hj h5 h6 hF
        refine BX11_lists_57 ⟨fun _ => ?_, fun z => by omega⟩
        have := hq h4 (X2.newVl hF h6 (fun i hi => by rw [h5 i hi, show j = N by omega])) ((F1.tr F2).tr (hF.mono (fun q k z => by unfold frMo; omega)))
        rw [show min (g_W (A_g A) : Int) (A_sz A n) = (N : Int) by omega] at this
        exact this
      | succ m ih =>
        intro j h4 hj h5 h6 hF
        refine BX11_lists_57 ⟨fun z => by omega, fun _ => ?_⟩
        have M4 : MC h4 (A_g A) (A_st A) (A_w A) (-1) := M2.keepF (fun k => h6 _ _) ⟨h6 _ _, h6 _ _, h6 _ _⟩
        refine c_lineM M4 (D2.1.2.1.keep (fun q k _ => h6 _ _)) (by omega) (by omega) (fun _ => ?_)
        rw [w32_r (x := 40 * (n : Int)) (by omega) (by omega), w32_r (x := 40 * (n : Int) + (j : Int)) (by omega) (by omega), show 40 * (n : Int) + (j : Int) = ((40 * n + j : Nat) : Int) by omega, w32_r (x := (j : Int) + 1) (by omega) (by omega), show (j : Int) + 1 = ((j + 1 : Nat) : Int) by omega]
        try simp only [Int.toNat_natCast]
        refine ⟨⟨by omega, by omega⟩, fun h7 e7 => ?_⟩
        subst e7
        refine ih (j + 1) _ (by omega) (fun i hi => ?_) h6 (hF.sj rfl)
        by_cases e : i = 40 * n + j
        · rw [e, gj_s0, if_pos (by omega), show 40 * n + j - 40 * n = j by omega]; rfl
        · rw [gj_s2 e, h5 i hi]
          by_cases c : 40 * n ≤ i ∧ i < 40 * n + j
          · rw [if_pos c, if_pos (by omega)]
          · rw [if_neg c, if_neg (by omega)]
    have start := loop N 0 h2 (by omega) (fun i hi => by rw [if_neg (by omega)]; exact t2 i hi) (fun q k => rfl) fr.rf
    refine ⟨⟨by omega, by omega⟩, fun c => ⟨⟨by omega, by omega⟩, ?_⟩, fun c => ?_⟩
    · rw [show A_sz A n = (N : Int) by omega]; exact start
    · rw [show (g_W (A_g A) : Int) = (N : Int) by omega]; exact start
  · rw [if_pos y] at hq
    exact hq h1 X1 F1
theorem zb1 : zb 1 = 1 := by decide +kernel
theorem n_image (X : RM h A) {i : Int} (hq : ∀ h', RM h' (o_image A i).2 → fr frMo h h' → Q (some (vI (o_image A i).1)) h') : C2 (d + 1) mX11_image [vR 247, vI i] h Q := by
  unfold o_image at hq
  refine EX11_image fun _ => BX11_image_0 (fun h1 e1 => ?_)
  obtain ⟨X1, F1⟩ := X.z e1
  refine m_within (fun _ => ⟨fun z => ?_, fun z => ?_⟩)
  · have hi := if01 z
    rw [if_neg (by omega)] at hq
    obtain ⟨n, hn⟩ := ex_nat hi.1
    subst hn
    simp only [Int.toNat_natCast] at hq
    have loop : ∀ (m j : Nat) (h2 : PH), j + m = 1213 → (∀ k, k < j → gi h2 248 (1213 * (n + 1) + k) = gi h1 248 k) → fr (fun q k => q = 248 ∧ 1213 * (n + 1) ≤ k ∧ k < 1213 * (n + 1) + 1213) h1 h2 → T2 (d + 1) mX11_image 20 [some (vR 247), some (vI (n : Int)), some (vI (j : Int))] [] h2 Q := by
      intro m
      induction m with
      | zero =>
        intro j h2 hj h3 hF
        refine BX11_image_20 ⟨fun _ => ⟨by omega, fun h4 e4 => ?_⟩, fun z => by omega⟩
        rw [zb1, Int.toNat_natCast] at e4
        obtain ⟨ok, ⟨a1, a2⟩, ⟨b1, b2⟩, c1, d1, ⟨p1, p2⟩, f1, ⟨g1, g2⟩, ⟨i1, i2, i3⟩⟩ := X1
        have G : ∀ q k, ¬ (q = 248 ∧ 1213 * (n + 1) ≤ k ∧ k < 1213 * (n + 1) + 1213) → ¬ (q = 249 ∧ k = n) → gi h4 q k = gi h1 q k := fun q k z1 z2 => by
          subst e4
          rw [gi_si, if_neg z2, hF.1 _ _ z1]
        have g8 : ∀ k, k < 1213 → gi h4 248 k = gi h1 248 k := fun k hk => G _ _ (by omega) (by omega)
        have g8' : ∀ k, k < 1213 → gi h4 248 (1213 * (n + 1) + k) = gi h1 248 k := fun k hk => by subst e4; rw [gi_s1 (by omega)]; exact h3 k (by omega)
        have pl := ok.2.2.1.2
        refine hq h4 ⟨⟨ok.1, ok.2.1, ok.2.2.1, fun j gs e => ?_, ok.2.2.2.2.1, ok.2.2.2.2.2.1, ok.2.2.2.2.2.2⟩, ⟨by rw [G _ _ (by omega) (by omega)]; exact a1, fun j hj => by rw [G _ _ (by omega) (by omega)]; exact a2 j hj⟩, ⟨by rw [G _ _ (by omega) (by omega)]; exact b1, by rw [G _ _ (by omega) (by omega)]; exact b2⟩, c1.keep ok.1 (fun j hj _ => by rw [Nat.zero_add]; exact g8 j hj), fun k hk => by rw [g8 _ (by omega)]; exact d1 k hk, ⟨by rw [g8 _ (by omega)]; exact p1, fun j hj k hk => by have hj' : j < (A_pa A).length := hj; show gi h4 248 (112 + 20 * ((A_pa A).length - 1 - j) + k) = (A_pa A).getD j (fun _ => 0) k; rw [g8 _ (by omega)]; exact p2 j hj k hk⟩, fun j hj => ⟨fun e => ?_, fun gs e => ?_⟩, ⟨fun j hj => by rw [G _ _ (by omega) (by omega), G _ _ (by omega) (by omega)]; exact g1 j hj, fun j hj => ?_⟩, ⟨by rw [G _ _ (by omega) (by omega)]; exact i1, by rw [G _ _ (by omega) (by omega)]; exact i2, fun j hj => by rw [G _ _ (by omega) (by omega), G _ _ (by omega) (by omega)]; exact i3 j hj⟩⟩ ?_
        · have e' : (if j = n then some (A_g A, A_st A) else A_im A j) = some gs := e
          by_cases c : j = n
          · rw [if_pos c] at e'; cases e'; exact ⟨ok.1, ok.2.1⟩
          · rw [if_neg c] at e'; exact ok.2.2.2.1 j gs e'
        · have e' : (if j = n then some (A_g A, A_st A) else A_im A j) = none := e
          by_cases c : j = n
          · rw [if_pos c] at e'; cases e'
          · rw [if_neg c] at e'; rw [G _ _ (by omega) (by omega)]; exact (f1 j hj).1 e'
        · have e' : (if j = n then some (A_g A, A_st A) else A_im A j) = some gs := e
          by_cases c : j = n
          · rw [if_pos c] at e'
            cases e'
            subst c
            refine ⟨by subst e4; exact gi_s0, c1.keep ok.1 (fun k hk _ => by rw [Nat.zero_add]; exact g8' k hk), fun k hk => by rw [g8' _ (by omega)]; exact d1 k hk⟩
          · rw [if_neg c] at e'
            obtain ⟨z1, z2, z3⟩ := (f1 j hj).2 gs e'
            exact ⟨by rw [G _ _ (by omega) (by omega)]; exact z1, z2.keep (ok.im e') (fun k hk _ => G _ _ (by omega) (by omega)), fun k hk => by rw [G _ _ (by omega) (by omega)]; exact z3 k hk⟩
        · subst e4
          have : gj (si h2 249 n 1) 278 j = gj h2 278 j := rfl
          rw [this, hF.2.1 _ _ (by omega)]; exact g2 j hj
        · subst e4
          exact (F1.tr (hF.mono (fun q k z => by unfold frMo; omega))).si (by unfold frMo; omega)
      | succ m ih =>
        intro j h2 hj h3 hF
        refine BX11_image_20 ⟨fun z => by omega, fun _ => ?_⟩
        rw [w32_r (x := (n : Int) + 1) (by omega) (by omega), w32_r (x := 1213 * ((n : Int) + 1)) (by omega) (by omega), w32_r (x := 1213 * ((n : Int) + 1) + (j : Int)) (by omega) (by omega), show 1213 * ((n : Int) + 1) + (j : Int) = ((1213 * (n + 1) + j : Nat) : Int) by omega, w32_r (x := (j : Int) + 1) (by omega) (by omega), show (j : Int) + 1 = ((j + 1 : Nat) : Int) by omega]
        try simp only [Int.toNat_natCast]
        refine ⟨⟨by omega, by omega⟩, ⟨by omega, by omega⟩, fun h4 e4 => ?_⟩
        subst e4
        refine ih (j + 1) _ (by omega) (fun k hk => ?_) (hF.si ⟨rfl, by omega, by omega⟩)
        by_cases e : k = j
        · rw [e, gi_s0, hF.1 248 j (by omega)]
        · rw [gi_s2 (by omega)]; exact h3 k (by omega)
    exact loop 1213 0 h1 (by omega) (fun k hk => absurd hk (Nat.not_lt_zero k)) fr.rf
  · have hi := if00 z
    rw [if_pos (by omega)] at hq
    exact hq h1 X1 F1
theorem n_restore (X : RM h A) {i : Int} (hq : ∀ h', RM h' (o_restore A i).2 → fr frMo h h' → Q (some (vI (o_restore A i).1)) h') : C2 (d + 1) mX11_restore [vR 247, vI i] h Q := by
  unfold o_restore at hq
  refine EX11_restore fun _ => BX11_restore_0 (fun h1 e1 => ?_)
  obtain ⟨X1, F1⟩ := X.z e1
  refine m_within (fun _ => ⟨fun z => ?_, fun z => ?_⟩)
  · have hi := if01 z
    rw [if_neg (by omega)] at hq
    obtain ⟨n, hn⟩ := ex_nat hi.1
    subst hn
    simp only [Int.toNat_natCast] at hq
    try simp only [Int.toNat_natCast]
    refine ⟨⟨by omega, by omega⟩, ?_⟩
    obtain ⟨ok, ⟨a1, a2⟩, ⟨b1, b2⟩, c1, d1, ⟨p1, p2⟩, f1, ⟨g1, g2⟩, ⟨i1, i2, i3⟩⟩ := id X1
    cases him : A_im A n with
    | none =>
      rw [him] at hq
      have e0 := (f1 n (by omega)).1 him
      exact ⟨fun w => absurd e0 w, fun _ => hq h1 X1 F1⟩
    | some gs =>
      rw [him] at hq
      obtain ⟨z1, z2, z3⟩ := (f1 n (by omega)).2 gs him
      refine ⟨fun _ => ?_, fun w => by rw [z1] at w; exact absurd w (by decide)⟩
      have loop : ∀ (m j : Nat) (h2 : PH), j + m = 1213 → (∀ k, k < j → gi h2 248 k = gi h1 248 (1213 * (n + 1) + k)) → fr (fun q k => q = 248 ∧ k < 1213) h1 h2 → T2 (d + 1) mX11_restore 32 [some (vR 247), some (vI (n : Int)), some (vI (j : Int))] [] h2 Q := by
        intro m
        induction m with
        | zero =>
          intro j h2 hj h3 hF
          refine BX11_restore_32 ⟨fun _ h4 e4 => ?_, fun z => by omega⟩
          have G : ∀ q k, ¬ (q = 248 ∧ k < 1213) → gi h4 q k = gi h1 q k := fun q k z => by
            subst e4
            rw [gi_si, if_neg (by omega), hF.1 _ _ z]
          have g8 : ∀ k, k < 1213 → k ≠ 111 → gi h4 248 k = gi h1 248 (1213 * (n + 1) + k) := fun k hk h111 => by subst e4; rw [gi_s2 h111]; exact h3 k (by omega)
          have oki := ok.2.2.2.1 n gs him
          refine hq h4 ⟨ok.uP oki.1 oki.2, ⟨by rw [G _ _ (by omega)]; exact a1, fun j hj => by rw [G _ _ (by omega)]; exact a2 j hj⟩, ⟨by rw [G _ _ (by omega)]; exact b1, by rw [G _ _ (by omega)]; exact b2⟩, z2.keep oki.1 (fun j hj hj2 => by rw [Nat.zero_add]; exact g8 j hj (by omega)), fun k hk => by rw [g8 _ (by omega) (by omega)]; exact z3 k hk, ⟨by subst e4; rw [gi_s0]; rfl, fun i hi => absurd hi (Nat.not_lt_zero i)⟩, fun j hj => ⟨fun e => ?_, fun gs' e => ?_⟩, ⟨fun j hj => by rw [G _ _ (by omega), G _ _ (by omega)]; exact g1 j hj, fun j hj => ?_⟩, ⟨by rw [G _ _ (by omega)]; exact i1, by rw [G _ _ (by omega)]; exact i2, fun j hj => by rw [G _ _ (by omega), G _ _ (by omega)]; exact i3 j hj⟩⟩ ?_
          · rw [G _ _ (by omega)]; exact (f1 j hj).1 e
          · obtain ⟨y1, y2, y3⟩ := (f1 j hj).2 gs' e
            exact ⟨by rw [G _ _ (by omega)]; exact y1, y2.keep (ok.im e) (fun k hk _ => G _ _ (by omega)), fun k hk => by rw [G _ _ (by omega)]; exact y3 k hk⟩
          · subst e4
            have : gj (si h2 248 111 0) 278 j = gj h2 278 j := rfl
            rw [this, hF.2.1 _ _ (by omega)]; exact g2 j hj
          · subst e4
            exact (F1.tr (hF.mono (fun q k z => by unfold frMo; omega))).si (by unfold frMo; omega)
        | succ m ih =>
          intro j h2 hj h3 hF
          refine BX11_restore_32 ⟨fun z => by omega, fun _ => ?_⟩
          rw [w32_r (x := (n : Int) + 1) (by omega) (by omega), w32_r (x := 1213 * ((n : Int) + 1)) (by omega) (by omega), w32_r (x := 1213 * ((n : Int) + 1) + (j : Int)) (by omega) (by omega), show 1213 * ((n : Int) + 1) + (j : Int) = ((1213 * (n + 1) + j : Nat) : Int) by omega, w32_r (x := (j : Int) + 1) (by omega) (by omega), show (j : Int) + 1 = ((j + 1 : Nat) : Int) by omega]
          try simp only [Int.toNat_natCast]
          refine ⟨⟨by omega, by omega⟩, ⟨by omega, by omega⟩, fun h4 e4 => ?_⟩
          subst e4
          refine ih (j + 1) _ (by omega) (fun k hk => ?_) (hF.si ⟨rfl, by omega⟩)
          by_cases e : k = j
          · rw [e, gi_s0, hF.1 248 _ (by omega)]
          · rw [gi_s2 (by omega)]; exact h3 k (by omega)
      exact loop 1213 0 h1 (by omega) (fun k hk => absurd hk (Nat.not_lt_zero k)) fr.rf
  · have hi := if00 z
    rw [if_pos (by omega)] at hq
    exact hq h1 X1 F1
theorem n_feed (X : RM h A) {x1 x2 x3 x4 x5 : Int} (hq : ∀ h', RM h' (o_feed A x1 x2 x3 x4 x5).2 → fr frMo h h' → Q (some (vI (o_feed A x1 x2 x3 x4 x5).1)) h') : C2 d mX11_feed [vR 247, vI x1, vI x2, vI x3, vI x4, vI x5] h Q := by
  unfold o_feed at hq
  have o5 := X.1.2.2.2.2.1
  refine EX11_feed fun _ _ _ _ _ => BX11_feed_0 (fun h1 e1 => ?_)
  obtain ⟨X1, F1⟩ := X.z e1
  obtain ⟨ok, ⟨a1, a2⟩, ⟨b1, b2⟩, c1, d1, p1, f1, ⟨g1, g2⟩, ⟨i1, i2, i3⟩⟩ := id X1
  rw [a1, w32_r (by omega) (by omega)]
  refine ⟨fun z => ?_, fun z => ?_⟩
  · rw [if_neg (by omega)] at hq
    have loop : ∀ (m j : Nat) (h2 : PH), j + m = 20 → gi h2 247 5 = ((A_n A + j : Nat) : Int) → (∀ k, k < j → gi h2 250 (A_n A + k) = bts x1 x2 x3 x4 x5 k) → fr (fun q k => (q = 250 ∧ A_n A ≤ k) ∨ (q = 247 ∧ k = 5)) h1 h2 → T2 d mX11_feed 24 [some (vR 247), some (vI x1), some (vI x2), some (vI x3), some (vI x4), some (vI x5), some (vI (j : Int)), none] [] h2 Q := by
      intro m
      induction m with
      | zero =>
        intro j h2 hj h5 h3 hF
        refine BX11_feed_24 ⟨fun _ => ?_, fun z => by omega⟩
        have ej : j = 20 := by omega
        subst ej
        rw [h5]
        have G : ∀ q k, ¬ ((q = 250 ∧ A_n A ≤ k) ∨ (q = 247 ∧ k = 5)) → gi h2 q k = gi h1 q k := hF.1
        have g8 : ∀ k, gi h2 248 k = gi h1 248 k := fun k => G _ _ (by omega)
        refine hq h2 ⟨⟨ok.1, ok.2.1, ok.2.2.1, ok.2.2.2.1, ⟨?_, fun i => ?_⟩, ok.2.2.2.2.2⟩, ⟨h5, fun i hi => ?_⟩, ⟨by rw [G _ _ (by omega)]; exact b1, by rw [G _ _ (by omega)]; exact b2⟩, c1.keep ok.1 (fun j _ _ => g8 _), fun k hk => by rw [g8]; exact d1 k hk, ⟨by rw [g8]; exact p1.1, fun i hi k hk => by rw [g8]; exact p1.2 i hi k hk⟩, fun i hi => ⟨fun e => by rw [G _ _ (by omega)]; exact (f1 i hi).1 e, fun gs e => ?_⟩, ⟨fun i hi => by rw [G _ _ (by omega), G _ _ (by omega)]; exact g1 i hi, fun i hi => by rw [hF.2.1 _ _ (by omega)]; exact g2 i hi⟩, ⟨by rw [G _ _ (by omega)]; exact i1, by rw [G _ _ (by omega)]; exact i2, fun i hi => by rw [G _ _ (by omega), G _ _ (by omega)]; exact i3 i hi⟩⟩ (F1.tr (hF.mono (fun q k z => by unfold frMo; omega)))
        · show A_n A + 20 ≤ 900
          omega
        · show 0 ≤ tpU A (bts x1 x2 x3 x4 x5) 20 i ∧ tpU A (bts x1 x2 x3 x4 x5) 20 i ≤ 255
          unfold tpU
          split
          · unfold bts
            rw [iand255e]; omega
          · exact o5.2 i
        · show gi h2 250 i = tpU A (bts x1 x2 x3 x4 x5) 20 i
          have hi' : i < A_n A + 20 := hi
          unfold tpU
          by_cases c : A_n A ≤ i
          · rw [if_pos (by omega)]
            have := h3 (i - A_n A) (by omega)
            rw [show A_n A + (i - A_n A) = i by omega] at this; exact this
          · rw [if_neg (by omega), G _ _ (by omega)]; exact a2 i (by omega)
        · obtain ⟨y1, y2, y3⟩ := (f1 i hi).2 gs e
          exact ⟨by rw [G _ _ (by omega)]; exact y1, y2.keep (ok.im e) (fun k hk _ => g8 _), fun k hk => by rw [g8]; exact y3 k hk⟩
      | succ m ih =>
        intro j h2 hj h5 h3 hF
        have go : ∀ x : Int, x = (if j < 4 then x1 else if j < 8 then x2 else if j < 12 then x3 else if j < 16 then x4 else x5) → T2 d mX11_feed 77 [some (vR 247), some (vI x1), some (vI x2), some (vI x3), some (vI x4), some (vI x5), some (vI (j : Int)), none] [vI x] h2 Q := by
          intro x hx
          refine BX11_feed_77 ?_
          rw [h5, Int.tmod_eq_emod_of_nonneg (by omega), w32_r (x := 8 * ((j : Int) % 4)) (by omega) (by omega), w32_r (x := 24 - 8 * ((j : Int) % 4)) (by omega) (by omega), w32_r (x := (j : Int) + 1) (by omega) (by omega), show (j : Int) + 1 = ((j + 1 : Nat) : Int) by omega]
          try simp only [Int.toNat_natCast]
          refine ⟨⟨by omega, by omega⟩, fun h4 e4 h6 e6 => ?_⟩
          have v4 : gi h4 247 5 = ((A_n A + j : Nat) : Int) := by subst e4; rw [gi_s1 (by omega)]; exact h5
          rw [v4, w32_r (by omega) (by omega)] at e6
          subst e6
          refine ih (j + 1) _ (by omega) (by rw [gi_s0]; omega) (fun k hk => ?_) ?_
          · rw [gi_s1 (by omega)]
            subst e4
            by_cases e : k = j
            · subst e
              rw [gi_s0]
              unfold bts
              rw [hx, show ((k % 4 : Nat) : Int) = (k : Int) % 4 by omega]
            · rw [gi_s2 (by omega)]; exact h3 k (by omega)
          · subst e4
            exact (hF.si (Or.inl ⟨rfl, by omega⟩)).si (Or.inr ⟨rfl, rfl⟩)
        refine BX11_feed_24 ⟨fun z => by omega, fun _ => ⟨fun c1 => ⟨fun c2 => ⟨fun c3 => ⟨fun c4 => go x5 ?_, fun c4 => go x4 ?_⟩, fun c3 => go x3 ?_⟩, fun c2 => go x2 ?_⟩, fun c1 => go x1 ?_⟩⟩
        · rw [if_neg (by omega), if_neg (by omega), if_neg (by omega), if_neg (by omega)]
        · rw [if_neg (by omega), if_neg (by omega), if_neg (by omega), if_pos (by omega)]
        · rw [if_neg (by omega), if_neg (by omega), if_pos (by omega)]
        · rw [if_neg (by omega), if_pos (by omega)]
        · rw [if_pos (by omega)]
    exact loop 20 0 h1 (by omega) a1 (fun k hk => absurd hk (Nat.not_lt_zero k)) fr.rf
  · rw [if_pos (by omega)] at hq
    exact hq h1 X1 F1
end
