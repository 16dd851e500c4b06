/-! THE MODEL: calls that ask -/
theorem ior0 {x : Int} (h : R32 x) : ior x 0 = x := bit_ext (R32_ior _ _) h (fun i _ => by rw [bit_ior, bit_0, Bool.or_false])
section
variable {d : Nat} {h : PH} {Q : Option PV → PH → Prop}
variable {A : AS}
theorem RM.okm (X : RM h A) : VOK (A_v A) ∧ 0 ≤ A_w A ∧ A_w A ≤ 200 ∧ 10 ≤ A_w A := by
  have h1 : 10 ≤ A_w A := X.1.1.1.1
  have h2 : A_w A ≤ 200 := X.1.1.1.2.1
  exact ⟨vw_ok X.1.1 X.1.2.1, by omega, by omega, by omega⟩
theorem n_word (X : RM h A) {w what : Int} (hq : ∀ h', RM h' A → fr frMo h h' → Q (some (vI (r_word A w what))) h') : C2 (d + 3) mX11_word [vR 247, vI w, vI what] h Q := by
  unfold r_word at hq
  have ok1 := X.1.1.1
  have ok5 := X.1.2.1.2.2.2.2
  refine EX11_word fun _ _ => BX11_word_0 (fun h1 e1 => ?_)
  obtain ⟨X1, F1⟩ := X.z e1
  have hq1 := hq h1 X1 F1
  refine m_isWord (d := d + 1) X1.mg (fun _ => ⟨fun z => ?_, fun z => ?_⟩)
  · have hi : jW A w := if01 z
    rw [if_pos hi] at hq1
    obtain ⟨n, hn⟩ := ex_nat hi.1
    subst hn
    simp only [Int.toNat_natCast] at hq1 hq
    refine ⟨fun y => ?_, fun y => ?_, fun y => ?_, fun y => ?_⟩
    · rw [if_pos y] at hq1
      have kd := (X1.mg.2.2.1.2.2.1 n (by omega)).1
      rw [Nat.zero_add] at kd
      rw [w32a (k := 31) (n := 31) (s := n) rfl (by omega), Int.toNat_natCast, kd]
      exact ⟨⟨by omega, by omega⟩, hq1⟩
    · have e19 : gi h1 248 110 = ((A_st A 19).toNat : Int) := by
        have := X1.mg.2.2.2 19 (by omega)
        rw [show 91 + 19 = 110 from rfl] at this; rw [this]; omega
      rw [e19]
      refine c_widthM (d := d) X1.1.1 X1.mg.2.2.1 (by omega) (by omega) (fun h2 F2 _ => ?_)
      have F2' : fr frMs h1 h2 := F2.mono (fun q k z => by unfold frX at z; unfold frMs; omega)
      have hq2 := hq h2 (X1.keep F2') (F1.tr (F2'.mono (fun q k z => frMs_o z)))
      rw [if_pos hi, if_neg (by omega), if_pos y] at hq2
      exact hq2
    · rw [if_neg (by omega), if_neg (by omega), if_pos y] at hq1
      have e18 := X1.mg.2.2.2 18 (by omega)
      rw [show 91 + 18 = 109 from rfl] at e18
      rw [e18]
      refine c_isIn (by omega) (fun _ => ⟨fun x => ?_, fun x => ?_⟩)
      · cases hb : bit (A_st A 18) n with
        | true => rw [hb] at x; exact absurd x (by decide)
        | false => rw [if_neg (by rw [hb]; decide)] at hq1; exact hq1
      · cases hb : bit (A_st A 18) n with
        | true => rw [if_pos hb] at hq1; exact hq1
        | false => rw [hb] at x; exact absurd rfl x
    · rw [if_neg (by omega), if_neg (by omega), if_neg (by omega)] at hq1
      exact hq1
  · have hi : ¬ jW A w := if00 z
    rw [if_neg hi] at hq1; exact hq1
theorem n_placed (X : RM h A) (hq : ∀ h', RM h' A → fr frMo h h' → Q (some (vI (r_placed A))) h') : C2 (d + 10) mX11_placed [vR 247] h Q := by
  refine EX11_placed (BX11_placed_0 (fun h1 e1 => ?_))
  obtain ⟨X1, F1⟩ := X.z e1
  refine n_now (d := d) X1 (fun h2 X2 M2 D2 F2 => ⟨rfl, m_placedNow M2 D2 (fun _ => hq h2 X2 (F1.tr F2))⟩)
theorem n_last (X : RM h A) (hq : ∀ h', RM h' A → fr frMo h h' → Q (some (vI (r_last A))) h') : C2 (d + 10) mX11_last [vR 247] h Q := by
  refine EX11_last (BX11_last_0 (fun h1 e1 => ?_))
  obtain ⟨X1, F1⟩ := X.z e1
  refine n_now (d := d) X1 (fun h2 X2 M2 D2 F2 => ⟨rfl, m_lastNow (d := d + 8) M2 D2 (fun _ => hq h2 X2 (F1.tr F2))⟩)
theorem n_rounds (X : RM h A) (hq : ∀ h', RM h' A → fr frMo h h' → Q (some (vI (r_rounds A))) h') : C2 (d + 10) mX11_rounds [vR 247] h Q := by
  refine EX11_rounds (BX11_rounds_0 (fun h1 e1 => ?_))
  obtain ⟨X1, F1⟩ := X.z e1
  refine n_now (d := d) X1 (fun h2 X2 M2 D2 F2 => ⟨rfl, ?_⟩)
  dsimp only
  rw [D2.1.2.2.2]
  exact hq h2 X2 (F1.tr F2)
theorem n_still (X : RM h A) (hq : ∀ h', RM h' A → fr frMo h h' → Q (some (vI (r_still A))) h') : C2 (d + 10) mX11_still [vR 247] h Q := by
  refine EX11_still (BX11_still_0 (fun h1 e1 => ?_))
  obtain ⟨X1, F1⟩ := X.z e1
  refine n_now (d := d) X1 (fun h2 X2 M2 D2 F2 => ⟨rfl, ?_⟩)
  dsimp only
  rw [D2.2.1]
  exact hq h2 X2 (F1.tr F2)
theorem n_inLine_loop (X : RM h A) (M : MC h (A_g A) (A_st A) (A_w A) (-1)) (D : DM h (A_v A) (A_w A) (-1)) {l : Int} (hq : Q (some (vI (bitsF (fun w => decide (aL A w = l)) (g_W (A_g A))))) h) : ∀ m w : Nat, w + m = g_W (A_g A) → T2 (d + 1) mX11_inLine 25 [some (vR 247), some (vI l), some (vI (bitsF (fun w => decide (aL A w = l)) w)), some (vI (w : Int))] [] h Q := by
  have ok1 := X.1.1.1
  have e6 := X.mg.fl.2.2.2.2.2.2
  intro m
  induction m with
  | zero =>
    intro w hw
    refine BX11_inLine_25 ⟨fun _ => ?_, fun z => by rw [e6] at z; omega⟩
    rw [show w = g_W (A_g A) by omega]; exact hq
  | succ m ih =>
    intro w hw
    refine BX11_inLine_25 ⟨fun z => by rw [e6] at z; omega, fun _ => c_lineM M D.1.2.1 (by omega) (by omega) (fun _ => ?_)⟩
    rw [w32_r (by omega) (by omega), show (w : Int) + 1 = ((w + 1 : Nat) : Int) by omega]
    have := ih (w + 1) (by omega)
    unfold bitsF at this
    refine ⟨fun z => ?_, fun z => ?_⟩
    · have e : decide (aL A w = l) = false := decide_eq_false z
      rw [e] at this; rw [ior0 (R32_bitsF _ _)]; exact this
    · have e : decide (aL A w = l) = true := decide_eq_true z
      rw [e] at this; exact this
theorem n_inLine (X : RM h A) {l : Int} (hq : ∀ h', RM h' A → fr frMo h h' → Q (some (vI (r_inLine A l))) h') : C2 (d + 10) mX11_inLine [vR 247, vI l] h Q := by
  unfold r_inLine at hq
  refine EX11_inLine fun _ => BX11_inLine_0 (fun h1 e1 => ?_)
  obtain ⟨X1, F1⟩ := X.z e1
  have hq1 := hq h1 X1 F1
  refine m_isRow (d := d + 8) X1.mg (fun _ => ⟨fun z => ?_, fun z => ?_⟩)
  · have hi : jL A l := if01 z
    refine n_now (d := d) X1 (fun h2 X2 M2 D2 F2 => ⟨rfl, ?_⟩)
    have hq2 := hq h2 X2 (F1.tr F2)
    rw [if_pos hi] at hq2
    exact n_inLine_loop X2 M2 D2 hq2 (g_W (A_g A)) 0 (by omega)
  · have hi : ¬ jL A l := if00 z
    rw [if_neg hi] at hq1; exact hq1
theorem n_full_loop (X : RM h A) (M : MC h (A_g A) (A_st A) (A_w A) (-1)) (D : DM h (A_v A) (A_w A) (-1)) {l : Int} (hq : Q (some (vI ((sumF (fun w => if aL A w = l then widA (A_g A) (A_st A 19).toNat w else 0) (g_W (A_g A)) * 1000) / A_w A))) h) : ∀ m w : Nat, w + m = g_W (A_g A) → T2 (d + 1) mX11_full 25 [some (vR 247), some (vI l), some (vI (sumF (fun w => if aL A w = l then widA (A_g A) (A_st A 19).toNat w else 0) w)), some (vI (w : Int))] [] h Q := by
  have ok1 := X.1.1.1
  have ow := X.okm
  have e6 := X.mg.fl.2.2.2.2.2.2
  have e1 := X.mg.fl.2.1
  have rg : ∀ w, 0 ≤ sumF (fun w => if aL A w = l then widA (A_g A) (A_st A 19).toNat w else 0) w ∧ sumF (fun w => if aL A w = l then widA (A_g A) (A_st A 19).toNat w else 0) w ≤ 200 * w := sumF_rg (fun n => by
    split
    · unfold widA; omega
    · omega)
  intro m
  induction m with
  | zero =>
    intro w hw
    have hr := rg w
    refine BX11_full_25 ⟨fun _ => ⟨by rw [e1]; omega, ?_⟩, fun z => by rw [e6] at z; omega⟩
    rw [show w = g_W (A_g A) by omega] at hr ⊢
    rw [e1, w32_r (x := _ * 1000) (by omega) (by omega), Int.tdiv_eq_ediv_of_nonneg (by omega), w32_r]
    · exact hq
    · have := Int.ediv_nonneg (a := sumF (fun w => if aL A w = l then widA (A_g A) (A_st A 19).toNat w else 0) (g_W (A_g A)) * 1000) (b := g_wi (A_g A)) (by omega) (by omega)
      omega
    · have := Int.ediv_le_self (g_wi (A_g A)) (a := sumF (fun w => if aL A w = l then widA (A_g A) (A_st A 19).toNat w else 0) (g_W (A_g A)) * 1000) (by omega)
      omega
  | succ m ih =>
    intro w hw
    have hr := rg w
    have su : sumF (fun w => if aL A w = l then widA (A_g A) (A_st A 19).toNat w else 0) (w + 1) = sumF (fun w => if aL A w = l then widA (A_g A) (A_st A 19).toNat w else 0) w + (if aL A w = l then widA (A_g A) (A_st A 19).toNat w else 0) := rfl
    have := ih (w + 1) (by omega)
    rw [su] at this
    refine BX11_full_25 ⟨fun z => by rw [e6] at z; omega, fun _ => c_lineM M D.1.2.1 (by omega) (by omega) (fun _ => ?_)⟩
    rw [w32_r (x := (w : Int) + 1) (by omega) (by omega), show (w : Int) + 1 = ((w + 1 : Nat) : Int) by omega]
    refine ⟨fun z => ?_, fun z => ⟨⟨by omega, by omega⟩, ?_⟩⟩
    · rw [if_neg (show ¬ aL A w = l from z)] at this
      rw [w32_r (by omega) (by omega)]; exact this
    · rw [if_pos (show aL A w = l from z)] at this
      try simp only [Int.toNat_natCast]
      have e261 : gi h 261 w = widA (A_g A) (A_st A 19).toNat w := (D.1.2.1.2.1 w (by show w < g_W (A_g A); omega)).2.2
      have wr : 1 ≤ widA (A_g A) (A_st A 19).toNat w ∧ widA (A_g A) (A_st A 19).toNat w ≤ 200 := by unfold widA; omega
      rw [e261, w32_r (by omega) (by omega)]
      exact this
theorem n_full (X : RM h A) {l : Int} (hq : ∀ h', RM h' A → fr frMo h h' → Q (some (vI (r_full A l))) h') : C2 (d + 10) mX11_full [vR 247, vI l] h Q := by
  unfold r_full at hq
  refine EX11_full fun _ => BX11_full_0 (fun h1 e1 => ?_)
  obtain ⟨X1, F1⟩ := X.z e1
  have hq1 := hq h1 X1 F1
  refine m_isRow (d := d + 8) X1.mg (fun _ => ⟨fun z => ?_, fun z => ?_⟩)
  · have hi : jL A l := if01 z
    refine n_now (d := d) X1 (fun h2 X2 M2 D2 F2 => ⟨rfl, ?_⟩)
    have hq2 := hq h2 X2 (F1.tr F2)
    rw [if_pos hi] at hq2
    exact n_full_loop X2 M2 D2 hq2 (g_W (A_g A)) 0 (by omega)
  · have hi : ¬ jL A l := if00 z
    rw [if_neg hi] at hq1; exact hq1
/-- the slots of a line -/
theorem aB_len (A : AS) : aB A (g_ln (A_g A)) = (aS A).length := rfl
theorem aB_le {l m : Nat} (hl : l ≤ m) : aB A l ≤ aB A m := slt_le _ _ _ hl
theorem aS_lo (X : RM h A) {l k : Nat} (hl : l ≤ g_ln (A_g A)) (hk : k < aB A l) : s_li (aS A) k < l := li_lo X.okm.2.1 hl hk
theorem aS_hi {l k : Nat} (hl : l ≤ g_ln (A_g A)) (h1 : aB A l ≤ k) (h2 : k < (aS A).length) : l ≤ s_li (aS A) k := li_hi hl h1 h2
theorem mS_len (X : RM h A) : (aS A).length ≤ 140 := by
  have := slt_len X.okm.1 X.okm.2.1 (ht := aH A) (g_ln (A_g A)) (Nat.le_refl _)
  have o := X.1.1.1
  show (slt (A_v A) (A_w A) (aH A) (g_ln (A_g A))).length ≤ 140
  omega
theorem n_slots_loop (X : RM h A) (D : DM h (A_v A) (A_w A) (-1)) {l : Nat} (hl : l < g_ln (A_g A)) (hq : Q (some (vI ((aB A (l + 1) : Int) - aB A l))) h) : ∀ m k : Nat, k + m = (aS A).length → T2 (d + 1) mX11_slots 25 [some (vR 247), some (vI (l : Int)), some (vI (((min k (aB A (l + 1)) - min k (aB A l) : Nat)) : Int)), some (vI (k : Int))] [] h Q := by
  have hS : SM h (aS A) := D.1.2.1.1
  have h140 := mS_len X
  have b1 := aB_le (A := A) (show l ≤ l + 1 by omega)
  have b2 := aB_le (A := A) (show l + 1 ≤ g_ln (A_g A) by omega)
  rw [aB_len] at b2
  intro m
  induction m with
  | zero =>
    intro k hk
    refine BX11_slots_25 ⟨fun _ => ?_, fun z => by rw [hS.1] at z; omega⟩
    rw [show ((min k (aB A (l + 1)) - min k (aB A l) : Nat) : Int) = (aB A (l + 1) : Int) - aB A l by omega]; exact hq
  | succ m ih =>
    intro k hk
    refine BX11_slots_25 ⟨fun z => by rw [hS.1] at z; omega, fun _ => ⟨⟨by omega, by omega⟩, ?_⟩⟩
    try simp only [Int.toNat_natCast]
    rw [(hS.2 k (by omega)).1, w32_r (x := (k : Int) + 1) (by omega) (by omega), show (k : Int) + 1 = ((k + 1 : Nat) : Int) by omega]
    have := ih (k + 1) (by omega)
    refine ⟨fun z => ?_, fun z => ?_⟩
    · have : min (k + 1) (aB A (l + 1)) - min (k + 1) (aB A l) = min k (aB A (l + 1)) - min k (aB A l) := by
        by_cases c1 : k < aB A l
        · omega
        · by_cases c2 : k < aB A (l + 1)
          · exfalso
            have y1 := aS_hi (A := A) (by omega : l ≤ g_ln (A_g A)) (by omega) (by omega : k < (aS A).length)
            have y2 := aS_lo X (by omega : l + 1 ≤ g_ln (A_g A)) c2
            omega
          · omega
      rw [w32_r (by omega) (by omega), Int.add_zero, ← this]
      exact ih (k + 1) (by omega)
    · have : min (k + 1) (aB A (l + 1)) - min (k + 1) (aB A l) = min k (aB A (l + 1)) - min k (aB A l) + 1 := by
        by_cases c1 : k < aB A l
        · exfalso
          have y2 := aS_lo X (by omega : l ≤ g_ln (A_g A)) c1
          omega
        · by_cases c2 : k < aB A (l + 1)
          · omega
          · exfalso
            have y1 := aS_hi (A := A) (by omega : l + 1 ≤ g_ln (A_g A)) (by omega) (by omega : k < (aS A).length)
            omega
      rw [w32_r (by omega) (by omega), show ((min k (aB A (l + 1)) - min k (aB A l) : Nat) : Int) + 1 = ((min k (aB A (l + 1)) - min k (aB A l) + 1 : Nat) : Int) by omega, ← this]
      exact ih (k + 1) (by omega)
theorem n_slots (X : RM h A) {l : Int} (hq : ∀ h', RM h' A → fr frMo h h' → Q (some (vI (r_slots A l))) h') : C2 (d + 10) mX11_slots [vR 247, vI l] h Q := by
  unfold r_slots at hq
  refine EX11_slots fun _ => BX11_slots_0 (fun h1 e1 => ?_)
  obtain ⟨X1, F1⟩ := X.z e1
  have hq1 := hq h1 X1 F1
  refine m_isRow (d := d + 8) X1.mg (fun _ => ⟨fun z => ?_, fun z => ?_⟩)
  · have hi : jL A l := if01 z
    obtain ⟨n, hn⟩ := ex_nat hi.1
    subst hn
    refine n_now (d := d) X1 (fun h2 X2 M2 D2 F2 => ⟨rfl, ?_⟩)
    have hq2 := hq h2 X2 (F1.tr F2)
    rw [if_pos hi, Int.toNat_natCast] at hq2
    have := n_slots_loop (d := d + 9) X2 D2 (l := n) (by omega) hq2 (aS A).length 0 (by omega)
    rw [show (min 0 (aB A (n + 1)) - min 0 (aB A n)) = 0 by omega] at this
    exact this
  · have hi : ¬ jL A l := if00 z
    rw [if_neg hi] at hq1; exact hq1
theorem m_first_loop (X : RM h A) (D : DM h (A_v A) (A_w A) (-1)) {l : Nat} (hl : l ≤ g_ln (A_g A)) (hq : Q (some (vI (aB A l : Int))) h) : ∀ m k : Nat, k + m = aB A l → T2 d mX11_firstSlot 2 [some (vR 247), some (vI (l : Int)), some (vI (k : Int))] [] h Q := by
  have hS : SM h (aS A) := D.1.2.1.1
  have h140 := mS_len X
  have b2 := aB_le (A := A) hl
  rw [aB_len] at b2
  intro m
  induction m with
  | zero =>
    intro k hk
    refine BX11_firstSlot_2 ⟨fun _ => by rw [show k = aB A l by omega]; exact hq, fun z => ?_⟩
    rw [hS.1] at z
    refine ⟨⟨by omega, by omega⟩, ?_⟩
    try simp only [Int.toNat_natCast]
    rw [(hS.2 k (by omega)).1]
    refine ⟨fun _ => by rw [show k = aB A l by omega]; exact hq, fun y => ?_⟩
    have := aS_hi (A := A) hl (by omega) (by omega : k < (aS A).length)
    omega
  | succ m ih =>
    intro k hk
    refine BX11_firstSlot_2 ⟨fun z => by rw [hS.1] at z; omega, fun z => ⟨⟨by omega, by omega⟩, ?_⟩⟩
    try simp only [Int.toNat_natCast]
    have := aS_lo X hl (by omega : k < aB A l)
    rw [(hS.2 k (by omega)).1, w32_r (by omega) (by omega), show (k : Int) + 1 = ((k + 1 : Nat) : Int) by omega]
    exact ⟨fun y => by omega, fun y => ih (k + 1) (by omega)⟩
theorem m_firstSlot (X : RM h A) (D : DM h (A_v A) (A_w A) (-1)) {l : Nat} (hl : l ≤ g_ln (A_g A)) (hq : Q (some (vI (aB A l : Int))) h) : C2 d mX11_firstSlot [vR 247, vI (l : Int)] h Q :=
  EX11_firstSlot fun _ => BX11_firstSlot_0 (m_first_loop X D hl hq (aB A l) 0 (by omega))
theorem n_slot (X : RM h A) {l i what : Int} (hi32 : R32 i) (hq : ∀ h', RM h' A → fr frMo h h' → Q (some (vI (r_slot A l i what))) h') : C2 (d + 10) mX11_slot [vR 247, vI l, vI i, vI what] h Q := by
  unfold r_slot at hq
  refine EX11_slot fun _ _ _ => BX11_slot_0 (fun h1 e1 => ?_)
  obtain ⟨X1, F1⟩ := X.z e1
  have hq1 := hq h1 X1 F1
  refine m_isRow (d := d + 8) X1.mg (fun _ => ⟨fun z => ?_, fun z => ?_⟩)
  · have hi : ¬ jL A l := if00 z
    rw [if_neg (fun e => hi e.1)] at hq1; exact hq1
  have hl : jL A l := if01 z
  refine m_within (fun _ => ⟨fun y => ?_, fun y => ?_⟩)
  · have hw := if01 y
    refine ⟨fun x => ?_, fun x => ?_⟩
    · refine n_now (d := d) X1 (fun h2 X2 M2 D2 F2 => ⟨rfl, ?_⟩)
      have hq2 := hq h2 X2 (F1.tr F2)
      obtain ⟨n, hn⟩ := ex_nat hl.1
      obtain ⟨j, hj⟩ := ex_nat x
      subst hn hj
      rw [if_pos ⟨hl, hw⟩, if_neg (by omega)] at hq2
      simp only [Int.toNat_natCast] at hq2
      have hn : n < g_ln (A_g A) := by omega
      have hS : SM h2 (aS A) := D2.1.2.1.1
      have h140 := mS_len X
      have b1 := aB_le (A := A) (show n ≤ n + 1 by omega)
      have b2 := aB_le (A := A) (show n + 1 ≤ g_ln (A_g A) by omega)
      rw [aB_len] at b2
      refine m_firstSlot X2 D2 (by omega) (fun _ => ?_)
      have hj32 := hi32.2
      dsimp only
      rw [hS.1, w64_of (by omega) (by omega), show (aB A n : Int) + (j : Int) = ((aB A n + j : Nat) : Int) by omega]
      refine ⟨fun c => ?_, fun c => ?_⟩
      · rw [if_neg (by omega)] at hq2; exact hq2
      · rw [w32_r (by omega) (by omega)]
        try simp only [Int.toNat_natCast]
        have hk : aB A n + j < (aS A).length := by omega
        have hs := hS.2 _ hk
        have hct : gi h2 258 (aB A n + j) = c_ct (aC A) (aB A n + j) := (D2.1.2.1.2.2.1 _ hk).1
        rw [hs.1, hs.2.1, hs.2.2, hct]
        have lo := aS_hi (A := A) (by omega : n ≤ g_ln (A_g A)) (by omega) hk
        refine ⟨⟨by omega, by omega⟩, fun c2 => ?_, fun c2 => ?_⟩
        · have c3 : aB A n + j < aB A (n + 1) := by
            by_cases c4 : aB A n + j < aB A (n + 1)
            · exact c4
            · have := aS_hi (A := A) (by omega : n + 1 ≤ g_ln (A_g A)) (by omega) hk
              omega
          rw [if_pos (by omega)] at hq2
          refine ⟨fun v0 => ⟨fun v1 => ⟨⟨by omega, by omega⟩, ?_⟩, fun v1 => ⟨⟨by omega, by omega⟩, ?_⟩⟩, fun v0 => ⟨⟨by omega, by omega⟩, ?_⟩⟩
          · rw [if_neg v0, if_neg v1] at hq2; exact hq2
          · rw [if_neg v0, if_pos v1] at hq2; exact hq2
          · rw [if_pos v0] at hq2; exact hq2
        · have c3 : ¬ aB A n + j < aB A (n + 1) := fun c4 => by
            have := aS_lo X (by omega : n + 1 ≤ g_ln (A_g A)) c4
            omega
          rw [if_neg (by omega)] at hq2; exact hq2
    · rw [if_pos ⟨hl, hw⟩, if_pos x] at hq1; exact hq1
  · have hw := if00 y
    rw [if_neg (fun e => hw e.2)] at hq1; exact hq1
theorem n_lies (X : RM h A) {w what : Int} (hq : ∀ h', RM h' A → fr frMo h h' → Q (some (vI (r_lies A w what))) h') : C2 (d + 10) mX11_lies [vR 247, vI w, vI what] h Q := by
  unfold r_lies at hq
  have ok1 := X.1.1.1
  refine EX11_lies fun _ _ => BX11_lies_0 (fun h1 e1 => ?_)
  obtain ⟨X1, F1⟩ := X.z e1
  have hq1 := hq h1 X1 F1
  refine m_isWord (d := d + 8) X1.mg (fun _ => ⟨fun z => ?_, fun z => ?_⟩)
  · have hi : ¬ jW A w := if00 z
    rw [if_neg (fun e => hi e.1)] at hq1; exact hq1
  have hl : jW A w := if01 z
  refine m_within (fun _ => ⟨fun y => ?_, fun y => ?_⟩)
  · have hw := if01 y
    refine n_now (d := d) X1 (fun h2 X2 M2 D2 F2 => ⟨rfl, ?_⟩)
    have hq2 := hq h2 X2 (F1.tr F2)
    obtain ⟨n, hn⟩ := ex_nat hl.1
    subst hn
    rw [if_pos ⟨hl, hw⟩] at hq2
    have hnW : n < g_W (A_g A) := by omega
    simp only [Int.toNat_natCast] at hq2
    dsimp only
    try simp only [Int.toNat_natCast]
    have e259 : gi h2 259 n = c_sl (aC A) n := (D2.1.2.1.2.1 n hnW).1
    have e260 : 0 ≤ c_sl (aC A) n → gi h2 260 n = c_lf (aC A) n := (D2.1.2.1.2.1 n hnW).2.1
    have cr : -1 ≤ c_sl (aC A) n ∧ c_sl (aC A) n < (aS A).length := D2.1.2.1.2.2.2.2 n
    have h140 := mS_len X
    rw [e259]
    have eln : 0 ≤ c_sl (aC A) n → lnW (A_v A) (A_w A) (hts (A_v A) (A_w A) (-1) (fR (A_v A) (A_w A) (-1))) (n : Int) = (s_li (aS A) (c_sl (aC A) n).toNat : Nat) := fun c => by
      unfold lnW
      rw [Int.toNat_natCast, if_pos ⟨by omega, by show (n : Int) < (g_W (A_g A) : Int); omega, c⟩]
      rfl
    refine ⟨⟨by omega, by omega⟩, fun c => ?_, fun c => ?_⟩
    · have c0 : 0 ≤ c_sl (aC A) n := by omega
      rw [if_neg (by omega)] at hq2
      refine ⟨fun v0 => ⟨fun v1 => ⟨⟨by omega, by omega⟩, ?_⟩, fun v1 => ⟨⟨by omega, by omega⟩, ?_⟩⟩, fun v0 => ?_⟩
      · refine c_lineM M2 D2.1.2.1 (by omega) (by omega) (fun _ => ?_)
        have e := eln c0
        rw [if_neg v0, if_neg v1] at hq2
        have hk : (c_sl (aC A) n).toNat < (aS A).length := by omega
        have hlo := (slt_rg (v := A_v A) (wi := A_w A) (ht := aH A) X.okm.2.1 (n := g_ln (A_g A)) hk).1
        have hlo' : s_li (aS A) (c_sl (aC A) n).toNat < g_ln (A_g A) := hlo
        have key : C2 (d + 9) mX11_firstSlot [vR 247, vI ((s_li (aS A) (c_sl (aC A) n).toNat : Nat) : Int)] h2 (onI fun x2740 h2739 => Q (some (vI (w32 (c_sl (aC A) n - x2740)))) h2739) := by
          refine m_firstSlot X2 D2 (by omega) (fun _ => ?_)
          have b2 := aB_le (A := A) (show s_li (aS A) (c_sl (aC A) n).toNat ≤ g_ln (A_g A) by omega)
          rw [aB_len] at b2
          dsimp only
          rw [w32_r (by omega) (by omega)]
          exact hq2
        rw [← e] at key
        exact key
      · rw [if_neg v0, if_pos v1] at hq2
        rw [e260 c0]; exact hq2
      · refine c_lineM M2 D2.1.2.1 (by omega) (by omega) (fun _ => ?_)
        rw [if_pos v0, ← eln c0] at hq2
        exact hq2
    · rw [if_pos (by omega)] at hq2; exact hq2
  · have hw := if00 y
    rw [if_neg (fun e => hw e.2)] at hq1; exact hq1
end
