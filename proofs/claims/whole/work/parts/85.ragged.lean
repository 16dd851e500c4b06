/-! THE MODEL: clash, ragged -/
theorem anyF_ex {P : Nat → Bool} : ∀ n, anyF P n = true → ∃ i, i < n ∧ P i = true := by
  intro n
  induction n with
  | zero => intro z; have z' : (false : Bool) = true := z; exact absurd z' (by decide)
  | succ n ih =>
    intro z
    have z' : (anyF P n || P n) = true := z
    cases e : P n with
    | true => exact ⟨n, by omega, e⟩
    | false =>
      rw [e, Bool.or_false] at z'
      obtain ⟨i, h1, h2⟩ := ih z'
      exact ⟨i, by omega, h2⟩
theorem srS_st (v : VW) (wi asd : Int) : ∀ n k : Nat, ((srS v wi asd n k).2.1 = 1 ↔ 0 ≤ (srS v wi asd n k).2.2) := by
  have r : ∀ k, ((resS v wi asd k).1 = 1 ↔ 0 ≤ (resS v wi asd k).2) := by
    intro k
    unfold resS
    split
    · exact ⟨fun z => absurd z (by decide), fun z => absurd z (by decide)⟩
    · split
      · exact ⟨fun z => absurd z (by decide), fun z => absurd z (by decide)⟩
      · rename_i h; exact ⟨fun _ => by omega, fun _ => rfl⟩
  intro n
  induction n with
  | zero => intro k; exact r k
  | succ n ih =>
    intro k
    unfold srS
    split
    · exact ih (k + 1)
    · exact r k
theorem setR_st (v : VW) (wi asd : Int) : ((setR v wi asd).2.1 = 1 ↔ 0 ≤ (setR v wi asd).2.2) := by
  unfold setR
  split
  · exact srS_st v wi asd 59 1
  · exact ⟨fun z => absurd z (by decide), fun z => absurd z (by decide)⟩
def hgt (A : AS) (k s : Nat) : Int := hts (A_v A) (A_w A) (-1) k s
def hcl (A : AS) (s : Nat) : Bool := anyF (fun j => decide (hgt A ((aBk A).toNat + 1 + j) s ≠ hgt A (aR A) s)) (aR A - (aBk A).toNat)
theorem hgt_eq {A : AS} {a b s : Nat} (h : crow A a s = crow A b s) : hgt A (a + 1) s = hgt A (b + 1) s := by
  show htN (A_v A) (-1) (trl (A_v A) (A_w A) (-1) a) s = htN (A_v A) (-1) (trl (A_v A) (A_w A) (-1) b) s
  unfold htN
  have h' : trl (A_v A) (A_w A) (-1) a s = trl (A_v A) (A_w A) (-1) b s := h
  rw [h']
theorem hgt_inj {A : AS} (ok : VOK (A_v A)) (hw : 0 ≤ A_w A) (hy : ∀ s, s < v_S (A_v A) → 0 ≤ v_y (A_v A) s) {a b s : Nat} (hs : s < v_S (A_v A)) (h : hgt A (a + 1) s = hgt A (b + 1) s) : crow A a s = crow A b s := by
  have h' : htN (A_v A) (-1) (trl (A_v A) (A_w A) (-1) a) s = htN (A_v A) (-1) (trl (A_v A) (A_w A) (-1) b) s := h
  have r1 := trl_rg (v := A_v A) (asd := -1) hw a s
  have r2 := trl_rg (v := A_v A) (asd := -1) hw b s
  have ok1 := ok.1
  have y0 := hy s hs
  show trl (A_v A) (A_w A) (-1) a s = trl (A_v A) (A_w A) (-1) b s
  by_cases ti : v_ti (A_v A) s = -1
  · have e : ∀ k, trl (A_v A) (A_w A) (-1) k s = -1 := fun k => by
      unfold trl rowS
      rw [if_neg (by omega), ti]
      unfold lnW
      rw [if_neg (by omega)]
    rw [e, e]
  · unfold htN at h'
    rw [if_neg (show ¬ (s : Int) = -1 by omega), if_neg ti, if_neg (show ¬ (s : Int) = -1 by omega), if_neg ti] at h'
    generalize trl (A_v A) (A_w A) (-1) a s = x at *
    generalize trl (A_v A) (A_w A) (-1) b s = y at *
    have hp : ∀ z : Int, 0 ≤ z → 0 ≤ v_hi (A_v A) * z := fun z hz => Int.mul_nonneg (by omega) hz
    by_cases c1 : x < 0
    · rw [if_pos c1] at h'
      by_cases c2 : y < 0
      · omega
      · rw [if_neg c2] at h'
        have := hp y (by omega)
        omega
    · rw [if_neg c1] at h'
      by_cases c2 : y < 0
      · rw [if_pos c2] at h'
        have := hp x (by omega)
        omega
      · rw [if_neg c2] at h'
        exact Int.eq_of_mul_eq_mul_left (a := v_hi (A_v A)) (by omega) (by omega)
theorem hcl_eq {A : AS} (ok : VOK (A_v A)) (hw : 0 ≤ A_w A) (hy : ∀ s, s < v_S (A_v A) → 0 ≤ v_y (A_v A) s) (hb : 0 ≤ aBk A) {s : Nat} (hs : s < v_S (A_v A)) : hcl A s = clsh A s := by
  have rb := aBk_rg A
  have key : hcl A s = true ↔ clsh A s = true := by
    constructor
    · intro h
      obtain ⟨j, h1, h2⟩ := anyF_ex _ h
      have h3 : ¬ hgt A ((aBk A).toNat + 1 + j) s = hgt A (aR A) s := of_decide_eq_true h2
      have h4 : crow A ((aBk A).toNat + j) s ≠ crow A (aR A - 1) s := fun e => h3 (by
        have := hgt_eq e
        rw [show (aBk A).toNat + j + 1 = (aBk A).toNat + 1 + j by omega, show aR A - 1 + 1 = aR A by omega] at this
        exact this)
      by_cases c : crow A ((aBk A).toNat + j) s = crow A (aBk A).toNat s
      · have h5 : crow A (aR A - 1) s ≠ crow A (aBk A).toNat s := fun e => h4 (c.trans e.symm)
        have h6 : aR A - 1 ≠ (aBk A).toNat := fun e => h5 (by rw [e])
        refine anyF_of (i := aR A - 1 - ((aBk A).toNat + 1)) ?_ _ (by omega)
        rw [show (aBk A).toNat + 1 + (aR A - 1 - ((aBk A).toNat + 1)) = aR A - 1 by omega]
        exact decide_eq_true h5
      · have h6 : j ≠ 0 := fun e => c (by rw [e]; rfl)
        refine anyF_of (i := j - 1) ?_ _ (by omega)
        rw [show (aBk A).toNat + 1 + (j - 1) = (aBk A).toNat + j by omega]
        exact decide_eq_true c
    · intro h
      obtain ⟨j, h1, h2⟩ := anyF_ex _ h
      have h3 : ¬ crow A ((aBk A).toNat + 1 + j) s = crow A (aBk A).toNat s := of_decide_eq_true h2
      by_cases c : crow A (aBk A).toNat s = crow A (aR A - 1) s
      · refine anyF_of (i := j + 1) ?_ _ (by omega)
        refine decide_eq_true (fun e => h3 ?_)
        rw [show aR A = aR A - 1 + 1 by omega, show (aBk A).toNat + 1 + (j + 1) = (aBk A).toNat + 1 + j + 1 by omega] at e
        exact (hgt_inj ok hw hy hs e).trans c.symm
      · refine anyF_of (i := 0) ?_ _ (by omega)
        refine decide_eq_true (fun e => c ?_)
        rw [show aR A = aR A - 1 + 1 by omega] at e
        exact hgt_inj ok hw hy hs e
  cases e : clsh A s with
  | true => exact key.mpr e
  | false =>
    cases e2 : hcl A s with
    | false => rfl
    | true => rw [key.mp e2] at e; exact absurd e (by decide)
section
variable {d : Nat} {h : PH} {Q : Option PV → PH → Prop}
variable {A : AS}
theorem mc_in (M : MC h (A_g A) (A_st A) (A_w A) (-1)) (D : DM h (A_v A) (A_w A) (-1)) (hb : 0 ≤ aBk A) {s : Nat} (hs : s < g_S (A_g A)) (hs6 : s < 6) {B : Int} (hB : R32 B) (hq : ∀ x, x = (if hcl A s then ior B (ishl 1 (s : Int)) else B) → T2 (d + 3) mX11_clash 23 [some (vR 247), some (vI x), some (vI ((s + 1 : Nat) : Int)), none] [] h Q) :
    ∀ m j : Nat, j + m = aR A - (aBk A).toNat → T2 (d + 3) mX11_clash 40 [some (vR 247), some (vI (if anyF (fun j => decide (hgt A ((aBk A).toNat + 1 + j) s ≠ hgt A (aR A) s)) j then ior B (ishl 1 (s : Int)) else B)), some (vI (s : Int)), some (vI (((aBk A).toNat + 1 + j : Nat) : Int))] [] h Q := by
  have rb := aBk_rg A
  have r60 : aR A ≤ 60 := fR_le _ _ _
  have e35 : gi h 247 35 = (aR A : Int) := D.1.2.2.2
  have e264 : ∀ k, k ≤ aR A → gi h 264 (6 * k + s) = crow A k s := fun k hk => D.1.2.2.1 k hk s hs
  intro m
  induction m with
  | zero =>
    intro j hj
    refine BX11_clash_40 ⟨fun _ => ?_, fun z => by rw [e35] at z; omega⟩
    rw [w32_r (by omega) (by omega), show ((s : Int) + 1) = ((s + 1 : Nat) : Int) by omega]
    refine hq _ ?_
    unfold hcl
    rw [show j = aR A - (aBk A).toNat by omega]
  | succ m ih =>
    intro j hj
    have hj2 := ih (j + 1) (by omega)
    refine BX11_clash_40 ⟨fun z => by rw [e35] at z; omega, fun _ => ?_⟩
    rw [w32_r (x := (((aBk A).toNat + 1 + j : Nat) : Int) + 1) (by omega) (by omega), show (((aBk A).toNat + 1 + j : Nat) : Int) + 1 = (((aBk A).toNat + 1 + (j + 1) : Nat) : Int) by omega]
    refine c_heightIn (d := d) M (k := (aBk A).toNat + 1 + j) hs (by omega) (fun _ => e264 _ (by omega)) (fun _ => ?_)
    dsimp only
    rw [e35]
    refine c_heightIn (d := d) M (k := aR A) hs (by omega) (fun _ => e264 _ (by omega)) (fun _ => ?_)
    unfold anyF at hj2
    have rr : R32 (if anyF (fun j => decide (hgt A ((aBk A).toNat + 1 + j) s ≠ hgt A (aR A) s)) j then ior B (ishl 1 (s : Int)) else B) := by
      split
      · exact R32_ior _ _
      · exact hB
    refine ⟨fun z => ?_, fun z => ?_⟩
    · rw [show decide (hgt A ((aBk A).toNat + 1 + j) s ≠ hgt A (aR A) s) = false from decide_eq_false (fun w => w z), Bool.or_false] at hj2
      rw [ior0 rr]
      exact hj2
    · rw [show decide (hgt A ((aBk A).toNat + 1 + j) s ≠ hgt A (aR A) s) = true from decide_eq_true z, Bool.or_true, if_pos rfl] at hj2
      have e : ior (if anyF (fun j => decide (hgt A ((aBk A).toNat + 1 + j) s ≠ hgt A (aR A) s)) j then ior B (ishl 1 (s : Int)) else B) (ishl 1 (s : Int)) = ior B (ishl 1 (s : Int)) := by
        split
        · exact ior_tw _ _
        · rfl
      rw [e]; exact hj2
theorem mc_out (X : RM h A) (M : MC h (A_g A) (A_st A) (A_w A) (-1)) (D : DM h (A_v A) (A_w A) (-1)) (hb : 0 ≤ aBk A) (hq : Q (some (vI (bitsF (clsh A) (g_S (A_g A))))) h) :
    ∀ m s : Nat, s + m = g_S (A_g A) → T2 (d + 3) mX11_clash 23 [some (vR 247), some (vI (bitsF (clsh A) s)), some (vI (s : Int)), none] [] h Q := by
  have ok1 := X.1.1.1
  have e5 := X.mg.fl.2.2.2.2.2.1
  have e37 : gi h 247 37 = aBk A := D.2.2
  have rb := aBk_rg A
  have r60 : aR A ≤ 60 := fR_le _ _ _
  have ow := X.okm
  intro m
  induction m with
  | zero =>
    intro s hs
    refine BX11_clash_23 ⟨fun _ => ?_, fun z => by rw [e5] at z; omega⟩
    rw [show s = g_S (A_g A) by omega]; exact hq
  | succ m ih =>
    intro s hs
    refine BX11_clash_23 ⟨fun z => by rw [e5] at z; omega, fun _ => ?_⟩
    rw [e37, w32_r (by omega) (by omega), show aBk A + 1 = (((aBk A).toNat + 1 + 0 : Nat) : Int) by omega]
    refine mc_in M D hb (s := s) (by omega) (by omega) (B := bitsF (clsh A) s) (R32_bitsF _ _) (fun x hx => ?_) (aR A - (aBk A).toNat) 0 (by omega)
    have := ih (s + 1) (by omega)
    unfold bitsF at this
    rw [hx, hcl_eq ow.1 ow.2.1 (fun i hi => (X.1.2.1.1 i (by have : i < g_S (A_g A) := hi; omega)).2.2.1) hb (by show s < g_S (A_g A); omega)]; exact this
theorem n_clash (X : RM h A) (hq : ∀ h', RM h' A → fr frMo h h' → Q (some (vI (r_clash A))) h') : C2 (d + 10) mX11_clash [vR 247] h Q := by
  refine EX11_clash (BX11_clash_0 (fun h1 e1 => ?_))
  obtain ⟨X1, F1⟩ := X.z e1
  refine n_now (d := d) X1 (fun h2 X2 M2 D2 F2 => ⟨rfl, ?_⟩)
  have hq2 := hq h2 X2 (F1.tr F2)
  unfold r_clash at hq2
  have st := setR_st (A_v A) (A_w A) (-1)
  dsimp only
  rw [D2.2.1]
  refine ⟨fun z => ?_, fun z => ?_⟩
  · have hb : 0 ≤ aBk A := st.mp z
    rw [if_neg (by omega)] at hq2
    exact mc_out (d := d + 7) X2 M2 D2 hb hq2 (g_S (A_g A)) 0 (by omega)
  · have hb : ¬ 0 ≤ aBk A := fun e => z (st.mpr e)
    rw [if_pos (by omega)] at hq2
    exact hq2
def aP (A : AS) (i : Nat) : Nat := (plL (c_sl (aC A)) (g_W (A_g A))).getD i 0
def MPl (h : PH) (A : AS) : Prop := gi h 247 42 = (c_n (aC A) : Nat) ∧ ∀ i, i < c_n (aC A) → gi h 266 i = (aP A i : Nat)
def frPl : Nat → Nat → Prop := fun q k => (q = 247 ∧ k = 42) ∨ q = 266
theorem plL_lt (sl : Nat → Int) : ∀ n i, i < (plL sl n).length → (plL sl n).getD i 0 < n := by
  intro n
  induction n with
  | zero => intro i hi; exact absurd hi (Nat.not_lt_zero i)
  | succ n ih =>
    intro i hi
    unfold plL at hi ⊢
    by_cases c : 0 ≤ sl n
    · rw [if_pos c] at hi ⊢
      by_cases e : i < (plL sl n).length
      · rw [getD_app _ _ _ e]; have := ih i e; omega
      · rw [List.length_append] at hi
        have : i = (plL sl n).length + 0 := by simp at hi; omega
        rw [this, getD_app2]
        show n < n + 1
        omega
    · rw [if_neg c] at hi ⊢
      have := ih i hi; omega
theorem pn_len (A : AS) : (plL (c_sl (aC A)) (g_W (A_g A))).length = c_n (aC A) := by
  have a := plL_len (c_sl (aC A)) (g_W (A_g A))
  have b := aN_eq A
  omega
theorem m_laysPlaced (X : RM h A) (D : DM h (A_v A) (A_w A) (-1)) (hq : ∀ h', MPl h' A → fr frPl h h' → Q none h') : C2 d mX11_laysPlaced [vR 247] h Q := by
  have ok1 := X.1.1.1
  have e6 := X.mg.fl.2.2.2.2.2.2
  refine EX11_laysPlaced (BX11_laysPlaced_0 (fun h1 e1 => ?_))
  have loop : ∀ (m w : Nat) (h2 : PH), w + m = g_W (A_g A) → gi h2 247 42 = (plL (c_sl (aC A)) w).length → (∀ i, i < (plL (c_sl (aC A)) w).length → gi h2 266 i = ((plL (c_sl (aC A)) w).getD i 0 : Nat)) → fr frPl h h2 → T2 d mX11_laysPlaced 7 [some (vR 247), some (vI (w : Int))] [] h2 Q := by
    intro m
    induction m with
    | zero =>
      intro w h2 hw g42 g266 F
      obtain rfl : w = g_W (A_g A) := by omega
      have g6 : gi h2 248 6 = g_W (A_g A) := by rw [F.1 _ _ (by unfold frPl; omega)]; exact e6
      refine BX11_laysPlaced_7 ⟨fun _ => ?_, fun z => by rw [g6] at z; omega⟩
      refine hq h2 ⟨by rw [g42, pn_len], fun i hi => g266 i (by rw [pn_len]; exact hi)⟩ F
    | succ m ih =>
      intro w h2 hw g42 g266 F
      have g6 : gi h2 248 6 = g_W (A_g A) := by rw [F.1 _ _ (by unfold frPl; omega)]; exact e6
      refine BX11_laysPlaced_7 ⟨fun z => by rw [g6] at z; omega, fun _ => ⟨⟨by omega, by omega⟩, ?_⟩⟩
      rw [w32_r (x := (w : Int) + 1) (by omega) (by omega), show (w : Int) + 1 = ((w + 1 : Nat) : Int) by omega]
      try simp only [Int.toNat_natCast]
      have g259 : gi h2 259 w = c_sl (aC A) w := by rw [F.1 _ _ (by unfold frPl; omega)]; exact (D.1.2.1.2.1 w (by show w < g_W (A_g A); omega)).1
      have rg : -1 ≤ c_sl (aC A) w := (D.1.2.1.2.2.2.2 w).1
      have ln : (plL (c_sl (aC A)) w).length ≤ w := by
        have := plL_len (c_sl (aC A)) w
        have b := sumF_rg (f := fun j => if 0 ≤ c_sl (aC A) j then 1 else 0) (M := 1) (fun n => by split <;> omega) w
        have e : cpL (c_sl (aC A)) w = sumF (fun j => if 0 ≤ c_sl (aC A) j then 1 else 0) w := rfl
        omega
      rw [g259, g42]
      have := ih (w + 1)
      have ep : plL (c_sl (aC A)) (w + 1) = if 0 ≤ c_sl (aC A) w then plL (c_sl (aC A)) w ++ [w] else plL (c_sl (aC A)) w := rfl
      rw [ep] at this
      refine ⟨fun z => ⟨⟨by omega, by omega⟩, fun h3 e3 h4 e4 => ?_⟩, fun z => ?_⟩
      · rw [if_pos (by omega)] at this
        try simp only [Int.toNat_natCast] at e3
        have v42 : gi h3 247 42 = (plL (c_sl (aC A)) w).length := by subst e3; rw [gi_s1 (by omega)]; exact g42
        rw [v42, w32_r (by omega) (by omega)] at e4
        refine this h4 (by omega) ?_ (fun i hi => ?_) ?_
        · subst e4; rw [gi_s0, List.length_append]; simp
        · subst e4 e3
          rw [gi_s1 (by omega)]
          rw [List.length_append] at hi
          by_cases c : i = (plL (c_sl (aC A)) w).length
          · rw [c, gi_s0]
            have := getD_app2 (plL (c_sl (aC A)) w) [w] 0 0
            rw [Nat.add_zero] at this
            rw [this]; rfl
          · simp at hi
            rw [gi_s2 c, getD_app _ _ _ (by omega)]; exact g266 i (by omega)
        · subst e4 e3
          exact (F.si (by unfold frPl; omega)).si (by unfold frPl; omega)
      · rw [if_neg (by omega)] at this
        exact this h2 (by omega) g42 g266 F
  refine loop (g_W (A_g A)) 0 h1 (by omega) (by subst e1; rw [gi_s0]; rfl) (fun i hi => absurd hi (Nat.not_lt_zero i)) (by subst e1; exact fr.rf.si (by unfold frPl; omega))
/-- what stands for breaks -/
def MB (h : PH) (A : AS) : Prop := PM h (A_v A) (A_w A) (aH A) ∧ MPl h A
theorem MB.keep {h h' : PH} {A : AS} (a : MB h A) (e : ∀ q k, (255 ≤ q ∧ q ≤ 261) ∨ q = 266 ∨ (q = 247 ∧ (k = 31 ∨ k = 42)) → gi h' q k = gi h q k) : MB h' A := ⟨a.1.keep (fun q k z => e q k (by omega)), by rw [MPl, e _ _ (by omega)]; exact ⟨a.2.1, fun i hi => by rw [e _ _ (by omega)]; exact a.2.2 i hi⟩⟩
theorem m_leftIn (okg : POK (A_g A)) (B : MB h A) {k i j : Nat} (hk : k < (aS A).length) (hk2 : (aS A).length ≤ 140) (hi : i ≤ j) (hj : j ≤ c_n (aC A)) (hq : Q (some (vI (lefF (aS A) (apw A) k i j))) h) : C2 d mX11_leftIn [vR 247, vI (k : Int), vI (i : Int), vI (j : Int)] h Q := by
  have n30 := aN_le okg
  have o := okg.1
  have s := slt_rg (v := A_v A) (wi := A_w A) (ht := aH A) (by show 0 ≤ g_wi (A_g A); omega) (n := v_ln (A_v A)) hk
  have e1 : (slt (A_v A) (A_w A) (aH A) (v_ln (A_v A))) = aS A := rfl
  rw [e1] at s
  have w200 : A_w A ≤ 200 := o.2.1
  obtain ⟨q1, q2, q3⟩ := B.1.1.2 k hk
  have q2' : gi h 256 k = s_le (aS A) k := q2
  have q3' : gi h 257 k = s_ri (aS A) k := q3
  refine EX11_leftIn fun _ _ _ => BX11_leftIn_0 ⟨⟨by omega, by omega⟩, ⟨by omega, by omega⟩, ?_⟩
  try simp only [Int.toNat_natCast]
  rw [q2', q3', w32_r (x := s_ri (aS A) k - s_le (aS A) k) (by omega) (by omega), w32_r (x := (j : Int) - i) (by omega) (by omega), w32_r (x := (j : Int) - i - 1) (by omega) (by omega), w32_r (by omega) (by omega)]
  have loop : ∀ (m c : Nat), c + m = j → i ≤ c → T2 d mX11_leftIn 24 [some (vR 247), none, none, some (vI (j : Int)), some (vI (s_ri (aS A) k - s_le (aS A) k - ((j : Int) - i - 1) - sF (apw A) (c - i) i)), some (vI (c : Int))] [] h Q := by
    intro m
    induction m with
    | zero =>
      intro c hc hic
      obtain rfl : c = j := by omega
      refine BX11_leftIn_24 ⟨fun _ => ?_, fun z => by omega⟩
      rw [show s_ri (aS A) k - s_le (aS A) k - ((c : Int) - i - 1) - sF (apw A) (c - i) i = lefF (aS A) (apw A) k i c by unfold lefF; omega]
      exact hq
    | succ m ih =>
      intro c hc hic
      have t := sF_rg (apw_rg A) (c - i) i
      have ar := apw_rg A c
      have pl : aP A c < g_W (A_g A) := plL_lt _ _ _ (by rw [pn_len]; omega)
      have e66 := B.2.2 c (by omega)
      have e61 : gi h 261 (aP A c) = apw A c := (B.1.2.1 (aP A c) pl).2.2
      refine BX11_leftIn_24 ⟨fun z => by omega, fun _ => ⟨⟨by omega, by omega⟩, ?_⟩⟩
      try simp only [Int.toNat_natCast]
      rw [e66]
      try simp only [Int.toNat_natCast]
      rw [e61, w32_r (x := (c : Int) + 1) (by omega) (by omega), show (c : Int) + 1 = ((c + 1 : Nat) : Int) by omega, w32_r (by omega) (by omega)]
      refine ⟨⟨by omega, by omega⟩, ?_⟩
      have := ih (c + 1) (by omega) (by omega)
      rw [show c + 1 - i = (c - i) + 1 by omega, sF_snoc, show i + (c - i) = c by omega] at this
      rw [show s_ri (aS A) k - s_le (aS A) k - ((j : Int) - i - 1) - sF (apw A) (c - i) i - apw A c = s_ri (aS A) k - s_le (aS A) k - ((j : Int) - i - 1) - (sF (apw A) (c - i) i + apw A c) by omega]
      exact this
  have := loop (j - i) i (by omega) (Nat.le_refl i)
  rw [Nat.sub_self] at this
  have z0 : sF (apw A) 0 i = 0 := rfl
  rw [z0, Int.sub_zero] at this
  exact this
theorem aS_lenM (X : RM h A) : (aS A).length ≤ 140 := by
  have okg1 := X.1.1.1
  have := slt_len (vw_ok X.1.1 X.1.2.1) (wi := A_w A) (by show 0 ≤ g_wi (A_g A); omega) (ht := aH A) (g_ln (A_g A)) (Nat.le_refl _)
  have e : (aS A).length = (slt (A_v A) (A_w A) (aH A) (g_ln (A_g A))).length := rfl
  have e2 : (slt (A_v A) (A_w A) (aH A) (g_ln (A_g A))).length = (slt (vw (A_g A) (A_st A)) (A_w A) (aH A) (g_ln (A_g A))).length := rfl
  omega
theorem n_ragged (X : RM h A) (hq : ∀ h', RM h' A → fr frMo h h' → Q (some (vI (r_ragged A))) h') : C2 (d + 10) mX11_ragged [vR 247] h Q := by
  refine EX11_ragged (BX11_ragged_0 (fun h1 e1 => ?_))
  obtain ⟨X1, F1⟩ := X.z e1
  refine n_now (d := d) X1 (fun h2 X2 M2 D2 F2 => ⟨rfl, m_laysPlaced X2 D2 (fun h3 P3 F3 => ⟨rfl, ?_⟩)⟩)
  have F3' : fr frMs h2 h3 := F3.mono (fun q k z => by unfold frPl at z; unfold frMs; omega)
  have X3 := X2.keep F3'
  have B3 : MB h3 A := ⟨D2.1.2.1.keep (fun q k z => F3.1 _ _ (by unfold frPl; omega)), P3⟩
  have hq3 := hq h3 X3 ((F1.tr F2).tr (F3'.mono (fun q k z => frMs_o z)))
  have n30 := aN_le X.1.1
  have l140 := aS_lenM X
  have e31 : gi h3 247 31 = (aS A).length := B3.1.1.1
  have e42 := B3.2.1
  have loop : ∀ (m k : Nat), k + m = (aS A).length → T2 (d + 9 + 1) mX11_ragged 19 [some (vR 247), some (vI (sumF (aT A) k)), some (vI ((aCm A k : Nat) : Int)), some (vI (k : Int)), none, none] [] h3 Q := by
    intro m
    induction m with
    | zero =>
      intro k hk
      refine BX11_ragged_19 ⟨fun _ => ?_, fun z => by rw [e31] at z; omega⟩
      rw [show k = (aS A).length by omega]; exact hq3
    | succ m ih =>
      intro k hk
      have this := ih (k + 1) (by omega)
      have st := aCm_st A k
      have le := aCm_le A (k + 1)
      have mo := aCm_mono A (show k ≤ k + 1 by omega)
      have ts := aT_sum X.1.1 k (by omega)
      have ts1 := aT_sum X.1.1 (k + 1) (by omega)
      have su : sumF (aT A) (k + 1) = sumF (aT A) k + aT A k := rfl
      rw [su] at this ts1
      have e58 : gi h3 258 k = c_ct (aC A) k := (B3.1.2.2.1 k (by show k < (aS A).length; omega)).1
      refine BX11_ragged_19 ⟨fun z => by rw [e31] at z; omega, fun _ => ⟨⟨by omega, by omega⟩, ?_⟩⟩
      try simp only [Int.toNat_natCast]
      rw [e58, show ((aCm A k : Nat) : Int) + c_ct (aC A) k = ((aCm A (k + 1) : Nat) : Int) by omega, w32_r (x := ((aCm A (k + 1) : Nat) : Int)) (by omega) (by omega), w32_r (x := (k : Int) + 1) (by omega) (by omega), show (k : Int) + 1 = ((k + 1 : Nat) : Int) by omega]
      refine m_leftIn X.1.1 B3 (by omega) l140 mo (by omega) (fun _ => ?_)
      dsimp only
      rw [e42]
      unfold aT at this ts1
      refine ⟨fun z => ?_, fun z => ⟨fun y => ?_, fun y => ?_⟩⟩
      · rw [if_neg (by omega), Int.add_zero] at this; exact this
      · rw [if_neg (by omega), Int.add_zero] at this; exact this
      · rw [if_pos (by omega)] at this ts1
        have lr := lef_rg X.1.1 (k := k) (by omega) (i := aCm A k) (j := aCm A (k + 1)) (by omega) (by omega)
        have sq := sq_le lr.1 lr.2
        rw [w32_r (x := lefF (aS A) (apw A) k (aCm A k) (aCm A (k + 1)) * lefF (aS A) (apw A) k (aCm A k) (aCm A (k + 1))) (by omega) (by omega), w32_r (by omega) (by omega)]
        exact this
  have z0 : aCm A 0 = 0 := by
    have := aCm_eq A 0
    have z := cmL_0 (c_sl (aC A)) (g_W (A_g A))
    rw [show (((0 : Nat) : Int)) = 0 from rfl, z] at this
    omega
  have := loop (aS A).length 0 (by omega)
  rw [z0] at this
  exact this
end
