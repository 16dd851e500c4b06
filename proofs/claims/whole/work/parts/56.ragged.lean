/-! THE CLASS: ragged -/
def plL (sl : Nat → Int) : Nat → List Nat
  | 0 => []
  | n + 1 => if 0 ≤ sl n then plL sl n ++ [n] else plL sl n
theorem plL_len (sl : Nat → Int) : ∀ n, ((plL sl n).length : Int) = cpL sl n := by
  intro n
  induction n with
  | zero => rfl
  | succ n ih =>
    show _ = cpL sl n + (if 0 ≤ sl n then 1 else 0)
    unfold plL
    by_cases z : 0 ≤ sl n
    · rw [if_pos z, if_pos z, List.length_append, ← ih]; simp
    · rw [if_neg z, if_neg z, ih]; omega
theorem plL_pre (sl : Nat → Int) {n m : Nat} (h : n ≤ m) : ∃ t, plL sl m = plL sl n ++ t := by
  obtain ⟨k, rfl⟩ : ∃ k, m = n + k := ⟨m - n, by omega⟩
  induction k with
  | zero => exact ⟨[], by simp⟩
  | succ k ih =>
    obtain ⟨t, e⟩ := ih (by omega)
    show ∃ t, (if 0 ≤ sl (n + k) then plL sl (n + k) ++ [n + k] else plL sl (n + k)) = _
    split
    · exact ⟨t ++ [n + k], by rw [e, List.append_assoc]⟩
    · exact ⟨t, e⟩
theorem plL_at (sl : Nat → Int) {w W : Nat} (h : w < W) (h0 : 0 ≤ sl w) : (plL sl W).getD (plL sl w).length 0 = w := by
  obtain ⟨t, e⟩ := plL_pre sl (show w + 1 ≤ W from h)
  rw [e]
  have e2 : plL sl (w + 1) = plL sl w ++ [w] := by show (if 0 ≤ sl w then _ else _) = _; rw [if_pos h0]
  rw [e2, getD_app _ _ _ (by simp)]
  have := getD_app2 (plL sl w) [w] 0 0
  rw [Nat.add_zero] at this
  rw [this]; rfl
theorem cpL_mono (sl : Nat → Int) {n m : Nat} (h : n ≤ m) : cpL sl n ≤ cpL sl m ∧ 0 ≤ cpL sl n := by
  obtain ⟨t, e⟩ := plL_pre sl h
  have a := plL_len sl n
  have b := plL_len sl m
  rw [e, List.length_append] at b
  omega
theorem sF_snoc (g : Nat → Int) : ∀ m i : Nat, sF g (m + 1) i = sF g m i + g (i + m) := by
  intro m
  induction m with
  | zero => intro i; show g i + 0 = 0 + g (i + 0); simp
  | succ m ih =>
    intro i
    show g i + sF g (m + 1) (i + 1) = (g i + sF g m (i + 1)) + g (i + (m + 1))
    rw [ih (i + 1), show i + 1 + m = i + (m + 1) by omega]; omega
theorem sq_le {x : Int} (h1 : -6100 ≤ x) (h2 : x ≤ 6100) : 0 ≤ x * x ∧ x * x ≤ 37210000 := by
  by_cases z : 0 ≤ x
  · exact ⟨Int.mul_nonneg z z, Int.mul_le_mul h2 h2 z (by omega)⟩
  · have e : x * x = (-x) * (-x) := by rw [Int.neg_mul_neg]
    rw [e]
    exact ⟨Int.mul_nonneg (by omega) (by omega), Int.mul_le_mul (show -x ≤ 6100 by omega) (show -x ≤ 6100 by omega) (by omega) (by omega)⟩
def lefF (L : SL) (pw : Nat → Int) (k i j : Nat) : Int := s_ri L k - s_le L k - sF pw (j - i) i - ((j : Int) - i - 1)
/-- how wide the i-th word is that has a place; how many lie below slot k; what a slot adds -/
def apw (A : AS) (i : Nat) : Int := widA (A_g A) (A_st A 19).toNat ((plL (c_sl (aC A)) (g_W (A_g A))).getD i 0)
def aCm (A : AS) (k : Nat) : Nat := (cmL (c_sl (aC A)) (k : Int) (g_W (A_g A))).toNat
def aT (A : AS) (k : Nat) : Int := if aCm A k < aCm A (k + 1) ∧ aCm A (k + 1) < c_n (aC A) then lefF (aS A) (apw A) k (aCm A k) (aCm A (k + 1)) * lefF (aS A) (apw A) k (aCm A k) (aCm A (k + 1)) else 0
def r_ragged (A : AS) : Int := sumF (aT A) (aS A).length
theorem cmL_nn (sl : Nat → Int) (k : Int) : ∀ w, 0 ≤ cmL sl k w ∧ cmL sl k w ≤ cpL sl w := by
  intro w
  induction w with
  | zero => exact ⟨Int.le_refl _, Int.le_refl _⟩
  | succ w ih =>
    show 0 ≤ cmL sl k w + (if 0 ≤ sl w ∧ sl w < k then 1 else 0) ∧ cmL sl k w + (if 0 ≤ sl w ∧ sl w < k then 1 else 0) ≤ cpL sl w + (if 0 ≤ sl w then 1 else 0)
    by_cases z : 0 ≤ sl w ∧ sl w < k
    · rw [if_pos z, if_pos z.1]; omega
    · rw [if_neg z]; split <;> omega
theorem aCm_eq (A : AS) (k : Nat) : ((aCm A k : Nat) : Int) = cmL (c_sl (aC A)) (k : Int) (g_W (A_g A)) := by
  have := cmL_nn (c_sl (aC A)) (k : Int) (g_W (A_g A))
  unfold aCm; omega
theorem aN_eq (A : AS) : ((c_n (aC A) : Nat) : Int) = cpL (c_sl (aC A)) (g_W (A_g A)) := prd_n _ _ _
theorem aCm_st (A : AS) (k : Nat) : ((aCm A (k + 1) : Nat) : Int) = aCm A k + c_ct (aC A) k ∧ 0 ≤ c_ct (aC A) k := by
  have e := cmL_succ (c_sl (aC A)) k (g_W (A_g A))
  have e2 : c_ct (aC A) k = sumF (fun j => if c_sl (aC A) j = (k : Int) then 1 else 0) (g_W (A_g A)) := prd_ct _ _ _ k
  have e3 := sumF_rg (f := fun j => if c_sl (aC A) j = (k : Int) then 1 else 0) (M := 1) (fun n => by split <;> omega) (g_W (A_g A))
  rw [aCm_eq, aCm_eq, e, ← e2]
  rw [← e2] at e3
  exact ⟨rfl, e3.1⟩
theorem aCm_mono (A : AS) {k m : Nat} (h : k ≤ m) : aCm A k ≤ aCm A m := by
  obtain ⟨j, rfl⟩ : ∃ j, m = k + j := ⟨m - k, by omega⟩
  induction j with
  | zero => exact Nat.le_refl _
  | succ j ih =>
    have a := aCm_st A (k + j)
    have b := ih (by omega)
    show _ ≤ aCm A (k + j + 1)
    omega
theorem aCm_le (A : AS) (k : Nat) : aCm A k ≤ c_n (aC A) := by
  have a := aCm_eq A k
  have b := aN_eq A
  have := cmL_nn (c_sl (aC A)) (k : Int) (g_W (A_g A))
  omega
theorem widA_rg (g : PG) (k w : Nat) : 1 ≤ widA g k w ∧ widA g k w ≤ 200 := by unfold widA; omega
theorem apw_rg (A : AS) (i : Nat) : 0 ≤ apw A i ∧ apw A i ≤ 200 := by have := widA_rg (A_g A) (A_st A 19).toNat ((plL (c_sl (aC A)) (g_W (A_g A))).getD i 0); unfold apw; omega
theorem aN_le {A : AS} (okg : POK (A_g A)) : c_n (aC A) ≤ 30 := by
  have a := aN_eq A
  have b := sumF_rg (f := fun j => if 0 ≤ c_sl (aC A) j then 1 else 0) (M := 1) (fun n => by split <;> omega) (g_W (A_g A))
  have o := okg.1
  have e : cpL (c_sl (aC A)) (g_W (A_g A)) = sumF (fun j => if 0 ≤ c_sl (aC A) j then 1 else 0) (g_W (A_g A)) := rfl
  omega
theorem lef_rg {A : AS} (okg : POK (A_g A)) {k : Nat} (hk : k < (aS A).length) {i j : Nat} (hi : i < j) (hj : j ≤ 30) : -6100 ≤ lefF (aS A) (apw A) k i j ∧ lefF (aS A) (apw A) k i j ≤ 6100 := by
  have o := okg.1
  have s := slt_rg (v := A_v A) (wi := A_w A) (ht := aH A) (by show 0 ≤ g_wi (A_g A); omega) (n := v_ln (A_v A)) hk
  have e : (slt (A_v A) (A_w A) (aH A) (v_ln (A_v A))) = aS A := rfl
  rw [e] at s
  have t := sF_rg (apw_rg A) (j - i) i
  have w : A_w A ≤ 200 := o.2.1
  unfold lefF
  omega
theorem aT_sum {A : AS} (okg : POK (A_g A)) : ∀ k, k ≤ (aS A).length → 0 ≤ sumF (aT A) k ∧ sumF (aT A) k ≤ 37210000 * (aCm A k : Int) := by
  intro k
  induction k with
  | zero => intro _; exact ⟨Int.le_refl _, by have : sumF (aT A) 0 = 0 := rfl; omega⟩
  | succ k ih =>
    intro hk
    have a := ih (by omega)
    have b := aCm_st A k
    have n := aN_le okg
    have l := aCm_le A (k + 1)
    have t : 0 ≤ aT A k ∧ aT A k ≤ 37210000 * c_ct (aC A) k := by
      unfold aT
      split
      · rename_i z
        have r := lef_rg okg (k := k) (by omega) (i := aCm A k) (j := aCm A (k + 1)) z.1 (by omega)
        have s := sq_le r.1 r.2
        omega
      · omega
    show 0 ≤ sumF (aT A) k + aT A k ∧ sumF (aT A) k + aT A k ≤ _
    omega
theorem sum_mid {f : Nat → Int} {m n : Nat} (h : m ≤ n) (hz : ∀ j, m ≤ j → j < n → f j = 0) : sumF f n = sumF f m := by
  obtain ⟨k, rfl⟩ : ∃ k, n = m + k := ⟨n - m, by omega⟩
  induction k with
  | zero => rfl
  | succ k ih =>
    show sumF f (m + k) + f (m + k) = _
    rw [ih (by omega) (fun j h1 h2 => hz j h1 (by omega)), hz _ (by omega) (by omega)]; omega
/-- at word w: which slot, what is summed up, what is taken -/
def RgI (A : AS) (w : Nat) (s sum tk : Int) : Prop := (s = -1 ∧ cpL (c_sl (aC A)) w = 0 ∧ sum = 0 ∧ tk = 0) ∨ (0 ≤ s ∧ (∃ u, u < w ∧ c_sl (aC A) u = s) ∧ (∀ j, j < w → c_sl (aC A) j ≤ s) ∧ sum = sumF (aT A) s.toNat ∧ tk = sF (apw A) ((cpL (c_sl (aC A)) w).toNat - aCm A s.toNat) (aCm A s.toNat))
theorem aMono (A : AS) : ∀ i j, i ≤ j → 0 ≤ c_sl (aC A) i → 0 ≤ c_sl (aC A) j → c_sl (aC A) i ≤ c_sl (aC A) j := fun i j => prd_mono _ _ _
theorem apw_at {A : AS} {w : Nat} (hw : w < g_W (A_g A)) (h0 : 0 ≤ c_sl (aC A) w) : apw A (cpL (c_sl (aC A)) w).toNat = widA (A_g A) (A_st A 19).toNat w := by
  unfold apw
  have e : (cpL (c_sl (aC A)) w).toNat = (plL (c_sl (aC A)) w).length := by have := plL_len (c_sl (aC A)) w; omega
  rw [e, plL_at _ hw h0]
/-- below a slot of w, and above all that lies ahead of w -/
theorem aCm_at {A : AS} {w : Nat} (hw : w < g_W (A_g A)) (h0 : 0 ≤ c_sl (aC A) w) {k : Nat} (hk : (k : Int) ≤ c_sl (aC A) w) (hb : ∀ j, j < w → 0 ≤ c_sl (aC A) j → c_sl (aC A) j < k) : ((aCm A k : Nat) : Int) = cpL (c_sl (aC A)) w := by
  rw [aCm_eq, cmL_at (aMono A) h0 hk _ (by omega), cmL_all w hb]
section
variable {d : Nat} {h : PH} {Q : Option PV → PH → Prop}
variable {A : AS} {a : Nat} {pt : Nat → PG}
theorem rg_loop (X : RCa h A a pt) (N : NW h A a) (hq : Q (some (vI (r_ragged A))) h) :
    ∀ (m w : Nat) (s sum tk : Int), w + m = g_W (A_g A) → RgI A w s sum tk → T2 (d + 1) mX6_raggedness 9 [some (vR 219), some (vI sum), some (vI tk), some (vI s), some (vI (w : Int)), none] [] h Q := by
  obtain ⟨okg, oks, hR, hS, pc, pu, pl⟩ := X.okg
  have o1 := okg.1
  have o5 := oks.2.2.2.2
  obtain ⟨m1, m2, m3, m4, m5⟩ := N.po
  have g0 : gr h 219 0 = pg a := N.1.2.1.1
  have g1 : gr h 219 1 = 67 := N.1.2.1.2.1
  have hI : gi h 67 4 = ((A_st A 19).toNat : Int) := by rw [hS.inkv]; omega
  have eW : gi h (pg a) 9 = (g_W (A_g A) : Int) := hR.1.2.2.2.2.2.2
  have esl : ∀ w, w < 30 → gi h 228 w = c_sl (aC A) w := fun w hw => (m5.1 w hw).1
  have srg : ∀ j, -1 ≤ c_sl (aC A) j ∧ c_sl (aC A) j < (aS A).length := fun j => prd_rg _ _ _ j
  have hlen := aS_len X
  have hn := aN_le okg
  intro m
  induction m with
  | zero =>
    intro w s sum tk hw I
    refine BX6_raggedness_9 cl219 ?_
    rw [g0, eW]
    refine ⟨fun _ => ?_, fun z => by omega⟩
    have ew : w = g_W (A_g A) := by omega
    have e : r_ragged A = sum := by
      unfold r_ragged
      rcases I with ⟨i1, i2, i3, i4⟩ | ⟨i1, ⟨u, i2, i2'⟩, i3, i4, i5⟩
      · have n0 := aN_eq A
        rw [← ew, i2] at n0
        rw [sum_mid (m := 0) (Nat.zero_le _) (fun j _ _ => ?_), i3]; rfl
        unfold aT; rw [if_neg (by omega)]
      · have hu := srg u
        rw [sum_mid (m := s.toNat) (by omega) (fun j h1 h2 => ?_), i4]
        have c1 : ((aCm A (s.toNat + 1) : Nat) : Int) = c_n (aC A) := by
          rw [aCm_eq, cmL_all _ (fun j hj hj0 => ?_), aN_eq]
          have := i3 j (by omega); omega
        have c2 := aCm_mono A (show s.toNat + 1 ≤ j + 1 by omega)
        unfold aT; rw [if_neg (by omega)]
    rw [e] at hq; exact hq
  | succ m ih =>
    intro w s sum tk hw I
    refine BX6_raggedness_9 cl219 ?_
    rw [g0, eW]
    refine ⟨fun z => by omega, fun _ => ⟨⟨by omega, by omega⟩, ?_⟩⟩
    try simp only [Int.toNat_natCast]
    rw [esl w (by omega)]
    have hsw := srg w
    refine ⟨fun z => ⟨⟨by omega, by omega⟩, ?_⟩, fun z => ?_⟩
    · -- the word has a place
      have cpw : cpL (c_sl (aC A)) (w + 1) = cpL (c_sl (aC A)) w + 1 := by
        show cpL _ w + (if 0 ≤ c_sl (aC A) w then 1 else 0) = _; rw [if_pos z]
      have cp0 := cpL_mono (c_sl (aC A)) (show w ≤ w + 1 by omega)
      have cpN := cpL_mono (c_sl (aC A)) (show w + 1 ≤ g_W (A_g A) by omega)
      have aN := aN_eq A
      have wr := widA_rg (A_g A) (A_st A 19).toNat w
      have ewd : gi h (pg a + 18) ((A_st A 19).toNat * 30 + w) = widA (A_g A) (A_st A 19).toNat w := N.1.2.2.1.2.2.2.1 w (by show w < g_W (A_g A); omega)
      have at91 : ∀ sum' tk' : Int, (0 ≤ tk' ∧ tk' ≤ 6000) → RgI A (w + 1) (c_sl (aC A) w) sum' (tk' + widA (A_g A) (A_st A 19).toNat w) → T2 (d + 1) mX6_raggedness 91 [some (vR 219), some (vI sum'), some (vI tk'), some (vI (c_sl (aC A) w)), some (vI (w : Int)), none] [] h Q := by
        intro sum' tk' ht I'
        refine BX6_raggedness_91 cl219 ?_
        rw [g0, g1, hI]
        refine c_wideOf pc (by omega) (by omega) (fun _ => ?_)
        dsimp only
        rw [ewd, w32_r (x := tk' + widA (A_g A) (A_st A 19).toNat w) (by omega) (by omega), w32_r (by omega) (by omega), show ((w : Int) + 1) = ((w + 1 : Nat) : Int) by omega]
        exact ih (w + 1) _ _ _ (by omega) I'
      have fresh : ∀ sum' : Int, (∀ j, j < w → c_sl (aC A) j < c_sl (aC A) w) → sum' = sumF (aT A) (c_sl (aC A) w).toNat → RgI A (w + 1) (c_sl (aC A) w) sum' (0 + widA (A_g A) (A_st A 19).toNat w) := by
        intro sum' hb es
        have cm := aCm_at (A := A) (w := w) (by omega) z (k := (c_sl (aC A) w).toNat) (by omega) (fun j hj _ => by have := hb j hj; omega)
        refine Or.inr ⟨z, ⟨w, by omega, rfl⟩, fun j hj => ?_, es, ?_⟩
        · by_cases e : j = w
          · rw [e]; exact Int.le_refl _
          · have := hb j (by omega); omega
        · rw [show (cpL (c_sl (aC A)) (w + 1)).toNat - aCm A (c_sl (aC A) w).toNat = 1 by omega]
          show _ = apw A _ + 0
          rw [show aCm A (c_sl (aC A) w).toNat = (cpL (c_sl (aC A)) w).toNat by omega, apw_at (by omega) z]
          omega
      refine ⟨fun y => ?_, fun y => ?_⟩
      · -- the slot goes on
        rcases I with ⟨i1, -⟩ | ⟨i1, ⟨u, i2, i2'⟩, i3, i4, i5⟩
        · omega
        · have cm : ((aCm A s.toNat : Nat) : Int) ≤ cpL (c_sl (aC A)) w := by
            rw [aCm_eq, cmL_at (aMono A) z (by omega) _ (by omega)]
            exact (cmL_nn _ _ _).2
          have tb := sF_rg (apw_rg A) ((cpL (c_sl (aC A)) w).toNat - aCm A s.toNat) (aCm A s.toNat)
          rw [← i5] at tb
          rw [← y]
          refine at91 sum tk (by omega) ?_
          refine Or.inr ⟨z, ⟨w, by omega, rfl⟩, fun j hj => ?_, by rw [i4, y], ?_⟩
          · by_cases e : j = w
            · rw [e]; exact Int.le_refl _
            · have := i3 j (by omega); omega
          · rw [y, i5, show (cpL (c_sl (aC A)) (w + 1)).toNat - aCm A s.toNat = ((cpL (c_sl (aC A)) w).toNat - aCm A s.toNat) + 1 by omega, sF_snoc, show aCm A s.toNat + ((cpL (c_sl (aC A)) w).toNat - aCm A s.toNat) = (cpL (c_sl (aC A)) w).toNat by omega, apw_at (by omega) z]
      · refine ⟨fun x => ?_, fun x => ?_⟩
        · -- a new slot behind another
          rcases I with ⟨i1, -⟩ | ⟨i1, ⟨u, i2, i2'⟩, i3, i4, i5⟩
          · omega
          · have gt : s < c_sl (aC A) w := by
              have := aMono A u w (by omega) (by omega) z
              omega
            have hs := srg u
            have c1 := aCm_at (A := A) (w := w) (by omega) z (k := s.toNat + 1) (by omega) (fun j hj _ => by have := i3 j hj; omega)
            have c2 := aCm_st A s.toNat
            have c3 : 0 < c_ct (aC A) s.toNat := by
              have cu : ((aCm A s.toNat : Nat) : Int) ≤ cpL (c_sl (aC A)) u := by
                rw [aCm_eq, cmL_at (aMono A) (show 0 ≤ c_sl (aC A) u by omega) (by omega) _ (by omega)]
                exact (cmL_nn _ _ _).2
              have cu2 := (cpL_mono (c_sl (aC A)) (show u + 1 ≤ w by omega)).1
              have cu3 : cpL (c_sl (aC A)) (u + 1) = cpL (c_sl (aC A)) u + 1 := by
                show cpL _ u + (if 0 ≤ c_sl (aC A) u then 1 else 0) = _; rw [if_pos (by omega)]
              omega
            have tb := sF_rg (apw_rg A) ((cpL (c_sl (aC A)) w).toNat - aCm A s.toNat) (aCm A s.toNat)
            rw [← i5] at tb
            have sr := m3.2 s.toNat (by omega)
            have srr := slt_rg (v := A_v A) (wi := A_w A) (ht := aH A) (by show 0 ≤ g_wi (A_g A); omega) (n := v_ln (A_v A)) (k := s.toNat) (show s.toNat < (aS A).length by omega)
            have srr2 : 0 ≤ s_le (aS A) s.toNat ∧ s_le (aS A) s.toNat ≤ s_ri (aS A) s.toNat ∧ s_ri (aS A) s.toNat ≤ A_w A := srr.2
            have w200 : A_w A ≤ 200 := o1.2.1
            have el : lefF (aS A) (apw A) s.toNat (aCm A s.toNat) (aCm A (s.toNat + 1)) = s_ri (aS A) s.toNat - s_le (aS A) s.toNat - tk - (c_ct (aC A) s.toNat - 1) := by
              unfold lefF
              rw [show aCm A (s.toNat + 1) - aCm A s.toNat = (cpL (c_sl (aC A)) w).toNat - aCm A s.toNat by omega, ← i5]
              omega
            have lr := lef_rg okg (k := s.toNat) (by omega) (i := aCm A s.toNat) (j := aCm A (s.toNat + 1)) (by omega) (by omega)
            have sq := sq_le lr.1 lr.2
            have eT : aT A s.toNat = lefF (aS A) (apw A) s.toNat (aCm A s.toNat) (aCm A (s.toNat + 1)) * lefF (aS A) (apw A) s.toNat (aCm A s.toNat) (aCm A (s.toNat + 1)) := by
              unfold aT; rw [if_pos ⟨by omega, by omega⟩]
            have sb := aT_sum okg s.toNat (by omega)
            have sb2 := aT_sum okg (s.toNat + 1) (by omega)
            have eS : sumF (aT A) (s.toNat + 1) = sum + aT A s.toNat := by show sumF (aT A) s.toNat + aT A s.toNat = _; rw [i4]
            refine ⟨⟨by omega, by omega⟩, ?_⟩
            have ect : gi h 224 s.toNat = c_ct (aC A) s.toNat := (m5.2.1 s.toNat (by omega)).1
            rw [ect]
            refine EX7_leftOver fun _ _ _ => BX7_leftOver_0 cl220 ⟨⟨by omega, by omega⟩, ⟨by omega, by omega⟩, fun _ => ?_⟩
            rw [sr.2.2, sr.2.1]
            rw [w32_r (x := s_ri (aS A) s.toNat - s_le (aS A) s.toNat) (by omega) (by omega), w32_r (x := s_ri (aS A) s.toNat - s_le (aS A) s.toNat - tk) (by omega) (by omega), w32_r (x := c_ct (aC A) s.toNat - 1) (by omega) (by omega), w32_r (by omega) (by omega), ← el]
            refine BX6_raggedness_71 cl219 ⟨⟨by omega, by omega⟩, ?_⟩
            try simp only [Int.toNat_natCast]
            rw [esl w (by omega), w32_r (x := lefF (aS A) (apw A) s.toNat (aCm A s.toNat) (aCm A (s.toNat + 1)) * lefF (aS A) (apw A) s.toNat (aCm A s.toNat) (aCm A (s.toNat + 1))) (by omega) (by omega), w32_r (by omega) (by omega)]
            refine at91 _ 0 (by omega) (fresh _ (fun j hj => by have := i3 j hj; omega) ?_)
            rw [← eT, ← eS]
            refine (sum_mid (by omega) (fun k k1 k2 => ?_)).symm
            have ck := aCm_at (A := A) (w := w) (by omega) z (k := k) (by omega) (fun j hj _ => by have := i3 j hj; omega)
            have ck1 := aCm_at (A := A) (w := w) (by omega) z (k := k + 1) (by omega) (fun j hj _ => by have := i3 j hj; omega)
            unfold aT; rw [if_neg (by omega)]
        · -- the first slot
          rcases I with ⟨i1, i2, i3, i4⟩ | ⟨i1, -⟩
          · refine BX6_raggedness_71 cl219 ⟨⟨by omega, by omega⟩, ?_⟩
            try simp only [Int.toNat_natCast]
            rw [esl w (by omega), i3, show w32 (0 + w32 (0 * 0)) = 0 from by decide]
            have none : ∀ j, j < w → ¬ 0 ≤ c_sl (aC A) j := fun j hj hj0 => by
              have c := (cpL_mono (c_sl (aC A)) (show j + 1 ≤ w by omega)).1
              have c0 := (cpL_mono (c_sl (aC A)) (show j ≤ j + 1 by omega)).2
              have cj : cpL (c_sl (aC A)) (j + 1) = cpL (c_sl (aC A)) j + 1 := by
                show cpL _ j + (if 0 ≤ c_sl (aC A) j then 1 else 0) = _; rw [if_pos hj0]
              omega
            refine at91 0 0 (by omega) (fresh 0 (fun j hj => by have := none j hj; omega) ?_)
            refine (sum_mid (m := 0) (Nat.zero_le _) (fun k k1 k2 => ?_)).symm
            have ck := aCm_at (A := A) (w := w) (by omega) z (k := k) (by omega) (fun j hj hj0 => absurd hj0 (none j hj))
            have ck1 := aCm_at (A := A) (w := w) (by omega) z (k := k + 1) (by omega) (fun j hj hj0 => absurd hj0 (none j hj))
            unfold aT; rw [if_neg (by omega)]
          · omega
    · -- no place
      rw [w32_r (by omega) (by omega), show ((w : Int) + 1) = ((w + 1 : Nat) : Int) by omega]
      have cpw : cpL (c_sl (aC A)) (w + 1) = cpL (c_sl (aC A)) w := by
        show cpL _ w + (if 0 ≤ c_sl (aC A) w then 1 else 0) = _; rw [if_neg (by omega)]; omega
      refine ih (w + 1) s sum tk (by omega) ?_
      rcases I with ⟨i1, i2, i3, i4⟩ | ⟨i1, ⟨u, i2, i2'⟩, i3, i4, i5⟩
      · exact Or.inl ⟨i1, by rw [cpw]; exact i2, i3, i4⟩
      · refine Or.inr ⟨i1, ⟨u, by omega, i2'⟩, fun j hj => ?_, i4, by rw [cpw]; exact i5⟩
        by_cases e : j = w
        · rw [e]; omega
        · exact i3 j (by omega)
theorem k_ragged (X : RC h A) (hq : ∀ h', RC h' A → fr frCl h h' → Q (some (vI (r_ragged A))) h') : C2 (d + 6) mX10_ragged [vR 64] h Q := by
  obtain ⟨a, pt, X⟩ := X
  refine EX10_ragged (BX10_ragged_0 (c_setting X (fun h1 X1 N1 F1 => ⟨cl219, ?_⟩)))
  have h2 := hq h1 ⟨a, pt, X1⟩ F1
  exact EX6_raggedness (BX6_raggedness_0 cl219 (rg_loop X1 N1 (fun _ => h2) (g_W (A_g A)) 0 (-1) 0 0 (by omega) (Or.inl ⟨rfl, rfl, rfl, rfl⟩)))
end
