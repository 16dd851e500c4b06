/-! THE MODEL: breaks, pure -/
def OKw (o : OW) : Prop := ∀ p, o = some p → 0 ≤ p.2 ∧ p.2 ≤ cC
theorem mg_comm (a b : OW) : mg a b = mg b a := by
  cases a with
  | none => cases b <;> rfl
  | some x =>
    cases b with
    | none => rfl
    | some y =>
      show (if x.1 < y.1 then some x else if y.1 < x.1 then some y else some (x.1, min cC (x.2 + y.2))) = (if y.1 < x.1 then some y else if x.1 < y.1 then some x else some (y.1, min cC (y.2 + x.2)))
      by_cases h1 : x.1 < y.1
      · rw [if_pos h1, if_neg (by omega), if_pos h1]
      · rw [if_neg h1]
        by_cases h2 : y.1 < x.1
        · rw [if_pos h2, if_pos h2]
        · rw [if_neg h2, if_neg h2, if_neg h1, show x.1 = y.1 by omega, Int.add_comm]
theorem mg_assoc (a b c : OW) (ha : OKw a) (hb : OKw b) (hc : OKw c) : mg (mg a b) c = mg a (mg b c) := by
  cases a with
  | none => rfl
  | some x =>
    cases b with
    | none => rfl
    | some y =>
      cases c with
      | none => cases h : mg (some x) (some y) <;> exact h.symm
      | some z =>
        have h1 := ha x rfl
        have h2 := hb y rfl
        have h3 := hc z rfl
        have e : ∀ p q : Int × Int, mg (some p) (some q) = if p.1 < q.1 then some p else if q.1 < p.1 then some q else some (p.1, min cC (p.2 + q.2)) := fun _ _ => rfl
        rw [e x y, e y z]
        by_cases c1 : x.1 < y.1
        · rw [if_pos c1]
          by_cases c2 : y.1 < z.1
          · rw [if_pos c2, e x z, e x y, if_pos c1, if_pos (by omega)]
          · rw [if_neg c2]
            by_cases c3 : z.1 < y.1
            · rw [if_pos c3]
            · rw [if_neg c3, e x z, e x (y.1, _), if_pos (by omega)]
              show _ = if x.1 < y.1 then _ else _
              rw [if_pos c1]
        · rw [if_neg c1]
          by_cases c2 : y.1 < x.1
          · rw [if_pos c2]
            by_cases c3 : y.1 < z.1
            · rw [if_pos c3, e y z, if_pos c3, e x y, if_neg c1, if_pos c2]
            · rw [if_neg c3]
              by_cases c4 : z.1 < y.1
              · rw [if_pos c4, e y z, if_neg c3, if_pos c4, e x z, if_neg (by omega), if_pos (by omega)]
              · rw [if_neg c4, e y z, if_neg c3, if_neg c4, e x (y.1, _)]
                show _ = if x.1 < y.1 then _ else if y.1 < x.1 then _ else _
                rw [if_neg c1, if_pos c2]
          · rw [if_neg c2]
            by_cases c3 : y.1 < z.1
            · rw [if_pos c3, e x y, if_neg c1, if_neg c2, e (x.1, _) z]
              show (if x.1 < z.1 then _ else _) = _
              rw [if_pos (by omega)]
            · rw [if_neg c3]
              by_cases c4 : z.1 < y.1
              · rw [if_pos c4, e x z, if_neg (by omega), if_pos (by omega), e (x.1, _) z]
                show (if x.1 < z.1 then _ else if z.1 < x.1 then _ else _) = _
                rw [if_neg (by omega), if_pos (by omega)]
              · rw [if_neg c4, e (x.1, _) z, e x (y.1, _)]
                show (if x.1 < z.1 then _ else if z.1 < x.1 then _ else some (x.1, min cC (min cC (x.2 + y.2) + z.2))) = (if x.1 < y.1 then _ else if y.1 < x.1 then _ else some (x.1, min cC (x.2 + min cC (y.2 + z.2))))
                rw [if_neg (by omega), if_neg (by omega), if_neg c1, if_neg c2]
                unfold cC at *
                congr 2
                omega
theorem OKo.w {e : Nat} {o : OW} (h : OKo e o) : OKw o := fun p hp => by have := h p hp; exact ⟨by omega, this.2.2.2⟩
/-- offers from the first on -/
def ofA (g : Nat → OW) : Nat → OW
  | 0 => none
  | f + 1 => mg (ofA g f) (g f)
theorem ofA_ok {g : Nat → OW} {e : Nat} : ∀ f : Nat, (∀ j, j < f → OKo e (g j)) → OKo e (ofA g f) := by
  intro f
  induction f with
  | zero => intro _ p hp; cases hp
  | succ f ih => intro h; exact mg_ok (ih (fun j hj => h j (by omega))) (h f (by omega))
theorem ofA_S {g : Nat → OW} {e : Nat} : ∀ (f : Nat) (a : OW), (∀ j, j < f → OKo e (g j)) → OKo e a → ofS g f a = mg (ofA g f) a := by
  intro f
  induction f with
  | zero => intro a _ _; rfl
  | succ f ih =>
    intro a h ha
    show ofS g f (mg a (g f)) = mg (mg (ofA g f) (g f)) a
    rw [ih _ (fun j hj => h j (by omega)) (mg_ok ha (h f (by omega))), mg_comm a (g f), mg_assoc _ _ _ (ofA_ok f (fun j hj => h j (by omega))).w (h f (by omega)).w ha.w]
theorem mg_l {a b : OW} (h : a ≠ none) : mg a b ≠ none := by
  cases a with
  | none => exact absurd rfl h
  | some x =>
    cases b with
    | none => exact h
    | some y =>
      show (if x.1 < y.1 then some x else if y.1 < x.1 then some y else some (x.1, min cC (x.2 + y.2))) ≠ none
      split
      · exact fun z => by cases z
      · split <;> exact fun z => by cases z
theorem mg_r {a b : OW} (h : b ≠ none) : mg a b ≠ none := by rw [mg_comm]; exact mg_l h
theorem ofS_l {g : Nat → OW} : ∀ (f : Nat) (a : OW), a ≠ none → ofS g f a ≠ none := by
  intro f
  induction f with
  | zero => intro a h; exact h
  | succ f ih => intro a h; exact ih _ (mg_l h)
theorem ofS_r {g : Nat → OW} {i : Nat} (hi : g i ≠ none) : ∀ (f : Nat) (a : OW), i < f → ofS g f a ≠ none := by
  intro f
  induction f with
  | zero => intro a h; exact absurd h (Nat.not_lt_zero i)
  | succ f ih =>
    intro a h
    by_cases e : i = f
    · subst e; exact ofS_l i _ (mg_r hi)
    · exact ih _ (by omega)
/-- words as they are poured have room -/
def wsF (v : VW) (c : CF) (k : Nat) : Int := sumF (fun j => if c_sl c j = (k : Int) then v_wd v j + 1 else 0) (c_w c)
def FJ (v : VW) (L : SL) (c : CF) : Prop := c_a c = s_le L (c_k c) + wsF v c (c_k c) ∧ ∀ k : Nat, wsF v c k ≤ 0 ∨ wsF v c k - 1 ≤ s_ri L k - s_le L k
theorem FJ_stp {v : VW} {L : SL} {c : CF} (I : FI c) (J : FJ v L c) : FJ v L (stp v L c) := by
  obtain ⟨i1, i2, -⟩ := I
  obtain ⟨j1, j2⟩ := J
  unfold stp
  split
  · split
    · have e : ∀ k, wsF v (c_w c + 1, c_k c, c_a c, c_sl c, c_lf c, c_ct c, c_n c) k = wsF v c k := fun k => by
        show sumF (fun j => if c_sl c j = (k : Int) then v_wd v j + 1 else 0) (c_w c) + (if c_sl c (c_w c) = (k : Int) then v_wd v (c_w c) + 1 else 0) = _
        rw [i1 (c_w c) (Nat.le_refl _), if_neg (by omega), Int.add_zero]; rfl
      exact ⟨by rw [e]; exact j1, fun k => by rw [e]; exact j2 k⟩
    · split
      · rename_i hf
        have e : ∀ k, wsF v (c_w c + 1, c_k c, c_a c + v_wd v (c_w c) + 1, upf (c_sl c) (c_w c) (c_k c), upf (c_lf c) (c_w c) (c_a c), upf (c_ct c) (c_k c) (c_ct c (c_k c) + 1), c_n c + 1) k = wsF v c k + (if k = c_k c then v_wd v (c_w c) + 1 else 0) := fun k => by
          show sumF (fun j => if upf (c_sl c) (c_w c) (c_k c) j = (k : Int) then v_wd v j + 1 else 0) (c_w c) + (if upf (c_sl c) (c_w c) (c_k c) (c_w c) = (k : Int) then v_wd v (c_w c) + 1 else 0) = _
          have e1 : sumF (fun j => if upf (c_sl c) (c_w c) (c_k c) j = (k : Int) then v_wd v j + 1 else 0) (c_w c) = wsF v c k := by
            refine sum_ext _ (fun i hi => ?_)
            unfold upf
            rw [if_neg (show ¬ i = c_w c by omega)]
          have e2 : upf (c_sl c) (c_w c) (c_k c) (c_w c) = (c_k c : Int) := by unfold upf; rw [if_pos rfl]
          rw [e1, e2]
          by_cases z : k = c_k c
          · rw [if_pos z, if_pos (by omega)]
          · rw [if_neg z, if_neg (by omega)]
        refine ⟨?_, fun k => ?_⟩
        · rw [e]
          show c_a c + v_wd v (c_w c) + 1 = s_le L (c_k c) + (wsF v c (c_k c) + (if c_k c = c_k c then v_wd v (c_w c) + 1 else 0))
          rw [if_pos rfl]; omega
        · rw [e]
          by_cases z : k = c_k c
          · rw [if_pos z, z]; right; omega
          · rw [if_neg z, Int.add_zero]; exact j2 k
      · have e : ∀ k, wsF v (c_w c, c_k c + 1, s_le L (c_k c + 1), c_sl c, c_lf c, c_ct c, c_n c) k = wsF v c k := fun k => rfl
        refine ⟨?_, fun k => by rw [e]; exact j2 k⟩
        have z : wsF v c (c_k c + 1) = 0 := by
          unfold wsF
          rw [sum_more (m := 0) (fun j _ => ?_) _ (Nat.zero_le _)]
          · rfl
          · rcases i2 j with h | h
            · rw [if_neg (by omega)]
            · rw [if_neg (by omega)]
        show s_le L (c_k c + 1) = s_le L (c_k c + 1) + wsF v c (c_k c + 1)
        rw [z]; omega
  · exact ⟨j1, j2⟩
theorem prd_fit (v : VW) (wi : Int) (ht : Nat → Int) (k : Nat) : sumF (fun j => if c_sl (prd v wi ht) j = (k : Int) then v_wd v j + 1 else 0) (v_W v) ≤ 0 ∨ sumF (fun j => if c_sl (prd v wi ht) j = (k : Int) then v_wd v j + 1 else 0) (v_W v) - 1 ≤ s_ri (slA v wi ht) k - s_le (slA v wi ht) k := by
  have I : FI (prd v wi ht) ∧ FJ v (slA v wi ht) (prd v wi ht) := itr_inv (P := fun c => FI c ∧ FJ v (slA v wi ht) c) (fun c hc => ⟨FI_stp hc.1, FJ_stp hc.1 hc.2⟩) _ (cf0 (slA v wi ht)) ⟨FI_0 _, by show s_le (slA v wi ht) 0 = s_le (slA v wi ht) 0 + 0; omega, fun k => Or.inl (Int.le_refl _)⟩
  have cw := (FI_prd v wi ht).2
  rw [sum_more (m := c_w (prd v wi ht)) (fun j hj => by rw [I.1.1 j hj, if_neg (by omega)]) _ cw]
  exact I.2.2 k
theorem ix_lo {A : AS} {w k : Nat} (hw : w < g_W (A_g A)) (h0 : 0 ≤ c_sl (aC A) w) : ((cpL (c_sl (aC A)) w < aCm A k) ↔ (c_sl (aC A) w < k)) := by
  have e := aCm_eq A k
  constructor
  · intro h
    by_cases c : c_sl (aC A) w < k
    · exact c
    · have a := cmL_at (aMono A) h0 (k := (k : Int)) (by omega) (g_W (A_g A)) (by omega)
      have b := (cmL_nn (c_sl (aC A)) (k : Int) w).2
      omega
  · intro h
    have a := cmL_all (sl := c_sl (aC A)) (k := (k : Int)) (w + 1) (fun j hj hj0 => by have := aMono A j w (by omega) hj0 h0; omega)
    have b : cpL (c_sl (aC A)) (w + 1) = cpL (c_sl (aC A)) w + (if 0 ≤ c_sl (aC A) w then 1 else 0) := rfl
    rw [if_pos h0] at b
    have mono : ∀ n, w + 1 ≤ n → cmL (c_sl (aC A)) (k : Int) (w + 1) ≤ cmL (c_sl (aC A)) (k : Int) n := by
      intro n
      induction n with
      | zero => intro z; omega
      | succ n ih =>
        intro z
        by_cases e : w + 1 = n + 1
        · rw [e]; exact Int.le_refl _
        · have := ih (by omega)
          have s : cmL (c_sl (aC A)) (k : Int) (n + 1) = cmL (c_sl (aC A)) (k : Int) n + (if 0 ≤ c_sl (aC A) n ∧ c_sl (aC A) n < k then 1 else 0) := rfl
          rw [s]; split <;> omega
    have := mono (g_W (A_g A)) (by omega)
    omega
theorem slot_sum (A : AS) (k : Nat) : ∀ n, n ≤ g_W (A_g A) → sumF (fun j => if c_sl (aC A) j = (k : Int) then v_wd (A_v A) j + 1 else 0) n = sumF (fun i => if aCm A k ≤ i ∧ i < aCm A (k + 1) then apw A i + 1 else 0) (cpL (c_sl (aC A)) n).toNat := by
  intro n
  induction n with
  | zero => intro _; rfl
  | succ n ih =>
    intro hn
    have s1 : sumF (fun j => if c_sl (aC A) j = (k : Int) then v_wd (A_v A) j + 1 else 0) (n + 1) = sumF (fun j => if c_sl (aC A) j = (k : Int) then v_wd (A_v A) j + 1 else 0) n + (if c_sl (aC A) n = (k : Int) then v_wd (A_v A) n + 1 else 0) := rfl
    have b : cpL (c_sl (aC A)) (n + 1) = cpL (c_sl (aC A)) n + (if 0 ≤ c_sl (aC A) n then 1 else 0) := rfl
    have p := (cpL_mono (c_sl (aC A)) (show n ≤ n by omega)).2
    rw [s1, ih (by omega), b]
    by_cases h0 : 0 ≤ c_sl (aC A) n
    · rw [if_pos h0, show (cpL (c_sl (aC A)) n + 1).toNat = (cpL (c_sl (aC A)) n).toNat + 1 by omega]
      have s2 : sumF (fun i => if aCm A k ≤ i ∧ i < aCm A (k + 1) then apw A i + 1 else 0) ((cpL (c_sl (aC A)) n).toNat + 1) = sumF (fun i => if aCm A k ≤ i ∧ i < aCm A (k + 1) then apw A i + 1 else 0) (cpL (c_sl (aC A)) n).toNat + (if aCm A k ≤ (cpL (c_sl (aC A)) n).toNat ∧ (cpL (c_sl (aC A)) n).toNat < aCm A (k + 1) then apw A (cpL (c_sl (aC A)) n).toNat + 1 else 0) := rfl
      rw [s2, apw_at (by omega) h0]
      have l1 := ix_lo (A := A) (w := n) (k := k) (by omega) h0
      have l2 := ix_lo (A := A) (w := n) (k := k + 1) (by omega) h0
      by_cases c : c_sl (aC A) n = (k : Int)
      · rw [if_pos c, if_pos (by omega)]; rfl
      · rw [if_neg c, if_neg (by omega)]
    · rw [if_neg h0, if_neg (by omega), Int.add_zero, Int.add_zero]
theorem sum_sF (g : Nat → Int) (a b : Nat) : ∀ N, sumF (fun i => if a ≤ i ∧ i < b then g i else 0) N = sF g (min N b - a) a := by
  intro N
  induction N with
  | zero => rw [show min 0 b - a = 0 by omega]; rfl
  | succ N ih =>
    have s : sumF (fun i => if a ≤ i ∧ i < b then g i else 0) (N + 1) = sumF (fun i => if a ≤ i ∧ i < b then g i else 0) N + (if a ≤ N ∧ N < b then g N else 0) := rfl
    rw [s, ih]
    by_cases c : a ≤ N ∧ N < b
    · rw [if_pos c, show min (N + 1) b - a = (min N b - a) + 1 by omega, sF_snoc, show a + (min N b - a) = N by omega]
    · rw [if_neg c, show min (N + 1) b - a = min N b - a by omega, Int.add_zero]
theorem sF_one (g : Nat → Int) : ∀ m i : Nat, sF (fun j => g j + 1) m i = sF g m i + m := by
  intro m
  induction m with
  | zero => intro i; rfl
  | succ m ih => intro i; show g i + 1 + sF (fun j => g j + 1) m (i + 1) = g i + sF g m (i + 1) + ((m + 1 : Nat) : Int); rw [ih]; omega
theorem lef_fit {A : AS} {k : Nat} (h : aCm A k < aCm A (k + 1)) : 0 ≤ aLf A k (aCm A k) (aCm A (k + 1)) := by
  have f := prd_fit (A_v A) (A_w A) (aH A) k
  have e := slot_sum A k (g_W (A_g A)) (Nat.le_refl _)
  have e' : sumF (fun j => if c_sl (prd (A_v A) (A_w A) (aH A)) j = (k : Int) then v_wd (A_v A) j + 1 else 0) (v_W (A_v A)) = _ := e
  have n := aN_eq A
  have le := aCm_le A (k + 1)
  rw [e', sum_sF (fun i => apw A i + 1), sF_one, show min (cpL (c_sl (aC A)) (g_W (A_g A))).toNat (aCm A (k + 1)) = aCm A (k + 1) by omega] at f
  have rg := sF_rg (apw_rg A) (aCm A (k + 1) - aCm A k) (aCm A k)
  have f' : sF (apw A) (aCm A (k + 1) - aCm A k) (aCm A k) + ((aCm A (k + 1) - aCm A k : Nat) : Int) ≤ 0 ∨ sF (apw A) (aCm A (k + 1) - aCm A k) (aCm A k) + ((aCm A (k + 1) - aCm A k : Nat) : Int) - 1 ≤ s_ri (aS A) k - s_le (aS A) k := f
  unfold aLf lefF
  omega
theorem tD_some (A : AS) : ∀ k, tD A k (aCm A k) ≠ none := by
  intro k
  induction k with
  | zero =>
    have z0 : aCm A 0 = 0 := by
      have := aCm_eq A 0
      have z := cmL_0 (c_sl (aC A)) (g_W (A_g A))
      rw [show (((0 : Nat) : Int)) = 0 from rfl, z] at this
      omega
    rw [z0]
    show (if (0 : Nat) = 0 then some ((0 : Int), (1 : Int)) else none) ≠ none
    rw [if_pos rfl]; exact fun z => by cases z
  | succ k ih =>
    have mo := aCm_mono A (show k ≤ k + 1 by omega)
    show ofS (fun f => ofr A k f (aCm A (k + 1)) (tD A k f)) (aCm A (k + 1)) (tD A k (aCm A (k + 1))) ≠ none
    by_cases c : aCm A k = aCm A (k + 1)
    · rw [← c]; exact ofS_l _ _ ih
    · refine ofS_r (i := aCm A k) ?_ _ _ (by omega)
      cases e : tD A k (aCm A k) with
      | none => exact absurd e ih
      | some p =>
        show (if 0 ≤ aLf A k (aCm A k) (aCm A (k + 1)) then some _ else none) ≠ none
        rw [if_pos (lef_fit (by omega))]; exact fun z => by cases z
theorem aLf_dec {A : AS} {k f e : Nat} (h : f ≤ e) : aLf A k f (e + 1) ≤ aLf A k f e := by
  have b := apw_rg A e
  unfold aLf lefF
  rw [show e + 1 - f = (e - f) + 1 by omega, sF_snoc, show f + (e - f) = e by omega]
  omega
theorem aLf_neg {A : AS} {k f e : Nat} (h : f ≤ e) (hn : aLf A k f e < 0) : ∀ m, aLf A k f (e + m) < 0 := by
  intro m
  induction m with
  | zero => exact hn
  | succ m ih => have := aLf_dec (A := A) (k := k) (f := f) (e := e + m) (by omega); rw [show e + (m + 1) = e + m + 1 by omega]; omega
theorem ofr_neg {A : AS} {k f e : Nat} (h : aLf A k f e < 0) (o : OW) : ofr A k f e o = none := by
  cases o with
  | none => rfl
  | some p =>
    show (if 0 ≤ aLf A k f e then some _ else none) = none
    rw [if_neg (by omega)]
