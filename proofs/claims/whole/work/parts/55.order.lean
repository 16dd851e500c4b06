/-! WHAT IS POURED, IN ORDER -/
theorem sumF_upd {f : Nat → Int} {n : Nat} : ∀ {g : Nat → Int}, (∀ j, j < n → g j = f j) → sumF g n = sumF f n := fun {g} e => sum_ext n e
/-- words and slots, while they are poured -/
def FI (c : CF) : Prop := (∀ j, c_w c ≤ j → c_sl c j = -1) ∧ (∀ j, c_sl c j = -1 ∨ (0 ≤ c_sl c j ∧ c_sl c j ≤ c_k c)) ∧ (∀ i j, i < j → 0 ≤ c_sl c i → 0 ≤ c_sl c j → c_sl c i ≤ c_sl c j) ∧ (∀ k : Nat, c_ct c k = sumF (fun j => if c_sl c j = (k : Int) then 1 else 0) (c_w c)) ∧ (c_n c : Int) = sumF (fun j => if 0 ≤ c_sl c j then 1 else 0) (c_w c)
theorem FI_0 (L : SL) : FI (cf0 L) := by
  refine ⟨fun j _ => rfl, fun j => Or.inl rfl, fun i j _ h => ?_, fun k => rfl, rfl⟩
  exact absurd h (by show ¬ (0 : Int) ≤ -1; omega)
theorem FI_stp {v : VW} {L : SL} {c : CF} (I : FI c) : FI (stp v L c) := by
  obtain ⟨i1, i2, i3, i4, i5⟩ := I
  unfold stp
  split
  · split
    · refine ⟨fun j hj => i1 j (by show c_w c ≤ j; have : c_w c + 1 ≤ j := hj; omega), i2, i3, fun k => ?_, ?_⟩
      · show c_ct c k = sumF (fun j => if c_sl c j = (k : Int) then 1 else 0) (c_w c) + (if c_sl c (c_w c) = (k : Int) then 1 else 0)
        rw [i1 (c_w c) (Nat.le_refl _), if_neg (by omega), i4 k]; omega
      · show (c_n c : Int) = sumF (fun j => if 0 ≤ c_sl c j then 1 else 0) (c_w c) + (if 0 ≤ c_sl c (c_w c) then 1 else 0)
        rw [i1 (c_w c) (Nat.le_refl _), if_neg (by omega), i5]; omega
    · split
      · refine ⟨fun j hj => ?_, fun j => ?_, fun i j hij h1 h2 => ?_, fun k => ?_, ?_⟩
        · have hj2 : c_w c + 1 ≤ j := hj
          show upf (c_sl c) (c_w c) (c_k c : Int) j = -1
          unfold upf; rw [if_neg (by omega)]; exact i1 j (by omega)
        · show upf (c_sl c) (c_w c) (c_k c : Int) j = -1 ∨ (0 ≤ upf (c_sl c) (c_w c) (c_k c : Int) j ∧ upf (c_sl c) (c_w c) (c_k c : Int) j ≤ c_k c)
          unfold upf
          split
          · right; omega
          · exact i2 j
        · have g1 : 0 ≤ upf (c_sl c) (c_w c) (c_k c : Int) i := h1
          have g2 : 0 ≤ upf (c_sl c) (c_w c) (c_k c : Int) j := h2
          show upf (c_sl c) (c_w c) (c_k c : Int) i ≤ upf (c_sl c) (c_w c) (c_k c : Int) j
          unfold upf at g1 g2 ⊢
          by_cases e1 : i = c_w c
          · rw [if_pos e1] at g1 ⊢
            rw [if_neg (by omega)] at g2
            have := i1 j (by omega)
            omega
          · rw [if_neg e1] at g1 ⊢
            by_cases e2 : j = c_w c
            · rw [if_pos e2]
              rcases i2 i with z | z
              · omega
              · exact z.2
            · rw [if_neg e2] at g2 ⊢; exact i3 i j hij g1 g2
        · show upf (c_ct c) (c_k c) (c_ct c (c_k c) + 1) k = sumF _ (c_w c) + (if upf (c_sl c) (c_w c) (c_k c : Int) (c_w c) = (k : Int) then 1 else 0)
          have e : sumF (fun j => if upf (c_sl c) (c_w c) (c_k c : Int) j = (k : Int) then 1 else 0) (c_w c) = sumF (fun j => if c_sl c j = (k : Int) then 1 else 0) (c_w c) :=
            sum_ext _ (fun j hj => by unfold upf; rw [if_neg (show ¬ j = c_w c by omega)])
          show upf (c_ct c) (c_k c) (c_ct c (c_k c) + 1) k = sumF (fun j => if upf (c_sl c) (c_w c) (c_k c : Int) j = (k : Int) then 1 else 0) (c_w c) + _
          rw [e, ← i4 k]
          have e2 : upf (c_sl c) (c_w c) (c_k c : Int) (c_w c) = (c_k c : Int) := by unfold upf; rw [if_pos rfl]
          rw [e2]
          unfold upf
          by_cases z : k = c_k c
          · rw [if_pos z, if_pos (by omega), z]
          · rw [if_neg z, if_neg (by omega)]; omega
        · have e : sumF (fun j => if 0 ≤ upf (c_sl c) (c_w c) (c_k c : Int) j then 1 else 0) (c_w c) = sumF (fun j => if 0 ≤ c_sl c j then 1 else 0) (c_w c) :=
            sum_ext _ (fun j hj => by unfold upf; rw [if_neg (show ¬ j = c_w c by omega)])
          show ((c_n c + 1 : Nat) : Int) = sumF (fun j => if 0 ≤ upf (c_sl c) (c_w c) (c_k c : Int) j then 1 else 0) (c_w c) + (if 0 ≤ upf (c_sl c) (c_w c) (c_k c : Int) (c_w c) then 1 else 0)
          have e2 : upf (c_sl c) (c_w c) (c_k c : Int) (c_w c) = (c_k c : Int) := by unfold upf; rw [if_pos rfl]
          rw [e, e2, ← i5, if_pos (by omega)]; omega
      · refine ⟨i1, fun j => ?_, i3, i4, i5⟩
        rcases i2 j with z | z
        · exact Or.inl z
        · right; refine ⟨z.1, ?_⟩; show c_sl c j ≤ ((c_k c + 1 : Nat) : Int); have := z.2; omega
  · exact ⟨i1, i2, i3, i4, i5⟩
theorem cw_stp {v : VW} {L : SL} {c : CF} (h : c_w c ≤ v_W v) : c_w (stp v L c) ≤ v_W v := by
  unfold stp
  split
  · rename_i z
    split
    · show c_w c + 1 ≤ _; omega
    · split
      · show c_w c + 1 ≤ _; omega
      · exact h
  · exact h
theorem FI_prd (v : VW) (wi : Int) (ht : Nat → Int) : FI (prd v wi ht) ∧ c_w (prd v wi ht) ≤ v_W v :=
  itr_inv (P := fun c => FI c ∧ c_w c ≤ v_W v) (fun c hc => ⟨FI_stp hc.1, cw_stp hc.2⟩) _ _ ⟨FI_0 _, Nat.zero_le _⟩
/-- sums over more words than are gone through -/
theorem sum_more {f : Nat → Int} {m : Nat} (h : ∀ j, m ≤ j → f j = 0) : ∀ n, m ≤ n → sumF f n = sumF f m := by
  intro n hn
  obtain ⟨k, rfl⟩ : ∃ k, n = m + k := ⟨n - m, by omega⟩
  induction k with
  | zero => rfl
  | succ k ih =>
    show sumF f (m + k) + f (m + k) = _
    rw [ih (by omega), h _ (by omega)]; omega
theorem prd_ct (v : VW) (wi : Int) (ht : Nat → Int) (k : Nat) : c_ct (prd v wi ht) k = sumF (fun j => if c_sl (prd v wi ht) j = (k : Int) then 1 else 0) (v_W v) := by
  obtain ⟨⟨i1, i2, i3, i4, i5⟩, hw⟩ := FI_prd v wi ht
  rw [i4 k, sum_more (m := c_w (prd v wi ht)) (fun j hj => by rw [i1 j hj, if_neg (by omega)]) _ hw]
theorem prd_n (v : VW) (wi : Int) (ht : Nat → Int) : (c_n (prd v wi ht) : Int) = sumF (fun j => if 0 ≤ c_sl (prd v wi ht) j then 1 else 0) (v_W v) := by
  obtain ⟨⟨i1, i2, i3, i4, i5⟩, hw⟩ := FI_prd v wi ht
  rw [i5, sum_more (m := c_w (prd v wi ht)) (fun j hj => by rw [i1 j hj, if_neg (by omega)]) _ hw]
theorem prd_mono (v : VW) (wi : Int) (ht : Nat → Int) {i j : Nat} (hij : i ≤ j) (h1 : 0 ≤ c_sl (prd v wi ht) i) (h2 : 0 ≤ c_sl (prd v wi ht) j) : c_sl (prd v wi ht) i ≤ c_sl (prd v wi ht) j := by
  by_cases e : i = j
  · rw [e]; exact Int.le_refl _
  · exact (FI_prd v wi ht).1.2.2.1 i j (by omega) h1 h2
/-- how many of the first w lie in a slot below k -/
def cmL (sl : Nat → Int) (k : Int) (w : Nat) : Int := sumF (fun j => if 0 ≤ sl j ∧ sl j < k then 1 else 0) w
def cpL (sl : Nat → Int) (w : Nat) : Int := sumF (fun j => if 0 ≤ sl j then 1 else 0) w
theorem cmL_succ (sl : Nat → Int) (k : Nat) : ∀ w, cmL sl ((k + 1 : Nat) : Int) w = cmL sl (k : Int) w + sumF (fun j => if sl j = (k : Int) then 1 else 0) w := by
  intro w
  induction w with
  | zero => rfl
  | succ w ih =>
    show cmL sl _ w + (if 0 ≤ sl w ∧ sl w < ((k + 1 : Nat) : Int) then 1 else 0) = (cmL sl _ w + (if 0 ≤ sl w ∧ sl w < (k : Int) then 1 else 0)) + (sumF _ w + (if sl w = (k : Int) then 1 else 0))
    rw [ih]
    by_cases z : sl w = (k : Int)
    · rw [if_pos (by omega), if_neg (by omega), if_pos z]; omega
    · rw [if_neg z]
      by_cases y : 0 ≤ sl w ∧ sl w < (k : Int)
      · rw [if_pos (by omega), if_pos y]; omega
      · rw [if_neg (by omega), if_neg y]; omega
theorem cmL_0 (sl : Nat → Int) : ∀ w, cmL sl 0 w = 0 := by
  intro w
  induction w with
  | zero => rfl
  | succ w ih =>
    show cmL sl 0 w + (if 0 ≤ sl w ∧ sl w < 0 then 1 else 0) = 0
    rw [ih, if_neg (by omega)]; rfl
/-- sorted: what lies below the slot of w lies ahead of w -/
theorem cmL_at {sl : Nat → Int} (hm : ∀ i j, i ≤ j → 0 ≤ sl i → 0 ≤ sl j → sl i ≤ sl j) {w : Nat} {k : Int} (h0 : 0 ≤ sl w) (hk : k ≤ sl w) : ∀ n, w ≤ n → cmL sl k n = cmL sl k w := by
  intro n hn
  obtain ⟨m, rfl⟩ : ∃ m, n = w + m := ⟨n - w, by omega⟩
  induction m with
  | zero => rfl
  | succ m ih =>
    show cmL sl k (w + m) + (if 0 ≤ sl (w + m) ∧ sl (w + m) < k then 1 else 0) = _
    rw [ih (by omega)]
    by_cases z : 0 ≤ sl (w + m)
    · have := hm w (w + m) (by omega) h0 z
      rw [if_neg (by omega)]; omega
    · rw [if_neg (by omega)]; omega
theorem cmL_all {sl : Nat → Int} {k : Int} : ∀ w, (∀ j, j < w → 0 ≤ sl j → sl j < k) → cmL sl k w = cpL sl w := by
  intro w
  induction w with
  | zero => intro _; rfl
  | succ w ih =>
    intro h
    show cmL sl k w + (if 0 ≤ sl w ∧ sl w < k then 1 else 0) = cpL sl w + (if 0 ≤ sl w then 1 else 0)
    rw [ih (fun j hj => h j (by omega))]
    by_cases z : 0 ≤ sl w
    · have := h w (by omega) z
      rw [if_pos ⟨z, this⟩, if_pos z]
    · rw [if_neg (by omega), if_neg z]
