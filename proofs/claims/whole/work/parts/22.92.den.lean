/-! HEAPS MADE OF LISTS, for the constructors: class, length, ints, references -/
abbrev Ce : Type := Nat × Nat × List Int × List Nat
def ce0 : Ce := (0, 0, [], [])
def den (L : Nat) (xs : Nat → Int32) (c : List Ce) : PH :=
  (64 + c.length, fun q => if q < 64 then CLf q else (c.getD (q - 64) ce0).1, fun q => if q < 64 then (if q = 62 then L else 0) else (c.getD (q - 64) ce0).2.1,
   fun q j => if q < 64 then (if q = 62 ∧ j < L then (xs j).toInt else 0) else (c.getD (q - 64) ce0).2.2.1.getD j 0, fun _ _ => 0, fun q j => if q < 64 then 0 else (c.getD (q - 64) ce0).2.2.2.getD j 0)
theorem den_0 (L : Nat) (xs : Nat → Int32) : den L xs [] = h_0 L xs := by
  refine PH_ext rfl (fun q => ?_) (fun q => ?_) (fun q k => ?_) (fun _ _ => rfl) (fun q k => ?_)
  · show (if q < 64 then CLf q else ([].getD (q - 64) ce0).1) = if q < 64 then CLf q else 0
    split <;> rfl
  · show (if q < 64 then (if q = 62 then L else 0) else ([].getD (q - 64) ce0).2.1) = if q = 62 then L else 0
    split
    · rfl
    · rw [if_neg (by omega)]; rfl
  · show (if q < 64 then (if q = 62 ∧ k < L then (xs k).toInt else 0) else ([].getD (q - 64) ce0).2.2.1.getD k 0) = if q = 62 ∧ k < L then (xs k).toInt else 0
    split
    · rfl
    · rw [if_neg (by omega)]; rfl
  · show (if q < 64 then 0 else ([].getD (q - 64) ce0).2.2.2.getD k 0) = 0
    split <;> rfl
/-- a list's place is v (grown by d, if it must) -/
def pu {α : Type} (d : α) : List α → Nat → α → List α
  | [], 0, v => [v]
  | [], k + 1, v => d :: pu d [] k v
  | _ :: l, 0, v => v :: l
  | a :: l, k + 1, v => a :: pu d l k v
theorem pu_at {α : Type} (d v : α) : ∀ (l : List α) (k j : Nat), (pu d l k v).getD j d = if j = k then v else l.getD j d := by
  intro l
  induction l with
  | nil =>
    intro k
    induction k with
    | zero => intro j; cases j <;> simp [pu]
    | succ k ih => intro j; cases j with
      | zero => simp [pu]
      | succ j =>
        have := ih j
        simp only [pu, List.getD_cons_succ, this]
        simp
  | cons a l ih =>
    intro k j
    cases k with
    | zero => cases j <;> simp [pu]
    | succ k => cases j with
      | zero => simp [pu]
      | succ j => simp only [pu, List.getD_cons_succ, ih k j]; simp
def md (c : List Ce) (i : Nat) (f : Ce → Ce) : List Ce := match c, i with
  | [], _ => []
  | a :: l, 0 => f a :: l
  | a :: l, i + 1 => a :: md l i f
theorem md_len (c : List Ce) (i : Nat) (f : Ce → Ce) : (md c i f).length = c.length := by
  induction c generalizing i with
  | nil => rfl
  | cons a l ih => cases i <;> simp [md, ih]
theorem md_at (c : List Ce) (i : Nat) (f : Ce → Ce) (j : Nat) (hi : i < c.length) : (md c i f).getD j ce0 = if j = i then f (c.getD i ce0) else c.getD j ce0 := by
  induction c generalizing i j with
  | nil => simp at hi
  | cons a l ih =>
    cases i with
    | zero => cases j <;> simp [md]
    | succ i => cases j with
      | zero => simp [md]
      | succ j =>
        have := ih i j (by simpa using hi)
        simp only [md, List.getD_cons_succ, this]
        simp
def pI (c : List Ce) (i k : Nat) (v : Int) : List Ce := md c i (fun e => (e.1, e.2.1, pu 0 e.2.2.1 k v, e.2.2.2))
def pR (c : List Ce) (i k v : Nat) : List Ce := md c i (fun e => (e.1, e.2.1, e.2.2.1, pu 0 e.2.2.2 k v))
theorem den_nw {L : Nat} {xs : Nat → Int32} (c : List Ce) (k n : Nat) : nw (den L xs c) k n = den L xs (c ++ [(k, n, [], [])]) := by
  have hx : nx (den L xs c) = 64 + c.length := rfl
  have hq : ∀ q, ¬ q < 64 → (c ++ [(k, n, [], [])]).getD (q - 64) ce0 = if q = 64 + c.length then (k, n, [], []) else c.getD (q - 64) ce0 := by
    intro q h
    rw [List.getD_eq_getElem?_getD, List.getD_eq_getElem?_getD]
    rcases Nat.lt_trichotomy (q - 64) c.length with z | z | z
    · rw [List.getElem?_append_left z, if_neg (by omega)]
    · rw [if_pos (by omega), z]; simp
    · rw [if_neg (by omega), List.getElem?_eq_none (by simp; omega), List.getElem?_eq_none (by omega)]
  refine PH_ext ?_ (fun q => ?_) (fun q => ?_) (fun q j => ?_) (fun q j => ?_) (fun q j => ?_)
  · show 64 + c.length + 1 = 64 + (c ++ [(k, n, [], [])]).length
    simp; omega
  · show (if q = 64 + c.length then k else cl (den L xs c) q) = if q < 64 then CLf q else ((c ++ [(k, n, [], [])]).getD (q - 64) ce0).1
    by_cases h : q < 64
    · rw [if_neg (by omega), if_pos h]; show (if q < 64 then CLf q else _) = _; rw [if_pos h]
    · rw [if_neg h, hq q h]
      split
      · rfl
      · show (if q < 64 then CLf q else _) = _; rw [if_neg h]
  · show (if q = 64 + c.length then n else ln (den L xs c) q) = if q < 64 then (if q = 62 then L else 0) else ((c ++ [(k, n, [], [])]).getD (q - 64) ce0).2.1
    by_cases h : q < 64
    · rw [if_neg (by omega), if_pos h]; show (if q < 64 then (if q = 62 then L else 0) else _) = _; rw [if_pos h]
    · rw [if_neg h, hq q h]
      split
      · rfl
      · show (if q < 64 then (if q = 62 then L else 0) else _) = _; rw [if_neg h]
  · show (up1 (gi (den L xs c)) (64 + c.length) (fun _ => 0)) q j = if q < 64 then (if q = 62 ∧ j < L then (xs j).toInt else 0) else ((c ++ [(k, n, [], [])]).getD (q - 64) ce0).2.2.1.getD j 0
    unfold up1
    by_cases h : q < 64
    · rw [if_neg (by omega), if_pos h]; show (if q < 64 then (if q = 62 ∧ j < L then (xs j).toInt else 0) else _) = _; rw [if_pos h]
    · rw [if_neg h, hq q h]
      split
      · rfl
      · show (if q < 64 then (if q = 62 ∧ j < L then (xs j).toInt else 0) else _) = _; rw [if_neg h]
  · show (up1 (gj (den L xs c)) (64 + c.length) (fun _ => 0)) q j = 0
    unfold up1
    split <;> rfl
  · show (up1 (gr (den L xs c)) (64 + c.length) (fun _ => 0)) q j = if q < 64 then 0 else ((c ++ [(k, n, [], [])]).getD (q - 64) ce0).2.2.2.getD j 0
    unfold up1
    by_cases h : q < 64
    · rw [if_neg (by omega), if_pos h]; show (if q < 64 then 0 else _) = _; rw [if_pos h]
    · rw [if_neg h, hq q h]
      split
      · rfl
      · show (if q < 64 then 0 else _) = _; rw [if_neg h]
theorem den_si {L : Nat} {xs : Nat → Int32} (c : List Ce) (i k : Nat) (v : Int) (hi : i < c.length) : si (den L xs c) (64 + i) k v = den L xs (pI c i k v) := by
  refine PH_ext ?_ (fun q => ?_) (fun q => ?_) (fun q j => ?_) (fun _ _ => rfl) (fun q j => ?_)
  · show 64 + c.length = 64 + (pI c i k v).length
    unfold pI; rw [md_len]
  · show (if q < 64 then CLf q else (c.getD (q - 64) ce0).1) = if q < 64 then CLf q else ((pI c i k v).getD (q - 64) ce0).1
    unfold pI; rw [md_at _ _ _ _ hi]
    split
    · rfl
    · split
      · rename_i e; rw [e]
      · rfl
  · show (if q < 64 then _ else (c.getD (q - 64) ce0).2.1) = if q < 64 then _ else ((pI c i k v).getD (q - 64) ce0).2.1
    unfold pI; rw [md_at _ _ _ _ hi]
    split
    · rfl
    · split
      · rename_i e; rw [e]
      · rfl
  · rw [gi_si]
    show (if q = 64 + i ∧ j = k then v else if q < 64 then _ else (c.getD (q - 64) ce0).2.2.1.getD j 0) = if q < 64 then _ else ((pI c i k v).getD (q - 64) ce0).2.2.1.getD j 0
    unfold pI; rw [md_at _ _ _ _ hi]
    by_cases h : q < 64
    · rw [if_neg (by omega), if_pos h, if_pos h]
    · rw [if_neg h, if_neg h]
      by_cases e : q - 64 = i
      · rw [if_pos e, pu_at, e]
        by_cases e2 : j = k
        · rw [if_pos (by omega), if_pos e2]
        · rw [if_neg (by omega), if_neg e2]
      · rw [if_neg (by omega), if_neg e]
  · show (if q < 64 then 0 else (c.getD (q - 64) ce0).2.2.2.getD j 0) = if q < 64 then 0 else ((pI c i k v).getD (q - 64) ce0).2.2.2.getD j 0
    unfold pI; rw [md_at _ _ _ _ hi]
    split
    · rfl
    · split
      · rename_i e; rw [e]
      · rfl
theorem den_sr {L : Nat} {xs : Nat → Int32} (c : List Ce) (i k v : Nat) (hi : i < c.length) : sr (den L xs c) (64 + i) k v = den L xs (pR c i k v) := by
  refine PH_ext ?_ (fun q => ?_) (fun q => ?_) (fun q j => ?_) (fun _ _ => rfl) (fun q j => ?_)
  · show 64 + c.length = 64 + (pR c i k v).length
    unfold pR; rw [md_len]
  · show (if q < 64 then CLf q else (c.getD (q - 64) ce0).1) = if q < 64 then CLf q else ((pR c i k v).getD (q - 64) ce0).1
    unfold pR; rw [md_at _ _ _ _ hi]
    split
    · rfl
    · split
      · rename_i e; rw [e]
      · rfl
  · show (if q < 64 then _ else (c.getD (q - 64) ce0).2.1) = if q < 64 then _ else ((pR c i k v).getD (q - 64) ce0).2.1
    unfold pR; rw [md_at _ _ _ _ hi]
    split
    · rfl
    · split
      · rename_i e; rw [e]
      · rfl
  · show (if q < 64 then _ else (c.getD (q - 64) ce0).2.2.1.getD j 0) = if q < 64 then _ else ((pR c i k v).getD (q - 64) ce0).2.2.1.getD j 0
    unfold pR; rw [md_at _ _ _ _ hi]
    split
    · rfl
    · split
      · rename_i e; rw [e]
      · rfl
  · rw [sr_gr]
    show (if q = 64 + i ∧ j = k then v else if q < 64 then 0 else (c.getD (q - 64) ce0).2.2.2.getD j 0) = if q < 64 then 0 else ((pR c i k v).getD (q - 64) ce0).2.2.2.getD j 0
    unfold pR; rw [md_at _ _ _ _ hi]
    by_cases h : q < 64
    · rw [if_neg (by omega), if_pos h, if_pos h]
    · rw [if_neg h, if_neg h]
      by_cases e : q - 64 = i
      · rw [if_pos e, pu_at, e]
        by_cases e2 : j = k
        · rw [if_pos (by omega), if_pos e2]
        · rw [if_neg (by omega), if_neg e2]
      · rw [if_neg (by omega), if_neg e]
theorem den_sj0 {L : Nat} {xs : Nat → Int32} (c : List Ce) (p k : Nat) : sj (den L xs c) p k 0 = den L xs c := by
  refine PH_ext rfl (fun _ => rfl) (fun _ => rfl) (fun _ _ => rfl) (fun q j => ?_) (fun _ _ => rfl)
  rw [gj_sj]; split <;> rfl
theorem den_cl {L : Nat} {xs : Nat → Int32} (c : List Ce) (i : Nat) : cl (den L xs c) (64 + i) = (c.getD i ce0).1 := by
  show (if 64 + i < 64 then _ else (c.getD (64 + i - 64) ce0).1) = _
  rw [if_neg (by omega), show 64 + i - 64 = i by omega]
theorem den_ln {L : Nat} {xs : Nat → Int32} (c : List Ce) (i : Nat) : ln (den L xs c) (64 + i) = (c.getD i ce0).2.1 := by
  show (if 64 + i < 64 then _ else (c.getD (64 + i - 64) ce0).2.1) = _
  rw [if_neg (by omega), show 64 + i - 64 = i by omega]
theorem den_gr {L : Nat} {xs : Nat → Int32} (c : List Ce) (i k : Nat) : gr (den L xs c) (64 + i) k = (c.getD i ce0).2.2.2.getD k 0 := by
  show (if 64 + i < 64 then _ else (c.getD (64 + i - 64) ce0).2.2.2.getD k 0) = _
  rw [if_neg (by omega), show 64 + i - 64 = i by omega]
theorem den_gi {L : Nat} {xs : Nat → Int32} (c : List Ce) (i k : Nat) : gi (den L xs c) (64 + i) k = (c.getD i ce0).2.2.1.getD k 0 := by
  show (if 64 + i < 64 then _ else (c.getD (64 + i - 64) ce0).2.2.1.getD k 0) = _
  rw [if_neg (by omega), show 64 + i - 64 = i by omega]
theorem den_nx {L : Nat} {xs : Nat → Int32} (c : List Ce) : nx (den L xs c) = 64 + c.length := rfl
theorem pI_len (c : List Ce) (i k : Nat) (v : Int) : (pI c i k v).length = c.length := md_len _ _ _
theorem pR_len (c : List Ce) (i k v : Nat) : (pR c i k v).length = c.length := md_len _ _ _
