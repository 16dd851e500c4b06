/-! THE SETTING, as both sides work it out -/
abbrev SL : Type := List (Nat × Int × Int)
/-- the slots of the first n lines -/
def slt (v : VW) (wi : Int) (ht : Nat → Int) : Nat → SL
  | 0 => []
  | n + 1 => slt v wi ht n ++ (cutS wi (v_le v) (spl v ht n (v_S v))).map (fun a => (n, a.1, a.2))
def s_li (L : SL) (k : Nat) : Nat := (L.getD k (0, 0, 0)).1
def s_le (L : SL) (k : Nat) : Int := (L.getD k (0, 0, 0)).2.1
def s_ri (L : SL) (k : Nat) : Int := (L.getD k (0, 0, 0)).2.2
theorem getD_app {α : Type} (L M : List α) (d : α) {k : Nat} (h : k < L.length) : (L ++ M).getD k d = L.getD k d := by
  rw [List.getD_eq_getElem?_getD, List.getD_eq_getElem?_getD, List.getElem?_append_left h]
theorem getD_app2 {α : Type} (L M : List α) (d : α) (k : Nat) : (L ++ M).getD (L.length + k) d = M.getD k d := by
  rw [List.getD_eq_getElem?_getD, List.getD_eq_getElem?_getD, List.getElem?_append_right (by omega), show L.length + k - L.length = k by omega]
theorem slt_pre (v : VW) (wi : Int) (ht : Nat → Int) {n m : Nat} (h : n ≤ m) : ∃ t, slt v wi ht m = slt v wi ht n ++ t := by
  induction m with
  | zero => exact ⟨[], by rw [show n = 0 by omega]; simp⟩
  | succ m ih =>
    by_cases e : n = m + 1
    · subst e; exact ⟨[], by simp⟩
    · obtain ⟨t, ht'⟩ := ih (by omega)
      exact ⟨t ++ (cutS wi (v_le v) (spl v ht m (v_S v))).map (fun a => (m, a.1, a.2)), by rw [← List.append_assoc, ← ht']; rfl⟩
theorem slt_le (v : VW) (wi : Int) (ht : Nat → Int) {n m : Nat} (h : n ≤ m) : (slt v wi ht n).length ≤ (slt v wi ht m).length := by
  obtain ⟨t, e⟩ := slt_pre v wi ht h
  rw [e]; simp
theorem slt_at (v : VW) (wi : Int) (ht : Nat → Int) {n m k : Nat} (h : n ≤ m) (hk : k < (slt v wi ht n).length) : (slt v wi ht m).getD k (0, 0, 0) = (slt v wi ht n).getD k (0, 0, 0) := by
  obtain ⟨t, e⟩ := slt_pre v wi ht h
  rw [e, getD_app _ _ _ hk]
def upf (f : Nat → Int) (k : Nat) (v : Int) : Nat → Int := fun j => if j = k then v else f j
/-- the word that is next, the slot, the place in it; slots, lefts of words, words of slots, how many have a place -/
abbrev CF : Type := Nat × Nat × Int × (Nat → Int) × (Nat → Int) × (Nat → Int) × Nat
def c_w (c : CF) : Nat := c.1
def c_k (c : CF) : Nat := c.2.1
def c_a (c : CF) : Int := c.2.2.1
def c_sl (c : CF) : Nat → Int := c.2.2.2.1
def c_lf (c : CF) : Nat → Int := c.2.2.2.2.1
def c_ct (c : CF) : Nat → Int := c.2.2.2.2.2.1
def c_n (c : CF) : Nat := c.2.2.2.2.2.2
def stp (v : VW) (L : SL) (c : CF) : CF :=
  if c_w c < v_W v ∧ c_k c < L.length then
    if v_hd v (c_w c) = true then (c_w c + 1, c_k c, c_a c, c_sl c, c_lf c, c_ct c, c_n c)
    else if c_a c + v_wd v (c_w c) ≤ s_ri L (c_k c) then (c_w c + 1, c_k c, c_a c + v_wd v (c_w c) + 1, upf (c_sl c) (c_w c) (c_k c), upf (c_lf c) (c_w c) (c_a c), upf (c_ct c) (c_k c) (c_ct c (c_k c) + 1), c_n c + 1)
    else (c_w c, c_k c + 1, s_le L (c_k c + 1), c_sl c, c_lf c, c_ct c, c_n c)
  else c
def itr (v : VW) (L : SL) : Nat → CF → CF
  | 0, c => c
  | n + 1, c => itr v L n (stp v L c)
def fnl (v : VW) (L : SL) (c : CF) : CF := itr v L ((v_W v - c_w c) + (L.length - c_k c)) c
theorem itr_end {v : VW} {L : SL} {c : CF} (h : ¬ (c_w c < v_W v ∧ c_k c < L.length)) (n : Nat) : itr v L n c = c := by
  induction n with
  | zero => rfl
  | succ n ih =>
    unfold itr
    rw [show stp v L c = c by unfold stp; rw [if_neg h]]
    exact ih
theorem fnl_end {v : VW} {L : SL} {c : CF} (h : ¬ (c_w c < v_W v ∧ c_k c < L.length)) : fnl v L c = c := itr_end h _
theorem fnl_hid {v : VW} {L : SL} {w k n : Nat} {a : Int} {f g e : Nat → Int} (h1 : w < v_W v) (h2 : k < L.length) (h3 : v_hd v w = true) : fnl v L (w, k, a, f, g, e, n) = fnl v L (w + 1, k, a, f, g, e, n) := by
  unfold fnl
  show itr v L ((v_W v - w) + (L.length - k)) _ = itr v L ((v_W v - (w + 1)) + (L.length - k)) _
  rw [show (v_W v - w) + (L.length - k) = ((v_W v - (w + 1)) + (L.length - k)) + 1 by omega]
  show itr v L _ (stp v L _) = _
  congr 1
  unfold stp
  rw [if_pos ⟨h1, h2⟩]
  exact if_pos h3
theorem fnl_put {v : VW} {L : SL} {w k n : Nat} {a : Int} {f g e : Nat → Int} (h1 : w < v_W v) (h2 : k < L.length) (h3 : v_hd v w = false) (h4 : a + v_wd v w ≤ s_ri L k) : fnl v L (w, k, a, f, g, e, n) = fnl v L (w + 1, k, a + v_wd v w + 1, upf f w k, upf g w a, upf e k (e k + 1), n + 1) := by
  unfold fnl
  show itr v L ((v_W v - w) + (L.length - k)) _ = itr v L ((v_W v - (w + 1)) + (L.length - k)) _
  rw [show (v_W v - w) + (L.length - k) = ((v_W v - (w + 1)) + (L.length - k)) + 1 by omega]
  show itr v L _ (stp v L _) = _
  congr 1
  unfold stp
  rw [if_pos ⟨h1, h2⟩]
  have h5 : ¬ v_hd v w = true := by rw [h3]; decide
  exact (if_neg h5).trans (if_pos h4)
theorem fnl_nxt {v : VW} {L : SL} {w k n : Nat} {a : Int} {f g e : Nat → Int} (h1 : w < v_W v) (h2 : k < L.length) (h3 : v_hd v w = false) (h4 : s_ri L k < a + v_wd v w) : fnl v L (w, k, a, f, g, e, n) = fnl v L (w, k + 1, s_le L (k + 1), f, g, e, n) := by
  unfold fnl
  show itr v L ((v_W v - w) + (L.length - k)) _ = itr v L ((v_W v - w) + (L.length - (k + 1))) _
  rw [show (v_W v - w) + (L.length - k) = ((v_W v - w) + (L.length - (k + 1))) + 1 by omega]
  show itr v L _ (stp v L _) = _
  congr 1
  unfold stp
  rw [if_pos ⟨h1, h2⟩]
  have h5 : ¬ v_hd v w = true := by rw [h3]; decide
  exact (if_neg h5).trans (if_neg (by show ¬ a + v_wd v w ≤ s_ri L k; omega))
def cf0 (L : SL) : CF := (0, 0, s_le L 0, fun _ => -1, fun _ => -1, fun _ => 0, 0)
/-- all slots; what is poured -/
def slA (v : VW) (wi : Int) (ht : Nat → Int) : SL := slt v wi ht (v_ln v)
def prd (v : VW) (wi : Int) (ht : Nat → Int) : CF := fnl v (slA v wi ht) (cf0 (slA v wi ht))
/-- the line of a word -/
def lnW (v : VW) (wi : Int) (ht : Nat → Int) (w : Int) : Int := if 0 ≤ w ∧ w < v_W v ∧ 0 ≤ c_sl (prd v wi ht) w.toNat then (s_li (slA v wi ht) (c_sl (prd v wi ht) w.toNat).toNat : Nat) else -1
def ht0 (v : VW) (asd : Int) (s : Nat) : Int := if (s : Int) = asd ∨ v_ti v s ≠ -1 then -1 else v_y v s
def htN (v : VW) (asd : Int) (pv : Nat → Int) (s : Nat) : Int := if (s : Int) = asd then -1 else if v_ti v s = -1 then v_y v s else if pv s < 0 then -1 else v_y v s + v_hi v * pv s
def rowS (v : VW) (wi asd : Int) (ht : Nat → Int) (s : Nat) : Int := if (s : Int) = asd then -1 else lnW v wi ht (v_ti v s)
/-- the heights of round k; the lines of round k -/
def hts (v : VW) (wi asd : Int) : Nat → Nat → Int
  | 0 => ht0 v asd
  | k + 1 => htN v asd (rowS v wi asd (hts v wi asd k))
def trl (v : VW) (wi asd : Int) (k : Nat) : Nat → Int := rowS v wi asd (hts v wi asd k)
def alk (v : VW) (wi asd : Int) (a b : Nat) : Bool := (List.range (v_S v)).all (fun s => decide (trl v wi asd a s = trl v wi asd b s))
theorem alk_iff {v : VW} {wi asd : Int} {a b : Nat} : alk v wi asd a b = true ↔ ∀ s, s < v_S v → trl v wi asd a s = trl v wi asd b s := by
  unfold alk
  rw [List.all_eq_true]
  constructor
  · intro h s hs; exact of_decide_eq_true (h s (List.mem_range.mpr hs))
  · intro h s hs; exact decide_eq_true (h s (List.mem_range.mp hs))
/-- the first of n from j on; -1 -/
def fst (P : Nat → Bool) : Nat → Nat → Int
  | 0, _ => -1
  | n + 1, j => if P j then (j : Int) else fst P n (j + 1)
theorem fst_rg (P : Nat → Bool) : ∀ n j : Nat, fst P n j = -1 ∨ (0 ≤ fst P n j ∧ fst P n j < (j + n : Nat)) := by
  intro n
  induction n with
  | zero => intro j; exact Or.inl rfl
  | succ n ih =>
    intro j
    unfold fst
    split
    · exact Or.inr ⟨by omega, by omega⟩
    · rcases ih (j + 1) with h | h
      · exact Or.inl h
      · exact Or.inr ⟨h.1, by omega⟩
/-- at round k: how it ends (2: it doesn't), the round it came back to -/
def resS (v : VW) (wi asd : Int) (k : Nat) : Int × Int :=
  if alk v wi asd k (k - 1) then (0, -1) else if fst (alk v wi asd k) (k - 1) 0 < 0 then (2, -1) else (1, fst (alk v wi asd k) (k - 1) 0)
def srS (v : VW) (wi asd : Int) : Nat → Nat → Nat × Int × Int
  | 0, k => (k, resS v wi asd k)
  | n + 1, k => if (resS v wi asd k).1 = 2 then srS v wi asd n (k + 1) else (k, resS v wi asd k)
def anyT (v : VW) (asd : Int) : Bool := (List.range (v_S v)).any (fun s => decide (v_ti v s ≠ -1) && decide ((s : Int) ≠ asd))
def setR (v : VW) (wi asd : Int) : Nat × Int × Int := if anyT v asd then srS v wi asd 59 1 else (0, 0, -1)
/-- the setting: its round, its heights, its slots, its words -/
def fR (v : VW) (wi asd : Int) : Nat := (setR v wi asd).1
def fH (v : VW) (wi asd : Int) : Nat → Int := hts v wi asd (fR v wi asd)
def fS (v : VW) (wi asd : Int) : SL := slA v wi (fH v wi asd)
def fC (v : VW) (wi asd : Int) : CF := prd v wi (fH v wi asd)
def fL (v : VW) (wi asd : Int) (w : Int) : Int := lnW v wi (fH v wi asd) w
theorem srS_rg (v : VW) (wi asd : Int) : ∀ n k : Nat, k ≤ (srS v wi asd n k).1 ∧ (srS v wi asd n k).1 ≤ k + n := by
  intro n
  induction n with
  | zero => intro k; exact ⟨Nat.le_refl _, Nat.le_refl _⟩
  | succ n ih =>
    intro k
    unfold srS
    split
    · have := ih (k + 1); omega
    · exact ⟨Nat.le_refl _, by show k ≤ _; omega⟩
theorem fR_le (v : VW) (wi asd : Int) : fR v wi asd ≤ 60 := by
  unfold fR setR
  split
  · have := srS_rg v wi asd 59 1; omega
  · exact Nat.zero_le _
