/-! THE TEXT: tokens, laws -/
abbrev TK : Type := Int × Nat × Nat × Int
def t_k (t : TK) : Int := t.1
def t_a (t : TK) : Nat := t.2.1
def t_b (t : TK) : Nat := t.2.2.1
def t_n (t : TK) : Int := t.2.2.2
def isB (c : Int) : Bool := decide (c = 10 ∨ c = 32)
def isL (c : Int) : Bool := decide (97 ≤ c ∧ c ≤ 122)
def isD (c : Int) : Bool := decide (48 ≤ c ∧ c ≤ 57)
/-- the first place from i on that is not so -/
def run (P : Int → Bool) (f : Nat → Int) (n : Nat) : Nat → Nat → Nat
  | 0, i => i
  | m + 1, i => if i < n ∧ P (f i) = true then run P f n m (i + 1) else i
theorem run_rg (P : Int → Bool) (f : Nat → Int) (n : Nat) : ∀ m i, i ≤ n → i ≤ run P f n m i ∧ run P f n m i ≤ n := by
  intro m
  induction m with
  | zero => intro i h; exact ⟨Nat.le_refl _, h⟩
  | succ m ih =>
    intro i h
    unfold run
    split
    · rename_i z
      have := ih (i + 1) (by omega)
      omega
    · omega
def numV (f : Nat → Int) : Nat → Nat → Int → Int
  | 0, _, v => v
  | m + 1, i, v => numV f m (i + 1) (10 * v + f i - 48)
def keyL : List (List Int) := [[112, 97, 103, 101], [119, 105, 100, 101], [108, 105, 110, 101, 115], [104, 105, 103, 104], [108, 101, 97, 115, 116], [105, 110, 107], [98, 111, 120], [99, 105, 114, 99, 108, 101], [119, 101, 100, 103, 101], [116, 105, 101], [119, 111, 114, 100, 115], [103, 97, 112], [105, 102], [116, 104, 101, 110], [101, 108, 115, 101], [101, 110, 100], [115, 105, 122, 101], [119, 111, 114, 100], [102, 105, 114, 115, 116], [115, 104, 97, 112, 101], [108, 105, 110, 101], [97, 110, 100], [111, 114], [110, 111, 116]]
def sgnL : List Int := [59, 58, 43, 45, 42, 40, 41, 91, 93, 61, 60, 62]
def cutT2 (f : Nat → Int) : Nat → Nat → List Int
  | 0, _ => []
  | m + 1, i => f i :: cutT2 f m (i + 1)
def keyOf (w : List Int) : List (List Int) → Int → Int
  | [], _ => 24
  | k :: ks, i => if k = w then i else keyOf w ks (i + 1)
def sgnOf (c : Int) : List Int → Int → Int
  | [], _ => 27
  | k :: ks, i => if k = c then i else sgnOf c ks (i + 1)
def tokA (f : Nat → Int) (n a : Nat) : TK :=
  if n ≤ a then (26, a, a, 0)
  else if isL (f a) then (keyOf (cutT2 f (run isL f n (n - a) a - a) a) keyL 0, a, run isL f n (n - a) a, 0)
  else if isD (f a) then (if run isD f n (n - a) a - a ≤ 3 then (25, a, run isD f n (n - a) a, numV f (run isD f n (n - a) a - a) a 0) else (27, a, run isD f n (n - a) a, 0))
  else (sgnOf (f a) sgnL 30, a, a + 1, 0)
def tok (f : Nat → Int) (n i : Nat) : TK := tokA f n (run isB f n (n - i) i)
abbrev ER (α : Type) : Type := Except (Int × Nat) α
def nxt (f : Nat → Int) (n : Nat) (t : TK) : ER TK := if t_k (tok f n (t_b t)) = 27 then .error (1, t_a (tok f n (t_b t))) else .ok (tok f n (t_b t))
theorem keyOf_rg (w : List Int) : ∀ (l : List (List Int)) (i : Int), keyOf w l i = 24 ∨ (i ≤ keyOf w l i ∧ keyOf w l i < i + l.length) := by
  intro l
  induction l with
  | nil => intro i; exact Or.inl rfl
  | cons k ks ih =>
    intro i
    unfold keyOf
    split
    · right; simp; omega
    · rcases ih (i + 1) with z | z
      · exact Or.inl z
      · right; simp; omega
/-- a token ends behind where it begins, but at the end -/
theorem tok_fwd (f : Nat → Int) (n i : Nat) (hi : i ≤ n) : i ≤ t_a (tok f n i) ∧ t_a (tok f n i) ≤ t_b (tok f n i) ∧ t_b (tok f n i) ≤ n ∧ (t_k (tok f n i) ≠ 26 → i < t_b (tok f n i)) := by
  have a := run_rg isB f n (n - i) i hi
  unfold tok tokA
  generalize run isB f n (n - i) i = s at a
  by_cases z : n ≤ s
  · rw [if_pos z]
    unfold t_a t_b t_k
    dsimp only
    omega
  · rw [if_neg z]
    have one : ∀ P : Int → Bool, P (f s) = true → s + 1 ≤ run P f n (n - s) s ∧ run P f n (n - s) s ≤ n := fun P hP => by
      obtain ⟨m, hm⟩ : ∃ m, n - s = m + 1 := ⟨n - s - 1, by omega⟩
      rw [hm]
      unfold run
      rw [if_pos ⟨by omega, hP⟩]
      exact run_rg P f n m (s + 1) (by omega)
    by_cases y : isL (f s) = true
    · rw [if_pos y]
      have b := one isL y
      unfold t_a t_b t_k
      dsimp only
      omega
    · rw [if_neg y]
      by_cases x : isD (f s) = true
      · rw [if_pos x]
        have b := one isD x
        unfold t_a t_b t_k
        split
        · dsimp only; omega
        · dsimp only; omega
      · rw [if_neg x]
        unfold t_a t_b t_k
        dsimp only
        omega
/-- laws: the token and the codes so far -/
abbrev LSt : Type := TK × List Int
abbrev LPr : Type := LSt → ER LSt
section
variable (f : Nat → Int) (n : Nat)
def lNx (s : LSt) : ER LSt := match nxt f n s.1 with
  | .ok t => .ok (t, s.2)
  | .error e => .error e
def lEr (k : Int) (s : LSt) : ER LSt := .error (k, t_a s.1)
def lPu (c : Int) (s : LSt) : LSt := (s.1, s.2 ++ [c])
def eat (k : Int) (s : LSt) : ER LSt := if t_k s.1 = k then lNx f n s else lEr 2 s
def wdOf (W : Bool) (k : Int) : Int := if k = 5 then 0 else if W = true ∧ 16 ≤ k ∧ k ≤ 18 then k - 15 else if W = false ∧ 19 ≤ k ∧ k ≤ 20 then k - 15 else -1
def bdn (r : ER LSt) (g : LPr) : ER LSt := match r with
  | .ok s => g s
  | .error e => .error e
def atomP (W : Bool) (inn : Option (LPr × LPr × LPr)) (s : LSt) : ER LSt :=
  if t_k s.1 = 25 then lNx f n (lPu (t_n s.1) s)
  else if wdOf W (t_k s.1) ≠ -1 then lNx f n (lPu (1000 + wdOf W (t_k s.1)) s)
  else if t_k s.1 = 35 then (match inn with
    | none => lEr 4 s
    | some g => bdn (lNx f n s) fun s1 => bdn (g.1 s1) (eat f n 36))
  else if t_k s.1 = 12 then (match inn with
    | none => lEr 4 s
    | some g => bdn (lNx f n s) fun s1 => bdn (g.2.1 s1) fun s2 => bdn (eat f n 13 s2) fun s3 => bdn (g.1 s3) fun s4 => bdn (eat f n 14 s4) fun s5 => bdn (g.1 s5) fun s6 => bdn (eat f n 15 s6) fun s7 => .ok (lPu 3009 s7))
  else lEr 2 s
/-- op, then one more, again and again -/
def manyP (op : Int → Int) (g : LPr) : Nat → LPr
  | 0, s => .ok s
  | m + 1, s => if op (t_k s.1) = -1 then .ok s else bdn (lNx f n s) fun s1 => bdn (g s1) fun s2 => manyP op g m (lPu (op (t_k s.1)) s2)
def opT (k : Int) : Int := if k = 34 then 3002 else -1
def opA (k : Int) : Int := if k = 32 then 3000 else if k = 33 then 3001 else -1
def opB (k : Int) : Int := if k = 21 then 3007 else -1
def opO (k : Int) : Int := if k = 22 then 3008 else -1
def opC (k : Int) : Int := if k = 39 then 3003 else if k = 40 then 3004 else if k = 41 then 3005 else -1
def termP (W : Bool) (inn : Option (LPr × LPr × LPr)) (s : LSt) : ER LSt := bdn (atomP f n W inn s) (manyP f n opT (atomP f n W inn) 900)
def sumP (W : Bool) (inn : Option (LPr × LPr × LPr)) (s : LSt) : ER LSt := bdn (termP f n W inn s) (manyP f n opA (termP f n W inn) 900)
def unitP (W : Bool) (inn : Option (LPr × LPr × LPr)) (s : LSt) : ER LSt :=
  if t_k s.1 = 23 then (match inn with
    | none => lEr 4 s
    | some g => bdn (lNx f n s) fun s1 => bdn (g.2.2 s1) fun s2 => .ok (lPu 3006 s2))
  else if t_k s.1 = 37 then (match inn with
    | none => lEr 4 s
    | some g => bdn (lNx f n s) fun s1 => bdn (g.2.1 s1) (eat f n 38))
  else bdn (sumP f n W inn s) fun s1 => if opC (t_k s1.1) = -1 then lEr 2 s1 else bdn (lNx f n s1) fun s2 => bdn (sumP f n W inn s2) fun s3 => .ok (lPu (opC (t_k s1.1)) s3)
def bothP (W : Bool) (inn : Option (LPr × LPr × LPr)) (s : LSt) : ER LSt := bdn (unitP f n W inn s) (manyP f n opB (unitP f n W inn) 900)
def truthP (W : Bool) (inn : Option (LPr × LPr × LPr)) (s : LSt) : ER LSt := bdn (bothP f n W inn s) (manyP f n opO (bothP f n W inn) 900)
/-- within r more -/
def lvl (W : Bool) : Nat → Option (LPr × LPr × LPr)
  | 0 => none
  | r + 1 => some (sumP f n W (lvl W r), truthP f n W (lvl W r), unitP f n W (lvl W r))
end
/-! THE TEXT: pages -/
/-- the token, the page and the state so far -/
abbrev QS : Type := TK × PG × (Nat → Int)
def bq {α β : Type} (r : ER α) (g : α → ER β) : ER β := match r with
  | .ok s => g s
  | .error e => .error e
section
variable (f : Nat → Int) (n : Nat)
def eatT (k : Int) (t : TK) : ER TK := if t_k t = k then nxt f n t else .error (2, t_a t)
def numT (lo hi : Int) (t : TK) : ER (Int × TK) := if t_k t ≠ 25 then .error (2, t_a t) else if t_n t < lo ∨ hi < t_n t then .error (3, t_a t) else bq (nxt f n t) fun u => .ok (t_n t, u)
def g0 : PG := ((0, 0, 0, 0, 0, 0, 0), (fun _ => 0), (fun _ => 0), (fun _ => 0), (fun _ => 0), (fun _ => 0), [], [])
def st0 : Nat → Int := fun j => if 12 ≤ j ∧ j < 18 then -1 else 0
def toldQ (s : QS) : QS := (s.1, ((g_wi s.2.1, g_ln s.2.1, g_hi s.2.1, g_le s.2.1, g_to s.2.1 + 1, g_S s.2.1, g_W s.2.1), s.2.1.2), s.2.2)
def headP (t : TK) : ER QS :=
  bq (eatT f n 0 t) fun t => bq (eatT f n 1 t) fun t => bq (numT f n 10 200 t) fun a => bq (eatT f n 2 a.2) fun t => bq (numT f n 1 20 t) fun b =>
  bq (eatT f n 3 b.2) fun t => bq (numT f n 1 20 t) fun c => bq (eatT f n 4 c.2) fun t => bq (numT f n 1 50 t) fun e => bq (eatT f n 5 e.2) fun t => bq (numT f n 0 9 t) fun i =>
  bq (eatT f n 30 i.2) fun t => .ok (t, ((a.1, b.1.toNat, c.1, e.1, 1, 0, 0), g0.2), upf st0 19 i.1)
def shapeP (k : Int) (s : QS) : ER QS :=
  if g_S s.2.1 = 6 then .error (4, t_a s.1) else bq (nxt f n s.1) fun t => bq (numT f n 0 200 t) fun x => bq (numT f n 0 400 x.2) fun y => bq (numT f n 1 (if k = 0 then 200 else 100) y.2) fun a =>
  bq (if k = 1 then .ok (0, a.2) else numT f n 1 200 a.2) fun b =>
  .ok (b.2, ((g_wi s.2.1, g_ln s.2.1, g_hi s.2.1, g_le s.2.1, g_to s.2.1, g_S s.2.1 + 1, g_W s.2.1), upf (g_kd s.2.1) (g_S s.2.1) k, upf (g_ac s.2.1) (g_S s.2.1) a.1, upf (g_tl s.2.1) (g_S s.2.1) b.1, g_lt s.2.1, g_fi s.2.1, g_wl s.2.1, g_gl s.2.1), upf (upf s.2.2 (g_S s.2.1) x.1) (6 + g_S s.2.1) y.1)
def tieP (s : QS) : ER QS := bq (nxt f n s.1) fun t => bq (numT f n 0 ((g_S s.2.1 : Int) - 1) t) fun a => bq (numT f n 0 29 a.2) fun b => .ok (b.2, s.2.1, upf s.2.2 (12 + a.1.toNat) b.1)
def wordsL : Nat → QS → ER QS
  | 0, s => .ok s
  | m + 1, s => if t_k s.1 < 0 ∨ 24 < t_k s.1 then .ok s else if 12 < t_b s.1 - t_a s.1 then .error (3, t_a s.1) else if g_W s.2.1 = 30 then .error (4, t_a s.1)
    else bq (nxt f n s.1) fun t => wordsL m (t, ((g_wi s.2.1, g_ln s.2.1, g_hi s.2.1, g_le s.2.1, g_to s.2.1, g_S s.2.1, g_W s.2.1 + 1), g_kd s.2.1, g_ac s.2.1, g_tl s.2.1, upf (g_lt s.2.1) (g_W s.2.1) ((t_b s.1 : Int) - t_a s.1), upf (g_fi s.2.1) (g_W s.2.1) (f (t_a s.1) - 97 + 1), g_wl s.2.1, g_gl s.2.1), s.2.2)
def wordsP (s : QS) : ER QS := bq (nxt f n s.1) fun t => wordsL f n 900 (t, s.2)
def lawP (W : Bool) (s : QS) : ER QS := bq (nxt f n s.1) fun t => bq (eatT f n 31 t) fun t => bq (sumP f n W (lvl f n W 6) (t, [])) fun l =>
  .ok (l.1, (s.2.1.1, g_kd s.2.1, g_ac s.2.1, g_tl s.2.1, g_lt s.2.1, g_fi s.2.1, (if W then l.2 else g_wl s.2.1), (if W then g_gl s.2.1 else l.2)), s.2.2)
def lineP (s : QS) : ER QS :=
  if 6 ≤ t_k s.1 ∧ t_k s.1 ≤ 8 then shapeP f n (t_k s.1 - 6) s else if t_k s.1 = 9 then tieP f n s else if t_k s.1 = 10 then wordsP f n s else if t_k s.1 = 1 then lawP f n true s else if t_k s.1 = 11 then lawP f n false s else .error (2, t_a s.1)
def linesP : Nat → QS → ER QS
  | 0, s => .ok s
  | m + 1, s => if t_k s.1 = 26 then .ok s else bq (lineP f n s) fun s1 => bq (eatT f n 30 s1.1) fun t => linesP m (toldQ (t, s1.2))
def parse : ER (PG × (Nat → Int)) := bq (nxt f n (26, 0, 0, 0)) fun t => bq (headP f n t) fun s => bq (linesP f n 900 s) fun s => .ok s.2
end
/-! on we go: every ok ends further on -/
def okT (n : Nat) (t : TK) : Prop := t_a t ≤ t_b t ∧ t_b t ≤ n ∧ t_k t ≠ 27
theorem nxt_ok {f : Nat → Int} {n : Nat} {t u : TK} (h : nxt f n t = .ok u) (ht : t_b t ≤ n) : okT n u ∧ t_b t ≤ t_a u ∧ (t_k u ≠ 26 → t_b t < t_b u) := by
  unfold nxt at h
  split at h
  · cases h
  · rename_i z
    cases h
    have a := tok_fwd f n (t_b t) ht
    exact ⟨⟨a.2.1, a.2.2.1, z⟩, a.1, a.2.2.2⟩
theorem bq_ok {α β : Type} {r : ER α} {g : α → ER β} {y : β} (h : bq r g = .ok y) : ∃ x, r = .ok x ∧ g x = .ok y := by
  cases r with
  | ok x => exact ⟨x, rfl, h⟩
  | error e => cases h
theorem bdn_ok {r : ER LSt} {g : LPr} {y : LSt} (h : bdn r g = .ok y) : ∃ x, r = .ok x ∧ g x = .ok y := by
  cases r with
  | ok x => exact ⟨x, rfl, h⟩
  | error e => cases h
theorem lNx_ok {f : Nat → Int} {n : Nat} {s u : LSt} (h : lNx f n s = .ok u) : nxt f n s.1 = .ok u.1 ∧ u.2 = s.2 := by
  unfold lNx at h
  cases hn : nxt f n s.1 with
  | ok t => rw [hn] at h; cases h; exact ⟨rfl, rfl⟩
  | error e => rw [hn] at h; cases h
/-! laws are well made -/
def okU (f : Nat → Int) (n : Nat) (t : TK) : Prop := (0 ≤ t_k t ∧ t_k t ≤ 24 → isL (f (t_a t)) = true) ∧ t_a t ≤ t_b t ∧ t_b t ≤ n ∧ t_k t ≠ 27 ∧ (t_k t ≠ 26 → t_a t < t_b t) ∧ (t_k t = 25 → 0 ≤ t_n t ∧ t_n t < 1000)
theorem run_P (P : Int → Bool) (f : Nat → Int) (n : Nat) : ∀ m i j, i ≤ j → j < run P f n m i → P (f j) = true := by
  intro m
  induction m with
  | zero => intro i j h1 h2; exact absurd h2 (by show ¬ j < i; omega)
  | succ m ih =>
    intro i j h1 h2
    unfold run at h2
    split at h2
    · rename_i z
      by_cases e : j = i
      · rw [e]; exact z.2
      · exact ih (i + 1) j (by omega) h2
    · omega
theorem numV_rg (f : Nat → Int) : ∀ (m i : Nat) (v : Int), (∀ j, i ≤ j → j < i + m → isD (f j) = true) → 0 ≤ v → 0 ≤ numV f m i v ∧ numV f m i v < (v + 1) * 10 ^ m := by
  intro m
  induction m with
  | zero => intro i v _ hv; unfold numV; omega
  | succ m ih =>
    intro i v hd hv
    have d0 := of_decide_eq_true (hd i (Nat.le_refl _) (by omega))
    have := ih (i + 1) (10 * v + f i - 48) (fun j h1 h2 => hd j (by omega) (by omega)) (by omega)
    unfold numV
    refine ⟨this.1, Int.lt_of_lt_of_le this.2 ?_⟩
    have e : (v + 1) * (10 : Int) ^ (m + 1) = (10 * v + 10) * 10 ^ m := by rw [Int.pow_succ, Int.mul_comm ((10 : Int) ^ m), ← Int.mul_assoc, Int.add_mul, Int.mul_comm v 10]; rfl
    rw [e]
    exact Int.mul_le_mul_of_nonneg_right (by omega) (Int.pow_nonneg (by omega))
theorem keyOf_ne {w : List Int} : keyOf w keyL 0 ≠ 25 ∧ keyOf w keyL 0 ≠ 26 ∧ keyOf w keyL 0 ≠ 27 := by
  rcases keyOf_rg w keyL 0 with z | z
  · omega
  · have : keyL.length = 24 := rfl
    omega
theorem sgnOf_rg (c : Int) : ∀ (l : List Int) (i : Int), 30 ≤ i → sgnOf c l i = 27 ∨ 30 ≤ sgnOf c l i := by
  intro l
  induction l with
  | nil => intro i _; exact Or.inl rfl
  | cons k ks ih =>
    intro i hi
    unfold sgnOf
    split
    · exact Or.inr hi
    · exact ih (i + 1) (by omega)
theorem tok_let (f : Nat → Int) (n i : Nat) (h : 0 ≤ t_k (tok f n i) ∧ t_k (tok f n i) ≤ 24) : isL (f (t_a (tok f n i))) = true := by
  unfold tok tokA at h ⊢
  generalize run isB f n (n - i) i = s at h
  by_cases z : n ≤ s
  · rw [if_pos z] at h; unfold t_k at h; dsimp only at h; omega
  · rw [if_neg z] at h ⊢
    by_cases y : isL (f s) = true
    · rw [if_pos y]; exact y
    · rw [if_neg y] at h ⊢
      by_cases x : isD (f s) = true
      · rw [if_pos x] at h
        by_cases w : run isD f n (n - s) s - s ≤ 3
        · rw [if_pos w] at h; unfold t_k at h; dsimp only at h; omega
        · rw [if_neg w] at h; unfold t_k at h; dsimp only at h; omega
      · rw [if_neg x] at h
        have k := sgnOf_rg (f s) sgnL 30 (Int.le_refl _)
        unfold t_k at h; dsimp only at h; omega
theorem tok_okU (f : Nat → Int) (n i : Nat) (hi : i ≤ n) (h27 : t_k (tok f n i) ≠ 27) : okU f n (tok f n i) ∧ i ≤ t_a (tok f n i) := by
  have tl := tok_let f n i
  refine (fun x : (t_a (tok f n i) ≤ t_b (tok f n i) ∧ t_b (tok f n i) ≤ n ∧ t_k (tok f n i) ≠ 27 ∧ (t_k (tok f n i) ≠ 26 → t_a (tok f n i) < t_b (tok f n i)) ∧ (t_k (tok f n i) = 25 → 0 ≤ t_n (tok f n i) ∧ t_n (tok f n i) < 1000)) ∧ i ≤ t_a (tok f n i) => ⟨⟨tl, x.1⟩, x.2⟩) ?_
  clear tl
  have a := run_rg isB f n (n - i) i hi
  unfold tok tokA at h27 ⊢
  generalize run isB f n (n - i) i = s at a h27
  by_cases z : n ≤ s
  · rw [if_pos z] at h27 ⊢
    unfold t_a t_b t_k t_n
    dsimp only
    omega
  · rw [if_neg z] at h27 ⊢
    have one : ∀ P : Int → Bool, P (f s) = true → s + 1 ≤ run P f n (n - s) s ∧ run P f n (n - s) s ≤ n := fun P hP => by
      obtain ⟨m, hm⟩ : ∃ m, n - s = m + 1 := ⟨n - s - 1, by omega⟩
      rw [hm]
      unfold run
      rw [if_pos ⟨by omega, hP⟩]
      exact run_rg P f n m (s + 1) (by omega)
    by_cases y : isL (f s) = true
    · rw [if_pos y] at h27 ⊢
      have b := one isL y
      have k := @keyOf_ne (cutT2 f (run isL f n (n - s) s - s) s)
      unfold t_a t_b t_k t_n
      dsimp only
      exact ⟨⟨by omega, by omega, k.2.2, fun _ => by omega, fun w => absurd w k.1⟩, by omega⟩
    · rw [if_neg y] at h27 ⊢
      by_cases x : isD (f s) = true
      · rw [if_pos x] at h27 ⊢
        have b := one isD x
        by_cases w : run isD f n (n - s) s - s ≤ 3
        · rw [if_pos w]
          have nr := numV_rg f (run isD f n (n - s) s - s) s 0 (fun j h1 h2 => run_P isD f n (n - s) s j h1 (by omega)) (Int.le_refl _)
          have p : ((0 : Int) + 1) * 10 ^ (run isD f n (n - s) s - s) ≤ 1000 := by
            generalize run isD f n (n - s) s - s = q at w
            have : q = 0 ∨ q = 1 ∨ q = 2 ∨ q = 3 := by omega
            rcases this with rfl | rfl | rfl | rfl <;> decide
          unfold t_a t_b t_k t_n
          dsimp only
          exact ⟨⟨by omega, by omega, by omega, fun _ => by omega, fun _ => ⟨nr.1, by omega⟩⟩, by omega⟩
        · rw [if_neg w] at h27
          exact absurd rfl h27
      · rw [if_neg x] at h27 ⊢
        have k := sgnOf_rg (f s) sgnL 30 (Int.le_refl _)
        have k2 : sgnOf (f s) sgnL 30 ≠ 27 := h27
        unfold t_a t_b t_k t_n
        dsimp only
        omega
theorem nxt_okU {f : Nat → Int} {n : Nat} {t u : TK} (h : nxt f n t = .ok u) (ht : okU f n t) : okU f n u ∧ t_b t ≤ t_a u := by
  unfold nxt at h
  split at h
  · cases h
  · rename_i z
    cases h
    exact tok_okU f n (t_b t) ht.2.2.1 z
section
variable (f : Nat → Int) (n : Nat) (W : Bool) (WT : List Int → Bool → Nat → Prop)
def TY (b : Bool) (m : Nat) (P : LPr) : Prop := ∀ s s' : LSt, P s = .ok s' → okU f n s.1 → okU f n s'.1 ∧ ∃ c, s'.2 = s.2 ++ c ∧ WT c b m ∧ c.length + t_a s.1 ≤ t_a s'.1
theorem eat_ok {k : Int} {s s' : LSt} (hk : k ≠ 26) (h : eat f n k s = .ok s') (ok : okU f n s.1) : okU f n s'.1 ∧ s'.2 = s.2 ∧ t_a s.1 < t_a s'.1 := by
  unfold eat at h
  split at h
  · rename_i z
    obtain ⟨h1, h2⟩ := lNx_ok h
    obtain ⟨h3, h4⟩ := nxt_okU h1 ok
    have := ok.2.2.2.2.1 (by omega)
    exact ⟨h3, h2, by omega⟩
  · cases h
theorem lNx_ok2 {s s' : LSt} (hk : t_k s.1 ≠ 26) (h : lNx f n s = .ok s') (ok : okU f n s.1) : okU f n s'.1 ∧ s'.2 = s.2 ∧ t_a s.1 < t_a s'.1 := by
  obtain ⟨h1, h2⟩ := lNx_ok h
  obtain ⟨h3, h4⟩ := nxt_okU h1 ok
  have := ok.2.2.2.2.1 hk
  exact ⟨h3, h2, by omega⟩
variable {WT}
theorem many_ty {op : Int → Int} {g : LPr} {b : Bool} {m m2 : Nat} (hop : ∀ k, op k ≠ -1 → k ≠ 26) (hg : TY f n WT b m2 g) (hb : ∀ k x y, op k ≠ -1 → WT x b m → WT y b m2 → WT (x ++ (y ++ [op k])) b m) :
    ∀ (q : Nat) (s s' : LSt) (base c : List Int), manyP f n op g q s = .ok s' → okU f n s.1 → s.2 = base ++ c → WT c b m → okU f n s'.1 ∧ ∃ c', s'.2 = base ++ c' ∧ WT c' b m ∧ c'.length + t_a s.1 ≤ c.length + t_a s'.1 := by
  intro q
  induction q with
  | zero => intro s s' base c h ok e w; cases h; exact ⟨ok, c, e, w, Nat.le_refl _⟩
  | succ q ih =>
    intro s s' base c h ok e w
    unfold manyP at h
    split at h
    · cases h; exact ⟨ok, c, e, w, Nat.le_refl _⟩
    · rename_i z
      obtain ⟨s1, h1, h⟩ := bdn_ok h
      obtain ⟨s2, h2, h⟩ := bdn_ok h
      obtain ⟨o1, e1, a1⟩ := lNx_ok2 f n (hop _ z) h1 ok
      obtain ⟨o2, y, e2, w2, a2⟩ := hg s1 s2 h2 o1
      have e3 : (lPu (op (t_k s.1)) s2).2 = base ++ (c ++ (y ++ [op (t_k s.1)])) := by
        show s2.2 ++ [op (t_k s.1)] = _
        rw [e2, e1, e]; simp [List.append_assoc]
      obtain ⟨o3, c', e4, w4, a4⟩ := ih _ s' base _ h o2 e3 (hb _ _ _ z w w2)
      refine ⟨o3, c', e4, w4, ?_⟩
      rw [List.length_append, List.length_append] at a4
      have t : t_a (lPu (op (t_k s.1)) s2).1 = t_a s2.1 := rfl
      rw [t] at a4
      simp at a4
      omega
end
