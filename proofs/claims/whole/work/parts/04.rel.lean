/-! THE PURE MACHINE BESIDE THE REAL ONE -/
abbrev MD : Type := MethodName × ByteArray × Nat × Option FieldType
/-- class numbers, slots of fields, array classes, the first cell of the run, the heap at its start, where older cells lie -/
abbrev Gx : Type := (Nat → ClassId) × (Nat → Nat → Nat) × (Nat → ClassId) × Nat × Heap × (Nat → Nat)
def bs (g : Gx) : Nat := g.2.2.2.1
def h00 (g : Gx) : Heap := g.2.2.2.2.1
def ad (g : Gx) (a : Nat) : Nat := if a < 64 then g.2.2.2.2.2 a else bs g + (a - 64)
def rfo (g : Gx) (a : Nat) : Option Nat := if a = 0 then none else some (ad g a)
def rv (g : Gx) (v : PV) : Value := match v with
  | .inl x => .int (Int32.ofInt x)
  | .inr (.inl x) => .long (Int64.ofInt x)
  | .inr (.inr (.inl a)) => va_rf (rfo g a)
  | .inr (.inr (.inr (.inl x))) => .float x
  | .inr (.inr (.inr (.inr x))) => .double x
def okv (v : PV) : Prop := match v with
  | .inl x => R32 x
  | .inr (.inl x) => R64 x
  | _ => True
def cat2 (v : PV) : Bool := match v with
  | .inr (.inl _) => true
  | .inr (.inr (.inr (.inr _))) => true
  | _ => false
theorem rv_cat (g : Gx) (v : PV) : (rv g v).category = if cat2 v then 2 else 1 := by
  match v with
  | .inl x => rfl
  | .inr (.inl x) => rfl
  | .inr (.inr (.inl a)) =>
    show (va_rf (rfo g a)).category = 1
    cases rfo g a <;> rfl
  | .inr (.inr (.inr (.inl x))) => rfl
  | .inr (.inr (.inr (.inr x))) => rfl
/-- locals -/
def lst (g : Gx) (lo : List (Option PV)) : List (Nat × Value) := (List.range lo.length).filterMap (fun i => match lo[i]? with
  | some (some v) => some (i, rv g v)
  | _ => none)
theorem mem_lst {g : Gx} {lo : List (Option PV)} {i : Nat} {v : PV} (h : lo[i]? = some (some v)) : (i, rv g v) ∈ lst g lo := by
  refine List.mem_filterMap.mpr ⟨i, List.mem_range.mpr (List.getElem?_eq_some_iff.mp h).1, ?_⟩
  rw [h]
theorem lst_mem {g : Gx} {lo : List (Option PV)} {q : Nat × Value} (h : q ∈ lst g lo) : ∃ v, lo[q.1]? = some (some v) ∧ q.2 = rv g v := by
  obtain ⟨i, -, hi⟩ := List.mem_filterMap.mp h
  cases hl : lo[i]? with
  | none => rw [hl] at hi; cases hi
  | some o =>
    cases o with
    | none => rw [hl] at hi; cases hi
    | some v =>
      rw [hl] at hi
      cases hi
      exact ⟨v, hl, rfl⟩
def kil (i : Nat) (lo : List (Option PV)) : List (Option PV) := match i with
  | 0 => lo
  | i + 1 => match lo[i]? with
    | some (some v) => match cat2 v with
      | true => lo.set i none
      | false => lo
    | _ => lo
def lset1 (lo : List (Option PV)) (i : Nat) (v : PV) : List (Option PV) := (kil i lo).set i (some v)
def lset2 (lo : List (Option PV)) (i : Nat) (v : PV) : List (Option PV) := ((kil i lo).set i (some v)).set (i + 1) none
theorem kil_len (i : Nat) (lo : List (Option PV)) : (kil i lo).length = lo.length := by
  unfold kil
  split
  · rfl
  · split
    · split <;> simp
    · rfl
theorem kil_at {i j : Nat} {lo : List (Option PV)} {w : PV} (h : (kil i lo)[j]? = some (some w)) : lo[j]? = some (some w) ∧ ¬ (j + 1 = i ∧ cat2 w = true) := by
  unfold kil at h
  split at h
  · exact ⟨h, fun q => by omega⟩
  · rename_i i
    split at h
    · rename_i v hv
      split at h
      · rename_i hc
        rw [List.getElem?_set] at h
        split at h
        · split at h <;> cases h
        · rename_i hne
          exact ⟨h, fun q => hne (by omega)⟩
      · rename_i hc
        refine ⟨h, fun q => ?_⟩
        have hj : j = i := by omega
        subst hj
        rw [hv] at h
        cases h
        rw [hc] at q
        cases q.2
    · rename_i hn
      refine ⟨h, fun q => ?_⟩
      have hj : j = i := by omega
      subst hj
      exact hn _ h
theorem lset1_at {lo : List (Option PV)} {i j : Nat} {v w : PV} (h : (lset1 lo i v)[j]? = some (some w)) : (j = i ∧ w = v) ∨ (j ≠ i ∧ lo[j]? = some (some w) ∧ ¬ (j + 1 = i ∧ cat2 w = true)) := by
  unfold lset1 at h
  rw [List.getElem?_set] at h
  split at h
  · rename_i hi
    split at h
    · cases h; exact Or.inl ⟨hi.symm, rfl⟩
    · cases h
  · rename_i hi
    exact Or.inr ⟨fun e => hi e.symm, kil_at h⟩
theorem lset2_at {lo : List (Option PV)} {i j : Nat} {v w : PV} (h : (lset2 lo i v)[j]? = some (some w)) : (j = i ∧ w = v) ∨ (j ≠ i ∧ j ≠ i + 1 ∧ lo[j]? = some (some w) ∧ ¬ (j + 1 = i ∧ cat2 w = true)) := by
  unfold lset2 at h
  rw [List.getElem?_set] at h
  split at h
  · split at h <;> cases h
  · rename_i h1
    rcases lset1_at (lo := lo) (i := i) (v := v) h with q | ⟨q1, q2⟩
    · exact Or.inl q
    · exact Or.inr ⟨q1, fun e => h1 e.symm, q2⟩
def Lr (g : Gx) (n : Nat) (lo : List (Option PV)) (ls : Array Slot) : Prop := lv_has ls n (lst g lo) ∧ (∀ (i : Nat) (v : PV), lo[i]? = some (some v) → okv v) ∧ lo.length = n
theorem Lr.at {g : Gx} {n : Nat} {lo : List (Option PV)} {ls : Array Slot} (h : Lr g n lo ls) {i : Nat} {v : PV} (hi : lo[i]? = some (some v)) : ls[i]? = some (.val (rv g v)) := h.1.2.2 _ (mem_lst hi)
theorem Lr.set1 {g : Gx} {n : Nat} {lo : List (Option PV)} {ls' ls : Array Slot} {i : Nat} {v : PV} {x : Value} (h : Lr g n lo ls) (hx : x = rv g v) (hv : okv v) (h' : lv_has ls' n ((i, x) :: (lst g lo).filter (fun q => !(q.1 == i) && !(q.1 + 1 == i && q.2.category == 2)))) : Lr g n (lset1 lo i v) ls' := by
  subst hx
  refine ⟨⟨h'.1, h'.2.1, fun q hq => h'.2.2 q ?_⟩, fun j w hj => ?_, by unfold lset1; rw [List.length_set, kil_len]; exact h.2.2⟩
  · obtain ⟨w, h1, h2⟩ := lst_mem hq
    rcases lset1_at h1 with ⟨e1, e2⟩ | ⟨n1, e2, n2⟩
    · refine List.mem_cons.mpr (Or.inl ?_)
      rw [← e2, ← e1, ← h2]
    · refine List.mem_cons.mpr (Or.inr (List.mem_filter.mpr ⟨?_, ?_⟩))
      · have := mem_lst (g := g) e2
        rw [← h2] at this
        exact this
      · rw [h2, rv_cat]
        by_cases hc : cat2 w = true
        · have : ¬ q.1 + 1 = i := fun e => n2 ⟨e, hc⟩
          simp [n1, this, hc]
        · simp [n1, hc]
  · rcases lset1_at hj with ⟨-, e2⟩ | ⟨-, e2, -⟩
    · rw [e2]; exact hv
    · exact h.2.1 j w e2
theorem Lr.set2 {g : Gx} {n : Nat} {lo : List (Option PV)} {ls' ls : Array Slot} {i : Nat} {v : PV} {x : Value} (h : Lr g n lo ls) (hx : x = rv g v) (hv : okv v) (h' : lv_has ls' n ((i, x) :: (lst g lo).filter (fun q => !(q.1 == i) && (!(q.1 == i + 1) && !(q.1 + 1 == i && q.2.category == 2))))) : Lr g n (lset2 lo i v) ls' := by
  subst hx
  refine ⟨⟨h'.1, h'.2.1, fun q hq => h'.2.2 q ?_⟩, fun j w hj => ?_, by unfold lset2; rw [List.length_set, List.length_set, kil_len]; exact h.2.2⟩
  · obtain ⟨w, h1, h2⟩ := lst_mem hq
    rcases lset2_at h1 with ⟨e1, e2⟩ | ⟨n1, n3, e2, n2⟩
    · refine List.mem_cons.mpr (Or.inl ?_)
      rw [← e2, ← e1, ← h2]
    · refine List.mem_cons.mpr (Or.inr (List.mem_filter.mpr ⟨?_, ?_⟩))
      · have := mem_lst (g := g) e2
        rw [← h2] at this
        exact this
      · rw [h2, rv_cat]
        by_cases hc : cat2 w = true
        · have : ¬ q.1 + 1 = i := fun e => n2 ⟨e, hc⟩
          simp [n1, n3, this, hc]
        · simp [n1, n3, hc]
  · rcases lset2_at hj with ⟨-, e2⟩ | ⟨-, -, e2, -⟩
    · rw [e2]; exact hv
    · exact h.2.1 j w e2
