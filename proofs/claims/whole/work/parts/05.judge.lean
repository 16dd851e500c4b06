/-! THE HEAP'S PICTURE, THE CONTEXT, THE JUDGEMENTS -/
def fty (c k : Nat) : FieldType := match c with
  | 0 => tyX0 k
  | 1 => tyX1 k
  | 2 => tyX2 k
  | 3 => tyX3 k
  | 4 => tyX4 k
  | 5 => tyX5 k
  | 6 => tyX6 k
  | 7 => tyX7 k
  | 8 => tyX8 k
  | 9 => tyX9 k
  | 10 => tyX10 k
  | _ => tyX11 k
def fv (h : PH) (q c k : Nat) : PV := match fty c k with
  | .long => vJ (gj h q k)
  | .array _ => vR (gr h q k)
  | .object _ => vR (gr h q k)
  | _ => vI (gi h q k)
def aty (t : Nat) : FieldType := match t with
  | 20 => .int
  | 21 => .byte
  | 22 => .long
  | 23 => .boolean
  | 24 => .object RX3
  | _ => .object RX8
def acl (g : Gx) (h : PH) (q t : Nat) : vp_A := match t with
  | 22 => (ln h q, .inr (.inl (fun j => Int64.ofInt (gj h q j))))
  | 24 => (ln h q, .inr (.inr (.inr (.inr (fun j => rfo g (gr h q j))))))
  | 25 => (ln h q, .inr (.inr (.inr (.inr (fun j => rfo g (gr h q j))))))
  | _ => (ln h q, .inl (fun j => Int32.ofInt (gi h q j)))
/-- what the cell of the pure address q is -/
def cok (g : Gx) (h : PH) (q : Nat) (H : Heap) : Prop :=
  (∀ c r, cl h q = c + 1 → vwCl[c]? = some r → t_OB (ad g q) (g.1 c) r.2.2 (g.2.1 c) H (fun k => rv g (fv h q c k))) ∧
  (20 ≤ cl h q → cl h q < 26 → H[ad g q]? = some (vp_cell (g.2.2.1 (cl h q - 20)) (acl g h q (cl h q))))
/-- the law's own script -/
def SX (g : Gx) (h : PH) : Prop := cl h 62 = 30 → ln h 62 ≤ 3072 ∧ ad g 62 < bs g ∧ ∃ scr : Cell, (h00 g)[ad g 62]? = some scr ∧ scr.vm ≠ .unknown ∧ scr.slots.size = ln h 62 ∧ ∀ j : Nat, j < ln h 62 → scr.slots[j]? = some (.int (Int32.ofInt (gi h 62 j)))
theorem SX.keep {g : Gx} {h h' : PH} (hx : SX g h) (h1 : cl h' 62 = cl h 62) (h2 : ln h' 62 = ln h 62) (h3 : ∀ j, gi h' 62 j = gi h 62 j) : SX g h' := by
  unfold SX at *
  rw [h1, h2]
  simp only [h3]
  exact hx
def Rel (g : Gx) (h : PH) (H : Heap) : Prop :=
  H.size = ad g (nx h) ∧ 64 ≤ nx h ∧ (∀ q, 64 ≤ q → q < nx h → cok g h q H) ∧ (∀ q k, R32 (gi h q k)) ∧ (∀ q k, R64 (gj h q k)) ∧ (∀ a : Nat, a < bs g → H[a]? = (h00 g)[a]?) ∧
  (∀ q, cl h q ≠ 0 → cl h q < 26 → 64 ≤ q ∧ q < nx h) ∧ (∀ q, cl h q = 31 → 1 ≤ q ∧ q ≤ 27) ∧ (∀ q, cl h q = 32 → 33 ≤ q ∧ q ≤ 59) ∧ (∀ q, cl h q = 30 → q = 62) ∧ SX g h
def tysG (g : Gx) : List (ClassId × FieldType) := [(g.2.2.1 0, .int), (g.2.2.1 1, .byte), (g.2.2.1 2, .long), (g.2.2.1 3, .boolean), (g.2.2.1 4, .object RX3), (g.2.2.1 5, .object RX8)]
def nestL : List Cond := [.methodLinkNest RX10 57 yX0_init RX10, .methodLinkNest RX10 71 yX1_init RX10, .methodLinkNest RX3 36 yX2_init RX10, .methodLinkNest RX6 17 yX7_init RX10]
def sOwn (i : Nat) : String := if i < 25 then RX5 else RX11
def sIdx : List Nat := [79, 98, 103, 111, 115, 119, 123, 132, 137, 139, 141, 146, 207, 241, 239, 234, 218, 220, 222, 223, 225, 227, 228, 230, 155, 125, 163]
def sTxt : List String := [";:+-*()[]=<>", "page", "wide", "lines", "high", "least", "ink", "box", "circle", "wedge", "tie", "words", "if", "not", "and", "or", "then", "else", "end", "size", "word", "first", "shape", "line", "gap", " page wide lines high least ink box circle wedge tie words gap if then else end size word first shape line and or not ", ";:+-*()[]=<>"]
def sByt : List (List Int) := [[59, 58, 43, 45, 42, 40, 41, 91, 93, 61, 60, 62], [112, 97, 103, 101], [119, 105, 100, 101], [108, 105, 110, 101, 115], [104, 105, 103, 104], [108, 101, 97, 115, 116], [105, 110, 107], [98, 111, 120], [99, 105, 114, 99, 108, 101], [119, 101, 100, 103, 101], [116, 105, 101], [119, 111, 114, 100, 115], [105, 102], [110, 111, 116], [97, 110, 100], [111, 114], [116, 104, 101, 110], [101, 108, 115, 101], [101, 110, 100], [115, 105, 122, 101], [119, 111, 114, 100], [102, 105, 114, 115, 116], [115, 104, 97, 112, 101], [108, 105, 110, 101], [103, 97, 112], [32, 112, 97, 103, 101, 32, 119, 105, 100, 101, 32, 108, 105, 110, 101, 115, 32, 104, 105, 103, 104, 32, 108, 101, 97, 115, 116, 32, 105, 110, 107, 32, 98, 111, 120, 32, 99, 105, 114, 99, 108, 101, 32, 119, 101, 100, 103, 101, 32, 116, 105, 101, 32, 119, 111, 114, 100, 115, 32, 103, 97, 112, 32, 105, 102, 32, 116, 104, 101, 110, 32, 101, 108, 115, 101, 32, 101, 110, 100, 32, 115, 105, 122, 101, 32, 119, 111, 114, 100, 32, 102, 105, 114, 115, 116, 32, 115, 104, 97, 112, 101, 32, 108, 105, 110, 101, 32, 97, 110, 100, 32, 111, 114, 32, 110, 111, 116, 32], [59, 58, 43, 45, 42, 40, 41, 91, 93, 61, 60, 62]]
def sLen (i : Nat) : Nat := (sByt.getD i []).length
def sChr (i j : Nat) : Int := (sByt.getD i []).getD j 0
def own0 (g : Gx) : Nat → Prop := fun q => bs g ≤ q
def SK (g : Gx) (U : State) : Prop := ∀ i, i < 27 →
  vk_R (sOwn i) (sIdx.getD i 0) (sTxt.getD i "") (ad g (1 + i)) U ∧ va_O "java/lang/String" (ad g (1 + i)) (own0 g) U (h00 g) ∧ va_OF "java/lang/String" "coder" "B" (.int 0) (ad g (1 + i)) (own0 g) U (h00 g) ∧
  va_OF "java/lang/String" "value" "[B" (.ref (ad g (33 + i))) (ad g (1 + i)) (own0 g) U (h00 g) ∧ va_T .byte (ad g (33 + i)) (sLen i) (fun j => .int (Int32.ofInt (sChr i j))) (own0 g) U (h00 g)
def KK (g : Gx) (U : State) : Prop := va_K (g.1, g.2.1) vwCl (tysG g) U ∧ (∀ w ∈ nestL, va_Nw w U) ∧ SK g U ∧ va_Z "java/lang/String" "COMPACT_STRINGS" "Z" (.int 1) (own0 g) U (h00 g) ∧ va_AO RX3 U ∧ va_AO RX8 U ∧ (∃ a, (a = 0 ∨ a = 61) ∧ va_Z "jdk/internal/util/Preconditions" "SIOOBE_FORMATTER" "Ljava/util/function/BiFunction;" (rv g (vR a)) (own0 g) U (h00 g)) ∧ (∀ scr, (h00 g)[ad g 62]? = some scr → U.isArrayOf scr .int)
theorem KK.warm {g : Gx} {s U : State} (h : KK g s) (hW : s.WarmedH U.vm) : KK g U := by
  obtain ⟨h1, h2, h3, h4, h5, h6, ⟨a0, h7, h8⟩, h9⟩ := h
  refine ⟨va_K.moved hW.alike h1, ?_, fun i hi => ?_, va_Z.moved hW.alike h4, va_AO.moved hW.alike h5, va_AO.moved hW.alike h6, ⟨a0, h7, va_Z.moved hW.alike h8⟩, fun scr hs => State.isArrayOf_alike hW.alike (h9 scr hs)⟩
  · intro w hw
    have h := h2 w hw
    simp only [nestL, List.mem_cons, List.not_mem_nil, or_false] at hw
    rcases hw with rfl | rfl | rfl | rfl <;> exact va_Nw.warmM hW h
  · obtain ⟨a1, a2, a3, a4, a5⟩ := h3 i hi
    exact ⟨vk_R.warm hW a1, va_O.moved hW.alike a2, va_OF.moved hW.alike a3, va_OF.moved hW.alike a4, va_T.moved hW.alike a5⟩
theorem KK.same {g : Gx} {s U : State} (h : KK g s) (hv : U.vm = s.vm) : KK g U := by
  obtain ⟨h1, h2, h3, h4, h5, h6, ⟨a0, h7, h8⟩, h9⟩ := h
  have ha : s.vm.Alike U.vm := by rw [hv]; exact Vm.Alike.refl _
  refine ⟨va_K.moved ha h1, ?_, fun i hi => ?_, va_Z.moved ha h4, va_AO.moved ha h5, va_AO.moved ha h6, ⟨a0, h7, va_Z.moved ha h8⟩, fun scr hs => State.isArrayOf_alike ha (h9 scr hs)⟩
  · intro w hw
    have h := h2 w hw
    simp only [nestL, List.mem_cons, List.not_mem_nil, or_false] at hw
    rcases hw with rfl | rfl | rfl | rfl <;> exact va_Nw.same rfl hv.symm h
  · obtain ⟨a1, a2, a3, a4, a5⟩ := h3 i hi
    exact ⟨vk_R.same hv a1, va_O.moved ha a2, va_OF.moved ha a3, va_OF.moved ha a4, va_T.moved ha a5⟩
/-- the words that a callee may stand on -/
def gT : List Cond := lw_tbl.filter goodWord
def wsA (M : MD) : List Cond := Cond.code M.1 M.2.1 M.2.2.1 M.2.2.2 :: gT
/-- budget: cells and slots in all, cells and slots so far -/
abbrev Bu : Type := Nat × Nat × Nat × Nat
def Cx (d : Nat) (u : Bu) (M : MD) (p : Program) (R : Room) (s : State) (m : MethodId) (args : Array Value) (meth : Method) (c : Code) (g : Gx) : Prop :=
  p.tables.exec = Jvm.exec ∧ c.code = M.2.1 ∧ meth.sig.returnType = M.2.2.2 ∧ c.maxLocals = M.2.2.1 ∧ s.vm.findClass M.1.cls = some m.cls ∧ (∀ w ∈ gT, w.before args s = true) ∧ meth.locks = false ∧ meth.name = M.1.name ∧ KK g s ∧
  (d ≤ R.frames ∧ 64 * d ≤ R.locals ∧ u.1 ≤ R.cells ∧ u.2.1 ≤ R.slots) ∧ (u.2.2.1 ≤ u.1 ∧ u.2.2.2 ≤ u.2.1) ∧ (∀ a : Nat, a < bs g → s.heap[a]? = (h00 g)[a]?) ∧ bs g ≤ (h00 g).size
def QQ (g : Gx) (Q : Option PV → PH → Prop) (_ : Array Value) (_ : State) (o : Outcome) (t : State) : Prop :=
  ∃ (r : Option PV) (h' : PH), o = .returned (r.map (rv g)) ∧ (∀ v, r = some v → okv v) ∧ Q r h' ∧ Rel g h' t.heap ∧ KK g t
/-- from here the method comes to its end, with Q of its answer and of the heap then -/
def T (d : Nat) (u : Bu) (M : MD) (pc : Nat) (lo : List (Option PV)) (st : List PV) (h : PH) (Q : Option PV → PH → Prop) : Prop :=
  ∀ (p : Program) (l : Launch) (e : Env) (R : Room) (s : State) (m : MethodId) (args : Array Value) (below : List Frame) (meth : Method) (c : Code) (g : Gx) (H : Heap) (locs : List Loc) (ls : Array Slot),
    Cx d u M p R s m args meth c g → Rel g h H → Lr g M.2.2.1 lo ls → (∀ v ∈ st, okv v) → (∀ q ∈ locs, own0 g q.base) →
    W p l e R s m args below meth c H locs u.2.2.1 u.2.2.2 (MQ below (QQ g Q) args s u.1 u.2.1 (own0 g)) (F0 m pc ls (st.map (rv g)))
def rmd (d mc ms : Nat) : Room := { frames := d, cells := mc, slots := ms, locals := 64 * d }
/-- a call comes back, with Q of its answer and of the heap then -/
def CallA (d mc ms : Nat) (M : MD) (as : List PV) (h : PH) (Q : Option PV → PH → Prop) : Prop :=
  ∀ (l : Launch) (g : Gx), (∀ v ∈ as, okv v) → Met l M.1 (wsA M) (rmd d mc ms) (fun a U => a = (as.map (rv g)).toArray ∧ Rel g h U.heap ∧ KK g U ∧ bs g ≤ (h00 g).size) (QQ g Q) mc ms (own0 g)
abbrev Call (d : Nat) (M : MD) (as : List PV) (h : PH) (Q : Option PV → PH → Prop) : Prop := CallA d 0 0 M as h Q
/-- an instruction: pc, the instruction, its length, the next pc -/
def DI (M : MD) (pc : Nat) (i : Instr) (n pc' : Nat) : Prop := decode M.2.1 pc = .ok (i, n) ∧ pc' = pc + n
def tOK (b : ByteArray) (t : List (Nat × Instr × Nat × Nat)) : Bool := t.all (fun q => decide (decode b q.1 = .ok (q.2.1, q.2.2.1)) && decide (q.2.2.2 = q.1 + q.2.2.1))
theorem tDI {M : MD} {t : List (Nat × Instr × Nat × Nat)} (h : tOK M.2.1 t = true) (k : Nat) {pc : Nat} {i : Instr} {n pc' : Nat} (hk : t[k]? = some (pc, i, n, pc')) : DI M pc i n pc' := by
  have h1 := List.all_eq_true.mp h _ (List.mem_of_getElem? hk)
  simp only [Bool.and_eq_true, decide_eq_true_eq] at h1
  exact h1
def onI (P : Int → PH → Prop) : Option PV → PH → Prop := fun r h => match r with
  | some (.inl x) => R32 x → P x h
  | _ => False
def onJ (P : Int → PH → Prop) : Option PV → PH → Prop := fun r h => match r with
  | some (.inr (.inl x)) => R64 x → P x h
  | _ => False
def onR (P : Nat → PH → Prop) : Option PV → PH → Prop := fun r h => match r with
  | some (.inr (.inr (.inl x))) => P x h
  | _ => False
def onF (P : UInt32 → PH → Prop) : Option PV → PH → Prop := fun r h => match r with
  | some (.inr (.inr (.inr (.inl x)))) => P x h
  | _ => False
def onV (P : PH → Prop) : Option PV → PH → Prop := fun r h => r = none ∧ P h
