/-! LAWS: codes, what they tell, by both sides -/
def clp (x : Int) : Int := max (-1000000) (min 1000000 x)
def is01 (x : Int) : Bool := decide (x = 0) || decide (x = 1)
theorem is01_iff {x : Int} : is01 x = true ↔ x = 0 ∨ x = 1 := by unfold is01; simp
def btw (c a b : Int) : Int := if c = 3003 then (if a = b then 1 else 0) else if c = 3004 then (if a < b then 1 else 0) else if c = 3005 then (if b < a then 1 else 0) else if c = 3007 then iand a b else if c = 3008 then ior a b else clp (if c = 3000 then a + b else if c = 3001 then a - b else a * b)
def opS (e : Nat → Int) (c : Int) (st : List Int) : Option (List Int) :=
  if c < 1000 then (if st.length < 64 then some (c :: st) else none)
  else if c < 3000 then (if st.length < 64 then some (e (c - 1000).toNat :: st) else none)
  else if c = 3006 then (match st with
    | x :: r => if is01 x then some ((1 - x) :: r) else none
    | _ => none)
  else if c = 3009 then (match st with
    | b :: a :: x :: r => if is01 x then some ((if x = 1 then a else b) :: r) else none
    | _ => none)
  else (match st with
    | b :: a :: r => if c = 3007 ∨ c = 3008 then (if is01 a && is01 b then some (btw c a b :: r) else none) else some (btw c a b :: r)
    | _ => none)
def rnO (e : Nat → Int) : List Int → List Int → Option (List Int)
  | [], st => some st
  | c :: cs, st => match opS e c st with
    | some st' => rnO e cs st'
    | none => none
theorem rnO_app (e : Nat → Int) : ∀ (a b st : List Int), rnO e (a ++ b) st = (rnO e a st).bind (rnO e b) := by
  intro a
  induction a with
  | nil => intro b st; rfl
  | cons c a ih =>
    intro b st
    show (match opS e c st with | some st' => rnO e (a ++ b) st' | none => none) = (match opS e c st with | some st' => rnO e a st' | none => none).bind (rnO e b)
    cases opS e c st with
    | none => rfl
    | some st' => exact ih b st'
def okd (W : Bool) (c : Int) : Prop := (0 ≤ c ∧ c < 1000) ∨ (c = 1000 ∨ (W = true ∧ 1001 ≤ c ∧ c ≤ 1003) ∨ (W = false ∧ 1004 ≤ c ∧ c ≤ 1005)) ∨ (3000 ≤ c ∧ c ≤ 3009)
def enO (e : Nat → Int) : Prop := ∀ i, -1000000 ≤ e i ∧ e i ≤ 1000000
def bnd (st : List Int) : Prop := ∀ x ∈ st, -1000000 ≤ x ∧ x ≤ 1000000
theorem and01 {a b : Int} (ha : is01 a = true) (hb : is01 b = true) : is01 (iand a b) = true ∧ is01 (ior a b) = true := by
  rcases is01_iff.mp ha with h | h <;> rcases is01_iff.mp hb with h' | h' <;> subst h h' <;> decide
theorem btw_rg {c a b : Int} (h : c = 3007 ∨ c = 3008 → is01 a = true ∧ is01 b = true) : -1000000 ≤ btw c a b ∧ btw c a b ≤ 1000000 := by
  unfold btw
  split
  · split <;> omega
  · split
    · split <;> omega
    · split
      · split <;> omega
      · split
        · rename_i e; obtain ⟨x, y⟩ := h (Or.inl e); rcases is01_iff.mp (and01 x y).1 with z | z <;> omega
        · split
          · rename_i e; obtain ⟨x, y⟩ := h (Or.inr e); rcases is01_iff.mp (and01 x y).2 with z | z <;> omega
          · unfold clp; omega
theorem bnd_c {x : Int} {st : List Int} (hx : -1000000 ≤ x ∧ x ≤ 1000000) (h : bnd st) : bnd (x :: st) := fun y hy => by
  rcases List.mem_cons.mp hy with z | z
  · rw [z]; exact hx
  · exact h y z
theorem bnd_t {x : Int} {st : List Int} (h : bnd (x :: st)) : bnd st := fun y hy => h y (List.mem_cons_of_mem _ hy)
theorem bnd_h {x : Int} {st : List Int} (h : bnd (x :: st)) : -1000000 ≤ x ∧ x ≤ 1000000 := h x List.mem_cons_self
/-- a code is that of a sum (b: of a truth), with so many places at most -/
def WT (W : Bool) (cs : List Int) (b : Bool) (m : Nat) : Prop := (∀ c ∈ cs, okd W c) ∧ ∀ e, enO e → ∃ x, (-1000000 ≤ x ∧ x ≤ 1000000) ∧ (b = true → is01 x = true) ∧ ∀ st : List Int, st.length + m ≤ 64 → rnO e cs st = some (x :: st)
theorem WT.mono {W : Bool} {cs : List Int} {b : Bool} {m m' : Nat} (h : WT W cs b m) (hm : m ≤ m') : WT W cs b m' := ⟨h.1, fun e he => by
  obtain ⟨x, h1, h2, h3⟩ := h.2 e he
  exact ⟨x, h1, h2, fun st hs => h3 st (by omega)⟩⟩
theorem WT_num {W : Bool} {n : Int} (h1 : 0 ≤ n) (h2 : n < 1000) : WT W [n] false 1 := ⟨fun c hc => by rw [List.mem_singleton.mp hc]; exact Or.inl ⟨h1, h2⟩, fun e he => ⟨n, by omega, fun h => (by cases h), fun st hs => by
  show (match opS e n st with | some st' => rnO e [] st' | none => none) = _
  unfold opS
  rw [if_pos h2, if_pos (by omega)]; rfl⟩⟩
theorem WT_wrd {W : Bool} {c : Int} (h1 : 1000 ≤ c) (h2 : c < 3000) (h3 : okd W c) : WT W [c] false 1 := ⟨fun c' hc => by rw [List.mem_singleton.mp hc]; exact h3, fun e he => ⟨e (c - 1000).toNat, he _, fun h => (by cases h), fun st hs => by
  show (match opS e c st with | some st' => rnO e [] st' | none => none) = _
  unfold opS
  rw [if_neg (by omega), if_pos h2, if_pos (by omega)]; rfl⟩⟩
theorem okd_app {W : Bool} {a b : List Int} (h1 : ∀ c ∈ a, okd W c) (h2 : ∀ c ∈ b, okd W c) : ∀ c ∈ a ++ b, okd W c := fun c hc => (List.mem_append.mp hc).elim (h1 c) (h2 c)
theorem okd_op {W : Bool} {k : Int} (h : 3000 ≤ k ∧ k ≤ 3009) : ∀ c ∈ [k], okd W c := fun c hc => by rw [List.mem_singleton.mp hc]; exact Or.inr (Or.inr h)
theorem rn1 (e : Nat → Int) (c : Int) (st : List Int) : rnO e [c] st = opS e c st := by
  show (match opS e c st with | some st' => rnO e [] st' | none => none) = _
  cases opS e c st <;> rfl
/-- two operands -/
theorem WT_bin {W : Bool} {a b : List Int} {ta tr : Bool} {k : Int} {m1 m2 m : Nat} (ha : WT W a ta m1) (hb : WT W b ta m2) (hk : 3000 ≤ k ∧ k ≤ 3008 ∧ k ≠ 3006) (hka : k = 3007 ∨ k = 3008 → ta = true) (hkr : tr = true → 3003 ≤ k) (h1 : m1 ≤ m) (h2 : m2 + 1 ≤ m) : WT W (a ++ (b ++ [k])) tr m := by
  refine ⟨okd_app ha.1 (okd_app hb.1 (okd_op ⟨by omega, by omega⟩)), fun e he => ?_⟩
  obtain ⟨x, x1, x2, x3⟩ := ha.2 e he
  obtain ⟨y, y1, y2, y3⟩ := hb.2 e he
  have h01 : k = 3007 ∨ k = 3008 → is01 x = true ∧ is01 y = true := fun z => ⟨x2 (hka z), y2 (hka z)⟩
  refine ⟨btw k x y, btw_rg h01, fun htr => ?_, fun st hs => ?_⟩
  · have := hkr htr
    unfold btw
    split
    · split <;> rfl
    · split
      · split <;> rfl
      · split
        · split <;> rfl
        · split
          · rename_i z; exact (and01 (h01 (Or.inl z)).1 (h01 (Or.inl z)).2).1
          · split
            · rename_i z; exact (and01 (h01 (Or.inr z)).1 (h01 (Or.inr z)).2).2
            · omega
  · rw [rnO_app, x3 st (by omega)]
    show rnO e (b ++ [k]) (x :: st) = _
    rw [rnO_app, y3 (x :: st) (by simp; omega)]
    show rnO e [k] (y :: x :: st) = _
    rw [rn1]
    unfold opS
    rw [if_neg (by omega), if_neg (by omega), if_neg (by omega), if_neg (by omega)]
    show (if k = 3007 ∨ k = 3008 then (if is01 x && is01 y then some (btw k x y :: st) else none) else some (btw k x y :: st)) = _
    split
    · rename_i z; rw [(h01 z).1, (h01 z).2]; rfl
    · rfl
theorem WT_not {W : Bool} {a : List Int} {m : Nat} (ha : WT W a true m) : WT W (a ++ [3006]) true m := by
  refine ⟨okd_app ha.1 (okd_op (by omega)), fun e he => ?_⟩
  obtain ⟨x, x1, x2, x3⟩ := ha.2 e he
  have hx := is01_iff.mp (x2 rfl)
  refine ⟨1 - x, by omega, fun _ => is01_iff.mpr (by omega), fun st hs => ?_⟩
  rw [rnO_app, x3 st hs]
  show rnO e [3006] (x :: st) = _
  rw [rn1]
  show (if is01 x then some ((1 - x) :: st) else none) = _
  rw [x2 rfl]; rfl
theorem WT_if {W : Bool} {a b c : List Int} {m1 m2 m3 m : Nat} (hc : WT W c true m1) (ha : WT W a false m2) (hb : WT W b false m3) (h1 : m1 ≤ m) (h2 : m2 + 1 ≤ m) (h3 : m3 + 2 ≤ m) : WT W (c ++ (a ++ (b ++ [3009]))) false m := by
  refine ⟨okd_app hc.1 (okd_app ha.1 (okd_app hb.1 (okd_op (by omega)))), fun e he => ?_⟩
  obtain ⟨x, x1, x2, x3⟩ := hc.2 e he
  obtain ⟨y, y1, y2, y3⟩ := ha.2 e he
  obtain ⟨z, z1, z2, z3⟩ := hb.2 e he
  refine ⟨if x = 1 then y else z, by split <;> assumption, fun h => by (cases h), fun st hs => ?_⟩
  rw [rnO_app, x3 st (by omega)]
  show rnO e (a ++ (b ++ [3009])) (x :: st) = _
  rw [rnO_app, y3 (x :: st) (by simp; omega)]
  show rnO e (b ++ [3009]) (y :: x :: st) = _
  rw [rnO_app, z3 (y :: x :: st) (by simp; omega)]
  show rnO e [3009] (z :: y :: x :: st) = _
  rw [rn1]
  show (if is01 x then some ((if x = 1 then y else z) :: st) else none) = _
  rw [x2 rfl]; rfl
/-- what a law tells -/
def lawV (cs : List Int) (e : Nat → Int) : Int := match rnO e cs [] with
  | some (x :: _) => x
  | _ => 0
theorem WT.val {W : Bool} {cs : List Int} {b : Bool} {m : Nat} (h : WT W cs b m) (hm : m ≤ 64) {e : Nat → Int} (he : enO e) : rnO e cs [] = some [lawV cs e] ∧ -1000000 ≤ lawV cs e ∧ lawV cs e ≤ 1000000 := by
  obtain ⟨x, x1, x2, x3⟩ := h.2 e he
  have := x3 [] (by simpa using hm)
  unfold lawV
  rw [this]
  exact ⟨rfl, x1⟩
theorem opS_congr {W : Bool} {e e' : Nat → Int} {c : Int} (hc : okd W c) (h : ∀ i : Nat, i = 0 ∨ (W = true ∧ 1 ≤ i ∧ i ≤ 3) ∨ (W = false ∧ 4 ≤ i ∧ i ≤ 5) → e i = e' i) (st : List Int) : opS e c st = opS e' c st := by
  unfold opS
  split
  · rfl
  · split
    · rw [h (c - 1000).toNat (by
        rcases hc with z | ⟨z | z | z⟩ | z
        · omega
        · omega
        · exact Or.inr (Or.inl ⟨z.1, by omega, by omega⟩)
        · exact Or.inr (Or.inr ⟨z.1, by omega, by omega⟩)
        · omega)]
    · rfl
theorem rnO_congr {W : Bool} {e e' : Nat → Int} (h : ∀ i : Nat, i = 0 ∨ (W = true ∧ 1 ≤ i ∧ i ≤ 3) ∨ (W = false ∧ 4 ≤ i ∧ i ≤ 5) → e i = e' i) : ∀ (cs : List Int), (∀ c ∈ cs, okd W c) → ∀ st, rnO e cs st = rnO e' cs st := by
  intro cs
  induction cs with
  | nil => intro _ st; rfl
  | cons c cs ih =>
    intro hc st
    show (match opS e c st with | some st' => rnO e cs st' | none => none) = (match opS e' c st with | some st' => rnO e' cs st' | none => none)
    rw [opS_congr (hc c List.mem_cons_self) h st]
    cases opS e' c st with
    | none => rfl
    | some st' => exact ih (fun c' hc' => hc c' (List.mem_cons_of_mem _ hc')) st'
theorem opS_bnd {W : Bool} {e : Nat → Int} (he : enO e) {c : Int} (hc : okd W c) {st st' : List Int} (hb : bnd st) (h : opS e c st = some st') : bnd st' ∧ st'.length ≤ max st.length 64 := by
  unfold opS at h
  split at h
  · split at h
    · cases h; exact ⟨bnd_c (by rcases hc with z | ⟨z | z | z⟩ | z <;> omega) hb, by simp; omega⟩
    · cases h
  · split at h
    · split at h
      · cases h; exact ⟨bnd_c (he _) hb, by simp; omega⟩
      · cases h
    · split at h
      · split at h
        · rename_i x r
          split at h
          · rename_i z
            cases h
            have := is01_iff.mp z
            exact ⟨bnd_c (by omega) (bnd_t hb), by simp; omega⟩
          · cases h
        · cases h
      · split at h
        · split at h
          · rename_i b a x r
            split at h
            · cases h
              refine ⟨bnd_c ?_ (bnd_t (bnd_t (bnd_t hb))), by simp; omega⟩
              have h1 := bnd_h hb
              have h2 := bnd_h (bnd_t hb)
              split <;> assumption
            · cases h
          · cases h
        · split at h
          · rename_i b a r
            have key : ∀ z : (c = 3007 ∨ c = 3008 → is01 a = true ∧ is01 b = true), bnd (btw c a b :: r) ∧ (btw c a b :: r).length ≤ max (b :: a :: r).length 64 := fun z => ⟨bnd_c (btw_rg z) (bnd_t (bnd_t hb)), by simp; omega⟩
            split at h
            · split at h
              · rename_i z1 z2
                cases h
                simp only [Bool.and_eq_true] at z2
                exact key (fun _ => z2)
              · cases h
            · rename_i z1
              cases h
              exact key (fun z => absurd z z1)
          · cases h
/-- a stack in a row -/
def STK (h : PH) (A : Nat) : List Int → Prop
  | [] => True
  | x :: st => gi h A st.length = x ∧ STK h A st
theorem STK.keep {h h' : PH} {A : Nat} : ∀ {st : List Int}, STK h A st → (∀ k, k < st.length → gi h' A k = gi h A k) → STK h' A st := by
  intro st
  induction st with
  | nil => intro _ _; trivial
  | cons x st ih =>
    intro hs he
    exact ⟨by rw [he st.length (by simp)]; exact hs.1, ih hs.2 (fun k hk => he k (by simp; omega))⟩
theorem STK.put {h : PH} {A : Nat} {st : List Int} (hs : STK h A st) (x : Int) : STK (si h A st.length x) A (x :: st) := ⟨gi_s0, hs.keep (fun k hk => gi_s2 (by omega))⟩
/-- the class's codes -/
def enc (c : Int) : Int := if c < 1000 then c else if c < 3000 then (if 1004 ≤ c then 1002 - c else 999 - c) else 2995 - c
section
variable {d : Nat} {h : PH} {Q : Option PV → PH → Prop}
variable {a : Nat} {e : Nat → Int}
def frR (A : Nat) : Nat → Nat → Prop := fun q _ => q = A
theorem c_work {c : Int} (ca : CLf a = 3) {st st' : List Int} (hc : 3000 ≤ c ∧ c ≤ 3009) (hS : STK h (a + 3) st) (hb : bnd st) (hl : st.length ≤ 64) (ho : opS e c st = some st') (hq : ∀ h', STK h' (a + 3) st' → fr (frR (a + 3)) h h' → Q (some (vI (st'.length : Int))) h') : C2 (d + 1) mX2_work [vR a, vI (enc c), vI (st.length : Int)] h Q := by
  have en : enc c = 2995 - c := by unfold enc; rw [if_neg (by omega), if_neg (by omega)]
  rw [en]
  unfold opS at ho
  rw [if_neg (by omega), if_neg (by omega)] at ho
  refine EX2_work fun _ _ => ?_
  by_cases c6 : c = 3006
  · rw [if_pos c6] at ho
    cases st with
    | nil => cases ho
    | cons x r =>
      dsimp only at ho
      split at ho
      · rename_i z
        cases ho
        have := is01_iff.mp z
        refine BX2_work_0 ca ⟨fun z => by omega, fun _ => ⟨fun z => by simp at z; omega, fun _ => ?_⟩⟩
        have el : w32 (((x :: r).length : Int) - 1) = (r.length : Int) := by rw [w32_r (by simp only [List.length_cons]; omega) (by simp only [List.length_cons] at hl ⊢; omega)]; simp
        rw [el]
        simp only [List.length_cons] at hl
        refine ⟨⟨by omega, by omega⟩, ⟨by omega, by omega⟩, fun h2 e2 => ?_⟩
        simp only [Int.toNat_natCast] at e2
        rw [hS.1, w32_r (by omega) (by omega)] at e2
        subst e2
        exact hq _ (hS.2.put _) (fr.rf.si rfl)
      · cases ho
  · rw [if_neg c6] at ho
    refine BX2_work_0 ca ⟨fun _ => ?_, fun z => by omega⟩
    by_cases c9 : c = 3009
    · rw [if_pos c9] at ho
      match st, hS, hb, hl, ho with
      | [], _, _, _, ho => cases ho
      | [_], _, _, _, ho => cases ho
      | [_, _], _, _, _, ho => cases ho
      | b :: a' :: x :: r, hS, hb, hl, ho =>
        dsimp only at ho
        split at ho
        · rename_i z
          cases ho
          have := is01_iff.mp z
          simp only [List.length_cons] at hl ⊢
          refine BX2_work_31 ca ⟨fun z => by omega, fun _ => ⟨fun z => by omega, fun _ => ?_⟩⟩
          have e3 : w32 (((r.length + 1 + 1 + 1 : Nat) : Int) - 3) = (r.length : Int) := by rw [w32_r (by omega) (by omega)]; omega
          have e1 : w32 (((r.length + 1 + 1 + 1 : Nat) : Int) - 1) = ((r.length + 2 : Nat) : Int) := by rw [w32_r (by omega) (by omega)]; omega
          have e2 : w32 (((r.length + 1 + 1 + 1 : Nat) : Int) - 2) = ((r.length + 1 : Nat) : Int) := by rw [w32_r (by omega) (by omega)]; omega
          rw [e1, e2, e3]
          simp only [Int.toNat_natCast]
          have s1 : gi h (a + 3) (r.length + 2) = b := hS.1
          have s2 : gi h (a + 3) (r.length + 1) = a' := hS.2.1
          have s3 : gi h (a + 3) r.length = x := hS.2.2.1
          rw [s1, s2, s3]
          refine ⟨⟨by omega, by omega⟩, fun z1 => ⟨⟨by omega, by omega⟩, ⟨by omega, by omega⟩, fun h2 e2 => ?_⟩, fun z1 => ⟨⟨by omega, by omega⟩, ⟨by omega, by omega⟩, fun h2 e2 => ?_⟩⟩
          · subst e2
            rw [if_neg (by omega)] at hq
            exact hq _ (hS.2.2.2.put _) (fr.rf.si rfl)
          · subst e2
            rw [if_pos (by omega)] at hq
            exact hq _ (hS.2.2.2.put _) (fr.rf.si rfl)
        · cases ho
    · rw [if_neg c9] at ho
      match st, hS, hb, hl, ho with
      | [], _, _, _, ho => cases ho
      | [_], _, _, _, ho => cases ho
      | b :: x :: r, hS, hb, hl, ho =>
        dsimp only at ho
        have hst : st' = btw c x b :: r ∧ (c = 3007 ∨ c = 3008 → is01 x = true ∧ is01 b = true) := by
          split at ho
          · split at ho
            · rename_i z1 z2
              cases ho
              simp only [Bool.and_eq_true] at z2
              exact ⟨rfl, fun _ => z2⟩
            · cases ho
          · rename_i z1
            cases ho
            exact ⟨rfl, fun z => absurd z z1⟩
        obtain ⟨hst, h01⟩ := hst
        subst hst
        simp only [List.length_cons] at hl ⊢
        have b1 := bnd_h hb
        have b2 := bnd_h (bnd_t hb)
        have fin : ∀ y : Int, clp y = btw c x b → T2 (d + 1) mX2_work 252 [some (vR a), none, some (vI ((r.length + 1 + 1 : Nat) : Int)), none, none, some (vJ y), none] [] h Q := by
          intro y hy
          refine BX2_work_252 ca (c_minJ fun _ => c_maxJ fun _ => ?_)
          have e2 : w32 (((r.length + 1 + 1 : Nat) : Int) - 2) = (r.length : Int) := by rw [w32_r (by omega) (by omega)]; omega
          have e1 : w32 (((r.length + 1 + 1 : Nat) : Int) - 1) = ((r.length + 1 : Nat) : Int) := by rw [w32_r (by omega) (by omega)]; omega
          rw [e1, e2]
          simp only [Int.toNat_natCast]
          have hy2 : max (-1000000) (min 1000000 y) = btw c x b := hy
          rw [hy2]
          have := btw_rg h01
          refine ⟨⟨by omega, by omega⟩, fun h2 eh => ?_⟩
          subst eh
          rw [w32_r (by omega) (by omega)]
          exact hq _ (hS.2.2.put _) (fr.rf.si rfl)
        refine BX2_work_31 ca ⟨fun _ => ?_, fun z => by omega⟩
        refine BX2_work_84 ca ⟨fun _ => ?_, fun z => by omega⟩
        have e1 : w32 (((r.length + 1 + 1 : Nat) : Int) - 1) = ((r.length + 1 : Nat) : Int) := by rw [w32_r (by omega) (by omega)]; omega
        have e2 : w32 (((r.length + 1 + 1 : Nat) : Int) - 2) = (r.length : Int) := by rw [w32_r (by omega) (by omega)]; omega
        rw [e1, e2]
        simp only [Int.toNat_natCast]
        have s1 : gi h (a + 3) (r.length + 1) = b := hS.1
        have s2 : gi h (a + 3) r.length = x := hS.2.1
        rw [s1, s2]
        have cl01 : ∀ y : Int, y = 0 ∨ y = 1 → clp y = y := fun y hy => by unfold clp; omega
        have p1 : x * b ≤ 1000000 * 1000000 := by
          have h1 := Int.natAbs_mul x b
          have h2 : x.natAbs * b.natAbs ≤ 1000000 * 1000000 := Nat.mul_le_mul (by omega) (by omega)
          omega
        have p2 : -(1000000 * 1000000) ≤ x * b := by
          have h1 := Int.natAbs_mul x b
          have h2 : x.natAbs * b.natAbs ≤ 1000000 * 1000000 := Nat.mul_le_mul (by omega) (by omega)
          omega
        refine ⟨⟨by omega, by omega⟩, ⟨by omega, by omega⟩, fun z => ?_, fun z => by omega, fun z => ⟨fun y => ?_, fun y => ?_⟩, fun z => ⟨fun y => ?_, fun y => ?_⟩, fun z => ⟨fun y => ?_, fun y => ?_⟩, fun z => ?_, fun z => ?_, fun z => ?_, fun z => ?_⟩
        · have cc : c = 3007 := by omega
          refine fin _ ?_
          rw [cl01 _ (is01_iff.mp (and01 (h01 (Or.inl cc)).1 (h01 (Or.inl cc)).2).1)]
          unfold btw
          rw [if_neg (by omega), if_neg (by omega), if_neg (by omega), if_pos cc]
        · refine BX2_work_230 ca (fin _ ?_)
          have cc : c = 3005 := by omega
          rw [cl01 _ (by omega)]; unfold btw
          rw [if_neg (by omega), if_neg (by omega), if_pos cc, if_neg (by omega)]
        · refine BX2_work_230 ca (fin _ ?_)
          have cc : c = 3005 := by omega
          rw [cl01 _ (by omega)]; unfold btw
          rw [if_neg (by omega), if_neg (by omega), if_pos cc, if_pos (by omega)]
        · refine BX2_work_214 ca (fin _ ?_)
          have cc : c = 3004 := by omega
          rw [cl01 _ (by omega)]; unfold btw
          rw [if_neg (by omega), if_pos cc, if_neg (by omega)]
        · refine BX2_work_214 ca (fin _ ?_)
          have cc : c = 3004 := by omega
          rw [cl01 _ (by omega)]; unfold btw
          rw [if_neg (by omega), if_pos cc, if_pos (by omega)]
        · refine BX2_work_198 ca (fin _ ?_)
          have cc : c = 3003 := by omega
          rw [cl01 _ (by omega)]; unfold btw
          rw [if_pos cc, if_neg y]
        · refine BX2_work_198 ca (fin _ ?_)
          have cc : c = 3003 := by omega
          rw [cl01 _ (by omega)]; unfold btw
          rw [if_pos cc, if_pos y]
        · refine fin _ ?_
          have cc : c = 3002 := by omega
          rw [w64_of (by omega) (by omega)]
          unfold btw
          rw [if_neg (by omega), if_neg (by omega), if_neg (by omega), if_neg (by omega), if_neg (by omega), if_neg (by omega), if_neg (by omega)]
        · refine fin _ ?_
          have cc : c = 3001 := by omega
          rw [w32_r (by omega) (by omega)]
          unfold btw
          rw [if_neg (by omega), if_neg (by omega), if_neg (by omega), if_neg (by omega), if_neg (by omega), if_neg (by omega), if_pos cc]
        · refine fin _ ?_
          have cc : c = 3000 := by omega
          rw [w32_r (by omega) (by omega)]
          unfold btw
          rw [if_neg (by omega), if_neg (by omega), if_neg (by omega), if_neg (by omega), if_neg (by omega), if_pos cc]
        · have cc : c = 3008 := by omega
          refine fin _ ?_
          rw [cl01 _ (is01_iff.mp (and01 (h01 (Or.inr cc)).1 (h01 (Or.inr cc)).2).2)]
          unfold btw
          rw [if_neg (by omega), if_neg (by omega), if_neg (by omega), if_neg (by omega), if_pos cc]
/-- a law of the class -/
def LawC (h : PH) (a : Nat) (cs : List Int) : Prop := gi h a 3 = cs.length ∧ cs.length ≤ 900 ∧ ∀ i, i < cs.length → gi h (a + 1) i = enc (cs.getD i 0)
def ofC (h : PH) (a : Nat) (W : Bool) (e : Nat → Int) : Prop := gi h (a + 2) 0 = e 0 ∧ (W = true → gi h (a + 2) 1 = e 1 ∧ gi h (a + 2) 2 = e 2 ∧ gi h (a + 2) 3 = e 3) ∧ (W = false → gi h (a + 2) 1 = e 4 ∧ gi h (a + 2) 2 = e 5)
theorem drop_c {L : List Int} {i : Nat} (hi : i < L.length) : L.drop i = L.getD i 0 :: L.drop (i + 1) := by
  rw [List.getD_eq_getElem?_getD, List.getElem?_eq_getElem hi]
  exact List.drop_eq_getElem_cons hi
theorem tell_loop {W : Bool} (ca : CLf a = 3) {cs : List Int} (hL : LawC h a cs) (hof : ofC h a W e) (he : enO e) (hok : ∀ c ∈ cs, okd W c) {x : Int} (hq : ∀ h', fr (frR (a + 3)) h h' → Q (some (vI x)) h') :
    ∀ (m i : Nat) (st : List Int) (h1 : PH), i + m = cs.length → rnO e (cs.drop i) st = some [x] → STK h1 (a + 3) st → bnd st → st.length ≤ 64 → fr (frR (a + 3)) h h1 → T2 (d + 2) mX2_tell 35 [some (vR a), none, none, none, none, some (vI (st.length : Int)), some (vI (i : Int)), none] [] h1 Q := by
  obtain ⟨l1, l2, l3⟩ := hL
  intro m
  induction m with
  | zero =>
    intro i st h1 hi hr hS hb hl hF
    have ei : i = cs.length := by omega
    rw [ei, List.drop_length] at hr
    have est : st = [x] := Option.some.inj hr
    subst est
    refine BX2_tell_35 ca ⟨fun _ => ?_, fun z => by rw [hF.1 a 3 (by unfold frR; omega), l1] at z; omega⟩
    have : gi h1 (a + 3) 0 = x := hS.1
    rw [this]
    exact hq h1 hF
  | succ m ih =>
    intro i st h1 hi hr hS hb hl hF
    have hil : i < cs.length := by omega
    rw [drop_c hil] at hr
    have hc := hok _ (getD_mem (dd := 0) hil)
    refine BX2_tell_35 ca ⟨fun z => by rw [hF.1 a 3 (by unfold frR; omega), l1] at z; omega, fun _ => ⟨⟨by omega, by omega⟩, ?_⟩⟩
    simp only [Int.toNat_natCast]
    rw [hF.1 (a + 1) i (by unfold frR; omega), l3 i hil, w32_r (x := (i : Int) + 1) (by omega) (by omega), show ((i : Int) + 1) = ((i + 1 : Nat) : Int) by omega]
    generalize cs.getD i 0 = c at *
    have hop : ∃ st', opS e c st = some st' ∧ rnO e (cs.drop (i + 1)) st' = some [x] := by
      cases ho : opS e c st with
      | none =>
        have hr2 : (match opS e c st with | some st' => rnO e (cs.drop (i + 1)) st' | none => none) = some [x] := hr
        rw [ho] at hr2; cases hr2
      | some st' =>
        have hr2 : (match opS e c st with | some st' => rnO e (cs.drop (i + 1)) st' | none => none) = some [x] := hr
        rw [ho] at hr2; exact ⟨st', rfl, hr2⟩
    obtain ⟨st', ho, hr'⟩ := hop
    obtain ⟨hb', hl'⟩ := opS_bnd he hc hb ho
    by_cases c1 : c < 3000
    · have push : ∀ y : Int, st' = y :: st → T2 (d + 2) mX2_tell 35 [some (vR a), none, none, none, none, some (vI (w32 ((st.length : Int) + 1))), some (vI ((i + 1 : Nat) : Int)), none] [] (si h1 (a + 3) st.length y) Q := by
        intro y hy
        subst hy
        have := ih (i + 1) (y :: st) (si h1 (a + 3) st.length y) (by omega) hr' (hS.put y) hb' (by omega) (hF.si rfl)
        rw [w32_r (by omega) (by omega)]
        rw [show ((y :: st).length : Int) = (st.length : Int) + 1 by simp] at this
        exact this
      have en : enc c = if c < 1000 then c else if 1004 ≤ c then 1002 - c else 999 - c := by
        unfold enc; split
        · rfl
        · rfl
      have hlt : st.length < 64 := by
        unfold opS at ho
        split at ho
        · split at ho
          · assumption
          · cases ho
        · split at ho
          · assumption
          · cases ho
      refine ⟨fun z => ⟨fun y => by omega, fun y => ⟨fun w => ?_, fun w => ?_⟩⟩, fun z => ?_⟩
      · have c2 : ¬ c < 1000 := fun c2 => by rw [en, if_pos c2] at w; rcases hc with u | ⟨u | u | u⟩ | u <;> omega
        have hv : st' = e (c - 1000).toNat :: st := by
          unfold opS at ho
          rw [if_neg c2, if_pos c1, if_pos hlt] at ho
          exact (Option.some.inj ho).symm
        rw [en, if_neg c2]
        have hval : ∃ j : Nat, j < 4 ∧ w32 ((-1) - (if 1004 ≤ c then 1002 - c else 999 - c)) = (j : Int) ∧ gi h1 (a + 2) j = e (c - 1000).toNat := by
          have hof1 : ofC h1 a W e := by
            have k2 : ∀ j, gi h1 (a + 2) j = gi h (a + 2) j := fun j => hF.1 (a + 2) j (by unfold frR; omega)
            unfold ofC
            rw [k2, k2, k2, k2]; exact hof
          obtain ⟨f0, f1, f2⟩ := hof1
          rcases hc with u | ⟨u | u | u⟩ | u
          · omega
          · exact ⟨0, by omega, by rw [if_neg (by omega), w32_r (by omega) (by omega)]; omega, by rw [f0, u]; rfl⟩
          · obtain ⟨g1, g2, g3⟩ := f1 u.1
            by_cases u1 : c = 1001
            · exact ⟨1, by omega, by rw [if_neg (by omega), w32_r (by omega) (by omega)]; omega, by rw [g1, u1]; rfl⟩
            · by_cases u2 : c = 1002
              · exact ⟨2, by omega, by rw [if_neg (by omega), w32_r (by omega) (by omega)]; omega, by rw [g2, u2]; rfl⟩
              · have u3 : c = 1003 := by omega
                exact ⟨3, by omega, by rw [if_neg (by omega), w32_r (by omega) (by omega)]; omega, by rw [g3, u3]; rfl⟩
          · obtain ⟨g1, g2⟩ := f2 u.1
            by_cases u1 : c = 1004
            · exact ⟨1, by omega, by rw [if_pos (by omega), w32_r (by omega) (by omega)]; omega, by rw [g1, u1]; rfl⟩
            · have u3 : c = 1005 := by omega
              exact ⟨2, by omega, by rw [if_pos (by omega), w32_r (by omega) (by omega)]; omega, by rw [g2, u3]; rfl⟩
          · omega
        obtain ⟨j, j1, j2, j3⟩ := hval
        rw [j2]
        simp only [Int.toNat_natCast]
        rw [j3]
        refine ⟨⟨by omega, by omega⟩, ⟨by omega, by omega⟩, fun h2 e2 => ?_⟩
        subst e2
        exact push _ hv
      · have c2 : c < 1000 := by
          rcases Int.lt_or_le c 1000 with u | u
          · exact u
          · rw [en, if_neg (by omega)] at w
            split at w <;> omega
        have hv : st' = c :: st := by
          unfold opS at ho
          rw [if_pos c2, if_pos hlt] at ho
          exact (Option.some.inj ho).symm
        rw [en, if_pos c2]
        refine ⟨⟨by omega, by omega⟩, fun h2 e2 => ?_⟩
        subst e2
        exact push _ hv
      · exfalso
        rw [en] at z
        split at z
        · rcases hc with u | ⟨u | u | u⟩ | u <;> omega
        · split at z <;> rcases hc with u | ⟨u | u | u⟩ | u <;> omega
    · have c3 : 3000 ≤ c ∧ c ≤ 3009 := by rcases hc with u | ⟨u | u | u⟩ | u <;> omega
      have en : enc c = 2995 - c := by unfold enc; rw [if_neg (by omega), if_neg (by omega)]
      refine ⟨fun z => by rw [en] at z; omega, fun z => ?_⟩
      refine c_work ca c3 hS hb hl ho (fun h2 b1 b2 _ => ?_)
      exact ih (i + 1) st' h2 (by omega) hr' b1 hb' (by omega) (hF.tr b2)
end
