/-! THE CLASS: spans and slots of a line -/
def srtd : List (Int × Int) → Prop
  | [] => True
  | a :: t => (∀ b ∈ t, a.1 ≤ b.1) ∧ srtd t
theorem srtd_at {L : List (Int × Int)} (hs : srtd L) : ∀ {i j : Nat}, i ≤ j → j < L.length → (L.getD i (0, 0)).1 ≤ (L.getD j (0, 0)).1 := by
  induction L with
  | nil => intro i j _ h; simp at h
  | cons a t ih =>
    intro i j hij hj
    cases i with
    | zero =>
      cases j with
      | zero => exact Int.le_refl _
      | succ j =>
        simp only [List.getD_cons_zero, List.getD_cons_succ]
        have hj' : j < t.length := by simpa using hj
        refine hs.1 _ ?_
        rw [List.getD_eq_getElem?_getD, List.getElem?_eq_getElem hj']
        exact List.getElem_mem hj'
    | succ i =>
      cases j with
      | zero => omega
      | succ j =>
        simp only [List.getD_cons_succ]
        exact ih hs.2 (by omega) (by simpa using hj)
theorem srtd_ins {a : Int × Int} : ∀ {L : List (Int × Int)} (p : Nat), srtd L → p ≤ L.length → (∀ i, i < p → (L.getD i (0, 0)).1 ≤ a.1) → (∀ i, p ≤ i → i < L.length → a.1 ≤ (L.getD i (0, 0)).1) → srtd (L.take p ++ a :: L.drop p) := by
  intro L
  induction L with
  | nil => intro p _ _ _ _; simp [srtd]
  | cons b t ih =>
    intro p hs hp h1 h2
    cases p with
    | zero =>
      refine ⟨fun c hc => ?_, hs⟩
      obtain ⟨i, hi, e⟩ := List.getElem_of_mem (show c ∈ b :: t from hc)
      have := h2 i (by omega) hi
      rw [List.getD_eq_getElem?_getD, List.getElem?_eq_getElem hi, e] at this
      exact this
    | succ p =>
      have hr := ih p hs.2 (by simpa using hp) (fun i hi => by have := h1 (i + 1) (by omega); simpa using this) (fun i h3 h4 => by have := h2 (i + 1) (by omega) (by simpa using h4); simpa using this)
      refine ⟨fun c hc => ?_, hr⟩
      rcases List.mem_append.mp hc with z | z
      · exact hs.1 c (List.mem_of_mem_take z)
      · rcases List.mem_cons.mp z with z | z
        · rw [z]; have := h1 0 (by omega); simpa using this
        · exact hs.1 c (List.mem_of_mem_drop z)
theorem mem_ins {a b : Int × Int} {L : List (Int × Int)} (p : Nat) : b ∈ L.take p ++ a :: L.drop p ↔ b = a ∨ b ∈ L := by
  rw [List.mem_append, List.mem_cons]
  constructor
  · rintro (h | h | h)
    · exact Or.inr (List.mem_of_mem_take h)
    · exact Or.inl h
    · exact Or.inr (List.mem_of_mem_drop h)
  · rintro (h | h)
    · exact Or.inr (Or.inl h)
    · rw [← List.take_append_drop p L] at h
      rcases List.mem_append.mp h with z | z
      · exact Or.inl z
      · exact Or.inr (Or.inr z)
theorem len_ins {a : Int × Int} {L : List (Int × Int)} {p : Nat} (hp : p ≤ L.length) : (L.take p ++ a :: L.drop p).length = L.length + 1 := by
  rw [List.length_append, List.length_cons, List.length_take, List.length_drop]; omega
theorem ins_at {a : Int × Int} {L : List (Int × Int)} {p : Nat} (hp : p ≤ L.length) (i : Nat) : (L.take p ++ a :: L.drop p).getD i (0, 0) = if i < p then L.getD i (0, 0) else if i = p then a else L.getD (i - 1) (0, 0) := by
  have hl : (L.take p).length = p := by rw [List.length_take]; omega
  by_cases h1 : i < p
  · rw [if_pos h1, getD_app _ _ _ (by omega), List.getD_eq_getElem?_getD, List.getD_eq_getElem?_getD, List.getElem?_take, if_pos h1]
  · rw [if_neg h1]
    obtain ⟨m, rfl⟩ : ∃ m, i = p + m := ⟨i - p, by omega⟩
    have := getD_app2 (L.take p) (a :: L.drop p) (0, 0) m
    rw [hl] at this
    rw [this]
    cases m with
    | zero => simp
    | succ m =>
      rw [if_neg (by omega), List.getD_cons_succ, List.getD_eq_getElem?_getD, List.getElem?_drop, List.getD_eq_getElem?_getD, show p + (m + 1) - 1 = p + m by omega]
/-- the class's sweep -/
def swp (wi le : Int) : Int → List (Int × Int) → List (Int × Int)
  | fe, [] => if le ≤ wi - fe then [(fe, wi)] else []
  | fe, a :: t => (if le ≤ min a.1 wi - fe then [(fe, min a.1 wi)] else []) ++ swp wi le (max fe a.2) t
theorem swp_len (wi le : Int) : ∀ (L : List (Int × Int)) (fe : Int), (swp wi le fe L).length ≤ L.length + 1 := by
  intro L
  induction L with
  | nil => intro fe; unfold swp; split <;> simp
  | cons a t ih =>
    intro fe
    unfold swp
    have := ih (max fe a.2)
    split <;> simp <;> omega
theorem covB_cons (a : Int × Int) (t : List (Int × Int)) (q : Int) : covB (a :: t) q = ((decide (a.1 ≤ q) && decide (q < a.2)) || covB t q) := rfl
theorem covB_false {L : List (Int × Int)} {q : Int} (h : ∀ b ∈ L, q < b.1) : covB L q = false := by
  unfold covB
  rw [List.any_eq_false]
  intro b hb
  have := h b hb
  simp; omega
theorem swp_scn {wi le : Int} (hle : 1 ≤ le) {c : Int → Bool} : ∀ (L : List (Int × Int)) (fe : Int), srtd L → (∀ b ∈ L, b.1 < b.2) → (∀ q, fe ≤ q → q < wi → c q = covB L q) → swp wi le fe L = scn c le (wi - fe).toNat (min fe wi) none := by
  intro L
  induction L with
  | nil =>
    intro fe _ _ hc
    unfold swp
    rcases Int.lt_or_le fe wi with h | h
    · rw [show min fe wi = fe by omega, scn_step hle (a := fe) (b := wi) (c := wi) (w := wi) (by omega) (by omega) (by omega) (fun q h1 h2 => by rw [hc q h1 h2]; rfl) (fun q h1 h2 h3 => by omega) (Or.inr (by omega))]
      rw [show (wi - wi).toNat = 0 by omega, show min wi wi = wi by omega]
      simp [scn]
    · rw [show (wi - fe).toNat = 0 by omega, if_neg (by omega)]; rfl
  | cons a t ih =>
    intro fe hs hlr hc
    have ha := hlr a List.mem_cons_self
    unfold swp
    rcases Int.lt_or_le fe wi with h | h
    · rcases Int.lt_or_le fe a.2 with h2 | h2
      · have ht := ih a.2 hs.2 (fun b hb => hlr b (List.mem_cons_of_mem _ hb)) (fun q q1 q2 => by rw [hc q (by omega) q2, covB_cons, decide_eq_false (show ¬ q < a.2 by omega)]; simp)
        rw [show max fe a.2 = a.2 by omega, ht, show min fe wi = fe by omega]
        rcases Int.lt_or_le fe a.1 with h3 | h3
        · rw [scn_step hle (a := fe) (b := min a.1 wi) (c := a.2) (w := wi) (by omega) (by omega) (by omega) (fun q q1 q2 => by
            rw [hc q q1 (by omega)]
            exact covB_false (fun b hb => by
              rcases List.mem_cons.mp hb with z | z
              · rw [z]; omega
              · have := hs.1 b z; omega)) (fun q q1 q2 q3 => by rw [hc q (by omega) q3, covB_cons, decide_eq_true (show a.1 ≤ q by omega), decide_eq_true q2]; rfl) (by omega)]
        · rw [scn_step hle (a := fe) (b := fe) (c := a.2) (w := wi) (by omega) (by omega) (by omega) (fun q q1 q2 => by omega) (fun q q1 q2 q3 => by rw [hc q (by omega) q3, covB_cons, decide_eq_true (show a.1 ≤ q by omega), decide_eq_true q2]; rfl) (by omega)]
          rw [if_neg (by omega), if_neg (by omega)]
      · have ht := ih fe hs.2 (fun b hb => hlr b (List.mem_cons_of_mem _ hb)) (fun q q1 q2 => by rw [hc q q1 q2, covB_cons, decide_eq_false (show ¬ q < a.2 by omega)]; simp)
        rw [show max fe a.2 = fe by omega, ht, if_neg (by omega), List.nil_append]
    · have ht := ih (max fe a.2) hs.2 (fun b hb => hlr b (List.mem_cons_of_mem _ hb)) (fun q q1 q2 => by omega)
      rw [ht, if_neg (by omega), List.nil_append, show (wi - max fe a.2).toNat = 0 by omega, show (wi - fe).toNat = 0 by omega]
      rfl
theorem covB_mem {L M : List (Int × Int)} (h : ∀ b, b ∈ L ↔ b ∈ M) : covB L = covB M := by
  funext q
  unfold covB
  rw [Bool.eq_iff_iff, List.any_eq_true, List.any_eq_true]
  constructor
  · rintro ⟨b, h1, h2⟩; exact ⟨b, (h b).mp h1, h2⟩
  · rintro ⟨b, h1, h2⟩; exact ⟨b, (h b).mpr h1, h2⟩
theorem swp_cut {wi le : Int} (hle : 1 ≤ le) (hw : 0 ≤ wi) {L M : List (Int × Int)} (hs : srtd L) (hlr : ∀ b ∈ L, b.1 < b.2) (hm : ∀ b, b ∈ L ↔ b ∈ M) : swp wi le 0 L = cutS wi le M := by
  rw [swp_scn hle L 0 hs hlr (fun q _ _ => rfl), covB_mem hm]
  unfold cutS
  rw [show wi - 0 = wi by omega, show min 0 wi = 0 by omega]
/-- any list of spans can be sorted -/
theorem ex_srt : ∀ M : List (Int × Int), ∃ L, srtd L ∧ (∀ b, b ∈ L ↔ b ∈ M) ∧ L.length = M.length := by
  intro M
  induction M with
  | nil => exact ⟨[], trivial, fun _ => Iff.rfl, rfl⟩
  | cons a t ih =>
    obtain ⟨L, h1, h2, h3⟩ := ih
    have key : ∃ p, p ≤ L.length ∧ (∀ i, i < p → (L.getD i (0, 0)).1 ≤ a.1) ∧ (∀ i, p ≤ i → i < L.length → a.1 ≤ (L.getD i (0, 0)).1) := by
      clear h2 h3
      induction L with
      | nil => exact ⟨0, Nat.le_refl _, fun i hi => by omega, fun i _ hi => by simp at hi⟩
      | cons b L ih2 =>
        rcases Int.lt_or_le a.1 b.1 with z | z
        · refine ⟨0, Nat.zero_le _, fun i hi => by omega, fun i _ hi => ?_⟩
          have := srtd_at h1 (Nat.zero_le i) hi
          simp only [List.getD_cons_zero] at this
          omega
        · obtain ⟨p, p1, p2, p3⟩ := ih2 h1.2
          refine ⟨p + 1, by simpa using p1, fun i hi => ?_, fun i hi1 hi2 => ?_⟩
          · cases i with
            | zero => simpa using z
            | succ i => simpa using p2 i (by omega)
          · cases i with
            | zero => omega
            | succ i => simpa using p3 i (by omega) (by simpa using hi2)
    obtain ⟨p, p1, p2, p3⟩ := key
    refine ⟨L.take p ++ a :: L.drop p, srtd_ins p h1 p1 p2 p3, fun b => ?_, by rw [len_ins p1, h3]; rfl⟩
    rw [mem_ins, List.mem_cons, h2]
theorem cutS_len {wi le : Int} (hle : 1 ≤ le) (hw : 0 ≤ wi) {M : List (Int × Int)} (hlr : ∀ b ∈ M, b.1 < b.2) : (cutS wi le M).length ≤ M.length + 1 := by
  obtain ⟨L, h1, h2, h3⟩ := ex_srt M
  rw [← swp_cut hle hw h1 (fun b hb => hlr b ((h2 b).mp hb)) h2, ← h3]
  exact swp_len wi le L 0
section
variable {d : Nat} {h : PH} {Q : Option PV → PH → Prop} {u : Nat}
/-- the spans that wait -/
def SP (h : PH) (u : Nat) (L : List (Int × Int)) : Prop := gi h u 9 = L.length ∧ L.length ≤ 6 ∧ ∀ i, i < L.length → gi h (u + 6) i = (L.getD i (0, 0)).1 ∧ gi h (u + 7) i = (L.getD i (0, 0)).2
def frP (u : Nat) : Nat → Nat → Prop := fun q k => (q = u ∧ k = 9) ∨ q = u + 6 ∨ q = u + 7
theorem addSpan_end {a b : Int} (cu : CLf u = 8) {L : List (Int × Int)} (hL : L.length < 6) (hs : srtd L) {h1 : PH} {p : Nat} (hp : p ≤ L.length) (g9 : gi h1 u 9 = L.length) (hF : fr (frP u) h h1)
    (hlo : ∀ i, i < p → gi h1 (u + 6) i = (L.getD i (0, 0)).1 ∧ gi h1 (u + 7) i = (L.getD i (0, 0)).2) (hup : ∀ i, p ≤ i → i < L.length → gi h1 (u + 6) (i + 1) = (L.getD i (0, 0)).1 ∧ gi h1 (u + 7) (i + 1) = (L.getD i (0, 0)).2)
    (h3 : ∀ i, i < p → (L.getD i (0, 0)).1 ≤ a) (h4 : ∀ i, p ≤ i → i < L.length → a ≤ (L.getD i (0, 0)).1)
    (hq : ∀ h' L', SP h' u L' → srtd L' → (∀ c, c ∈ L' ↔ c = (a, b) ∨ c ∈ L) → L'.length = L.length + 1 → fr (frP u) h h' → Q none h') : T2 d mX7_addSpan 65 [some (vR u), some (vI a), some (vI b), some (vI (p : Int))] [] h1 Q := by
  refine BX7_addSpan_65 cu ⟨⟨by omega, by omega⟩, fun h2 e2 => ⟨⟨by omega, by omega⟩, fun h5 e5 h6 e6 => ?_⟩⟩
  subst e2 e5 e6
  simp only [Int.toNat_natCast]
  refine hq _ (L.take p ++ (a, b) :: L.drop p) ⟨?_, by rw [len_ins hp]; omega, fun i hi => ?_⟩ (srtd_ins p hs hp h3 h4) (fun c => mem_ins p) (len_ins hp) (((hF.si (Or.inr (Or.inl rfl))).si (Or.inr (Or.inr rfl))).si (Or.inl ⟨rfl, rfl⟩))
  · rw [gi_s0, len_ins hp, gi_s1 (by omega), gi_s1 (by omega), g9, w32_r (by omega) (by omega)]; omega
  · rw [len_ins hp] at hi
    rw [ins_at hp]
    by_cases e1 : i < p
    · rw [if_pos e1]; simp (disch := omega) only [gi_s0, gi_s1, gi_s2]; exact hlo i e1
    · by_cases e2 : i = p
      · subst e2; rw [if_neg e1, if_pos rfl]; simp (disch := omega) only [gi_s0, gi_s1, gi_s2]; exact ⟨trivial, trivial⟩
      · rw [if_neg e1, if_neg e2]; simp (disch := omega) only [gi_s0, gi_s1, gi_s2]
        have := hup (i - 1) (by omega) (by omega)
        rw [show i - 1 + 1 = i by omega] at this
        exact this
theorem addSpan_loop {a b : Int} (cu : CLf u = 8) {L : List (Int × Int)} (hL : L.length < 6) (hs : srtd L)
    (hq : ∀ h' L', SP h' u L' → srtd L' → (∀ c, c ∈ L' ↔ c = (a, b) ∨ c ∈ L) → L'.length = L.length + 1 → fr (frP u) h h' → Q none h') :
    ∀ (p : Nat) (h1 : PH), p ≤ L.length → gi h1 u 9 = L.length → fr (frP u) h h1 →
    (∀ i, i < p → gi h1 (u + 6) i = (L.getD i (0, 0)).1 ∧ gi h1 (u + 7) i = (L.getD i (0, 0)).2) → (∀ i, p ≤ i → i < L.length → gi h1 (u + 6) (i + 1) = (L.getD i (0, 0)).1 ∧ gi h1 (u + 7) (i + 1) = (L.getD i (0, 0)).2) →
    (∀ i, p ≤ i → i < L.length → a ≤ (L.getD i (0, 0)).1) → T2 d mX7_addSpan 15 [some (vR u), some (vI a), some (vI b), some (vI (p : Int))] [] h1 Q := by
  intro p
  induction p with
  | zero =>
    intro h1 hp g9 hF hlo hup h4
    exact BX7_addSpan_15 cu ⟨fun _ => addSpan_end cu hL hs (p := 0) hp g9 hF hlo hup (fun i hi => by omega) h4 hq, fun z => by omega⟩
  | succ p ih =>
    intro h1 hp g9 hF hlo hup h4
    have e1 : w32 (((p + 1 : Nat) : Int) - 1) = (p : Int) := by rw [w32_r (by omega) (by omega)]; omega
    refine BX7_addSpan_15 cu ⟨fun z => by omega, fun _ => ?_⟩
    rw [e1]
    simp only [Int.toNat_natCast]
    obtain ⟨q1, q2⟩ := hlo p (by omega)
    refine ⟨⟨by omega, by omega⟩, fun z => ?_, fun z => ⟨⟨by omega, by omega⟩, ⟨by omega, by omega⟩, fun h2 e2 => ⟨⟨by omega, by omega⟩, ⟨by omega, by omega⟩, fun h3 e3 => ?_⟩⟩⟩
    · rw [q1] at z
      refine addSpan_end cu hL hs (p := p + 1) hp g9 hF hlo hup (fun i hi => ?_) h4 hq
      have := srtd_at hs (show i ≤ p by omega) (by omega)
      omega
    · subst e2 e3
      rw [show w32 (((p + 1 : Nat) : Int) + (-1)) = (p : Int) by rw [w32_r (by omega) (by omega)]; omega]
      refine ih _ (by omega) ?_ ((hF.si (Or.inr (Or.inl rfl))).si (Or.inr (Or.inr rfl))) (fun i hi => ?_) (fun i hi1 hi2 => ?_) (fun i hi1 hi2 => ?_)
      · rw [gi_s1 (by omega), gi_s1 (by omega)]; exact g9
      · rw [gi_s1 (by omega), gi_s2 (by omega), gi_s2 (by omega), gi_s1 (by omega)]; exact hlo i (by omega)
      · by_cases e : i = p
        · subst e
          rw [gi_s1 (by omega), gi_s0, gi_s0, gi_s1 (by omega)]; exact ⟨q1, q2⟩
        · rw [gi_s1 (by omega), gi_s2 (by omega), gi_s2 (by omega), gi_s1 (by omega)]; exact hup i (by omega) hi2
      · by_cases e : i = p
        · subst e; omega
        · exact h4 i (by omega) hi2
theorem c_addSpan {a b : Int} (cu : CLf u = 8) {L : List (Int × Int)} (hP : SP h u L) (hL : L.length < 6) (hs : srtd L)
    (hq : ∀ h' L', SP h' u L' → srtd L' → (∀ c, c ∈ L' ↔ c = (a, b) ∨ c ∈ L) → L'.length = L.length + 1 → fr (frP u) h h' → Q none h') : C2 d mX7_addSpan [vR u, vI a, vI b] h Q := by
  refine EX7_addSpan fun _ _ => BX7_addSpan_0 cu ⟨fun _ => ?_, fun z => by rw [hP.1] at z; omega⟩
  rw [hP.1]
  exact addSpan_loop cu hL hs hq L.length h (Nat.le_refl _) hP.1 fr.rf hP.2.2 (fun i h1 h2 => by omega) (fun i h1 h2 => by omega)
/-- the slots that are cut -/
def SR (h : PH) (u : Nat) (L : SL) : Prop := gi h u 4 = L.length ∧ ∀ k, k < L.length → gi h (u + 1) k = s_li L k ∧ gi h (u + 2) k = s_le L k ∧ gi h (u + 3) k = s_ri L k
def frS (u : Nat) : Nat → Nat → Prop := fun q k => (q = u ∧ k = 4) ∨ q = u + 1 ∨ q = u + 2 ∨ q = u + 3 ∨ q = u + 4
theorem SR_app {h' : PH} {L : SL} {n : Nat} {a b : Int} (hS : SR h u L) (e1 : gi h' u 4 = (L.length : Int) + 1) (e2 : ∀ k, k < L.length → gi h' (u + 1) k = gi h (u + 1) k ∧ gi h' (u + 2) k = gi h (u + 2) k ∧ gi h' (u + 3) k = gi h (u + 3) k) (e3 : gi h' (u + 1) L.length = n ∧ gi h' (u + 2) L.length = a ∧ gi h' (u + 3) L.length = b) : SR h' u (L ++ [(n, a, b)]) := by
  refine ⟨by rw [e1, List.length_append]; simp, fun k hk => ?_⟩
  unfold s_li s_le s_ri
  by_cases z : k < L.length
  · obtain ⟨a1, a2, a3⟩ := e2 k z
    obtain ⟨b1, b2, b3⟩ := hS.2 k z
    rw [getD_app _ _ _ z, a1, a2, a3]
    exact ⟨b1, b2, b3⟩
  · have : k = L.length + 0 := by simp at hk; omega
    subst this
    rw [getD_app2]
    exact e3
theorem c_addSlot {a b le : Int} {n : Nat} (cu : CLf u = 8) {L : SL} (hS : SR h u L) (hL : L.length < 140) (g6 : gi h u 6 = n) (hab : -100000 ≤ b - a ∧ b - a ≤ 100000)
    (hq : ∀ h', SR h' u (L ++ (if le ≤ b - a then [(n, a, b)] else [])) → (∀ k, k < L.length → gi h' (u + 4) k = gi h (u + 4) k) → (∀ k, L.length ≤ k → k < (L ++ (if le ≤ b - a then [(n, a, b)] else [])).length → gi h' (u + 4) k = 0) → fr (frS u) h h' → Q none h') : C2 d mX7_addSlot [vR u, vI a, vI b, vI le] h Q := by
  refine EX7_addSlot fun _ _ _ => BX7_addSlot_0 cu ?_
  rw [w32_r (by omega) (by omega), hS.1]
  refine ⟨fun z => ?_, fun z => ⟨fun y => by omega, fun _ => ⟨⟨by omega, by omega⟩, fun h1 e1 => ?_⟩⟩⟩
  · rw [if_neg (by omega)] at hq
    refine hq h (by simpa using hS) (fun k _ => rfl) (fun k h1 h2 => by simp at h2; omega) fr.rf
  · rw [if_pos z] at hq
    subst e1
    rw [gi_s1 (by omega), hS.1]
    refine ⟨⟨by omega, by omega⟩, fun h1 e1 => ?_⟩
    subst e1
    rw [gi_s1 (by omega), gi_s1 (by omega), hS.1]
    refine ⟨⟨by omega, by omega⟩, fun h1 e1 => ?_⟩
    subst e1
    rw [gi_s1 (by omega), gi_s1 (by omega), gi_s1 (by omega), hS.1]
    refine ⟨⟨by omega, by omega⟩, fun h1 e1 h2 e2 => ?_⟩
    subst e1 e2
    simp only [Int.toNat_natCast]
    refine hq _ (SR_app hS ?_ (fun k hk => ?_) ?_) (fun k hk => ?_) (fun k hk1 hk2 => ?_) (((((fr.rf.si (Or.inr (Or.inl rfl))).si (Or.inr (Or.inr (Or.inl rfl)))).si (Or.inr (Or.inr (Or.inr (Or.inl rfl))))).si (Or.inr (Or.inr (Or.inr (Or.inr rfl))))).si (Or.inl ⟨rfl, rfl⟩))
    · rw [gi_s0, gi_s1 (by omega), gi_s1 (by omega), gi_s1 (by omega), gi_s1 (by omega), hS.1, w32_r (by omega) (by omega)]
    · refine ⟨?_, ?_, ?_⟩
      · rw [gi_s1 (by omega), gi_s1 (by omega), gi_s1 (by omega), gi_s1 (by omega), gi_s2 (by omega)]
      · rw [gi_s1 (by omega), gi_s1 (by omega), gi_s1 (by omega), gi_s2 (by omega), gi_s1 (by omega)]
      · rw [gi_s1 (by omega), gi_s1 (by omega), gi_s2 (by omega), gi_s1 (by omega), gi_s1 (by omega)]
    · refine ⟨?_, ?_, ?_⟩
      · rw [gi_s1 (by omega), gi_s1 (by omega), gi_s1 (by omega), gi_s1 (by omega), gi_s0, g6]
      · rw [gi_s1 (by omega), gi_s1 (by omega), gi_s1 (by omega), gi_s0]
      · rw [gi_s1 (by omega), gi_s1 (by omega), gi_s0]
    · rw [gi_s1 (by omega), gi_s2 (by omega), gi_s1 (by omega), gi_s1 (by omega), gi_s1 (by omega)]
    · have : k = L.length := by simp at hk2; omega
      subst this
      rw [gi_s1 (by omega), gi_s0]
end
