/-! THE CLASS: tokens -/
/-- a token as it is read -/
def GT (f : Nat → Int) (n : Nat) (t : TK) : Prop := okU f n t ∧ (t_k t ≤ 24 → 0 ≤ t_k t ∧ t_k t = keyOf (cutT2 f (t_b t - t_a t) (t_a t)) keyL 0 ∧ ∀ j, t_a t ≤ j → j < t_b t → isL (f j) = true) ∧ (26 < t_k t → 30 ≤ t_k t ∧ t_k t ≤ 41)
theorem sgnOf_hi (c : Int) : ∀ (l : List Int) (i : Int), sgnOf c l i = 27 ∨ (i ≤ sgnOf c l i ∧ sgnOf c l i < i + l.length) := by
  intro l
  induction l with
  | nil => intro i; exact Or.inl rfl
  | cons k ks ih =>
    intro i
    unfold sgnOf
    split
    · right; simp; omega
    · rcases ih (i + 1) with z | z
      · exact Or.inl z
      · right; simp; omega
theorem tok_GT (f : Nat → Int) (n i : Nat) (hi : i ≤ n) (h27 : t_k (tok f n i) ≠ 27) : GT f n (tok f n i) := by
  refine ⟨(tok_okU f n i hi h27).1, ?_⟩
  have a := run_rg isB f n (n - i) i hi
  unfold tok tokA at *
  generalize run isB f n (n - i) i = s at *
  by_cases z : n ≤ s
  · rw [if_pos z]
    exact ⟨fun w => by exfalso; have : (26 : Int) ≤ 24 := w; omega, fun w => by exfalso; have : (26 : Int) < 26 := w; omega⟩
  · rw [if_neg z] at h27 ⊢
    by_cases y : isL (f s) = true
    · rw [if_pos y]
      refine ⟨fun _ => ⟨?_, rfl, fun j h1 h2 => run_P isL f n _ s j h1 h2⟩, fun w => ?_⟩
      · have := keyOf_rg (cutT2 f (run isL f n (n - s) s - s) s) keyL 0
        show 0 ≤ keyOf (cutT2 f (run isL f n (n - s) s - s) s) keyL 0
        omega
      · exfalso
        have := keyOf_rg (cutT2 f (run isL f n (n - s) s - s) s) keyL 0
        have w2 : 26 < keyOf (cutT2 f (run isL f n (n - s) s - s) s) keyL 0 := w
        have e : (keyL.length : Int) = 24 := rfl
        omega
    · rw [if_neg y] at h27 ⊢
      by_cases x : isD (f s) = true
      · rw [if_pos x] at h27 ⊢
        split
        · exact ⟨fun w => by exfalso; have : (25 : Int) ≤ 24 := w; omega, fun w => by exfalso; have : (26 : Int) < 25 := w; omega⟩
        · rename_i c
          rw [if_neg c] at h27; exact absurd rfl h27
      · rw [if_neg x] at h27 ⊢
        have b := sgnOf_hi (f s) sgnL 30
        have h27' : sgnOf (f s) sgnL 30 ≠ 27 := h27
        have e : (sgnL.length : Int) = 12 := rfl
        refine ⟨fun w => ?_, fun _ => ⟨?_, ?_⟩⟩
        · exfalso
          have w2 : sgnOf (f s) sgnL 30 ≤ 24 := w
          omega
        · show 30 ≤ sgnOf (f s) sgnL 30
          omega
        · show sgnOf (f s) sgnL 30 ≤ 41
          omega
theorem nxt_GT {f : Nat → Int} {n : Nat} {t u : TK} (h : nxt f n t = .ok u) (ht : okU f n t) : GT f n u ∧ t_b t ≤ t_a u := by
  refine ⟨?_, (nxt_okU h ht).2⟩
  unfold nxt at h
  split at h
  · cases h
  · rename_i z
    cases h
    exact tok_GT f n (t_b t) ht.2.2.1 z
/-- the class's code of a token -/
def ktc (k : Int) : Int := if k = 26 then 0 else if k ≤ 24 then 97 else if k = 25 then 48 else sgnL.getD (k - 30).toNat 0
/-- the reader of the class stands so -/
def RT (h : PH) (f : Nat → Int) (n : Nat) : ER TK → Prop
  | .ok t => GT f n t ∧ gi h 218 8 = 0 ∧ gi h 218 9 = -1 ∧ gi h 218 1 = n ∧ gi h 218 3 = t_a t ∧ gi h 218 4 = t_b t ∧ gi h 218 2 = ktc (t_k t) ∧ (t_k t = 25 → gi h 218 5 = t_n t)
  | .error e => gi h 218 8 = e.1 ∧ e.1 ≠ 0 ∧ gi h 218 9 = e.2 ∧ gi h 218 2 = 1
def frTk : Nat → Nat → Prop := fun q k => q = 218 ∧ (k = 2 ∨ k = 3 ∨ k = 4 ∨ k = 5 ∨ k = 8 ∨ k = 9)
def TPc (h : PH) (f : Nat → Int) (n : Nat) : Prop := n ≤ 900 ∧ (∀ i, 0 ≤ f i ∧ f i ≤ 255) ∧ ∀ i, i < n → gi h 65 i = sb (f i)
theorem TPc.keep {h h' : PH} {f : Nat → Int} {n : Nat} (a : TPc h f n) (e : ∀ k, gi h' 65 k = gi h 65 k) : TPc h' f n := ⟨a.1, a.2.1, fun i hi => by rw [e]; exact a.2.2 i hi⟩
theorem RT.keep {h h' : PH} {f : Nat → Int} {n : Nat} {r : ER TK} (a : RT h f n r) (e : ∀ k, gi h' 218 k = gi h 218 k) : RT h' f n r := by
  cases r with
  | ok t => obtain ⟨a0, a1, a2, a3, a4, a5, a6, a7⟩ := a; exact ⟨a0, by rw [e]; exact a1, by rw [e]; exact a2, by rw [e]; exact a3, by rw [e]; exact a4, by rw [e]; exact a5, by rw [e]; exact a6, by rw [e]; exact a7⟩
  | error x => obtain ⟨a1, a2, a3, a4⟩ := a; exact ⟨by rw [e]; exact a1, a2, by rw [e]; exact a3, by rw [e]; exact a4⟩
theorem sb_B {x : Int} (h : 0 ≤ x ∧ x ≤ 255) : (sb x = 10 ↔ x = 10) ∧ (sb x = 32 ↔ x = 32) ∧ (97 ≤ sb x ∧ sb x ≤ 122 ↔ 97 ≤ x ∧ x ≤ 122) ∧ (48 ≤ sb x ∧ sb x ≤ 57 ↔ 48 ≤ x ∧ x ≤ 57) := by
  unfold sb; split <;> omega
theorem sgn_all : ∀ c : Fin 256, i2c (iand (sb (c.val : Int)) 255) = (c.val : Int) ∧ (ixF 0 (i2b (c.val : Int)) 12 0 < 0 ↔ sgnOf (c.val : Int) sgnL 30 = 27) ∧ (sgnOf (c.val : Int) sgnL 30 ≠ 27 → sb (c.val : Int) = ktc (sgnOf (c.val : Int) sgnL 30)) := by decide +kernel
theorem sgn_ok {x : Int} (h : 0 ≤ x ∧ x ≤ 255) : i2c (iand (sb x) 255) = x ∧ (ixF 0 (i2b x) 12 0 < 0 ↔ sgnOf x sgnL 30 = 27) ∧ (sgnOf x sgnL 30 ≠ 27 → sb x = ktc (sgnOf x sgnL 30)) := by
  have := sgn_all ⟨x.toNat, by omega⟩
  have e : ((x.toNat : Nat) : Int) = x := by omega
  dsimp only at this
  rw [e] at this
  exact this
theorem numV_snoc (f : Nat → Int) : ∀ (m i : Nat) (v : Int), numV f (m + 1) i v = 10 * numV f m i v + f (i + m) - 48 := by
  intro m
  induction m with
  | zero => intro i v; rfl
  | succ m ih =>
    intro i v
    show numV f (m + 1) (i + 1) (10 * v + f i - 48) = 10 * numV f m (i + 1) (10 * v + f i - 48) + f (i + (m + 1)) - 48
    rw [ih (i + 1), show i + 1 + m = i + (m + 1) by omega]
section
variable {d : Nat} {h : PH} {Q : Option PV → PH → Prop}
variable {f : Nat → Int} {n : Nat}
theorem c_isLetter {x : Int} (hx : 0 ≤ x ∧ x ≤ 255) (hq : Q (some (vI (if isL x then 1 else 0))) h) : C2 d mX5_isLetter [vI (sb x)] h Q := by
  have hb := (sb_B hx).2.2.1
  unfold isL at hq
  refine EX5_isLetter fun _ => BX5_isLetter_0 ⟨fun z => ?_, fun z => ⟨fun y => ?_, fun y => ?_⟩⟩
  · rw [decide_eq_false (by omega)] at hq; exact hq
  · rw [decide_eq_false (by omega)] at hq; exact hq
  · rw [decide_eq_true (by omega)] at hq; exact hq
theorem c_isDigit {x : Int} (hx : 0 ≤ x ∧ x ≤ 255) (hq : Q (some (vI (if isD x then 1 else 0))) h) : C2 d mX5_isDigit [vI (sb x)] h Q := by
  have hb := (sb_B hx).2.2.2
  unfold isD at hq
  refine EX5_isDigit fun _ => BX5_isDigit_0 ⟨fun z => ?_, fun z => ⟨fun y => ?_, fun y => ?_⟩⟩
  · rw [decide_eq_false (by omega)] at hq; exact hq
  · rw [decide_eq_false (by omega)] at hq; exact hq
  · rw [decide_eq_true (by omega)] at hq; exact hq
theorem c_fail {r : ER TK} (X : RT h f n r) {k : Int} (hk : k ≠ 0) (hq : ∀ h', RT h' f n (bq r fun t => .error (k, t_a t)) → fr frTk h h' → Q none h') : C2 d mX5_fail [vR 218, vI k] h Q := by
  refine EX5_fail fun _ => BX5_fail_0 ?_
  cases r with
  | ok t =>
    obtain ⟨a0, a1, a2, a3, a4, a5, a6, a7⟩ := X
    refine ⟨fun z => absurd a1 z, fun _ h1 e1 h2 e2 h3 e3 => ?_⟩
    subst e1 e2 e3
    refine hq _ ⟨?_, hk, ?_, ?_⟩ (((fr.rf.si (by unfold frTk; omega)).si (by unfold frTk; omega)).si (by unfold frTk; omega))
    · simp (disch := omega) only [gi_s0, gi_s1, gi_s2, gj_s0, gj_s1, gj_s2, gi_f0, gi_f1, gj_f0, gj_f1, gr_r0, gr_r1, gr_r2, gi_sj, gi_sr, gj_si, gj_sr, gr_si, gr_sj, gr_stI, gj_stI, gi_stJ, gr_stJ]
    · simp (disch := omega) only [gi_s0, gi_s1, gi_s2, gj_s0, gj_s1, gj_s2, gi_f0, gi_f1, gj_f0, gj_f1, gr_r0, gr_r1, gr_r2, gi_sj, gi_sr, gj_si, gj_sr, gr_si, gr_sj, gr_stI, gj_stI, gi_stJ, gr_stJ]; exact a4
    · simp (disch := omega) only [gi_s0, gi_s1, gi_s2, gj_s0, gj_s1, gj_s2, gi_f0, gi_f1, gj_f0, gj_f1, gr_r0, gr_r1, gr_r2, gi_sj, gi_sr, gj_si, gj_sr, gr_si, gr_sj, gr_stI, gj_stI, gi_stJ, gr_stJ]
  | error e =>
    refine ⟨fun _ => hq h X fr.rf, fun z => absurd (X.1.symm.trans z) X.2.1⟩
/-- blanks -/
theorem nx_skip (h0 : PH) (hT : TPc h0 f n) (h1 : gi h0 218 1 = n) {s : Nat} (hq : ∀ h', gi h' 218 3 = (s : Int) → fr (fun q k => q = 218 ∧ k = 3) h0 h' → T2 (d + 1) mX5_next 68 [some (vR 218)] [] h' Q) :
    ∀ (m i : Nat) (h : PH), i + m = n → run isB f n m i = s → gi h 218 3 = (i : Int) → fr (fun q k => q = 218 ∧ k = 3) h0 h → T2 (d + 1) mX5_next 16 [some (vR 218)] [] h Q := by
  intro m
  induction m with
  | zero =>
    intro i h hi hs h3 hF
    have hn := hT.1
    refine BX5_next_16 ⟨fun _ => ?_, fun z => ?_⟩
    · refine hq h ?_ hF
      rw [h3, ← hs]; rfl
    · rw [h3, hF.1 218 1 (by omega), h1] at z; omega
  | succ m ih =>
    intro i h hi hs h3 hF
    have hn := hT.1
    have e1 : gi h 218 1 = n := by rw [hF.1 218 1 (by omega)]; exact h1
    have e65 : gi h 65 i = sb (f i) := by rw [hF.1 65 i (by omega)]; exact hT.2.2 i (by omega)
    have hB := sb_B (hT.2.1 i)
    have go : isB (f i) = true → T2 (d + 1) mX5_next 55 [some (vR 218)] [] h Q := fun hb => by
      refine BX5_next_55 (fun h2 e2 => ?_)
      subst e2
      rw [h3, w32_r (by omega) (by omega)]
      refine ih (i + 1) _ (by omega) ?_ ?_ (hF.si ⟨rfl, rfl⟩)
      · unfold run at hs; rwa [if_pos ⟨by omega, hb⟩] at hs
      · rw [gi_s0]; omega
    have no : isB (f i) ≠ true → T2 (d + 1) mX5_next 68 [some (vR 218)] [] h Q := fun hb => by
      unfold run at hs
      rw [if_neg (fun w => hb w.2)] at hs
      exact hq h (by rw [h3, hs]) hF
    refine BX5_next_16 ⟨fun z => by rw [h3, e1] at z; omega, fun _ => ?_⟩
    rw [h3]
    try simp only [Int.toNat_natCast]
    rw [e65]
    refine ⟨⟨by omega, by omega⟩, fun z => go ?_, fun z => ⟨⟨by omega, by omega⟩, fun y => no ?_, fun y => go ?_⟩⟩
    · unfold isB; exact decide_eq_true (Or.inl (hB.1.mp z))
    · unfold isB
      rw [decide_eq_false]
      · decide
      · intro w; rcases w with w | w
        · exact z (hB.1.mpr w)
        · exact y (hB.2.1.mpr w)
    · unfold isB; exact decide_eq_true (Or.inr (hB.2.1.mp y))
/-- letters -/
theorem nx_let (h0 : PH) (hT : TPc h0 f n) (h1 : gi h0 218 1 = n) {s : Nat} (hq : ∀ h', gi h' 218 4 = (s : Int) → fr (fun q k => q = 218 ∧ k = 4) h0 h' → Q none h') :
    ∀ (m i : Nat) (h : PH), i + m = n → run isL f n m i = s → gi h 218 4 = (i : Int) → fr (fun q k => q = 218 ∧ k = 4) h0 h → T2 (d + 1) mX5_next 116 [some (vR 218)] [] h Q := by
  intro m
  induction m with
  | zero =>
    intro i h hi hs h3 hF
    refine BX5_next_116 ⟨fun _ => ?_, fun z => ?_⟩
    · refine hq h ?_ hF
      rw [h3, ← hs]; rfl
    · rw [h3, hF.1 218 1 (by omega), h1] at z; omega
  | succ m ih =>
    intro i h hi hs h3 hF
    have hn := hT.1
    have e1 : gi h 218 1 = n := by rw [hF.1 218 1 (by omega)]; exact h1
    have e65 : gi h 65 i = sb (f i) := by rw [hF.1 65 i (by omega)]; exact hT.2.2 i (by omega)
    refine BX5_next_116 ⟨fun z => by rw [h3, e1] at z; omega, fun _ => ?_⟩
    rw [h3]
    try simp only [Int.toNat_natCast]
    rw [e65]
    refine ⟨⟨by omega, by omega⟩, c_isLetter (hT.2.1 i) (fun _ => ?_)⟩
    by_cases hb : isL (f i) = true
    · rw [if_pos hb]
      refine ⟨fun z => absurd z (by decide), fun _ h2 e2 => ?_⟩
      subst e2
      rw [h3, w32_r (by omega) (by omega)]
      refine ih (i + 1) _ (by omega) ?_ ?_ (hF.si ⟨rfl, rfl⟩)
      · unfold run at hs; rwa [if_pos ⟨by omega, hb⟩] at hs
      · rw [gi_s0]; omega
    · rw [if_neg hb]
      refine ⟨fun _ => ?_, fun z => absurd rfl z⟩
      unfold run at hs
      rw [if_neg (fun w => hb w.2)] at hs
      exact hq h (by rw [h3, hs]) hF
/-- digits -/
theorem nx_dig (h0 : PH) (hT : TPc h0 f n) (h1 : gi h0 218 1 = n) {s a : Nat} (hq : ∀ h', gi h' 218 4 = (s : Int) → (s - a ≤ 3 → gi h' 218 5 = numV f (s - a) a 0) → fr (fun q k => q = 218 ∧ (k = 4 ∨ k = 5)) h0 h' → T2 (d + 1) mX5_next 244 [some (vR 218)] [] h' Q) :
    ∀ (m i : Nat) (h : PH), i + m = n → a ≤ i → (∀ j, a ≤ j → j < i → isD (f j) = true) → run isD f n m i = s → gi h 218 4 = (i : Int) → (i - a ≤ 3 → gi h 218 5 = numV f (i - a) a 0) → fr (fun q k => q = 218 ∧ (k = 4 ∨ k = 5)) h0 h → T2 (d + 1) mX5_next 181 [some (vR 218)] [] h Q := by
  intro m
  induction m with
  | zero =>
    intro i h hi ha hD hs h3 h5 hF
    refine BX5_next_181 ⟨fun _ => ?_, fun z => ?_⟩
    · have e : i = s := hs
      subst e
      exact hq h h3 h5 hF
    · rw [h3, hF.1 218 1 (by omega), h1] at z; omega
  | succ m ih =>
    intro i h hi ha hD hs h3 h5 hF
    have hn := hT.1
    have e1 : gi h 218 1 = n := by rw [hF.1 218 1 (by omega)]; exact h1
    have e65 : gi h 65 i = sb (f i) := by rw [hF.1 65 i (by omega)]; exact hT.2.2 i (by omega)
    refine BX5_next_181 ⟨fun z => by rw [h3, e1] at z; omega, fun _ => ?_⟩
    rw [h3]
    try simp only [Int.toNat_natCast]
    rw [e65]
    refine ⟨⟨by omega, by omega⟩, c_isDigit (hT.2.1 i) (fun _ => ?_)⟩
    by_cases hb : isD (f i) = true
    · rw [if_pos hb]
      refine ⟨fun z => absurd z (by decide), fun _ => ?_⟩
      rw [h3]
      try simp only [Int.toNat_natCast]
      refine ⟨⟨by omega, by omega⟩, fun h2 e2 h3' e3 => ?_⟩
      subst e2 e3
      have e4 : ∀ v, gi (si h 218 5 v) 218 4 = (i : Int) := fun v => by rw [gi_s2 (by omega)]; exact h3
      rw [e4, w32_r (x := (i : Int) + 1) (by omega) (by omega)]
      refine ih (i + 1) _ (by omega) (by omega) (fun j j1 j2 => ?_) ?_ ?_ (fun hl => ?_) ((hF.si ⟨rfl, Or.inr rfl⟩).si ⟨rfl, Or.inl rfl⟩)
      · by_cases ej : j = i
        · rw [ej]; exact hb
        · exact hD j j1 (by omega)
      · unfold run at hs; rwa [if_pos ⟨by omega, hb⟩] at hs
      · rw [gi_s0]; omega
      · rw [gi_s2 (by omega), gi_s0, h5 (by omega), e65]
        have hv := numV_rg f (i - a) a 0 (fun j j1 j2 => hD j j1 (by omega)) (by omega)
        have hp : (0 + 1 : Int) * 10 ^ (i - a) ≤ 100 := by
          have : i - a = 0 ∨ i - a = 1 ∨ i - a = 2 := by omega
          rcases this with e | e | e <;> rw [e] <;> decide
        have hd2 := hT.2.1 i
        have hsb : sb (f i) = f i := by
          unfold isD at hb
          have := of_decide_eq_true hb
          unfold sb; rw [if_pos (by omega)]
        have hv1 := hv.1
        have hv2 : numV f (i - a) a 0 < 100 := by omega
        rw [hsb, show i + 1 - a = (i - a) + 1 by omega, numV_snoc, show a + (i - a) = i by omega]
        generalize numV f (i - a) a 0 = v at *
        rw [w32_r (x := v * 10) (by omega) (by omega), w32_r (x := v * 10 + f i) (by omega) (by omega), w32_r (by omega) (by omega)]
        omega
    · rw [if_neg hb]
      refine ⟨fun _ => ?_, fun z => absurd rfl z⟩
      unfold run at hs
      rw [if_neg (fun w => hb w.2)] at hs
      subst hs
      exact hq h h3 h5 hF
end
