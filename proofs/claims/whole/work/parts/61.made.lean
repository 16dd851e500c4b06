/-! THE TEXT: what is read is well made -/
/-- what the makers of laws keep -/
def Mk (W : Bool) (WT : List Int → Bool → Nat → Prop) : Prop :=
  (∀ v : Int, 0 ≤ v → v < 1000 → WT [v] false 1) ∧
  (∀ k : Int, wdOf W k ≠ -1 → WT [1000 + wdOf W k] false 1) ∧
  (∀ (x y : List Int) (ta tr : Bool) (k : Int) (m1 m2 m : Nat), WT x ta m1 → WT y ta m2 → (3000 ≤ k ∧ k ≤ 3008 ∧ k ≠ 3006) → (k = 3007 ∨ k = 3008 → ta = true) → (tr = true → 3003 ≤ k) → m1 ≤ m → m2 + 1 ≤ m → WT (x ++ (y ++ [k])) tr m) ∧
  (∀ (x : List Int) (m : Nat), WT x true m → WT (x ++ [3006]) true m) ∧
  (∀ (c a b : List Int) (m1 m2 m3 m : Nat), WT c true m1 → WT a false m2 → WT b false m3 → m1 ≤ m → m2 + 1 ≤ m → m3 + 2 ≤ m → WT (c ++ (a ++ (b ++ [3009]))) false m) ∧
  (∀ (c : List Int) (b : Bool) (m m' : Nat), WT c b m → m ≤ m' → WT c b m')
theorem Mk.num {W : Bool} {WT : List Int → Bool → Nat → Prop} (M : Mk W WT) : ∀ v : Int, 0 ≤ v → v < 1000 → WT [v] false 1 := M.1
theorem Mk.wrd {W : Bool} {WT : List Int → Bool → Nat → Prop} (M : Mk W WT) : ∀ k : Int, wdOf W k ≠ -1 → WT [1000 + wdOf W k] false 1 := M.2.1
theorem Mk.bin {W : Bool} {WT : List Int → Bool → Nat → Prop} (M : Mk W WT) : ∀ (x y : List Int) (ta tr : Bool) (k : Int) (m1 m2 m : Nat), WT x ta m1 → WT y ta m2 → (3000 ≤ k ∧ k ≤ 3008 ∧ k ≠ 3006) → (k = 3007 ∨ k = 3008 → ta = true) → (tr = true → 3003 ≤ k) → m1 ≤ m → m2 + 1 ≤ m → WT (x ++ (y ++ [k])) tr m := M.2.2.1
theorem Mk.not {W : Bool} {WT : List Int → Bool → Nat → Prop} (M : Mk W WT) : ∀ (x : List Int) (m : Nat), WT x true m → WT (x ++ [3006]) true m := M.2.2.2.1
theorem Mk.iff {W : Bool} {WT : List Int → Bool → Nat → Prop} (M : Mk W WT) : ∀ (c a b : List Int) (m1 m2 m3 m : Nat), WT c true m1 → WT a false m2 → WT b false m3 → m1 ≤ m → m2 + 1 ≤ m → m3 + 2 ≤ m → WT (c ++ (a ++ (b ++ [3009]))) false m := M.2.2.2.2.1
theorem Mk.mono {W : Bool} {WT : List Int → Bool → Nat → Prop} (M : Mk W WT) : ∀ (c : List Int) (b : Bool) (m m' : Nat), WT c b m → m ≤ m' → WT c b m' := M.2.2.2.2.2
section
variable {f : Nat → Int} {n : Nat} {W : Bool} {WT : List Int → Bool → Nat → Prop}
/-- a level: sum, truth, unit -/
def LV (f : Nat → Int) (n : Nat) (WT : List Int → Bool → Nat → Prop) (r : Nat) : Option (LPr × LPr × LPr) → Prop
  | none => r = 0
  | some g => 0 < r ∧ TY f n WT false (5 * (r - 1) + 3) g.1 ∧ TY f n WT true (5 * (r - 1) + 6) g.2.1 ∧ TY f n WT true (5 * (r - 1) + 4) g.2.2
theorem push_ok {c : Int} {s : LSt} : (lPu c s).1 = s.1 ∧ (lPu c s).2 = s.2 ++ [c] := ⟨rfl, rfl⟩
theorem atom_ty (M : Mk W WT) {r : Nat} {inn : Option (LPr × LPr × LPr)} (hI : LV f n WT r inn) : TY f n WT false (5 * r + 1) (atomP f n W inn) := by
  intro s s' h ok
  unfold atomP at h
  by_cases z1 : t_k s.1 = 25
  · rw [if_pos z1] at h
    obtain ⟨o, e, a⟩ := lNx_ok2 f n (s := lPu (t_n s.1) s) (by show t_k s.1 ≠ 26; omega) h ok
    have v := ok.2.2.2.2.2 z1
    have a' : t_a s.1 < t_a s'.1 := a
    exact ⟨o, [t_n s.1], e, M.mono _ _ _ _ (M.num _ v.1 v.2) (by omega), by simp; omega⟩
  rw [if_neg z1] at h
  by_cases z2 : wdOf W (t_k s.1) ≠ -1
  · rw [if_pos z2] at h
    have k26 : t_k s.1 ≠ 26 := fun e => by rw [e] at z2; cases W <;> exact absurd rfl z2
    obtain ⟨o, e, a⟩ := lNx_ok2 f n (s := lPu (1000 + wdOf W (t_k s.1)) s) k26 h ok
    have a' : t_a s.1 < t_a s'.1 := a
    exact ⟨o, [1000 + wdOf W (t_k s.1)], e, M.mono _ _ _ _ (M.wrd _ z2) (by omega), by simp; omega⟩
  rw [if_neg z2] at h
  by_cases z3 : t_k s.1 = 35
  · rw [if_pos z3] at h
    cases inn with
    | none => cases h
    | some g =>
      obtain ⟨hr, i1, i2, i3⟩ := hI
      obtain ⟨s1, h1, h⟩ := bdn_ok h
      obtain ⟨s2, h2, h⟩ := bdn_ok h
      obtain ⟨o1, e1, a1⟩ := lNx_ok2 f n (by omega) h1 ok
      obtain ⟨o2, c, e2, w2, a2⟩ := i1 s1 s2 h2 o1
      obtain ⟨o3, e3, a3⟩ := eat_ok f n (by decide) h o2
      exact ⟨o3, c, by rw [e3, e2, e1], M.mono _ _ _ _ w2 (by omega), by omega⟩
  rw [if_neg z3] at h
  by_cases z4 : t_k s.1 = 12
  · rw [if_pos z4] at h
    cases inn with
    | none => cases h
    | some g =>
      obtain ⟨hr, i1, i2, i3⟩ := hI
      obtain ⟨s1, h1, h⟩ := bdn_ok h
      obtain ⟨s2, h2, h⟩ := bdn_ok h
      obtain ⟨s3, h3, h⟩ := bdn_ok h
      obtain ⟨s4, h4, h⟩ := bdn_ok h
      obtain ⟨s5, h5, h⟩ := bdn_ok h
      obtain ⟨s6, h6, h⟩ := bdn_ok h
      obtain ⟨s7, h7, h⟩ := bdn_ok h
      obtain ⟨o1, e1, a1⟩ := lNx_ok2 f n (by omega) h1 ok
      obtain ⟨o2, c, e2, w2, a2⟩ := i2 s1 s2 h2 o1
      obtain ⟨o3, e3, a3⟩ := eat_ok f n (by decide) h3 o2
      obtain ⟨o4, x, e4, w4, a4⟩ := i1 s3 s4 h4 o3
      obtain ⟨o5, e5, a5⟩ := eat_ok f n (by decide) h5 o4
      obtain ⟨o6, y, e6, w6, a6⟩ := i1 s5 s6 h6 o5
      obtain ⟨o7, e7, a7⟩ := eat_ok f n (by decide) h7 o6
      cases h
      refine ⟨o7, c ++ (x ++ (y ++ [3009])), ?_, M.iff _ _ _ _ _ _ _ w2 w4 w6 (by omega) (by omega) (by omega), ?_⟩
      · show s7.2 ++ [3009] = _
        rw [e7, e6, e5, e4, e3, e2, e1]; simp [List.append_assoc]
      · show _ ≤ t_a s7.1
        simp; omega
  rw [if_neg z4] at h
  cases h
theorem chain_ty {P : LPr} {op : Int → Int} {b : Bool} {m m2 : Nat} (hop : ∀ k, op k ≠ -1 → k ≠ 26) (hP : TY f n WT b m2 P) (hm : ∀ c, WT c b m2 → WT c b m) (hb : ∀ k x y, op k ≠ -1 → WT x b m → WT y b m2 → WT (x ++ (y ++ [op k])) b m) (q : Nat) : TY f n WT b m (fun s => bdn (P s) (manyP f n op P q)) := by
  intro s s' h ok
  obtain ⟨s1, h1, h⟩ := bdn_ok h
  obtain ⟨o1, c, e1, w1, a1⟩ := hP s s1 h1 ok
  obtain ⟨o2, c', e2, w2, a2⟩ := many_ty f n hop hP hb q s1 s' s.2 c h o1 e1 (hm c w1)
  exact ⟨o2, c', e2, w2, by omega⟩
theorem opT_k {k : Int} (h : opT k ≠ -1) : k = 34 ∧ opT k = 3002 := by unfold opT at *; split at h <;> simp_all
theorem opA_k {k : Int} (h : opA k ≠ -1) : (k = 32 ∨ k = 33) ∧ (opA k = 3000 ∨ opA k = 3001) := by
  unfold opA at *
  split at h
  · rename_i z; exact ⟨Or.inl z, by rw [if_pos z]; exact Or.inl rfl⟩
  · rename_i z
    split at h
    · rename_i y; exact ⟨Or.inr y, by rw [if_neg z, if_pos y]; exact Or.inr rfl⟩
    · exact absurd rfl h
theorem opB_k {k : Int} (h : opB k ≠ -1) : k = 21 ∧ opB k = 3007 := by unfold opB at *; split at h <;> simp_all
theorem opO_k {k : Int} (h : opO k ≠ -1) : k = 22 ∧ opO k = 3008 := by unfold opO at *; split at h <;> simp_all
theorem opC_k {k : Int} (h : opC k ≠ -1) : 39 ≤ k ∧ 3003 ≤ opC k ∧ opC k ≤ 3005 := by
  unfold opC at *
  split at h
  · rename_i z; rw [if_pos z]; omega
  · rename_i z
    split at h
    · rename_i y; rw [if_neg z, if_pos y]; omega
    · rename_i y
      split at h
      · rename_i x; rw [if_neg z, if_neg y, if_pos x]; omega
      · exact absurd rfl h
theorem sum_ty (M : Mk W WT) {r : Nat} {inn : Option (LPr × LPr × LPr)} (hI : LV f n WT r inn) : TY f n WT false (5 * r + 3) (sumP f n W inn) := by
  have ht : TY f n WT false (5 * r + 2) (termP f n W inn) :=
    chain_ty (fun k h => by have := opT_k h; omega) (atom_ty M hI) (fun c w => M.mono _ _ _ _ w (by omega)) (fun k x y h w1 w2 => by
      have := (opT_k h).2
      rw [this]
      exact M.bin _ _ _ _ _ _ _ _ w1 w2 (by omega) (by omega) (by simp) (by omega) (by omega)) 900
  exact chain_ty (fun k h => by have := opA_k h; omega) ht (fun c w => M.mono _ _ _ _ w (by omega)) (fun k x y h w1 w2 => by
      have := (opA_k h).2
      exact M.bin _ _ _ _ _ _ _ _ w1 w2 (by omega) (by omega) (by simp) (by omega) (by omega)) 900
theorem unit_ty (M : Mk W WT) {r : Nat} {inn : Option (LPr × LPr × LPr)} (hI : LV f n WT r inn) : TY f n WT true (5 * r + 4) (unitP f n W inn) := by
  intro s s' h ok
  have hs := sum_ty (f := f) M hI
  unfold unitP at h
  by_cases z1 : t_k s.1 = 23
  · rw [if_pos z1] at h
    cases inn with
    | none => cases h
    | some g =>
      obtain ⟨hr, i1, i2, i3⟩ := hI
      obtain ⟨s1, h1, h⟩ := bdn_ok h
      obtain ⟨s2, h2, h⟩ := bdn_ok h
      obtain ⟨o1, e1, a1⟩ := lNx_ok2 f n (by omega) h1 ok
      obtain ⟨o2, c, e2, w2, a2⟩ := i3 s1 s2 h2 o1
      cases h
      refine ⟨o2, c ++ [3006], ?_, M.mono _ _ _ _ (M.not _ _ w2) (by omega), ?_⟩
      · show s2.2 ++ [3006] = _
        rw [e2, e1]; simp [List.append_assoc]
      · show _ ≤ t_a s2.1
        simp; omega
  rw [if_neg z1] at h
  by_cases z2 : t_k s.1 = 37
  · rw [if_pos z2] at h
    cases inn with
    | none => cases h
    | some g =>
      obtain ⟨hr, i1, i2, i3⟩ := hI
      obtain ⟨s1, h1, h⟩ := bdn_ok h
      obtain ⟨s2, h2, h⟩ := bdn_ok h
      obtain ⟨o1, e1, a1⟩ := lNx_ok2 f n (by omega) h1 ok
      obtain ⟨o2, c, e2, w2, a2⟩ := i2 s1 s2 h2 o1
      obtain ⟨o3, e3, a3⟩ := eat_ok f n (by decide) h o2
      exact ⟨o3, c, by rw [e3, e2, e1], M.mono _ _ _ _ w2 (by omega), by omega⟩
  rw [if_neg z2] at h
  obtain ⟨s1, h1, h⟩ := bdn_ok h
  obtain ⟨o1, c, e1, w1, a1⟩ := hs s s1 h1 ok
  split at h
  · cases h
  · rename_i z3
    have k := opC_k z3
    obtain ⟨s2, h2, h⟩ := bdn_ok h
    obtain ⟨s3, h3, h⟩ := bdn_ok h
    obtain ⟨o2, e2, a2⟩ := lNx_ok2 f n (by omega) h2 o1
    obtain ⟨o3, y, e3, w3, a3⟩ := hs s2 s3 h3 o2
    cases h
    refine ⟨o3, c ++ (y ++ [opC (t_k s1.1)]), ?_, M.bin _ _ _ _ _ _ _ _ w1 w3 (by omega) (by omega) (by omega) (by omega) (by omega), ?_⟩
    · show s3.2 ++ [_] = _
      rw [e3, e2, e1]; simp [List.append_assoc]
    · show _ ≤ t_a s3.1
      simp; omega
theorem truth_ty (M : Mk W WT) {r : Nat} {inn : Option (LPr × LPr × LPr)} (hI : LV f n WT r inn) : TY f n WT true (5 * r + 6) (truthP f n W inn) := by
  have hb : TY f n WT true (5 * r + 5) (bothP f n W inn) :=
    chain_ty (fun k h => by have := opB_k h; omega) (unit_ty M hI) (fun c w => M.mono _ _ _ _ w (by omega)) (fun k x y h w1 w2 => by
      have := (opB_k h).2
      rw [this]
      exact M.bin _ _ _ _ _ _ _ _ w1 w2 (by omega) (by simp) (by omega) (by omega) (by omega)) 900
  exact chain_ty (fun k h => by have := opO_k h; omega) hb (fun c w => M.mono _ _ _ _ w (by omega)) (fun k x y h w1 w2 => by
      have := (opO_k h).2
      rw [this]
      exact M.bin _ _ _ _ _ _ _ _ w1 w2 (by omega) (by simp) (by omega) (by omega) (by omega)) 900
theorem lvl_ty (M : Mk W WT) : ∀ r, LV f n WT r (lvl f n W r) := by
  intro r
  induction r with
  | zero => rfl
  | succ r ih => exact ⟨by omega, by rw [Nat.add_sub_cancel]; exact sum_ty M ih, by rw [Nat.add_sub_cancel]; exact truth_ty M ih, by rw [Nat.add_sub_cancel]; exact unit_ty M ih⟩
end
/-! a page that is read is well made -/
abbrev okV (f : Nat → Int) (n : Nat) (t : TK) : Prop := okU f n t
theorem nxt_okV {f : Nat → Int} {n : Nat} {t u : TK} (h : nxt f n t = .ok u) (ht : okU f n t) : okV f n u ∧ t_b t ≤ t_a u := nxt_okU h ht
section
variable {f : Nat → Int} {n : Nat}
theorem eatT_ok {k : Int} {t u : TK} (hk : k ≠ 26) (h : eatT f n k t = .ok u) (ok : okV f n t) : okV f n u ∧ t_a t < t_a u := by
  unfold eatT at h
  split at h
  · rename_i z
    obtain ⟨h3, h4⟩ := nxt_okV h ok
    have := ok.2.2.2.2.1 (by omega)
    exact ⟨h3, by omega⟩
  · cases h
theorem nxT_ok {t u : TK} (hk : t_k t ≠ 26) (h : nxt f n t = .ok u) (ok : okV f n t) : okV f n u ∧ t_a t < t_a u := by
  obtain ⟨h3, h4⟩ := nxt_okV h ok
  have := ok.2.2.2.2.1 hk
  exact ⟨h3, by omega⟩
theorem numT_ok {lo hi : Int} {t : TK} {r : Int × TK} (h : numT f n lo hi t = .ok r) (ok : okV f n t) : okV f n r.2 ∧ lo ≤ r.1 ∧ r.1 ≤ hi ∧ t_a t < t_a r.2 := by
  unfold numT at h
  split at h
  · cases h
  · rename_i z1
    split at h
    · cases h
    · rename_i z2
      obtain ⟨u, h1, h⟩ := bq_ok h
      cases h
      obtain ⟨a, b⟩ := nxT_ok (by omega) h1 ok
      exact ⟨a, by show lo ≤ t_n t; omega, by show t_n t ≤ hi; omega, b⟩
def QI (f : Nat → Int) (n : Nat) (WTw WTg : List Int → Bool → Nat → Prop) (s : QS) : Prop :=
  okV f n s.1 ∧ (10 ≤ g_wi s.2.1 ∧ g_wi s.2.1 ≤ 200 ∧ 1 ≤ g_ln s.2.1 ∧ g_ln s.2.1 ≤ 20 ∧ 1 ≤ g_hi s.2.1 ∧ g_hi s.2.1 ≤ 20 ∧ 1 ≤ g_le s.2.1 ∧ g_le s.2.1 ≤ 50 ∧ g_S s.2.1 ≤ 6 ∧ g_W s.2.1 ≤ 30 ∧ 0 ≤ g_to s.2.1 ∧ g_to s.2.1 ≤ t_a s.1) ∧
  (∀ i, i < g_S s.2.1 → 0 ≤ g_kd s.2.1 i ∧ g_kd s.2.1 i ≤ 2 ∧ 1 ≤ g_ac s.2.1 i ∧ g_ac s.2.1 i ≤ 200 ∧ (g_kd s.2.1 i ≠ 0 → g_ac s.2.1 i ≤ 100) ∧ (g_kd s.2.1 i ≠ 1 → 1 ≤ g_tl s.2.1 i ∧ g_tl s.2.1 i ≤ 200) ∧ 0 ≤ g_tl s.2.1 i ∧ g_tl s.2.1 i ≤ 200) ∧
  (∀ w, w < g_W s.2.1 → 1 ≤ g_lt s.2.1 w ∧ g_lt s.2.1 w ≤ 12 ∧ 1 ≤ g_fi s.2.1 w ∧ g_fi s.2.1 w ≤ 26) ∧
  ((g_wl s.2.1 = [] ∨ WTw (g_wl s.2.1) false 64) ∧ (g_gl s.2.1 = [] ∨ WTg (g_gl s.2.1) false 64)) ∧
  (∀ i, i < 6 → 0 ≤ s.2.2 i ∧ s.2.2 i ≤ 200 ∧ 0 ≤ s.2.2 (6 + i) ∧ s.2.2 (6 + i) ≤ 400 ∧ -1 ≤ s.2.2 (12 + i) ∧ s.2.2 (12 + i) ≤ 29) ∧ (∀ i, g_S s.2.1 ≤ i → i < 6 → s.2.2 (12 + i) = -1) ∧ s.2.2 18 = 0 ∧ 0 ≤ s.2.2 19 ∧ s.2.2 19 ≤ 9
variable {WTw WTg : List Int → Bool → Nat → Prop}
theorem head_ok {t : TK} {s : QS} (ok : okV f n t) (h : headP f n t = .ok s) : QI f n WTw WTg s := by
  unfold headP at h
  obtain ⟨t1, h1, h⟩ := bq_ok h
  obtain ⟨t2, h2, h⟩ := bq_ok h
  obtain ⟨a, h3, h⟩ := bq_ok h
  obtain ⟨t4, h4, h⟩ := bq_ok h
  obtain ⟨b, h5, h⟩ := bq_ok h
  obtain ⟨t6, h6, h⟩ := bq_ok h
  obtain ⟨c, h7, h⟩ := bq_ok h
  obtain ⟨t8, h8, h⟩ := bq_ok h
  obtain ⟨e, h9, h⟩ := bq_ok h
  obtain ⟨t10, h10, h⟩ := bq_ok h
  obtain ⟨i, h11, h⟩ := bq_ok h
  obtain ⟨t12, h12, h⟩ := bq_ok h
  obtain ⟨o1, p1⟩ := eatT_ok (by decide) h1 ok
  obtain ⟨o2, p2⟩ := eatT_ok (by decide) h2 o1
  obtain ⟨o3, v3, w3, p3⟩ := numT_ok h3 o2
  obtain ⟨o4, p4⟩ := eatT_ok (by decide) h4 o3
  obtain ⟨o5, v5, w5, p5⟩ := numT_ok h5 o4
  obtain ⟨o6, p6⟩ := eatT_ok (by decide) h6 o5
  obtain ⟨o7, v7, w7, p7⟩ := numT_ok h7 o6
  obtain ⟨o8, p8⟩ := eatT_ok (by decide) h8 o7
  obtain ⟨o9, v9, w9, p9⟩ := numT_ok h9 o8
  obtain ⟨o10, p10⟩ := eatT_ok (by decide) h10 o9
  obtain ⟨o11, v11, w11, p11⟩ := numT_ok h11 o10
  obtain ⟨o12, p12⟩ := eatT_ok (by decide) h12 o11
  cases h
  refine ⟨o12, ⟨v3, w3, ?_, ?_, v7, w7, v9, w9, Nat.zero_le _, Nat.zero_le _, by show (0 : Int) ≤ 1; omega, by show (1 : Int) ≤ (t_a t12 : Int); omega⟩, fun i hi => absurd hi (Nat.not_lt_zero i), fun i hi => absurd hi (Nat.not_lt_zero i), ⟨Or.inl rfl, Or.inl rfl⟩, fun j hj => ?_, fun j _ hj => ?_, ?_, ?_, ?_⟩
  · show 1 ≤ b.1.toNat; omega
  · show b.1.toNat ≤ 20; omega
  · show 0 ≤ upf st0 19 i.1 j ∧ upf st0 19 i.1 j ≤ 200 ∧ 0 ≤ upf st0 19 i.1 (6 + j) ∧ upf st0 19 i.1 (6 + j) ≤ 400 ∧ -1 ≤ upf st0 19 i.1 (12 + j) ∧ upf st0 19 i.1 (12 + j) ≤ 29
    unfold upf st0
    rw [if_neg (by omega), if_neg (by omega), if_neg (by omega), if_neg (by omega), if_neg (by omega), if_pos (by omega)]
    omega
  · show upf st0 19 i.1 (12 + j) = -1
    unfold upf st0
    rw [if_neg (by omega), if_pos (by omega)]
  · show upf st0 19 i.1 18 = 0
    unfold upf st0
    rw [if_neg (by omega), if_neg (by omega)]
  · show 0 ≤ upf st0 19 i.1 19
    unfold upf; rw [if_pos rfl]; exact v11
  · show upf st0 19 i.1 19 ≤ 9
    unfold upf; rw [if_pos rfl]; exact w11
theorem told_ok {s : QS} {t : TK} (q : QI f n WTw WTg s) (ok : okV f n t) (h : t_a s.1 < t_a t) : QI f n WTw WTg (toldQ (t, s.2)) := by
  obtain ⟨q1, q2, q3, q4, q5, q6, q7, q8⟩ := q
  exact ⟨ok, ⟨q2.1, q2.2.1, q2.2.2.1, q2.2.2.2.1, q2.2.2.2.2.1, q2.2.2.2.2.2.1, q2.2.2.2.2.2.2.1, q2.2.2.2.2.2.2.2.1, q2.2.2.2.2.2.2.2.2.1, q2.2.2.2.2.2.2.2.2.2.1, by show 0 ≤ g_to s.2.1 + 1; omega, by show g_to s.2.1 + 1 ≤ (t_a t : Int); omega⟩, q3, q4, q5, q6, q7, q8⟩
theorem tie_ok {s s' : QS} (q : QI f n WTw WTg s) (hk : t_k s.1 ≠ 26) (h : tieP f n s = .ok s') : QI f n WTw WTg s' := by
  obtain ⟨q1, q2, q3, q4, q5, q6, q7, q8, q9⟩ := q
  unfold tieP at h
  obtain ⟨t1, h1, h⟩ := bq_ok h
  obtain ⟨a, h2, h⟩ := bq_ok h
  obtain ⟨b, h3, h⟩ := bq_ok h
  obtain ⟨o1, p1⟩ := nxT_ok hk h1 q1
  obtain ⟨o2, v2, w2, p2⟩ := numT_ok h2 o1
  obtain ⟨o3, v3, w3, p3⟩ := numT_ok h3 o2
  cases h
  refine ⟨o3, ⟨q2.1, q2.2.1, q2.2.2.1, q2.2.2.2.1, q2.2.2.2.2.1, q2.2.2.2.2.2.1, q2.2.2.2.2.2.2.1, q2.2.2.2.2.2.2.2.1, q2.2.2.2.2.2.2.2.2.1, q2.2.2.2.2.2.2.2.2.2.1, q2.2.2.2.2.2.2.2.2.2.2.1, by show g_to s.2.1 ≤ (t_a b.2 : Int); omega⟩, q3, q4, q5, fun j hj => ?_, fun j h1 h2 => ?_, ?_, ?_⟩
  · show 0 ≤ upf s.2.2 (12 + a.1.toNat) b.1 j ∧ upf s.2.2 (12 + a.1.toNat) b.1 j ≤ 200 ∧ 0 ≤ upf s.2.2 (12 + a.1.toNat) b.1 (6 + j) ∧ upf s.2.2 (12 + a.1.toNat) b.1 (6 + j) ≤ 400 ∧ -1 ≤ upf s.2.2 (12 + a.1.toNat) b.1 (12 + j) ∧ upf s.2.2 (12 + a.1.toNat) b.1 (12 + j) ≤ 29
    have := q6 j hj
    unfold upf
    rw [if_neg (by omega), if_neg (by omega)]
    split <;> omega
  · show upf s.2.2 (12 + a.1.toNat) b.1 (12 + j) = -1
    have h3 : g_S s.2.1 ≤ j := h1
    unfold upf
    rw [if_neg (by omega)]; exact q7 j h1 h2
  · show upf s.2.2 (12 + a.1.toNat) b.1 18 = 0
    unfold upf
    rw [if_neg (by omega)]; exact q8
  · show 0 ≤ upf s.2.2 (12 + a.1.toNat) b.1 19 ∧ upf s.2.2 (12 + a.1.toNat) b.1 19 ≤ 9
    unfold upf
    rw [if_neg (by omega)]; exact q9
end
section
variable {f : Nat → Int} {n : Nat} {WTw WTg : List Int → Bool → Nat → Prop}
theorem shape_ok {s s' : QS} {k : Int} (q : QI f n WTw WTg s) (hk : t_k s.1 ≠ 26) (hk2 : 0 ≤ k ∧ k ≤ 2) (h : shapeP f n k s = .ok s') : QI f n WTw WTg s' := by
  obtain ⟨q1, q2, q3, q4, q5, q6, q7, q8, q9⟩ := q
  unfold shapeP at h
  by_cases z : g_S s.2.1 = 6
  · rw [if_pos z] at h; cases h
  rw [if_neg z] at h
  obtain ⟨t1, h1, h⟩ := bq_ok h
  obtain ⟨x, h2, h⟩ := bq_ok h
  obtain ⟨y, h3, h⟩ := bq_ok h
  obtain ⟨a, h4, h⟩ := bq_ok h
  obtain ⟨b, h5, h⟩ := bq_ok h
  obtain ⟨o1, p1⟩ := nxT_ok hk h1 q1
  obtain ⟨o2, v2, w2, p2⟩ := numT_ok h2 o1
  obtain ⟨o3, v3, w3, p3⟩ := numT_ok h3 o2
  obtain ⟨o4, v4, w4, p4⟩ := numT_ok h4 o3
  have hb : okV f n b.2 ∧ (k ≠ 1 → 1 ≤ b.1 ∧ b.1 ≤ 200) ∧ 0 ≤ b.1 ∧ b.1 ≤ 200 ∧ t_a a.2 ≤ t_a b.2 := by
    by_cases y1 : k = 1
    · rw [if_pos y1] at h5; cases h5
      exact ⟨o4, fun w => absurd y1 w, by show (0 : Int) ≤ 0; omega, by show (0 : Int) ≤ 200; omega, Nat.le_refl _⟩
    · rw [if_neg y1] at h5
      obtain ⟨o5, v5, w5, p5⟩ := numT_ok h5 o4
      exact ⟨o5, fun _ => ⟨v5, w5⟩, by omega, by omega, by omega⟩
  obtain ⟨o5, b1, b2, b3, p5⟩ := hb
  cases h
  refine ⟨o5, ⟨q2.1, q2.2.1, q2.2.2.1, q2.2.2.2.1, q2.2.2.2.2.1, q2.2.2.2.2.2.1, q2.2.2.2.2.2.2.1, q2.2.2.2.2.2.2.2.1, by show g_S s.2.1 + 1 ≤ 6; omega, q2.2.2.2.2.2.2.2.2.2.1, q2.2.2.2.2.2.2.2.2.2.2.1, by show g_to s.2.1 ≤ (t_a b.2 : Int); omega⟩, fun i hi => ?_, q4, q5, fun j hj => ?_, fun j h1 h2 => ?_, ?_, ?_⟩
  · have hi2 : i < g_S s.2.1 + 1 := hi
    show 0 ≤ upf (g_kd s.2.1) (g_S s.2.1) k i ∧ upf (g_kd s.2.1) (g_S s.2.1) k i ≤ 2 ∧ 1 ≤ upf (g_ac s.2.1) (g_S s.2.1) a.1 i ∧ upf (g_ac s.2.1) (g_S s.2.1) a.1 i ≤ 200 ∧ (upf (g_kd s.2.1) (g_S s.2.1) k i ≠ 0 → upf (g_ac s.2.1) (g_S s.2.1) a.1 i ≤ 100) ∧ (upf (g_kd s.2.1) (g_S s.2.1) k i ≠ 1 → 1 ≤ upf (g_tl s.2.1) (g_S s.2.1) b.1 i ∧ upf (g_tl s.2.1) (g_S s.2.1) b.1 i ≤ 200) ∧ 0 ≤ upf (g_tl s.2.1) (g_S s.2.1) b.1 i ∧ upf (g_tl s.2.1) (g_S s.2.1) b.1 i ≤ 200
    unfold upf
    by_cases e : i = g_S s.2.1
    · rw [if_pos e, if_pos e, if_pos e]
      refine ⟨hk2.1, hk2.2, v4, ?_, fun w => ?_, b1, b2, b3⟩
      · by_cases k0 : k = 0
        · rw [if_pos k0] at w4; exact w4
        · rw [if_neg k0] at w4; omega
      · rw [if_neg w] at w4; exact w4
    · rw [if_neg e, if_neg e, if_neg e]; exact q3 i (by omega)
  · show 0 ≤ upf (upf s.2.2 (g_S s.2.1) x.1) (6 + g_S s.2.1) y.1 j ∧ upf (upf s.2.2 (g_S s.2.1) x.1) (6 + g_S s.2.1) y.1 j ≤ 200 ∧ 0 ≤ upf (upf s.2.2 (g_S s.2.1) x.1) (6 + g_S s.2.1) y.1 (6 + j) ∧ upf (upf s.2.2 (g_S s.2.1) x.1) (6 + g_S s.2.1) y.1 (6 + j) ≤ 400 ∧ -1 ≤ upf (upf s.2.2 (g_S s.2.1) x.1) (6 + g_S s.2.1) y.1 (12 + j) ∧ upf (upf s.2.2 (g_S s.2.1) x.1) (6 + g_S s.2.1) y.1 (12 + j) ≤ 29
    have := q6 j hj
    have s6 := q2.2.2.2.2.2.2.2.2.1
    unfold upf
    rw [if_neg (show ¬ j = 6 + g_S s.2.1 by omega), if_neg (show ¬ 12 + j = 6 + g_S s.2.1 by omega), if_neg (show ¬ 12 + j = g_S s.2.1 by omega), if_neg (show ¬ 6 + j = g_S s.2.1 by omega)]
    refine ⟨?_, ?_, ?_, ?_, by omega, by omega⟩
    · split <;> omega
    · split <;> omega
    · split <;> omega
    · split <;> omega
  · show upf (upf s.2.2 (g_S s.2.1) x.1) (6 + g_S s.2.1) y.1 (12 + j) = -1
    have h3 : g_S s.2.1 + 1 ≤ j := h1
    have s6 := q2.2.2.2.2.2.2.2.2.1
    unfold upf
    rw [if_neg (by omega), if_neg (by omega)]; exact q7 j (by omega) h2
  · show upf (upf s.2.2 (g_S s.2.1) x.1) (6 + g_S s.2.1) y.1 18 = 0
    have s6 := q2.2.2.2.2.2.2.2.2.1
    unfold upf
    rw [if_neg (by omega), if_neg (by omega)]; exact q8
  · show 0 ≤ upf (upf s.2.2 (g_S s.2.1) x.1) (6 + g_S s.2.1) y.1 19 ∧ upf (upf s.2.2 (g_S s.2.1) x.1) (6 + g_S s.2.1) y.1 19 ≤ 9
    have s6 := q2.2.2.2.2.2.2.2.2.1
    unfold upf
    rw [if_neg (by omega), if_neg (by omega)]; exact q9
theorem wordsL_ok : ∀ (m : Nat) (s s' : QS), QI f n WTw WTg s → wordsL f n m s = .ok s' → QI f n WTw WTg s' ∧ t_a s.1 ≤ t_a s'.1 := by
  intro m
  induction m with
  | zero => intro s s' q h; cases h; exact ⟨q, Nat.le_refl _⟩
  | succ m ih =>
    intro s s' q h
    unfold wordsL at h
    by_cases z1 : t_k s.1 < 0 ∨ 24 < t_k s.1
    · rw [if_pos z1] at h; cases h; exact ⟨q, Nat.le_refl _⟩
    rw [if_neg z1] at h
    by_cases z2 : 12 < t_b s.1 - t_a s.1
    · rw [if_pos z2] at h; cases h
    rw [if_neg z2] at h
    by_cases z3 : g_W s.2.1 = 30
    · rw [if_pos z3] at h; cases h
    rw [if_neg z3] at h
    obtain ⟨t, h1, h⟩ := bq_ok h
    obtain ⟨q1, q2, q3, q4, q5, q6⟩ := q
    obtain ⟨o1, p1⟩ := nxT_ok (by omega) h1 q1
    have lt := q1.2.2.2.2.1 (by omega)
    have le := of_decide_eq_true (q1.1 (by omega))
    have key0 := fun qi => ih _ s' qi h
    refine (fun key => ?_) (key0 ⟨o1, ⟨q2.1, q2.2.1, q2.2.2.1, q2.2.2.2.1, q2.2.2.2.2.1, q2.2.2.2.2.2.1, q2.2.2.2.2.2.2.1, q2.2.2.2.2.2.2.2.1, q2.2.2.2.2.2.2.2.2.1, by show g_W s.2.1 + 1 ≤ 30; omega, q2.2.2.2.2.2.2.2.2.2.2.1, by show g_to s.2.1 ≤ (t_a t : Int); omega⟩, q3, fun w hw => ?_, q5, q6⟩)
    · exact ⟨key.1, by have := key.2; show t_a s.1 ≤ _; have e : t_a t ≤ t_a s'.1 := this; omega⟩
    · have hw2 : w < g_W s.2.1 + 1 := hw
      show 1 ≤ upf (g_lt s.2.1) (g_W s.2.1) ((t_b s.1 : Int) - t_a s.1) w ∧ upf (g_lt s.2.1) (g_W s.2.1) ((t_b s.1 : Int) - t_a s.1) w ≤ 12 ∧ 1 ≤ upf (g_fi s.2.1) (g_W s.2.1) (f (t_a s.1) - 97 + 1) w ∧ upf (g_fi s.2.1) (g_W s.2.1) (f (t_a s.1) - 97 + 1) w ≤ 26
      unfold upf
      by_cases e : w = g_W s.2.1
      · rw [if_pos e, if_pos e]; omega
      · rw [if_neg e, if_neg e]; exact q4 w (by omega)
theorem law_ok {W : Bool} {s s' : QS} (Mw : Mk true WTw) (Mg : Mk false WTg) (q : QI f n WTw WTg s) (hk : t_k s.1 ≠ 26) (h : lawP f n W s = .ok s') : QI f n WTw WTg s' := by
  obtain ⟨q1, q2, q3, q4, q5, q6⟩ := q
  unfold lawP at h
  obtain ⟨t1, h1, h⟩ := bq_ok h
  obtain ⟨t2, h2, h⟩ := bq_ok h
  obtain ⟨l, h3, h⟩ := bq_ok h
  obtain ⟨o1, p1⟩ := nxT_ok hk h1 q1
  obtain ⟨o2, p2⟩ := eatT_ok (by decide) h2 o1
  cases W with
  | true =>
    obtain ⟨o3, c, e3, w3, p3⟩ := sum_ty Mw (lvl_ty Mw 6) (t2, []) l h3 o2
    have p3' : t_a t2 ≤ t_a l.1 := by have : c.length + t_a t2 ≤ t_a l.1 := p3; omega
    have e3' : l.2 = c := e3
    cases h
    refine ⟨o3, ⟨q2.1, q2.2.1, q2.2.2.1, q2.2.2.2.1, q2.2.2.2.2.1, q2.2.2.2.2.2.1, q2.2.2.2.2.2.2.1, q2.2.2.2.2.2.2.2.1, q2.2.2.2.2.2.2.2.2.1, q2.2.2.2.2.2.2.2.2.2.1, q2.2.2.2.2.2.2.2.2.2.2.1, by show g_to s.2.1 ≤ (t_a l.1 : Int); omega⟩, q3, q4, ⟨Or.inr ?_, q5.2⟩, q6⟩
    show WTw l.2 false 64
    rw [e3']; exact Mw.mono _ _ _ _ w3 (by omega)
  | false =>
    obtain ⟨o3, c, e3, w3, p3⟩ := sum_ty Mg (lvl_ty Mg 6) (t2, []) l h3 o2
    have p3' : t_a t2 ≤ t_a l.1 := by have : c.length + t_a t2 ≤ t_a l.1 := p3; omega
    have e3' : l.2 = c := e3
    cases h
    refine ⟨o3, ⟨q2.1, q2.2.1, q2.2.2.1, q2.2.2.2.1, q2.2.2.2.2.1, q2.2.2.2.2.2.1, q2.2.2.2.2.2.2.1, q2.2.2.2.2.2.2.2.1, q2.2.2.2.2.2.2.2.2.1, q2.2.2.2.2.2.2.2.2.2.1, q2.2.2.2.2.2.2.2.2.2.2.1, by show g_to s.2.1 ≤ (t_a l.1 : Int); omega⟩, q3, q4, ⟨q5.1, Or.inr ?_⟩, q6⟩
    show WTg l.2 false 64
    rw [e3']; exact Mg.mono _ _ _ _ w3 (by omega)
end
section
variable {f : Nat → Int} {n : Nat} {WTw WTg : List Int → Bool → Nat → Prop}
theorem words_ok {s s' : QS} (q : QI f n WTw WTg s) (hk : t_k s.1 ≠ 26) (h : wordsP f n s = .ok s') : QI f n WTw WTg s' := by
  unfold wordsP at h
  obtain ⟨t, h1, h⟩ := bq_ok h
  obtain ⟨q1, q2, q3⟩ := q
  obtain ⟨o1, p1⟩ := nxT_ok hk h1 q1
  exact (wordsL_ok 900 (t, s.2) s' ⟨o1, ⟨q2.1, q2.2.1, q2.2.2.1, q2.2.2.2.1, q2.2.2.2.2.1, q2.2.2.2.2.2.1, q2.2.2.2.2.2.2.1, q2.2.2.2.2.2.2.2.1, q2.2.2.2.2.2.2.2.2.1, q2.2.2.2.2.2.2.2.2.2.1, q2.2.2.2.2.2.2.2.2.2.2.1, by show g_to s.2.1 ≤ (t_a t : Int); omega⟩, q3⟩ h).1
theorem line_ok (Mw : Mk true WTw) (Mg : Mk false WTg) {s s' : QS} (q : QI f n WTw WTg s) (h : lineP f n s = .ok s') : QI f n WTw WTg s' := by
  unfold lineP at h
  by_cases z1 : 6 ≤ t_k s.1 ∧ t_k s.1 ≤ 8
  · rw [if_pos z1] at h; exact shape_ok q (by omega) (by omega) h
  rw [if_neg z1] at h
  by_cases z2 : t_k s.1 = 9
  · rw [if_pos z2] at h; exact tie_ok q (by omega) h
  rw [if_neg z2] at h
  by_cases z3 : t_k s.1 = 10
  · rw [if_pos z3] at h; exact words_ok q (by omega) h
  rw [if_neg z3] at h
  by_cases z4 : t_k s.1 = 1
  · rw [if_pos z4] at h; exact law_ok Mw Mg q (by omega) h
  rw [if_neg z4] at h
  by_cases z5 : t_k s.1 = 11
  · rw [if_pos z5] at h; exact law_ok Mw Mg q (by omega) h
  rw [if_neg z5] at h
  cases h
theorem lines_ok (Mw : Mk true WTw) (Mg : Mk false WTg) : ∀ (m : Nat) (s s' : QS), QI f n WTw WTg s → linesP f n m s = .ok s' → QI f n WTw WTg s' := by
  intro m
  induction m with
  | zero => intro s s' q h; cases h; exact q
  | succ m ih =>
    intro s s' q h
    unfold linesP at h
    by_cases z : t_k s.1 = 26
    · rw [if_pos z] at h; cases h; exact q
    rw [if_neg z] at h
    obtain ⟨s1, h1, h⟩ := bq_ok h
    obtain ⟨t, h2, h⟩ := bq_ok h
    have q1 := line_ok Mw Mg q h1
    obtain ⟨o, p⟩ := eatT_ok (by decide) h2 q1.1
    exact ih _ s' (told_ok q1 o p) h
theorem parse_ok (Mw : Mk true WTw) (Mg : Mk false WTg) {r : PG × (Nat → Int)} (h : parse f n = .ok r) : ∃ t, QI f n WTw WTg (t, r) := by
  unfold parse at h
  obtain ⟨t, h1, h⟩ := bq_ok h
  obtain ⟨s, h2, h⟩ := bq_ok h
  obtain ⟨s', h3, h⟩ := bq_ok h
  have o0 : okU f n (26, 0, 0, 0) := ⟨fun w => by exfalso; have : (26 : Int) ≤ 24 := w.2; omega, Nat.le_refl _, Nat.zero_le _, by decide, fun w => absurd rfl w, fun w => by exfalso; have : (26 : Int) = 25 := w; omega⟩
  obtain ⟨o1, -⟩ := nxt_okV h1 o0
  have q := lines_ok Mw Mg 900 s s' (head_ok o1 h2) h3
  cases h
  exact ⟨s'.1, q⟩
end

theorem wdOf_ok {W : Bool} {k : Int} (h : wdOf W k ≠ -1) : okd W (1000 + wdOf W k) ∧ 0 ≤ wdOf W k ∧ wdOf W k ≤ 5 := by
  unfold wdOf at *
  unfold okd
  by_cases e1 : k = 5
  · rw [if_pos e1]; omega
  · rw [if_neg e1] at h ⊢
    by_cases e2 : W = true ∧ 16 ≤ k ∧ k ≤ 18
    · rw [if_pos e2]; exact ⟨Or.inr (Or.inl (Or.inr (Or.inl ⟨e2.1, by omega, by omega⟩))), by omega, by omega⟩
    · rw [if_neg e2] at h ⊢
      by_cases e3 : W = false ∧ 19 ≤ k ∧ k ≤ 20
      · rw [if_pos e3]; exact ⟨Or.inr (Or.inl (Or.inr (Or.inr ⟨e3.1, by omega, by omega⟩))), by omega, by omega⟩
      · rw [if_neg e3] at h; exact absurd rfl h
theorem MkW (W : Bool) : Mk W (WT W) := ⟨fun v h1 h2 => WT_num h1 h2, fun k hk => WT_wrd (by have := wdOf_ok hk; omega) (by have := wdOf_ok hk; omega) (wdOf_ok hk).1, fun x y ta tr k m1 m2 m hx hy hk h1 h2 h3 h4 => WT_bin hx hy hk h1 h2 h3 h4, fun x m h => WT_not h, fun c a b m1 m2 m3 m hc ha hb h1 h2 h3 => WT_if hc ha hb h1 h2 h3, fun c b m m' h hm => h.mono hm⟩
theorem parse_POK {f : Nat → Int} {n : Nat} (hn : n ≤ 900) {r : PG × (Nat → Int)} (h : parse f n = .ok r) : POK r.1 ∧ SOK r.1 r.2 := by
  obtain ⟨t, q⟩ := parse_ok (MkW true) (MkW false) h
  obtain ⟨ok, a, b, c, l, s1, s2, s3, s4, s5⟩ := q
  have hb := ok.2.1
  have hc := ok.2.2.1
  refine ⟨⟨by have := a.2.2.2.2.2.2.2.2.2.2; dsimp only at *; omega, b, c, l.1, l.2⟩, s1, s2, fun w hw => ?_, ?_, s4, s5⟩
  · have e : r.2 18 = 0 := s3
    rw [e]; exact bit_0 w
  · have e : r.2 18 = 0 := s3
    rw [e]; exact R32_0
