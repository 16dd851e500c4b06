/-! THE MODEL: what is seen -/
theorem anyF_of {P : Nat → Bool} {i : Nat} (h : P i = true) : ∀ n, i < n → anyF P n = true := by
  intro n
  induction n with
  | zero => intro z; exact absurd z (Nat.not_lt_zero i)
  | succ n ih =>
    intro z
    show (anyF P n || P n) = true
    by_cases e : i = n
    · rw [← e, h]; simp
    · rw [ih (by omega)]; rfl
theorem anyF_no {P : Nat → Bool} {n : Nat} (h : anyF P n = false) {i : Nat} (hi : i < n) : P i = false := by
  cases e : P i with
  | false => rfl
  | true => rw [anyF_of e n hi] at h; exact absurd h (by decide)
def noS (A : AS) (t : Int) : Int := if noT A t ≠ 0 then noT A t else if A_sz A t.toNat < 1 ∨ 8 < A_sz A t.toNat then -4 else if anyF (fun j => vBad A (tv A t.toNat j)) (A_sz A t.toNat).toNat then -3 else 0
theorem r_inks_eq (A : AS) (t : Int) : r_inks A t = if noS A t ≠ 0 then noS A t else seenM A t.toNat (A_sz A t.toNat).toNat := by
  unfold r_inks noS
  by_cases a : noT A t ≠ 0
  · rw [if_pos a, if_pos a, if_pos a]
  · rw [if_neg a, if_neg a]
    by_cases b : A_sz A t.toNat < 1 ∨ 8 < A_sz A t.toNat
    · rw [if_pos b, if_pos b, if_pos (by decide)]
    · rw [if_neg b, if_neg b]
      by_cases c : anyF (fun j => vBad A (tv A t.toNat j)) (A_sz A t.toNat).toNat = true
      · rw [if_pos c, if_pos c, if_pos (by decide)]
      · rw [if_neg c, if_neg c, if_neg (by decide)]
theorem noS_0 {A : AS} {t : Int} (h : noS A t = 0) : noT A t = 0 ∧ 1 ≤ A_sz A t.toNat ∧ A_sz A t.toNat ≤ 8 ∧ anyF (fun j => vBad A (tv A t.toNat j)) (A_sz A t.toNat).toNat = false := by
  unfold noS at h
  by_cases a : noT A t ≠ 0
  · rw [if_pos a] at h; exact absurd h a
  · rw [if_neg a] at h
    by_cases b : A_sz A t.toNat < 1 ∨ 8 < A_sz A t.toNat
    · rw [if_pos b] at h; exact absurd h (by decide)
    · rw [if_neg b] at h
      refine ⟨by omega, by omega, by omega, ?_⟩
      cases c : anyF (fun j => vBad A (tv A t.toNat j)) (A_sz A t.toNat).toNat with
      | false => rfl
      | true => rw [c] at h; exact absurd h (by decide)
theorem noS_rg (A : AS) (t : Int) : noS A t ≤ 0 := by
  have := noT_rg A t
  unfold noS
  split
  · omega
  · split
    · omega
    · split <;> omega
theorem ian (c : Bool) : iand (if c then 0 else 1) 0 = 0 := by cases c <;> decide +kernel
theorem ian1 (c : Bool) : iand (if c then 0 else 1) 1 = if c then 0 else 1 := by cases c <;> decide +kernel
theorem amin_first {f : Nat → Int} (hf : ∀ i, f i ≤ 10) {m i : Nat} {a u v : Int} (hu : 10 < u) (hv : 10 < v) : amin f m i (a, u) = amin f m i (a, v) := by
  cases m with
  | zero => rfl
  | succ m =>
    have h1 := hf i
    unfold amin
    rw [if_pos (by show f i < u; omega), if_pos (by show f i < v; omega)]
section
variable {d : Nat} {h : PH} {Q : Option PV → PH → Prop}
variable {A : AS}
theorem ns_loop (X : RM h A) {t N : Nat} (ht : t < 4) (hN : A_sz A t = N) (hN8 : N ≤ 8) (hq : Q (some (vI (if anyF (fun j => vBad A (tv A t j)) N then -3 else 0))) h) :
    ∀ (m i : Nat), i + m = N → anyF (fun j => vBad A (tv A t j)) i = false → T2 (d + 2) mX11_noSeen 34 [some (vR 247), some (vI (t : Int)), none, some (vI (i : Int)), none, none] [] h Q := by
  have ok1 := X.1.1.1
  obtain ⟨t1, t2⟩ := X.2.2.2.2.2.2.2.1
  have e7 := (t1 t ht).2
  have hbad : ∀ i, i < N → vBad A (tv A t i) = true → Q (some (vI (-3))) h := by
    intro i hi hb
    rw [anyF_of (P := fun j => vBad A (tv A t j)) hb N hi] at hq; exact hq
  intro m
  induction m with
  | zero =>
    intro i hi hb
    refine BX11_noSeen_34 ⟨⟨by omega, by omega⟩, fun _ => ?_, fun z => by rw [Int.toNat_natCast, e7] at z; omega⟩
    rw [show i = N by omega] at hb
    rw [hb] at hq; exact hq
  | succ m ih =>
    intro i hi hb
    refine T2_rng (fun rg => ?_)
    refine BX11_noSeen_34 ⟨⟨by omega, by omega⟩, fun z => by rw [Int.toNat_natCast, e7] at z; omega, fun _ => ?_⟩
    rw [w32_r (x := 40 * (t : Int)) (by omega) (by omega), w32_r (x := 40 * (t : Int) + (i : Int)) (by omega) (by omega), show 40 * (t : Int) + (i : Int) = ((40 * t + i : Nat) : Int) by omega, w32_r (x := (i : Int) + 1) (by omega) (by omega), show (i : Int) + 1 = ((i + 1 : Nat) : Int) by omega]
    try simp only [Int.toNat_natCast]
    have ev : gj h 278 (40 * t + i) = tv A t i := t2 _ (by omega)
    have rv := rg.2 278 (40 * t + i)
    rw [ev] at rv ⊢
    unfold R64 at rv
    refine ⟨⟨by omega, by omega⟩, fun z => hbad i (by omega) (decide_eq_true (Or.inl z)), fun z => ?_⟩
    rw [Int.tdiv_eq_ediv_of_nonneg z, Int.tmod_eq_emod_of_nonneg z, w64_of (by omega) (by omega)]
    refine m_isWord (d := d) X.mg (fun _ => ⟨fun y => ?_, fun y => ?_⟩)
    · have := if00 y
      exact hbad i (by omega) (decide_eq_true (Or.inr (Or.inl (by omega))))
    · have hw := if01 y
      refine m_within (fun _ => ⟨fun x => ?_, fun x => ?_⟩)
      · have hx := if01 x
        refine ih (i + 1) (by omega) ?_
        show (anyF (fun j => vBad A (tv A t j)) i || vBad A (tv A t i)) = false
        rw [hb, show vBad A (tv A t i) = false from decide_eq_false (by omega)]; rfl
      · have hx := if00 x
        exact hbad i (by omega) (decide_eq_true (Or.inr (Or.inr (by omega))))
theorem m_noSeen (X : RM h A) {t : Int} (hq : Q (some (vI (noS A t))) h) : C2 (d + 2) mX11_noSeen [vR 247, vI t] h Q := by
  unfold noS at hq
  refine EX11_noSeen fun _ => BX11_noSeen_0 (m_noTray (d := d) X (fun _ => ⟨fun y => ?_, fun y => ?_⟩))
  · obtain ⟨ht, hso⟩ := noT_0 y
    rw [if_neg (fun e => e y)] at hq
    obtain ⟨n, hn⟩ := ex_nat ht.1
    subst hn
    simp only [Int.toNat_natCast] at hq
    obtain ⟨t1, t2⟩ := X.2.2.2.2.2.2.2.1
    try simp only [Int.toNat_natCast]
    rw [(t1 n (by omega)).2]
    refine ⟨⟨by omega, by omega⟩, m_within (fun _ => ⟨fun z => ?_, fun z => ?_⟩)⟩
    · have hz := if01 z
      rw [if_neg (by omega)] at hq
      exact ns_loop X (N := (A_sz A n).toNat) (by omega) (by omega) (by omega) hq (A_sz A n).toNat 0 (by omega) rfl
    · have hz := if00 z
      rw [if_pos (by omega)] at hq; exact hq
  · rw [if_pos y] at hq; exact hq
theorem in_loop {t N k : Nat} (ht : t < 4) (hN : A_sz A t = N) (hN8 : N ≤ 8) (hk : k < 10) (hnb : ∀ j, j < N → vBad A (tv A t j) = false) {S : Int} (hS : R32 S) (hq : ∀ h', RM h' A → fr frMo h h' → T2 (d + 3) mX11_inksOf 4 [some (vR 247), some (vI (t : Int)), some (vI (if !anyF (fun j => !inkO A (tv A t j) k) N then ior S (ishl 1 (k : Int)) else S)), some (vI ((k + 1 : Nat) : Int)), none, none, none] [] h' Q) :
    ∀ (m i : Nat) (h1 : PH), i + m = N → RM h1 A → fr frMo h h1 → T2 (d + 3) mX11_inksOf 16 [some (vR 247), some (vI (t : Int)), some (vI S), some (vI (k : Int)), some (vI (if anyF (fun j => !inkO A (tv A t j) k) i then 0 else 1)), some (vI (i : Int)), none] [] h1 Q := by
  intro m
  induction m with
  | zero =>
    intro i h1 hi X F
    obtain ⟨t1, t2⟩ := X.2.2.2.2.2.2.2.1
    have e7 := (t1 t ht).2
    have hq1 := hq h1 X F
    refine BX11_inksOf_16 ⟨⟨by omega, by omega⟩, fun _ => ?_, fun z => by rw [Int.toNat_natCast, e7] at z; omega⟩
    rw [w32_r (x := (k : Int) + 1) (by omega) (by omega), show (k : Int) + 1 = ((k + 1 : Nat) : Int) by omega, show i = N by omega]
    cases c : anyF (fun j => !inkO A (tv A t j) k) N with
    | true => rw [c] at hq1; exact ⟨fun _ => by rw [ior0 hS]; exact hq1, fun z => absurd rfl z⟩
    | false => rw [c] at hq1; exact ⟨fun z => absurd z (by decide), fun _ => hq1⟩
  | succ m ih =>
    intro i h1 hi X F
    have ok1 := X.1.1.1
    obtain ⟨t1, t2⟩ := X.2.2.2.2.2.2.2.1
    have e7 := (t1 t ht).2
    refine BX11_inksOf_16 ⟨⟨by omega, by omega⟩, fun z => by rw [Int.toNat_natCast, e7] at z; omega, fun _ => ?_⟩
    rw [w32_r (x := 40 * (t : Int)) (by omega) (by omega), w32_r (x := 40 * (t : Int) + (i : Int)) (by omega) (by omega), show 40 * (t : Int) + (i : Int) = ((40 * t + i : Nat) : Int) by omega, w32_r (x := (i : Int) + 1) (by omega) (by omega), show (i : Int) + 1 = ((i + 1 : Nat) : Int) by omega]
    try simp only [Int.toNat_natCast]
    have ev : gj h1 278 (40 * t + i) = tv A t i := t2 _ (by omega)
    rw [ev]
    have nb := of_decide_eq_false (hnb i (by omega))
    have z0 : 0 ≤ tv A t i := by omega
    rw [w32_r (x := tv A t i) (by omega) (by omega), Int.tdiv_eq_ediv_of_nonneg z0, Int.tmod_eq_emod_of_nonneg z0, w32_r (x := tv A t i / 1000) (by omega) (by omega), show tv A t i / 1000 = (((tv A t i / 1000).toNat : Nat) : Int) by omega]
    refine ⟨⟨by omega, by omega⟩, c_widthM (d := d) X.1.1 X.mg.2.2.1 (by omega) (by omega) (fun h2 F2 _ => ?_)⟩
    have F2' : fr frMs h1 h2 := F2.mono (fun q k z => by unfold frX at z; unfold frMs; omega)
    have := ih (i + 1) h2 (by omega) (X.keep F2') (F.tr (F2'.mono (fun q k z => frMs_o z)))
    have su : anyF (fun j => !inkO A (tv A t j) k) (i + 1) = (anyF (fun j => !inkO A (tv A t j) k) i || !inkO A (tv A t i) k) := rfl
    rw [su] at this
    refine ⟨fun z => ?_, fun z => ?_⟩
    · rw [show inkO A (tv A t i) k = false from decide_eq_false z] at this
      rw [ian]
      simpa using this
    · rw [show inkO A (tv A t i) k = true from decide_eq_true z] at this
      rw [ian1]
      simpa using this
theorem io_loop {t N : Nat} (ht : t < 4) (hN : A_sz A t = N) (hN8 : N ≤ 8) (hnb : ∀ j, j < N → vBad A (tv A t j) = false) (hq : ∀ h', RM h' A → fr frMo h h' → Q (some (vI (seenM A t N))) h') :
    ∀ (m k : Nat) (h1 : PH), k + m = 10 → RM h1 A → fr frMo h h1 → T2 (d + 3) mX11_inksOf 4 [some (vR 247), some (vI (t : Int)), some (vI (bitsF (fun k => !anyF (fun j => !inkO A (tv A t j) k) N) k)), some (vI (k : Int)), none, none, none] [] h1 Q := by
  intro m
  induction m with
  | zero =>
    intro k h1 hk X F
    refine BX11_inksOf_4 ⟨fun _ => ?_, fun z => by omega⟩
    rw [show k = 10 by omega]
    exact hq h1 X F
  | succ m ih =>
    intro k h1 hk X F
    refine BX11_inksOf_4 ⟨fun z => by omega, fun _ => ?_⟩
    refine in_loop (h := h1) ht hN hN8 (by omega) hnb (R32_bitsF _ _) (fun h2 X2 F2 => ?_) N 0 h1 (by omega) X fr.rf
    exact ih (k + 1) h2 (by omega) X2 (F.tr F2)
theorem m_inksOf (X : RM h A) {t : Int} (h0 : noS A t = 0) (hq : ∀ h', RM h' A → fr frMo h h' → Q (some (vI (r_inks A t))) h') : C2 (d + 3) mX11_inksOf [vR 247, vI t] h Q := by
  rw [r_inks_eq, if_neg (fun e => e h0)] at hq
  obtain ⟨y, s1, s2, s3⟩ := noS_0 h0
  obtain ⟨ht, hso⟩ := noT_0 y
  obtain ⟨n, hn⟩ := ex_nat ht.1
  subst hn
  simp only [Int.toNat_natCast] at hq s1 s2 s3
  exact EX11_inksOf fun _ => BX11_inksOf_0 (io_loop (t := n) (N := (A_sz A n).toNat) (by omega) (by omega) (by omega) (fun j hj => anyF_no s3 hj) hq 10 0 h (by omega) X fr.rf)
theorem n_inks (X : RM h A) {t : Int} (hq : ∀ h', RM h' A → fr frMo h h' → Q (some (vI (r_inks A t))) h') : C2 (d + 4) mX11_inks [vR 247, vI t] h Q := by
  refine EX11_inks fun _ => BX11_inks_0 (fun h1 e1 => ?_)
  obtain ⟨X1, F1⟩ := X.z e1
  refine m_noSeen (d := d + 1) X1 (fun _ => ⟨fun z => m_inksOf (d := d) X1 z (fun h2 X2 F2 _ => hq h2 X2 (F1.tr F2)), fun z => ?_⟩)
  have := hq h1 X1 F1
  rw [r_inks_eq, if_pos z] at this; exact this
theorem ma_in {S : Int} {w k : Nat} (hk : k < 10) (hB : ∀ j, j < 10 → gi h 273 j = widA (A_g A) j w) (hq : T2 (d + 1) mX11_mostAlike 31 [some (vR 247), some (vI S), none, some (vI (mostA A S w (k + 1))), some (vI ((k + 1 : Nat) : Int)), none, none] [] h Q) :
    ∀ (m j : Nat), j + m = 10 → T2 (d + 1) mX11_mostAlike 44 [some (vR 247), some (vI S), none, some (vI (mostA A S w k)), some (vI (k : Int)), some (vI (sumF (fun j => if bit S k && bit S j && decide (widA (A_g A) j w = widA (A_g A) k w) then 1 else 0) j)), some (vI (j : Int))] [] h Q := by
  intro m
  induction m with
  | zero =>
    intro j hj
    refine BX11_mostAlike_44 ⟨fun _ => ?_, fun z => by omega⟩
    rw [w32_r (x := (k : Int) + 1) (by omega) (by omega), show (k : Int) + 1 = ((k + 1 : Nat) : Int) by omega, show j = 10 by omega]
    have e : mostA A S w (k + 1) = max (mostA A S w k) (sumF (fun j => if bit S k && bit S j && decide (widA (A_g A) j w = widA (A_g A) k w) then 1 else 0) 10) := rfl
    refine ⟨fun z => ?_, fun z => ?_⟩
    · rw [e, show max (mostA A S w k) (sumF (fun j => if bit S k && bit S j && decide (widA (A_g A) j w = widA (A_g A) k w) then 1 else 0) 10) = mostA A S w k by omega] at hq; exact hq
    · rw [e, show max (mostA A S w k) (sumF (fun j => if bit S k && bit S j && decide (widA (A_g A) j w = widA (A_g A) k w) then 1 else 0) 10) = sumF (fun j => if bit S k && bit S j && decide (widA (A_g A) j w = widA (A_g A) k w) then 1 else 0) 10 by omega] at hq; exact hq
  | succ m ih =>
    intro j hj
    have := ih (j + 1) (by omega)
    have r := sumF_rg (f := fun j => if bit S k && bit S j && decide (widA (A_g A) j w = widA (A_g A) k w) then (1 : Int) else 0) (M := 1) (fun n => by split <;> omega) j
    have su : sumF (fun j => if bit S k && bit S j && decide (widA (A_g A) j w = widA (A_g A) k w) then (1 : Int) else 0) (j + 1) = sumF (fun j => if bit S k && bit S j && decide (widA (A_g A) j w = widA (A_g A) k w) then (1 : Int) else 0) j + (if bit S k && bit S j && decide (widA (A_g A) j w = widA (A_g A) k w) then 1 else 0) := rfl
    rw [su] at this
    generalize sumF (fun j => if bit S k && bit S j && decide (widA (A_g A) j w = widA (A_g A) k w) then (1 : Int) else 0) j = s at this r ⊢
    refine BX11_mostAlike_44 ⟨fun z => by omega, fun _ => c_isIn (by omega) (fun _ => ?_)⟩
    rw [w32_r (x := (j : Int) + 1) (by omega) (by omega), show (j : Int) + 1 = ((j + 1 : Nat) : Int) by omega, w32_r (x := s + 0) (by omega) (by omega), w32_r (x := s + 1) (by omega) (by omega)]
    cases b1 : bit S k with
    | false =>
      rw [b1] at this
      exact ⟨fun _ => this, fun z => absurd rfl z⟩
    | true =>
      rw [b1] at this
      refine ⟨fun z => absurd z (by decide), fun _ => c_isIn (by omega) (fun _ => ?_)⟩
      cases b2 : bit S j with
      | false =>
        rw [b2] at this
        exact ⟨fun _ => this, fun z => absurd rfl z⟩
      | true =>
        rw [b2] at this
        refine ⟨fun z => absurd z (by decide), fun _ => ⟨⟨by omega, by omega⟩, ⟨by omega, by omega⟩, ?_⟩⟩
        try simp only [Int.toNat_natCast]
        rw [hB k hk, hB j (by omega)]
        refine ⟨fun z => ?_, fun z => ?_⟩
        · rw [show decide (widA (A_g A) j w = widA (A_g A) k w) = false from decide_eq_false (fun e => z e.symm)] at this; exact this
        · rw [show decide (widA (A_g A) j w = widA (A_g A) k w) = true from decide_eq_true z.symm] at this; exact this
theorem ma_out {S : Int} {w : Nat} (hB : ∀ j, j < 10 → gi h 273 j = widA (A_g A) j w) (hq : Q (some (vI (mostA A S w 10))) h) :
    ∀ (m k : Nat), k + m = 10 → T2 (d + 1) mX11_mostAlike 31 [some (vR 247), some (vI S), none, some (vI (mostA A S w k)), some (vI (k : Int)), none, none] [] h Q := by
  intro m
  induction m with
  | zero =>
    intro k hk
    refine BX11_mostAlike_31 ⟨fun _ => ?_, fun z => by omega⟩
    rw [show k = 10 by omega]; exact hq
  | succ m ih =>
    intro k hk
    exact BX11_mostAlike_31 ⟨fun z => by omega, fun _ => ma_in (by omega) hB (ih (k + 1) (by omega)) 10 0 (by omega)⟩
theorem ma_wide {S : Int} {w : Nat} (hw : w < g_W (A_g A)) (hq : ∀ h', RM h' A → fr frMo h h' → Q (some (vI (mostA A S w 10))) h') :
    ∀ (m k : Nat) (h1 : PH), k + m = 10 → RM h1 A → (∀ j, j < k → gi h1 273 j = widA (A_g A) j w) → fr frMo h h1 → T2 (d + 3) mX11_mostAlike 2 [some (vR 247), some (vI S), some (vI (w : Int)), some (vI (k : Int)), none, none, none] [] h1 Q := by
  intro m
  induction m with
  | zero =>
    intro k h1 hk X hB F
    refine BX11_mostAlike_2 ⟨fun _ => ?_, fun z => by omega⟩
    exact ma_out (A := A) (w := w) (fun j hj => hB j (by omega)) (hq h1 X F) 10 0 (by omega)
  | succ m ih =>
    intro k h1 hk X hB F
    refine BX11_mostAlike_2 ⟨fun z => by omega, fun _ => ?_⟩
    refine c_widthM (d := d) X.1.1 X.mg.2.2.1 hw (by omega) (fun h2 F2 _ => ⟨⟨by omega, by omega⟩, fun h3 e3 => ?_⟩)
    have F2' : fr frMs h1 h2 := F2.mono (fun q k z => by unfold frX at z; unfold frMs; omega)
    have F3 : fr frMs h1 h3 := by subst e3; exact F2'.si (by unfold frMs; omega)
    rw [w32_r (x := (k : Int) + 1) (by omega) (by omega), show (k : Int) + 1 = ((k + 1 : Nat) : Int) by omega]
    refine ih (k + 1) h3 (by omega) (X.keep F3) (fun j hj => ?_) (F.tr (F3.mono (fun q k z => frMs_o z)))
    subst e3
    try simp only [Int.toNat_natCast]
    by_cases e : j = k
    · subst e; exact gi_s0
    · rw [gi_s2 e, F2.1 _ _ (by unfold frX; omega)]; exact hB j (by omega)
theorem m_mostAlike (X : RM h A) {S : Int} {w : Nat} (hw : w < g_W (A_g A)) (hq : ∀ h', RM h' A → fr frMo h h' → Q (some (vI (mostA A S w 10))) h') : C2 (d + 3) mX11_mostAlike [vR 247, vI S, vI (w : Int)] h Q :=
  EX11_mostAlike fun _ _ => BX11_mostAlike_0 (ma_wide hw hq 10 0 h (by omega) X (fun j hj => absurd hj (Nat.not_lt_zero j)) fr.rf)
theorem nm_loop {S : Int} (hS : S ≠ 0) {G : Int} (hq : ∀ h', RM h' A → fr frMo h h' → Q (some (vI G)) h') :
    ∀ (m w : Nat) (r : Int × Int) (h1 : PH), w + m = g_W (A_g A) → amin (fun w => mostA A S w 10) m w r = G → RM h1 A → fr frMo h h1 → T2 (d + 4) mX11_measure 34 [some (vR 247), none, none, some (vI S), some (vI r.1), some (vI r.2), some (vI (w : Int)), none] [] h1 Q := by
  intro m
  induction m with
  | zero =>
    intro w r h1 hw e X F
    have e6 := X.mg.fl.2.2.2.2.2.2
    refine BX11_measure_34 ⟨fun _ => ?_, fun z => by rw [e6] at z; omega⟩
    have e' : r.1 = G := e
    rw [e']; exact hq h1 X F
  | succ m ih =>
    intro w r h1 hw e X F
    have ok1 := X.1.1.1
    have e6 := X.mg.fl.2.2.2.2.2.2
    refine BX11_measure_34 ⟨fun z => by rw [e6] at z; omega, fun _ => ⟨fun z => absurd z hS, fun _ => ?_⟩⟩
    refine m_mostAlike (d := d) X (by omega) (fun h2 X2 F2 _ => ?_)
    rw [w32_r (x := (w : Int) + 1) (by omega) (by omega), show (w : Int) + 1 = ((w + 1 : Nat) : Int) by omega]
    unfold amin at e
    refine ⟨fun z => ?_, fun z => ?_⟩
    · rw [if_pos z] at e
      exact ih (w + 1) ((w : Int), mostA A S w 10) h2 (by omega) e X2 (F.tr F2)
    · rw [if_neg (by omega)] at e
      exact ih (w + 1) r h2 (by omega) e X2 (F.tr F2)
theorem n_measure (X : RM h A) {t : Int} (hq : ∀ h', RM h' A → fr frMo h h' → Q (some (vI (r_measure A t))) h') : C2 (d + 4) mX11_measure [vR 247, vI t] h Q := by
  unfold r_measure at hq
  refine EX11_measure fun _ => BX11_measure_0 (fun h1 e1 => ?_)
  obtain ⟨X1, F1⟩ := X.z e1
  refine m_noSeen (d := d + 1) X1 (fun _ => ⟨fun z => m_inksOf (d := d) X1 z (fun h2 X2 F2 _ => ?_), fun z => ?_⟩)
  · have rg : 0 ≤ r_inks A t := by
      rw [r_inks_eq, if_neg (fun e => e z)]
      exact (bitsF_rg _ (by omega)).1
    have F9 := F1.tr F2
    by_cases c : r_inks A t = 0
    · have hq2 := hq h2 X2 F9
      rw [if_neg (by omega), if_pos c] at hq2
      rw [c]
      refine BX11_measure_34 ⟨fun _ => hq2, fun _ => ⟨fun _ => hq2, fun y => absurd rfl y⟩⟩
    · rw [if_neg (by omega), if_neg c] at hq
      exact nm_loop (h := h) c hq (g_W (A_g A)) 0 (-1, 268435456) h2 (by omega) (amin_first (fun w => (mostA_rg A _ w 10).2) (by omega) (by omega)) X2 F9
  · have hq1 := hq h1 X1 F1
    have := noS_rg A t
    have e : r_inks A t = noS A t := by rw [r_inks_eq, if_pos z]
    rw [if_pos (by omega), e] at hq1; exact hq1
end
