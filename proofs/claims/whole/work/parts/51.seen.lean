/-! THE CLASS: seen -/
def anyF (P : Nat → Bool) : Nat → Bool
  | 0 => false
  | n + 1 => anyF P n || P n
theorem bit_bitsF (P : Nat → Bool) : ∀ n, n ≤ 31 → ∀ i, i < 32 → bit (bitsF P n) i = (decide (i < n) && P i) := by
  intro n
  induction n with
  | zero => intro _ i hi; unfold bitsF; rw [bit_0]; simp
  | succ n ih =>
    intro hn i hi
    unfold bitsF
    cases hP : P n with
    | true =>
      rw [if_pos rfl, known_ior (by omega) hi, ih (by omega) i hi]
      by_cases e : i = n
      · subst e; simp [hP]
      · by_cases l : i < n
        · simp [l, e, show i < n + 1 by omega]
        · simp [l, e, show ¬ i < n + 1 by omega]
    | false =>
      rw [if_neg (by decide), ih (by omega) i hi]
      by_cases e : i = n
      · subst e; simp [hP]
      · by_cases l : i < n
        · simp [l, show i < n + 1 by omega]
        · simp [l, show ¬ i < n + 1 by omega]
theorem R32_bitsF (P : Nat → Bool) : ∀ n, R32 (bitsF P n) := by
  intro n
  induction n with
  | zero => unfold bitsF R32; omega
  | succ n ih => unfold bitsF; split; exact R32_ior _ _; exact ih
theorem bitsF_and (P R : Nat → Bool) {n : Nat} (hn : n ≤ 31) : iand (bitsF P n) (bitsF R n) = bitsF (fun i => P i && R i) n := by
  refine bit_ext (R32_iand _ _) (R32_bitsF _ _) (fun i hi => ?_)
  rw [bit_iand, bit_bitsF P n hn i hi, bit_bitsF R n hn i hi, bit_bitsF _ n hn i hi]
  cases decide (i < n) <;> simp
theorem bitsF_ext {P R : Nat → Bool} : ∀ n, (∀ i, i < n → P i = R i) → bitsF P n = bitsF R n := by
  intro n
  induction n with
  | zero => intro _; rfl
  | succ n ih => intro e; unfold bitsF; rw [ih (fun i hi => e i (by omega)), e n (by omega)]
theorem bitsF_rg (P : Nat → Bool) {n : Nat} (hn : n ≤ 30) : 0 ≤ bitsF P n ∧ bitsF P n < 1073741824 := by
  refine bits_rg (R32_bitsF P n) hn (fun w hw => ?_)
  by_cases z : w < 32
  · rw [bit_bitsF P n (by omega) w z]; simp; omega
  · exact bit_big (by omega)
def vBad (A : AS) (v : Int) : Bool := decide (v < 0 ∨ 1000 * (g_W (A_g A) : Int) ≤ v ∨ v % 1000 < 1 ∨ 200 < v % 1000)
def inkO (A : AS) (v : Int) (k : Nat) : Bool := decide (widA (A_g A) k (v / 1000).toNat = v % 1000)
def tv (A : AS) (t i : Nat) : Int := A_vl A (40 * t + i)
def seenM (A : AS) (t n : Nat) : Int := bitsF (fun k => !anyF (fun j => !inkO A (tv A t j) k) n) 10
def r_inks (A : AS) (t : Int) : Int := if noT A t ≠ 0 then noT A t else if A_sz A t.toNat < 1 ∨ 8 < A_sz A t.toNat then -4 else if anyF (fun j => vBad A (tv A t.toNat j)) (A_sz A t.toNat).toNat then -3 else seenM A t.toNat (A_sz A t.toNat).toNat
theorem b1023 : bitsF (fun _ => true) 10 = 1023 := by decide +kernel
def alkN (A : AS) (S : Int) (w k : Nat) : Int := sumF (fun j => if bit S k && bit S j && decide (widA (A_g A) j w = widA (A_g A) k w) then 1 else 0) 10
def mostA (A : AS) (S : Int) (w : Nat) : Nat → Int
  | 0 => 0
  | k + 1 => max (mostA A S w k) (alkN A S w k)
def amin (f : Nat → Int) : Nat → Nat → Int × Int → Int
  | 0, _, r => r.1
  | m + 1, i, r => if f i < r.2 then amin f m (i + 1) ((i : Int), f i) else amin f m (i + 1) r
def r_measure (A : AS) (t : Int) : Int := if r_inks A t < 0 then r_inks A t else if r_inks A t = 0 then -1 else amin (fun w => mostA A (r_inks A t) w 10) (g_W (A_g A)) 0 (-1, 11)
section
variable {d : Nat} {h : PH} {Q : Option PV → PH → Prop}
variable {A : AS} {a : Nat} {pt : Nat → PG}
def allK (h : PH) (p : Nat) : Prop := ∀ j, j ≤ 9 → bit (gi h p 17) j = true
theorem ink_loop (X : RCa h A a pt) (hK : allK h (pg a)) {w : Nat} (hw : w < g_W (A_g A)) {v : Int} (hq : Q (some (vI (bitsF (fun k => decide (widA (A_g A) k w = v)) 10))) h) :
    ∀ m k : Nat, k + m = 10 → T2 (d + 1) mX3_inksBy 5 [some (vR (pg a)), some (vI (w : Int)), some (vI v), some (vI (bitsF (fun k => decide (widA (A_g A) k w = v)) k)), some (vI (k : Int))] [] h Q := by
  obtain ⟨okg, oks, hR, hS, pc, pu, pl⟩ := X.okg
  have o1 := okg.1
  intro m
  induction m with
  | zero =>
    intro k hk
    refine BX3_inksBy_5 pc ⟨fun _ => ?_, fun z => by omega⟩
    rw [show k = 10 by omega]; exact hq
  | succ m ih =>
    intro k hk
    refine BX3_inksBy_5 pc ⟨fun z => by omega, fun _ => c_wideOf pc (by omega) (by omega) (fun _ => ?_)⟩
    dsimp only
    rw [hR.2.2.2.2.2.1 k (by omega) (hK k (by omega)) w (by omega), w32_r (by omega) (by omega), show ((k : Int) + 1) = ((k + 1 : Nat) : Int) by omega]
    have := ih (k + 1) (by omega)
    unfold bitsF at this
    refine ⟨fun z => ?_, fun z => ?_⟩
    · rw [show decide (widA (A_g A) k w = v) = false from decide_eq_false z] at this; exact this
    · rw [show decide (widA (A_g A) k w = v) = true from decide_eq_true z] at this; exact this
theorem c_inksBy (X : RCa h A a pt) (hK : allK h (pg a)) {w : Nat} (hw : w < g_W (A_g A)) {v : Int} (hq : Q (some (vI (bitsF (fun k => decide (widA (A_g A) k w = v)) 10))) h) : C2 (d + 1) mX3_inksBy [vR (pg a), vI (w : Int), vI v] h Q :=
  EX3_inksBy fun _ _ => BX3_inksBy_0 X.okg.2.2.2.2.1 (ink_loop X hK hw hq 10 0 (by omega))
theorem learn_loop (X0 : RCa h A a pt) {l1 l3 : Int} (hq : ∀ h', RCa h' A a pt → allK h' (pg a) → fr (frZ (pg a)) h h' → T2 (d + 5) mX10_seenBy 72 [some (vR 64), some (vI l1), none, some (vI l3), some (vI 1023), some (vI 0), none, none, none] [] h' Q) :
    ∀ (m k : Nat) (h1 : PH), k + m = 10 → RCa h1 A a pt → (∀ j, j < k → bit (gi h1 (pg a) 17) j = true) → fr (frZ (pg a)) h h1 → T2 (d + 5) mX10_seenBy 42 [some (vR 64), some (vI l1), none, some (vI l3), some (vI (k : Int)), none, none, none, none] [] h1 Q := by
  obtain ⟨okg, oks, -, -, pc, pu, pl⟩ := X0.okg
  intro m
  induction m with
  | zero =>
    intro k h1 hk X hb F
    refine BX10_seenBy_42 ⟨fun _ => hq h1 X (fun j hj => hb j (by omega)) F, fun z => by omega⟩
  | succ m ih =>
    intro k h1 hk X hb F
    obtain ⟨-, -, hR, -⟩ := X.okg
    refine BX10_seenBy_42 ⟨fun z => by omega, fun _ => c_current X ⟨pc, c_learnWides pc hR okg (by omega) (fun h2 b1 b2 b3 b4 => ⟨rfl, ?_⟩)⟩⟩
    have F2 : fr (frZ (pg a)) h1 h2 := b4.mono (fun q k z => by unfold frLW at z; unfold frZ; omega)
    have X2 := X.keepZ F2 (by rw [X.2.1.2.2]; exact b1) ⟨b3, fun j hj z => by rw [b4.1 _ _ (by unfold frLW; omega)]; exact z⟩
    dsimp only
    rw [w32_r (by omega) (by omega), show ((k : Int) + 1) = ((k + 1 : Nat) : Int) by omega]
    refine ih (k + 1) h2 (by omega) X2 (fun j hj => ?_) (F.tr F2)
    by_cases e : j = k
    · rw [e]; exact b2
    · exact b3 j (by omega) (hb j (by omega))
theorem seen_loop (X : RCa h A a pt) (hK : allK h (pg a)) {t n : Nat} (ht : t < 4) (hn : n ≤ 40) (hq : Q (some (vI (if anyF (fun j => vBad A (tv A t j)) n then -3 else seenM A t n))) h) :
    ∀ (m i : Nat), i + m = n → anyF (fun j => vBad A (tv A t j)) i = false → T2 (d + 2) mX10_seenBy 72 [some (vR 64), some (vI (t : Int)), none, some (vI (n : Int)), some (vI (seenM A t i)), some (vI (i : Int)), none, none, none] [] h Q := by
  obtain ⟨okg, oks, hR, hS, pc, pu, pl⟩ := X.okg
  have o1 := okg.1
  have hbad : ∀ i, i < n → vBad A (tv A t i) = true → Q (some (vI (-3))) h := by
    intro i hi hb
    have key : ∀ k, anyF (fun j => vBad A (tv A t j)) (i + 1 + k) = true := by
      intro k
      induction k with
      | zero => show (anyF _ i || vBad A (tv A t i)) = true; rw [hb]; simp
      | succ k ih => show (anyF _ (i + 1 + k) || _) = true; rw [ih]; rfl
    have := key (n - (i + 1))
    rw [show i + 1 + (n - (i + 1)) = n by omega] at this
    rw [this] at hq; exact hq
  intro m
  induction m with
  | zero =>
    intro i hi hb
    refine BX10_seenBy_72 ⟨fun _ => ?_, fun z => by omega⟩
    rw [show i = n by omega] at hb ⊢
    rw [hb] at hq; exact hq
  | succ m ih =>
    intro i hi hb
    refine BX10_seenBy_72 ⟨fun z => by omega, fun _ => c_get ht (by omega) (fun _ => ?_)⟩
    rw [X.2.2.2.2.2.2.2.2.2.1.2 _ (by omega)]
    have ev : A_vl A (40 * t + i) = tv A t i := rfl
    rw [ev]
    dsimp only
    refine ⟨fun z => hbad i (by omega) (decide_eq_true (Or.inl z)), fun z => c_current X ⟨pc, ?_⟩⟩
    rw [hR.1.2.2.2.2.2.2, w64_of (x := 1000 * ((g_W (A_g A) : Nat) : Int)) (by omega) (by omega)]
    refine ⟨fun y => ?_, fun y => hbad i (by omega) (decide_eq_true (Or.inr (Or.inl y)))⟩
    rw [Int.tmod_eq_emod_of_nonneg z, w32_r (x := tv A t i % 1000) (by omega) (by omega), Int.tdiv_eq_ediv_of_nonneg z, w64_of (by omega) (by omega), w32_r (x := tv A t i / 1000) (by omega) (by omega)]
    refine ⟨fun u => hbad i (by omega) (decide_eq_true (by omega)), fun u => ⟨fun u2 => c_current X ⟨pc, ?_⟩, fun u2 => hbad i (by omega) (decide_eq_true (by omega))⟩⟩
    have en : tv A t i / 1000 = ((tv A t i / 1000).toNat : Int) := by omega
    rw [en]
    refine c_inksBy X hK (by omega) (fun _ => ?_)
    rw [w32_r (by omega) (by omega), show ((i : Int) + 1) = ((i + 1 : Nat) : Int) by omega]
    have e2 : iand (seenM A t i) (bitsF (fun k => decide (widA (A_g A) k (tv A t i / 1000).toNat = tv A t i % 1000)) 10) = seenM A t (i + 1) := by
      unfold seenM
      rw [bitsF_and _ _ (by omega)]
      refine bitsF_ext 10 (fun k _ => ?_)
      show (!anyF _ i && inkO A (tv A t i) k) = !(anyF _ i || !inkO A (tv A t i) k)
      cases anyF (fun j => !inkO A (tv A t j) k) i <;> cases inkO A (tv A t i) k <;> rfl
    dsimp only
    rw [e2]
    refine ih (i + 1) (by omega) ?_
    show (anyF _ i || vBad A (tv A t i)) = false
    rw [hb, show vBad A (tv A t i) = false from decide_eq_false (by omega)]; rfl
theorem c_seenBy (X : RCa h A a pt) {t : Int} (hq : ∀ h', RCa h' A a pt → fr (frZ (pg a)) h h' → (0 ≤ r_inks A t → allK h' (pg a)) → Q (some (vI (r_inks A t))) h') : C2 (d + 5) mX10_seenBy [vR 64, vI t] h Q := by
  obtain ⟨okg, oks, hR, hS, pc, pu, pl⟩ := X.okg
  have nr := noT_rg A t
  refine EX10_seenBy fun _ => BX10_seenBy_0 (c_refusal X (fun _ => ⟨fun z => ?_, fun z => ?_⟩))
  · obtain ⟨ht, hso⟩ := noT_0 z
    obtain ⟨s1, s2, s3, s4⟩ := tr_sz X ht
    have no4 : (A_sz A t.toNat < 1 ∨ 8 < A_sz A t.toNat) → Q (some (vI (-4))) h := fun w => by
      have e : r_inks A t = -4 := by unfold r_inks; rw [if_neg (by omega), if_pos w]
      rw [e] at hq; exact hq h X fr.rf (fun w => by omega)
    refine ⟨ht, ?_⟩
    rw [(s2 hso).2]
    refine ⟨fun y => no4 (Or.inl y), fun y => ⟨fun y2 => ?_, fun y2 => no4 (Or.inr y2)⟩⟩
    have e : r_inks A t = if anyF (fun j => vBad A (tv A t.toNat j)) (A_sz A t.toNat).toNat then -3 else seenM A t.toNat (A_sz A t.toNat).toNat := by
      unfold r_inks; rw [if_neg (by omega), if_neg (by omega)]
    refine learn_loop X (fun h1 X1 K1 F1 => ?_) 10 0 h (by omega) X (fun j hj => by omega) fr.rf
    have h2 := hq h1 X1 F1 (fun _ => K1)
    obtain ⟨n, hn⟩ := ex_nat ht.1
    subst hn
    rw [Int.toNat_natCast] at e y y2 ⊢
    rw [e] at h2
    have := seen_loop (d := d + 3) X1 K1 (t := n) (n := (A_sz A n).toNat) (by unfold jT at ht; omega) (by omega) h2 (A_sz A n).toNat 0 (by omega) rfl
    rw [show (((A_sz A n).toNat : Nat) : Int) = A_sz A n by omega, show seenM A n 0 = 1023 from b1023] at this
    exact this
  · have e : r_inks A t = noT A t := by unfold r_inks; rw [if_pos z]
    rw [e] at hq
    exact hq h X fr.rf (fun w => by omega)
theorem k_inks (X : RC h A) {t : Int} (hq : ∀ h', RC h' A → fr frCl h h' → Q (some (vI (r_inks A t))) h') : C2 (d + 6) mX10_inks [vR 64, vI t] h Q := by
  obtain ⟨a, pt, X⟩ := X
  obtain ⟨-, -, -, -, pc, pu, pl⟩ := X.okg
  exact EX10_inks fun _ => BX10_inks_0 (c_seenBy X (fun h1 X1 F1 _ _ => hq h1 ⟨a, pt, X1⟩ (fr_C1 pu F1)))
theorem mostA_rg (A : AS) (S : Int) (w : Nat) : ∀ k, 0 ≤ mostA A S w k ∧ mostA A S w k ≤ 10 := by
  intro k
  induction k with
  | zero => exact ⟨Int.le_refl _, by unfold mostA; omega⟩
  | succ k ih =>
    have := sumF_rg (f := fun j => if bit S k && bit S j && decide (widA (A_g A) j w = widA (A_g A) k w) then 1 else 0) (M := 1) (fun n => by split <;> omega) 10
    unfold mostA alkN
    omega
theorem alk_loop (X : RCa h A a pt) (hK : allK h (pg a)) {w : Nat} (hw : w < g_W (A_g A)) {S : Int} (hS : 0 ≤ S ∧ S < 1073741824) (hS2 : ∀ j, 10 ≤ j → bit S j = false) (hq : Q (some (vI (mostA A S w 10))) h) :
    ∀ m k : Nat, k + m = 10 → T2 (d + 2) mX3_mostAlike 5 [some (vR (pg a)), some (vI (w : Int)), some (vI S), some (vI (mostA A S w k)), some (vI (k : Int))] [] h Q := by
  obtain ⟨okg, oks, hR, -, pc, pu, pl⟩ := X.okg
  have o1 := okg.1
  intro m
  induction m with
  | zero =>
    intro k hk
    refine BX3_mostAlike_5 pc ⟨fun _ => ?_, fun z => by omega⟩
    rw [show k = 10 by omega]; exact hq
  | succ m ih =>
    intro k hk
    have r := mostA_rg A S w k
    refine BX3_mostAlike_5 pc ⟨fun z => by omega, fun _ => ?_⟩
    have := ih (k + 1) (by omega)
    rw [bit_ask (by omega), w32_r (by omega) (by omega), show ((k : Int) + 1) = ((k + 1 : Nat) : Int) by omega]
    refine ⟨fun z => ?_, fun z => ?_⟩
    · have e0 : bit S k = false := by
        cases e : bit S k with
        | false => rfl
        | true => rw [e] at z; simp at z
      have e1 : mostA A S w (k + 1) = mostA A S w k := by
        show max (mostA A S w k) (alkN A S w k) = _
        have : alkN A S w k = 0 := by
          unfold alkN
          rw [sum_ext (g := fun _ => 0) 10 (fun i _ => by rw [e0]; rfl)]; rfl
        omega
      rw [e1] at this; exact this
    · have e0 : bit S k = true := by
        cases e : bit S k with
        | true => rfl
        | false => rw [e] at z; simp at z
      refine c_wideOf pc (by omega) (by omega) (fun _ => ?_)
      dsimp only
      rw [hR.2.2.2.2.2.1 k (by omega) (hK k (by omega)) w (by omega)]
      refine c_inksBy X hK hw (fun _ => ?_)
      have br := bitsF_rg (fun j => decide (widA (A_g A) j w = widA (A_g A) k w)) (n := 10) (by omega)
      have hb : ∀ j, 10 ≤ j → bit (iand (bitsF (fun j => decide (widA (A_g A) j w = widA (A_g A) k w)) 10) S) j = false := fun j hj => by rw [bit_iand, hS2 j hj]; simp
      have rg := bits_rg (R32_iand _ _) (n := 10) (by omega) hb
      refine c_bitCount rg.1 rg.2 (fun _ => c_max (fun _ => ?_))
      have e2 : pcF (iand (bitsF (fun j => decide (widA (A_g A) j w = widA (A_g A) k w)) 10) S) = alkN A S w k := by
        rw [pcF_cut (n := 10) (by omega) hb]
        unfold alkN
        refine sum_ext 10 (fun i hi => ?_)
        rw [bit_iand, bit_bitsF _ 10 (by omega) i (by omega), e0]
        rw [show decide (i < 10) = true from decide_eq_true hi]
        cases bit S i <;> cases decide (widA (A_g A) i w = widA (A_g A) k w) <;> rfl
      rw [e2]; exact this
theorem me_loop (X : RCa h A a pt) (hK : allK h (pg a)) {S : Int} (hS : 0 ≤ S ∧ S < 1073741824) (hS2 : ∀ j, 10 ≤ j → bit S j = false) {G : Int} (hq : Q (some (vI G)) h) :
    ∀ (m w : Nat) (r : Int × Int), w + m = g_W (A_g A) → amin (fun w => mostA A S w 10) m w r = G → T2 (d + 3) mX10_measure 27 [some (vR 64), none, some (vI S), some (vI r.1), some (vI r.2), some (vI (w : Int)), none] [] h Q := by
  obtain ⟨okg, oks, hR, -, pc, pu, pl⟩ := X.okg
  have o1 := okg.1
  intro m
  induction m with
  | zero =>
    intro w r hw e
    refine BX10_measure_27 (c_current X ⟨pc, ?_⟩)
    rw [hR.1.2.2.2.2.2.2]
    refine ⟨fun _ => ?_, fun z => by omega⟩
    rw [← e] at hq; exact hq
  | succ m ih =>
    intro w r hw e
    refine BX10_measure_27 (c_current X ⟨pc, ?_⟩)
    rw [hR.1.2.2.2.2.2.2]
    refine ⟨fun z => by omega, fun _ => c_current X ⟨pc, ?_⟩⟩
    unfold amin at e
    refine EX3_mostAlike fun _ _ => BX3_mostAlike_0 pc (alk_loop X hK (by omega) hS hS2 (fun _ => ?_) 10 0 (by omega))
    dsimp only
    rw [w32_r (by omega) (by omega), show ((w : Int) + 1) = ((w + 1 : Nat) : Int) by omega]
    refine ⟨fun z => ?_, fun z => ?_⟩
    · rw [if_neg (by omega)] at e
      exact ih (w + 1) r (by omega) e
    · rw [if_pos z] at e
      exact ih (w + 1) ((w : Int), mostA A S w 10) (by omega) e
theorem k_measure (X : RC h A) {t : Int} (hq : ∀ h', RC h' A → fr frCl h h' → Q (some (vI (r_measure A t))) h') : C2 (d + 6) mX10_measure [vR 64, vI t] h Q := by
  obtain ⟨a, pt, X⟩ := X
  obtain ⟨-, -, -, -, pc, pu, pl⟩ := X.okg
  unfold r_measure at hq
  refine EX10_measure fun _ => BX10_measure_0 (c_seenBy X (fun h1 X1 F1 K1 _ => ⟨fun z => ⟨fun y => ?_, fun y => ?_⟩, fun z => ?_⟩))
  · have h2 := hq h1 ⟨a, pt, X1⟩ (fr_C1 pu F1)
    rw [if_neg (by omega), if_neg y] at h2
    have e : ∃ P, r_inks A t = bitsF P 10 := by
      unfold r_inks at z ⊢
      have nr := noT_rg A t
      split at z
      · omega
      · split at z
        · omega
        · split at z
          · omega
          · rename_i w1 w2 w3
            rw [if_neg w1, if_neg w2, if_neg w3]; exact ⟨_, rfl⟩
    obtain ⟨P, e⟩ := e
    have hS2 : ∀ j, 10 ≤ j → bit (r_inks A t) j = false := fun j hj => by
      rw [e]
      by_cases z : j < 32
      · rw [bit_bitsF P 10 (by omega) j z]; simp; omega
      · exact bit_big (by omega)
    have rg : 0 ≤ r_inks A t ∧ r_inks A t < 1073741824 := by rw [e]; exact bitsF_rg P (by omega)
    exact me_loop (d := d + 3) X1 (K1 z) rg hS2 h2 (g_W (A_g A)) 0 (-1, 11) (by omega) rfl
  · have h2 := hq h1 ⟨a, pt, X1⟩ (fr_C1 pu F1)
    rw [if_neg (by omega), if_pos y] at h2; exact h2
  · have h2 := hq h1 ⟨a, pt, X1⟩ (fr_C1 pu F1)
    rw [if_pos z] at h2; exact h2
end
