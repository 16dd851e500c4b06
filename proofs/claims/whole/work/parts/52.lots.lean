/-! THE CLASS: chances -/
def lot (W : Nat) (hd : Int) (u : Nat) : Int := ior hd (if u < W then ishl 1 (u : Int) else 0)
def lotS (f : Int → Int) (W : Nat) : Nat → Int → Int
  | 0, hd => f hd
  | n + 1, hd => sumF (fun u => lotS f W n (lot W hd u)) 10
def hdS (A : AS) (hd : Int) : Nat → Int := upf (A_st A) 18 hd
def fineL (A : AS) (hd : Int) : Int := if plcd (vw (A_g A) (hdS A hd)) (A_w A) (-1) = sumF (fun w => if bit hd w then 0 else 1) (g_W (A_g A)) then 1 else 0
def linsL (A : AS) (hd : Int) : Int := lstL (vw (A_g A) (hdS A hd)) (A_w A) (-1) + 1
def low (x : Int) (t : Nat) (what : Int) : Int := if what = 0 then x / (Nat.gcd x.toNat t : Int) else (t : Int) / (Nat.gcd x.toNat t : Int)
def r_lots (f : Int → Int) (A : AS) (n what : Int) : Int := if what < 0 ∨ 1 < what then -2 else if n < 0 ∨ 2 < n then -3 else low (lotS f (g_W (A_g A)) n.toNat (A_st A 18)) (10 ^ n.toNat) what
def r_chance (A : AS) (n what : Int) : Int := r_lots (fineL A) A n what
def r_mean (A : AS) (n what : Int) : Int := r_lots (linsL A) A n what
/-- Euclid -/
def euc : Nat → Nat → Nat → Nat
  | 0, _, b => b
  | n + 1, a, b => if a = 0 then b else euc n (b % a) a
theorem mod_half {a c : Nat} (hc : 0 < c) (h : c < a) : 2 * (a % c) < a := by
  by_cases z : 2 * c ≤ a
  · have := Nat.mod_lt a hc; omega
  · have e : a % c = a - c := by rw [Nat.mod_eq_sub_mod (by omega)]; exact Nat.mod_eq_of_lt (by omega)
    omega
theorem euc_gcd : ∀ (k n a b : Nat), a < 2 ^ k → 2 * k + 1 ≤ n → euc n a b = Nat.gcd a b := by
  intro k
  induction k with
  | zero =>
    intro n a b ha hn
    obtain ⟨n, rfl⟩ : ∃ m, n = m + 1 := ⟨n - 1, by omega⟩
    have : a = 0 := by omega
    subst this
    unfold euc; rw [if_pos rfl, Nat.gcd_zero_left]
  | succ k ih =>
    intro n a b ha hn
    obtain ⟨n, rfl⟩ : ∃ m, n = m + 2 := ⟨n - 2, by omega⟩
    unfold euc
    by_cases z : a = 0
    · rw [if_pos z, z, Nat.gcd_zero_left]
    · rw [if_neg z, Nat.gcd_rec]
      unfold euc
      have hl := Nat.mod_lt b (show 0 < a by omega)
      by_cases y : b % a = 0
      · rw [if_pos y, y, Nat.gcd_zero_left]
      · rw [if_neg y, Nat.gcd_rec]
        have := mod_half (show 0 < b % a by omega) hl
        have p : 2 ^ (k + 1) = 2 * 2 ^ k := by rw [Nat.pow_succ]; omega
        exact ih n _ _ (by omega) (by omega)
/-- the sum of m, from i on -/
def sF (g : Nat → Int) : Nat → Nat → Int
  | 0, _ => 0
  | m + 1, i => g i + sF g m (i + 1)
theorem sF_rg {g : Nat → Int} {M : Int} (hg : ∀ i, 0 ≤ g i ∧ g i ≤ M) : ∀ m i : Nat, 0 ≤ sF g m i ∧ sF g m i ≤ M * m := by
  intro m
  induction m with
  | zero => intro i; unfold sF; omega
  | succ m ih =>
    intro i
    have a := hg i
    have b := ih (i + 1)
    unfold sF
    have e : M * ((m + 1 : Nat) : Int) = M * m + M := by rw [Int.natCast_add, Int.mul_add]; simp
    omega
def rwF (F : Nat → Nat → Int) (n : Int) (u : Nat) : Int := sF (fun v => (if v = u then 1 else 2) * F u v) ((if n = 2 then 10 else u + 1) - u) u
theorem dbl (F : Nat → Nat → Int) (hs : ∀ u v, F u v = F v u) : sF (rwF F 2) 10 0 = sumF (fun u => sumF (fun v => F u v) 10) 10 := by
  have hlt : ∀ u v : Nat, v < u → F u v = F v u := fun u v _ => hs u v
  simp only [sF, rwF, sumF]
  simp (disch := decide) only [hlt, if_true]
  simp [sF]
  omega
theorem sgl (F : Nat → Nat → Int) {n : Int} (hn : n ≠ 2) : sF (rwF F n) 10 0 = sumF (fun u => F u u) 10 := by
  have e : ∀ u, rwF F n u = F u u := fun u => by
    unfold rwF
    rw [if_neg hn, show u + 1 - u = 1 by omega]
    show (if u = u then 1 else 2) * F u u + 0 = _
    rw [if_pos rfl]; omega
  simp only [sF, sumF, e]
  simp only [Nat.zero_add, Nat.reduceAdd]
  omega
theorem lot_bit {W : Nat} {hd : Int} {u i : Nat} (hu : u < 32) (hi : i < 32) : bit (lot W hd u) i = (bit hd i || (decide (u < W) && decide (i = u))) := by
  unfold lot
  rw [bit_ior]
  by_cases z : u < W
  · rw [if_pos z, bit_shl1 hu hi]; simp [z]
  · rw [if_neg z, bit_0]; simp [z]
theorem lot_cm {W : Nat} {hd : Int} {u v : Nat} (hu : u < 32) (hv : v < 32) : lot W (lot W hd u) v = lot W (lot W hd v) u := by
  refine bit_ext (R32_ior _ _) (R32_ior _ _) (fun i hi => ?_)
  rw [lot_bit hv hi, lot_bit hu hi, lot_bit hu hi, lot_bit hv hi]
  cases bit hd i <;> cases decide (u < W) <;> cases decide (v < W) <;> cases decide (i = u) <;> cases decide (i = v) <;> rfl
theorem lot_tw {W : Nat} {hd : Int} {u : Nat} (hu : u < 32) : lot W (lot W hd u) u = lot W hd u := by
  refine bit_ext (R32_ior _ _) (R32_ior _ _) (fun i hi => ?_)
  rw [lot_bit hu hi, lot_bit hu hi]
  cases bit hd i <;> cases decide (u < W) <;> cases decide (i = u) <;> rfl
theorem SOK_h {g : PG} {st : Nat → Int} (h : SOK g st) {x : Int} (h18 : ∀ w, g_W g ≤ w → bit x w = false) (hr : R32 x) : SOK g (upf st 18 x) := by
  obtain ⟨h1, h2, h3, h4, h5⟩ := h
  refine ⟨fun i hi => ?_, fun i hi hi2 => ?_, fun w hw => ?_, ?_, ?_⟩
  · have := h1 i hi
    unfold upf
    rw [if_neg (show ¬ i = 18 by omega), if_neg (show ¬ 6 + i = 18 by omega), if_neg (show ¬ 12 + i = 18 by omega)]
    exact this
  · unfold upf; rw [if_neg (by omega)]; exact h2 i hi hi2
  · unfold upf; rw [if_pos rfl]; exact h18 w hw
  · unfold upf; rw [if_pos rfl]; exact hr
  · unfold upf; rw [if_neg (by omega)]; exact h5
/-- a set of hidden words of this page -/
def hOK (A : AS) (hd : Int) : Prop := (∀ w, g_W (A_g A) ≤ w → bit hd w = false) ∧ R32 hd
theorem hOK.lot {A : AS} {hd : Int} (h : hOK A hd) {u : Nat} (hu : u < 32) : hOK A (lot (g_W (A_g A)) hd u) := by
  refine ⟨fun w hw => ?_, R32_ior _ _⟩
  by_cases z : w < 32
  · rw [lot_bit hu z, h.1 w hw]
    by_cases y : u < g_W (A_g A)
    · simp [show ¬ w = u by omega]
    · simp [y]
  · exact bit_big (by omega)
theorem fineL_rg (A : AS) (hd : Int) : 0 ≤ fineL A hd ∧ fineL A hd ≤ 1 := by unfold fineL; split <;> omega
theorem linsL_rg {A : AS} (okg : POK (A_g A)) (oks : SOK (A_g A) (A_st A)) {hd : Int} (hh : hOK A hd) : 0 ≤ linsL A hd ∧ linsL A hd ≤ 21 := by
  have o1 := okg.1
  have := lstL_rg (vw_ok okg (SOK_h oks hh.1 hh.2)) (wi := A_w A) (asd := -1) (by show 0 ≤ g_wi (A_g A); omega)
  unfold linsL hdS
  omega
theorem lotS_rg {f : Int → Int} {M : Int} {A : AS} (hf : ∀ hd, hOK A hd → 0 ≤ f hd ∧ f hd ≤ M) : ∀ (n : Nat) (hd : Int), hOK A hd → 0 ≤ lotS f (g_W (A_g A)) n hd ∧ lotS f (g_W (A_g A)) n hd ≤ M * (10 ^ n : Nat) := by
  intro n
  induction n with
  | zero => intro hd hh; have := hf hd hh; unfold lotS; simp; exact this
  | succ n ih =>
    intro hd hh
    have e : ∀ m, m ≤ 10 → 0 ≤ sumF (fun u => lotS f (g_W (A_g A)) n (lot (g_W (A_g A)) hd u)) m ∧ sumF (fun u => lotS f (g_W (A_g A)) n (lot (g_W (A_g A)) hd u)) m ≤ M * (10 ^ n : Nat) * m := by
      intro m
      induction m with
      | zero => intro _; unfold sumF; omega
      | succ m ih2 =>
        intro hm
        have a := ih2 (by omega)
        have b := ih _ (hh.lot (u := m) (by omega))
        show 0 ≤ sumF _ m + lotS f _ n _ ∧ sumF _ m + lotS f _ n _ ≤ _
        have e2 : M * ((10 ^ n : Nat) : Int) * ((m + 1 : Nat) : Int) = M * ((10 ^ n : Nat) : Int) * m + M * ((10 ^ n : Nat) : Int) := by rw [Int.natCast_add, Int.mul_add]; simp
        omega
    have := e 10 (by omega)
    unfold lotS
    rw [Nat.pow_succ, Int.natCast_mul, ← Int.mul_assoc]
    exact this
section
variable {d : Nat} {h : PH} {Q : Option PV → PH → Prop}
variable {A : AS} {a : Nat} {pt : Nat → PG}
theorem low_loop {l0 l1 l2 : Int} {G : Nat} (hq : T2 d mX10_lowest 37 [some (vI l0), some (vI l1), some (vI l2), none, some (vI (G : Int)), none, none] [] h Q) : ∀ (m i x y : Nat), i + m = 64 → euc m x y = G → T2 d mX10_lowest 8 [some (vI l0), some (vI l1), some (vI l2), some (vI (x : Int)), some (vI (y : Int)), some (vI (i : Int)), none] [] h Q := by
  intro m
  induction m with
  | zero =>
    intro i x y hi e
    refine BX10_lowest_8 ⟨fun _ => ?_, fun z => by omega⟩
    rw [← e] at hq; exact hq
  | succ m ih =>
    intro i x y hi e
    unfold euc at e
    refine BX10_lowest_8 ⟨fun z => by omega, fun _ => ⟨fun z => ?_, fun z => ⟨by omega, ?_⟩⟩⟩
    · rw [if_pos (by omega)] at e
      rw [← e] at hq; exact hq
    · rw [if_neg (by omega)] at e
      rw [w32_r (by omega) (by omega), show ((i : Int) + 1) = ((i + 1 : Nat) : Int) by omega, Int.tmod_eq_emod_of_nonneg (by omega), ← Int.natCast_emod]
      exact ih (i + 1) (y % x) x (by omega) e
theorem c_lowest {x what : Int} {t : Nat} (hx : 0 ≤ x ∧ x < 65536) (ht : 0 < t ∧ t ≤ 100) (hq : Q (some (vI (low x t what))) h) : C2 d mX10_lowest [vI x, vI (t : Int), vI what] h Q := by
  obtain ⟨n, hn⟩ := ex_nat hx.1
  subst hn
  unfold low at hq
  rw [Int.toNat_natCast] at hq
  have g0 : 0 < Nat.gcd n t := Nat.gcd_pos_of_pos_right n ht.1
  refine EX10_lowest fun _ _ _ => BX10_lowest_0 (low_loop ?_ 64 0 n t (by omega) (euc_gcd 16 64 n t (by omega) (by omega)))
  refine BX10_lowest_37 ⟨fun z => by omega, fun _ => ?_⟩
  have d1 : (n : Int) / (Nat.gcd n t : Int) ≤ n := Int.ediv_le_self _ (by omega)
  have d2 : (t : Int) / (Nat.gcd n t : Int) ≤ t := Int.ediv_le_self _ (by omega)
  have d3 : 0 ≤ (n : Int) / (Nat.gcd n t : Int) := Int.ediv_nonneg (by omega) (by omega)
  have d4 : 0 ≤ (t : Int) / (Nat.gcd n t : Int) := Int.ediv_nonneg (by omega) (by omega)
  refine BX10_lowest_48 ⟨fun z => ⟨by omega, ?_⟩, fun z => ⟨by omega, ?_⟩⟩
  · rw [Int.tdiv_eq_ediv_of_nonneg (by omega), w32_r (by omega) (by omega)]
    rw [if_neg z] at hq; exact hq
  · rw [Int.tdiv_eq_ediv_of_nonneg (by omega), w32_r (by omega) (by omega)]
    rw [if_pos z] at hq; exact hq
theorem c_lotBit (X : RCa h A a pt) {u : Nat} (hq : Q (some (vI (if u < g_W (A_g A) then ishl 1 (u : Int) else 0))) h) : C2 (d + 1) mX10_lotBit [vR 64, vI (u : Int)] h Q := by
  obtain ⟨okg, oks, hR, hS, pc, pu, pl⟩ := X.okg
  refine EX10_lotBit fun _ => BX10_lotBit_0 (c_current X ⟨pc, ?_⟩)
  rw [hR.1.2.2.2.2.2.2]
  refine ⟨fun z => ?_, fun z => ?_⟩
  · rw [if_neg (by omega)] at hq; exact hq
  · rw [if_pos (by omega)] at hq; exact hq
theorem RCa.k17 (X : RCa h A a pt) {k : Nat} (hk : 16 ≤ k) {x : Int} : RCa (si h 64 k x) A a pt ∧ fr (frZ (pg a)) h (si h 64 k x) := by
  obtain ⟨okg, oks, hR, hS, pc, pu, pl⟩ := X.okg
  have F : fr (frZ (pg a)) h (si h 64 k x) := fr.rf.si (by unfold frZ; omega)
  refine ⟨X.keepZ F ?_ (knw.eq (gi_s1 (by omega)) (gi_s1 (by omega))), F⟩
  rw [X.2.1.2.2]
  exact hR.keep (fun q j z1 z2 => gi_s1 (by omega))
theorem StC.k64 {t p s ink : Nat} {v : VW} {wi : Int} (S : StC h t p s ink v wi) (hp : 130 ≤ p) (hs : 65 ≤ s) {k : Nat} {x : Int} : StC (si h 64 k x) t p s ink v wi := by
  obtain ⟨x1, ⟨x2, x3, x4⟩, x5, x6⟩ := S
  exact ⟨x1, ⟨x2, x3, by rw [gi_s1 (by omega)]; exact x4⟩, x5.keep (fun q j z => gi_s1 (by omega)), x6⟩
theorem c_addDraw (X : RCa h A a pt) {hd : Int} (hh : hOK A hd) (D : StV h 71 (hdS A hd)) {x y : Int} {n : Nat} (h17 : gi h 64 17 = x) (h18 : gi h 64 18 = y) (hx : 0 ≤ x ∧ x ≤ 100000) (hy : 0 ≤ y ∧ y ≤ 100000) (hn : n ≤ 2) (hq : ∀ h', RCa h' A a pt → StV h' 71 (hdS A hd) → gi h' 64 17 = x + n * fineL A hd → gi h' 64 18 = y + n * linsL A hd → fr (frZ (pg a)) h h' → Q none h') : C2 (d + 5) mX10_addDraw [vR 64, vI (n : Int)] h Q := by
  obtain ⟨okg, oks, hR, hS, pc, pu, pl⟩ := X.okg
  have o1 := okg.1
  have ok2 := SOK_h oks hh.1 hh.2
  refine EX10_addDraw fun _ => BX10_addDraw_0 (c_current X ⟨pc, c_current X ⟨pc, ?_⟩⟩)
  rw [hR.1.1]
  refine c_settle2 cl233 cl234 pc cl71 (by omega) pu (by omega) (by omega) hR okg D ok2 (by omega) (fun h1 b1 b2 b3 b4 b5 b6 b7 => ⟨rfl, ?_⟩)
  have F1 : fr (frZ (pg a)) h h1 := b7.mono (fun q k z => by unfold frSt at z; unfold frZ; omega)
  have X1 := X.keepZ F1 (by rw [X.2.1.2.2]; exact b3) b4
  have D1 : StV h1 71 (hdS A hd) := D.keep (fun q k z1 z2 => b7.1 _ _ (by unfold frSt; omega))
  have g17 : gi h1 64 17 = x := by rw [b7.1 _ _ (by unfold frSt; omega)]; exact h17
  have g18 : gi h1 64 18 = y := by rw [b7.1 _ _ (by unfold frSt; omega)]; exact h18
  refine c_current X1 ⟨pc, ?_⟩
  have e18 : gi h1 71 3 = hd := by
    have := D1 18 (by omega)
    unfold hdS upf at this
    exact this
  have rg := bits_rg hh.2 (n := g_W (A_g A)) (by omega) hh.1
  rw [e18, b3.1.2.2.2.2.2.2, b2.placed]
  refine c_bitCount rg.1 rg.2 (fun _ => ?_)
  have ec : (g_W (A_g A) : Int) - pcF hd = sumF (fun w => if bit hd w then 0 else 1) (g_W (A_g A)) := by
    rw [pcF_cut (n := g_W (A_g A)) (by omega) hh.1]; exact sum_flip (fun w => bit hd w) _
  have sr := sumF_rg (f := fun w => if bit hd w then 0 else 1) (M := 1) (fun n => by split <;> omega) (g_W (A_g A))
  dsimp only
  rw [ec, w32_r (by omega) (by omega)]
  have lr := linsL_rg okg oks hh
  have elr : linsL A hd = lstL (vw (A_g A) (hdS A hd)) (g_wi (A_g A)) (-1) + 1 := rfl
  have fin : ∀ (h2 : PH) (x2 : Int), RCa h2 A a pt → StC h2 233 (pg a) 71 (hdS A hd 19).toNat (vw (A_g A) (hdS A hd)) (g_wi (A_g A)) → DN h2 233 (vw (A_g A) (hdS A hd)) (g_wi (A_g A)) (-1) → StV h2 71 (hdS A hd) → gi h2 64 17 = x2 → gi h2 64 18 = y → fr (frZ (pg a)) h h2 → x2 = x + n * fineL A hd → T2 (d + 5) mX10_addDraw 61 [some (vR 64), some (vI (n : Int))] [] h2 Q := by
    intro h2 x2 X2 S2 N2 D2 k1 k2 F2 ex
    refine BX10_addDraw_61 (c_lastLine S2 N2 (fun _ h3 e3 => ?_))
    subst e3
    rw [k2, ← elr, w32_r (x := linsL A hd) (by omega) (by omega)]
    have m1 : (n : Int) * linsL A hd ≤ 2 * linsL A hd := Int.mul_le_mul_of_nonneg_right (by omega) lr.1
    have m2 : 0 ≤ (n : Int) * linsL A hd := Int.mul_nonneg (by omega) lr.1
    rw [w32_r (x := (n : Int) * linsL A hd) (by omega) (by omega), w32_r (by omega) (by omega)]
    obtain ⟨X3, F3⟩ := X2.k17 (k := 18) (x := y + n * linsL A hd) (by omega)
    exact hq _ X3 (D2.keep (fun q k z1 z2 => gi_s1 (by omega))) (by rw [gi_s2 (by omega), k1]; exact ex) gi_s0 (F2.tr F3)
  refine ⟨fun z => fin h1 x X1 b1 b2 D1 g17 g18 F1 ?_, fun z h2 e2 => ?_⟩
  · have : fineL A hd = 0 := by unfold fineL; exact if_neg z
    rw [this]; omega
  · subst e2
    have f1 : fineL A hd = 1 := by unfold fineL; exact if_pos z
    rw [g17, w32_r (by omega) (by omega)]
    obtain ⟨X3, F3⟩ := X1.k17 (k := 17) (x := x + n) (by omega)
    exact fin _ (x + n) X3 (b1.k64 (by omega) (by omega)) (b2.keep (fun q k z1 z2 => gi_s1 (by omega))) (D1.keep (fun q k z1 z2 => gi_s1 (by omega))) gi_s0 (by rw [gi_s2 (by omega)]; exact g18) (F1.tr F3) (by rw [f1]; omega)
end
