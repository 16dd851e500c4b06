/-! THE MODEL: lots -/
theorem w64_k (a : Int) : ∃ k, w64 a = a + 18446744073709551616 * k := ⟨-((a + 9223372036854775808) / 18446744073709551616), by unfold w64; omega⟩
theorem w64_ad (a b : Int) : w64 (w64 a + b) = w64 (a + b) := by unfold w64; omega
theorem w64_da (a b : Int) : w64 (a + w64 b) = w64 (a + b) := by unfold w64; omega
theorem w64_mu (x a b : Int) : w64 (x + w64 a * b) = w64 (x + a * b) := by
  obtain ⟨k, hk⟩ := w64_k a
  rw [hk, Int.add_mul, Int.mul_assoc]
  generalize a * b = u
  generalize k * b = v
  unfold w64; omega
def nwL (A : AS) (hd : Int) (u : Nat) : Bool := decide (u < g_W (A_g A)) && !bit hd u
def pL (A : AS) (f : Int → Int) (n : Nat) (hd : Int) (u : Nat) : Int := sumF (fun j => if nwL A hd j then lotS f (g_W (A_g A)) n (lot (g_W (A_g A)) hd j) else 0) u
def cL (A : AS) (hd : Int) (u : Nat) : Int := sumF (fun j => if nwL A hd j then 1 else 0) u
theorem lot_same {A : AS} {hd : Int} (h : R32 hd) {u : Nat} (hu : u < 32) (hn : nwL A hd u = false) : lot (g_W (A_g A)) hd u = hd := by
  unfold lot
  by_cases c : u < g_W (A_g A)
  · rw [if_pos c]
    unfold nwL at hn
    rw [decide_eq_true c] at hn
    have hb : bit hd u = true := by
      cases e : bit hd u with
      | true => rfl
      | false => rw [e] at hn; exact absurd hn (by decide)
    refine bit_ext (R32_ior _ _) h (fun i hi => ?_)
    rw [bit_ior, bit_shl1 hu hi]
    by_cases e : i = u
    · rw [e, hb]; rfl
    · rw [decide_eq_false e, Bool.or_false]
  · rw [if_neg c]; exact ior0 h
theorem lots_sum {A : AS} {f : Int → Int} {n : Nat} {hd : Int} (h : R32 hd) : ∀ u : Nat, u ≤ 10 → sumF (fun j => lotS f (g_W (A_g A)) n (lot (g_W (A_g A)) hd j)) u = pL A f n hd u + ((u : Int) - cL A hd u) * lotS f (g_W (A_g A)) n hd := by
  intro u
  induction u with
  | zero => intro _; show (0 : Int) = 0 + (((0 : Nat) : Int) - 0) * _; simp
  | succ u ih =>
    intro hu
    have e1 : sumF (fun j => lotS f (g_W (A_g A)) n (lot (g_W (A_g A)) hd j)) (u + 1) = sumF (fun j => lotS f (g_W (A_g A)) n (lot (g_W (A_g A)) hd j)) u + lotS f (g_W (A_g A)) n (lot (g_W (A_g A)) hd u) := rfl
    have e2 : pL A f n hd (u + 1) = pL A f n hd u + (if nwL A hd u then lotS f (g_W (A_g A)) n (lot (g_W (A_g A)) hd u) else 0) := rfl
    have e3 : cL A hd (u + 1) = cL A hd u + (if nwL A hd u then 1 else 0) := rfl
    rw [e1, e2, e3, ih (by omega)]
    cases hn : nwL A hd u with
    | true =>
      rw [if_pos rfl, if_pos rfl, show (((u + 1 : Nat) : Int) - (cL A hd u + 1)) = (u : Int) - cL A hd u by omega]
      omega
    | false =>
      rw [if_neg (by decide), if_neg (by decide), lot_same h (by omega) hn, show (((u + 1 : Nat) : Int) - (cL A hd u + 0)) = ((u : Int) - cL A hd u) + 1 by omega, Int.add_mul]
      omega
theorem cL_rg (A : AS) (hd : Int) (u : Nat) : 0 ≤ cL A hd u ∧ cL A hd u ≤ u := by
  have := sumF_rg (f := fun j => if nwL A hd j then (1 : Int) else 0) (M := 1) (fun n => by split <;> omega) u
  unfold cL; omega
theorem MC.setH {h : PH} {A : AS} {hd0 hd : Int} {wi asd : Int} (a : MC h (A_g A) (hdS A hd0) wi asd) (oks : SOK (A_g A) (A_st A)) (hh : hOK A hd) : MC (si h 247 21 hd) (A_g A) (hdS A hd) wi asd := by
  obtain ⟨a1, a2, a3, a4, a5, a6, a7, a8⟩ := a
  refine ⟨a1, SOK_h oks hh.1 hh.2, a3.keep a1 (fun j _ _ => gi_s1 (by omega)), fun k h1 h2 => ?_, ?_, by rw [gi_s2 (by omega)]; exact a6, fun s hs => by rw [gi_s2 (by omega)]; exact a7 s hs, a8⟩
  · rw [gi_s1 (by omega), a4 k h1 h2]
    unfold hdS upf
    rw [if_neg h2, if_neg h2]
  · rw [gi_s0]; unfold hdS upf; rw [if_pos rfl]
section
variable {d : Nat} {h : PH} {Q : Option PV → PH → Prop}
variable {A : AS}
theorem frMs_sj {h0 h1 : PH} (F : fr frMs h0 h1) {k : Nat} {x : Int} (hk : k = 50 ∨ k = 51) : fr frMs h0 (sj h1 247 k x) := F.sj (by unfold frMs; omega)
theorem m_lots0 (X : RM h A) {hd0 : Int} (M : MC h (A_g A) (hdS A hd0) (A_w A) (-1)) {hd lk x y : Int} (hh : hOK A hd) (g50 : gj h 247 50 = x) (g51 : gj h 247 51 = y)
    (hq : ∀ h', RM h' A → MC h' (A_g A) (hdS A hd) (A_w A) (-1) → gj h' 247 50 = w64 (x + lk * fineL A hd) → gj h' 247 51 = w64 (y + lk * linsL A hd) → fr frMs h h' → Q none h') : T2 (d + 9) mX11_goesLots 0 [some (vR 247), some (vI hd), some (vI 0), some (vJ lk), none, none, none] [] h Q := by
  have oks := X.1.2.1
  have lr := linsL_rg X.1.1 oks hh
  refine BX11_goesLots_0 ⟨fun z => absurd rfl z, fun _ h1 e1 => ?_⟩
  subst e1
  have M1 := M.setH oks hh
  refine c_sets (d := d) M1 (fun h3 D3 F3 => ⟨rfl, ?_⟩)
  have M3 := M1.keep F3
  have F03 : fr frMs h h3 := (fr.rf.si (by unfold frMs; omega)).tr (F3.mono (fun q k z => frN_Ms z))
  have e50 : gj h3 247 50 = x := by rw [F3.2.1 _ _ (by unfold frN; omega)]; exact g50
  have e51 : gj h3 247 51 = y := by rw [F3.2.1 _ _ (by unfold frN; omega)]; exact g51
  refine m_placedNow M3 D3 (fun _ => m_shownNow (d := d + 6) M3 (fun _ => ?_))
  rw [e50]
  have e18 : hdS A hd 18 = hd := by unfold hdS upf; rw [if_pos rfl]
  rw [e18]
  have go : ∀ s2 : Int, s2 = lk * fineL A hd → T2 (d + 8 + 1) mX11_goesLots 34 [some (vR 247), none, none, some (vJ lk), none, none, none] [vJ s2, vJ x, vR 247] h3 Q := fun s2 hs => by
    refine BX11_goesLots_34 (fun h4 e4 => ?_)
    have M4 : MC h4 (A_g A) (hdS A hd) (A_w A) (-1) := by subst e4; exact M3.keepF (fun k => rfl) ⟨rfl, rfl, rfl⟩
    have D4 : DM h4 (vw (A_g A) (hdS A hd)) (A_w A) (-1) := by subst e4; exact D3
    refine m_lastNow (d := d + 7) M4 D4 (fun _ h5 e5 => ?_)
    have le : lstL (vw (A_g A) (hdS A hd)) (A_w A) (-1) + 1 = linsL A hd := rfl
    have v51 : gj h4 247 51 = y := by subst e4; rw [gj_s2 (by omega)]; exact e51
    rw [le, w32_r (by omega) (by omega), v51, w64_da] at e5
    refine hq h5 (X.keep ?_) ?_ ?_ ?_ ?_
    · subst e5 e4; exact frMs_sj (frMs_sj F03 (Or.inl rfl)) (Or.inr rfl)
    · subst e5; exact M4.keepF (fun k => rfl) ⟨rfl, rfl, rfl⟩
    · subst e5 e4; rw [gj_s2 (by omega), gj_s0, hs]
    · subst e5; rw [gj_s0]
    · subst e5 e4; exact frMs_sj (frMs_sj F03 (Or.inl rfl)) (Or.inr rfl)
  refine ⟨fun z => go 0 ?_, fun z => go lk ?_⟩
  · unfold fineL; rw [if_neg z]; omega
  · unfold fineL; rw [if_pos z]; omega
def LG (d n : Nat) (A : AS) : Prop := ∀ (h : PH) (Q : Option PV → PH → Prop) (hd0 hd lk x y : Int), RM h A → MC h (A_g A) (hdS A hd0) (A_w A) (-1) → hOK A hd → gj h 247 50 = x → gj h 247 51 = y → (∀ h' hd1, RM h' A → MC h' (A_g A) (hdS A hd1) (A_w A) (-1) → gj h' 247 50 = w64 (x + lk * lotS (fineL A) (g_W (A_g A)) n hd) → gj h' 247 51 = w64 (y + lk * lotS (linsL A) (g_W (A_g A)) n hd) → fr frMs h h' → Q none h') → C2 d mX11_goesLots [vR 247, vI hd, vI (n : Int), vJ lk] h Q
theorem go_loop {n : Nat} (hn : n ≤ 2) (ih : LG (d + 8) n A) {hd lk x y : Int} (hh : hOK A hd)
    (hq : ∀ h' hd1, RM h' A → MC h' (A_g A) (hdS A hd1) (A_w A) (-1) → gj h' 247 50 = w64 (x + lk * lotS (fineL A) (g_W (A_g A)) (n + 1) hd) → gj h' 247 51 = w64 (y + lk * lotS (linsL A) (g_W (A_g A)) (n + 1) hd) → fr frMs h h' → Q none h') :
    ∀ (m u : Nat) (hd0 : Int) (h1 : PH), u + m = 10 → RM h1 A → MC h1 (A_g A) (hdS A hd0) (A_w A) (-1) → gj h1 247 50 = w64 (x + lk * pL A (fineL A) n hd u) → gj h1 247 51 = w64 (y + lk * pL A (linsL A) n hd u) → fr frMs h h1 → T2 (d + 9) mX11_goesLots 64 [some (vR 247), some (vI hd), some (vI ((n + 1 : Nat) : Int)), some (vJ lk), none, some (vI (10 - cL A hd u)), some (vI (u : Int))] [] h1 Q := by
  intro m
  induction m with
  | zero =>
    intro u hd0 h1 hu X M g50 g51 F
    obtain rfl : u = 10 := by omega
    have cr := cL_rg A hd 10
    have s1 := lots_sum (A := A) (f := fineL A) (n := n) hh.2 10 (by omega)
    have s2 := lots_sum (A := A) (f := linsL A) (n := n) hh.2 10 (by omega)
    have s1' : lotS (fineL A) (g_W (A_g A)) (n + 1) hd = _ := s1
    have s2' : lotS (linsL A) (g_W (A_g A)) (n + 1) hd = _ := s2
    rw [s1', s2'] at hq
    refine BX11_goesLots_64 ⟨fun _ => ⟨fun z => ?_, fun z => ?_⟩, fun z => by omega⟩
    · refine hq h1 hd0 X M ?_ ?_ F
      · rw [show ((10 : Nat) : Int) - cL A hd 10 = 0 by omega, Int.zero_mul, Int.add_zero]; exact g50
      · rw [show ((10 : Nat) : Int) - cL A hd 10 = 0 by omega, Int.zero_mul, Int.add_zero]; exact g51
    · rw [w32_r (x := ((n + 1 : Nat) : Int) - 1) (by omega) (by omega), show ((n + 1 : Nat) : Int) - 1 = (n : Int) by omega]
      refine ih h1 _ hd0 hd _ _ _ X M hh g50 g51 (fun h2 hd1 X2 M2 e1 e2 F2 => ⟨rfl, hq h2 hd1 X2 M2 ?_ ?_ (F.tr F2)⟩)
      · rw [e1, w64_mu, w64_ad, Int.mul_add, ← Int.mul_assoc, Int.add_assoc]; rfl
      · rw [e2, w64_mu, w64_ad, Int.mul_add, ← Int.mul_assoc, Int.add_assoc]; rfl
  | succ m ihm =>
    intro u hd0 h1 hu X M g50 g51 F
    have cr := cL_rg A hd u
    have e2 : ∀ f, pL A f n hd (u + 1) = pL A f n hd u + (if nwL A hd u then lotS f (g_W (A_g A)) n (lot (g_W (A_g A)) hd u) else 0) := fun f => rfl
    have e3 : cL A hd (u + 1) = cL A hd u + (if nwL A hd u then 1 else 0) := rfl
    refine BX11_goesLots_64 ⟨fun z => by omega, fun _ => ?_⟩
    rw [w32_r (x := (u : Int) + 1) (by omega) (by omega), show (u : Int) + 1 = ((u + 1 : Nat) : Int) by omega, w32_r (x := ((n + 1 : Nat) : Int) - 1) (by omega) (by omega), show ((n + 1 : Nat) : Int) - 1 = (n : Int) by omega, w32_r (x := 10 - cL A hd u + (-1)) (by omega) (by omega)]
    have no : nwL A hd u = false → T2 (d + 9) mX11_goesLots 64 [some (vR 247), some (vI hd), some (vI ((n + 1 : Nat) : Int)), some (vJ lk), none, some (vI (10 - cL A hd u)), some (vI ((u + 1 : Nat) : Int))] [] h1 Q := fun hn => by
      have := ihm (u + 1) hd0 h1 (by omega) X M (by rw [e2, hn, if_neg (by decide), Int.add_zero]; exact g50) (by rw [e2, hn, if_neg (by decide), Int.add_zero]; exact g51) F
      rw [e3, hn, if_neg (by decide), Int.add_zero] at this; exact this
    refine m_isWord (d := d + 7) X.mg (fun _ => ⟨fun z => ?_, fun z => c_isIn (by omega) (fun _ => ⟨fun y => ?_, fun y => ?_⟩)⟩)
    · have hw := if00 z
      refine no ?_
      unfold nwL; rw [decide_eq_false (by omega)]; rfl
    · have hw := if01 z
      have hb : bit hd u = false := by
        cases e : bit hd u with
        | false => rfl
        | true => rw [e] at y; exact absurd y (by decide)
      have hn : nwL A hd u = true := by unfold nwL; rw [decide_eq_true (by omega), hb]; rfl
      have el : ior hd (ishl 1 (u : Int)) = lot (g_W (A_g A)) hd u := by unfold lot; rw [if_pos (by omega)]
      rw [el]
      refine ih h1 _ hd0 _ _ _ _ X M (hh.lot (by omega)) g50 g51 (fun h2 hd1 X2 M2 q1 q2 F2 => ⟨rfl, ?_⟩)
      have := ihm (u + 1) hd1 h2 (by omega) X2 M2 (by rw [e2, hn, if_pos rfl, q1, w64_ad, Int.mul_add, Int.add_assoc]) (by rw [e2, hn, if_pos rfl, q2, w64_ad, Int.mul_add, Int.add_assoc]) (F.tr F2)
      rw [e3, hn, if_pos rfl, show 10 - (cL A hd u + 1) = 10 - cL A hd u + (-1) by omega] at this
      exact this
    · refine no ?_
      have hb : bit hd u = true := by
        cases e : bit hd u with
        | true => rfl
        | false => rw [e] at y; exact absurd rfl y
      unfold nwL; rw [hb]; simp
theorem m_goesLots : ∀ n : Nat, n ≤ 2 → LG (d + 9 + n) n A := by
  intro n
  induction n with
  | zero =>
    intro _ h Q hd0 hd lk x y X M hh g50 g51 hq
    refine EX11_goesLots fun _ _ _ => ?_
    exact m_lots0 (d := d) X M hh g50 g51 (fun h' a b c e f => hq h' hd a b c e f)
  | succ n ih =>
    intro hn h Q hd0 hd lk x y X M hh g50 g51 hq
    refine EX11_goesLots fun _ _ _ => BX11_goesLots_0 (d := d + 9 + n) ⟨fun _ => ?_, fun z => by omega⟩
    have z0 : ∀ f, pL A f n hd 0 = 0 := fun f => rfl
    refine T2_rng (fun rg => ?_)
    have r1 := rg.2 247 50
    have r2 := rg.2 247 51
    have := go_loop (d := d + 1 + n) (h := h) (Q := Q) (A := A) (n := n) (by omega) (by rw [show d + 1 + n + 8 = d + 9 + n by omega]; exact ih (by omega)) hh hq 10 0 hd0 h (by omega) X M (by rw [z0, Int.mul_zero, Int.add_zero, ← g50, w64_id r1]) (by rw [z0, Int.mul_zero, Int.add_zero, ← g51, w64_id r2]) fr.rf
    have c0 : cL A hd 0 = 0 := rfl
    rw [c0, show d + 1 + n + 9 = d + 9 + n + 1 by omega] at this
    exact this
theorem m_common : ∀ (k : Nat) (a b : Nat), b < 2 ^ k → a < 100000 → b < 100000 → Q (some (vJ (Nat.gcd a b : Int))) h → C2 (d + 2 * k + 1) mX11_common [vJ (a : Int), vJ (b : Int)] h Q := by
  intro k
  induction k generalizing Q with
  | zero =>
    intro a b hb ha hb2 hq
    have : b = 0 := by omega
    subst this
    refine EX11_common fun _ _ => BX11_common_0 ⟨fun z => absurd rfl z, fun _ => ?_⟩
    rw [Nat.gcd_zero_right] at hq; exact hq
  | succ k ih =>
    intro a b hb ha hb2 hq
    refine EX11_common fun _ _ => BX11_common_0 (d := d + 2 * k + 2) ⟨fun z => ⟨z, ?_⟩, fun z => ?_⟩
    · have hl := Nat.mod_lt a (show 0 < b by omega)
      rw [Int.tmod_eq_emod_of_nonneg (by omega), ← Int.natCast_emod]
      refine EX11_common fun _ _ => BX11_common_0 (d := d + 2 * k + 1) ⟨fun y => ⟨y, ?_⟩, fun y => fun _ => ?_⟩
      · have := mod_half (show 0 < a % b by omega) hl
        have p : 2 ^ (k + 1) = 2 * 2 ^ k := by rw [Nat.pow_succ]; omega
        rw [Int.tmod_eq_emod_of_nonneg (by omega), ← Int.natCast_emod]
        refine ih (a % b) (b % (a % b)) (by omega) (by omega) (by omega) (fun _ => fun _ => ?_)
        rw [show Nat.gcd (a % b) (b % (a % b)) = Nat.gcd a b by rw [Nat.gcd_comm a b, Nat.gcd_rec b a, Nat.gcd_rec (a % b) b, Nat.gcd_comm]]
        exact hq
      · rw [show b = Nat.gcd a b by rw [Nat.gcd_comm, Nat.gcd_rec, show a % b = 0 by omega, Nat.gcd_zero_left]]
        exact hq
    · have : b = 0 := by omega
      subst this
      rw [Nat.gcd_zero_right] at hq; exact hq
theorem m_wholeOf {n : Nat} (hn : n ≤ 2) (hq : Q (some (vJ ((10 ^ n : Nat) : Int))) h) : C2 d mX11_wholeOf [vI (n : Int)] h Q := by
  refine EX11_wholeOf fun _ => BX11_wholeOf_0 ?_
  have loop : ∀ (m k : Nat), k + m = n → T2 d mX11_wholeOf 4 [some (vI (n : Int)), some (vJ ((10 ^ k : Nat) : Int)), none, some (vI (k : Int))] [] h Q := by
    intro m
    induction m with
    | zero =>
      intro k hk
      refine BX11_wholeOf_4 ⟨fun _ => ?_, fun z => by omega⟩
      rw [show k = n by omega]; exact hq
    | succ m ih =>
      intro k hk
      refine BX11_wholeOf_4 ⟨fun z => by omega, fun _ => ?_⟩
      have := ih (k + 1) (by omega)
      have p := pow_le (n := k) (by omega)
      rw [Nat.pow_succ, Int.natCast_mul] at this
      rw [w32_r (x := (k : Int) + 1) (by omega) (by omega), show (k : Int) + 1 = ((k + 1 : Nat) : Int) by omega, w64_of (by omega) (by omega)]
      exact this
  exact loop n 0 (by omega)
theorem m_part42 {x : Int} {n : Nat} {what : Int} (hx : 0 ≤ x ∧ x < 65536) (hn : n ≤ 2) (hq : Q (some (vI (low x (10 ^ n) what))) h) : T2 (d + 16) mX11_part 42 [none, none, some (vI (n : Int)), some (vI what), none, none] [vJ x] h Q := by
  have ht := pow_le hn
  obtain ⟨c, hc⟩ := ex_nat hx.1
  subst hc
  unfold low at hq
  rw [Int.toNat_natCast] at hq
  generalize ht' : 10 ^ n = t at hq ht
  have g0 : 0 < Nat.gcd c t := Nat.gcd_pos_of_pos_right c ht.1
  have d1 : (c : Int) / (Nat.gcd c t : Int) ≤ c := Int.ediv_le_self _ (by omega)
  have d2 : (t : Int) / (Nat.gcd c t : Int) ≤ t := Int.ediv_le_self _ (by omega)
  have d3 : 0 ≤ (c : Int) / (Nat.gcd c t : Int) := Int.ediv_nonneg (by omega) (by omega)
  have d4 : 0 ≤ (t : Int) / (Nat.gcd c t : Int) := Int.ediv_nonneg (by omega) (by omega)
  have fin : ∀ s0 : Int, 0 ≤ s0 → 0 ≤ s0 / (Nat.gcd c t : Int) → s0 / (Nat.gcd c t : Int) < 65536 → Q (some (vI (s0 / (Nat.gcd c t : Int)))) h → T2 (d + 16) mX11_part 57 [none, none, some (vI (n : Int)), none, some (vJ (c : Int)), none] [vJ s0] h Q := by
    intro s0 h1 h2 h3 hq
    refine BX11_part_57 (d := d + 15) (m_wholeOf hn (fun _ => ?_))
    rw [ht']
    refine m_common (d := d) 7 c t (by omega) (by omega) (by omega) (fun _ => ⟨by omega, ?_⟩)
    rw [Int.tdiv_eq_ediv_of_nonneg h1, w64_of (by omega) (by omega), w32_r (by omega) (by omega)]
    exact hq
  refine BX11_part_42 (d := d + 15) ⟨fun z => m_wholeOf hn (fun _ => ?_), fun z => ?_⟩
  · rw [ht']
    rw [if_neg z] at hq
    exact fin _ (by omega) d4 (by omega) hq
  · rw [if_pos z] at hq
    exact fin _ (by omega) d3 (by omega) hq
theorem m_part (X : RM h A) {l n : Nat} {what : Int} (hn : n ≤ 2) (hq : ∀ h', RM h' A → fr frMo h h' → Q (some (vI (low (lotS (if l = 0 then linsL A else fineL A) (g_W (A_g A)) n (A_st A 18)) (10 ^ n) what))) h') : C2 (d + 16) mX11_part [vR 247, vI (l : Int), vI (n : Int), vI what] h Q := by
  have oks := X.1.2.1
  have hh0 : hOK A (A_st A 18) := ⟨oks.2.2.1, oks.2.2.2.1⟩
  have p := pow_le hn
  have rg1 := lotS_rg (A := A) (f := linsL A) (M := 21) (fun hd hh => linsL_rg X.1.1 oks hh) n _ hh0
  have rg2 := lotS_rg (A := A) (f := fineL A) (M := 1) (fun hd _ => fineL_rg A hd) n _ hh0
  refine EX11_part fun _ _ _ => BX11_part_0 (d := d + 15) (fun h1 e1 h2 e2 => ?_)
  have F2 : fr frMs h h2 := by subst e2 e1; exact frMs_sj (frMs_sj fr.rf (Or.inl rfl)) (Or.inr rfl)
  have X2 := X.keep F2
  refine m_asks X2.mg (fun h3 M3 F3 => ⟨rfl, ?_⟩)
  have F3' : fr frMs h2 h3 := F3.mono (fun q k z => by unfold frAs at z; unfold frMs; omega)
  have X3 := X2.keep F3'
  have e18 := X3.mg.2.2.2 18 (by omega)
  rw [show 91 + 18 = 109 from rfl] at e18
  dsimp only
  rw [e18]
  have M3' : MC h3 (A_g A) (hdS A (A_st A 18)) (A_w A) (-1) := by
    rw [show hdS A (A_st A 18) = A_st A from funext (fun j => by unfold hdS upf; split <;> simp_all)]; exact M3
  have z50 : gj h3 247 50 = 0 := by rw [F3.2.1 _ _ (by unfold frAs; omega)]; subst e2 e1; rw [gj_s2 (by omega), gj_s0]
  have z51 : gj h3 247 51 = 0 := by rw [F3.2.1 _ _ (by unfold frAs; omega)]; subst e2; rw [gj_s0]
  have LGn := m_goesLots (d := d + 6 - n) (A := A) n hn
  rw [show d + 6 - n + 9 + n = d + 15 by omega] at LGn
  refine LGn h3 _ (A_st A 18) (A_st A 18) 1 0 0 X3 M3' hh0 z50 z51 (fun h4 hd1 X4 M4 q1 q2 F4 => ⟨rfl, ?_⟩)
  have F9 : fr frMo h h4 := ((F2.tr F3').tr F4).mono (fun q k z => frMs_o z)
  have hq4 := hq h4 X4 F9
  rw [Int.one_mul, Int.zero_add, w64_of (by omega) (by omega)] at q1 q2
  dsimp only
  rw [q1, q2]
  refine ⟨fun z => ?_, fun z => ?_⟩
  · rw [if_pos (by omega)] at hq4
    exact m_part42 (d := d) (by omega) hn hq4
  · rw [if_neg (by omega)] at hq4
    exact m_part42 (d := d) (by omega) hn hq4
theorem n_chance (X : RM h A) {n what : Int} (hq : ∀ h', RM h' A → fr frMo h h' → Q (some (vI (r_chance A n what))) h') : C2 (d + 17) mX11_chance [vR 247, vI n, vI what] h Q := by
  unfold r_chance r_lots at hq
  refine EX11_chance fun _ _ => BX11_chance_0 (fun h1 e1 => ?_)
  obtain ⟨X1, F1⟩ := X.z e1
  have hq1 := hq h1 X1 F1
  refine m_within (fun _ => ⟨fun z => m_within (fun _ => ⟨fun y => ?_, fun y => ?_⟩), fun z => ?_⟩)
  · have a := if01 z
    have b := if00 y
    rw [if_neg (by omega), if_pos (by omega)] at hq1; exact hq1
  · have a := if01 z
    have b := if01 y
    rw [if_neg (by omega), if_neg (by omega)] at hq
    obtain ⟨m, hm⟩ := ex_nat (x := n) (by omega)
    subst hm
    rw [Int.toNat_natCast] at hq
    exact m_part (d := d) (l := 1) X1 (by omega) (fun h2 X2 F2 _ => hq h2 X2 (F1.tr F2))
  · have a := if00 z
    rw [if_pos (by omega)] at hq1; exact hq1
theorem n_mean (X : RM h A) {n what : Int} (hq : ∀ h', RM h' A → fr frMo h h' → Q (some (vI (r_mean A n what))) h') : C2 (d + 17) mX11_mean [vR 247, vI n, vI what] h Q := by
  unfold r_mean r_lots at hq
  refine EX11_mean fun _ _ => BX11_mean_0 (fun h1 e1 => ?_)
  obtain ⟨X1, F1⟩ := X.z e1
  have hq1 := hq h1 X1 F1
  refine m_within (fun _ => ⟨fun z => m_within (fun _ => ⟨fun y => ?_, fun y => ?_⟩), fun z => ?_⟩)
  · have a := if01 z
    have b := if00 y
    rw [if_neg (by omega), if_pos (by omega)] at hq1; exact hq1
  · have a := if01 z
    have b := if01 y
    rw [if_neg (by omega), if_neg (by omega)] at hq
    obtain ⟨m, hm⟩ := ex_nat (x := n) (by omega)
    subst hm
    rw [Int.toNat_natCast] at hq
    exact m_part (d := d) (l := 0) X1 (by omega) (fun h2 X2 F2 _ => hq h2 X2 (F1.tr F2))
  · have a := if00 z
    rw [if_pos (by omega)] at hq1; exact hq1
end
