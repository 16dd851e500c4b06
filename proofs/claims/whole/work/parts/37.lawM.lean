/-! THE MODEL: laws, widths, gaps -/
/-- a law of the model: row b, law k -/
def LawM (h : PH) (b k : Nat) (cs : List Int) : Prop := (cs = [] → gi h 248 (b + 7 + k) = 0) ∧ (cs ≠ [] → gi h 248 (b + 7 + k) = 1 ∧ ∃ f : Nat, gi h 248 (b + 9 + k) = f ∧ gi h 248 (b + 11 + k) = cs.length ∧ f + cs.length ≤ 900 ∧ ∀ i, i < cs.length → gi h 248 (b + 313 + (f + i)) = cs.getD i 0)
theorem LawM.keep {h h' : PH} {b b' k : Nat} {cs : List Int} (a : LawM h b k cs) (hk : k < 2) (e : ∀ j, j < 1213 → gi h' 248 (b' + j) = gi h 248 (b + j)) : LawM h' b' k cs := by
  refine ⟨fun z => ?_, fun z => ?_⟩
  · rw [Nat.add_assoc, e (7 + k) (by omega), ← Nat.add_assoc]; exact a.1 z
  · obtain ⟨a1, f, a2, a3, a4, a5⟩ := a.2 z
    refine ⟨?_, f, ?_, ?_, a4, fun i hi => ?_⟩
    · rw [Nat.add_assoc, e (7 + k) (by omega), ← Nat.add_assoc]; exact a1
    · rw [Nat.add_assoc, e (9 + k) (by omega), ← Nat.add_assoc]; exact a2
    · rw [Nat.add_assoc, e (11 + k) (by omega), ← Nat.add_assoc]; exact a3
    · rw [Nat.add_assoc, e (313 + (f + i)) (by omega), ← Nat.add_assoc]; exact a5 i hi
/-- a page of the model -/
def RMp (h : PH) (b : Nat) (g : PG) : Prop :=
  (gi h 248 (b + 0) = g_to g ∧ gi h 248 (b + 1) = g_wi g ∧ gi h 248 (b + 2) = g_ln g ∧ gi h 248 (b + 3) = g_hi g ∧ gi h 248 (b + 4) = g_le g ∧ gi h 248 (b + 5) = g_S g ∧ gi h 248 (b + 6) = g_W g) ∧
  (∀ i, i < g_S g → gi h 248 (b + (13 + i)) = g_kd g i ∧ gi h 248 (b + (19 + i)) = g_ac g i ∧ gi h 248 (b + (25 + i)) = g_tl g i) ∧ (∀ w, w < g_W g → gi h 248 (b + (31 + w)) = g_lt g w ∧ gi h 248 (b + (61 + w)) = g_fi g w) ∧
  LawM h b 0 (g_wl g) ∧ LawM h b 1 (g_gl g)
theorem RMp.keep {h h' : PH} {b b' : Nat} {g : PG} (ok : POK g) (a : RMp h b g) (e : ∀ j, j < 1213 → (j < 91 ∨ 312 ≤ j) → gi h' 248 (b' + j) = gi h 248 (b + j)) : RMp h' b' g := by
  obtain ⟨⟨a1, a2, a3, a4, a5, a6, a7⟩, c1, c2, l1, l2⟩ := a
  have ok1 := ok.1
  have LK : ∀ k cs, k < 2 → LawM h b k cs → LawM h' b' k cs := by
    intro k cs hk a
    refine ⟨fun z => ?_, fun z => ?_⟩
    · rw [Nat.add_assoc, e (7 + k) (by omega) (by omega), ← Nat.add_assoc]; exact a.1 z
    · obtain ⟨a1, f, a2, a3, a4, a5⟩ := a.2 z
      refine ⟨?_, f, ?_, ?_, a4, fun i hi => ?_⟩
      · rw [Nat.add_assoc, e (7 + k) (by omega) (by omega), ← Nat.add_assoc]; exact a1
      · rw [Nat.add_assoc, e (9 + k) (by omega) (by omega), ← Nat.add_assoc]; exact a2
      · rw [Nat.add_assoc, e (11 + k) (by omega) (by omega), ← Nat.add_assoc]; exact a3
      · rw [Nat.add_assoc, e (313 + (f + i)) (by omega) (by omega), ← Nat.add_assoc]; exact a5 i hi
  refine ⟨⟨?_, ?_, ?_, ?_, ?_, ?_, ?_⟩, fun i hi => ?_, fun w hw => ?_, LK 0 _ (by omega) l1, LK 1 _ (by omega) l2⟩
  · rw [e _ (by omega) (by omega)]; exact a1
  · rw [e _ (by omega) (by omega)]; exact a2
  · rw [e _ (by omega) (by omega)]; exact a3
  · rw [e _ (by omega) (by omega)]; exact a4
  · rw [e _ (by omega) (by omega)]; exact a5
  · rw [e _ (by omega) (by omega)]; exact a6
  · rw [e _ (by omega) (by omega)]; exact a7
  · rw [e _ (by omega) (by omega), e _ (by omega) (by omega), e _ (by omega) (by omega)]; exact c1 i hi
  · rw [e _ (by omega) (by omega), e _ (by omega) (by omega)]; exact c2 w hw
section
variable {d : Nat} {h : PH} {Q : Option PV → PH → Prop}
theorem c_between {c a b : Int} (hc : 3000 ≤ c ∧ c ≤ 3008 ∧ c ≠ 3006) (ha : -1000000 ≤ a ∧ a ≤ 1000000) (hb : -1000000 ≤ b ∧ b ≤ 1000000) (hq : Q (some (vI (btw c a b))) h) : C2 d mX11_between [vI c, vI a, vI b] h Q := by
  have p1 : a * b ≤ 1000000 * 1000000 := by
    have h1 := Int.natAbs_mul a b
    have h2 : a.natAbs * b.natAbs ≤ 1000000 * 1000000 := Nat.mul_le_mul (by omega) (by omega)
    omega
  have p2 : -(1000000 * 1000000) ≤ a * b := by
    have h1 := Int.natAbs_mul a b
    have h2 : a.natAbs * b.natAbs ≤ 1000000 * 1000000 := Nat.mul_le_mul (by omega) (by omega)
    omega
  have fin : ∀ x : Int, clp x = btw c a b → T2 d mX11_between 116 [none, none, none, none, none] [vJ x] h Q := by
    intro x hx
    rw [← hx] at hq
    unfold clp at hq
    refine BX11_between_116 ⟨fun z => ⟨fun y => ?_, fun y => ?_⟩, fun z => ?_⟩
    · rw [w32_r (by omega) (by omega)]; rwa [show max (-1000000) (min 1000000 x) = x by omega] at hq
    · rw [w32_r (by omega) (by omega)]; rwa [show max (-1000000) (min 1000000 x) = -1000000 by omega] at hq
    · rw [w32_r (by omega) (by omega)]; rwa [show max (-1000000) (min 1000000 x) = 1000000 by omega] at hq
  have arith : 3000 ≤ c ∧ c ≤ 3002 → (c ≠ 3000 → (c ≠ 3001 → T2 d mX11_between 116 [none, none, none, none, none] [vJ (w64 (a * b))] h Q) ∧ (c = 3001 → T2 d mX11_between 116 [none, none, none, none, none] [vJ (w64 (a - b))] h Q)) ∧ (c = 3000 → T2 d mX11_between 116 [none, none, none, none, none] [vJ (w64 (a + b))] h Q) := by
    intro hc2
    have hb0 : btw c a b = clp (if c = 3000 then a + b else if c = 3001 then a - b else a * b) := by
      unfold btw
      rw [if_neg (by omega), if_neg (by omega), if_neg (by omega), if_neg (by omega), if_neg (by omega)]
    refine ⟨fun z => ⟨fun y => fin _ ?_, fun y => fin _ ?_⟩, fun z => fin _ ?_⟩
    · rw [w64_of (by omega) (by omega), hb0, if_neg z, if_neg y]
    · rw [w64_of (by omega) (by omega), hb0, if_neg z, if_pos y]
    · rw [w64_of (by omega) (by omega), hb0, if_pos z]
  refine EX11_between fun _ _ _ => BX11_between_0 ⟨fun z => ⟨fun y => ?_, fun y => ?_⟩, fun z => ⟨fun y => ?_, fun y => ?_⟩, fun z => ⟨fun y => ?_, fun y => ?_⟩, fun z => by omega, fun z => ?_, fun z => ?_, fun z => arith (by omega)⟩
  · unfold btw at hq; rwa [if_pos z, if_neg y] at hq
  · unfold btw at hq; rwa [if_pos z, if_pos y] at hq
  · unfold btw at hq; rwa [if_neg (by omega), if_pos z, if_neg (by omega)] at hq
  · unfold btw at hq; rwa [if_neg (by omega), if_pos z, if_pos y] at hq
  · unfold btw at hq; rwa [if_neg (by omega), if_neg (by omega), if_pos z, if_neg (by omega)] at hq
  · unfold btw at hq; rwa [if_neg (by omega), if_neg (by omega), if_pos z, if_pos y] at hq
  · unfold btw at hq; rwa [if_neg (by omega), if_neg (by omega), if_neg (by omega), if_pos z] at hq
  · unfold btw at hq; rwa [if_neg (by omega), if_neg (by omega), if_neg (by omega), if_neg (by omega), if_pos z] at hq
set_option maxHeartbeats 4000000 in
theorem reck_loop {W : Bool} {e : Nat → Int} {k f : Nat} (hk : k < 2) {cs : List Int} (hf : gi h 248 (9 + k) = f) (hl : gi h 248 (11 + k) = cs.length) (hfl : f + cs.length ≤ 900) (hcs : ∀ i, i < cs.length → gi h 248 (313 + (f + i)) = cs.getD i 0) (hew : ∀ i : Nat, i = 0 ∨ (W = true ∧ 1 ≤ i ∧ i ≤ 3) ∨ (W = false ∧ 4 ≤ i ∧ i ≤ 5) → gi h 253 i = e i) (he : enO e) (hok : ∀ c ∈ cs, okd W c) {x : Int} (hq : ∀ h', fr (frR 252) h h' → Q (some (vI x)) h') :
    ∀ (m i : Nat) (st : List Int) (h1 : PH), i + m = cs.length → rnO e (cs.drop i) st = some [x] → STK h1 252 st → bnd st → st.length ≤ 64 → fr (frR 252) h h1 → T2 (d + 1) mX11_reckons 4 [some (vR 247), some (vI (k : Int)), some (vI (st.length : Int)), some (vI (i : Int)), none] [] h1 Q := by
  have ek1 : w32 (11 + (k : Int)) = ((11 + k : Nat) : Int) := by rw [w32_r (by omega) (by omega)]; omega
  have ek2 : w32 (9 + (k : Int)) = ((9 + k : Nat) : Int) := by rw [w32_r (by omega) (by omega)]; omega
  intro m
  induction m with
  | zero =>
    intro i st h1 hi hr hS hb hls hF
    have ei : i = cs.length := by omega
    rw [ei, List.drop_length] at hr
    have est : st = [x] := Option.some.inj hr
    subst est
    refine BX11_reckons_4 ?_
    rw [ek1, ek2]
    simp only [Int.toNat_natCast]
    rw [hF.1 248 _ (by unfold frR; omega), hl]
    refine ⟨⟨by omega, by omega⟩, fun _ => ?_, fun z => by omega⟩
    have : gi h1 252 0 = x := hS.1
    rw [this]
    exact hq h1 hF
  | succ m ih =>
    intro i st h1 hi hr hS hb hls hF
    have hil : i < cs.length := by omega
    rw [drop_c hil] at hr
    have hc := hok _ (getD_mem (dd := 0) hil)
    refine BX11_reckons_4 ?_
    rw [ek1, ek2]
    simp only [Int.toNat_natCast]
    rw [hF.1 248 (11 + k) (by unfold frR; omega), hl, hF.1 248 (9 + k) (by unfold frR; omega), hf, w32_r (x := 313 + (f : Int)) (by omega) (by omega), w32_r (x := 313 + (f : Int) + i) (by omega) (by omega), show (313 + (f : Int) + (i : Int)).toNat = 313 + (f + i) by omega, hF.1 248 (313 + (f + i)) (by unfold frR; omega), hcs i hil, w32_r (x := (i : Int) + 1) (by omega) (by omega), show ((i : Int) + 1) = ((i + 1 : Nat) : Int) by omega]
    refine ⟨⟨by omega, by omega⟩, fun z => by omega, fun _ => ⟨⟨by omega, by omega⟩, ⟨by omega, by omega⟩, ?_⟩⟩
    generalize cs.getD i 0 = c at *
    have hop : ∃ st', opS e c st = some st' ∧ rnO e (cs.drop (i + 1)) st' = some [x] := by
      cases ho : opS e c st with
      | none =>
        have hr2 : (match opS e c st with | some st' => rnO e (cs.drop (i + 1)) st' | none => none) = some [x] := hr
        rw [ho] at hr2; cases hr2
      | some st' =>
        have hr2 : (match opS e c st with | some st' => rnO e (cs.drop (i + 1)) st' | none => none) = some [x] := hr
        rw [ho] at hr2; exact ⟨st', rfl, hr2⟩
    obtain ⟨st', ho, hr'⟩ := hop
    obtain ⟨hb', hl'⟩ := opS_bnd he hc hb ho
    have go : ∀ h2, STK h2 252 st' → fr (frR 252) h h2 → T2 (d + 1) mX11_reckons 4 [some (vR 247), some (vI (k : Int)), some (vI (st'.length : Int)), some (vI ((i + 1 : Nat) : Int)), none] [] h2 Q := fun h2 a b => ih (i + 1) st' h2 (by omega) hr' a hb' (by omega) b
    clear hl' hb' hr' ih hr
    unfold opS at ho
    refine ⟨fun z => ⟨fun c6 => ⟨fun c9 => ?_, fun c9 => ?_⟩, fun c6 => ?_⟩, fun z => ⟨fun y => ?_, fun y => ?_⟩⟩
    · rw [if_neg (by omega), if_neg (by omega), if_neg c6, if_neg c9] at ho
      have c3 : 3000 ≤ c ∧ c ≤ 3008 ∧ c ≠ 3006 := by rcases hc with u | ⟨u | u | u⟩ | u <;> omega
      match st, hS, hb, hls, ho with
      | [], _, _, _, ho => cases ho
      | [_], _, _, _, ho => cases ho
      | b :: a :: r, hS, hb, hls, ho =>
        dsimp only at ho
        have hst : st' = btw c a b :: r := by
          split at ho
          · split at ho
            · cases ho; rfl
            · cases ho
          · cases ho; rfl
        subst hst
        simp only [List.length_cons] at hls go ⊢
        have e1 : w32 (((r.length + 1 + 1 : Nat) : Int) + (-1)) = ((r.length + 1 : Nat) : Int) := by rw [w32_r (by omega) (by omega)]; omega
        have e2 : w32 (((r.length + 1 : Nat) : Int) - 1) = (r.length : Int) := by rw [w32_r (by omega) (by omega)]; omega
        rw [e1, e2]
        simp only [Int.toNat_natCast]
        have s1 : gi h1 252 (r.length + 1) = b := hS.1
        have s2 : gi h1 252 r.length = a := hS.2.1
        rw [s1, s2]
        refine ⟨⟨by omega, by omega⟩, ⟨by omega, by omega⟩, c_between c3 (bnd_h (bnd_t hb)) (bnd_h hb) (fun _ => ⟨⟨by omega, by omega⟩, fun h2 eh => ?_⟩)⟩
        subst eh
        exact go _ (hS.2.2.put _) (hF.si rfl)
    · rw [if_neg (by omega), if_neg (by omega), if_neg c6, if_pos c9] at ho
      match st, hS, hb, hls, ho with
      | [], _, _, _, ho => cases ho
      | [_], _, _, _, ho => cases ho
      | [_, _], _, _, _, ho => cases ho
      | b :: a :: y :: r, hS, hb, hls, ho =>
        dsimp only at ho
        split at ho
        · cases ho
          simp only [List.length_cons] at hls go ⊢
          have r1 : (0 : Int) ≤ (r.length : Int) ∧ (r.length : Int) < 900 := ⟨by omega, by omega⟩
          have r2 : (0 : Int) ≤ ((r.length + 1 : Nat) : Int) ∧ ((r.length + 1 : Nat) : Int) < 900 := ⟨by omega, by omega⟩
          have r3 : (0 : Int) ≤ ((r.length + 2 : Nat) : Int) ∧ ((r.length + 2 : Nat) : Int) < 900 := ⟨by omega, by omega⟩
          have e1 : w32 (((r.length + 1 + 1 + 1 : Nat) : Int) + (-2)) = ((r.length + 1 : Nat) : Int) := by rw [w32_r (by omega) (by omega)]; omega
          have e2 : w32 (((r.length + 1 : Nat) : Int) - 1) = (r.length : Int) := by rw [w32_r (by omega) (by omega)]; omega
          have e3 : w32 (((r.length + 1 : Nat) : Int) + 1) = ((r.length + 2 : Nat) : Int) := by rw [w32_r (by omega) (by omega)]; omega
          rw [e1, e2, e3]
          simp only [Int.toNat_natCast]
          have s1 : gi h1 252 (r.length + 2) = b := hS.1
          have s2 : gi h1 252 (r.length + 1) = a := hS.2.1
          have s3 : gi h1 252 r.length = y := hS.2.2.1
          rw [s1, s2, s3]
          refine ⟨r1, fun z1 => ⟨r3, r1, fun h2 eh => ?_⟩, fun z1 => ⟨r2, r1, fun h2 eh => ?_⟩⟩
          · subst eh
            rw [if_neg z1] at go
            exact go _ (hS.2.2.2.put _) (hF.si rfl)
          · subst eh
            rw [if_pos z1] at go
            exact go _ (hS.2.2.2.put _) (hF.si rfl)
        · cases ho
    · rw [if_neg (by omega), if_neg (by omega), if_pos c6] at ho
      cases st with
      | nil => cases ho
      | cons y r =>
        dsimp only at ho
        split at ho
        · rename_i z01
          cases ho
          have := is01_iff.mp z01
          simp only [List.length_cons] at hls go ⊢
          have e2 : w32 (((r.length + 1 : Nat) : Int) - 1) = (r.length : Int) := by rw [w32_r (by omega) (by omega)]; omega
          rw [e2]
          simp only [Int.toNat_natCast]
          have s1 : gi h1 252 r.length = y := hS.1
          rw [s1, w32_r (x := 1 - y) (by omega) (by omega)]
          refine ⟨⟨by omega, by omega⟩, ⟨by omega, by omega⟩, fun h2 eh => ?_⟩
          subst eh
          exact go _ (hS.2.put _) (hF.si rfl)
        · cases ho
    · rw [if_neg (by omega), if_pos z] at ho
      split at ho
      · rename_i hlt
        cases ho
        have hcx : ∃ j : Nat, (c - 1000) = (j : Int) ∧ j < 6 ∧ gi h1 253 j = e j := by
          rcases hc with u | ⟨u | u | u⟩ | u
          · omega
          · exact ⟨0, by omega, by omega, by rw [hF.1 _ _ (by unfold frR; omega)]; exact hew 0 (Or.inl rfl)⟩
          · exact ⟨(c - 1000).toNat, by omega, by omega, by rw [hF.1 _ _ (by unfold frR; omega)]; exact hew _ (Or.inr (Or.inl ⟨u.1, by omega, by omega⟩))⟩
          · exact ⟨(c - 1000).toNat, by omega, by omega, by rw [hF.1 _ _ (by unfold frR; omega)]; exact hew _ (Or.inr (Or.inr ⟨u.1, by omega, by omega⟩))⟩
          · omega
        obtain ⟨j, j1, j2, j3⟩ := hcx
        rw [j1] at go ⊢
        rw [w32_r (x := (j : Int)) (by omega) (by omega)]
        simp only [Int.toNat_natCast] at go ⊢
        rw [j3, w32_r (x := (st.length : Int) + 1) (by omega) (by omega)]
        refine ⟨⟨by omega, by omega⟩, ⟨by omega, by omega⟩, fun h2 eh => ?_⟩
        subst eh
        have := go _ (hS.put (e j)) (hF.si rfl)
        simpa using this
      · cases ho
    · rw [if_pos y] at ho
      split at ho
      · rename_i hlt
        cases ho
        rw [w32_r (x := (st.length : Int) + 1) (by omega) (by omega)]
        refine ⟨⟨by omega, by omega⟩, fun h2 eh => ?_⟩
        subst eh
        have := go _ (hS.put c) (hF.si rfl)
        simpa using this
      · cases ho
theorem c_reckons {W : Bool} {e : Nat → Int} {k : Nat} (hk : k < 2) {cs : List Int} (hL : LawM h 0 k cs) (hne : cs ≠ []) (hw : WT W cs false 64) (hew : ∀ i : Nat, i = 0 ∨ (W = true ∧ 1 ≤ i ∧ i ≤ 3) ∨ (W = false ∧ 4 ≤ i ∧ i ≤ 5) → gi h 253 i = e i) (he : enO e) (hq : ∀ h', fr (frR 252) h h' → Q (some (vI (lawV cs e))) h') : C2 (d + 1) mX11_reckons [vR 247, vI (k : Int)] h Q := by
  obtain ⟨-, f, a2, a3, a4, a5⟩ := hL.2 hne
  simp only [Nat.zero_add] at a2 a3 a5
  exact EX11_reckons fun _ => BX11_reckons_0 (reck_loop hk a2 a3 a4 a5 hew he hw.1 hq cs.length 0 [] h (by omega) (hw.val (Nat.le_refl _) he).1 trivial (fun x hx => by cases hx) (by simp) fr.rf)
/-- the words of the model's laws -/
def frX : Nat → Nat → Prop := fun q _ => q = 252 ∨ q = 253
theorem c_widthM {g : PG} (ok : POK g) (hR : RMp h 0 g) {w ink : Nat} (hw : w < g_W g) (hi : ink ≤ 9) (hq : ∀ h', fr frX h h' → Q (some (vI (widA g ink w))) h') : C2 (d + 2) mX11_widthOf [vR 247, vI (w : Int), vI (ink : Int)] h Q := by
  obtain ⟨-, -, c2, l1, -⟩ := hR
  have ok1 := ok.1
  obtain ⟨t1, t2, t3, t4⟩ := ok.2.2.1 w hw
  obtain ⟨c3, c4⟩ := c2 w hw
  simp only [Nat.zero_add] at c3 c4
  have fin : ∀ (x : Int) (h2 : PH), max 1 (min 200 x) = widA g ink w → fr frX h h2 → T2 (d + 2) mX11_widthOf 72 [none, none, none, none] [vI x] h2 Q := by
    intro x h2 hx hF
    have := hq h2 hF
    rw [← hx] at this
    refine BX11_widthOf_72 ⟨fun z => ⟨fun y => ?_, fun y => ?_⟩, fun z => ?_⟩
    · rwa [show max 1 (min 200 x) = x by omega] at this
    · rwa [show max 1 (min 200 x) = 200 by omega] at this
    · rwa [show max 1 (min 200 x) = 1 by omega] at this
  refine EX11_widthOf fun _ _ => BX11_widthOf_0 (fun h1 e1 => ?_)
  subst e1
  rw [show w32 (31 + (w : Int)) = ((31 + w : Nat) : Int) by rw [w32_r (by omega) (by omega)]; omega, show w32 (61 + (w : Int)) = ((61 + w : Nat) : Int) by rw [w32_r (by omega) (by omega)]; omega]
  simp only [Int.toNat_natCast]
  refine ⟨⟨by omega, by omega⟩, fun h1 e1 h2 e2 => ⟨⟨by omega, by omega⟩, fun h3 e3 => ?_⟩⟩
  subst e1 e2 e3
  simp (disch := omega) only [gi_s0, gi_s1, gi_s2, gj_s0, gj_s1, gj_s2, gi_f0, gi_f1, gj_f0, gj_f1, gr_r0, gr_r1, gr_r2, gi_sj, gi_sr, gj_si, gj_sr, gr_si, gr_sj, gr_stI, gj_stI, gi_stJ, gr_stJ]
  rw [c3, c4]
  have hF : fr frX h (si (si (si (si h 253 0 (ink : Int)) 253 1 (g_lt g w)) 253 2 (w : Int)) 253 3 (g_fi g w)) := (((fr.rf.si (Or.inr rfl)).si (Or.inr rfl)).si (Or.inr rfl)).si (Or.inr rfl)
  have hL1 : LawM (si (si (si (si h 253 0 (ink : Int)) 253 1 (g_lt g w)) 253 2 (w : Int)) 253 3 (g_fi g w)) 0 0 (g_wl g) := l1.keep (by omega) (fun j _ => by simp (disch := omega) only [gi_s0, gi_s1, gi_s2, gj_s0, gj_s1, gj_s2, gi_f0, gi_f1, gj_f0, gj_f1, gr_r0, gr_r1, gr_r2, gi_sj, gi_sr, gj_si, gj_sr, gr_si, gr_sj, gr_stI, gj_stI, gi_stJ, gr_stJ])
  refine ⟨fun z => ⟨⟨by omega, by omega⟩, fin _ _ ?_ hF⟩, fun z => ?_⟩
  · have hnil : g_wl g = [] := by
      cases hc : g_wl g with
      | nil => rfl
      | cons a t => exact absurd ((l1.2 (by rw [hc]; simp)).1) z
    unfold widA; rw [if_pos hnil]
  · have hne : g_wl g ≠ [] := fun e => by have h7 : gi h 248 7 = 0 := l1.1 e; omega
    have hwt := ok.2.2.2.1.resolve_left hne
    refine c_reckons (W := true) (e := eW ink (g_lt g w) w (g_fi g w)) (k := 0) (by omega) hL1 hne hwt (fun i hi => ?_) (enO_W (by omega) (by omega) (by omega) (by omega)) (fun h2 hF2 _ => fin _ h2 ?_ (hF.tr (hF2.mono (fun q k z => Or.inl z))))
    · rcases hi with rfl | ⟨-, u1, u2⟩ | ⟨u, -⟩
      · simp (disch := omega) only [gi_s0, gi_s1, gi_s2, gj_s0, gj_s1, gj_s2, gi_f0, gi_f1, gj_f0, gj_f1, gr_r0, gr_r1, gr_r2, gi_sj, gi_sr, gj_si, gj_sr, gr_si, gr_sj, gr_stI, gj_stI, gi_stJ, gr_stJ]; rfl
      · have : i = 1 ∨ i = 2 ∨ i = 3 := by omega
        rcases this with rfl | rfl | rfl <;> (simp (disch := omega) only [gi_s0, gi_s1, gi_s2, gj_s0, gj_s1, gj_s2, gi_f0, gi_f1, gj_f0, gj_f1, gr_r0, gr_r1, gr_r2, gi_sj, gi_sr, gj_si, gj_sr, gr_si, gr_sj, gr_stI, gj_stI, gi_stJ, gr_stJ]; rfl)
      · cases u
    · unfold widA; rw [if_neg hne]
theorem c_gapM {g : PG} (ok : POK g) (hR : RMp h 0 g) {s l ink : Nat} (hs : s < g_S g) (hl : l < g_ln g) (hi : ink ≤ 9) (h110 : gi h 248 110 = ink) (hq : ∀ h', fr frX h h' → Q (some (vI (gapA g ink s l))) h') : C2 (d + 2) mX11_gapOf [vR 247, vI (s : Int), vI (l : Int)] h Q := by
  obtain ⟨-, -, -, -, l2⟩ := hR
  have ok1 := ok.1
  have fin : ∀ (x : Int) (h2 : PH), max 0 (min 20 x) = gapA g ink s l → fr frX h h2 → T2 (d + 2) mX11_gapOf 47 [none, none, none, none] [vI x] h2 Q := by
    intro x h2 hx hF
    have := hq h2 hF
    rw [← hx] at this
    refine BX11_gapOf_47 ⟨fun z => ⟨fun y => ?_, fun y => ?_⟩, fun z => ?_⟩
    · rwa [show max 0 (min 20 x) = x by omega] at this
    · rwa [show max 0 (min 20 x) = 20 by omega] at this
    · rwa [show max 0 (min 20 x) = 0 by omega] at this
  refine EX11_gapOf fun _ _ => BX11_gapOf_0 (fun h1 e1 h2 e2 h3 e3 => ?_)
  subst e1 e2 e3
  rw [h110]
  have hF : fr frX h (si (si (si h 253 0 (ink : Int)) 253 4 (s : Int)) 253 5 (l : Int)) := ((fr.rf.si (Or.inr rfl)).si (Or.inr rfl)).si (Or.inr rfl)
  have hL2 : LawM (si (si (si h 253 0 (ink : Int)) 253 4 (s : Int)) 253 5 (l : Int)) 0 1 (g_gl g) := l2.keep (by omega) (fun j _ => by simp (disch := omega) only [gi_s0, gi_s1, gi_s2, gj_s0, gj_s1, gj_s2, gi_f0, gi_f1, gj_f0, gj_f1, gr_r0, gr_r1, gr_r2, gi_sj, gi_sr, gj_si, gj_sr, gr_si, gr_sj, gr_stI, gj_stI, gi_stJ, gr_stJ])
  simp (disch := omega) only [gi_s0, gi_s1, gi_s2, gj_s0, gj_s1, gj_s2, gi_f0, gi_f1, gj_f0, gj_f1, gr_r0, gr_r1, gr_r2, gi_sj, gi_sr, gj_si, gj_sr, gr_si, gr_sj, gr_stI, gj_stI, gi_stJ, gr_stJ]
  refine ⟨fun z => fin _ _ ?_ hF, fun z => ?_⟩
  · have hnil : g_gl g = [] := by
      cases hc : g_gl g with
      | nil => rfl
      | cons a t => exact absurd ((l2.2 (by rw [hc]; simp)).1) z
    unfold gapA; rw [if_pos hnil]
  · have hne : g_gl g ≠ [] := fun e => by have h8 : gi h 248 8 = 0 := l2.1 e; omega
    have hwt := ok.2.2.2.2.resolve_left hne
    refine c_reckons (W := false) (e := eG ink s l) (k := 1) (by omega) hL2 hne hwt (fun i hi => ?_) (enO_G (by omega) (by omega) (by omega)) (fun h2 hF2 _ => fin _ h2 ?_ (hF.tr (hF2.mono (fun q k z => Or.inl z))))
    · rcases hi with rfl | ⟨u, -⟩ | ⟨-, u1, u2⟩
      · simp (disch := omega) only [gi_s0, gi_s1, gi_s2, gj_s0, gj_s1, gj_s2, gi_f0, gi_f1, gj_f0, gj_f1, gr_r0, gr_r1, gr_r2, gi_sj, gi_sr, gj_si, gj_sr, gr_si, gr_sj, gr_stI, gj_stI, gi_stJ, gr_stJ]; rfl
      · cases u
      · have : i = 4 ∨ i = 5 := by omega
        rcases this with rfl | rfl <;> (simp (disch := omega) only [gi_s0, gi_s1, gi_s2, gj_s0, gj_s1, gj_s2, gi_f0, gi_f1, gj_f0, gj_f1, gr_r0, gr_r1, gr_r2, gi_sj, gi_sr, gj_si, gj_sr, gr_si, gr_sj, gr_stI, gj_stI, gi_stJ, gr_stJ]; rfl)
    · unfold gapA; rw [if_neg hne]
end
