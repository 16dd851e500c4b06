/-! THE MODEL: deeds -/
theorem MSt.upd {h : PH} {st : Nat → Int} {k : Nat} {v : Int} (a : MSt h st) : MSt (si h 248 (91 + k) v) (upf st k v) := fun j hj => by
  unfold upf
  by_cases e : j = k
  · rw [if_pos e, e, gi_s0]
  · rw [if_neg e, gi_s2 (by omega)]; exact a j hj
section
variable {d : Nat} {h : PH} {Q : Option PV → PH → Prop}
variable {A : AS} {g : PG} {st : Nat → Int}
theorem m_whyMove (X : MG h g st) {s ax b : Int} (hq : Q (some (vI (shiftS g st s ax b).1)) h) : C2 (d + 2) mX11_whyMove [vR 247, vJ s, vJ ax, vJ b] h Q := by
  have ok1 := X.1.1
  unfold shiftS at hq
  refine EX11_whyMove fun _ _ _ => BX11_whyMove_0 (m_isShape X (fun _ => ⟨fun z => ?_, fun z => ?_⟩))
  · have hi := if00 z
    rw [if_pos (by omega)] at hq; exact hq
  have hs := if01 z
  refine m_within (fun _ => ⟨fun y => ?_, fun y => ?_⟩)
  · have hi := if00 y
    rw [if_pos (by omega)] at hq; exact hq
  have ha := if01 y
  refine m_within (fun _ => ⟨fun x => ?_, fun x => ?_⟩)
  · have hb := if01 x
    rw [if_neg (by omega)] at hq
    obtain ⟨n, hn⟩ := ex_nat hs.1
    subst hn
    simp only [Int.toNat_natCast] at hq
    have hn6 : n < 6 := by omega
    have sr := X.2.1.1 n hn6
    rw [w32_r (x := ax) (by omega) (by omega), w32_r (x := (n : Int)) (by omega) (by omega), w32_r (x := 6 * ax) (by omega) (by omega), w32_r (x := 91 + 6 * ax) (by omega) (by omega), w32_r (x := 91 + 6 * ax + (n : Int)) (by omega) (by omega)]
    refine ⟨⟨by omega, by omega⟩, fun v => ?_, fun v => ?_⟩
    · have e1 : ax = 1 := by omega
      subst e1
      rw [if_neg (show ¬ (1 : Int) = 0 by decide), if_neg (show ¬ (1 : Int) = 0 by decide)] at hq
      rw [show (91 + 6 * (1 : Int) + (n : Int)).toNat = 91 + (6 + n) by omega, X.2.2.2 (6 + n) (by omega), w64_of (by omega) (by omega)]
      refine BX11_whyMove_69 (m_within (fun _ => ⟨fun w => ?_, fun w => ?_⟩))
      · have := if00 w
        rw [if_pos (by omega)] at hq; exact hq
      · have := if01 w
        rw [if_neg (by omega)] at hq; exact hq
    · subst v
      rw [if_pos rfl, if_pos rfl, Nat.zero_add] at hq
      rw [show (91 + 6 * (0 : Int) + (n : Int)).toNat = 91 + n by omega, X.2.2.2 n (by omega), w64_of (by omega) (by omega)]
      refine BX11_whyMove_69 (m_within (fun _ => ⟨fun w => ?_, fun w => ?_⟩))
      · have := if00 w
        rw [if_pos (by omega)] at hq; exact hq
      · have := if01 w
        rw [if_neg (by omega)] at hq; exact hq
  · have hi := if00 x
    rw [if_pos (by omega)] at hq; exact hq
theorem shiftS_0 {s ax b : Int} (h : (shiftS g st s ax b).1 = 0) : (0 ≤ s ∧ s < g_S g ∧ 0 ≤ ax ∧ ax ≤ 1 ∧ -100 ≤ b ∧ b ≤ 100) ∧ (shiftS g st s ax b).2 = upf st ((if ax = 0 then 0 else 6) + s.toNat) (st ((if ax = 0 then 0 else 6) + s.toNat) + b) := by
  unfold shiftS at *
  by_cases z : s < 0 ∨ g_S g ≤ s ∨ ax < 0 ∨ 1 < ax ∨ b < -100 ∨ 100 < b
  · rw [if_pos z] at h; exact absurd h (show ¬ (1 : Int) = 0 by decide)
  · rw [if_neg z] at h ⊢
    by_cases y : st ((if ax = 0 then 0 else 6) + s.toNat) + b < 0 ∨ (if ax = 0 then 200 else 400) < st ((if ax = 0 then 0 else 6) + s.toNat) + b
    · rw [if_pos y] at h; exact absurd h (show ¬ (2 : Int) = 0 by decide)
    · rw [if_neg y]; exact ⟨by omega, rfl⟩
theorem n_move (X : RM h A) {s ax b : Int} (hq : ∀ h', RM h' (o_move A s ax b).2 → fr frMo h h' → Q (some (vI (o_move A s ax b).1)) h') : C2 (d + 3) mX11_move [vR 247, vI s, vI ax, vI b] h Q := by
  unfold o_move at hq
  have ok1 := X.1.1.1
  refine EX11_move fun _ _ _ => BX11_move_0 (fun h1 e1 => ?_)
  obtain ⟨X1, F1⟩ := X.z e1
  have rg := shiftS_rg (A_g A) (A_st A) s ax b
  refine m_whyMove X1.mg (fun _ => ⟨fun z => ?_, fun z => ?_⟩)
  · obtain ⟨⟨h1s, h2s, h1a, h2a, h1b, h2b⟩, e2⟩ := shiftS_0 z
    have okS := shiftS_ok X.1.1 X.1.2.1 s ax b
    rw [if_neg (fun e => e z), e2] at hq
    rw [e2] at okS
    obtain ⟨n, hn⟩ := ex_nat h1s
    subst hn
    simp only [Int.toNat_natCast] at hq okS
    have hn6 : n < 6 := by omega
    have sr := X.1.2.1.1 n hn6
    refine m_stores X1.mg.2.2.2 (fun h2 b1 b2 => ⟨rfl, ?_⟩)
    dsimp only
    rw [w32_r (x := 6 * ax) (by omega) (by omega), w32_r (x := 91 + 6 * ax) (by omega) (by omega), w32_r (x := 91 + 6 * ax + (n : Int)) (by omega) (by omega)]
    generalize hK : (if ax = 0 then 0 else 6) + n = K at *
    have hK2 : (91 + 6 * ax + (n : Int)).toNat = 91 + K ∧ K < 12 := by
      rw [← hK]
      by_cases e : ax = 0
      · rw [if_pos e]; omega
      · rw [if_neg e]; omega
    have M2 : MSt h2 (A_st A) := fun k hk => by rw [b2.1 248 _ (by omega)]; exact X1.mg.2.2.2 k hk
    have rK : 0 ≤ A_st A K ∧ A_st A K ≤ 400 := by
      rw [← hK]
      by_cases e : ax = 0
      · rw [if_pos e, Nat.zero_add]; omega
      · rw [if_neg e]; omega
    rw [hK2.1, M2 K (by omega), w32_r (x := A_st A K + b) (by omega) (by omega)]
    refine ⟨⟨by omega, by omega⟩, ⟨by omega, by omega⟩, fun h3 e3 => ?_⟩
    have S3 : MSt h3 (upf (A_st A) K (A_st A K + b)) := by subst e3; exact M2.upd
    have F3 : fr frNs h1 h3 := by subst e3; exact (b2.mono (fun q k z => by unfold frNs frMs; omega)).si (by unfold frNs; omega)
    refine n_note X1 F3 (fun k hk => ?_) S3 (fun k k1 k2 => ?_) okS (fun h4 X4 S4 _ F4 => ⟨rfl, ⟨by omega, by omega⟩, ?_⟩)
    · subst e3; rw [gi_s1 (by omega)]; exact b1 k hk
    · subst e3; rw [gi_s2 (by omega), b2.1 248 _ (by omega)]
    · rw [S4 K (by omega)]
      exact hq h4 X4 (F1.tr F4)
  · rw [if_pos z] at hq
    rw [w32_r (by omega) (by omega)]
    exact hq h1 X1 F1
theorem n_tie (X : RM h A) {s w : Int} (hq : ∀ h', RM h' (o_tie A s w).2 → fr frMo h h' → Q (some (vI (o_tie A s w).1)) h') : C2 (d + 2) mX11_tie [vR 247, vI s, vI w] h Q := by
  unfold o_tie at hq
  have ok1 := X.1.1.1
  refine EX11_tie fun _ _ => BX11_tie_0 (fun h1 e1 => ?_)
  obtain ⟨X1, F1⟩ := X.z e1
  have no : (s < 0 ∨ g_S (A_g A) ≤ s ∨ w < -1 ∨ 30 ≤ w) → Q (some (vI (-11))) h1 := fun e => by
    have e2 : bindS (A_g A) (A_st A) s w = (1, A_st A) := by unfold bindS; rw [if_pos e]
    rw [e2, if_pos (show (1 : Int) ≠ 0 by decide)] at hq
    exact hq h1 X1 F1
  refine m_isShape X1.mg (fun _ => ⟨fun z => no (by have := if00 z; omega), fun z => ?_⟩)
  have hs := if01 z
  refine m_within (fun _ => ⟨fun y => ?_, fun y => no (by have := if00 y; omega)⟩)
  have hw := if01 y
  have e2 : bindS (A_g A) (A_st A) s w = (0, upf (A_st A) (12 + s.toNat) w) := by unfold bindS; rw [if_neg (by omega)]
  have okS := bindS_ok X.1.1 X.1.2.1 s w
  rw [e2, if_neg (fun e => e rfl)] at hq
  rw [e2] at okS
  obtain ⟨n, hn⟩ := ex_nat hs.1
  subst hn
  simp only [Int.toNat_natCast] at hq okS
  refine m_stores X1.mg.2.2.2 (fun h2 b1 b2 => ⟨rfl, ?_⟩)
  dsimp only
  rw [w32a (k := 103) (n := 103) (s := n) rfl (by omega), w32a (k := 12) (n := 12) (s := n) rfl (by omega)]
  try simp only [Int.toNat_natCast]
  rw [show 103 + n = 91 + (12 + n) by omega]
  have M2 : MSt h2 (A_st A) := fun k hk => by rw [b2.1 248 _ (by omega)]; exact X1.mg.2.2.2 k hk
  refine ⟨⟨by omega, by omega⟩, fun h3 e3 => ?_⟩
  have S3 : MSt h3 (upf (A_st A) (12 + n) w) := by subst e3; exact M2.upd
  have F3 : fr frNs h1 h3 := by subst e3; exact (b2.mono (fun q k z => by unfold frNs frMs; omega)).si (by unfold frNs; omega)
  refine n_note X1 F3 (fun k hk => ?_) S3 (fun k k1 k2 => ?_) okS (fun h4 X4 S4 W4 F4 => ⟨rfl, ⟨by omega, by omega⟩, ?_⟩)
  · subst e3; rw [gi_s1 (by omega)]; exact b1 k hk
  · subst e3; rw [gi_s2 (by omega), b2.1 248 _ (by omega)]
  · rw [W4 (12 + n) (by omega)]
    exact hq h4 X4 (F1.tr F4)
theorem n_hide (X : RM h A) {w : Int} (hq : ∀ h', RM h' (o_hide A w).2 → fr frMo h h' → Q (some (vI (o_hide A w).1)) h') : C2 (d + 2) mX11_hide [vR 247, vI w] h Q := by
  unfold o_hide at hq
  have ok1 := X.1.1.1
  refine EX11_hide fun _ => BX11_hide_0 (fun h1 e1 => ?_)
  obtain ⟨X1, F1⟩ := X.z e1
  refine m_isWord X1.mg (fun _ => ⟨fun z => ?_, fun z => ?_⟩)
  · have hs := if01 z
    have e2 : flipS (A_g A) (A_st A) w = (0, upf (A_st A) 18 (ixor (A_st A 18) (ishl 1 w))) := by unfold flipS; rw [if_neg (by omega)]
    have okS := flipS_ok X.1.1 X.1.2.1 w
    rw [e2, if_neg (fun e => e rfl)] at hq
    rw [e2] at okS
    refine m_stores X1.mg.2.2.2 (fun h2 b1 b2 => ⟨rfl, fun h3 e3 => ?_⟩)
    have M2 : MSt h2 (A_st A) := fun k hk => by rw [b2.1 248 _ (by omega)]; exact X1.mg.2.2.2 k hk
    have e18 : gi h2 248 109 = A_st A 18 := M2 18 (by omega)
    rw [e18] at e3
    have S3 : MSt h3 (upf (A_st A) 18 (ixor (A_st A 18) (ishl 1 w))) := by subst e3; exact M2.upd (k := 18)
    have F3 : fr frNs h1 h3 := by subst e3; exact (b2.mono (fun q k z => by unfold frNs frMs; omega)).si (by unfold frNs; omega)
    refine n_note X1 F3 (fun k hk => ?_) S3 (fun k k1 k2 => ?_) okS (fun h4 X4 S4 W4 F4 => ⟨rfl, ?_⟩)
    · subst e3; rw [gi_s1 (by omega)]; exact b1 k hk
    · subst e3; rw [gi_s2 (by omega), b2.1 248 _ (by omega)]
    · have s4 : gi h4 248 109 = upf (A_st A) 18 (ixor (A_st A 18) (ishl 1 w)) 18 := S4 18 (by omega)
      have hq4 := hq h4 X4 (F1.tr F4)
      obtain ⟨n, hn⟩ := ex_nat hs.1
      subst hn
      dsimp only
      rw [s4]
      simp only [Int.toNat_natCast] at hq4
      refine c_isIn (by omega) (fun _ => ⟨fun x => ?_, fun x => ?_⟩)
      · cases hb : bit (upf (A_st A) 18 (ixor (A_st A 18) (ishl 1 (n : Int))) 18) n with
        | true => rw [if_pos hb] at x; exact absurd x (by decide)
        | false => rw [if_neg (by rw [hb]; decide)] at hq4; exact hq4
      · cases hb : bit (upf (A_st A) 18 (ixor (A_st A 18) (ishl 1 (n : Int))) 18) n with
        | true => rw [if_pos hb] at hq4; exact hq4
        | false => rw [if_neg (by rw [hb]; decide)] at x; exact absurd rfl x
  · have hs := if00 z
    have e2 : flipS (A_g A) (A_st A) w = (1, A_st A) := by unfold flipS; rw [if_pos (by omega)]
    rw [e2, if_pos (show (1 : Int) ≠ 0 by decide)] at hq
    exact hq h1 X1 F1
theorem n_ink (X : RM h A) {n : Int} (hq : ∀ h', RM h' (o_ink A n).2 → fr frMo h h' → Q (some (vI (o_ink A n).1)) h') : C2 (d + 1) mX11_ink [vR 247, vI n] h Q := by
  unfold o_ink at hq
  refine EX11_ink fun _ => BX11_ink_0 (fun h1 e1 => ?_)
  obtain ⟨X1, F1⟩ := X.z e1
  refine m_within (fun _ => ⟨fun z => ?_, fun z => ?_⟩)
  · have hs := if01 z
    have e2 : dyeS (A_st A) n = (0, upf (A_st A) 19 n) := by unfold dyeS; rw [if_neg (by omega)]
    have okS := dyeS_ok X.1.2.1 n
    rw [e2, if_neg (fun e => e rfl)] at hq
    rw [e2] at okS
    refine m_stores X1.mg.2.2.2 (fun h2 b1 b2 => ⟨rfl, fun h3 e3 => ?_⟩)
    have M2 : MSt h2 (A_st A) := fun k hk => by rw [b2.1 248 _ (by omega)]; exact X1.mg.2.2.2 k hk
    have S3 : MSt h3 (upf (A_st A) 19 n) := by subst e3; exact M2.upd (k := 19)
    have F3 : fr frNs h1 h3 := by subst e3; exact (b2.mono (fun q k z => by unfold frNs frMs; omega)).si (by unfold frNs; omega)
    refine n_note X1 F3 (fun k hk => ?_) S3 (fun k k1 k2 => ?_) okS (fun h4 X4 S4 W4 F4 => ⟨rfl, ?_⟩)
    · subst e3; rw [gi_s1 (by omega)]; exact b1 k hk
    · subst e3; rw [gi_s2 (by omega), b2.1 248 _ (by omega)]
    · dsimp only
      rw [W4 19 (by omega)]
      exact hq h4 X4 (F1.tr F4)
  · have hs := if00 z
    have e2 : dyeS (A_st A) n = (1, A_st A) := by unfold dyeS; rw [if_pos (by omega)]
    rw [e2, if_pos (show (1 : Int) ≠ 0 by decide)] at hq
    exact hq h1 X1 F1
theorem n_undo (X : RM h A) {n : Int} (hq : ∀ h', RM h' (o_undo A n).2 → fr frMo h h' → Q (some (vI (o_undo A n).1)) h') : C2 (d + 1) mX11_undo [vR 247, vI n] h Q := by
  unfold o_undo at hq
  have hl := X.1.2.2.1.2
  refine EX11_undo fun _ => BX11_undo_0 (fun h1 e1 => ?_)
  obtain ⟨X1, F1⟩ := X.z e1
  have p := X1.2.2.2.2.2.1
  refine m_within (fun _ => ⟨fun z => ?_, fun z => ?_⟩)
  · have hn := if00 z
    rw [if_pos (by omega)] at hq
    exact hq h1 X1 F1
  have hn := if01 z
  rw [p.1]
  refine ⟨fun y => ?_, fun y => ?_⟩
  · rw [if_neg (by omega)] at hq
    obtain ⟨m, hm⟩ := ex_nat (show 0 ≤ n by omega)
    subst hm
    simp only [Int.toNat_natCast] at hq
    intro h2 e2
    rw [w32_r (by omega) (by omega)] at e2
    have g2 : gi h2 248 111 = (((A_pa A).length - m : Nat) : Int) := by subst e2; rw [gi_s0]; omega
    have F2 : fr frNs h1 h2 := by subst e2; exact fr.rf.si (by unfold frNs; omega)
    have loop : ∀ (j k : Nat) (h3 : PH), k + j = 20 → (∀ i, i < k → gi h3 248 (91 + i) = (A_pa A).getD (m - 1) (fun _ => 0) i) → fr (fun q i => q = 248 ∧ 91 ≤ i ∧ i < 111) h2 h3 → T2 (d + 1) mX11_undo 44 [some (vR 247), none, some (vI (k : Int))] [] h3 Q := by
      intro j
      induction j with
      | zero =>
        intro k h3 hk h4 hF
        refine BX11_undo_44 ⟨fun _ => ?_, fun z => by omega⟩
        rw [hF.1 248 111 (by omega), g2]
        have F3 : fr frNs h1 h3 := F2.tr (hF.mono (fun q k z => by unfold frNs; omega))
        have := hq h3 (X1.newSt F3 (X.1.uS ?_ (fun s hs => X.1.2.2.1.1 s (List.mem_of_mem_drop hs)) (by rw [List.length_drop]; omega)) (fun k' hk' => h4 k' (by omega)) ⟨?_, fun i hi k' hk' => ?_⟩) (F1.tr (F3.mono (fun q k z => frNs_o z)))
        · rw [show (((A_pa A).length - m : Nat) : Int) = ((A_pa A).length : Int) - m by omega]; exact this
        · refine X.1.2.2.1.1 _ ?_
          rw [List.getD_eq_getElem?_getD, List.getElem?_eq_getElem (by omega)]
          exact List.getElem_mem _
        · rw [hF.1 248 111 (by omega), g2, List.length_drop]
        · rw [List.length_drop] at hi ⊢
          have := p.2 (m + i) (by omega) k' hk'
          rw [hF.1 248 _ (by omega)]
          have e3 : gi h2 248 (112 + 20 * ((A_pa A).length - m - 1 - i) + k') = gi h1 248 (112 + 20 * ((A_pa A).length - m - 1 - i) + k') := by subst e2; exact gi_s2 (by omega)
          rw [e3, show (A_pa A).length - m - 1 - i = (A_pa A).length - 1 - (m + i) by omega, this, List.getD_eq_getElem?_getD, List.getD_eq_getElem?_getD, List.getElem?_drop]
      | succ j ih =>
        intro k h3 hk h4 hF
        refine BX11_undo_44 ⟨fun z => by omega, fun _ => ?_⟩
        rw [hF.1 248 111 (by omega), g2, w32_r (x := 20 * (((A_pa A).length - m : Nat) : Int)) (by omega) (by omega), w32_r (x := 112 + 20 * (((A_pa A).length - m : Nat) : Int)) (by omega) (by omega), w32_r (x := 112 + 20 * (((A_pa A).length - m : Nat) : Int) + (k : Int)) (by omega) (by omega), w32_r (x := (k : Int) + 1) (by omega) (by omega), show (k : Int) + 1 = ((k + 1 : Nat) : Int) by omega, show 112 + 20 * (((A_pa A).length - m : Nat) : Int) + (k : Int) = ((112 + 20 * ((A_pa A).length - m) + k : Nat) : Int) by omega, w32a (k := 91) (n := 91) (s := k) rfl (by omega)]
        try simp only [Int.toNat_natCast]
        refine ⟨⟨by omega, by omega⟩, ⟨by omega, by omega⟩, fun h5 e5 => ?_⟩
        have v : gi h3 248 (112 + 20 * ((A_pa A).length - m) + k) = (A_pa A).getD (m - 1) (fun _ => 0) k := by
          rw [hF.1 248 _ (by omega)]
          have e3 : gi h2 248 (112 + 20 * ((A_pa A).length - m) + k) = gi h1 248 (112 + 20 * ((A_pa A).length - m) + k) := by subst e2; exact gi_s2 (by omega)
          have := p.2 (m - 1) (by omega) k (by omega)
          rw [e3, ← this, show (A_pa A).length - 1 - (m - 1) = (A_pa A).length - m by omega]
        subst e5
        rw [v]
        refine ih (k + 1) _ (by omega) (fun i hi => ?_) (hF.si ⟨rfl, by omega, by omega⟩)
        by_cases e : i = k
        · rw [e, gi_s0]
        · rw [gi_s2 (by omega)]; exact h4 i (by omega)
    exact loop 20 0 h2 (by omega) (fun i hi => absurd hi (Nat.not_lt_zero i)) fr.rf
  · rw [if_pos (by omega)] at hq
    exact hq h1 X1 F1
end
