/-! THE MODEL: page, the call -/
section
variable {d : Nat} {h : PH} {Q : Option PV → PH → Prop}
variable {A : AS}
def frPf : Nat → Nat → Prop := fun q k => (q = 247 ∧ k ≠ 52 ∧ k ≠ 53) ∨ q = 251
theorem frRm_P {q k : Nat} (z : frRm q k) : frPf q k := by unfold frRm frMt at z; unfold frPf; omega
theorem frPf_o {q k : Nat} (z : frPf q k) : frMo q k := by unfold frPf at z; unfold frMo; omega
theorem AOK.uF (ok : AOK A) {k p : Int} : AOK (uF A k p) := ⟨ok.1, ok.2.1, ok.2.2.1, ok.2.2.2.1, ⟨Nat.zero_le _, ok.2.2.2.2.1.2⟩, ok.2.2.2.2.2⟩
theorem RM.newF {h h' : PH} {k p : Int} (X : RM h A) (hF : fr frPf h h') (h5 : gi h' 247 5 = 0) (h13 : gi h' 247 13 = k) (h14 : gi h' 247 14 = p) : RM h' (uF A k p) := by
  obtain ⟨ok, ⟨a1, a2⟩, ⟨b1, b2⟩, c1, d1, ⟨e1, e2⟩, f1, ⟨g1, g2⟩, ⟨i1, i2, i3⟩⟩ := X
  have G : ∀ q k, ¬ frPf q k → gi h' q k = gi h q k := hF.1
  have g248 : ∀ k, gi h' 248 k = gi h 248 k := fun k => G _ _ (by unfold frPf; omega)
  refine ⟨ok.uF, ⟨h5, fun i hi => absurd hi (Nat.not_lt_zero i)⟩, ⟨h13, h14⟩, c1.keep ok.1 (fun j _ _ => g248 _), fun k hk => by rw [g248]; exact d1 k hk, ⟨by rw [g248]; exact e1, fun i hi k hk => by rw [g248]; exact e2 i hi k hk⟩, fun i hi => ⟨fun z => by rw [G _ _ (by unfold frPf; omega)]; exact (f1 i hi).1 z, fun gs z => ?_⟩, ⟨fun i hi => by rw [G _ _ (by unfold frPf; omega), G _ _ (by unfold frPf; omega)]; exact g1 i hi, fun j hj => by rw [hF.2.1 _ _ (by unfold frPf; omega)]; exact g2 j hj⟩, ⟨by rw [G _ _ (by unfold frPf; omega)]; exact i1, by rw [G _ _ (by unfold frPf; omega)]; exact i2, fun j hj => by rw [G _ _ (by unfold frPf; omega), G _ _ (by unfold frPf; omega)]; exact i3 j hj⟩⟩
  obtain ⟨z1, z2, z3⟩ := (f1 i hi).2 gs z
  exact ⟨by rw [G _ _ (by unfold frPf; omega)]; exact z1, z2.keep (ok.im z) (fun j _ _ => g248 _), fun k hk => by rw [g248]; exact z3 k hk⟩
theorem RM.newP {h h' : PH} {g : PG} {st : Nat → Int} (X : RM h A) (hF : fr (fun q k => q = 248 ∧ k < 1213) h h') (p1 : POK g) (p2 : SOK g st) (hg : RMp h' 0 g) (hs : MSt h' st) (h111 : gi h' 248 111 = 0) : RM h' (uP A g st) := by
  obtain ⟨ok, ⟨a1, a2⟩, ⟨b1, b2⟩, c1, d1, -, f1, ⟨g1, g2⟩, ⟨i1, i2, i3⟩⟩ := X
  have G : ∀ q k, ¬ (q = 248 ∧ k < 1213) → gi h' q k = gi h q k := hF.1
  refine ⟨ok.uP p1 p2, ⟨by rw [G _ _ (by omega)]; exact a1, fun i hi => by rw [G _ _ (by omega)]; exact a2 i hi⟩, ⟨by rw [G _ _ (by omega)]; exact b1, by rw [G _ _ (by omega)]; exact b2⟩, hg, hs, ⟨h111, fun i hi => absurd hi (Nat.not_lt_zero i)⟩, fun i hi => ⟨fun z => by rw [G _ _ (by omega)]; exact (f1 i hi).1 z, fun gs z => ?_⟩, ⟨fun i hi => by rw [G _ _ (by omega), G _ _ (by omega)]; exact g1 i hi, fun j hj => by rw [hF.2.1 _ _ (by omega)]; exact g2 j hj⟩, ⟨by rw [G _ _ (by omega)]; exact i1, by rw [G _ _ (by omega)]; exact i2, fun j hj => by rw [G _ _ (by omega), G _ _ (by omega)]; exact i3 j hj⟩⟩
  obtain ⟨z1, z2, z3⟩ := (f1 i hi).2 gs z
  exact ⟨by rw [G _ _ (by omega)]; exact z1, z2.keep (ok.im z) (fun j _ _ => G _ _ (by omega)), fun k hk => by rw [G _ _ (by omega)]; exact z3 k hk⟩
theorem PGf.RMp {h h' : PH} {g : PG} {c : Nat} (ok : POK g) (hc : c ≤ 900) (a : PGf h g c) (e : ∀ k, k < 1213 → gi h' 248 k = gi h 251 k) : RMp h' 0 g := by
  obtain ⟨⟨a0, a1, a2, a3, a4, a5, a6⟩, bb, cc, l1, l2⟩ := a
  have ok1 := ok.1
  have L : ∀ k cs, k < 2 → LawF h k cs c → LawM h' 0 k cs := fun k cs hk l => by
    refine ⟨fun z => by rw [Nat.zero_add, e _ (by omega)]; exact l.1 z, fun z => ?_⟩
    obtain ⟨m1, f, m2, m3, m4, m5⟩ := l.2 z
    exact ⟨by rw [Nat.zero_add, e _ (by omega)]; exact m1, f, by rw [Nat.zero_add, e _ (by omega)]; exact m2, by rw [Nat.zero_add, e _ (by omega)]; exact m3, by omega, fun i hi => by rw [Nat.zero_add, e _ (by omega)]; exact m5 i hi⟩
  refine ⟨⟨?_, ?_, ?_, ?_, ?_, ?_, ?_⟩, fun i hi => ?_, fun w hw => ?_, L 0 _ (by omega) l1, L 1 _ (by omega) l2⟩
  · rw [Nat.zero_add, e _ (by omega)]; exact a0
  · rw [Nat.zero_add, e _ (by omega)]; exact a1
  · rw [Nat.zero_add, e _ (by omega)]; exact a2
  · rw [Nat.zero_add, e _ (by omega)]; exact a3
  · rw [Nat.zero_add, e _ (by omega)]; exact a4
  · rw [Nat.zero_add, e _ (by omega)]; exact a5
  · rw [Nat.zero_add, e _ (by omega)]; exact a6
  · rw [Nat.zero_add, Nat.zero_add, Nat.zero_add, e _ (by omega), e _ (by omega), e _ (by omega)]; exact bb i hi
  · rw [Nat.zero_add, Nat.zero_add, e _ (by omega), e _ (by omega)]; exact cc w hw
theorem n_page (X : RM h A) {x : Int} (hq : ∀ h', RM h' (o_page A x).2 → fr frMo h h' → Q (some (vI (o_page A x).1)) h') : C2 (d + 56) mX11_page [vR 247, vI x] h Q := by
  unfold o_page at hq
  refine EX11_page fun _ => BX11_page_0 (d := d + 55) (fun h1 e1 => ?_)
  obtain ⟨X1, F1⟩ := X.z e1
  obtain ⟨t1, t2⟩ := X1.2.1
  rw [t1]
  refine m_within (fun _ => And.symm ⟨fun z => ?_, fun z => ?_⟩)
  · have hx := if00 z
    rw [if_pos (by omega)] at hq
    exact hq h1 X1 F1
  have hx := if01 z
  rw [if_neg (by omega)] at hq
  obtain ⟨n, hn⟩ := ex_nat hx.1
  subst hn
  simp only [Int.toNat_natCast] at hq
  have o5 := X.1.2.2.2.2.1
  intro h2 e2 h3 e3 h4 e4 h5 e5
  have F5 : fr frPf h1 h5 := by subst e5 e4 e3 e2; exact (((fr.rf.si (by unfold frPf; omega)).si (by unfold frPf; omega)).si (by unfold frPf; omega)).si (by unfold frPf; omega)
  have k5 : gi h5 247 8 = n ∧ gi h5 247 5 = 0 ∧ gi h5 247 7 = 0 ∧ gi h5 247 11 = 0 := by
    subst e5 e4 e3 e2
    refine ⟨?_, ?_, ?_, ?_⟩
    · rw [gi_s2 (by omega), gi_s2 (by omega), gi_s2 (by omega), gi_s0]
    · rw [gi_s2 (by omega), gi_s2 (by omega), gi_s0]
    · rw [gi_s2 (by omega), gi_s0]
    · exact gi_s0
  have T5 : TPm h5 (A_tp A) n := ⟨by omega, o5.2, fun i hi => by rw [F5.1 _ _ (by unfold frPf; omega)]; exact t2 i (by omega), k5.1⟩
  refine n_plain (by decide) (by decide) (fun h6 p6 f6 => ⟨rfl, ?_⟩)
  have F6 : fr frPf h1 h6 := F5.tr (f6.mono (fun q k z => by unfold frPf; omega))
  have g6 : ∀ k, gi h6 247 k = gi h5 247 k := fun k => f6.1 _ _ (by omega)
  have T6 : TPm h6 (A_tp A) n := T5.keep (fun k => f6.1 _ _ (by omega)) (g6 _)
  refine next_0 (d := d + 49) T6 (by rw [g6]; exact k5.2.2.1) (by rw [g6]; exact k5.2.2.2) (fun h7 y7 f7 => ⟨rfl, ?_⟩)
  have T7 := T6.mt f7
  have F7 : fr frPf h1 h7 := F6.tr (f7.mono (fun q k z => frRm_P (frMt_R z)))
  have p7 : ∀ k, k < 1213 → gi h7 251 k = plnV k := fun k hk => by rw [gFm f7 _ _ (by omega)]; exact p6 k hk
  have k7 : gi h7 247 5 = 0 := by rw [f7.1 _ _ (by unfold frMt; omega), g6]; exact k5.2.1
  refine n_head (d := d + 47) T7 y7 ⟨by rw [p7 _ (by omega)]; decide, by rw [p7 _ (by omega)]; decide, by rw [p7 _ (by omega)]; decide, by rw [p7 _ (by omega)]; decide, by rw [p7 _ (by omega)]; decide, by rw [p7 _ (by omega)]; decide, by rw [p7 _ (by omega)]; decide⟩ (fun k hk => ?_) (fun h8 y8 _ f8 => ?_)
  · rw [p7 _ (by omega)]
    unfold plnV st0
    rw [if_neg (by omega), if_neg (by omega), if_neg (by omega), if_neg (by omega)]
    by_cases c : 12 ≤ k ∧ k < 18
    · rw [if_pos (by omega), if_pos c]
    · rw [if_neg (by omega), if_neg c]
  have T8 := T7.rd f8
  have F8 : fr frPf h1 h8 := F7.tr (f8.mono (fun q k z => frRm_P z))
  have k8 : gi h8 247 5 = 0 := by rw [f8.1 _ _ (by unfold frRm frMt; omega)]; exact k7
  have o0 : okU (A_tp A) n (26, 0, 0, 0) := ⟨fun w => by exfalso; have : (26 : Int) ≤ 24 := w.2; omega, Nat.le_refl _, Nat.zero_le _, by decide, fun w => absurd rfl w, fun w => by exfalso; have : (26 : Int) = 25 := w; omega⟩
  refine n_lines (d := d) 900 h8 _ T8 y8 (fun s e => ?_) (fun h9 y9 z9 f9 => ?_)
  · obtain ⟨t, ht, e⟩ := bq_ok e
    exact ⟨head_ok (nxt_okV ht o0).1 e, by omega⟩
  have F9 : fr frPf h1 h9 := F8.tr (f9.mono (fun q k z => frRm_P z))
  have k9 : gi h9 247 5 = 0 := by rw [f9.1 _ _ (by unfold frRm frMt; omega)]; exact k8
  generalize hr : bq (bq (nxt (A_tp A) n (26, 0, 0, 0)) (headP (A_tp A) n)) (linesP (A_tp A) n 900) = r at y9 z9
  have ep : parse (A_tp A) n = bq r fun s => .ok s.2 := by
    subst hr
    unfold parse
    generalize nxt (A_tp A) n (26, 0, 0, 0) = r1
    cases r1 with
    | error e => rfl
    | ok t =>
      simp only [bq_o]
      exact (bq_as _ _ _).symm
  rw [ep] at hq
  refine BX11_page_88 (d := d + 55) (fun h10 e10 => ?_)
  have g10 : ∀ k, k ≠ 13 → gi h10 247 k = gi h9 247 k := fun k z => by subst e10; exact gi_s2 z
  have k13 : gi h10 247 13 = gi h9 247 11 := by subst e10; exact gi_s0
  have F10 : fr frPf h1 h10 := by subst e10; exact F9.si (by unfold frPf; omega)
  cases r with
  | error e =>
    have n9 := z9 e rfl
    have y9' : MT h9 (A_tp A) n (.error e) := y9
    rcases y9' with ⟨m1, m2, m3⟩ | ⟨m1, -⟩
    · refine ⟨fun _ => ?_, fun w => by rw [g10 _ (by omega)] at w; exact absurd w n9⟩
      rw [g10 12 (by omega), m3]
      refine BX11_page_112 (d := d + 55) (fun h11 e11 => ?_)
      have g11 : ∀ k, k ≠ 14 → gi h11 247 k = gi h10 247 k := fun k z => by subst e11; exact gi_s2 z
      have c11 : gi h11 247 11 = e.1 := by rw [g11 _ (by omega), g10 _ (by omega)]; exact m1
      refine ⟨fun w => absurd (c11.symm.trans w) m2, fun _ => ?_⟩
      rw [c11]
      have F11 : fr frPf h1 h11 := by subst e11; exact F10.si (by unfold frPf; omega)
      refine hq h11 (X1.newF F11 ?_ ?_ ?_) (F1.tr (F11.mono (fun q k z => frPf_o z)))
      · rw [g11 _ (by omega), g10 _ (by omega)]; exact k9
      · rw [g11 _ (by omega), k13]; exact m1
      · subst e11; exact gi_s0
    · exact absurd m1 n9
  | ok s =>
    obtain ⟨x0, c, xc, xc2, xP, xS, xN⟩ := id y9
    have c9 : gi h9 247 11 = 0 := x0.2.1
    obtain ⟨p1, p2⟩ := parse_POK (f := A_tp A) (n := n) (r := s.2) (by omega) (by rw [ep]; rfl)
    have tb := x0.1.1.2.1
    have tc := x0.1.1.2.2.1
    refine ⟨fun w => absurd (by rw [g10 _ (by omega)]; exact c9) w, fun _ => ?_⟩
    refine BX11_page_112 (d := d + 55) (fun h11 e11 => ?_)
    have g11 : ∀ k, k ≠ 14 → gi h11 247 k = gi h10 247 k := fun k z => by subst e11; exact gi_s2 z
    have c11 : gi h11 247 11 = 0 := by rw [g11 _ (by omega), g10 _ (by omega)]; exact c9
    have F11 : fr frPf h1 h11 := by subst e11; exact F10.si (by unfold frPf; omega)
    have X11 : RM h11 (uF A 0 (-1)) := X1.newF F11 (by rw [g11 _ (by omega), g10 _ (by omega)]; exact k9) (by rw [g11 _ (by omega), k13]; exact c9) (by subst e11; exact gi_s0)
    have q11 : ∀ k, gi h11 251 k = gi h9 251 k := fun k => by subst e11 e10; rw [gi_s1 (by omega), gi_s1 (by omega)]
    refine ⟨fun _ => ?_, fun w => absurd c11 w⟩
    have loop : ∀ (m j : Nat) (h12 : PH), j + m = 1213 → (∀ k, k < j → gi h12 248 k = gi h9 251 k) → fr (fun q k => q = 248 ∧ k < 1213) h11 h12 → T2 (d + 55 + 1) mX11_page 132 [some (vR 247), none, some (vI (j : Int))] [] h12 Q := by
      intro m
      induction m with
      | zero =>
        intro j h12 hj h3 hF
        refine BX11_page_132 ⟨fun _ => ?_, fun z => by omega⟩
        have e : ∀ k, k < 1213 → gi h12 248 k = gi h9 251 k := fun k hk => h3 k (by omega)
        have := hq h12 (X11.newP hF p1 p2 (xP.RMp p1 (by omega) e) (fun k hk => by rw [e _ (by omega)]; exact xS k hk) (by rw [e _ (by omega)]; exact xN)) ((F1.tr (F11.mono (fun q k z => frPf_o z))).tr (hF.mono (fun q k z => by unfold frMo; omega)))
        rw [e 0 (by omega), xP.1.1]
        exact this
      | succ m ih =>
        intro j h12 hj h3 hF
        refine BX11_page_132 ⟨fun z => by omega, fun _ => ?_⟩
        rw [w32_r (x := (j : Int) + 1) (by omega) (by omega), show (j : Int) + 1 = ((j + 1 : Nat) : Int) by omega]
        try simp only [Int.toNat_natCast]
        refine ⟨⟨by omega, by omega⟩, ⟨by omega, by omega⟩, fun h13 e13 => ?_⟩
        subst e13
        refine ih (j + 1) _ (by omega) (fun k hk => ?_) (hF.si ⟨rfl, by omega⟩)
        by_cases e : k = j
        · rw [e, gi_s0, hF.1 251 _ (by omega), q11]
        · rw [gi_s2 e]; exact h3 k (by omega)
    exact loop 1213 0 h11 (by omega) (fun k hk => absurd hk (Nat.not_lt_zero k)) fr.rf
end
