/-! THE CLASS: tight, asked -/
section
variable {d : Nat} {h : PH} {Q : Option PV → PH → Prop}
variable {A : AS} {a : Nat} {pt : Nat → PG}
theorem pw_loop (X : RCa h A a pt) (N : NW h A a) (hq : ∀ h', (∀ i, i < c_n (aC A) → gi h' 120 i = apw A i) → fr (fun q _ => q = 120) h h' → Q (some (vI ((c_n (aC A) : Nat) : Int))) h') :
    ∀ (m w : Nat) (n : Nat) (h1 : PH), w + m = g_W (A_g A) → (n : Int) = cpL (c_sl (aC A)) w → (∀ i, i < n → gi h1 120 i = apw A i) → fr (fun q _ => q = 120) h h1 → T2 (d + 1) mX6_placedWides 4 [some (vR 219), some (vR 120), some (vI (n : Int)), some (vI (w : Int))] [] h1 Q := by
  obtain ⟨okg, oks, hR, hS, pc, pu, pl⟩ := X.okg
  have o1 := okg.1
  have o5 := oks.2.2.2.2
  obtain ⟨m1, m2, m3, m4, m5⟩ := N.po
  have hI : gi h 67 4 = ((A_st A 19).toNat : Int) := by rw [hS.inkv]; omega
  intro m
  induction m with
  | zero =>
    intro w n h1 hw hn hP F
    have ek : ∀ q k, q ≠ 120 → gi h1 q k = gi h q k := fun q k z => F.1 q k z
    have g0 : gr h1 219 0 = pg a := by rw [F.2.2 219 0 (by omega)]; exact N.1.2.1.1
    refine BX6_placedWides_4 cl219 (by decide) ?_
    rw [g0, ek _ _ (by omega), hR.1.2.2.2.2.2.2]
    refine ⟨fun _ => ?_, fun z => by omega⟩
    have aN := aN_eq A
    have en : n = c_n (aC A) := by rw [show w = g_W (A_g A) by omega] at hn; omega
    rw [en] at hP ⊢
    exact hq h1 hP F
  | succ m ih =>
    intro w n h1 hw hn hP F
    have ek : ∀ q k, q ≠ 120 → gi h1 q k = gi h q k := fun q k z => F.1 q k z
    have g0 : gr h1 219 0 = pg a := by rw [F.2.2 219 0 (by omega)]; exact N.1.2.1.1
    have g1 : gr h1 219 1 = 67 := by rw [F.2.2 219 1 (by omega)]; exact N.1.2.1.2.1
    have cr := sumF_rg (f := fun j => if 0 ≤ c_sl (aC A) j then 1 else 0) (M := 1) (fun n => by split <;> omega) w
    have er : cpL (c_sl (aC A)) w = sumF (fun j => if 0 ≤ c_sl (aC A) j then 1 else 0) w := rfl
    have e120 : ((LNf 120 : Nat) : Int) = 30 := rfl
    refine BX6_placedWides_4 cl219 (by decide) ?_
    rw [g0, g1, ek _ _ (by omega), hR.1.2.2.2.2.2.2, e120]
    refine ⟨fun z => by omega, fun _ => ⟨fun z => by omega, fun _ => ⟨⟨by omega, by omega⟩, ?_⟩⟩⟩
    try simp only [Int.toNat_natCast]
    rw [ek _ _ (by omega), (m5.1 w (by omega)).1]
    have esl : (aC A).2.2.2.1 w = c_sl (aC A) w := rfl
    rw [esl, w32_r (x := (w : Int) + 1) (by omega) (by omega), show ((w : Int) + 1) = ((w + 1 : Nat) : Int) by omega]
    refine ⟨fun z => ?_, fun z => ?_⟩
    · have cpw : cpL (c_sl (aC A)) (w + 1) = cpL (c_sl (aC A)) w := by
        show cpL _ w + (if 0 ≤ c_sl (aC A) w then 1 else 0) = _; rw [if_neg (by omega)]; omega
      exact ih (w + 1) n h1 (by omega) (by rw [cpw]; exact hn) hP F
    · have cpw : cpL (c_sl (aC A)) (w + 1) = cpL (c_sl (aC A)) w + 1 := by
        show cpL _ w + (if 0 ≤ c_sl (aC A) w then 1 else 0) = _; rw [if_pos z]
      have ewd : gi h (pg a + 18) ((A_st A 19).toNat * 30 + w) = widA (A_g A) (A_st A 19).toNat w := N.1.2.2.1.2.2.2.1 w (by show w < g_W (A_g A); omega)
      rw [ek _ _ (by omega), hI]
      refine c_wideOf pc (by omega) (by omega) (fun _ => ⟨⟨by omega, by omega⟩, fun h2 e2 => ?_⟩)
      subst e2
      try simp only [Int.toNat_natCast]
      rw [ek _ _ (by omega), ewd, w32_r (by omega) (by omega), show ((n : Int) + 1) = ((n + 1 : Nat) : Int) by omega]
      refine ih (w + 1) (n + 1) _ (by omega) (by rw [cpw]; omega) (fun i hi => ?_) (F.si rfl)
      by_cases e : i = n
      · rw [e, gi_s0, ← apw_at (by omega) z, show (cpL (c_sl (aC A)) w).toNat = n by omega]
      · rw [gi_s2 e]; exact hP i (by omega)
theorem c_find (X : RCa h A a pt) (N : NW h A a) (hq : ∀ h', RCa h' A a pt → (∃ h1, EM h1 (c_n (aC A)) (tD A (aS A).length (c_n (aC A))) ∧ gi h' 119 3 = gi h1 121 (c_n (aC A)) ∧ gj h' 119 4 = gj h1 122 (c_n (aC A))) → fr (frZ (pg a)) h h' → Q none h') : C2 (d + 3) mX0_find [vR 119, vR 219] h Q := by
  obtain ⟨okg, oks, hR, hS, pc, pu, pl⟩ := X.okg
  have hn := aN_le okg
  have hl := aS_len X
  obtain ⟨m1, m2, m3, m4, m5⟩ := N.po
  refine EX0_find (BX0_find_0 cl219 (EX6_placedWides (BX6_placedWides_0 cl219 (by decide) (pw_loop X N (fun h1 b1 b2 _ => ?_) (g_W (A_g A)) 0 0 h (by omega) rfl (fun i hi => by omega) fr.rf))))
  refine c_fillI (by decide) ⟨rfl, c_fillJ (by decide) ⟨rfl, fun h2 e2 h3 e3 => ?_⟩⟩
  have z0 : EM h3 0 (tD A 0 0) := by
    subst e2 e3
    exact ⟨by rw [gi_sj, gi_s0], gj_s0⟩
  have zs : ∀ e, 0 < e → e < 31 → EM h3 e (tD A 0 e) := fun e h1 h2 => by
    have et : tD A 0 e = none := by show (if e = 0 then _ else _) = _; rw [if_neg (by omega)]
    rw [et]
    subst e2 e3
    refine ⟨?_, ?_⟩
    · rw [gi_sj, gi_s2 (by omega), gi_stJ, gi_f0, if_pos (by rw [nL_121]; omega)]
    · rw [gj_s2 (by omega), gj_si, gj_f0, if_pos (by rw [nL_122]; omega)]
  have F3 : fr (fun q _ => 119 ≤ q ∧ q ≤ 122) h h3 := by
    subst e2 e3
    have Fa : ∀ (g : PH) (f : Nat → Int), fr (fun q _ => 119 ≤ q ∧ q ≤ 122) g (stI g 121 f) := fun g f => ⟨fun q k z => gi_f1 (by omega), fun q k z => rfl, fun q k z => rfl⟩
    have Fb : ∀ (g : PH) (f : Nat → Int), fr (fun q _ => 119 ≤ q ∧ q ≤ 122) g (stJ g 122 f) := fun g f => ⟨fun q k z => rfl, fun q k z => gj_f1 (by omega), fun q k z => rfl⟩
    have Fc : fr (fun q _ => 119 ≤ q ∧ q ≤ 122) h h1 := b2.mono (fun q k z => by omega)
    exact (((Fc.tr (Fa h1 _)).tr (Fb _ _)).si (by omega)).sj (by omega)
  have k120 : ∀ i, gi h3 120 i = gi h1 120 i := fun i => by
    subst e2 e3
    rw [gi_sj, gi_s1 (by omega), gi_stJ, gi_f1 (by omega)]
  have T3 : TE h3 A := by
    refine ⟨⟨by rw [F3.1 _ _ (by omega)]; exact m3.1, fun k hk => ?_⟩, fun i hi => by rw [k120]; exact b1 i hi⟩
    rw [F3.1 _ _ (by omega), F3.1 _ _ (by omega), F3.1 _ _ (by omega)]; exact m3.2 k hk
  refine slots_loop2 (h := h3) okg hl hn (fun h4 E4 FQ => ?_) (aS A).length 0 h3 (by omega) T3 (fun e he => ?_) fr.rf
  · have FF : fr (frZ (pg a)) h (sj (si h4 119 3 (gi h4 121 (c_n (aC A)))) 119 4 (gj h4 122 (c_n (aC A)))) := by
      refine (((F3.mono (fun q k z => ?_)).tr (FQ.mono (fun q k z => ?_))).si ?_).sj ?_
      · unfold frZ; omega
      · unfold frBr at z; unfold frZ; omega
      · unfold frZ; omega
      · unfold frZ; omega
    have kk : ∀ q k, 123 ≤ q → gi (sj (si h4 119 3 (gi h4 121 (c_n (aC A)))) 119 4 (gj h4 122 (c_n (aC A)))) q k = gi h q k := fun q k z => by
      rw [gi_sj, gi_s1 (by omega), FQ.1 _ _ (by unfold frBr; omega), F3.1 _ _ (by omega)]
    refine hq _ (X.keepZ FF ?_ (knw.eq (kk _ _ (by omega)) (kk _ _ (by omega)))) ⟨h4, E4, by rw [gi_sj, gi_s0], by rw [gj_s0]⟩ FF
    rw [X.2.1.2.2]
    exact hR.keep (fun q k z1 z2 => kk _ _ (by omega))
  · by_cases z : e = 0
    · rw [z]; exact z0
    · exact zs e (by omega) (by omega)
theorem k_tight (X : RC h A) (hq : ∀ h', RC h' A → fr frCl h h' → Q (some (vI (r_tight A))) h') : C2 (d + 6) mX10_tight [vR 64] h Q := by
  obtain ⟨a, pt, X⟩ := X
  obtain ⟨-, -, -, -, pc, pu, pl⟩ := X.okg
  unfold r_tight at hq
  refine EX10_tight (BX10_tight_0 (c_setting X (fun h1 X1 N1 F1 => ⟨cl219, ?_⟩)))
  have en : gi h1 219 9 = ((c_n (aC A) : Nat) : Int) := N1.po.2.2.2.2.2.2.2.2.1
  rw [en]
  refine ⟨fun z => c_find X1 N1 (fun h2 X2 E2 F2 => ⟨rfl, ?_⟩), fun z => ?_⟩
  · obtain ⟨h3, E3, e1, e2⟩ := E2
    have h4 := hq h2 ⟨a, pt, X2⟩ (F1.tr (fr_C1 pu F2))
    rw [if_neg (by omega)] at h4
    rw [e1]
    cases ht : tD A (aS A).length (c_n (aC A)) with
    | none => rw [ht] at h4 E3; rw [E3.1]; exact h4
    | some p => rw [ht] at h4 E3; rw [E3.1]; exact h4
  · have h4 := hq h1 ⟨a, pt, X1⟩ F1
    rw [if_pos (by omega)] at h4; exact h4
theorem k_tightWays (X : RC h A) (hq : ∀ h', RC h' A → fr frCl h h' → Q (some (vJ (r_tightWays A))) h') : C2 (d + 6) mX10_tightWays [vR 64] h Q := by
  obtain ⟨a, pt, X⟩ := X
  obtain ⟨-, -, -, -, pc, pu, pl⟩ := X.okg
  unfold r_tightWays at hq
  refine EX10_tightWays (BX10_tightWays_0 (c_setting X (fun h1 X1 N1 F1 => ⟨cl219, ?_⟩)))
  have en : gi h1 219 9 = ((c_n (aC A) : Nat) : Int) := N1.po.2.2.2.2.2.2.2.2.1
  rw [en]
  refine ⟨fun z => c_find X1 N1 (fun h2 X2 E2 F2 => ⟨rfl, ?_⟩), fun z => ?_⟩
  · obtain ⟨h3, E3, e1, e2⟩ := E2
    have h4 := hq h2 ⟨a, pt, X2⟩ (F1.tr (fr_C1 pu F2))
    rw [if_neg (by omega)] at h4
    rw [e2]
    cases ht : tD A (aS A).length (c_n (aC A)) with
    | none => rw [ht] at h4 E3; rw [E3.2]; exact h4
    | some p => rw [ht] at h4 E3; rw [E3.2]; exact h4
  · have h4 := hq h1 ⟨a, pt, X1⟩ F1
    rw [if_pos (by omega)] at h4; exact h4
end
